/-! ROW -/
theorem p4 (n : Nat) : (2 : Int) ^ (2 * (n : Int)).toNat = ((4 ^ n : Nat) : Int) := by
  have h1 : (2 * (n : Int)).toNat = 2 * n := by omega
  have h2 : ((2 : Int) ^ (2 * n)) = ((2 ^ (2 * n) : Nat) : Int) := by push_cast; rfl
  rw [h1, h2, Nat.pow_mul, show (2 : Nat) ^ 2 = 4 from rfl]
theorem p4_pos : ∀ n : Nat, 1 ≤ 4 ^ n := by
  intro n
  induction n with
  | zero => exact Nat.le_refl 1
  | succ n ih => rw [Nat.pow_succ]; omega
theorem dg_z (code k : Nat) (hc : code < 4096) : z_and ((code : Int) / 2 ^ (2 * (k : Int)).toNat) 3 = dg code k := by
  have h1 : (code : Int) / ((4 ^ k : Nat) : Int) = ((code / 4 ^ k : Nat) : Int) := rfl
  have hlt : code / 4 ^ k < 4096 := Nat.lt_of_le_of_lt (Nat.div_le_self _ _) hc
  have hq0 : (0 : Int) ≤ ((code / 4 ^ k : Nat) : Int) := Int.natCast_nonneg _
  rw [p4, h1, z_and_3 (by omega)]
  rfl
theorem p4_le {n : Nat} (h : n ≤ 6) : 4 ^ n ≤ 4096 := Nat.pow_le_pow_right (by decide) h
theorem rAt_eq {w : zW} {i j e : Int} {Cs : List clau} {F G : Int → Int} {code : Nat} (hh : 0 ≤ w 9 i 2 ∧ w 9 i 2 < 144) (h : eqR F G) : ∀ k, rEq (rAt w i j Cs F e code k) (rAt w i j Cs G e code k) := by
  intro k
  induction k with
  | zero =>
    refine ⟨zh_eqR h, ?_⟩
    show (e, od F (w 9 i 2), (0 : Int)) = (e, od G (w 9 i 2), 0)
    rw [od_eqR h hh.1 hh.2]
  | succ k ih => exact rStep_eq hh ih
theorem s_row_9 {d : Nat} {i j e : Int} {n code : Nat} {what : Int} {w : zW} {Cs : List clau} {F : Int → Int} (hN : EN w i j Cs) (hh : 0 ≤ w 9 i 2 ∧ w 9 i 2 < 144) (hF : wO0 (opw w i) F) (he : 0 ≤ e ∧ e ≤ 30) (hn : n ≤ 6) (hc : code < 4096) (hw : what = 0 ∨ what = 1) : ∀ (m k : Nat) (w1 : zW), k + m = n → z_fr rC w w1 → (∀ q, q < 6 → w1 4 q = w 4 q ∧ w1 19 q = w 19 q) → EN w1 i j Cs → LV w1 k (rAt w i j Cs F e code k) →
    ∃ w2, D_row_9 (d + 6) n code what k w1 = some (if what = 0 then (rAt w i j Cs F e code n).2.2.1 else (rAt w i j Cs F e code n).2.2.2, w2) ∧ z_fr rC w w2 ∧ (∀ q, q < 6 → w2 4 q = w 4 q ∧ w2 19 q = w 19 q) ∧ EN w2 i j Cs := by
  intro m
  induction m with
  | zero =>
    intro k w1 hk hf ho hN1 hL
    have hkn : k = n := by omega
    subst hkn
    refine ⟨w1, ?_, hf, ho, hN1⟩
    rw [e_D_row_9, if_pos (by omega)]
    rcases hw with q | q
    · rw [if_pos q, if_pos q, gd_t (by omega), hL.1.2.2.1]
    · rw [if_neg (by omega), if_neg (by omega), gd_t (by omega), hL.1.2.2.2]
  | succ m ih =>
    intro k w1 hk hf ho hN1 hL
    have e1 := rC_e hf
    have h9 : w1 9 i 2 = w 9 i 2 := by rw [e1 9 (by decide)]
    obtain ⟨w2, q1, q2, q3, q4, q5⟩ := s_rowsStep (d := d) (l := k) (act := dg code k) (w := w1) (s := rAt w i j Cs F e code k) (by omega) (dg_bd code k) hN1 (by rw [h9]; exact hh) (rOK_e e1 (rAt_OK hN hh hF he k)) hL
    rw [rStep_e e1] at q5
    obtain ⟨w3, r1, r2, r3, r4⟩ := ih (k + 1) w2 (by omega) (fr_tr hf q2) (fun q hq => ⟨(q3.1 q (by omega)).1.trans (ho q hq).1, (q3.1 q (by omega)).2.trans (ho q hq).2⟩) q4 q5
    refine ⟨w3, ?_, r2, r3, r4⟩
    rw [e_D_row_9, if_neg (by omega), gd_t (by omega), gd_t (by omega), dg_z code k hc, q1, bnd]
    dsimp only
    rw [gd_t (by omega)]
    exact r1
theorem Sim_rows {LS RX : Int → List clau} {w w1 w2 : zW} {i j : Int} {Cs : List clau} (hS : Sim LS RX w) (h1 : z_fr rC w w1) (ho : ∀ q, q < 6 → w1 4 q = w 4 q ∧ w1 19 q = w 19 q) (hN : EN w1 i j Cs) (hi : w 7 0 0 = i) (hL : LS (w 7 0 1) = Cs) (h2 : mF mrC mrT w1 w2) : Sim LS RX w2 := by
  refine Sim_ask (fun c hc => ?_) (fun s hs => ?_) ?_ (fun _ => ?_) hS
  · rw [h2.1 c (by revert hc; revert c; decide) (by revert hc; revert c; decide)]
    exact h1 c (by revert hc; revert c; decide)
  · rw [h2.1 4 (by decide) (by decide), h2.1 19 (by decide) (by decide)]
    exact ho s (by omega)
  · rw [h2.2 1 (by decide), h1 11 (by decide)]
  · rw [hi, hL]
    exact RC_fr (sameE_m h2 (by decide)) (h2.1 26 (by decide) (by decide)) (h2.1 27 (by decide) (by decide)) hN.2.2.2.2.2.2.2.2.2
theorem m_isCode {d n : Nat} {c : Int} {w : zW} (h : n ≤ 6) : M_isCode d n c w = some (if 0 ≤ c ∧ c < ((4 ^ n : Nat) : Int) then 1 else 0, w) := by
  have := p4_le h
  have := p4_pos n
  rw [e_M_isCode]
  by_cases h1 : c < 0
  · rw [if_pos h1, if_neg (by omega), gd_t (by decide)]
  · rw [if_neg h1, gd_t (by omega), p4, gd_t (by omega)]
    by_cases h2 : 1 * ((4 ^ n : Nat) : Int) ≤ c
    · rw [if_pos h2, if_neg (by omega), gd_t (by decide)]
    · rw [if_neg h2, if_pos (by omega), gd_t (by decide)]
theorem p_row {LS RX : Int → List clau} {w : zW} {d : Nat} (hS : Sim LS RX w) (a1 a2 a3 : Int) : ∃ r w1 w2, D_row (d + 12) a1 a2 a3 w = some (r, w1) ∧ M_row (d + 12) a1 a2 a3 w1 = some (r, w2) ∧ Sim LS RX w2 := by
  rcases hS.bgn with ⟨b1, b2, -⟩ | ⟨hb, hB, hE⟩
  · refine ⟨-1, w, w, ?_, ?_, hS⟩
    · rw [e_D_row, if_pos b1]
    · rw [e_M_row, m_isWalk, bnd, if_pos b2, if_pos rfl]
  have hnw : ¬ w 70 0 0 = -1 := by have := hB.2.1.2.1; omega
  by_cases h1 : 1 ≤ a1 ∧ a1 ≤ 6
  · obtain ⟨n, rfl⟩ : ∃ n : Nat, a1 = n := ⟨a1.toNat, by omega⟩
    have hp := p4_le (n := n) (by omega)
    have hp1 := p4_pos n
    by_cases h2 : 0 ≤ a2 ∧ a2 < ((4 ^ n : Nat) : Int)
    · obtain ⟨code, rfl⟩ : ∃ c : Nat, a2 = c := ⟨a2.toNat, by omega⟩
      by_cases h3 : a3 = 0 ∨ a3 = 1
      · have hh := hE.2.1.home.1
        have hwt := hB.wt
        have hi : w 70 0 0 = w 7 0 0 := hE.2.2.2.1.1
        have hF0 : wO0 (opw w (w 7 0 0)) (w 19 0) := by
          rw [← hi]
          exact hB.2.2.2.2.2.2.2.2.2.1.w0
        obtain ⟨b1, b2, b3, b4, b5, b6, b7, b8, b9, b10, b11⟩ := hB
        obtain ⟨w1, p1, p2, p3, p4', p5⟩ := s_rowsBegin (d := d + 8) (o := 0) (by omega) hE.1 hh hF0 (by omega) (by omega)
        obtain ⟨w2, q1, q2, q3, q4⟩ := s_row_9 (d := d + 6) (n := n) (code := code) (what := a3) (e := w 4 0 3) (F := w 19 0) hE.1 hh hF0 (by omega) (by omega) (by omega) h3 n 0 w1 (by omega) p2 (fun q hq => p3.1 q (by omega)) p4' p5
        have ee := rC_e q2
        have h70 : w2 70 = w 70 := q2 70 (by decide)
        have hE2 : ENV w2 (w 7 0 0) (w 7 0 1) (LS (w 7 0 1)) := ⟨q4, RW_fr (fun c hc => q2 c (by revert hc; revert c; decide)) hE.2.1, Rlw_fr (fun c hc => q2 c (by revert hc; revert c; decide)) hE.2.2.1, by rw [h70]; exact hE.2.2.2.1, hE.2.2.2.2⟩
        have hwM : wtM w2 70 6 = wtM w 70 6 := by unfold wtM; rw [h70]
        obtain ⟨w3, r1, r2, r3⟩ := m_goesRow (d := d + 6) (n := n) (code := code) hE2 (by omega) (by rw [hwM, opw_e ee, ← hi]; exact hwt.2.w0) (by rw [h70]; omega) (by omega)
        rw [hwM, h70, rAt_e ee] at r3
        have hq := rAt_eq (w := w) (i := w 7 0 0) (j := w 7 0 1) (Cs := LS (w 7 0 1)) (e := w 70 0 5) (code := code) hh hwt.1 n
        rw [b8.1] at q1
        refine ⟨if a3 = 0 then (rAt w (w 7 0 0) (w 7 0 1) (LS (w 7 0 1)) (w 19 0) (w 70 0 5) code n).2.2.1 else (rAt w (w 7 0 0) (w 7 0 1) (LS (w 7 0 1)) (w 19 0) (w 70 0 5) code n).2.2.2, w2, w3, ?_, ?_, Sim_rows hS q2 q3 q4 rfl rfl r2⟩
        · rw [e_D_row, if_neg (by omega), if_neg (by omega), if_neg (by omega), if_neg (by omega), gd_t (by omega), p4, gd_t (by omega), if_neg (by omega), if_neg (by omega), if_pos (by omega), p1, bnd]
          exact q1
        · rw [e_M_row, m_isWalk, bnd, h70, if_neg hnw]
          dsimp only
          rw [if_neg (by decide), m_in, bnd, if_pos h1]
          dsimp only
          rw [if_neg (by decide), m_isCode (by omega), bnd, if_pos h2]
          dsimp only
          rw [if_neg (by decide), m_in, bnd, if_pos (show 0 ≤ a3 ∧ a3 ≤ 1 by omega)]
          dsimp only
          rw [if_neg (by decide), r1, bnd]
          dsimp only
          rw [r3.2.2.1, r3.2.2.2, hq.2]
          by_cases z : a3 = 0
          · rw [if_pos z, if_pos z]
          · rw [if_neg z, if_neg z]
      · refine ⟨-1, w, w, ?_, ?_, hS⟩
        · rw [e_D_row, if_neg (by omega), if_neg (by omega), if_neg (by omega), if_neg (by omega), gd_t (by omega), p4, gd_t (by omega), if_neg (by omega)]
          by_cases z : a3 < 0
          · rw [if_pos z]
          · rw [if_neg z, if_neg (by omega)]
        · rw [e_M_row, m_isWalk, bnd, if_neg hnw]
          dsimp only
          rw [if_neg (by decide), m_in, bnd, if_pos h1]
          dsimp only
          rw [if_neg (by decide), m_isCode (by omega), bnd, if_pos h2]
          dsimp only
          rw [if_neg (by decide), m_in, bnd, if_neg (show ¬ (0 ≤ a3 ∧ a3 ≤ 1) by omega), if_pos rfl]
    · refine ⟨-1, w, w, ?_, ?_, hS⟩
      · rw [e_D_row, if_neg (by omega), if_neg (by omega), if_neg (by omega)]
        by_cases z : a2 < 0
        · rw [if_pos z]
        · rw [if_neg z, gd_t (by omega), p4, gd_t (by omega), if_pos (by omega)]
      · rw [e_M_row, m_isWalk, bnd, if_neg hnw]
        dsimp only
        rw [if_neg (by decide), m_in, bnd, if_pos h1]
        dsimp only
        rw [if_neg (by decide), m_isCode (by omega), bnd, if_neg h2, if_pos rfl]
  · refine ⟨-1, w, w, ?_, ?_, hS⟩
    · rw [e_D_row, if_neg (by omega)]
      by_cases z : a1 < 1
      · rw [if_pos z]
      · rw [if_neg z, if_pos (by omega)]
    · rw [e_M_row, m_isWalk, bnd, if_neg hnw]
      dsimp only
      rw [if_neg (by decide), m_in, bnd, if_neg h1, if_pos rfl]
