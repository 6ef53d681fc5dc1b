/-! WALK, IMAGE, BACK -/
def beg (c way : Int) : Int → Int := inc (fun _ => 0) (4 * c + way) 1000000000
theorem beg_OK {P : Int → Prop} {c way : Int} (hc : 0 ≤ c ∧ c < 144) (hw : 0 ≤ way ∧ way < 4) (hp : P c) : wOK P (beg c way) := by
  have ht : tot (beg c way) = 1000000000 := by
    have := sm_inc (F := fun _ => 0) (a := 4 * c + way) (x := 1000000000) (n := 576) (by omega) (by omega)
    rw [sm_zero] at this
    exact this
  refine ⟨fun k _ _ => ?_, fun x hx hno k k0 k1 => ?_, by rw [ht]; decide, by rw [ht]; decide⟩
  · unfold beg inc
    by_cases z : k = 4 * c + way
    · rw [if_pos z]
      show (0 : Int) ≤ 0 + 1000000000
      decide
    · rw [if_neg z]
      exact Int.le_refl 0
  · unfold beg inc
    rw [if_neg (fun q => hno (by rw [show (x : Int) = c by omega]; exact hp))]
theorem s_oddsBegin {d : Nat} {o c way : Int} {w : zW} (hc : 0 ≤ c ∧ c < 144) (hw : 0 ≤ way ∧ way < 4) : ∃ w', Odds_begin (d + 1) o c way w = some (0, w') ∧ z_fr [4, 19] w w' ∧ (∀ q, q ≠ o → w' 4 q = w 4 q ∧ w' 19 q = w 19 q) ∧ eqR (w' 19 o) (beg c way) ∧ w' 4 o 1 = 0 ∧ w' 4 o 2 = 9 ∧ w' 4 o 3 = 0 := by
  refine ⟨z_up (z_up (z_up (z_up (z_row w 19 o (flF (w 19 o) 0 (z_ln 19) 0)) 19 o (c * 4 + way) 1000000000) 4 o 1 0) 4 o 2 9) 4 o 3 0, ?_, ?_, fun q hq => ⟨?_, ?_⟩, fun k k0 k1 => ?_, ?_, ?_, up_h⟩
  · rw [e_Odds_begin, s_fillL rfl (by decide), bnd]
    dsimp only
    rw [gd_t (by omega), gd_t (by omega), gd_t (by omega)]
  · exact fr_tr (fr_row (by decide)) (fr_tr (fr_tr (fr_tr (fr_up (by decide)) (fr_up (by decide))) (fr_up (by decide))) (fr_up (by decide)))
  · funext s
    rw [up_i hq, up_i hq, up_i hq, up_c (by decide), row_c (by decide)]
  · funext s
    rw [up_c (by decide), up_c (by decide), up_c (by decide), up_i hq, row_i hq]
  · rw [up_c (by decide), up_c (by decide), up_c (by decide)]
    unfold beg inc
    by_cases z : k = 4 * c + way
    · rw [if_pos z, z, Int.mul_comm 4 c, up_h]
      rfl
    · rw [if_neg z, up_s (by omega), row_h]
      unfold flF
      have hz : z_ln 19 = 576 := rfl
      rw [if_pos (by rw [hz]; omega)]
  · rw [up_s (by decide), up_s (by decide), up_h]
  · rw [up_s (by decide), up_h]
theorem m_surely_1 {d k1 : Nat} {b c way : Int} {w : zW} (hk : isW k1 b) (hc : 0 ≤ c ∧ c < 144) (hw : 0 ≤ way ∧ way < 4) : ∀ m n : Nat, n + m = 576 →
    M_surely_1 d k1 b c way n (z_row w k1 0 (cbF (w k1 0) (fun _ => 0) b n)) = some (0, z_up (z_row w k1 0 (cbF (w k1 0) (fun _ => 0) b 576)) k1 0 (b + 4 * c + way) 1000000000) := by
  obtain ⟨hz, hl, hb0, hb6⟩ := isW_kd hk
  intro m
  induction m with
  | zero =>
    intro n hn
    rw [e_M_surely_1, if_pos (by omega), gd_t (by omega), gd_t (by omega), gd_t (by omega), gd_t ⟨hz, by omega, by omega⟩, show (n : Int) = 576 by omega]
  | succ m ih =>
    intro n hn
    have hu := cbF_up (F := w k1 0) (G := fun _ => 0) (b := b) (n := (n : Int)) (by omega)
    rw [e_M_surely_1, if_neg (by omega), gd_t (by omega), gd_t ⟨hz, by omega, by omega⟩, gd_t (by omega), row_up, hu]
    exact ih (n + 1) (by omega)
theorem m_surely {d k1 : Nat} {b c way : Int} {w : zW} (hk : isW k1 b) (hc : 0 ≤ c ∧ c < 144) (hw : 0 ≤ way ∧ way < 4) : ∃ w', M_surely d k1 b c way w = some (0, w') ∧ mF [k1] [] w w' ∧ (∀ x, ¬ (b ≤ x ∧ x < b + 576) → w' k1 0 x = w k1 0 x) ∧ eqR (wtM w' k1 b) (beg c way) := by
  have h := m_surely_1 (d := d) (w := w) hk hc hw 576 0 rfl
  have h11 : k1 ≠ 11 := by rcases hk with ⟨rfl, -⟩ | ⟨rfl, -⟩ <;> decide
  rw [show ((0 : Nat) : Int) = 0 from rfl, cbF_0, row_self] at h
  refine ⟨_, by rw [e_M_surely]; exact h, mF_tr (mF_row (List.mem_singleton.mpr rfl) h11) (mF_up (List.mem_singleton.mpr rfl) h11), fun x hx => ?_, fun k k0 k1' => ?_⟩
  · rw [up_s (by omega), row_h]
    unfold cbF
    rw [if_neg hx]
  · show (z_up (z_row w k1 0 (cbF (w k1 0) (fun _ => 0) b 576)) k1 0 (b + 4 * c + way) 1000000000) k1 0 (b + k) = _
    unfold beg inc
    by_cases z : k = 4 * c + way
    · rw [if_pos z, z, show b + (4 * c + way) = b + 4 * c + way by omega, up_h]
      rfl
    · rw [if_neg z, up_s (by omega), row_h]
      unfold cbF
      rw [if_pos (by omega)]
theorem s_take_1 {d : Nat} {w : zW} : ∀ (m : Nat) (k : Int) (w1 : zW), 0 ≤ k → k + m = 31 → z_fr [27] w w1 → (∀ e, 0 ≤ e → e < k → w1 27 0 e = 0) → ∃ w', Setting_take_1 d k w1 = some (0, w') ∧ z_fr [27] w w' ∧ ∀ e, 0 ≤ e → e ≤ 30 → w' 27 0 e = 0 := by
  intro m
  induction m with
  | zero =>
    intro k w1 k0 hk hf h0
    exact ⟨w1, by rw [e_Setting_take_1, if_pos (by omega)], hf, fun e e0 e1 => h0 e e0 (by omega)⟩
  | succ m ih =>
    intro k w1 k0 hk hf h0
    obtain ⟨w', q1, q2⟩ := ih (k + 1) (z_up w1 27 0 k 0) (by omega) (by omega) (fr_tr hf (fr_up (by decide))) (fun e e0 e1 => by
      by_cases z : e = k
      · rw [z, up_h]
      · rw [up_s z]
        exact h0 e e0 (by omega))
    refine ⟨w', ?_, q2⟩
    rw [e_Setting_take_1, if_neg (by omega), gd_t (by omega), gd_t (by decide), gd_t (by omega)]
    exact q1
theorem s_setTake {d : Nat} {i j : Int} {w : zW} : ∃ w', Setting_take d i j w = some (0, w') ∧ z_fr [7, 27] w w' ∧ w' 7 0 0 = i ∧ w' 7 0 1 = j ∧ ∀ e, 0 ≤ e → e ≤ 30 → w' 27 0 e = 0 := by
  obtain ⟨w', q1, q2, q3⟩ := s_take_1 (d := d) (w := z_up (z_up w 7 0 0 i) 7 0 1 j) 31 0 _ (by omega) (by omega) (fr_rf _ _) (fun e e0 e1 => by omega)
  refine ⟨w', by rw [e_Setting_take]; exact q1, fr_tr (fr_tr (fr_up (by decide)) (fr_up (by decide))) (fr_sub q2 (by decide)), ?_, ?_, q3⟩
  · rw [q2 7 (by decide), up_s (by decide), up_h]
  · rw [q2 7 (by decide), up_h]
theorem RC_0 {w : zW} {i : Int} {Cs : List clau} (h : ∀ e, 0 ≤ e → e ≤ 30 → w 27 0 e = 0) : RC w i Cs := fun e e0 e1 hn => absurd (h e e0 e1) hn
abbrev smR : List Nat := [1, 2, 9, 10, 13, 14, 15, 16, 32, 33, 34, 35, 36, 37, 38, 39, 40, 49, 50, 52, 53, 54, 55, 56, 57, 58, 59, 60, 61, 62, 63, 64]
theorem Sim_mk7 {LS RX : Int → List clau} {w w' : zW} (h : ∀ c ∈ smR, w' c = w c) (hT : RT w') (h7 : (0 ≤ w' 7 0 0 ∧ w' 7 0 0 < 4) ∧ 0 ≤ w' 7 0 1 ∧ w' 7 0 1 < 6) (hN : RS w' 0 (w' 70 0)) (hr : w' 8 0 1 = 1 → w' 7 0 0 = w' 70 0 0 ∧ w' 7 0 1 = w' 70 0 1 ∧ RC w' (w' 7 0 0) (LS (w' 7 0 1))) (hI : ∀ k, 0 ≤ k → k < 4 → isB (w' 8 (1 + k) 0) ∧ w' 78 0 k = w' 8 (1 + k) 0 ∧ (w' 8 (1 + k) 0 = 1 → RS w' (1 + k) (im w' k))) (hS : Sim LS RX w) : Sim LS RX w' := by
  have e9 := h 9 (by decide)
  have e10 := h 10 (by decide)
  have e49 := h 49 (by decide)
  exact ⟨hT, by rw [e49, e10]; exact hS.cnt, fun i i0 i1 => RW_fr (fun c hc => h c (by revert hc; revert c; decide)) (hS.wood i0 (by rw [e10] at i1; exact i1)), fun i i0 i1 => by rw [e9]; exact hS.cols i0 i1, fun j j0 j1 => Rlw_fr (fun c hc => h c (by revert hc; revert c; decide)) (hS.law j0 (by rw [e10] at j1; exact j1)), fun r r0 r1 => Rru_fr (fun c hc => h c (by revert hc; revert c; decide)) (hS.rule r0 (by rw [e10] at r1; exact r1)), h7, hN, hr, hI⟩
theorem p_walk {LS RX : Int → List clau} {w : zW} {d : Nat} (hS : Sim LS RX w) (a1 a2 a3 a4 a5 : Int) : ∃ r w1 w2, D_walk (d + 12) a1 a2 a3 a4 a5 w = some (r, w1) ∧ M_walk (d + 12) a1 a2 a3 a4 a5 w1 = some (r, w2) ∧ Sim LS RX w2 := by
  have hc := hS.cnt
  by_cases h1 : 0 ≤ a1 ∧ a1 < w 10 0 4
  · by_cases h2 : 0 ≤ a2 ∧ a2 < w 10 0 5
    · have hW := hS.wood h1.1 h1.2
      have hCR := hW.1
      have ho := s_openAt (d := d + 10) (i := a1) (x := a3) (y := a4) (w := w) hCR.1.2 hCR.2.2
      have hobd := openAt_bd (C := w 9 a1 0) (R := w 9 a1 1) (x := a3) (y := a4) (wall := w 34 a1) hCR.1.2 hCR.2.2
      have hMp : ∀ w1 : zW, w1 49 = w 49 → RW w1 a1 → M_walk (d + 12) a1 a2 a3 a4 a5 w1 = if openAt (w1 9 a1 0) (w1 9 a1 1) (w1 34 a1) a3 a4 ≠ -1 ∧ 0 ≤ a5 ∧ a5 < 4 then ((M_surely (d + 11) 70 6 (12 * a4 + a3) a5 (z_up (z_up (z_up (z_up (z_up (z_up w1 70 0 0 a1) 70 0 1 a2) 70 0 2 0) 70 0 3 0) 70 0 4 9) 70 0 5 0)).bind fun r4 => some (1, z_up (z_up r4.2 70 0 1390 (12 * a4 + a3)) 70 0 1391 a5)) else some (0, w1) := fun w1 h49 hW1 => by
        rw [e_M_walk, m_isText (by decide), bnd, h49, hc.1.1, if_pos h1]
        dsimp only
        rw [if_neg (show ¬ (1 : Int) = 0 by decide), m_isText (by decide), bnd, h49, hc.2.1.1, if_pos h2]
        dsimp only
        rw [if_neg (show ¬ (1 : Int) = 0 by decide), hW1.stand (d := d + 9) (by omega), bnd]
        dsimp only
        by_cases z : openAt (w1 9 a1 0) (w1 9 a1 1) (w1 34 a1) a3 a4 ≠ -1 ∧ 0 ≤ a5 ∧ a5 < 4
        · have hx : 0 ≤ a3 ∧ 0 ≤ a4 ∧ a3 < 12 ∧ a4 < 12 := by
            have h := hW1.1
            have z1 := z.1
            unfold openAt at z1
            by_cases y : 0 ≤ a3 ∧ 0 ≤ a4 ∧ a3 < w1 9 a1 0 ∧ a4 < w1 9 a1 1
            · omega
            · rw [if_neg (fun q => y ⟨q.1, q.2.1, q.2.2.1, q.2.2.2.1⟩)] at z1
              exact absurd rfl z1
          rw [if_pos z, if_pos z, if_neg (show ¬ (1 : Int) = 0 by decide)]
          rw [gd_t (by decide), gd_t (by decide), gd_t (by decide), gd_t (by decide), gd_t (by decide), gd_t (by decide), gd_t (by omega), gd_t (by omega)]
          simp (disch := omega) only [gd_t]
        · rw [if_neg z, if_neg z, if_pos rfl, gd_t (by decide)]
      by_cases h3 : openAt (w 9 a1 0) (w 9 a1 1) (w 34 a1) a3 a4 ≠ -1 ∧ 0 ≤ a5 ∧ a5 < 4
      · have hcell : openAt (w 9 a1 0) (w 9 a1 1) (w 34 a1) a3 a4 = a4 * 12 + a3 ∧ 0 ≤ a3 ∧ 0 ≤ a4 ∧ a3 < 12 ∧ a4 < 12 ∧ opw w a1 (a4 * 12 + a3) := by
          have z1 := h3.1
          have hP := openAt_P (wall := w 34 a1) hCR.1.2 hCR.2.2 (fun c c0 c1 => (hW.2.2.2.2.1 c c0 c1).2.2.1) z1
          unfold openAt at z1 hP ⊢
          by_cases y : 0 ≤ a3 ∧ 0 ≤ a4 ∧ a3 < w 9 a1 0 ∧ a4 < w 9 a1 1 ∧ ¬ w 34 a1 (a4 * 12 + a3) = 1
          · rw [if_pos y] at hP ⊢
            exact ⟨rfl, y.1, y.2.1, by omega, by omega, hP⟩
          · rw [if_neg y] at z1
            exact absurd rfl z1
        obtain ⟨c1, c2, c3, c4, c5, c6⟩ := hcell
        rw [c1] at ho h3
        generalize hwb : z_up (z_up (z_up (z_up (z_up (z_up w 8 0 1 1) 8 0 2 a1) 8 0 3 a2) 8 0 4 (a4 * 12 + a3)) 8 0 5 a5) 8 0 6 0 = wb
        obtain ⟨w1, p1, p2, p3, p4, p5, p6, p7⟩ := s_oddsBegin (d := d + 9) (o := 0) (c := a4 * 12 + a3) (way := a5) (w := wb) (by omega) h3.2
        obtain ⟨w2, q1, q2, q3, q4, q5⟩ := s_setTake (d := d + 11) (i := a1) (j := a2) (w := w1)
        have fb : z_fr [8] w wb := by
          rw [← hwb]
          exact fr_tr (fr_tr (fr_tr (fr_tr (fr_tr (fr_up (by decide)) (fr_up (by decide))) (fr_up (by decide))) (fr_up (by decide))) (fr_up (by decide))) (fr_up (by decide))
        have f2 : z_fr [4, 7, 8, 19, 27] w w2 := fr_tr (fr_sub fb (by decide)) (fr_tr (fr_sub p2 (by decide)) (fr_sub q2 (by decide)))
        have e8 : w2 8 = wb 8 := by rw [q2 8 (by decide), p2 8 (by decide)]
        have e4 : w2 4 = w1 4 := q2 4 (by decide)
        have e19 : w2 19 = w1 19 := q2 19 (by decide)
        have hW2 : RW w2 a1 := RW_fr (fun c hc => f2 c (by revert hc; revert c; decide)) hW
        have e9 := f2 9 (by decide)
        have e34 := f2 34 (by decide)
        generalize hvb : z_up (z_up (z_up (z_up (z_up (z_up w2 70 0 0 a1) 70 0 1 a2) 70 0 2 0) 70 0 3 0) 70 0 4 9) 70 0 5 0 = vb
        obtain ⟨v1, r1, r2, r3, r4⟩ := m_surely (d := d + 11) (k1 := 70) (b := 6) (c := 12 * a4 + a3) (way := a5) (w := vb) (Or.inl ⟨rfl, rfl⟩) (by omega) h3.2
        have fvb : mF [70] [] w2 vb := by
          rw [← hvb]
          exact mF_tr (mF_tr (mF_tr (mF_tr (mF_tr (mF_up (by decide) (by decide)) (mF_up (by decide) (by decide))) (mF_up (by decide) (by decide))) (mF_up (by decide) (by decide))) (mF_up (by decide) (by decide))) (mF_up (by decide) (by decide))
        refine ⟨1, w2, z_up (z_up v1 70 0 1390 (12 * a4 + a3)) 70 0 1391 a5, ?_, ?_, ?_⟩
        · rw [e_D_walk, if_neg (by omega), if_neg (by omega), if_neg (by omega), if_neg (by omega), if_neg (by omega), if_pos (by omega), gd_t (by omega), show 0 + a1 = a1 by omega, ho, bnd]
          dsimp only
          rw [if_neg (by omega), e_State_begin, gd_t (by decide), hwb, p1, bnd, bnd]
          dsimp only
          rw [gd_t (by omega), gd_t (by omega), show 0 + a2 = a2 by omega, q1, bnd, gd_t (by decide)]
        · rw [hMp w2 (f2 49 (by decide)) hW2, e9, e34, c1, if_pos h3, hvb, r1, bnd]
        · have fm : mF [70] [] w2 (z_up (z_up v1 70 0 1390 (12 * a4 + a3)) 70 0 1391 a5) := mF_tr fvb (mF_tr r2 (mF_tr (mF_up (by decide) (by decide)) (mF_up (by decide) (by decide))))
          generalize hv2 : z_up (z_up v1 70 0 1390 (12 * a4 + a3)) 70 0 1391 a5 = v2 at fm
          have hcc : ∀ c, c ∉ [4, 7, 8, 19, 27, 70, 11] → v2 c = w c := fun c hc' => by
            have g : ∀ q ∈ [70], q ∈ [4, 7, 8, 19, 27, 70, 11] := by decide
            have g2 : ∀ q ∈ [4, 7, 8, 19, 27], q ∈ [4, 7, 8, 19, 27, 70, 11] := by decide
            rw [fm.1 c (fun q => hc' (g c q)) (fun q => hc' (by rw [q]; decide)), f2 c (fun q => hc' (g2 c q))]
          have vx : ∀ x, 6 ≤ x → x < 1390 → v2 70 0 x = v1 70 0 x := fun x x0 x1 => by rw [← hv2, up_s (by omega), up_s (by omega)]
          have vlo : ∀ x, x < 6 → v2 70 0 x = vb 70 0 x := fun x x0 => by rw [← hv2, up_s (by omega), up_s (by omega), r3 x (by omega)]
          have vhi : ∀ x, 582 ≤ x → x < 1390 → v2 70 0 x = w 70 0 x := fun x x0 x1 => by
            rw [vx x (by omega) x1, r3 x (by omega), ← hvb, up_s (by omega), up_s (by omega), up_s (by omega), up_s (by omega), up_s (by omega), up_s (by omega), f2 70 (by decide)]
          have v0 : v2 70 0 0 = a1 := by rw [vlo 0 (by decide), ← hvb, up_s (by decide), up_s (by decide), up_s (by decide), up_s (by decide), up_s (by decide), up_h]
          have v1' : v2 70 0 1 = a2 := by rw [vlo 1 (by decide), ← hvb, up_s (by decide), up_s (by decide), up_s (by decide), up_s (by decide), up_h]
          have v2' : v2 70 0 2 = 0 := by rw [vlo 2 (by decide), ← hvb, up_s (by decide), up_s (by decide), up_s (by decide), up_h]
          have v3' : v2 70 0 3 = 0 := by rw [vlo 3 (by decide), ← hvb, up_s (by decide), up_s (by decide), up_h]
          have v4' : v2 70 0 4 = 9 := by rw [vlo 4 (by decide), ← hvb, up_s (by decide), up_h]
          have v5' : v2 70 0 5 = 0 := by rw [vlo 5 (by decide), ← hvb, up_h]
          have v90 : v2 70 0 1390 = 12 * a4 + a3 := by rw [← hv2, up_s (by decide), up_h]
          have v91 : v2 70 0 1391 = a5 := by rw [← hv2, up_h]
          have b8 : v2 8 = wb 8 := by rw [fm.1 8 (by decide) (by decide), e8]
          have b4 : v2 4 = w1 4 := by rw [fm.1 4 (by decide) (by decide), e4]
          have b19 : v2 19 = w1 19 := by rw [fm.1 19 (by decide) (by decide), e19]
          have bb : wb 8 0 1 = 1 ∧ wb 8 0 2 = a1 ∧ wb 8 0 3 = a2 ∧ wb 8 0 4 = a4 * 12 + a3 ∧ wb 8 0 5 = a5 ∧ wb 8 0 6 = 0 := by
            rw [← hwb]
            refine ⟨?_, ?_, ?_, ?_, ?_, up_h⟩
            · rw [up_s (by decide), up_s (by decide), up_s (by decide), up_s (by decide), up_s (by decide), up_h]
            · rw [up_s (by decide), up_s (by decide), up_s (by decide), up_s (by decide), up_h]
            · rw [up_s (by decide), up_s (by decide), up_s (by decide), up_h]
            · rw [up_s (by decide), up_s (by decide), up_h]
            · rw [up_s (by decide), up_h]
          have bo : ∀ s, s ≠ 0 → wb 8 s = w 8 s := fun s hs => by
            funext x
            rw [← hwb, up_i hs, up_i hs, up_i hs, up_i hs, up_i hs, up_i hs]
          have hop : opw v2 a1 = opw w a1 := by
            show opn (v2 9 a1 0) (v2 9 a1 1) (v2 34 a1) = opn (w 9 a1 0) (w 9 a1 1) (w 34 a1)
            rw [hcc 9 (by decide), hcc 34 (by decide)]
          have h7a : v2 7 0 0 = a1 := by rw [fm.1 7 (by decide) (by decide), q3]
          have h7b : v2 7 0 1 = a2 := by rw [fm.1 7 (by decide) (by decide), q4]
          refine Sim_mk7 (fun c hc' => hcc c (by revert hc'; revert c; decide)) (RT_fr (hcc 5 (by decide)) (hcc 20 (by decide)) (hcc 48 (by decide)) (by rw [fm.2 1 (by decide), f2 11 (by decide)]) hS.tape) (by rw [h7a, h7b]; omega) ⟨fun k k0 k1 => ?_, Or.inr ?_⟩ (fun _ => ?_) (fun k k0 k1 => ?_) hS
          · rw [hcc 31 (by decide), vhi _ (by omega) (by omega)]
            exact hS.now.1 k k0 k1
          · unfold RB
            rw [b8, b4, b19, hcc 10 (by decide), v0, v1', v2', v3', v4', v5', v90, v91, hop, p5, p6, p7, Int.mul_comm 12 a4]
            refine ⟨bb.1, ⟨bb.2.1, by omega, by omega⟩, ⟨bb.2.2.1, by omega, by omega⟩, ⟨bb.2.2.2.1, bb.2.2.2.2.1, by omega, c6, h3.2⟩, ⟨bb.2.2.2.2.2, by omega, by omega⟩, ⟨rfl, by omega, by omega⟩, ⟨rfl, by omega, by omega⟩, ⟨rfl, by omega, by omega⟩, fun k k0 k1 => ?_, wOK_eq (beg_OK (by omega) h3.2 c6) p4, by omega, fun k k0 k1 => ?_⟩
            · rw [p4 k k0 k1, Int.mul_comm a4 12, ← r4 k k0 k1]
              exact (vx (6 + k) (by omega) (by omega)).symm
            · rw [v2'] at k1
              omega
          · rw [h7a, h7b, v0, v1']
            refine ⟨rfl, rfl, RC_0 (fun e e0 e1 => ?_)⟩
            rw [fm.1 27 (by decide) (by decide)]
            exact q5 e e0 e1
          · obtain ⟨i1, i2, i3⟩ := hS.img k0 k1
            rw [b8, bo (1 + k) (by omega), hcc 78 (by decide)]
            refine ⟨i1, i2, fun q => ?_⟩
            have hm : im v2 k = im w k := by unfold im; rw [hcc 77 (by decide)]
            rw [hm]
            obtain ⟨j1, j2⟩ := i3 q
            refine ⟨fun x x0 x1 => ?_, ?_⟩
            · rw [hcc 31 (by decide)]
              exact j1 x x0 x1
            · have g4 := (p3 (1 + k) (by omega)).1
              have g19 := (p3 (1 + k) (by omega)).2
              rcases j2 with z | z
              · left
                rw [b8, bo (1 + k) (by omega)]
                exact z
              · exact Or.inr (RB_G (by rw [b8, bo (1 + k) (by omega)]) (hcc 10 (by decide)) (by rw [b4, g4, fb 4 (by decide)]; exact ⟨rfl, rfl, rfl⟩) (by rw [b19, g19, fb 19 (by decide)]; exact eqR_rf _) (by rw [hcc 29 (by decide)]) (by rw [hcc 30 (by decide)]) (hcc 9 (by decide)) (hcc 34 (by decide)) (fun _ _ _ => rfl) rfl rfl z)
      · refine ⟨0, w, w, ?_, ?_, hS⟩
        · rw [e_D_walk, if_neg (by omega), if_neg (by omega), if_neg (by omega), if_neg (by omega)]
          by_cases z : a5 < 0
          · rw [if_pos z, gd_t (by decide)]
          · rw [if_neg z]
            by_cases z2 : a5 < 4
            · rw [if_pos z2, gd_t (by omega), show 0 + a1 = a1 by omega, ho, bnd]
              dsimp only
              have : openAt (w 9 a1 0) (w 9 a1 1) (w 34 a1) a3 a4 = -1 := by
                by_cases y : openAt (w 9 a1 0) (w 9 a1 1) (w 34 a1) a3 a4 = -1
                · exact y
                · exact absurd ⟨y, by omega, z2⟩ h3
              rw [if_pos this, gd_t (by decide)]
            · rw [if_neg z2, gd_t (by decide)]
        · rw [hMp w rfl hW, if_neg h3]
    · refine ⟨0, w, w, ?_, ?_, hS⟩
      · rw [e_D_walk, if_neg (by omega), if_neg (by omega)]
        by_cases z : a2 < 0
        · rw [if_pos z, gd_t (by decide)]
        · rw [if_neg z, if_pos (by omega), gd_t (by decide)]
      · rw [e_M_walk, m_isText (by decide), bnd, hc.1.1, if_pos h1]
        dsimp only
        rw [if_neg (show ¬ (1 : Int) = 0 by decide), m_isText (by decide), bnd, hc.2.1.1, if_neg h2, if_pos rfl, gd_t (by decide)]
  · refine ⟨0, w, w, ?_, ?_, hS⟩
    · rw [e_D_walk]
      by_cases z : a1 < 0
      · rw [if_pos z, gd_t (by decide)]
      · rw [if_neg z, if_pos (by omega), gd_t (by decide)]
    · rw [e_M_walk, m_isText (by decide), bnd, hc.1.1, if_neg h1, if_pos rfl, gd_t (by decide)]
