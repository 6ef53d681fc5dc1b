/-! SOON: the class's -/
theorem z_or_cm {a b : Nat} (ha : a < 2147483648) (hb : b < 2147483648) : z_or a b = z_or b a := by
  rw [z_or_nat ha hb, z_or_nat hb ha, Nat.or_comm]
theorem s_tna {d n x : Nat} {w : zW} (hn : n ≤ 6) (hx : x < 4096) : ∀ m k : Nat, k + m = n → Rows_turnedAround_1 d x n (tnA x k) k w = some (((tnA x n : Nat) : Int), w) := by
  intro m
  induction m with
  | zero =>
    intro k hk
    rw [e_Rows_turnedAround_1, if_pos (by omega), show k = n by omega]
  | succ m ih =>
    intro k hk
    have h1 := tnA_lt x k
    have h2 := p4_le (n := k) (by omega)
    have hd := dg_bd x k
    obtain ⟨e, he⟩ : ∃ e : Nat, dg x k = e := ⟨(dg x k).toNat, by omega⟩
    have hz : z_or ((tnA x k : Int) * 2 ^ (2 : Int).toNat) (e : Int) = ((tnA x (k + 1) : Nat) : Int) := by
      have h3 : ((tnA x k : Int) * 2 ^ (2 : Int).toNat) = ((tnA x k * 4 : Nat) : Int) := by push_cast; rfl
      have h4 := z_or_mul (a := (e : Int)) (b := (tnA x k : Int)) (k := 2) ⟨by omega, by show (e : Int) < 4; omega⟩ (by omega) (by show (e : Int) + (tnA x k : Int) * 4 < _; omega)
      rw [h3, z_or_cm (by omega) (by omega), ← h3]
      refine h4.trans ?_
      show (e : Int) + (tnA x k : Int) * 4 = ((4 * tnA x k + x / 4 ^ k % 4 : Nat) : Int)
      unfold dg at he
      omega
    rw [e_Rows_turnedAround_1, if_neg (by omega), dg_z x k hx, he, hz, gd_t (by show (0 : Int) ≤ 2 ∧ (2 : Int) < 31 ∧ (0 : Int) ≤ (tnA x k : Int) ∧ inI ((tnA x k : Int) * 4); omega), gd_t (by omega), gd_t (by omega), gd_t (by omega)]
    exact ih (k + 1) (by omega)
theorem s_turnedAround {d n x : Nat} {w : zW} (hn : n ≤ 6) (hx : x < 4096) : Rows_turnedAround d x n w = some (((tnA x n : Nat) : Int), w) := by
  rw [e_Rows_turnedAround]
  exact s_tna hn hx n 0 (by omega)
theorem pre4 {x j p : Nat} (hx : x / 4 ^ j % 4 ≠ 0) (hp : j + 1 ≤ p) : (x - 1) / 4 ^ p = x / 4 ^ p := by
  obtain ⟨r, rfl⟩ : ∃ r, p = j + 1 + r := ⟨p - (j + 1), by omega⟩
  have hq : 0 < 4 ^ j := Nat.lt_of_le_of_lt (Nat.zero_le _) (tnA_lt 0 j)
  have h1 : (x - 1) / 4 ^ j ≤ x / 4 ^ j := Nat.div_le_div_right (by omega)
  have h2 : x / 4 ^ j - 1 ≤ (x - 1) / 4 ^ j := (Nat.le_div_iff_mul_le hq).2 (by
    have := Nat.div_mul_le_self x (4 ^ j)
    rw [Nat.sub_mul, Nat.one_mul]
    omega)
  rw [Nat.pow_add, Nat.pow_succ, ← Nat.div_div_eq_div_mul, ← Nat.div_div_eq_div_mul, ← Nat.div_div_eq_div_mul, ← Nat.div_div_eq_div_mul, show (x - 1) / 4 ^ j / 4 = x / 4 ^ j / 4 by omega]
theorem s_best_3 {d n x : Nat} {l4 l5 l7 : Int} {w : zW} (hn : 1 ≤ n ∧ n ≤ 5) (hx : x < 4096) : ∀ L : Nat, L ≤ n - 1 → ∃ L', L' ≤ L ∧ (L' = 0 ∨ x / 4 ^ (n - 1 - L') % 4 ≠ 0) ∧ Rows_best_3 (d + 1) n l4 l5 l7 x L ((x / 4 ^ (n - 1 - L) : Nat) : Int) w = Rows_best_6 (d + 1) n l4 l5 l7 x L' w := by
  intro L
  induction L with
  | zero =>
    intro _
    exact ⟨0, Nat.le_refl _, Or.inl rfl, by rw [e_Rows_best_3, if_pos (by omega)]⟩
  | succ L ih =>
    intro hL
    have hlt : x / 4 ^ (n - 1 - (L + 1)) < 4096 := Nat.lt_of_le_of_lt (Nat.div_le_self _ _) hx
    have hq0 : (0 : Int) ≤ ((x / 4 ^ (n - 1 - (L + 1)) : Nat) : Int) := Int.natCast_nonneg _
    have hz := z_and_3 (a := ((x / 4 ^ (n - 1 - (L + 1)) : Nat) : Int)) (by omega)
    rw [e_Rows_best_3, if_neg (by omega), hz]
    by_cases q : x / 4 ^ (n - 1 - (L + 1)) % 4 = 0
    · obtain ⟨L', a1, a2, a3⟩ := ih (by omega)
      refine ⟨L', by omega, a2, ?_⟩
      have hd : ((x / 4 ^ (n - 1 - (L + 1)) : Nat) : Int) / 2 ^ (2 : Int).toNat = ((x / 4 ^ (n - 1 - L) : Nat) : Int) := by
        rw [show n - 1 - L = (n - 1 - (L + 1)) + 1 by omega, Nat.pow_succ, ← Nat.div_div_eq_div_mul]
        show ((x / 4 ^ (n - 1 - (L + 1)) : Nat) : Int) / 4 = _
        omega
      rw [if_pos (by omega), gd_t (by omega), gd_t (by decide), hd, show ((L + 1 : Nat) : Int) + -1 = (L : Int) by omega, a3]
    · exact ⟨L + 1, Nat.le_refl _, Or.inr q, by rw [if_neg (by omega)]⟩
section
variable {w : zW} {i j e : Int} {Cs : List clau} {F : Int → Int} {n : Nat} {H R : Nat → Int}
/-- the levels of the rows that go by x -/
def lvs (w : zW) (i j : Int) (Cs : List clau) (F : Int → Int) (e : Int) (n x L : Nat) (w1 : zW) : Prop := ∀ l : Nat, l ≤ L → LV w1 l (rAt w i j Cs F e (tnA x n) l)
theorem s_best_6 {d x : Nat} {l4 l5 l7 : Int} (hN : EN w i j Cs) (hh : 0 ≤ w 9 i 2 ∧ w 9 i 2 < 144) (hF : wO0 (opw w i) F) (he : 0 ≤ e ∧ e ≤ 30) (hn : 1 ≤ n ∧ n ≤ 5) (hx : x < 4096) : ∀ (m L : Nat) (w1 : zW), L + m = n → z_fr rC w w1 → (∀ q, q < 6 → w1 4 q = w 4 q ∧ w1 19 q = w 19 q) → EN w1 i j Cs → lvs w i j Cs F e n x L w1 →
    ∃ w2, Rows_best_6 (d + 6) n l4 l5 l7 x L w1 = Rows_best_6 (d + 6) n l4 l5 l7 x n w2 ∧ z_fr rC w w2 ∧ (∀ q, q < 6 → w2 4 q = w 4 q ∧ w2 19 q = w 19 q) ∧ EN w2 i j Cs ∧ lvs w i j Cs F e n x n w2 := by
  intro m
  induction m with
  | zero =>
    intro L w1 hL hf ho hN1 hlv
    have hLn : L = n := by omega
    subst hLn
    exact ⟨w1, rfl, hf, ho, hN1, hlv⟩
  | succ m ih =>
    intro L w1 hL hf ho hN1 hlv
    have e1 := rC_e hf
    have h9 : w1 9 i 2 = w 9 i 2 := by rw [e1 9 (by decide)]
    have hdd : dg (tnA x n) L = dg x (n - 1 - L) := by
      unfold dg
      rw [tnA_dg x n L (by omega)]
    obtain ⟨w2, q1, q2, q3, q4, q5⟩ := s_rowsStep (d := d) (l := L) (act := dg (tnA x n) L) (w := w1) (s := rAt w i j Cs F e (tnA x n) L) (by omega) (dg_bd _ L) hN1 (by rw [h9]; exact hh) (rOK_e e1 (rAt_OK hN hh hF he L)) (hlv L (Nat.le_refl _))
    rw [rStep_e e1] at q5
    obtain ⟨w3, r1, r2, r3, r4, r5⟩ := ih (L + 1) w2 (by omega) (fr_tr hf q2) (fun q hq => ⟨(q3.1 q (by omega)).1.trans (ho q hq).1, (q3.1 q (by omega)).2.trans (ho q hq).2⟩) q4 (fun l hl => by
      by_cases z : l = L + 1
      · rw [z]
        exact q5
      · exact LV_on q3 (by omega) (by omega) (hlv l (by omega)))
    refine ⟨w3, ?_, r2, r3, r4, r5⟩
    rw [← r1, e_Rows_best_6, if_neg (by omega), gd_t (by omega), gd_t (by omega), gd_t (by omega), gd_t (by omega), show 2 * ((n : Int) - 1 - (L : Int)) = 2 * ((n - 1 - L : Nat) : Int) by omega, dg_z x _ hx, ← hdd, q1, bnd]
    dsimp only
    rw [gd_t (by omega)]
    rfl
theorem s_best_1 {d : Nat} (hN : EN w i j Cs) (hh : 0 ≤ w 9 i 2 ∧ w 9 i 2 < 144) (hF : wO0 (opw w i) F) (he : 0 ≤ e ∧ e ≤ 30) (hn : 1 ≤ n ∧ n ≤ 5) (hH : ∀ c, H c = (rAt w i j Cs F e c n).2.2.1) (hR : ∀ c, R c = (rAt w i j Cs F e c n).2.2.2) : ∀ (m x : Nat) (w1 : zW) (l4 l5 l7 : Int), x + m = 4 ^ n → z_fr rC w w1 → (∀ q, q < 6 → w1 4 q = w 4 q ∧ w1 19 q = w 19 q) → EN w1 i j Cs → ((x = 0 ∧ l4 = -1 ∧ LV w1 0 (rBeg w i F e)) ∨ (lvs w i j Cs F e n (x - 1) n w1 ∧ 1 ≤ x ∧ ∃ b : Nat, bst H R (fun x => tnA x n) x b ∧ l4 = b ∧ l5 = H b ∧ l7 = R b)) →
    ∃ b w2, Rows_best_1 (d + 6) n l4 l5 l7 x w1 = some (((b : Nat) : Int), w2) ∧ bst H R (fun x => tnA x n) (4 ^ n) b ∧ z_fr rC w w2 ∧ (∀ q, q < 6 → w2 4 q = w 4 q ∧ w2 19 q = w 19 q) ∧ EN w2 i j Cs := by
  have hp := p4_le (n := n) (by omega)
  have hp1 : 1 ≤ 4 ^ n := Nat.lt_of_le_of_lt (Nat.zero_le _) (tnA_lt 0 n)
  intro m
  induction m with
  | zero =>
    intro x w1 l4 l5 l7 hx hf ho hN1 hinv
    have hxn : x = 4 ^ n := by omega
    rcases hinv with ⟨q, -⟩ | ⟨-, -, b, b1, b2, -⟩
    · omega
    · refine ⟨b, w1, ?_, by rw [← hxn]; exact b1, hf, ho, hN1⟩
      rw [e_Rows_best_1, gd_t (by omega), p4, gd_t (by omega), if_pos (by omega), b2]
  | succ m ih =>
    intro x w1 l4 l5 l7 hx hf ho hN1 hinv
    have hx4 : x < 4096 := by omega
    obtain ⟨L, a1, a2, a3⟩ := s_best_3 (d := d + 5) (l4 := l4) (l5 := l5) (l7 := l7) (w := w1) hn hx4 (n - 1) (Nat.le_refl _)
    have hlv : lvs w i j Cs F e n x L w1 := by
      intro l hl
      rcases hinv with ⟨z1, -, z3⟩ | ⟨z1, z2, -⟩
      · have hL0 : L = 0 := by
          rcases a2 with q | q
          · exact q
          · rw [z1, Nat.zero_div] at q
            exact absurd rfl q
        have hl0 : l = 0 := by omega
        subst hl0
        exact z3
      · have := z1 l (by omega)
        rw [rAt_cong (c := tnA x n) (c' := tnA (x - 1) n) l (fun k hk => ?_)]
        · exact this
        · rw [tnA_dg x n k (by omega), tnA_dg (x - 1) n k (by omega)]
          rcases a2 with q | q
          · omega
          · rw [pre4 q (by omega)]
    obtain ⟨w2, r1, r2, r3, r4, r5⟩ := s_best_6 (d := d) (l4 := l4) (l5 := l5) (l7 := l7) hN hh hF he hn hx4 (n - L) L w1 (by omega) hf ho hN1 hlv
    have h5 := r5 n (Nat.le_refl _)
    have g1 : w2 22 0 n = H (tnA x n) := by rw [h5.1.2.2.1, hH]
    have g2 : w2 23 0 n = R (tnA x n) := by rw [h5.1.2.2.2, hR]
    have hnew : bst H R (fun x => tnA x n) (x + 1) (tnA x n) → ∃ b w3, Rows_best_18 (d + 6) n x ((tnA x n : Nat) : Int) w2 = some (((b : Nat) : Int), w3) ∧ bst H R (fun x => tnA x n) (4 ^ n) b ∧ z_fr rC w w3 ∧ (∀ q, q < 6 → w3 4 q = w 4 q ∧ w3 19 q = w 19 q) ∧ EN w3 i j Cs := fun hb => by
      rw [e_Rows_best_18, gd_t (by omega), gd_t (by omega), gd_t (by omega), g1, g2]
      exact ih (x + 1) w2 _ _ _ (by omega) r2 r3 r4 (Or.inr ⟨r5, by omega, tnA x n, hb, rfl, rfl, rfl⟩)
    have h12 : ∀ sm' : Int, sm' = (if H (tnA x n) = l5 ∧ R (tnA x n) = l7 then 1 else 0) → ∃ b w3, Rows_best_12 (d + 6) n l4 l5 l7 x ((tnA x n : Nat) : Int) sm' w2 = some (((b : Nat) : Int), w3) ∧ bst H R (fun x => tnA x n) (4 ^ n) b ∧ z_fr rC w w3 ∧ (∀ q, q < 6 → w3 4 q = w 4 q ∧ w3 19 q = w 19 q) ∧ EN w3 i j Cs := fun sm' hsm => by
      rw [e_Rows_best_12]
      rcases hinv with ⟨z1, z2, -⟩ | ⟨-, z2, b, b1, b2, b3, b4⟩
      · rw [if_pos z2]
        refine hnew ?_
        rw [z1]
        exact bst_one (f := fun x => tnA x n)
      · have hkeep : (tnA x n = b ∨ btr H R b (tnA x n)) → ∃ b w3, Rows_best_1 (d + 6) n l4 l5 l7 (x + 1 : Nat) w2 = some (((b : Nat) : Int), w3) ∧ bst H R (fun x => tnA x n) (4 ^ n) b ∧ z_fr rC w w3 ∧ (∀ q, q < 6 → w3 4 q = w 4 q ∧ w3 19 q = w 19 q) ∧ EN w3 i j Cs := fun hb =>
          ih (x + 1) w2 _ _ _ (by omega) r2 r3 r4 (Or.inr ⟨r5, by omega, b, bst_keep b1 hb, b2, b3, b4⟩)
        rw [if_neg (by omega), gd_t (by omega)]
        simp only [g1, g2]
        by_cases y1 : l5 < H (tnA x n)
        · rw [if_pos y1]
          exact hnew (bst_new b1 (Or.inl (by show H b < H (tnA x n); omega)))
        · rw [if_neg y1, gd_t (by omega)]
          by_cases y2 : H (tnA x n) = l5
          · rw [if_pos y2, gd_t (by omega)]
            by_cases y3 : R (tnA x n) < l7
            · rw [if_pos y3]
              exact hnew (bst_new b1 (Or.inr ⟨by show H (tnA x n) = H b; omega, Or.inl (by show R (tnA x n) < R b; omega)⟩))
            · rw [if_neg y3]
              by_cases y4 : R (tnA x n) = l7
              · have hs1 : sm' = 1 := by rw [hsm, if_pos ⟨y2, y4⟩]
                rw [hs1, if_neg (show ¬ (1 : Int) = 0 by decide)]
                by_cases y5 : l4 ≤ ((tnA x n : Nat) : Int)
                · rw [if_pos y5, gd_t (by omega)]
                  refine hkeep ?_
                  rcases Nat.lt_or_ge b (tnA x n) with q | q
                  · exact Or.inr (Or.inr ⟨by omega, Or.inr ⟨by omega, q⟩⟩)
                  · exact Or.inl (by omega)
                · rw [if_neg y5]
                  exact hnew (bst_new b1 (Or.inr ⟨by show H (tnA x n) = H b; omega, Or.inr ⟨by show R (tnA x n) = R b; omega, by show tnA x n < b; omega⟩⟩))
              · have hs0 : sm' = 0 := by rw [hsm, if_neg (fun z => y4 z.2)]
                rw [hs0, if_pos (show (0 : Int) = 0 from rfl), gd_t (by omega)]
                exact hkeep (Or.inr (Or.inr ⟨by omega, Or.inl (by omega)⟩))
          · have hs0 : sm' = 0 := by rw [hsm, if_neg (fun z => y2 z.1)]
            rw [if_neg y2, hs0, if_pos (show (0 : Int) = 0 from rfl), gd_t (by omega)]
            exact hkeep (Or.inr (Or.inl (by omega)))
    rw [e_Rows_best_1, gd_t (by omega), p4, gd_t (by omega), if_neg (by omega), gd_t (by omega)]
    rw [show n - 1 - (n - 1) = 0 by omega, Nat.pow_zero, Nat.div_one, show ((n - 1 : Nat) : Int) = (n : Int) - 1 by omega] at a3
    rw [a3, r1, e_Rows_best_6, if_pos (by omega), s_turnedAround (by omega) hx4, bnd]
    dsimp only
    rw [gd_t (by omega)]
    simp only [g1, g2]
    rw [gd_t (by omega)]
    by_cases y1 : H (tnA x n) = l5
    · rw [if_pos y1]
      by_cases y2 : R (tnA x n) = l7
      · rw [if_pos y2]
        exact h12 1 (by rw [if_pos ⟨y1, y2⟩])
      · rw [if_neg y2]
        exact h12 0 (by rw [if_neg (fun z => y2 z.2)])
    · rw [if_neg y1]
      exact h12 0 (by rw [if_neg (fun z => y1 z.1)])
end
theorem p_soon {LS RX : Int → List clau} {w : zW} {d : Nat} (hS : Sim LS RX w) (a1 : Int) : ∃ r w1 w2, D_soon (d + 12) a1 w = some (r, w1) ∧ M_soon (d + 12) a1 w1 = some (r, w2) ∧ Sim LS RX w2 := by
  rcases hS.bgn with ⟨b1, b2, -⟩ | ⟨hb, hB, hE⟩
  · refine ⟨-1, w, w, ?_, ?_, hS⟩
    · rw [e_D_soon, if_pos b1]
    · rw [e_M_soon, m_isWalk, bnd, if_pos b2, if_pos rfl]
  have hnw : ¬ w 70 0 0 = -1 := by have := hB.2.1.2.1; omega
  by_cases h1 : 1 ≤ a1 ∧ a1 ≤ 5
  · obtain ⟨n, rfl⟩ : ∃ n : Nat, a1 = n := ⟨a1.toNat, by omega⟩
    have hh := hE.2.1.home.1
    have hwt := hB.wt
    have hi : w 70 0 0 = w 7 0 0 := hE.2.2.2.1.1
    have hF0 : wO0 (opw w (w 7 0 0)) (w 19 0) := by
      rw [← hi]
      exact hB.2.2.2.2.2.2.2.2.2.1.w0
    obtain ⟨b1, b2, b3, b4, b5, b6, b7, b8, b9, b10, b11⟩ := hB
    obtain ⟨w1, p1, p2, p3, p4', p5⟩ := s_rowsBegin (d := d + 7) (o := 0) (by omega) hE.1 hh hF0 (by omega) (by omega)
    obtain ⟨b, w2, q1, q2, q3, q4, q5⟩ := s_best_1 (d := d + 5) (n := n) (e := w 4 0 3) (F := w 19 0) (H := fun c => (rAt w (w 7 0 0) (w 7 0 1) (LS (w 7 0 1)) (w 19 0) (w 4 0 3) c n).2.2.1) (R := fun c => (rAt w (w 7 0 0) (w 7 0 1) (LS (w 7 0 1)) (w 19 0) (w 4 0 3) c n).2.2.2) hE.1 hh hF0 (by omega) (by omega) (fun _ => rfl) (fun _ => rfl) (4 ^ n) 0 w1 (-1) 0 0 (by omega) p2 (fun q hq => p3.1 q (by omega)) p4' (Or.inl ⟨rfl, rfl, p5⟩)
    have ee := rC_e q3
    have h70 : w2 70 = w 70 := q3 70 (by decide)
    have hE2 : ENV w2 (w 7 0 0) (w 7 0 1) (LS (w 7 0 1)) := ⟨q5, RW_fr (fun c hc => q3 c (by revert hc; revert c; decide)) hE.2.1, Rlw_fr (fun c hc => q3 c (by revert hc; revert c; decide)) hE.2.2.1, by rw [h70]; exact hE.2.2.2.1, hE.2.2.2.2⟩
    have hwM : wtM w2 70 6 = wtM w 70 6 := by unfold wtM; rw [h70]
    obtain ⟨b', w3, r1, r2, r3⟩ := m_soon_4 (d := d + 6) (n := n) (H := fun c => (rAt w (w 7 0 0) (w 7 0 1) (LS (w 7 0 1)) (w 19 0) (w 4 0 3) c n).2.2.1) (R := fun c => (rAt w (w 7 0 0) (w 7 0 1) (LS (w 7 0 1)) (w 19 0) (w 4 0 3) c n).2.2.2) hE2 (by omega) (by rw [hwM, opw_e ee, ← hi]; exact hwt.2.w0) (by rw [h70]; omega) (fun c => by
      have hq := rAt_eq (w := w) (i := w 7 0 0) (j := w 7 0 1) (Cs := LS (w 7 0 1)) (e := w 70 0 5) (code := c) hh hwt.1 n
      rw [hwM, h70, rAt_e ee, ← hq.2, b8.1]) (fun c => by
      have hq := rAt_eq (w := w) (i := w 7 0 0) (j := w 7 0 1) (Cs := LS (w 7 0 1)) (e := w 70 0 5) (code := c) hh hwt.1 n
      rw [hwM, h70, rAt_e ee, ← hq.2, b8.1]) (4 ^ n) 0 w2 (-1) 0 0 (by omega) (mF_rf _ _ _) (Or.inl ⟨rfl, rfl⟩)
    have hbb : b = b' := bst_uniq q2 r2 (fun x hx => ⟨tnA x n, tnA_lt x n, rfl⟩) (fun x hx => ⟨tnA x n, tnA_lt x n, tnA_tnA hx⟩)
    refine ⟨(b : Int), w2, w3, ?_, ?_, Sim_rows hS q3 q4 q5 rfl rfl r3⟩
    · rw [e_D_soon, if_neg (by omega), if_neg (by omega), if_pos (by omega), e_Rows_best, p1, bnd]
      dsimp only
      have q1' : Rows_best_1 (d + 11) n (-1) 0 0 0 w1 = _ := q1
      rw [q1', bnd]
    · rw [e_M_soon, m_isWalk, bnd, h70, if_neg hnw]
      dsimp only
      rw [if_neg (by decide), m_in, bnd, if_pos h1]
      dsimp only
      rw [if_neg (by decide), hbb]
      exact r1
  · refine ⟨-1, w, w, ?_, ?_, hS⟩
    · rw [e_D_soon, if_neg (by omega)]
      by_cases z : a1 < 1
      · rw [if_pos z]
      · rw [if_neg z, if_neg (by omega)]
    · rw [e_M_soon, m_isWalk, bnd, if_neg hnw]
      dsimp only
      rw [if_neg (by decide), m_in, bnd, if_neg h1, if_pos rfl]
