theorem m_signs_1 {d k1 : Nat} {b kd x y e : Int} {w : zW} {ch X0 : Int → Int} (hk : isW k1 b) (hf : wtB (wtM w k1 b)) (hch : chB ch) (hc : ∀ (c : Nat) (X : Int → Int), c < 144 → M_chance d c kd x y e (z_row w 72 0 X) = some (ch c, z_row w 72 0 X)) : ∀ m n : Nat, n + m = 144 →
    M_signs_1 (d + 1) k1 b kd x y e (sm (wgt (wtM w k1 b) ch) (4 * n)) n (z_row w 72 0 (wq2 (wtM w k1 b) ch X0 (4 * n : Nat))) = if sm (wgt (wtM w k1 b) ch) 576 = 0 then some (0, z_row w 72 0 (wq2 (wtM w k1 b) ch X0 576)) else M_signs_9 (d + 1) k1 b (sm (wgt (wtM w k1 b) ch) 576) 0 (z_row w 72 0 (wq2 (wtM w k1 b) ch X0 576)) := by
  intro m
  induction m with
  | zero =>
    intro n hn
    rw [e_M_signs_1, if_pos (by omega), show ((4 * n : Nat) : Int) = 576 by omega, show 4 * n = 576 by omega, gd_t (by decide)]
  | succ m ih =>
    intro n hn
    have h3 := m_signs_3 (d := d + 1) (kd := kd) (x := x) (y := y) (e := e) (X0 := X0) hk hf hch (c := n) (by omega) 4 0 rfl
    rw [Nat.add_zero, show ((0 : Nat) : Int) = 0 from rfl] at h3
    rw [e_M_signs_1, if_neg (by omega), hc n _ (by omega), bnd]
    refine h3.trans ?_
    exact ih (n + 1) (by omega)
theorem m_signs_9 {d k1 : Nat} {b S : Int} {w : zW} (hk : isW k1 b) (hS : 0 < S) (hY : ∀ k, 0 ≤ k → k < 576 → 0 ≤ w 72 0 k ∧ w 72 0 k ≤ 1000000000 ∧ w 72 0 k ≤ S) : ∀ m n : Nat, n + m = 576 →
    M_signs_9 d k1 b S n (z_row w k1 0 (cbF (w k1 0) (nrm (w 72 0) S) b n)) = some (1, z_row w k1 0 (cbF (w k1 0) (nrm (w 72 0) S) b 576)) := by
  obtain ⟨hz, hl, hb0, hb6⟩ := isW_kd hk
  have h72 : 72 ≠ k1 := by rcases hk with ⟨rfl, -⟩ | ⟨rfl, -⟩ <;> decide
  intro m
  induction m with
  | zero =>
    intro n hn
    rw [e_M_signs_9, if_pos (by omega), gd_t (by decide), show (n : Int) = 576 by omega]
  | succ m ih =>
    intro n hn
    have hy := hY n (by omega) (by omega)
    have hq : w 72 0 n * 1000000000 / S ≤ 1000000000 := by
      refine Int.ediv_le_of_le_mul hS ?_
      rw [Int.mul_comm]
      exact Int.mul_le_mul_of_nonneg_left hy.2.2 (by decide)
    have hq0 : 0 ≤ w 72 0 n * 1000000000 / S := Int.ediv_nonneg (by omega) (by omega)
    rw [e_M_signs_9, if_neg (by omega), row_c h72, gd_t (by omega), gd_t (by omega), gd_t (by omega), gd_t (by omega), gd_t (by omega), gd_t ⟨hz, by omega, by omega⟩, gd_t (by omega), row_up]
    have hu := cbF_up (F := w k1 0) (G := nrm (w 72 0) S) (b := b) (n := (n : Int)) (by omega)
    have hg : nrm (w 72 0) S n = w 72 0 n * 1000000000 / S := rfl
    rw [hg] at hu
    rw [hu]
    exact ih (n + 1) (by omega)
