/-! CHANCES: how loud, how well one sees -/
theorem m_seeing {d : Nat} {i j C R e see : Int} {nx : Int → Int} {w : zW} (h : MS w i j C R nx) (hs : w 56 0 j = see) (hb : 0 ≤ see ∧ see ≤ 1000) (he : 0 ≤ e ∧ e ≤ 30) : M_seeing (d + 1) e w = some (max 100 (see * e / 30), w) := by
  obtain ⟨h1, h2, h3, h4, -⟩ := h
  have p0 : 0 ≤ see * e := Int.mul_nonneg hb.1 he.1
  have p1 : see * e ≤ 1000 * 30 := Int.mul_le_mul hb.2 he.2 he.1 (by decide)
  subst hs
  rw [e_M_seeing, m_lawNow, bnd]
  dsimp only
  rw [h3, gd_t (by omega), gd_t (by omega), gd_t (by omega)]
  by_cases q : 100 ≤ w 56 0 j * e / 30
  · rw [if_pos q, show max 100 (w 56 0 j * e / 30) = w 56 0 j * e / 30 by omega]
  · rw [if_neg q, show max 100 (w 56 0 j * e / 30) = 100 by omega]
def lud (n x y c : Int) : Int := max 0 (n - (max (c % 12 - x) (-(c % 12 - x)) + max (c / 12 - y) (-(c / 12 - y))))
theorem m_loudAt {d : Nat} {i s c n x y : Int} {w : zW} (hi : 0 ≤ i ∧ i < 4) (hs : 0 ≤ s ∧ s < 4) (hc : 0 ≤ c ∧ c < 144) (hn : w 63 0 (12 * i + 3 * s) = n) (hx : w 63 0 (12 * i + 3 * s + 1) = x) (hy : w 63 0 (12 * i + 3 * s + 2) = y) (bn : 0 ≤ n ∧ n ≤ 40) (bx : 0 ≤ x ∧ x < 12) (by' : 0 ≤ y ∧ y < 12) : M_loudAt (d + 1) i s c w = some (lud n x y c, w) := by
  subst hn
  subst hx
  subst hy
  rw [e_M_loudAt, gd_t (by omega), gd_t (by omega), gd_t (by omega), gd_t (by omega), gd_t (by omega), gd_t (by omega), gd_t (by omega), gd_t (by omega), m_size (by omega), bnd]
  dsimp only
  rw [gd_t (by omega), gd_t (by omega), gd_t (by omega), gd_t (by omega), gd_t (by omega), m_size (by omega), bnd]
  dsimp only
  rw [gd_t (by omega)]
  unfold lud
  by_cases q : 0 ≤ w 63 0 (12 * i + 3 * s) - max (c % 12 - w 63 0 (12 * i + 3 * s + 1)) (-(c % 12 - w 63 0 (12 * i + 3 * s + 1))) - max (c / 12 - w 63 0 (12 * i + 3 * s + 2)) (-(c / 12 - w 63 0 (12 * i + 3 * s + 2)))
  · rw [if_pos q]
    exact congrArg (fun z => some (z, w)) (by omega)
  · rw [if_neg q]
    exact congrArg (fun z => some (z, w)) (by omega)
