/-- the model's chance of a cell -/
theorem m_chance {d : Nat} {i j C R e a b feel see hear kd : Int} {c : Nat} {nx loud : Int → Int} {w : zW} (h : MS w i j C R nx) (hc : c < 144) (hk : 5 ≤ kd ∧ kd ≤ 8) (hfe : w 55 0 j = feel) (hse : w 56 0 j = see) (hhe : w 57 0 j = hear) (bf : 0 ≤ feel ∧ feel ≤ 1000) (bs : 0 ≤ see ∧ see ≤ 1000) (bh : 0 ≤ hear ∧ hear ≤ 1000) (he : 0 ≤ e ∧ e ≤ 30) (hl : kd = 7 → M_loudAt (d + 1) i a c w = some (loud c, w) ∧ 0 ≤ loud c ∧ loud c ≤ 40 ∧ 0 ≤ b ∧ b ≤ 40) :
    M_chance (d + 2) c kd a b e w = some (chF (kd - 5) a b (md w i 0) (md w i 2) (md w i 3) loud feel (max 100 (see * e / 30)) hear c, w) := by
  have hS := h
  obtain ⟨h1, h2, h3, h4, -⟩ := h
  have p0 : 0 ≤ see * e := Int.mul_nonneg bs.1 he.1
  have p1 : see * e ≤ 1000 * 30 := Int.mul_le_mul bs.2 he.2 he.1 (by decide)
  have e2 : w 64 0 (144 * (6 * i + 2) + c) = md w i 2 c := rfl
  have e3 : w 64 0 (144 * (6 * i + 3) + c) = md w i 3 c := rfl
  have e0 : w 64 0 (144 * (6 * i + 0) + c) = md w i 0 c := rfl
  subst hfe
  subst hhe
  rw [e_M_chance]
  unfold chF
  have : kd = 5 ∨ kd = 6 ∨ kd = 7 ∨ kd = 8 := by omega
  rcases this with rfl | rfl | rfl | rfl
  · rw [if_pos rfl, if_pos (by decide), m_woodNow, bnd]
    dsimp only
    rw [h1, m_at h2 (by decide) (by omega), bnd]
    dsimp only
    rw [e2]
    by_cases q : md w i 2 c = a
    · rw [if_pos q, if_pos q, m_lawNow, bnd]
      dsimp only
      rw [h3, gd_t (by omega)]
    · rw [if_neg q, if_neg q, m_lawNow, bnd]
      dsimp only
      rw [h3, gd_t (by omega), gd_t (by omega), gd_t (by omega)]
  · rw [if_neg (by decide), if_pos rfl, if_neg (by decide), if_pos (by decide), m_woodNow, bnd]
    dsimp only
    rw [h1, m_at h2 (by decide) (by omega), bnd]
    dsimp only
    rw [e3]
    by_cases q : md w i 3 c = a
    · rw [if_pos q, if_pos q, m_seeing hS hse bs he, bnd]
    · rw [if_neg q, if_neg q, m_seeing hS hse bs he, bnd]
      dsimp only
      rw [gd_t (by omega), gd_t (by omega)]
  · obtain ⟨l1, l2, l3, l4, l5⟩ := hl rfl
    rw [if_neg (by decide), if_neg (by decide), if_neg (by decide), if_neg (by decide), if_neg (by decide), if_neg (by decide), m_woodNow, bnd]
    dsimp only
    rw [h1, l1, bnd]
    dsimp only
    rw [gd_t (by omega), m_size (by omega), bnd]
    dsimp only
    by_cases q : max (loud c - b) (-(loud c - b)) = 0
    · rw [if_pos q, if_pos q, m_lawNow, bnd]
      dsimp only
      rw [h3, gd_t (by omega)]
    · rw [if_neg q, if_neg q, m_lawNow, bnd]
      dsimp only
      rw [h3, gd_t (by omega), gd_t (by omega)]
      by_cases q1 : max (loud c - b) (-(loud c - b)) = 1
      · rw [if_pos q1, if_pos q1, gd_t (by omega)]
      · rw [if_neg q1, if_neg q1, gd_t (by omega)]
  · rw [if_neg (by decide), if_neg (by decide), if_pos rfl, if_neg (by decide), if_neg (by decide), if_pos (by decide), m_woodNow, bnd]
    dsimp only
    rw [h1, m_at h2 (by decide) (by omega), bnd]
    dsimp only
    rw [e2]
    by_cases q : md w i 2 c = a
    · rw [if_pos q, if_pos q, m_woodNow, bnd]
      dsimp only
      rw [h1, m_at h2 (by decide) (by omega), bnd]
      dsimp only
      rw [e0]
      by_cases q1 : md w i 0 c = b
      · rw [if_pos q1, if_pos q1]
      · rw [if_neg q1, if_neg q1]
    · rw [if_neg q, if_neg q]
