/-! THE STEP: the model's going -/
def nbr (C R : Int) (wall : Int → Int) (k : Int) : Int := if k % 4 = 0 then openAt C R wall (k / 4 % 12) (k / 4 / 12 - 1) else if k % 4 = 1 then openAt C R wall (k / 4 % 12 + 1) (k / 4 / 12) else if k % 4 = 2 then openAt C R wall (k / 4 % 12) (k / 4 / 12 + 1) else openAt C R wall (k / 4 % 12 - 1) (k / 4 / 12)
theorem openAt_bd {C R x y : Int} {wall : Int → Int} (hC : C ≤ 12) (hR : R ≤ 12) : -1 ≤ openAt C R wall x y ∧ openAt C R wall x y < 144 := by
  unfold openAt
  by_cases h : 0 ≤ x ∧ 0 ≤ y ∧ x < C ∧ y < R ∧ ¬ wall (y * 12 + x) = 1
  · rw [if_pos h]; omega
  · rw [if_neg h]; omega
theorem nbr_bd {C R : Int} {wall : Int → Int} (hC : C ≤ 12) (hR : R ≤ 12) : nxB (nbr C R wall) := fun k _ _ => by
  unfold nbr
  split
  · exact openAt_bd hC hR
  · split
    · exact openAt_bd hC hR
    · split
      · exact openAt_bd hC hR
      · exact openAt_bd hC hR
theorem openAt_P {C R x y : Int} {wall : Int → Int} (hC : C ≤ 12) (hR : R ≤ 12) (hw : ∀ c, 0 ≤ c → c < 144 → wall c = 0 ∨ wall c = 1) (h : openAt C R wall x y ≠ -1) : opn C R wall (openAt C R wall x y) := by
  unfold openAt at *
  by_cases q : 0 ≤ x ∧ 0 ≤ y ∧ x < C ∧ y < R ∧ ¬ wall (y * 12 + x) = 1
  · rw [if_pos q]
    obtain ⟨q0, q1, q2, q3, q4⟩ := q
    have := hw (y * 12 + x) (by omega) (by omega)
    refine ⟨by omega, by omega, ?_⟩
    rcases this with z | z
    · exact z
    · exact absurd z q4
  · rw [if_neg q] at h
    exact absurd rfl h
theorem nbr_P {C R : Int} {wall : Int → Int} (hC : C ≤ 12) (hR : R ≤ 12) (hw : ∀ c, 0 ≤ c → c < 144 → wall c = 0 ∨ wall c = 1) : nxP (opn C R wall) (nbr C R wall) := fun k _ _ => by
  unfold nbr
  split
  · exact openAt_P hC hR hw
  · split
    · exact openAt_P hC hR hw
    · split
      · exact openAt_P hC hR hw
      · exact openAt_P hC hR hw
def MS (w : zW) (i j C R : Int) (nx : Int → Int) : Prop := w 70 0 0 = i ∧ (0 ≤ i ∧ i < 4) ∧ w 70 0 1 = j ∧ (0 ≤ j ∧ j < 6) ∧ w 58 0 (12 + i) = C ∧ (0 ≤ C ∧ C ≤ 12) ∧ w 59 0 (12 + i) = R ∧ (0 ≤ R ∧ R ≤ 12) ∧ nx = nbr C R (md w i 1)
theorem MS_fr {w w' : zW} {i j C R : Int} {nx : Int → Int} (h : MS w i j C R nx) (h58 : w' 58 = w 58) (h59 : w' 59 = w 59) (h64 : w' 64 = w 64) (h0 : w' 70 0 0 = w 70 0 0) (h1 : w' 70 0 1 = w 70 0 1) : MS w' i j C R nx := by
  unfold MS md at *
  rw [h0, h1, h58, h59, h64]
  exact h
theorem MS_m {w w' : zW} {i j C R : Int} {nx : Int → Int} (h : MS w i j C R nx) (hf : mfr w w') : MS w' i j C R nx :=
  MS_fr h (hf.1 58 (by decide) (by decide) (by decide) (by decide)) (hf.1 59 (by decide) (by decide) (by decide) (by decide)) (hf.1 64 (by decide) (by decide) (by decide) (by decide)) (by rw [hf.1 70 (by decide) (by decide) (by decide) (by decide)]) (by rw [hf.1 70 (by decide) (by decide) (by decide) (by decide)])
theorem m_beside_10 {d : Nat} {i j C R x y y1 : Int} {nx : Int → Int} {w : zW} (h : MS w i j C R nx) (hy : 0 ≤ y ∧ y < 12) (hy1 : -1 ≤ y1 ∧ y1 ≤ 1) (hx : -1 ≤ x ∧ x ≤ 12) : M_beside_10 (d + 2) i x y y1 w = some (openAt C R (md w i 1) x (y + y1), w) := by
  obtain ⟨h1, h2, h3, h4, h5, h6, h7, h8, -⟩ := h
  rw [e_M_beside_10, gd_t (by omega), m_isInWood h2 (by omega) (by omega), bnd]
  dsimp only
  rw [h5, h7]
  unfold openAt
  by_cases q : 0 ≤ x ∧ 0 ≤ y + y1 ∧ x < C ∧ y + y1 < R
  · rw [if_pos q, if_neg (by decide), gd_t (by omega), gd_t (by omega), m_at h2 (by decide) (by omega), bnd]
    dsimp only
    have hm : w 64 0 (144 * (6 * i + 1) + (12 * (y + y1) + x)) = md w i 1 ((y + y1) * 12 + x) := by
      unfold md
      rw [Int.mul_comm 12 (y + y1)]
    rw [hm]
    by_cases z : md w i 1 ((y + y1) * 12 + x) = 1
    · rw [if_pos z, if_neg (fun k => k.2.2.2.2 z)]
    · rw [if_neg z, if_pos ⟨q.1, q.2.1, q.2.2.1, q.2.2.2, z⟩, gd_t (by omega), gd_t (by omega), Int.mul_comm 12 (y + y1)]
  · rw [if_neg q, if_pos rfl, if_neg (fun k => q ⟨k.1, k.2.1, k.2.2.1, k.2.2.2.1⟩)]
theorem m_beside {d : Nat} {i j C R c v : Int} {nx : Int → Int} {w : zW} (h : MS w i j C R nx) (hc : 0 ≤ c ∧ c < 144) (hv : 0 ≤ v ∧ v < 4) : M_beside (d + 2) i c v w = some (nx (4 * c + v), w) := by
  have hnx : nx = nbr C R (md w i 1) := h.2.2.2.2.2.2.2.2
  rw [e_M_beside, gd_t (by omega), hnx]
  unfold nbr
  rw [show (4 * c + v) % 4 = v by omega, show (4 * c + v) / 4 = c by omega]
  have : v = 0 ∨ v = 1 ∨ v = 2 ∨ v = 3 := by omega
  rcases this with rfl | rfl | rfl | rfl
  · rw [if_neg (by decide), if_neg (by decide), e_M_beside_5, gd_t (by omega), gd_t (by omega), if_neg (by decide), if_pos rfl, m_beside_10 h (by omega) (by omega) (by omega), if_pos rfl, Int.add_zero]
    rfl
  · rw [if_pos rfl, e_M_beside_5, gd_t (by omega), gd_t (by omega), if_neg (by decide), if_neg (by decide), m_beside_10 h (by omega) (by omega) (by omega), if_neg (by decide), if_pos rfl, Int.add_zero]
  · rw [if_neg (by decide), if_neg (by decide), e_M_beside_5, gd_t (by omega), gd_t (by omega), if_pos rfl, m_beside_10 h (by omega) (by omega) (by omega), if_neg (by decide), if_neg (by decide), if_pos rfl, Int.add_zero]
  · rw [if_neg (by decide), if_pos rfl, e_M_beside_5, gd_t (by omega), gd_t (by omega), if_neg (by decide), if_neg (by decide), m_beside_10 h (by omega) (by omega) (by omega), if_neg (by decide), if_neg (by decide), if_neg (by decide), Int.add_zero]
    rfl
theorem m_comes {d : Nat} {i j C R c al v x : Int} {nx X : Int → Int} {w : zW} (h : MS w i j C R nx) (hc : 0 ≤ c ∧ c < 144) (hal : 0 ≤ al ∧ al < 4) (hv : 0 ≤ v ∧ v < 4) (hx : 0 ≤ X (come nx c v al) + x ∧ X (come nx c v al) + x ≤ 2147483647) : M_comes (d + 3) c al v x (z_row w 72 0 X) = some (0, z_row w 72 0 (inc X (come nx c v al) x)) := by
  have h' : MS (z_row w 72 0 X) i j C R nx := MS_m h mfr_72
  have hb := nbr_bd (C := C) (R := R) (wall := md w i 1) h.2.2.2.2.2.1.2 h.2.2.2.2.2.2.2.1.2 (4 * c + al) (by omega) (by omega)
  rw [← h.2.2.2.2.2.2.2.2] at hb
  rw [e_M_comes, m_woodNow, bnd]
  dsimp only
  rw [h'.1, m_beside h' hc hal, bnd]
  dsimp only
  unfold come at *
  by_cases q : nx (4 * c + al) = -1
  · rw [if_pos q] at hx ⊢
    rw [if_neg (by omega)]
    simp only [row_h]
    rw [gd_t (by omega), gd_t (by omega), gd_t (by omega), gd_t (by omega), gd_t (by omega), up_inc]
  · rw [if_neg q] at hx ⊢
    rw [if_pos (by omega)]
    simp only [row_h]
    rw [gd_t (by omega), gd_t (by omega), gd_t (by omega), gd_t (by omega), gd_t (by omega), up_inc]
theorem m_driftBy {d : Nat} {i j C R a dr : Int} {nx : Int → Int} {w : zW} (h : MS w i j C R nx) (ha : 0 ≤ a ∧ a ≤ 1000) (hdr : w 54 0 j = dr) : M_driftBy (d + 1) a w = some (drf dr a, w) := by
  obtain ⟨h1, h2, h3, h4, -⟩ := h
  rw [e_M_driftBy, gd_t (by omega), gd_t (by omega), m_lawNow, bnd]
  dsimp only
  rw [h3, gd_t (by omega)]
  subst hdr
  unfold drf
  by_cases q : (1000 - a) / 2 ≤ w 54 0 j
  · rw [if_pos q, show min (w 54 0 j) ((1000 - a) / 2) = (1000 - a) / 2 by omega]
  · rw [if_neg q, m_lawNow, bnd]
    dsimp only
    rw [h3, gd_t (by omega), show min (w 54 0 j) ((1000 - a) / 2) = w 54 0 j by omega]
