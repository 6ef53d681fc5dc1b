/-! THE SMALL METHODS: what they answer -/
def cellAt (C R x y : Int) : Int := if 0 ≤ x ∧ 0 ≤ y ∧ x < C ∧ y < R then y * 12 + x else -1
def openAt (C R : Int) (wall : Int → Int) (x y : Int) : Int := if 0 ≤ x ∧ 0 ≤ y ∧ x < C ∧ y < R ∧ ¬ wall (y * 12 + x) = 1 then y * 12 + x else -1
theorem s_cellAt {d : Nat} {i x y : Int} {w : zW} (hC : w 9 i 0 ≤ 12) (hR : w 9 i 1 ≤ 12) : Wood_cellAt d i x y w = some (cellAt (w 9 i 0) (w 9 i 1) x y, w) := by
  rw [e_Wood_cellAt]
  unfold cellAt
  by_cases h1 : x < 0
  · rw [if_pos h1, if_neg (by omega)]
  rw [if_neg h1]
  by_cases h2 : y < 0
  · rw [if_pos h2, if_neg (by omega)]
  rw [if_neg h2]
  by_cases h3 : w 9 i 0 ≤ x
  · rw [if_pos h3, if_neg (by omega)]
  rw [if_neg h3]
  by_cases h4 : y < w 9 i 1
  · rw [if_pos h4, if_pos (by omega), gd_t (by omega), gd_t (by omega)]
  · rw [if_neg h4, if_neg (by omega)]
theorem s_openAt {d : Nat} {i x y : Int} {w : zW} (hC : w 9 i 0 ≤ 12) (hR : w 9 i 1 ≤ 12) : Wood_openAt (d + 1) i x y w = some (openAt (w 9 i 0) (w 9 i 1) (w 34 i) x y, w) := by
  rw [e_Wood_openAt, s_cellAt hC hR]
  unfold cellAt openAt
  show (if (if _ then _ else _) = _ then _ else _) = _
  by_cases h : 0 ≤ x ∧ 0 ≤ y ∧ x < w 9 i 0 ∧ y < w 9 i 1
  · rw [if_pos h, if_neg (by omega), gd_t (by omega)]
    by_cases h2 : w 34 i (y * 12 + x) = 1
    · rw [if_pos h2, if_neg (by rintro ⟨_, _, _, _, q⟩; exact q h2)]
    · rw [if_neg h2, if_pos ⟨h.1, h.2.1, h.2.2.1, h.2.2.2, h2⟩]
  · rw [if_neg h, if_pos rfl, if_neg (fun q => h ⟨q.1, q.2.1, q.2.2.1, q.2.2.2.1⟩)]
theorem s_loudAt {d : Nat} {i s c : Int} {w : zW} (hs : w 9 i 3 ≤ 4) (h0 : 0 ≤ c) (h1 : c < 144) : Wood_loudAt d i s c w = some (if 0 ≤ s ∧ s < w 9 i 3 then w 32 i (s * 144 + c) else -1, w) := by
  rw [e_Wood_loudAt]
  by_cases h2 : s < 0
  · rw [if_pos h2, if_neg (by omega)]
  rw [if_neg h2]
  by_cases h3 : s < w 9 i 3
  · rw [if_pos h3, if_pos (by omega), gd_t (by omega), gd_t (by omega), gd_t (by omega)]
  · rw [if_neg h3, if_neg (by omega)]
theorem s_seeing {d : Nat} {i e : Int} {w : zW} (h0 : 0 ≤ w 2 i 3 ∧ w 2 i 3 ≤ 1000) (h1 : 0 ≤ e ∧ e ≤ 30) : Law_seeing d i e w = some (max 100 (w 2 i 3 * e / 30), w) := by
  have h2 : 0 ≤ w 2 i 3 * e := Int.mul_nonneg h0.1 h1.1
  have h3 : w 2 i 3 * e ≤ 1000 * 30 := Int.mul_le_mul h0.2 h1.2 h1.1 (by decide)
  rw [e_Law_seeing, gd_t (by omega), gd_t (by omega)]
theorem s_turned {d : Nat} {way k : Int} {w : zW} (h : 0 ≤ way ∧ way < 4) : Odds_turned d way k w = some ((way + (if k = 3 then 2 else if k = 1 then 3 else 1)) % 4, w) := by
  rw [e_Odds_turned]
  by_cases h1 : k = 3
  · rw [if_pos h1, if_pos h1, gd_t (by omega), gd_t (by omega)]
  rw [if_neg h1, if_neg h1]
  by_cases h2 : k = 1
  · rw [if_pos h2, if_pos h2, gd_t (by omega), gd_t (by omega)]
  · rw [if_neg h2, if_neg h2, gd_t (by omega), gd_t (by omega)]
theorem s_comeTo {d : Nat} {i c way along : Int} {w : zW} (h0 : 0 ≤ c ∧ c < 144) (h1 : 0 ≤ way ∧ way < 4) (h2 : 0 ≤ along ∧ along < 4) (hb : -1 ≤ w 39 i (c * 4 + along) ∧ w 39 i (c * 4 + along) < 144) : Odds_comeTo d i c way along w = some (if w 39 i (c * 4 + along) = -1 then c * 4 + way else w 39 i (c * 4 + along) * 4 + along, w) := by
  rw [e_Odds_comeTo, gd_t (by omega), gd_t (by omega), gd_t (by omega)]
  by_cases h : w 39 i (c * 4 + along) = -1
  · rw [if_pos h, if_pos h, gd_t (by omega), gd_t (by omega)]
  · rw [if_neg h, if_neg h, gd_t (by omega), gd_t (by omega)]
/-- weights of a row: whole, from 0 to a thousand million -/
def wtB (f : Int → Int) : Prop := ∀ k, 0 ≤ k → k < 576 → 0 ≤ f k ∧ f k ≤ 1000000000
theorem s_weightAt {d : Nat} {o c way : Int} {w : zW} (h0 : 0 ≤ c ∧ c < 144) (hf : wtB (w 19 o)) : Odds_weightAt d o c way w = some (if 0 ≤ way ∧ way < 4 then w 19 o (4 * c + way) else od (w 19 o) c, w) := by
  have k0 := hf (c * 4) (by omega) (by omega)
  have k1 := hf (c * 4 + 1) (by omega) (by omega)
  have k2 := hf (c * 4 + 2) (by omega) (by omega)
  have k3 := hf (c * 4 + 3) (by omega) (by omega)
  have go : Odds_weightAt_3 d o (c * 4) w = some (od (w 19 o) c, w) := by
    rw [e_Odds_weightAt_3, gd_t (by omega), gd_t (by omega), gd_t (by omega), gd_t (by omega), gd_t (by omega), gd_t (by omega), gd_t (by omega), gd_t (by omega), gd_t (by omega), gd_t (by omega)]
    unfold od
    rw [Int.mul_comm c 4]
  rw [e_Odds_weightAt, gd_t (by omega), go]
  by_cases h1 : way < 0
  · rw [if_pos h1, if_neg (by omega)]
  rw [if_neg h1]
  by_cases h2 : 4 ≤ way
  · rw [if_pos h2, if_neg (by omega)]
  · rw [if_neg h2, if_pos (by omega), gd_t (by omega), gd_t (by omega), Int.mul_comm c 4]
theorem s_aheadAt {d : Nat} {c e : Int} {w : zW} (h0 : 0 ≤ c ∧ c < 144) (h1 : 0 ≤ e ∧ e ≤ 30) : Setting_aheadAt d c e w = some (w 26 0 (e * 144 + c), w) := by
  rw [e_Setting_aheadAt, gd_t (by omega), gd_t (by omega), gd_t (by omega)]
theorem s_asideBy {d : Nat} {a : Int} {w : zW} (h0 : 0 ≤ a ∧ a ≤ 1000) : Setting_asideBy d a w = some (min (w 2 (w 7 0 1) 1) ((1000 - a) / 2), w) := by
  rw [e_Setting_asideBy, gd_t (by omega), gd_t (by omega)]
theorem s_isBar {d : Nat} {b : Int} {w : zW} : D_isBar d b w = some (if 1 ≤ b ∧ b ≤ 1000 then 1 else 0, w) := by
  rw [e_D_isBar]
  by_cases h1 : b < 1
  · rw [if_pos h1, if_neg (by omega), gd_t (by omega)]
  rw [if_neg h1]
  by_cases h2 : 1000 < b
  · rw [if_pos h2, if_neg (by omega), gd_t (by omega)]
  · rw [if_neg h2, if_pos (by omega), gd_t (by omega)]
/-! the model's -/
theorem m_in {d : Nat} {v a b : Int} {w : zW} : M_in d v a b w = some (if a ≤ v ∧ v ≤ b then 1 else 0, w) := by
  rw [e_M_in]
  by_cases h1 : v < a
  · rw [if_pos h1, if_neg (by omega), gd_t (by omega)]
  rw [if_neg h1]
  by_cases h2 : b < v
  · rw [if_pos h2, if_neg (by omega), gd_t (by omega)]
  · rw [if_neg h2, if_pos (by omega), gd_t (by omega)]
theorem m_bounded {d : Nat} {v a b : Int} {w : zW} (h : a ≤ b) : M_bounded d v a b w = some (max a (min b v), w) := by
  rw [e_M_bounded]
  by_cases h1 : a ≤ v
  · rw [if_pos h1]
    by_cases h2 : v ≤ b
    · rw [if_pos h2]; congr 2; omega
    · rw [if_neg h2]; congr 2; omega
  · rw [if_neg h1]; congr 2; omega
theorem m_size {d : Nat} {v : Int} {w : zW} (h : -1000000 ≤ v) : M_size d v w = some (max v (-v), w) := by
  rw [e_M_size]
  by_cases h1 : 0 ≤ v
  · rw [if_pos h1]
    by_cases h2 : inI v
    · congr 2; omega
    · congr 2; omega
  · rw [if_neg h1, gd_t (by omega)]; congr 2; omega
theorem m_laidAt {d : Nat} {i k : Int} {w : zW} (h : 0 ≤ i ∧ i < 4) (h1 : 0 ≤ k ∧ k < 6) : M_laidAt d i k w = some (144 * (6 * i + k), w) := by
  rw [e_M_laidAt, gd_t (by omega), gd_t (by omega), gd_t (by omega)]
theorem m_at {d : Nat} {i k c : Int} {w : zW} (h : 0 ≤ i ∧ i < 4) (h1 : 0 ≤ k ∧ k < 6) (h2 : 0 ≤ c ∧ c < 144) : M_at (d + 1) i k c w = some (w 64 0 (144 * (6 * i + k) + c), w) := by
  rw [e_M_at, m_laidAt h h1]
  show gd _ _ = _
  rw [gd_t (by omega), gd_t (by omega)]
theorem m_homeOf {d : Nat} {i : Int} {w : zW} (h : 0 ≤ i ∧ i < 4) (hx : 0 ≤ w 60 0 (12 + i) ∧ w 60 0 (12 + i) < 12) (hy : 0 ≤ w 61 0 (12 + i) ∧ w 61 0 (12 + i) < 12) : M_homeOf d i w = some (12 * w 61 0 (12 + i) + w 60 0 (12 + i), w) := by
  rw [e_M_homeOf, gd_t (by omega), gd_t (by omega), gd_t (by omega), gd_t (by omega), gd_t (by omega), gd_t (by omega)]
theorem m_isInWood {d : Nat} {i x y : Int} {w : zW} (h : 0 ≤ i ∧ i < 4) (hC : 0 ≤ w 58 0 (12 + i) ∧ w 58 0 (12 + i) ≤ 12) (hR : 0 ≤ w 59 0 (12 + i) ∧ w 59 0 (12 + i) ≤ 12) : M_isInWood (d + 1) i x y w = some (if 0 ≤ x ∧ 0 ≤ y ∧ x < w 58 0 (12 + i) ∧ y < w 59 0 (12 + i) then 1 else 0, w) := by
  rw [e_M_isInWood, gd_t (by omega), gd_t (by omega), gd_t (by omega), m_in]
  show (if (if _ then _ else _) = _ then _ else _) = _
  by_cases h1 : 0 ≤ x ∧ x ≤ w 58 0 (12 + i) - 1
  · rw [if_pos h1, if_neg (by decide)]
    dsimp only
    rw [gd_t (by omega), gd_t (by omega), gd_t (by omega), m_in]
    show (if (if _ then _ else _) = _ then _ else _) = _
    by_cases h2 : 0 ≤ y ∧ y ≤ w 59 0 (12 + i) - 1
    · rw [if_pos h2, if_neg (by decide), if_pos (by omega), gd_t (by decide)]
    · rw [if_neg h2, if_pos rfl, if_neg (by omega), gd_t (by decide)]
  · rw [if_neg h1, if_pos rfl, if_neg (by omega), gd_t (by decide)]
theorem m_isText {d : Nat} {s k : Int} {w : zW} (h : 0 ≤ s ∧ s < 3) : M_isText d s k w = some (if 0 ≤ k ∧ k < w 49 0 s then 1 else 0, w) := by
  rw [e_M_isText]
  by_cases h1 : k < 0
  · rw [if_pos h1, if_neg (by omega), gd_t (by decide)]
  rw [if_neg h1, gd_t (by omega)]
  by_cases h2 : w 49 0 s ≤ k
  · rw [if_pos h2, if_neg (by omega), gd_t (by decide)]
  · rw [if_neg h2, if_pos (by omega), gd_t (by decide)]
theorem m_woodNow {d : Nat} {w : zW} : M_woodNow d w = some (w 70 0 0, w) := by
  rw [e_M_woodNow, gd_t (by decide)]
theorem m_lawNow {d : Nat} {w : zW} : M_lawNow d w = some (w 70 0 1, w) := by
  rw [e_M_lawNow, gd_t (by decide)]
theorem m_isWalk {d : Nat} {w : zW} : M_isWalk d w = some (if w 70 0 0 = -1 then 0 else 1, w) := by
  rw [e_M_isWalk, gd_t (by decide)]
  by_cases h : w 70 0 0 = -1
  · rw [if_pos h, if_pos h, gd_t (by decide)]
  · rw [if_neg h, if_neg h, gd_t (by decide)]
theorem m_canAct {d : Nat} {w : zW} : M_canAct (d + 1) w = some (if w 70 0 0 = -1 ∨ 200 ≤ w 70 0 2 then 0 else 1, w) := by
  rw [e_M_canAct, m_isWalk]
  show (if (if _ then _ else _) = _ then _ else _) = _
  by_cases h : w 70 0 0 = -1
  · rw [if_pos h, if_pos rfl, if_pos (Or.inl h), gd_t (by decide)]
  · rw [if_neg h, if_neg (by decide), gd_t (by decide)]
    by_cases h2 : 200 ≤ w 70 0 2
    · rw [if_pos h2, if_pos (Or.inr h2), gd_t (by decide)]
    · rw [if_neg h2, if_neg (by rintro (q | q) <;> contradiction), gd_t (by decide)]
theorem m_canStand {d : Nat} {i x y way : Int} {w : zW} (h : 0 ≤ i ∧ i < 4) (hC : 0 ≤ w 58 0 (12 + i) ∧ w 58 0 (12 + i) ≤ 12) (hR : 0 ≤ w 59 0 (12 + i) ∧ w 59 0 (12 + i) ≤ 12) : M_canStand (d + 2) i x y way w = some (if (0 ≤ x ∧ 0 ≤ y ∧ x < w 58 0 (12 + i) ∧ y < w 59 0 (12 + i)) ∧ w 64 0 (144 * (6 * i + 1) + (12 * y + x)) = 0 ∧ 0 ≤ way ∧ way < 4 then 1 else 0, w) := by
  rw [e_M_canStand, m_isInWood h hC hR]
  show (if (if _ then _ else _) = _ then _ else _) = _
  by_cases h1 : 0 ≤ x ∧ 0 ≤ y ∧ x < w 58 0 (12 + i) ∧ y < w 59 0 (12 + i)
  · rw [if_pos h1, if_neg (by decide), gd_t (by omega), gd_t (by omega), m_at h (by decide) (by omega)]
    show (if _ then _ else _) = _
    by_cases h2 : w 64 0 (144 * (6 * i + 1) + (12 * y + x)) = 0
    · rw [if_pos h2, m_in]
      show (if (if _ then _ else _) = _ then _ else _) = _
      by_cases h3 : 0 ≤ way ∧ way ≤ 3
      · rw [if_pos h3, if_neg (by decide), if_pos ⟨h1, h2, by omega, by omega⟩, gd_t (by decide)]
      · rw [if_neg h3, if_pos rfl, if_neg (fun q => h3 ⟨q.2.2.1, by omega⟩), gd_t (by decide)]
    · rw [if_neg h2, if_neg (fun q => h2 q.2.1), gd_t (by decide)]
  · rw [if_neg h1, if_pos rfl, if_neg (fun q => h1 q.1), gd_t (by decide)]
theorem m_later {d : Nat} {e : Int} {w : zW} (h : 0 ≤ e) : M_later d e w = some (min 30 (e + 1), w) := by
  rw [e_M_later]
  by_cases h1 : 30 ≤ e
  · rw [if_pos h1]; congr 2; omega
  · rw [if_neg h1, gd_t (by omega)]; congr 2; omega
theorem m_turned {d : Nat} {way k : Int} {w : zW} (h : 0 ≤ way ∧ way < 4) : M_turned d way k w = some ((way + (if k = 1 then 3 else if k = 2 then 1 else 2)) % 4, w) := by
  rw [e_M_turned]
  by_cases h1 : k = 1
  · rw [if_pos h1, if_pos h1, gd_t (by omega), gd_t (by omega)]
  rw [if_neg h1, if_neg h1]
  by_cases h2 : k = 2
  · rw [if_pos h2, if_pos h2, gd_t (by omega), gd_t (by omega)]
  · rw [if_neg h2, if_neg h2, gd_t (by omega), gd_t (by omega)]
/-- a row of weights in one of the model's arrays -/
def wtM (w : zW) (k : Nat) (b : Int) : Int → Int := fun j => w k 0 (b + j)
theorem m_oddsOf {d k : Nat} {b c : Int} {w : zW} (hk : (k = 70 ∧ b = 6) ∨ (k = 71 ∧ b = 0)) (h0 : 0 ≤ c ∧ c < 144) (hf : wtB (wtM w k b)) : M_oddsOf d k b c w = some (od (wtM w k b) c, w) := by
  have k0 := hf (4 * c) (by omega) (by omega)
  have k1 := hf (4 * c + 1) (by omega) (by omega)
  have k2 := hf (4 * c + 2) (by omega) (by omega)
  have k3 := hf (4 * c + 3) (by omega) (by omega)
  unfold od
  unfold wtM at *
  rw [← Int.add_assoc] at k1 k2 k3
  rw [e_M_oddsOf]
  have hz : z_kd k = 1 := by rcases hk with ⟨rfl, -⟩ | ⟨rfl, -⟩ <;> rfl
  have hl : b + 576 ≤ z_ln k ∧ 0 ≤ b ∧ b ≤ 6 := by rcases hk with ⟨rfl, rfl⟩ | ⟨rfl, rfl⟩ <;> decide
  rw [gd_t (by omega), gd_t (by omega), gd_t ⟨hz, by omega, by omega⟩, gd_t (by omega), gd_t ⟨hz, by omega, by omega⟩, gd_t (by omega), gd_t (by omega), gd_t ⟨hz, by omega, by omega⟩, gd_t (by omega), gd_t (by omega), gd_t ⟨hz, by omega, by omega⟩, gd_t (by omega)]
  simp only [Int.add_assoc]
