/-! a wood's areas and sources, laid -/
theorem s_fillIr_1 {d k : Nat} {i v n : Int} {w : zW} (hk : z_kd k = 1) (hn : n ≤ z_ln k) (h3 : z_ln k ≤ 100000) {a : Int} (ha : 0 ≤ a) : ∀ (m : Nat) (b : Int), a ≤ b → b + m = n → J_fillIr_1 d k i n v b (z_row w k i (flF (w k i) a b v)) = some (0, z_row w k i (flF (w k i) a n v)) := by
  intro m
  induction m with
  | zero =>
    intro b hb hm
    rw [e_J_fillIr_1, if_pos (by omega), show b = n by omega]
  | succ m ih =>
    intro b hb hm
    rw [e_J_fillIr_1, if_neg (by omega), gd_t ⟨hk, by omega, by omega⟩, gd_t (by omega), row_up, flF_up hb]
    exact ih (b + 1) (by omega) (by omega)
theorem s_fillIr {d k : Nat} {i v a b : Int} {w : zW} (hk : z_kd k = 1) (h3 : z_ln k ≤ 100000) (ha : 0 ≤ a) (hab : a ≤ b) (hb : b ≤ z_ln k) : J_fillIr (d + 1) k i a b v w = some (0, z_row w k i (flF (w k i) a b v)) := by
  have h := s_fillIr_1 (d := d + 1) (i := i) (v := v) (w := w) hk hb h3 ha (b - a).toNat a (Int.le_refl _) (by omega)
  rw [flF_0, row_self] at h
  rw [e_J_fillIr, gd_t (Or.inl hk), e_J_rangeCheck, if_pos hab, if_pos ha, if_pos hb, bnd]
  exact h
/-- a rectangle of v, its rows from y up to r -/
def rct (F : Int → Int) (x X y r v : Int) : Int → Int := fun c => if (x ≤ c % 12 ∧ c % 12 ≤ X) ∧ y ≤ c / 12 ∧ c / 12 < r then v else F c
theorem rct_0 {F : Int → Int} {x X y v : Int} : rct F x X y y v = F := by
  funext c
  unfold rct
  rw [if_neg (by omega)]
theorem rct_s {F : Int → Int} {x X y r v : Int} (hx : 0 ≤ x ∧ X ≤ 11) (hr : y ≤ r) : flF (rct F x X y r v) (r * 12 + x) (r * 12 + X + 1) v = rct F x X y (r + 1) v := by
  funext c
  unfold flF rct
  by_cases h1 : r * 12 + x ≤ c ∧ c < r * 12 + X + 1
  · rw [if_pos h1, if_pos (by omega)]
  · rw [if_neg h1]
    by_cases h2 : (x ≤ c % 12 ∧ c % 12 ≤ X) ∧ y ≤ c / 12 ∧ c / 12 < r
    · rw [if_pos h2, if_pos (by omega)]
    · rw [if_neg h2, if_neg (by omega)]
theorem s_area_10 {d k : Nat} {i v x X y Y : Int} {w : zW} (hk : z_kd k = 1 ∧ z_ln k = 144) (hx : 0 ≤ x ∧ x ≤ X ∧ X ≤ 11) (hy : 0 ≤ y ∧ Y ≤ 11) : ∀ (m : Nat) (r : Int), y ≤ r → r + m = Y + 1 → Reader_readArea_10 (d + 2) v k i x X Y r (z_row w k i (rct (w k i) x X y r v)) = some (0, z_row w k i (rct (w k i) x X y (Y + 1) v)) := by
  intro m
  induction m with
  | zero =>
    intro r hr hm
    rw [e_Reader_readArea_10, if_pos (by omega), show r = Y + 1 by omega]
  | succ m ih =>
    intro r hr hm
    have hrow : (z_row w k i (rct (w k i) x X y r v)) k i = rct (w k i) x X y r v := funext fun s => row_h s
    rw [e_Reader_readArea_10, if_neg (by omega), gd_t (by omega), gd_t (by omega), gd_t (by omega), gd_t (by omega), gd_t (by omega), s_fillIr hk.1 (by rw [hk.2]; decide) (by omega) (by omega) (by rw [hk.2]; omega), bnd]
    dsimp only
    rw [gd_t (by omega), hrow, row_row, rct_s ⟨hx.1, hx.2.2⟩ hr]
    exact ih (r + 1) (by omega) (by omega)
/-- the same in the model's long row: base b; of row r the cells below cx too -/
def rcm (F : Int → Int) (b x X y r cx v : Int) : Int → Int := fun p => if ((x ≤ (p - b) % 12 ∧ (p - b) % 12 ≤ X) ∧ y ≤ (p - b) / 12 ∧ (p - b) / 12 < r) ∨ ((p - b) / 12 = r ∧ x ≤ (p - b) % 12 ∧ (p - b) % 12 < cx) then v else F p
theorem rcm_0 {F : Int → Int} {b x X y v : Int} : rcm F b x X y y x v = F := by
  funext c
  unfold rcm
  rw [if_neg (by omega)]
theorem rcm_c {F : Int → Int} {b x X y r cx v : Int} (hx : 0 ≤ x ∧ x ≤ cx ∧ cx ≤ 11) : upF (rcm F b x X y r cx v) (b + 12 * r + cx) v = rcm F b x X y r (cx + 1) v := by
  funext p
  unfold upF rcm
  by_cases h1 : p = b + 12 * r + cx
  · rw [if_pos h1, if_pos (by omega)]
  · rw [if_neg h1]
    by_cases h2 : ((x ≤ (p - b) % 12 ∧ (p - b) % 12 ≤ X) ∧ y ≤ (p - b) / 12 ∧ (p - b) / 12 < r) ∨ ((p - b) / 12 = r ∧ x ≤ (p - b) % 12 ∧ (p - b) % 12 < cx)
    · rw [if_pos h2, if_pos (by omega)]
    · rw [if_neg h2, if_neg (by omega)]
theorem rcm_r {F : Int → Int} {b x X y r v : Int} (hx : 0 ≤ x ∧ X ≤ 11) (hr : y ≤ r) : rcm F b x X y r (X + 1) v = rcm F b x X y (r + 1) x v := by
  funext p
  unfold rcm
  by_cases h2 : ((x ≤ (p - b) % 12 ∧ (p - b) % 12 ≤ X) ∧ y ≤ (p - b) / 12 ∧ (p - b) / 12 < r) ∨ ((p - b) / 12 = r ∧ x ≤ (p - b) % 12 ∧ (p - b) % 12 < X + 1)
  · rw [if_pos h2, if_pos (by omega)]
  · rw [if_neg h2, if_neg (by omega)]
theorem m_area_15 {d : Nat} {i q v x X y Y : Int} {w : zW} (hi : 0 ≤ i ∧ i < 4) (hq : 0 ≤ q ∧ q < 6) (h21 : w 11 0 21 = 12 + i) (h20 : w 11 0 20 = Y) (hx : 0 ≤ x ∧ x ≤ X ∧ X ≤ 11) (hy : 0 ≤ y ∧ Y ≤ 11) {r : Int} (hr : y ≤ r ∧ r ≤ Y) : ∀ (m : Nat) (cx : Int), x ≤ cx → cx + m = X + 1 → M_area_15 (d + 1) q v x X r cx (z_row w 64 0 (rcm (w 64 0) (144 * (6 * i + q)) x X y r cx v)) = M_area_13 (d + 1) q v x X (r + 1) (z_row w 64 0 (rcm (w 64 0) (144 * (6 * i + q)) x X y (r + 1) x v)) := by
  have e11 : ∀ F s, (z_row w 64 0 F) 11 0 s = w 11 0 s := fun F s => row_c (by decide)
  intro m
  induction m with
  | zero =>
    intro cx hc hm
    rw [e_M_area_15, if_pos (by omega), gd_t (by omega), show cx = X + 1 by omega, rcm_r ⟨hx.1, hx.2.2⟩ hr.1]
  | succ m ih =>
    intro cx hc hm
    rw [e_M_area_15, if_neg (by omega), gd_t (by rw [e11, h21]; omega), e11, h21, show 12 + i - 12 = i by omega, m_laidAt hi hq, bnd]
    dsimp only
    rw [gd_t (by omega), gd_t (by omega), gd_t (by omega), gd_t (by omega), gd_t (by omega), row_up, rcm_c ⟨hx.1, hc, by omega⟩]
    exact ih (cx + 1) (by omega) (by omega)
theorem m_area_13 {d : Nat} {i q v x X y Y : Int} {w : zW} (hi : 0 ≤ i ∧ i < 4) (hq : 0 ≤ q ∧ q < 6) (h21 : w 11 0 21 = 12 + i) (h20 : w 11 0 20 = Y) (hx : 0 ≤ x ∧ x ≤ X ∧ X ≤ 11) (hy : 0 ≤ y ∧ Y ≤ 11) : ∀ (m : Nat) (r : Int), y ≤ r → r + m = Y + 1 → M_area_13 (d + 1) q v x X r (z_row w 64 0 (rcm (w 64 0) (144 * (6 * i + q)) x X y r x v)) = some (1, z_row w 64 0 (rcm (w 64 0) (144 * (6 * i + q)) x X y (Y + 1) x v)) := by
  have e11 : ∀ F s, (z_row w 64 0 F) 11 0 s = w 11 0 s := fun F s => row_c (by decide)
  intro m
  induction m with
  | zero =>
    intro r hr hm
    rw [e_M_area_13, if_pos (by rw [e11, h20]; omega), gd_t (by decide), show r = Y + 1 by omega]
  | succ m ih =>
    intro r hr hm
    rw [e_M_area_13, if_neg (by rw [e11, h20]; omega), m_area_15 hi hq h21 h20 hx hy ⟨hr, by omega⟩ (X + 1 - x).toNat x (Int.le_refl _) (by omega)]
    exact ih (r + 1) (by omega) (by omega)
/-- a source's loudness at the cells below c -/
def ldF (F : Int → Int) (s n x y c : Int) : Int → Int := fun p => if s * 144 ≤ p ∧ p < s * 144 + c then lud n x y (p - s * 144) else F p
theorem s_addSource_2 {d : Nat} {i n x y s : Int} {w : zW} (hs : w 9 i 3 = s) (h4 : 0 ≤ s ∧ s < 4) (hn : 1 ≤ n ∧ n ≤ 40) (hx : 0 ≤ x ∧ x ≤ 11) (hy : 0 ≤ y ∧ y ≤ 11) : ∀ (m : Nat) (c : Int), 0 ≤ c → c + m = 144 → Wood_addSource_2 d i n x y c (z_row w 32 i (ldF (w 32 i) s n x y c)) = some (0, z_up (z_row w 32 i (ldF (w 32 i) s n x y 144)) 9 i 3 (s + 1)) := by
  have e9 : ∀ F, (z_row w 32 i F) 9 i 3 = s := fun F => (row_c (by decide)).trans hs
  intro m
  induction m with
  | zero =>
    intro c hc hm
    rw [e_Wood_addSource_2, if_pos (by omega), e9, gd_t (by omega), show c = 144 by omega]
  | succ m ih =>
    intro c hc hm
    have hstep : upF (ldF (w 32 i) s n x y c) (s * 144 + c) (max 0 (n - (max (c % 12 - x) (-(c % 12 - x)) + max (c / 12 - y) (-(c / 12 - y))))) = ldF (w 32 i) s n x y (c + 1) := by
      funext p
      unfold upF ldF
      by_cases h1 : p = s * 144 + c
      · rw [if_pos h1, if_pos (by omega)]
        unfold lud
        rw [h1, show s * 144 + c - s * 144 = c by omega]
      · rw [if_neg h1]
        by_cases h2 : s * 144 ≤ p ∧ p < s * 144 + c
        · rw [if_pos h2, if_pos (by omega)]
        · rw [if_neg h2, if_neg (by omega)]
    rw [e_Wood_addSource_2, if_neg (by omega), e9, gd_t (by omega), gd_t (by omega), gd_t (by omega), gd_t (by omega), gd_t (by omega), gd_t (by omega), gd_t (by omega), gd_t (by omega), gd_t (by omega), gd_t (by omega), gd_t (by omega), gd_t (by omega), row_up, hstep]
    exact ih (c + 1) (by omega) (by omega)
theorem s_addSource {d : Nat} {i n x y s : Int} {w : zW} (hs : w 9 i 3 = s) (h4 : 0 ≤ s ∧ s < 4) (hn : 1 ≤ n ∧ n ≤ 40) (hx : 0 ≤ x ∧ x ≤ 11) (hy : 0 ≤ y ∧ y ≤ 11) : Wood_addSource d i n x y w = some (0, z_up (z_row w 32 i (ldF (w 32 i) s n x y 144)) 9 i 3 (s + 1)) := by
  have h := s_addSource_2 (d := d) hs h4 hn hx hy 144 0 (Int.le_refl 0) (by decide)
  have h0 : ldF (w 32 i) s n x y 0 = w 32 i := by
    funext p
    unfold ldF
    rw [if_neg (by omega)]
  rw [h0, row_self] at h
  rw [e_Wood_addSource, if_neg (by omega)]
  exact h
