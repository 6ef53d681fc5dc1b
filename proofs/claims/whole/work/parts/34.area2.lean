/-! all weights together; aim; tells -/
def tot (f : Int → Int) : Int := sm f 576
theorem tot_od (f : Int → Int) : tot f = sm (od f) 144 := sm_od (n := 144)
theorem od_nn {f : Int → Int} (hf : wtB f) : ∀ k : Nat, k < 144 → 0 ≤ od f k := fun k hk => (od_bd hf (by omega)).1
theorem od_tot {f : Int → Int} (hf : wtB f) {c : Int} (h : 0 ≤ c ∧ c < 144) : od f c ≤ tot f := by
  rw [tot_od]
  obtain ⟨n, rfl⟩ : ∃ n : Nat, c = n := ⟨c.toNat, by omega⟩
  exact sm_one (od_nn hf) (by omega)
theorem wv_od {f : Int → Int} (hf : wtB f) {way c : Int} (h : 0 ≤ c ∧ c < 144) : wv f way c ≤ od f c := by
  have k0 := hf (4 * c) (by omega) (by omega)
  have k1 := hf (4 * c + 1) (by omega) (by omega)
  have k2 := hf (4 * c + 2) (by omega) (by omega)
  have k3 := hf (4 * c + 3) (by omega) (by omega)
  unfold wv
  split
  · unfold od
    have : way = 0 ∨ way = 1 ∨ way = 2 ∨ way = 3 := by omega
    rcases this with rfl | rfl | rfl | rfl
    · rw [Int.add_zero]; omega
    · omega
    · omega
    · omega
  · exact Int.le_refl _
theorem area_tot {f : Int → Int} (hf : wtB f) {a b way : Int} : area f a b way ≤ tot f := by
  rw [tot_od]
  refine sm_le fun k hk => ?_
  have := wv_od hf (way := way) (c := (k : Int)) (by omega)
  have := od_nn hf k hk
  unfold arg
  split <;> omega
theorem onp_tot {f path : Int → Int} (hf : wtB f) : onp path f ≤ tot f := by
  rw [tot_od]
  refine sm_le fun k hk => ?_
  have := od_nn hf k hk
  split <;> omega
theorem rsk_tot {f harm : Int → Int} (hf : wtB f) (hh : hmB harm) : rsk harm f ≤ tot f := by
  rw [tot_od]
  refine sm_le fun k hk => ?_
  have h0 := od_nn hf k hk
  have h1 := hh k (by omega) (by omega)
  have : od f k * harm k ≤ od f k * 1000 := Int.mul_le_mul_of_nonneg_left h1.2 h0
  omega
theorem area_all {f : Int → Int} {way : Int} : area f 0 143 way = sm (wv f way) 144 := sm_congr fun c hc => by
  unfold arg
  rw [if_pos (by omega)]
def alg (f : Int → Int) (k : Int) : Int → Int := fun j => if k = 6 ∨ j % 4 = k - 7 then f j else 0
theorem sm_alg {f : Int → Int} {k : Int} (h : 6 ≤ k ∧ k ≤ 10) : ∀ n : Nat, sm (alg f k) (4 * n) = sm (wv f (k - 7)) n := by
  intro n
  induction n with
  | zero => rfl
  | succ n ih =>
    rw [show 4 * (n + 1) = 4 * n + 1 + 1 + 1 + 1 by omega]
    show sm (alg f k) (4 * n) + alg f k ((4 * n : Nat) : Int) + alg f k ((4 * n + 1 : Nat) : Int) + alg f k ((4 * n + 1 + 1 : Nat) : Int) + alg f k ((4 * n + 1 + 1 + 1 : Nat) : Int) = sm (wv f (k - 7)) n + wv f (k - 7) n
    rw [ih, show ((4 * n : Nat) : Int) = 4 * (n : Int) by omega, show ((4 * n + 1 : Nat) : Int) = 4 * (n : Int) + 1 by omega, show ((4 * n + 1 + 1 : Nat) : Int) = 4 * (n : Int) + 2 by omega, show ((4 * n + 1 + 1 + 1 : Nat) : Int) = 4 * (n : Int) + 3 by omega]
    have : k = 6 ∨ k = 7 ∨ k = 8 ∨ k = 9 ∨ k = 10 := by omega
    unfold alg wv od
    rcases this with rfl | rfl | rfl | rfl | rfl
    · rw [if_pos (Or.inl rfl), if_pos (Or.inl rfl), if_pos (Or.inl rfl), if_pos (Or.inl rfl), if_neg (by omega)]
      omega
    · rw [if_pos (by omega), if_neg (by omega), if_neg (by omega), if_neg (by omega), if_pos (by omega), show 4 * (n : Int) + (7 - 7) = 4 * n by omega]
      omega
    · rw [if_neg (by omega), if_pos (by omega), if_neg (by omega), if_neg (by omega), if_pos (by omega), show 4 * (n : Int) + (8 - 7) = 4 * n + 1 by omega]
      omega
    · rw [if_neg (by omega), if_neg (by omega), if_pos (by omega), if_neg (by omega), if_pos (by omega), show 4 * (n : Int) + (9 - 7) = 4 * n + 2 by omega]
      omega
    · rw [if_neg (by omega), if_neg (by omega), if_neg (by omega), if_pos (by omega), if_pos (by omega), show 4 * (n : Int) + (10 - 7) = 4 * n + 3 by omega]
      omega
theorem m_all_11 {d : Nat} {k : Int} {w : zW} (hf : wtB (wtM w 70 6)) (hk : 6 ≤ k ∧ k ≤ 10) (hI : tot (wtM w 70 6) ≤ 2147483647) : ∀ m n : Nat, n + m = 576 →
    M_all_11 d k (sm (alg (wtM w 70 6) k) n) n w = some (area (wtM w 70 6) 0 143 (k - 7), w) := by
  intro m
  induction m with
  | zero =>
    intro n hn
    have h1 := area_bd hf (a := 0) (b := 143) (way := k - 7)
    have h2 := area_tot hf (a := 0) (b := 143) (way := k - 7)
    have h3 : sm (alg (wtM w 70 6) k) n = area (wtM w 70 6) 0 143 (k - 7) := by
      rw [show n = 4 * 144 by omega, sm_alg hk, area_all]
    rw [e_M_all_11, if_pos (by omega), h3]
    exact gd_t (by omega)
  | succ m ih =>
    intro n hn
    have ih' := ih (n + 1) (by omega)
    have hfn := hf n (by omega) (by omega)
    have hb := sm_bd (f := alg (wtM w 70 6) k) (n := n) (B := 1000000000) (fun j hj => by
      have := hf j (by omega) (by omega)
      unfold alg
      split <;> omega)
    have hs : sm (alg (wtM w 70 6) k) (n + 1) = sm (alg (wtM w 70 6) k) n + alg (wtM w 70 6) k n := rfl
    have h14 : ∀ x : Int, x = sm (alg (wtM w 70 6) k) n → alg (wtM w 70 6) k n = wtM w 70 6 n → M_all_14 d k n x w = some (area (wtM w 70 6) 0 143 (k - 7), w) := fun x hx ha => by
      have hw : w 70 0 (6 + (n : Int)) = wtM w 70 6 n := rfl
      rw [e_M_all_14, gd_t (by omega), gd_t (by omega), hw, hx, gd_t (by omega), gd_t (by omega), ← ha, ← hs, ← ih']
      rfl
    rw [e_M_all_11, if_neg (by omega)]
    by_cases h6 : k = 6
    · rw [if_pos h6]
      exact h14 _ rfl (by unfold alg; rw [if_pos (Or.inl h6)])
    · rw [if_neg h6, gd_t (by omega), gd_t (by omega)]
      by_cases h7 : (n : Int) % 4 = k - 7
      · rw [if_pos h7]
        exact h14 _ rfl (by unfold alg; rw [if_pos (Or.inr h7)])
      · have ha : alg (wtM w 70 6) k n = 0 := by unfold alg; rw [if_neg (by omega)]
        rw [ha] at hs
        rw [if_neg h7, gd_t (by omega), gd_t (by omega), ← hs, ← ih']
        rfl
/-! aim -/
def aimG (f : Int → Int) (what line k : Int) : Int → Int := fun c => if line < (if what = 0 then c % 12 else c / 12) + k then od f c else 0
def aimS (f : Int → Int) (what line k : Int) : Int := sm (aimG f what line k) 144
theorem aimG_bd {f : Int → Int} (hf : wtB f) {what line k c : Int} (h : 0 ≤ c ∧ c < 144) : 0 ≤ aimG f what line k c ∧ aimG f what line k c ≤ 4000000000 := by
  have := od_bd hf h
  unfold aimG
  split <;> omega
theorem aimS_bd {f : Int → Int} (hf : wtB f) {what line k : Int} : 0 ≤ aimS f what line k ∧ aimS f what line k ≤ 144 * 4000000000 := sm_bd (n := 144) fun c hc => aimG_bd hf (by omega)
theorem aim_0 {f : Int → Int} {line k : Int} (hl : 0 ≤ line ∧ line < 12) (hk : 0 ≤ k ∧ k ≤ 12) (hx : max 0 (line + 1 - k) < 12) : area f (max 0 (line + 1 - k)) 143 (-1) = aimS f 0 line k := sm_congr fun c hc => by
  unfold arg aimG wv
  rw [if_neg (show ¬ (0 ≤ (-1 : Int) ∧ (-1 : Int) < 4) by omega), if_pos (show (0 : Int) = 0 from rfl)]
  by_cases h : line < (c : Int) % 12 + k
  · rw [if_pos h, if_pos (by omega)]
  · rw [if_neg h, if_neg (by omega)]
theorem aim_1 {f : Int → Int} {line k : Int} (hl : 0 ≤ line ∧ line < 12) (hk : 0 ≤ k ∧ k ≤ 12) (hx : max 0 (line + 1 - k) < 12) : area f (max 0 (line + 1 - k) * 12) 143 (-1) = aimS f 1 line k := sm_congr fun c hc => by
  unfold arg aimG wv
  rw [if_neg (show ¬ (0 ≤ (-1 : Int) ∧ (-1 : Int) < 4) by omega), if_neg (show ¬ (1 : Int) = 0 by omega)]
  by_cases h : line < (c : Int) / 12 + k
  · rw [if_pos h, if_pos (by omega)]
  · rw [if_neg h, if_neg (by omega)]
theorem aim_z {f : Int → Int} {what line k : Int} (hx : 12 ≤ max 0 (line + 1 - k)) : aimS f what line k = 0 := by
  unfold aimS
  rw [← sm_skip (f := aimG f what line k) (m := 0) (n := 144) (by omega) (fun c _ hc => by
    unfold aimG
    by_cases h : what = 0
    · rw [if_pos h, if_neg (by omega)]
    · rw [if_neg h, if_neg (by omega)])]
  rfl
theorem aimS_congr {f g : Int → Int} {what line k : Int} (h : ∀ k, 0 ≤ k → k < 576 → f k = g k) : aimS f what line k = aimS g what line k := sm_congr fun c hc => by
  have ho : od f c = od g c := by
    unfold od
    rw [h _ (by omega) (by omega), h _ (by omega) (by omega), h _ (by omega) (by omega), h _ (by omega) (by omega)]
  unfold aimG
  rw [ho]
theorem m_aim_8 {d : Nat} {what line bar k : Int} {w : zW} (hf : wtB (wtM w 70 6)) (hw : what = 0 ∨ what = 1) (hl : 0 ≤ line ∧ line < 12) (hk : 0 ≤ k ∧ k ≤ 12) : ∀ m n : Nat, n + m = 144 →
    M_aim_8 (d + 1) what line bar k (sm (aimG (wtM w 70 6) what line k) n) n w = if aimS (wtM w 70 6) what line k / 1000000 < bar then M_aim_6 (d + 1) what line bar (k + 1) w else some (k, w) := by
  intro m
  induction m with
  | zero =>
    intro n hn
    have := aimS_bd hf (what := what) (line := line) (k := k)
    rw [show n = 144 by omega]
    have hs : sm (aimG (wtM w 70 6) what line k) 144 = aimS (wtM w 70 6) what line k := rfl
    rw [e_M_aim_8, if_pos (by omega), hs, gd_t (by omega)]
    split
    · exact gd_t (by omega)
    · rfl
  | succ m ih =>
    intro n hn
    have ih' := ih (n + 1) (by omega)
    have hb := sm_bd (f := aimG (wtM w 70 6) what line k) (n := n) (B := 4000000000) (fun j hj => aimG_bd hf (by omega))
    have hod := od_bd hf (c := (n : Int)) (by omega)
    have hs : sm (aimG (wtM w 70 6) what line k) (n + 1) = sm (aimG (wtM w 70 6) what line k) n + aimG (wtM w 70 6) what line k n := rfl
    have h12 : ∀ x : Int, x = (if what = 0 then (n : Int) % 12 else (n : Int) / 12) → 0 ≤ x ∧ x < 12 → M_aim_12 (d + 1) what line bar k n (sm (aimG (wtM w 70 6) what line k) n) x w = if aimS (wtM w 70 6) what line k / 1000000 < bar then M_aim_6 (d + 1) what line bar (k + 1) w else some (k, w) := fun x hx hx2 => by
      rw [e_M_aim_12, gd_t (by omega)]
      have hg : aimG (wtM w 70 6) what line k n = if line < x + k then od (wtM w 70 6) n else 0 := by unfold aimG; rw [hx]
      rw [hg] at hs
      by_cases h : x + k ≤ line
      · rw [if_neg (by omega)] at hs
        rw [if_pos h, gd_t (by omega), gd_t (by omega), ← hs, ← ih']
        rfl
      · rw [if_pos (by omega)] at hs
        rw [if_neg h, m_oddsOf (Or.inl ⟨rfl, rfl⟩) (by omega) hf]
        dsimp only [Option.bind]
        rw [gd_t (by omega), gd_t (by omega), ← hs, ← ih']
        rfl
    rw [e_M_aim_8, if_neg (by omega)]
    by_cases h0 : what = 0
    · rw [if_pos h0, gd_t (by omega)]
      exact h12 _ (by rw [if_pos h0]) (by omega)
    · rw [if_neg h0, gd_t (by omega)]
      exact h12 _ (by rw [if_neg h0]) (by omega)
theorem b_aim {d : Nat} {what line bar : Int} {w : zW} (hf : wtB (w 19 0)) (hg : wtB (wtM w 70 6)) (hE : ∀ k, 0 ≤ k → k < 576 → w 19 0 k = wtM w 70 6 k) (hw : what = 0 ∨ what = 1) (hl : 0 ≤ line ∧ line < 12) : ∀ m k : Nat, k + m = 13 →
    ∃ r, D_aim_8 (d + 2) what line bar k w = some (r, w) ∧ M_aim_6 (d + 1) what line bar k w = some (r, w) := by
  intro m
  induction m with
  | zero =>
    intro k hk
    refine ⟨-2, ?_, ?_⟩
    · rw [e_D_aim_8, if_pos (by omega)]
    · rw [e_M_aim_6, if_pos (by omega)]
  | succ m ih =>
    intro k hk
    obtain ⟨r, ih1, ih2⟩ := ih (k + 1) (by omega)
    have hM : M_aim_6 (d + 1) what line bar k w = if aimS (wtM w 70 6) what line k / 1000000 < bar then M_aim_6 (d + 1) what line bar (k + 1 : Nat) w else some ((k : Int), w) := by
      rw [e_M_aim_6, if_neg (by omega)]
      exact m_aim_8 (d := d) hg hw hl (by omega) 144 0 rfl
    have h13 : ∀ x : Int, 0 ≤ x → x < 144 → area (w 19 0) x 143 (-1) = aimS (w 19 0) what line k → D_aim_13 (d + 2) what line bar k 0 x w = if aimS (wtM w 70 6) what line k / 1000000 < bar then D_aim_8 (d + 2) what line bar (k + 1 : Nat) w else some ((k : Int), w) := fun x h0 h1 h2 => by
      have h3 := aimS_bd hf (what := what) (line := line) (k := k)
      rw [e_D_aim_13, s_inArea hf ⟨h0, h1⟩ (by omega)]
      dsimp only [Option.bind]
      rw [h2, aimS_congr hE] at *
      rw [gd_t (by omega)]
      split
      · exact gd_t (by omega)
      · rfl
    have hD : D_aim_8 (d + 2) what line bar k w = if aimS (wtM w 70 6) what line k / 1000000 < bar then D_aim_8 (d + 2) what line bar (k + 1 : Nat) w else some ((k : Int), w) := by
      rw [e_D_aim_8, if_neg (by omega), gd_t (by omega), gd_t (by omega)]
      by_cases hx : 12 ≤ max 0 (line + 1 - (k : Int))
      · rw [if_pos hx, gd_t (by decide), aim_z hx]
        split
        · exact gd_t (by omega)
        · rfl
      · rw [if_neg hx]
        by_cases h0 : what = 0
        · rw [if_pos h0]
          exact h13 _ (by omega) (by omega) (by rw [h0]; exact aim_0 hl (by omega) (by omega))
        · rw [if_neg h0, gd_t (by omega)]
          exact h13 _ (by omega) (by omega) (by rw [show what = 1 by omega]; exact aim_1 hl (by omega) (by omega))
    rw [hD, hM]
    split
    · exact ⟨r, ih1, ih2⟩
    · exact ⟨_, rfl, rfl⟩
