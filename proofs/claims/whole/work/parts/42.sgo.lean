/-! THE STEP: the class's -/
def flF (F : Int → Int) (a b v : Int) : Int → Int := fun s => if a ≤ s ∧ s < b then v else F s
theorem flF_up {F : Int → Int} {a b v : Int} (h : a ≤ b) : upF (flF F a b v) b v = flF F a (b + 1) v := by
  funext s
  unfold upF flF
  by_cases h1 : s = b
  · rw [if_pos h1, if_pos (by omega)]
  · rw [if_neg h1]
    by_cases h2 : a ≤ s ∧ s < b
    · rw [if_pos h2, if_pos (by omega)]
    · rw [if_neg h2, if_neg (by omega)]
theorem flF_0 {F : Int → Int} {a v : Int} : flF F a a v = F := by
  funext s
  unfold flF
  rw [if_neg (by omega)]
theorem s_fillL_1 {d k : Nat} {i v n : Int} {w : zW} (hk : z_kd k = 4) (hn : n ≤ z_ln k) (h3 : z_ln k ≤ 100000) {a : Int} (ha : 0 ≤ a) : ∀ (m : Nat) (b : Int), a ≤ b → b + m = n → J_fillL_1 d k i v b n (z_row w k i (flF (w k i) a b v)) = some (0, z_row w k i (flF (w k i) a n v)) := by
  intro m
  induction m with
  | zero =>
    intro b hb hm
    rw [e_J_fillL_1, if_pos (by omega), show b = n by omega]
  | succ m ih =>
    intro b hb hm
    rw [e_J_fillL_1, if_neg (by omega), gd_t ⟨hk, by omega, by omega⟩, gd_t (by omega), row_up, flF_up hb]
    exact ih (b + 1) (by omega) (by omega)
theorem s_fillL {d k : Nat} {i v : Int} {w : zW} (hk : z_kd k = 4) (h3 : 0 ≤ z_ln k ∧ z_ln k ≤ 100000) : J_fillL d k i v w = some (0, z_row w k i (flF (w k i) 0 (z_ln k) v)) := by
  have h := s_fillL_1 (d := d) (i := i) (v := v) (w := w) hk (Int.le_refl _) h3.2 (Int.le_refl 0) (z_ln k).toNat 0 (by omega) (by omega)
  rw [flF_0, row_self] at h
  rw [e_J_fillL, gd_t (Or.inr hk), h]
theorem up_inc {w : zW} {c : Nat} {i k x : Int} {X : Int → Int} : z_up (z_row w c i X) c i k (X k + x) = z_row w c i (inc X k x) := by
  rw [row_up]
  congr 1
  funext s
  unfold upF inc
  by_cases h : s = k
  · rw [if_pos h, if_pos h, h]
  · rw [if_neg h, if_neg h]
theorem s_come {d : Nat} {i c way along : Int} {w : zW} {X : Int → Int} (h0 : 0 ≤ c ∧ c < 144) (h1 : 0 ≤ way ∧ way < 4) (h2 : 0 ≤ along ∧ along < 4) (hn : nxB (w 39 i)) : Odds_comeTo d i c way along (z_row w 25 0 X) = some (come (w 39 i) c way along, z_row w 25 0 X) := by
  have hb := hn (c * 4 + along) (by omega) (by omega)
  rw [s_comeTo h0 h1 h2 (by rw [row_c (by decide)]; exact hb), row_c (by decide)]
  unfold come
  rw [Int.mul_comm c 4]
  by_cases h : w 39 i (4 * c + along) = -1
  · rw [if_pos h, if_pos h]
  · rw [if_neg h, if_neg h, Int.mul_comm 4 (w 39 i (4 * c + along))]
theorem s_go_3 {d : Nat} {o i k a dd : Int} {c : Nat} {w : zW} (hc : c < 144) (hn : nxB (w 39 i)) (hf : ∀ k, 0 ≤ k → k < 576 → 0 ≤ w 19 o k) (hT : tot (w 19 o) ≤ 1000000000) (had : adB a dd) (hk : 0 ≤ k ∧ k < 144) : ∀ (m v : Nat) (X : Int → Int), v + m = 4 → okX X (sm (w 19 o) (4 * c + v)) →
    Odds_go_3 (d + 1) o i k c a dd v (z_row w 25 0 X) = Odds_go_1 (d + 1) o i (k + 1) (z_row w 25 0 (go4 (w 19 o) (w 39 i) a dd c m v X)) := by
  intro m
  induction m with
  | zero =>
    intro v X hv hX
    rw [e_Odds_go_3, if_pos (by omega), gd_t (by omega)]
    rfl
  | succ m ih =>
    intro v X hv hX
    have hF := hf (4 * (c : Int) + v) (by omega) (by omega)
    have hs : sm (w 19 o) (4 * c + (v + 1)) = sm (w 19 o) (4 * c + v) + w 19 o (4 * (c : Int) + v) := by
      show sm (w 19 o) (4 * c + v) + w 19 o ((4 * c + v : Nat) : Int) = _
      rw [show ((4 * c + v : Nat) : Int) = 4 * (c : Int) + v by omega]
    have hle : sm (w 19 o) (4 * c + (v + 1)) ≤ tot (w 19 o) := sm_mono (fun j hj => hf j (by omega) (by omega)) (by omega)
    have h1 := go1_ok (F := w 19 o) (c := (c : Int)) (v := (v : Int)) hX hn (by omega) (by omega) hF had
    rw [← hs] at h1
    have hnn := ok_nn hX
    obtain ⟨k1, k2, k3, k4, k5, k6, k7⟩ := parts_bd hF had
    have c1 := come_bd hn (c := (c : Int)) (way := v) (along := v) (by omega) (by omega) (by omega)
    have c2 := come_bd hn (c := (c : Int)) (way := v) (along := ((v : Int) + 3) % 4) (by omega) (by omega) (by omega)
    have c3 := come_bd hn (c := (c : Int)) (way := v) (along := ((v : Int) + 1) % 4) (by omega) (by omega) (by omega)
    have e1 := inc_ok hX (a := 4 * (c : Int) + v) (by omega) k7
    have e2 := inc_ok e1 c1 k5
    have e3 := inc_ok e2 c2 k6
    have r19 : ∀ (Y : Int → Int) (j : Int), (z_row w 25 0 Y) 19 o j = w 19 o j := fun Y j => row_c (by decide)
    have b0 := ok_le hX (k := 4 * (c : Int) + v) (by omega) (by omega)
    have b1 := ok_le e1 c1.1 c1.2
    have b2 := ok_le e2 c2.1 c2.2
    have b3 := ok_le e3 c3.1 c3.2
    rw [e_Odds_go_3, if_neg (by omega), Int.mul_comm (c : Int) 4]
    simp only [r19, row_h]
    rw [gd_t (by omega), gd_t (by omega), gd_t (by omega)]
    by_cases hz : w 19 o (4 * (c : Int) + (v : Int)) = 0
    · rw [if_pos hz, gd_t (by omega)]
      have h2 : okX X (sm (w 19 o) (4 * c + (v + 1))) := by
        rw [hs, hz, Int.add_zero]
        exact hX
      have h3 : go4 (w 19 o) (w 39 i) a dd c (m + 1) v X = go4 (w 19 o) (w 39 i) a dd c m ((v : Int) + 1) X := by
        show go4 (w 19 o) (w 39 i) a dd c m ((v : Int) + 1) (go1 (w 19 o) (w 39 i) a dd c v X) = _
        rw [go1_0 hz]
      rw [h3]
      exact ih (v + 1) X (by omega) h2
    rw [if_neg hz]
    rw [gd_t (by omega), gd_t (by omega), gd_t (by omega), gd_t (by omega), gd_t (by omega), gd_t (by omega), gd_t (by omega), gd_t (by omega), gd_t (by omega), gd_t (by omega), gd_t (by omega), gd_t (by omega)]
    rw [up_inc, s_come (by omega) (by omega) (by omega) hn, bnd]
    dsimp only
    simp only [row_h]
    rw [gd_t (by omega), gd_t (by omega), gd_t (by omega), gd_t (by omega), gd_t (by omega)]
    rw [up_inc, s_come (by omega) (by omega) (by omega) hn, bnd]
    dsimp only
    simp only [row_h]
    rw [gd_t (by omega), gd_t (by omega), gd_t (by omega), gd_t (by omega), gd_t (by omega)]
    rw [up_inc, s_come (by omega) (by omega) (by omega) hn, bnd]
    dsimp only
    simp only [row_h]
    rw [gd_t (by omega), gd_t (by omega), gd_t (by omega), gd_t (by omega), up_inc]
    exact ih (v + 1) _ (by omega) h1
