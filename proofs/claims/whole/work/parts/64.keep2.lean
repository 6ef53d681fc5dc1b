/-! WHAT ACTS KEEP, and that they look at the weights alone -/
theorem od_eqR {X Y : Int → Int} (h : eqR X Y) {c : Int} (c0 : 0 ≤ c) (c1 : c < 144) : od X c = od Y c := by
  unfold od
  rw [h _ (by omega) (by omega), h _ (by omega) (by omega), h _ (by omega) (by omega), h _ (by omega) (by omega)]
theorem rot_eqR {X Y : Int → Int} {s : Int} (h : eqR X Y) : eqR (rot s X) (rot s Y) := fun k k0 k1 => h _ (by omega) (by omega)
theorem wgt_eqR {X Y ch : Int → Int} (h : eqR X Y) : eqR (wgt X ch) (wgt Y ch) := fun k k0 k1 => by
  unfold wgt
  rw [h k k0 k1]
theorem eqR_tr {X Y Z : Int → Int} (h1 : eqR X Y) (h2 : eqR Y Z) : eqR X Z := fun k k0 k1 => (h1 k k0 k1).trans (h2 k k0 k1)
theorem eqR_sy {X Y : Int → Int} (h1 : eqR X Y) : eqR Y X := fun k k0 k1 => (h1 k k0 k1).symm
theorem eqR_rf (X : Int → Int) : eqR X X := fun _ _ _ => rfl
theorem tot_eqR {X Y : Int → Int} (h : eqR X Y) : tot X = tot Y := sm_eqR h
theorem eG_eqR {w : zW} {i j e : Int} {Cs : List clau} {X Y : Int → Int} (h : eqR X Y) : eqR (eG w i j Cs e X) (eG w i j Cs e Y) :=
  goF_eqR (fun _ _ => Iff.rfl) (fun _ _ _ => rfl) h (fun _ _ _ => rfl) (fun _ _ _ => rfl) 144 (by omega)
theorem aS_eqR {w : zW} {i j kd a b e : Int} {X Y : Int → Int} (h : eqR X Y) : aS w i j kd a b e X = aS w i j kd a b e Y := by
  unfold aS
  rw [sm_eqR (wgt_eqR h)]
theorem aW_eqR {w : zW} {i j kd a b e : Int} {Cs : List clau} {X Y : Int → Int} (h : eqR X Y) : eqR (aW w i j Cs kd a b e X) (aW w i j Cs kd a b e Y) := by
  unfold aW
  by_cases h0 : kd = 0
  · rw [if_pos h0, if_pos h0]
    exact eG_eqR h
  · rw [if_neg h0, if_neg h0]
    by_cases h1 : kd ≤ 3
    · rw [if_pos h1, if_pos h1]
      exact rot_eqR h
    · rw [if_neg h1, if_neg h1]
      by_cases h2 : kd = 4
      · rw [if_pos h2, if_pos h2]
        exact h
      · rw [if_neg h2, if_neg h2, sm_eqR (wgt_eqR h)]
        by_cases h3 : 0 < sm (wgt Y (eCh w i j kd a b e)) 576
        · rw [if_pos h3, if_pos h3]
          exact nrm_eqR (wgt_eqR h)
        · rw [if_neg h3, if_neg h3]
          exact h
theorem wO0_eq {P : Int → Prop} {F G : Int → Int} (h : wO0 P F) (he : eqR G F) : wO0 P G := by
  obtain ⟨h1, h2, h4⟩ := h
  exact ⟨fun k k0 k1 => by rw [he k k0 k1]; exact h1 k k0 k1, fun c hc hp k k0 k1 => by rw [he k (by omega) (by omega)]; exact h2 c hc hp k k0 k1, by rw [tot_eqR he]; exact h4⟩
theorem wO0_rot {P : Int → Prop} {F : Int → Int} {s : Int} (h : wO0 P F) : wO0 P (rot s F) := by
  rw [rot_mod (t := s % 4) (by omega)]
  obtain ⟨h1, h2, h4⟩ := h
  have ht : tot (rot (s % 4) F) = tot F := by
    rw [tot_od, tot_od]
    exact sm_congr fun c _ => rot_od (by omega) c
  refine ⟨fun k k0 k1 => h1 _ (by omega) (by omega), fun c hc hp k k0 k1 => ?_, by rw [ht]; exact h4⟩
  exact h2 c hc hp _ (by omega) (by omega)
theorem wO0_go {P : Int → Prop} [∀ c, Decidable (P c)] {F nx A : Int → Int} {dr : Int} (hn : nxB nx) (hP : nxP P nx) (hA : ∀ c : Nat, c < 144 → P c → 0 ≤ A c ∧ A c ≤ 1000) (hd : 0 ≤ dr) (h : wO0 P F) : wO0 P (goF P F nx A dr (fun _ => 0) 144) := by
  obtain ⟨h1, h2, h4⟩ := h
  have hok := goF_ok (P := P) (F := F) (nx := nx) (A := A) (dr := dr) ok_0 hn h1 hA hd h2 144 (by omega)
  have ht : tot (goF P F nx A dr (fun _ => 0) 144) = tot F := hok.2
  refine ⟨hok.1, fun c hc hp k k0 k1 => ?_, by rw [ht]; exact h4⟩
  exact goF_z rfl hn hP (by rw [show k / 4 = c by omega]; exact hp) 144 (by omega)
theorem aW_0 {w : zW} {i j kd a b e : Int} {Cs : List clau} {F : Int → Int} (hN : EN w i j Cs) (h : wO0 (opw w i) F) (hk : kd ≤ 4) : wO0 (opw w i) (aW w i j Cs kd a b e F) := by
  obtain ⟨-, -, n3, -, -, -, n7, n8, -⟩ := hN
  unfold aW
  by_cases h0 : kd = 0
  · rw [if_pos h0]
    exact wO0_go n7 n8 (fun c _ _ => ahd_bd) n3.1.1 h
  · rw [if_neg h0]
    by_cases h1 : kd ≤ 3
    · rw [if_pos h1]
      exact wO0_rot h
    · rw [if_neg h1, if_pos (by omega)]
      exact h
theorem aW_K {w : zW} {i j kd a b e : Int} {Cs : List clau} {F : Int → Int} (hN : EN w i j Cs) (he : 0 ≤ e ∧ e ≤ 30) (h : wOK (opw w i) F) : wOK (opw w i) (aW w i j Cs kd a b e F) := by
  obtain ⟨-, -, n3, -, -, -, n7, n8, -⟩ := hN
  unfold aW
  by_cases h0 : kd = 0
  · rw [if_pos h0]
    exact wOK_go n7 n8 (fun c _ _ => ahd_bd) n3.1.1 h
  · rw [if_neg h0]
    by_cases h1 : kd ≤ 3
    · rw [if_pos h1, rot_mod (t := 3 * tq kd % 4) (by omega)]
      exact wOK_rot (by omega) h
    · rw [if_neg h1]
      by_cases h2 : kd = 4
      · rw [if_pos h2]
        exact h
      · rw [if_neg h2]
        by_cases h3 : 0 < sm (wgt F (eCh w i j kd a b e)) 576
        · rw [if_pos h3]
          exact wOK_nrm (fun c _ _ => eCh_bd n3 he c) h (op_dec w i) h3
        · rw [if_neg h3]
          exact h
theorem aE_bd {kd st e : Int} (h : 0 ≤ e ∧ e ≤ 30) : 0 ≤ aE kd st e ∧ aE kd st e ≤ 30 := by
  unfold aE
  split
  · omega
  · split <;> omega
theorem s_copyO {d : Nat} {o o2 : Int} {w : zW} : ∃ w', Odds_copyFrom d o o2 w = some (0, w') ∧ z_fr [4, 19] w w' ∧ (∀ q, q ≠ o → w' 4 q = w 4 q ∧ w' 19 q = w 19 q) ∧ eqR (w' 19 o) (w 19 o2) ∧ w' 4 o 1 = w 4 o2 1 ∧ w' 4 o 2 = w 4 o2 2 ∧ w' 4 o 3 = w 4 o2 3 := by
  refine ⟨z_up (z_up (z_up (z_cpy w 19 o2 0 19 o 0 576) 4 o 1 (w 4 o2 1)) 4 o 2 (w 4 o2 2)) 4 o 3 (w 4 o2 3), ?_, fr_tr (fr_tr (fr_tr (fr_cpy (by decide)) (fr_up (by decide))) (fr_up (by decide))) (fr_up (by decide)), fun q hq => ⟨?_, ?_⟩, fun k k0 k1 => ?_, ?_, ?_, up_h⟩
  · rw [e_Odds_copyFrom, gd_t (by omega)]
  · funext s
    rw [up_i hq, up_i hq, up_i hq, cpy_c (by decide)]
  · funext s
    rw [up_c (by decide), up_c (by decide), up_c (by decide), cpy_i hq]
  · rw [up_c (by decide), up_c (by decide), up_c (by decide), cpy_in (by omega), show 0 + (k - 0) = k by omega]
  · rw [up_s (by decide), up_s (by decide), up_h]
  · rw [up_s (by decide), up_h]
/-- home's weights taken away -/
def zh (h : Int) (F : Int → Int) : Int → Int := fun k => if 4 * h ≤ k ∧ k < 4 * h + 4 then 0 else F k
theorem zh_eqR {X Y : Int → Int} {a : Int} (h : eqR X Y) : eqR (zh a X) (zh a Y) := fun k k0 k1 => by
  unfold zh
  rw [h k k0 k1]
theorem zh_0 {P : Int → Prop} {F : Int → Int} {a : Int} (h : wO0 P F) : wO0 P (zh a F) := by
  obtain ⟨h1, h2, h4⟩ := h
  have hle : ∀ k, 0 ≤ k → k < 576 → 0 ≤ zh a F k ∧ zh a F k ≤ F k := fun k k0 k1 => by
    have := h1 k k0 k1
    unfold zh
    split <;> omega
  refine ⟨fun k k0 k1 => (hle k k0 k1).1, fun c hc hp k k0 k1 => ?_, ?_⟩
  · have := hle k (by omega) (by omega)
    have := h2 c hc hp k k0 k1
    omega
  · have : tot (zh a F) ≤ tot F := sm_le fun k hk => (hle k (by omega) (by omega)).2
    omega
theorem s_fillLr_1 {d k : Nat} {i v n : Int} {w : zW} (hk : z_kd k = 4) (hn : n ≤ z_ln k) (h3 : z_ln k ≤ 100000) {a : Int} (ha : 0 ≤ a) : ∀ (m : Nat) (b : Int), a ≤ b → b + m = n → J_fillLr_1 (d + 1) k i n v b (z_row w k i (flF (w k i) a b v)) = some (0, z_row w k i (flF (w k i) a n v)) := by
  intro m
  induction m with
  | zero =>
    intro b hb hm
    rw [e_J_fillLr_1, if_pos (by omega), show b = n by omega]
  | succ m ih =>
    intro b hb hm
    rw [e_J_fillLr_1, if_neg (by omega), gd_t ⟨hk, by omega, by omega⟩, gd_t (by omega), row_up, flF_up hb]
    exact ih (b + 1) (by omega) (by omega)
theorem s_take {d : Nat} {o c : Int} {w : zW} (h0 : 0 ≤ c ∧ c < 144) (hf : wtB (w 19 o)) : ∃ w', Odds_takeFrom (d + 2) o c w = some (od (w 19 o) c, w') ∧ z_fr [19] w w' ∧ (∀ q, q ≠ o → w' 19 q = w 19 q) ∧ eqR (w' 19 o) (zh c (w 19 o)) := by
  have hr : J_rangeCheck d 576 (c * 4) (c * 4 + 4) w = some (0, w) := by
    rw [e_J_rangeCheck, if_pos (by omega), if_pos (by omega), if_pos (by omega)]
  have h1 := s_fillLr_1 (d := d) (k := 19) (i := o) (v := 0) (n := c * 4 + 4) (w := w) (a := c * 4) rfl (by show c * 4 + 4 ≤ 576; omega) (by decide) (by omega) 4 (c * 4) (by omega) (by omega)
  rw [flF_0, row_self] at h1
  refine ⟨z_row w 19 o (flF (w 19 o) (c * 4) (c * 4 + 4) 0), ?_, fr_row (by decide), fun q hq => ?_, fun k k0 k1 => ?_⟩
  · rw [e_Odds_takeFrom, s_weightAt h0 hf, bnd, if_neg (by omega)]
    dsimp only
    rw [gd_t (by omega), gd_t (by omega), gd_t (by omega), e_J_fillLr, gd_t (show z_kd 19 = 1 ∨ z_kd 19 = 4 from Or.inr rfl)]
    have hz : z_ln 19 = 576 := rfl
    rw [hz, hr, bnd]
    dsimp only
    rw [h1, bnd]
  · funext s
    exact row_i hq
  · rw [row_h]
    unfold flF zh
    by_cases q : 4 * c ≤ k ∧ k < 4 * c + 4
    · rw [if_pos q, if_pos (by omega)]
    · rw [if_neg q, if_neg (by omega)]
