section
variable {LS RX : Int → List clau} {w : zW} {d : Nat}
theorem RB.od (hB : RB w 0 (w 70 0)) (hE : ENV w (w 7 0 0) (w 7 0 1) (LS (w 7 0 1))) : OD w (w 7 0 0) 0 ∧ wOK (opw w (w 7 0 0)) (w 19 0) := by
  have hi : w 70 0 0 = w 7 0 0 := hE.2.2.2.1.1
  obtain ⟨b1, b2, b3, b4, b5, b6, b7, b8, b9, b10, b11, b12⟩ := hB
  rw [hi] at b10
  exact ⟨⟨b10.w0, by omega, by omega, by omega⟩, b10⟩
theorem keep_no (h : (w 8 0 1 = 0 ∧ w 70 0 0 = -1 ∧ w 8 0 6 = 0) ∨ (w 8 0 1 = 1 ∧ 200 ≤ w 70 0 2 ∧ RB w 0 (w 70 0))) (kd a b : Int) : State_keep (d + 1) 0 kd a b w = some (0, w) ∧ M_canAct (d + 1) w = some (0, w) := by
  rw [e_State_keep, m_canAct]
  rcases h with ⟨b1, b2, -⟩ | ⟨b1, b2, hB⟩
  · rw [if_pos b1, gd_t (by decide), if_pos (Or.inl b2)]
    exact ⟨rfl, rfl⟩
  · have := hB.2.2.2.2.1
    rw [if_neg (by omega), if_pos (by omega), gd_t (by decide), if_pos (Or.inr b2)]
    exact ⟨rfl, rfl⟩
theorem env_k {w1 : zW} {i j : Int} {Cs : List clau} (hE : ENV w i j Cs) (k1 : z_fr kC w w1) (k3 : EN w1 i j Cs) : ENV w1 i j Cs :=
  ⟨k3, RW_fr (fun c hc => k1 c (by revert hc; revert c; decide)) hE.2.1, Rlw_fr (fun c hc => k1 c (by revert hc; revert c; decide)) hE.2.2.1, by rw [k1 70 (by decide)]; exact hE.2.2.2.1, hE.2.2.2.2⟩
theorem mfk_70 {w w' : zW} (h : mfk 70 6 w w') : mF [68, 69, 70, 72] [30] w w' := ⟨fun c a b => h.1 c b (fun q => a (by rw [q]; decide)) (fun q => a (by rw [q]; decide)) (fun q => a (by rw [q]; decide)) (fun q => a (by rw [q]; decide)), fun s hs => h.2.1 s (fun q => hs (by rw [q]; decide))⟩
theorem p_act (hS : Sim LS RX w) (a1 : Int) : ∃ r w1 w2, D_act (d + 12) a1 w = some (r, w1) ∧ M_act (d + 12) a1 w1 = some (r, w2) ∧ Sim LS RX w2 := by
  have hno : ∀ (h : (w 8 0 1 = 0 ∧ w 70 0 0 = -1 ∧ w 8 0 6 = 0) ∨ (w 8 0 1 = 1 ∧ 200 ≤ w 70 0 2 ∧ RB w 0 (w 70 0))), ∃ r w1 w2, D_act (d + 12) a1 w = some (r, w1) ∧ M_act (d + 12) a1 w1 = some (r, w2) ∧ Sim LS RX w2 := fun h => by
    refine ⟨-1, w, w, ?_, ?_, hS⟩
    · rw [e_D_act]
      by_cases z : a1 < 0
      · rw [if_pos z]
      · rw [if_neg z]
        by_cases z2 : 4 < a1
        · rw [if_pos z2]
        · rw [if_neg z2, (keep_no (d := d + 10) h a1 0 0).1, bnd, if_pos rfl]
    · rw [e_M_act, (keep_no (d := d + 10) h a1 0 0).2, bnd, if_pos rfl]
  rcases hS.bgn with q | ⟨hb, hB, hE⟩
  · exact hno (Or.inl q)
  by_cases h200 : 200 ≤ w 70 0 2
  · exact hno (Or.inr ⟨hb, h200, hB⟩)
  have hB0 := hB
  obtain ⟨b1, b2, b3, b4, b5, b6, b7, b8, b9, b10, b11, b12⟩ := hB0
  have hca : ∀ w1 : zW, w1 70 = w 70 → M_canAct (d + 11) w1 = some (1, w1) := fun w1 h => by
    rw [m_canAct, h, if_neg (by omega)]
  by_cases h1 : 0 ≤ a1 ∧ a1 ≤ 4
  · have hod := hB.od hE
    have hwt := hB.wt
    obtain ⟨w1, p1, k1, k2, k3, k5, k6, k7, k8, k9, k10, k11⟩ := s_keep (d := d + 7) (kd := a1) (a := 0) (b := 0) (by omega) hE.1 hod.1 hod.2 (fun q => by omega) (by omega) (by omega) hb (by omega)
    have hs1 : aS w (w 7 0 0) (w 7 0 1) a1 0 0 (w 4 0 3) (w 19 0) = 1 := by unfold aS; rw [if_pos h1.2]
    rw [hs1] at p1 k6 k7 k8 k11
    rw [if_neg (show ¬ (1 : Int) = 0 by decide), b5.1] at k11
    have f1 : aN a1 1 (w 4 0 1) = w 4 0 1 + 1 := by unfold aN; rw [if_pos ⟨by omega, rfl⟩]
    have f2 : aM a1 1 (w 4 0 2) = w 4 0 2 := by unfold aM; rw [if_neg (by omega)]
    have f3 : aE a1 1 (w 4 0 3) = min 30 (w 4 0 3 + 1) := by unfold aE; rw [if_pos h1.2]
    rw [f1, b6.1] at k6
    rw [f2, b7.1] at k7
    rw [f3] at k8
    rw [b8.1] at k5 k8
    have hE1 := env_k hE k1 k3
    have h70 : w1 70 = w 70 := k1 70 (by decide)
    have hwM : wtM w1 70 6 = wtM w 70 6 := by unfold wtM; rw [h70]
    have ee : sameE w w1 := sameE_fr k1 (by decide)
    have hi : w 70 0 0 = w 7 0 0 := hE.2.2.2.1.1
    have hK : wOK (opw w (w 7 0 0)) (wtM w 70 6) := by rw [← hi]; exact hwt.2
    obtain ⟨v1, q1, q2, q3⟩ := m_act (d := d + 7) (e := w 70 0 5) (kd := a1) (x := 0) (y := 0) (w := w1) (Or.inl ⟨rfl, rfl⟩) hE1.2.1 hE1.2.2.1 hE1.2.2.2.1.1 hE1.2.2.2.2.1 hE1.2.2.2.1.2 hE1.2.2.2.2.2 (by rw [opw_e ee, hwM]; exact hK.w0) h1
    rw [aW_e ee, hwM] at q3
    have hF := eqR_tr q3 (eqR_sy (aW_eqR (w := w) (i := w 7 0 0) (j := w 7 0 1) (Cs := LS (w 7 0 1)) (kd := a1) (a := 0) (b := 0) (e := w 70 0 5) hwt.1))
    have hKF := aW_K (kd := a1) (a := 0) (b := 0) (e := w 70 0 5) hE.1 (by omega) hod.2
    have hv : ∀ x, ¬ (6 ≤ x ∧ x < 6 + 576) → v1 70 0 x = w 70 0 x := fun x hx => by rw [q2.2.2 x hx, h70]
    generalize hv2 : z_up (z_up v1 70 0 3 (w 70 0 3 + 1)) 70 0 5 (min 30 (w 70 0 5 + 1)) = v2
    have fv : mF [68, 69, 70, 72] [30] w1 v2 := by
      rw [← hv2]
      exact mF_tr (mfk_70 q2) (mF_tr (mF_up (by decide) (by decide)) (mF_up (by decide) (by decide)))
    have hvx : ∀ x, x ≠ 3 → x ≠ 5 → v2 70 0 x = v1 70 0 x := fun x q r => by rw [← hv2, up_s r, up_s q]
    have hF2 : eqR (wtM v2 70 6) (aW w (w 7 0 0) (w 7 0 1) (LS (w 7 0 1)) a1 0 0 (w 70 0 5) (w 19 0)) := fun k k0 k1' => by
      rw [← hF k k0 k1']
      exact hvx (6 + k) (by omega) (by omega)
    have hW2 : w1 33 = w 33 := k1 33 (by decide)
    obtain ⟨v3, r1, r2, r3, r4, r5⟩ := m_writes (d := d + 8) (i := w 7 0 0) (k := a1) (a := 0) (b := 0) (n := w 70 0 2) (w := v2) (path := w 33 (w 7 0 0)) (by rw [hvx 0 (by omega) (by omega), hv 0 (by omega)]; exact hi) hE.2.2.2.2.1 (fun c c0 c1 => by
      rw [fv.1 64 (by decide) (by decide), k1 64 (by decide)]
      exact (hE.2.1.2.2.2.2.1 c c0 c1).1.1.symm) (fun k k0 k1' => by rw [hF2 k k0 k1']; exact wOK_B hKF k k0 k1') (by rw [hvx 2 (by omega) (by omega), hv 2 (by omega)]) (by omega)
    have hone : onp (w 33 (w 7 0 0)) (wtM v2 70 6) = onp (w 33 (w 7 0 0)) (aW w (w 7 0 0) (w 7 0 1) (LS (w 7 0 1)) a1 0 0 (w 70 0 5) (w 19 0)) := sm_congr fun c hc => by rw [od_eqR hF2 (by omega) (by omega)]
    rw [hone] at r4
    rw [b8.1] at k11
    refine ⟨w 70 0 3 + 1, w1, v3, ?_, ?_, ?_⟩
    · rw [e_D_act, if_neg (by omega), if_neg (by omega), p1, bnd]
      dsimp only
      rw [if_neg (show ¬ (1 : Int) = 0 by decide), k6]
    · rw [e_M_act, hca w1 h70, bnd]
      dsimp only
      rw [if_neg (show ¬ (1 : Int) = 0 by decide), m_in, bnd, if_pos h1]
      dsimp only
      rw [if_neg (show ¬ (1 : Int) = 0 by decide), gd_t (by decide), h70, q1, bnd]
      dsimp only
      simp only [hv 3 (by omega), hv 5 (by omega)]
      rw [gd_t (by decide), gd_t (by omega), gd_t (by decide), gd_t (by decide), m_later (by omega), bnd]
      dsimp only
      rw [gd_t (by decide), hv2, r1, bnd]
      dsimp only
      rw [gd_t (by decide), r5 3 (by decide) (by omega)]
      rw [← hv2, up_s (by decide), up_h]
    · refine Sim_act (kd := a1) (a := 0) (b := 0) hS hB hE rfl (by omega) k1 k2 k3 k5 k6 k7 k8 k9 (fun x hx => k10 x (by omega)) k11 (mF_tr fv (mF_sub r2 (by decide) (by decide))) ⟨?_, ?_, r3, ?_, ?_, ?_⟩ (fun k k0 k1' => ?_) (fun x x0 x1 => ?_) ⟨by rw [r4.1, if_pos h1.2], r4.2.1, r4.2.2.1, r4.2.2.2⟩ (by omega) (by omega) (by omega) hKF (by omega) (by omega) (by omega) (by omega)
      · rw [r5 0 (by omega) (by omega), hvx 0 (by omega) (by omega), hv 0 (by omega)]
      · rw [r5 1 (by omega) (by omega), hvx 1 (by omega) (by omega), hv 1 (by omega)]
      · rw [r5 3 (by omega) (by omega), ← hv2, up_s (by decide), up_h]
      · rw [r5 4 (by omega) (by omega), hvx 4 (by omega) (by omega), hv 4 (by omega)]
      · rw [r5 5 (by omega) (by omega), ← hv2, up_h]
      · rw [← hF2 k k0 k1']
        exact r5 (6 + k) (by omega) (by omega)
      · rw [r5 x (by omega) x1, hvx x (by omega) (by omega), hv x (by omega)]
  · refine ⟨-1, w, w, ?_, ?_, hS⟩
    · rw [e_D_act]
      by_cases z : a1 < 0
      · rw [if_pos z]
      · rw [if_neg z, if_pos (by omega)]
    · rw [e_M_act, hca w rfl, bnd]
      dsimp only
      rw [if_neg (show ¬ (1 : Int) = 0 by decide), m_in, bnd, if_neg h1, if_pos rfl]
end
