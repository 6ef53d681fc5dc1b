section
variable {LS RX : Int → List clau} {w : zW} {d : Nat}
theorem Sim_ref {w1 w2 : zW} (hS : Sim LS RX w) (k1 : z_fr kC w w1) (k2 : ∀ s, s ≠ 0 → w1 4 s = w 4 s ∧ w1 19 s = w 19 s ∧ w1 8 s = w 8 s ∧ w1 29 s = w 29 s ∧ w1 30 s = w 30 s) (k3 : EN w1 (w 7 0 0) (w 7 0 1) (LS (w 7 0 1))) (k11 : w1 8 = w 8 ∧ w1 29 = w 29 ∧ w1 30 = w 30 ∧ (w1 4 0 1 = w 4 0 1 ∧ w1 4 0 2 = w 4 0 2 ∧ w1 4 0 3 = w 4 0 3) ∧ eqR (w1 19 0) (w 19 0)) (m1 : mF [68, 69, 70, 72] [30] w1 w2) (h70 : w2 70 0 = w 70 0) : Sim LS RX w2 := by
  obtain ⟨q8, q29, q30, q4, q19⟩ := k11
  have e8 : w2 8 = w 8 := by rw [m1.1 8 (by decide) (by decide), q8]
  have e29 : w2 29 = w 29 := by rw [m1.1 29 (by decide) (by decide), q29]
  have e30 : w2 30 = w 30 := by rw [m1.1 30 (by decide) (by decide), q30]
  have e4 : w2 4 = w1 4 := m1.1 4 (by decide) (by decide)
  have e19 : w2 19 = w1 19 := m1.1 19 (by decide) (by decide)
  have hc : ∀ c, c ∉ [4, 8, 11, 17, 19, 24, 25, 26, 27, 28, 29, 30, 68, 69, 70, 72] → w2 c = w c := fun c hc => by
    have g : ∀ q ∈ [68, 69, 70, 72], q ∈ [4, 8, 11, 17, 19, 24, 25, 26, 27, 28, 29, 30, 68, 69, 70, 72] := by decide
    have g2 : ∀ q ∈ kC, q ∈ [4, 8, 11, 17, 19, 24, 25, 26, 27, 28, 29, 30, 68, 69, 70, 72] := by decide
    rw [m1.1 c (fun q => hc (g c q)) (fun q => hc (by rw [q]; decide)), k1 c (fun q => hc (g2 c q))]
  have hfr : ∀ c ∈ [8, 9, 10, 29, 30, 31, 34], w2 c = w c := fun c h => by
    have : c = 8 ∨ c = 29 ∨ c = 30 ∨ c ∉ [4, 8, 11, 17, 19, 24, 25, 26, 27, 28, 29, 30, 68, 69, 70, 72] := by revert h; revert c; decide
    rcases this with rfl | rfl | rfl | q
    · exact e8
    · exact e29
    · exact e30
    · exact hc c q
  have e77 : w2 77 = w 77 := hc 77 (by decide)
  have e78 : w2 78 = w 78 := hc 78 (by decide)
  refine Sim_mk (fun c hc' => hc c (by revert hc'; revert c; decide)) (RT_fr (hc 5 (by decide)) (hc 20 (by decide)) (hc 48 (by decide)) (by rw [m1.2 1 (by decide), k1 11 (by decide)]) hS.tape) ?_ (fun q => ?_) (fun k q0 q1 => ?_) hS
  · rw [h70]
    exact RS_fr2 hfr (by rw [e4, e19]; exact ⟨q4, q19⟩) hS.now
  · rw [h70]
    rw [e8] at q
    exact ⟨(hS.rdy q).1, (hS.rdy q).2.1, RC_fr (sameE_m m1 (by decide)) (m1.1 26 (by decide) (by decide)) (m1.1 27 (by decide) (by decide)) k3.2.2.2.2.2.2.2.2.2⟩
  · obtain ⟨i1, i2, i3⟩ := hS.img q0 q1
    obtain ⟨g4, g19, -⟩ := k2 (1 + k) (by omega)
    rw [e8, e78]
    refine ⟨i1, i2, fun q => ?_⟩
    have hm : im w2 k = im w k := by unfold im; rw [e77]
    rw [hm]
    exact RS_fr2 hfr (by rw [e4, e19, g4, g19]; exact ⟨⟨rfl, rfl, rfl⟩, eqR_rf _⟩) (i3 q)
theorem aS_01 (w : zW) (i j kd a b e : Int) (F : Int → Int) : aS w i j kd a b e F = 0 ∨ aS w i j kd a b e F = 1 := by
  unfold aS
  by_cases q : kd ≤ 4
  · rw [if_pos q]; exact Or.inr rfl
  · rw [if_neg q]
    by_cases z : 0 < sm (wgt F (eCh w i j kd a b e)) 576
    · rw [if_pos z]; exact Or.inr rfl
    · rw [if_neg z]; exact Or.inl rfl
theorem aW_ref {i j kd a b e : Int} {Cs : List clau} {F : Int → Int} (hk : 5 ≤ kd) (h : aS w i j kd a b e F = 0) : aW w i j Cs kd a b e F = F := by
  have hz : ¬ 0 < sm (wgt F (eCh w i j kd a b e)) 576 := fun z => by
    unfold aS at h
    rw [if_neg (show ¬ kd ≤ 4 by omega), if_pos z] at h
    exact absurd h (by decide)
  unfold aW
  rw [if_neg (show ¬ kd = 0 by omega), if_neg (show ¬ kd ≤ 3 by omega), if_neg (show ¬ kd = 4 by omega), if_neg hz]
/-- the class keeps, the model weighs: a sign, or a match -/
theorem b_sign {e : Nat} {kd a b : Int} (hb : w 8 0 1 = 1) (hB : RB w 0 (w 70 0)) (hE : ENV w (w 7 0 0) (w 7 0 1) (LS (w 7 0 1))) (h200 : w 70 0 2 < 200) (hk : 5 ≤ kd ∧ kd ≤ 8) (ha : 0 ≤ a ∧ a ≤ 40) (hb2 : 0 ≤ b ∧ b ≤ 40) (hs : kd = 8 → (0 ≤ a ∧ a < w 9 (w 7 0 0) 3) ∧ 0 ≤ b ∧ b ≤ 40) :
    ∃ st w1 v1, State_keep (d + 4) 0 kd a b w = some (st, w1) ∧ M_signs (e + 3) 70 6 (mkd kd) a b (w 70 0 5) w1 = some (st, v1) ∧ (st = 0 ∨ st = 1) ∧ z_fr kC w w1 ∧ (∀ s, s ≠ 0 → w1 4 s = w 4 s ∧ w1 19 s = w 19 s ∧ w1 8 s = w 8 s ∧ w1 29 s = w 29 s ∧ w1 30 s = w 30 s) ∧ EN w1 (w 7 0 0) (w 7 0 1) (LS (w 7 0 1)) ∧ mF [68, 69, 70, 72] [30] w1 v1 ∧ (∀ x, ¬ (6 ≤ x ∧ x < 6 + 576) → v1 70 0 x = w 70 0 x) ∧
      (st = 0 → (w1 8 = w 8 ∧ w1 29 = w 29 ∧ w1 30 = w 30 ∧ (w1 4 0 1 = w 4 0 1 ∧ w1 4 0 2 = w 4 0 2 ∧ w1 4 0 3 = w 4 0 3) ∧ eqR (w1 19 0) (w 19 0)) ∧ v1 70 0 = w 70 0) ∧
      (st = 1 → ∃ F, wOK (opw w (w 7 0 0)) F ∧ eqR (w1 19 0) F ∧ eqR (wtM v1 70 6) F ∧ w1 4 0 1 = aN kd 1 (w 70 0 3) ∧ w1 4 0 2 = aM kd 1 (w 70 0 4) ∧ w1 4 0 3 = aE kd 1 (w 70 0 5) ∧ (∀ x, x ≠ 6 → w1 8 0 x = w 8 0 x) ∧ (∀ x, x ≠ w 70 0 2 → w1 29 0 x = w 29 0 x ∧ w1 30 0 x = w 30 0 x) ∧ w1 8 0 6 = w 70 0 2 + 1 ∧ w1 29 0 (w 70 0 2) = kd + 256 * a + 65536 * b ∧ w1 30 0 (w 70 0 2) = onp (w 33 (w 7 0 0)) F / 1000000) := by
  have hod := hB.od hE
  have hwt := hB.wt
  obtain ⟨b1, b2, b3, b4, b5, b6, b7, b8, b9, b10, b11, b12⟩ := hB
  obtain ⟨w1, p1, k1, k2, k3, k5, k6, k7, k8, k9, k10, k11⟩ := s_keep (d := d) (kd := kd) (a := a) (b := b) (by omega) hE.1 hod.1 hod.2 (sgB_of hE.2.1 hs) ha hb2 hb (by omega)
  have hi : w 70 0 0 = w 7 0 0 := hE.2.2.2.1.1
  have hE1 := env_k hE k1 k3
  have h70 : w1 70 = w 70 := k1 70 (by decide)
  have hwM : wtM w1 70 6 = wtM w 70 6 := by unfold wtM; rw [h70]
  have ee : sameE w w1 := sameE_fr k1 (by decide)
  have hK : wOK (opw w (w 7 0 0)) (wtM w 70 6) := by rw [← hi]; exact hwt.2
  obtain ⟨v1, q1, q2, q3⟩ := m_sgn (d := e) (e := w 70 0 5) (kd := kd) (x := a) (y := b) (w := w1) (Or.inl ⟨rfl, rfl⟩) hE1.2.1 hE1.2.2.1 hE1.2.2.2.1.1 hE1.2.2.2.2.1 hE1.2.2.2.1.2 hE1.2.2.2.2.2 (by rw [opw_e ee, hwM]; exact hK.w0) hk (by omega) (by rw [k1 9 (by decide)]; exact hs)
  rw [aW_e ee, hwM] at q3
  rw [aS_e ee, hwM, ← aS_eqR hwt.1] at q1
  have hF : eqR (wtM v1 70 6) (aW w (w 7 0 0) (w 7 0 1) (LS (w 7 0 1)) kd a b (w 70 0 5) (w 19 0)) := eqR_tr q3 (eqR_sy (aW_eqR hwt.1))
  rw [b8.1] at p1 k5 k6 k7 k8 k11
  have hv : ∀ x, ¬ (6 ≤ x ∧ x < 6 + 576) → v1 70 0 x = w 70 0 x := fun x hx => by rw [q2.2.2 x hx, h70]
  have hst := aS_01 w (w 7 0 0) (w 7 0 1) kd a b (w 70 0 5) (w 19 0)
  have hKF := aW_K (kd := kd) (a := a) (b := b) (e := w 70 0 5) hE.1 (by omega) hod.2
  refine ⟨_, w1, v1, p1, q1, hst, k1, k2, k3, mfk_70 q2, hv, fun z => ?_, fun z => ?_⟩
  · rw [if_pos z] at k11
    refine ⟨by rw [b8.1]; exact k11, ?_⟩
    rw [aW_ref hk.1 z] at hF
    funext x
    by_cases hx : 6 ≤ x ∧ x < 6 + 576
    · have h1 := hF (x - 6) (by omega) (by omega)
      have h2 := hwt.1 (x - 6) (by omega) (by omega)
      unfold wtM at h1 h2
      rw [show 6 + (x - 6) = x by omega] at h1 h2
      rw [h1, h2]
    · exact hv x hx
  · rw [z] at k6 k7 k8 k11
    rw [if_neg (show ¬ (1 : Int) = 0 by decide)] at k11
    rw [b5.1] at k10 k11
    rw [b6.1] at k6
    rw [b7.1] at k7
    exact ⟨_, hKF, k5, hF, k6, k7, k8, k9, k10, k11⟩
/-- felt, seen, heard: behind the looks at what is told -/
theorem b_told {kd a b : Int} (hS : Sim LS RX w) (hb : w 8 0 1 = 1) (hB : RB w 0 (w 70 0)) (hE : ENV w (w 7 0 0) (w 7 0 1) (LS (w 7 0 1))) (h200 : w 70 0 2 < 200) (hk : 6 ≤ kd ∧ kd ≤ 8) (ha : 0 ≤ a ∧ a ≤ 40) (hb2 : 0 ≤ b ∧ b ≤ 40) (hs : kd = 8 → (0 ≤ a ∧ a < w 9 (w 7 0 0) 3) ∧ 0 ≤ b ∧ b ≤ 40) :
    ∃ r w1 w2, ((State_keep (d + 11) 0 kd a b w).bind fun r1 => if r1.1 = 0 then some (-1, r1.2) else some (r1.2 8 0 6, r1.2)) = some (r, w1) ∧ M_told (d + 11) (mkd kd) a b w1 = some (r, w2) ∧ Sim LS RX w2 ∧ w1 70 = w 70 ∧ w1 62 = w 62 := by
  obtain ⟨st, w1, v1, p1, q1, hst, k1, k2, k3, m1, hv, h0, h1⟩ := b_sign (d := d + 7) (e := d + 7) hb hB hE h200 (by omega) ha hb2 hs
  have hi : w 70 0 0 = w 7 0 0 := hE.2.2.2.1.1
  have h70 : w1 70 = w 70 := k1 70 (by decide)
  have h62 : w1 62 = w 62 := k1 62 (by decide)
  rcases hst with z | z
  · rw [z] at p1 q1
    obtain ⟨g1, g2⟩ := h0 z
    refine ⟨-1, w1, v1, ?_, ?_, Sim_ref hS k1 k2 k3 g1 m1 g2, h70, h62⟩
    · rw [p1, bnd, if_pos rfl]
    · rw [e_M_told, gd_t (by decide), h70, q1, bnd, if_pos rfl]
  · rw [z] at p1 q1
    obtain ⟨F, g1, g2, g3, g4, g5, g6, g7, g8, g9, g10, g11⟩ := h1 z
    have hB0 := hB
    obtain ⟨b1, b2, b3, b4, b5, b6, b7, b8, b9, b10, b11, b12⟩ := hB0
    have f1 : aN kd 1 (w 70 0 3) = w 70 0 3 := by unfold aN; rw [if_neg (by omega)]
    have f2 : aM kd 1 (w 70 0 4) = w 70 0 4 := by unfold aM; rw [if_neg (by omega)]
    have f3 : aE kd 1 (w 70 0 5) = w 70 0 5 := by unfold aE; rw [if_neg (by omega), if_neg (by omega)]
    rw [f1] at g4
    rw [f2] at g5
    rw [f3] at g6
    obtain ⟨v3, r1, r2, r3, r4, r5⟩ := m_writes (d := d + 7) (i := w 7 0 0) (k := mkd kd) (a := a) (b := b) (n := w 70 0 2) (w := v1) (path := w 33 (w 7 0 0)) (by rw [hv 0 (by omega)]; exact hi) hE.2.2.2.2.1 (fun c c0 c1 => by
      rw [m1.1 64 (by decide) (by decide), k1 64 (by decide)]
      exact (hE.2.1.2.2.2.2.1 c c0 c1).1.1.symm) (fun k k0 k1' => by rw [g3 k k0 k1']; exact wOK_B g1 k k0 k1') (by rw [hv 2 (by omega)]) (by omega)
    have hone : onp (w 33 (w 7 0 0)) (wtM v1 70 6) = onp (w 33 (w 7 0 0)) F := sm_congr fun c hc => by rw [od_eqR g3 (by omega) (by omega)]
    rw [hone] at r4
    refine ⟨w 70 0 2 + 1, w1, v3, ?_, ?_, ?_, h70, h62⟩
    · rw [p1, bnd]
      dsimp only
      rw [if_neg (show ¬ (1 : Int) = 0 by decide), g9]
    · rw [e_M_told, gd_t (by decide), h70, q1, bnd]
      dsimp only
      rw [if_neg (show ¬ (1 : Int) = 0 by decide), r1, bnd]
      dsimp only
      rw [gd_t (by decide), r3]
    · refine Sim_act (kd := kd) (a := a) (b := b) hS hB hE rfl h200 k1 k2 k3 g2 g4 g5 g6 g7 g8 ⟨g9, g10, g11⟩ (mF_tr m1 (mF_sub r2 (by decide) (by decide))) ⟨?_, ?_, r3, ?_, ?_, ?_⟩ (fun k k0 k1' => ?_) (fun x x0 x1 => ?_) ⟨by rw [r4.1, if_neg (by omega)], r4.2.1, r4.2.2.1, r4.2.2.2⟩ (by omega) (by omega) (by omega) g1 (by omega) ha hb2 (fun y => (hs y).1.2)
      · rw [r5 0 (by omega) (by omega), hv 0 (by omega)]
      · rw [r5 1 (by omega) (by omega), hv 1 (by omega)]
      · rw [r5 3 (by omega) (by omega), hv 3 (by omega)]
      · rw [r5 4 (by omega) (by omega), hv 4 (by omega)]
      · rw [r5 5 (by omega) (by omega), hv 5 (by omega)]
      · rw [← g3 k k0 k1']
        exact r5 (6 + k) (by omega) (by omega)
      · rw [r5 x (by omega) x1, hv x (by omega)]
theorem can_yes (hB : RB w 0 (w 70 0)) (h200 : w 70 0 2 < 200) {w1 : zW} (h : w1 70 = w 70) : M_canAct (d + 1) w1 = some (1, w1) := by
  have := hB.2.1.2.1
  rw [m_canAct, h, if_neg (by omega)]
theorem p_felt (hS : Sim LS RX w) (a1 : Int) : ∃ r w1 w2, D_felt (d + 12) a1 w = some (r, w1) ∧ M_felt (d + 12) a1 w1 = some (r, w2) ∧ Sim LS RX w2 := by
  have hno : ∀ (h : (w 8 0 1 = 0 ∧ w 70 0 0 = -1 ∧ w 8 0 6 = 0) ∨ (w 8 0 1 = 1 ∧ 200 ≤ w 70 0 2 ∧ RB w 0 (w 70 0))), ∃ r w1 w2, D_felt (d + 12) a1 w = some (r, w1) ∧ M_felt (d + 12) a1 w1 = some (r, w2) ∧ Sim LS RX w2 := fun h => by
    refine ⟨-1, w, w, ?_, ?_, hS⟩
    · rw [e_D_felt]
      by_cases z : a1 < 0
      · rw [if_pos z]
      · rw [if_neg z]
        by_cases z2 : 7 < a1
        · rw [if_pos z2]
        · rw [if_neg z2, (keep_no (d := d + 10) h 6 a1 0).1, bnd, if_pos rfl]
    · rw [e_M_felt, (keep_no (d := d + 10) h 6 a1 0).2, bnd, if_pos rfl]
  rcases hS.bgn with q | ⟨hb, hB, hE⟩
  · exact hno (Or.inl q)
  by_cases h200 : 200 ≤ w 70 0 2
  · exact hno (Or.inr ⟨hb, h200, hB⟩)
  by_cases h1 : 0 ≤ a1 ∧ a1 ≤ 7
  · obtain ⟨r, w1, w2, u1, u2, u3, u4, -⟩ := b_told (d := d) (kd := 6) (a := a1) (b := 0) hS hb hB hE (by omega) (by omega) (by omega) (by omega) (fun q => by omega)
    refine ⟨r, w1, w2, ?_, ?_, u3⟩
    · rw [e_D_felt, if_neg (by omega), if_neg (by omega)]
      exact u1
    · rw [e_M_felt, can_yes (d := d + 10) hB (by omega) u4, bnd]
      dsimp only
      rw [if_neg (show ¬ (1 : Int) = 0 by decide), m_in, bnd, if_pos h1]
      dsimp only
      rw [if_neg (show ¬ (1 : Int) = 0 by decide)]
      have : mkd 6 = 5 := by decide
      rw [this] at u2
      rw [u2, bnd]
  · refine ⟨-1, w, w, ?_, ?_, hS⟩
    · rw [e_D_felt]
      by_cases z : a1 < 0
      · rw [if_pos z]
      · rw [if_neg z, if_pos (by omega)]
    · rw [e_M_felt, can_yes (d := d + 10) hB (by omega) rfl, bnd]
      dsimp only
      rw [if_neg (show ¬ (1 : Int) = 0 by decide), m_in, bnd, if_neg h1, if_pos rfl]
theorem p_seen (hS : Sim LS RX w) (a1 : Int) : ∃ r w1 w2, D_seen (d + 12) a1 w = some (r, w1) ∧ M_seen (d + 12) a1 w1 = some (r, w2) ∧ Sim LS RX w2 := by
  have hno : ∀ (h : (w 8 0 1 = 0 ∧ w 70 0 0 = -1 ∧ w 8 0 6 = 0) ∨ (w 8 0 1 = 1 ∧ 200 ≤ w 70 0 2 ∧ RB w 0 (w 70 0))), ∃ r w1 w2, D_seen (d + 12) a1 w = some (r, w1) ∧ M_seen (d + 12) a1 w1 = some (r, w2) ∧ Sim LS RX w2 := fun h => by
    refine ⟨-1, w, w, ?_, ?_, hS⟩
    · rw [e_D_seen]
      by_cases z : a1 < 0
      · rw [if_pos z]
      · rw [if_neg z]
        by_cases z2 : 9 < a1
        · rw [if_pos z2]
        · rw [if_neg z2, (keep_no (d := d + 10) h 7 a1 0).1, bnd, if_pos rfl]
    · rw [e_M_seen, (keep_no (d := d + 10) h 7 a1 0).2, bnd, if_pos rfl]
  rcases hS.bgn with q | ⟨hb, hB, hE⟩
  · exact hno (Or.inl q)
  by_cases h200 : 200 ≤ w 70 0 2
  · exact hno (Or.inr ⟨hb, h200, hB⟩)
  by_cases h1 : 0 ≤ a1 ∧ a1 ≤ 9
  · obtain ⟨r, w1, w2, u1, u2, u3, u4, -⟩ := b_told (d := d) (kd := 7) (a := a1) (b := 0) hS hb hB hE (by omega) (by omega) (by omega) (by omega) (fun q => by omega)
    refine ⟨r, w1, w2, ?_, ?_, u3⟩
    · rw [e_D_seen, if_neg (by omega), if_neg (by omega)]
      exact u1
    · rw [e_M_seen, can_yes (d := d + 10) hB (by omega) u4, bnd]
      dsimp only
      rw [if_neg (show ¬ (1 : Int) = 0 by decide), m_in, bnd, if_pos h1]
      dsimp only
      rw [if_neg (show ¬ (1 : Int) = 0 by decide)]
      have : mkd 7 = 6 := by decide
      rw [this] at u2
      rw [u2, bnd]
  · refine ⟨-1, w, w, ?_, ?_, hS⟩
    · rw [e_D_seen]
      by_cases z : a1 < 0
      · rw [if_pos z]
      · rw [if_neg z, if_pos (by omega)]
    · rw [e_M_seen, can_yes (d := d + 10) hB (by omega) rfl, bnd]
      dsimp only
      rw [if_neg (show ¬ (1 : Int) = 0 by decide), m_in, bnd, if_neg h1, if_pos rfl]
theorem p_heard (hS : Sim LS RX w) (a1 a2 : Int) : ∃ r w1 w2, D_heard (d + 12) a1 a2 w = some (r, w1) ∧ M_heard (d + 12) a1 a2 w1 = some (r, w2) ∧ Sim LS RX w2 := by
  have hno : ∀ (h : (w 8 0 1 = 0 ∧ w 70 0 0 = -1 ∧ w 8 0 6 = 0) ∨ (w 8 0 1 = 1 ∧ 200 ≤ w 70 0 2 ∧ RB w 0 (w 70 0))), ∃ r w1 w2, D_heard (d + 12) a1 a2 w = some (r, w1) ∧ M_heard (d + 12) a1 a2 w1 = some (r, w2) ∧ Sim LS RX w2 := fun h => by
    refine ⟨-1, w, w, ?_, ?_, hS⟩
    · rw [e_D_heard]
      by_cases z : a1 < 0
      · rw [if_pos z]
      · rw [if_neg z]
        by_cases z2 : w 9 (w 7 0 0) 3 ≤ a1
        · rw [if_pos z2]
        · rw [if_neg z2]
          by_cases z3 : a2 < 0
          · rw [if_pos z3]
          · rw [if_neg z3]
            by_cases z4 : 40 < a2
            · rw [if_pos z4]
            · rw [if_neg z4, (keep_no (d := d + 10) h 8 a1 a2).1, bnd, if_pos rfl]
    · rw [e_M_heard, (keep_no (d := d + 10) h 8 a1 a2).2, bnd, if_pos rfl]
  rcases hS.bgn with q | ⟨hb, hB, hE⟩
  · exact hno (Or.inl q)
  by_cases h200 : 200 ≤ w 70 0 2
  · exact hno (Or.inr ⟨hb, h200, hB⟩)
  have hsr := hE.2.1.2.2.2.1
  have hi : w 70 0 0 = w 7 0 0 := hE.2.2.2.1.1
  have hMp : ∀ w1 : zW, w1 70 = w 70 → w1 62 = w 62 → M_heard (d + 12) a1 a2 w1 = if 0 ≤ a1 ∧ a1 ≤ w 62 0 (w 7 0 0) - 1 then (if 0 ≤ a2 ∧ a2 ≤ 40 then (M_told (d + 11) 7 a1 a2 w1).bind fun r5 => some (r5.1, r5.2) else some (-1, w1)) else some (-1, w1) := fun w1 h1 h2 => by
    rw [e_M_heard, can_yes (d := d + 10) hB (by omega) h1, bnd]
    dsimp only
    rw [if_neg (show ¬ (1 : Int) = 0 by decide), m_woodNow, bnd]
    dsimp only
    rw [h1, hi, gd_t (by have := hE.2.2.2.2.1; omega)]
    simp only [h2]
    rw [gd_t (by omega), m_in, bnd]
    dsimp only
    by_cases z : 0 ≤ a1 ∧ a1 ≤ w 62 0 (w 7 0 0) - 1
    · rw [if_pos z, if_pos z, if_neg (show ¬ (1 : Int) = 0 by decide), m_in, bnd]
      dsimp only
      by_cases z2 : 0 ≤ a2 ∧ a2 ≤ 40
      · rw [if_pos z2, if_pos z2, if_neg (show ¬ (1 : Int) = 0 by decide)]
      · rw [if_neg z2, if_neg z2, if_pos rfl]
    · rw [if_neg z, if_neg z, if_pos rfl]
  by_cases h1 : 0 ≤ a1 ∧ a1 ≤ w 62 0 (w 7 0 0) - 1
  · by_cases h2 : 0 ≤ a2 ∧ a2 ≤ 40
    · obtain ⟨r, w1, w2, u1, u2, u3, u4, u5⟩ := b_told (d := d) (kd := 8) (a := a1) (b := a2) hS hb hB hE (by omega) (by omega) (by omega) (by omega) (fun _ => by omega)
      refine ⟨r, w1, w2, ?_, ?_, u3⟩
      · rw [e_D_heard, if_neg (by omega), if_neg (by omega), if_neg (by omega), if_neg (by omega)]
        exact u1
      · have : mkd 8 = 7 := by decide
        rw [this] at u2
        rw [hMp w1 u4 u5, if_pos h1, if_pos h2, u2, bnd]
    · refine ⟨-1, w, w, ?_, ?_, hS⟩
      · rw [e_D_heard, if_neg (by omega), if_neg (by omega)]
        by_cases z : a2 < 0
        · rw [if_pos z]
        · rw [if_neg z, if_pos (by omega)]
      · rw [hMp w rfl rfl, if_pos h1, if_neg h2]
  · refine ⟨-1, w, w, ?_, ?_, hS⟩
    · rw [e_D_heard]
      by_cases z : a1 < 0
      · rw [if_pos z]
      · rw [if_neg z, if_pos (by omega)]
    · rw [hMp w rfl rfl, if_neg h1]
end
