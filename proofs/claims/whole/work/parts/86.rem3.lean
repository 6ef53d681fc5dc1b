theorem gAt_e {w w' : zW} {i j : Int} {Cs : List clau} {set : Nat} {G : Int → Int} (h : sameE w w') : ∀ k, gAt w' i j Cs set G k = gAt w i j Cs set G k := by
  intro k
  induction k with
  | zero => rfl
  | succ k ih =>
    show gStep w' i j Cs set _ _ _ (gAt w' i j Cs set G k) = _
    rw [ih, gStep_e h]
    rfl
def remC (w w1 : zW) (i j : Int) (Cs : List clau) : Prop := z_fr gC w w1 ∧ (∀ q, q ≠ 5 → w1 4 q = w 4 q ∧ w1 19 q = w 19 q) ∧ EN w1 i j Cs
def remM (w wM : zW) (i j : Int) (Cs : List clau) : Prop := ENV wM i j Cs ∧ sameE w wM ∧ wM 70 0 = w 70 0 ∧ wM 11 0 38 = w 70 0 1390 ∧ wM 11 0 39 = w 70 0 1391
theorem remM_m {w wM w' : zW} {i j : Int} {Cs : List clau} (h : remM w wM i j Cs) (hf : mF mrC [30, 35] wM w') : remM w w' i j Cs :=
  ⟨ENV_m hf (by decide) (by decide) h.1, sameE_tr h.2.1 (sameE_m hf (by decide)), by rw [hf.1 70 (by decide) (by decide)]; exact h.2.2.1, by rw [hf.2 38 (by decide)]; exact h.2.2.2.1, by rw [hf.2 39 (by decide)]; exact h.2.2.2.2⟩
theorem RB_fr {w w1 : zW} (h : z_fr gC w w1) (ho : ∀ q, q ≠ 5 → w1 4 q = w 4 q ∧ w1 19 q = w 19 q) (hB : RB w 0 (w 70 0)) : RB w1 0 (w1 70 0) := by
  rw [h 70 (by decide)]
  exact RB_G (by rw [h 8 (by decide)]) (h 10 (by decide)) (by rw [(ho 0 (by decide)).1]; exact ⟨rfl, rfl, rfl⟩) (by rw [(ho 0 (by decide)).2]; exact eqR_rf _) (by rw [h 29 (by decide)]) (by rw [h 30 (by decide)]) (h 9 (by decide)) (h 34 (by decide)) (fun _ _ _ => rfl) rfl rfl hB
theorem b_rem {d : Nat} {w : zW} {i j bar x y : Int} {Cs : List clau} (hE : ENV w i j Cs) (hB : RB w 0 (w 70 0)) (hx : 0 ≤ x ∧ x < 12) (hy : 0 ≤ y ∧ y < 12) : ∀ (m size n set : Nat), size + m = 5 → set + n = 16 →
    ∃ r, (∀ w1, remC w w1 i j Cs → ∃ w2, D_remember_7 (d + 12) bar (y * 12 + x) size set w1 = some (r, w2) ∧ remC w w2 i j Cs) ∧ (∀ wM, remM w wM i j Cs → ∃ w2, M_remember_7 (d + 12) x y bar size set wM = some (r, w2) ∧ mF mrC [30, 35] wM w2) := by
  intro m
  induction m with
  | zero =>
    -- size 5: no set has five sorts
    intro size n
    induction n with
    | zero =>
      intro set hm hn
      refine ⟨-2, fun w1 h => ⟨w1, ?_, h⟩, fun wM h => ⟨wM, ?_, mF_rf _ _ _⟩⟩
      · rw [e_D_remember_7, if_pos (by omega), gd_t (by omega), e_D_remember_5, if_pos (by omega)]
      · rw [e_M_remember_7, if_pos (by omega), gd_t (by omega), e_M_remember_5, if_pos (by omega)]
    | succ n ih =>
      intro set hm hn
      obtain ⟨r, r1, r2⟩ := ih (set + 1) hm (by omega)
      have hp : pc set ≠ size := by
        unfold pc
        omega
      refine ⟨r, fun w1 h => ?_, fun wM h => ?_⟩
      · rw [e_D_remember_7, if_neg (by omega), j_bits (by omega), bnd]
        dsimp only
        rw [if_neg hp, gd_t (by omega)]
        exact r1 w1 h
      · rw [e_M_remember_7, if_neg (by omega), m_bits (by omega), bnd]
        dsimp only
        rw [if_neg hp, gd_t (by omega)]
        exact r2 wM h
  | succ m ihm =>
    intro size n
    induction n with
    | zero =>
      intro set hm hn
      by_cases hm0 : m = 0
      · refine ⟨-2, fun w1 h => ⟨w1, ?_, h⟩, fun wM h => ⟨wM, ?_, mF_rf _ _ _⟩⟩
        · rw [e_D_remember_7, if_pos (by omega), gd_t (by omega), e_D_remember_5, if_pos (by omega)]
        · rw [e_M_remember_7, if_pos (by omega), gd_t (by omega), e_M_remember_5, if_pos (by omega)]
      obtain ⟨r, r1, r2⟩ := ihm (size + 1) 16 0 (by omega) (by omega)
      refine ⟨r, fun w1 h => ?_, fun wM h => ?_⟩
      · rw [e_D_remember_7, if_pos (by omega), gd_t (by omega), e_D_remember_5, if_neg (by omega)]
        exact r1 w1 h
      · rw [e_M_remember_7, if_pos (by omega), gd_t (by omega), e_M_remember_5, if_neg (by omega)]
        exact r2 wM h
    | succ n ih =>
      intro set hm hn
      obtain ⟨r, r1, r2⟩ := ih (set + 1) hm (by omega)
      by_cases hp : pc set = size
      · have hc : 0 ≤ y * 12 + x ∧ y * 12 + x < 144 := by omega
        have hacts := hB.2.2.2.2.1
        obtain ⟨na, hna⟩ : ∃ na : Nat, w 8 0 6 = na := ⟨(w 8 0 6).toNat, by omega⟩
        have hOKn := gAt_OK (set := set) hE hB na
        have hod := od_bd (wOK_B hOKn.1) hc
        have hbd4 := hB.2.2.2.1
        have hD := hB.2.2.2.2.2.2.2.2.2.2.2
        have hstepC : ∀ w1, remC w w1 i j Cs → ∃ w2, remC w w2 i j Cs ∧ D_remember_7 (d + 12) bar (y * 12 + x) size set w1 = if od (gAt w i j Cs set (w 70 0) na).1 (y * 12 + x) / 1000000 < bar then D_remember_7 (d + 12) bar (y * 12 + x) size (set + 1 : Nat) w2 else some ((set : Int), w2) := fun w1 h => by
          obtain ⟨h1, h2, h3⟩ := h
          have ee := aC_e h1
          have hE1 : ENV w1 i j Cs := ⟨h3, RW_fr (fun c hc => h1 c (by revert hc; revert c; decide)) hE.2.1, Rlw_fr (fun c hc => h1 c (by revert hc; revert c; decide)) hE.2.2.1, by rw [h1 70 (by decide)]; exact hE.2.2.2.1, hE.2.2.2.2⟩
          obtain ⟨w2, s1, s2, s3, s4, s5⟩ := s_again (d := d + 7) (set := set) hE1 (RB_fr h1 h2 hB) (by omega)
          rw [gAt_e ee, h1 70 (by decide), h1 8 (by decide), hna, show ((na : Nat) : Int).toNat = na by omega] at s5
          refine ⟨w2, ⟨fr_tr h1 s2, fun q hq => ⟨(s3 q hq).1.trans (h2 q hq).1, (s3 q hq).2.trans (h2 q hq).2⟩, s4⟩, ?_⟩
          have hb2 : wtB (w2 19 5) := fun k k0 k1 => by rw [s5 k k0 k1]; exact wOK_B hOKn.1 k k0 k1
          have hw2 : Odds_weightAt (d + 11) 5 (y * 12 + x) (-1) w2 = some (od (gAt w i j Cs set (w 70 0) na).1 (y * 12 + x), w2) := by
            rw [s_weightAt hc hb2, if_neg (by omega), od_eqR s5 hc.1 hc.2]
          rw [e_D_remember_7, if_neg (by omega), j_bits (by omega), bnd]
          dsimp only
          rw [if_pos hp, s1, bnd]
          dsimp only
          rw [hw2, bnd]
          dsimp only
          rw [gd_t (by omega), gd_t (by omega)]
          rfl
        have hstepM : ∀ wM, remM w wM i j Cs → ∃ w2, mF mrC [30, 35] wM w2 ∧ M_remember_7 (d + 12) x y bar size set wM = if od (gAt w i j Cs set (w 70 0) na).1 (y * 12 + x) / 1000000 < bar then M_remember_7 (d + 12) x y bar size (set + 1 : Nat) w2 else some ((set : Int), w2) := fun wM h => by
          obtain ⟨h1, h2, h3, h4, h5⟩ := h
          obtain ⟨w2, s1, s2, s3⟩ := m_again (d := d + 6) (set := set) (G := w 70 0) (n := na) h1 h3 (by omega) (by
            intro k k0 k1
            have q := hD k k0 k1
            rw [h2 9 (by decide)]
            exact ⟨q.1, q.2.1, q.2.2.1, q.2.2.2.1⟩) hbd4.2.2.1 hbd4.2.2.2.2 (fun k => by
            unfold gOK
            rw [opw_e h2, gAt_e h2]
            exact gAt_OK hE hB k) (by omega) h4 h5
          rw [gAt_e h2] at s3
          refine ⟨w2, s2, ?_⟩
          have hb2 : wtB (wtM w2 71 0) := fun k k0 k1 => by rw [s3 k k0 k1]; exact wOK_B hOKn.1 k k0 k1
          rw [e_M_remember_7, if_neg (by omega), m_bits (by omega), bnd]
          dsimp only
          rw [if_pos hp, s1, bnd]
          dsimp only
          rw [gd_t (by omega), gd_t (by omega), Int.mul_comm 12 y, m_oddsOf (Or.inr ⟨rfl, rfl⟩) hc hb2, bnd]
          dsimp only
          rw [od_eqR s3 hc.1 hc.2, gd_t (by omega), gd_t (by omega)]
          rfl
        by_cases hq : od (gAt w i j Cs set (w 70 0) na).1 (y * 12 + x) / 1000000 < bar
        · refine ⟨r, fun w1 h => ?_, fun wM h => ?_⟩
          · obtain ⟨w2, s1, s2⟩ := hstepC w1 h
            rw [if_pos hq] at s2
            obtain ⟨w3, t1, t2⟩ := r1 w2 s1
            exact ⟨w3, s2.trans t1, t2⟩
          · obtain ⟨w2, s1, s2⟩ := hstepM wM h
            rw [if_pos hq] at s2
            obtain ⟨w3, t1, t2⟩ := r2 w2 (remM_m h s1)
            exact ⟨w3, s2.trans t1, mF_tr s1 t2⟩
        · refine ⟨set, fun w1 h => ?_, fun wM h => ?_⟩
          · obtain ⟨w2, s1, s2⟩ := hstepC w1 h
            rw [if_neg hq] at s2
            exact ⟨w2, s2, s1⟩
          · obtain ⟨w2, s1, s2⟩ := hstepM wM h
            rw [if_neg hq] at s2
            exact ⟨w2, s2, s1⟩
      · refine ⟨r, fun w1 h => ?_, fun wM h => ?_⟩
        · rw [e_D_remember_7, if_neg (by omega), j_bits (by omega), bnd]
          dsimp only
          rw [if_neg hp, gd_t (by omega)]
          exact r1 w1 h
        · rw [e_M_remember_7, if_neg (by omega), m_bits (by omega), bnd]
          dsimp only
          rw [if_neg hp, gd_t (by omega)]
          exact r2 wM h
theorem p_remember {LS RX : Int → List clau} {w : zW} {d : Nat} (hS : Sim LS RX w) (a1 a2 a3 : Int) : ∃ r w1 w2, D_remember (d + 12) a1 a2 a3 w = some (r, w1) ∧ M_remember (d + 12) a1 a2 a3 w1 = some (r, w2) ∧ Sim LS RX w2 := by
  have hset := hS.set
  have hcol := hS.cols hset.1.1 hset.1.2
  have hca := s_cellAt (d := d + 11) (i := w 7 0 0) (x := a1) (y := a2) hcol.1 hcol.2
  rcases hS.bgn with ⟨b1, b2, -⟩ | ⟨hb, hB, hE⟩
  · refine ⟨-1, w, w, ?_, ?_, hS⟩
    · rw [e_D_remember, hca, bnd, if_pos b1]
    · rw [e_M_remember, none_m b2, bnd, if_pos rfl]
  have hi : w 70 0 0 = w 7 0 0 := hE.2.2.2.1.1
  have hCR := hE.2.1.1
  have hMp : ∀ w1 : zW, w1 70 = w 70 → RW w1 (w 7 0 0) → w1 9 = w 9 → M_remember (d + 12) a1 a2 a3 w1 = if 0 ≤ a1 ∧ 0 ≤ a2 ∧ a1 < w 9 (w 7 0 0) 0 ∧ a2 < w 9 (w 7 0 0) 1 then (if 1 ≤ a3 ∧ a3 ≤ 1000 then M_remember_5 (d + 12) a1 a2 a3 0 (z_up (z_up w1 11 0 38 (w 70 0 1390)) 11 0 39 (w 70 0 1391)) else some (-1, w1)) else some (-1, w1) := fun w1 h1 h2 h3 => by
    have hiw := h2.inW (d := d + 10) (x := a1) (y := a2) hE.2.2.2.2.1
    rw [h3] at hiw
    have hgo : M_isWalk (d + 11) w1 = some (1, w1) := by
      have := hB.2.1.2.1
      rw [m_isWalk, h1, if_neg (by omega)]
    rw [e_M_remember, hgo, bnd]
    dsimp only
    rw [if_neg (show ¬ (1 : Int) = 0 by decide), m_woodNow, bnd]
    dsimp only
    rw [h1, hi, hiw, bnd]
    dsimp only
    by_cases z : 0 ≤ a1 ∧ 0 ≤ a2 ∧ a1 < w 9 (w 7 0 0) 0 ∧ a2 < w 9 (w 7 0 0) 1
    · rw [if_pos z, if_pos z, if_neg (show ¬ (1 : Int) = 0 by decide), m_in, bnd]
      dsimp only
      by_cases z2 : 1 ≤ a3 ∧ a3 ≤ 1000
      · rw [if_pos z2, if_pos z2, if_neg (show ¬ (1 : Int) = 0 by decide), gd_t (by decide), gd_t (by decide), h1]
      · rw [if_neg z2, if_neg z2, if_pos rfl]
    · rw [if_neg z, if_neg z, if_pos rfl]
  by_cases h1 : 0 ≤ a1 ∧ 0 ≤ a2 ∧ a1 < w 9 (w 7 0 0) 0 ∧ a2 < w 9 (w 7 0 0) 1
  · have hcv : cellAt (w 9 (w 7 0 0) 0) (w 9 (w 7 0 0) 1) a1 a2 = a2 * 12 + a1 := by unfold cellAt; rw [if_pos h1]
    rw [hcv] at hca
    by_cases h3 : 1 ≤ a3 ∧ a3 ≤ 1000
    · obtain ⟨r, r1, r2⟩ := b_rem (d := d) (bar := a3) (x := a1) (y := a2) hE hB (by omega) (by omega) 5 0 16 0 rfl rfl
      obtain ⟨w1, s1, s2, s3, s4⟩ := r1 w ⟨fr_rf _ _, fun _ _ => ⟨rfl, rfl⟩, hE.1⟩
      have ee := aC_e s2
      have h70 : w1 70 = w 70 := s2 70 (by decide)
      have hW1 : RW w1 (w 7 0 0) := RW_fr (fun c hc => s2 c (by revert hc; revert c; decide)) hE.2.1
      have hE1 : ENV w1 (w 7 0 0) (w 7 0 1) (LS (w 7 0 1)) := ⟨s4, hW1, Rlw_fr (fun c hc => s2 c (by revert hc; revert c; decide)) hE.2.2.1, by rw [h70]; exact hE.2.2.2.1, hE.2.2.2.2⟩
      generalize hwm : z_up (z_up w1 11 0 38 (w 70 0 1390)) 11 0 39 (w 70 0 1391) = wM
      have fM : mF [] [38, 39] w1 wM := by
        rw [← hwm]
        exact mF_tr (mF_11 (by decide)) (mF_11 (by decide))
      obtain ⟨w2, t1, t2⟩ := r2 wM ⟨ENV_m fM (by decide) (by decide) hE1, sameE_tr ee (sameE_m fM (by decide)), by rw [fM.1 70 (by decide) (by decide), h70], by rw [← hwm, up_s (by decide), up_h], by rw [← hwm, up_h]⟩
      refine ⟨r, w1, w2, ?_, ?_, ?_⟩
      · rw [e_D_remember, hca, bnd]
        dsimp only
        rw [if_neg (by omega), if_neg (by omega), s_isBar, bnd, if_pos h3]
        dsimp only
        rw [if_neg (show ¬ (1 : Int) = 0 by decide), e_D_remember_5, if_neg (by decide)]
        exact s1
      · rw [hMp w1 h70 hW1 (s2 9 (by decide)), if_pos h1, if_pos h3, hwm, e_M_remember_5, if_neg (by decide)]
        exact t1
      · have ft : mF mrC [30, 35, 38, 39] w1 w2 := mF_tr (mF_sub fM (by decide) (by decide)) (mF_sub t2 (by decide) (by decide))
        refine Sim_ask (fun c hc => ?_) (fun s hs => ?_) ?_ (fun _ => ?_) hS
        · rw [ft.1 c (by revert hc; revert c; decide) (by revert hc; revert c; decide)]
          exact s2 c (by revert hc; revert c; decide)
        · rw [ft.1 4 (by decide) (by decide), ft.1 19 (by decide) (by decide)]
          exact s3 s (by omega)
        · rw [ft.2 1 (by decide), s2 11 (by decide)]
        · exact RC_fr (sameE_m ft (by decide)) (ft.1 26 (by decide) (by decide)) (ft.1 27 (by decide) (by decide)) s4.2.2.2.2.2.2.2.2.2
    · refine ⟨-1, w, w, ?_, ?_, hS⟩
      · rw [e_D_remember, hca, bnd]
        dsimp only
        rw [if_neg (by omega), if_neg (by omega), s_isBar, bnd, if_neg h3, if_pos rfl]
      · rw [hMp w rfl hE.2.1 rfl, if_pos h1, if_neg h3]
  · have hcv : cellAt (w 9 (w 7 0 0) 0) (w 9 (w 7 0 0) 1) a1 a2 = -1 := by unfold cellAt; rw [if_neg h1]
    rw [hcv] at hca
    refine ⟨-1, w, w, ?_, ?_, hS⟩
    · rw [e_D_remember, hca, bnd]
      dsimp only
      rw [if_neg (by omega), if_pos rfl]
    · rw [hMp w rfl hE.2.1 rfl, if_neg h1]
