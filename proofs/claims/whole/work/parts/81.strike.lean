section
variable {LS RX : Int → List clau} {w : zW} {d : Nat}
theorem p_strike (hS : Sim LS RX w) (a1 a2 : Int) : ∃ r w1 w2, D_strike (d + 12) a1 a2 w = some (r, w1) ∧ M_strike (d + 12) a1 a2 w1 = some (r, w2) ∧ Sim LS RX w2 := by
  have hDpre : D_strike (d + 12) a1 a2 w = if 0 ≤ a1 ∧ a1 ≤ 7 ∧ 1 ≤ w 4 0 2 then (State_keep (d + 11) 0 5 a1 (if a2 = 0 then 0 else 1) w).bind fun r1 => if r1.1 = 0 then some (-1, r1.2) else some (r1.2 4 0 2, r1.2) else some (-1, w) := by
    rw [e_D_strike]
    by_cases z : a1 < 0
    · rw [if_pos z, if_neg (by omega)]
    · rw [if_neg z]
      by_cases z2 : 7 < a1
      · rw [if_pos z2, if_neg (by omega)]
      · rw [if_neg z2]
        by_cases z3 : w 4 0 2 < 1
        · rw [if_pos z3, if_neg (by omega)]
        · rw [if_neg z3, if_pos (show 0 ≤ a1 ∧ a1 ≤ 7 ∧ 1 ≤ w 4 0 2 by omega)]
          by_cases z4 : a2 = 0
          · rw [if_pos z4, if_pos z4, e_D_strike_6]
          · rw [if_neg z4, if_neg z4, e_D_strike_6]
  have hno : ∀ (h : (w 8 0 1 = 0 ∧ w 70 0 0 = -1 ∧ w 8 0 6 = 0) ∨ (w 8 0 1 = 1 ∧ 200 ≤ w 70 0 2 ∧ RB w 0 (w 70 0))), ∃ r w1 w2, D_strike (d + 12) a1 a2 w = some (r, w1) ∧ M_strike (d + 12) a1 a2 w1 = some (r, w2) ∧ Sim LS RX w2 := fun h => by
    refine ⟨-1, w, w, ?_, ?_, hS⟩
    · rw [hDpre, (keep_no (d := d + 10) h 5 a1 (if a2 = 0 then 0 else 1)).1, bnd, if_pos (show (0 : Int) = 0 from rfl), ite_self]
    · rw [e_M_strike, (keep_no (d := d + 10) h 5 a1 0).2, bnd, if_pos rfl]
  rcases hS.bgn with q | ⟨hb, hB, hE⟩
  · exact hno (Or.inl q)
  by_cases h200 : 200 ≤ w 70 0 2
  · exact hno (Or.inr ⟨hb, h200, hB⟩)
  have hB0 := hB
  obtain ⟨b1, b2, b3, b4, b5, b6, b7, b8, b9, b10, b11, b12⟩ := hB0
  have hp01 : (if a2 = 0 then (0 : Int) else 1) = 0 ∨ (if a2 = 0 then (0 : Int) else 1) = 1 := by
    by_cases z : a2 = 0
    · rw [if_pos z]; exact Or.inl rfl
    · rw [if_neg z]; exact Or.inr rfl
  generalize hp : (if a2 = 0 then (0 : Int) else 1) = p at hDpre hp01
  have hMp : ∀ w1 : zW, w1 70 = w 70 → M_strike (d + 12) a1 a2 w1 = if 0 ≤ a1 ∧ a1 ≤ 7 then (if w 70 0 4 = 0 then some (-1, w1) else M_strike_6 (d + 12) a1 a2 6 8 a1 p w1) else some (-1, w1) := fun w1 h1 => by
    rw [e_M_strike, can_yes (d := d + 10) hB (by omega) h1, bnd]
    dsimp only
    rw [if_neg (show ¬ (1 : Int) = 0 by decide), m_in, bnd]
    dsimp only
    by_cases z : 0 ≤ a1 ∧ a1 ≤ 7
    · rw [if_pos z, if_pos z, if_neg (show ¬ (1 : Int) = 0 by decide), gd_t (by decide)]
      simp only [h1]
      by_cases z2 : w 70 0 4 = 0
      · rw [if_pos z2, if_pos z2]
      · rw [if_neg z2, if_neg z2]
        by_cases z3 : a2 = 0
        · rw [if_pos z3]
          rw [if_pos z3] at hp
          rw [← hp]
        · rw [if_neg z3]
          rw [if_neg z3] at hp
          rw [← hp]
    · rw [if_neg z, if_neg z, if_pos rfl]
  by_cases h1 : 0 ≤ a1 ∧ a1 ≤ 7 ∧ 1 ≤ w 4 0 2
  · obtain ⟨st, w1, v1, p1, q1, hst, k1, k2, k3, m1, hv, h0, hst1⟩ := b_sign (d := d + 7) (e := d + 8) (kd := 5) (a := a1) (b := p) hb hB hE (by omega) (by omega) (by omega) (by omega) (fun q => by omega)
    have hi : w 70 0 0 = w 7 0 0 := hE.2.2.2.1.1
    have h70 : w1 70 = w 70 := k1 70 (by decide)
    have hm5 : mkd 5 = 8 := by decide
    have cN : 0 ≤ w 70 0 3 + 1 ∧ w 70 0 3 + 1 ≤ w 70 0 2 + 1 := by omega
    have cM : 0 ≤ w 70 0 4 - 1 ∧ w 70 0 4 - 1 ≤ 9 := by omega
    have cp : 0 ≤ p ∧ p ≤ 40 := by rcases hp01 with q | q <;> rw [q] <;> decide
    have ca : 0 ≤ a1 ∧ a1 ≤ 40 := by omega
    rw [hm5] at q1
    rw [if_pos h1] at hDpre
    rcases hst with z | z
    · rw [z] at p1 q1
      obtain ⟨g1, g2⟩ := h0 z
      refine ⟨-1, w1, v1, ?_, ?_, Sim_ref hS k1 k2 k3 g1 m1 g2⟩
      · rw [hDpre, p1, bnd, if_pos rfl]
      · rw [hMp w1 h70, if_pos (by omega), if_neg (by omega), e_M_strike_6, gd_t (by decide), h70, q1, bnd, if_pos rfl]
    · rw [z] at p1 q1
      obtain ⟨F, g1, g2, g3, g4, g5, g6, g7, g8, g9, g10, g11⟩ := hst1 z
      have f1 : aN 5 1 (w 70 0 3) = w 70 0 3 + 1 := by unfold aN; rw [if_pos (by decide)]
      have f2 : aM 5 1 (w 70 0 4) = w 70 0 4 - 1 := by unfold aM; rw [if_pos (by decide)]
      have f3 : aE 5 1 (w 70 0 5) = 0 := by unfold aE; rw [if_neg (by decide), if_pos (by decide)]
      rw [f1] at g4
      rw [f2] at g5
      rw [f3] at g6
      generalize hv2 : z_up (z_up (z_up v1 70 0 3 (w 70 0 3 + 1)) 70 0 4 (w 70 0 4 - 1)) 70 0 5 0 = v2
      have fv : mF [68, 69, 70, 72] [30] w1 v2 := by
        rw [← hv2]
        exact mF_tr m1 (mF_tr (mF_tr (mF_up (by decide) (by decide)) (mF_up (by decide) (by decide))) (mF_up (by decide) (by decide)))
      have hvx : ∀ x, x ≠ 3 → x ≠ 4 → x ≠ 5 → v2 70 0 x = v1 70 0 x := fun x q r s => by rw [← hv2, up_s s, up_s r, up_s q]
      have hF2 : eqR (wtM v2 70 6) F := fun k k0 k1' => by
        rw [← g3 k k0 k1']
        exact hvx (6 + k) (by omega) (by omega) (by omega)
      obtain ⟨v3, r1, r2, r3, r4, r5⟩ := m_writes (d := d + 8) (i := w 7 0 0) (k := 8) (a := a1) (b := p) (n := w 70 0 2) (w := v2) (path := w 33 (w 7 0 0)) (by rw [hvx 0 (by omega) (by omega) (by omega), hv 0 (by omega)]; exact hi) hE.2.2.2.2.1 (fun c c0 c1 => by
        rw [fv.1 64 (by decide) (by decide), k1 64 (by decide)]
        exact (hE.2.1.2.2.2.2.1 c c0 c1).1.1.symm) (fun k k0 k1' => by rw [hF2 k k0 k1']; exact wOK_B g1 k k0 k1') (by rw [hvx 2 (by omega) (by omega) (by omega), hv 2 (by omega)]) (by omega)
      have hone : onp (w 33 (w 7 0 0)) (wtM v2 70 6) = onp (w 33 (w 7 0 0)) F := sm_congr fun c hc => by rw [od_eqR hF2 (by omega) (by omega)]
      rw [hone] at r4
      refine ⟨w 70 0 4 - 1, w1, v3, ?_, ?_, ?_⟩
      · rw [hDpre, p1, bnd]
        dsimp only
        rw [if_neg (show ¬ (1 : Int) = 0 by decide), g5]
      · rw [hMp w1 h70, if_pos (by omega), if_neg (by omega), e_M_strike_6, gd_t (by decide), h70, q1, bnd]
        dsimp only
        rw [if_neg (show ¬ (1 : Int) = 0 by decide)]
        simp only [hv 3 (by omega), hv 4 (by omega)]
        rw [gd_t (by decide), gd_t (by omega), gd_t (by decide), gd_t (by decide), gd_t (by omega), gd_t (by decide), gd_t (by decide), hv2]
        have hfin : ((M_writes (d + 11) 8 a1 p v2).bind fun r2 => gd ((0 : Int) ≤ 4 ∧ (4 : Int) < 1392) (some (r2.2 70 0 4, r2.2))) = some (w 70 0 4 - 1, v3) := by
          rw [r1, bnd]
          dsimp only
          rw [gd_t (by decide), r5 4 (by decide) (by omega), ← hv2, up_s (by decide), up_h]
        by_cases z3 : a2 = 0
        · rw [if_pos z3]
          rw [if_pos z3] at hp
          rw [← hp] at hfin
          exact hfin
        · rw [if_neg z3]
          rw [if_neg z3] at hp
          rw [← hp] at hfin
          exact hfin
      · refine Sim_act (kd := 5) (a := a1) (b := p) hS hB hE rfl (by omega) k1 k2 k3 g2 g4 g5 g6 g7 g8 ⟨g9, g10, g11⟩ (mF_tr fv (mF_sub r2 (by decide) (by decide))) ⟨?_, ?_, r3, ?_, ?_, ?_⟩ (fun k k0 k1' => ?_) (fun x x0 x1 => ?_) ⟨by rw [r4.1, if_neg (by decide)]; rfl, r4.2.1, r4.2.2.1, r4.2.2.2⟩ cN cM (by decide) g1 (by decide) ca cp (fun y => absurd y (by decide))
        · rw [r5 0 (by omega) (by omega), hvx 0 (by omega) (by omega) (by omega), hv 0 (by omega)]
        · rw [r5 1 (by omega) (by omega), hvx 1 (by omega) (by omega) (by omega), hv 1 (by omega)]
        · rw [r5 3 (by omega) (by omega), ← hv2, up_s (by decide), up_s (by decide), up_h]
        · rw [r5 4 (by omega) (by omega), ← hv2, up_s (by decide), up_h]
        · rw [r5 5 (by omega) (by omega), ← hv2, up_h]
        · rw [← hF2 k k0 k1']
          exact r5 (6 + k) (by omega) (by omega)
        · rw [r5 x (by omega) x1, hvx x (by omega) (by omega) (by omega), hv x (by omega)]
  · refine ⟨-1, w, w, ?_, ?_, hS⟩
    · rw [hDpre, if_neg h1]
    · rw [hMp w rfl]
      by_cases z : 0 ≤ a1 ∧ a1 ≤ 7
      · rw [if_pos z, if_pos (by omega)]
      · rw [if_neg z]
end
