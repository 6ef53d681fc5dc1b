theorem gk_Sim {LS RX : Int → List clau} {w w1 v : zW} (hS : Sim LS RX w) (h1 : z_fr nC w w1) (ho : ∀ o, o ≠ 13 → w1 4 o = w 4 o ∧ w1 19 o = w 19 o) (hm : mF (76 :: nM) nT w1 v) (hR : RC w1 (w 7 0 0) (LS (w 7 0 1))) : Sim LS RX v := by
  refine Sim_ask (fun c hc => ?_) (fun s hs => ?_) ?_ (fun _ => ?_) hS
  · rw [hm.1 c (by revert hc; revert c; decide) (by revert hc; revert c; decide)]
    exact h1 c (by revert hc; revert c; decide)
  · rw [hm.1 4 (by decide) (by decide), hm.1 19 (by decide) (by decide)]
    exact ho s (by omega)
  · rw [hm.2 1 (by decide), h1 11 (by decide)]
  · exact RC_fr3 (fun c hc => hm.1 c (by revert hc; revert c; decide) (by revert hc; revert c; decide)) hR
section
variable {LS RX : Int → List clau} {w : zW} {d : Nat}
theorem p_night (hS : Sim LS RX w) (a1 a2 a3 a4 a5 a6 a7 : Int) (h5 : a5 ≤ 2147483647) : ∃ r w1 w2, D_night (d + 12) a1 a2 a3 a4 a5 a6 a7 w = some (r, w1) ∧ M_night (d + 12) a1 a2 a3 a4 a5 a6 a7 w1 = some (r, w2) ∧ Sim LS RX w2 := by
  rcases hS.bgn with ⟨b1, b2, -⟩ | ⟨hb, hB, hE⟩
  · refine ⟨-1, w, w, ?_, ?_, hS⟩
    · rw [e_D_night, s_startNo b1, bnd]
      dsimp only
      by_cases g1 : a1 < 0
      · rw [if_pos g1]
      · rw [if_neg g1]
        by_cases g2 : w 10 0 6 ≤ a1
        · rw [if_pos g2]
        · rw [if_neg g2, if_pos rfl]
    · rw [e_M_night, e_M_isNight, none_m b2, bnd, if_pos rfl, gd_t (by decide), bnd, if_pos rfl]
  have hc := hS.cnt
  have hgo : w 70 0 0 ≠ -1 := by
    have := hB.2.1.2.1
    omega
  have hst := s_startOf (d := d + 9) (x := a2) (y := a3) (way := a4) (seed := a5) (rounds := a6) hb hE
  have hMi : ∀ u : zW, u 49 = w 49 → u 70 = w 70 → ENV u (w 7 0 0) (w 7 0 1) (LS (w 7 0 1)) → u 9 = w 9 → u 34 = w 34 → M_isNight (d + 11) a1 a2 a3 a4 a5 a6 u = some (if (0 ≤ a1 ∧ a1 < w 10 0 6) ∧ stOK w a2 a3 a4 a5 a6 then 1 else 0, u) := fun u h49 h70 hEu h9 h34 => by
    have := m_isNight (d := d + 8) (r := a1) (x := a2) (y := a3) (way := a4) (seed := a5) (rounds := a6) (by rw [h70]; exact hgo) hEu
    rw [h49, hc.2.2.1, h9, h34] at this
    rw [this]
    by_cases q : (0 ≤ a1 ∧ a1 < w 10 0 6) ∧ stOK w a2 a3 a4 a5 a6
    · rw [if_pos q, if_pos ⟨q.1, ⟨q.2.1, q.2.2.1⟩, q.2.2.2⟩]
    · rw [if_neg q, if_neg (fun z => q ⟨z.1, z.2.1.1, z.2.1.2, z.2.2⟩)]
  by_cases C : (0 ≤ a1 ∧ a1 < w 10 0 6) ∧ stOK w a2 a3 a4 a5 a6
  · by_cases h7 : 0 ≤ a7 ∧ a7 ≤ 6
    · obtain ⟨C1, C2⟩ := C
      have C2' := C2
      obtain ⟨s1, s2, s3, s4⟩ := C2'
      obtain ⟨k1, k2, k3⟩ := o_cell hE.2.1 s1
      have hRu := hS.rule C1.1 C1.2
      have hr6 : 0 ≤ a1 ∧ a1 < 6 := by omega
      generalize hwb : z_up (z_up (z_up (z_up w 3 0 2 a5) 3 0 7 0) 3 0 8 0) 3 0 9 0 = wb
      have fb : z_fr [3] w wb := by
        rw [← hwb]
        exact fr_tr (fr_tr (fr_tr (fr_up (by decide)) (fr_up (by decide))) (fr_up (by decide))) (fr_up (by decide))
      have hEb : ENV wb (w 7 0 0) (w 7 0 1) (LS (w 7 0 1)) := ENV_e (fun c hc => fb c (by revert hc; revert c; decide)) (by rw [fb 70 (by decide)]; exact ⟨rfl, rfl⟩) hE
      have b2 : wb 3 0 2 = a5 := by rw [← hwb, up_s (by decide), up_s (by decide), up_s (by decide), up_h]
      have b7 : wb 3 0 7 = 0 ∧ wb 3 0 8 = 0 ∧ wb 3 0 9 = 0 := by
        rw [← hwb]
        exact ⟨by rw [up_s (by decide), up_s (by decide), up_h], by rw [up_s (by decide), up_h], up_h⟩
      have hob : opw wb (w 7 0 0) (a3 * 12 + a2) := by
        rw [opw_e (sameE_fr fb (by decide))]
        exact k3
      have hRb : Rru wb a1 (RX a1) := Rru_fr (fun c hc => fb c (by revert hc; revert c; decide)) hRu
      have mk : ∀ u : zW, ENV u (w 7 0 0) (w 7 0 1) (LS (w 7 0 1)) → sameE wb u → Rru u a1 (RX a1) → NE wb (z_up u 11 0 43 a5) (w 7 0 0) (w 7 0 1) (LS (w 7 0 1)) ∧ Rru (z_up u 11 0 43 a5) a1 (RX a1) := fun u hu hs hr =>
        ⟨⟨hEb, ENV_e (fun c hc => up11 (by revert hc; revert c; decide)) (by rw [up11 (by decide)]; exact ⟨rfl, rfl⟩) hu, sameE_tr hs (fun c hc => up11 (by revert hc; revert c; decide))⟩, Rru_fr (fun c hc => up11 (by revert hc; revert c; decide)) hr⟩
      have run := fun (u : zW) (hu : NE wb (z_up u 11 0 43 a5) (w 7 0 0) (w 7 0 1) (LS (w 7 0 1)) ∧ Rru (z_up u 11 0 43 a5) a1 (RX a1)) => n_one (d := d + 5) (d' := d + 6) (c := a3 * 12 + a2) (way := a4) (x := (a3 * 12 + a2) * 4 + a4) (l2 := 6 + a1) (l5 := a6) hu.1 hr6 rfl hRb hu.2 s4 (by omega) hob s2 rfl ⟨by rw [up_h, b2], by rw [b2]; exact s3, by rw [b2]; omega⟩ b7
      obtain ⟨w1, _, p1, -, p3, -⟩ := run w (mk w hE (fun c hc => (fb c (by revert hc; revert c; decide)).symm) hRu)
      have ff : z_fr nC w w1 := fr_tr (fr_sub fb (by decide)) p3.1
      have hE1 := (GK_NE (mk w hE (fun c hc => (fb c (by revert hc; revert c; decide)).symm) hRu).1 p3).1
      obtain ⟨w1', v, q1, q2, q3, q4, q5, q6, q7, q8, q9⟩ := run w1 (mk w1 hE1 (sameE_fr p3.1 (by decide)) (Rru_fr (fun c hc => ff c (by revert hc; revert c; decide)) hRu))
      have hww : w1' = w1 := by
        rw [p1] at q1
        injection q1 with q1
        injection q1 with _ q1
        exact q1.symm
      subst hww
      have hSim : Sim LS RX v := gk_Sim hS ff (fun o ho => by
        have := q3.2.1 o ho
        rw [fb 4 (by decide), fb 19 (by decide)] at this
        exact this) (mF_tr (mF_11 (by decide)) q3.2.2.1) q3.2.2.2
      have hpl : Night_play (d + 11) (6 + a1) ((a3 * 12 + a2) * 4 + a4) a5 a6 1 w = some (0, w1') := by
        rw [e_Night_play, hwb]
        exact q1
      have h7w : w1' 7 0 0 = w 7 0 0 := by rw [ff 7 (by decide)]
      -- the last asked: the surest cell
      have hG := q4
      have hopw : opw w1' (w 7 0 0) = opw wb (w 7 0 0) := opw_e (sameE_fr q3.1 (by decide))
      have hf := wOK_B hG.1
      have hC : wtC w1' (w 7 0 0) (w1' 19 13) := by
        unfold wtC
        rw [hopw]
        exact hG.1.2.1
      obtain ⟨s, u1, u2⟩ := s_sure (d := d + 9) (o := 13) (i := w 7 0 0) (w := w1') hE1.1.2.1 hf hC (wOK_pos hG.1)
      have hg : wtB (wtM v 71 0) := fun k k0 k1 => by rw [hG.2 k k0 k1]; exact hf k k0 k1
      obtain ⟨m, t1, t2⟩ := m_surest (d := d + 10) (k := 71) (b := 0) (w := v) (Or.inr ⟨rfl, rfl⟩) hg
      have hsm : m = s := (t2.congr (eqR_sy hG.2)).eq u2
      subst hsm
      have t3 := m_oddsOf (d := d + 11) (k := 71) (b := 0) (c := m) (w := v) (Or.inr ⟨rfl, rfl⟩) ⟨u2.1, u2.2.1⟩ hg
      rw [od_eqR hG.2 u2.1 u2.2.1] at t3
      have odb := od_bd hf ⟨u2.1, u2.2.1⟩
      have t1' : M_surest (d + 11) 71 0 v = some (m, v) := t1
      have u1' : Odds_sure (d + 11) 13 (w 7 0 0) w1' = some (od (w1' 19 13) m / 1000000, w1') := u1
      have hm1 := hMi w1' (ff 49 (by decide)) (ff 70 (by decide)) hE1 (ff 9 (by decide)) (ff 34 (by decide))
      have q2' : M_nightGoes (d + 11) a1 (12 * a3 + a2) a4 a6 (z_up w1' 11 0 43 a5) = some (0, v) := by
        rw [Int.mul_comm 12 a3]
        exact q2
      have hDpre : D_night (d + 12) a1 a2 a3 a4 a5 a6 a7 w = if a7 = 0 then some (w1' 3 0 6, w1') else if a7 = 1 then some (w1' 3 0 5, w1') else if a7 = 2 then gd (0 ≤ w1' 3 0 3 ∧ (0 : Int) < 12) (some (w1' 3 0 3 % 12, w1')) else if a7 = 3 then gd (0 ≤ w1' 3 0 3 ∧ (0 : Int) < 12) (some (w1' 3 0 3 / 12, w1')) else if a7 = 4 then some (w1' 3 0 4, w1') else if a7 = 5 then some (w1' 4 13 2, w1') else some (od (w1' 19 13) m / 1000000, w1') := by
        rw [e_D_night, hst.1 C2, bnd]
        dsimp only
        rw [if_neg (by omega), if_neg (by omega), if_neg (by omega), if_neg (by omega), if_pos h7.2, gd_t (by omega), hpl, bnd]
        dsimp only
        rw [h7w, u1', bnd]
      have hMpre : M_night (d + 12) a1 a2 a3 a4 a5 a6 a7 w1' = if a7 = 0 then some (v 11 0 44, v) else if a7 = 1 then some (v 11 0 45, v) else if a7 = 2 then gd (0 ≤ v 11 0 46 ∧ (0 : Int) < 12) (some (v 11 0 46 % 12, v)) else if a7 = 3 then gd (0 ≤ v 11 0 46 ∧ (0 : Int) < 12) (some (v 11 0 46 / 12, v)) else if a7 = 4 then some (v 11 0 47, v) else if a7 = 5 then some (v 11 0 49, v) else some (od (w1' 19 13) m / 1000000, v) := by
        rw [e_M_night, hm1, bnd, if_pos (show (0 ≤ a1 ∧ a1 < w 10 0 6) ∧ stOK w a2 a3 a4 a5 a6 from ⟨C1, C2⟩)]
        dsimp only
        rw [if_neg (show ¬ (1 : Int) = 0 by decide), m_in, bnd, if_pos h7]
        dsimp only
        rw [if_neg (show ¬ (1 : Int) = 0 by decide), gd_t (by omega), gd_t (by omega), q2', bnd]
        dsimp only
        rw [t1', bnd]
        dsimp only
        rw [t3, bnd]
        dsimp only
        rw [gd_t (show 0 ≤ od (w1' 19 13) m ∧ (0 : Int) < 1000000 by omega), gd_t (show inI (od (w1' 19 13) m / 1000000) by omega)]
      have : a7 = 0 ∨ a7 = 1 ∨ a7 = 2 ∨ a7 = 3 ∨ a7 = 4 ∨ a7 = 5 ∨ a7 = 6 := by omega
      rcases this with rfl | rfl | rfl | rfl | rfl | rfl | rfl
      · exact ⟨w1' 3 0 6, w1', v, by rw [hDpre, if_pos rfl], by rw [hMpre, if_pos rfl, q5], hSim⟩
      · exact ⟨w1' 3 0 5, w1', v, by rw [hDpre, if_neg (by decide), if_pos rfl], by rw [hMpre, if_neg (by decide), if_pos rfl, q6], hSim⟩
      · exact ⟨w1' 3 0 3 % 12, w1', v, by rw [hDpre, if_neg (by decide), if_neg (by decide), if_pos rfl, gd_t (by omega)], by rw [hMpre, if_neg (by decide), if_neg (by decide), if_pos rfl, gd_t (by omega), q7.1], hSim⟩
      · exact ⟨w1' 3 0 3 / 12, w1', v, by rw [hDpre, if_neg (by decide), if_neg (by decide), if_neg (by decide), if_pos rfl, gd_t (by omega)], by rw [hMpre, if_neg (by decide), if_neg (by decide), if_neg (by decide), if_pos rfl, gd_t (by omega), q7.1], hSim⟩
      · exact ⟨w1' 3 0 4, w1', v, by rw [hDpre, if_neg (by decide), if_neg (by decide), if_neg (by decide), if_neg (by decide), if_pos rfl], by rw [hMpre, if_neg (by decide), if_neg (by decide), if_neg (by decide), if_neg (by decide), if_pos rfl, q8], hSim⟩
      · exact ⟨w1' 4 13 2, w1', v, by rw [hDpre, if_neg (by decide), if_neg (by decide), if_neg (by decide), if_neg (by decide), if_neg (by decide), if_pos rfl], by rw [hMpre, if_neg (by decide), if_neg (by decide), if_neg (by decide), if_neg (by decide), if_neg (by decide), if_pos rfl, q9], hSim⟩
      · exact ⟨od (w1' 19 13) m / 1000000, w1', v, by rw [hDpre, if_neg (by decide), if_neg (by decide), if_neg (by decide), if_neg (by decide), if_neg (by decide), if_neg (by decide)], by rw [hMpre, if_neg (by decide), if_neg (by decide), if_neg (by decide), if_neg (by decide), if_neg (by decide), if_neg (by decide)], hSim⟩
    · refine ⟨-1, w, w, ?_, ?_, hS⟩
      · rw [e_D_night, hst.1 C.2, bnd]
        dsimp only
        obtain ⟨k1, k2, k3⟩ := o_cell hE.2.1 C.2.1
        have := C.2.2.1
        rw [if_neg (by omega), if_neg (by omega), if_neg (by omega)]
        by_cases g : a7 < 0
        · rw [if_pos g]
        · rw [if_neg g, if_neg (by omega)]
      · rw [e_M_night, hMi w rfl rfl hE rfl rfl, bnd, if_pos (show (0 ≤ a1 ∧ a1 < w 10 0 6) ∧ stOK w a2 a3 a4 a5 a6 from C)]
        dsimp only
        rw [if_neg (show ¬ (1 : Int) = 0 by decide), m_in, bnd, if_neg h7, if_pos rfl]
  · refine ⟨-1, w, w, ?_, ?_, hS⟩
    · rw [e_D_night]
      by_cases g : stOK w a2 a3 a4 a5 a6
      · rw [hst.1 g, bnd]
        dsimp only
        by_cases g1 : a1 < 0
        · rw [if_pos g1]
        · rw [if_neg g1, if_pos (by
            by_cases g2 : w 10 0 6 ≤ a1
            · exact g2
            · exact absurd ⟨by omega, g⟩ C)]
      · rw [hst.2 g, bnd]
        dsimp only
        by_cases g1 : a1 < 0
        · rw [if_pos g1]
        · rw [if_neg g1]
          by_cases g2 : w 10 0 6 ≤ a1
          · rw [if_pos g2]
          · rw [if_neg g2, if_pos rfl]
    · rw [e_M_night, hMi w rfl rfl hE rfl rfl, bnd, if_neg C, if_pos rfl]
end
