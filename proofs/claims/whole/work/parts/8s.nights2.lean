section
variable {LS RX : Int → List clau} {w : zW} {d : Nat}
/-- the two starts, for many nights -/
theorem NE_self {i j : Int} {Cs : List clau} (h : ENV w i j Cs) : NE w w i j Cs := ⟨h, h, sameE_rf w⟩
theorem p_nights (hS : Sim LS RX w) (a1 a2 a3 a4 a5 a6 a7 a8 : Int) (h5 : a5 ≤ 2147483647) : ∃ r w1 w2, D_nights (d + 12) a1 a2 a3 a4 a5 a6 a7 a8 w = some (r, w1) ∧ M_nights (d + 12) a1 a2 a3 a4 a5 a6 a7 a8 w1 = some (r, w2) ∧ Sim LS RX w2 := by
  rcases hS.bgn with ⟨b1, b2, -⟩ | ⟨hb, hB, hE⟩
  · refine ⟨-1, w, w, ?_, ?_, hS⟩
    · rw [e_D_nights, s_startNo b1, bnd]
      dsimp only
      by_cases g1 : a1 < 0
      · rw [if_pos g1]
      · rw [if_neg g1]
        by_cases g2 : w 10 0 6 ≤ a1
        · rw [if_pos g2]
        · rw [if_neg g2, if_pos rfl]
    · rw [e_M_nights, e_M_isNight, none_m b2, bnd, if_pos rfl, gd_t (by decide), bnd, if_pos rfl]
  have hc := hS.cnt
  have hgo : w 70 0 0 ≠ -1 := by
    have := hB.2.1.2.1
    omega
  have hst := s_startOf (d := d + 9) (x := a2) (y := a3) (way := a4) (seed := a5) (rounds := a6) hb hE
  have hMi : ∀ u : zW, u 49 = w 49 → u 70 = w 70 → ENV u (w 7 0 0) (w 7 0 1) (LS (w 7 0 1)) → u 9 = w 9 → u 34 = w 34 → M_isNight (d + 11) a1 a2 a3 a4 a5 a6 u = some (if (0 ≤ a1 ∧ a1 < w 10 0 6) ∧ stOK w a2 a3 a4 a5 a6 then 1 else 0, u) := fun u h49 h70 hEu h9 h34 => by
    have := m_isNight (d := d + 8) (r := a1) (x := a2) (y := a3) (way := a4) (seed := a5) (rounds := a6) (by rw [h70]; exact hgo) hEu
    rw [h49, hc.2.2.1, h9, h34] at this
    rw [this]
    by_cases q : (0 ≤ a1 ∧ a1 < w 10 0 6) ∧ stOK w a2 a3 a4 a5 a6
    · rw [if_pos q, if_pos ⟨q.1, ⟨q.2.1, q.2.2.1⟩, q.2.2.2⟩]
    · rw [if_neg q, if_neg (fun z => q ⟨z.1, z.2.1.1, z.2.1.2, z.2.2⟩)]
  by_cases C : (0 ≤ a1 ∧ a1 < w 10 0 6) ∧ stOK w a2 a3 a4 a5 a6
  · have C2' := C.2
    obtain ⟨s1, s2, s3, s4⟩ := C2'
    obtain ⟨k1, k2, k3⟩ := o_cell hE.2.1 s1
    by_cases h7 : 1 ≤ a7 ∧ a7 ≤ 9
    · by_cases h8 : 0 ≤ a8 ∧ a8 ≤ 2
      · obtain ⟨C1, C2⟩ := C
        have hRu := hS.rule C1.1 C1.2
        have hr6 : 0 ≤ a1 ∧ a1 < 6 := by omega
        have run := fun (u : zW) (hu : NE w u (w 7 0 0) (w 7 0 1) (LS (w 7 0 1))) (hr : Rru u a1 (RX a1)) => n_sums (d := d + 5) (d' := d + 5) (c := a3 * 12 + a2) (way := a4) (seed := a5) (rounds := a6) (games := a7) hu hr6 ⟨hRu, hr⟩ s4 (by omega) k3 s2 h7 ⟨s3, h5⟩
        obtain ⟨w1, _, p1, -, p3, -⟩ := run w (NE_self hE) hRu
        have hE1 := (GK_NE (NE_self hE) p3).1
        obtain ⟨w1', v, q1, q2, q3, q4, q5, q6⟩ := run w1 ⟨hE, hE1, sameE_fr p3.1 (by decide)⟩ (Rru_fr (fun c hc => p3.1 c (by revert hc; revert c; decide)) hRu)
        have hww : w1' = w1 := by
          rw [p1] at q1
          injection q1 with q1
          injection q1 with _ q1
          exact q1.symm
        subst hww
        have hSim : Sim LS RX v := gk_Sim hS q3.1 q3.2.1 q3.2.2.1 q3.2.2.2
        have ff := q3.1
        have hm1 := hMi w1' (ff 49 (by decide)) (ff 70 (by decide)) hE1 (ff 9 (by decide)) (ff 34 (by decide))
        have q1' : Night_play (d + 11) (6 + a1) ((a3 * 12 + a2) * 4 + a4) a5 a6 a7 w = some (0, w1') := q1
        have q2' : M_sums (d + 11) a1 (12 * a3 + a2) a4 a5 a6 a7 w1' = some (0, v) := by
          rw [Int.mul_comm 12 a3]
          exact q2
        have hDpre : D_nights (d + 12) a1 a2 a3 a4 a5 a6 a7 a8 w = if a8 = 0 then some (w1' 3 0 7, w1') else if a8 = 1 then some (w1' 3 0 8, w1') else some (w1' 3 0 9, w1') := by
          rw [e_D_nights, hst.1 C2, bnd]
          dsimp only
          rw [if_neg (by omega), if_neg (by omega), if_neg (by omega), if_neg (by omega), if_neg (by omega), if_neg (by omega), if_pos h8.2, gd_t (by omega), q1', bnd]
        have hMpre : M_nights (d + 12) a1 a2 a3 a4 a5 a6 a7 a8 w1' = some (v 76 0 a8, v) := by
          rw [e_M_nights, hm1, bnd, if_pos (show (0 ≤ a1 ∧ a1 < w 10 0 6) ∧ stOK w a2 a3 a4 a5 a6 from ⟨C1, C2⟩)]
          dsimp only
          rw [if_neg (show ¬ (1 : Int) = 0 by decide), m_in, bnd, if_pos h7]
          dsimp only
          rw [if_neg (show ¬ (1 : Int) = 0 by decide), m_in, bnd, if_pos h8]
          dsimp only
          rw [if_neg (show ¬ (1 : Int) = 0 by decide), gd_t (by omega), gd_t (by omega), q2', bnd]
          dsimp only
          rw [gd_t (by omega)]
        have : a8 = 0 ∨ a8 = 1 ∨ a8 = 2 := by omega
        rcases this with rfl | rfl | rfl
        · exact ⟨w1' 3 0 7, w1', v, by rw [hDpre, if_pos rfl], by rw [hMpre, q4], hSim⟩
        · exact ⟨w1' 3 0 8, w1', v, by rw [hDpre, if_neg (by decide), if_pos rfl], by rw [hMpre, q5], hSim⟩
        · exact ⟨w1' 3 0 9, w1', v, by rw [hDpre, if_neg (by decide), if_neg (by decide)], by rw [hMpre, q6], hSim⟩
      · refine ⟨-1, w, w, ?_, ?_, hS⟩
        · rw [e_D_nights, hst.1 C.2, bnd]
          dsimp only
          rw [if_neg (by omega), if_neg (by omega), if_neg (by omega), if_neg (by omega), if_neg (by omega)]
          by_cases g : a8 < 0
          · rw [if_pos g]
          · rw [if_neg g, if_neg (by omega)]
        · rw [e_M_nights, hMi w rfl rfl hE rfl rfl, bnd, if_pos (show (0 ≤ a1 ∧ a1 < w 10 0 6) ∧ stOK w a2 a3 a4 a5 a6 from C)]
          dsimp only
          rw [if_neg (show ¬ (1 : Int) = 0 by decide), m_in, bnd, if_pos h7]
          dsimp only
          rw [if_neg (show ¬ (1 : Int) = 0 by decide), m_in, bnd, if_neg h8, if_pos rfl]
    · refine ⟨-1, w, w, ?_, ?_, hS⟩
      · rw [e_D_nights, hst.1 C.2, bnd]
        dsimp only
        rw [if_neg (by omega), if_neg (by omega), if_neg (by omega)]
        by_cases g : a7 < 1
        · rw [if_pos g]
        · rw [if_neg g, if_pos (by omega)]
      · rw [e_M_nights, hMi w rfl rfl hE rfl rfl, bnd, if_pos (show (0 ≤ a1 ∧ a1 < w 10 0 6) ∧ stOK w a2 a3 a4 a5 a6 from C)]
        dsimp only
        rw [if_neg (show ¬ (1 : Int) = 0 by decide), m_in, bnd, if_neg h7, if_pos rfl]
  · refine ⟨-1, w, w, ?_, ?_, hS⟩
    · rw [e_D_nights]
      by_cases g : stOK w a2 a3 a4 a5 a6
      · rw [hst.1 g, bnd]
        dsimp only
        by_cases g1 : a1 < 0
        · rw [if_pos g1]
        · rw [if_neg g1, if_pos (by
            by_cases g2 : w 10 0 6 ≤ a1
            · exact g2
            · exact absurd ⟨by omega, g⟩ C)]
      · rw [hst.2 g, bnd]
        dsimp only
        by_cases g1 : a1 < 0
        · rw [if_pos g1]
        · rw [if_neg g1]
          by_cases g2 : w 10 0 6 ≤ a1
          · rw [if_pos g2]
          · rw [if_neg g2, if_pos rfl]
    · rw [e_M_nights, hMi w rfl rfl hE rfl rfl, bnd, if_neg C, if_pos rfl]
theorem p_finest (hS : Sim LS RX w) (a1 a2 a3 a4 a5 a6 : Int) (h5 : a4 ≤ 2147483647) : ∃ r w1 w2, D_finest (d + 12) a1 a2 a3 a4 a5 a6 w = some (r, w1) ∧ M_finest (d + 12) a1 a2 a3 a4 a5 a6 w1 = some (r, w2) ∧ Sim LS RX w2 := by
  rcases hS.bgn with ⟨b1, b2, -⟩ | ⟨hb, hB, hE⟩
  · refine ⟨-1, w, w, ?_, ?_, hS⟩
    · rw [e_D_finest, s_startNo b1, bnd]
      dsimp only
      rw [if_pos rfl]
    · rw [e_M_finest, none_m b2, bnd, if_pos rfl]
  have hc := hS.cnt
  have hgo : w 70 0 0 ≠ -1 := by
    have := hB.2.1.2.1
    omega
  have hst := s_startOf (d := d + 9) (x := a1) (y := a2) (way := a3) (seed := a4) (rounds := a5) hb hE
  have hMp : ∀ u : zW, u 70 = w 70 → ENV u (w 7 0 0) (w 7 0 1) (LS (w 7 0 1)) → u 9 = w 9 → u 34 = w 34 → M_finest (d + 12) a1 a2 a3 a4 a5 a6 u = if stOK w a1 a2 a3 a4 a5 ∧ 1 ≤ a6 ∧ a6 ≤ 9 then M_finest_7 (d + 12) a1 a2 a3 a4 a5 a6 (-2) 0 0 0 u else some (-1, u) := fun u h70 hEu h9 h34 => by
    have hi : u 70 0 0 = w 7 0 0 := hEu.2.2.2.1.1
    rw [e_M_finest, m_isWalk, bnd, h70, if_neg hgo]
    dsimp only
    rw [if_neg (show ¬ (1 : Int) = 0 by decide), m_woodNow, bnd]
    dsimp only
    rw [hi, hEu.2.1.stand (d := d + 9) hEu.2.2.2.2.1, bnd, h9, h34]
    dsimp only
    by_cases g2 : openAt (w 9 (w 7 0 0) 0) (w 9 (w 7 0 0) 1) (w 34 (w 7 0 0)) a1 a2 ≠ -1 ∧ 0 ≤ a3 ∧ a3 < 4
    · rw [if_pos g2, if_neg (show ¬ (1 : Int) = 0 by decide)]
      by_cases g3 : a4 < 0
      · rw [if_pos g3, if_neg (fun q => by have := q.1.2.2.1; omega)]
      · rw [if_neg g3, m_in, bnd]
        dsimp only
        by_cases g4 : 1 ≤ a5 ∧ a5 ≤ 99
        · rw [if_pos g4, if_neg (show ¬ (1 : Int) = 0 by decide), m_in, bnd]
          dsimp only
          by_cases g5 : 1 ≤ a6 ∧ a6 ≤ 9
          · rw [if_pos g5, if_neg (show ¬ (1 : Int) = 0 by decide), if_pos (show stOK w a1 a2 a3 a4 a5 ∧ 1 ≤ a6 ∧ a6 ≤ 9 from ⟨⟨g2.1, g2.2, by omega, g4⟩, g5⟩)]
          · rw [if_neg g5, if_pos rfl, if_neg (fun q => g5 q.2)]
        · rw [if_neg g4, if_pos rfl, if_neg (fun q => g4 q.1.2.2.2)]
    · rw [if_neg g2, if_pos rfl, if_neg (fun q => g2 ⟨q.1.1, q.1.2.1⟩)]
  by_cases C : stOK w a1 a2 a3 a4 a5
  · have C2' := C
    obtain ⟨s1, s2, s3, s4⟩ := C2'
    obtain ⟨k1, k2, k3⟩ := o_cell hE.2.1 s1
    by_cases h6 : 1 ≤ a6 ∧ a6 ≤ 9
    · have run := fun (u : zW) (hu : NE w u (w 7 0 0) (w 7 0 1) (LS (w 7 0 1))) (h49 : u 49 = w 49) (hr : ∀ r, 0 ≤ r → r < w 10 0 6 → Rru u r (RX r)) => n_finest (d := d + 5) (d' := d + 5) (c := a2 * 12 + a1) (x := a1) (y := a2) (way := a3) (seed := a4) (rounds := a5) (games := a6) (RX := RX) hu ⟨rfl, by rw [h49]; exact hc.2.2.1, hc.2.2.2.2⟩ (fun r r0 r1 => ⟨hS.rule r0 r1, hr r r0 r1⟩) s4 ⟨rfl, by omega, by omega, by omega, by omega⟩ k3 s2 h6 ⟨s3, h5⟩ (w 10 0 6).toNat 0 (-2) 0 0 w u (by omega) (by omega) (Or.inl rfl) (GK_rf hE.1.2.2.2.2.2.2.2.2.2)
      obtain ⟨r, w1, _, p1, -, p3⟩ := run w (NE_self hE) rfl (fun r r0 r1 => hS.rule r0 r1)
      have hE1 := (GK_NE (NE_self hE) p3).1
      obtain ⟨r', w1', v, q1, q2, q3⟩ := run w1 ⟨hE, hE1, sameE_fr p3.1 (by decide)⟩ (p3.1 49 (by decide)) (fun r r0 r1 => Rru_fr (fun c hc => p3.1 c (by revert hc; revert c; decide)) (hS.rule r0 r1))
      have hww : r' = r ∧ w1' = w1 := by
        rw [p1] at q1
        injection q1 with q1
        injection q1 with q0 q1
        exact ⟨q0.symm, q1.symm⟩
      obtain ⟨hr', hww⟩ := hww
      subst hr'
      subst hww
      have ff := q3.1
      refine ⟨r', w1', v, ?_, ?_, gk_Sim hS q3.1 q3.2.1 q3.2.2.1 q3.2.2.2⟩
      · rw [e_D_finest, hst.1 C, bnd]
        dsimp only
        rw [if_neg (by omega), if_neg (by omega), if_pos h6.2]
        exact q1
      · rw [hMp w1' (ff 70 (by decide)) hE1 (ff 9 (by decide)) (ff 34 (by decide)), if_pos (show stOK w a1 a2 a3 a4 a5 ∧ 1 ≤ a6 ∧ a6 ≤ 9 from ⟨C, h6⟩)]
        exact q2
    · refine ⟨-1, w, w, ?_, ?_, hS⟩
      · rw [e_D_finest, hst.1 C, bnd]
        dsimp only
        rw [if_neg (by omega)]
        by_cases g : a6 < 1
        · rw [if_pos g]
        · rw [if_neg g, if_neg (by omega)]
      · rw [hMp w rfl hE rfl rfl, if_neg (fun q => h6 q.2)]
  · refine ⟨-1, w, w, ?_, ?_, hS⟩
    · rw [e_D_finest, hst.2 C, bnd]
      dsimp only
      rw [if_pos rfl]
    · rw [hMp w rfl hE rfl rfl, if_neg (fun q => C q.1)]
end
