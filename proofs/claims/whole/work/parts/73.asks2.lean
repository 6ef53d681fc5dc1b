theorem RW.inW {w : zW} {i x y : Int} {d : Nat} (h : RW w i) (h4 : 0 ≤ i ∧ i < 4) : M_isInWood (d + 1) i x y w = some (if 0 ≤ x ∧ 0 ≤ y ∧ x < w 9 i 0 ∧ y < w 9 i 1 then 1 else 0, w) := by
  have h1 := h.1
  have h2 := h.2.1
  have := m_isInWood (d := d) (x := x) (y := y) (w := w) h4 (by omega) (by omega)
  rw [h2.1, h2.2] at this
  exact this
theorem RW.stand {w : zW} {i x y way : Int} {d : Nat} (h : RW w i) (h4 : 0 ≤ i ∧ i < 4) : M_canStand (d + 2) i x y way w = some (if openAt (w 9 i 0) (w 9 i 1) (w 34 i) x y ≠ -1 ∧ 0 ≤ way ∧ way < 4 then 1 else 0, w) := by
  have h1 := h.1
  have h2 := h.2.1
  have := m_canStand (d := d) (x := x) (y := y) (way := way) (w := w) h4 (by omega) (by omega)
  rw [h2.1, h2.2] at this
  rw [this]
  unfold openAt
  by_cases q : 0 ≤ x ∧ 0 ≤ y ∧ x < w 9 i 0 ∧ y < w 9 i 1
  · have hw := h.wall (y * 12 + x) (by omega) (by omega)
    have hb := (h.2.2.2.2.1 (y * 12 + x) (by omega) (by omega)).2.2.1
    have hm : w 64 0 (144 * (6 * i + 1) + (12 * y + x)) = w 34 i (y * 12 + x) := by
      rw [hw, Int.mul_comm 12 y]
      rfl
    rw [hm]
    by_cases z : w 34 i (y * 12 + x) = 1
    · rw [if_neg (show ¬ ((0 ≤ x ∧ 0 ≤ y ∧ x < w 9 i 0 ∧ y < w 9 i 1) ∧ w 34 i (y * 12 + x) = 0 ∧ 0 ≤ way ∧ way < 4) from fun k => by omega), if_neg (show ¬ (0 ≤ x ∧ 0 ≤ y ∧ x < w 9 i 0 ∧ y < w 9 i 1 ∧ ¬ w 34 i (y * 12 + x) = 1) from fun k => k.2.2.2.2 z), if_neg (fun k => k.1 rfl)]
    · have z0 : w 34 i (y * 12 + x) = 0 := by
        rcases hb with q | q
        · exact q
        · exact absurd q z
      rw [if_pos (show 0 ≤ x ∧ 0 ≤ y ∧ x < w 9 i 0 ∧ y < w 9 i 1 ∧ ¬ w 34 i (y * 12 + x) = 1 from ⟨q.1, q.2.1, q.2.2.1, q.2.2.2, z⟩)]
      by_cases k : 0 ≤ way ∧ way < 4
      · rw [if_pos ⟨q, z0, k⟩, if_pos ⟨by omega, k⟩]
      · rw [if_neg (fun t => k t.2.2), if_neg (fun t => k t.2)]
  · rw [if_neg (fun k => q k.1), if_neg (show ¬ (0 ≤ x ∧ 0 ≤ y ∧ x < w 9 i 0 ∧ y < w 9 i 1 ∧ ¬ w 34 i (y * 12 + x) = 1) from fun k => q ⟨k.1, k.2.1, k.2.2.1, k.2.2.2.1⟩), if_neg (fun k => k.1 rfl)]
section
variable {LS RX : Int → List clau} {w : zW} {d : Nat}
theorem p_fork (hS : Sim LS RX w) (a1 a2 a3 a4 a5 : Int) : ∃ r w1 w2, D_fork (d + 12) a1 a2 a3 a4 a5 w = some (r, w1) ∧ M_fork (d + 12) a1 a2 a3 a4 a5 w1 = some (r, w2) ∧ Sim LS RX w2 := by
  rcases hS.bgn with ⟨b1, b2, -⟩ | ⟨hb, hB, hE⟩
  · refine ⟨-1, w, w, ?_, ?_, hS⟩
    · rw [e_D_fork, if_pos b1]
    · rw [e_M_fork, none_m b2, bnd, if_pos rfl]
  have hwt := hB.wt
  have hK : wOK (opw w (w 70 0 0)) (w 19 0) := hB.2.2.2.2.2.2.2.2.2.1
  have hf := wOK_B hK
  have hg := wOK_B hwt.2
  by_cases h1 : 0 ≤ a1 ∧ 0 ≤ a2 ∧ a1 ≤ a3 ∧ a2 ≤ a4 ∧ a3 < 12 ∧ a4 < 12 ∧ -1 ≤ a5 ∧ a5 < 4
  · have t1 := area_tot hf (a := a2 * 12 + a1) (b := a4 * 12 + a3) (way := a5)
    have t2 := area_bd hf (a := a2 * 12 + a1) (b := a4 * 12 + a3) (way := a5)
    have t3 := hK.2.2.2
    have hq := area_congr (a := 12 * a2 + a1) (b := 12 * a4 + a3) (way := a5) hwt.1
    obtain ⟨y, hy⟩ : ∃ y : Nat, a2 = y := ⟨a2.toNat, by omega⟩
    have hm := m_fork_8 (d := d + 11) (x1 := a1) (x2 := a3) (y1 := a2) (y2 := a4) (way := a5) hg ⟨h1.1, h1.2.2.1, h1.2.2.2.2.1⟩ ⟨h1.2.1, h1.2.2.2.1, h1.2.2.2.2.2.1⟩ h1.2.2.2.2.2.2 (by rw [← hq, Int.mul_comm 12 a2, Int.mul_comm 12 a4]; omega) (a4 + 1 - a2).toNat y (by omega) (by omega)
    rw [← sm_skip (f := arg (wtM w 70 6) (12 * a2 + a1) (12 * a4 + a3) a5) (m := 0) (n := 12 * y) (by omega) (fun k k1 k2 => by unfold arg; rw [if_neg (by omega)])] at hm
    refine ⟨area (w 19 0) (a2 * 12 + a1) (a4 * 12 + a3) a5, w, w, ?_, ?_, hS⟩
    · rw [e_D_fork, if_neg (by omega), if_neg (by omega), if_neg (by omega), if_neg (by omega), if_neg (by omega), if_neg (by omega), if_neg (by omega), if_neg (by omega), if_pos (by omega), gd_t (by omega), gd_t (by omega), gd_t (by omega), gd_t (by omega), s_inArea hf (by omega) (by omega), bnd]
      dsimp only
      rw [gd_t (by omega)]
    · rw [e_M_fork, gone_m hB, bnd]
      dsimp only
      rw [if_neg (by decide), m_in, bnd, if_pos (show 0 ≤ a1 ∧ a1 ≤ 11 by omega)]
      dsimp only
      rw [if_neg (by decide), m_in, bnd, if_pos (show 0 ≤ a2 ∧ a2 ≤ 11 by omega)]
      dsimp only
      rw [if_neg (by decide), m_in, bnd, if_pos (show a1 ≤ a3 ∧ a3 ≤ 11 by omega)]
      dsimp only
      rw [if_neg (by decide), m_in, bnd, if_pos (show a2 ≤ a4 ∧ a4 ≤ 11 by omega)]
      dsimp only
      rw [if_neg (by decide), m_in, bnd, if_pos (show -1 ≤ a5 ∧ a5 ≤ 3 by omega)]
      dsimp only
      rw [if_neg (by decide)]
      rw [Int.mul_comm a2 12, Int.mul_comm a4 12, hq, hy]
      rw [hy] at hm
      exact hm
  · refine ⟨-1, w, w, ?_, ?_, hS⟩
    · rw [e_D_fork, if_neg (by omega)]
      by_cases z1 : a1 < 0
      · rw [if_pos z1]
      rw [if_neg z1]
      by_cases z2 : a2 < 0
      · rw [if_pos z2]
      rw [if_neg z2]
      by_cases z3 : a3 < a1
      · rw [if_pos z3]
      rw [if_neg z3]
      by_cases z4 : a4 < a2
      · rw [if_pos z4]
      rw [if_neg z4]
      by_cases z5 : 12 ≤ a3
      · rw [if_pos z5]
      rw [if_neg z5]
      by_cases z6 : 12 ≤ a4
      · rw [if_pos z6]
      rw [if_neg z6]
      by_cases z7 : a5 < -1
      · rw [if_pos z7]
      rw [if_neg z7, if_neg (by omega)]
    · rw [e_M_fork, gone_m hB, bnd]
      dsimp only
      rw [if_neg (by decide), m_in, bnd]
      dsimp only
      by_cases z1 : 0 ≤ a1 ∧ a1 ≤ 11
      · rw [if_pos z1, if_neg (by decide), m_in, bnd]
        dsimp only
        by_cases z2 : 0 ≤ a2 ∧ a2 ≤ 11
        · rw [if_pos z2, if_neg (by decide), m_in, bnd]
          dsimp only
          by_cases z3 : a1 ≤ a3 ∧ a3 ≤ 11
          · rw [if_pos z3, if_neg (by decide), m_in, bnd]
            dsimp only
            by_cases z4 : a2 ≤ a4 ∧ a4 ≤ 11
            · rw [if_pos z4, if_neg (by decide), m_in, bnd]
              dsimp only
              rw [if_neg (show ¬ (-1 ≤ a5 ∧ a5 ≤ 3) by omega), if_pos rfl]
            · rw [if_neg z4, if_pos rfl]
          · rw [if_neg z3, if_pos rfl]
        · rw [if_neg z2, if_pos rfl]
      · rw [if_neg z1, if_pos rfl]
theorem p_odds (hS : Sim LS RX w) (a1 a2 a3 : Int) : ∃ r w1 w2, D_odds (d + 12) a1 a2 a3 w = some (r, w1) ∧ M_odds (d + 12) a1 a2 a3 w1 = some (r, w2) ∧ Sim LS RX w2 := by
  have hset := hS.set
  have hcol := hS.cols hset.1.1 hset.1.2
  have hca := s_cellAt (d := d + 11) (i := w 7 0 0) (x := a1) (y := a2) hcol.1 hcol.2
  rcases hS.bgn with ⟨b1, b2, -⟩ | ⟨hb, hB, hE⟩
  · refine ⟨-1, w, w, ?_, ?_, hS⟩
    · rw [e_D_odds, hca, bnd, if_pos b1]
    · rw [e_M_odds, none_m b2, bnd, if_pos rfl]
  have hwt := hB.wt
  have hK : wOK (opw w (w 70 0 0)) (w 19 0) := hB.2.2.2.2.2.2.2.2.2.1
  have hf := wOK_B hK
  have hg := wOK_B hwt.2
  have hi : w 70 0 0 = w 7 0 0 := hE.2.2.2.1.1
  have hM := hE.2.1.MS hE.2.2.2.1.1 hE.2.2.2.2.1 hE.2.2.2.1.2 hE.2.2.2.2.2
  have hCR := hE.2.1.1
  have hiw := hE.2.1.inW (d := d + 10) (x := a1) (y := a2) hE.2.2.2.2.1
  by_cases h1 : 0 ≤ a1 ∧ 0 ≤ a2 ∧ a1 < w 9 (w 7 0 0) 0 ∧ a2 < w 9 (w 7 0 0) 1
  · have hcv : cellAt (w 9 (w 7 0 0) 0) (w 9 (w 7 0 0) 1) a1 a2 = a2 * 12 + a1 := by unfold cellAt; rw [if_pos h1]
    rw [hcv] at hca
    by_cases h2 : -1 ≤ a3 ∧ a3 ≤ 3
    · have hod := od_bd hf (c := a2 * 12 + a1) (by omega)
      have hod2 := od_tot hf (c := a2 * 12 + a1) (by omega)
      have ht := hK.2.2.2
      refine ⟨wv (w 19 0) a3 (a2 * 12 + a1), w, w, ?_, ?_, hS⟩
      · rw [e_D_odds, hca, bnd]
        dsimp only
        rw [if_neg (by omega), if_neg (by omega), if_neg (by omega), if_pos (by omega), s_weightAt (by omega) hf, bnd]
        have he : (if 0 ≤ a3 ∧ a3 < 4 then w 19 0 (4 * (a2 * 12 + a1) + a3) else od (w 19 0) (a2 * 12 + a1)) = wv (w 19 0) a3 (a2 * 12 + a1) := rfl
        have := wv_od hf (way := a3) (c := a2 * 12 + a1) (by omega)
        have := wv_bd hf (way := a3) (c := a2 * 12 + a1) (by omega)
        rw [he]
        dsimp only
        rw [gd_t (by omega)]
      · rw [e_M_odds, gone_m hB, bnd]
        dsimp only
        rw [if_neg (by decide), m_woodNow, bnd]
        dsimp only
        rw [hi, hiw, bnd, if_pos h1]
        dsimp only
        rw [if_neg (by decide), m_in, bnd, if_pos h2]
        dsimp only
        rw [if_neg (by decide), gd_t (by omega), gd_t (by omega), Int.mul_comm 12 a2]
        unfold wv
        by_cases h3 : a3 = -1
        · rw [if_pos h3, if_neg (by omega), m_oddsOf (Or.inl ⟨rfl, rfl⟩) (by omega) hg, bnd]
          dsimp only
          rw [← od_eqR hwt.1 (by omega) (by omega), gd_t (by omega)]
        · have hq := hwt.1 (4 * (a2 * 12 + a1) + a3) (by omega) (by omega)
          unfold wtM at hq
          rw [← Int.add_assoc] at hq
          rw [if_neg h3, if_pos (by omega), gd_t (by omega), gd_t (by omega), gd_t (by omega), gd_t (by omega), hq]
    · refine ⟨-1, w, w, ?_, ?_, hS⟩
      · rw [e_D_odds, hca, bnd]
        dsimp only
        rw [if_neg (by omega), if_neg (by omega)]
        by_cases z : a3 < -1
        · rw [if_pos z]
        · rw [if_neg z, if_neg (by omega)]
      · rw [e_M_odds, gone_m hB, bnd]
        dsimp only
        rw [if_neg (by decide), m_woodNow, bnd]
        dsimp only
        rw [hi, hiw, bnd, if_pos h1]
        dsimp only
        rw [if_neg (by decide), m_in, bnd, if_neg h2, if_pos rfl]
  · have hcv : cellAt (w 9 (w 7 0 0) 0) (w 9 (w 7 0 0) 1) a1 a2 = -1 := by unfold cellAt; rw [if_neg h1]
    rw [hcv] at hca
    refine ⟨-1, w, w, ?_, ?_, hS⟩
    · rw [e_D_odds, hca, bnd]
      dsimp only
      rw [if_neg (by omega), if_pos rfl]
    · rw [e_M_odds, gone_m hB, bnd]
      dsimp only
      rw [if_neg (by decide), m_woodNow, bnd]
      dsimp only
      rw [hi, hiw, bnd, if_neg h1, if_pos rfl]
theorem p_all (hS : Sim LS RX w) (a1 : Int) : ∃ r w1 w2, D_all (d + 12) a1 w = some (r, w1) ∧ M_all (d + 12) a1 w1 = some (r, w2) ∧ Sim LS RX w2 := by
  rcases hS.bgn with ⟨b1, b2, -⟩ | ⟨hb, hB, hE⟩
  · refine ⟨-1, w, w, ?_, ?_, hS⟩
    · rw [e_D_all, if_pos b1]
    · rw [e_M_all, none_m b2, bnd, if_pos rfl]
  have hwt := hB.wt
  have hi : w 70 0 0 = w 7 0 0 := hE.2.2.2.1.1
  have hK : wOK (opw w (w 7 0 0)) (w 19 0) := by rw [← hi]; exact hB.2.2.2.2.2.2.2.2.2.1
  have hf := wOK_B hK
  have hg := wOK_B hwt.2
  have hC : wtC w (w 7 0 0) (w 19 0) := hK.2.1
  have ht := hK.2.2.2
  have htot := tot_eqR hwt.1
  have hWO := hE.1.2.1
  have hhm := hE.1.2.2.2.2.2.2.2.2.1
  have hcell := hE.2.1.2.2.2.2.1
  have hh := hE.2.1.home.1
  have hpos : ∃ c : Nat, c < 144 ∧ 0 < od (w 19 0) c := by
    have h3 := hK.2.2.1
    rw [tot_od] at h3
    refine Classical.byContradiction fun q => ?_
    have : sm (od (w 19 0)) 144 ≤ sm (fun _ => 0) 144 := sm_le fun k hk => by
      refine Int.not_lt.mp fun z => q ⟨k, hk, z⟩
    rw [sm_zero] at this
    omega
  obtain ⟨s, s1, s2⟩ := s_surest (d := d + 10) (o := 0) hWO hf hC hpos
  obtain ⟨m, m1, m2⟩ := m_surest (d := d + 10) (k := 70) (b := 6) (w := w) (Or.inl ⟨rfl, rfl⟩) hg
  have hsm : m = s := (m2.congr hwt.1).eq s2
  have hpre : M_all (d + 12) a1 w = if 0 ≤ a1 ∧ a1 ≤ 10 then (if a1 = 0 then ((M_sumOn (d + 11) 70 6 w).bind fun r4 => gd (inI r4.1) (some (r4.1, r4.2))) else (if a1 = 1 then ((M_woodNow (d + 11) w).bind fun r4 => (M_homeOf (d + 11) r4.1 r4.2).bind fun r5 => (M_oddsOf (d + 11) 70 6 r5.1 r5.2).bind fun r6 => gd (inI r6.1) (some (r6.1, r6.2))) else (if a1 = 2 then ((M_oddsOf (d + 11) 70 6 s w).bind fun r4 => gd (inI r4.1) (some (r4.1, r4.2))) else (if a1 = 3 then (gd (0 ≤ s ∧ (0 : Int) < 12) (some (s % 12, w))) else (if a1 = 4 then (gd (0 ≤ s ∧ (0 : Int) < 12) (some (s / 12, w))) else (if a1 = 5 then ((M_riskOf (d + 11) 70 6 w).bind fun r4 => gd (inI r4.1) (some (r4.1, r4.2))) else (M_all_11 (d + 12) a1 0 0 w))))))) else some (-1, w) := by
    rw [e_M_all, gone_m hB, bnd]
    dsimp only
    rw [if_neg (by decide), m_in, bnd]
    dsimp only
    by_cases z : 0 ≤ a1 ∧ a1 ≤ 10
    · rw [if_pos z, if_neg (by decide), m1, bnd, hsm, if_pos z]
    · rw [if_neg z, if_pos rfl, if_neg z]
  by_cases h1 : 0 ≤ a1 ∧ a1 ≤ 10
  · rw [if_pos h1] at hpre
    rw [e_D_all, if_neg (by omega)]
    have : a1 = 0 ∨ a1 = 1 ∨ a1 = 2 ∨ a1 = 3 ∨ a1 = 4 ∨ a1 = 5 ∨ (6 ≤ a1 ∧ a1 ≤ 10) := by omega
    rcases this with q | q | q | q | q | q | q
    · have u1 := onp_bd (path := w 33 (w 7 0 0)) hf
      have u2 := onp_tot (path := w 33 (w 7 0 0)) hf
      have u3 := m_sumOn (d := d + 9) (k := 70) (b := 6) (path := w 33 (w 7 0 0)) (Or.inl ⟨rfl, rfl⟩) hi hE.2.2.2.2.1 (fun c c0 c1 => (hcell c c0 c1).1.1.symm) hg
      have u4 : onp (w 33 (w 7 0 0)) (wtM w 70 6) = onp (w 33 (w 7 0 0)) (w 19 0) := sm_congr fun c hc => by rw [od_eqR hwt.1 (by omega) (by omega)]
      refine ⟨onp (w 33 (w 7 0 0)) (w 19 0), w, w, ?_, ?_, hS⟩
      · rw [if_pos q, s_onPath hWO hf hC, bnd]
        dsimp only
        rw [gd_t (by omega)]
      · rw [hpre, if_pos q, u3, bnd, u4]
        dsimp only
        rw [gd_t (by omega)]
    · have u1 := od_bd hf hh
      have u2 := od_tot hf hh
      refine ⟨od (w 19 0) (w 9 (w 7 0 0) 2), w, w, ?_, ?_, hS⟩
      · rw [if_neg (by omega), if_pos q, s_weightAt hh hf, bnd, if_neg (by omega)]
        dsimp only
        rw [gd_t (by omega)]
      · rw [hpre, if_neg (by omega), if_pos q, m_woodNow, bnd]
        dsimp only
        rw [hi, m_homeAt hE, bnd]
        dsimp only
        rw [m_oddsOf (Or.inl ⟨rfl, rfl⟩) hh hg, bnd]
        dsimp only
        rw [← od_eqR hwt.1 hh.1 hh.2, gd_t (by omega)]
    · have u1 := od_bd hf ⟨s2.1, s2.2.1⟩
      have u2 := od_tot hf ⟨s2.1, s2.2.1⟩
      refine ⟨od (w 19 0) s, w, w, ?_, ?_, hS⟩
      · rw [if_neg (by omega), if_neg (by omega), if_pos q, s1, bnd]
        dsimp only
        rw [s_weightAt ⟨s2.1, s2.2.1⟩ hf, bnd, if_neg (by omega)]
        dsimp only
        rw [gd_t (by omega)]
      · rw [hpre, if_neg (by omega), if_neg (by omega), if_pos q, m_oddsOf (Or.inl ⟨rfl, rfl⟩) ⟨s2.1, s2.2.1⟩ hg, bnd]
        dsimp only
        rw [← od_eqR hwt.1 s2.1 s2.2.1, gd_t (by omega)]
    · refine ⟨s % 12, w, w, ?_, ?_, hS⟩
      · rw [if_neg (by omega), if_neg (by omega), if_neg (by omega), if_pos q, s1, bnd]
        exact gd_t ⟨s2.1, by decide⟩
      · rw [hpre, if_neg (by omega), if_neg (by omega), if_neg (by omega), if_pos q]
        exact gd_t ⟨s2.1, by decide⟩
    · refine ⟨s / 12, w, w, ?_, ?_, hS⟩
      · rw [if_neg (by omega), if_neg (by omega), if_neg (by omega), if_neg (by omega), if_pos q, s1, bnd]
        exact gd_t ⟨s2.1, by decide⟩
      · rw [hpre, if_neg (by omega), if_neg (by omega), if_neg (by omega), if_neg (by omega), if_pos q]
        exact gd_t ⟨s2.1, by decide⟩
    · have u1 := rsk_bd (harm := w 37 (w 7 0 0)) hf hhm
      have u2 := rsk_tot (harm := w 37 (w 7 0 0)) hf hhm
      have u3 := m_riskOf (d := d + 9) (k := 70) (b := 6) (harm := w 37 (w 7 0 0)) (Or.inl ⟨rfl, rfl⟩) hi hE.2.2.2.2.1 (fun c c0 c1 => (hcell c c0 c1).1.2.2.2.2.1.symm) hhm hg
      refine ⟨rsk (w 37 (w 7 0 0)) (w 19 0), w, w, ?_, ?_, hS⟩
      · rw [if_neg (by omega), if_neg (by omega), if_neg (by omega), if_neg (by omega), if_neg (by omega), if_pos q, s_risk hWO hf hC hhm, bnd]
        dsimp only
        rw [gd_t (by omega)]
      · rw [hpre, if_neg (by omega), if_neg (by omega), if_neg (by omega), if_neg (by omega), if_neg (by omega), if_pos q, u3, bnd, ← rsk_eqR hwt.1]
        dsimp only
        rw [gd_t (by omega)]
    · have u1 := area_bd hf (a := 0) (b := 143) (way := a1 - 7)
      have u2 := area_tot hf (a := 0) (b := 143) (way := a1 - 7)
      have u3 := m_all_11 (d := d + 12) hg q (by omega) 576 0 rfl
      have u4 := area_congr (a := 0) (b := 143) (way := a1 - 7) hwt.1
      have hin := s_inArea (d := d + 10) (o := 0) (a := 0) (b := 143) (way := a1 - 7) hf (by omega) (by omega)
      refine ⟨area (w 19 0) 0 143 (a1 - 7), w, w, ?_, ?_, hS⟩
      · rw [if_neg (by omega), if_neg (by omega), if_neg (by omega), if_neg (by omega), if_neg (by omega), if_neg (by omega)]
        have : a1 = 6 ∨ a1 = 7 ∨ a1 = 8 ∨ a1 = 9 ∨ a1 = 10 := by omega
        rcases this with z | z | z | z | z
        · rw [if_pos z]
          have : (-1 : Int) = a1 - 7 := by omega
          rw [this, hin, bnd]
          exact gd_t (by omega)
        · rw [if_neg (by omega), if_pos z, gd_t (by omega), hin, bnd]
          exact gd_t (by omega)
        · rw [if_neg (by omega), if_neg (by omega), if_pos z, gd_t (by omega), hin, bnd]
          exact gd_t (by omega)
        · rw [if_neg (by omega), if_neg (by omega), if_neg (by omega), if_pos z, gd_t (by omega), hin, bnd]
          exact gd_t (by omega)
        · rw [if_neg (by omega), if_neg (by omega), if_neg (by omega), if_neg (by omega), if_pos z, gd_t (by omega), hin, bnd]
          exact gd_t (by omega)
      · rw [hpre, if_neg (by omega), if_neg (by omega), if_neg (by omega), if_neg (by omega), if_neg (by omega), if_neg (by omega), u4]
        exact u3
  · rw [if_neg h1] at hpre
    refine ⟨-1, w, w, ?_, hpre, hS⟩
    rw [e_D_all, if_neg (by omega), if_neg (by omega), if_neg (by omega), if_neg (by omega), if_neg (by omega), if_neg (by omega), if_neg (by omega), if_neg (by omega), if_neg (by omega), if_neg (by omega), if_neg (by omega), if_neg (by omega)]
end
