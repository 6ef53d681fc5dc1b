/-! COUNT, CELL, WOOD, POST -/
section
variable {LS RX : Int → List clau} {w : zW} {d : Nat}
theorem p_count (hS : Sim LS RX w) (a1 : Int) : ∃ r w1 w2, D_count (d + 12) a1 w = some (r, w1) ∧ M_count (d + 12) a1 w1 = some (r, w2) ∧ Sim LS RX w2 := by
  have hc := hS.cnt
  have ht := hS.tape
  have hM6 : M_count_6 (d + 12) a1 w = if a1 = 7 then some (w 11 0 1, w) else if 0 ≤ a1 ∧ a1 ≤ 2 then some (w 49 0 a1, w) else some (-1, w) := by
    rw [e_M_count_6]
    by_cases z : a1 = 7
    · rw [if_pos z, if_pos z]
    · rw [if_neg z, if_neg z, m_in, bnd]
      dsimp only
      by_cases z2 : 0 ≤ a1 ∧ a1 ≤ 2
      · rw [if_pos z2, if_pos z2, if_neg (show ¬ (1 : Int) = 0 by decide), gd_t (by omega)]
      · rw [if_neg z2, if_neg z2, if_pos rfl]
  have hM : ∀ (_ : 3 ≤ a1) (_ : a1 ≤ 6), M_count (d + 12) a1 w = if w 70 0 0 = -1 then some (-1, w) else some (w 70 0 (a1 - 1), w) := fun h1 h2 => by
    rw [e_M_count, if_neg (by omega), if_neg (by omega), m_isWalk, bnd]
    dsimp only
    by_cases z : w 70 0 0 = -1
    · rw [if_pos z, if_pos z, if_pos rfl]
    · rw [if_neg z, if_neg z, if_neg (show ¬ (1 : Int) = 0 by decide), gd_t (by omega), gd_t (by omega)]
  have hMo : ∀ (_ : a1 ≤ 2 ∨ 7 ≤ a1), M_count (d + 12) a1 w = M_count_6 (d + 12) a1 w := fun h => by
    rw [e_M_count]
    by_cases z : a1 ≤ 2
    · rw [if_pos z]
    · rw [if_neg z, if_pos (by omega)]
  have hw : ∀ (_ : 3 ≤ a1) (_ : a1 ≤ 6), ∀ x : Int, (w 8 0 1 = 1 → x = w 70 0 (a1 - 1)) → D_count (d + 12) a1 w = (if w 8 0 1 = 0 then some (-1, w) else some (x, w)) → ∃ r w1 w2, D_count (d + 12) a1 w = some (r, w1) ∧ M_count (d + 12) a1 w1 = some (r, w2) ∧ Sim LS RX w2 := fun h1 h2 x hx hD => by
    rcases hS.bgn with ⟨b1, b2, -⟩ | ⟨hb, hB, hE⟩
    · exact ⟨-1, w, w, by rw [hD, if_pos b1], by rw [hM h1 h2, if_pos b2], hS⟩
    · have hn : ¬ w 70 0 0 = -1 := by have := hB.2.1.2.1; omega
      exact ⟨x, w, w, by rw [hD, if_neg (by omega)], by rw [hM h1 h2, if_neg hn, hx hb], hS⟩
  have : a1 = 0 ∨ a1 = 1 ∨ a1 = 2 ∨ a1 = 3 ∨ a1 = 4 ∨ a1 = 5 ∨ a1 = 6 ∨ a1 = 7 ∨ (a1 < 0 ∨ 7 < a1) := by omega
  rcases this with rfl | rfl | rfl | rfl | rfl | rfl | rfl | rfl | q
  · refine ⟨w 10 0 4, w, w, ?_, ?_, hS⟩
    · rw [e_D_count, if_pos rfl]
    · rw [hMo (by omega), hM6, if_neg (by decide), if_pos (by decide), hc.1.1]
  · refine ⟨w 10 0 5, w, w, ?_, ?_, hS⟩
    · rw [e_D_count, if_neg (by decide), if_pos rfl]
    · rw [hMo (by omega), hM6, if_neg (by decide), if_pos (by decide), hc.2.1.1]
  · refine ⟨w 10 0 6, w, w, ?_, ?_, hS⟩
    · rw [e_D_count, if_neg (by decide), if_neg (by decide), if_pos rfl]
    · rw [hMo (by omega), hM6, if_neg (by decide), if_pos (by decide), hc.2.2.1]
  · refine hw (by omega) (by omega) (w 8 0 6) (fun hb => ?_) (by rw [e_D_count, if_neg (by decide), if_neg (by decide), if_neg (by decide), if_pos rfl])
    rcases hS.bgn with ⟨b1, -⟩ | ⟨-, hB, -⟩
    · omega
    · exact hB.2.2.2.2.1.1
  · refine hw (by omega) (by omega) (w 4 0 1) (fun hb => ?_) (by rw [e_D_count, if_neg (by decide), if_neg (by decide), if_neg (by decide), if_neg (by decide), if_pos rfl])
    rcases hS.bgn with ⟨b1, -⟩ | ⟨-, hB, -⟩
    · omega
    · exact hB.2.2.2.2.2.1.1
  · refine hw (by omega) (by omega) (w 4 0 2) (fun hb => ?_) (by rw [e_D_count, if_neg (by decide), if_neg (by decide), if_neg (by decide), if_neg (by decide), if_neg (by decide), if_pos rfl])
    rcases hS.bgn with ⟨b1, -⟩ | ⟨-, hB, -⟩
    · omega
    · exact hB.2.2.2.2.2.2.1.1
  · refine hw (by omega) (by omega) (w 4 0 3) (fun hb => ?_) (by rw [e_D_count, if_neg (by decide), if_neg (by decide), if_neg (by decide), if_neg (by decide), if_neg (by decide), if_neg (by decide), if_pos rfl])
    rcases hS.bgn with ⟨b1, -⟩ | ⟨-, hB, -⟩
    · omega
    · exact hB.2.2.2.2.2.2.2.1.1
  · refine ⟨w 5 0 1, w, w, ?_, ?_, hS⟩
    · rw [e_D_count, if_neg (by decide), if_neg (by decide), if_neg (by decide), if_neg (by decide), if_neg (by decide), if_neg (by decide), if_neg (by decide), if_pos rfl]
    · rw [hMo (by omega), hM6, if_pos rfl, ht.2.1]
  · refine ⟨-1, w, w, ?_, ?_, hS⟩
    · rw [e_D_count, if_neg (by omega), if_neg (by omega), if_neg (by omega), if_neg (by omega), if_neg (by omega), if_neg (by omega), if_neg (by omega), if_neg (by omega)]
    · rw [hMo (by omega), hM6, if_neg (by omega), if_neg (by omega)]
theorem p_wood (hS : Sim LS RX w) (a1 a2 : Int) : ∃ r w1 w2, D_wood (d + 12) a1 a2 w = some (r, w1) ∧ M_wood (d + 12) a1 a2 w1 = some (r, w2) ∧ Sim LS RX w2 := by
  have hc := hS.cnt
  have hT : M_isText (d + 11) 0 a1 w = some (if 0 ≤ a1 ∧ a1 < w 10 0 4 then 1 else 0, w) := by rw [m_isText (by decide), hc.1.1]
  by_cases h1 : 0 ≤ a1 ∧ a1 < w 10 0 4
  · have hW := hS.wood h1.1 h1.2
    have hh := hW.home
    by_cases h2 : 0 ≤ a2 ∧ a2 ≤ 4
    · have hMM : M_wood (d + 12) a1 a2 w = some (if a2 = 0 then w 58 0 (12 + a1) else if a2 = 1 then w 59 0 (12 + a1) else if a2 = 2 then w 60 0 (12 + a1) else if a2 = 3 then w 61 0 (12 + a1) else w 62 0 a1, w) := by
        rw [e_M_wood, hT, bnd, if_pos h1]
        dsimp only
        rw [if_neg (show ¬ (1 : Int) = 0 by decide), m_in, bnd, if_pos h2]
        dsimp only
        rw [if_neg (show ¬ (1 : Int) = 0 by decide), gd_t (by omega)]
        have : a2 = 0 ∨ a2 = 1 ∨ a2 = 2 ∨ a2 = 3 ∨ a2 = 4 := by omega
        rcases this with rfl | rfl | rfl | rfl | rfl
        · rw [if_pos rfl, if_pos rfl, gd_t (by omega)]
        · rw [if_neg (by decide), if_pos rfl, if_neg (by decide), if_pos rfl, gd_t (by omega)]
        · rw [if_neg (by decide), if_neg (by decide), if_pos rfl, if_neg (by decide), if_neg (by decide), if_pos rfl, gd_t (by omega)]
        · rw [if_neg (by decide), if_neg (by decide), if_neg (by decide), if_pos rfl, if_neg (by decide), if_neg (by decide), if_neg (by decide), if_pos rfl, gd_t (by omega)]
        · rw [if_neg (by decide), if_neg (by decide), if_neg (by decide), if_neg (by decide), if_neg (by decide), if_neg (by decide), if_neg (by decide), if_neg (by decide), gd_t (by omega)]
      refine ⟨_, w, w, ?_, hMM, hS⟩
      rw [e_D_wood, if_neg (by omega), if_pos h1.2, gd_t (by omega), show 0 + a1 = a1 by omega]
      have : a2 = 0 ∨ a2 = 1 ∨ a2 = 2 ∨ a2 = 3 ∨ a2 = 4 := by omega
      rcases this with rfl | rfl | rfl | rfl | rfl
      · rw [if_pos rfl, if_pos rfl, hW.2.1.1]
      · rw [if_neg (by decide), if_pos rfl, if_neg (by decide), if_pos rfl, hW.2.1.2]
      · rw [if_neg (by decide), if_neg (by decide), if_pos rfl, if_neg (by decide), if_neg (by decide), if_pos rfl, gd_t (by omega), hh.2.1]
      · rw [if_neg (by decide), if_neg (by decide), if_neg (by decide), if_pos rfl, if_neg (by decide), if_neg (by decide), if_neg (by decide), if_pos rfl, gd_t (by omega), hh.2.2]
      · rw [if_neg (by decide), if_neg (by decide), if_neg (by decide), if_neg (by decide), if_pos rfl, if_neg (by decide), if_neg (by decide), if_neg (by decide), if_neg (by decide), hW.2.2.2.1.1]
    · refine ⟨-1, w, w, ?_, ?_, hS⟩
      · rw [e_D_wood, if_neg (by omega), if_pos h1.2, gd_t (by omega), if_neg (by omega), if_neg (by omega), if_neg (by omega), if_neg (by omega), if_neg (by omega)]
      · rw [e_M_wood, hT, bnd, if_pos h1]
        dsimp only
        rw [if_neg (show ¬ (1 : Int) = 0 by decide), m_in, bnd, if_neg h2, if_pos rfl]
  · refine ⟨-1, w, w, ?_, ?_, hS⟩
    · rw [e_D_wood]
      by_cases z : a1 < 0
      · rw [if_pos z]
      · rw [if_neg z, if_neg (by omega)]
    · rw [e_M_wood, hT, bnd, if_neg h1, if_pos rfl]
theorem p_cell (hS : Sim LS RX w) (a1 a2 a3 a4 : Int) : ∃ r w1 w2, D_cell (d + 12) a1 a2 a3 a4 w = some (r, w1) ∧ M_cell (d + 12) a1 a2 a3 a4 w1 = some (r, w2) ∧ Sim LS RX w2 := by
  have hc := hS.cnt
  have hT : M_isText (d + 11) 0 a1 w = some (if 0 ≤ a1 ∧ a1 < w 10 0 4 then 1 else 0, w) := by rw [m_isText (by decide), hc.1.1]
  by_cases h1 : 0 ≤ a1 ∧ a1 < w 10 0 4
  · have hW := hS.wood h1.1 h1.2
    have hCR := hW.1
    have hca := s_cellAt (d := d + 11) (i := a1) (x := a2) (y := a3) (w := w) hCR.1.2 hCR.2.2
    have hiw := hW.inW (d := d + 10) (x := a2) (y := a3) (by omega)
    by_cases h4 : 0 ≤ a4 ∧ a4 ≤ 9
    · by_cases h2 : 0 ≤ a2 ∧ 0 ≤ a3 ∧ a2 < w 9 a1 0 ∧ a3 < w 9 a1 1
      · have hcv : cellAt (w 9 a1 0) (w 9 a1 1) a2 a3 = a3 * 12 + a2 := by unfold cellAt; rw [if_pos h2]
        rw [hcv] at hca
        rw [if_pos h2] at hiw
        generalize hcc : a3 * 12 + a2 = c at *
        have c0 : 0 ≤ c ∧ c < 144 := by omega
        have hcell := (hW.2.2.2.2.1 c c0.1 c0.2).1
        have hsrc := hW.2.2.2.1
        have hpre : M_cell (d + 12) a1 a2 a3 a4 w = if a4 ≤ 4 then M_cell_10 (d + 12) a1 a4 c w else if 9 ≤ a4 then M_cell_10 (d + 12) a1 a4 c w else if w 62 0 a1 ≤ a4 - 5 then some (-1, w) else (M_loudAt (d + 11) a1 (a4 - 5) c w).bind fun r4 => some (r4.1, r4.2) := by
          rw [e_M_cell, hT, bnd, if_pos h1]
          dsimp only
          rw [if_neg (show ¬ (1 : Int) = 0 by decide), hiw, bnd]
          dsimp only
          rw [if_neg (show ¬ (1 : Int) = 0 by decide), m_in, bnd, if_pos h4]
          dsimp only
          rw [if_neg (show ¬ (1 : Int) = 0 by decide), show 12 * a3 + a2 = c by omega, gd_t (by omega), gd_t (by omega), gd_t (by omega), gd_t (by omega), gd_t (by omega)]
        have hD : D_cell (d + 12) a1 a2 a3 a4 w = (Wood_told (d + 11) a1 c a4 w).bind fun r2 => some (r2.1, r2.2) := by
          rw [e_D_cell, if_neg (by omega), if_neg (by omega), if_neg (by omega), if_pos h4.2, gd_t (by omega), show 0 + a1 = a1 by omega, hca, bnd]
          dsimp only
          rw [if_neg (by omega), gd_t (by omega)]
        have : a4 = 0 ∨ a4 = 1 ∨ a4 = 2 ∨ a4 = 3 ∨ a4 = 4 ∨ a4 = 9 ∨ (a4 = 5 ∨ a4 = 6 ∨ a4 = 7 ∨ a4 = 8) := by omega
        have hM10 : ∀ k : Int, (a4 = 9 → k = 5) → (a4 ≠ 9 → k = a4) → 0 ≤ k → k < 6 → M_cell_10 (d + 12) a1 a4 c w = some (md w a1 k c, w) := fun k q1 q2 k0 k1 => by
          rw [e_M_cell_10]
          by_cases z : a4 = 9
          · rw [if_pos z, m_at (by omega) (by decide) c0, bnd, q1 z]
            rfl
          · rw [if_neg z, m_at (by omega) (by have := q2 z; omega) c0, bnd, q2 z]
            rfl
        rcases this with rfl | rfl | rfl | rfl | rfl | rfl | q
        · refine ⟨w 33 a1 c, w, w, ?_, ?_, hS⟩
          · rw [hD, e_Wood_told, if_pos rfl, gd_t c0, bnd]
          · rw [hpre, if_pos (by decide), hM10 0 (by decide) (by decide) (by decide) (by decide), hcell.1]
        · refine ⟨w 34 a1 c, w, w, ?_, ?_, hS⟩
          · rw [hD, e_Wood_told, if_neg (by decide), if_pos rfl, gd_t c0, bnd]
          · rw [hpre, if_pos (by decide), hM10 1 (by decide) (by decide) (by decide) (by decide), hcell.2.1]
        · refine ⟨w 35 a1 c, w, w, ?_, ?_, hS⟩
          · rw [hD, e_Wood_told, if_neg (by decide), if_neg (by decide), if_pos rfl, gd_t c0, bnd]
          · rw [hpre, if_pos (by decide), hM10 2 (by decide) (by decide) (by decide) (by decide), hcell.2.2.1]
        · refine ⟨w 36 a1 c, w, w, ?_, ?_, hS⟩
          · rw [hD, e_Wood_told, if_neg (by decide), if_neg (by decide), if_neg (by decide), if_pos rfl, gd_t c0, bnd]
          · rw [hpre, if_pos (by decide), hM10 3 (by decide) (by decide) (by decide) (by decide), hcell.2.2.2.1]
        · refine ⟨w 37 a1 c, w, w, ?_, ?_, hS⟩
          · rw [hD, e_Wood_told, if_neg (by decide), if_neg (by decide), if_neg (by decide), if_neg (by decide), if_pos rfl, gd_t c0, bnd]
          · rw [hpre, if_pos (by decide), hM10 4 (by decide) (by decide) (by decide) (by decide), hcell.2.2.2.2.1]
        · refine ⟨w 38 a1 c, w, w, ?_, ?_, hS⟩
          · rw [hD, e_Wood_told, if_neg (by decide), if_neg (by decide), if_neg (by decide), if_neg (by decide), if_neg (by decide), if_neg (by decide), if_neg (by decide), if_neg (by decide), if_neg (by decide), if_pos rfl, gd_t c0, bnd]
          · rw [hpre, if_neg (by decide), if_pos (by decide), hM10 5 (by decide) (by decide) (by decide) (by decide), hcell.2.2.2.2.2]
        · have hls := s_loudAt (d := d + 10) (i := a1) (s := a4 - 5) (c := c) (w := w) (by omega) c0.1 c0.2
          have hDl : D_cell (d + 12) a1 a2 a3 a4 w = some (if 0 ≤ a4 - 5 ∧ a4 - 5 < w 9 a1 3 then w 32 a1 ((a4 - 5) * 144 + c) else -1, w) := by
            rw [hD, e_Wood_told]
            rcases q with z | z | z | z
            · rw [if_neg (by omega), if_neg (by omega), if_neg (by omega), if_neg (by omega), if_neg (by omega), if_pos z, gd_t (by omega), hls, bnd, bnd]
            · rw [if_neg (by omega), if_neg (by omega), if_neg (by omega), if_neg (by omega), if_neg (by omega), if_neg (by omega), if_pos z, gd_t (by omega), hls, bnd, bnd]
            · rw [if_neg (by omega), if_neg (by omega), if_neg (by omega), if_neg (by omega), if_neg (by omega), if_neg (by omega), if_neg (by omega), if_pos z, gd_t (by omega), hls, bnd, bnd]
            · rw [if_neg (by omega), if_neg (by omega), if_neg (by omega), if_neg (by omega), if_neg (by omega), if_neg (by omega), if_neg (by omega), if_neg (by omega), if_pos z, gd_t (by omega), hls, bnd, bnd]
          refine ⟨_, w, w, hDl, ?_, hS⟩
          rw [hpre, if_neg (by omega), if_neg (by omega)]
          by_cases z : w 62 0 a1 ≤ a4 - 5
          · rw [if_pos z, if_neg (by omega)]
          · obtain ⟨n, hn⟩ : ∃ n : Nat, c = n := ⟨c.toNat, by omega⟩
            have hml := m_loud (d := d + 10) (a := a4 - 5) (c := n) hW (by omega) (by omega) (by omega)
            rw [hn]
            rw [if_neg z, hml.1, bnd, if_pos (by omega)]
      · have hcv : cellAt (w 9 a1 0) (w 9 a1 1) a2 a3 = -1 := by unfold cellAt; rw [if_neg h2]
        refine ⟨-2, w, w, ?_, ?_, hS⟩
        · rw [e_D_cell, if_neg (by omega), if_neg (by omega), if_neg (by omega), if_pos h4.2, gd_t (by omega), show 0 + a1 = a1 by omega, hca, hcv, bnd]
          dsimp only
          rw [if_pos rfl]
        · rw [e_M_cell, hT, bnd, if_pos h1]
          dsimp only
          rw [if_neg (show ¬ (1 : Int) = 0 by decide), hiw, bnd, if_neg h2, if_pos rfl]
    · refine ⟨-2, w, w, ?_, ?_, hS⟩
      · rw [e_D_cell, if_neg (by omega), if_neg (by omega)]
        by_cases z : a4 < 0
        · rw [if_pos z]
        · rw [if_neg z, if_neg (by omega)]
      · rw [e_M_cell, hT, bnd, if_pos h1]
        dsimp only
        rw [if_neg (show ¬ (1 : Int) = 0 by decide), hiw, bnd]
        dsimp only
        by_cases h2 : 0 ≤ a2 ∧ 0 ≤ a3 ∧ a2 < w 9 a1 0 ∧ a3 < w 9 a1 1
        · rw [if_pos h2, if_neg (show ¬ (1 : Int) = 0 by decide), m_in, bnd, if_neg h4, if_pos rfl]
        · rw [if_neg h2, if_pos rfl]
  · refine ⟨-2, w, w, ?_, ?_, hS⟩
    · rw [e_D_cell]
      by_cases z : a1 < 0
      · rw [if_pos z]
      · rw [if_neg z, if_pos (by omega)]
    · rw [e_M_cell, hT, bnd, if_neg h1, if_pos rfl]
end
