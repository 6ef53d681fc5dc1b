/-! THE QUESTIONS that change nothing: odds, all, left, fork, tells, aim, count; POST -/
theorem b_aim2 {d e : Nat} {what line bar : Int} {w : zW} (hf : wtB (w 19 0)) (hg : wtB (wtM w 70 6)) (hE : ∀ k, 0 ≤ k → k < 576 → w 19 0 k = wtM w 70 6 k) (hw : what = 0 ∨ what = 1) (hl : 0 ≤ line ∧ line < 12) : ∀ m k : Nat, k + m = 13 →
    ∃ r, D_aim_8 (d + 2) what line bar k w = some (r, w) ∧ M_aim_6 (e + 1) what line bar k w = some (r, w) := by
  intro m
  induction m with
  | zero =>
    intro k hk
    refine ⟨-2, ?_, ?_⟩
    · rw [e_D_aim_8, if_pos (by omega)]
    · rw [e_M_aim_6, if_pos (by omega)]
  | succ m ih =>
    intro k hk
    obtain ⟨r, ih1, ih2⟩ := ih (k + 1) (by omega)
    have hM : M_aim_6 (e + 1) what line bar k w = if aimS (wtM w 70 6) what line k / 1000000 < bar then M_aim_6 (e + 1) what line bar (k + 1 : Nat) w else some ((k : Int), w) := by
      rw [e_M_aim_6, if_neg (by omega)]
      exact m_aim_8 (d := e) hg hw hl (by omega) 144 0 rfl
    have h13 : ∀ x : Int, 0 ≤ x → x < 144 → area (w 19 0) x 143 (-1) = aimS (w 19 0) what line k → D_aim_13 (d + 2) what line bar k 0 x w = if aimS (wtM w 70 6) what line k / 1000000 < bar then D_aim_8 (d + 2) what line bar (k + 1 : Nat) w else some ((k : Int), w) := fun x h0 h1 h2 => by
      have h3 := aimS_bd hf (what := what) (line := line) (k := k)
      rw [e_D_aim_13, s_inArea hf ⟨h0, h1⟩ (by omega)]
      dsimp only [Option.bind]
      rw [h2, aimS_congr hE] at *
      rw [gd_t (by omega)]
      split
      · exact gd_t (by omega)
      · rfl
    have hD : D_aim_8 (d + 2) what line bar k w = if aimS (wtM w 70 6) what line k / 1000000 < bar then D_aim_8 (d + 2) what line bar (k + 1 : Nat) w else some ((k : Int), w) := by
      rw [e_D_aim_8, if_neg (by omega), gd_t (by omega), gd_t (by omega)]
      by_cases hx : 12 ≤ max 0 (line + 1 - (k : Int))
      · rw [if_pos hx, gd_t (by decide), aim_z hx]
        split
        · exact gd_t (by omega)
        · rfl
      · rw [if_neg hx]
        by_cases h0 : what = 0
        · rw [if_pos h0]
          exact h13 _ (by omega) (by omega) (by rw [h0]; exact aim_0 hl (by omega) (by omega))
        · rw [if_neg h0, gd_t (by omega)]
          exact h13 _ (by omega) (by omega) (by rw [show what = 1 by omega]; exact aim_1 hl (by omega) (by omega))
    rw [hD, hM]
    split
    · exact ⟨r, ih1, ih2⟩
    · exact ⟨_, rfl, rfl⟩
section
variable {LS RX : Int → List clau} {w : zW} {d : Nat}
theorem gone_m (hB : RB w 0 (w 70 0)) : M_isWalk d w = some (1, w) := by
  have := hB.2.1.2.1
  rw [m_isWalk, if_neg (by omega)]
theorem none_m (h : w 70 0 0 = -1) : M_isWalk d w = some (0, w) := by
  rw [m_isWalk, if_pos h]
theorem p_left (hS : Sim LS RX w) (a1 : Int) : ∃ r w1 w2, D_left (d + 12) a1 w = some (r, w1) ∧ M_left (d + 12) a1 w1 = some (r, w2) ∧ Sim LS RX w2 := by
  rcases hS.bgn with ⟨b1, b2, -⟩ | ⟨hb, hB, hE⟩
  · refine ⟨-1, w, w, ?_, ?_, hS⟩
    · rw [e_D_left, if_pos b1]
    · rw [e_M_left, none_m b2, bnd, if_pos rfl]
  by_cases h1 : 1 ≤ a1 ∧ a1 ≤ 1000
  · have h6 := hB.2.2.2.2.1
    have hD := hB.2.2.2.2.2.2.2.2.2.2.2
    have key : ∀ (m : Nat) (k : Int), 0 ≤ k → k + m = w 70 0 2 → ∃ r, D_left_4 (d + 12) a1 k w = some (r, w) ∧ M_left_4 (d + 12) a1 k w = some (r, w) := by
      intro m
      induction m with
      | zero =>
        intro k k0 hk
        refine ⟨-2, ?_, ?_⟩
        · rw [e_D_left_4, if_pos (by omega)]
        · rw [e_M_left_4, gd_t (by decide), if_pos (by omega)]
      | succ m ih =>
        intro k k0 hk
        have hon := (hD k k0 (by omega)).2.2.2.2.2
        obtain ⟨r, r1, r2⟩ := ih (k + 1) (by omega) (by omega)
        have hd : D_left_4 (d + 12) a1 k w = if a1 ≤ w 70 0 (582 + 4 * k + 3) then D_left_4 (d + 12) a1 (k + 1) w else some (k, w) := by
          rw [e_D_left_4, if_neg (by omega), gd_t (by omega)]
          simp only [hon]
          rw [gd_t (show inI (k + 1) by omega)]
        have hm : M_left_4 (d + 12) a1 k w = if a1 ≤ w 70 0 (582 + 4 * k + 3) then M_left_4 (d + 12) a1 (k + 1) w else some (k, w) := by
          rw [e_M_left_4, gd_t (by decide), if_neg (by omega), gd_t (by omega), gd_t (by omega), gd_t (by omega), gd_t (by omega), gd_t (show inI (k + 1) by omega)]
        rw [hd, hm]
        by_cases q : a1 ≤ w 70 0 (582 + 4 * k + 3)
        · rw [if_pos q, if_pos q]
          exact ⟨r, r1, r2⟩
        · rw [if_neg q, if_neg q]
          exact ⟨k, rfl, rfl⟩
    obtain ⟨r, r1, r2⟩ := key (w 70 0 2).toNat 0 (by omega) (by omega)
    refine ⟨r, w, w, ?_, ?_, hS⟩
    · rw [e_D_left, if_neg (by omega), s_isBar, bnd, if_pos h1]
      exact r1
    · rw [e_M_left, gone_m hB, bnd]
      dsimp only
      rw [if_neg (by decide), m_in, bnd, if_pos h1]
      exact r2
  · refine ⟨-1, w, w, ?_, ?_, hS⟩
    · rw [e_D_left, if_neg (by omega), s_isBar, bnd, if_neg h1, if_pos rfl]
    · rw [e_M_left, gone_m hB, bnd]
      dsimp only
      rw [if_neg (by decide), m_in, bnd, if_neg h1, if_pos rfl]
theorem p_tells (hS : Sim LS RX w) : ∃ r w1 w2, D_tells (d + 12) w = some (r, w1) ∧ M_tells (d + 12) w1 = some (r, w2) ∧ Sim LS RX w2 := by
  rcases hS.bgn with ⟨b1, b2, -⟩ | ⟨hb, hB, hE⟩
  · refine ⟨-1, w, w, ?_, ?_, hS⟩
    · rw [e_D_tells, if_pos b1]
    · rw [e_M_tells, none_m b2, bnd, if_pos rfl]
  have hwt := hB.wt
  have hK : wOK (opw w (w 70 0 0)) (w 19 0) := hB.2.2.2.2.2.2.2.2.2.1
  have hf := wOK_B hK
  have hg := wOK_B hwt.2
  have hi : w 70 0 0 = w 7 0 0 := hE.2.2.2.1.1
  have hcell := hE.2.1.2.2.2.2.1
  have h1 := s_tells_3 (d := d + 10) (i := w 7 0 0) hf rfl (by have := hK.2.2.2; omega) 8 0 rfl
  have h2 := m_tells_3 (d := d + 10) (path := w 33 (w 7 0 0)) (ground := w 35 (w 7 0 0)) hi hE.2.2.2.2.1 (fun c c0 c1 => (hcell c c0 c1).1.1.symm) (fun c c0 c1 => (hcell c c0 c1).1.2.2.1.symm) hg (by have := hwt.2.2.2.2; omega) 16 0 rfl
  have h3 : sm (tlG (w 33 (w 7 0 0)) (w 35 (w 7 0 0)) (w 19 0)) 16 = sm (tlG (w 33 (w 7 0 0)) (w 35 (w 7 0 0)) (wtM w 70 6)) 16 := sm_congr fun k _ => tl_congr hwt.1 k
  refine ⟨sm (tlG (w 33 (w 7 0 0)) (w 35 (w 7 0 0)) (w 19 0)) 16, w, w, ?_, ?_, hS⟩
  · rw [e_D_tells, if_neg (by omega)]
    exact h1
  · rw [e_M_tells, gone_m hB, bnd]
    dsimp only
    rw [if_neg (by decide), h3]
    exact h2
theorem p_aim (hS : Sim LS RX w) (a1 a2 a3 : Int) : ∃ r w1 w2, D_aim (d + 12) a1 a2 a3 w = some (r, w1) ∧ M_aim (d + 12) a1 a2 a3 w1 = some (r, w2) ∧ Sim LS RX w2 := by
  rcases hS.bgn with ⟨b1, b2, -⟩ | ⟨hb, hB, hE⟩
  · refine ⟨-1, w, w, ?_, ?_, hS⟩
    · rw [e_D_aim, if_pos b1]
    · rw [e_M_aim, none_m b2, bnd, if_pos rfl]
  have hwt := hB.wt
  have hf := wOK_B hB.2.2.2.2.2.2.2.2.2.1
  have hg := wOK_B hwt.2
  by_cases h1 : 0 ≤ a1 ∧ a1 ≤ 1
  · by_cases h2 : 0 ≤ a2 ∧ a2 ≤ 11
    · by_cases h3 : 1 ≤ a3 ∧ a3 ≤ 1000
      · obtain ⟨r, r1, r2⟩ := b_aim2 (d := d + 10) (e := d + 11) (what := a1) (line := a2) (bar := a3) hf hg hwt.1 (by omega) (by omega) 13 0 rfl
        refine ⟨r, w, w, ?_, ?_, hS⟩
        · rw [e_D_aim, if_neg (by omega), if_neg (by omega), if_neg (by omega), if_neg (by omega), if_neg (by omega), s_isBar, bnd, if_pos h3]
          exact r1
        · rw [e_M_aim, gone_m hB, bnd]
          dsimp only
          rw [if_neg (by decide), m_in, bnd, if_pos h1]
          dsimp only
          rw [if_neg (by decide), m_in, bnd, if_pos h2]
          dsimp only
          rw [if_neg (by decide), m_in, bnd, if_pos h3]
          exact r2
      · refine ⟨-1, w, w, ?_, ?_, hS⟩
        · rw [e_D_aim, if_neg (by omega), if_neg (by omega), if_neg (by omega), if_neg (by omega), if_neg (by omega), s_isBar, bnd, if_neg h3, if_pos rfl]
        · rw [e_M_aim, gone_m hB, bnd]
          dsimp only
          rw [if_neg (by decide), m_in, bnd, if_pos h1]
          dsimp only
          rw [if_neg (by decide), m_in, bnd, if_pos h2]
          dsimp only
          rw [if_neg (by decide), m_in, bnd, if_neg h3, if_pos rfl]
    · refine ⟨-1, w, w, ?_, ?_, hS⟩
      · rw [e_D_aim, if_neg (by omega), if_neg (by omega), if_neg (by omega)]
        by_cases z : a2 < 0
        · rw [if_pos z]
        · rw [if_neg z, if_pos (by omega)]
      · rw [e_M_aim, gone_m hB, bnd]
        dsimp only
        rw [if_neg (by decide), m_in, bnd, if_pos h1]
        dsimp only
        rw [if_neg (by decide), m_in, bnd, if_neg h2, if_pos rfl]
  · refine ⟨-1, w, w, ?_, ?_, hS⟩
    · rw [e_D_aim, if_neg (by omega)]
      by_cases z : a1 < 0
      · rw [if_pos z]
      · rw [if_neg z, if_pos (by omega)]
    · rw [e_M_aim, gone_m hB, bnd]
      dsimp only
      rw [if_neg (by decide), m_in, bnd, if_neg h1, if_pos rfl]
end
