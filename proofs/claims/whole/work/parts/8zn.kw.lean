/-! the words that begin a clause, in the model -/
abbrev w_step : List Int := [115, 116, 101, 112]
abbrev w_drift : List Int := [100, 114, 105, 102, 116]
abbrev w_feel : List Int := [102, 101, 101, 108]
abbrev w_see : List Int := [115, 101, 101]
abbrev w_hear : List Int := [104, 101, 97, 114]
abbrev w_wide : List Int := [119, 105, 100, 101]
abbrev w_path : List Int := [112, 97, 116, 104]
abbrev w_wall : List Int := [119, 97, 108, 108]
abbrev w_ground : List Int := [103, 114, 111, 117, 110, 100]
abbrev w_sky : List Int := [115, 107, 121]
abbrev w_harm : List Int := [104, 97, 114, 109]
abbrev w_source : List Int := [115, 111, 117, 114, 99, 101]
abbrev w_home : List Int := [104, 111, 109, 101]
abbrev w_go : List Int := [103, 111]
abbrev w_left : List Int := [108, 101, 102, 116]
abbrev w_right : List Int := [114, 105, 103, 104, 116]
abbrev w_back : List Int := [98, 97, 99, 107]
abbrev w_sit : List Int := [115, 105, 116]
abbrev w_strike : List Int := [115, 116, 114, 105, 107, 101]
abbrev lawKW : List (List Int) := [w_step, w_drift, w_feel, w_see, w_hear]
abbrev woodKW : List (List Int) := [w_wide, w_path, w_wall, w_ground, w_sky, w_harm, w_source, w_home]
abbrev actKW : List (List Int) := [w_go, w_left, w_right, w_back, w_sit, w_strike]
theorem WD_u {T : Int → Int} {n q : Int} {W W' : List Int} (h : WD T n q W) (h' : WD T n q W') : W = W' := by
  have hl : W.length = W'.length := by
    have := rn_u h.1 h'.1
    omega
  refine List.ext_getElem hl (fun j a b => ?_)
  have e1 := h.2 j a
  have e2 := h'.2 j b
  rw [List.getD_eq_getElem?_getD, List.getElem?_eq_getElem a, Option.getD_some] at e1
  rw [List.getD_eq_getElem?_getD, List.getElem?_eq_getElem b, Option.getD_some] at e2
  exact e1.symm.trans e2
section
variable {g : Nat} {T : Int → Int} {n : Int} {wc v1 : zW}
/-- the word is known -/
theorem m_is {code : Int} {W W0 : List Int} (hW : okW W) (hc : cdW W = code) (h : JR T n wc v1) (h18 : v1 11 0 18 = wc 5 0 4) (h0 : WD T n (wc 5 0 4) W0) : M_isWord (g + 1) code v1 = some (if W = W0 then 1 else 0, v1) := by
  obtain ⟨r, a, b, c⟩ := m_wd (r := 0) (g := g) hW hc h h18
  rw [a]
  by_cases z : W = W0
  · rw [if_pos z, c.2 (by rw [z]; exact h0)]
  · rw [if_neg z]
    rcases b with q | q
    · rw [q]
    · exact absurd (WD_u (c.1 q) h0) z
theorem i_step {W0 : List Int} (h : JR T n wc v1) (h18 : v1 11 0 18 = wc 5 0 4) (h0 : WD T n (wc 5 0 4) W0) : M_isWord (g + 1) 1937007984 v1 = some (if w_step = W0 then 1 else 0, v1) := m_is (code := 1937007984) (W := w_step) (okW_i (by decide) (by decide) (by decide)) (by decide +kernel) h h18 h0
theorem i_drift {W0 : List Int} (h : JR T n wc v1) (h18 : v1 11 0 18 = wc 5 0 4) (h0 : WD T n (wc 5 0 4) W0) : M_isWord (g + 1) 431416239732 v1 = some (if w_drift = W0 then 1 else 0, v1) := m_is (code := 431416239732) (W := w_drift) (okW_i (by decide) (by decide) (by decide)) (by decide +kernel) h h18 h0
theorem i_feel {W0 : List Int} (h : JR T n wc v1) (h18 : v1 11 0 18 = wc 5 0 4) (h0 : WD T n (wc 5 0 4) W0) : M_isWord (g + 1) 1717921132 v1 = some (if w_feel = W0 then 1 else 0, v1) := m_is (code := 1717921132) (W := w_feel) (okW_i (by decide) (by decide) (by decide)) (by decide +kernel) h h18 h0
theorem i_see {W0 : List Int} (h : JR T n wc v1) (h18 : v1 11 0 18 = wc 5 0 4) (h0 : WD T n (wc 5 0 4) W0) : M_isWord (g + 1) 7562597 v1 = some (if w_see = W0 then 1 else 0, v1) := m_is (code := 7562597) (W := w_see) (okW_i (by decide) (by decide) (by decide)) (by decide +kernel) h h18 h0
theorem i_hear {W0 : List Int} (h : JR T n wc v1) (h18 : v1 11 0 18 = wc 5 0 4) (h0 : WD T n (wc 5 0 4) W0) : M_isWord (g + 1) 1751474546 v1 = some (if w_hear = W0 then 1 else 0, v1) := m_is (code := 1751474546) (W := w_hear) (okW_i (by decide) (by decide) (by decide)) (by decide +kernel) h h18 h0
theorem i_wide {W0 : List Int} (h : JR T n wc v1) (h18 : v1 11 0 18 = wc 5 0 4) (h0 : WD T n (wc 5 0 4) W0) : M_isWord (g + 1) 2003395685 v1 = some (if w_wide = W0 then 1 else 0, v1) := m_is (code := 2003395685) (W := w_wide) (okW_i (by decide) (by decide) (by decide)) (by decide +kernel) h h18 h0
theorem i_path {W0 : List Int} (h : JR T n wc v1) (h18 : v1 11 0 18 = wc 5 0 4) (h0 : WD T n (wc 5 0 4) W0) : M_isWord (g + 1) 1885434984 v1 = some (if w_path = W0 then 1 else 0, v1) := m_is (code := 1885434984) (W := w_path) (okW_i (by decide) (by decide) (by decide)) (by decide +kernel) h h18 h0
theorem i_wall {W0 : List Int} (h : JR T n wc v1) (h18 : v1 11 0 18 = wc 5 0 4) (h0 : WD T n (wc 5 0 4) W0) : M_isWord (g + 1) 2002873452 v1 = some (if w_wall = W0 then 1 else 0, v1) := m_is (code := 2002873452) (W := w_wall) (okW_i (by decide) (by decide) (by decide)) (by decide +kernel) h h18 h0
theorem i_ground {W0 : List Int} (h : JR T n wc v1) (h18 : v1 11 0 18 = wc 5 0 4) (h0 : WD T n (wc 5 0 4) W0) : M_isWord (g + 1) 113741193899620 v1 = some (if w_ground = W0 then 1 else 0, v1) := m_is (code := 113741193899620) (W := w_ground) (okW_i (by decide) (by decide) (by decide)) (by decide +kernel) h h18 h0
theorem i_sky {W0 : List Int} (h : JR T n wc v1) (h18 : v1 11 0 18 = wc 5 0 4) (h0 : WD T n (wc 5 0 4) W0) : M_isWord (g + 1) 7564153 v1 = some (if w_sky = W0 then 1 else 0, v1) := m_is (code := 7564153) (W := w_sky) (okW_i (by decide) (by decide) (by decide)) (by decide +kernel) h h18 h0
theorem i_harm {W0 : List Int} (h : JR T n wc v1) (h18 : v1 11 0 18 = wc 5 0 4) (h0 : WD T n (wc 5 0 4) W0) : M_isWord (g + 1) 1751216749 v1 = some (if w_harm = W0 then 1 else 0, v1) := m_is (code := 1751216749) (W := w_harm) (okW_i (by decide) (by decide) (by decide)) (by decide +kernel) h h18 h0
theorem i_source {W0 : List Int} (h : JR T n wc v1) (h18 : v1 11 0 18 = wc 5 0 4) (h0 : WD T n (wc 5 0 4) W0) : M_isWord (g + 1) 126922548994917 v1 = some (if w_source = W0 then 1 else 0, v1) := m_is (code := 126922548994917) (W := w_source) (okW_i (by decide) (by decide) (by decide)) (by decide +kernel) h h18 h0
theorem i_home {W0 : List Int} (h : JR T n wc v1) (h18 : v1 11 0 18 = wc 5 0 4) (h0 : WD T n (wc 5 0 4) W0) : M_isWord (g + 1) 1752132965 v1 = some (if w_home = W0 then 1 else 0, v1) := m_is (code := 1752132965) (W := w_home) (okW_i (by decide) (by decide) (by decide)) (by decide +kernel) h h18 h0
theorem i_go {W0 : List Int} (h : JR T n wc v1) (h18 : v1 11 0 18 = wc 5 0 4) (h0 : WD T n (wc 5 0 4) W0) : M_isWord (g + 1) 26479 v1 = some (if w_go = W0 then 1 else 0, v1) := m_is (code := 26479) (W := w_go) (okW_i (by decide) (by decide) (by decide)) (by decide +kernel) h h18 h0
theorem i_left {W0 : List Int} (h : JR T n wc v1) (h18 : v1 11 0 18 = wc 5 0 4) (h0 : WD T n (wc 5 0 4) W0) : M_isWord (g + 1) 1818584692 v1 = some (if w_left = W0 then 1 else 0, v1) := m_is (code := 1818584692) (W := w_left) (okW_i (by decide) (by decide) (by decide)) (by decide +kernel) h h18 h0
theorem i_right {W0 : List Int} (h : JR T n wc v1) (h18 : v1 11 0 18 = wc 5 0 4) (h0 : WD T n (wc 5 0 4) W0) : M_isWord (g + 1) 491394656372 v1 = some (if w_right = W0 then 1 else 0, v1) := m_is (code := 491394656372) (W := w_right) (okW_i (by decide) (by decide) (by decide)) (by decide +kernel) h h18 h0
theorem i_back {W0 : List Int} (h : JR T n wc v1) (h18 : v1 11 0 18 = wc 5 0 4) (h0 : WD T n (wc 5 0 4) W0) : M_isWord (g + 1) 1650549611 v1 = some (if w_back = W0 then 1 else 0, v1) := m_is (code := 1650549611) (W := w_back) (okW_i (by decide) (by decide) (by decide)) (by decide +kernel) h h18 h0
theorem i_sit {W0 : List Int} (h : JR T n wc v1) (h18 : v1 11 0 18 = wc 5 0 4) (h0 : WD T n (wc 5 0 4) W0) : M_isWord (g + 1) 7563636 v1 = some (if w_sit = W0 then 1 else 0, v1) := m_is (code := 7563636) (W := w_sit) (okW_i (by decide) (by decide) (by decide)) (by decide +kernel) h h18 h0
theorem i_strike {W0 : List Int} (h : JR T n wc v1) (h18 : v1 11 0 18 = wc 5 0 4) (h0 : WD T n (wc 5 0 4) W0) : M_isWord (g + 1) 126943972911973 v1 = some (if w_strike = W0 then 1 else 0, v1) := m_is (code := 126943972911973) (W := w_strike) (okW_i (by decide) (by decide) (by decide)) (by decide +kernel) h h18 h0
theorem mh1 (h : JR T n wc v1) (h18 : v1 11 0 18 = wc 5 0 4) : ∃ b, M_clauseHere (g + 2) v1 = M_clauseHere_7 (g + 2) (wc 5 0 4) b v1 ∧ (b = 0 ∨ b = 1) ∧ (b = 1 ↔ ∃ W ∈ lawKW, WD T n (wc 5 0 4) W) := by
  obtain ⟨r0, a0, b0, c0⟩ := m_wd (r := 0) (g := g) (code := 1937007984) (W := w_step) (okW_i (by decide) (by decide) (by decide)) (by decide +kernel) h h18
  obtain ⟨r1, a1, b1, c1⟩ := m_wd (r := 0) (g := g) (code := 431416239732) (W := w_drift) (okW_i (by decide) (by decide) (by decide)) (by decide +kernel) h h18
  obtain ⟨r2, a2, b2, c2⟩ := m_wd (r := 0) (g := g) (code := 1717921132) (W := w_feel) (okW_i (by decide) (by decide) (by decide)) (by decide +kernel) h h18
  obtain ⟨r3, a3, b3, c3⟩ := m_wd (r := 0) (g := g) (code := 7562597) (W := w_see) (okW_i (by decide) (by decide) (by decide)) (by decide +kernel) h h18
  obtain ⟨r4, a4, b4, c4⟩ := m_wd (r := 0) (g := g) (code := 1751474546) (W := w_hear) (okW_i (by decide) (by decide) (by decide)) (by decide +kernel) h h18
  obtain ⟨hs, -⟩ := j_see (d := g + 1) h
  have e0 : z_up v1 11 0 18 (wc 5 0 4) = v1 := by rw [← h18, up_self]
  rw [e0] at hs
  rw [e_M_clauseHere, hs, bnd]
  dsimp only
  rw [h18]
  rw [a0, bnd]
  dsimp only
  by_cases z0 : r0 = 0
  case neg =>
    rw [if_neg z0]
    exact ⟨1, rfl, Or.inr rfl, fun _ => ⟨w_step, by decide, c0.1 (by omega)⟩, fun _ => rfl⟩
  rw [if_pos z0]
  rw [a1, bnd]
  dsimp only
  by_cases z1 : r1 = 0
  case neg =>
    rw [if_neg z1]
    exact ⟨1, rfl, Or.inr rfl, fun _ => ⟨w_drift, by decide, c1.1 (by omega)⟩, fun _ => rfl⟩
  rw [if_pos z1]
  rw [a2, bnd]
  dsimp only
  by_cases z2 : r2 = 0
  case neg =>
    rw [if_neg z2]
    exact ⟨1, rfl, Or.inr rfl, fun _ => ⟨w_feel, by decide, c2.1 (by omega)⟩, fun _ => rfl⟩
  rw [if_pos z2]
  rw [a3, bnd]
  dsimp only
  by_cases z3 : r3 = 0
  case neg =>
    rw [if_neg z3]
    exact ⟨1, rfl, Or.inr rfl, fun _ => ⟨w_see, by decide, c3.1 (by omega)⟩, fun _ => rfl⟩
  rw [if_pos z3]
  rw [a4, bnd]
  dsimp only
  by_cases z4 : r4 = 0
  case neg =>
    rw [if_neg z4]
    exact ⟨1, rfl, Or.inr rfl, fun _ => ⟨w_hear, by decide, c4.1 (by omega)⟩, fun _ => rfl⟩
  rw [if_pos z4]
  refine ⟨0, rfl, Or.inl rfl, fun k => absurd k (by decide), fun ⟨W, hW, hw⟩ => ?_⟩
  simp only [List.mem_cons, List.not_mem_nil, or_false] at hW
  rcases hW with rfl | rfl | rfl | rfl | rfl
  · have := c0.2 hw; omega
  · have := c1.2 hw; omega
  · have := c2.2 hw; omega
  · have := c3.2 hw; omega
  · have := c4.2 hw; omega
theorem mh2 {p l : Int} (h : JR T n wc v1) (h18 : v1 11 0 18 = wc 5 0 4) : ∃ b, M_clauseHere_7 (g + 2) p l v1 = M_clauseHere_17 (g + 2) p l b v1 ∧ (b = 0 ∨ b = 1) ∧ (b = 1 ↔ ∃ W ∈ woodKW, WD T n (wc 5 0 4) W) := by
  obtain ⟨r0, a0, b0, c0⟩ := m_wd (r := 0) (g := g) (code := 2003395685) (W := w_wide) (okW_i (by decide) (by decide) (by decide)) (by decide +kernel) h h18
  obtain ⟨r1, a1, b1, c1⟩ := m_wd (r := 0) (g := g) (code := 1885434984) (W := w_path) (okW_i (by decide) (by decide) (by decide)) (by decide +kernel) h h18
  obtain ⟨r2, a2, b2, c2⟩ := m_wd (r := 0) (g := g) (code := 2002873452) (W := w_wall) (okW_i (by decide) (by decide) (by decide)) (by decide +kernel) h h18
  obtain ⟨r3, a3, b3, c3⟩ := m_wd (r := 0) (g := g) (code := 113741193899620) (W := w_ground) (okW_i (by decide) (by decide) (by decide)) (by decide +kernel) h h18
  obtain ⟨r4, a4, b4, c4⟩ := m_wd (r := 0) (g := g) (code := 7564153) (W := w_sky) (okW_i (by decide) (by decide) (by decide)) (by decide +kernel) h h18
  obtain ⟨r5, a5, b5, c5⟩ := m_wd (r := 0) (g := g) (code := 1751216749) (W := w_harm) (okW_i (by decide) (by decide) (by decide)) (by decide +kernel) h h18
  obtain ⟨r6, a6, b6, c6⟩ := m_wd (r := 0) (g := g) (code := 126922548994917) (W := w_source) (okW_i (by decide) (by decide) (by decide)) (by decide +kernel) h h18
  obtain ⟨r7, a7, b7, c7⟩ := m_wd (r := 0) (g := g) (code := 1752132965) (W := w_home) (okW_i (by decide) (by decide) (by decide)) (by decide +kernel) h h18
  rw [e_M_clauseHere_7]
  rw [a0, bnd]
  dsimp only
  by_cases z0 : r0 = 0
  case neg =>
    rw [if_neg z0]
    exact ⟨1, rfl, Or.inr rfl, fun _ => ⟨w_wide, by decide, c0.1 (by omega)⟩, fun _ => rfl⟩
  rw [if_pos z0]
  rw [a1, bnd]
  dsimp only
  by_cases z1 : r1 = 0
  case neg =>
    rw [if_neg z1]
    exact ⟨1, rfl, Or.inr rfl, fun _ => ⟨w_path, by decide, c1.1 (by omega)⟩, fun _ => rfl⟩
  rw [if_pos z1]
  rw [a2, bnd]
  dsimp only
  by_cases z2 : r2 = 0
  case neg =>
    rw [if_neg z2]
    exact ⟨1, rfl, Or.inr rfl, fun _ => ⟨w_wall, by decide, c2.1 (by omega)⟩, fun _ => rfl⟩
  rw [if_pos z2]
  rw [a3, bnd]
  dsimp only
  by_cases z3 : r3 = 0
  case neg =>
    rw [if_neg z3]
    exact ⟨1, rfl, Or.inr rfl, fun _ => ⟨w_ground, by decide, c3.1 (by omega)⟩, fun _ => rfl⟩
  rw [if_pos z3]
  rw [a4, bnd]
  dsimp only
  by_cases z4 : r4 = 0
  case neg =>
    rw [if_neg z4]
    exact ⟨1, rfl, Or.inr rfl, fun _ => ⟨w_sky, by decide, c4.1 (by omega)⟩, fun _ => rfl⟩
  rw [if_pos z4]
  rw [a5, bnd]
  dsimp only
  by_cases z5 : r5 = 0
  case neg =>
    rw [if_neg z5]
    exact ⟨1, rfl, Or.inr rfl, fun _ => ⟨w_harm, by decide, c5.1 (by omega)⟩, fun _ => rfl⟩
  rw [if_pos z5]
  rw [a6, bnd]
  dsimp only
  by_cases z6 : r6 = 0
  case neg =>
    rw [if_neg z6]
    exact ⟨1, rfl, Or.inr rfl, fun _ => ⟨w_source, by decide, c6.1 (by omega)⟩, fun _ => rfl⟩
  rw [if_pos z6]
  rw [a7, bnd]
  dsimp only
  by_cases z7 : r7 = 0
  case neg =>
    rw [if_neg z7]
    exact ⟨1, rfl, Or.inr rfl, fun _ => ⟨w_home, by decide, c7.1 (by omega)⟩, fun _ => rfl⟩
  rw [if_pos z7]
  refine ⟨0, rfl, Or.inl rfl, fun k => absurd k (by decide), fun ⟨W, hW, hw⟩ => ?_⟩
  simp only [List.mem_cons, List.not_mem_nil, or_false] at hW
  rcases hW with rfl | rfl | rfl | rfl | rfl | rfl | rfl | rfl
  · have := c0.2 hw; omega
  · have := c1.2 hw; omega
  · have := c2.2 hw; omega
  · have := c3.2 hw; omega
  · have := c4.2 hw; omega
  · have := c5.2 hw; omega
  · have := c6.2 hw; omega
  · have := c7.2 hw; omega
theorem m_actHere (h : JR T n wc v1) (h18 : v1 11 0 18 = wc 5 0 4) : ∃ r, M_actHere (g + 2) v1 = some (r, v1) ∧ WI T n (wc 5 0 4) actKW 0 r := by
  obtain ⟨r0, a0, b0, c0⟩ := m_wd (r := 0) (g := g) (code := 26479) (W := w_go) (okW_i (by decide) (by decide) (by decide)) (by decide +kernel) h h18
  obtain ⟨r1, a1, b1, c1⟩ := m_wd (r := 0) (g := g) (code := 1818584692) (W := w_left) (okW_i (by decide) (by decide) (by decide)) (by decide +kernel) h h18
  obtain ⟨r2, a2, b2, c2⟩ := m_wd (r := 0) (g := g) (code := 491394656372) (W := w_right) (okW_i (by decide) (by decide) (by decide)) (by decide +kernel) h h18
  obtain ⟨r3, a3, b3, c3⟩ := m_wd (r := 0) (g := g) (code := 1650549611) (W := w_back) (okW_i (by decide) (by decide) (by decide)) (by decide +kernel) h h18
  obtain ⟨r4, a4, b4, c4⟩ := m_wd (r := 0) (g := g) (code := 7563636) (W := w_sit) (okW_i (by decide) (by decide) (by decide)) (by decide +kernel) h h18
  obtain ⟨r5, a5, b5, c5⟩ := m_wd (r := 0) (g := g) (code := 126943972911973) (W := w_strike) (okW_i (by decide) (by decide) (by decide)) (by decide +kernel) h h18
  rw [e_M_actHere]
  rw [a0, bnd]
  dsimp only
  by_cases z0 : r0 = 0
  case neg =>
    rw [if_neg z0]
    refine ⟨0, rfl, Or.inr ⟨0, by decide, rfl, c0.1 (by omega), fun i' hi' => ?_⟩⟩
    exact absurd hi' (by omega)
  rw [if_pos z0]
  rw [a1, bnd]
  dsimp only
  by_cases z1 : r1 = 0
  case neg =>
    rw [if_neg z1]
    refine ⟨1, rfl, Or.inr ⟨1, by decide, rfl, c1.1 (by omega), fun i' hi' => ?_⟩⟩
    have : i' = 0 := by omega
    subst this
    exact fun y => by have := c0.2 y; omega
  rw [if_pos z1]
  rw [a2, bnd]
  dsimp only
  by_cases z2 : r2 = 0
  case neg =>
    rw [if_neg z2]
    refine ⟨2, rfl, Or.inr ⟨2, by decide, rfl, c2.1 (by omega), fun i' hi' => ?_⟩⟩
    have : i' = 0 ∨ i' = 1 := by omega
    rcases this with rfl | rfl
    · exact fun y => by have := c0.2 y; omega
    · exact fun y => by have := c1.2 y; omega
  rw [if_pos z2]
  rw [a3, bnd]
  dsimp only
  by_cases z3 : r3 = 0
  case neg =>
    rw [if_neg z3]
    refine ⟨3, rfl, Or.inr ⟨3, by decide, rfl, c3.1 (by omega), fun i' hi' => ?_⟩⟩
    have : i' = 0 ∨ i' = 1 ∨ i' = 2 := by omega
    rcases this with rfl | rfl | rfl
    · exact fun y => by have := c0.2 y; omega
    · exact fun y => by have := c1.2 y; omega
    · exact fun y => by have := c2.2 y; omega
  rw [if_pos z3]
  rw [a4, bnd]
  dsimp only
  by_cases z4 : r4 = 0
  case neg =>
    rw [if_neg z4]
    refine ⟨4, rfl, Or.inr ⟨4, by decide, rfl, c4.1 (by omega), fun i' hi' => ?_⟩⟩
    have : i' = 0 ∨ i' = 1 ∨ i' = 2 ∨ i' = 3 := by omega
    rcases this with rfl | rfl | rfl | rfl
    · exact fun y => by have := c0.2 y; omega
    · exact fun y => by have := c1.2 y; omega
    · exact fun y => by have := c2.2 y; omega
    · exact fun y => by have := c3.2 y; omega
  rw [if_pos z4]
  rw [a5, bnd]
  dsimp only
  by_cases z5 : r5 = 0
  case neg =>
    rw [if_neg z5]
    refine ⟨5, rfl, Or.inr ⟨5, by decide, rfl, c5.1 (by omega), fun i' hi' => ?_⟩⟩
    have : i' = 0 ∨ i' = 1 ∨ i' = 2 ∨ i' = 3 ∨ i' = 4 := by omega
    rcases this with rfl | rfl | rfl | rfl | rfl
    · exact fun y => by have := c0.2 y; omega
    · exact fun y => by have := c1.2 y; omega
    · exact fun y => by have := c2.2 y; omega
    · exact fun y => by have := c3.2 y; omega
    · exact fun y => by have := c4.2 y; omega
  rw [if_pos z5]
  refine ⟨-1, rfl, Or.inl ⟨rfl, fun W hW => ?_⟩⟩
  simp only [List.mem_cons, List.not_mem_nil, or_false] at hW
  rcases hW with rfl | rfl | rfl | rfl | rfl | rfl
  · exact fun y => by have := c0.2 y; omega
  · exact fun y => by have := c1.2 y; omega
  · exact fun y => by have := c2.2 y; omega
  · exact fun y => by have := c3.2 y; omega
  · exact fun y => by have := c4.2 y; omega
  · exact fun y => by have := c5.2 y; omega
end
