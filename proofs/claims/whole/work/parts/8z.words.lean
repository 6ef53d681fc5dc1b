theorem WI_u {T : Int → Int} {n q k r r' : Int} {ws : List (List Int)} (hk : 0 ≤ k) (h : WI T n q ws k r) (h' : WI T n q ws k r') : r = r' := by
  have mem : ∀ i : Nat, i < ws.length → ws.getD i [] ∈ ws := fun i hi => by
    rw [List.getD_eq_getElem?_getD, List.getElem?_eq_getElem hi]
    exact List.getElem_mem hi
  rcases h with ⟨a1, a2⟩ | ⟨i, a1, a2, a3, a4⟩ <;> rcases h' with ⟨b1, b2⟩ | ⟨i', b1, b2, b3, b4⟩
  · omega
  · exact absurd b3 (a2 _ (mem i' b1))
  · exact absurd a3 (b2 _ (mem i a1))
  · rcases Nat.lt_trichotomy i i' with z | z | z
    · exact absurd a3 (b4 i z)
    · omega
    · exact absurd b3 (a4 i' z)
section
variable {d : Nat} {wc wm : zW} {T : Int → Int} {n : Int}
theorem m_passWord_1 {w : zW} {b : Int} (hT : MT T n w) (hbn : b ≤ n) : ∀ (m : Nat) (p : Int), 0 ≤ p → p + m = b → rnR let' T n p b → M_passWord_1 (d + 1) (z_up w 11 0 18 p) = some (0, z_up w 11 0 18 b) := by
  intro m
  induction m with
  | zero =>
    intro p p0 hp hb
    have hpb : p = b := by omega
    subst hpb
    have hl := m_isLetter (d := d) (p := p) (MT_p (v := p) hT) p0
    have hno : ¬ (p < n ∧ let' (T p)) := fun z => by
      rcases hb.2.2 with y | y
      · omega
      · exact y z.2
    rw [if_neg hno] at hl
    rw [e_M_passWord_1, up_h, hl, bnd, if_pos rfl]
  | succ m ih =>
    intro p p0 hp hb
    have hx := hb.2.1 p (Int.le_refl _) (by omega)
    have hl := m_isLetter (d := d) (p := p) (MT_p (v := p) hT) p0
    rw [if_pos hx] at hl
    have e18 : (z_up w 11 0 18 p) 11 0 18 = p := up_h
    have hn := hT.2.1
    rw [e_M_passWord_1, up_h, hl, bnd]
    dsimp only
    rw [if_neg (show ¬ (1 : Int) = 0 by decide)]
    simp only [e18]
    rw [gd_t (by omega), up_2]
    exact ih (p + 1) (by omega) (by omega) ⟨by omega, fun x x0 x1 => hb.2.1 x (by omega) x1, hb.2.2⟩
theorem m_passWord {w : zW} {q b : Int} (hT : MT T n w) (h18 : w 11 0 18 = q) (hq : 0 ≤ q ∧ q ≤ n) (hb : rnR let' T n q b) : M_passWord (d + 1) w = some (0, z_up w 11 0 18 b) := by
  have h := m_passWord_1 (d := d) hT (rn_n hq.2 hb) (b - q).toNat q hq.1 (by have := hb.1; omega) hb
  rw [← h18, up_self] at h
  rw [e_M_passWord]
  exact h
/-- a word at the place, in the model -/
theorem j_isWord {code : Int} {W : List Int} (hW : okW W) (hc : cdW W = code) (h : JR T n wc wm) : ∃ r, M_isWord (d + 1) code wm = some (r, z_up wm 11 0 18 (wc 5 0 4)) ∧ (r = 0 ∨ r = 1) ∧ (r = 1 ↔ WD T n (wc 5 0 4) W) := by
  obtain ⟨q, r, q1, q2, q3, q4, q5⟩ := m_isWord (d := d) hW hc h.2.1 h.2.2.2.1
  have hq := rn_u q1 h.2.2.2.2
  subst hq
  exact ⟨r, q3, q4, q5⟩
theorem okW_i {W : List Int} (h1 : 1 ≤ W.length) (h2 : W.length ≤ 7) (h3 : ∀ c ∈ W, 97 ≤ c ∧ c ≤ 122) : okW W := ⟨h1, h2, fun j hj => h3 _ (getD_mem hj)⟩
abbrev lawW : List (List Int) := [[112, 97, 116, 104], [103, 114, 111, 117, 110, 100], [115, 107, 121], [104, 97, 114, 109], [101, 121, 101, 115]]
abbrev rulW : List (List Int) := [[111, 110], [97, 116], [115, 117, 114, 101], [103, 114, 111, 117, 110, 100], [115, 107, 121], [108, 111, 117, 100], [115, 116, 101, 112, 115], [109, 97, 116, 99, 104, 101, 115], [101, 121, 101, 115], [112, 97, 116, 104]]
theorem j_wordL (h : JR T n wc wm) (h18 : wm 11 0 18 = wc 5 0 4) (ht : ¬ 6 ≤ wm 11 0 21) : ∃ r, M_wordHere (d + 2) wm = some (r, wm) ∧ WI T n (wc 5 0 4) lawW 0 r := by
  have e0 : z_up wm 11 0 18 (wc 5 0 4) = wm := by rw [← h18, up_self]
  obtain ⟨r0, a0, b0, c0⟩ := j_isWord (d := d) (code := 1885434984) (W := [112, 97, 116, 104]) (okW_i (by decide) (by decide) (by decide)) (by decide +kernel) h
  rw [e0] at a0
  obtain ⟨r1, a1, b1, c1⟩ := j_isWord (d := d) (code := 113741193899620) (W := [103, 114, 111, 117, 110, 100]) (okW_i (by decide) (by decide) (by decide)) (by decide +kernel) h
  rw [e0] at a1
  obtain ⟨r2, a2, b2, c2⟩ := j_isWord (d := d) (code := 7564153) (W := [115, 107, 121]) (okW_i (by decide) (by decide) (by decide)) (by decide +kernel) h
  rw [e0] at a2
  obtain ⟨r3, a3, b3, c3⟩ := j_isWord (d := d) (code := 1751216749) (W := [104, 97, 114, 109]) (okW_i (by decide) (by decide) (by decide)) (by decide +kernel) h
  rw [e0] at a3
  obtain ⟨r4, a4, b4, c4⟩ := j_isWord (d := d) (code := 1702454643) (W := [101, 121, 101, 115]) (okW_i (by decide) (by decide) (by decide)) (by decide +kernel) h
  rw [e0] at a4
  rw [e_M_wordHere, if_neg ht]
  rw [a0, bnd]
  dsimp only
  by_cases z0 : r0 = 0
  case neg =>
    rw [if_neg z0]
    refine ⟨0, rfl, Or.inr ⟨0, by decide, rfl, c0.1 (by omega), fun i' hi' => ?_⟩⟩
    exact absurd hi' (by omega)
  rw [if_pos z0]
  rw [a1, bnd]
  dsimp only
  by_cases z1 : r1 = 0
  case neg =>
    rw [if_neg z1]
    refine ⟨1, rfl, Or.inr ⟨1, by decide, rfl, c1.1 (by omega), fun i' hi' => ?_⟩⟩
    have : i' = 0 := by omega
    subst this
    exact fun y => by have := c0.2 y; omega
  rw [if_pos z1]
  rw [a2, bnd]
  dsimp only
  by_cases z2 : r2 = 0
  case neg =>
    rw [if_neg z2]
    refine ⟨2, rfl, Or.inr ⟨2, by decide, rfl, c2.1 (by omega), fun i' hi' => ?_⟩⟩
    have : i' = 0 ∨ i' = 1 := by omega
    rcases this with rfl | rfl
    · exact fun y => by have := c0.2 y; omega
    · exact fun y => by have := c1.2 y; omega
  rw [if_pos z2]
  rw [a3, bnd]
  dsimp only
  by_cases z3 : r3 = 0
  case neg =>
    rw [if_neg z3]
    refine ⟨3, rfl, Or.inr ⟨3, by decide, rfl, c3.1 (by omega), fun i' hi' => ?_⟩⟩
    have : i' = 0 ∨ i' = 1 ∨ i' = 2 := by omega
    rcases this with rfl | rfl | rfl
    · exact fun y => by have := c0.2 y; omega
    · exact fun y => by have := c1.2 y; omega
    · exact fun y => by have := c2.2 y; omega
  rw [if_pos z3]
  rw [a4, bnd]
  dsimp only
  by_cases z4 : r4 = 0
  case neg =>
    rw [if_neg z4]
    refine ⟨4, rfl, Or.inr ⟨4, by decide, rfl, c4.1 (by omega), fun i' hi' => ?_⟩⟩
    have : i' = 0 ∨ i' = 1 ∨ i' = 2 ∨ i' = 3 := by omega
    rcases this with rfl | rfl | rfl | rfl
    · exact fun y => by have := c0.2 y; omega
    · exact fun y => by have := c1.2 y; omega
    · exact fun y => by have := c2.2 y; omega
    · exact fun y => by have := c3.2 y; omega
  rw [if_pos z4]
  refine ⟨-1, rfl, Or.inl ⟨rfl, fun W hW => ?_⟩⟩
  simp only [List.mem_cons, List.not_mem_nil, or_false] at hW
  rcases hW with rfl | rfl | rfl | rfl | rfl
  · exact fun y => by have := c0.2 y; omega
  · exact fun y => by have := c1.2 y; omega
  · exact fun y => by have := c2.2 y; omega
  · exact fun y => by have := c3.2 y; omega
  · exact fun y => by have := c4.2 y; omega
theorem j_wordR (h : JR T n wc wm) (h18 : wm 11 0 18 = wc 5 0 4) (ht : 6 ≤ wm 11 0 21) : ∃ r, M_wordHere (d + 2) wm = some (r, wm) ∧ WI T n (wc 5 0 4) rulW 0 r := by
  have e0 : z_up wm 11 0 18 (wc 5 0 4) = wm := by rw [← h18, up_self]
  obtain ⟨r0, a0, b0, c0⟩ := j_isWord (d := d) (code := 28526) (W := [111, 110]) (okW_i (by decide) (by decide) (by decide)) (by decide +kernel) h
  rw [e0] at a0
  obtain ⟨r1, a1, b1, c1⟩ := j_isWord (d := d) (code := 24948) (W := [97, 116]) (okW_i (by decide) (by decide) (by decide)) (by decide +kernel) h
  rw [e0] at a1
  obtain ⟨r2, a2, b2, c2⟩ := j_isWord (d := d) (code := 1937076837) (W := [115, 117, 114, 101]) (okW_i (by decide) (by decide) (by decide)) (by decide +kernel) h
  rw [e0] at a2
  obtain ⟨r3, a3, b3, c3⟩ := j_isWord (d := d) (code := 113741193899620) (W := [103, 114, 111, 117, 110, 100]) (okW_i (by decide) (by decide) (by decide)) (by decide +kernel) h
  rw [e0] at a3
  obtain ⟨r4, a4, b4, c4⟩ := j_isWord (d := d) (code := 7564153) (W := [115, 107, 121]) (okW_i (by decide) (by decide) (by decide)) (by decide +kernel) h
  rw [e0] at a4
  obtain ⟨r5, a5, b5, c5⟩ := j_isWord (d := d) (code := 1819243876) (W := [108, 111, 117, 100]) (okW_i (by decide) (by decide) (by decide)) (by decide +kernel) h
  rw [e0] at a5
  obtain ⟨r6, a6, b6, c6⟩ := j_isWord (d := d) (code := 495874044019) (W := [115, 116, 101, 112, 115]) (okW_i (by decide) (by decide) (by decide)) (by decide +kernel) h
  rw [e0] at a6
  obtain ⟨r7, a7, b7, c7⟩ := j_isWord (d := d) (code := 30787924973348211) (W := [109, 97, 116, 99, 104, 101, 115]) (okW_i (by decide) (by decide) (by decide)) (by decide +kernel) h
  rw [e0] at a7
  obtain ⟨r8, a8, b8, c8⟩ := j_isWord (d := d) (code := 1702454643) (W := [101, 121, 101, 115]) (okW_i (by decide) (by decide) (by decide)) (by decide +kernel) h
  rw [e0] at a8
  obtain ⟨r9, a9, b9, c9⟩ := j_isWord (d := d) (code := 1885434984) (W := [112, 97, 116, 104]) (okW_i (by decide) (by decide) (by decide)) (by decide +kernel) h
  rw [e0] at a9
  rw [e_M_wordHere, if_pos ht]
  rw [a0, bnd]
  dsimp only
  by_cases z0 : r0 = 0
  case neg =>
    rw [if_neg z0]
    refine ⟨0, rfl, Or.inr ⟨0, by decide, rfl, c0.1 (by omega), fun i' hi' => ?_⟩⟩
    exact absurd hi' (by omega)
  rw [if_pos z0]
  rw [a1, bnd]
  dsimp only
  by_cases z1 : r1 = 0
  case neg =>
    rw [if_neg z1]
    refine ⟨1, rfl, Or.inr ⟨1, by decide, rfl, c1.1 (by omega), fun i' hi' => ?_⟩⟩
    have : i' = 0 := by omega
    subst this
    exact fun y => by have := c0.2 y; omega
  rw [if_pos z1]
  rw [a2, bnd]
  dsimp only
  by_cases z2 : r2 = 0
  case neg =>
    rw [if_neg z2]
    refine ⟨2, rfl, Or.inr ⟨2, by decide, rfl, c2.1 (by omega), fun i' hi' => ?_⟩⟩
    have : i' = 0 ∨ i' = 1 := by omega
    rcases this with rfl | rfl
    · exact fun y => by have := c0.2 y; omega
    · exact fun y => by have := c1.2 y; omega
  rw [if_pos z2]
  rw [a3, bnd]
  dsimp only
  by_cases z3 : r3 = 0
  case neg =>
    rw [if_neg z3]
    refine ⟨3, rfl, Or.inr ⟨3, by decide, rfl, c3.1 (by omega), fun i' hi' => ?_⟩⟩
    have : i' = 0 ∨ i' = 1 ∨ i' = 2 := by omega
    rcases this with rfl | rfl | rfl
    · exact fun y => by have := c0.2 y; omega
    · exact fun y => by have := c1.2 y; omega
    · exact fun y => by have := c2.2 y; omega
  rw [if_pos z3]
  rw [a4, bnd]
  dsimp only
  by_cases z4 : r4 = 0
  case neg =>
    rw [if_neg z4]
    refine ⟨4, rfl, Or.inr ⟨4, by decide, rfl, c4.1 (by omega), fun i' hi' => ?_⟩⟩
    have : i' = 0 ∨ i' = 1 ∨ i' = 2 ∨ i' = 3 := by omega
    rcases this with rfl | rfl | rfl | rfl
    · exact fun y => by have := c0.2 y; omega
    · exact fun y => by have := c1.2 y; omega
    · exact fun y => by have := c2.2 y; omega
    · exact fun y => by have := c3.2 y; omega
  rw [if_pos z4]
  rw [a5, bnd]
  dsimp only
  by_cases z5 : r5 = 0
  case neg =>
    rw [if_neg z5]
    refine ⟨5, rfl, Or.inr ⟨5, by decide, rfl, c5.1 (by omega), fun i' hi' => ?_⟩⟩
    have : i' = 0 ∨ i' = 1 ∨ i' = 2 ∨ i' = 3 ∨ i' = 4 := by omega
    rcases this with rfl | rfl | rfl | rfl | rfl
    · exact fun y => by have := c0.2 y; omega
    · exact fun y => by have := c1.2 y; omega
    · exact fun y => by have := c2.2 y; omega
    · exact fun y => by have := c3.2 y; omega
    · exact fun y => by have := c4.2 y; omega
  rw [if_pos z5]
  rw [a6, bnd]
  dsimp only
  by_cases z6 : r6 = 0
  case neg =>
    rw [if_neg z6]
    refine ⟨6, rfl, Or.inr ⟨6, by decide, rfl, c6.1 (by omega), fun i' hi' => ?_⟩⟩
    have : i' = 0 ∨ i' = 1 ∨ i' = 2 ∨ i' = 3 ∨ i' = 4 ∨ i' = 5 := by omega
    rcases this with rfl | rfl | rfl | rfl | rfl | rfl
    · exact fun y => by have := c0.2 y; omega
    · exact fun y => by have := c1.2 y; omega
    · exact fun y => by have := c2.2 y; omega
    · exact fun y => by have := c3.2 y; omega
    · exact fun y => by have := c4.2 y; omega
    · exact fun y => by have := c5.2 y; omega
  rw [if_pos z6]
  rw [a7, bnd]
  dsimp only
  by_cases z7 : r7 = 0
  case neg =>
    rw [if_neg z7]
    refine ⟨7, rfl, Or.inr ⟨7, by decide, rfl, c7.1 (by omega), fun i' hi' => ?_⟩⟩
    have : i' = 0 ∨ i' = 1 ∨ i' = 2 ∨ i' = 3 ∨ i' = 4 ∨ i' = 5 ∨ i' = 6 := by omega
    rcases this with rfl | rfl | rfl | rfl | rfl | rfl | rfl
    · exact fun y => by have := c0.2 y; omega
    · exact fun y => by have := c1.2 y; omega
    · exact fun y => by have := c2.2 y; omega
    · exact fun y => by have := c3.2 y; omega
    · exact fun y => by have := c4.2 y; omega
    · exact fun y => by have := c5.2 y; omega
    · exact fun y => by have := c6.2 y; omega
  rw [if_pos z7]
  rw [a8, bnd]
  dsimp only
  by_cases z8 : r8 = 0
  case neg =>
    rw [if_neg z8]
    refine ⟨8, rfl, Or.inr ⟨8, by decide, rfl, c8.1 (by omega), fun i' hi' => ?_⟩⟩
    have : i' = 0 ∨ i' = 1 ∨ i' = 2 ∨ i' = 3 ∨ i' = 4 ∨ i' = 5 ∨ i' = 6 ∨ i' = 7 := by omega
    rcases this with rfl | rfl | rfl | rfl | rfl | rfl | rfl | rfl
    · exact fun y => by have := c0.2 y; omega
    · exact fun y => by have := c1.2 y; omega
    · exact fun y => by have := c2.2 y; omega
    · exact fun y => by have := c3.2 y; omega
    · exact fun y => by have := c4.2 y; omega
    · exact fun y => by have := c5.2 y; omega
    · exact fun y => by have := c6.2 y; omega
    · exact fun y => by have := c7.2 y; omega
  rw [if_pos z8]
  rw [a9, bnd]
  dsimp only
  by_cases z9 : r9 = 0
  case neg =>
    rw [if_neg z9]
    refine ⟨9, rfl, Or.inr ⟨9, by decide, rfl, c9.1 (by omega), fun i' hi' => ?_⟩⟩
    have : i' = 0 ∨ i' = 1 ∨ i' = 2 ∨ i' = 3 ∨ i' = 4 ∨ i' = 5 ∨ i' = 6 ∨ i' = 7 ∨ i' = 8 := by omega
    rcases this with rfl | rfl | rfl | rfl | rfl | rfl | rfl | rfl | rfl
    · exact fun y => by have := c0.2 y; omega
    · exact fun y => by have := c1.2 y; omega
    · exact fun y => by have := c2.2 y; omega
    · exact fun y => by have := c3.2 y; omega
    · exact fun y => by have := c4.2 y; omega
    · exact fun y => by have := c5.2 y; omega
    · exact fun y => by have := c6.2 y; omega
    · exact fun y => by have := c7.2 y; omega
    · exact fun y => by have := c8.2 y; omega
  rw [if_pos z9]
  refine ⟨-1, rfl, Or.inl ⟨rfl, fun W hW => ?_⟩⟩
  simp only [List.mem_cons, List.not_mem_nil, or_false] at hW
  rcases hW with rfl | rfl | rfl | rfl | rfl | rfl | rfl | rfl | rfl | rfl
  · exact fun y => by have := c0.2 y; omega
  · exact fun y => by have := c1.2 y; omega
  · exact fun y => by have := c2.2 y; omega
  · exact fun y => by have := c3.2 y; omega
  · exact fun y => by have := c4.2 y; omega
  · exact fun y => by have := c5.2 y; omega
  · exact fun y => by have := c6.2 y; omega
  · exact fun y => by have := c7.2 y; omega
  · exact fun y => by have := c8.2 y; omega
  · exact fun y => by have := c9.2 y; omega
end
