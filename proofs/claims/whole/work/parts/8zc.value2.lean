/-! a value, in both -/
abbrev str0 : List Int := [112, 97, 116, 104, 32, 103, 114, 111, 117, 110, 100, 32, 115, 107, 121, 32, 104, 97, 114, 109, 32, 101, 121, 101, 115]
abbrev str6 : List Int := [111, 110, 32, 97, 116, 32, 115, 117, 114, 101, 32, 103, 114, 111, 117, 110, 100, 32, 115, 107, 121, 32, 108, 111, 117, 100, 32, 115, 116, 101, 112, 115, 32, 109, 97, 116, 99, 104, 101, 115, 32, 101, 121, 101, 115, 32, 112, 97, 116, 104]
theorem ss_i {s : Int} {cs : List Int} (h : z_strs.getD s.toNat [] = cs) (h1 : cs.length ≤ 1000) (h2 : ∀ c ∈ cs, 0 ≤ c ∧ c ≤ 122) : SS s cs := ⟨h, by omega, h2⟩
theorem ss0 : SS 0 str0 := ss_i rfl (by decide) (by decide)
theorem ss6 : SS 6 str6 := ss_i rfl (by decide) (by decide)
theorem ly0 : LY str0 0 lawW := ⟨by decide, by decide, by decide, by decide, by decide, by decide, by decide, by decide, by decide, by decide, rfl⟩
theorem ly6 : LY str6 0 rulW := ⟨by decide, by decide, by decide, by decide, by decide, by decide, by decide, by decide, by decide, by decide, by decide, by decide, by decide, by decide, by decide, by decide, by decide, by decide, by decide, by decide, rfl⟩
theorem okWs_i {ws : List (List Int)} (h : ∀ W ∈ ws, 1 ≤ W.length ∧ ∀ c ∈ W, 97 ≤ c ∧ c ≤ 122) : okWs ws := fun W hW => ⟨(h W hW).1, fun _ hj => (h W hW).2 _ (getD_mem hj)⟩
theorem ok0 : okWs lawW := okWs_i (by decide)
theorem ok6 : okWs rulW := okWs_i (by decide)
/-- which words are values: of a law's text, of a rule's -/
def vS (t sid nW : Int) : Prop := (t < 6 ∧ sid = 0 ∧ nW = 5) ∨ (6 ≤ t ∧ sid = 6 ∧ nW = 10)
section
variable {d d' : Nat} {T : Int → Int} {n ci t pend : Int} {L : List tok} {wc wm : zW}
theorem WI_bd {q k r : Int} {ws : List (List Int)} (h : WI T n q ws k r) (hW : okWs ws) : r = -1 ∨ (k ≤ r ∧ r < k + ws.length ∧ q < n ∧ let' (T q)) := by
  rcases h with ⟨a1, a2⟩ | ⟨i, a1, a2, a3, a4⟩
  · exact Or.inl a1
  · have hm : ws.getD i [] ∈ ws := by
      rw [List.getD_eq_getElem?_getD, List.getElem?_eq_getElem a1]
      exact List.getElem_mem a1
    have h1 := (hW _ hm).1
    have h2 := a3.1.2.1 q (Int.le_refl _) (by omega)
    exact Or.inr ⟨by omega, by omega, h2⟩
theorem j_vword {sid nW : Int} (hv : vS t sid nW) (h7 : wc 5 0 7 = sid) (h : JR T n wc wm) (h18 : wm 11 0 18 = wc 5 0 4) (ht : wm 11 0 21 = t) : ∃ r, Reader_wordIn (d + 2) (wc 5 0 7) wc = some (r, wc) ∧ M_wordHere (d' + 2) wm = some (r, wm) ∧ (r = -1 ∨ (0 ≤ r ∧ r < nW ∧ wc 5 0 4 < n ∧ let' (T (wc 5 0 4)))) := by
  rcases hv with ⟨v1, v2, v3⟩ | ⟨v1, v2, v3⟩
  · obtain ⟨r, r1, r2⟩ := s_wordIn (d := d) h.1 ss0 ly0 ok0 (by decide)
    obtain ⟨r', q1, q2⟩ := j_wordL (d := d') h h18 (by omega)
    have := WI_u (Int.le_refl 0) q2 r2
    subst this
    have hb := WI_bd r2 ok0
    refine ⟨r', by rw [h7, v2]; exact r1, q1, ?_⟩
    rcases hb with z | z
    · exact Or.inl z
    · have hl : ((lawW.length : Nat) : Int) = 5 := rfl
      exact Or.inr ⟨z.1, by omega, z.2.2⟩
  · obtain ⟨r, r1, r2⟩ := s_wordIn (d := d) h.1 ss6 ly6 ok6 (by decide)
    obtain ⟨r', q1, q2⟩ := j_wordR (d := d') h h18 (by omega)
    have := WI_u (Int.le_refl 0) q2 r2
    subst this
    have hb := WI_bd r2 ok6
    refine ⟨r', by rw [h7, v2]; exact r1, q1, ?_⟩
    rcases hb with z | z
    · exact Or.inl z
    · have hl : ((rulW.length : Nat) : Int) = 10 := rfl
      exact Or.inr ⟨z.1, by omega, z.2.2⟩
end
