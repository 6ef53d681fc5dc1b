def oW (u : zW) (t p P c ln : Int) : zW := z_up (z_up (z_up u 11 0 22 P) 50 0 p c) 51 0 t (ln + 1)
section
variable {d d' : Nat} {T : Int → Int} {n ci t bc bm pend : Int} {L : List tok} {wc wm : zW}
theorem up_eqc {w w' : zW} {c : Nat} {s v : Int} (h : w c = w' c) : (z_up w c 0 s v) c = (z_up w' c 0 s v) c := by
  funext y z
  unfold z_up
  by_cases q : c = c ∧ z = s ∧ y = 0
  · rw [if_pos q, if_pos q]
  · rw [if_neg q, if_neg q, h]
theorem oW_f {a b : Int} {u : zW} {g : Nat} (h : JC T n ci t bc bm L pend wc wm) (hp : 0 ≤ pend) (ha : 0 ≤ a ∧ a < 16) (hb : 0 ≤ b ∧ b ≤ 99999) (hlt : wc 5 0 4 < wc 5 0 5) (fu : mF [] [18, 20] wm u) (u18 : u 11 0 18 = wc 5 0 5) :
    M_puts g a b (z_up u 11 0 22 (wc 5 0 6 + 1)) = some (0, oW u t (400 * t + (bm + L.length)) (wc 5 0 6 + 1) (a + 16 * b) (bm + L.length)) ∧ EM t wm (oW u t (400 * t + (bm + L.length)) (wc 5 0 6 + 1) (a + 16 * b) (bm + L.length)) ∧ MT T n (oW u t (400 * t + (bm + L.length)) (wc 5 0 6 + 1) (a + 16 * b) (bm + L.length)) ∧ (oW u t (400 * t + (bm + L.length)) (wc 5 0 6 + 1) (a + 16 * b) (bm + L.length)) 11 0 19 = 0 ∧ (oW u t (400 * t + (bm + L.length)) (wc 5 0 6 + 1) (a + 16 * b) (bm + L.length)) 11 0 18 = wc 5 0 5 ∧ (oW u t (400 * t + (bm + L.length)) (wc 5 0 6 + 1) (a + 16 * b) (bm + L.length)) 11 0 21 = t ∧ (oW u t (400 * t + (bm + L.length)) (wc 5 0 6 + 1) (a + 16 * b) (bm + L.length)) 11 0 22 = wc 5 0 6 + 1 ∧ (oW u t (400 * t + (bm + L.length)) (wc 5 0 6 + 1) (a + 16 * b) (bm + L.length)) 50 = (z_up wm 50 0 (400 * t + (bm + L.length)) (a + 16 * b)) 50 ∧ (oW u t (400 * t + (bm + L.length)) (wc 5 0 6 + 1) (a + 16 * b) (bm + L.length)) 51 = (z_up wm 51 0 t (bm + L.length + 1)) 51 := by
  have hC := h.1.1
  have hbh := hC.bh
  have hn := hC.1
  have ht : wm 11 0 21 = t := h.2.1.2.1
  have k4 := h.2.2.2.1.2.2.2
  have hln := h.ln hp
  have h12 := h.2.1.2.2
  have hB := h.2.2.2.2
  have e51 : (z_up u 11 0 22 (wc 5 0 6 + 1)) 51 0 t = (bm + L.length) := by rw [up_c (by decide), fu.1 51 (by decide) (by decide)]; exact k4
  have e21 : (z_up u 11 0 22 (wc 5 0 6 + 1)) 11 0 21 = t := by rw [up_s (by decide), fu.2 21 (by decide)]; exact ht
  have fu2 : mF [] [18, 19, 20, 22] wm (z_up u 11 0 22 (wc 5 0 6 + 1)) := mF_tr (mF_sub fu (by decide) (by decide)) (mF_11 (by decide))
  unfold oW
  refine ⟨m_puts e21 h12 e51 (by omega) ha hb, EM_tr (EM_m fu2) (EM_p e51 (by omega)), ?_, ?_, ?_, ?_, ?_, ?_, ?_⟩
  · obtain ⟨m1, m2, m3⟩ := h.1.2.1
    refine ⟨by rw [up_c (by decide), up_c (by decide), up_s (by decide), fu.2 1 (by decide)]; exact m1, m2, fun x x0 x1 => ?_⟩
    rw [up_c (by decide), up_c (by decide), up_c (by decide), fu.1 48 (by decide) (by decide)]
    exact m3 x x0 x1
  · rw [up_c (by decide), up_c (by decide), up_s (by decide), fu.2 19 (by decide)]; exact h.1.2.2.1
  · rw [up_c (by decide), up_c (by decide), up_s (by decide)]; exact u18
  · rw [up_c (by decide), up_c (by decide)]; exact e21
  · rw [up_c (by decide), up_c (by decide), up_h]
  · rw [upc (by decide)]
    exact up_eqc (by rw [upc (by decide)]; exact fu.1 50 (by decide) (by decide))
  · exact up_eqc (by rw [upc (by decide), upc (by decide)]; exact fu.1 51 (by decide) (by decide))
/-- how a value's reading ends -/
def VE (T : Int → Int) (n ci t bc bm : Int) (L : List tok) (pend nW : Int) (wc wc' : zW) (rm : Int) (wm' : zW) : Prop := (rm = 1 ∧ wc 5 0 4 < wc' 5 0 4 ∧ wc' 5 0 6 = wc 5 0 6 + 1 ∧ ∃ x : tok, (x.1 = 0 ∨ x.1 = 1) ∧ tokOK nW x ∧ JC T n ci t bc bm (L ++ [x]) pend wc' wm') ∨ (rm = 0 ∧ ∃ f, FS ci f 62 wc' ∧ wm' 11 0 19 = f)
/-- the making and the putting, in both -/
theorem j_made {a b k nW : Int} {u : zW} {g : Nat} (h : JC T n ci t bc bm L pend wc wm) (hp : 0 ≤ pend) (hcl : cl (a, b) = [(k, b)]) (ha : a = 0 ∨ a = 1) (hx : tokOK nW (a, b)) (hk : 0 ≤ k ∧ k < 256) (hb : 0 ≤ b ∧ b ≤ 99999) (hlt : wc 5 0 4 < wc 5 0 5) (fu : mF [] [18, 20] wm u) :
    ∃ wc' rm, ((Clauses_add (d + 2) ci k b wc).bind fun r2 => (Reader_countPart (d + 2) r2.2).bind fun r3 => (Reader_next (d + 2) r3.2).bind fun r4 => some ((0 : Int), r4.2)) = some (0, wc') ∧ EF ci wc wc' ∧
      ((rm = 0 ∧ M_makes (g + 1) (wc 5 0 4) u = some (0, z_up u 11 0 19 (1 + 8 * wc 5 0 4 + 3)) ∧ VE T n ci t bc bm L pend nW wc wc' 0 (z_up u 11 0 19 (1 + 8 * wc 5 0 4 + 3))) ∨ (rm = 1 ∧ M_makes (g + 1) (wc 5 0 4) u = some (1, z_up u 11 0 22 (wc 5 0 6 + 1)) ∧ ∀ u' : zW, mF [] [18, 20] wm u' → u' 11 0 18 = wc 5 0 5 → ∀ g', M_puts g' a b (z_up u' 11 0 22 (wc 5 0 6 + 1)) = some (0, oW u' t (400 * t + (bm + L.length)) (wc 5 0 6 + 1) (a + 16 * b) (bm + L.length)) ∧ EM t wm (oW u' t (400 * t + (bm + L.length)) (wc 5 0 6 + 1) (a + 16 * b) (bm + L.length)) ∧ VE T n ci t bc bm L pend nW wc wc' 1 (oW u' t (400 * t + (bm + L.length)) (wc 5 0 6 + 1) (a + 16 * b) (bm + L.length)))) := by
  obtain ⟨wc', p1, p2, p3⟩ := j_oper (d := d + 1) h hp hcl hk hb hlt
  have hC := h.1.1
  have hq := hC.2.2.2.1
  have hn := hC.1
  have h22 := h.2.2.1
  have u22 : u 11 0 22 = wc 5 0 6 := by rw [fu.2 22 (by decide)]; exact h22.1
  have u19 : u 11 0 19 = 0 := by rw [fu.2 19 (by decide)]; exact h.1.2.2.1
  have hm := m_makes (d := g) (p := wc 5 0 4) u19 (by omega) (by omega)
  rw [u22] at hm
  by_cases z : wc 5 0 6 = 60
  · rw [if_pos z] at hm p3
    exact ⟨wc', 0, p1, p2, Or.inl ⟨rfl, hm, Or.inr ⟨rfl, _, FS_le p3 (by decide), up_h⟩⟩⟩
  · rw [if_neg z] at hm p3
    refine ⟨wc', 1, p1, p2, Or.inr ⟨rfl, hm, fun u' fu' u18 g' => ?_⟩⟩
    obtain ⟨o1, o2, o3, o4, o5, o6, o7, o8, o9⟩ := oW_f (a := a) (b := b) (g := g') h hp (by omega) hb hlt fu' u18
    have hJ := p3 _ o3 o4 o5 o6 o7 o8 o9
    refine ⟨o1, o2, Or.inl ⟨rfl, ?_, ?_, (a, b), ha, hx, hJ⟩⟩
    · have := hJ.1.2.2.2.2.1
      rw [o5] at this
      omega
    · have := hJ.2.2.1.1
      rw [o7] at this
      exact this.symm
end
