section
variable {d d' : Nat} {T : Int → Int} {n ci t : Int}
theorem readRule_body {told : Int} {wc : zW} (h : told ≤ 12) : Reader_readRule_1 (d + 27) 1 told wc = RBody (d + 26) told (fun w => (Reader_goesOn (d + 26) w).bind fun r => gd (inI (told + 1)) (Reader_readRule_1 (d + 27) r.1 (told + 1) r.2)) wc := by
  rw [e_Reader_readRule_1, if_neg (by decide), if_neg (by omega)]
  rfl
/-- the loop over a rule's clauses -/
theorem r_loop (ht : 6 ≤ t ∧ t < 12) : ∀ (m : Nat) (Cs : List clau) (wc wm : zW) (told : Int), 12 - told < m → RU T n ci t Cs wc wm → told = Cs.length → told ≤ 12 → wm 11 0 24 = told →
    ∃ wc' wm', Reader_readRule_1 (d + 27) 1 told wc = some (0, wc') ∧ (∀ l1, TX (d' + 11) l1 wm = M_text_17 (d' + 12) l1 wm') ∧ XF ci wc wc' ∧ YL t wm wm' ∧ ((∃ Cs', Cs'.length ≤ 12 ∧ RU T n ci t Cs' wc' wm') ∨ ∃ f, CF f wc' ∧ wm' 11 0 19 = f) := by
  intro m
  induction m with
  | zero =>
    intro Cs wc wm told hm _ _ h12
    omega
  | succ m ih =>
    intro Cs wc wm told hm h hto h12 h24
    obtain ⟨w1, rm, v1, p1, p2, p3, p4, p5⟩ := r_clause (d := d) (d' := d') h ht hto h12 h24
    rw [readRule_body h12, p1]
    have hTX : ∀ l1, TX (d' + 11) l1 wm = M_text_11 (d' + 12) l1 rm v1 := fun l1 => by
      unfold TX
      rw [p2, bnd]
    rcases p5 with ⟨y1, y2, y3, C, y4⟩ | ⟨y1, f, y2, y3⟩
    · rw [y1] at hTX
      have hl : ((Cs ++ [C]).length : Int) = Cs.length + 1 := by rw [List.length_append]; rfl
      have y4' := y4
      obtain ⟨⟨bc, bm, hJ⟩, hPC, hPM, hcl, ⟨hk, hkm⟩, h7, ha⟩ := y4
      obtain ⟨r, w2, q1, q2, q3⟩ := j_goes (d := d + 25) (d' := d' + 11) hJ.1
      rw [q1, bnd]
      dsimp only
      rw [gd_t (by omega)]
      rcases q3 with ⟨k1, v2, k2, k3, k4, k5, k6, k7⟩ | ⟨k1, k2, v2, k3, k4, k5⟩ | ⟨k1, f, v2, k2, k3, k4, k5⟩
      · have e1 : w2 1 = w1 1 := k6.1 1 (by decide)
        have hx : XF ci w1 w2 := q2.x
        have hy : YL t v1 v2 := YF_m (mF_sub k3 (by decide) (by decide))
        have e53 : v2 53 = v1 53 := k3.1 53 (by decide) (by decide)
        have hRU : RU T n ci t (Cs ++ [C]) w2 v2 := by
          refine ⟨⟨bc, bm, k4, k5 _ _ _ _ _ _ _ (Int.le_refl 0) (JK_g hJ.2 k3 (by decide) (by decide) (by decide) (by decide))⟩, PC_X hx (by omega) hPC, PM_Y hy (by omega) hPM, hcl, ⟨by rw [e1]; exact hk, by rw [e53]; exact hkm⟩, ?_, ha⟩
          rw [k6.2 7 (by decide) (by decide) (by decide)]; exact h7
        obtain ⟨w3, v3, t1, t2, t3, t4, t5⟩ := ih (Cs ++ [C]) w2 v2 (told + 1) (by omega) hRU (by omega) (by omega) (by rw [k3.2 24 (by decide)]; exact y3)
        rw [k1]
        exact ⟨w3, v3, t1, fun l1 => by rw [hTX, k2]; exact t2 l1, XF_tr p3 (XF_tr hx t3), YF_tr p4 (YF_tr hy t4), t5⟩
      · rw [k1, k2]
        have hy : YL t v1 v2 := YF_m (mF_sub k4 (by decide) (by decide))
        have e53 : v2 53 = v1 53 := k4.1 53 (by decide) (by decide)
        refine ⟨w1, v2, by rw [e_Reader_readRule_1, if_pos rfl], fun l1 => by rw [hTX, k3], p3, YF_tr p4 hy, Or.inl ⟨Cs ++ [C], by omega, ⟨bc, bm, k5, JK_g hJ.2 k4 (by decide) (by decide) (by decide) (by decide)⟩, hPC, PM_Y hy (by omega) hPM, hcl, ⟨hk, by rw [e53]; exact hkm⟩, h7, ha⟩⟩
      · rw [k1]
        exact ⟨w2, v2, by rw [e_Reader_readRule_1, if_pos rfl], fun l1 => by rw [hTX, k3], XF_tr p3 q2.x, YF_tr p4 (YF_m (mF_sub k4 (by decide) (by decide))), Or.inr ⟨f, k2, k5⟩⟩
    · rw [y1] at hTX
      obtain ⟨w2, q1, q2, q3⟩ := F_goes (d := d + 25) y2
      rw [q1, bnd]
      dsimp only
      rw [gd_t (by omega)]
      exact ⟨w2, v1, by rw [e_Reader_readRule_1, if_pos rfl], fun l1 => by rw [hTX, text11_0], XF_tr p3 q2.x, p4, Or.inr ⟨f, q3, y3⟩⟩
/-- the class's start -/
theorem s_start {w : zW} (hT : RT w) : ∃ w', Reader_start (d + 1) w = some (0, w') ∧ z_fr [5] w w' ∧ (∀ s, (s = 1 ∨ 6 < s) → w' 5 0 s = w 5 0 s) ∧ w' 5 0 6 = 0 ∧ ∀ v : zW, MT (w 20 0) (w 5 0 1) v → v 11 0 19 = 0 → v 11 0 18 = 0 → JR (w 20 0) (w 5 0 1) w' v := by
  obtain ⟨t1, t2, t3⟩ := hT
  have e : ∀ s, s ≠ 2 → s ≠ 5 → s ≠ 6 → (z_up (z_up (z_up w 5 0 2 0) 5 0 5 0) 5 0 6 0) 5 0 s = w 5 0 s := fun s a b c => by rw [up_s c, up_s b, up_s a]
  have e2 : (z_up (z_up (z_up w 5 0 2 0) 5 0 5 0) 5 0 6 0) 5 0 2 = 0 := by rw [up_s (by decide), up_s (by decide), up_h]
  have e5 : (z_up (z_up (z_up w 5 0 2 0) 5 0 5 0) 5 0 6 0) 5 0 5 = 0 := by rw [up_s (by decide), up_h]
  have e6 : (z_up (z_up (z_up w 5 0 2 0) 5 0 5 0) 5 0 6 0) 5 0 6 = 0 := up_h
  have e20 : (z_up (z_up (z_up w 5 0 2 0) 5 0 5 0) 5 0 6 0) 20 0 = w 20 0 := by funext y; rw [up_c (by decide), up_c (by decide), up_c (by decide)]
  have ef : z_fr [5] w (z_up (z_up (z_up w 5 0 2 0) 5 0 5 0) 5 0 6 0) := fr_tr (fr_tr (fr_up (by decide)) (fr_up (by decide))) (fr_up (by decide))
  have hrun : Reader_start (d + 1) w = (Reader_next d (z_up (z_up (z_up w 5 0 2 0) 5 0 5 0) 5 0 6 0)).bind fun r1 => some (0, r1.2) := by rw [e_Reader_start]
  generalize z_up (z_up (z_up w 5 0 2 0) 5 0 5 0) 5 0 6 0 = w0 at *
  have e1 := e 1 (by decide) (by decide) (by decide)
  obtain ⟨w1, p1, p2, p3, p4, p5, p6⟩ := s_next (d := d) (w := w0) (by unfold TPE; omega) e2 (by omega)
  rw [e20, e1] at p3 p4
  rw [e5] at p3
  refine ⟨w1, by rw [hrun, p1, bnd], fr_tr ef p2.1, fun s hs => ?_, by rw [p2.2 6 (by decide) (by decide) (by decide)]; exact e6, fun v hv h19 h18 => ?_⟩
  · rw [p2.2 s (by omega) (by omega) (by omega)]
    exact e s (by omega) (by omega) (by omega)
  · refine ⟨⟨⟨by rw [p2.2 1 (by decide) (by decide) (by decide)]; exact e1, t1⟩, by rw [p2.1 20 (by decide)]; exact e20, by rw [p2.2 2 (by decide) (by decide) (by decide)]; exact e2, by omega, p4⟩, hv, h19, by rw [h18]; omega, by rw [h18]; exact p3⟩
/-- the class reads a rule, the model its text -/
theorem r_read {w wm : zW} (hT : RT w) (ht : 6 ≤ t ∧ t < 12) (hv : MT (w 20 0) (w 5 0 1) wm) (h21 : wm 11 0 21 = t) (h0 : wm 11 0 18 = 0 ∧ wm 11 0 19 = 0 ∧ wm 11 0 22 = 0 ∧ wm 11 0 24 = 0) (h5 : wm 51 0 t = 0 ∧ wm 53 0 t = 0) :
    ∃ wc' wm', Reader_readRule (d + 27) t w = some (0, wc') ∧ (∀ l1, TX (d' + 11) l1 wm = M_text_17 (d' + 12) l1 wm') ∧ (z_fr [1, 5, 13, 14, 15, 16] w wc' ∧ (∀ i, i ≠ t → wc' 1 i = w 1 i ∧ wc' 13 i = w 13 i ∧ wc' 14 i = w 14 i ∧ wc' 15 i = w 15 i ∧ wc' 16 i = w 16 i)) ∧ YL t wm wm' ∧ ((∃ Cs, (wc' 5 0 2 = 0 ∧ wm' 11 0 19 = 0) ∧ ClC wc' t 0 Cs ∧ ClM wm' t true 0 Cs ∧ (∀ C ∈ Cs, clT 10 C) ∧ Cs.length ≤ 12 ∧ ∀ C ∈ Cs, ∃ a, C.1 = [(0, a)] ∧ 0 ≤ a ∧ a ≤ 5) ∨ (∃ f, 0 < f ∧ f ≤ 4000 ∧ wc' 5 0 2 = f ∧ wm' 11 0 19 = f)) := by
  obtain ⟨w1, p1, p2, p3, p4, p5⟩ := s_start (d := d + 25) hT
  have hJR := p5 wm hv h0.2.1 h0.1
  have hc : Clauses_clear (d + 26) t w1 = some (0, z_up (z_up w1 1 t 5 0) 1 t 6 0) := by rw [e_Clauses_clear]
  have fr : z_fr [1, 5] w1 (z_up (z_up (z_up (z_up w1 1 t 5 0) 1 t 6 0) 5 0 8 t) 5 0 7 6) := fr_tr (fr_tr (fr_tr (fr_up (by decide)) (fr_up (by decide))) (fr_up (by decide))) (fr_up (by decide))
  have e5 : ∀ s, s ≠ 7 → s ≠ 8 → (z_up (z_up (z_up (z_up w1 1 t 5 0) 1 t 6 0) 5 0 8 t) 5 0 7 6) 5 0 s = w1 5 0 s := fun s a b => by rw [up_s a, up_s b, up_c (by decide), up_c (by decide)]
  have e8 : (z_up (z_up (z_up (z_up w1 1 t 5 0) 1 t 6 0) 5 0 8 t) 5 0 7 6) 5 0 8 = t := by rw [up_s (by decide), up_h]
  have e7 : (z_up (z_up (z_up (z_up w1 1 t 5 0) 1 t 6 0) 5 0 8 t) 5 0 7 6) 5 0 7 = 6 := up_h
  have e15 : (z_up (z_up (z_up (z_up w1 1 t 5 0) 1 t 6 0) 5 0 8 t) 5 0 7 6) 1 t 5 = 0 := by rw [up_c (by decide), up_c (by decide), up_s (by decide), up_h]
  have e16 : (z_up (z_up (z_up (z_up w1 1 t 5 0) 1 t 6 0) 5 0 8 t) 5 0 7 6) 1 t 6 = 0 := by rw [up_c (by decide), up_c (by decide), up_h]
  have e1i : ∀ i, i ≠ t → (z_up (z_up (z_up (z_up w1 1 t 5 0) 1 t 6 0) 5 0 8 t) 5 0 7 6) 1 i = w1 1 i := fun i hi => by
    funext s
    rw [up_c (by decide), up_c (by decide), up_i hi, up_i hi]
  have hrun : Reader_readRule (d + 27) t w = Reader_readRule_1 (d + 27) 1 0 (z_up (z_up (z_up (z_up w1 1 t 5 0) 1 t 6 0) 5 0 8 t) 5 0 7 6) := by
    rw [e_Reader_readRule, p1, bnd]
    dsimp only
    rw [hc, bnd]
  generalize z_up (z_up (z_up (z_up w1 1 t 5 0) 1 t 6 0) 5 0 8 t) 5 0 7 6 = w2 at *
  have hq := hJR.1.2.2.2.1
  have hJR2 : JR (w 20 0) (w 5 0 1) w2 wm := by
    obtain ⟨⟨⟨a1, a2⟩, a3, a4, a5, a6⟩, b1, b2, b3, b4⟩ := hJR
    refine ⟨⟨⟨?_, a2⟩, ?_, ?_, ?_, ?_⟩, b1, b2, b3, ?_⟩
    · rw [e5 1 (by decide) (by decide)]; exact a1
    · rw [fr 20 (by decide)]; exact a3
    · rw [e5 2 (by decide) (by decide)]; exact a4
    · rw [e5 4 (by decide) (by decide)]; exact a5
    · rw [e5 4 (by decide) (by decide), e5 3 (by decide) (by decide), e5 5 (by decide) (by decide)]; exact a6
    · rw [e5 4 (by decide) (by decide)]; exact b4
  have hRU : RU (w 20 0) (w 5 0 1) t t [] w2 wm := by
    refine ⟨⟨0, 0, hJR2, ⟨e8, h21, by omega⟩, ⟨?_, ?_, ?_⟩, ⟨trivial, ?_, trivial, ?_⟩, ?_, by decide⟩, trivial, trivial, fun C hC => absurd hC List.not_mem_nil, ⟨e16, h5.2⟩, e7, fun C hC => absurd hC List.not_mem_nil⟩
    · rw [h0.2.2.1, e5 6 (by decide) (by decide), p4]
    · rw [e5 6 (by decide) (by decide), p4]; decide
    · rw [e5 6 (by decide) (by decide), p4]; decide
    · rw [e15]; rfl
    · rw [h5.1]; rfl
    · rw [e5 4 (by decide) (by decide)]
      show (0 : Int) + ((0 : Nat) : Int) + 0 ≤ _
      omega
  obtain ⟨w3, v3, t1, t2, t3, t4, t5⟩ := r_loop (d := d) (d' := d') ht 13 [] w2 wm 0 (by omega) hRU rfl (by decide) h0.2.2.2
  have fr1 : z_fr [1, 5, 13, 14, 15, 16] w w3 := fr_tr (fr_sub p2 (by decide)) (fr_tr (fr_sub fr (by decide)) t3.1)
  have hix : ∀ i, i ≠ t → w3 1 i = w 1 i ∧ w3 13 i = w 13 i ∧ w3 14 i = w 14 i ∧ w3 15 i = w 15 i ∧ w3 16 i = w 16 i := fun i hi => by
    obtain ⟨g1, g2, g3, g4, g5⟩ := t3.2.1 i hi
    have c13 : w2 13 = w 13 := by rw [fr 13 (by decide), p2 13 (by decide)]
    have c14 : w2 14 = w 14 := by rw [fr 14 (by decide), p2 14 (by decide)]
    have c15 : w2 15 = w 15 := by rw [fr 15 (by decide), p2 15 (by decide)]
    have c16 : w2 16 = w 16 := by rw [fr 16 (by decide), p2 16 (by decide)]
    exact ⟨by rw [g1, e1i i hi, p2 1 (by decide)], by rw [g2, c13], by rw [g3, c14], by rw [g4, c15], by rw [g5, c16]⟩
  refine ⟨w3, v3, by rw [hrun]; exact t1, t2, ⟨fr1, hix⟩, t4, ?_⟩
  rcases t5 with ⟨Cs, hl, ⟨bc, bm, hJ⟩, hPC, hPM, hcl, ⟨hk, hkm⟩, h7, ha⟩ | ⟨f, hf, hf2⟩
  · exact Or.inl ⟨Cs, ⟨hJ.1.1.2.2.1, hJ.1.2.2.1⟩, PC_C Cs 0 hPC (by omega), PM_C Cs 0 hPM (by omega), hcl, by omega, ha⟩
  · exact Or.inr ⟨f, hf.2.2.1, hf.2.2.2, hf.1, hf2⟩
end
