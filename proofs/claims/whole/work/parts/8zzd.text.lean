/-! A TEXT, in both -/
section
variable {d : Nat} {w : zW} {LS RX : Int → List clau}
theorem m_text_full {a : Int} (ha : (a = 0 ∧ w 49 0 0 = 4) ∨ (a = 1 ∧ w 49 0 1 = 6) ∨ (a = 2 ∧ w 49 0 2 = 6) ∨ a < 0 ∨ 2 < a) : M_text (d + 1) a w = some (-1, w) := by
  rw [e_M_text, m_in]
  have h1 : ¬ (1 : Int) = 0 := by decide
  rcases ha with ⟨rfl, h⟩ | ⟨rfl, h⟩ | ⟨rfl, h⟩ | h | h
  · rw [if_pos (show (0 : Int) ≤ 0 ∧ (0 : Int) ≤ 2 by decide), bnd]
    dsimp only
    rw [if_neg h1, gd_t (by decide), if_pos rfl, h, e_M_text_4, if_pos rfl]
  · rw [if_pos (show (0 : Int) ≤ 1 ∧ (1 : Int) ≤ 2 by decide), bnd]
    dsimp only
    rw [if_neg h1, gd_t (by decide), if_neg h1, h, e_M_text_4, if_pos rfl]
  · rw [if_pos (show (0 : Int) ≤ 2 ∧ (2 : Int) ≤ 2 by decide), bnd]
    dsimp only
    rw [if_neg h1, gd_t (by decide), if_neg (show ¬ (2 : Int) = 0 by decide), h, e_M_text_4, if_pos rfl]
  · rw [if_neg (show ¬ (0 ≤ a ∧ a ≤ 2) by omega), bnd]
    dsimp only
    rw [if_pos rfl]
  · rw [if_neg (show ¬ (0 ≤ a ∧ a ≤ 2) by omega), bnd]
    dsimp only
    rw [if_pos rfl]
abbrev tS : List Nat := [49, 50, 51, 52, 53, 54, 55, 56, 57, 58, 60, 65]
/-- the model's index of laws and rules: what a text at t may touch -/
def TI (t : Int) (w w' : zW) : Prop := (∀ c : Nat, c ∉ tS → c ≠ 11 → w' c = w c) ∧ (∀ p, (p < 400 * t ∨ 400 * t + 400 ≤ p) → w' 50 0 p = w 50 0 p) ∧ (∀ p, (p < 60 * t ∨ 60 * t + 60 ≤ p) → w' 52 0 p = w 52 0 p) ∧ ∀ s, s ≠ t → w' 53 0 s = w 53 0 s ∧ w' 54 0 s = w 54 0 s ∧ w' 55 0 s = w 55 0 s ∧ w' 56 0 s = w 56 0 s ∧ w' 57 0 s = w 57 0 s ∧ w' 58 0 s = w 58 0 s ∧ w' 60 0 s = w 60 0 s
theorem TI_tr {t : Int} {w w' w'' : zW} (h : TI t w w') (h' : TI t w' w'') : TI t w w'' := by
  obtain ⟨a1, a2, a3, a4⟩ := h
  obtain ⟨b1, b2, b3, b4⟩ := h'
  refine ⟨fun c hc h11 => (b1 c hc h11).trans (a1 c hc h11), fun p hp => (b2 p hp).trans (a2 p hp), fun p hp => (b3 p hp).trans (a3 p hp), fun s hs => ?_⟩
  obtain ⟨c1, c2, c3, c4, c5, c6, c7⟩ := a4 s hs
  obtain ⟨d1, d2, d3, d4, d5, d6, d7⟩ := b4 s hs
  exact ⟨d1.trans c1, d2.trans c2, d3.trans c3, d4.trans c4, d5.trans c5, d6.trans c6, d7.trans c7⟩
theorem TB.i {t : Int} {w wS : zW} (h : TB t w wS) (h62 : wS 62 = w 62) (h64 : wS 64 = w 64) : TI t w wS := by
  obtain ⟨⟨a1, a2⟩, -⟩ := h
  refine ⟨fun c hc h11 => ?_, fun p _ => by rw [a1.1 50 (by decide) (by decide)], fun p _ => by rw [a1.1 52 (by decide) (by decide)], fun s hs => ?_⟩
  · by_cases z : c = 62
    · rw [z]; exact h62
    by_cases y : c = 64
    · rw [y]; exact h64
    refine a1.1 c (fun q => ?_) h11
    simp only [List.mem_cons, List.not_mem_nil, or_false] at q hc
    omega
  · obtain ⟨c1, c2, c3, c4, c5, c6, c7, c8⟩ := a2 s hs
    exact ⟨c2, c3, c4, c5, c6, c7, c8⟩
theorem YW.i {t : Int} {w w' : zW} (h : YW t w w') (h0 : 0 ≤ w 51 0 t ∧ 0 ≤ w 53 0 t) : TI t w w' := by
  obtain ⟨a1, a2, a3, a4, a5, a6⟩ := h
  refine ⟨fun c hc h11 => a1.1 c (fun q => hc ?_) h11, fun p hp => a2 p (by omega), fun p hp => a4 p (by omega), fun s hs => ?_⟩
  · simp only [List.mem_cons, List.not_mem_nil, or_false] at q ⊢
    omega
  · obtain ⟨c4, c5, c6, c7⟩ := a6 s hs
    exact ⟨a5.1 s hs, c4, c5, c6, c7, by rw [a1.1 58 (by decide) (by decide)], by rw [a1.1 60 (by decide) (by decide)]⟩
theorem TI_11 {t s v : Int} {w : zW} : TI t w (z_up w 11 0 s v) := ⟨fun c _ h11 => upc h11, fun p _ => up_c (by decide), fun p _ => up_c (by decide), fun s _ => ⟨up_c (by decide), up_c (by decide), up_c (by decide), up_c (by decide), up_c (by decide), up_c (by decide), up_c (by decide)⟩⟩
theorem TI_e {t : Int} {w w' : zW} (hm : mF [49, 54, 55, 56, 57] [] w w') (hs : ∀ s, s ≠ t → w' 54 0 s = w 54 0 s ∧ w' 55 0 s = w 55 0 s ∧ w' 56 0 s = w 56 0 s ∧ w' 57 0 s = w 57 0 s) : TI t w w' := by
  refine ⟨fun c hc h11 => hm.1 c (fun q => hc ?_) h11, fun p _ => by rw [hm.1 50 (by decide) (by decide)], fun p _ => by rw [hm.1 52 (by decide) (by decide)], fun s h => ?_⟩
  · simp only [List.mem_cons, List.not_mem_nil, or_false] at q ⊢
    omega
  · obtain ⟨c4, c5, c6, c7⟩ := hs s h
    exact ⟨by rw [hm.1 53 (by decide) (by decide)], c4, c5, c6, c7, by rw [hm.1 58 (by decide) (by decide)], by rw [hm.1 60 (by decide) (by decide)]⟩
/-- the glue of laws and rules -/
theorem glue {LS' RX' : Int → List clau} {w1 w2 : zW} {t : Int} (hS : Sim LS RX w) (hA : z_fr [1, 2, 5, 10, 13, 14, 15, 16] w w1) (hA2 : ∀ i, i ≠ t → ∀ c, c ∈ [1, 2, 13, 14, 15, 16] → w1 c i = w c i) (hB : TI t w1 w2) (ht : (t = w 10 0 5 ∧ t < 6) ∨ (t = 6 + w 10 0 6 ∧ t < 12)) (h5 : w1 5 0 1 = 0 ∧ w2 11 0 1 = 0) (h104 : w1 10 0 4 = w 10 0 4 ∧ w2 49 0 0 = w 49 0 0)
    (hcnt : (w2 49 0 1 = w1 10 0 5 ∧ w1 10 0 5 ≤ 6) ∧ w2 49 0 2 = w1 10 0 6 ∧ w1 10 0 6 ≤ 6) (hm : w 10 0 5 ≤ w1 10 0 5 ∧ w 10 0 6 ≤ w1 10 0 6) (hls : ∀ j, 0 ≤ j → j < w 10 0 5 → LS' j = LS j) (hrx : ∀ r, 0 ≤ r → r < w 10 0 6 → RX' r = RX r) (hnl : ∀ j, w 10 0 5 ≤ j → j < w1 10 0 5 → Rlw w2 j (LS' j)) (hnr : ∀ r, w 10 0 6 ≤ r → r < w1 10 0 6 → Rru w2 r (RX' r)) : Sim LS' RX' w2 := by
  obtain ⟨b1, b2, b3, b4⟩ := hB
  have hc := hS.cnt
  have e10 : w2 10 = w1 10 := b1 10 (by decide) (by decide)
  have same : ∀ c : Nat, c ∉ tS → c ≠ 11 → c ∉ [1, 2, 5, 10, 13, 14, 15, 16] → w2 c = w c := fun c h1 h2 h3 => (b1 c h1 h2).trans (hA c h3)
  refine Sim_txt hS ⟨by rw [b1 5 (by decide) (by decide)]; exact h5.1, h5.2⟩ ⟨by rw [e10]; omega, by rw [e10]; omega, by rw [e10]; omega⟩ ⟨by rw [e10]; omega, by rw [e10]; exact hm⟩ (fun c hc => ?_) (fun i i0 i1 c hc => ?_) (fun i i0 i1 => ⟨⟨?_, ?_, ?_, ?_⟩, ?_, fun p _ _ => ?_, fun p _ _ => ?_⟩) (fun i i0 i1 => ?_) (fun i i0 i1 => ?_) (fun j j0 j1 => ⟨hls j j0 j1, fun c hc => ?_⟩) (fun t' ht' => ⟨fun p p0 p1 => ?_, fun p p0 p1 => ?_, ?_⟩) (fun j j0 j1 => ?_) (fun j j0 j1 => hnl j j0 (by rw [e10] at j1; exact j1)) (fun r r0 r1 => ⟨hrx r r0 r1, fun c hc => ?_⟩) (fun r r0 r1 => hnr r r0 (by rw [e10] at r1; exact r1))
  · exact same c (by revert hc; revert c; decide) (by revert hc; revert c; decide) (by revert hc; revert c; decide)
  · rw [same c (by revert hc; revert c; decide) (by revert hc; revert c; decide) (by revert hc; revert c; decide)]
  · rw [(b4 (12 + i) (by omega)).2.2.2.2.2.1, hA 58 (by decide)]
  · rw [same 59 (by decide) (by decide) (by decide)]
  · rw [(b4 (12 + i) (by omega)).2.2.2.2.2.2, hA 60 (by decide)]
  · rw [same 61 (by decide) (by decide) (by decide)]
  · rw [same 62 (by decide) (by decide) (by decide)]
  · rw [same 63 (by decide) (by decide) (by decide)]
  · rw [same 64 (by decide) (by decide) (by decide)]
  · rw [e10] at i1
    omega
  · rw [same 9 (by decide) (by decide) (by decide)]
    exact hS.cols i0 i1
  · rw [b1 c (by revert hc; revert c; decide) (by revert hc; revert c; decide)]
    exact hA2 j (by omega) c hc
  · rw [b2 p (by omega), hA 50 (by decide)]
  · rw [b3 p (by omega), hA 52 (by decide)]
  · rw [(b4 t' (by omega)).1, hA 53 (by decide)]
  · have := b4 j (by omega)
    rw [this.2.1, this.2.2.1, this.2.2.2.1, this.2.2.2.2.1, hA 54 (by decide), hA 55 (by decide), hA 56 (by decide), hA 57 (by decide)]
    exact ⟨rfl, rfl, rfl, rfl⟩
  · rw [b1 c (by revert hc; revert c; decide) (by revert hc; revert c; decide)]
    exact hA2 (6 + r) (by omega) c (by revert hc; revert c; decide)
theorem MT_of {w wS : zW} (hT : RT w) (h1 : wS 11 0 1 = w 11 0 1) (h48 : wS 48 = w 48) : MT (w 20 0) (w 5 0 1) wS := by
  obtain ⟨t1, t2, t3⟩ := hT
  refine ⟨by rw [h1]; exact t2, t1, fun k k0 k1 => ?_⟩
  rw [h48]
  exact t3 k k0 k1
/-- a rule's text -/
theorem p_textR (hS : Sim LS RX w) (h6 : w 10 0 6 < 6) : ∃ r w1 w2 RX', D_text (d + 60) 2 w = some (r, w1) ∧ M_text (d + 60) 2 w1 = some (r, w2) ∧ Sim LS RX' w2 := by
  have hc := hS.cnt
  have hT := hS.tape
  generalize hcn : w 10 0 6 = cn at *
  obtain ⟨wS0, -, b2, b3, b4⟩ := m_text_12 (d := d + 59) (w := w) (a := 2) (t := 6 + cn) (Or.inr ⟨rfl, by omega⟩) (by omega)
  have hv0 := MT_of hT (b2.1.1.2 1 (by decide)) (b2.1.1.1 48 (by decide) (by decide))
  obtain ⟨b21, b22, b23⟩ := b2.2
  obtain ⟨wc, v0, r1, -, r3, -, r5⟩ := r_read (d := d + 32) (d' := d + 48) (t := 6 + cn) hT (by omega) hv0 b21.1 b21.2 b22
  have ec : wc 10 = w 10 := r3.1 10 (by decide)
  have ecc : wc 10 0 6 = cn := by rw [ec]; exact hcn
  have hD : D_text (d + 60) 2 w = if wc 5 0 2 = 0 then some (cn, z_up (z_up wc 10 0 6 (cn + 1)) 5 0 1 0) else gd (inI (-2 - wc 5 0 2)) (some (-2 - wc 5 0 2, z_up (z_up wc 10 0 6 cn) 5 0 1 0)) := by
    have e1 : (z_up wc 10 0 6 (cn + 1)) 5 0 2 = wc 5 0 2 := up_c (by decide)
    have e2 : (z_up wc 10 0 6 (cn + 0)) 5 0 2 = wc 5 0 2 := up_c (by decide)
    rw [e_D_text, if_neg (by decide), e_D_text_6, if_neg (by decide), e_D_text_12, if_pos rfl, hcn, if_neg (by omega), gd_t (by omega), r1, bnd]
    dsimp only
    simp only [ecc]
    by_cases z : wc 5 0 2 = 0
    · rw [if_pos z, if_pos z, gd_t (by omega), e_D_text_19, if_pos (by rw [e1]; exact z)]
    · rw [if_neg z, if_neg z, gd_t (by omega), e_D_text_19, if_neg (by rw [e2]; exact z), e2, show cn + 0 = cn by omega]
  -- the model, on what the class left
  have run : ∀ x : Int, ∃ wS v, M_text (d + 60) 2 (z_up (z_up wc 10 0 6 x) 5 0 1 0) = M_text_17 (d + 60) 2 v ∧ TB (6 + cn) (z_up (z_up wc 10 0 6 x) 5 0 1 0) wS ∧ (wS 62 = (z_up (z_up wc 10 0 6 x) 5 0 1 0) 62 ∧ wS 64 = (z_up (z_up wc 10 0 6 x) 5 0 1 0) 64) ∧ YL (6 + cn) wS v ∧ ((∃ Cs, (wc 5 0 2 = 0 ∧ v 11 0 19 = 0) ∧ ClC wc (6 + cn) 0 Cs ∧ ClM v (6 + cn) true 0 Cs ∧ (∀ C ∈ Cs, clT 10 C) ∧ Cs.length ≤ 12 ∧ ∀ C ∈ Cs, ∃ a, C.1 = [(0, a)] ∧ 0 ≤ a ∧ a ≤ 5) ∨ (∃ f, 0 < f ∧ f ≤ 4000 ∧ wc 5 0 2 = f ∧ v 11 0 19 = f)) := fun x => by
    have e49 : (z_up (z_up wc 10 0 6 x) 5 0 1 0) 49 = w 49 := by rw [upc (by decide), upc (by decide), r3.1 49 (by decide)]
    obtain ⟨wS, c1, c2, c3, c4⟩ := m_text_12 (d := d + 59) (w := z_up (z_up wc 10 0 6 x) 5 0 1 0) (a := 2) (t := 6 + cn) (Or.inr ⟨rfl, by rw [e49]; omega⟩) (by rw [e49]; omega)
    obtain ⟨c21, c22, c23⟩ := c2.2
    have hv1 : MT (w 20 0) (w 5 0 1) wS := MT_of hT (by rw [c2.1.1.2 1 (by decide), upc (by decide), upc (by decide), r3.1 11 (by decide)]) (by rw [c2.1.1.1 48 (by decide) (by decide), upc (by decide), upc (by decide), r3.1 48 (by decide)])
    obtain ⟨wc2, v1, q1, q2, q3, q4, q5⟩ := r_read (d := d + 32) (d' := d + 48) (t := 6 + cn) hT (by omega) hv1 c21.1 c21.2 c22
    have := r1.symm.trans q1
    injection this with this
    injection this with _ this
    subst this
    exact ⟨wS, v1, by rw [c1]; exact q2 2, c2, ⟨c3, c4⟩, q4, q5⟩
  have fA : ∀ x : Int, z_fr [1, 2, 5, 10, 13, 14, 15, 16] w (z_up (z_up wc 10 0 6 x) 5 0 1 0) := fun x => fr_tr (fr_sub r3.1 (by decide)) (fr_tr (fr_up (by decide)) (fr_up (by decide)))
  have fA2 : ∀ (x i : Int), i ≠ 6 + cn → ∀ c, c ∈ [1, 2, 13, 14, 15, 16] → (z_up (z_up wc 10 0 6 x) 5 0 1 0) c i = w c i := fun x i hi c hcc => by
    obtain ⟨g1, g2, g3, g4, g5⟩ := r3.2 i hi
    have h2 := r3.1 2 (by decide)
    rw [upc (by revert hcc; revert c; decide), upc (by revert hcc; revert c; decide)]
    simp only [List.mem_cons, List.not_mem_nil, or_false] at hcc
    rcases hcc with rfl | rfl | rfl | rfl | rfl | rfl
    · exact g1
    · rw [h2]
    · exact g2
    · exact g3
    · exact g4
    · exact g5
  have e10 : ∀ (x s : Int), s ≠ 6 → (z_up (z_up wc 10 0 6 x) 5 0 1 0) 10 0 s = w 10 0 s := fun x s hs => by rw [up_c (by decide), up_s hs, ec]
  have e106 : ∀ x : Int, (z_up (z_up wc 10 0 6 x) 5 0 1 0) 10 0 6 = x := fun x => by rw [up_c (by decide), up_h]
  have e49 : ∀ x : Int, (z_up (z_up wc 10 0 6 x) 5 0 1 0) 49 = w 49 := fun x => by rw [upc (by decide), upc (by decide), r3.1 49 (by decide)]
  by_cases z : wc 5 0 2 = 0
  · obtain ⟨wS, v, q1, q2, q3, q4, q5⟩ := run (cn + 1)
    rcases q5 with ⟨Cs, ⟨k1, k2⟩, k3, k4, k5, k6, k7⟩ | ⟨f, f0, f1, f2, f3⟩
    case inr => omega
    have hTI : TI (6 + cn) (z_up (z_up wc 10 0 6 (cn + 1)) 5 0 1 0) v := TI_tr (q2.i q3.1 q3.2) ((YL_w q4).i ⟨by rw [q2.2.2.1.1]; exact Int.le_refl _, by rw [q2.2.2.1.2]; exact Int.le_refl _⟩)
    have v21 : v 11 0 21 = 6 + cn := (q4.1.2 21 (by decide)).trans q2.2.1.1
    have v49 : v 49 = w 49 := by rw [q4.1.1 49 (by decide) (by decide), q2.1.1.1 49 (by decide) (by decide)]; exact e49 _
    obtain ⟨w2, m1, m2, m3, m4, m5, -⟩ := m_text_21 (d := d + 60) (w := z_up v 11 0 1 0) (a := 2) (t := 6 + cn) (c := cn) (by rw [up_s (by decide)]; exact v21) (by omega) (by decide) (by rw [up_c (by decide), v49]; omega) (by omega)
    refine ⟨cn, z_up (z_up wc 10 0 6 (cn + 1)) 5 0 1 0, w2, fun q => if q = cn then Cs else RX q, by rw [hD, if_pos z], ?_, ?_⟩
    · rw [q1, e_M_text_17, k2, if_pos (by decide), if_neg (by decide)]
      exact m1
    · have hTI2 : TI (6 + cn) (z_up (z_up wc 10 0 6 (cn + 1)) 5 0 1 0) w2 := TI_tr hTI (TI_tr TI_11 (TI_e m2 m5))
      have w249 : ∀ s, s ≠ 2 → w2 49 0 s = w 49 0 s := fun s hs => by rw [m3 s hs, up_c (by decide), v49]
      have w2c : ∀ c, c ∈ [1, 13, 14, 15, 16] → w2 c = wc c := fun c hcc => by
        rw [hTI2.1 c (by revert hcc; revert c; decide) (by revert hcc; revert c; decide), upc (by revert hcc; revert c; decide), upc (by revert hcc; revert c; decide)]
      have w2v : ∀ c, c ∈ [50, 52, 53] → w2 c = v c := fun c hcc => by
        rw [m2.1 c (by revert hcc; revert c; decide) (by revert hcc; revert c; decide), upc (by revert hcc; revert c; decide)]
      refine glue hS (fA _) (fA2 _) hTI2 (Or.inr ⟨by rw [hcn], by omega⟩) ⟨up_h, by rw [m2.2 1 List.not_mem_nil, up_h]⟩ ⟨e10 _ 4 (by decide), w249 0 (by decide)⟩ ⟨⟨by rw [w249 1 (by decide), e10 _ 5 (by decide)]; omega, by rw [e10 _ 5 (by decide)]; omega⟩, by rw [m4, e106], by rw [e106]; omega⟩ ⟨by rw [e10 _ 5 (by decide)]; exact Int.le_refl _, by rw [e106, hcn]; omega⟩ (fun j _ _ => rfl) (fun r r0 r1 => if_neg (by omega)) (fun j j0 j1 => ?_) (fun r r0 r1 => ?_)
      · rw [e10 _ 5 (by decide)] at j1
        omega
      · rw [e106] at r1
        have hr : r = cn := by omega
        show Rru w2 r (if r = cn then Cs else RX r)
        rw [if_pos hr, hr]
        exact ⟨ClC_fr (w2c 1 (by decide)) (w2c 13 (by decide)) (w2c 14 (by decide)) (w2c 15 (by decide)) (w2c 16 (by decide)) Cs 0 k3, ClM_fr (w2v 50 (by decide)) (w2v 52 (by decide)) (w2v 53 (by decide)) Cs 0 k4, k5, k6, k7⟩
  · obtain ⟨wS, v, q1, q2, q3, q4, q5⟩ := run cn
    rcases q5 with ⟨Cs, ⟨k1, k2⟩, -⟩ | ⟨f, f0, f1, f2, f3⟩
    case inl => exact absurd k1 z
    have hTI : TI (6 + cn) (z_up (z_up wc 10 0 6 cn) 5 0 1 0) (z_up v 11 0 1 0) := TI_tr (TI_tr (q2.i q3.1 q3.2) ((YL_w q4).i ⟨by rw [q2.2.2.1.1]; exact Int.le_refl _, by rw [q2.2.2.1.2]; exact Int.le_refl _⟩)) TI_11
    have v49 : (z_up v 11 0 1 0) 49 = w 49 := by rw [upc (by decide), q4.1.1 49 (by decide) (by decide), q2.1.1.1 49 (by decide) (by decide)]; exact e49 _
    refine ⟨-2 - f, z_up (z_up wc 10 0 6 cn) 5 0 1 0, z_up v 11 0 1 0, RX, by rw [hD, if_neg z, f2, gd_t (by omega)], ?_, ?_⟩
    · rw [q1]
      exact m_text_f f3 ⟨f0, f1⟩
    · refine glue hS (fA _) (fA2 _) hTI (Or.inr ⟨by rw [hcn], by omega⟩) ⟨up_h, up_h⟩ ⟨e10 _ 4 (by decide), by rw [v49]⟩ ⟨⟨by rw [v49, e10 _ 5 (by decide)]; omega, by rw [e10 _ 5 (by decide)]; omega⟩, by rw [v49, e106]; omega, by rw [e106]; omega⟩ ⟨by rw [e10 _ 5 (by decide)]; exact Int.le_refl _, by rw [e106, hcn]; exact Int.le_refl _⟩ (fun j _ _ => rfl) (fun r _ _ => rfl) (fun j j0 j1 => ?_) (fun r r0 r1 => ?_)
      · rw [e10 _ 5 (by decide)] at j1
        omega
      · rw [e106] at r1
        omega
/-- a law's text -/
theorem p_textL (hS : Sim LS RX w) (h6 : w 10 0 5 < 6) : ∃ r w1 w2 LS', D_text (d + 60) 1 w = some (r, w1) ∧ M_text (d + 60) 1 w1 = some (r, w2) ∧ Sim LS' RX w2 := by
  have hc := hS.cnt
  have hT := hS.tape
  generalize hcn : w 10 0 5 = cn at *
  obtain ⟨wS0, -, b2, b3, b4⟩ := m_text_12 (d := d + 59) (w := w) (a := 1) (t := cn) (Or.inl ⟨rfl, by omega⟩) (by omega)
  have hv0 := MT_of hT (b2.1.1.2 1 (by decide)) (b2.1.1.1 48 (by decide) (by decide))
  obtain ⟨b21, b22, b23, b24⟩ := b2.2
  obtain ⟨wc, v0, r1, -, r3, -, r5⟩ := l_read (d := d + 32) (d' := d + 48) (j := cn) hT (by omega) hv0 b21.1 b21.2 b22 b23
  have ec : wc 10 = w 10 := r3.1 10 (by decide)
  have ecc : wc 10 0 5 = cn := by rw [ec]; exact hcn
  have hD : D_text (d + 60) 1 w = if wc 5 0 2 = 0 then some (cn, z_up (z_up wc 10 0 5 (cn + 1)) 5 0 1 0) else gd (inI (-2 - wc 5 0 2)) (some (-2 - wc 5 0 2, z_up (z_up wc 10 0 5 cn) 5 0 1 0)) := by
    have e1 : (z_up wc 10 0 5 (cn + 1)) 5 0 2 = wc 5 0 2 := up_c (by decide)
    have e2 : (z_up wc 10 0 5 (cn + 0)) 5 0 2 = wc 5 0 2 := up_c (by decide)
    rw [e_D_text, if_neg (by decide), e_D_text_6, if_pos rfl, hcn, if_neg (by omega), gd_t (by omega), show 0 + cn = cn by omega, r1, bnd]
    dsimp only
    simp only [ecc]
    by_cases z : wc 5 0 2 = 0
    · rw [if_pos z, if_pos z, gd_t (by omega), e_D_text_19, if_pos (by rw [e1]; exact z)]
    · rw [if_neg z, if_neg z, gd_t (by omega), e_D_text_19, if_neg (by rw [e2]; exact z), e2, show cn + 0 = cn by omega]
  have run : ∀ x : Int, ∃ wS v, M_text (d + 60) 1 (z_up (z_up wc 10 0 5 x) 5 0 1 0) = M_text_17 (d + 60) 1 v ∧ TB cn (z_up (z_up wc 10 0 5 x) 5 0 1 0) wS ∧ (wS 62 = (z_up (z_up wc 10 0 5 x) 5 0 1 0) 62 ∧ wS 64 = (z_up (z_up wc 10 0 5 x) 5 0 1 0) 64) ∧ YW cn wS v ∧ ((∃ x Cs, (wc 5 0 2 = 0 ∧ v 11 0 19 = 0) ∧ ClC wc cn 0 Cs ∧ ClM v cn false 0 Cs ∧ (∀ C ∈ Cs, clT 5 C) ∧ Cs.length ≤ 12 ∧ SL x cn wc v) ∨ (∃ f, 0 < f ∧ f ≤ 4000 ∧ wc 5 0 2 = f ∧ v 11 0 19 = f)) := fun x => by
    have e49 : (z_up (z_up wc 10 0 5 x) 5 0 1 0) 49 = w 49 := by rw [upc (by decide), upc (by decide), r3.1 49 (by decide)]
    obtain ⟨wS, c1, c2, c3, c4⟩ := m_text_12 (d := d + 59) (w := z_up (z_up wc 10 0 5 x) 5 0 1 0) (a := 1) (t := cn) (Or.inl ⟨rfl, by rw [e49]; omega⟩) (by rw [e49]; omega)
    obtain ⟨c21, c22, c23, c24⟩ := c2.2
    have hv1 : MT (w 20 0) (w 5 0 1) wS := MT_of hT (by rw [c2.1.1.2 1 (by decide), upc (by decide), upc (by decide), r3.1 11 (by decide)]) (by rw [c2.1.1.1 48 (by decide) (by decide), upc (by decide), upc (by decide), r3.1 48 (by decide)])
    obtain ⟨wc2, v1, q1, q2, q3, q4, q5⟩ := l_read (d := d + 32) (d' := d + 48) (j := cn) hT (by omega) hv1 c21.1 c21.2 c22 c23
    have := r1.symm.trans q1
    injection this with this
    injection this with _ this
    subst this
    exact ⟨wS, v1, by rw [c1]; exact q2 1, c2, ⟨c3, c4⟩, q4, q5⟩
  have fA : ∀ x : Int, z_fr [1, 2, 5, 10, 13, 14, 15, 16] w (z_up (z_up wc 10 0 5 x) 5 0 1 0) := fun x => fr_tr (fr_sub r3.1 (by decide)) (fr_tr (fr_up (by decide)) (fr_up (by decide)))
  have fA2 : ∀ (x i : Int), i ≠ cn → ∀ c, c ∈ [1, 2, 13, 14, 15, 16] → (z_up (z_up wc 10 0 5 x) 5 0 1 0) c i = w c i := fun x i hi c hcc => by
    obtain ⟨g1, g2, g3, g4, g5, g6⟩ := r3.2 i hi
    rw [upc (by revert hcc; revert c; decide), upc (by revert hcc; revert c; decide)]
    simp only [List.mem_cons, List.not_mem_nil, or_false] at hcc
    rcases hcc with rfl | rfl | rfl | rfl | rfl | rfl
    · exact g1
    · exact g2
    · exact g3
    · exact g4
    · exact g5
    · exact g6
  have e10 : ∀ (x s : Int), s ≠ 5 → (z_up (z_up wc 10 0 5 x) 5 0 1 0) 10 0 s = w 10 0 s := fun x s hs => by rw [up_c (by decide), up_s hs, ec]
  have e106 : ∀ x : Int, (z_up (z_up wc 10 0 5 x) 5 0 1 0) 10 0 5 = x := fun x => by rw [up_c (by decide), up_h]
  have e49 : ∀ x : Int, (z_up (z_up wc 10 0 5 x) 5 0 1 0) 49 = w 49 := fun x => by rw [upc (by decide), upc (by decide), r3.1 49 (by decide)]
  by_cases z : wc 5 0 2 = 0
  · obtain ⟨wS, v, q1, q2, q3, q4, q5⟩ := run (cn + 1)
    rcases q5 with ⟨x, Cs, ⟨k1, k2⟩, k3, k4, k5, k6, k7⟩ | ⟨f, f0, f1, f2, f3⟩
    case inr => omega
    have hTI : TI cn (z_up (z_up wc 10 0 5 (cn + 1)) 5 0 1 0) v := TI_tr (q2.i q3.1 q3.2) (q4.i ⟨by rw [q2.2.2.1.1]; exact Int.le_refl _, by rw [q2.2.2.1.2]; exact Int.le_refl _⟩)
    have v21 : v 11 0 21 = cn := (q4.1.2 21 (by decide)).trans q2.2.1.1
    have v49 : v 49 = w 49 := by rw [q4.1.1 49 (by decide) (by decide), q2.1.1.1 49 (by decide) (by decide)]; exact e49 _
    obtain ⟨w2, m1, m2, m3, m4, m5, m6, m7, m8, m9⟩ := m_text_21 (d := d + 60) (w := z_up v 11 0 1 0) (a := 1) (t := cn) (c := cn) (by rw [up_s (by decide)]; exact v21) (by omega) (by decide) (by rw [up_c (by decide), v49]; omega) (by omega)
    refine ⟨cn, z_up (z_up wc 10 0 5 (cn + 1)) 5 0 1 0, w2, fun q => if q = cn then Cs else LS q, by rw [hD, if_pos z], ?_, ?_⟩
    · rw [q1, e_M_text_17, k2, if_pos (by decide), if_neg (by decide)]
      exact m1
    · have hTI2 : TI cn (z_up (z_up wc 10 0 5 (cn + 1)) 5 0 1 0) w2 := TI_tr hTI (TI_tr TI_11 (TI_e m2 m5))
      have w249 : ∀ s, s ≠ 1 → w2 49 0 s = w 49 0 s := fun s hs => by rw [m3 s hs, up_c (by decide), v49]
      have w2c : ∀ c, c ∈ [1, 2, 13, 14, 15, 16] → w2 c = wc c := fun c hcc => by
        rw [hTI2.1 c (by revert hcc; revert c; decide) (by revert hcc; revert c; decide), upc (by revert hcc; revert c; decide), upc (by revert hcc; revert c; decide)]
      have w2v : ∀ c, c ∈ [50, 52, 53] → w2 c = v c := fun c hcc => by
        rw [m2.1 c (by revert hcc; revert c; decide) (by revert hcc; revert c; decide), upc (by revert hcc; revert c; decide)]
      refine glue hS (fA _) (fA2 _) hTI2 (Or.inl ⟨by rw [hcn], by omega⟩) ⟨up_h, by rw [m2.2 1 List.not_mem_nil, up_h]⟩ ⟨e10 _ 4 (by decide), w249 0 (by decide)⟩ ⟨⟨by rw [m4, e106], by rw [e106]; omega⟩, by rw [w249 2 (by decide), e10 _ 6 (by decide)]; omega, by rw [e10 _ 6 (by decide)]; omega⟩ ⟨by rw [e106, hcn]; omega, by rw [e10 _ 6 (by decide)]; exact Int.le_refl _⟩ (fun j j0 j1 => if_neg (by omega)) (fun r _ _ => rfl) (fun j j0 j1 => ?_) (fun r r0 r1 => ?_)
      · rw [e106] at j1
        have hj : j = cn := by omega
        show Rlw w2 j (if j = cn then Cs else LS j)
        rw [if_pos hj, hj]
        have vf : ∀ f : Nat, f < 4 → (0 ≤ wc 2 cn (1 + f) ∧ wc 2 cn (1 + f) ≤ (if f = 0 then 500 else 1000)) ∧ (if 0 ≤ v (54 + f) 0 cn then v (54 + f) 0 cn else if f = 0 then 20 else 800) = wc 2 cn (1 + f) := fun f hf => by
          obtain ⟨s1, s2⟩ := k7 f hf
          cases hb : x.testBit f
          · obtain ⟨t1, t2⟩ := s2 hb
            rw [t1, t2, if_neg (show ¬ (0 : Int) ≤ -1 by decide)]
            refine ⟨?_, rfl⟩
            by_cases hf0 : f = 0
            · rw [if_pos hf0, if_pos hf0]; decide
            · rw [if_neg hf0, if_neg hf0]; decide
          · obtain ⟨t1, t2, t3⟩ := s1 hb
            rw [t1, if_pos t2]
            exact ⟨⟨t2, t3⟩, rfl⟩
        have v0 := vf 0 (by decide)
        have v1 := vf 1 (by decide)
        have v2 := vf 2 (by decide)
        have v3 := vf 3 (by decide)
        have w22 : w2 2 = wc 2 := w2c 2 (by decide)
        refine ⟨?_, ?_, ClC_fr (w2c 1 (by decide)) (w2c 13 (by decide)) (w2c 14 (by decide)) (w2c 15 (by decide)) (w2c 16 (by decide)) Cs 0 k3, ClM_fr (w2v 50 (by decide)) (w2v 52 (by decide)) (w2v 53 (by decide)) Cs 0 k4, k5, k6⟩
        · unfold lwB
          rw [w22]
          exact ⟨v0.1, v1.1, v2.1, v3.1⟩
        · rw [w22, m6, m7, m8, m9, up_c (by decide), up_c (by decide), up_c (by decide), up_c (by decide)]
          exact ⟨v0.2, v1.2, v2.2, v3.2⟩
      · rw [e10 _ 6 (by decide)] at r1
        omega
  · obtain ⟨wS, v, q1, q2, q3, q4, q5⟩ := run cn
    rcases q5 with ⟨x, Cs, ⟨k1, k2⟩, -⟩ | ⟨f, f0, f1, f2, f3⟩
    case inl => exact absurd k1 z
    have hTI : TI cn (z_up (z_up wc 10 0 5 cn) 5 0 1 0) (z_up v 11 0 1 0) := TI_tr (TI_tr (q2.i q3.1 q3.2) (q4.i ⟨by rw [q2.2.2.1.1]; exact Int.le_refl _, by rw [q2.2.2.1.2]; exact Int.le_refl _⟩)) TI_11
    have v49 : (z_up v 11 0 1 0) 49 = w 49 := by rw [upc (by decide), q4.1.1 49 (by decide) (by decide), q2.1.1.1 49 (by decide) (by decide)]; exact e49 _
    refine ⟨-2 - f, z_up (z_up wc 10 0 5 cn) 5 0 1 0, z_up v 11 0 1 0, LS, by rw [hD, if_neg z, f2, gd_t (by omega)], ?_, ?_⟩
    · rw [q1]
      exact m_text_f f3 ⟨f0, f1⟩
    · refine glue hS (fA _) (fA2 _) hTI (Or.inl ⟨by rw [hcn], by omega⟩) ⟨up_h, up_h⟩ ⟨e10 _ 4 (by decide), by rw [v49]⟩ ⟨⟨by rw [v49, e106]; omega, by rw [e106]; omega⟩, by rw [v49, e10 _ 6 (by decide)]; omega, by rw [e10 _ 6 (by decide)]; omega⟩ ⟨by rw [e106, hcn]; exact Int.le_refl _, by rw [e10 _ 6 (by decide)]; exact Int.le_refl _⟩ (fun j _ _ => rfl) (fun r _ _ => rfl) (fun j j0 j1 => ?_) (fun r r0 r1 => ?_)
      · rw [e106] at j1
        omega
      · rw [e10 _ 6 (by decide)] at r1
        omega
end
