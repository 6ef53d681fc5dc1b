section
variable {d d' : Nat} {T : Int → Int} {n j : Int}
/-- the loop over a law's clauses -/
theorem l_loop (ht : 0 ≤ j ∧ j < 6) : ∀ (m : Nat) (x : Nat) (Cs : List clau) (wc wm : zW) (told : Int), 12 - told < m → LU T n j x Cs wc wm → Cs.length ≤ told → told ≤ 12 → wm 11 0 24 = told →
    ∃ wc' wm', Reader_readLaw_1 (d + 27) j 1 x told wc = some (0, wc') ∧ (∀ l1, TX (d' + 11) l1 wm = M_text_17 (d' + 12) l1 wm') ∧ XL j wc wc' ∧ YW j wm wm' ∧ ((∃ x' Cs', Cs'.length ≤ 12 ∧ LU T n j x' Cs' wc' wm') ∨ ∃ f, CF f wc' ∧ wm' 11 0 19 = f) := by
  intro m
  induction m with
  | zero =>
    intro x Cs wc wm told hm _ _ h12
    omega
  | succ m ih =>
    intro x Cs wc wm told hm h hto h12 h24
    obtain ⟨w1, l5, rm, v1, p1, p2, p3, p4, p5⟩ := l_clause (d := d) (d' := d') h ht hto h12 h24
    have hx256 : x < 256 := h.2.2.2.2.2.2.1
    rw [p1]
    have hTX : ∀ l1, TX (d' + 11) l1 wm = M_text_11 (d' + 12) l1 rm v1 := fun l1 => by
      unfold TX
      rw [p2, bnd]
    rcases p5 with ⟨y1, y2, y3, k, Cs', y4, y5, y6, y7⟩ | ⟨y1, yl, f, y2, y3⟩
    · rw [y1] at hTX
      have hset := z_set (k := k) hx256 (by omega)
      have y7' := y7
      obtain ⟨⟨bc, bm, hJ⟩, hPC, hPM, hcl, ⟨hk, hkm⟩, h7, hx, hSL⟩ := y7
      obtain ⟨r, w2, q1, q2, q3⟩ := j_goes (d := d + 25) (d' := d' + 11) hJ.1
      have h19 : Reader_readLaw_19 (d + 27) j x told l5 w1 = Reader_readLaw_1 (d + 27) j r ((x ||| 2 ^ k : Nat) : Int) (told + 1) w2 := by
        rw [e_Reader_readLaw_19, if_neg (by omega), y5, gd_t ⟨by omega, by omega, by decide, hset.2.2.2⟩, q1, bnd]
        dsimp only
        rw [gd_t (by omega), hset.1]
      rw [h19]
      rcases q3 with ⟨k1, v2, k2, k3, k4, k5, k6, k7⟩ | ⟨k1, k2, v2, k3, k4, k5⟩ | ⟨k1, f, v2, k2, k3, k4, k5⟩
      · have e1 : w2 1 = w1 1 := k6.1 1 (by decide)
        have hX : XF j w1 w2 := q2.x
        have hy : YW j v1 v2 := YW_m (mF_sub k3 (by decide) (by decide))
        have e53 : v2 53 = v1 53 := k3.1 53 (by decide) (by decide)
        have hLU : LU T n j (x ||| 2 ^ k) Cs' w2 v2 := by
          refine ⟨⟨bc, bm, k4, k5 _ _ _ _ _ _ _ (Int.le_refl 0) (JK_g hJ.2 k3 (by decide) (by decide) (by decide) (by decide))⟩, PC_X hX (by omega) hPC, PM_W hy (by omega) hPM, hcl, ⟨by rw [e1]; exact hk, by rw [e53]; exact hkm⟩, ?_, hx, SL_eq hSL (k6.1 2 (by decide)) (fun c hc => k3.1 c List.not_mem_nil (by omega))⟩
          rw [k6.2 7 (by decide) (by decide) (by decide)]; exact h7
        obtain ⟨w3, v3, t1, t2, t3, t4, t5⟩ := ih (x ||| 2 ^ k) Cs' w2 v2 (told + 1) (by omega) hLU (by omega) (by omega) (by rw [k3.2 24 (by decide)]; exact y3)
        rw [k1]
        exact ⟨w3, v3, t1, fun l1 => by rw [hTX, k2]; exact t2 l1, XL_tr p3 (XL_tr hX.l t3), YW_tr p4 (YW_tr hy t4), t5⟩
      · rw [k1, k2]
        have hy : YW j v1 v2 := YW_m (mF_sub k4 (by decide) (by decide))
        have e53 : v2 53 = v1 53 := k4.1 53 (by decide) (by decide)
        refine ⟨w1, v2, by rw [e_Reader_readLaw_1, if_pos rfl], fun l1 => by rw [hTX, k3], p3, YW_tr p4 hy, Or.inl ⟨x ||| 2 ^ k, Cs', by omega, ⟨bc, bm, k5, JK_g hJ.2 k4 (by decide) (by decide) (by decide) (by decide)⟩, hPC, PM_W hy (by omega) hPM, hcl, ⟨hk, by rw [e53]; exact hkm⟩, h7, hx, SL_eq hSL rfl (fun c hc => k4.1 c List.not_mem_nil (by omega))⟩⟩
      · rw [k1]
        exact ⟨w2, v2, by rw [e_Reader_readLaw_1, if_pos rfl], fun l1 => by rw [hTX, k3], XL_tr p3 q2.x.l, YW_tr p4 (YW_m (mF_sub k4 (by decide) (by decide))), Or.inr ⟨f, k2, k5⟩⟩
    · rw [y1] at hTX
      obtain ⟨w2, q1, q2, q3⟩ := F_goes (d := d + 25) y2
      have h19 : Reader_readLaw_19 (d + 27) j x told l5 w1 = some (0, w2) := by
        rw [e_Reader_readLaw_19]
        by_cases z : l5 < 0
        · rw [if_pos z, q1, bnd]
          dsimp only
          rw [gd_t (by omega), e_Reader_readLaw_1, if_pos rfl]
        · obtain ⟨k, hk⟩ : ∃ k : Nat, l5 = k := ⟨l5.toNat, by omega⟩
          have hset := z_set (k := k) hx256 (by omega)
          rw [if_neg z, hk, gd_t ⟨by omega, by omega, by decide, hset.2.2.2⟩, q1, bnd]
          dsimp only
          rw [gd_t (by omega), e_Reader_readLaw_1, if_pos rfl]
      rw [h19]
      exact ⟨w2, v1, rfl, fun l1 => by rw [hTX, text11_0], XL_tr p3 q2.x.l, p4, Or.inr ⟨f, q3, y3⟩⟩
/-- the class reads a law, the model its text -/
theorem l_read {w wm : zW} (hT : RT w) (ht : 0 ≤ j ∧ j < 6) (hv : MT (w 20 0) (w 5 0 1) wm) (h21 : wm 11 0 21 = j) (h0 : wm 11 0 18 = 0 ∧ wm 11 0 19 = 0 ∧ wm 11 0 22 = 0 ∧ wm 11 0 24 = 0) (h5 : wm 51 0 j = 0 ∧ wm 53 0 j = 0) (h54 : wm 54 0 j = -1 ∧ wm 55 0 j = -1 ∧ wm 56 0 j = -1 ∧ wm 57 0 j = -1) :
    ∃ wc' wm', Reader_readLaw (d + 27) j w = some (0, wc') ∧ (∀ l1, TX (d' + 11) l1 wm = M_text_17 (d' + 12) l1 wm') ∧ (z_fr [1, 2, 5, 13, 14, 15, 16] w wc' ∧ (∀ i, i ≠ j → wc' 1 i = w 1 i ∧ wc' 2 i = w 2 i ∧ wc' 13 i = w 13 i ∧ wc' 14 i = w 14 i ∧ wc' 15 i = w 15 i ∧ wc' 16 i = w 16 i)) ∧ YW j wm wm' ∧ ((∃ x Cs, (wc' 5 0 2 = 0 ∧ wm' 11 0 19 = 0) ∧ ClC wc' j 0 Cs ∧ ClM wm' j false 0 Cs ∧ (∀ C ∈ Cs, clT 5 C) ∧ Cs.length ≤ 12 ∧ SL x j wc' wm') ∨ (∃ f, 0 < f ∧ f ≤ 4000 ∧ wc' 5 0 2 = f ∧ wm' 11 0 19 = f)) := by
  obtain ⟨w1, p1, p2, p3, p4, p5⟩ := s_start (d := d + 25) hT
  have hJR := p5 wm hv h0.2.1 h0.1
  have hc : Law_clear (d + 26) j w1 = some (0, z_up (z_up (z_up (z_up (z_up (z_up w1 1 j 5 0) 1 j 6 0) 2 j 1 20) 2 j 2 800) 2 j 3 800) 2 j 4 800) := by rw [e_Law_clear, e_Clauses_clear, bnd]
  have fr : z_fr [1, 2, 5] w1 (z_up (z_up (z_up (z_up (z_up (z_up (z_up (z_up w1 1 j 5 0) 1 j 6 0) 2 j 1 20) 2 j 2 800) 2 j 3 800) 2 j 4 800) 5 0 8 j) 5 0 7 0) := fr_tr (fr_tr (fr_tr (fr_tr (fr_tr (fr_tr (fr_tr (fr_up (by decide)) (fr_up (by decide))) (fr_up (by decide))) (fr_up (by decide))) (fr_up (by decide))) (fr_up (by decide))) (fr_up (by decide))) (fr_up (by decide))
  have e5 : ∀ s, s ≠ 7 → s ≠ 8 → (z_up (z_up (z_up (z_up (z_up (z_up (z_up (z_up w1 1 j 5 0) 1 j 6 0) 2 j 1 20) 2 j 2 800) 2 j 3 800) 2 j 4 800) 5 0 8 j) 5 0 7 0) 5 0 s = w1 5 0 s := fun s a b => by rw [up_s a, up_s b, up_c (by decide), up_c (by decide), up_c (by decide), up_c (by decide), up_c (by decide), up_c (by decide)]
  have e8 : (z_up (z_up (z_up (z_up (z_up (z_up (z_up (z_up w1 1 j 5 0) 1 j 6 0) 2 j 1 20) 2 j 2 800) 2 j 3 800) 2 j 4 800) 5 0 8 j) 5 0 7 0) 5 0 8 = j := by rw [up_s (by decide), up_h]
  have e7 : (z_up (z_up (z_up (z_up (z_up (z_up (z_up (z_up w1 1 j 5 0) 1 j 6 0) 2 j 1 20) 2 j 2 800) 2 j 3 800) 2 j 4 800) 5 0 8 j) 5 0 7 0) 5 0 7 = 0 := up_h
  have e1 : ∀ i s, (z_up (z_up (z_up (z_up (z_up (z_up (z_up (z_up w1 1 j 5 0) 1 j 6 0) 2 j 1 20) 2 j 2 800) 2 j 3 800) 2 j 4 800) 5 0 8 j) 5 0 7 0) 1 i s = (z_up (z_up w1 1 j 5 0) 1 j 6 0) 1 i s := fun i s => by rw [up_c (by decide), up_c (by decide), up_c (by decide), up_c (by decide), up_c (by decide), up_c (by decide)]
  have e2 : ∀ i s, (z_up (z_up (z_up (z_up (z_up (z_up (z_up (z_up w1 1 j 5 0) 1 j 6 0) 2 j 1 20) 2 j 2 800) 2 j 3 800) 2 j 4 800) 5 0 8 j) 5 0 7 0) 2 i s = (z_up (z_up (z_up (z_up w1 2 j 1 20) 2 j 2 800) 2 j 3 800) 2 j 4 800) 2 i s := fun i s => by
    rw [up_c (by decide), up_c (by decide)]
    unfold z_up
    by_cases a1 : (2 : Nat) = 2 ∧ s = 4 ∧ i = j
    · rw [if_pos a1, if_pos a1]
    · rw [if_neg a1, if_neg a1]
      by_cases a2 : (2 : Nat) = 2 ∧ s = 3 ∧ i = j
      · rw [if_pos a2, if_pos a2]
      · rw [if_neg a2, if_neg a2]
        by_cases a3 : (2 : Nat) = 2 ∧ s = 2 ∧ i = j
        · rw [if_pos a3, if_pos a3]
        · rw [if_neg a3, if_neg a3]
          by_cases a4 : (2 : Nat) = 2 ∧ s = 1 ∧ i = j
          · rw [if_pos a4, if_pos a4]
          · rw [if_neg a4, if_neg a4, if_neg (fun q => absurd q.1 (by decide)), if_neg (fun q => absurd q.1 (by decide))]
  have hrun : Reader_readLaw (d + 27) j w = Reader_readLaw_1 (d + 27) j 1 0 0 (z_up (z_up (z_up (z_up (z_up (z_up (z_up (z_up w1 1 j 5 0) 1 j 6 0) 2 j 1 20) 2 j 2 800) 2 j 3 800) 2 j 4 800) 5 0 8 j) 5 0 7 0) := by
    rw [e_Reader_readLaw, p1, bnd]
    dsimp only
    rw [hc, bnd]
  generalize z_up (z_up (z_up (z_up (z_up (z_up (z_up (z_up w1 1 j 5 0) 1 j 6 0) 2 j 1 20) 2 j 2 800) 2 j 3 800) 2 j 4 800) 5 0 8 j) 5 0 7 0 = w2 at *
  have hq := hJR.1.2.2.2.1
  have hJR2 : JR (w 20 0) (w 5 0 1) w2 wm := by
    obtain ⟨⟨⟨a1, a2⟩, a3, a4, a5, a6⟩, b1, b2, b3, b4⟩ := hJR
    refine ⟨⟨⟨?_, a2⟩, ?_, ?_, ?_, ?_⟩, b1, b2, b3, ?_⟩
    · rw [e5 1 (by decide) (by decide)]; exact a1
    · rw [fr 20 (by decide)]; exact a3
    · rw [e5 2 (by decide) (by decide)]; exact a4
    · rw [e5 4 (by decide) (by decide)]; exact a5
    · rw [e5 4 (by decide) (by decide), e5 3 (by decide) (by decide), e5 5 (by decide) (by decide)]; exact a6
    · rw [e5 4 (by decide) (by decide)]; exact b4
  have e15 : w2 1 j 5 = 0 := by rw [e1, up_s (by decide), up_h]
  have e16 : w2 1 j 6 = 0 := by rw [e1, up_h]
  have hLU : LU (w 20 0) (w 5 0 1) j 0 [] w2 wm := by
    refine ⟨⟨0, 0, hJR2, ⟨e8, h21, by omega⟩, ⟨?_, ?_, ?_⟩, ⟨trivial, ?_, trivial, ?_⟩, ?_, by decide⟩, trivial, trivial, fun C hC => absurd hC List.not_mem_nil, ⟨e16, h5.2⟩, e7, by decide, fun f hf => ?_⟩
    · rw [h0.2.2.1, e5 6 (by decide) (by decide), p4]
    · rw [e5 6 (by decide) (by decide), p4]; decide
    · rw [e5 6 (by decide) (by decide), p4]; decide
    · rw [e15]; rfl
    · rw [h5.1]; rfl
    · rw [e5 4 (by decide) (by decide)]
      show (0 : Int) + ((0 : Nat) : Int) + 0 ≤ _
      omega
    · rw [Nat.zero_testBit]
      refine ⟨fun q => absurd q (by decide), fun _ => ?_⟩
      have : f = 0 ∨ f = 1 ∨ f = 2 ∨ f = 3 := by omega
      rcases this with rfl | rfl | rfl | rfl
      · refine ⟨h54.1, ?_⟩
        rw [e2]
        show (z_up (z_up (z_up (z_up w1 2 j 1 20) 2 j 2 800) 2 j 3 800) 2 j 4 800) 2 j 1 = 20
        rw [up_s (by decide), up_s (by decide), up_s (by decide), up_h]
      · refine ⟨h54.2.1, ?_⟩
        rw [e2]
        show (z_up (z_up (z_up (z_up w1 2 j 1 20) 2 j 2 800) 2 j 3 800) 2 j 4 800) 2 j 2 = 800
        rw [up_s (by decide), up_s (by decide), up_h]
      · refine ⟨h54.2.2.1, ?_⟩
        rw [e2]
        show (z_up (z_up (z_up (z_up w1 2 j 1 20) 2 j 2 800) 2 j 3 800) 2 j 4 800) 2 j 3 = 800
        rw [up_s (by decide), up_h]
      · refine ⟨h54.2.2.2, ?_⟩
        rw [e2]
        show (z_up (z_up (z_up (z_up w1 2 j 1 20) 2 j 2 800) 2 j 3 800) 2 j 4 800) 2 j 4 = 800
        rw [up_h]
  obtain ⟨w3, v3, t1, t2, t3, t4, t5⟩ := l_loop (d := d) (d' := d') ht 13 0 [] w2 wm 0 (by omega) hLU (by decide) (by decide) h0.2.2.2
  have fr1 : z_fr [1, 2, 5, 13, 14, 15, 16] w w3 := fr_tr (fr_sub p2 (by decide)) (fr_tr (fr_sub fr (by decide)) t3.1)
  have hix : ∀ i, i ≠ j → w3 1 i = w 1 i ∧ w3 2 i = w 2 i ∧ w3 13 i = w 13 i ∧ w3 14 i = w 14 i ∧ w3 15 i = w 15 i ∧ w3 16 i = w 16 i := fun i hi => by
    obtain ⟨g1, g2, g3, g4, g5, g6⟩ := t3.2.1 i hi
    have c1 : w2 1 i = w 1 i := by
      rw [← p2 1 (by decide)]
      funext s
      rw [e1, up_i hi, up_i hi]
    have c2 : w2 2 i = w 2 i := by
      rw [← p2 2 (by decide)]
      funext s
      rw [e2, up_i hi, up_i hi, up_i hi, up_i hi]
    have c13 : w2 13 = w 13 := by rw [fr 13 (by decide), p2 13 (by decide)]
    have c14 : w2 14 = w 14 := by rw [fr 14 (by decide), p2 14 (by decide)]
    have c15 : w2 15 = w 15 := by rw [fr 15 (by decide), p2 15 (by decide)]
    have c16 : w2 16 = w 16 := by rw [fr 16 (by decide), p2 16 (by decide)]
    exact ⟨by rw [g1, c1], by rw [g2, c2], by rw [g3, c13], by rw [g4, c14], by rw [g5, c15], by rw [g6, c16]⟩
  refine ⟨w3, v3, by rw [hrun]; exact t1, t2, ⟨fr1, hix⟩, t4, ?_⟩
  rcases t5 with ⟨x, Cs, hl, ⟨bc, bm, hJ⟩, hPC, hPM, hcl, ⟨hk, hkm⟩, h7, hx, hSL⟩ | ⟨f, hf, hf2⟩
  · exact Or.inl ⟨x, Cs, ⟨hJ.1.1.2.2.1, hJ.1.2.2.1⟩, PC_C Cs 0 hPC (by omega), PM_C Cs 0 hPM (by omega), hcl, by omega, hSL⟩
  · exact Or.inr ⟨f, hf.2.2.1, hf.2.2.2, hf.1, hf2⟩
end
