/-! a text read leaves the rest alike -/
section
variable {w w' : zW}
theorem RW_ix {i : Int} (hc : ∀ c, c ∈ [9, 32, 33, 34, 35, 36, 37, 38, 39, 40] → w' c i = w c i) (h5 : w' 58 0 (12 + i) = w 58 0 (12 + i) ∧ w' 59 0 (12 + i) = w 59 0 (12 + i) ∧ w' 60 0 (12 + i) = w 60 0 (12 + i) ∧ w' 61 0 (12 + i) = w 61 0 (12 + i)) (h62 : w' 62 0 i = w 62 0 i) (h63 : ∀ p, 12 * i ≤ p → p < 12 * i + 12 → w' 63 0 p = w 63 0 p) (h64 : ∀ p, 864 * i ≤ p → p < 864 * i + 864 → w' 64 0 p = w 64 0 p) (hR : RW w i) : RW w' i := by
  have e9 := hc 9 (by decide)
  have e34 := hc 34 (by decide)
  have hmd : ∀ q c, 0 ≤ q → q < 6 → 0 ≤ c → c < 144 → md w' i q c = md w i q c := fun q c q0 q1 c0 c1 => by
    unfold md
    exact h64 _ (by omega) (by omega)
  unfold RW WO opw at *
  rw [e9, hc 32 (by decide), hc 33 (by decide), e34, hc 35 (by decide), hc 36 (by decide), hc 37 (by decide), hc 38 (by decide), hc 39 (by decide), hc 40 (by decide), h5.1, h5.2.1, h5.2.2.1, h5.2.2.2, h62]
  obtain ⟨r1, r2, r3, r4, r5, r6, r7⟩ := hR
  refine ⟨r1, r2, r3, r4, fun c c0 c1 => ?_, fun s s0 s1 => ?_, r7⟩
  · rw [hmd 0 c (by decide) (by decide) c0 c1, hmd 1 c (by decide) (by decide) c0 c1, hmd 2 c (by decide) (by decide) c0 c1, hmd 3 c (by decide) (by decide) c0 c1, hmd 4 c (by decide) (by decide) c0 c1, hmd 5 c (by decide) (by decide) c0 c1]
    exact r5 c c0 c1
  · rw [h63 (12 * i + 3 * s) (by omega) (by omega), h63 (12 * i + 3 * s + 1) (by omega) (by omega), h63 (12 * i + 3 * s + 2) (by omega) (by omega)]
    exact r6 s s0 s1
theorem ClC_ix {ci : Int} (h1 : w' 1 ci = w 1 ci) (h13 : w' 13 ci = w 13 ci) (h14 : w' 14 ci = w 14 ci) (h15 : w' 15 ci = w 15 ci) (h16 : w' 16 ci = w 16 ci) : ∀ (Cs : List clau) (k : Int), ClC w ci k Cs → ClC w' ci k Cs := by
  intro Cs
  induction Cs with
  | nil =>
    intro k h
    show w' 1 ci 6 = k
    rw [h1]
    exact h
  | cons C Cs ih =>
    intro k h
    refine ⟨?_, ih (k + 1) h.2⟩
    have := h.1
    unfold clC at *
    rw [h13, h14, h15, h16]
    exact this
theorem ClM_ix {t : Int} {r : Bool} (h50 : ∀ p, 400 * t ≤ p → p < 400 * t + 400 → w' 50 0 p = w 50 0 p) (h52 : ∀ p, 60 * t ≤ p → p < 60 * t + 60 → w' 52 0 p = w 52 0 p) (h53 : w' 53 0 t = w 53 0 t) : ∀ (Cs : List clau) (k : Int), 0 ≤ k → k + Cs.length ≤ 12 → ClM w t r k Cs → ClM w' t r k Cs := by
  intro Cs
  induction Cs with
  | nil =>
    intro k _ _ h
    show w' 53 0 t = k
    rw [h53]
    exact h
  | cons C Cs ih =>
    intro k k0 hk h
    rw [List.length_cons] at hk
    obtain ⟨⟨c1, c2⟩, c3⟩ := h
    have e0 := h52 (60 * t + 5 * k) (by omega) (by omega)
    have e1 := h52 (60 * t + 5 * k + 1) (by omega) (by omega)
    have e2 := h52 (60 * t + 5 * k + 2) (by omega) (by omega)
    have e3 := h52 (60 * t + 5 * k + 3) (by omega) (by omega)
    have e4 := h52 (60 * t + 5 * k + 4) (by omega) (by omega)
    refine ⟨⟨?_, ?_⟩, ih (k + 1) (by omega) (by omega) c3⟩
    · unfold clMs at *
      by_cases hr : r = true
      · rw [if_pos hr] at c1 ⊢
        rw [e0]
        exact c1
      · rw [if_neg hr] at c1 ⊢
        obtain ⟨x1, x2, x3, x4⟩ := c1
        rw [e1, e2]
        exact ⟨x1, seg_congr (fun j j0 j1 => h50 _ (by omega) (by omega)) x2, x3, x4⟩
    · rcases c2 with ⟨x1, x2⟩ | ⟨x1, x2, x3, x4, x5⟩
      · exact Or.inl ⟨x1, by rw [e3]; exact x2⟩
      · refine Or.inr ⟨x1, by rw [e3]; exact x2, ?_, by rw [e3, e4]; exact x4, by rw [e4]; exact x5⟩
        rw [e3]
        exact seg_congr (fun j j0 j1 => h50 _ (by omega) (by omega)) x3
theorem RC_ix {i : Int} {Cs : List clau} (h26 : w' 26 = w 26) (h27 : w' 27 = w 27) (hc : ∀ c, c ∈ [9, 33, 34, 35, 36, 37] → w' c i = w c i) (hR : RC w i Cs) : RC w' i Cs := by
  have ho' : opw w' i = opw w i := by
    show opn (w' 9 i 0) (w' 9 i 1) (w' 34 i) = opn (w 9 i 0) (w 9 i 1) (w 34 i)
    rw [hc 9 (by decide), hc 34 (by decide)]
  intro e e0 e1 hn c hc1 ho
  have hc' : cA w' i e Cs = cA w i e Cs := by
    unfold cA
    rw [hc 33 (by decide), hc 35 (by decide), hc 36 (by decide), hc 37 (by decide)]
  rw [ho'] at ho
  rw [h27] at hn
  rw [h26, hc']
  exact hR e e0 e1 hn c hc1 ho
theorem RS_ix {s : Int} {G : Int → Int} (hc : ∀ c, c ∈ [4, 8, 19, 29, 30, 31] → w' c = w c) (h104 : w 10 0 4 ≤ w' 10 0 4) (h105 : w 10 0 5 ≤ w' 10 0 5) (hw : ∀ i, 0 ≤ i → i < w 10 0 4 → w' 9 i = w 9 i ∧ w' 34 i = w 34 i) (hR : RS w s G) : RS w' s G := by
  obtain ⟨h1, h2⟩ := hR
  refine ⟨?_, ?_⟩
  · unfold RP at *
    rw [hc 31 (by decide)]
    exact h1
  · rw [hc 8 (by decide)]
    rcases h2 with h2 | h2
    · exact Or.inl h2
    · right
      obtain ⟨b1, ⟨b2, b2', b2''⟩, ⟨b3, b3', b3''⟩, b4, b5, b6, b7, b8, b9, b10, b11, b12⟩ := h2
      obtain ⟨e9, e34⟩ := hw (G 0) b2' b2''
      have ho : opw w' (G 0) = opw w (G 0) := by
        show opn (w' 9 (G 0) 0) (w' 9 (G 0) 1) (w' 34 (G 0)) = opn (w 9 (G 0) 0) (w 9 (G 0) 1) (w 34 (G 0))
        rw [e9, e34]
      unfold RB
      rw [hc 8 (by decide), hc 4 (by decide), hc 19 (by decide), ho]
      refine ⟨b1, ⟨b2, b2', by omega⟩, ⟨b3, b3', by omega⟩, b4, b5, b6, b7, b8, b9, b10, b11, ?_⟩
      unfold RD at *
      rw [hc 29 (by decide), hc 30 (by decide), e9]
      exact b12
theorem Sim_txt {LS RX LS' RX' : Int → List clau} (hS : Sim LS RX w) (h5 : w' 5 0 1 = 0 ∧ w' 11 0 1 = 0)
    (hcnt : (w' 49 0 0 = w' 10 0 4 ∧ 0 ≤ w' 10 0 4 ∧ w' 10 0 4 ≤ 4) ∧ (w' 49 0 1 = w' 10 0 5 ∧ 0 ≤ w' 10 0 5 ∧ w' 10 0 5 ≤ 6) ∧ w' 49 0 2 = w' 10 0 6 ∧ 0 ≤ w' 10 0 6 ∧ w' 10 0 6 ≤ 6)
    (hm : w 10 0 4 ≤ w' 10 0 4 ∧ w 10 0 5 ≤ w' 10 0 5 ∧ w 10 0 6 ≤ w' 10 0 6)
    (hfr : ∀ c, c ∈ [4, 7, 8, 19, 26, 27, 29, 30, 31, 70, 77, 78] → w' c = w c)
    (hwc : ∀ i, 0 ≤ i → i < w 10 0 4 → ∀ c, c ∈ [9, 32, 33, 34, 35, 36, 37, 38, 39, 40] → w' c i = w c i)
    (hwm : ∀ i, 0 ≤ i → i < w 10 0 4 → (w' 58 0 (12 + i) = w 58 0 (12 + i) ∧ w' 59 0 (12 + i) = w 59 0 (12 + i) ∧ w' 60 0 (12 + i) = w 60 0 (12 + i) ∧ w' 61 0 (12 + i) = w 61 0 (12 + i)) ∧ w' 62 0 i = w 62 0 i ∧ (∀ p, 12 * i ≤ p → p < 12 * i + 12 → w' 63 0 p = w 63 0 p) ∧ ∀ p, 864 * i ≤ p → p < 864 * i + 864 → w' 64 0 p = w 64 0 p)
    (hnw : ∀ i, w 10 0 4 ≤ i → i < w' 10 0 4 → RW w' i) (hcol : ∀ i, 0 ≤ i → i < 4 → w' 9 i 0 ≤ 12 ∧ w' 9 i 1 ≤ 12)
    (hlc : ∀ j, 0 ≤ j → j < w 10 0 5 → LS' j = LS j ∧ ∀ c, c ∈ [1, 2, 13, 14, 15, 16] → w' c j = w c j)
    (hlm : ∀ t, (0 ≤ t ∧ t < w 10 0 5) ∨ (6 ≤ t ∧ t < 6 + w 10 0 6) → (∀ p, 400 * t ≤ p → p < 400 * t + 400 → w' 50 0 p = w 50 0 p) ∧ (∀ p, 60 * t ≤ p → p < 60 * t + 60 → w' 52 0 p = w 52 0 p) ∧ w' 53 0 t = w 53 0 t)
    (hl5 : ∀ j, 0 ≤ j → j < w 10 0 5 → w' 54 0 j = w 54 0 j ∧ w' 55 0 j = w 55 0 j ∧ w' 56 0 j = w 56 0 j ∧ w' 57 0 j = w 57 0 j)
    (hnl : ∀ j, w 10 0 5 ≤ j → j < w' 10 0 5 → Rlw w' j (LS' j))
    (hrc : ∀ r, 0 ≤ r → r < w 10 0 6 → RX' r = RX r ∧ ∀ c, c ∈ [1, 13, 14, 15, 16] → w' c (6 + r) = w c (6 + r))
    (hnr : ∀ r, w 10 0 6 ≤ r → r < w' 10 0 6 → Rru w' r (RX' r)) : Sim LS' RX' w' := by
  have hw2 : ∀ i, 0 ≤ i → i < w 10 0 4 → w' 9 i = w 9 i ∧ w' 34 i = w 34 i := fun i i0 i1 => ⟨hwc i i0 i1 9 (by decide), hwc i i0 i1 34 (by decide)⟩
  have hrs : ∀ (s : Int) (G : Int → Int), RS w s G → RS w' s G := fun s G h => RS_ix (fun c hc => hfr c (by revert hc; revert c; decide)) hm.1 hm.2.1 hw2 h
  refine ⟨⟨by omega, by omega, fun k k0 k1 => by omega⟩, hcnt, fun i i0 i1 => ?_, hcol, fun j j0 j1 => ?_, fun r r0 r1 => ?_, ?_, ?_, ?_, fun k k0 k1 => ?_⟩
  · by_cases z : i < w 10 0 4
    · obtain ⟨a1, a2, a3, a4⟩ := hwm i i0 z
      exact RW_ix (hwc i i0 z) a1 a2 a3 a4 (hS.wood i0 z)
    · exact hnw i (by omega) i1
  · by_cases z : j < w 10 0 5
    · obtain ⟨l1, l2⟩ := hlc j j0 z
      obtain ⟨m1, m2, m3⟩ := hlm j (Or.inl ⟨j0, z⟩)
      obtain ⟨n1, n2, n3, n4⟩ := hl5 j j0 z
      obtain ⟨q1, q2, q3, q4, q5, q6⟩ := hS.law j0 z
      rw [l1]
      refine ⟨?_, ?_, ClC_ix (l2 1 (by decide)) (l2 13 (by decide)) (l2 14 (by decide)) (l2 15 (by decide)) (l2 16 (by decide)) _ _ q3, ClM_ix m1 m2 m3 _ _ (Int.le_refl 0) (by omega) q4, q5, q6⟩
      · unfold lwB at *
        rw [l2 2 (by decide)]
        exact q1
      · rw [l2 2 (by decide), n1, n2, n3, n4]
        exact q2
    · exact hnl j (by omega) j1
  · by_cases z : r < w 10 0 6
    · obtain ⟨l1, l2⟩ := hrc r r0 z
      obtain ⟨m1, m2, m3⟩ := hlm (6 + r) (Or.inr ⟨by omega, by omega⟩)
      obtain ⟨q1, q2, q3, q4, q5⟩ := hS.rule r0 z
      rw [l1]
      exact ⟨ClC_ix (l2 1 (by decide)) (l2 13 (by decide)) (l2 14 (by decide)) (l2 15 (by decide)) (l2 16 (by decide)) _ _ q1, ClM_ix m1 m2 m3 _ _ (Int.le_refl 0) (by omega) q2, q3, q4, q5⟩
    · exact hnr r (by omega) r1
  · rw [hfr 7 (by decide)]; exact hS.set
  · rw [hfr 70 (by decide)]
    exact hrs 0 _ hS.now
  · rw [hfr 8 (by decide), hfr 7 (by decide), hfr 70 (by decide)]
    intro q
    obtain ⟨g1, g2, g3⟩ := hS.rdy q
    rcases hS.now.2 with z | z
    · omega
    · have b2 := z.2.1
      have b3 := z.2.2.1
      have hl := (hlc (w 7 0 1) (by omega) (by omega)).1
      refine ⟨g1, g2, ?_⟩
      rw [hl]
      exact RC_ix (hfr 26 (by decide)) (hfr 27 (by decide)) (fun c hc => hwc (w 7 0 0) (by omega) (by omega) c (by revert hc; revert c; decide)) g3
  · obtain ⟨a1, a2, a3⟩ := hS.img k0 k1
    rw [hfr 8 (by decide), hfr 78 (by decide)]
    refine ⟨a1, a2, fun q => ?_⟩
    have hi : im w' k = im w k := by unfold im; rw [hfr 77 (by decide)]
    rw [hi]
    exact hrs (1 + k) _ (a3 q)
end
/-! the model's text, its beginning and its end -/
section
variable {d : Nat} {w : zW}
def TB (t : Int) (w wS : zW) : Prop := (mF [51, 53, 54, 55, 56, 57, 58, 60, 62, 64] [18, 19, 21, 22, 24] w wS ∧ (∀ s, s ≠ t → wS 51 0 s = w 51 0 s ∧ wS 53 0 s = w 53 0 s ∧ wS 54 0 s = w 54 0 s ∧ wS 55 0 s = w 55 0 s ∧ wS 56 0 s = w 56 0 s ∧ wS 57 0 s = w 57 0 s ∧ wS 58 0 s = w 58 0 s ∧ wS 60 0 s = w 60 0 s)) ∧ (wS 11 0 21 = t ∧ wS 11 0 18 = 0 ∧ wS 11 0 19 = 0 ∧ wS 11 0 22 = 0 ∧ wS 11 0 24 = 0) ∧ (wS 51 0 t = 0 ∧ wS 53 0 t = 0) ∧ (wS 54 0 t = -1 ∧ wS 55 0 t = -1 ∧ wS 56 0 t = -1 ∧ wS 57 0 t = -1) ∧ wS 58 0 t = -1 ∧ wS 60 0 t = -1
theorem TB_w {t : Int} : TB t w (z_up (z_up (z_up (z_up (z_up (z_up (z_up (z_up (z_up (z_up (z_up (z_up (z_up w 11 0 21 t) 51 0 t 0) 53 0 t 0) 54 0 t (-1)) 55 0 t (-1)) 56 0 t (-1)) 57 0 t (-1)) 58 0 t (-1)) 60 0 t (-1)) 11 0 24 0) 11 0 18 0) 11 0 19 0) 11 0 22 0) := by
  refine ⟨⟨mF_tr (mF_tr (mF_tr (mF_tr (mF_tr (mF_tr (mF_tr (mF_tr (mF_tr (mF_tr (mF_tr (mF_tr (mF_11 (by decide)) (mF_up (by decide) (by decide))) (mF_up (by decide) (by decide))) (mF_up (by decide) (by decide))) (mF_up (by decide) (by decide))) (mF_up (by decide) (by decide))) (mF_up (by decide) (by decide))) (mF_up (by decide) (by decide))) (mF_up (by decide) (by decide))) (mF_11 (by decide))) (mF_11 (by decide))) (mF_11 (by decide))) (mF_11 (by decide)), fun s hs => ?_⟩, ⟨?_, ?_, ?_, ?_, ?_⟩, ⟨?_, ?_⟩, ⟨?_, ?_, ?_, ?_⟩, ?_, ?_⟩
  · refine ⟨?_, ?_, ?_, ?_, ?_, ?_, ?_, ?_⟩
    all_goals
      unfold z_up
      simp [hs]
  all_goals
    unfold z_up
    simp
theorem m_text_12 {a t : Int} (ha : (a = 1 ∧ t = w 49 0 1) ∨ (a = 2 ∧ t = 6 + w 49 0 2)) (hc : 0 ≤ w 49 0 a ∧ w 49 0 a < 6) : ∃ wS, M_text (d + 1) a w = TX d a wS ∧ TB t w wS ∧ wS 62 = w 62 ∧ wS 64 = w 64 := by
  refine ⟨_, ?_, TB_w (t := t), ?_, ?_⟩
  · have hfo : ∀ u : zW, M_firstOf d a u = some (if a = 1 then 0 else 6, u) := fun u => by
      rw [e_M_firstOf, if_neg (by omega)]
      by_cases z : a = 1
      · rw [if_pos z, if_pos z]
      · rw [if_neg z, if_neg z]
    have ht : (if a = 1 then (0 : Int) else 6) + w 49 0 a = t := by
      rcases ha with ⟨h1, h2⟩ | ⟨h1, h2⟩
      · rw [if_pos h1, h1, h2]; omega
      · rw [if_neg (by omega), h1, h2]
    have hct : 0 ≤ t ∧ t < 12 := by
      rcases ha with ⟨h1, h2⟩ | ⟨h1, h2⟩
      · rw [h1] at hc; omega
      · rw [h1] at hc; omega
    rw [e_M_text, m_in, if_pos (by omega), bnd]
    dsimp only
    rw [if_neg (by decide), gd_t (by omega), if_neg (by omega), e_M_text_4, if_neg (by omega), hfo, bnd]
    dsimp only
    simp only [ht]
    rw [gd_t (by omega), gd_t (by omega), gd_t (by omega), gd_t (by omega), gd_t (by omega), gd_t (by omega), gd_t (by omega), gd_t (by omega), gd_t (by omega), gd_t (by omega), if_neg (by omega), e_M_text_10]
    rfl
  · funext x y
    rw [up_c (by decide), up_c (by decide), up_c (by decide), up_c (by decide), up_c (by decide), up_c (by decide), up_c (by decide), up_c (by decide), up_c (by decide), up_c (by decide), up_c (by decide), up_c (by decide), up_c (by decide)]
  · funext x y
    rw [up_c (by decide), up_c (by decide), up_c (by decide), up_c (by decide), up_c (by decide), up_c (by decide), up_c (by decide), up_c (by decide), up_c (by decide), up_c (by decide), up_c (by decide), up_c (by decide), up_c (by decide)]
/-- the end of a text that has a fault -/
theorem m_text_f {a f : Int} (hf : w 11 0 19 = f) (h : 0 < f ∧ f ≤ 4000) : M_text_17 (d + 1) a w = some (-2 - f, z_up w 11 0 1 0) := by
  rw [e_M_text_17, hf, if_neg (by omega), gd_t (by omega)]
/-- the end of a text without one -/
theorem m_text_21 {a t c : Int} (h21 : w 11 0 21 = t) (ht : 0 ≤ t ∧ t < 16) (ha : 0 ≤ a ∧ a < 3) (hc : w 49 0 a = c) (hc4 : 0 ≤ c ∧ c ≤ 6) : ∃ w', M_text_21 d a w = some (c, w') ∧ mF [49, 54, 55, 56, 57] [] w w' ∧ (∀ s, s ≠ a → w' 49 0 s = w 49 0 s) ∧ w' 49 0 a = c + 1 ∧ (∀ s, s ≠ t → w' 54 0 s = w 54 0 s ∧ w' 55 0 s = w 55 0 s ∧ w' 56 0 s = w 56 0 s ∧ w' 57 0 s = w 57 0 s) ∧ w' 54 0 t = (if 0 ≤ w 54 0 t then w 54 0 t else 20) ∧ w' 55 0 t = (if 0 ≤ w 55 0 t then w 55 0 t else 800) ∧ w' 56 0 t = (if 0 ≤ w 56 0 t then w 56 0 t else 800) ∧ w' 57 0 t = (if 0 ≤ w 57 0 t then w 57 0 t else 800) := by
  -- one number
  have one : ∀ (k : Nat) (x : Int) (u : zW) (P Q : zW → zR), (k = 54 ∨ k = 55 ∨ k = 56 ∨ k = 57) → u 11 0 21 = t → (∀ v, P v = gd (0 ≤ v 11 0 21 ∧ v 11 0 21 < 16) (if 0 ≤ v k 0 (v 11 0 21) then Q v else gd (0 ≤ v 11 0 21 ∧ v 11 0 21 < 16) (Q (z_up v k 0 (v 11 0 21) x)))) → ∃ u', P u = Q u' ∧ u' 11 0 21 = t ∧ mF [k] [] u u' ∧ (∀ s, s ≠ t → u' k 0 s = u k 0 s) ∧ u' k 0 t = if 0 ≤ u k 0 t then u k 0 t else x := fun k x u P Q hk h21u hP => by
    rw [hP, h21u, gd_t ht]
    by_cases z : 0 ≤ u k 0 t
    · exact ⟨u, by rw [if_pos z], h21u, mF_rf _ _ _, fun _ _ => rfl, by rw [if_pos z]⟩
    · exact ⟨z_up u k 0 t x, by rw [if_neg z, gd_t ht], by rw [up_c (by omega)]; exact h21u, mF_up List.mem_cons_self (by omega), fun s hs => up_s hs, by rw [if_neg z, up_h]⟩
  obtain ⟨w1, a1, a2, a3, a4, a5⟩ := one 54 20 w (fun v => M_text_21 d a v) (fun v => M_text_23 d a v) (by decide) h21 (fun v => by rw [e_M_text_21])
  obtain ⟨w2, b1, b2, b3, b4, b5⟩ := one 55 800 w1 (fun v => M_text_23 d a v) (fun v => M_text_25 d a v) (by decide) a2 (fun v => by rw [e_M_text_23])
  obtain ⟨w3, c1, c2, c3, c4, c5⟩ := one 56 800 w2 (fun v => M_text_25 d a v) (fun v => M_text_27 d a v) (by decide) b2 (fun v => by rw [e_M_text_25])
  obtain ⟨w4, d1, d2, d3, d4, d5⟩ := one 57 800 w3 (fun v => M_text_27 d a v) (fun v => M_text_29 d a v) (by decide) c2 (fun v => by rw [e_M_text_27])
  have m14 : mF [54, 55, 56, 57] [] w w4 := mF_tr (mF_tr (mF_tr (mF_sub a3 (by decide) (by decide)) (mF_sub b3 (by decide) (by decide))) (mF_sub c3 (by decide) (by decide))) (mF_sub d3 (by decide) (by decide))
  have e49 : w4 49 = w 49 := m14.1 49 (by decide) (by decide)
  have k54 : w4 54 = w1 54 := by rw [d3.1 54 (by decide) (by decide), c3.1 54 (by decide) (by decide), b3.1 54 (by decide) (by decide)]
  have k55 : w4 55 = w2 55 := by rw [d3.1 55 (by decide) (by decide), c3.1 55 (by decide) (by decide)]
  have k55' : w1 55 = w 55 := a3.1 55 (by decide) (by decide)
  have k56 : w4 56 = w3 56 := d3.1 56 (by decide) (by decide)
  have k56' : w2 56 = w 56 := by rw [b3.1 56 (by decide) (by decide), a3.1 56 (by decide) (by decide)]
  have k57' : w3 57 = w 57 := by rw [c3.1 57 (by decide) (by decide), b3.1 57 (by decide) (by decide), a3.1 57 (by decide) (by decide)]
  have u : ∀ q : Nat, q ≠ 49 → (z_up w4 49 0 a (c + 1)) q = w4 q := fun q hq => upc hq
  refine ⟨z_up w4 49 0 a (c + 1), ?_, mF_tr (mF_sub m14 (by decide) (by decide)) (mF_up (by decide) (by decide)), fun s hs => by rw [up_s hs, e49], up_h, fun s hs => ⟨?_, ?_, ?_, ?_⟩, ?_, ?_, ?_, ?_⟩
  · have hx : (z_up w4 49 0 a (c + 1)) 49 0 a = c + 1 := up_h
    rw [a1, b1, c1, d1, e_M_text_29, e49, hc, gd_t ha, gd_t (by omega), gd_t ha, gd_t ha, gd_t (by rw [hx]; omega), hx, show c + 1 - 1 = c by omega]
  · rw [u 54 (by decide), k54]; exact a4 s hs
  · rw [u 55 (by decide), k55, b4 s hs, k55']
  · rw [u 56 (by decide), k56, c4 s hs, k56']
  · rw [u 57 (by decide), d4 s hs, k57']
  · rw [u 54 (by decide), k54]; exact a5
  · rw [u 55 (by decide), k55, b5, k55']
  · rw [u 56 (by decide), k56, c5, k56']
  · rw [u 57 (by decide), d5, k57']
end
