section
variable {d : Nat} {w : zW} {LS RX : Int → List clau}
theorem m_text_8 {i : Int} (hi : 0 ≤ i ∧ i < 4) {u : zW} (h49 : u 49 0 0 = i) : ∀ (m : Nat) (c : Int), 0 ≤ c → c + m = 864 → M_text_8 (d + 1) 0 c (z_row u 64 0 (flF (u 64 0) (864 * i) (864 * i + c) 0)) = M_text_10 (d + 1) 0 (z_row u 64 0 (flF (u 64 0) (864 * i) (864 * i + 864) 0)) := by
  intro m
  induction m with
  | zero =>
    intro c hc hm
    rw [e_M_text_8, if_pos (by omega), show c = 864 by omega]
  | succ m ih =>
    intro c hc hm
    rw [e_M_text_8, if_neg (by omega), gd_t (by decide), row_c (by decide), h49, m_laidAt hi (by decide), bnd]
    dsimp only
    rw [gd_t (by omega), gd_t (by omega), gd_t (by omega), show 144 * (6 * i + 0) + c = 864 * i + c by omega, row_up, flF_up (by omega), show 864 * i + c + 1 = 864 * i + (c + 1) by omega]
    exact ih (c + 1) (by omega) (by omega)
theorem m_text_0 {i : Int} (hi : w 49 0 0 = i) (h4 : 0 ≤ i ∧ i < 4) : ∃ wS, M_text (d + 1) 0 w = TX d 0 wS ∧ TB (12 + i) w wS ∧ (wS 62 0 i = 0 ∧ ∀ s, s ≠ i → wS 62 0 s = w 62 0 s) ∧ (∀ p, 864 * i ≤ p → p < 864 * i + 864 → wS 64 0 p = 0) ∧ ∀ p, (p < 864 * i ∨ 864 * i + 864 ≤ p) → wS 64 0 p = w 64 0 p := by
  have hfo : ∀ u : zW, M_firstOf d 0 u = some (12, u) := fun u => by rw [e_M_firstOf, if_pos rfl]
  -- the world behind the first writes
  obtain ⟨u, hu⟩ : ∃ u, u = z_up (z_up (z_up (z_up (z_up (z_up (z_up (z_up (z_up (z_up w 11 0 21 (12 + i)) 51 0 (12 + i) 0) 53 0 (12 + i) 0) 54 0 (12 + i) (-1)) 55 0 (12 + i) (-1)) 56 0 (12 + i) (-1)) 57 0 (12 + i) (-1)) 58 0 (12 + i) (-1)) 60 0 (12 + i) (-1)) 62 0 i 0 := ⟨_, rfl⟩
  have u49 : u 49 0 0 = i := by
    rw [hu, up_c (by decide), up_c (by decide), up_c (by decide), up_c (by decide), up_c (by decide), up_c (by decide), up_c (by decide), up_c (by decide), up_c (by decide), up_c (by decide)]
    exact hi
  have hrun : M_text (d + 1) 0 w = M_text_8 (d + 1) 0 0 u := by
    have h1 : ¬ (1 : Int) = 0 := by decide
    rw [e_M_text, m_in, if_pos (show (0 : Int) ≤ 0 ∧ (0 : Int) ≤ 2 by decide), bnd]
    dsimp only
    rw [if_neg h1, gd_t (by decide), if_pos rfl, hi, e_M_text_4, if_neg (by omega), hfo, bnd]
    dsimp only
    simp only [hi]
    rw [gd_t (by omega), gd_t (by omega), gd_t (by omega), gd_t (by omega), gd_t (by omega), gd_t (by omega), gd_t (by omega), gd_t (by omega), gd_t (by omega), gd_t (by omega), if_pos trivial, gd_t (by decide), gd_t (by omega), ← hu]
  have h8 := m_text_8 (d := d) h4 u49 864 0 (Int.le_refl 0) (by decide)
  rw [show 864 * i + 0 = 864 * i by omega, flF_0, row_self] at h8
  refine ⟨z_up (z_up (z_up (z_up (z_row u 64 0 (flF (u 64 0) (864 * i) (864 * i + 864) 0)) 11 0 24 0) 11 0 18 0) 11 0 19 0) 11 0 22 0, ?_, ⟨⟨?_, fun s hs => ?_⟩, ⟨?_, ?_, ?_, ?_, ?_⟩, ⟨?_, ?_⟩, ⟨?_, ?_, ?_, ?_⟩, ?_, ?_⟩, ⟨?_, fun s hs => ?_⟩, fun p p0 p1 => ?_, fun p hp => ?_⟩
  · rw [hrun, h8, e_M_text_10]
    rfl
  · rw [hu]
    exact mF_tr (mF_tr (mF_tr (mF_tr (mF_tr (mF_tr (mF_tr (mF_tr (mF_tr (mF_tr (mF_tr (mF_tr (mF_tr (mF_tr (mF_11 (by decide)) (mF_up (by decide) (by decide))) (mF_up (by decide) (by decide))) (mF_up (by decide) (by decide))) (mF_up (by decide) (by decide))) (mF_up (by decide) (by decide))) (mF_up (by decide) (by decide))) (mF_up (by decide) (by decide))) (mF_up (by decide) (by decide))) (mF_up (by decide) (by decide))) (mF_row (by decide) (by decide))) (mF_11 (by decide))) (mF_11 (by decide))) (mF_11 (by decide))) (mF_11 (by decide))
  · rw [hu]
    refine ⟨?_, ?_, ?_, ?_, ?_, ?_, ?_, ?_⟩
    all_goals
      unfold z_up z_row
      simp [hs]
  · rw [hu]; unfold z_up z_row; simp
  · rw [hu]; unfold z_up z_row; simp
  · rw [hu]; unfold z_up z_row; simp
  · rw [hu]; unfold z_up z_row; simp
  · rw [hu]; unfold z_up z_row; simp
  · rw [hu]; unfold z_up z_row; simp
  · rw [hu]; unfold z_up z_row; simp
  · rw [hu]; unfold z_up z_row; simp
  · rw [hu]; unfold z_up z_row; simp
  · rw [hu]; unfold z_up z_row; simp
  · rw [hu]; unfold z_up z_row; simp
  · rw [hu]; unfold z_up z_row; simp
  · rw [hu]; unfold z_up z_row; simp
  · rw [hu]; unfold z_up z_row; simp
  · rw [hu]; unfold z_up z_row; simp [hs]
  · rw [up_c (by decide), up_c (by decide), up_c (by decide), up_c (by decide), row_h]
    unfold flF
    rw [if_pos ⟨p0, p1⟩]
  · rw [up_c (by decide), up_c (by decide), up_c (by decide), up_c (by decide), row_h]
    unfold flF
    rw [if_neg (by omega), hu, up_c (by decide), up_c (by decide), up_c (by decide), up_c (by decide), up_c (by decide), up_c (by decide), up_c (by decide), up_c (by decide), up_c (by decide), up_c (by decide)]
theorem WU_lay {T : Int → Int} {n i : Int} {x : Nat} {ws vm : zW} (hW : WU T n i x ws vm) : ∃ C R X Y : Int, ((vm 58 0 (12 + i) = -1 ∧ C = 12 ∧ R = 12) ∨ (vm 58 0 (12 + i) = C ∧ vm 59 0 (12 + i) = R ∧ (2 ≤ C ∧ C ≤ 12) ∧ 2 ≤ R ∧ R ≤ 12)) ∧ ((vm 60 0 (12 + i) = -1 ∧ X = 0 ∧ Y = 0) ∨ (vm 60 0 (12 + i) = X ∧ vm 61 0 (12 + i) = Y ∧ (0 ≤ X ∧ X ≤ 11) ∧ 0 ≤ Y ∧ Y ≤ 11)) := by
  obtain ⟨-, -, -, hCo, hHo, -, -⟩ := hW
  have h1 : ∃ C R : Int, ((vm 58 0 (12 + i) = -1 ∧ C = 12 ∧ R = 12) ∨ (vm 58 0 (12 + i) = C ∧ vm 59 0 (12 + i) = R ∧ (2 ≤ C ∧ C ≤ 12) ∧ 2 ≤ R ∧ R ≤ 12)) := by
    cases hb : x.testBit 0
    · exact ⟨12, 12, Or.inl ⟨(hCo.2 hb).1, rfl, rfl⟩⟩
    · obtain ⟨g1, g2, g3, g4⟩ := hCo.1 hb
      exact ⟨_, _, Or.inr ⟨g3, g4, g1, g2⟩⟩
  have h2 : ∃ X Y : Int, ((vm 60 0 (12 + i) = -1 ∧ X = 0 ∧ Y = 0) ∨ (vm 60 0 (12 + i) = X ∧ vm 61 0 (12 + i) = Y ∧ (0 ≤ X ∧ X ≤ 11) ∧ 0 ≤ Y ∧ Y ≤ 11)) := by
    cases hb : x.testBit 1
    · exact ⟨0, 0, Or.inl ⟨(hHo.2 hb).1, rfl, rfl⟩⟩
    · obtain ⟨g1, g2, g3⟩ := hHo.1 hb
      exact ⟨_, _, Or.inr ⟨rfl, rfl, g1, g2⟩⟩
  obtain ⟨C, R, h1⟩ := h1
  obtain ⟨X, Y, h2⟩ := h2
  exact ⟨C, R, X, Y, h1, h2⟩
abbrev wS' : List Nat := [49, 51, 53, 54, 55, 56, 57, 58, 59, 60, 61, 62, 63, 64, 66, 67]
/-- what a wood's text at i may touch of the model -/
def TW (i : Int) (w w' : zW) : Prop := (∀ c : Nat, c ∉ wS' → c ≠ 11 → w' c = w c) ∧ (∀ s, s ≠ 12 + i → w' 51 0 s = w 51 0 s ∧ w' 53 0 s = w 53 0 s ∧ w' 54 0 s = w 54 0 s ∧ w' 55 0 s = w 55 0 s ∧ w' 56 0 s = w 56 0 s ∧ w' 57 0 s = w 57 0 s ∧ w' 58 0 s = w 58 0 s ∧ w' 59 0 s = w 59 0 s ∧ w' 60 0 s = w 60 0 s ∧ w' 61 0 s = w 61 0 s) ∧ (∀ s, s ≠ i → w' 62 0 s = w 62 0 s) ∧ (∀ p, (p < 12 * i ∨ 12 * i + 12 ≤ p) → w' 63 0 p = w 63 0 p) ∧ ∀ p, (p < 864 * i ∨ 864 * i + 864 ≤ p) → w' 64 0 p = w 64 0 p
theorem TW_tr {i : Int} {w w' w'' : zW} (h : TW i w w') (h' : TW i w' w'') : TW i w w'' := by
  obtain ⟨a1, a2, a3, a4, a5⟩ := h
  obtain ⟨b1, b2, b3, b4, b5⟩ := h'
  refine ⟨fun c hc h11 => (b1 c hc h11).trans (a1 c hc h11), fun s hs => ?_, fun s hs => (b3 s hs).trans (a3 s hs), fun p hp => (b4 p hp).trans (a4 p hp), fun p hp => (b5 p hp).trans (a5 p hp)⟩
  obtain ⟨c1, c2, c3, c4, c5, c6, c7, c8, c9, c10⟩ := a2 s hs
  obtain ⟨d1, d2, d3, d4, d5, d6, d7, d8, d9, d10⟩ := b2 s hs
  exact ⟨d1.trans c1, d2.trans c2, d3.trans c3, d4.trans c4, d5.trans c5, d6.trans c6, d7.trans c7, d8.trans c8, d9.trans c9, d10.trans c10⟩
theorem TB.tw {i : Int} {w wS : zW} (h : TB (12 + i) w wS) (h62 : ∀ s, s ≠ i → wS 62 0 s = w 62 0 s) (h64 : ∀ p, (p < 864 * i ∨ 864 * i + 864 ≤ p) → wS 64 0 p = w 64 0 p) : TW i w wS := by
  obtain ⟨⟨a1, a2⟩, -⟩ := h
  refine ⟨fun c hc h11 => a1.1 c (fun q => hc ?_) h11, fun s hs => ?_, h62, fun p _ => by rw [a1.1 63 (by decide) (by decide)], h64⟩
  · simp only [List.mem_cons, List.not_mem_nil, or_false] at q ⊢
    omega
  · obtain ⟨c1, c2, c3, c4, c5, c6, c7, c8⟩ := a2 s hs
    exact ⟨c1, c2, c3, c4, c5, c6, c7, by rw [a1.1 59 (by decide) (by decide)], c8, by rw [a1.1 61 (by decide) (by decide)]⟩
theorem UF.tw {i : Int} {w w' : zW} (h : UF i w w') : TW i w w' := by
  obtain ⟨a1, a2, a3, a4, a5⟩ := h
  refine ⟨fun c hc h11 => a1.1 c (fun q => hc ?_) h11, fun s hs => ?_, a3, a4, a5⟩
  · simp only [List.mem_cons, List.not_mem_nil, or_false] at q ⊢
    omega
  · obtain ⟨c1, c2, c3, c4⟩ := a2 s hs
    exact ⟨by rw [a1.1 51 (by decide) (by decide)], by rw [a1.1 53 (by decide) (by decide)], by rw [a1.1 54 (by decide) (by decide)], by rw [a1.1 55 (by decide) (by decide)], by rw [a1.1 56 (by decide) (by decide)], by rw [a1.1 57 (by decide) (by decide)], c1, c2, c3, c4⟩
theorem TW_11 {i s v : Int} {w : zW} : TW i w (z_up w 11 0 s v) := ⟨fun c _ h11 => upc h11, fun s _ => ⟨up_c (by decide), up_c (by decide), up_c (by decide), up_c (by decide), up_c (by decide), up_c (by decide), up_c (by decide), up_c (by decide), up_c (by decide), up_c (by decide)⟩, fun s _ => up_c (by decide), fun p _ => up_c (by decide), fun p _ => up_c (by decide)⟩
theorem TW_e {i : Int} {w w' : zW} (hm : mF [49, 54, 55, 56, 57] [] w w') (hs : ∀ s, s ≠ 12 + i → w' 54 0 s = w 54 0 s ∧ w' 55 0 s = w 55 0 s ∧ w' 56 0 s = w 56 0 s ∧ w' 57 0 s = w 57 0 s) : TW i w w' := by
  refine ⟨fun c hc h11 => hm.1 c (fun q => hc ?_) h11, fun s h => ?_, fun s _ => by rw [hm.1 62 (by decide) (by decide)], fun p _ => by rw [hm.1 63 (by decide) (by decide)], fun p _ => by rw [hm.1 64 (by decide) (by decide)]⟩
  · simp only [List.mem_cons, List.not_mem_nil, or_false] at q ⊢
    omega
  · obtain ⟨c4, c5, c6, c7⟩ := hs s h
    exact ⟨by rw [hm.1 51 (by decide) (by decide)], by rw [hm.1 53 (by decide) (by decide)], c4, c5, c6, c7, by rw [hm.1 58 (by decide) (by decide)], by rw [hm.1 59 (by decide) (by decide)], by rw [hm.1 60 (by decide) (by decide)], by rw [hm.1 61 (by decide) (by decide)]⟩
theorem TW_l {i : Int} {w w' : zW} (hm : mF [58, 59, 60, 61, 64, 66, 67] [] w w') (hs : ∀ s, s ≠ 12 + i → w' 58 0 s = w 58 0 s ∧ w' 59 0 s = w 59 0 s ∧ w' 60 0 s = w 60 0 s ∧ w' 61 0 s = w 61 0 s) (h64 : ∀ p, (p < 864 * i ∨ 864 * i + 864 ≤ p) → w' 64 0 p = w 64 0 p) : TW i w w' := by
  refine ⟨fun c hc h11 => hm.1 c (fun q => hc ?_) h11, fun s h => ?_, fun s _ => by rw [hm.1 62 (by decide) (by decide)], fun p _ => by rw [hm.1 63 (by decide) (by decide)], h64⟩
  · simp only [List.mem_cons, List.not_mem_nil, or_false] at q ⊢
    omega
  · obtain ⟨c1, c2, c3, c4⟩ := hs s h
    exact ⟨by rw [hm.1 51 (by decide) (by decide)], by rw [hm.1 53 (by decide) (by decide)], by rw [hm.1 54 (by decide) (by decide)], by rw [hm.1 55 (by decide) (by decide)], by rw [hm.1 56 (by decide) (by decide)], by rw [hm.1 57 (by decide) (by decide)], c1, c2, c3, c4⟩
/-- the glue of woods -/
theorem glueW {w1 w2 : zW} {i : Int} (hS : Sim LS RX w) (hi : i = w 10 0 4) (h4 : i < 4) (hA : z_fr [5, 9, 10, 32, 33, 34, 35, 36, 37, 38, 39, 40, 41] w w1) (hA2 : ∀ q, q ≠ i → ∀ c, c ∈ [9, 32, 33, 34, 35, 36, 37, 38, 39, 40, 41] → w1 c q = w c q) (hB : TW i w1 w2) (h5 : w1 5 0 1 = 0 ∧ w2 11 0 1 = 0) (h10 : w1 10 0 5 = w 10 0 5 ∧ w1 10 0 6 = w 10 0 6) (h49 : w2 49 0 1 = w 49 0 1 ∧ w2 49 0 2 = w 49 0 2) (hcnt : w2 49 0 0 = w1 10 0 4 ∧ w1 10 0 4 ≤ 4) (hm : w 10 0 4 ≤ w1 10 0 4) (hcol : w1 9 i 0 ≤ 12 ∧ w1 9 i 1 ≤ 12) (hnw : ∀ q, w 10 0 4 ≤ q → q < w1 10 0 4 → RW w2 q) : Sim LS RX w2 := by
  obtain ⟨b1, b2, b3, b4, b5⟩ := hB
  have hc := hS.cnt
  have e10 : w2 10 = w1 10 := b1 10 (by decide) (by decide)
  have same : ∀ c : Nat, c ∉ wS' → c ≠ 11 → c ∉ [5, 9, 10, 32, 33, 34, 35, 36, 37, 38, 39, 40, 41] → w2 c = w c := fun c h1 h2 h3 => (b1 c h1 h2).trans (hA c h3)
  refine Sim_txt hS ⟨by rw [b1 5 (by decide) (by decide)]; exact h5.1, h5.2⟩ ⟨by rw [e10]; omega, by rw [e10]; omega, by rw [e10]; omega⟩ ⟨by rw [e10]; exact hm, by rw [e10]; omega, by rw [e10]; omega⟩ (fun c hc => ?_) (fun q q0 q1 c hc => ?_) (fun q q0 q1 => ⟨⟨?_, ?_, ?_, ?_⟩, ?_, fun p p0 p1 => ?_, fun p p0 p1 => ?_⟩) (fun q q0 q1 => hnw q q0 (by rw [e10] at q1; exact q1)) (fun q q0 q1 => ?_) (fun j j0 j1 => ⟨rfl, fun c hc => ?_⟩) (fun t' ht' => ⟨fun p p0 p1 => ?_, fun p p0 p1 => ?_, ?_⟩) (fun j j0 j1 => ?_) (fun j j0 j1 => ?_) (fun r r0 r1 => ⟨rfl, fun c hc => ?_⟩) (fun r r0 r1 => ?_)
  · exact same c (by revert hc; revert c; decide) (by revert hc; revert c; decide) (by revert hc; revert c; decide)
  · rw [b1 c (by revert hc; revert c; decide) (by revert hc; revert c; decide)]
    exact hA2 q (by omega) c (by revert hc; revert c; decide)
  · rw [(b2 (12 + q) (by omega)).2.2.2.2.2.2.1, hA 58 (by decide)]
  · rw [(b2 (12 + q) (by omega)).2.2.2.2.2.2.2.1, hA 59 (by decide)]
  · rw [(b2 (12 + q) (by omega)).2.2.2.2.2.2.2.2.1, hA 60 (by decide)]
  · rw [(b2 (12 + q) (by omega)).2.2.2.2.2.2.2.2.2, hA 61 (by decide)]
  · rw [b3 q (by omega), hA 62 (by decide)]
  · rw [b4 p (by omega), hA 63 (by decide)]
  · rw [b5 p (by omega), hA 64 (by decide)]
  · rw [b1 9 (by decide) (by decide)]
    by_cases z : q = i
    · rw [z]; exact hcol
    · rw [hA2 q z 9 (by decide)]
      exact hS.cols q0 q1
  · rw [same c (by revert hc; revert c; decide) (by revert hc; revert c; decide) (by revert hc; revert c; decide)]
  · rw [same 50 (by decide) (by decide) (by decide)]
  · rw [same 52 (by decide) (by decide) (by decide)]
  · rw [(b2 t' (by omega)).2.1, hA 53 (by decide)]
  · have := b2 j (by omega)
    rw [this.2.2.1, this.2.2.2.1, this.2.2.2.2.1, this.2.2.2.2.2.1, hA 54 (by decide), hA 55 (by decide), hA 56 (by decide), hA 57 (by decide)]
    exact ⟨rfl, rfl, rfl, rfl⟩
  · rw [e10] at j1
    omega
  · rw [same c (by revert hc; revert c; decide) (by revert hc; revert c; decide) (by revert hc; revert c; decide)]
  · rw [e10] at r1
    omega
/-- a wood's text -/
theorem p_textW (hS : Sim LS RX w) (h4 : w 10 0 4 < 4) : ∃ r w1 w2, D_text (d + 60) 0 w = some (r, w1) ∧ M_text (d + 60) 0 w1 = some (r, w2) ∧ Sim LS RX w2 := by
  have hc := hS.cnt
  have hT := hS.tape
  generalize hcn : w 10 0 4 = cn at *
  have hcn4 : 0 ≤ cn ∧ cn < 4 := by omega
  obtain ⟨wS0, -, b2, b3, b4, b5⟩ := m_text_0 (d := d + 59) (w := w) (i := cn) (by omega) hcn4
  have hv0 := MT_of hT (b2.1.1.2 1 (by decide)) (b2.1.1.1 48 (by decide) (by decide))
  obtain ⟨b21, b22, b23, b24, b25⟩ := b2.2
  obtain ⟨wc, v0, r1, -, r3, rl, -, r5⟩ := w_read (d := d + 32) (d' := d + 48) (i := cn) hT hcn4 hv0 b21.1 b21.2 ⟨b24, b25⟩ b3.1 b4
  have ec : wc 10 = w 10 := r3.1 10 (by decide)
  have ecc : wc 10 0 4 = cn := by rw [ec]; exact hcn
  have hD : D_text (d + 60) 0 w = if wc 5 0 2 = 0 then some (cn, z_up (z_up wc 10 0 4 (cn + 1)) 5 0 1 0) else gd (inI (-2 - wc 5 0 2)) (some (-2 - wc 5 0 2, z_up (z_up wc 10 0 4 cn) 5 0 1 0)) := by
    have e1 : (z_up wc 10 0 4 (cn + 1)) 5 0 2 = wc 5 0 2 := up_c (by decide)
    have e2 : (z_up wc 10 0 4 (cn + 0)) 5 0 2 = wc 5 0 2 := up_c (by decide)
    rw [e_D_text, if_pos rfl, hcn, if_neg (by omega), gd_t (by omega), show 0 + cn = cn by omega, r1, bnd]
    dsimp only
    simp only [ecc]
    by_cases z : wc 5 0 2 = 0
    · rw [if_pos z, if_pos z, gd_t (by omega), e_D_text_19, if_pos (by rw [e1]; exact z)]
    · rw [if_neg z, if_neg z, gd_t (by omega), e_D_text_19, if_neg (by rw [e2]; exact z), e2, show cn + 0 = cn by omega]
  have run : ∀ x : Int, ∃ wS v, M_text (d + 60) 0 (z_up (z_up wc 10 0 4 x) 5 0 1 0) = M_text_17 (d + 60) 0 v ∧ TB (12 + cn) (z_up (z_up wc 10 0 4 x) 5 0 1 0) wS ∧ TW cn (z_up (z_up wc 10 0 4 x) 5 0 1 0) wS ∧ UF cn wS v ∧ ((∃ x ws, WU (w 20 0) (w 5 0 1) cn x ws v ∧ SF cn ws wc ∧ (wc 5 0 2 = 0 ∧ v 11 0 19 = 0)) ∨ (∃ f, 0 < f ∧ f ≤ 4000 ∧ wc 5 0 2 = f ∧ v 11 0 19 = f)) := fun x => by
    have e49 : (z_up (z_up wc 10 0 4 x) 5 0 1 0) 49 = w 49 := by rw [upc (by decide), upc (by decide), r3.1 49 (by decide)]
    obtain ⟨wS, c1, c2, c3, c4, c5⟩ := m_text_0 (d := d + 59) (w := z_up (z_up wc 10 0 4 x) 5 0 1 0) (i := cn) (by rw [e49]; omega) hcn4
    obtain ⟨c21, c22, c23, c24, c25⟩ := c2.2
    have hv1 : MT (w 20 0) (w 5 0 1) wS := MT_of hT (by rw [c2.1.1.2 1 (by decide), upc (by decide), upc (by decide), r3.1 11 (by decide)]) (by rw [c2.1.1.1 48 (by decide) (by decide), upc (by decide), upc (by decide), r3.1 48 (by decide)])
    obtain ⟨wc2, v1, q1, q2, q3, -, q4, q5⟩ := w_read (d := d + 32) (d' := d + 48) (i := cn) hT hcn4 hv1 c21.1 c21.2 ⟨c24, c25⟩ c3.1 c4
    have := r1.symm.trans q1
    injection this with this
    injection this with _ this
    subst this
    exact ⟨wS, v1, by rw [c1]; exact q2 0, c2, c2.tw c3.2 c5, q4, q5⟩
  have fA : ∀ x : Int, z_fr [5, 9, 10, 32, 33, 34, 35, 36, 37, 38, 39, 40, 41] w (z_up (z_up wc 10 0 4 x) 5 0 1 0) := fun x => fr_tr (fr_sub r3.1 (by decide)) (fr_tr (fr_up (by decide)) (fr_up (by decide)))
  have fA2 : ∀ (x q : Int), q ≠ cn → ∀ c, c ∈ [9, 32, 33, 34, 35, 36, 37, 38, 39, 40, 41] → (z_up (z_up wc 10 0 4 x) 5 0 1 0) c q = w c q := fun x q hq c hcc => by
    rw [upc (by revert hcc; revert c; decide), upc (by revert hcc; revert c; decide)]
    exact r3.2 q hq c hcc
  have e10 : ∀ (x s : Int), s ≠ 4 → (z_up (z_up wc 10 0 4 x) 5 0 1 0) 10 0 s = w 10 0 s := fun x s hs => by rw [up_c (by decide), up_s hs, ec]
  have e104 : ∀ x : Int, (z_up (z_up wc 10 0 4 x) 5 0 1 0) 10 0 4 = x := fun x => by rw [up_c (by decide), up_h]
  have e49 : ∀ x : Int, (z_up (z_up wc 10 0 4 x) 5 0 1 0) 49 = w 49 := fun x => by rw [upc (by decide), upc (by decide), r3.1 49 (by decide)]
  have e9 : ∀ x : Int, (z_up (z_up wc 10 0 4 x) 5 0 1 0) 9 = wc 9 := fun x => by rw [upc (by decide), upc (by decide)]
  by_cases z : wc 5 0 2 = 0
  · obtain ⟨wS, v, q1, q2, q3, q4, q5⟩ := run (cn + 1)
    rcases q5 with ⟨x, ws, hW, hSF, k1, k2⟩ | ⟨f, f0, f1, f2, f3⟩
    case inr => omega
    have v49 : v 49 = w 49 := by rw [q4.1.1 49 (by decide) (by decide), q2.1.1.1 49 (by decide) (by decide)]; exact e49 _
    have u21 : (z_up v 11 0 1 0) 11 0 21 = 12 + cn := (up_s (by decide)).trans hW.2.1
    have um : ∀ c : Nat, c ≠ 11 → (z_up v 11 0 1 0) c = v c := fun c hc => upc hc
    have umd : ∀ q, md (z_up v 11 0 1 0) cn q = md v cn q := fun q => by
      unfold md
      rw [um 64 (by decide)]
    obtain ⟨C, R, X, Y, g1, g2⟩ := WU_lay hW
    have lays : ∀ C R X Y : Int, ((v 58 0 (12 + cn) = -1 ∧ C = 12 ∧ R = 12) ∨ (v 58 0 (12 + cn) = C ∧ v 59 0 (12 + cn) = R ∧ (2 ≤ C ∧ C ≤ 12) ∧ 2 ≤ R ∧ R ≤ 12)) → ((v 60 0 (12 + cn) = -1 ∧ X = 0 ∧ Y = 0) ∨ (v 60 0 (12 + cn) = X ∧ v 61 0 (12 + cn) = Y ∧ (0 ≤ X ∧ X ≤ 11) ∧ 0 ≤ Y ∧ Y ≤ 11)) → _ := fun C R X Y g1 g2 => m_lays (d := d + 55) (i := cn) (C := C) (R := R) (X := X) (Y := Y) (v := z_up v 11 0 1 0) hcn4 u21 (by rw [um 58 (by decide), um 59 (by decide)]; exact g1) (by rw [um 60 (by decide), um 61 (by decide)]; exact g2)
    obtain ⟨v2, l1, ⟨l2, l3⟩, l4, l5, l6, l7, l8⟩ := lays C R X Y g1 g2
    have w249 : v2 49 = w 49 := by rw [l2.1 49 (by decide) (by decide), um 49 (by decide)]; exact v49
    obtain ⟨w2, m1, m2, m3, m4, m5, -⟩ := m_text_21 (d := d + 60) (w := v2) (a := 0) (t := 12 + cn) (c := cn) ((l2.2 21 List.not_mem_nil).trans u21) (by omega) (by decide) (by rw [w249]; omega) (by omega)
    have hTW : TW cn (z_up (z_up wc 10 0 4 (cn + 1)) 5 0 1 0) w2 := TW_tr q3 (TW_tr q4.tw (TW_tr TW_11 (TW_tr (TW_l l2 l3 l5) (TW_e m2 m5))))
    refine ⟨cn, z_up (z_up wc 10 0 4 (cn + 1)) 5 0 1 0, w2, by rw [hD, if_pos z], ?_, ?_⟩
    · rw [q1, e_M_text_17, k2, if_pos (by decide), if_pos rfl, gd_t (by decide), v49, show w 49 0 0 = cn by omega, l1, bnd]
      exact m1
    · have w249' : ∀ s, s ≠ 0 → w2 49 0 s = w 49 0 s := fun s hs => by rw [m3 s hs, w249]
      refine glueW hS hcn.symm hcn4.2 (fA _) (fA2 _) hTW ⟨up_h, by rw [m2.2 1 List.not_mem_nil, l2.2 1 List.not_mem_nil, up_h]⟩ ⟨e10 _ 5 (by decide), e10 _ 6 (by decide)⟩ ⟨w249' 1 (by decide), w249' 2 (by decide)⟩ ⟨by rw [m4, e104], by rw [e104]; omega⟩ (by rw [e104, hcn]; omega) (by rw [e9]; exact ⟨rl.2.1, rl.2.2⟩) (fun q q0 q1 => ?_)
      rw [e104] at q1
      have hq : q = cn := by omega
      rw [hq]
      refine RW_mk (w' := wc) (v' := v2) hcn4 hW hSF (fun C R X Y g1 g2 => ?_) (by rw [l2.1 62 (by decide) (by decide), um 62 (by decide)]) (by rw [l2.1 63 (by decide) (by decide), um 63 (by decide)]) (fun c hcc => ?_) (fun c hcc => ?_)
      · obtain ⟨v3, t1, -, t4, -, t6, t7, t8⟩ := lays C R X Y g1 g2
        have := l1.symm.trans t1
        injection this with this
        injection this with _ this
        subst this
        exact ⟨t4, fun c c0 c1 => by rw [t6 c c0 c1, umd], fun q c hq c0 c1 => by rw [t7 q c hq c0 c1, umd], t8⟩
      · rw [hTW.1 c (by revert hcc; revert c; decide) (by revert hcc; revert c; decide), upc (by revert hcc; revert c; decide), upc (by revert hcc; revert c; decide)]
      · exact m2.1 c (by revert hcc; revert c; decide) (by revert hcc; revert c; decide)
  · obtain ⟨wS, v, q1, q2, q3, q4, q5⟩ := run cn
    rcases q5 with ⟨x, ws, -, -, k1, k2⟩ | ⟨f, f0, f1, f2, f3⟩
    case inl => exact absurd k1 z
    have hTW : TW cn (z_up (z_up wc 10 0 4 cn) 5 0 1 0) (z_up v 11 0 1 0) := TW_tr q3 (TW_tr q4.tw TW_11)
    have v49 : (z_up v 11 0 1 0) 49 = w 49 := by rw [upc (by decide), q4.1.1 49 (by decide) (by decide), q2.1.1.1 49 (by decide) (by decide)]; exact e49 _
    refine ⟨-2 - f, z_up (z_up wc 10 0 4 cn) 5 0 1 0, z_up v 11 0 1 0, by rw [hD, if_neg z, f2, gd_t (by omega)], ?_, ?_⟩
    · rw [q1]
      exact m_text_f f3 ⟨f0, f1⟩
    · refine glueW hS hcn.symm hcn4.2 (fA _) (fA2 _) hTW ⟨up_h, up_h⟩ ⟨e10 _ 5 (by decide), e10 _ 6 (by decide)⟩ ⟨by rw [v49], by rw [v49]⟩ ⟨by rw [v49, e104]; omega, by rw [e104]; omega⟩ (by rw [e104, hcn]; exact Int.le_refl _) (by rw [e9]; exact ⟨rl.2.1, rl.2.2⟩) (fun q q0 q1 => ?_)
      rw [e104] at q1
      omega
/-- TEXT -/
theorem p_text (hS : Sim LS RX w) (a1 : Int) : ∃ r w1 w2 LS' RX', D_text (d + 60) a1 w = some (r, w1) ∧ M_text (d + 60) a1 w1 = some (r, w2) ∧ Sim LS' RX' w2 := by
  have hc := hS.cnt
  by_cases z0 : a1 = 0
  · subst z0
    by_cases h : w 10 0 4 < 4
    · obtain ⟨r, w1, w2, p1, p2, p3⟩ := p_textW (d := d) hS h
      exact ⟨r, w1, w2, LS, RX, p1, p2, p3⟩
    · refine ⟨-1, w, w, LS, RX, ?_, m_text_full (Or.inl ⟨rfl, by omega⟩), hS⟩
      rw [e_D_text, if_pos rfl, if_pos (by omega), e_D_text_6, if_neg (by decide), e_D_text_12, if_neg (by decide)]
  by_cases z1 : a1 = 1
  · subst z1
    by_cases h : w 10 0 5 < 6
    · obtain ⟨r, w1, w2, LS', p1, p2, p3⟩ := p_textL (d := d) hS h
      exact ⟨r, w1, w2, LS', RX, p1, p2, p3⟩
    · refine ⟨-1, w, w, LS, RX, ?_, m_text_full (Or.inr (Or.inl ⟨rfl, by omega⟩)), hS⟩
      rw [e_D_text, if_neg (by decide), e_D_text_6, if_pos rfl, if_pos (by omega), e_D_text_12, if_neg (by decide)]
  by_cases z2 : a1 = 2
  · subst z2
    by_cases h : w 10 0 6 < 6
    · obtain ⟨r, w1, w2, RX', p1, p2, p3⟩ := p_textR (d := d) hS h
      exact ⟨r, w1, w2, LS, RX', p1, p2, p3⟩
    · refine ⟨-1, w, w, LS, RX, ?_, m_text_full (Or.inr (Or.inr (Or.inl ⟨rfl, by omega⟩))), hS⟩
      rw [e_D_text, if_neg (by decide), e_D_text_6, if_neg (by decide), e_D_text_12, if_pos rfl, if_pos (by omega)]
  · refine ⟨-1, w, w, LS, RX, ?_, m_text_full (Or.inr (Or.inr (Or.inr (by omega)))), hS⟩
    rw [e_D_text, if_neg z0, e_D_text_6, if_neg z1, e_D_text_12, if_neg z2]
end
