/-! a sum, in both -/
theorem TK_pl {T : Int → Int} {n q sg bh c : Int} (h : TK T n q sg bh) (h0 : 0 ≤ c) (h1 : ¬ dig c) (h2 : ¬ let' c) (h3 : c ≠ 60 ∧ c ≠ 62) : (sg = c ↔ q < n ∧ T q = c) ∧ (sg = c → bh = q + 1) := by
  unfold TK at h
  by_cases z : n ≤ q
  · rw [if_pos z] at h
    exact ⟨⟨fun _ => by omega, fun _ => by omega⟩, fun _ => by omega⟩
  rw [if_neg z] at h
  by_cases z1 : dig (T q)
  · rw [if_pos z1] at h
    exact ⟨⟨fun _ => absurd h.1 (by omega), fun x => by omega⟩, fun _ => absurd h.1 (by omega)⟩
  rw [if_neg z1] at h
  by_cases z2 : let' (T q)
  · rw [if_pos z2] at h
    exact ⟨⟨fun _ => absurd h.1 (by omega), fun x => by omega⟩, fun _ => absurd h.1 (by omega)⟩
  rw [if_neg z2] at h
  by_cases z3 : (T q = 60 ∨ T q = 62) ∧ q + 1 < n ∧ T (q + 1) = 61
  · rw [if_pos z3] at h
    have hb : sg = 108 ∨ sg = 103 := by
      have := h.1
      split at this
      · exact Or.inl this
      · exact Or.inr this
    exact ⟨⟨fun _ => by omega, fun x => by omega⟩, fun _ => by omega⟩
  · rw [if_neg z3] at h
    exact ⟨⟨fun x => ⟨by omega, by omega⟩, fun x => by omega⟩, fun _ => h.2⟩
section
variable {d d' : Nat} {T : Int → Int} {n ci t bc bm pend : Int} {L : List tok} {wc wm : zW}
/-- a sign passed that was not read as a word or number: so many bytes, so many cells of code -/
theorem j_pass {b : Int} (h : JC T n ci t bc bm L pend wc wm) (hb : wc 5 0 5 = wc 5 0 4 + b) (hb1 : 1 ≤ b) : ∃ wc', Reader_next d wc = some (0, wc') ∧ EF ci wc wc' ∧ (∀ wm' : zW, mF [] [18] wm wm' → wm' 11 0 18 = wc 5 0 4 + b → JC T n ci t bc bm L (pend + b) wc' wm') ∧ wc 5 0 4 < wc' 5 0 4 ∧ RK wc wc' := by
  obtain ⟨j1, ⟨j2, j3, j4⟩, j5, j6, j7, j8⟩ := h
  have hbh := j1.1.bh
  have hq := j1.1.2.2.2.1
  obtain ⟨w3, r1, r2, r3, r4⟩ := CT_nx (d := d) j1.1
  rw [hb] at r4
  have hpl := r4.1
  have e6 : w3 5 0 6 = wc 5 0 6 := r2.2 6 (by decide) (by decide) (by decide)
  refine ⟨w3, r1, r2.f.e, fun v fv v18 => ⟨⟨r3, ?_, ?_, ?_, ?_⟩, ⟨?_, ?_, j4⟩, ⟨?_, ?_⟩, KC_fr j6 (r2.1 13 (by decide)) (r2.1 1 (by decide)) (fv.1 50 (by decide) (by decide)) (fv.1 51 (by decide) (by decide)), by omega, j8⟩, by omega, r2⟩
  · obtain ⟨m1, m2, m3⟩ := j1.2.1
    refine ⟨(fv.2 1 (by decide)).trans m1, m2, fun x x0 x1 => ?_⟩
    rw [fv.1 48 (by decide) (by decide)]
    exact m3 x x0 x1
  · exact (fv.2 19 (by decide)).trans j1.2.2.1
  · rw [v18]; omega
  · rw [v18]; exact r4
  · rw [r2.2 8 (by decide) (by decide) (by decide)]; exact j2
  · exact (fv.2 21 (by decide)).trans j3
  · rw [fv.2 22 (by decide), e6]; exact j5.1
  · rw [e6]; exact j5.2
/-- what the model sees of a plain sign -/
theorem j_sees {c : Int} (h : JR T n wc wm) (h0 : 0 ≤ c) (h1 : ¬ dig c) (h2 : ¬ let' c) (h3 : c ≠ 60 ∧ c ≠ 62) : ((if n ≤ wc 5 0 4 then -1 else T (wc 5 0 4)) = c ↔ wc 5 0 3 = c) ∧ (wc 5 0 3 = c → wc 5 0 5 = wc 5 0 4 + 1 ∧ wc 5 0 4 < n ∧ wm 48 0 (wc 5 0 4) = z_w8 c) := by
  obtain ⟨a1, a2⟩ := TK_pl h.1.2.2.2.2 h0 h1 h2 h3
  have hq := h.1.2.2.2.1
  constructor
  · by_cases z : n ≤ wc 5 0 4
    · rw [if_pos z]
      exact ⟨fun x => by omega, fun x => by have := a1.1 x; omega⟩
    · rw [if_neg z]
      exact ⟨fun x => a1.2 ⟨by omega, x⟩, fun x => (a1.1 x).2⟩
  · intro x
    obtain ⟨b1, b2⟩ := a1.1 x
    refine ⟨a2 x, b1, ?_⟩
    rw [(h.2.1.2.2 _ hq.1 b1).2, b2]
theorem JC_18 {v : zW} (h : JC T n ci t bc bm L pend wc wm) (fv : mF [] [18, 20] wm v) (v18 : v 11 0 18 = wc 5 0 4) : JC T n ci t bc bm L pend wc v := by
  obtain ⟨j1, ⟨j2, j3, j4⟩, j5, j6, j7⟩ := h
  exact ⟨JR_m j1 fv v18, ⟨j2, (fv.2 21 (by decide)).trans j3, j4⟩, ⟨(fv.2 22 (by decide)).trans j5.1, j5.2⟩, KC_fr j6 rfl rfl (fv.1 50 (by decide) (by decide)) (fv.1 51 (by decide) (by decide)), j7⟩
theorem m_term2 (h : JR T n wc wm) : M_term_2 (d + 1) wm = if wc 5 0 3 = 42 then M_term_7 (d + 1) 4 (z_up wm 11 0 18 (wc 5 0 4)) else if wc 5 0 3 = 47 then M_term_7 (d + 1) 5 (z_up wm 11 0 18 (wc 5 0 4)) else some (1, z_up wm 11 0 18 (wc 5 0 4)) := by
  obtain ⟨hs, hJ⟩ := j_see (d := d) h
  obtain ⟨hs2, -⟩ := j_see (d := d) hJ
  rw [up_2] at hs2
  obtain ⟨a1, a2⟩ := j_sees (c := 42) h (by decide) (by omega) (by omega) (by decide)
  obtain ⟨b1, b2⟩ := j_sees (c := 47) h (by decide) (by omega) (by omega) (by decide)
  have hq := h.1.2.2.2.1
  have hn := h.1.1
  have four : ∀ c : Int, wm 48 0 (wc 5 0 4) = z_w8 c → wc 5 0 4 < n → M_term_4 (d + 1) (z_up wm 11 0 18 (wc 5 0 4)) = if z_w8 c = 42 then M_term_7 (d + 1) 4 (z_up wm 11 0 18 (wc 5 0 4)) else M_term_7 (d + 1) 5 (z_up wm 11 0 18 (wc 5 0 4)) := fun c hc hl => by
    rw [e_M_term_4, up_h, gd_t (by omega), up_c (by decide), hc]
  rw [e_M_term_2, hs, bnd]
  dsimp only
  by_cases z : wc 5 0 3 = 42
  · rw [if_pos (a1.2 z), if_pos z, four 42 (a2 z).2.2 (a2 z).2.1, if_pos (by decide)]
  rw [if_neg (fun q => z (a1.1 q)), if_neg z, hs2, bnd]
  dsimp only
  by_cases y : wc 5 0 3 = 47
  · rw [if_pos (b1.2 y), if_pos y, four 47 (b2 y).2.2 (b2 y).2.1, if_neg (by decide)]
  · rw [if_neg (fun q => y (b1.1 q)), if_neg y, gd_t (by decide)]
theorem m_sum2 (h : JR T n wc wm) : M_sum_2 (d + 1) wm = if wc 5 0 3 = 43 then M_sum_7 (d + 1) 2 (z_up wm 11 0 18 (wc 5 0 4)) else if wc 5 0 3 = 45 then M_sum_7 (d + 1) 3 (z_up wm 11 0 18 (wc 5 0 4)) else some (1, z_up wm 11 0 18 (wc 5 0 4)) := by
  obtain ⟨hs, hJ⟩ := j_see (d := d) h
  obtain ⟨hs2, -⟩ := j_see (d := d) hJ
  rw [up_2] at hs2
  obtain ⟨a1, a2⟩ := j_sees (c := 43) h (by decide) (by omega) (by omega) (by decide)
  obtain ⟨b1, b2⟩ := j_sees (c := 45) h (by decide) (by omega) (by omega) (by decide)
  have hq := h.1.2.2.2.1
  have hn := h.1.1
  have four : ∀ c : Int, wm 48 0 (wc 5 0 4) = z_w8 c → wc 5 0 4 < n → M_sum_4 (d + 1) (z_up wm 11 0 18 (wc 5 0 4)) = if z_w8 c = 43 then M_sum_7 (d + 1) 2 (z_up wm 11 0 18 (wc 5 0 4)) else M_sum_7 (d + 1) 3 (z_up wm 11 0 18 (wc 5 0 4)) := fun c hc hl => by
    rw [e_M_sum_4, up_h, gd_t (by omega), up_c (by decide), hc]
  rw [e_M_sum_2, hs, bnd]
  dsimp only
  by_cases z : wc 5 0 3 = 43
  · rw [if_pos (a1.2 z), if_pos z, four 43 (a2 z).2.2 (a2 z).2.1, if_pos (by decide)]
  rw [if_neg (fun q => z (a1.1 q)), if_neg z, hs2, bnd]
  dsimp only
  by_cases y : wc 5 0 3 = 45
  · rw [if_pos (b1.2 y), if_pos y, four 45 (b2 y).2.2 (b2 y).2.1, if_neg (by decide)]
  · rw [if_neg (fun q => y (b1.1 q)), if_neg y, gd_t (by decide)]
end
