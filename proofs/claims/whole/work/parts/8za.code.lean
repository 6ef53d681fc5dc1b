/-! the code that both write -/
theorem m_puts {d : Nat} {t a b u : Int} {w : zW} (ht : w 11 0 21 = t) (h12 : 0 ≤ t ∧ t < 12) (hu : w 51 0 t = u) (h0 : 0 ≤ u ∧ u < 400) (ha : 0 ≤ a ∧ a < 16) (hb : 0 ≤ b ∧ b ≤ 99999) : M_puts d a b w = some (0, z_up (z_up w 50 0 (400 * t + u) (a + 16 * b)) 51 0 t (u + 1)) := by
  rw [e_M_puts, ht, gd_t (by omega), gd_t (by omega), hu, gd_t (by omega), gd_t (by omega), gd_t (by omega), gd_t (by omega), gd_t (by omega), gd_t (by omega), gd_t (by omega)]
theorem m_makes {d : Nat} {p : Int} {w : zW} (h19 : w 11 0 19 = 0) (h22 : 0 ≤ w 11 0 22 ∧ w 11 0 22 ≤ 60) (hp : 0 ≤ p ∧ p ≤ 400) : M_makes (d + 1) p w = if w 11 0 22 = 60 then some (0, z_up w 11 0 19 (1 + 8 * p + 3)) else some (1, z_up w 11 0 22 (w 11 0 22 + 1)) := by
  rw [e_M_makes]
  by_cases z : w 11 0 22 = 60
  · rw [if_pos z, if_pos z, m_fails h19 (by decide) hp, bnd]
    dsimp only
    rw [gd_t (by decide)]
  · rw [if_neg z, if_neg z, gd_t (by omega), gd_t (by decide)]
/-- what an expression's reading leaves of the model -/
def EM (t : Int) (w w' : zW) : Prop := mF [50, 51] [18, 19, 20, 22] w w' ∧ (∀ p, (p < 400 * t + w 51 0 t ∨ 400 * t + 400 ≤ p) → w' 50 0 p = w 50 0 p) ∧ (∀ s, s ≠ t → w' 51 0 s = w 51 0 s) ∧ w 51 0 t ≤ w' 51 0 t
theorem EM_rf (t : Int) (w : zW) : EM t w w := ⟨mF_rf _ _ _, fun _ _ => rfl, fun _ _ => rfl, Int.le_refl _⟩
theorem EM_tr {t : Int} {w w' w'' : zW} (h : EM t w w') (h' : EM t w' w'') : EM t w w'' := by
  obtain ⟨a1, a2, a3, a4⟩ := h
  obtain ⟨b1, b2, b3, b4⟩ := h'
  exact ⟨mF_tr a1 b1, fun p hp => (b2 p (by omega)).trans (a2 p hp), fun s hs => (b3 s hs).trans (a3 s hs), by omega⟩
theorem EM_m {t : Int} {w w' : zW} (h : mF [] [18, 19, 20, 22] w w') : EM t w w' := ⟨mF_sub h (by decide) (by decide), fun p _ => by rw [h.1 50 (by decide) (by decide)], fun s _ => by rw [h.1 51 (by decide) (by decide)], by rw [h.1 51 (by decide) (by decide)]; exact Int.le_refl _⟩
theorem EM_p {t u v : Int} {w : zW} (hu : w 51 0 t = u) (h0 : u < 400) : EM t w (z_up (z_up w 50 0 (400 * t + u) v) 51 0 t (u + 1)) := by
  refine ⟨mF_tr (mF_up (by decide) (by decide)) (mF_up (by decide) (by decide)), fun p hp => ?_, fun s hs => ?_, ?_⟩
  · rw [up_c (by decide), up_s (by omega)]
  · rw [up_s hs, up_c (by decide)]
  · rw [up_h]; omega
/-- both in the midst of a text: the signs of code so far are L, `pend` of them still wait in the class -/
def KC (ci t bc bm : Int) (L : List tok) (wc wm : zW) : Prop := seg 256 (wc 13 ci) bc (cls L) ∧ wc 1 ci 5 = bc + (cls L).length ∧ seg 16 (fun j => wm 50 0 (400 * t + j)) bm L ∧ wm 51 0 t = bm + L.length
def JK (ci t bc bm : Int) (L : List tok) (pend : Int) (wc wm : zW) : Prop := (wc 5 0 8 = ci ∧ wm 11 0 21 = t ∧ 0 ≤ t ∧ t < 12) ∧ (wm 11 0 22 = wc 5 0 6 ∧ 0 ≤ wc 5 0 6 ∧ wc 5 0 6 ≤ 60) ∧ KC ci t bc bm L wc wm ∧ bc + (cls L).length + pend ≤ wc 5 0 4 ∧ 0 ≤ bm ∧ bm ≤ bc
def JC (T : Int → Int) (n ci t bc bm : Int) (L : List tok) (pend : Int) (wc wm : zW) : Prop := JR T n wc wm ∧ JK ci t bc bm L pend wc wm
theorem KC_fr {ci t bc bm : Int} {L : List tok} {wc wm wc' wm' : zW} (h : KC ci t bc bm L wc wm) (h13 : wc' 13 = wc 13) (h1 : wc' 1 = wc 1) (h50 : wm' 50 = wm 50) (h51 : wm' 51 = wm 51) : KC ci t bc bm L wc' wm' := by
  unfold KC at *
  rw [h13, h1, h50, h51]
  exact h
theorem cls_snoc (L : List tok) (x : tok) : cls (L ++ [x]) = cls L ++ cl x := by
  rw [cls_app]
  show cls L ++ (cl x ++ []) = _
  rw [List.append_nil]
/-- one sign of one cell, in both -/
theorem KC_1 {ci t bc bm a b k : Int} {L : List tok} {wc wm : zW} (h : KC ci t bc bm L wc wm) (hcl : cl (a, b) = [(k, b)]) : KC ci t bc bm (L ++ [(a, b)]) (z_up (z_up wc 13 ci (bc + (cls L).length) (k + 256 * b)) 1 ci 5 (bc + (cls L).length + 1)) (z_up (z_up wm 50 0 (400 * t + (bm + L.length)) (a + 16 * b)) 51 0 t (bm + L.length + 1)) := by
  obtain ⟨k1, k2, k3, k4⟩ := h
  have hc := cls_snoc L (a, b)
  rw [hcl] at hc
  refine ⟨?_, ?_, ?_, ?_⟩
  · rw [hc, seg_app]
    refine ⟨seg_congr (fun j j0 j1 => ?_) k1, ?_, trivial⟩
    · rw [up_c (by decide), up_s (by omega)]
    · rw [up_c (by decide), up_h]
  · rw [up_h, hc, List.length_append]
    show _ = bc + (((cls L).length + 1 : Nat) : Int)
    omega
  · rw [seg_app]
    refine ⟨seg_congr (fun j j0 j1 => ?_) k3, ?_, trivial⟩
    · show (z_up (z_up wm 50 0 (400 * t + (bm + L.length)) (a + 16 * b)) 51 0 t (bm + L.length + 1)) 50 0 (400 * t + j) = _
      rw [up_c (by decide), up_s (by omega)]
    · show (z_up (z_up wm 50 0 (400 * t + (bm + L.length)) (a + 16 * b)) 51 0 t (bm + L.length + 1)) 50 0 (400 * t + (bm + L.length)) = _
      rw [up_c (by decide), up_h]
  · rw [up_h, List.length_append]
    show _ = bm + ((L.length + 1 : Nat) : Int)
    omega
/-- one sign of two cells, in both -/
theorem KC_2 {ci t bc bm a k l : Int} {L : List tok} {wc wm : zW} (h : KC ci t bc bm L wc wm) (hcl : cl (a, 0) = [(k, 0), (l, 0)]) : KC ci t bc bm (L ++ [(a, 0)]) (z_up (z_up (z_up (z_up wc 13 ci (bc + (cls L).length) (k + 256 * 0)) 1 ci 5 (bc + (cls L).length + 1)) 13 ci (bc + (cls L).length + 1) (l + 256 * 0)) 1 ci 5 (bc + (cls L).length + 1 + 1)) (z_up (z_up wm 50 0 (400 * t + (bm + L.length)) (a + 16 * 0)) 51 0 t (bm + L.length + 1)) := by
  obtain ⟨k1, k2, k3, k4⟩ := h
  have hc := cls_snoc L (a, 0)
  rw [hcl] at hc
  refine ⟨?_, ?_, ?_, ?_⟩
  · rw [hc, seg_app]
    refine ⟨seg_congr (fun j j0 j1 => ?_) k1, ?_, ?_, trivial⟩
    · rw [up_c (by decide), up_s (by omega), up_c (by decide), up_s (by omega)]
    · rw [up_c (by decide), up_s (by omega), up_c (by decide), up_h]
    · rw [up_c (by decide), up_h]
  · rw [up_h, hc, List.length_append]
    show _ = bc + (((cls L).length + 2 : Nat) : Int)
    omega
  · rw [seg_app]
    refine ⟨seg_congr (fun j j0 j1 => ?_) k3, ?_, trivial⟩
    · show (z_up (z_up wm 50 0 (400 * t + (bm + L.length)) (a + 16 * 0)) 51 0 t (bm + L.length + 1)) 50 0 (400 * t + j) = _
      rw [up_c (by decide), up_s (by omega)]
    · show (z_up (z_up wm 50 0 (400 * t + (bm + L.length)) (a + 16 * 0)) 51 0 t (bm + L.length + 1)) 50 0 (400 * t + (bm + L.length)) = _
      rw [up_c (by decide), up_h]
  · rw [up_h, List.length_append]
    show _ = bm + ((L.length + 1 : Nat) : Int)
    omega
section
variable {T : Int → Int} {n ci t bc bm pend : Int} {L : List tok} {wc wm : zW}
theorem JK.ln (h : JK ci t bc bm L pend wc wm) (hp : 0 ≤ pend) (h4 : wc 5 0 4 ≤ 400) : 0 ≤ bm + (L.length : Int) ∧ bm + (L.length : Int) ≤ bc + (cls L).length ∧ bc + ((cls L).length : Int) ≤ 400 := by
  have h1 := cls_len L
  have h5 := h.2.2.2
  omega
theorem JC.ln (h : JC T n ci t bc bm L pend wc wm) (hp : 0 ≤ pend) : 0 ≤ bm + (L.length : Int) ∧ bm + (L.length : Int) ≤ bc + (cls L).length ∧ bc + ((cls L).length : Int) ≤ 400 := by
  have h2 := h.1.1.2.2.2.1
  have h3 := h.1.1.1
  exact h.2.ln hp (by omega)
theorem JK_le {p : Int} (h : JK ci t bc bm L pend wc wm) (hp : p ≤ pend) : JK ci t bc bm L p wc wm := by
  obtain ⟨a1, a2, a3, a4, a5⟩ := h
  exact ⟨a1, a2, a3, by omega, a5⟩
theorem JC_le {p : Int} (h : JC T n ci t bc bm L pend wc wm) (hp : p ≤ pend) : JC T n ci t bc bm L p wc wm := ⟨h.1, JK_le h.2 hp⟩
/-- other cells of the model -/
theorem JK_m {v : zW} (h : JK ci t bc bm L pend wc wm) (hf : mF [65] [18, 20, 23, 26] wm v) : JK ci t bc bm L pend wc v := by
  obtain ⟨⟨j2, j3, j4⟩, j5, j6, j7⟩ := h
  exact ⟨⟨j2, (hf.2 21 (by decide)).trans j3, j4⟩, ⟨(hf.2 22 (by decide)).trans j5.1, j5.2⟩, KC_fr j6 rfl rfl (hf.1 50 (by decide) (by decide)) (hf.1 51 (by decide) (by decide)), j7⟩
theorem JR_5 {w v : zW} (h : JR T n wc wm) (h5 : w 5 = wc 5) (h20 : w 20 = wc 20) (h11 : ∀ s, v 11 0 s = wm 11 0 s) (h48 : v 48 = wm 48) : JR T n w v := by
  unfold JR CT MT at *
  simp only [h5, h20, h11, h48]
  exact h
/-- a sign of code, in both at once -/
theorem j_addK {a b k : Int} (h : JK ci t bc bm L (pend + 1) wc wm) (hp : 0 ≤ pend) (h4 : wc 5 0 4 ≤ 400) (hcl : cl (a, b) = [(k, b)]) (ha : 0 ≤ a ∧ a < 16) (hk : 0 ≤ k ∧ k < 256) (hb : 0 ≤ b ∧ b ≤ 99999) :
    ∃ wc' wm', (∀ d, Clauses_add d ci k b wc = some (0, wc')) ∧ (∀ d, M_puts d a b wm = some (0, wm')) ∧ EF ci wc wc' ∧ EM t wm wm' ∧ (wc' 5 = wc 5 ∧ wc' 20 = wc 20 ∧ mF [50, 51] [] wm wm') ∧ JK ci t bc bm (L ++ [(a, b)]) pend wc' wm' := by
  obtain ⟨l0, l1, l2⟩ := h.ln (by omega) h4
  obtain ⟨⟨j2, j3, j4⟩, j5, j6, j7⟩ := h
  have k2 := j6.2.1
  have k4 := j6.2.2.2
  have hK := KC_1 j6 hcl
  have hc := cls_snoc L (a, b)
  rw [hcl] at hc
  have hmF : mF [50, 51] [] wm (z_up (z_up wm 50 0 (400 * t + (bm + L.length)) (a + 16 * b)) 51 0 t (bm + L.length + 1)) := mF_tr (mF_up (by decide) (by decide)) (mF_up (by decide) (by decide))
  generalize hw1 : z_up (z_up wc 13 ci (bc + (cls L).length) (k + 256 * b)) 1 ci 5 (bc + (cls L).length + 1) = w1 at *
  generalize hv1 : z_up (z_up wm 50 0 (400 * t + (bm + L.length)) (a + 16 * b)) 51 0 t (bm + L.length + 1) = v1 at *
  have e5 : w1 5 = wc 5 := by
    funext x y
    rw [← hw1, up_c (by decide), up_c (by decide)]
  have e20 : w1 20 = wc 20 := by
    funext x y
    rw [← hw1, up_c (by decide), up_c (by decide)]
  have m11 : v1 11 = wm 11 := by
    funext x y
    rw [← hv1, up_c (by decide), up_c (by decide)]
  refine ⟨w1, v1, fun _ => by rw [← hw1]; exact s_add k2 (by omega) hk hb, fun _ => by rw [← hv1]; exact m_puts j3 j4 k4 (by omega) ha hb, by rw [← hw1]; exact EF_add k2, by rw [← hv1]; exact EM_p k4 (by omega), ⟨e5, e20, hmF⟩, ⟨?_, ?_, hK, ?_, j7.2⟩⟩
  · rw [e5, m11]
    exact ⟨j2, j3, j4⟩
  · rw [e5, m11]
    exact j5
  · rw [e5, hc, List.length_append]
    show bc + (((cls L).length + 1 : Nat) : Int) + pend ≤ _
    omega
/-- the same, where both read -/
theorem j_add {d d' : Nat} {a b k : Int} (h : JC T n ci t bc bm L (pend + 1) wc wm) (hp : 0 ≤ pend) (hcl : cl (a, b) = [(k, b)]) (ha : 0 ≤ a ∧ a < 16) (hk : 0 ≤ k ∧ k < 256) (hb : 0 ≤ b ∧ b ≤ 99999) :
    ∃ wc' wm', Clauses_add d ci k b wc = some (0, wc') ∧ M_puts d' a b wm = some (0, wm') ∧ EF ci wc wc' ∧ EM t wm wm' ∧ wc' 5 = wc 5 ∧ JC T n ci t bc bm (L ++ [(a, b)]) pend wc' wm' := by
  have h2 := h.1.1.2.2.2.1
  have h3 := h.1.1.1
  obtain ⟨wc', wm', p1, p2, p3, p4, ⟨p5, p6, p7⟩, p8⟩ := j_addK h.2 hp (by omega) hcl ha hk hb
  exact ⟨wc', wm', p1 d, p2 d', p3, p4, p5, JR_5 h.1 p5 p6 (fun s => p7.2 s List.not_mem_nil) (p7.1 48 (by decide) (by decide)), p8⟩
theorem j_add2K {a k l : Int} (h : JK ci t bc bm L (pend + 2) wc wm) (hp : 0 ≤ pend) (h4 : wc 5 0 4 ≤ 400) (hcl : cl (a, 0) = [(k, 0), (l, 0)]) (ha : 0 ≤ a ∧ a < 16) (hk : 0 ≤ k ∧ k < 256) (hl : 0 ≤ l ∧ l < 256) :
    ∃ w1 wc' wm', (∀ d, Clauses_add d ci k 0 wc = some (0, w1)) ∧ w1 5 = wc 5 ∧ (∀ d, Clauses_add d ci l 0 w1 = some (0, wc')) ∧ (∀ d, M_puts d a 0 wm = some (0, wm')) ∧ EF ci wc wc' ∧ EM t wm wm' ∧ (wc' 5 = wc 5 ∧ wc' 20 = wc 20 ∧ mF [50, 51] [] wm wm') ∧ JK ci t bc bm (L ++ [(a, 0)]) pend wc' wm' := by
  obtain ⟨l0, l1, l2⟩ := h.ln (by omega) h4
  obtain ⟨⟨j2, j3, j4⟩, j5, j6, j7⟩ := h
  have k2 := j6.2.1
  have k4 := j6.2.2.2
  have hK := KC_2 j6 hcl
  have hc := cls_snoc L (a, 0)
  rw [hcl] at hc
  have hmF : mF [50, 51] [] wm (z_up (z_up wm 50 0 (400 * t + (bm + L.length)) (a + 16 * 0)) 51 0 t (bm + L.length + 1)) := mF_tr (mF_up (by decide) (by decide)) (mF_up (by decide) (by decide))
  have x0 : (z_up (z_up wc 13 ci (bc + (cls L).length) (k + 256 * 0)) 1 ci 5 (bc + (cls L).length + 1)) 1 ci 5 = bc + (cls L).length + 1 := up_h
  have x1 := fun d => s_add (d := d) (a := k) (b := 0) k2 (by omega) hk (by decide)
  have x2 := fun d => s_add (d := d) (a := l) (b := 0) x0 (by omega) hl (by decide)
  have x3 : EF ci wc (z_up (z_up (z_up (z_up wc 13 ci (bc + (cls L).length) (k + 256 * 0)) 1 ci 5 (bc + (cls L).length + 1)) 13 ci (bc + (cls L).length + 1) (l + 256 * 0)) 1 ci 5 (bc + (cls L).length + 1 + 1)) := EF_tr (EF_add k2) (EF_add x0)
  have e5 : (z_up (z_up (z_up (z_up wc 13 ci (bc + (cls L).length) (k + 256 * 0)) 1 ci 5 (bc + (cls L).length + 1)) 13 ci (bc + (cls L).length + 1) (l + 256 * 0)) 1 ci 5 (bc + (cls L).length + 1 + 1)) 5 = wc 5 := by
    funext x y
    rw [up_c (by decide), up_c (by decide), up_c (by decide), up_c (by decide)]
  have e20 : (z_up (z_up (z_up (z_up wc 13 ci (bc + (cls L).length) (k + 256 * 0)) 1 ci 5 (bc + (cls L).length + 1)) 13 ci (bc + (cls L).length + 1) (l + 256 * 0)) 1 ci 5 (bc + (cls L).length + 1 + 1)) 20 = wc 20 := by
    funext x y
    rw [up_c (by decide), up_c (by decide), up_c (by decide), up_c (by decide)]
  have e51 : (z_up (z_up wc 13 ci (bc + (cls L).length) (k + 256 * 0)) 1 ci 5 (bc + (cls L).length + 1)) 5 = wc 5 := by
    funext x y
    rw [up_c (by decide), up_c (by decide)]
  have hm := fun d => m_puts (d := d) (a := a) (b := 0) j3 j4 k4 (by omega) ha (by decide)
  have he := EM_p (v := a + 16 * 0) k4 (by omega)
  generalize z_up (z_up (z_up (z_up wc 13 ci (bc + (cls L).length) (k + 256 * 0)) 1 ci 5 (bc + (cls L).length + 1)) 13 ci (bc + (cls L).length + 1) (l + 256 * 0)) 1 ci 5 (bc + (cls L).length + 1 + 1) = w2 at *
  generalize z_up (z_up wc 13 ci (bc + (cls L).length) (k + 256 * 0)) 1 ci 5 (bc + (cls L).length + 1) = w1 at *
  generalize hv1 : z_up (z_up wm 50 0 (400 * t + (bm + L.length)) (a + 16 * 0)) 51 0 t (bm + L.length + 1) = v1 at *
  have m11 : v1 11 = wm 11 := by
    funext x y
    rw [← hv1, up_c (by decide), up_c (by decide)]
  refine ⟨w1, w2, v1, x1, e51, x2, hm, x3, he, ⟨e5, e20, hmF⟩, ⟨?_, ?_, hK, ?_, j7.2⟩⟩
  · rw [e5, m11]
    exact ⟨j2, j3, j4⟩
  · rw [e5, m11]
    exact j5
  · rw [e5, hc, List.length_append]
    show bc + (((cls L).length + 2 : Nat) : Int) + pend ≤ _
    omega
end
