/-! the model's stack of what waits -/
def ST (S : Int → Int) (h dp : Int) (w : zW) : Prop := w 11 0 26 = h ∧ (∀ j, 0 ≤ j → j < h → w 65 0 j = S j) ∧ w 11 0 23 = dp
def ET (t : Int) (w w' : zW) : Prop := mF [50, 51, 65] [18, 19, 20, 22, 23, 26] w w' ∧ (∀ p, (p < 400 * t + w 51 0 t ∨ 400 * t + 400 ≤ p) → w' 50 0 p = w 50 0 p) ∧ (∀ s, s ≠ t → w' 51 0 s = w 51 0 s) ∧ w 51 0 t ≤ w' 51 0 t
theorem ET_rf (t : Int) (w : zW) : ET t w w := ⟨mF_rf _ _ _, fun _ _ => rfl, fun _ _ => rfl, Int.le_refl _⟩
theorem ET_tr {t : Int} {w w' w'' : zW} (h : ET t w w') (h' : ET t w' w'') : ET t w w'' := by
  obtain ⟨a1, a2, a3, a4⟩ := h
  obtain ⟨b1, b2, b3, b4⟩ := h'
  exact ⟨mF_tr a1 b1, fun p hp => (b2 p (by omega)).trans (a2 p hp), fun s hs => (b3 s hs).trans (a3 s hs), by omega⟩
theorem EM.t {t : Int} {w w' : zW} (h : EM t w w') : ET t w w' := ⟨mF_sub h.1 (by decide) (by decide), h.2⟩
theorem ET_m {t : Int} {w w' : zW} (h : mF [65] [18, 19, 20, 22, 23, 26] w w') : ET t w w' := ⟨mF_sub h (by decide) (by decide), fun p _ => by rw [h.1 50 (by decide) (by decide)], fun s _ => by rw [h.1 51 (by decide) (by decide)], by rw [h.1 51 (by decide) (by decide)]; exact Int.le_refl _⟩
theorem ST_m {S : Int → Int} {h dp : Int} {w w' : zW} (hs : ST S h dp w) (hm : mF [48, 50, 51] [18, 19, 20, 22] w w') : ST S h dp w' := by
  obtain ⟨s1, s2, s3⟩ := hs
  refine ⟨(hm.2 26 (by decide)).trans s1, fun j j0 j1 => ?_, (hm.2 23 (by decide)).trans s3⟩
  rw [hm.1 65 (by decide) (by decide)]
  exact s2 j j0 j1
theorem ST_EM {S : Int → Int} {t h dp : Int} {w w' : zW} (hs : ST S h dp w) (hm : EM t w w') : ST S h dp w' := ST_m hs (mF_sub hm.1 (by decide) (by decide))
theorem ST_S {S S' : Int → Int} {h dp : Int} {w : zW} (hs : ST S h dp w) (he : ∀ j, 0 ≤ j → j < h → S j = S' j) : ST S' h dp w := ⟨hs.1, fun j j0 j1 => (hs.2.1 j j0 j1).trans (he j j0 j1), hs.2.2⟩
theorem ST_18 {S : Int → Int} {h dp v : Int} {w : zW} (hs : ST S h dp w) : ST S h dp (z_up w 11 0 18 v) := ST_m hs (mF_11 (by decide))
def sTr (x : Int) : Int := if x = 13 then 1 else if x = 12 then 2 else if x = 11 then 3 else 0
theorem m_strength {d : Nat} {x : Int} {w : zW} : M_strength d x w = some (sTr x, w) := by
  rw [e_M_strength]
  unfold sTr
  split
  · rfl
  · split
    · rfl
    · split <;> rfl
/-- the class's sign for what waits -/
def wK (x : Int) : Int := if x = 13 then 124 else if x = 12 then 38 else 33
abbrev isO (x : Int) : Prop := x = 11 ∨ x = 12 ∨ x = 13
section
variable {g : Nat} {T : Int → Int} {n ci t bc bm pend : Int} {L : List tok} {wc wm : zW}
theorem m_stop {S : Int → Int} {h dp a : Int} (hs : ST S h dp wm) (h4 : 0 ≤ h ∧ h ≤ 400) (hst : h = 0 ∨ sTr (S (h - 1)) < a) : M_settles_1 (g + 1) a wm = some (0, wm) := by
  obtain ⟨s1, s2, s3⟩ := hs
  rw [e_M_settles_1, s1]
  by_cases z : h ≤ 0
  · rw [if_pos z]
  · rw [if_neg z, gd_t (by omega), gd_t (by omega), m_strength, bnd, s2 (h - 1) (by omega) (by omega)]
    dsimp only
    rw [if_pos (by omega)]
/-- one is put -/
theorem m_pops {S : Int → Int} {h dp a x : Int} (hs : ST S h dp wm) (h4 : 1 ≤ h ∧ h ≤ 400) (hS : S (h - 1) = x) (hx : isO x) (ha : a ≤ sTr x) (hdp : 0 ≤ dp ∧ dp ≤ 100) (hp : 0 ≤ pend) (hc : wc 5 0 4 ≤ 400) (hJ : JK ci t bc bm L (pend + 1) wc wm) :
    ∃ wc' wm', (∀ d, Clauses_add d ci (wK x) 0 wc = some (0, wc')) ∧ M_settles_1 (g + 1) a wm = M_settles_1 (g + 1) a wm' ∧ EF ci wc wc' ∧ ET t wm wm' ∧ mF [50, 51] [23, 26] wm wm' ∧ (wc' 5 = wc 5 ∧ wc' 20 = wc 20) ∧ ST S (h - 1) (if x = 11 then dp - 1 else dp) wm' ∧ JK ci t bc bm (L ++ [(x, 0)]) pend wc' wm' := by
  obtain ⟨s1, s2, s3⟩ := hs
  have hcl : cl (x, 0) = [(wK x, 0)] ∧ (0 ≤ x ∧ x < 16) ∧ 0 ≤ wK x ∧ wK x < 256 := by
    rcases hx with rfl | rfl | rfl <;> decide
  have hx65 : wm 65 0 (h - 1) = x := by rw [s2 (h - 1) (by omega) (by omega)]; exact hS
  obtain ⟨w1, v1, p1, p2, p3, p4, ⟨p5, p6, p7⟩, p8⟩ := j_addK (JK_m hJ (mF_11 (s := 26) (v := h - 1) (by decide))) hp hc hcl.1 hcl.2.1 hcl.2.2 (by decide)
  have e26 : v1 11 0 26 = h - 1 := by rw [p7.2 26 List.not_mem_nil, up_h]
  have e65 : ∀ j, v1 65 0 j = wm 65 0 j := fun j => by rw [p7.1 65 (by decide) (by decide), up_c (by decide)]
  have e23 : v1 11 0 23 = dp := by rw [p7.2 23 List.not_mem_nil, up_s (by decide)]; exact s3
  have f1 : mF [50, 51] [23, 26] wm v1 := mF_tr (mF_11 (s := 26) (v := h - 1) (by decide)) (mF_sub p7 (by decide) (by decide))
  have hrun : M_settles_1 (g + 1) a wm = if x = 11 then M_settles_1 (g + 1) a (z_up v1 11 0 23 (dp - 1)) else M_settles_1 (g + 1) a v1 := by
    rw [e_M_settles_1, s1, if_neg (by omega), gd_t (by omega), gd_t (by omega), m_strength, bnd, hx65]
    dsimp only
    rw [if_neg (by omega), gd_t (by omega), gd_t (by omega), s1, hx65, p2, bnd]
    dsimp only
    rw [gd_t (by omega)]
    simp only [e26, e65, hx65, e23]
    rw [gd_t (by omega)]
  have hE1 : ET t wm v1 := ET_tr (ET_m (mF_11 (s := 26) (v := h - 1) (by decide))) p4.t
  by_cases z : x = 11
  · rw [if_pos z] at hrun ⊢
    refine ⟨w1, _, p1, hrun, p3, ET_tr hE1 (ET_m (mF_11 (by decide))), mF_tr f1 (mF_11 (by decide)), ⟨p5, p6⟩, ⟨?_, fun j j0 j1 => ?_, up_h⟩, JK_m p8 (mF_11 (by decide))⟩
    · rw [up_s (by decide)]; exact e26
    · rw [up_c (by decide), e65]; exact s2 j j0 (by omega)
  · rw [if_neg z] at hrun ⊢
    exact ⟨w1, _, p1, hrun, p3, hE1, f1, ⟨p5, p6⟩, ⟨e26, fun j j0 j1 => by rw [e65]; exact s2 j j0 (by omega), e23⟩, p8⟩
theorem m_inside_1 {S : Int → Int} {h dp : Int} (hs : ST S h dp wm) (h4 : h ≤ 400) : ∀ (m : Nat) (l : Int), 0 ≤ l → l + m = h → ∃ r, M_isInside_1 g l wm = some (r, wm) ∧ ((r = 1 ∧ ∃ j, l ≤ j ∧ j < h ∧ S j = 91) ∨ (r = 0 ∧ ∀ j, l ≤ j → j < h → S j ≠ 91)) := by
  intro m
  induction m with
  | zero =>
    intro l l0 hl
    exact ⟨0, by rw [e_M_isInside_1, hs.1, if_pos (by omega), gd_t (by decide)], Or.inr ⟨rfl, fun j j0 j1 => by omega⟩⟩
  | succ m ih =>
    intro l l0 hl
    have hS := hs.2.1 l l0 (by omega)
    by_cases z : S l = 91
    · exact ⟨1, by rw [e_M_isInside_1, hs.1, if_neg (by omega), gd_t (by omega), hS, if_pos z, gd_t (by decide)], Or.inl ⟨rfl, l, Int.le_refl _, by omega, z⟩⟩
    · obtain ⟨r, r1, r2⟩ := ih (l + 1) (by omega) (by omega)
      refine ⟨r, by rw [e_M_isInside_1, hs.1, if_neg (by omega), gd_t (by omega), hS, if_neg z, gd_t (by omega)]; exact r1, ?_⟩
      rcases r2 with ⟨q1, j, j1, j2, j3⟩ | ⟨q1, q2⟩
      · exact Or.inl ⟨q1, j, by omega, j2, j3⟩
      · refine Or.inr ⟨q1, fun j j0 j1 => ?_⟩
        by_cases y : j = l
        · rw [y]; exact z
        · exact q2 j (by omega) j1
theorem m_inside {S : Int → Int} {h dp : Int} (hs : ST S h dp wm) (h4 : 0 ≤ h ∧ h ≤ 400) : ∃ r, M_isInside g wm = some (r, wm) ∧ ((r = 1 ∧ ∃ j, 0 ≤ j ∧ j < h ∧ S j = 91) ∨ (r = 0 ∧ ∀ j, 0 ≤ j → j < h → S j ≠ 91)) := by
  obtain ⟨r, r1, r2⟩ := m_inside_1 (g := g) hs h4.2 h.toNat 0 (Int.le_refl 0) (by omega)
  exact ⟨r, by rw [e_M_isInside]; exact r1, r2⟩
end
section
variable {d g : Nat} {T : Int → Int} {n ci t bc bm pend : Int}
/-- the nots behind a fact -/
theorem j_nots {S : Int → Int} {nW l2 : Int} (hp : 0 ≤ pend) (hl2 : l2 ≤ 1000) : ∀ (k : Nat) (L : List tok) (wc wm : zW) (h dp l3 : Int), JK ci t bc bm L (pend + k) wc wm → wc 5 0 4 ≤ 400 → ST S h dp wm → k ≤ h → h ≤ 400 → k ≤ dp → dp ≤ 100 → (∀ j, h - k ≤ j → j < h → S j = 11) → (h - k = 0 ∨ sTr (S (h - k - 1)) < 3) → l3 + k = l2 → 0 ≤ l3 →
    ∃ wc' wm' M, Reader_fact_19 (d + 1) l2 l3 wc = some (0, wc') ∧ M_settles_1 (g + 1) 3 wm = some (0, wm') ∧ EF ci wc wc' ∧ ET t wm wm' ∧ mF [50, 51] [23, 26] wm wm' ∧ (wc' 5 = wc 5 ∧ wc' 20 = wc 20) ∧ ST S (h - k) (dp - k) wm' ∧ OUT nW [true] [true] M ∧ cntV M = 0 ∧ JK ci t bc bm (L ++ M) pend wc' wm' := by
  intro k
  induction k with
  | zero =>
    intro L wc wm h dp l3 hJ h4 hs _ hh _ hdp _ ht hl hl0
    have e0 : h - ((0 : Nat) : Int) = h := by omega
    have e1 : dp - ((0 : Nat) : Int) = dp := by omega
    rw [e0] at ht
    refine ⟨wc, wm, [], by rw [e_Reader_fact_19, if_pos (by omega)], m_stop hs (by omega) ht, EF_rf _ _, ET_rf _ _, mF_rf _ _ _, ⟨rfl, rfl⟩, by rw [e0, e1]; exact hs, OUT_nil _ _, rfl, ?_⟩
    rw [List.append_nil]
    exact JK_le hJ (by omega)
  | succ k ih =>
    intro L wc wm h dp l3 hJ h4 hs hk hh hkd hdp hS ht hl hl0
    have hJ' : JK ci t bc bm L (pend + k + 1) wc wm := JK_le hJ (by omega)
    obtain ⟨w1, v1, p1, p2, p3, p4, p5, ⟨p6, p7⟩, p8, p9⟩ := m_pops (g := g) (a := 3) (x := 11) hs (by omega) (hS (h - 1) (by omega) (by omega)) (Or.inl rfl) (by decide) (by omega) (by omega) h4 hJ'
    rw [if_pos rfl] at p8
    have hci : wc 5 0 8 = ci := hJ.1.1
    have e0 : h - 1 - (k : Int) = h - ((k + 1 : Nat) : Int) := by omega
    have e1 : dp - 1 - (k : Int) = dp - ((k + 1 : Nat) : Int) := by omega
    obtain ⟨w2, v2, M, q1, q2, q3, q4, q5, ⟨q6, q7⟩, q8, q9, q10, q11⟩ := ih _ w1 v1 (h - 1) (dp - 1) (l3 + 1) p9 (by rw [p6]; exact h4) p8 (by omega) (by omega) (by omega) (by omega) (fun j j0 j1 => hS j (by omega) (by omega)) (by rw [e0]; exact ht) (by omega) (by omega)
    rw [e0, e1] at q8
    refine ⟨w2, v2, [(11, 0)] ++ M, ?_, p2.trans q2, EF_tr p3 q3, ET_tr p4 q4, mF_tr p5 q5, ⟨q6.trans p6, q7.trans p7⟩, q8, OUT_app OUT_n q9, ?_, by rw [← List.append_assoc]; exact q11⟩
    · rw [e_Reader_fact_19, if_neg (by omega), hci]
      have := p1 d
      unfold wK at this
      rw [if_neg (by decide), if_neg (by decide)] at this
      rw [this, bnd]
      dsimp only
      rw [gd_t (by omega)]
      exact q1
    · rw [cntV_app, q10, cntV_op (by decide)]
/-- truths that wait -/
def tr (k : Int) : List Bool := if k = 0 then [true] else if k = 1 then [true, true] else [true, true, true]
/-- the class's and that waits is put before the model's -/
def AW (ci a : Int) (w2 w3 : zW) : Prop := (a = 0 ∧ w3 = w2) ∨ (a = 1 ∧ ∀ d, Clauses_add d ci 38 0 w2 = some (0, w3))
theorem AW_5 {a : Int} {L : List tok} {w2 w3 wm : zW} (h : AW ci a w2 w3) (hJ : JK ci t bc bm L (pend + a) w2 wm) (hp : 0 ≤ pend) (h4 : w2 5 0 4 ≤ 400) : w3 5 = w2 5 ∧ w3 20 = w2 20 ∧ EF ci w2 w3 := by
  rcases h with ⟨a1, a2⟩ | ⟨a1, a2⟩
  · rw [a2]
    exact ⟨rfl, rfl, EF_rf _ _⟩
  · rw [a1] at hJ
    obtain ⟨w1, v1, p1, p2, p3, p4, ⟨p5, p6, p7⟩, p8⟩ := j_addK (a := 12) (b := 0) (k := 38) hJ hp h4 rfl (by decide) (by decide) (by decide)
    have := (p1 0).symm.trans (a2 0)
    injection this with this
    injection this with _ this
    subst this
    exact ⟨p5, p6, p3⟩
/-- the and that waits -/
theorem j_settle2 {S : Int → Int} {nW h0 dp o a : Int} {L : List tok} {w2 w3 v : zW} (ho : o = 0 ∨ o = 1) (ha : a = 0 ∨ a = 1) (hA : AW ci a w2 w3) (hJ : JK ci t bc bm L (pend + o + a) w2 v) (hp : 0 ≤ pend) (h4 : w2 5 0 4 ≤ 400) (hs : ST S (h0 + o + a) dp v) (hh : 0 ≤ h0 ∧ h0 ≤ 390) (hdp : 0 ≤ dp ∧ dp ≤ 100) (hS : (h0 = 0 ∨ S (h0 - 1) = 91) ∧ (o = 1 → S h0 = 13) ∧ (a = 1 → S (h0 + o) = 12)) :
    ∃ v' M, M_settles_1 (g + 1) 2 v = some (0, v') ∧ ET t v v' ∧ mF [50, 51] [23, 26] v v' ∧ ST S (h0 + o) dp v' ∧ OUT nW (tr (o + a)) (tr o) M ∧ cntV M = 0 ∧ JK ci t bc bm (L ++ M) (pend + o) w3 v' := by
  obtain ⟨hS0, hSo, hSa⟩ := hS
  have stop : ∀ v' : zW, ST S (h0 + o) dp v' → M_settles_1 (g + 1) 2 v' = some (0, v') := fun v' hv => m_stop hv (by omega) (by
    rcases ho with q | q
    · rw [q, Int.add_zero]
      rcases hS0 with k | k
      · exact Or.inl k
      · refine Or.inr ?_
        rw [k]
        decide
    · refine Or.inr ?_
      rw [q, show h0 + 1 - 1 = h0 by omega, hSo q]
      decide)
  rcases ha with q | q
  · rw [q, Int.add_zero] at hs hJ
    rcases hA with ⟨-, k⟩ | ⟨k, -⟩
    · refine ⟨v, [], stop v hs, ET_rf _ _, mF_rf _ _ _, hs, by rw [q, Int.add_zero]; exact OUT_nil _ _, rfl, ?_⟩
      rw [List.append_nil, k]
      exact hJ
    · omega
  · rw [q] at hs hJ
    rcases hA with ⟨k, -⟩ | ⟨-, k⟩
    · omega
    · have e0 : h0 + o + 1 - 1 = h0 + o := by omega
      obtain ⟨w1, v1, p1, p2, p3, p4, p5, ⟨p6, p7⟩, p8, p9⟩ := m_pops (g := g) (a := 2) (x := 12) hs (by omega) (by rw [e0]; exact hSa q) (by decide) (by decide) hdp (by omega) h4 hJ
      rw [if_neg (by decide), e0] at p8
      have := (p1 0).symm.trans (k 0)
      injection this with this
      injection this with _ this
      subst this
      refine ⟨v1, [(12, 0)], p2.trans (stop v1 p8), p4, p5, p8, ?_, rfl, p9⟩
      rw [q]
      rcases ho with y | y <;> rw [y] <;> exact OUT_j (Or.inl rfl)
/-- all that waits -/
theorem j_settle1 {S : Int → Int} {nW h0 dp o a : Int} {L : List tok} {w2 w3 v : zW} (ho : o = 0 ∨ o = 1) (ha : a = 0 ∨ a = 1) (hA : AW ci a w2 w3) (hJ : JK ci t bc bm L (pend + o + a) w2 v) (hp : 0 ≤ pend) (h4 : w2 5 0 4 ≤ 400) (hs : ST S (h0 + o + a) dp v) (hh : 0 ≤ h0 ∧ h0 ≤ 390) (hdp : 0 ≤ dp ∧ dp ≤ 100) (hS : (h0 = 0 ∨ S (h0 - 1) = 91) ∧ (o = 1 → S h0 = 13) ∧ (a = 1 → S (h0 + o) = 12)) :
    ∃ wE v' M, (∀ (K : zW → zR) (d : Nat), (if o = 0 then K w3 else (Clauses_add d ci 124 0 w3).bind fun r => K r.2) = K wE) ∧ M_settles_1 (g + 1) 1 v = some (0, v') ∧ EF ci w3 wE ∧ ET t v v' ∧ mF [50, 51] [23, 26] v v' ∧ (wE 5 = w3 5 ∧ wE 20 = w3 20) ∧ ST S h0 dp v' ∧ OUT nW (tr (o + a)) [true] M ∧ cntV M = 0 ∧ JK ci t bc bm (L ++ M) pend wE v' := by
  obtain ⟨hS0, hSo, hSa⟩ := hS
  have stop : ∀ v' : zW, ST S h0 dp v' → M_settles_1 (g + 1) 1 v' = some (0, v') := fun v' hv => m_stop hv (by omega) (by
    rcases hS0 with k | k
    · exact Or.inl k
    · refine Or.inr ?_
      rw [k]
      decide)
  have h35 := AW_5 hA (pend := pend + o) hJ (by omega) h4
  -- the or, once the and is put
  have ors : ∀ (L' : List tok) (v0 : zW), JK ci t bc bm L' (pend + o) w3 v0 → ST S (h0 + o) dp v0 → ∃ wE v' M, (∀ (K : zW → zR) (d : Nat), (if o = 0 then K w3 else (Clauses_add d ci 124 0 w3).bind fun r => K r.2) = K wE) ∧ M_settles_1 (g + 1) 1 v0 = some (0, v') ∧ EF ci w3 wE ∧ ET t v0 v' ∧ mF [50, 51] [23, 26] v0 v' ∧ (wE 5 = w3 5 ∧ wE 20 = w3 20) ∧ ST S h0 dp v' ∧ OUT nW (tr o) [true] M ∧ cntV M = 0 ∧ JK ci t bc bm (L' ++ M) pend wE v' := fun L' v0 hJ0 hs0 => by
    rcases ho with y | y
    · rw [y, Int.add_zero] at hJ0 hs0
      refine ⟨w3, v0, [], fun K d => by rw [if_pos y], stop v0 hs0, EF_rf _ _, ET_rf _ _, mF_rf _ _ _, ⟨rfl, rfl⟩, hs0, by rw [y]; exact OUT_nil _ _, rfl, by rw [List.append_nil]; exact hJ0⟩
    · rw [y] at hJ0 hs0
      have e0 : h0 + 1 - 1 = h0 := by omega
      obtain ⟨w1, v1, p1, p2, p3, p4, p5, ⟨p6, p7⟩, p8, p9⟩ := m_pops (g := g) (a := 1) (x := 13) hs0 (by omega) (by rw [e0]; exact hSo y) (by decide) (by decide) hdp hp (by rw [h35.1]; exact h4) hJ0
      rw [if_neg (by decide), e0] at p8
      refine ⟨w1, v1, [(13, 0)], fun K d => ?_, p2.trans (stop v1 p8), p3, p4, p5, ⟨p6, p7⟩, p8, by rw [y]; exact OUT_j (Or.inr rfl), rfl, p9⟩
      have := p1 d
      unfold wK at this
      rw [if_pos rfl] at this
      rw [if_neg (by omega), this, bnd]
  rcases ha with q | q
  · rw [q, Int.add_zero] at hs hJ
    rcases hA with ⟨-, k⟩ | ⟨k, -⟩
    · rw [q, Int.add_zero]
      exact ors L v (by rw [k]; exact hJ) hs
    · omega
  · rw [q] at hs hJ
    rcases hA with ⟨k, -⟩ | ⟨-, k⟩
    · omega
    · have e0 : h0 + o + 1 - 1 = h0 + o := by omega
      obtain ⟨w1, v1, p1, p2, p3, p4, p5, ⟨p6, p7⟩, p8, p9⟩ := m_pops (g := g) (a := 1) (x := 12) hs (by omega) (by rw [e0]; exact hSa q) (by decide) (by decide) hdp (by omega) h4 hJ
      rw [if_neg (by decide), e0] at p8
      have := (p1 0).symm.trans (k 0)
      injection this with this
      injection this with _ this
      subst this
      obtain ⟨wE, v', M, q1, q2, q3, q4, q5, q6, q7, q8, q9, q10⟩ := ors _ v1 p9 p8
      refine ⟨wE, v', [(12, 0)] ++ M, q1, p2.trans q2, q3, ET_tr p4 q4, mF_tr p5 q5, q6, q7, OUT_app ?_ q8, ?_, by rw [← List.append_assoc]; exact q10⟩
      · rw [q]
        rcases ho with y | y <;> rw [y] <;> exact OUT_j (Or.inl rfl)
      · rw [cntV_app, q9]
        rfl
end
