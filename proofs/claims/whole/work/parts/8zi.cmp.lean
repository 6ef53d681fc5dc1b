/-! a comparison, in both -/
theorem TK_cmp {T : Int → Int} {n q sg bh : Int} (h : TK T n q sg bh) :
    (sg = 60 → (q < n ∧ T q = 60) ∧ bh = q + 1 ∧ ¬ (q + 1 < n ∧ T (q + 1) = 61)) ∧ (sg = 108 → (q < n ∧ T q = 60) ∧ bh = q + 2 ∧ q + 1 < n ∧ T (q + 1) = 61) ∧ (sg = 61 → (q < n ∧ T q = 61) ∧ bh = q + 1) ∧ (sg = 103 → (q < n ∧ T q = 62) ∧ bh = q + 2 ∧ q + 1 < n ∧ T (q + 1) = 61) ∧ (sg = 62 → (q < n ∧ T q = 62) ∧ bh = q + 1 ∧ ¬ (q + 1 < n ∧ T (q + 1) = 61)) ∧ (sg ≠ 60 → sg ≠ 108 → sg ≠ 61 → sg ≠ 103 → sg ≠ 62 → ¬ (q < n ∧ (T q = 60 ∨ T q = 61 ∨ T q = 62))) := by
  unfold TK at h
  by_cases z : n ≤ q
  · rw [if_pos z] at h
    refine ⟨?_, ?_, ?_, ?_, ?_, ?_⟩ <;> intros <;> omega
  rw [if_neg z] at h
  by_cases z1 : dig (T q)
  · rw [if_pos z1] at h
    have := h.1
    refine ⟨?_, ?_, ?_, ?_, ?_, ?_⟩ <;> intros <;> omega
  rw [if_neg z1] at h
  by_cases z2 : let' (T q)
  · rw [if_pos z2] at h
    have := h.1
    refine ⟨?_, ?_, ?_, ?_, ?_, ?_⟩ <;> intros <;> omega
  rw [if_neg z2] at h
  by_cases z3 : (T q = 60 ∨ T q = 62) ∧ q + 1 < n ∧ T (q + 1) = 61
  · rw [if_pos z3] at h
    by_cases z4 : T q = 60
    · rw [if_pos z4] at h
      refine ⟨?_, ?_, ?_, ?_, ?_, ?_⟩ <;> intros <;> omega
    · rw [if_neg z4] at h
      refine ⟨?_, ?_, ?_, ?_, ?_, ?_⟩ <;> intros <;> omega
  · rw [if_neg z3] at h
    refine ⟨?_, ?_, ?_, ?_, ?_, ?_⟩ <;> intros <;> omega
/-- which sign is which -/
def cmpW (sg : Int) : Int := if sg = 108 ∨ sg = 103 then 2 else 1
def cmpC (sg : Int) : Int := if sg = 60 ∨ sg = 108 then 60 else if sg = 61 then 61 else 62
def cmpS (sg : Int) : Int := if sg = 60 then 0 else if sg = 108 then 1 else if sg = 61 then 2 else if sg = 103 then 3 else 4
abbrev isCm (sg : Int) : Prop := sg = 60 ∨ sg = 108 ∨ sg = 61 ∨ sg = 103 ∨ sg = 62
section
variable {d d' : Nat} {T : Int → Int} {n ci t bc bm pend : Int} {L : List tok} {wc wm : zW}
theorem m_cmp6 {w : zW} {q sg : Int} (hT : MT T n w) (h18 : w 11 0 18 = q) (hq : 0 ≤ q ∧ q < n) (hs : isCm sg) (h1 : cmpW sg = 2 → q + 1 < n ∧ T (q + 1) = 61) (h2 : cmpW sg = 1 → sg ≠ 61 → ¬ (q + 1 < n ∧ T (q + 1) = 61)) : ∃ l3, M_compare_6 d (cmpC sg) q w = M_compare_13 d (cmpC sg) q l3 (z_up w 11 0 18 (q + cmpW sg)) ∧ (l3 = 0 ∨ l3 = 1) ∧ (l3 = 1 ↔ cmpW sg = 2) := by
  obtain ⟨t1, t2, t3⟩ := hT
  have e18 : ∀ x, (z_up w 11 0 18 x) 11 0 18 = x := fun _ => up_h
  have e48 : ∀ x y, (z_up w 11 0 18 x) 48 0 y = w 48 0 y := fun _ _ => up_c (by decide)
  have h10 : M_compare_10 d (cmpC sg) q (z_up w 11 0 18 (q + 1)) = M_compare_13 d (cmpC sg) q 0 (z_up w 11 0 18 (q + 1)) := by
    rw [e_M_compare_10, if_pos rfl]
  rw [e_M_compare_6, h18, gd_t (by omega)]
  by_cases z : cmpW sg = 2
  · obtain ⟨a1, a2⟩ := h1 z
    have hc : ¬ cmpC sg = 61 := by
      unfold cmpC
      unfold cmpW at z
      rcases hs with rfl | rfl | rfl | rfl | rfl <;> revert z <;> decide
    have h48 : w 48 0 (q + 1) = 61 := by
      rw [(t3 (q + 1) (by omega) a1).2, a2]
      rfl
    refine ⟨1, ?_, Or.inr rfl, fun _ => z, fun _ => rfl⟩
    rw [if_neg hc, t1, if_neg (by omega), gd_t (by omega), if_pos h48, if_neg (show ¬ (1 : Int) = 0 by decide), gd_t (by omega), up_2, z, show q + 1 + 1 = q + 2 by omega]
  · have z1 : cmpW sg = 1 := by
      unfold cmpW at *
      rcases hs with rfl | rfl | rfl | rfl | rfl <;> revert z <;> decide
    refine ⟨0, ?_, Or.inl rfl, fun k => absurd k (by decide), fun k => absurd k z⟩
    rw [z1]
    by_cases y : cmpC sg = 61
    · rw [if_pos y, h10]
    rw [if_neg y, t1]
    by_cases x : n ≤ q + 1
    · rw [if_pos x, h10]
    have hsg : sg ≠ 61 := fun k => y (by rw [k]; rfl)
    have hno := h2 z1 hsg
    have h48 : ¬ w 48 0 (q + 1) = 61 := by
      rw [(t3 (q + 1) (by omega) (by omega)).2]
      have := (t3 (q + 1) (by omega) (by omega)).1
      unfold z_w8
      omega
    rw [if_neg x, gd_t (by omega), if_neg h48, h10]
/-- the comparison's sign is written -/
theorem j_cmpAdd {sg : Int} (hs : isCm sg) (hp : 0 ≤ pend) (h : JC T n ci t bc bm L (pend + cmpW sg) wc wm) :
    ∃ wc' wm', Reader_addComparison (d + 1) sg wc = some (0, wc') ∧ M_puts d' (6 + cmpS sg) 0 wm = some (0, wm') ∧ EF ci wc wc' ∧ EM t wm wm' ∧ wc' 5 = wc 5 ∧ JC T n ci t bc bm (L ++ [(6 + cmpS sg, 0)]) pend wc' wm' := by
  have hci : wc 5 0 8 = ci := h.2.1.1
  have h2 := h.1.1.2.2.2.1
  have h3 := h.1.1.1
  have two : ∀ a k : Int, cmpW sg = 2 → cmpS sg = a → cl (6 + a, 0) = [(k, 0), (33, 0)] → (0 ≤ a ∧ a < 8) → (0 ≤ k ∧ k < 256) → ∃ wc' wm', ((Clauses_add d (wc 5 0 8) k 0 wc).bind fun r1 => (Clauses_add d (r1.2 5 0 8) 33 0 r1.2).bind fun r2 => some ((0 : Int), r2.2)) = some (0, wc') ∧ M_puts d' (6 + cmpS sg) 0 wm = some (0, wm') ∧ EF ci wc wc' ∧ EM t wm wm' ∧ wc' 5 = wc 5 ∧ JC T n ci t bc bm (L ++ [(6 + cmpS sg, 0)]) pend wc' wm' := fun a k hw ha hcl h16 hk => by
    rw [hw] at h
    obtain ⟨w1, w2, v, p1, p2, p3, p4, p5, p6, ⟨p7, p8, p9⟩, p10⟩ := j_add2K h.2 hp (by omega) hcl (by omega) hk (by decide)
    refine ⟨w2, v, ?_, by rw [ha]; exact p4 d', p5, p6, p7, JR_5 h.1 p7 p8 (fun s => p9.2 s List.not_mem_nil) (p9.1 48 (by decide) (by decide)), by rw [ha]; exact p10⟩
    rw [hci, p1 d, bnd]
    dsimp only
    rw [p2, hci, p3 d, bnd]
  have one : ∀ a : Int, cmpW sg = 1 → cmpS sg = a → cl (6 + a, 0) = [(sg, 0)] → (0 ≤ a ∧ a < 8) → (0 ≤ sg ∧ sg < 256) → ∃ wc' wm', ((Clauses_add d (wc 5 0 8) sg 0 wc).bind fun r1 => some ((0 : Int), r1.2)) = some (0, wc') ∧ M_puts d' (6 + cmpS sg) 0 wm = some (0, wm') ∧ EF ci wc wc' ∧ EM t wm wm' ∧ wc' 5 = wc 5 ∧ JC T n ci t bc bm (L ++ [(6 + cmpS sg, 0)]) pend wc' wm' := fun a hw ha hcl h16 hk => by
    rw [hw] at h
    obtain ⟨w1, v, p1, p2, p3, p4, p5, p6⟩ := j_add (d := d) (d' := d') h hp hcl (by omega) hk (by decide)
    refine ⟨w1, v, ?_, by rw [ha]; exact p2, p3, p4, p5, by rw [ha]; exact p6⟩
    rw [hci, p1, bnd]
  rw [e_Reader_addComparison]
  rcases hs with rfl | rfl | rfl | rfl | rfl
  · rw [if_neg (by decide), if_neg (by decide)]
    exact one 0 rfl rfl rfl (by decide) (by decide)
  · rw [if_pos rfl]
    exact two 1 62 rfl rfl rfl (by decide) (by decide)
  · rw [if_neg (by decide), if_neg (by decide)]
    exact one 2 rfl rfl rfl (by decide) (by decide)
  · rw [if_neg (by decide), if_pos rfl]
    exact two 3 60 rfl rfl rfl (by decide) (by decide)
  · rw [if_neg (by decide), if_neg (by decide)]
    exact one 4 rfl rfl rfl (by decide) (by decide)
/-- a part more, in both -/
theorem JC_made {v : zW} (h : JC T n ci t bc bm L pend wc wm) (h6 : wc 5 0 6 < 60) (hv : mF [] [22] wm v) (h22 : v 11 0 22 = wc 5 0 6 + 1) : JC T n ci t bc bm L pend (z_up wc 5 0 6 (wc 5 0 6 + 1)) v := by
  obtain ⟨⟨q1, q2, q3, q4, q5⟩, ⟨j2, j3, j4⟩, j5, j6, j7⟩ := h
  refine ⟨⟨?_, ?_, (hv.2 19 (by decide)).trans q3, ?_, ?_⟩, ⟨?_, (hv.2 21 (by decide)).trans j3, j4⟩, ⟨?_, ?_⟩, KC_fr j6 (upc (by decide)) (upc (by decide)) (hv.1 50 (by decide) (by decide)) (hv.1 51 (by decide) (by decide)), ?_, j7.2⟩
  · unfold CT at *
    rw [up_s (by decide), up_s (by decide), up_s (by decide), up_s (by decide), up_s (by decide), upc (by decide)]
    exact q1
  · obtain ⟨m1, m2, m3⟩ := q2
    refine ⟨(hv.2 1 (by decide)).trans m1, m2, fun x x0 x1 => ?_⟩
    rw [hv.1 48 (by decide) (by decide)]
    exact m3 x x0 x1
  · rw [hv.2 18 (by decide)]; exact q4
  · rw [hv.2 18 (by decide), up_s (by decide)]; exact q5
  · rw [up_s (by decide)]; exact j2
  · rw [h22, up_h]
  · rw [up_h]; omega
  · rw [up_s (by decide)]; exact j7.1
theorem EF_up6 {v : Int} : EF ci wc (z_up wc 5 0 6 v) := ⟨fr_up (by decide), fun i _ => by rw [upc (by decide), upc (by decide)]; exact ⟨rfl, rfl⟩, fun s _ => up_c (by decide), fun s hs => up_s (by omega), fun p _ => up_c (by decide), by rw [upc (by decide)]; exact Int.le_refl _⟩
/-- a comparison -/
theorem j_compare {sid nW l1 l2 : Int} (hv : vS t sid nW) (hp : 0 ≤ pend) (h7 : wc 5 0 7 = sid) (h91 : wc 5 0 3 ≠ 91) (h : JC T n ci t bc bm L pend wc wm) :
    ∃ wc' rm wm', Reader_fact_4 (d + 5) l1 l2 wc = Reader_fact_19 (d + 5) l2 l1 wc' ∧ M_compare (d' + 6) wm = some (rm, wm') ∧ EF ci wc wc' ∧ EM t wm wm' ∧ SE T n ci t bc bm L pend nW [] [true] 70 wc wc' rm wm' := by
  obtain ⟨w1, r1, v1, p1, p2, p3, p4, p5⟩ := j_sum (d := d) (d' := d') hv hp h7 h
  rw [e_Reader_fact_4, if_neg h91, p1, bnd, e_M_compare, p2, bnd]
  dsimp only
  rcases p5 with ⟨y1, y2, M, y3, y4, y5⟩ | ⟨y1, f, y2, y3⟩
  · rw [if_neg (show ¬ r1 = 0 by omega)]
    obtain ⟨hs, hJ⟩ := j_see (d := d' + 5) y5.1
    have hCT := y5.1.1
    have hq := hCT.2.2.2.1
    have hn := hCT.1
    obtain ⟨t60, t108, t61, t103, t62, tno⟩ := TK_cmp hCT.2.2.2.2
    have e18 : (z_up v1 11 0 18 (w1 5 0 4)) 11 0 18 = w1 5 0 4 := up_h
    have g18 : mF [] [18, 20] v1 (z_up v1 11 0 18 (w1 5 0 4)) := mF_11 (by decide)
    have hJ1 : JC T n ci t bc bm (L ++ M) pend w1 (z_up v1 11 0 18 (w1 5 0 4)) := JC_18 y5 g18 up_h
    have h71 : w1 5 0 7 = sid := by rw [p3.2.2.2.1 7 (by omega)]; exact h7
    rw [hs, bnd]
    dsimp only
    rw [e18]
    by_cases hcm : isCm (w1 5 0 3)
    case neg =>
      have hno := tno (fun q => hcm (Or.inl q)) (fun q => hcm (Or.inr (Or.inl q))) (fun q => hcm (Or.inr (Or.inr (Or.inl q)))) (fun q => hcm (Or.inr (Or.inr (Or.inr (Or.inl q))))) (fun q => hcm (Or.inr (Or.inr (Or.inr (Or.inr q)))))
      have hz : ∀ c : Int, (c = 60 ∨ c = 61 ∨ c = 62) → ¬ (if n ≤ w1 5 0 4 then (-1 : Int) else T (w1 5 0 4)) = c := fun c hc q => by
        by_cases z : n ≤ w1 5 0 4
        · rw [if_pos z] at q; omega
        · rw [if_neg z] at q; exact hno ⟨by omega, by omega⟩
      rw [if_neg (fun q => hcm (Or.inl q)), if_neg (fun q => hcm (Or.inr (Or.inl q))), if_neg (fun q => hcm (Or.inr (Or.inr (Or.inl q)))), if_neg (fun q => hcm (Or.inr (Or.inr (Or.inr (Or.inl q))))), if_neg (fun q => hcm (Or.inr (Or.inr (Or.inr (Or.inr q))))), s_refuse_x hCT (by decide), bnd]
      rw [if_neg (hz 60 (by omega)), if_neg (hz 61 (by omega)), if_neg (hz 62 (by omega)), m_fails hJ.2.2.1 (by decide) (by omega), bnd]
      dsimp only
      rw [gd_t (by decide)]
      exact ⟨_, 0, _, rfl, rfl, EF_tr p3 EF_refuse, EM_tr p4 (EM_m (mF_tr (mF_11 (by decide)) (mF_11 (by decide)))), Or.inr ⟨rfl, _, FS_le (FS_refuse (k := 0) y5 hp (by decide)) (by decide), up_h⟩⟩
    case pos =>
      obtain ⟨sg, hsg⟩ : ∃ sg, w1 5 0 3 = sg := ⟨_, rfl⟩
      rw [hsg] at hcm t60 t108 t61 t103 t62
      have hwd : (w1 5 0 4 < n ∧ T (w1 5 0 4) = cmpC sg) ∧ w1 5 0 5 = w1 5 0 4 + cmpW sg ∧ (cmpW sg = 2 → w1 5 0 4 + 1 < n ∧ T (w1 5 0 4 + 1) = 61) ∧ (cmpW sg = 1 → sg ≠ 61 → ¬ (w1 5 0 4 + 1 < n ∧ T (w1 5 0 4 + 1) = 61)) := by
        have c60 : cmpC 60 = 60 ∧ cmpW 60 = 1 := by decide
        have c108 : cmpC 108 = 60 ∧ cmpW 108 = 2 := by decide
        have c61 : cmpC 61 = 61 ∧ cmpW 61 = 1 := by decide
        have c103 : cmpC 103 = 62 ∧ cmpW 103 = 2 := by decide
        have c62 : cmpC 62 = 62 ∧ cmpW 62 = 1 := by decide
        rcases hcm with rfl | rfl | rfl | rfl | rfl
        · have := t60 rfl; omega
        · have := t108 rfl; omega
        · have := t61 rfl; omega
        · have := t103 rfl; omega
        · have := t62 rfl; omega
      obtain ⟨⟨u1, u2⟩, u3, u4, u5⟩ := hwd
      have hw1 : 1 ≤ cmpW sg ∧ cmpW sg ≤ 2 := by unfold cmpW; split <;> omega
      have hcl4 : (if w1 5 0 3 = 60 then Reader_fact_16 (d + 5) l1 l2 (w1 5 0 3) w1 else if w1 5 0 3 = 108 then Reader_fact_16 (d + 5) l1 l2 (w1 5 0 3) w1 else if w1 5 0 3 = 61 then Reader_fact_16 (d + 5) l1 l2 (w1 5 0 3) w1 else if w1 5 0 3 = 103 then Reader_fact_16 (d + 5) l1 l2 (w1 5 0 3) w1 else if w1 5 0 3 = 62 then Reader_fact_16 (d + 5) l1 l2 (w1 5 0 3) w1 else (Reader_refuse (d + 4) 0 w1).bind fun r2 => Reader_fact_19 (d + 5) l2 l1 r2.2) = Reader_fact_16 (d + 5) l1 l2 sg w1 := by
        rcases hcm with q | q | q | q | q
        · rw [if_pos (by omega), hsg]
        · rw [if_neg (by omega), if_pos (by omega), hsg]
        · rw [if_neg (by omega), if_neg (by omega), if_pos (by omega), hsg]
        · rw [if_neg (by omega), if_neg (by omega), if_neg (by omega), if_pos (by omega), hsg]
        · rw [if_neg (by omega), if_neg (by omega), if_neg (by omega), if_neg (by omega), if_pos (by omega), hsg]
      have hm4 : ∀ w : zW, (if (if n ≤ w1 5 0 4 then (-1 : Int) else T (w1 5 0 4)) = 60 then M_compare_6 (d' + 6) (if n ≤ w1 5 0 4 then (-1 : Int) else T (w1 5 0 4)) (w1 5 0 4) w else if (if n ≤ w1 5 0 4 then (-1 : Int) else T (w1 5 0 4)) = 61 then M_compare_6 (d' + 6) (if n ≤ w1 5 0 4 then (-1 : Int) else T (w1 5 0 4)) (w1 5 0 4) w else if (if n ≤ w1 5 0 4 then (-1 : Int) else T (w1 5 0 4)) = 62 then M_compare_6 (d' + 6) (if n ≤ w1 5 0 4 then (-1 : Int) else T (w1 5 0 4)) (w1 5 0 4) w else (M_fails (d' + 5) 0 (w1 5 0 4) w).bind fun r3 => gd (0 ≤ r3.1 ∧ r3.1 ≤ 1) (some (r3.1, r3.2))) = M_compare_6 (d' + 6) (cmpC sg) (w1 5 0 4) w := fun w => by
        have hv : (if n ≤ w1 5 0 4 then (-1 : Int) else T (w1 5 0 4)) = cmpC sg := by rw [if_neg (show ¬ n ≤ w1 5 0 4 by omega), u2]
        have hc : cmpC sg = 60 ∨ cmpC sg = 61 ∨ cmpC sg = 62 := by rcases hcm with q | q | q | q | q <;> rw [q] <;> decide
        rcases hc with q | q | q
        · rw [if_pos (hv.trans q), hv]
        · rw [if_neg (by omega), if_pos (hv.trans q), hv]
        · rw [if_neg (by omega), if_neg (by omega), if_pos (hv.trans q), hv]
      rw [hcl4, hm4]
      obtain ⟨l3, g1, g2, g3⟩ := m_cmp6 (d := d' + 6) hJ.2.1 e18 ⟨hq.1, u1⟩ hcm u4 u5
      rw [g1]
      have f2 : mF [] [18] (z_up v1 11 0 18 (w1 5 0 4)) (z_up (z_up v1 11 0 18 (w1 5 0 4)) 11 0 18 (w1 5 0 4 + cmpW sg)) := mF_11 (by decide)
      have hm19 : (z_up (z_up v1 11 0 18 (w1 5 0 4)) 11 0 18 (w1 5 0 4 + cmpW sg)) 11 0 19 = 0 := by rw [f2.2 19 (by decide)]; exact hJ.2.2.1
      have h6 := y5.2.2.1
      have hm22 : (z_up (z_up v1 11 0 18 (w1 5 0 4)) 11 0 18 (w1 5 0 4 + cmpW sg)) 11 0 22 = w1 5 0 6 := by rw [f2.2 22 (by decide), up_s (by decide)]; exact h6.1
      have hE1 : EM t wm (z_up (z_up v1 11 0 18 (w1 5 0 4)) 11 0 18 (w1 5 0 4 + cmpW sg)) := EM_tr p4 (EM_m (mF_tr (mF_11 (by decide)) (mF_11 (by decide))))
      rw [e_Reader_fact_16, e_Reader_countPart, e_M_compare_13, m_makes hm19 (by rw [hm22]; exact ⟨h6.2.1, h6.2.2⟩) (by omega), hm22]
      by_cases x60 : w1 5 0 6 = 60
      · -- one part too many
        rw [if_neg (by omega), if_pos x60, s_refuse_x hCT (by decide), bnd, bnd]
        dsimp only
        have hF := FS_refuse (k := 3) y5 hp (by decide)
        have hE := EF_refuse (ci := ci) (wc := w1) (f := 1 + 8 * w1 5 0 4 + 3)
        have hF6 := hF.2.2.2
        obtain ⟨a1, a2⟩ := F_up6 (v := (z_up (z_up w1 5 0 2 (1 + 8 * w1 5 0 4 + 3)) 5 0 3 (-2)) 5 0 6 + 1) (P' := 62) hF (by omega)
        generalize z_up (z_up w1 5 0 2 (1 + 8 * w1 5 0 4 + 3)) 5 0 3 (-2) = wx at *
        obtain ⟨w3, b1, b2, b3⟩ := F_next (d := d + 4) a2
        obtain ⟨w4, c1, c2, c3⟩ := F_sum (d := d + 1) b3 (by decide)
        obtain ⟨w5, d1, d2, d3⟩ := F_addC (d := d + 3) (a := sg) c3 (by omega)
        refine ⟨w5, 0, _, ?_, ?_, EF_tr p3 (EF_tr hE (EF_tr a1 (EF_tr b2 (EF_tr c2 d2)))), EM_tr hE1 (EM_m (mF_11 (by decide))), Or.inr ⟨rfl, _, FS_le d3 (by decide), up_h⟩⟩
        · rw [gd_t (by omega), bnd]
          dsimp only
          rw [b1, bnd]
          dsimp only
          rw [c1, bnd]
          dsimp only
          rw [d1, bnd]
        · rw [if_pos rfl, gd_t (by decide)]
      · have hlt : w1 5 0 6 < 60 := by omega
        rw [if_pos hlt, gd_t (by omega), if_neg x60, bnd, bnd]
        dsimp only
        have hJ2 : JC T n ci t bc bm (L ++ M) pend (z_up w1 5 0 6 (w1 5 0 6 + 1)) (z_up (z_up v1 11 0 18 (w1 5 0 4)) 11 0 22 (w1 5 0 6 + 1)) := JC_made hJ1 hlt (mF_11 (by decide)) up_h
        have x5 : (z_up w1 5 0 6 (w1 5 0 6 + 1)) 5 0 5 = w1 5 0 5 := up_s (by decide)
        have x4 : (z_up w1 5 0 6 (w1 5 0 6 + 1)) 5 0 4 = w1 5 0 4 := up_s (by decide)
        obtain ⟨w2, a1, a2, a3, a4, a5⟩ := j_pass (d := d + 4) (b := cmpW sg) hJ2 (by rw [x5, x4]; exact u3) hw1.1
        rw [x4] at a3 a4
        have fx : mF [] [18] (z_up (z_up v1 11 0 18 (w1 5 0 4)) 11 0 22 (w1 5 0 6 + 1)) (z_up (z_up (z_up v1 11 0 18 (w1 5 0 4)) 11 0 18 (w1 5 0 4 + cmpW sg)) 11 0 22 (w1 5 0 6 + 1)) := by
          refine ⟨fun c _ hc => ?_, fun s hs => ?_⟩
          · rw [upc hc, upc hc, upc hc, upc hc, upc hc]
          · by_cases q : s = 22
            · rw [q, up_h, up_h]
            · have hs18 : s ≠ 18 := fun k => hs (by rw [k]; decide)
              rw [up_s q, up_s hs18, up_s q]
        have hJ3 := a3 _ fx (by rw [up_s (by decide), up_h])
        have h72 : w2 5 0 7 = sid := by rw [a5.2 7 (by decide) (by decide) (by decide), up_s (by decide)]; exact h71
        have h62 : w2 5 0 6 = w1 5 0 6 + 1 := by rw [a5.2 6 (by decide) (by decide) (by decide), up_h]
        obtain ⟨w3, r3, v3, b1, b2, b3, b4, b5⟩ := j_sum (d := d) (d' := d') hv (by omega) h72 hJ3
        have hm13 : (if cmpC sg = 60 then (if l3 = 0 then M_compare_24 (d' + 6) 0 (z_up (z_up (z_up v1 11 0 18 (w1 5 0 4)) 11 0 18 (w1 5 0 4 + cmpW sg)) 11 0 22 (w1 5 0 6 + 1)) else M_compare_24 (d' + 6) 1 (z_up (z_up (z_up v1 11 0 18 (w1 5 0 4)) 11 0 18 (w1 5 0 4 + cmpW sg)) 11 0 22 (w1 5 0 6 + 1))) else (if cmpC sg = 61 then M_compare_24 (d' + 6) 2 (z_up (z_up (z_up v1 11 0 18 (w1 5 0 4)) 11 0 18 (w1 5 0 4 + cmpW sg)) 11 0 22 (w1 5 0 6 + 1)) else (if l3 = 0 then M_compare_24 (d' + 6) 4 (z_up (z_up (z_up v1 11 0 18 (w1 5 0 4)) 11 0 18 (w1 5 0 4 + cmpW sg)) 11 0 22 (w1 5 0 6 + 1)) else M_compare_24 (d' + 6) 3 (z_up (z_up (z_up v1 11 0 18 (w1 5 0 4)) 11 0 18 (w1 5 0 4 + cmpW sg)) 11 0 22 (w1 5 0 6 + 1))))) = M_compare_24 (d' + 6) (cmpS sg) (z_up (z_up (z_up v1 11 0 18 (w1 5 0 4)) 11 0 18 (w1 5 0 4 + cmpW sg)) 11 0 22 (w1 5 0 6 + 1)) := by
          generalize z_up (z_up (z_up v1 11 0 18 (w1 5 0 4)) 11 0 18 (w1 5 0 4 + cmpW sg)) 11 0 22 (w1 5 0 6 + 1) = vx
          have hl : l3 = if cmpW sg = 2 then 1 else 0 := by
            by_cases q : cmpW sg = 2
            · rw [if_pos q]; exact g3.2 q
            · rw [if_neg q]
              rcases g2 with k | k
              · exact k
              · exact absurd (g3.1 k) q
          rw [hl]
          rcases hcm with q | q | q | q | q <;> rw [q] <;> rfl
        have hEc : EF ci wc w3 := EF_tr p3 (EF_tr EF_up6 (EF_tr a2 b3))
        have hEm : EM t wm v3 := EM_tr hE1 (EM_tr (EM_m (mF_11 (by decide))) b4)
        rw [a1, bnd]
        dsimp only
        rw [b1, bnd]
        dsimp only
        rw [if_neg (show ¬ (1 : Int) = 0 by decide), hm13, e_M_compare_24, b2, bnd]
        dsimp only
        rcases b5 with ⟨k1, k2, N, k3, k4, k5⟩ | ⟨k1, g, k2, k3⟩
        · obtain ⟨w4, v4, c1, c2, c3, c4, c5, c6⟩ := j_cmpAdd (d := d + 3) (d' := d' + 5) hcm hp k5
          have hS : 0 ≤ cmpS sg ∧ cmpS sg ≤ 4 := by rcases hcm with q | q | q | q | q <;> rw [q] <;> decide
          refine ⟨w4, 1, v4, ?_, ?_, EF_tr hEc c3, EM_tr hEm c4, ?_⟩
          · rw [c1, bnd]
          · rw [if_neg (by omega), gd_t (by omega), c2, bnd]
            dsimp only
            rw [gd_t (by decide)]
          · refine Or.inl ⟨rfl, by rw [c5]; omega, M ++ (N ++ [(6 + cmpS sg, 0)]), OUT_app y3 (OUT_app ?_ (OUT_3 (a := []) (by omega))), ?_, ?_⟩
            · exact ⟨k3.1, fun ts => k3.2 (false :: ts)⟩
            · rw [cntV_app, cntV_app, cntV_op (by omega), c5]
              omega
            · rw [← List.append_assoc, ← List.append_assoc]
              exact c6
        · obtain ⟨w5, d1, d2, d3⟩ := F_addC (d := d + 3) (a := sg) k2 (by omega)
          refine ⟨w5, 0, v3, ?_, ?_, EF_tr hEc d2, hEm, Or.inr ⟨rfl, g, FS_le d3 (by decide), k3⟩⟩
          · rw [d1, bnd]
          · rw [if_pos k1, gd_t (by decide)]
  · have hs := y2.1.2.1
    obtain ⟨w2, a1, a2, a3⟩ := F_refuse (d := d + 4) (k := 0) y2
    refine ⟨w2, 0, v1, ?_, ?_, EF_tr p3 a2, p4, Or.inr ⟨rfl, f, FS_le a3 (by decide), y3⟩⟩
    · rw [if_neg (by omega), if_neg (by omega), if_neg (by omega), if_neg (by omega), if_neg (by omega), a1, bnd]
    · rw [if_pos y1, gd_t (by decide)]
end
