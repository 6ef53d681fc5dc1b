/-! a whole sum, in both -/
def OUT (nW : Int) (a c : List Bool) (M : List tok) : Prop := (∀ x ∈ M, tokOK nW x) ∧ ∀ ts, trun M (a ++ ts) = some (c ++ ts)
theorem OUT_nil (nW : Int) (a : List Bool) : OUT nW a a [] := ⟨fun x hx => absurd hx List.not_mem_nil, fun _ => rfl⟩
theorem OUT_app {nW : Int} {a b c : List Bool} {M N : List tok} (h : OUT nW a b M) (h' : OUT nW b c N) : OUT nW a c (M ++ N) := by
  refine ⟨fun x hx => ?_, fun ts => ?_⟩
  · rcases List.mem_append.mp hx with q | q
    · exact h.1 x q
    · exact h'.1 x q
  · rw [trun_app, h.2 ts]
    exact h'.2 ts
theorem OUT_v {nW : Int} {a : List Bool} {x : tok} (h : x.1 = 0 ∨ x.1 = 1) (hx : tokOK nW x) : OUT nW a (false :: a) [x] := by
  obtain ⟨op, v⟩ := x
  refine ⟨fun y hy => by rw [List.mem_singleton.mp hy]; exact hx, fun ts => ?_⟩
  show (if op = 0 ∨ op = 1 then trun [] (false :: (a ++ ts)) else _) = _
  rw [if_pos h]
  rfl
theorem OUT_2 {nW op : Int} {a : List Bool} (h : 2 ≤ op ∧ op ≤ 5) : OUT nW (false :: false :: a) (false :: a) [(op, 0)] := by
  refine ⟨fun y hy => by rw [List.mem_singleton.mp hy]; exact Or.inr (Or.inr ⟨h.1, by show op ≤ 13; omega, rfl⟩), fun ts => ?_⟩
  show (if op = 0 ∨ op = 1 then _ else if 2 ≤ op ∧ op ≤ 5 then trun [] (false :: (a ++ ts)) else _) = _
  rw [if_neg (by omega), if_pos h]
  rfl
theorem OUT_3 {nW op : Int} {a : List Bool} (h : 6 ≤ op ∧ op ≤ 10) : OUT nW (false :: false :: a) (true :: a) [(op, 0)] := by
  refine ⟨fun y hy => by rw [List.mem_singleton.mp hy]; exact Or.inr (Or.inr ⟨by show 2 ≤ op; omega, by show op ≤ 13; omega, rfl⟩), fun ts => ?_⟩
  show (if op = 0 ∨ op = 1 then _ else if 2 ≤ op ∧ op ≤ 5 then _ else if 6 ≤ op ∧ op ≤ 10 then trun [] (true :: (a ++ ts)) else _) = _
  rw [if_neg (by omega), if_neg (by omega), if_pos h]
  rfl
theorem OUT_n {nW : Int} {a : List Bool} : OUT nW (true :: a) (true :: a) [(11, 0)] := ⟨fun y hy => by rw [List.mem_singleton.mp hy]; exact Or.inr (Or.inr (by decide)), fun _ => rfl⟩
theorem OUT_j {nW op : Int} {a : List Bool} (h : op = 12 ∨ op = 13) : OUT nW (true :: true :: a) (true :: a) [(op, 0)] := by
  refine ⟨fun y hy => by rw [List.mem_singleton.mp hy]; exact Or.inr (Or.inr ⟨by show 2 ≤ op; omega, by show op ≤ 13; omega, rfl⟩), fun ts => ?_⟩
  rcases h with rfl | rfl <;> rfl
theorem cntV_app : ∀ L M : List tok, cntV (L ++ M) = cntV L + cntV M := by
  intro L M
  induction L with
  | nil => exact (Nat.zero_add _).symm
  | cons t L ih =>
    show (if t.1 = 0 ∨ t.1 = 1 then 1 else 0) + cntV (L ++ M) = (if t.1 = 0 ∨ t.1 = 1 then 1 else 0) + cntV L + cntV M
    rw [ih]
    omega
theorem cntV_1 {x : tok} : cntV [x] ≤ 1 := by
  show (if x.1 = 0 ∨ x.1 = 1 then 1 else 0) + 0 ≤ 1
  split <;> omega
theorem cntV_op {op : Int} (h : 2 ≤ op) : cntV [(op, 0)] = 0 := by
  show (if op = 0 ∨ op = 1 then 1 else 0) + 0 = 0
  rw [if_neg (by omega)]
/-- how a reading ends -/
def SE (T : Int → Int) (n ci t bc bm : Int) (L : List tok) (pend nW : Int) (a c : List Bool) (P : Int) (wc wc' : zW) (rm : Int) (wm' : zW) : Prop := (rm = 1 ∧ wc 5 0 4 ≤ wc' 5 0 4 ∧ ∃ M, OUT nW a c M ∧ wc 5 0 6 + cntV M ≤ wc' 5 0 6 ∧ JC T n ci t bc bm (L ++ M) pend wc' wm') ∨ (rm = 0 ∧ ∃ f, FS ci f P wc' ∧ wm' 11 0 19 = f)
def wt (l : Int) : Int := if l = 0 then 0 else 1
def pre (l : Int) : List Bool := if l = 0 then [false] else [false, false]
noncomputable def mS (d' : Nat) (l : Int) (w : zW) : zR := (M_term_2 (d' + 4) w).bind fun r1 => if r1.1 = 0 then (gd ((0 : Int) ≤ 0 ∧ (0 : Int) ≤ 1) (some (0, r1.2))) else if l = 0 then M_sum_2 (d' + 5) r1.2 else (M_puts (d' + 4) (if l = 43 then 2 else 3) 0 r1.2).bind fun r2 => M_sum_2 (d' + 5) r2.2
section
variable {d d' : Nat} {T : Int → Int} {n ci t bc bm pend : Int}
/-- what waits is put, in both -/
theorem j_waits {l : Int} {L : List tok} {wc wm : zW} (nW : Int) (hl : l = 0 ∨ l = 43 ∨ l = 45) (hp : 0 ≤ pend) (h : JC T n ci t bc bm L (pend + wt l) wc wm) :
    ∃ wc' wm' M, (∀ (X : zR) (K : zW → zR), X = K wc → (if l = 0 then X else (Clauses_add (d + 3) ci l 0 wc).bind fun r1 => K r1.2) = K wc') ∧ (∀ K : zW → zR, (if l = 0 then K wm else (M_puts (d' + 4) (if l = 43 then 2 else 3) 0 wm).bind fun r2 => K r2.2) = K wm') ∧ EF ci wc wc' ∧ EM t wm wm' ∧ wc' 5 = wc 5 ∧ OUT nW (pre l) [false] M ∧ cntV M = 0 ∧ JC T n ci t bc bm (L ++ M) pend wc' wm' := by
  by_cases z : l = 0
  · have h' : JC T n ci t bc bm (L ++ []) pend wc wm := by
      rw [List.append_nil]
      unfold wt at h
      rw [if_pos z, Int.add_zero] at h
      exact h
    refine ⟨wc, wm, [], fun X K hX => by rw [if_pos z]; exact hX, fun K => by rw [if_pos z], EF_rf _ _, EM_rf _ _, rfl, ?_, rfl, h'⟩
    unfold pre
    rw [if_pos z]
    exact OUT_nil _ _
  · unfold wt at h
    rw [if_neg z] at h
    have hop : cl ((if l = 43 then 2 else 3 : Int), (0 : Int)) = [(l, 0)] ∧ (2 ≤ (if l = 43 then 2 else 3 : Int) ∧ (if l = 43 then 2 else 3 : Int) ≤ 5) := by
      rcases hl with q | q | q
      · exact absurd q z
      · rw [if_pos q, q]; decide
      · rw [if_neg (by omega), q]; decide
    obtain ⟨w1, v1, p1, p2, p3, p4, p5, p6⟩ := j_add (d := d + 3) (d' := d' + 4) h hp hop.1 (by omega) (by omega) (by decide)
    refine ⟨w1, v1, _, fun X K hX => by rw [if_neg z, p1, bnd], fun K => by rw [if_neg z, p2, bnd], p3, p4, p5, ?_, cntV_op hop.2.1, p6⟩
    unfold pre
    rw [if_neg z]
    exact OUT_2 hop.2
/-- the model's sum is its first value and what follows -/
theorem m_term_b {w : zW} (K : Int × zW → zR) (hK : ∀ v, K (0, v) = some (0, v)) : (M_term (d' + 4) w).bind K = (M_value (d' + 3) w).bind fun r => if r.1 = 0 then some (0, r.2) else (M_term_2 (d' + 4) r.2).bind K := by
  rw [e_M_term]
  cases M_value (d' + 3) w with
  | none => rfl
  | some r =>
    rw [bnd, bnd]
    by_cases z : r.1 = 0
    · rw [if_pos z, if_pos z, gd_t (by decide), bnd, hK]
    · rw [if_neg z, if_neg z]
theorem m_sum_b {w : zW} : M_sum (d' + 5) w = (M_value (d' + 3) w).bind fun r => if r.1 = 0 then some (0, r.2) else mS d' 0 r.2 := by
  rw [e_M_sum, m_term_b _ (fun v => by dsimp only; rw [if_pos rfl, gd_t (by decide)])]
  rfl
theorem m_sum7_2 {w : zW} (h : 0 ≤ w 11 0 18 ∧ w 11 0 18 ≤ 400) : M_sum_7 (d' + 5) 2 w = (M_value (d' + 3) (z_up w 11 0 18 (w 11 0 18 + 1))).bind fun r => if r.1 = 0 then some (0, r.2) else mS d' 43 r.2 := by
  rw [e_M_sum_7, gd_t (by omega), m_term_b _ (fun v => by dsimp only; rw [if_pos rfl, gd_t (by decide)])]
  rfl
theorem m_sum7_3 {w : zW} (h : 0 ≤ w 11 0 18 ∧ w 11 0 18 ≤ 400) : M_sum_7 (d' + 5) 3 w = (M_value (d' + 3) (z_up w 11 0 18 (w 11 0 18 + 1))).bind fun r => if r.1 = 0 then some (0, r.2) else mS d' 45 r.2 := by
  rw [e_M_sum_7, gd_t (by omega), m_term_b _ (fun v => by dsimp only; rw [if_pos rfl, gd_t (by decide)])]
  rfl
theorem m_term7 {w : zW} {s : Int} (h : 0 ≤ w 11 0 18 ∧ w 11 0 18 ≤ 400) : M_term_7 (d' + 4) s w = (M_value (d' + 3) (z_up w 11 0 18 (w 11 0 18 + 1))).bind fun r => if r.1 = 0 then some (0, r.2) else (M_puts (d' + 3) s 0 r.2).bind fun r2 => M_term_2 (d' + 4) r2.2 := by
  rw [e_M_term_7, gd_t (by omega)]
  cases M_value (d' + 3) (z_up w 11 0 18 (w 11 0 18 + 1)) with
  | none => rfl
  | some r =>
    rw [bnd, bnd]
    by_cases z : r.1 = 0
    · rw [if_pos z, if_pos z, gd_t (by decide)]
    · rw [if_neg z, if_neg z]
theorem SE_app {L M0 : List tok} {nW P p : Int} {a b c : List Bool} {wc w1 wc' wm' : zW} {rm : Int} (h0 : OUT nW a b M0) (hp : wc 5 0 4 ≤ w1 5 0 4) (hc : wc 5 0 6 + cntV M0 ≤ w1 5 0 6) (h : SE T n ci t bc bm (L ++ M0) p nW b c P w1 wc' rm wm') : SE T n ci t bc bm L p nW a c P wc wc' rm wm' := by
  rcases h with ⟨h1, h2, M, h3, h4, h5⟩ | h
  · refine Or.inl ⟨h1, by omega, M0 ++ M, OUT_app h0 h3, ?_, ?_⟩
    · rw [cntV_app]; omega
    · rw [← List.append_assoc]; exact h5
  · exact Or.inr h
/-- the loop of a sum -/
theorem j_sumL {sid nW : Int} (hv : vS t sid nW) (hp : 0 ≤ pend) : ∀ (m : Nat) (k l1 : Int) (L : List tok) (wc wm : zW), n - wc 5 0 4 < m → 0 ≤ k → k ≤ wc 5 0 4 → (l1 = 0 ∨ l1 = 43 ∨ l1 = 45) → wc 5 0 7 = sid → JC T n ci t bc bm L (pend + wt l1) wc wm →
    ∃ wc' rm wm', Reader_sum_1 (d + 4) l1 k wc = some (0, wc') ∧ mS d' l1 wm = some (rm, wm') ∧ EF ci wc wc' ∧ EM t wm wm' ∧ SE T n ci t bc bm L pend nW (pre l1) [false] 62 wc wc' rm wm' := by
  intro m
  induction m with
  | zero =>
    intro k l1 L wc wm hm _ _ _ _ h
    have := h.1.1.2.2.2.1
    omega
  | succ m ih =>
    intro k l1 L wc wm hm hk0 hk hl h7 h
    have hq := h.1.1.2.2.2.1
    have hn := h.1.1.1
    have hbh := h.1.1.bh
    have hwt : 0 ≤ wt l1 ∧ wt l1 ≤ 1 := by unfold wt; split <;> omega
    have hci : wc 5 0 8 = ci := h.2.1.1
    have f18 : mF [] [18] wm (z_up wm 11 0 18 (wc 5 0 4)) := mF_11 (by decide)
    have f18' : mF [] [18, 20] wm (z_up wm 11 0 18 (wc 5 0 4)) := mF_11 (by decide)
    have hJ0 : JC T n ci t bc bm L (pend + wt l1) wc (z_up wm 11 0 18 (wc 5 0 4)) := JC_18 h f18' up_h
    have e18 : (z_up wm 11 0 18 (wc 5 0 4)) 11 0 18 = wc 5 0 4 := up_h
    obtain ⟨a1, a2⟩ := j_sees (c := 42) h.1 (by decide) (by omega) (by omega) (by decide)
    obtain ⟨b1, b2⟩ := j_sees (c := 47) h.1 (by decide) (by omega) (by omega) (by decide)
    obtain ⟨c1, c2⟩ := j_sees (c := 43) h.1 (by decide) (by omega) (by omega) (by decide)
    obtain ⟨d1, d2⟩ := j_sees (c := 45) h.1 (by decide) (by omega) (by omega) (by decide)
    have ht2 := m_term2 (d := d' + 3) h.1
    -- times and by
    have first : ∀ (c s : Int), wc 5 0 3 = c → (c = 42 ∧ s = 4 ∨ c = 47 ∧ s = 5) → M_term_2 (d' + 4) wm = M_term_7 (d' + 4) s (z_up wm 11 0 18 (wc 5 0 4)) →
        ∃ wc' rm wm', Reader_sum_1 (d + 4) l1 k wc = some (0, wc') ∧ mS d' l1 wm = some (rm, wm') ∧ EF ci wc wc' ∧ EM t wm wm' ∧ SE T n ci t bc bm L pend nW (pre l1) [false] 62 wc wc' rm wm' := fun c s hc hcs hM => by
      have hb1 : wc 5 0 5 = wc 5 0 4 + 1 := by
        rcases hcs with ⟨q, -⟩ | ⟨q, -⟩
        · exact (a2 (by omega)).1
        · exact (b2 (by omega)).1
      obtain ⟨w1, p1, p2, p3, p4, p5⟩ := j_pass (d := d + 3) h hb1 (by omega)
      have f2 : mF [] [18] wm (z_up (z_up wm 11 0 18 (wc 5 0 4)) 11 0 18 (wc 5 0 4 + 1)) := mF_tr f18 (mF_11 (by decide))
      have hJ1 := p3 _ f2 up_h
      have h71 : w1 5 0 7 = sid := by rw [p5.2 7 (by decide) (by decide) (by decide)]; exact h7
      have h61 : w1 5 0 6 = wc 5 0 6 := p5.2 6 (by decide) (by decide) (by decide)
      obtain ⟨w2, r2, v2, q1, q2, q3, q4, q5⟩ := j_value (d := d) (d' := d') hJ1 (by omega) hv h71
      have h72 : w2 5 0 7 = sid := by rw [q3.2.2.2.1 7 (by omega)]; exact h71
      have hcl : Reader_sum_1 (d + 4) l1 k wc = (Reader_sum_13 (d + 4) l1 k c 1 wc) := by
        rw [e_Reader_sum_1, if_neg (by omega), hc]
        rcases hcs with ⟨q, -⟩ | ⟨q, -⟩ <;> subst q
        · rw [if_neg (by decide), if_neg (by decide), if_pos rfl, e_Reader_sum_6, hc, if_pos rfl, e_Reader_sum_10, if_neg (by decide)]
        · rw [if_neg (by decide), if_neg (by decide), if_neg (by decide), if_pos rfl, e_Reader_sum_6, hc, if_neg (by decide), if_pos rfl, e_Reader_sum_10, if_neg (by decide)]
      rw [hcl, e_Reader_sum_13, p1, bnd]
      dsimp only
      rw [q1, bnd]
      dsimp only
      rw [if_neg (show ¬ (1 : Int) = 0 by decide)]
      unfold mS
      rw [hM, m_term7 (by rw [e18]; omega), e18, q2, bnd]
      dsimp only
      have hE2 : EM t wm v2 := EM_tr (EM_m (mF_sub f2 (by decide) (by decide))) q4
      rcases q5 with ⟨y1, y2, y3, x, y4, y5, y6⟩ | ⟨y1, f, y2, y3⟩
      · have hop : cl ((s : Int), (0 : Int)) = [(c, 0)] ∧ 2 ≤ s ∧ s ≤ 5 := by
          rcases hcs with ⟨q, q'⟩ | ⟨q, q'⟩ <;> subst q <;> subst q' <;> decide
        have y6' : JC T n ci t bc bm (L ++ [x]) (pend + wt l1 + 1) w2 v2 := y6
        obtain ⟨w3, v3, u1, u2, u3, u4, u5, u6⟩ := j_add (d := d + 3) (d' := d' + 3) y6' (by omega) hop.1 (by omega) (by rcases hcs with ⟨q, -⟩ | ⟨q, -⟩ <;> omega) (by decide)
        have h83 : w2 5 0 8 = ci := y6.2.1.1
        obtain ⟨w4, r4, v4, t1, t2, t3, t4, t5⟩ := ih (k + 1) l1 _ w3 v3 (by rw [u5]; omega) (by omega) (by rw [u5]; omega) hl (by rw [u5]; exact h72) u6
        refine ⟨w4, r4, v4, ?_, ?_, EF_tr p2 (EF_tr q3 (EF_tr u3 t3)), EM_tr hE2 (EM_tr u4 t4), ?_⟩
        · rw [h83, u1, bnd]
          dsimp only
          rw [gd_t (by omega)]
          exact t1
        · rw [if_neg (by omega), u2, bnd]
          exact t2
        · have hO : OUT nW (pre l1) (pre l1) ([x] ++ [(s, 0)]) := by
            unfold pre
            split
            · exact OUT_app (OUT_v y4 y5) (OUT_2 hop.2)
            · exact OUT_app (OUT_v y4 y5) (OUT_2 hop.2)
          rw [List.append_assoc] at t5
          refine SE_app hO (by rw [u5]; omega) ?_ t5
          have := cntV_1 (x := x)
          rw [cntV_app, cntV_op hop.2.1, u5]
          omega
      · have hF : FS ci f 62 w2 := y2
        obtain ⟨w3, u1, u2, u3⟩ := F_add (d := d + 3) (a := c) (b := 0) hF (by rcases hcs with ⟨q, -⟩ | ⟨q, -⟩ <;> omega) (by decide)
        obtain ⟨w4, t1, t2, t3⟩ := F_sum_1 (d := d + 3) (l := l1) (k := k + 1) u3 (by omega)
        refine ⟨w4, 0, v2, ?_, ?_, EF_tr p2 (EF_tr q3 (EF_tr u2 t2)), hE2, Or.inr ⟨rfl, f, t3, y3⟩⟩
        · rw [hF.2.1, u1, bnd]
          dsimp only
          rw [gd_t (by omega)]
          exact t1
        · rw [if_pos y1, bnd]
          dsimp only
          rw [if_pos rfl, gd_t (by decide)]
    -- plus and minus
    have second : ∀ (c s : Int), wc 5 0 3 = c → (c = 43 ∧ s = 2 ∨ c = 45 ∧ s = 3) →
        ∃ wc' rm wm', Reader_sum_1 (d + 4) l1 k wc = some (0, wc') ∧ mS d' l1 wm = some (rm, wm') ∧ EF ci wc wc' ∧ EM t wm wm' ∧ SE T n ci t bc bm L pend nW (pre l1) [false] 62 wc wc' rm wm' := fun c s hc hcs => by
      have hb1 : wc 5 0 5 = wc 5 0 4 + 1 := by
        rcases hcs with ⟨q, -⟩ | ⟨q, -⟩
        · exact (c2 (by omega)).1
        · exact (d2 (by omega)).1
      obtain ⟨wa, va, M, k1, k2, k3, k4, k5, k6, k7, k8⟩ := j_waits (d := d) (d' := d') nW hl hp hJ0
      have ca : wa 5 0 3 = c := by rw [k5]; exact hc
      obtain ⟨w1, p1, p2, p3, p4, p5⟩ := j_pass (d := d + 3) k8 (by rw [k5]; exact hb1) (by omega)
      rw [k5] at p3
      have f2 : mF [] [18] va (z_up (z_up va 11 0 18 (wc 5 0 4)) 11 0 18 (wc 5 0 4 + 1)) := mF_tr (mF_11 (by decide)) (mF_11 (by decide))
      have hJ1 := p3 _ f2 up_h
      have h71 : w1 5 0 7 = sid := by rw [p5.2 7 (by decide) (by decide) (by decide), k5]; exact h7
      have h61 : w1 5 0 6 = wc 5 0 6 := by rw [p5.2 6 (by decide) (by decide) (by decide), k5]
      obtain ⟨w2, r2, v2, q1, q2, q3, q4, q5⟩ := j_value (d := d) (d' := d') hJ1 (by omega) hv h71
      have h72 : w2 5 0 7 = sid := by rw [q3.2.2.2.1 7 (by omega)]; exact h71
      have h13 : ∀ w : zW, Reader_sum_13 (d + 4) l1 k c 0 w = (Reader_next (d + 3) w).bind fun r1 => (Reader_value (d + 3) r1.2).bind fun r2 => gd (inI (k + 1)) (Reader_sum_1 (d + 4) c (k + 1) r2.2) := fun w => by
        rw [e_Reader_sum_13]
        rfl
      have hcl : Reader_sum_1 (d + 4) l1 k wc = Reader_sum_13 (d + 4) l1 k c 0 wa := by
        have h10 : Reader_sum_1 (d + 4) l1 k wc = if l1 = 0 then Reader_sum_13 (d + 4) l1 k c 0 wc else (Clauses_add (d + 3) ci l1 0 wc).bind fun r1 => Reader_sum_13 (d + 4) l1 k c 0 r1.2 := by
          rw [e_Reader_sum_1, if_neg (by omega), hc]
          rcases hcs with ⟨q, -⟩ | ⟨q, -⟩ <;> subst q
          · rw [if_pos rfl, e_Reader_sum_6, hc, if_neg (by decide), if_neg (by decide), e_Reader_sum_10, if_pos rfl, hci]
          · rw [if_neg (by decide), if_pos rfl, e_Reader_sum_6, hc, if_neg (by decide), if_neg (by decide), e_Reader_sum_10, if_pos rfl, hci]
        rw [h10]
        exact k1 _ (fun w => Reader_sum_13 (d + 4) l1 k c 0 w) rfl
      have hM : mS d' l1 wm = (M_value (d' + 3) (z_up (z_up va 11 0 18 (wc 5 0 4)) 11 0 18 (wc 5 0 4 + 1))).bind fun r => if r.1 = 0 then some (0, r.2) else mS d' c r.2 := by
        have hs2 := m_sum2 (d := d' + 4) k8.1
        rw [k5] at hs2
        have h1 : mS d' l1 wm = M_sum_2 (d' + 5) va := by
          unfold mS
          rw [ht2, if_neg (by rcases hcs with ⟨q, -⟩ | ⟨q, -⟩ <;> omega), if_neg (by rcases hcs with ⟨q, -⟩ | ⟨q, -⟩ <;> omega), bnd]
          dsimp only
          rw [if_neg (show ¬ (1 : Int) = 0 by decide)]
          exact k2 (fun w => M_sum_2 (d' + 5) w)
        have e18a : (z_up va 11 0 18 (wc 5 0 4)) 11 0 18 = wc 5 0 4 := up_h
        rw [h1, hs2, hc]
        rcases hcs with ⟨q, -⟩ | ⟨q, -⟩ <;> subst q
        · rw [if_pos rfl, m_sum7_2 (by rw [e18a]; omega), e18a]
        · rw [if_neg (by decide), if_pos rfl, m_sum7_3 (by rw [e18a]; omega), e18a]
      rw [hcl, h13, p1, bnd]
      dsimp only
      rw [q1, bnd]
      dsimp only
      rw [hM, q2, bnd]
      dsimp only
      have hE2 : EM t wm v2 := EM_tr (EM_tr (EM_m (mF_sub f18 (by decide) (by decide))) k4) (EM_tr (EM_m (mF_sub f2 (by decide) (by decide))) q4)
      have hEc : EF ci wc w2 := EF_tr k3 (EF_tr p2 q3)
      rcases q5 with ⟨y1, y2, y3, x, y4, y5, y6⟩ | ⟨y1, f, y2, y3⟩
      · have hwc : wt c = 1 := by unfold wt; rcases hcs with ⟨q, -⟩ | ⟨q, -⟩ <;> subst q <;> rfl
        have y6' : JC T n ci t bc bm (L ++ M ++ [x]) (pend + wt c) w2 v2 := by rw [hwc]; exact y6
        rw [k5] at p4
        obtain ⟨w4, r4, v4, t1, t2, t3, t4, t5⟩ := ih (k + 1) c _ w2 v2 (by omega) (by omega) (by omega) (by rcases hcs with ⟨q, -⟩ | ⟨q, -⟩ <;> omega) h72 y6'
        refine ⟨w4, r4, v4, ?_, ?_, EF_tr hEc t3, EM_tr hE2 t4, ?_⟩
        · rw [gd_t (by omega)]
          exact t1
        · rw [if_neg (by omega)]
          exact t2
        · have hO : OUT nW (pre l1) (pre c) (M ++ [x]) := by
            refine OUT_app k6 ?_
            have : pre c = [false, false] := by unfold pre; rcases hcs with ⟨q, -⟩ | ⟨q, -⟩ <;> subst q <;> rfl
            rw [this]
            exact OUT_v y4 y5
          rw [List.append_assoc] at t5
          refine SE_app hO (by omega) ?_ t5
          have := cntV_1 (x := x)
          rw [cntV_app, k7]
          omega
      · obtain ⟨w4, t1, t2, t3⟩ := F_sum_1 (d := d + 3) (l := c) (k := k + 1) y2 (by rcases hcs with ⟨q, -⟩ | ⟨q, -⟩ <;> omega)
        refine ⟨w4, 0, v2, ?_, ?_, EF_tr hEc t2, hE2, Or.inr ⟨rfl, f, t3, y3⟩⟩
        · rw [gd_t (by omega)]
          exact t1
        · rw [if_pos y1]
    by_cases z1 : wc 5 0 3 = 42
    · exact first 42 4 z1 (by omega) (by rw [ht2, if_pos z1])
    by_cases z2 : wc 5 0 3 = 47
    · exact first 47 5 z2 (by omega) (by rw [ht2, if_neg z1, if_pos z2])
    by_cases z3 : wc 5 0 3 = 43
    · exact second 43 2 z3 (by omega)
    by_cases z4 : wc 5 0 3 = 45
    · exact second 45 3 z4 (by omega)
    -- the end
    obtain ⟨wa, va, M, k1, k2, k3, k4, k5, k6, k7, k8⟩ := j_waits (d := d) (d' := d') nW hl hp hJ0
    have hs2 := m_sum2 (d := d' + 4) k8.1
    rw [k5, if_neg z3, if_neg z4] at hs2
    have fe : mF [] [18, 20] va (z_up va 11 0 18 (wc 5 0 4)) := mF_11 (by decide)
    refine ⟨wa, 1, z_up va 11 0 18 (wc 5 0 4), ?_, ?_, k3, EM_tr (EM_tr (EM_m (mF_sub f18 (by decide) (by decide))) k4) (EM_m (mF_11 (by decide))), Or.inl ⟨rfl, by rw [k5]; exact Int.le_refl _, M, k6, by rw [k5, k7]; omega, JC_18 k8 fe (by rw [up_h, k5])⟩⟩
    · have h10 : Reader_sum_1 (d + 4) l1 k wc = if l1 = 0 then some (0, wc) else (Clauses_add (d + 3) ci l1 0 wc).bind fun r1 => some (0, r1.2) := by
        rw [e_Reader_sum_1]
        by_cases k4 : 400 ≤ k
        · rw [if_pos k4, hci]
        · rw [if_neg k4, if_neg z3, if_neg z4, if_neg z1, if_neg z2, hci]
      rw [h10]
      exact k1 _ (fun w => some (0, w)) rfl
    · unfold mS
      rw [ht2, if_neg z1, if_neg z2, bnd]
      dsimp only
      rw [if_neg (show ¬ (1 : Int) = 0 by decide)]
      rw [k2 (fun w => M_sum_2 (d' + 5) w)]
      exact hs2
/-- a sum, in both -/
theorem j_sum {sid nW : Int} {L : List tok} {wc wm : zW} (hv : vS t sid nW) (hp : 0 ≤ pend) (h7 : wc 5 0 7 = sid) (h : JC T n ci t bc bm L pend wc wm) :
    ∃ wc' rm wm', Reader_sum (d + 4) wc = some (0, wc') ∧ M_sum (d' + 5) wm = some (rm, wm') ∧ EF ci wc wc' ∧ EM t wm wm' ∧ SE T n ci t bc bm L pend nW [] [false] 62 wc wc' rm wm' := by
  obtain ⟨w2, r2, v2, q1, q2, q3, q4, q5⟩ := j_value (d := d) (d' := d') h hp hv h7
  have hq := h.1.1.2.2.2.1
  rw [e_Reader_sum, q1, bnd, m_sum_b, q2, bnd]
  dsimp only
  rcases q5 with ⟨y1, y2, y3, x, y4, y5, y6⟩ | ⟨y1, f, y2, y3⟩
  · have y6' : JC T n ci t bc bm (L ++ [x]) (pend + wt 0) w2 v2 := by
      show JC T n ci t bc bm (L ++ [x]) (pend + 0) w2 v2
      rw [Int.add_zero]
      exact y6
    have h72 : w2 5 0 7 = sid := by rw [q3.2.2.2.1 7 (by omega)]; exact h7
    have hq2 := y6.1.1.2.2.2.1
    obtain ⟨w4, r4, v4, t1, t2, t3, t4, t5⟩ := j_sumL (d := d) (d' := d') hv hp (n - w2 5 0 4 + 1).toNat 0 0 _ w2 v2 (by omega) (Int.le_refl 0) (by omega) (Or.inl rfl) h72 y6'
    refine ⟨w4, r4, v4, t1, ?_, EF_tr q3 t3, EM_tr q4 t4, ?_⟩
    · rw [if_neg (by omega)]
      exact t2
    · refine SE_app (OUT_v y4 y5) (by omega) ?_ t5
      have := cntV_1 (x := x)
      omega
  · obtain ⟨w4, t1, t2, t3⟩ := F_sum_1 (d := d + 3) (l := 0) (k := 0) y2 (by decide)
    refine ⟨w4, 0, v2, t1, ?_, EF_tr q3 t2, q4, Or.inr ⟨rfl, f, t3, y3⟩⟩
    rw [if_pos y1]
end
