section
variable {d d' : Nat} {T : Int → Int} {n ci t bc bm pend : Int} {wc v1 : zW}
theorem Kb_and (h : JR T n wc v1) (h18 : v1 11 0 18 = wc 5 0 4) (hw : WD T n (wc 5 0 4) andW) : Kb d' v1 = M_tested_12 (d' + 8) 1 12 v1 := by
  obtain ⟨r, a, b, c⟩ := m_wd (r := 0) (g := d' + 6) (code := 6385252) (W := andW) (okW_i (by decide) (by decide) (by decide)) (by decide +kernel) h h18
  have hr := c.2 hw
  unfold Kb
  rw [a, bnd]
  dsimp only
  rw [if_neg (show ¬ r = 0 by omega), e_M_tested_8, if_neg (by decide), a, bnd]
  dsimp only
  rw [if_neg (show ¬ r = 0 by omega)]
theorem Kb_or (h : JR T n wc v1) (h18 : v1 11 0 18 = wc 5 0 4) (hn : ¬ WD T n (wc 5 0 4) andW) (hw : WD T n (wc 5 0 4) orW) : Kb d' v1 = M_tested_12 (d' + 8) 1 13 v1 := by
  obtain ⟨r, a, b, c⟩ := m_wd (r := 0) (g := d' + 6) (code := 6385252) (W := andW) (okW_i (by decide) (by decide) (by decide)) (by decide +kernel) h h18
  obtain ⟨r', a', b', c'⟩ := m_wd (r := 0) (g := d' + 6) (code := 28530) (W := orW) (okW_i (by decide) (by decide) (by decide)) (by decide +kernel) h h18
  have hr : r = 0 := by
    rcases b with q | q
    · exact q
    · exact absurd (c.1 q) hn
  have hr' := c'.2 hw
  unfold Kb
  rw [a, bnd]
  dsimp only
  rw [if_pos hr, a', bnd]
  dsimp only
  rw [if_neg (show ¬ r' = 0 by omega), e_M_tested_8, if_neg (by decide), a, bnd]
  dsimp only
  rw [if_pos hr]
theorem Kb_no (h : JR T n wc v1) (h18 : v1 11 0 18 = wc 5 0 4) (hn : ¬ WD T n (wc 5 0 4) andW) (hw : ¬ WD T n (wc 5 0 4) orW) : Kb d' v1 = M_tested_1 (d' + 8) 0 v1 := by
  obtain ⟨r, a, b, c⟩ := m_wd (r := 0) (g := d' + 6) (code := 6385252) (W := andW) (okW_i (by decide) (by decide) (by decide)) (by decide +kernel) h h18
  obtain ⟨r', a', b', c'⟩ := m_wd (r := 0) (g := d' + 6) (code := 28530) (W := orW) (okW_i (by decide) (by decide) (by decide)) (by decide +kernel) h h18
  have hr : r = 0 := by
    rcases b with q | q
    · exact q
    · exact absurd (c.1 q) hn
  have hr' : r' = 0 := by
    rcases b' with q | q
    · exact q
    · exact absurd (c'.1 q) hw
  unfold Kb
  rw [a, bnd]
  dsimp only
  rw [if_pos hr, a', bnd]
  dsimp only
  rw [if_pos hr', e_M_tested_8, if_pos rfl]
theorem m_join {s h q b : Int} {v4 : zW} (hT : MT T n v1) (h18 : v1 11 0 18 = q) (hq : 0 ≤ q ∧ q ≤ n) (hrun : rnR let' T n q b) (hset : M_settles_1 (d' + 7) (sTr s) (z_up v1 11 0 18 b) = some (0, v4)) (h26 : v4 11 0 26 = h) (hh : 0 ≤ h ∧ h < 400) : M_tested_12 (d' + 8) 1 s v1 = Gf d' 1 (z_up (z_up v4 65 0 h s) 11 0 26 (h + 1)) := by
  rw [e_M_tested_12, m_passWord (d := d' + 6) hT h18 hq hrun, bnd]
  dsimp only
  rw [m_strength, bnd]
  dsimp only
  rw [e_M_settles, hset, bnd]
  dsimp only
  rw [gd_t (by omega), gd_t (by omega), h26, tested_G]
/-- no bracket closes here -/
theorem Bf_K {v : zW} (h : JR T n wc v) (hno : wc 5 0 3 ≠ 93 ∨ ∃ S h0 dp, ST S h0 dp v ∧ (0 ≤ h0 ∧ h0 ≤ 400) ∧ ∀ j, 0 ≤ j → j < h0 → S j ≠ 91) : Bf d' v = Kb d' (z_up v 11 0 18 (wc 5 0 4)) := by
  obtain ⟨hs, hJ⟩ := j_see (d := d' + 6) h
  obtain ⟨a1, a2⟩ := j_sees (c := 93) h (by decide) (by omega) (by omega) (by decide)
  unfold Bf
  rw [e_M_closes_1, hs, bnd]
  dsimp only
  by_cases z : wc 5 0 3 = 93
  · rw [if_pos (a1.2 z)]
    rcases hno with q | ⟨S, h0, dp, q1, q2, q3⟩
    · exact absurd z q
    · obtain ⟨r, r1, r2⟩ := m_inside (g := d' + 6) (ST_18 (v := wc 5 0 4) q1) q2
      rcases r2 with ⟨k1, j, j0, j1, j2⟩ | ⟨k1, k2⟩
      · exact absurd j2 (q3 j j0 j1)
      · rw [r1, bnd]
        dsimp only
        rw [if_pos k1, bnd]
  · rw [if_neg (fun q => z (a1.1 q)), bnd]
/-- a bracket closes -/
theorem Bf_Z {S : Int → Int} {h0 dp : Int} {v v' : zW} (h : JR T n wc v) (hz : wc 5 0 3 = 93) (hs : ST S h0 dp v) (hh : 0 ≤ h0 ∧ h0 ≤ 400) (hj : ∃ j, 0 ≤ j ∧ j < h0 ∧ S j = 91) (hset : M_settles_1 (d' + 6) 1 (z_up v 11 0 18 (wc 5 0 4)) = some (0, v')) (h26 : 0 ≤ v' 11 0 26 ∧ v' 11 0 26 ≤ 400) (h23 : 0 ≤ v' 11 0 23 ∧ v' 11 0 23 ≤ 400) (h18 : 0 ≤ v' 11 0 18 ∧ v' 11 0 18 ≤ 400) : Bf d' v = Zf d' v' := by
  obtain ⟨hse, hJ⟩ := j_see (d := d' + 6) h
  obtain ⟨a1, a2⟩ := j_sees (c := 93) h (by decide) (by omega) (by omega) (by decide)
  obtain ⟨r, r1, r2⟩ := m_inside (g := d' + 6) (ST_18 (v := wc 5 0 4) hs) hh
  have hr : ¬ r = 0 := fun q => by
    rcases r2 with ⟨k1, -⟩ | ⟨k1, k2⟩
    · omega
    · obtain ⟨j, j0, j1, j2⟩ := hj
      exact k2 j j0 j1 j2
  unfold Bf Zf
  rw [e_M_closes_1, hse, bnd]
  dsimp only
  rw [if_pos (a1.2 hz), r1, bnd]
  dsimp only
  rw [if_neg hr, e_M_settles, hset, bnd]
  dsimp only
  rw [gd_t (by omega), gd_t (by omega), gd_t (by omega), e_M_settles, bind_as]
  rfl
theorem TE_app {L M0 : List tok} {nW h0 dp : Int} {pr pr' : List Bool} {S S' : Int → Int} {G : zR} {w1 wc' wm v : zW} (hO : OUT nW pr pr' M0) (hE : ET t wm v) (hp : wc 5 0 4 ≤ w1 5 0 4) (hc : wc 5 0 6 + cntV M0 ≤ w1 5 0 6) (hS : ∀ j, 0 ≤ j → j < h0 → S' j = S j) (h : TE d' T n ci t bc bm (L ++ M0) pend nW pr' S' h0 dp G w1 wc' v) : TE d' T n ci t bc bm L pend nW pr S h0 dp G wc wc' wm := by
  rcases h with ⟨M, wm', h1, h2, h3, h4, h5, h6, h7⟩ | ⟨f, wm', h1, h2, h3⟩
  · refine Or.inl ⟨M0 ++ M, wm', ET_tr hE h1, by omega, OUT_app hO h3, ?_, ?_, ST_S h6 hS, ?_⟩
    · rw [cntV_app]; omega
    · rw [← List.append_assoc]; exact h5
    · rcases h7 with k | k | ⟨k1, k2, wf, k3, k4⟩
      · exact Or.inl k
      · exact Or.inr (Or.inl k)
      · exact Or.inr (Or.inr ⟨k1, k2, wf, ET_tr hE k3, k4⟩)
  · exact Or.inr ⟨f, wm', h1, ET_tr hE h2, h3⟩
/-- the loop of a test -/
theorem j_testL {sid nW dep h0 : Int} (hp : 0 ≤ pend) (hdep : 0 ≤ dep ∧ dep ≤ 10) (hh : 0 ≤ h0 ∧ h0 ≤ 3 * dep) (HF : FC d' T n ci t bc bm sid nW (d + 5) dep) : ∀ (m : Nat) (k o a : Int) (L : List tok) (w2 w3 v : zW) (S : Int → Int), n - w2 5 0 4 < m → 0 ≤ k → k ≤ w2 5 0 4 → (o = 0 ∨ o = 1) → (a = 0 ∨ a = 1) → AW ci a w2 w3 → JC T n ci t bc bm L (pend + o + a) w2 v → ST S (h0 + o + a) dep v → (h0 = 0 ∨ S (h0 - 1) = 91) ∧ (o = 1 → S h0 = 13) ∧ (a = 1 → S (h0 + o) = 12) → w2 5 0 7 = sid →
    ∃ wc', Reader_test_1 (d + 6) dep o k w3 = some (0, wc') ∧ EF ci w3 wc' ∧ TE d' T n ci t bc bm L pend nW (tr (o + a)) S h0 dep (Bf d' v) w2 wc' v := by
  intro m
  induction m with
  | zero =>
    intro k o a L w2 w3 v S hm _ _ _ _ _ h
    have := h.1.1.2.2.2.1
    omega
  | succ m ih =>
    intro k o a L w2 w3 v S hm hk0 hk ho ha hA h hs hS h7
    have hq := h.1.1.2.2.2.1
    have hn := h.1.1.1
    have h4 : w2 5 0 4 ≤ 400 := by omega
    obtain ⟨e5, e20, hEA⟩ := AW_5 (pend := pend + o) hA h.2 (by omega) h4
    have hCT3 : CT T n w3 := by
      have := h.1.1
      unfold CT at *
      rw [e5, e20]
      exact this
    obtain ⟨r, r1, r2⟩ := s_wordIn (d := d + 3) hCT3 ss5 ly5 ok5 (by decide)
    rw [e5] at r2
    have hJ1 : JC T n ci t bc bm L (pend + o + a) w2 (z_up v 11 0 18 (w2 5 0 4)) := JC_18 h (mF_11 (by decide)) up_h
    have h18 : (z_up v 11 0 18 (w2 5 0 4)) 11 0 18 = w2 5 0 4 := up_h
    have hs1 : ST S (h0 + o + a) dep (z_up v 11 0 18 (w2 5 0 4)) := ST_18 hs
    have hE1 : ET t v (z_up v 11 0 18 (w2 5 0 4)) := ET_m (mF_11 (by decide))
    generalize hv1 : z_up v 11 0 18 (w2 5 0 4) = v1 at *
    have hci3 : w3 5 0 8 = ci := by rw [e5]; exact h.2.1.1
    have hJR3 : JR T n w3 v1 := JR_x hJ1.1 (mF_rf _ _ _) e5 e20
    have hr3 : r = -1 ∨ r = 0 ∨ r = 1 := by
      rcases r2 with ⟨q, -⟩ | ⟨i, q, q', -⟩
      · exact Or.inl q
      · have : i < 2 := q
        omega
    have w0 : r = 0 → WD T n (w2 5 0 4) andW := fun q => by
      rcases r2 with ⟨k, -⟩ | ⟨i, k1, k2, k3, -⟩
      · omega
      · have : i = 0 := by omega
        subst this
        exact k3
    have w1 : r = 1 → WD T n (w2 5 0 4) orW ∧ ¬ WD T n (w2 5 0 4) andW := fun q => by
      rcases r2 with ⟨k, -⟩ | ⟨i, k1, k2, k3, k4⟩
      · omega
      · have : i = 1 := by omega
        subst this
        exact ⟨k3, k4 0 (by decide)⟩
    have wn : r = -1 → ¬ WD T n (w2 5 0 4) andW ∧ ¬ WD T n (w2 5 0 4) orW := fun q => by
      rcases r2 with ⟨k, k'⟩ | ⟨i, k1, k2, k3, k4⟩
      · exact ⟨k' _ List.mem_cons_self, k' _ (List.mem_cons_of_mem _ List.mem_cons_self)⟩
      · omega
    -- where a word stands no bracket does
    have n93 : ∀ W : List Int, 1 ≤ W.length → WD T n (w2 5 0 4) W → w2 5 0 3 ≠ 93 := fun W hW hw => by
      obtain ⟨g1, g2, -⟩ := let_at h.1.1 hW hw
      rcases TK_let h.1.1.2.2.2.2 with ⟨z1, -⟩ | ⟨-, z2⟩
      · omega
      · exact absurd ⟨g1, g2⟩ z2
    -- what follows a join: s joins, its place hj in the stack; E the class's world, v4 the model's
    have joins : ∀ (s oo hj : Int) (M : List tok) (E v4 : zW) (X : zR), (s = 12 ∧ oo = o ∨ s = 13 ∧ oo = 0) → hj = h0 + oo → (∃ W : List Int, 1 ≤ W.length ∧ WD T n (w2 5 0 4) W) → Kb d' v1 = M_tested_12 (d' + 8) 1 s v1 → M_settles_1 (d' + 7) (sTr s) (z_up v1 11 0 18 (w2 5 0 5)) = some (0, v4) → EF ci w3 E → E 5 = w3 5 ∧ E 20 = w3 20 → ET t (z_up v1 11 0 18 (w2 5 0 5)) v4 → mF [50, 51] [23, 26] (z_up v1 11 0 18 (w2 5 0 5)) v4 → ST S hj dep v4 → OUT nW (tr (o + a)) (tr oo) M → cntV M = 0 → JK ci t bc bm (L ++ M) (pend + oo) E v4 →
        X = (Reader_next (d + 5) E).bind (fun r1 => (Reader_fact (d + 5) dep r1.2).bind fun r2 => if s = 12 then ((Clauses_add (d + 5) (r2.2 5 0 8) 38 0 r2.2).bind fun r3 => Reader_test_1 (d + 6) dep o (k + 1) r3.2) else Reader_test_1 (d + 6) dep 1 (k + 1) r2.2) →
        ∃ wc', X = some (0, wc') ∧ EF ci w3 wc' ∧ TE d' T n ci t bc bm L pend nW (tr (o + a)) S h0 dep (Bf d' v) w2 wc' v := by
      intro s oo hj M E v4 X hso hhj hW hK hset hEE hE5 hET hmf hst hO hcn hJK hX
      obtain ⟨W, hW1, hW2⟩ := hW
      obtain ⟨g1, g2, g3, g4⟩ := let_at h.1.1 hW1 hW2
      have hbh := h.1.1.bh
      have hB : Bf d' v = Gf d' 1 (z_up (z_up v4 65 0 hj s) 11 0 26 (hj + 1)) := by
        rw [Bf_K h.1 (Or.inl (n93 W hW1 hW2)), hv1, hK, m_join hJ1.1.2.1 h18 hq g3 hset hst.1 (by rcases ho with y | y <;> rcases hso with ⟨-, x⟩ | ⟨-, x⟩ <;> omega)]
      have hJRE : JR T n E v1 := JR_x hJR3 (mF_rf _ _ _) hE5.1 hE5.2
      obtain ⟨w4, p1, p2, p3, p4, p5, p6⟩ := j_next2 (d := d + 5) hJRE
      have E4 : E 5 0 4 = w2 5 0 4 := by rw [hE5.1, e5]
      have E5 : E 5 0 5 = w2 5 0 5 := by rw [hE5.1, e5]
      have E6 : E 5 0 6 = w2 5 0 6 := by rw [hE5.1, e5]
      rw [E5] at p3 p4
      have hm65 : mF [65] [18, 20, 23, 26] v4 (z_up (z_up v4 65 0 hj s) 11 0 26 (hj + 1)) := mF_tr (mF_up (by decide) (by decide)) (mF_11 (by decide))
      have hmx : mF [50, 51, 65] [18, 20, 22, 23, 26] v1 (z_up (z_up v4 65 0 hj s) 11 0 26 (hj + 1)) := mF_tr (mF_tr (mF_11 (s := 18) (v := w2 5 0 5) (by decide)) (mF_sub hmf (by decide) (by decide))) (mF_sub hm65 (by decide) (by decide))
      have e18 : (z_up (z_up v4 65 0 hj s) 11 0 26 (hj + 1)) 11 0 18 = w2 5 0 5 := by
        rw [up_s (by decide), up_c (by decide), hmf.2 18 (by decide), up_h]
      have hJR6 := p3 _ hmx e18
      have hJK6 : JK ci t bc bm (L ++ M) (pend + oo + 1) w4 (z_up (z_up v4 65 0 hj s) 11 0 26 (hj + 1)) := JK_le (p6 _ _ _ _ _ _ _ (JK_m hJK hm65)) (by omega)
      have hST6 : ST (upF S hj s) (hj + 1) dep (z_up (z_up v4 65 0 hj s) 11 0 26 (hj + 1)) := by
        refine ⟨up_h, fun j j0 j1 => ?_, ?_⟩
        · rw [up_c (by decide)]
          unfold upF z_up
          by_cases y : j = hj
          · rw [if_pos ⟨rfl, y, rfl⟩, if_pos y]
          · rw [if_neg (fun k => y k.2.1), if_neg y]
            exact hst.2.1 j j0 (by omega)
        · rw [up_s (by decide), up_c (by decide)]; exact hst.2.2
      have h67 : w4 5 0 7 = sid := by rw [p2.2 7 (by decide) (by decide) (by decide), hE5.1, e5]; exact h7
      have h66 : w4 5 0 6 = w2 5 0 6 := by rw [p2.2 6 (by decide) (by decide) (by decide), E6]
      have hoo : oo = 0 ∨ oo = 1 := by rcases hso with ⟨-, x⟩ | ⟨-, x⟩ <;> rcases ho with y | y <;> omega
      have hEx : ET t v (z_up (z_up v4 65 0 hj s) 11 0 26 (hj + 1)) := ET_tr (ET_tr hE1 (ET_m (mF_11 (s := 18) (v := w2 5 0 5) (by decide)))) (ET_tr hET (ET_m (mF_sub hm65 (by decide) (by decide))))
      have hEF4 : EF ci w3 w4 := EF_tr hEE p2.f.e
      generalize hv6 : z_up (z_up v4 65 0 hj s) 11 0 26 (hj + 1) = v6 at *
      obtain ⟨w5, q1, q2, q3⟩ := HF (L ++ M) (pend + oo + 1) w4 v6 (upF S hj s) (hj + 1) (by omega) ⟨hJR6, hJK6⟩ hST6 (Or.inr (by
        rw [show hj + 1 - 1 = hj by omega]
        unfold upF
        rw [if_pos rfl]
        rcases hso with ⟨x, -⟩ | ⟨x, -⟩ <;> rw [x] <;> decide)) (by omega) (by omega) h67
      have hSlow : ∀ j, 0 ≤ j → j < h0 → upF S hj s j = S j := fun j j0 j1 => by
        unfold upF
        rw [if_neg (by omega)]
      have hS91 : h0 = 0 ∨ upF S hj s (h0 - 1) = 91 := by
        rcases hS.1 with y | y
        · exact Or.inl y
        · by_cases x : h0 = 0
          · exact Or.inl x
          · exact Or.inr (by rw [hSlow (h0 - 1) (by omega) (by omega)]; exact y)
      rw [p1, bnd] at hX
      dsimp only at hX
      rw [q1, bnd] at hX
      dsimp only at hX
      rw [hX, hB]
      rcases q3 with ⟨N, v7, y1, y2, y3, y4, y5, y6, y7⟩ | ⟨f, v7, y1, y2, y3, y4⟩
      · have h57 : w5 5 0 7 = sid := by rw [q2.2.2.2.1 7 (by omega)]; exact h67
        have hci5 : w5 5 0 8 = ci := y6.2.1.1
        have hq5 := y6.1.1.2.2.2.1
        have hOO : OUT nW (tr (o + a)) ([true] ++ tr oo) (M ++ N) := OUT_app hO (OUT_l y4)
        have hcN : w2 5 0 6 + (cntV (M ++ N) : Nat) ≤ w5 5 0 6 := by
          rw [cntV_app, hcn]
          omega
        rcases hso with ⟨x1, x2⟩ | ⟨x1, x2⟩
        · -- an and
          subst x2
          obtain ⟨w6, u6, g1', -, g3', -, ⟨g5', g6', -⟩, -⟩ := j_addK (a := 12) (b := 0) (k := 38) y6.2 (by omega) (by omega) rfl (by decide) (by decide) (by decide)
          have y6' : JC T n ci t bc bm (L ++ M ++ N) (pend + oo + 1) w5 v7 := y6
          have y7' : ST (upF S hj s) (h0 + oo + 1) dep v7 := by rw [← hhj]; exact y7
          obtain ⟨w7, t1, t2, t3⟩ := ih (k + 1) oo 1 _ w5 w6 v7 (upF S hj s) (by omega) (by omega) (by omega) hoo (Or.inr rfl) (Or.inr ⟨rfl, g1'⟩) y6' y7' ⟨hS91, fun y => by
            unfold upF
            rw [if_neg (by omega)]
            exact hS.2.1 y, fun _ => by
            unfold upF
            rw [if_pos hhj.symm]
            exact x1⟩ h57
          refine ⟨w7, ?_, EF_tr (EF_tr hEF4 q2) (EF_tr g3' t2), ?_⟩
          · rw [if_pos x1, hci5, g1' (d + 5), bnd]
            exact t1
          · rw [y1]
            have e1 : [true] ++ tr oo = tr (oo + 1) := by rcases hoo with y | y <;> rw [y] <;> rfl
            rw [e1] at hOO
            rw [List.append_assoc] at t3
            exact TE_app hOO (ET_tr hEx y2) (by omega) hcN hSlow t3
        · -- an or
          subst x2
          have y6' : JC T n ci t bc bm (L ++ M ++ N) (pend + 1 + 0) w5 v7 := JC_le y6 (by omega)
          have y7' : ST (upF S hj s) (h0 + 1 + 0) dep v7 := by
            rw [show h0 + 1 + 0 = hj + 1 by omega]
            exact y7
          obtain ⟨w7, t1, t2, t3⟩ := ih (k + 1) 1 0 _ w5 w5 v7 (upF S hj s) (by omega) (by omega) (by omega) (Or.inr rfl) (Or.inl rfl) (Or.inl ⟨rfl, rfl⟩) y6' y7' ⟨hS91, fun _ => by
            unfold upF
            rw [if_pos (by omega)]
            exact x1, fun y => by omega⟩ h57
          refine ⟨w7, ?_, EF_tr (EF_tr hEF4 q2) t2, ?_⟩
          · rw [if_neg (by omega)]
            exact t1
          · rw [y1]
            have hOO' : OUT nW (tr (o + a)) (tr (1 + 0)) (M ++ N) := hOO
            rw [List.append_assoc] at t3
            exact TE_app hOO' (ET_tr hEx y2) (by omega) hcN hSlow t3
      · obtain ⟨w6, a1, a2, a3⟩ := F_add (d := d + 5) (a := 38) (b := 0) y3 (by decide) (by decide)
        rcases hso with ⟨x1, x2⟩ | ⟨x1, x2⟩
        · obtain ⟨w7, b1, b2, b3⟩ := F_test_1 (d := d + 5) (l1 := dep) (l2 := o) (l3 := k + 1) a3
          refine ⟨w7, ?_, EF_tr (EF_tr hEF4 q2) (EF_tr a2 b2), Or.inr ⟨f, v7, y1, ET_tr hEx y2, b3, y4⟩⟩
          rw [if_pos x1, y3.2.1, a1, bnd]
          exact b1
        · obtain ⟨w7, b1, b2, b3⟩ := F_test_1 (d := d + 5) (l1 := dep) (l2 := 1) (l3 := k + 1) y3
          refine ⟨w7, ?_, EF_tr (EF_tr hEF4 q2) b2, Or.inr ⟨f, v7, y1, ET_tr hEx y2, b3, y4⟩⟩
          rw [if_neg (by omega)]
          exact b1
    have hsb : ST S (h0 + o + a) dep (z_up v1 11 0 18 (w2 5 0 5)) := ST_18 hs1
    have hJKb : JK ci t bc bm L (pend + o + a) w2 (z_up v1 11 0 18 (w2 5 0 5)) := JK_m hJ1.2 (mF_11 (by decide))
    have t60 : ∀ w : zW, Reader_test_6 (d + 6) dep o k 0 w = Reader_test_10 (d + 6) dep k 0 o w := fun w => by
      rw [e_Reader_test_6]
      rcases ho with x | x
      · rw [x, if_pos rfl, if_neg (by decide)]
      · rw [x, if_neg (by decide)]
    have t61 : ∀ w : zW, Reader_test_6 (d + 6) dep o k 1 w = Reader_test_10 (d + 6) dep k 1 1 w := fun w => by
      rw [e_Reader_test_6]
      rcases ho with x | x
      · rw [if_pos x, if_pos rfl]
      · rw [if_neg (by omega)]
    have hk4 : r ≠ -1 → w2 5 0 4 < n := fun q => by
      rcases hr3 with x | x | x
      · exact absurd x q
      · exact (let_at h.1.1 (by decide) (w0 x)).1
      · exact (let_at h.1.1 (by decide) (w1 x).1).1
    have hcomm : ∀ c : Int, r = c → c ≠ -1 → Reader_test_1 (d + 6) dep o k w3 = (if c = 1 then (if o = 0 then (Reader_test_6 (d + 6) dep o k c w3) else ((Clauses_add (d + 5) ci 124 0 w3).bind fun r3 => Reader_test_6 (d + 6) dep o k c r3.2)) else (Reader_test_6 (d + 6) dep o k c w3)) := fun c hc hne => by
      rw [e_Reader_test_1, if_neg (by have := hk4 (by omega); omega), r1, bnd]
      dsimp only
      rw [hc, if_neg hne, r1, bnd]
      dsimp only
      rw [hc, hci3]
    rcases hr3 with hr | hr | hr
    · -- the end
      obtain ⟨n1, n2⟩ := wn hr
      have hK := Kb_no (d' := d') hJ1.1 h18 n1 n2
      have hend : ∀ wE : zW, (∀ (K : zW → zR) (d : Nat), (if o = 0 then K w3 else (Clauses_add d ci 124 0 w3).bind fun r => K r.2) = K wE) → Reader_test_1 (d + 6) dep o k w3 = some (0, wE) := fun wE hKK => by
        rw [e_Reader_test_1]
        by_cases k4 : 400 ≤ k
        · rw [if_pos k4, hci3]
          exact hKK (fun w => some (0, w)) (d + 5)
        rw [if_neg k4, r1, bnd]
        dsimp only
        rw [if_pos hr, hci3]
        exact hKK (fun w => some (0, w)) (d + 5)
      by_cases z0 : h0 = 0
      · obtain ⟨wE, v', M, q1, q2, q3, q4, q5, ⟨q6, q7⟩, q8, q9, q10, q11⟩ := j_settle1 (g := d' + 6) (nW := nW) ho ha hA hJ1.2 hp h4 hs1 (by omega) (by omega) hS
        have hno : ∀ j, 0 ≤ j → j < h0 + o + a → S j ≠ 91 := fun j j0 j1 y => by
          rcases ho with x | x
          · have : a = 1 := by omega
            have h12 := hS.2.2 this
            rw [show h0 + o = j by omega, y] at h12
            exact absurd h12 (by decide)
          · by_cases u : j = h0
            · have h13 := hS.2.1 x
              rw [← u, y] at h13
              exact absurd h13 (by decide)
            · have : a = 1 := by omega
              have h12 := hS.2.2 this
              rw [show h0 + o = j by omega, y] at h12
              exact absurd h12 (by decide)
        refine ⟨wE, hend wE q1, q3, Or.inl ⟨M, v', ET_tr hE1 q4, by rw [q6, e5]; exact Int.le_refl _, q9, by rw [q6, e5, q10]; omega, ⟨JR_x hJR3 (mF_sub q5 (by decide) (by decide)) q6 q7, q11⟩, q8, Or.inl ⟨z0, ?_⟩⟩⟩
        obtain ⟨r', s1, s2⟩ := m_inside (g := d' + 7) hs1 (by omega)
        have hr' : r' = 0 := by
          rcases s2 with ⟨-, j, j0, j1, j2⟩ | ⟨k1, -⟩
          · exact absurd j2 (hno j j0 j1)
          · exact k1
        rw [Bf_K h.1 (Or.inr ⟨S, h0 + o + a, dep, hs, by omega, hno⟩), hv1, hK, e_M_tested_1, if_pos rfl, s1, bnd]
        dsimp only
        rw [if_pos hr', e_M_settles, q2, bnd]
        dsimp only
        rw [gd_t (by decide)]
      · have hin : ∃ j, 0 ≤ j ∧ j < h0 + o + a ∧ S j = 91 := by
          rcases hS.1 with y | y
          · exact absurd y z0
          · exact ⟨h0 - 1, by omega, by omega, y⟩
        obtain ⟨wE, v', M, q1, q2, q3, q4, q5, ⟨q6, q7⟩, q8, q9, q10, q11⟩ := j_settle1 (g := d' + 5) (nW := nW) ho ha hA hJ1.2 hp h4 hs1 (by omega) (by omega) hS
        refine ⟨wE, hend wE q1, q3, Or.inl ⟨M, v', ET_tr hE1 q4, by rw [q6, e5]; exact Int.le_refl _, q9, by rw [q6, e5, q10]; omega, ⟨JR_x hJR3 (mF_sub q5 (by decide) (by decide)) q6 q7, q11⟩, q8, Or.inr ?_⟩⟩
        have e18' : v' 11 0 18 = w2 5 0 4 := by rw [q5.2 18 (by decide)]; exact h18
        by_cases z93 : w2 5 0 3 = 93
        · refine Or.inl ⟨by omega, by rw [q6, e5]; exact z93, by rw [e18', q6, e5], ?_⟩
          exact Bf_Z h.1 z93 hs (by omega) hin (by rw [hv1]; exact q2) (by rw [q8.1]; omega) (by rw [q8.2.2]; omega) (by rw [e18']; omega)
        · refine Or.inr ⟨by omega, by rw [q6, e5]; exact z93, ?_⟩
          obtain ⟨r', s1, s2⟩ := m_inside (g := d' + 7) hs1 (by omega)
          have hr' : ¬ r' = 0 := fun x => by
            rcases s2 with ⟨k1, -⟩ | ⟨k1, k2⟩
            · omega
            · obtain ⟨j, j0, j1, j2⟩ := hin
              exact k2 j j0 j1 j2
          obtain ⟨hse, hJse⟩ := j_see (d := d' + 7) hJ1.1
          have e1' : z_up v1 11 0 18 (w2 5 0 4) = v1 := by rw [← h18, up_self]
          rw [e1'] at hse
          refine ⟨_, ET_tr hE1 (ET_m (mF_11 (s := 19) (v := 1 + 8 * w2 5 0 4 + 0) (by decide))), ?_, ?_⟩
          · rw [up_h, q6, e5]
            omega
          · rw [Bf_K h.1 (Or.inl z93), hv1, hK, e_M_tested_1, if_pos rfl, s1, bnd]
            dsimp only
            rw [if_neg hr', hse, bnd]
            dsimp only
            rw [h18, m_fails hJ1.1.2.2.1 (by decide) (by omega), bnd]
            dsimp only
            rw [gd_t (by decide)]
    · -- and
      obtain ⟨v4, M, q2, q4, q5, q8, q9, q10, q11⟩ := j_settle2 (g := d' + 6) (nW := nW) ho ha hA hJKb hp h4 hsb (by omega) (by omega) hS
      refine joins 12 o (h0 + o) M w3 v4 _ (Or.inl ⟨rfl, rfl⟩) rfl ⟨andW, by decide, w0 hr⟩ (Kb_and hJ1.1 h18 (w0 hr)) q2 (EF_rf _ _) ⟨rfl, rfl⟩ q4 q5 q8 q9 q10 q11 ?_
      rw [hcomm 0 hr (by decide), if_neg (by decide), t60, e_Reader_test_10]
      congr 1
      funext x
      congr 1
      funext y
      rw [if_pos rfl, if_pos rfl]
      congr 1
      funext z
      rw [gd_t (by omega)]
    · -- or
      obtain ⟨wE, v4, M, q1, q2, q3, q4, q5, q6, q8, q9, q10, q11⟩ := j_settle1 (g := d' + 6) (nW := nW) ho ha hA hJKb hp h4 hsb (by omega) (by omega) hS
      refine joins 13 0 h0 M wE v4 _ (Or.inr ⟨rfl, rfl⟩) (by omega) ⟨orW, by decide, (w1 hr).1⟩ (Kb_or hJ1.1 h18 (w1 hr).2 (w1 hr).1) q2 q3 q6 q4 q5 q8 q9 q10 (by rw [Int.add_zero]; exact q11) ?_
      have h9 : Reader_test_1 (d + 6) dep o k w3 = (if o = 0 then Reader_test_10 (d + 6) dep k 1 1 w3 else (Clauses_add (d + 5) ci 124 0 w3).bind fun r3 => Reader_test_10 (d + 6) dep k 1 1 r3.2) := by
        rw [hcomm 1 hr (by decide), if_pos rfl]
        simp only [t61]
      rw [h9, q1 (fun w => Reader_test_10 (d + 6) dep k 1 1 w) (d + 5), e_Reader_test_10]
      congr 1
      funext x
      congr 1
      funext y
      rw [if_neg (by decide), if_neg (by decide), gd_t (by omega)]
/-- a test of facts -/
theorem t_of_f {sid nW dep : Int} (hdep : 0 ≤ dep ∧ dep ≤ 10) (HF : FC d' T n ci t bc bm sid nW (d + 5) dep) : TC d' T n ci t bc bm sid nW (d + 6) dep := by
  intro L pend wc wm S h hp hJ hs hS h0 hh h7
  have hS' : h = 0 ∨ sTr (S (h - 1)) < 3 := by
    rcases hS with q | q
    · exact Or.inl q
    · rw [q]; exact Or.inr (by decide)
  have hq := hJ.1.1.2.2.2.1
  obtain ⟨w1, p1, p2, p3⟩ := HF L pend wc wm S h hp hJ hs hS' h0 (by omega) h7
  rw [e_Reader_test, p1, bnd]
  dsimp only
  rcases p3 with ⟨M, v1, y1, y2, y3, y4, y5, y6, y7⟩ | ⟨f, v1, y1, y2, y3, y4⟩
  · have h71 : w1 5 0 7 = sid := by rw [p2.2.2.2.1 7 (by omega)]; exact h7
    have y6' : JC T n ci t bc bm (L ++ M) (pend + 0 + 0) w1 v1 := JC_le y6 (by omega)
    have y7' : ST S (h + 0 + 0) dep v1 := by rw [show h + 0 + 0 = h by omega]; exact y7
    have hq1 := y6.1.1.2.2.2.1
    obtain ⟨w2, t1, t2, t3⟩ := j_testL (d := d) hp hdep ⟨h0, hh⟩ HF (n - w1 5 0 4 + 1).toNat 0 0 0 (L ++ M) w1 w1 v1 S (by omega) (Int.le_refl 0) (by omega) (Or.inl rfl) (Or.inl rfl) (Or.inl ⟨rfl, rfl⟩) y6' y7' ⟨hS, fun q => by omega, fun q => by omega⟩ h71
    refine ⟨w2, t1, EF_tr p2 t2, ?_⟩
    rw [y1]
    exact TE_app y4 y2 y3 y5 (fun j _ _ => rfl) t3
  · obtain ⟨w2, t1, t2, t3⟩ := F_test_1 (d := d + 5) (l1 := dep) (l2 := 0) (l3 := 0) y3
    exact ⟨w2, t1, EF_tr p2 t2, Or.inr ⟨f, v1, y1, y2, t3, y4⟩⟩
end
