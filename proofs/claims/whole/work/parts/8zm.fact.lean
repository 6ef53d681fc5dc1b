section
variable {d d' : Nat} {T : Int → Int} {n ci t bc bm pend : Int}
/-- one more is opened in the model -/
theorem m_opens {g : Nat} {S : Int → Int} {h l2 x p : Int} {v1 : zW} (hs : ST S h l2 v1) (hh : 0 ≤ h ∧ h < 390) (h19 : v1 11 0 19 = 0) (h18 : v1 11 0 18 = p) (hp : 0 ≤ p ∧ p ≤ 400) (hl : 0 ≤ l2 ∧ l2 ≤ 10) : M_opens (g + 1) x v1 = if l2 = 10 then some (0, z_up v1 11 0 19 (1 + 8 * p + 2)) else some (1, z_up (z_up (z_up v1 11 0 23 (l2 + 1)) 65 0 h x) 11 0 26 (h + 1)) := by
  obtain ⟨s1, s2, s3⟩ := hs
  rw [e_M_opens, s3]
  by_cases z : l2 = 10
  · rw [if_pos z, if_pos z, h18, m_fails h19 (by decide) hp, bnd]
    dsimp only
    rw [gd_t (by decide)]
  · rw [if_neg z, if_neg z, gd_t (by omega), s1, gd_t (by omega), gd_t (by omega), gd_t (by decide)]
theorem ST_push {S : Int → Int} {h l2 x : Int} {v1 : zW} (hs : ST S h l2 v1) : ST (upF S h x) (h + 1) (l2 + 1) (z_up (z_up (z_up v1 11 0 23 (l2 + 1)) 65 0 h x) 11 0 26 (h + 1)) := by
  refine ⟨up_h, fun j j0 j1 => ?_, ?_⟩
  · rw [up_c (by decide)]
    unfold upF z_up
    by_cases y : j = h
    · rw [if_pos ⟨rfl, y, rfl⟩, if_pos y]
    · rw [if_neg (fun k => y k.2.1), if_neg y, if_neg (fun k => absurd k.1 (by decide))]
      exact hs.2.1 j j0 (by omega)
  · rw [up_s (by decide), up_c (by decide), up_h]
theorem mF_push {h l2 x : Int} {v1 : zW} : mF [65] [23, 26] v1 (z_up (z_up (z_up v1 11 0 23 (l2 + 1)) 65 0 h x) 11 0 26 (h + 1)) := mF_tr (mF_tr (mF_11 (by decide)) (mF_up (by decide) (by decide))) (mF_11 (by decide))
theorem FE_app {L : List tok} {nW h0 dp : Int} {S S' : Int → Int} {G : zR} {wc w1 wc' wm v : zW} (hE : ET t wm v) (hp : wc 5 0 4 ≤ w1 5 0 4) (hc : wc 5 0 6 ≤ w1 5 0 6) (hS : ∀ j, 0 ≤ j → j < h0 → S' j = S j) (h : FE d' T n ci t bc bm L pend nW S' h0 dp G w1 wc' v) : FE d' T n ci t bc bm L pend nW S h0 dp G wc wc' wm := by
  rcases h with ⟨M, wm', h1, h2, h3, h4, h5, h6, h7⟩ | ⟨f, wm', h1, h2, h3⟩
  · exact Or.inl ⟨M, wm', h1, ET_tr hE h2, by omega, h4, by omega, h6, ST_S h7 hS⟩
  · exact Or.inr ⟨f, wm', h1, ET_tr hE h2, h3⟩
/-- the nots and brackets ahead of a fact -/
theorem j_factL {sid nW dep : Int} (hv : vS t sid nW) (hp : 0 ≤ pend) (hd0 : 0 ≤ dep) (HT : ∀ dp', dep < dp' → dp' ≤ 10 → TC d' T n ci t bc bm sid nW (d + 4) dp') : ∀ (m : Nat) (l2 : Int) (L : List tok) (wc wm : zW) (S : Int → Int) (h : Int), 10 - l2 < m → dep ≤ l2 → l2 ≤ 10 → JC T n ci t bc bm L (pend + (l2 - dep)) wc wm → ST S h l2 wm → 0 ≤ h - (l2 - dep) → (∀ j, h - (l2 - dep) ≤ j → j < h → S j = 11) → (h - (l2 - dep) = 0 ∨ sTr (S (h - (l2 - dep) - 1)) < 3) → h ≤ 3 * l2 + 2 → wc 5 0 7 = sid →
    ∃ wc', Reader_fact_1 (d + 5) dep l2 (l2 - dep) wc = some (0, wc') ∧ EF ci wc wc' ∧ FE d' T n ci t bc bm L pend nW S (h - (l2 - dep)) dep (Gf d' 1 wm) wc wc' wm := by
  intro m
  induction m with
  | zero =>
    intro l2 L wc wm S h hm _ h10
    omega
  | succ m ih =>
    intro l2 L wc wm S hgt hm hl0 hl1 h hs hh hS hS0 h3 h7
    have hq := h.1.1.2.2.2.1
    have hn := h.1.1.1
    have hbh := h.1.1.bh
    obtain ⟨r, r1, r2⟩ := s_wordIn (d := d + 2) h.1.1 ss4 ly4 ok4 (by decide)
    have hJ1 : JC T n ci t bc bm L (pend + (l2 - dep)) wc (z_up wm 11 0 18 (wc 5 0 4)) := JC_18 h (mF_11 (by decide)) up_h
    have h18 : (z_up wm 11 0 18 (wc 5 0 4)) 11 0 18 = wc 5 0 4 := up_h
    have hs1 : ST S hgt l2 (z_up wm 11 0 18 (wc 5 0 4)) := ST_18 hs
    have hE1 : ET t wm (z_up wm 11 0 18 (wc 5 0 4)) := ET_m (mF_11 (by decide))
    obtain ⟨hse, -⟩ := j_see (d := d' + 6) h.1
    obtain ⟨a1, a2⟩ := j_sees (c := 91) h.1 (by decide) (by omega) (by omega) (by decide)
    generalize hv1 : z_up wm 11 0 18 (wc 5 0 4) = v1 at *
    have h19 : v1 11 0 19 = 0 := hJ1.1.2.2.1
    obtain ⟨r', s1, s2, s3⟩ := m_wd (r := 0) (g := d' + 5) (code := 7237492) (W := notW) (okW_i (by decide) (by decide) (by decide)) (by decide +kernel) hJ1.1 h18
    have hop := fun x => m_opens (g := d' + 5) (x := x) hs1 (by omega) h19 h18 (by omega) (show 0 ≤ l2 ∧ l2 ≤ 10 by omega)
    have hG : Gf d' 1 wm = (if r' = 0 then (if (if n ≤ wc 5 0 4 then (-1 : Int) else T (wc 5 0 4)) = 91 then ((M_opens (d' + 6) 91 v1).bind fun r3 => if r3.1 = 0 then (gd ((0 : Int) ≤ 0 ∧ (0 : Int) ≤ 1) (some (0, r3.2))) else (gd (inI ((r3.2 11 0 18) + 1)) (M_fact_1 (d' + 7) 1 (z_up r3.2 11 0 18 ((r3.2 11 0 18) + 1))))) else (M_fact_1 (d' + 7) 0 v1)) else ((M_opens (d' + 6) 11 v1).bind fun r3 => if r3.1 = 0 then (gd ((0 : Int) ≤ 0 ∧ (0 : Int) ≤ 1) (some (0, r3.2))) else ((M_passWord (d' + 6) r3.2).bind fun r4 => M_fact_1 (d' + 7) 1 r4.2))).bind fun r1 => if r1.1 = 0 then (gd ((0 : Int) ≤ 0 ∧ (0 : Int) ≤ 1) (some (0, r1.2))) else (M_closes (d' + 7) r1.2).bind fun r2 => Kb d' r2.2 := by
      unfold Gf
      rw [e_M_fact_1, if_neg (by decide), hse, bnd]
      dsimp only
      rw [s1, bnd]
    have hi : inI (l2 - dep + 1) := by omega
    have hl3 : l2 - dep + 1 = (l2 + 1) - dep := by omega
    by_cases hr : r = 0
    · -- a not
      have hW : WD T n (wc 5 0 4) notW := by
        rcases r2 with ⟨k, -⟩ | ⟨i, k1, k2, k3, -⟩
        · omega
        · have : i = 0 := by omega
          subst this
          exact k3
      obtain ⟨g1, g2, g3, g4⟩ := let_at h.1.1 (by decide) hW
      have hr' := s3.2 hW
      rw [if_neg (show ¬ r' = 0 by omega), hop 11] at hG
      by_cases z10 : l2 = 10
      · rw [if_pos z10, bnd] at hG
        dsimp only at hG
        rw [if_pos rfl, gd_t (by decide), bnd] at hG
        dsimp only at hG
        rw [if_pos rfl, gd_t (by decide)] at hG
        have hF := FS_refuse (k := 2) h (by omega) (by decide)
        obtain ⟨w2, b1, b2, b3⟩ := F_fact_1 (d := d + 1) (l1 := dep) (l2 := l2 + 1) (l3 := l2 - dep + 1) hF (by decide) (by omega)
        refine ⟨w2, ?_, EF_tr EF_refuse b2, Or.inr ⟨_, _, hG, ET_tr hE1 (ET_m (mF_11 (by decide))), FS_le b3 (by decide), up_h⟩⟩
        rw [e_Reader_fact_1, if_neg (by omega), r1, bnd]
        dsimp only
        rw [if_pos hr, e_Reader_deeper, if_neg (by omega), s_refuse_x h.1.1 (by decide), bnd]
        dsimp only
        rw [gd_t (by omega), bnd]
        dsimp only
        rw [gd_t hi]
        exact b1
      · rw [if_neg z10, bnd] at hG
        dsimp only at hG
        rw [if_neg (show ¬ (1 : Int) = 0 by decide)] at hG
        have hpu : mF [65] [23, 26] v1 (z_up (z_up (z_up v1 11 0 23 (l2 + 1)) 65 0 hgt 11) 11 0 26 (hgt + 1)) := mF_push
        have hST2 := ST_push (x := 11) hs1
        generalize z_up (z_up (z_up v1 11 0 23 (l2 + 1)) 65 0 hgt 11) 11 0 26 (hgt + 1) = v2 at *
        have hMT2 : MT T n v2 := by
          obtain ⟨m1, m2, m3⟩ := hJ1.1.2.1
          refine ⟨(hpu.2 1 (by decide)).trans m1, m2, fun x x0 x1 => ?_⟩
          rw [hpu.1 48 (by decide) (by decide)]
          exact m3 x x0 x1
        rw [m_passWord (d := d' + 5) hMT2 ((hpu.2 18 (by decide)).trans h18) hq g3, bnd] at hG
        dsimp only at hG
        obtain ⟨w1, p1, p2, p3, p4, p5, p6⟩ := j_next2 (d := d + 3) hJ1.1
        have hJR := p3 (z_up v2 11 0 18 (wc 5 0 5)) (mF_tr (mF_sub hpu (by decide) (by decide)) (mF_11 (by decide))) up_h
        have hJK : JK ci t bc bm L (pend + (l2 + 1 - dep)) w1 (z_up v2 11 0 18 (wc 5 0 5)) := JK_le (p6 _ _ _ _ _ _ _ (JK_m (JK_m hJ1.2 (mF_sub hpu (by decide) (by decide))) (mF_11 (s := 18) (v := wc 5 0 5) (by decide)))) (by omega)
        have h71 : w1 5 0 7 = sid := by rw [p2.2 7 (by decide) (by decide) (by decide)]; exact h7
        have e0 : hgt + 1 - (l2 + 1 - dep) = hgt - (l2 - dep) := by omega
        have hlow : ∀ j, j < hgt → upF S hgt 11 j = S j := fun j j1 => by
          unfold upF
          rw [if_neg (by omega)]
        obtain ⟨w2, t1, t2, t3⟩ := ih (l2 + 1) L w1 _ (upF S hgt 11) (hgt + 1) (by omega) (by omega) (by omega) ⟨hJR, hJK⟩ (ST_18 hST2) (by omega) (fun j j0 j1 => by
          by_cases y : j = hgt
          · unfold upF
            rw [if_pos y]
          · rw [hlow j (by omega)]
            exact hS j (by omega) (by omega)) (by
          rw [e0]
          rcases hS0 with y | y
          · exact Or.inl y
          · by_cases x : hgt - (l2 - dep) = 0
            · exact Or.inl x
            · rw [hlow _ (by omega)]
              exact Or.inr y) (by omega) h71
        rw [e0] at t3
        have h61 : w1 5 0 6 = wc 5 0 6 := p2.2 6 (by decide) (by decide) (by decide)
        refine ⟨w2, ?_, EF_tr p2.f.e t2, ?_⟩
        · rw [e_Reader_fact_1, if_neg (by omega), r1, bnd]
          dsimp only
          rw [if_pos hr, e_Reader_deeper, if_pos (by omega), p1, bnd]
          dsimp only
          rw [gd_t (by omega), bnd]
          dsimp only
          rw [gd_t hi, hl3]
          exact t1
        · have hG' : Gf d' 1 wm = Gf d' 1 (z_up v2 11 0 18 (wc 5 0 5)) := hG
          rw [hG']
          exact FE_app (ET_tr hE1 (ET_tr (ET_m (mF_sub hpu (by decide) (by decide))) (ET_m (mF_11 (by decide))))) (by omega) (by omega) (fun j _ j1 => hlow j (by omega)) t3
    -- no not
    have hnW : ¬ WD T n (wc 5 0 4) notW := fun q => by
      rcases r2 with ⟨-, k⟩ | ⟨i, k1, k2, -, -⟩
      · exact k _ List.mem_cons_self q
      · have : i < 1 := k1
        omega
    have hr' : r' = 0 := by
      rcases s2 with q | q
      · exact q
      · exact absurd (s3.1 q) hnW
    have hc4 : Reader_fact_1 (d + 5) dep l2 (l2 - dep) wc = Reader_fact_4 (d + 5) dep l2 wc := by
      rw [e_Reader_fact_1, if_neg (by omega), r1, bnd]
      dsimp only
      rw [if_neg hr]
    rw [if_pos hr'] at hG
    rw [hc4]
    -- the nots behind
    have nots : ∀ (L' : List tok) (w v : zW) (M : List tok), JC T n ci t bc bm L' (pend + (l2 - dep)) w v → ST S hgt l2 v → ∃ w' v' N, Reader_fact_19 (d + 5) l2 dep w = some (0, w') ∧ M_settles_1 (d' + 6) 3 v = some (0, v') ∧ EF ci w w' ∧ ET t v v' ∧ (w' 5 = w 5) ∧ ST S (hgt - (l2 - dep)) dep v' ∧ OUT nW [true] [true] N ∧ cntV N = 0 ∧ JC T n ci t bc bm (L' ++ N) pend w' v' := fun L' w v M hJ hST => by
      have hqq := hJ.1.1.2.2.2.1
      have hnn := hJ.1.1.1
      have ek : (((l2 - dep).toNat : Nat) : Int) = l2 - dep := by omega
      obtain ⟨w', v', N, q1, q2, q3, q4, q5, ⟨q6, q7⟩, q8, q9, q10, q11⟩ := j_nots (d := d + 4) (g := d' + 5) (nW := nW) (l2 := l2) hp (by omega) (l2 - dep).toNat L' w v hgt l2 dep (by rw [ek]; exact hJ.2) (by omega) hST (by omega) (by omega) (by omega) (by omega) (by rw [ek]; exact hS) (by rw [ek]; exact hS0) (by omega) hd0
      rw [ek, show l2 - (l2 - dep) = dep by omega] at q8
      exact ⟨w', v', N, q1, q2, q3, q4, q6, q8, q9, q10, JR_x hJ.1 (mF_sub q5 (by decide) (by decide)) q6 q7, q11⟩
    have notsF : ∀ (f : Int) (w : zW), FS ci f 70 w → ∃ w', Reader_fact_19 (d + 5) l2 dep w = some (0, w') ∧ EF ci w w' ∧ FS ci f 70 w' := fun f w hF => F_fact_19 (d := d + 4) (l2 - dep).toNat l2 dep w (by omega) hd0 (by omega) hF
    by_cases z91 : wc 5 0 3 = 91
    · -- a bracket
      rw [if_pos (a1.2 z91), hop 91] at hG
      by_cases z10 : l2 = 10
      · rw [if_pos z10, bnd] at hG
        dsimp only at hG
        rw [if_pos rfl, gd_t (by decide), bnd] at hG
        dsimp only at hG
        rw [if_pos rfl, gd_t (by decide)] at hG
        have hF := FS_le (P' := 70) (FS_refuse (k := 2) h (by omega) (by decide)) (by decide)
        obtain ⟨w2, b1, b2, b3⟩ := F_refuse (d := d + 4) (k := 0) hF
        obtain ⟨w3, c1, c2, c3⟩ := notsF _ w2 b3
        refine ⟨w3, ?_, EF_tr EF_refuse (EF_tr b2 c2), Or.inr ⟨_, _, hG, ET_tr hE1 (ET_m (mF_11 (by decide))), c3, up_h⟩⟩
        rw [e_Reader_fact_4, if_pos z91, e_Reader_deeper, if_neg (by omega), s_refuse_x h.1.1 (by decide), bnd]
        dsimp only
        rw [gd_t (by omega), bnd]
        dsimp only
        rw [if_pos (by omega), e_Reader_fact_7, if_neg (by have := hF.1.2.1; omega), b1, bnd]
        exact c1
      · rw [if_neg z10, bnd] at hG
        dsimp only at hG
        rw [if_neg (show ¬ (1 : Int) = 0 by decide)] at hG
        have hpu : mF [65] [23, 26] v1 (z_up (z_up (z_up v1 11 0 23 (l2 + 1)) 65 0 hgt 91) 11 0 26 (hgt + 1)) := mF_push
        have hST2 := ST_push (x := 91) hs1
        generalize z_up (z_up (z_up v1 11 0 23 (l2 + 1)) 65 0 hgt 91) 11 0 26 (hgt + 1) = v2 at *
        have e18 : v2 11 0 18 = wc 5 0 4 := (hpu.2 18 (by decide)).trans h18
        have hb1 := (a2 z91).1
        rw [gd_t (by omega), e18] at hG
        obtain ⟨w1, p1, p2, p3, p4, p5, p6⟩ := j_next2 (d := d + 3) hJ1.1
        have hJR := p3 (z_up v2 11 0 18 (wc 5 0 4 + 1)) (mF_tr (mF_sub hpu (by decide) (by decide)) (mF_11 (by decide))) (by rw [up_h, hb1])
        have hJK : JK ci t bc bm L (pend + (l2 - dep)) w1 (z_up v2 11 0 18 (wc 5 0 4 + 1)) := JK_le (p6 _ _ _ _ _ _ _ (JK_m (JK_m hJ1.2 (mF_sub hpu (by decide) (by decide))) (mF_11 (s := 18) (v := wc 5 0 4 + 1) (by decide)))) (by omega)
        have h71 : w1 5 0 7 = sid := by rw [p2.2 7 (by decide) (by decide) (by decide)]; exact h7
        have h61 : w1 5 0 6 = wc 5 0 6 := p2.2 6 (by decide) (by decide) (by decide)
        have hlow : ∀ j, j < hgt → upF S hgt 91 j = S j := fun j j1 => by
          unfold upF
          rw [if_neg (by omega)]
        have hE2 : ET t wm (z_up v2 11 0 18 (wc 5 0 4 + 1)) := ET_tr hE1 (ET_tr (ET_m (mF_sub hpu (by decide) (by decide))) (ET_m (mF_11 (by decide))))
        obtain ⟨w2, t1, t2, t3⟩ := HT (l2 + 1) (by omega) (by omega) L (pend + (l2 - dep)) w1 _ (upF S hgt 91) (hgt + 1) (by omega) ⟨hJR, hJK⟩ (ST_18 hST2) (Or.inr (by
          rw [show hgt + 1 - 1 = hgt by omega]
          unfold upF
          rw [if_pos rfl])) (by omega) (by omega) h71
        have hG' : Gf d' 1 wm = Gf d' 1 (z_up v2 11 0 18 (wc 5 0 4 + 1)) := hG
        rw [hG']
        have hcl : Reader_fact_4 (d + 5) dep l2 wc = Reader_fact_7 (d + 5) dep l2 w2 := by
          rw [e_Reader_fact_4, if_pos z91, e_Reader_deeper, if_pos (by omega), p1, bnd]
          dsimp only
          rw [gd_t (by omega), bnd]
          dsimp only
          rw [if_neg (by omega), t1, bnd]
        rw [hcl, e_Reader_fact_7]
        have hEc : EF ci wc w2 := EF_tr p2.f.e t2
        rcases t3 with ⟨M, v4, y1, y2, y3, y4, y5, y6, y7⟩ | ⟨f, v4, y1, y2, y3, y4⟩
        · have hq2 := y5.1.1.2.2.2.1
          rcases y7 with ⟨k1, -⟩ | ⟨k1, k2, k3, k4⟩ | ⟨k1, k2, wf, k3, k4, k5⟩
          · omega
          · -- it closes
            obtain ⟨w3, u1, u2, u3, u4, u5, u6⟩ := j_next2 (d := d + 4) y5.1
            have hb2 : w2 5 0 5 = w2 5 0 4 + 1 := ((j_sees (c := 93) y5.1 (by decide) (by omega) (by omega) (by decide)).2 k2).1
            have e26 : v4 11 0 26 - 1 = hgt := by rw [y6.1]; omega
            have e23 : v4 11 0 23 - 1 = l2 := by rw [y6.2.2]; omega
            have hmz : mF [] [18, 23, 26] v4 (z_up (z_up (z_up v4 11 0 26 (v4 11 0 26 - 1)) 11 0 23 (v4 11 0 23 - 1)) 11 0 18 (v4 11 0 18 + 1)) := mF_tr (mF_tr (mF_11 (by decide)) (mF_11 (by decide))) (mF_11 (by decide))
            have hST5 : ST S hgt l2 (z_up (z_up (z_up v4 11 0 26 (v4 11 0 26 - 1)) 11 0 23 (v4 11 0 23 - 1)) 11 0 18 (v4 11 0 18 + 1)) := by
              refine ⟨?_, fun j j0 j1 => ?_, ?_⟩
              · rw [up_s (by decide), up_s (by decide), up_h]; exact e26
              · rw [up_c (by decide), up_c (by decide), up_c (by decide), y6.2.1 j j0 (by omega)]
                exact hlow j j1
              · rw [up_s (by decide), up_h]; exact e23
            have hZ : Zf d' v4 = (M_settles_1 (d' + 6) 3 (z_up (z_up (z_up v4 11 0 26 (v4 11 0 26 - 1)) 11 0 23 (v4 11 0 23 - 1)) 11 0 18 (v4 11 0 18 + 1))).bind fun r4 => Bf d' r4.2 := rfl
            have hJR5 := u3 _ (mF_sub hmz (by decide) (by decide)) (by rw [up_h, k3, hb2])
            have hJK5 : JK ci t bc bm (L ++ M) (pend + (l2 - dep)) w3 (z_up (z_up (z_up v4 11 0 26 (v4 11 0 26 - 1)) 11 0 23 (v4 11 0 23 - 1)) 11 0 18 (v4 11 0 18 + 1)) := JK_le (u6 _ _ _ _ _ _ _ (JK_m y5.2 (mF_sub hmz (by decide) (by decide)))) (by omega)
            obtain ⟨w4, v5, N, c1, c2, c3, c4, c5, c6, c7, c8, c9⟩ := nots (L ++ M) w3 _ M ⟨hJR5, hJK5⟩ hST5
            refine ⟨w4, ?_, EF_tr hEc (EF_tr u2.f.e c3), Or.inl ⟨M ++ N, v5, ?_, ET_tr hE2 (ET_tr y1 (ET_tr (ET_m (mF_sub hmz (by decide) (by decide))) c4)), ?_, OUT_app y3 c7, ?_, ?_, c6⟩⟩
            · rw [if_pos k2, u1, bnd]
              exact c1
            · rw [k4, hZ, c2, bnd]
            · rw [c5]; omega
            · have h63 : w3 5 0 6 = w2 5 0 6 := u2.2 6 (by decide) (by decide) (by decide)
              rw [cntV_app, c8, c5, h63]
              omega
            · rw [← List.append_assoc]
              exact c9
          · -- it does not
            have hF := FS_le (P' := 70) (FS_refuse (k := 0) y5 (by omega) (by decide)) (by decide)
            obtain ⟨w3, c1, c2, c3⟩ := notsF _ _ hF
            refine ⟨w3, ?_, EF_tr hEc (EF_tr EF_refuse c2), Or.inr ⟨_, wf, k5, ET_tr hE2 k3, c3, by rw [k4]; omega⟩⟩
            rw [if_neg k2, s_refuse_x y5.1.1 (by decide), bnd]
            exact c1
        · have hsg := y3.1.2.1
          obtain ⟨w3, b1, b2, b3⟩ := F_refuse (d := d + 4) (k := 0) y3
          obtain ⟨w4, c1, c2, c3⟩ := notsF _ w3 b3
          refine ⟨w4, ?_, EF_tr hEc (EF_tr b2 c2), Or.inr ⟨f, v4, y1, ET_tr hE2 y2, c3, y4⟩⟩
          rw [if_neg (by omega), b1, bnd]
          exact c1
    · -- a comparison
      rw [if_neg (fun q => z91 (a1.1 q)), e_M_fact_1, if_pos rfl] at hG
      obtain ⟨w1, rm, v2, q1, q2, q3, q4, q5⟩ := j_compare (d := d) (d' := d') (l1 := dep) (l2 := l2) hv (by omega) h7 z91 hJ1
      rw [q2, bnd] at hG
      dsimp only at hG
      rw [q1]
      rcases q5 with ⟨y1, y2, M, y3, y4, y5⟩ | ⟨y1, f, y2, y3⟩
      · obtain ⟨w4, v5, N, c1, c2, c3, c4, c5, c6, c7, c8, c9⟩ := nots (L ++ M) w1 v2 M y5 (ST_EM hs1 q4)
        rw [gd_t (by omega), bnd] at hG
        dsimp only at hG
        rw [if_neg (by omega), e_M_closes, e_M_settles, c2, bnd] at hG
        refine ⟨w4, c1, EF_tr q3 c3, Or.inl ⟨M ++ N, v5, hG, ET_tr hE1 (ET_tr q4.t c4), by rw [c5]; omega, OUT_app y3 c7, ?_, ?_, c6⟩⟩
        · rw [cntV_app, c8, c5]
          omega
        · rw [← List.append_assoc]
          exact c9
      · obtain ⟨w4, c1, c2, c3⟩ := notsF _ w1 y2
        rw [gd_t (by omega), bnd] at hG
        dsimp only at hG
        rw [if_pos y1, gd_t (by decide)] at hG
        exact ⟨w4, c1, EF_tr q3 c2, Or.inr ⟨f, v2, hG, ET_tr hE1 q4.t, c3, y3⟩⟩
theorem f_of_t {sid nW dep : Int} (hv : vS t sid nW) (hd : 0 ≤ dep ∧ dep ≤ 10) (HT : ∀ dp', dep < dp' → dp' ≤ 10 → TC d' T n ci t bc bm sid nW (d + 4) dp') : FC d' T n ci t bc bm sid nW (d + 5) dep := by
  intro L pend wc wm S h hp hJ hs hS h0 hh h7
  have e0 : dep - dep = 0 := by omega
  have e1 : h - (dep - dep) = h := by omega
  obtain ⟨w1, p1, p2, p3⟩ := j_factL (d := d) (d' := d') (pend := pend) hv hp hd.1 HT (11 : Nat) dep L wc wm S h (by omega) (Int.le_refl _) hd.2 (JC_le hJ (by omega)) hs (by omega) (fun j j0 j1 => by omega) (by rw [e1]; exact hS) hh h7
  rw [e0] at p1
  rw [e1] at p3
  exact ⟨w1, by rw [e_Reader_fact]; exact p1, p2, p3⟩
/-- facts and tests at every depth -/
theorem f_all {sid nW : Int} (hv : vS t sid nW) : ∀ (j : Nat) (dep : Int) (D : Nat), 0 ≤ dep → dep ≤ 10 → 10 - dep ≤ j → 5 + 2 * j ≤ D → FC d' T n ci t bc bm sid nW D dep := by
  intro j
  induction j with
  | zero =>
    intro dep D h0 h1 h2 h3
    obtain ⟨e, rfl⟩ : ∃ e, D = e + 5 := ⟨D - 5, by omega⟩
    exact f_of_t hv ⟨h0, h1⟩ (fun dp' a b => by omega)
  | succ j ih =>
    intro dep D h0 h1 h2 h3
    obtain ⟨e, rfl⟩ : ∃ e, D = e + 2 + 5 := ⟨D - 7, by omega⟩
    exact f_of_t hv ⟨h0, h1⟩ (fun dp' a b => t_of_f (d := e) ⟨by omega, b⟩ (ih dp' (e + 5) (by omega) b (by omega) (by omega)))
/-- the class's test, from its start -/
theorem j_test {sid nW : Int} {L : List tok} {wc wm : zW} (hv : vS t sid nW) (hp : 0 ≤ pend) (h7 : wc 5 0 7 = sid) (h : JC T n ci t bc bm L pend wc wm) :
    ∃ wc' rm wm', Reader_test (d + 26) 0 wc = some (0, wc') ∧ M_tested (d' + 8) wm = some (rm, wm') ∧ EF ci wc wc' ∧ ET t wm wm' ∧ SE T n ci t bc bm L pend nW [] [true] 70 wc wc' rm wm' := by
  have hT : TC d' T n ci t bc bm sid nW (d + 20 + 6) 0 := t_of_f (d := d + 20) ⟨by decide, by decide⟩ (f_all hv 10 0 (d + 20 + 5) (by decide) (by decide) (by decide) (by omega))
  have fz : mF [] [23, 26] wm (z_up (z_up wm 11 0 26 0) 11 0 23 0) := mF_tr (mF_11 (by decide)) (mF_11 (by decide))
  have hJ0 : JC T n ci t bc bm L pend wc (z_up (z_up wm 11 0 26 0) 11 0 23 0) := ⟨JR_x h.1 (mF_sub fz (by decide) (by decide)) rfl rfl, JK_m h.2 (mF_sub fz (by decide) (by decide))⟩
  have hs0 : ST (fun _ => 0) 0 0 (z_up (z_up wm 11 0 26 0) 11 0 23 0) := ⟨by rw [up_s (by decide), up_h], fun j j0 j1 => by omega, up_h⟩
  obtain ⟨w1, p1, p2, p3⟩ := hT L pend wc _ (fun _ => 0) 0 hp hJ0 hs0 (Or.inl rfl) (Int.le_refl 0) (by decide) h7
  have hE0 : ET t wm (z_up (z_up wm 11 0 26 0) 11 0 23 0) := ET_m (mF_sub fz (by decide) (by decide))
  have hM : M_tested (d' + 8) wm = Gf d' 1 (z_up (z_up wm 11 0 26 0) 11 0 23 0) := by rw [e_M_tested, tested_G]
  rw [hM]
  rcases p3 with ⟨M, v1, y1, y2, y3, y4, y5, y6, y7⟩ | ⟨f, v1, y1, y2, y3, y4⟩
  · rcases y7 with ⟨-, k⟩ | ⟨k, -⟩ | ⟨k, -⟩
    · exact ⟨w1, 1, v1, p1, k, p2, ET_tr hE0 y1, Or.inl ⟨rfl, y2, M, y3, y4, y5⟩⟩
    · omega
    · omega
  · exact ⟨w1, 0, v1, p1, y1, p2, ET_tr hE0 y2, Or.inr ⟨rfl, f, y3, y4⟩⟩
end
