theorem NG_o {w0 wc wm wm' : zW} {i : Int} (h : NG w0 i wc wm) (h71 : wm' 71 = wm 71) : NG w0 i wc wm' := by
  refine ⟨h.1, ?_⟩
  have h2 := h.2
  unfold wtM at *
  rw [h71]
  exact h2
theorem up11 {wm : zW} {s v : Int} {c : Nat} (h : c ≠ 11) : (z_up wm 11 0 s v) c = wm c := by
  funext a b
  exact up_c h
theorem n_sg5 {d d' : Nat} {x y : Int} {w0 v0 wc wm : zW} {i j K : Int} {Cs : List clau} (hE : NE w0 v0 i j Cs) (h : NB w0 v0 i Cs 1 K wc wm) (hK : K ≤ 1000) (hG : NG w0 i wc wm) (hm : 0 < wc 4 13 2) :
    ∃ st wc' wm', Odds_happens (d + 3) 13 5 x y wc = some (st, wc') ∧ M_signs (d' + 3) 71 0 8 x y (wm 11 0 35) wm = some (st, wm') ∧ wc' 3 = wc 3 ∧ wm' 11 0 49 = wm 11 0 49 ∧ wm' 11 0 46 = wm 11 0 46 ∧ mF [68, 69, 71, 72] [30] wm wm' ∧ NG w0 i wc' wm' ∧ ((st = 0 ∧ NB w0 v0 i Cs 1 K wc' wm') ∨ (st = 1 ∧ NB w0 v0 i Cs 0 (K + 1) wc' (z_up (z_up wm' 11 0 49 (wm' 11 0 49 - 1)) 11 0 35 0))) := by
  obtain ⟨h1, h2, h3, h4, h5⟩ := h.en hE
  have hO := h.odd hE hK hG.1
  obtain ⟨w1, p1, p2, p3, p4, p5, p6, p7, p8⟩ := s_happens (d := d) (o := 13) (kd := 5) (a := x) (b := y) (by decide) h1 hO (fun z => by omega)
  have hn := h.2.1
  obtain ⟨⟨n1, n2, n3⟩, ⟨n4, n5, n6⟩, n7, n8, n9⟩ := hn
  obtain ⟨v1, q1, q2, q3⟩ := m_sgn (d := d') (e := wm 11 0 35) (kd := 5) (x := x) (y := y) (w := wm) (Or.inr ⟨rfl, rfl⟩) h4.2.1 h4.2.2.1 h4.2.2.2.1.1 h4.2.2.2.2.1 h4.2.2.2.1.2 h4.2.2.2.2.2 (by rw [opw_e h5]; exact wO0_eq hG.1.w0 hG.2) (by decide) (by omega) (fun z => by omega)
  rw [aS_e h5, n7, aS_eqR hG.2] at q1
  rw [aW_e h5, n7] at q3
  rw [aS_e h3] at p1 p6 p7 p8
  rw [aW_e h3] at p5
  have hKF := aW_K (kd := 5) (a := x) (b := y) (e := wc 4 13 3) hE.1.1 (by omega) hG.1
  have fm := mF_mfk q2
  have fm' : mF [68, 69, 71, 72] [30] wm v1 := mF_sub fm (by decide) (by decide)
  have hst : aS w0 i j 5 x y (wc 4 13 3) (wc 19 13) = 0 ∨ aS w0 i j 5 x y (wc 4 13 3) (wc 19 13) = 1 := by
    unfold aS
    rw [if_neg (by decide)]
    by_cases z : 0 < sm (wgt (wc 19 13) (eCh w0 i j 5 x y (wc 4 13 3))) 576
    · rw [if_pos z]; exact Or.inr rfl
    · rw [if_neg z]; exact Or.inl rfl
  have q1' : M_signs (d' + 3) 71 0 8 x y (wc 4 13 3) wm = some (aS w0 i j 5 x y (wc 4 13 3) (wc 19 13), v1) := q1
  refine ⟨_, w1, v1, p1, by rw [n7]; exact q1', p2 3 (by decide), fm.2 49 (by decide), fm.2 46 (by decide), fm', ⟨wOK_eq hKF p5, eqR_tr (eqR_tr q3 (aW_eqR hG.2)) (eqR_sy p5)⟩, ?_⟩
  rcases hst with q | q
  · rw [q] at p6 p7 p8
    refine Or.inl ⟨q, NB_n p2 p3 p4.2.2.2.2.2.2.2.2.2 (mF_sub fm (by decide) (by decide)) ?_ h⟩
    have f1 : aN 5 0 (wc 4 13 1) = wc 4 13 1 := by unfold aN; rw [if_neg (by decide)]
    have f2 : aM 5 0 (wc 4 13 2) = wc 4 13 2 := by unfold aM; rw [if_neg (by decide)]
    have f3 : aE 5 0 (wc 4 13 3) = wc 4 13 3 := by unfold aE; rw [if_neg (by decide), if_neg (by decide)]
    unfold NN
    rw [fm.2 48 (by decide), fm.2 49 (by decide), fm.2 35 (by decide), p6, p7, p8, f1, f2, f3]
    exact ⟨⟨n1, n2, n3⟩, ⟨n4, n5, n6⟩, n7, n8, n9⟩
  · rw [q] at p6 p7 p8
    refine Or.inr ⟨q, NB_n p2 p3 p4.2.2.2.2.2.2.2.2.2 (mF_tr (mF_sub fm (by decide) (by decide)) (mF_tr (mF_11 (by decide)) (mF_11 (by decide)))) ?_ h⟩
    have f1 : aN 5 1 (wc 4 13 1) = wc 4 13 1 + 1 := by unfold aN; rw [if_pos (by decide)]
    have f2 : aM 5 1 (wc 4 13 2) = wc 4 13 2 - 1 := by unfold aM; rw [if_pos (by decide)]
    have f3 : aE 5 1 (wc 4 13 3) = 0 := by unfold aE; rw [if_neg (by decide), if_pos (by decide)]
    unfold NN
    rw [up_s (by decide), up_s (by decide), fm.2 48 (by decide), up_s (by decide), up_h, fm.2 49 (by decide), up_h, p6, p7, p8, f1, f2, f3]
    omega
theorem n_sit5 {d' : Nat} {l1 l4 : Int} {wm : zW} (he : 0 ≤ wm 11 0 35) : M_nightGoes_5 (d' + 5) l1 l4 5 wm = M_nightGoes_13 (d' + 5) l1 l4 5 (z_up wm 11 0 35 (min 30 (wm 11 0 35 + 1))) := by
  rw [e_M_nightGoes_5, if_pos rfl, e_M_nightGoes_8, e_M_does, if_pos rfl, bnd]
  dsimp only
  rw [if_neg (by decide), if_pos (by decide), m_later he, bnd]
theorem n_strike {d d' : Nat} {l1 l4 : Int} {w0 v0 wc wm : zW} {i j K : Int} {Cs : List clau} (hE : NE w0 v0 i j Cs) (h : NB w0 v0 i Cs 1 K wc wm) (hK : K ≤ 1000) (hG : NG w0 i wc wm) :
    ∃ wc' wm', Night_strikeOne (d + 4) wc = some (0, wc') ∧ (Option.bind (M_strikes (d' + 4) wm) fun r2 => if r2.1 = 0 then M_nightGoes_5 (d' + 5) l1 l4 5 r2.2 else M_nightGoes_13 (d' + 5) l1 l4 5 r2.2) = M_nightGoes_13 (d' + 5) l1 l4 5 wm' ∧ wc' 3 0 5 = wc 3 0 5 ∧ NB w0 v0 i Cs 0 (K + 1) wc' wm' ∧ NG w0 i wc' wm' := by
  obtain ⟨h1, h2, h3, h4, h5⟩ := h.en hE
  have hn := h.2.1
  obtain ⟨⟨n1, n2, n3⟩, ⟨n4, n5, n6⟩, n7, n8, n9⟩ := hn
  have hp := h.2.2.1
  obtain ⟨p1, ⟨p2, p3, p4, p5⟩, ⟨p6, p6'⟩, p7, p8⟩ := hp
  have h7 : wc 7 0 0 = i := h1.1.1
  have hi : wm 70 0 0 = i := h4.2.2.2.1.1
  have sit : ∀ (c1 m1 : zW), c1 3 = wc 3 → NB w0 v0 i Cs 1 K c1 m1 → NG w0 i c1 m1 → ∃ wc' wm', ((Odds_happens (d + 3) 13 4 0 0 c1).bind fun r2 => some ((0 : Int), r2.2)) = some (0, wc') ∧ M_nightGoes_5 (d' + 5) l1 l4 5 m1 = M_nightGoes_13 (d' + 5) l1 l4 5 wm' ∧ wc' 3 0 5 = wc 3 0 5 ∧ NB w0 v0 i Cs 0 (K + 1) wc' wm' ∧ NG w0 i wc' wm' := fun c1 m1 h3' hb hg => by
    obtain ⟨wc', u1, u2, u3, u4⟩ := n_hap (d := d) (kd := 4) hE hb hK hg.1 (by
      unfold aW
      rw [if_neg (by decide), if_neg (by decide), if_pos rfl]
      exact hg.2) (by decide)
    have he := hb.2.1.2.2
    exact ⟨wc', _, by rw [u1, bnd], n_sit5 (by omega), by rw [u2, h3'], u3, u4⟩
  rw [e_Night_strikeOne, gd_t ⟨p3, p4⟩, gd_t ⟨p3, p4⟩, e_M_strikes]
  by_cases z : wc 4 13 2 ≤ 0
  · obtain ⟨wc', wm', u1, u2, u3, u4⟩ := sit wc wm rfl h hG
    refine ⟨wc', wm', ?_, ?_, u3, u4⟩
    · rw [if_pos z]
      exact u1
    · rw [if_pos (show wm 11 0 49 = 0 by omega), gd_t (by decide), bnd]
      dsimp only
      rw [if_pos rfl]
      exact u2
  · have e35 : w0 35 = wc 35 := (h3 35 (by decide)).symm
    obtain ⟨⟨c1, c2, c3, c4, c5, c6⟩, -⟩ := h4.2.1.2.2.2.2.1 (wc 3 0 3) p3 p4
    have d2 : wm 64 0 (144 * (6 * i + 2) + wc 3 0 3) = wc 35 i (wc 3 0 3) := by
      rw [h3 35 (by decide), ← h5 35 (by decide)]
      exact c3.symm
    have d0 : wm 64 0 (144 * (6 * i + 0) + wc 3 0 3) = wc 33 i (wc 3 0 3) := by
      rw [h3 33 (by decide), ← h5 33 (by decide)]
      exact c1.symm
    obtain ⟨st, w1, v1, u1, u2, u3, u4, u5, u6, u7, u8⟩ := n_sg5 (d := d) (d' := d') (x := wc 35 i (wc 3 0 3)) (y := wc 33 i (wc 3 0 3)) hE h hK hG (by omega)
    have hM : ∀ (T : Int × zW → Option (Int × zW)), (Option.bind (if wm 11 0 49 = 0 then gd ((0 : Int) ≤ 0 ∧ (0 : Int) ≤ 1) (some (0, wm)) else (M_woodNow (d' + 3) wm).bind fun r1 => (M_at (d' + 3) r1.1 2 (r1.2 11 0 46) r1.2).bind fun r2 => (M_woodNow (d' + 3) r2.2).bind fun r3 => (M_at (d' + 3) r3.1 0 (r3.2 11 0 46) r3.2).bind fun r4 => (M_signs (d' + 3) 71 0 8 r2.1 r4.1 (r4.2 11 0 35) r4.2).bind fun r5 => if r5.1 = 0 then gd ((0 : Int) ≤ 0 ∧ (0 : Int) ≤ 1) (some (0, r5.2)) else gd (inI ((r5.2 11 0 49) - 1)) ((M_woodNow (d' + 3) (z_up (z_up r5.2 11 0 49 ((r5.2 11 0 49) - 1)) 11 0 35 0)).bind fun r6 => (M_at (d' + 3) r6.1 0 (r6.2 11 0 46) r6.2).bind fun r7 => gd ((0 : Int) ≤ 1 ∧ (1 : Int) ≤ 1) (some (1, z_up r7.2 11 0 53 r7.1)))) T) = if st = 0 then T (0, v1) else T (1, z_up (z_up (z_up v1 11 0 49 (v1 11 0 49 - 1)) 11 0 35 0) 11 0 53 (wc 33 i (wc 3 0 3))) := fun T => by
      rw [if_neg (by omega), m_woodNow, bnd]
      dsimp only
      rw [hi, p2, m_at h4.2.2.2.2.1 (by decide) ⟨p3, p4⟩, bnd]
      dsimp only
      rw [m_woodNow, bnd]
      dsimp only
      rw [hi, p2, m_at h4.2.2.2.2.1 (by decide) ⟨p3, p4⟩, bnd]
      dsimp only
      rw [d2, d0, u2, bnd]
      dsimp only
      by_cases y : st = 0
      · rw [if_pos y, if_pos y, gd_t (by decide), bnd]
      · have x70 : (z_up (z_up v1 11 0 49 (v1 11 0 49 - 1)) 11 0 35 0) 70 0 0 = i := by
          rw [up11 (by decide), up11 (by decide), u6.1 70 (by decide) (by decide)]
          exact hi
        have x46 : (z_up (z_up v1 11 0 49 (v1 11 0 49 - 1)) 11 0 35 0) 11 0 46 = wc 3 0 3 := by
          rw [up_s (by decide), up_s (by decide), u5, p2]
        have x64 : (z_up (z_up v1 11 0 49 (v1 11 0 49 - 1)) 11 0 35 0) 64 = wm 64 := by
          rw [up11 (by decide), up11 (by decide), u6.1 64 (by decide) (by decide)]
        rw [if_neg y, if_neg y, gd_t (by omega), m_woodNow, bnd]
        dsimp only
        rw [x70, x46, m_at h4.2.2.2.2.1 (by decide) ⟨p3, p4⟩, bnd]
        dsimp only
        rw [x64, d0, gd_t (by decide), bnd]
    rw [hM, if_neg z, h7, u1, bnd]
    dsimp only
    rcases u8 with ⟨y, hb⟩ | ⟨y, hb⟩
    · obtain ⟨wc', wm', t1, t2, t3, t4⟩ := sit w1 v1 u3 hb u7
      refine ⟨wc', wm', ?_, ?_, t3, t4⟩
      · rw [if_pos y]
        exact t1
      · rw [if_pos y, if_pos rfl]
        exact t2
    · have hy : ¬ st = 0 := by omega
      refine ⟨_, _, by rw [if_neg hy, gd_t (by decide)], by rw [if_neg hy, if_neg (by decide)], by rw [up_c (by decide), u3], NB_w (fr_up (by decide)) (mF_11 (by decide)) ?_ hb, ?_⟩
      · obtain ⟨x1, x2, x3, x4⟩ := hb.2.2.2
        exact ⟨(up_s (by decide)).trans (x1.trans (up_s (by decide)).symm), (up_s (by decide)).trans (x2.trans (up_s (by decide)).symm), (up_s (by decide)).trans (x3.trans (up_s (by decide)).symm), by rw [up_h, up_h]⟩
      · have hg : NG w0 i w1 (z_up (z_up (z_up v1 11 0 49 (v1 11 0 49 - 1)) 11 0 35 0) 11 0 53 (wc 33 i (wc 3 0 3))) := NG_o u7 (by rw [up11 (by decide), up11 (by decide), up11 (by decide)])
        unfold NG at *
        have : (z_up w1 18 0 9 (wc 33 i (wc 3 0 3))) 19 = w1 19 := by funext a b; exact up_c (by decide)
        rw [this]
        exact hg
