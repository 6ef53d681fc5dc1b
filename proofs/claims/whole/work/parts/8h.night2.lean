theorem NP_cw {w0 wc wm : zW} {i c l : Int} (hp : NP w0 i wc wm) (hc : 0 ≤ c ∧ c < 144) (ho : opw w0 i c) (hl : 0 ≤ l ∧ l < 4) : NP w0 i (z_up (z_up wc 3 0 3 c) 3 0 4 l) (z_up (z_up wm 11 0 46 c) 11 0 47 l) := by
  obtain ⟨p1, p2, p3, p4, p5⟩ := hp
  have e2 : (z_up (z_up wc 3 0 3 c) 3 0 4 l) 3 0 2 = wc 3 0 2 := by rw [up_s (by decide), up_s (by decide)]
  have e3 : (z_up (z_up wc 3 0 3 c) 3 0 4 l) 3 0 3 = c := by rw [up_s (by decide), up_h]
  have e4 : (z_up (z_up wc 3 0 3 c) 3 0 4 l) 3 0 4 = l := up_h
  have e5 : (z_up (z_up wc 3 0 3 c) 3 0 4 l) 3 0 5 = wc 3 0 5 := by rw [up_s (by decide), up_s (by decide)]
  have e6 : (z_up (z_up wc 3 0 3 c) 3 0 4 l) 3 0 6 = wc 3 0 6 := by rw [up_s (by decide), up_s (by decide)]
  have m3 : (z_up (z_up wm 11 0 46 c) 11 0 47 l) 11 0 43 = wm 11 0 43 := by rw [up_s (by decide), up_s (by decide)]
  have m4 : (z_up (z_up wm 11 0 46 c) 11 0 47 l) 11 0 44 = wm 11 0 44 := by rw [up_s (by decide), up_s (by decide)]
  have m5 : (z_up (z_up wm 11 0 46 c) 11 0 47 l) 11 0 45 = wm 11 0 45 := by rw [up_s (by decide), up_s (by decide)]
  have m6 : (z_up (z_up wm 11 0 46 c) 11 0 47 l) 11 0 46 = c := by rw [up_s (by decide), up_h]
  have m7 : (z_up (z_up wm 11 0 46 c) 11 0 47 l) 11 0 47 = l := up_h
  unfold NP
  rw [e2, e3, e4, e5, e6, m3, m4, m5, m6, m7]
  exact ⟨p1, ⟨rfl, hc.1, hc.2, ho⟩, ⟨rfl, hl⟩, p4, p5⟩
theorem n_go7 {d d' : Nat} {l : Int} {w0 v0 wc wm : zW} {i j q K : Int} {Cs : List clau} (hE : NE w0 v0 i j Cs) (h : NB w0 v0 i Cs q K wc wm) (hl : 0 ≤ l ∧ l < 4) :
    ∃ wc' wm', Night_goTruly_7 d l wc = some (0, wc') ∧ M_goesTruly_7 (d' + 3) l wm = some (0, wm') ∧ wc' 19 = wc 19 ∧ wc' 4 = wc 4 ∧ wm' 71 = wm 71 ∧ wc' 3 0 5 = wc 3 0 5 ∧ NB w0 v0 i Cs q K wc' wm' := by
  obtain ⟨h1, h2, h3, h4, h5⟩ := h.en hE
  have hp := h.2.2.1
  have hp0 := hp
  obtain ⟨p1, ⟨p2, p3, p4, p5⟩, p6, p7, p8⟩ := hp
  have h7 : wc 7 0 0 = i := h1.1.1
  have hi : wm 70 0 0 = i := h4.2.2.2.1.1
  have r39 : wc 39 = w0 39 := h3 39 (by decide)
  have hMS := h4.2.1.MS hi h4.2.2.2.2.1 h4.2.2.2.1.2 h4.2.2.2.2.2
  have hbe := m_beside (d := d') (c := wm 11 0 46) (v := l) hMS (by omega) hl
  have hnx := h4.2.1.nx (4 * wm 11 0 46 + l) (by omega) (by omega)
  rw [h5 39 (by decide)] at hnx
  rw [← hnx, p2] at hbe
  have hb := hE.1.2.1.nxB (4 * wc 3 0 3 + l) (by omega) (by omega)
  have hP := hE.1.2.1.nxP (4 * wc 3 0 3 + l) (by omega) (by omega)
  generalize hc : w0 39 i (4 * wc 3 0 3 + l) = c at *
  have hC : Night_goTruly_7 d l wc = if c = -1 then some (0, wc) else some (0, z_up (z_up wc 3 0 3 c) 3 0 4 l) := by
    rw [e_Night_goTruly_7, gd_t (by omega), gd_t (by omega), gd_t (by omega), h7, r39, Int.mul_comm (wc 3 0 3) 4, hc]
  have hM : M_goesTruly_7 (d' + 3) l wm = if 0 ≤ c then some (0, z_up (z_up wm 11 0 46 c) 11 0 47 l) else some (0, wm) := by
    rw [e_M_goesTruly_7, if_neg (show ¬ l = -1 by omega), m_woodNow, bnd]
    dsimp only
    rw [hi, p2, hbe, bnd]
    dsimp only
    rw [e_M_goesTruly_10]
  rw [hC, hM]
  by_cases z : c = -1
  · rw [if_pos z, if_neg (by omega)]
    exact ⟨wc, wm, rfl, rfl, rfl, rfl, rfl, rfl, h⟩
  · rw [if_neg z, if_pos (by omega)]
    refine ⟨_, _, rfl, rfl, ?_, ?_, ?_, by rw [up_s (by decide), up_s (by decide)], NB_p (fr_tr (fr_up (by decide)) (fr_up (by decide))) (fun s hs => by rw [up_s (by omega), up_s (by omega)]) (mF_tr (mF_11 (by decide)) (mF_11 (by decide))) (NP_cw hp0 (by omega) (hP z) hl) h⟩
    · funext a b
      rw [up_c (by decide), up_c (by decide)]
    · funext a b
      rw [up_c (by decide), up_c (by decide)]
    · funext a b
      rw [up_c (by decide), up_c (by decide)]
theorem n_goTruly {d d' : Nat} {w0 v0 wc wm : zW} {i j q K : Int} {Cs : List clau} (hE : NE w0 v0 i j Cs) (h : NB w0 v0 i Cs q K wc wm) :
    ∃ wc' wm', Night_goTruly (d + 3) wc = some (0, wc') ∧ M_goesTruly (d' + 4) wm = some (0, wm') ∧ wc' 19 = wc 19 ∧ wc' 4 = wc 4 ∧ wm' 71 = wm 71 ∧ wc' 3 0 5 = wc 3 0 5 ∧ NB w0 v0 i Cs q K wc' wm' := by
  obtain ⟨h1, h2, h3, h4, h5⟩ := h.en hE
  have hp := h.2.2.1
  obtain ⟨p1, ⟨p2, p3, p4, p5⟩, ⟨p6, p6'⟩, p7, p8⟩ := hp
  have hn := h.2.1
  obtain ⟨-, -, n7, n8, n9⟩ := hn
  obtain ⟨w1, r1, r2, r3, r4⟩ := s_ready (d := d) (e := wc 4 13 3) h1.1.1 h1.1.2 h1.2.1 h1.2.2.2.1 h1.2.2.2.2.1 h1.2.2.2.2.2.1 ⟨n8, n9⟩ h1.2.2.2.2.2.2.2.2.2
  have f1 : z_fr [17, 18, 26, 27, 28] wc w1 := fr_sub r2 (by decide)
  have hB1 : NB w0 v0 i Cs q K w1 wm := NB_c f1 r3 (fun s _ _ _ _ => by rw [r2 18 (by decide)]) h
  have x3 := r2 3 (by decide)
  have x4 := r2 4 (by decide)
  have x7 : w1 7 0 1 = j := by rw [r2 7 (by decide)]; exact h1.1.2
  have x2 : w1 2 = w0 2 := by rw [r2 2 (by decide)]; exact h3 2 (by decide)
  have s01 : sameE w0 w1 := sameE_tr h3 (sameE_fr r2 (by decide))
  obtain ⟨cn, hcn⟩ : ∃ n : Nat, wc 3 0 3 = n := ⟨(wc 3 0 3).toNat, by omega⟩
  have hA : w1 26 0 (wc 4 13 3 * 144 + wc 3 0 3) = cA w0 i (wc 4 13 3) Cs (wc 3 0 3) := by
    rw [hcn, r3 _ n8 n9 r4 cn (by omega) (by rw [opw_e s01, ← hcn]; exact p5), cA_e s01]
  have hAb : 0 ≤ cA w0 i (wc 4 13 3) Cs (wc 3 0 3) ∧ cA w0 i (wc 4 13 3) Cs (wc 3 0 3) ≤ 1000 := ahd_bd
  -- the model's step
  have hLm := h4.2.2.1
  have hi : wm 70 0 0 = i := h4.2.2.2.1.1
  obtain ⟨v1, t1, t2, t3⟩ := m_stepAt (d := d') (i := i) (j := j) (c := wm 11 0 46) (e := wm 11 0 35) (w := wm) (Cs := Cs) hi h4.2.2.2.2.1 h4.2.2.2.1.2 h4.2.2.2.2.2 (by omega) hLm.2.2.2.1 hLm.2.2.2.2.1 hLm.2.2.2.2.2
  have hmA : ahd (md wm i 0) (md wm i 2) (md wm i 3) (md wm i 4) Cs (wm 11 0 46) (wm 11 0 35) = cA w0 i (wc 4 13 3) Cs (wc 3 0 3) := by
    have := mA_eq (e := wm 11 0 35) (Cs := Cs) h4.2.1 (c := wm 11 0 46) (by omega) (by omega)
    unfold mA at this
    rw [this, cA_e h5, p2, n7]
  rw [hmA] at t1
  have fv : mF [68, 69, 71, 72] [30] wm v1 := ⟨fun c a b => t2.1 c b (fun z => a (by rw [z]; decide)) (fun z => a (by rw [z]; decide)) (fun z => a (by rw [z]; decide)), fun s hs => t2.2 s (fun z => hs (by rw [z]; decide))⟩
  have hB2 := NB_m fv hB1
  have hMS := MS_m (h4.2.1.MS hi h4.2.2.2.2.1 h4.2.2.2.1.2 h4.2.2.2.2.2) t2
  have hdr : v1 54 0 j = w0 2 j 1 := by
    rw [fv.1 54 (by decide) (by decide), hLm.2.1.1, h5 2 (by decide)]
  have t4 := m_driftBy (d := d' + 2) (a := cA w0 i (wc 4 13 3) Cs (wc 3 0 3)) hMS hAb hdr
  have t5 : drf (w0 2 j 1) (cA w0 i (wc 4 13 3) Cs (wc 3 0 3)) = min (w0 2 j 1) ((1000 - cA w0 i (wc 4 13 3) Cs (wc 3 0 3)) / 2) := rfl
  have hlw : 0 ≤ w0 2 j 1 ∧ w0 2 j 1 ≤ 500 := hE.1.1.2.2.1.1
  obtain ⟨r, x, u1, u2, u3, hB3⟩ := n_draw (d := d + 2) (d' := d' + 3) hB2
  have z71 : (z_up v1 11 0 43 x) 71 = wm 71 := by
    have : (z_up v1 11 0 43 x) 71 = v1 71 := by funext a b; exact up_c (by decide)
    rw [this]
    exact t2.1 71 (by decide) (by decide) (by decide) (by decide)
  have y19 : (z_up w1 3 0 2 x) 19 = wc 19 := by
    have : (z_up w1 3 0 2 x) 19 = w1 19 := by funext a b; exact up_c (by decide)
    rw [this]
    exact r2 19 (by decide)
  have y4 : (z_up w1 3 0 2 x) 4 = wc 4 := by
    have : (z_up w1 3 0 2 x) 4 = w1 4 := by funext a b; exact up_c (by decide)
    rw [this]
    exact r2 4 (by decide)
  have y5 : (z_up w1 3 0 2 x) 3 0 5 = wc 3 0 5 := by rw [up_s (by decide), x3]
  have yw : (z_up w1 3 0 2 x) 3 0 4 = wc 3 0 4 := by rw [up_s (by decide), x3]
  have zw : (z_up v1 11 0 43 x) 11 0 47 = wc 3 0 4 := by rw [up_s (by decide), t2.2 47 (by decide), p6]
  rw [t5] at t4
  generalize hAA : cA w0 i (wc 4 13 3) Cs (wc 3 0 3) = A at *
  generalize hSS : min (w0 2 j 1) ((1000 - A) / 2) = S at *
  have hSb : 0 ≤ S ∧ S ≤ 500 := by omega
  have key : ∀ l, 0 ≤ l → l < 4 → ∃ wc' wm', Night_goTruly_7 (d + 3) l (z_up w1 3 0 2 x) = some (0, wc') ∧ M_goesTruly_7 (d' + 4) l (z_up v1 11 0 43 x) = some (0, wm') ∧ wc' 19 = wc 19 ∧ wc' 4 = wc 4 ∧ wm' 71 = wm 71 ∧ wc' 3 0 5 = wc 3 0 5 ∧ NB w0 v0 i Cs q K wc' wm' := fun l l0 l1 => by
    obtain ⟨a1, a2, b1, b2, b3, b4, b5, b7, b6⟩ := n_go7 (d := d + 3) (d' := d' + 1) hE hB3 ⟨l0, l1⟩
    exact ⟨a1, a2, b1, b2, b3.trans y19, b4.trans y4, b5.trans z71, b7.trans y5, b6⟩
  rw [e_Night_goTruly, r1, bnd]
  dsimp only
  rw [x3, x4, s_aheadAt ⟨p3, p4⟩ ⟨n8, n9⟩, bnd, hA]
  dsimp only
  rw [s_asideBy hAb, bnd, x7, x2, hSS]
  dsimp only
  rw [u1, bnd]
  dsimp only
  rw [gd_t (by omega), gd_t (by omega), gd_t (by omega), e_M_goesTruly, t1, bnd]
  simp only [yw]
  have t4' : M_driftBy (d' + 3) A v1 = some (S, v1) := t4
  rw [t4', bnd]
  dsimp only
  rw [u2, bnd]
  dsimp only
  rw [gd_t (show 0 ≤ r ∧ (0 : Int) < 1000 by omega)]
  simp only [zw]
  by_cases g1 : r % 1000 < A
  · rw [if_pos (by omega), if_pos g1, if_neg (by omega)]
    exact key _ p6'.1 p6'.2
  · rw [if_pos (show A ≤ r % 1000 by omega)]
    by_cases g2 : A + S ≤ r % 1000
    · by_cases g3 : A + 2 * S ≤ r % 1000
      · rw [if_neg (by omega), gd_t (by omega), if_pos g2, gd_t (by omega), gd_t (by omega), if_pos g3, e_M_goesTruly_7, if_pos rfl, e_M_goesTruly_10, if_neg (by omega)]
        exact ⟨_, _, rfl, rfl, y19, y4, z71, y5, hB3⟩
      · rw [if_pos (by omega), if_neg g1, gd_t (by omega), if_pos g2, gd_t (by omega), gd_t (by omega), gd_t (by omega), if_pos g2, gd_t (by omega), gd_t (by omega), if_neg g3, gd_t (by omega), gd_t (by omega)]
        exact key _ (by omega) (by omega)
    · rw [if_pos (by omega), if_neg g1, gd_t (by omega), if_neg g2, gd_t (by omega), gd_t (by omega), gd_t (by omega), if_neg g2, gd_t (by omega), gd_t (by omega)]
      exact key _ (by omega) (by omega)
