/-! THE NIGHTS: one relation of both runs -/
abbrev nC : List Nat := [3, 4, 17, 18, 19, 24, 25, 26, 27, 28]
abbrev nM : List Nat := [68, 69, 71, 72]
abbrev nT : List Int := [30, 35, 43, 44, 45, 46, 47, 48, 49, 50, 51, 52, 53]
def NE (w0 v0 : zW) (i j : Int) (Cs : List clau) : Prop := ENV w0 i j Cs ∧ ENV v0 i j Cs ∧ sameE w0 v0
def NK (w0 v0 : zW) (i : Int) (Cs : List clau) (wc wm : zW) : Prop := z_fr nC w0 wc ∧ (∀ o, o ≠ 13 → wc 4 o = w0 4 o ∧ wc 19 o = w0 19 o) ∧ mF nM nT v0 wm ∧ RC wc i Cs ∧ ∀ s, 7 ≤ s → wc 3 0 s = w0 3 0 s
def NG (w0 : zW) (i : Int) (wc wm : zW) : Prop := wOK (opw w0 i) (wc 19 13) ∧ eqR (wtM wm 71 0) (wc 19 13)
def NN (q K : Int) (wc wm : zW) : Prop := (wm 11 0 48 = wc 4 13 1 + q ∧ 0 ≤ wc 4 13 1 ∧ wc 4 13 1 ≤ K) ∧ (wm 11 0 49 = wc 4 13 2 ∧ 0 ≤ wc 4 13 2 ∧ wc 4 13 2 ≤ 9) ∧ wm 11 0 35 = wc 4 13 3 ∧ 0 ≤ wc 4 13 3 ∧ wc 4 13 3 ≤ 30
def NP (w0 : zW) (i : Int) (wc wm : zW) : Prop := (wm 11 0 43 = wc 3 0 2 ∧ 0 ≤ wc 3 0 2 ∧ wc 3 0 2 < 2147483648) ∧ (wm 11 0 46 = wc 3 0 3 ∧ 0 ≤ wc 3 0 3 ∧ wc 3 0 3 < 144 ∧ opw w0 i (wc 3 0 3)) ∧ (wm 11 0 47 = wc 3 0 4 ∧ 0 ≤ wc 3 0 4 ∧ wc 3 0 4 < 4) ∧ wm 11 0 45 = wc 3 0 5 ∧ wm 11 0 44 = wc 3 0 6 ∧ 0 ≤ wc 3 0 6 ∧ wc 3 0 6 ≤ 2
def NW (wc wm : zW) : Prop := wm 11 0 50 = wc 18 0 3 ∧ wm 11 0 51 = wc 18 0 4 ∧ wm 11 0 52 = wc 18 0 5 ∧ wm 11 0 53 = wc 18 0 9
def NB (w0 v0 : zW) (i : Int) (Cs : List clau) (q K : Int) (wc wm : zW) : Prop := NK w0 v0 i Cs wc wm ∧ NN q K wc wm ∧ NP w0 i wc wm ∧ NW wc wm
theorem NB_c {w0 v0 wc wc' wm : zW} {i q K : Int} {Cs : List clau} (hf : z_fr [17, 18, 26, 27, 28] wc wc') (hR : RC wc' i Cs) (h18 : ∀ s, 3 ≤ s → s ≠ 6 → s ≠ 7 → s ≠ 8 → wc' 18 0 s = wc 18 0 s) (h : NB w0 v0 i Cs q K wc wm) : NB w0 v0 i Cs q K wc' wm := by
  obtain ⟨⟨k1, k2, k3, k4, k5⟩, n, p, x1, x2, x3, x4⟩ := h
  have e3 := hf 3 (by decide)
  have e4 := hf 4 (by decide)
  have e19 := hf 19 (by decide)
  unfold NB NK NN NP NW at *
  rw [e3, e4, e19, h18 3 (by decide) (by decide) (by decide) (by decide), h18 4 (by decide) (by decide) (by decide) (by decide), h18 5 (by decide) (by decide) (by decide) (by decide), h18 9 (by decide) (by decide) (by decide) (by decide)]
  exact ⟨⟨fr_tr k1 (fr_sub hf (by decide)), k2, k3, hR, k5⟩, n, p, x1, x2, x3, x4⟩
theorem NB_m {w0 v0 wc wm wm' : zW} {i q K : Int} {Cs : List clau} (hf : mF [68, 69, 71, 72] [30] wm wm') (h : NB w0 v0 i Cs q K wc wm) : NB w0 v0 i Cs q K wc wm' := by
  obtain ⟨⟨k1, k2, k3, k4, k5⟩, n, p, x⟩ := h
  have e : ∀ s, s ∉ [(30 : Int)] → wm' 11 0 s = wm 11 0 s := hf.2
  unfold NB NK NN NP NW at *
  rw [e 48 (by decide), e 49 (by decide), e 35 (by decide), e 43 (by decide), e 44 (by decide), e 45 (by decide), e 46 (by decide), e 47 (by decide), e 50 (by decide), e 51 (by decide), e 52 (by decide), e 53 (by decide)]
  exact ⟨⟨k1, k2, mF_tr k3 (mF_sub hf (by decide) (by decide)), k4, k5⟩, n, p, x⟩
theorem NB_p {w0 v0 wc wc' wm wm' : zW} {i q K : Int} {Cs : List clau} (hf : z_fr [3] wc wc') (h7 : ∀ s, 7 ≤ s → wc' 3 0 s = wc 3 0 s) (hm : mF [] [43, 44, 45, 46, 47] wm wm') (hp : NP w0 i wc' wm') (h : NB w0 v0 i Cs q K wc wm) : NB w0 v0 i Cs q K wc' wm' := by
  obtain ⟨⟨k1, k2, k3, k4, k5⟩, n, p, x⟩ := h
  have e : ∀ s, s ∉ [(43 : Int), 44, 45, 46, 47] → wm' 11 0 s = wm 11 0 s := hm.2
  refine ⟨⟨fr_tr k1 (fr_sub hf (by decide)), ?_, mF_tr k3 (mF_sub hm (by decide) (by decide)), RC_fr3 (fun c hc => hf c (by revert hc; revert c; decide)) k4, fun s hs => (h7 s hs).trans (k5 s hs)⟩, ?_, hp, ?_⟩
  · rw [hf 4 (by decide), hf 19 (by decide)]
    exact k2
  · unfold NN at *
    rw [hf 4 (by decide), e 48 (by decide), e 49 (by decide), e 35 (by decide)]
    exact n
  · unfold NW at *
    rw [hf 18 (by decide), e 50 (by decide), e 51 (by decide), e 52 (by decide), e 53 (by decide)]
    exact x
theorem NB_w {w0 v0 wc wc' wm wm' : zW} {i q K : Int} {Cs : List clau} (hf : z_fr [18] wc wc') (hm : mF [] [50, 51, 52, 53] wm wm') (hw : NW wc' wm') (h : NB w0 v0 i Cs q K wc wm) : NB w0 v0 i Cs q K wc' wm' := by
  obtain ⟨⟨k1, k2, k3, k4, k5⟩, n, p, x⟩ := h
  have e : ∀ s, s ∉ [(50 : Int), 51, 52, 53] → wm' 11 0 s = wm 11 0 s := hm.2
  refine ⟨⟨fr_tr k1 (fr_sub hf (by decide)), ?_, mF_tr k3 (mF_sub hm (by decide) (by decide)), RC_fr3 (fun c hc => hf c (by revert hc; revert c; decide)) k4, ?_⟩, ?_, ?_, hw⟩
  · rw [hf 4 (by decide), hf 19 (by decide)]
    exact k2
  · rw [hf 3 (by decide)]
    exact k5
  · unfold NN at *
    rw [hf 4 (by decide), e 48 (by decide), e 49 (by decide), e 35 (by decide)]
    exact n
  · unfold NP at *
    rw [hf 3 (by decide), e 43 (by decide), e 44 (by decide), e 45 (by decide), e 46 (by decide), e 47 (by decide)]
    exact p
theorem NB_n {w0 v0 wc wc' wm wm' : zW} {i q K q' K' : Int} {Cs : List clau} (hf : z_fr aC wc wc') (ho : ∀ o, o ≠ 13 → wc' 4 o = wc 4 o ∧ wc' 19 o = wc 19 o) (hR : RC wc' i Cs) (hm : mF [68, 69, 71, 72] [30, 35, 48, 49] wm wm') (hn : NN q' K' wc' wm') (h : NB w0 v0 i Cs q K wc wm) : NB w0 v0 i Cs q' K' wc' wm' := by
  obtain ⟨⟨k1, k2, k3, k4, k5⟩, n, p, x⟩ := h
  have e : ∀ s, s ∉ [(30 : Int), 35, 48, 49] → wm' 11 0 s = wm 11 0 s := hm.2
  refine ⟨⟨fr_tr k1 (fr_sub hf (by decide)), fun o hq => ⟨(ho o hq).1.trans (k2 o hq).1, (ho o hq).2.trans (k2 o hq).2⟩, mF_tr k3 (mF_sub hm (by decide) (by decide)), hR, ?_⟩, hn, ?_, ?_⟩
  · rw [hf 3 (by decide)]
    exact k5
  · unfold NP at *
    rw [hf 3 (by decide), e 43 (by decide), e 44 (by decide), e 45 (by decide), e 46 (by decide), e 47 (by decide)]
    exact p
  · unfold NW at *
    rw [hf 18 (by decide), e 50 (by decide), e 51 (by decide), e 52 (by decide), e 53 (by decide)]
    exact x
theorem NB.en {w0 v0 wc wm : zW} {i j q K : Int} {Cs : List clau} (hE : NE w0 v0 i j Cs) (h : NB w0 v0 i Cs q K wc wm) : EN wc i j Cs ∧ RW wc i ∧ sameE w0 wc ∧ ENV wm i j Cs ∧ sameE w0 wm := by
  obtain ⟨⟨k1, k2, k3, k4, k5⟩, -⟩ := h
  obtain ⟨e1, e2, e3⟩ := hE
  have s1 : sameE w0 wc := sameE_fr k1 (by decide)
  exact ⟨EN_e s1 k4 e1.1, RW_fr (fun c hc => k1 c (by revert hc; revert c; decide)) e1.2.1, s1, ENV_m k3 (by decide) (by decide) e2, sameE_tr e3 (sameE_m k3 (by decide))⟩
theorem NB.odd {w0 v0 wc wm : zW} {i j q K : Int} {Cs : List clau} (hE : NE w0 v0 i j Cs) (h : NB w0 v0 i Cs q K wc wm) (hK : K ≤ 1000) (hG : wOK (opw w0 i) (wc 19 13)) : OD wc i 13 := by
  have hs := (h.en hE).2.2.1
  obtain ⟨-, n, -⟩ := h
  obtain ⟨n1, n2, n3⟩ := n
  refine ⟨?_, by omega, by omega, n3.2⟩
  rw [opw_e hs]
  exact hG.w0
theorem n_draw {d d' : Nat} {w0 v0 wc wm : zW} {i q K : Int} {Cs : List clau} (h : NB w0 v0 i Cs q K wc wm) : ∃ r x, Night_draw d wc = some (r, z_up wc 3 0 2 x) ∧ M_draw d' wm = some (r, z_up wm 11 0 43 x) ∧ (0 ≤ r ∧ r < 32768) ∧ NB w0 v0 i Cs q K (z_up wc 3 0 2 x) (z_up wm 11 0 43 x) := by
  have hp := h.2.2.1
  obtain ⟨⟨p1, p2, p3⟩, p4, p5, p6, p7⟩ := hp
  generalize hx : (wc 3 0 2 * 1103515245 + 12345) % 2147483648 = x
  have hxb : 0 ≤ x ∧ x < 2147483648 := by omega
  refine ⟨x / 65536, x, ?_, ?_, by omega, NB_p (fr_up (by decide)) (fun s hs => up_s (by omega)) (mF_11 (by decide)) ?_ h⟩
  · rw [e_Night_draw, hx]
    simp (disch := omega) only [gd_t]
  · rw [e_M_draw, p1, hx]
    simp (disch := omega) only [gd_t]
  · unfold NP
    rw [up_h, up_h, up_s (by decide), up_s (by decide), up_s (by decide), up_s (by decide), up_s (by decide), up_s (by decide), up_s (by decide), up_s (by decide)]
    exact ⟨⟨rfl, hxb⟩, p4, p5, p6, p7⟩
/-- the model's act -/
theorem n_act {d' : Nat} {kd : Int} {w0 v0 wc wm : zW} {i j q K : Int} {Cs : List clau} (hE : NE w0 v0 i j Cs) (h : NB w0 v0 i Cs q K wc wm) (hG : NG w0 i wc wm) (hk : 0 ≤ kd ∧ kd ≤ 4) :
    ∃ wm', M_does (d' + 4) 71 0 kd (wm 11 0 35) wm = some (0, wm') ∧ mF [68, 69, 71, 72] [30] wm wm' ∧ eqR (wtM wm' 71 0) (aW w0 i j Cs kd 0 0 (wc 4 13 3) (wc 19 13)) := by
  obtain ⟨h1, h2, h3, h4, h5⟩ := h.en hE
  obtain ⟨w1, p1, p2, p3⟩ := m_act (d := d') (e := wm 11 0 35) (kd := kd) (x := 0) (y := 0) (w := wm) (Or.inr ⟨rfl, rfl⟩) h4.2.1 h4.2.2.1 h4.2.2.2.1.1 h4.2.2.2.2.1 h4.2.2.2.1.2 h4.2.2.2.2.2 (by rw [opw_e h5]; exact wO0_eq hG.1.w0 hG.2) hk
  rw [aW_e h5, h.2.1.2.2.1] at p3
  exact ⟨w1, p1, mF_sub (mF_mfk p2) (by decide) (by decide), eqR_tr p3 (aW_eqR hG.2)⟩
/-- the class's act, and the eyes -/
theorem n_hap {d : Nat} {kd : Int} {w0 v0 wc wm : zW} {i j K : Int} {Cs : List clau} (hE : NE w0 v0 i j Cs) (h : NB w0 v0 i Cs 1 K wc wm) (hK : K ≤ 1000) (hG : wOK (opw w0 i) (wc 19 13)) (hF : eqR (wtM wm 71 0) (aW w0 i j Cs kd 0 0 (wc 4 13 3) (wc 19 13))) (hk : 0 ≤ kd ∧ kd ≤ 4) :
    ∃ wc', Odds_happens (d + 3) 13 kd 0 0 wc = some (1, wc') ∧ wc' 3 = wc 3 ∧ NB w0 v0 i Cs 0 (K + 1) wc' (z_up wm 11 0 35 (min 30 (wm 11 0 35 + 1))) ∧ NG w0 i wc' (z_up wm 11 0 35 (min 30 (wm 11 0 35 + 1))) := by
  obtain ⟨h1, h2, h3, h4, h5⟩ := h.en hE
  have hO := h.odd hE hK hG
  obtain ⟨w1, p1, p2, p3, p4, p5, p6, p7, p8⟩ := s_happens (d := d) (o := 13) (kd := kd) (a := 0) (b := 0) (by omega) h1 hO (fun z => by omega)
  have hs1 : aS wc i j kd 0 0 (wc 4 13 3) (wc 19 13) = 1 := by unfold aS; rw [if_pos hk.2]
  have f1 : aN kd 1 (wc 4 13 1) = wc 4 13 1 + 1 := by unfold aN; rw [if_pos ⟨by omega, rfl⟩]
  have f2 : aM kd 1 (wc 4 13 2) = wc 4 13 2 := by unfold aM; rw [if_neg (by omega)]
  have f3 : aE kd 1 (wc 4 13 3) = min 30 (wc 4 13 3 + 1) := by unfold aE; rw [if_pos hk.2]
  rw [hs1] at p1 p6 p7 p8
  rw [f1] at p6
  rw [f2] at p7
  rw [f3] at p8
  rw [aW_e h3] at p5
  have hn := h.2.1
  obtain ⟨⟨n1, n2, n3⟩, ⟨n4, n5, n6⟩, n7, n8, n9⟩ := hn
  have hKF := aW_K (kd := kd) (a := 0) (b := 0) (e := wc 4 13 3) hE.1.1 (by omega) hG
  refine ⟨w1, p1, p2 3 (by decide), NB_n p2 p3 p4.2.2.2.2.2.2.2.2.2 (mF_11 (by decide)) ?_ h, wOK_eq hKF p5, ?_⟩
  · unfold NN
    rw [up_s (by decide), up_s (by decide), up_h, p6, p7, p8]
    omega
  · refine eqR_tr ?_ (eqR_sy p5)
    intro k k0 k1
    rw [← hF k k0 k1]
    exact up_c (by decide)
/-- a sign, in both -/
theorem n_sgn {d d' : Nat} {kd x y : Int} {w0 v0 wc wm : zW} {i j K : Int} {Cs : List clau} (hE : NE w0 v0 i j Cs) (h : NB w0 v0 i Cs 0 K wc wm) (hK : K ≤ 1000) (hG : NG w0 i wc wm) (hk : 6 ≤ kd ∧ kd ≤ 8) (hs : kd = 8 → (0 ≤ x ∧ x < w0 9 i 3) ∧ 0 ≤ y ∧ y ≤ 40) :
    ∃ st wc' wm', Odds_happens (d + 3) 13 kd x y wc = some (st, wc') ∧ M_signs (d' + 3) 71 0 (mkd kd) x y (wm 11 0 35) wm = some (st, wm') ∧ wc' 3 = wc 3 ∧ wc' 18 = wc 18 ∧ NB w0 v0 i Cs 0 K wc' wm' ∧ NG w0 i wc' wm' := by
  obtain ⟨h1, h2, h3, h4, h5⟩ := h.en hE
  have hO := h.odd hE hK hG.1
  have r9 : wc 9 i 3 = w0 9 i 3 := by rw [h3 9 (by decide)]
  have r9m : wm 9 i 3 = w0 9 i 3 := by rw [h5 9 (by decide)]
  obtain ⟨w1, p1, p2, p3, p4, p5, p6, p7, p8⟩ := s_happens (d := d) (o := 13) (kd := kd) (a := x) (b := y) (by omega) h1 hO (sgB_of h2 (fun z => by rw [r9]; exact hs z))
  have hn := h.2.1
  obtain ⟨⟨n1, n2, n3⟩, ⟨n4, n5, n6⟩, n7, n8, n9⟩ := hn
  obtain ⟨v1, q1, q2, q3⟩ := m_sgn (d := d') (e := wm 11 0 35) (kd := kd) (x := x) (y := y) (w := wm) (Or.inr ⟨rfl, rfl⟩) h4.2.1 h4.2.2.1 h4.2.2.2.1.1 h4.2.2.2.2.1 h4.2.2.2.1.2 h4.2.2.2.2.2 (by rw [opw_e h5]; exact wO0_eq hG.1.w0 hG.2) (by omega) (by omega) (fun z => by rw [r9m]; exact hs z)
  rw [aS_e h5, n7, aS_eqR hG.2] at q1
  rw [aW_e h5, n7] at q3
  rw [aS_e h3] at p1 p6 p7 p8
  rw [aW_e h3] at p5
  have f1 : ∀ st n, aN kd st n = n := fun st n => by unfold aN; rw [if_neg (by omega)]
  have f2 : ∀ st n, aM kd st n = n := fun st n => by unfold aM; rw [if_neg (by omega)]
  have f3 : ∀ st n, aE kd st n = n := fun st n => by unfold aE; rw [if_neg (by omega), if_neg (by omega)]
  rw [f1] at p6
  rw [f2] at p7
  rw [f3] at p8
  have hKF := aW_K (kd := kd) (a := x) (b := y) (e := wc 4 13 3) hE.1.1 (by omega) hG.1
  have fm := mF_mfk q2
  refine ⟨_, w1, v1, p1, by rw [n7]; exact q1, p2 3 (by decide), p2 18 (by decide), NB_n p2 p3 p4.2.2.2.2.2.2.2.2.2 (mF_sub fm (by decide) (by decide)) ?_ h, wOK_eq hKF p5, eqR_tr (eqR_tr q3 (aW_eqR hG.2)) (eqR_sy p5)⟩
  unfold NN
  rw [fm.2 48 (by decide), fm.2 49 (by decide), fm.2 35 (by decide), p6, p7, p8]
  exact ⟨⟨n1, n2, n3⟩, ⟨n4, n5, n6⟩, n7, n8, n9⟩
