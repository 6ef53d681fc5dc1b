theorem wOK_pos {P : Int → Prop} {F : Int → Int} (h : wOK P F) : ∃ c : Nat, c < 144 ∧ 0 < od F c := by
  have h3 := h.2.2.1
  rw [tot_od] at h3
  refine Classical.byContradiction fun q => ?_
  have : sm (od F) 144 ≤ sm (fun _ => 0) 144 := sm_le fun k hk => by
    refine Int.not_lt.mp fun z => q ⟨k, hk, z⟩
  rw [sm_zero] at this
  omega
theorem firstV_A {W : Int → Int} : ∀ Cs : List clau, (∀ C ∈ Cs, ∃ a, C.1 = [(0, a)] ∧ 0 ≤ a ∧ a ≤ 5) → 0 ≤ firstV W 4 Cs ∧ firstV W 4 Cs ≤ 5 := by
  intro Cs
  induction Cs with
  | nil =>
    intro _
    show (0 : Int) ≤ 4 ∧ (4 : Int) ≤ 5
    decide
  | cons C Cs ih =>
    intro h
    have hV : firstV W 4 (C :: Cs) = if C.2 = [] ∨ val W C.2 ≠ 0 then val W C.1 else firstV W 4 Cs := rfl
    rw [hV]
    by_cases q : C.2 = [] ∨ val W C.2 ≠ 0
    · obtain ⟨a, a1, a2⟩ := h C List.mem_cons_self
      have hv : val W [(0, a)] = a := rfl
      rw [if_pos q, a1, hv]
      exact a2
    · rw [if_neg q]
      exact ih fun C hC => h C (List.mem_cons_of_mem _ hC)
theorem n_ruled {d d' d2 : Nat} {r : Int} {w0 v0 wc wm : zW} {i j K : Int} {Cs Cr : List clau} (hE : NE w0 v0 i j Cs) (h : NB w0 v0 i Cs 0 K wc wm) (hK : K ≤ 1000) (hG : NG w0 i wc wm) (hr : 0 ≤ r ∧ r < 6) (hR : Rru w0 r Cr) (hRv : Rru v0 r Cr) :
    ∃ a wc1 wc' wm', Night_takeStock (d + 3) i wc = some (0, wc1) ∧ Clauses_first (d2 + 1) (6 + r) 18 4 wc1 = some (a, wc') ∧ M_ruled (d' + 3) (6 + r) wm = some (a, wm') ∧ (0 ≤ a ∧ a ≤ 5) ∧ wc' 3 = wc 3 ∧ NB w0 v0 i Cs 0 K wc' wm' ∧ NG w0 i wc' wm' := by
  obtain ⟨h1, h2, h3, h4, h5⟩ := h.en hE
  have hn := h.2.1
  obtain ⟨⟨n1, n2, n3⟩, ⟨n4, n5, n6⟩, n7, n8, n9⟩ := hn
  obtain ⟨x1, x2, x3, x4⟩ := h.2.2.2
  have hi : wm 70 0 0 = i := h4.2.2.2.1.1
  have hO := h.odd hE hK hG.1
  have hop : opw wc i = opw w0 i := opw_e h3
  have hf := wO0_B hO.1
  have hC : wtC wc i (wc 19 13) := hO.1.2.1
  have hK1 : wOK (opw wc i) (wc 19 13) := by rw [hop]; exact hG.1
  have hpos := wOK_pos hG.1
  have hg : wtB (wtM wm 71 0) := fun k k0 k1 => by rw [hG.2 k k0 k1]; exact hf k k0 k1
  have hh := h2.home.1
  have hh9 : wc 9 i 2 = wm 9 i 2 := by rw [h3 9 (by decide), h5 9 (by decide)]
  -- the class's words
  have a0 := s_onPath (d := d + 1) (o := 13) h1.2.1 hf hC
  have onb := onp_bd (path := wc 33 i) hf
  have odb := od_bd hf hh
  have k1 : z_fr [18] wc (z_up wc 18 0 0 (onp (wc 33 i) (wc 19 13) / 1000000)) := fr_up (by decide)
  have k2 : z_fr [18] wc (z_up (z_up wc 18 0 0 (onp (wc 33 i) (wc 19 13) / 1000000)) 18 0 1 (od (wc 19 13) (wc 9 i 2) / 1000000)) := fr_tr k1 (fr_up (by decide))
  have a1 := s_weightAt (d := d + 2) (o := 13) (c := wc 9 i 2) (way := -1) (w := z_up wc 18 0 0 (onp (wc 33 i) (wc 19 13) / 1000000)) hh (by rw [k1 19 (by decide)]; exact hf)
  have s2 := sameE_fr k2 (by decide)
  obtain ⟨s, a2, a3⟩ := s_sure (d := d) (o := 13) (i := i) (w := z_up (z_up wc 18 0 0 (onp (wc 33 i) (wc 19 13) / 1000000)) 18 0 1 (od (wc 19 13) (wc 9 i 2) / 1000000)) (WO_e s2 h1.2.1) (by rw [k2 19 (by decide)]; exact hf) (by
    unfold wtC
    rw [opw_e s2, k2 19 (by decide)]
    exact hC) (by rw [k2 19 (by decide)]; exact hpos)
  rw [k2 19 (by decide)] at a2 a3
  have osb := od_bd hf ⟨a3.1, a3.2.1⟩
  generalize hwx : z_up (z_up (z_up (z_up (z_up (z_up wc 18 0 0 (onp (wc 33 i) (wc 19 13) / 1000000)) 18 0 1 (od (wc 19 13) (wc 9 i 2) / 1000000)) 18 0 2 (od (wc 19 13) s / 1000000)) 18 0 6 (wc 4 13 1)) 18 0 7 (wc 4 13 2)) 18 0 8 (wc 4 13 3) = wx
  have fx : z_fr [18] wc wx := by
    rw [← hwx]
    exact fr_tr k2 (fr_tr (fr_tr (fr_tr (fr_up (by decide)) (fr_up (by decide))) (fr_up (by decide))) (fr_up (by decide)))
  have hTS : Night_takeStock (d + 3) i wc = some (0, wx) := by
    rw [e_Night_takeStock, a0, bnd]
    dsimp only
    rw [gd_t (by omega), gd_t (by decide), a1, bnd, if_neg (by decide), k1 19 (by decide)]
    dsimp only
    rw [gd_t (by omega), gd_t (by decide), a2, bnd]
    dsimp only
    rw [gd_t (by decide), gd_t (by decide), gd_t (by decide), gd_t (by decide), k2 4 (by decide), hwx]
  have hw18 : ∀ q, 3 ≤ q → q ≠ 6 → q ≠ 7 → q ≠ 8 → wx 18 0 q = wc 18 0 q := fun q q0 q1 q2 q3 => by
    rw [← hwx, up_s (by omega), up_s (by omega), up_s (by omega), up_s (by omega), up_s (by omega), up_s (by omega)]
  obtain ⟨S', hcl⟩ := c_firstOf (d := d2) (df := 4) (k3 := 18) (w := wx) (ci := 6 + r) (Cs := Cr) (Or.inl rfl) (ClC_fr ((fx 1 (by decide)).trans (h3 1 (by decide))) ((fx 13 (by decide)).trans (h3 13 (by decide))) ((fx 14 (by decide)).trans (h3 14 (by decide))) ((fx 15 (by decide)).trans (h3 15 (by decide))) ((fx 16 (by decide)).trans (h3 16 (by decide))) Cr 0 hR.1) hR.2.2.1 hR.2.2.2.1
  have fc2 : z_fr [17, 18] wc (z_row wx 17 (6 + r) S') := fr_tr (fr_sub fx (by decide)) (fr_row (by decide))
  have fc : z_fr [17, 18, 26, 27, 28] wc (z_row wx 17 (6 + r) S') := fr_sub fc2 (by decide)
  -- the model's words
  have m0 := m_sumOn (d := d') (k := 71) (b := 0) (path := wc 33 i) (Or.inr ⟨rfl, rfl⟩) hi h4.2.2.2.2.1 (fun c c0 c1 => by
    have := (h4.2.1.2.2.2.2.1 c c0 c1).1.1
    rw [h3 33 (by decide), ← h5 33 (by decide)]
    exact this.symm) hg
  have one : onp (wc 33 i) (wtM wm 71 0) = onp (wc 33 i) (wc 19 13) := sm_congr fun c hc => by rw [od_eqR hG.2 (by omega) (by omega)]
  rw [one] at m0
  have o1 : ∀ (u : zW) (c : Int), u 71 = wm 71 → 0 ≤ c → c < 144 → M_oddsOf (d' + 2) 71 0 c u = some (od (wc 19 13) c, u) := fun u c hu c0 c1 => by
    have hwt : wtM u 71 0 = wtM wm 71 0 := by unfold wtM; rw [hu]
    rw [m_oddsOf (Or.inr ⟨rfl, rfl⟩) ⟨c0, c1⟩ (by rw [hwt]; exact hg), hwt, od_eqR hG.2 c0 c1]
  have o2 : ∀ u : zW, u 71 = wm 71 → M_surest (d' + 2) 71 0 u = some (s, u) := fun u hu => by
    have hwt : wtM u 71 0 = wtM wm 71 0 := by unfold wtM; rw [hu]
    obtain ⟨r', q1, q2⟩ := m_surest (d := d' + 1) (k := 71) (b := 0) (w := u) (Or.inr ⟨rfl, rfl⟩) (by rw [hwt]; exact hg)
    rw [hwt] at q2
    have : r' = s := (q2.congr (eqR_sy hG.2)).eq a3
    rw [← this]
    exact q1
  have o3 : ∀ u : zW, mF [69] [] wm u → M_homeOf (d' + 2) i u = some (wc 9 i 2, u) := fun u hu => by
    have := m_homeAt (d := d' + 2) (ENV_m hu (by decide) (by decide) h4)
    rw [this, hu.1 9 (by decide) (by decide), hh9]
  have u69 : ∀ (u : zW) (t v : Int), mF [69] [] wm u → mF [69] [] wm (z_up u 69 0 t v) := fun u t v hu => mF_tr hu (mF_up (by decide) (by decide))
  have g1 := u69 wm 0 (onp (wc 33 i) (wc 19 13) / 1000000) (mF_rf _ _ _)
  have g2 := u69 _ 1 (od (wc 19 13) (wc 9 i 2) / 1000000) g1
  generalize hwy : z_up (z_up (z_up (z_up (z_up (z_up (z_up (z_up (z_up (z_up wm 69 0 0 (onp (wc 33 i) (wc 19 13) / 1000000)) 69 0 1 (od (wc 19 13) (wc 9 i 2) / 1000000)) 69 0 2 (od (wc 19 13) s / 1000000)) 69 0 3 (wm 11 0 50)) 69 0 4 (wm 11 0 51)) 69 0 5 (wm 11 0 52)) 69 0 6 (wm 11 0 48)) 69 0 7 (wm 11 0 49)) 69 0 8 (wm 11 0 35)) 69 0 9 (wm 11 0 53) = wy
  have gy : mF [69] [] wm wy := by
    rw [← hwy]
    exact u69 _ _ _ (u69 _ _ _ (u69 _ _ _ (u69 _ _ _ (u69 _ _ _ (u69 _ _ _ (u69 _ _ _ (u69 _ _ _ g2)))))))
  have hwd : ∀ q, 0 ≤ q → q < 10 → wy 69 0 q = wx 18 0 q := fun q q0 q1 => by
    have : q = 0 ∨ q = 1 ∨ q = 2 ∨ q = 3 ∨ q = 4 ∨ q = 5 ∨ q = 6 ∨ q = 7 ∨ q = 8 ∨ q = 9 := by omega
    have y345 : (q = 3 ∨ q = 4 ∨ q = 5 ∨ q = 9) → wx 18 0 q = wc 18 0 q := fun z => hw18 q (by omega) (by omega) (by omega) (by omega)
    rcases this with rfl | rfl | rfl | rfl | rfl | rfl | rfl | rfl | rfl | rfl
    · rw [← hwy, ← hwx, up_s (by decide), up_s (by decide), up_s (by decide), up_s (by decide), up_s (by decide), up_s (by decide), up_s (by decide), up_s (by decide), up_s (by decide), up_h, up_s (by decide), up_s (by decide), up_s (by decide), up_s (by decide), up_s (by decide), up_h]
    · rw [← hwy, ← hwx, up_s (by decide), up_s (by decide), up_s (by decide), up_s (by decide), up_s (by decide), up_s (by decide), up_s (by decide), up_s (by decide), up_h, up_s (by decide), up_s (by decide), up_s (by decide), up_s (by decide), up_h]
    · rw [← hwy, ← hwx, up_s (by decide), up_s (by decide), up_s (by decide), up_s (by decide), up_s (by decide), up_s (by decide), up_s (by decide), up_h, up_s (by decide), up_s (by decide), up_s (by decide), up_h]
    · rw [y345 (by decide), ← x1, ← hwy, up_s (by decide), up_s (by decide), up_s (by decide), up_s (by decide), up_s (by decide), up_s (by decide), up_h]
    · rw [y345 (by decide), ← x2, ← hwy, up_s (by decide), up_s (by decide), up_s (by decide), up_s (by decide), up_s (by decide), up_h]
    · rw [y345 (by decide), ← x3, ← hwy, up_s (by decide), up_s (by decide), up_s (by decide), up_s (by decide), up_h]
    · rw [← hwy, ← hwx, up_s (by decide), up_s (by decide), up_s (by decide), up_h, up_s (by decide), up_s (by decide), up_h, n1, Int.add_zero]
    · rw [← hwy, ← hwx, up_s (by decide), up_s (by decide), up_h, up_s (by decide), up_h, n4]
    · rw [← hwy, ← hwx, up_s (by decide), up_h, up_h, n7]
    · rw [y345 (by decide), ← x4, ← hwy, up_h]
  have hRm : ClM wy (6 + r) true 0 Cr := by
    have hm := h.1.2.2.1
    exact ClM_fr ((gy.1 50 (by decide) (by decide)).trans (hm.1 50 (by decide) (by decide))) ((gy.1 52 (by decide) (by decide)).trans (hm.1 52 (by decide) (by decide))) ((gy.1 53 (by decide) (by decide)).trans (hm.1 53 (by decide) (by decide))) Cr 0 hRv.2.1
  obtain ⟨S2, h2', hcm⟩ := m_clauseThat (d := d') (n := 10) (t := 6 + r) (r := true) (w := wy) (by omega) (by omega) Cr 0 (wy 68 0) (wy 11 0 30) hRm hRv.2.2.1 (Int.le_refl 0) (by have := hRv.2.2.2.1; omega)
  rw [mk_id] at hcm
  have hVV : firstV (wx 18 0) 4 Cr = firstV (wy 69 0) 4 Cr := firstV_W (fun q q0 q1 => (hwd q q0 q1).symm) Cr hR.2.2.1
  have hab := firstV_A (W := wx 18 0) Cr hR.2.2.2.2
  have gk : mF [68, 69, 71, 72] [30] wm (mk wy S2 h2') := mF_tr (mF_sub gy (by decide) (by decide)) (mF_tr (mF_row (by decide) (by decide)) (mF_11 (by decide)))
  have key : M_ruled (d' + 3) (6 + r) wm = some (firstV (wx 18 0) 4 Cr, mk wy S2 h2') := by
    rw [e_M_ruled, m0, bnd]
    dsimp only
    rw [gd_t (by omega), gd_t (by decide), m_woodNow, bnd]
    dsimp only
    rw [g1.1 70 (by decide) (by decide), hi, o3 _ g1, bnd]
    dsimp only
    rw [o1 _ _ (g1.1 71 (by decide) (by decide)) hh.1 hh.2, bnd]
    dsimp only
    rw [gd_t (by omega), gd_t (by decide), o2 _ (g2.1 71 (by decide) (by decide)), bnd]
    dsimp only
    rw [o1 _ _ (g2.1 71 (by decide) (by decide)) a3.1 a3.2.1, bnd]
    dsimp only
    rw [gd_t (by omega), gd_t (by decide), gd_t (by decide), gd_t (by decide), gd_t (by decide), gd_t (by decide), gd_t (by decide), gd_t (by decide), gd_t (by decide)]
    simp only [g2.2 50 (by decide), g2.2 51 (by decide), g2.2 52 (by decide), g2.2 48 (by decide), g2.2 49 (by decide), g2.2 35 (by decide), g2.2 53 (by decide)]
    rw [hwy, e_M_clauseThat, hcm, bnd, hVV]
    dsimp only
    rcases first_at (W := wy 69 0) (df := 4) Cr 0 (Int.le_refl 0) hRm hRv.2.2.1 with ⟨q1, q2⟩ | ⟨C, q1, q2, q3, q4, q5⟩
    · rw [q1, q2, if_neg (by decide)]
    · have q4' : ∃ a, C.1 = [(0, a)] ∧ wy 52 0 (60 * (6 + r) + 5 * firstI (wy 69 0) 0 Cr) = a := q4
      obtain ⟨a, b1, b2⟩ := q4'
      have hv : val (wy 69 0) [(0, a)] = a := rfl
      have h12 := hRv.2.2.2.1
      rw [if_pos q2, gd_t (by omega), gd_t (by omega), gd_t (by omega), gd_t (by omega), mk_o (by decide) (by decide), b2, q5, b1, hv]
  refine ⟨_, wx, _, _, hTS, hcl, key, hab, fc2 3 (by decide), NB_m gk (NB_c fc ?_ (fun q q0 q1 q2 q3 => ?_) h), ?_⟩
  · exact RC_fr3 (fun c hc => fc2 c (by revert hc; revert c; decide)) h.1.2.2.2.1
  · rw [row_c (by decide)]
    exact hw18 q q0 q1 q2 q3
  · have e19 := fc 19 (by decide)
    have e71 : wtM (mk wy S2 h2') 71 0 = wtM wm 71 0 := by
      unfold wtM
      rw [show (mk wy S2 h2') 71 = wm 71 from by
        funext a b
        rw [mk_o (by decide) (by decide), gy.1 71 (by decide) (by decide)]]
    unfold NG
    rw [e19, e71]
    exact hG
