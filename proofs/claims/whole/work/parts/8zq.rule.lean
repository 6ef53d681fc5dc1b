/-! a rule's text, in both -/
abbrev str7 : List Int := [103, 111, 32, 108, 101, 102, 116, 32, 114, 105, 103, 104, 116, 32, 98, 97, 99, 107, 32, 115, 105, 116, 32, 115, 116, 114, 105, 107, 101]
theorem ss7 : SS 7 str7 := ss_i rfl (by decide) (by decide)
theorem ly7 : LY str7 0 actKW := ⟨by decide, by decide, by decide, by decide, by decide, by decide, by decide, by decide, by decide, by decide, by decide, by decide, rfl⟩
theorem ok7 : okWs actKW := okWs_i (by decide)
noncomputable def TX (D : Nat) (l1 : Int) (w : zW) : zR := (M_clauseHere D w).bind fun r1 => M_text_11 (D + 1) l1 r1.1 r1.2
section
variable {d d' : Nat} {T : Int → Int} {n ci t bc bm pend : Int} {wc wm : zW}
theorem TK_end {q sg bh : Int} (h : TK T n q sg bh) (hT : q < n → 0 ≤ T q) : sg = -1 ↔ n ≤ q := by
  unfold TK at h
  by_cases z : n ≤ q
  · rw [if_pos z] at h
    exact ⟨fun _ => z, fun _ => h.1⟩
  rw [if_neg z] at h
  have := hT (by omega)
  refine ⟨fun x => ?_, fun x => absurd x z⟩
  by_cases z1 : dig (T q)
  · rw [if_pos z1] at h; omega
  rw [if_neg z1] at h
  by_cases z2 : let' (T q)
  · rw [if_pos z2] at h; omega
  rw [if_neg z2] at h
  by_cases z3 : (T q = 60 ∨ T q = 62) ∧ q + 1 < n ∧ T (q + 1) = 61
  · rw [if_pos z3] at h
    have := h.1
    split at this <;> omega
  · rw [if_neg z3] at h; omega
/-- does the text go on -/
theorem j_goes (h : JR T n wc wm) : ∃ r wc', Reader_goesOn (d + 1) wc = some (r, wc') ∧ RF wc wc' ∧ ((r = 1 ∧ ∃ wm', (∀ l1, M_text_11 (d' + 1) l1 1 wm = TX d' l1 wm') ∧ mF [] [18] wm wm' ∧ JR T n wc' wm' ∧ (∀ (ci t bc bm : Int) (L : List tok) (p : Int) (v : zW), 0 ≤ p → JK ci t bc bm L p wc v → JK ci t bc bm L p wc' v) ∧ RK wc wc' ∧ wc 5 0 4 < wc' 5 0 4) ∨ (r = 0 ∧ wc' = wc ∧ ∃ wm', (∀ l1, M_text_11 (d' + 1) l1 1 wm = M_text_17 (d' + 1) l1 wm') ∧ mF [] [18] wm wm' ∧ JR T n wc wm') ∨ (r = 0 ∧ ∃ f wm', CF f wc' ∧ (∀ l1, M_text_11 (d' + 1) l1 1 wm = M_text_17 (d' + 1) l1 wm') ∧ mF [] [18, 19] wm wm' ∧ wm' 11 0 19 = f)) := by
  obtain ⟨hs, hJ⟩ := j_see (d := d') h
  obtain ⟨hs2, -⟩ := j_see (d := d') hJ
  rw [up_2] at hs2
  obtain ⟨a1, a2⟩ := j_sees (c := 59) h (by decide) (by omega) (by omega) (by decide)
  have hq := h.1.2.2.2.1
  have hn := h.1.1
  have e18 : (z_up wm 11 0 18 (wc 5 0 4)) 11 0 18 = wc 5 0 4 := up_h
  have hend := TK_end h.1.2.2.2.2 (fun z => (h.2.1.2.2 _ hq.1 z).1.1)
  have hM : ∀ l1, M_text_11 (d' + 1) l1 1 wm = if (if n ≤ wc 5 0 4 then (-1 : Int) else T (wc 5 0 4)) = 59 then (M_clauseHere d' (z_up (z_up wm 11 0 18 (wc 5 0 4)) 11 0 18 (wc 5 0 4 + 1))).bind fun r2 => M_text_11 (d' + 1) l1 r2.1 r2.2 else M_text_14 (d' + 1) l1 1 (z_up wm 11 0 18 (wc 5 0 4)) := fun l1 => by
    rw [e_M_text_11, if_neg (by decide), hs, bnd]
    dsimp only
    by_cases z : (if n ≤ wc 5 0 4 then (-1 : Int) else T (wc 5 0 4)) = 59
    · rw [if_pos z, if_pos z, gd_t (by rw [e18]; omega), e18]
    · rw [if_neg z, if_neg z]
  by_cases z59 : wc 5 0 3 = 59
  · obtain ⟨w1, p1, p2, p3, p4, p5, p6⟩ := j_next2 (d := d) h
    have hb := (a2 z59).1
    refine ⟨1, w1, ?_, p2.f, Or.inl ⟨rfl, z_up (z_up wm 11 0 18 (wc 5 0 4)) 11 0 18 (wc 5 0 4 + 1), fun l1 => ?_, mF_tr (mF_11 (by decide)) (mF_11 (by decide)), p3 _ (mF_tr (mF_11 (by decide)) (mF_11 (by decide))) (by rw [up_h, hb]), fun ci t bc bm L p v hp hK => JK_le (p6 _ _ _ _ _ _ _ hK) (by omega), p2, by omega⟩⟩
    · rw [e_Reader_goesOn, if_pos z59, p1, bnd]
      dsimp only
      rw [gd_t (by decide)]
    · rw [hM, if_pos (a1.2 z59)]
      rfl
  · have h14 : ∀ l1, M_text_11 (d' + 1) l1 1 wm = if n ≤ wc 5 0 4 then M_text_17 (d' + 1) l1 (z_up wm 11 0 18 (wc 5 0 4)) else M_text_17 (d' + 1) l1 (z_up (z_up wm 11 0 18 (wc 5 0 4)) 11 0 19 (1 + 8 * wc 5 0 4 + 0)) := fun l1 => by
      rw [hM, if_neg (fun q => z59 (a1.1 q)), e_M_text_14, if_neg (by decide), hs2, bnd]
      dsimp only
      by_cases z : n ≤ wc 5 0 4
      · rw [if_pos z, if_pos rfl, if_pos z]
      · have hT := (h.2.1.2.2 _ hq.1 (by omega)).1.1
        rw [if_neg z, if_neg (by omega), if_neg z, e18, m_fails hJ.2.2.1 (by decide) (by omega), bnd]
    by_cases z : n ≤ wc 5 0 4
    · refine ⟨0, wc, ?_, RF_rf _, Or.inr (Or.inl ⟨rfl, rfl, _, fun l1 => by rw [h14, if_pos z], mF_11 (by decide), hJ⟩)⟩
      rw [e_Reader_goesOn, if_neg z59, if_pos (hend.2 z), gd_t (by decide)]
    · obtain ⟨w1, p1, p2, p3⟩ := s_refuse (d := d) (k := 0) h.1 (by decide)
      refine ⟨0, w1, ?_, p2, Or.inr (Or.inr ⟨rfl, _, _, p3, fun l1 => by rw [h14, if_neg z], mF_tr (mF_11 (by decide)) (mF_11 (by decide)), up_h⟩)⟩
      rw [e_Reader_goesOn, if_neg z59, if_neg (fun q => z (hend.1 q)), p1, bnd]
      dsimp only
      rw [gd_t (by decide)]
/-- behind a fault nothing goes on -/
theorem F_goes {f : Int} (h : CF f wc) : ∃ wc', Reader_goesOn (d + 1) wc = some (0, wc') ∧ RF wc wc' ∧ CF f wc' := by
  obtain ⟨w1, p1, p2, p3⟩ := s_refuseF (d := d) (k := 0) h
  have hs := h.2.1
  refine ⟨w1, ?_, p2, p3⟩
  rw [e_Reader_goesOn, if_neg (by omega), if_neg (by omega), p1, bnd]
  dsimp only
  rw [gd_t (by decide)]
theorem text11_0 {l1 : Int} {w : zW} : M_text_11 (d' + 1) l1 0 w = M_text_17 (d' + 1) l1 w := by
  rw [e_M_text_11, if_pos rfl, e_M_text_14, if_pos rfl]
/-- what opens a clause, in the class -/
theorem s_opened {s told most : Int} {cs : List Int} {ws : List (List Int)} (h : CT T n wc) (hS : SS s cs) (hL : LY cs 0 ws) (hW : okWs ws) (hl : ws.length ≤ 900) : ∃ r, WI T n (wc 5 0 4) ws 0 r ∧ Reader_opened (d + 3) s told most wc = if r = -1 then some (-1, z_up (z_up wc 5 0 2 (1 + 8 * wc 5 0 4 + 0)) 5 0 3 (-2)) else if told < most then some (r, wc) else some (-1, z_up (z_up wc 5 0 2 (1 + 8 * wc 5 0 4 + 4)) 5 0 3 (-2)) := by
  obtain ⟨r, r1, r2⟩ := s_wordIn (d := d) h hS hL hW hl
  have hq := h.2.2.2.1
  refine ⟨r, r2, ?_⟩
  have e2 : ∀ x, (z_up (z_up wc 5 0 2 x) 5 0 3 (-2)) 5 0 2 = x := fun x => by rw [up_s (by decide), up_h]
  rw [e_Reader_opened, r1, bnd]
  dsimp only
  by_cases z : r = -1
  · rw [if_pos z, if_pos z, s_refuse_x h (by decide), bnd]
    dsimp only
    rw [if_neg (by rw [e2]; omega)]
  · rw [if_neg z, if_neg z]
    by_cases y : told < most
    · rw [if_pos y, if_pos y, if_pos h.2.2.1]
    · rw [if_neg y, if_neg y, s_refuse_x h (by decide), bnd]
      dsimp only
      rw [if_neg (by rw [e2]; omega)]
theorem CF_x {k : Int} (h : CT T n wc) (hk : 0 ≤ k ∧ k ≤ 7) : CF (1 + 8 * wc 5 0 4 + k) (z_up (z_up wc 5 0 2 (1 + 8 * wc 5 0 4 + k)) 5 0 3 (-2)) ∧ RF wc (z_up (z_up wc 5 0 2 (1 + 8 * wc 5 0 4 + k)) 5 0 3 (-2)) := by
  have hq := h.2.2.2.1
  have hn := h.1
  refine ⟨⟨?_, up_h, by omega, by omega⟩, RF_tr (RF_up (Or.inl rfl)) (RF_up (Or.inr (Or.inl rfl)))⟩
  rw [up_s (by decide), up_h]
theorem ch_see {g : Nat} (h : JR T n wc wm) : M_clauseHere (g + 2) wm = M_clauseHere (g + 2) (z_up wm 11 0 18 (wc 5 0 4)) := by
  obtain ⟨hs, hJ⟩ := j_see (d := g + 1) h
  obtain ⟨hs2, -⟩ := j_see (d := g + 1) hJ
  rw [up_2] at hs2
  rw [e_M_clauseHere, hs, bnd, e_M_clauseHere, hs2, bnd]
def RU (T : Int → Int) (n ci t : Int) (Cs : List clau) (wc wm : zW) : Prop := (∃ bc bm, JC T n ci t bc bm [] 0 wc wm) ∧ PC wc ci (wc 1 ci 5) 0 Cs ∧ PM wm t (wm 51 0 t) true 0 Cs ∧ (∀ C ∈ Cs, clT 10 C) ∧ (wc 1 ci 6 = Cs.length ∧ wm 53 0 t = Cs.length) ∧ wc 5 0 7 = 6 ∧ ∀ C ∈ Cs, ∃ a, C.1 = [(0, a)] ∧ 0 ≤ a ∧ a ≤ 5
noncomputable def RBody (D : Nat) (told : Int) (K : zW → zR) (w : zW) : zR := (Reader_opened D 7 told 12 w).bind fun r1 => (Reader_next D r1.2).bind fun r2 => if r1.1 = (-1) then K r2.2 else ((Clauses_openOne D (r2.2 5 0 8) r2.2).bind fun r3 => (Clauses_add D (r3.2 5 0 8) 48 r1.1 r3.2).bind fun r4 => CIF D K r4.2)
theorem r_clause {Cs : List clau} {told : Int} (h : RU T n ci t Cs wc wm) (ht : 6 ≤ t ∧ t < 12) (hto : told = Cs.length) (h12 : told ≤ 12) (h24 : wm 11 0 24 = told) :
    ∃ wc' rm wm', (∀ K, RBody (d + 26) told K wc = K wc') ∧ M_clauseHere (d' + 11) wm = some (rm, wm') ∧ XF ci wc wc' ∧ YL t wm wm' ∧ ((rm = 1 ∧ told < 12 ∧ wm' 11 0 24 = told + 1 ∧ ∃ C, RU T n ci t (Cs ++ [C]) wc' wm') ∨ (rm = 0 ∧ ∃ f, CF f wc' ∧ wm' 11 0 19 = f)) := by
  obtain ⟨⟨bc, bm, hJ⟩, hPC, hPM, hcl, ⟨hk, hkm⟩, h7, ha⟩ := h
  have hq := hJ.1.1.2.2.2.1
  have hn := hJ.1.1.1
  have hbm : 0 ≤ bm ∧ bm ≤ bc := hJ.2.2.2.2.2
  have hu : wc 1 ci 5 = bc := by
    have := hJ.2.2.2.1.2.1
    have h0 : (((cls []).length : Nat) : Int) = 0 := rfl
    omega
  have hvm : wm 51 0 t = bm := by
    have := hJ.2.2.2.1.2.2.2
    have h0 : ((([] : List tok).length : Nat) : Int) = 0 := rfl
    omega
  have h21 : wm 11 0 21 = t := hJ.2.1.2.1
  obtain ⟨r, r2, r1⟩ := s_opened (d := d + 23) (told := told) (most := 12) hJ.1.1 ss7 ly7 ok7 (by decide)
  have hJ1 : JC T n ci t bc bm [] 0 wc (z_up wm 11 0 18 (wc 5 0 4)) := JC_18 hJ (mF_11 (by decide)) up_h
  have h18 : (z_up wm 11 0 18 (wc 5 0 4)) 11 0 18 = wc 5 0 4 := up_h
  have y1 : YL t wm (z_up wm 11 0 18 (wc 5 0 4)) := YF_m (mF_11 (by decide))
  have v24 : (z_up wm 11 0 18 (wc 5 0 4)) 11 0 24 = told := (up_s (by decide)).trans h24
  have v53 : (z_up wm 11 0 18 (wc 5 0 4)) 53 0 t = Cs.length := (up_c (by decide)).trans hkm
  have hch := ch_see (g := d' + 9) hJ.1
  generalize z_up wm 11 0 18 (wc 5 0 4) = v1 at *
  have v21 : v1 11 0 21 = t := hJ1.2.1.2.1
  have v19 : v1 11 0 19 = 0 := hJ1.1.2.2.1
  obtain ⟨b, b1, -, -⟩ := mh1 (g := d' + 9) hJ1.1 h18
  obtain ⟨c, c1, -, -⟩ := mh2 (g := d' + 9) (p := wc 5 0 4) (l := b) hJ1.1 h18
  obtain ⟨r', q1, q2⟩ := m_actHere (g := d' + 8) hJ1.1 h18
  have hrr := WI_u (Int.le_refl 0) q2 r2
  subst hrr
  have hM : M_clauseHere (d' + 11) wm = if r' < 0 then some (0, z_up v1 11 0 19 (1 + 8 * wc 5 0 4 + 0)) else M_clauseHere_29 (d' + 11) (wc 5 0 4) told 12 v1 := by
    rw [hch, b1, c1, e_M_clauseHere_17, v21, if_pos ht.1, if_neg (by omega), q1, bnd]
    dsimp only
    by_cases z : r' < 0
    · rw [if_pos z, if_pos z, e_M_clauseHere_24, if_pos rfl, m_fails v19 (by decide) (by omega), bnd]
      dsimp only
      rw [gd_t (by decide)]
    · rw [if_neg z, if_neg z, e_M_clauseHere_24, if_neg (by decide), v21, if_neg (by omega), v24]
  rcases WI_bd r2 ok7 with hr | ⟨hr0, hr1, hr2, hr3⟩
  · -- no word
    rw [if_pos hr] at r1
    obtain ⟨x1, x2⟩ := CF_x (k := 0) hJ.1.1 (by decide)
    obtain ⟨w2, p1, p2, p3⟩ := s_nxF (d := d + 26) x1
    refine ⟨w2, 0, _, fun K => ?_, by rw [hM, if_pos (by omega)], (RF_tr x2 p2).x, YF_tr y1 (YF_m (mF_11 (by decide))), Or.inr ⟨rfl, _, p3, up_h⟩⟩
    unfold RBody
    rw [r1, bnd]
    dsimp only
    rw [p1, bnd]
    dsimp only
    rw [if_pos rfl]
  rw [if_neg (by omega)] at r1
  rw [if_neg (show ¬ r' < 0 by omega)] at hM
  by_cases h12' : told < 12
  case neg =>
    rw [if_neg h12'] at r1
    obtain ⟨x1, x2⟩ := CF_x (k := 4) hJ.1.1 (by decide)
    obtain ⟨w2, p1, p2, p3⟩ := s_nxF (d := d + 26) x1
    refine ⟨w2, 0, z_up v1 11 0 19 (1 + 8 * wc 5 0 4 + 4), fun K => ?_, ?_, (RF_tr x2 p2).x, YF_tr y1 (YF_m (mF_11 (by decide))), Or.inr ⟨rfl, _, p3, up_h⟩⟩
    · unfold RBody
      rw [r1, bnd]
      dsimp only
      rw [p1, bnd]
      dsimp only
      rw [if_pos rfl]
    · rw [hM, e_M_clauseHere_29, if_pos (by omega), m_fails v19 (by decide) (by omega), bnd]
      dsimp only
      rw [gd_t (by decide)]
  rw [if_pos h12'] at r1
  have hr6 : r' < 6 := hr1
  -- the clause
  have fX : mF [] [24] v1 (z_up v1 11 0 24 (told + 1)) := mF_11 (by decide)
  have hJRX : JR T n wc (z_up v1 11 0 24 (told + 1)) := JR_g hJ1.1 fX (by decide) (by decide) rfl rfl
  have hJKX : JK ci t bc bm [] 0 wc (z_up v1 11 0 24 (told + 1)) := JK_g hJ1.2 fX (by decide) (by decide) (by decide) (by decide)
  have yX : YL t wm (z_up v1 11 0 24 (told + 1)) := YF_tr y1 (YF_m (mF_11 (by decide)))
  have x18 : (z_up v1 11 0 24 (told + 1)) 11 0 18 = wc 5 0 4 := (up_s (by decide)).trans h18
  have x24 : (z_up v1 11 0 24 (told + 1)) 11 0 24 = told + 1 := up_h
  have x53 : (z_up v1 11 0 24 (told + 1)) 53 0 t = Cs.length := (up_c (by decide)).trans v53
  have hM2 : M_clauseHere (d' + 11) wm = (M_actHere (d' + 10) (z_up v1 11 0 24 (told + 1))).bind fun r1 => (M_clauseOf (d' + 10) r1.1 0 r1.2).bind fun r2 => gd (0 ≤ r2.1 ∧ r2.1 ≤ 1) (some (r2.1, r2.2)) := by
    rw [hM, e_M_clauseHere_29, if_neg (by omega), v24, gd_t (by omega), v21, if_pos ht.1, if_neg (by omega)]
  generalize z_up v1 11 0 24 (told + 1) = vX at *
  obtain ⟨r'', s1, s2⟩ := m_actHere (g := d' + 8) hJRX x18
  have hrr := WI_u (Int.le_refl 0) s2 q2
  subst hrr
  have hrun : rnR let' T n (wc 5 0 4) (wc 5 0 5) ∧ wc 5 0 4 < wc 5 0 5 := by
    rcases TK_let hJ.1.1.2.2.2.2 with ⟨-, z2, z3, z4⟩ | ⟨-, z2⟩
    · refine ⟨z4, ?_⟩
      have := z4.1
      by_cases y : wc 5 0 5 = wc 5 0 4
      · have h3 := z4.2.2
        rw [y] at h3
        rcases h3 with x | x
        · omega
        · exact absurd z3 x
      · omega
    · exact absurd ⟨hr2, hr3⟩ z2
  obtain ⟨w1, p1, p2, p3, p4, p5, p6⟩ := j_next2 (d := d + 26) hJRX
  have hpw := m_passWord (d := d' + 8) hJRX.2.1 x18 hq hrun.1
  have hJRY : JR T n w1 (z_up vX 11 0 18 (wc 5 0 5)) := p3 _ (mF_11 (by decide)) up_h
  have hJKY : JK ci t bc bm [] (0 + (wc 5 0 5 - wc 5 0 4)) w1 (z_up vX 11 0 18 (wc 5 0 5)) := JK_m (p6 _ _ _ _ _ _ _ hJKX) (mF_11 (by decide))
  have Y21 : (z_up vX 11 0 18 (wc 5 0 5)) 11 0 21 = t := hJKY.1.2.1
  have Y24 : (z_up vX 11 0 18 (wc 5 0 5)) 11 0 24 = told + 1 := (up_s (by decide)).trans x24
  have Y53 : (z_up vX 11 0 18 (wc 5 0 5)) 53 0 t = Cs.length := (up_c (by decide)).trans x53
  have Y51 : (z_up vX 11 0 18 (wc 5 0 5)) 51 0 t = bm := by
    have := hJKY.2.2.1.2.2.2
    have h0 : ((([] : List tok).length : Nat) : Int) = 0 := rfl
    omega
  have yY : YL t wm (z_up vX 11 0 18 (wc 5 0 5)) := YF_tr yX (YF_m (mF_11 (by decide)))
  have hM3 : M_clauseOf (d' + 10) r'' 0 vX = M_clauseOf_3 (d' + 10) (60 * t + 5 * told) (z_up (z_up (z_up vX 11 0 18 (wc 5 0 5)) 52 0 (60 * t + 5 * told) r'') 52 0 (60 * t + 5 * told + 1) bm) := by
    rw [e_M_clauseOf, hpw, bnd]
    dsimp only
    rw [gd_t (by rw [Y21]; omega), gd_t (by rw [Y21]; omega), gd_t (by rw [Y21, Y53]; omega), gd_t (by rw [Y21, Y53]; omega), gd_t (by rw [Y21, Y53]; omega), gd_t (by rw [Y21, Y53]; omega), gd_t (by rw [Y21]; omega), gd_t (by rw [Y21, Y53]; omega), if_pos rfl, Y21, Y53, Y51, ← hto]
  have fZ : mF [52] [] (z_up vX 11 0 18 (wc 5 0 5)) (z_up (z_up (z_up vX 11 0 18 (wc 5 0 5)) 52 0 (60 * t + 5 * told) r'') 52 0 (60 * t + 5 * told + 1) bm) := mF_tr (mF_up (by decide) (by decide)) (mF_up (by decide) (by decide))
  have yZ : YL t wm (z_up (z_up (z_up vX 11 0 18 (wc 5 0 5)) 52 0 (60 * t + 5 * told) r'') 52 0 (60 * t + 5 * told + 1) bm) := YF_tr yY (YF_tr (YF_52 (by rw [Y53]; omega)) (YF_52 (by rw [up_c (by decide), Y53]; omega)))
  have Z0 : (z_up (z_up (z_up vX 11 0 18 (wc 5 0 5)) 52 0 (60 * t + 5 * told) r'') 52 0 (60 * t + 5 * told + 1) bm) 52 0 (60 * t + 5 * told) = r'' := by rw [up_s (by omega), up_h]
  have Z53 : (z_up (z_up (z_up vX 11 0 18 (wc 5 0 5)) 52 0 (60 * t + 5 * told) r'') 52 0 (60 * t + 5 * told + 1) bm) 53 0 t = told := by rw [up_c (by decide), up_c (by decide), Y53, hto]
  have Z24 : (z_up (z_up (z_up vX 11 0 18 (wc 5 0 5)) 52 0 (60 * t + 5 * told) r'') 52 0 (60 * t + 5 * told + 1) bm) 11 0 24 = told + 1 := by rw [up_c (by decide), up_c (by decide), Y24]
  generalize z_up (z_up (z_up vX 11 0 18 (wc 5 0 5)) 52 0 (60 * t + 5 * told) r'') 52 0 (60 * t + 5 * told + 1) bm = vZ at *
  generalize z_up vX 11 0 18 (wc 5 0 5) = vY at *
  -- the class's start
  have k1 : w1 1 = wc 1 := p2.1 1 (by decide)
  obtain ⟨o1, o2⟩ := s_openOne (d := d + 26) (wc := w1) (ci := ci) (k := told) (u := bc) (by rw [k1, hk, hto]) (by rw [k1]; exact hu) (by omega)
  have O14 : (z_up w1 14 ci told bc) 14 ci told = bc := up_h
  have O5 : (z_up w1 14 ci told bc) 5 = w1 5 := by funext x y; exact up_c (by decide)
  have O20 : (z_up w1 14 ci told bc) 20 = w1 20 := by funext x y; exact up_c (by decide)
  have O15 : (z_up w1 14 ci told bc) 1 ci 5 = bc := by rw [up_c (by decide), k1]; exact hu
  have O16 : (z_up w1 14 ci told bc) 1 ci 6 = told := by rw [up_c (by decide), k1, hk, hto]
  generalize z_up w1 14 ci told bc = w2 at *
  have hbnd : bc + 1 ≤ w1 5 0 4 := by
    have := hJKY.2.2.2.1
    have h0 : (((cls []).length : Nat) : Int) = 0 := rfl
    omega
  have hadd := s_add (d := d + 26) (a := 48) (b := r'') O15 (by omega) (by decide) (by omega)
  have xadd := EF_add (v := 48 + 256 * r'') O15
  have A13 : (z_up (z_up w2 13 ci bc (48 + 256 * r'')) 1 ci 5 (bc + 1)) 13 ci bc = 48 + 256 * r'' := by rw [up_c (by decide), up_h]
  have A5 : (z_up (z_up w2 13 ci bc (48 + 256 * r'')) 1 ci 5 (bc + 1)) 5 = w1 5 := by funext x y; rw [up_c (by decide), up_c (by decide), O5]
  have A20 : (z_up (z_up w2 13 ci bc (48 + 256 * r'')) 1 ci 5 (bc + 1)) 20 = w1 20 := by funext x y; rw [up_c (by decide), up_c (by decide), O20]
  have A14 : (z_up (z_up w2 13 ci bc (48 + 256 * r'')) 1 ci 5 (bc + 1)) 14 ci told = bc := by rw [up_c (by decide), up_c (by decide), O14]
  have A15 : (z_up (z_up w2 13 ci bc (48 + 256 * r'')) 1 ci 5 (bc + 1)) 1 ci 5 = bc + 1 := up_h
  have A16 : (z_up (z_up w2 13 ci bc (48 + 256 * r'')) 1 ci 5 (bc + 1)) 1 ci 6 = told := by rw [up_s (by decide), up_c (by decide), O16]
  generalize z_up (z_up w2 13 ci bc (48 + 256 * r'')) 1 ci 5 (bc + 1) = w3 at *
  have x3 : XF ci wc w3 := XF_tr p2.f.x (XF_tr o2 xadd.x)
  have hJ3 : JC T n ci t (bc + 1) bm [] 0 w3 vZ := by
    refine ⟨JR_g hJRY fZ (by decide) (by decide) A5 A20, ?_⟩
    obtain ⟨⟨j2, j3, j4⟩, ⟨j5, j5a, j5b⟩, j6, j7, j8⟩ := hJKY
    refine ⟨⟨by rw [A5]; exact j2, (fZ.2 21 (by decide)).trans j3, j4⟩, ⟨by rw [A5, fZ.2 22 (by decide)]; exact j5, by rw [A5]; exact j5a, by rw [A5]; exact j5b⟩, ⟨trivial, ?_, trivial, ?_⟩, ?_, by omega, by omega⟩
    · rw [A15]
      show _ = _ + ((0 : Nat) : Int)
      omega
    · rw [fZ.1 51 (by decide) (by decide), Y51]
      show _ = _ + ((0 : Nat) : Int)
      omega
    · rw [A5]
      show bc + 1 + ((0 : Nat) : Int) + 0 ≤ _
      omega
  have h73 : w3 5 0 7 = 6 := by rw [A5, p2.2 7 (by decide) (by decide) (by decide)]; exact h7
  have hv : vS t 6 10 := Or.inr ⟨ht.1, rfl, rfl⟩
  obtain ⟨w4, rm, v4, t1, t2, t3, t4, t5⟩ := j_if (d := d) (d' := d' + 1) hv (Int.le_refl 0) h73 hJ3 A16 (by omega) Z53 (by omega) rfl
  have hRB : ∀ K, RBody (d + 26) told K wc = K w4 := fun K => by
    unfold RBody
    rw [r1, bnd]
    dsimp only
    rw [p1, bnd]
    dsimp only
    have c1 : w1 5 0 8 = ci := hJKY.1.1
    have c2 : w2 5 0 8 = ci := by rw [O5]; exact c1
    rw [if_neg (by omega), c1, o1, bnd]
    dsimp only
    rw [c2, hadd, bnd]
    exact t1 K
  have hMM : M_clauseHere (d' + 11) wm = (M_clauseOf_3 (d' + 10) (60 * t + 5 * told) vZ).bind fun r2 => gd (0 ≤ r2.1 ∧ r2.1 ≤ 1) (some (r2.1, r2.2)) := by
    rw [hM2, s1, bnd]
    dsimp only
    rw [hM3]
  have x4 : XF ci wc w4 := XF_tr x3 t3
  have y4 : YL t wm v4 := YF_tr yZ (YF_l t4)
  rcases t5 with ⟨e1, ep, M, e2, e3, e4, ⟨e5, e6, e7⟩, e8, e9, e10, e11, e12, e13⟩ | ⟨e1, f, e2, e3⟩
  · refine ⟨w4, 1, v4, hRB, ?_, x4, y4, Or.inl ⟨rfl, h12', ?_, ([(0, r'')], M), ?_⟩⟩
    · rw [hMM, t2, bnd]
      dsimp only
      rw [gd_t (by omega), e1]
    · rw [t4.1.2 24 (by decide)]; exact Z24
    · have hln := e4.ln (Int.le_refl 0)
      have hKC := e4.2.2.2.1
      have hl1 : ((Cs ++ [([(0, r'')], M)]).length : Int) = Cs.length + 1 := by rw [List.length_append]; rfl
      have hl0 : (0 : Int) + (Cs.length : Int) = told := by omega
      refine ⟨⟨_, _, JC_re e4 (Int.le_refl 0)⟩, PC_snoc Cs 0 (PC_X x4 (by omega) hPC) ?_, PM_snoc Cs 0 (PM_Y y4 (by omega) hPM) ?_, fun C hC => ?_, ⟨by rw [hl1, e7]; omega, by rw [hl1, e8]; omega⟩, ?_, fun C hC => ?_⟩
      · rw [hl0]
        have w13 : w4 13 ci bc = 48 + 256 * r'' := by rw [t3.2.2.2.1 bc (by omega)]; exact A13
        have w14 : w4 14 ci told = bc := by rw [e11]; exact A14
        refine ⟨⟨by rw [w14]; omega, ?_, ?_, by rw [e5]; exact hKC.1, by rw [e5, e6], by rw [e6]; omega⟩, by rw [e6, hKC.2.1]; exact Int.le_refl _⟩
        · rw [w14]
          exact ⟨w13, trivial⟩
        · rw [e5, w14]
          rfl
      · rw [hl0]
        refine ⟨⟨?_, ?_⟩, fun q => absurd q (by decide), fun q => ?_⟩
        · unfold clMs
          rw [if_pos rfl]
          exact ⟨r'', rfl, e12.trans Z0⟩
        · rcases e10 with ⟨g1, g2⟩ | ⟨g1, g2, g3⟩
          · exact Or.inl ⟨g1, by rw [g2]; decide⟩
          · exact Or.inr ⟨g1, by rw [g2]; omega, by rw [g2]; exact hKC.2.2.1, by rw [g2, g3], by rw [g3]; omega⟩
        · rcases e10 with ⟨g1, g2⟩ | ⟨g1, g2, g3⟩
          · exact absurd g1 q
          · rw [g3, hKC.2.2.2]; exact Int.le_refl _
      · rcases List.mem_append.mp hC with q | q
        · exact hcl C q
        · rw [List.mem_singleton.mp q]
          have hp60 := e4.2.2.1.2.2
          have hp0 := hJ3.2.2.1.2.1
          refine ⟨fun x hx => ?_, fun x hx => ?_, ?_, ?_, rfl, fun q => (e2 q).2 []⟩
          · rw [List.mem_singleton.mp hx]
            exact Or.inl ⟨rfl, hr0, by show r'' ≤ 99999; omega⟩
          · exact (e2 (List.ne_nil_of_mem hx)).1 x hx
          · have := cntV_1 (x := ((0 : Int), r''))
            show cntV [((0 : Int), r'')] ≤ 60
            omega
          · show cntV M ≤ 60
            omega
      · rw [x4.2.2.1 7 (by omega)]; exact h7
      · rcases List.mem_append.mp hC with q | q
        · exact ha C q
        · rw [List.mem_singleton.mp q]
          exact ⟨r'', rfl, hr0, by omega⟩
  · refine ⟨w4, 0, v4, hRB, ?_, x4, y4, Or.inr ⟨rfl, f, e2.1, e3⟩⟩
    rw [hMM, t2, bnd]
    dsimp only
    rw [gd_t (by omega), e1]
end
