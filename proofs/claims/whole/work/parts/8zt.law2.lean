section
variable {d d' g : Nat} {T : Int → Int} {n j : Int} {wc wm : zW}
def lim (f : Nat) : Int := if f = 0 then 500 else 1000
theorem m_lawC {p : Int} {f : Nat} {vX : zW} (h : JR T n wc vX) (h18 : vX 11 0 18 = wc 5 0 4) (hf : f < 4) (hW : WD T n (wc 5 0 4) (lawCW.getD f [])) : M_lawClause (g + 2) p vX = (M_sets (g + 1) (54 + f) (lim f) p vX).bind fun r => gd (0 ≤ r.1 ∧ r.1 ≤ 1) (some (r.1, r.2)) := by
  have : f = 0 ∨ f = 1 ∨ f = 2 ∨ f = 3 := by omega
  rcases this with rfl | rfl | rfl | rfl
  · rw [e_M_lawClause, i_step h h18 hW, if_neg (by decide), bnd]
    dsimp only
    rw [if_pos rfl, i_drift h h18 hW, if_pos (show w_drift = lawCW.getD 0 [] from rfl), bnd]
    dsimp only
    rw [if_neg (by decide)]
    rfl
  · rw [e_M_lawClause, i_step h h18 hW, if_neg (by decide), bnd]
    dsimp only
    rw [if_pos rfl, i_drift h h18 hW, if_neg (by decide), bnd]
    dsimp only
    rw [if_pos rfl, i_feel h h18 hW, if_pos (show w_feel = lawCW.getD 1 [] from rfl), bnd]
    dsimp only
    rw [if_neg (by decide)]
    rfl
  · rw [e_M_lawClause, i_step h h18 hW, if_neg (by decide), bnd]
    dsimp only
    rw [if_pos rfl, i_drift h h18 hW, if_neg (by decide), bnd]
    dsimp only
    rw [if_pos rfl, i_feel h h18 hW, if_neg (by decide), bnd]
    dsimp only
    rw [if_pos rfl, i_see h h18 hW, if_pos (show w_see = lawCW.getD 2 [] from rfl), bnd]
    dsimp only
    rw [if_neg (by decide)]
    rfl
  · rw [e_M_lawClause, i_step h h18 hW, if_neg (by decide), bnd]
    dsimp only
    rw [if_pos rfl, i_drift h h18 hW, if_neg (by decide), bnd]
    dsimp only
    rw [if_pos rfl, i_feel h h18 hW, if_neg (by decide), bnd]
    dsimp only
    rw [if_pos rfl, i_see h h18 hW, if_neg (by decide), bnd]
    dsimp only
    rw [if_pos rfl]
    rfl
theorem m_lawS {p : Int} {vX : zW} (h : JR T n wc vX) (h18 : vX 11 0 18 = wc 5 0 4) (hW : WD T n (wc 5 0 4) w_step) : M_lawClause (g + 2) p vX = (M_clauseOf (g + 1) 0 1 vX).bind fun r => gd (0 ≤ r.1 ∧ r.1 ≤ 1) (some (r.1, r.2)) := by
  rw [e_M_lawClause, i_step h h18 hW, if_pos rfl, bnd]
  dsimp only
  rw [if_neg (by decide)]
theorem s_law7 {x told : Int} {f : Nat} {w : zW} (hf : f < 4) : Reader_readLaw_7 (d + 1) j x told f w = (Reader_next d w).bind fun r1 => (Reader_number d 0 (lim f) r1.2).bind fun r2 => Reader_readLaw_19 (d + 1) j x told f (z_up r2.2 2 j (1 + f) r2.1) := by
  have : f = 0 ∨ f = 1 ∨ f = 2 ∨ f = 3 := by omega
  rw [e_Reader_readLaw_7]
  rcases this with rfl | rfl | rfl | rfl <;> rfl
theorem s_law7n {x told : Int} {w : zW} : Reader_readLaw_7 (d + 1) j x told (-1) w = (Reader_next d w).bind fun r1 => Reader_readLaw_19 (d + 1) j x told (-1) r1.2 := by
  rw [e_Reader_readLaw_7]
  rfl
theorem s_law7s {x told : Int} {w : zW} : Reader_readLaw_7 (d + 1) j x told 4 w = (Reader_next d w).bind fun r1 => (Clauses_openOne d (r1.2 5 0 8) r1.2).bind fun r2 => (Reader_sum d r2.2).bind fun r3 => CIF d (fun w => Reader_readLaw_19 (d + 1) j x told 4 w) r3.2 := by
  rw [e_Reader_readLaw_7]
  rfl
theorem CF_2 {f i s v : Int} {w : zW} (h : CF f w) : CF f (z_up w 2 i s v) := by
  unfold CF at *
  rw [up_c (by decide), up_c (by decide)]
  exact h
theorem l_clause {x : Nat} {Cs : List clau} {told : Int} (h : LU T n j x Cs wc wm) (ht : 0 ≤ j ∧ j < 6) (hto : Cs.length ≤ told) (h12 : told ≤ 12) (h24 : wm 11 0 24 = told) :
    ∃ wc' l5 rm wm', Reader_readLaw_1 (d + 27) j 1 x told wc = Reader_readLaw_19 (d + 27) j x told l5 wc' ∧ M_clauseHere (d' + 11) wm = some (rm, wm') ∧ XL j wc wc' ∧ YW j wm wm' ∧ ((rm = 1 ∧ told < 12 ∧ wm' 11 0 24 = told + 1 ∧ ∃ (k : Nat) (Cs' : List clau), k < 5 ∧ l5 = k ∧ Cs'.length ≤ Cs.length + 1 ∧ LU T n j (x ||| 2 ^ k) Cs' wc' wm') ∨ (rm = 0 ∧ (-1 ≤ l5 ∧ l5 ≤ 4) ∧ ∃ f, CF f wc' ∧ wm' 11 0 19 = f)) := by
  obtain ⟨⟨bc, bm, hJ⟩, hPC, hPM, hcl, ⟨hk, hkm⟩, h7, hx, hSL⟩ := h
  have hq := hJ.1.1.2.2.2.1
  have hn := hJ.1.1.1
  have hbm : 0 ≤ bm ∧ bm ≤ bc := hJ.2.2.2.2.2
  have hu : wc 1 j 5 = bc := by
    have := hJ.2.2.2.1.2.1
    have h0 : (((cls []).length : Nat) : Int) = 0 := rfl
    omega
  have hvm : wm 51 0 j = bm := by
    have := hJ.2.2.2.1.2.2.2
    have h0 : ((([] : List tok).length : Nat) : Int) = 0 := rfl
    omega
  obtain ⟨r, r2, r1⟩ := s_opened (d := d + 23) (told := told) (most := 12) hJ.1.1 ss2 ly2 ok2 (by decide)
  have hJ1 : JC T n j j bc bm [] 0 wc (z_up wm 11 0 18 (wc 5 0 4)) := JC_18 hJ (mF_11 (by decide)) up_h
  have h18 : (z_up wm 11 0 18 (wc 5 0 4)) 11 0 18 = wc 5 0 4 := up_h
  have y1 : YW j wm (z_up wm 11 0 18 (wc 5 0 4)) := YW_m (mF_11 (by decide))
  have v24 : (z_up wm 11 0 18 (wc 5 0 4)) 11 0 24 = told := (up_s (by decide)).trans h24
  have v53 : (z_up wm 11 0 18 (wc 5 0 4)) 53 0 j = Cs.length := (up_c (by decide)).trans hkm
  have vS5 : SL x j wc (z_up wm 11 0 18 (wc 5 0 4)) := SL_eq hSL rfl (fun c hc => upc (by omega))
  have hch := ch_see (g := d' + 9) hJ.1
  generalize z_up wm 11 0 18 (wc 5 0 4) = v1 at *
  have v21 : v1 11 0 21 = j := hJ1.2.1.2.1
  have v19 : v1 11 0 19 = 0 := hJ1.1.2.2.1
  obtain ⟨b, b1, b2, b3⟩ := mh1 (g := d' + 9) hJ1.1 h18
  obtain ⟨c, c1, -, -⟩ := mh2 (g := d' + 9) (p := wc 5 0 4) (l := b) hJ1.1 h18
  have hM : M_clauseHere (d' + 11) wm = if b = 0 then some (0, z_up v1 11 0 19 (1 + 8 * wc 5 0 4 + 0)) else M_clauseHere_29 (d' + 11) (wc 5 0 4) told 12 v1 := by
    rw [hch, b1, c1, e_M_clauseHere_17, v21, if_neg (by omega), e_M_clauseHere_24]
    by_cases z : b = 0
    · rw [if_pos z, if_pos z, m_fails v19 (by decide) (by omega), bnd]
      dsimp only
      rw [gd_t (by decide)]
    · rw [if_neg z, if_neg z, v21, if_neg (by omega), v24]
  have hL1 : Reader_readLaw_1 (d + 27) j 1 x told wc = (Reader_opened (d + 26) 2 told 12 wc).bind fun r1 => if r1.1 < 0 then (Reader_readLaw_7 (d + 27) j x told r1.1 r1.2) else (if 4 ≤ r1.1 then (Reader_readLaw_7 (d + 27) j x told r1.1 r1.2) else (gd (0 ≤ r1.1 ∧ r1.1 < 32) (if (z_and ((x : Int) / 2 ^ r1.1.toNat) 1) = 1 then ((Reader_refuse (d + 26) 4 r1.2).bind fun r2 => Reader_readLaw_7 (d + 27) j x told r1.1 r2.2) else (Reader_readLaw_7 (d + 27) j x told r1.1 r1.2)))) := by
    rw [e_Reader_readLaw_1, if_neg (by decide), if_neg (by omega)]
  -- a clause that can't be
  have bad : ∀ k : Int, (k = 0 ∨ k = 4) → Reader_opened (d + 26) 2 told 12 wc = some (-1, z_up (z_up wc 5 0 2 (1 + 8 * wc 5 0 4 + k)) 5 0 3 (-2)) → ∃ wc', Reader_readLaw_1 (d + 27) j 1 x told wc = Reader_readLaw_19 (d + 27) j x told (-1) wc' ∧ XL j wc wc' ∧ CF (1 + 8 * wc 5 0 4 + k) wc' := fun k hk hop => by
    obtain ⟨x1, x2⟩ := CF_x (k := k) hJ.1.1 (by omega)
    obtain ⟨w2, p1, p2, p3⟩ := s_nxF (d := d + 26) x1
    refine ⟨w2, ?_, (RF_tr x2 p2).x.l, p3⟩
    rw [hL1, hop, bnd]
    dsimp only
    rw [if_pos (by decide), s_law7n, p1, bnd]
  rcases WI_bd r2 ok2 with hr | ⟨hr0, hr1, hr2, hr3⟩
  · -- no word
    rw [if_pos hr] at r1
    obtain ⟨w2, p1, p2, p3⟩ := bad 0 (Or.inl rfl) r1
    have hb0 : b = 0 := by
      rcases b2 with q | q
      · exact q
      · obtain ⟨W, hW, hWD⟩ := b3.1 q
        rcases r2 with ⟨-, k⟩ | ⟨i, -, k, -⟩
        · refine absurd hWD (k W ?_)
          revert hW
          simp only [List.mem_cons, List.not_mem_nil, or_false]
          intro hW
          rcases hW with q | q | q | q | q <;> simp [q]
        · omega
    exact ⟨w2, -1, 0, _, p1, by rw [hM, if_pos hb0], p2, YW_tr y1 (YW_m (mF_11 (by decide))), Or.inr ⟨rfl, by decide, _, p3, up_h⟩⟩
  rw [if_neg (by omega)] at r1
  have hr5 : r < 5 := hr1
  obtain ⟨f, rfl⟩ : ∃ f : Nat, r = f := ⟨r.toNat, by omega⟩
  have hWD : WD T n (wc 5 0 4) (lawCW.getD f []) := by
    rcases r2 with ⟨k, -⟩ | ⟨i, k1, k2, k3, -⟩
    · omega
    · have : i = f := by omega
      subst this
      exact k3
  have hb1 : b = 1 := by
    have : f = 0 ∨ f = 1 ∨ f = 2 ∨ f = 3 ∨ f = 4 := by omega
    rcases this with rfl | rfl | rfl | rfl | rfl
    · exact b3.2 ⟨w_drift, by decide, hWD⟩
    · exact b3.2 ⟨w_feel, by decide, hWD⟩
    · exact b3.2 ⟨w_see, by decide, hWD⟩
    · exact b3.2 ⟨w_hear, by decide, hWD⟩
    · exact b3.2 ⟨w_step, by decide, hWD⟩
  rw [if_neg (show ¬ b = 0 by omega)] at hM
  by_cases h12' : told < 12
  case neg =>
    rw [if_neg h12'] at r1
    obtain ⟨w2, p1, p2, p3⟩ := bad 4 (Or.inr rfl) r1
    refine ⟨w2, -1, 0, z_up v1 11 0 19 (1 + 8 * wc 5 0 4 + 4), p1, ?_, p2, YW_tr y1 (YW_m (mF_11 (by decide))), Or.inr ⟨rfl, by decide, _, p3, up_h⟩⟩
    rw [hM, e_M_clauseHere_29, if_pos (by omega), m_fails v19 (by decide) (by omega), bnd]
    dsimp only
    rw [gd_t (by decide)]
  rw [if_pos h12'] at r1
  have fX : mF [] [24] v1 (z_up v1 11 0 24 (told + 1)) := mF_11 (by decide)
  have hJRX : JR T n wc (z_up v1 11 0 24 (told + 1)) := JR_g hJ1.1 fX (by decide) (by decide) rfl rfl
  have hJKX : JK j j bc bm [] 0 wc (z_up v1 11 0 24 (told + 1)) := JK_g hJ1.2 fX (by decide) (by decide) (by decide) (by decide)
  have yX : YW j wm (z_up v1 11 0 24 (told + 1)) := YW_tr y1 (YW_m (mF_11 (by decide)))
  have x18 : (z_up v1 11 0 24 (told + 1)) 11 0 18 = wc 5 0 4 := (up_s (by decide)).trans h18
  have x24 : (z_up v1 11 0 24 (told + 1)) 11 0 24 = told + 1 := up_h
  have x53 : (z_up v1 11 0 24 (told + 1)) 53 0 j = Cs.length := (up_c (by decide)).trans v53
  have xS5 : SL x j wc (z_up v1 11 0 24 (told + 1)) := SL_eq vS5 rfl (fun c hc => upc (by omega))
  have hM2 : M_clauseHere (d' + 11) wm = (M_lawClause (d' + 10) (wc 5 0 4) (z_up v1 11 0 24 (told + 1))).bind fun r1 => gd (0 ≤ r1.1 ∧ r1.1 ≤ 1) (some (r1.1, r1.2)) := by
    rw [hM, e_M_clauseHere_29, if_neg (by omega), v24, gd_t (by omega), v21, if_neg (by omega)]
  generalize z_up v1 11 0 24 (told + 1) = vX at *
  have X21 : vX 11 0 21 = j := hJKX.1.2.1
  have hrun : rnR let' T n (wc 5 0 4) (wc 5 0 5) ∧ wc 5 0 4 < wc 5 0 5 := by
    rcases TK_let hJ.1.1.2.2.2.2 with ⟨-, z2, z3, z4⟩ | ⟨-, z2⟩
    · refine ⟨z4, ?_⟩
      have := z4.1
      by_cases y : wc 5 0 5 = wc 5 0 4
      · have h3 := z4.2.2
        rw [y] at h3
        rcases h3 with x | x
        · omega
        · exact absurd z3 x
      · omega
    · exact absurd ⟨hr2, hr3⟩ z2
  have hset := z_set (k := f) hx (by omega)
  by_cases hf4 : f < 4
  · -- a number is told
    have hk1 : z_kd (54 + f) = 1 ∧ z_ln (54 + f) = 16 := by
      have : f = 0 ∨ f = 1 ∨ f = 2 ∨ f = 3 := by omega
      rcases this with rfl | rfl | rfl | rfl <;> decide
    have hMC := m_lawC (g := d' + 8) (p := wc 5 0 4) hJRX x18 hf4 hWD
    have hMS : M_sets (d' + 9) (54 + f) (lim f) (wc 5 0 4) vX = if vX (54 + f) 0 j < 0 then (M_passWord (d' + 8) vX).bind fun r1 => (M_numberHere (d' + 8) 0 (lim f) r1.2).bind fun r2 => if r2.1 = 0 then (gd ((0 : Int) ≤ 0 ∧ (0 : Int) ≤ 1) (some (0, r2.2))) else (gd (z_kd (54 + f) = 1 ∧ 0 ≤ (r2.2 11 0 21) ∧ (r2.2 11 0 21) < z_ln (54 + f)) (gd ((0 : Int) ≤ 1 ∧ (1 : Int) ≤ 1) (some (1, z_up r2.2 (54 + f) 0 (r2.2 11 0 21) (r2.2 11 0 20))))) else some (0, z_up vX 11 0 19 (1 + 8 * wc 5 0 4 + 4)) := by
      rw [e_M_sets, X21, gd_t ⟨hk1.1, by omega, by rw [hk1.2]; omega⟩]
      by_cases z : vX (54 + f) 0 j < 0
      · rw [if_pos z, if_pos z]
      · rw [if_neg z, if_neg z, m_fails hJRX.2.2.1 (by decide) (by omega), bnd]
        dsimp only
        rw [gd_t (by decide)]
    have hL2 : Reader_readLaw_1 (d + 27) j 1 x told wc = if (z_and ((x : Int) / 2 ^ ((f : Int)).toNat) 1) = 1 then ((Reader_refuse (d + 26) 4 wc).bind fun r2 => Reader_readLaw_7 (d + 27) j x told f r2.2) else (Reader_readLaw_7 (d + 27) j x told f wc) := by
      rw [hL1, r1, bnd]
      dsimp only
      rw [if_neg (by omega), if_neg (by omega), gd_t (by omega)]
    by_cases hbit : x.testBit f = true
    · -- told before
      have hge := ((xS5 f hf4).1 hbit)
      obtain ⟨z1, z2⟩ := CF_x (k := 4) hJ.1.1 (by decide)
      obtain ⟨w2, p1, p2, p3⟩ := s_nxF (d := d + 26) z1
      obtain ⟨w3, q1, q2, q3⟩ := s_numberF (d := d + 25) (lo := 0) (hi := lim f) p3
      refine ⟨_, f, 0, _, ?_, ?_, XL_tr (RF_tr z2 (RF_tr p2 q2)).x.l XL_2, YW_tr yX (YW_m (mF_11 (s := 19) (v := 1 + 8 * wc 5 0 4 + 4) (by decide))), Or.inr ⟨rfl, by omega, _, CF_2 (s := 1 + f) (v := 0) q3, up_h⟩⟩
      · rw [hL2, if_pos ((z_bit hx (by omega)).2 hbit), s_refuse_x hJ.1.1 (by decide), bnd]
        dsimp only
        rw [s_law7 hf4, p1, bnd]
        dsimp only
        rw [q1, bnd]
      · rw [hM2, hMC, hMS, if_neg (by omega), bnd]
        dsimp only
        rw [gd_t (by decide), bnd]
        dsimp only
        rw [gd_t (by decide)]
    · have hbf : x.testBit f = false := by
        cases hh : x.testBit f
        · rfl
        · exact absurd hh hbit
      have hneg := (xS5 f hf4).2 hbf
      obtain ⟨w1, p1, p2, p3, p4, p5, p6⟩ := j_next2 (d := d + 26) hJRX
      have hpw := m_passWord (d := d' + 7) hJRX.2.1 x18 hq hrun.1
      have hJRY : JR T n w1 (z_up vX 11 0 18 (wc 5 0 5)) := p3 _ (mF_11 (by decide)) up_h
      have hJKY : JK j j bc bm [] 0 w1 (z_up vX 11 0 18 (wc 5 0 5)) := JK_le (JK_m (p6 _ _ _ _ _ _ _ hJKX) (mF_11 (by decide))) (by omega)
      have yY : YW j wm (z_up vX 11 0 18 (wc 5 0 5)) := YW_tr yX (YW_m (mF_11 (by decide)))
      have Y24 : (z_up vX 11 0 18 (wc 5 0 5)) 11 0 24 = told + 1 := (up_s (by decide)).trans x24
      have Y53 : (z_up vX 11 0 18 (wc 5 0 5)) 53 0 j = Cs.length := (up_c (by decide)).trans x53
      have Y5 : ∀ c : Nat, c ≠ 11 → (z_up vX 11 0 18 (wc 5 0 5)) c = vX c := fun c hc => upc hc
      generalize z_up vX 11 0 18 (wc 5 0 5) = vY at *
      obtain ⟨y, w2, rm, v2, t1, t2, t3, t4, t5⟩ := j_numK (d := d + 25) (d' := d' + 7) (lo := 0) (hi := lim f) hJRY
      have hL3 : Reader_readLaw_1 (d + 27) j 1 x told wc = Reader_readLaw_19 (d + 27) j x told f (z_up w2 2 j (1 + f) y) := by
        rw [hL2, if_neg (fun q => hbit ((z_bit hx (by omega)).1 q)), s_law7 hf4, p1, bnd]
        dsimp only
        rw [t1, bnd]
      have xx : XL j wc (z_up w2 2 j (1 + f) y) := XL_tr (p2.f.x.l) (XL_tr t3.x.l XL_2)
      have y2 : YW j wm v2 := YW_tr yY (YW_m (mF_sub t4 (by decide) (by decide)))
      have hM3 : M_clauseHere (d' + 11) wm = ((if rm = 0 then (gd ((0 : Int) ≤ 0 ∧ (0 : Int) ≤ 1) (some (0, v2))) else (gd (z_kd (54 + f) = 1 ∧ 0 ≤ (v2 11 0 21) ∧ (v2 11 0 21) < z_ln (54 + f)) (gd ((0 : Int) ≤ 1 ∧ (1 : Int) ≤ 1) (some ((1 : Int), z_up v2 (54 + f) 0 (v2 11 0 21) (v2 11 0 20)))))).bind fun r => gd (0 ≤ r.1 ∧ r.1 ≤ 1) (some (r.1, r.2))).bind fun r => gd (0 ≤ r.1 ∧ r.1 ≤ 1) (some (r.1, r.2)) := by
        rw [hM2, hMC, hMS, if_pos (by omega), hpw, bnd]
        dsimp only
        rw [t2, bnd]
      rcases t5 with ⟨e1, e2, e3, e4, e5, e6⟩ | ⟨e1, e2, g', e3, e4⟩
      · have hJK2 : JK j j bc bm [] 0 w2 v2 := e6 _ _ _ _ _ (JK_g hJKY t4 (by decide) (by decide) (by decide) (by decide))
        have V21 : v2 11 0 21 = j := hJK2.1.2.1
        have fk : mF [54, 55, 56, 57] [] v2 (z_up v2 (54 + f) 0 j y) := mF_up (by
          have : f = 0 ∨ f = 1 ∨ f = 2 ∨ f = 3 := by omega
          rcases this with rfl | rfl | rfl | rfl <;> decide) (by omega)
        have yk : YW j v2 (z_up v2 (54 + f) 0 j y) := YW_k (by omega)
        refine ⟨_, f, 1, z_up v2 (54 + f) 0 j y, hL3, ?_, xx, YW_tr y2 yk, Or.inl ⟨rfl, h12', ?_, f, Cs, by omega, rfl, by omega, ⟨bc, bm, ?_, ?_⟩, PC_L xx (by omega) hPC, PM_W (YW_tr y2 yk) (by omega) hPM, hcl, ⟨?_, ?_⟩, ?_, hset.2.1, ?_⟩⟩
        · rw [hM3, if_neg (by omega), V21, e3, gd_t ⟨hk1.1, by omega, by rw [hk1.2]; omega⟩, gd_t (by decide), bnd]
          dsimp only
          rw [gd_t (by decide), bnd]
          dsimp only
          rw [gd_t (by decide)]
        · rw [fk.2 24 List.not_mem_nil, t4.2 24 (by decide)]; exact Y24
        · exact JR_g e2 fk (by decide) (by decide) (by funext a b; exact up_c (by decide)) (by funext a b; exact up_c (by decide))
        · exact JK_c (JK_g hJK2 fk (by decide) (by decide) (by decide) (by decide)) (by funext a b; exact up_c (by decide)) (by funext b; exact up_c (by decide)) (up_c (by decide))
        · rw [up_c (by decide), t3.1 1 (by decide), p2.1 1 (by decide)]; exact hk
        · rw [fk.1 53 (by decide) (by decide), t4.1 53 (by decide) (by decide)]; exact Y53
        · rw [xx.2.2.1 7 (by omega)]; exact h7
        · intro f' hf'
          rw [hset.2.2.1]
          by_cases z : f = f'
          · subst z
            refine ⟨fun _ => ?_, fun q => ?_⟩
            · rw [up_h]
              have : (z_up w2 2 j (1 + f) y) 2 j (1 + f) = y := up_h
              rw [this]
              exact ⟨rfl, e4, e5⟩
            · simp at q
          · have hz : decide (f = f') = false := decide_eq_false z
            rw [hz, Bool.or_false]
            have e54 : (z_up v2 (54 + f) 0 j y) (54 + f') 0 j = vX (54 + f') 0 j := by
              rw [up_c (by omega), t4.1 (54 + f') List.not_mem_nil (by omega), Y5 (54 + f') (by omega)]
            have e2c : (z_up w2 2 j (1 + f) y) 2 j (1 + f') = wc 2 j (1 + f') := by
              rw [up_s (by omega), t3.1 2 (by decide), p2.1 2 (by decide)]
            rw [e54, e2c]
            exact xS5 f' hf'
      · refine ⟨_, f, 0, v2, hL3, ?_, xx, y2, Or.inr ⟨rfl, by omega, g', CF_2 e3, e4⟩⟩
        rw [hM3, if_pos e1, gd_t (by decide), bnd]
        dsimp only
        rw [gd_t (by decide), bnd]
        dsimp only
        rw [gd_t (by decide)]
  · -- a step
    have hf : f = 4 := by omega
    subst hf
    have hWs : WD T n (wc 5 0 4) w_step := hWD
    obtain ⟨w1, p1, p2, p3, p4, p5, p6⟩ := j_next2 (d := d + 26) hJRX
    have hpw := m_passWord (d := d' + 7) hJRX.2.1 x18 hq hrun.1
    have hJRY : JR T n w1 (z_up vX 11 0 18 (wc 5 0 5)) := p3 _ (mF_11 (by decide)) up_h
    have hJKY : JK j j bc bm [] 0 w1 (z_up vX 11 0 18 (wc 5 0 5)) := JK_le (JK_m (p6 _ _ _ _ _ _ _ hJKX) (mF_11 (by decide))) (by omega)
    have yY : YW j wm (z_up vX 11 0 18 (wc 5 0 5)) := YW_tr yX (YW_m (mF_11 (by decide)))
    have Y21 : (z_up vX 11 0 18 (wc 5 0 5)) 11 0 21 = j := hJKY.1.2.1
    have Y24 : (z_up vX 11 0 18 (wc 5 0 5)) 11 0 24 = told + 1 := (up_s (by decide)).trans x24
    have Y53 : (z_up vX 11 0 18 (wc 5 0 5)) 53 0 j = Cs.length := (up_c (by decide)).trans x53
    have Y51 : (z_up vX 11 0 18 (wc 5 0 5)) 51 0 j = bm := by
      have := hJKY.2.2.1.2.2.2
      have h0 : ((([] : List tok).length : Nat) : Int) = 0 := rfl
      omega
    have YS : SL x j wc (z_up vX 11 0 18 (wc 5 0 5)) := SL_eq xS5 rfl (fun c hc => upc (by omega))
    have hM3 : M_clauseOf (d' + 9) 0 1 vX = (M_sum (d' + 8) (z_up (z_up (z_up vX 11 0 18 (wc 5 0 5)) 52 0 (60 * j + 5 * (Cs.length : Int)) 0) 52 0 (60 * j + 5 * (Cs.length : Int) + 1) bm)).bind fun r2 => if r2.1 = 0 then (gd ((0 : Int) ≤ 0 ∧ (0 : Int) ≤ 1) (some (0, r2.2))) else (M_clauseOf_3 (d' + 9) (60 * j + 5 * (Cs.length : Int)) r2.2) := by
      rw [e_M_clauseOf, hpw, bnd]
      dsimp only
      rw [gd_t (by rw [Y21]; omega), gd_t (by rw [Y21]; omega), gd_t (by rw [Y21, Y53]; omega), gd_t (by rw [Y21, Y53]; omega), gd_t (by rw [Y21, Y53]; omega), gd_t (by rw [Y21, Y53]; omega), gd_t (by rw [Y21]; omega), gd_t (by rw [Y21, Y53]; omega), if_neg (by decide), Y21, Y53, Y51]
    have fZ : mF [52] [] (z_up vX 11 0 18 (wc 5 0 5)) (z_up (z_up (z_up vX 11 0 18 (wc 5 0 5)) 52 0 (60 * j + 5 * (Cs.length : Int)) 0) 52 0 (60 * j + 5 * (Cs.length : Int) + 1) bm) := mF_tr (mF_up (by decide) (by decide)) (mF_up (by decide) (by decide))
    have yZ : YW j wm (z_up (z_up (z_up vX 11 0 18 (wc 5 0 5)) 52 0 (60 * j + 5 * (Cs.length : Int)) 0) 52 0 (60 * j + 5 * (Cs.length : Int) + 1) bm) := YW_tr yY (YL_w (YF_tr (YF_52 (by rw [Y53]; omega)) (YF_52 (by rw [up_c (by decide), Y53]; omega))))
    have Z1 : (z_up (z_up (z_up vX 11 0 18 (wc 5 0 5)) 52 0 (60 * j + 5 * (Cs.length : Int)) 0) 52 0 (60 * j + 5 * (Cs.length : Int) + 1) bm) 52 0 (60 * j + 5 * (Cs.length : Int) + 1) = bm := up_h
    generalize z_up (z_up (z_up vX 11 0 18 (wc 5 0 5)) 52 0 (60 * j + 5 * (Cs.length : Int)) 0) 52 0 (60 * j + 5 * (Cs.length : Int) + 1) bm = vZ at *
    generalize z_up vX 11 0 18 (wc 5 0 5) = vY at *
    have k1 : w1 1 = wc 1 := p2.1 1 (by decide)
    obtain ⟨o1, o2⟩ := s_openOne (d := d + 26) (wc := w1) (ci := j) (k := Cs.length) (u := bc) (by rw [k1, hk]) (by rw [k1]; exact hu) (by omega)
    have O14 : (z_up w1 14 j (Cs.length : Int) bc) 14 j (Cs.length : Int) = bc := up_h
    have O5 : (z_up w1 14 j (Cs.length : Int) bc) 5 = w1 5 := by funext x y; exact up_c (by decide)
    have O20 : (z_up w1 14 j (Cs.length : Int) bc) 20 = w1 20 := by funext x y; exact up_c (by decide)
    have O13 : (z_up w1 14 j (Cs.length : Int) bc) 13 = w1 13 := by funext x y; exact up_c (by decide)
    have O2 : (z_up w1 14 j (Cs.length : Int) bc) 2 = wc 2 := by
      rw [← p2.1 2 (by decide)]
      funext x y
      exact up_c (by decide)
    have O15 : (z_up w1 14 j (Cs.length : Int) bc) 1 j 5 = w1 1 j 5 := up_c (by decide)
    have O16 : (z_up w1 14 j (Cs.length : Int) bc) 1 j 6 = Cs.length := by rw [up_c (by decide), k1, hk]
    generalize z_up w1 14 j (Cs.length : Int) bc = w2 at *
    have hJ2 : JC T n j j bc bm [] 0 w2 vZ := ⟨JR_g hJRY fZ (by decide) (by decide) O5 O20, JK_c (JK_g hJKY fZ (by decide) (by decide) (by decide) (by decide)) O5 (by rw [O13]) O15⟩
    have h72 : w2 5 0 7 = 0 := by rw [O5, p2.2 7 (by decide) (by decide) (by decide)]; exact h7
    have hv : vS j 0 5 := Or.inl ⟨ht.2, rfl, rfl⟩
    obtain ⟨w3, rm, v3, t1, t2, t3, t4, t5⟩ := j_sum (d := d + 22) (d' := d' + 3) hv (Int.le_refl 0) h72 hJ2
    have x3 : XF j wc w3 := XF_tr p2.f.x (XF_tr o2 t3.x)
    have y3 : YW j wm v3 := YW_tr yZ (YL_w (YF_l t4.t.y))
    have w36 : w3 1 j 6 = Cs.length := by rw [t3.2.2.1 6 (by decide)]; exact O16
    have hL2 : Reader_readLaw_1 (d + 27) j 1 x told wc = CIF (d + 26) (fun w => Reader_readLaw_19 (d + 27) j x told ((4 : Nat) : Int) w) w3 := by
      have h4 : ((4 : Nat) : Int) = 4 := rfl
      rw [hL1, r1, bnd]
      dsimp only
      have c1 : w1 5 0 8 = j := hJKY.1.1
      rw [h4, if_neg (by omega), if_pos (by omega), s_law7s, p1, bnd]
      dsimp only
      rw [c1, o1, bnd]
      dsimp only
      rw [t1, bnd]
    have hM4 : M_clauseHere (d' + 11) wm = (((if rm = 0 then (gd ((0 : Int) ≤ 0 ∧ (0 : Int) ≤ 1) (some (0, v3))) else (M_clauseOf_3 (d' + 9) (60 * j + 5 * (Cs.length : Int)) v3))).bind fun r => gd (0 ≤ r.1 ∧ r.1 ≤ 1) (some (r.1, r.2))).bind fun r => gd (0 ≤ r.1 ∧ r.1 ≤ 1) (some (r.1, r.2)) := by
      rw [hM2, m_lawS (g := d' + 8) hJRX x18 hWs, hM3, t2, bnd]
    rcases t5 with ⟨e1, ep, M1, e2, e3, e4⟩ | ⟨e1, f, e2, e3⟩
    · have e4' : JC T n j j bc bm M1 0 w3 v3 := e4
      have hre := JC_re e4' (Int.le_refl 0)
      have hln := e4'.ln (Int.le_refl 0)
      have hKC := e4'.2.2.2.1
      have h73 : w3 5 0 7 = 0 := by rw [t3.2.2.2.1 7 (by omega)]; exact h72
      have v353 : v3 53 0 j = Cs.length := by rw [t4.1.1 53 (by decide) (by decide), fZ.1 53 (by decide) (by decide)]; exact Y53
      have v352 : v3 52 = vZ 52 := t4.1.1 52 (by decide) (by decide)
      obtain ⟨w4, rm2, v4, u1, u2, u3, u4, u5⟩ := j_if (d := d) (d' := d') hv (Int.le_refl 0) h73 hre w36 (by omega) v353 (by omega) rfl
      have hL3 := u1 (fun w => Reader_readLaw_19 (d + 27) j x told ((4 : Nat) : Int) w)
      have x4 : XL j wc w4 := (XF_tr x3 u3).l
      have y4 : YW j wm v4 := YW_tr y3 (YL_w (YF_l u4))
      rw [if_neg (show ¬ rm = 0 by omega), u2, bnd] at hM4
      dsimp only at hM4
      rcases u5 with ⟨g1, gp, M, g2, g3, g4, ⟨g5, g6, g7⟩, g8, g9, g10, g11, g12, g13⟩ | ⟨g1, f, g2, g3⟩
      · rw [g1, gd_t (by decide), bnd] at hM4
        dsimp only at hM4
        rw [gd_t (by decide)] at hM4
        have hln2 := g4.ln (Int.le_refl 0)
        have hKC2 := g4.2.2.2.1
        have hl1 : ((Cs ++ [(M1, M)]).length : Int) = Cs.length + 1 := by rw [List.length_append]; rfl
        have hl0 : (0 : Int) + (Cs.length : Int) = Cs.length := by omega
        have w414 : w4 14 j (Cs.length : Int) = bc := by rw [g11, t3.1 14 (by decide)]; exact O14
        have w313 : ∀ p, p < w3 1 j 5 → w4 13 j p = w3 13 j p := u3.2.2.2.1
        refine ⟨w4, 4, 1, v4, hL2.trans hL3, hM4, x4, y4, Or.inl ⟨rfl, h12', ?_, 4, Cs ++ [(M1, M)], by decide, rfl, by omega, ⟨_, _, JC_re g4 (Int.le_refl 0)⟩, PC_snoc Cs 0 (PC_L x4 (by omega) hPC) ?_, PM_snoc Cs 0 (PM_W y4 (by omega) hPM) ?_, fun C hC => ?_, ⟨by rw [hl1, g7], by rw [hl1, g8]⟩, ?_, hset.2.1, ?_⟩⟩
        · rw [u4.1.2 24 (by decide), t4.1.2 24 (by decide), fZ.2 24 List.not_mem_nil]; exact Y24
        · rw [hl0]
          refine ⟨⟨by rw [w414]; omega, ?_, ?_, by rw [g5]; exact hKC2.1, by rw [g5, g6], by rw [g6]; omega⟩, by rw [g6, hKC2.2.1]; exact Int.le_refl _⟩
          · rw [w414]
            refine seg_congr (fun p p0 p1 => w313 p ?_) hKC.1
            rw [hKC.2.1]
            exact p1
          · rw [g5, w414]
            exact hKC.2.1
        · rw [hl0]
          have v41 : v4 52 0 (60 * j + 5 * (Cs.length : Int) + 1) = bm := by rw [g13, v352]; exact Z1
          refine ⟨⟨?_, ?_⟩, fun _ => ?_, fun q => ?_⟩
          · unfold clMs
            rw [if_neg (by decide)]
            refine ⟨by rw [v41]; omega, ?_, by rw [v41, g9]; exact hKC.2.2.2, by rw [g9, hKC.2.2.2]; omega⟩
            rw [v41]
            refine seg_congr (fun p p0 p1 => u4.2.1 _ (Or.inl ?_)) hKC.2.2.1
            rw [hKC.2.2.2]
            have p1' : p < bm + (M1.length : Int) := p1
            omega
          · rcases g10 with ⟨k1, k2⟩ | ⟨k1, k2, k3⟩
            · exact Or.inl ⟨k1, by rw [k2]; decide⟩
            · exact Or.inr ⟨k1, by rw [k2, hKC.2.2.2]; omega, by rw [k2]; exact hKC2.2.2.1, by rw [k2, k3], by rw [k3]; omega⟩
          · rw [g9]
            exact u4.2.2.1.2
          · rcases g10 with ⟨k1, k2⟩ | ⟨k1, k2, k3⟩
            · exact absurd k1 q
            · rw [k3, hKC2.2.2.2]; exact Int.le_refl _
        · rcases List.mem_append.mp hC with q | q
          · exact hcl C q
          · rw [List.mem_singleton.mp q]
            have hp60 := g4.2.2.1.2.2
            have hp0 := hJ2.2.2.1.2.1
            refine ⟨e2.1, fun x hx => (g2 (List.ne_nil_of_mem hx)).1 x hx, ?_, ?_, e2.2 [], fun q => (g2 q).2 []⟩
            · show cntV M1 ≤ 60
              omega
            · show cntV M ≤ 60
              omega
        · rw [x4.2.2.1 7 (by omega)]; exact h7
        · intro f' hf'
          rw [hset.2.2.1]
          have hz : decide (4 = f') = false := decide_eq_false (by omega)
          rw [hz, Bool.or_false]
          have e2c : w4 2 = wc 2 := by rw [u3.1 2 (by decide), t3.1 2 (by decide)]; exact O2
          have e54 : v4 (54 + f') = vY (54 + f') := by
            have m1 : ∀ S : List Nat, S = [50, 51, 52, 53, 65] → 54 + f' ∉ S := fun S hS => by
              rw [hS]
              simp only [List.mem_cons, List.not_mem_nil, or_false]
              omega
            have m2 : 54 + f' ∉ ([50, 51] : List Nat) := by
              simp only [List.mem_cons, List.not_mem_nil, or_false]
              omega
            have m3 : 54 + f' ∉ ([52] : List Nat) := by
              simp only [List.mem_cons, List.not_mem_nil, or_false]
              omega
            rw [u4.1.1 (54 + f') (m1 _ rfl) (by omega), t4.1.1 (54 + f') m2 (by omega), fZ.1 (54 + f') m3 (by omega)]
          rw [e2c, e54]
          exact YS f' hf'
      · rw [g1, gd_t (by decide), bnd] at hM4
        dsimp only at hM4
        rw [gd_t (by decide)] at hM4
        exact ⟨w4, 4, 0, v4, hL2.trans hL3, hM4, x4, y4, Or.inr ⟨rfl, by decide, f, g2.1, g3⟩⟩
    · obtain ⟨w4, u1, u2, u3, u4⟩ := F_if (d := d) e2 w36 (by omega)
      have hL3 := u1 (fun w => Reader_readLaw_19 (d + 27) j x told ((4 : Nat) : Int) w)
      rw [if_pos e1, gd_t (by decide), bnd] at hM4
      dsimp only at hM4
      rw [gd_t (by decide), bnd] at hM4
      dsimp only at hM4
      rw [gd_t (by decide)] at hM4
      exact ⟨w4, 4, 0, v3, hL2.trans hL3, hM4, (XF_tr x3 u2).l, y3, Or.inr ⟨rfl, by decide, f, u3.1, e3⟩⟩
end
