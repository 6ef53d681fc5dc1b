/-! a clause's test, if it has one -/
noncomputable def CIF (D : Nat) (K : zW → zR) (w : zW) : zR := (Reader_opensTest D w).bind fun r5 => if r5.1 = 0 then ((Clauses_closeOne D (r5.2 5 0 8) r5.2).bind fun r6 => K r6.2) else ((Reader_test D 0 r5.2).bind fun r6 => (Clauses_closeOne D (r6.2 5 0 8) r6.2).bind fun r7 => K r7.2)
section
variable {d d' : Nat} {T : Int → Int} {n ci t bc bm pend : Int} {wc wm : zW}
theorem FS_c {f P : Int} {w : zW} (h : FS ci f P wc) (h5 : w 5 = wc 5) (h1 : w 1 ci 5 = wc 1 ci 5) : FS ci f P w := by
  unfold FS CF at *
  rw [h5, h1]
  exact h
theorem F_if {f P k : Int} (h : FS ci f P wc) (hk : wc 1 ci 6 = k) (h12 : 0 ≤ k ∧ k < 12) : ∃ wc', (∀ K, CIF (d + 26) K wc = K wc') ∧ XF ci wc wc' ∧ FS ci f P wc' ∧ wc' 1 ci 6 = k + 1 := by
  obtain ⟨a1, a2⟩ := s_openTest (d := d + 25) hk rfl h12
  have e5 : (z_up wc 15 ci k (wc 1 ci 5)) 5 = wc 5 := by funext x y; exact up_c (by decide)
  have hF1 : FS ci f P (z_up wc 15 ci k (wc 1 ci 5)) := FS_c h e5 (up_c (by decide))
  have hk1 : (z_up wc 15 ci k (wc 1 ci 5)) 1 ci 6 = k := (up_c (by decide)).trans hk
  generalize z_up wc 15 ci k (wc 1 ci 5) = w1 at *
  obtain ⟨b1, b2⟩ := s_closeOne (d := d + 26) hk1 rfl h12
  have hF2 : FS ci f P (z_up (z_up w1 16 ci k (w1 1 ci 5)) 1 ci 6 (k + 1)) := FS_c hF1 (by funext x y; rw [up_c (by decide), up_c (by decide)]) (by rw [up_s (by decide), up_c (by decide)])
  refine ⟨_, fun K => ?_, XF_tr a2 b2, hF2, up_h⟩
  unfold CIF
  rw [e_Reader_opensTest, h.2.1, a1, bnd]
  dsimp only
  rw [s_wordF hF1.1, bnd]
  dsimp only
  rw [if_pos rfl, gd_t (by decide), bnd]
  dsimp only
  rw [if_pos rfl, hF1.2.1, b1, bnd]
/-- how the reading of a test ends -/
def IFE (T : Int → Int) (n ci t bc bm pend nW k km l3 : Int) (wc wm wc' : zW) (rm : Int) (wm' : zW) : Prop := (rm = 1 ∧ wc 5 0 4 ≤ wc' 5 0 4 ∧ ∃ M, (M ≠ [] → OUT nW [] [true] M) ∧ wc 5 0 6 + cntV M ≤ wc' 5 0 6 ∧ JC T n ci t bc bm M pend wc' wm' ∧ (wc' 15 ci k = bc ∧ wc' 16 ci k = bc + (cls M).length ∧ wc' 1 ci 6 = k + 1) ∧ wm' 53 0 t = km + 1 ∧ wm' 52 0 (l3 + 2) = bm ∧ ((M = [] ∧ wm' 52 0 (l3 + 3) = -1) ∨ (M ≠ [] ∧ wm' 52 0 (l3 + 3) = bm ∧ wm' 52 0 (l3 + 4) = bm + M.length)) ∧ wc' 14 = wc 14 ∧ wm' 52 0 l3 = wm 52 0 l3 ∧ wm' 52 0 (l3 + 1) = wm 52 0 (l3 + 1)) ∨ (rm = 0 ∧ ∃ f, FS ci f 70 wc' ∧ wm' 11 0 19 = f)
theorem OUT_ne {nW : Int} {M : List tok} (h : OUT nW [] [true] M) : M ≠ [] := fun q => by
  have := h.2 []
  rw [q] at this
  exact absurd this (by decide)
theorem m_close {l3 km t5 : Int} {w : zW} (h21 : w 11 0 21 = t) (ht : 0 ≤ t ∧ t < 12) (hl : l3 = 60 * t + 5 * km) (hkm : 0 ≤ km ∧ km < 12) (h51 : w 51 0 t = t5) (h53 : w 53 0 t = km) : M_clauseOf_6 d' l3 w = some (1, z_up (z_up w 52 0 (l3 + 4) t5) 53 0 t (km + 1)) ∧ YF t w (z_up (z_up w 52 0 (l3 + 4) t5) 53 0 t (km + 1)) := by
  refine ⟨?_, YF_tr (YF_52 (by omega)) (YF_53 (by rw [up_c (by decide)]; omega))⟩
  rw [e_M_clauseOf_6, h21, gd_t (by omega), gd_t (by omega), gd_t (by omega), gd_t (by omega), h51, h53, gd_t (by omega), gd_t (by omega), gd_t (by decide)]
theorem j_if {sid nW k km l3 : Int} (hv : vS t sid nW) (hp : 0 ≤ pend) (h7 : wc 5 0 7 = sid) (h : JC T n ci t bc bm [] pend wc wm) (hk : wc 1 ci 6 = k) (h12 : 0 ≤ k ∧ k < 12) (hkm : wm 53 0 t = km) (hm12 : 0 ≤ km ∧ km < 12) (hl : l3 = 60 * t + 5 * km) :
    ∃ wc' rm wm', (∀ K, CIF (d + 26) K wc = K wc') ∧ M_clauseOf_3 (d' + 9) l3 wm = some (rm, wm') ∧ XF ci wc wc' ∧ YF t wm wm' ∧ IFE T n ci t bc bm pend nW k km l3 wc wm wc' rm wm' := by
  have hu : wc 1 ci 5 = bc := by
    have := h.2.2.2.1.2.1
    have h0 : (((cls []).length : Nat) : Int) = 0 := rfl
    omega
  have hvm : wm 51 0 t = bm := by
    have := h.2.2.2.1.2.2.2
    have h0 : ((([] : List tok).length : Nat) : Int) = 0 := rfl
    omega
  have ht : wm 11 0 21 = t ∧ 0 ≤ t ∧ t < 12 := h.2.1.2
  have hci : wc 5 0 8 = ci := h.2.1.1
  have hq := h.1.1.2.2.2.1
  obtain ⟨a1, a2⟩ := s_openTest (d := d + 25) hk hu h12
  have e5 : (z_up wc 15 ci k bc) 5 = wc 5 := by funext x y; exact up_c (by decide)
  have e20 : (z_up wc 15 ci k bc) 20 = wc 20 := by funext x y; exact up_c (by decide)
  have e13 : (z_up wc 15 ci k bc) 13 = wc 13 := by funext x y; exact up_c (by decide)
  have e14 : (z_up wc 15 ci k bc) 14 = wc 14 := by funext x y; exact up_c (by decide)
  have e15 : (z_up wc 15 ci k bc) 15 ci k = bc := up_h
  have e16 : (z_up wc 15 ci k bc) 1 ci 6 = k := (up_c (by decide)).trans hk
  have e17 : (z_up wc 15 ci k bc) 1 ci 5 = wc 1 ci 5 := up_c (by decide)
  generalize z_up wc 15 ci k bc = wA at *
  -- the model's start
  have fB : mF [52] [] wm (z_up (z_up wm 52 0 (l3 + 2) bm) 52 0 (l3 + 3) (-1)) := mF_tr (mF_up (by decide) (by decide)) (mF_up (by decide) (by decide))
  have yB : YF t wm (z_up (z_up wm 52 0 (l3 + 2) bm) 52 0 (l3 + 3) (-1)) := YF_tr (YF_52 (by omega)) (YF_52 (by rw [up_c (by decide)]; omega))
  have b2' : (z_up (z_up wm 52 0 (l3 + 2) bm) 52 0 (l3 + 3) (-1)) 52 0 (l3 + 2) = bm := by rw [up_s (by omega), up_h]
  have b3' : (z_up (z_up wm 52 0 (l3 + 2) bm) 52 0 (l3 + 3) (-1)) 52 0 (l3 + 3) = -1 := up_h
  have b0' : (z_up (z_up wm 52 0 (l3 + 2) bm) 52 0 (l3 + 3) (-1)) 52 0 l3 = wm 52 0 l3 := by rw [up_s (by omega), up_s (by omega)]
  have b1' : (z_up (z_up wm 52 0 (l3 + 2) bm) 52 0 (l3 + 3) (-1)) 52 0 (l3 + 1) = wm 52 0 (l3 + 1) := by rw [up_s (by omega), up_s (by omega)]
  have hM : M_clauseOf_3 (d' + 9) l3 wm = (M_takesWord (d' + 8) 26982 (z_up (z_up wm 52 0 (l3 + 2) bm) 52 0 (l3 + 3) (-1))).bind fun r1 => if r1.1 = 0 then (M_clauseOf_6 (d' + 9) l3 r1.2) else (gd (inI (l3 + 3)) (gd (0 ≤ (r1.2 11 0 21) ∧ (r1.2 11 0 21) < 16) (gd (0 ≤ (l3 + 3) ∧ (l3 + 3) < 720) ((M_tested (d' + 8) (z_up r1.2 52 0 (l3 + 3) (r1.2 51 0 (r1.2 11 0 21)))).bind fun r2 => if r2.1 = 0 then (gd ((0 : Int) ≤ 0 ∧ (0 : Int) ≤ 1) (some (0, r2.2))) else (M_clauseOf_6 (d' + 9) l3 r2.2))))) := by
    rw [e_M_clauseOf_3, gd_t (by omega), gd_t (by omega), gd_t (by omega), gd_t (by omega), gd_t (by omega), ht.1, hvm]
  generalize z_up (z_up wm 52 0 (l3 + 2) bm) 52 0 (l3 + 3) (-1) = wB at *
  have hJRB : JR T n wA wB := JR_g h.1 fB (by decide) (by decide) e5 e20
  have hJKB : JK ci t bc bm [] pend wA wB := JK_c (JK_g h.2 fB (by decide) (by decide) (by decide) (by decide)) e5 (by rw [e13]) e17
  obtain ⟨r', s1, s2, s3⟩ := j_isWord (d := d' + 6) (code := 26982) (W := ifW) (okW_i (by decide) (by decide) (by decide)) (by decide +kernel) hJRB
  have eA4 : wA 5 0 4 = wc 5 0 4 := by rw [e5]
  have hJRD : JR T n wA (z_up wB 11 0 18 (wA 5 0 4)) := JR_m hJRB (mF_11 (by decide)) up_h
  have hJKD : JK ci t bc bm [] pend wA (z_up wB 11 0 18 (wA 5 0 4)) := JK_m hJKB (mF_11 (by decide))
  have yD : YF t wm (z_up wB 11 0 18 (wA 5 0 4)) := YF_tr yB (YF_m (mF_11 (by decide)))
  have d52 : ∀ x, (z_up wB 11 0 18 (wA 5 0 4)) 52 0 x = wB 52 0 x := fun x => up_c (by decide)
  have d18 : (z_up wB 11 0 18 (wA 5 0 4)) 11 0 18 = wA 5 0 4 := up_h
  have d21 : (z_up wB 11 0 18 (wA 5 0 4)) 11 0 21 = t := hJKD.1.2.1
  have d53 : (z_up wB 11 0 18 (wA 5 0 4)) 53 0 t = km := by rw [up_c (by decide), fB.1 53 (by decide) (by decide)]; exact hkm
  have d51 : (z_up wB 11 0 18 (wA 5 0 4)) 51 0 t = bm := by rw [up_c (by decide), fB.1 51 (by decide) (by decide)]; exact hvm
  generalize z_up wB 11 0 18 (wA 5 0 4) = wD at *
  obtain ⟨r, r1, r2⟩ := s_wordIn (d := d + 23) hJRB.1 ss3 ly3 ok3 (by decide)
  have hopen : Reader_opensTest (d + 26) wc = if r = -1 then some (0, wA) else (Reader_next (d + 25) wA).bind fun r3 => gd ((0 : Int) ≤ 1 ∧ (1 : Int) ≤ 1) (some (1, r3.2)) := by
    rw [e_Reader_opensTest, hci, a1, bnd]
    dsimp only
    rw [r1, bnd]
    dsimp only
    by_cases z : r = -1
    · rw [if_pos z, if_pos z, gd_t (by decide)]
    · rw [if_neg z, if_neg z]
  by_cases hr : r = -1
  · -- none
    have hnW : ¬ WD T n (wA 5 0 4) ifW := fun q => by
      rcases r2 with ⟨-, k⟩ | ⟨i, k1, k2, -, -⟩
      · exact k _ List.mem_cons_self q
      · omega
    have hr' : r' = 0 := by
      rcases s2 with q | q
      · exact q
      · exact absurd (s3.1 q) hnW
    have hciA : wA 5 0 8 = ci := by rw [e5]; exact hci
    obtain ⟨c1, c2⟩ := s_closeOne (d := d + 26) e16 (e17.trans hu) h12
    obtain ⟨m1, m2⟩ := m_close (d' := d' + 9) d21 ht.2 hl hm12 d51 d53
    refine ⟨_, 1, _, fun K => ?_, ?_, XF_tr a2 c2, YF_tr yD m2, Or.inl ⟨rfl, ?_, [], fun q => absurd rfl q, ?_, ⟨?_, ?_⟩, ⟨?_, ?_, up_h⟩, up_h, ?_, Or.inl ⟨rfl, ?_⟩, ?_, ?_, ?_⟩⟩
    · unfold CIF
      rw [hopen, if_pos hr, bnd]
      dsimp only
      rw [if_pos rfl, hciA, c1, bnd]
    · rw [hM, e_M_takesWord, s1, bnd]
      dsimp only
      rw [if_pos hr', gd_t (by decide), bnd]
      dsimp only
      rw [if_pos rfl]
      exact m1
    · rw [up_c (by decide), up_c (by decide), eA4]; exact Int.le_refl _
    · rw [up_c (by decide), up_c (by decide), e5]
      show wc 5 0 6 + ((0 : Nat) : Int) ≤ _
      omega
    · exact JR_g hJRD (mF_tr (mF_up (S := [52, 53]) (T := []) (by decide) (by decide)) (mF_up (by decide) (by decide))) (by decide) (by decide) (by funext x y; rw [up_c (by decide), up_c (by decide)]) (by funext x y; rw [up_c (by decide), up_c (by decide)])
    · exact JK_c (JK_g hJKD (mF_tr (mF_up (S := [52, 53]) (T := []) (by decide) (by decide)) (mF_up (by decide) (by decide))) (by decide) (by decide) (by decide) (by decide)) (by funext x y; rw [up_c (by decide), up_c (by decide)]) (by funext y; rw [up_c (by decide), up_c (by decide)]) (by rw [up_s (by decide), up_c (by decide)])
    · rw [up_c (by decide), up_c (by decide)]; exact e15
    · rw [up_c (by decide), up_h]
      show bc = bc + ((0 : Nat) : Int)
      omega
    · rw [up_c (by decide), up_s (by omega), d52]; exact b2'
    · rw [up_c (by decide), up_s (by omega), d52]; exact b3'
    · funext x y
      rw [up_c (by decide), up_c (by decide), e14]
    · rw [up_c (by decide), up_s (by omega), d52]; exact b0'
    · rw [up_c (by decide), up_s (by omega), d52]; exact b1'
  · -- a test
    have hr0 : WD T n (wA 5 0 4) ifW := by
      rcases r2 with ⟨k, -⟩ | ⟨i, k1, k2, k3, -⟩
      · exact absurd k hr
      · have : i = 0 := by
          have : i < 1 := k1
          omega
        subst this
        exact k3
    obtain ⟨g1, g2, g3, g4⟩ := let_at hJRB.1 (by decide) hr0
    have hr' : ¬ r' = 0 := by have := s3.2 hr0; omega
    have hqA : 0 ≤ wA 5 0 4 ∧ wA 5 0 4 ≤ n := by rw [eA4]; exact hq
    obtain ⟨w1, p1, p2, p3, p4, p5, p6⟩ := j_next2 (d := d + 25) hJRD
    have fF : mF [52] [18] wD (z_up (z_up wD 11 0 18 (wA 5 0 5)) 52 0 (l3 + 3) bm) := mF_tr (mF_11 (by decide)) (mF_up (by decide) (by decide))
    have hJR1 : JR T n w1 (z_up wD 11 0 18 (wA 5 0 5)) := p3 _ (mF_11 (by decide)) up_h
    have hJR2 : JR T n w1 (z_up (z_up wD 11 0 18 (wA 5 0 5)) 52 0 (l3 + 3) bm) := JR_g hJR1 (mF_up (S := [52]) (T := []) (by decide) (by decide)) (by decide) (by decide) rfl rfl
    have hJK2 : JK ci t bc bm [] pend w1 (z_up (z_up wD 11 0 18 (wA 5 0 5)) 52 0 (l3 + 3) bm) := JK_le (p6 _ _ _ _ _ _ _ (JK_g hJKD fF (by decide) (by decide) (by decide) (by decide))) (by omega)
    have yF : YF t wm (z_up (z_up wD 11 0 18 (wA 5 0 5)) 52 0 (l3 + 3) bm) := YF_tr yD (YF_tr (YF_m (mF_11 (by decide))) (YF_52 (by rw [up_c (by decide), d53]; omega)))
    have f52 : ∀ x, x ≠ l3 + 3 → (z_up (z_up wD 11 0 18 (wA 5 0 5)) 52 0 (l3 + 3) bm) 52 0 x = wB 52 0 x := fun x hx => by rw [up_s hx, up_c (by decide), d52]
    have f523 : (z_up (z_up wD 11 0 18 (wA 5 0 5)) 52 0 (l3 + 3) bm) 52 0 (l3 + 3) = bm := up_h
    have f53 : (z_up (z_up wD 11 0 18 (wA 5 0 5)) 52 0 (l3 + 3) bm) 53 0 t = km := by rw [up_c (by decide), up_c (by decide)]; exact d53
    have h71 : w1 5 0 7 = sid := by rw [p2.2 7 (by decide) (by decide) (by decide), e5]; exact h7
    have hpw := m_passWord (d := d' + 6) hJRD.2.1 d18 hqA g3
    have e21' : (z_up wD 11 0 18 (wA 5 0 5)) 11 0 21 = t := (up_s (by decide)).trans d21
    have e51' : (z_up wD 11 0 18 (wA 5 0 5)) 51 0 t = bm := (up_c (by decide)).trans d51
    have hM2 : M_clauseOf_3 (d' + 9) l3 wm = (M_tested (d' + 8) (z_up (z_up wD 11 0 18 (wA 5 0 5)) 52 0 (l3 + 3) bm)).bind fun r2 => if r2.1 = 0 then (gd ((0 : Int) ≤ 0 ∧ (0 : Int) ≤ 1) (some (0, r2.2))) else (M_clauseOf_6 (d' + 9) l3 r2.2) := by
      rw [hM, e_M_takesWord, s1, bnd]
      dsimp only
      rw [if_neg hr', hpw, bnd]
      dsimp only
      rw [gd_t (by decide), bnd]
      dsimp only
      rw [if_neg (show ¬ (1 : Int) = 0 by decide), gd_t (by omega), gd_t (by rw [e21']; omega), gd_t (by omega), e21', e51']
    generalize z_up (z_up wD 11 0 18 (wA 5 0 5)) 52 0 (l3 + 3) bm = wF at *
    obtain ⟨w2, rm, v2, t1, t2, t3, t4, t5⟩ := j_test (d := d) (d' := d') hv hp h71 ⟨hJR2, hJK2⟩
    have k1 : w1 1 = wA 1 := p2.1 1 (by decide)
    have k2 : w2 1 ci 6 = k := by rw [t3.2.2.1 6 (by decide), k1]; exact e16
    have x2 : XF ci wc w2 := XF_tr a2 (XF_tr p2.f.x t3.x)
    have y2 : YF t wm v2 := YF_tr yF t4.y
    have v52 : v2 52 = wF 52 := t4.1.1 52 (by decide) (by decide)
    have v53 : v2 53 0 t = km := by rw [t4.1.1 53 (by decide) (by decide)]; exact f53
    have hcl : ∀ K, CIF (d + 26) K wc = (Clauses_closeOne (d + 26) (w2 5 0 8) w2).bind fun r7 => K r7.2 := fun K => by
      unfold CIF
      rw [hopen, if_neg hr, p1, bnd]
      dsimp only
      rw [gd_t (by decide), bnd]
      dsimp only
      rw [if_neg (show ¬ (1 : Int) = 0 by decide), t1, bnd]
    obtain ⟨c1, c2⟩ := s_closeOne (d := d + 26) k2 rfl h12
    rcases t5 with ⟨y1, yp, M, y3, y4, y5⟩ | ⟨y1, f, y3, y4⟩
    · have y5' : JC T n ci t bc bm M pend w2 v2 := y5
      have v21 : v2 11 0 21 = t := y5.2.1.2.1
      have v51 : v2 51 0 t = bm + M.length := y5'.2.2.2.1.2.2.2
      have u2 : w2 1 ci 5 = bc + (cls M).length := y5'.2.2.2.1.2.1
      have hne := OUT_ne y3
      have p61 : w1 5 0 6 = wA 5 0 6 := p2.2 6 (by decide) (by decide) (by decide)
      have w14 : w2 14 = wc 14 := by rw [t3.1 14 (by decide), p2.1 14 (by decide)]; exact e14
      have w15 : w2 15 ci k = bc := by rw [t3.1 15 (by decide), p2.1 15 (by decide)]; exact e15
      obtain ⟨m1, m2⟩ := m_close (d' := d' + 9) v21 ht.2 hl hm12 v51 v53
      refine ⟨_, 1, _, fun K => ?_, ?_, XF_tr x2 c2, YF_tr y2 m2, Or.inl ⟨rfl, ?_, M, fun _ => y3, ?_, ⟨?_, ?_⟩, ⟨?_, ?_, up_h⟩, up_h, ?_, Or.inr ⟨hne, ?_, ?_⟩, ?_, ?_, ?_⟩⟩
      · rw [hcl, y5.2.1.1, c1, bnd]
      · rw [hM2, t2, bnd]
        dsimp only
        rw [if_neg (by omega)]
        exact m1
      · rw [up_c (by decide), up_c (by decide)]; omega
      · rw [up_c (by decide), up_c (by decide)]
        rw [p61, e5] at y4
        exact y4
      · exact JR_g y5'.1 (mF_tr (mF_up (S := [52, 53]) (T := []) (by decide) (by decide)) (mF_up (by decide) (by decide))) (by decide) (by decide) (by funext x y; rw [up_c (by decide), up_c (by decide)]) (by funext x y; rw [up_c (by decide), up_c (by decide)])
      · exact JK_c (JK_g y5'.2 (mF_tr (mF_up (S := [52, 53]) (T := []) (by decide) (by decide)) (mF_up (by decide) (by decide))) (by decide) (by decide) (by decide) (by decide)) (by funext x y; rw [up_c (by decide), up_c (by decide)]) (by funext y; rw [up_c (by decide), up_c (by decide)]) (by rw [up_s (by decide), up_c (by decide)])
      · rw [up_c (by decide), up_c (by decide)]; exact w15
      · rw [up_c (by decide), up_h]; exact u2
      · rw [up_c (by decide), up_s (by omega), v52, f52 _ (by omega)]; exact b2'
      · rw [up_c (by decide), up_s (by omega), v52]; exact f523
      · rw [up_c (by decide), up_h]
      · funext x y
        rw [up_c (by decide), up_c (by decide), w14]
      · rw [up_c (by decide), up_s (by omega), v52, f52 _ (by omega)]; exact b0'
      · rw [up_c (by decide), up_s (by omega), v52, f52 _ (by omega)]; exact b1'
    · refine ⟨_, 0, v2, fun K => ?_, ?_, XF_tr x2 c2, y2, Or.inr ⟨rfl, f, FS_c y3 (by funext x y; rw [up_c (by decide), up_c (by decide)]) (by rw [up_s (by decide), up_c (by decide)]), y4⟩⟩
      · rw [hcl, y3.2.1, c1, bnd]
      · rw [hM2, t2, bnd]
        dsimp only
        rw [if_pos y1, gd_t (by decide)]
end
