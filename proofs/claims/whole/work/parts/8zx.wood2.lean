/-! a wood's clauses, in both -/
abbrev str1 : List Int := [119, 105, 100, 101, 32, 104, 111, 109, 101, 32, 112, 97, 116, 104, 32, 119, 97, 108, 108, 32, 103, 114, 111, 117, 110, 100, 32, 115, 107, 121, 32, 104, 97, 114, 109, 32, 115, 111, 117, 114, 99, 101]
abbrev woodCW : List (List Int) := [w_wide, w_home, w_path, w_wall, w_ground, w_sky, w_harm, w_source]
theorem ss1 : SS 1 str1 := ss_i rfl (by decide) (by decide)
theorem ly1 : LY str1 0 woodCW := ⟨by decide, by decide, by decide, by decide, by decide, by decide, by decide, by decide, by decide, by decide, by decide, by decide, by decide, by decide, by decide, by decide, rfl⟩
theorem ok1 : okWs woodCW := okWs_i (by decide)
noncomputable def SoM (D : Nat) (i s : Int) (v : zW) : zR := (M_numberHere D 1 40 v).bind fun r2 => if r2.1 = 0 then (gd ((0 : Int) ≤ 0 ∧ (0 : Int) ≤ 1) (some (0, r2.2))) else ((M_numberHere D 0 11 (z_up r2.2 63 0 ((12 * i) + (3 * s)) (r2.2 11 0 20))).bind fun r3 => if r3.1 = 0 then (gd ((0 : Int) ≤ 0 ∧ (0 : Int) ≤ 1) (some (0, r3.2))) else ((M_numberHere D 0 11 (z_up r3.2 63 0 (((12 * i) + (3 * s)) + 1) (r3.2 11 0 20))).bind fun r4 => if r4.1 = 0 then (gd ((0 : Int) ≤ 0 ∧ (0 : Int) ≤ 1) (some (0, r4.2))) else (gd (inI ((r4.2 62 0 i) + 1)) (some (1, z_up (z_up r4.2 63 0 (((12 * i) + (3 * s)) + 2) (r4.2 11 0 20)) 62 0 i ((r4.2 62 0 i) + 1))))))
def WCo (b : Bool) (i : Int) (wc wm : zW) : Prop := (b = true → (2 ≤ wc 9 i 0 ∧ wc 9 i 0 ≤ 12) ∧ (2 ≤ wc 9 i 1 ∧ wc 9 i 1 ≤ 12) ∧ wm 58 0 (12 + i) = wc 9 i 0 ∧ wm 59 0 (12 + i) = wc 9 i 1) ∧ (b = false → wm 58 0 (12 + i) = -1 ∧ wc 9 i 0 = 12 ∧ wc 9 i 1 = 12)
def WHo (b : Bool) (i : Int) (wc wm : zW) : Prop := (b = true → (0 ≤ wm 60 0 (12 + i) ∧ wm 60 0 (12 + i) ≤ 11) ∧ (0 ≤ wm 61 0 (12 + i) ∧ wm 61 0 (12 + i) ≤ 11) ∧ wc 9 i 2 = wm 61 0 (12 + i) * 12 + wm 60 0 (12 + i)) ∧ (b = false → wm 60 0 (12 + i) = -1 ∧ wc 9 i 2 = 0)
def WSr (i : Int) (wc wm : zW) : Prop := wc 9 i 3 = wm 62 0 i ∧ (0 ≤ wm 62 0 i ∧ wm 62 0 i ≤ 4) ∧ ∀ s, 0 ≤ s → s < wm 62 0 i → (1 ≤ wm 63 0 (12 * i + 3 * s) ∧ wm 63 0 (12 * i + 3 * s) ≤ 40) ∧ (0 ≤ wm 63 0 (12 * i + 3 * s + 1) ∧ wm 63 0 (12 * i + 3 * s + 1) < 12) ∧ (0 ≤ wm 63 0 (12 * i + 3 * s + 2) ∧ wm 63 0 (12 * i + 3 * s + 2) < 12) ∧ ∀ c : Nat, c < 144 → wc 32 i (s * 144 + c) = lud (wm 63 0 (12 * i + 3 * s)) (wm 63 0 (12 * i + 3 * s + 1)) (wm 63 0 (12 * i + 3 * s + 2)) c
def WLy (i : Int) (wc wm : zW) : Prop := ∀ c, 0 ≤ c → c < 144 → (wc 33 i c = md wm i 0 c ∧ wc 34 i c = md wm i 1 c ∧ wc 35 i c = md wm i 2 c ∧ wc 36 i c = md wm i 3 c ∧ wc 37 i c = md wm i 4 c) ∧ isB (wc 33 i c) ∧ isB (wc 34 i c) ∧ (0 ≤ wc 35 i c ∧ wc 35 i c ≤ 7) ∧ (0 ≤ wc 36 i c ∧ wc 36 i c ≤ 9) ∧ (0 ≤ wc 37 i c ∧ wc 37 i c ≤ 1000)
theorem WCo_eq {b : Bool} {i : Int} {wc wm wc' wm' : zW} (h : WCo b i wc wm) (h0 : wc' 9 i 0 = wc 9 i 0) (h1 : wc' 9 i 1 = wc 9 i 1) (h58 : wm' 58 = wm 58) (h59 : wm' 59 = wm 59) : WCo b i wc' wm' := by
  unfold WCo at *
  rw [h0, h1, h58, h59]
  exact h
theorem WHo_eq {b : Bool} {i : Int} {wc wm wc' wm' : zW} (h : WHo b i wc wm) (h2 : wc' 9 i 2 = wc 9 i 2) (h60 : wm' 60 = wm 60) (h61 : wm' 61 = wm 61) : WHo b i wc' wm' := by
  unfold WHo at *
  rw [h2, h60, h61]
  exact h
theorem WSr_eq {i : Int} {wc wm wc' wm' : zW} (h : WSr i wc wm) (h3 : wc' 9 i 3 = wc 9 i 3) (h32 : wc' 32 = wc 32) (h62 : wm' 62 = wm 62) (h63 : wm' 63 = wm 63) : WSr i wc' wm' := by
  unfold WSr at *
  rw [h3, h32, h62, h63]
  exact h
theorem WLy_eq {i : Int} {wc wm wc' wm' : zW} (h : WLy i wc wm) (h3 : ∀ c : Nat, (c = 33 ∨ c = 34 ∨ c = 35 ∨ c = 36 ∨ c = 37) → wc' c = wc c) (h64 : wm' 64 = wm 64) : WLy i wc' wm' := by
  unfold WLy md at *
  rw [h3 33 (by decide), h3 34 (by decide), h3 35 (by decide), h3 36 (by decide), h3 37 (by decide), h64]
  exact h
def WU (T : Int → Int) (n i : Int) (x : Nat) (wc wm : zW) : Prop := JR T n wc wm ∧ wm 11 0 21 = 12 + i ∧ x < 256 ∧ WCo (x.testBit 0) i wc wm ∧ WHo (x.testBit 1) i wc wm ∧ WSr i wc wm ∧ WLy i wc wm
section
variable {d d' g : Nat} {T : Int → Int} {n i : Int} {wc wm : zW}
theorem m_sounds_eq {D : Nat} {p s : Int} {vX vY : zW} (h21 : vX 11 0 21 = 12 + i) (hi : 0 ≤ i ∧ i < 4) (h62 : vX 62 0 i = s) (hs : 0 ≤ s ∧ s < 4) (hpw : M_passWord D vX = some (0, vY)) (hY : vY 62 0 i = s) : M_sounds (D + 1) p vX = SoM D i s vY := by
  have hi12 : 12 + i - 12 = i := by omega
  have c1 : ∀ X : zR, gd (0 ≤ 12 * i + 3 * s ∧ 12 * i + 3 * s < 48) X = X := fun X => gd_t (by omega)
  have c2 : ∀ X : zR, gd (0 ≤ 12 * i + 3 * s + 1 ∧ 12 * i + 3 * s + 1 < 48) X = X := fun X => gd_t (by omega)
  have c3 : ∀ X : zR, gd (0 ≤ 12 * i + 3 * s + 2 ∧ 12 * i + 3 * s + 2 < 48) X = X := fun X => gd_t (by omega)
  have c4 : ∀ X : zR, gd (inI (12 * i + 3 * s + 1)) X = X := fun X => gd_t (by omega)
  have c5 : ∀ X : zR, gd (inI (12 * i + 3 * s + 2)) X = X := fun X => gd_t (by omega)
  have c6 : ∀ X : zR, gd (0 ≤ i ∧ i < 4) X = X := fun X => gd_t hi
  have c7 : ∀ X : zR, gd ((0 : Int) ≤ 1 ∧ (1 : Int) ≤ 1) X = X := fun X => gd_t (by decide)
  rw [e_M_sounds]
  simp only [h21, hi12, h62]
  rw [gd_t (by omega), gd_t hi, if_neg (by omega), hpw, bnd]
  dsimp only
  simp only [hY]
  rw [gd_t (by omega), gd_t hi, gd_t (by omega), gd_t (by omega)]
  simp only [c1, c2, c3, c4, c5, c6, c7]
  rfl
theorem k_source {s : Int} (h : JR T n wc wm) (hi : 0 ≤ i ∧ i < 4) (hs : 0 ≤ s ∧ s < 4) (h9 : wc 9 i 3 = s) (h62 : wm 62 0 i = s) :
    ∃ w' rm v', (∀ K : zW → zR, ((Reader_number (d + 26) 1 40 wc).bind fun r2 => (Reader_number (d + 26) 0 11 r2.2).bind fun r3 => (Reader_number (d + 26) 0 11 r3.2).bind fun r4 => (Wood_addSource (d + 26) i r2.1 r3.1 r4.1 r4.2).bind fun r5 => K r5.2) = K w') ∧ SoM (d' + 8) i s wm = some (rm, v') ∧ VF i wc w' ∧ UF i wm v' ∧
      ((rm = 1 ∧ JR T n w' v' ∧ (∃ a x y, (1 ≤ a ∧ a ≤ 40) ∧ (0 ≤ x ∧ x ≤ 11) ∧ (0 ≤ y ∧ y ≤ 11) ∧ w' 9 i 3 = s + 1 ∧ v' 62 0 i = s + 1 ∧ w' 32 i = ldF (wc 32 i) s a x y 144 ∧ v' 63 0 (12 * i + 3 * s) = a ∧ v' 63 0 (12 * i + 3 * s + 1) = x ∧ v' 63 0 (12 * i + 3 * s + 2) = y) ∧ (∀ p, p < 12 * i + 3 * s → v' 63 0 p = wm 63 0 p) ∧ (∀ q, q ≠ 3 → w' 9 i q = wc 9 i q) ∧ z_fr [5, 9, 32] wc w' ∧ mF [62, 63] [18, 19, 20] wm v') ∨ (rm = 0 ∧ ∃ f, CF f w' ∧ v' 11 0 19 = f)) := by
  have hadd : ∀ (w : zW) (a x y : Int), w 9 i 3 = s → (1 ≤ a ∧ a ≤ 40) → (0 ≤ x ∧ x ≤ 11) → (0 ≤ y ∧ y ≤ 11) → Wood_addSource (d + 26) i a x y w = some (0, z_up (z_row w 32 i (ldF (w 32 i) s a x y 144)) 9 i 3 (s + 1)) ∧ VF i w (z_up (z_row w 32 i (ldF (w 32 i) s a x y 144)) 9 i 3 (s + 1)) := fun w a x y hw ha hx hy => ⟨s_addSource hw hs ha hx hy, VF_tr (VF_row (Or.inl rfl)) (VF_9 (fun z => by omega) (fun _ => by omega))⟩
  have hCF : ∀ (f : Int) (w : zW) (F : Int → Int), CF f w → CF f (z_up (z_row w 32 i F) 9 i 3 (s + 1)) := fun f w F hF => by
    unfold CF at *
    rw [up_c (by decide), up_c (by decide), row_c (by decide), row_c (by decide)]
    exact hF
  unfold SoM
  obtain ⟨a, w1, r1, v1, a1, a2, a3, a4, a5⟩ := j_number (d := d + 25) (d' := d' + 7) (lo := 1) (hi := 40) h
  rw [a1, a2, bnd]
  dsimp only
  have n9 : ∀ {w w' : zW}, RF w w' → w' 9 = w 9 := fun hr => hr.1 9 (by decide)
  rcases a5 with ⟨y1, y2, y3, y4, y5, -⟩ | ⟨y1, y2, f, y3, y4⟩
  case inr =>
    obtain ⟨w2, b1, b2, b3⟩ := s_numberF (d := d + 25) (lo := 0) (hi := 11) y3
    obtain ⟨w3, c1, c2, c3⟩ := s_numberF (d := d + 25) (lo := 0) (hi := 11) b3
    obtain ⟨g1, g2⟩ := hadd w3 a 0 0 (by rw [n9 c2, n9 b2, n9 a3]; exact h9) (by omega) (by decide) (by decide)
    refine ⟨_, 0, v1, fun K => ?_, by rw [if_pos y1, gd_t (by decide)], VF_tr (RF_tr a3 (RF_tr b2 c2)).v g2, UF_m (mF_sub a4 (by decide) (by decide)), Or.inr ⟨rfl, f, hCF _ _ _ c3, y4⟩⟩
    rw [bnd]
    dsimp only
    rw [b1, bnd]
    dsimp only
    rw [c1, bnd]
    dsimp only
    rw [g1, bnd]
  rw [if_neg (show ¬ r1 = 0 by omega), y3]
  have hJ1 : JR T n w1 (z_up v1 63 0 (12 * i + 3 * s) a) := JR_g y2 (mF_up (S := [63]) (T := []) (by decide) (by decide)) (by decide) (by decide) rfl rfl
  obtain ⟨x, w2, r2, v2, b1, b2, b3, b4, b5⟩ := j_number (d := d + 25) (d' := d' + 7) (lo := 0) (hi := 11) hJ1
  have u1 : UF i wm (z_up v1 63 0 (12 * i + 3 * s) a) := UF_tr (UF_m (mF_sub a4 (by decide) (by decide))) (UF_63 (by omega))
  have u2 : UF i wm v2 := UF_tr u1 (UF_m (mF_sub b4 (by decide) (by decide)))
  rw [b2, bnd]
  dsimp only
  rcases b5 with ⟨z1, z2, z3, z4, z5, -⟩ | ⟨z1, z2, f, z3, z4⟩
  case inr =>
    obtain ⟨w3, c1, c2, c3⟩ := s_numberF (d := d + 25) (lo := 0) (hi := 11) z3
    obtain ⟨g1, g2⟩ := hadd w3 a x 0 (by rw [n9 c2, n9 b3, n9 a3]; exact h9) ⟨y4, y5⟩ (by omega) (by decide)
    refine ⟨_, 0, v2, fun K => ?_, by rw [if_pos z1, gd_t (by decide)], VF_tr (RF_tr a3 (RF_tr b3 c2)).v g2, u2, Or.inr ⟨rfl, f, hCF _ _ _ c3, z4⟩⟩
    rw [bnd]
    dsimp only
    rw [b1, bnd]
    dsimp only
    rw [c1, bnd]
    dsimp only
    rw [g1, bnd]
  rw [if_neg (show ¬ r2 = 0 by omega), z3]
  have hJ2 : JR T n w2 (z_up v2 63 0 (12 * i + 3 * s + 1) x) := JR_g z2 (mF_up (S := [63]) (T := []) (by decide) (by decide)) (by decide) (by decide) rfl rfl
  obtain ⟨y, w3, r3, v3, c1, c2, c3, c4, c5⟩ := j_number (d := d + 25) (d' := d' + 7) (lo := 0) (hi := 11) hJ2
  have u3 : UF i wm v3 := UF_tr u2 (UF_tr (UF_63 (by omega)) (UF_m (mF_sub c4 (by decide) (by decide))))
  have v362 : v3 62 0 i = s := by rw [c4.1 62 (by decide) (by decide), up_c (by decide), b4.1 62 (by decide) (by decide), up_c (by decide), a4.1 62 (by decide) (by decide)]; exact h62
  rw [c2, bnd]
  dsimp only
  have w39 : w3 9 = wc 9 := by rw [n9 c3, n9 b3, n9 a3]
  have w332 : w3 32 = wc 32 := by rw [c3.1 32 (by decide), b3.1 32 (by decide), a3.1 32 (by decide)]
  rcases c5 with ⟨g1, g2, g3, g4, g5, -⟩ | ⟨g1, g2, f, g3, g4⟩
  case inr =>
    obtain ⟨k1, k2⟩ := hadd w3 a x y (by rw [w39]; exact h9) ⟨y4, y5⟩ ⟨z4, z5⟩ (by omega)
    refine ⟨_, 0, v3, fun K => ?_, by rw [if_pos g1, gd_t (by decide)], VF_tr (RF_tr a3 (RF_tr b3 c3)).v k2, u3, Or.inr ⟨rfl, f, hCF _ _ _ g3, g4⟩⟩
    rw [bnd]
    dsimp only
    rw [b1, bnd]
    dsimp only
    rw [c1, bnd]
    dsimp only
    rw [k1, bnd]
  obtain ⟨k1, k2⟩ := hadd w3 a x y (by rw [w39]; exact h9) ⟨y4, y5⟩ ⟨z4, z5⟩ ⟨g4, g5⟩
  have p63 : ∀ p, p ≠ 12 * i + 3 * s → p ≠ 12 * i + 3 * s + 1 → v3 63 0 p = wm 63 0 p := fun p h1 h2 => by
    rw [c4.1 63 (by decide) (by decide), up_s h2, b4.1 63 (by decide) (by decide), up_s h1, a4.1 63 (by decide) (by decide)]
  refine ⟨_, 1, z_up (z_up v3 63 0 (12 * i + 3 * s + 2) y) 62 0 i (s + 1), fun K => ?_, ?_, VF_tr (RF_tr a3 (RF_tr b3 c3)).v k2, UF_tr u3 (UF_tr (UF_63 (by omega)) UF_62), Or.inl ⟨rfl, ?_, ⟨a, x, y, ⟨y4, y5⟩, ⟨z4, z5⟩, ⟨g4, g5⟩, up_h, up_h, ?_, ?_, ?_, ?_⟩, fun p hp => ?_, fun q hq => ?_, ?_, ?_⟩⟩
  · rw [bnd]
    dsimp only
    rw [b1, bnd]
    dsimp only
    rw [c1, bnd]
    dsimp only
    rw [k1, bnd]
  · rw [if_neg (show ¬ r3 = 0 by omega), gd_t (by omega), v362, g3]
  · exact JR_g g2 (mF_tr (mF_up (S := [62, 63]) (T := []) (by decide) (by decide)) (mF_up (by decide) (by decide))) (by decide) (by decide) (by funext a b; rw [up_c (by decide), row_c (by decide)]) (by funext a b; rw [up_c (by decide), row_c (by decide)])
  · rw [← w332]
    funext p
    rw [up_c (by decide), row_h]
  · rw [up_c (by decide), up_s (by omega), c4.1 63 (by decide) (by decide), up_s (by omega), b4.1 63 (by decide) (by decide), up_h]
  · rw [up_c (by decide), up_s (by omega), c4.1 63 (by decide) (by decide), up_h]
  · rw [up_c (by decide), up_h]
  · rw [up_c (by decide), up_s (by omega)]
    exact p63 p (by omega) (by omega)
  · rw [up_s hq, row_c (by decide), w39]
  · exact fr_tr (fr_sub (RF_tr a3 (RF_tr b3 c3)).1 (by decide)) (fr_tr (fr_row (by decide)) (fr_up (by decide)))
  · exact mF_tr (mF_sub a4 (by decide) (by decide)) (mF_tr (mF_up (by decide) (by decide)) (mF_tr (mF_sub b4 (by decide) (by decide)) (mF_tr (mF_up (by decide) (by decide)) (mF_tr (mF_sub c4 (by decide) (by decide)) (mF_tr (mF_up (by decide) (by decide)) (mF_up (by decide) (by decide)))))))
/-- how far a layer's numbers go -/
def lay (k : Nat) : Int := if k = 4 then 7 else if k = 5 then 9 else if k = 6 then 1000 else 0
def KA (d d' : Nat) (T : Int → Int) (n i : Int) (k : Nat) (wc wm : zW) : Prop :=
    ∃ w' rm v', Reader_readArea (d + 26) i k wc = some (0, w') ∧ (if lay k ≤ 0 then (M_area_4 (d' + 9) (k - 2) 1 wm) else ((M_numberHere (d' + 8) 0 (lay k) wm).bind fun r2 => if r2.1 = 0 then (gd ((0 : Int) ≤ 0 ∧ (0 : Int) ≤ 1) (some ((0 : Int), r2.2))) else (M_area_4 (d' + 9) (k - 2) (r2.2 11 0 20) r2.2))) = some (rm, v') ∧ VF i wc w' ∧ UF i wm v' ∧ ((rm = 1 ∧ JR T n w' v' ∧ (∃ v x X y Y, (0 ≤ v ∧ v ≤ max 1 (lay k)) ∧ (0 ≤ x ∧ x ≤ X ∧ X ≤ 11) ∧ (0 ≤ y ∧ y ≤ Y ∧ Y ≤ 11) ∧ w' (31 + k) i = rct (wc (31 + k) i) x X y (Y + 1) v ∧ ∀ p, v' 64 0 p = rcm (wm 64 0) (144 * (6 * i + (k - 2))) x X y (Y + 1) x v p) ∧ z_fr [5, 31 + k] wc w' ∧ mF [64] [18, 19, 20] wm v') ∨ (rm = 0 ∧ ∃ f, CF f w' ∧ v' 11 0 19 = f))
theorem k_area {k : Nat} (hk : 2 ≤ k ∧ k ≤ 6) (h : JR T n wc wm) (h21 : wm 11 0 21 = 12 + i) (hi : 0 ≤ i ∧ i < 4) : KA d d' T n i k wc wm := by
  -- without a number
  have plain : ∀ (kc : Nat), (k = 2 ∨ k = 3) → kc = 31 + k → Reader_readArea (d + 26) i k wc = Reader_readArea_8 (d + 26) 1 kc i wc → lay k = 0 → KA d d' T n i k wc wm := fun kc h23 hkc hcl hl => by
    obtain ⟨w', rm, v', p1, p2, p3, p4, p5⟩ := k_rect (d := d) (d' := d') (q := k - 2) (v := 1) (k := kc) (by omega) (by omega) h h21 hi
    subst hkc
    refine ⟨w', rm, v', by rw [hcl]; exact p1, by rw [if_pos (by omega)]; exact p2, p3, p4, ?_⟩
    rcases p5 with ⟨y1, y2, ⟨x, X, y, Y, y3, y4, y5, y6⟩, y7, y8⟩ | y
    · exact Or.inl ⟨y1, y2, ⟨1, x, X, y, Y, by rw [hl]; decide, y3, y4, y5, y6⟩, y7, y8⟩
    · exact Or.inr y
  -- with a number
  have numd : ∀ (kc : Nat), (k = 4 ∨ k = 5 ∨ k = 6) → kc = 31 + k → Reader_readArea (d + 26) i k wc = (Reader_number (d + 25) 0 (lay k) wc).bind (fun r1 => Reader_readArea_8 (d + 26) r1.1 kc i r1.2) → 0 < lay k → KA d d' T n i k wc wm := fun kc h23 hkc hcl hl => by
    unfold KA
    obtain ⟨a, w1, r1, v1, a1, a2, a3, a4, a5⟩ := j_number (d := d + 24) (d' := d' + 7) (lo := 0) (hi := lay k) h
    rw [a1, bnd] at hcl
    dsimp only at hcl
    subst hkc
    rw [hcl, if_neg (show ¬ lay k ≤ 0 by omega), a2, bnd]
    dsimp only
    have n5 : 31 + k ≠ 5 := by omega
    rcases a5 with ⟨y1, y2, y3, y4, y5, -⟩ | ⟨y1, y2, f, y3, y4⟩
    · rw [if_neg (show ¬ r1 = 0 by omega), y3]
      obtain ⟨w', rm, v', p1, p2, p3, p4, p5⟩ := k_rect (d := d) (d' := d') (q := k - 2) (v := a) (k := 31 + k) (by omega) (by omega) y2 ((a4.2 21 (by decide)).trans h21) hi
      refine ⟨w', rm, v', p1, p2, VF_tr a3.v p3, UF_tr (UF_m (mF_sub a4 (by decide) (by decide))) p4, ?_⟩
      rcases p5 with ⟨z1, z2, ⟨x, X, y, Y, z3, z4, z5, z6⟩, z7, z8⟩ | z
      · have ek : w1 (31 + k) = wc (31 + k) := a3.1 _ (fun q => n5 (List.mem_singleton.mp q))
        have e64 : v1 64 = wm 64 := a4.1 64 List.not_mem_nil (by decide)
        rw [ek] at z5
        rw [e64] at z6
        exact Or.inl ⟨z1, z2, ⟨a, x, X, y, Y, by omega, z3, z4, z5, z6⟩, fr_tr (fr_sub a3.1 (by simp)) z7, mF_tr (mF_sub a4 (by decide) (by decide)) z8⟩
      · exact Or.inr z
    · obtain ⟨w2, b1, b2, b3⟩ := s_numberF (d := d + 24) (lo := 0) (hi := 11) y3
      obtain ⟨w3, c1, c2, c3⟩ := s_numberF (d := d + 24) (lo := 0) (hi := 11) b3
      obtain ⟨w4, e1, e2, e3⟩ := s_numberF (d := d + 24) (lo := 0) (hi := 11) c3
      obtain ⟨w5, g1, g2, g3⟩ := s_numberF (d := d + 24) (lo := 0) (hi := 11) e3
      refine ⟨w5, 0, v1, ?_, by rw [if_pos y1, gd_t (by decide)], (RF_tr a3 (RF_tr b2 (RF_tr c2 (RF_tr e2 g2)))).v, UF_m (mF_sub a4 (by decide) (by decide)), Or.inr ⟨rfl, f, g3, y4⟩⟩
      rw [e_Reader_readArea_8, b1, bnd]
      dsimp only
      rw [c1, bnd]
      dsimp only
      rw [e1, bnd]
      dsimp only
      rw [g1, bnd]
      dsimp only
      rw [if_neg (by have := g3.1; have := g3.2.2.1; omega)]
  have : k = 2 ∨ k = 3 ∨ k = 4 ∨ k = 5 ∨ k = 6 := by omega
  rcases this with rfl | rfl | rfl | rfl | rfl
  · exact plain 33 (by decide) rfl (by rw [e_Reader_readArea]; rfl) rfl
  · exact plain 34 (by decide) rfl (by rw [e_Reader_readArea]; rfl) rfl
  · exact numd 35 (by decide) rfl (by rw [e_Reader_readArea]; rfl) (by decide)
  · exact numd 36 (by decide) rfl (by rw [e_Reader_readArea]; rfl) (by decide)
  · exact numd 37 (by decide) rfl (by rw [e_Reader_readArea]; rfl) (by decide)
end
