/-! a test's loop, in both -/
abbrev andW : List Int := [97, 110, 100]
abbrev orW : List Int := [111, 114]
abbrev notW : List Int := [110, 111, 116]
abbrev ifW : List Int := [105, 102]
abbrev str5 : List Int := [97, 110, 100, 32, 111, 114]
theorem ss5 : SS 5 str5 := ss_i rfl (by decide) (by decide)
theorem ss4 : SS 4 notW := ss_i rfl (by decide) (by decide)
theorem ss3 : SS 3 ifW := ss_i rfl (by decide) (by decide)
theorem ly5 : LY str5 0 [andW, orW] := ⟨by decide, by decide, by decide, by decide, rfl⟩
theorem ly4 : LY notW 0 [notW] := ⟨by decide, by decide, rfl⟩
theorem ly3 : LY ifW 0 [ifW] := ⟨by decide, by decide, rfl⟩
theorem ok5 : okWs [andW, orW] := okWs_i (by decide)
theorem ok4 : okWs [notW] := okWs_i (by decide)
theorem ok3 : okWs [ifW] := okWs_i (by decide)
noncomputable def Kb (d' : Nat) (w : zW) : zR := (M_isWord (d' + 7) 6385252 w).bind fun r3 => if r3.1 = 0 then ((M_isWord (d' + 7) 28530 r3.2).bind fun r4 => if r4.1 = 0 then (M_tested_8 (d' + 8) 0 r4.2) else (M_tested_8 (d' + 8) 1 r4.2)) else (M_tested_8 (d' + 8) 1 r3.2)
noncomputable def Bf (d' : Nat) (w : zW) : zR := (M_closes_1 (d' + 7) w).bind fun r2 => Kb d' r2.2
noncomputable def Gf (d' : Nat) (l1 : Int) (w : zW) : zR := (M_fact_1 (d' + 7) l1 w).bind fun r1 => if r1.1 = 0 then (gd ((0 : Int) ≤ 0 ∧ (0 : Int) ≤ 1) (some (0, r1.2))) else (M_closes (d' + 7) r1.2).bind fun r2 => Kb d' r2.2
noncomputable def Zf (d' : Nat) (v : zW) : zR := (M_settles_1 (d' + 6) 3 (z_up (z_up (z_up v 11 0 26 (v 11 0 26 - 1)) 11 0 23 (v 11 0 23 - 1)) 11 0 18 (v 11 0 18 + 1))).bind fun r4 => Bf d' r4.2
theorem bind_as {α β γ : Type} (x : Option α) (f : α → Option β) (g : β → Option γ) : (x.bind f).bind g = x.bind fun a => (f a).bind g := by
  cases x <;> rfl
theorem tested_G {d' : Nat} {w : zW} : M_tested_1 (d' + 8) 1 w = Gf d' 1 w := by
  rw [e_M_tested_1, if_neg (by decide), e_M_fact]
  rfl
def FE (d' : Nat) (T : Int → Int) (n ci t bc bm : Int) (L : List tok) (pend nW : Int) (S : Int → Int) (h0 dp : Int) (G : zR) (wc wc' wm : zW) : Prop := (∃ M wm', G = Bf d' wm' ∧ ET t wm wm' ∧ wc 5 0 4 ≤ wc' 5 0 4 ∧ OUT nW [] [true] M ∧ wc 5 0 6 + cntV M ≤ wc' 5 0 6 ∧ JC T n ci t bc bm (L ++ M) pend wc' wm' ∧ ST S h0 dp wm') ∨ (∃ f wm', G = some (0, wm') ∧ ET t wm wm' ∧ FS ci f 70 wc' ∧ wm' 11 0 19 = f)
def TE (d' : Nat) (T : Int → Int) (n ci t bc bm : Int) (L : List tok) (pend nW : Int) (pr : List Bool) (S : Int → Int) (h0 dp : Int) (G : zR) (wc wc' wm : zW) : Prop := (∃ M wm', ET t wm wm' ∧ wc 5 0 4 ≤ wc' 5 0 4 ∧ OUT nW pr [true] M ∧ wc 5 0 6 + cntV M ≤ wc' 5 0 6 ∧ JC T n ci t bc bm (L ++ M) pend wc' wm' ∧ ST S h0 dp wm' ∧ ((h0 = 0 ∧ G = some (1, wm')) ∨ (0 < h0 ∧ wc' 5 0 3 = 93 ∧ wm' 11 0 18 = wc' 5 0 4 ∧ G = Zf d' wm') ∨ (0 < h0 ∧ wc' 5 0 3 ≠ 93 ∧ ∃ wf, ET t wm wf ∧ wf 11 0 19 = 1 + 8 * wc' 5 0 4 ∧ G = some (0, wf)))) ∨ (∃ f wm', G = some (0, wm') ∧ ET t wm wm' ∧ FS ci f 70 wc' ∧ wm' 11 0 19 = f)
def FC (d' : Nat) (T : Int → Int) (n ci t bc bm sid nW : Int) (D : Nat) (dep : Int) : Prop := ∀ (L : List tok) (pend : Int) (wc wm : zW) (S : Int → Int) (h : Int), 0 ≤ pend → JC T n ci t bc bm L pend wc wm → ST S h dep wm → (h = 0 ∨ sTr (S (h - 1)) < 3) → 0 ≤ h → h ≤ 3 * dep + 2 → wc 5 0 7 = sid → ∃ wc', Reader_fact D dep wc = some (0, wc') ∧ EF ci wc wc' ∧ FE d' T n ci t bc bm L pend nW S h dep (Gf d' 1 wm) wc wc' wm
def TC (d' : Nat) (T : Int → Int) (n ci t bc bm sid nW : Int) (D : Nat) (dep : Int) : Prop := ∀ (L : List tok) (pend : Int) (wc wm : zW) (S : Int → Int) (h : Int), 0 ≤ pend → JC T n ci t bc bm L pend wc wm → ST S h dep wm → (h = 0 ∨ S (h - 1) = 91) → 0 ≤ h → h ≤ 3 * dep → wc 5 0 7 = sid → ∃ wc', Reader_test D dep wc = some (0, wc') ∧ EF ci wc wc' ∧ TE d' T n ci t bc bm L pend nW [] S h dep (Gf d' 1 wm) wc wc' wm
theorem OUT_l {nW : Int} {a b : List Bool} {M : List tok} (h : OUT nW [] b M) : OUT nW a (b ++ a) M := ⟨h.1, fun ts => by rw [List.append_assoc]; exact h.2 (a ++ ts)⟩
section
variable {d d' : Nat} {T : Int → Int} {n ci t bc bm pend : Int} {wc wm : zW}
theorem JR_x {w v : zW} (h : JR T n wc wm) (hf : mF [50, 51, 65] [20, 22, 23, 26] wm v) (h5 : w 5 = wc 5) (h20 : w 20 = wc 20) : JR T n w v := by
  obtain ⟨h1, ⟨m1, m2, m3⟩, h3, h4, h6⟩ := h
  refine ⟨?_, ⟨(hf.2 1 (by decide)).trans m1, m2, fun k k0 k1 => ?_⟩, (hf.2 19 (by decide)).trans h3, ?_, ?_⟩
  · unfold CT at *
    rw [h5, h20]
    exact h1
  · rw [hf.1 48 (by decide) (by decide)]
    exact m3 k k0 k1
  · rw [hf.2 18 (by decide)]; exact h4
  · rw [hf.2 18 (by decide), h5]; exact h6
/-- the next sign, in both -/
theorem j_next2 (h : JR T n wc wm) : ∃ wc', Reader_next d wc = some (0, wc') ∧ RK wc wc' ∧ (∀ v : zW, mF [50, 51, 65] [18, 20, 22, 23, 26] wm v → v 11 0 18 = wc 5 0 5 → JR T n wc' v) ∧ wc 5 0 5 ≤ wc' 5 0 4 ∧ wc' 5 0 4 ≤ n ∧ ∀ (ci t bc bm : Int) (L : List tok) (p : Int) (v : zW), JK ci t bc bm L p wc v → JK ci t bc bm L (p + (wc 5 0 5 - wc 5 0 4)) wc' v := by
  have hbh := h.1.bh
  have hq := h.1.2.2.2.1
  obtain ⟨w3, r1, r2, r3, r4⟩ := CT_nx (d := d) h.1
  have hpl := r4.1
  refine ⟨w3, r1, r2, fun v hv v18 => ⟨r3, ?_, (hv.2 19 (by decide)).trans h.2.2.1, ?_, ?_⟩, hpl, r3.2.2.2.1.2, fun ci t bc bm L p v hK => ?_⟩
  · obtain ⟨m1, m2, m3⟩ := h.2.1
    refine ⟨(hv.2 1 (by decide)).trans m1, m2, fun x x0 x1 => ?_⟩
    rw [hv.1 48 (by decide) (by decide)]
    exact m3 x x0 x1
  · rw [v18]; omega
  · rw [v18]; exact r4
  · obtain ⟨⟨j2, j3⟩, ⟨j4, j5⟩, j6, j7⟩ := hK
    have e6 : w3 5 0 6 = wc 5 0 6 := r2.2 6 (by decide) (by decide) (by decide)
    refine ⟨⟨?_, j3⟩, ⟨?_, ?_⟩, KC_fr j6 (r2.1 13 (by decide)) (r2.1 1 (by decide)) rfl rfl, by omega, j7.2⟩
    · rw [r2.2 8 (by decide) (by decide) (by decide)]; exact j2
    · rw [e6]; exact j4
    · rw [e6]; exact j5
/-- where a word stands -/
theorem let_at {W : List Int} (h : CT T n wc) (hW : 1 ≤ W.length) (hw : WD T n (wc 5 0 4) W) : wc 5 0 4 < n ∧ let' (T (wc 5 0 4)) ∧ rnR let' T n (wc 5 0 4) (wc 5 0 5) ∧ wc 5 0 4 < wc 5 0 5 := by
  have h1 := hw.1.2.1 (wc 5 0 4) (Int.le_refl _) (by omega)
  rcases TK_let h.2.2.2.2 with ⟨z1, z2, z3, z4⟩ | ⟨z1, z2⟩
  · have := rn_u z4 hw.1
    exact ⟨z2, z3, z4, by omega⟩
  · exact absurd h1 z2
/-- which word it is, in the model -/
theorem m_wd {g : Nat} {code r : Int} {W : List Int} (hW : okW W) (hc : cdW W = code) (h : JR T n wc wm) (h18 : wm 11 0 18 = wc 5 0 4) : ∃ r, M_isWord (g + 1) code wm = some (r, wm) ∧ (r = 0 ∨ r = 1) ∧ (r = 1 ↔ WD T n (wc 5 0 4) W) := by
  obtain ⟨r, r1, r2, r3⟩ := j_isWord (d := g) hW hc h
  rw [← h18, up_self] at r1
  exact ⟨r, r1, r2, r3⟩
end
