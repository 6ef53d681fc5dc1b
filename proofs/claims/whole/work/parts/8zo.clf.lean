/-! CLAUSES as they are read: frames -/
def XF (ci : Int) (w w' : zW) : Prop := z_fr [1, 5, 13, 14, 15, 16] w w' ∧ (∀ i, i ≠ ci → w' 1 i = w 1 i ∧ w' 13 i = w 13 i ∧ w' 14 i = w 14 i ∧ w' 15 i = w 15 i ∧ w' 16 i = w 16 i) ∧ (∀ s, (s < 2 ∨ 6 < s) → w' 5 0 s = w 5 0 s) ∧ (∀ p, p < w 1 ci 5 → w' 13 ci p = w 13 ci p) ∧ w 1 ci 5 ≤ w' 1 ci 5 ∧ (∀ s, s < w 1 ci 6 → w' 14 ci s = w 14 ci s ∧ w' 15 ci s = w 15 ci s ∧ w' 16 ci s = w 16 ci s) ∧ w 1 ci 6 ≤ w' 1 ci 6
theorem XF_rf (ci : Int) (w : zW) : XF ci w w := ⟨fr_rf _ _, fun _ _ => ⟨rfl, rfl, rfl, rfl, rfl⟩, fun _ _ => rfl, fun _ _ => rfl, Int.le_refl _, fun _ _ => ⟨rfl, rfl, rfl⟩, Int.le_refl _⟩
theorem XF_tr {ci : Int} {w w' w'' : zW} (h : XF ci w w') (h' : XF ci w' w'') : XF ci w w'' := by
  obtain ⟨a1, a2, a3, a4, a5, a6, a7⟩ := h
  obtain ⟨b1, b2, b3, b4, b5, b6, b7⟩ := h'
  refine ⟨fr_tr a1 b1, fun i hi => ?_, fun s hs => (b3 s hs).trans (a3 s hs), fun p hp => (b4 p (by omega)).trans (a4 p hp), by omega, fun s hs => ?_, by omega⟩
  · obtain ⟨c1, c2, c3, c4, c5⟩ := a2 i hi
    obtain ⟨d1, d2, d3, d4, d5⟩ := b2 i hi
    exact ⟨d1.trans c1, d2.trans c2, d3.trans c3, d4.trans c4, d5.trans c5⟩
  · obtain ⟨c1, c2, c3⟩ := a6 s hs
    obtain ⟨d1, d2, d3⟩ := b6 s (by omega)
    exact ⟨d1.trans c1, d2.trans c2, d3.trans c3⟩
theorem EF.x {ci : Int} {w w' : zW} (h : EF ci w w') : XF ci w w' := by
  obtain ⟨a1, a2, a3, a4, a5, a6⟩ := h
  have e14 := a1 14 (by decide)
  have e15 := a1 15 (by decide)
  have e16 := a1 16 (by decide)
  refine ⟨fr_sub a1 (by decide), fun i hi => ⟨(a2 i hi).1, (a2 i hi).2, by rw [e14], by rw [e15], by rw [e16]⟩, a4, a5, a6, fun s _ => ⟨by rw [e14], by rw [e15], by rw [e16]⟩, ?_⟩
  rw [a3 6 (by decide)]
  exact Int.le_refl _
theorem RF.x {ci : Int} {w w' : zW} (h : RF w w') : XF ci w w' := h.e.x
def YX (X : List Int) (t : Int) (w w' : zW) : Prop := mF [50, 51, 52, 53, 65] X w w' ∧ (∀ p, (p < 400 * t + w 51 0 t ∨ 400 * t + 400 ≤ p) → w' 50 0 p = w 50 0 p) ∧ ((∀ s, s ≠ t → w' 51 0 s = w 51 0 s) ∧ w 51 0 t ≤ w' 51 0 t) ∧ (∀ p, (p < 60 * t + 5 * w 53 0 t ∨ 60 * t + 60 ≤ p) → w' 52 0 p = w 52 0 p) ∧ (∀ s, s ≠ t → w' 53 0 s = w 53 0 s) ∧ w 53 0 t ≤ w' 53 0 t
abbrev YF : Int → zW → zW → Prop := YX [18, 19, 20, 22, 23, 26]
abbrev YL : Int → zW → zW → Prop := YX [18, 19, 20, 22, 23, 24, 26]
theorem YF_rf {X : List Int} (t : Int) (w : zW) : YX X t w w := ⟨mF_rf _ _ _, fun _ _ => rfl, ⟨fun _ _ => rfl, Int.le_refl _⟩, fun _ _ => rfl, fun _ _ => rfl, Int.le_refl _⟩
theorem YF_tr {X : List Int} {t : Int} {w w' w'' : zW} (h : YX X t w w') (h' : YX X t w' w'') : YX X t w w'' := by
  obtain ⟨a1, a2, ⟨a3, a4⟩, a5, a6, a7⟩ := h
  obtain ⟨b1, b2, ⟨b3, b4⟩, b5, b6, b7⟩ := h'
  exact ⟨mF_tr a1 b1, fun p hp => (b2 p (by omega)).trans (a2 p hp), ⟨fun s hs => (b3 s hs).trans (a3 s hs), by omega⟩, fun p hp => (b5 p (by omega)).trans (a5 p hp), fun s hs => (b6 s hs).trans (a6 s hs), by omega⟩
theorem ET.y {t : Int} {w w' : zW} (h : ET t w w') : YF t w w' := by
  obtain ⟨a1, a2, a3, a4⟩ := h
  have e52 := a1.1 52 (by decide) (by decide)
  have e53 := a1.1 53 (by decide) (by decide)
  refine ⟨mF_sub a1 (by decide) (by decide), a2, ⟨a3, a4⟩, fun p _ => by rw [e52], fun s _ => by rw [e53], by rw [e53]; exact Int.le_refl _⟩
theorem YF_l {t : Int} {w w' : zW} (h : YF t w w') : YL t w w' := ⟨mF_sub h.1 (by decide) (by decide), h.2⟩
theorem YF_m {X : List Int} {t : Int} {w w' : zW} (h : mF [65] X w w') : YX X t w w' := by
  have e50 := h.1 50 (by decide) (by decide)
  have e51 := h.1 51 (by decide) (by decide)
  have e52 := h.1 52 (by decide) (by decide)
  have e53 := h.1 53 (by decide) (by decide)
  exact ⟨mF_sub h (by decide) (fun _ q => q), fun p _ => by rw [e50], ⟨fun s _ => by rw [e51], by rw [e51]; exact Int.le_refl _⟩, fun p _ => by rw [e52], fun s _ => by rw [e53], by rw [e53]; exact Int.le_refl _⟩
theorem YF_52 {X : List Int} {t s v : Int} {w : zW} (hs : 60 * t + 5 * w 53 0 t ≤ s ∧ s < 60 * t + 60) : YX X t w (z_up w 52 0 s v) := by
  refine ⟨mF_up (by decide) (by decide), fun p _ => up_c (by decide), ⟨fun s _ => up_c (by decide), by rw [up_c (by decide)]; exact Int.le_refl _⟩, fun p hp => up_s (by omega), fun s _ => up_c (by decide), by rw [up_c (by decide)]; exact Int.le_refl _⟩
theorem YF_53 {X : List Int} {t v : Int} {w : zW} (hv : w 53 0 t ≤ v) : YX X t w (z_up w 53 0 t v) := by
  refine ⟨mF_up (by decide) (by decide), fun p _ => up_c (by decide), ⟨fun s _ => up_c (by decide), by rw [up_c (by decide)]; exact Int.le_refl _⟩, fun p hp => up_c (by decide), fun s hs => up_s hs, by rw [up_h]; exact hv⟩
/-- clauses that stand -/
def PC (w : zW) (ci u : Int) : Int → List clau → Prop
  | _, [] => True
  | k, C :: Cs => (clC w ci k C ∧ w 16 ci k ≤ u) ∧ PC w ci u (k + 1) Cs
def PM (w : zW) (t v : Int) (r : Bool) : Int → List clau → Prop
  | _, [] => True
  | k, C :: Cs => ((clMs w t k r C.1 ∧ clMt w t k C.2) ∧ (r = false → w 52 0 (60 * t + 5 * k + 2) ≤ v) ∧ (C.2 ≠ [] → w 52 0 (60 * t + 5 * k + 4) ≤ v)) ∧ PM w t v r (k + 1) Cs
theorem PC_snoc {w : zW} {ci u : Int} {C : clau} : ∀ (Cs : List clau) (k : Int), PC w ci u k Cs → (clC w ci (k + Cs.length) C ∧ w 16 ci (k + Cs.length) ≤ u) → PC w ci u k (Cs ++ [C]) := by
  intro Cs
  induction Cs with
  | nil =>
    intro k _ h
    rw [show k + (([] : List clau).length : Int) = k by simp] at h
    exact ⟨h, trivial⟩
  | cons D Cs ih =>
    intro k h hC
    refine ⟨h.1, ih (k + 1) h.2 ?_⟩
    rw [show k + 1 + (Cs.length : Int) = k + ((D :: Cs).length : Int) by rw [List.length_cons]; omega]
    exact hC
theorem PM_snoc {w : zW} {t v : Int} {r : Bool} {C : clau} : ∀ (Cs : List clau) (k : Int), PM w t v r k Cs → ((clMs w t (k + Cs.length) r C.1 ∧ clMt w t (k + Cs.length) C.2) ∧ (r = false → w 52 0 (60 * t + 5 * (k + Cs.length) + 2) ≤ v) ∧ (C.2 ≠ [] → w 52 0 (60 * t + 5 * (k + Cs.length) + 4) ≤ v)) → PM w t v r k (Cs ++ [C]) := by
  intro Cs
  induction Cs with
  | nil =>
    intro k _ h
    rw [show k + (([] : List clau).length : Int) = k by simp] at h
    exact ⟨h, trivial⟩
  | cons D Cs ih =>
    intro k h hC
    refine ⟨h.1, ih (k + 1) h.2 ?_⟩
    rw [show k + 1 + (Cs.length : Int) = k + ((D :: Cs).length : Int) by rw [List.length_cons]; omega]
    exact hC
theorem PC_fr {w w' : zW} {ci u u' m : Int} (h13 : ∀ p, p < u → w' 13 ci p = w 13 ci p) (hu : u ≤ u') (h4 : ∀ s, s < m → w' 14 ci s = w 14 ci s ∧ w' 15 ci s = w 15 ci s ∧ w' 16 ci s = w 16 ci s) : ∀ (Cs : List clau) (k : Int), k + Cs.length ≤ m → PC w ci u k Cs → PC w' ci u' k Cs := by
  intro Cs
  induction Cs with
  | nil => intro k _ _; exact trivial
  | cons C Cs ih =>
    intro k hm h
    rw [List.length_cons] at hm
    obtain ⟨⟨⟨c1, c2, c3, c4, c5, c6⟩, c7⟩, c8⟩ := h
    obtain ⟨e14, e15, e16⟩ := h4 k (by omega)
    refine ⟨⟨⟨by rw [e14]; exact c1, ?_, by rw [e14, e15]; exact c3, ?_, by rw [e15, e16]; exact c5, by rw [e16]; exact c6⟩, by rw [e16]; omega⟩, ih (k + 1) (by omega) c8⟩
    · rw [e14]
      exact seg_congr (fun j j0 j1 => h13 j (by omega)) c2
    · rw [e15]
      exact seg_congr (fun j j0 j1 => h13 j (by omega)) c4
theorem PM_fr {w w' : zW} {t v v' m : Int} {r : Bool} (h50 : ∀ p, p < 400 * t + v → w' 50 0 p = w 50 0 p) (hv : v ≤ v') (h52 : ∀ p, p < 60 * t + 5 * m → w' 52 0 p = w 52 0 p) : ∀ (Cs : List clau) (k : Int), k + Cs.length ≤ m → PM w t v r k Cs → PM w' t v' r k Cs := by
  intro Cs
  induction Cs with
  | nil => intro k _ _; exact trivial
  | cons C Cs ih =>
    intro k hm h
    rw [List.length_cons] at hm
    obtain ⟨⟨⟨c1, c2⟩, c3, c4⟩, c8⟩ := h
    have e0 := h52 (60 * t + 5 * k) (by omega)
    have e1 := h52 (60 * t + 5 * k + 1) (by omega)
    have e2 := h52 (60 * t + 5 * k + 2) (by omega)
    have e3 := h52 (60 * t + 5 * k + 3) (by omega)
    have e4 := h52 (60 * t + 5 * k + 4) (by omega)
    refine ⟨⟨⟨?_, ?_⟩, fun q => by rw [e2]; have := c3 q; omega, fun q => by rw [e4]; have := c4 q; omega⟩, ih (k + 1) (by omega) c8⟩
    · unfold clMs at *
      by_cases hr : r = true
      · rw [if_pos hr] at c1 ⊢
        rw [e0]
        exact c1
      · rw [if_neg hr] at c1 ⊢
        obtain ⟨x1, x2, x3, x4⟩ := c1
        have hb := c3 (by cases r <;> simp_all)
        rw [e1, e2]
        exact ⟨x1, seg_congr (fun j j0 j1 => h50 _ (by omega)) x2, x3, x4⟩
    · rcases c2 with ⟨x1, x2⟩ | ⟨x1, x2, x3, x4, x5⟩
      · exact Or.inl ⟨x1, by rw [e3]; exact x2⟩
      · have hb := c4 x1
        refine Or.inr ⟨x1, by rw [e3]; exact x2, ?_, by rw [e3, e4]; exact x4, by rw [e4]; exact x5⟩
        rw [e3]
        exact seg_congr (fun j j0 j1 => h50 _ (by omega)) x3
theorem PC_X {w w' : zW} {ci : Int} {Cs : List clau} (h : XF ci w w') (hl : (Cs.length : Int) ≤ w 1 ci 6) (hP : PC w ci (w 1 ci 5) 0 Cs) : PC w' ci (w' 1 ci 5) 0 Cs := PC_fr h.2.2.2.1 h.2.2.2.2.1 h.2.2.2.2.2.1 Cs 0 (by omega) hP
theorem PM_Y {X : List Int} {w w' : zW} {t : Int} {r : Bool} {Cs : List clau} (h : YX X t w w') (hl : (Cs.length : Int) ≤ w 53 0 t) (hP : PM w t (w 51 0 t) r 0 Cs) : PM w' t (w' 51 0 t) r 0 Cs := PM_fr (fun p hp => h.2.1 p (Or.inl hp)) h.2.2.1.2 (fun p hp => h.2.2.2.1 p (Or.inl hp)) Cs 0 (by omega) hP
theorem PC_C {w : zW} {ci u : Int} : ∀ (Cs : List clau) (k : Int), PC w ci u k Cs → w 1 ci 6 = k + Cs.length → ClC w ci k Cs := by
  intro Cs
  induction Cs with
  | nil =>
    intro k _ h
    show w 1 ci 6 = k
    rw [h, List.length_nil]
    omega
  | cons C Cs ih =>
    intro k h hl
    rw [List.length_cons] at hl
    exact ⟨h.1.1, ih (k + 1) h.2 (by omega)⟩
theorem PM_C {w : zW} {t v : Int} {r : Bool} : ∀ (Cs : List clau) (k : Int), PM w t v r k Cs → w 53 0 t = k + Cs.length → ClM w t r k Cs := by
  intro Cs
  induction Cs with
  | nil =>
    intro k _ h
    show w 53 0 t = k
    rw [h, List.length_nil]
    omega
  | cons C Cs ih =>
    intro k h hl
    rw [List.length_cons] at hl
    exact ⟨h.1.1, ih (k + 1) h.2 (by omega)⟩
section
variable {d d' : Nat} {T : Int → Int} {n ci t bc bm pend : Int} {L : List tok} {wc wm : zW}
theorem JK_g {S : List Nat} {X : List Int} {v : zW} (h : JK ci t bc bm L pend wc wm) (hf : mF S X wm v) (h50 : 50 ∉ S) (h51 : 51 ∉ S) (h21 : 21 ∉ X) (h22 : 22 ∉ X) : JK ci t bc bm L pend wc v := by
  obtain ⟨⟨j2, j3, j4⟩, j5, j6, j7⟩ := h
  exact ⟨⟨j2, (hf.2 21 h21).trans j3, j4⟩, ⟨(hf.2 22 h22).trans j5.1, j5.2⟩, KC_fr j6 rfl rfl (hf.1 50 h50 (by decide)) (hf.1 51 h51 (by decide)), j7⟩
theorem JK_c {w : zW} (h : JK ci t bc bm L pend wc wm) (h5 : w 5 = wc 5) (h13 : w 13 ci = wc 13 ci) (h1 : w 1 ci 5 = wc 1 ci 5) : JK ci t bc bm L pend w wm := by
  unfold JK KC at *
  rw [h5, h13, h1]
  exact h
theorem JR_g {S : List Nat} {X : List Int} {w v : zW} (h : JR T n wc wm) (hf : mF S X wm v) (h48 : 48 ∉ S) (hX : 1 ∉ X ∧ 18 ∉ X ∧ 19 ∉ X) (h5 : w 5 = wc 5) (h20 : w 20 = wc 20) : JR T n w v := by
  obtain ⟨h1, ⟨m1, m2, m3⟩, h3, h4, h6⟩ := h
  refine ⟨?_, ⟨(hf.2 1 hX.1).trans m1, m2, fun k k0 k1 => ?_⟩, (hf.2 19 hX.2.2).trans h3, ?_, ?_⟩
  · unfold CT at *
    rw [h5, h20]
    exact h1
  · rw [hf.1 48 h48 (by decide)]
    exact m3 k k0 k1
  · rw [hf.2 18 hX.2.1]; exact h4
  · rw [hf.2 18 hX.2.1, h5]; exact h6
/-- from here on anew -/
theorem JC_re (h : JC T n ci t bc bm L pend wc wm) (hp : 0 ≤ pend) : JC T n ci t (wc 1 ci 5) (wm 51 0 t) [] pend wc wm := by
  have hln := h.ln hp
  obtain ⟨j1, j2, j3, ⟨k1, k2, k3, k4⟩, j5, j6⟩ := h
  refine ⟨j1, j2, j3, ⟨trivial, ?_, trivial, ?_⟩, ?_, by omega, by omega⟩
  · show _ = _ + ((0 : Nat) : Int)
    omega
  · show _ = _ + ((0 : Nat) : Int)
    omega
  · show wc 1 ci 5 + ((0 : Nat) : Int) + pend ≤ _
    omega
theorem s_openOne {k u : Int} (hk : wc 1 ci 6 = k) (hu : wc 1 ci 5 = u) (h12 : 0 ≤ k ∧ k < 12) : Clauses_openOne d ci wc = some (0, z_up wc 14 ci k u) ∧ XF ci wc (z_up wc 14 ci k u) := by
  refine ⟨by rw [e_Clauses_openOne, hk, if_neg (by omega), gd_t (by omega), hu], fr_up (by decide), fun i hi => ⟨?_, ?_, ?_, ?_, ?_⟩, fun s _ => up_c (by decide), fun p _ => up_c (by decide), by rw [up_c (by decide)]; exact Int.le_refl _, fun s hs => ⟨up_s (by omega), up_c (by decide), up_c (by decide)⟩, by rw [up_c (by decide)]; exact Int.le_refl _⟩
  · funext s; exact up_c (by decide)
  · funext s; exact up_c (by decide)
  · funext s; exact up_i hi
  · funext s; exact up_c (by decide)
  · funext s; exact up_c (by decide)
theorem s_openTest {k u : Int} (hk : wc 1 ci 6 = k) (hu : wc 1 ci 5 = u) (h12 : 0 ≤ k ∧ k < 12) : Clauses_openTest d ci wc = some (0, z_up wc 15 ci k u) ∧ XF ci wc (z_up wc 15 ci k u) := by
  refine ⟨by rw [e_Clauses_openTest, hk, if_neg (by omega), gd_t (by omega), hu], fr_up (by decide), fun i hi => ⟨?_, ?_, ?_, ?_, ?_⟩, fun s _ => up_c (by decide), fun p _ => up_c (by decide), by rw [up_c (by decide)]; exact Int.le_refl _, fun s hs => ⟨up_c (by decide), up_s (by omega), up_c (by decide)⟩, by rw [up_c (by decide)]; exact Int.le_refl _⟩
  · funext s; exact up_c (by decide)
  · funext s; exact up_c (by decide)
  · funext s; exact up_c (by decide)
  · funext s; exact up_i hi
  · funext s; exact up_c (by decide)
theorem s_closeOne {k u : Int} (hk : wc 1 ci 6 = k) (hu : wc 1 ci 5 = u) (h12 : 0 ≤ k ∧ k < 12) : Clauses_closeOne d ci wc = some (0, z_up (z_up wc 16 ci k u) 1 ci 6 (k + 1)) ∧ XF ci wc (z_up (z_up wc 16 ci k u) 1 ci 6 (k + 1)) := by
  refine ⟨by rw [e_Clauses_closeOne, hk, if_neg (by omega), gd_t (by omega), gd_t (by omega), hu], fr_tr (fr_up (by decide)) (fr_up (by decide)), fun i hi => ⟨?_, ?_, ?_, ?_, ?_⟩, fun s _ => by rw [up_c (by decide), up_c (by decide)], fun p _ => by rw [up_c (by decide), up_c (by decide)], by rw [up_s (by decide), up_c (by decide)]; exact Int.le_refl _, fun s hs => ⟨by rw [up_c (by decide), up_c (by decide)], by rw [up_c (by decide), up_c (by decide)], by rw [up_c (by decide), up_s (by omega)]⟩, by rw [up_h]; omega⟩
  · funext s; rw [up_i hi, up_c (by decide)]
  · funext s; rw [up_c (by decide), up_c (by decide)]
  · funext s; rw [up_c (by decide), up_c (by decide)]
  · funext s; rw [up_c (by decide), up_c (by decide)]
  · funext s; rw [up_c (by decide), up_i hi]
end
