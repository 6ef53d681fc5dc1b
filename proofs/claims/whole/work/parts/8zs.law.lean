/-! a law's text: frames, bits -/
theorem z_bit {x k : Nat} (hx : x < 256) (hk : k < 8) : z_and ((x : Int) / 2 ^ ((k : Int)).toNat) 1 = 1 ↔ x.testBit k = true := by
  have h1 : (2 : Int) ^ ((k : Int)).toNat = ((2 ^ k : Nat) : Int) := by
    rw [show ((k : Int)).toNat = k by omega]
    push_cast
    rfl
  have h2 : ((x : Int) / ((2 ^ k : Nat) : Int)) = ((x / 2 ^ k : Nat) : Int) := (Int.natCast_ediv x (2 ^ k)).symm
  have h3 : x / 2 ^ k ≤ x := Nat.div_le_self _ _
  rw [h1, h2, Nat.testBit_eq_decide_div_mod_eq]
  generalize x / 2 ^ k = y at *
  rw [z_and_1 (by omega)]
  simp only [decide_eq_true_eq]
  omega
theorem z_set {x k : Nat} (hx : x < 256) (hk : k < 8) : z_or (x : Int) (1 * 2 ^ ((k : Int)).toNat) = ((x ||| 2 ^ k : Nat) : Int) ∧ x ||| 2 ^ k < 256 ∧ (∀ j, (x ||| 2 ^ k).testBit j = (x.testBit j || decide (k = j))) ∧ inI (1 * 2 ^ ((k : Int)).toNat) := by
  have h1 : (1 : Int) * 2 ^ ((k : Int)).toNat = ((2 ^ k : Nat) : Int) := by
    rw [show ((k : Int)).toNat = k by omega]
    push_cast
    omega
  have h2 : (2 : Nat) ^ k ≤ 128 := Nat.pow_le_pow_right (n := 2) (by decide) (show k ≤ 7 by omega)
  have h4 : x ||| 2 ^ k < 2 ^ 8 := Nat.or_lt_two_pow hx (by omega)
  refine ⟨?_, h4, fun j => ?_, ?_⟩
  · rw [h1, z_or_nat (by omega) (by omega)]
  · rw [Nat.testBit_or, Nat.testBit_two_pow]
  · rw [h1]
    generalize 2 ^ k = p at *
    omega
theorem z_orN0 {x : Nat} (hx : x < 256) : z_or (x : Int) 0 = x := by
  have h : z_or (x : Int) ((0 : Nat) : Int) = ((x ||| 0 : Nat) : Int) := z_or_nat (by omega) (by omega)
  rw [Nat.or_zero] at h
  exact h
def XL (ci : Int) (w w' : zW) : Prop := z_fr [1, 2, 5, 13, 14, 15, 16] w w' ∧ (∀ i, i ≠ ci → w' 1 i = w 1 i ∧ w' 2 i = w 2 i ∧ w' 13 i = w 13 i ∧ w' 14 i = w 14 i ∧ w' 15 i = w 15 i ∧ w' 16 i = w 16 i) ∧ (∀ s, (s < 2 ∨ 6 < s) → w' 5 0 s = w 5 0 s) ∧ (∀ p, p < w 1 ci 5 → w' 13 ci p = w 13 ci p) ∧ w 1 ci 5 ≤ w' 1 ci 5 ∧ (∀ s, s < w 1 ci 6 → w' 14 ci s = w 14 ci s ∧ w' 15 ci s = w 15 ci s ∧ w' 16 ci s = w 16 ci s) ∧ w 1 ci 6 ≤ w' 1 ci 6
theorem XL_tr {ci : Int} {w w' w'' : zW} (h : XL ci w w') (h' : XL ci w' w'') : XL ci w w'' := by
  obtain ⟨a1, a2, a3, a4, a5, a6, a7⟩ := h
  obtain ⟨b1, b2, b3, b4, b5, b6, b7⟩ := h'
  refine ⟨fr_tr a1 b1, fun i hi => ?_, fun s hs => (b3 s hs).trans (a3 s hs), fun p hp => (b4 p (by omega)).trans (a4 p hp), by omega, fun s hs => ?_, by omega⟩
  · obtain ⟨c1, c2, c3, c4, c5, c6⟩ := a2 i hi
    obtain ⟨d1, d2, d3, d4, d5, d6⟩ := b2 i hi
    exact ⟨d1.trans c1, d2.trans c2, d3.trans c3, d4.trans c4, d5.trans c5, d6.trans c6⟩
  · obtain ⟨c1, c2, c3⟩ := a6 s hs
    obtain ⟨d1, d2, d3⟩ := b6 s (by omega)
    exact ⟨d1.trans c1, d2.trans c2, d3.trans c3⟩
theorem XF.l {ci : Int} {w w' : zW} (h : XF ci w w') : XL ci w w' := by
  obtain ⟨a1, a2, a3⟩ := h
  have e2 := a1 2 (by decide)
  exact ⟨fr_sub a1 (by decide), fun i hi => ⟨(a2 i hi).1, by rw [e2], (a2 i hi).2⟩, a3⟩
theorem XL_2 {ci s v : Int} {w : zW} : XL ci w (z_up w 2 ci s v) := by
  refine ⟨fr_up (by decide), fun i hi => ⟨?_, ?_, ?_, ?_, ?_, ?_⟩, fun s _ => up_c (by decide), fun p _ => up_c (by decide), by rw [up_c (by decide)]; exact Int.le_refl _, fun s _ => ⟨up_c (by decide), up_c (by decide), up_c (by decide)⟩, by rw [up_c (by decide)]; exact Int.le_refl _⟩
  · funext y; exact up_c (by decide)
  · funext y; exact up_i hi
  · funext y; exact up_c (by decide)
  · funext y; exact up_c (by decide)
  · funext y; exact up_c (by decide)
  · funext y; exact up_c (by decide)
theorem PC_L {w w' : zW} {ci : Int} {Cs : List clau} (h : XL ci w w') (hl : (Cs.length : Int) ≤ w 1 ci 6) (hP : PC w ci (w 1 ci 5) 0 Cs) : PC w' ci (w' 1 ci 5) 0 Cs := PC_fr h.2.2.2.1 h.2.2.2.2.1 h.2.2.2.2.2.1 Cs 0 (by omega) hP
def YW (t : Int) (w w' : zW) : Prop := mF [50, 51, 52, 53, 54, 55, 56, 57, 65] [18, 19, 20, 22, 23, 24, 26] w w' ∧ (∀ p, (p < 400 * t + w 51 0 t ∨ 400 * t + 400 ≤ p) → w' 50 0 p = w 50 0 p) ∧ ((∀ s, s ≠ t → w' 51 0 s = w 51 0 s) ∧ w 51 0 t ≤ w' 51 0 t) ∧ (∀ p, (p < 60 * t + 5 * w 53 0 t ∨ 60 * t + 60 ≤ p) → w' 52 0 p = w 52 0 p) ∧ ((∀ s, s ≠ t → w' 53 0 s = w 53 0 s) ∧ w 53 0 t ≤ w' 53 0 t) ∧ ∀ s, s ≠ t → w' 54 0 s = w 54 0 s ∧ w' 55 0 s = w 55 0 s ∧ w' 56 0 s = w 56 0 s ∧ w' 57 0 s = w 57 0 s
theorem YW_tr {t : Int} {w w' w'' : zW} (h : YW t w w') (h' : YW t w' w'') : YW t w w'' := by
  obtain ⟨a1, a2, ⟨a3, a4⟩, a5, ⟨a6, a7⟩, a8⟩ := h
  obtain ⟨b1, b2, ⟨b3, b4⟩, b5, ⟨b6, b7⟩, b8⟩ := h'
  refine ⟨mF_tr a1 b1, fun p hp => (b2 p (by omega)).trans (a2 p hp), ⟨fun s hs => (b3 s hs).trans (a3 s hs), by omega⟩, fun p hp => (b5 p (by omega)).trans (a5 p hp), ⟨fun s hs => (b6 s hs).trans (a6 s hs), by omega⟩, fun s hs => ?_⟩
  obtain ⟨c1, c2, c3, c4⟩ := a8 s hs
  obtain ⟨d1, d2, d3, d4⟩ := b8 s hs
  exact ⟨d1.trans c1, d2.trans c2, d3.trans c3, d4.trans c4⟩
theorem YL_w {t : Int} {w w' : zW} (h : YL t w w') : YW t w w' := by
  obtain ⟨a1, a2, a3, a4, a5⟩ := h
  have e4 := a1.1 54 (by decide) (by decide)
  have e5 := a1.1 55 (by decide) (by decide)
  have e6 := a1.1 56 (by decide) (by decide)
  have e7 := a1.1 57 (by decide) (by decide)
  exact ⟨mF_sub a1 (by decide) (by decide), a2, a3, a4, a5, fun s _ => ⟨by rw [e4], by rw [e5], by rw [e6], by rw [e7]⟩⟩
theorem YW_m {t : Int} {w w' : zW} (h : mF [65] [18, 19, 20, 22, 23, 24, 26] w w') : YW t w w' := YL_w (YF_m h)
theorem YW_k {t v : Int} {k : Nat} {w : zW} (hk : k = 54 ∨ k = 55 ∨ k = 56 ∨ k = 57) : YW t w (z_up w k 0 t v) := by
  have h1 : ∀ c : Nat, c ≠ k → (z_up w k 0 t v) c = w c := fun c hc => upc hc
  refine ⟨mF_up (by rcases hk with rfl | rfl | rfl | rfl <;> decide) (by omega), fun p _ => by rw [h1 50 (by omega)], ⟨fun s _ => by rw [h1 51 (by omega)], by rw [h1 51 (by omega)]; exact Int.le_refl _⟩, fun p _ => by rw [h1 52 (by omega)], ⟨fun s _ => by rw [h1 53 (by omega)], by rw [h1 53 (by omega)]; exact Int.le_refl _⟩, fun s hs => ?_⟩
  have h2 : ∀ c : Nat, (z_up w k 0 t v) c 0 s = w c 0 s := fun c => by
    unfold z_up
    rw [if_neg (fun q => hs q.2.1)]
  exact ⟨h2 _, h2 _, h2 _, h2 _⟩
theorem PM_W {w w' : zW} {t : Int} {r : Bool} {Cs : List clau} (h : YW t w w') (hl : (Cs.length : Int) ≤ w 53 0 t) (hP : PM w t (w 51 0 t) r 0 Cs) : PM w' t (w' 51 0 t) r 0 Cs := PM_fr (fun p hp => h.2.1 p (Or.inl hp)) h.2.2.1.2 (fun p hp => h.2.2.2.1 p (Or.inl hp)) Cs 0 (by omega) hP
section
variable {d d' : Nat} {T : Int → Int} {n ci t bc bm pend : Int} {wc wm : zW}
/-- a number read goes on -/
theorem s_num_pl {lo hi x : Int} {wc' : zW} (h : CT T n wc) (h' : CT T n wc') (hr : Reader_number (d + 1) lo hi wc = some (x, wc')) : wc 5 0 4 ≤ wc' 5 0 4 := by
  have bad : ∀ k : Int, 0 ≤ k → k ≤ 7 → ((Reader_refuse d k wc).bind fun r2 => some (lo, r2.2)) ≠ some (x, wc') := fun k k0 k1 q => by
    obtain ⟨w1, p1, -, p3⟩ := s_refuse (d := d) (k := k) h ⟨k0, k1⟩
    rw [p1, bnd] at q
    dsimp only at q
    injection q with q
    injection q with _ q
    subst q
    have := h'.2.2.1
    have := p3.1
    have := p3.2.2.1
    omega
  rw [e_Reader_number] at hr
  by_cases z : wc 5 0 3 = 48
  · obtain ⟨g1, g2, g3⟩ := s_digits (d := d) h z
    have hbh := h.bh
    have hq := h.2.2.2.1
    have hn := h.1
    rw [if_pos z, g1, bnd] at hr
    dsimp only at hr
    rw [gd_t (by omega)] at hr
    by_cases y : 5 < wc 5 0 5 - wc 5 0 4
    · rw [if_pos y] at hr
      exact absurd hr (bad 1 (by decide) (by decide))
    rw [if_neg y] at hr
    by_cases u : dvN T (wc 5 0 4) (min 5 (wc 5 0 5 - wc 5 0 4).toNat) < lo
    · rw [if_pos u] at hr
      exact absurd hr (bad 1 (by decide) (by decide))
    rw [if_neg u] at hr
    by_cases v : dvN T (wc 5 0 4) (min 5 (wc 5 0 5 - wc 5 0 4).toNat) ≤ hi
    · rw [if_pos v] at hr
      obtain ⟨w1, p1, p2, p3, p4⟩ := CT_nx (d := d) h
      rw [p1, bnd] at hr
      dsimp only at hr
      injection hr with hr
      injection hr with _ hr
      subst hr
      have := p4.1
      omega
    · rw [if_neg v] at hr
      exact absurd hr (bad 1 (by decide) (by decide))
  · rw [if_neg z] at hr
    exact absurd hr (bad 0 (by decide) (by decide))
/-- a number, with the code at rest -/
theorem j_numK {lo hi : Int} (h : JR T n wc wm) : ∃ x wc' rm wm', Reader_number (d + 1) lo hi wc = some (x, wc') ∧ M_numberHere (d' + 1) lo hi wm = some (rm, wm') ∧ RF wc wc' ∧ mF [] [18, 19, 20] wm wm' ∧ ((rm = 1 ∧ JR T n wc' wm' ∧ wm' 11 0 20 = x ∧ lo ≤ x ∧ x ≤ hi ∧ ∀ (ci t bc bm : Int) (v : zW), JK ci t bc bm [] 0 wc v → JK ci t bc bm [] 0 wc' v) ∨ (rm = 0 ∧ x = lo ∧ ∃ f, CF f wc' ∧ wm' 11 0 19 = f)) := by
  obtain ⟨x, wc', rm, wm', p1, p2, p3, p4, p5⟩ := j_number (d := d) (d' := d') (lo := lo) (hi := hi) h
  refine ⟨x, wc', rm, wm', p1, p2, p3, p4, ?_⟩
  rcases p5 with ⟨y1, y2, y3, y4, y5, -⟩ | y
  · refine Or.inl ⟨y1, y2, y3, y4, y5, fun ci t bc bm v hK => ?_⟩
    have hpl := s_num_pl h.1 y2.1 p1
    obtain ⟨⟨j2, j3⟩, ⟨j4, j5⟩, j6, j7⟩ := hK
    have e6 : wc' 5 0 6 = wc 5 0 6 := p3.2 6 (by decide) (by decide) (by decide) (by decide)
    refine ⟨⟨?_, j3⟩, ⟨?_, ?_⟩, KC_fr j6 (p3.1 13 (by decide)) (p3.1 1 (by decide)) rfl rfl, by omega, j7.2⟩
    · rw [p3.2 8 (by decide) (by decide) (by decide) (by decide)]; exact j2
    · rw [e6]; exact j4
    · rw [e6]; exact j5
  · exact Or.inr y
end
abbrev str2 : List Int := [100, 114, 105, 102, 116, 32, 102, 101, 101, 108, 32, 115, 101, 101, 32, 104, 101, 97, 114, 32, 115, 116, 101, 112]
abbrev lawCW : List (List Int) := [w_drift, w_feel, w_see, w_hear, w_step]
theorem ss2 : SS 2 str2 := ss_i rfl (by decide) (by decide)
theorem ly2 : LY str2 0 lawCW := ⟨by decide, by decide, by decide, by decide, by decide, by decide, by decide, by decide, by decide, by decide, rfl⟩
theorem ok2 : okWs lawCW := okWs_i (by decide)
/-- the four numbers of a law, as far as they are told -/
def SL (x : Nat) (j : Int) (wc wm : zW) : Prop := ∀ f : Nat, f < 4 → (x.testBit f = true → wm (54 + f) 0 j = wc 2 j (1 + f) ∧ 0 ≤ wc 2 j (1 + f) ∧ wc 2 j (1 + f) ≤ (if f = 0 then 500 else 1000)) ∧ (x.testBit f = false → wm (54 + f) 0 j = -1 ∧ wc 2 j (1 + f) = (if f = 0 then 20 else 800))
theorem SL_eq {x : Nat} {j : Int} {wc wm wc' wm' : zW} (h : SL x j wc wm) (h2 : wc' 2 = wc 2) (h5 : ∀ c, (c = 54 ∨ c = 55 ∨ c = 56 ∨ c = 57) → wm' c = wm c) : SL x j wc' wm' := fun f hf => by
  have := h f hf
  rw [h2, h5 (54 + f) (by omega)]
  exact this
def LU (T : Int → Int) (n j : Int) (x : Nat) (Cs : List clau) (wc wm : zW) : Prop := (∃ bc bm, JC T n j j bc bm [] 0 wc wm) ∧ PC wc j (wc 1 j 5) 0 Cs ∧ PM wm j (wm 51 0 j) false 0 Cs ∧ (∀ C ∈ Cs, clT 5 C) ∧ (wc 1 j 6 = Cs.length ∧ wm 53 0 j = Cs.length) ∧ wc 5 0 7 = 0 ∧ x < 256 ∧ SL x j wc wm
