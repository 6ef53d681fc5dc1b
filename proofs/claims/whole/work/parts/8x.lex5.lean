theorem m_fails {d : Nat} {k p : Int} {w : zW} (h : w 11 0 19 = 0) (hk : 0 ≤ k ∧ k ≤ 7) (hp : 0 ≤ p ∧ p ≤ 400) : M_fails d k p w = some (0, z_up w 11 0 19 (1 + 8 * p + k)) := by
  rw [e_M_fails, if_pos h, gd_t (by omega), gd_t (by omega), gd_t (by omega), gd_t (by decide)]
theorem dig_dec (x : Int) : dig x ∨ ¬ dig x := by omega
section
variable {d : Nat} {w : zW} {T : Int → Int} {n : Int}
/-- what the loop over digits comes to -/
theorem m_number_3 {lo hi q b : Int} (hT : MT T n w) (hq : 0 ≤ q ∧ q ≤ n) (hb : rnR dig T n q b) : ∀ (m k : Nat), q + k + m = b →
    M_numberHere_3 (d + 1) lo hi q (dvN T q (min 5 k)) (z_up w 11 0 18 (q + k)) = (if 5 < b - q then M_numberHere_9 (d + 1) q (z_up (z_up w 11 0 18 b) 11 0 20 (dvN T q (min 5 (b - q).toNat))) else if lo ≤ dvN T q (min 5 (b - q).toNat) ∧ dvN T q (min 5 (b - q).toNat) ≤ hi then some (1, z_up (z_up w 11 0 18 b) 11 0 20 (dvN T q (min 5 (b - q).toNat))) else M_numberHere_9 (d + 1) q (z_up (z_up w 11 0 18 b) 11 0 20 (dvN T q (min 5 (b - q).toNat)))) := by
  have hbn := rn_n hq.2 hb
  have hn4 := hT.2.1
  intro m
  induction m with
  | zero =>
    intro k hk
    have hx : b - q = k := by omega
    have hno : ¬ (b < n ∧ dig (T b)) := fun z => by
      rcases hb.2.2 with y | y
      · omega
      · exact y z.2
    have hqk : q + k = b := by omega
    have hdg := m_isDigit (d := d) (p := b) (MT_p (v := b) hT) (by omega)
    rw [if_neg hno] at hdg
    rw [e_M_numberHere_3, hqk, up_h, hdg, bnd, if_pos rfl]
    dsimp only
    have e18 : ∀ x, (z_up w 11 0 18 x) 11 0 18 = x := fun _ => up_h
    simp only [e18]
    rw [gd_t (by omega), show (b - q).toNat = k by omega]
    by_cases z : 5 < b - q
    · rw [if_pos z, if_pos z]
    · rw [if_neg z, if_neg z, m_in, bnd]
      dsimp only
      by_cases y : lo ≤ dvN T q (min 5 k) ∧ dvN T q (min 5 k) ≤ hi
      · rw [if_pos y, if_pos y, if_neg (by decide), gd_t (by decide)]
      · rw [if_neg y, if_neg y, if_pos rfl]
  | succ m ih =>
    intro k hk
    have hx := hb.2.1 (q + k) (by omega) (by omega)
    have hdg := m_isDigit (d := d) (p := q + k) (MT_p (v := q + k) hT) (by omega)
    rw [if_pos hx] at hdg
    have ih' := ih (k + 1) (by omega)
    rw [show q + ((k + 1 : Nat) : Int) = q + k + 1 by omega] at ih'
    rw [← ih', e_M_numberHere_3, up_h, hdg, bnd]
    dsimp only
    have e18 : ∀ x, (z_up w 11 0 18 x) 11 0 18 = x := fun _ => up_h
    simp only [e18]
    rw [if_neg (show ¬ (1 : Int) = 0 by decide), gd_t (by omega)]
    by_cases z : 5 ≤ q + (k : Int) - q
    · rw [if_pos z, gd_t (by omega), up_2, show min 5 (k + 1) = min 5 k by omega]
    · have h1 := dv_5 (T := T) (q := q) (k := k) (by omega) (fun j hj => (hb.2.1 (q + j) (by omega) (by omega)).2)
      have h48 : (z_up w 11 0 18 (q + k)) 48 0 (q + k) = T (q + k) := by
        rw [up_c (by decide), (hT.2.2 (q + k) (by omega) hx.1).2]
        unfold z_w8
        omega
      have hs : dvN T q (min 5 (k + 1)) = 10 * dvN T q (min 5 k) + T (q + k) - 48 := by
        rw [show min 5 (k + 1) = k + 1 by omega, show min 5 k = k by omega]
        show dvN T q k * 10 + T (q + k) - 48 = _
        omega
      rw [show min 5 k = k by omega] at hs ⊢
      rw [if_neg z, gd_t (by omega), gd_t (by omega), h48, gd_t (by omega), gd_t (by omega), gd_t (by omega), up_2, hs]
end
/-- both at a sign -/
def JR (T : Int → Int) (n : Int) (wc wm : zW) : Prop := CT T n wc ∧ MT T n wm ∧ wm 11 0 19 = 0 ∧ (0 ≤ wm 11 0 18 ∧ wm 11 0 18 ≤ n) ∧ rnR blk T n (wm 11 0 18) (wc 5 0 4)
section
variable {d d' : Nat} {wc wm : zW} {T : Int → Int} {n : Int}
theorem JR_m {wm' : zW} (h : JR T n wc wm) (hm : mF [] [18, 20] wm wm') (h18 : wm' 11 0 18 = wc 5 0 4) : JR T n wc wm' := by
  obtain ⟨h1, ⟨m1, m2, m3⟩, h3, h4, h5⟩ := h
  refine ⟨h1, ⟨(hm.2 1 (by decide)).trans m1, m2, fun k k0 k1 => ?_⟩, (hm.2 19 (by decide)).trans h3, ?_, ?_⟩
  · rw [hm.1 48 (by decide) (by decide)]
    exact m3 k k0 k1
  · rw [h18]
    exact h1.2.2.2.1
  · rw [h18]
    exact rn_i h5
/-- the model sees where the class stands -/
theorem j_see (h : JR T n wc wm) : M_see d wm = some (if n ≤ wc 5 0 4 then -1 else T (wc 5 0 4), z_up wm 11 0 18 (wc 5 0 4)) ∧ JR T n wc (z_up wm 11 0 18 (wc 5 0 4)) := by
  obtain ⟨q, q1, q2, q3⟩ := m_see (d := d) h.2.1 h.2.2.2.1
  have hq := rn_u q1 h.2.2.2.2
  subst hq
  exact ⟨q3, JR_m h (mF_11 (by decide)) up_h⟩
/-- the next sign -/
theorem j_next {wc' wm' : zW} (h : CT T n wc') (hm : MT T n wm') (h19 : wm' 11 0 19 = 0) (hp : 0 ≤ wm' 11 0 18 ∧ wm' 11 0 18 ≤ n) (hb : rnR blk T n (wm' 11 0 18) (wc' 5 0 4)) : JR T n wc' wm' := ⟨h, hm, h19, hp, hb⟩
theorem s_numberF {f lo hi : Int} (h : CF f wc) : ∃ wc', Reader_number (d + 1) lo hi wc = some (lo, wc') ∧ RF wc wc' ∧ CF f wc' := by
  obtain ⟨w1, p1, p2, p3⟩ := s_refuseF (d := d) (k := 0) h
  exact ⟨w1, by rw [e_Reader_number, if_neg (by have := h.2.1; omega), p1, bnd], p2, p3⟩
/-- a number, in both -/
theorem j_number {lo hi : Int} (h : JR T n wc wm) : ∃ x wc' rm wm', Reader_number (d + 1) lo hi wc = some (x, wc') ∧ M_numberHere (d' + 1) lo hi wm = some (rm, wm') ∧ RF wc wc' ∧ mF [] [18, 19, 20] wm wm' ∧ ((rm = 1 ∧ JR T n wc' wm' ∧ wm' 11 0 20 = x ∧ lo ≤ x ∧ x ≤ hi ∧ wc 5 0 3 = 48) ∨ (rm = 0 ∧ x = lo ∧ ∃ f, CF f wc' ∧ wm' 11 0 19 = f)) := by
  obtain ⟨hs, hJ⟩ := j_see (d := d') h
  have hC := h.1
  have hbh := hC.bh
  have hq := hC.2.2.2.1
  have hn := hC.1
  have hMT := hJ.2.1
  have hdg := m_isDigit (d := d') (p := wc 5 0 4) hMT hq.1
  rcases TK_dig hC.2.2.2.2 with ⟨z1, z2, z3, z4⟩ | ⟨z1, z2⟩
  · rw [if_pos ⟨z2, z3⟩] at hdg
    obtain ⟨g1, g2, g3⟩ := s_digits (d := d) hC z1
    have hl := m_number_3 (d := d') (lo := lo) (hi := hi) hMT hq z4 (wc 5 0 5 - wc 5 0 4).toNat 0 (by omega)
    have hd0 : dvN T (wc 5 0 4) (min 5 0) = 0 := rfl
    rw [show wc 5 0 4 + ((0 : Nat) : Int) = wc 5 0 4 by omega, up_2, up_2, hd0] at hl
    generalize hv : dvN T (wc 5 0 4) (min 5 (wc 5 0 5 - wc 5 0 4).toNat) = v at *
    have hM : M_numberHere (d' + 1) lo hi wm = M_numberHere_3 (d' + 1) lo hi (wc 5 0 4) 0 (z_up wm 11 0 18 (wc 5 0 4)) := by
      rw [e_M_numberHere, hs, bnd]
      dsimp only
      rw [up_h, hdg, bnd]
      dsimp only
      rw [if_neg (show ¬ (1 : Int) = 0 by decide), up_h]
    have h19 : (z_up (z_up wm 11 0 18 (wc 5 0 5)) 11 0 20 v) 11 0 19 = 0 := by
      rw [up_s (by decide), up_s (by decide)]
      exact h.2.2.1
    have h9 : M_numberHere_9 (d' + 1) (wc 5 0 4) (z_up (z_up wm 11 0 18 (wc 5 0 5)) 11 0 20 v) = some (0, z_up (z_up (z_up wm 11 0 18 (wc 5 0 5)) 11 0 20 v) 11 0 19 (1 + 8 * wc 5 0 4 + 1)) := by
      rw [e_M_numberHere_9, m_fails h19 (by decide) ⟨hq.1, by omega⟩, bnd]
      dsimp only
      rw [if_pos rfl, gd_t (by decide)]
    have fM : mF [] [18, 19, 20] wm (z_up (z_up (z_up wm 11 0 18 (wc 5 0 5)) 11 0 20 v) 11 0 19 (1 + 8 * wc 5 0 4 + 1)) := mF_tr (mF_tr (mF_11 (by decide)) (mF_11 (by decide))) (mF_11 (by decide))
    obtain ⟨w1, p1, p2, p3⟩ := s_refuse (d := d) (k := 1) hC (by decide)
    have hD : Reader_number (d + 1) lo hi wc = if 5 < wc 5 0 5 - wc 5 0 4 then some (lo, w1) else if v < lo then some (lo, w1) else if v ≤ hi then (Reader_next d wc).bind fun r2 => some (v, r2.2) else some (lo, w1) := by
      rw [e_Reader_number, if_pos z1, g1, bnd]
      dsimp only
      rw [gd_t (by omega), p1, bnd]
    rw [hD, hM, hl, h9]
    by_cases y : 5 < wc 5 0 5 - wc 5 0 4
    · rw [if_pos y, if_pos y]
      exact ⟨lo, w1, 0, _, rfl, rfl, p2, fM, Or.inr ⟨rfl, rfl, _, p3, up_h⟩⟩
    rw [if_neg y, if_neg y]
    by_cases x : v < lo
    · rw [if_pos x, if_neg (by omega)]
      exact ⟨lo, w1, 0, _, rfl, rfl, p2, fM, Or.inr ⟨rfl, rfl, _, p3, up_h⟩⟩
    rw [if_neg x]
    by_cases u : v ≤ hi
    · obtain ⟨w2, t1, t2, t3, t4⟩ := CT_nx (d := d) hC
      rw [if_pos u, if_pos ⟨by omega, u⟩, t1, bnd]
      have e18 : (z_up (z_up wm 11 0 18 (wc 5 0 5)) 11 0 20 v) 11 0 18 = wc 5 0 5 := by rw [up_s (by decide), up_h]
      refine ⟨v, w2, 1, _, rfl, rfl, t2.f, mF_tr (mF_11 (by decide)) (mF_11 (by decide)), Or.inl ⟨rfl, ⟨t3, ?_, h19, ?_, ?_⟩, up_h, by omega, u, z1⟩⟩
      · obtain ⟨m1, m2, m3⟩ := h.2.1
        refine ⟨by rw [up_s (by decide), up_s (by decide)]; exact m1, m2, fun k k0 k1 => ?_⟩
        rw [up_c (by decide), up_c (by decide)]
        exact m3 k k0 k1
      · rw [e18]; omega
      · rw [e18]; exact t4
    · rw [if_neg u, if_neg (by omega)]
      exact ⟨lo, w1, 0, _, rfl, rfl, p2, fM, Or.inr ⟨rfl, rfl, _, p3, up_h⟩⟩
  · rw [if_neg z2] at hdg
    obtain ⟨w1, p1, p2, p3⟩ := s_refuse (d := d) (k := 0) hC (by decide)
    refine ⟨lo, w1, 0, z_up (z_up wm 11 0 18 (wc 5 0 4)) 11 0 19 (1 + 8 * wc 5 0 4 + 0), ?_, ?_, p2, mF_tr (mF_11 (by decide)) (mF_11 (by decide)), Or.inr ⟨rfl, rfl, _, p3, up_h⟩⟩
    · rw [e_Reader_number, if_neg z1, p1, bnd]
    · rw [e_M_numberHere, hs, bnd]
      dsimp only
      rw [up_h, hdg, bnd, if_pos rfl]
      dsimp only
      rw [up_h, m_fails hJ.2.2.1 (by decide) ⟨hq.1, by omega⟩, bnd]
      dsimp only
      rw [gd_t (by decide)]
end
