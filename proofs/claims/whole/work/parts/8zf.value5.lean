section
variable {d d' : Nat} {T : Int → Int} {n ci t bc bm pend : Int} {L : List tok} {wc wm : zW}
theorem j_value {sid nW : Int} (h : JC T n ci t bc bm L pend wc wm) (hp : 0 ≤ pend) (hv : vS t sid nW) (h7 : wc 5 0 7 = sid) :
    ∃ wc' rm wm', Reader_value (d + 3) wc = some (0, wc') ∧ M_value (d' + 3) wm = some (rm, wm') ∧ EF ci wc wc' ∧ EM t wm wm' ∧ VE T n ci t bc bm L pend nW wc wc' rm wm' := by
  obtain ⟨hs, hJ⟩ := j_see (d := d' + 2) h.1
  have hC := h.1.1
  have hbh := hC.bh
  have hq := hC.2.2.2.1
  have hn := hC.1
  have hq4 : 0 ≤ wc 5 0 4 ∧ wc 5 0 4 ≤ 400 := by omega
  have ht : wm 11 0 21 = t := h.2.1.2.1
  have hci : wc 5 0 8 = ci := h.2.1.1
  have h18 : (z_up wm 11 0 18 (wc 5 0 4)) 11 0 18 = wc 5 0 4 := up_h
  have h19 : (z_up wm 11 0 18 (wc 5 0 4)) 11 0 19 = 0 := by rw [up_s (by decide)]; exact h.1.2.2.1
  have hdg := m_isDigit (d := d' + 2) (p := wc 5 0 4) hJ.2.1 hq.1
  obtain ⟨r, r1, r2, r3⟩ := j_vword (d := d) (d' := d') hv h7 hJ h18 (by rw [up_s (by decide)]; exact ht)
  have pre : M_value (d' + 3) wm = (Option.bind (M_isDigit (d' + 2) (wc 5 0 4) (z_up wm 11 0 18 (wc 5 0 4))) fun r2 => if r2.1 = 0 then (Option.bind (M_wordHere (d' + 2) r2.2) fun r3 => if 0 ≤ r3.1 then (Option.bind (M_makes (d' + 2) (wc 5 0 4) r3.2) fun r4 => if r4.1 = 0 then (gd ((0 : Int) ≤ 0 ∧ (0 : Int) ≤ 1) (some (0, r4.2))) else (Option.bind (M_passWord (d' + 2) r4.2) fun r5 => Option.bind (M_puts (d' + 2) 1 r3.1 r5.2) fun r6 => gd ((0 : Int) ≤ 1 ∧ (1 : Int) ≤ 1) (some (1, r6.2)))) else (Option.bind (M_fails (d' + 2) 0 (wc 5 0 4) r3.2) fun r4 => gd (0 ≤ r4.1 ∧ r4.1 ≤ 1) (some (r4.1, r4.2)))) else (Option.bind (M_numberHere (d' + 2) 0 99999 r2.2) fun r3 => if r3.1 = 0 then (gd ((0 : Int) ≤ 0 ∧ (0 : Int) ≤ 1) (some (0, r3.2))) else (Option.bind (M_makes (d' + 2) (wc 5 0 4) r3.2) fun r4 => if r4.1 = 0 then (gd ((0 : Int) ≤ 0 ∧ (0 : Int) ≤ 1) (some (0, r4.2))) else (Option.bind (M_puts (d' + 2) 0 (r4.2 11 0 20) r4.2) fun r5 => gd ((0 : Int) ≤ 1 ∧ (1 : Int) ≤ 1) (some (1, r5.2)))))) := by
    rw [e_M_value, hs, bnd]
    dsimp only
    simp only [h18]
  rw [pre, e_Reader_value, r1, bnd]
  dsimp only
  have fm : ∀ v : Int, mF [] [18, 20] wm (z_up (z_up (z_up wm 11 0 18 (wc 5 0 4)) 11 0 18 (wc 5 0 5)) 11 0 20 v) := fun v => mF_tr (mF_tr (mF_11 (by decide)) (mF_11 (by decide))) (mF_11 (by decide))
  rcases TK_dig hC.2.2.2.2 with ⟨z1, z2, z3, z4⟩ | ⟨z1, z2⟩
  · -- a number
    rw [if_pos ⟨z2, z3⟩] at hdg
    obtain ⟨g1, g2, g3⟩ := s_digits (d := d + 2) hC z1
    generalize hvv : dvN T (wc 5 0 4) (min 5 (wc 5 0 5 - wc 5 0 4).toNat) = v at *
    have hlt : wc 5 0 4 < wc 5 0 5 := by
      have := z4.2.2
      rcases Int.lt_or_le (wc 5 0 4) (wc 5 0 5) with y | y
      · exact y
      · have hh : wc 5 0 5 = wc 5 0 4 := by omega
        rw [hh] at this
        rcases this with x | x
        · omega
        · exact absurd z3 x
    have hM := m_num (d' := d' + 1) (lo := 0) (hi := 99999) hJ h18 z1 hvv
    rw [if_pos (show (0 : Int) ≤ v ∧ v ≤ 99999 by omega)] at hM
    rw [if_pos z1, gd_t (by omega), hdg, bnd]
    dsimp only
    rw [if_neg (show ¬ (1 : Int) = 0 by decide), hM]
    by_cases y : 5 < wc 5 0 5 - wc 5 0 4
    · rw [if_pos y, if_neg (by omega), s_refuse_x hC (by decide), bnd, bnd]
      dsimp only
      rw [if_pos rfl, gd_t (by decide)]
      have hF := FS_refuse (k := 1) h hp (by decide)
      have hE := EF_refuse (ci := ci) (wc := wc) (f := 1 + 8 * wc 5 0 4 + 1)
      have d4 : (z_up (z_up wc 5 0 2 (1 + 8 * wc 5 0 4 + 1)) 5 0 3 (-2)) 5 0 4 = wc 5 0 4 := by rw [up_s (by decide), up_s (by decide)]
      have d5 : (z_up (z_up wc 5 0 2 (1 + 8 * wc 5 0 4 + 1)) 5 0 3 (-2)) 5 0 5 = wc 5 0 5 := by rw [up_s (by decide), up_s (by decide)]
      have d20 : (z_up (z_up wc 5 0 2 (1 + 8 * wc 5 0 4 + 1)) 5 0 3 (-2)) 20 0 = T := by rw [upc (by decide), upc (by decide)]; exact hC.2.1
      have hdd := s_digits_1 (d := d + 2) d20 d4 d5 hq.1 (by omega) (fun x x0 x1 => (z4.2.1 x x0 x1).2) hbh.1 (min 5 (wc 5 0 5 - wc 5 0 4).toNat) 0 (by omega)
      generalize hw1 : z_up (z_up wc 5 0 2 (1 + 8 * wc 5 0 4 + 1)) 5 0 3 (-2) = w1 at *
      rw [show wc 5 0 4 + ((0 : Nat) : Int) = wc 5 0 4 by omega, hvv] at hdd
      have hd0 : dvN T (wc 5 0 4) 0 = 0 := rfl
      rw [hd0] at hdd
      obtain ⟨w2, q1, q2, q3⟩ := F_add (d := d + 2) (a := 48) (b := v) hF (by decide) (by omega)
      obtain ⟨w3, t1, t2, t3⟩ := F_count (d := d + 1) q3 (by decide)
      obtain ⟨w4, x1, x2, x3⟩ := F_next (d := d + 2) t3
      refine ⟨w4, 0, _, ?_, rfl, EF_tr hE (EF_tr q2 (EF_tr t2 x2)), EM_m (mF_tr (mF_sub (fm v) (by decide) (by decide)) (mF_11 (by decide))), Or.inr ⟨rfl, _, FS_le x3 (by decide), up_h⟩⟩
      rw [e_Reader_value_3, e_Reader_digits, d4, hdd, bnd]
      dsimp only
      rw [hF.2.1, q1, bnd]
      dsimp only
      rw [t1, bnd]
      dsimp only
      rw [x1, bnd]
    · rw [if_neg y, if_pos (show wc 5 0 5 - wc 5 0 4 ≤ 5 by omega), bnd]
      dsimp only
      rw [if_neg (show ¬ (1 : Int) = 0 by decide)]
      obtain ⟨wc', rm, p1, p2, p3⟩ := j_made (d := d) (g := d' + 1) (a := 0) (b := v) (k := 48) (nW := nW) h hp rfl (Or.inl rfl) (Or.inl ⟨rfl, g2, by omega⟩) (by decide) ⟨g2, by omega⟩ hlt (fm v)
      have hcl : Reader_value_3 (d + 2 + 1) wc = some (0, wc') := by
        rw [e_Reader_value_3, g1, bnd]
        dsimp only
        rw [hci]
        exact p1
      rw [hcl]
      rcases p3 with ⟨m1, m2, m3⟩ | ⟨m1, m2, m3⟩
      · rw [m2, bnd]
        dsimp only
        rw [if_pos rfl, gd_t (by decide)]
        exact ⟨wc', 0, _, rfl, rfl, p2, EM_m (mF_tr (mF_sub (fm v) (by decide) (by decide)) (mF_11 (by decide))), m3⟩
      · obtain ⟨o1, o2, o3⟩ := m3 _ (fm v) (by rw [up_s (by decide), up_h]) (d' + 2)
        have e20 : (z_up (z_up (z_up (z_up wm 11 0 18 (wc 5 0 4)) 11 0 18 (wc 5 0 5)) 11 0 20 v) 11 0 22 (wc 5 0 6 + 1)) 11 0 20 = v := by rw [up_s (by decide), up_h]
        rw [m2, bnd]
        dsimp only
        rw [if_neg (show ¬ (1 : Int) = 0 by decide)]
        simp only [e20]
        rw [o1, bnd]
        dsimp only
        rw [gd_t (by decide)]
        exact ⟨wc', 1, _, rfl, rfl, p2, o2, o3⟩
  · rw [if_neg z2] at hdg
    rw [if_neg z1, hdg, bnd]
    dsimp only
    rw [if_pos rfl, r2, bnd]
    dsimp only
    rcases r3 with y | ⟨y1, y2, y3, y4⟩
    · -- nothing that stands
      rw [if_pos y, if_neg (by omega), s_refuse_x hC (by decide), bnd, m_fails h19 (by decide) hq4, bnd]
      dsimp only
      rw [gd_t (by decide)]
      have hF := FS_refuse (k := 0) h hp (by decide)
      have hE := EF_refuse (ci := ci) (wc := wc) (f := 1 + 8 * wc 5 0 4 + 0)
      obtain ⟨w3, t1, t2, t3⟩ := F_count (d := d + 1) hF (by decide)
      obtain ⟨w4, x1, x2, x3⟩ := F_next (d := d + 2) t3
      refine ⟨w4, 0, _, ?_, rfl, EF_tr hE (EF_tr t2 x2), EM_m (mF_tr (mF_11 (by decide)) (mF_11 (by decide))), Or.inr ⟨rfl, _, FS_le x3 (by decide), up_h⟩⟩
      rw [t1, bnd]
      dsimp only
      rw [x1, bnd]
    · -- a word
      have hrun : rnR let' T n (wc 5 0 4) (wc 5 0 5) := by
        rcases TK_let hC.2.2.2.2 with ⟨-, -, -, x⟩ | ⟨-, x⟩
        · exact x
        · exact absurd ⟨y3, y4⟩ x
      have hlt : wc 5 0 4 < wc 5 0 5 := by
        have := hrun.2.2
        rcases Int.lt_or_le (wc 5 0 4) (wc 5 0 5) with y | y
        · exact y
        · have hh : wc 5 0 5 = wc 5 0 4 := by omega
          rw [hh] at this
          rcases this with x | x
          · omega
          · exact absurd y4 x
      have fp : mF [] [18, 20] wm (z_up wm 11 0 18 (wc 5 0 4)) := mF_11 (by decide)
      have hn10 : nW ≤ 10 := by rcases hv with x | x <;> omega
      obtain ⟨wc', rm, p1, p2, p3⟩ := j_made (d := d) (g := d' + 1) (a := 1) (b := r) (k := 97) (nW := nW) h hp rfl (Or.inr rfl) (Or.inr (Or.inl ⟨rfl, y1, y2⟩)) (by decide) ⟨y1, by omega⟩ hlt fp
      rw [if_neg (show ¬ r = -1 by omega), hci, p1, if_pos y1]
      rcases p3 with ⟨m1, m2, m3⟩ | ⟨m1, m2, m3⟩
      · rw [m2, bnd]
        dsimp only
        rw [if_pos rfl, gd_t (by decide)]
        exact ⟨wc', 0, _, rfl, rfl, p2, EM_m (mF_tr (mF_sub fp (by decide) (by decide)) (mF_11 (by decide))), m3⟩
      · have fp2 : mF [] [18, 20] wm (z_up wm 11 0 18 (wc 5 0 5)) := mF_11 (by decide)
        obtain ⟨o1, o2, o3⟩ := m3 _ fp2 up_h (d' + 2)
        have hMT2 : MT T n (z_up (z_up wm 11 0 18 (wc 5 0 4)) 11 0 22 (wc 5 0 6 + 1)) := by
          obtain ⟨a1, a2, a3⟩ := hJ.2.1
          refine ⟨by rw [up_s (by decide)]; exact a1, a2, fun x x0 x1 => ?_⟩
          rw [up_c (by decide)]
          exact a3 x x0 x1
        have hpw := m_passWord (d := d' + 1) (q := wc 5 0 4) hMT2 (by rw [up_s (by decide), up_h]) hq hrun
        have hsw : z_up (z_up (z_up wm 11 0 18 (wc 5 0 4)) 11 0 22 (wc 5 0 6 + 1)) 11 0 18 (wc 5 0 5) = z_up (z_up wm 11 0 18 (wc 5 0 5)) 11 0 22 (wc 5 0 6 + 1) := by
          funext x y z
          unfold z_up
          by_cases q1 : x = 11 ∧ z = 18 ∧ y = 0
          · rw [if_pos q1, if_neg (fun q => by omega)]
            rw [if_pos q1]
          · rw [if_neg q1]
            by_cases q2 : x = 11 ∧ z = 22 ∧ y = 0
            · rw [if_pos q2, if_pos q2]
            · rw [if_neg q2, if_neg q2, if_neg q1, if_neg q1]
        rw [m2, bnd]
        dsimp only
        rw [if_neg (show ¬ (1 : Int) = 0 by decide), hpw, bnd]
        dsimp only
        rw [hsw, o1, bnd]
        dsimp only
        rw [gd_t (by decide)]
        exact ⟨wc', 1, _, rfl, rfl, p2, o2, o3⟩
end
