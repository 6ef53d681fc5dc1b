/-! what one feels, sees, hears -/
theorem NG_c {w0 wc wc' wm wm' : zW} {i : Int} (h : NG w0 i wc wm) (h19 : wc' 19 = wc 19) (h71 : wm' 71 = wm 71) : NG w0 i wc' wm' := by
  have h2 := h.2
  unfold NG wtM at *
  rw [h19, h71]
  exact h
theorem upc {w : zW} {c c' : Nat} {s v : Int} (h : c ≠ c') : (z_up w c' 0 s v) c = w c := by
  funext a b
  exact up_c h
theorem n_word {w0 v0 wc wm : zW} {i q K v : Int} {s t : Int} {Cs : List clau} (hst : (s = 3 ∧ t = 50) ∨ (s = 4 ∧ t = 51) ∨ (s = 5 ∧ t = 52)) (h : NB w0 v0 i Cs q K wc wm) : NB w0 v0 i Cs q K (z_up wc 18 0 s v) (z_up wm 11 0 t v) := by
  obtain ⟨x1, x2, x3, x4⟩ := h.2.2.2
  rcases hst with ⟨rfl, rfl⟩ | ⟨rfl, rfl⟩ | ⟨rfl, rfl⟩
  · exact NB_w (fr_up (by decide)) (mF_11 (by decide)) ⟨by rw [up_h, up_h], (up_s (by decide)).trans (x2.trans (up_s (by decide)).symm), (up_s (by decide)).trans (x3.trans (up_s (by decide)).symm), (up_s (by decide)).trans (x4.trans (up_s (by decide)).symm)⟩ h
  · exact NB_w (fr_up (by decide)) (mF_11 (by decide)) ⟨(up_s (by decide)).trans (x1.trans (up_s (by decide)).symm), by rw [up_h, up_h], (up_s (by decide)).trans (x3.trans (up_s (by decide)).symm), (up_s (by decide)).trans (x4.trans (up_s (by decide)).symm)⟩ h
  · exact NB_w (fr_up (by decide)) (mF_11 (by decide)) ⟨(up_s (by decide)).trans (x1.trans (up_s (by decide)).symm), (up_s (by decide)).trans (x2.trans (up_s (by decide)).symm), by rw [up_h, up_h], (up_s (by decide)).trans (x4.trans (up_s (by decide)).symm)⟩ h
section
variable {d d' : Nat} {w0 v0 wc wm : zW} {i j K : Int} {Cs : List clau}
theorem n_p14 {l : Int} (hE : NE w0 v0 i j Cs) (h : NB w0 v0 i Cs 0 K wc wm) (hK : K ≤ 1000) (hG : NG w0 i wc wm) (hl : 0 ≤ l ∧ l ≤ 40) (h0 : 0 < w0 9 i 3) :
    ∃ wc' wm', Night_perceive_14 (d + 4) l wc = some (0, wc') ∧ M_senses_21 (d' + 4) l wm = some (0, wm') ∧ wc' 3 0 5 = wc 3 0 5 ∧ NB w0 v0 i Cs 0 K wc' wm' ∧ NG w0 i wc' wm' := by
  obtain ⟨st, w1, v1, p1, p2, p3, p4, p5, p6⟩ := n_sgn (d := d) (d' := d') (kd := 8) (x := 0) (y := l) hE h hK hG (by decide) (fun _ => ⟨⟨by decide, h0⟩, hl⟩)
  have p2' : M_signs (d' + 3) 71 0 7 0 l (wm 11 0 35) wm = some (st, v1) := p2
  rw [e_Night_perceive_14, e_M_senses_21, p1, p2', bnd, bnd]
  dsimp only
  by_cases z : st = 0
  · rw [if_pos z, if_pos z]
    exact ⟨w1, v1, rfl, rfl, by rw [p3], p5, p6⟩
  · rw [if_neg z, if_neg z, gd_t (by decide)]
    exact ⟨_, _, rfl, rfl, by rw [up_c (by decide), p3], n_word (Or.inr (Or.inr ⟨rfl, rfl⟩)) p5, NG_c p6 (upc (by decide)) (upc (by decide))⟩
theorem n_p8 (hE : NE w0 v0 i j Cs) (h : NB w0 v0 i Cs 0 K wc wm) (hK : K ≤ 1000) (hG : NG w0 i wc wm) :
    ∃ wc' wm', Night_perceive_8 (d + 4) i j wc = some (0, wc') ∧ M_senses_10 (d' + 4) wm = some (0, wm') ∧ wc' 3 0 5 = wc 3 0 5 ∧ NB w0 v0 i Cs 0 K wc' wm' ∧ NG w0 i wc' wm' := by
  obtain ⟨h1, h2, h3, h4, h5⟩ := h.en hE
  have hp := h.2.2.1
  obtain ⟨p1, ⟨p2, p3, p4, p5⟩, ⟨p6, p6'⟩, p7, p8⟩ := hp
  have hi : wm 70 0 0 = i := h4.2.2.2.1.1
  have hj : wm 70 0 1 = j := h4.2.2.2.1.2
  have h44 := h4.2.2.2.2.1
  have h66 := h4.2.2.2.2.2
  obtain ⟨s1, s2, s3⟩ := h4.2.1.2.2.2.1
  have e9 : wm 9 i 3 = wc 9 i 3 := by rw [h3 9 (by decide), h5 9 (by decide)]
  have e9' : wc 9 i 3 = w0 9 i 3 := by rw [h3 9 (by decide)]
  rw [e_Night_perceive_8, e_M_senses_10, m_woodNow, bnd]
  dsimp only
  rw [hi, gd_t (show 0 ≤ i ∧ i < 4 from h44)]
  by_cases z : wc 9 i 3 ≤ 0
  · rw [if_pos z, if_pos (show wm 62 0 i = 0 by omega)]
    exact ⟨wc, wm, rfl, rfl, rfl, h, hG⟩
  · rw [if_neg z, if_neg (show ¬ wm 62 0 i = 0 by omega), m_woodNow, bnd]
    dsimp only
    obtain ⟨cn, hcn⟩ : ∃ n : Nat, wc 3 0 3 = n := ⟨(wc 3 0 3).toNat, by omega⟩
    obtain ⟨l1, l2, l3⟩ := m_loud (d := d' + 2) (a := 0) (c := cn) h4.2.1 h44 (by omega) (by omega)
    have e32 : wm 32 i (0 * 144 + cn) = wc 32 i (0 * 144 + cn) := by rw [h3 32 (by decide), h5 32 (by decide)]
    have ls := s_loudAt (d := d + 3) (i := i) (s := 0) (c := wc 3 0 3) (w := wc) (by omega) p3 p4
    rw [if_pos (by omega), hcn] at ls
    rw [e32] at l1 l2 l3
    generalize hx : wc 32 i (0 * 144 + cn) = x at *
    obtain ⟨r, y, u1, u2, u3, hB1⟩ := n_draw (d := d + 3) (d' := d' + 3) h
    have hG1 : NG w0 i (z_up wc 3 0 2 y) (z_up wm 11 0 43 y) := NG_c hG (upc (by decide)) (upc (by decide))
    have l1' : M_loudAt (d' + 3) i 0 (wm 11 0 46) wm = some (x, wm) := by rw [p2, hcn]; exact l1
    rw [hcn, ls, bnd, hi, l1', bnd]
    dsimp only
    rw [u1, u2, bnd, bnd]
    dsimp only
    have q70 : (z_up wm 11 0 43 y) 70 0 1 = j := by rw [up11 (by decide)]; exact hj
    have q57 : (z_up wm 11 0 43 y) 57 0 j = w0 2 j 4 := by
      rw [up11 (by decide), h4.2.2.1.2.1.2.2.2, h5 2 (by decide)]
    have q2 : (z_up wc 3 0 2 y) 2 j 4 = w0 2 j 4 := by
      rw [upc (by decide), h3 2 (by decide)]
    rw [gd_t (show 0 ≤ r ∧ (0 : Int) < 1000 by omega), gd_t (show 0 ≤ r ∧ (0 : Int) < 1000 by omega), m_lawNow, bnd]
    dsimp only
    rw [q70, gd_t (show 0 ≤ j ∧ j < 16 by omega)]
    simp only [q57, q2]
    have slot : (z_up wc 3 0 2 y) 3 0 5 = wc 3 0 5 := up_s (by decide)
    have fin : ∀ (c1 m1 : zW) (l : Int), c1 3 0 5 = wc 3 0 5 → NB w0 v0 i Cs 0 K c1 m1 → NG w0 i c1 m1 → 0 ≤ l → l ≤ 40 → ∃ wc' wm', Night_perceive_14 (d + 4) l c1 = some (0, wc') ∧ M_senses_21 (d' + 4) l m1 = some (0, wm') ∧ wc' 3 0 5 = wc 3 0 5 ∧ NB w0 v0 i Cs 0 K wc' wm' ∧ NG w0 i wc' wm' := fun c1 m1 l hs hb hg l0 l1 => by
      obtain ⟨a, b, t1, t2, t3, t4, t5⟩ := n_p14 (d := d) (d' := d') (l := l) hE hb hK hg ⟨l0, l1⟩ (by omega)
      exact ⟨a, b, t1, t2, t3.trans hs, t4, t5⟩
    by_cases g : r % 1000 < w0 2 j 4
    · rw [if_pos g, if_pos g]
      exact fin _ _ _ slot hB1 hG1 l2 l3
    · obtain ⟨r', y', t1, t2, t3, hB2⟩ := n_draw (d := d + 3) (d' := d' + 3) hB1
      have hG2 : NG w0 i (z_up (z_up wc 3 0 2 y) 3 0 2 y') (z_up (z_up wm 11 0 43 y) 11 0 43 y') := NG_c hG1 (upc (by decide)) (upc (by decide))
      have slot2 : (z_up (z_up wc 3 0 2 y) 3 0 2 y') 3 0 5 = wc 3 0 5 := by rw [up_s (by decide), slot]
      rw [if_neg g, if_neg g, t1, t2, bnd, bnd]
      dsimp only
      rw [gd_t (show 0 ≤ r' ∧ (0 : Int) < 2 by omega), gd_t (show 0 ≤ r' ∧ (0 : Int) < 2 by omega)]
      by_cases g2 : r' % 2 = 0
      · rw [if_pos g2, if_pos g2, gd_t (by omega)]
        by_cases g3 : x ≤ 0
        · rw [if_pos g3, gd_t (by omega), show max 0 (x - 1) = x + 0 by omega]
          exact fin _ _ _ slot2 hB2 hG2 (by omega) (by omega)
        · rw [if_neg g3, gd_t (by omega), show max 0 (x - 1) = x + (-1) by omega]
          exact fin _ _ _ slot2 hB2 hG2 (by omega) (by omega)
      · rw [if_neg g2, if_neg g2, gd_t (by omega)]
        by_cases g3 : 40 ≤ x
        · rw [if_pos g3, gd_t (by omega), show min 40 (x + 1) = x + 0 by omega]
          exact fin _ _ _ slot2 hB2 hG2 (by omega) (by omega)
        · rw [if_neg g3, gd_t (by omega), show min 40 (x + 1) = x + 1 by omega]
          exact fin _ _ _ slot2 hB2 hG2 (by omega) (by omega)
theorem n_p6 {l : Int} (hE : NE w0 v0 i j Cs) (h : NB w0 v0 i Cs 0 K wc wm) (hK : K ≤ 1000) (hG : NG w0 i wc wm) :
    ∃ wc' wm', Night_perceive_6 (d + 4) i j l wc = some (0, wc') ∧ M_senses_8 (d' + 4) l wm = some (0, wm') ∧ wc' 3 0 5 = wc 3 0 5 ∧ NB w0 v0 i Cs 0 K wc' wm' ∧ NG w0 i wc' wm' := by
  obtain ⟨st, w1, v1, p1, p2, p3, p4, p5, p6⟩ := n_sgn (d := d) (d' := d') (kd := 7) (x := l) (y := 0) hE h hK hG (by decide) (fun z => by omega)
  have p2' : M_signs (d' + 3) 71 0 6 l 0 (wm 11 0 35) wm = some (st, v1) := p2
  rw [e_Night_perceive_6, e_M_senses_8, p1, p2', bnd, bnd]
  dsimp only
  by_cases z : st = 0
  · rw [if_pos z, if_pos z]
    obtain ⟨a, b, t1, t2, t3, t4, t5⟩ := n_p8 (d := d) (d' := d') hE p5 hK p6
    exact ⟨a, b, t1, t2, by rw [t3, p3], t4, t5⟩
  · rw [if_neg z, if_neg z, gd_t (by decide)]
    obtain ⟨a, b, t1, t2, t3, t4, t5⟩ := n_p8 (d := d) (d' := d') hE (n_word (v := l) (Or.inr (Or.inl ⟨rfl, rfl⟩)) p5) hK (NG_c p6 (upc (by decide)) (upc (by decide)))
    exact ⟨a, b, t1, t2, by rw [t3, up_c (by decide), p3], t4, t5⟩
theorem n_p4 (hE : NE w0 v0 i j Cs) (h : NB w0 v0 i Cs 0 K wc wm) (hK : K ≤ 1000) (hG : NG w0 i wc wm) :
    ∃ wc' wm', Night_perceive_4 (d + 4) i j wc = some (0, wc') ∧ M_senses_5 (d' + 4) wm = some (0, wm') ∧ wc' 3 0 5 = wc 3 0 5 ∧ NB w0 v0 i Cs 0 K wc' wm' ∧ NG w0 i wc' wm' := by
  obtain ⟨h1, h2, h3, h4, h5⟩ := h.en hE
  have hp := h.2.2.1
  obtain ⟨p1, ⟨p2, p3, p4, p5⟩, ⟨p6, p6'⟩, p7, p8⟩ := hp
  obtain ⟨-, -, n7, n8, n9⟩ := h.2.1
  have hi : wm 70 0 0 = i := h4.2.2.2.1.1
  have hj : wm 70 0 1 = j := h4.2.2.2.1.2
  have h44 := h4.2.2.2.2.1
  have h66 := h4.2.2.2.2.2
  obtain ⟨⟨c1, c2, c3, c4, c5, c6⟩, b1, b2, b3, b4, b5⟩ := h4.2.1.2.2.2.2.1 (wc 3 0 3) p3 p4
  have d3 : wm 64 0 (144 * (6 * i + 3) + wc 3 0 3) = wc 36 i (wc 3 0 3) := by
    rw [h3 36 (by decide), ← h5 36 (by decide)]
    exact c4.symm
  have b4' : 0 ≤ wc 36 i (wc 3 0 3) ∧ wc 36 i (wc 3 0 3) ≤ 9 := by
    rw [h3 36 (by decide), ← h5 36 (by decide)]
    exact b4
  generalize hx : wc 36 i (wc 3 0 3) = x at *
  obtain ⟨r, y, u1, u2, u3, hB1⟩ := n_draw (d := d + 3) (d' := d' + 3) h
  have hG1 : NG w0 i (z_up wc 3 0 2 y) (z_up wm 11 0 43 y) := NG_c hG (upc (by decide)) (upc (by decide))
  have hlw := hE.1.1.2.2.1.2.2.1
  have k2 : (z_up wc 3 0 2 y) 2 = w0 2 := by rw [upc (by decide)]; exact h3 2 (by decide)
  have k4 : (z_up wc 3 0 2 y) 4 = wc 4 := upc (by decide)
  have hse := s_seeing (d := d + 3) (i := j) (e := wc 4 13 3) (w := z_up wc 3 0 2 y) (by rw [k2]; exact hlw) ⟨n8, n9⟩
  rw [k2] at hse
  have hMS := h4.2.1.MS hi h44 hj h66
  have hMS1 : MS (z_up wm 11 0 43 y) i j (wm 9 i 0) (wm 9 i 1) (nbr (wm 9 i 0) (wm 9 i 1) (md wm i 1)) := MS_fr hMS (up11 (by decide)) (up11 (by decide)) (up11 (by decide)) (by rw [up11 (by decide)]) (by rw [up11 (by decide)])
  have q56 : (z_up wm 11 0 43 y) 56 0 j = w0 2 j 3 := by
    rw [up11 (by decide), h4.2.2.1.2.1.2.2.1, h5 2 (by decide)]
  have hms := m_seeing (d := d' + 2) (e := wc 4 13 3) hMS1 q56 hlw ⟨n8, n9⟩
  have hms' : M_seeing (d' + 3) (wc 4 13 3) (z_up wm 11 0 43 y) = some (max 100 (w0 2 j 3 * wc 4 13 3 / 30), z_up wm 11 0 43 y) := hms
  have q35 : (z_up wm 11 0 43 y) 11 0 35 = wc 4 13 3 := by rw [up_s (by decide), n7]
  have m3 := m_at (d := d' + 2) (i := i) (k := 3) (c := wc 3 0 3) (w := wm) h44 (by decide) ⟨p3, p4⟩
  rw [d3] at m3
  have slot : (z_up wc 3 0 2 y) 3 0 5 = wc 3 0 5 := up_s (by decide)
  have cell1 : (z_up wc 3 0 2 y) 3 0 3 = wc 3 0 3 := up_s (by decide)
  have fin : ∀ (c1 m1 : zW) (l : Int), c1 3 0 5 = wc 3 0 5 → NB w0 v0 i Cs 0 K c1 m1 → NG w0 i c1 m1 → ∃ wc' wm', Night_perceive_6 (d + 4) i j l c1 = some (0, wc') ∧ M_senses_8 (d' + 4) l m1 = some (0, wm') ∧ wc' 3 0 5 = wc 3 0 5 ∧ NB w0 v0 i Cs 0 K wc' wm' ∧ NG w0 i wc' wm' := fun c1 m1 l hs hb hg => by
    obtain ⟨a, b, t1, t2, t3, t4, t5⟩ := n_p6 (d := d) (d' := d') (l := l) hE hb hK hg
    exact ⟨a, b, t1, t2, t3.trans hs, t4, t5⟩
  have m3' : M_at (d' + 3) i 3 (wm 11 0 46) wm = some (x, wm) := by rw [p2]; exact m3
  rw [e_Night_perceive_4, gd_t ⟨p3, p4⟩, u1, bnd, e_M_senses_5, m_woodNow, bnd]
  dsimp only
  rw [hi, m3', bnd]
  dsimp only
  rw [u2, bnd]
  dsimp only
  rw [gd_t (show 0 ≤ r ∧ (0 : Int) < 1000 by omega), gd_t (show 0 ≤ r ∧ (0 : Int) < 1000 by omega), k4, q35, hse, hms', bnd, bnd]
  dsimp only
  rw [hx]
  by_cases g : r % 1000 < max 100 (w0 2 j 3 * wc 4 13 3 / 30)
  · rw [if_pos g, if_neg (by omega)]
    exact fin _ _ _ slot hB1 hG1
  · obtain ⟨r', y', t1, t2, t3, hB2⟩ := n_draw (d := d + 3) (d' := d' + 3) hB1
    have hG2 : NG w0 i (z_up (z_up wc 3 0 2 y) 3 0 2 y') (z_up (z_up wm 11 0 43 y) 11 0 43 y') := NG_c hG1 (upc (by decide)) (upc (by decide))
    have slot2 : (z_up (z_up wc 3 0 2 y) 3 0 2 y') 3 0 5 = wc 3 0 5 := by rw [up_s (by decide), slot]
    rw [if_neg g, if_pos (by omega), gd_t (by omega), gd_t (by omega), t1, t2, bnd, bnd]
    dsimp only
    rw [gd_t (by omega), gd_t (by omega), gd_t (by omega), gd_t (by omega), gd_t (by omega), gd_t (by omega)]
    exact fin _ _ _ slot2 hB2 hG2
theorem n_p2 {l : Int} (hE : NE w0 v0 i j Cs) (h : NB w0 v0 i Cs 0 K wc wm) (hK : K ≤ 1000) (hG : NG w0 i wc wm) :
    ∃ wc' wm', Night_perceive_2 (d + 4) i j l wc = some (0, wc') ∧ M_senses_3 (d' + 4) l wm = some (0, wm') ∧ wc' 3 0 5 = wc 3 0 5 ∧ NB w0 v0 i Cs 0 K wc' wm' ∧ NG w0 i wc' wm' := by
  obtain ⟨st, w1, v1, p1, p2, p3, p4, p5, p6⟩ := n_sgn (d := d) (d' := d') (kd := 6) (x := l) (y := 0) hE h hK hG (by decide) (fun z => by omega)
  have p2' : M_signs (d' + 3) 71 0 5 l 0 (wm 11 0 35) wm = some (st, v1) := p2
  rw [e_Night_perceive_2, e_M_senses_3, p1, p2', bnd, bnd]
  dsimp only
  by_cases z : st = 0
  · rw [if_pos z, if_pos z]
    obtain ⟨a, b, t1, t2, t3, t4, t5⟩ := n_p4 (d := d) (d' := d') hE p5 hK p6
    exact ⟨a, b, t1, t2, by rw [t3, p3], t4, t5⟩
  · rw [if_neg z, if_neg z, gd_t (by decide)]
    obtain ⟨a, b, t1, t2, t3, t4, t5⟩ := n_p4 (d := d) (d' := d') hE (n_word (v := l) (Or.inl ⟨rfl, rfl⟩) p5) hK (NG_c p6 (upc (by decide)) (upc (by decide)))
    exact ⟨a, b, t1, t2, by rw [t3, up_c (by decide), p3], t4, t5⟩
theorem n_perceive (hE : NE w0 v0 i j Cs) (h : NB w0 v0 i Cs 0 K wc wm) (hK : K ≤ 1000) (hG : NG w0 i wc wm) :
    ∃ wc' wm', Night_perceive (d + 4) wc = some (0, wc') ∧ M_senses (d' + 4) wm = some (0, wm') ∧ wc' 3 0 5 = wc 3 0 5 ∧ NB w0 v0 i Cs 0 K wc' wm' ∧ NG w0 i wc' wm' := by
  obtain ⟨h1, h2, h3, h4, h5⟩ := h.en hE
  have hp := h.2.2.1
  obtain ⟨p1, ⟨p2, p3, p4, p5⟩, ⟨p6, p6'⟩, p7, p8⟩ := hp
  have hi : wm 70 0 0 = i := h4.2.2.2.1.1
  have hj : wm 70 0 1 = j := h4.2.2.2.1.2
  have h7 : wc 7 0 0 = i := h1.1.1
  have h7' : wc 7 0 1 = j := h1.1.2
  have h44 := h4.2.2.2.2.1
  have h66 := h4.2.2.2.2.2
  obtain ⟨⟨c1, c2, c3, c4, c5, c6⟩, b1, b2, b3, b4, b5⟩ := h4.2.1.2.2.2.2.1 (wc 3 0 3) p3 p4
  have d2 : wm 64 0 (144 * (6 * i + 2) + wc 3 0 3) = wc 35 i (wc 3 0 3) := by
    rw [h3 35 (by decide), ← h5 35 (by decide)]
    exact c3.symm
  have b3' : 0 ≤ wc 35 i (wc 3 0 3) ∧ wc 35 i (wc 3 0 3) ≤ 7 := by
    rw [h3 35 (by decide), ← h5 35 (by decide)]
    exact b3
  generalize hx : wc 35 i (wc 3 0 3) = x at *
  obtain ⟨r, y, u1, u2, u3, hB1⟩ := n_draw (d := d + 3) (d' := d' + 3) h
  have hG1 : NG w0 i (z_up wc 3 0 2 y) (z_up wm 11 0 43 y) := NG_c hG (upc (by decide)) (upc (by decide))
  have k2 : (z_up wc 3 0 2 y) 2 = w0 2 := by rw [upc (by decide)]; exact h3 2 (by decide)
  have k7 : (z_up wc 3 0 2 y) 7 = wc 7 := upc (by decide)
  have q55 : (z_up wm 11 0 43 y) 55 0 j = w0 2 j 2 := by
    rw [up11 (by decide), h4.2.2.1.2.1.2.1, h5 2 (by decide)]
  have q70 : (z_up wm 11 0 43 y) 70 0 1 = j := by rw [up11 (by decide)]; exact hj
  have m2 := m_at (d := d' + 2) (i := i) (k := 2) (c := wc 3 0 3) (w := wm) h44 (by decide) ⟨p3, p4⟩
  rw [d2] at m2
  have m2' : M_at (d' + 3) i 2 (wm 11 0 46) wm = some (x, wm) := by rw [p2]; exact m2
  have slot : (z_up wc 3 0 2 y) 3 0 5 = wc 3 0 5 := up_s (by decide)
  have fin : ∀ (c1 m1 : zW) (l : Int), c1 3 0 5 = wc 3 0 5 → NB w0 v0 i Cs 0 K c1 m1 → NG w0 i c1 m1 → ∃ wc' wm', Night_perceive_2 (d + 4) i j l c1 = some (0, wc') ∧ M_senses_3 (d' + 4) l m1 = some (0, wm') ∧ wc' 3 0 5 = wc 3 0 5 ∧ NB w0 v0 i Cs 0 K wc' wm' ∧ NG w0 i wc' wm' := fun c1 m1 l hs hb hg => by
    obtain ⟨a, b, t1, t2, t3, t4, t5⟩ := n_p2 (d := d) (d' := d') (l := l) hE hb hK hg
    exact ⟨a, b, t1, t2, t3.trans hs, t4, t5⟩
  rw [e_Night_perceive, gd_t ⟨p3, p4⟩, u1, bnd, e_M_senses, m_woodNow, bnd]
  dsimp only
  rw [hi, m2', bnd]
  dsimp only
  rw [u2, bnd]
  dsimp only
  rw [gd_t (show 0 ≤ r ∧ (0 : Int) < 1000 by omega), gd_t (show 0 ≤ r ∧ (0 : Int) < 1000 by omega), m_lawNow, bnd]
  dsimp only
  rw [q70, gd_t (show 0 ≤ j ∧ j < 16 by omega)]
  simp only [q55, h7, h7', k2, hx]
  by_cases g : r % 1000 < w0 2 j 2
  · rw [if_pos g, if_neg (by omega)]
    exact fin _ _ _ slot hB1 hG1
  · obtain ⟨r', y', t1, t2, t3, hB2⟩ := n_draw (d := d + 3) (d' := d' + 3) hB1
    have hG2 : NG w0 i (z_up (z_up wc 3 0 2 y) 3 0 2 y') (z_up (z_up wm 11 0 43 y) 11 0 43 y') := NG_c hG1 (upc (by decide)) (upc (by decide))
    have slot2 : (z_up (z_up wc 3 0 2 y) 3 0 2 y') 3 0 5 = wc 3 0 5 := by rw [up_s (by decide), slot]
    rw [if_neg g, if_pos (by omega), gd_t (by omega), gd_t (by omega), t1, t2, bnd, bnd]
    dsimp only
    rw [gd_t (by omega), gd_t (by omega), gd_t (by omega), gd_t (by omega), gd_t (by omega), gd_t (by omega)]
    exact fin _ _ _ slot2 hB2 hG2
end
