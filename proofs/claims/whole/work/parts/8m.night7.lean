section
variable {d d' : Nat} {w0 v0 wc wm : zW} {i j K r l4 : Int} {Cs : List clau}
/-- one round -/
theorem n_round {Cr : List clau} (hE : NE w0 v0 i j Cs) (h : NB w0 v0 i Cs 0 K wc wm) (hK : K ≤ 900) (hG : NG w0 i wc wm) (hr : 0 ≤ r ∧ r < 6) (hR : Rru w0 r Cr) (hRv : Rru v0 r Cr) (h5r : 0 ≤ wc 3 0 5 ∧ wc 3 0 5 < l4 ∧ l4 ≤ 99) (h6 : wc 3 0 6 = 0) :
    ∃ wc' wm', Night_round (d + 5) (6 + r) wc = some (0, wc') ∧ M_nightGoes_1 (d' + 5) r l4 wm = M_nightGoes_1 (d' + 5) r l4 wm' ∧ wc' 3 0 5 = wc 3 0 5 + 1 ∧ NB w0 v0 i Cs 0 (K + 1) wc' wm' ∧ NG w0 i wc' wm' := by
  have hp := h.2.2.1
  obtain ⟨-, -, -, p7, p8⟩ := hp
  have hB1 : NB w0 v0 i Cs 0 K (z_up wc 3 0 5 (wc 3 0 5 + 1)) (z_up wm 11 0 45 (wc 3 0 5 + 1)) := NB_p (fr_up (by decide)) (fun s hs => up_s (by omega)) (mF_11 (by decide)) (NP_5 h.2.2.1) h
  have hG1 : NG w0 i (z_up wc 3 0 5 (wc 3 0 5 + 1)) (z_up wm 11 0 45 (wc 3 0 5 + 1)) := NG_c hG (upc (by decide)) (upc (by decide))
  have h7w : wc 7 0 0 = i := ((h.en hE).1).1.1
  have s5 : (z_up wc 3 0 5 (wc 3 0 5 + 1)) 3 0 5 = wc 3 0 5 + 1 := up_h
  obtain ⟨a, c1, c2, m2, t1, t2, t3, t4, t7, t5, t6⟩ := n_ruled (d := d + 1) (d' := d' + 1) (d2 := d + 3) hE hB1 (by omega) hG1 hr hR hRv
  have t1' : Night_takeStock (d + 4) i (z_up wc 3 0 5 (wc 3 0 5 + 1)) = some (0, c1) := t1
  have t2' : Clauses_first (d + 4) (6 + r) 18 4 c1 = some (a, c2) := t2
  have t3' : M_ruled (d' + 4) (6 + r) (z_up wm 11 0 45 (wc 3 0 5 + 1)) = some (a, m2) := t3
  obtain ⟨⟨n1, n2, n3⟩, n4, n7, n8, n9⟩ := t5.2.1
  have hB3 : NB w0 v0 i Cs 1 K c2 (z_up m2 11 0 48 (m2 11 0 48 + 1)) := by
    refine NB_n (fr_rf _ _) (fun _ _ => ⟨rfl, rfl⟩) t5.1.2.2.2.1 (mF_11 (by decide)) ?_ t5
    unfold NN
    rw [up_h, up_s (by decide), up_s (by decide)]
    exact ⟨⟨by omega, n2, n3⟩, n4, n7, n8, n9⟩
  have hG3 : NG w0 i c2 (z_up m2 11 0 48 (m2 11 0 48 + 1)) := NG_c t6 rfl (upc (by decide))
  have hM0 : M_nightGoes_1 (d' + 5) r l4 wm = if a = 5 then (Option.bind (M_strikes (d' + 4) (z_up m2 11 0 48 (m2 11 0 48 + 1))) fun r2 => if r2.1 = 0 then M_nightGoes_5 (d' + 5) r l4 a r2.2 else M_nightGoes_13 (d' + 5) r l4 a r2.2) else M_nightGoes_5 (d' + 5) r l4 a (z_up m2 11 0 48 (m2 11 0 48 + 1)) := by
    rw [e_M_nightGoes_1, if_neg (show ¬ l4 ≤ wm 11 0 45 by omega), if_pos (show wm 11 0 44 = 0 by omega), p7, gd_t (by omega), gd_t (by omega), t3', bnd]
    dsimp only
    rw [gd_t (by omega)]
  have hC0 : Night_round (d + 5) (6 + r) wc = if a = 5 then (Option.bind (Night_strikeOne (d + 4) c2) fun r3 => Night_round_7 (d + 5) a r3.2) else if a = 0 then (Option.bind (Night_goTruly (d + 4) c2) fun r3 => Option.bind (Odds_happens (d + 4) 13 a 0 0 r3.2) fun r4 => Night_round_7 (d + 5) a r4.2) else if a = 4 then (Option.bind (Odds_happens (d + 4) 13 a 0 0 c2) fun r3 => Night_round_7 (d + 5) a r3.2) else (Option.bind (Odds_turned (d + 4) (c2 3 0 4) a c2) fun r3 => Option.bind (Odds_happens (d + 4) 13 a 0 0 (z_up r3.2 3 0 4 r3.1)) fun r4 => Night_round_7 (d + 5) a r4.2) := by
    rw [e_Night_round, gd_t (by omega), h7w, t1', bnd]
    dsimp only
    rw [t2', bnd]
    dsimp only
    rw [gd_t (by omega)]
  have q5 : c2 3 0 5 = wc 3 0 5 + 1 := by rw [t7]; exact s5
  generalize hm3 : z_up m2 11 0 48 (m2 11 0 48 + 1) = m3 at *
  have fin : ∀ (c m : zW), c 3 0 5 = wc 3 0 5 + 1 → NB w0 v0 i Cs 0 (K + 1) c m → NG w0 i c m → ∃ wc' wm', Night_round_7 (d + 5) a c = some (0, wc') ∧ M_nightGoes_13 (d' + 5) r l4 a m = M_nightGoes_1 (d' + 5) r l4 wm' ∧ wc' 3 0 5 = wc 3 0 5 + 1 ∧ NB w0 v0 i Cs 0 (K + 1) wc' wm' ∧ NG w0 i wc' wm' := fun c m hs hb hg => by
    obtain ⟨x, y, u1, u2, u3, u4, u5⟩ := n_tail (d := d) (d' := d') (r := r) (l4 := l4) (l := a) hE hb (by omega) hg
    exact ⟨x, y, u1, u2, u3.trans hs, u4, u5⟩
  rw [hM0, hC0]
  have hcase : a = 5 ∨ a = 0 ∨ a = 4 ∨ (1 ≤ a ∧ a ≤ 3) := by omega
  rcases hcase with z | z | z | z
  · obtain ⟨c', m', u1, u2, u3, u4, u5⟩ := n_strike (d := d) (d' := d') (l1 := r) (l4 := l4) hE hB3 (by omega) hG3
    rw [if_pos z, if_pos z, u1, bnd]
    dsimp only
    rw [z] at fin ⊢
    rw [u2]
    exact fin c' m' (u3.trans q5) u4 u5
  · obtain ⟨m4, u1, u2, u3⟩ := n_act (d' := d') (kd := 0) hE hB3 hG3 (by decide)
    have hB4 := NB_m u2 hB3
    obtain ⟨c5, m5, v1, v2, v3, v4, v5, v6, v7⟩ := n_goTruly (d := d + 1) (d' := d') hE hB4
    have v1' : Night_goTruly (d + 4) c2 = some (0, c5) := v1
    obtain ⟨c6, x1, x2, x3, x4⟩ := n_hap (d := d + 1) (kd := 0) hE v7 (by omega) (by rw [v3]; exact hG3.1) (by
      have : wtM m5 71 0 = wtM m4 71 0 := by unfold wtM; rw [v5]
      rw [v3, v4, this]
      exact u3) (by decide)
    have x1' : Odds_happens (d + 4) 13 0 0 0 c5 = some (1, c6) := x1
    have he : 0 ≤ m5 11 0 35 := by have := v7.2.1.2.2; omega
    rw [if_neg (by omega), if_pos z, if_neg (by omega), v1', bnd]
    dsimp only
    rw [z] at fin ⊢
    rw [x1', bnd]
    dsimp only
    rw [e_M_nightGoes_5, if_neg (by decide), e_M_nightGoes_8, u1, bnd]
    dsimp only
    rw [if_pos rfl, v2, bnd]
    dsimp only
    rw [m_later he, bnd]
    dsimp only
    exact fin c6 _ (by rw [x2, v6, q5]) x3 x4
  · obtain ⟨m4, u1, u2, u3⟩ := n_act (d' := d') (kd := 4) hE hB3 hG3 (by decide)
    have hB4 := NB_m u2 hB3
    obtain ⟨c6, x1, x2, x3, x4⟩ := n_hap (d := d + 1) (kd := 4) hE hB4 (by omega) hG3.1 u3 (by decide)
    have x1' : Odds_happens (d + 4) 13 4 0 0 c2 = some (1, c6) := x1
    have he : 0 ≤ m4 11 0 35 := by have := hB4.2.1.2.2; omega
    rw [if_neg (by omega), if_neg (by omega), if_pos z, if_neg (by omega)]
    rw [z] at fin ⊢
    rw [x1', bnd]
    dsimp only
    rw [e_M_nightGoes_5, if_neg (by decide), e_M_nightGoes_8, u1, bnd]
    dsimp only
    rw [if_neg (by decide), if_pos (by decide), m_later he, bnd]
    dsimp only
    exact fin c6 _ (by rw [x2, q5]) x3 x4
  · obtain ⟨m4, u1, u2, u3⟩ := n_act (d' := d') (kd := a) hE hB3 hG3 (by omega)
    have hB4 := NB_m u2 hB3
    obtain ⟨-, -, ⟨p6, p6', p6''⟩, -⟩ := hB4.2.2.1
    have hway : (c2 3 0 4 + (if a = 1 then 3 else if a = 2 then 1 else 2)) % 4 = (c2 3 0 4 + (if a = 3 then 2 else if a = 1 then 3 else 1)) % 4 := by
      have : a = 1 ∨ a = 2 ∨ a = 3 := by omega
      rcases this with rfl | rfl | rfl <;> rfl
    have ct := s_turned (d := d + 4) (way := c2 3 0 4) (k := a) (w := c2) ⟨p6', p6''⟩
    have mt := m_turned (d := d' + 4) (way := c2 3 0 4) (k := a) (w := m4) ⟨p6', p6''⟩
    rw [hway] at mt
    generalize hy : (c2 3 0 4 + (if a = 3 then 2 else if a = 1 then 3 else 1)) % 4 = y at *
    have hyb : 0 ≤ y ∧ y < 4 := by
      have := Int.emod_nonneg (c2 3 0 4 + (if a = 3 then 2 else if a = 1 then 3 else 1)) (show (4 : Int) ≠ 0 by decide)
      have := Int.emod_lt_of_pos (c2 3 0 4 + (if a = 3 then 2 else if a = 1 then 3 else 1)) (show (0 : Int) < 4 by decide)
      omega
    have hB5 : NB w0 v0 i Cs 1 K (z_up c2 3 0 4 y) (z_up m4 11 0 47 y) := NB_p (fr_up (by decide)) (fun s hs => up_s (by omega)) (mF_11 (by decide)) (NP_4 hB4.2.2.1 hyb) hB4
    obtain ⟨c6, x1, x2, x3, x4⟩ := n_hap (d := d + 1) (kd := a) hE hB5 (by omega) (by rw [upc (by decide)]; exact hG3.1) (by
      have : wtM (z_up m4 11 0 47 y) 71 0 = wtM m4 71 0 := by unfold wtM; rw [upc (by decide)]
      rw [this, upc (by decide), upc (by decide)]
      exact u3) (by omega)
    have x1' : Odds_happens (d + 4) 13 a 0 0 (z_up c2 3 0 4 y) = some (1, c6) := x1
    have e35 : (z_up m4 11 0 47 y) 11 0 35 = m4 11 0 35 := up_s (by decide)
    have he : 0 ≤ (z_up m4 11 0 47 y) 11 0 35 := by have := hB5.2.1.2.2; omega
    rw [e35] at he x3 x4
    rw [if_neg (by omega), if_neg (by omega), if_neg (by omega), if_neg (by omega), ct, bnd]
    dsimp only
    rw [x1', bnd]
    dsimp only
    rw [e_M_nightGoes_5, if_neg (by omega), e_M_nightGoes_8, u1, bnd]
    dsimp only
    rw [if_neg (by omega), if_neg (by omega), p6, mt, bnd]
    dsimp only
    rw [m_later he, bnd]
    dsimp only
    exact fin c6 _ (by rw [x2, up_s (by decide), q5]) x3 x4
end
