theorem NP_5 {w0 wc wm : zW} {i x : Int} (hp : NP w0 i wc wm) : NP w0 i (z_up wc 3 0 5 x) (z_up wm 11 0 45 x) := by
  obtain ⟨p1, p2, p3, p4, p5⟩ := hp
  have c2 : (z_up wc 3 0 5 x) 3 0 2 = wc 3 0 2 := up_s (by decide)
  have m43 : (z_up wm 11 0 45 x) 11 0 43 = wm 11 0 43 := up_s (by decide)
  have c3 : (z_up wc 3 0 5 x) 3 0 3 = wc 3 0 3 := up_s (by decide)
  have m46 : (z_up wm 11 0 45 x) 11 0 46 = wm 11 0 46 := up_s (by decide)
  have c4 : (z_up wc 3 0 5 x) 3 0 4 = wc 3 0 4 := up_s (by decide)
  have m47 : (z_up wm 11 0 45 x) 11 0 47 = wm 11 0 47 := up_s (by decide)
  have c5 : (z_up wc 3 0 5 x) 3 0 5 = x := up_h
  have m45 : (z_up wm 11 0 45 x) 11 0 45 = x := up_h
  have c6 : (z_up wc 3 0 5 x) 3 0 6 = wc 3 0 6 := up_s (by decide)
  have m44 : (z_up wm 11 0 45 x) 11 0 44 = wm 11 0 44 := up_s (by decide)
  unfold NP
  rw [c2, m43, c3, m46, c4, m47, c5, m45, c6, m44]
  exact ⟨p1, p2, p3, rfl, p5⟩
theorem NP_6 {w0 wc wm : zW} {i x : Int} (hp : NP w0 i wc wm) (hx : 0 ≤ x ∧ x ≤ 2) : NP w0 i (z_up wc 3 0 6 x) (z_up wm 11 0 44 x) := by
  obtain ⟨p1, p2, p3, p4, p5⟩ := hp
  have c2 : (z_up wc 3 0 6 x) 3 0 2 = wc 3 0 2 := up_s (by decide)
  have m43 : (z_up wm 11 0 44 x) 11 0 43 = wm 11 0 43 := up_s (by decide)
  have c3 : (z_up wc 3 0 6 x) 3 0 3 = wc 3 0 3 := up_s (by decide)
  have m46 : (z_up wm 11 0 44 x) 11 0 46 = wm 11 0 46 := up_s (by decide)
  have c4 : (z_up wc 3 0 6 x) 3 0 4 = wc 3 0 4 := up_s (by decide)
  have m47 : (z_up wm 11 0 44 x) 11 0 47 = wm 11 0 47 := up_s (by decide)
  have c5 : (z_up wc 3 0 6 x) 3 0 5 = wc 3 0 5 := up_s (by decide)
  have m45 : (z_up wm 11 0 44 x) 11 0 45 = wm 11 0 45 := up_s (by decide)
  have c6 : (z_up wc 3 0 6 x) 3 0 6 = x := up_h
  have m44 : (z_up wm 11 0 44 x) 11 0 44 = x := up_h
  unfold NP
  rw [c2, m43, c3, m46, c4, m47, c5, m45, c6, m44]
  exact ⟨p1, p2, p3, p4, rfl, hx⟩
theorem NP_4 {w0 wc wm : zW} {i x : Int} (hp : NP w0 i wc wm) (hx : 0 ≤ x ∧ x < 4) : NP w0 i (z_up wc 3 0 4 x) (z_up wm 11 0 47 x) := by
  obtain ⟨p1, p2, p3, p4, p5⟩ := hp
  have c2 : (z_up wc 3 0 4 x) 3 0 2 = wc 3 0 2 := up_s (by decide)
  have c3 : (z_up wc 3 0 4 x) 3 0 3 = wc 3 0 3 := up_s (by decide)
  have c4 : (z_up wc 3 0 4 x) 3 0 4 = x := up_h
  have c5 : (z_up wc 3 0 4 x) 3 0 5 = wc 3 0 5 := up_s (by decide)
  have c6 : (z_up wc 3 0 4 x) 3 0 6 = wc 3 0 6 := up_s (by decide)
  have m43 : (z_up wm 11 0 47 x) 11 0 43 = wm 11 0 43 := up_s (by decide)
  have m44 : (z_up wm 11 0 47 x) 11 0 44 = wm 11 0 44 := up_s (by decide)
  have m45 : (z_up wm 11 0 47 x) 11 0 45 = wm 11 0 45 := up_s (by decide)
  have m46 : (z_up wm 11 0 47 x) 11 0 46 = wm 11 0 46 := up_s (by decide)
  have m47 : (z_up wm 11 0 47 x) 11 0 47 = x := up_h
  unfold NP
  rw [c2, c3, c4, c5, c6, m43, m44, m45, m46, m47]
  exact ⟨p1, p2, ⟨rfl, hx⟩, p4, p5⟩
section
variable {d d' : Nat} {w0 v0 wc wm : zW} {i j K r l4 : Int} {Cs : List clau}
/-- behind the act: home, the harm, the senses -/
theorem n_tail {l : Int} (hE : NE w0 v0 i j Cs) (h : NB w0 v0 i Cs 0 K wc wm) (hK : K ≤ 1000) (hG : NG w0 i wc wm) :
    ∃ wc' wm', Night_round_7 (d + 5) l wc = some (0, wc') ∧ M_nightGoes_13 (d' + 5) r l4 l wm = M_nightGoes_1 (d' + 5) r l4 wm' ∧ wc' 3 0 5 = wc 3 0 5 ∧ NB w0 v0 i Cs 0 K wc' wm' ∧ NG w0 i wc' wm' := by
  obtain ⟨h1, h2, h3, h4, h5⟩ := h.en hE
  have hp := h.2.2.1
  have hp0 := hp
  obtain ⟨p1, ⟨p2, p3, p4, p5⟩, ⟨p6, p6'⟩, p7, p8⟩ := hp
  have hi : wm 70 0 0 = i := h4.2.2.2.1.1
  have h7 : wc 7 0 0 = i := h1.1.1
  have h44 := h4.2.2.2.2.1
  have hho := m_homeAt (d := d' + 4) h4
  have e9 : wm 9 i 2 = wc 9 i 2 := by rw [h3 9 (by decide), h5 9 (by decide)]
  rw [e9] at hho
  have ended : ∀ (c1 m1 : zW) (x : Int), 0 ≤ x ∧ x ≤ 2 → c1 3 0 5 = wc 3 0 5 → NB w0 v0 i Cs 0 K c1 m1 → NG w0 i c1 m1 → (z_up c1 3 0 6 x) 3 0 5 = wc 3 0 5 ∧ NB w0 v0 i Cs 0 K (z_up c1 3 0 6 x) (z_up m1 11 0 44 x) ∧ NG w0 i (z_up c1 3 0 6 x) (z_up m1 11 0 44 x) := fun c1 m1 x hx hs hb hg =>
    ⟨by rw [up_s (by decide), hs], NB_p (fr_up (by decide)) (fun s hs => up_s (by omega)) (mF_11 (by decide)) (NP_6 hb.2.2.1 hx) hb, NG_c hg (upc (by decide)) (upc (by decide))⟩
  rw [e_Night_round_7, e_M_nightGoes_13, h7, m_woodNow, bnd]
  dsimp only
  rw [hi, hho, bnd]
  dsimp only
  by_cases z : wc 3 0 3 = wc 9 i 2
  · rw [if_pos z, if_pos (by omega)]
    exact ⟨_, _, rfl, rfl, ended wc wm 1 (by decide) rfl h hG⟩
  · rw [if_neg z, if_neg (show ¬ wm 11 0 46 = wc 9 i 2 by omega)]
    by_cases y : l = 0
    · rw [if_pos y, if_pos y]
      obtain ⟨t, x, u1, u2, u3, hB1⟩ := n_draw (d := d + 4) (d' := d' + 4) h
      have hG1 : NG w0 i (z_up wc 3 0 2 x) (z_up wm 11 0 43 x) := NG_c hG (upc (by decide)) (upc (by decide))
      obtain ⟨⟨c1, c2, c3, c4, c5, c6⟩, -⟩ := h4.2.1.2.2.2.2.1 (wc 3 0 3) p3 p4
      have q37 : (z_up wc 3 0 2 x) 37 i (wc 3 0 3) = md wm i 4 (wc 3 0 3) := by
        rw [upc (by decide), h3 37 (by decide), ← h5 37 (by decide)]
        exact c5
      have q7 : (z_up wc 3 0 2 x) 7 0 0 = i := by rw [upc (by decide)]; exact h7
      have q3 : (z_up wc 3 0 2 x) 3 0 3 = wc 3 0 3 := up_s (by decide)
      have q5 : (z_up wc 3 0 2 x) 3 0 5 = wc 3 0 5 := up_s (by decide)
      have q46 : (z_up wm 11 0 43 x) 11 0 46 = wc 3 0 3 := by rw [up_s (by decide), p2]
      have q70 : (z_up wm 11 0 43 x) 70 0 0 = i := by rw [up11 (by decide)]; exact hi
      have m4 := m_at (d := d' + 3) (i := i) (k := 4) (c := wc 3 0 3) (w := z_up wm 11 0 43 x) h44 (by decide) ⟨p3, p4⟩
      have e64 : (z_up wm 11 0 43 x) 64 0 (144 * (6 * i + 4) + wc 3 0 3) = md wm i 4 (wc 3 0 3) := by
        rw [up11 (by decide)]
        rfl
      rw [e64] at m4
      rw [u1, u2, bnd, bnd]
      dsimp only
      simp only [q3, q7, q37]
      rw [gd_t (show 0 ≤ t ∧ (0 : Int) < 1000 by omega), gd_t ⟨p3, p4⟩, gd_t (show 0 ≤ t ∧ (0 : Int) < 1000 by omega), m_woodNow, bnd]
      dsimp only
      rw [q70, q46, m4, bnd]
      dsimp only
      by_cases g : md wm i 4 (wc 3 0 3) ≤ t % 1000
      · obtain ⟨a, b, s1, s2, s3, s4, s5⟩ := n_perceive (d := d) (d' := d') hE hB1 hK hG1
        rw [if_pos g, if_pos g, s1, s2, bnd, bnd]
        exact ⟨a, b, rfl, rfl, s3.trans q5, s4, s5⟩
      · rw [if_neg g, if_neg g]
        exact ⟨_, _, rfl, rfl, ended _ _ 2 (by decide) q5 hB1 hG1⟩
    · obtain ⟨a, b, s1, s2, s3, s4, s5⟩ := n_perceive (d := d) (d' := d') hE h hK hG
      rw [if_neg y, if_neg y, s1, s2, bnd, bnd]
      exact ⟨a, b, rfl, rfl, s3, s4, s5⟩
end
