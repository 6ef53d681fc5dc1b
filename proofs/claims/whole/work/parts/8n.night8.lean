section
variable {d d' : Nat} {w0 v0 : zW} {i j r l5 : Int} {Cs : List clau}
theorem n_loop {l2 l3 l6 l7 : Int} {Cr : List clau} (hE : NE w0 v0 i j Cs) (hr : 0 ≤ r ∧ r < 6) (h2 : l2 = 6 + r) (hR : Rru w0 r Cr) (hRv : Rru v0 r Cr) (h99 : l5 ≤ 99) : ∀ (m : Nat) (wc wm : zW), NB w0 v0 i Cs 0 (wc 3 0 5) wc wm → NG w0 i wc wm → 0 ≤ wc 3 0 5 → wc 3 0 5 + m = l5 →
    ∃ wc' wm', Night_play_3 (d + 6) l2 l3 l5 l6 l7 m wc = Night_play_6 (d + 6) l2 l3 l5 l6 l7 wc' ∧ M_nightGoes_1 (d' + 5) r l5 wm = some (0, wm') ∧ NB w0 v0 i Cs 0 (wc' 3 0 5) wc' wm' ∧ NG w0 i wc' wm' ∧ 0 ≤ wc' 3 0 5 ∧ wc' 3 0 5 ≤ l5 := by
  intro m
  induction m with
  | zero =>
    intro wc wm hB hG h0 hm
    have h45 := hB.2.2.1.2.2.2.1
    exact ⟨wc, wm, by rw [e_Night_play_3, if_pos (by omega)], by rw [e_M_nightGoes_1, if_pos (by omega)], hB, hG, h0, by omega⟩
  | succ m ih =>
    intro wc wm hB hG h0 hm
    have h45 := hB.2.2.1.2.2.2.1
    have h44 := hB.2.2.1.2.2.2.2.1
    by_cases z : wc 3 0 6 = 0
    · obtain ⟨c1, m1, p1, p2, p3, p4, p5⟩ := n_round (d := d) (d' := d') (r := r) (l4 := l5) hE hB (by omega) hG hr hR hRv ⟨h0, by omega, h99⟩ z
      rw [← p3] at p4
      obtain ⟨c2, m2, q1, q2, q3⟩ := ih c1 m1 p4 p5 (by omega) (by omega)
      refine ⟨c2, m2, ?_, p2.trans q2, q3⟩
      rw [e_Night_play_3, if_neg (by omega), if_pos z, h2, p1, bnd]
      dsimp only
      rw [gd_t (by omega), ← h2, show ((m + 1 : Nat) : Int) + (-1) = (m : Nat) by omega]
      exact q1
    · exact ⟨wc, wm, by rw [e_Night_play_3, if_neg (by omega), if_neg z], by rw [e_M_nightGoes_1, if_neg (by omega), if_neg (by omega)], hB, hG, h0, by omega⟩
/-- one night begun -/
theorem n_begin {c way : Int} (hE : NE w0 v0 i j Cs) (hc : 0 ≤ c ∧ c < 144) (ho : opw w0 i c) (hw : 0 ≤ way ∧ way < 4) (hs : v0 11 0 43 = w0 3 0 2 ∧ 0 ≤ w0 3 0 2 ∧ w0 3 0 2 < 2147483648) :
    ∃ wc wm, Night_begin (d + 2) c way w0 = some (0, wc) ∧ M_nightGoes (d' + 1) r c way l5 v0 = M_nightGoes_1 (d' + 1) r l5 wm ∧ NB w0 v0 i Cs 0 0 wc wm ∧ NG w0 i wc wm ∧ wc 3 0 5 = 0 := by
  obtain ⟨w1, p1, p2, p3, p4, p5, p6, p7⟩ := s_oddsBegin (d := d) (o := 13) (w := w0) hc hw
  obtain ⟨v1, q1, q2, q3, q4⟩ := m_surely (d := d') (k1 := 71) (b := 0) (w := v0) (Or.inr ⟨rfl, rfl⟩) hc hw
  generalize hwx : z_row (z_up (z_up (z_up (z_up w1 3 0 3 c) 3 0 4 way) 3 0 5 0) 3 0 6 0) 18 0 (flF ((z_up (z_up (z_up (z_up w1 3 0 3 c) 3 0 4 way) 3 0 5 0) 3 0 6 0) 18 0) 0 (z_ln 18) 99) = wx
  generalize hvx : z_up (z_up (z_up (z_up (z_up (z_up (z_up (z_up (z_up (z_up (z_up v1 11 0 46 c) 11 0 47 way) 11 0 48 0) 11 0 49 9) 11 0 35 0) 11 0 50 99) 11 0 51 99) 11 0 52 99) 11 0 53 99) 11 0 44 0) 11 0 45 0 = vx
  have fx : z_fr [3, 18] w1 wx := by
    rw [← hwx]
    exact fr_tr (fr_tr (fr_tr (fr_tr (fr_up (by decide)) (fr_up (by decide))) (fr_up (by decide))) (fr_up (by decide))) (fr_row (by decide))
  have fv : mF [] [35, 44, 45, 46, 47, 48, 49, 50, 51, 52, 53] v1 vx := by
    rw [← hvx]
    exact mF_tr (mF_tr (mF_tr (mF_tr (mF_tr (mF_tr (mF_tr (mF_tr (mF_tr (mF_tr (mF_11 (by decide)) (mF_11 (by decide))) (mF_11 (by decide))) (mF_11 (by decide))) (mF_11 (by decide))) (mF_11 (by decide))) (mF_11 (by decide))) (mF_11 (by decide))) (mF_11 (by decide))) (mF_11 (by decide))) (mF_11 (by decide))
  have f1 : z_fr nC w0 wx := fr_tr (fr_sub p2 (by decide)) (fr_sub fx (by decide))
  have r3 : wx 3 0 3 = c := by rw [← hwx, row_c (by decide), up_s (by decide), up_s (by decide), up_s (by decide), up_h]
  have r4 : wx 3 0 4 = way := by rw [← hwx, row_c (by decide), up_s (by decide), up_s (by decide), up_h]
  have r5 : wx 3 0 5 = 0 := by rw [← hwx, row_c (by decide), up_s (by decide), up_h]
  have r6 : wx 3 0 6 = 0 := by rw [← hwx, row_c (by decide), up_h]
  have ro : ∀ s, s ≠ 3 → s ≠ 4 → s ≠ 5 → s ≠ 6 → wx 3 0 s = w0 3 0 s := fun s a b c' e => by
    rw [← hwx, row_c (by decide), up_s e, up_s c', up_s b, up_s a, p2 3 (by decide)]
  have r18 : ∀ s, 0 ≤ s → s < 10 → wx 18 0 s = 99 := fun s s0 s1 => by
    rw [← hwx, row_h]
    unfold flF
    rw [if_pos ⟨s0, s1⟩]
  have m46 : vx 11 0 46 = c := by rw [← hvx, up_s (by decide), up_s (by decide), up_s (by decide), up_s (by decide), up_s (by decide), up_s (by decide), up_s (by decide), up_s (by decide), up_s (by decide), up_s (by decide), up_h]
  have m47 : vx 11 0 47 = way := by rw [← hvx, up_s (by decide), up_s (by decide), up_s (by decide), up_s (by decide), up_s (by decide), up_s (by decide), up_s (by decide), up_s (by decide), up_s (by decide), up_h]
  have m48 : vx 11 0 48 = 0 := by rw [← hvx, up_s (by decide), up_s (by decide), up_s (by decide), up_s (by decide), up_s (by decide), up_s (by decide), up_s (by decide), up_s (by decide), up_h]
  have m49 : vx 11 0 49 = 9 := by rw [← hvx, up_s (by decide), up_s (by decide), up_s (by decide), up_s (by decide), up_s (by decide), up_s (by decide), up_s (by decide), up_h]
  have m35 : vx 11 0 35 = 0 := by rw [← hvx, up_s (by decide), up_s (by decide), up_s (by decide), up_s (by decide), up_s (by decide), up_s (by decide), up_h]
  have m50 : vx 11 0 50 = 99 := by rw [← hvx, up_s (by decide), up_s (by decide), up_s (by decide), up_s (by decide), up_s (by decide), up_h]
  have m51 : vx 11 0 51 = 99 := by rw [← hvx, up_s (by decide), up_s (by decide), up_s (by decide), up_s (by decide), up_h]
  have m52 : vx 11 0 52 = 99 := by rw [← hvx, up_s (by decide), up_s (by decide), up_s (by decide), up_h]
  have m53 : vx 11 0 53 = 99 := by rw [← hvx, up_s (by decide), up_s (by decide), up_h]
  have m44 : vx 11 0 44 = 0 := by rw [← hvx, up_s (by decide), up_h]
  have m45 : vx 11 0 45 = 0 := by rw [← hvx, up_h]
  have m43 : vx 11 0 43 = w0 3 0 2 := by rw [fv.2 43 (by decide), q2.2 43 (by decide), hs.1]
  have hbg := beg_OK (P := opw w0 i) hc hw ho
  refine ⟨wx, vx, ?_, ?_, ⟨⟨f1, fun o ho => ?_, mF_tr (mF_sub q2 (by decide) (by decide)) (mF_sub fv (by decide) (by decide)), RC_fr3 (fun q hq => ?_) hE.1.1.2.2.2.2.2.2.2.2.2, fun s hs => ro s (by omega) (by omega) (by omega) (by omega)⟩, ?_, ?_, ?_⟩, ⟨?_, ?_⟩, r5⟩
  · rw [e_Night_begin, p1, bnd]
    dsimp only
    rw [s_fillL rfl (by decide), bnd, hwx]
  · rw [e_M_nightGoes, q1, bnd]
    dsimp only
    rw [hvx]
  · rw [fx 4 (by decide), fx 19 (by decide)]
    exact p3 o ho
  · rw [fx q (by revert hq; revert q; decide)]
    exact p2 q (by revert hq; revert q; decide)
  · unfold NN
    rw [m48, m49, m35, fx 4 (by decide), p5, p6, p7]
    decide
  · unfold NP
    rw [m43, m44, m45, m46, m47, r3, r4, r5, r6, ro 2 (by decide) (by decide) (by decide) (by decide)]
    exact ⟨⟨rfl, hs.2⟩, ⟨rfl, hc.1, hc.2, ho⟩, ⟨rfl, hw⟩, rfl, rfl, by decide, by decide⟩
  · unfold NW
    rw [m50, m51, m52, m53, r18 3 (by decide) (by decide), r18 4 (by decide) (by decide), r18 5 (by decide) (by decide), r18 9 (by decide) (by decide)]
    exact ⟨rfl, rfl, rfl, rfl⟩
  · rw [fx 19 (by decide)]
    exact wOK_eq hbg p4
  · rw [fx 19 (by decide)]
    refine eqR_tr (fun k k0 k1 => ?_) (eqR_tr q4 (eqR_sy p4))
    show vx 71 0 (0 + k) = v1 71 0 (0 + k)
    rw [fv.1 71 (by decide) (by decide)]
end
