section
variable {d d' : Nat} {w0 v0 : zW} {i j r l5 : Int} {Cs : List clau}
theorem n_one {c way x l2 : Int} {Cr : List clau} (hE : NE w0 v0 i j Cs) (hr : 0 ≤ r ∧ r < 6) (h2 : l2 = 6 + r) (hR : Rru w0 r Cr) (hRv : Rru v0 r Cr) (h99 : 1 ≤ l5 ∧ l5 ≤ 99) (hc : 0 ≤ c ∧ c < 144) (ho : opw w0 i c) (hw : 0 ≤ way ∧ way < 4) (hx : x = c * 4 + way) (hs : v0 11 0 43 = w0 3 0 2 ∧ 0 ≤ w0 3 0 2 ∧ w0 3 0 2 < 2147483648) (h7 : w0 3 0 7 = 0 ∧ w0 3 0 8 = 0 ∧ w0 3 0 9 = 0) :
    ∃ w' v', Night_play_1 (d + 6) l2 x l5 1 0 w0 = some (0, w') ∧ M_nightGoes (d' + 5) r c way l5 v0 = some (0, v') ∧ GK w0 v0 i Cs w' v' ∧ NG w0 i w' v' ∧ v' 11 0 44 = w' 3 0 6 ∧ v' 11 0 45 = w' 3 0 5 ∧ (v' 11 0 46 = w' 3 0 3 ∧ 0 ≤ w' 3 0 3 ∧ w' 3 0 3 < 144) ∧ v' 11 0 47 = w' 3 0 4 ∧ v' 11 0 49 = w' 4 13 2 := by
  obtain ⟨wb, wc, wm, p1, p2, p3, p4, p5, p6, p7⟩ := n_night (d := d) (d' := d') (l3 := x) (l6 := 1) (l7 := 0) hE hr h2 hR hRv h99 hc ho hw hs
  obtain ⟨⟨n1, n2, n3, n4, n5⟩, ⟨-, ⟨t49, -⟩, -⟩, ⟨t1, ⟨t46, t46a, t46b, -⟩, ⟨t47, -⟩, t45, t44, t44a, t44b⟩, -⟩ := p4
  have c7 : wc 3 0 7 = 0 := (n5 7 (by decide)).trans h7.1
  have c8 : wc 3 0 8 = 0 := (n5 8 (by decide)).trans h7.2.1
  have c9 : wc 3 0 9 = 0 := (n5 9 (by decide)).trans h7.2.2
  have hx4 : x / 4 = c ∧ x % 4 = way := by omega
  generalize ha : (if wc 3 0 6 = 1 then (1 : Int) else 0) = a
  generalize hb : (if wc 3 0 6 = 2 then (1 : Int) else 0) = b
  have hab : 0 ≤ a ∧ a ≤ 1 ∧ 0 ≤ b ∧ b ≤ 1 := by
    rw [← ha, ← hb]
    split <;> split <;> omega
  generalize hw2 : z_up (z_up (z_up wc 3 0 7 (0 + a)) 3 0 8 (0 + b)) 3 0 9 (0 + wc 3 0 5) = w2
  have f2 : z_fr [3] wc w2 := by
    rw [← hw2]
    exact fr_tr (fr_tr (fr_up (by decide)) (fr_up (by decide))) (fr_up (by decide))
  have e2 : ∀ s, s < 7 → w2 3 0 s = wc 3 0 s := fun s hs => by rw [← hw2, up_s (by omega), up_s (by omega), up_s (by omega)]
  have hC : Night_play_1 (d + 6) l2 x l5 1 0 w0 = some (0, w2) := by
    rw [e_Night_play_1, if_neg (by decide), gd_t (by omega), gd_t (by omega), hx4.1, hx4.2, p1, bnd]
    dsimp only
    rw [p2, e_Night_play_6]
    have h6 : (if wc 3 0 6 = 1 then Night_play_9 (d + 6) l2 x l5 1 0 (wc 3 0 7) 1 wc else Night_play_9 (d + 6) l2 x l5 1 0 (wc 3 0 7) 0 wc) = Night_play_9 (d + 6) l2 x l5 1 0 0 a wc := by
      rw [← ha, c7]
      split <;> rfl
    rw [h6, e_Night_play_9, gd_t (by omega)]
    have h9' : (if wc 3 0 6 = 2 then Night_play_12 (d + 6) l2 x l5 1 0 (wc 3 0 8) 1 (z_up wc 3 0 7 (0 + a)) else Night_play_12 (d + 6) l2 x l5 1 0 (wc 3 0 8) 0 (z_up wc 3 0 7 (0 + a))) = Night_play_12 (d + 6) l2 x l5 1 0 0 b (z_up wc 3 0 7 (0 + a)) := by
      rw [← hb, c8]
      split <;> rfl
    rw [h9', e_Night_play_12]
    have u9 : (z_up wc 3 0 7 (0 + a)) 3 0 9 = 0 := by rw [up_s (by decide), c9]
    have u5 : (z_up wc 3 0 7 (0 + a)) 3 0 5 = wc 3 0 5 := up_s (by decide)
    simp only [u9, u5]
    rw [gd_t (by omega), gd_t (by omega), gd_t (by omega), hw2, e_Night_play_1, if_pos (by decide)]
  refine ⟨w2, wm, hC, p3, ⟨fr_tr n1 (fr_sub f2 (by decide)), fun o hq => ⟨by rw [f2 4 (by decide), (n2 o hq).1], by rw [f2 19 (by decide), (n2 o hq).2]⟩, mF_sub n3 (by decide) (by decide), RC_fr3 (fun q hq => f2 q (by revert hq; revert q; decide)) n4⟩, NG_c p5 (f2 19 (by decide)) rfl, ?_, ?_, ?_, ?_, ?_⟩
  · rw [e2 6 (by decide)]; exact t44
  · rw [e2 5 (by decide)]; exact t45
  · rw [e2 3 (by decide)]; exact ⟨t46, t46a, t46b⟩
  · rw [e2 4 (by decide)]; exact t47
  · rw [f2 4 (by decide)]; exact t49
end
/-! where a night starts -/
theorem o_cell {w : zW} {i x y : Int} (hW : RW w i) (h : openAt (w 9 i 0) (w 9 i 1) (w 34 i) x y ≠ -1) : openAt (w 9 i 0) (w 9 i 1) (w 34 i) x y = y * 12 + x ∧ (0 ≤ x ∧ 0 ≤ y ∧ x < 12 ∧ y < 12) ∧ opw w i (y * 12 + x) := by
  have hCR := hW.1
  have hP := openAt_P (wall := w 34 i) hCR.1.2 hCR.2.2 (fun c c0 c1 => (hW.2.2.2.2.1 c c0 c1).2.2.1) h
  unfold openAt at h hP ⊢
  by_cases z : 0 ≤ x ∧ 0 ≤ y ∧ x < w 9 i 0 ∧ y < w 9 i 1 ∧ ¬ w 34 i (y * 12 + x) = 1
  · rw [if_pos z] at hP ⊢
    exact ⟨rfl, ⟨z.1, z.2.1, by omega, by omega⟩, hP⟩
  · rw [if_neg z] at h
    exact absurd rfl h
abbrev stOK (w : zW) (x y way seed rounds : Int) : Prop := openAt (w 9 (w 7 0 0) 0) (w 9 (w 7 0 0) 1) (w 34 (w 7 0 0)) x y ≠ -1 ∧ (0 ≤ way ∧ way < 4) ∧ 0 ≤ seed ∧ 1 ≤ rounds ∧ rounds ≤ 99
theorem s_startOf {d : Nat} {w : zW} {j x y way seed rounds : Int} {Cs : List clau} (hb : w 8 0 1 = 1) (hE : ENV w (w 7 0 0) j Cs) : (stOK w x y way seed rounds → D_startOf (d + 2) x y way seed rounds w = some ((y * 12 + x) * 4 + way, w)) ∧ (¬ stOK w x y way seed rounds → D_startOf (d + 2) x y way seed rounds w = some (-1, w)) := by
  have hCR := hE.2.1.1
  have ho := s_openAt (d := d) (i := w 7 0 0) (x := x) (y := y) (w := w) hCR.1.2 hCR.2.2
  constructor
  · rintro ⟨s1, s2, s3, s4, s5⟩
    obtain ⟨c1, c2, c3⟩ := o_cell hE.2.1 s1
    rw [e_D_startOf, if_neg (by omega), if_neg (by omega), if_neg (by omega), if_neg (by omega), if_neg (by omega), if_pos s5, ho, bnd]
    dsimp only
    rw [if_neg s1, c1, gd_t (by omega), gd_t (by omega)]
  · intro h
    rw [e_D_startOf, if_neg (by omega)]
    by_cases g1 : way < 0
    · rw [if_pos g1]
    by_cases g2 : 4 ≤ way
    · rw [if_neg g1, if_pos g2]
    by_cases g3 : seed < 0
    · rw [if_neg g1, if_neg g2, if_pos g3]
    by_cases g4 : rounds < 1
    · rw [if_neg g1, if_neg g2, if_neg g3, if_pos g4]
    by_cases g5 : rounds ≤ 99
    · rw [if_neg g1, if_neg g2, if_neg g3, if_neg g4, if_pos g5, ho, bnd]
      dsimp only
      by_cases g6 : openAt (w 9 (w 7 0 0) 0) (w 9 (w 7 0 0) 1) (w 34 (w 7 0 0)) x y = -1
      · rw [if_pos g6]
      · exact absurd ⟨g6, by omega, by omega, by omega, g5⟩ h
    · rw [if_neg g1, if_neg g2, if_neg g3, if_neg g4, if_neg g5]
theorem s_startNo {d : Nat} {w : zW} {x y way seed rounds : Int} (hb : w 8 0 1 = 0) : D_startOf (d + 1) x y way seed rounds w = some (-1, w) := by
  rw [e_D_startOf, if_pos hb]
/-- the model's start -/
theorem m_isNight {d : Nat} {u : zW} {i j r x y way seed rounds : Int} {Cs : List clau} (hg : u 70 0 0 ≠ -1) (hE : ENV u i j Cs) : M_isNight (d + 3) r x y way seed rounds u = some (if (0 ≤ r ∧ r < u 49 0 2) ∧ (openAt (u 9 i 0) (u 9 i 1) (u 34 i) x y ≠ -1 ∧ 0 ≤ way ∧ way < 4) ∧ 0 ≤ seed ∧ 1 ≤ rounds ∧ rounds ≤ 99 then 1 else 0, u) := by
  have hi : u 70 0 0 = i := hE.2.2.2.1.1
  rw [e_M_isNight, m_isWalk, bnd, if_neg hg]
  dsimp only
  rw [if_neg (show ¬ (1 : Int) = 0 by decide), m_isText (by decide), bnd]
  dsimp only
  by_cases g1 : 0 ≤ r ∧ r < u 49 0 2
  · rw [if_pos g1, if_neg (show ¬ (1 : Int) = 0 by decide), m_woodNow, bnd]
    dsimp only
    rw [hi, hE.2.1.stand (d := d) hE.2.2.2.2.1, bnd]
    dsimp only
    by_cases g2 : openAt (u 9 i 0) (u 9 i 1) (u 34 i) x y ≠ -1 ∧ 0 ≤ way ∧ way < 4
    · rw [if_pos g2, if_neg (show ¬ (1 : Int) = 0 by decide)]
      by_cases g3 : seed < 0
      · rw [if_pos g3, if_neg (fun q => by omega), gd_t (by decide)]
      · rw [if_neg g3, m_in, bnd]
        dsimp only
        by_cases g4 : 1 ≤ rounds ∧ rounds ≤ 99
        · rw [if_pos g4, if_neg (show ¬ (1 : Int) = 0 by decide), if_pos ⟨g1, g2, by omega, g4⟩, gd_t (by decide)]
        · rw [if_neg g4, if_pos rfl, if_neg (fun q => g4 q.2.2.2), gd_t (by decide)]
    · rw [if_neg g2, if_pos rfl, if_neg (fun q => g2 q.2.1), gd_t (by decide)]
  · rw [if_neg g1, if_pos rfl, if_neg (fun q => g1 q.1), gd_t (by decide)]
