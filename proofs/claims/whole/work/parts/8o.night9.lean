section
variable {d d' : Nat} {w0 v0 : zW} {i j r l5 : Int} {Cs : List clau}
/-- one night -/
theorem n_night {c way l2 l3 l6 l7 : Int} {Cr : List clau} (hE : NE w0 v0 i j Cs) (hr : 0 ≤ r ∧ r < 6) (h2 : l2 = 6 + r) (hR : Rru w0 r Cr) (hRv : Rru v0 r Cr) (h99 : 1 ≤ l5 ∧ l5 ≤ 99) (hc : 0 ≤ c ∧ c < 144) (ho : opw w0 i c) (hw : 0 ≤ way ∧ way < 4) (hs : v0 11 0 43 = w0 3 0 2 ∧ 0 ≤ w0 3 0 2 ∧ w0 3 0 2 < 2147483648) :
    ∃ wb wc wm, Night_begin (d + 5) c way w0 = some (0, wb) ∧ Night_play_3 (d + 6) l2 l3 l5 l6 l7 l5 wb = Night_play_6 (d + 6) l2 l3 l5 l6 l7 wc ∧ M_nightGoes (d' + 5) r c way l5 v0 = some (0, wm) ∧ NB w0 v0 i Cs 0 (wc 3 0 5) wc wm ∧ NG w0 i wc wm ∧ 0 ≤ wc 3 0 5 ∧ wc 3 0 5 ≤ l5 := by
  obtain ⟨wb, mb, p1, p2, p3, p4, p5⟩ := n_begin (d := d + 3) (d' := d' + 4) (r := r) (l5 := l5) hE hc ho hw hs
  have p3' : NB w0 v0 i Cs 0 (wb 3 0 5) wb mb := by rw [p5]; exact p3
  obtain ⟨wc, wm, q1, q2, q3⟩ := n_loop (d := d) (d' := d') (l3 := l3) (l6 := l6) (l7 := l7) hE hr h2 hR hRv h99.2 l5.toNat wb mb p3' p4 (by omega) (by omega)
  refine ⟨wb, wc, wm, p1, ?_, ?_, q3⟩
  · rw [show ((l5.toNat : Nat) : Int) = l5 by omega] at q1
    exact q1
  · exact p2.trans q2
/-- both runs over many nights -/
def GK (w0 v0 : zW) (i : Int) (Cs : List clau) (w v : zW) : Prop := z_fr nC w0 w ∧ (∀ o, o ≠ 13 → w 4 o = w0 4 o ∧ w 19 o = w0 19 o) ∧ mF (76 :: nM) nT v0 v ∧ RC w i Cs
theorem GK_NE {w v : zW} (hE : NE w0 v0 i j Cs) (h : GK w0 v0 i Cs w v) : NE w v i j Cs := by
  obtain ⟨k1, k2, k3, k4⟩ := h
  obtain ⟨e1, e2, e3⟩ := hE
  have s1 : sameE w0 w := sameE_fr k1 (by decide)
  refine ⟨⟨EN_e s1 k4 e1.1, RW_fr (fun c hc => k1 c (by revert hc; revert c; decide)) e1.2.1, Rlw_fr (fun c hc => k1 c (by revert hc; revert c; decide)) e1.2.2.1, ?_, e1.2.2.2.2⟩, ENV_m k3 (by decide) (by decide) e2, fun c hc => ?_⟩
  · rw [k1 70 (by decide)]
    exact e1.2.2.2.1
  · rw [(sameE_m k3 (by decide)) c hc, e3 c hc, s1 c hc]
theorem n_games {c way x l2 l6 : Int} {Cr : List clau} (hE : NE w0 v0 i j Cs) (hr : 0 ≤ r ∧ r < 6) (h2 : l2 = 6 + r) (hR : Rru w0 r Cr) (hRv : Rru v0 r Cr) (h99 : 1 ≤ l5 ∧ l5 ≤ 99) (hc : 0 ≤ c ∧ c < 144) (ho : opw w0 i c) (hw : 0 ≤ way ∧ way < 4) (hx : x = c * 4 + way) (h9 : l6 ≤ 9) : ∀ (m : Nat) (l7 : Int) (w v : zW), 0 ≤ l7 → l7 + m = l6 → GK w0 v0 i Cs w v → (v 11 0 43 = w 3 0 2 ∧ 0 ≤ w 3 0 2 ∧ w 3 0 2 < 2147483648) → (v 76 0 0 = w 3 0 7 ∧ 0 ≤ w 3 0 7 ∧ w 3 0 7 ≤ l7) → (v 76 0 1 = w 3 0 8 ∧ 0 ≤ w 3 0 8 ∧ w 3 0 8 ≤ l7) → (v 76 0 2 = w 3 0 9 ∧ 0 ≤ w 3 0 9 ∧ w 3 0 9 ≤ 99 * l7) →
    ∃ w' v', Night_play_1 (d + 6) l2 x l5 l6 l7 w = some (0, w') ∧ M_sums_1 (d' + 6) r c way l5 l6 l7 v = some (0, v') ∧ GK w0 v0 i Cs w' v' ∧ v' 76 0 0 = w' 3 0 7 ∧ v' 76 0 1 = w' 3 0 8 ∧ v' 76 0 2 = w' 3 0 9 := by
  intro m
  induction m with
  | zero =>
    intro l7 w v h0 hm hK hs s0 s1 s2
    exact ⟨w, v, by rw [e_Night_play_1, if_pos (by omega)], by rw [e_M_sums_1, if_pos (by omega)], hK, s0.1, s1.1, s2.1⟩
  | succ m ih =>
    intro l7 w v h0 hm hK hs s0 s1 s2
    have hE1 := GK_NE hE hK
    obtain ⟨k1, k2, k3, k4⟩ := hK
    have ew : sameE w0 w := sameE_fr k1 (by decide)
    have how : opw w i c := by rw [opw_e ew]; exact ho
    obtain ⟨wb, wc, wm, p1, p2, p3, p4, p5, p6, p7⟩ := n_night (d := d) (d' := d') (l3 := x) (l6 := l6) (l7 := l7) hE1 hr h2 (Rru_fr (fun q hq => k1 q (by revert hq; revert q; decide)) hR) (Rru_fr (fun q hq => k3.1 q (by revert hq; revert q; decide) (by revert hq; revert q; decide)) hRv) h99 hc how hw hs
    obtain ⟨⟨n1, n2, n3, n4, n5⟩, -, ⟨t1, -, -, t45, t44, t44a, t44b⟩, -⟩ := p4
    have c7 : wc 3 0 7 = w 3 0 7 := n5 7 (by decide)
    have c8 : wc 3 0 8 = w 3 0 8 := n5 8 (by decide)
    have c9 : wc 3 0 9 = w 3 0 9 := n5 9 (by decide)
    have v76 : wm 76 = v 76 := n3.1 76 (by decide) (by decide)
    have hx4 : x / 4 = c ∧ x % 4 = way := by omega
    generalize ha : (if wc 3 0 6 = 1 then (1 : Int) else 0) = a
    generalize hb : (if wc 3 0 6 = 2 then (1 : Int) else 0) = b
    have hab : 0 ≤ a ∧ a ≤ 1 ∧ 0 ≤ b ∧ b ≤ 1 := by
      rw [← ha, ← hb]
      split <;> split <;> omega
    generalize hw2 : z_up (z_up (z_up wc 3 0 7 (w 3 0 7 + a)) 3 0 8 (w 3 0 8 + b)) 3 0 9 (w 3 0 9 + wc 3 0 5) = w2
    have e27 : w2 3 0 7 = w 3 0 7 + a := by rw [← hw2, up_s (by decide), up_s (by decide), up_h]
    have e28 : w2 3 0 8 = w 3 0 8 + b := by rw [← hw2, up_s (by decide), up_h]
    have e29 : w2 3 0 9 = w 3 0 9 + wc 3 0 5 := by rw [← hw2, up_h]
    have e22 : w2 3 0 2 = wc 3 0 2 := by rw [← hw2, up_s (by decide), up_s (by decide), up_s (by decide)]
    have f2 : z_fr [3] wc w2 := by
      rw [← hw2]
      exact fr_tr (fr_tr (fr_up (by decide)) (fr_up (by decide))) (fr_up (by decide))
    have hC : Night_play_1 (d + 6) l2 x l5 l6 l7 w = Night_play_1 (d + 6) l2 x l5 l6 (l7 + 1) w2 := by
      rw [e_Night_play_1, if_neg (by omega), gd_t (by omega), gd_t (by omega), hx4.1, hx4.2, p1, bnd]
      dsimp only
      rw [p2, e_Night_play_6]
      have h6 : (if wc 3 0 6 = 1 then Night_play_9 (d + 6) l2 x l5 l6 l7 (wc 3 0 7) 1 wc else Night_play_9 (d + 6) l2 x l5 l6 l7 (wc 3 0 7) 0 wc) = Night_play_9 (d + 6) l2 x l5 l6 l7 (w 3 0 7) a wc := by
        rw [← ha, c7]
        split <;> rfl
      rw [h6, e_Night_play_9, gd_t (by omega)]
      have h9' : (if wc 3 0 6 = 2 then Night_play_12 (d + 6) l2 x l5 l6 l7 (wc 3 0 8) 1 (z_up wc 3 0 7 (w 3 0 7 + a)) else Night_play_12 (d + 6) l2 x l5 l6 l7 (wc 3 0 8) 0 (z_up wc 3 0 7 (w 3 0 7 + a))) = Night_play_12 (d + 6) l2 x l5 l6 l7 (w 3 0 8) b (z_up wc 3 0 7 (w 3 0 7 + a)) := by
        rw [← hb, c8]
        split <;> rfl
      rw [h9', e_Night_play_12]
      have u9 : (z_up wc 3 0 7 (w 3 0 7 + a)) 3 0 9 = w 3 0 9 := by rw [up_s (by decide), c9]
      have u5 : (z_up wc 3 0 7 (w 3 0 7 + a)) 3 0 5 = wc 3 0 5 := up_s (by decide)
      have u9' : (z_up (z_up wc 3 0 7 (w 3 0 7 + a)) 3 0 8 (w 3 0 8 + b)) 3 0 9 = w 3 0 9 := by rw [up_s (by decide), u9]
      have u5' : (z_up (z_up wc 3 0 7 (w 3 0 7 + a)) 3 0 8 (w 3 0 8 + b)) 3 0 5 = wc 3 0 5 := by rw [up_s (by decide), u5]
      simp only [u9, u5]
      rw [gd_t (by omega), gd_t (by omega), gd_t (by omega), hw2]
    have hM : ∃ v2, M_sums_1 (d' + 6) r c way l5 l6 l7 v = M_sums_1 (d' + 6) r c way l5 l6 (l7 + 1) v2 ∧ mF [76] [] wm v2 ∧ v2 76 0 0 = w2 3 0 7 ∧ v2 76 0 1 = w2 3 0 8 ∧ v2 76 0 2 = w2 3 0 9 := by
      have step : ∀ u : zW, mF [76] [] wm u → u 76 0 2 = w 3 0 9 → u 76 0 0 = w2 3 0 7 → u 76 0 1 = w2 3 0 8 → ∃ v2, M_sums_4 (d' + 6) r c way l5 l6 l7 u = M_sums_1 (d' + 6) r c way l5 l6 (l7 + 1) v2 ∧ mF [76] [] wm v2 ∧ v2 76 0 0 = w2 3 0 7 ∧ v2 76 0 1 = w2 3 0 8 ∧ v2 76 0 2 = w2 3 0 9 := fun u hu y2 y0 y1 => by
        have u45 : u 11 0 45 = wc 3 0 5 := by rw [hu.2 45 (by decide), t45]
        refine ⟨z_up u 76 0 2 (w 3 0 9 + wc 3 0 5), ?_, mF_tr hu (mF_up (by decide) (by decide)), by rw [up_s (by decide), y0], by rw [up_s (by decide), y1], by rw [up_h, e29]⟩
        rw [e_M_sums_4, gd_t (by decide), y2, u45, gd_t (by omega), gd_t (by decide), gd_t (by omega)]
      have x0 : wm 76 0 0 = w 3 0 7 := by rw [v76]; exact s0.1
      have x1 : wm 76 0 1 = w 3 0 8 := by rw [v76]; exact s1.1
      have x2 : wm 76 0 2 = w 3 0 9 := by rw [v76]; exact s2.1
      rw [e_M_sums_1, if_neg (by omega), p3, bnd]
      dsimp only
      have hq : wc 3 0 6 = 0 ∨ wc 3 0 6 = 1 ∨ wc 3 0 6 = 2 := by omega
      rcases hq with q | q | q
      · rw [if_pos (show wm 11 0 44 ≤ 0 by omega)]
        refine step wm (mF_rf _ _ _) x2 ?_ ?_
        · rw [x0, e27, ← ha, if_neg (by omega)]; omega
        · rw [x1, e28, ← hb, if_neg (by omega)]; omega
      · have h441 : wm 11 0 44 - 1 = 0 := by omega
        rw [if_neg (show ¬ wm 11 0 44 ≤ 0 by omega), gd_t (by omega), h441, gd_t (by decide)]
        simp only [x0]
        rw [gd_t (by omega), gd_t (by decide)]
        refine step _ (mF_up (by decide) (by decide)) (by rw [up_s (by decide), x2]) ?_ ?_
        · rw [up_h, e27, ← ha, if_pos q]
        · rw [up_s (by decide), x1, e28, ← hb, if_neg (by omega)]; omega
      · have h441 : wm 11 0 44 - 1 = 1 := by omega
        rw [if_neg (show ¬ wm 11 0 44 ≤ 0 by omega), gd_t (by omega), h441, gd_t (by decide)]
        simp only [x1]
        rw [gd_t (by omega), gd_t (by decide)]
        refine step _ (mF_up (by decide) (by decide)) (by rw [up_s (by decide), x2]) ?_ ?_
        · rw [up_s (by decide), x0, e27, ← ha, if_neg (by omega)]; omega
        · rw [up_h, e28, ← hb, if_pos q]
    obtain ⟨v2, g1, g2, g3, g4, g5⟩ := hM
    have hK2 : GK w0 v0 i Cs w2 v2 := ⟨fr_tr k1 (fr_tr n1 (fr_sub f2 (by decide))), fun o hq => ⟨by rw [f2 4 (by decide), (n2 o hq).1, (k2 o hq).1], by rw [f2 19 (by decide), (n2 o hq).2, (k2 o hq).2]⟩, mF_tr k3 (mF_tr (mF_sub n3 (by decide) (by decide)) (mF_sub g2 (by decide) (by decide))), RC_fr3 (fun q hq => f2 q (by revert hq; revert q; decide)) n4⟩
    obtain ⟨w3, v3, y1, y2, y3⟩ := ih (l7 + 1) w2 v2 (by omega) (by omega) hK2 (by rw [g2.2 43 (by decide), e22]; exact t1) ⟨g3, by omega, by omega⟩ ⟨g4, by omega, by omega⟩ ⟨g5, by omega, by omega⟩
    exact ⟨w3, v3, hC.trans y1, g1.trans y2, y3⟩
end
