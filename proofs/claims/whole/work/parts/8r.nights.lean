section
variable {d d' : Nat} {w0 v0 : zW} {i j r : Int} {Cs : List clau}
theorem GK_rf (hR : RC w0 i Cs) : GK w0 v0 i Cs w0 v0 := ⟨fr_rf _ _, fun _ _ => ⟨rfl, rfl⟩, mF_rf _ _ _, hR⟩
theorem GK_tr {w v w' v' : zW} (h1 : GK w0 v0 i Cs w v) (h2 : GK w v i Cs w' v') : GK w0 v0 i Cs w' v' := ⟨fr_tr h1.1 h2.1, fun o ho => ⟨(h2.2.1 o ho).1.trans (h1.2.1 o ho).1, (h2.2.1 o ho).2.trans (h1.2.1 o ho).2⟩, mF_tr h1.2.2.1 h2.2.2.1, h2.2.2.2⟩
theorem GK_Ru {w v : zW} {Cr : List clau} (h : GK w0 v0 i Cs w v) (hR : Rru w0 r Cr) (hRv : Rru v0 r Cr) : Rru w r Cr ∧ Rru v r Cr :=
  ⟨Rru_fr (fun q hq => h.1 q (by revert hq; revert q; decide)) hR, Rru_fr (fun q hq => h.2.2.1.1 q (by revert hq; revert q; decide) (by revert hq; revert q; decide)) hRv⟩
/-- many nights, in both -/
theorem n_sums {c way seed rounds games : Int} {Cr : List clau} (hE : NE w0 v0 i j Cs) (hr : 0 ≤ r ∧ r < 6) (hR : Rru w0 r Cr ∧ Rru v0 r Cr) (h99 : 1 ≤ rounds ∧ rounds ≤ 99) (hc : 0 ≤ c ∧ c < 144) (ho : opw w0 i c) (hw : 0 ≤ way ∧ way < 4) (h9 : 1 ≤ games ∧ games ≤ 9) (hs : 0 ≤ seed ∧ seed ≤ 2147483647) :
    ∃ w' v', Night_play (d + 6) (6 + r) (c * 4 + way) seed rounds games w0 = some (0, w') ∧ M_sums (d' + 6) r c way seed rounds games v0 = some (0, v') ∧ GK w0 v0 i Cs w' v' ∧ v' 76 0 0 = w' 3 0 7 ∧ v' 76 0 1 = w' 3 0 8 ∧ v' 76 0 2 = w' 3 0 9 := by
  generalize hwb : z_up (z_up (z_up (z_up w0 3 0 2 seed) 3 0 7 0) 3 0 8 0) 3 0 9 0 = wb
  generalize hvb : z_up (z_up (z_up (z_up v0 11 0 43 seed) 76 0 0 0) 76 0 1 0) 76 0 2 0 = vb
  have fb : z_fr [3] w0 wb := by
    rw [← hwb]
    exact fr_tr (fr_tr (fr_tr (fr_up (by decide)) (fr_up (by decide))) (fr_up (by decide))) (fr_up (by decide))
  have fv : mF [76] [43] v0 vb := by
    rw [← hvb]
    exact mF_tr (mF_tr (mF_tr (mF_11 (by decide)) (mF_up (by decide) (by decide))) (mF_up (by decide) (by decide))) (mF_up (by decide) (by decide))
  have b2 : wb 3 0 2 = seed := by rw [← hwb, up_s (by decide), up_s (by decide), up_s (by decide), up_h]
  have b7 : wb 3 0 7 = 0 := by rw [← hwb, up_s (by decide), up_s (by decide), up_h]
  have b8 : wb 3 0 8 = 0 := by rw [← hwb, up_s (by decide), up_h]
  have b9 : wb 3 0 9 = 0 := by rw [← hwb, up_h]
  have v43 : vb 11 0 43 = seed := by rw [← hvb, up_c (by decide), up_c (by decide), up_c (by decide), up_h]
  have v0' : vb 76 0 0 = 0 := by rw [← hvb, up_s (by decide), up_s (by decide), up_h]
  have v1' : vb 76 0 1 = 0 := by rw [← hvb, up_s (by decide), up_h]
  have v2' : vb 76 0 2 = 0 := by rw [← hvb, up_h]
  have hK : GK w0 v0 i Cs wb vb := ⟨fr_sub fb (by decide), fun o _ => by rw [fb 4 (by decide), fb 19 (by decide)]; exact ⟨rfl, rfl⟩, mF_sub fv (by decide) (by decide), RC_fr3 (fun q hq => fb q (by revert hq; revert q; decide)) hE.1.1.2.2.2.2.2.2.2.2.2⟩
  obtain ⟨w', v', p1, p2, p3⟩ := n_games (d := d) (d' := d') (l5 := rounds) (l6 := games) (c := c) (way := way) (x := c * 4 + way) (l2 := 6 + r) hE hr rfl hR.1 hR.2 h99 hc ho hw rfl h9.2 games.toNat 0 wb vb (by omega) (by omega) hK ⟨by rw [v43, b2], by rw [b2]; omega⟩ ⟨by rw [v0', b7], by omega, by omega⟩ ⟨by rw [v1', b8], by omega, by omega⟩ ⟨by rw [v2', b9], by omega, by omega⟩
  refine ⟨w', v', ?_, ?_, p3⟩
  · rw [e_Night_play, hwb]
    exact p1
  · rw [e_M_sums, gd_t (by decide), gd_t (by decide), gd_t (by decide), hvb]
    exact p2
theorem n_finest {c way x y seed rounds games W : Int} {RX : Int → List clau} (hE : NE w0 v0 i j Cs) (hW : w0 10 0 6 = W ∧ v0 49 0 2 = W ∧ W ≤ 6) (hR : ∀ r, 0 ≤ r → r < W → Rru w0 r (RX r) ∧ Rru v0 r (RX r)) (h99 : 1 ≤ rounds ∧ rounds ≤ 99) (hc : c = y * 12 + x ∧ 0 ≤ x ∧ 0 ≤ y ∧ x < 12 ∧ y < 12) (ho : opw w0 i c) (hw : 0 ≤ way ∧ way < 4) (h9 : 1 ≤ games ∧ games ≤ 9) (hs : 0 ≤ seed ∧ seed ≤ 2147483647) : ∀ (m : Nat) (k best homes falls : Int) (w v : zW), 0 ≤ k → k + m = W → (best = -2 ∨ 0 ≤ best) → GK w0 v0 i Cs w v →
    ∃ q w' v', D_finest_5 (d + 7) seed rounds games (c * 4 + way) best homes falls k w = some (q, w') ∧ M_finest_7 (d' + 7) x y way seed rounds games best homes falls k v = some (q, v') ∧ GK w0 v0 i Cs w' v' := by
  intro m
  induction m with
  | zero =>
    intro k best homes falls w v h0 hm hb hK
    have w10 : w 10 0 6 = W := by rw [hK.1 10 (by decide)]; exact hW.1
    have v49 : v 49 0 2 = W := by rw [hK.2.2.1.1 49 (by decide) (by decide)]; exact hW.2.1
    exact ⟨best, w, v, by rw [e_D_finest_5, if_pos (by omega)], by rw [e_M_finest_7, gd_t (by decide), if_pos (by omega)], hK⟩
  | succ m ih =>
    intro k best homes falls w v h0 hm hb hK
    have w10 : w 10 0 6 = W := by rw [hK.1 10 (by decide)]; exact hW.1
    have v49 : v 49 0 2 = W := by rw [hK.2.2.1.1 49 (by decide) (by decide)]; exact hW.2.1
    have hE1 := GK_NE hE hK
    have how : opw w i c := by rw [opw_e (sameE_fr hK.1 (by decide))]; exact ho
    have hRk := hR k h0 (by omega)
    obtain ⟨w1, v1, p1, p2, p3, p4, p5, p6⟩ := n_sums (d := d) (d' := d') (r := k) (c := c) (way := way) (seed := seed) (rounds := rounds) (games := games) hE1 ⟨h0, by omega⟩ (GK_Ru hK hRk.1 hRk.2) h99 (by omega) how hw h9 hs
    have hK1 := GK_tr hK p3
    have take := ih (k + 1) k (w1 3 0 7) (w1 3 0 8) w1 v1 (by omega) (by omega) (Or.inr h0) hK1
    have skip := ih (k + 1) best homes falls w1 v1 (by omega) (by omega) hb hK1
    have hcx : 12 * y + x = c := by omega
    have D10 : D_finest_10 (d + 7) seed rounds games (c * 4 + way) k w1 = D_finest_5 (d + 7) seed rounds games (c * 4 + way) k (w1 3 0 7) (w1 3 0 8) (k + 1) w1 := by
      rw [e_D_finest_10, gd_t (by omega)]
    have M13 : M_finest_13 (d' + 7) x y way seed rounds games k v1 = M_finest_7 (d' + 7) x y way seed rounds games k (w1 3 0 7) (w1 3 0 8) (k + 1) v1 := by
      rw [e_M_finest_13, gd_t (by decide), gd_t (by decide), gd_t (by omega), p4, p5]
    have hD : D_finest_5 (d + 7) seed rounds games (c * 4 + way) best homes falls k w = if best = -2 ∨ homes < w1 3 0 7 ∨ (w1 3 0 7 = homes ∧ ¬ falls ≤ w1 3 0 8) then D_finest_5 (d + 7) seed rounds games (c * 4 + way) k (w1 3 0 7) (w1 3 0 8) (k + 1) w1 else D_finest_5 (d + 7) seed rounds games (c * 4 + way) best homes falls (k + 1) w1 := by
      rw [e_D_finest_5, if_neg (by omega), gd_t (by omega), p1, bnd]
      dsimp only
      rw [D10]
      by_cases g1 : best = -2
      · rw [if_pos g1, if_pos (Or.inl g1)]
      rw [if_neg g1]
      by_cases g2 : homes < w1 3 0 7
      · rw [if_pos g2, if_pos (Or.inr (Or.inl g2))]
      rw [if_neg g2]
      by_cases g3 : w1 3 0 7 = homes
      · rw [if_pos g3]
        by_cases g4 : falls ≤ w1 3 0 8
        · rw [if_pos g4, gd_t (by omega), if_neg (fun q => by rcases q with q | q | q; exact g1 q; exact g2 q; exact q.2 g4)]
        · rw [if_neg g4, if_pos (Or.inr (Or.inr ⟨g3, g4⟩))]
      · rw [if_neg g3, gd_t (by omega), if_neg (fun q => by rcases q with q | q | q; exact g1 q; exact g2 q; exact g3 q.1)]
    have hM : M_finest_7 (d' + 7) x y way seed rounds games best homes falls k v = if best = -2 ∨ homes < w1 3 0 7 ∨ (w1 3 0 7 = homes ∧ ¬ falls ≤ w1 3 0 8) then M_finest_7 (d' + 7) x y way seed rounds games k (w1 3 0 7) (w1 3 0 8) (k + 1) v1 else M_finest_7 (d' + 7) x y way seed rounds games best homes falls (k + 1) v1 := by
      rw [e_M_finest_7, gd_t (by decide), if_neg (by omega), gd_t (by omega), gd_t (by omega), hcx, p2, bnd]
      dsimp only
      rw [M13]
      by_cases g1 : best = -2
      · rw [if_pos (by omega), if_pos (Or.inl g1)]
      rw [if_neg (by omega), gd_t (by decide)]
      simp only [p4, p5]
      by_cases g2 : w1 3 0 7 < homes
      · rw [if_pos g2, gd_t (by omega), if_neg (by omega)]
      rw [if_neg g2, gd_t (by decide)]
      by_cases g3 : w1 3 0 7 = homes
      · rw [if_pos g3, gd_t (by decide)]
        by_cases g4 : w1 3 0 8 < falls
        · rw [if_pos g4, if_pos (by omega)]
        · rw [if_neg g4, gd_t (by omega), if_neg (by omega)]
      · rw [if_neg g3, if_pos (by omega)]
    rw [hD, hM]
    by_cases z : best = -2 ∨ homes < w1 3 0 7 ∨ (w1 3 0 7 = homes ∧ ¬ falls ≤ w1 3 0 8)
    · rw [if_pos z, if_pos z]
      exact take
    · rw [if_neg z, if_neg z]
      exact skip
end
