theorem s_weigh_1 {d : Nat} {o i : Int} {w : zW} {X0 : Int → Int} (hW : WO w i) (hf : wtB (w 19 o)) (hC : wtC w i (w 19 o)) (hch : ∀ c : Nat, c < 144 → opw w i c → 0 ≤ w 24 0 c ∧ w 24 0 c ≤ 1000) (hS : ∀ q : Nat, q ≤ 576 → 0 ≤ sm (wgt (w 19 o) (w 24 0)) q ∧ sm (wgt (w 19 o) (w 24 0)) q ≤ 576000000000) : ∀ (m k n : Nat), (k : Int) + m = w 9 i 13 → n ≤ 144 → cn (opw w i) n = k →
    Odds_weigh_1 (d + 1) o i (sm (wgt (w 19 o) (w 24 0)) (4 * n)) k (z_row w 25 0 (wq (opw w i) (w 19 o) (w 24 0) X0 (4 * n))) = if 0 < sm (wgt (w 19 o) (w 24 0)) 576 then Odds_weigh_9 (d + 1) o (sm (wgt (w 19 o) (w 24 0)) 576) 0 (z_row w 25 0 (wq (opw w i) (w 19 o) (w 24 0) X0 576)) else some (0, z_row w 25 0 (wq (opw w i) (w 19 o) (w 24 0) X0 576)) := by
  intro m
  induction m with
  | zero =>
    intro k n hk hn1 hcn
    have h1 := hW.1
    have hfac := wq_fac (P := opw w i) (F := w 19 o) (ch := w 24 0) (X0 := X0) (n := n) (m := 144) hn1 (by omega)
    have hsf := ws_fac (P := opw w i) (F := w 19 o) (ch := w 24 0) hC (n := n) (m := 144) hn1 (by omega) (by omega)
    rw [show (4 * ((144 : Nat) : Int)) = 576 by omega] at hfac
    rw [show 4 * 144 = 576 by omega] at hsf
    rw [e_Odds_weigh_1, row_c (by decide), if_pos (by omega), hfac, hsf, gd_t (by decide)]
  | succ m ih =>
    intro k n hk hn1 hcn
    obtain ⟨c, hc, ho, hcc, hl⟩ := hW.at (k := k) (by omega)
    have hlen := hW.len
    have hX : wq (opw w i) (w 19 o) (w 24 0) X0 (4 * n) = wq (opw w i) (w 19 o) (w 24 0) X0 (4 * c) := by
      rcases Nat.le_total n c with q | q
      · exact wq_fac q (by omega)
      · exact (wq_fac q (by omega)).symm
    have hsX : sm (wgt (w 19 o) (w 24 0)) (4 * n) = sm (wgt (w 19 o) (w 24 0)) (4 * c) := by
      rcases Nat.le_total n c with q | q
      · exact ws_fac (P := opw w i) hC q (by omega) (by omega)
      · exact (ws_fac (P := opw w i) hC q (by omega) (by omega)).symm
    have hcn1 : cn (opw w i) (c + 1) = k + 1 := by
      show (if opw w i c then _ else _) = _
      rw [if_pos ho, hcc]
    have h3 := s_weigh_3 (d := d) (o := o) (i := i) (k := k) (X0 := X0) hc ho hf (by omega) (hch c hc ho) hS 4 (4 * c) (by omega) (Nat.le_refl _)
    rw [show ((4 * c : Nat) : Int) = 4 * (c : Int) by omega] at h3
    rw [hX, hsX, e_Odds_weigh_1, row_c (by decide), if_neg (by omega), gd_t (by omega), row_c (by decide), hl, gd_t (by omega), Int.mul_comm (c : Int) 4, h3]
    exact ih (k + 1) (c + 1) (by omega) (by omega) hcn1
/-- made anew: each times a thousand million by the sum -/
def nrm (Y : Int → Int) (S : Int) : Int → Int := fun k => Y k * 1000000000 / S
theorem s_weigh_9 {d : Nat} {o S : Int} {w : zW} (hS : 0 < S) (hY : ∀ k, 0 ≤ k → k < 576 → 0 ≤ w 25 0 k ∧ w 25 0 k ≤ 1000000000) : ∀ m n : Nat, n + m = 576 →
    Odds_weigh_9 d o S n (z_row w 19 o (fun k => if 0 ≤ k ∧ k < (n : Int) then nrm (w 25 0) S k else w 19 o k)) = some (1, z_row w 19 o (fun k => if 0 ≤ k ∧ k < 576 then nrm (w 25 0) S k else w 19 o k)) := by
  intro m
  induction m with
  | zero =>
    intro n hn
    rw [e_Odds_weigh_9, if_pos (by omega), gd_t (by decide), show (n : Int) = 576 by omega]
  | succ m ih =>
    intro n hn
    have hy := hY n (by omega) (by omega)
    have ih' := ih (n + 1) (by omega)
    rw [← ih', e_Odds_weigh_9, if_neg (by omega), gd_t (by omega), row_c (by decide), gd_t (by omega), gd_t (by omega), gd_t (by omega), gd_t (by omega), row_up]
    have hu : upF (fun k => if 0 ≤ k ∧ k < (n : Int) then nrm (w 25 0) S k else w 19 o k) n (w 25 0 n * 1000000000 / S) = fun k => if 0 ≤ k ∧ k < ((n + 1 : Nat) : Int) then nrm (w 25 0) S k else w 19 o k := by
      funext k
      unfold upF
      by_cases h : k = n
      · rw [if_pos h, if_pos (by omega), h]
        rfl
      · rw [if_neg h]
        dsimp only
        by_cases z : 0 ≤ k ∧ k < (n : Int)
        · rw [if_pos z, if_pos (by omega)]
        · rw [if_neg z, if_neg (by omega)]
    rw [hu]
    rfl
