/-- all the cells, along the list -/
theorem s_go_1 {d : Nat} {o i e dr : Int} {w : zW} {A X0 : Int → Int} (hi : w 7 0 0 = i) (hW : WO w i) (hn : nxB (w 39 i)) (hf : ∀ k, 0 ≤ k → k < 576 → 0 ≤ w 19 o k) (hT : tot (w 19 o) ≤ 1000000000) (hC : wtC w i (w 19 o)) (he : w 4 o 3 = e) (he2 : 0 ≤ e ∧ e ≤ 30) (hA : ∀ c : Nat, c < 144 → opw w i c → w 26 0 (e * 144 + c) = A c) (hA2 : ∀ c : Nat, c < 144 → opw w i c → 0 ≤ A c ∧ A c ≤ 1000) (hdr : w 2 (w 7 0 1) 1 = dr) (hd : 0 ≤ dr) (h0 : okX X0 0) : ∀ (m k n : Nat), (k : Int) + m = w 9 i 13 → n ≤ 144 → cn (opw w i) n = k →
    Odds_go_1 (d + 1) o i k (z_row w 25 0 (goF (opw w i) (w 19 o) (w 39 i) A dr X0 n)) = some (0, z_cpy (z_row w 25 0 (goF (opw w i) (w 19 o) (w 39 i) A dr X0 144)) 25 0 0 19 o 0 576) := by
  intro m
  induction m with
  | zero =>
    intro k n hk hn1 hcn
    have h1 := hW.1
    have hfac := goF_fac (P := opw w i) (F := w 19 o) (nx := w 39 i) (A := A) (X := X0) (dr := dr) (n := n) (m := 144) hn1 (by omega)
    rw [e_Odds_go_1, row_c (by decide), if_pos (by omega), gd_t (by decide), hfac]
  | succ m ih =>
    intro k n hk hn1 hcn
    obtain ⟨c, hc, ho, hcc, hl⟩ := hW.at (k := k) (by omega)
    have hlen := hW.len
    have hX : goF (opw w i) (w 19 o) (w 39 i) A dr X0 n = goF (opw w i) (w 19 o) (w 39 i) A dr X0 c := by
      rcases Nat.le_total n c with q | q
      · exact goF_fac q (by omega)
      · exact (goF_fac q (by omega)).symm
    have hs : goF (opw w i) (w 19 o) (w 39 i) A dr X0 (c + 1) = go4 (w 19 o) (w 39 i) (A c) (drf dr (A c)) c 4 0 (goF (opw w i) (w 19 o) (w 39 i) A dr X0 c) := by
      show (if opw w i c then _ else _) = _
      rw [if_pos ho]
    have hcn1 : cn (opw w i) (c + 1) = k + 1 := by
      show (if opw w i c then _ else _) = _
      rw [if_pos ho, hcc]
    have hac := hA c hc ho
    have hac2 := hA2 c hc ho
    have had := drf_ad hd hac2
    have hok := goF_ok (P := opw w i) (F := w 19 o) (nx := w 39 i) (A := A) (dr := dr) h0 hn hf hA2 hd hC c (by omega)
    have h3 := s_go_3 (d := d) (o := o) (i := i) (k := k) (w := w) hc hn hf hT had (by omega) 4 0 _ rfl hok
    rw [hX, e_Odds_go_1, row_c (by decide), if_neg (by omega), gd_t (by omega), row_c (by decide), hl, s_aheadAt (by omega) (by rw [row_c (by decide), he]; exact he2), bnd]
    dsimp only
    rw [row_c (by decide), row_c (by decide), he, hac, s_asideBy hac2, bnd]
    dsimp only
    rw [row_c (by decide), row_c (by decide), hdr]
    refine h3.trans ?_
    rw [show ((0 : Nat) : Int) = 0 from rfl, ← hs]
    exact ih (k + 1) (c + 1) (by omega) (by omega) hcn1
theorem s_go {d : Nat} {o i e dr : Int} {w : zW} {A : Int → Int} (hi : w 7 0 0 = i) (hW : WO w i) (hn : nxB (w 39 i)) (hf : ∀ k, 0 ≤ k → k < 576 → 0 ≤ w 19 o k) (hT : tot (w 19 o) ≤ 1000000000) (hC : wtC w i (w 19 o)) (he : w 4 o 3 = e) (he2 : 0 ≤ e ∧ e ≤ 30) (hA : ∀ c : Nat, c < 144 → opw w i c → w 26 0 (e * 144 + c) = A c) (hA2 : ∀ c : Nat, c < 144 → opw w i c → 0 ≤ A c ∧ A c ≤ 1000) (hdr : w 2 (w 7 0 1) 1 = dr) (hd : 0 ≤ dr) :
    ∃ w', Odds_go (d + 1) o w = some (0, w') ∧ z_fr [19, 25] w w' ∧ (∀ o', o' ≠ o → w' 19 o' = w 19 o') ∧ eqR (w' 19 o) (goF (opw w i) (w 19 o) (w 39 i) A dr (fun _ => 0) 144) := by
  have hz : okX (flF (w 25 0) 0 (z_ln 25) 0) 0 := by
    have hq : eqR (flF (w 25 0) 0 (z_ln 25) 0) (fun _ => 0) := fun k h0 h1 => if_pos ⟨h0, h1⟩
    refine ⟨fun k h0 h1 => by rw [hq k h0 h1]; exact Int.le_refl 0, ?_⟩
    exact (sm_congr (f := flF (w 25 0) 0 (z_ln 25) 0) (g := fun _ => 0) fun k hk => hq k (by omega) (by omega)).trans sm_zero
  have h1 := s_go_1 (d := d) (o := o) (A := A) hi hW hn hf hT hC he he2 hA hA2 hdr hd hz (w 9 i 13).toNat 0 0 (by have := hW.len; omega) (by omega) rfl
  refine ⟨z_cpy (z_row w 25 0 (goF (opw w i) (w 19 o) (w 39 i) A dr (flF (w 25 0) 0 (z_ln 25) 0) 144)) 25 0 0 19 o 0 576, ?_, ?_, ?_, ?_⟩
  · rw [e_Odds_go, s_fillL rfl (by decide), bnd, hi]
    exact h1
  · exact fr_tr (fr_row (by decide)) (fr_cpy (by decide))
  · intro o' ho
    funext s
    rw [cpy_i ho, row_c (by decide)]
  · intro k h0 h1
    rw [cpy_in ⟨h0, by omega⟩, row_h, show 0 + (k - 0) = k by omega]
    exact goF_eqR (fun c _ => Iff.rfl) (fun c _ _ => rfl) (fun k _ _ => rfl) (fun k _ _ => rfl) (fun k h0 h1 => if_pos ⟨h0, h1⟩) 144 (by omega) k h0 h1
