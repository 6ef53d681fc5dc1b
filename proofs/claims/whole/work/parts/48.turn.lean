/-! TURNS -/
def rc (G : Int → Int) (c s : Int) : Int → Int := fun j => if 4 * c ≤ j ∧ j < 4 * c + 4 then G (4 * c + (j - 4 * c + s) % 4) else G j
theorem rc_0 (G : Int → Int) (c : Int) : rc G c 0 = G := by
  funext j
  unfold rc
  by_cases h : 4 * c ≤ j ∧ j < 4 * c + 4
  · rw [if_pos h, show 4 * c + (j - 4 * c + 0) % 4 = j by omega]
  · rw [if_neg h]
theorem rc_rc (G : Int → Int) (c s : Int) : rc (rc G c s) c 3 = rc G c (s + 3) := by
  funext j
  unfold rc
  by_cases h : 4 * c ≤ j ∧ j < 4 * c + 4
  · rw [if_pos h, if_pos (by omega), if_pos h, show 4 * c + (4 * c + (j - 4 * c + 3) % 4 - 4 * c + s) % 4 = 4 * c + (j - 4 * c + (s + 3)) % 4 by omega]
  · rw [if_neg h, if_neg h, if_neg h]
theorem rc_4 (G : Int → Int) (c s : Int) : rc G c s = rc G c (s % 4) := by
  funext j
  unfold rc
  rw [show (j - 4 * c + s) % 4 = (j - 4 * c + s % 4) % 4 by omega]
theorem s_turn_3 {d : Nat} {o i k t c : Int} {w : zW} {G : Int → Int} (hc : 0 ≤ c ∧ c < 144) (hk : 0 ≤ k ∧ k < 144) (ht : 0 ≤ t ∧ t < 4) : ∀ (m : Nat) (l : Int), 0 ≤ l → l + m = t →
    Odds_turn_3 d o t i k (c * 4) l (z_row w 19 o (rc G c (3 * l))) = Odds_turn_1 d o t i (k + 1) (z_row w 19 o (rc G c (3 * t))) := by
  intro m
  induction m with
  | zero =>
    intro l hl hm
    rw [e_Odds_turn_3, if_pos (by omega), gd_t (by omega), show l = t by omega]
  | succ m ih =>
    intro l hl hm
    rw [e_Odds_turn_3, if_neg (by omega), gd_t (by omega), gd_t (by omega), gd_t (by omega), gd_t (by omega), gd_t (by omega), gd_t (by omega), gd_t (by omega), gd_t (by omega), gd_t (by omega), gd_t (by omega), gd_t (by omega), gd_t (by omega), gd_t (by omega), gd_t (by omega), gd_t (by omega)]
    have ih' := ih (l + 1) (by omega) (by omega)
    rw [← ih']
    simp only [row_up, row_h]
    have hrow : ∀ Q : Int → Int, upF (upF (upF (upF Q (c * 4 + 3) (Q (c * 4 + 2))) (c * 4 + 2) (upF Q (c * 4 + 3) (Q (c * 4 + 2)) (c * 4 + 1))) (c * 4 + 1) (upF (upF Q (c * 4 + 3) (Q (c * 4 + 2))) (c * 4 + 2) (upF Q (c * 4 + 3) (Q (c * 4 + 2)) (c * 4 + 1)) (c * 4))) (c * 4) (Q (c * 4 + 3)) = rc Q c 3 := fun Q => by
      funext j
      rw [upF_o (S := Q) (k := c * 4 + 3) (s := c * 4 + 1) (by omega), upF_o (k := c * 4 + 2) (s := c * 4) (by omega), upF_o (S := Q) (k := c * 4 + 3) (s := c * 4) (by omega)]
      unfold upF rc
      by_cases h0 : j = c * 4
      · rw [if_pos h0, if_pos (by omega), show 4 * c + (j - 4 * c + 3) % 4 = c * 4 + 3 by omega]
      rw [if_neg h0]
      by_cases h1 : j = c * 4 + 1
      · rw [if_pos h1, if_pos (by omega), show 4 * c + (j - 4 * c + 3) % 4 = c * 4 by omega]
      rw [if_neg h1]
      by_cases h2 : j = c * 4 + 2
      · rw [if_pos h2, if_pos (by omega), show 4 * c + (j - 4 * c + 3) % 4 = c * 4 + 1 by omega]
      rw [if_neg h2]
      by_cases h3 : j = c * 4 + 3
      · rw [if_pos h3, if_pos (by omega), show 4 * c + (j - 4 * c + 3) % 4 = c * 4 + 2 by omega]
      rw [if_neg h3, if_neg (by omega)]
    rw [hrow, rc_rc, show 3 * l + 3 = 3 * (l + 1) by omega]
def trn (P : Int → Prop) [∀ c, Decidable (P c)] (F : Int → Int) (s : Int) : Nat → (Int → Int)
  | 0 => F
  | n + 1 => if P n then rc (trn P F s n) n s else trn P F s n
theorem trn_fac {P : Int → Prop} [∀ c, Decidable (P c)] {F : Int → Int} {s : Int} {n m : Nat} (h : n ≤ m) (hc : cn P n = cn P m) : trn P F s n = trn P F s m := by
  induction h with
  | refl => rfl
  | step h ih =>
    next m' =>
    have h1 := cn_mono (P := P) (m := n) (n := m') h
    have h2' : cn P (Nat.succ m') = if P m' then cn P m' + 1 else cn P m' := rfl
    by_cases hp : P m'
    · rw [h2', if_pos hp] at hc; omega
    · rw [h2', if_neg hp] at hc
      rw [ih hc]
      show _ = if P m' then _ else _
      rw [if_neg hp]
theorem trn_at {P : Int → Prop} [∀ c, Decidable (P c)] {F : Int → Int} {s : Int} : ∀ (n : Nat) (j : Int), 0 ≤ j → trn P F s n j = if j / 4 < n ∧ P (j / 4) then F (4 * (j / 4) + (j % 4 + s) % 4) else F j := by
  intro n
  induction n with
  | zero =>
    intro j hj
    rw [if_neg (by omega)]
    rfl
  | succ n ih =>
    intro j hj
    show (if P n then rc (trn P F s n) n s else trn P F s n : Int → Int) j = _
    by_cases hp : P n
    · rw [if_pos hp]
      unfold rc
      by_cases h : 4 * (n : Int) ≤ j ∧ j < 4 * (n : Int) + 4
      · have hjn : j / 4 = n := by omega
        rw [if_pos h, ih _ (by omega), if_neg (by omega), hjn, if_pos ⟨by omega, hp⟩, show (j - 4 * (n : Int) + s) % 4 = (j % 4 + s) % 4 by omega]
      · rw [if_neg h, ih j hj]
        by_cases q : j / 4 < n ∧ P (j / 4)
        · rw [if_pos q, if_pos ⟨by omega, q.2⟩]
        · rw [if_neg q, if_neg (fun z => q ⟨by omega, z.2⟩)]
    · rw [if_neg hp, ih j hj]
      by_cases q : j / 4 < n ∧ P (j / 4)
      · rw [if_pos q, if_pos ⟨by omega, q.2⟩]
      · rw [if_neg q, if_neg (fun z => by
          by_cases e : j / 4 = n
          · rw [e] at z; exact hp z.2
          · exact q ⟨by omega, z.2⟩)]
/-- all look another way -/
def rot (s : Int) (F : Int → Int) : Int → Int := fun j => F (4 * (j / 4) + (j % 4 + s) % 4)
theorem s_turn_1 {d : Nat} {o i t : Int} {w : zW} {F : Int → Int} (hW : WO w i) (ht : 0 ≤ t ∧ t < 4) : ∀ (m k n : Nat), (k : Int) + m = w 9 i 13 → n ≤ 144 → cn (opw w i) n = k →
    Odds_turn_1 d o t i k (z_row w 19 o (trn (opw w i) F (3 * t) n)) = some (0, z_row w 19 o (trn (opw w i) F (3 * t) 144)) := by
  intro m
  induction m with
  | zero =>
    intro k n hk hn1 hcn
    have h1 := hW.1
    have hfac := trn_fac (P := opw w i) (F := F) (s := 3 * t) (n := n) (m := 144) hn1 (by omega)
    rw [e_Odds_turn_1, row_c (by decide), if_pos (by omega), hfac]
  | succ m ih =>
    intro k n hk hn1 hcn
    obtain ⟨c, hc, ho, hcc, hl⟩ := hW.at (k := k) (by omega)
    have hlen := hW.len
    have hX : trn (opw w i) F (3 * t) n = trn (opw w i) F (3 * t) c := by
      rcases Nat.le_total n c with q | q
      · exact trn_fac q (by omega)
      · exact (trn_fac q (by omega)).symm
    have hs : trn (opw w i) F (3 * t) (c + 1) = rc (trn (opw w i) F (3 * t) c) c (3 * t) := by
      show (if opw w i c then _ else _) = _
      rw [if_pos ho]
    have hcn1 : cn (opw w i) (c + 1) = k + 1 := by
      show (if opw w i c then _ else _) = _
      rw [if_pos ho, hcc]
    have h3 := s_turn_3 (d := d) (o := o) (i := i) (k := k) (t := t) (c := (c : Int)) (w := w) (G := trn (opw w i) F (3 * t) c) (by omega) (by omega) ht t.toNat 0 (by omega) (by omega)
    rw [show 3 * (0 : Int) = 0 by omega, rc_0, ← hs] at h3
    rw [hX, e_Odds_turn_1, row_c (by decide), if_neg (by omega), gd_t (by omega), row_c (by decide), hl, gd_t (by omega), h3]
    exact ih (k + 1) (c + 1) (by omega) (by omega) hcn1
theorem s_turn {d : Nat} {o i t : Int} {w : zW} (hW : WO w i) (hC : wtC w i (w 19 o)) (ht : 0 ≤ t ∧ t < 4) : ∃ w', Odds_turn d o t i w = some (0, w') ∧ z_fr [19] w w' ∧ (∀ o', o' ≠ o → w' 19 o' = w 19 o') ∧ eqR (w' 19 o) (rot (3 * t) (w 19 o)) := by
  have h := s_turn_1 (d := d) (o := o) (i := i) (t := t) (w := w) (F := w 19 o) hW ht (w 9 i 13).toNat 0 0 (by have := hW.len; omega) (by omega) rfl
  have h0 : trn (opw w i) (w 19 o) (3 * t) 0 = w 19 o := rfl
  rw [h0, row_self] at h
  refine ⟨z_row w 19 o (trn (opw w i) (w 19 o) (3 * t) 144), ?_, fr_row (by decide), fun o' ho => ?_, fun k k0 k1 => ?_⟩
  · rw [e_Odds_turn]; exact h
  · funext s; exact row_i ho
  · rw [row_h, trn_at 144 k k0]
    unfold rot
    by_cases q : k / 4 < ((144 : Nat) : Int) ∧ opw w i (k / 4)
    · rw [if_pos q]
    · have hcl : ¬ opw w i (k / 4) := fun z => q ⟨by omega, z⟩
      obtain ⟨c, hc⟩ : ∃ c : Nat, k / 4 = c := ⟨(k / 4).toNat, by omega⟩
      rw [hc] at hcl
      rw [if_neg q, hc, hC c (by omega) hcl k (by omega) (by omega), hC c (by omega) hcl _ (by omega) (by omega)]
