/-! THE CACHE: what a law tells of each cell, for each of the eyes -/
abbrev eqC (f g : Int → Int) : Prop := ∀ c, 0 ≤ c → c < 144 → f c = g c
def cA (w : zW) (i e : Int) (Cs : List clau) : Int → Int := fun c => ahd (w 33 i) (w 35 i) (w 36 i) (w 37 i) Cs c e
/-- what is ready is right -/
def RC (w : zW) (i : Int) (Cs : List clau) : Prop := ∀ e, 0 ≤ e → e ≤ 30 → w 27 0 e ≠ 0 → ∀ c : Nat, c < 144 → opw w i c → w 26 0 (e * 144 + c) = cA w i e Cs c
theorem clC_fr {w w' : zW} {ci k : Int} {C : clau} (h13 : w' 13 = w 13) (h14 : w' 14 = w 14) (h15 : w' 15 = w 15) (h16 : w' 16 = w 16) (h : clC w ci k C) : clC w' ci k C := by
  unfold clC at *
  rw [h13, h14, h15, h16]
  exact h
theorem ClC_fr {w w' : zW} {ci : Int} (h1 : w' 1 = w 1) (h13 : w' 13 = w 13) (h14 : w' 14 = w 14) (h15 : w' 15 = w 15) (h16 : w' 16 = w 16) : ∀ (Cs : List clau) (k : Int), ClC w ci k Cs → ClC w' ci k Cs := by
  intro Cs
  induction Cs with
  | nil =>
    intro k h
    show w' 1 ci 6 = k
    rw [h1]
    exact h
  | cons C Cs ih =>
    intro k h
    exact ⟨clC_fr h13 h14 h15 h16 h.1, ih (k + 1) h.2⟩
theorem cn_at {P : Int → Prop} [∀ c, Decidable (P c)] {c n : Nat} (ho : P c) (h : cn P n = cn P c) : n ≤ c := by
  rcases Nat.lt_or_ge c n with q | q
  · have := cn_lt (P := P) q ho
    omega
  · exact q
theorem cn_mid {P : Int → Prop} [∀ c, Decidable (P c)] {c n x : Nat} (hx : P x) (h : cn P n = cn P c) (h1 : n ≤ x) : ¬ x < c := fun q => by
  have h2 := cn_lt (P := P) q hx
  have h3 := cn_mono (P := P) h1
  omega
theorem s_ready_3 {d : Nat} {e i j : Int} {w : zW} {Cs : List clau} (hi : w 7 0 0 = i) (hj : w 7 0 1 = j) (hW : WO w i) (hC : ClC w j 0 Cs) (hT : ∀ C ∈ Cs, clT 5 C) (h12 : Cs.length ≤ 12) (he : 0 ≤ e ∧ e ≤ 30) : ∀ (m k n : Nat) (w1 : zW), (k : Int) + m = w 9 i 13 → n ≤ 144 → cn (opw w i) n = k → z_fr [17, 26, 28] w w1 → (∀ s, s < e * 144 ∨ e * 144 + 144 ≤ s → w1 26 0 s = w 26 0 s) → (∀ c : Nat, c < n → opw w i c → w1 26 0 (e * 144 + c) = cA w i e Cs c) →
    ∃ w2, Setting_ready_3 (d + 2) e k w1 = some (0, w2) ∧ z_fr [17, 26, 28] w w2 ∧ (∀ s, s < e * 144 ∨ e * 144 + 144 ≤ s → w2 26 0 s = w 26 0 s) ∧ (∀ c : Nat, c < 144 → opw w i c → w2 26 0 (e * 144 + c) = cA w i e Cs c) := by
  intro m
  induction m with
  | zero =>
    intro k n w1 hk hn hcn hf ho hin
    have h1 := hW.1
    have r7 := hf 7 (by decide)
    have r9 := hf 9 (by decide)
    refine ⟨w1, ?_, hf, ho, fun c hc hp => hin c ?_ hp⟩
    · rw [e_Setting_ready_3, r7, r9, hi, if_pos (by omega)]
    · have := cn_lt (P := opw w i) hc hp
      rcases Nat.lt_or_ge c n with q | q
      · exact q
      · have := cn_mono (P := opw w i) q
        omega
  | succ m ih =>
    intro k n w1 hk hn hcn hf ho hin
    obtain ⟨c, hc, hop, hcc, hl⟩ := hW.at (k := k) (by omega)
    have hlen := hW.len
    have hnc := cn_at (P := opw w i) hop (n := n) (by omega)
    have r7 := hf 7 (by decide)
    have r9 := hf 9 (by decide)
    have r40 := hf 40 (by decide)
    have r33 := hf 33 (by decide)
    have r35 := hf 35 (by decide)
    have r36 := hf 36 (by decide)
    have r37 := hf 37 (by decide)
    rw [e_Setting_ready_3, r7, r9, r40, r33, r35, r36, r37, hi, hj, hl, if_neg (by omega)]
    generalize hW5 : z_up (z_up (z_up (z_up (z_up w1 28 0 0 (w 33 i c)) 28 0 1 (w 35 i c)) 28 0 2 (w 36 i c)) 28 0 3 (w 37 i c)) 28 0 4 e = W5
    have hf5 : z_fr [17, 26, 28] w1 W5 := by
      rw [← hW5]
      exact fr_tr (fr_tr (fr_tr (fr_tr (fr_up (by decide)) (fr_up (by decide))) (fr_up (by decide))) (fr_up (by decide))) (fr_up (by decide))
    have hf6 := fr_tr hf hf5
    have h26 : W5 26 = w1 26 := by
      funext a b
      rw [← hW5, up_c (by decide), up_c (by decide), up_c (by decide), up_c (by decide), up_c (by decide)]
    have hwd : ∀ q, 0 ≤ q → q < 5 → W5 28 0 q = wds (w 33 i) (w 35 i) (w 36 i) (w 37 i) c e q := fun q q0 q1 => by
      have : q = 0 ∨ q = 1 ∨ q = 2 ∨ q = 3 ∨ q = 4 := by omega
      rw [← hW5]
      rcases this with rfl | rfl | rfl | rfl | rfl
      · rw [up_s (by decide), up_s (by decide), up_s (by decide), up_s (by decide), up_h]; rfl
      · rw [up_s (by decide), up_s (by decide), up_s (by decide), up_h]; rfl
      · rw [up_s (by decide), up_s (by decide), up_h]; rfl
      · rw [up_s (by decide), up_h]; rfl
      · rw [up_h]; rfl
    have hV : firstV (W5 28 0) 900 Cs = firstV (wds (w 33 i) (w 35 i) (w 36 i) (w 37 i) c e) 900 Cs := firstV_W hwd Cs hT
    obtain ⟨S', hcl⟩ := c_firstOf (d := d) (df := 900) (k3 := 28) (w := W5) (ci := j) (Cs := Cs) (Or.inr rfl) (ClC_fr (hf6 1 (by decide)) (hf6 13 (by decide)) (hf6 14 (by decide)) (hf6 15 (by decide)) (hf6 16 (by decide)) Cs 0 hC) hT h12
    rw [hcl, bnd, hV]
    dsimp only
    have hval : max 0 (min 1000 (firstV (wds (w 33 i) (w 35 i) (w 36 i) (w 37 i) c e) 900 Cs)) = cA w i e Cs c := rfl
    rw [hval]
    have hb : 0 ≤ cA w i e Cs c ∧ cA w i e Cs c ≤ 1000 := ahd_bd
    simp (disch := omega) only [gd_t]
    have hcn1 : cn (opw w i) (c + 1) = k + 1 := by
      show (if opw w i c then _ else _) = _
      rw [if_pos hop, hcc]
    refine ih (k + 1) (c + 1) _ (by omega) (by omega) hcn1 (fr_tr hf6 (fr_tr (fr_row (by decide)) (fr_up (by decide)))) (fun s hs => ?_) (fun x hx hp => ?_)
    · rw [up_s (by omega), row_c (by decide), h26]
      exact ho s hs
    · by_cases q : x = c
      · rw [q, up_h]
      · rw [up_s (by omega), row_c (by decide), h26]
        refine hin x ?_ hp
        rcases Nat.lt_or_ge x n with z | z
        · exact z
        · exact absurd (by omega) (cn_mid (P := opw w i) hp (n := n) (c := c) (by omega) z)
theorem s_ready {d : Nat} {e i j : Int} {w : zW} {Cs : List clau} (hi : w 7 0 0 = i) (hj : w 7 0 1 = j) (hW : WO w i) (hC : ClC w j 0 Cs) (hT : ∀ C ∈ Cs, clT 5 C) (h12 : Cs.length ≤ 12) (he : 0 ≤ e ∧ e ≤ 30) (hR : RC w i Cs) :
    ∃ w', Setting_ready (d + 2) e w = some (0, w') ∧ z_fr [17, 26, 27, 28] w w' ∧ RC w' i Cs ∧ w' 27 0 e ≠ 0 := by
  rw [e_Setting_ready, gd_t (by omega)]
  by_cases h : w 27 0 e = 0
  · rw [if_pos h, gd_t (by omega), gd_t (by omega)]
    have hf : z_fr [27] w (z_up w 27 0 e 1) := fr_up (by decide)
    have hop : ∀ c, opw (z_up w 27 0 e 1) i c ↔ opw w i c := fun c => Iff.rfl
    obtain ⟨w2, q1, q2, q3, q4⟩ := s_ready_3 (d := d) (e := e) (w := z_up w 27 0 e 1) (i := i) (j := j) (Cs := Cs) hi hj hW (ClC_fr (hf 1 (by decide)) (hf 13 (by decide)) (hf 14 (by decide)) (hf 15 (by decide)) (hf 16 (by decide)) Cs 0 hC) hT h12 he (w 9 i 13).toNat 0 0 (z_up w 27 0 e 1) (by
      have := hW.len
      show ((0 : Nat) : Int) + _ = w 9 i 13
      omega) (by omega) rfl (fr_rf _ _) (fun _ _ => rfl) (fun c hc _ => absurd hc (Nat.not_lt_zero _))
    have hf2 : z_fr [17, 26, 27, 28] w w2 := fr_tr (fr_sub hf (by decide)) (fr_sub q2 (by decide))
    have r27 := q2 27 (by decide)
    have r9 := hf2 9 (by decide)
    have r34 := hf2 34 (by decide)
    have hcA : ∀ e' (c : Int), cA w2 i e' Cs c = cA w i e' Cs c := fun e' c => by
      unfold cA
      rw [hf2 33 (by decide), hf2 35 (by decide), hf2 36 (by decide), hf2 37 (by decide)]
    refine ⟨w2, q1, hf2, fun e' e0 e1 hn c hc ho => ?_, ?_⟩
    · have ho' : opw w i c := by
        unfold opw at ho ⊢
        rw [r9, r34] at ho
        exact ho
      rw [hcA]
      by_cases z : e' = e
      · rw [z]
        exact q4 c hc ho'
      · rw [q3 _ (by omega)]
        refine hR e' e0 e1 ?_ c hc ho'
        rw [r27, up_s z] at hn
        exact hn
    · rw [r27, up_h]
      decide
  · rw [if_neg h]
    exact ⟨w, rfl, fr_rf _ _, hR, h⟩
