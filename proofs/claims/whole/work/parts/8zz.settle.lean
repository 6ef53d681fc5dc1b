/-! a wood settled, in both -/
theorem openAt_c {C R : Int} {wall : Int → Int} {c : Nat} (hw : isB (wall c)) : (openAt C R wall ((c : Int) % 12) ((c : Int) / 12) = -1 ↔ ¬ opn C R wall c) := by
  unfold openAt
  rw [show (c : Int) / 12 * 12 + (c : Int) % 12 = c by omega]
  by_cases h : (0 : Int) ≤ (c : Int) % 12 ∧ 0 ≤ (c : Int) / 12 ∧ (c : Int) % 12 < C ∧ (c : Int) / 12 < R ∧ ¬ wall c = 1
  · rw [if_pos h]
    refine ⟨fun q => by omega, fun q => absurd ?_ q⟩
    exact ⟨h.2.2.1, h.2.2.2.1, by rcases hw with z | z; exact z; exact absurd z h.2.2.2.2⟩
  · rw [if_neg h]
    refine ⟨fun _ q => h ?_, fun _ => rfl⟩
    obtain ⟨q1, q2, q3⟩ := q
    exact ⟨by omega, by omega, q1, q2, by rw [q3]; decide⟩
def SI (w0 : zW) (i : Int) (c : Nat) (w : zW) : Prop := z_fr [9, 39, 40] w0 w ∧ (∀ q, q ≠ i → w 9 q = w0 9 q ∧ w 39 q = w0 39 q ∧ w 40 q = w0 40 q) ∧ (∀ s, s ≠ 13 → w 9 i s = w0 9 i s) ∧ w 9 i 13 = cn (opw w0 i) c ∧ (∀ a : Nat, a < c → opw w0 i a → w 40 i (cn (opw w0 i) a) = a) ∧ ∀ k : Int, 0 ≤ k → k < 4 * c → w 39 i k = nbr (w0 9 i 0) (w0 9 i 1) (w0 34 i) k
section
variable {d : Nat} {i : Int} {w0 : zW}
theorem SI_9 {c : Nat} {w : zW} (h : SI w0 i c w) : w 9 i 0 = w0 9 i 0 ∧ w 9 i 1 = w0 9 i 1 ∧ w 34 i = w0 34 i := ⟨h.2.2.1 0 (by decide), h.2.2.1 1 (by decide), by rw [h.1 34 (by decide)]⟩
/-- the four cells beside -/
theorem s_settle_4 {c : Nat} {w : zW} (hC : w0 9 i 0 ≤ 12) (hR : w0 9 i 1 ≤ 12) (hc : c < 144) (h9 : w 9 i 0 = w0 9 i 0 ∧ w 9 i 1 = w0 9 i 1 ∧ w 34 i = w0 34 i) (hf : z_fr [9, 39, 40] w0 w) (hq : ∀ q, q ≠ i → w 9 q = w0 9 q ∧ w 39 q = w0 39 q ∧ w 40 q = w0 40 q) (hs : ∀ s, s ≠ 13 → w 9 i s = w0 9 i s) (h13 : w 9 i 13 = cn (opw w0 i) (c + 1)) (hl : ∀ a : Nat, a < c + 1 → opw w0 i a → w 40 i (cn (opw w0 i) a) = a) (hn : ∀ k : Int, 0 ≤ k → k < 4 * c → w 39 i k = nbr (w0 9 i 0) (w0 9 i 1) (w0 34 i) k) :
    ∃ w', Wood_settle_4 (d + 2) i c ((c : Int) % 12) ((c : Int) / 12) w = Wood_settle_1 (d + 2) i ((c : Int) + 1) w' ∧ SI w0 i (c + 1) w' := by
  have op : ∀ (x y : Int) (v : zW), v 9 i 0 = w0 9 i 0 ∧ v 9 i 1 = w0 9 i 1 ∧ v 34 i = w0 34 i → Wood_openAt (d + 1) i x y v = some (openAt (w0 9 i 0) (w0 9 i 1) (w0 34 i) x y, v) := fun x y v hv => by
    rw [s_openAt (by rw [hv.1]; exact hC) (by rw [hv.2.1]; exact hR), hv.1, hv.2.1, hv.2.2]
  have up9 : ∀ (v : zW) (s x : Int), v 9 i 0 = w0 9 i 0 ∧ v 9 i 1 = w0 9 i 1 ∧ v 34 i = w0 34 i → (z_up v 39 i s x) 9 i 0 = w0 9 i 0 ∧ (z_up v 39 i s x) 9 i 1 = w0 9 i 1 ∧ (z_up v 39 i s x) 34 i = w0 34 i := fun v s x hv => by
    refine ⟨by rw [up_c (by decide)]; exact hv.1, by rw [up_c (by decide)]; exact hv.2.1, ?_⟩
    rw [← hv.2.2]
    funext y
    exact up_c (by decide)
  have k1 := up9 w ((c : Int) * 4) (openAt (w0 9 i 0) (w0 9 i 1) (w0 34 i) ((c : Int) % 12) ((c : Int) / 12 - 1)) h9
  have k2 := up9 _ ((c : Int) * 4 + 1) (openAt (w0 9 i 0) (w0 9 i 1) (w0 34 i) ((c : Int) % 12 + 1) ((c : Int) / 12)) k1
  have k3 := up9 _ ((c : Int) * 4 + 2) (openAt (w0 9 i 0) (w0 9 i 1) (w0 34 i) ((c : Int) % 12) ((c : Int) / 12 + 1)) k2
  refine ⟨z_up (z_up (z_up (z_up w 39 i ((c : Int) * 4) (openAt (w0 9 i 0) (w0 9 i 1) (w0 34 i) ((c : Int) % 12) ((c : Int) / 12 - 1))) 39 i ((c : Int) * 4 + 1) (openAt (w0 9 i 0) (w0 9 i 1) (w0 34 i) ((c : Int) % 12 + 1) ((c : Int) / 12))) 39 i ((c : Int) * 4 + 2) (openAt (w0 9 i 0) (w0 9 i 1) (w0 34 i) ((c : Int) % 12) ((c : Int) / 12 + 1))) 39 i ((c : Int) * 4 + 3) (openAt (w0 9 i 0) (w0 9 i 1) (w0 34 i) ((c : Int) % 12 - 1) ((c : Int) / 12)), ?_, fr_tr hf (fr_tr (fr_tr (fr_tr (fr_up (by decide)) (fr_up (by decide))) (fr_up (by decide))) (fr_up (by decide))), fun q hqi => ?_, fun s s13 => ?_, ?_, fun a ha hP => ?_, fun k k0 k4 => ?_⟩
  · rw [e_Wood_settle_4, gd_t (by omega), gd_t (by omega), op _ _ w h9, bnd]
    dsimp only
    rw [gd_t (by omega), gd_t (by omega), gd_t (by omega), gd_t (by omega), op _ _ _ k1, bnd]
    dsimp only
    rw [gd_t (by omega), gd_t (by omega), gd_t (by omega), gd_t (by omega), op _ _ _ k2, bnd]
    dsimp only
    rw [gd_t (by omega), gd_t (by omega), gd_t (by omega), gd_t (by omega), op _ _ _ k3, bnd]
    dsimp only
    rw [gd_t (by omega), gd_t (by omega)]
  · obtain ⟨g1, g2, g3⟩ := hq q hqi
    refine ⟨?_, ?_, ?_⟩
    · rw [← g1]; funext y; rw [up_c (by decide), up_c (by decide), up_c (by decide), up_c (by decide)]
    · rw [← g2]; funext y; rw [up_i hqi, up_i hqi, up_i hqi, up_i hqi]
    · rw [← g3]; funext y; rw [up_c (by decide), up_c (by decide), up_c (by decide), up_c (by decide)]
  · rw [up_c (by decide), up_c (by decide), up_c (by decide), up_c (by decide)]; exact hs s s13
  · rw [up_c (by decide), up_c (by decide), up_c (by decide), up_c (by decide)]; exact h13
  · rw [up_c (by decide), up_c (by decide), up_c (by decide), up_c (by decide)]; exact hl a ha hP
  · have hk : k < 4 * c ∨ k = (c : Int) * 4 ∨ k = (c : Int) * 4 + 1 ∨ k = (c : Int) * 4 + 2 ∨ k = (c : Int) * 4 + 3 := by omega
    rcases hk with z | z | z | z | z
    · rw [up_s (by omega), up_s (by omega), up_s (by omega), up_s (by omega)]; exact hn k k0 z
    · rw [z, up_s (by omega), up_s (by omega), up_s (by omega), up_h]
      unfold nbr
      rw [if_pos (by omega), show (c : Int) * 4 / 4 = c by omega]
    · rw [z, up_s (by omega), up_s (by omega), up_h]
      unfold nbr
      rw [if_neg (by omega), if_pos (by omega), show ((c : Int) * 4 + 1) / 4 = c by omega]
    · rw [z, up_s (by omega), up_h]
      unfold nbr
      rw [if_neg (by omega), if_neg (by omega), if_pos (by omega), show ((c : Int) * 4 + 2) / 4 = c by omega]
    · rw [z, up_h]
      unfold nbr
      rw [if_neg (by omega), if_neg (by omega), if_neg (by omega), show ((c : Int) * 4 + 3) / 4 = c by omega]
theorem s_settleL (hC : w0 9 i 0 ≤ 12) (hR : w0 9 i 1 ≤ 12) (hB : ∀ c, 0 ≤ c → c < 144 → isB (w0 34 i c)) : ∀ (m c : Nat) (w : zW), c + m = 144 → SI w0 i c w → ∃ w', Wood_settle_1 (d + 2) i c w = ((Wood_measure (d + 1) i (w' 9 i 2) 38 i w').bind fun r1 => some (0, r1.2)) ∧ SI w0 i 144 w' := by
  intro m
  induction m with
  | zero =>
    intro c w hc h
    have : c = 144 := by omega
    subst this
    exact ⟨w, by rw [e_Wood_settle_1, if_pos (by omega)], h⟩
  | succ m ih =>
    intro c w hc h
    have h9 := SI_9 h
    obtain ⟨hf, hq, hs, h13, hl, hn⟩ := h
    have hop : Wood_openAt (d + 1) i ((c : Int) % 12) ((c : Int) / 12) w = some (openAt (w0 9 i 0) (w0 9 i 1) (w0 34 i) ((c : Int) % 12) ((c : Int) / 12), w) := by
      rw [s_openAt (by rw [h9.1]; exact hC) (by rw [h9.2.1]; exact hR), h9.1, h9.2.1, h9.2.2]
    have hiff := openAt_c (C := w0 9 i 0) (R := w0 9 i 1) (hB c (by omega) (by omega))
    have hcn := cn_le (P := opw w0 i) (n := c)
    rw [e_Wood_settle_1, if_neg (by omega), gd_t (by omega), gd_t (by omega), hop, bnd]
    dsimp only
    by_cases z : openAt (w0 9 i 0) (w0 9 i 1) (w0 34 i) ((c : Int) % 12) ((c : Int) / 12) = -1
    · have hno := hiff.1 z
      have hcs : cn (opw w0 i) (c + 1) = cn (opw w0 i) c := if_neg hno
      obtain ⟨w', p1, p2⟩ := s_settle_4 (d := d) hC hR (show c < 144 by omega) h9 hf hq hs (by rw [hcs]; exact h13) (fun a ha hP => hl a (by
        rcases Nat.lt_or_ge a c with y | y
        · exact y
        · have : a = c := by omega
          rw [this] at hP
          exact absurd hP hno) hP) hn
      obtain ⟨w2, q1, q2⟩ := ih (c + 1) w' (by omega) p2
      rw [show ((c + 1 : Nat) : Int) = (c : Int) + 1 by omega] at q1
      exact ⟨w2, by rw [if_pos z, p1]; exact q1, q2⟩
    · have hP : opw w0 i c := Decidable.byContradiction fun q => z (hiff.2 q)
      have hcs : cn (opw w0 i) (c + 1) = cn (opw w0 i) c + 1 := if_pos hP
      obtain ⟨w', p1, p2⟩ := s_settle_4 (d := d) (w := z_up (z_up w 40 i (cn (opw w0 i) c) c) 9 i 13 ((cn (opw w0 i) c : Int) + 1)) hC hR (show c < 144 by omega) ⟨by rw [up_s (by decide), up_c (by decide)]; exact h9.1, by rw [up_s (by decide), up_c (by decide)]; exact h9.2.1, (show (z_up (z_up w 40 i (cn (opw w0 i) c) c) 9 i 13 ((cn (opw w0 i) c : Int) + 1)) 34 i = w 34 i by funext y; rw [up_c (by decide), up_c (by decide)]).trans h9.2.2⟩ (fr_tr hf (fr_tr (fr_up (by decide)) (fr_up (by decide)))) (fun q hqi => by
          obtain ⟨g1, g2, g3⟩ := hq q hqi
          refine ⟨?_, ?_, ?_⟩
          · rw [← g1]; funext y; rw [up_i hqi, up_c (by decide)]
          · rw [← g2]; funext y; rw [up_c (by decide), up_c (by decide)]
          · rw [← g3]; funext y; rw [up_c (by decide), up_i hqi]) (fun s s13 => by rw [up_s s13, up_c (by decide)]; exact hs s s13) (by rw [up_h, hcs]; omega) (fun a ha hPa => by
          rw [up_c (by decide)]
          by_cases y : a = c
          · rw [y, up_h]
          · have hlt := cn_lt (P := opw w0 i) (c := a) (n := c) (by omega) hPa
            rw [up_s (by omega)]
            exact hl a (by omega) hPa) (fun k k0 k4 => by rw [up_c (by decide), up_c (by decide)]; exact hn k k0 k4)
      obtain ⟨w2, q1, q2⟩ := ih (c + 1) w' (by omega) p2
      rw [show ((c + 1 : Nat) : Int) = (c : Int) + 1 by omega] at q1
      refine ⟨w2, ?_, q2⟩
      rw [if_neg z, gd_t (by rw [h13]; omega), gd_t (by rw [h13]; omega), h13, p1]
      exact q1
theorem far_eqR {nx nx' : Int → Int} {a : Int} (hn : nxB nx) (h : eqR nx nx') (ha : 0 ≤ a ∧ a < 144) : eqC (far nx a) (far nx' a) := by
  have hI : bI (bB (fun _ => -1) (fun _ => 0) a) := bB_I ha (fun _ _ _ => rfl)
  exact (bL_E hn h 144 0 _ _ (Int.le_refl 0) hI ⟨fun _ _ _ => rfl, fun _ _ _ => rfl, rfl⟩).1
/-- the class settles a wood -/
theorem s_settle {wc : zW} (hC : 2 ≤ wc 9 i 0 ∧ wc 9 i 0 ≤ 12) (hR : 2 ≤ wc 9 i 1 ∧ wc 9 i 1 ≤ 12) (hh : 0 ≤ wc 9 i 2 ∧ wc 9 i 2 < 144) (hB : ∀ c, 0 ≤ c → c < 144 → isB (wc 34 i c)) {H : Int} (hH : H = min (wc 9 i 2 / 12) (wc 9 i 1 - 1) * 12 + min (wc 9 i 2 % 12) (wc 9 i 0 - 1)) :
    ∃ w', Wood_settle (d + 2) i wc = some (0, w') ∧ z_fr [9, 34, 38, 39, 40, 41] wc w' ∧ (∀ q, q ≠ i → w' 9 q = wc 9 q ∧ w' 34 q = wc 34 q ∧ w' 38 q = wc 38 q ∧ w' 39 q = wc 39 q ∧ w' 40 q = wc 40 q ∧ w' 41 q = wc 41 q) ∧ (∀ s, s ≠ 2 → s ≠ 13 → w' 9 i s = wc 9 i s) ∧ w' 9 i 2 = H ∧ (∀ c, w' 34 i c = if c = H then 0 else wc 34 i c) ∧ WO w' i ∧ eqR (w' 39 i) (nbr (wc 9 i 0) (wc 9 i 1) (w' 34 i)) ∧ eqC (w' 38 i) (far (nbr (wc 9 i 0) (wc 9 i 1) (w' 34 i)) H) := by
  have hH0 : 0 ≤ H ∧ H < 144 := by omega
  have e0 : (z_up wc 9 i 2 H) 9 i 2 = H := up_h
  have hrun : Wood_settle (d + 2) i wc = Wood_settle_1 (d + 2) i 0 (z_up (z_up (z_up wc 9 i 2 H) 34 i H 0) 9 i 13 0) := by
    rw [e_Wood_settle, gd_t (by omega), gd_t (by omega), gd_t (by omega), gd_t (by omega), gd_t (by omega), gd_t (by omega), ← hH, gd_t (by rw [e0]; omega), e0]
  have q90 : (z_up (z_up (z_up wc 9 i 2 H) 34 i H 0) 9 i 13 0) 9 i 0 = wc 9 i 0 := by rw [up_s (by decide), up_c (by decide), up_s (by decide)]
  have q91 : (z_up (z_up (z_up wc 9 i 2 H) 34 i H 0) 9 i 13 0) 9 i 1 = wc 9 i 1 := by rw [up_s (by decide), up_c (by decide), up_s (by decide)]
  have q92 : (z_up (z_up (z_up wc 9 i 2 H) 34 i H 0) 9 i 13 0) 9 i 2 = H := by rw [up_s (by decide), up_c (by decide), up_h]
  have q9s : ∀ s, s ≠ 2 → s ≠ 13 → (z_up (z_up (z_up wc 9 i 2 H) 34 i H 0) 9 i 13 0) 9 i s = wc 9 i s := fun s a b => by rw [up_s b, up_c (by decide), up_s a]
  have q34 : ∀ c, (z_up (z_up (z_up wc 9 i 2 H) 34 i H 0) 9 i 13 0) 34 i c = if c = H then 0 else wc 34 i c := fun c => by
    rw [up_c (by decide)]
    by_cases z : c = H
    · rw [if_pos z, z, up_h]
    · rw [if_neg z, up_s z, up_c (by decide)]
  have q13 : (z_up (z_up (z_up wc 9 i 2 H) 34 i H 0) 9 i 13 0) 9 i 13 = 0 := up_h
  have qf : z_fr [9, 34] wc (z_up (z_up (z_up wc 9 i 2 H) 34 i H 0) 9 i 13 0) := fr_tr (fr_tr (fr_up (by decide)) (fr_up (by decide))) (fr_up (by decide))
  have qi : ∀ q, q ≠ i → (z_up (z_up (z_up wc 9 i 2 H) 34 i H 0) 9 i 13 0) 9 q = wc 9 q ∧ (z_up (z_up (z_up wc 9 i 2 H) 34 i H 0) 9 i 13 0) 34 q = wc 34 q := fun q hq => by
    constructor
    · funext y; rw [up_i hq, up_c (by decide), up_i hq]
    · funext y; rw [up_c (by decide), up_i hq, up_c (by decide)]
  generalize z_up (z_up (z_up wc 9 i 2 H) 34 i H 0) 9 i 13 0 = w0 at *
  have hB0 : ∀ c, 0 ≤ c → c < 144 → isB (w0 34 i c) := fun c c0 c1 => by
    rw [q34]
    by_cases z : c = H
    · rw [if_pos z]; exact Or.inl rfl
    · rw [if_neg z]; exact hB c c0 c1
  have hSI0 : SI w0 i 0 w0 := ⟨fr_rf _ _, fun _ _ => ⟨rfl, rfl, rfl⟩, fun _ _ => rfl, q13, fun a ha => absurd ha (Nat.not_lt_zero _), fun k k0 k4 => by omega⟩
  obtain ⟨w1, p1, p2⟩ := s_settleL (d := d) (by rw [q90]; exact hC.2) (by rw [q91]; exact hR.2) hB0 144 0 w0 rfl hSI0
  obtain ⟨hf, hq, hs, h13, hl, hn⟩ := p2
  have w12 : w1 9 i 2 = H := (hs 2 (by decide)).trans q92
  have w34 : w1 34 = w0 34 := hf 34 (by decide)
  have hnR : eqR (w1 39 i) (nbr (w0 9 i 0) (w0 9 i 1) (w0 34 i)) := fun k k0 k1 => hn k k0 (by omega)
  have hnb : nxB (nbr (w0 9 i 0) (w0 9 i 1) (w0 34 i)) := nbr_bd (by rw [q90]; exact hC.2) (by rw [q91]; exact hR.2)
  have hnB : nxB (w1 39 i) := fun k k0 k1 => by
    rw [hnR k k0 k1]
    exact hnb k k0 k1
  obtain ⟨w2, t1, t2, t3, t4, t5⟩ := s_measure (d := d) (k2 := 38) (i := i) (a2 := i) (a := H) (w := w1) (Or.inl rfl) hnB hH0
  have f2 : z_fr [9, 34, 38, 39, 40, 41] wc w2 := fr_tr (fr_sub qf (by decide)) (fr_tr (fr_sub hf (by decide)) (fr_sub t2 (by decide)))
  have w29 : w2 9 = w1 9 := t2 9 (by decide)
  have w234 : w2 34 = w0 34 := (t2 34 (by decide)).trans w34
  have w239 : w2 39 = w1 39 := t2 39 (by decide)
  have w240 : w2 40 = w1 40 := t2 40 (by decide)
  refine ⟨w2, ?_, f2, fun q hqi => ?_, fun s s2 s13 => ?_, ?_, fun c => ?_, ?_, ?_, ?_⟩
  · rw [hrun]
    show Wood_settle_1 (d + 2) i ((0 : Nat) : Int) w0 = _
    rw [p1, w12, t1, bnd]
  · obtain ⟨g1, g2, g3⟩ := hq q hqi
    obtain ⟨g4, g5⟩ := qi q hqi
    refine ⟨by rw [w29, g1, g4], by rw [w234, g5], ?_, by rw [w239, g2, qf 39 (by decide)], by rw [w240, g3, qf 40 (by decide)], ?_⟩
    · rw [t3 q hqi, hf 38 (by decide), qf 38 (by decide)]
    · rw [t4 q hqi, hf 41 (by decide), qf 41 (by decide)]
  · rw [w29, hs s s13, q9s s s2 s13]
  · rw [w29]; exact w12
  · rw [w234]; exact q34 c
  · unfold WO opw
    rw [w29, w234, w240, hs 0 (by decide), hs 1 (by decide)]
    exact ⟨h13, fun a ha hP => hl a ha hP⟩
  · intro k k0 k1
    rw [w239, w234, hnR k k0 k1, q90, q91]
  · intro c c0 c1
    rw [w234, ← q90, ← q91, t5 c c0 c1]
    exact far_eqR hnB hnR hH0 c c0 c1
end
