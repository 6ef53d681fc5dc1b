/-- the cells that want a post -/
abbrev ndP (w : zW) (i : Int) (c : Int) : Prop := w 33 i c = 1 ∧ opw w i c
def enP (w : zW) (i : Int) (M : Int → Nat) (set : Nat) : Prop := ∀ c : Nat, c < 144 → ndP w i c → M c &&& set ≠ 0
theorem open_op {w : zW} {i : Int} (hW : RW w i) {c : Nat} (hc : c < 144) : openAt (w 9 i 0) (w 9 i 1) (w 34 i) ((c : Int) % 12) ((c : Int) / 12) ≠ -1 ↔ opw w i c := by
  have hCR := hW.1
  have hb := (hW.2.2.2.2.1 c (by omega) (by omega)).2.2.1
  have hcc : (c : Int) / 12 * 12 + (c : Int) % 12 = c := by omega
  unfold openAt
  rw [hcc]
  show (if 0 ≤ (c : Int) % 12 ∧ 0 ≤ (c : Int) / 12 ∧ (c : Int) % 12 < w 9 i 0 ∧ (c : Int) / 12 < w 9 i 1 ∧ ¬ w 34 i c = 1 then (c : Int) else -1) ≠ -1 ↔ ((c : Int) % 12 < w 9 i 0 ∧ (c : Int) / 12 < w 9 i 1 ∧ w 34 i c = 0)
  by_cases z : 0 ≤ (c : Int) % 12 ∧ 0 ≤ (c : Int) / 12 ∧ (c : Int) % 12 < w 9 i 0 ∧ (c : Int) / 12 < w 9 i 1 ∧ ¬ w 34 i c = 1
  · rw [if_pos z]
    refine ⟨fun _ => ⟨z.2.2.1, z.2.2.2.1, ?_⟩, fun _ => by omega⟩
    rcases hb with q | q
    · exact q
    · exact absurd q z.2.2.2.2
  · rw [if_neg z]
    exact ⟨fun q => absurd rfl q, fun q => absurd ⟨by omega, by omega, q.1, q.2.1, by rw [q.2.2]; decide⟩ z⟩
theorem z_and_ms {m set : Nat} (hm : m < 256) (hs : set < 256) : z_and m set = 0 ↔ m &&& set = 0 := by
  rw [z_and_nat (by omega) (by omega)]
  omega
theorem s_isEnough {d : Nat} {i : Int} {w : zW} {M : Int → Nat} {set : Nat} (hW : RW w i) (hs : set < 256) (hM8 : ∀ c, M c < 256) (hM : ∀ c : Nat, c < 144 → w 46 0 c = ((M c : Nat) : Int)) : ∀ m n : Nat, n + m = 144 → (∀ c : Nat, c < n → ndP w i c → M c &&& set ≠ 0) →
    ∃ r, D_isEnough_1 (d + 2) i set n w = some (r, w) ∧ (r = 0 ∨ r = 1) ∧ (r = 1 ↔ enP w i M set) := by
  have hCR := hW.1
  intro m
  induction m with
  | zero =>
    intro n hn hp
    refine ⟨1, by rw [e_D_isEnough_1, if_pos (by omega), gd_t (by decide)], Or.inr rfl, ⟨fun _ c hc => hp c (by omega), fun _ => rfl⟩⟩
  | succ m ih =>
    intro n hn hp
    have go : (ndP w i n → M n &&& set ≠ 0) → ∃ r, D_isEnough_1 (d + 2) i set (n + 1 : Nat) w = some (r, w) ∧ (r = 0 ∨ r = 1) ∧ (r = 1 ↔ enP w i M set) := fun h =>
      ih (n + 1) (by omega) (fun c hc hnd => by
        by_cases z : c = n
        · rw [z] at hnd ⊢; exact h hnd
        · exact hp c (by omega) hnd)
    have h60 : ¬ ndP w i n → ∃ r, D_isEnough_6 (d + 2) i set n 0 w = some (r, w) ∧ (r = 0 ∨ r = 1) ∧ (r = 1 ↔ enP w i M set) := fun h => by
      rw [e_D_isEnough_6, if_pos rfl, gd_t (by omega)]
      exact go (fun q => absurd q h)
    have hop := open_op hW (c := n) (by omega)
    rw [e_D_isEnough_1, if_neg (by omega), gd_t (by omega)]
    by_cases z1 : w 33 i n = 1
    · rw [if_pos z1, gd_t (by omega), gd_t (by omega), s_openAt hCR.1.2 hCR.2.2, bnd]
      dsimp only
      by_cases z2 : openAt (w 9 i 0) (w 9 i 1) (w 34 i) ((n : Int) % 12) ((n : Int) / 12) = -1
      · rw [if_pos z2]
        exact h60 (fun q => hop.2 q.2 z2)
      · have hnd : ndP w i n := ⟨z1, hop.1 z2⟩
        rw [if_neg z2, e_D_isEnough_6, if_neg (by decide), gd_t (by omega), hM n (by omega)]
        by_cases z3 : M n &&& set = 0
        · rw [if_pos ((z_and_ms (hM8 n) hs).2 z3), gd_t (by decide)]
          exact ⟨0, rfl, Or.inl rfl, ⟨fun q => absurd q (by decide), fun q => absurd z3 (q n (by omega) hnd)⟩⟩
        · rw [if_neg (fun q => z3 ((z_and_ms (hM8 n) hs).1 q)), gd_t (by omega)]
          exact go (fun _ => z3)
    · rw [if_neg z1]
      exact h60 (fun q => z1 q.1)
theorem m_covers {d : Nat} {i : Int} {w : zW} {M : Int → Nat} {set : Nat} (hW : RW w i) (h4 : 0 ≤ i ∧ i < 4) (hs : set < 256) (hM8 : ∀ c, M c < 256) (hM : ∀ c : Nat, c < 144 → w 75 0 c = ((M c : Nat) : Int)) : ∀ m n : Nat, n + m = 144 → (∀ c : Nat, c < n → ndP w i c → M c &&& set ≠ 0) →
    ∃ r, M_covers_1 (d + 2) i set n w = some (r, w) ∧ (r = 0 ∨ r = 1) ∧ (r = 1 ↔ enP w i M set) := by
  intro m
  induction m with
  | zero =>
    intro n hn hp
    refine ⟨1, by rw [e_M_covers_1, if_pos (by omega), gd_t (by decide)], Or.inr rfl, ⟨fun _ c hc => hp c (by omega), fun _ => rfl⟩⟩
  | succ m ih =>
    intro n hn hp
    have go : (ndP w i n → M n &&& set ≠ 0) → ∃ r, M_covers_1 (d + 2) i set (n + 1 : Nat) w = some (r, w) ∧ (r = 0 ∨ r = 1) ∧ (r = 1 ↔ enP w i M set) := fun h =>
      ih (n + 1) (by omega) (fun c hc hnd => by
        by_cases z : c = n
        · rw [z] at hnd ⊢; exact h hnd
        · exact hp c (by omega) hnd)
    have h70 : ¬ ndP w i n → ∃ r, M_covers_7 (d + 2) i set n 0 w = some (r, w) ∧ (r = 0 ∨ r = 1) ∧ (r = 1 ↔ enP w i M set) := fun h => by
      rw [e_M_covers_7, if_pos rfl, gd_t (by omega)]
      exact go (fun q => absurd q h)
    obtain ⟨⟨q1, q2, -⟩, -⟩ := hW.2.2.2.2.1 n (by omega) (by omega)
    have e0 : w 64 0 (144 * (6 * i + 0) + n) = w 33 i n := q1.symm
    have e1 : w 64 0 (144 * (6 * i + 1) + n) = w 34 i n := q2.symm
    rw [e_M_covers_1, if_neg (by omega), gd_t (by omega), gd_t (by omega), hW.inW h4, bnd]
    dsimp only
    by_cases z0 : 0 ≤ (n : Int) % 12 ∧ 0 ≤ (n : Int) / 12 ∧ (n : Int) % 12 < w 9 i 0 ∧ (n : Int) / 12 < w 9 i 1
    · rw [if_pos z0, if_neg (by decide), m_at h4 (by decide) (by omega), bnd]
      dsimp only
      rw [e0]
      by_cases z1 : w 33 i n = 1
      · rw [if_pos z1, m_at h4 (by decide) (by omega), bnd]
        dsimp only
        rw [e1]
        by_cases z2 : w 34 i n = 0
        · have hnd : ndP w i n := ⟨z1, z0.2.2.1, z0.2.2.2, z2⟩
          rw [if_pos z2, e_M_covers_7, if_neg (by decide), gd_t (by omega), hM n (by omega)]
          by_cases z3 : M n &&& set = 0
          · rw [if_pos ((z_and_ms (hM8 n) hs).2 z3), gd_t (by decide)]
            exact ⟨0, rfl, Or.inl rfl, ⟨fun q => absurd q (by decide), fun q => absurd z3 (q n (by omega) hnd)⟩⟩
          · rw [if_neg (fun q => z3 ((z_and_ms (hM8 n) hs).1 q)), gd_t (by omega)]
            exact go (fun _ => z3)
        · rw [if_neg z2]
          exact h70 (fun q => z2 q.2.2.2)
      · rw [if_neg z1]
        exact h70 (fun q => z1 q.1)
    · rw [if_neg z0, if_pos rfl]
      exact h70 (fun q => z0 ⟨by omega, by omega, q.2.1, q.2.2.1⟩)
/-- the model's marks -/
theorem m_parish_13 {d k : Nat} {i r l3 : Int} {w : zW} {M : Int → Nat} (hk : k < 8) (hM : ∀ c, M c < 256) (hr : 0 ≤ r) (hf67 : ∀ c, 0 ≤ c → c < 144 → -1 ≤ w 67 0 c) : ∀ (m n : Nat) (w1 : zW), n + m = 144 → mF [75] [] w w1 → (∀ c : Nat, c < 144 → w1 75 0 c = ((if c < n ∧ w 67 0 c ≠ -1 ∧ w 67 0 c ≤ r then M c ||| 2 ^ k else M c : Nat) : Int)) →
    ∃ w2, M_parish_13 (d + 1) i r l3 k n w1 = M_parish_7 (d + 1) i r l3 (k + 1 : Nat) w2 ∧ mF [75] [] w w2 ∧ ∀ c : Nat, c < 144 → w2 75 0 c = ((if w 67 0 c ≠ -1 ∧ w 67 0 c ≤ r then M c ||| 2 ^ k else M c : Nat) : Int) := by
  intro m
  induction m with
  | zero =>
    intro n w1 hn hf hs
    refine ⟨w1, by rw [e_M_parish_13, if_pos (by omega), gd_t (by omega)]; rfl, hf, fun c hc => ?_⟩
    rw [hs c hc]
    by_cases z : w 67 0 c ≠ -1 ∧ w 67 0 c ≤ r
    · rw [if_pos z, if_pos ⟨by omega, z⟩]
    · rw [if_neg z, if_neg (fun q => z q.2)]
  | succ m ih =>
    intro n w1 hn hf hs
    have r67 := hf.1 67 (by decide) (by decide)
    have hsn := hs n (by omega)
    have hb := hf67 n (by omega) (by omega)
    rw [if_neg (by omega)] at hsn
    have skip : ¬ (w 67 0 n ≠ -1 ∧ w 67 0 n ≤ r) → ∃ w2, M_parish_13 (d + 1) i r l3 k (n + 1 : Nat) (z_up w1 75 0 n (M n : Nat)) = M_parish_7 (d + 1) i r l3 (k + 1 : Nat) w2 ∧ mF [75] [] w w2 ∧ ∀ c : Nat, c < 144 → w2 75 0 c = ((if w 67 0 c ≠ -1 ∧ w 67 0 c ≤ r then M c ||| 2 ^ k else M c : Nat) : Int) := fun hno =>
      ih (n + 1) _ (by omega) (mF_tr hf (mF_up (by decide) (by decide))) (fun c hc => by
        by_cases z : c = n
        · rw [z, up_h, if_neg (fun q => hno q.2)]
        · rw [up_s (by omega), hs c hc]
          by_cases y : c < n ∧ w 67 0 c ≠ -1 ∧ w 67 0 c ≤ r
          · rw [if_pos y, if_pos ⟨by omega, y.2⟩]
          · rw [if_neg y, if_neg (fun q => y ⟨by omega, q.2⟩)])
    rw [e_M_parish_13, if_neg (by omega), gd_t (by omega), gd_t (by omega), r67, hsn]
    by_cases z1 : w 67 0 n < 0
    · rw [if_pos z1, gd_t (by omega), gd_t (by omega), z_or_0 (hM n)]
      exact skip (fun q => by omega)
    · rw [if_neg z1, gd_t (by omega)]
      by_cases z2 : r < w 67 0 n
      · rw [if_pos z2, gd_t (by omega), gd_t (by omega), z_or_0 (hM n)]
        exact skip (fun q => by omega)
      · have hp2 : (1 * 2 ^ ((k : Nat) : Int).toNat : Int) = ((2 ^ k : Nat) : Int) := by
          rw [Int.one_mul, Int.toNat_natCast]
          push_cast
          rfl
        have h2k : 2 ^ k < 2 ^ 8 := Nat.pow_lt_pow_right (by decide) hk
        have h2p : (0 : Int) ≤ ((2 ^ k : Nat) : Int) := Int.natCast_nonneg _
        rw [if_neg z2, gd_t (by rw [hp2]; omega), gd_t (by omega), gd_t (by omega), z_or_msk (hM n) hk]
        exact ih (n + 1) _ (by omega) (mF_tr hf (mF_up (by decide) (by decide))) (fun c hc => by
          by_cases z : c = n
          · rw [z, up_h, if_pos ⟨by omega, by omega, by omega⟩]
          · rw [up_s (by omega), hs c hc]
            by_cases y : c < n ∧ w 67 0 c ≠ -1 ∧ w 67 0 c ≤ r
            · rw [if_pos y, if_pos ⟨by omega, y.2⟩]
            · rw [if_neg y, if_neg (fun q => y ⟨by omega, q.2⟩)])
theorem RW.MWr {w : zW} {i : Int} (h : RW w i) (h4 : 0 ≤ i ∧ i < 4) : MW w i (w 9 i 0) (w 9 i 1) (nbr (w 9 i 0) (w 9 i 1) (md w i 1)) := by
  have h1 := h.1
  exact ⟨h4, h.2.1.1, by omega, h.2.1.2, by omega, rfl⟩
theorem far_eq {nx nx' : Int → Int} (hn : nxB nx) (h : eqR nx nx') {a : Int} (ha : 0 ≤ a ∧ a < 144) : eqC (far nx a) (far nx' a) :=
  (bL_E hn h 144 0 (bB (fun _ => -1) (fun _ => 0) a) (bB (fun _ => -1) (fun _ => 0) a) (by omega) (bB_I ha (fun _ _ _ => rfl)) ⟨fun _ _ _ => rfl, fun _ _ _ => rfl, rfl⟩).1
abbrev tdP (w : zW) (k : Nat) : Prop := w 31 0 k ≠ -1
theorem m_parish_7 {d : Nat} {i r : Int} {w : zW} (hW : RW w i) (h4 : 0 ≤ i ∧ i < 4) (hr : 0 ≤ r) (hp : ∀ k, 0 ≤ k → k < 8 → w 70 0 (1382 + k) = w 31 0 k ∧ -1 ≤ w 31 0 k ∧ w 31 0 k < 144) : ∀ (m k : Nat) (w1 : zW), k + m = 8 → mF [66, 67, 75] [] w w1 → (∀ c : Nat, c < 144 → w1 75 0 c = ((msk (nrP w i r c) k : Nat) : Int)) →
    ∃ w2, M_parish_7 (d + 4) i r ((msk (tdP w) k : Nat) : Int) k w1 = M_parish_21 (d + 4) i ((msk (tdP w) 8 : Nat) : Int) (-2) 0 w2 ∧ mF [66, 67, 75] [] w w2 ∧ ∀ c : Nat, c < 144 → w2 75 0 c = ((msk (nrP w i r c) 8 : Nat) : Int) := by
  intro m
  induction m with
  | zero =>
    intro k w1 hk hf hM
    have hk8 : k = 8 := by omega
    subst hk8
    exact ⟨w1, by rw [e_M_parish_7, if_pos (by decide)], hf, hM⟩
  | succ m ih =>
    intro k w1 hk hf hM
    obtain ⟨p1, p2, p3⟩ := hp k (by omega) (by omega)
    have h70 := hf.1 70 (by decide) (by decide)
    have hW1 : RW w1 i := RW_fr (fun c hc => hf.1 c (by revert hc; revert c; decide) (by revert hc; revert c; decide)) hW
    have hlt : ∀ c : Int, msk (nrP w i r c) k < 256 := fun c => Nat.lt_of_lt_of_le (msk_lt k) (Nat.pow_le_pow_right (by decide) (show k ≤ 8 by omega))
    have hltT : msk (tdP w) k < 256 := Nat.lt_of_lt_of_le (msk_lt k) (Nat.pow_le_pow_right (by decide) (show k ≤ 8 by omega))
    have hsT : msk (tdP w) (k + 1) = if tdP w k then msk (tdP w) k ||| 2 ^ k else msk (tdP w) k := rfl
    have hs : ∀ c : Int, msk (nrP w i r c) (k + 1) = if nrP w i r c k then msk (nrP w i r c) k ||| 2 ^ k else msk (nrP w i r c) k := fun _ => rfl
    rw [e_M_parish_7, if_neg (by omega), gd_t (by omega), gd_t (by omega), h70, p1]
    by_cases z1 : w 31 0 k = -1
    · rw [if_pos z1, gd_t (by omega)]
      obtain ⟨w2, t1, t2⟩ := ih (k + 1) w1 (by omega) hf (fun c hc => by rw [hs, if_neg (fun q => q.1 z1)]; exact hM c hc)
      rw [hsT, if_neg (fun q => q z1)] at t1
      exact ⟨w2, t1, t2⟩
    · have hp2 : (1 * 2 ^ ((k : Nat) : Int).toNat : Int) = ((2 ^ k : Nat) : Int) := by
        rw [Int.one_mul, Int.toNat_natCast]
        push_cast
        rfl
      have h2k : 2 ^ k < 2 ^ 8 := Nat.pow_lt_pow_right (by decide) (by omega)
      have h2p : (0 : Int) ≤ ((2 ^ k : Nat) : Int) := Int.natCast_nonneg _
      have hst := hW1.stand (d := d + 1) (x := w 31 0 k % 12) (y := w 31 0 k / 12) (way := 0) h4
      rw [hf.1 9 (by decide) (by decide), hf.1 34 (by decide) (by decide)] at hst
      have hsT' : msk (tdP w) k ||| 2 ^ k = msk (tdP w) (k + 1) := by rw [hsT, if_pos z1]
      rw [if_neg z1, gd_t (by rw [hp2]; omega), gd_t (by omega), gd_t (by omega), z_or_msk hltT (by omega), hsT']
      by_cases z2 : openAt (w 9 i 0) (w 9 i 1) (w 34 i) (w 31 0 k % 12) (w 31 0 k / 12) = -1
      · have hst' : M_canStand (d + 3) i (w 31 0 k % 12) (w 31 0 k / 12) 0 w1 = some (0, w1) := hst.trans (by
          rw [if_neg (fun q => q.1 z2)])
        rw [hst', bnd]
        dsimp only
        rw [if_pos rfl, gd_t (by omega)]
        exact ih (k + 1) w1 (by omega) hf (fun c hc => by rw [hs, if_neg (fun q => q.2.1 z2)]; exact hM c hc)
      · have hst' : M_canStand (d + 3) i (w 31 0 k % 12) (w 31 0 k / 12) 0 w1 = some (1, w1) := hst.trans (by
          rw [if_pos ⟨z2, by decide, by decide⟩])
        rw [hst', bnd]
        dsimp only
        rw [if_neg (by decide)]
        obtain ⟨w2, q1, q2, q3⟩ := m_spreads (d := d) (hW1.MWr h4) (a := w 31 0 k) (by omega)
        have hfe : eqC (w2 67 0) (far (w 39 i) (w 31 0 k)) := fun c c0 c1 => by
          have hnn := hW1.nx
          rw [hf.1 39 (by decide) (by decide)] at hnn
          rw [q3 c c0 c1]
          exact (far_eq hW.nxB hnn (by omega) c c0 c1).symm
        have hfb := far_bd hW.nxB (a := w 31 0 k) (by omega)
        have q1' : M_spreads (d + 3) i (w 31 0 k) w1 = some (0, w2) := q1
        rw [q1', bnd]
        dsimp only
        obtain ⟨w3, s1, s2, s3⟩ := m_parish_13 (d := d + 3) (k := k) (i := i) (r := r) (l3 := ((msk (tdP w) (k + 1) : Nat) : Int)) (w := w2) (M := fun c => msk (nrP w i r c) k) (by omega) hlt hr (fun c c0 c1 => by rw [hfe c c0 c1]; exact (hfb c c0 c1).1) 144 0 w2 (by omega) (mF_rf _ _ _) (fun c hc => by
          rw [if_neg (by omega), q2.1 75 (by decide) (by decide)]
          exact hM c hc)
        obtain ⟨w4, t1, t2⟩ := ih (k + 1) w3 (by omega) (mF_tr hf (mF_tr (mF_sub q2 (by decide) (by decide)) (mF_sub s2 (by decide) (by decide)))) (fun c hc => by
          rw [s3 c hc, hs, hfe c (by omega) (by omega)]
          by_cases y : far (w 39 i) (w 31 0 k) c ≠ -1 ∧ far (w 39 i) (w 31 0 k) c ≤ r
          · rw [if_pos y, if_pos ⟨z1, z2, y⟩]
          · rw [if_neg y, if_neg (fun q => y q.2.2)])
        exact ⟨w4, s1.trans t1, t2⟩
