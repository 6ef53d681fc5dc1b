abbrev nrP (w : zW) (i r : Int) (c : Int) (k : Nat) : Prop := w 31 0 k ≠ -1 ∧ openAt (w 9 i 0) (w 9 i 1) (w 34 i) (w 31 0 k % 12) (w 31 0 k / 12) ≠ -1 ∧ far (w 39 i) (w 31 0 k) c ≠ -1 ∧ far (w 39 i) (w 31 0 k) c ≤ r
/-- the class's reach -/
theorem s_reach_4 {d k : Nat} {r : Int} {w : zW} {M : Int → Nat} (hk : k < 8) (hM : ∀ c, M c < 256) : ∀ (m n : Nat) (w1 : zW), n + m = 144 → z_fr [46] w w1 → (∀ c : Nat, c < 144 → w1 46 0 c = ((if c < n ∧ w 47 0 c ≠ -1 ∧ w 47 0 c ≤ r then M c ||| 2 ^ k else M c : Nat) : Int)) →
    ∃ w2, D_reach_4 d k r n w1 = some (0, w2) ∧ z_fr [46] w w2 ∧ ∀ c : Nat, c < 144 → w2 46 0 c = ((if w 47 0 c ≠ -1 ∧ w 47 0 c ≤ r then M c ||| 2 ^ k else M c : Nat) : Int) := by
  intro m
  induction m with
  | zero =>
    intro n w1 hn hf hs
    refine ⟨w1, by rw [e_D_reach_4, if_pos (by omega)], hf, fun c hc => ?_⟩
    rw [hs c hc]
    by_cases z : w 47 0 c ≠ -1 ∧ w 47 0 c ≤ r
    · rw [if_pos z, if_pos ⟨by omega, z⟩]
    · rw [if_neg z, if_neg (fun q => z q.2)]
  | succ m ih =>
    intro n w1 hn hf hs
    have r47 := hf 47 (by decide)
    have hsn := hs n (by omega)
    rw [if_neg (by omega)] at hsn
    have skip : ¬ (w 47 0 n ≠ -1 ∧ w 47 0 n ≤ r) → ∃ w2, D_reach_4 d k r (n + 1 : Nat) w1 = some (0, w2) ∧ z_fr [46] w w2 ∧ ∀ c : Nat, c < 144 → w2 46 0 c = ((if w 47 0 c ≠ -1 ∧ w 47 0 c ≤ r then M c ||| 2 ^ k else M c : Nat) : Int) := fun hno =>
      ih (n + 1) w1 (by omega) hf (fun c hc => by
        rw [hs c hc]
        by_cases z : c = n
        · rw [z, if_neg (by omega), if_neg (fun q => hno q.2)]
        · by_cases y : c < n ∧ w 47 0 c ≠ -1 ∧ w 47 0 c ≤ r
          · rw [if_pos y, if_pos ⟨by omega, y.2⟩]
          · rw [if_neg y, if_neg (fun q => y ⟨by omega, q.2⟩)])
    rw [e_D_reach_4, if_neg (by omega), gd_t (by omega), r47]
    by_cases z1 : w 47 0 n = -1
    · rw [if_pos z1, gd_t (by omega)]
      exact skip (fun q => q.1 z1)
    · rw [if_neg z1, gd_t (by omega)]
      by_cases z2 : r < w 47 0 n
      · rw [if_pos z2, gd_t (by omega)]
        exact skip (fun q => by omega)
      · have hp2 : (1 * 2 ^ ((k : Nat) : Int).toNat : Int) = ((2 ^ k : Nat) : Int) := by
          rw [Int.one_mul, Int.toNat_natCast]
          push_cast
          rfl
        have h2k : 2 ^ k < 2 ^ 8 := Nat.pow_lt_pow_right (by decide) hk
        have h2p : (0 : Int) ≤ ((2 ^ k : Nat) : Int) := Int.natCast_nonneg _
        rw [if_neg z2, gd_t (by omega), gd_t (by rw [hp2]; omega), gd_t (by omega), gd_t (by omega), hsn, z_or_msk (hM n) hk]
        exact ih (n + 1) _ (by omega) (fr_tr hf (fr_up (by decide))) (fun c hc => by
          by_cases z : c = n
          · rw [z, up_h, if_pos ⟨by omega, z1, by omega⟩]
          · rw [up_s (by omega), hs c hc]
            by_cases y : c < n ∧ w 47 0 c ≠ -1 ∧ w 47 0 c ≤ r
            · rw [if_pos y, if_pos ⟨by omega, y.2⟩]
            · rw [if_neg y, if_neg (fun q => y ⟨by omega, q.2⟩)])
theorem s_reach {d k : Nat} {i r : Int} {w : zW} (hk : k < 8) (hW : RW w i) (hp : -1 ≤ w 31 0 k ∧ w 31 0 k < 144) (hM : ∀ c : Nat, c < 144 → w 46 0 c = ((msk (nrP w i r c) k : Nat) : Int)) :
    ∃ w2, D_reach (d + 2) i k r w = some (0, w2) ∧ z_fr [41, 46, 47] w w2 ∧ ∀ c : Nat, c < 144 → w2 46 0 c = ((msk (nrP w i r c) (k + 1) : Nat) : Int) := by
  have hCR := hW.1
  have hs : ∀ c : Int, msk (nrP w i r c) (k + 1) = if nrP w i r c k then msk (nrP w i r c) k ||| 2 ^ k else msk (nrP w i r c) k := fun _ => rfl
  have hlt : ∀ c : Int, msk (nrP w i r c) k < 256 := fun c => Nat.lt_of_lt_of_le (msk_lt k) (Nat.pow_le_pow_right (by decide) (show k ≤ 8 by omega))
  rw [e_D_reach, gd_t (by omega)]
  by_cases z1 : w 31 0 k = -1
  · rw [if_pos z1]
    exact ⟨w, rfl, fr_rf _ _, fun c hc => by rw [hs, if_neg (fun q => q.1 z1)]; exact hM c hc⟩
  · rw [if_neg z1, gd_t (by omega), gd_t (by omega), s_openAt (d := d) hCR.1.2 hCR.2.2, bnd]
    dsimp only
    by_cases z2 : openAt (w 9 i 0) (w 9 i 1) (w 34 i) (w 31 0 k % 12) (w 31 0 k / 12) = -1
    · rw [if_pos z2]
      exact ⟨w, rfl, fr_rf _ _, fun c hc => by rw [hs, if_neg (fun q => q.2.1 z2)]; exact hM c hc⟩
    · obtain ⟨w1, p1, p2, p3, p4, p5⟩ := s_measure (d := d) (k2 := 47) (i := i) (a2 := 0) (a := w 31 0 k) (w := w) (Or.inr rfl) hW.nxB (by omega)
      rw [if_neg z2, p1, bnd]
      dsimp only
      obtain ⟨w2, q1, q2, q3⟩ := s_reach_4 (d := d + 2) (k := k) (r := r) (w := w1) (M := fun c => msk (nrP w i r c) k) hk hlt 144 0 w1 (by omega) (fr_rf _ _) (fun c hc => by
        rw [if_neg (by omega), p2 46 (by decide)]
        exact hM c hc)
      refine ⟨w2, q1, fr_tr (fr_sub p2 (by decide)) (fr_sub q2 (by decide)), fun c hc => ?_⟩
      rw [q3 c hc, hs, p5 c (by omega) (by omega)]
      by_cases y : far (w 39 i) (w 31 0 k) c ≠ -1 ∧ far (w 39 i) (w 31 0 k) c ≤ r
      · rw [if_pos y, if_pos ⟨z1, z2, y⟩]
      · rw [if_neg y, if_neg (fun q => y q.2.2)]
theorem s_parish_6 {d : Nat} {i r : Int} {w : zW} (hW : RW w i) (hp : ∀ k, 0 ≤ k → k < 8 → -1 ≤ w 31 0 k ∧ w 31 0 k < 144) : ∀ (m k : Nat) (w1 : zW), k + m = 8 → z_fr [41, 46, 47] w w1 → (∀ c : Nat, c < 144 → w1 46 0 c = ((msk (nrP w i r c) k : Nat) : Int)) →
    ∃ w2, D_parish_6 (d + 3) r i k w1 = D_parish_9 (d + 3) i (-2) 0 w2 ∧ z_fr [41, 46, 47] w w2 ∧ ∀ c : Nat, c < 144 → w2 46 0 c = ((msk (nrP w i r c) 8 : Nat) : Int) := by
  intro m
  induction m with
  | zero =>
    intro k w1 hk hf hM
    have hk8 : k = 8 := by omega
    subst hk8
    exact ⟨w1, by rw [e_D_parish_6, if_pos (by decide)], hf, hM⟩
  | succ m ih =>
    intro k w1 hk hf hM
    have hnr : ∀ c q, nrP w1 i r c q ↔ nrP w i r c q := fun c q => by
      unfold nrP
      rw [hf 31 (by decide), hf 9 (by decide), hf 34 (by decide), hf 39 (by decide)]
    have hmk : ∀ c q, msk (nrP w1 i r c) q = msk (nrP w i r c) q := fun c q => by
      unfold nrP
      rw [hf 31 (by decide), hf 9 (by decide), hf 34 (by decide), hf 39 (by decide)]
    obtain ⟨w2, q1, q2, q3⟩ := s_reach (d := d) (k := k) (r := r) (w := w1) (by omega) (RW_fr (fun c hc => hf c (by revert hc; revert c; decide)) hW) (by rw [hf 31 (by decide)]; exact hp k (by omega) (by omega)) (fun c hc => by rw [hmk]; exact hM c hc)
    obtain ⟨w3, t1, t2⟩ := ih (k + 1) w2 (by omega) (fr_tr hf q2) (fun c hc => by rw [q3 c hc, hmk])
    refine ⟨w3, ?_, t2⟩
    rw [e_D_parish_6, if_neg (by omega), q1, bnd]
    dsimp only
    rw [gd_t (by omega)]
    exact t1
