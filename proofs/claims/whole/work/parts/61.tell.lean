/-! SIGNS: the class's telling. Kinds: 5 strike, 6 felt, 7 seen, 8 heard -/
def ck (kd : Int) : Int := if kd = 5 then 3 else kd - 6
theorem s_tell_step {d : Nat} {i j kd a b see k : Int} {c : Nat} {w1 : zW} (hi : w1 7 0 0 = i) (hj : w1 7 0 1 = j) (hk : 5 ≤ kd ∧ kd ≤ 8) (hlt : 0 ≤ k ∧ k < w1 9 i 13 ∧ k < 144) (hl : w1 40 i k = c) (hc : c < 144) (bf : 0 ≤ w1 2 j 2 ∧ w1 2 j 2 ≤ 1000) (bs : 0 ≤ see ∧ see ≤ 1000) (bh : 0 ≤ w1 2 j 4 ∧ w1 2 j 4 ≤ 1000) (ha : kd = 8 → 0 ≤ a ∧ a < w1 9 i 3 ∧ w1 9 i 3 ≤ 4 ∧ 0 ≤ w1 32 i (a * 144 + c) ∧ w1 32 i (a * 144 + c) ≤ 40 ∧ 0 ≤ b ∧ b ≤ 40) :
    Setting_tell_1 (d + 1) kd a b see k w1 = Setting_tell_1 (d + 1) kd a b see (k + 1) (z_up w1 24 0 c (chF (ck kd) a b (w1 33 i) (w1 35 i) (w1 36 i) (fun c => w1 32 i (a * 144 + c)) (w1 2 j 2) see (w1 2 j 4) c)) := by
  rw [e_Setting_tell_1, hi, hj, hl, if_neg (by omega), gd_t (by omega)]
  have n76 : ¬ (7 : Int) = 6 := by decide
  have n86 : ¬ (8 : Int) = 6 := by decide
  have n87 : ¬ (8 : Int) = 7 := by decide
  have n56 : ¬ (5 : Int) = 6 := by decide
  have n57 : ¬ (5 : Int) = 7 := by decide
  have n58 : ¬ (5 : Int) = 8 := by decide
  have n10 : ¬ (1 : Int) = 0 := by decide
  have n20 : ¬ (2 : Int) = 0 := by decide
  have n21 : ¬ (2 : Int) = 1 := by decide
  have n23 : ¬ (2 : Int) = 3 := by decide
  have n30 : ¬ (3 : Int) = 0 := by decide
  have n31 : ¬ (3 : Int) = 1 := by decide
  have k6 : ck 6 = 0 := by decide
  have k7 : ck 7 = 1 := by decide
  have k8 : ck 8 = 2 := by decide
  have k5 : ck 5 = 3 := by decide
  unfold chF
  have : kd = 6 ∨ kd = 7 ∨ kd = 8 ∨ kd = 5 := by omega
  rcases this with rfl | rfl | rfl | rfl
  · rw [k6, if_pos (show (6 : Int) = 6 from rfl), if_pos (show (0 : Int) = 0 from rfl), gd_t (by omega)]
    by_cases q : w1 35 i c = a
    · rw [if_pos q, if_pos q]
      simp (disch := omega) only [gd_t]
    · rw [if_neg q, if_neg q]
      simp (disch := omega) only [gd_t]
  · rw [k7, if_neg n76, if_pos (show (7 : Int) = 7 from rfl), if_neg n10, if_pos (show (1 : Int) = 1 from rfl), gd_t (by omega)]
    by_cases q : w1 36 i c = a
    · rw [if_pos q, if_pos q]
      simp (disch := omega) only [gd_t]
    · rw [if_neg q, if_neg q]
      simp (disch := omega) only [gd_t]
  · obtain ⟨a0, a1, a2, a3, a4, b0, b1⟩ := ha rfl
    rw [k8, if_neg n86, if_neg n87, if_pos (show (8 : Int) = 8 from rfl), if_neg n20, if_neg n21, if_neg n23, s_loudAt a2 (by omega) (by omega), bnd, if_pos ⟨a0, a1⟩]
    dsimp only
    simp only [hj]
    rw [gd_t (by omega), gd_t (by omega)]
    by_cases q : max (w1 32 i (a * 144 + c) - b) (-(w1 32 i (a * 144 + c) - b)) = 0
    · rw [if_pos q, if_pos q]
      simp (disch := omega) only [gd_t]
    · rw [if_neg q, if_neg q, gd_t (by omega)]
      by_cases q1 : max (w1 32 i (a * 144 + c) - b) (-(w1 32 i (a * 144 + c) - b)) = 1
      · rw [if_pos q1, if_pos q1]
        simp (disch := omega) only [gd_t]
      · rw [if_neg q1, if_neg q1]
        simp (disch := omega) only [gd_t]
  · rw [k5, if_neg n56, if_neg n57, if_neg n58, if_neg n30, if_neg n31, if_pos (show (3 : Int) = 3 from rfl), gd_t (by omega)]
    by_cases q : w1 35 i c = a
    · rw [if_pos q, if_pos q, gd_t (by omega)]
      by_cases q1 : w1 33 i c = b
      · rw [if_pos q1, if_pos q1]
        simp (disch := omega) only [gd_t]
      · rw [if_neg q1, if_neg q1]
        simp (disch := omega) only [gd_t]
    · rw [if_neg q, if_neg q]
      simp (disch := omega) only [gd_t]
/-- a sign's chances, of a world -/
def eCh (w : zW) (i j kd a b e : Int) : Int → Int := chF (ck kd) a b (w 33 i) (w 35 i) (w 36 i) (fun c => w 32 i (a * 144 + c)) (w 2 j 2) (max 100 (w 2 j 3 * e / 30)) (w 2 j 4)
/-- what a law keeps -/
def lwB (w : zW) (j : Int) : Prop := (0 ≤ w 2 j 1 ∧ w 2 j 1 ≤ 500) ∧ (0 ≤ w 2 j 2 ∧ w 2 j 2 ≤ 1000) ∧ (0 ≤ w 2 j 3 ∧ w 2 j 3 ≤ 1000) ∧ (0 ≤ w 2 j 4 ∧ w 2 j 4 ≤ 1000)
/-- a sign that can be told -/
def sgB (w : zW) (i kd a b : Int) : Prop := kd = 8 → 0 ≤ a ∧ a < w 9 i 3 ∧ w 9 i 3 ≤ 4 ∧ (∀ c : Nat, c < 144 → 0 ≤ w 32 i (a * 144 + c) ∧ w 32 i (a * 144 + c) ≤ 40) ∧ 0 ≤ b ∧ b ≤ 40
theorem see_bd {s e : Int} (hs : 0 ≤ s ∧ s ≤ 1000) (he : 0 ≤ e ∧ e ≤ 30) : 0 ≤ max 100 (s * e / 30) ∧ max 100 (s * e / 30) ≤ 1000 := by
  have p0 : 0 ≤ s * e := Int.mul_nonneg hs.1 he.1
  have p1 : s * e ≤ 1000 * 30 := Int.mul_le_mul hs.2 he.2 he.1 (by decide)
  omega
theorem eCh_bd {w : zW} {i j kd a b e : Int} (hl : lwB w j) (he : 0 ≤ e ∧ e ≤ 30) (c : Int) : 0 ≤ eCh w i j kd a b e c ∧ eCh w i j kd a b e c ≤ 1000 := chF_bd hl.2.1 (see_bd hl.2.2.1 he) hl.2.2.2 c
theorem s_tell_1 {d : Nat} {i j kd a b e : Int} {w : zW} (hi : w 7 0 0 = i) (hj : w 7 0 1 = j) (hk : 5 ≤ kd ∧ kd ≤ 8) (hW : WO w i) (hl : lwB w j) (hs : sgB w i kd a b) (he : 0 ≤ e ∧ e ≤ 30) : ∀ (m k n : Nat) (w1 : zW), (k : Int) + m = w 9 i 13 → n ≤ 144 → cn (opw w i) n = k → z_fr [24] w w1 → (∀ c : Nat, c < n → opw w i c → w1 24 0 c = eCh w i j kd a b e c) →
    ∃ w2, Setting_tell_1 (d + 1) kd a b (max 100 (w 2 j 3 * e / 30)) k w1 = some (0, w2) ∧ z_fr [24] w w2 ∧ (∀ c : Nat, c < 144 → opw w i c → w2 24 0 c = eCh w i j kd a b e c) := by
  intro m
  induction m with
  | zero =>
    intro k n w1 hk' hn hcn hf hin
    have h1 := hW.1
    have r7 := hf 7 (by decide)
    have r9 := hf 9 (by decide)
    refine ⟨w1, ?_, hf, fun c hc hp => hin c ?_ hp⟩
    · rw [e_Setting_tell_1, r7, r9, hi, if_pos (by omega)]
    · have := cn_lt (P := opw w i) hc hp
      rcases Nat.lt_or_ge c n with q | q
      · exact q
      · have := cn_mono (P := opw w i) q
        omega
  | succ m ih =>
    intro k n w1 hk' hn hcn hf hin
    obtain ⟨c, hc, hop, hcc, hlc⟩ := hW.at (k := k) (by omega)
    have hlen := hW.len
    have hnc := cn_at (P := opw w i) hop (n := n) (by omega)
    have r7 := hf 7 (by decide)
    have r9 := hf 9 (by decide)
    have r40 := hf 40 (by decide)
    have r2 := hf 2 (by decide)
    have r32 := hf 32 (by decide)
    have r33 := hf 33 (by decide)
    have r35 := hf 35 (by decide)
    have r36 := hf 36 (by decide)
    have hst := s_tell_step (d := d) (i := i) (j := j) (kd := kd) (a := a) (b := b) (see := max 100 (w 2 j 3 * e / 30)) (k := k) (c := c) (w1 := w1) (by rw [r7]; exact hi) (by rw [r7]; exact hj) hk ⟨by omega, by rw [r9]; omega, by omega⟩ (by rw [r40]; exact hlc) hc (by rw [r2]; exact hl.2.1) (see_bd hl.2.2.1 he) (by rw [r2]; exact hl.2.2.2) (fun q => by
      obtain ⟨s1, s2, s3, s4, s5, s6⟩ := hs q
      rw [r9, r32]
      exact ⟨s1, s2, s3, (s4 c hc).1, (s4 c hc).2, s5, s6⟩)
    have hF : chF (ck kd) a b (w1 33 i) (w1 35 i) (w1 36 i) (fun c => w1 32 i (a * 144 + c)) (w1 2 j 2) (max 100 (w 2 j 3 * e / 30)) (w1 2 j 4) c = eCh w i j kd a b e c := by
      rw [r33, r35, r36, r32, r2]
      rfl
    rw [hst, hF]
    have hcn1 : cn (opw w i) (c + 1) = k + 1 := by
      show (if opw w i c then _ else _) = _
      rw [if_pos hop, hcc]
    refine ih (k + 1) (c + 1) _ (by omega) (by omega) hcn1 (fr_tr hf (fr_up (by decide))) (fun x hx hp => ?_)
    by_cases q : x = c
    · rw [q, up_h]
    · rw [up_s (by omega)]
      refine hin x ?_ hp
      rcases Nat.lt_or_ge x n with z | z
      · exact z
      · exact absurd (by omega) (cn_mid (P := opw w i) hp (n := n) (c := c) (by omega) z)
theorem s_tell {d : Nat} {i j kd a b e : Int} {w : zW} (hi : w 7 0 0 = i) (hj : w 7 0 1 = j) (hk : 5 ≤ kd ∧ kd ≤ 8) (hW : WO w i) (hl : lwB w j) (hs : sgB w i kd a b) (he : 0 ≤ e ∧ e ≤ 30) :
    ∃ w2, Setting_tell (d + 1) kd a b e w = some (0, w2) ∧ z_fr [24] w w2 ∧ (∀ c : Nat, c < 144 → opw w i c → w2 24 0 c = eCh w i j kd a b e c) := by
  rw [e_Setting_tell, hj, s_seeing hl.2.2.1 he, bnd]
  exact s_tell_1 hi hj hk hW hl hs he (w 9 i 13).toNat 0 0 w (by have := hW.len; omega) (by omega) rfl (fr_rf _ _) (fun c hc _ => absurd hc (Nat.not_lt_zero _))
