/-! PARISH: sets of posts -/
theorem z_andN {n T : Nat} (hn : n < 256) (hT : T < 256) : z_and n (z_xor T (-1)) = 0 ↔ n &&& T = n := by
  have h1 : (Int32.ofInt (-1)).toBitVec.toNat = 2 ^ 32 - 1 := by decide +kernel
  have hb : (Int32.ofInt (n : Int) &&& (Int32.ofInt (T : Int) ^^^ Int32.ofInt (-1))).toBitVec.toNat = n &&& (T ^^^ (2 ^ 32 - 1)) := by
    rw [Int32.toBitVec_and, BitVec.toNat_and, Int32.toBitVec_xor, BitVec.toNat_xor, h1, bv_nat, bv_nat, BitVec.toNat_ofNat, BitVec.toNat_ofNat, Nat.mod_eq_of_lt (by omega), Nat.mod_eq_of_lt (by omega)]
  have hle : n &&& (T ^^^ (2 ^ 32 - 1)) ≤ n := Nat.and_le_left
  have hz : z_and n (z_xor T (-1)) = ((n &&& (T ^^^ (2 ^ 32 - 1)) : Nat) : Int) := by
    unfold z_and z_xor
    rw [Int32.ofInt_toInt, bv_int (by rw [hb]; omega), hb]
  have hbit : ∀ i : Nat, (n &&& (T ^^^ (2 ^ 32 - 1))).testBit i = (n.testBit i && !T.testBit i) := fun i => by
    rw [Nat.testBit_and, Nat.testBit_xor, Nat.testBit_two_pow_sub_one]
    by_cases q : i < 32
    · rw [decide_eq_true q]
      cases n.testBit i <;> cases T.testBit i <;> rfl
    · have : n.testBit i = false := Nat.testBit_lt_two_pow (Nat.lt_of_lt_of_le (show n < 2 ^ 8 from hn) (Nat.pow_le_pow_right (by decide) (by omega)))
      rw [this]
      rfl
  rw [hz]
  constructor
  · intro h
    have h0 : n &&& (T ^^^ (2 ^ 32 - 1)) = 0 := by omega
    refine Nat.eq_of_testBit_eq fun i => ?_
    have hi := hbit i
    rw [h0, Nat.zero_testBit] at hi
    rw [Nat.testBit_and]
    revert hi
    cases n.testBit i <;> cases T.testBit i <;> intro hi
    · rfl
    · rfl
    · exact absurd hi (by decide)
    · rfl
  · intro h
    have h0 : n &&& (T ^^^ (2 ^ 32 - 1)) = 0 := by
      refine Nat.eq_of_testBit_eq fun i => ?_
      rw [hbit i, Nat.zero_testBit]
      have hi : (n &&& T).testBit i = n.testBit i := by rw [h]
      rw [Nat.testBit_and] at hi
      revert hi
      cases n.testBit i <;> cases T.testBit i <;> intro hi
      · rfl
      · rfl
      · exact absurd hi (by decide)
      · rfl
    rw [h0]
    rfl
theorem bit_le (n T i : Nat) : (n &&& T) / 2 ^ i % 2 ≤ n / 2 ^ i % 2 := by
  have h1 := Nat.testBit_eq_decide_div_mod_eq (x := n &&& T) (i := i)
  have h2 := Nat.testBit_eq_decide_div_mod_eq (x := n) (i := i)
  rw [Nat.testBit_and, h2] at h1
  by_cases q : (n &&& T) / 2 ^ i % 2 = 1
  · rw [decide_eq_true q] at h1
    by_cases z : n / 2 ^ i % 2 = 1
    · omega
    · rw [decide_eq_false z] at h1
      exact absurd h1 (by cases T.testBit i <;> decide)
  · omega
theorem dec8 : ∀ m : Nat, m < 256 → m = m / 2 ^ 0 % 2 + 2 * (m / 2 ^ 1 % 2) + 4 * (m / 2 ^ 2 % 2) + 8 * (m / 2 ^ 3 % 2) + 16 * (m / 2 ^ 4 % 2) + 32 * (m / 2 ^ 5 % 2) + 64 * (m / 2 ^ 6 % 2) + 128 * (m / 2 ^ 7 % 2) := by decide +kernel
theorem pc8 : ∀ m : Nat, m < 256 → pc m = ((m / 2 ^ 0 % 2 + m / 2 ^ 1 % 2 + m / 2 ^ 2 % 2 + m / 2 ^ 3 % 2 + m / 2 ^ 4 % 2 + m / 2 ^ 5 % 2 + m / 2 ^ 6 % 2 + m / 2 ^ 7 % 2 : Nat) : Int) := by decide +kernel
theorem sum8 {x0 x1 x2 x3 x4 x5 x6 x7 y0 y1 y2 y3 y4 y5 y6 y7 : Nat} (b0 : x0 ≤ y0) (b1 : x1 ≤ y1) (b2 : x2 ≤ y2) (b3 : x3 ≤ y3) (b4 : x4 ≤ y4) (b5 : x5 ≤ y5) (b6 : x6 ≤ y6) (b7 : x7 ≤ y7) (h : y0 + y1 + y2 + y3 + y4 + y5 + y6 + y7 ≤ x0 + x1 + x2 + x3 + x4 + x5 + x6 + x7) : x0 = y0 ∧ x1 = y1 ∧ x2 = y2 ∧ x3 = y3 ∧ x4 = y4 ∧ x5 = y5 ∧ x6 = y6 ∧ x7 = y7 :=
  ⟨by omega, by omega, by omega, by omega, by omega, by omega, by omega, by omega⟩
theorem pc_lt {n T : Nat} (hn : n < 256) (h : n &&& T ≠ n) : n &&& T < n ∧ pc ((n &&& T : Nat) : Int) < pc n := by
  have hle : n &&& T ≤ n := Nat.and_le_left
  have hm : n &&& T < 256 := Nat.lt_of_le_of_lt hle hn
  refine ⟨Nat.lt_of_le_of_ne hle h, ?_⟩
  rw [pc8 n hn, pc8 (n &&& T) hm]
  refine Int.ofNat_lt.mpr (Nat.lt_of_not_le fun q => h ?_)
  obtain ⟨e0, e1, e2, e3, e4, e5, e6, e7⟩ := sum8 (bit_le n T 0) (bit_le n T 1) (bit_le n T 2) (bit_le n T 3) (bit_le n T 4) (bit_le n T 5) (bit_le n T 6) (bit_le n T 7) q
  have d2 := dec8 (n &&& T) hm
  rw [e0, e1, e2, e3, e4, e5, e6, e7] at d2
  exact d2.trans (dec8 n hn).symm
def msk (P : Nat → Prop) [∀ k, Decidable (P k)] : Nat → Nat
  | 0 => 0
  | k + 1 => if P k then msk P k ||| 2 ^ k else msk P k
theorem msk_lt {P : Nat → Prop} [∀ k, Decidable (P k)] : ∀ k, msk P k < 2 ^ k := by
  intro k
  induction k with
  | zero => exact Nat.zero_lt_one
  | succ k ih =>
    show (if P k then msk P k ||| 2 ^ k else msk P k) < 2 ^ (k + 1)
    have h2 : 2 ^ k < 2 ^ (k + 1) := Nat.pow_lt_pow_right (by decide) (by omega)
    by_cases q : P k
    · rw [if_pos q]
      exact Nat.or_lt_two_pow (by omega) h2
    · rw [if_neg q]
      omega
theorem msk_bit {P : Nat → Prop} [∀ k, Decidable (P k)] (i : Nat) : ∀ k, (msk P k).testBit i = true ↔ i < k ∧ P i := by
  intro k
  induction k with
  | zero =>
    show (0 : Nat).testBit i = true ↔ _
    rw [Nat.zero_testBit]
    exact ⟨fun q => absurd q (by decide), fun q => absurd q.1 (Nat.not_lt_zero _)⟩
  | succ k ih =>
    show (if P k then msk P k ||| 2 ^ k else msk P k).testBit i = true ↔ _
    by_cases q : P k
    · rw [if_pos q, Nat.testBit_or, Bool.or_eq_true, ih, Nat.testBit_two_pow, decide_eq_true_iff]
      constructor
      · rintro (⟨a, b⟩ | a)
        · exact ⟨by omega, b⟩
        · exact ⟨by omega, by rw [← a]; exact q⟩
      · rintro ⟨a, b⟩
        by_cases z : k = i
        · exact Or.inr z
        · exact Or.inl ⟨by omega, b⟩
    · rw [if_neg q, ih]
      constructor
      · rintro ⟨a, b⟩
        exact ⟨by omega, b⟩
      · rintro ⟨a, b⟩
        by_cases z : k = i
        · exact absurd (by rw [z]; exact b) q
        · exact ⟨by omega, b⟩
theorem msk_sub {P Q : Nat → Prop} [∀ k, Decidable (P k)] [∀ k, Decidable (Q k)] (h : ∀ k, P k → Q k) (k : Nat) : msk P k &&& msk Q k = msk P k := by
  refine Nat.eq_of_testBit_eq fun i => ?_
  rw [Nat.testBit_and]
  by_cases q : (msk P k).testBit i = true
  · have := (msk_bit i k).1 q
    rw [q, (msk_bit (P := Q) i k).2 ⟨this.1, h i this.2⟩]
    rfl
  · rw [Bool.not_eq_true _ |>.mp q]
    rfl
theorem z_or_msk {m k : Nat} (hm : m < 256) (hk : k < 8) : z_or m (1 * 2 ^ ((k : Nat) : Int).toNat) = ((m ||| 2 ^ k : Nat) : Int) := by
  have h1 : (1 * 2 ^ ((k : Nat) : Int).toNat : Int) = ((2 ^ k : Nat) : Int) := by
    rw [Int.one_mul, Int.toNat_natCast]
    push_cast
    rfl
  have h2 : 2 ^ k < 2 ^ 8 := Nat.pow_lt_pow_right (by decide) hk
  rw [h1, z_or_nat (by omega) (by omega)]
theorem z_or_0 {m : Nat} (hm : m < 256) : z_or m 0 = m := by
  have := z_or_nat (a := m) (b := 0) (by omega) (by decide)
  rw [Nat.or_zero] at this
  exact this
theorem far_bd {nx : Int → Int} (hn : nxB nx) {a : Int} (ha : 0 ≤ a ∧ a < 144) : ∀ c, 0 ≤ c → c < 144 → -1 ≤ far nx a c ∧ far nx a c < 145 := fun c c0 c1 => by
  have hI : ∀ (f : Nat) (k : Int) (s : bS), 0 ≤ k → bI s → bI (bL nx f k s) := by
    intro f
    induction f with
    | zero => intro k s _ h; exact h
    | succ f ih =>
      intro k s k0 h
      show bI (if s.2.2 ≤ k then s else _)
      by_cases z : s.2.2 ≤ k
      · rw [if_pos z]; exact h
      · rw [if_neg z]
        have hq := h.2.2.2 k k0 (by omega)
        exact ih (k + 1) _ (by omega) (b4_I hn hq.1 4 0 s (by omega) (by omega) hq.2 h).1
  have h := hI 144 0 (bB (fun _ => -1) (fun _ => 0) a) (by omega) (bB_I ha (fun _ _ _ => rfl))
  have h1 := h.1 c c0 c1
  have h2 := h.2.1
  have h3 := cn_le (P := nv (bL nx 144 0 (bB (fun _ => -1) (fun _ => 0) a)).1) (n := 144)
  unfold far
  omega
