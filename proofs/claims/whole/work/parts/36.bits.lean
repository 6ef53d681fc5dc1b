/-! bits of numbers that are not below 0 -/
theorem bnd {α β : Type} (x : α) (f : α → Option β) : (some x).bind f = f x := rfl
theorem bv_nat (a : Nat) : (Int32.ofInt (a : Int)).toBitVec = BitVec.ofNat 32 a := by
  rw [Int32.toBitVec_ofInt, BitVec.ofInt_natCast]
theorem bv_int {x : Int32} (h : 2 * x.toBitVec.toNat < 2 ^ 32) : x.toInt = (x.toBitVec.toNat : Int) := BitVec.toInt_eq_toNat_of_lt h
theorem z_and_nat {a b : Nat} (ha : a < 2147483648) (hb : b < 2147483648) : z_and a b = ((a &&& b : Nat) : Int) := by
  have hn : (Int32.ofInt (a : Int) &&& Int32.ofInt (b : Int)).toBitVec.toNat = a &&& b := by
    rw [Int32.toBitVec_and, BitVec.toNat_and, bv_nat, bv_nat, BitVec.toNat_ofNat, BitVec.toNat_ofNat, Nat.mod_eq_of_lt (by omega), Nat.mod_eq_of_lt (by omega)]
  have hle : a &&& b ≤ a := Nat.and_le_left
  unfold z_and
  rw [bv_int (by rw [hn]; omega), hn]
theorem z_or_nat {a b : Nat} (ha : a < 2147483648) (hb : b < 2147483648) : z_or a b = ((a ||| b : Nat) : Int) := by
  have hn : (Int32.ofInt (a : Int) ||| Int32.ofInt (b : Int)).toBitVec.toNat = a ||| b := by
    rw [Int32.toBitVec_or, BitVec.toNat_or, bv_nat, bv_nat, BitVec.toNat_ofNat, BitVec.toNat_ofNat, Nat.mod_eq_of_lt (by omega), Nat.mod_eq_of_lt (by omega)]
  have hlt : a ||| b < 2 ^ 31 := Nat.or_lt_two_pow (by omega) (by omega)
  unfold z_or
  rw [bv_int (by rw [hn]; omega), hn]
theorem z_and_255 {a : Int} (h : 0 ≤ a ∧ a < 2147483648) : z_and a 255 = a % 256 := by
  obtain ⟨n, rfl⟩ : ∃ n : Nat, a = n := ⟨a.toNat, by omega⟩
  have := z_and_nat (a := n) (b := 255) (by omega) (by omega)
  have h2 : n &&& 255 = n % 256 := Nat.and_two_pow_sub_one_eq_mod n 8
  rw [h2] at this
  exact this
theorem z_and_15 {a : Int} (h : 0 ≤ a ∧ a < 2147483648) : z_and a 15 = a % 16 := by
  obtain ⟨n, rfl⟩ : ∃ n : Nat, a = n := ⟨a.toNat, by omega⟩
  have := z_and_nat (a := n) (b := 15) (by omega) (by omega)
  have h2 : n &&& 15 = n % 16 := Nat.and_two_pow_sub_one_eq_mod n 4
  rw [h2] at this
  exact this
theorem z_and_3 {a : Int} (h : 0 ≤ a ∧ a < 2147483648) : z_and a 3 = a % 4 := by
  obtain ⟨n, rfl⟩ : ∃ n : Nat, a = n := ⟨a.toNat, by omega⟩
  have := z_and_nat (a := n) (b := 3) (by omega) (by omega)
  have h2 : n &&& 3 = n % 4 := Nat.and_two_pow_sub_one_eq_mod n 2
  rw [h2] at this
  exact this
theorem z_and_1 {a : Int} (h : 0 ≤ a ∧ a < 2147483648) : z_and a 1 = a % 2 := by
  obtain ⟨n, rfl⟩ : ∃ n : Nat, a = n := ⟨a.toNat, by omega⟩
  have := z_and_nat (a := n) (b := 1) (by omega) (by omega)
  have h2 : n &&& 1 = n % 2 := Nat.and_two_pow_sub_one_eq_mod n 1
  rw [h2] at this
  exact this
theorem z_or_mul {a b : Int} {k : Nat} (ha : 0 ≤ a ∧ a < 2 ^ k) (hb : 0 ≤ b) (hk : a + b * 2 ^ k < 2147483648) : z_or a (b * 2 ^ k) = a + b * 2 ^ k := by
  obtain ⟨n, rfl⟩ : ∃ n : Nat, a = n := ⟨a.toNat, by omega⟩
  obtain ⟨m, rfl⟩ : ∃ m : Nat, b = m := ⟨b.toNat, by omega⟩
  have h0 : ((m : Int) * 2 ^ k) = ((m * 2 ^ k : Nat) : Int) := by push_cast; rfl
  have hn : n < 2 ^ k := by
    have := ha.2
    have h1 : ((2 : Int) ^ k) = ((2 ^ k : Nat) : Int) := by push_cast; rfl
    omega
  rw [h0] at hk ⊢
  rw [z_or_nat (by omega) (by omega)]
  have h3 : n ||| m * 2 ^ k = n + m * 2 ^ k := by
    rw [Nat.or_comm, Nat.mul_comm, ← Nat.two_pow_add_eq_or_of_lt hn, Nat.add_comm]
  rw [h3]
  push_cast
  rfl
/-- truth values of 64 bits -/
abbrev isB (x : Int) : Prop := x = 0 ∨ x = 1
theorem b_and {x y : Int} (hx : isB x) (hy : isB y) : z_andL x y = x * y := by
  rcases hx with rfl | rfl <;> rcases hy with rfl | rfl <;> decide
theorem b_or {x y : Int} (hx : isB x) (hy : isB y) : z_orL x y = max x y := by
  rcases hx with rfl | rfl <;> rcases hy with rfl | rfl <;> decide
theorem b_andB {x y : Int} (hx : isB x) (hy : isB y) : isB (z_andL x y) := by
  rcases hx with rfl | rfl <;> rcases hy with rfl | rfl <;> decide
theorem b_orB {x y : Int} (hx : isB x) (hy : isB y) : isB (z_orL x y) := by
  rcases hx with rfl | rfl <;> rcases hy with rfl | rfl <;> decide
theorem b_notB {x : Int} (hx : isB x) : isB (z_wL (1 - x)) := by
  rcases hx with rfl | rfl <;> decide
/-! CODE: a list of signs, each with its number -/
abbrev tok := Int × Int
/-- a comparison or a number-sign, of two -/
def one (op a b : Int) : Int := if op = 2 then z_wL (a + b) else if op = 3 then z_wL (a - b) else if op = 4 then z_wL (a * b) else if op = 5 then (if b = 0 then 0 else z_wL (Int.tdiv a b)) else if op = 6 then (if b ≤ a then 0 else 1) else if op = 7 then (if b < a then 0 else 1) else if op = 8 then (if a = b then 1 else 0) else if op = 9 then (if a < b then 0 else 1) else if op = 10 then (if a ≤ b then 0 else 1) else if op = 12 then z_andL a b else z_orL a b
def evs (W : Int → Int) : List tok → (Int → Int) → Int → (Int → Int)
  | [], S, _ => S
  | (op, v) :: L, S, h => if op = 0 then evs W L (upF S h v) (h + 1) else if op = 1 then evs W L (upF S h (W v)) (h + 1) else if op = 11 then evs W L (upF S (h - 1) (z_wL (1 - S (h - 1)))) h else evs W L (upF S (h - 2) (one op (S (h - 2)) (S (h - 1)))) (h - 1)
/-- what kinds lie on the stack: numbers (false), truths (true) -/
def trun : List tok → List Bool → Option (List Bool)
  | [], ts => some ts
  | (op, _) :: L, ts => if op = 0 ∨ op = 1 then trun L (false :: ts) else match ts with
    | true :: t2 => if op = 11 then trun L (true :: t2) else match t2 with
      | true :: t3 => if op = 12 ∨ op = 13 then trun L (true :: t3) else none
      | _ => none
    | false :: false :: t3 => if 2 ≤ op ∧ op ≤ 5 then trun L (false :: t3) else if 6 ≤ op ∧ op ≤ 10 then trun L (true :: t3) else none
    | _ => none
theorem trun_app {L M : List tok} : ∀ {ts : List Bool}, trun (L ++ M) ts = (trun L ts).bind (trun M) := by
  induction L with
  | nil => intro ts; rfl
  | cons t L ih =>
    intro ts
    obtain ⟨op, v⟩ := t
    show trun ((op, v) :: (L ++ M)) ts = _
    unfold trun
    split
    · exact ih
    · split
      · split
        · exact ih
        · split
          · split
            · exact ih
            · rfl
          · rfl
      · split
        · exact ih
        · split
          · exact ih
          · rfl
      · rfl
