/-! numbers of the machine by whole numbers -/
theorem n_i {z : Int} (h : inI z) : (Int32.ofInt z).toInt = z := by
  rw [Int32.toInt_ofInt]
  obtain ⟨h1, h2⟩ := h
  rw [Int.bmod_def]
  have e : ((2 ^ 32 : Nat) : Int) = 4294967296 := by decide
  simp only [Int32.size, e]
  omega
theorem n_l {z : Int} (h : inL z) : (Int64.ofInt z).toInt = z := by
  rw [Int64.toInt_ofInt]
  obtain ⟨h1, h2⟩ := h
  rw [Int.bmod_def]
  have e : ((2 ^ 64 : Nat) : Int) = 18446744073709551616 := by decide
  simp only [Int64.size, e]
  omega
theorem n_iT (x : Int32) : Int32.ofInt x.toInt = x := by simp
theorem n_lT (x : Int64) : Int64.ofInt x.toInt = x := by simp
theorem n_ir (x : Int32) : inI x.toInt := ⟨Int32.le_toInt x, by have := Int32.toInt_lt x; omega⟩
theorem n_lr (x : Int64) : inL x.toInt := ⟨Int64.le_toInt x, by have := Int64.toInt_lt x; omega⟩
theorem n_ieq {a b : Int} (ha : inI a) (hb : inI b) : Int32.ofInt a = Int32.ofInt b ↔ a = b := by
  constructor
  · intro h
    have := congrArg Int32.toInt h
    rwa [n_i ha, n_i hb] at this
  · intro h; rw [h]
theorem n_ilt {a b : Int} (ha : inI a) (hb : inI b) : Int32.ofInt a < Int32.ofInt b ↔ a < b := by
  rw [Int32.lt_iff_toInt_lt, n_i ha, n_i hb]
theorem n_ile {a b : Int} (ha : inI a) (hb : inI b) : Int32.ofInt a ≤ Int32.ofInt b ↔ a ≤ b := by
  rw [Int32.le_iff_toInt_le, n_i ha, n_i hb]
theorem n_i0 : Int32.ofInt 0 = 0 := by decide
theorem n_in0 : inI 0 := by decide
theorem n_llt {a b : Int} (ha : inL a) (hb : inL b) : Int64.ofInt a < Int64.ofInt b ↔ a < b := by
  rw [Int64.lt_iff_toInt_lt, n_l ha, n_l hb]
theorem n_leq {a b : Int} (ha : inL a) (hb : inL b) : Int64.ofInt a = Int64.ofInt b ↔ a = b := by
  constructor
  · intro h
    have := congrArg Int64.toInt h
    rwa [n_l ha, n_l hb] at this
  · intro h; rw [h]
theorem n_cl {s : Int} (h : inI s) : (Int32.ofInt s).toNatClampNeg = s.toNat := by
  show (Int32.ofInt s).toInt.toNat = s.toNat
  rw [n_i h]
theorem n_vp {s : Int} {n : Nat} (h : inI s) (h0 : 0 ≤ s) (h1 : s < n) : vp_in (Int32.ofInt s) n := by
  rw [vp_in_iff, n_i h]
  exact ⟨h0, h1⟩
theorem n_idiv {a b : Int} (ha : inI a) (hb : inI b) (h0 : 0 ≤ a) (h1 : 0 < b) : Int32.ofInt a / Int32.ofInt b = Int32.ofInt (a / b) ∧ inI (a / b) := by
  have hle : a / b ≤ a := Int.ediv_le_self b h0
  have hge : 0 ≤ a / b := Int.ediv_nonneg h0 (by omega)
  have hin : inI (a / b) := ⟨by have := ha.1; omega, by have := ha.2; omega⟩
  refine ⟨?_, hin⟩
  rw [← Int32.toInt_inj, Int32.toInt_div, n_i ha, n_i hb, n_i hin, Int.tdiv_eq_ediv_of_nonneg h0]
  rw [Int.bmod_def]
  have e : ((2 ^ 32 : Nat) : Int) = 4294967296 := by decide
  simp only [e]
  have := hin.1; have := hin.2
  omega
theorem n_irem {a b : Int} (ha : inI a) (hb : inI b) (h0 : 0 ≤ a) (h1 : 0 < b) : Int32.ofInt a - Int32.ofInt a / Int32.ofInt b * Int32.ofInt b = Int32.ofInt (a % b) ∧ inI (a % b) := by
  have hle : a % b < b := Int.emod_lt_of_pos a h1
  have hge : 0 ≤ a % b := Int.emod_nonneg a (by omega)
  have hin : inI (a % b) := ⟨by omega, by have := hb.2; omega⟩
  refine ⟨?_, hin⟩
  rw [← Int32.toInt_inj, rem_toInt, n_i ha, n_i hb, n_i hin, Int.tmod_eq_emod_of_nonneg h0]
theorem n_ldiv {a b : Int} (ha : inL a) (hb : inL b) (h0 : 0 ≤ a) (h1 : 0 < b) : Int64.ofInt a / Int64.ofInt b = Int64.ofInt (a / b) ∧ inL (a / b) := by
  have hle : a / b ≤ a := Int.ediv_le_self b h0
  have hge : 0 ≤ a / b := Int.ediv_nonneg h0 (by omega)
  have hin : inL (a / b) := ⟨by have := ha.1; omega, by have := ha.2; omega⟩
  refine ⟨?_, hin⟩
  rw [← Int64.toInt_inj, Int64.toInt_div, n_l ha, n_l hb, n_l hin, Int.tdiv_eq_ediv_of_nonneg h0, Int.bmod_def]
  have e : ((2 ^ 64 : Nat) : Int) = 18446744073709551616 := by decide
  simp only [e]
  have := hin.1; have := hin.2
  omega
theorem n_lrem {a b : Int} (ha : inL a) (hb : inL b) (h0 : 0 ≤ a) (h1 : 0 < b) : Int64.ofInt a - Int64.ofInt a / Int64.ofInt b * Int64.ofInt b = Int64.ofInt (a % b) ∧ inL (a % b) := by
  have hle : a % b < b := Int.emod_lt_of_pos a h1
  have hge : 0 ≤ a % b := Int.emod_nonneg a (by omega)
  have hin : inL (a % b) := ⟨by omega, by have := hb.2; omega⟩
  refine ⟨?_, hin⟩
  obtain ⟨d1, d2⟩ := n_ldiv ha hb h0 h1
  rw [d1, ← Int64.ofInt_mul, ← Int64.ofInt_sub, Int.emod_def, Int.mul_comm]
theorem n_wL (z : Int) : Int64.ofInt (z_wL z) = Int64.ofInt z ∧ inL (z_wL z) := by
  have hin : inL (z_wL z) := by unfold z_wL inL; omega
  refine ⟨?_, hin⟩
  rw [← Int64.toInt_inj, n_l hin, Int64.toInt_ofInt, Int.bmod_def]
  have e : ((2 ^ 64 : Nat) : Int) = 18446744073709551616 := by decide
  simp only [Int64.size, e]
  unfold z_wL
  omega
theorem n_ldivw {a b : Int} (ha : inL a) (hb : inL b) : Int64.ofInt a / Int64.ofInt b = Int64.ofInt (z_wL (Int.tdiv a b)) := by
  rw [(n_wL _).1, ← Int64.toInt_inj, Int64.toInt_div, n_l ha, n_l hb, Int64.toInt_ofInt]
theorem n_w8 (z : Int) (h : inI z) : (Int32.ofInt z).toInt8.toInt32 = Int32.ofInt (z_w8 z) ∧ inI (z_w8 z) := by
  have hin : inI (z_w8 z) := by unfold z_w8 inI; omega
  refine ⟨?_, hin⟩
  rw [← Int32.toInt_inj, n_i hin, Int8.toInt_toInt32, Int32.toInt_toInt8, n_i h, Int.bmod_def]
  unfold z_w8
  have e : ((2 ^ 8 : Nat) : Int) = 256 := by decide
  simp only [e]
  omega
theorem n_shc : ∀ k : Fin 32, ((Int32.ofInt (k.val : Int) &&& 31).toBitVec.smod 32).toNat = k.val := by decide +kernel
theorem n_shcL : ∀ k : Fin 64, (((Int32.ofInt (k.val : Int)).toInt64 &&& 63).toBitVec.smod 64).toNat = k.val := by decide +kernel
theorem n_ishr {a b : Int} (ha : inI a) (h0 : 0 ≤ b) (h1 : b < 32) : Int32.ofInt a >>> (Int32.ofInt b &&& 31) = Int32.ofInt (a / 2 ^ b.toNat) ∧ inI (a / 2 ^ b.toNat) := by
  obtain ⟨k, hk⟩ : ∃ k : Nat, b = (k : Int) := ⟨b.toNat, by omega⟩
  subst hk
  have hk : k < 32 := by omega
  have h2 := n_shc ⟨k, hk⟩
  have hp : (0 : Int) < 2 ^ k := by exact Int.pow_pos (by decide)
  have hin : inI (a / 2 ^ (k : Int).toNat) := by
    have e : (k : Int).toNat = k := by omega
    rw [e]
    constructor
    · rcases Int.le_total 0 a with q | q
      · have := Int.ediv_nonneg q (Int.le_of_lt hp); omega
      · have h3 : a ≤ a / 2 ^ k := by
          rw [Int.le_ediv_iff_mul_le hp]
          have h4 : (1 : Int) ≤ 2 ^ k := hp
          have h5 : a * 2 ^ k ≤ a * 1 := Int.mul_le_mul_of_nonpos_left q h4
          omega
        have := ha.1; omega
    · rcases Int.le_total 0 a with q | q
      · have := Int.ediv_le_self (2 ^ k) q; have := ha.2; omega
      · have : a / 2 ^ k ≤ 0 := by
          have := Int.ediv_le_ediv hp q
          simpa using this
        omega
  refine ⟨?_, hin⟩
  rw [← Int32.toInt_inj, n_i hin, pk_shr _ _ k h2, n_i ha]
  have e : (k : Int).toNat = k := by omega
  rw [e, Int.shiftRight_eq_div_pow]
  rfl
