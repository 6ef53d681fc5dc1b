/-! THE ABSTRACT MACHINE: worlds of whole numbers, values, acts (one an instruction), blocks, and what a block comes to -/
abbrev zW : Type := Nat → Int → Int → Int
abbrev zV : Type := Int ⊕ Int ⊕ (Nat × Int)
abbrev vI (z : Int) : zV := Sum.inl z
abbrev vL (z : Int) : zV := Sum.inr (Sum.inl z)
abbrev vR (c : Nat) (i : Int) : zV := Sum.inr (Sum.inr (c, i))
abbrev zL : Type := List (Option zV)
abbrev zS : Type := List zV
abbrev zR : Type := Option (Int × zW)
abbrev zK : Type := zL → zS → zW → zR
abbrev zC : Type := Nat → List zV → zW → zR
abbrev zG : Type := Nat → zK
abbrev zA : Type := zC → zG → zK → zK
/-- a guard -/
def gd {α : Type} (p : Prop) [Decidable p] (k : Option α) : Option α := if p then k else none
theorem gd_some {α : Type} {p : Prop} [Decidable p] {k : Option α} {r : α} : gd p k = some r ↔ p ∧ k = some r := by
  unfold gd
  split <;> simp [*]
theorem gd_t {α : Type} {p : Prop} [Decidable p] {k : Option α} (h : p) : gd p k = k := by simp [gd, h]
abbrev inI (z : Int) : Prop := -2147483648 ≤ z ∧ z ≤ 2147483647
abbrev inL (z : Int) : Prop := -9223372036854775808 ≤ z ∧ z ≤ 9223372036854775807
def z_get : zL → Nat → Option zV
  | [], _ => none
  | x :: _, 0 => x
  | _ :: l, n + 1 => z_get l n
def z_unl : Option zV → Option zV
  | some (Sum.inr (Sum.inl _)) => none
  | x => x
def z_st1 : zL → Nat → zV → zL
  | [], 0, v => [some v]
  | [], n + 1, v => none :: z_st1 [] n v
  | _ :: l, 0, v => some v :: l
  | x :: l, 1, v => z_unl x :: z_st1 l 0 v
  | x :: l, n + 2, v => x :: z_st1 l (n + 1) v
def z_tl : zL → zL
  | [] => []
  | _ :: l => none :: l
def z_st2 : zL → Nat → zV → zL
  | [], 0, v => [some v]
  | [], n + 1, v => none :: z_st2 [] n v
  | _ :: l, 0, v => some v :: z_tl l
  | x :: l, 1, v => z_unl x :: z_st2 l 0 v
  | x :: l, n + 2, v => x :: z_st2 l (n + 1) v
/-- which locals live on -/
def z_kp : List Bool → zL → zL
  | [], _ => []
  | true :: m, x :: l => x :: z_kp m l
  | false :: m, _ :: l => none :: z_kp m l
  | _ :: m, [] => none :: z_kp m []
def z_up (w : zW) (c : Nat) (i s v : Int) : zW := fun c' i' s' => if c' = c ∧ s' = s ∧ i' = i then v else w c' i' s'
def z_cpy (w : zW) (c0 : Nat) (i0 sp : Int) (c1 : Nat) (i1 dp n : Int) : zW := fun c i s => if c = c1 ∧ i = i1 ∧ dp ≤ s ∧ s < dp + n then w c0 i0 (sp + (s - dp)) else w c i s
def z_and (a b : Int) : Int := (Int32.ofInt a &&& Int32.ofInt b).toInt
def z_or (a b : Int) : Int := (Int32.ofInt a ||| Int32.ofInt b).toInt
def z_xor (a b : Int) : Int := (Int32.ofInt a ^^^ Int32.ofInt b).toInt
def z_ushr (a b : Int) : Int := (((Int32.ofInt a).toUInt32 >>> ((Int32.ofInt b).toUInt32 &&& Int32.toUInt32 31)).toInt32).toInt
def z_andL (a b : Int) : Int := (Int64.ofInt a &&& Int64.ofInt b).toInt
def z_orL (a b : Int) : Int := (Int64.ofInt a ||| Int64.ofInt b).toInt
def z_w8 (a : Int) : Int := (a + 128) % 256 - 128
def z_wL (a : Int) : Int := (a + 9223372036854775808) % 18446744073709551616 - 9223372036854775808
def z_wI (a : Int) : Int := (a + 2147483648) % 4294967296 - 2147483648

/-! ACTS -/
/-- what a stack weighs -/
def z_sz : zS → Nat
  | [] => 0
  | Sum.inr (Sum.inl _) :: t => 2 + z_sz t
  | _ :: t => 1 + z_sz t
def a_push (v : zV) : zA := fun _ _ k ls st w => k ls (v :: st) w
def a_ldI (n : Nat) : zA := fun _ _ k ls st w => match z_get ls n with
  | some (Sum.inl z) => k ls (vI z :: st) w
  | _ => none
def a_ldL (n : Nat) : zA := fun _ _ k ls st w => match z_get ls n with
  | some (Sum.inr (Sum.inl z)) => k ls (vL z :: st) w
  | _ => none
def a_ldR (n : Nat) : zA := fun _ _ k ls st w => match z_get ls n with
  | some (Sum.inr (Sum.inr (c, i))) => k ls (vR c i :: st) w
  | _ => none
def a_stI (n : Nat) : zA := fun _ _ k ls st w => match st with
  | Sum.inl z :: st => k (z_st1 ls n (vI z)) st w
  | _ => none
def a_stL (n : Nat) : zA := fun _ _ k ls st w => match st with
  | Sum.inr (Sum.inl z) :: st => k (z_st2 ls n (vL z)) st w
  | _ => none
def a_stR (n : Nat) : zA := fun _ _ k ls st w => match st with
  | Sum.inr (Sum.inr (c, i)) :: st => k (z_st1 ls n (vR c i)) st w
  | _ => none
def a_iinc (n : Nat) (x : Int) : zA := fun _ _ k ls st w => match z_get ls n with
  | some (Sum.inl z) => gd (inI (z + x)) (k (z_st1 ls n (vI (z + x))) st w)
  | _ => none
def a_un (p : Int → Prop) [∀ a, Decidable (p a)] (f : Int → Int) : zA := fun _ _ k ls st w => match st with
  | Sum.inl a :: st => gd (p a) (k ls (vI (f a) :: st) w)
  | _ => none
def a_bin (p : Int → Int → Prop) [∀ a b, Decidable (p a b)] (f : Int → Int → Int) : zA := fun _ _ k ls st w => match st with
  | Sum.inl b :: Sum.inl a :: st => gd (p a b) (k ls (vI (f a b) :: st) w)
  | _ => none
def a_binN (f : Int → Int → Int) : zA := fun _ _ k ls st w => match st with
  | Sum.inl b :: Sum.inl a :: st => k ls (vI (f a b) :: st) w
  | _ => none
def a_unN (f : Int → Int) : zA := fun _ _ k ls st w => match st with
  | Sum.inl a :: st => k ls (vI (f a) :: st) w
  | _ => none
def a_binL (p : Int → Int → Prop) [∀ a b, Decidable (p a b)] (f : Int → Int → Int) : zA := fun _ _ k ls st w => match st with
  | Sum.inr (Sum.inl b) :: Sum.inr (Sum.inl a) :: st => gd (p a b) (k ls (vL (f a b) :: st) w)
  | _ => none
def a_binLN (f : Int → Int → Int) : zA := fun _ _ k ls st w => match st with
  | Sum.inr (Sum.inl b) :: Sum.inr (Sum.inl a) :: st => k ls (vL (f a b) :: st) w
  | _ => none
def a_binM (f : Int → Int → Int) : zA := fun _ _ k ls st w => match st with
  | Sum.inl b :: Sum.inl a :: st => bif Nat.ble (z_sz st) 8 then k ls (vI (f a b) :: st) w else none
  | _ => none
def a_binLM (f : Int → Int → Int) : zA := fun _ _ k ls st w => match st with
  | Sum.inr (Sum.inl b) :: Sum.inr (Sum.inl a) :: st => bif Nat.ble (z_sz st) 8 then k ls (vL (f a b) :: st) w else none
  | _ => none
def a_unM (p : Int → Prop) [∀ a, Decidable (p a)] (f : Int → Int) : zA := fun _ _ k ls st w => match st with
  | Sum.inl a :: st => bif Nat.ble (z_sz st) 8 then gd (p a) (k ls (vI (f a) :: st) w) else none
  | _ => none
def a_lshl : zA := fun _ _ k ls st w => match st with
  | Sum.inl b :: Sum.inr (Sum.inl a) :: st => gd (0 ≤ b ∧ b < 63 ∧ 0 ≤ a ∧ inL (a * 2 ^ b.toNat)) (k ls (vL (a * 2 ^ b.toNat) :: st) w)
  | _ => none
def a_i2l : zA := fun _ _ k ls st w => match st with
  | Sum.inl a :: st => k ls (vL a :: st) w
  | _ => none
def a_l2i : zA := fun _ _ k ls st w => match st with
  | Sum.inr (Sum.inl a) :: st => gd (inI a) (k ls (vI a :: st) w)
  | _ => none
def a_if1 (p : Int → Prop) [∀ a, Decidable (p a)] (bt : Nat) (mt : List Bool) (bf : Nat) (mf : List Bool) : zA := fun _ G _ ls st w => match st with
  | Sum.inl a :: st => if p a then G bt (z_kp mt ls) st w else G bf (z_kp mf ls) st w
  | _ => none
def a_if2 (p : Int → Int → Prop) [∀ a b, Decidable (p a b)] (bt : Nat) (mt : List Bool) (bf : Nat) (mf : List Bool) : zA := fun _ G _ ls st w => match st with
  | Sum.inl b :: Sum.inl a :: st => if p a b then G bt (z_kp mt ls) st w else G bf (z_kp mf ls) st w
  | _ => none
def a_ifL (p : Int → Int → Prop) [∀ a b, Decidable (p a b)] (bt : Nat) (mt : List Bool) (bf : Nat) (mf : List Bool) : zA := fun _ G _ ls st w => match st with
  | Sum.inr (Sum.inl b) :: Sum.inr (Sum.inl a) :: st => if p a b then G bt (z_kp mt ls) st w else G bf (z_kp mf ls) st w
  | _ => none
def a_go (b : Nat) (m : List Bool) : zA := fun _ G _ ls st w => G b (z_kp m ls) st w
def z_swk (G : zG) (ls : zL) (st : zS) (w : zW) (x : Int) : Int → List (Nat × List Bool) → Nat → List Bool → zR
  | _, [], bd, md => G bd (z_kp md ls) st w
  | lo, (b, m) :: t, bd, md => if x = lo then G b (z_kp m ls) st w else z_swk G ls st w x (lo + 1) t bd md
def a_sw (lo : Int) (t : List (Nat × List Bool)) (bd : Nat) (md : List Bool) : zA := fun _ G _ ls st w => match st with
  | Sum.inl x :: st => z_swk G ls st w x lo t bd md
  | _ => none
def z_lsk (G : zG) (ls : zL) (st : zS) (w : zW) (x : Int) : List (Int × Nat × List Bool) → Nat → List Bool → zR
  | [], bd, md => G bd (z_kp md ls) st w
  | (q, b, m) :: t, bd, md => if x = q then G b (z_kp m ls) st w else z_lsk G ls st w x t bd md
def a_lsw (t : List (Int × Nat × List Bool)) (bd : Nat) (md : List Bool) : zA := fun _ G _ ls st w => match st with
  | Sum.inl x :: st => z_lsk G ls st w x t bd md
  | _ => none
def a_retI : zA := fun _ _ _ _ st w => match st with
  | [Sum.inl a] => some (a, w)
  | _ => none
def a_retZ (lo hi : Int) : zA := fun _ _ _ _ st w => match st with
  | [Sum.inl a] => gd (lo ≤ a ∧ a ≤ hi) (some (a, w))
  | _ => none
def a_retL : zA := fun _ _ _ _ st w => match st with
  | [Sum.inr (Sum.inl a)] => some (a, w)
  | _ => none
def a_retV : zA := fun _ _ _ _ st w => match st with
  | [] => some (0, w)
  | _ => none
def a_gI (c : Nat) (f : Int) : zA := fun _ _ k ls st w => match st with
  | Sum.inr (Sum.inr (c', i)) :: st => bif Nat.beq c' c then k ls (vI (w c i f) :: st) w else none
  | _ => none
def a_gL (c : Nat) (f : Int) : zA := fun _ _ k ls st w => match st with
  | Sum.inr (Sum.inr (c', i)) :: st => bif Nat.beq c' c then k ls (vL (w c i f) :: st) w else none
  | _ => none
def a_gS (c c2 : Nat) : zA := fun _ _ k ls st w => match st with
  | Sum.inr (Sum.inr (c', i)) :: st => bif Nat.beq c' c then k ls (vR c2 i :: st) w else none
  | _ => none
def a_gK (c c2 : Nat) (x : Int) : zA := fun _ _ k ls st w => match st with
  | Sum.inr (Sum.inr (c', _)) :: st => bif Nat.beq c' c then k ls (vR c2 x :: st) w else none
  | _ => none
def a_gD (c : Nat) (f : Int) (c2 : Nat) : zA := fun _ _ k ls st w => match st with
  | Sum.inr (Sum.inr (c', i)) :: st => bif Nat.beq c' c then k ls (vR c2 (w c i f) :: st) w else none
  | _ => none
def a_pI (c : Nat) (f : Int) : zA := fun _ _ k ls st w => match st with
  | Sum.inl v :: Sum.inr (Sum.inr (c', i)) :: st => bif Nat.beq c' c then k ls st (z_up w c i f v) else none
  | _ => none
def a_pZ (c : Nat) (f : Int) : zA := fun _ _ k ls st w => match st with
  | Sum.inl v :: Sum.inr (Sum.inr (c', i)) :: st => bif Nat.beq c' c then gd (0 ≤ v ∧ v ≤ 1) (k ls st (z_up w c i f v)) else none
  | _ => none
def a_pL (c : Nat) (f : Int) : zA := fun _ _ k ls st w => match st with
  | Sum.inr (Sum.inl v) :: Sum.inr (Sum.inr (c', i)) :: st => bif Nat.beq c' c then k ls st (z_up w c i f v) else none
  | _ => none
def a_pD (c : Nat) (f : Int) (c2 : Nat) : zA := fun _ _ k ls st w => match st with
  | Sum.inr (Sum.inr (c3, v)) :: Sum.inr (Sum.inr (c', i)) :: st => bif Nat.beq c' c && Nat.beq c3 c2 then k ls st (z_up w c i f v) else none
  | _ => none
def a_aI (c : Nat) (L : Int) : zA := fun _ _ k ls st w => match st with
  | Sum.inl s :: Sum.inr (Sum.inr (c', i)) :: st => bif Nat.beq c' c then gd (0 ≤ s ∧ s < L) (k ls (vI (w c i s) :: st) w) else none
  | _ => none
def a_aL (c : Nat) (L : Int) : zA := fun _ _ k ls st w => match st with
  | Sum.inl s :: Sum.inr (Sum.inr (c', i)) :: st => bif Nat.beq c' c then gd (0 ≤ s ∧ s < L) (k ls (vL (w c i s) :: st) w) else none
  | _ => none
def a_aR (c : Nat) (L : Int) (c2 : Nat) (x : Int) : zA := fun _ _ k ls st w => match st with
  | Sum.inl s :: Sum.inr (Sum.inr (c', _)) :: st => bif Nat.beq c' c then gd (0 ≤ s ∧ s < L) (k ls (vR c2 (x + s) :: st) w) else none
  | _ => none
def a_sI (c : Nat) (L lo hi : Int) : zA := fun _ _ k ls st w => match st with
  | Sum.inl v :: Sum.inl s :: Sum.inr (Sum.inr (c', i)) :: st => bif Nat.beq c' c then gd (0 ≤ s ∧ s < L) (gd (lo ≤ v ∧ v ≤ hi) (k ls st (z_up w c i s v))) else none
  | _ => none
def a_sN (c : Nat) (L : Int) : zA := fun _ _ k ls st w => match st with
  | Sum.inl v :: Sum.inl s :: Sum.inr (Sum.inr (c', i)) :: st => bif Nat.beq c' c then gd (0 ≤ s ∧ s < L) (k ls st (z_up w c i s v)) else none
  | _ => none
def a_sL (c : Nat) (L : Int) : zA := fun _ _ k ls st w => match st with
  | Sum.inr (Sum.inl v) :: Sum.inl s :: Sum.inr (Sum.inr (c', i)) :: st => bif Nat.beq c' c then gd (0 ≤ s ∧ s < L) (k ls st (z_up w c i s v)) else none
  | _ => none
def a_dup : zA := fun _ _ k ls st w => match st with
  | Sum.inl v :: st => k ls (vI v :: vI v :: st) w
  | Sum.inr (Sum.inr (c, i)) :: st => k ls (vR c i :: vR c i :: st) w
  | _ => none
def a_dup2 : zA := fun _ _ k ls st w => match st with
  | Sum.inl v :: Sum.inr (Sum.inr (c, i)) :: st => k ls (vI v :: vR c i :: vI v :: vR c i :: st) w
  | Sum.inl v :: Sum.inl u :: st => k ls (vI v :: vI u :: vI v :: vI u :: st) w
  | _ => none
def a_pop : zA := fun _ _ k ls st w => match st with
  | Sum.inl _ :: st => k ls st w
  | _ => none
def z_pop : Nat → zS → List zV → (List zV → zS → zR) → zR
  | 0, st, acc, f => f acc st
  | n + 1, v :: st, acc, f => z_pop n st (v :: acc) f
  | _ + 1, [], _, _ => none
def z_ret (rk : Nat) (v : Int) (st : zS) : zS := match rk with
  | 0 => st
  | 1 => vI v :: st
  | _ => vL v :: st
def z_rc (c : Nat) (l : List zV) : Bool := match l with
  | Sum.inr (Sum.inr (c', _)) :: _ => Nat.beq c' c
  | _ => false
def a_call (z n rk ml : Nat) : zA := fun C _ k ls st w => z_pop n st [] fun as st => bif Nat.ble (z_sz st) 8 && Nat.ble (z_sz as) ml then (C z as w).bind fun r => k ls (z_ret rk r.1 st) r.2 else none
def a_callV (z n rk ml c : Nat) : zA := fun C _ k ls st w => z_pop n st [] fun as st => bif z_rc c as && (Nat.ble (z_sz st) 8 && Nat.ble (z_sz as) ml) then (C z as w).bind fun r => k ls (z_ret rk r.1 st) r.2 else none
/-! BLOCKS, RUNS -/
def z_blk : List zA → zC → zG → zK
  | [], _, _ => fun _ _ _ => none
  | a :: as, C, G => fun ls st w => a C G (z_blk as C G) ls st w
def z_entry : List zV → zL
  | [] => []
  | Sum.inr (Sum.inl z) :: l => some (vL z) :: none :: z_entry l
  | v :: l => some v :: z_entry l
def z_run (P : Nat → List (List zA)) : Nat → Nat → Nat → zG
  | 0, _, _, _ => fun _ _ _ => none
  | n + 1, d, y, b => z_blk ((P y).getD b []) (fun z as w => match d with
      | 0 => none
      | d' + 1 => z_run P n d' z 0 (z_entry as) [] w) (fun b' => z_run P n d y b')
/-- an act's answer rests on one answer of what goes on, and at most one of a call -/
def z_Ad (a : zA) : Prop := ∀ (C : zC) (G : zG) (k : zK) (ls : zL) (st : zS) (w : zW) (r : Int × zW), a C G k ls st w = some r →
  (∀ C' G' k', a C' G' k' ls st w = some r) ∨
  (∃ l1 s1 w1, k l1 s1 w1 = some r ∧ ∀ C' G' k', k' l1 s1 w1 = some r → a C' G' k' ls st w = some r) ∨
  (∃ b l1 s1 w1, G b l1 s1 w1 = some r ∧ ∀ C' G' k', G' b l1 s1 w1 = some r → a C' G' k' ls st w = some r) ∨
  (∃ z as w1 r1 l2 s2, C z as w1 = some r1 ∧ k l2 s2 r1.2 = some r ∧ ∀ C' G' k', C' z as w1 = some r1 → k' l2 s2 r1.2 = some r → a C' G' k' ls st w = some r)
theorem ad_k {a : zA} {C : zC} {G : zG} {k : zK} {ls : zL} {st : zS} {w : zW} {r : Int × zW} (l1 : zL) (s1 : zS) (w1 : zW) (h : k l1 s1 w1 = some r) (hh : ∀ C' G' k', k' l1 s1 w1 = some r → a C' G' k' ls st w = some r) :
  (∀ C' G' k', a C' G' k' ls st w = some r) ∨
  (∃ l1 s1 w1, k l1 s1 w1 = some r ∧ ∀ C' G' k', k' l1 s1 w1 = some r → a C' G' k' ls st w = some r) ∨
  (∃ b l1 s1 w1, G b l1 s1 w1 = some r ∧ ∀ C' G' k', G' b l1 s1 w1 = some r → a C' G' k' ls st w = some r) ∨
  (∃ z as w1 r1 l2 s2, C z as w1 = some r1 ∧ k l2 s2 r1.2 = some r ∧ ∀ C' G' k', C' z as w1 = some r1 → k' l2 s2 r1.2 = some r → a C' G' k' ls st w = some r) := Or.inr (Or.inl ⟨l1, s1, w1, h, hh⟩)
theorem ad_g {a : zA} {C : zC} {G : zG} {k : zK} {ls : zL} {st : zS} {w : zW} {r : Int × zW} (b : Nat) (l1 : zL) (s1 : zS) (w1 : zW) (h : G b l1 s1 w1 = some r) (hh : ∀ C' G' k', G' b l1 s1 w1 = some r → a C' G' k' ls st w = some r) :
  (∀ C' G' k', a C' G' k' ls st w = some r) ∨
  (∃ l1 s1 w1, k l1 s1 w1 = some r ∧ ∀ C' G' k', k' l1 s1 w1 = some r → a C' G' k' ls st w = some r) ∨
  (∃ b l1 s1 w1, G b l1 s1 w1 = some r ∧ ∀ C' G' k', G' b l1 s1 w1 = some r → a C' G' k' ls st w = some r) ∨
  (∃ z as w1 r1 l2 s2, C z as w1 = some r1 ∧ k l2 s2 r1.2 = some r ∧ ∀ C' G' k', C' z as w1 = some r1 → k' l2 s2 r1.2 = some r → a C' G' k' ls st w = some r) := Or.inr (Or.inr (Or.inl ⟨b, l1, s1, w1, h, hh⟩))
theorem z_bt {α : Type} {b : Bool} {x : Option α} {r : α} (h : (bif b then x else none) = some r) : b = true ∧ x = some r := by
  cases b
  · cases h
  · exact ⟨rfl, h⟩
theorem z_bt' {α : Type} {b : Bool} {x : Option α} {r : α} (hb : b = true) (h : x = some r) : (bif b then x else none) = some r := by
  subst hb
  exact h
theorem ad_swk (ls : zL) (st : zS) (w : zW) (x : Int) (bd : Nat) (md : List Bool) (r : Int × zW) : ∀ (t : List (Nat × List Bool)) (lo : Int) (G : zG), z_swk G ls st w x lo t bd md = some r → ∃ b l1, G b l1 st w = some r ∧ ∀ G' : zG, G' b l1 st w = some r → z_swk G' ls st w x lo t bd md = some r := by
  intro t
  induction t with
  | nil => intro lo G h; exact ⟨_, _, h, fun _ h' => h'⟩
  | cons q t ih =>
    intro lo G h
    unfold z_swk at h
    split at h
    · next hp => exact ⟨_, _, h, fun _ h' => by unfold z_swk; simp only [hp, if_true]; exact h'⟩
    · next hp =>
      obtain ⟨b, l1, h1, h2⟩ := ih (lo + 1) G h
      exact ⟨b, l1, h1, fun G' h' => by unfold z_swk; simp only [hp, if_false]; exact h2 G' h'⟩
theorem ad_lsk (ls : zL) (st : zS) (w : zW) (x : Int) (bd : Nat) (md : List Bool) (r : Int × zW) : ∀ (t : List (Int × Nat × List Bool)) (G : zG), z_lsk G ls st w x t bd md = some r → ∃ b l1, G b l1 st w = some r ∧ ∀ G' : zG, G' b l1 st w = some r → z_lsk G' ls st w x t bd md = some r := by
  intro t
  induction t with
  | nil => intro G h; exact ⟨_, _, h, fun _ h' => h'⟩
  | cons q t ih =>
    intro G h
    unfold z_lsk at h
    split at h
    · next hp => exact ⟨_, _, h, fun _ h' => by unfold z_lsk; simp only [hp, if_true]; exact h'⟩
    · next hp =>
      obtain ⟨b, l1, h1, h2⟩ := ih G h
      exact ⟨b, l1, h1, fun G' h' => by unfold z_lsk; simp only [hp, if_false]; exact h2 G' h'⟩
theorem z_pop_some {n : Nat} {f : List zV → zS → zR} {r : Int × zW} : ∀ {st : zS} {acc : List zV}, z_pop n st acc f = some r → ∃ as rest, st = as ++ rest ∧ as.length = n ∧ f (as.reverse ++ acc) rest = some r ∧ ∀ f' : List zV → zS → zR, z_pop n st acc f' = f' (as.reverse ++ acc) rest := by
  induction n with
  | zero => intro st acc h; exact ⟨[], st, rfl, rfl, h, fun _ => rfl⟩
  | succ n ih =>
    intro st acc h
    cases st with
    | nil => cases h
    | cons v st =>
      obtain ⟨as, rest, h1, h2, h3, h4⟩ := ih (st := st) (acc := v :: acc) h
      refine ⟨v :: as, rest, by rw [h1]; rfl, by simp [h2], by simpa using h3, fun f' => ?_⟩
      have h5 := h4 f'
      simp only [List.reverse_cons, List.append_assoc, List.singleton_append]
      exact h5
theorem z_bind_some {α β : Type} {x : Option α} {f : α → Option β} {r : β} (h : x.bind f = some r) : ∃ a, x = some a ∧ f a = some r := by
  cases x with
  | none => cases h
  | some a => exact ⟨a, rfl, h⟩
theorem ad_push (v : zV) : z_Ad (a_push v) := by
  intro C G k ls st w r h
  exact ad_k _ _ _ h (fun _ _ _ h' => h')
theorem ad_ldI (n : Nat) : z_Ad (a_ldI n) := by
  intro C G k ls st w r h
  unfold a_ldI at h
  split at h
  · next e => exact ad_k _ _ _ h (fun _ _ _ h' => by unfold a_ldI; rw [e]; exact h')
  · cases h
theorem ad_ldL (n : Nat) : z_Ad (a_ldL n) := by
  intro C G k ls st w r h
  unfold a_ldL at h
  split at h
  · next e => exact ad_k _ _ _ h (fun _ _ _ h' => by unfold a_ldL; rw [e]; exact h')
  · cases h
theorem ad_ldR (n : Nat) : z_Ad (a_ldR n) := by
  intro C G k ls st w r h
  unfold a_ldR at h
  split at h
  · next e => exact ad_k _ _ _ h (fun _ _ _ h' => by unfold a_ldR; rw [e]; exact h')
  · cases h
theorem ad_stI (n : Nat) : z_Ad (a_stI n) := by
  intro C G k ls st w r h
  unfold a_stI at h
  split at h
  · exact ad_k _ _ _ h (fun _ _ _ h' => h')
  · cases h
theorem ad_stL (n : Nat) : z_Ad (a_stL n) := by
  intro C G k ls st w r h
  unfold a_stL at h
  split at h
  · exact ad_k _ _ _ h (fun _ _ _ h' => h')
  · cases h
theorem ad_stR (n : Nat) : z_Ad (a_stR n) := by
  intro C G k ls st w r h
  unfold a_stR at h
  split at h
  · exact ad_k _ _ _ h (fun _ _ _ h' => h')
  · cases h
theorem ad_iinc (n : Nat) (x : Int) : z_Ad (a_iinc n x) := by
  intro C G k ls st w r h
  unfold a_iinc at h
  split at h
  · next e =>
    obtain ⟨hp, h⟩ := gd_some.mp h
    exact ad_k _ _ _ h (fun _ _ _ h' => by unfold a_iinc; rw [e]; exact gd_some.mpr ⟨hp, h'⟩)
  · cases h
theorem ad_un (p : Int → Prop) [∀ a, Decidable (p a)] (f : Int → Int) : z_Ad (a_un p f) := by
  intro C G k ls st w r h
  unfold a_un at h
  split at h
  · obtain ⟨hp, h⟩ := gd_some.mp h
    exact ad_k _ _ _ h (fun _ _ _ h' => gd_some.mpr ⟨hp, h'⟩)
  · cases h
theorem ad_bin (p : Int → Int → Prop) [∀ a b, Decidable (p a b)] (f : Int → Int → Int) : z_Ad (a_bin p f) := by
  intro C G k ls st w r h
  unfold a_bin at h
  split at h
  · obtain ⟨hp, h⟩ := gd_some.mp h
    exact ad_k _ _ _ h (fun _ _ _ h' => gd_some.mpr ⟨hp, h'⟩)
  · cases h
theorem ad_binL (p : Int → Int → Prop) [∀ a b, Decidable (p a b)] (f : Int → Int → Int) : z_Ad (a_binL p f) := by
  intro C G k ls st w r h
  unfold a_binL at h
  split at h
  · obtain ⟨hp, h⟩ := gd_some.mp h
    exact ad_k _ _ _ h (fun _ _ _ h' => gd_some.mpr ⟨hp, h'⟩)
  · cases h
theorem ad_binN (f : Int → Int → Int) : z_Ad (a_binN f) := by
  intro C G k ls st w r h
  unfold a_binN at h
  split at h
  · exact ad_k _ _ _ h (fun _ _ _ h' => h')
  · cases h
theorem ad_binLN (f : Int → Int → Int) : z_Ad (a_binLN f) := by
  intro C G k ls st w r h
  unfold a_binLN at h
  split at h
  · exact ad_k _ _ _ h (fun _ _ _ h' => h')
  · cases h
theorem ad_unN (f : Int → Int) : z_Ad (a_unN f) := by
  intro C G k ls st w r h
  unfold a_unN at h
  split at h
  · exact ad_k _ _ _ h (fun _ _ _ h' => h')
  · cases h
theorem ad_binM (f : Int → Int → Int) : z_Ad (a_binM f) := by
  intro C G k ls st w r h
  unfold a_binM at h
  split at h
  · obtain ⟨hb, h⟩ := z_bt h
    exact ad_k _ _ _ h (fun _ _ _ h' => z_bt' hb h')
  · cases h
theorem ad_binLM (f : Int → Int → Int) : z_Ad (a_binLM f) := by
  intro C G k ls st w r h
  unfold a_binLM at h
  split at h
  · obtain ⟨hb, h⟩ := z_bt h
    exact ad_k _ _ _ h (fun _ _ _ h' => z_bt' hb h')
  · cases h
theorem ad_unM (p : Int → Prop) [∀ a, Decidable (p a)] (f : Int → Int) : z_Ad (a_unM p f) := by
  intro C G k ls st w r h
  unfold a_unM at h
  split at h
  · obtain ⟨hb, h⟩ := z_bt h
    obtain ⟨hp, h⟩ := gd_some.mp h
    exact ad_k _ _ _ h (fun _ _ _ h' => z_bt' hb (gd_some.mpr ⟨hp, h'⟩))
  · cases h
theorem ad_lshl : z_Ad (a_lshl) := by
  intro C G k ls st w r h
  unfold a_lshl at h
  split at h
  · obtain ⟨hp, h⟩ := gd_some.mp h
    exact ad_k _ _ _ h (fun _ _ _ h' => gd_some.mpr ⟨hp, h'⟩)
  · cases h
theorem ad_i2l : z_Ad (a_i2l) := by
  intro C G k ls st w r h
  unfold a_i2l at h
  split at h
  · exact ad_k _ _ _ h (fun _ _ _ h' => h')
  · cases h
theorem ad_l2i : z_Ad (a_l2i) := by
  intro C G k ls st w r h
  unfold a_l2i at h
  split at h
  · obtain ⟨hp, h⟩ := gd_some.mp h
    exact ad_k _ _ _ h (fun _ _ _ h' => gd_some.mpr ⟨hp, h'⟩)
  · cases h
theorem ad_if1 (p : Int → Prop) [∀ a, Decidable (p a)] (bt : Nat) (mt : List Bool) (bf : Nat) (mf : List Bool) : z_Ad (a_if1 p bt mt bf mf) := by
  intro C G k ls st w r h
  unfold a_if1 at h
  split at h
  · split at h
    · next hp => exact ad_g _ _ _ _ h (fun _ _ _ h' => by unfold a_if1; simp only [hp, if_true]; exact h')
    · next hp => exact ad_g _ _ _ _ h (fun _ _ _ h' => by unfold a_if1; simp only [hp, if_false]; exact h')
  · cases h
theorem ad_if2 (p : Int → Int → Prop) [∀ a b, Decidable (p a b)] (bt : Nat) (mt : List Bool) (bf : Nat) (mf : List Bool) : z_Ad (a_if2 p bt mt bf mf) := by
  intro C G k ls st w r h
  unfold a_if2 at h
  split at h
  · split at h
    · next hp => exact ad_g _ _ _ _ h (fun _ _ _ h' => by unfold a_if2; simp only [hp, if_true]; exact h')
    · next hp => exact ad_g _ _ _ _ h (fun _ _ _ h' => by unfold a_if2; simp only [hp, if_false]; exact h')
  · cases h
theorem ad_ifL (p : Int → Int → Prop) [∀ a b, Decidable (p a b)] (bt : Nat) (mt : List Bool) (bf : Nat) (mf : List Bool) : z_Ad (a_ifL p bt mt bf mf) := by
  intro C G k ls st w r h
  unfold a_ifL at h
  split at h
  · split at h
    · next hp => exact ad_g _ _ _ _ h (fun _ _ _ h' => by unfold a_ifL; simp only [hp, if_true]; exact h')
    · next hp => exact ad_g _ _ _ _ h (fun _ _ _ h' => by unfold a_ifL; simp only [hp, if_false]; exact h')
  · cases h
theorem ad_go (b : Nat) (m : List Bool) : z_Ad (a_go b m) := by
  intro C G k ls st w r h
  exact ad_g _ _ _ _ h (fun _ _ _ h' => h')
theorem ad_sw (lo : Int) (t : List (Nat × List Bool)) (bd : Nat) (md : List Bool) : z_Ad (a_sw lo t bd md) := by
  intro C G k ls st w r h
  unfold a_sw at h
  split at h
  · obtain ⟨b, l1, h1, h2⟩ := ad_swk _ _ _ _ _ _ _ _ _ _ h
    exact ad_g _ _ _ _ h1 (fun _ G' _ h' => h2 G' h')
  · cases h
theorem ad_lsw (t : List (Int × Nat × List Bool)) (bd : Nat) (md : List Bool) : z_Ad (a_lsw t bd md) := by
  intro C G k ls st w r h
  unfold a_lsw at h
  split at h
  · obtain ⟨b, l1, h1, h2⟩ := ad_lsk _ _ _ _ _ _ _ _ _ h
    exact ad_g _ _ _ _ h1 (fun _ G' _ h' => h2 G' h')
  · cases h
theorem ad_retI : z_Ad (a_retI) := by
  intro C G k ls st w r h
  unfold a_retI at h
  split at h
  · exact Or.inl (fun _ _ _ => h)
  · cases h
theorem ad_retL : z_Ad (a_retL) := by
  intro C G k ls st w r h
  unfold a_retL at h
  split at h
  · exact Or.inl (fun _ _ _ => h)
  · cases h
theorem ad_retV : z_Ad (a_retV) := by
  intro C G k ls st w r h
  unfold a_retV at h
  split at h
  · exact Or.inl (fun _ _ _ => h)
  · cases h
theorem ad_retZ (lo hi : Int) : z_Ad (a_retZ lo hi) := by
  intro C G k ls st w r h
  unfold a_retZ at h
  split at h
  · exact Or.inl (fun _ _ _ => h)
  · cases h
theorem ad_gI (c : Nat) (f : Int) : z_Ad (a_gI c f) := by
  intro C G k ls st w r h
  unfold a_gI at h
  split at h
  · obtain ⟨hb, h⟩ := z_bt h
    exact ad_k _ _ _ h (fun _ _ _ h' => z_bt' hb h')
  · cases h
theorem ad_gL (c : Nat) (f : Int) : z_Ad (a_gL c f) := by
  intro C G k ls st w r h
  unfold a_gL at h
  split at h
  · obtain ⟨hb, h⟩ := z_bt h
    exact ad_k _ _ _ h (fun _ _ _ h' => z_bt' hb h')
  · cases h
theorem ad_gS (c c2 : Nat) : z_Ad (a_gS c c2) := by
  intro C G k ls st w r h
  unfold a_gS at h
  split at h
  · obtain ⟨hb, h⟩ := z_bt h
    exact ad_k _ _ _ h (fun _ _ _ h' => z_bt' hb h')
  · cases h
theorem ad_gK (c c2 : Nat) (x : Int) : z_Ad (a_gK c c2 x) := by
  intro C G k ls st w r h
  unfold a_gK at h
  split at h
  · obtain ⟨hb, h⟩ := z_bt h
    exact ad_k _ _ _ h (fun _ _ _ h' => z_bt' hb h')
  · cases h
theorem ad_gD (c : Nat) (f : Int) (c2 : Nat) : z_Ad (a_gD c f c2) := by
  intro C G k ls st w r h
  unfold a_gD at h
  split at h
  · obtain ⟨hb, h⟩ := z_bt h
    exact ad_k _ _ _ h (fun _ _ _ h' => z_bt' hb h')
  · cases h
theorem ad_pI (c : Nat) (f : Int) : z_Ad (a_pI c f) := by
  intro C G k ls st w r h
  unfold a_pI at h
  split at h
  · obtain ⟨hb, h⟩ := z_bt h
    exact ad_k _ _ _ h (fun _ _ _ h' => z_bt' hb h')
  · cases h
theorem ad_pZ (c : Nat) (f : Int) : z_Ad (a_pZ c f) := by
  intro C G k ls st w r h
  unfold a_pZ at h
  split at h
  · obtain ⟨hb, h⟩ := z_bt h
    obtain ⟨hp, h⟩ := gd_some.mp h
    exact ad_k _ _ _ h (fun _ _ _ h' => z_bt' hb (gd_some.mpr ⟨hp, h'⟩))
  · cases h
theorem ad_pL (c : Nat) (f : Int) : z_Ad (a_pL c f) := by
  intro C G k ls st w r h
  unfold a_pL at h
  split at h
  · obtain ⟨hb, h⟩ := z_bt h
    exact ad_k _ _ _ h (fun _ _ _ h' => z_bt' hb h')
  · cases h
theorem ad_pD (c : Nat) (f : Int) (c2 : Nat) : z_Ad (a_pD c f c2) := by
  intro C G k ls st w r h
  unfold a_pD at h
  split at h
  · obtain ⟨hb, h⟩ := z_bt h
    exact ad_k _ _ _ h (fun _ _ _ h' => z_bt' hb h')
  · cases h
theorem ad_aI (c : Nat) (L : Int) : z_Ad (a_aI c L) := by
  intro C G k ls st w r h
  unfold a_aI at h
  split at h
  · obtain ⟨hb, h⟩ := z_bt h
    obtain ⟨hp, h⟩ := gd_some.mp h
    exact ad_k _ _ _ h (fun _ _ _ h' => z_bt' hb (gd_some.mpr ⟨hp, h'⟩))
  · cases h
theorem ad_aL (c : Nat) (L : Int) : z_Ad (a_aL c L) := by
  intro C G k ls st w r h
  unfold a_aL at h
  split at h
  · obtain ⟨hb, h⟩ := z_bt h
    obtain ⟨hp, h⟩ := gd_some.mp h
    exact ad_k _ _ _ h (fun _ _ _ h' => z_bt' hb (gd_some.mpr ⟨hp, h'⟩))
  · cases h
theorem ad_aR (c : Nat) (L : Int) (c2 : Nat) (x : Int) : z_Ad (a_aR c L c2 x) := by
  intro C G k ls st w r h
  unfold a_aR at h
  split at h
  · obtain ⟨hb, h⟩ := z_bt h
    obtain ⟨hp, h⟩ := gd_some.mp h
    exact ad_k _ _ _ h (fun _ _ _ h' => z_bt' hb (gd_some.mpr ⟨hp, h'⟩))
  · cases h
theorem ad_sN (c : Nat) (L : Int) : z_Ad (a_sN c L) := by
  intro C G k ls st w r h
  unfold a_sN at h
  split at h
  · obtain ⟨hb, h⟩ := z_bt h
    obtain ⟨hp, h⟩ := gd_some.mp h
    exact ad_k _ _ _ h (fun _ _ _ h' => z_bt' hb (gd_some.mpr ⟨hp, h'⟩))
  · cases h
theorem ad_sL (c : Nat) (L : Int) : z_Ad (a_sL c L) := by
  intro C G k ls st w r h
  unfold a_sL at h
  split at h
  · obtain ⟨hb, h⟩ := z_bt h
    obtain ⟨hp, h⟩ := gd_some.mp h
    exact ad_k _ _ _ h (fun _ _ _ h' => z_bt' hb (gd_some.mpr ⟨hp, h'⟩))
  · cases h
theorem ad_sI (c : Nat) (L lo hi : Int) : z_Ad (a_sI c L lo hi) := by
  intro C G k ls st w r h
  unfold a_sI at h
  split at h
  · obtain ⟨hb, h⟩ := z_bt h
    obtain ⟨hp, h⟩ := gd_some.mp h
    obtain ⟨hq, h⟩ := gd_some.mp h
    exact ad_k _ _ _ h (fun _ _ _ h' => z_bt' hb (gd_some.mpr ⟨hp, gd_some.mpr ⟨hq, h'⟩⟩))
  · cases h
theorem ad_dup : z_Ad (a_dup) := by
  intro C G k ls st w r h
  unfold a_dup at h
  split at h
  · exact ad_k _ _ _ h (fun _ _ _ h' => h')
  · exact ad_k _ _ _ h (fun _ _ _ h' => h')
  · cases h
theorem ad_dup2 : z_Ad (a_dup2) := by
  intro C G k ls st w r h
  unfold a_dup2 at h
  split at h
  · exact ad_k _ _ _ h (fun _ _ _ h' => h')
  · exact ad_k _ _ _ h (fun _ _ _ h' => h')
  · cases h
theorem ad_pop : z_Ad (a_pop) := by
  intro C G k ls st w r h
  unfold a_pop at h
  split at h
  · exact ad_k _ _ _ h (fun _ _ _ h' => h')
  · cases h
theorem ad_call (z n rk ml : Nat) : z_Ad (a_call z n rk ml) := by
  intro C G k ls st w r h
  unfold a_call at h
  obtain ⟨as, rest, h1, h2, h3, h4⟩ := z_pop_some h
  obtain ⟨hb, h3⟩ := z_bt h3
  obtain ⟨r1, e1, e2⟩ := z_bind_some h3
  exact Or.inr (Or.inr (Or.inr ⟨_, _, _, r1, _, _, e1, e2, fun C' G' k' g1 g2 => by unfold a_call; rw [h4, hb, g1]; exact g2⟩))
theorem ad_callV (z n rk ml c : Nat) : z_Ad (a_callV z n rk ml c) := by
  intro C G k ls st w r h
  unfold a_callV at h
  obtain ⟨as, rest, h1, h2, h3, h4⟩ := z_pop_some h
  obtain ⟨hb, h3⟩ := z_bt h3
  obtain ⟨r1, e1, e2⟩ := z_bind_some h3
  exact Or.inr (Or.inr (Or.inr ⟨_, _, _, r1, _, _, e1, e2, fun C' G' k' g1 g2 => by unfold a_callV; rw [h4, hb, g1]; exact g2⟩))

/-! WHAT A BLOCK COMES TO -/
theorem z_blk_mono {as : List zA} (ha : ∀ a ∈ as, z_Ad a) {C C' : zC} {G G' : zG} (hC : ∀ z x w r, C z x w = some r → C' z x w = some r) (hG : ∀ b ls st w r, G b ls st w = some r → G' b ls st w = some r) :
    ∀ ls st w r, z_blk as C G ls st w = some r → z_blk as C' G' ls st w = some r := by
  induction as with
  | nil => intro ls st w r h; cases h
  | cons a as ih =>
    intro ls st w r h
    have ih' := ih (fun x hx => ha x (List.mem_cons_of_mem _ hx))
    rcases ha a List.mem_cons_self C G (z_blk as C G) ls st w r h with h1 | ⟨l1, s1, w1, h1, h2⟩ | ⟨b, l1, s1, w1, h1, h2⟩ | ⟨z, x, w1, r1, l2, s2, h1, h2, h3⟩
    · exact h1 C' G' _
    · exact h2 C' G' _ (ih' _ _ _ _ h1)
    · exact h2 C' G' _ (hG _ _ _ _ _ h1)
    · exact h3 C' G' _ (hC _ _ _ _ h1) (ih' _ _ _ _ h2)
theorem z_blk_cont {as : List zA} (ha : ∀ a ∈ as, z_Ad a) {C : Nat → zC} {G : Nat → zG} {C' : zC} {G' : zG}
    (mC : ∀ n m, n ≤ m → ∀ z x w r, C n z x w = some r → C m z x w = some r) (mG : ∀ n m, n ≤ m → ∀ b ls st w r, G n b ls st w = some r → G m b ls st w = some r)
    (hC : ∀ z x w r, C' z x w = some r → ∃ n, C n z x w = some r) (hG : ∀ b ls st w r, G' b ls st w = some r → ∃ n, G n b ls st w = some r) :
    ∀ ls st w r, z_blk as C' G' ls st w = some r → ∃ n, z_blk as (C n) (G n) ls st w = some r := by
  induction as with
  | nil => intro ls st w r h; cases h
  | cons a as ih =>
    intro ls st w r h
    have ha' : ∀ x ∈ as, z_Ad x := fun x hx => ha x (List.mem_cons_of_mem _ hx)
    have ih' := ih ha'
    rcases ha a List.mem_cons_self C' G' (z_blk as C' G') ls st w r h with h1 | ⟨l1, s1, w1, h1, h2⟩ | ⟨b, l1, s1, w1, h1, h2⟩ | ⟨z, x, w1, r1, l2, s2, h1, h2, h3⟩
    · exact ⟨0, h1 _ _ _⟩
    · obtain ⟨n, hn⟩ := ih' _ _ _ _ h1
      exact ⟨n, h2 _ _ _ hn⟩
    · obtain ⟨n, hn⟩ := hG _ _ _ _ _ h1
      exact ⟨n, h2 _ _ _ hn⟩
    · obtain ⟨n, hn⟩ := hC _ _ _ _ h1
      obtain ⟨m, hm⟩ := ih' _ _ _ _ h2
      exact ⟨max n m, h3 _ _ _ (mC n _ (Nat.le_max_left _ _) _ _ _ _ hn) (z_blk_mono ha' (mC m _ (Nat.le_max_right _ _)) (mG m _ (Nat.le_max_right _ _)) _ _ _ _ hm)⟩
def z_good (P : Nat → List (List zA)) : Prop := ∀ y b, ∀ a ∈ (P y).getD b [], z_Ad a
theorem z_run_mono1 {P : Nat → List (List zA)} (hP : z_good P) : ∀ n d y b ls st w r, z_run P n d y b ls st w = some r → z_run P (n + 1) d y b ls st w = some r := by
  intro n
  induction n with
  | zero => intro d y b ls st w r h; cases h
  | succ n ih =>
    intro d y b ls st w r h
    unfold z_run at h ⊢
    refine z_blk_mono (hP y b) ?_ (fun b' ls st w r h => ih d y b' ls st w r h) _ _ _ _ h
    intro z x w r h
    cases d with
    | zero => cases h
    | succ d => exact ih d z 0 _ _ w r h
theorem z_run_mono {P : Nat → List (List zA)} (hP : z_good P) {n m : Nat} (hnm : n ≤ m) : ∀ d y b ls st w r, z_run P n d y b ls st w = some r → z_run P m d y b ls st w = some r := by
  induction hnm with
  | refl => intro d y b ls st w r h; exact h
  | step _ ih => intro d y b ls st w r h; exact z_run_mono1 hP _ _ _ _ _ _ _ _ (ih d y b ls st w r h)
noncomputable def z_sem (P : Nat → List (List zA)) (d y b : Nat) (ls : zL) (st : zS) (w : zW) : zR :=
  @dite _ (∃ n r, z_run P n d y b ls st w = some r) (Classical.propDecidable _) (fun h => some (Classical.choose (Classical.choose_spec h))) (fun _ => none)
theorem z_sem_some {P : Nat → List (List zA)} (hP : z_good P) {d y b : Nat} {ls : zL} {st : zS} {w : zW} {r : Int × zW} : z_sem P d y b ls st w = some r ↔ ∃ n, z_run P n d y b ls st w = some r := by
  unfold z_sem
  by_cases h : ∃ n r, z_run P n d y b ls st w = some r
  · rw [dif_pos h]
    have h1 := Classical.choose_spec (Classical.choose_spec h)
    generalize Classical.choose (Classical.choose_spec h) = r0 at h1 ⊢
    constructor
    · intro e
      cases e
      exact ⟨_, h1⟩
    · intro ⟨n, hn⟩
      have a1 := z_run_mono hP (Nat.le_max_left n (Classical.choose h)) _ _ _ _ _ _ _ hn
      have a2 := z_run_mono hP (Nat.le_max_right n (Classical.choose h)) _ _ _ _ _ _ _ h1
      rw [a1] at a2
      exact a2.symm
  · rw [dif_neg h]
    constructor
    · intro e; cases e
    · intro ⟨n, hn⟩; exact absurd ⟨n, r, hn⟩ h
/-- a call: one frame less -/
noncomputable def z_call (P : Nat → List (List zA)) (d : Nat) : zC := fun z as w => match d with
  | 0 => none
  | d' + 1 => z_sem P d' z 0 (z_entry as) [] w
theorem z_sem_eq {P : Nat → List (List zA)} (hP : z_good P) (d y b : Nat) (ls : zL) (st : zS) (w : zW) : z_sem P d y b ls st w = z_blk ((P y).getD b []) (z_call P d) (z_sem P d y) ls st w := by
  have key : ∀ r, z_sem P d y b ls st w = some r ↔ z_blk ((P y).getD b []) (z_call P d) (z_sem P d y) ls st w = some r := by
    intro r
    rw [z_sem_some hP]
    constructor
    · intro ⟨n, hn⟩
      cases n with
      | zero => cases hn
      | succ n =>
        unfold z_run at hn
        refine z_blk_mono (hP y b) ?_ (fun b' ls st w r h => (z_sem_some hP).mpr ⟨n, h⟩) _ _ _ _ hn
        intro z x w r h
        cases d with
        | zero => cases h
        | succ d => exact (z_sem_some hP).mpr ⟨n, h⟩
    · intro h
      obtain ⟨n, hn⟩ := z_blk_cont (hP y b) (C := fun n z as w => match (generalizing := false) d with
          | 0 => none
          | d' + 1 => z_run P n d' z 0 (z_entry as) [] w) (G := fun n b' => z_run P n d y b') (fun n m hnm z x w r h => by
            cases d with
            | zero => cases h
            | succ d => exact z_run_mono hP hnm _ _ _ _ _ _ _ h) (fun n m hnm b ls st w r h => z_run_mono hP hnm _ _ _ _ _ _ _ h) (fun z x w r h => by
            cases d with
            | zero => cases h
            | succ d => exact (z_sem_some hP).mp h) (fun b ls st w r h => (z_sem_some hP).mp h) _ _ _ _ h
      exact ⟨n + 1, by unfold z_run; exact hn⟩
  cases h1 : z_sem P d y b ls st w with
  | some r => exact ((key r).mp h1).symm
  | none =>
    cases h2 : z_blk ((P y).getD b []) (z_call P d) (z_sem P d y) ls st w with
    | none => rfl
    | some r =>
      have := (key r).mpr h2
      rw [h1] at this
      cases this
/-- blocks one behind another, up to the cuts -/
noncomputable def z_in (P : Nat → List (List zA)) (d y : Nat) (B : List (List zA)) (cut : Nat → Bool) : Nat → zG
  | 0 => z_sem P d y
  | m + 1 => fun b ls st w => bif cut b then z_sem P d y b ls st w else z_blk (B.getD b []) (z_call P d) (z_in P d y B cut m) ls st w
theorem z_in_eq {P : Nat → List (List zA)} (hP : z_good P) {d y : Nat} {B : List (List zA)} (hB : P y = B) (cut : Nat → Bool) : ∀ m, z_in P d y B cut m = z_sem P d y := by
  intro m
  induction m with
  | zero => rfl
  | succ m ih =>
    funext b ls st w
    unfold z_in
    cases cut b with
    | true => rfl
    | false =>
      show z_blk (B.getD b []) (z_call P d) (z_in P d y B cut m) ls st w = _
      rw [ih, ← hB]
      exact (z_sem_eq hP d y b ls st w).symm
theorem z_unf {P : Nat → List (List zA)} (hP : z_good P) {d y : Nat} {B : List (List zA)} (hB : P y = B) (cut : Nat → Bool) (m b : Nat) (ls : zL) (st : zS) (w : zW) : z_sem P d y b ls st w = z_blk (B.getD b []) (z_call P d) (z_in P d y B cut m) ls st w := by
  rw [z_in_eq hP hB cut m, ← hB]
  exact z_sem_eq hP d y b ls st w
