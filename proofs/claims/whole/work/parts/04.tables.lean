/-! THE COMPS: 0 script, 1 Clauses, 2 Law, 3 Night, 4 Odds, 5 Reader, 6 Rows, 7 Setting, 8 State, 9 Wood, 10 D, 11 M, 12 java/lang/String, 13 Clauses.code, 14 Clauses.sums, 15 Clauses.tests, 16 Clauses.ends, 17 Clauses.stack, 18 Night.words, 19 Odds.weights, 20 Reader.tape, 21 Rows.levels, 22 Rows.homes, 23 Rows.harms, 24 Setting.chances, 25 Setting.spare, 26 Setting.ahead, 27 Setting.isReady, 28 Setting.words, 29 State.diary, 30 State.on, 31 State.posts, 32 Wood.loud, 33 Wood.path, 34 Wood.wall, 35 Wood.ground, 36 Wood.sky, 37 Wood.harm, 38 Wood.far, 39 Wood.beside, 40 Wood.open, 41 Wood.queue, 42 D.woods, 43 D.laws, 44 D.rules, 45 D.images, 46 D.stamps, 47 D.steps, 48 M.tape, 49 M.texts, 50 M.sign, 51 M.length, 52 M.clause, 53 M.clauses, 54 M.drift, 55 M.feel, 56 M.see, 57 M.hear, 58 M.columns, 59 M.rows, 60 M.homeX, 61 M.homeY, 62 M.sources, 63 M.source, 64 M.laid, 65 M.open, 66 M.pile, 67 M.far, 68 M.stack, 69 M.word, 70 M.said, 71 M.tried, 72 M.moved, 73 M.wayTaken, 74 M.cellAt, 75 M.nearPosts, 76 M.nightSums, 77 M.images, 78 M.isMade, 79 strv -/
def z_kdL : List Nat := [9, 0, 0, 0, 0, 0, 0, 0, 0, 0, 0, 0, 8, 1, 1, 1, 1, 4, 4, 4, 1, 5, 4, 4, 4, 4, 1, 3, 4, 1, 1, 1, 1, 1, 1, 1, 1, 1, 1, 1, 1, 1, 5, 5, 5, 5, 1, 1, 2, 1, 1, 1, 1, 1, 1, 1, 1, 1, 1, 1, 1, 1, 1, 1, 1, 1, 1, 1, 4, 4, 1, 1, 1, 1, 1, 1, 1, 1, 3, 10]
def z_kd (c : Nat) : Nat := z_kdL.getD c 0
def z_lnL : List Int := [0, 0, 0, 0, 0, 0, 0, 0, 0, 0, 0, 0, 0, 400, 12, 12, 12, 64, 10, 576, 400, 7, 7, 7, 144, 576, 4464, 31, 5, 200, 200, 8, 576, 144, 144, 144, 144, 144, 144, 576, 144, 144, 4, 6, 6, 4, 144, 144, 400, 3, 4800, 16, 720, 16, 16, 16, 16, 16, 16, 16, 16, 16, 4, 48, 3456, 400, 144, 144, 64, 10, 1392, 576, 576, 7, 7, 144, 3, 5568, 4, 0]
def z_ln (c : Nat) : Int := z_lnL.getD c 0
def z_ninL : List Int := [0, 13, 6, 1, 14, 1, 1, 1, 5, 4, 1, 1, 8, 13, 13, 13, 13, 13, 1, 14, 1, 1, 1, 1, 1, 1, 1, 1, 1, 5, 5, 5, 4, 4, 4, 4, 4, 4, 4, 4, 4, 4, 1, 1, 1, 1, 1, 1, 1, 1, 1, 1, 1, 1, 1, 1, 1, 1, 1, 1, 1, 1, 1, 1, 1, 1, 1, 1, 1, 1, 1, 1, 1, 1, 1, 1, 1, 1, 1, 8]
def z_nin (c : Nat) : Int := z_ninL.getD c 0
def z_ocL : List Nat := [0, 0, 1, 2, 3, 4, 5, 6, 7, 8, 9, 10, 11, 0, 0, 0, 0, 0, 0, 0, 0, 0, 0, 0, 0, 0, 0, 0, 0, 0, 0, 0, 0, 0, 0, 0, 0, 0, 0, 0, 0, 0, 0, 0, 0, 0, 0, 0, 0, 0, 0, 0, 0, 0, 0, 0, 0, 0, 0, 0, 0, 0, 0, 0, 0, 0, 0, 0, 0, 0, 0, 0, 0, 0, 0, 0, 0, 0, 0, 0]
def z_oc (c : Nat) : Nat := z_ocL.getD c 0
def z_nfL : List Nat := [0, 7, 5, 10, 4, 9, 3, 7, 11, 15, 15, 57, 1, 0, 0, 0, 0, 0, 0, 0, 0, 0, 0, 0, 0, 0, 0, 0, 0, 0, 0, 0, 0, 0, 0, 0, 0, 0, 0, 0, 0, 0, 0, 0, 0, 0, 0, 0, 0, 0, 0, 0, 0, 0, 0, 0, 0, 0, 0, 0, 0, 0, 0, 0, 0, 0, 0, 0, 0, 0, 0, 0, 0, 0, 0, 0, 0, 0, 0, 0]
def z_nf (c : Nat) : Nat := z_nfL.getD c 0
def z_akL : List Nat := [0, 0, 0, 0, 0, 0, 0, 0, 0, 0, 0, 0, 0, 0, 0, 0, 0, 3, 3, 3, 0, 8, 3, 3, 3, 3, 0, 2, 3, 0, 0, 0, 0, 0, 0, 0, 0, 0, 0, 0, 0, 0, 4, 5, 6, 7, 0, 0, 1, 0, 0, 0, 0, 0, 0, 0, 0, 0, 0, 0, 0, 0, 0, 0, 0, 0, 0, 0, 3, 3, 0, 0, 0, 0, 0, 0, 0, 0, 2, 0]
def z_ak (c : Nat) : Nat := z_akL.getD c 0
def z_fkL : List (List (Nat × Nat × Int)) := [[], [(3, 13, 0), (3, 14, 0), (3, 15, 0), (3, 16, 0), (3, 17, 0), (0, 0, 0), (0, 0, 0)], [(3, 1, 0), (0, 0, 0), (0, 0, 0), (0, 0, 0), (0, 0, 0)], [(4, 4, 13), (3, 18, 0), (2, 0, 0), (0, 0, 0), (0, 0, 0), (0, 0, 0), (0, 0, 0), (0, 0, 0), (0, 0, 0), (0, 0, 0)], [(3, 19, 0), (0, 0, 0), (0, 0, 0), (0, 0, 0)], [(3, 20, 0), (0, 0, 0), (0, 0, 0), (0, 0, 0), (0, 0, 0), (0, 0, 0), (0, 0, 0), (5, 12, 0), (5, 1, 0)], [(3, 21, 0), (3, 22, 0), (3, 23, 0)], [(5, 9, 0), (5, 2, 0), (3, 24, 0), (3, 25, 0), (3, 26, 0), (3, 27, 0), (3, 28, 0)], [(1, 0, 0), (1, 0, 0), (0, 0, 0), (0, 0, 0), (0, 0, 0), (0, 0, 0), (0, 0, 0), (3, 4, 0), (3, 29, 0), (3, 30, 0), (3, 31, 0)], [(0, 0, 0), (0, 0, 0), (0, 0, 0), (0, 0, 0), (3, 32, 0), (3, 33, 0), (3, 34, 0), (3, 35, 0), (3, 36, 0), (3, 37, 0), (3, 38, 0), (3, 39, 0), (3, 40, 0), (0, 0, 0), (3, 41, 0)], [(4, 5, 0), (3, 42, 0), (3, 43, 0), (3, 44, 0), (0, 0, 0), (0, 0, 0), (0, 0, 0), (4, 8, 0), (3, 45, 0), (4, 7, 0), (4, 4, 5), (4, 6, 0), (4, 3, 0), (3, 46, 0), (3, 47, 0)], [(3, 48, 0), (0, 0, 0), (3, 49, 0), (3, 50, 0), (3, 51, 0), (3, 52, 0), (3, 53, 0), (3, 54, 0), (3, 55, 0), (3, 56, 0), (3, 57, 0), (3, 58, 0), (3, 59, 0), (3, 60, 0), (3, 61, 0), (3, 62, 0), (3, 63, 0), (3, 64, 0), (0, 0, 0), (0, 0, 0), (0, 0, 0), (0, 0, 0), (0, 0, 0), (0, 0, 0), (0, 0, 0), (3, 65, 0), (0, 0, 0), (3, 66, 0), (3, 67, 0), (3, 68, 0), (0, 0, 0), (3, 69, 0), (3, 70, 0), (3, 71, 0), (3, 72, 0), (0, 0, 0), (2, 0, 0), (2, 0, 0), (0, 0, 0), (0, 0, 0), (3, 73, 0), (3, 74, 0), (3, 75, 0), (2, 0, 0), (0, 0, 0), (0, 0, 0), (0, 0, 0), (0, 0, 0), (0, 0, 0), (0, 0, 0), (0, 0, 0), (0, 0, 0), (0, 0, 0), (0, 0, 0), (3, 76, 0), (3, 77, 0), (3, 78, 0)]]
def z_fk (c f : Nat) : Nat × Nat × Int := (z_fkL.getD c []).getD f (9, 0, 0)
def z_ra (c : Nat) : Nat × Int := match c with
  | 42 => (9, 0)
  | 43 => (2, 0)
  | 44 => (1, 6)
  | 45 => (8, 1)
  | 21 => (4, 6)
  | _ => (0, 0)
/-- the texts of the program: their signs -/
def z_strs : List (List Int) := [[112, 97, 116, 104, 32, 103, 114, 111, 117, 110, 100, 32, 115, 107, 121, 32, 104, 97, 114, 109, 32, 101, 121, 101, 115], [119, 105, 100, 101, 32, 104, 111, 109, 101, 32, 112, 97, 116, 104, 32, 119, 97, 108, 108, 32, 103, 114, 111, 117, 110, 100, 32, 115, 107, 121, 32, 104, 97, 114, 109, 32, 115, 111, 117, 114, 99, 101], [100, 114, 105, 102, 116, 32, 102, 101, 101, 108, 32, 115, 101, 101, 32, 104, 101, 97, 114, 32, 115, 116, 101, 112], [105, 102], [110, 111, 116], [97, 110, 100, 32, 111, 114], [111, 110, 32, 97, 116, 32, 115, 117, 114, 101, 32, 103, 114, 111, 117, 110, 100, 32, 115, 107, 121, 32, 108, 111, 117, 100, 32, 115, 116, 101, 112, 115, 32, 109, 97, 116, 99, 104, 101, 115, 32, 101, 121, 101, 115, 32, 112, 97, 116, 104], [103, 111, 32, 108, 101, 102, 116, 32, 114, 105, 103, 104, 116, 32, 98, 97, 99, 107, 32, 115, 105, 116, 32, 115, 116, 114, 105, 107, 101]]
def z_sl (n : Int) : Int := (z_strs.getD n.toNat []).length
def z_sc (n s : Int) : Int := (z_strs.getD n.toNat []).getD s.toNat 0
/-! acts that look at the tables -/
def a_dead : zA := fun _ _ _ _ _ _ => none
def a_len (c : Nat) (L : Int) : zA := fun _ _ k ls st w => match st with
  | Sum.inr (Sum.inr (c', _)) :: st => bif Nat.beq c' c then k ls (vI L :: st) w else none
  | _ => none
def a_lenX : zA := fun _ _ k ls st w => match st with
  | Sum.inr (Sum.inr (c, _)) :: st => gd (z_kd c = 1 ∨ z_kd c = 4) (k ls (vI (z_ln c) :: st) w)
  | _ => none
def a_aIX : zA := fun _ _ k ls st w => match st with
  | Sum.inl s :: Sum.inr (Sum.inr (c, i)) :: st => gd (z_kd c = 1 ∧ 0 ≤ s ∧ s < z_ln c) (k ls (vI (w c i s) :: st) w)
  | _ => none
def a_aLX : zA := fun _ _ k ls st w => match st with
  | Sum.inl s :: Sum.inr (Sum.inr (c, i)) :: st => gd (z_kd c = 4 ∧ 0 ≤ s ∧ s < z_ln c) (k ls (vL (w c i s) :: st) w)
  | _ => none
def a_sNX : zA := fun _ _ k ls st w => match st with
  | Sum.inl v :: Sum.inl s :: Sum.inr (Sum.inr (c, i)) :: st => gd (z_kd c = 1 ∧ 0 ≤ s ∧ s < z_ln c) (k ls st (z_up w c i s v))
  | _ => none
def a_sLX : zA := fun _ _ k ls st w => match st with
  | Sum.inr (Sum.inl v) :: Sum.inl s :: Sum.inr (Sum.inr (c, i)) :: st => gd (z_kd c = 4 ∧ 0 ≤ s ∧ s < z_ln c) (k ls st (z_up w c i s v))
  | _ => none
def a_acI (c0 : Nat) (L0 : Int) (c1 : Nat) (L1 : Int) : zA := fun _ _ k ls st w => match st with
  | Sum.inl n :: Sum.inl dp :: Sum.inr (Sum.inr (c1', i1)) :: Sum.inl sp :: Sum.inr (Sum.inr (c0', i0)) :: st => bif Nat.beq c1' c1 && Nat.beq c0' c0 && Nat.ble (z_sz st) 8 then gd (0 ≤ sp ∧ 0 ≤ dp ∧ 0 ≤ n ∧ sp + n ≤ L0 ∧ dp + n ≤ L1) (k ls st (z_cpy w c0 i0 sp c1 i1 dp n)) else none
  | _ => none
def a_acL (c0 : Nat) (L0 : Int) (c1 : Nat) (L1 : Int) : zA := fun _ _ k ls st w => match st with
  | Sum.inl n :: Sum.inl dp :: Sum.inr (Sum.inr (c1', i1)) :: Sum.inl sp :: Sum.inr (Sum.inr (c0', i0)) :: st => bif Nat.beq c1' c1 && Nat.beq c0' c0 && Nat.ble (z_sz st) 8 then gd (0 ≤ sp ∧ 0 ≤ dp ∧ 0 ≤ n ∧ sp + n ≤ L0 ∧ dp + n ≤ L1) (k ls st (z_cpy w c0 i0 sp c1 i1 dp n)) else none
  | _ => none
def a_scod : zA := fun _ _ k ls st w => match st with
  | Sum.inr (Sum.inr (c, _)) :: st => bif Nat.beq c 12 then k ls (vI 0 :: st) w else none
  | _ => none
def a_slv : zA := fun _ _ k ls st w => match st with
  | Sum.inr (Sum.inr (c, i)) :: st => bif Nat.beq c 79 then k ls (vI (z_sl i) :: st) w else none
  | _ => none
def a_sbl : zA := fun _ _ k ls st w => match st with
  | Sum.inl s :: Sum.inr (Sum.inr (c, i)) :: st => bif Nat.beq c 79 then gd (0 ≤ s ∧ s < z_sl i) (k ls (vI (z_sc i s) :: st) w) else none
  | _ => none
def a_chk : zA := fun _ _ k ls st w => match st with
  | Sum.inl n :: Sum.inl s :: st => bif Nat.ble (z_sz st) 8 then gd (0 ≤ s ∧ s < n) (k ls st w) else none
  | _ => none
/-! the operations by name -/
def i_iadd : zA := a_bin (fun a b => inI (a + b)) (fun a b => a + b)
def i_isub : zA := a_bin (fun a b => inI (a - b)) (fun a b => a - b)
def i_imul : zA := a_bin (fun a b => inI (a * b)) (fun a b => a * b)
def i_idiv : zA := a_bin (fun a b => 0 ≤ a ∧ 0 < b) (fun a b => a / b)
def i_irem : zA := a_bin (fun a b => 0 ≤ a ∧ 0 < b) (fun a b => a % b)
def i_iand : zA := a_binN z_and
def i_ior : zA := a_binN z_or
def i_ixor : zA := a_binN z_xor
def i_iushr : zA := a_binN z_ushr
def i_ishl : zA := a_bin (fun a b => 0 ≤ b ∧ b < 31 ∧ 0 ≤ a ∧ inI (a * 2 ^ b.toNat)) (fun a b => a * 2 ^ b.toNat)
def i_ishr : zA := a_bin (fun _ b => 0 ≤ b ∧ b < 32) (fun a b => a / 2 ^ b.toNat)
def i_ineg : zA := a_un (fun a => inI (-a)) (fun a => -a)
def i_i2b : zA := a_unN z_w8
def i_i2c : zA := a_un (fun a => 0 ≤ a ∧ a < 65536) (fun a => a)
def i_iabs : zA := a_unM (fun a => ¬ a = -2147483648) (fun a => max a (-a))
def i_max : zA := a_binM (fun a b => max a b)
def i_min : zA := a_binM (fun a b => min a b)
def i_lmax : zA := a_binLM (fun a b => max a b)
def i_lmin : zA := a_binLM (fun a b => min a b)
def i_ladd : zA := a_binL (fun a b => inL (a + b)) (fun a b => a + b)
def i_lsub : zA := a_binL (fun a b => inL (a - b)) (fun a b => a - b)
def i_lmul : zA := a_binL (fun a b => inL (a * b)) (fun a b => a * b)
def i_ldiv : zA := a_binL (fun a b => 0 ≤ a ∧ 0 < b) (fun a b => a / b)
def i_lrem : zA := a_binL (fun a b => 0 ≤ a ∧ 0 < b) (fun a b => a % b)
def i_laddw : zA := a_binLN (fun a b => z_wL (a + b))
def i_lsubw : zA := a_binLN (fun a b => z_wL (a - b))
def i_lmulw : zA := a_binLN (fun a b => z_wL (a * b))
def i_ldivw : zA := a_binL (fun _ b => ¬ b = 0) (fun a b => z_wL (Int.tdiv a b))
def i_land : zA := a_binLN z_andL
def i_lor : zA := a_binLN z_orL
def z_cut (l : List Nat) (b : Nat) : Bool := match l with
  | [] => false
  | x :: t => bif Nat.beq b x then true else z_cut t b
