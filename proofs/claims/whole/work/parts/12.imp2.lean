/-! arithmetic, branches, returns -/
theorem n_tnL (n : Nat) : (Int64.ofInt (n : Int)).toBitVec.toNat = n % 2 ^ 64 := by
  show (BitVec.ofInt 64 (n : Int)).toNat = _
  rw [BitVec.toNat_ofInt]
  omega
theorem n_lshlN {n j : Nat} (s : Int64) (hs : (s.toBitVec.smod 64).toNat = j) (h : n * 2 ^ j < 2 ^ 64) : Int64.ofInt (n : Int) <<< s = Int64.ofInt ((n * 2 ^ j : Nat) : Int) := by
  apply Int64.toBitVec_inj.mp
  apply BitVec.eq_of_toNat_eq
  have hn : n < 2 ^ 64 := Nat.lt_of_le_of_lt (Nat.le_mul_of_pos_right n (Nat.two_pow_pos j)) h
  show ((Int64.ofInt (n : Int)).toBitVec <<< (s.toBitVec.smod 64).toNat).toNat = _
  rw [hs, BitVec.toNat_shiftLeft, Nat.shiftLeft_eq, n_tnL, n_tnL, Nat.mod_eq_of_lt hn]
section IMP
variable {E : zE} {A : Nat → Prop} {XH : State → Heap → Prop} {l : Launch} {cc : ByteArray} {own : String} {nL : Nat} {rt : Option FieldType} {bp : Nat → Nat} {pc : Nat} {as : List zA}
theorem im_bin {p : Int → Int → Prop} {_i : ∀ a b, Decidable (p a b)} {f : Int → Int → Int} {pc' : Nat} (h : z_Imp E A XH l cc own nL rt bp pc' as)
    (hs : ∀ a b, inI a → inI b → p a b → inI (f a b) ∧ ∀ (p : Program) (e : Env) (R : Room) (s : State) (m : MethodId) (args : Array Value) (below : List Frame) (meth : Method) (c : Code) (cells slots : Nat) (Q : State → Prop) (H : Heap) (locs : List Loc) (lv : Array Slot) (rest : List Value), p.tables.exec = Jvm.exec → c.code = cc → W p l e R s m args below meth c H locs cells slots Q (F0 m pc' lv (.int (Int32.ofInt (f a b)) :: rest)) → W p l e R s m args below meth c H locs cells slots Q (F0 m pc lv (.int (Int32.ofInt b) :: .int (Int32.ofInt a) :: rest))) :
    z_Imp E A XH l cc own nL rt bp pc (a_bin p f :: as) :=
  im_mv h fun C G k ls st w r hb okl oks => by
    unfold a_bin at hb
    split at hb
    · obtain ⟨hp, hb⟩ := gd_some.mp hb
      obtain ⟨h1, h2⟩ := hs _ _ oks.t.h oks.h hp
      exact ⟨ls, _, w, hb, okl, oks.t.t.c h1, mv_st fun p e R s m args below meth c cells slots Q H locs lv hx hcc ho ht k => h2 p e R s m args below meth c cells slots Q H locs lv _ hx hcc k⟩
    · cases hb
theorem im_binN {f : Int → Int → Int} {pc' : Nat} (h : z_Imp E A XH l cc own nL rt bp pc' as)
    (hs : ∀ a b, inI a → inI b → inI (f a b) ∧ ∀ (p : Program) (e : Env) (R : Room) (s : State) (m : MethodId) (args : Array Value) (below : List Frame) (meth : Method) (c : Code) (cells slots : Nat) (Q : State → Prop) (H : Heap) (locs : List Loc) (lv : Array Slot) (rest : List Value), p.tables.exec = Jvm.exec → c.code = cc → W p l e R s m args below meth c H locs cells slots Q (F0 m pc' lv (.int (Int32.ofInt (f a b)) :: rest)) → W p l e R s m args below meth c H locs cells slots Q (F0 m pc lv (.int (Int32.ofInt b) :: .int (Int32.ofInt a) :: rest))) :
    z_Imp E A XH l cc own nL rt bp pc (a_binN f :: as) :=
  im_mv h fun C G k ls st w r hb okl oks => by
    unfold a_binN at hb
    split at hb
    · obtain ⟨h1, h2⟩ := hs _ _ oks.t.h oks.h
      exact ⟨ls, _, w, hb, okl, oks.t.t.c h1, mv_st fun p e R s m args below meth c cells slots Q H locs lv hx hcc ho ht k => h2 p e R s m args below meth c cells slots Q H locs lv _ hx hcc k⟩
    · cases hb
theorem im_binL {p : Int → Int → Prop} {_i : ∀ a b, Decidable (p a b)} {f : Int → Int → Int} {pc' : Nat} (h : z_Imp E A XH l cc own nL rt bp pc' as)
    (hs : ∀ a b, inL a → inL b → p a b → inL (f a b) ∧ ∀ (p : Program) (e : Env) (R : Room) (s : State) (m : MethodId) (args : Array Value) (below : List Frame) (meth : Method) (c : Code) (cells slots : Nat) (Q : State → Prop) (H : Heap) (locs : List Loc) (lv : Array Slot) (rest : List Value), p.tables.exec = Jvm.exec → c.code = cc → W p l e R s m args below meth c H locs cells slots Q (F0 m pc' lv (.long (Int64.ofInt (f a b)) :: rest)) → W p l e R s m args below meth c H locs cells slots Q (F0 m pc lv (.long (Int64.ofInt b) :: .long (Int64.ofInt a) :: rest))) :
    z_Imp E A XH l cc own nL rt bp pc (a_binL p f :: as) :=
  im_mv h fun C G k ls st w r hb okl oks => by
    unfold a_binL at hb
    split at hb
    · obtain ⟨hp, hb⟩ := gd_some.mp hb
      obtain ⟨h1, h2⟩ := hs _ _ oks.t.h oks.h hp
      exact ⟨ls, _, w, hb, okl, oks.t.t.c h1, mv_st fun p e R s m args below meth c cells slots Q H locs lv hx hcc ho ht k => h2 p e R s m args below meth c cells slots Q H locs lv _ hx hcc k⟩
    · cases hb
theorem im_binLN {f : Int → Int → Int} {pc' : Nat} (h : z_Imp E A XH l cc own nL rt bp pc' as)
    (hs : ∀ a b, inL a → inL b → inL (f a b) ∧ ∀ (p : Program) (e : Env) (R : Room) (s : State) (m : MethodId) (args : Array Value) (below : List Frame) (meth : Method) (c : Code) (cells slots : Nat) (Q : State → Prop) (H : Heap) (locs : List Loc) (lv : Array Slot) (rest : List Value), p.tables.exec = Jvm.exec → c.code = cc → W p l e R s m args below meth c H locs cells slots Q (F0 m pc' lv (.long (Int64.ofInt (f a b)) :: rest)) → W p l e R s m args below meth c H locs cells slots Q (F0 m pc lv (.long (Int64.ofInt b) :: .long (Int64.ofInt a) :: rest))) :
    z_Imp E A XH l cc own nL rt bp pc (a_binLN f :: as) :=
  im_mv h fun C G k ls st w r hb okl oks => by
    unfold a_binLN at hb
    split at hb
    · obtain ⟨h1, h2⟩ := hs _ _ oks.t.h oks.h
      exact ⟨ls, _, w, hb, okl, oks.t.t.c h1, mv_st fun p e R s m args below meth c cells slots Q H locs lv hx hcc ho ht k => h2 p e R s m args below meth c cells slots Q H locs lv _ hx hcc k⟩
    · cases hb
theorem im_un {p : Int → Prop} {_i : ∀ a, Decidable (p a)} {f : Int → Int} {pc' : Nat} (h : z_Imp E A XH l cc own nL rt bp pc' as)
    (hs : ∀ a, inI a → p a → inI (f a) ∧ ∀ (p : Program) (e : Env) (R : Room) (s : State) (m : MethodId) (args : Array Value) (below : List Frame) (meth : Method) (c : Code) (cells slots : Nat) (Q : State → Prop) (H : Heap) (locs : List Loc) (lv : Array Slot) (rest : List Value), p.tables.exec = Jvm.exec → c.code = cc → W p l e R s m args below meth c H locs cells slots Q (F0 m pc' lv (.int (Int32.ofInt (f a)) :: rest)) → W p l e R s m args below meth c H locs cells slots Q (F0 m pc lv (.int (Int32.ofInt a) :: rest))) :
    z_Imp E A XH l cc own nL rt bp pc (a_un p f :: as) :=
  im_mv h fun C G k ls st w r hb okl oks => by
    unfold a_un at hb
    split at hb
    · obtain ⟨hp, hb⟩ := gd_some.mp hb
      obtain ⟨h1, h2⟩ := hs _ oks.h hp
      exact ⟨ls, _, w, hb, okl, oks.t.c h1, mv_st fun p e R s m args below meth c cells slots Q H locs lv hx hcc ho ht k => h2 p e R s m args below meth c cells slots Q H locs lv _ hx hcc k⟩
    · cases hb
theorem im_iadd (hd : decode cc pc = .ok (.iadd, 1)) (h : z_Imp E A XH l cc own nL rt bp (pc + 1) as) : z_Imp E A XH l cc own nL rt bp pc (i_iadd :: as) :=
  im_bin h fun a b ha hb hp => ⟨hp, fun p e R s m args below meth c cells slots Q H locs lv rest hx hcc k => lv_iadd hx hcc hd (by rw [← Int32.ofInt_add]; exact k)⟩
theorem im_isub (hd : decode cc pc = .ok (.isub, 1)) (h : z_Imp E A XH l cc own nL rt bp (pc + 1) as) : z_Imp E A XH l cc own nL rt bp pc (i_isub :: as) :=
  im_bin h fun a b ha hb hp => ⟨hp, fun p e R s m args below meth c cells slots Q H locs lv rest hx hcc k => lv_isub hx hcc hd (by rw [← Int32.ofInt_sub]; exact k)⟩
theorem im_imul (hd : decode cc pc = .ok (.imul, 1)) (h : z_Imp E A XH l cc own nL rt bp (pc + 1) as) : z_Imp E A XH l cc own nL rt bp pc (i_imul :: as) :=
  im_bin h fun a b ha hb hp => ⟨hp, fun p e R s m args below meth c cells slots Q H locs lv rest hx hcc k => lv_imul hx hcc hd (by rw [← Int32.ofInt_mul]; exact k)⟩
theorem n_ne0 {b : Int} (hb : inI b) (h : 0 < b) : ¬ Int32.ofInt b = 0 := fun e => by
  have := (n_ieq hb n_in0).mp e
  omega
theorem n_ne0L {b : Int} (hb : inL b) (h : ¬ b = 0) : ¬ Int64.ofInt b = 0 := fun e => by
  have := (n_leq hb (show inL 0 by decide)).mp e
  exact h this
theorem im_idiv (hd : decode cc pc = .ok (.idiv, 1)) (h : z_Imp E A XH l cc own nL rt bp (pc + 1) as) : z_Imp E A XH l cc own nL rt bp pc (i_idiv :: as) :=
  im_bin h fun a b ha hb hp => ⟨(n_idiv ha hb hp.1 hp.2).2, fun p e R s m args below meth c cells slots Q H locs lv rest hx hcc k => lv_idiv hx hcc hd (n_ne0 hb hp.2) (by rw [(n_idiv ha hb hp.1 hp.2).1]; exact k)⟩
theorem im_irem (hd : decode cc pc = .ok (.irem, 1)) (h : z_Imp E A XH l cc own nL rt bp (pc + 1) as) : z_Imp E A XH l cc own nL rt bp pc (i_irem :: as) :=
  im_bin h fun a b ha hb hp => ⟨(n_irem ha hb hp.1 hp.2).2, fun p e R s m args below meth c cells slots Q H locs lv rest hx hcc k => lv_irem hx hcc hd (n_ne0 hb hp.2) (by rw [(n_irem ha hb hp.1 hp.2).1]; exact k)⟩
theorem im_iand (hd : decode cc pc = .ok (.iand, 1)) (h : z_Imp E A XH l cc own nL rt bp (pc + 1) as) : z_Imp E A XH l cc own nL rt bp pc (i_iand :: as) :=
  im_binN h fun a b ha hb => ⟨n_ir _, fun p e R s m args below meth c cells slots Q H locs lv rest hx hcc k => lv_iand hx hcc hd (by rw [z_and, n_iT] at k; exact k)⟩
theorem im_ior (hd : decode cc pc = .ok (.ior, 1)) (h : z_Imp E A XH l cc own nL rt bp (pc + 1) as) : z_Imp E A XH l cc own nL rt bp pc (i_ior :: as) :=
  im_binN h fun a b ha hb => ⟨n_ir _, fun p e R s m args below meth c cells slots Q H locs lv rest hx hcc k => lv_ior hx hcc hd (by rw [z_or, n_iT] at k; exact k)⟩
theorem im_ixor (hd : decode cc pc = .ok (.ixor, 1)) (h : z_Imp E A XH l cc own nL rt bp (pc + 1) as) : z_Imp E A XH l cc own nL rt bp pc (i_ixor :: as) :=
  im_binN h fun a b ha hb => ⟨n_ir _, fun p e R s m args below meth c cells slots Q H locs lv rest hx hcc k => lv_ixor hx hcc hd (by rw [z_xor, n_iT] at k; exact k)⟩
theorem im_iushr (hd : decode cc pc = .ok (.iushr, 1)) (h : z_Imp E A XH l cc own nL rt bp (pc + 1) as) : z_Imp E A XH l cc own nL rt bp pc (i_iushr :: as) :=
  im_binN h fun a b ha hb => ⟨n_ir _, fun p e R s m args below meth c cells slots Q H locs lv rest hx hcc k => lv_iushr hx hcc hd rfl (by rw [z_ushr, n_iT] at k; exact k)⟩
theorem im_ishl (hd : decode cc pc = .ok (.ishl, 1)) (h : z_Imp E A XH l cc own nL rt bp (pc + 1) as) : z_Imp E A XH l cc own nL rt bp pc (i_ishl :: as) :=
  im_bin h fun a b ha hb hp => ⟨hp.2.2.2, fun p e R s m args below meth c cells slots Q H locs lv rest hx hcc k => lv_ishl hx hcc hd (by
    obtain ⟨h0, h1, h2, h3⟩ := hp
    have e : Int32.ofInt a <<< (Int32.ofInt b &&& 31) = Int32.ofInt (a * 2 ^ b.toNat) := by
      obtain ⟨j, rfl⟩ : ∃ j : Nat, b = (j : Int) := ⟨b.toNat, by omega⟩
      obtain ⟨n, rfl⟩ : ∃ n : Nat, a = (n : Int) := ⟨a.toNat, by omega⟩
      have hj : j < 32 := by omega
      have h4 := n_shc ⟨j, hj⟩
      have h5 : n * 2 ^ j < 2 ^ 32 := by
        have := h3.2
        have e1 : ((j : Int)).toNat = j := by omega
        rw [e1] at this
        have e2 : ((n * 2 ^ j : Nat) : Int) = (n : Int) * 2 ^ j := by
          rw [Int.natCast_mul, Int.natCast_pow]
          rfl
        have : ((n * 2 ^ j : Nat) : Int) ≤ 2147483647 := by rw [e2]; exact this
        omega
      have h6 := pk_shlN (n := n) (Int32.ofInt (j : Int) &&& 31) j h4 h5
      have e1 : ((j : Int)).toNat = j := by omega
      have e2 : ((n * 2 ^ j : Nat) : Int) = (n : Int) * 2 ^ j := by
        rw [Int.natCast_mul, Int.natCast_pow]
        rfl
      rw [e1, ← e2]
      exact h6
    rw [e]; exact k)⟩
theorem im_ishr (hd : decode cc pc = .ok (.ishr, 1)) (h : z_Imp E A XH l cc own nL rt bp (pc + 1) as) : z_Imp E A XH l cc own nL rt bp pc (i_ishr :: as) :=
  im_bin h fun a b ha hb hp => ⟨(n_ishr ha hp.1 hp.2).2, fun p e R s m args below meth c cells slots Q H locs lv rest hx hcc k => lv_ishr hx hcc hd (by rw [(n_ishr ha hp.1 hp.2).1]; exact k)⟩
theorem im_ineg (hd : decode cc pc = .ok (.ineg, 1)) (h : z_Imp E A XH l cc own nL rt bp (pc + 1) as) : z_Imp E A XH l cc own nL rt bp pc (i_ineg :: as) :=
  im_un h fun a ha hp => ⟨hp, fun p e R s m args below meth c cells slots Q H locs lv rest hx hcc k => lv_ineg hx hcc hd (by rw [← Int32.ofInt_neg]; exact k)⟩
theorem im_i2b (hd : decode cc pc = .ok (.i2b, 1)) (h : z_Imp E A XH l cc own nL rt bp (pc + 1) as) : z_Imp E A XH l cc own nL rt bp pc (i_i2b :: as) :=
  im_mv h fun C G k ls st w r hb okl oks => by
    unfold i_i2b a_unN at hb
    split at hb
    · obtain ⟨h1, h2⟩ := n_w8 _ oks.h
      exact ⟨ls, _, w, hb, okl, oks.t.c h2, mv_st fun p e R s m args below meth c cells slots Q H locs lv hx hcc ho ht k => lv_i2b hx hcc hd h1 k⟩
    · cases hb
theorem n_i2c {a : Int} (ha : inI a) (h : 0 ≤ a ∧ a < 65536) : ((Int32.ofInt a).toUInt32 % 65536).toInt32 = Int32.ofInt a := by
  obtain ⟨n, rfl⟩ : ∃ n : Nat, a = (n : Int) := ⟨a.toNat, by omega⟩
  rw [pk_char]
  have e : (Int32.ofInt (n : Int)) = nI n := rfl
  rw [e, pk_tn (by omega), Nat.mod_eq_of_lt (by omega)]
theorem im_i2c (hd : decode cc pc = .ok (.i2c, 1)) (h : z_Imp E A XH l cc own nL rt bp (pc + 1) as) : z_Imp E A XH l cc own nL rt bp pc (i_i2c :: as) :=
  im_un h fun a ha hp => ⟨ha, fun p e R s m args below meth c cells slots Q H locs lv rest hx hcc k => lv_i2c hx hcc hd (n_i2c ha hp) k⟩
theorem im_i2l (hd : decode cc pc = .ok (.i2l, 1)) (h : z_Imp E A XH l cc own nL rt bp (pc + 1) as) : z_Imp E A XH l cc own nL rt bp pc (a_i2l :: as) :=
  im_mv h fun C G k ls st w r hb okl oks => by
    unfold a_i2l at hb
    split at hb
    · next z _ =>
      have hz : inI z := oks.h
      have hL : inL z := ⟨by have := hz.1; omega, by have := hz.2; omega⟩
      refine ⟨ls, _, w, hb, okl, oks.t.c hL, mv_st fun p e R s m args below meth c cells slots Q H locs lv hx hcc ho ht k => lv_i2l (v := Int64.ofInt z) hx hcc hd ?_ k⟩
      rw [← Int64.toInt_inj, Int32.toInt_toInt64, n_i hz, n_l hL]
    · cases hb
theorem im_l2i (hd : decode cc pc = .ok (.l2i, 1)) (h : z_Imp E A XH l cc own nL rt bp (pc + 1) as) : z_Imp E A XH l cc own nL rt bp pc (a_l2i :: as) :=
  im_mv h fun C G k ls st w r hb okl oks => by
    unfold a_l2i at hb
    split at hb
    · next z _ =>
      obtain ⟨hp, hb⟩ := gd_some.mp hb
      refine ⟨ls, _, w, hb, okl, oks.t.c hp, mv_st fun p e R s m args below meth c cells slots Q H locs lv hx hcc ho ht k => lv_l2i (v := Int32.ofInt z) hx hcc hd ?_ k⟩
      rw [← Int32.toInt_inj, Int64.toInt_toInt32, n_i hp, n_l oks.h, Int.bmod_def]
      have := hp.1; have := hp.2
      have e : ((2 ^ 32 : Nat) : Int) = 4294967296 := by decide
      simp only [e]
      omega
    · cases hb
theorem im_ladd (hd : decode cc pc = .ok (.ladd, 1)) (h : z_Imp E A XH l cc own nL rt bp (pc + 1) as) : z_Imp E A XH l cc own nL rt bp pc (i_ladd :: as) :=
  im_binL h fun a b ha hb hp => ⟨hp, fun p e R s m args below meth c cells slots Q H locs lv rest hx hcc k => lv_ladd hx hcc hd (by rw [← Int64.ofInt_add]; exact k)⟩
theorem im_lsub (hd : decode cc pc = .ok (.lsub, 1)) (h : z_Imp E A XH l cc own nL rt bp (pc + 1) as) : z_Imp E A XH l cc own nL rt bp pc (i_lsub :: as) :=
  im_binL h fun a b ha hb hp => ⟨hp, fun p e R s m args below meth c cells slots Q H locs lv rest hx hcc k => lv_lsub hx hcc hd (by rw [← Int64.ofInt_sub]; exact k)⟩
theorem im_lmul (hd : decode cc pc = .ok (.lmul, 1)) (h : z_Imp E A XH l cc own nL rt bp (pc + 1) as) : z_Imp E A XH l cc own nL rt bp pc (i_lmul :: as) :=
  im_binL h fun a b ha hb hp => ⟨hp, fun p e R s m args below meth c cells slots Q H locs lv rest hx hcc k => lv_lmul hx hcc hd (by rw [← Int64.ofInt_mul]; exact k)⟩
theorem im_laddw (hd : decode cc pc = .ok (.ladd, 1)) (h : z_Imp E A XH l cc own nL rt bp (pc + 1) as) : z_Imp E A XH l cc own nL rt bp pc (i_laddw :: as) :=
  im_binLN h fun a b ha hb => ⟨(n_wL _).2, fun p e R s m args below meth c cells slots Q H locs lv rest hx hcc k => lv_ladd hx hcc hd (by rw [← Int64.ofInt_add, ← (n_wL _).1]; exact k)⟩
theorem im_lsubw (hd : decode cc pc = .ok (.lsub, 1)) (h : z_Imp E A XH l cc own nL rt bp (pc + 1) as) : z_Imp E A XH l cc own nL rt bp pc (i_lsubw :: as) :=
  im_binLN h fun a b ha hb => ⟨(n_wL _).2, fun p e R s m args below meth c cells slots Q H locs lv rest hx hcc k => lv_lsub hx hcc hd (by rw [← Int64.ofInt_sub, ← (n_wL _).1]; exact k)⟩
theorem im_lmulw (hd : decode cc pc = .ok (.lmul, 1)) (h : z_Imp E A XH l cc own nL rt bp (pc + 1) as) : z_Imp E A XH l cc own nL rt bp pc (i_lmulw :: as) :=
  im_binLN h fun a b ha hb => ⟨(n_wL _).2, fun p e R s m args below meth c cells slots Q H locs lv rest hx hcc k => lv_lmul hx hcc hd (by rw [← Int64.ofInt_mul, ← (n_wL _).1]; exact k)⟩
theorem im_ldiv (hd : decode cc pc = .ok (.ldiv, 1)) (h : z_Imp E A XH l cc own nL rt bp (pc + 1) as) : z_Imp E A XH l cc own nL rt bp pc (i_ldiv :: as) :=
  im_binL h fun a b ha hb hp => ⟨(n_ldiv ha hb hp.1 hp.2).2, fun p e R s m args below meth c cells slots Q H locs lv rest hx hcc k => lv_ldiv hx hcc hd (n_ne0L hb (by have := hp.2; omega)) (by rw [(n_ldiv ha hb hp.1 hp.2).1]; exact k)⟩
theorem im_lrem (hd : decode cc pc = .ok (.lrem, 1)) (h : z_Imp E A XH l cc own nL rt bp (pc + 1) as) : z_Imp E A XH l cc own nL rt bp pc (i_lrem :: as) :=
  im_binL h fun a b ha hb hp => ⟨(n_lrem ha hb hp.1 hp.2).2, fun p e R s m args below meth c cells slots Q H locs lv rest hx hcc k => lv_lrem hx hcc hd (n_ne0L hb (by have := hp.2; omega)) (by rw [(n_lrem ha hb hp.1 hp.2).1]; exact k)⟩
theorem im_ldivw (hd : decode cc pc = .ok (.ldiv, 1)) (h : z_Imp E A XH l cc own nL rt bp (pc + 1) as) : z_Imp E A XH l cc own nL rt bp pc (i_ldivw :: as) :=
  im_binL h fun a b ha hb hp => ⟨(n_wL _).2, fun p e R s m args below meth c cells slots Q H locs lv rest hx hcc k => lv_ldiv hx hcc hd (n_ne0L hb hp) (by rw [n_ldivw ha hb]; exact k)⟩
theorem im_land (hd : decode cc pc = .ok (.land, 1)) (h : z_Imp E A XH l cc own nL rt bp (pc + 1) as) : z_Imp E A XH l cc own nL rt bp pc (i_land :: as) :=
  im_binLN h fun a b ha hb => ⟨n_lr _, fun p e R s m args below meth c cells slots Q H locs lv rest hx hcc k => lv_land hx hcc hd (by rw [z_andL, n_lT] at k; exact k)⟩
theorem im_lor (hd : decode cc pc = .ok (.lor, 1)) (h : z_Imp E A XH l cc own nL rt bp (pc + 1) as) : z_Imp E A XH l cc own nL rt bp pc (i_lor :: as) :=
  im_binLN h fun a b ha hb => ⟨n_lr _, fun p e R s m args below meth c cells slots Q H locs lv rest hx hcc k => lv_lor hx hcc hd (by rw [z_orL, n_lT] at k; exact k)⟩
theorem im_dup (hd : decode cc pc = .ok (.dup, 1)) (h : z_Imp E A XH l cc own nL rt bp (pc + 1) as) : z_Imp E A XH l cc own nL rt bp pc (a_dup :: as) :=
  im_mv h fun C G k ls st w r hb okl oks => by
    unfold a_dup at hb
    split at hb
    · exact ⟨ls, _, w, hb, okl, oks.c oks.h, mv_st fun p e R s m args below meth c cells slots Q H locs lv hx hcc ho ht k => lv_dup hx hcc hd rfl k⟩
    · exact ⟨ls, _, w, hb, okl, oks.c oks.h, mv_st fun p e R s m args below meth c cells slots Q H locs lv hx hcc ho ht k => lv_dup hx hcc hd rfl k⟩
    · cases hb
theorem im_dup2 (hd : decode cc pc = .ok (.dup2, 1)) (h : z_Imp E A XH l cc own nL rt bp (pc + 1) as) : z_Imp E A XH l cc own nL rt bp pc (a_dup2 :: as) :=
  im_mv h fun C G k ls st w r hb okl oks => by
    unfold a_dup2 at hb
    split at hb
    · exact ⟨ls, _, w, hb, okl, (oks.c oks.t.h).c oks.h, mv_st fun p e R s m args below meth c cells slots Q H locs lv hx hcc ho ht k => lv_dup2_11 hx hcc hd rfl rfl k⟩
    · exact ⟨ls, _, w, hb, okl, (oks.c oks.t.h).c oks.h, mv_st fun p e R s m args below meth c cells slots Q H locs lv hx hcc ho ht k => lv_dup2_11 hx hcc hd rfl rfl k⟩
    · cases hb
theorem im_pop (hd : decode cc pc = .ok (.pop, 1)) (h : z_Imp E A XH l cc own nL rt bp (pc + 1) as) : z_Imp E A XH l cc own nL rt bp pc (a_pop :: as) :=
  im_mv h fun C G k ls st w r hb okl oks => by
    unfold a_pop at hb
    split at hb
    · exact ⟨ls, _, w, hb, okl, oks.t, mv_st fun p e R s m args below meth c cells slots Q H locs lv hx hcc ho ht k => lv_pop hx hcc hd rfl k⟩
    · cases hb
theorem im_lshl (hd : decode cc pc = .ok (.lshl, 1)) (h : z_Imp E A XH l cc own nL rt bp (pc + 1) as) : z_Imp E A XH l cc own nL rt bp pc (a_lshl :: as) :=
  im_mv h fun C G k ls st w r hb okl oks => by
    unfold a_lshl at hb
    split at hb
    · next b a _ =>
      obtain ⟨⟨h0, h1, h2, h3⟩, hb⟩ := gd_some.mp hb
      refine ⟨ls, _, w, hb, okl, oks.t.t.c h3, mv_st fun p e R s m args below meth c cells slots Q H locs lv hx hcc ho ht k => lv_lshl (v := Int64.ofInt (a * 2 ^ b.toNat)) hx hcc hd ?_ k⟩
      obtain ⟨j, rfl⟩ : ∃ j : Nat, b = (j : Int) := ⟨b.toNat, by omega⟩
      obtain ⟨n, rfl⟩ : ∃ n : Nat, a = (n : Int) := ⟨a.toNat, by omega⟩
      have hj : j < 64 := by omega
      have h4 := n_shcL ⟨j, hj⟩
      have e1 : ((j : Int)).toNat = j := by omega
      rw [e1] at h3 ⊢
      have e2 : ((n * 2 ^ j : Nat) : Int) = (n : Int) * 2 ^ j := by
        rw [Int.natCast_mul, Int.natCast_pow]
        rfl
      rw [← e2] at h3 ⊢
      exact n_lshlN _ h4 (by have := h3.2; omega)
    · cases hb
/-! branches -/
theorem im_if1 {p : Int → Prop} {_i : ∀ a, Decidable (p a)} {bt bf : Nat} {mt mf : List Bool}
    (hs : ∀ a, inI a → ∀ (p' : Program) (e : Env) (R : Room) (s : State) (m : MethodId) (args : Array Value) (below : List Frame) (meth : Method) (c : Code) (cells slots : Nat) (Q : State → Prop) (H : Heap) (locs : List Loc) (lv : Array Slot) (rest : List Value), p'.tables.exec = Jvm.exec → c.code = cc → (p a → W p' l e R s m args below meth c H locs cells slots Q (F0 m (bp bt) lv rest)) → (¬ p a → W p' l e R s m args below meth c H locs cells slots Q (F0 m (bp bf) lv rest)) → W p' l e R s m args below meth c H locs cells slots Q (F0 m pc lv (.int (Int32.ofInt a) :: rest))) :
    z_Imp E A XH l cc own nL rt bp pc (a_if1 p bt mt bf mf :: as) := by
  intro d C G r hC hG ls st w hb okl oks p' e R s m args below meth c cells slots Q cx H locs lv hR hS hL
  unfold z_blk a_if1 at hb
  split at hb
  · refine hs _ oks.h p' e R s m args below meth c cells slots Q H locs lv _ cx.1 cx.2.1 (fun hp => ?_) (fun hp => ?_)
    · rw [if_pos hp] at hb
      exact hG _ _ _ _ hb (okl.kp _) oks.t p' e R s m args below meth c cells slots Q cx H locs lv hR hS (hL.kp _)
    · rw [if_neg hp] at hb
      exact hG _ _ _ _ hb (okl.kp _) oks.t p' e R s m args below meth c cells slots Q cx H locs lv hR hS (hL.kp _)
  · cases hb
theorem im_if2 {p : Int → Int → Prop} {_i : ∀ a b, Decidable (p a b)} {bt bf : Nat} {mt mf : List Bool}
    (hs : ∀ a b, inI a → inI b → ∀ (p' : Program) (e : Env) (R : Room) (s : State) (m : MethodId) (args : Array Value) (below : List Frame) (meth : Method) (c : Code) (cells slots : Nat) (Q : State → Prop) (H : Heap) (locs : List Loc) (lv : Array Slot) (rest : List Value), p'.tables.exec = Jvm.exec → c.code = cc → (p a b → W p' l e R s m args below meth c H locs cells slots Q (F0 m (bp bt) lv rest)) → (¬ p a b → W p' l e R s m args below meth c H locs cells slots Q (F0 m (bp bf) lv rest)) → W p' l e R s m args below meth c H locs cells slots Q (F0 m pc lv (.int (Int32.ofInt b) :: .int (Int32.ofInt a) :: rest))) :
    z_Imp E A XH l cc own nL rt bp pc (a_if2 p bt mt bf mf :: as) := by
  intro d C G r hC hG ls st w hb okl oks p' e R s m args below meth c cells slots Q cx H locs lv hR hS hL
  unfold z_blk a_if2 at hb
  split at hb
  · refine hs _ _ oks.t.h oks.h p' e R s m args below meth c cells slots Q H locs lv _ cx.1 cx.2.1 (fun hp => ?_) (fun hp => ?_)
    · rw [if_pos hp] at hb
      exact hG _ _ _ _ hb (okl.kp _) oks.t.t p' e R s m args below meth c cells slots Q cx H locs lv hR hS (hL.kp _)
    · rw [if_neg hp] at hb
      exact hG _ _ _ _ hb (okl.kp _) oks.t.t p' e R s m args below meth c cells slots Q cx H locs lv hR hS (hL.kp _)
  · cases hb
theorem im_ifL {p : Int → Int → Prop} {_i : ∀ a b, Decidable (p a b)} {bt bf : Nat} {mt mf : List Bool}
    (hs : ∀ a b, inL a → inL b → ∀ (p' : Program) (e : Env) (R : Room) (s : State) (m : MethodId) (args : Array Value) (below : List Frame) (meth : Method) (c : Code) (cells slots : Nat) (Q : State → Prop) (H : Heap) (locs : List Loc) (lv : Array Slot) (rest : List Value), p'.tables.exec = Jvm.exec → c.code = cc → (p a b → W p' l e R s m args below meth c H locs cells slots Q (F0 m (bp bt) lv rest)) → (¬ p a b → W p' l e R s m args below meth c H locs cells slots Q (F0 m (bp bf) lv rest)) → W p' l e R s m args below meth c H locs cells slots Q (F0 m pc lv (.long (Int64.ofInt b) :: .long (Int64.ofInt a) :: rest))) :
    z_Imp E A XH l cc own nL rt bp pc (a_ifL p bt mt bf mf :: as) := by
  intro d C G r hC hG ls st w hb okl oks p' e R s m args below meth c cells slots Q cx H locs lv hR hS hL
  unfold z_blk a_ifL at hb
  split at hb
  · refine hs _ _ oks.t.h oks.h p' e R s m args below meth c cells slots Q H locs lv _ cx.1 cx.2.1 (fun hp => ?_) (fun hp => ?_)
    · rw [if_pos hp] at hb
      exact hG _ _ _ _ hb (okl.kp _) oks.t.t p' e R s m args below meth c cells slots Q cx H locs lv hR hS (hL.kp _)
    · rw [if_neg hp] at hb
      exact hG _ _ _ _ hb (okl.kp _) oks.t.t p' e R s m args below meth c cells slots Q cx H locs lv hR hS (hL.kp _)
  · cases hb
theorem n_lle {a b : Int} (ha : inL a) (hb : inL b) : Int64.ofInt a ≤ Int64.ofInt b ↔ a ≤ b := by
  rw [Int64.le_iff_toInt_le, n_l ha, n_l hb]
theorem n_cmp (x y : Int64) : (y < x ∧ lg_cmp x y = 1) ∨ (x = y ∧ lg_cmp x y = 0) ∨ (x < y ∧ lg_cmp x y = -1) := by
  unfold lg_cmp
  by_cases h1 : x > y
  · exact Or.inl ⟨h1, if_pos h1⟩
  · rw [if_neg h1]
    by_cases h2 : x = y
    · exact Or.inr (Or.inl ⟨h2, if_pos h2⟩)
    · refine Or.inr (Or.inr ⟨?_, if_neg h2⟩)
      have h3 : ¬ y < x := h1
      rw [Int64.lt_iff_toInt_lt] at h3 ⊢
      have h4 : x.toInt ≠ y.toInt := fun e => h2 (Int64.toInt_inj.mp e)
      omega
theorem n_cmp_eq (x y : Int64) : lg_cmp x y = 0 ↔ x = y := by
  rcases n_cmp x y with ⟨h, e⟩ | ⟨h, e⟩ | ⟨h, e⟩ <;> rw [e]
  · exact ⟨fun q => absurd q (by decide), fun q => absurd (q ▸ h) (by rw [Int64.lt_iff_toInt_lt]; omega)⟩
  · exact ⟨fun _ => h, fun _ => rfl⟩
  · exact ⟨fun q => absurd q (by decide), fun q => absurd (q ▸ h) (by rw [Int64.lt_iff_toInt_lt]; omega)⟩
theorem n_cmp_lt (x y : Int64) : lg_cmp x y < 0 ↔ x < y := by
  rcases n_cmp x y with ⟨h, e⟩ | ⟨h, e⟩ | ⟨h, e⟩ <;> rw [e]
  · exact ⟨fun q => absurd q (by decide), fun q => by rw [Int64.lt_iff_toInt_lt] at *; omega⟩
  · exact ⟨fun q => absurd q (by decide), fun q => by rw [h, Int64.lt_iff_toInt_lt] at *; omega⟩
  · exact ⟨fun _ => h, fun _ => by decide⟩
theorem n_cmp_gt (x y : Int64) : 0 < lg_cmp x y ↔ y < x := by
  rcases n_cmp x y with ⟨h, e⟩ | ⟨h, e⟩ | ⟨h, e⟩ <;> rw [e]
  · exact ⟨fun _ => h, fun _ => by decide⟩
  · exact ⟨fun q => absurd q (by decide), fun q => by rw [h, Int64.lt_iff_toInt_lt] at *; omega⟩
  · exact ⟨fun q => absurd q (by decide), fun q => by rw [Int64.lt_iff_toInt_lt] at *; omega⟩
theorem n_cmp_ge (x y : Int64) : 0 ≤ lg_cmp x y ↔ y ≤ x := by
  rcases n_cmp x y with ⟨h, e⟩ | ⟨h, e⟩ | ⟨h, e⟩ <;> rw [e]
  · exact ⟨fun _ => by rw [Int64.lt_iff_toInt_lt] at h; rw [Int64.le_iff_toInt_le]; omega, fun _ => by decide⟩
  · exact ⟨fun _ => by rw [h, Int64.le_iff_toInt_le]; omega, fun _ => by decide⟩
  · exact ⟨fun q => absurd q (by decide), fun q => by rw [Int64.lt_iff_toInt_lt] at h; rw [Int64.le_iff_toInt_le] at q; omega⟩
theorem n_cmp_le (x y : Int64) : lg_cmp x y ≤ 0 ↔ x ≤ y := by
  rcases n_cmp x y with ⟨h, e⟩ | ⟨h, e⟩ | ⟨h, e⟩ <;> rw [e]
  · exact ⟨fun q => absurd q (by decide), fun q => by rw [Int64.lt_iff_toInt_lt] at h; rw [Int64.le_iff_toInt_le] at q; omega⟩
  · exact ⟨fun _ => by rw [h, Int64.le_iff_toInt_le]; omega, fun _ => by decide⟩
  · exact ⟨fun _ => by rw [Int64.lt_iff_toInt_lt] at h; rw [Int64.le_iff_toInt_le]; omega, fun _ => by decide⟩
theorem im_if_eq {bt bf : Nat} {mt mf : List Bool} {off : Int} (hd : decode cc pc = .ok (.ifCond .eq off, 3)) (ht : (pc : Int) + off = (bp bt : Int)) (hf : bp bf = pc + 3) : z_Imp E A XH l cc own nL rt bp pc (a_if1 (fun a => a = 0) bt mt bf mf :: as) :=
  im_if1 fun a ha p e R s m args below meth c cells slots Q H locs lv rest hx hcc kt kf => lv_if_eq hx hcc hd ht (fun h => kt ((n_ieq ha n_in0).mp h)) (by rw [← hf]; exact (fun h => kf (fun e => h ((n_ieq ha n_in0).mpr e))))
theorem im_if_ne {bt bf : Nat} {mt mf : List Bool} {off : Int} (hd : decode cc pc = .ok (.ifCond .ne off, 3)) (ht : (pc : Int) + off = (bp bf : Int)) (hf : bp bt = pc + 3) : z_Imp E A XH l cc own nL rt bp pc (a_if1 (fun a => a = 0) bt mt bf mf :: as) :=
  im_if1 fun a ha p e R s m args below meth c cells slots Q H locs lv rest hx hcc kt kf => lv_if_ne hx hcc hd ht (fun h => kf (fun e => h ((n_ieq ha n_in0).mpr e))) (by rw [← hf]; exact (fun h => kt ((n_ieq ha n_in0).mp h)))
theorem im_if_lt {bt bf : Nat} {mt mf : List Bool} {off : Int} (hd : decode cc pc = .ok (.ifCond .lt off, 3)) (ht : (pc : Int) + off = (bp bt : Int)) (hf : bp bf = pc + 3) : z_Imp E A XH l cc own nL rt bp pc (a_if1 (fun a => a < 0) bt mt bf mf :: as) :=
  im_if1 fun a ha p e R s m args below meth c cells slots Q H locs lv rest hx hcc kt kf => lv_if_lt hx hcc hd ht (fun h => kt ((n_ilt ha n_in0).mp h)) (by rw [← hf]; exact (fun h => kf (fun e => h ((n_ilt ha n_in0).mpr e))))
theorem im_if_ge {bt bf : Nat} {mt mf : List Bool} {off : Int} (hd : decode cc pc = .ok (.ifCond .ge off, 3)) (ht : (pc : Int) + off = (bp bt : Int)) (hf : bp bf = pc + 3) : z_Imp E A XH l cc own nL rt bp pc (a_if1 (fun a => 0 ≤ a) bt mt bf mf :: as) :=
  im_if1 fun a ha p e R s m args below meth c cells slots Q H locs lv rest hx hcc kt kf => lv_if_ge hx hcc hd ht (fun h => kt ((n_ile n_in0 ha).mp h)) (by rw [← hf]; exact (fun h => kf (fun e => h ((n_ile n_in0 ha).mpr e))))
theorem im_if_gt {bt bf : Nat} {mt mf : List Bool} {off : Int} (hd : decode cc pc = .ok (.ifCond .gt off, 3)) (ht : (pc : Int) + off = (bp bt : Int)) (hf : bp bf = pc + 3) : z_Imp E A XH l cc own nL rt bp pc (a_if1 (fun a => 0 < a) bt mt bf mf :: as) :=
  im_if1 fun a ha p e R s m args below meth c cells slots Q H locs lv rest hx hcc kt kf => lv_if_gt hx hcc hd ht (fun h => kt ((n_ilt n_in0 ha).mp h)) (by rw [← hf]; exact (fun h => kf (fun e => h ((n_ilt n_in0 ha).mpr e))))
theorem im_if_le {bt bf : Nat} {mt mf : List Bool} {off : Int} (hd : decode cc pc = .ok (.ifCond .le off, 3)) (ht : (pc : Int) + off = (bp bt : Int)) (hf : bp bf = pc + 3) : z_Imp E A XH l cc own nL rt bp pc (a_if1 (fun a => a ≤ 0) bt mt bf mf :: as) :=
  im_if1 fun a ha p e R s m args below meth c cells slots Q H locs lv rest hx hcc kt kf => lv_if_le hx hcc hd ht (fun h => kt ((n_ile ha n_in0).mp h)) (by rw [← hf]; exact (fun h => kf (fun e => h ((n_ile ha n_in0).mpr e))))
theorem im_icmp_eq {bt bf : Nat} {mt mf : List Bool} {off : Int} (hd : decode cc pc = .ok (.if_icmp .eq off, 3)) (ht : (pc : Int) + off = (bp bt : Int)) (hf : bp bf = pc + 3) : z_Imp E A XH l cc own nL rt bp pc (a_if2 (fun a b => a = b) bt mt bf mf :: as) :=
  im_if2 fun a b ha hb p e R s m args below meth c cells slots Q H locs lv rest hx hcc kt kf => lv_icmp_eq hx hcc hd ht (fun h => kt ((n_ieq ha hb).mp h)) (by rw [← hf]; exact (fun h => kf (fun e => h ((n_ieq ha hb).mpr e))))
theorem im_icmp_ne {bt bf : Nat} {mt mf : List Bool} {off : Int} (hd : decode cc pc = .ok (.if_icmp .ne off, 3)) (ht : (pc : Int) + off = (bp bf : Int)) (hf : bp bt = pc + 3) : z_Imp E A XH l cc own nL rt bp pc (a_if2 (fun a b => a = b) bt mt bf mf :: as) :=
  im_if2 fun a b ha hb p e R s m args below meth c cells slots Q H locs lv rest hx hcc kt kf => lv_icmp_ne hx hcc hd ht (fun h => kf (fun e => h ((n_ieq ha hb).mpr e))) (by rw [← hf]; exact (fun h => kt ((n_ieq ha hb).mp h)))
theorem im_icmp_lt {bt bf : Nat} {mt mf : List Bool} {off : Int} (hd : decode cc pc = .ok (.if_icmp .lt off, 3)) (ht : (pc : Int) + off = (bp bt : Int)) (hf : bp bf = pc + 3) : z_Imp E A XH l cc own nL rt bp pc (a_if2 (fun a b => a < b) bt mt bf mf :: as) :=
  im_if2 fun a b ha hb p e R s m args below meth c cells slots Q H locs lv rest hx hcc kt kf => lv_icmp_lt hx hcc hd ht (fun h => kt ((n_ilt ha hb).mp h)) (by rw [← hf]; exact (fun h => kf (fun e => h ((n_ilt ha hb).mpr e))))
theorem im_icmp_ge {bt bf : Nat} {mt mf : List Bool} {off : Int} (hd : decode cc pc = .ok (.if_icmp .ge off, 3)) (ht : (pc : Int) + off = (bp bt : Int)) (hf : bp bf = pc + 3) : z_Imp E A XH l cc own nL rt bp pc (a_if2 (fun a b => b ≤ a) bt mt bf mf :: as) :=
  im_if2 fun a b ha hb p e R s m args below meth c cells slots Q H locs lv rest hx hcc kt kf => lv_icmp_ge hx hcc hd ht (fun h => kt ((n_ile hb ha).mp h)) (by rw [← hf]; exact (fun h => kf (fun e => h ((n_ile hb ha).mpr e))))
theorem im_icmp_gt {bt bf : Nat} {mt mf : List Bool} {off : Int} (hd : decode cc pc = .ok (.if_icmp .gt off, 3)) (ht : (pc : Int) + off = (bp bt : Int)) (hf : bp bf = pc + 3) : z_Imp E A XH l cc own nL rt bp pc (a_if2 (fun a b => b < a) bt mt bf mf :: as) :=
  im_if2 fun a b ha hb p e R s m args below meth c cells slots Q H locs lv rest hx hcc kt kf => lv_icmp_gt hx hcc hd ht (fun h => kt ((n_ilt hb ha).mp h)) (by rw [← hf]; exact (fun h => kf (fun e => h ((n_ilt hb ha).mpr e))))
theorem im_icmp_le {bt bf : Nat} {mt mf : List Bool} {off : Int} (hd : decode cc pc = .ok (.if_icmp .le off, 3)) (ht : (pc : Int) + off = (bp bt : Int)) (hf : bp bf = pc + 3) : z_Imp E A XH l cc own nL rt bp pc (a_if2 (fun a b => a ≤ b) bt mt bf mf :: as) :=
  im_if2 fun a b ha hb p e R s m args below meth c cells slots Q H locs lv rest hx hcc kt kf => lv_icmp_le hx hcc hd ht (fun h => kt ((n_ile ha hb).mp h)) (by rw [← hf]; exact (fun h => kf (fun e => h ((n_ile ha hb).mpr e))))
theorem im_lcmp_eq {bt bf : Nat} {mt mf : List Bool} {off : Int} (hd : decode cc pc = .ok (.lcmp, 1)) (hd2 : decode cc (pc + 1) = .ok (.ifCond .eq off, 3)) (ht : ((pc + 1 : Nat) : Int) + off = (bp bt : Int)) (hf : bp bf = pc + 1 + 3) : z_Imp E A XH l cc own nL rt bp pc (a_ifL (fun a b => a = b) bt mt bf mf :: as) :=
  im_ifL fun a b ha hb p e R s m args below meth c cells slots Q H locs lv rest hx hcc kt kf => W.lcmp hx hcc hd (lv_if_eq hx hcc hd2 ht (fun h => kt (((n_cmp_eq _ _).trans (n_leq ha hb)).mp h)) (by rw [← hf]; exact (fun h => kf (fun e => h (((n_cmp_eq _ _).trans (n_leq ha hb)).mpr e)))))
theorem im_lcmp_ne {bt bf : Nat} {mt mf : List Bool} {off : Int} (hd : decode cc pc = .ok (.lcmp, 1)) (hd2 : decode cc (pc + 1) = .ok (.ifCond .ne off, 3)) (ht : ((pc + 1 : Nat) : Int) + off = (bp bf : Int)) (hf : bp bt = pc + 1 + 3) : z_Imp E A XH l cc own nL rt bp pc (a_ifL (fun a b => a = b) bt mt bf mf :: as) :=
  im_ifL fun a b ha hb p e R s m args below meth c cells slots Q H locs lv rest hx hcc kt kf => W.lcmp hx hcc hd (lv_if_ne hx hcc hd2 ht (fun h => kf (fun e => h (((n_cmp_eq _ _).trans (n_leq ha hb)).mpr e))) (by rw [← hf]; exact (fun h => kt (((n_cmp_eq _ _).trans (n_leq ha hb)).mp h))))
theorem im_lcmp_lt {bt bf : Nat} {mt mf : List Bool} {off : Int} (hd : decode cc pc = .ok (.lcmp, 1)) (hd2 : decode cc (pc + 1) = .ok (.ifCond .lt off, 3)) (ht : ((pc + 1 : Nat) : Int) + off = (bp bt : Int)) (hf : bp bf = pc + 1 + 3) : z_Imp E A XH l cc own nL rt bp pc (a_ifL (fun a b => a < b) bt mt bf mf :: as) :=
  im_ifL fun a b ha hb p e R s m args below meth c cells slots Q H locs lv rest hx hcc kt kf => W.lcmp hx hcc hd (lv_if_lt hx hcc hd2 ht (fun h => kt (((n_cmp_lt _ _).trans (n_llt ha hb)).mp h)) (by rw [← hf]; exact (fun h => kf (fun e => h (((n_cmp_lt _ _).trans (n_llt ha hb)).mpr e)))))
theorem im_lcmp_ge {bt bf : Nat} {mt mf : List Bool} {off : Int} (hd : decode cc pc = .ok (.lcmp, 1)) (hd2 : decode cc (pc + 1) = .ok (.ifCond .ge off, 3)) (ht : ((pc + 1 : Nat) : Int) + off = (bp bt : Int)) (hf : bp bf = pc + 1 + 3) : z_Imp E A XH l cc own nL rt bp pc (a_ifL (fun a b => b ≤ a) bt mt bf mf :: as) :=
  im_ifL fun a b ha hb p e R s m args below meth c cells slots Q H locs lv rest hx hcc kt kf => W.lcmp hx hcc hd (lv_if_ge hx hcc hd2 ht (fun h => kt (((n_cmp_ge _ _).trans (n_lle hb ha)).mp h)) (by rw [← hf]; exact (fun h => kf (fun e => h (((n_cmp_ge _ _).trans (n_lle hb ha)).mpr e)))))
theorem im_lcmp_gt {bt bf : Nat} {mt mf : List Bool} {off : Int} (hd : decode cc pc = .ok (.lcmp, 1)) (hd2 : decode cc (pc + 1) = .ok (.ifCond .gt off, 3)) (ht : ((pc + 1 : Nat) : Int) + off = (bp bt : Int)) (hf : bp bf = pc + 1 + 3) : z_Imp E A XH l cc own nL rt bp pc (a_ifL (fun a b => b < a) bt mt bf mf :: as) :=
  im_ifL fun a b ha hb p e R s m args below meth c cells slots Q H locs lv rest hx hcc kt kf => W.lcmp hx hcc hd (lv_if_gt hx hcc hd2 ht (fun h => kt (((n_cmp_gt _ _).trans (n_llt hb ha)).mp h)) (by rw [← hf]; exact (fun h => kf (fun e => h (((n_cmp_gt _ _).trans (n_llt hb ha)).mpr e)))))
theorem im_lcmp_le {bt bf : Nat} {mt mf : List Bool} {off : Int} (hd : decode cc pc = .ok (.lcmp, 1)) (hd2 : decode cc (pc + 1) = .ok (.ifCond .le off, 3)) (ht : ((pc + 1 : Nat) : Int) + off = (bp bt : Int)) (hf : bp bf = pc + 1 + 3) : z_Imp E A XH l cc own nL rt bp pc (a_ifL (fun a b => a ≤ b) bt mt bf mf :: as) :=
  im_ifL fun a b ha hb p e R s m args below meth c cells slots Q H locs lv rest hx hcc kt kf => W.lcmp hx hcc hd (lv_if_le hx hcc hd2 ht (fun h => kt (((n_cmp_le _ _).trans (n_lle ha hb)).mp h)) (by rw [← hf]; exact (fun h => kf (fun e => h (((n_cmp_le _ _).trans (n_lle ha hb)).mpr e)))))

theorem im_goto {b : Nat} {mk : List Bool} {off : Int} (hd : decode cc pc = .ok (.goto off, 3)) (ht : (pc : Int) + off = (bp b : Int)) : z_Imp E A XH l cc own nL rt bp pc (a_go b mk :: as) := by
  intro d C G r hC hG ls st w hb okl oks p' e R s m args below meth c cells slots Q cx H locs lv hR hS hL
  exact lv_goto cx.1 cx.2.1 hd ht (hG _ _ _ _ hb (okl.kp _) oks p' e R s m args below meth c cells slots Q cx H locs lv hR hS (hL.kp _))
theorem im_fall {b : Nat} {mk : List Bool} (hf : bp b = pc) : z_Imp E A XH l cc own nL rt bp pc (a_go b mk :: as) := by
  intro d C G r hC hG ls st w hb okl oks p' e R s m args below meth c cells slots Q cx H locs lv hR hS hL
  have := hG _ _ _ _ hb (okl.kp _) oks p' e R s m args below meth c cells slots Q cx H locs lv hR hS (hL.kp _)
  rw [hf] at this
  exact this
theorem im_dead : z_Imp E A XH l cc own nL rt bp pc (a_dead :: as) := fun d C G r hC hG ls st w hb => by cases hb
theorem z_swk_s {G : zG} {ls : zL} {st : zS} {w : zW} {x : Int} {r : Int × zW} {bd : Nat} {md : List Bool} : ∀ {t : List (Nat × List Bool)} {lo : Int}, z_swk G ls st w x lo t bd md = some r → (∃ (j : Nat) (q : Nat × List Bool), t[j]? = some q ∧ x = lo + j ∧ G q.1 (z_kp q.2 ls) st w = some r) ∨ ((x < lo ∨ lo + t.length ≤ x) ∧ G bd (z_kp md ls) st w = some r) := by
  intro t
  induction t with
  | nil =>
    intro lo h
    refine Or.inr ⟨?_, h⟩
    simp only [List.length_nil]
    omega
  | cons q t ih =>
    intro lo h
    unfold z_swk at h
    split at h
    · next e => exact Or.inl ⟨0, q, rfl, by simpa using e, h⟩
    · next e =>
      rcases ih h with ⟨j, q', h1, h2, h3⟩ | ⟨h1, h2⟩
      · exact Or.inl ⟨j + 1, q', h1, by rw [h2]; push_cast; omega, h3⟩
      · refine Or.inr ⟨?_, h2⟩
        simp only [List.length_cons]
        push_cast
        omega
theorem im_sw {lo hi dflt : Int} {offs : Array Int} {len bd : Nat} {md : List Bool} {t : List (Nat × List Bool)} (hd : decode cc pc = .ok (.tableswitch dflt lo hi offs, len)) (h1 : lo + t.length = hi + 1) (h2 : (pc : Int) + dflt = (bp bd : Int)) (h3 : ∀ (j : Nat) (q : Nat × List Bool), t[j]? = some q → ∃ off, offs[j]? = some off ∧ (pc : Int) + off = (bp q.1 : Int)) : z_Imp E A XH l cc own nL rt bp pc (a_sw lo t bd md :: as) := by
  intro d C G r hC hG ls st w hb okl oks p' e R s m args below meth c cells slots Q cx H locs lv hR hS hL
  unfold z_blk a_sw at hb
  split at hb
  · next x st1 =>
    have hx : (Int32.ofInt x).toInt = x := n_i oks.h
    rcases z_swk_s hb with ⟨j, q, g1, g2, g3⟩ | ⟨g1, g2⟩
    · obtain ⟨off, k1, k2⟩ := h3 j q g1
      have hj : j < t.length := (List.getElem?_eq_some_iff.mp g1).1
      refine lv_tableIn cx.1 cx.2.1 hd (by rw [hx]; omega) (by rw [hx]; omega) (off := off) ?_ k2 (hG _ _ _ _ g3 (okl.kp _) oks.t p' e R s m args below meth c cells slots Q cx H locs lv hR hS (hL.kp _))
      rw [hx, g2, show (lo + (j : Int) - lo).toNat = j by omega]
      exact k1
    · exact lv_tableOut cx.1 cx.2.1 hd (by rw [hx]; omega) h2 (hG _ _ _ _ g2 (okl.kp _) oks.t p' e R s m args below meth c cells slots Q cx H locs lv hR hS (hL.kp _))
  · cases hb
theorem z_lsk_s {G : zG} {ls : zL} {st : zS} {w : zW} {x : Int} {r : Int × zW} {bd : Nat} {md : List Bool} {pc : Nat} {bp : Nat → Nat} {dflt : Int} (h2 : (pc : Int) + dflt = (bp bd : Int)) : ∀ {t : List (Int × Nat × List Bool)} {ps : List (Int × Int)}, (∀ j : Nat, (t[j]?).map (fun q => (q.1, (bp q.2.1 : Int))) = (ps[j]?).map (fun q => (q.1, (pc : Int) + q.2))) → z_lsk G ls st w x t bd md = some r → ∃ (b : Nat) (mk : List Bool), (pc : Int) + Op.lookupswitch.offset ps dflt x = (bp b : Int) ∧ G b (z_kp mk ls) st w = some r := by
  intro t
  induction t with
  | nil =>
    intro ps hp h
    cases ps with
    | nil => exact ⟨bd, md, h2, h⟩
    | cons q ps => have := hp 0; simp at this
  | cons q t ih =>
    intro ps hp h
    cases ps with
    | nil => have := hp 0; simp at this
    | cons q' ps =>
      have h0 := hp 0
      simp only [List.getElem?_cons_zero, Option.map_some, Option.some.injEq, Prod.mk.injEq] at h0
      unfold z_lsk at h
      split at h
      · next e =>
        refine ⟨q.2.1, q.2.2, ?_, h⟩
        rw [h0.2]
        congr 1
        obtain ⟨a, o⟩ := q'
        have : a = x := by rw [e]; exact h0.1.symm
        subst this
        simp [Op.lookupswitch.offset]
      · next e =>
        obtain ⟨b, mk, k1, k2⟩ := ih (ps := ps) (fun j => by have := hp (j + 1); simpa using this) h
        refine ⟨b, mk, ?_, k2⟩
        rw [← k1]
        congr 1
        obtain ⟨a, o⟩ := q'
        have hne : ¬ x = a := fun z => e (by rw [z]; exact h0.1.symm)
        have hne2 : ¬ a = x := fun z => hne z.symm
        simp [Op.lookupswitch.offset, hne, hne2]
theorem im_lsw {dflt : Int} {ps : Array (Int × Int)} {len bd : Nat} {md : List Bool} {t : List (Int × Nat × List Bool)} (hd : decode cc pc = .ok (.lookupswitch dflt ps, len)) (hp : (ps.toList.zip (ps.toList.drop 1)).all (fun (a, next) => a.1 < next.1) = true) (h2 : (pc : Int) + dflt = (bp bd : Int)) (h3 : ∀ j : Nat, (t[j]?).map (fun q => (q.1, (bp q.2.1 : Int))) = (ps.toList[j]?).map (fun q => (q.1, (pc : Int) + q.2))) : z_Imp E A XH l cc own nL rt bp pc (a_lsw t bd md :: as) := by
  intro d C G r hC hG ls st w hb okl oks p' e R s m args below meth c cells slots Q cx H locs lv hR hS hL
  unfold z_blk a_lsw at hb
  split at hb
  · next x st1 =>
    have hx : (Int32.ofInt x).toInt = x := n_i oks.h
    obtain ⟨b, mk, k1, k2⟩ := z_lsk_s (pc := pc) (bp := bp) h2 h3 hb
    exact lv_lookup cx.1 cx.2.1 hd hp rfl (by rw [hx]; exact k1) (hG _ _ _ _ k2 (okl.kp _) oks.t p' e R s m args below meth c cells slots Q cx H locs lv hR hS (hL.kp _))
  · cases hb
theorem im_retI (hd : decode cc pc = .ok (.ireturn, 1)) : z_Imp E A XH l cc own nL (some .int) bp pc (a_retI :: as) := by
  intro d C G r hC hG ls st w hb okl oks p' e R s m args below meth c cells slots Q cx H locs lv hR hS hL
  unfold z_blk a_retI at hb
  split at hb
  · cases hb
    exact cx.2.2.2.2.2.2.2.2 pc lv H locs _ _ hd (Or.inl ⟨rfl, rfl, rfl, oks.h⟩) hR hS
  · cases hb
theorem im_retZ (hd : decode cc pc = .ok (.ireturn, 1)) : z_Imp E A XH l cc own nL (some .boolean) bp pc (a_retZ 0 1 :: as) := by
  intro d C G r hC hG ls st w hb okl oks p' e R s m args below meth c cells slots Q cx H locs lv hR hS hL
  unfold z_blk a_retZ at hb
  split at hb
  · obtain ⟨hp, hb⟩ := gd_some.mp hb
    cases hb
    exact cx.2.2.2.2.2.2.2.2 pc lv H locs _ _ hd (Or.inr (Or.inl ⟨rfl, rfl, rfl, hp⟩)) hR hS
  · cases hb
theorem im_retB (hd : decode cc pc = .ok (.ireturn, 1)) : z_Imp E A XH l cc own nL (some .byte) bp pc (a_retZ (-128) 127 :: as) := by
  intro d C G r hC hG ls st w hb okl oks p' e R s m args below meth c cells slots Q cx H locs lv hR hS hL
  unfold z_blk a_retZ at hb
  split at hb
  · obtain ⟨hp, hb⟩ := gd_some.mp hb
    cases hb
    exact cx.2.2.2.2.2.2.2.2 pc lv H locs _ _ hd (Or.inr (Or.inr (Or.inl ⟨rfl, rfl, rfl, hp⟩))) hR hS
  · cases hb
theorem im_retC (hd : decode cc pc = .ok (.ireturn, 1)) : z_Imp E A XH l cc own nL (some .char) bp pc (a_retZ 0 65535 :: as) := by
  intro d C G r hC hG ls st w hb okl oks p' e R s m args below meth c cells slots Q cx H locs lv hR hS hL
  unfold z_blk a_retZ at hb
  split at hb
  · obtain ⟨hp, hb⟩ := gd_some.mp hb
    cases hb
    exact cx.2.2.2.2.2.2.2.2 pc lv H locs _ _ hd (Or.inr (Or.inr (Or.inr (Or.inl ⟨rfl, rfl, rfl, hp⟩)))) hR hS
  · cases hb
theorem im_retL (hd : decode cc pc = .ok (.lreturn, 1)) : z_Imp E A XH l cc own nL (some .long) bp pc (a_retL :: as) := by
  intro d C G r hC hG ls st w hb okl oks p' e R s m args below meth c cells slots Q cx H locs lv hR hS hL
  unfold z_blk a_retL at hb
  split at hb
  · cases hb
    exact cx.2.2.2.2.2.2.2.2 pc lv H locs _ _ hd (Or.inr (Or.inr (Or.inr (Or.inr (Or.inl ⟨rfl, rfl, rfl, oks.h⟩))))) hR hS
  · cases hb
theorem im_retV (hd : decode cc pc = .ok (.return_, 1)) : z_Imp E A XH l cc own nL none bp pc (a_retV :: as) := by
  intro d C G r hC hG ls st w hb okl oks p' e R s m args below meth c cells slots Q cx H locs lv hR hS hL
  unfold z_blk a_retV at hb
  split at hb
  · cases hb
    exact cx.2.2.2.2.2.2.2.2 pc lv H locs _ _ hd (Or.inr (Or.inr (Or.inr (Or.inr (Or.inr ⟨rfl, rfl, rfl⟩))))) hR hS
  · cases hb
end IMP
