/-! WHAT A PIECE OF CODE DOES, AND THE ACTS -/
def z_rm (d : Nat) : Room := { frames := d + 10, cells := 0, slots := 0, locals := 100 * (d + 10) }
def z_ws (z : Nat) : List Cond := Cond.code (z_mt z).1 (z_mt z).2.1 (z_mt z).2.2.1 (z_mt z).2.2.2.1 :: zTB
def z_Q (E : zE) (A : Nat → Prop) (rk : Nat) (r : Int × zW) : Array Value → State → Outcome → State → Prop :=
  if rk = 0 then va_Qv (fun _ : Unit => True) (fun _ t => z_Rel E r.2 t.heap) A
  else if rk = 1 then va_Qi (fun x (_ : Unit) => x = Int32.ofInt r.1 ∧ inI r.1) (fun _ t => z_Rel E r.2 t.heap) A
  else va_Ql (fun x (_ : Unit) => x = Int64.ofInt r.1 ∧ inL r.1) (fun _ t => z_Rel E r.2 t.heap) A
def z_Pc (E : zE) (XH : State → Heap → Prop) (as : List zV) (w : zW) : Array Value → State → Prop := va_Pc (as.map (z_cv E)) (fun U => z_Rel E w U.heap ∧ va_K E.1 zCl (z_tys E) U ∧ XH U U.heap)
/-- what is held of the heap beside the world, and stays -/
def z_XP (XH : State → Heap → Prop) (A : Nat → Prop) : Prop := (∀ s H H1, XH s H → (∀ q : Nat, q < H.size → ¬ A q → H1[q]? = H[q]?) → XH s H1) ∧ ∀ s U H, XH s H → s.WarmedH U.vm → XH U H
def z_retOK (rt : Option FieldType) (ins : Instr) (v : Int) (st : List Value) : Prop :=
  (rt = some .int ∧ ins = .ireturn ∧ st = [.int (Int32.ofInt v)] ∧ inI v) ∨ (rt = some .boolean ∧ ins = .ireturn ∧ st = [.int (Int32.ofInt v)] ∧ 0 ≤ v ∧ v ≤ 1) ∨ (rt = some .byte ∧ ins = .ireturn ∧ st = [.int (Int32.ofInt v)] ∧ -128 ≤ v ∧ v ≤ 127) ∨ (rt = some .char ∧ ins = .ireturn ∧ st = [.int (Int32.ofInt v)] ∧ 0 ≤ v ∧ v ≤ 65535) ∨ (rt = some .long ∧ ins = .lreturn ∧ st = [.long (Int64.ofInt v)] ∧ inL v) ∨ (rt = none ∧ ins = .return_ ∧ st = [])
def z_Cx (E : zE) (A : Nat → Prop) (XH : State → Heap → Prop) (cc : ByteArray) (own : String) (nL : Nat) (rt : Option FieldType) (d : Nat) (r : Int × zW) (p : Program) (l : Launch) (e : Env) (R : Room) (s : State) (m : MethodId) (args : Array Value) (below : List Frame) (meth : Method) (c : Code) (cells slots : Nat) (Q : State → Prop) : Prop :=
  p.tables.exec = Jvm.exec ∧ c.code = cc ∧ c.maxLocals = nL ∧ s.vm.findClass own = some m.cls ∧ (∀ w ∈ zTB, w.before args s = true) ∧ va_K E.1 zCl (z_tys E) s ∧ (d + 10 ≤ R.frames ∧ 100 * (d + 10) ≤ R.locals ∧ cells ≤ R.cells ∧ slots ≤ R.slots) ∧ (∀ H locs, va_S A s.heap H locs → XH s H) ∧
  (∀ pc lv H locs ins st, decode cc pc = .ok (ins, 1) → z_retOK rt ins r.1 st → z_Rel E r.2 H → va_S A s.heap H locs → W p l e R s m args below meth c H locs cells slots Q (F0 m pc lv st))
def z_RR (E : zE) (A : Nat → Prop) (XH : State → Heap → Prop) (l : Launch) (cc : ByteArray) (own : String) (nL : Nat) (rt : Option FieldType) (d pc : Nat) (ls : zL) (st : zS) (w : zW) (r : Int × zW) : Prop :=
  z_okL ls → z_okS st → ∀ (p : Program) (e : Env) (R : Room) (s : State) (m : MethodId) (args : Array Value) (below : List Frame) (meth : Method) (c : Code) (cells slots : Nat) (Q : State → Prop), z_Cx E A XH cc own nL rt d r p l e R s m args below meth c cells slots Q →
    ∀ (H : Heap) (locs : List Loc) (lv : Array Slot), z_Rel E w H → va_S A s.heap H locs → z_LS E nL ls lv → W p l e R s m args below meth c H locs cells slots Q (F0 m pc lv (st.map (z_cv E)))
def z_CK (E : zE) (A : Nat → Prop) (XH : State → Heap → Prop) (l : Launch) (d z : Nat) (as : List zV) (w : zW) (r : Int × zW) : Prop :=
  (∀ v ∈ as, z_okv v) → z_sz as ≤ (z_mt z).2.2.1 → ∃ d', d = d' + 1 ∧ Met l (z_mt z).1 (z_ws z) (z_rm d') (z_Pc E XH as w) (z_Q E A (z_mt z).2.2.2.2 r) 0 0 A
def z_Imp (E : zE) (A : Nat → Prop) (XH : State → Heap → Prop) (l : Launch) (cc : ByteArray) (own : String) (nL : Nat) (rt : Option FieldType) (bp : Nat → Nat) (pc : Nat) (as : List zA) : Prop :=
  ∀ (d : Nat) (C : zC) (G : zG) (r : Int × zW), (∀ z x w r', C z x w = some r' → z_CK E A XH l d z x w r') → (∀ b ls st w, G b ls st w = some r → z_RR E A XH l cc own nL rt d (bp b) ls st w r) →
    ∀ ls st w, z_blk as C G ls st w = some r → z_RR E A XH l cc own nL rt d pc ls st w r
/-- from here to there, the world, locals and stack moved -/
def z_Mv (E : zE) (A : Nat → Prop) (XH : State → Heap → Prop) (l : Launch) (cc : ByteArray) (own : String) (nL : Nat) (rt : Option FieldType) (pc pc' : Nat) (ls : zL) (st : zS) (w : zW) (ls' : zL) (st' : zS) (w' : zW) : Prop :=
  ∀ (d : Nat) (r : Int × zW) (p : Program) (e : Env) (R : Room) (s : State) (m : MethodId) (args : Array Value) (below : List Frame) (meth : Method) (c : Code) (cells slots : Nat) (Q : State → Prop), z_Cx E A XH cc own nL rt d r p l e R s m args below meth c cells slots Q →
    ∀ (H : Heap) (locs : List Loc) (lv : Array Slot), z_Rel E w H → va_S A s.heap H locs → z_LS E nL ls lv →
      (∀ (H1 : Heap) (locs1 : List Loc) (lv1 : Array Slot), z_Rel E w' H1 → va_S A s.heap H1 locs1 → z_LS E nL ls' lv1 → W p l e R s m args below meth c H1 locs1 cells slots Q (F0 m pc' lv1 (st'.map (z_cv E)))) →
      W p l e R s m args below meth c H locs cells slots Q (F0 m pc lv (st.map (z_cv E)))
section IMP
variable {E : zE} {A : Nat → Prop} {XH : State → Heap → Prop} {l : Launch} {cc : ByteArray} {own : String} {nL : Nat} {rt : Option FieldType} {bp : Nat → Nat} {pc : Nat} {as : List zA}
theorem im_mv {a : zA} {pc' : Nat} (h : z_Imp E A XH l cc own nL rt bp pc' as)
    (hs : ∀ (C : zC) (G : zG) (k : zK) (ls : zL) (st : zS) (w : zW) (r : Int × zW), a C G k ls st w = some r → z_okL ls → z_okS st → ∃ ls' st' w', k ls' st' w' = some r ∧ z_okL ls' ∧ z_okS st' ∧ z_Mv E A XH l cc own nL rt pc pc' ls st w ls' st' w') :
    z_Imp E A XH l cc own nL rt bp pc (a :: as) := by
  intro d C G r hC hG ls st w hb okl oks
  obtain ⟨ls', st', w', h1, h2, h3, h4⟩ := hs C G _ ls st w r hb okl oks
  intro p e R s m args below meth c cells slots Q cx H locs lv hR hS hL
  exact h4 d r p e R s m args below meth c cells slots Q cx H locs lv hR hS hL (fun H1 locs1 lv1 hR1 hS1 hL1 => h d C G r hC hG ls' st' w' h1 h2 h3 p e R s m args below meth c cells slots Q cx H1 locs1 lv1 hR1 hS1 hL1)
theorem im_0 : z_Imp E A XH l cc own nL rt bp pc [] := fun d C G r hC hG ls st w hb => by cases hb
/-- a stack act -/
theorem mv_st {pc' : Nat} {ls : zL} {st st' : zS} {w : zW}
    (h : ∀ (p : Program) (e : Env) (R : Room) (s : State) (m : MethodId) (args : Array Value) (below : List Frame) (meth : Method) (c : Code) (cells slots : Nat) (Q : State → Prop) (H : Heap) (locs : List Loc) (lv : Array Slot), p.tables.exec = Jvm.exec → c.code = cc → s.vm.findClass own = some m.cls → (∀ w ∈ zTB, w.before args s = true) → W p l e R s m args below meth c H locs cells slots Q (F0 m pc' lv (st'.map (z_cv E))) → W p l e R s m args below meth c H locs cells slots Q (F0 m pc lv (st.map (z_cv E)))) :
    z_Mv E A XH l cc own nL rt pc pc' ls st w ls st' w :=
  fun d r p e R s m args below meth c cells slots Q cx H locs lv hR hS hL k => h p e R s m args below meth c cells slots Q H locs lv cx.1 cx.2.1 cx.2.2.2.1 cx.2.2.2.2.1 (k H locs lv hR hS hL)
theorem im_iconst {n : Int} (hd : decode cc pc = .ok (.iconst n, 1)) (hn : inI n) (h : z_Imp E A XH l cc own nL rt bp (pc + 1) as) : z_Imp E A XH l cc own nL rt bp pc (a_push (vI n) :: as) :=
  im_mv h fun C G k ls st w r hb okl oks => ⟨ls, _, w, hb, okl, oks.c hn, mv_st fun p e R s m args below meth c cells slots Q H locs lv hx hcc ho ht k => lv_iconst hx hcc hd rfl k⟩
theorem im_bipush {n : Int} (hd : decode cc pc = .ok (.bipush n, 2)) (hv : (Int8.ofInt n).toInt32 = Int32.ofInt n) (hn : inI n) (h : z_Imp E A XH l cc own nL rt bp (pc + 2) as) : z_Imp E A XH l cc own nL rt bp pc (a_push (vI n) :: as) :=
  im_mv h fun C G k ls st w r hb okl oks => ⟨ls, _, w, hb, okl, oks.c hn, mv_st fun p e R s m args below meth c cells slots Q H locs lv hx hcc ho ht k => lv_bipush hx hcc hd hv k⟩
theorem im_sipush {n : Int} (hd : decode cc pc = .ok (.sipush n, 3)) (hv : (Int16.ofInt n).toInt32 = Int32.ofInt n) (hn : inI n) (h : z_Imp E A XH l cc own nL rt bp (pc + 3) as) : z_Imp E A XH l cc own nL rt bp pc (a_push (vI n) :: as) :=
  im_mv h fun C G k ls st w r hb okl oks => ⟨ls, _, w, hb, okl, oks.c hn, mv_st fun p e R s m args below meth c cells slots Q H locs lv hx hcc ho ht k => lv_sipush hx hcc hd hv k⟩
theorem im_lconst {n : Fin 2} {z : Int} (hd : decode cc pc = .ok (.lconst n, 1)) (hv : Int64.ofNat (n : Nat) = Int64.ofInt z) (hn : inL z) (h : z_Imp E A XH l cc own nL rt bp (pc + 1) as) : z_Imp E A XH l cc own nL rt bp pc (a_push (vL z) :: as) :=
  im_mv h fun C G k ls st w r hb okl oks => ⟨ls, _, w, hb, okl, oks.c hn, mv_st fun p e R s m args below meth c cells slots Q H locs lv hx hcc ho ht k => lv_lconst hx hcc hd hv k⟩
theorem im_ldc {i : Nat} {n : Int} {v : Int32} (hd : decode cc pc = .ok (.ldc i, 2)) (hw : Cond.constant own i v ∈ zTB) (hv : v = Int32.ofInt n) (hn : inI n) (h : z_Imp E A XH l cc own nL rt bp (pc + 2) as) : z_Imp E A XH l cc own nL rt bp pc (a_push (vI n) :: as) :=
  im_mv h fun C G k ls st w r hb okl oks => ⟨ls, _, w, hb, okl, oks.c hn, mv_st fun p e R s m args below meth c cells slots Q H locs lv hx hcc ho ht k => lv_ldc (v := v) hx hcc ho (ht _ hw) hd (by rw [hv]; exact k)⟩
theorem im_ldcw {i : Nat} {n : Int} {v : Int32} (hd : decode cc pc = .ok (.ldc_w i, 3)) (hw : Cond.constant own i v ∈ zTB) (hv : v = Int32.ofInt n) (hn : inI n) (h : z_Imp E A XH l cc own nL rt bp (pc + 3) as) : z_Imp E A XH l cc own nL rt bp pc (a_push (vI n) :: as) :=
  im_mv h fun C G k ls st w r hb okl oks => ⟨ls, _, w, hb, okl, oks.c hn, mv_st fun p e R s m args below meth c cells slots Q H locs lv hx hcc ho ht k => lv_ldcw (v := v) hx hcc ho (ht _ hw) hd (by rw [hv]; exact k)⟩
theorem im_ldc2 {i : Nat} {n : Int} {v : Int64} (hd : decode cc pc = .ok (.ldc2_w i, 3)) (hw : Cond.constantLong own i v ∈ zTB) (hv : v = Int64.ofInt n) (hn : inL n) (h : z_Imp E A XH l cc own nL rt bp (pc + 3) as) : z_Imp E A XH l cc own nL rt bp pc (a_push (vL n) :: as) :=
  im_mv h fun C G k ls st w r hb okl oks => ⟨ls, _, w, hb, okl, oks.c hn, mv_st fun p e R s m args below meth c cells slots Q H locs lv hx hcc ho ht k => lv_ldc2 (v := v) hx hcc ho (ht _ hw) hd (by rw [hv]; exact k)⟩
/-! loads -/
theorem mv_ld {pc' : Nat} {ls : zL} {st : zS} {w : zW} {n : Nat} {v : zV} (hg : z_get ls n = some v)
    (h : ∀ (p : Program) (e : Env) (R : Room) (s : State) (m : MethodId) (args : Array Value) (below : List Frame) (meth : Method) (c : Code) (cells slots : Nat) (Q : State → Prop) (H : Heap) (locs : List Loc) (lv : Array Slot), p.tables.exec = Jvm.exec → c.code = cc → lv[n]? = some (.val (z_cv E v)) → W p l e R s m args below meth c H locs cells slots Q (F0 m pc' lv ((v :: st).map (z_cv E))) → W p l e R s m args below meth c H locs cells slots Q (F0 m pc lv (st.map (z_cv E)))) :
    z_Mv E A XH l cc own nL rt pc pc' ls st w ls (v :: st) w :=
  fun d r p e R s m args below meth c cells slots Q cx H locs lv hR hS hL k => h p e R s m args below meth c cells slots Q H locs lv cx.1 cx.2.1 (hL.2.2 n v hg) (k H locs lv hR hS hL)
theorem a_ldI_s {n : Nat} {C : zC} {G : zG} {k : zK} {ls : zL} {st : zS} {w : zW} {r : Int × zW} (h : a_ldI n C G k ls st w = some r) : ∃ z, z_get ls n = some (vI z) ∧ k ls (vI z :: st) w = some r := by
  unfold a_ldI at h
  split at h
  · next e => exact ⟨_, e, h⟩
  · cases h
theorem a_ldL_s {n : Nat} {C : zC} {G : zG} {k : zK} {ls : zL} {st : zS} {w : zW} {r : Int × zW} (h : a_ldL n C G k ls st w = some r) : ∃ z, z_get ls n = some (vL z) ∧ k ls (vL z :: st) w = some r := by
  unfold a_ldL at h
  split at h
  · next e => exact ⟨_, e, h⟩
  · cases h
theorem a_ldR_s {n : Nat} {C : zC} {G : zG} {k : zK} {ls : zL} {st : zS} {w : zW} {r : Int × zW} (h : a_ldR n C G k ls st w = some r) : ∃ c i, z_get ls n = some (vR c i) ∧ k ls (vR c i :: st) w = some r := by
  unfold a_ldR at h
  split at h
  · next e => exact ⟨_, _, e, h⟩
  · cases h
theorem im_iload_n {q : Fin 4} {n : Nat} (hd : decode cc pc = .ok (.iload_n q, 1)) (hq : (q : Nat) = n) (h : z_Imp E A XH l cc own nL rt bp (pc + 1) as) : z_Imp E A XH l cc own nL rt bp pc (a_ldI n :: as) :=
  im_mv h fun C G k ls st w r hb okl oks => by
    obtain ⟨z, hg, hk⟩ := a_ldI_s hb
    exact ⟨ls, _, w, hk, okl, oks.c (okl n _ hg), mv_ld hg fun p e R s m args below meth c cells slots Q H locs lv hx hcc hl k => lv_iload_n hx hcc hd hq hl k⟩
theorem im_iload {n : Nat} (hd : decode cc pc = .ok (.iload n, 2)) (h : z_Imp E A XH l cc own nL rt bp (pc + 2) as) : z_Imp E A XH l cc own nL rt bp pc (a_ldI n :: as) :=
  im_mv h fun C G k ls st w r hb okl oks => by
    obtain ⟨z, hg, hk⟩ := a_ldI_s hb
    exact ⟨ls, _, w, hk, okl, oks.c (okl n _ hg), mv_ld hg fun p e R s m args below meth c cells slots Q H locs lv hx hcc hl k => lv_iload hx hcc hd hl k⟩
theorem im_lload_n {q : Fin 4} {n : Nat} (hd : decode cc pc = .ok (.lload_n q, 1)) (hq : (q : Nat) = n) (h : z_Imp E A XH l cc own nL rt bp (pc + 1) as) : z_Imp E A XH l cc own nL rt bp pc (a_ldL n :: as) :=
  im_mv h fun C G k ls st w r hb okl oks => by
    obtain ⟨z, hg, hk⟩ := a_ldL_s hb
    exact ⟨ls, _, w, hk, okl, oks.c (okl n _ hg), mv_ld hg fun p e R s m args below meth c cells slots Q H locs lv hx hcc hl k => lv_lload_n hx hcc hd hq hl k⟩
theorem im_lload {n : Nat} (hd : decode cc pc = .ok (.lload n, 2)) (h : z_Imp E A XH l cc own nL rt bp (pc + 2) as) : z_Imp E A XH l cc own nL rt bp pc (a_ldL n :: as) :=
  im_mv h fun C G k ls st w r hb okl oks => by
    obtain ⟨z, hg, hk⟩ := a_ldL_s hb
    exact ⟨ls, _, w, hk, okl, oks.c (okl n _ hg), mv_ld hg fun p e R s m args below meth c cells slots Q H locs lv hx hcc hl k => lv_lload hx hcc hd hl k⟩
theorem im_aload_n {q : Fin 4} {n : Nat} (hd : decode cc pc = .ok (.aload_n q, 1)) (hq : (q : Nat) = n) (h : z_Imp E A XH l cc own nL rt bp (pc + 1) as) : z_Imp E A XH l cc own nL rt bp pc (a_ldR n :: as) :=
  im_mv h fun C G k ls st w r hb okl oks => by
    obtain ⟨c, i, hg, hk⟩ := a_ldR_s hb
    exact ⟨ls, _, w, hk, okl, oks.c (okl n _ hg), mv_ld hg fun p e R s m args below meth c cells slots Q H locs lv hx hcc hl k => lv_aload_n hx hcc hd hq hl k⟩
theorem im_aload {n : Nat} (hd : decode cc pc = .ok (.aload n, 2)) (h : z_Imp E A XH l cc own nL rt bp (pc + 2) as) : z_Imp E A XH l cc own nL rt bp pc (a_ldR n :: as) :=
  im_mv h fun C G k ls st w r hb okl oks => by
    obtain ⟨c, i, hg, hk⟩ := a_ldR_s hb
    exact ⟨ls, _, w, hk, okl, oks.c (okl n _ hg), mv_ld hg fun p e R s m args below meth c cells slots Q H locs lv hx hcc hl k => lv_aload hx hcc hd hl k⟩
/-! stores -/
theorem mv_s1 {pc' : Nat} {ls : zL} {st : zS} {w : zW} {n : Nat} {v : zV}
    (h : ∀ (p : Program) (e : Env) (R : Room) (s : State) (m : MethodId) (args : Array Value) (below : List Frame) (meth : Method) (c : Code) (cells slots : Nat) (Q : State → Prop) (H : Heap) (locs : List Loc) (lv : Array Slot), p.tables.exec = Jvm.exec → c.code = cc → lv_has lv nL (z_prs E nL ls) →
      (∀ lv', lv_has lv' nL ((n, z_cv E v) :: (z_prs E nL ls).filter (fun q => !(q.1 == n) && !(q.1 + 1 == n && q.2.category == 2))) → W p l e R s m args below meth c H locs cells slots Q (F0 m pc' lv' (st.map (z_cv E)))) → W p l e R s m args below meth c H locs cells slots Q (F0 m pc lv ((v :: st).map (z_cv E)))) :
    z_Mv E A XH l cc own nL rt pc pc' ls (v :: st) w (z_st1 ls n v) st w :=
  fun d r p e R s m args below meth c cells slots Q cx H locs lv hR hS hL k => h p e R s m args below meth c cells slots Q H locs lv cx.1 cx.2.1 hL.has (fun lv' h' => k H locs lv' hR hS (hL.st1 h'))
theorem mv_s2 {pc' : Nat} {ls : zL} {st : zS} {w : zW} {n : Nat} {v : zV}
    (h : ∀ (p : Program) (e : Env) (R : Room) (s : State) (m : MethodId) (args : Array Value) (below : List Frame) (meth : Method) (c : Code) (cells slots : Nat) (Q : State → Prop) (H : Heap) (locs : List Loc) (lv : Array Slot), p.tables.exec = Jvm.exec → c.code = cc → lv_has lv nL (z_prs E nL ls) →
      (∀ lv', lv_has lv' nL ((n, z_cv E v) :: (z_prs E nL ls).filter (fun q => !(q.1 == n) && (!(q.1 == n + 1) && !(q.1 + 1 == n && q.2.category == 2)))) → W p l e R s m args below meth c H locs cells slots Q (F0 m pc' lv' (st.map (z_cv E)))) → W p l e R s m args below meth c H locs cells slots Q (F0 m pc lv ((v :: st).map (z_cv E)))) :
    z_Mv E A XH l cc own nL rt pc pc' ls (v :: st) w (z_st2 ls n v) st w :=
  fun d r p e R s m args below meth c cells slots Q cx H locs lv hR hS hL k => h p e R s m args below meth c cells slots Q H locs lv cx.1 cx.2.1 hL.has (fun lv' h' => k H locs lv' hR hS (hL.st2 h'))
theorem im_istore_n {q : Fin 4} {n : Nat} (hd : decode cc pc = .ok (.istore_n q, 1)) (hq : (q : Nat) = n) (hn : n < nL) (h : z_Imp E A XH l cc own nL rt bp (pc + 1) as) : z_Imp E A XH l cc own nL rt bp pc (a_stI n :: as) :=
  im_mv h fun C G k ls st w r hb okl oks => by
    unfold a_stI at hb
    split at hb
    · exact ⟨_, _, w, hb, okl.st1 oks.h, oks.t, mv_s1 fun p e R s m args below meth c cells slots Q H locs lv hx hcc hl k => lv_istore_n hx hcc hd hq hl hn rfl k⟩
    · cases hb
theorem im_istore {n : Nat} (hd : decode cc pc = .ok (.istore n, 2)) (hn : n < nL) (h : z_Imp E A XH l cc own nL rt bp (pc + 2) as) : z_Imp E A XH l cc own nL rt bp pc (a_stI n :: as) :=
  im_mv h fun C G k ls st w r hb okl oks => by
    unfold a_stI at hb
    split at hb
    · exact ⟨_, _, w, hb, okl.st1 oks.h, oks.t, mv_s1 fun p e R s m args below meth c cells slots Q H locs lv hx hcc hl k => lv_istore hx hcc hd hl hn rfl k⟩
    · cases hb
theorem im_lstore_n {q : Fin 4} {n : Nat} (hd : decode cc pc = .ok (.lstore_n q, 1)) (hq : (q : Nat) = n) (hn : n + 1 < nL) (h : z_Imp E A XH l cc own nL rt bp (pc + 1) as) : z_Imp E A XH l cc own nL rt bp pc (a_stL n :: as) :=
  im_mv h fun C G k ls st w r hb okl oks => by
    unfold a_stL at hb
    split at hb
    · exact ⟨_, _, w, hb, okl.st2 oks.h, oks.t, mv_s2 fun p e R s m args below meth c cells slots Q H locs lv hx hcc hl k => lv_lstore_n hx hcc hd hq hl hn rfl k⟩
    · cases hb
theorem im_lstore {n : Nat} (hd : decode cc pc = .ok (.lstore n, 2)) (hn : n + 1 < nL) (h : z_Imp E A XH l cc own nL rt bp (pc + 2) as) : z_Imp E A XH l cc own nL rt bp pc (a_stL n :: as) :=
  im_mv h fun C G k ls st w r hb okl oks => by
    unfold a_stL at hb
    split at hb
    · exact ⟨_, _, w, hb, okl.st2 oks.h, oks.t, mv_s2 fun p e R s m args below meth c cells slots Q H locs lv hx hcc hl k => lv_lstore hx hcc hd hl hn rfl k⟩
    · cases hb
theorem im_astore_n {q : Fin 4} {n : Nat} (hd : decode cc pc = .ok (.astore_n q, 1)) (hq : (q : Nat) = n) (hn : n < nL) (h : z_Imp E A XH l cc own nL rt bp (pc + 1) as) : z_Imp E A XH l cc own nL rt bp pc (a_stR n :: as) :=
  im_mv h fun C G k ls st w r hb okl oks => by
    unfold a_stR at hb
    split at hb
    · exact ⟨_, _, w, hb, okl.st1 oks.h, oks.t, mv_s1 fun p e R s m args below meth c cells slots Q H locs lv hx hcc hl k => lv_astore_n hx hcc hd hq hl hn rfl k⟩
    · cases hb
theorem im_astore {n : Nat} (hd : decode cc pc = .ok (.astore n, 2)) (hn : n < nL) (h : z_Imp E A XH l cc own nL rt bp (pc + 2) as) : z_Imp E A XH l cc own nL rt bp pc (a_stR n :: as) :=
  im_mv h fun C G k ls st w r hb okl oks => by
    unfold a_stR at hb
    split at hb
    · exact ⟨_, _, w, hb, okl.st1 oks.h, oks.t, mv_s1 fun p e R s m args below meth c cells slots Q H locs lv hx hcc hl k => lv_astore hx hcc hd hl hn rfl k⟩
    · cases hb
theorem im_iinc {n : Nat} {x : Int} (hd : decode cc pc = .ok (.iinc n x, 3)) (hn : n < nL) (h : z_Imp E A XH l cc own nL rt bp (pc + 3) as) : z_Imp E A XH l cc own nL rt bp pc (a_iinc n x :: as) :=
  im_mv h fun C G k ls st w r hb okl oks => by
    unfold a_iinc at hb
    split at hb
    · next z hg =>
      obtain ⟨hp, hb⟩ := gd_some.mp hb
      refine ⟨_, _, w, hb, okl.st1 hp, oks, fun d r p e R s m args below meth c cells slots Q cx H locs lv hR hS hL k => ?_⟩
      obtain ⟨q, hq⟩ := List.getElem?_of_mem (z_prs_mem.mpr ⟨hL.lt hg, _, hg, rfl⟩)
      exact lv_iinc (v := Int32.ofInt (z + x)) cx.1 cx.2.1 hd hL.has (k := q) hq (Int32.ofInt_add z x).symm hn rfl (fun lv' h' => k H locs lv' hR hS (hL.st1 (v := vI (z + x)) h'))
    · cases hb
end IMP
