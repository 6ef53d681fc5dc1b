/-! CONSTRUCTORS: worlds that grow. What the makings share -/
def zk (dA : Nat → ClassId) : List (ClassId × FieldType) := [(dA 0, .int), (dA 1, .byte), (dA 2, .boolean), (dA 3, .long), (dA 4, .object "DarkWood$Wood"), (dA 5, .object "DarkWood$Law"), (dA 6, .object "DarkWood$Clauses"), (dA 7, .object "DarkWood$State"), (dA 8, .object "DarkWood$Odds")]
theorem zk_tys (E : zE) : z_tys E = zk E.2.1 := rfl
/-- the private makings that a nest mate calls -/
def nestL : List (String × Nat × MethodName × String) := [(RX9, 9, yX4_init, RX9), (RX4, 23, yX0_init, RX9), (RX7, 11, yX3_init, RX9), (RX9, 47, yX3_init, RX9), (RX5, 24, yX3_init, RX9), (RX9, 61, yX2_init, RX9), (RX2, 11, yX3_init, RX9), (RX9, 73, yX8_init, RX9), (RX9, 74, yX1_init, RX9), (RX1, 11, yX0_init, RX9), (RX9, 75, yX0_init, RX9)]
def overL : List String := [RX8, RX1, RX0, RX7, RX3]
/-- the words of makings that a state keeps, but no method's own words hold -/
def XN (dS : Nat) (U : State) : Prop := (∀ q ∈ nestL, va_Nw (.methodLinkNest q.1 q.2.1 q.2.2.1 q.2.2.2) U) ∧ (∀ C ∈ overL, va_AO C U) ∧ vk_R "DarkWood$Reader" 15 "path ground sky harm eyes" dS U
theorem XN.warm {dS : Nat} {s U : State} (h : XN dS s) (hW : s.WarmedH U.vm) : XN dS U := ⟨fun q hq => va_Nw.warmM hW (h.1 q hq), fun C hC => va_AO.moved hW.alike (h.2.1 C hC), vk_R.warm hW h.2.2⟩
def iCx (G : va_G) (dA : Nat → ClassId) (dS : Nat) (cc : ByteArray) (own : String) (nL : Nat) (p : Program) (s : State) (m : MethodId) (args : Array Value) (meth : Method) (c : Code) : Prop :=
  p.tables.exec = Jvm.exec ∧ c.code = cc ∧ c.maxLocals = nL ∧ s.vm.findClass own = some m.cls ∧ (∀ w ∈ zTB, w.before args s = true) ∧ va_K G zCl (zk dA) s ∧ meth.name = "<init>" ∧ XN dS s
/-- a making's start: the new object, its fields as they are born -/
def iPc (G : va_G) (dA : Nat → ClassId) (dS : Nat) (h0 sz ci : Nat) (fs : List Value) (As : List Value) : Array Value → State → Prop := va_Pc (.ref h0 :: As) (fun U => U.heap.size = sz ∧ va_P G zCl [(h0, .inr (ci, fs))] U.heap ∧ va_D (fun _ => True) [(h0, .inr (ci, fs))] ∧ va_K G zCl (zk dA) U ∧ XN dS U)
def iQc {S : Type} (G : va_G) (h0 sz ci : Nat) (fs : List Value) (L : S → va_W) : Array Value → State → Outcome → State → Prop := va_Qv (fun _ : S => True) (fun a t => va_P G zCl (L a) t.heap ∧ va_D (va_A [(h0, .inr (ci, fs))] sz) (L a)) (va_A [(h0, .inr (ci, fs))] sz)
theorem i_met {S : Type} {G : va_G} {dA : Nat → ClassId} {dS : Nat} {l : Launch} {y : MethodName} {cc : ByteArray} {maxL mc ms h0 sz ci : Nat} {rm : Room} {fs As : List Value} {L : S → va_W} (hpl : plainName y.cls = true) (hy : y.name = "<init>") (hsz : (lg_sl (.ref h0 :: As)).length ≤ maxL)
    (run : ∀ (p : Program) (e : Env) (s : State) (m : MethodId) (args : Array Value) (below : List Frame) (meth : Method) (c : Code) (Q : State → Prop) (A : Nat → Prop) (ls : Array Slot), iCx G dA dS cc y.cls maxL p s m args meth c → (∀ q : Nat, s.heap.size ≤ q → A q) → lv_has ls maxL (lv_args 0 (.ref h0 :: As)) → va_P G zCl [(h0, .inr (ci, fs))] s.heap → va_D A [(h0, .inr (ci, fs))] →
      (∀ (pc : Nat) (lv : Array Slot) (H : Heap) (locs : List Loc) (a : S), decode cc pc = .ok (.return_, 1) → va_P G zCl (L a) H → va_D A (L a) → va_S A s.heap H locs → W p l e rm s m args below meth c H locs mc ms Q (F0 m pc lv [])) → W p l e rm s m args below meth c s.heap [] 0 0 Q (F0 m 0 ls [])) :
    Met l y (Cond.code y cc maxL none :: zTB) rm (iPc G dA dS h0 sz ci fs As) (iQc G h0 sz ci fs L) mc ms (va_A [(h0, .inr (ci, fs))] sz) := by
  refine Met.ofW (cc := cc) (maxL := maxL) (ret := none) hpl rfl ?_
  intro p e s m args below meth c s₁ B hml hv
  obtain ⟨rfl, hsz0, hP, hD0, hK, hX⟩ := hv
  have hr := B.returns
  have hlocks := B.notSynchronized
  subst hsz0
  have hD := hD0.self (sz := s.heap.size)
  have hl := lv_entry (.ref h0 :: As) (n := maxL) hsz
  rw [lg_entry_eq]
  generalize (lg_sl (.ref h0 :: As) ++ List.replicate (maxL - (lg_sl (.ref h0 :: As)).length) Slot.unset).toArray = ls at hl ⊢
  refine run p e s m _ below meth c _ (va_A [(h0, .inr (ci, fs))] s.heap.size) ls ⟨B.exec, B.bytes, hml, findClass_of_methodNamed B.named, fun q hq => atoms_spec (ws := Cond.code y cc maxL none :: zTB) B.pre q (List.mem_cons_of_mem _ hq), hK, (name_of_methodNamed B.named B.method).1.trans hy, hX⟩ (fun q hq => Or.inr hq) hl hP hD (fun pc lv H locs a hd hP1 hD1 hS1 => ?_)
  exact W.vret B.exec B.bytes hr (fun t ht hW => ⟨⟨a, rfl, trivial, by rw [ht]; exact hP1, hD1⟩, hS1.F ht⟩) hS1.2.2 hd hlocks
theorem k_OI : Cond.instanceMethod Lib.objectInit ∈ zTB := zTB_in (List.mem_of_getElem? (i := 134) (by decide +kernel)) (by decide +kernel)
theorem k_OC : Cond.code Lib.objectInit ⟨#[0xb1]⟩ 1 none ∈ zTB := zTB_in (List.mem_of_getElem? (i := 135) (by decide +kernel)) (by decide +kernel)
theorem k_A0 : Cond.arrayClass .int ∈ zTB := zTB_in (List.mem_of_getElem? (i := 171) (by decide +kernel)) (by decide +kernel)
theorem k_A1 : Cond.arrayClass .byte ∈ zTB := zTB_in (List.mem_of_getElem? (i := 172) (by decide +kernel)) (by decide +kernel)
theorem k_A2 : Cond.arrayClass .boolean ∈ zTB := zTB_in (List.mem_of_getElem? (i := 514) (by decide +kernel)) (by decide +kernel)
theorem k_A3 : Cond.arrayClass .long ∈ zTB := zTB_in (List.mem_of_getElem? (i := 173) (by decide +kernel)) (by decide +kernel)
section INI
variable {G : va_G} {dA : Nat → ClassId} {dS : Nat} {p : Program} {l : Launch} {e : Env} {R : Room} {s : State} {m : MethodId} {args : Array Value} {below : List Frame} {meth : Method} {c : Code} {cc : ByteArray} {own : String} {nL : Nat} {H : Heap} {locs : List Loc} {cells slots pc : Nat} {Q : State → Prop} {A : Nat → Prop} {ls : Array Slot} {h0 : Nat} {ws F : va_W} {rest : List Value}
theorem i_obj {lv : List (Nat × Value)} {idx : Nat} (cx : iCx G dA dS cc own nL p s m args meth c) (hl : lv_has ls nL ((0, .ref h0) :: lv)) (hw : Cond.methodLink own idx Lib.objectInit ∈ zTB) (d0 : decode cc 0 = .ok (.aload_n 0, 1)) (d1 : decode cc 1 = .ok (.invokespecial idx, 3)) (hR : 1 ≤ R.frames ∧ 12 ≤ R.locals)
    (k : W p l e R s m args below meth c H locs cells slots Q (F0 m 4 ls [])) : W p l e R s m args below meth c H locs cells slots Q (F0 m 0 ls []) := by
  refine lv_aload_n cx.1 cx.2.1 d0 rfl (lv_at hl 0 rfl) ?_
  exact W.objInit cx.1 cx.2.1 cx.2.2.2.1 (cx.2.2.2.2.1 _ hw) (cx.2.2.2.2.1 _ k_OI) (cx.2.2.2.2.1 _ k_OC) rfl (by rw [cx.2.2.1]; exact hl.1) rfl d1 hR.1 hR.2 k
theorem i_newa (cx : iCx G dA dS cc own nL p s m args meth c) {atype : ArrayType} {ty : FieldType} {t0 : Nat} (hty : newarray.typeOf atype = ty) (hw : Cond.arrayClass ty ∈ zTB) (ht : (zk dA)[t0]? = some (dA t0, ty)) (hra : ∀ (U : State) (cA : ClassId), va_RA U cA ty → U.vm.findClass ("[" ++ ty.toString) = some cA)
    (hP : va_P G zCl ws H) (hD : va_D A ws) (hS : va_S A s.heap H locs) (hA : ∀ q : Nat, s.heap.size ≤ q → A q) {n : Int32} {N : Nat} {a0 : vp_A} (ha : ∀ cA : ClassId, vp_cell cA a0 = arrV cA N (fun _ => defaultValue ty)) (hn : ¬ n < 0) (hN : n.toNatClampNeg = N) (hbytes : N * componentBytes ty ≤ 536870912) (hcells : cells + 1 ≤ R.cells) (hslots : slots + N ≤ R.slots) (hdg : decode cc pc = .ok (.newarray atype, 2))
    (kk : ∀ (q : Nat) (H1 : Heap), va_P G zCl (ws ++ [(q, .inl (dA t0, a0))]) H1 → va_D A (ws ++ [(q, .inl (dA t0, a0))]) → va_S A s.heap H1 locs → W p l e R s m args below meth c H1 locs (cells + 1) (slots + N) Q (F0 m (pc + 2) ls (.ref q :: rest))) : W p l e R s m args below meth c H locs cells slots Q (F0 m pc ls (.int n :: rest)) := by
  refine va_newa cx.1 cx.2.1 (by rw [hty]; exact cx.2.2.2.2.1 _ hw) hty cx.2.2.2.2.2.1 hP hD hS hA ha hn hN hbytes hcells hslots hdg fun q cA H1 hK1 hP1 hD1 hS1 => ?_
  have e1 := (hK1.2 9 (cA, ty) rfl).2
  have e2 := (cx.2.2.2.2.2.1.2 t0 _ ht).2
  have e3 : cA = dA t0 := Option.some.inj ((hra _ _ e1).symm.trans (hra _ _ e2))
  subst e3
  exact kk q H1 hP1 hD1 hS1
theorem i_putF {c0 : Nat} {C : String} {T : u_T} {N : Nat} {ty : Nat → FieldType} {index : Nat} {fs : List Value} (cx : iCx G dA dS cc own nL p s m args meth c) (ob : z_OB c0 C T N ty) (hP : va_P G zCl ((h0, .inr (z_oc c0, fs)) :: F) H) (hD : va_D A ((h0, .inr (z_oc c0, fs)) :: F)) (hS : va_S A s.heap H locs) (k : Nat) (hk : k < N) (hw : Cond.fieldLink own index C (T k).2.1 (T k).2.2.1 ∈ zTB) (hT : (T k).1 = C) (hfin : (T k).2.2.2 = true) (hown : C = own) {a : Nat} (hn : narrow (ty k) (.ref a) = .ref a) (hfit : fits (ty k) (.ref a) = true) (hl : k < fs.length) (hdg : decode cc pc = .ok (.putfield index, 3))
    (kk : ∀ (H1 : Heap) (locs1 : List Loc), va_P G zCl ((h0, .inr (z_oc c0, fs.set k (.ref a))) :: F) H1 → va_D A ((h0, .inr (z_oc c0, fs.set k (.ref a))) :: F) → va_S A s.heap H1 locs1 → W p l e R s m args below meth c H1 locs1 cells slots Q (F0 m (pc + 3) ls rest)) : W p l e R s m args below meth c H locs cells slots Q (F0 m pc ls (.ref a :: .ref h0 :: rest)) := by
  refine va_putF cx.1 cx.2.1 cx.2.2.2.2.1 ob.2.2.2.1 ty ob.2.2.2.2.1 ob.2.2.2.2.2 cx.2.2.2.1 cx.2.2.2.2.2.1 hP hD hS 0 rfl ob.1 k hk (ref := C) (cx.2.2.2.2.1 _ hw) (fun x hx => by rw [hT] at hx; exact hx) hfin cx.2.2.2.2.2.2.1 (hT.trans hown) (v := .ref a) (ob.2.2.2.2.1 k hk) hn hfit hl hdg fun H1 locs1 hP1 hD1 hS1 => ?_
  exact kk H1 locs1 hP1 hD1 hS1
/-- a row made and put into its final field: aload_0, the length, newarray, putfield -/
theorem i_arr {lv : List (Nat × Value)} {b c0 : Nat} {C : String} {T : u_T} {N0 : Nat} {ty : Nat → FieldType} {index : Nat} {fs : List Value} (cx : iCx G dA dS cc own nL p s m args meth c) (ob : z_OB c0 C T N0 ty) (hl : lv_has ls nL ((0, .ref h0) :: lv)) (hP : va_P G zCl ((h0, .inr (z_oc c0, fs)) :: F) H) (hD : va_D A ((h0, .inr (z_oc c0, fs)) :: F)) (hS : va_S A s.heap H locs) (hA : ∀ q : Nat, s.heap.size ≤ q → A q)
    {atype : ArrayType} {aty : FieldType} {t0 : Nat} (hty : newarray.typeOf atype = aty) (hwA : Cond.arrayClass aty ∈ zTB) (ht : (zk dA)[t0]? = some (dA t0, aty)) (hra : ∀ (U : State) (cA : ClassId), va_RA U cA aty → U.vm.findClass ("[" ++ aty.toString) = some cA) {n : Int32} {N : Nat} {a0 : vp_A} (ha : ∀ cA : ClassId, vp_cell cA a0 = arrV cA N (fun _ => defaultValue aty)) (hn : ¬ n < 0) (hN : n.toNatClampNeg = N) (hbytes : N * componentBytes aty ≤ 536870912) (hcells : cells + 1 ≤ R.cells) (hslots : slots + N ≤ R.slots)
    (k : Nat) (hk : k < N0) (hw : Cond.fieldLink own index C (T k).2.1 (T k).2.2.1 ∈ zTB) (hT : (T k).1 = C) (hfin : (T k).2.2.2 = true) (hown : C = own) (hnr : ∀ a : Nat, narrow (ty k) (.ref a) = .ref a) (hfit : ∀ a : Nat, fits (ty k) (.ref a) = true) (hlen : k < fs.length)
    (d0 : decode cc pc = .ok (.aload_n 0, 1)) (d1 : ∀ st : List Value, W p l e R s m args below meth c H locs cells slots Q (F0 m (pc + 1 + b) ls (.int n :: st)) → W p l e R s m args below meth c H locs cells slots Q (F0 m (pc + 1) ls st)) (d2 : decode cc (pc + 1 + b) = .ok (.newarray atype, 2)) (d3 : decode cc (pc + 1 + b + 2) = .ok (.putfield index, 3))
    (kk : ∀ (q : Nat) (H1 : Heap) (locs1 : List Loc), va_P G zCl ((h0, .inr (z_oc c0, fs.set k (.ref q))) :: (F ++ [(q, .inl (dA t0, a0))])) H1 → va_D A ((h0, .inr (z_oc c0, fs.set k (.ref q))) :: (F ++ [(q, .inl (dA t0, a0))])) → va_S A s.heap H1 locs1 → W p l e R s m args below meth c H1 locs1 (cells + 1) (slots + N) Q (F0 m (pc + 1 + b + 2 + 3) ls [])) : W p l e R s m args below meth c H locs cells slots Q (F0 m pc ls []) := by
  refine lv_aload_n cx.1 cx.2.1 d0 rfl (lv_at hl 0 rfl) (d1 _ ?_)
  refine i_newa cx hty hwA ht hra hP hD hS hA ha hn hN hbytes hcells hslots d2 fun q H1 hP1 hD1 hS1 => ?_
  exact i_putF cx ob hP1 hD1 hS1 k hk hw hT hfin hown (hnr q) (hfit q) hlen d3 (fun H2 locs2 hP2 hD2 hS2 => kk q H2 locs2 hP2 hD2 hS2)
theorem aI (cA : ClassId) (N : Nat) : vp_cell cA (N, .inl fun _ => 0) = arrV cA N (fun _ => defaultValue .int) := rfl
theorem aBy (cA : ClassId) (N : Nat) : vp_cell cA (N, .inl fun _ => 0) = arrV cA N (fun _ => defaultValue .byte) := rfl
theorem aZ (cA : ClassId) (N : Nat) : vp_cell cA (N, .inl fun _ => 0) = arrV cA N (fun _ => defaultValue .boolean) := rfl
theorem aJ (cA : ClassId) (N : Nat) : vp_cell cA (N, .inr (.inl fun _ => 0)) = arrV cA N (fun _ => defaultValue .long) := rfl
end INI
