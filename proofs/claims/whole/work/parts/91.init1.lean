/-! CONSTRUCTORS: an object made: new, dup, its own making -/
theorem z_init_good {y : MethodName} {cc : ByteArray} {maxL : Nat} (h : Cond.code y cc maxL none ∈ zTB) : GoodIn zTB (Cond.code y cc maxL none :: zTB) := fun w hw => by
  rcases List.mem_cons.mp hw with e | e
  · rw [e]; exact ⟨h, good_of_word (zTB_good _ h)⟩
  · exact ⟨e, good_of_word (zTB_good _ e)⟩
theorem i_blind {G : va_G} {dA : Nat → ClassId} {dS : Nat} {h0 sz ci : Nat} {fs As : List Value} : FrameBlind (iPc G dA dS h0 sz ci fs As) :=
  fun a U g mk q => ⟨q.1, q.2.1, q.2.2.1, q.2.2.2.1, va_K.moved (u := U) (U := U.calling g mk a) (Vm.Alike.refl U.vm) q.2.2.2.2.1, XN.warm (U := U.calling g mk a) q.2.2.2.2.2 (State.WarmedH.refl U)⟩
section INI
variable {G : va_G} {dA : Nat → ClassId} {dS : Nat} {p : Program} {l : Launch} {e : Env} {R : Room} {s : State} {m : MethodId} {args : Array Value} {below : List Frame} {meth : Method} {c : Code} {cc : ByteArray} {own : String} {nL : Nat} {H : Heap} {locs : List Loc} {cells slots pc : Nat} {Q : State → Prop} {A : Nat → Prop} {ls : Array Slot} {ws : va_W} {rest : List Value}
/-- behind new: dup, the arguments' loads (As; none, or two), the making -/
theorem i_make {S : Type} {y : MethodName} {cc' : ByteArray} {maxL' mc ms idx2 n : Nat} {rm : Room} {ci : Nat} {fs As : List Value} {L : S → va_W} {q0 : Nat} (cx : iCx G dA dS cc own nL p s m args meth c)
    (hM : Met l y (Cond.code y cc' maxL' none :: zTB) rm (iPc G dA dS q0 H.size ci fs As) (iQc G q0 H.size ci fs L) mc ms (va_A [(q0, .inr (ci, fs))] H.size)) (hy : y.name = "<init>") (hwc : Cond.code y cc' maxL' none ∈ zTB) (hwi : Cond.initialized y.cls ∈ zTB) (hwm : Cond.instanceMethod y ∈ zTB) (hwl : Cond.methodLink own idx2 y ∈ zTB ∨ (own, idx2, y, RX9) ∈ nestL)
    (hd : y.cls ≠ "java/lang/invoke/MethodHandle" ∧ y.cls ≠ "java/lang/invoke/VarHandle" ∧ (parseMethodDescriptor y.desc).map (fun d => d.parameters.length) = some n) (hn : As.length = n) (hrm : rm.cells = mc ∧ rm.slots = ms) (hR : rm.frames + 1 ≤ R.frames ∧ 8 + (maxL' + 11) + rm.locals ≤ R.locals) (hcs : cells + mc ≤ R.cells ∧ slots + ms ≤ R.slots)
    (hsz : ls.size = nL) (hP : va_P G zCl (ws ++ [(q0, .inr (ci, fs))]) H) (hD : va_D A (ws ++ [(q0, .inr (ci, fs))])) (hS : va_S A s.heap H locs) (hA : ∀ q : Nat, s.heap.size ≤ q → A q) (hst : (rest.map fun v => v.category).sum ≤ 8) (hdg : decode cc pc = .ok (.invokespecial idx2, 3))
    (kk : ∀ (u : S) (H1 : Heap) (locs1 : List Loc), va_P G zCl (ws ++ L u) H1 → va_D A (ws ++ L u) → va_S A s.heap H1 locs1 → W p l e R s m args below meth c H1 locs1 (cells + mc) (slots + ms) Q (F0 m (pc + 3) ls rest)) : W p l e R s m args below meth c H locs cells slots Q (F0 m pc ls (As.reverse ++ .ref q0 :: rest)) := by
  have hP0 : va_P G zCl ([(q0, .inr (ci, fs))] ++ ws) H := va_P.swap (a := []) (b := ws) (c := [(q0, .inr (ci, fs))]) hP
  have hD0 : va_D A ([(q0, .inr (ci, fs))] ++ ws) := va_D.swap (a := []) (b := ws) (c := [(q0, .inr (ci, fs))]) hD
  have hPc : va_P G zCl [(q0, .inr (ci, fs))] H := hP0.sub [0] rfl
  have hDc : va_D A [(q0, .inr (ci, fs))] := hD0.sub [0] (by decide) rfl
  have hFc : ∀ q, va_A [(q0, .inr (ci, fs))] H.size q → A q := va_free (wc := [(q0, .inr (ci, fs))]) hD0 hS hA [0] rfl
  have hp : PreS s H (iPc G dA dS q0 H.size ci fs As) (.ref q0 :: As) := ⟨i_blind, fun U hU hW => ⟨rfl, by rw [hU], by rw [hU]; exact hPc, hDc.weaken (fun _ _ _ _ => trivial), va_K.moved hW.alike cx.2.2.2.2.2.1, XN.warm cx.2.2.2.2.2.2.2 hW⟩⟩
  have hr : va_Run p l e R s m args below meth c H locs cells slots mc ms (F0 m pc ls (As.reverse ++ .ref q0 :: rest)) rest (iQc G q0 H.size ci fs L (Value.ref q0 :: As).toArray) (va_A [(q0, .inr (ci, fs))] H.size) := by
    rcases hwl with hwl | hwl
    · exact va_runI ⟨cx.1, cx.2.1, cx.2.2.1, cx.2.2.2.1, cx.2.2.2.2.1⟩ hM ⟨callB_of n cx.2.2.2.2.1 (z_init_good hwc) rfl hrm.1 hrm.2 (cx.2.2.2.2.1 _ hwi) (cx.2.2.2.2.1 _ hwl) hd hR, hy, cx.2.2.2.2.1 _ hwm⟩ hp rfl hn hsz rfl (lv_room hst) hdg hcs
    · exact va_runIN (host := RX9) ⟨cx.1, cx.2.1, cx.2.2.1, cx.2.2.2.1, cx.2.2.2.2.1⟩ hM ⟨va_cnB n cx.2.2.2.2.1 (z_init_good hwc) rfl hrm.1 hrm.2 (cx.2.2.2.2.2.2.2.1 _ hwl) (cx.2.2.2.2.1 _ hwi) hd hR, hy, cx.2.2.2.2.1 _ hwm⟩ hp rfl hn hsz rfl (lv_room hst) hdg hcs
  refine va_callv hr hS (fun q _ h => hFc q h) hFc (fun u t H1 locs1 ht hvm hw hB hz1 hk1 hS1 => ?_)
  obtain ⟨hP1, hD1⟩ := hB
  rw [ht] at hP1
  obtain ⟨hP2, hD2⟩ := va_joinQ (X := [(q0, .inr (ci, fs))]) (cx := [(q0, .inr (ci, fs))]) (wr := []) (w1 := L u) (pl := ws) hP0 hD0 [0] [] rfl rfl (by decide) (by decide) hk1 hFc hP1 hD1
  exact kk u H1 locs1 (va_P.swap (a := []) (b := L u) (c := ws) hP2) (va_D.swap (a := []) (b := L u) (c := ws) hD2) hS1
/-- new, dup, a making without arguments -/
theorem i_new {S : Type} {y : MethodName} {cc' : ByteArray} {maxL' mc ms idx1 idx2 c' N' : Nat} {C' : String} {T' : u_T} {ty' : Nat → FieldType} {rm : Room} {fs : List Value} {L : Nat → S → va_W} {lv : List (Nat × Value)} (cx : iCx G dA dS cc own nL p s m args meth c) (ob : z_OB c' C' T' N' ty')
    (hM : ∀ q sz : Nat, Met l y (Cond.code y cc' maxL' none :: zTB) rm (iPc G dA dS q sz (z_oc c') fs []) (iQc G q sz (z_oc c') fs (L q)) mc ms (va_A [(q, .inr (z_oc c', fs))] sz)) (hy : y.name = "<init>") (hwc : Cond.code y cc' maxL' none ∈ zTB) (hwi : Cond.initialized y.cls ∈ zTB) (hwm : Cond.instanceMethod y ∈ zTB) (hwl : Cond.methodLink own idx2 y ∈ zTB ∨ (own, idx2, y, RX9) ∈ nestL) (hyc : y.cls = C') (hwk : Cond.classLink own idx1 C' ∈ zTB) (hws : Cond.instantiable C' N' ∈ zTB)
    (hd : y.cls ≠ "java/lang/invoke/MethodHandle" ∧ y.cls ≠ "java/lang/invoke/VarHandle" ∧ (parseMethodDescriptor y.desc).map (fun d => d.parameters.length) = some 0) (hfs : ∀ j, j < N' → defaultValue (ty' j) = vp_V fs j) (hrm : rm.cells = mc ∧ rm.slots = ms) (hR : rm.frames + 1 ≤ R.frames ∧ 8 + (maxL' + 11) + rm.locals ≤ R.locals) (hcs : cells + 1 + mc ≤ R.cells ∧ slots + N' + ms ≤ R.slots)
    (hl : lv_has ls nL lv) (hP : va_P G zCl ws H) (hD : va_D A ws) (hS : va_S A s.heap H locs) (hA : ∀ q : Nat, s.heap.size ≤ q → A q) (hst : ∀ q : Nat, (((Value.ref q) :: rest).map fun v => v.category).sum ≤ 8) (d0 : decode cc pc = .ok (.new idx1, 3)) (d1 : decode cc (pc + 3) = .ok (.dup, 1)) (d2 : decode cc (pc + 3 + 1) = .ok (.invokespecial idx2, 3))
    (kk : ∀ (q : Nat) (u : S) (H1 : Heap) (locs1 : List Loc), va_P G zCl (ws ++ L q u) H1 → va_D A (ws ++ L q u) → va_S A s.heap H1 locs1 → W p l e R s m args below meth c H1 locs1 (cells + 1 + mc) (slots + N' + ms) Q (F0 m (pc + 3 + 1 + 3) ls (.ref q :: rest))) : W p l e R s m args below meth c H locs cells slots Q (F0 m pc ls rest) := by
  refine va_new cx.1 cx.2.1 cx.2.2.2.2.1 ob.2.2.2.1 ty' ob.2.2.2.2.1 cx.2.2.2.1 (cx.2.2.2.2.1 _ hwk) (cx.2.2.2.2.1 _ hws) (cx.2.2.2.2.1 _ (hyc ▸ hwi)) cx.2.2.2.2.2.1 hP hD hS hA ob.1 hfs (by omega) (by omega) d0 (fun q H1 hP1 hD1 hS1 => ?_)
  refine lv_dup cx.1 cx.2.1 d1 rfl ?_
  exact i_make (As := []) cx (hM q H1.size) hy hwc hwi hwm hwl hd rfl hrm hR hcs hl.1 hP1 hD1 hS1 hA (hst q) d2 (fun u H2 locs2 hP2 hD2 hS2 => kk q u H2 locs2 hP2 hD2 hS2)
end INI
section INI
variable {G : va_G} {dA : Nat → ClassId} {dS : Nat} {p : Program} {l : Launch} {e : Env} {R : Room} {s : State} {m : MethodId} {args : Array Value} {below : List Frame} {meth : Method} {c : Code} {cc : ByteArray} {own : String} {nL : Nat} {H : Heap} {locs : List Loc} {cells slots pc : Nat} {Q : State → Prop} {A : Nat → Prop} {ls : Array Slot} {h0 : Nat} {F : va_W} {rest : List Value}
theorem i_put {c0 : Nat} {C : String} {T : u_T} {N : Nat} {ty : Nat → FieldType} {index : Nat} {fs : List Value} (cx : iCx G dA dS cc own nL p s m args meth c) (ob : z_OB c0 C T N ty) (hP : va_P G zCl ((h0, .inr (z_oc c0, fs)) :: F) H) (hD : va_D A ((h0, .inr (z_oc c0, fs)) :: F)) (hS : va_S A s.heap H locs) (k : Nat) (hk : k < N) (hw : Cond.fieldLink own index C (T k).2.1 (T k).2.2.1 ∈ zTB) (hT : (T k).1 = C) (hfin : (T k).2.2.2 = false) {a : Nat} (hn : narrow (ty k) (.ref a) = .ref a) (hfit : fits (ty k) (.ref a) = true) (hl : k < fs.length) (hdg : decode cc pc = .ok (.putfield index, 3))
    (kk : ∀ (H1 : Heap) (locs1 : List Loc), va_P G zCl ((h0, .inr (z_oc c0, fs.set k (.ref a))) :: F) H1 → va_D A ((h0, .inr (z_oc c0, fs.set k (.ref a))) :: F) → va_S A s.heap H1 locs1 → W p l e R s m args below meth c H1 locs1 cells slots Q (F0 m (pc + 3) ls rest)) : W p l e R s m args below meth c H locs cells slots Q (F0 m pc ls (.ref a :: .ref h0 :: rest)) := by
  refine va_put cx.1 cx.2.1 cx.2.2.2.2.1 ob.2.2.2.1 ty ob.2.2.2.2.1 ob.2.2.2.2.2 cx.2.2.2.1 cx.2.2.2.2.2.1 hP hD hS 0 rfl ob.1 k hk (ref := C) (cx.2.2.2.2.1 _ hw) (fun x hx => by rw [hT] at hx; exact hx) hfin (v := .ref a) (ob.2.2.2.2.1 k hk) hn hfit hl hdg fun H1 locs1 hP1 hD1 hS1 => ?_
  exact kk H1 locs1 hP1 hD1 hS1
end INI
