/-! CONSTRUCTORS: rows of references, filled in loops with objects made; Arrays.fill called -/
abbrev rfs (n : Nat) (f : Nat → Option Nat) : vp_A := (n, .inr (.inr (.inr (.inr f))))
def rf (h : Nat → Nat) (i : Nat) : Nat → Option Nat := fun j => if j < i then some (h j) else none
theorem rf_0 (h : Nat → Nat) : rf h 0 = fun _ => none := by
  funext j
  unfold rf
  rw [if_neg (Nat.not_lt_zero j)]
theorem rf_up (h : Nat → Nat) (i q : Nat) : va_up (rf h i) i (some q) = rf (fun j => if j = i then q else h j) (i + 1) := by
  funext j
  unfold va_up rf
  by_cases e : j = i
  · rw [if_pos e, if_pos (by omega)]
    show some q = some (if j = i then q else h j)
    rw [if_pos e]
  · rw [if_neg e]
    by_cases e2 : j < i
    · rw [if_pos e2, if_pos (by omega)]
      show some (h j) = some (if j = i then q else h j)
      rw [if_neg e]
    · rw [if_neg e2, if_neg (by omega)]
def zfl (X : Nat → va_W) : Nat → va_W
  | 0 => []
  | n + 1 => zfl X n ++ X n
theorem fl_congr {X Y : Nat → va_W} : ∀ {n : Nat}, (∀ j, j < n → X j = Y j) → zfl X n = zfl Y n
  | 0, _ => rfl
  | n + 1, h => by
    show zfl X n ++ X n = zfl Y n ++ Y n
    rw [fl_congr (n := n) (fun j hj => h j (by omega)), h n (by omega)]
theorem fl_up {S : Type} (L : Nat → S → va_W) (h : Nat → Nat) (u : Nat → S) (i q : Nat) (v : S) : zfl (fun j => L (h j) (u j)) i ++ L q v = zfl (fun j => L ((fun j => if j = i then q else h j) j) ((fun j => if j = i then v else u j) j)) (i + 1) := by
  show _ = zfl _ i ++ L (if i = i then q else h i) (if i = i then v else u i)
  rw [if_pos rfl, if_pos rfl]
  congr 1
  refine fl_congr (fun j hj => ?_)
  show L (h j) (u j) = L (if j = i then q else h j) (if j = i then v else u j)
  rw [if_neg (by omega), if_neg (by omega)]
theorem fl_X {S : Type} {X : va_W} {L : Nat → S → va_W} {h : Nat → Nat} {u : Nat → S} {i q : Nat} {v : S} : (X ++ zfl (fun j => L (h j) (u j)) i) ++ L q v = X ++ zfl (fun j => L (if j = i then q else h j) (if j = i then v else u j)) (i + 1) := by
  rw [List.append_assoc, fl_up]
theorem fl_X2 {S T : Type} {X : va_W} {L : Nat → S → va_W} {M : Nat → T → va_W} {h k : Nat → Nat} {u : Nat → S} {w : Nat → T} {i q r : Nat} {v : S} {z : T} : ((X ++ zfl (fun j => L (h j) (u j) ++ M (k j) (w j)) i) ++ L q v) ++ M r z = X ++ zfl (fun j => L (if j = i then q else h j) (if j = i then v else u j) ++ M (if j = i then r else k j) (if j = i then z else w j)) (i + 1) := by
  rw [List.append_assoc, List.append_assoc]
  show X ++ (zfl _ i ++ (L q v ++ M r z)) = X ++ (zfl _ i ++ (L (if i = i then q else h i) (if i = i then v else u i) ++ M (if i = i then r else k i) (if i = i then z else w i)))
  rw [if_pos rfl, if_pos rfl, if_pos rfl, if_pos rfl]
  congr 2
  refine fl_congr (fun j hj => ?_)
  show L (h j) (u j) ++ M (k j) (w j) = L (if j = i then q else h j) (if j = i then v else u j) ++ M (if j = i then r else k j) (if j = i then z else w j)
  rw [if_neg (by omega), if_neg (by omega), if_neg (by omega), if_neg (by omega)]
theorem fl_0 {P : (Nat → Option Nat) → va_W} {X : va_W} {Y : Nat → va_W} {h : Nat → Nat} : P (rf h 0) ++ (X ++ zfl Y 0) = P (fun _ => none) ++ X := by
  rw [rf_0]
  show _ ++ (X ++ []) = _
  rw [List.append_nil]
theorem nJ_nlt {a b : Nat} (h : b ≤ a) (ha : a < 2 ^ 31) : ¬ nI a < nI b := by
  rw [Int32.lt_iff_toInt_lt, nI_toInt ha, nI_toInt (by omega)]
  omega
theorem nJ_lt {a b : Nat} (h : a < b) (hb : b < 2 ^ 31) : nI a < nI b := by
  rw [Int32.lt_iff_toInt_lt, nI_toInt (by omega), nI_toInt hb]
  omega
section INI
variable {G : va_G} {dA : Nat → ClassId} {dS : Nat} {p : Program} {l : Launch} {e : Env} {R : Room} {s : State} {m : MethodId} {args : Array Value} {below : List Frame} {meth : Method} {c : Code} {cc : ByteArray} {own : String} {nL : Nat} {H : Heap} {locs : List Loc} {cells slots pc : Nat} {Q : State → Prop} {A : Nat → Prop} {ls : Array Slot} {h0 : Nat} {ws F : va_W} {rest : List Value}
theorem i_anew (cx : iCx G dA dS cc own nL p s m args meth c) {Ce : String} {t0 idx1 : Nat} (hov : Ce ∈ overL) (hck : Cond.classLink own idx1 Ce ∈ zTB) (ht : (zk dA)[t0]? = some (dA t0, .object Ce))
    (hP : va_P G zCl ws H) (hD : va_D A ws) (hS : va_S A s.heap H locs) (hA : ∀ q : Nat, s.heap.size ≤ q → A q) {n : Int32} {N : Nat} (hn : ¬ n < 0) (hN : n.toNatClampNeg = N) (hbytes : N * 4 ≤ 536870912) (hcells : cells + 1 ≤ R.cells) (hslots : slots + N ≤ R.slots) (hdg : decode cc pc = .ok (.anewarray idx1, 3))
    (kk : ∀ (q : Nat) (H1 : Heap), va_P G zCl (ws ++ [(q, .inl (dA t0, rfs N fun _ => none))]) H1 → va_D A (ws ++ [(q, .inl (dA t0, rfs N fun _ => none))]) → va_S A s.heap H1 locs → W p l e R s m args below meth c H1 locs (cells + 1) (slots + N) Q (F0 m (pc + 3) ls (.ref q :: rest))) : W p l e R s m args below meth c H locs cells slots Q (F0 m pc ls (.int n :: rest)) := by
  refine va_newq cx.1 cx.2.1 cx.2.2.2.1 (cx.2.2.2.2.1 _ hck) (cx.2.2.2.2.2.2.2.2.1 _ hov) cx.2.2.2.2.2.1 hP hD hS hA hn hN hbytes hcells hslots hdg fun q cA H1 hK1 hP1 hD1 hS1 => ?_
  obtain ⟨k1, c1, a1, a2, a3, e1⟩ := (hK1.2 9 (cA, .object Ce) rfl).2
  obtain ⟨k2, c2, b1, b2, b3, e2⟩ := (cx.2.2.2.2.2.1.2 t0 _ ht).2
  have e3 : cA = dA t0 := Option.some.inj (e1.symm.trans e2)
  subst e3
  exact kk q H1 hP1 hD1 hS1
/-- a row of references made and put into its final field: aload_0, the length, anewarray, putfield -/
theorem i_arrq {lv : List (Nat × Value)} {b c0 : Nat} {C Ce : String} {T : u_T} {N0 : Nat} {ty : Nat → FieldType} {index idx1 : Nat} {fs : List Value} (cx : iCx G dA dS cc own nL p s m args meth c) (ob : z_OB c0 C T N0 ty) (hl : lv_has ls nL ((0, .ref h0) :: lv)) (hP : va_P G zCl ((h0, .inr (z_oc c0, fs)) :: F) H) (hD : va_D A ((h0, .inr (z_oc c0, fs)) :: F)) (hS : va_S A s.heap H locs) (hA : ∀ q : Nat, s.heap.size ≤ q → A q)
    {t0 : Nat} (hov : Ce ∈ overL) (hck : Cond.classLink own idx1 Ce ∈ zTB) (ht : (zk dA)[t0]? = some (dA t0, .object Ce)) {n : Int32} {N : Nat} (hn : ¬ n < 0) (hN : n.toNatClampNeg = N) (hbytes : N * 4 ≤ 536870912) (hcells : cells + 1 ≤ R.cells) (hslots : slots + N ≤ R.slots)
    (k : Nat) (hk : k < N0) (hw : Cond.fieldLink own index C (T k).2.1 (T k).2.2.1 ∈ zTB) (hT : (T k).1 = C) (hfin : (T k).2.2.2 = true) (hown : C = own) (hnr : ∀ a : Nat, narrow (ty k) (.ref a) = .ref a) (hfit : ∀ a : Nat, fits (ty k) (.ref a) = true) (hlen : k < fs.length)
    (d0 : decode cc pc = .ok (.aload_n 0, 1)) (d1 : ∀ st : List Value, W p l e R s m args below meth c H locs cells slots Q (F0 m (pc + 1 + b) ls (.int n :: st)) → W p l e R s m args below meth c H locs cells slots Q (F0 m (pc + 1) ls st)) (d2 : decode cc (pc + 1 + b) = .ok (.anewarray idx1, 3)) (d3 : decode cc (pc + 1 + b + 3) = .ok (.putfield index, 3))
    (kk : ∀ (q : Nat) (H1 : Heap) (locs1 : List Loc), va_P G zCl ((h0, .inr (z_oc c0, fs.set k (.ref q))) :: (F ++ [(q, .inl (dA t0, rfs N fun _ => none))])) H1 → va_D A ((h0, .inr (z_oc c0, fs.set k (.ref q))) :: (F ++ [(q, .inl (dA t0, rfs N fun _ => none))])) → va_S A s.heap H1 locs1 → W p l e R s m args below meth c H1 locs1 (cells + 1) (slots + N) Q (F0 m (pc + 1 + b + 3 + 3) ls [])) : W p l e R s m args below meth c H locs cells slots Q (F0 m pc ls []) := by
  refine lv_aload_n cx.1 cx.2.1 d0 rfl (lv_at hl 0 rfl) (d1 _ ?_)
  refine i_anew cx hov hck ht hP hD hS hA hn hN hbytes hcells hslots d2 fun q H1 hP1 hD1 hS1 => ?_
  exact i_putF cx ob hP1 hD1 hS1 k hk hw hT hfin hown (hnr q) (hfit q) hlen d3 (fun H2 locs2 hP2 hD2 hS2 => kk q H2 locs2 hP2 hD2 hS2)
/-- a place of a row of references filled with an object just made: aload_0, getfield, iload_1, new, dup, the making, aastore -/
theorem i_elt {S : Type} {c0 N0 c' N' : Nat} {C C' : String} {T T' : u_T} {ty ty' : Nat → FieldType} {y : MethodName} {cc' : ByteArray} {maxL' mc ms idxf idx1 idx2 : Nat} {rm : Room} {fs fs' : List Value} {L : Nat → S → va_W} {lv : List (Nat × Value)} (cx : iCx G dA dS cc own nL p s m args meth c) (ob0 : z_OB c0 C T N0 ty) (ob : z_OB c' C' T' N' ty')
    (hM : ∀ q sz : Nat, Met l y (Cond.code y cc' maxL' none :: zTB) rm (iPc G dA dS q sz (z_oc c') fs' []) (iQc G q sz (z_oc c') fs' (L q)) mc ms (va_A [(q, .inr (z_oc c', fs'))] sz)) (hy : y.name = "<init>") (hwc : Cond.code y cc' maxL' none ∈ zTB) (hwi : Cond.initialized y.cls ∈ zTB) (hwm : Cond.instanceMethod y ∈ zTB) (hwl : Cond.methodLink own idx2 y ∈ zTB ∨ (own, idx2, y, RX9) ∈ nestL) (hyc : y.cls = C') (hwk : Cond.classLink own idx1 C' ∈ zTB) (hws : Cond.instantiable C' N' ∈ zTB)
    (hd : y.cls ≠ "java/lang/invoke/MethodHandle" ∧ y.cls ≠ "java/lang/invoke/VarHandle" ∧ (parseMethodDescriptor y.desc).map (fun d => d.parameters.length) = some 0) (hfs : ∀ j, j < N' → defaultValue (ty' j) = vp_V fs' j) (hLh : ∀ (q : Nat) (u : S), ∃ vs : List Value, (L q u)[0]? = some (q, .inr (z_oc c', vs))) (hrm : rm.cells = mc ∧ rm.slots = ms) (hR : rm.frames + 1 ≤ R.frames ∧ 8 + (maxL' + 11) + rm.locals ≤ R.locals) (hcs : cells + 1 + mc ≤ R.cells ∧ slots + N' + ms ≤ R.slots)
    {P : (Nat → Option Nat) → va_W} {F : va_W} {f : Nat → Option Nat} {a pa t0 n i kf : Nat} (hP : va_P G zCl (P f ++ F) H) (hD : va_D A (P f ++ F)) (hS : va_S A s.heap H locs) (hA : ∀ q : Nat, s.heap.size ≤ q → A q) (h00 : (P f)[0]? = some (h0, .inr (z_oc c0, fs))) (hkf : kf < N0) (hfa : fs[kf]? = some (.ref a)) (hlk : Cond.fieldLink own idxf C (T kf).2.1 (T kf).2.2.1 ∈ zTB) (hTf : (T kf).1 = C)
    (hpa : (P f)[pa]? = some (a, .inl (dA t0, rfs n f))) (hset : ∀ g, (P f).set pa (a, .inl (dA t0, rfs n g)) = P g) (ht : (zk dA)[t0]? = some (dA t0, .object C')) (hi : i < n) (hn : n < 2 ^ 31) (hl : lv_has ls nL ((1, .int (nI i)) :: (0, .ref h0) :: lv))
    (d0 : decode cc pc = .ok (.aload_n 0, 1)) (d1 : decode cc (pc + 1) = .ok (.getfield idxf, 3)) (d2 : decode cc (pc + 1 + 3) = .ok (.iload_n 1, 1)) (d3 : decode cc (pc + 1 + 3 + 1) = .ok (.new idx1, 3)) (d4 : decode cc (pc + 1 + 3 + 1 + 3) = .ok (.dup, 1)) (d5 : decode cc (pc + 1 + 3 + 1 + 3 + 1) = .ok (.invokespecial idx2, 3)) (d6 : decode cc (pc + 1 + 3 + 1 + 3 + 1 + 3) = .ok (.aastore, 1))
    (kk : ∀ (q : Nat) (u : S) (H1 : Heap) (locs1 : List Loc), va_P G zCl (P (va_up f i (some q)) ++ (F ++ L q u)) H1 → va_D A (P (va_up f i (some q)) ++ (F ++ L q u)) → va_S A s.heap H1 locs1 → W p l e R s m args below meth c H1 locs1 (cells + 1 + mc) (slots + N' + ms) Q (F0 m (pc + 1 + 3 + 1 + 3 + 1 + 3 + 1) ls [])) : W p l e R s m args below meth c H locs cells slots Q (F0 m pc ls []) := by
  refine lv_aload_n cx.1 cx.2.1 d0 rfl (lv_at hl 1 rfl) ?_
  have hl0 : 0 < (P f).length := (List.getElem?_eq_some_iff.mp h00).1
  have hpl : pa < (P f).length := (List.getElem?_eq_some_iff.mp hpa).1
  refine va_get cx.1 cx.2.1 cx.2.2.2.2.1 ob0.2.2.2.1 cx.2.2.2.1 cx.2.2.2.2.2.1 hP 0 (by rw [List.getElem?_append_left hl0]; exact h00) ob0.1 kf hkf (ref := C) (cx.2.2.2.2.1 _ hlk) (fun x hx => by rw [hTf] at hx; exact hx) hfa d1 ?_
  refine lv_iload_n cx.1 cx.2.1 d2 rfl (lv_at hl 0 rfl) ?_
  refine i_new (L := L) cx ob hM hy hwc hwi hwm hwl hyc hwk hws hd hfs hrm hR hcs hl hP hD hS hA (fun _ => Nat.le_of_ble_eq_true rfl) d3 d4 d5 (fun q u H1 locs1 hP1 hD1 hS1 => ?_)
  obtain ⟨vs, hvs⟩ := hLh q u
  rw [List.append_assoc] at hP1 hD1
  refine va_astq (r := (C', T', N')) cx.1 cx.2.1 cx.2.2.2.2.2.1 hP1 hD1 hS1 pa t0 ((P f ++ F).length) (z_oc c') (by rw [List.getElem?_append_left hpl]; exact hpa) ht (by rw [← List.append_assoc, List.getElem?_append_right (Nat.le_refl _), Nat.sub_self]; exact hvs) ob.1 (vp_in_nI hi hn) d6 (fun H2 locs2 hP2 hD2 hS2 => ?_)
  rw [List.set_append_left pa _ hpl, nI_clamp (by omega), hset] at hP2 hD2
  exact kk q u H2 locs2 hP2 hD2 hS2
/-- a loop over i in local 1: step, and what stands behind -/
theorem i_for {Inv : Nat → Heap → Prop} {n c0 a s0 b pc0 : Nat} (step : ∀ (i : Nat) (H : Heap) (locs : List Loc) (ls : Array Slot), i < n → Inv i H → va_S A s.heap H locs → lv_has ls nL [(1, .int (nI i)), (0, .ref h0)] → (∀ (H1 : Heap) (locs1 : List Loc) (ls1 : Array Slot), Inv (i + 1) H1 → va_S A s.heap H1 locs1 → lv_has ls1 nL [(1, .int (nI (i + 1))), (0, .ref h0)] → W p l e R s m args below meth c H1 locs1 (c0 + (i + 1) * a) (s0 + (i + 1) * b) Q (F0 m pc0 ls1 [])) → W p l e R s m args below meth c H locs (c0 + i * a) (s0 + i * b) Q (F0 m pc0 ls []))
    (stop : ∀ (H : Heap) (locs : List Loc) (ls : Array Slot), Inv n H → va_S A s.heap H locs → lv_has ls nL [(1, .int (nI n)), (0, .ref h0)] → W p l e R s m args below meth c H locs (c0 + n * a) (s0 + n * b) Q (F0 m pc0 ls [])) :
    ∀ (k i : Nat) (H : Heap) (locs : List Loc) (ls : Array Slot), i + k = n → Inv i H → va_S A s.heap H locs → lv_has ls nL [(1, .int (nI i)), (0, .ref h0)] → W p l e R s m args below meth c H locs (c0 + i * a) (s0 + i * b) Q (F0 m pc0 ls []) := by
  intro k
  induction k with
  | zero =>
    intro i H locs ls hi hI hS hl
    have hi' : i = n := by omega
    subst hi'
    exact stop H locs ls hI hS hl
  | succ k ih =>
    intro i H locs ls hi hI hS hl
    exact step i H locs ls (by omega) hI hS hl (fun H1 locs1 ls1 hI1 hS1 hl1 => ih (i + 1) H1 locs1 ls1 (by omega) hI1 hS1 hl1)
theorem k_FC : Cond.code yJ7_fill_53178 cJ7_fill_53178 4 none ∈ zTB := kc_229.1
theorem k_FI : Cond.initialized yJ7_fill_53178.cls ∈ zTB := kc_229.2.1
/-- Arrays.fill of the row that stands last -/
theorem i_fill {q N idx : Nat} {v : Int32} {f : Nat → Int32} (cx : iCx G dA dS cc own nL p s m args meth c) (hw : Cond.methodLink own idx yJ7_fill_53178 ∈ zTB) (hN : N < 2 ^ 31) (hR : 1 ≤ R.frames ∧ 23 ≤ R.locals) (hcs : cells ≤ R.cells ∧ slots ≤ R.slots) (hsz : ls.size = nL) (hP : va_P G zCl (ws ++ [(q, .inl (dA 0, (N, .inl f)))]) H) (hD : va_D A (ws ++ [(q, .inl (dA 0, (N, .inl f)))])) (hS : va_S A s.heap H locs) (hA : ∀ q : Nat, s.heap.size ≤ q → A q) (hdg : decode cc pc = .ok (.invokestatic idx, 3))
    (kk : ∀ (H1 : Heap) (locs1 : List Loc), va_P G zCl (ws ++ [(q, .inl (dA 0, (N, .inl fun j => if j < N then v else f j)))]) H1 → va_D A (ws ++ [(q, .inl (dA 0, (N, .inl fun j => if j < N then v else f j)))]) → va_S A s.heap H1 locs1 → W p l e R s m args below meth c H1 locs1 cells slots Q (F0 m (pc + 3) ls [])) : W p l e R s m args below meth c H locs cells slots Q (F0 m pc ls [.int v, .ref q]) := by
  have hP0 : va_P G zCl ([(q, .inl (dA 0, (N, .inl f)))] ++ ws) H := va_P.swap (a := []) (b := ws) (c := [(q, .inl (dA 0, (N, .inl f)))]) hP
  have hD0 : va_D A ([(q, .inl (dA 0, (N, .inl f)))] ++ ws) := va_D.swap (a := []) (b := ws) (c := [(q, .inl (dA 0, (N, .inl f)))]) hD
  have hPc : va_P G zCl [(q, .inl (dA 0, (N, .inl f)))] H := hP0.sub [0] rfl
  have hDc : va_D A [(q, .inl (dA 0, (N, .inl f)))] := hD0.sub [0] (by decide) rfl
  have hFc : ∀ x, va_A [(q, .inl (dA 0, (N, .inl f)))] H.size x → A x := va_free (wc := [(q, .inl (dA 0, (N, .inl f)))]) hD0 hS hA [0] rfl
  refine va_callv (va_runS (As := [.ref q, .int v]) (rest := []) ⟨cx.1, cx.2.1, cx.2.2.1, cx.2.2.2.1, cx.2.2.2.2.1⟩ (n_fill (G := G) (dA := dA) (l := l) q H.size N v f hN) ⟨callB_of 2 cx.2.2.2.2.1 (z_init_good k_FC) rfl rfl rfl (cx.2.2.2.2.1 _ k_FI) (cx.2.2.2.2.1 _ hw) ⟨by decide, by decide, by decide +kernel⟩ hR, cx.2.2.2.2.1 _ ks_229⟩ ⟨fun a U g mk z => ⟨z.1, z.2.1, z.2.2.1, z.2.2.2.1, va_K.moved (u := U) (U := U.calling g mk a) (Vm.Alike.refl U.vm) z.2.2.2.2⟩, fun U hU hW => ⟨rfl, by rw [hU], by rw [hU]; exact hPc, hDc.weaken (fun _ _ _ _ => trivial), va_K.moved hW.alike cx.2.2.2.2.2.1⟩⟩ rfl rfl hsz rfl (lv_room (Nat.le_of_ble_eq_true rfl)) hdg hcs) hS (fun x _ h => hFc x h) hFc (fun u t H1 locs1 ht hvm hw1 hB hz1 hk1 hS1 => ?_)
  obtain ⟨hP1, hD1⟩ := hB
  rw [ht] at hP1
  obtain ⟨hP2, hD2⟩ := va_joinQ (X := [(q, .inl (dA 0, (N, .inl f)))]) (cx := [(q, .inl (dA 0, (N, .inl f)))]) (wr := []) (w1 := [(q, .inl (dA 0, (N, .inl fun j => if j < N then v else f j)))]) (pl := ws) hP0 hD0 [0] [] rfl rfl (by decide) (by decide) hk1 hFc hP1 hD1
  exact kk H1 locs1 (va_P.swap (a := []) (b := [(q, .inl (dA 0, (N, .inl fun j => if j < N then v else f j)))]) (c := ws) hP2) (va_D.swap (a := []) (b := [(q, .inl (dA 0, (N, .inl fun j => if j < N then v else f j)))]) (c := ws) hD2) hS1
end INI
