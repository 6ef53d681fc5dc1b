/-! CONSTRUCTORS: the model, written by wip/whole/gen_init3.py -/
theorem ap_get {X Y : va_W} {x : Nat × va_E} : ((X ++ [x]) ++ Y)[X.length]? = some x := by
  rw [List.getElem?_append_left (by rw [List.length_append]; exact Nat.lt_succ_self _), List.getElem?_append_right (Nat.le_refl _), Nat.sub_self]
  rfl
theorem ap_set {X Y : va_W} {x y : Nat × va_E} : ((X ++ [x]) ++ Y).set X.length y = (X ++ [y]) ++ Y := by
  rw [List.set_append_left _ _ (by rw [List.length_append]; exact Nat.lt_succ_self _), List.set_append_right _ _ (Nat.le_refl _), Nat.sub_self]
  rfl
theorem x10_e {G : va_G} {dA : Nat → ClassId} {dS : Nat} {p : Program} {l : Launch} {e : Env} {R : Room} {s : State} {m : MethodId} {args : Array Value} {below : List Frame} {meth : Method} {c : Code} {H : Heap} {locs : List Loc} {cells slots : Nat} {Q : State → Prop} {A : Nat → Prop} {ls : Array Slot} {h0 q : Nat} {F Y : va_W} {fs : List Value} (cx : iCx G dA dS cX10_init RX10 2 p s m args meth c) (hl : lv_has ls 2 [(0, .ref h0)]) (hfs : fs[32]? = some (.ref q)) (hP : va_P G zCl ((((h0, .inr (z_oc 11, fs)) :: F) ++ [(q, .inl (dA 0, (1392, .inl fun _ => 0)))]) ++ Y) H) (hD : va_D A ((((h0, .inr (z_oc 11, fs)) :: F) ++ [(q, .inl (dA 0, (1392, .inl fun _ => 0)))]) ++ Y)) (hS : va_S A s.heap H locs)
    (kk : ∀ (H1 : Heap) (locs1 : List Loc) (ls1 : Array Slot), va_P G zCl ((((h0, .inr (z_oc 11, fs)) :: F) ++ [(q, .inl (dA 0, (1392, .inl (saidF 8))))]) ++ Y) H1 → va_D A ((((h0, .inr (z_oc 11, fs)) :: F) ++ [(q, .inl (dA 0, (1392, .inl (saidF 8))))]) ++ Y) → va_S A s.heap H1 locs1 → W p l e R s m args below meth c H1 locs1 cells slots Q (F0 m 291 ls1 [])) : W p l e R s m args below meth c H locs cells slots Q (F0 m 260 ls []) := by
  refine lv_aload_n cx.1 cx.2.1 dX10_init_260 rfl (lv_at hl 0 rfl) ?_
  refine va_get cx.1 cx.2.1 cx.2.2.2.2.1 ob_X10.2.2.2.1 cx.2.2.2.1 cx.2.2.2.2.2.1 hP 0 rfl ob_X10.1 32 (Nat.le_of_ble_eq_true rfl) (ref := RX10) (cx.2.2.2.2.1 _ kn_X10_f78) (fun _ h9 => h9) hfs dX10_init_261 ?_
  refine lv_iconst (v := nI 0) cx.1 cx.2.1 dX10_init_264 (by decide) ?_
  refine lv_iconst (v := -1) cx.1 cx.2.1 dX10_init_265 (by decide) ?_
  refine va_iast cx.1 cx.2.1 cx.2.2.2.2.2.1 hP hD hS _ 0 ap_get rfl (vp_in_nI (by decide) (by decide)) dX10_init_266 (fun H locs hP hD hS => ?_)
  rw [saidF_0, ap_set] at hP hD
  refine W.eq (g2 := F0 m 267 ls []) rfl ?_
  refine lv_sipush (v := nI (1382 + 0)) cx.1 cx.2.1 dX10_init_267 (by decide) ?_
  refine lv_istore_n (lv' := [(1, .int (nI (1382 + 0))), (0, .ref h0)]) cx.1 cx.2.1 dX10_init_270 rfl hl (by decide) rfl (fun ls hl => ?_)
  exact said_loop (ws := fun f => (((h0, .inr (z_oc 11, fs)) :: F) ++ [(q, .inl (dA 0, (1392, .inl f)))]) ++ Y) cx (fun _ => rfl) hfs (fun _ => ap_get) (fun _ _ => ap_set) kn_X10_f78 (fun H locs ls hP hD hS => kk H locs ls hP hD hS) 8 0 H locs ls rfl hP hD hS hl
def fs10 : List Value := [.null, .int 0, .null, .null, .null, .null, .null, .null, .null, .null, .null, .null, .null, .null, .null, .null, .null, .null, .int 0, .int 0, .int 0, .int 0, .int 0, .int 0, .int 0, .null, .int 0, .null, .null, .null, .int 0, .null, .null, .null, .null, .int 0, .long 0, .long 0, .int 0, .int 0, .null, .null, .null, .long 0, .int 0, .int 0, .int 0, .int 0, .int 0, .int 0, .int 0, .int 0, .int 0, .int 0, .null, .null, .null]
theorem fs10_n : fs10.length = 57 := rfl
abbrev FS10 (u : Nat → Nat) : List Value := (((((((((((((((((((((((((((((((fs10.set 0 (.ref (u 0))).set 2 (.ref (u 1))).set 3 (.ref (u 2))).set 4 (.ref (u 3))).set 5 (.ref (u 4))).set 6 (.ref (u 5))).set 7 (.ref (u 6))).set 8 (.ref (u 7))).set 9 (.ref (u 8))).set 10 (.ref (u 9))).set 11 (.ref (u 10))).set 12 (.ref (u 11))).set 13 (.ref (u 12))).set 14 (.ref (u 13))).set 15 (.ref (u 14))).set 16 (.ref (u 15))).set 17 (.ref (u 16))).set 25 (.ref (u 17))).set 27 (.ref (u 18))).set 28 (.ref (u 19))).set 29 (.ref (u 20))).set 31 (.ref (u 21))).set 32 (.ref (u 22))).set 33 (.ref (u 23))).set 34 (.ref (u 24))).set 40 (.ref (u 25))).set 41 (.ref (u 26))).set 42 (.ref (u 27))).set 54 (.ref (u 28))).set 55 (.ref (u 29))).set 56 (.ref (u 30)))
abbrev LX10 (dA : Nat → ClassId) (h0 : Nat) (u : Nat → Nat) : va_W := (h0, .inr (z_oc 11, FS10 u)) :: (zai (zai (zai (zai (zai (zai (zai (zai (zaf (zaj (zaj (zai (zai (zai (zai (zai (zai (zai (zai (zai (zai (zai (zai (zai (zai (zai (zai (zai (zai (zai (zai ([]) (u 0) (dA 1) 400) (u 1) (dA 0) 3) (u 2) (dA 0) 4800) (u 3) (dA 0) 16) (u 4) (dA 0) 720) (u 5) (dA 0) 16) (u 6) (dA 0) 16) (u 7) (dA 0) 16) (u 8) (dA 0) 16) (u 9) (dA 0) 16) (u 10) (dA 0) 16) (u 11) (dA 0) 16) (u 12) (dA 0) 16) (u 13) (dA 0) 16) (u 14) (dA 0) 4) (u 15) (dA 0) 48) (u 16) (dA 0) 3456) (u 17) (dA 0) 400) (u 18) (dA 0) 144) (u 19) (dA 0) 144) (u 20) (dA 3) 64) (u 21) (dA 3) 10) (u 22) (dA 0) 1392 (saidF 8)) (u 23) (dA 0) 576) (u 24) (dA 0) 576) (u 25) (dA 0) 7) (u 26) (dA 0) 7) (u 27) (dA 0) 144) (u 28) (dA 0) 3) (u 29) (dA 0) 5568) (u 30) (dA 2) 4)
theorem ap8 {F : va_W} {o s a1 a2 a3 a4 a5 a6 a7 a8 : Nat × va_E} : o :: (((((((((F ++ [s]) ++ [a1]) ++ [a2]) ++ [a3]) ++ [a4]) ++ [a5]) ++ [a6]) ++ [a7]) ++ [a8]) = ((o :: F) ++ [s]) ++ [a1, a2, a3, a4, a5, a6, a7, a8] := by simp only [List.append_assoc, List.cons_append, List.nil_append]
theorem set8 {fs : List Value} {v b1 b2 b3 b4 b5 b6 b7 b8 : Value} (h : fs.length = 57) : ((((((((((fs.set 32 v).set 33 b1).set 34 b2).set 40 b3).set 41 b4).set 42 b5).set 54 b6).set 55 b7).set 56 b8))[32]? = some v := by rw [List.getElem?_set_ne (i := 56) (j := 32) (by decide), List.getElem?_set_ne (i := 55) (j := 32) (by decide), List.getElem?_set_ne (i := 54) (j := 32) (by decide), List.getElem?_set_ne (i := 42) (j := 32) (by decide), List.getElem?_set_ne (i := 41) (j := 32) (by decide), List.getElem?_set_ne (i := 40) (j := 32) (by decide), List.getElem?_set_ne (i := 34) (j := 32) (by decide), List.getElem?_set_ne (i := 33) (j := 32) (by decide), List.getElem?_set_self (by rw [h]; decide)]
theorem kn_X10_o : Cond.methodLink RX10 1 Lib.objectInit ∈ zTB := (zTB_in (List.mem_of_getElem? (i := 1142) (by decide +kernel)) (by decide +kernel))
theorem kn_X10_c : Cond.code yX10_init cX10_init 2 none ∈ zTB := (zTB_in (List.mem_of_getElem? (i := 1141) (by decide +kernel)) (by decide +kernel))
theorem kn_X10_i : Cond.initialized yX10_init.cls ∈ zTB := (zTB_in (List.mem_of_getElem? (i := 120) (by decide +kernel)) (by decide +kernel))
theorem kn_X10_m : Cond.instanceMethod yX10_init ∈ zTB := (zTB_in (List.mem_of_getElem? (i := 1140) (by decide +kernel)) (by decide +kernel))
theorem kn_X10_s : Cond.instantiable RX10 57 ∈ zTB := (zTB_in (List.mem_of_getElem? (i := 1138) (by decide +kernel)) (by decide +kernel))
set_option maxHeartbeats 1000000 in
theorem n_X10 {G : va_G} {dA : Nat → ClassId} {dS : Nat} {l : Launch} (h0 sz : Nat) : Met l yX10_init (Cond.code yX10_init cX10_init 2 none :: zTB) ({ frames := 1, cells := 31, slots := 18630, locals := 12 }) (iPc G dA dS h0 sz (z_oc 11) fs10 []) (iQc G h0 sz (z_oc 11) fs10 (LX10 dA h0)) 31 18630 (va_A [(h0, .inr (z_oc 11, fs10))] sz) := by
  refine i_met (by decide) rfl (Nat.le_of_ble_eq_true rfl) ?_
  intro p e s m args below meth c Q A ls cx hA hl hP hD hfin
  have hl : lv_has ls 2 [(0, .ref h0)] := hl
  have hS : va_S A s.heap s.heap [] := va_S.rf
  refine i_obj cx hl kn_X10_o dX10_init_0 dX10_init_1 ⟨Nat.le_of_ble_eq_true rfl, Nat.le_of_ble_eq_true rfl⟩ ?_
  have hP : va_P G zCl ((h0, .inr (z_oc 11, fs10)) :: []) s.heap := hP
  have hD : va_D A ((h0, .inr (z_oc 11, fs10)) :: []) := hD
  refine x10_0 cx hl hA fs10_n (Nat.le_of_ble_eq_true rfl) (Nat.le_of_ble_eq_true rfl) hP hD hS (fun q1 q2 q3 q4 q5 q6 q7 q8 H locs hn0 hP hD hS => ?_)
  refine x10_1 cx hl hA hn0 (Nat.le_of_ble_eq_true rfl) (Nat.le_of_ble_eq_true rfl) hP hD hS (fun q9 q10 q11 q12 q13 q14 q15 q16 H locs hn1 hP hD hS => ?_)
  refine x10_2 cx hl hA hn1 (Nat.le_of_ble_eq_true rfl) (Nat.le_of_ble_eq_true rfl) hP hD hS (fun q17 q18 q19 q20 q21 q22 H locs hn2 hP hD hS => ?_)
  refine x10_3 cx hl hA hn2 (Nat.le_of_ble_eq_true rfl) (Nat.le_of_ble_eq_true rfl) hP hD hS (fun q23 H locs hn3 hP hD hS => ?_)
  refine x10_4 cx hl hA hn3 (Nat.le_of_ble_eq_true rfl) (Nat.le_of_ble_eq_true rfl) hP hD hS (fun q24 q25 q26 q27 q28 q29 q30 q31 H locs hn4 hP hD hS => ?_)
  rw [ap8] at hP hD
  refine x10_e cx hl (set8 hn2) hP hD hS (fun H locs ls hP hD hS => ?_)
  rw [← ap8] at hP hD
  refine W.widen (k := 31) (n := 18630) (Nat.le_of_ble_eq_true rfl) (Nat.le_of_ble_eq_true rfl) ?_
  exact hfin _ _ _ _ (fun k => if k = 0 then q1 else if k = 1 then q2 else if k = 2 then q3 else if k = 3 then q4 else if k = 4 then q5 else if k = 5 then q6 else if k = 6 then q7 else if k = 7 then q8 else if k = 8 then q9 else if k = 9 then q10 else if k = 10 then q11 else if k = 11 then q12 else if k = 12 then q13 else if k = 13 then q14 else if k = 14 then q15 else if k = 15 then q16 else if k = 16 then q17 else if k = 17 then q18 else if k = 18 then q19 else if k = 19 then q20 else if k = 20 then q21 else if k = 21 then q22 else if k = 22 then q23 else if k = 23 then q24 else if k = 24 then q25 else if k = 25 then q26 else if k = 26 then q27 else if k = 27 then q28 else if k = 28 then q29 else if k = 29 then q30 else if k = 30 then q31 else 0) dX10_init_291 hP hD hS
