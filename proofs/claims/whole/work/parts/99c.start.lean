/-! THE LAW FROM ITS ENTRY; written by wip/whole/gen_start.py -/
section LAW
variable {G : va_G} {dA : Nat → ClassId} {dS : Nat} {p : Program} {l : Launch} {e : Env} {s : State} {m : MethodId} {below : List Frame} {meth : Method} {c : Code} {b L : Nat} {xs : Nat → Int32} {H : Heap} {locs : List Loc} {cells slots pc : Nat} {Q : State → Prop} {ls : Array Slot} {ws : va_W} {rest : List Value}
/-- new, dup, a making, in the law -/
theorem lw_new {S : Type} {y : MethodName} {cc' : ByteArray} {maxL' mc ms idx1 idx2 c' N' : Nat} {C' : String} {T' : u_T} {ty' : Nat → FieldType} {rm : Room} {fs : List Value} {LL : Nat → S → va_W} {lv : List (Nat × Value)} (C0 : lw_At p s m meth c b L xs) (hK : va_K G zCl (zk dA) s) (hN : XN dS s) (ob : z_OB c' C' T' N' ty')
    (hM : ∀ q sz : Nat, Met l y (Cond.code y cc' maxL' none :: zTB) rm (iPc G dA dS q sz (z_oc c') fs []) (iQc G q sz (z_oc c') fs (LL q)) mc ms (va_A [(q, .inr (z_oc c', fs))] sz)) (hy : y.name = "<init>") (hwc : Cond.code y cc' maxL' none ∈ zTB) (hwi : Cond.initialized y.cls ∈ zTB) (hwm : Cond.instanceMethod y ∈ zTB) (hwl : Cond.methodLink R_law idx2 y ∈ zTB) (hyc : y.cls = C') (hwk : Cond.classLink R_law idx1 C' ∈ zTB) (hws : Cond.instantiable C' N' ∈ zTB)
    (hd : y.cls ≠ "java/lang/invoke/MethodHandle" ∧ y.cls ≠ "java/lang/invoke/VarHandle" ∧ (parseMethodDescriptor y.desc).map (fun d => d.parameters.length) = some 0) (hfs : ∀ j, j < N' → defaultValue (ty' j) = vp_V fs j) (hrm : rm.cells = mc ∧ rm.slots = ms) (hR : rm.frames + 1 ≤ room_1.frames ∧ 8 + (maxL' + 11) + rm.locals ≤ room_1.locals) (hcs : cells + 1 + mc ≤ room_1.cells ∧ slots + N' + ms ≤ room_1.slots)
    (hl : lv_has ls 4 lv) (hP : va_P G zCl ws H) (hD : va_D (lw_A s) ws) (hS : va_S (lw_A s) s.heap H locs) (hst : ∀ q : Nat, (((Value.ref q) :: rest).map fun v => v.category).sum ≤ 8) (d0 : decode code pc = .ok (.new idx1, 3)) (d1 : decode code (pc + 3) = .ok (.dup, 1)) (d2 : decode code (pc + 3 + 1) = .ok (.invokespecial idx2, 3))
    (kk : ∀ (q : Nat) (u : S) (H1 : Heap) (locs1 : List Loc), va_P G zCl (ws ++ LL q u) H1 → va_D (lw_A s) (ws ++ LL q u) → va_S (lw_A s) s.heap H1 locs1 → W p l e room_1 s m #[Value.ref b] below meth c H1 locs1 (cells + 1 + mc) (slots + N' + ms) Q (F0 m (pc + 3 + 1 + 3) ls (.ref q :: rest))) : W p l e room_1 s m #[Value.ref b] below meth c H locs cells slots Q (F0 m pc ls rest) := by
  obtain ⟨hx, hb, -, hml, hown, hts0, -, -, -, -⟩ := C0
  have hts : ∀ q ∈ zTB, q.before #[Value.ref b] s = true := fun q hq => hts0 q (List.mem_filter.mp hq).1
  have hA : ∀ q : Nat, s.heap.size ≤ q → lw_A s q := fun q h => h
  refine va_new hx hb hts ob.2.2.2.1 ty' ob.2.2.2.2.1 hown (hts _ hwk) (hts _ hws) (hts _ (hyc ▸ hwi)) hK hP hD hS hA ob.1 hfs (by omega) (by omega) d0 (fun q0 H hP hD hS => ?_)
  refine lv_dup hx hb d1 rfl ?_
  have hP0 : va_P G zCl ([(q0, .inr (z_oc c', fs))] ++ ws) H := va_P.swap (a := []) (b := ws) (c := [(q0, .inr (z_oc c', fs))]) hP
  have hD0 : va_D (lw_A s) ([(q0, .inr (z_oc c', fs))] ++ ws) := va_D.swap (a := []) (b := ws) (c := [(q0, .inr (z_oc c', fs))]) hD
  have hPc : va_P G zCl [(q0, .inr (z_oc c', fs))] H := hP0.sub [0] rfl
  have hDc : va_D (lw_A s) [(q0, .inr (z_oc c', fs))] := hD0.sub [0] (by decide) rfl
  have hFc : ∀ q, va_A [(q0, .inr (z_oc c', fs))] H.size q → lw_A s q := va_free (wc := [(q0, .inr (z_oc c', fs))]) hD0 hS hA [0] rfl
  have hp : PreS s H (iPc G dA dS q0 H.size (z_oc c') fs []) (.ref q0 :: []) := ⟨i_blind, fun U hU hW => ⟨rfl, by rw [hU], by rw [hU]; exact hPc, hDc.weaken (fun _ _ _ _ => trivial), va_K.moved hW.alike hK, XN.warm hN hW⟩⟩
  have hr : va_Run p l e room_1 s m #[Value.ref b] below meth c H locs (cells + 1) (slots + N') mc ms (F0 m (pc + 3 + 1) ls (.ref q0 :: .ref q0 :: rest)) (.ref q0 :: rest) (iQc G q0 H.size (z_oc c') fs (LL q0) (Value.ref q0 :: []).toArray) (va_A [(q0, .inr (z_oc c', fs))] H.size) :=
    va_runI (As := []) ⟨hx, hb, hml, hown, hts⟩ (hM q0 H.size) ⟨callB_of 0 hts (z_init_good hwc) rfl hrm.1 hrm.2 (hts _ hwi) (hts _ hwl) hd hR, hy, hts _ hwm⟩ hp rfl rfl hl.1 rfl (lv_room (hst q0)) d2 hcs
  refine va_callv hr hS (fun q _ h => hFc q h) hFc (fun u t H1 locs1 ht hvm hw hB hz1 hk1 hS1 => ?_)
  obtain ⟨hP1, hD1⟩ := hB
  rw [ht] at hP1
  obtain ⟨hP2, hD2⟩ := va_joinQ (X := [(q0, .inr (z_oc c', fs))]) (cx := [(q0, .inr (z_oc c', fs))]) (wr := []) (w1 := LL q0 u) (pl := ws) hP0 hD0 [0] [] rfl rfl (by decide) (by decide) hk1 hFc hP1 hD1
  exact kk q0 u H1 locs1 (va_P.swap (a := []) (b := LL q0 u) (c := ws) hP2) (va_D.swap (a := []) (b := LL q0 u) (c := ws) hD2) hS1
end LAW
theorem kl_7 : Cond.classLink R_law 7 RX9 ∈ zTB := (zTB_in (List.mem_of_getElem? (i := 128) (by decide +kernel)) (by decide +kernel))
theorem kl_10 : Cond.classLink R_law 10 RX10 ∈ zTB := (zTB_in (List.mem_of_getElem? (i := 1137) (by decide +kernel)) (by decide +kernel))
theorem kl_9 : Cond.methodLink R_law 9 yX9_init ∈ zTB := (zTB_in (List.mem_of_getElem? (i := 130) (by decide +kernel)) (by decide +kernel))
theorem kl_12 : Cond.methodLink R_law 12 yX10_init ∈ zTB := (zTB_in (List.mem_of_getElem? (i := 1139) (by decide +kernel)) (by decide +kernel))
set_option maxHeartbeats 4000000 in
set_option maxRecDepth 100000 in
/-- THE LAW, from its entry -/
theorem whole_start {p : Program} {e : Env} {s : State} {m : MethodId} {below : List Frame} {meth : Method} {c : Code} (l : Launch) (hflags : l.flags = flags0) {b L : Nat} {xs : Nat → Int32} (hL : L ≤ 4608) (C0 : lw_At p s m meth c b L xs) : W p l e room_1 s m #[Value.ref b] below meth c s.heap [] 0 0 (lw_Z below #[Value.ref b] s) (entryFrame m ([Value.ref b] : List Value).toArray 4) := by
  obtain ⟨hx, hb, hr, hml, hown, hts0, hX, hbl, hlocks, hgv⟩ := id C0
  have hz : ∀ q ∈ zTB, q.before #[Value.ref b] s = true := fun q hq => hts0 q (List.mem_filter.mp hq).1
  have hnA : ∀ a : Nat, a < s.heap.size → ¬ lw_A s a := fun a h q => absurd q (Nat.not_le.mpr h)
  obtain ⟨G, dA, hK⟩ := st_K hz hts0
  obtain ⟨adK, adV, hSt, he⟩ := st_str hgv hnA
  have hN : XN (adK 0) s := st_N hts0 he
  have hS : va_S (lw_A s) s.heap s.heap [] := va_S.rf
  have hP : va_P G zCl [] s.heap := fun k q h => by simp at h
  have hD : va_D (lw_A s) [] := ⟨fun i j p q h => by simp at h, fun k q h => by simp at h⟩
  have hl := lv_entry ([.ref b]) (n := 4) (Nat.le_of_ble_eq_true rfl)
  rw [lg_entry_eq]
  generalize (lg_sl ([.ref b]) ++ List.replicate (4 - (lg_sl ([.ref b])).length) Slot.unset).toArray = ls at hl ⊢
  have hl : lv_has ls 4 [(0, .ref b)] := hl
  refine lw_new (LL := LX9 dA (adK 0)) C0 hK hN ob_X9 (fun q sz => n_X9 q sz) rfl kn_X9_c kn_X9_i kn_X9_m kl_9 rfl kl_7 kn_X9_s ⟨by decide, by decide, by decide +kernel⟩ (fun j hj => by rcases (show j = 0 ∨ j = 1 ∨ j = 2 ∨ j = 3 ∨ j = 4 ∨ j = 5 ∨ j = 6 ∨ j = 7 ∨ j = 8 ∨ j = 9 ∨ j = 10 ∨ j = 11 ∨ j = 12 ∨ j = 13 ∨ j = 14 by omega) with rfl | rfl | rfl | rfl | rfl | rfl | rfl | rfl | rfl | rfl | rfl | rfl | rfl | rfl | rfl <;> rfl) ⟨rfl, rfl⟩ ⟨Nat.le_of_ble_eq_true rfl, Nat.le_of_ble_eq_true rfl⟩ ⟨Nat.le_of_ble_eq_true rfl, Nat.le_of_ble_eq_true rfl⟩ hl hP hD hS (fun _ => Nat.le_of_ble_eq_true rfl) dL_law_0 dL_law_3 dL_law_4 (fun q1 z1 H locs hP hD hS => ?_)
  refine lv_astore_n (lv' := [(1, .ref q1), (0, .ref b)]) hx hb dL_law_7 rfl hl (by decide) rfl (fun ls hl => ?_)
  refine W.eq (g2 := F0 m 8 ls []) rfl ?_
  refine lw_new (LL := LX10 dA) C0 hK hN ob_X10 (fun q sz => n_X10 q sz) rfl kn_X10_c kn_X10_i kn_X10_m kl_12 rfl kl_10 kn_X10_s ⟨by decide, by decide, by decide +kernel⟩ (fun j hj => by rcases (show j = 0 ∨ j = 1 ∨ j = 2 ∨ j = 3 ∨ j = 4 ∨ j = 5 ∨ j = 6 ∨ j = 7 ∨ j = 8 ∨ j = 9 ∨ j = 10 ∨ j = 11 ∨ j = 12 ∨ j = 13 ∨ j = 14 ∨ j = 15 ∨ j = 16 ∨ j = 17 ∨ j = 18 ∨ j = 19 ∨ j = 20 ∨ j = 21 ∨ j = 22 ∨ j = 23 ∨ j = 24 ∨ j = 25 ∨ j = 26 ∨ j = 27 ∨ j = 28 ∨ j = 29 ∨ j = 30 ∨ j = 31 ∨ j = 32 ∨ j = 33 ∨ j = 34 ∨ j = 35 ∨ j = 36 ∨ j = 37 ∨ j = 38 ∨ j = 39 ∨ j = 40 ∨ j = 41 ∨ j = 42 ∨ j = 43 ∨ j = 44 ∨ j = 45 ∨ j = 46 ∨ j = 47 ∨ j = 48 ∨ j = 49 ∨ j = 50 ∨ j = 51 ∨ j = 52 ∨ j = 53 ∨ j = 54 ∨ j = 55 ∨ j = 56 by omega) with rfl | rfl | rfl | rfl | rfl | rfl | rfl | rfl | rfl | rfl | rfl | rfl | rfl | rfl | rfl | rfl | rfl | rfl | rfl | rfl | rfl | rfl | rfl | rfl | rfl | rfl | rfl | rfl | rfl | rfl | rfl | rfl | rfl | rfl | rfl | rfl | rfl | rfl | rfl | rfl | rfl | rfl | rfl | rfl | rfl | rfl | rfl | rfl | rfl | rfl | rfl | rfl | rfl | rfl | rfl | rfl | rfl <;> rfl) ⟨rfl, rfl⟩ ⟨Nat.le_of_ble_eq_true rfl, Nat.le_of_ble_eq_true rfl⟩ ⟨Nat.le_of_ble_eq_true rfl, Nat.le_of_ble_eq_true rfl⟩ hl hP hD hS (fun _ => Nat.le_of_ble_eq_true rfl) dL_law_8 dL_law_11 dL_law_12 (fun q2 u2 H locs hP hD hS => ?_)
  refine lv_astore_n (lv' := [(2, .ref q2), (1, .ref q1), (0, .ref b)]) hx hb dL_law_15 rfl hl (by decide) rfl (fun ls hl => ?_)
  refine lv_iconst (v := nI 0) hx hb dL_law_16 (by decide) ?_
  refine lv_istore_n (lv' := [(3, .int (nI 0)), (2, .ref q2), (1, .ref q1), (0, .ref b)]) hx hb dL_law_17 rfl hl (by decide) rfl (fun ls hl => ?_)
  refine W.eq (g2 := F0 m 18 ls []) rfl ?_
  obtain ⟨hRel, hAd⟩ := rel00 (G := G) (dA := dA) (dh := q1) (m0 := q2) (z := z1) (v := u2) (adK := adK) (adV := adV) hP hD
  have C1 : lw_C (eF G dA q1 q2 z1 u2 adK adV) adV p s m meth c b L xs := ⟨C0, hK, hAd, st_OK hts0 hgv hnA hSt he, hL⟩
  refine W.widen (k := 229) (n := 50802) (Nat.le_of_ble_eq_true rfl) (Nat.le_of_ble_eq_true rfl) ?_
  exact law_loop C1 ⟨Nat.le_of_ble_eq_true rfl, Nat.le_of_ble_eq_true rfl⟩ (L + 10) 0 (fun _ => []) (fun _ => []) w00 H locs ls (by omega) (by omega) sim00 hRel hS (lv_sub hl [3, 2, 1, 0] rfl)
