/-! CONSTRUCTORS: State, Rows, written by wip/whole/gen_init3.py -/
theorem kn_X7_o : Cond.methodLink RX7 3 Lib.objectInit ∈ zTB := (zTB_in (List.mem_of_getElem? (i := 215) (by decide +kernel)) (by decide +kernel))
theorem kn_X7_f12 : Cond.fieldLink RX7 12 RX7 (TX7 7).2.1 (TX7 7).2.2.1 ∈ zTB := (zTB_in (List.mem_of_getElem? (i := 255) (by decide +kernel)) (by decide +kernel))
theorem kn_X7_k9 : Cond.classLink RX7 9 RX3 ∈ zTB := (zTB_in (List.mem_of_getElem? (i := 216) (by decide +kernel)) (by decide +kernel))
theorem kn_X7_f18 : Cond.fieldLink RX7 18 RX7 (TX7 8).2.1 (TX7 8).2.2.1 ∈ zTB := (zTB_in (List.mem_of_getElem? (i := 257) (by decide +kernel)) (by decide +kernel))
theorem kn_X7_f22 : Cond.fieldLink RX7 22 RX7 (TX7 9).2.1 (TX7 9).2.2.1 ∈ zTB := (zTB_in (List.mem_of_getElem? (i := 258) (by decide +kernel)) (by decide +kernel))
theorem kn_X7_f25 : Cond.fieldLink RX7 25 RX7 (TX7 10).2.1 (TX7 10).2.2.1 ∈ zTB := (zTB_in (List.mem_of_getElem? (i := 260) (by decide +kernel)) (by decide +kernel))
theorem kn_X7_fill : Cond.methodLink RX7 28 yJ7_fill_53178 ∈ zTB := (zTB_in (List.mem_of_getElem? (i := 241) (by decide +kernel)) (by decide +kernel))
abbrev LX7 (dA : Nat → ClassId) (h0 : Nat) (u : Nat → Nat) : va_W := (h0, .inr (z_oc 8, [.int 0, .int 0, .int 0, .int 0, .int 0, .int 0, .int 0, .ref (u 0), .ref (u 2), .ref (u 3), .ref (u 4)])) :: ((((([]) ++ LX3 dA (u 0) (fun k => u (k + 1))) ++ [(u 2, .inl (dA 0, (200, .inl fun _ => 0)))]) ++ [(u 3, .inl (dA 0, (200, .inl fun _ => 0)))]) ++ [(u 4, .inl (dA 0, (8, .inl fun j => if j < 8 then -1 else 0)))])
theorem kn_X7_c : Cond.code yX7_init cX7_init 1 none ∈ zTB := (zTB_in (List.mem_of_getElem? (i := 214) (by decide +kernel)) (by decide +kernel))
theorem kn_X7_i : Cond.initialized yX7_init.cls ∈ zTB := (zTB_in (List.mem_of_getElem? (i := 112) (by decide +kernel)) (by decide +kernel))
theorem kn_X7_m : Cond.instanceMethod yX7_init ∈ zTB := (zTB_in (List.mem_of_getElem? (i := 213) (by decide +kernel)) (by decide +kernel))
theorem kn_X7_s : Cond.instantiable RX7 11 ∈ zTB := (zTB_in (List.mem_of_getElem? (i := 211) (by decide +kernel)) (by decide +kernel))
set_option maxHeartbeats 1000000 in
set_option maxRecDepth 100000 in
theorem n_X7 {G : va_G} {dA : Nat → ClassId} {dS : Nat} {l : Launch} (h0 sz : Nat) : Met l yX7_init (Cond.code yX7_init cX7_init 1 none :: zTB) ({ frames := 2, cells := 5, slots := 988, locals := 32 }) (iPc G dA dS h0 sz (z_oc 8) [.int 0, .int 0, .int 0, .int 0, .int 0, .int 0, .int 0, .null, .null, .null, .null] []) (iQc G h0 sz (z_oc 8) [.int 0, .int 0, .int 0, .int 0, .int 0, .int 0, .int 0, .null, .null, .null, .null] (LX7 dA h0)) 5 988 (va_A [(h0, .inr (z_oc 8, [.int 0, .int 0, .int 0, .int 0, .int 0, .int 0, .int 0, .null, .null, .null, .null]))] sz) := by
  refine i_met (by decide) rfl (Nat.le_of_ble_eq_true rfl) ?_
  intro p e s m args below meth c Q A ls cx hA hl hP hD hfin
  have hl : lv_has ls 1 [(0, .ref h0)] := hl
  have hS : va_S A s.heap s.heap [] := va_S.rf
  refine i_obj cx hl kn_X7_o dX7_init_0 dX7_init_1 ⟨Nat.le_of_ble_eq_true rfl, Nat.le_of_ble_eq_true rfl⟩ ?_
  have hP : va_P G zCl ((h0, .inr (z_oc 8, [.int 0, .int 0, .int 0, .int 0, .int 0, .int 0, .int 0, .null, .null, .null, .null])) :: ([])) s.heap := hP
  have hD : va_D A ((h0, .inr (z_oc 8, [.int 0, .int 0, .int 0, .int 0, .int 0, .int 0, .int 0, .null, .null, .null, .null])) :: ([])) := hD
  refine lv_aload_n cx.1 cx.2.1 dX7_init_4 rfl (lv_at hl 0 rfl) ?_
  refine i_new (L := LX3 dA) cx ob_X3 (fun q sz => n_X3 q sz) rfl kn_X3_c kn_X3_i kn_X3_m (Or.inr (by decide)) rfl kn_X7_k9 kn_X3_s ⟨by decide, by decide, by decide +kernel⟩ (fun j hj => by rcases (show j = 0 ∨ j = 1 ∨ j = 2 ∨ j = 3 by omega) with rfl | rfl | rfl | rfl <;> rfl) ⟨rfl, rfl⟩ ⟨Nat.le_of_ble_eq_true rfl, Nat.le_of_ble_eq_true rfl⟩ ⟨Nat.le_of_ble_eq_true rfl, Nat.le_of_ble_eq_true rfl⟩ hl hP hD hS hA (fun _ => Nat.le_of_ble_eq_true rfl) dX7_init_5 dX7_init_8 dX7_init_9 (fun q1 u1 H locs hP hD hS => ?_)
  refine i_putF cx ob_X7 hP hD hS 7 (Nat.le_of_ble_eq_true rfl) kn_X7_f12 rfl rfl rfl rfl rfl (Nat.le_of_ble_eq_true rfl) dX7_init_12 (fun H locs hP hD hS => ?_)
  have hP : va_P G zCl ((h0, .inr (z_oc 8, [.int 0, .int 0, .int 0, .int 0, .int 0, .int 0, .int 0, .ref q1, .null, .null, .null])) :: (([]) ++ LX3 dA q1 u1)) H := hP
  have hD : va_D A ((h0, .inr (z_oc 8, [.int 0, .int 0, .int 0, .int 0, .int 0, .int 0, .int 0, .ref q1, .null, .null, .null])) :: (([]) ++ LX3 dA q1 u1)) := hD
  refine W.eq (g2 := F0 m 15 ls []) rfl ?_
  refine i_arr (b := 3) cx ob_X7 hl hP hD hS hA (atype := .int) (aty := .int) (t0 := 0) rfl k_A0 rfl (fun _ _ h => h) (n := 200) (N := 200) (a0 := (200, .inl fun _ => 0)) (fun cA => aI cA 200) (by decide) (by decide +kernel) (Nat.le_of_ble_eq_true rfl) (Nat.le_of_ble_eq_true rfl) (Nat.le_of_ble_eq_true rfl) 8 (Nat.le_of_ble_eq_true rfl) kn_X7_f18 rfl rfl rfl (fun _ => rfl) (fun _ => rfl) (Nat.le_of_ble_eq_true rfl) dX7_init_15 (fun st k => lv_sipush (v := 200) cx.1 cx.2.1 dX7_init_16 (by decide) k) dX7_init_19 dX7_init_21 (fun q2 H locs hP hD hS => ?_)
  have hP : va_P G zCl ((h0, .inr (z_oc 8, [.int 0, .int 0, .int 0, .int 0, .int 0, .int 0, .int 0, .ref q1, .ref q2, .null, .null])) :: ((([]) ++ LX3 dA q1 u1) ++ [(q2, .inl (dA 0, (200, .inl fun _ => 0)))])) H := hP
  have hD : va_D A ((h0, .inr (z_oc 8, [.int 0, .int 0, .int 0, .int 0, .int 0, .int 0, .int 0, .ref q1, .ref q2, .null, .null])) :: ((([]) ++ LX3 dA q1 u1) ++ [(q2, .inl (dA 0, (200, .inl fun _ => 0)))])) := hD
  refine W.eq (g2 := F0 m 24 ls []) rfl ?_
  refine i_arr (b := 3) cx ob_X7 hl hP hD hS hA (atype := .int) (aty := .int) (t0 := 0) rfl k_A0 rfl (fun _ _ h => h) (n := 200) (N := 200) (a0 := (200, .inl fun _ => 0)) (fun cA => aI cA 200) (by decide) (by decide +kernel) (Nat.le_of_ble_eq_true rfl) (Nat.le_of_ble_eq_true rfl) (Nat.le_of_ble_eq_true rfl) 9 (Nat.le_of_ble_eq_true rfl) kn_X7_f22 rfl rfl rfl (fun _ => rfl) (fun _ => rfl) (Nat.le_of_ble_eq_true rfl) dX7_init_24 (fun st k => lv_sipush (v := 200) cx.1 cx.2.1 dX7_init_25 (by decide) k) dX7_init_28 dX7_init_30 (fun q3 H locs hP hD hS => ?_)
  have hP : va_P G zCl ((h0, .inr (z_oc 8, [.int 0, .int 0, .int 0, .int 0, .int 0, .int 0, .int 0, .ref q1, .ref q2, .ref q3, .null])) :: (((([]) ++ LX3 dA q1 u1) ++ [(q2, .inl (dA 0, (200, .inl fun _ => 0)))]) ++ [(q3, .inl (dA 0, (200, .inl fun _ => 0)))])) H := hP
  have hD : va_D A ((h0, .inr (z_oc 8, [.int 0, .int 0, .int 0, .int 0, .int 0, .int 0, .int 0, .ref q1, .ref q2, .ref q3, .null])) :: (((([]) ++ LX3 dA q1 u1) ++ [(q2, .inl (dA 0, (200, .inl fun _ => 0)))]) ++ [(q3, .inl (dA 0, (200, .inl fun _ => 0)))])) := hD
  refine W.eq (g2 := F0 m 33 ls []) rfl ?_
  refine i_arr (b := 2) cx ob_X7 hl hP hD hS hA (atype := .int) (aty := .int) (t0 := 0) rfl k_A0 rfl (fun _ _ h => h) (n := 8) (N := 8) (a0 := (8, .inl fun _ => 0)) (fun cA => aI cA 8) (by decide) (by decide +kernel) (Nat.le_of_ble_eq_true rfl) (Nat.le_of_ble_eq_true rfl) (Nat.le_of_ble_eq_true rfl) 10 (Nat.le_of_ble_eq_true rfl) kn_X7_f25 rfl rfl rfl (fun _ => rfl) (fun _ => rfl) (Nat.le_of_ble_eq_true rfl) dX7_init_33 (fun st k => lv_bipush (v := 8) cx.1 cx.2.1 dX7_init_34 (by decide) k) dX7_init_36 dX7_init_38 (fun q4 H locs hP hD hS => ?_)
  have hP : va_P G zCl ((h0, .inr (z_oc 8, [.int 0, .int 0, .int 0, .int 0, .int 0, .int 0, .int 0, .ref q1, .ref q2, .ref q3, .ref q4])) :: ((((([]) ++ LX3 dA q1 u1) ++ [(q2, .inl (dA 0, (200, .inl fun _ => 0)))]) ++ [(q3, .inl (dA 0, (200, .inl fun _ => 0)))]) ++ [(q4, .inl (dA 0, (8, .inl fun _ => 0)))])) H := hP
  have hD : va_D A ((h0, .inr (z_oc 8, [.int 0, .int 0, .int 0, .int 0, .int 0, .int 0, .int 0, .ref q1, .ref q2, .ref q3, .ref q4])) :: ((((([]) ++ LX3 dA q1 u1) ++ [(q2, .inl (dA 0, (200, .inl fun _ => 0)))]) ++ [(q3, .inl (dA 0, (200, .inl fun _ => 0)))]) ++ [(q4, .inl (dA 0, (8, .inl fun _ => 0)))])) := hD
  refine W.eq (g2 := F0 m 41 ls []) rfl ?_
  refine lv_aload_n cx.1 cx.2.1 dX7_init_41 rfl (lv_at hl 0 rfl) ?_
  refine va_get cx.1 cx.2.1 cx.2.2.2.2.1 ob_X7.2.2.2.1 cx.2.2.2.1 cx.2.2.2.2.2.1 hP 0 rfl ob_X7.1 10 (Nat.le_of_ble_eq_true rfl) (ref := RX7) (cx.2.2.2.2.1 _ kn_X7_f25) (fun _ h9 => h9) rfl dX7_init_42 ?_
  refine lv_iconst (v := -1) cx.1 cx.2.1 dX7_init_45 (by decide) ?_
  have hP : va_P G zCl (((h0, .inr (z_oc 8, [.int 0, .int 0, .int 0, .int 0, .int 0, .int 0, .int 0, .ref q1, .ref q2, .ref q3, .ref q4])) :: ((((([]) ++ LX3 dA q1 u1) ++ [(q2, .inl (dA 0, (200, .inl fun _ => 0)))]) ++ [(q3, .inl (dA 0, (200, .inl fun _ => 0)))]))) ++ [(q4, .inl (dA 0, (8, .inl fun _ => 0)))]) H := hP
  have hD : va_D A (((h0, .inr (z_oc 8, [.int 0, .int 0, .int 0, .int 0, .int 0, .int 0, .int 0, .ref q1, .ref q2, .ref q3, .ref q4])) :: ((((([]) ++ LX3 dA q1 u1) ++ [(q2, .inl (dA 0, (200, .inl fun _ => 0)))]) ++ [(q3, .inl (dA 0, (200, .inl fun _ => 0)))]))) ++ [(q4, .inl (dA 0, (8, .inl fun _ => 0)))]) := hD
  refine i_fill cx kn_X7_fill (by decide) ⟨Nat.le_of_ble_eq_true rfl, Nat.le_of_ble_eq_true rfl⟩ ⟨Nat.le_of_ble_eq_true rfl, Nat.le_of_ble_eq_true rfl⟩ hl.1 hP hD hS hA dX7_init_46 (fun H locs hP hD hS => ?_)
  refine W.widen (k := 5) (n := 988) (Nat.le_of_ble_eq_true rfl) (Nat.le_of_ble_eq_true rfl) ?_
  exact hfin _ _ _ _ (fun k => if k = 0 then q1 else if k < 2 then u1 (k - 1) else if k = 2 then q2 else if k = 3 then q3 else if k = 4 then q4 else 0) dX7_init_49 hP hD hS
theorem kn_X5_o : Cond.methodLink RX5 3 Lib.objectInit ∈ zTB := (zTB_in (List.mem_of_getElem? (i := 293) (by decide +kernel)) (by decide +kernel))
theorem kn_X5_f11 : Cond.fieldLink RX5 11 RX5 (TX5 0).2.1 (TX5 0).2.2.1 ∈ zTB := (zTB_in (List.mem_of_getElem? (i := 297) (by decide +kernel)) (by decide +kernel))
theorem kn_X5_k9 : Cond.classLink RX5 9 RX3 ∈ zTB := (zTB_in (List.mem_of_getElem? (i := 294) (by decide +kernel)) (by decide +kernel))
theorem kn_X5_f17 : Cond.fieldLink RX5 17 RX5 (TX5 1).2.1 (TX5 1).2.2.1 ∈ zTB := (zTB_in (List.mem_of_getElem? (i := 298) (by decide +kernel)) (by decide +kernel))
theorem kn_X5_f21 : Cond.fieldLink RX5 21 RX5 (TX5 2).2.1 (TX5 2).2.2.1 ∈ zTB := (zTB_in (List.mem_of_getElem? (i := 300) (by decide +kernel)) (by decide +kernel))
abbrev PX5 (dA : Nat → ClassId) (h0 : Nat) (g : Nat → Nat) (f : Nat → Option Nat) : va_W := (h0, .inr (z_oc 6, [.ref (g 0), .ref (g 1), .ref (g 2)])) :: ((([] ++ [(g 0, .inl (dA 8, rfs 7 f))]) ++ [(g 1, .inl (dA 3, (7, .inr (.inl fun _ => 0))))]) ++ [(g 2, .inl (dA 3, (7, .inr (.inl fun _ => 0))))])
abbrev LX5 (dA : Nat → ClassId) (h0 : Nat) (a : (Nat → Nat) × (Nat → Nat) × (Nat → Nat → Nat)) : va_W := PX5 dA h0 a.1 (rf a.2.1 7) ++ ([] ++ zfl (fun j => LX3 dA (a.2.1 j) (a.2.2 j)) 7)
theorem kn_X5_c : Cond.code yX5_init cX5_init 2 none ∈ zTB := (zTB_in (List.mem_of_getElem? (i := 292) (by decide +kernel)) (by decide +kernel))
theorem kn_X5_i : Cond.initialized yX5_init.cls ∈ zTB := (zTB_in (List.mem_of_getElem? (i := 115) (by decide +kernel)) (by decide +kernel))
theorem kn_X5_m : Cond.instanceMethod yX5_init ∈ zTB := (zTB_in (List.mem_of_getElem? (i := 291) (by decide +kernel)) (by decide +kernel))
theorem kn_X5_s : Cond.instantiable RX5 3 ∈ zTB := (zTB_in (List.mem_of_getElem? (i := 289) (by decide +kernel)) (by decide +kernel))
set_option maxHeartbeats 1000000 in
set_option maxRecDepth 100000 in
theorem n_X5 {G : va_G} {dA : Nat → ClassId} {dS : Nat} {l : Launch} (h0 sz : Nat) : Met l yX5_init (Cond.code yX5_init cX5_init 2 none :: zTB) ({ frames := 2, cells := 17, slots := 4081, locals := 32 }) (iPc G dA dS h0 sz (z_oc 6) [.null, .null, .null] []) (iQc G h0 sz (z_oc 6) [.null, .null, .null] (LX5 dA h0)) 17 4081 (va_A [(h0, .inr (z_oc 6, [.null, .null, .null]))] sz) := by
  refine i_met (by decide) rfl (Nat.le_of_ble_eq_true rfl) ?_
  intro p e s m args below meth c Q A ls cx hA hl hP hD hfin
  have hl : lv_has ls 2 [(0, .ref h0)] := hl
  have hS : va_S A s.heap s.heap [] := va_S.rf
  refine i_obj cx hl kn_X5_o dX5_init_0 dX5_init_1 ⟨Nat.le_of_ble_eq_true rfl, Nat.le_of_ble_eq_true rfl⟩ ?_
  have hP : va_P G zCl ((h0, .inr (z_oc 6, [.null, .null, .null])) :: ([])) s.heap := hP
  have hD : va_D A ((h0, .inr (z_oc 6, [.null, .null, .null])) :: ([])) := hD
  refine i_arrq (b := 2) cx ob_X5 hl hP hD hS hA (t0 := 8) (Ce := RX3) (by decide) kn_X5_k9 rfl (n := 7) (N := 7) (by decide) (by decide +kernel) (Nat.le_of_ble_eq_true rfl) (Nat.le_of_ble_eq_true rfl) (Nat.le_of_ble_eq_true rfl) 0 (Nat.le_of_ble_eq_true rfl) kn_X5_f11 rfl rfl rfl (fun _ => rfl) (fun _ => rfl) (Nat.le_of_ble_eq_true rfl) dX5_init_4 (fun st k => lv_bipush (v := 7) cx.1 cx.2.1 dX5_init_5 (by decide) k) dX5_init_7 dX5_init_10 (fun q1 H locs hP hD hS => ?_)
  have hP : va_P G zCl ((h0, .inr (z_oc 6, [.ref q1, .null, .null])) :: (([]) ++ [(q1, .inl (dA 8, rfs 7 fun _ => none))])) H := hP
  have hD : va_D A ((h0, .inr (z_oc 6, [.ref q1, .null, .null])) :: (([]) ++ [(q1, .inl (dA 8, rfs 7 fun _ => none))])) := hD
  refine W.eq (g2 := F0 m 13 ls []) rfl ?_
  refine i_arr (b := 2) cx ob_X5 hl hP hD hS hA (atype := .long) (aty := .long) (t0 := 3) rfl k_A3 rfl (fun _ _ h => h) (n := 7) (N := 7) (a0 := (7, .inr (.inl fun _ => 0))) (fun cA => aJ cA 7) (by decide) (by decide +kernel) (Nat.le_of_ble_eq_true rfl) (Nat.le_of_ble_eq_true rfl) (Nat.le_of_ble_eq_true rfl) 1 (Nat.le_of_ble_eq_true rfl) kn_X5_f17 rfl rfl rfl (fun _ => rfl) (fun _ => rfl) (Nat.le_of_ble_eq_true rfl) dX5_init_13 (fun st k => lv_bipush (v := 7) cx.1 cx.2.1 dX5_init_14 (by decide) k) dX5_init_16 dX5_init_18 (fun q2 H locs hP hD hS => ?_)
  have hP : va_P G zCl ((h0, .inr (z_oc 6, [.ref q1, .ref q2, .null])) :: ((([]) ++ [(q1, .inl (dA 8, rfs 7 fun _ => none))]) ++ [(q2, .inl (dA 3, (7, .inr (.inl fun _ => 0))))])) H := hP
  have hD : va_D A ((h0, .inr (z_oc 6, [.ref q1, .ref q2, .null])) :: ((([]) ++ [(q1, .inl (dA 8, rfs 7 fun _ => none))]) ++ [(q2, .inl (dA 3, (7, .inr (.inl fun _ => 0))))])) := hD
  refine W.eq (g2 := F0 m 21 ls []) rfl ?_
  refine i_arr (b := 2) cx ob_X5 hl hP hD hS hA (atype := .long) (aty := .long) (t0 := 3) rfl k_A3 rfl (fun _ _ h => h) (n := 7) (N := 7) (a0 := (7, .inr (.inl fun _ => 0))) (fun cA => aJ cA 7) (by decide) (by decide +kernel) (Nat.le_of_ble_eq_true rfl) (Nat.le_of_ble_eq_true rfl) (Nat.le_of_ble_eq_true rfl) 2 (Nat.le_of_ble_eq_true rfl) kn_X5_f21 rfl rfl rfl (fun _ => rfl) (fun _ => rfl) (Nat.le_of_ble_eq_true rfl) dX5_init_21 (fun st k => lv_bipush (v := 7) cx.1 cx.2.1 dX5_init_22 (by decide) k) dX5_init_24 dX5_init_26 (fun q3 H locs hP hD hS => ?_)
  have hP : va_P G zCl ((h0, .inr (z_oc 6, [.ref q1, .ref q2, .ref q3])) :: (((([]) ++ [(q1, .inl (dA 8, rfs 7 fun _ => none))]) ++ [(q2, .inl (dA 3, (7, .inr (.inl fun _ => 0))))]) ++ [(q3, .inl (dA 3, (7, .inr (.inl fun _ => 0))))])) H := hP
  have hD : va_D A ((h0, .inr (z_oc 6, [.ref q1, .ref q2, .ref q3])) :: (((([]) ++ [(q1, .inl (dA 8, rfs 7 fun _ => none))]) ++ [(q2, .inl (dA 3, (7, .inr (.inl fun _ => 0))))]) ++ [(q3, .inl (dA 3, (7, .inr (.inl fun _ => 0))))])) := hD
  refine W.eq (g2 := F0 m 29 ls []) rfl ?_
  obtain ⟨g, hg⟩ : ∃ g : Nat → Nat, g = fun k => if k = 0 then q1 else if k = 1 then q2 else q3 := ⟨_, rfl⟩
  have hP : va_P G zCl (PX5 dA h0 g (fun _ => none) ++ []) H := by rw [hg, List.append_nil]; exact hP
  have hD : va_D A (PX5 dA h0 g (fun _ => none) ++ []) := by rw [hg, List.append_nil]; exact hD
  refine lv_iconst (v := nI 0) cx.1 cx.2.1 dX5_init_29 (by decide) ?_
  refine lv_istore_n (lv' := [(1, .int (nI 0)), (0, .ref h0)]) cx.1 cx.2.1 dX5_init_30 rfl hl (by decide) rfl (fun ls hl => ?_)
  refine W.eq (g2 := F0 m 31 ls []) rfl ?_
  refine W.widen (k := 3 + 0 * 2) (n := 21 + 0 * 580) (Nat.le_of_ble_eq_true rfl) (Nat.le_of_ble_eq_true rfl) ?_
  refine i_for (nL := 2) (h0 := h0) (n := 7) (c0 := 3) (a := 2) (s0 := 21) (b := 580) (pc0 := 31) (Inv := fun i H => ∃ (h : Nat → Nat) (u : Nat → (Nat → Nat)), va_P G zCl (PX5 dA h0 g (rf h i) ++ ([] ++ zfl (fun j => LX3 dA (h j) (u j)) i)) H ∧ va_D A (PX5 dA h0 g (rf h i) ++ ([] ++ zfl (fun j => LX3 dA (h j) (u j)) i))) ?_ ?_ 7 0 H locs ls rfl ⟨fun _ => 0, fun _ => fun _ => 0, Eq.mpr (congrArg (fun w => va_P G zCl w H) (fl_0 (P := PX5 dA h0 g) (X := []))) hP, Eq.mpr (congrArg (fun w => va_D A w) (fl_0 (P := PX5 dA h0 g) (X := []))) hD⟩ hS hl
  · intro i H locs ls hi hI hS hl kk
    obtain ⟨h, u, hP, hD⟩ := hI
    refine lv_iload_n cx.1 cx.2.1 dX5_init_31 rfl (lv_at hl 0 rfl) ?_
    refine lv_bipush (v := nI 6) cx.1 cx.2.1 dX5_init_32 (by decide) ?_
    refine lv_icmp_gt (tgt := 56) cx.1 cx.2.1 dX5_init_34 (by decide) (fun q => absurd q (nJ_nlt (by omega) (by decide))) (fun _ => ?_)
    refine W.eq (g2 := F0 m 37 ls []) rfl ?_
    refine i_elt (L := LX3 dA) (P := PX5 dA h0 g) (F := [] ++ zfl (fun j => LX3 dA (h j) (u j)) i) (i := i) (n := 7) (pa := 1) (t0 := 8) (kf := 0) (a := g 0) cx ob_X5 ob_X3 (fun q sz => n_X3 q sz) rfl kn_X3_c kn_X3_i kn_X3_m (Or.inr (by decide)) rfl kn_X5_k9 kn_X3_s ⟨by decide, by decide, by decide +kernel⟩ (fun j hj => by rcases (show j = 0 ∨ j = 1 ∨ j = 2 ∨ j = 3 by omega) with rfl | rfl | rfl | rfl <;> rfl) (fun q u => ⟨_, rfl⟩) ⟨rfl, rfl⟩ ⟨Nat.le_of_ble_eq_true rfl, Nat.le_of_ble_eq_true rfl⟩ ⟨Nat.le_trans (m := 17) (by omega) (Nat.le_of_ble_eq_true rfl), Nat.le_trans (m := 4081) (by omega) (Nat.le_of_ble_eq_true rfl)⟩ hP hD hS hA rfl (Nat.le_of_ble_eq_true rfl) rfl kn_X5_f11 rfl rfl (fun _ => rfl) rfl (by omega) (by decide) hl dX5_init_37 dX5_init_38 dX5_init_41 dX5_init_42 dX5_init_45 dX5_init_46 dX5_init_49 (fun qn vn H locs hP hD hS => ?_)
    refine W.widen (k := 3 + (i + 1) * 2) (n := 21 + (i + 1) * 580) (by omega) (by omega) ?_
    refine W.eq (g2 := F0 m 50 ls []) rfl ?_
    refine lv_iinc (v := nI (i + 1)) (lv' := [(1, .int (nI (i + 1))), (0, .ref h0)]) cx.1 cx.2.1 dX5_init_50 hl (k := 0) rfl (nI_add i 1) (by decide) rfl (fun ls hl => ?_)
    refine lv_goto (tgt := 31) cx.1 cx.2.1 dX5_init_53 (by decide) ?_
    have e := congrArg (fun w => PX5 dA h0 g (va_up (rf h i) i (some qn)) ++ w) (fl_X (X := []) (L := LX3 dA) (h := h) (u := u) (i := i) (q := qn) (v := vn))
    rw [rf_up] at e hP hD
    exact kk H locs ls ⟨fun j => if j = i then qn else h j, fun j => if j = i then vn else u j, Eq.mp (congrArg (fun w => va_P G zCl w H) e) hP, Eq.mp (congrArg (fun w => va_D A w) e) hD⟩ hS hl
  · intro H locs ls hI hS hl
    obtain ⟨h, u, hP, hD⟩ := hI
    refine lv_iload_n cx.1 cx.2.1 dX5_init_31 rfl (lv_at hl 0 rfl) ?_
    refine lv_bipush (v := nI 6) cx.1 cx.2.1 dX5_init_32 (by decide) ?_
    refine lv_icmp_gt (tgt := 56) cx.1 cx.2.1 dX5_init_34 (by decide) (fun _ => ?_) (fun q => absurd (nJ_lt (by decide) (by decide)) q)
    refine W.eq (g2 := F0 m 56 ls []) rfl ?_
    refine W.widen (k := 17) (n := 4081) (Nat.le_of_ble_eq_true rfl) (Nat.le_of_ble_eq_true rfl) ?_
    exact hfin _ _ _ _ (g, h, u) dX5_init_56 hP hD hS
