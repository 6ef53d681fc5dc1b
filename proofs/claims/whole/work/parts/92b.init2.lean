/-! CONSTRUCTORS: Setting, Law, Night, Reader, written by wip/whole/gen_init3.py -/
theorem kn_X6_o : Cond.methodLink RX6 3 Lib.objectInit ∈ zTB := (zTB_in (List.mem_of_getElem? (i := 483) (by decide +kernel)) (by decide +kernel))
theorem kn_X6_f9 : Cond.fieldLink RX6 9 RX6 (TX6 2).2.1 (TX6 2).2.2.1 ∈ zTB := (zTB_in (List.mem_of_getElem? (i := 492) (by decide +kernel)) (by decide +kernel))
theorem kn_X6_f15 : Cond.fieldLink RX6 15 RX6 (TX6 3).2.1 (TX6 3).2.2.1 ∈ zTB := (zTB_in (List.mem_of_getElem? (i := 494) (by decide +kernel)) (by decide +kernel))
theorem kn_X6_f18 : Cond.fieldLink RX6 18 RX6 (TX6 4).2.1 (TX6 4).2.2.1 ∈ zTB := (zTB_in (List.mem_of_getElem? (i := 496) (by decide +kernel)) (by decide +kernel))
theorem kn_X6_f22 : Cond.fieldLink RX6 22 RX6 (TX6 5).2.1 (TX6 5).2.2.1 ∈ zTB := (zTB_in (List.mem_of_getElem? (i := 497) (by decide +kernel)) (by decide +kernel))
theorem kn_X6_f26 : Cond.fieldLink RX6 26 RX6 (TX6 6).2.1 (TX6 6).2.2.1 ∈ zTB := (zTB_in (List.mem_of_getElem? (i := 498) (by decide +kernel)) (by decide +kernel))
theorem kn_X6_f29 : Cond.fieldLink RX6 29 RX6 (TX6 0).2.1 (TX6 0).2.2.1 ∈ zTB := (zTB_in (List.mem_of_getElem? (i := 484) (by decide +kernel)) (by decide +kernel))
theorem kn_X6_f33 : Cond.fieldLink RX6 33 RX6 (TX6 1).2.1 (TX6 1).2.2.1 ∈ zTB := (zTB_in (List.mem_of_getElem? (i := 490) (by decide +kernel)) (by decide +kernel))
abbrev LX6 (dA : Nat → ClassId) (w0 : Nat) (l0 : Nat) (h0 : Nat) (u : Nat → Nat) : va_W := (h0, .inr (z_oc 7, [.ref w0, .ref l0, .ref (u 0), .ref (u 1), .ref (u 2), .ref (u 3), .ref (u 4)])) :: (((((([]) ++ [(u 0, .inl (dA 3, (144, .inr (.inl fun _ => 0))))]) ++ [(u 1, .inl (dA 3, (576, .inr (.inl fun _ => 0))))]) ++ [(u 2, .inl (dA 0, (4464, .inl fun _ => 0)))]) ++ [(u 3, .inl (dA 2, (31, .inl fun _ => 0)))]) ++ [(u 4, .inl (dA 3, (5, .inr (.inl fun _ => 0))))])
theorem kn_X6_c : Cond.code yX6_init cX6_init 3 none ∈ zTB := (zTB_in (List.mem_of_getElem? (i := 482) (by decide +kernel)) (by decide +kernel))
theorem kn_X6_i : Cond.initialized yX6_init.cls ∈ zTB := (zTB_in (List.mem_of_getElem? (i := 119) (by decide +kernel)) (by decide +kernel))
theorem kn_X6_m : Cond.instanceMethod yX6_init ∈ zTB := (zTB_in (List.mem_of_getElem? (i := 481) (by decide +kernel)) (by decide +kernel))
theorem kn_X6_s : Cond.instantiable RX6 7 ∈ zTB := (zTB_in (List.mem_of_getElem? (i := 479) (by decide +kernel)) (by decide +kernel))
set_option maxHeartbeats 1000000 in
set_option maxRecDepth 100000 in
theorem n_X6 {G : va_G} {dA : Nat → ClassId} {dS : Nat} {l : Launch} (w0 : Nat) (l0 : Nat) (h0 sz : Nat) : Met l yX6_init (Cond.code yX6_init cX6_init 3 none :: zTB) ({ frames := 1, cells := 5, slots := 5220, locals := 12 }) (iPc G dA dS h0 sz (z_oc 7) [.null, .null, .null, .null, .null, .null, .null] [.ref w0, .ref l0]) (iQc G h0 sz (z_oc 7) [.null, .null, .null, .null, .null, .null, .null] (LX6 dA w0 l0 h0)) 5 5220 (va_A [(h0, .inr (z_oc 7, [.null, .null, .null, .null, .null, .null, .null]))] sz) := by
  refine i_met (by decide) rfl (Nat.le_of_ble_eq_true rfl) ?_
  intro p e s m args below meth c Q A ls cx hA hl hP hD hfin
  have hl : lv_has ls 3 [(0, .ref h0), (1, .ref w0), (2, .ref l0)] := hl
  have hS : va_S A s.heap s.heap [] := va_S.rf
  refine i_obj cx hl kn_X6_o dX6_init_0 dX6_init_1 ⟨Nat.le_of_ble_eq_true rfl, Nat.le_of_ble_eq_true rfl⟩ ?_
  have hP : va_P G zCl ((h0, .inr (z_oc 7, [.null, .null, .null, .null, .null, .null, .null])) :: ([])) s.heap := hP
  have hD : va_D A ((h0, .inr (z_oc 7, [.null, .null, .null, .null, .null, .null, .null])) :: ([])) := hD
  refine i_arr (b := 3) cx ob_X6 hl hP hD hS hA (atype := .long) (aty := .long) (t0 := 3) rfl k_A3 rfl (fun _ _ h => h) (n := 144) (N := 144) (a0 := (144, .inr (.inl fun _ => 0))) (fun cA => aJ cA 144) (by decide) (by decide +kernel) (Nat.le_of_ble_eq_true rfl) (Nat.le_of_ble_eq_true rfl) (Nat.le_of_ble_eq_true rfl) 2 (Nat.le_of_ble_eq_true rfl) kn_X6_f9 rfl rfl rfl (fun _ => rfl) (fun _ => rfl) (Nat.le_of_ble_eq_true rfl) dX6_init_4 (fun st k => lv_sipush (v := 144) cx.1 cx.2.1 dX6_init_5 (by decide) k) dX6_init_8 dX6_init_10 (fun q1 H locs hP hD hS => ?_)
  have hP : va_P G zCl ((h0, .inr (z_oc 7, [.null, .null, .ref q1, .null, .null, .null, .null])) :: (([]) ++ [(q1, .inl (dA 3, (144, .inr (.inl fun _ => 0))))])) H := hP
  have hD : va_D A ((h0, .inr (z_oc 7, [.null, .null, .ref q1, .null, .null, .null, .null])) :: (([]) ++ [(q1, .inl (dA 3, (144, .inr (.inl fun _ => 0))))])) := hD
  refine W.eq (g2 := F0 m 13 ls []) rfl ?_
  refine i_arr (b := 3) cx ob_X6 hl hP hD hS hA (atype := .long) (aty := .long) (t0 := 3) rfl k_A3 rfl (fun _ _ h => h) (n := 576) (N := 576) (a0 := (576, .inr (.inl fun _ => 0))) (fun cA => aJ cA 576) (by decide) (by decide +kernel) (Nat.le_of_ble_eq_true rfl) (Nat.le_of_ble_eq_true rfl) (Nat.le_of_ble_eq_true rfl) 3 (Nat.le_of_ble_eq_true rfl) kn_X6_f15 rfl rfl rfl (fun _ => rfl) (fun _ => rfl) (Nat.le_of_ble_eq_true rfl) dX6_init_13 (fun st k => lv_sipush (v := 576) cx.1 cx.2.1 dX6_init_14 (by decide) k) dX6_init_17 dX6_init_19 (fun q2 H locs hP hD hS => ?_)
  have hP : va_P G zCl ((h0, .inr (z_oc 7, [.null, .null, .ref q1, .ref q2, .null, .null, .null])) :: ((([]) ++ [(q1, .inl (dA 3, (144, .inr (.inl fun _ => 0))))]) ++ [(q2, .inl (dA 3, (576, .inr (.inl fun _ => 0))))])) H := hP
  have hD : va_D A ((h0, .inr (z_oc 7, [.null, .null, .ref q1, .ref q2, .null, .null, .null])) :: ((([]) ++ [(q1, .inl (dA 3, (144, .inr (.inl fun _ => 0))))]) ++ [(q2, .inl (dA 3, (576, .inr (.inl fun _ => 0))))])) := hD
  refine W.eq (g2 := F0 m 22 ls []) rfl ?_
  refine i_arr (b := 3) cx ob_X6 hl hP hD hS hA (atype := .int) (aty := .int) (t0 := 0) rfl k_A0 rfl (fun _ _ h => h) (n := 4464) (N := 4464) (a0 := (4464, .inl fun _ => 0)) (fun cA => aI cA 4464) (by decide) (by decide +kernel) (Nat.le_of_ble_eq_true rfl) (Nat.le_of_ble_eq_true rfl) (Nat.le_of_ble_eq_true rfl) 4 (Nat.le_of_ble_eq_true rfl) kn_X6_f18 rfl rfl rfl (fun _ => rfl) (fun _ => rfl) (Nat.le_of_ble_eq_true rfl) dX6_init_22 (fun st k => lv_sipush (v := 4464) cx.1 cx.2.1 dX6_init_23 (by decide) k) dX6_init_26 dX6_init_28 (fun q3 H locs hP hD hS => ?_)
  have hP : va_P G zCl ((h0, .inr (z_oc 7, [.null, .null, .ref q1, .ref q2, .ref q3, .null, .null])) :: (((([]) ++ [(q1, .inl (dA 3, (144, .inr (.inl fun _ => 0))))]) ++ [(q2, .inl (dA 3, (576, .inr (.inl fun _ => 0))))]) ++ [(q3, .inl (dA 0, (4464, .inl fun _ => 0)))])) H := hP
  have hD : va_D A ((h0, .inr (z_oc 7, [.null, .null, .ref q1, .ref q2, .ref q3, .null, .null])) :: (((([]) ++ [(q1, .inl (dA 3, (144, .inr (.inl fun _ => 0))))]) ++ [(q2, .inl (dA 3, (576, .inr (.inl fun _ => 0))))]) ++ [(q3, .inl (dA 0, (4464, .inl fun _ => 0)))])) := hD
  refine W.eq (g2 := F0 m 31 ls []) rfl ?_
  refine i_arr (b := 2) cx ob_X6 hl hP hD hS hA (atype := .boolean) (aty := .boolean) (t0 := 2) rfl k_A2 rfl (fun _ _ h => h) (n := 31) (N := 31) (a0 := (31, .inl fun _ => 0)) (fun cA => aZ cA 31) (by decide) (by decide +kernel) (Nat.le_of_ble_eq_true rfl) (Nat.le_of_ble_eq_true rfl) (Nat.le_of_ble_eq_true rfl) 5 (Nat.le_of_ble_eq_true rfl) kn_X6_f22 rfl rfl rfl (fun _ => rfl) (fun _ => rfl) (Nat.le_of_ble_eq_true rfl) dX6_init_31 (fun st k => lv_bipush (v := 31) cx.1 cx.2.1 dX6_init_32 (by decide) k) dX6_init_34 dX6_init_36 (fun q4 H locs hP hD hS => ?_)
  have hP : va_P G zCl ((h0, .inr (z_oc 7, [.null, .null, .ref q1, .ref q2, .ref q3, .ref q4, .null])) :: ((((([]) ++ [(q1, .inl (dA 3, (144, .inr (.inl fun _ => 0))))]) ++ [(q2, .inl (dA 3, (576, .inr (.inl fun _ => 0))))]) ++ [(q3, .inl (dA 0, (4464, .inl fun _ => 0)))]) ++ [(q4, .inl (dA 2, (31, .inl fun _ => 0)))])) H := hP
  have hD : va_D A ((h0, .inr (z_oc 7, [.null, .null, .ref q1, .ref q2, .ref q3, .ref q4, .null])) :: ((((([]) ++ [(q1, .inl (dA 3, (144, .inr (.inl fun _ => 0))))]) ++ [(q2, .inl (dA 3, (576, .inr (.inl fun _ => 0))))]) ++ [(q3, .inl (dA 0, (4464, .inl fun _ => 0)))]) ++ [(q4, .inl (dA 2, (31, .inl fun _ => 0)))])) := hD
  refine W.eq (g2 := F0 m 39 ls []) rfl ?_
  refine i_arr (b := 1) cx ob_X6 hl hP hD hS hA (atype := .long) (aty := .long) (t0 := 3) rfl k_A3 rfl (fun _ _ h => h) (n := 5) (N := 5) (a0 := (5, .inr (.inl fun _ => 0))) (fun cA => aJ cA 5) (by decide) (by decide +kernel) (Nat.le_of_ble_eq_true rfl) (Nat.le_of_ble_eq_true rfl) (Nat.le_of_ble_eq_true rfl) 6 (Nat.le_of_ble_eq_true rfl) kn_X6_f26 rfl rfl rfl (fun _ => rfl) (fun _ => rfl) (Nat.le_of_ble_eq_true rfl) dX6_init_39 (fun st k => lv_iconst (v := 5) cx.1 cx.2.1 dX6_init_40 (by decide) k) dX6_init_41 dX6_init_43 (fun q5 H locs hP hD hS => ?_)
  have hP : va_P G zCl ((h0, .inr (z_oc 7, [.null, .null, .ref q1, .ref q2, .ref q3, .ref q4, .ref q5])) :: (((((([]) ++ [(q1, .inl (dA 3, (144, .inr (.inl fun _ => 0))))]) ++ [(q2, .inl (dA 3, (576, .inr (.inl fun _ => 0))))]) ++ [(q3, .inl (dA 0, (4464, .inl fun _ => 0)))]) ++ [(q4, .inl (dA 2, (31, .inl fun _ => 0)))]) ++ [(q5, .inl (dA 3, (5, .inr (.inl fun _ => 0))))])) H := hP
  have hD : va_D A ((h0, .inr (z_oc 7, [.null, .null, .ref q1, .ref q2, .ref q3, .ref q4, .ref q5])) :: (((((([]) ++ [(q1, .inl (dA 3, (144, .inr (.inl fun _ => 0))))]) ++ [(q2, .inl (dA 3, (576, .inr (.inl fun _ => 0))))]) ++ [(q3, .inl (dA 0, (4464, .inl fun _ => 0)))]) ++ [(q4, .inl (dA 2, (31, .inl fun _ => 0)))]) ++ [(q5, .inl (dA 3, (5, .inr (.inl fun _ => 0))))])) := hD
  refine W.eq (g2 := F0 m 46 ls []) rfl ?_
  refine lv_aload_n cx.1 cx.2.1 dX6_init_46 rfl (lv_at hl 0 rfl) ?_
  refine lv_aload_n cx.1 cx.2.1 dX6_init_47 rfl (lv_at hl 1 rfl) ?_
  refine i_put cx ob_X6 hP hD hS 0 (Nat.le_of_ble_eq_true rfl) kn_X6_f29 rfl rfl rfl rfl (Nat.le_of_ble_eq_true rfl) dX6_init_48 (fun H locs hP hD hS => ?_)
  have hP : va_P G zCl ((h0, .inr (z_oc 7, [.ref w0, .null, .ref q1, .ref q2, .ref q3, .ref q4, .ref q5])) :: (((((([]) ++ [(q1, .inl (dA 3, (144, .inr (.inl fun _ => 0))))]) ++ [(q2, .inl (dA 3, (576, .inr (.inl fun _ => 0))))]) ++ [(q3, .inl (dA 0, (4464, .inl fun _ => 0)))]) ++ [(q4, .inl (dA 2, (31, .inl fun _ => 0)))]) ++ [(q5, .inl (dA 3, (5, .inr (.inl fun _ => 0))))])) H := hP
  have hD : va_D A ((h0, .inr (z_oc 7, [.ref w0, .null, .ref q1, .ref q2, .ref q3, .ref q4, .ref q5])) :: (((((([]) ++ [(q1, .inl (dA 3, (144, .inr (.inl fun _ => 0))))]) ++ [(q2, .inl (dA 3, (576, .inr (.inl fun _ => 0))))]) ++ [(q3, .inl (dA 0, (4464, .inl fun _ => 0)))]) ++ [(q4, .inl (dA 2, (31, .inl fun _ => 0)))]) ++ [(q5, .inl (dA 3, (5, .inr (.inl fun _ => 0))))])) := hD
  refine W.eq (g2 := F0 m 51 ls []) rfl ?_
  refine lv_aload_n cx.1 cx.2.1 dX6_init_51 rfl (lv_at hl 0 rfl) ?_
  refine lv_aload_n cx.1 cx.2.1 dX6_init_52 rfl (lv_at hl 2 rfl) ?_
  refine i_put cx ob_X6 hP hD hS 1 (Nat.le_of_ble_eq_true rfl) kn_X6_f33 rfl rfl rfl rfl (Nat.le_of_ble_eq_true rfl) dX6_init_53 (fun H locs hP hD hS => ?_)
  have hP : va_P G zCl ((h0, .inr (z_oc 7, [.ref w0, .ref l0, .ref q1, .ref q2, .ref q3, .ref q4, .ref q5])) :: (((((([]) ++ [(q1, .inl (dA 3, (144, .inr (.inl fun _ => 0))))]) ++ [(q2, .inl (dA 3, (576, .inr (.inl fun _ => 0))))]) ++ [(q3, .inl (dA 0, (4464, .inl fun _ => 0)))]) ++ [(q4, .inl (dA 2, (31, .inl fun _ => 0)))]) ++ [(q5, .inl (dA 3, (5, .inr (.inl fun _ => 0))))])) H := hP
  have hD : va_D A ((h0, .inr (z_oc 7, [.ref w0, .ref l0, .ref q1, .ref q2, .ref q3, .ref q4, .ref q5])) :: (((((([]) ++ [(q1, .inl (dA 3, (144, .inr (.inl fun _ => 0))))]) ++ [(q2, .inl (dA 3, (576, .inr (.inl fun _ => 0))))]) ++ [(q3, .inl (dA 0, (4464, .inl fun _ => 0)))]) ++ [(q4, .inl (dA 2, (31, .inl fun _ => 0)))]) ++ [(q5, .inl (dA 3, (5, .inr (.inl fun _ => 0))))])) := hD
  refine W.eq (g2 := F0 m 56 ls []) rfl ?_
  refine W.widen (k := 5) (n := 5220) (Nat.le_of_ble_eq_true rfl) (Nat.le_of_ble_eq_true rfl) ?_
  exact hfin _ _ _ _ (fun k => if k = 0 then q1 else if k = 1 then q2 else if k = 2 then q3 else if k = 3 then q4 else if k = 4 then q5 else 0) dX6_init_56 hP hD hS
theorem kn_X1_o : Cond.methodLink RX1 3 Lib.objectInit ∈ zTB := (zTB_in (List.mem_of_getElem? (i := 447) (by decide +kernel)) (by decide +kernel))
theorem kn_X1_f12 : Cond.fieldLink RX1 12 RX1 (TX1 0).2.1 (TX1 0).2.2.1 ∈ zTB := (zTB_in (List.mem_of_getElem? (i := 450) (by decide +kernel)) (by decide +kernel))
theorem kn_X1_k9 : Cond.classLink RX1 9 RX0 ∈ zTB := (zTB_in (List.mem_of_getElem? (i := 448) (by decide +kernel)) (by decide +kernel))
abbrev LX1 (dA : Nat → ClassId) (h0 : Nat) (u : Nat → Nat) : va_W := (h0, .inr (z_oc 2, [.ref (u 0), .int 0, .int 0, .int 0, .int 0])) :: (([]) ++ LX0 dA (u 0) (fun k => u (k + 1)))
theorem kn_X1_c : Cond.code yX1_init cX1_init 1 none ∈ zTB := (zTB_in (List.mem_of_getElem? (i := 446) (by decide +kernel)) (by decide +kernel))
theorem kn_X1_i : Cond.initialized yX1_init.cls ∈ zTB := (zTB_in (List.mem_of_getElem? (i := 118) (by decide +kernel)) (by decide +kernel))
theorem kn_X1_m : Cond.instanceMethod yX1_init ∈ zTB := (zTB_in (List.mem_of_getElem? (i := 445) (by decide +kernel)) (by decide +kernel))
theorem kn_X1_s : Cond.instantiable RX1 5 ∈ zTB := (zTB_in (List.mem_of_getElem? (i := 443) (by decide +kernel)) (by decide +kernel))
set_option maxHeartbeats 1000000 in
set_option maxRecDepth 100000 in
theorem n_X1 {G : va_G} {dA : Nat → ClassId} {dS : Nat} {l : Launch} (h0 sz : Nat) : Met l yX1_init (Cond.code yX1_init cX1_init 1 none :: zTB) ({ frames := 2, cells := 6, slots := 507, locals := 32 }) (iPc G dA dS h0 sz (z_oc 2) [.null, .int 0, .int 0, .int 0, .int 0] []) (iQc G h0 sz (z_oc 2) [.null, .int 0, .int 0, .int 0, .int 0] (LX1 dA h0)) 6 507 (va_A [(h0, .inr (z_oc 2, [.null, .int 0, .int 0, .int 0, .int 0]))] sz) := by
  refine i_met (by decide) rfl (Nat.le_of_ble_eq_true rfl) ?_
  intro p e s m args below meth c Q A ls cx hA hl hP hD hfin
  have hl : lv_has ls 1 [(0, .ref h0)] := hl
  have hS : va_S A s.heap s.heap [] := va_S.rf
  refine i_obj cx hl kn_X1_o dX1_init_0 dX1_init_1 ⟨Nat.le_of_ble_eq_true rfl, Nat.le_of_ble_eq_true rfl⟩ ?_
  have hP : va_P G zCl ((h0, .inr (z_oc 2, [.null, .int 0, .int 0, .int 0, .int 0])) :: ([])) s.heap := hP
  have hD : va_D A ((h0, .inr (z_oc 2, [.null, .int 0, .int 0, .int 0, .int 0])) :: ([])) := hD
  refine lv_aload_n cx.1 cx.2.1 dX1_init_4 rfl (lv_at hl 0 rfl) ?_
  refine i_new (L := LX0 dA) cx ob_X0 (fun q sz => n_X0 q sz) rfl kn_X0_c kn_X0_i kn_X0_m (Or.inr (by decide)) rfl kn_X1_k9 kn_X0_s ⟨by decide, by decide, by decide +kernel⟩ (fun j hj => by rcases (show j = 0 ∨ j = 1 ∨ j = 2 ∨ j = 3 ∨ j = 4 ∨ j = 5 ∨ j = 6 by omega) with rfl | rfl | rfl | rfl | rfl | rfl | rfl <;> rfl) ⟨rfl, rfl⟩ ⟨Nat.le_of_ble_eq_true rfl, Nat.le_of_ble_eq_true rfl⟩ ⟨Nat.le_of_ble_eq_true rfl, Nat.le_of_ble_eq_true rfl⟩ hl hP hD hS hA (fun _ => Nat.le_of_ble_eq_true rfl) dX1_init_5 dX1_init_8 dX1_init_9 (fun q1 u1 H locs hP hD hS => ?_)
  refine i_putF cx ob_X1 hP hD hS 0 (Nat.le_of_ble_eq_true rfl) kn_X1_f12 rfl rfl rfl rfl rfl (Nat.le_of_ble_eq_true rfl) dX1_init_12 (fun H locs hP hD hS => ?_)
  have hP : va_P G zCl ((h0, .inr (z_oc 2, [.ref q1, .int 0, .int 0, .int 0, .int 0])) :: (([]) ++ LX0 dA q1 u1)) H := hP
  have hD : va_D A ((h0, .inr (z_oc 2, [.ref q1, .int 0, .int 0, .int 0, .int 0])) :: (([]) ++ LX0 dA q1 u1)) := hD
  refine W.eq (g2 := F0 m 15 ls []) rfl ?_
  refine W.widen (k := 6) (n := 507) (Nat.le_of_ble_eq_true rfl) (Nat.le_of_ble_eq_true rfl) ?_
  exact hfin _ _ _ _ (fun k => if k = 0 then q1 else if k < 6 then u1 (k - 1) else 0) dX1_init_15 hP hD hS
theorem kn_X2_o : Cond.methodLink RX2 3 Lib.objectInit ∈ zTB := (zTB_in (List.mem_of_getElem? (i := 314) (by decide +kernel)) (by decide +kernel))
theorem kn_X2_f12 : Cond.fieldLink RX2 12 RX2 (TX2 0).2.1 (TX2 0).2.2.1 ∈ zTB := (zTB_in (List.mem_of_getElem? (i := 317) (by decide +kernel)) (by decide +kernel))
theorem kn_X2_k9 : Cond.classLink RX2 9 RX3 ∈ zTB := (zTB_in (List.mem_of_getElem? (i := 315) (by decide +kernel)) (by decide +kernel))
theorem kn_X2_f18 : Cond.fieldLink RX2 18 RX2 (TX2 1).2.1 (TX2 1).2.2.1 ∈ zTB := (zTB_in (List.mem_of_getElem? (i := 319) (by decide +kernel)) (by decide +kernel))
abbrev LX2 (dA : Nat → ClassId) (h0 : Nat) (u : Nat → Nat) : va_W := (h0, .inr (z_oc 3, [.ref (u 0), .ref (u 2), .long 0, .int 0, .int 0, .int 0, .int 0, .int 0, .int 0, .int 0])) :: ((([]) ++ LX3 dA (u 0) (fun k => u (k + 1))) ++ [(u 2, .inl (dA 3, (10, .inr (.inl fun _ => 0))))])
theorem kn_X2_c : Cond.code yX2_init cX2_init 1 none ∈ zTB := (zTB_in (List.mem_of_getElem? (i := 313) (by decide +kernel)) (by decide +kernel))
theorem kn_X2_i : Cond.initialized yX2_init.cls ∈ zTB := (zTB_in (List.mem_of_getElem? (i := 116) (by decide +kernel)) (by decide +kernel))
theorem kn_X2_m : Cond.instanceMethod yX2_init ∈ zTB := (zTB_in (List.mem_of_getElem? (i := 312) (by decide +kernel)) (by decide +kernel))
theorem kn_X2_s : Cond.instantiable RX2 10 ∈ zTB := (zTB_in (List.mem_of_getElem? (i := 310) (by decide +kernel)) (by decide +kernel))
set_option maxHeartbeats 1000000 in
set_option maxRecDepth 100000 in
theorem n_X2 {G : va_G} {dA : Nat → ClassId} {dS : Nat} {l : Launch} (h0 sz : Nat) : Met l yX2_init (Cond.code yX2_init cX2_init 1 none :: zTB) ({ frames := 2, cells := 3, slots := 590, locals := 32 }) (iPc G dA dS h0 sz (z_oc 3) [.null, .null, .long 0, .int 0, .int 0, .int 0, .int 0, .int 0, .int 0, .int 0] []) (iQc G h0 sz (z_oc 3) [.null, .null, .long 0, .int 0, .int 0, .int 0, .int 0, .int 0, .int 0, .int 0] (LX2 dA h0)) 3 590 (va_A [(h0, .inr (z_oc 3, [.null, .null, .long 0, .int 0, .int 0, .int 0, .int 0, .int 0, .int 0, .int 0]))] sz) := by
  refine i_met (by decide) rfl (Nat.le_of_ble_eq_true rfl) ?_
  intro p e s m args below meth c Q A ls cx hA hl hP hD hfin
  have hl : lv_has ls 1 [(0, .ref h0)] := hl
  have hS : va_S A s.heap s.heap [] := va_S.rf
  refine i_obj cx hl kn_X2_o dX2_init_0 dX2_init_1 ⟨Nat.le_of_ble_eq_true rfl, Nat.le_of_ble_eq_true rfl⟩ ?_
  have hP : va_P G zCl ((h0, .inr (z_oc 3, [.null, .null, .long 0, .int 0, .int 0, .int 0, .int 0, .int 0, .int 0, .int 0])) :: ([])) s.heap := hP
  have hD : va_D A ((h0, .inr (z_oc 3, [.null, .null, .long 0, .int 0, .int 0, .int 0, .int 0, .int 0, .int 0, .int 0])) :: ([])) := hD
  refine lv_aload_n cx.1 cx.2.1 dX2_init_4 rfl (lv_at hl 0 rfl) ?_
  refine i_new (L := LX3 dA) cx ob_X3 (fun q sz => n_X3 q sz) rfl kn_X3_c kn_X3_i kn_X3_m (Or.inr (by decide)) rfl kn_X2_k9 kn_X3_s ⟨by decide, by decide, by decide +kernel⟩ (fun j hj => by rcases (show j = 0 ∨ j = 1 ∨ j = 2 ∨ j = 3 by omega) with rfl | rfl | rfl | rfl <;> rfl) ⟨rfl, rfl⟩ ⟨Nat.le_of_ble_eq_true rfl, Nat.le_of_ble_eq_true rfl⟩ ⟨Nat.le_of_ble_eq_true rfl, Nat.le_of_ble_eq_true rfl⟩ hl hP hD hS hA (fun _ => Nat.le_of_ble_eq_true rfl) dX2_init_5 dX2_init_8 dX2_init_9 (fun q1 u1 H locs hP hD hS => ?_)
  refine i_putF cx ob_X2 hP hD hS 0 (Nat.le_of_ble_eq_true rfl) kn_X2_f12 rfl rfl rfl rfl rfl (Nat.le_of_ble_eq_true rfl) dX2_init_12 (fun H locs hP hD hS => ?_)
  have hP : va_P G zCl ((h0, .inr (z_oc 3, [.ref q1, .null, .long 0, .int 0, .int 0, .int 0, .int 0, .int 0, .int 0, .int 0])) :: (([]) ++ LX3 dA q1 u1)) H := hP
  have hD : va_D A ((h0, .inr (z_oc 3, [.ref q1, .null, .long 0, .int 0, .int 0, .int 0, .int 0, .int 0, .int 0, .int 0])) :: (([]) ++ LX3 dA q1 u1)) := hD
  refine W.eq (g2 := F0 m 15 ls []) rfl ?_
  refine i_arr (b := 2) cx ob_X2 hl hP hD hS hA (atype := .long) (aty := .long) (t0 := 3) rfl k_A3 rfl (fun _ _ h => h) (n := 10) (N := 10) (a0 := (10, .inr (.inl fun _ => 0))) (fun cA => aJ cA 10) (by decide) (by decide +kernel) (Nat.le_of_ble_eq_true rfl) (Nat.le_of_ble_eq_true rfl) (Nat.le_of_ble_eq_true rfl) 1 (Nat.le_of_ble_eq_true rfl) kn_X2_f18 rfl rfl rfl (fun _ => rfl) (fun _ => rfl) (Nat.le_of_ble_eq_true rfl) dX2_init_15 (fun st k => lv_bipush (v := 10) cx.1 cx.2.1 dX2_init_16 (by decide) k) dX2_init_18 dX2_init_20 (fun q2 H locs hP hD hS => ?_)
  have hP : va_P G zCl ((h0, .inr (z_oc 3, [.ref q1, .ref q2, .long 0, .int 0, .int 0, .int 0, .int 0, .int 0, .int 0, .int 0])) :: ((([]) ++ LX3 dA q1 u1) ++ [(q2, .inl (dA 3, (10, .inr (.inl fun _ => 0))))])) H := hP
  have hD : va_D A ((h0, .inr (z_oc 3, [.ref q1, .ref q2, .long 0, .int 0, .int 0, .int 0, .int 0, .int 0, .int 0, .int 0])) :: ((([]) ++ LX3 dA q1 u1) ++ [(q2, .inl (dA 3, (10, .inr (.inl fun _ => 0))))])) := hD
  refine W.eq (g2 := F0 m 23 ls []) rfl ?_
  refine W.widen (k := 3) (n := 590) (Nat.le_of_ble_eq_true rfl) (Nat.le_of_ble_eq_true rfl) ?_
  exact hfin _ _ _ _ (fun k => if k = 0 then q1 else if k < 2 then u1 (k - 1) else if k = 2 then q2 else 0) dX2_init_23 hP hD hS
theorem kn_X4_o : Cond.methodLink RX4 3 Lib.objectInit ∈ zTB := (zTB_in (List.mem_of_getElem? (i := 141) (by decide +kernel)) (by decide +kernel))
theorem kn_X4_f9 : Cond.fieldLink RX4 9 RX4 (TX4 0).2.1 (TX4 0).2.2.1 ∈ zTB := (zTB_in (List.mem_of_getElem? (i := 174) (by decide +kernel)) (by decide +kernel))
theorem kn_X4_f17 : Cond.fieldLink RX4 17 RX4 (TX4 7).2.1 (TX4 7).2.2.1 ∈ zTB := (zTB_in (List.mem_of_getElem? (i := 183) (by decide +kernel)) (by decide +kernel))
theorem kn_X4_f24 : Cond.fieldLink RX4 24 RX4 (TX4 8).2.1 (TX4 8).2.2.1 ∈ zTB := (zTB_in (List.mem_of_getElem? (i := 184) (by decide +kernel)) (by decide +kernel))
theorem kn_X4_k21 : Cond.classLink RX4 21 RX0 ∈ zTB := (zTB_in (List.mem_of_getElem? (i := 143) (by decide +kernel)) (by decide +kernel))
abbrev LX4 (dA : Nat → ClassId) (dS : Nat) (h0 : Nat) (u : Nat → Nat) : va_W := (h0, .inr (z_oc 5, [.ref (u 0), .int 0, .int 0, .int 0, .int 0, .int 0, .int 0, .ref dS, .ref (u 1)])) :: ((([]) ++ [(u 0, .inl (dA 0, (400, .inl fun _ => 0)))]) ++ LX0 dA (u 1) (fun k => u (k + 2)))
theorem kn_X4_c : Cond.code yX4_init cX4_init 1 none ∈ zTB := (zTB_in (List.mem_of_getElem? (i := 140) (by decide +kernel)) (by decide +kernel))
theorem kn_X4_i : Cond.initialized yX4_init.cls ∈ zTB := (zTB_in (List.mem_of_getElem? (i := 110) (by decide +kernel)) (by decide +kernel))
theorem kn_X4_m : Cond.instanceMethod yX4_init ∈ zTB := (zTB_in (List.mem_of_getElem? (i := 139) (by decide +kernel)) (by decide +kernel))
theorem kn_X4_s : Cond.instantiable RX4 9 ∈ zTB := (zTB_in (List.mem_of_getElem? (i := 137) (by decide +kernel)) (by decide +kernel))
set_option maxHeartbeats 1000000 in
set_option maxRecDepth 100000 in
theorem n_X4 {G : va_G} {dA : Nat → ClassId} {dS : Nat} {l : Launch} (h0 sz : Nat) : Met l yX4_init (Cond.code yX4_init cX4_init 1 none :: zTB) ({ frames := 2, cells := 7, slots := 907, locals := 32 }) (iPc G dA dS h0 sz (z_oc 5) [.null, .int 0, .int 0, .int 0, .int 0, .int 0, .int 0, .null, .null] []) (iQc G h0 sz (z_oc 5) [.null, .int 0, .int 0, .int 0, .int 0, .int 0, .int 0, .null, .null] (LX4 dA dS h0)) 7 907 (va_A [(h0, .inr (z_oc 5, [.null, .int 0, .int 0, .int 0, .int 0, .int 0, .int 0, .null, .null]))] sz) := by
  refine i_met (by decide) rfl (Nat.le_of_ble_eq_true rfl) ?_
  intro p e s m args below meth c Q A ls cx hA hl hP hD hfin
  have hl : lv_has ls 1 [(0, .ref h0)] := hl
  have hS : va_S A s.heap s.heap [] := va_S.rf
  refine i_obj cx hl kn_X4_o dX4_init_0 dX4_init_1 ⟨Nat.le_of_ble_eq_true rfl, Nat.le_of_ble_eq_true rfl⟩ ?_
  have hP : va_P G zCl ((h0, .inr (z_oc 5, [.null, .int 0, .int 0, .int 0, .int 0, .int 0, .int 0, .null, .null])) :: ([])) s.heap := hP
  have hD : va_D A ((h0, .inr (z_oc 5, [.null, .int 0, .int 0, .int 0, .int 0, .int 0, .int 0, .null, .null])) :: ([])) := hD
  refine i_arr (b := 3) cx ob_X4 hl hP hD hS hA (atype := .int) (aty := .int) (t0 := 0) rfl k_A0 rfl (fun _ _ h => h) (n := 400) (N := 400) (a0 := (400, .inl fun _ => 0)) (fun cA => aI cA 400) (by decide) (by decide +kernel) (Nat.le_of_ble_eq_true rfl) (Nat.le_of_ble_eq_true rfl) (Nat.le_of_ble_eq_true rfl) 0 (Nat.le_of_ble_eq_true rfl) kn_X4_f9 rfl rfl rfl (fun _ => rfl) (fun _ => rfl) (Nat.le_of_ble_eq_true rfl) dX4_init_4 (fun st k => lv_sipush (v := 400) cx.1 cx.2.1 dX4_init_5 (by decide) k) dX4_init_8 dX4_init_10 (fun q1 H locs hP hD hS => ?_)
  have hP : va_P G zCl ((h0, .inr (z_oc 5, [.ref q1, .int 0, .int 0, .int 0, .int 0, .int 0, .int 0, .null, .null])) :: (([]) ++ [(q1, .inl (dA 0, (400, .inl fun _ => 0)))])) H := hP
  have hD : va_D A ((h0, .inr (z_oc 5, [.ref q1, .int 0, .int 0, .int 0, .int 0, .int 0, .int 0, .null, .null])) :: (([]) ++ [(q1, .inl (dA 0, (400, .inl fun _ => 0)))])) := hD
  refine W.eq (g2 := F0 m 13 ls []) rfl ?_
  refine lv_aload_n cx.1 cx.2.1 dX4_init_13 rfl (lv_at hl 0 rfl) ?_
  refine va_ldcS cx.1 cx.2.1 cx.2.2.2.1 cx.2.2.2.2.2.2.2.2.2 dX4_init_14 ?_
  refine i_put cx ob_X4 hP hD hS 7 (Nat.le_of_ble_eq_true rfl) kn_X4_f17 rfl rfl rfl rfl (Nat.le_of_ble_eq_true rfl) dX4_init_16 (fun H locs hP hD hS => ?_)
  have hP : va_P G zCl ((h0, .inr (z_oc 5, [.ref q1, .int 0, .int 0, .int 0, .int 0, .int 0, .int 0, .ref dS, .null])) :: (([]) ++ [(q1, .inl (dA 0, (400, .inl fun _ => 0)))])) H := hP
  have hD : va_D A ((h0, .inr (z_oc 5, [.ref q1, .int 0, .int 0, .int 0, .int 0, .int 0, .int 0, .ref dS, .null])) :: (([]) ++ [(q1, .inl (dA 0, (400, .inl fun _ => 0)))])) := hD
  refine W.eq (g2 := F0 m 19 ls []) rfl ?_
  refine lv_aload_n cx.1 cx.2.1 dX4_init_19 rfl (lv_at hl 0 rfl) ?_
  refine i_new (L := LX0 dA) cx ob_X0 (fun q sz => n_X0 q sz) rfl kn_X0_c kn_X0_i kn_X0_m (Or.inr (by decide)) rfl kn_X4_k21 kn_X0_s ⟨by decide, by decide, by decide +kernel⟩ (fun j hj => by rcases (show j = 0 ∨ j = 1 ∨ j = 2 ∨ j = 3 ∨ j = 4 ∨ j = 5 ∨ j = 6 by omega) with rfl | rfl | rfl | rfl | rfl | rfl | rfl <;> rfl) ⟨rfl, rfl⟩ ⟨Nat.le_of_ble_eq_true rfl, Nat.le_of_ble_eq_true rfl⟩ ⟨Nat.le_of_ble_eq_true rfl, Nat.le_of_ble_eq_true rfl⟩ hl hP hD hS hA (fun _ => Nat.le_of_ble_eq_true rfl) dX4_init_20 dX4_init_23 dX4_init_24 (fun q2 u2 H locs hP hD hS => ?_)
  refine i_put cx ob_X4 hP hD hS 8 (Nat.le_of_ble_eq_true rfl) kn_X4_f24 rfl rfl rfl rfl (Nat.le_of_ble_eq_true rfl) dX4_init_27 (fun H locs hP hD hS => ?_)
  have hP : va_P G zCl ((h0, .inr (z_oc 5, [.ref q1, .int 0, .int 0, .int 0, .int 0, .int 0, .int 0, .ref dS, .ref q2])) :: ((([]) ++ [(q1, .inl (dA 0, (400, .inl fun _ => 0)))]) ++ LX0 dA q2 u2)) H := hP
  have hD : va_D A ((h0, .inr (z_oc 5, [.ref q1, .int 0, .int 0, .int 0, .int 0, .int 0, .int 0, .ref dS, .ref q2])) :: ((([]) ++ [(q1, .inl (dA 0, (400, .inl fun _ => 0)))]) ++ LX0 dA q2 u2)) := hD
  refine W.eq (g2 := F0 m 30 ls []) rfl ?_
  refine W.widen (k := 7) (n := 907) (Nat.le_of_ble_eq_true rfl) (Nat.le_of_ble_eq_true rfl) ?_
  exact hfin _ _ _ _ (fun k => if k = 0 then q1 else if k = 1 then q2 else if k < 7 then u2 (k - 2) else 0) dX4_init_30 hP hD hS
