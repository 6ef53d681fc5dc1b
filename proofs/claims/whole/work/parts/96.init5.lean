/-! CONSTRUCTORS: the model, eight rows at a time, written by wip/whole/gen_init3.py -/
abbrev zaf (F : va_W) (q : Nat) (c : ClassId) (N : Nat) (f : Nat → Int32) : va_W := F ++ [(q, .inl (c, (N, .inl f)))]
abbrev zai (F : va_W) (q : Nat) (c : ClassId) (N : Nat) : va_W := F ++ [(q, .inl (c, (N, .inl fun _ => 0)))]
abbrev zaj (F : va_W) (q : Nat) (c : ClassId) (N : Nat) : va_W := F ++ [(q, .inl (c, (N, .inr (.inl fun _ => 0))))]
theorem kn_X10_f7 : Cond.fieldLink RX10 7 RX10 (TX10 0).2.1 (TX10 0).2.2.1 ∈ zTB := (zTB_in (List.mem_of_getElem? (i := 1143) (by decide +kernel)) (by decide +kernel))
theorem kn_X10_f13 : Cond.fieldLink RX10 13 RX10 (TX10 2).2.1 (TX10 2).2.2.1 ∈ zTB := (zTB_in (List.mem_of_getElem? (i := 1145) (by decide +kernel)) (by decide +kernel))
theorem kn_X10_f17 : Cond.fieldLink RX10 17 RX10 (TX10 3).2.1 (TX10 3).2.2.1 ∈ zTB := (zTB_in (List.mem_of_getElem? (i := 1146) (by decide +kernel)) (by decide +kernel))
theorem kn_X10_f20 : Cond.fieldLink RX10 20 RX10 (TX10 4).2.1 (TX10 4).2.2.1 ∈ zTB := (zTB_in (List.mem_of_getElem? (i := 1147) (by decide +kernel)) (by decide +kernel))
theorem kn_X10_f23 : Cond.fieldLink RX10 23 RX10 (TX10 5).2.1 (TX10 5).2.2.1 ∈ zTB := (zTB_in (List.mem_of_getElem? (i := 1148) (by decide +kernel)) (by decide +kernel))
theorem kn_X10_f26 : Cond.fieldLink RX10 26 RX10 (TX10 6).2.1 (TX10 6).2.2.1 ∈ zTB := (zTB_in (List.mem_of_getElem? (i := 1149) (by decide +kernel)) (by decide +kernel))
theorem kn_X10_f29 : Cond.fieldLink RX10 29 RX10 (TX10 7).2.1 (TX10 7).2.2.1 ∈ zTB := (zTB_in (List.mem_of_getElem? (i := 1150) (by decide +kernel)) (by decide +kernel))
theorem kn_X10_f32 : Cond.fieldLink RX10 32 RX10 (TX10 8).2.1 (TX10 8).2.2.1 ∈ zTB := (zTB_in (List.mem_of_getElem? (i := 1151) (by decide +kernel)) (by decide +kernel))
theorem kn_X10_f35 : Cond.fieldLink RX10 35 RX10 (TX10 9).2.1 (TX10 9).2.2.1 ∈ zTB := (zTB_in (List.mem_of_getElem? (i := 1152) (by decide +kernel)) (by decide +kernel))
theorem kn_X10_f38 : Cond.fieldLink RX10 38 RX10 (TX10 10).2.1 (TX10 10).2.2.1 ∈ zTB := (zTB_in (List.mem_of_getElem? (i := 1153) (by decide +kernel)) (by decide +kernel))
theorem kn_X10_f41 : Cond.fieldLink RX10 41 RX10 (TX10 11).2.1 (TX10 11).2.2.1 ∈ zTB := (zTB_in (List.mem_of_getElem? (i := 1154) (by decide +kernel)) (by decide +kernel))
theorem kn_X10_f44 : Cond.fieldLink RX10 44 RX10 (TX10 12).2.1 (TX10 12).2.2.1 ∈ zTB := (zTB_in (List.mem_of_getElem? (i := 1155) (by decide +kernel)) (by decide +kernel))
theorem kn_X10_f47 : Cond.fieldLink RX10 47 RX10 (TX10 13).2.1 (TX10 13).2.2.1 ∈ zTB := (zTB_in (List.mem_of_getElem? (i := 1156) (by decide +kernel)) (by decide +kernel))
theorem kn_X10_f50 : Cond.fieldLink RX10 50 RX10 (TX10 14).2.1 (TX10 14).2.2.1 ∈ zTB := (zTB_in (List.mem_of_getElem? (i := 1157) (by decide +kernel)) (by decide +kernel))
theorem kn_X10_f53 : Cond.fieldLink RX10 53 RX10 (TX10 15).2.1 (TX10 15).2.2.1 ∈ zTB := (zTB_in (List.mem_of_getElem? (i := 1158) (by decide +kernel)) (by decide +kernel))
theorem kn_X10_f56 : Cond.fieldLink RX10 56 RX10 (TX10 16).2.1 (TX10 16).2.2.1 ∈ zTB := (zTB_in (List.mem_of_getElem? (i := 1159) (by decide +kernel)) (by decide +kernel))
theorem kn_X10_f59 : Cond.fieldLink RX10 59 RX10 (TX10 17).2.1 (TX10 17).2.2.1 ∈ zTB := (zTB_in (List.mem_of_getElem? (i := 1160) (by decide +kernel)) (by decide +kernel))
theorem kn_X10_f62 : Cond.fieldLink RX10 62 RX10 (TX10 25).2.1 (TX10 25).2.2.1 ∈ zTB := (zTB_in (List.mem_of_getElem? (i := 1168) (by decide +kernel)) (by decide +kernel))
theorem kn_X10_f65 : Cond.fieldLink RX10 65 RX10 (TX10 27).2.1 (TX10 27).2.2.1 ∈ zTB := (zTB_in (List.mem_of_getElem? (i := 1170) (by decide +kernel)) (by decide +kernel))
theorem kn_X10_f68 : Cond.fieldLink RX10 68 RX10 (TX10 28).2.1 (TX10 28).2.2.1 ∈ zTB := (zTB_in (List.mem_of_getElem? (i := 1171) (by decide +kernel)) (by decide +kernel))
theorem kn_X10_f71 : Cond.fieldLink RX10 71 RX10 (TX10 29).2.1 (TX10 29).2.2.1 ∈ zTB := (zTB_in (List.mem_of_getElem? (i := 1172) (by decide +kernel)) (by decide +kernel))
theorem kn_X10_f75 : Cond.fieldLink RX10 75 RX10 (TX10 31).2.1 (TX10 31).2.2.1 ∈ zTB := (zTB_in (List.mem_of_getElem? (i := 1174) (by decide +kernel)) (by decide +kernel))
theorem kn_X10_f78 : Cond.fieldLink RX10 78 RX10 (TX10 32).2.1 (TX10 32).2.2.1 ∈ zTB := (zTB_in (List.mem_of_getElem? (i := 1175) (by decide +kernel)) (by decide +kernel))
theorem kn_X10_f81 : Cond.fieldLink RX10 81 RX10 (TX10 33).2.1 (TX10 33).2.2.1 ∈ zTB := (zTB_in (List.mem_of_getElem? (i := 1176) (by decide +kernel)) (by decide +kernel))
theorem kn_X10_f84 : Cond.fieldLink RX10 84 RX10 (TX10 34).2.1 (TX10 34).2.2.1 ∈ zTB := (zTB_in (List.mem_of_getElem? (i := 1177) (by decide +kernel)) (by decide +kernel))
theorem kn_X10_f87 : Cond.fieldLink RX10 87 RX10 (TX10 40).2.1 (TX10 40).2.2.1 ∈ zTB := (zTB_in (List.mem_of_getElem? (i := 1183) (by decide +kernel)) (by decide +kernel))
theorem kn_X10_f90 : Cond.fieldLink RX10 90 RX10 (TX10 41).2.1 (TX10 41).2.2.1 ∈ zTB := (zTB_in (List.mem_of_getElem? (i := 1184) (by decide +kernel)) (by decide +kernel))
theorem kn_X10_f93 : Cond.fieldLink RX10 93 RX10 (TX10 42).2.1 (TX10 42).2.2.1 ∈ zTB := (zTB_in (List.mem_of_getElem? (i := 1185) (by decide +kernel)) (by decide +kernel))
theorem kn_X10_f96 : Cond.fieldLink RX10 96 RX10 (TX10 54).2.1 (TX10 54).2.2.1 ∈ zTB := (zTB_in (List.mem_of_getElem? (i := 1197) (by decide +kernel)) (by decide +kernel))
theorem kn_X10_f99 : Cond.fieldLink RX10 99 RX10 (TX10 55).2.1 (TX10 55).2.2.1 ∈ zTB := (zTB_in (List.mem_of_getElem? (i := 1198) (by decide +kernel)) (by decide +kernel))
theorem kn_X10_f102 : Cond.fieldLink RX10 102 RX10 (TX10 56).2.1 (TX10 56).2.2.1 ∈ zTB := (zTB_in (List.mem_of_getElem? (i := 1199) (by decide +kernel)) (by decide +kernel))
set_option maxHeartbeats 1000000 in
theorem x10_0 {G : va_G} {dA : Nat → ClassId} {dS : Nat} {p : Program} {l : Launch} {e : Env} {R : Room} {s : State} {m : MethodId} {args : Array Value} {below : List Frame} {meth : Method} {c : Code} {H : Heap} {locs : List Loc} {cells slots : Nat} {Q : State → Prop} {A : Nat → Prop} {ls : Array Slot} {h0 : Nat} {F : va_W} {fs : List Value} (cx : iCx G dA dS cX10_init RX10 2 p s m args meth c) (hl : lv_has ls 2 [(0, .ref h0)]) (hA : ∀ q : Nat, s.heap.size ≤ q → A q) (hn : fs.length = 57) (hc : cells + 8 ≤ R.cells) (hs : slots + 5987 ≤ R.slots) (hP : va_P G zCl ((h0, .inr (z_oc 11, fs)) :: F) H) (hD : va_D A ((h0, .inr (z_oc 11, fs)) :: F)) (hS : va_S A s.heap H locs)
    (kk : ∀ (q1 q2 q3 q4 q5 q6 q7 q8 : Nat) (H1 : Heap) (locs1 : List Loc), (((((((((fs.set 0 (.ref q1)).set 2 (.ref q2)).set 3 (.ref q3)).set 4 (.ref q4)).set 5 (.ref q5)).set 6 (.ref q6)).set 7 (.ref q7)).set 8 (.ref q8))).length = 57 → va_P G zCl ((h0, .inr (z_oc 11, ((((((((fs.set 0 (.ref q1)).set 2 (.ref q2)).set 3 (.ref q3)).set 4 (.ref q4)).set 5 (.ref q5)).set 6 (.ref q6)).set 7 (.ref q7)).set 8 (.ref q8)))) :: (zai (zai (zai (zai (zai (zai (zai (zai F q1 (dA 1) 400) q2 (dA 0) 3) q3 (dA 0) 4800) q4 (dA 0) 16) q5 (dA 0) 720) q6 (dA 0) 16) q7 (dA 0) 16) q8 (dA 0) 16)) H1 → va_D A ((h0, .inr (z_oc 11, ((((((((fs.set 0 (.ref q1)).set 2 (.ref q2)).set 3 (.ref q3)).set 4 (.ref q4)).set 5 (.ref q5)).set 6 (.ref q6)).set 7 (.ref q7)).set 8 (.ref q8)))) :: (zai (zai (zai (zai (zai (zai (zai (zai F q1 (dA 1) 400) q2 (dA 0) 3) q3 (dA 0) 4800) q4 (dA 0) 16) q5 (dA 0) 720) q6 (dA 0) 16) q7 (dA 0) 16) q8 (dA 0) 16)) → va_S A s.heap H1 locs1 → W p l e R s m args below meth c H1 locs1 (cells + 8) (slots + 5987) Q (F0 m 70 ls [])) : W p l e R s m args below meth c H locs cells slots Q (F0 m 4 ls []) := by
  obtain ⟨f0, hf0⟩ : ∃ x : List Value, x = fs := ⟨_, rfl⟩
  obtain ⟨F0_, hF0⟩ : ∃ x : va_W, x = F := ⟨_, rfl⟩
  rw [← hf0] at hn
  rw [← hf0, ← hF0] at hP hD
  refine i_arrO (b := 3) cx ob_X10 hl hP hD hS hA (atype := .byte) (aty := .byte) (t0 := 1) rfl k_A1 rfl (fun _ _ h => h) (n := 400) (N := 400) (a0 := (400, .inl fun _ => 0)) (fun cA => aBy cA 400) (by decide) (by decide +kernel) (Nat.le_of_ble_eq_true rfl) (by omega) (by omega) 0 (Nat.le_of_ble_eq_true rfl) kn_X10_f7 rfl rfl rfl (fun _ => rfl) (fun _ => rfl) (Nat.lt_of_lt_of_eq (Nat.le_of_ble_eq_true rfl) hn.symm) dX10_init_4 (fun st k => lv_sipush (v := 400) cx.1 cx.2.1 dX10_init_5 (by decide) k) dX10_init_8 dX10_init_10 (fun q1 f1 F1 H locs hf1 hF1 hn1 hP hD hS => ?_)
  replace hn := hn1.trans hn
  refine W.eq (g2 := F0 m 13 ls []) rfl ?_
  refine i_arrO (b := 1) cx ob_X10 hl hP hD hS hA (atype := .int) (aty := .int) (t0 := 0) rfl k_A0 rfl (fun _ _ h => h) (n := 3) (N := 3) (a0 := (3, .inl fun _ => 0)) (fun cA => aI cA 3) (by decide) (by decide +kernel) (Nat.le_of_ble_eq_true rfl) (by omega) (by omega) 2 (Nat.le_of_ble_eq_true rfl) kn_X10_f13 rfl rfl rfl (fun _ => rfl) (fun _ => rfl) (Nat.lt_of_lt_of_eq (Nat.le_of_ble_eq_true rfl) hn.symm) dX10_init_13 (fun st k => lv_iconst (v := 3) cx.1 cx.2.1 dX10_init_14 (by decide) k) dX10_init_15 dX10_init_17 (fun q2 f2 F2 H locs hf2 hF2 hn1 hP hD hS => ?_)
  replace hn := hn1.trans hn
  refine W.eq (g2 := F0 m 20 ls []) rfl ?_
  refine i_arrO (b := 3) cx ob_X10 hl hP hD hS hA (atype := .int) (aty := .int) (t0 := 0) rfl k_A0 rfl (fun _ _ h => h) (n := 4800) (N := 4800) (a0 := (4800, .inl fun _ => 0)) (fun cA => aI cA 4800) (by decide) (by decide +kernel) (Nat.le_of_ble_eq_true rfl) (by omega) (by omega) 3 (Nat.le_of_ble_eq_true rfl) kn_X10_f17 rfl rfl rfl (fun _ => rfl) (fun _ => rfl) (Nat.lt_of_lt_of_eq (Nat.le_of_ble_eq_true rfl) hn.symm) dX10_init_20 (fun st k => lv_sipush (v := 4800) cx.1 cx.2.1 dX10_init_21 (by decide) k) dX10_init_24 dX10_init_26 (fun q3 f3 F3 H locs hf3 hF3 hn1 hP hD hS => ?_)
  replace hn := hn1.trans hn
  refine W.eq (g2 := F0 m 29 ls []) rfl ?_
  refine i_arrO (b := 2) cx ob_X10 hl hP hD hS hA (atype := .int) (aty := .int) (t0 := 0) rfl k_A0 rfl (fun _ _ h => h) (n := 16) (N := 16) (a0 := (16, .inl fun _ => 0)) (fun cA => aI cA 16) (by decide) (by decide +kernel) (Nat.le_of_ble_eq_true rfl) (by omega) (by omega) 4 (Nat.le_of_ble_eq_true rfl) kn_X10_f20 rfl rfl rfl (fun _ => rfl) (fun _ => rfl) (Nat.lt_of_lt_of_eq (Nat.le_of_ble_eq_true rfl) hn.symm) dX10_init_29 (fun st k => lv_bipush (v := 16) cx.1 cx.2.1 dX10_init_30 (by decide) k) dX10_init_32 dX10_init_34 (fun q4 f4 F4 H locs hf4 hF4 hn1 hP hD hS => ?_)
  replace hn := hn1.trans hn
  refine W.eq (g2 := F0 m 37 ls []) rfl ?_
  refine i_arrO (b := 3) cx ob_X10 hl hP hD hS hA (atype := .int) (aty := .int) (t0 := 0) rfl k_A0 rfl (fun _ _ h => h) (n := 720) (N := 720) (a0 := (720, .inl fun _ => 0)) (fun cA => aI cA 720) (by decide) (by decide +kernel) (Nat.le_of_ble_eq_true rfl) (by omega) (by omega) 5 (Nat.le_of_ble_eq_true rfl) kn_X10_f23 rfl rfl rfl (fun _ => rfl) (fun _ => rfl) (Nat.lt_of_lt_of_eq (Nat.le_of_ble_eq_true rfl) hn.symm) dX10_init_37 (fun st k => lv_sipush (v := 720) cx.1 cx.2.1 dX10_init_38 (by decide) k) dX10_init_41 dX10_init_43 (fun q5 f5 F5 H locs hf5 hF5 hn1 hP hD hS => ?_)
  replace hn := hn1.trans hn
  refine W.eq (g2 := F0 m 46 ls []) rfl ?_
  refine i_arrO (b := 2) cx ob_X10 hl hP hD hS hA (atype := .int) (aty := .int) (t0 := 0) rfl k_A0 rfl (fun _ _ h => h) (n := 16) (N := 16) (a0 := (16, .inl fun _ => 0)) (fun cA => aI cA 16) (by decide) (by decide +kernel) (Nat.le_of_ble_eq_true rfl) (by omega) (by omega) 6 (Nat.le_of_ble_eq_true rfl) kn_X10_f26 rfl rfl rfl (fun _ => rfl) (fun _ => rfl) (Nat.lt_of_lt_of_eq (Nat.le_of_ble_eq_true rfl) hn.symm) dX10_init_46 (fun st k => lv_bipush (v := 16) cx.1 cx.2.1 dX10_init_47 (by decide) k) dX10_init_49 dX10_init_51 (fun q6 f6 F6 H locs hf6 hF6 hn1 hP hD hS => ?_)
  replace hn := hn1.trans hn
  refine W.eq (g2 := F0 m 54 ls []) rfl ?_
  refine i_arrO (b := 2) cx ob_X10 hl hP hD hS hA (atype := .int) (aty := .int) (t0 := 0) rfl k_A0 rfl (fun _ _ h => h) (n := 16) (N := 16) (a0 := (16, .inl fun _ => 0)) (fun cA => aI cA 16) (by decide) (by decide +kernel) (Nat.le_of_ble_eq_true rfl) (by omega) (by omega) 7 (Nat.le_of_ble_eq_true rfl) kn_X10_f29 rfl rfl rfl (fun _ => rfl) (fun _ => rfl) (Nat.lt_of_lt_of_eq (Nat.le_of_ble_eq_true rfl) hn.symm) dX10_init_54 (fun st k => lv_bipush (v := 16) cx.1 cx.2.1 dX10_init_55 (by decide) k) dX10_init_57 dX10_init_59 (fun q7 f7 F7 H locs hf7 hF7 hn1 hP hD hS => ?_)
  replace hn := hn1.trans hn
  refine W.eq (g2 := F0 m 62 ls []) rfl ?_
  refine i_arrO (b := 2) cx ob_X10 hl hP hD hS hA (atype := .int) (aty := .int) (t0 := 0) rfl k_A0 rfl (fun _ _ h => h) (n := 16) (N := 16) (a0 := (16, .inl fun _ => 0)) (fun cA => aI cA 16) (by decide) (by decide +kernel) (Nat.le_of_ble_eq_true rfl) (by omega) (by omega) 8 (Nat.le_of_ble_eq_true rfl) kn_X10_f32 rfl rfl rfl (fun _ => rfl) (fun _ => rfl) (Nat.lt_of_lt_of_eq (Nat.le_of_ble_eq_true rfl) hn.symm) dX10_init_62 (fun st k => lv_bipush (v := 16) cx.1 cx.2.1 dX10_init_63 (by decide) k) dX10_init_65 dX10_init_67 (fun q8 f8 F8 H locs hf8 hF8 hn1 hP hD hS => ?_)
  replace hn := hn1.trans hn
  refine W.eq (g2 := F0 m 70 ls []) rfl ?_
  subst hf0 hf1 hf2 hf3 hf4 hf5 hf6 hf7 hf8
  subst hF0 hF1 hF2 hF3 hF4 hF5 hF6 hF7 hF8
  refine W.widen (k := cells + 8) (n := slots + 5987) (by omega) (by omega) ?_
  exact kk q1 q2 q3 q4 q5 q6 q7 q8 H locs hn hP hD hS
set_option maxHeartbeats 1000000 in
theorem x10_1 {G : va_G} {dA : Nat → ClassId} {dS : Nat} {p : Program} {l : Launch} {e : Env} {R : Room} {s : State} {m : MethodId} {args : Array Value} {below : List Frame} {meth : Method} {c : Code} {H : Heap} {locs : List Loc} {cells slots : Nat} {Q : State → Prop} {A : Nat → Prop} {ls : Array Slot} {h0 : Nat} {F : va_W} {fs : List Value} (cx : iCx G dA dS cX10_init RX10 2 p s m args meth c) (hl : lv_has ls 2 [(0, .ref h0)]) (hA : ∀ q : Nat, s.heap.size ≤ q → A q) (hn : fs.length = 57) (hc : cells + 8 ≤ R.cells) (hs : slots + 148 ≤ R.slots) (hP : va_P G zCl ((h0, .inr (z_oc 11, fs)) :: F) H) (hD : va_D A ((h0, .inr (z_oc 11, fs)) :: F)) (hS : va_S A s.heap H locs)
    (kk : ∀ (q1 q2 q3 q4 q5 q6 q7 q8 : Nat) (H1 : Heap) (locs1 : List Loc), (((((((((fs.set 9 (.ref q1)).set 10 (.ref q2)).set 11 (.ref q3)).set 12 (.ref q4)).set 13 (.ref q5)).set 14 (.ref q6)).set 15 (.ref q7)).set 16 (.ref q8))).length = 57 → va_P G zCl ((h0, .inr (z_oc 11, ((((((((fs.set 9 (.ref q1)).set 10 (.ref q2)).set 11 (.ref q3)).set 12 (.ref q4)).set 13 (.ref q5)).set 14 (.ref q6)).set 15 (.ref q7)).set 16 (.ref q8)))) :: (zai (zai (zai (zai (zai (zai (zai (zai F q1 (dA 0) 16) q2 (dA 0) 16) q3 (dA 0) 16) q4 (dA 0) 16) q5 (dA 0) 16) q6 (dA 0) 16) q7 (dA 0) 4) q8 (dA 0) 48)) H1 → va_D A ((h0, .inr (z_oc 11, ((((((((fs.set 9 (.ref q1)).set 10 (.ref q2)).set 11 (.ref q3)).set 12 (.ref q4)).set 13 (.ref q5)).set 14 (.ref q6)).set 15 (.ref q7)).set 16 (.ref q8)))) :: (zai (zai (zai (zai (zai (zai (zai (zai F q1 (dA 0) 16) q2 (dA 0) 16) q3 (dA 0) 16) q4 (dA 0) 16) q5 (dA 0) 16) q6 (dA 0) 16) q7 (dA 0) 4) q8 (dA 0) 48)) → va_S A s.heap H1 locs1 → W p l e R s m args below meth c H1 locs1 (cells + 8) (slots + 148) Q (F0 m 133 ls [])) : W p l e R s m args below meth c H locs cells slots Q (F0 m 70 ls []) := by
  obtain ⟨f0, hf0⟩ : ∃ x : List Value, x = fs := ⟨_, rfl⟩
  obtain ⟨F0_, hF0⟩ : ∃ x : va_W, x = F := ⟨_, rfl⟩
  rw [← hf0] at hn
  rw [← hf0, ← hF0] at hP hD
  refine i_arrO (b := 2) cx ob_X10 hl hP hD hS hA (atype := .int) (aty := .int) (t0 := 0) rfl k_A0 rfl (fun _ _ h => h) (n := 16) (N := 16) (a0 := (16, .inl fun _ => 0)) (fun cA => aI cA 16) (by decide) (by decide +kernel) (Nat.le_of_ble_eq_true rfl) (by omega) (by omega) 9 (Nat.le_of_ble_eq_true rfl) kn_X10_f35 rfl rfl rfl (fun _ => rfl) (fun _ => rfl) (Nat.lt_of_lt_of_eq (Nat.le_of_ble_eq_true rfl) hn.symm) dX10_init_70 (fun st k => lv_bipush (v := 16) cx.1 cx.2.1 dX10_init_71 (by decide) k) dX10_init_73 dX10_init_75 (fun q1 f1 F1 H locs hf1 hF1 hn1 hP hD hS => ?_)
  replace hn := hn1.trans hn
  refine W.eq (g2 := F0 m 78 ls []) rfl ?_
  refine i_arrO (b := 2) cx ob_X10 hl hP hD hS hA (atype := .int) (aty := .int) (t0 := 0) rfl k_A0 rfl (fun _ _ h => h) (n := 16) (N := 16) (a0 := (16, .inl fun _ => 0)) (fun cA => aI cA 16) (by decide) (by decide +kernel) (Nat.le_of_ble_eq_true rfl) (by omega) (by omega) 10 (Nat.le_of_ble_eq_true rfl) kn_X10_f38 rfl rfl rfl (fun _ => rfl) (fun _ => rfl) (Nat.lt_of_lt_of_eq (Nat.le_of_ble_eq_true rfl) hn.symm) dX10_init_78 (fun st k => lv_bipush (v := 16) cx.1 cx.2.1 dX10_init_79 (by decide) k) dX10_init_81 dX10_init_83 (fun q2 f2 F2 H locs hf2 hF2 hn1 hP hD hS => ?_)
  replace hn := hn1.trans hn
  refine W.eq (g2 := F0 m 86 ls []) rfl ?_
  refine i_arrO (b := 2) cx ob_X10 hl hP hD hS hA (atype := .int) (aty := .int) (t0 := 0) rfl k_A0 rfl (fun _ _ h => h) (n := 16) (N := 16) (a0 := (16, .inl fun _ => 0)) (fun cA => aI cA 16) (by decide) (by decide +kernel) (Nat.le_of_ble_eq_true rfl) (by omega) (by omega) 11 (Nat.le_of_ble_eq_true rfl) kn_X10_f41 rfl rfl rfl (fun _ => rfl) (fun _ => rfl) (Nat.lt_of_lt_of_eq (Nat.le_of_ble_eq_true rfl) hn.symm) dX10_init_86 (fun st k => lv_bipush (v := 16) cx.1 cx.2.1 dX10_init_87 (by decide) k) dX10_init_89 dX10_init_91 (fun q3 f3 F3 H locs hf3 hF3 hn1 hP hD hS => ?_)
  replace hn := hn1.trans hn
  refine W.eq (g2 := F0 m 94 ls []) rfl ?_
  refine i_arrO (b := 2) cx ob_X10 hl hP hD hS hA (atype := .int) (aty := .int) (t0 := 0) rfl k_A0 rfl (fun _ _ h => h) (n := 16) (N := 16) (a0 := (16, .inl fun _ => 0)) (fun cA => aI cA 16) (by decide) (by decide +kernel) (Nat.le_of_ble_eq_true rfl) (by omega) (by omega) 12 (Nat.le_of_ble_eq_true rfl) kn_X10_f44 rfl rfl rfl (fun _ => rfl) (fun _ => rfl) (Nat.lt_of_lt_of_eq (Nat.le_of_ble_eq_true rfl) hn.symm) dX10_init_94 (fun st k => lv_bipush (v := 16) cx.1 cx.2.1 dX10_init_95 (by decide) k) dX10_init_97 dX10_init_99 (fun q4 f4 F4 H locs hf4 hF4 hn1 hP hD hS => ?_)
  replace hn := hn1.trans hn
  refine W.eq (g2 := F0 m 102 ls []) rfl ?_
  refine i_arrO (b := 2) cx ob_X10 hl hP hD hS hA (atype := .int) (aty := .int) (t0 := 0) rfl k_A0 rfl (fun _ _ h => h) (n := 16) (N := 16) (a0 := (16, .inl fun _ => 0)) (fun cA => aI cA 16) (by decide) (by decide +kernel) (Nat.le_of_ble_eq_true rfl) (by omega) (by omega) 13 (Nat.le_of_ble_eq_true rfl) kn_X10_f47 rfl rfl rfl (fun _ => rfl) (fun _ => rfl) (Nat.lt_of_lt_of_eq (Nat.le_of_ble_eq_true rfl) hn.symm) dX10_init_102 (fun st k => lv_bipush (v := 16) cx.1 cx.2.1 dX10_init_103 (by decide) k) dX10_init_105 dX10_init_107 (fun q5 f5 F5 H locs hf5 hF5 hn1 hP hD hS => ?_)
  replace hn := hn1.trans hn
  refine W.eq (g2 := F0 m 110 ls []) rfl ?_
  refine i_arrO (b := 2) cx ob_X10 hl hP hD hS hA (atype := .int) (aty := .int) (t0 := 0) rfl k_A0 rfl (fun _ _ h => h) (n := 16) (N := 16) (a0 := (16, .inl fun _ => 0)) (fun cA => aI cA 16) (by decide) (by decide +kernel) (Nat.le_of_ble_eq_true rfl) (by omega) (by omega) 14 (Nat.le_of_ble_eq_true rfl) kn_X10_f50 rfl rfl rfl (fun _ => rfl) (fun _ => rfl) (Nat.lt_of_lt_of_eq (Nat.le_of_ble_eq_true rfl) hn.symm) dX10_init_110 (fun st k => lv_bipush (v := 16) cx.1 cx.2.1 dX10_init_111 (by decide) k) dX10_init_113 dX10_init_115 (fun q6 f6 F6 H locs hf6 hF6 hn1 hP hD hS => ?_)
  replace hn := hn1.trans hn
  refine W.eq (g2 := F0 m 118 ls []) rfl ?_
  refine i_arrO (b := 1) cx ob_X10 hl hP hD hS hA (atype := .int) (aty := .int) (t0 := 0) rfl k_A0 rfl (fun _ _ h => h) (n := 4) (N := 4) (a0 := (4, .inl fun _ => 0)) (fun cA => aI cA 4) (by decide) (by decide +kernel) (Nat.le_of_ble_eq_true rfl) (by omega) (by omega) 15 (Nat.le_of_ble_eq_true rfl) kn_X10_f53 rfl rfl rfl (fun _ => rfl) (fun _ => rfl) (Nat.lt_of_lt_of_eq (Nat.le_of_ble_eq_true rfl) hn.symm) dX10_init_118 (fun st k => lv_iconst (v := 4) cx.1 cx.2.1 dX10_init_119 (by decide) k) dX10_init_120 dX10_init_122 (fun q7 f7 F7 H locs hf7 hF7 hn1 hP hD hS => ?_)
  replace hn := hn1.trans hn
  refine W.eq (g2 := F0 m 125 ls []) rfl ?_
  refine i_arrO (b := 2) cx ob_X10 hl hP hD hS hA (atype := .int) (aty := .int) (t0 := 0) rfl k_A0 rfl (fun _ _ h => h) (n := 48) (N := 48) (a0 := (48, .inl fun _ => 0)) (fun cA => aI cA 48) (by decide) (by decide +kernel) (Nat.le_of_ble_eq_true rfl) (by omega) (by omega) 16 (Nat.le_of_ble_eq_true rfl) kn_X10_f56 rfl rfl rfl (fun _ => rfl) (fun _ => rfl) (Nat.lt_of_lt_of_eq (Nat.le_of_ble_eq_true rfl) hn.symm) dX10_init_125 (fun st k => lv_bipush (v := 48) cx.1 cx.2.1 dX10_init_126 (by decide) k) dX10_init_128 dX10_init_130 (fun q8 f8 F8 H locs hf8 hF8 hn1 hP hD hS => ?_)
  replace hn := hn1.trans hn
  refine W.eq (g2 := F0 m 133 ls []) rfl ?_
  subst hf0 hf1 hf2 hf3 hf4 hf5 hf6 hf7 hf8
  subst hF0 hF1 hF2 hF3 hF4 hF5 hF6 hF7 hF8
  refine W.widen (k := cells + 8) (n := slots + 148) (by omega) (by omega) ?_
  exact kk q1 q2 q3 q4 q5 q6 q7 q8 H locs hn hP hD hS
set_option maxHeartbeats 1000000 in
theorem x10_2 {G : va_G} {dA : Nat → ClassId} {dS : Nat} {p : Program} {l : Launch} {e : Env} {R : Room} {s : State} {m : MethodId} {args : Array Value} {below : List Frame} {meth : Method} {c : Code} {H : Heap} {locs : List Loc} {cells slots : Nat} {Q : State → Prop} {A : Nat → Prop} {ls : Array Slot} {h0 : Nat} {F : va_W} {fs : List Value} (cx : iCx G dA dS cX10_init RX10 2 p s m args meth c) (hl : lv_has ls 2 [(0, .ref h0)]) (hA : ∀ q : Nat, s.heap.size ≤ q → A q) (hn : fs.length = 57) (hc : cells + 6 ≤ R.cells) (hs : slots + 4218 ≤ R.slots) (hP : va_P G zCl ((h0, .inr (z_oc 11, fs)) :: F) H) (hD : va_D A ((h0, .inr (z_oc 11, fs)) :: F)) (hS : va_S A s.heap H locs)
    (kk : ∀ (q1 q2 q3 q4 q5 q6 : Nat) (H1 : Heap) (locs1 : List Loc), (((((((fs.set 17 (.ref q1)).set 25 (.ref q2)).set 27 (.ref q3)).set 28 (.ref q4)).set 29 (.ref q5)).set 31 (.ref q6))).length = 57 → va_P G zCl ((h0, .inr (z_oc 11, ((((((fs.set 17 (.ref q1)).set 25 (.ref q2)).set 27 (.ref q3)).set 28 (.ref q4)).set 29 (.ref q5)).set 31 (.ref q6)))) :: (zaj (zaj (zai (zai (zai (zai F q1 (dA 0) 3456) q2 (dA 0) 400) q3 (dA 0) 144) q4 (dA 0) 144) q5 (dA 3) 64) q6 (dA 3) 10)) H1 → va_D A ((h0, .inr (z_oc 11, ((((((fs.set 17 (.ref q1)).set 25 (.ref q2)).set 27 (.ref q3)).set 28 (.ref q4)).set 29 (.ref q5)).set 31 (.ref q6)))) :: (zaj (zaj (zai (zai (zai (zai F q1 (dA 0) 3456) q2 (dA 0) 400) q3 (dA 0) 144) q4 (dA 0) 144) q5 (dA 3) 64) q6 (dA 3) 10)) → va_S A s.heap H1 locs1 → W p l e R s m args below meth c H1 locs1 (cells + 6) (slots + 4218) Q (F0 m 185 ls [])) : W p l e R s m args below meth c H locs cells slots Q (F0 m 133 ls []) := by
  obtain ⟨f0, hf0⟩ : ∃ x : List Value, x = fs := ⟨_, rfl⟩
  obtain ⟨F0_, hF0⟩ : ∃ x : va_W, x = F := ⟨_, rfl⟩
  rw [← hf0] at hn
  rw [← hf0, ← hF0] at hP hD
  refine i_arrO (b := 3) cx ob_X10 hl hP hD hS hA (atype := .int) (aty := .int) (t0 := 0) rfl k_A0 rfl (fun _ _ h => h) (n := 3456) (N := 3456) (a0 := (3456, .inl fun _ => 0)) (fun cA => aI cA 3456) (by decide) (by decide +kernel) (Nat.le_of_ble_eq_true rfl) (by omega) (by omega) 17 (Nat.le_of_ble_eq_true rfl) kn_X10_f59 rfl rfl rfl (fun _ => rfl) (fun _ => rfl) (Nat.lt_of_lt_of_eq (Nat.le_of_ble_eq_true rfl) hn.symm) dX10_init_133 (fun st k => lv_sipush (v := 3456) cx.1 cx.2.1 dX10_init_134 (by decide) k) dX10_init_137 dX10_init_139 (fun q1 f1 F1 H locs hf1 hF1 hn1 hP hD hS => ?_)
  replace hn := hn1.trans hn
  refine W.eq (g2 := F0 m 142 ls []) rfl ?_
  refine i_arrO (b := 3) cx ob_X10 hl hP hD hS hA (atype := .int) (aty := .int) (t0 := 0) rfl k_A0 rfl (fun _ _ h => h) (n := 400) (N := 400) (a0 := (400, .inl fun _ => 0)) (fun cA => aI cA 400) (by decide) (by decide +kernel) (Nat.le_of_ble_eq_true rfl) (by omega) (by omega) 25 (Nat.le_of_ble_eq_true rfl) kn_X10_f62 rfl rfl rfl (fun _ => rfl) (fun _ => rfl) (Nat.lt_of_lt_of_eq (Nat.le_of_ble_eq_true rfl) hn.symm) dX10_init_142 (fun st k => lv_sipush (v := 400) cx.1 cx.2.1 dX10_init_143 (by decide) k) dX10_init_146 dX10_init_148 (fun q2 f2 F2 H locs hf2 hF2 hn1 hP hD hS => ?_)
  replace hn := hn1.trans hn
  refine W.eq (g2 := F0 m 151 ls []) rfl ?_
  refine i_arrO (b := 3) cx ob_X10 hl hP hD hS hA (atype := .int) (aty := .int) (t0 := 0) rfl k_A0 rfl (fun _ _ h => h) (n := 144) (N := 144) (a0 := (144, .inl fun _ => 0)) (fun cA => aI cA 144) (by decide) (by decide +kernel) (Nat.le_of_ble_eq_true rfl) (by omega) (by omega) 27 (Nat.le_of_ble_eq_true rfl) kn_X10_f65 rfl rfl rfl (fun _ => rfl) (fun _ => rfl) (Nat.lt_of_lt_of_eq (Nat.le_of_ble_eq_true rfl) hn.symm) dX10_init_151 (fun st k => lv_sipush (v := 144) cx.1 cx.2.1 dX10_init_152 (by decide) k) dX10_init_155 dX10_init_157 (fun q3 f3 F3 H locs hf3 hF3 hn1 hP hD hS => ?_)
  replace hn := hn1.trans hn
  refine W.eq (g2 := F0 m 160 ls []) rfl ?_
  refine i_arrO (b := 3) cx ob_X10 hl hP hD hS hA (atype := .int) (aty := .int) (t0 := 0) rfl k_A0 rfl (fun _ _ h => h) (n := 144) (N := 144) (a0 := (144, .inl fun _ => 0)) (fun cA => aI cA 144) (by decide) (by decide +kernel) (Nat.le_of_ble_eq_true rfl) (by omega) (by omega) 28 (Nat.le_of_ble_eq_true rfl) kn_X10_f68 rfl rfl rfl (fun _ => rfl) (fun _ => rfl) (Nat.lt_of_lt_of_eq (Nat.le_of_ble_eq_true rfl) hn.symm) dX10_init_160 (fun st k => lv_sipush (v := 144) cx.1 cx.2.1 dX10_init_161 (by decide) k) dX10_init_164 dX10_init_166 (fun q4 f4 F4 H locs hf4 hF4 hn1 hP hD hS => ?_)
  replace hn := hn1.trans hn
  refine W.eq (g2 := F0 m 169 ls []) rfl ?_
  refine i_arrO (b := 2) cx ob_X10 hl hP hD hS hA (atype := .long) (aty := .long) (t0 := 3) rfl k_A3 rfl (fun _ _ h => h) (n := 64) (N := 64) (a0 := (64, .inr (.inl fun _ => 0))) (fun cA => aJ cA 64) (by decide) (by decide +kernel) (Nat.le_of_ble_eq_true rfl) (by omega) (by omega) 29 (Nat.le_of_ble_eq_true rfl) kn_X10_f71 rfl rfl rfl (fun _ => rfl) (fun _ => rfl) (Nat.lt_of_lt_of_eq (Nat.le_of_ble_eq_true rfl) hn.symm) dX10_init_169 (fun st k => lv_bipush (v := 64) cx.1 cx.2.1 dX10_init_170 (by decide) k) dX10_init_172 dX10_init_174 (fun q5 f5 F5 H locs hf5 hF5 hn1 hP hD hS => ?_)
  replace hn := hn1.trans hn
  refine W.eq (g2 := F0 m 177 ls []) rfl ?_
  refine i_arrO (b := 2) cx ob_X10 hl hP hD hS hA (atype := .long) (aty := .long) (t0 := 3) rfl k_A3 rfl (fun _ _ h => h) (n := 10) (N := 10) (a0 := (10, .inr (.inl fun _ => 0))) (fun cA => aJ cA 10) (by decide) (by decide +kernel) (Nat.le_of_ble_eq_true rfl) (by omega) (by omega) 31 (Nat.le_of_ble_eq_true rfl) kn_X10_f75 rfl rfl rfl (fun _ => rfl) (fun _ => rfl) (Nat.lt_of_lt_of_eq (Nat.le_of_ble_eq_true rfl) hn.symm) dX10_init_177 (fun st k => lv_bipush (v := 10) cx.1 cx.2.1 dX10_init_178 (by decide) k) dX10_init_180 dX10_init_182 (fun q6 f6 F6 H locs hf6 hF6 hn1 hP hD hS => ?_)
  replace hn := hn1.trans hn
  refine W.eq (g2 := F0 m 185 ls []) rfl ?_
  subst hf0 hf1 hf2 hf3 hf4 hf5 hf6
  subst hF0 hF1 hF2 hF3 hF4 hF5 hF6
  refine W.widen (k := cells + 6) (n := slots + 4218) (by omega) (by omega) ?_
  exact kk q1 q2 q3 q4 q5 q6 H locs hn hP hD hS
set_option maxHeartbeats 1000000 in
theorem x10_3 {G : va_G} {dA : Nat → ClassId} {dS : Nat} {p : Program} {l : Launch} {e : Env} {R : Room} {s : State} {m : MethodId} {args : Array Value} {below : List Frame} {meth : Method} {c : Code} {H : Heap} {locs : List Loc} {cells slots : Nat} {Q : State → Prop} {A : Nat → Prop} {ls : Array Slot} {h0 : Nat} {F : va_W} {fs : List Value} (cx : iCx G dA dS cX10_init RX10 2 p s m args meth c) (hl : lv_has ls 2 [(0, .ref h0)]) (hA : ∀ q : Nat, s.heap.size ≤ q → A q) (hn : fs.length = 57) (hc : cells + 1 ≤ R.cells) (hs : slots + 1392 ≤ R.slots) (hP : va_P G zCl ((h0, .inr (z_oc 11, fs)) :: F) H) (hD : va_D A ((h0, .inr (z_oc 11, fs)) :: F)) (hS : va_S A s.heap H locs)
    (kk : ∀ (q1 : Nat) (H1 : Heap) (locs1 : List Loc), ((fs.set 32 (.ref q1))).length = 57 → va_P G zCl ((h0, .inr (z_oc 11, (fs.set 32 (.ref q1)))) :: (zai F q1 (dA 0) 1392)) H1 → va_D A ((h0, .inr (z_oc 11, (fs.set 32 (.ref q1)))) :: (zai F q1 (dA 0) 1392)) → va_S A s.heap H1 locs1 → W p l e R s m args below meth c H1 locs1 (cells + 1) (slots + 1392) Q (F0 m 194 ls [])) : W p l e R s m args below meth c H locs cells slots Q (F0 m 185 ls []) := by
  obtain ⟨f0, hf0⟩ : ∃ x : List Value, x = fs := ⟨_, rfl⟩
  obtain ⟨F0_, hF0⟩ : ∃ x : va_W, x = F := ⟨_, rfl⟩
  rw [← hf0] at hn
  rw [← hf0, ← hF0] at hP hD
  refine i_arrO (b := 3) cx ob_X10 hl hP hD hS hA (atype := .int) (aty := .int) (t0 := 0) rfl k_A0 rfl (fun _ _ h => h) (n := 1392) (N := 1392) (a0 := (1392, .inl fun _ => 0)) (fun cA => aI cA 1392) (by decide) (by decide +kernel) (Nat.le_of_ble_eq_true rfl) (by omega) (by omega) 32 (Nat.le_of_ble_eq_true rfl) kn_X10_f78 rfl rfl rfl (fun _ => rfl) (fun _ => rfl) (Nat.lt_of_lt_of_eq (Nat.le_of_ble_eq_true rfl) hn.symm) dX10_init_185 (fun st k => lv_sipush (v := 1392) cx.1 cx.2.1 dX10_init_186 (by decide) k) dX10_init_189 dX10_init_191 (fun q1 f1 F1 H locs hf1 hF1 hn1 hP hD hS => ?_)
  replace hn := hn1.trans hn
  refine W.eq (g2 := F0 m 194 ls []) rfl ?_
  subst hf0 hf1
  subst hF0 hF1
  refine W.widen (k := cells + 1) (n := slots + 1392) (by omega) (by omega) ?_
  exact kk q1 H locs hn hP hD hS
set_option maxHeartbeats 1000000 in
theorem x10_4 {G : va_G} {dA : Nat → ClassId} {dS : Nat} {p : Program} {l : Launch} {e : Env} {R : Room} {s : State} {m : MethodId} {args : Array Value} {below : List Frame} {meth : Method} {c : Code} {H : Heap} {locs : List Loc} {cells slots : Nat} {Q : State → Prop} {A : Nat → Prop} {ls : Array Slot} {h0 : Nat} {F : va_W} {fs : List Value} (cx : iCx G dA dS cX10_init RX10 2 p s m args meth c) (hl : lv_has ls 2 [(0, .ref h0)]) (hA : ∀ q : Nat, s.heap.size ≤ q → A q) (hn : fs.length = 57) (hc : cells + 8 ≤ R.cells) (hs : slots + 6885 ≤ R.slots) (hP : va_P G zCl ((h0, .inr (z_oc 11, fs)) :: F) H) (hD : va_D A ((h0, .inr (z_oc 11, fs)) :: F)) (hS : va_S A s.heap H locs)
    (kk : ∀ (q1 q2 q3 q4 q5 q6 q7 q8 : Nat) (H1 : Heap) (locs1 : List Loc), (((((((((fs.set 33 (.ref q1)).set 34 (.ref q2)).set 40 (.ref q3)).set 41 (.ref q4)).set 42 (.ref q5)).set 54 (.ref q6)).set 55 (.ref q7)).set 56 (.ref q8))).length = 57 → va_P G zCl ((h0, .inr (z_oc 11, ((((((((fs.set 33 (.ref q1)).set 34 (.ref q2)).set 40 (.ref q3)).set 41 (.ref q4)).set 42 (.ref q5)).set 54 (.ref q6)).set 55 (.ref q7)).set 56 (.ref q8)))) :: (zai (zai (zai (zai (zai (zai (zai (zai F q1 (dA 0) 576) q2 (dA 0) 576) q3 (dA 0) 7) q4 (dA 0) 7) q5 (dA 0) 144) q6 (dA 0) 3) q7 (dA 0) 5568) q8 (dA 2) 4)) H1 → va_D A ((h0, .inr (z_oc 11, ((((((((fs.set 33 (.ref q1)).set 34 (.ref q2)).set 40 (.ref q3)).set 41 (.ref q4)).set 42 (.ref q5)).set 54 (.ref q6)).set 55 (.ref q7)).set 56 (.ref q8)))) :: (zai (zai (zai (zai (zai (zai (zai (zai F q1 (dA 0) 576) q2 (dA 0) 576) q3 (dA 0) 7) q4 (dA 0) 7) q5 (dA 0) 144) q6 (dA 0) 3) q7 (dA 0) 5568) q8 (dA 2) 4)) → va_S A s.heap H1 locs1 → W p l e R s m args below meth c H1 locs1 (cells + 8) (slots + 6885) Q (F0 m 260 ls [])) : W p l e R s m args below meth c H locs cells slots Q (F0 m 194 ls []) := by
  obtain ⟨f0, hf0⟩ : ∃ x : List Value, x = fs := ⟨_, rfl⟩
  obtain ⟨F0_, hF0⟩ : ∃ x : va_W, x = F := ⟨_, rfl⟩
  rw [← hf0] at hn
  rw [← hf0, ← hF0] at hP hD
  refine i_arrO (b := 3) cx ob_X10 hl hP hD hS hA (atype := .int) (aty := .int) (t0 := 0) rfl k_A0 rfl (fun _ _ h => h) (n := 576) (N := 576) (a0 := (576, .inl fun _ => 0)) (fun cA => aI cA 576) (by decide) (by decide +kernel) (Nat.le_of_ble_eq_true rfl) (by omega) (by omega) 33 (Nat.le_of_ble_eq_true rfl) kn_X10_f81 rfl rfl rfl (fun _ => rfl) (fun _ => rfl) (Nat.lt_of_lt_of_eq (Nat.le_of_ble_eq_true rfl) hn.symm) dX10_init_194 (fun st k => lv_sipush (v := 576) cx.1 cx.2.1 dX10_init_195 (by decide) k) dX10_init_198 dX10_init_200 (fun q1 f1 F1 H locs hf1 hF1 hn1 hP hD hS => ?_)
  replace hn := hn1.trans hn
  refine W.eq (g2 := F0 m 203 ls []) rfl ?_
  refine i_arrO (b := 3) cx ob_X10 hl hP hD hS hA (atype := .int) (aty := .int) (t0 := 0) rfl k_A0 rfl (fun _ _ h => h) (n := 576) (N := 576) (a0 := (576, .inl fun _ => 0)) (fun cA => aI cA 576) (by decide) (by decide +kernel) (Nat.le_of_ble_eq_true rfl) (by omega) (by omega) 34 (Nat.le_of_ble_eq_true rfl) kn_X10_f84 rfl rfl rfl (fun _ => rfl) (fun _ => rfl) (Nat.lt_of_lt_of_eq (Nat.le_of_ble_eq_true rfl) hn.symm) dX10_init_203 (fun st k => lv_sipush (v := 576) cx.1 cx.2.1 dX10_init_204 (by decide) k) dX10_init_207 dX10_init_209 (fun q2 f2 F2 H locs hf2 hF2 hn1 hP hD hS => ?_)
  replace hn := hn1.trans hn
  refine W.eq (g2 := F0 m 212 ls []) rfl ?_
  refine i_arrO (b := 2) cx ob_X10 hl hP hD hS hA (atype := .int) (aty := .int) (t0 := 0) rfl k_A0 rfl (fun _ _ h => h) (n := 7) (N := 7) (a0 := (7, .inl fun _ => 0)) (fun cA => aI cA 7) (by decide) (by decide +kernel) (Nat.le_of_ble_eq_true rfl) (by omega) (by omega) 40 (Nat.le_of_ble_eq_true rfl) kn_X10_f87 rfl rfl rfl (fun _ => rfl) (fun _ => rfl) (Nat.lt_of_lt_of_eq (Nat.le_of_ble_eq_true rfl) hn.symm) dX10_init_212 (fun st k => lv_bipush (v := 7) cx.1 cx.2.1 dX10_init_213 (by decide) k) dX10_init_215 dX10_init_217 (fun q3 f3 F3 H locs hf3 hF3 hn1 hP hD hS => ?_)
  replace hn := hn1.trans hn
  refine W.eq (g2 := F0 m 220 ls []) rfl ?_
  refine i_arrO (b := 2) cx ob_X10 hl hP hD hS hA (atype := .int) (aty := .int) (t0 := 0) rfl k_A0 rfl (fun _ _ h => h) (n := 7) (N := 7) (a0 := (7, .inl fun _ => 0)) (fun cA => aI cA 7) (by decide) (by decide +kernel) (Nat.le_of_ble_eq_true rfl) (by omega) (by omega) 41 (Nat.le_of_ble_eq_true rfl) kn_X10_f90 rfl rfl rfl (fun _ => rfl) (fun _ => rfl) (Nat.lt_of_lt_of_eq (Nat.le_of_ble_eq_true rfl) hn.symm) dX10_init_220 (fun st k => lv_bipush (v := 7) cx.1 cx.2.1 dX10_init_221 (by decide) k) dX10_init_223 dX10_init_225 (fun q4 f4 F4 H locs hf4 hF4 hn1 hP hD hS => ?_)
  replace hn := hn1.trans hn
  refine W.eq (g2 := F0 m 228 ls []) rfl ?_
  refine i_arrO (b := 3) cx ob_X10 hl hP hD hS hA (atype := .int) (aty := .int) (t0 := 0) rfl k_A0 rfl (fun _ _ h => h) (n := 144) (N := 144) (a0 := (144, .inl fun _ => 0)) (fun cA => aI cA 144) (by decide) (by decide +kernel) (Nat.le_of_ble_eq_true rfl) (by omega) (by omega) 42 (Nat.le_of_ble_eq_true rfl) kn_X10_f93 rfl rfl rfl (fun _ => rfl) (fun _ => rfl) (Nat.lt_of_lt_of_eq (Nat.le_of_ble_eq_true rfl) hn.symm) dX10_init_228 (fun st k => lv_sipush (v := 144) cx.1 cx.2.1 dX10_init_229 (by decide) k) dX10_init_232 dX10_init_234 (fun q5 f5 F5 H locs hf5 hF5 hn1 hP hD hS => ?_)
  replace hn := hn1.trans hn
  refine W.eq (g2 := F0 m 237 ls []) rfl ?_
  refine i_arrO (b := 1) cx ob_X10 hl hP hD hS hA (atype := .int) (aty := .int) (t0 := 0) rfl k_A0 rfl (fun _ _ h => h) (n := 3) (N := 3) (a0 := (3, .inl fun _ => 0)) (fun cA => aI cA 3) (by decide) (by decide +kernel) (Nat.le_of_ble_eq_true rfl) (by omega) (by omega) 54 (Nat.le_of_ble_eq_true rfl) kn_X10_f96 rfl rfl rfl (fun _ => rfl) (fun _ => rfl) (Nat.lt_of_lt_of_eq (Nat.le_of_ble_eq_true rfl) hn.symm) dX10_init_237 (fun st k => lv_iconst (v := 3) cx.1 cx.2.1 dX10_init_238 (by decide) k) dX10_init_239 dX10_init_241 (fun q6 f6 F6 H locs hf6 hF6 hn1 hP hD hS => ?_)
  replace hn := hn1.trans hn
  refine W.eq (g2 := F0 m 244 ls []) rfl ?_
  refine i_arrO (b := 3) cx ob_X10 hl hP hD hS hA (atype := .int) (aty := .int) (t0 := 0) rfl k_A0 rfl (fun _ _ h => h) (n := 5568) (N := 5568) (a0 := (5568, .inl fun _ => 0)) (fun cA => aI cA 5568) (by decide) (by decide +kernel) (Nat.le_of_ble_eq_true rfl) (by omega) (by omega) 55 (Nat.le_of_ble_eq_true rfl) kn_X10_f99 rfl rfl rfl (fun _ => rfl) (fun _ => rfl) (Nat.lt_of_lt_of_eq (Nat.le_of_ble_eq_true rfl) hn.symm) dX10_init_244 (fun st k => lv_sipush (v := 5568) cx.1 cx.2.1 dX10_init_245 (by decide) k) dX10_init_248 dX10_init_250 (fun q7 f7 F7 H locs hf7 hF7 hn1 hP hD hS => ?_)
  replace hn := hn1.trans hn
  refine W.eq (g2 := F0 m 253 ls []) rfl ?_
  refine i_arrO (b := 1) cx ob_X10 hl hP hD hS hA (atype := .boolean) (aty := .boolean) (t0 := 2) rfl k_A2 rfl (fun _ _ h => h) (n := 4) (N := 4) (a0 := (4, .inl fun _ => 0)) (fun cA => aZ cA 4) (by decide) (by decide +kernel) (Nat.le_of_ble_eq_true rfl) (by omega) (by omega) 56 (Nat.le_of_ble_eq_true rfl) kn_X10_f102 rfl rfl rfl (fun _ => rfl) (fun _ => rfl) (Nat.lt_of_lt_of_eq (Nat.le_of_ble_eq_true rfl) hn.symm) dX10_init_253 (fun st k => lv_iconst (v := 4) cx.1 cx.2.1 dX10_init_254 (by decide) k) dX10_init_255 dX10_init_257 (fun q8 f8 F8 H locs hf8 hF8 hn1 hP hD hS => ?_)
  replace hn := hn1.trans hn
  refine W.eq (g2 := F0 m 260 ls []) rfl ?_
  subst hf0 hf1 hf2 hf3 hf4 hf5 hf6 hf7 hf8
  subst hF0 hF1 hF2 hF3 hF4 hF5 hF6 hF7 hF8
  refine W.widen (k := cells + 8) (n := slots + 6885) (by omega) (by omega) ?_
  exact kk q1 q2 q3 q4 q5 q6 q7 q8 H locs hn hP hD hS
