/-! THE LAW'S CASES, written by wip/whole/gen_law.py -/
theorem lg_cmp_rfl (x : Int64) : lg_cmp x x = 0 := by unfold lg_cmp; simp
theorem lw_Bi (x : Int) : inI (if x = 0 then 0 else 1) := by split <;> decide
theorem kc_74 : z_Cal 74 5 1 6 := ⟨(zTB_in (List.mem_of_getElem? (i := 564) (by decide +kernel)) (by decide +kernel)), (zTB_in (List.mem_of_getElem? (i := 109) (by decide +kernel)) (by decide +kernel)), ⟨by decide, by decide, by decide +kernel⟩, by decide, rfl, rfl⟩
theorem ki_74 : Cond.instanceMethod (z_mt 74).1 ∈ zTB := (zTB_in (List.mem_of_getElem? (i := 562) (by decide +kernel)) (by decide +kernel))
theorem kx_74 : Cond.selects RX9 (z_mt 74).1 (z_mt 74).1 ∈ zTB := (zTB_in (List.mem_of_getElem? (i := 563) (by decide +kernel)) (by decide +kernel))
theorem kw_74 : Cond.methodLink R_law 13 (z_mt 74).1 ∈ zTB := (zTB_in (List.mem_of_getElem? (i := 561) (by decide +kernel)) (by decide +kernel))
theorem kc_113 : z_Cal 113 5 1 6 := ⟨(zTB_in (List.mem_of_getElem? (i := 1318) (by decide +kernel)) (by decide +kernel)), (zTB_in (List.mem_of_getElem? (i := 120) (by decide +kernel)) (by decide +kernel)), ⟨by decide, by decide, by decide +kernel⟩, by decide, rfl, rfl⟩
theorem ki_113 : Cond.instanceMethod (z_mt 113).1 ∈ zTB := (zTB_in (List.mem_of_getElem? (i := 1316) (by decide +kernel)) (by decide +kernel))
theorem kx_113 : Cond.selects RX10 (z_mt 113).1 (z_mt 113).1 ∈ zTB := (zTB_in (List.mem_of_getElem? (i := 1317) (by decide +kernel)) (by decide +kernel))
theorem kw_113 : Cond.methodLink R_law 17 (z_mt 113).1 ∈ zTB := (zTB_in (List.mem_of_getElem? (i := 1315) (by decide +kernel)) (by decide +kernel))
set_option maxHeartbeats 1000000 in
theorem lw_case_0 {E : zE} {adV : Nat → Nat} {p : Program} {l : Launch} {e : Env} {s : State} {m : MethodId} {below : List Frame} {meth : Method} {c : Code} {b L : Nat} {xs : Nat → Int32} {H : Heap} {locs : List Loc} {cells slots i : Nat} {Q : State → Prop} {ls : Array Slot} {w : zW} {LS RX : Int → List clau} (C0 : lw_C E adV p s m meth c b L xs) (h9 : i + 8 < L) (hcs : cells ≤ room_1.cells ∧ slots ≤ room_1.slots) (hl : lv_has ls 4 [(0, .ref b), (1, .ref (E.2.2 10 0)), (2, .ref (E.2.2 11 0)), (3, .int (nI i))]) (hR : z_Rel E w H) (hS : va_S (lw_A s) s.heap H locs) (hSim : Sim LS RX w) (kk : ∀ (LS RX : Int → List clau) (w : zW) (H : Heap) (locs : List Loc), Sim LS RX w → z_Rel E w H → va_S (lw_A s) s.heap H locs → W p l e room_1 s m #[Value.ref b] below meth c H locs cells slots Q (F0 m 1320 ls [])) : W p l e room_1 s m #[Value.ref b] below meth c H locs cells slots Q (F0 m 164 ls []) := by
  obtain ⟨hx, hb, -⟩ := id C0.1
  obtain ⟨r, w1, w2, e1, e2, hSim⟩ := p_feed (d := 0) hSim (lw_X xs (i + 1)) (lw_X xs (i + 2)) (lw_X xs (i + 3)) (lw_X xs (i + 4)) (lw_X xs (i + 5))
  refine lv_aload_n hx hb dL_law_164 rfl (lv_at hl 1 rfl) ?_
  refine lw_arg (k := 1) (bb := 1) C0 hS (by omega) hl dL_law_165 dL_law_166 (fun st k => lv_iconst (v := nI 1) hx hb dL_law_167 (by decide) k) dL_law_168 dL_law_169 ?_
  refine W.eq (g2 := F0 m 170 ls _) rfl ?_
  refine lw_arg (k := 2) (bb := 1) C0 hS (by omega) hl dL_law_170 dL_law_171 (fun st k => lv_iconst (v := nI 2) hx hb dL_law_172 (by decide) k) dL_law_173 dL_law_174 ?_
  refine W.eq (g2 := F0 m 175 ls _) rfl ?_
  refine lw_arg (k := 3) (bb := 1) C0 hS (by omega) hl dL_law_175 dL_law_176 (fun st k => lv_iconst (v := nI 3) hx hb dL_law_177 (by decide) k) dL_law_178 dL_law_179 ?_
  refine W.eq (g2 := F0 m 180 ls _) rfl ?_
  refine lw_arg (k := 4) (bb := 1) C0 hS (by omega) hl dL_law_180 dL_law_181 (fun st k => lv_iconst (v := nI 4) hx hb dL_law_182 (by decide) k) dL_law_183 dL_law_184 ?_
  refine W.eq (g2 := F0 m 185 ls _) rfl ?_
  refine lw_arg (k := 5) (bb := 1) C0 hS (by omega) hl dL_law_185 dL_law_186 (fun st k => lv_iconst (v := nI 5) hx hb dL_law_187 (by decide) k) dL_law_188 dL_law_189 ?_
  refine W.eq (g2 := F0 m 190 ls _) rfl ?_
  refine lw_callI (z := 74) (d := 12) (c0 := 10) (i := 0) (ys := [lw_X xs (i + 1), lw_X xs (i + 2), lw_X xs (i + 3), lw_X xs (i + 4), lw_X xs (i + 5)]) C0 hR hS hl.1 kc_74 ob_X9 ⟨by decide, by decide⟩ (fun y hy => by simp only [List.mem_cons, List.not_mem_nil, or_false] at hy; rcases hy with rfl | rfl | rfl | rfl | rfl <;> first | exact lw_Xi xs _ | exact lw_Bi _) (Nat.le_of_ble_eq_true rfl) rfl (show z_call zP 13 74 (vR 10 0 :: List.map vI [lw_X xs (i + 1), lw_X xs (i + 2), lw_X xs (i + 3), lw_X xs (i + 4), lw_X xs (i + 5)]) _ = some _ from e1) kw_74 ki_74 kx_74 ⟨Nat.le_of_ble_eq_true rfl, Nat.le_of_ble_eq_true rfl⟩ (Nat.le_of_ble_eq_true rfl) dL_law_190 hcs (fun H locs hR hS => ?_)
  refine W.eq (g2 := F0 m 193 ls _) rfl ?_
  refine lv_aload_n hx hb dL_law_193 rfl (lv_at hl 2 rfl) ?_
  refine lw_arg (k := 1) (bb := 1) C0 hS (by omega) hl dL_law_194 dL_law_195 (fun st k => lv_iconst (v := nI 1) hx hb dL_law_196 (by decide) k) dL_law_197 dL_law_198 ?_
  refine W.eq (g2 := F0 m 199 ls _) rfl ?_
  refine lw_arg (k := 2) (bb := 1) C0 hS (by omega) hl dL_law_199 dL_law_200 (fun st k => lv_iconst (v := nI 2) hx hb dL_law_201 (by decide) k) dL_law_202 dL_law_203 ?_
  refine W.eq (g2 := F0 m 204 ls _) rfl ?_
  refine lw_arg (k := 3) (bb := 1) C0 hS (by omega) hl dL_law_204 dL_law_205 (fun st k => lv_iconst (v := nI 3) hx hb dL_law_206 (by decide) k) dL_law_207 dL_law_208 ?_
  refine W.eq (g2 := F0 m 209 ls _) rfl ?_
  refine lw_arg (k := 4) (bb := 1) C0 hS (by omega) hl dL_law_209 dL_law_210 (fun st k => lv_iconst (v := nI 4) hx hb dL_law_211 (by decide) k) dL_law_212 dL_law_213 ?_
  refine W.eq (g2 := F0 m 214 ls _) rfl ?_
  refine lw_arg (k := 5) (bb := 1) C0 hS (by omega) hl dL_law_214 dL_law_215 (fun st k => lv_iconst (v := nI 5) hx hb dL_law_216 (by decide) k) dL_law_217 dL_law_218 ?_
  refine W.eq (g2 := F0 m 219 ls _) rfl ?_
  refine lw_callI (z := 113) (d := 12) (c0 := 11) (i := 0) (ys := [lw_X xs (i + 1), lw_X xs (i + 2), lw_X xs (i + 3), lw_X xs (i + 4), lw_X xs (i + 5)]) C0 hR hS hl.1 kc_113 ob_X10 ⟨by decide, by decide⟩ (fun y hy => by simp only [List.mem_cons, List.not_mem_nil, or_false] at hy; rcases hy with rfl | rfl | rfl | rfl | rfl <;> first | exact lw_Xi xs _ | exact lw_Bi _) (Nat.le_of_ble_eq_true rfl) rfl (show z_call zP 13 113 (vR 11 0 :: List.map vI [lw_X xs (i + 1), lw_X xs (i + 2), lw_X xs (i + 3), lw_X xs (i + 4), lw_X xs (i + 5)]) _ = some _ from e2) kw_113 ki_113 kx_113 ⟨Nat.le_of_ble_eq_true rfl, Nat.le_of_ble_eq_true rfl⟩ (Nat.le_of_ble_eq_true rfl) dL_law_219 hcs (fun H locs hR hS => ?_)
  refine W.eq (g2 := F0 m 222 ls _) rfl ?_
  exact lv_icmp_eq (tgt := 1320) hx hb dL_law_222 (by decide) (fun _ => kk LS RX w2 H locs hSim hR hS) (fun h => absurd rfl h)
theorem kc_75 : z_Cal 75 1 1 2 := ⟨(zTB_in (List.mem_of_getElem? (i := 572) (by decide +kernel)) (by decide +kernel)), (zTB_in (List.mem_of_getElem? (i := 109) (by decide +kernel)) (by decide +kernel)), ⟨by decide, by decide, by decide +kernel⟩, by decide, rfl, rfl⟩
theorem ki_75 : Cond.instanceMethod (z_mt 75).1 ∈ zTB := (zTB_in (List.mem_of_getElem? (i := 570) (by decide +kernel)) (by decide +kernel))
theorem kx_75 : Cond.selects RX9 (z_mt 75).1 (z_mt 75).1 ∈ zTB := (zTB_in (List.mem_of_getElem? (i := 571) (by decide +kernel)) (by decide +kernel))
theorem kw_75 : Cond.methodLink R_law 18 (z_mt 75).1 ∈ zTB := (zTB_in (List.mem_of_getElem? (i := 569) (by decide +kernel)) (by decide +kernel))
theorem kc_114 : z_Cal 114 1 1 2 := ⟨(zTB_in (List.mem_of_getElem? (i := 1326) (by decide +kernel)) (by decide +kernel)), (zTB_in (List.mem_of_getElem? (i := 120) (by decide +kernel)) (by decide +kernel)), ⟨by decide, by decide, by decide +kernel⟩, by decide, rfl, rfl⟩
theorem ki_114 : Cond.instanceMethod (z_mt 114).1 ∈ zTB := (zTB_in (List.mem_of_getElem? (i := 1324) (by decide +kernel)) (by decide +kernel))
theorem kx_114 : Cond.selects RX10 (z_mt 114).1 (z_mt 114).1 ∈ zTB := (zTB_in (List.mem_of_getElem? (i := 1325) (by decide +kernel)) (by decide +kernel))
theorem kw_114 : Cond.methodLink R_law 22 (z_mt 114).1 ∈ zTB := (zTB_in (List.mem_of_getElem? (i := 1323) (by decide +kernel)) (by decide +kernel))
set_option maxHeartbeats 1000000 in
theorem lw_case_1 {E : zE} {adV : Nat → Nat} {p : Program} {l : Launch} {e : Env} {s : State} {m : MethodId} {below : List Frame} {meth : Method} {c : Code} {b L : Nat} {xs : Nat → Int32} {H : Heap} {locs : List Loc} {cells slots i : Nat} {Q : State → Prop} {ls : Array Slot} {w : zW} {LS RX : Int → List clau} (C0 : lw_C E adV p s m meth c b L xs) (h9 : i + 8 < L) (hcs : cells ≤ room_1.cells ∧ slots ≤ room_1.slots) (hl : lv_has ls 4 [(0, .ref b), (1, .ref (E.2.2 10 0)), (2, .ref (E.2.2 11 0)), (3, .int (nI i))]) (hR : z_Rel E w H) (hS : va_S (lw_A s) s.heap H locs) (hSim : Sim LS RX w) (kk : ∀ (LS RX : Int → List clau) (w : zW) (H : Heap) (locs : List Loc), Sim LS RX w → z_Rel E w H → va_S (lw_A s) s.heap H locs → W p l e room_1 s m #[Value.ref b] below meth c H locs cells slots Q (F0 m 1320 ls [])) : W p l e room_1 s m #[Value.ref b] below meth c H locs cells slots Q (F0 m 227 ls []) := by
  obtain ⟨hx, hb, -⟩ := id C0.1
  obtain ⟨r, w1, w2, e1, e2, hSim⟩ := p_end (d := 0) hSim (lw_X xs (i + 1))
  refine lv_aload_n hx hb dL_law_227 rfl (lv_at hl 1 rfl) ?_
  refine lw_arg (k := 1) (bb := 1) C0 hS (by omega) hl dL_law_228 dL_law_229 (fun st k => lv_iconst (v := nI 1) hx hb dL_law_230 (by decide) k) dL_law_231 dL_law_232 ?_
  refine W.eq (g2 := F0 m 233 ls _) rfl ?_
  refine lw_callI (z := 75) (d := 12) (c0 := 10) (i := 0) (ys := [lw_X xs (i + 1)]) C0 hR hS hl.1 kc_75 ob_X9 ⟨by decide, by decide⟩ (fun y hy => by simp only [List.mem_cons, List.not_mem_nil, or_false] at hy; rcases hy with rfl <;> first | exact lw_Xi xs _ | exact lw_Bi _) (Nat.le_of_ble_eq_true rfl) rfl (show z_call zP 13 75 (vR 10 0 :: List.map vI [lw_X xs (i + 1)]) _ = some _ from e1) kw_75 ki_75 kx_75 ⟨Nat.le_of_ble_eq_true rfl, Nat.le_of_ble_eq_true rfl⟩ (Nat.le_of_ble_eq_true rfl) dL_law_233 hcs (fun H locs hR hS => ?_)
  refine W.eq (g2 := F0 m 236 ls _) rfl ?_
  refine lv_aload_n hx hb dL_law_236 rfl (lv_at hl 2 rfl) ?_
  refine lw_arg (k := 1) (bb := 1) C0 hS (by omega) hl dL_law_237 dL_law_238 (fun st k => lv_iconst (v := nI 1) hx hb dL_law_239 (by decide) k) dL_law_240 dL_law_241 ?_
  refine W.eq (g2 := F0 m 242 ls _) rfl ?_
  refine lw_callI (z := 114) (d := 12) (c0 := 11) (i := 0) (ys := [lw_X xs (i + 1)]) C0 hR hS hl.1 kc_114 ob_X10 ⟨by decide, by decide⟩ (fun y hy => by simp only [List.mem_cons, List.not_mem_nil, or_false] at hy; rcases hy with rfl <;> first | exact lw_Xi xs _ | exact lw_Bi _) (Nat.le_of_ble_eq_true rfl) rfl (show z_call zP 13 114 (vR 11 0 :: List.map vI [lw_X xs (i + 1)]) _ = some _ from e2) kw_114 ki_114 kx_114 ⟨Nat.le_of_ble_eq_true rfl, Nat.le_of_ble_eq_true rfl⟩ (Nat.le_of_ble_eq_true rfl) dL_law_242 hcs (fun H locs hR hS => ?_)
  refine W.eq (g2 := F0 m 245 ls _) rfl ?_
  exact lv_icmp_eq (tgt := 1320) hx hb dL_law_245 (by decide) (fun _ => kk LS RX w2 H locs hSim hR hS) (fun h => absurd rfl h)
theorem kc_76 : z_Cal 76 1 1 3 := ⟨(zTB_in (List.mem_of_getElem? (i := 576) (by decide +kernel)) (by decide +kernel)), (zTB_in (List.mem_of_getElem? (i := 109) (by decide +kernel)) (by decide +kernel)), ⟨by decide, by decide, by decide +kernel⟩, by decide, rfl, rfl⟩
theorem ki_76 : Cond.instanceMethod (z_mt 76).1 ∈ zTB := (zTB_in (List.mem_of_getElem? (i := 574) (by decide +kernel)) (by decide +kernel))
theorem kx_76 : Cond.selects RX9 (z_mt 76).1 (z_mt 76).1 ∈ zTB := (zTB_in (List.mem_of_getElem? (i := 575) (by decide +kernel)) (by decide +kernel))
theorem kw_76 : Cond.methodLink R_law 23 (z_mt 76).1 ∈ zTB := (zTB_in (List.mem_of_getElem? (i := 573) (by decide +kernel)) (by decide +kernel))
theorem kc_148 : z_Cal 148 1 1 3 := ⟨(zTB_in (List.mem_of_getElem? (i := 1330) (by decide +kernel)) (by decide +kernel)), (zTB_in (List.mem_of_getElem? (i := 120) (by decide +kernel)) (by decide +kernel)), ⟨by decide, by decide, by decide +kernel⟩, by decide, rfl, rfl⟩
theorem ki_148 : Cond.instanceMethod (z_mt 148).1 ∈ zTB := (zTB_in (List.mem_of_getElem? (i := 1328) (by decide +kernel)) (by decide +kernel))
theorem kx_148 : Cond.selects RX10 (z_mt 148).1 (z_mt 148).1 ∈ zTB := (zTB_in (List.mem_of_getElem? (i := 1329) (by decide +kernel)) (by decide +kernel))
theorem kw_148 : Cond.methodLink R_law 26 (z_mt 148).1 ∈ zTB := (zTB_in (List.mem_of_getElem? (i := 1327) (by decide +kernel)) (by decide +kernel))
set_option maxHeartbeats 1000000 in
theorem lw_case_2 {E : zE} {adV : Nat → Nat} {p : Program} {l : Launch} {e : Env} {s : State} {m : MethodId} {below : List Frame} {meth : Method} {c : Code} {b L : Nat} {xs : Nat → Int32} {H : Heap} {locs : List Loc} {cells slots i : Nat} {Q : State → Prop} {ls : Array Slot} {w : zW} {LS RX : Int → List clau} (C0 : lw_C E adV p s m meth c b L xs) (h9 : i + 8 < L) (hcs : cells ≤ room_1.cells ∧ slots ≤ room_1.slots) (hl : lv_has ls 4 [(0, .ref b), (1, .ref (E.2.2 10 0)), (2, .ref (E.2.2 11 0)), (3, .int (nI i))]) (hR : z_Rel E w H) (hS : va_S (lw_A s) s.heap H locs) (hSim : Sim LS RX w) (kk : ∀ (LS RX : Int → List clau) (w : zW) (H : Heap) (locs : List Loc), Sim LS RX w → z_Rel E w H → va_S (lw_A s) s.heap H locs → W p l e room_1 s m #[Value.ref b] below meth c H locs cells slots Q (F0 m 1320 ls [])) : W p l e room_1 s m #[Value.ref b] below meth c H locs cells slots Q (F0 m 250 ls []) := by
  obtain ⟨hx, hb, -⟩ := id C0.1
  obtain ⟨r, w1, w2, LS', RX', e1, e2, hSim⟩ := p_text (d := 0) hSim (lw_X xs (i + 1))
  refine lv_aload_n hx hb dL_law_250 rfl (lv_at hl 1 rfl) ?_
  refine lw_arg (k := 1) (bb := 1) C0 hS (by omega) hl dL_law_251 dL_law_252 (fun st k => lv_iconst (v := nI 1) hx hb dL_law_253 (by decide) k) dL_law_254 dL_law_255 ?_
  refine W.eq (g2 := F0 m 256 ls _) rfl ?_
  refine lw_callI (z := 76) (d := 60) (c0 := 10) (i := 0) (ys := [lw_X xs (i + 1)]) C0 hR hS hl.1 kc_76 ob_X9 ⟨by decide, by decide⟩ (fun y hy => by simp only [List.mem_cons, List.not_mem_nil, or_false] at hy; rcases hy with rfl <;> first | exact lw_Xi xs _ | exact lw_Bi _) (Nat.le_of_ble_eq_true rfl) rfl (show z_call zP 61 76 (vR 10 0 :: List.map vI [lw_X xs (i + 1)]) _ = some _ from e1) kw_76 ki_76 kx_76 ⟨Nat.le_of_ble_eq_true rfl, Nat.le_of_ble_eq_true rfl⟩ (Nat.le_of_ble_eq_true rfl) dL_law_256 hcs (fun H locs hR hS => ?_)
  refine W.eq (g2 := F0 m 259 ls _) rfl ?_
  refine lv_aload_n hx hb dL_law_259 rfl (lv_at hl 2 rfl) ?_
  refine lw_arg (k := 1) (bb := 1) C0 hS (by omega) hl dL_law_260 dL_law_261 (fun st k => lv_iconst (v := nI 1) hx hb dL_law_262 (by decide) k) dL_law_263 dL_law_264 ?_
  refine W.eq (g2 := F0 m 265 ls _) rfl ?_
  refine lw_callI (z := 148) (d := 60) (c0 := 11) (i := 0) (ys := [lw_X xs (i + 1)]) C0 hR hS hl.1 kc_148 ob_X10 ⟨by decide, by decide⟩ (fun y hy => by simp only [List.mem_cons, List.not_mem_nil, or_false] at hy; rcases hy with rfl <;> first | exact lw_Xi xs _ | exact lw_Bi _) (Nat.le_of_ble_eq_true rfl) rfl (show z_call zP 61 148 (vR 11 0 :: List.map vI [lw_X xs (i + 1)]) _ = some _ from e2) kw_148 ki_148 kx_148 ⟨Nat.le_of_ble_eq_true rfl, Nat.le_of_ble_eq_true rfl⟩ (Nat.le_of_ble_eq_true rfl) dL_law_265 hcs (fun H locs hR hS => ?_)
  refine W.eq (g2 := F0 m 268 ls _) rfl ?_
  exact lv_icmp_eq (tgt := 1320) hx hb dL_law_268 (by decide) (fun _ => kk LS' RX' w2 H locs hSim hR hS) (fun h => absurd rfl h)
theorem kc_77 : z_Cal 77 4 1 6 := ⟨(zTB_in (List.mem_of_getElem? (i := 780) (by decide +kernel)) (by decide +kernel)), (zTB_in (List.mem_of_getElem? (i := 109) (by decide +kernel)) (by decide +kernel)), ⟨by decide, by decide, by decide +kernel⟩, by decide, rfl, rfl⟩
theorem ki_77 : Cond.instanceMethod (z_mt 77).1 ∈ zTB := (zTB_in (List.mem_of_getElem? (i := 778) (by decide +kernel)) (by decide +kernel))
theorem kx_77 : Cond.selects RX9 (z_mt 77).1 (z_mt 77).1 ∈ zTB := (zTB_in (List.mem_of_getElem? (i := 779) (by decide +kernel)) (by decide +kernel))
theorem kw_77 : Cond.methodLink R_law 27 (z_mt 77).1 ∈ zTB := (zTB_in (List.mem_of_getElem? (i := 777) (by decide +kernel)) (by decide +kernel))
theorem kc_157 : z_Cal 157 4 1 6 := ⟨(zTB_in (List.mem_of_getElem? (i := 1522) (by decide +kernel)) (by decide +kernel)), (zTB_in (List.mem_of_getElem? (i := 120) (by decide +kernel)) (by decide +kernel)), ⟨by decide, by decide, by decide +kernel⟩, by decide, rfl, rfl⟩
theorem ki_157 : Cond.instanceMethod (z_mt 157).1 ∈ zTB := (zTB_in (List.mem_of_getElem? (i := 1520) (by decide +kernel)) (by decide +kernel))
theorem kx_157 : Cond.selects RX10 (z_mt 157).1 (z_mt 157).1 ∈ zTB := (zTB_in (List.mem_of_getElem? (i := 1521) (by decide +kernel)) (by decide +kernel))
theorem kw_157 : Cond.methodLink R_law 31 (z_mt 157).1 ∈ zTB := (zTB_in (List.mem_of_getElem? (i := 1519) (by decide +kernel)) (by decide +kernel))
set_option maxHeartbeats 1000000 in
theorem lw_case_3 {E : zE} {adV : Nat → Nat} {p : Program} {l : Launch} {e : Env} {s : State} {m : MethodId} {below : List Frame} {meth : Method} {c : Code} {b L : Nat} {xs : Nat → Int32} {H : Heap} {locs : List Loc} {cells slots i : Nat} {Q : State → Prop} {ls : Array Slot} {w : zW} {LS RX : Int → List clau} (C0 : lw_C E adV p s m meth c b L xs) (h9 : i + 8 < L) (hcs : cells ≤ room_1.cells ∧ slots ≤ room_1.slots) (hl : lv_has ls 4 [(0, .ref b), (1, .ref (E.2.2 10 0)), (2, .ref (E.2.2 11 0)), (3, .int (nI i))]) (hR : z_Rel E w H) (hS : va_S (lw_A s) s.heap H locs) (hSim : Sim LS RX w) (kk : ∀ (LS RX : Int → List clau) (w : zW) (H : Heap) (locs : List Loc), Sim LS RX w → z_Rel E w H → va_S (lw_A s) s.heap H locs → W p l e room_1 s m #[Value.ref b] below meth c H locs cells slots Q (F0 m 1320 ls [])) : W p l e room_1 s m #[Value.ref b] below meth c H locs cells slots Q (F0 m 273 ls []) := by
  obtain ⟨hx, hb, -⟩ := id C0.1
  obtain ⟨r, w1, w2, e1, e2, hSim⟩ := p_cell (d := 0) hSim (lw_X xs (i + 1)) (lw_X xs (i + 2)) (lw_X xs (i + 3)) (lw_X xs (i + 4))
  refine lv_aload_n hx hb dL_law_273 rfl (lv_at hl 1 rfl) ?_
  refine lw_arg (k := 1) (bb := 1) C0 hS (by omega) hl dL_law_274 dL_law_275 (fun st k => lv_iconst (v := nI 1) hx hb dL_law_276 (by decide) k) dL_law_277 dL_law_278 ?_
  refine W.eq (g2 := F0 m 279 ls _) rfl ?_
  refine lw_arg (k := 2) (bb := 1) C0 hS (by omega) hl dL_law_279 dL_law_280 (fun st k => lv_iconst (v := nI 2) hx hb dL_law_281 (by decide) k) dL_law_282 dL_law_283 ?_
  refine W.eq (g2 := F0 m 284 ls _) rfl ?_
  refine lw_arg (k := 3) (bb := 1) C0 hS (by omega) hl dL_law_284 dL_law_285 (fun st k => lv_iconst (v := nI 3) hx hb dL_law_286 (by decide) k) dL_law_287 dL_law_288 ?_
  refine W.eq (g2 := F0 m 289 ls _) rfl ?_
  refine lw_arg (k := 4) (bb := 1) C0 hS (by omega) hl dL_law_289 dL_law_290 (fun st k => lv_iconst (v := nI 4) hx hb dL_law_291 (by decide) k) dL_law_292 dL_law_293 ?_
  refine W.eq (g2 := F0 m 294 ls _) rfl ?_
  refine lw_callI (z := 77) (d := 12) (c0 := 10) (i := 0) (ys := [lw_X xs (i + 1), lw_X xs (i + 2), lw_X xs (i + 3), lw_X xs (i + 4)]) C0 hR hS hl.1 kc_77 ob_X9 ⟨by decide, by decide⟩ (fun y hy => by simp only [List.mem_cons, List.not_mem_nil, or_false] at hy; rcases hy with rfl | rfl | rfl | rfl <;> first | exact lw_Xi xs _ | exact lw_Bi _) (Nat.le_of_ble_eq_true rfl) rfl (show z_call zP 13 77 (vR 10 0 :: List.map vI [lw_X xs (i + 1), lw_X xs (i + 2), lw_X xs (i + 3), lw_X xs (i + 4)]) _ = some _ from e1) kw_77 ki_77 kx_77 ⟨Nat.le_of_ble_eq_true rfl, Nat.le_of_ble_eq_true rfl⟩ (Nat.le_of_ble_eq_true rfl) dL_law_294 hcs (fun H locs hR hS => ?_)
  refine W.eq (g2 := F0 m 297 ls _) rfl ?_
  refine lv_aload_n hx hb dL_law_297 rfl (lv_at hl 2 rfl) ?_
  refine lw_arg (k := 1) (bb := 1) C0 hS (by omega) hl dL_law_298 dL_law_299 (fun st k => lv_iconst (v := nI 1) hx hb dL_law_300 (by decide) k) dL_law_301 dL_law_302 ?_
  refine W.eq (g2 := F0 m 303 ls _) rfl ?_
  refine lw_arg (k := 2) (bb := 1) C0 hS (by omega) hl dL_law_303 dL_law_304 (fun st k => lv_iconst (v := nI 2) hx hb dL_law_305 (by decide) k) dL_law_306 dL_law_307 ?_
  refine W.eq (g2 := F0 m 308 ls _) rfl ?_
  refine lw_arg (k := 3) (bb := 1) C0 hS (by omega) hl dL_law_308 dL_law_309 (fun st k => lv_iconst (v := nI 3) hx hb dL_law_310 (by decide) k) dL_law_311 dL_law_312 ?_
  refine W.eq (g2 := F0 m 313 ls _) rfl ?_
  refine lw_arg (k := 4) (bb := 1) C0 hS (by omega) hl dL_law_313 dL_law_314 (fun st k => lv_iconst (v := nI 4) hx hb dL_law_315 (by decide) k) dL_law_316 dL_law_317 ?_
  refine W.eq (g2 := F0 m 318 ls _) rfl ?_
  refine lw_callI (z := 157) (d := 12) (c0 := 11) (i := 0) (ys := [lw_X xs (i + 1), lw_X xs (i + 2), lw_X xs (i + 3), lw_X xs (i + 4)]) C0 hR hS hl.1 kc_157 ob_X10 ⟨by decide, by decide⟩ (fun y hy => by simp only [List.mem_cons, List.not_mem_nil, or_false] at hy; rcases hy with rfl | rfl | rfl | rfl <;> first | exact lw_Xi xs _ | exact lw_Bi _) (Nat.le_of_ble_eq_true rfl) rfl (show z_call zP 13 157 (vR 11 0 :: List.map vI [lw_X xs (i + 1), lw_X xs (i + 2), lw_X xs (i + 3), lw_X xs (i + 4)]) _ = some _ from e2) kw_157 ki_157 kx_157 ⟨Nat.le_of_ble_eq_true rfl, Nat.le_of_ble_eq_true rfl⟩ (Nat.le_of_ble_eq_true rfl) dL_law_318 hcs (fun H locs hR hS => ?_)
  refine W.eq (g2 := F0 m 321 ls _) rfl ?_
  exact lv_icmp_eq (tgt := 1320) hx hb dL_law_321 (by decide) (fun _ => kk LS RX w2 H locs hSim hR hS) (fun h => absurd rfl h)
theorem kc_78 : z_Cal 78 2 1 4 := ⟨(zTB_in (List.mem_of_getElem? (i := 793) (by decide +kernel)) (by decide +kernel)), (zTB_in (List.mem_of_getElem? (i := 109) (by decide +kernel)) (by decide +kernel)), ⟨by decide, by decide, by decide +kernel⟩, by decide, rfl, rfl⟩
theorem ki_78 : Cond.instanceMethod (z_mt 78).1 ∈ zTB := (zTB_in (List.mem_of_getElem? (i := 791) (by decide +kernel)) (by decide +kernel))
theorem kx_78 : Cond.selects RX9 (z_mt 78).1 (z_mt 78).1 ∈ zTB := (zTB_in (List.mem_of_getElem? (i := 792) (by decide +kernel)) (by decide +kernel))
theorem kw_78 : Cond.methodLink R_law 32 (z_mt 78).1 ∈ zTB := (zTB_in (List.mem_of_getElem? (i := 790) (by decide +kernel)) (by decide +kernel))
theorem kc_158 : z_Cal 158 2 1 4 := ⟨(zTB_in (List.mem_of_getElem? (i := 1538) (by decide +kernel)) (by decide +kernel)), (zTB_in (List.mem_of_getElem? (i := 120) (by decide +kernel)) (by decide +kernel)), ⟨by decide, by decide, by decide +kernel⟩, by decide, rfl, rfl⟩
theorem ki_158 : Cond.instanceMethod (z_mt 158).1 ∈ zTB := (zTB_in (List.mem_of_getElem? (i := 1536) (by decide +kernel)) (by decide +kernel))
theorem kx_158 : Cond.selects RX10 (z_mt 158).1 (z_mt 158).1 ∈ zTB := (zTB_in (List.mem_of_getElem? (i := 1537) (by decide +kernel)) (by decide +kernel))
theorem kw_158 : Cond.methodLink R_law 36 (z_mt 158).1 ∈ zTB := (zTB_in (List.mem_of_getElem? (i := 1535) (by decide +kernel)) (by decide +kernel))
set_option maxHeartbeats 1000000 in
theorem lw_case_4 {E : zE} {adV : Nat → Nat} {p : Program} {l : Launch} {e : Env} {s : State} {m : MethodId} {below : List Frame} {meth : Method} {c : Code} {b L : Nat} {xs : Nat → Int32} {H : Heap} {locs : List Loc} {cells slots i : Nat} {Q : State → Prop} {ls : Array Slot} {w : zW} {LS RX : Int → List clau} (C0 : lw_C E adV p s m meth c b L xs) (h9 : i + 8 < L) (hcs : cells ≤ room_1.cells ∧ slots ≤ room_1.slots) (hl : lv_has ls 4 [(0, .ref b), (1, .ref (E.2.2 10 0)), (2, .ref (E.2.2 11 0)), (3, .int (nI i))]) (hR : z_Rel E w H) (hS : va_S (lw_A s) s.heap H locs) (hSim : Sim LS RX w) (kk : ∀ (LS RX : Int → List clau) (w : zW) (H : Heap) (locs : List Loc), Sim LS RX w → z_Rel E w H → va_S (lw_A s) s.heap H locs → W p l e room_1 s m #[Value.ref b] below meth c H locs cells slots Q (F0 m 1320 ls [])) : W p l e room_1 s m #[Value.ref b] below meth c H locs cells slots Q (F0 m 326 ls []) := by
  obtain ⟨hx, hb, -⟩ := id C0.1
  obtain ⟨r, w1, w2, e1, e2, hSim⟩ := p_wood (d := 0) hSim (lw_X xs (i + 1)) (lw_X xs (i + 2))
  refine lv_aload_n hx hb dL_law_326 rfl (lv_at hl 1 rfl) ?_
  refine lw_arg (k := 1) (bb := 1) C0 hS (by omega) hl dL_law_327 dL_law_328 (fun st k => lv_iconst (v := nI 1) hx hb dL_law_329 (by decide) k) dL_law_330 dL_law_331 ?_
  refine W.eq (g2 := F0 m 332 ls _) rfl ?_
  refine lw_arg (k := 2) (bb := 1) C0 hS (by omega) hl dL_law_332 dL_law_333 (fun st k => lv_iconst (v := nI 2) hx hb dL_law_334 (by decide) k) dL_law_335 dL_law_336 ?_
  refine W.eq (g2 := F0 m 337 ls _) rfl ?_
  refine lw_callI (z := 78) (d := 12) (c0 := 10) (i := 0) (ys := [lw_X xs (i + 1), lw_X xs (i + 2)]) C0 hR hS hl.1 kc_78 ob_X9 ⟨by decide, by decide⟩ (fun y hy => by simp only [List.mem_cons, List.not_mem_nil, or_false] at hy; rcases hy with rfl | rfl <;> first | exact lw_Xi xs _ | exact lw_Bi _) (Nat.le_of_ble_eq_true rfl) rfl (show z_call zP 13 78 (vR 10 0 :: List.map vI [lw_X xs (i + 1), lw_X xs (i + 2)]) _ = some _ from e1) kw_78 ki_78 kx_78 ⟨Nat.le_of_ble_eq_true rfl, Nat.le_of_ble_eq_true rfl⟩ (Nat.le_of_ble_eq_true rfl) dL_law_337 hcs (fun H locs hR hS => ?_)
  refine W.eq (g2 := F0 m 340 ls _) rfl ?_
  refine lv_aload_n hx hb dL_law_340 rfl (lv_at hl 2 rfl) ?_
  refine lw_arg (k := 1) (bb := 1) C0 hS (by omega) hl dL_law_341 dL_law_342 (fun st k => lv_iconst (v := nI 1) hx hb dL_law_343 (by decide) k) dL_law_344 dL_law_345 ?_
  refine W.eq (g2 := F0 m 346 ls _) rfl ?_
  refine lw_arg (k := 2) (bb := 1) C0 hS (by omega) hl dL_law_346 dL_law_347 (fun st k => lv_iconst (v := nI 2) hx hb dL_law_348 (by decide) k) dL_law_349 dL_law_350 ?_
  refine W.eq (g2 := F0 m 351 ls _) rfl ?_
  refine lw_callI (z := 158) (d := 12) (c0 := 11) (i := 0) (ys := [lw_X xs (i + 1), lw_X xs (i + 2)]) C0 hR hS hl.1 kc_158 ob_X10 ⟨by decide, by decide⟩ (fun y hy => by simp only [List.mem_cons, List.not_mem_nil, or_false] at hy; rcases hy with rfl | rfl <;> first | exact lw_Xi xs _ | exact lw_Bi _) (Nat.le_of_ble_eq_true rfl) rfl (show z_call zP 13 158 (vR 11 0 :: List.map vI [lw_X xs (i + 1), lw_X xs (i + 2)]) _ = some _ from e2) kw_158 ki_158 kx_158 ⟨Nat.le_of_ble_eq_true rfl, Nat.le_of_ble_eq_true rfl⟩ (Nat.le_of_ble_eq_true rfl) dL_law_351 hcs (fun H locs hR hS => ?_)
  refine W.eq (g2 := F0 m 354 ls _) rfl ?_
  exact lv_icmp_eq (tgt := 1320) hx hb dL_law_354 (by decide) (fun _ => kk LS RX w2 H locs hSim hR hS) (fun h => absurd rfl h)
theorem kc_79 : z_Cal 79 5 1 7 := ⟨(zTB_in (List.mem_of_getElem? (i := 797) (by decide +kernel)) (by decide +kernel)), (zTB_in (List.mem_of_getElem? (i := 109) (by decide +kernel)) (by decide +kernel)), ⟨by decide, by decide, by decide +kernel⟩, by decide, rfl, rfl⟩
theorem ki_79 : Cond.instanceMethod (z_mt 79).1 ∈ zTB := (zTB_in (List.mem_of_getElem? (i := 795) (by decide +kernel)) (by decide +kernel))
theorem kx_79 : Cond.selects RX9 (z_mt 79).1 (z_mt 79).1 ∈ zTB := (zTB_in (List.mem_of_getElem? (i := 796) (by decide +kernel)) (by decide +kernel))
theorem kw_79 : Cond.methodLink R_law 37 (z_mt 79).1 ∈ zTB := (zTB_in (List.mem_of_getElem? (i := 794) (by decide +kernel)) (by decide +kernel))
theorem kc_169 : z_Cal 169 5 1 6 := ⟨(zTB_in (List.mem_of_getElem? (i := 1543) (by decide +kernel)) (by decide +kernel)), (zTB_in (List.mem_of_getElem? (i := 120) (by decide +kernel)) (by decide +kernel)), ⟨by decide, by decide, by decide +kernel⟩, by decide, rfl, rfl⟩
theorem ki_169 : Cond.instanceMethod (z_mt 169).1 ∈ zTB := (zTB_in (List.mem_of_getElem? (i := 1541) (by decide +kernel)) (by decide +kernel))
theorem kx_169 : Cond.selects RX10 (z_mt 169).1 (z_mt 169).1 ∈ zTB := (zTB_in (List.mem_of_getElem? (i := 1542) (by decide +kernel)) (by decide +kernel))
theorem kw_169 : Cond.methodLink R_law 41 (z_mt 169).1 ∈ zTB := (zTB_in (List.mem_of_getElem? (i := 1540) (by decide +kernel)) (by decide +kernel))
set_option maxHeartbeats 1000000 in
theorem lw_case_5 {E : zE} {adV : Nat → Nat} {p : Program} {l : Launch} {e : Env} {s : State} {m : MethodId} {below : List Frame} {meth : Method} {c : Code} {b L : Nat} {xs : Nat → Int32} {H : Heap} {locs : List Loc} {cells slots i : Nat} {Q : State → Prop} {ls : Array Slot} {w : zW} {LS RX : Int → List clau} (C0 : lw_C E adV p s m meth c b L xs) (h9 : i + 8 < L) (hcs : cells ≤ room_1.cells ∧ slots ≤ room_1.slots) (hl : lv_has ls 4 [(0, .ref b), (1, .ref (E.2.2 10 0)), (2, .ref (E.2.2 11 0)), (3, .int (nI i))]) (hR : z_Rel E w H) (hS : va_S (lw_A s) s.heap H locs) (hSim : Sim LS RX w) (kk : ∀ (LS RX : Int → List clau) (w : zW) (H : Heap) (locs : List Loc), Sim LS RX w → z_Rel E w H → va_S (lw_A s) s.heap H locs → W p l e room_1 s m #[Value.ref b] below meth c H locs cells slots Q (F0 m 1320 ls [])) : W p l e room_1 s m #[Value.ref b] below meth c H locs cells slots Q (F0 m 359 ls []) := by
  obtain ⟨hx, hb, -⟩ := id C0.1
  obtain ⟨r, w1, w2, e1, e2, hSim⟩ := p_walk (d := 0) hSim (lw_X xs (i + 1)) (lw_X xs (i + 2)) (lw_X xs (i + 3)) (lw_X xs (i + 4)) (lw_X xs (i + 5))
  refine lv_aload_n hx hb dL_law_359 rfl (lv_at hl 1 rfl) ?_
  refine lw_arg (k := 1) (bb := 1) C0 hS (by omega) hl dL_law_360 dL_law_361 (fun st k => lv_iconst (v := nI 1) hx hb dL_law_362 (by decide) k) dL_law_363 dL_law_364 ?_
  refine W.eq (g2 := F0 m 365 ls _) rfl ?_
  refine lw_arg (k := 2) (bb := 1) C0 hS (by omega) hl dL_law_365 dL_law_366 (fun st k => lv_iconst (v := nI 2) hx hb dL_law_367 (by decide) k) dL_law_368 dL_law_369 ?_
  refine W.eq (g2 := F0 m 370 ls _) rfl ?_
  refine lw_arg (k := 3) (bb := 1) C0 hS (by omega) hl dL_law_370 dL_law_371 (fun st k => lv_iconst (v := nI 3) hx hb dL_law_372 (by decide) k) dL_law_373 dL_law_374 ?_
  refine W.eq (g2 := F0 m 375 ls _) rfl ?_
  refine lw_arg (k := 4) (bb := 1) C0 hS (by omega) hl dL_law_375 dL_law_376 (fun st k => lv_iconst (v := nI 4) hx hb dL_law_377 (by decide) k) dL_law_378 dL_law_379 ?_
  refine W.eq (g2 := F0 m 380 ls _) rfl ?_
  refine lw_arg (k := 5) (bb := 1) C0 hS (by omega) hl dL_law_380 dL_law_381 (fun st k => lv_iconst (v := nI 5) hx hb dL_law_382 (by decide) k) dL_law_383 dL_law_384 ?_
  refine W.eq (g2 := F0 m 385 ls _) rfl ?_
  refine lw_callI (z := 79) (d := 12) (c0 := 10) (i := 0) (ys := [lw_X xs (i + 1), lw_X xs (i + 2), lw_X xs (i + 3), lw_X xs (i + 4), lw_X xs (i + 5)]) C0 hR hS hl.1 kc_79 ob_X9 ⟨by decide, by decide⟩ (fun y hy => by simp only [List.mem_cons, List.not_mem_nil, or_false] at hy; rcases hy with rfl | rfl | rfl | rfl | rfl <;> first | exact lw_Xi xs _ | exact lw_Bi _) (Nat.le_of_ble_eq_true rfl) rfl (show z_call zP 13 79 (vR 10 0 :: List.map vI [lw_X xs (i + 1), lw_X xs (i + 2), lw_X xs (i + 3), lw_X xs (i + 4), lw_X xs (i + 5)]) _ = some _ from e1) kw_79 ki_79 kx_79 ⟨Nat.le_of_ble_eq_true rfl, Nat.le_of_ble_eq_true rfl⟩ (Nat.le_of_ble_eq_true rfl) dL_law_385 hcs (fun H locs hR hS => ?_)
  refine W.eq (g2 := F0 m 388 ls _) rfl ?_
  refine lv_aload_n hx hb dL_law_388 rfl (lv_at hl 2 rfl) ?_
  refine lw_arg (k := 1) (bb := 1) C0 hS (by omega) hl dL_law_389 dL_law_390 (fun st k => lv_iconst (v := nI 1) hx hb dL_law_391 (by decide) k) dL_law_392 dL_law_393 ?_
  refine W.eq (g2 := F0 m 394 ls _) rfl ?_
  refine lw_arg (k := 2) (bb := 1) C0 hS (by omega) hl dL_law_394 dL_law_395 (fun st k => lv_iconst (v := nI 2) hx hb dL_law_396 (by decide) k) dL_law_397 dL_law_398 ?_
  refine W.eq (g2 := F0 m 399 ls _) rfl ?_
  refine lw_arg (k := 3) (bb := 1) C0 hS (by omega) hl dL_law_399 dL_law_400 (fun st k => lv_iconst (v := nI 3) hx hb dL_law_401 (by decide) k) dL_law_402 dL_law_403 ?_
  refine W.eq (g2 := F0 m 404 ls _) rfl ?_
  refine lw_arg (k := 4) (bb := 1) C0 hS (by omega) hl dL_law_404 dL_law_405 (fun st k => lv_iconst (v := nI 4) hx hb dL_law_406 (by decide) k) dL_law_407 dL_law_408 ?_
  refine W.eq (g2 := F0 m 409 ls _) rfl ?_
  refine lw_arg (k := 5) (bb := 1) C0 hS (by omega) hl dL_law_409 dL_law_410 (fun st k => lv_iconst (v := nI 5) hx hb dL_law_411 (by decide) k) dL_law_412 dL_law_413 ?_
  refine W.eq (g2 := F0 m 414 ls _) rfl ?_
  refine lw_callI (z := 169) (d := 12) (c0 := 11) (i := 0) (ys := [lw_X xs (i + 1), lw_X xs (i + 2), lw_X xs (i + 3), lw_X xs (i + 4), lw_X xs (i + 5)]) C0 hR hS hl.1 kc_169 ob_X10 ⟨by decide, by decide⟩ (fun y hy => by simp only [List.mem_cons, List.not_mem_nil, or_false] at hy; rcases hy with rfl | rfl | rfl | rfl | rfl <;> first | exact lw_Xi xs _ | exact lw_Bi _) (Nat.le_of_ble_eq_true rfl) rfl (show z_call zP 13 169 (vR 11 0 :: List.map vI [lw_X xs (i + 1), lw_X xs (i + 2), lw_X xs (i + 3), lw_X xs (i + 4), lw_X xs (i + 5)]) _ = some _ from e2) kw_169 ki_169 kx_169 ⟨Nat.le_of_ble_eq_true rfl, Nat.le_of_ble_eq_true rfl⟩ (Nat.le_of_ble_eq_true rfl) dL_law_414 hcs (fun H locs hR hS => ?_)
  refine W.eq (g2 := F0 m 417 ls _) rfl ?_
  exact lv_icmp_eq (tgt := 1320) hx hb dL_law_417 (by decide) (fun _ => kk LS RX w2 H locs hSim hR hS) (fun h => absurd rfl h)
theorem kc_80 : z_Cal 80 1 1 2 := ⟨(zTB_in (List.mem_of_getElem? (i := 818) (by decide +kernel)) (by decide +kernel)), (zTB_in (List.mem_of_getElem? (i := 109) (by decide +kernel)) (by decide +kernel)), ⟨by decide, by decide, by decide +kernel⟩, by decide, rfl, rfl⟩
theorem ki_80 : Cond.instanceMethod (z_mt 80).1 ∈ zTB := (zTB_in (List.mem_of_getElem? (i := 816) (by decide +kernel)) (by decide +kernel))
theorem kx_80 : Cond.selects RX9 (z_mt 80).1 (z_mt 80).1 ∈ zTB := (zTB_in (List.mem_of_getElem? (i := 817) (by decide +kernel)) (by decide +kernel))
theorem kw_80 : Cond.methodLink R_law 42 (z_mt 80).1 ∈ zTB := (zTB_in (List.mem_of_getElem? (i := 815) (by decide +kernel)) (by decide +kernel))
theorem kc_181 : z_Cal 181 1 1 2 := ⟨(zTB_in (List.mem_of_getElem? (i := 1556) (by decide +kernel)) (by decide +kernel)), (zTB_in (List.mem_of_getElem? (i := 120) (by decide +kernel)) (by decide +kernel)), ⟨by decide, by decide, by decide +kernel⟩, by decide, rfl, rfl⟩
theorem ki_181 : Cond.instanceMethod (z_mt 181).1 ∈ zTB := (zTB_in (List.mem_of_getElem? (i := 1554) (by decide +kernel)) (by decide +kernel))
theorem kx_181 : Cond.selects RX10 (z_mt 181).1 (z_mt 181).1 ∈ zTB := (zTB_in (List.mem_of_getElem? (i := 1555) (by decide +kernel)) (by decide +kernel))
theorem kw_181 : Cond.methodLink R_law 45 (z_mt 181).1 ∈ zTB := (zTB_in (List.mem_of_getElem? (i := 1553) (by decide +kernel)) (by decide +kernel))
set_option maxHeartbeats 1000000 in
theorem lw_case_6 {E : zE} {adV : Nat → Nat} {p : Program} {l : Launch} {e : Env} {s : State} {m : MethodId} {below : List Frame} {meth : Method} {c : Code} {b L : Nat} {xs : Nat → Int32} {H : Heap} {locs : List Loc} {cells slots i : Nat} {Q : State → Prop} {ls : Array Slot} {w : zW} {LS RX : Int → List clau} (C0 : lw_C E adV p s m meth c b L xs) (h9 : i + 8 < L) (hcs : cells ≤ room_1.cells ∧ slots ≤ room_1.slots) (hl : lv_has ls 4 [(0, .ref b), (1, .ref (E.2.2 10 0)), (2, .ref (E.2.2 11 0)), (3, .int (nI i))]) (hR : z_Rel E w H) (hS : va_S (lw_A s) s.heap H locs) (hSim : Sim LS RX w) (kk : ∀ (LS RX : Int → List clau) (w : zW) (H : Heap) (locs : List Loc), Sim LS RX w → z_Rel E w H → va_S (lw_A s) s.heap H locs → W p l e room_1 s m #[Value.ref b] below meth c H locs cells slots Q (F0 m 1320 ls [])) : W p l e room_1 s m #[Value.ref b] below meth c H locs cells slots Q (F0 m 422 ls []) := by
  obtain ⟨hx, hb, -⟩ := id C0.1
  obtain ⟨r, w1, w2, e1, e2, hSim⟩ := p_act (d := 0) hSim (lw_X xs (i + 1))
  refine lv_aload_n hx hb dL_law_422 rfl (lv_at hl 1 rfl) ?_
  refine lw_arg (k := 1) (bb := 1) C0 hS (by omega) hl dL_law_423 dL_law_424 (fun st k => lv_iconst (v := nI 1) hx hb dL_law_425 (by decide) k) dL_law_426 dL_law_427 ?_
  refine W.eq (g2 := F0 m 428 ls _) rfl ?_
  refine lw_callI (z := 80) (d := 12) (c0 := 10) (i := 0) (ys := [lw_X xs (i + 1)]) C0 hR hS hl.1 kc_80 ob_X9 ⟨by decide, by decide⟩ (fun y hy => by simp only [List.mem_cons, List.not_mem_nil, or_false] at hy; rcases hy with rfl <;> first | exact lw_Xi xs _ | exact lw_Bi _) (Nat.le_of_ble_eq_true rfl) rfl (show z_call zP 13 80 (vR 10 0 :: List.map vI [lw_X xs (i + 1)]) _ = some _ from e1) kw_80 ki_80 kx_80 ⟨Nat.le_of_ble_eq_true rfl, Nat.le_of_ble_eq_true rfl⟩ (Nat.le_of_ble_eq_true rfl) dL_law_428 hcs (fun H locs hR hS => ?_)
  refine W.eq (g2 := F0 m 431 ls _) rfl ?_
  refine lv_aload_n hx hb dL_law_431 rfl (lv_at hl 2 rfl) ?_
  refine lw_arg (k := 1) (bb := 1) C0 hS (by omega) hl dL_law_432 dL_law_433 (fun st k => lv_iconst (v := nI 1) hx hb dL_law_434 (by decide) k) dL_law_435 dL_law_436 ?_
  refine W.eq (g2 := F0 m 437 ls _) rfl ?_
  refine lw_callI (z := 181) (d := 12) (c0 := 11) (i := 0) (ys := [lw_X xs (i + 1)]) C0 hR hS hl.1 kc_181 ob_X10 ⟨by decide, by decide⟩ (fun y hy => by simp only [List.mem_cons, List.not_mem_nil, or_false] at hy; rcases hy with rfl <;> first | exact lw_Xi xs _ | exact lw_Bi _) (Nat.le_of_ble_eq_true rfl) rfl (show z_call zP 13 181 (vR 11 0 :: List.map vI [lw_X xs (i + 1)]) _ = some _ from e2) kw_181 ki_181 kx_181 ⟨Nat.le_of_ble_eq_true rfl, Nat.le_of_ble_eq_true rfl⟩ (Nat.le_of_ble_eq_true rfl) dL_law_437 hcs (fun H locs hR hS => ?_)
  refine W.eq (g2 := F0 m 440 ls _) rfl ?_
  exact lv_icmp_eq (tgt := 1320) hx hb dL_law_440 (by decide) (fun _ => kk LS RX w2 H locs hSim hR hS) (fun h => absurd rfl h)
theorem kc_81 : z_Cal 81 1 1 2 := ⟨(zTB_in (List.mem_of_getElem? (i := 903) (by decide +kernel)) (by decide +kernel)), (zTB_in (List.mem_of_getElem? (i := 109) (by decide +kernel)) (by decide +kernel)), ⟨by decide, by decide, by decide +kernel⟩, by decide, rfl, rfl⟩
theorem ki_81 : Cond.instanceMethod (z_mt 81).1 ∈ zTB := (zTB_in (List.mem_of_getElem? (i := 901) (by decide +kernel)) (by decide +kernel))
theorem kx_81 : Cond.selects RX9 (z_mt 81).1 (z_mt 81).1 ∈ zTB := (zTB_in (List.mem_of_getElem? (i := 902) (by decide +kernel)) (by decide +kernel))
theorem kw_81 : Cond.methodLink R_law 46 (z_mt 81).1 ∈ zTB := (zTB_in (List.mem_of_getElem? (i := 900) (by decide +kernel)) (by decide +kernel))
theorem kc_183 : z_Cal 183 1 1 2 := ⟨(zTB_in (List.mem_of_getElem? (i := 1634) (by decide +kernel)) (by decide +kernel)), (zTB_in (List.mem_of_getElem? (i := 120) (by decide +kernel)) (by decide +kernel)), ⟨by decide, by decide, by decide +kernel⟩, by decide, rfl, rfl⟩
theorem ki_183 : Cond.instanceMethod (z_mt 183).1 ∈ zTB := (zTB_in (List.mem_of_getElem? (i := 1632) (by decide +kernel)) (by decide +kernel))
theorem kx_183 : Cond.selects RX10 (z_mt 183).1 (z_mt 183).1 ∈ zTB := (zTB_in (List.mem_of_getElem? (i := 1633) (by decide +kernel)) (by decide +kernel))
theorem kw_183 : Cond.methodLink R_law 49 (z_mt 183).1 ∈ zTB := (zTB_in (List.mem_of_getElem? (i := 1631) (by decide +kernel)) (by decide +kernel))
set_option maxHeartbeats 1000000 in
theorem lw_case_7 {E : zE} {adV : Nat → Nat} {p : Program} {l : Launch} {e : Env} {s : State} {m : MethodId} {below : List Frame} {meth : Method} {c : Code} {b L : Nat} {xs : Nat → Int32} {H : Heap} {locs : List Loc} {cells slots i : Nat} {Q : State → Prop} {ls : Array Slot} {w : zW} {LS RX : Int → List clau} (C0 : lw_C E adV p s m meth c b L xs) (h9 : i + 8 < L) (hcs : cells ≤ room_1.cells ∧ slots ≤ room_1.slots) (hl : lv_has ls 4 [(0, .ref b), (1, .ref (E.2.2 10 0)), (2, .ref (E.2.2 11 0)), (3, .int (nI i))]) (hR : z_Rel E w H) (hS : va_S (lw_A s) s.heap H locs) (hSim : Sim LS RX w) (kk : ∀ (LS RX : Int → List clau) (w : zW) (H : Heap) (locs : List Loc), Sim LS RX w → z_Rel E w H → va_S (lw_A s) s.heap H locs → W p l e room_1 s m #[Value.ref b] below meth c H locs cells slots Q (F0 m 1320 ls [])) : W p l e room_1 s m #[Value.ref b] below meth c H locs cells slots Q (F0 m 445 ls []) := by
  obtain ⟨hx, hb, -⟩ := id C0.1
  obtain ⟨r, w1, w2, e1, e2, hSim⟩ := p_felt (d := 0) hSim (lw_X xs (i + 1))
  refine lv_aload_n hx hb dL_law_445 rfl (lv_at hl 1 rfl) ?_
  refine lw_arg (k := 1) (bb := 1) C0 hS (by omega) hl dL_law_446 dL_law_447 (fun st k => lv_iconst (v := nI 1) hx hb dL_law_448 (by decide) k) dL_law_449 dL_law_450 ?_
  refine W.eq (g2 := F0 m 451 ls _) rfl ?_
  refine lw_callI (z := 81) (d := 12) (c0 := 10) (i := 0) (ys := [lw_X xs (i + 1)]) C0 hR hS hl.1 kc_81 ob_X9 ⟨by decide, by decide⟩ (fun y hy => by simp only [List.mem_cons, List.not_mem_nil, or_false] at hy; rcases hy with rfl <;> first | exact lw_Xi xs _ | exact lw_Bi _) (Nat.le_of_ble_eq_true rfl) rfl (show z_call zP 13 81 (vR 10 0 :: List.map vI [lw_X xs (i + 1)]) _ = some _ from e1) kw_81 ki_81 kx_81 ⟨Nat.le_of_ble_eq_true rfl, Nat.le_of_ble_eq_true rfl⟩ (Nat.le_of_ble_eq_true rfl) dL_law_451 hcs (fun H locs hR hS => ?_)
  refine W.eq (g2 := F0 m 454 ls _) rfl ?_
  refine lv_aload_n hx hb dL_law_454 rfl (lv_at hl 2 rfl) ?_
  refine lw_arg (k := 1) (bb := 1) C0 hS (by omega) hl dL_law_455 dL_law_456 (fun st k => lv_iconst (v := nI 1) hx hb dL_law_457 (by decide) k) dL_law_458 dL_law_459 ?_
  refine W.eq (g2 := F0 m 460 ls _) rfl ?_
  refine lw_callI (z := 183) (d := 12) (c0 := 11) (i := 0) (ys := [lw_X xs (i + 1)]) C0 hR hS hl.1 kc_183 ob_X10 ⟨by decide, by decide⟩ (fun y hy => by simp only [List.mem_cons, List.not_mem_nil, or_false] at hy; rcases hy with rfl <;> first | exact lw_Xi xs _ | exact lw_Bi _) (Nat.le_of_ble_eq_true rfl) rfl (show z_call zP 13 183 (vR 11 0 :: List.map vI [lw_X xs (i + 1)]) _ = some _ from e2) kw_183 ki_183 kx_183 ⟨Nat.le_of_ble_eq_true rfl, Nat.le_of_ble_eq_true rfl⟩ (Nat.le_of_ble_eq_true rfl) dL_law_460 hcs (fun H locs hR hS => ?_)
  refine W.eq (g2 := F0 m 463 ls _) rfl ?_
  exact lv_icmp_eq (tgt := 1320) hx hb dL_law_463 (by decide) (fun _ => kk LS RX w2 H locs hSim hR hS) (fun h => absurd rfl h)
theorem kc_82 : z_Cal 82 1 1 2 := ⟨(zTB_in (List.mem_of_getElem? (i := 907) (by decide +kernel)) (by decide +kernel)), (zTB_in (List.mem_of_getElem? (i := 109) (by decide +kernel)) (by decide +kernel)), ⟨by decide, by decide, by decide +kernel⟩, by decide, rfl, rfl⟩
theorem ki_82 : Cond.instanceMethod (z_mt 82).1 ∈ zTB := (zTB_in (List.mem_of_getElem? (i := 905) (by decide +kernel)) (by decide +kernel))
theorem kx_82 : Cond.selects RX9 (z_mt 82).1 (z_mt 82).1 ∈ zTB := (zTB_in (List.mem_of_getElem? (i := 906) (by decide +kernel)) (by decide +kernel))
theorem kw_82 : Cond.methodLink R_law 50 (z_mt 82).1 ∈ zTB := (zTB_in (List.mem_of_getElem? (i := 904) (by decide +kernel)) (by decide +kernel))
theorem kc_184 : z_Cal 184 1 1 2 := ⟨(zTB_in (List.mem_of_getElem? (i := 1656) (by decide +kernel)) (by decide +kernel)), (zTB_in (List.mem_of_getElem? (i := 120) (by decide +kernel)) (by decide +kernel)), ⟨by decide, by decide, by decide +kernel⟩, by decide, rfl, rfl⟩
theorem ki_184 : Cond.instanceMethod (z_mt 184).1 ∈ zTB := (zTB_in (List.mem_of_getElem? (i := 1654) (by decide +kernel)) (by decide +kernel))
theorem kx_184 : Cond.selects RX10 (z_mt 184).1 (z_mt 184).1 ∈ zTB := (zTB_in (List.mem_of_getElem? (i := 1655) (by decide +kernel)) (by decide +kernel))
theorem kw_184 : Cond.methodLink R_law 53 (z_mt 184).1 ∈ zTB := (zTB_in (List.mem_of_getElem? (i := 1653) (by decide +kernel)) (by decide +kernel))
set_option maxHeartbeats 1000000 in
theorem lw_case_8 {E : zE} {adV : Nat → Nat} {p : Program} {l : Launch} {e : Env} {s : State} {m : MethodId} {below : List Frame} {meth : Method} {c : Code} {b L : Nat} {xs : Nat → Int32} {H : Heap} {locs : List Loc} {cells slots i : Nat} {Q : State → Prop} {ls : Array Slot} {w : zW} {LS RX : Int → List clau} (C0 : lw_C E adV p s m meth c b L xs) (h9 : i + 8 < L) (hcs : cells ≤ room_1.cells ∧ slots ≤ room_1.slots) (hl : lv_has ls 4 [(0, .ref b), (1, .ref (E.2.2 10 0)), (2, .ref (E.2.2 11 0)), (3, .int (nI i))]) (hR : z_Rel E w H) (hS : va_S (lw_A s) s.heap H locs) (hSim : Sim LS RX w) (kk : ∀ (LS RX : Int → List clau) (w : zW) (H : Heap) (locs : List Loc), Sim LS RX w → z_Rel E w H → va_S (lw_A s) s.heap H locs → W p l e room_1 s m #[Value.ref b] below meth c H locs cells slots Q (F0 m 1320 ls [])) : W p l e room_1 s m #[Value.ref b] below meth c H locs cells slots Q (F0 m 468 ls []) := by
  obtain ⟨hx, hb, -⟩ := id C0.1
  obtain ⟨r, w1, w2, e1, e2, hSim⟩ := p_seen (d := 0) hSim (lw_X xs (i + 1))
  refine lv_aload_n hx hb dL_law_468 rfl (lv_at hl 1 rfl) ?_
  refine lw_arg (k := 1) (bb := 1) C0 hS (by omega) hl dL_law_469 dL_law_470 (fun st k => lv_iconst (v := nI 1) hx hb dL_law_471 (by decide) k) dL_law_472 dL_law_473 ?_
  refine W.eq (g2 := F0 m 474 ls _) rfl ?_
  refine lw_callI (z := 82) (d := 12) (c0 := 10) (i := 0) (ys := [lw_X xs (i + 1)]) C0 hR hS hl.1 kc_82 ob_X9 ⟨by decide, by decide⟩ (fun y hy => by simp only [List.mem_cons, List.not_mem_nil, or_false] at hy; rcases hy with rfl <;> first | exact lw_Xi xs _ | exact lw_Bi _) (Nat.le_of_ble_eq_true rfl) rfl (show z_call zP 13 82 (vR 10 0 :: List.map vI [lw_X xs (i + 1)]) _ = some _ from e1) kw_82 ki_82 kx_82 ⟨Nat.le_of_ble_eq_true rfl, Nat.le_of_ble_eq_true rfl⟩ (Nat.le_of_ble_eq_true rfl) dL_law_474 hcs (fun H locs hR hS => ?_)
  refine W.eq (g2 := F0 m 477 ls _) rfl ?_
  refine lv_aload_n hx hb dL_law_477 rfl (lv_at hl 2 rfl) ?_
  refine lw_arg (k := 1) (bb := 1) C0 hS (by omega) hl dL_law_478 dL_law_479 (fun st k => lv_iconst (v := nI 1) hx hb dL_law_480 (by decide) k) dL_law_481 dL_law_482 ?_
  refine W.eq (g2 := F0 m 483 ls _) rfl ?_
  refine lw_callI (z := 184) (d := 12) (c0 := 11) (i := 0) (ys := [lw_X xs (i + 1)]) C0 hR hS hl.1 kc_184 ob_X10 ⟨by decide, by decide⟩ (fun y hy => by simp only [List.mem_cons, List.not_mem_nil, or_false] at hy; rcases hy with rfl <;> first | exact lw_Xi xs _ | exact lw_Bi _) (Nat.le_of_ble_eq_true rfl) rfl (show z_call zP 13 184 (vR 11 0 :: List.map vI [lw_X xs (i + 1)]) _ = some _ from e2) kw_184 ki_184 kx_184 ⟨Nat.le_of_ble_eq_true rfl, Nat.le_of_ble_eq_true rfl⟩ (Nat.le_of_ble_eq_true rfl) dL_law_483 hcs (fun H locs hR hS => ?_)
  refine W.eq (g2 := F0 m 486 ls _) rfl ?_
  exact lv_icmp_eq (tgt := 1320) hx hb dL_law_486 (by decide) (fun _ => kk LS RX w2 H locs hSim hR hS) (fun h => absurd rfl h)
theorem kc_83 : z_Cal 83 2 1 3 := ⟨(zTB_in (List.mem_of_getElem? (i := 911) (by decide +kernel)) (by decide +kernel)), (zTB_in (List.mem_of_getElem? (i := 109) (by decide +kernel)) (by decide +kernel)), ⟨by decide, by decide, by decide +kernel⟩, by decide, rfl, rfl⟩
theorem ki_83 : Cond.instanceMethod (z_mt 83).1 ∈ zTB := (zTB_in (List.mem_of_getElem? (i := 909) (by decide +kernel)) (by decide +kernel))
theorem kx_83 : Cond.selects RX9 (z_mt 83).1 (z_mt 83).1 ∈ zTB := (zTB_in (List.mem_of_getElem? (i := 910) (by decide +kernel)) (by decide +kernel))
theorem kw_83 : Cond.methodLink R_law 54 (z_mt 83).1 ∈ zTB := (zTB_in (List.mem_of_getElem? (i := 908) (by decide +kernel)) (by decide +kernel))
theorem kc_185 : z_Cal 185 2 1 3 := ⟨(zTB_in (List.mem_of_getElem? (i := 1660) (by decide +kernel)) (by decide +kernel)), (zTB_in (List.mem_of_getElem? (i := 120) (by decide +kernel)) (by decide +kernel)), ⟨by decide, by decide, by decide +kernel⟩, by decide, rfl, rfl⟩
theorem ki_185 : Cond.instanceMethod (z_mt 185).1 ∈ zTB := (zTB_in (List.mem_of_getElem? (i := 1658) (by decide +kernel)) (by decide +kernel))
theorem kx_185 : Cond.selects RX10 (z_mt 185).1 (z_mt 185).1 ∈ zTB := (zTB_in (List.mem_of_getElem? (i := 1659) (by decide +kernel)) (by decide +kernel))
theorem kw_185 : Cond.methodLink R_law 57 (z_mt 185).1 ∈ zTB := (zTB_in (List.mem_of_getElem? (i := 1657) (by decide +kernel)) (by decide +kernel))
set_option maxHeartbeats 1000000 in
theorem lw_case_9 {E : zE} {adV : Nat → Nat} {p : Program} {l : Launch} {e : Env} {s : State} {m : MethodId} {below : List Frame} {meth : Method} {c : Code} {b L : Nat} {xs : Nat → Int32} {H : Heap} {locs : List Loc} {cells slots i : Nat} {Q : State → Prop} {ls : Array Slot} {w : zW} {LS RX : Int → List clau} (C0 : lw_C E adV p s m meth c b L xs) (h9 : i + 8 < L) (hcs : cells ≤ room_1.cells ∧ slots ≤ room_1.slots) (hl : lv_has ls 4 [(0, .ref b), (1, .ref (E.2.2 10 0)), (2, .ref (E.2.2 11 0)), (3, .int (nI i))]) (hR : z_Rel E w H) (hS : va_S (lw_A s) s.heap H locs) (hSim : Sim LS RX w) (kk : ∀ (LS RX : Int → List clau) (w : zW) (H : Heap) (locs : List Loc), Sim LS RX w → z_Rel E w H → va_S (lw_A s) s.heap H locs → W p l e room_1 s m #[Value.ref b] below meth c H locs cells slots Q (F0 m 1320 ls [])) : W p l e room_1 s m #[Value.ref b] below meth c H locs cells slots Q (F0 m 491 ls []) := by
  obtain ⟨hx, hb, -⟩ := id C0.1
  obtain ⟨r, w1, w2, e1, e2, hSim⟩ := p_heard (d := 0) hSim (lw_X xs (i + 1)) (lw_X xs (i + 2))
  refine lv_aload_n hx hb dL_law_491 rfl (lv_at hl 1 rfl) ?_
  refine lw_arg (k := 1) (bb := 1) C0 hS (by omega) hl dL_law_492 dL_law_493 (fun st k => lv_iconst (v := nI 1) hx hb dL_law_494 (by decide) k) dL_law_495 dL_law_496 ?_
  refine W.eq (g2 := F0 m 497 ls _) rfl ?_
  refine lw_arg (k := 2) (bb := 1) C0 hS (by omega) hl dL_law_497 dL_law_498 (fun st k => lv_iconst (v := nI 2) hx hb dL_law_499 (by decide) k) dL_law_500 dL_law_501 ?_
  refine W.eq (g2 := F0 m 502 ls _) rfl ?_
  refine lw_callI (z := 83) (d := 12) (c0 := 10) (i := 0) (ys := [lw_X xs (i + 1), lw_X xs (i + 2)]) C0 hR hS hl.1 kc_83 ob_X9 ⟨by decide, by decide⟩ (fun y hy => by simp only [List.mem_cons, List.not_mem_nil, or_false] at hy; rcases hy with rfl | rfl <;> first | exact lw_Xi xs _ | exact lw_Bi _) (Nat.le_of_ble_eq_true rfl) rfl (show z_call zP 13 83 (vR 10 0 :: List.map vI [lw_X xs (i + 1), lw_X xs (i + 2)]) _ = some _ from e1) kw_83 ki_83 kx_83 ⟨Nat.le_of_ble_eq_true rfl, Nat.le_of_ble_eq_true rfl⟩ (Nat.le_of_ble_eq_true rfl) dL_law_502 hcs (fun H locs hR hS => ?_)
  refine W.eq (g2 := F0 m 505 ls _) rfl ?_
  refine lv_aload_n hx hb dL_law_505 rfl (lv_at hl 2 rfl) ?_
  refine lw_arg (k := 1) (bb := 1) C0 hS (by omega) hl dL_law_506 dL_law_507 (fun st k => lv_iconst (v := nI 1) hx hb dL_law_508 (by decide) k) dL_law_509 dL_law_510 ?_
  refine W.eq (g2 := F0 m 511 ls _) rfl ?_
  refine lw_arg (k := 2) (bb := 1) C0 hS (by omega) hl dL_law_511 dL_law_512 (fun st k => lv_iconst (v := nI 2) hx hb dL_law_513 (by decide) k) dL_law_514 dL_law_515 ?_
  refine W.eq (g2 := F0 m 516 ls _) rfl ?_
  refine lw_callI (z := 185) (d := 12) (c0 := 11) (i := 0) (ys := [lw_X xs (i + 1), lw_X xs (i + 2)]) C0 hR hS hl.1 kc_185 ob_X10 ⟨by decide, by decide⟩ (fun y hy => by simp only [List.mem_cons, List.not_mem_nil, or_false] at hy; rcases hy with rfl | rfl <;> first | exact lw_Xi xs _ | exact lw_Bi _) (Nat.le_of_ble_eq_true rfl) rfl (show z_call zP 13 185 (vR 11 0 :: List.map vI [lw_X xs (i + 1), lw_X xs (i + 2)]) _ = some _ from e2) kw_185 ki_185 kx_185 ⟨Nat.le_of_ble_eq_true rfl, Nat.le_of_ble_eq_true rfl⟩ (Nat.le_of_ble_eq_true rfl) dL_law_516 hcs (fun H locs hR hS => ?_)
  refine W.eq (g2 := F0 m 519 ls _) rfl ?_
  exact lv_icmp_eq (tgt := 1320) hx hb dL_law_519 (by decide) (fun _ => kk LS RX w2 H locs hSim hR hS) (fun h => absurd rfl h)
theorem kc_84 : z_Cal 84 2 1 3 := ⟨(zTB_in (List.mem_of_getElem? (i := 915) (by decide +kernel)) (by decide +kernel)), (zTB_in (List.mem_of_getElem? (i := 109) (by decide +kernel)) (by decide +kernel)), ⟨by decide, by decide, by decide +kernel⟩, by decide, rfl, rfl⟩
theorem ki_84 : Cond.instanceMethod (z_mt 84).1 ∈ zTB := (zTB_in (List.mem_of_getElem? (i := 913) (by decide +kernel)) (by decide +kernel))
theorem kx_84 : Cond.selects RX9 (z_mt 84).1 (z_mt 84).1 ∈ zTB := (zTB_in (List.mem_of_getElem? (i := 914) (by decide +kernel)) (by decide +kernel))
theorem kw_84 : Cond.methodLink R_law 58 (z_mt 84).1 ∈ zTB := (zTB_in (List.mem_of_getElem? (i := 912) (by decide +kernel)) (by decide +kernel))
theorem kc_186 : z_Cal 186 2 1 3 := ⟨(zTB_in (List.mem_of_getElem? (i := 1665) (by decide +kernel)) (by decide +kernel)), (zTB_in (List.mem_of_getElem? (i := 120) (by decide +kernel)) (by decide +kernel)), ⟨by decide, by decide, by decide +kernel⟩, by decide, rfl, rfl⟩
theorem ki_186 : Cond.instanceMethod (z_mt 186).1 ∈ zTB := (zTB_in (List.mem_of_getElem? (i := 1663) (by decide +kernel)) (by decide +kernel))
theorem kx_186 : Cond.selects RX10 (z_mt 186).1 (z_mt 186).1 ∈ zTB := (zTB_in (List.mem_of_getElem? (i := 1664) (by decide +kernel)) (by decide +kernel))
theorem kw_186 : Cond.methodLink R_law 62 (z_mt 186).1 ∈ zTB := (zTB_in (List.mem_of_getElem? (i := 1662) (by decide +kernel)) (by decide +kernel))
set_option maxHeartbeats 1000000 in
theorem lw_case_10 {E : zE} {adV : Nat → Nat} {p : Program} {l : Launch} {e : Env} {s : State} {m : MethodId} {below : List Frame} {meth : Method} {c : Code} {b L : Nat} {xs : Nat → Int32} {H : Heap} {locs : List Loc} {cells slots i : Nat} {Q : State → Prop} {ls : Array Slot} {w : zW} {LS RX : Int → List clau} (C0 : lw_C E adV p s m meth c b L xs) (h9 : i + 8 < L) (hcs : cells ≤ room_1.cells ∧ slots ≤ room_1.slots) (hl : lv_has ls 4 [(0, .ref b), (1, .ref (E.2.2 10 0)), (2, .ref (E.2.2 11 0)), (3, .int (nI i))]) (hR : z_Rel E w H) (hS : va_S (lw_A s) s.heap H locs) (hSim : Sim LS RX w) (kk : ∀ (LS RX : Int → List clau) (w : zW) (H : Heap) (locs : List Loc), Sim LS RX w → z_Rel E w H → va_S (lw_A s) s.heap H locs → W p l e room_1 s m #[Value.ref b] below meth c H locs cells slots Q (F0 m 1320 ls [])) : W p l e room_1 s m #[Value.ref b] below meth c H locs cells slots Q (F0 m 524 ls []) := by
  obtain ⟨hx, hb, -⟩ := id C0.1
  obtain ⟨r, w1, w2, e1, e2, hSim⟩ := p_strike (d := 0) hSim (lw_X xs (i + 1)) ((if lw_X xs (i + 2) = 0 then 0 else 1))
  refine lv_aload_n hx hb dL_law_524 rfl (lv_at hl 1 rfl) ?_
  refine lw_arg (k := 1) (bb := 1) C0 hS (by omega) hl dL_law_525 dL_law_526 (fun st k => lv_iconst (v := nI 1) hx hb dL_law_527 (by decide) k) dL_law_528 dL_law_529 ?_
  refine W.eq (g2 := F0 m 530 ls _) rfl ?_
  refine lw_arg (k := 2) (bb := 1) C0 hS (by omega) hl dL_law_530 dL_law_531 (fun st k => lv_iconst (v := nI 2) hx hb dL_law_532 (by decide) k) dL_law_533 dL_law_534 ?_
  refine W.eq (g2 := F0 m 535 ls _) rfl ?_
  refine lw_bool C0 (lw_Xi xs _) dL_law_535 dL_law_538 dL_law_539 dL_law_542 ?_
  refine W.eq (g2 := F0 m 543 ls _) rfl ?_
  refine lw_callI (z := 84) (d := 12) (c0 := 10) (i := 0) (ys := [lw_X xs (i + 1), (if lw_X xs (i + 2) = 0 then 0 else 1)]) C0 hR hS hl.1 kc_84 ob_X9 ⟨by decide, by decide⟩ (fun y hy => by simp only [List.mem_cons, List.not_mem_nil, or_false] at hy; rcases hy with rfl | rfl <;> first | exact lw_Xi xs _ | exact lw_Bi _) (Nat.le_of_ble_eq_true rfl) rfl (show z_call zP 13 84 (vR 10 0 :: List.map vI [lw_X xs (i + 1), (if lw_X xs (i + 2) = 0 then 0 else 1)]) _ = some _ from e1) kw_84 ki_84 kx_84 ⟨Nat.le_of_ble_eq_true rfl, Nat.le_of_ble_eq_true rfl⟩ (Nat.le_of_ble_eq_true rfl) dL_law_543 hcs (fun H locs hR hS => ?_)
  refine W.eq (g2 := F0 m 546 ls _) rfl ?_
  refine lv_aload_n hx hb dL_law_546 rfl (lv_at hl 2 rfl) ?_
  refine lw_arg (k := 1) (bb := 1) C0 hS (by omega) hl dL_law_547 dL_law_548 (fun st k => lv_iconst (v := nI 1) hx hb dL_law_549 (by decide) k) dL_law_550 dL_law_551 ?_
  refine W.eq (g2 := F0 m 552 ls _) rfl ?_
  refine lw_arg (k := 2) (bb := 1) C0 hS (by omega) hl dL_law_552 dL_law_553 (fun st k => lv_iconst (v := nI 2) hx hb dL_law_554 (by decide) k) dL_law_555 dL_law_556 ?_
  refine W.eq (g2 := F0 m 557 ls _) rfl ?_
  refine lw_bool C0 (lw_Xi xs _) dL_law_557 dL_law_560 dL_law_561 dL_law_564 ?_
  refine W.eq (g2 := F0 m 565 ls _) rfl ?_
  refine lw_callI (z := 186) (d := 12) (c0 := 11) (i := 0) (ys := [lw_X xs (i + 1), (if lw_X xs (i + 2) = 0 then 0 else 1)]) C0 hR hS hl.1 kc_186 ob_X10 ⟨by decide, by decide⟩ (fun y hy => by simp only [List.mem_cons, List.not_mem_nil, or_false] at hy; rcases hy with rfl | rfl <;> first | exact lw_Xi xs _ | exact lw_Bi _) (Nat.le_of_ble_eq_true rfl) rfl (show z_call zP 13 186 (vR 11 0 :: List.map vI [lw_X xs (i + 1), (if lw_X xs (i + 2) = 0 then 0 else 1)]) _ = some _ from e2) kw_186 ki_186 kx_186 ⟨Nat.le_of_ble_eq_true rfl, Nat.le_of_ble_eq_true rfl⟩ (Nat.le_of_ble_eq_true rfl) dL_law_565 hcs (fun H locs hR hS => ?_)
  refine W.eq (g2 := F0 m 568 ls _) rfl ?_
  exact lv_icmp_eq (tgt := 1320) hx hb dL_law_568 (by decide) (fun _ => kk LS RX w2 H locs hSim hR hS) (fun h => absurd rfl h)
theorem kc_85 : z_Cal 85 3 1 5 := ⟨(zTB_in (List.mem_of_getElem? (i := 919) (by decide +kernel)) (by decide +kernel)), (zTB_in (List.mem_of_getElem? (i := 109) (by decide +kernel)) (by decide +kernel)), ⟨by decide, by decide, by decide +kernel⟩, by decide, rfl, rfl⟩
theorem ki_85 : Cond.instanceMethod (z_mt 85).1 ∈ zTB := (zTB_in (List.mem_of_getElem? (i := 917) (by decide +kernel)) (by decide +kernel))
theorem kx_85 : Cond.selects RX9 (z_mt 85).1 (z_mt 85).1 ∈ zTB := (zTB_in (List.mem_of_getElem? (i := 918) (by decide +kernel)) (by decide +kernel))
theorem kw_85 : Cond.methodLink R_law 63 (z_mt 85).1 ∈ zTB := (zTB_in (List.mem_of_getElem? (i := 916) (by decide +kernel)) (by decide +kernel))
theorem kc_191 : z_Cal 191 3 1 5 := ⟨(zTB_in (List.mem_of_getElem? (i := 1669) (by decide +kernel)) (by decide +kernel)), (zTB_in (List.mem_of_getElem? (i := 120) (by decide +kernel)) (by decide +kernel)), ⟨by decide, by decide, by decide +kernel⟩, by decide, rfl, rfl⟩
theorem ki_191 : Cond.instanceMethod (z_mt 191).1 ∈ zTB := (zTB_in (List.mem_of_getElem? (i := 1667) (by decide +kernel)) (by decide +kernel))
theorem kx_191 : Cond.selects RX10 (z_mt 191).1 (z_mt 191).1 ∈ zTB := (zTB_in (List.mem_of_getElem? (i := 1668) (by decide +kernel)) (by decide +kernel))
theorem kw_191 : Cond.methodLink R_law 67 (z_mt 191).1 ∈ zTB := (zTB_in (List.mem_of_getElem? (i := 1666) (by decide +kernel)) (by decide +kernel))
set_option maxHeartbeats 1000000 in
theorem lw_case_11 {E : zE} {adV : Nat → Nat} {p : Program} {l : Launch} {e : Env} {s : State} {m : MethodId} {below : List Frame} {meth : Method} {c : Code} {b L : Nat} {xs : Nat → Int32} {H : Heap} {locs : List Loc} {cells slots i : Nat} {Q : State → Prop} {ls : Array Slot} {w : zW} {LS RX : Int → List clau} (C0 : lw_C E adV p s m meth c b L xs) (h9 : i + 8 < L) (hcs : cells ≤ room_1.cells ∧ slots ≤ room_1.slots) (hl : lv_has ls 4 [(0, .ref b), (1, .ref (E.2.2 10 0)), (2, .ref (E.2.2 11 0)), (3, .int (nI i))]) (hR : z_Rel E w H) (hS : va_S (lw_A s) s.heap H locs) (hSim : Sim LS RX w) (kk : ∀ (LS RX : Int → List clau) (w : zW) (H : Heap) (locs : List Loc), Sim LS RX w → z_Rel E w H → va_S (lw_A s) s.heap H locs → W p l e room_1 s m #[Value.ref b] below meth c H locs cells slots Q (F0 m 1320 ls [])) : W p l e room_1 s m #[Value.ref b] below meth c H locs cells slots Q (F0 m 573 ls []) := by
  obtain ⟨hx, hb, -⟩ := id C0.1
  obtain ⟨r, w1, w2, e1, e2, hSim⟩ := p_odds (d := 0) hSim (lw_X xs (i + 1)) (lw_X xs (i + 2)) (lw_X xs (i + 3))
  refine lv_aload_n hx hb dL_law_573 rfl (lv_at hl 1 rfl) ?_
  refine lw_arg (k := 1) (bb := 1) C0 hS (by omega) hl dL_law_574 dL_law_575 (fun st k => lv_iconst (v := nI 1) hx hb dL_law_576 (by decide) k) dL_law_577 dL_law_578 ?_
  refine W.eq (g2 := F0 m 579 ls _) rfl ?_
  refine lw_arg (k := 2) (bb := 1) C0 hS (by omega) hl dL_law_579 dL_law_580 (fun st k => lv_iconst (v := nI 2) hx hb dL_law_581 (by decide) k) dL_law_582 dL_law_583 ?_
  refine W.eq (g2 := F0 m 584 ls _) rfl ?_
  refine lw_arg (k := 3) (bb := 1) C0 hS (by omega) hl dL_law_584 dL_law_585 (fun st k => lv_iconst (v := nI 3) hx hb dL_law_586 (by decide) k) dL_law_587 dL_law_588 ?_
  refine W.eq (g2 := F0 m 589 ls _) rfl ?_
  refine lw_callI (z := 85) (d := 12) (c0 := 10) (i := 0) (ys := [lw_X xs (i + 1), lw_X xs (i + 2), lw_X xs (i + 3)]) C0 hR hS hl.1 kc_85 ob_X9 ⟨by decide, by decide⟩ (fun y hy => by simp only [List.mem_cons, List.not_mem_nil, or_false] at hy; rcases hy with rfl | rfl | rfl <;> first | exact lw_Xi xs _ | exact lw_Bi _) (Nat.le_of_ble_eq_true rfl) rfl (show z_call zP 13 85 (vR 10 0 :: List.map vI [lw_X xs (i + 1), lw_X xs (i + 2), lw_X xs (i + 3)]) _ = some _ from e1) kw_85 ki_85 kx_85 ⟨Nat.le_of_ble_eq_true rfl, Nat.le_of_ble_eq_true rfl⟩ (Nat.le_of_ble_eq_true rfl) dL_law_589 hcs (fun H locs hR hS => ?_)
  refine W.eq (g2 := F0 m 592 ls _) rfl ?_
  refine lv_aload_n hx hb dL_law_592 rfl (lv_at hl 2 rfl) ?_
  refine lw_arg (k := 1) (bb := 1) C0 hS (by omega) hl dL_law_593 dL_law_594 (fun st k => lv_iconst (v := nI 1) hx hb dL_law_595 (by decide) k) dL_law_596 dL_law_597 ?_
  refine W.eq (g2 := F0 m 598 ls _) rfl ?_
  refine lw_arg (k := 2) (bb := 1) C0 hS (by omega) hl dL_law_598 dL_law_599 (fun st k => lv_iconst (v := nI 2) hx hb dL_law_600 (by decide) k) dL_law_601 dL_law_602 ?_
  refine W.eq (g2 := F0 m 603 ls _) rfl ?_
  refine lw_arg (k := 3) (bb := 1) C0 hS (by omega) hl dL_law_603 dL_law_604 (fun st k => lv_iconst (v := nI 3) hx hb dL_law_605 (by decide) k) dL_law_606 dL_law_607 ?_
  refine W.eq (g2 := F0 m 608 ls _) rfl ?_
  refine lw_callI (z := 191) (d := 12) (c0 := 11) (i := 0) (ys := [lw_X xs (i + 1), lw_X xs (i + 2), lw_X xs (i + 3)]) C0 hR hS hl.1 kc_191 ob_X10 ⟨by decide, by decide⟩ (fun y hy => by simp only [List.mem_cons, List.not_mem_nil, or_false] at hy; rcases hy with rfl | rfl | rfl <;> first | exact lw_Xi xs _ | exact lw_Bi _) (Nat.le_of_ble_eq_true rfl) rfl (show z_call zP 13 191 (vR 11 0 :: List.map vI [lw_X xs (i + 1), lw_X xs (i + 2), lw_X xs (i + 3)]) _ = some _ from e2) kw_191 ki_191 kx_191 ⟨Nat.le_of_ble_eq_true rfl, Nat.le_of_ble_eq_true rfl⟩ (Nat.le_of_ble_eq_true rfl) dL_law_608 hcs (fun H locs hR hS => ?_)
  refine W.eq (g2 := F0 m 611 ls _) rfl ?_
  exact lv_icmp_eq (tgt := 1320) hx hb dL_law_611 (by decide) (fun _ => kk LS RX w2 H locs hSim hR hS) (fun h => absurd rfl h)
theorem kc_86 : z_Cal 86 1 1 3 := ⟨(zTB_in (List.mem_of_getElem? (i := 924) (by decide +kernel)) (by decide +kernel)), (zTB_in (List.mem_of_getElem? (i := 109) (by decide +kernel)) (by decide +kernel)), ⟨by decide, by decide, by decide +kernel⟩, by decide, rfl, rfl⟩
theorem ki_86 : Cond.instanceMethod (z_mt 86).1 ∈ zTB := (zTB_in (List.mem_of_getElem? (i := 922) (by decide +kernel)) (by decide +kernel))
theorem kx_86 : Cond.selects RX9 (z_mt 86).1 (z_mt 86).1 ∈ zTB := (zTB_in (List.mem_of_getElem? (i := 923) (by decide +kernel)) (by decide +kernel))
theorem kw_86 : Cond.methodLink R_law 68 (z_mt 86).1 ∈ zTB := (zTB_in (List.mem_of_getElem? (i := 921) (by decide +kernel)) (by decide +kernel))
theorem kc_192 : z_Cal 192 1 1 6 := ⟨(zTB_in (List.mem_of_getElem? (i := 1674) (by decide +kernel)) (by decide +kernel)), (zTB_in (List.mem_of_getElem? (i := 120) (by decide +kernel)) (by decide +kernel)), ⟨by decide, by decide, by decide +kernel⟩, by decide, rfl, rfl⟩
theorem ki_192 : Cond.instanceMethod (z_mt 192).1 ∈ zTB := (zTB_in (List.mem_of_getElem? (i := 1672) (by decide +kernel)) (by decide +kernel))
theorem kx_192 : Cond.selects RX10 (z_mt 192).1 (z_mt 192).1 ∈ zTB := (zTB_in (List.mem_of_getElem? (i := 1673) (by decide +kernel)) (by decide +kernel))
theorem kw_192 : Cond.methodLink R_law 71 (z_mt 192).1 ∈ zTB := (zTB_in (List.mem_of_getElem? (i := 1671) (by decide +kernel)) (by decide +kernel))
set_option maxHeartbeats 1000000 in
theorem lw_case_12 {E : zE} {adV : Nat → Nat} {p : Program} {l : Launch} {e : Env} {s : State} {m : MethodId} {below : List Frame} {meth : Method} {c : Code} {b L : Nat} {xs : Nat → Int32} {H : Heap} {locs : List Loc} {cells slots i : Nat} {Q : State → Prop} {ls : Array Slot} {w : zW} {LS RX : Int → List clau} (C0 : lw_C E adV p s m meth c b L xs) (h9 : i + 8 < L) (hcs : cells ≤ room_1.cells ∧ slots ≤ room_1.slots) (hl : lv_has ls 4 [(0, .ref b), (1, .ref (E.2.2 10 0)), (2, .ref (E.2.2 11 0)), (3, .int (nI i))]) (hR : z_Rel E w H) (hS : va_S (lw_A s) s.heap H locs) (hSim : Sim LS RX w) (kk : ∀ (LS RX : Int → List clau) (w : zW) (H : Heap) (locs : List Loc), Sim LS RX w → z_Rel E w H → va_S (lw_A s) s.heap H locs → W p l e room_1 s m #[Value.ref b] below meth c H locs cells slots Q (F0 m 1320 ls [])) : W p l e room_1 s m #[Value.ref b] below meth c H locs cells slots Q (F0 m 616 ls []) := by
  obtain ⟨hx, hb, -⟩ := id C0.1
  obtain ⟨r, w1, w2, e1, e2, hSim⟩ := p_all (d := 0) hSim (lw_X xs (i + 1))
  refine lv_aload_n hx hb dL_law_616 rfl (lv_at hl 1 rfl) ?_
  refine lw_arg (k := 1) (bb := 1) C0 hS (by omega) hl dL_law_617 dL_law_618 (fun st k => lv_iconst (v := nI 1) hx hb dL_law_619 (by decide) k) dL_law_620 dL_law_621 ?_
  refine W.eq (g2 := F0 m 622 ls _) rfl ?_
  refine lw_callI (z := 86) (d := 12) (c0 := 10) (i := 0) (ys := [lw_X xs (i + 1)]) C0 hR hS hl.1 kc_86 ob_X9 ⟨by decide, by decide⟩ (fun y hy => by simp only [List.mem_cons, List.not_mem_nil, or_false] at hy; rcases hy with rfl <;> first | exact lw_Xi xs _ | exact lw_Bi _) (Nat.le_of_ble_eq_true rfl) rfl (show z_call zP 13 86 (vR 10 0 :: List.map vI [lw_X xs (i + 1)]) _ = some _ from e1) kw_86 ki_86 kx_86 ⟨Nat.le_of_ble_eq_true rfl, Nat.le_of_ble_eq_true rfl⟩ (Nat.le_of_ble_eq_true rfl) dL_law_622 hcs (fun H locs hR hS => ?_)
  refine W.eq (g2 := F0 m 625 ls _) rfl ?_
  refine lv_aload_n hx hb dL_law_625 rfl (lv_at hl 2 rfl) ?_
  refine lw_arg (k := 1) (bb := 1) C0 hS (by omega) hl dL_law_626 dL_law_627 (fun st k => lv_iconst (v := nI 1) hx hb dL_law_628 (by decide) k) dL_law_629 dL_law_630 ?_
  refine W.eq (g2 := F0 m 631 ls _) rfl ?_
  refine lw_callI (z := 192) (d := 12) (c0 := 11) (i := 0) (ys := [lw_X xs (i + 1)]) C0 hR hS hl.1 kc_192 ob_X10 ⟨by decide, by decide⟩ (fun y hy => by simp only [List.mem_cons, List.not_mem_nil, or_false] at hy; rcases hy with rfl <;> first | exact lw_Xi xs _ | exact lw_Bi _) (Nat.le_of_ble_eq_true rfl) rfl (show z_call zP 13 192 (vR 11 0 :: List.map vI [lw_X xs (i + 1)]) _ = some _ from e2) kw_192 ki_192 kx_192 ⟨Nat.le_of_ble_eq_true rfl, Nat.le_of_ble_eq_true rfl⟩ (Nat.le_of_ble_eq_true rfl) dL_law_631 hcs (fun H locs hR hS => ?_)
  refine W.eq (g2 := F0 m 634 ls _) rfl ?_
  exact lv_icmp_eq (tgt := 1320) hx hb dL_law_634 (by decide) (fun _ => kk LS RX w2 H locs hSim hR hS) (fun h => absurd rfl h)
theorem kc_87 : z_Cal 87 3 2 5 := ⟨(zTB_in (List.mem_of_getElem? (i := 941) (by decide +kernel)) (by decide +kernel)), (zTB_in (List.mem_of_getElem? (i := 109) (by decide +kernel)) (by decide +kernel)), ⟨by decide, by decide, by decide +kernel⟩, by decide, rfl, rfl⟩
theorem ki_87 : Cond.instanceMethod (z_mt 87).1 ∈ zTB := (zTB_in (List.mem_of_getElem? (i := 939) (by decide +kernel)) (by decide +kernel))
theorem kx_87 : Cond.selects RX9 (z_mt 87).1 (z_mt 87).1 ∈ zTB := (zTB_in (List.mem_of_getElem? (i := 940) (by decide +kernel)) (by decide +kernel))
theorem kw_87 : Cond.methodLink R_law 72 (z_mt 87).1 ∈ zTB := (zTB_in (List.mem_of_getElem? (i := 938) (by decide +kernel)) (by decide +kernel))
theorem kc_197 : z_Cal 197 3 2 4 := ⟨(zTB_in (List.mem_of_getElem? (i := 1687) (by decide +kernel)) (by decide +kernel)), (zTB_in (List.mem_of_getElem? (i := 120) (by decide +kernel)) (by decide +kernel)), ⟨by decide, by decide, by decide +kernel⟩, by decide, rfl, rfl⟩
theorem ki_197 : Cond.instanceMethod (z_mt 197).1 ∈ zTB := (zTB_in (List.mem_of_getElem? (i := 1685) (by decide +kernel)) (by decide +kernel))
theorem kx_197 : Cond.selects RX10 (z_mt 197).1 (z_mt 197).1 ∈ zTB := (zTB_in (List.mem_of_getElem? (i := 1686) (by decide +kernel)) (by decide +kernel))
theorem kw_197 : Cond.methodLink R_law 76 (z_mt 197).1 ∈ zTB := (zTB_in (List.mem_of_getElem? (i := 1684) (by decide +kernel)) (by decide +kernel))
set_option maxHeartbeats 1000000 in
theorem lw_case_13 {E : zE} {adV : Nat → Nat} {p : Program} {l : Launch} {e : Env} {s : State} {m : MethodId} {below : List Frame} {meth : Method} {c : Code} {b L : Nat} {xs : Nat → Int32} {H : Heap} {locs : List Loc} {cells slots i : Nat} {Q : State → Prop} {ls : Array Slot} {w : zW} {LS RX : Int → List clau} (C0 : lw_C E adV p s m meth c b L xs) (h9 : i + 8 < L) (hcs : cells ≤ room_1.cells ∧ slots ≤ room_1.slots) (hl : lv_has ls 4 [(0, .ref b), (1, .ref (E.2.2 10 0)), (2, .ref (E.2.2 11 0)), (3, .int (nI i))]) (hR : z_Rel E w H) (hS : va_S (lw_A s) s.heap H locs) (hSim : Sim LS RX w) (kk : ∀ (LS RX : Int → List clau) (w : zW) (H : Heap) (locs : List Loc), Sim LS RX w → z_Rel E w H → va_S (lw_A s) s.heap H locs → W p l e room_1 s m #[Value.ref b] below meth c H locs cells slots Q (F0 m 1320 ls [])) : W p l e room_1 s m #[Value.ref b] below meth c H locs cells slots Q (F0 m 639 ls []) := by
  obtain ⟨hx, hb, -⟩ := id C0.1
  obtain ⟨r, w1, w2, e1, e2, hSim⟩ := p_row (d := 0) hSim (lw_X xs (i + 1)) (lw_X xs (i + 2)) (lw_X xs (i + 3))
  refine lv_aload_n hx hb dL_law_639 rfl (lv_at hl 1 rfl) ?_
  refine lw_arg (k := 1) (bb := 1) C0 hS (by omega) hl dL_law_640 dL_law_641 (fun st k => lv_iconst (v := nI 1) hx hb dL_law_642 (by decide) k) dL_law_643 dL_law_644 ?_
  refine W.eq (g2 := F0 m 645 ls _) rfl ?_
  refine lw_arg (k := 2) (bb := 1) C0 hS (by omega) hl dL_law_645 dL_law_646 (fun st k => lv_iconst (v := nI 2) hx hb dL_law_647 (by decide) k) dL_law_648 dL_law_649 ?_
  refine W.eq (g2 := F0 m 650 ls _) rfl ?_
  refine lw_arg (k := 3) (bb := 1) C0 hS (by omega) hl dL_law_650 dL_law_651 (fun st k => lv_iconst (v := nI 3) hx hb dL_law_652 (by decide) k) dL_law_653 dL_law_654 ?_
  refine W.eq (g2 := F0 m 655 ls _) rfl ?_
  refine lw_callL (z := 87) (d := 12) (c0 := 10) (i := 0) (ys := [lw_X xs (i + 1), lw_X xs (i + 2), lw_X xs (i + 3)]) C0 hR hS hl.1 kc_87 ob_X9 ⟨by decide, by decide⟩ (fun y hy => by simp only [List.mem_cons, List.not_mem_nil, or_false] at hy; rcases hy with rfl | rfl | rfl <;> first | exact lw_Xi xs _ | exact lw_Bi _) (Nat.le_of_ble_eq_true rfl) rfl (show z_call zP 13 87 (vR 10 0 :: List.map vI [lw_X xs (i + 1), lw_X xs (i + 2), lw_X xs (i + 3)]) _ = some _ from e1) kw_87 ki_87 kx_87 ⟨Nat.le_of_ble_eq_true rfl, Nat.le_of_ble_eq_true rfl⟩ (Nat.le_of_ble_eq_true rfl) dL_law_655 hcs (fun H locs hR hS => ?_)
  refine W.eq (g2 := F0 m 658 ls _) rfl ?_
  refine lv_aload_n hx hb dL_law_658 rfl (lv_at hl 2 rfl) ?_
  refine lw_arg (k := 1) (bb := 1) C0 hS (by omega) hl dL_law_659 dL_law_660 (fun st k => lv_iconst (v := nI 1) hx hb dL_law_661 (by decide) k) dL_law_662 dL_law_663 ?_
  refine W.eq (g2 := F0 m 664 ls _) rfl ?_
  refine lw_arg (k := 2) (bb := 1) C0 hS (by omega) hl dL_law_664 dL_law_665 (fun st k => lv_iconst (v := nI 2) hx hb dL_law_666 (by decide) k) dL_law_667 dL_law_668 ?_
  refine W.eq (g2 := F0 m 669 ls _) rfl ?_
  refine lw_arg (k := 3) (bb := 1) C0 hS (by omega) hl dL_law_669 dL_law_670 (fun st k => lv_iconst (v := nI 3) hx hb dL_law_671 (by decide) k) dL_law_672 dL_law_673 ?_
  refine W.eq (g2 := F0 m 674 ls _) rfl ?_
  refine lw_callL (z := 197) (d := 12) (c0 := 11) (i := 0) (ys := [lw_X xs (i + 1), lw_X xs (i + 2), lw_X xs (i + 3)]) C0 hR hS hl.1 kc_197 ob_X10 ⟨by decide, by decide⟩ (fun y hy => by simp only [List.mem_cons, List.not_mem_nil, or_false] at hy; rcases hy with rfl | rfl | rfl <;> first | exact lw_Xi xs _ | exact lw_Bi _) (Nat.le_of_ble_eq_true rfl) rfl (show z_call zP 13 197 (vR 11 0 :: List.map vI [lw_X xs (i + 1), lw_X xs (i + 2), lw_X xs (i + 3)]) _ = some _ from e2) kw_197 ki_197 kx_197 ⟨Nat.le_of_ble_eq_true rfl, Nat.le_of_ble_eq_true rfl⟩ (Nat.le_of_ble_eq_true rfl) dL_law_674 hcs (fun H locs hR hS => ?_)
  refine W.eq (g2 := F0 m 677 ls _) rfl ?_
  refine W.lcmp hx hb dL_law_677 ?_
  refine lv_if_eq (tgt := 1320) hx hb dL_law_678 (by decide) (fun _ => kk LS RX w2 H locs hSim hR hS) (fun h => absurd (lg_cmp_rfl _) h)
theorem kc_88 : z_Cal 88 1 1 2 := ⟨(zTB_in (List.mem_of_getElem? (i := 967) (by decide +kernel)) (by decide +kernel)), (zTB_in (List.mem_of_getElem? (i := 109) (by decide +kernel)) (by decide +kernel)), ⟨by decide, by decide, by decide +kernel⟩, by decide, rfl, rfl⟩
theorem ki_88 : Cond.instanceMethod (z_mt 88).1 ∈ zTB := (zTB_in (List.mem_of_getElem? (i := 965) (by decide +kernel)) (by decide +kernel))
theorem kx_88 : Cond.selects RX9 (z_mt 88).1 (z_mt 88).1 ∈ zTB := (zTB_in (List.mem_of_getElem? (i := 966) (by decide +kernel)) (by decide +kernel))
theorem kw_88 : Cond.methodLink R_law 77 (z_mt 88).1 ∈ zTB := (zTB_in (List.mem_of_getElem? (i := 964) (by decide +kernel)) (by decide +kernel))
theorem kc_198 : z_Cal 198 1 1 8 := ⟨(zTB_in (List.mem_of_getElem? (i := 1707) (by decide +kernel)) (by decide +kernel)), (zTB_in (List.mem_of_getElem? (i := 120) (by decide +kernel)) (by decide +kernel)), ⟨by decide, by decide, by decide +kernel⟩, by decide, rfl, rfl⟩
theorem ki_198 : Cond.instanceMethod (z_mt 198).1 ∈ zTB := (zTB_in (List.mem_of_getElem? (i := 1705) (by decide +kernel)) (by decide +kernel))
theorem kx_198 : Cond.selects RX10 (z_mt 198).1 (z_mt 198).1 ∈ zTB := (zTB_in (List.mem_of_getElem? (i := 1706) (by decide +kernel)) (by decide +kernel))
theorem kw_198 : Cond.methodLink R_law 80 (z_mt 198).1 ∈ zTB := (zTB_in (List.mem_of_getElem? (i := 1704) (by decide +kernel)) (by decide +kernel))
set_option maxHeartbeats 1000000 in
theorem lw_case_14 {E : zE} {adV : Nat → Nat} {p : Program} {l : Launch} {e : Env} {s : State} {m : MethodId} {below : List Frame} {meth : Method} {c : Code} {b L : Nat} {xs : Nat → Int32} {H : Heap} {locs : List Loc} {cells slots i : Nat} {Q : State → Prop} {ls : Array Slot} {w : zW} {LS RX : Int → List clau} (C0 : lw_C E adV p s m meth c b L xs) (h9 : i + 8 < L) (hcs : cells ≤ room_1.cells ∧ slots ≤ room_1.slots) (hl : lv_has ls 4 [(0, .ref b), (1, .ref (E.2.2 10 0)), (2, .ref (E.2.2 11 0)), (3, .int (nI i))]) (hR : z_Rel E w H) (hS : va_S (lw_A s) s.heap H locs) (hSim : Sim LS RX w) (kk : ∀ (LS RX : Int → List clau) (w : zW) (H : Heap) (locs : List Loc), Sim LS RX w → z_Rel E w H → va_S (lw_A s) s.heap H locs → W p l e room_1 s m #[Value.ref b] below meth c H locs cells slots Q (F0 m 1320 ls [])) : W p l e room_1 s m #[Value.ref b] below meth c H locs cells slots Q (F0 m 683 ls []) := by
  obtain ⟨hx, hb, -⟩ := id C0.1
  obtain ⟨r, w1, w2, e1, e2, hSim⟩ := p_soon (d := 0) hSim (lw_X xs (i + 1))
  refine lv_aload_n hx hb dL_law_683 rfl (lv_at hl 1 rfl) ?_
  refine lw_arg (k := 1) (bb := 1) C0 hS (by omega) hl dL_law_684 dL_law_685 (fun st k => lv_iconst (v := nI 1) hx hb dL_law_686 (by decide) k) dL_law_687 dL_law_688 ?_
  refine W.eq (g2 := F0 m 689 ls _) rfl ?_
  refine lw_callI (z := 88) (d := 12) (c0 := 10) (i := 0) (ys := [lw_X xs (i + 1)]) C0 hR hS hl.1 kc_88 ob_X9 ⟨by decide, by decide⟩ (fun y hy => by simp only [List.mem_cons, List.not_mem_nil, or_false] at hy; rcases hy with rfl <;> first | exact lw_Xi xs _ | exact lw_Bi _) (Nat.le_of_ble_eq_true rfl) rfl (show z_call zP 13 88 (vR 10 0 :: List.map vI [lw_X xs (i + 1)]) _ = some _ from e1) kw_88 ki_88 kx_88 ⟨Nat.le_of_ble_eq_true rfl, Nat.le_of_ble_eq_true rfl⟩ (Nat.le_of_ble_eq_true rfl) dL_law_689 hcs (fun H locs hR hS => ?_)
  refine W.eq (g2 := F0 m 692 ls _) rfl ?_
  refine lv_aload_n hx hb dL_law_692 rfl (lv_at hl 2 rfl) ?_
  refine lw_arg (k := 1) (bb := 1) C0 hS (by omega) hl dL_law_693 dL_law_694 (fun st k => lv_iconst (v := nI 1) hx hb dL_law_695 (by decide) k) dL_law_696 dL_law_697 ?_
  refine W.eq (g2 := F0 m 698 ls _) rfl ?_
  refine lw_callI (z := 198) (d := 12) (c0 := 11) (i := 0) (ys := [lw_X xs (i + 1)]) C0 hR hS hl.1 kc_198 ob_X10 ⟨by decide, by decide⟩ (fun y hy => by simp only [List.mem_cons, List.not_mem_nil, or_false] at hy; rcases hy with rfl <;> first | exact lw_Xi xs _ | exact lw_Bi _) (Nat.le_of_ble_eq_true rfl) rfl (show z_call zP 13 198 (vR 11 0 :: List.map vI [lw_X xs (i + 1)]) _ = some _ from e2) kw_198 ki_198 kx_198 ⟨Nat.le_of_ble_eq_true rfl, Nat.le_of_ble_eq_true rfl⟩ (Nat.le_of_ble_eq_true rfl) dL_law_698 hcs (fun H locs hR hS => ?_)
  refine W.eq (g2 := F0 m 701 ls _) rfl ?_
  exact lv_icmp_eq (tgt := 1320) hx hb dL_law_701 (by decide) (fun _ => kk LS RX w2 H locs hSim hR hS) (fun h => absurd rfl h)
theorem kc_89 : z_Cal 89 1 1 3 := ⟨(zTB_in (List.mem_of_getElem? (i := 980) (by decide +kernel)) (by decide +kernel)), (zTB_in (List.mem_of_getElem? (i := 109) (by decide +kernel)) (by decide +kernel)), ⟨by decide, by decide, by decide +kernel⟩, by decide, rfl, rfl⟩
theorem ki_89 : Cond.instanceMethod (z_mt 89).1 ∈ zTB := (zTB_in (List.mem_of_getElem? (i := 978) (by decide +kernel)) (by decide +kernel))
theorem kx_89 : Cond.selects RX9 (z_mt 89).1 (z_mt 89).1 ∈ zTB := (zTB_in (List.mem_of_getElem? (i := 979) (by decide +kernel)) (by decide +kernel))
theorem kw_89 : Cond.methodLink R_law 81 (z_mt 89).1 ∈ zTB := (zTB_in (List.mem_of_getElem? (i := 977) (by decide +kernel)) (by decide +kernel))
theorem kc_199 : z_Cal 199 1 1 3 := ⟨(zTB_in (List.mem_of_getElem? (i := 1712) (by decide +kernel)) (by decide +kernel)), (zTB_in (List.mem_of_getElem? (i := 120) (by decide +kernel)) (by decide +kernel)), ⟨by decide, by decide, by decide +kernel⟩, by decide, rfl, rfl⟩
theorem ki_199 : Cond.instanceMethod (z_mt 199).1 ∈ zTB := (zTB_in (List.mem_of_getElem? (i := 1710) (by decide +kernel)) (by decide +kernel))
theorem kx_199 : Cond.selects RX10 (z_mt 199).1 (z_mt 199).1 ∈ zTB := (zTB_in (List.mem_of_getElem? (i := 1711) (by decide +kernel)) (by decide +kernel))
theorem kw_199 : Cond.methodLink R_law 84 (z_mt 199).1 ∈ zTB := (zTB_in (List.mem_of_getElem? (i := 1709) (by decide +kernel)) (by decide +kernel))
set_option maxHeartbeats 1000000 in
theorem lw_case_15 {E : zE} {adV : Nat → Nat} {p : Program} {l : Launch} {e : Env} {s : State} {m : MethodId} {below : List Frame} {meth : Method} {c : Code} {b L : Nat} {xs : Nat → Int32} {H : Heap} {locs : List Loc} {cells slots i : Nat} {Q : State → Prop} {ls : Array Slot} {w : zW} {LS RX : Int → List clau} (C0 : lw_C E adV p s m meth c b L xs) (h9 : i + 8 < L) (hcs : cells ≤ room_1.cells ∧ slots ≤ room_1.slots) (hl : lv_has ls 4 [(0, .ref b), (1, .ref (E.2.2 10 0)), (2, .ref (E.2.2 11 0)), (3, .int (nI i))]) (hR : z_Rel E w H) (hS : va_S (lw_A s) s.heap H locs) (hSim : Sim LS RX w) (kk : ∀ (LS RX : Int → List clau) (w : zW) (H : Heap) (locs : List Loc), Sim LS RX w → z_Rel E w H → va_S (lw_A s) s.heap H locs → W p l e room_1 s m #[Value.ref b] below meth c H locs cells slots Q (F0 m 1320 ls [])) : W p l e room_1 s m #[Value.ref b] below meth c H locs cells slots Q (F0 m 706 ls []) := by
  obtain ⟨hx, hb, -⟩ := id C0.1
  obtain ⟨r, w1, w2, e1, e2, hSim⟩ := p_left (d := 0) hSim (lw_X xs (i + 1))
  refine lv_aload_n hx hb dL_law_706 rfl (lv_at hl 1 rfl) ?_
  refine lw_arg (k := 1) (bb := 1) C0 hS (by omega) hl dL_law_707 dL_law_708 (fun st k => lv_iconst (v := nI 1) hx hb dL_law_709 (by decide) k) dL_law_710 dL_law_711 ?_
  refine W.eq (g2 := F0 m 712 ls _) rfl ?_
  refine lw_callI (z := 89) (d := 12) (c0 := 10) (i := 0) (ys := [lw_X xs (i + 1)]) C0 hR hS hl.1 kc_89 ob_X9 ⟨by decide, by decide⟩ (fun y hy => by simp only [List.mem_cons, List.not_mem_nil, or_false] at hy; rcases hy with rfl <;> first | exact lw_Xi xs _ | exact lw_Bi _) (Nat.le_of_ble_eq_true rfl) rfl (show z_call zP 13 89 (vR 10 0 :: List.map vI [lw_X xs (i + 1)]) _ = some _ from e1) kw_89 ki_89 kx_89 ⟨Nat.le_of_ble_eq_true rfl, Nat.le_of_ble_eq_true rfl⟩ (Nat.le_of_ble_eq_true rfl) dL_law_712 hcs (fun H locs hR hS => ?_)
  refine W.eq (g2 := F0 m 715 ls _) rfl ?_
  refine lv_aload_n hx hb dL_law_715 rfl (lv_at hl 2 rfl) ?_
  refine lw_arg (k := 1) (bb := 1) C0 hS (by omega) hl dL_law_716 dL_law_717 (fun st k => lv_iconst (v := nI 1) hx hb dL_law_718 (by decide) k) dL_law_719 dL_law_720 ?_
  refine W.eq (g2 := F0 m 721 ls _) rfl ?_
  refine lw_callI (z := 199) (d := 12) (c0 := 11) (i := 0) (ys := [lw_X xs (i + 1)]) C0 hR hS hl.1 kc_199 ob_X10 ⟨by decide, by decide⟩ (fun y hy => by simp only [List.mem_cons, List.not_mem_nil, or_false] at hy; rcases hy with rfl <;> first | exact lw_Xi xs _ | exact lw_Bi _) (Nat.le_of_ble_eq_true rfl) rfl (show z_call zP 13 199 (vR 11 0 :: List.map vI [lw_X xs (i + 1)]) _ = some _ from e2) kw_199 ki_199 kx_199 ⟨Nat.le_of_ble_eq_true rfl, Nat.le_of_ble_eq_true rfl⟩ (Nat.le_of_ble_eq_true rfl) dL_law_721 hcs (fun H locs hR hS => ?_)
  refine W.eq (g2 := F0 m 724 ls _) rfl ?_
  exact lv_icmp_eq (tgt := 1320) hx hb dL_law_724 (by decide) (fun _ => kk LS RX w2 H locs hSim hR hS) (fun h => absurd rfl h)
theorem kc_91 : z_Cal 91 5 1 6 := ⟨(zTB_in (List.mem_of_getElem? (i := 987) (by decide +kernel)) (by decide +kernel)), (zTB_in (List.mem_of_getElem? (i := 109) (by decide +kernel)) (by decide +kernel)), ⟨by decide, by decide, by decide +kernel⟩, by decide, rfl, rfl⟩
theorem ki_91 : Cond.instanceMethod (z_mt 91).1 ∈ zTB := (zTB_in (List.mem_of_getElem? (i := 985) (by decide +kernel)) (by decide +kernel))
theorem kx_91 : Cond.selects RX9 (z_mt 91).1 (z_mt 91).1 ∈ zTB := (zTB_in (List.mem_of_getElem? (i := 986) (by decide +kernel)) (by decide +kernel))
theorem kw_91 : Cond.methodLink R_law 85 (z_mt 91).1 ∈ zTB := (zTB_in (List.mem_of_getElem? (i := 984) (by decide +kernel)) (by decide +kernel))
theorem kc_200 : z_Cal 200 5 1 11 := ⟨(zTB_in (List.mem_of_getElem? (i := 1716) (by decide +kernel)) (by decide +kernel)), (zTB_in (List.mem_of_getElem? (i := 120) (by decide +kernel)) (by decide +kernel)), ⟨by decide, by decide, by decide +kernel⟩, by decide, rfl, rfl⟩
theorem ki_200 : Cond.instanceMethod (z_mt 200).1 ∈ zTB := (zTB_in (List.mem_of_getElem? (i := 1714) (by decide +kernel)) (by decide +kernel))
theorem kx_200 : Cond.selects RX10 (z_mt 200).1 (z_mt 200).1 ∈ zTB := (zTB_in (List.mem_of_getElem? (i := 1715) (by decide +kernel)) (by decide +kernel))
theorem kw_200 : Cond.methodLink R_law 88 (z_mt 200).1 ∈ zTB := (zTB_in (List.mem_of_getElem? (i := 1713) (by decide +kernel)) (by decide +kernel))
set_option maxHeartbeats 1000000 in
theorem lw_case_16 {E : zE} {adV : Nat → Nat} {p : Program} {l : Launch} {e : Env} {s : State} {m : MethodId} {below : List Frame} {meth : Method} {c : Code} {b L : Nat} {xs : Nat → Int32} {H : Heap} {locs : List Loc} {cells slots i : Nat} {Q : State → Prop} {ls : Array Slot} {w : zW} {LS RX : Int → List clau} (C0 : lw_C E adV p s m meth c b L xs) (h9 : i + 8 < L) (hcs : cells ≤ room_1.cells ∧ slots ≤ room_1.slots) (hl : lv_has ls 4 [(0, .ref b), (1, .ref (E.2.2 10 0)), (2, .ref (E.2.2 11 0)), (3, .int (nI i))]) (hR : z_Rel E w H) (hS : va_S (lw_A s) s.heap H locs) (hSim : Sim LS RX w) (kk : ∀ (LS RX : Int → List clau) (w : zW) (H : Heap) (locs : List Loc), Sim LS RX w → z_Rel E w H → va_S (lw_A s) s.heap H locs → W p l e room_1 s m #[Value.ref b] below meth c H locs cells slots Q (F0 m 1320 ls [])) : W p l e room_1 s m #[Value.ref b] below meth c H locs cells slots Q (F0 m 729 ls []) := by
  obtain ⟨hx, hb, -⟩ := id C0.1
  obtain ⟨r, w1, w2, e1, e2, hSim⟩ := p_fork (d := 0) hSim (lw_X xs (i + 1)) (lw_X xs (i + 2)) (lw_X xs (i + 3)) (lw_X xs (i + 4)) (lw_X xs (i + 5))
  refine lv_aload_n hx hb dL_law_729 rfl (lv_at hl 1 rfl) ?_
  refine lw_arg (k := 1) (bb := 1) C0 hS (by omega) hl dL_law_730 dL_law_731 (fun st k => lv_iconst (v := nI 1) hx hb dL_law_732 (by decide) k) dL_law_733 dL_law_734 ?_
  refine W.eq (g2 := F0 m 735 ls _) rfl ?_
  refine lw_arg (k := 2) (bb := 1) C0 hS (by omega) hl dL_law_735 dL_law_736 (fun st k => lv_iconst (v := nI 2) hx hb dL_law_737 (by decide) k) dL_law_738 dL_law_739 ?_
  refine W.eq (g2 := F0 m 740 ls _) rfl ?_
  refine lw_arg (k := 3) (bb := 1) C0 hS (by omega) hl dL_law_740 dL_law_741 (fun st k => lv_iconst (v := nI 3) hx hb dL_law_742 (by decide) k) dL_law_743 dL_law_744 ?_
  refine W.eq (g2 := F0 m 745 ls _) rfl ?_
  refine lw_arg (k := 4) (bb := 1) C0 hS (by omega) hl dL_law_745 dL_law_746 (fun st k => lv_iconst (v := nI 4) hx hb dL_law_747 (by decide) k) dL_law_748 dL_law_749 ?_
  refine W.eq (g2 := F0 m 750 ls _) rfl ?_
  refine lw_arg (k := 5) (bb := 1) C0 hS (by omega) hl dL_law_750 dL_law_751 (fun st k => lv_iconst (v := nI 5) hx hb dL_law_752 (by decide) k) dL_law_753 dL_law_754 ?_
  refine W.eq (g2 := F0 m 755 ls _) rfl ?_
  refine lw_callI (z := 91) (d := 12) (c0 := 10) (i := 0) (ys := [lw_X xs (i + 1), lw_X xs (i + 2), lw_X xs (i + 3), lw_X xs (i + 4), lw_X xs (i + 5)]) C0 hR hS hl.1 kc_91 ob_X9 ⟨by decide, by decide⟩ (fun y hy => by simp only [List.mem_cons, List.not_mem_nil, or_false] at hy; rcases hy with rfl | rfl | rfl | rfl | rfl <;> first | exact lw_Xi xs _ | exact lw_Bi _) (Nat.le_of_ble_eq_true rfl) rfl (show z_call zP 13 91 (vR 10 0 :: List.map vI [lw_X xs (i + 1), lw_X xs (i + 2), lw_X xs (i + 3), lw_X xs (i + 4), lw_X xs (i + 5)]) _ = some _ from e1) kw_91 ki_91 kx_91 ⟨Nat.le_of_ble_eq_true rfl, Nat.le_of_ble_eq_true rfl⟩ (Nat.le_of_ble_eq_true rfl) dL_law_755 hcs (fun H locs hR hS => ?_)
  refine W.eq (g2 := F0 m 758 ls _) rfl ?_
  refine lv_aload_n hx hb dL_law_758 rfl (lv_at hl 2 rfl) ?_
  refine lw_arg (k := 1) (bb := 1) C0 hS (by omega) hl dL_law_759 dL_law_760 (fun st k => lv_iconst (v := nI 1) hx hb dL_law_761 (by decide) k) dL_law_762 dL_law_763 ?_
  refine W.eq (g2 := F0 m 764 ls _) rfl ?_
  refine lw_arg (k := 2) (bb := 1) C0 hS (by omega) hl dL_law_764 dL_law_765 (fun st k => lv_iconst (v := nI 2) hx hb dL_law_766 (by decide) k) dL_law_767 dL_law_768 ?_
  refine W.eq (g2 := F0 m 769 ls _) rfl ?_
  refine lw_arg (k := 3) (bb := 1) C0 hS (by omega) hl dL_law_769 dL_law_770 (fun st k => lv_iconst (v := nI 3) hx hb dL_law_771 (by decide) k) dL_law_772 dL_law_773 ?_
  refine W.eq (g2 := F0 m 774 ls _) rfl ?_
  refine lw_arg (k := 4) (bb := 1) C0 hS (by omega) hl dL_law_774 dL_law_775 (fun st k => lv_iconst (v := nI 4) hx hb dL_law_776 (by decide) k) dL_law_777 dL_law_778 ?_
  refine W.eq (g2 := F0 m 779 ls _) rfl ?_
  refine lw_arg (k := 5) (bb := 1) C0 hS (by omega) hl dL_law_779 dL_law_780 (fun st k => lv_iconst (v := nI 5) hx hb dL_law_781 (by decide) k) dL_law_782 dL_law_783 ?_
  refine W.eq (g2 := F0 m 784 ls _) rfl ?_
  refine lw_callI (z := 200) (d := 12) (c0 := 11) (i := 0) (ys := [lw_X xs (i + 1), lw_X xs (i + 2), lw_X xs (i + 3), lw_X xs (i + 4), lw_X xs (i + 5)]) C0 hR hS hl.1 kc_200 ob_X10 ⟨by decide, by decide⟩ (fun y hy => by simp only [List.mem_cons, List.not_mem_nil, or_false] at hy; rcases hy with rfl | rfl | rfl | rfl | rfl <;> first | exact lw_Xi xs _ | exact lw_Bi _) (Nat.le_of_ble_eq_true rfl) rfl (show z_call zP 13 200 (vR 11 0 :: List.map vI [lw_X xs (i + 1), lw_X xs (i + 2), lw_X xs (i + 3), lw_X xs (i + 4), lw_X xs (i + 5)]) _ = some _ from e2) kw_200 ki_200 kx_200 ⟨Nat.le_of_ble_eq_true rfl, Nat.le_of_ble_eq_true rfl⟩ (Nat.le_of_ble_eq_true rfl) dL_law_784 hcs (fun H locs hR hS => ?_)
  refine W.eq (g2 := F0 m 787 ls _) rfl ?_
  exact lv_icmp_eq (tgt := 1320) hx hb dL_law_787 (by decide) (fun _ => kk LS RX w2 H locs hSim hR hS) (fun h => absurd rfl h)
theorem kc_92 : z_Cal 92 3 1 7 := ⟨(zTB_in (List.mem_of_getElem? (i := 991) (by decide +kernel)) (by decide +kernel)), (zTB_in (List.mem_of_getElem? (i := 109) (by decide +kernel)) (by decide +kernel)), ⟨by decide, by decide, by decide +kernel⟩, by decide, rfl, rfl⟩
theorem ki_92 : Cond.instanceMethod (z_mt 92).1 ∈ zTB := (zTB_in (List.mem_of_getElem? (i := 989) (by decide +kernel)) (by decide +kernel))
theorem kx_92 : Cond.selects RX9 (z_mt 92).1 (z_mt 92).1 ∈ zTB := (zTB_in (List.mem_of_getElem? (i := 990) (by decide +kernel)) (by decide +kernel))
theorem kw_92 : Cond.methodLink R_law 89 (z_mt 92).1 ∈ zTB := (zTB_in (List.mem_of_getElem? (i := 988) (by decide +kernel)) (by decide +kernel))
theorem kc_203 : z_Cal 203 3 1 6 := ⟨(zTB_in (List.mem_of_getElem? (i := 1721) (by decide +kernel)) (by decide +kernel)), (zTB_in (List.mem_of_getElem? (i := 120) (by decide +kernel)) (by decide +kernel)), ⟨by decide, by decide, by decide +kernel⟩, by decide, rfl, rfl⟩
theorem ki_203 : Cond.instanceMethod (z_mt 203).1 ∈ zTB := (zTB_in (List.mem_of_getElem? (i := 1719) (by decide +kernel)) (by decide +kernel))
theorem kx_203 : Cond.selects RX10 (z_mt 203).1 (z_mt 203).1 ∈ zTB := (zTB_in (List.mem_of_getElem? (i := 1720) (by decide +kernel)) (by decide +kernel))
theorem kw_203 : Cond.methodLink R_law 92 (z_mt 203).1 ∈ zTB := (zTB_in (List.mem_of_getElem? (i := 1718) (by decide +kernel)) (by decide +kernel))
set_option maxHeartbeats 1000000 in
theorem lw_case_17 {E : zE} {adV : Nat → Nat} {p : Program} {l : Launch} {e : Env} {s : State} {m : MethodId} {below : List Frame} {meth : Method} {c : Code} {b L : Nat} {xs : Nat → Int32} {H : Heap} {locs : List Loc} {cells slots i : Nat} {Q : State → Prop} {ls : Array Slot} {w : zW} {LS RX : Int → List clau} (C0 : lw_C E adV p s m meth c b L xs) (h9 : i + 8 < L) (hcs : cells ≤ room_1.cells ∧ slots ≤ room_1.slots) (hl : lv_has ls 4 [(0, .ref b), (1, .ref (E.2.2 10 0)), (2, .ref (E.2.2 11 0)), (3, .int (nI i))]) (hR : z_Rel E w H) (hS : va_S (lw_A s) s.heap H locs) (hSim : Sim LS RX w) (kk : ∀ (LS RX : Int → List clau) (w : zW) (H : Heap) (locs : List Loc), Sim LS RX w → z_Rel E w H → va_S (lw_A s) s.heap H locs → W p l e room_1 s m #[Value.ref b] below meth c H locs cells slots Q (F0 m 1320 ls [])) : W p l e room_1 s m #[Value.ref b] below meth c H locs cells slots Q (F0 m 792 ls []) := by
  obtain ⟨hx, hb, -⟩ := id C0.1
  obtain ⟨r, w1, w2, e1, e2, hSim⟩ := p_remember (d := 0) hSim (lw_X xs (i + 1)) (lw_X xs (i + 2)) (lw_X xs (i + 3))
  refine lv_aload_n hx hb dL_law_792 rfl (lv_at hl 1 rfl) ?_
  refine lw_arg (k := 1) (bb := 1) C0 hS (by omega) hl dL_law_793 dL_law_794 (fun st k => lv_iconst (v := nI 1) hx hb dL_law_795 (by decide) k) dL_law_796 dL_law_797 ?_
  refine W.eq (g2 := F0 m 798 ls _) rfl ?_
  refine lw_arg (k := 2) (bb := 1) C0 hS (by omega) hl dL_law_798 dL_law_799 (fun st k => lv_iconst (v := nI 2) hx hb dL_law_800 (by decide) k) dL_law_801 dL_law_802 ?_
  refine W.eq (g2 := F0 m 803 ls _) rfl ?_
  refine lw_arg (k := 3) (bb := 1) C0 hS (by omega) hl dL_law_803 dL_law_804 (fun st k => lv_iconst (v := nI 3) hx hb dL_law_805 (by decide) k) dL_law_806 dL_law_807 ?_
  refine W.eq (g2 := F0 m 808 ls _) rfl ?_
  refine lw_callI (z := 92) (d := 12) (c0 := 10) (i := 0) (ys := [lw_X xs (i + 1), lw_X xs (i + 2), lw_X xs (i + 3)]) C0 hR hS hl.1 kc_92 ob_X9 ⟨by decide, by decide⟩ (fun y hy => by simp only [List.mem_cons, List.not_mem_nil, or_false] at hy; rcases hy with rfl | rfl | rfl <;> first | exact lw_Xi xs _ | exact lw_Bi _) (Nat.le_of_ble_eq_true rfl) rfl (show z_call zP 13 92 (vR 10 0 :: List.map vI [lw_X xs (i + 1), lw_X xs (i + 2), lw_X xs (i + 3)]) _ = some _ from e1) kw_92 ki_92 kx_92 ⟨Nat.le_of_ble_eq_true rfl, Nat.le_of_ble_eq_true rfl⟩ (Nat.le_of_ble_eq_true rfl) dL_law_808 hcs (fun H locs hR hS => ?_)
  refine W.eq (g2 := F0 m 811 ls _) rfl ?_
  refine lv_aload_n hx hb dL_law_811 rfl (lv_at hl 2 rfl) ?_
  refine lw_arg (k := 1) (bb := 1) C0 hS (by omega) hl dL_law_812 dL_law_813 (fun st k => lv_iconst (v := nI 1) hx hb dL_law_814 (by decide) k) dL_law_815 dL_law_816 ?_
  refine W.eq (g2 := F0 m 817 ls _) rfl ?_
  refine lw_arg (k := 2) (bb := 1) C0 hS (by omega) hl dL_law_817 dL_law_818 (fun st k => lv_iconst (v := nI 2) hx hb dL_law_819 (by decide) k) dL_law_820 dL_law_821 ?_
  refine W.eq (g2 := F0 m 822 ls _) rfl ?_
  refine lw_arg (k := 3) (bb := 1) C0 hS (by omega) hl dL_law_822 dL_law_823 (fun st k => lv_iconst (v := nI 3) hx hb dL_law_824 (by decide) k) dL_law_825 dL_law_826 ?_
  refine W.eq (g2 := F0 m 827 ls _) rfl ?_
  refine lw_callI (z := 203) (d := 12) (c0 := 11) (i := 0) (ys := [lw_X xs (i + 1), lw_X xs (i + 2), lw_X xs (i + 3)]) C0 hR hS hl.1 kc_203 ob_X10 ⟨by decide, by decide⟩ (fun y hy => by simp only [List.mem_cons, List.not_mem_nil, or_false] at hy; rcases hy with rfl | rfl | rfl <;> first | exact lw_Xi xs _ | exact lw_Bi _) (Nat.le_of_ble_eq_true rfl) rfl (show z_call zP 13 203 (vR 11 0 :: List.map vI [lw_X xs (i + 1), lw_X xs (i + 2), lw_X xs (i + 3)]) _ = some _ from e2) kw_203 ki_203 kx_203 ⟨Nat.le_of_ble_eq_true rfl, Nat.le_of_ble_eq_true rfl⟩ (Nat.le_of_ble_eq_true rfl) dL_law_827 hcs (fun H locs hR hS => ?_)
  refine W.eq (g2 := F0 m 830 ls _) rfl ?_
  exact lv_icmp_eq (tgt := 1320) hx hb dL_law_830 (by decide) (fun _ => kk LS RX w2 H locs hSim hR hS) (fun h => absurd rfl h)
theorem kc_93 : z_Cal 93 0 1 4 := ⟨(zTB_in (List.mem_of_getElem? (i := 1006) (by decide +kernel)) (by decide +kernel)), (zTB_in (List.mem_of_getElem? (i := 109) (by decide +kernel)) (by decide +kernel)), ⟨by decide, by decide, by decide +kernel⟩, by decide, rfl, rfl⟩
theorem ki_93 : Cond.instanceMethod (z_mt 93).1 ∈ zTB := (zTB_in (List.mem_of_getElem? (i := 1004) (by decide +kernel)) (by decide +kernel))
theorem kx_93 : Cond.selects RX9 (z_mt 93).1 (z_mt 93).1 ∈ zTB := (zTB_in (List.mem_of_getElem? (i := 1005) (by decide +kernel)) (by decide +kernel))
theorem kw_93 : Cond.methodLink R_law 93 (z_mt 93).1 ∈ zTB := (zTB_in (List.mem_of_getElem? (i := 1003) (by decide +kernel)) (by decide +kernel))
theorem kc_204 : z_Cal 204 0 1 9 := ⟨(zTB_in (List.mem_of_getElem? (i := 1732) (by decide +kernel)) (by decide +kernel)), (zTB_in (List.mem_of_getElem? (i := 120) (by decide +kernel)) (by decide +kernel)), ⟨by decide, by decide, by decide +kernel⟩, by decide, rfl, rfl⟩
theorem ki_204 : Cond.instanceMethod (z_mt 204).1 ∈ zTB := (zTB_in (List.mem_of_getElem? (i := 1730) (by decide +kernel)) (by decide +kernel))
theorem kx_204 : Cond.selects RX10 (z_mt 204).1 (z_mt 204).1 ∈ zTB := (zTB_in (List.mem_of_getElem? (i := 1731) (by decide +kernel)) (by decide +kernel))
theorem kw_204 : Cond.methodLink R_law 97 (z_mt 204).1 ∈ zTB := (zTB_in (List.mem_of_getElem? (i := 1729) (by decide +kernel)) (by decide +kernel))
set_option maxHeartbeats 1000000 in
theorem lw_case_18 {E : zE} {adV : Nat → Nat} {p : Program} {l : Launch} {e : Env} {s : State} {m : MethodId} {below : List Frame} {meth : Method} {c : Code} {b L : Nat} {xs : Nat → Int32} {H : Heap} {locs : List Loc} {cells slots i : Nat} {Q : State → Prop} {ls : Array Slot} {w : zW} {LS RX : Int → List clau} (C0 : lw_C E adV p s m meth c b L xs) (h9 : i + 8 < L) (hcs : cells ≤ room_1.cells ∧ slots ≤ room_1.slots) (hl : lv_has ls 4 [(0, .ref b), (1, .ref (E.2.2 10 0)), (2, .ref (E.2.2 11 0)), (3, .int (nI i))]) (hR : z_Rel E w H) (hS : va_S (lw_A s) s.heap H locs) (hSim : Sim LS RX w) (kk : ∀ (LS RX : Int → List clau) (w : zW) (H : Heap) (locs : List Loc), Sim LS RX w → z_Rel E w H → va_S (lw_A s) s.heap H locs → W p l e room_1 s m #[Value.ref b] below meth c H locs cells slots Q (F0 m 1320 ls [])) : W p l e room_1 s m #[Value.ref b] below meth c H locs cells slots Q (F0 m 835 ls []) := by
  obtain ⟨hx, hb, -⟩ := id C0.1
  obtain ⟨r, w1, w2, e1, e2, hSim⟩ := p_tells (d := 0) hSim 
  refine lv_aload_n hx hb dL_law_835 rfl (lv_at hl 1 rfl) ?_
  refine lw_callI (z := 93) (d := 12) (c0 := 10) (i := 0) (ys := []) C0 hR hS hl.1 kc_93 ob_X9 ⟨by decide, by decide⟩ (fun y hy => by cases hy) (Nat.le_of_ble_eq_true rfl) rfl (show z_call zP 13 93 (vR 10 0 :: List.map vI []) _ = some _ from e1) kw_93 ki_93 kx_93 ⟨Nat.le_of_ble_eq_true rfl, Nat.le_of_ble_eq_true rfl⟩ (Nat.le_of_ble_eq_true rfl) dL_law_836 hcs (fun H locs hR hS => ?_)
  refine W.eq (g2 := F0 m 839 ls _) rfl ?_
  refine lv_aload_n hx hb dL_law_839 rfl (lv_at hl 2 rfl) ?_
  refine lw_callI (z := 204) (d := 12) (c0 := 11) (i := 0) (ys := []) C0 hR hS hl.1 kc_204 ob_X10 ⟨by decide, by decide⟩ (fun y hy => by cases hy) (Nat.le_of_ble_eq_true rfl) rfl (show z_call zP 13 204 (vR 11 0 :: List.map vI []) _ = some _ from e2) kw_204 ki_204 kx_204 ⟨Nat.le_of_ble_eq_true rfl, Nat.le_of_ble_eq_true rfl⟩ (Nat.le_of_ble_eq_true rfl) dL_law_840 hcs (fun H locs hR hS => ?_)
  refine W.eq (g2 := F0 m 843 ls _) rfl ?_
  exact lv_icmp_eq (tgt := 1320) hx hb dL_law_843 (by decide) (fun _ => kk LS RX w2 H locs hSim hR hS) (fun h => absurd rfl h)
theorem kc_95 : z_Cal 95 3 1 8 := ⟨(zTB_in (List.mem_of_getElem? (i := 1015) (by decide +kernel)) (by decide +kernel)), (zTB_in (List.mem_of_getElem? (i := 109) (by decide +kernel)) (by decide +kernel)), ⟨by decide, by decide, by decide +kernel⟩, by decide, rfl, rfl⟩
theorem ki_95 : Cond.instanceMethod (z_mt 95).1 ∈ zTB := (zTB_in (List.mem_of_getElem? (i := 1013) (by decide +kernel)) (by decide +kernel))
theorem kx_95 : Cond.selects RX9 (z_mt 95).1 (z_mt 95).1 ∈ zTB := (zTB_in (List.mem_of_getElem? (i := 1014) (by decide +kernel)) (by decide +kernel))
theorem kw_95 : Cond.methodLink R_law 98 (z_mt 95).1 ∈ zTB := (zTB_in (List.mem_of_getElem? (i := 1012) (by decide +kernel)) (by decide +kernel))
theorem kc_205 : z_Cal 205 3 1 8 := ⟨(zTB_in (List.mem_of_getElem? (i := 1736) (by decide +kernel)) (by decide +kernel)), (zTB_in (List.mem_of_getElem? (i := 120) (by decide +kernel)) (by decide +kernel)), ⟨by decide, by decide, by decide +kernel⟩, by decide, rfl, rfl⟩
theorem ki_205 : Cond.instanceMethod (z_mt 205).1 ∈ zTB := (zTB_in (List.mem_of_getElem? (i := 1734) (by decide +kernel)) (by decide +kernel))
theorem kx_205 : Cond.selects RX10 (z_mt 205).1 (z_mt 205).1 ∈ zTB := (zTB_in (List.mem_of_getElem? (i := 1735) (by decide +kernel)) (by decide +kernel))
theorem kw_205 : Cond.methodLink R_law 101 (z_mt 205).1 ∈ zTB := (zTB_in (List.mem_of_getElem? (i := 1733) (by decide +kernel)) (by decide +kernel))
set_option maxHeartbeats 1000000 in
theorem lw_case_19 {E : zE} {adV : Nat → Nat} {p : Program} {l : Launch} {e : Env} {s : State} {m : MethodId} {below : List Frame} {meth : Method} {c : Code} {b L : Nat} {xs : Nat → Int32} {H : Heap} {locs : List Loc} {cells slots i : Nat} {Q : State → Prop} {ls : Array Slot} {w : zW} {LS RX : Int → List clau} (C0 : lw_C E adV p s m meth c b L xs) (h9 : i + 8 < L) (hcs : cells ≤ room_1.cells ∧ slots ≤ room_1.slots) (hl : lv_has ls 4 [(0, .ref b), (1, .ref (E.2.2 10 0)), (2, .ref (E.2.2 11 0)), (3, .int (nI i))]) (hR : z_Rel E w H) (hS : va_S (lw_A s) s.heap H locs) (hSim : Sim LS RX w) (kk : ∀ (LS RX : Int → List clau) (w : zW) (H : Heap) (locs : List Loc), Sim LS RX w → z_Rel E w H → va_S (lw_A s) s.heap H locs → W p l e room_1 s m #[Value.ref b] below meth c H locs cells slots Q (F0 m 1320 ls [])) : W p l e room_1 s m #[Value.ref b] below meth c H locs cells slots Q (F0 m 848 ls []) := by
  obtain ⟨hx, hb, -⟩ := id C0.1
  obtain ⟨r, w1, w2, e1, e2, hSim⟩ := p_aim (d := 0) hSim (lw_X xs (i + 1)) (lw_X xs (i + 2)) (lw_X xs (i + 3))
  refine lv_aload_n hx hb dL_law_848 rfl (lv_at hl 1 rfl) ?_
  refine lw_arg (k := 1) (bb := 1) C0 hS (by omega) hl dL_law_849 dL_law_850 (fun st k => lv_iconst (v := nI 1) hx hb dL_law_851 (by decide) k) dL_law_852 dL_law_853 ?_
  refine W.eq (g2 := F0 m 854 ls _) rfl ?_
  refine lw_arg (k := 2) (bb := 1) C0 hS (by omega) hl dL_law_854 dL_law_855 (fun st k => lv_iconst (v := nI 2) hx hb dL_law_856 (by decide) k) dL_law_857 dL_law_858 ?_
  refine W.eq (g2 := F0 m 859 ls _) rfl ?_
  refine lw_arg (k := 3) (bb := 1) C0 hS (by omega) hl dL_law_859 dL_law_860 (fun st k => lv_iconst (v := nI 3) hx hb dL_law_861 (by decide) k) dL_law_862 dL_law_863 ?_
  refine W.eq (g2 := F0 m 864 ls _) rfl ?_
  refine lw_callI (z := 95) (d := 12) (c0 := 10) (i := 0) (ys := [lw_X xs (i + 1), lw_X xs (i + 2), lw_X xs (i + 3)]) C0 hR hS hl.1 kc_95 ob_X9 ⟨by decide, by decide⟩ (fun y hy => by simp only [List.mem_cons, List.not_mem_nil, or_false] at hy; rcases hy with rfl | rfl | rfl <;> first | exact lw_Xi xs _ | exact lw_Bi _) (Nat.le_of_ble_eq_true rfl) rfl (show z_call zP 13 95 (vR 10 0 :: List.map vI [lw_X xs (i + 1), lw_X xs (i + 2), lw_X xs (i + 3)]) _ = some _ from e1) kw_95 ki_95 kx_95 ⟨Nat.le_of_ble_eq_true rfl, Nat.le_of_ble_eq_true rfl⟩ (Nat.le_of_ble_eq_true rfl) dL_law_864 hcs (fun H locs hR hS => ?_)
  refine W.eq (g2 := F0 m 867 ls _) rfl ?_
  refine lv_aload_n hx hb dL_law_867 rfl (lv_at hl 2 rfl) ?_
  refine lw_arg (k := 1) (bb := 1) C0 hS (by omega) hl dL_law_868 dL_law_869 (fun st k => lv_iconst (v := nI 1) hx hb dL_law_870 (by decide) k) dL_law_871 dL_law_872 ?_
  refine W.eq (g2 := F0 m 873 ls _) rfl ?_
  refine lw_arg (k := 2) (bb := 1) C0 hS (by omega) hl dL_law_873 dL_law_874 (fun st k => lv_iconst (v := nI 2) hx hb dL_law_875 (by decide) k) dL_law_876 dL_law_877 ?_
  refine W.eq (g2 := F0 m 878 ls _) rfl ?_
  refine lw_arg (k := 3) (bb := 1) C0 hS (by omega) hl dL_law_878 dL_law_879 (fun st k => lv_iconst (v := nI 3) hx hb dL_law_880 (by decide) k) dL_law_881 dL_law_882 ?_
  refine W.eq (g2 := F0 m 883 ls _) rfl ?_
  refine lw_callI (z := 205) (d := 12) (c0 := 11) (i := 0) (ys := [lw_X xs (i + 1), lw_X xs (i + 2), lw_X xs (i + 3)]) C0 hR hS hl.1 kc_205 ob_X10 ⟨by decide, by decide⟩ (fun y hy => by simp only [List.mem_cons, List.not_mem_nil, or_false] at hy; rcases hy with rfl | rfl | rfl <;> first | exact lw_Xi xs _ | exact lw_Bi _) (Nat.le_of_ble_eq_true rfl) rfl (show z_call zP 13 205 (vR 11 0 :: List.map vI [lw_X xs (i + 1), lw_X xs (i + 2), lw_X xs (i + 3)]) _ = some _ from e2) kw_205 ki_205 kx_205 ⟨Nat.le_of_ble_eq_true rfl, Nat.le_of_ble_eq_true rfl⟩ (Nat.le_of_ble_eq_true rfl) dL_law_883 hcs (fun H locs hR hS => ?_)
  refine W.eq (g2 := F0 m 886 ls _) rfl ?_
  exact lv_icmp_eq (tgt := 1320) hx hb dL_law_886 (by decide) (fun _ => kk LS RX w2 H locs hSim hR hS) (fun h => absurd rfl h)
theorem kc_96 : z_Cal 96 1 1 5 := ⟨(zTB_in (List.mem_of_getElem? (i := 1020) (by decide +kernel)) (by decide +kernel)), (zTB_in (List.mem_of_getElem? (i := 109) (by decide +kernel)) (by decide +kernel)), ⟨by decide, by decide, by decide +kernel⟩, by decide, rfl, rfl⟩
theorem ki_96 : Cond.instanceMethod (z_mt 96).1 ∈ zTB := (zTB_in (List.mem_of_getElem? (i := 1018) (by decide +kernel)) (by decide +kernel))
theorem kx_96 : Cond.selects RX9 (z_mt 96).1 (z_mt 96).1 ∈ zTB := (zTB_in (List.mem_of_getElem? (i := 1019) (by decide +kernel)) (by decide +kernel))
theorem kw_96 : Cond.methodLink R_law 102 (z_mt 96).1 ∈ zTB := (zTB_in (List.mem_of_getElem? (i := 1017) (by decide +kernel)) (by decide +kernel))
theorem kc_206 : z_Cal 206 1 1 8 := ⟨(zTB_in (List.mem_of_getElem? (i := 1740) (by decide +kernel)) (by decide +kernel)), (zTB_in (List.mem_of_getElem? (i := 120) (by decide +kernel)) (by decide +kernel)), ⟨by decide, by decide, by decide +kernel⟩, by decide, rfl, rfl⟩
theorem ki_206 : Cond.instanceMethod (z_mt 206).1 ∈ zTB := (zTB_in (List.mem_of_getElem? (i := 1738) (by decide +kernel)) (by decide +kernel))
theorem kx_206 : Cond.selects RX10 (z_mt 206).1 (z_mt 206).1 ∈ zTB := (zTB_in (List.mem_of_getElem? (i := 1739) (by decide +kernel)) (by decide +kernel))
theorem kw_206 : Cond.methodLink R_law 105 (z_mt 206).1 ∈ zTB := (zTB_in (List.mem_of_getElem? (i := 1737) (by decide +kernel)) (by decide +kernel))
set_option maxHeartbeats 1000000 in
theorem lw_case_20 {E : zE} {adV : Nat → Nat} {p : Program} {l : Launch} {e : Env} {s : State} {m : MethodId} {below : List Frame} {meth : Method} {c : Code} {b L : Nat} {xs : Nat → Int32} {H : Heap} {locs : List Loc} {cells slots i : Nat} {Q : State → Prop} {ls : Array Slot} {w : zW} {LS RX : Int → List clau} (C0 : lw_C E adV p s m meth c b L xs) (h9 : i + 8 < L) (hcs : cells ≤ room_1.cells ∧ slots ≤ room_1.slots) (hl : lv_has ls 4 [(0, .ref b), (1, .ref (E.2.2 10 0)), (2, .ref (E.2.2 11 0)), (3, .int (nI i))]) (hR : z_Rel E w H) (hS : va_S (lw_A s) s.heap H locs) (hSim : Sim LS RX w) (kk : ∀ (LS RX : Int → List clau) (w : zW) (H : Heap) (locs : List Loc), Sim LS RX w → z_Rel E w H → va_S (lw_A s) s.heap H locs → W p l e room_1 s m #[Value.ref b] below meth c H locs cells slots Q (F0 m 1320 ls [])) : W p l e room_1 s m #[Value.ref b] below meth c H locs cells slots Q (F0 m 891 ls []) := by
  obtain ⟨hx, hb, -⟩ := id C0.1
  obtain ⟨r, w1, w2, e1, e2, hSim⟩ := p_look (d := 0) hSim (lw_X xs (i + 1))
  refine lv_aload_n hx hb dL_law_891 rfl (lv_at hl 1 rfl) ?_
  refine lw_arg (k := 1) (bb := 1) C0 hS (by omega) hl dL_law_892 dL_law_893 (fun st k => lv_iconst (v := nI 1) hx hb dL_law_894 (by decide) k) dL_law_895 dL_law_896 ?_
  refine W.eq (g2 := F0 m 897 ls _) rfl ?_
  refine lw_callI (z := 96) (d := 12) (c0 := 10) (i := 0) (ys := [lw_X xs (i + 1)]) C0 hR hS hl.1 kc_96 ob_X9 ⟨by decide, by decide⟩ (fun y hy => by simp only [List.mem_cons, List.not_mem_nil, or_false] at hy; rcases hy with rfl <;> first | exact lw_Xi xs _ | exact lw_Bi _) (Nat.le_of_ble_eq_true rfl) rfl (show z_call zP 13 96 (vR 10 0 :: List.map vI [lw_X xs (i + 1)]) _ = some _ from e1) kw_96 ki_96 kx_96 ⟨Nat.le_of_ble_eq_true rfl, Nat.le_of_ble_eq_true rfl⟩ (Nat.le_of_ble_eq_true rfl) dL_law_897 hcs (fun H locs hR hS => ?_)
  refine W.eq (g2 := F0 m 900 ls _) rfl ?_
  refine lv_aload_n hx hb dL_law_900 rfl (lv_at hl 2 rfl) ?_
  refine lw_arg (k := 1) (bb := 1) C0 hS (by omega) hl dL_law_901 dL_law_902 (fun st k => lv_iconst (v := nI 1) hx hb dL_law_903 (by decide) k) dL_law_904 dL_law_905 ?_
  refine W.eq (g2 := F0 m 906 ls _) rfl ?_
  refine lw_callI (z := 206) (d := 12) (c0 := 11) (i := 0) (ys := [lw_X xs (i + 1)]) C0 hR hS hl.1 kc_206 ob_X10 ⟨by decide, by decide⟩ (fun y hy => by simp only [List.mem_cons, List.not_mem_nil, or_false] at hy; rcases hy with rfl <;> first | exact lw_Xi xs _ | exact lw_Bi _) (Nat.le_of_ble_eq_true rfl) rfl (show z_call zP 13 206 (vR 11 0 :: List.map vI [lw_X xs (i + 1)]) _ = some _ from e2) kw_206 ki_206 kx_206 ⟨Nat.le_of_ble_eq_true rfl, Nat.le_of_ble_eq_true rfl⟩ (Nat.le_of_ble_eq_true rfl) dL_law_906 hcs (fun H locs hR hS => ?_)
  refine W.eq (g2 := F0 m 909 ls _) rfl ?_
  exact lv_icmp_eq (tgt := 1320) hx hb dL_law_909 (by decide) (fun _ => kk LS RX w2 H locs hSim hR hS) (fun h => absurd rfl h)
theorem kc_98 : z_Cal 98 3 1 4 := ⟨(zTB_in (List.mem_of_getElem? (i := 1029) (by decide +kernel)) (by decide +kernel)), (zTB_in (List.mem_of_getElem? (i := 109) (by decide +kernel)) (by decide +kernel)), ⟨by decide, by decide, by decide +kernel⟩, by decide, rfl, rfl⟩
theorem ki_98 : Cond.instanceMethod (z_mt 98).1 ∈ zTB := (zTB_in (List.mem_of_getElem? (i := 1027) (by decide +kernel)) (by decide +kernel))
theorem kx_98 : Cond.selects RX9 (z_mt 98).1 (z_mt 98).1 ∈ zTB := (zTB_in (List.mem_of_getElem? (i := 1028) (by decide +kernel)) (by decide +kernel))
theorem kw_98 : Cond.methodLink R_law 106 (z_mt 98).1 ∈ zTB := (zTB_in (List.mem_of_getElem? (i := 1026) (by decide +kernel)) (by decide +kernel))
theorem kc_208 : z_Cal 208 3 1 4 := ⟨(zTB_in (List.mem_of_getElem? (i := 1748) (by decide +kernel)) (by decide +kernel)), (zTB_in (List.mem_of_getElem? (i := 120) (by decide +kernel)) (by decide +kernel)), ⟨by decide, by decide, by decide +kernel⟩, by decide, rfl, rfl⟩
theorem ki_208 : Cond.instanceMethod (z_mt 208).1 ∈ zTB := (zTB_in (List.mem_of_getElem? (i := 1746) (by decide +kernel)) (by decide +kernel))
theorem kx_208 : Cond.selects RX10 (z_mt 208).1 (z_mt 208).1 ∈ zTB := (zTB_in (List.mem_of_getElem? (i := 1747) (by decide +kernel)) (by decide +kernel))
theorem kw_208 : Cond.methodLink R_law 110 (z_mt 208).1 ∈ zTB := (zTB_in (List.mem_of_getElem? (i := 1745) (by decide +kernel)) (by decide +kernel))
set_option maxHeartbeats 1000000 in
theorem lw_case_21 {E : zE} {adV : Nat → Nat} {p : Program} {l : Launch} {e : Env} {s : State} {m : MethodId} {below : List Frame} {meth : Method} {c : Code} {b L : Nat} {xs : Nat → Int32} {H : Heap} {locs : List Loc} {cells slots i : Nat} {Q : State → Prop} {ls : Array Slot} {w : zW} {LS RX : Int → List clau} (C0 : lw_C E adV p s m meth c b L xs) (h9 : i + 8 < L) (hcs : cells ≤ room_1.cells ∧ slots ≤ room_1.slots) (hl : lv_has ls 4 [(0, .ref b), (1, .ref (E.2.2 10 0)), (2, .ref (E.2.2 11 0)), (3, .int (nI i))]) (hR : z_Rel E w H) (hS : va_S (lw_A s) s.heap H locs) (hSim : Sim LS RX w) (kk : ∀ (LS RX : Int → List clau) (w : zW) (H : Heap) (locs : List Loc), Sim LS RX w → z_Rel E w H → va_S (lw_A s) s.heap H locs → W p l e room_1 s m #[Value.ref b] below meth c H locs cells slots Q (F0 m 1320 ls [])) : W p l e room_1 s m #[Value.ref b] below meth c H locs cells slots Q (F0 m 914 ls []) := by
  obtain ⟨hx, hb, -⟩ := id C0.1
  obtain ⟨r, w1, w2, e1, e2, hSim⟩ := p_post (d := 0) hSim (lw_X xs (i + 1)) (lw_X xs (i + 2)) (lw_X xs (i + 3))
  refine lv_aload_n hx hb dL_law_914 rfl (lv_at hl 1 rfl) ?_
  refine lw_arg (k := 1) (bb := 1) C0 hS (by omega) hl dL_law_915 dL_law_916 (fun st k => lv_iconst (v := nI 1) hx hb dL_law_917 (by decide) k) dL_law_918 dL_law_919 ?_
  refine W.eq (g2 := F0 m 920 ls _) rfl ?_
  refine lw_arg (k := 2) (bb := 1) C0 hS (by omega) hl dL_law_920 dL_law_921 (fun st k => lv_iconst (v := nI 2) hx hb dL_law_922 (by decide) k) dL_law_923 dL_law_924 ?_
  refine W.eq (g2 := F0 m 925 ls _) rfl ?_
  refine lw_arg (k := 3) (bb := 1) C0 hS (by omega) hl dL_law_925 dL_law_926 (fun st k => lv_iconst (v := nI 3) hx hb dL_law_927 (by decide) k) dL_law_928 dL_law_929 ?_
  refine W.eq (g2 := F0 m 930 ls _) rfl ?_
  refine lw_callI (z := 98) (d := 12) (c0 := 10) (i := 0) (ys := [lw_X xs (i + 1), lw_X xs (i + 2), lw_X xs (i + 3)]) C0 hR hS hl.1 kc_98 ob_X9 ⟨by decide, by decide⟩ (fun y hy => by simp only [List.mem_cons, List.not_mem_nil, or_false] at hy; rcases hy with rfl | rfl | rfl <;> first | exact lw_Xi xs _ | exact lw_Bi _) (Nat.le_of_ble_eq_true rfl) rfl (show z_call zP 13 98 (vR 10 0 :: List.map vI [lw_X xs (i + 1), lw_X xs (i + 2), lw_X xs (i + 3)]) _ = some _ from e1) kw_98 ki_98 kx_98 ⟨Nat.le_of_ble_eq_true rfl, Nat.le_of_ble_eq_true rfl⟩ (Nat.le_of_ble_eq_true rfl) dL_law_930 hcs (fun H locs hR hS => ?_)
  refine W.eq (g2 := F0 m 933 ls _) rfl ?_
  refine lv_aload_n hx hb dL_law_933 rfl (lv_at hl 2 rfl) ?_
  refine lw_arg (k := 1) (bb := 1) C0 hS (by omega) hl dL_law_934 dL_law_935 (fun st k => lv_iconst (v := nI 1) hx hb dL_law_936 (by decide) k) dL_law_937 dL_law_938 ?_
  refine W.eq (g2 := F0 m 939 ls _) rfl ?_
  refine lw_arg (k := 2) (bb := 1) C0 hS (by omega) hl dL_law_939 dL_law_940 (fun st k => lv_iconst (v := nI 2) hx hb dL_law_941 (by decide) k) dL_law_942 dL_law_943 ?_
  refine W.eq (g2 := F0 m 944 ls _) rfl ?_
  refine lw_arg (k := 3) (bb := 1) C0 hS (by omega) hl dL_law_944 dL_law_945 (fun st k => lv_iconst (v := nI 3) hx hb dL_law_946 (by decide) k) dL_law_947 dL_law_948 ?_
  refine W.eq (g2 := F0 m 949 ls _) rfl ?_
  refine lw_callI (z := 208) (d := 12) (c0 := 11) (i := 0) (ys := [lw_X xs (i + 1), lw_X xs (i + 2), lw_X xs (i + 3)]) C0 hR hS hl.1 kc_208 ob_X10 ⟨by decide, by decide⟩ (fun y hy => by simp only [List.mem_cons, List.not_mem_nil, or_false] at hy; rcases hy with rfl | rfl | rfl <;> first | exact lw_Xi xs _ | exact lw_Bi _) (Nat.le_of_ble_eq_true rfl) rfl (show z_call zP 13 208 (vR 11 0 :: List.map vI [lw_X xs (i + 1), lw_X xs (i + 2), lw_X xs (i + 3)]) _ = some _ from e2) kw_208 ki_208 kx_208 ⟨Nat.le_of_ble_eq_true rfl, Nat.le_of_ble_eq_true rfl⟩ (Nat.le_of_ble_eq_true rfl) dL_law_949 hcs (fun H locs hR hS => ?_)
  refine W.eq (g2 := F0 m 952 ls _) rfl ?_
  exact lv_icmp_eq (tgt := 1320) hx hb dL_law_952 (by decide) (fun _ => kk LS RX w2 H locs hSim hR hS) (fun h => absurd rfl h)
theorem kc_99 : z_Cal 99 2 1 6 := ⟨(zTB_in (List.mem_of_getElem? (i := 1033) (by decide +kernel)) (by decide +kernel)), (zTB_in (List.mem_of_getElem? (i := 109) (by decide +kernel)) (by decide +kernel)), ⟨by decide, by decide, by decide +kernel⟩, by decide, rfl, rfl⟩
theorem ki_99 : Cond.instanceMethod (z_mt 99).1 ∈ zTB := (zTB_in (List.mem_of_getElem? (i := 1031) (by decide +kernel)) (by decide +kernel))
theorem kx_99 : Cond.selects RX9 (z_mt 99).1 (z_mt 99).1 ∈ zTB := (zTB_in (List.mem_of_getElem? (i := 1032) (by decide +kernel)) (by decide +kernel))
theorem kw_99 : Cond.methodLink R_law 111 (z_mt 99).1 ∈ zTB := (zTB_in (List.mem_of_getElem? (i := 1030) (by decide +kernel)) (by decide +kernel))
theorem kc_209 : z_Cal 209 2 1 7 := ⟨(zTB_in (List.mem_of_getElem? (i := 1752) (by decide +kernel)) (by decide +kernel)), (zTB_in (List.mem_of_getElem? (i := 120) (by decide +kernel)) (by decide +kernel)), ⟨by decide, by decide, by decide +kernel⟩, by decide, rfl, rfl⟩
theorem ki_209 : Cond.instanceMethod (z_mt 209).1 ∈ zTB := (zTB_in (List.mem_of_getElem? (i := 1750) (by decide +kernel)) (by decide +kernel))
theorem kx_209 : Cond.selects RX10 (z_mt 209).1 (z_mt 209).1 ∈ zTB := (zTB_in (List.mem_of_getElem? (i := 1751) (by decide +kernel)) (by decide +kernel))
theorem kw_209 : Cond.methodLink R_law 114 (z_mt 209).1 ∈ zTB := (zTB_in (List.mem_of_getElem? (i := 1749) (by decide +kernel)) (by decide +kernel))
set_option maxHeartbeats 1000000 in
theorem lw_case_22 {E : zE} {adV : Nat → Nat} {p : Program} {l : Launch} {e : Env} {s : State} {m : MethodId} {below : List Frame} {meth : Method} {c : Code} {b L : Nat} {xs : Nat → Int32} {H : Heap} {locs : List Loc} {cells slots i : Nat} {Q : State → Prop} {ls : Array Slot} {w : zW} {LS RX : Int → List clau} (C0 : lw_C E adV p s m meth c b L xs) (h9 : i + 8 < L) (hcs : cells ≤ room_1.cells ∧ slots ≤ room_1.slots) (hl : lv_has ls 4 [(0, .ref b), (1, .ref (E.2.2 10 0)), (2, .ref (E.2.2 11 0)), (3, .int (nI i))]) (hR : z_Rel E w H) (hS : va_S (lw_A s) s.heap H locs) (hSim : Sim LS RX w) (kk : ∀ (LS RX : Int → List clau) (w : zW) (H : Heap) (locs : List Loc), Sim LS RX w → z_Rel E w H → va_S (lw_A s) s.heap H locs → W p l e room_1 s m #[Value.ref b] below meth c H locs cells slots Q (F0 m 1320 ls [])) : W p l e room_1 s m #[Value.ref b] below meth c H locs cells slots Q (F0 m 957 ls []) := by
  obtain ⟨hx, hb, -⟩ := id C0.1
  obtain ⟨r, w1, w2, e1, e2, hSim⟩ := p_parish (d := 0) hSim (lw_X xs (i + 1)) (lw_X xs (i + 2))
  refine lv_aload_n hx hb dL_law_957 rfl (lv_at hl 1 rfl) ?_
  refine lw_arg (k := 1) (bb := 1) C0 hS (by omega) hl dL_law_958 dL_law_959 (fun st k => lv_iconst (v := nI 1) hx hb dL_law_960 (by decide) k) dL_law_961 dL_law_962 ?_
  refine W.eq (g2 := F0 m 963 ls _) rfl ?_
  refine lw_arg (k := 2) (bb := 1) C0 hS (by omega) hl dL_law_963 dL_law_964 (fun st k => lv_iconst (v := nI 2) hx hb dL_law_965 (by decide) k) dL_law_966 dL_law_967 ?_
  refine W.eq (g2 := F0 m 968 ls _) rfl ?_
  refine lw_callI (z := 99) (d := 12) (c0 := 10) (i := 0) (ys := [lw_X xs (i + 1), lw_X xs (i + 2)]) C0 hR hS hl.1 kc_99 ob_X9 ⟨by decide, by decide⟩ (fun y hy => by simp only [List.mem_cons, List.not_mem_nil, or_false] at hy; rcases hy with rfl | rfl <;> first | exact lw_Xi xs _ | exact lw_Bi _) (Nat.le_of_ble_eq_true rfl) rfl (show z_call zP 13 99 (vR 10 0 :: List.map vI [lw_X xs (i + 1), lw_X xs (i + 2)]) _ = some _ from e1) kw_99 ki_99 kx_99 ⟨Nat.le_of_ble_eq_true rfl, Nat.le_of_ble_eq_true rfl⟩ (Nat.le_of_ble_eq_true rfl) dL_law_968 hcs (fun H locs hR hS => ?_)
  refine W.eq (g2 := F0 m 971 ls _) rfl ?_
  refine lv_aload_n hx hb dL_law_971 rfl (lv_at hl 2 rfl) ?_
  refine lw_arg (k := 1) (bb := 1) C0 hS (by omega) hl dL_law_972 dL_law_973 (fun st k => lv_iconst (v := nI 1) hx hb dL_law_974 (by decide) k) dL_law_975 dL_law_976 ?_
  refine W.eq (g2 := F0 m 977 ls _) rfl ?_
  refine lw_arg (k := 2) (bb := 1) C0 hS (by omega) hl dL_law_977 dL_law_978 (fun st k => lv_iconst (v := nI 2) hx hb dL_law_979 (by decide) k) dL_law_980 dL_law_981 ?_
  refine W.eq (g2 := F0 m 982 ls _) rfl ?_
  refine lw_callI (z := 209) (d := 12) (c0 := 11) (i := 0) (ys := [lw_X xs (i + 1), lw_X xs (i + 2)]) C0 hR hS hl.1 kc_209 ob_X10 ⟨by decide, by decide⟩ (fun y hy => by simp only [List.mem_cons, List.not_mem_nil, or_false] at hy; rcases hy with rfl | rfl <;> first | exact lw_Xi xs _ | exact lw_Bi _) (Nat.le_of_ble_eq_true rfl) rfl (show z_call zP 13 209 (vR 11 0 :: List.map vI [lw_X xs (i + 1), lw_X xs (i + 2)]) _ = some _ from e2) kw_209 ki_209 kx_209 ⟨Nat.le_of_ble_eq_true rfl, Nat.le_of_ble_eq_true rfl⟩ (Nat.le_of_ble_eq_true rfl) dL_law_982 hcs (fun H locs hR hS => ?_)
  refine W.eq (g2 := F0 m 985 ls _) rfl ?_
  exact lv_icmp_eq (tgt := 1320) hx hb dL_law_985 (by decide) (fun _ => kk LS RX w2 H locs hSim hR hS) (fun h => absurd rfl h)
theorem kc_102 : z_Cal 102 7 1 9 := ⟨(zTB_in (List.mem_of_getElem? (i := 1046) (by decide +kernel)) (by decide +kernel)), (zTB_in (List.mem_of_getElem? (i := 109) (by decide +kernel)) (by decide +kernel)), ⟨by decide, by decide, by decide +kernel⟩, by decide, rfl, rfl⟩
theorem ki_102 : Cond.instanceMethod (z_mt 102).1 ∈ zTB := (zTB_in (List.mem_of_getElem? (i := 1044) (by decide +kernel)) (by decide +kernel))
theorem kx_102 : Cond.selects RX9 (z_mt 102).1 (z_mt 102).1 ∈ zTB := (zTB_in (List.mem_of_getElem? (i := 1045) (by decide +kernel)) (by decide +kernel))
theorem kw_102 : Cond.methodLink R_law 115 (z_mt 102).1 ∈ zTB := (zTB_in (List.mem_of_getElem? (i := 1043) (by decide +kernel)) (by decide +kernel))
theorem kc_218 : z_Cal 218 7 1 8 := ⟨(zTB_in (List.mem_of_getElem? (i := 1760) (by decide +kernel)) (by decide +kernel)), (zTB_in (List.mem_of_getElem? (i := 120) (by decide +kernel)) (by decide +kernel)), ⟨by decide, by decide, by decide +kernel⟩, by decide, rfl, rfl⟩
theorem ki_218 : Cond.instanceMethod (z_mt 218).1 ∈ zTB := (zTB_in (List.mem_of_getElem? (i := 1758) (by decide +kernel)) (by decide +kernel))
theorem kx_218 : Cond.selects RX10 (z_mt 218).1 (z_mt 218).1 ∈ zTB := (zTB_in (List.mem_of_getElem? (i := 1759) (by decide +kernel)) (by decide +kernel))
theorem kw_218 : Cond.methodLink R_law 119 (z_mt 218).1 ∈ zTB := (zTB_in (List.mem_of_getElem? (i := 1757) (by decide +kernel)) (by decide +kernel))
set_option maxHeartbeats 1000000 in
theorem lw_case_23 {E : zE} {adV : Nat → Nat} {p : Program} {l : Launch} {e : Env} {s : State} {m : MethodId} {below : List Frame} {meth : Method} {c : Code} {b L : Nat} {xs : Nat → Int32} {H : Heap} {locs : List Loc} {cells slots i : Nat} {Q : State → Prop} {ls : Array Slot} {w : zW} {LS RX : Int → List clau} (C0 : lw_C E adV p s m meth c b L xs) (h9 : i + 8 < L) (hcs : cells ≤ room_1.cells ∧ slots ≤ room_1.slots) (hl : lv_has ls 4 [(0, .ref b), (1, .ref (E.2.2 10 0)), (2, .ref (E.2.2 11 0)), (3, .int (nI i))]) (hR : z_Rel E w H) (hS : va_S (lw_A s) s.heap H locs) (hSim : Sim LS RX w) (kk : ∀ (LS RX : Int → List clau) (w : zW) (H : Heap) (locs : List Loc), Sim LS RX w → z_Rel E w H → va_S (lw_A s) s.heap H locs → W p l e room_1 s m #[Value.ref b] below meth c H locs cells slots Q (F0 m 1320 ls [])) : W p l e room_1 s m #[Value.ref b] below meth c H locs cells slots Q (F0 m 990 ls []) := by
  obtain ⟨hx, hb, -⟩ := id C0.1
  obtain ⟨r, w1, w2, e1, e2, hSim⟩ := p_night (d := 0) hSim (lw_X xs (i + 1)) (lw_X xs (i + 2)) (lw_X xs (i + 3)) (lw_X xs (i + 4)) (lw_X xs (i + 5)) (lw_X xs (i + 6)) (lw_X xs (i + 7)) (lw_Xi xs _).2
  refine lv_aload_n hx hb dL_law_990 rfl (lv_at hl 1 rfl) ?_
  refine lw_arg (k := 1) (bb := 1) C0 hS (by omega) hl dL_law_991 dL_law_992 (fun st k => lv_iconst (v := nI 1) hx hb dL_law_993 (by decide) k) dL_law_994 dL_law_995 ?_
  refine W.eq (g2 := F0 m 996 ls _) rfl ?_
  refine lw_arg (k := 2) (bb := 1) C0 hS (by omega) hl dL_law_996 dL_law_997 (fun st k => lv_iconst (v := nI 2) hx hb dL_law_998 (by decide) k) dL_law_999 dL_law_1000 ?_
  refine W.eq (g2 := F0 m 1001 ls _) rfl ?_
  refine lw_arg (k := 3) (bb := 1) C0 hS (by omega) hl dL_law_1001 dL_law_1002 (fun st k => lv_iconst (v := nI 3) hx hb dL_law_1003 (by decide) k) dL_law_1004 dL_law_1005 ?_
  refine W.eq (g2 := F0 m 1006 ls _) rfl ?_
  refine lw_arg (k := 4) (bb := 1) C0 hS (by omega) hl dL_law_1006 dL_law_1007 (fun st k => lv_iconst (v := nI 4) hx hb dL_law_1008 (by decide) k) dL_law_1009 dL_law_1010 ?_
  refine W.eq (g2 := F0 m 1011 ls _) rfl ?_
  refine lw_arg (k := 5) (bb := 1) C0 hS (by omega) hl dL_law_1011 dL_law_1012 (fun st k => lv_iconst (v := nI 5) hx hb dL_law_1013 (by decide) k) dL_law_1014 dL_law_1015 ?_
  refine W.eq (g2 := F0 m 1016 ls _) rfl ?_
  refine lw_arg (k := 6) (bb := 2) C0 hS (by omega) hl dL_law_1016 dL_law_1017 (fun st k => lv_bipush (v := nI 6) hx hb dL_law_1018 (by decide) k) dL_law_1020 dL_law_1021 ?_
  refine W.eq (g2 := F0 m 1022 ls _) rfl ?_
  refine lw_arg (k := 7) (bb := 2) C0 hS (by omega) hl dL_law_1022 dL_law_1023 (fun st k => lv_bipush (v := nI 7) hx hb dL_law_1024 (by decide) k) dL_law_1026 dL_law_1027 ?_
  refine W.eq (g2 := F0 m 1028 ls _) rfl ?_
  refine lw_callI (z := 102) (d := 12) (c0 := 10) (i := 0) (ys := [lw_X xs (i + 1), lw_X xs (i + 2), lw_X xs (i + 3), lw_X xs (i + 4), lw_X xs (i + 5), lw_X xs (i + 6), lw_X xs (i + 7)]) C0 hR hS hl.1 kc_102 ob_X9 ⟨by decide, by decide⟩ (fun y hy => by simp only [List.mem_cons, List.not_mem_nil, or_false] at hy; rcases hy with rfl | rfl | rfl | rfl | rfl | rfl | rfl <;> first | exact lw_Xi xs _ | exact lw_Bi _) (Nat.le_of_ble_eq_true rfl) rfl (show z_call zP 13 102 (vR 10 0 :: List.map vI [lw_X xs (i + 1), lw_X xs (i + 2), lw_X xs (i + 3), lw_X xs (i + 4), lw_X xs (i + 5), lw_X xs (i + 6), lw_X xs (i + 7)]) _ = some _ from e1) kw_102 ki_102 kx_102 ⟨Nat.le_of_ble_eq_true rfl, Nat.le_of_ble_eq_true rfl⟩ (Nat.le_of_ble_eq_true rfl) dL_law_1028 hcs (fun H locs hR hS => ?_)
  refine W.eq (g2 := F0 m 1031 ls _) rfl ?_
  refine lv_aload_n hx hb dL_law_1031 rfl (lv_at hl 2 rfl) ?_
  refine lw_arg (k := 1) (bb := 1) C0 hS (by omega) hl dL_law_1032 dL_law_1033 (fun st k => lv_iconst (v := nI 1) hx hb dL_law_1034 (by decide) k) dL_law_1035 dL_law_1036 ?_
  refine W.eq (g2 := F0 m 1037 ls _) rfl ?_
  refine lw_arg (k := 2) (bb := 1) C0 hS (by omega) hl dL_law_1037 dL_law_1038 (fun st k => lv_iconst (v := nI 2) hx hb dL_law_1039 (by decide) k) dL_law_1040 dL_law_1041 ?_
  refine W.eq (g2 := F0 m 1042 ls _) rfl ?_
  refine lw_arg (k := 3) (bb := 1) C0 hS (by omega) hl dL_law_1042 dL_law_1043 (fun st k => lv_iconst (v := nI 3) hx hb dL_law_1044 (by decide) k) dL_law_1045 dL_law_1046 ?_
  refine W.eq (g2 := F0 m 1047 ls _) rfl ?_
  refine lw_arg (k := 4) (bb := 1) C0 hS (by omega) hl dL_law_1047 dL_law_1048 (fun st k => lv_iconst (v := nI 4) hx hb dL_law_1049 (by decide) k) dL_law_1050 dL_law_1051 ?_
  refine W.eq (g2 := F0 m 1052 ls _) rfl ?_
  refine lw_arg (k := 5) (bb := 1) C0 hS (by omega) hl dL_law_1052 dL_law_1053 (fun st k => lv_iconst (v := nI 5) hx hb dL_law_1054 (by decide) k) dL_law_1055 dL_law_1056 ?_
  refine W.eq (g2 := F0 m 1057 ls _) rfl ?_
  refine lw_arg (k := 6) (bb := 2) C0 hS (by omega) hl dL_law_1057 dL_law_1058 (fun st k => lv_bipush (v := nI 6) hx hb dL_law_1059 (by decide) k) dL_law_1061 dL_law_1062 ?_
  refine W.eq (g2 := F0 m 1063 ls _) rfl ?_
  refine lw_arg (k := 7) (bb := 2) C0 hS (by omega) hl dL_law_1063 dL_law_1064 (fun st k => lv_bipush (v := nI 7) hx hb dL_law_1065 (by decide) k) dL_law_1067 dL_law_1068 ?_
  refine W.eq (g2 := F0 m 1069 ls _) rfl ?_
  refine lw_callI (z := 218) (d := 12) (c0 := 11) (i := 0) (ys := [lw_X xs (i + 1), lw_X xs (i + 2), lw_X xs (i + 3), lw_X xs (i + 4), lw_X xs (i + 5), lw_X xs (i + 6), lw_X xs (i + 7)]) C0 hR hS hl.1 kc_218 ob_X10 ⟨by decide, by decide⟩ (fun y hy => by simp only [List.mem_cons, List.not_mem_nil, or_false] at hy; rcases hy with rfl | rfl | rfl | rfl | rfl | rfl | rfl <;> first | exact lw_Xi xs _ | exact lw_Bi _) (Nat.le_of_ble_eq_true rfl) rfl (show z_call zP 13 218 (vR 11 0 :: List.map vI [lw_X xs (i + 1), lw_X xs (i + 2), lw_X xs (i + 3), lw_X xs (i + 4), lw_X xs (i + 5), lw_X xs (i + 6), lw_X xs (i + 7)]) _ = some _ from e2) kw_218 ki_218 kx_218 ⟨Nat.le_of_ble_eq_true rfl, Nat.le_of_ble_eq_true rfl⟩ (Nat.le_of_ble_eq_true rfl) dL_law_1069 hcs (fun H locs hR hS => ?_)
  refine W.eq (g2 := F0 m 1072 ls _) rfl ?_
  exact lv_icmp_eq (tgt := 1320) hx hb dL_law_1072 (by decide) (fun _ => kk LS RX w2 H locs hSim hR hS) (fun h => absurd rfl h)
theorem kc_104 : z_Cal 104 8 1 10 := ⟨(zTB_in (List.mem_of_getElem? (i := 1114) (by decide +kernel)) (by decide +kernel)), (zTB_in (List.mem_of_getElem? (i := 109) (by decide +kernel)) (by decide +kernel)), ⟨by decide, by decide, by decide +kernel⟩, by decide, rfl, rfl⟩
theorem ki_104 : Cond.instanceMethod (z_mt 104).1 ∈ zTB := (zTB_in (List.mem_of_getElem? (i := 1112) (by decide +kernel)) (by decide +kernel))
theorem kx_104 : Cond.selects RX9 (z_mt 104).1 (z_mt 104).1 ∈ zTB := (zTB_in (List.mem_of_getElem? (i := 1113) (by decide +kernel)) (by decide +kernel))
theorem kw_104 : Cond.methodLink R_law 120 (z_mt 104).1 ∈ zTB := (zTB_in (List.mem_of_getElem? (i := 1111) (by decide +kernel)) (by decide +kernel))
theorem kc_220 : z_Cal 220 8 1 9 := ⟨(zTB_in (List.mem_of_getElem? (i := 1797) (by decide +kernel)) (by decide +kernel)), (zTB_in (List.mem_of_getElem? (i := 120) (by decide +kernel)) (by decide +kernel)), ⟨by decide, by decide, by decide +kernel⟩, by decide, rfl, rfl⟩
theorem ki_220 : Cond.instanceMethod (z_mt 220).1 ∈ zTB := (zTB_in (List.mem_of_getElem? (i := 1795) (by decide +kernel)) (by decide +kernel))
theorem kx_220 : Cond.selects RX10 (z_mt 220).1 (z_mt 220).1 ∈ zTB := (zTB_in (List.mem_of_getElem? (i := 1796) (by decide +kernel)) (by decide +kernel))
theorem kw_220 : Cond.methodLink R_law 124 (z_mt 220).1 ∈ zTB := (zTB_in (List.mem_of_getElem? (i := 1794) (by decide +kernel)) (by decide +kernel))
set_option maxHeartbeats 1000000 in
theorem lw_case_24 {E : zE} {adV : Nat → Nat} {p : Program} {l : Launch} {e : Env} {s : State} {m : MethodId} {below : List Frame} {meth : Method} {c : Code} {b L : Nat} {xs : Nat → Int32} {H : Heap} {locs : List Loc} {cells slots i : Nat} {Q : State → Prop} {ls : Array Slot} {w : zW} {LS RX : Int → List clau} (C0 : lw_C E adV p s m meth c b L xs) (h9 : i + 8 < L) (hcs : cells ≤ room_1.cells ∧ slots ≤ room_1.slots) (hl : lv_has ls 4 [(0, .ref b), (1, .ref (E.2.2 10 0)), (2, .ref (E.2.2 11 0)), (3, .int (nI i))]) (hR : z_Rel E w H) (hS : va_S (lw_A s) s.heap H locs) (hSim : Sim LS RX w) (kk : ∀ (LS RX : Int → List clau) (w : zW) (H : Heap) (locs : List Loc), Sim LS RX w → z_Rel E w H → va_S (lw_A s) s.heap H locs → W p l e room_1 s m #[Value.ref b] below meth c H locs cells slots Q (F0 m 1320 ls [])) : W p l e room_1 s m #[Value.ref b] below meth c H locs cells slots Q (F0 m 1077 ls []) := by
  obtain ⟨hx, hb, -⟩ := id C0.1
  obtain ⟨r, w1, w2, e1, e2, hSim⟩ := p_nights (d := 0) hSim (lw_X xs (i + 1)) (lw_X xs (i + 2)) (lw_X xs (i + 3)) (lw_X xs (i + 4)) (lw_X xs (i + 5)) (lw_X xs (i + 6)) (lw_X xs (i + 7)) (lw_X xs (i + 8)) (lw_Xi xs _).2
  refine lv_aload_n hx hb dL_law_1077 rfl (lv_at hl 1 rfl) ?_
  refine lw_arg (k := 1) (bb := 1) C0 hS (by omega) hl dL_law_1078 dL_law_1079 (fun st k => lv_iconst (v := nI 1) hx hb dL_law_1080 (by decide) k) dL_law_1081 dL_law_1082 ?_
  refine W.eq (g2 := F0 m 1083 ls _) rfl ?_
  refine lw_arg (k := 2) (bb := 1) C0 hS (by omega) hl dL_law_1083 dL_law_1084 (fun st k => lv_iconst (v := nI 2) hx hb dL_law_1085 (by decide) k) dL_law_1086 dL_law_1087 ?_
  refine W.eq (g2 := F0 m 1088 ls _) rfl ?_
  refine lw_arg (k := 3) (bb := 1) C0 hS (by omega) hl dL_law_1088 dL_law_1089 (fun st k => lv_iconst (v := nI 3) hx hb dL_law_1090 (by decide) k) dL_law_1091 dL_law_1092 ?_
  refine W.eq (g2 := F0 m 1093 ls _) rfl ?_
  refine lw_arg (k := 4) (bb := 1) C0 hS (by omega) hl dL_law_1093 dL_law_1094 (fun st k => lv_iconst (v := nI 4) hx hb dL_law_1095 (by decide) k) dL_law_1096 dL_law_1097 ?_
  refine W.eq (g2 := F0 m 1098 ls _) rfl ?_
  refine lw_arg (k := 5) (bb := 1) C0 hS (by omega) hl dL_law_1098 dL_law_1099 (fun st k => lv_iconst (v := nI 5) hx hb dL_law_1100 (by decide) k) dL_law_1101 dL_law_1102 ?_
  refine W.eq (g2 := F0 m 1103 ls _) rfl ?_
  refine lw_arg (k := 6) (bb := 2) C0 hS (by omega) hl dL_law_1103 dL_law_1104 (fun st k => lv_bipush (v := nI 6) hx hb dL_law_1105 (by decide) k) dL_law_1107 dL_law_1108 ?_
  refine W.eq (g2 := F0 m 1109 ls _) rfl ?_
  refine lw_arg (k := 7) (bb := 2) C0 hS (by omega) hl dL_law_1109 dL_law_1110 (fun st k => lv_bipush (v := nI 7) hx hb dL_law_1111 (by decide) k) dL_law_1113 dL_law_1114 ?_
  refine W.eq (g2 := F0 m 1115 ls _) rfl ?_
  refine lw_arg (k := 8) (bb := 2) C0 hS (by omega) hl dL_law_1115 dL_law_1116 (fun st k => lv_bipush (v := nI 8) hx hb dL_law_1117 (by decide) k) dL_law_1119 dL_law_1120 ?_
  refine W.eq (g2 := F0 m 1121 ls _) rfl ?_
  refine lw_callI (z := 104) (d := 12) (c0 := 10) (i := 0) (ys := [lw_X xs (i + 1), lw_X xs (i + 2), lw_X xs (i + 3), lw_X xs (i + 4), lw_X xs (i + 5), lw_X xs (i + 6), lw_X xs (i + 7), lw_X xs (i + 8)]) C0 hR hS hl.1 kc_104 ob_X9 ⟨by decide, by decide⟩ (fun y hy => by simp only [List.mem_cons, List.not_mem_nil, or_false] at hy; rcases hy with rfl | rfl | rfl | rfl | rfl | rfl | rfl | rfl <;> first | exact lw_Xi xs _ | exact lw_Bi _) (Nat.le_of_ble_eq_true rfl) rfl (show z_call zP 13 104 (vR 10 0 :: List.map vI [lw_X xs (i + 1), lw_X xs (i + 2), lw_X xs (i + 3), lw_X xs (i + 4), lw_X xs (i + 5), lw_X xs (i + 6), lw_X xs (i + 7), lw_X xs (i + 8)]) _ = some _ from e1) kw_104 ki_104 kx_104 ⟨Nat.le_of_ble_eq_true rfl, Nat.le_of_ble_eq_true rfl⟩ (Nat.le_of_ble_eq_true rfl) dL_law_1121 hcs (fun H locs hR hS => ?_)
  refine W.eq (g2 := F0 m 1124 ls _) rfl ?_
  refine lv_aload_n hx hb dL_law_1124 rfl (lv_at hl 2 rfl) ?_
  refine lw_arg (k := 1) (bb := 1) C0 hS (by omega) hl dL_law_1125 dL_law_1126 (fun st k => lv_iconst (v := nI 1) hx hb dL_law_1127 (by decide) k) dL_law_1128 dL_law_1129 ?_
  refine W.eq (g2 := F0 m 1130 ls _) rfl ?_
  refine lw_arg (k := 2) (bb := 1) C0 hS (by omega) hl dL_law_1130 dL_law_1131 (fun st k => lv_iconst (v := nI 2) hx hb dL_law_1132 (by decide) k) dL_law_1133 dL_law_1134 ?_
  refine W.eq (g2 := F0 m 1135 ls _) rfl ?_
  refine lw_arg (k := 3) (bb := 1) C0 hS (by omega) hl dL_law_1135 dL_law_1136 (fun st k => lv_iconst (v := nI 3) hx hb dL_law_1137 (by decide) k) dL_law_1138 dL_law_1139 ?_
  refine W.eq (g2 := F0 m 1140 ls _) rfl ?_
  refine lw_arg (k := 4) (bb := 1) C0 hS (by omega) hl dL_law_1140 dL_law_1141 (fun st k => lv_iconst (v := nI 4) hx hb dL_law_1142 (by decide) k) dL_law_1143 dL_law_1144 ?_
  refine W.eq (g2 := F0 m 1145 ls _) rfl ?_
  refine lw_arg (k := 5) (bb := 1) C0 hS (by omega) hl dL_law_1145 dL_law_1146 (fun st k => lv_iconst (v := nI 5) hx hb dL_law_1147 (by decide) k) dL_law_1148 dL_law_1149 ?_
  refine W.eq (g2 := F0 m 1150 ls _) rfl ?_
  refine lw_arg (k := 6) (bb := 2) C0 hS (by omega) hl dL_law_1150 dL_law_1151 (fun st k => lv_bipush (v := nI 6) hx hb dL_law_1152 (by decide) k) dL_law_1154 dL_law_1155 ?_
  refine W.eq (g2 := F0 m 1156 ls _) rfl ?_
  refine lw_arg (k := 7) (bb := 2) C0 hS (by omega) hl dL_law_1156 dL_law_1157 (fun st k => lv_bipush (v := nI 7) hx hb dL_law_1158 (by decide) k) dL_law_1160 dL_law_1161 ?_
  refine W.eq (g2 := F0 m 1162 ls _) rfl ?_
  refine lw_arg (k := 8) (bb := 2) C0 hS (by omega) hl dL_law_1162 dL_law_1163 (fun st k => lv_bipush (v := nI 8) hx hb dL_law_1164 (by decide) k) dL_law_1166 dL_law_1167 ?_
  refine W.eq (g2 := F0 m 1168 ls _) rfl ?_
  refine lw_callI (z := 220) (d := 12) (c0 := 11) (i := 0) (ys := [lw_X xs (i + 1), lw_X xs (i + 2), lw_X xs (i + 3), lw_X xs (i + 4), lw_X xs (i + 5), lw_X xs (i + 6), lw_X xs (i + 7), lw_X xs (i + 8)]) C0 hR hS hl.1 kc_220 ob_X10 ⟨by decide, by decide⟩ (fun y hy => by simp only [List.mem_cons, List.not_mem_nil, or_false] at hy; rcases hy with rfl | rfl | rfl | rfl | rfl | rfl | rfl | rfl <;> first | exact lw_Xi xs _ | exact lw_Bi _) (Nat.le_of_ble_eq_true rfl) rfl (show z_call zP 13 220 (vR 11 0 :: List.map vI [lw_X xs (i + 1), lw_X xs (i + 2), lw_X xs (i + 3), lw_X xs (i + 4), lw_X xs (i + 5), lw_X xs (i + 6), lw_X xs (i + 7), lw_X xs (i + 8)]) _ = some _ from e2) kw_220 ki_220 kx_220 ⟨Nat.le_of_ble_eq_true rfl, Nat.le_of_ble_eq_true rfl⟩ (Nat.le_of_ble_eq_true rfl) dL_law_1168 hcs (fun H locs hR hS => ?_)
  refine W.eq (g2 := F0 m 1171 ls _) rfl ?_
  exact lv_icmp_eq (tgt := 1320) hx hb dL_law_1171 (by decide) (fun _ => kk LS RX w2 H locs hSim hR hS) (fun h => absurd rfl h)
theorem kc_105 : z_Cal 105 6 1 12 := ⟨(zTB_in (List.mem_of_getElem? (i := 1118) (by decide +kernel)) (by decide +kernel)), (zTB_in (List.mem_of_getElem? (i := 109) (by decide +kernel)) (by decide +kernel)), ⟨by decide, by decide, by decide +kernel⟩, by decide, rfl, rfl⟩
theorem ki_105 : Cond.instanceMethod (z_mt 105).1 ∈ zTB := (zTB_in (List.mem_of_getElem? (i := 1116) (by decide +kernel)) (by decide +kernel))
theorem kx_105 : Cond.selects RX9 (z_mt 105).1 (z_mt 105).1 ∈ zTB := (zTB_in (List.mem_of_getElem? (i := 1117) (by decide +kernel)) (by decide +kernel))
theorem kw_105 : Cond.methodLink R_law 125 (z_mt 105).1 ∈ zTB := (zTB_in (List.mem_of_getElem? (i := 1115) (by decide +kernel)) (by decide +kernel))
theorem kc_221 : z_Cal 221 6 1 11 := ⟨(zTB_in (List.mem_of_getElem? (i := 1805) (by decide +kernel)) (by decide +kernel)), (zTB_in (List.mem_of_getElem? (i := 120) (by decide +kernel)) (by decide +kernel)), ⟨by decide, by decide, by decide +kernel⟩, by decide, rfl, rfl⟩
theorem ki_221 : Cond.instanceMethod (z_mt 221).1 ∈ zTB := (zTB_in (List.mem_of_getElem? (i := 1803) (by decide +kernel)) (by decide +kernel))
theorem kx_221 : Cond.selects RX10 (z_mt 221).1 (z_mt 221).1 ∈ zTB := (zTB_in (List.mem_of_getElem? (i := 1804) (by decide +kernel)) (by decide +kernel))
theorem kw_221 : Cond.methodLink R_law 129 (z_mt 221).1 ∈ zTB := (zTB_in (List.mem_of_getElem? (i := 1802) (by decide +kernel)) (by decide +kernel))
set_option maxHeartbeats 1000000 in
theorem lw_case_25 {E : zE} {adV : Nat → Nat} {p : Program} {l : Launch} {e : Env} {s : State} {m : MethodId} {below : List Frame} {meth : Method} {c : Code} {b L : Nat} {xs : Nat → Int32} {H : Heap} {locs : List Loc} {cells slots i : Nat} {Q : State → Prop} {ls : Array Slot} {w : zW} {LS RX : Int → List clau} (C0 : lw_C E adV p s m meth c b L xs) (h9 : i + 8 < L) (hcs : cells ≤ room_1.cells ∧ slots ≤ room_1.slots) (hl : lv_has ls 4 [(0, .ref b), (1, .ref (E.2.2 10 0)), (2, .ref (E.2.2 11 0)), (3, .int (nI i))]) (hR : z_Rel E w H) (hS : va_S (lw_A s) s.heap H locs) (hSim : Sim LS RX w) (kk : ∀ (LS RX : Int → List clau) (w : zW) (H : Heap) (locs : List Loc), Sim LS RX w → z_Rel E w H → va_S (lw_A s) s.heap H locs → W p l e room_1 s m #[Value.ref b] below meth c H locs cells slots Q (F0 m 1320 ls [])) : W p l e room_1 s m #[Value.ref b] below meth c H locs cells slots Q (F0 m 1176 ls []) := by
  obtain ⟨hx, hb, -⟩ := id C0.1
  obtain ⟨r, w1, w2, e1, e2, hSim⟩ := p_finest (d := 0) hSim (lw_X xs (i + 1)) (lw_X xs (i + 2)) (lw_X xs (i + 3)) (lw_X xs (i + 4)) (lw_X xs (i + 5)) (lw_X xs (i + 6)) (lw_Xi xs _).2
  refine lv_aload_n hx hb dL_law_1176 rfl (lv_at hl 1 rfl) ?_
  refine lw_arg (k := 1) (bb := 1) C0 hS (by omega) hl dL_law_1177 dL_law_1178 (fun st k => lv_iconst (v := nI 1) hx hb dL_law_1179 (by decide) k) dL_law_1180 dL_law_1181 ?_
  refine W.eq (g2 := F0 m 1182 ls _) rfl ?_
  refine lw_arg (k := 2) (bb := 1) C0 hS (by omega) hl dL_law_1182 dL_law_1183 (fun st k => lv_iconst (v := nI 2) hx hb dL_law_1184 (by decide) k) dL_law_1185 dL_law_1186 ?_
  refine W.eq (g2 := F0 m 1187 ls _) rfl ?_
  refine lw_arg (k := 3) (bb := 1) C0 hS (by omega) hl dL_law_1187 dL_law_1188 (fun st k => lv_iconst (v := nI 3) hx hb dL_law_1189 (by decide) k) dL_law_1190 dL_law_1191 ?_
  refine W.eq (g2 := F0 m 1192 ls _) rfl ?_
  refine lw_arg (k := 4) (bb := 1) C0 hS (by omega) hl dL_law_1192 dL_law_1193 (fun st k => lv_iconst (v := nI 4) hx hb dL_law_1194 (by decide) k) dL_law_1195 dL_law_1196 ?_
  refine W.eq (g2 := F0 m 1197 ls _) rfl ?_
  refine lw_arg (k := 5) (bb := 1) C0 hS (by omega) hl dL_law_1197 dL_law_1198 (fun st k => lv_iconst (v := nI 5) hx hb dL_law_1199 (by decide) k) dL_law_1200 dL_law_1201 ?_
  refine W.eq (g2 := F0 m 1202 ls _) rfl ?_
  refine lw_arg (k := 6) (bb := 2) C0 hS (by omega) hl dL_law_1202 dL_law_1203 (fun st k => lv_bipush (v := nI 6) hx hb dL_law_1204 (by decide) k) dL_law_1206 dL_law_1207 ?_
  refine W.eq (g2 := F0 m 1208 ls _) rfl ?_
  refine lw_callI (z := 105) (d := 12) (c0 := 10) (i := 0) (ys := [lw_X xs (i + 1), lw_X xs (i + 2), lw_X xs (i + 3), lw_X xs (i + 4), lw_X xs (i + 5), lw_X xs (i + 6)]) C0 hR hS hl.1 kc_105 ob_X9 ⟨by decide, by decide⟩ (fun y hy => by simp only [List.mem_cons, List.not_mem_nil, or_false] at hy; rcases hy with rfl | rfl | rfl | rfl | rfl | rfl <;> first | exact lw_Xi xs _ | exact lw_Bi _) (Nat.le_of_ble_eq_true rfl) rfl (show z_call zP 13 105 (vR 10 0 :: List.map vI [lw_X xs (i + 1), lw_X xs (i + 2), lw_X xs (i + 3), lw_X xs (i + 4), lw_X xs (i + 5), lw_X xs (i + 6)]) _ = some _ from e1) kw_105 ki_105 kx_105 ⟨Nat.le_of_ble_eq_true rfl, Nat.le_of_ble_eq_true rfl⟩ (Nat.le_of_ble_eq_true rfl) dL_law_1208 hcs (fun H locs hR hS => ?_)
  refine W.eq (g2 := F0 m 1211 ls _) rfl ?_
  refine lv_aload_n hx hb dL_law_1211 rfl (lv_at hl 2 rfl) ?_
  refine lw_arg (k := 1) (bb := 1) C0 hS (by omega) hl dL_law_1212 dL_law_1213 (fun st k => lv_iconst (v := nI 1) hx hb dL_law_1214 (by decide) k) dL_law_1215 dL_law_1216 ?_
  refine W.eq (g2 := F0 m 1217 ls _) rfl ?_
  refine lw_arg (k := 2) (bb := 1) C0 hS (by omega) hl dL_law_1217 dL_law_1218 (fun st k => lv_iconst (v := nI 2) hx hb dL_law_1219 (by decide) k) dL_law_1220 dL_law_1221 ?_
  refine W.eq (g2 := F0 m 1222 ls _) rfl ?_
  refine lw_arg (k := 3) (bb := 1) C0 hS (by omega) hl dL_law_1222 dL_law_1223 (fun st k => lv_iconst (v := nI 3) hx hb dL_law_1224 (by decide) k) dL_law_1225 dL_law_1226 ?_
  refine W.eq (g2 := F0 m 1227 ls _) rfl ?_
  refine lw_arg (k := 4) (bb := 1) C0 hS (by omega) hl dL_law_1227 dL_law_1228 (fun st k => lv_iconst (v := nI 4) hx hb dL_law_1229 (by decide) k) dL_law_1230 dL_law_1231 ?_
  refine W.eq (g2 := F0 m 1232 ls _) rfl ?_
  refine lw_arg (k := 5) (bb := 1) C0 hS (by omega) hl dL_law_1232 dL_law_1233 (fun st k => lv_iconst (v := nI 5) hx hb dL_law_1234 (by decide) k) dL_law_1235 dL_law_1236 ?_
  refine W.eq (g2 := F0 m 1237 ls _) rfl ?_
  refine lw_arg (k := 6) (bb := 2) C0 hS (by omega) hl dL_law_1237 dL_law_1238 (fun st k => lv_bipush (v := nI 6) hx hb dL_law_1239 (by decide) k) dL_law_1241 dL_law_1242 ?_
  refine W.eq (g2 := F0 m 1243 ls _) rfl ?_
  refine lw_callI (z := 221) (d := 12) (c0 := 11) (i := 0) (ys := [lw_X xs (i + 1), lw_X xs (i + 2), lw_X xs (i + 3), lw_X xs (i + 4), lw_X xs (i + 5), lw_X xs (i + 6)]) C0 hR hS hl.1 kc_221 ob_X10 ⟨by decide, by decide⟩ (fun y hy => by simp only [List.mem_cons, List.not_mem_nil, or_false] at hy; rcases hy with rfl | rfl | rfl | rfl | rfl | rfl <;> first | exact lw_Xi xs _ | exact lw_Bi _) (Nat.le_of_ble_eq_true rfl) rfl (show z_call zP 13 221 (vR 11 0 :: List.map vI [lw_X xs (i + 1), lw_X xs (i + 2), lw_X xs (i + 3), lw_X xs (i + 4), lw_X xs (i + 5), lw_X xs (i + 6)]) _ = some _ from e2) kw_221 ki_221 kx_221 ⟨Nat.le_of_ble_eq_true rfl, Nat.le_of_ble_eq_true rfl⟩ (Nat.le_of_ble_eq_true rfl) dL_law_1243 hcs (fun H locs hR hS => ?_)
  refine W.eq (g2 := F0 m 1246 ls _) rfl ?_
  exact lv_icmp_eq (tgt := 1320) hx hb dL_law_1246 (by decide) (fun _ => kk LS RX w2 H locs hSim hR hS) (fun h => absurd rfl h)
theorem kc_106 : z_Cal 106 1 1 2 := ⟨(zTB_in (List.mem_of_getElem? (i := 1122) (by decide +kernel)) (by decide +kernel)), (zTB_in (List.mem_of_getElem? (i := 109) (by decide +kernel)) (by decide +kernel)), ⟨by decide, by decide, by decide +kernel⟩, by decide, rfl, rfl⟩
theorem ki_106 : Cond.instanceMethod (z_mt 106).1 ∈ zTB := (zTB_in (List.mem_of_getElem? (i := 1120) (by decide +kernel)) (by decide +kernel))
theorem kx_106 : Cond.selects RX9 (z_mt 106).1 (z_mt 106).1 ∈ zTB := (zTB_in (List.mem_of_getElem? (i := 1121) (by decide +kernel)) (by decide +kernel))
theorem kw_106 : Cond.methodLink R_law 130 (z_mt 106).1 ∈ zTB := (zTB_in (List.mem_of_getElem? (i := 1119) (by decide +kernel)) (by decide +kernel))
theorem kc_222 : z_Cal 222 1 1 2 := ⟨(zTB_in (List.mem_of_getElem? (i := 1809) (by decide +kernel)) (by decide +kernel)), (zTB_in (List.mem_of_getElem? (i := 120) (by decide +kernel)) (by decide +kernel)), ⟨by decide, by decide, by decide +kernel⟩, by decide, rfl, rfl⟩
theorem ki_222 : Cond.instanceMethod (z_mt 222).1 ∈ zTB := (zTB_in (List.mem_of_getElem? (i := 1807) (by decide +kernel)) (by decide +kernel))
theorem kx_222 : Cond.selects RX10 (z_mt 222).1 (z_mt 222).1 ∈ zTB := (zTB_in (List.mem_of_getElem? (i := 1808) (by decide +kernel)) (by decide +kernel))
theorem kw_222 : Cond.methodLink R_law 133 (z_mt 222).1 ∈ zTB := (zTB_in (List.mem_of_getElem? (i := 1806) (by decide +kernel)) (by decide +kernel))
set_option maxHeartbeats 1000000 in
theorem lw_case_26 {E : zE} {adV : Nat → Nat} {p : Program} {l : Launch} {e : Env} {s : State} {m : MethodId} {below : List Frame} {meth : Method} {c : Code} {b L : Nat} {xs : Nat → Int32} {H : Heap} {locs : List Loc} {cells slots i : Nat} {Q : State → Prop} {ls : Array Slot} {w : zW} {LS RX : Int → List clau} (C0 : lw_C E adV p s m meth c b L xs) (h9 : i + 8 < L) (hcs : cells ≤ room_1.cells ∧ slots ≤ room_1.slots) (hl : lv_has ls 4 [(0, .ref b), (1, .ref (E.2.2 10 0)), (2, .ref (E.2.2 11 0)), (3, .int (nI i))]) (hR : z_Rel E w H) (hS : va_S (lw_A s) s.heap H locs) (hSim : Sim LS RX w) (kk : ∀ (LS RX : Int → List clau) (w : zW) (H : Heap) (locs : List Loc), Sim LS RX w → z_Rel E w H → va_S (lw_A s) s.heap H locs → W p l e room_1 s m #[Value.ref b] below meth c H locs cells slots Q (F0 m 1320 ls [])) : W p l e room_1 s m #[Value.ref b] below meth c H locs cells slots Q (F0 m 1251 ls []) := by
  obtain ⟨hx, hb, -⟩ := id C0.1
  obtain ⟨r, w1, w2, e1, e2, hSim⟩ := p_count (d := 0) hSim (lw_X xs (i + 1))
  refine lv_aload_n hx hb dL_law_1251 rfl (lv_at hl 1 rfl) ?_
  refine lw_arg (k := 1) (bb := 1) C0 hS (by omega) hl dL_law_1252 dL_law_1253 (fun st k => lv_iconst (v := nI 1) hx hb dL_law_1254 (by decide) k) dL_law_1255 dL_law_1256 ?_
  refine W.eq (g2 := F0 m 1257 ls _) rfl ?_
  refine lw_callI (z := 106) (d := 12) (c0 := 10) (i := 0) (ys := [lw_X xs (i + 1)]) C0 hR hS hl.1 kc_106 ob_X9 ⟨by decide, by decide⟩ (fun y hy => by simp only [List.mem_cons, List.not_mem_nil, or_false] at hy; rcases hy with rfl <;> first | exact lw_Xi xs _ | exact lw_Bi _) (Nat.le_of_ble_eq_true rfl) rfl (show z_call zP 13 106 (vR 10 0 :: List.map vI [lw_X xs (i + 1)]) _ = some _ from e1) kw_106 ki_106 kx_106 ⟨Nat.le_of_ble_eq_true rfl, Nat.le_of_ble_eq_true rfl⟩ (Nat.le_of_ble_eq_true rfl) dL_law_1257 hcs (fun H locs hR hS => ?_)
  refine W.eq (g2 := F0 m 1260 ls _) rfl ?_
  refine lv_aload_n hx hb dL_law_1260 rfl (lv_at hl 2 rfl) ?_
  refine lw_arg (k := 1) (bb := 1) C0 hS (by omega) hl dL_law_1261 dL_law_1262 (fun st k => lv_iconst (v := nI 1) hx hb dL_law_1263 (by decide) k) dL_law_1264 dL_law_1265 ?_
  refine W.eq (g2 := F0 m 1266 ls _) rfl ?_
  refine lw_callI (z := 222) (d := 12) (c0 := 11) (i := 0) (ys := [lw_X xs (i + 1)]) C0 hR hS hl.1 kc_222 ob_X10 ⟨by decide, by decide⟩ (fun y hy => by simp only [List.mem_cons, List.not_mem_nil, or_false] at hy; rcases hy with rfl <;> first | exact lw_Xi xs _ | exact lw_Bi _) (Nat.le_of_ble_eq_true rfl) rfl (show z_call zP 13 222 (vR 11 0 :: List.map vI [lw_X xs (i + 1)]) _ = some _ from e2) kw_222 ki_222 kx_222 ⟨Nat.le_of_ble_eq_true rfl, Nat.le_of_ble_eq_true rfl⟩ (Nat.le_of_ble_eq_true rfl) dL_law_1266 hcs (fun H locs hR hS => ?_)
  refine W.eq (g2 := F0 m 1269 ls _) rfl ?_
  exact lv_icmp_eq (tgt := 1320) hx hb dL_law_1269 (by decide) (fun _ => kk LS RX w2 H locs hSim hR hS) (fun h => absurd rfl h)
theorem kc_107 : z_Cal 107 1 1 2 := ⟨(zTB_in (List.mem_of_getElem? (i := 1126) (by decide +kernel)) (by decide +kernel)), (zTB_in (List.mem_of_getElem? (i := 109) (by decide +kernel)) (by decide +kernel)), ⟨by decide, by decide, by decide +kernel⟩, by decide, rfl, rfl⟩
theorem ki_107 : Cond.instanceMethod (z_mt 107).1 ∈ zTB := (zTB_in (List.mem_of_getElem? (i := 1124) (by decide +kernel)) (by decide +kernel))
theorem kx_107 : Cond.selects RX9 (z_mt 107).1 (z_mt 107).1 ∈ zTB := (zTB_in (List.mem_of_getElem? (i := 1125) (by decide +kernel)) (by decide +kernel))
theorem kw_107 : Cond.methodLink R_law 134 (z_mt 107).1 ∈ zTB := (zTB_in (List.mem_of_getElem? (i := 1123) (by decide +kernel)) (by decide +kernel))
theorem kc_223 : z_Cal 223 1 1 3 := ⟨(zTB_in (List.mem_of_getElem? (i := 1813) (by decide +kernel)) (by decide +kernel)), (zTB_in (List.mem_of_getElem? (i := 120) (by decide +kernel)) (by decide +kernel)), ⟨by decide, by decide, by decide +kernel⟩, by decide, rfl, rfl⟩
theorem ki_223 : Cond.instanceMethod (z_mt 223).1 ∈ zTB := (zTB_in (List.mem_of_getElem? (i := 1811) (by decide +kernel)) (by decide +kernel))
theorem kx_223 : Cond.selects RX10 (z_mt 223).1 (z_mt 223).1 ∈ zTB := (zTB_in (List.mem_of_getElem? (i := 1812) (by decide +kernel)) (by decide +kernel))
theorem kw_223 : Cond.methodLink R_law 137 (z_mt 223).1 ∈ zTB := (zTB_in (List.mem_of_getElem? (i := 1810) (by decide +kernel)) (by decide +kernel))
set_option maxHeartbeats 1000000 in
theorem lw_case_27 {E : zE} {adV : Nat → Nat} {p : Program} {l : Launch} {e : Env} {s : State} {m : MethodId} {below : List Frame} {meth : Method} {c : Code} {b L : Nat} {xs : Nat → Int32} {H : Heap} {locs : List Loc} {cells slots i : Nat} {Q : State → Prop} {ls : Array Slot} {w : zW} {LS RX : Int → List clau} (C0 : lw_C E adV p s m meth c b L xs) (h9 : i + 8 < L) (hcs : cells ≤ room_1.cells ∧ slots ≤ room_1.slots) (hl : lv_has ls 4 [(0, .ref b), (1, .ref (E.2.2 10 0)), (2, .ref (E.2.2 11 0)), (3, .int (nI i))]) (hR : z_Rel E w H) (hS : va_S (lw_A s) s.heap H locs) (hSim : Sim LS RX w) (kk : ∀ (LS RX : Int → List clau) (w : zW) (H : Heap) (locs : List Loc), Sim LS RX w → z_Rel E w H → va_S (lw_A s) s.heap H locs → W p l e room_1 s m #[Value.ref b] below meth c H locs cells slots Q (F0 m 1320 ls [])) : W p l e room_1 s m #[Value.ref b] below meth c H locs cells slots Q (F0 m 1274 ls []) := by
  obtain ⟨hx, hb, -⟩ := id C0.1
  obtain ⟨r, w1, w2, e1, e2, hSim⟩ := p_image (d := 0) hSim (lw_X xs (i + 1))
  refine lv_aload_n hx hb dL_law_1274 rfl (lv_at hl 1 rfl) ?_
  refine lw_arg (k := 1) (bb := 1) C0 hS (by omega) hl dL_law_1275 dL_law_1276 (fun st k => lv_iconst (v := nI 1) hx hb dL_law_1277 (by decide) k) dL_law_1278 dL_law_1279 ?_
  refine W.eq (g2 := F0 m 1280 ls _) rfl ?_
  refine lw_callI (z := 107) (d := 12) (c0 := 10) (i := 0) (ys := [lw_X xs (i + 1)]) C0 hR hS hl.1 kc_107 ob_X9 ⟨by decide, by decide⟩ (fun y hy => by simp only [List.mem_cons, List.not_mem_nil, or_false] at hy; rcases hy with rfl <;> first | exact lw_Xi xs _ | exact lw_Bi _) (Nat.le_of_ble_eq_true rfl) rfl (show z_call zP 13 107 (vR 10 0 :: List.map vI [lw_X xs (i + 1)]) _ = some _ from e1) kw_107 ki_107 kx_107 ⟨Nat.le_of_ble_eq_true rfl, Nat.le_of_ble_eq_true rfl⟩ (Nat.le_of_ble_eq_true rfl) dL_law_1280 hcs (fun H locs hR hS => ?_)
  refine W.eq (g2 := F0 m 1283 ls _) rfl ?_
  refine lv_aload_n hx hb dL_law_1283 rfl (lv_at hl 2 rfl) ?_
  refine lw_arg (k := 1) (bb := 1) C0 hS (by omega) hl dL_law_1284 dL_law_1285 (fun st k => lv_iconst (v := nI 1) hx hb dL_law_1286 (by decide) k) dL_law_1287 dL_law_1288 ?_
  refine W.eq (g2 := F0 m 1289 ls _) rfl ?_
  refine lw_callI (z := 223) (d := 12) (c0 := 11) (i := 0) (ys := [lw_X xs (i + 1)]) C0 hR hS hl.1 kc_223 ob_X10 ⟨by decide, by decide⟩ (fun y hy => by simp only [List.mem_cons, List.not_mem_nil, or_false] at hy; rcases hy with rfl <;> first | exact lw_Xi xs _ | exact lw_Bi _) (Nat.le_of_ble_eq_true rfl) rfl (show z_call zP 13 223 (vR 11 0 :: List.map vI [lw_X xs (i + 1)]) _ = some _ from e2) kw_223 ki_223 kx_223 ⟨Nat.le_of_ble_eq_true rfl, Nat.le_of_ble_eq_true rfl⟩ (Nat.le_of_ble_eq_true rfl) dL_law_1289 hcs (fun H locs hR hS => ?_)
  refine W.eq (g2 := F0 m 1292 ls _) rfl ?_
  exact lv_icmp_eq (tgt := 1320) hx hb dL_law_1292 (by decide) (fun _ => kk LS RX w2 H locs hSim hR hS) (fun h => absurd rfl h)
theorem kc_108 : z_Cal 108 1 1 2 := ⟨(zTB_in (List.mem_of_getElem? (i := 1136) (by decide +kernel)) (by decide +kernel)), (zTB_in (List.mem_of_getElem? (i := 109) (by decide +kernel)) (by decide +kernel)), ⟨by decide, by decide, by decide +kernel⟩, by decide, rfl, rfl⟩
theorem ki_108 : Cond.instanceMethod (z_mt 108).1 ∈ zTB := (zTB_in (List.mem_of_getElem? (i := 1134) (by decide +kernel)) (by decide +kernel))
theorem kx_108 : Cond.selects RX9 (z_mt 108).1 (z_mt 108).1 ∈ zTB := (zTB_in (List.mem_of_getElem? (i := 1135) (by decide +kernel)) (by decide +kernel))
theorem kw_108 : Cond.methodLink R_law 138 (z_mt 108).1 ∈ zTB := (zTB_in (List.mem_of_getElem? (i := 1133) (by decide +kernel)) (by decide +kernel))
theorem kc_224 : z_Cal 224 1 1 3 := ⟨(zTB_in (List.mem_of_getElem? (i := 1817) (by decide +kernel)) (by decide +kernel)), (zTB_in (List.mem_of_getElem? (i := 120) (by decide +kernel)) (by decide +kernel)), ⟨by decide, by decide, by decide +kernel⟩, by decide, rfl, rfl⟩
theorem ki_224 : Cond.instanceMethod (z_mt 224).1 ∈ zTB := (zTB_in (List.mem_of_getElem? (i := 1815) (by decide +kernel)) (by decide +kernel))
theorem kx_224 : Cond.selects RX10 (z_mt 224).1 (z_mt 224).1 ∈ zTB := (zTB_in (List.mem_of_getElem? (i := 1816) (by decide +kernel)) (by decide +kernel))
theorem kw_224 : Cond.methodLink R_law 141 (z_mt 224).1 ∈ zTB := (zTB_in (List.mem_of_getElem? (i := 1814) (by decide +kernel)) (by decide +kernel))
set_option maxHeartbeats 1000000 in
theorem lw_case_28 {E : zE} {adV : Nat → Nat} {p : Program} {l : Launch} {e : Env} {s : State} {m : MethodId} {below : List Frame} {meth : Method} {c : Code} {b L : Nat} {xs : Nat → Int32} {H : Heap} {locs : List Loc} {cells slots i : Nat} {Q : State → Prop} {ls : Array Slot} {w : zW} {LS RX : Int → List clau} (C0 : lw_C E adV p s m meth c b L xs) (h9 : i + 8 < L) (hcs : cells ≤ room_1.cells ∧ slots ≤ room_1.slots) (hl : lv_has ls 4 [(0, .ref b), (1, .ref (E.2.2 10 0)), (2, .ref (E.2.2 11 0)), (3, .int (nI i))]) (hR : z_Rel E w H) (hS : va_S (lw_A s) s.heap H locs) (hSim : Sim LS RX w) (kk : ∀ (LS RX : Int → List clau) (w : zW) (H : Heap) (locs : List Loc), Sim LS RX w → z_Rel E w H → va_S (lw_A s) s.heap H locs → W p l e room_1 s m #[Value.ref b] below meth c H locs cells slots Q (F0 m 1320 ls [])) : W p l e room_1 s m #[Value.ref b] below meth c H locs cells slots Q (F0 m 1297 ls []) := by
  obtain ⟨hx, hb, -⟩ := id C0.1
  obtain ⟨r, w1, w2, e1, e2, hSim⟩ := p_back (d := 0) hSim (lw_X xs (i + 1))
  refine lv_aload_n hx hb dL_law_1297 rfl (lv_at hl 1 rfl) ?_
  refine lw_arg (k := 1) (bb := 1) C0 hS (by omega) hl dL_law_1298 dL_law_1299 (fun st k => lv_iconst (v := nI 1) hx hb dL_law_1300 (by decide) k) dL_law_1301 dL_law_1302 ?_
  refine W.eq (g2 := F0 m 1303 ls _) rfl ?_
  refine lw_callI (z := 108) (d := 12) (c0 := 10) (i := 0) (ys := [lw_X xs (i + 1)]) C0 hR hS hl.1 kc_108 ob_X9 ⟨by decide, by decide⟩ (fun y hy => by simp only [List.mem_cons, List.not_mem_nil, or_false] at hy; rcases hy with rfl <;> first | exact lw_Xi xs _ | exact lw_Bi _) (Nat.le_of_ble_eq_true rfl) rfl (show z_call zP 13 108 (vR 10 0 :: List.map vI [lw_X xs (i + 1)]) _ = some _ from e1) kw_108 ki_108 kx_108 ⟨Nat.le_of_ble_eq_true rfl, Nat.le_of_ble_eq_true rfl⟩ (Nat.le_of_ble_eq_true rfl) dL_law_1303 hcs (fun H locs hR hS => ?_)
  refine W.eq (g2 := F0 m 1306 ls _) rfl ?_
  refine lv_aload_n hx hb dL_law_1306 rfl (lv_at hl 2 rfl) ?_
  refine lw_arg (k := 1) (bb := 1) C0 hS (by omega) hl dL_law_1307 dL_law_1308 (fun st k => lv_iconst (v := nI 1) hx hb dL_law_1309 (by decide) k) dL_law_1310 dL_law_1311 ?_
  refine W.eq (g2 := F0 m 1312 ls _) rfl ?_
  refine lw_callI (z := 224) (d := 12) (c0 := 11) (i := 0) (ys := [lw_X xs (i + 1)]) C0 hR hS hl.1 kc_224 ob_X10 ⟨by decide, by decide⟩ (fun y hy => by simp only [List.mem_cons, List.not_mem_nil, or_false] at hy; rcases hy with rfl <;> first | exact lw_Xi xs _ | exact lw_Bi _) (Nat.le_of_ble_eq_true rfl) rfl (show z_call zP 13 224 (vR 11 0 :: List.map vI [lw_X xs (i + 1)]) _ = some _ from e2) kw_224 ki_224 kx_224 ⟨Nat.le_of_ble_eq_true rfl, Nat.le_of_ble_eq_true rfl⟩ (Nat.le_of_ble_eq_true rfl) dL_law_1312 hcs (fun H locs hR hS => ?_)
  refine W.eq (g2 := F0 m 1315 ls _) rfl ?_
  exact lv_icmp_eq (tgt := 1320) hx hb dL_law_1315 (by decide) (fun _ => kk LS RX w2 H locs hSim hR hS) (fun h => absurd rfl h)
