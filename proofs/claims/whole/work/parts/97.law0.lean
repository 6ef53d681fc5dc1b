/-! THE LAW'S WALK: what its cases share -/
def lw_A (s : State) : Nat → Prop := fun q => s.heap.size ≤ q
def lw_C (E : zE) (adV : Nat → Nat) (p : Program) (s : State) (m : MethodId) (meth : Method) (c : Code) (b L : Nat) (xs : Nat → Int32) : Prop :=
  lw_At p s m meth c b L xs ∧ va_K E.1 zCl (z_tys E) s ∧ z_Ad1 E (lw_A s) ∧ z_strOK E adV (lw_A s) s s.heap ∧ L ≤ 4608
def lw_X (xs : Nat → Int32) (j : Nat) : Int := (xs j).toInt
theorem lw_Xv (xs : Nat → Int32) (j : Nat) : Int32.ofInt (lw_X xs j) = xs j := Int32.ofInt_toInt _
theorem lw_Xi (xs : Nat → Int32) (j : Nat) : inI (lw_X xs j) := n_ir (xs j)
theorem lw_ok {c0 : Nat} {i : Int} {ys : List Int} (h0 : z_okr c0 i) (hy : ∀ y ∈ ys, inI y) : ∀ v ∈ (vR c0 i :: ys.map vI), z_okv v := by
  intro v hv
  rcases List.mem_cons.mp hv with e | e
  · rw [e]; exact h0
  · obtain ⟨y, h1, h2⟩ := List.mem_map.mp e
    rw [← h2]
    exact hy y h1
section LAW
variable {E : zE} {adV : Nat → Nat} {p : Program} {l : Launch} {e : Env} {s : State} {m : MethodId} {below : List Frame} {meth : Method} {c : Code} {b L : Nat} {xs : Nat → Int32} {H : Heap} {locs : List Loc} {cells slots pc : Nat} {Q : State → Prop} {ls : Array Slot} {rest : List Value} {w : zW}
/-- aload_0, iload_3, a number, iadd, iaload -/
theorem lw_arg (C0 : lw_C E adV p s m meth c b L xs) (hS : va_S (lw_A s) s.heap H locs) {i k bb o1 o2 : Nat} (hk : i + k < L) (hl : lv_has ls 4 [(0, .ref b), (1, .ref o1), (2, .ref o2), (3, .int (nI i))]) (d0 : decode code pc = .ok (.aload_n 0, 1)) (d1 : decode code (pc + 1) = .ok (.iload_n 3, 1)) (d2 : ∀ st : List Value, W p l e room_1 s m #[Value.ref b] below meth c H locs cells slots Q (F0 m (pc + 2 + bb) ls (.int (nI k) :: st)) → W p l e room_1 s m #[Value.ref b] below meth c H locs cells slots Q (F0 m (pc + 1 + 1) ls st)) (d3 : decode code (pc + 2 + bb) = .ok (.iadd, 1)) (d4 : decode code (pc + 2 + bb + 1) = .ok (.iaload, 1))
    (kk : W p l e room_1 s m #[Value.ref b] below meth c H locs cells slots Q (F0 m (pc + 2 + bb + 1 + 1) ls (.int (Int32.ofInt (lw_X xs (i + k))) :: rest))) : W p l e room_1 s m #[Value.ref b] below meth c H locs cells slots Q (F0 m pc ls rest) := by
  obtain ⟨⟨hx, hb, -, -, -, -, hX, hbl, -, -⟩, -, -, -, hL⟩ := C0
  refine lv_aload_n hx hb d0 rfl (lv_at hl 0 rfl) ?_
  refine lv_iload_n hx hb d1 rfl (lv_at hl 3 rfl) ?_
  refine d2 _ ?_
  refine lv_iadd hx hb d3 ?_
  rw [nI_add]
  refine va_sld hx hb hX hbl (A := lw_A s) (Nat.not_le.mpr hbl) hS (vp_in_nI hk (by omega)) d4 ?_
  rw [lw_Xv] at kk
  rw [nI_clamp (by omega)]
  exact kk
/-- a call of a public method that answers an int or a truth -/
theorem lw_callI (C0 : lw_C E adV p s m meth c b L xs) (hR : z_Rel E w H) (hS : va_S (lw_A s) s.heap H locs) (hsz4 : ls.size = 4) {z n d ml idx c0 N : Nat} {Cn : String} {T : u_T} {ty : Nat → FieldType} {i : Int} {ys : List Int} {r : Int × zW} (hc : z_Cal z n 1 ml) (ob : z_OB c0 Cn T N ty) (h0 : z_okr c0 i) (hy : ∀ y ∈ ys, inI y) (hsz : z_sz (vR c0 i :: ys.map vI) ≤ ml) (hn : ys.length = n) (hcall : z_call zP (d + 1) z (vR c0 i :: ys.map vI) w = some r) (hw : Cond.methodLink R_law idx (z_mt z).1 ∈ zTB) (hin : Cond.instanceMethod (z_mt z).1 ∈ zTB) (hse : Cond.selects Cn (z_mt z).1 (z_mt z).1 ∈ zTB) (hdr : d + 1 + 10 ≤ room_1.frames ∧ 100 * (d + 1 + 10) ≤ room_1.locals) (hst : (rest.map fun v => v.category).sum ≤ 8) (hd : decode code pc = .ok (.invokevirtual idx, 3)) (hcs : cells ≤ room_1.cells ∧ slots ≤ room_1.slots)
    (kk : ∀ (H1 : Heap) (locs1 : List Loc), z_Rel E r.2 H1 → va_S (lw_A s) s.heap H1 locs1 → W p l e room_1 s m #[Value.ref b] below meth c H1 locs1 cells slots Q (F0 m (pc + 3) ls (.int (Int32.ofInt r.1) :: rest))) : W p l e room_1 s m #[Value.ref b] below meth c H locs cells slots Q (F0 m pc ls (((ys.map vI).map (z_cv E)).reverse ++ .ref (E.2.2 c0 i) :: rest)) := by
  obtain ⟨hx, hb, -, hml, hown, hts0, -, -, -, -⟩ := C0.1
  have hts : ∀ q ∈ zTB, q.before #[Value.ref b] s = true := fun q hq => hts0 q (List.mem_filter.mp hq).1
  have hok := lw_ok (c0 := c0) h0 hy
  obtain ⟨d', hd', hM⟩ := z_okr_get hc (z_sound (z_strXP E adV (lw_A s)) (fun z hz => z_allImpl (l := l) C0.2.2.1 z hz) hcall) hok hsz
  have hdd : d = d' := by omega
  subst hdd
  obtain ⟨q, hqq⟩ := z_W_ix (c := c0) (i := i) ⟨h0, by rw [ob.2.1]; decide⟩
  have h1 : (z_W E w)[q]? = some (E.2.2 c0 i, .inr (z_oc c0, (List.range N).map (z_fv E w c0 i))) := by rw [z_W_get hqq, z_ent_o ob]
  have hXX : z_strOK E adV (lw_A s) s H := (z_strXP E adV (lw_A s)).1 s s.heap H C0.2.2.2.1 hS.2.1
  have hr : va_Run p l e room_1 s m #[Value.ref b] below meth c H locs cells slots 0 0 (F0 m pc ls (((ys.map vI).map (z_cv E)).reverse ++ .ref (E.2.2 c0 i) :: rest)) rest (z_Q E (lw_A s) 1 r (Value.ref (E.2.2 c0 i) :: (ys.map vI).map (z_cv E)).toArray) (lw_A s) :=
    va_runV (As := (ys.map vI).map (z_cv E)) (b := E.2.2 c0 i) (C := Cn) ⟨hx, hb, hml, hown, hts⟩ hM ⟨callB_of n hts (z_good_ws hc) rfl rfl rfl (hts _ hc.2.1) (hts _ hw) hc.2.2.1 (z_rmR hc hdr), hts _ hin, hts _ hse⟩ ⟨z_blind (z_strXP E adV (lw_A s)) _ w, va_recv C0.2.1 hR.P ob.1 h1, fun U hU hW => ⟨rfl, by rw [hU]; exact hR, va_K.moved hW.alike C0.2.1, by rw [hU]; exact (z_strXP E adV (lw_A s)).2 s U H hXX hW⟩⟩ rfl (by rw [List.length_map, List.length_map]; exact hn) hsz4 rfl (lv_room hst) hd hcs
  refine va_calli (a := (Value.ref (E.2.2 c0 i) :: (ys.map vI).map (z_cv E)).toArray) (A0 := lw_A s) (A1 := lw_A s) hr hS (fun q _ h => h) (fun q h => h) (fun x u t H1 locs1 ht hvm hw1 hB hz hk hS1 => ?_)
  rw [ht] at hB
  rw [hw1.1]
  exact kk H1 locs1 hB hS1
/-- the same of a method that answers a long -/
theorem lw_callL (C0 : lw_C E adV p s m meth c b L xs) (hR : z_Rel E w H) (hS : va_S (lw_A s) s.heap H locs) (hsz4 : ls.size = 4) {z n d ml idx c0 N : Nat} {Cn : String} {T : u_T} {ty : Nat → FieldType} {i : Int} {ys : List Int} {r : Int × zW} (hc : z_Cal z n 2 ml) (ob : z_OB c0 Cn T N ty) (h0 : z_okr c0 i) (hy : ∀ y ∈ ys, inI y) (hsz : z_sz (vR c0 i :: ys.map vI) ≤ ml) (hn : ys.length = n) (hcall : z_call zP (d + 1) z (vR c0 i :: ys.map vI) w = some r) (hw : Cond.methodLink R_law idx (z_mt z).1 ∈ zTB) (hin : Cond.instanceMethod (z_mt z).1 ∈ zTB) (hse : Cond.selects Cn (z_mt z).1 (z_mt z).1 ∈ zTB) (hdr : d + 1 + 10 ≤ room_1.frames ∧ 100 * (d + 1 + 10) ≤ room_1.locals) (hst : (rest.map fun v => v.category).sum ≤ 8) (hd : decode code pc = .ok (.invokevirtual idx, 3)) (hcs : cells ≤ room_1.cells ∧ slots ≤ room_1.slots)
    (kk : ∀ (H1 : Heap) (locs1 : List Loc), z_Rel E r.2 H1 → va_S (lw_A s) s.heap H1 locs1 → W p l e room_1 s m #[Value.ref b] below meth c H1 locs1 cells slots Q (F0 m (pc + 3) ls (.long (Int64.ofInt r.1) :: rest))) : W p l e room_1 s m #[Value.ref b] below meth c H locs cells slots Q (F0 m pc ls (((ys.map vI).map (z_cv E)).reverse ++ .ref (E.2.2 c0 i) :: rest)) := by
  obtain ⟨hx, hb, -, hml, hown, hts0, -, -, -, -⟩ := C0.1
  have hts : ∀ q ∈ zTB, q.before #[Value.ref b] s = true := fun q hq => hts0 q (List.mem_filter.mp hq).1
  have hok := lw_ok (c0 := c0) h0 hy
  obtain ⟨d', hd', hM⟩ := z_okr_get hc (z_sound (z_strXP E adV (lw_A s)) (fun z hz => z_allImpl (l := l) C0.2.2.1 z hz) hcall) hok hsz
  have hdd : d = d' := by omega
  subst hdd
  obtain ⟨q, hqq⟩ := z_W_ix (c := c0) (i := i) ⟨h0, by rw [ob.2.1]; decide⟩
  have h1 : (z_W E w)[q]? = some (E.2.2 c0 i, .inr (z_oc c0, (List.range N).map (z_fv E w c0 i))) := by rw [z_W_get hqq, z_ent_o ob]
  have hXX : z_strOK E adV (lw_A s) s H := (z_strXP E adV (lw_A s)).1 s s.heap H C0.2.2.2.1 hS.2.1
  have hr : va_Run p l e room_1 s m #[Value.ref b] below meth c H locs cells slots 0 0 (F0 m pc ls (((ys.map vI).map (z_cv E)).reverse ++ .ref (E.2.2 c0 i) :: rest)) rest (z_Q E (lw_A s) 2 r (Value.ref (E.2.2 c0 i) :: (ys.map vI).map (z_cv E)).toArray) (lw_A s) :=
    va_runV (As := (ys.map vI).map (z_cv E)) (b := E.2.2 c0 i) (C := Cn) ⟨hx, hb, hml, hown, hts⟩ hM ⟨callB_of n hts (z_good_ws hc) rfl rfl rfl (hts _ hc.2.1) (hts _ hw) hc.2.2.1 (z_rmR hc hdr), hts _ hin, hts _ hse⟩ ⟨z_blind (z_strXP E adV (lw_A s)) _ w, va_recv C0.2.1 hR.P ob.1 h1, fun U hU hW => ⟨rfl, by rw [hU]; exact hR, va_K.moved hW.alike C0.2.1, by rw [hU]; exact (z_strXP E adV (lw_A s)).2 s U H hXX hW⟩⟩ rfl (by rw [List.length_map, List.length_map]; exact hn) hsz4 rfl (lv_room hst) hd hcs
  refine va_calll (a := (Value.ref (E.2.2 c0 i) :: (ys.map vI).map (z_cv E)).toArray) (A0 := lw_A s) (A1 := lw_A s) hr hS (fun q _ h => h) (fun q h => h) (fun x u t H1 locs1 ht hvm hw1 hB hz hk hS1 => ?_)
  rw [ht] at hB
  rw [hw1.1]
  exact kk H1 locs1 hB hS1
/-- a number as a truth: ifeq, 1, goto, 0 -/
theorem lw_bool (C0 : lw_C E adV p s m meth c b L xs) {x : Int} (hi : inI x) (d0 : decode code pc = .ok (.ifCond .eq 7, 3)) (d1 : decode code (pc + 3) = .ok (.iconst 1, 1)) (d2 : decode code (pc + 3 + 1) = .ok (.goto 4, 3)) (d3 : decode code (pc + 7) = .ok (.iconst 0, 1))
    (kk : W p l e room_1 s m #[Value.ref b] below meth c H locs cells slots Q (F0 m (pc + 8) ls (.int (Int32.ofInt (if x = 0 then 0 else 1)) :: rest))) : W p l e room_1 s m #[Value.ref b] below meth c H locs cells slots Q (F0 m pc ls (.int (Int32.ofInt x) :: rest)) := by
  obtain ⟨hx, hb, -⟩ := C0.1
  have hz : Int32.ofInt x = 0 ↔ x = 0 := by
    constructor
    · intro h
      have := congrArg Int32.toInt h
      rw [n_i hi] at this
      exact this
    · intro h
      rw [h]
      rfl
  refine lv_if_eq (tgt := pc + 7) hx hb d0 (by omega) (fun h => ?_) (fun h => ?_)
  · refine lv_iconst (v := 0) hx hb d3 (by decide) ?_
    rw [if_pos (hz.mp h)] at kk
    exact kk
  · refine lv_iconst (v := 1) hx hb d1 (by decide) ?_
    refine lv_goto (tgt := pc + 8) hx hb d2 (by omega) ?_
    rw [if_neg (fun q => h (hz.mpr q))] at kk
    exact kk
end LAW
