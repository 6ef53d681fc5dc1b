/-! calls -/
theorem z_pop_s {n : Nat} {f : List zV → zS → zR} {st : zS} {r : Int × zW} (h : z_pop n st [] f = some r) : ∃ as rest, st = as.reverse ++ rest ∧ as.length = n ∧ f as rest = some r := by
  obtain ⟨as, rest, h1, h2, h3, -⟩ := z_pop_some h
  exact ⟨as.reverse, rest, by rw [List.reverse_reverse]; exact h1, by rw [List.length_reverse]; exact h2, by rw [List.append_nil] at h3; exact h3⟩
/-- a callee, as the tables have it -/
def z_Cal (z k rk ml : Nat) : Prop :=
  Cond.code (z_mt z).1 (z_mt z).2.1 (z_mt z).2.2.1 (z_mt z).2.2.2.1 ∈ zTB ∧ Cond.initialized (z_mt z).1.cls ∈ zTB ∧ ((z_mt z).1.cls ≠ "java/lang/invoke/MethodHandle" ∧ (z_mt z).1.cls ≠ "java/lang/invoke/VarHandle" ∧ (parseMethodDescriptor (z_mt z).1.desc).map (fun d => d.parameters.length) = some k) ∧ (z_mt z).2.2.1 ≤ 80 ∧ (z_mt z).2.2.2.2 = rk ∧ (z_mt z).2.2.1 = ml
theorem z_good_ws {z k rk ml : Nat} (h : z_Cal z k rk ml) : GoodIn zTB (z_ws z) := by
  intro w hw
  rcases List.mem_cons.mp hw with e | e
  · rw [e]; exact ⟨h.1, good_of_word (zTB_good _ h.1)⟩
  · exact ⟨e, good_of_word (zTB_good _ e)⟩
theorem z_blind {E : zE} {A : Nat → Prop} {XH : State → Heap → Prop} (hX : z_XP XH A) (as : List zV) (w : zW) : FrameBlind (z_Pc E XH as w) :=
  fun a U g mk q => ⟨q.1, q.2.1, va_K.moved (u := U) (U := U.calling g mk a) (Vm.Alike.refl U.vm) q.2.2.1, hX.2 U (U.calling g mk a) U.heap q.2.2.2 (State.WarmedH.refl U)⟩
section IMP
variable {E : zE} {A : Nat → Prop} {XH : State → Heap → Prop} {l : Launch} {cc : ByteArray} {own : String} {nL : Nat} {rt : Option FieldType} {bp : Nat → Nat} {pc : Nat} {as : List zA}
theorem z_okr_get {r : Int × zW} {rk : Nat} {d z : Nat} {x : List zV} {w : zW} {k ml : Nat} (hc : z_Cal z k rk ml) (h : z_CK E A XH l d z x w r) (hok : ∀ v ∈ x, z_okv v) (hml : z_sz x ≤ ml) : ∃ d', d = d' + 1 ∧ Met l (z_mt z).1 (z_ws z) (z_rm d') (z_Pc E XH x w) (z_Q E A rk r) 0 0 A := by
  obtain ⟨d', h1, h2⟩ := h hok (by rw [hc.2.2.2.2.2]; exact hml)
  rw [hc.2.2.2.2.1] at h2
  exact ⟨d', h1, h2⟩
/-- behind a call, by its run -/
theorem w_call {d : Nat} {C : zC} {G : zG} {r r' : Int × zW} {rk : Nat} (hrk : rk = 0 ∨ rk = 1 ∨ rk = 2) (h : z_Imp E A XH l cc own nL rt bp (pc + 3) as) (hC : ∀ z x w r', C z x w = some r' → z_CK E A XH l d z x w r') (hG : ∀ b ls st w, G b ls st w = some r → z_RR E A XH l cc own nL rt d (bp b) ls st w r)
    {ls : zL} {st0 rest : zS} {w : zW} (hb : z_blk as C G ls (z_ret rk r'.1 rest) r'.2 = some r) (okl : z_okL ls) (oks : z_okS rest)
    {p : Program} {e : Env} {R : Room} {s : State} {m : MethodId} {args : Array Value} {below : List Frame} {meth : Method} {c : Code} {cells slots : Nat} {Q : State → Prop} (cx : z_Cx E A XH cc own nL rt d r p l e R s m args below meth c cells slots Q)
    {H : Heap} {locs : List Loc} {lv : Array Slot} (hS : va_S A s.heap H locs) (hL : z_LS E nL ls lv) {a : Array Value}
    (hr : va_Run p l e R s m args below meth c H locs cells slots 0 0 (F0 m pc lv (st0.map (z_cv E))) (rest.map (z_cv E)) (z_Q E A rk r' a) A) :
    W p l e R s m args below meth c H locs cells slots Q (F0 m pc lv (st0.map (z_cv E))) := by
  rcases hrk with rfl | rfl | rfl
  · refine va_callv (a := a) (A0 := A) (A1 := A) hr hS (fun q _ h => h) (fun q h => h) (fun u t H1 locs1 ht hvm hw hB hz hk hS1 => ?_)
    rw [ht] at hB
    exact h d C G r hC hG ls rest r'.2 hb okl oks p e R s m args below meth c cells slots Q cx H1 locs1 lv hB hS1 hL
  · refine va_calli (a := a) (A0 := A) (A1 := A) hr hS (fun q _ h => h) (fun q h => h) (fun x u t H1 locs1 ht hvm hw hB hz hk hS1 => ?_)
    rw [ht] at hB
    have := h d C G r hC hG ls (vI r'.1 :: rest) r'.2 hb okl (oks.c hw.2) p e R s m args below meth c cells slots Q cx H1 locs1 lv hB hS1 hL
    rw [hw.1]
    exact this
  · refine va_calll (a := a) (A0 := A) (A1 := A) hr hS (fun q _ h => h) (fun q h => h) (fun x u t H1 locs1 ht hvm hw hB hz hk hS1 => ?_)
    rw [ht] at hB
    have := h d C G r hC hG ls (vL r'.1 :: rest) r'.2 hb okl (oks.c hw.2) p e R s m args below meth c cells slots Q cx H1 locs1 lv hB hS1 hL
    rw [hw.1]
    exact this
theorem z_rmR {d' k rk ml z : Nat} {R : Room} (hc : z_Cal z k rk ml) (h : d' + 1 + 10 ≤ R.frames ∧ 100 * (d' + 1 + 10) ≤ R.locals) : (z_rm d').frames + 1 ≤ R.frames ∧ 8 + ((z_mt z).2.2.1 + 11) + (z_rm d').locals ≤ R.locals := by
  have h1 := hc.2.2.2.1
  have h2 : (z_rm d').frames = d' + 10 := rfl
  have h3 : (z_rm d').locals = 100 * (d' + 10) := rfl
  constructor
  · omega
  · omega
theorem im_call {z n rk ml idx : Nat} (hX : z_XP XH A) (hc : z_Cal z n rk ml) (hrk : rk = 0 ∨ rk = 1 ∨ rk = 2) (hw : Cond.methodLink own idx (z_mt z).1 ∈ zTB) (hst : Cond.static (z_mt z).1 ∈ zTB) (hd : decode cc pc = .ok (.invokestatic idx, 3)) (h : z_Imp E A XH l cc own nL rt bp (pc + 3) as) : z_Imp E A XH l cc own nL rt bp pc (a_call z n rk ml :: as) := by
  intro d C G r hC hG ls st w hb okl oks p e R s m args below meth c cells slots Q cx H locs lv hR hS hL
  unfold z_blk a_call at hb
  obtain ⟨xs, rest, rfl, hn, hb⟩ := z_pop_s hb
  obtain ⟨hq, hb2⟩ := z_bt hb
  clear hb
  obtain ⟨r', e1, hbb⟩ := z_bind_some hb2
  clear hb2
  rw [Bool.and_eq_true] at hq
  have hxs : ∀ v ∈ xs, z_okv v := fun v hv => oks v (List.mem_append_left _ (List.mem_reverse.mpr hv))
  have hrest : z_okS rest := fun v hv => oks v (List.mem_append_right _ hv)
  obtain ⟨d', rfl, hM⟩ := z_okr_get hc (hC _ _ _ _ e1) hxs (Nat.le_of_ble_eq_true hq.2)
  have hts := cx.2.2.2.2.1
  have hRm := cx.2.2.2.2.2.2.1
  refine w_call (a := (xs.map (z_cv E)).toArray) hrk h hC hG hbb okl hrest cx (w := w) hS hL ?_
  refine va_runS (As := xs.map (z_cv E)) ⟨cx.1, cx.2.1, cx.2.2.1, cx.2.2.2.1, hts⟩ hM ⟨callB_of n hts (z_good_ws hc) rfl rfl rfl (hts _ hc.2.1) (hts _ hw) hc.2.2.1 (z_rmR hc ⟨hRm.1, hRm.2.1⟩), hts _ hst⟩ ⟨z_blind hX xs w, fun U hU hW => ⟨rfl, by rw [hU]; exact hR, va_K.moved hW.alike cx.2.2.2.2.2.1, ?_⟩⟩ rfl (by rw [List.length_map]; exact hn) hL.1 ?_ ?_ hd ⟨hRm.2.2.1, hRm.2.2.2⟩
  · have := hX.2 s U H (cx.2.2.2.2.2.2.2.1 H locs hS) hW
    rw [hU]
    exact this
  · show ((xs.reverse ++ rest).map (z_cv E)) = _
    rw [List.map_append, List.map_reverse]
  · refine lv_room ?_
    rw [z_sz_sum]
    exact Nat.le_of_ble_eq_true hq.1
theorem im_callV {z n rk ml idx c0 N : Nat} {Cn : String} {T : u_T} {ty : Nat → FieldType} (hX : z_XP XH A) (ob : z_OB c0 Cn T N ty) (hcl : (z_mt z).1.cls = Cn) (hc : z_Cal z n rk ml) (hrk : rk = 0 ∨ rk = 1 ∨ rk = 2) (hw : Cond.methodLink own idx (z_mt z).1 ∈ zTB) (hin : Cond.instanceMethod (z_mt z).1 ∈ zTB) (hse : Cond.selects Cn (z_mt z).1 (z_mt z).1 ∈ zTB) (hd : decode cc pc = .ok (.invokevirtual idx, 3)) (h : z_Imp E A XH l cc own nL rt bp (pc + 3) as) : z_Imp E A XH l cc own nL rt bp pc (a_callV z (n + 1) rk ml c0 :: as) := by
  intro d C G r hC hG ls st w hb okl oks p e R s m args below meth c cells slots Q cx H locs lv hR hS hL
  unfold z_blk a_callV at hb
  obtain ⟨xs, rest, rfl, hn, hb⟩ := z_pop_s hb
  obtain ⟨hq, hb2⟩ := z_bt hb
  clear hb
  obtain ⟨r', e1, hbb⟩ := z_bind_some hb2
  clear hb2
  rw [Bool.and_eq_true, Bool.and_eq_true] at hq
  have hxs : ∀ v ∈ xs, z_okv v := fun v hv => oks v (List.mem_append_left _ (List.mem_reverse.mpr hv))
  have hrest : z_okS rest := fun v hv => oks v (List.mem_append_right _ hv)
  obtain ⟨d', rfl, hM⟩ := z_okr_get hc (hC _ _ _ _ e1) hxs (Nat.le_of_ble_eq_true hq.2.2)
  have hts := cx.2.2.2.2.1
  have hRm := cx.2.2.2.2.2.2.1
  obtain ⟨i, ys, rfl⟩ : ∃ i ys, xs = vR c0 i :: ys := by
    have h1 := hq.1
    cases xs with
    | nil => cases h1
    | cons x ys =>
      rcases x with x | x | ⟨c1, i⟩
      · cases h1
      · cases h1
      · have := Nat.eq_of_beq_eq_true h1
        subst this
        exact ⟨i, ys, rfl⟩
  have hvi : z_okr c0 i := hxs _ List.mem_cons_self
  obtain ⟨q, hqq⟩ := z_W_ix (c := c0) (i := i) ⟨hvi, by rw [ob.2.1]; decide⟩
  have h1 : (z_W E w)[q]? = some (E.2.2 c0 i, .inr (z_oc c0, (List.range N).map (z_fv E w c0 i))) := by rw [z_W_get hqq, z_ent_o ob]
  refine w_call (a := (Value.ref (E.2.2 c0 i) :: ys.map (z_cv E)).toArray) hrk h hC hG hbb okl hrest cx (w := w) hS hL ?_
  refine va_runV (As := ys.map (z_cv E)) (b := E.2.2 c0 i) (C := Cn) ⟨cx.1, cx.2.1, cx.2.2.1, cx.2.2.2.1, hts⟩ hM ⟨callB_of n hts (z_good_ws hc) rfl rfl rfl (hts _ hc.2.1) (hts _ hw) hc.2.2.1 (z_rmR hc ⟨hRm.1, hRm.2.1⟩), hts _ hin, hts _ hse⟩ ⟨z_blind hX _ w, va_recv cx.2.2.2.2.2.1 hR.P ob.1 h1, fun U hU hW => ⟨rfl, by rw [hU]; exact hR, va_K.moved hW.alike cx.2.2.2.2.2.1, ?_⟩⟩ rfl ?_ hL.1 ?_ ?_ hd ⟨hRm.2.2.1, hRm.2.2.2⟩
  · have := hX.2 s U H (cx.2.2.2.2.2.2.2.1 H locs hS) hW
    rw [hU]
    exact this
  · rw [List.length_map]
    simpa using hn
  · show (((vR c0 i :: ys).reverse ++ rest).map (z_cv E)) = _
    rw [List.reverse_cons, List.map_append, List.map_append, List.map_reverse, List.append_assoc]
    rfl
  · refine lv_room ?_
    rw [z_sz_sum]
    exact Nat.le_of_ble_eq_true hq.2.1
/-! the library -/
theorem n_max {a b : Int} (ha : inI a) (hb : inI b) : (if Int32.ofInt a < Int32.ofInt b then Int32.ofInt b else Int32.ofInt a) = Int32.ofInt (max a b) ∧ inI (max a b) := by
  refine ⟨?_, by unfold inI at *; omega⟩
  by_cases h : a < b
  · rw [if_pos ((n_ilt ha hb).mpr h), Int.max_eq_right (by omega)]
  · rw [if_neg (fun q => h ((n_ilt ha hb).mp q)), Int.max_eq_left (by omega)]
theorem n_min {a b : Int} (ha : inI a) (hb : inI b) : (if Int32.ofInt b < Int32.ofInt a then Int32.ofInt b else Int32.ofInt a) = Int32.ofInt (min a b) ∧ inI (min a b) := by
  refine ⟨?_, by unfold inI at *; omega⟩
  by_cases h : b < a
  · rw [if_pos ((n_ilt hb ha).mpr h), Int.min_eq_right (by omega)]
  · rw [if_neg (fun q => h ((n_ilt hb ha).mp q)), Int.min_eq_left (by omega)]
theorem n_maxL {a b : Int} (ha : inL a) (hb : inL b) : (if Int64.ofInt b < Int64.ofInt a then Int64.ofInt a else Int64.ofInt b) = Int64.ofInt (max a b) ∧ inL (max a b) := by
  refine ⟨?_, by unfold inL at *; omega⟩
  by_cases h : b < a
  · rw [if_pos ((n_llt hb ha).mpr h), Int.max_eq_left (by omega)]
  · rw [if_neg (fun q => h ((n_llt hb ha).mp q)), Int.max_eq_right (by omega)]
theorem n_abs {a : Int} (ha : inI a) (h : ¬ a = -2147483648) : (if 0 ≤ Int32.ofInt a then Int32.ofInt a else 0 - Int32.ofInt a) = Int32.ofInt (max a (-a)) ∧ inI (max a (-a)) := by
  refine ⟨?_, by unfold inI at *; omega⟩
  have h1 : (0 : Int32) ≤ Int32.ofInt a ↔ 0 ≤ a := n_ile n_in0 ha
  by_cases h2 : 0 ≤ a
  · rw [if_pos (h1.mpr h2), Int.max_eq_left (by omega)]
  · rw [if_neg (fun q => h2 (h1.mp q)), Int.max_eq_right (by omega), Int32.ofInt_neg, Int32.zero_sub]
theorem z_szle {st : zS} (E : zE) {n : Nat} (h : Nat.ble (z_sz st) 8 = true) (hn : 8 + n ≤ 100) {k : Nat} {x : Nat} (hx : 100 * (k + 10) ≤ x) : ((st.map (z_cv E)).map fun v => v.category).sum + n ≤ x := by
  rw [z_sz_sum]
  have := Nat.le_of_ble_eq_true h
  omega
theorem im_max {idx : Nat} (hw : Cond.methodLink own idx Lib.Math.max.name ∈ zTB) (hst : Cond.static Lib.Math.max.name ∈ zTB) (hi : Cond.initialized "java/lang/Math" ∈ zTB) (hco : Cond.code Lib.Math.max.name Lib.Math.max.code 2 (some .int) ∈ zTB) (hd : decode cc pc = .ok (.invokestatic idx, 3)) (h : z_Imp E A XH l cc own nL rt bp (pc + 3) as) : z_Imp E A XH l cc own nL rt bp pc (i_max :: as) := by
  refine im_mv h fun C G k ls st w r hb okl oks => ?_
  unfold i_max a_binM at hb
  split at hb
  · next b a st1 =>
    obtain ⟨hq, hb2⟩ := z_bt hb
    have hn := n_max oks.t.h oks.h
    refine ⟨ls, _, w, hb2, okl, oks.t.t.c hn.2, fun d r p e R s m args below meth c cells slots Q cx H locs lv hR hS hL k => ?_⟩
    have hts := cx.2.2.2.2.1
    have hRm := cx.2.2.2.2.2.2.1
    refine va_mmax cx.1 cx.2.1 (cx.2.2.1.trans hL.1.symm) cx.2.2.2.1 (hts _ hw) (hts _ hst) (hts _ hi) (hts _ hco) (by omega) (z_szle E hq (by decide) hRm.2.1) hRm.2.2.1 hRm.2.2.2 hd ?_
    rw [hn.1]
    exact k H locs lv hR hS hL
  · cases hb
theorem im_min {idx : Nat} (hw : Cond.methodLink own idx Lib.Math.min.name ∈ zTB) (hst : Cond.static Lib.Math.min.name ∈ zTB) (hi : Cond.initialized "java/lang/Math" ∈ zTB) (hco : Cond.code Lib.Math.min.name Lib.Math.min.code 2 (some .int) ∈ zTB) (hd : decode cc pc = .ok (.invokestatic idx, 3)) (h : z_Imp E A XH l cc own nL rt bp (pc + 3) as) : z_Imp E A XH l cc own nL rt bp pc (i_min :: as) := by
  refine im_mv h fun C G k ls st w r hb okl oks => ?_
  unfold i_min a_binM at hb
  split at hb
  · next b a st1 =>
    obtain ⟨hq, hb2⟩ := z_bt hb
    have hn := n_min oks.t.h oks.h
    refine ⟨ls, _, w, hb2, okl, oks.t.t.c hn.2, fun d r p e R s m args below meth c cells slots Q cx H locs lv hR hS hL k => ?_⟩
    have hts := cx.2.2.2.2.1
    have hRm := cx.2.2.2.2.2.2.1
    refine va_mmin cx.1 cx.2.1 (cx.2.2.1.trans hL.1.symm) cx.2.2.2.1 (hts _ hw) (hts _ hst) (hts _ hi) (hts _ hco) (by omega) (z_szle E hq (by decide) hRm.2.1) hRm.2.2.1 hRm.2.2.2 hd ?_
    rw [hn.1]
    exact k H locs lv hR hS hL
  · cases hb
theorem im_iabs {idx : Nat} (hw : Cond.methodLink own idx Lib.Math.abs.name ∈ zTB) (hst : Cond.static Lib.Math.abs.name ∈ zTB) (hi : Cond.initialized "java/lang/Math" ∈ zTB) (hco : Cond.code Lib.Math.abs.name Lib.Math.abs.code 1 (some .int) ∈ zTB) (hd : decode cc pc = .ok (.invokestatic idx, 3)) (h : z_Imp E A XH l cc own nL rt bp (pc + 3) as) : z_Imp E A XH l cc own nL rt bp pc (i_iabs :: as) := by
  refine im_mv h fun C G k ls st w r hb okl oks => ?_
  unfold i_iabs a_unM at hb
  split at hb
  · next a st1 =>
    obtain ⟨hq, hb2⟩ := z_bt hb
    obtain ⟨hp, hb3⟩ := gd_some.mp hb2
    have hn := n_abs oks.h hp
    refine ⟨ls, _, w, hb3, okl, oks.t.c hn.2, fun d r p e R s m args below meth c cells slots Q cx H locs lv hR hS hL k => ?_⟩
    have hts := cx.2.2.2.2.1
    have hRm := cx.2.2.2.2.2.2.1
    refine va_mabs cx.1 cx.2.1 (cx.2.2.1.trans hL.1.symm) cx.2.2.2.1 (hts _ hw) (hts _ hst) (hts _ hi) (hts _ hco) (by omega) (z_szle E hq (by decide) hRm.2.1) hRm.2.2.1 hRm.2.2.2 hd ?_
    rw [hn.1]
    exact k H locs lv hR hS hL
  · cases hb
theorem im_lmax {idx : Nat} (hw : Cond.methodLink own idx Lib.MathLoose.max_long.x ∈ zTB) (hst : Cond.static Lib.MathLoose.max_long.x ∈ zTB) (hi : Cond.initialized "java/lang/Math" ∈ zTB) (hco : Cond.code Lib.MathLoose.max_long.x Lib.MathLoose.max_long.code 4 (some .long) ∈ zTB) (hd : decode cc pc = .ok (.invokestatic idx, 3)) (h : z_Imp E A XH l cc own nL rt bp (pc + 3) as) : z_Imp E A XH l cc own nL rt bp pc (i_lmax :: as) := by
  refine im_mv h fun C G k ls st w r hb okl oks => ?_
  unfold i_lmax a_binLM at hb
  split at hb
  · next b a st1 =>
    obtain ⟨hq, hb2⟩ := z_bt hb
    have hn := n_maxL oks.t.h oks.h
    refine ⟨ls, _, w, hb2, okl, oks.t.t.c hn.2, fun d r p e R s m args below meth c cells slots Q cx H locs lv hR hS hL k => ?_⟩
    have hts := cx.2.2.2.2.1
    have hRm := cx.2.2.2.2.2.2.1
    refine va_mmax_long cx.1 cx.2.1 (cx.2.2.1.trans hL.1.symm) cx.2.2.2.1 (hts _ hw) (hts _ hst) (hts _ hi) (hts _ hco) (by omega) (z_szle E hq (by decide) hRm.2.1) hRm.2.2.1 hRm.2.2.2 hd ?_
    rw [hn.1]
    exact k H locs lv hR hS hL
  · cases hb
end IMP
