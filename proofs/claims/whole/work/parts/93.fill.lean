/-! CONSTRUCTORS: a row filled with one number: Arrays.fill over one row alone; the model's own loop -/
section INI
variable {G : va_G} {dA : Nat → ClassId} {p : Program} {l : Launch} {e : Env} {R : Room} {s : State} {m : MethodId} {args : Array Value} {below : List Frame} {meth : Method} {c : Code} {cells slots : Nat} {Q : State → Prop} {A : Nat → Prop} {q N : Nat} {v : Int32} {f : Nat → Int32}
theorem fill_up {i : Nat} (hi : i < 2 ^ 31) : upd (fun j => if j < i then v else f j) (nI i).toNatClampNeg v = fun j => if j < i + 1 then v else f j := by
  rw [nI_clamp hi]
  funext j
  unfold upd
  by_cases h : j = i
  · rw [if_pos h, if_pos (by omega)]
  · rw [if_neg h]
    show (if j < i then v else f j) = _
    by_cases h2 : j < i
    · rw [if_pos h2, if_pos (by omega)]
    · rw [if_neg h2, if_neg (by omega)]
theorem fill_loop (hx : p.tables.exec = Jvm.exec) (hb : c.code = cJ7_fill_53178) (hK : va_K G zCl (zk dA) s) (hN : N < 2 ^ 31)
    (kend : ∀ (H : Heap) (locs : List Loc) (ls : Array Slot), va_P G zCl [(q, .inl (dA 0, (N, .inl fun j => if j < N then v else f j)))] H → va_D A [(q, .inl (dA 0, (N, .inl fun j => if j < N then v else f j)))] → va_S A s.heap H locs → W p l e R s m args below meth c H locs cells slots Q (F0 m 20 ls [])) :
    ∀ (k i : Nat) (H : Heap) (locs : List Loc) (ls : Array Slot), i + k = N → va_P G zCl [(q, .inl (dA 0, (N, .inl fun j => if j < i then v else f j)))] H → va_D A [(q, .inl (dA 0, (N, .inl fun j => if j < i then v else f j)))] → va_S A s.heap H locs → lv_has ls 4 [(3, .int (nI N)), (2, .int (nI i)), (0, .ref q), (1, .int v)] → W p l e R s m args below meth c H locs cells slots Q (F0 m 5 ls []) := by
  intro k
  induction k with
  | zero =>
    intro i H locs ls hi hP hD hS hl
    have hi' : i = N := by omega
    subst hi'
    refine lv_iload_n hx hb dJ7_fill_53178_5 rfl (lv_at hl 1 rfl) ?_
    refine lv_iload_n hx hb dJ7_fill_53178_6 rfl (lv_at hl 0 rfl) ?_
    refine lv_icmp_ge (tgt := 20) hx hb dJ7_fill_53178_7 (by decide) (fun _ => kend H locs ls hP hD hS) (fun h => absurd (nI_le (Nat.le_refl _) hN) h)
  | succ k ih =>
    intro i H locs ls hi hP hD hS hl
    refine lv_iload_n hx hb dJ7_fill_53178_5 rfl (lv_at hl 1 rfl) ?_
    refine lv_iload_n hx hb dJ7_fill_53178_6 rfl (lv_at hl 0 rfl) ?_
    refine lv_icmp_ge (tgt := 20) hx hb dJ7_fill_53178_7 (by decide) (fun h => absurd h (nI_ge (by omega) hN)) (fun _ => ?_)
    refine lv_aload_n hx hb dJ7_fill_53178_10 rfl (lv_at hl 2 rfl) ?_
    refine lv_iload_n hx hb dJ7_fill_53178_11 rfl (lv_at hl 1 rfl) ?_
    refine lv_iload_n hx hb dJ7_fill_53178_12 rfl (lv_at hl 3 rfl) ?_
    refine va_iast hx hb hK hP hD hS 0 0 rfl rfl (vp_in_nI (by omega) hN) dJ7_fill_53178_13 (fun H1 locs1 hP1 hD1 hS1 => ?_)
    rw [fill_up (by omega)] at hP1 hD1
    refine lv_iinc (v := nI (i + 1)) (lv' := [(2, .int (nI (i + 1))), (3, .int (nI N)), (0, .ref q), (1, .int v)]) hx hb dJ7_fill_53178_14 hl (k := 1) rfl (nI_add i 1) (by decide) rfl (fun ls hl => ?_)
    refine lv_goto (tgt := 5) hx hb dJ7_fill_53178_17 (by decide) ?_
    exact ih (i + 1) H1 locs1 ls (by omega) hP1 hD1 hS1 (lv_sub hl [1, 0, 2, 3] rfl)
end INI
/-- Arrays.fill of one row: nothing else is wanted of the heap -/
theorem n_fill {G : va_G} {dA : Nat → ClassId} {l : Launch} (q sz N : Nat) (v : Int32) (f : Nat → Int32) (hN : N < 2 ^ 31) : Met l yJ7_fill_53178 (Cond.code yJ7_fill_53178 cJ7_fill_53178 4 none :: zTB) ({ frames := 0, cells := 0, slots := 0, locals := 0 })
    (va_Pc [.ref q, .int v] (fun U => U.heap.size = sz ∧ va_P G zCl [(q, .inl (dA 0, (N, .inl f)))] U.heap ∧ va_D (fun _ => True) [(q, .inl (dA 0, (N, .inl f)))] ∧ va_K G zCl (zk dA) U))
    (va_Qv (fun _ : Unit => True) (fun _ t => va_P G zCl [(q, .inl (dA 0, (N, .inl fun j => if j < N then v else f j)))] t.heap ∧ va_D (va_A [(q, .inl (dA 0, (N, .inl f)))] sz) [(q, .inl (dA 0, (N, .inl fun j => if j < N then v else f j)))]) (va_A [(q, .inl (dA 0, (N, .inl f)))] sz)) 0 0 (va_A [(q, .inl (dA 0, (N, .inl f)))] sz) := by
  refine Met.ofW (cc := cJ7_fill_53178) (maxL := 4) (ret := none) (by decide) rfl ?_
  intro p e s m args below meth c s₁ B hml hv
  obtain ⟨rfl, hsz0, hP, hD0, hK⟩ := hv
  have hx := B.exec
  have hb := B.bytes
  have hr := B.returns
  have hlocks := B.notSynchronized
  subst hsz0
  have hD := hD0.self (sz := s.heap.size)
  generalize va_A [(q, .inl (dA 0, (N, .inl f)))] s.heap.size = A at hD ⊢
  have hS : va_S A s.heap s.heap [] := va_S.rf
  have hl := lv_entry ([.ref q, .int v]) (n := 4) (Nat.le_of_ble_eq_true rfl)
  rw [lg_entry_eq]
  generalize (lg_sl ([.ref q, .int v]) ++ List.replicate (4 - (lg_sl ([.ref q, .int v])).length) Slot.unset).toArray = ls at hl ⊢
  have hl : lv_has ls 4 [(0, .ref q), (1, .int v)] := hl
  refine lv_iconst (v := nI 0) hx hb dJ7_fill_53178_0 (by decide) ?_
  refine lv_istore_n (lv' := [(2, .int (nI 0)), (0, .ref q), (1, .int v)]) hx hb dJ7_fill_53178_1 rfl hl (by decide) rfl (fun ls hl => ?_)
  refine lv_aload_n hx hb dJ7_fill_53178_2 rfl (lv_at hl 1 rfl) ?_
  refine va_alen hx hb hK hP 0 0 rfl rfl (v := nI N) rfl dJ7_fill_53178_3 ?_
  refine lv_istore_n (lv' := [(3, .int (nI N)), (2, .int (nI 0)), (0, .ref q), (1, .int v)]) hx hb dJ7_fill_53178_4 rfl hl (by decide) rfl (fun ls hl => ?_)
  have e0 : (fun j => if j < 0 then v else f j) = f := by
    funext j
    rw [if_neg (by omega)]
  refine fill_loop hx hb hK hN (fun H locs ls hP1 hD1 hS1 => ?_) N 0 s.heap [] ls (by omega) (by rw [e0]; exact hP) (by rw [e0]; exact hD) hS hl
  exact W.vret hx hb hr (fun t ht hW => ⟨⟨(), rfl, trivial, by rw [ht]; exact hP1, hD1⟩, hS1.F ht⟩) hS1.2.2 dJ7_fill_53178_20 hlocks
section INI
variable {G : va_G} {dA : Nat → ClassId} {dS : Nat} {p : Program} {l : Launch} {e : Env} {R : Room} {s : State} {m : MethodId} {args : Array Value} {below : List Frame} {meth : Method} {c : Code} {cells slots : Nat} {Q : State → Prop} {A : Nat → Prop} {h0 q : Nat} {fs : List Value} {P F : va_W}
/-- what said is behind i steps of the model's loop -/
def saidF (i : Nat) : Nat → Int32 := fun j => if j = 0 ∨ (1382 ≤ j ∧ j < 1382 + i) then -1 else 0
theorem saidF_0 : upd (fun _ => 0) (nI 0).toNatClampNeg (-1) = saidF 0 := by
  rw [nI_clamp (by decide)]
  funext j
  unfold upd saidF
  by_cases h : j = 0
  · rw [if_pos h, if_pos (Or.inl h)]
  · rw [if_neg h, if_neg (by omega)]
theorem saidF_up {i : Nat} (hi : i < 8) : upd (saidF i) (nI (1382 + i)).toNatClampNeg (-1) = saidF (i + 1) := by
  rw [nI_clamp (by omega)]
  funext j
  unfold upd saidF
  by_cases h : j = 1382 + i
  · rw [if_pos h, if_pos (by omega)]
  · rw [if_neg h]
    by_cases h2 : j = 0 ∨ (1382 ≤ j ∧ j < 1382 + i)
    · rw [if_pos h2, if_pos (by omega)]
    · rw [if_neg h2, if_neg (by omega)]
/-- the model's loop over its eight posts; P: the model's own cell and what stands before said, at a place pq -/
theorem said_loop {ws : (Nat → Int32) → va_W} {pq : Nat} (cx : iCx G dA dS cX10_init RX10 2 p s m args meth c) (hown : ∀ f, (ws f)[0]? = some (h0, .inr (z_oc 11, fs))) (hsaid : fs[32]? = some (.ref q)) (hq : ∀ f, (ws f)[pq]? = some (q, .inl (dA 0, (1392, .inl f)))) (hset : ∀ f g, (ws f).set pq (q, .inl (dA 0, (1392, .inl g))) = ws g) (hw : Cond.fieldLink RX10 78 RX10 (TX10 32).2.1 (TX10 32).2.2.1 ∈ zTB)
    (kend : ∀ (H : Heap) (locs : List Loc) (ls : Array Slot), va_P G zCl (ws (saidF 8)) H → va_D A (ws (saidF 8)) → va_S A s.heap H locs → W p l e R s m args below meth c H locs cells slots Q (F0 m 291 ls [])) :
    ∀ (k i : Nat) (H : Heap) (locs : List Loc) (ls : Array Slot), i + k = 8 → va_P G zCl (ws (saidF i)) H → va_D A (ws (saidF i)) → va_S A s.heap H locs → lv_has ls 2 [(1, .int (nI (1382 + i))), (0, .ref h0)] → W p l e R s m args below meth c H locs cells slots Q (F0 m 271 ls []) := by
  intro k
  induction k with
  | zero =>
    intro i H locs ls hi hP hD hS hl
    have hi' : i = 8 := by omega
    subst hi'
    refine lv_iload_n cx.1 cx.2.1 dX10_init_271 rfl (lv_at hl 0 rfl) ?_
    refine lv_sipush (v := nI 1390) cx.1 cx.2.1 dX10_init_272 (by decide) ?_
    exact lv_icmp_ge (tgt := 291) cx.1 cx.2.1 dX10_init_275 (by decide) (fun _ => kend H locs ls hP hD hS) (fun h => absurd (nI_le (Nat.le_refl _) (by decide)) h)
  | succ k ih =>
    intro i H locs ls hi hP hD hS hl
    refine lv_iload_n cx.1 cx.2.1 dX10_init_271 rfl (lv_at hl 0 rfl) ?_
    refine lv_sipush (v := nI 1390) cx.1 cx.2.1 dX10_init_272 (by decide) ?_
    refine lv_icmp_ge (tgt := 291) cx.1 cx.2.1 dX10_init_275 (by decide) (fun h => absurd h (nI_ge (by omega) (by decide))) (fun _ => ?_)
    refine lv_aload_n cx.1 cx.2.1 dX10_init_278 rfl (lv_at hl 1 rfl) ?_
    refine va_get cx.1 cx.2.1 cx.2.2.2.2.1 ob_X10.2.2.2.1 cx.2.2.2.1 cx.2.2.2.2.2.1 hP 0 (hown _) ob_X10.1 32 (by decide) (ref := RX10) (cx.2.2.2.2.1 _ hw) (fun _ h9 => h9) hsaid dX10_init_279 ?_
    refine lv_iload_n cx.1 cx.2.1 dX10_init_282 rfl (lv_at hl 0 rfl) ?_
    refine lv_iconst (v := -1) cx.1 cx.2.1 dX10_init_283 (by decide) ?_
    refine va_iast cx.1 cx.2.1 cx.2.2.2.2.2.1 hP hD hS pq 0 (hq _) rfl (vp_in_nI (by omega) (by decide)) dX10_init_284 (fun H1 locs1 hP1 hD1 hS1 => ?_)
    rw [hset, saidF_up (by omega)] at hP1 hD1
    refine lv_iinc (v := nI (1382 + (i + 1))) (lv' := [(1, .int (nI (1382 + (i + 1)))), (0, .ref h0)]) cx.1 cx.2.1 dX10_init_285 hl (k := 0) rfl (nI_add (1382 + i) 1) (by decide) rfl (fun ls hl => ?_)
    refine lv_goto (tgt := 271) cx.1 cx.2.1 dX10_init_288 (by decide) ?_
    exact ih (i + 1) H1 locs1 ls (by omega) hP1 hD1 hS1 hl
end INI
