/-! fields and arrays -/
def z_cells : List (Nat × Int) := (List.range 80).flatMap fun c => if z_kd c < 6 then (List.range (z_nin c).toNat).map fun (i : Nat) => (c, (i : Int)) else []
theorem z_cells_nd : z_cells.Nodup := by decide +kernel
theorem z_cells_val : ∀ q ∈ z_cells, z_val q.1 q.2 := by
  intro q hq
  unfold z_cells at hq
  rw [List.mem_flatMap] at hq
  obtain ⟨c, hc, hq⟩ := hq
  split at hq
  · next hk =>
    obtain ⟨i, hi, rfl⟩ := List.mem_map.mp hq
    have := List.mem_range.mp hi
    exact ⟨⟨by show (0 : Int) ≤ (i : Int); omega, by show (i : Int) < z_nin c; omega⟩, hk⟩
  · cases hq
theorem z_nin_out {c : Nat} (h : 80 ≤ c) : z_nin c = 0 := by
  unfold z_nin
  rw [List.getD_eq_getElem?_getD, List.getElem?_eq_none (by show z_ninL.length ≤ c; exact Nat.le_trans (by decide) h)]
  rfl
theorem z_cells_in {c : Nat} {i : Int} (h : z_val c i) : (c, i) ∈ z_cells := by
  obtain ⟨⟨h0, h1⟩, hk⟩ := h
  have hc : c < 80 := by
    rcases Nat.lt_or_ge c 80 with q | q
    · exact q
    · rw [z_nin_out q] at h1; omega
  unfold z_cells
  rw [List.mem_flatMap]
  refine ⟨c, List.mem_range.mpr hc, ?_⟩
  rw [if_pos hk]
  refine List.mem_map.mpr ⟨i.toNat, List.mem_range.mpr (by omega), ?_⟩
  rw [show ((i.toNat : Nat) : Int) = i by omega]
def z_W (E : zE) (w : zW) : va_W := z_cells.map fun q => (E.2.2 q.1 q.2, z_ent E q.1 q.2 w)
theorem z_W_at {E : zE} {w : zW} {k : Nat} {q : Nat × va_E} (h : (z_W E w)[k]? = some q) : ∃ c i, z_cells[k]? = some (c, i) ∧ q = (E.2.2 c i, z_ent E c i w) := by
  unfold z_W at h
  rw [List.getElem?_map] at h
  cases hc : z_cells[k]? with
  | none => rw [hc] at h; cases h
  | some x => rw [hc] at h; exact ⟨x.1, x.2, rfl, (Option.some.inj h).symm⟩
theorem z_W_ix {c : Nat} {i : Int} (h : z_val c i) : ∃ k : Nat, z_cells[k]? = some (c, i) := List.getElem?_of_mem (z_cells_in h)
theorem z_W_get {E : zE} {w : zW} {c k : Nat} {i : Int} (h : z_cells[k]? = some (c, i)) : (z_W E w)[k]? = some (E.2.2 c i, z_ent E c i w) := by
  unfold z_W
  rw [List.getElem?_map, h]
  rfl
theorem z_Rel.P {E : zE} {w : zW} {H : Heap} (h : z_Rel E w H) : va_P E.1 zCl (z_W E w) H := fun k q hq => by
  obtain ⟨c, i, h1, rfl⟩ := z_W_at hq
  exact h.1 c i (z_cells_val _ (List.mem_of_getElem? h1))
theorem z_Rel.of {E : zE} {w : zW} {H : Heap} (h : va_P E.1 zCl (z_W E w) H) (hc : z_can w) : z_Rel E w H := by
  refine ⟨fun c i hv => ?_, hc⟩
  obtain ⟨k, hk⟩ := z_W_ix hv
  exact h k _ (z_W_get hk)
theorem z_Ad1.D {E : zE} {A : Nat → Prop} (h : z_Ad1 E A) (w : zW) : va_D A (z_W E w) := by
  refine ⟨fun i j p q hi hj e => ?_, fun k q hq => ?_⟩
  · obtain ⟨c, x, h1, rfl⟩ := z_W_at hi
    obtain ⟨c', x', h2, rfl⟩ := z_W_at hj
    obtain ⟨rfl, rfl⟩ := h.1 c x c' x' (z_cells_val _ (List.mem_of_getElem? h1)) (z_cells_val _ (List.mem_of_getElem? h2)) e
    have l1 := (List.getElem?_eq_some_iff.mp h1).1
    exact (List.getElem?_inj l1 z_cells_nd).mp (h1.trans h2.symm)
  · obtain ⟨c, x, h1, rfl⟩ := z_W_at hq
    exact h.2 c x (z_cells_val _ (List.mem_of_getElem? h1))

theorem z_ent_congr {E : zE} {c : Nat} {i : Int} {w w' : zW} (h : ∀ s, w' c i s = w c i s) : z_ent E c i w' = z_ent E c i w := by
  have e : w' c i = w c i := funext h
  unfold z_ent
  have e2 : z_fv E w' c i = z_fv E w c i := by funext f; unfold z_fv; rw [e]
  rw [e2, e]
theorem z_W_set {E : zE} {w w' : zW} {c k : Nat} {i : Int} {x : va_E} (hk : z_cells[k]? = some (c, i)) (hx : z_ent E c i w' = x) (hw : ∀ c' i', ¬ (c' = c ∧ i' = i) → ∀ s, w' c' i' s = w c' i' s) : (z_W E w).set k (E.2.2 c i, x) = z_W E w' := by
  apply List.ext_getElem?
  intro j
  by_cases hj : j = k
  · subst hj
    rw [z_W_get hk, List.getElem?_set_self (by rw [z_W, List.length_map]; exact (List.getElem?_eq_some_iff.mp hk).1), hx]
  · rw [List.getElem?_set_ne (fun e => hj e.symm)]
    unfold z_W
    rw [List.getElem?_map, List.getElem?_map]
    cases hq : z_cells[j]? with
    | none => rfl
    | some q =>
      show some (E.2.2 q.1 q.2, z_ent E q.1 q.2 w) = some (E.2.2 q.1 q.2, z_ent E q.1 q.2 w')
      rw [z_ent_congr (w := w) (w' := w') (hw q.1 q.2 (fun e => hj ?_))]
      have e2 : q = (c, i) := Prod.ext e.1 e.2
      rw [e2] at hq
      exact (List.getElem?_inj (List.getElem?_eq_some_iff.mp hq).1 z_cells_nd).mp (hq.trans hk.symm)
theorem z_up_ne {w : zW} {c : Nat} {i s v : Int} {c' : Nat} {i' : Int} (h : ¬ (c' = c ∧ i' = i)) (s' : Int) : z_up w c i s v c' i' s' = w c' i' s' := by
  unfold z_up
  rw [if_neg]
  rintro ⟨a, b, d⟩
  exact h ⟨a, d⟩
theorem z_can_up {w : zW} {c : Nat} {i s v : Int} (h : z_can w) (hv : z_rng c s v) : z_can (z_up w c i s v) := by
  intro c' i' s'
  unfold z_up
  split
  · next e => obtain ⟨rfl, rfl, rfl⟩ := e; exact hv
  · exact h c' i' s'
theorem z_up_at (w : zW) (c : Nat) (i s v s' : Int) : z_up w c i s v c i s' = if s' = s then v else w c i s' := by
  unfold z_up
  by_cases h : s' = s
  · rw [if_pos h, if_pos ⟨rfl, h, rfl⟩]
  · rw [if_neg h, if_neg (fun e => h e.2.1)]
/-- an object's class, as the tables have it -/
def z_OB (c : Nat) (C : String) (T : u_T) (N : Nat) (ty : Nat → FieldType) : Prop :=
  zCl[z_oc c]? = some (C, T, N) ∧ z_kd c = 0 ∧ z_nf c = N ∧ (∀ w ∈ u_ws C T N, w ∈ zTB) ∧ (∀ k, k < N → parseFieldDescriptor (T k).2.2.1 = some (ty k)) ∧ (∀ a, a < N → ∀ b, b < N → a ≠ b → (T a).2.1 ≠ (T b).2.1)
theorem z_ent_o {E : zE} {c : Nat} {i : Int} {w : zW} {C : String} {T : u_T} {N : Nat} {ty : Nat → FieldType} (ob : z_OB c C T N ty) : z_ent E c i w = .inr (z_oc c, (List.range N).map (z_fv E w c i)) := by
  unfold z_ent
  rw [if_pos ob.2.1, ob.2.2.1]
section IMP
variable {E : zE} {A : Nat → Prop} {XH : State → Heap → Prop} {l : Launch} {cc : ByteArray} {own : String} {nL : Nat} {rt : Option FieldType} {bp : Nat → Nat} {pc : Nat} {as : List zA}
/-- a field is read -/
theorem mv_get {c f index : Nat} {i : Int} {C : String} {T : u_T} {N : Nat} {ty : Nat → FieldType} {ls : zL} {st : zS} {w : zW} {v : zV} (ob : z_OB c C T N ty) (hv : z_okr c i) (hf : f < N) (hT : (T f).1 = C) (hw : Cond.fieldLink own index C (T f).2.1 (T f).2.2.1 ∈ zTB) (hd : decode cc pc = .ok (.getfield index, 3)) (he : z_fv E w c i f = z_cv E v) :
    z_Mv E A XH l cc own nL rt pc (pc + 3) ls (vR c i :: st) w ls (v :: st) w := by
  intro d r p e R s m args below meth cd cells slots Q cx H locs lv hR hS hL k
  obtain ⟨q, hq⟩ := z_W_ix (c := c) (i := i) ⟨hv, by rw [ob.2.1]; decide⟩
  have h1 : (z_W E w)[q]? = some (E.2.2 c i, .inr (z_oc c, (List.range N).map (z_fv E w c i))) := by rw [z_W_get hq, z_ent_o ob]
  refine va_get cx.1 cx.2.1 cx.2.2.2.2.1 ob.2.2.2.1 cx.2.2.2.1 cx.2.2.2.2.2.1 hR.P q h1 ob.1 f hf (ref := C) (cx.2.2.2.2.1 _ hw) (fun x hx => by rw [hT] at hx; exact hx) (v := z_fv E w c i f) (by rw [List.getElem?_map, List.getElem?_range hf]; rfl) hd ?_
  rw [he]
  exact k H locs lv hR hS hL
theorem im_gI {c fn index : Nat} {f : Int} {C : String} {T : u_T} {N : Nat} {ty : Nat → FieldType} (ob : z_OB c C T N ty) (hf : fn < N) (hfi : f = (fn : Int)) (hk : (z_fk c fn).1 = 0 ∨ (z_fk c fn).1 = 1) (hT : (T fn).1 = C) (hw : Cond.fieldLink own index C (T fn).2.1 (T fn).2.2.1 ∈ zTB) (hd : decode cc pc = .ok (.getfield index, 3)) (h : z_Imp E A XH l cc own nL rt bp (pc + 3) as) : z_Imp E A XH l cc own nL rt bp pc (a_gI c f :: as) := by
  subst hfi
  intro d C G r hC hG ls st w hb okl oks p' e R s m args below meth cd cells slots Q cx H locs lv hR hS hL
  have hb' := hb
  unfold z_blk a_gI at hb
  split at hb
  · next c' i st1 =>
    obtain ⟨hq, hb2⟩ := z_bt hb
    clear hb
    have hb := hb2
    clear hb2
    obtain rfl := Nat.eq_of_beq_eq_true hq
    have hz : inI (w c' i (fn : Int)) := by
      have := hR.2 c' i (fn : Int)
      unfold z_rng at this
      rw [if_pos ob.2.1, Int.toNat_natCast] at this
      rcases hk with hk | hk
      · rw [if_pos hk] at this; exact this
      · rw [if_neg (by rw [hk]; decide), if_pos hk] at this
        exact ⟨by omega, by omega⟩
    refine mv_get (ls := ls) (st := st1) (v := vI (w c' i (fn : Int))) ob oks.h hf hT hw hd (by unfold z_fv z_fvk; rw [if_pos hk]; rfl) d r p' e R s m args below meth cd cells slots Q cx H locs lv hR hS hL (fun H1 locs1 lv1 hR1 hS1 hL1 => ?_)
    exact h d _ G r hC hG _ _ _ hb okl (oks.t.c hz) p' e R s m args below meth cd cells slots Q cx H1 locs1 lv1 hR1 hS1 hL1
  · cases hb
theorem im_gL {c fn index : Nat} {f : Int} {C : String} {T : u_T} {N : Nat} {ty : Nat → FieldType} (ob : z_OB c C T N ty) (hf : fn < N) (hfi : f = (fn : Int)) (hk : (z_fk c fn).1 = 2) (hT : (T fn).1 = C) (hw : Cond.fieldLink own index C (T fn).2.1 (T fn).2.2.1 ∈ zTB) (hd : decode cc pc = .ok (.getfield index, 3)) (h : z_Imp E A XH l cc own nL rt bp (pc + 3) as) : z_Imp E A XH l cc own nL rt bp pc (a_gL c f :: as) := by
  subst hfi
  intro d C G r hC hG ls st w hb okl oks p' e R s m args below meth cd cells slots Q cx H locs lv hR hS hL
  unfold z_blk a_gL at hb
  split at hb
  · next c' i st1 =>
    obtain ⟨hq, hb2⟩ := z_bt hb
    clear hb
    have hb := hb2
    clear hb2
    obtain rfl := Nat.eq_of_beq_eq_true hq
    have hz : inL (w c' i (fn : Int)) := by
      have := hR.2 c' i (fn : Int)
      unfold z_rng at this
      rw [if_pos ob.2.1, Int.toNat_natCast, if_neg (by rw [hk]; decide), if_neg (by rw [hk]; decide), if_pos hk] at this
      exact this
    refine mv_get (ls := ls) (st := st1) (v := vL (w c' i (fn : Int))) ob oks.h hf hT hw hd (by unfold z_fv z_fvk; rw [if_neg (by rw [hk]; decide), if_pos hk]; rfl) d r p' e R s m args below meth cd cells slots Q cx H locs lv hR hS hL (fun H1 locs1 lv1 hR1 hS1 hL1 => ?_)
    exact h d _ G r hC hG _ _ _ hb okl (oks.t.c hz) p' e R s m args below meth cd cells slots Q cx H1 locs1 lv1 hR1 hS1 hL1
  · cases hb
theorem im_gS {c fn index c2 : Nat} {C : String} {T : u_T} {N : Nat} {ty : Nat → FieldType} (ob : z_OB c C T N ty) (hf : fn < N) (hk : z_fk c fn = (3, c2, 0)) (hn : z_nin c ≤ z_nin c2) (hT : (T fn).1 = C) (hw : Cond.fieldLink own index C (T fn).2.1 (T fn).2.2.1 ∈ zTB) (hd : decode cc pc = .ok (.getfield index, 3)) (h : z_Imp E A XH l cc own nL rt bp (pc + 3) as) : z_Imp E A XH l cc own nL rt bp pc (a_gS c c2 :: as) := by
  refine im_mv h fun C G k ls st w r hb okl oks => ?_
  unfold a_gS at hb
  split at hb
  · next c' i st1 =>
    obtain ⟨hq, hb2⟩ := z_bt hb
    clear hb
    have hb := hb2
    clear hb2
    obtain rfl := Nat.eq_of_beq_eq_true hq
    have ho : z_okr c' i := oks.h
    exact ⟨ls, _, w, hb, okl, oks.t.c (show z_okr c2 i from ⟨ho.1, Int.lt_of_lt_of_le ho.2 hn⟩), mv_get (v := vR c2 i) ob oks.h hf hT hw hd (by unfold z_fv; rw [hk]; rfl)⟩
  · cases hb
theorem im_gK {c fn index c2 : Nat} {x : Int} {C : String} {T : u_T} {N : Nat} {ty : Nat → FieldType} (ob : z_OB c C T N ty) (hf : fn < N) (hk : z_fk c fn = (4, c2, x)) (hn : 0 ≤ x ∧ x < z_nin c2) (hT : (T fn).1 = C) (hw : Cond.fieldLink own index C (T fn).2.1 (T fn).2.2.1 ∈ zTB) (hd : decode cc pc = .ok (.getfield index, 3)) (h : z_Imp E A XH l cc own nL rt bp (pc + 3) as) : z_Imp E A XH l cc own nL rt bp pc (a_gK c c2 x :: as) := by
  refine im_mv h fun C G k ls st w r hb okl oks => ?_
  unfold a_gK at hb
  split at hb
  · next c' i st1 =>
    obtain ⟨hq, hb2⟩ := z_bt hb
    clear hb
    have hb := hb2
    clear hb2
    obtain rfl := Nat.eq_of_beq_eq_true hq
    exact ⟨ls, _, w, hb, okl, oks.t.c (show z_okr c2 x from hn), mv_get (v := vR c2 x) ob oks.h hf hT hw hd (by unfold z_fv; rw [hk]; rfl)⟩
  · cases hb
theorem im_gD {c fn index c2 : Nat} {f : Int} {C : String} {T : u_T} {N : Nat} {ty : Nat → FieldType} (ob : z_OB c C T N ty) (hf : fn < N) (hfi : f = (fn : Int)) (hk : z_fk c fn = (5, c2, 0)) (hT : (T fn).1 = C) (hw : Cond.fieldLink own index C (T fn).2.1 (T fn).2.2.1 ∈ zTB) (hd : decode cc pc = .ok (.getfield index, 3)) (h : z_Imp E A XH l cc own nL rt bp (pc + 3) as) : z_Imp E A XH l cc own nL rt bp pc (a_gD c f c2 :: as) := by
  subst hfi
  intro d C G r hC hG ls st w hb okl oks p' e R s m args below meth cd cells slots Q cx H locs lv hR hS hL
  unfold z_blk a_gD at hb
  split at hb
  · next c' i st1 =>
    obtain ⟨hq, hb2⟩ := z_bt hb
    clear hb
    have hb := hb2
    clear hb2
    obtain rfl := Nat.eq_of_beq_eq_true hq
    have hz : z_okr c2 (w c' i (fn : Int)) := by
      have := hR.2 c' i (fn : Int)
      unfold z_rng at this
      rw [if_pos ob.2.1, Int.toNat_natCast, hk] at this
      exact this
    refine mv_get (ls := ls) (st := st1) (v := vR c2 (w c' i (fn : Int))) ob oks.h hf hT hw hd (by unfold z_fv; rw [hk]; rfl) d r p' e R s m args below meth cd cells slots Q cx H locs lv hR hS hL (fun H1 locs1 lv1 hR1 hS1 hL1 => ?_)
    exact h d _ G r hC hG _ _ _ hb okl (oks.t.c hz) p' e R s m args below meth cd cells slots Q cx H1 locs1 lv1 hR1 hS1 hL1
  · cases hb
/-- a field is written -/
theorem mv_put {c f index : Nat} {i z : Int} {C : String} {T : u_T} {N : Nat} {ty : Nat → FieldType} {ls : zL} {st : zS} {w : zW} {v : zV} (hA : z_Ad1 E A) (ob : z_OB c C T N ty) (hv : z_okr c i) (hf : f < N) (hT : (T f).1 = C) (hfin : (T f).2.2.2 = false) (hw : Cond.fieldLink own index C (T f).2.1 (T f).2.2.1 ∈ zTB) (hd : decode cc pc = .ok (.putfield index, 3)) (hz : z_rng c (f : Int) z) (he : z_fvk E (z_fk c f) i z = z_cv E v) (hn : narrow (ty f) (z_cv E v) = z_cv E v) (hfit : fits (ty f) (z_cv E v) = true) :
    z_Mv E A XH l cc own nL rt pc (pc + 3) ls (v :: vR c i :: st) w ls st (z_up w c i (f : Int) z) := by
  intro d r p e R s m args below meth cd cells slots Q cx H locs lv hR hS hL k
  obtain ⟨q, hq⟩ := z_W_ix (c := c) (i := i) ⟨hv, by rw [ob.2.1]; decide⟩
  have h1 : (z_W E w)[q]? = some (E.2.2 c i, .inr (z_oc c, (List.range N).map (z_fv E w c i))) := by rw [z_W_get hq, z_ent_o ob]
  refine va_put cx.1 cx.2.1 cx.2.2.2.2.1 ob.2.2.2.1 ty ob.2.2.2.2.1 ob.2.2.2.2.2 cx.2.2.2.1 cx.2.2.2.2.2.1 hR.P (hA.D w) hS q h1 ob.1 f hf (ref := C) (cx.2.2.2.2.1 _ hw) (fun x hx => by rw [hT] at hx; exact hx) hfin (v := z_cv E v) (ob.2.2.2.2.1 f hf) hn hfit (by simp [hf]) hd fun H1 locs1 hP1 hD1 hS1 => ?_
  have hset : (z_W E w).set q (E.2.2 c i, .inr (z_oc c, ((List.range N).map (z_fv E w c i)).set f (z_cv E v))) = z_W E (z_up w c i (f : Int) z) := by
    refine z_W_set hq ?_ (fun c' i' hne s' => z_up_ne hne s')
    rw [z_ent_o ob]
    congr 2
    apply List.ext_getElem?
    intro j
    rw [List.getElem?_map]
    by_cases hj : j = f
    · subst hj
      rw [List.getElem?_range hf, List.getElem?_set_self (by simp [hf])]
      show some (z_fv E (z_up w c i (j : Int) z) c i j) = _
      unfold z_fv
      rw [z_up_at, if_pos rfl, he]
    · rw [List.getElem?_set_ne (fun e => hj e.symm), List.getElem?_map]
      cases hr : (List.range N)[j]? with
      | none => rfl
      | some j' =>
        have : j' = j := by
          obtain ⟨h2, h3⟩ := List.getElem?_eq_some_iff.mp hr
          rw [List.getElem_range] at h3
          exact h3.symm
        subst this
        show some (z_fv E (z_up w c i (f : Int) z) c i j') = some (z_fv E w c i j')
        unfold z_fv
        rw [z_up_at, if_neg (by omega)]
  rw [hset] at hP1
  exact k H1 locs1 lv (z_Rel.of hP1 (z_can_up hR.2 hz)) hS1 hL
theorem im_pI {c fn index : Nat} {f : Int} {C : String} {T : u_T} {N : Nat} {ty : Nat → FieldType} (hA : z_Ad1 E A) (ob : z_OB c C T N ty) (hf : fn < N) (hfi : f = (fn : Int)) (hk : (z_fk c fn).1 = 0) (hty : ty fn = .int) (hT : (T fn).1 = C) (hfin : (T fn).2.2.2 = false) (hw : Cond.fieldLink own index C (T fn).2.1 (T fn).2.2.1 ∈ zTB) (hd : decode cc pc = .ok (.putfield index, 3)) (h : z_Imp E A XH l cc own nL rt bp (pc + 3) as) : z_Imp E A XH l cc own nL rt bp pc (a_pI c f :: as) := by
  subst hfi
  refine im_mv h fun C G k ls st w r hb okl oks => ?_
  unfold a_pI at hb
  split at hb
  · next z c' i st1 =>
    obtain ⟨hq, hb2⟩ := z_bt hb
    clear hb
    have hb := hb2
    clear hb2
    obtain rfl := Nat.eq_of_beq_eq_true hq
    exact ⟨ls, _, _, hb, okl, oks.t.t, mv_put (v := vI z) hA ob oks.t.h hf hT hfin hw hd (by unfold z_rng; rw [if_pos ob.2.1, Int.toNat_natCast, if_pos hk]; exact oks.h) (by unfold z_fvk; rw [if_pos (Or.inl hk)]; rfl) (by rw [hty]; rfl) (by rw [hty]; rfl)⟩
  · cases hb
theorem im_pZ {c fn index : Nat} {f : Int} {C : String} {T : u_T} {N : Nat} {ty : Nat → FieldType} (hA : z_Ad1 E A) (ob : z_OB c C T N ty) (hf : fn < N) (hfi : f = (fn : Int)) (hk : (z_fk c fn).1 = 1) (hty : ty fn = .boolean) (hT : (T fn).1 = C) (hfin : (T fn).2.2.2 = false) (hw : Cond.fieldLink own index C (T fn).2.1 (T fn).2.2.1 ∈ zTB) (hd : decode cc pc = .ok (.putfield index, 3)) (h : z_Imp E A XH l cc own nL rt bp (pc + 3) as) : z_Imp E A XH l cc own nL rt bp pc (a_pZ c f :: as) := by
  subst hfi
  refine im_mv h fun C G k ls st w r hb okl oks => ?_
  unfold a_pZ at hb
  split at hb
  · next z c' i st1 =>
    obtain ⟨hq, hb2⟩ := z_bt hb
    clear hb
    have hb := hb2
    clear hb2
    obtain ⟨hp, hb⟩ := gd_some.mp hb
    obtain rfl := Nat.eq_of_beq_eq_true hq
    have hz : z = 0 ∨ z = 1 := by omega
    refine ⟨ls, _, _, hb, okl, oks.t.t, mv_put (v := vI z) hA ob oks.t.h hf hT hfin hw hd (by unfold z_rng; rw [if_pos ob.2.1, Int.toNat_natCast, if_neg (by rw [hk]; decide), if_pos hk]; exact hp) (by unfold z_fvk; rw [if_pos (Or.inr hk)]; rfl) ?_ ?_⟩
    · rw [hty]; rcases hz with rfl | rfl <;> rfl
    · rw [hty]; rcases hz with rfl | rfl <;> rfl
  · cases hb
theorem im_pL {c fn index : Nat} {f : Int} {C : String} {T : u_T} {N : Nat} {ty : Nat → FieldType} (hA : z_Ad1 E A) (ob : z_OB c C T N ty) (hf : fn < N) (hfi : f = (fn : Int)) (hk : (z_fk c fn).1 = 2) (hty : ty fn = .long) (hT : (T fn).1 = C) (hfin : (T fn).2.2.2 = false) (hw : Cond.fieldLink own index C (T fn).2.1 (T fn).2.2.1 ∈ zTB) (hd : decode cc pc = .ok (.putfield index, 3)) (h : z_Imp E A XH l cc own nL rt bp (pc + 3) as) : z_Imp E A XH l cc own nL rt bp pc (a_pL c f :: as) := by
  subst hfi
  refine im_mv h fun C G k ls st w r hb okl oks => ?_
  unfold a_pL at hb
  split at hb
  · next z c' i st1 =>
    obtain ⟨hq, hb2⟩ := z_bt hb
    clear hb
    have hb := hb2
    clear hb2
    obtain rfl := Nat.eq_of_beq_eq_true hq
    exact ⟨ls, _, _, hb, okl, oks.t.t, mv_put (v := vL z) hA ob oks.t.h hf hT hfin hw hd (by unfold z_rng; rw [if_pos ob.2.1, Int.toNat_natCast, if_neg (by rw [hk]; decide), if_neg (by rw [hk]; decide), if_pos hk]; exact oks.h) (by unfold z_fvk; rw [if_neg (by rw [hk]; decide), if_pos hk]; rfl) (by rw [hty]; rfl) (by rw [hty]; rfl)⟩
  · cases hb
theorem im_pD {c fn index c2 : Nat} {f : Int} {C C2 : String} {T : u_T} {N : Nat} {ty : Nat → FieldType} (hA : z_Ad1 E A) (ob : z_OB c C T N ty) (hf : fn < N) (hfi : f = (fn : Int)) (hk : z_fk c fn = (5, c2, 0)) (hty : ty fn = .object C2) (hT : (T fn).1 = C) (hfin : (T fn).2.2.2 = false) (hw : Cond.fieldLink own index C (T fn).2.1 (T fn).2.2.1 ∈ zTB) (hd : decode cc pc = .ok (.putfield index, 3)) (h : z_Imp E A XH l cc own nL rt bp (pc + 3) as) : z_Imp E A XH l cc own nL rt bp pc (a_pD c f c2 :: as) := by
  subst hfi
  refine im_mv h fun C G k ls st w r hb okl oks => ?_
  unfold a_pD at hb
  split at hb
  · next c3 z c' i st1 =>
    obtain ⟨hq, hb2⟩ := z_bt hb
    clear hb
    have hb := hb2
    clear hb2
    rw [Bool.and_eq_true] at hq
    obtain rfl := Nat.eq_of_beq_eq_true hq.1
    obtain rfl := Nat.eq_of_beq_eq_true hq.2
    exact ⟨ls, _, _, hb, okl, oks.t.t, mv_put (v := vR c3 z) hA ob oks.t.h hf hT hfin hw hd (by unfold z_rng; rw [if_pos ob.2.1, Int.toNat_natCast, hk]; exact oks.h) (by unfold z_fvk; rw [hk]; rfl) (by rw [hty]; rfl) (by rw [hty]; rfl)⟩
  · cases hb
end IMP
