/-! THE MACHINE BY THE ABSTRACT MACHINE -/
/-- the tables' words that every method takes with it -/
def zTB : List Cond := lw_tbl.filter goodWord
theorem zTB_in {w : Cond} (h : w ∈ lw_tbl) (hg : goodWord w = true) : w ∈ zTB := List.mem_filter.mpr ⟨h, hg⟩
theorem zTB_good : ∀ w ∈ zTB, goodWord w = true := fun _ h => (List.mem_filter.mp h).2
abbrev zCl : List vw_C := vwCl
abbrev zE : Type := va_G × (Nat → ClassId) × (Nat → Int → Nat)
def z_okr (c : Nat) (i : Int) : Prop := 0 ≤ i ∧ i < z_nin c
def z_val (c : Nat) (i : Int) : Prop := z_okr c i ∧ z_kd c < 6
def z_okv : zV → Prop
  | Sum.inl z => inI z
  | Sum.inr (Sum.inl z) => inL z
  | Sum.inr (Sum.inr (c, i)) => z_okr c i
def z_cv (E : zE) : zV → Value
  | Sum.inl z => .int (Int32.ofInt z)
  | Sum.inr (Sum.inl z) => .long (Int64.ofInt z)
  | Sum.inr (Sum.inr (c, i)) => .ref (E.2.2 c i)
def z_fvk (E : zE) (q : Nat × Nat × Int) (i v : Int) : Value :=
  if q.1 = 0 ∨ q.1 = 1 then .int (Int32.ofInt v) else if q.1 = 2 then .long (Int64.ofInt v) else if q.1 = 3 then .ref (E.2.2 q.2.1 i) else if q.1 = 4 then .ref (E.2.2 q.2.1 q.2.2) else .ref (E.2.2 q.2.1 v)
def z_fv (E : zE) (w : zW) (c : Nat) (i : Int) (f : Nat) : Value := z_fvk E (z_fk c f) i (w c i f)
def z_ent (E : zE) (c : Nat) (i : Int) (w : zW) : va_E :=
  if z_kd c = 0 then .inr (z_oc c, (List.range (z_nf c)).map (z_fv E w c i))
  else if z_kd c = 4 then .inl (E.2.1 (z_ak c), ((z_ln c).toNat, .inr (.inl fun j => Int64.ofInt (w c i j))))
  else if z_kd c = 5 then .inl (E.2.1 (z_ak c), ((z_ln c).toNat, .inr (.inr (.inr (.inr fun j => some (E.2.2 (z_ra c).1 ((z_ra c).2 + j)))))))
  else .inl (E.2.1 (z_ak c), ((z_ln c).toNat, .inl fun j => Int32.ofInt (w c i j)))
/-- what a place may hold -/
def z_rng (c : Nat) (s v : Int) : Prop :=
  if z_kd c = 0 then (if (z_fk c s.toNat).1 = 0 then inI v else if (z_fk c s.toNat).1 = 1 then 0 ≤ v ∧ v ≤ 1 else if (z_fk c s.toNat).1 = 2 then inL v else if (z_fk c s.toNat).1 = 5 then z_okr (z_fk c s.toNat).2.1 v else True)
  else if z_kd c = 1 then inI v else if z_kd c = 2 then -128 ≤ v ∧ v ≤ 127 else if z_kd c = 3 then 0 ≤ v ∧ v ≤ 1 else if z_kd c = 4 then inL v else True
def z_can (w : zW) : Prop := ∀ c i s, z_rng c s (w c i s)
def z_Rel (E : zE) (w : zW) (H : Heap) : Prop := (∀ c i, z_val c i → va_at E.1 zCl (E.2.2 c i, z_ent E c i w) H) ∧ z_can w
def z_tys (E : zE) : List (ClassId × FieldType) := [(E.2.1 0, .int), (E.2.1 1, .byte), (E.2.1 2, .boolean), (E.2.1 3, .long), (E.2.1 4, .object "DarkWood$Wood"), (E.2.1 5, .object "DarkWood$Law"), (E.2.1 6, .object "DarkWood$Clauses"), (E.2.1 7, .object "DarkWood$State"), (E.2.1 8, .object "DarkWood$Odds")]
/-- addresses: apart, and the method may write there -/
def z_Ad1 (E : zE) (A : Nat → Prop) : Prop := (∀ c i c' i', z_val c i → z_val c' i' → E.2.2 c i = E.2.2 c' i' → c = c' ∧ i = i') ∧ ∀ c i, z_val c i → A (E.2.2 c i)
/-- locals -/
def z_LS (E : zE) (nL : Nat) (ls : zL) (lv : Array Slot) : Prop := lv.size = nL ∧ lv_wf lv ∧ ∀ k v, z_get ls k = some v → lv[k]? = some (.val (z_cv E v))
def z_okL (ls : zL) : Prop := ∀ k v, z_get ls k = some v → z_okv v
def z_okS (st : zS) : Prop := ∀ v ∈ st, z_okv v
def z_prs (E : zE) (nL : Nat) (ls : zL) : List (Nat × Value) := (List.range nL).filterMap fun k => (z_get ls k).map fun v => (k, z_cv E v)
theorem z_prs_mem {E : zE} {nL : Nat} {ls : zL} {k : Nat} {x : Value} : (k, x) ∈ z_prs E nL ls ↔ k < nL ∧ ∃ v, z_get ls k = some v ∧ x = z_cv E v := by
  unfold z_prs
  rw [List.mem_filterMap]
  constructor
  · rintro ⟨a, ha, h⟩
    cases hv : z_get ls a with
    | none => rw [hv] at h; cases h
    | some v =>
      rw [hv] at h
      simp only [Option.map_some, Option.some.injEq, Prod.mk.injEq] at h
      obtain ⟨rfl, rfl⟩ := h
      exact ⟨List.mem_range.mp ha, v, hv, rfl⟩
  · rintro ⟨h1, v, h2, rfl⟩
    exact ⟨k, List.mem_range.mpr h1, by rw [h2]; rfl⟩
theorem z_LS.has {E : zE} {nL : Nat} {ls : zL} {lv : Array Slot} (h : z_LS E nL ls lv) : lv_has lv nL (z_prs E nL ls) := by
  refine ⟨h.1, h.2.1, fun q hq => ?_⟩
  obtain ⟨k, x⟩ := q
  obtain ⟨-, v, h2, rfl⟩ := z_prs_mem.mp hq
  exact h.2.2 k v h2
theorem z_get_nil (k : Nat) : z_get [] k = none := rfl
theorem z_get_st1 {v u : zV} : ∀ {ls : zL} {n k : Nat}, z_get (z_st1 ls n v) k = some u → (k = n ∧ u = v) ∨ (k ≠ n ∧ z_get ls k = some u ∧ ¬ (k + 1 = n ∧ (z_unl (some u)) = none))
  | [], 0, 0, h => by
    simp only [z_st1, z_get, Option.some.injEq] at h
    exact Or.inl ⟨rfl, h.symm⟩
  | [], 0, k + 1, h => by simp [z_st1, z_get] at h
  | [], n + 1, 0, h => by simp [z_st1, z_get] at h
  | [], n + 1, k + 1, h => by
    have h' : z_get (z_st1 [] n v) k = some u := h
    rcases z_get_st1 h' with ⟨a, b⟩ | ⟨a, b, c⟩
    · exact Or.inl ⟨by omega, b⟩
    · simp [z_get] at b
  | x :: l, 0, 0, h => by
    simp only [z_st1, z_get, Option.some.injEq] at h
    exact Or.inl ⟨rfl, h.symm⟩
  | x :: l, 0, k + 1, h => by
    refine Or.inr ⟨by omega, ?_, by omega⟩
    simpa [z_st1, z_get] using h
  | x :: l, 1, 0, h => by
    have h' : z_unl x = some u := h
    refine Or.inr ⟨by omega, ?_, ?_⟩
    · show x = some u
      cases x with
      | none => cases h'
      | some y => rcases y with y | y | y <;> first | exact h' | cases h'
    · rintro ⟨-, q⟩
      cases x with
      | none => cases h'
      | some y =>
        rcases y with y | y | y
        · cases h'; cases q
        · cases h'
        · cases h'; cases q
  | x :: l, 1, k + 1, h => by
    have h' : z_get (z_st1 l 0 v) k = some u := h
    rcases z_get_st1 h' with ⟨a, b⟩ | ⟨a, b, c⟩
    · exact Or.inl ⟨by omega, b⟩
    · exact Or.inr ⟨by omega, b, by rintro ⟨q1, q2⟩; omega⟩
  | x :: l, n + 2, 0, h => by
    refine Or.inr ⟨by omega, h, by rintro ⟨q1, q2⟩; omega⟩
  | x :: l, n + 2, k + 1, h => by
    have h' : z_get (z_st1 l (n + 1) v) k = some u := h
    rcases z_get_st1 h' with ⟨a, b⟩ | ⟨a, b, c⟩
    · exact Or.inl ⟨by omega, b⟩
    · exact Or.inr ⟨by omega, b, by rintro ⟨q1, q2⟩; exact c ⟨by omega, q2⟩⟩
theorem z_get_tl {l : zL} {k : Nat} {u : zV} (h : z_get (z_tl l) k = some u) : k ≠ 0 ∧ z_get l k = some u := by
  cases l with
  | nil => simp [z_tl, z_get] at h
  | cons x l =>
    cases k with
    | zero => simp [z_tl, z_get] at h
    | succ k => exact ⟨by omega, h⟩
theorem z_get_st2 {v u : zV} : ∀ {ls : zL} {n k : Nat}, z_get (z_st2 ls n v) k = some u → (k = n ∧ u = v) ∨ (k ≠ n ∧ k ≠ n + 1 ∧ z_get ls k = some u ∧ ¬ (k + 1 = n ∧ (z_unl (some u)) = none))
  | [], 0, 0, h => by
    simp only [z_st2, z_get, Option.some.injEq] at h
    exact Or.inl ⟨rfl, h.symm⟩
  | [], 0, k + 1, h => by simp [z_st2, z_get] at h
  | [], n + 1, 0, h => by simp [z_st2, z_get] at h
  | [], n + 1, k + 1, h => by
    have h' : z_get (z_st2 [] n v) k = some u := h
    rcases z_get_st2 h' with ⟨a, b⟩ | ⟨a, a2, b, c⟩
    · exact Or.inl ⟨by omega, b⟩
    · simp [z_get] at b
  | x :: l, 0, 0, h => by
    simp only [z_st2, z_get, Option.some.injEq] at h
    exact Or.inl ⟨rfl, h.symm⟩
  | x :: l, 0, k + 1, h => by
    have h' : z_get (z_tl l) k = some u := h
    obtain ⟨a, b⟩ := z_get_tl h'
    exact Or.inr ⟨by omega, by omega, b, by omega⟩
  | x :: l, 1, 0, h => by
    have h' : z_unl x = some u := h
    refine Or.inr ⟨by omega, by omega, ?_, ?_⟩
    · show x = some u
      cases x with
      | none => cases h'
      | some y => rcases y with y | y | y <;> first | exact h' | cases h'
    · rintro ⟨-, q⟩
      cases x with
      | none => cases h'
      | some y =>
        rcases y with y | y | y
        · cases h'; cases q
        · cases h'
        · cases h'; cases q
  | x :: l, 1, k + 1, h => by
    have h' : z_get (z_st2 l 0 v) k = some u := h
    rcases z_get_st2 h' with ⟨a, b⟩ | ⟨a, a2, b, c⟩
    · exact Or.inl ⟨by omega, b⟩
    · exact Or.inr ⟨by omega, by omega, b, by rintro ⟨q1, q2⟩; omega⟩
  | x :: l, n + 2, 0, h => by
    refine Or.inr ⟨by omega, by omega, h, by rintro ⟨q1, q2⟩; omega⟩
  | x :: l, n + 2, k + 1, h => by
    have h' : z_get (z_st2 l (n + 1) v) k = some u := h
    rcases z_get_st2 h' with ⟨a, b⟩ | ⟨a, a2, b, c⟩
    · exact Or.inl ⟨by omega, b⟩
    · exact Or.inr ⟨by omega, by omega, b, by rintro ⟨q1, q2⟩; exact c ⟨by omega, q2⟩⟩
theorem z_cat2 {E : zE} {u : zV} (h : (z_cv E u).category = 2) : z_unl (some u) = none := by
  rcases u with u | u | ⟨c, i⟩ <;> first | rfl | (simp [z_cv, Value.category] at h)
theorem z_LS.lt {E : zE} {nL : Nat} {ls : zL} {lv : Array Slot} (h : z_LS E nL ls lv) {k : Nat} {v : zV} (hk : z_get ls k = some v) : k < nL := by
  have := (Array.getElem?_eq_some_iff.mp (h.2.2 k v hk)).1
  rw [h.1] at this
  exact this
theorem z_LS.st1 {E : zE} {nL n : Nat} {ls : zL} {lv lv' : Array Slot} {v : zV} (h : z_LS E nL ls lv)
    (h2 : lv_has lv' nL ((n, z_cv E v) :: (z_prs E nL ls).filter (fun q => !(q.1 == n) && !(q.1 + 1 == n && q.2.category == 2)))) : z_LS E nL (z_st1 ls n v) lv' := by
  refine ⟨h2.1, h2.2.1, fun k u hk => ?_⟩
  rcases z_get_st1 hk with ⟨a, b⟩ | ⟨a, b, c⟩
  · subst a; subst b
    exact h2.2.2 _ List.mem_cons_self
  · refine h2.2.2 (k, z_cv E u) (List.mem_cons_of_mem _ (List.mem_filter.mpr ⟨z_prs_mem.mpr ⟨h.lt b, u, b, rfl⟩, ?_⟩))
    simp only [Bool.and_eq_true, Bool.not_eq_true', beq_eq_false_iff_ne, ne_eq, Bool.and_eq_false_imp, beq_iff_eq]
    exact ⟨a, fun q1 q2 => c ⟨q1, z_cat2 q2⟩⟩
theorem z_LS.st2 {E : zE} {nL n : Nat} {ls : zL} {lv lv' : Array Slot} {v : zV} (h : z_LS E nL ls lv)
    (h2 : lv_has lv' nL ((n, z_cv E v) :: (z_prs E nL ls).filter (fun q => !(q.1 == n) && (!(q.1 == n + 1) && !(q.1 + 1 == n && q.2.category == 2))))) : z_LS E nL (z_st2 ls n v) lv' := by
  refine ⟨h2.1, h2.2.1, fun k u hk => ?_⟩
  rcases z_get_st2 hk with ⟨a, b⟩ | ⟨a, a2, b, c⟩
  · subst a; subst b
    exact h2.2.2 _ List.mem_cons_self
  · refine h2.2.2 (k, z_cv E u) (List.mem_cons_of_mem _ (List.mem_filter.mpr ⟨z_prs_mem.mpr ⟨h.lt b, u, b, rfl⟩, ?_⟩))
    simp only [Bool.and_eq_true, Bool.not_eq_true', beq_eq_false_iff_ne, ne_eq, Bool.and_eq_false_imp, beq_iff_eq]
    exact ⟨a, a2, fun q1 q2 => c ⟨q1, z_cat2 q2⟩⟩
theorem z_okL.st1 {ls : zL} {n : Nat} {v : zV} (h : z_okL ls) (hv : z_okv v) : z_okL (z_st1 ls n v) := fun k u hk => by
  rcases z_get_st1 hk with ⟨a, b⟩ | ⟨a, b, c⟩
  · rw [b]; exact hv
  · exact h k u b
theorem z_okL.st2 {ls : zL} {n : Nat} {v : zV} (h : z_okL ls) (hv : z_okv v) : z_okL (z_st2 ls n v) := fun k u hk => by
  rcases z_get_st2 hk with ⟨a, b⟩ | ⟨a, a2, b, c⟩
  · rw [b]; exact hv
  · exact h k u b
theorem z_get_kp : ∀ {m : List Bool} {ls : zL} {k : Nat} {u : zV}, z_get (z_kp m ls) k = some u → z_get ls k = some u
  | [], ls, k, u, h => by simp [z_kp, z_get] at h
  | true :: m, x :: l, 0, u, h => h
  | true :: m, x :: l, k + 1, u, h => z_get_kp (m := m) (ls := l) (k := k) h
  | false :: m, x :: l, 0, u, h => by simp [z_kp, z_get] at h
  | false :: m, x :: l, k + 1, u, h => z_get_kp (m := m) (ls := l) (k := k) h
  | b :: m, [], 0, u, h => by cases b <;> simp [z_kp, z_get] at h
  | b :: m, [], k + 1, u, h => by
    have h' : z_get (z_kp m []) k = some u := by cases b <;> exact h
    have := z_get_kp (m := m) (ls := []) (k := k) h'
    simp [z_get] at this
theorem z_LS.kp {E : zE} {nL : Nat} {ls : zL} {lv : Array Slot} (h : z_LS E nL ls lv) (m : List Bool) : z_LS E nL (z_kp m ls) lv := ⟨h.1, h.2.1, fun k v hk => h.2.2 k v (z_get_kp hk)⟩
theorem z_okL.kp {ls : zL} (h : z_okL ls) (m : List Bool) : z_okL (z_kp m ls) := fun k v hk => h k v (z_get_kp hk)
theorem z_okS.t {v : zV} {st : zS} (h : z_okS (v :: st)) : z_okS st := fun u hu => h u (List.mem_cons_of_mem _ hu)
theorem z_okS.h {v : zV} {st : zS} (h : z_okS (v :: st)) : z_okv v := h v List.mem_cons_self
theorem z_okS.c {v : zV} {st : zS} (hv : z_okv v) (h : z_okS st) : z_okS (v :: st) := fun u hu => by
  rcases List.mem_cons.mp hu with e | e
  · rw [e]; exact hv
  · exact h u e
theorem z_sz_sum (E : zE) (st : zS) : ((st.map (z_cv E)).map fun v => v.category).sum = z_sz st := by
  induction st with
  | nil => rfl
  | cons v st ih =>
    rw [List.map_cons, List.map_cons, List.sum_cons, ih]
    rcases v with v | v | ⟨c, i⟩ <;> rfl
