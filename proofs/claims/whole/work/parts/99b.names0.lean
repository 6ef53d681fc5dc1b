/-! WHAT THE LAW'S START GIVES; written by wip/whole/gen_start.py -/
theorem st_prim {args : Array Value} {s : State} {ty : FieldType} (h : (Cond.arrayClass ty).before args s = true) : ∃ cA : ClassId, ArrOfT s cA ty ∧ s.vm.findClass ("[" ++ ty.toString) = some cA := by
  obtain ⟨c, k, comp, h1, h2, h3⟩ := Cond.arrayClass_spec h
  exact ⟨c, fun n z => ⟨(fun k h => by cases h), k, h2, comp, h3⟩, h1⟩
theorem st_obj {args : Array Value} {s : State} {C : String} (h : (Cond.arrayOver (.object C)).before args s = true) : ∃ cA : ClassId, ArrOfT s cA (.object C) ∧ va_RA s cA (.object C) := by
  obtain ⟨comp, c, k, h1, h2, h3, h4, h5⟩ := Cond.arrayOver_spec h
  exact ⟨c, fun n z => ⟨(fun k h => by cases h), k, h3, comp, h4⟩, k, comp, h3, h4, h1, h5⟩
theorem st_K {args : Array Value} {s : State} (hz : ∀ w ∈ zTB, w.before args s = true) (ht : ∀ w ∈ lw_tbl, w.before args s = true) : ∃ (G : va_G) (dA : Nat → ClassId), va_K G zCl (zk dA) s := by
  obtain ⟨c0, i0, k0⟩ := u_known (C := RX0) (T := TX0) (N := 7) hz ob_X0.2.2.2.1 (hz _ kn_X0_s)
  obtain ⟨c1, i1, k1⟩ := u_known (C := RX1) (T := TX1) (N := 5) hz ob_X1.2.2.2.1 (hz _ kn_X1_s)
  obtain ⟨c2, i2, k2⟩ := u_known (C := RX2) (T := TX2) (N := 10) hz ob_X2.2.2.2.1 (hz _ kn_X2_s)
  obtain ⟨c3, i3, k3⟩ := u_known (C := RX3) (T := TX3) (N := 4) hz ob_X3.2.2.2.1 (hz _ kn_X3_s)
  obtain ⟨c4, i4, k4⟩ := u_known (C := RX4) (T := TX4) (N := 9) hz ob_X4.2.2.2.1 (hz _ kn_X4_s)
  obtain ⟨c5, i5, k5⟩ := u_known (C := RX5) (T := TX5) (N := 3) hz ob_X5.2.2.2.1 (hz _ kn_X5_s)
  obtain ⟨c6, i6, k6⟩ := u_known (C := RX6) (T := TX6) (N := 7) hz ob_X6.2.2.2.1 (hz _ kn_X6_s)
  obtain ⟨c7, i7, k7⟩ := u_known (C := RX7) (T := TX7) (N := 11) hz ob_X7.2.2.2.1 (hz _ kn_X7_s)
  obtain ⟨c8, i8, k8⟩ := u_known (C := RX8) (T := TX8) (N := 15) hz ob_X8.2.2.2.1 (hz _ kn_X8_s)
  obtain ⟨c9, i9, k9⟩ := u_known (C := RX9) (T := TX9) (N := 15) hz ob_X9.2.2.2.1 (hz _ kn_X9_s)
  obtain ⟨c10, i10, k10⟩ := u_known (C := RX10) (T := TX10) (N := 57) hz ob_X10.2.2.2.1 (hz _ kn_X10_s)
  obtain ⟨a0, p0, r0⟩ := st_prim (hz _ k_A0)
  obtain ⟨a1, p1, r1⟩ := st_prim (hz _ k_A1)
  obtain ⟨a2, p2, r2⟩ := st_prim (hz _ k_A2)
  obtain ⟨a3, p3, r3⟩ := st_prim (hz _ k_A3)
  obtain ⟨a4, p4, r4⟩ := st_obj (C := "DarkWood$Wood") (ht _ (List.mem_of_getElem? (i := 205) (by decide +kernel)))
  obtain ⟨a5, p5, r5⟩ := st_obj (C := "DarkWood$Law") (ht _ (List.mem_of_getElem? (i := 207) (by decide +kernel)))
  obtain ⟨a6, p6, r6⟩ := st_obj (C := "DarkWood$Clauses") (ht _ (List.mem_of_getElem? (i := 209) (by decide +kernel)))
  obtain ⟨a7, p7, r7⟩ := st_obj (C := "DarkWood$State") (ht _ (List.mem_of_getElem? (i := 285) (by decide +kernel)))
  obtain ⟨a8, p8, r8⟩ := st_obj (C := "DarkWood$Odds") (ht _ (List.mem_of_getElem? (i := 295) (by decide +kernel)))
  refine ⟨(fun k => if k = 0 then c0 else if k = 1 then c1 else if k = 2 then c2 else if k = 3 then c3 else if k = 4 then c4 else if k = 5 then c5 else if k = 6 then c6 else if k = 7 then c7 else if k = 8 then c8 else if k = 9 then c9 else c10, fun k => if k = 0 then i0 else if k = 1 then i1 else if k = 2 then i2 else if k = 3 then i3 else if k = 4 then i4 else if k = 5 then i5 else if k = 6 then i6 else if k = 7 then i7 else if k = 8 then i8 else if k = 9 then i9 else i10), fun k => if k = 0 then a0 else if k = 1 then a1 else if k = 2 then a2 else if k = 3 then a3 else if k = 4 then a4 else if k = 5 then a5 else if k = 6 then a6 else if k = 7 then a7 else a8, fun c q hq => ?_, fun k q hk => ?_⟩
  · have hc : c < 11 := (List.getElem?_eq_some_iff.mp hq).1
    rcases (show c = 0 ∨ c = 1 ∨ c = 2 ∨ c = 3 ∨ c = 4 ∨ c = 5 ∨ c = 6 ∨ c = 7 ∨ c = 8 ∨ c = 9 ∨ c = 10 by omega) with rfl | rfl | rfl | rfl | rfl | rfl | rfl | rfl | rfl | rfl | rfl
    · cases hq; exact k0
    · cases hq; exact k1
    · cases hq; exact k2
    · cases hq; exact k3
    · cases hq; exact k4
    · cases hq; exact k5
    · cases hq; exact k6
    · cases hq; exact k7
    · cases hq; exact k8
    · cases hq; exact k9
    · cases hq; exact k10
  · have hc : k < 9 := (List.getElem?_eq_some_iff.mp hk).1
    rcases (show k = 0 ∨ k = 1 ∨ k = 2 ∨ k = 3 ∨ k = 4 ∨ k = 5 ∨ k = 6 ∨ k = 7 ∨ k = 8 by omega) with rfl | rfl | rfl | rfl | rfl | rfl | rfl | rfl | rfl
    · cases hk; exact ⟨p0, r0⟩
    · cases hk; exact ⟨p1, r1⟩
    · cases hk; exact ⟨p2, r2⟩
    · cases hk; exact ⟨p3, r3⟩
    · cases hk; exact ⟨p4, r4⟩
    · cases hk; exact ⟨p5, r5⟩
    · cases hk; exact ⟨p6, r6⟩
    · cases hk; exact ⟨p7, r7⟩
    · cases hk; exact ⟨p8, r8⟩
def rT (i : Nat) : Term := Term.string "DarkWood$Reader" (z_tx.getD i (0, "")).1
def nw : List Cond := flatC (Jvm.Cond.and given_1 narrow_1)
def rBs : List Nat := [64, 93, 140, 170, 179, 190, 205, 265]
def rP : List Nat := [142, 594, 718, 747, 756, 765, 775, 776]
theorem nw_ex : ∀ i, i < 8 → nw[rBs.getD i 0]? = some (Cond.exactly (rT i) "java/lang/String") := by decide +kernel
theorem nw_co : ∀ i, i < 8 → nw[rBs.getD i 0 + 1]? = some (Cond.eq (.field (rT i) "java/lang/String" "coder" "B") (.int 0)) := by decide +kernel
theorem nw_ar : ∀ i, i < 8 → nw[rBs.getD i 0 + 2]? = some (Cond.arrayOf (.field (rT i) "java/lang/String" "value" "[B") .byte) := by decide +kernel
theorem nw_le : ∀ i, i < 8 → nw[rBs.getD i 0 + 3]? = some (Cond.eq (.length (.field (rT i) "java/lang/String" "value" "[B")) (.int (Int32.ofNat (z_tlen.getD i 0)))) := by decide +kernel
theorem nw_el : ∀ i, i < 8 → ∀ j, j < z_tlen.getD i 0 → nw[rBs.getD i 0 + 4 + j]? = some (Cond.eq (.elem (.field (rT i) "java/lang/String" "value" "[B") (.int (Int32.ofNat j))) (.int ((z_tbyt.getD i []).getD j 0))) := by decide +kernel
theorem nw_ne : ∀ j, j < 8 → ∀ i, i < j → nw[rBs.getD j 0 + 4 + z_tlen.getD j 0 + i]? = some (Cond.not (Cond.eq (rT i) (rT j))) := by decide +kernel
theorem nw_cs : nw[4]? = some (Cond.eq (Term.static "java/lang/String" "COMPACT_STRINGS" "Z") (.int 1)) := by decide +kernel
theorem nw_fm : nw[5]? = some (Cond.isRef (Term.static "jdk/internal/util/Preconditions" "SIOOBE_FORMATTER" "Ljava/util/function/BiFunction;")) := by decide +kernel
theorem sr_in : ∀ n, n < 8 → lw_tbl[rP.getD n 0]? = some (Cond.stringRef "DarkWood$Reader" (z_tx.getD n (0, "")).1 (z_tx.getD n (0, "")).2) := by decide +kernel
theorem st_str {b : Nat} {s : State} {A : Nat → Prop} (hgv : (Jvm.Cond.and given_1 narrow_1).before #[Value.ref b] s = true) (hA : ∀ a : Nat, a < s.heap.size → ¬ A a) : ∃ adK adV : Nat → Nat, vk_S 8 z_tlen z_tbyt adK adV A s s.heap ∧ ∀ i : Nat, i < 8 → (rT i).eval #[Value.ref b] s none [] s = some (.ref (adK i)) := by
  have hs : ∀ c ∈ nw, c.before #[Value.ref b] s = true := flat_of_before _ hgv
  have hm : ∀ {k : Nat} {c : Cond}, nw[k]? = some c → c.before #[Value.ref b] s = true := fun h => hs _ (List.mem_of_getElem? h)
  refine vk_Sof (tm := rT) (by decide) (fun i hi => hm (nw_ex i hi)) (fun i hi => hm (nw_co i hi)) (fun i hi => hm (nw_ar i hi)) (fun i hi => hm (nw_le i hi)) (fun i hi j hj => hm (nw_el i hi j hj)) (fun i j hi hj hij => ?_) hA
  rcases Nat.lt_or_gt_of_ne hij with h | h
  · exact Or.inl (hm (nw_ne j hj i h))
  · exact Or.inr (hm (nw_ne i hi j h))
theorem st_R {b : Nat} {s : State} {adK : Nat → Nat} (ht : ∀ w ∈ lw_tbl, w.before #[Value.ref b] s = true) (he : ∀ i : Nat, i < 8 → (rT i).eval #[Value.ref b] s none [] s = some (.ref (adK i))) (n : Nat) (q : Nat × String) (hq : z_tx[n]? = some q) : vk_R "DarkWood$Reader" q.1 q.2 (adK n) s := by
  have hn : n < 8 := (List.getElem?_eq_some_iff.mp hq).1
  have e : z_tx.getD n (0, "") = q := by
    rw [List.getD_eq_getElem?_getD, hq]
    rfl
  have h1 := ht _ (List.mem_of_getElem? (sr_in n hn))
  have h2 := he n hn
  unfold rT at h2
  rw [e] at h1 h2
  exact vk_R.of h1 h2
theorem st_OK {b : Nat} {s : State} {A : Nat → Prop} {G : va_G} {dA : Nat → ClassId} {dh m0 : Nat} {z : S9} {v adK adV : Nat → Nat} (ht : ∀ w ∈ lw_tbl, w.before #[Value.ref b] s = true) (hgv : (Jvm.Cond.and given_1 narrow_1).before #[Value.ref b] s = true) (hA : ∀ a : Nat, a < s.heap.size → ¬ A a) (h1 : vk_S 8 z_tlen z_tbyt adK adV A s s.heap) (he : ∀ i : Nat, i < 8 → (rT i).eval #[Value.ref b] s none [] s = some (.ref (adK i))) : z_strOK (eF G dA dh m0 z v adK adV) adV A s s.heap := by
  have hs : ∀ c ∈ nw, c.before #[Value.ref b] s = true := flat_of_before _ hgv
  refine ⟨h1, fun n q hq => st_R ht he n q hq, ?_, ?_, fun i hi => rfl⟩
  · exact va_Zof (ht _ (List.mem_of_getElem? (i := 612) (by decide +kernel))) (ht (Cond.initialized "java/lang/String") (List.mem_of_getElem? (i := 121) (by decide +kernel))) (va_eqt (hs _ (List.mem_of_getElem? nw_cs))) hA
  · exact va_Zqof (ht _ (List.mem_of_getElem? (i := 628) (by decide +kernel))) (ht (Cond.initialized "jdk/internal/util/Preconditions") (List.mem_of_getElem? (i := 123) (by decide +kernel))) (hs _ (List.mem_of_getElem? nw_fm)) hA
theorem nest_in : ∀ q ∈ nestL, Cond.methodLinkNest q.1 q.2.1 q.2.2.1 q.2.2.2 ∈ lw_tbl := by decide +kernel
theorem nest_on : ∀ q ∈ nestL, (Cond.methodLinkNest q.1 q.2.1 q.2.2.1 q.2.2.2).onTables = true := fun q _ => rfl
theorem over_in : ∀ C ∈ overL, Cond.arrayOver (.object C) ∈ lw_tbl := by decide +kernel
theorem st_N {b : Nat} {s : State} {adK : Nat → Nat} (ht : ∀ w ∈ lw_tbl, w.before #[Value.ref b] s = true) (he : ∀ i : Nat, i < 8 → (rT i).eval #[Value.ref b] s none [] s = some (.ref (adK i))) : XN (adK 0) s :=
  ⟨fun q hq => va_Nw.of (nest_on q hq) (ht _ (nest_in q hq)), fun C hC => va_AO.of (ht _ (over_in C hC)), st_R ht he 0 (15, "path ground sky harm eyes") rfl⟩
