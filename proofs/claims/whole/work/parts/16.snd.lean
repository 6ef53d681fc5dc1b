/-! System.arraycopy; the whole program's soundness -/
theorem n_nlt0 {z : Int} (h : inI z) (h0 : 0 ≤ z) : ¬ Int32.ofInt z < 0 := fun q => by
  have := (n_ilt h n_in0).mp q
  omega
theorem z_cpy_ne {w : zW} {c0 : Nat} {i0 sp : Int} {c1 : Nat} {i1 dp n : Int} {c : Nat} {i : Int} (h : ¬ (c = c1 ∧ i = i1)) (s : Int) : z_cpy w c0 i0 sp c1 i1 dp n c i s = w c i s := by
  unfold z_cpy
  rw [if_neg (fun e => h ⟨e.1, e.2.1⟩)]
section IMP
variable {E : zE} {A : Nat → Prop} {XH : State → Heap → Prop} {l : Launch} {cc : ByteArray} {own : String} {nL : Nat} {rt : Option FieldType} {bp : Nat → Nat} {pc : Nat} {as : List zA}
theorem im_acI {c0 c1 idx : Nat} {L0 L1 : Int} (hA : z_Ad1 E A) (hk0 : z_kd c0 = 1) (hk1 : z_kd c1 = 1) (hL0 : z_ln c0 = L0) (hL1 : z_ln c1 = L1) (hw : Cond.methodLink own idx arraycopyName ∈ zTB) (hna : Cond.native arraycopyName ∈ zTB) (hst : Cond.static arraycopyName ∈ zTB) (hi : Cond.initialized "java/lang/System" ∈ zTB) (hd : decode cc pc = .ok (.invokestatic idx, 3)) (h : z_Imp E A XH l cc own nL rt bp (pc + 3) as) : z_Imp E A XH l cc own nL rt bp pc (a_acI c0 L0 c1 L1 :: as) := by
  refine im_mv h fun C G k ls st w r hb okl oks => ?_
  unfold a_acI at hb
  split at hb
  · next n dp c1' i1 sp c0' i0 st1 =>
    obtain ⟨hq, hb2⟩ := z_bt hb
    clear hb
    obtain ⟨hp, hb3⟩ := gd_some.mp hb2
    clear hb2
    rw [Bool.and_eq_true, Bool.and_eq_true] at hq
    obtain rfl := Nat.eq_of_beq_eq_true hq.1.1
    obtain rfl := Nat.eq_of_beq_eq_true hq.1.2
    have on : inI n := oks.h
    have od : inI dp := oks.t.h
    have o1 : z_okr c1' i1 := oks.t.t.h
    have os : inI sp := oks.t.t.t.h
    have o0 : z_okr c0' i0 := oks.t.t.t.t.h
    obtain ⟨p0, p1, p2, p3, p4⟩ := hp
    refine ⟨ls, _, _, hb3, okl, oks.t.t.t.t.t, fun d r p e R s m args below meth cd cells slots Q cx H locs lv hR hS hL k => ?_⟩
    obtain ⟨q0, hq0⟩ := z_W_ix (c := c0') (i := i0) ⟨o0, by omega⟩
    obtain ⟨q1, hq1⟩ := z_W_ix (c := c1') (i := i1) ⟨o1, by omega⟩
    have e0 : (z_W E w)[q0]? = some (E.2.2 c0' i0, .inl (E.2.1 (z_ak c0'), ((z_ln c0').toNat, .inl fun j => Int32.ofInt (w c0' i0 j)))) := by rw [z_W_get hq0, z_ent_i (Or.inl hk0)]
    have e1 : (z_W E w)[q1]? = some (E.2.2 c1' i1, .inl (E.2.1 (z_ak c1'), ((z_ln c1').toNat, .inl fun j => Int32.ofInt (w c1' i1 j)))) := by rw [z_W_get hq1, z_ent_i (Or.inl hk1)]
    have hts := cx.2.2.2.2.1
    have hRm := cx.2.2.2.2.2.2.1
    have hset : (z_W E w).set q1 (E.2.2 c1' i1, .inl (E.2.1 (z_ak c1'), ((z_ln c1').toNat, .inl (va_cpy (fun j => Int32.ofInt (w c0' i0 j)) (fun j => Int32.ofInt (w c1' i1 j)) (Int32.ofInt sp).toNatClampNeg (Int32.ofInt dp).toNatClampNeg (Int32.ofInt n).toNatClampNeg)))) = z_W E (z_cpy w c0' i0 sp c1' i1 dp n) := by
      refine z_W_set hq1 ?_ (fun c' i' hne s' => z_cpy_ne hne s')
      rw [z_ent_i (Or.inl hk1)]
      congr 4
      funext j
      rw [n_cl os, n_cl od, n_cl on]
      unfold va_cpy z_cpy
      by_cases hj : dp.toNat ≤ j ∧ j < dp.toNat + n.toNat
      · rw [if_pos hj, if_pos ⟨rfl, rfl, by omega, by omega⟩]
        congr 2
        omega
      · rw [if_neg hj, if_neg (fun q => hj ⟨by omega, by omega⟩)]
    have hcan : z_can (z_cpy w c0' i0 sp c1' i1 dp n) := by
      intro c i s
      unfold z_cpy
      split
      · next e => obtain ⟨rfl, -⟩ := e; exact z_rng1 hk1 (z_rng_i (Or.inl hk0) (hR.2 _ _ _))
      · exact hR.2 c i s
    refine va_copyi cx.1 cx.2.1 (cx.2.2.1.trans hL.1.symm) cx.2.2.2.1 (hts _ hw) (hts _ hna) (hts _ hst) (hts _ hi) cx.2.2.2.2.2.1 hR.P (hA.D w) hS q0 q1 0 0 (ty := .int) e0 e1 (by rw [(z_akk c0').1 hk0]; rfl) (by rw [(z_akk c1').1 hk1]; rfl) rfl (n_nlt0 os p0) (n_nlt0 od p1) (n_nlt0 on p2) ?_ ?_ (fun _ _ => rfl) (by omega) (z_szle E hq.2 (by decide) hRm.2.1) hd fun H1 locs1 hP1 hD1 hS1 => ?_
    · rw [n_cl os, n_cl on]; omega
    · rw [n_cl od, n_cl on]; omega
    · rw [hset] at hP1
      exact k H1 locs1 lv (z_Rel.of hP1 hcan) hS1 hL
  · cases hb
theorem im_acL {c0 c1 idx : Nat} {L0 L1 : Int} (hA : z_Ad1 E A) (hk0 : z_kd c0 = 4) (hk1 : z_kd c1 = 4) (hL0 : z_ln c0 = L0) (hL1 : z_ln c1 = L1) (hw : Cond.methodLink own idx arraycopyName ∈ zTB) (hna : Cond.native arraycopyName ∈ zTB) (hst : Cond.static arraycopyName ∈ zTB) (hi : Cond.initialized "java/lang/System" ∈ zTB) (hd : decode cc pc = .ok (.invokestatic idx, 3)) (h : z_Imp E A XH l cc own nL rt bp (pc + 3) as) : z_Imp E A XH l cc own nL rt bp pc (a_acL c0 L0 c1 L1 :: as) := by
  refine im_mv h fun C G k ls st w r hb okl oks => ?_
  unfold a_acL at hb
  split at hb
  · next n dp c1' i1 sp c0' i0 st1 =>
    obtain ⟨hq, hb2⟩ := z_bt hb
    clear hb
    obtain ⟨hp, hb3⟩ := gd_some.mp hb2
    clear hb2
    rw [Bool.and_eq_true, Bool.and_eq_true] at hq
    obtain rfl := Nat.eq_of_beq_eq_true hq.1.1
    obtain rfl := Nat.eq_of_beq_eq_true hq.1.2
    have on : inI n := oks.h
    have od : inI dp := oks.t.h
    have o1 : z_okr c1' i1 := oks.t.t.h
    have os : inI sp := oks.t.t.t.h
    have o0 : z_okr c0' i0 := oks.t.t.t.t.h
    obtain ⟨p0, p1, p2, p3, p4⟩ := hp
    refine ⟨ls, _, _, hb3, okl, oks.t.t.t.t.t, fun d r p e R s m args below meth cd cells slots Q cx H locs lv hR hS hL k => ?_⟩
    obtain ⟨q0, hq0⟩ := z_W_ix (c := c0') (i := i0) ⟨o0, by omega⟩
    obtain ⟨q1, hq1⟩ := z_W_ix (c := c1') (i := i1) ⟨o1, by omega⟩
    have e0 : (z_W E w)[q0]? = some (E.2.2 c0' i0, .inl (E.2.1 (z_ak c0'), ((z_ln c0').toNat, .inr (.inl fun j => Int64.ofInt (w c0' i0 j))))) := by rw [z_W_get hq0, z_ent_l hk0]
    have e1 : (z_W E w)[q1]? = some (E.2.2 c1' i1, .inl (E.2.1 (z_ak c1'), ((z_ln c1').toNat, .inr (.inl fun j => Int64.ofInt (w c1' i1 j))))) := by rw [z_W_get hq1, z_ent_l hk1]
    have hts := cx.2.2.2.2.1
    have hRm := cx.2.2.2.2.2.2.1
    have hset : (z_W E w).set q1 (E.2.2 c1' i1, .inl (E.2.1 (z_ak c1'), ((z_ln c1').toNat, .inr (.inl (va_cpy (fun j => Int64.ofInt (w c0' i0 j)) (fun j => Int64.ofInt (w c1' i1 j)) (Int32.ofInt sp).toNatClampNeg (Int32.ofInt dp).toNatClampNeg (Int32.ofInt n).toNatClampNeg))))) = z_W E (z_cpy w c0' i0 sp c1' i1 dp n) := by
      refine z_W_set hq1 ?_ (fun c' i' hne s' => z_cpy_ne hne s')
      rw [z_ent_l hk1]
      congr 5
      funext j
      rw [n_cl os, n_cl od, n_cl on]
      unfold va_cpy z_cpy
      by_cases hj : dp.toNat ≤ j ∧ j < dp.toNat + n.toNat
      · rw [if_pos hj, if_pos ⟨rfl, rfl, by omega, by omega⟩]
        congr 2
        omega
      · rw [if_neg hj, if_neg (fun q => hj ⟨by omega, by omega⟩)]
    have hcan : z_can (z_cpy w c0' i0 sp c1' i1 dp n) := by
      intro c i s
      unfold z_cpy
      split
      · next e => obtain ⟨rfl, -⟩ := e; exact z_rng4 hk1 (z_rng_l hk0 (hR.2 _ _ _))
      · exact hR.2 c i s
    refine va_copyl cx.1 cx.2.1 (cx.2.2.1.trans hL.1.symm) cx.2.2.2.1 (hts _ hw) (hts _ hna) (hts _ hst) (hts _ hi) cx.2.2.2.2.2.1 hR.P (hA.D w) hS q0 q1 3 3 (ty := .long) e0 e1 (by rw [(z_akk c0').2.2.2 hk0]; rfl) (by rw [(z_akk c1').2.2.2 hk1]; rfl) rfl (n_nlt0 os p0) (n_nlt0 od p1) (n_nlt0 on p2) ?_ ?_ (fun _ _ => rfl) (by omega) (z_szle E hq.2 (by decide) hRm.2.1) hd fun H1 locs1 hP1 hD1 hS1 => ?_
    · rw [n_cl os, n_cl on]; omega
    · rw [n_cl od, n_cl on]; omega
    · rw [hset] at hP1
      exact k H1 locs1 lv (z_Rel.of hP1 hcan) hS1 hL
  · cases hb
end IMP
/-! from a method's own code to its contract -/
theorem z_entry_get {E : zE} : ∀ {xs : List zV} {k j : Nat} {v : zV}, z_get (z_entry xs) k = some v → (j + k, z_cv E v) ∈ lv_args j (xs.map (z_cv E))
  | [], k, j, v, h => by simp [z_entry, z_get] at h
  | Sum.inr (Sum.inl z) :: xs, 0, j, v, h => by
    have : v = vL z := by
      simp only [z_entry, z_get, Option.some.injEq] at h
      exact h.symm
    subst this
    exact List.mem_cons_self
  | Sum.inr (Sum.inl z) :: xs, 1, j, v, h => by simp [z_entry, z_get] at h
  | Sum.inr (Sum.inl z) :: xs, k + 2, j, v, h => by
    have h' : z_get (z_entry xs) k = some v := h
    have := z_entry_get (E := E) (j := j + 2) h'
    rw [show j + (k + 2) = j + 2 + k by omega]
    exact List.mem_cons_of_mem _ this
  | Sum.inl z :: xs, 0, j, v, h => by
    have : v = vI z := by
      simp only [z_entry, z_get, Option.some.injEq] at h
      exact h.symm
    subst this
    exact List.mem_cons_self
  | Sum.inl z :: xs, k + 1, j, v, h => by
    have h' : z_get (z_entry xs) k = some v := h
    have := z_entry_get (E := E) (j := j + 1) h'
    rw [show j + (k + 1) = j + 1 + k by omega]
    exact List.mem_cons_of_mem _ this
  | Sum.inr (Sum.inr (c, i)) :: xs, 0, j, v, h => by
    have : v = vR c i := by
      simp only [z_entry, z_get, Option.some.injEq] at h
      exact h.symm
    subst this
    exact List.mem_cons_self
  | Sum.inr (Sum.inr (c, i)) :: xs, k + 1, j, v, h => by
    have h' : z_get (z_entry xs) k = some v := h
    have := z_entry_get (E := E) (j := j + 1) h'
    rw [show j + (k + 1) = j + 1 + k by omega]
    exact List.mem_cons_of_mem _ this
theorem z_entry_ok : ∀ {xs : List zV}, (∀ v ∈ xs, z_okv v) → z_okL (z_entry xs)
  | [], h => fun k v hk => by simp [z_entry, z_get] at hk
  | Sum.inr (Sum.inl z) :: xs, h => fun k v hk => by
    have ih := z_entry_ok (xs := xs) (fun u hu => h u (List.mem_cons_of_mem _ hu))
    match k, hk with
    | 0, hk => simp only [z_entry, z_get, Option.some.injEq] at hk; rw [← hk]; exact h _ List.mem_cons_self
    | 1, hk => simp [z_entry, z_get] at hk
    | k + 2, hk => exact ih k v hk
  | Sum.inl z :: xs, h => fun k v hk => by
    have ih := z_entry_ok (xs := xs) (fun u hu => h u (List.mem_cons_of_mem _ hu))
    match k, hk with
    | 0, hk => simp only [z_entry, z_get, Option.some.injEq] at hk; rw [← hk]; exact h _ List.mem_cons_self
    | k + 1, hk => exact ih k v hk
  | Sum.inr (Sum.inr (c, i)) :: xs, h => fun k v hk => by
    have ih := z_entry_ok (xs := xs) (fun u hu => h u (List.mem_cons_of_mem _ hu))
    match k, hk with
    | 0, hk => simp only [z_entry, z_get, Option.some.injEq] at hk; rw [← hk]; exact h _ List.mem_cons_self
    | k + 1, hk => exact ih k v hk
theorem z_sl_len (E : zE) : ∀ xs : List zV, (lg_sl (xs.map (z_cv E))).length = z_sz xs
  | [] => rfl
  | Sum.inr (Sum.inl z) :: xs => by
    have ih := z_sl_len E xs
    simp only [lg_sl, List.map_cons, List.flatMap_cons, List.length_append] at ih ⊢
    rw [ih]
    rfl
  | Sum.inl z :: xs => by
    have ih := z_sl_len E xs
    simp only [lg_sl, List.map_cons, List.flatMap_cons, List.length_append] at ih ⊢
    rw [ih]
    rfl
  | Sum.inr (Sum.inr (c, i)) :: xs => by
    have ih := z_sl_len E xs
    simp only [lg_sl, List.map_cons, List.flatMap_cons, List.length_append] at ih ⊢
    rw [ih]
    rfl
/-- a method of the table: its kind of return fits -/
def z_rtOK (rt : Option FieldType) (rk : Nat) : Prop := (rt = some .int ∧ rk = 1) ∨ (rt = some .boolean ∧ rk = 1) ∨ (rt = some .byte ∧ rk = 1) ∨ (rt = some .char ∧ rk = 1) ∨ (rt = some .long ∧ rk = 2) ∨ (rt = none ∧ rk = 0)
theorem z_met {E : zE} {A : Nat → Prop} {XH : State → Heap → Prop} {l : Launch} {z d : Nat} {xs : List zV} {w : zW} {r : Int × zW} (hX : z_XP XH A) (hpl : plainName (z_mt z).1.cls = true) (hrk : z_rtOK (z_mt z).2.2.2.1 (z_mt z).2.2.2.2)
    (h : z_RR E A XH l (z_mt z).2.1 (z_mt z).1.cls (z_mt z).2.2.1 (z_mt z).2.2.2.1 d 0 (z_entry xs) [] w r) (hok : ∀ v ∈ xs, z_okv v) (hsz : z_sz xs ≤ (z_mt z).2.2.1) :
    Met l (z_mt z).1 (z_ws z) (z_rm d) (z_Pc E XH xs w) (z_Q E A (z_mt z).2.2.2.2 r) 0 0 A := by
  refine Met.ofW (cc := (z_mt z).2.1) (maxL := (z_mt z).2.2.1) (ret := (z_mt z).2.2.2.1) hpl rfl ?_
  intro p e s m args below meth c s₁ B hml hv
  obtain ⟨rfl, hR, hK, hXX⟩ := hv
  have hx := B.exec
  have hb := B.bytes
  have hr := B.returns
  have hts : ∀ q ∈ zTB, q.before _ s = true := fun q hq => atoms_spec (ws := z_ws z) B.pre q (List.mem_cons_of_mem _ hq)
  have hown := findClass_of_methodNamed B.named
  have hlocks := B.notSynchronized
  have hl := lv_entry (xs.map (z_cv E)) (n := (z_mt z).2.2.1) (by rw [z_sl_len]; exact hsz)
  rw [lg_entry_eq]
  generalize (lg_sl (xs.map (z_cv E)) ++ List.replicate ((z_mt z).2.2.1 - (lg_sl (xs.map (z_cv E))).length) Slot.unset).toArray = lv at hl ⊢
  have hLS : z_LS E (z_mt z).2.2.1 (z_entry xs) lv := ⟨hl.1, hl.2.1, fun k v hk => hl.2.2 (k, z_cv E v) (by have := z_entry_get (E := E) (j := 0) hk; rwa [Nat.zero_add] at this)⟩
  refine h (z_entry_ok hok) (fun v hv => by cases hv) p e _ s m _ below meth c 0 0 _ ⟨hx, hb, hml, hown, hts, hK, ⟨Nat.le_refl _, Nat.le_refl _, Nat.zero_le _, Nat.zero_le _⟩, fun H locs hS => hX.1 s s.heap H hXX (fun q h1 h2 => hS.2.1 q h1 h2), ?_⟩ s.heap [] lv hR va_S.rf hLS
  intro pc lv' H locs ins st hd hok' hR' hS'
  have hfin : ∀ q ∈ locs, A q.base := hS'.2.2
  rcases hok' with ⟨h1, h2, h3, h4⟩ | ⟨h1, h2, h3, h4⟩ | ⟨h1, h2, h3, h4⟩ | ⟨h1, h2, h3, h4⟩ | ⟨h1, h2, h3, h4⟩ | ⟨h1, h2, h3⟩
  · have hk : (z_mt z).2.2.2.2 = 1 := by rcases hrk with q | q | q | q | q | q <;> first | exact q.2 | (rw [q.1] at h1; cases h1)
    rw [h1] at hr
    subst h2; subst h3
    refine W.iret hx hb hr (fun t ht hW => ?_) hfin hd hlocks
    unfold z_Q
    rw [if_neg (by rw [hk]; decide), if_pos hk]
    exact ⟨⟨_, (), rfl, ⟨rfl, h4⟩, by show z_Rel E r.2 t.heap; rw [ht]; exact hR'⟩, hS'.F ht⟩
  · have hk : (z_mt z).2.2.2.2 = 1 := by rcases hrk with q | q | q | q | q | q <;> first | exact q.2 | (rw [q.1] at h1; cases h1)
    rw [h1] at hr
    subst h2; subst h3
    have hz : r.1 = 0 ∨ r.1 = 1 := by omega
    refine W.zret (ty := .boolean) hx hb hr (by rcases hz with q | q <;> rw [q] <;> rfl) (fun t ht hW => ?_) hfin hd hlocks
    unfold z_Q
    rw [if_neg (by rw [hk]; decide), if_pos hk]
    exact ⟨⟨_, (), rfl, ⟨rfl, by omega, by omega⟩, by show z_Rel E r.2 t.heap; rw [ht]; exact hR'⟩, hS'.F ht⟩
  · have hk : (z_mt z).2.2.2.2 = 1 := by rcases hrk with q | q | q | q | q | q <;> first | exact q.2 | (rw [q.1] at h1; cases h1)
    rw [h1] at hr
    subst h2; subst h3
    have hi : inI r.1 := ⟨by omega, by omega⟩
    refine W.zret (ty := .byte) hx hb hr (by
      show Value.int (Int32.ofInt r.1).toInt8.toInt32 = _
      rw [(n_w8 r.1 hi).1]
      congr 2
      unfold z_w8
      omega) (fun t ht hW => ?_) hfin hd hlocks
    unfold z_Q
    rw [if_neg (by rw [hk]; decide), if_pos hk]
    exact ⟨⟨_, (), rfl, ⟨rfl, hi⟩, by show z_Rel E r.2 t.heap; rw [ht]; exact hR'⟩, hS'.F ht⟩
  · have hk : (z_mt z).2.2.2.2 = 1 := by rcases hrk with q | q | q | q | q | q <;> first | exact q.2 | (rw [q.1] at h1; cases h1)
    rw [h1] at hr
    subst h2; subst h3
    have hi : inI r.1 := ⟨by omega, by omega⟩
    refine W.zret (ty := .char) hx hb hr (by
      obtain ⟨n, hn⟩ : ∃ n : Nat, r.1 = (n : Int) := ⟨r.1.toNat, by omega⟩
      rw [hn]
      exact (pk_charN (q := n) (by omega)).1) (fun t ht hW => ?_) hfin hd hlocks
    unfold z_Q
    rw [if_neg (by rw [hk]; decide), if_pos hk]
    exact ⟨⟨_, (), rfl, ⟨rfl, hi⟩, by show z_Rel E r.2 t.heap; rw [ht]; exact hR'⟩, hS'.F ht⟩
  · have hk : (z_mt z).2.2.2.2 = 2 := by rcases hrk with q | q | q | q | q | q <;> first | exact q.2 | (rw [q.1] at h1; cases h1)
    rw [h1] at hr
    subst h2; subst h3
    refine W.lret hx hb hr (fun t ht hW => ?_) hfin hd hlocks
    unfold z_Q
    rw [if_neg (by rw [hk]; decide), if_neg (by rw [hk]; decide)]
    exact ⟨⟨_, (), rfl, ⟨rfl, h4⟩, by show z_Rel E r.2 t.heap; rw [ht]; exact hR'⟩, hS'.F ht⟩
  · have hk : (z_mt z).2.2.2.2 = 0 := by rcases hrk with q | q | q | q | q | q <;> first | exact q.2 | (rw [q.1] at h1; cases h1)
    rw [h1] at hr
    subst h2; subst h3
    refine W.vret hx hb hr (fun t ht hW => ?_) hfin hd hlocks
    unfold z_Q
    rw [if_pos hk]
    exact ⟨⟨(), rfl, trivial, by show z_Rel E r.2 t.heap; rw [ht]; exact hR'⟩, hS'.F ht⟩
/-- what is to be shown of each method's code -/
def z_impl (E : zE) (A : Nat → Prop) (XH : State → Heap → Prop) (l : Launch) (z : Nat) : Prop :=
  plainName (z_mt z).1.cls = true ∧ z_rtOK (z_mt z).2.2.2.1 (z_mt z).2.2.2.2 ∧ ∃ bp : Nat → Nat, bp 0 = 0 ∧ ∀ b, z_Imp E A XH l (z_mt z).2.1 (z_mt z).1.cls (z_mt z).2.2.1 (z_mt z).2.2.2.1 bp (bp b) ((zP z).getD b [])
theorem z_sound1 {E : zE} {A : Nat → Prop} {XH : State → Heap → Prop} {l : Launch} (hX : z_XP XH A) (hI : ∀ z, z < zPL.length → z_impl E A XH l z) : ∀ n d z, z < zPL.length → ∀ bp : Nat → Nat, bp 0 = 0 → (∀ b, z_Imp E A XH l (z_mt z).2.1 (z_mt z).1.cls (z_mt z).2.2.1 (z_mt z).2.2.2.1 bp (bp b) ((zP z).getD b [])) → ∀ b ls st w r, z_run zP n d z b ls st w = some r →
    z_RR E A XH l (z_mt z).2.1 (z_mt z).1.cls (z_mt z).2.2.1 (z_mt z).2.2.2.1 d (bp b) ls st w r := by
  intro n
  induction n with
  | zero => intro d z hz bp h0 hb b ls st w r h; cases h
  | succ n ih =>
    intro d z hz bp h0 hb b ls st w r h
    unfold z_run at h
    refine hb b d _ _ r ?_ (fun b' ls st w hg => ih d z hz bp h0 hb b' ls st w r hg) ls st w h
    intro z' x w' r' hc hok hsz
    cases d with
    | zero => cases hc
    | succ d' =>
      have hz' : z' < zPL.length := by
        rcases Nat.lt_or_ge z' zPL.length with q | q
        · exact q
        · exfalso
          have e : zP z' = [] := by unfold zP; rw [List.getD_eq_getElem?_getD, List.getElem?_eq_none q]; rfl
          have hc' : z_run zP n d' z' 0 (z_entry x) [] w' = some r' := hc
          cases n with
          | zero => cases hc'
          | succ n => unfold z_run at hc'; rw [e] at hc'; cases hc'
      obtain ⟨h1, h2, bp', h3, h4⟩ := hI z' hz'
      refine ⟨d', rfl, z_met hX h1 h2 ?_ hok hsz⟩
      have := ih d' z' hz' bp' h3 h4 0 (z_entry x) [] w' r' hc
      rw [h3] at this
      exact this
/-- A CALL OF THE TABLE'S METHODS: what the abstract machine answers, the machine does -/
theorem z_sound {E : zE} {A : Nat → Prop} {XH : State → Heap → Prop} {l : Launch} (hX : z_XP XH A) (hI : ∀ z, z < zPL.length → z_impl E A XH l z) {d z : Nat} {xs : List zV} {w : zW} {r : Int × zW} (h : z_call zP d z xs w = some r) : z_CK E A XH l d z xs w r := by
  intro hok hsz
  cases d with
  | zero => cases h
  | succ d =>
    have h' : z_sem zP d z 0 (z_entry xs) [] w = some r := h
    obtain ⟨n, hn⟩ := (z_sem_some zP_good).mp h'
    have hz : z < zPL.length := by
      rcases Nat.lt_or_ge z zPL.length with q | q
      · exact q
      · exfalso
        have e : zP z = [] := by unfold zP; rw [List.getD_eq_getElem?_getD, List.getElem?_eq_none q]; rfl
        cases n with
        | zero => cases hn
        | succ n => unfold z_run at hn; rw [e] at hn; cases hn
    obtain ⟨h1, h2, bp, h3, h4⟩ := hI z hz
    refine ⟨d, rfl, z_met hX h1 h2 ?_ hok hsz⟩
    have := z_sound1 hX hI n d z hz bp h3 h4 0 _ _ _ _ hn
    rw [h3] at this
    exact this
