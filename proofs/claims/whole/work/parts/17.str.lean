/-! TEXTS OF THE PROGRAM, and the statics of the library: held beside the world -/
def z_tx : List (Nat × String) := [(15, "path ground sky harm eyes"), (78, "wide home path wall ground sky harm source"), (142, "drift feel see hear step"), (183, "if"), (190, "not"), (188, "and or"), (172, "on at sure ground sky loud steps matches eyes path"), (174, "go left right back sit strike")]
def z_tlen : List Nat := [25, 42, 24, 2, 3, 6, 50, 29]
def z_tbyt : List (List Int32) := [[112, 97, 116, 104, 32, 103, 114, 111, 117, 110, 100, 32, 115, 107, 121, 32, 104, 97, 114, 109, 32, 101, 121, 101, 115], [119, 105, 100, 101, 32, 104, 111, 109, 101, 32, 112, 97, 116, 104, 32, 119, 97, 108, 108, 32, 103, 114, 111, 117, 110, 100, 32, 115, 107, 121, 32, 104, 97, 114, 109, 32, 115, 111, 117, 114, 99, 101], [100, 114, 105, 102, 116, 32, 102, 101, 101, 108, 32, 115, 101, 101, 32, 104, 101, 97, 114, 32, 115, 116, 101, 112], [105, 102], [110, 111, 116], [97, 110, 100, 32, 111, 114], [111, 110, 32, 97, 116, 32, 115, 117, 114, 101, 32, 103, 114, 111, 117, 110, 100, 32, 115, 107, 121, 32, 108, 111, 117, 100, 32, 115, 116, 101, 112, 115, 32, 109, 97, 116, 99, 104, 101, 115, 32, 101, 121, 101, 115, 32, 112, 97, 116, 104], [103, 111, 32, 108, 101, 102, 116, 32, 114, 105, 103, 104, 116, 32, 98, 97, 99, 107, 32, 115, 105, 116, 32, 115, 116, 114, 105, 107, 101]]
def z_strOK (E : zE) (adV : Nat → Nat) (A : Nat → Prop) (s : State) (H : Heap) : Prop :=
  vk_S 8 z_tlen z_tbyt (fun i => E.2.2 12 i) adV A s H ∧ (∀ (n : Nat) (q : Nat × String), z_tx[n]? = some q → vk_R "DarkWood$Reader" q.1 q.2 (E.2.2 12 n) s) ∧ va_Z "java/lang/String" "COMPACT_STRINGS" "Z" (.int 1) A s H ∧ va_Zq "jdk/internal/util/Preconditions" "SIOOBE_FORMATTER" "Ljava/util/function/BiFunction;" A s H ∧ ∀ i : Nat, i < 8 → E.2.2 79 i = adV i
theorem z_strXP (E : zE) (adV : Nat → Nat) (A : Nat → Prop) : z_XP (z_strOK E adV A) A :=
  ⟨fun s H H1 h hq => ⟨h.1.kept hq, h.2.1, h.2.2.1.kept hq, h.2.2.2.1.kept hq, h.2.2.2.2⟩, fun s U H h hW => ⟨h.1.moved hW.alike, fun n q hn => vk_R.warm hW (h.2.1 n q hn), h.2.2.1.moved hW.alike, h.2.2.2.1.moved hW.alike, h.2.2.2.2⟩⟩
theorem z_tlen_ok : ∀ i : Nat, i < 8 → z_sl (i : Int) = (z_tlen.getD i 0 : Nat) ∧ z_tlen.getD i 0 < 100 ∧ ∀ j : Nat, j < z_tlen.getD i 0 → (z_tbyt.getD i []).getD j 0 = Int32.ofInt (z_sc (i : Int) (j : Int)) ∧ 0 ≤ z_sc (i : Int) (j : Int) ∧ z_sc (i : Int) (j : Int) < 128 := by decide +kernel
section IMP
variable {E : zE} {A : Nat → Prop} {adV : Nat → Nat} {l : Launch} {cc : ByteArray} {own : String} {nL : Nat} {rt : Option FieldType} {bp : Nat → Nat} {pc : Nat} {as : List zA}
theorem im_ldcS {n i : Nat} {nI' : Int} {tx : String} (hn : nI' = (n : Int)) (hq : z_tx[n]? = some (i, tx)) (hd : decode cc pc = .ok (.ldc i, 2)) (h : z_Imp E A (z_strOK E adV A) l cc "DarkWood$Reader" nL rt bp (pc + 2) as) : z_Imp E A (z_strOK E adV A) l cc "DarkWood$Reader" nL rt bp pc (a_push (vR 12 nI') :: as) := by
  subst hn
  have hn8 : n < 8 := (List.getElem?_eq_some_iff.mp hq).1
  exact im_mv h fun C G k ls st w r hb okl oks => ⟨ls, _, w, hb, okl, oks.c (show z_okr 12 (n : Int) from ⟨by omega, by show (n : Int) < 8; omega⟩), fun d r p e R s m args below meth c cells slots Q cx H locs lv hR hS hL k => va_ldcS cx.1 cx.2.1 cx.2.2.2.1 ((cx.2.2.2.2.2.2.2.1 H locs hS).2.1 n _ hq) hd (k H locs lv hR hS hL)⟩
theorem n_of8 {i : Int} (h : z_okr 12 i) : ∃ n : Nat, i = (n : Int) ∧ n < 8 := ⟨i.toNat, by have := h.1; omega, by have h1 : i < 8 := h.2; have := h.1; omega⟩
theorem n_of79 {i : Int} (h : z_okr 79 i) : ∃ n : Nat, i = (n : Int) ∧ n < 8 := ⟨i.toNat, by have := h.1; omega, by have h1 : i < 8 := h.2; have := h.1; omega⟩
theorem im_sval {idx : Nat} (hw : Cond.fieldLink own idx "java/lang/String" "value" "[B" ∈ zTB) (hd : decode cc pc = .ok (.getfield idx, 3)) (h : z_Imp E A (z_strOK E adV A) l cc own nL rt bp (pc + 3) as) : z_Imp E A (z_strOK E adV A) l cc own nL rt bp pc (a_gS 12 79 :: as) := by
  refine im_mv h fun C G k ls st w r hb okl oks => ?_
  unfold a_gS at hb
  split at hb
  · next c' i st1 =>
    obtain ⟨hq, hb2⟩ := z_bt hb
    clear hb
    obtain rfl := Nat.eq_of_beq_eq_true hq
    obtain ⟨n, rfl, hn⟩ := n_of8 oks.h
    refine ⟨ls, _, w, hb2, okl, oks.t.c (show z_okr 79 (n : Int) from ⟨by omega, by show (n : Int) < 8; omega⟩), fun d r p e R s m args below meth c cells slots Q cx H locs lv hR hS hL k => ?_⟩
    have hX0 := cx.2.2.2.2.2.2.2.1 s.heap [] va_S.rf
    refine vk_getf cx.1 cx.2.1 ((hX0.1.1 n hn).2.2.1) hS cx.2.2.2.1 (cx.2.2.2.2.1 _ hw) (fun x hx => hx) hd ?_
    rw [← hX0.2.2.2.2 n hn]
    exact k H locs lv hR hS hL
  · cases hb
theorem im_scod {idx : Nat} (hw : Cond.fieldLink own idx "java/lang/String" "coder" "B" ∈ zTB) (hd : decode cc pc = .ok (.getfield idx, 3)) (h : z_Imp E A (z_strOK E adV A) l cc own nL rt bp (pc + 3) as) : z_Imp E A (z_strOK E adV A) l cc own nL rt bp pc (a_scod :: as) := by
  refine im_mv h fun C G k ls st w r hb okl oks => ?_
  unfold a_scod at hb
  split at hb
  · next c' i st1 =>
    obtain ⟨hq, hb2⟩ := z_bt hb
    clear hb
    obtain rfl := Nat.eq_of_beq_eq_true hq
    obtain ⟨n, rfl, hn⟩ := n_of8 oks.h
    refine ⟨ls, _, w, hb2, okl, oks.t.c (show inI 0 by decide), fun d r p e R s m args below meth c cells slots Q cx H locs lv hR hS hL k => ?_⟩
    have hX0 := cx.2.2.2.2.2.2.2.1 s.heap [] va_S.rf
    exact vk_getf cx.1 cx.2.1 ((hX0.1.1 n hn).2.1) hS cx.2.2.2.1 (cx.2.2.2.2.1 _ hw) (fun x hx => hx) hd (k H locs lv hR hS hL)
  · cases hb
theorem im_gs1 {idx : Nat} (hw : Cond.fieldLink own idx "java/lang/String" "COMPACT_STRINGS" "Z" ∈ zTB) (hd : decode cc pc = .ok (.getstatic idx, 3)) (h : z_Imp E A (z_strOK E adV A) l cc own nL rt bp (pc + 3) as) : z_Imp E A (z_strOK E adV A) l cc own nL rt bp pc (a_push (vI 1) :: as) :=
  im_mv h fun C G k ls st w r hb okl oks => ⟨ls, _, w, hb, okl, oks.c (show inI 1 by decide), fun d r p e R s m args below meth c cells slots Q cx H locs lv hR hS hL k => va_gets cx.1 cx.2.1 (cx.2.2.2.2.2.2.2.1 s.heap [] va_S.rf).2.2.1 hS cx.2.2.2.1 (cx.2.2.2.2.1 _ hw) (fun x hx => hx) hd (k H locs lv hR hS hL)⟩
theorem im_slv (hd : decode cc pc = .ok (.arraylength, 1)) (h : z_Imp E A (z_strOK E adV A) l cc own nL rt bp (pc + 1) as) : z_Imp E A (z_strOK E adV A) l cc own nL rt bp pc (a_slv :: as) := by
  refine im_mv h fun C G k ls st w r hb okl oks => ?_
  unfold a_slv at hb
  split at hb
  · next c' i st1 =>
    obtain ⟨hq, hb2⟩ := z_bt hb
    clear hb
    obtain rfl := Nat.eq_of_beq_eq_true hq
    obtain ⟨n, rfl, hn⟩ := n_of79 oks.h
    have ht := z_tlen_ok n hn
    refine ⟨ls, _, w, hb2, okl, oks.t.c (show inI _ by rw [ht.1]; constructor <;> omega), fun d r p e R s m args below meth c cells slots Q cx H locs lv hR hS hL k => ?_⟩
    have hX0 := cx.2.2.2.2.2.2.2.1 s.heap [] va_S.rf
    have k1 := k H locs lv hR hS hL
    obtain ⟨cell, g1, g2, g3, g4, g5, g6, g7⟩ := (hX0.1.1 n hn).2.2.2
    refine W.alen (g := F0 m pc lv _) cx.1 cx.2.1 (a := E.2.2 79 (n : Int)) (cell := cell) (ty := .byte) (n := Int32.ofInt (z_sl (n : Int))) ?_ g2 ?_ rfl rfl hd k1
    · rw [hX0.2.2.2.2 n hn, hS.2.1 _ (Array.getElem?_eq_some_iff.mp g1).1 g7]
      exact g1
    · rw [g5, ht.1]
      rfl
  · cases hb
theorem im_sbl (hd : decode cc pc = .ok (.baload, 1)) (h : z_Imp E A (z_strOK E adV A) l cc own nL rt bp (pc + 1) as) : z_Imp E A (z_strOK E adV A) l cc own nL rt bp pc (a_sbl :: as) := by
  refine im_mv h fun C G k ls st w r hb okl oks => ?_
  unfold a_sbl at hb
  split at hb
  · next s0 c' i st1 =>
    obtain ⟨hq, hb2⟩ := z_bt hb
    clear hb
    obtain ⟨hp, hb3⟩ := gd_some.mp hb2
    clear hb2
    obtain rfl := Nat.eq_of_beq_eq_true hq
    obtain ⟨n, rfl, hn⟩ := n_of79 oks.t.h
    have ht := z_tlen_ok n hn
    have hs : inI s0 := oks.h
    obtain ⟨j, rfl⟩ : ∃ j : Nat, s0 = (j : Int) := ⟨s0.toNat, by omega⟩
    have hj : j < z_tlen.getD n 0 := by have := hp.2; rw [ht.1] at this; omega
    obtain ⟨t1, t2, t3⟩ := ht.2.2 j hj
    refine ⟨ls, _, w, hb3, okl, oks.t.t.c (show inI _ from ⟨by omega, by omega⟩), fun d r p e R s m args below meth c cells slots Q cx H locs lv hR hS hL k => ?_⟩
    have hX0 := cx.2.2.2.2.2.2.2.1 s.heap [] va_S.rf
    have k1 := k H locs lv hR hS hL
    show W p l e R s m args below meth c H locs cells slots Q (F0 m pc lv (.int (Int32.ofInt (j : Int)) :: .ref (E.2.2 79 (n : Int)) :: st1.map (z_cv E)))
    rw [hX0.2.2.2.2 n hn]
    refine va_tb cx.1 cx.2.1 ((hX0.1.1 n hn).2.2.2) hS (n_vp hs (by omega) (by omega)) (v := .int (Int32.ofInt (z_sc (n : Int) (j : Int)))) ?_ hd k1
    rw [n_cl hs, Int.toNat_natCast, t1]
  · cases hb
end IMP
theorem k_FMT : Cond.fieldLink RJ0 1053 "jdk/internal/util/Preconditions" "SIOOBE_FORMATTER" "Ljava/util/function/BiFunction;" ∈ zTB := zTB_in (List.mem_of_getElem? (i := 627) (by decide +kernel)) (by decide +kernel)
theorem k_PL : Cond.methodLink RJ0 1059 yJ3_checkIndex_8e157 ∈ zTB := zTB_in (List.mem_of_getElem? (i := 629) (by decide +kernel)) (by decide +kernel)
theorem k_PC : Cond.code yJ3_checkIndex_8e157 cJ3_checkIndex_8e157 3 (some .int) ∈ zTB := zTB_in (List.mem_of_getElem? (i := 631) (by decide +kernel)) (by decide +kernel)
theorem k_PI : Cond.initialized yJ3_checkIndex_8e157.cls ∈ zTB := zTB_in (List.mem_of_getElem? (i := 123) (by decide +kernel)) (by decide +kernel)
theorem k_PS : Cond.static yJ3_checkIndex_8e157 ∈ zTB := zTB_in (List.mem_of_getElem? (i := 630) (by decide +kernel)) (by decide +kernel)
theorem k_PG : GoodIn zTB (Cond.code yJ3_checkIndex_8e157 cJ3_checkIndex_8e157 3 (some .int) :: zTB) := fun w hw => by
  rcases List.mem_cons.mp hw with e | e
  · rw [e]; exact ⟨k_PC, good_of_word (zTB_good _ k_PC)⟩
  · exact ⟨e, good_of_word (zTB_good _ e)⟩
theorem k_SC : Cond.code yJ0_checkIndex_df160 cJ0_checkIndex_df160 2 none ∈ zTB := zTB_in (List.mem_of_getElem? (i := 626) (by decide +kernel)) (by decide +kernel)
theorem k_SI : Cond.initialized yJ0_checkIndex_df160.cls ∈ zTB := zTB_in (List.mem_of_getElem? (i := 121) (by decide +kernel)) (by decide +kernel)
theorem k_SS : Cond.static yJ0_checkIndex_df160 ∈ zTB := zTB_in (List.mem_of_getElem? (i := 625) (by decide +kernel)) (by decide +kernel)
theorem k_SG : GoodIn zTB (Cond.code yJ0_checkIndex_df160 cJ0_checkIndex_df160 2 none :: zTB) := fun w hw => by
  rcases List.mem_cons.mp hw with e | e
  · rw [e]; exact ⟨k_SC, good_of_word (zTB_good _ k_SC)⟩
  · exact ⟨e, good_of_word (zTB_good _ e)⟩
/-! String.checkIndex, by hand -/
def y_pchk : MethodName := yJ3_checkIndex_8e157
theorem c_pchk (l : Launch) {i n : Int} {f : Value} (hi : inI i) (hn : inI n) (h0 : 0 ≤ i) (h1 : i < n) (hf : f = .null ∨ ∃ a, f = .ref a) : Met l yJ3_checkIndex_8e157 (Cond.code yJ3_checkIndex_8e157 cJ3_checkIndex_8e157 3 (some .int) :: zTB) ({ frames := 1, cells := 0, slots := 0, locals := 50 }) (va_Pc [.int (Int32.ofInt i), .int (Int32.ofInt n), f] (fun _ => True)) (va_Qi (fun x (_ : Unit) => True) (fun _ _ => True) (fun _ => False)) 0 0 (fun _ => False) := by
  refine Met.ofW (cc := cJ3_checkIndex_8e157) (maxL := 3) (ret := some .int) (by decide) rfl ?_
  intro p e s m args below meth c s₁ B hml hv
  obtain ⟨rfl, -⟩ := hv
  have hx := B.exec
  have hb := B.bytes
  have hr := B.returns
  have hlocks := B.notSynchronized
  have hcat : f.category = 1 := by rcases hf with rfl | ⟨a, rfl⟩ <;> rfl
  have hl := lv_entry ([.int (Int32.ofInt i), .int (Int32.ofInt n), f]) (n := 3) (by rcases hf with rfl | ⟨a, rfl⟩ <;> exact Nat.le_of_ble_eq_true rfl)
  rw [lg_entry_eq]
  generalize (lg_sl ([.int (Int32.ofInt i), .int (Int32.ofInt n), f]) ++ List.replicate (3 - (lg_sl ([.int (Int32.ofInt i), .int (Int32.ofInt n), f])).length) Slot.unset).toArray = ls at hl ⊢
  have hl : lv_has ls 3 [(0, .int (Int32.ofInt i)), (1, .int (Int32.ofInt n)), (2, f)] := hl
  refine lv_iload_n hx hb dJ3_checkIndex_8e157_0 rfl (lv_at hl 0 rfl) ?_
  refine lv_if_lt (tgt := 9) hx hb dJ3_checkIndex_8e157_1 (by decide) (fun q => absurd q (n_nlt0 hi h0)) (fun _ => ?_)
  refine lv_iload_n hx hb dJ3_checkIndex_8e157_4 rfl (lv_at hl 0 rfl) ?_
  refine lv_iload_n hx hb dJ3_checkIndex_8e157_5 rfl (lv_at hl 1 rfl) ?_
  refine lv_icmp_lt (tgt := 16) hx hb dJ3_checkIndex_8e157_6 (by decide) (fun _ => ?_) (fun q => absurd ((n_ilt hi hn).mpr h1) q)
  refine lv_iload_n hx hb dJ3_checkIndex_8e157_16 rfl (lv_at hl 0 rfl) ?_
  refine W.iret hx hb hr (fun t ht hW => ⟨⟨_, (), rfl, trivial, trivial⟩, by rw [ht]; exact Nat.le_refl _, fun q _ _ => by rw [ht]⟩) (fun q hq => by cases hq) dJ3_checkIndex_8e157_17 hlocks
theorem c_schk (E : zE) (adV : Nat → Nat) (A : Nat → Prop) (l : Launch) {i n : Int} (hi : inI i) (hn : inI n) (h0 : 0 ≤ i) (h1 : i < n) : Met l yJ0_checkIndex_df160 (Cond.code yJ0_checkIndex_df160 cJ0_checkIndex_df160 2 none :: zTB) ({ frames := 3, cells := 0, slots := 0, locals := 150 }) (va_Pc [.int (Int32.ofInt i), .int (Int32.ofInt n)] (fun U => z_strOK E adV A U U.heap)) (va_Qv (fun (_ : Unit) => True) (fun _ _ => True) (fun _ => False)) 0 0 (fun _ => False) := by
  refine Met.ofW (cc := cJ0_checkIndex_df160) (maxL := 2) (ret := none) (by decide) rfl ?_
  intro p e s m args below meth c s₁ B hml hv
  obtain ⟨rfl, hX⟩ := hv
  have hx := B.exec
  have hb := B.bytes
  have hr := B.returns
  have hlocks := B.notSynchronized
  have hts : ∀ q ∈ zTB, q.before _ s = true := fun q hq => atoms_spec (ws := Cond.code yJ0_checkIndex_df160 cJ0_checkIndex_df160 2 none :: zTB) B.pre q (List.mem_cons_of_mem _ hq)
  have hown : s.vm.findClass RJ0 = some m.cls := findClass_of_methodNamed B.named
  have hl := lv_entry ([.int (Int32.ofInt i), .int (Int32.ofInt n)]) (n := 2) (Nat.le_of_ble_eq_true rfl)
  rw [lg_entry_eq]
  generalize (lg_sl ([.int (Int32.ofInt i), .int (Int32.ofInt n)]) ++ List.replicate (2 - (lg_sl ([.int (Int32.ofInt i), .int (Int32.ofInt n)])).length) Slot.unset).toArray = ls at hl ⊢
  have hl : lv_has ls 2 [(0, .int (Int32.ofInt i)), (1, .int (Int32.ofInt n))] := hl
  have hS : va_S (fun _ => False) s.heap s.heap [] := va_S.rf
  have hS2 : va_S A s.heap s.heap [] := va_S.rf
  refine lv_iload_n hx hb dJ0_checkIndex_df160_0 rfl (lv_at hl 0 rfl) ?_
  refine lv_iload_n hx hb dJ0_checkIndex_df160_1 rfl (lv_at hl 1 rfl) ?_
  have go : ∀ f : Value, (f = .null ∨ ∃ a, f = .ref a) → va_Z "jdk/internal/util/Preconditions" "SIOOBE_FORMATTER" "Ljava/util/function/BiFunction;" f A s s.heap → W p l e (headSpec (Cond.code yJ0_checkIndex_df160 cJ0_checkIndex_df160 2 none :: zTB) ({ frames := 3, cells := 0, slots := 0, locals := 150 })).room s m #[Value.int (Int32.ofInt i), Value.int (Int32.ofInt n)] below meth c s.heap [] 0 0 (MQ below (va_Qv (fun (_ : Unit) => True) (fun _ _ => True) (fun _ => False)) #[Value.int (Int32.ofInt i), Value.int (Int32.ofInt n)] s 0 0 (fun _ => False)) (F0 m (0 + 1 + 1) ls [.int (Int32.ofInt n), .int (Int32.ofInt i)]) := by
    intro f hf hZ
    refine va_gets hx hb hZ hS2 hown (hts _ k_FMT) (fun x hx => hx) dJ0_checkIndex_df160_2 ?_
    refine va_calli (a := [.int (Int32.ofInt i), .int (Int32.ofInt n), f].toArray) (A0 := fun _ => False) (A1 := fun _ => False) (mc := 0) (ms := 0) (free := fun _ => False) (post := fun x (_ : Unit) => True) (B := fun _ _ => True) (rest := []) (va_runS (As := [.int (Int32.ofInt i), .int (Int32.ofInt n), f]) ⟨hx, hb, hml, hown, hts⟩ (c_pchk l hi hn h0 h1 hf) ⟨callB_of 3 hts k_PG rfl rfl rfl (hts _ k_PI) (hts _ k_PL) ⟨by decide, by decide, by decide +kernel⟩ ⟨Nat.le_of_ble_eq_true rfl, Nat.le_of_ble_eq_true rfl⟩, hts _ k_PS⟩ ⟨fun a U g mk q => q, fun U hU hW => ⟨rfl, trivial⟩⟩ rfl rfl hl.1 rfl (lv_room (Nat.le_of_ble_eq_true rfl)) dJ0_checkIndex_df160_5 ⟨Nat.le_of_ble_eq_true rfl, Nat.le_of_ble_eq_true rfl⟩) hS (fun q _ h => h) (fun q h => h) (fun x u t H1 locs1 ht hvm hw hB hz hk hS1 => ?_)
    refine lv_pop hx hb dJ0_checkIndex_df160_8 rfl ?_
    exact W.vret hx hb hr (fun t2 ht2 hW2 => ⟨⟨(), rfl, trivial, trivial⟩, hS1.F ht2⟩) hS1.2.2 dJ0_checkIndex_df160_9 hlocks
  rcases hX.2.2.2.1 with hZ | ⟨t, hZ⟩
  · exact go _ (Or.inl rfl) hZ
  · exact go _ (Or.inr ⟨t, rfl⟩) hZ
section IMP
variable {E : zE} {A : Nat → Prop} {adV : Nat → Nat} {l : Launch} {cc : ByteArray} {own : String} {nL : Nat} {rt : Option FieldType} {bp : Nat → Nat} {pc : Nat} {as : List zA}
theorem im_chk {idx : Nat} (hw : Cond.methodLink own idx yJ0_checkIndex_df160 ∈ zTB) (hd : decode cc pc = .ok (.invokestatic idx, 3)) (h : z_Imp E A (z_strOK E adV A) l cc own nL rt bp (pc + 3) as) : z_Imp E A (z_strOK E adV A) l cc own nL rt bp pc (a_chk :: as) := by
  refine im_mv h fun C G k ls st w r hb okl oks => ?_
  unfold a_chk at hb
  split at hb
  · next n s0 st1 =>
    obtain ⟨hq, hb2⟩ := z_bt hb
    clear hb
    obtain ⟨hp, hb3⟩ := gd_some.mp hb2
    clear hb2
    refine ⟨ls, _, w, hb3, okl, oks.t.t, fun d r p e R s m args below meth c cells slots Q cx H locs lv hR hS hL k => ?_⟩
    have hts := cx.2.2.2.2.1
    have hRm := cx.2.2.2.2.2.2.1
    have hX := cx.2.2.2.2.2.2.2.1
    refine va_callv (a := [.int (Int32.ofInt s0), .int (Int32.ofInt n)].toArray) (A0 := A) (A1 := fun _ => False) (mc := 0) (ms := 0) (free := fun _ => False) (post := fun (_ : Unit) => True) (B := fun _ _ => True) (rest := st1.map (z_cv E)) (va_runS (As := [.int (Int32.ofInt s0), .int (Int32.ofInt n)]) ⟨cx.1, cx.2.1, cx.2.2.1, cx.2.2.2.1, hts⟩ (c_schk E adV A l oks.t.h oks.h hp.1 hp.2) ⟨callB_of 2 hts k_SG rfl rfl rfl (hts _ k_SI) (hts _ hw) ⟨by decide, by decide, by decide +kernel⟩ ⟨by show 3 + 1 ≤ R.frames; omega, by show 8 + (2 + 11) + 150 ≤ R.locals; omega⟩, hts _ k_SS⟩ ⟨fun a U g mk q => ⟨q.1, (z_strXP E adV A).2 U (U.calling g mk a) U.heap q.2 (State.WarmedH.refl U)⟩, fun U hU hW => ⟨rfl, by show z_strOK E adV A U U.heap; rw [hU]; exact (z_strXP E adV A).2 s U H (hX H locs hS) hW⟩⟩ rfl rfl hL.1 rfl (lv_room (by rw [z_sz_sum]; exact Nat.le_of_ble_eq_true hq)) hd ⟨hRm.2.2.1, hRm.2.2.2⟩) hS (fun q _ h => absurd h id) (fun q h => absurd h id) (fun u t H1 locs1 ht hvm hw hB hz hk hS1 => ?_)
    refine k H1 locs1 lv ?_ hS1 hL
    refine ⟨fun c i hv => (hR.1 c i hv).kept (hk _ (hR.1 c i hv).lt id), hR.2⟩
  · cases hb
end IMP
