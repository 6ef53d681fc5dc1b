/-! arrays -/
theorem z_kd_out {c : Nat} (h : 80 ≤ c) : z_kd c = 0 := by
  unfold z_kd
  rw [List.getD_eq_getElem?_getD, List.getElem?_eq_none (by show z_kdL.length ≤ c; exact Nat.le_trans (by decide) h)]
  rfl
theorem z_ak_all : ∀ c < 80, (z_kd c = 1 → z_ak c = 0) ∧ (z_kd c = 2 → z_ak c = 1) ∧ (z_kd c = 3 → z_ak c = 2) ∧ (z_kd c = 4 → z_ak c = 3) := by decide +kernel
theorem z_akk (c : Nat) : (z_kd c = 1 → z_ak c = 0) ∧ (z_kd c = 2 → z_ak c = 1) ∧ (z_kd c = 3 → z_ak c = 2) ∧ (z_kd c = 4 → z_ak c = 3) := by
  rcases Nat.lt_or_ge c 80 with q | q
  · exact z_ak_all c q
  · rw [z_kd_out q]
    exact ⟨fun h => absurd h (by decide), fun h => absurd h (by decide), fun h => absurd h (by decide), fun h => absurd h (by decide)⟩
theorem z_ent_i {E : zE} {c : Nat} {i : Int} {w : zW} (h : z_kd c = 1 ∨ z_kd c = 2 ∨ z_kd c = 3) : z_ent E c i w = .inl (E.2.1 (z_ak c), ((z_ln c).toNat, .inl fun j => Int32.ofInt (w c i j))) := by
  unfold z_ent
  rw [if_neg (by omega), if_neg (by omega), if_neg (by omega)]
theorem z_ent_l {E : zE} {c : Nat} {i : Int} {w : zW} (h : z_kd c = 4) : z_ent E c i w = .inl (E.2.1 (z_ak c), ((z_ln c).toNat, .inr (.inl fun j => Int64.ofInt (w c i j)))) := by
  unfold z_ent
  rw [if_neg (by omega), if_pos h]
theorem z_ent_r {E : zE} {c : Nat} {i : Int} {w : zW} (h : z_kd c = 5) : z_ent E c i w = .inl (E.2.1 (z_ak c), ((z_ln c).toNat, .inr (.inr (.inr (.inr fun j => some (E.2.2 (z_ra c).1 ((z_ra c).2 + j))))))) := by
  unfold z_ent
  rw [if_neg (by omega), if_neg (by omega), if_pos h]
theorem z_rng_i {c : Nat} {s v : Int} (h : z_kd c = 1 ∨ z_kd c = 2 ∨ z_kd c = 3) (hr : z_rng c s v) : inI v := by
  unfold z_rng at hr
  rcases h with h | h | h
  · rw [if_neg (by omega), if_pos h] at hr; exact hr
  · rw [if_neg (by omega), if_neg (by omega), if_pos h] at hr; exact ⟨by omega, by omega⟩
  · rw [if_neg (by omega), if_neg (by omega), if_neg (by omega), if_pos h] at hr; exact ⟨by omega, by omega⟩
theorem z_rng_l {c : Nat} {s v : Int} (h : z_kd c = 4) (hr : z_rng c s v) : inL v := by
  unfold z_rng at hr
  rw [if_neg (by omega), if_neg (by omega), if_neg (by omega), if_neg (by omega), if_pos h] at hr
  exact hr
theorem z_rng1 {c : Nat} {s v : Int} (h : z_kd c = 1) (hv : inI v) : z_rng c s v := by
  unfold z_rng
  rw [if_neg (by omega), if_pos h]
  exact hv
theorem z_rng2 {c : Nat} {s v : Int} (h : z_kd c = 2) (hv : -128 ≤ v ∧ v ≤ 127) : z_rng c s v := by
  unfold z_rng
  rw [if_neg (by omega), if_neg (by omega), if_pos h]
  exact hv
theorem z_rng3 {c : Nat} {s v : Int} (h : z_kd c = 3) (hv : 0 ≤ v ∧ v ≤ 1) : z_rng c s v := by
  unfold z_rng
  rw [if_neg (by omega), if_neg (by omega), if_neg (by omega), if_pos h]
  exact hv
theorem z_rng4 {c : Nat} {s v : Int} (h : z_kd c = 4) (hv : inL v) : z_rng c s v := by
  unfold z_rng
  rw [if_neg (by omega), if_neg (by omega), if_neg (by omega), if_neg (by omega), if_pos h]
  exact hv
section IMP
variable {E : zE} {A : Nat → Prop} {XH : State → Heap → Prop} {l : Launch} {cc : ByteArray} {own : String} {nL : Nat} {rt : Option FieldType} {bp : Nat → Nat} {pc : Nat} {as : List zA}
theorem n_cast {s : Int} (h : 0 ≤ s) : ((s.toNat : Nat) : Int) = s := by omega
/-- a whole number of an array is read -/
theorem mv_ald {c : Nat} {i s : Int} {ls : zL} {st : zS} {w : zW} (hk : z_kd c = 1 ∧ decode cc pc = .ok (.iaload, 1) ∨ z_kd c = 2 ∧ decode cc pc = .ok (.baload, 1) ∨ z_kd c = 3 ∧ decode cc pc = .ok (.baload, 1)) (hv : z_okr c i) (hs : inI s) (h0 : 0 ≤ s) (h1 : s < z_ln c) :
    z_Mv E A XH l cc own nL rt pc (pc + 1) ls (vI s :: vR c i :: st) w ls (vI (w c i s) :: st) w := by
  intro d r p e R s0 m args below meth cd cells slots Q cx H locs lv hR hS hL k
  have hk3 : z_kd c = 1 ∨ z_kd c = 2 ∨ z_kd c = 3 := by rcases hk with q | q | q <;> simp [q.1]
  obtain ⟨q, hq⟩ := z_W_ix (c := c) (i := i) ⟨hv, by omega⟩
  have h2 : (z_W E w)[q]? = some (E.2.2 c i, .inl (E.2.1 (z_ak c), ((z_ln c).toNat, .inl fun j => Int32.ofInt (w c i j)))) := by rw [z_W_get hq, z_ent_i hk3]
  have kk := k H locs lv hR hS hL
  have hin : vp_in (Int32.ofInt s) (z_ln c).toNat := n_vp hs h0 (by omega)
  have e1 : Int32.ofInt (w c i (((Int32.ofInt s).toNatClampNeg : Nat) : Int)) = Int32.ofInt (w c i s) := by rw [n_cl hs, n_cast h0]
  rcases hk with ⟨h, hd⟩ | ⟨h, hd⟩ | ⟨h, hd⟩
  · refine va_iald cx.1 cx.2.1 cx.2.2.2.2.2.1 hR.P q 0 h2 (by rw [(z_akk c).1 h]; rfl) hin hd ?_
    rw [e1]; exact kk
  · refine va_bald cx.1 cx.2.1 cx.2.2.2.2.2.1 hR.P q 1 h2 (by rw [(z_akk c).2.1 h]; rfl) hin hd ?_
    rw [e1]; exact kk
  · refine va_zald cx.1 cx.2.1 cx.2.2.2.2.2.1 hR.P q 2 h2 (by rw [(z_akk c).2.2.1 h]; rfl) hin hd ?_
    rw [e1]; exact kk
theorem mv_laldL {c : Nat} {i s : Int} {ls : zL} {st : zS} {w : zW} (hk : z_kd c = 4) (hd : decode cc pc = .ok (.laload, 1)) (hv : z_okr c i) (hs : inI s) (h0 : 0 ≤ s) (h1 : s < z_ln c) :
    z_Mv E A XH l cc own nL rt pc (pc + 1) ls (vI s :: vR c i :: st) w ls (vL (w c i s) :: st) w := by
  intro d r p e R s0 m args below meth cd cells slots Q cx H locs lv hR hS hL k
  obtain ⟨q, hq⟩ := z_W_ix (c := c) (i := i) ⟨hv, by omega⟩
  have h2 : (z_W E w)[q]? = some (E.2.2 c i, .inl (E.2.1 (z_ak c), ((z_ln c).toNat, .inr (.inl fun j => Int64.ofInt (w c i j))))) := by rw [z_W_get hq, z_ent_l hk]
  have kk := k H locs lv hR hS hL
  refine va_lald cx.1 cx.2.1 cx.2.2.2.2.2.1 hR.P q 3 h2 (by rw [(z_akk c).2.2.2 hk]; rfl) (n_vp hs h0 (by omega)) hd ?_
  rw [n_cl hs, n_cast h0]; exact kk
theorem im_aI {c : Nat} {L : Int} (hk : z_kd c = 1 ∧ decode cc pc = .ok (.iaload, 1) ∨ z_kd c = 2 ∧ decode cc pc = .ok (.baload, 1) ∨ z_kd c = 3 ∧ decode cc pc = .ok (.baload, 1)) (hL : z_ln c = L) (h : z_Imp E A XH l cc own nL rt bp (pc + 1) as) : z_Imp E A XH l cc own nL rt bp pc (a_aI c L :: as) := by
  intro d C G r hC hG ls st w hb okl oks p' e R s m args below meth cd cells slots Q cx H locs lv hR hS hLS
  unfold z_blk a_aI at hb
  split at hb
  · next s0 c' i st1 =>
    obtain ⟨hq, hb2⟩ := z_bt hb
    clear hb
    obtain ⟨hp, hb⟩ := gd_some.mp hb2
    clear hb2
    obtain rfl := Nat.eq_of_beq_eq_true hq
    have hk3 : z_kd c' = 1 ∨ z_kd c' = 2 ∨ z_kd c' = 3 := by rcases hk with q | q | q <;> simp [q.1]
    refine mv_ald (ls := ls) (st := st1) hk oks.t.h oks.h hp.1 (by rw [hL]; exact hp.2) d r p' e R s m args below meth cd cells slots Q cx H locs lv hR hS hLS (fun H1 locs1 lv1 hR1 hS1 hL1 => ?_)
    exact h d _ G r hC hG _ _ _ hb okl (oks.t.t.c (z_rng_i hk3 (hR.2 c' i s0))) p' e R s m args below meth cd cells slots Q cx H1 locs1 lv1 hR1 hS1 hL1
  · cases hb
theorem im_aIX (hd : decode cc pc = .ok (.iaload, 1)) (h : z_Imp E A XH l cc own nL rt bp (pc + 1) as) : z_Imp E A XH l cc own nL rt bp pc (a_aIX :: as) := by
  intro d C G r hC hG ls st w hb okl oks p' e R s m args below meth cd cells slots Q cx H locs lv hR hS hLS
  unfold z_blk a_aIX at hb
  split at hb
  · next s0 c' i st1 =>
    obtain ⟨hp, hb⟩ := gd_some.mp hb
    refine mv_ald (ls := ls) (st := st1) (Or.inl ⟨hp.1, hd⟩) oks.t.h oks.h hp.2.1 hp.2.2 d r p' e R s m args below meth cd cells slots Q cx H locs lv hR hS hLS (fun H1 locs1 lv1 hR1 hS1 hL1 => ?_)
    exact h d _ G r hC hG _ _ _ hb okl (oks.t.t.c (z_rng_i (Or.inl hp.1) (hR.2 c' i s0))) p' e R s m args below meth cd cells slots Q cx H1 locs1 lv1 hR1 hS1 hL1
  · cases hb
theorem im_aL {c : Nat} {L : Int} (hk : z_kd c = 4) (hd : decode cc pc = .ok (.laload, 1)) (hL : z_ln c = L) (h : z_Imp E A XH l cc own nL rt bp (pc + 1) as) : z_Imp E A XH l cc own nL rt bp pc (a_aL c L :: as) := by
  intro d C G r hC hG ls st w hb okl oks p' e R s m args below meth cd cells slots Q cx H locs lv hR hS hLS
  unfold z_blk a_aL at hb
  split at hb
  · next s0 c' i st1 =>
    obtain ⟨hq, hb2⟩ := z_bt hb
    clear hb
    obtain ⟨hp, hb⟩ := gd_some.mp hb2
    clear hb2
    obtain rfl := Nat.eq_of_beq_eq_true hq
    refine mv_laldL (ls := ls) (st := st1) hk hd oks.t.h oks.h hp.1 (by rw [hL]; exact hp.2) d r p' e R s m args below meth cd cells slots Q cx H locs lv hR hS hLS (fun H1 locs1 lv1 hR1 hS1 hL1 => ?_)
    exact h d _ G r hC hG _ _ _ hb okl (oks.t.t.c (z_rng_l hk (hR.2 c' i s0))) p' e R s m args below meth cd cells slots Q cx H1 locs1 lv1 hR1 hS1 hL1
  · cases hb
theorem im_aLX (hd : decode cc pc = .ok (.laload, 1)) (h : z_Imp E A XH l cc own nL rt bp (pc + 1) as) : z_Imp E A XH l cc own nL rt bp pc (a_aLX :: as) := by
  intro d C G r hC hG ls st w hb okl oks p' e R s m args below meth cd cells slots Q cx H locs lv hR hS hLS
  unfold z_blk a_aLX at hb
  split at hb
  · next s0 c' i st1 =>
    obtain ⟨hp, hb⟩ := gd_some.mp hb
    refine mv_laldL (ls := ls) (st := st1) hp.1 hd oks.t.h oks.h hp.2.1 hp.2.2 d r p' e R s m args below meth cd cells slots Q cx H locs lv hR hS hLS (fun H1 locs1 lv1 hR1 hS1 hL1 => ?_)
    exact h d _ G r hC hG _ _ _ hb okl (oks.t.t.c (z_rng_l hp.1 (hR.2 c' i s0))) p' e R s m args below meth cd cells slots Q cx H1 locs1 lv1 hR1 hS1 hL1
  · cases hb
theorem im_aR {c t0 c2 : Nat} {L x : Int} {C2 : String} (hk : z_kd c = 5) (hd : decode cc pc = .ok (.aaload, 1)) (hL : z_ln c = L) (ht : (z_tys E)[t0]? = some (E.2.1 (z_ak c), .object C2)) (hra : z_ra c = (c2, x)) (hx : 0 ≤ x ∧ x + L ≤ z_nin c2) (h : z_Imp E A XH l cc own nL rt bp (pc + 1) as) : z_Imp E A XH l cc own nL rt bp pc (a_aR c L c2 x :: as) := by
  refine im_mv h fun C G k ls st w r hb okl oks => ?_
  unfold a_aR at hb
  split at hb
  · next s0 c' i st1 =>
    obtain ⟨hq, hb2⟩ := z_bt hb
    clear hb
    obtain ⟨hp, hb⟩ := gd_some.mp hb2
    clear hb2
    obtain rfl := Nat.eq_of_beq_eq_true hq
    refine ⟨ls, _, w, hb, okl, oks.t.t.c (show z_okr c2 (x + s0) from ⟨by omega, by omega⟩), fun d r p e R s m args below meth cd cells slots Q cx H locs lv hR hS hLS k => ?_⟩
    obtain ⟨q, hq⟩ := z_W_ix (c := c') (i := i) ⟨oks.t.h, by omega⟩
    have h2 : (z_W E w)[q]? = some (E.2.2 c' i, .inl (E.2.1 (z_ak c'), ((z_ln c').toNat, .inr (.inr (.inr (.inr fun j => some (E.2.2 (z_ra c').1 ((z_ra c').2 + j)))))))) := by rw [z_W_get hq, z_ent_r hk]
    refine va_aldq cx.1 cx.2.1 cx.2.2.2.2.2.1 hR.P q t0 h2 ht (n_vp oks.h hp.1 (by omega)) hd ?_
    rw [n_cl oks.h, n_cast hp.1, hra]
    exact k H locs lv hR hS hLS
  · cases hb
/-- stores -/
theorem mv_sI {c : Nat} {i s v : Int} {ls : zL} {st : zS} {w : zW} (hA : z_Ad1 E A) (hk : z_kd c = 1 ∧ decode cc pc = .ok (.iastore, 1) ∨ (z_kd c = 2 ∧ -128 ≤ v ∧ v ≤ 127) ∧ decode cc pc = .ok (.bastore, 1) ∨ (z_kd c = 3 ∧ 0 ≤ v ∧ v ≤ 1) ∧ decode cc pc = .ok (.bastore, 1)) (hv : z_okr c i) (hs : inI s) (hvv : inI v) (h0 : 0 ≤ s) (h1 : s < z_ln c) :
    z_Mv E A XH l cc own nL rt pc (pc + 1) ls (vI v :: vI s :: vR c i :: st) w ls st (z_up w c i s v) := by
  intro d r p e R s0 m args below meth cd cells slots Q cx H locs lv hR hS hL k
  have hk3 : z_kd c = 1 ∨ z_kd c = 2 ∨ z_kd c = 3 := by rcases hk with q | q | q <;> simp [q.1]
  obtain ⟨q, hq⟩ := z_W_ix (c := c) (i := i) ⟨hv, by omega⟩
  have h2 : (z_W E w)[q]? = some (E.2.2 c i, .inl (E.2.1 (z_ak c), ((z_ln c).toNat, .inl fun j => Int32.ofInt (w c i j)))) := by rw [z_W_get hq, z_ent_i hk3]
  have hin : vp_in (Int32.ofInt s) (z_ln c).toNat := n_vp hs h0 (by omega)
  have hset : (z_W E w).set q (E.2.2 c i, .inl (E.2.1 (z_ak c), ((z_ln c).toNat, .inl (upd (fun j => Int32.ofInt (w c i j)) (Int32.ofInt s).toNatClampNeg (Int32.ofInt v))))) = z_W E (z_up w c i s v) := by
    refine z_W_set hq ?_ (fun c' i' hne s' => z_up_ne hne s')
    rw [z_ent_i hk3]
    congr 4
    funext j
    rw [n_cl hs, z_up_at]
    unfold upd
    by_cases hj : j = s.toNat
    · rw [if_pos hj, if_pos (by omega)]
    · rw [if_neg hj, if_neg (by omega)]
  have hcan : z_can (z_up w c i s v) := by
    refine z_can_up hR.2 ?_
    rcases hk with ⟨h, -⟩ | ⟨h, -⟩ | ⟨h, -⟩
    · exact z_rng1 h hvv
    · exact z_rng2 h.1 h.2
    · exact z_rng3 h.1 h.2
  rcases hk with ⟨h, hd⟩ | ⟨h, hd⟩ | ⟨h, hd⟩
  · refine va_iast cx.1 cx.2.1 cx.2.2.2.2.2.1 hR.P (hA.D w) hS q 0 h2 (by rw [(z_akk c).1 h]; rfl) hin hd fun H1 locs1 hP1 hD1 hS1 => ?_
    rw [hset] at hP1
    exact k H1 locs1 lv (z_Rel.of hP1 hcan) hS1 hL
  · refine va_bast cx.1 cx.2.1 cx.2.2.2.2.2.1 hR.P (hA.D w) hS q 1 h2 (by rw [(z_akk c).2.1 h.1]; rfl) hin hd fun H1 locs1 hP1 hD1 hS1 => ?_
    have e1 : vp_nar .byte (Int32.ofInt v) = Int32.ofInt v := by
      rw [vp_nar_byte, (n_w8 v hvv).1]
      congr 1
      unfold z_w8
      omega
    rw [e1, hset] at hP1
    exact k H1 locs1 lv (z_Rel.of hP1 hcan) hS1 hL
  · refine va_zast cx.1 cx.2.1 cx.2.2.2.2.2.1 hR.P (hA.D w) hS q 2 h2 (by rw [(z_akk c).2.2.1 h.1]; rfl) hin hd fun H1 locs1 hP1 hD1 hS1 => ?_
    have e1 : vp_nar .boolean (Int32.ofInt v) = Int32.ofInt v := by
      have hz : v = 0 ∨ v = 1 := by omega
      rcases hz with rfl | rfl <;> decide
    rw [e1, hset] at hP1
    exact k H1 locs1 lv (z_Rel.of hP1 hcan) hS1 hL
theorem mv_sL {c : Nat} {i s v : Int} {ls : zL} {st : zS} {w : zW} (hA : z_Ad1 E A) (hk : z_kd c = 4) (hd : decode cc pc = .ok (.lastore, 1)) (hv : z_okr c i) (hs : inI s) (hvv : inL v) (h0 : 0 ≤ s) (h1 : s < z_ln c) :
    z_Mv E A XH l cc own nL rt pc (pc + 1) ls (vL v :: vI s :: vR c i :: st) w ls st (z_up w c i s v) := by
  intro d r p e R s0 m args below meth cd cells slots Q cx H locs lv hR hS hL k
  obtain ⟨q, hq⟩ := z_W_ix (c := c) (i := i) ⟨hv, by omega⟩
  have h2 : (z_W E w)[q]? = some (E.2.2 c i, .inl (E.2.1 (z_ak c), ((z_ln c).toNat, .inr (.inl fun j => Int64.ofInt (w c i j))))) := by rw [z_W_get hq, z_ent_l hk]
  have hset : (z_W E w).set q (E.2.2 c i, .inl (E.2.1 (z_ak c), ((z_ln c).toNat, .inr (.inl (vp_updL (fun j => Int64.ofInt (w c i j)) (Int32.ofInt s).toNatClampNeg (Int64.ofInt v)))))) = z_W E (z_up w c i s v) := by
    refine z_W_set hq ?_ (fun c' i' hne s' => z_up_ne hne s')
    rw [z_ent_l hk]
    congr 5
    funext j
    rw [n_cl hs, z_up_at]
    unfold vp_updL
    by_cases hj : j = s.toNat
    · rw [if_pos hj, if_pos (by omega)]
    · rw [if_neg hj, if_neg (by omega)]
  refine va_last cx.1 cx.2.1 cx.2.2.2.2.2.1 hR.P (hA.D w) hS q 3 h2 (by rw [(z_akk c).2.2.2 hk]; rfl) (n_vp hs h0 (by omega)) hd fun H1 locs1 hP1 hD1 hS1 => ?_
  rw [hset] at hP1
  exact k H1 locs1 lv (z_Rel.of hP1 (z_can_up hR.2 (z_rng4 hk hvv))) hS1 hL
theorem im_sN {c : Nat} {L : Int} (hA : z_Ad1 E A) (hk : z_kd c = 1) (hd : decode cc pc = .ok (.iastore, 1)) (hL : z_ln c = L) (h : z_Imp E A XH l cc own nL rt bp (pc + 1) as) : z_Imp E A XH l cc own nL rt bp pc (a_sN c L :: as) := by
  refine im_mv h fun C G k ls st w r hb okl oks => ?_
  unfold a_sN at hb
  split at hb
  · next v0 s0 c' i st1 =>
    obtain ⟨hq, hb2⟩ := z_bt hb
    clear hb
    obtain ⟨hp, hb⟩ := gd_some.mp hb2
    clear hb2
    obtain rfl := Nat.eq_of_beq_eq_true hq
    exact ⟨ls, _, _, hb, okl, oks.t.t.t, mv_sI hA (Or.inl ⟨hk, hd⟩) oks.t.t.h oks.t.h oks.h hp.1 (by rw [hL]; exact hp.2)⟩
  · cases hb
theorem im_sNX (hA : z_Ad1 E A) (hd : decode cc pc = .ok (.iastore, 1)) (h : z_Imp E A XH l cc own nL rt bp (pc + 1) as) : z_Imp E A XH l cc own nL rt bp pc (a_sNX :: as) := by
  refine im_mv h fun C G k ls st w r hb okl oks => ?_
  unfold a_sNX at hb
  split at hb
  · next v0 s0 c' i st1 =>
    obtain ⟨hp, hb⟩ := gd_some.mp hb
    exact ⟨ls, _, _, hb, okl, oks.t.t.t, mv_sI hA (Or.inl ⟨hp.1, hd⟩) oks.t.t.h oks.t.h oks.h hp.2.1 hp.2.2⟩
  · cases hb
theorem im_sB {c : Nat} {L : Int} (hA : z_Ad1 E A) (hk : z_kd c = 2) (hd : decode cc pc = .ok (.bastore, 1)) (hL : z_ln c = L) (h : z_Imp E A XH l cc own nL rt bp (pc + 1) as) : z_Imp E A XH l cc own nL rt bp pc (a_sI c L (-128) 127 :: as) := by
  refine im_mv h fun C G k ls st w r hb okl oks => ?_
  unfold a_sI at hb
  split at hb
  · next v0 s0 c' i st1 =>
    obtain ⟨hq, hb2⟩ := z_bt hb
    clear hb
    obtain ⟨hp, hb3⟩ := gd_some.mp hb2
    clear hb2
    obtain ⟨hp2, hb⟩ := gd_some.mp hb3
    clear hb3
    obtain rfl := Nat.eq_of_beq_eq_true hq
    exact ⟨ls, _, _, hb, okl, oks.t.t.t, mv_sI hA (Or.inr (Or.inl ⟨⟨hk, hp2⟩, hd⟩)) oks.t.t.h oks.t.h oks.h hp.1 (by rw [hL]; exact hp.2)⟩
  · cases hb
theorem im_sZ {c : Nat} {L : Int} (hA : z_Ad1 E A) (hk : z_kd c = 3) (hd : decode cc pc = .ok (.bastore, 1)) (hL : z_ln c = L) (h : z_Imp E A XH l cc own nL rt bp (pc + 1) as) : z_Imp E A XH l cc own nL rt bp pc (a_sI c L 0 1 :: as) := by
  refine im_mv h fun C G k ls st w r hb okl oks => ?_
  unfold a_sI at hb
  split at hb
  · next v0 s0 c' i st1 =>
    obtain ⟨hq, hb2⟩ := z_bt hb
    clear hb
    obtain ⟨hp, hb3⟩ := gd_some.mp hb2
    clear hb2
    obtain ⟨hp2, hb⟩ := gd_some.mp hb3
    clear hb3
    obtain rfl := Nat.eq_of_beq_eq_true hq
    exact ⟨ls, _, _, hb, okl, oks.t.t.t, mv_sI hA (Or.inr (Or.inr ⟨⟨hk, hp2⟩, hd⟩)) oks.t.t.h oks.t.h oks.h hp.1 (by rw [hL]; exact hp.2)⟩
  · cases hb
theorem im_sL {c : Nat} {L : Int} (hA : z_Ad1 E A) (hk : z_kd c = 4) (hd : decode cc pc = .ok (.lastore, 1)) (hL : z_ln c = L) (h : z_Imp E A XH l cc own nL rt bp (pc + 1) as) : z_Imp E A XH l cc own nL rt bp pc (a_sL c L :: as) := by
  refine im_mv h fun C G k ls st w r hb okl oks => ?_
  unfold a_sL at hb
  split at hb
  · next v0 s0 c' i st1 =>
    obtain ⟨hq, hb2⟩ := z_bt hb
    clear hb
    obtain ⟨hp, hb⟩ := gd_some.mp hb2
    clear hb2
    obtain rfl := Nat.eq_of_beq_eq_true hq
    exact ⟨ls, _, _, hb, okl, oks.t.t.t, mv_sL hA hk hd oks.t.t.h oks.t.h oks.h hp.1 (by rw [hL]; exact hp.2)⟩
  · cases hb
theorem im_sLX (hA : z_Ad1 E A) (hd : decode cc pc = .ok (.lastore, 1)) (h : z_Imp E A XH l cc own nL rt bp (pc + 1) as) : z_Imp E A XH l cc own nL rt bp pc (a_sLX :: as) := by
  refine im_mv h fun C G k ls st w r hb okl oks => ?_
  unfold a_sLX at hb
  split at hb
  · next v0 s0 c' i st1 =>
    obtain ⟨hp, hb⟩ := gd_some.mp hb
    exact ⟨ls, _, _, hb, okl, oks.t.t.t, mv_sL hA hp.1 hd oks.t.t.h oks.t.h oks.h hp.2.1 hp.2.2⟩
  · cases hb
/-- a length -/
theorem z_ln_ok : ∀ c < 80, 0 ≤ z_ln c ∧ z_ln c < 100000 := by decide +kernel
theorem z_lnk (c : Nat) : 0 ≤ z_ln c ∧ z_ln c < 100000 := by
  rcases Nat.lt_or_ge c 80 with q | q
  · exact z_ln_ok c q
  · unfold z_ln
    rw [List.getD_eq_getElem?_getD, List.getElem?_eq_none (by show z_lnL.length ≤ c; exact Nat.le_trans (by decide) q)]
    decide
theorem mv_len {c : Nat} {i : Int} {ls : zL} {st : zS} {w : zW} (hk : z_kd c = 1 ∨ z_kd c = 2 ∨ z_kd c = 3 ∨ z_kd c = 4) (hd : decode cc pc = .ok (.arraylength, 1)) (hv : z_okr c i) :
    z_Mv E A XH l cc own nL rt pc (pc + 1) ls (vR c i :: st) w ls (vI (z_ln c) :: st) w := by
  intro d r p e R s0 m args below meth cd cells slots Q cx H locs lv hR hS hL k
  obtain ⟨q, hq⟩ := z_W_ix (c := c) (i := i) ⟨hv, by omega⟩
  have kk := k H locs lv hR hS hL
  have e1 : Int32.ofNat (z_ln c).toNat = Int32.ofInt (z_ln c) := by
    have := (z_lnk c).1
    obtain ⟨n, hn⟩ : ∃ n : Nat, z_ln c = (n : Int) := ⟨(z_ln c).toNat, by omega⟩
    rw [hn]
    rfl
  rcases hk with h | h | h | h
  · exact va_alen cx.1 cx.2.1 cx.2.2.2.2.2.1 hR.P q 0 (by rw [z_W_get hq, z_ent_i (Or.inl h)]) (by rw [(z_akk c).1 h]; rfl) e1 hd kk
  · exact va_alen cx.1 cx.2.1 cx.2.2.2.2.2.1 hR.P q 1 (by rw [z_W_get hq, z_ent_i (Or.inr (Or.inl h))]) (by rw [(z_akk c).2.1 h]; rfl) e1 hd kk
  · exact va_alen cx.1 cx.2.1 cx.2.2.2.2.2.1 hR.P q 2 (by rw [z_W_get hq, z_ent_i (Or.inr (Or.inr h))]) (by rw [(z_akk c).2.2.1 h]; rfl) e1 hd kk
  · exact va_alen cx.1 cx.2.1 cx.2.2.2.2.2.1 hR.P q 3 (by rw [z_W_get hq, z_ent_l h]) (by rw [(z_akk c).2.2.2 h]; rfl) e1 hd kk
theorem im_len {c : Nat} {L : Int} (hk : z_kd c = 1 ∨ z_kd c = 2 ∨ z_kd c = 3 ∨ z_kd c = 4) (hd : decode cc pc = .ok (.arraylength, 1)) (hL : z_ln c = L) (h : z_Imp E A XH l cc own nL rt bp (pc + 1) as) : z_Imp E A XH l cc own nL rt bp pc (a_len c L :: as) := by
  refine im_mv h fun C G k ls st w r hb okl oks => ?_
  unfold a_len at hb
  split at hb
  · next c' i st1 =>
    obtain ⟨hq, hb2⟩ := z_bt hb
    clear hb
    obtain rfl := Nat.eq_of_beq_eq_true hq
    subst hL
    have := z_lnk c'
    exact ⟨ls, _, w, hb2, okl, oks.t.c (show inI _ from ⟨by omega, by omega⟩), mv_len hk hd oks.h⟩
  · cases hb
/-- arrays handed over: of whole numbers or longs -/
theorem im_lenX (hd : decode cc pc = .ok (.arraylength, 1)) (h : z_Imp E A XH l cc own nL rt bp (pc + 1) as) : z_Imp E A XH l cc own nL rt bp pc (a_lenX :: as) := by
  refine im_mv h fun C G k ls st w r hb okl oks => ?_
  unfold a_lenX at hb
  split at hb
  · next c i st1 =>
    have := z_lnk c
    obtain ⟨hp, hb⟩ := gd_some.mp hb
    exact ⟨ls, _, w, hb, okl, oks.t.c (show inI _ from ⟨by omega, by omega⟩), mv_len (by omega) hd oks.h⟩
  · cases hb
end IMP
