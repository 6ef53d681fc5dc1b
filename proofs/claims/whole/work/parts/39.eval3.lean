/-! the model's run -/
def mk (w : zW) (S : Int → Int) (h : Int) : zW := z_up (z_row w 68 0 S) 11 0 30 h
theorem mk_top {w : zW} {S : Int → Int} {h : Int} : mk w S h 11 0 30 = h := up_h
theorem mk_68 {w : zW} {S : Int → Int} {h j : Int} : mk w S h 68 0 j = S j := (up_c (by decide)).trans (row_h j)
theorem mk_o {w : zW} {S : Int → Int} {h : Int} {c : Nat} (h1 : c ≠ 68) (h2 : c ≠ 11) {i j : Int} : mk w S h c i j = w c i j := (up_c h2).trans (row_c h1)
theorem mk_11 {w : zW} {S : Int → Int} {h j : Int} (h1 : j ≠ 30) {i : Int} : mk w S h 11 i j = w 11 i j := (up_s h1).trans (row_c (by decide))
theorem mk_pop {w : zW} {S : Int → Int} {h h' : Int} : z_up (mk w S h) 11 0 30 h' = mk w S h' := by
  funext c i s
  unfold mk z_up
  by_cases hc : c = 11 ∧ s = 30 ∧ i = 0
  · rw [if_pos hc, if_pos hc]
  · rw [if_neg hc, if_neg hc, if_neg hc]
theorem mk_push {w : zW} {S : Int → Int} {h h' k v : Int} : z_up (z_up (mk w S h) 68 0 k v) 11 0 30 h' = mk w (upF S k v) h' := by
  funext c i s
  unfold mk z_up z_row upF
  by_cases hc : c = 11 ∧ s = 30 ∧ i = 0
  · rw [if_pos hc, if_pos hc]
  · rw [if_neg hc, if_neg hc, if_neg hc]
    by_cases h1 : c = 68
    · by_cases h2 : i = 0
      · by_cases h3 : s = k
        · rw [if_pos ⟨h1, h3, h2⟩, if_pos ⟨h1, h2⟩, if_pos h3]
        · rw [if_neg (fun q => h3 q.2.1), if_pos ⟨h1, h2⟩, if_pos ⟨h1, h2⟩, if_neg h3]
      · rw [if_neg (fun q => h2 q.2.2), if_neg (fun q => h2 q.2), if_neg (fun q => h2 q.2)]
    · rw [if_neg (fun q => h1 q.1), if_neg (fun q => h1 q.1), if_neg (fun q => h1 q.1)]
theorem mk_mk {w : zW} {S S' : Int → Int} {h h' : Int} : mk (mk w S h) S' h' = mk w S' h' := by
  funext c i s
  unfold mk z_up z_row
  by_cases hc : c = 11 ∧ s = 30 ∧ i = 0
  · rw [if_pos hc, if_pos hc]
  · rw [if_neg hc, if_neg hc]
    by_cases h2 : c = 68 ∧ i = 0
    · rw [if_pos h2, if_pos h2]
    · rw [if_neg h2, if_neg h2]
      dsimp only
      rw [if_neg hc, if_neg h2]
theorem mk_self (w : zW) (h' : Int) : z_up w 11 0 30 h' = mk w (w 68 0) h' := by
  unfold mk
  rw [row_self]
theorem m_push {d : Nat} {v h : Int} {w : zW} {S : Int → Int} (hh : 0 ≤ h ∧ h < 64) : M_push d v (mk w S h) = some (0, mk w (upF S h v) (h + 1)) := by
  rw [e_M_push, mk_top, gd_t hh, gd_t (by omega), mk_push]
theorem m_pop {d : Nat} {h : Int} {w : zW} {S : Int → Int} (hh : 1 ≤ h ∧ h ≤ 64) : M_pop d (mk w S h) = some (S (h - 1), mk w S (h - 1)) := by
  rw [e_M_pop, mk_top, gd_t (by omega), gd_t (by omega), mk_68, mk_pop]
theorem m_one {d : Nat} {op a b : Int} {w : zW} (ho : 2 ≤ op ∧ op ≤ 13 ∧ op ≠ 11) : M_one d op a b w = some (one op a b, w) := by
  have : op = 2 ∨ op = 3 ∨ op = 4 ∨ op = 5 ∨ op = 6 ∨ op = 7 ∨ op = 8 ∨ op = 9 ∨ op = 10 ∨ op = 12 ∨ op = 13 := by omega
  rw [e_M_one]
  rcases this with rfl | rfl | rfl | rfl | rfl | rfl | rfl | rfl | rfl | rfl | rfl
  · rfl
  · rfl
  · rfl
  · have hc : one 5 a b = if b = 0 then 0 else z_wL (Int.tdiv a b) := rfl
    rw [hc, if_neg (by decide), if_neg (by decide), if_neg (by decide), if_pos rfl]
    by_cases hb : b = 0
    · rw [if_pos hb, if_pos hb]
    · rw [if_neg hb, if_neg hb, gd_t hb]
  · have hc : one 6 a b = if b ≤ a then 0 else 1 := rfl
    rw [hc, if_neg (by decide), if_neg (by decide), if_neg (by decide), if_neg (by decide), if_pos rfl]
    split <;> rfl
  · have hc : one 7 a b = if b < a then 0 else 1 := rfl
    rw [hc, if_neg (by decide), if_neg (by decide), if_neg (by decide), if_neg (by decide), if_neg (by decide), if_pos rfl]
    split <;> rfl
  · have hc : one 8 a b = if a = b then 1 else 0 := rfl
    rw [hc, if_neg (by decide), if_neg (by decide), if_neg (by decide), if_neg (by decide), if_neg (by decide), if_neg (by decide), if_pos rfl]
    split <;> rfl
  · have hc : one 9 a b = if a < b then 0 else 1 := rfl
    rw [hc, if_neg (by decide), if_neg (by decide), if_neg (by decide), if_neg (by decide), if_neg (by decide), if_neg (by decide), if_neg (by decide), if_pos rfl]
    split <;> rfl
  · have hc : one 10 a b = if a ≤ b then 0 else 1 := rfl
    rw [hc, if_neg (by decide), if_neg (by decide), if_neg (by decide), if_neg (by decide), if_neg (by decide), if_neg (by decide), if_neg (by decide), if_neg (by decide), if_pos rfl]
    split <;> rfl
  · rfl
  · rfl
theorem m_tok {d : Nat} {t e p h : Int} {w : zW} {S : Int → Int} {x : tok} (ht : 0 ≤ t ∧ t < 12) (hx : tokOK 10 x) (hR : w 50 0 (400 * t + p) = x.1 + 16 * x.2) (hp : 0 ≤ p ∧ p < e ∧ e ≤ 400) (ha : asks x h) (hh : h + (if x.1 = 0 ∨ x.1 = 1 then 1 else 0) ≤ 64) :
    M_reckons_1 (d + 1) t e p (mk w S h) = M_reckons_1 (d + 1) t e (p + 1) (mk w (stp (w 69 0) x S h) (hts x h)) := by
  obtain ⟨op, v⟩ := x
  dsimp only at hx hR hh
  obtain ⟨ha0, ha1, ha2⟩ := ha
  dsimp only at ha1 ha2
  have hr : (mk w S h) 50 0 (400 * t + p) = op + 16 * v := by rw [mk_o (by decide) (by decide), hR]
  have h1 : z_and ((mk w S h) 50 0 (400 * t + p)) 15 = op := by rw [hr, z_and_15 (by omega)]; omega
  have h2 : (mk w S h) 50 0 (400 * t + p) / 2 ^ (4 : Int).toNat = v := by
    rw [hr]
    show (op + 16 * v) / 16 = v
    omega
  rw [e_M_reckons_1, if_neg (by omega), gd_t (by omega), gd_t (by omega), gd_t (by omega), gd_t (by omega), gd_t (by omega), gd_t (by omega), gd_t (by decide), h1, h2]
  unfold stp hts
  dsimp only
  by_cases h0 : op = 0
  · rw [if_pos h0, if_pos h0, if_pos (Or.inl h0)]
    rw [if_pos (Or.inl h0)] at hh
    rw [m_push (by omega), bnd, gd_t (by omega)]
  · rw [if_neg h0, if_neg h0]
    by_cases h10 : op = 1
    · rw [if_pos h10, if_pos h10, if_pos (Or.inr h10)]
      rw [if_pos (Or.inr h10)] at hh
      rw [gd_t (by omega), m_push (by omega), bnd, gd_t (by omega), mk_o (by decide) (by decide)]
    · have h01 : ¬ (op = 0 ∨ op = 1) := fun q => q.elim h0 h10
      rw [if_neg h10, if_neg h10, if_neg h01]
      rw [if_neg h01] at hh
      have := ha1 h01
      by_cases h11 : op = 11
      · rw [if_pos h11, if_pos h11, if_pos h11, m_pop (by omega), bnd]
        dsimp only
        rw [m_push (by omega), bnd, gd_t (by omega), show h - 1 + 1 = h by omega]
      · have := ha2 (by omega)
        rw [if_neg h11, if_neg h11, if_neg h11, m_pop (by omega), bnd]
        dsimp only
        rw [m_pop (by omega), bnd]
        dsimp only
        rw [m_one (by omega), bnd]
        dsimp only
        rw [m_push (by omega), bnd, gd_t (by omega), show h - 1 - 1 = h - 2 by omega, show h - 2 + 1 = h - 1 by omega]
theorem m_run {d : Nat} {t e : Int} {w : zW} (h12 : 0 ≤ t ∧ t < 12) (he : e ≤ 400) : ∀ (L : List tok) (ts us : List Bool) (p : Int) (S : Int → Int), (∀ t ∈ L, tokOK 10 t) → seg 16 (fun j => w 50 0 (400 * t + j)) p L → 0 ≤ p → p + L.length = e → trun L ts = some us → us ≠ [] → us.length ≤ 64 → (ts.length : Int) + cntV L ≤ 64 →
    M_reckons_1 (d + 1) t e p (mk w S ts.length) = some (evs (w 69 0) L S ts.length (us.length - 1), mk w (evs (w 69 0) L S ts.length) (us.length - 1)) := by
  intro L
  induction L with
  | nil =>
    intro ts us p S _ _ hp hpe ht hus hu64 _
    have hp' : p = e := by have : (([] : List tok).length : Int) = 0 := rfl; omega
    have hts : ts = us := Option.some.inj ht
    have hpos : 1 ≤ (us.length : Int) := by
      have : us.length ≠ 0 := fun q => hus (List.eq_nil_of_length_eq_zero q)
      omega
    rw [e_M_reckons_1, if_pos (by omega), hts, m_pop (by omega), bnd]
    rfl
  | cons x L ih =>
    intro ts us p S hok hseg hp hpe ht hus hu64 hc
    obtain ⟨ts', h1, h2, h3⟩ := trun_step (hok x (List.mem_cons_self)) ht
    have hcv : cntV (x :: L) = (if x.1 = 0 ∨ x.1 = 1 then 1 else 0) + cntV L := rfl
    have hll : (((x :: L).length : Nat) : Int) = L.length + 1 := by simp
    rw [hcv] at hc
    rw [hll] at hpe
    have hle : hts x ts.length ≤ ts.length + (if x.1 = 0 ∨ x.1 = 1 then 1 else 0) := by
      unfold hts
      by_cases h0 : x.1 = 0 ∨ x.1 = 1
      · rw [if_pos h0, if_pos h0]; omega
      · rw [if_neg h0, if_neg h0]; split <;> omega
    rw [m_tok h12 (hok x (List.mem_cons_self)) hseg.1 (by omega) h3 (by split at hc <;> split <;> omega), ← h2]
    rw [ih ts' us _ _ (fun q hq => hok q (List.mem_cons_of_mem _ hq)) hseg.2 (by omega) (by omega) h1 hus hu64 (by split at hc <;> split at hle <;> omega), evs_cons, ← h2]
theorem m_reckons {d : Nat} {t p e h : Int} {w : zW} {S : Int → Int} {L : List tok} {b : Bool} (h12 : 0 ≤ t ∧ t < 12) (he : e ≤ 400) (hok : ∀ t ∈ L, tokOK 10 t) (hs : seg 16 (fun j => w 50 0 (400 * t + j)) p L) (hp : 0 ≤ p) (hpe : p + L.length = e) (ht : trun L [] = some [b]) (hc : cntV L ≤ 60) :
    M_reckons (d + 1) t p e (mk w S h) = some (evs (w 69 0) L S 0 0, mk w (evs (w 69 0) L S 0) 0) := by
  have := m_run (d := d) h12 he L [] [b] p S hok hs hp hpe ht (by simp) (by simp) (by simp; omega)
  rw [e_M_reckons, mk_pop]
  exact this
/-! what a code is worth: the same from every stack -/
theorem stp_agree {W : Int → Int} {x : tok} {S S' : Int → Int} {h : Int} (hS : ∀ j, 0 ≤ j → j < h → S j = S' j) (ha : asks x h) : ∀ j, 0 ≤ j → j < hts x h → stp W x S h j = stp W x S' h j := by
  intro j h0 hj
  obtain ⟨ha0, ha1, ha2⟩ := ha
  unfold stp
  unfold hts at hj
  by_cases q0 : x.1 = 0
  · rw [if_pos (Or.inl q0)] at hj
    rw [if_pos q0, if_pos q0]
    unfold upF
    split
    · rfl
    · exact hS j h0 (by omega)
  · rw [if_neg q0, if_neg q0]
    by_cases q1 : x.1 = 1
    · rw [if_pos (Or.inr q1)] at hj
      rw [if_pos q1, if_pos q1]
      unfold upF
      split
      · rfl
      · exact hS j h0 (by omega)
    · have q01 : ¬ (x.1 = 0 ∨ x.1 = 1) := fun q => q.elim q0 q1
      rw [if_neg q01] at hj
      rw [if_neg q1, if_neg q1]
      have := ha1 q01
      by_cases q2 : x.1 = 11
      · rw [if_pos q2] at hj
        rw [if_pos q2, if_pos q2]
        unfold upF
        rw [hS (h - 1) (by omega) (by omega)]
        split
        · rfl
        · exact hS j h0 (by omega)
      · rw [if_neg q2] at hj
        rw [if_neg q2, if_neg q2]
        have := ha2 (by omega)
        unfold upF
        rw [hS (h - 1) (by omega) (by omega), hS (h - 2) (by omega) (by omega)]
        split
        · rfl
        · exact hS j h0 (by omega)
theorem evs_agree {W : Int → Int} {n : Int} : ∀ (L : List tok) (ts us : List Bool) (S S' : Int → Int), (∀ t ∈ L, tokOK n t) → trun L ts = some us → (∀ j, 0 ≤ j → j < (ts.length : Int) → S j = S' j) → ∀ j, 0 ≤ j → j < (us.length : Int) → evs W L S ts.length j = evs W L S' ts.length j := by
  intro L
  induction L with
  | nil =>
    intro ts us S S' _ ht hS
    rw [← (Option.some.inj ht : ts = us)]
    exact hS
  | cons x L ih =>
    intro ts us S S' hok ht hS j h0 hj
    obtain ⟨ts', h1, h2, h3⟩ := trun_step (hok x (List.mem_cons_self)) ht
    rw [evs_cons, evs_cons, ← h2]
    refine ih ts' us _ _ (fun q hq => hok q (List.mem_cons_of_mem _ hq)) h1 (fun j h0 hj => ?_) j h0 hj
    rw [h2] at hj
    exact stp_agree hS h3 j h0 hj
def val (W : Int → Int) (L : List tok) : Int := evs W L (fun _ => 0) 0 0
theorem evs_val {W : Int → Int} {n : Int} {L : List tok} {b : Bool} {S : Int → Int} (hok : ∀ t ∈ L, tokOK n t) (ht : trun L [] = some [b]) : evs W L S 0 0 = val W L :=
  evs_agree L [] [b] S (fun _ => 0) hok ht (fun j h0 hj => by have : (([] : List Bool).length : Int) = 0 := rfl; omega) 0 (by omega) (by simp)
theorem evs_W {W W' : Int → Int} {n : Int} (hW : ∀ j, 0 ≤ j → j < n → W j = W' j) : ∀ (L : List tok) (S : Int → Int) (h : Int), (∀ t ∈ L, tokOK n t) → evs W L S h = evs W' L S h := by
  intro L
  induction L with
  | nil => intro S h _; rfl
  | cons x L ih =>
    intro S h hok
    have hs : stp W x S h = stp W' x S h := by
      have hx := hok x (List.mem_cons_self)
      unfold stp
      by_cases q0 : x.1 = 0
      · rw [if_pos q0, if_pos q0]
      · rw [if_neg q0, if_neg q0]
        by_cases q1 : x.1 = 1
        · rw [if_pos q1, if_pos q1, hW x.2 (by omega) (by omega)]
        · rw [if_neg q1, if_neg q1]
    rw [evs_cons, evs_cons, hs]
    exact ih _ _ (fun q hq => hok q (List.mem_cons_of_mem _ hq))
theorem val_W {W W' : Int → Int} {n : Int} {L : List tok} (hW : ∀ j, 0 ≤ j → j < n → W j = W' j) (hok : ∀ t ∈ L, tokOK n t) : val W L = val W' L := by
  unfold val
  rw [evs_W hW L _ _ hok]
/-! truths -/
def tB : List Bool → (Int → Int) → Prop
  | [], _ => True
  | b :: ts, S => (b = true → isB (S ts.length)) ∧ tB ts S
theorem tB_congr {S S' : Int → Int} : ∀ ts : List Bool, (∀ j, 0 ≤ j → j < (ts.length : Int) → S' j = S j) → tB ts S → tB ts S' := by
  intro ts
  induction ts with
  | nil => intro _ _; trivial
  | cons b ts ih =>
    intro h1 h2
    have hl : (((b :: ts).length : Nat) : Int) = ts.length + 1 := by simp
    exact ⟨fun q => by rw [h1 ts.length (by omega) (by omega)]; exact h2.1 q, ih (fun j a c => h1 j a (by omega)) h2.2⟩
theorem tB_up {S : Int → Int} {ts : List Bool} {v : Int} {k : Int} (hk : k = ts.length) (b : Bool) (h : tB ts S) (hv : b = true → isB v) : tB (b :: ts) (upF S k v) := by
  subst hk
  exact ⟨fun q => by rw [upF_h]; exact hv q, tB_congr ts (fun j h0 h1 => upF_o (by omega)) h⟩
theorem isB_if {p : Prop} [Decidable p] {a b : Int} (ha : isB a) (hb : isB b) : isB (if p then a else b) := by
  by_cases h : p
  · rw [if_pos h]; exact ha
  · rw [if_neg h]; exact hb
theorem one_cmp {op a b : Int} (h : 6 ≤ op ∧ op ≤ 10) : isB (one op a b) := by
  have : op = 6 ∨ op = 7 ∨ op = 8 ∨ op = 9 ∨ op = 10 := by omega
  rcases this with rfl | rfl | rfl | rfl | rfl
  · show isB (if b ≤ a then 0 else 1); exact isB_if (Or.inl rfl) (Or.inr rfl)
  · show isB (if b < a then 0 else 1); exact isB_if (Or.inl rfl) (Or.inr rfl)
  · show isB (if a = b then 1 else 0); exact isB_if (Or.inr rfl) (Or.inl rfl)
  · show isB (if a < b then 0 else 1); exact isB_if (Or.inl rfl) (Or.inr rfl)
  · show isB (if a ≤ b then 0 else 1); exact isB_if (Or.inl rfl) (Or.inr rfl)
theorem evs_B {W : Int → Int} : ∀ (L : List tok) (ts us : List Bool) (S : Int → Int), trun L ts = some us → tB ts S → tB us (evs W L S ts.length) := by
  intro L
  induction L with
  | nil =>
    intro ts us S ht h
    rw [← (Option.some.inj ht : ts = us)]
    exact h
  | cons x L ih =>
    intro ts us S h hB
    obtain ⟨op, v⟩ := x
    rw [evs_cons]
    unfold trun at h
    unfold stp hts
    dsimp only
    by_cases h0 : op = 0 ∨ op = 1
    · rw [if_pos h0] at h
      rw [if_pos h0]
      have hl : (((false :: ts).length : Nat) : Int) = ts.length + 1 := by simp
      rw [← hl]
      rcases h0 with q | q
      · rw [if_pos q]
        exact ih _ us _ h (tB_up rfl false hB (fun z => by contradiction))
      · rw [if_neg (by omega), if_pos q]
        exact ih _ us _ h (tB_up rfl false hB (fun z => by contradiction))
    · rw [if_neg h0] at h
      rw [if_neg h0, if_neg (fun q => h0 (Or.inl q)), if_neg (fun q => h0 (Or.inr q))]
      match ts, h, hB with
      | true :: t2, h, hB =>
        dsimp only at h
        have hl : (((true :: t2).length : Nat) : Int) = t2.length + 1 := by simp
        by_cases h1 : op = 11
        · rw [if_pos h1] at h
          rw [if_pos h1, if_pos h1]
          refine ih _ us _ h ?_
          rw [hl, show (t2.length : Int) + 1 - 1 = t2.length by omega]
          exact tB_up rfl true hB.2 (fun _ => b_notB (hB.1 rfl))
        · rw [if_neg h1] at h
          rw [if_neg h1, if_neg h1]
          match t2, h, hB, hl with
          | true :: t3, h, hB, hl =>
            dsimp only at h
            have hl2 : (((true :: t3).length : Nat) : Int) = t3.length + 1 := by simp
            rw [hl2] at hl
            by_cases h2 : op = 12 ∨ op = 13
            · rw [if_pos h2] at h
              have hx := hB.1 rfl
              have hy := hB.2.1 rfl
              rw [hl2] at hx
              rw [hl, show (t3.length : Int) + 1 + 1 - 1 = ((true :: t3).length : Nat) by omega, show (t3.length : Int) + 1 + 1 - 2 = t3.length by omega]
              refine ih _ us _ h (tB_up rfl true hB.2.2 (fun _ => ?_))
              rw [hl2]
              rcases h2 with rfl | rfl
              · exact b_andB hy hx
              · exact b_orB hy hx
            · rw [if_neg h2] at h; contradiction
      | false :: false :: t3, h, hB =>
        dsimp only at h
        have hl : (((false :: false :: t3).length : Nat) : Int) = t3.length + 2 := by simp <;> omega
        have hl2 : (((false :: t3).length : Nat) : Int) = t3.length + 1 := by simp
        have hl3 : (((true :: t3).length : Nat) : Int) = t3.length + 1 := by simp
        rw [hl, show (t3.length : Int) + 2 - 2 = t3.length by omega]
        by_cases h1 : 2 ≤ op ∧ op ≤ 5
        · rw [if_pos h1] at h
          rw [if_neg (by omega), if_neg (by omega), show (t3.length : Int) + 2 - 1 = ((false :: t3).length : Nat) by omega]
          exact ih _ us _ h (tB_up rfl false hB.2.2 (fun z => by contradiction))
        · rw [if_neg h1] at h
          by_cases h2 : 6 ≤ op ∧ op ≤ 10
          · rw [if_pos h2] at h
            rw [if_neg (by omega), if_neg (by omega), show (t3.length : Int) + 2 - 1 = ((true :: t3).length : Nat) by omega]
            exact ih _ us _ h (tB_up rfl true hB.2.2 (fun _ => one_cmp h2))
          · rw [if_neg h2] at h; contradiction
theorem val_B {W : Int → Int} {L : List tok} (ht : trun L [] = some [true]) : isB (val W L) := (evs_B (W := W) L [] [true] (fun _ => 0) ht trivial).1 rfl
