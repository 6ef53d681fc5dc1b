/-! a whole code: the class's run -/
theorem upF_upF (S : Int → Int) (k a b : Int) : upF (upF S k a) k b = upF S k b := by
  funext s
  unfold upF
  split <;> rfl
theorem upF_h (S : Int → Int) (k a : Int) : upF S k a k = a := by
  unfold upF
  rw [if_pos rfl]
theorem upF_o {S : Int → Int} {k a s : Int} (h : s ≠ k) : upF S k a s = S s := by
  unfold upF
  rw [if_neg h]
/-- the step of one sign -/
def stp (W : Int → Int) (t : tok) (S : Int → Int) (h : Int) : Int → Int := if t.1 = 0 then upF S h t.2 else if t.1 = 1 then upF S h (W t.2) else if t.1 = 11 then upF S (h - 1) (z_wL (1 - S (h - 1))) else upF S (h - 2) (one t.1 (S (h - 2)) (S (h - 1)))
def hts (t : tok) (h : Int) : Int := if t.1 = 0 ∨ t.1 = 1 then h + 1 else if t.1 = 11 then h else h - 1
theorem evs_cons {W : Int → Int} {t : tok} {L : List tok} {S : Int → Int} {h : Int} : evs W (t :: L) S h = evs W L (stp W t S h) (hts t h) := by
  obtain ⟨op, v⟩ := t
  show (if op = 0 then evs W L (upF S h v) (h + 1) else if op = 1 then evs W L (upF S h (W v)) (h + 1) else if op = 11 then evs W L (upF S (h - 1) (z_wL (1 - S (h - 1)))) h else evs W L (upF S (h - 2) (one op (S (h - 2)) (S (h - 1)))) (h - 1)) = _
  unfold stp hts
  dsimp only
  by_cases h0 : op = 0
  · rw [if_pos h0, if_pos h0, if_pos (Or.inl h0)]
  · rw [if_neg h0, if_neg h0]
    by_cases h1 : op = 1
    · rw [if_pos h1, if_pos h1, if_pos (Or.inr h1)]
    · have h01 : ¬ (op = 0 ∨ op = 1) := fun q => q.elim h0 h1
      rw [if_neg h1, if_neg h1, if_neg h01]
      by_cases h2 : op = 11
      · rw [if_pos h2, if_pos h2, if_pos h2]
      · rw [if_neg h2, if_neg h2, if_neg h2]
/-- the height that a sign asks for -/
abbrev asks (t : tok) (h : Int) : Prop := 0 ≤ h ∧ (¬ (t.1 = 0 ∨ t.1 = 1) → 1 ≤ h) ∧ (¬ (t.1 = 0 ∨ t.1 = 1 ∨ t.1 = 11) → 2 ≤ h)
theorem c_tok {d : Nat} {ci e h p : Int} {k3 : Nat} {w : zW} {S : Int → Int} {t : tok} (hk : isK k3) (ht : tokOK (z_ln k3) t) (hR : seg 256 (w 13 ci) p (cl t)) (hp : 0 ≤ p ∧ p + (cl t).length ≤ e ∧ e ≤ 400) (ha : asks t h) (hh : h + (if t.1 = 0 ∨ t.1 = 1 then 1 else 0) ≤ 64) :
    Clauses_worth_1 d ci e k3 h p (z_row w 17 ci S) = Clauses_worth_1 d ci e k3 (hts t h) (p + (cl t).length) (z_row w 17 ci (stp (w k3 0) t S h)) := by
  obtain ⟨op, v⟩ := t
  dsimp only at *
  obtain ⟨ha0, ha1, ha2⟩ := ha
  have two : ∀ k op' : Int, (op = op' ∧ v = 0) → op' ≠ 0 → op' ≠ 1 → op' ≠ 11 → cl (op', 0) = [(k, 0)] → (k = 38 ∨ k = 42 ∨ k = 43 ∨ k = 45 ∨ k = 47 ∨ k = 60 ∨ k = 62 ∨ k = 124 ∨ k = 61) → (∀ a b, cone k a b = one op' a b) → Clauses_worth_1 d ci e k3 h p (z_row w 17 ci S) = Clauses_worth_1 d ci e k3 (hts (op, v) h) (p + (cl (op, v)).length) (z_row w 17 ci (stp (w k3 0) (op, v) S h)) := by
    rintro k op' ⟨rfl, rfl⟩ n0 n1 n11 hc hk9 hone
    rw [hc] at hR hp ⊢
    have hl : (([(k, (0 : Int))] : List (Int × Int)).length : Int) = 1 := rfl
    rw [hl] at hp ⊢
    rw [if_neg (by omega)] at hh
    have := ha2 (by omega)
    rw [c_bin hR.1 hk9 (by omega) (by omega)]
    unfold hts stp
    dsimp only
    rw [if_neg (by omega), if_neg n11, if_neg n0, if_neg n1, if_neg n11, hone]
  have cmp : ∀ k op' : Int, (op = op' ∧ v = 0) → op' ≠ 0 → op' ≠ 1 → op' ≠ 11 → cl (op', 0) = [(k, 0), (33, 0)] → (k = 38 ∨ k = 42 ∨ k = 43 ∨ k = 45 ∨ k = 47 ∨ k = 60 ∨ k = 62 ∨ k = 124 ∨ k = 61) → (∀ a b, z_wL (1 - cone k a b) = one op' a b) → Clauses_worth_1 d ci e k3 h p (z_row w 17 ci S) = Clauses_worth_1 d ci e k3 (hts (op, v) h) (p + (cl (op, v)).length) (z_row w 17 ci (stp (w k3 0) (op, v) S h)) := by
    rintro k op' ⟨rfl, rfl⟩ n0 n1 n11 hc hk9 hone
    rw [hc] at hR hp ⊢
    have hl : (([(k, (0 : Int)), (33, 0)] : List (Int × Int)).length : Int) = 2 := rfl
    rw [hl] at hp ⊢
    rw [if_neg (by omega)] at hh
    have := ha2 (by omega)
    rw [c_bin hR.1 hk9 (by omega) (by omega), c_not hR.2.1 (by omega) (by omega)]
    rw [show h - 1 - 1 = h - 2 by omega, upF_upF, upF_h, hone, show p + 1 + 1 = p + 2 by omega]
    unfold hts stp
    dsimp only
    rw [if_neg (by omega), if_neg n11, if_neg n0, if_neg n1, if_neg n11]
  rcases ht with ⟨h0, hv⟩ | ⟨h0, hv⟩ | ⟨h1, h2, hv⟩
  · dsimp only at h0 hv
    subst h0
    rw [if_pos (Or.inl rfl)] at hh
    have hl : ((cl (0, v)).length : Int) = 1 := rfl
    rw [hl] at hp ⊢
    rw [c_num hR.1 hv (by omega) (by omega)]
    rfl
  · dsimp only at h0 hv
    subst h0
    rw [if_pos (Or.inr rfl)] at hh
    have hl : ((cl (1, v)).length : Int) = 1 := rfl
    rw [hl] at hp ⊢
    rw [c_word hk hR.1 hv (by omega) (by omega)]
    rfl
  · dsimp only at h1 h2 hv
    have : op = 2 ∨ op = 3 ∨ op = 4 ∨ op = 5 ∨ op = 6 ∨ op = 7 ∨ op = 8 ∨ op = 9 ∨ op = 10 ∨ op = 11 ∨ op = 12 ∨ op = 13 := by omega
    rcases this with q | q | q | q | q | q | q | q | q | q | q | q
    · exact two 43 2 ⟨q, hv⟩ (by decide) (by decide) (by decide) rfl (by decide) (fun a b => rfl)
    · exact two 45 3 ⟨q, hv⟩ (by decide) (by decide) (by decide) rfl (by decide) (fun a b => rfl)
    · exact two 42 4 ⟨q, hv⟩ (by decide) (by decide) (by decide) rfl (by decide) (fun a b => rfl)
    · exact two 47 5 ⟨q, hv⟩ (by decide) (by decide) (by decide) rfl (by decide) (fun a b => rfl)
    · exact two 60 6 ⟨q, hv⟩ (by decide) (by decide) (by decide) rfl (by decide) (fun a b => rfl)
    · refine cmp 62 7 ⟨q, hv⟩ (by decide) (by decide) (by decide) rfl (by decide) (fun a b => ?_)
      show z_wL (1 - (if a ≤ b then 0 else 1)) = (if b < a then 0 else 1)
      by_cases hab : a ≤ b
      · rw [if_pos hab, if_neg (by omega)]; rfl
      · rw [if_neg hab, if_pos (by omega)]; rfl
    · exact two 61 8 ⟨q, hv⟩ (by decide) (by decide) (by decide) rfl (by decide) (fun a b => rfl)
    · refine cmp 60 9 ⟨q, hv⟩ (by decide) (by decide) (by decide) rfl (by decide) (fun a b => ?_)
      show z_wL (1 - (if b ≤ a then 0 else 1)) = (if a < b then 0 else 1)
      by_cases hab : b ≤ a
      · rw [if_pos hab, if_neg (by omega)]; rfl
      · rw [if_neg hab, if_pos (by omega)]; rfl
    · exact two 62 10 ⟨q, hv⟩ (by decide) (by decide) (by decide) rfl (by decide) (fun a b => rfl)
    · subst q
      subst hv
      rw [if_neg (by decide)] at hh
      have hl : ((cl (11, 0)).length : Int) = 1 := rfl
      rw [hl] at hp ⊢
      have := ha1 (by decide)
      rw [c_not hR.1 (by omega) (by omega)]
      rfl
    · exact two 38 12 ⟨q, hv⟩ (by decide) (by decide) (by decide) rfl (by decide) (fun a b => rfl)
    · exact two 124 13 ⟨q, hv⟩ (by decide) (by decide) (by decide) rfl (by decide) (fun a b => rfl)
/-- one sign of a code whose kinds are right -/
theorem trun_step {t : tok} {L : List tok} {ts us : List Bool} {n : Int} (ht : tokOK n t) (h : trun (t :: L) ts = some us) : ∃ ts', trun L ts' = some us ∧ (ts'.length : Int) = hts t ts.length ∧ asks t ts.length := by
  obtain ⟨op, v⟩ := t
  unfold trun at h
  unfold hts asks
  dsimp only
  by_cases h0 : op = 0 ∨ op = 1
  · rw [if_pos h0] at h
    exact ⟨_, h, by rw [if_pos h0]; simp, by omega, fun q => absurd h0 q, fun q => by omega⟩
  · rw [if_neg h0] at h
    rw [if_neg h0]
    match ts, h with
    | true :: t2, h =>
      dsimp only at h
      by_cases h1 : op = 11
      · rw [if_pos h1] at h
        exact ⟨_, h, by rw [if_pos h1], by omega, fun _ => by simp <;> omega, fun q => by omega⟩
      · rw [if_neg h1] at h
        match t2, h with
        | true :: t3, h =>
          dsimp only at h
          by_cases h2 : op = 12 ∨ op = 13
          · rw [if_pos h2] at h
            exact ⟨_, h, by rw [if_neg h1]; simp <;> omega, by omega, fun _ => by simp <;> omega, fun _ => by simp <;> omega⟩
          · rw [if_neg h2] at h; contradiction
    | false :: false :: t3, h =>
      dsimp only at h
      by_cases h1 : 2 ≤ op ∧ op ≤ 5
      · rw [if_pos h1] at h
        exact ⟨_, h, by rw [if_neg (by omega)]; simp <;> omega, by omega, fun _ => by simp <;> omega, fun _ => by simp <;> omega⟩
      · rw [if_neg h1] at h
        by_cases h2 : 6 ≤ op ∧ op ≤ 10
        · rw [if_pos h2] at h
          exact ⟨_, h, by rw [if_neg (by omega)]; simp <;> omega, by omega, fun _ => by simp <;> omega, fun _ => by simp <;> omega⟩
        · rw [if_neg h2] at h; contradiction
theorem c_run {d : Nat} {ci e : Int} {k3 : Nat} {w : zW} (hk : isK k3) (he : e ≤ 400) : ∀ (L : List tok) (ts us : List Bool) (p : Int) (S : Int → Int), (∀ t ∈ L, tokOK (z_ln k3) t) → seg 256 (w 13 ci) p (cls L) → 0 ≤ p → p + (cls L).length = e → trun L ts = some us → us ≠ [] → (ts.length : Int) + cntV L ≤ 64 →
    Clauses_worth_1 d ci e k3 ts.length p (z_row w 17 ci S) = some (evs (w k3 0) L S ts.length 0, z_row w 17 ci (evs (w k3 0) L S ts.length)) := by
  intro L
  induction L with
  | nil =>
    intro ts us p S _ _ hp hpe ht hus _
    have hp' : p = e := by have : ((cls []).length : Int) = 0 := rfl; omega
    have hts : ts = us := Option.some.inj ht
    have hpos : ¬ (ts.length : Int) ≤ 0 := by
      intro q
      exact hus (by rw [← hts]; exact List.eq_nil_of_length_eq_zero (by omega))
    rw [e_Clauses_worth_1, if_pos (by omega), e_Clauses_worth_42, if_neg hpos, gd_t (by decide), row_h]
    rfl
  | cons t L ih =>
    intro ts us p S hok hseg hp hpe ht hus hc
    have hcls : cls (t :: L) = cl t ++ cls L := rfl
    rw [hcls] at hseg hpe
    rw [seg_app] at hseg
    rw [List.length_append] at hpe
    obtain ⟨ts', h1, h2, h3⟩ := trun_step (hok t (List.mem_cons_self)) ht
    have hcv : cntV (t :: L) = (if t.1 = 0 ∨ t.1 = 1 then 1 else 0) + cntV L := rfl
    rw [hcv] at hc
    have hle : hts t ts.length ≤ ts.length + (if t.1 = 0 ∨ t.1 = 1 then 1 else 0) := by
      unfold hts
      by_cases h0 : t.1 = 0 ∨ t.1 = 1
      · rw [if_pos h0, if_pos h0]; omega
      · rw [if_neg h0, if_neg h0]; split <;> omega
    rw [c_tok hk (hok t (List.mem_cons_self)) hseg.1 (by omega) h3 (by split at hc <;> split <;> omega), ← h2]
    rw [ih ts' us _ _ (fun q hq => hok q (List.mem_cons_of_mem _ hq)) hseg.2 (by omega) (by omega) h1 hus (by split at hc <;> split at hle <;> omega), evs_cons, ← h2]
theorem c_worth {d : Nat} {ci p e : Int} {k3 : Nat} {w : zW} {L : List tok} {b : Bool} (hk : isK k3) (he : e ≤ 400) (hok : ∀ t ∈ L, tokOK (z_ln k3) t) (hs : seg 256 (w 13 ci) p (cls L)) (hp : 0 ≤ p) (hpe : p + (cls L).length = e) (ht : trun L [] = some [b]) (hc : cntV L ≤ 60) :
    Clauses_worth d ci p e k3 w = some (evs (w k3 0) L (w 17 ci) 0 0, z_row w 17 ci (evs (w k3 0) L (w 17 ci) 0)) := by
  have h := c_run (d := d) hk he L [] [b] p (w 17 ci) hok hs hp hpe ht (by simp) (by simp; omega)
  rw [row_self] at h
  rw [e_Clauses_worth]
  exact h
