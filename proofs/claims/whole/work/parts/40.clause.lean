/-! clauses: the first one that holds -/
abbrev clau := List tok × List tok
def clC (w : zW) (ci k : Int) (C : clau) : Prop := 0 ≤ w 14 ci k ∧ seg 256 (w 13 ci) (w 14 ci k) (cls C.1) ∧ w 15 ci k = w 14 ci k + (cls C.1).length ∧ seg 256 (w 13 ci) (w 15 ci k) (cls C.2) ∧ w 16 ci k = w 15 ci k + (cls C.2).length ∧ w 16 ci k ≤ 400
def ClC (w : zW) (ci : Int) : Int → List clau → Prop
  | k, [] => w 1 ci 6 = k
  | k, C :: Cs => clC w ci k C ∧ ClC w ci (k + 1) Cs
def clMs (w : zW) (t k : Int) (r : Bool) (L : List tok) : Prop := if r = true then ∃ a, L = [(0, a)] ∧ w 52 0 (60 * t + 5 * k) = a else 0 ≤ w 52 0 (60 * t + 5 * k + 1) ∧ seg 16 (fun j => w 50 0 (400 * t + j)) (w 52 0 (60 * t + 5 * k + 1)) L ∧ w 52 0 (60 * t + 5 * k + 2) = w 52 0 (60 * t + 5 * k + 1) + L.length ∧ w 52 0 (60 * t + 5 * k + 2) ≤ 400
def clMt (w : zW) (t k : Int) (L : List tok) : Prop := (L = [] ∧ w 52 0 (60 * t + 5 * k + 3) < 0) ∨ (L ≠ [] ∧ 0 ≤ w 52 0 (60 * t + 5 * k + 3) ∧ seg 16 (fun j => w 50 0 (400 * t + j)) (w 52 0 (60 * t + 5 * k + 3)) L ∧ w 52 0 (60 * t + 5 * k + 4) = w 52 0 (60 * t + 5 * k + 3) + L.length ∧ w 52 0 (60 * t + 5 * k + 4) ≤ 400)
def ClM (w : zW) (t : Int) (r : Bool) : Int → List clau → Prop
  | k, [] => w 53 0 t = k
  | k, C :: Cs => (clMs w t k r C.1 ∧ clMt w t k C.2) ∧ ClM w t r (k + 1) Cs
def clT (n : Int) (C : clau) : Prop := (∀ x ∈ C.1, tokOK n x) ∧ (∀ x ∈ C.2, tokOK n x) ∧ cntV C.1 ≤ 60 ∧ cntV C.2 ≤ 60 ∧ trun C.1 [] = some [false] ∧ (C.2 ≠ [] → trun C.2 [] = some [true])
def firstV (W : Int → Int) (df : Int) : List clau → Int
  | [] => df
  | C :: Cs => if C.2 = [] ∨ val W C.2 ≠ 0 then val W C.1 else firstV W df Cs
def firstI (W : Int → Int) : Int → List clau → Int
  | _, [] => -1
  | k, C :: Cs => if C.2 = [] ∨ val W C.2 ≠ 0 then k else firstI W (k + 1) Cs
theorem cl_pos (t : tok) : 1 ≤ (cl t).length := by
  unfold cl
  split
  · simp
  · split
    · simp
    · split
      · simp
      · split <;> simp
theorem cls_len : ∀ L : List tok, L.length ≤ (cls L).length := by
  intro L
  induction L with
  | nil => exact Nat.le_refl _
  | cons t L ih =>
    have h : cls (t :: L) = cl t ++ cls L := rfl
    have := cl_pos t
    rw [h, List.length_append, List.length_cons]
    omega
theorem cls_app (L M : List tok) : cls (L ++ M) = cls L ++ cls M := List.flatMap_append
theorem ClC_cnt {w : zW} {ci : Int} : ∀ (Cs : List clau) (k : Int), ClC w ci k Cs → w 1 ci 6 = k + Cs.length := by
  intro Cs
  induction Cs with
  | nil => intro k h; show w 1 ci 6 = k + ((0 : Nat) : Int); rw [h]; omega
  | cons C Cs ih =>
    intro k h
    rw [ih (k + 1) h.2, List.length_cons]
    omega
theorem ClM_cnt {w : zW} {t : Int} {r : Bool} : ∀ (Cs : List clau) (k : Int), ClM w t r k Cs → w 53 0 t = k + Cs.length := by
  intro Cs
  induction Cs with
  | nil => intro k h; show w 53 0 t = k + ((0 : Nat) : Int); rw [h]; omega
  | cons C Cs ih =>
    intro k h
    rw [ih (k + 1) h.2, List.length_cons]
    omega
theorem c_first_4 {d : Nat} {ci k : Int} {k3 : Nat} {w : zW} {S : Int → Int} {C : clau} (hk : isK k3) (hT : clT (z_ln k3) C) (hC : clC w ci k C) (h12 : 0 ≤ k ∧ k < 12) : ∃ S', Clauses_first_4 (d + 1) ci k3 k (z_row w 17 ci S) = some (val (w k3 0) C.1, z_row w 17 ci S') := by
  obtain ⟨t1, t2, t3, t4, t5, t6⟩ := hT
  obtain ⟨c1, c2, c3, c4, c5, c6⟩ := hC
  have := c_worth (d := d) (ci := ci) (p := w 14 ci k) (e := w 15 ci k) (w := z_row w 17 ci S) hk (by omega) t1 (by rw [show (z_row w 17 ci S) 13 ci = w 13 ci from funext fun j => row_c (by decide)]; exact c2) c1 c3.symm t5 t3
  rw [row_row, show (z_row w 17 ci S) k3 0 = w k3 0 from funext fun j => row_c (isK_17 hk), evs_val t1 t5] at this
  rw [e_Clauses_first_4, gd_t (by omega), gd_t (by omega), row_c (by decide), row_c (by decide), this, bnd]
  exact ⟨_, rfl⟩
theorem c_first {d : Nat} {ci df : Int} {k3 : Nat} {w : zW} (hk : isK k3) : ∀ (Cs : List clau) (k : Int) (S : Int → Int), ClC w ci k Cs → (∀ C ∈ Cs, clT (z_ln k3) C) → 0 ≤ k → k + Cs.length ≤ 12 →
    ∃ S', Clauses_first_1 (d + 1) ci k3 df k (z_row w 17 ci S) = some (firstV (w k3 0) df Cs, z_row w 17 ci S') := by
  intro Cs
  induction Cs with
  | nil =>
    intro k S h _ h0 _
    have h6 : w 1 ci 6 = k := h
    refine ⟨S, ?_⟩
    rw [e_Clauses_first_1, row_c (by decide), if_pos (by omega)]
    rfl
  | cons C Cs ih =>
    intro k S h hT h0 h12
    have hcnt := ClC_cnt _ _ h
    have hlc : (((C :: Cs).length : Nat) : Int) = Cs.length + 1 := by simp
    obtain ⟨hC, hCs⟩ := h
    have hTC := hT C (List.mem_cons_self)
    obtain ⟨t1, t2, t3, t4, t5, t6⟩ := hTC
    have hC' := hC
    obtain ⟨c1, c2, c3, c4, c5, c6⟩ := hC
    have hlen := cls_len C.2
    rw [e_Clauses_first_1, row_c (by decide), if_neg (by omega), gd_t (by omega), gd_t (by omega), row_c (by decide), row_c (by decide)]
    have hV : firstV (w k3 0) df (C :: Cs) = if C.2 = [] ∨ val (w k3 0) C.2 ≠ 0 then val (w k3 0) C.1 else firstV (w k3 0) df Cs := rfl
    rw [hV]
    by_cases hE : C.2 = []
    · have hz : (cls C.2).length = 0 := by rw [hE]; rfl
      rw [if_pos (by omega), if_pos (Or.inl hE)]
      exact c_first_4 hk ⟨t1, t2, t3, t4, t5, t6⟩ hC' (by omega)
    · have hpos : C.2.length ≠ 0 := fun q => hE (List.eq_nil_of_length_eq_zero q)
      have := c_worth (d := d) (ci := ci) (p := w 15 ci k) (e := w 16 ci k) (w := z_row w 17 ci S) hk c6 t2 (by rw [show (z_row w 17 ci S) 13 ci = w 13 ci from funext fun j => row_c (by decide)]; exact c4) (by omega) c5.symm (t6 hE) t4
      rw [row_row, show (z_row w 17 ci S) k3 0 = w k3 0 from funext fun j => row_c (isK_17 hk), evs_val t2 (t6 hE)] at this
      rw [if_neg (by omega), gd_t (by omega), gd_t (by omega), this, bnd]
      dsimp only
      by_cases hv : val (w k3 0) C.2 = 0
      · rw [if_pos hv, gd_t (by omega), if_neg (fun q => q.elim hE (fun z => z hv))]
        exact ih (k + 1) _ hCs (fun C hC => hT C (List.mem_cons_of_mem _ hC)) (by omega) (by omega)
      · rw [if_neg hv, if_pos (Or.inr hv)]
        exact c_first_4 hk ⟨t1, t2, t3, t4, t5, t6⟩ hC' (by omega)
theorem c_firstOf {d : Nat} {ci df : Int} {k3 : Nat} {w : zW} {Cs : List clau} (hk : isK k3) (hC : ClC w ci 0 Cs) (hT : ∀ C ∈ Cs, clT (z_ln k3) C) (h12 : Cs.length ≤ 12) : ∃ S', Clauses_first (d + 1) ci k3 df w = some (firstV (w k3 0) df Cs, z_row w 17 ci S') := by
  have h := c_first (d := d) (df := df) hk Cs 0 (w 17 ci) hC hT (Int.le_refl 0) (by omega)
  rw [row_self] at h
  rw [e_Clauses_first]
  exact h
theorem tok_mono {n m : Int} {x : tok} (hnm : n ≤ m) (h : tokOK n x) : tokOK m x := by
  rcases h with h | h | h
  · exact Or.inl h
  · exact Or.inr (Or.inl ⟨h.1, h.2.1, by omega⟩)
  · exact Or.inr (Or.inr h)
theorem m_clauseThat {d : Nat} {t n : Int} {r : Bool} {w : zW} (hn : n ≤ 10) (h12 : 0 ≤ t ∧ t < 12) : ∀ (Cs : List clau) (k : Int) (S : Int → Int) (h : Int), ClM w t r k Cs → (∀ C ∈ Cs, clT n C) → 0 ≤ k → k + Cs.length ≤ 12 →
    ∃ S' h', M_clauseThat_1 (d + 2) t k (mk w S h) = some (firstI (w 69 0) k Cs, mk w S' h') := by
  intro Cs
  induction Cs with
  | nil =>
    intro k S h hM _ h0 _
    have h6 : w 53 0 t = k := hM
    refine ⟨S, h, ?_⟩
    rw [e_M_clauseThat_1, gd_t (by omega), mk_o (by decide) (by decide), if_pos (by omega)]
    rfl
  | cons C Cs ih =>
    intro k S h hM hT h0 h12'
    have hcnt := ClM_cnt _ _ hM
    have hlc : (((C :: Cs).length : Nat) : Int) = Cs.length + 1 := by simp
    obtain ⟨⟨hMs, hMt⟩, hCs⟩ := hM
    obtain ⟨t1, t2, t3, t4, t5, t6⟩ := hT C (List.mem_cons_self)
    have hV : firstI (w 69 0) k (C :: Cs) = if C.2 = [] ∨ val (w 69 0) C.2 ≠ 0 then k else firstI (w 69 0) (k + 1) Cs := rfl
    rw [hV, e_M_clauseThat_1, gd_t (by omega), mk_o (by decide) (by decide), if_neg (by omega), gd_t (by omega), gd_t (by omega), gd_t (by omega), gd_t (by omega), gd_t (by omega), mk_o (by decide) (by decide), mk_o (by decide) (by decide)]
    rcases hMt with ⟨hE, h3⟩ | ⟨hE, h3, h4, h5, h6⟩
    · rw [if_pos h3, if_pos (Or.inl hE)]
      exact ⟨S, h, rfl⟩
    · rw [if_neg (by omega), gd_t (by omega), gd_t (by omega), gd_t (by omega), gd_t (by omega)]
      rw [m_reckons h12 h6 (fun x hx => tok_mono hn (t2 x hx)) h4 h3 h5.symm (t6 hE) t4, bnd]
      dsimp only
      rw [evs_val t2 (t6 hE)]
      have hB := val_B (W := w 69 0) (t6 hE)
      by_cases hv : val (w 69 0) C.2 = 0
      · rw [if_neg (by omega), gd_t (by omega), if_neg (fun q => q.elim hE (fun z => z hv))]
        exact ih (k + 1) _ _ hCs (fun C hC => hT C (List.mem_cons_of_mem _ hC)) (by omega) (by omega)
      · rw [if_pos (by rcases hB with q | q <;> omega), if_pos (Or.inr hv)]
        exact ⟨_, _, rfl⟩
theorem first_at {n t : Int} {r : Bool} {w : zW} {W : Int → Int} {df : Int} : ∀ (Cs : List clau) (k : Int), 0 ≤ k → ClM w t r k Cs → (∀ C ∈ Cs, clT n C) →
    (firstI W k Cs = -1 ∧ firstV W df Cs = df) ∨ (∃ C, clT n C ∧ k ≤ firstI W k Cs ∧ firstI W k Cs < k + Cs.length ∧ clMs w t (firstI W k Cs) r C.1 ∧ firstV W df Cs = val W C.1) := by
  intro Cs
  induction Cs with
  | nil => intro k _ _ _; exact Or.inl ⟨rfl, rfl⟩
  | cons C Cs ih =>
    intro k h0 hM hT
    have hI : firstI W k (C :: Cs) = if C.2 = [] ∨ val W C.2 ≠ 0 then k else firstI W (k + 1) Cs := rfl
    have hV : firstV W df (C :: Cs) = if C.2 = [] ∨ val W C.2 ≠ 0 then val W C.1 else firstV W df Cs := rfl
    have hlc : (((C :: Cs).length : Nat) : Int) = Cs.length + 1 := by simp
    rw [hI, hV]
    by_cases h : C.2 = [] ∨ val W C.2 ≠ 0
    · rw [if_pos h, if_pos h]
      exact Or.inr ⟨C, hT C (List.mem_cons_self), Int.le_refl _, by omega, hM.1.1, rfl⟩
    · rw [if_neg h, if_neg h]
      rcases ih (k + 1) (by omega) hM.2 (fun C hC => hT C (List.mem_cons_of_mem _ hC)) with q | ⟨C', q1, q2, q3, q4, q5⟩
      · exact Or.inl q
      · exact Or.inr ⟨C', q1, by omega, by omega, q4, q5⟩
theorem firstV_W {W W' : Int → Int} {n df : Int} (hW : ∀ j, 0 ≤ j → j < n → W j = W' j) : ∀ Cs : List clau, (∀ C ∈ Cs, clT n C) → firstV W df Cs = firstV W' df Cs := by
  intro Cs
  induction Cs with
  | nil => intro _; rfl
  | cons C Cs ih =>
    intro hT
    have hC := hT C (List.mem_cons_self)
    have hV : ∀ W : Int → Int, firstV W df (C :: Cs) = if C.2 = [] ∨ val W C.2 ≠ 0 then val W C.1 else firstV W df Cs := fun _ => rfl
    rw [hV, hV, val_W hW hC.1, val_W hW hC.2.1, ih (fun C hC => hT C (List.mem_cons_of_mem _ hC))]
