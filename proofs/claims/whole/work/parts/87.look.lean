/-! LOOK: ways gone from home; cells together -/
def vl (O : Int → Int) (vis : List Int) : Int := sm (fun c => if c ∈ vis then O c else 0) 144
theorem vl_bd {F : Int → Int} (hF : wtB F) (vis : List Int) : 0 ≤ vl (od F) vis ∧ vl (od F) vis ≤ tot F := by
  refine ⟨sm_nn fun c hc => ?_, ?_⟩
  · have := od_nn hF c hc
    split <;> omega
  · rw [tot_od]
    refine sm_le fun c hc => ?_
    have := od_nn hF c hc
    split <;> omega
theorem vl_cons {O : Int → Int} {c : Int} {vis : List Int} (hc : 0 ≤ c ∧ c < 144) : vl O (c :: vis) = vl O vis + (if c ∈ vis then 0 else O c) := by
  by_cases h : c ∈ vis
  · rw [if_pos h, Int.add_zero]
    refine sm_congr fun k _ => ?_
    have : ((k : Int) ∈ c :: vis) ↔ (k : Int) ∈ vis := by
      rw [List.mem_cons]
      exact ⟨fun q => q.elim (fun z => by rw [z]; exact h) id, Or.inr⟩
    by_cases z : (k : Int) ∈ vis
    · rw [if_pos z, if_pos (this.2 z)]
    · rw [if_neg z, if_neg (fun y => z (this.1 y))]
  · rw [if_neg h]
    have he : vl O (c :: vis) = sm (inc (fun k => if k ∈ vis then O k else 0) c (O c)) 144 := sm_congr fun k _ => by
      unfold inc
      dsimp only
      by_cases z : (k : Int) = c
      · rw [if_pos z, if_pos (by rw [z]; exact List.mem_cons_self), if_neg (by rw [z]; exact h), z, Int.zero_add]
      · rw [if_neg z]
        by_cases y : (k : Int) ∈ vis
        · rw [if_pos y, if_pos (List.mem_cons_of_mem _ y)]
        · rw [if_neg y, if_neg (fun q => (List.mem_cons.mp q).elim z y)]
    rw [he, sm_inc hc.1 (by omega)]
    rfl
theorem vl_nil (O : Int → Int) : vl O [] = 0 := by
  have : vl O [] = sm (fun _ => 0) 144 := sm_congr fun k _ => if_neg List.not_mem_nil
  rw [this, sm_zero]
theorem vl_congr {O O' : Int → Int} {vis : List Int} (h : ∀ c, 0 ≤ c → c < 144 → O c = O' c) : vl O vis = vl O' vis := sm_congr fun c hc => by
  rw [h c (by omega) (by omega)]
def hd (vis : List Int) : Int := vis.headD 0
/-- the best of the ways from j on -/
def lkJ (nx g : Int → Int) (h : Int) : Nat → Int
  | 0 => 0
  | j + 1 => if nx (4 * h + (3 - (j : Int))) = -1 then lkJ nx g h j else max (g (nx (4 * h + (3 - (j : Int))))) (lkJ nx g h j)
def lkR (nx O : Int → Int) : Nat → List Int → Nat → Int
  | 0, _, _ => 0
  | m + 1, vis, j => lkJ nx (fun c => max (vl O (c :: vis)) (lkR nx O m (c :: vis) 4)) (hd vis) j
def ovW (nx O : Int → Int) : Nat → List Int → Nat → Int
  | 0, vis, _ => vl O vis
  | m + 1, vis, c => if nx (4 * hd vis + ((c % 4 : Nat) : Int)) = -1 then vl O vis else ovW nx O m (nx (4 * hd vis + ((c % 4 : Nat) : Int)) :: vis) (c / 4)
abbrev visB (vis : List Int) : Prop := 0 ≤ hd vis ∧ hd vis < 144
section
variable {nx F : Int → Int}
theorem lkJ_ge {g : Int → Int} {h : Int} : ∀ (j : Nat) (v : Int), 3 - (j : Int) < v → v ≤ 3 → nx (4 * h + v) ≠ -1 → g (nx (4 * h + v)) ≤ lkJ nx g h j := by
  intro j
  induction j with
  | zero => intro v h1 h2; omega
  | succ j ih =>
    intro v h1 h2 hn
    show _ ≤ if nx (4 * h + (3 - (j : Int))) = -1 then lkJ nx g h j else max (g (nx (4 * h + (3 - (j : Int))))) (lkJ nx g h j)
    by_cases z : v = 3 - (j : Int)
    · rw [← z, if_neg hn]
      omega
    · have := ih v (by omega) h2 hn
      split
      · exact this
      · omega
theorem lkJ_at {g : Int → Int} {h : Int} : ∀ j : Nat, j ≤ 4 → lkJ nx g h j = 0 ∨ ∃ v : Nat, v < 4 ∧ nx (4 * h + v) ≠ -1 ∧ lkJ nx g h j = g (nx (4 * h + v)) := by
  intro j
  induction j with
  | zero => intro _; exact Or.inl rfl
  | succ j ih =>
    intro hj
    have hs : lkJ nx g h (j + 1) = if nx (4 * h + (3 - (j : Int))) = -1 then lkJ nx g h j else max (g (nx (4 * h + (3 - (j : Int))))) (lkJ nx g h j) := rfl
    rw [hs]
    by_cases z : nx (4 * h + (3 - (j : Int))) = -1
    · rw [if_pos z]
      exact ih (by omega)
    · rw [if_neg z]
      by_cases y : lkJ nx g h j ≤ g (nx (4 * h + (3 - (j : Int))))
      · exact Or.inr ⟨3 - j, by omega, by rw [show ((3 - j : Nat) : Int) = 3 - (j : Int) by omega]; exact z, by rw [show ((3 - j : Nat) : Int) = 3 - (j : Int) by omega]; omega⟩
      · rw [show max (g (nx (4 * h + (3 - (j : Int))))) (lkJ nx g h j) = lkJ nx g h j by omega]
        exact ih (by omega)
theorem lkJ_nn {g : Int → Int} {h : Int} : ∀ j : Nat, 0 ≤ lkJ nx g h j := by
  intro j
  induction j with
  | zero => exact Int.le_refl 0
  | succ j ih =>
    show 0 ≤ if nx (4 * h + (3 - (j : Int))) = -1 then lkJ nx g h j else max (g (nx (4 * h + (3 - (j : Int))))) (lkJ nx g h j)
    split
    · exact ih
    · omega
theorem ov_ge (hn : nxB nx) (hF : wtB F) : ∀ (m : Nat) (vis : List Int) (c : Nat), visB vis → vl (od F) vis ≤ ovW nx (od F) m vis c := by
  intro m
  induction m with
  | zero => intro vis c _; exact Int.le_refl _
  | succ m ih =>
    intro vis c hv
    have hb := hn (4 * hd vis + ((c % 4 : Nat) : Int)) (by omega) (by omega)
    show _ ≤ if nx (4 * hd vis + ((c % 4 : Nat) : Int)) = -1 then vl (od F) vis else _
    by_cases z : nx (4 * hd vis + ((c % 4 : Nat) : Int)) = -1
    · rw [if_pos z]; exact Int.le_refl _
    · rw [if_neg z]
      have h1 := ih (nx (4 * hd vis + ((c % 4 : Nat) : Int)) :: vis) (c / 4) (by show 0 ≤ nx _ ∧ nx _ < 144; omega)
      have h2 := vl_cons (O := od F) (c := nx (4 * hd vis + ((c % 4 : Nat) : Int))) (vis := vis) (by omega)
      have h3 := od_bd hF (c := nx (4 * hd vis + ((c % 4 : Nat) : Int))) (by omega)
      have h4 : 0 ≤ (if nx (4 * hd vis + ((c % 4 : Nat) : Int)) ∈ vis then 0 else od F (nx (4 * hd vis + ((c % 4 : Nat) : Int)))) := by split <;> omega
      omega
theorem ov_le (hn : nxB nx) (hF : wtB F) : ∀ (m : Nat) (vis : List Int) (c : Nat), visB vis → ovW nx (od F) m vis c ≤ max (vl (od F) vis) (lkR nx (od F) m vis 4) := by
  intro m
  induction m with
  | zero =>
    intro vis c _
    show vl (od F) vis ≤ _
    omega
  | succ m ih =>
    intro vis c hv
    have hb := hn (4 * hd vis + ((c % 4 : Nat) : Int)) (by omega) (by omega)
    show (if nx (4 * hd vis + ((c % 4 : Nat) : Int)) = -1 then vl (od F) vis else _) ≤ _
    by_cases z : nx (4 * hd vis + ((c % 4 : Nat) : Int)) = -1
    · rw [if_pos z]; omega
    · rw [if_neg z]
      have h1 := ih (nx (4 * hd vis + ((c % 4 : Nat) : Int)) :: vis) (c / 4) (by show 0 ≤ nx _ ∧ nx _ < 144; omega)
      have h2 := lkJ_ge (g := fun c => max (vl (od F) (c :: vis)) (lkR nx (od F) m (c :: vis) 4)) (h := hd vis) 4 ((c % 4 : Nat) : Int) (by omega) (by omega) z
      have h3 : lkR nx (od F) (m + 1) vis 4 = lkJ nx (fun c => max (vl (od F) (c :: vis)) (lkR nx (od F) m (c :: vis) 4)) (hd vis) 4 := rfl
      rw [h3]

      omega
theorem ov_at (hn : nxB nx) (hF : wtB F) : ∀ (m : Nat) (vis : List Int), visB vis → ∃ c : Nat, c < 4 ^ m ∧ max (vl (od F) vis) (lkR nx (od F) m vis 4) ≤ ovW nx (od F) m vis c := by
  intro m
  induction m with
  | zero =>
    intro vis _
    refine ⟨0, Nat.zero_lt_one, ?_⟩
    have h0 := (vl_bd hF vis).1
    show max (vl (od F) vis) 0 ≤ vl (od F) vis
    omega
  | succ m ih =>
    intro vis hv
    have h3 : lkR nx (od F) (m + 1) vis 4 = lkJ nx (fun c => max (vl (od F) (c :: vis)) (lkR nx (od F) m (c :: vis) 4)) (hd vis) 4 := rfl
    have h0 := (vl_bd hF vis).1
    have h00 := ov_ge hn hF (m + 1) vis 0 hv
    by_cases q : lkR nx (od F) (m + 1) vis 4 ≤ vl (od F) vis
    · exact ⟨0, Nat.lt_of_lt_of_le Nat.zero_lt_one (p4_pos _), by omega⟩
    · rcases lkJ_at (nx := nx) (g := fun c => max (vl (od F) (c :: vis)) (lkR nx (od F) m (c :: vis) 4)) (h := hd vis) 4 (Nat.le_refl _) with z | ⟨v, v1, v2, v3⟩
      · rw [h3, z] at q
        omega
      · have hb := hn (4 * hd vis + (v : Int)) (by omega) (by omega)
        obtain ⟨c, c1, c2⟩ := ih (nx (4 * hd vis + (v : Int)) :: vis) (by show 0 ≤ nx _ ∧ nx _ < 144; omega)
        refine ⟨4 * c + v, by rw [Nat.pow_succ]; omega, ?_⟩
        have e1 : (4 * c + v) % 4 = v := by omega
        have e2 : (4 * c + v) / 4 = c := by omega
        have hov : ovW nx (od F) (m + 1) vis (4 * c + v) = ovW nx (od F) m (nx (4 * hd vis + (v : Int)) :: vis) c := by
          show (if nx (4 * hd vis + (((4 * c + v) % 4 : Nat) : Int)) = -1 then vl (od F) vis else ovW nx (od F) m (nx (4 * hd vis + (((4 * c + v) % 4 : Nat) : Int)) :: vis) ((4 * c + v) / 4)) = _
          rw [e1, e2, if_neg v2]
        rw [hov, h3, v3]
        rw [h3, v3] at q

        omega
/-- the best over all codes -/
def mxC (f : Nat → Int) : Nat → Int
  | 0 => 0
  | n + 1 => max (mxC f n) (f n)
theorem mxC_ge {f : Nat → Int} : ∀ (n c : Nat), c < n → f c ≤ mxC f n := by
  intro n
  induction n with
  | zero => intro c hc; omega
  | succ n ih =>
    intro c hc
    show f c ≤ max (mxC f n) (f n)
    by_cases z : c = n
    · rw [z]; omega
    · have := ih c (by omega); omega
theorem mxC_le {f : Nat → Int} {B : Int} (h0 : 0 ≤ B) : ∀ n : Nat, (∀ c, c < n → f c ≤ B) → mxC f n ≤ B := by
  intro n
  induction n with
  | zero => intro _; exact h0
  | succ n ih =>
    intro h
    have h1 := ih (fun c hc => h c (by omega))
    have h2 := h n (by omega)
    show max (mxC f n) (f n) ≤ B
    omega
theorem look_eq (hn : nxB nx) (hF : wtB F) (m : Nat) (vis : List Int) (hv : visB vis) : mxC (fun c => ovW nx (od F) m vis c) (4 ^ m) = max (vl (od F) vis) (lkR nx (od F) m vis 4) := by
  have h0 := (vl_bd hF vis).1
  obtain ⟨c, c1, c2⟩ := ov_at hn hF m vis hv
  have h1 := mxC_ge (f := fun c => ovW nx (od F) m vis c) (4 ^ m) c c1
  have h2 := mxC_le (f := fun c => ovW nx (od F) m vis c) (B := max (vl (od F) vis) (lkR nx (od F) m vis 4)) (by omega) (4 ^ m) (fun c _ => ov_le hn hF m vis c hv)

  omega
end
