/-! MEASURE, SPREADS: the same way through the cells -/
abbrev bS : Type := (Int → Int) × (Int → Int) × Int
def bw (nx : Int → Int) (cell v : Int) (s : bS) : bS := if nx (4 * cell + v) ≠ -1 ∧ s.1 (nx (4 * cell + v)) = -1 then (upF s.1 (nx (4 * cell + v)) (s.1 cell + 1), upF s.2.1 s.2.2 (nx (4 * cell + v)), s.2.2 + 1) else s
def b4 (nx : Int → Int) (cell : Int) : Nat → Int → bS → bS
  | 0, _, s => s
  | m + 1, v, s => b4 nx cell m (v + 1) (bw nx cell v s)
def bL (nx : Int → Int) : Nat → Int → bS → bS
  | 0, _, s => s
  | f + 1, k, s => if s.2.2 ≤ k then s else bL nx f (k + 1) (b4 nx (s.2.1 k) 4 0 s)
abbrev nv (O : Int → Int) : Int → Prop := fun c => ¬ O c = -1
def bI (s : bS) : Prop := (∀ c, 0 ≤ c → c < 144 → -1 ≤ s.1 c ∧ s.1 c < s.2.2) ∧ s.2.2 = cn (nv s.1) 144 ∧ 1 ≤ s.2.2 ∧ ∀ j, 0 ≤ j → j < s.2.2 → (0 ≤ s.2.1 j ∧ s.2.1 j < 144) ∧ 0 ≤ s.1 (s.2.1 j)
theorem cn_cg {P Q : Int → Prop} [∀ c, Decidable (P c)] [∀ c, Decidable (Q c)] : ∀ n : Nat, (∀ c : Nat, c < n → (P c ↔ Q c)) → cn P n = cn Q n := by
  intro n
  induction n with
  | zero => intro _; rfl
  | succ n ih =>
    intro h
    have h1 := ih (fun c hc => h c (by omega))
    show (if P n then cn P n + 1 else cn P n) = if Q n then cn Q n + 1 else cn Q n
    by_cases z : P n
    · rw [if_pos z, if_pos ((h n (by omega)).1 z), h1]
    · rw [if_neg z, if_neg (fun q => z ((h n (by omega)).2 q)), h1]
theorem cn_add {O : Int → Int} {a v : Int} (h0 : 0 ≤ a) (ha : O a = -1) (hv : v ≠ -1) : ∀ n : Nat, cn (nv (upF O a v)) n = if a < n then cn (nv O) n + 1 else cn (nv O) n := by
  intro n
  induction n with
  | zero =>
    rw [if_neg (by omega)]
    rfl
  | succ n ih =>
    show (if nv (upF O a v) n then cn (nv (upF O a v)) n + 1 else cn (nv (upF O a v)) n) = if a < ((n + 1 : Nat) : Int) then (if nv O n then cn (nv O) n + 1 else cn (nv O) n) + 1 else (if nv O n then cn (nv O) n + 1 else cn (nv O) n)
    by_cases z : (n : Int) = a
    · have h1 : nv (upF O a v) n := by
        show ¬ upF O a v n = -1
        rw [z, upF_h]
        exact hv
      have h2 : ¬ nv O n := fun q => q (by rw [z]; exact ha)
      rw [if_pos h1, ih, if_neg (by omega), if_pos (by omega), if_neg h2]
    · have h1 : nv (upF O a v) n ↔ nv O n := by
        show ¬ upF O a v n = -1 ↔ ¬ O n = -1
        rw [upF_o z]
      rw [ih]
      by_cases y : nv O n
      · rw [if_pos y, if_pos (h1.2 y)]
        by_cases x : a < (n : Int)
        · rw [if_pos x, if_pos (by omega)]
        · rw [if_neg x, if_neg (by omega)]
      · rw [if_neg y, if_neg (fun q => y (h1.1 q))]
        by_cases x : a < (n : Int)
        · rw [if_pos x, if_pos (by omega)]
        · rw [if_neg x, if_neg (by omega)]
theorem cn_lt144 {O : Int → Int} {a : Int} (h0 : 0 ≤ a ∧ a < 144) (ha : O a = -1) : cn (nv O) 144 < 144 := by
  have h1 := cn_add (v := 0) h0.1 ha (by decide) 144
  have h2 := cn_le (P := nv (upF O a 0)) (n := 144)
  rw [if_pos (by omega)] at h1
  omega
theorem bw_I {nx : Int → Int} (hn : nxB nx) {cell v : Int} {s : bS} (hc : 0 ≤ cell ∧ cell < 144) (hv : 0 ≤ v ∧ v < 4) (hO : 0 ≤ s.1 cell) (hI : bI s) : bI (bw nx cell v s) ∧ 0 ≤ (bw nx cell v s).1 cell ∧ s.2.2 ≤ (bw nx cell v s).2.2 := by
  obtain ⟨h1, h2, h3, h4⟩ := hI
  have hb := hn (4 * cell + v) (by omega) (by omega)
  unfold bw
  by_cases z : nx (4 * cell + v) ≠ -1 ∧ s.1 (nx (4 * cell + v)) = -1
  · rw [if_pos z]
    generalize nx (4 * cell + v) = c at *
    have hcc := h1 cell hc.1 hc.2
    have hadd := cn_add (O := s.1) (a := c) (v := s.1 cell + 1) (by omega) z.2 (by omega) 144
    rw [if_pos (by omega)] at hadd
    refine ⟨⟨fun x x0 x1 => ?_, ?_, ?_, fun j j0 j1 => ?_⟩, ?_, ?_⟩
    · show -1 ≤ upF s.1 c (s.1 cell + 1) x ∧ upF s.1 c (s.1 cell + 1) x < s.2.2 + 1
      by_cases y : x = c
      · rw [y, upF_h]; omega
      · rw [upF_o y]
        have := h1 x x0 x1
        omega
    · show s.2.2 + 1 = ((cn (nv (upF s.1 c (s.1 cell + 1))) 144 : Nat) : Int)
      rw [hadd]
      omega
    · show 1 ≤ s.2.2 + 1
      omega
    · show (0 ≤ upF s.2.1 s.2.2 c j ∧ upF s.2.1 s.2.2 c j < 144) ∧ 0 ≤ upF s.1 c (s.1 cell + 1) (upF s.2.1 s.2.2 c j)
      have j1' : j < s.2.2 + 1 := j1
      by_cases y : j = s.2.2
      · rw [y, upF_h, upF_h]; omega
      · rw [upF_o y]
        have hj := h4 j j0 (by omega)
        refine ⟨hj.1, ?_⟩
        by_cases x : s.2.1 j = c
        · rw [x, upF_h]; omega
        · rw [upF_o x]; exact hj.2
    · show 0 ≤ upF s.1 c (s.1 cell + 1) cell
      by_cases y : cell = c
      · rw [y, upF_h, ← y]; omega
      · rw [upF_o y]; exact hO
    · show s.2.2 ≤ s.2.2 + 1
      omega
  · rw [if_neg z]
    exact ⟨⟨h1, h2, h3, h4⟩, hO, Int.le_refl _⟩
theorem b4_I {nx : Int → Int} (hn : nxB nx) {cell : Int} (hc : 0 ≤ cell ∧ cell < 144) : ∀ (m : Nat) (v : Int) (s : bS), 0 ≤ v → v + m = 4 → 0 ≤ s.1 cell → bI s → bI (b4 nx cell m v s) ∧ s.2.2 ≤ (b4 nx cell m v s).2.2 := by
  intro m
  induction m with
  | zero => intro v s _ _ _ h; exact ⟨h, Int.le_refl _⟩
  | succ m ih =>
    intro v s h0 hv hO hI
    obtain ⟨q1, q2, q3⟩ := bw_I hn (v := v) hc (by omega) hO hI
    obtain ⟨r1, r2⟩ := ih (v + 1) _ (by omega) (by omega) q2 q1
    exact ⟨r1, by show s.2.2 ≤ (b4 nx cell m (v + 1) (bw nx cell v s)).2.2; omega⟩
/-- alike -/
def bE (s t : bS) : Prop := eqC s.1 t.1 ∧ (∀ j, 0 ≤ j → j < s.2.2 → s.2.1 j = t.2.1 j) ∧ s.2.2 = t.2.2
theorem bw_E {nx nx' : Int → Int} (hn : nxB nx) (hnx : eqR nx nx') {cell v : Int} {s t : bS} (hc : 0 ≤ cell ∧ cell < 144) (hv : 0 ≤ v ∧ v < 4) (h : bE s t) : bE (bw nx cell v s) (bw nx' cell v t) := by
  obtain ⟨h1, h2, h3⟩ := h
  have hb := hn (4 * cell + v) (by omega) (by omega)
  have he := hnx (4 * cell + v) (by omega) (by omega)
  unfold bw
  rw [← he]
  by_cases z : nx (4 * cell + v) ≠ -1 ∧ s.1 (nx (4 * cell + v)) = -1
  · have hc2 := h1 (nx (4 * cell + v)) (by omega) (by omega)
    rw [if_pos z, if_pos ⟨z.1, by rw [← hc2]; exact z.2⟩]
    generalize nx (4 * cell + v) = c at *
    refine ⟨fun x x0 x1 => ?_, fun j j0 j1 => ?_, ?_⟩
    · show upF s.1 c (s.1 cell + 1) x = upF t.1 c (t.1 cell + 1) x
      unfold upF
      rw [h1 x x0 x1, h1 cell hc.1 hc.2]
    · show upF s.2.1 s.2.2 c j = upF t.2.1 t.2.2 c j
      have j1' : j < s.2.2 + 1 := j1
      unfold upF
      rw [← h3]
      by_cases y : j = s.2.2
      · rw [if_pos y, if_pos y]
      · rw [if_neg y, if_neg y]
        exact h2 j j0 (by omega)
    · show s.2.2 + 1 = t.2.2 + 1
      rw [h3]
  · rw [if_neg z, if_neg (fun q => z ⟨q.1, by rw [h1 _ (by omega) (by omega)]; exact q.2⟩)]
    exact ⟨h1, h2, h3⟩
theorem b4_E {nx nx' : Int → Int} (hn : nxB nx) (hnx : eqR nx nx') {cell : Int} (hc : 0 ≤ cell ∧ cell < 144) : ∀ (m : Nat) (v : Int) (s t : bS), 0 ≤ v → v + m = 4 → bE s t → bE (b4 nx cell m v s) (b4 nx' cell m v t) := by
  intro m
  induction m with
  | zero => intro v s t _ _ h; exact h
  | succ m ih =>
    intro v s t h0 hv h
    exact ih (v + 1) _ _ (by omega) (by omega) (bw_E hn hnx hc (by omega) h)
theorem bL_E {nx nx' : Int → Int} (hn : nxB nx) (hnx : eqR nx nx') : ∀ (f : Nat) (k : Int) (s t : bS), 0 ≤ k → bI s → bE s t → bE (bL nx f k s) (bL nx' f k t) := by
  intro f
  induction f with
  | zero => intro k s t _ _ h; exact h
  | succ f ih =>
    intro k s t h0 hI h
    show bE (if s.2.2 ≤ k then s else _) (if t.2.2 ≤ k then t else _)
    by_cases z : s.2.2 ≤ k
    · rw [if_pos z, if_pos (by rw [← h.2.2]; exact z)]
      exact h
    · rw [if_neg z, if_neg (by rw [← h.2.2]; exact z), ← h.2.1 k h0 (by omega)]
      have hq := hI.2.2.2 k h0 (by omega)
      exact ih (k + 1) _ _ (by omega) (b4_I hn hq.1 4 0 s (by omega) (by omega) hq.2 hI).1 (b4_E hn hnx hq.1 4 0 s t (by omega) (by omega) h)
def bB (O Q : Int → Int) (from' : Int) : bS := (upF O from' 0, upF Q 0 from', 1)
theorem bB_I {O Q : Int → Int} {a : Int} (ha : 0 ≤ a ∧ a < 144) (hO : ∀ c, 0 ≤ c → c < 144 → O c = -1) : bI (bB O Q a) := by
  have hadd := cn_add (O := O) (a := a) (v := 0) ha.1 (hO a ha.1 ha.2) (by decide) 144
  have h0 : cn (nv O) 144 = 0 := by
    have h1 : cn (nv O) 144 = cn (fun _ => False) 144 := cn_cg 144 fun c hc => ⟨fun q => q (hO c (by omega) (by omega)), False.elim⟩
    have h2 : ∀ n : Nat, cn (fun _ => False) n = 0 := by
      intro n
      induction n with
      | zero => rfl
      | succ n ih =>
        show (if False then _ else _) = 0
        rw [if_neg id]
        exact ih
    rw [h1, h2]
  rw [if_pos (by omega), h0] at hadd
  refine ⟨fun c c0 c1 => ?_, ?_, by show (1 : Int) ≤ 1; omega, fun j j0 j1 => ?_⟩
  · show -1 ≤ upF O a 0 c ∧ upF O a 0 c < 1
    by_cases z : c = a
    · rw [z, upF_h]; omega
    · rw [upF_o z, hO c c0 c1]; omega
  · show (1 : Int) = ((cn (nv (upF O a 0)) 144 : Nat) : Int)
    rw [hadd]
    rfl
  · have j1' : j < 1 := j1
    have hj : j = 0 := by omega
    show (0 ≤ upF Q 0 a j ∧ upF Q 0 a j < 144) ∧ 0 ≤ upF O a 0 (upF Q 0 a j)
    rw [hj, upF_h, upF_h]
    exact ⟨ha, Int.le_refl 0⟩
