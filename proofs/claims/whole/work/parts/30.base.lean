/-! LEVEL 3: the equations, read as numbers. Worlds: reads behind writes, sums, frames. -/
theorem up_c {w : zW} {c : Nat} {i s v : Int} {c' : Nat} {i' s' : Int} (h : c' ≠ c) : z_up w c i s v c' i' s' = w c' i' s' := by
  unfold z_up
  rw [if_neg (fun e => h e.1)]
theorem up_s {w : zW} {c : Nat} {i s v : Int} {i' s' : Int} (h : s' ≠ s) : z_up w c i s v c i' s' = w c i' s' := by
  unfold z_up
  rw [if_neg (fun e => h e.2.1)]
theorem up_i {w : zW} {c : Nat} {i s v : Int} {i' s' : Int} (h : i' ≠ i) : z_up w c i s v c i' s' = w c i' s' := by
  unfold z_up
  rw [if_neg (fun e => h e.2.2)]
theorem up_h {w : zW} {c : Nat} {i s v : Int} : z_up w c i s v c i s = v := by
  unfold z_up
  rw [if_pos ⟨rfl, rfl, rfl⟩]
theorem cpy_c {w : zW} {c0 : Nat} {i0 sp : Int} {c1 : Nat} {i1 dp n : Int} {c : Nat} {i s : Int} (h : c ≠ c1) : z_cpy w c0 i0 sp c1 i1 dp n c i s = w c i s := by
  unfold z_cpy
  rw [if_neg (fun e => h e.1)]
theorem cpy_i {w : zW} {c0 : Nat} {i0 sp : Int} {c1 : Nat} {i1 dp n : Int} {c : Nat} {i s : Int} (h : i ≠ i1) : z_cpy w c0 i0 sp c1 i1 dp n c i s = w c i s := by
  unfold z_cpy
  rw [if_neg (fun e => h e.2.1)]
theorem cpy_in {w : zW} {c0 : Nat} {i0 sp : Int} {c1 : Nat} {i1 dp n s : Int} (h : dp ≤ s ∧ s < dp + n) : z_cpy w c0 i0 sp c1 i1 dp n c1 i1 s = w c0 i0 (sp + (s - dp)) := by
  unfold z_cpy
  rw [if_pos ⟨rfl, rfl, h.1, h.2⟩]
theorem cpy_out {w : zW} {c0 : Nat} {i0 sp : Int} {c1 : Nat} {i1 dp n : Int} {c : Nat} {i s : Int} (h : ¬ (dp ≤ s ∧ s < dp + n)) : z_cpy w c0 i0 sp c1 i1 dp n c i s = w c i s := by
  unfold z_cpy
  rw [if_neg (fun e => h ⟨e.2.2.1, e.2.2.2⟩)]
/-- a whole row put in place -/
def z_row (w : zW) (c : Nat) (i : Int) (F : Int → Int) : zW := fun c' i' s' => if c' = c ∧ i' = i then F s' else w c' i' s'
theorem row_h {w : zW} {c : Nat} {i : Int} {F : Int → Int} (s : Int) : z_row w c i F c i s = F s := by
  unfold z_row
  rw [if_pos ⟨rfl, rfl⟩]
theorem row_c {w : zW} {c : Nat} {i : Int} {F : Int → Int} {c' : Nat} {i' s : Int} (h : c' ≠ c) : z_row w c i F c' i' s = w c' i' s := by
  unfold z_row
  rw [if_neg (fun e => h e.1)]
theorem row_i {w : zW} {c : Nat} {i : Int} {F : Int → Int} {c' : Nat} {i' s : Int} (h : i' ≠ i) : z_row w c i F c' i' s = w c' i' s := by
  unfold z_row
  rw [if_neg (fun e => h e.2)]
theorem row_self (w : zW) (c : Nat) (i : Int) : z_row w c i (w c i) = w := by
  funext c' i' s'
  unfold z_row
  split
  · next e => rw [e.1, e.2]
  · rfl
theorem row_row (w : zW) (c : Nat) (i : Int) (F G : Int → Int) : z_row (z_row w c i F) c i G = z_row w c i G := by
  funext c' i' s'
  unfold z_row
  split <;> rfl
def upF (F : Int → Int) (s v : Int) : Int → Int := fun s' => if s' = s then v else F s'
theorem row_up (w : zW) (c : Nat) (i : Int) (F : Int → Int) (s v : Int) : z_up (z_row w c i F) c i s v = z_row w c i (upF F s v) := by
  funext c' i' s'
  unfold z_row z_up upF
  by_cases h1 : c' = c <;> by_cases h2 : i' = i <;> by_cases h3 : s' = s <;> simp [h1, h2, h3]
theorem up_row (w : zW) (c : Nat) (i s v : Int) : z_up w c i s v = z_row w c i (upF (w c i) s v) := by
  have := row_up w c i (w c i) s v
  rw [row_self] at this
  exact this
/-! what a run leaves alone -/
def z_fr (S : List Nat) (w w' : zW) : Prop := ∀ c, c ∉ S → w' c = w c
theorem fr_rf (S : List Nat) (w : zW) : z_fr S w w := fun _ _ => rfl
theorem fr_tr {S : List Nat} {w w' w'' : zW} (h1 : z_fr S w w') (h2 : z_fr S w' w'') : z_fr S w w'' := fun c hc => (h2 c hc).trans (h1 c hc)
theorem fr_sub {S T : List Nat} {w w' : zW} (h : z_fr S w w') (hs : ∀ c ∈ S, c ∈ T) : z_fr T w w' := fun c hc => h c (fun q => hc (hs c q))
theorem fr_up {S : List Nat} {w : zW} {c : Nat} {i s v : Int} (hc : c ∈ S) : z_fr S w (z_up w c i s v) := fun c' hc' => by
  funext i' s'
  exact up_c (fun e => hc' (by rw [e]; exact hc))
theorem fr_cpy {S : List Nat} {w : zW} {c0 : Nat} {i0 sp : Int} {c1 : Nat} {i1 dp n : Int} (hc : c1 ∈ S) : z_fr S w (z_cpy w c0 i0 sp c1 i1 dp n) := fun c' hc' => by
  funext i' s'
  exact cpy_c (fun e => hc' (by rw [e]; exact hc))
theorem fr_row {S : List Nat} {w : zW} {c : Nat} {i : Int} {F : Int → Int} (hc : c ∈ S) : z_fr S w (z_row w c i F) := fun c' hc' => by
  funext i' s'
  exact row_c (fun e => hc' (by rw [e]; exact hc))
/-! sums -/
def sm (f : Int → Int) : Nat → Int
  | 0 => 0
  | n + 1 => sm f n + f n
theorem sm_congr {f g : Int → Int} {n : Nat} (h : ∀ k : Nat, k < n → f k = g k) : sm f n = sm g n := by
  induction n with
  | zero => rfl
  | succ n ih =>
    show sm f n + f n = sm g n + g n
    rw [ih (fun k hk => h k (by omega)), h n (by omega)]
theorem sm_nn {f : Int → Int} {n : Nat} (h : ∀ k : Nat, k < n → 0 ≤ f k) : 0 ≤ sm f n := by
  induction n with
  | zero => exact Int.le_refl 0
  | succ n ih =>
    show 0 ≤ sm f n + f n
    have := ih (fun k hk => h k (by omega))
    have := h n (by omega)
    omega
theorem sm_le {f g : Int → Int} {n : Nat} (h : ∀ k : Nat, k < n → f k ≤ g k) : sm f n ≤ sm g n := by
  induction n with
  | zero => exact Int.le_refl 0
  | succ n ih =>
    show sm f n + f n ≤ sm g n + g n
    have := ih (fun k hk => h k (by omega))
    have := h n (by omega)
    omega
theorem sm_mono {f : Int → Int} {m n : Nat} (h : ∀ k : Nat, k < n → 0 ≤ f k) (hm : m ≤ n) : sm f m ≤ sm f n := by
  induction hm with
  | refl => exact Int.le_refl _
  | step hm ih =>
    next n' =>
    show sm f m ≤ sm f n' + f n'
    have := ih (fun k hk => h k (by omega))
    have := h n' (by omega)
    omega
theorem sm_one {f : Int → Int} {n k : Nat} (h : ∀ k : Nat, k < n → 0 ≤ f k) (hk : k < n) : f k ≤ sm f n := by
  have h1 := sm_mono (m := k + 1) h hk
  have h2 := sm_nn (f := f) (n := k) (fun j hj => h j (by omega))
  have h3 : sm f (k + 1) = sm f k + f k := rfl
  omega
theorem sm_zero {n : Nat} : sm (fun _ => 0) n = 0 := by
  induction n with
  | zero => rfl
  | succ n ih => show sm (fun _ => 0) n + 0 = 0; rw [ih]; rfl
theorem sm_add {f g : Int → Int} {n : Nat} : sm (fun k => f k + g k) n = sm f n + sm g n := by
  induction n with
  | zero => rfl
  | succ n ih =>
    show sm (fun k => f k + g k) n + (f n + g n) = sm f n + f n + (sm g n + g n)
    rw [ih]
    omega
theorem sm_mul {f : Int → Int} {a : Int} {n : Nat} : sm (fun k => f k * a) n = sm f n * a := by
  induction n with
  | zero => exact (Int.zero_mul a).symm
  | succ n ih =>
    show sm (fun k => f k * a) n + f n * a = (sm f n + f n) * a
    rw [ih, Int.add_mul]
def inc (F : Int → Int) (a x : Int) : Int → Int := fun s => if s = a then F s + x else F s
theorem sm_inc_out {F : Int → Int} {a x : Int} {n : Nat} (h : a < 0 ∨ (n : Int) ≤ a) : sm (inc F a x) n = sm F n := sm_congr fun k hk => by
  unfold inc
  rw [if_neg (by omega)]
theorem sm_inc {F : Int → Int} {a x : Int} {n : Nat} (h0 : 0 ≤ a) (h1 : a < n) : sm (inc F a x) n = sm F n + x := by
  induction n with
  | zero => omega
  | succ n ih =>
    show sm (inc F a x) n + inc F a x n = sm F n + F n + x
    by_cases h : a = (n : Int)
    · rw [sm_inc_out (by omega)]
      unfold inc
      rw [if_pos h.symm]
      omega
    · rw [ih (by omega)]
      unfold inc
      rw [if_neg (fun e => h e.symm)]
      omega
/-- four by four -/
def od (f : Int → Int) (c : Int) : Int := f (4 * c) + f (4 * c + 1) + f (4 * c + 2) + f (4 * c + 3)
theorem sm_od {f : Int → Int} {n : Nat} : sm f (4 * n) = sm (od f) n := by
  induction n with
  | zero => rfl
  | succ n ih =>
    rw [show 4 * (n + 1) = 4 * n + 1 + 1 + 1 + 1 by omega]
    show sm f (4 * n) + f ((4 * n : Nat) : Int) + f ((4 * n + 1 : Nat) : Int) + f ((4 * n + 1 + 1 : Nat) : Int) + f ((4 * n + 1 + 1 + 1 : Nat) : Int) = sm (od f) n + od f n
    rw [ih]
    unfold od
    rw [show ((4 * n : Nat) : Int) = 4 * (n : Int) by omega, show ((4 * n + 1 : Nat) : Int) = 4 * (n : Int) + 1 by omega, show ((4 * n + 1 + 1 : Nat) : Int) = 4 * (n : Int) + 2 by omega, show ((4 * n + 1 + 1 + 1 : Nat) : Int) = 4 * (n : Int) + 3 by omega]
    omega
/-- how many below n -/
def cn (P : Int → Prop) [∀ c, Decidable (P c)] : Nat → Nat
  | 0 => 0
  | n + 1 => if P n then cn P n + 1 else cn P n
theorem cn_le {P : Int → Prop} [∀ c, Decidable (P c)] {n : Nat} : cn P n ≤ n := by
  induction n with
  | zero => exact Nat.le_refl _
  | succ n ih => unfold cn; split <;> omega
theorem cn_mono {P : Int → Prop} [∀ c, Decidable (P c)] {m n : Nat} (h : m ≤ n) : cn P m ≤ cn P n := by
  induction h with
  | refl => exact Nat.le_refl _
  | step hm ih =>
    next n' =>
    show cn P m ≤ (if P n' then cn P n' + 1 else cn P n')
    split <;> omega
theorem cn_lt {P : Int → Prop} [∀ c, Decidable (P c)] {c n : Nat} (h : c < n) (hc : P c) : cn P c < cn P n := by
  have h1 : cn P (c + 1) = cn P c + 1 := by show (if P c then _ else _) = _; rw [if_pos hc]
  have := cn_mono (P := P) (m := c + 1) (n := n) h
  omega
/-- a list of those that hold P, in their order -/
def lists (P : Int → Prop) [∀ c, Decidable (P c)] (L : Int → Int) (n : Nat) : Prop := ∀ c : Nat, c < n → P c → L (cn P c) = c
theorem sm_list {P : Int → Prop} [∀ c, Decidable (P c)] {L : Int → Int} {f : Int → Int} {n : Nat} (h : lists P L n) : sm (fun k => f (L k)) (cn P n) = sm (fun c => if P c then f c else 0) n := by
  induction n with
  | zero => rfl
  | succ n ih =>
    have ih := ih (fun c hc => h c (by omega))
    show sm _ (if P n then cn P n + 1 else cn P n) = sm _ n + (if P n then f n else 0)
    by_cases hp : P n
    · rw [if_pos hp, if_pos hp]
      show sm (fun k => f (L k)) (cn P n) + f (L (cn P n)) = _
      rw [ih, h n (by omega) hp]
    · rw [if_neg hp, if_neg hp, ih, Int.add_zero]
theorem cn_inv {P : Int → Prop} [∀ c, Decidable (P c)] {n k : Nat} (h : k < cn P n) : ∃ c : Nat, c < n ∧ P c ∧ cn P c = k := by
  induction n with
  | zero => exact absurd h (Nat.not_lt_zero _)
  | succ n ih =>
    have h' : k < (if P n then cn P n + 1 else cn P n) := h
    by_cases hp : P n
    · rw [if_pos hp] at h'
      by_cases hk : k < cn P n
      · obtain ⟨c, h1, h2, h3⟩ := ih hk
        exact ⟨c, by omega, h2, h3⟩
      · exact ⟨n, by omega, hp, by omega⟩
    · rw [if_neg hp] at h'
      obtain ⟨c, h1, h2, h3⟩ := ih h'
      exact ⟨c, by omega, h2, h3⟩
theorem lists_at {P : Int → Prop} [∀ c, Decidable (P c)] {L : Int → Int} {n k : Nat} (h : lists P L n) (hk : k < cn P n) : ∃ c : Nat, c < n ∧ P c ∧ cn P c = k ∧ L k = c := by
  obtain ⟨c, h1, h2, h3⟩ := cn_inv hk
  exact ⟨c, h1, h2, h3, by rw [← h3]; exact h c h1 h2⟩
