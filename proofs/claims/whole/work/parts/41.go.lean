/-! THE STEP: numbers only -/
def okX (X : Int → Int) (B : Int) : Prop := (∀ k, 0 ≤ k → k < 576 → 0 ≤ X k) ∧ sm X 576 = B
theorem ok_le {X : Int → Int} {B k : Int} (h : okX X B) (h0 : 0 ≤ k) (h1 : k < 576) : 0 ≤ X k ∧ X k ≤ B := by
  refine ⟨h.1 k h0 h1, ?_⟩
  rw [← h.2]
  obtain ⟨n, rfl⟩ : ∃ n : Nat, k = n := ⟨k.toNat, by omega⟩
  exact sm_one (fun j hj => h.1 j (by omega) (by omega)) (by omega)
theorem ok_nn {X : Int → Int} {B : Int} (h : okX X B) : 0 ≤ B := by
  rw [← h.2]
  exact sm_nn (fun j hj => h.1 j (by omega) (by omega))
theorem ok_0 : okX (fun _ => 0) 0 := ⟨fun _ _ _ => Int.le_refl 0, sm_zero⟩
theorem inc_ok {X : Int → Int} {B a x : Int} (h : okX X B) (ha : 0 ≤ a ∧ a < 576) (hx : 0 ≤ x) : okX (inc X a x) (B + x) := by
  refine ⟨fun k h0 h1 => ?_, ?_⟩
  · have := h.1 k h0 h1
    unfold inc
    split <;> omega
  · rw [sm_inc ha.1 (by omega), h.2]
theorem inc_comm (X : Int → Int) (a x b y : Int) : inc (inc X a x) b y = inc (inc X b y) a x := by
  funext s
  unfold inc
  by_cases h1 : s = a <;> by_cases h2 : s = b
  · rw [if_pos h1, if_pos h2, if_pos h1, if_pos h2]; omega
  · rw [if_pos h1, if_neg h2, if_pos h1, if_neg h2]
  · rw [if_neg h1, if_pos h2, if_neg h1]
  · rw [if_neg h1, if_neg h2, if_neg h1]
theorem inc_0 (X : Int → Int) (a : Int) : inc X a 0 = X := by
  funext s
  unfold inc
  split <;> omega
/-- where one comes to -/
def come (nx : Int → Int) (c way along : Int) : Int := if nx (4 * c + along) = -1 then 4 * c + way else 4 * nx (4 * c + along) + along
abbrev nxB (nx : Int → Int) : Prop := ∀ k, 0 ≤ k → k < 576 → -1 ≤ nx k ∧ nx k < 144
theorem come_bd {nx : Int → Int} (hn : nxB nx) {c way along : Int} (hc : 0 ≤ c ∧ c < 144) (hw : 0 ≤ way ∧ way < 4) (ha : 0 ≤ along ∧ along < 4) : 0 ≤ come nx c way along ∧ come nx c way along < 576 := by
  have := hn (4 * c + along) (by omega) (by omega)
  unfold come
  split <;> omega
/-- one weight goes -/
def go1 (F nx : Int → Int) (a dd c v : Int) (X : Int → Int) : Int → Int :=
  inc (inc (inc (inc X (4 * c + v) (F (4 * c + v) - F (4 * c + v) * a / 1000 - 2 * (F (4 * c + v) * dd / 1000))) (come nx c v v) (F (4 * c + v) * a / 1000)) (come nx c v ((v + 3) % 4)) (F (4 * c + v) * dd / 1000)) (come nx c v ((v + 1) % 4)) (F (4 * c + v) * dd / 1000)
abbrev adB (a dd : Int) : Prop := 0 ≤ a ∧ a ≤ 1000 ∧ 0 ≤ dd ∧ dd ≤ (1000 - a) / 2
theorem parts_bd {f a dd : Int} (hf : 0 ≤ f) (h : adB a dd) : 0 ≤ f * a ∧ 0 ≤ f * dd ∧ f * a ≤ 1000 * f ∧ f * dd ≤ 1000 * f ∧ 0 ≤ f * a / 1000 ∧ 0 ≤ f * dd / 1000 ∧ 0 ≤ f - f * a / 1000 - 2 * (f * dd / 1000) := by
  obtain ⟨h0, h1, h2, h3⟩ := h
  have k1 : 0 ≤ f * a := Int.mul_nonneg hf h0
  have k2 : 0 ≤ f * dd := Int.mul_nonneg hf h2
  have k3 : f * (a + 2 * dd) ≤ f * 1000 := Int.mul_le_mul_of_nonneg_left (by omega) hf
  have k4 : f * (a + 2 * dd) = f * a + 2 * (f * dd) := by rw [Int.mul_add, Int.mul_left_comm]
  omega
theorem go1_ok {F nx : Int → Int} {a dd c v B : Int} {X : Int → Int} (hX : okX X B) (hn : nxB nx) (hc : 0 ≤ c ∧ c < 144) (hv : 0 ≤ v ∧ v < 4) (hf : 0 ≤ F (4 * c + v)) (h : adB a dd) : okX (go1 F nx a dd c v X) (B + F (4 * c + v)) := by
  obtain ⟨k1, k2, k3, k4, k5, k6, k7⟩ := parts_bd hf h
  have e1 := inc_ok hX (a := 4 * c + v) (by omega) k7
  have e2 := inc_ok e1 (come_bd hn hc hv hv) k5
  have e3 := inc_ok e2 (come_bd hn hc hv (along := (v + 3) % 4) (by omega)) k6
  have e4 := inc_ok e3 (come_bd hn hc hv (along := (v + 1) % 4) (by omega)) k6
  have : B + (F (4 * c + v) - F (4 * c + v) * a / 1000 - 2 * (F (4 * c + v) * dd / 1000)) + F (4 * c + v) * a / 1000 + F (4 * c + v) * dd / 1000 + F (4 * c + v) * dd / 1000 = B + F (4 * c + v) := by omega
  rw [this] at e4
  exact e4
theorem go1_0 {F nx : Int → Int} {a dd c v : Int} {X : Int → Int} (h : F (4 * c + v) = 0) : go1 F nx a dd c v X = X := by
  unfold go1
  rw [h, Int.zero_mul, Int.zero_mul]
  have e1 : (0 : Int) - 0 / 1000 - 2 * (0 / 1000) = 0 := by decide
  have e2 : (0 : Int) / 1000 = 0 := by decide
  rw [e1, e2, inc_0, inc_0, inc_0, inc_0]
/-- the four of a cell, from v on -/
def go4 (F nx : Int → Int) (a dd c : Int) : Nat → Int → (Int → Int) → (Int → Int)
  | 0, _, X => X
  | m + 1, v, X => go4 F nx a dd c m (v + 1) (go1 F nx a dd c v X)
theorem go4_ok {F nx : Int → Int} {a dd : Int} {c : Nat} (hn : nxB nx) (hc : c < 144) (hf : ∀ k, 0 ≤ k → k < 576 → 0 ≤ F k) (h : adB a dd) : ∀ (m v : Nat) (X : Int → Int), v + m = 4 → okX X (sm F (4 * c + v)) → okX (go4 F nx a dd c m v X) (sm F (4 * (c + 1))) := by
  intro m
  induction m with
  | zero =>
    intro v X hv hX
    rw [show 4 * (c + 1) = 4 * c + v by omega]
    exact hX
  | succ m ih =>
    intro v X hv hX
    have := go1_ok (F := F) (c := (c : Int)) (v := (v : Int)) hX hn (by omega) (by omega) (hf (4 * (c : Int) + v) (by omega) (by omega)) h
    have hs : sm F (4 * c + (v + 1)) = sm F (4 * c + v) + F (4 * (c : Int) + v) := by
      show sm F (4 * c + v) + F ((4 * c + v : Nat) : Int) = _
      rw [show ((4 * c + v : Nat) : Int) = 4 * (c : Int) + v by omega]
    rw [← hs] at this
    exact ih (v + 1) _ (by omega) this
theorem go4_0 {F nx : Int → Int} {a dd c : Int} (h : ∀ k, 4 * c ≤ k → k < 4 * c + 4 → F k = 0) : ∀ (m : Nat) (v : Int) (X : Int → Int), 0 ≤ v → v + m = 4 → go4 F nx a dd c m v X = X := by
  intro m
  induction m with
  | zero => intro v X _ _; rfl
  | succ m ih =>
    intro v X h0 hv
    show go4 F nx a dd c m (v + 1) (go1 F nx a dd c v X) = X
    rw [go1_0 (h _ (by omega) (by omega))]
    exact ih (v + 1) X (by omega) (by omega)
/-- drift: at most half of the rest -/
def drf (dr a : Int) : Int := min dr ((1000 - a) / 2)
def goF (P : Int → Prop) [∀ c, Decidable (P c)] (F nx A : Int → Int) (dr : Int) (X0 : Int → Int) : Nat → (Int → Int)
  | 0 => X0
  | n + 1 => if P n then go4 F nx (A n) (drf dr (A n)) n 4 0 (goF P F nx A dr X0 n) else goF P F nx A dr X0 n
abbrev aB (A : Int → Int) : Prop := ∀ c, 0 ≤ c → c < 144 → 0 ≤ A c ∧ A c ≤ 1000
theorem drf_ad {dr a : Int} (hd : 0 ≤ dr) (ha : 0 ≤ a ∧ a ≤ 1000) : adB a (drf dr a) := by
  unfold drf adB
  omega
theorem goF_ok {P : Int → Prop} [∀ c, Decidable (P c)] {F nx A X0 : Int → Int} {dr : Int} (h0 : okX X0 0) (hn : nxB nx) (hf : ∀ k, 0 ≤ k → k < 576 → 0 ≤ F k) (hA : ∀ c : Nat, c < 144 → P c → 0 ≤ A c ∧ A c ≤ 1000) (hd : 0 ≤ dr) (hC : ∀ c : Nat, c < 144 → ¬ P c → ∀ k, 4 * (c : Int) ≤ k → k < 4 * (c : Int) + 4 → F k = 0) : ∀ n : Nat, n ≤ 144 → okX (goF P F nx A dr X0 n) (sm F (4 * n)) := by
  intro n
  induction n with
  | zero => exact fun _ => h0
  | succ n ih =>
    intro hn'
    have ih := ih (by omega)
    show okX (if P n then _ else _) _
    by_cases hp : P n
    · rw [if_pos hp]
      exact go4_ok hn (by omega) hf (drf_ad hd (hA n (by omega) hp)) 4 0 _ rfl ih
    · rw [if_neg hp]
      have hz := hC n (by omega) hp
      rw [← sm_skip (f := F) (m := 4 * n) (n := 4 * (n + 1)) (by omega) (fun k k0 k1 => hz k (by omega) (by omega))]
      exact ih
/-- no weight comes to a closed cell -/
theorem inc_z {X : Int → Int} {a x k : Int} (h : X k = 0) (hk : k ≠ a) : inc X a x k = 0 := by
  unfold inc
  rw [if_neg hk, h]
abbrev nxP (P : Int → Prop) (nx : Int → Int) : Prop := ∀ k, 0 ≤ k → k < 576 → nx k ≠ -1 → P (nx k)
theorem come_P {P : Int → Prop} {nx : Int → Int} (hn : nxB nx) (hP : nxP P nx) {c way along : Int} (hc : 0 ≤ c ∧ c < 144) (hw : 0 ≤ way ∧ way < 4) (ha : 0 ≤ along ∧ along < 4) (hp : P c) : P (come nx c way along / 4) := by
  have h1 := hn (4 * c + along) (by omega) (by omega)
  unfold come
  by_cases h : nx (4 * c + along) = -1
  · rw [if_pos h, show (4 * c + way) / 4 = c by omega]; exact hp
  · rw [if_neg h, show (4 * nx (4 * c + along) + along) / 4 = nx (4 * c + along) by omega]
    exact hP _ (by omega) (by omega) h
theorem go1_z {P : Int → Prop} {F nx : Int → Int} {a dd c v k : Int} {X : Int → Int} (hn : nxB nx) (hP : nxP P nx) (hc : 0 ≤ c ∧ c < 144) (hv : 0 ≤ v ∧ v < 4) (hp : P c) (hk : ¬ P (k / 4)) (h : X k = 0) : go1 F nx a dd c v X k = 0 := by
  have hq : ∀ al, 0 ≤ al ∧ al < 4 → k ≠ come nx c v al := fun al hal e => hk (by rw [e]; exact come_P hn hP hc hv hal hp)
  unfold go1
  refine inc_z (inc_z (inc_z (inc_z h (fun e => hk ?_)) (hq v hv)) (hq _ (by omega))) (hq _ (by omega))
  rw [e, show (4 * c + v) / 4 = c by omega]
  exact hp
theorem go4_z {P : Int → Prop} {F nx : Int → Int} {a dd c k : Int} (hn : nxB nx) (hP : nxP P nx) (hc : 0 ≤ c ∧ c < 144) (hp : P c) (hk : ¬ P (k / 4)) : ∀ (m : Nat) (v : Int) (X : Int → Int), 0 ≤ v → v + m = 4 → X k = 0 → go4 F nx a dd c m v X k = 0 := by
  intro m
  induction m with
  | zero => intro v X _ _ h; exact h
  | succ m ih =>
    intro v X h0 hv h
    exact ih (v + 1) _ (by omega) (by omega) (go1_z hn hP hc (by omega) hp hk h)
theorem goF_z {P : Int → Prop} [∀ c, Decidable (P c)] {F nx A X0 : Int → Int} {dr k : Int} (h0 : X0 k = 0) (hn : nxB nx) (hP : nxP P nx) (hk : ¬ P (k / 4)) : ∀ n : Nat, n ≤ 144 → goF P F nx A dr X0 n k = 0 := by
  intro n
  induction n with
  | zero => intro _; exact h0
  | succ n ih =>
    intro hn'
    show (if P n then _ else _ : Int → Int) k = 0
    by_cases hp : P n
    · rw [if_pos hp]
      exact go4_z hn hP (by omega) hp hk 4 0 _ (by omega) (by omega) (ih (by omega))
    · rw [if_neg hp]; exact ih (by omega)
/-- equal where weights are -/
abbrev eqR (X Y : Int → Int) : Prop := ∀ k, 0 ≤ k → k < 576 → X k = Y k
theorem inc_eqR {X Y : Int → Int} (a x : Int) (h : eqR X Y) : eqR (inc X a x) (inc Y a x) := fun k h0 h1 => by
  unfold inc
  rw [h k h0 h1]
theorem go1_eqR {F F' nx nx' : Int → Int} {a dd c v : Int} {X Y : Int → Int} (hF : eqR F F') (hn : eqR nx nx') (hc : 0 ≤ c ∧ c < 144) (hv : 0 ≤ v ∧ v < 4) (h : eqR X Y) : eqR (go1 F nx a dd c v X) (go1 F' nx' a dd c v Y) := by
  unfold go1 come
  rw [hF _ (by omega) (by omega), hn (4 * c + v) (by omega) (by omega), hn (4 * c + (v + 3) % 4) (by omega) (by omega), hn (4 * c + (v + 1) % 4) (by omega) (by omega)]
  exact inc_eqR _ _ (inc_eqR _ _ (inc_eqR _ _ (inc_eqR _ _ h)))
theorem go4_eqR {F F' nx nx' : Int → Int} {a dd c : Int} (hF : eqR F F') (hn : eqR nx nx') (hc : 0 ≤ c ∧ c < 144) : ∀ (m : Nat) (v : Int) (X Y : Int → Int), 0 ≤ v → v + m = 4 → eqR X Y → eqR (go4 F nx a dd c m v X) (go4 F' nx' a dd c m v Y) := by
  intro m
  induction m with
  | zero => intro v X Y _ _ h; exact h
  | succ m ih =>
    intro v X Y h0 hv h
    exact ih (v + 1) _ _ (by omega) (by omega) (go1_eqR hF hn hc (by omega) h)
theorem goF_eqR {P Q : Int → Prop} [∀ c, Decidable (P c)] [∀ c, Decidable (Q c)] {F F' nx nx' A A' X Y : Int → Int} {dr : Int} (hPQ : ∀ c : Nat, c < 144 → (P c ↔ Q c)) (hA : ∀ c : Nat, c < 144 → P c → A c = A' c) (hF : eqR F F') (hn : eqR nx nx') (h : eqR X Y) : ∀ n : Nat, n ≤ 144 → eqR (goF P F nx A dr X n) (goF Q F' nx' A' dr Y n) := by
  intro n
  induction n with
  | zero => exact fun _ => h
  | succ n ih =>
    intro hn'
    have ih := ih (by omega)
    show eqR (if P n then _ else _) (if Q n then _ else _)
    by_cases hp : P n
    · rw [if_pos hp, if_pos ((hPQ n (by omega)).1 hp), ← hA n (by omega) hp]
      exact go4_eqR hF hn (by omega) 4 0 _ _ (by omega) (by omega) ih
    · rw [if_neg hp, if_neg (fun q => hp ((hPQ n (by omega)).2 q))]
      exact ih
theorem goF_fac {P : Int → Prop} [∀ c, Decidable (P c)] {F nx A X : Int → Int} {dr : Int} {n m : Nat} (h : n ≤ m) (hc : cn P n = cn P m) : goF P F nx A dr X n = goF P F nx A dr X m := by
  induction h with
  | refl => rfl
  | step h ih =>
    next m' =>
    have h1 := cn_mono (P := P) (m := n) (n := m') h
    have h2 : cn P (m' + 1) = if P m' then cn P m' + 1 else cn P m' := rfl
    have h2' : cn P (Nat.succ m') = if P m' then cn P m' + 1 else cn P m' := rfl
    by_cases hp : P m'
    · rw [h2', if_pos hp] at hc; omega
    · rw [h2', if_neg hp] at hc
      rw [ih hc]
      show _ = if P m' then _ else _
      rw [if_neg hp]
