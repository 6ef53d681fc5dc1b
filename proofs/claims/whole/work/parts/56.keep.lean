/-! what the weights keep: whole, none at closed cells, together above 0 and at most a thousand million -/
def wOK (P : Int → Prop) (F : Int → Int) : Prop := (∀ k, 0 ≤ k → k < 576 → 0 ≤ F k) ∧ (∀ c : Nat, c < 144 → ¬ P c → ∀ k, 4 * (c : Int) ≤ k → k < 4 * (c : Int) + 4 → F k = 0) ∧ 0 < tot F ∧ tot F ≤ 1000000000
theorem wOK_B {P : Int → Prop} {F : Int → Int} (h : wOK P F) : wtB F := fun k h0 h1 => by
  obtain ⟨n, rfl⟩ : ∃ n : Nat, k = n := ⟨k.toNat, by omega⟩
  have := sm_one (f := F) (n := 576) (k := n) (fun j hj => h.1 j (by omega) (by omega)) (by omega)
  have h3 := h.2.2.2
  have h2 := h.1 n h0 h1
  have h4 : tot F = sm F 576 := rfl
  omega
theorem wOK_eq {P : Int → Prop} {F G : Int → Int} (h : wOK P F) (he : eqR G F) : wOK P G := by
  obtain ⟨h1, h2, h3, h4⟩ := h
  have ht : tot G = tot F := sm_congr fun k hk => he k (by omega) (by omega)
  exact ⟨fun k k0 k1 => by rw [he k k0 k1]; exact h1 k k0 k1, fun c hc hp k k0 k1 => by rw [he k (by omega) (by omega)]; exact h2 c hc hp k k0 k1, by rw [ht]; exact h3, by rw [ht]; exact h4⟩
theorem wOK_rot {P : Int → Prop} {F : Int → Int} {s : Int} (hs : 0 ≤ s ∧ s < 4) (h : wOK P F) : wOK P (rot s F) := by
  obtain ⟨h1, h2, h3, h4⟩ := h
  have ht : tot (rot s F) = tot F := by
    rw [tot_od, tot_od]
    exact sm_congr fun c _ => rot_od hs c
  refine ⟨fun k k0 k1 => h1 _ (by omega) (by omega), fun c hc hp k k0 k1 => ?_, by rw [ht]; exact h3, by rw [ht]; exact h4⟩
  exact h2 c hc hp _ (by omega) (by omega)
theorem wOK_go {P : Int → Prop} [∀ c, Decidable (P c)] {F nx A : Int → Int} {dr : Int} (hn : nxB nx) (hP : nxP P nx) (hA : ∀ c : Nat, c < 144 → P c → 0 ≤ A c ∧ A c ≤ 1000) (hd : 0 ≤ dr) (h : wOK P F) : wOK P (goF P F nx A dr (fun _ => 0) 144) := by
  obtain ⟨h1, h2, h3, h4⟩ := h
  have hok := goF_ok (P := P) (F := F) (nx := nx) (A := A) (dr := dr) ok_0 hn h1 hA hd h2 144 (by omega)
  have ht : tot (goF P F nx A dr (fun _ => 0) 144) = tot F := hok.2
  refine ⟨hok.1, fun c hc hp k k0 k1 => ?_, by rw [ht]; exact h3, by rw [ht]; exact h4⟩
  exact goF_z rfl hn hP (by rw [show k / 4 = c by omega]; exact hp) 144 (by omega)
theorem sm_scale {Y : Int → Int} {S : Int} (hS : 0 < S) : ∀ n : Nat, (∀ k : Nat, k < n → 0 ≤ Y k) → S * sm (nrm Y S) n ≤ sm Y n * 1000000000 := by
  intro n
  induction n with
  | zero => intro _; show S * 0 ≤ 0 * 1000000000; omega
  | succ n ih =>
    intro h
    have ih := ih (fun k hk => h k (by omega))
    have hm : S * nrm Y S n ≤ Y n * 1000000000 := Int.mul_ediv_self_le (by omega)
    show S * (sm (nrm Y S) n + nrm Y S n) ≤ (sm Y n + Y n) * 1000000000
    rw [Int.mul_add, Int.add_mul]
    omega
theorem wOK_nrm {P : Int → Prop} {F ch : Int → Int} (hch : ∀ c : Nat, c < 144 → P c → 0 ≤ ch c ∧ ch c ≤ 1000) (h : wOK P F) (hdec : ∀ c : Nat, P c ∨ ¬ P c) (hp : 0 < sm (wgt F ch) 576) : wOK P (nrm (wgt F ch) (sm (wgt F ch) 576)) := by
  have hB := wOK_B h
  obtain ⟨h1, h2, h3, h4⟩ := h
  have hb : ∀ k : Nat, k < 576 → 0 ≤ wgt F ch k ∧ wgt F ch k ≤ F k := fun k hk => by
    obtain ⟨c, hc⟩ : ∃ c : Nat, (k : Int) / 4 = c := ⟨k / 4, by omega⟩
    rcases hdec c with ho | ho
    · have q2 := wgt_bd (F := F) (ch := ch) hB True k (by omega) (by omega) (by rw [hc]; exact hch c (by omega) ho)
      exact ⟨q2.2.2.1, q2.2.2.2⟩
    · unfold wgt
      rw [h2 c (by omega) ho k (by omega) (by omega), Int.zero_mul]
      decide
  have hSt : sm (wgt F ch) 576 ≤ tot F := sm_le (fun k hk => (hb k hk).2)
  have hnn : ∀ k : Nat, k < 576 → wgt F ch k ≤ nrm (wgt F ch) (sm (wgt F ch) 576) k := fun k hk => by
    refine Int.le_ediv_of_mul_le hp ?_
    exact Int.mul_le_mul_of_nonneg_left (by omega) (hb k hk).1
  have hle := sm_scale hp 576 (fun k hk => (hb k hk).1)
  refine ⟨fun k k0 k1 => ?_, fun c hc hpc k k0 k1 => ?_, ?_, ?_⟩
  · obtain ⟨n, rfl⟩ : ∃ n : Nat, k = n := ⟨k.toNat, by omega⟩
    have q1 := hnn n (by omega)
    have q2 := hb n (by omega)
    omega
  · unfold nrm wgt
    rw [h2 c hc hpc k k0 k1, Int.zero_mul]
    show 0 / 1000 * 1000000000 / _ = 0
    rw [show (0 : Int) / 1000 * 1000000000 = 0 by decide, Int.zero_ediv]
  · have : sm (wgt F ch) 576 ≤ sm (nrm (wgt F ch) (sm (wgt F ch) 576)) 576 := sm_le hnn
    show 0 < sm (nrm (wgt F ch) (sm (wgt F ch) 576)) 576
    omega
  · show sm (nrm (wgt F ch) (sm (wgt F ch) 576)) 576 ≤ 1000000000
    rw [Int.mul_comm (sm (wgt F ch) 576) 1000000000, Int.mul_comm (sm (wgt F ch) 576)] at hle
    exact Int.le_of_mul_le_mul_right hle hp
