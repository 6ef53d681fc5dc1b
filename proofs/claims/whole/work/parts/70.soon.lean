/-! SOON: the class's order of codes, the model's -/
/-- the digits of x, read backwards -/
def tnA (x : Nat) : Nat → Nat
  | 0 => 0
  | i + 1 => 4 * tnA x i + x / 4 ^ i % 4
theorem tnA_lt (x : Nat) : ∀ i, tnA x i < 4 ^ i := by
  intro i
  induction i with
  | zero => exact Nat.zero_lt_one
  | succ i ih =>
    show 4 * tnA x i + x / 4 ^ i % 4 < 4 ^ (i + 1)
    rw [Nat.pow_succ]
    omega
theorem tnA_dg (x : Nat) : ∀ i k, k < i → tnA x i / 4 ^ k % 4 = x / 4 ^ (i - 1 - k) % 4 := by
  intro i
  induction i with
  | zero => intro k hk; omega
  | succ i ih =>
    intro k hk
    show (4 * tnA x i + x / 4 ^ i % 4) / 4 ^ k % 4 = _
    cases k with
    | zero =>
      rw [Nat.pow_zero, Nat.div_one, show i + 1 - 1 - 0 = i by omega]
      omega
    | succ k =>
      rw [Nat.pow_succ, Nat.mul_comm (4 ^ k) 4, ← Nat.div_div_eq_div_mul, show (4 * tnA x i + x / 4 ^ i % 4) / 4 = tnA x i by omega, ih k (by omega), show i + 1 - 1 - (k + 1) = i - 1 - k by omega]
theorem dg_inj : ∀ (n a b : Nat), a < 4 ^ n → b < 4 ^ n → (∀ k, k < n → a / 4 ^ k % 4 = b / 4 ^ k % 4) → a = b := by
  intro n
  induction n with
  | zero => intro a b ha hb _; rw [Nat.pow_zero] at ha hb; omega
  | succ n ih =>
    intro a b ha hb h
    rw [Nat.pow_succ] at ha hb
    have h0 := h 0 (by omega)
    rw [Nat.pow_zero, Nat.div_one, Nat.div_one] at h0
    have := ih (a / 4) (b / 4) (by omega) (by omega) (fun k hk => by
      have := h (k + 1) (by omega)
      rw [Nat.pow_succ, Nat.mul_comm (4 ^ k) 4, ← Nat.div_div_eq_div_mul, ← Nat.div_div_eq_div_mul] at this
      exact this)
    omega
theorem tnA_tnA {n c : Nat} (hc : c < 4 ^ n) : tnA (tnA c n) n = c := by
  refine dg_inj n _ _ (tnA_lt _ n) hc (fun k hk => ?_)
  rw [tnA_dg _ n k hk, tnA_dg _ n (n - 1 - k) (by omega), show n - 1 - (n - 1 - k) = k by omega]
theorem rAt_cong {w : zW} {i j e : Int} {Cs : List clau} {F : Int → Int} {c c' : Nat} : ∀ l, (∀ k, k < l → c / 4 ^ k % 4 = c' / 4 ^ k % 4) → rAt w i j Cs F e c l = rAt w i j Cs F e c' l := by
  intro l
  induction l with
  | zero => intro _; rfl
  | succ l ih =>
    intro h
    show rStep w i j Cs (dg c l) (rAt w i j Cs F e c l) = rStep w i j Cs (dg c' l) (rAt w i j Cs F e c' l)
    unfold dg
    rw [ih (fun k hk => h k (by omega)), h l (by omega)]
/-- better: more homes, then less harm, then the less code -/
def btr (H R : Nat → Int) (x y : Nat) : Prop := H y < H x ∨ (H x = H y ∧ (R x < R y ∨ (R x = R y ∧ x < y)))
theorem btr_anti {H R : Nat → Int} {x y : Nat} (h1 : btr H R x y) (h2 : btr H R y x) : False := by
  unfold btr at *
  omega
theorem btr_tr {H R : Nat → Int} {x y z : Nat} (h1 : btr H R x y) (h2 : btr H R y z) : btr H R x z := by
  unfold btr at *
  omega
theorem btr_tot (H R : Nat → Int) (x y : Nat) : x = y ∨ btr H R x y ∨ btr H R y x := by
  unfold btr
  omega
/-- the best of those that x < n give -/
def bst (H R : Nat → Int) (f : Nat → Nat) (n : Nat) (b : Nat) : Prop := (∃ x, x < n ∧ f x = b) ∧ ∀ x, x < n → f x = b ∨ btr H R b (f x)
theorem bst_uniq {H R : Nat → Int} {f g : Nat → Nat} {n a b : Nat} (h1 : bst H R f n a) (h2 : bst H R g n b) (hfg : ∀ x, x < n → ∃ y, y < n ∧ g y = f x) (hgf : ∀ x, x < n → ∃ y, y < n ∧ f y = g x) : a = b := by
  obtain ⟨⟨x, x1, x2⟩, h1⟩ := h1
  obtain ⟨⟨y, y1, y2⟩, h2⟩ := h2
  obtain ⟨x', a1, a2⟩ := hfg x x1
  obtain ⟨y', b1, b2⟩ := hgf y y1
  rcases h2 x' a1 with q | q
  · omega
  · rcases h1 y' b1 with z | z
    · omega
    · rw [a2, x2] at q
      rw [b2, y2] at z
      exact (btr_anti q z).elim
theorem bst_keep {H R : Nat → Int} {f : Nat → Nat} {n b : Nat} (h : bst H R f n b) (hn : f n = b ∨ btr H R b (f n)) : bst H R f (n + 1) b := by
  obtain ⟨⟨x, x1, x2⟩, h⟩ := h
  refine ⟨⟨x, by omega, x2⟩, fun y hy => ?_⟩
  by_cases q : y = n
  · rw [q]; exact hn
  · exact h y (by omega)
theorem bst_new {H R : Nat → Int} {f : Nat → Nat} {n b : Nat} (h : bst H R f n b) (hn : btr H R (f n) b) : bst H R f (n + 1) (f n) := by
  refine ⟨⟨n, by omega, rfl⟩, fun y hy => ?_⟩
  by_cases q : y = n
  · rw [q]; exact Or.inl rfl
  · rcases h.2 y (by omega) with z | z
    · rw [z]; exact Or.inr hn
    · exact Or.inr (btr_tr hn z)
theorem bst_one {H R : Nat → Int} {f : Nat → Nat} : bst H R f 1 (f 0) := ⟨⟨0, by omega, rfl⟩, fun y hy => Or.inl (by rw [show y = 0 by omega])⟩
/-- the model's soon -/
theorem m_soon_4 {d : Nat} {n : Nat} {i j : Int} {w : zW} {Cs : List clau} {H R : Nat → Int} (hE : ENV w i j Cs) (hn : 1 ≤ n ∧ n ≤ 5) (hF : wO0 (opw w i) (wtM w 70 6)) (he : 0 ≤ w 70 0 5 ∧ w 70 0 5 ≤ 30) (hH : ∀ c, H c = (rAt w i j Cs (wtM w 70 6) (w 70 0 5) c n).2.2.1) (hR : ∀ c, R c = (rAt w i j Cs (wtM w 70 6) (w 70 0 5) c n).2.2.2) : ∀ (m c : Nat) (w1 : zW) (l2 l3 l5 : Int), c + m = 4 ^ n → mF mrC mrT w w1 → ((c = 0 ∧ l2 = -1) ∨ ∃ b : Nat, bst H R (fun x => x) c b ∧ l2 = b ∧ l3 = H b ∧ l5 = R b) →
    ∃ b w2, M_soon_4 (d + 6) n l2 l3 l5 c w1 = some (((b : Nat) : Int), w2) ∧ bst H R (fun x => x) (4 ^ n) b ∧ mF mrC mrT w w2 := by
  have hp := p4_le (n := n) (by omega)
  have hp1 : 1 ≤ 4 ^ n := Nat.lt_of_le_of_lt (Nat.zero_le _) (tnA_lt 0 n)
  intro m
  induction m with
  | zero =>
    intro c w1 l2 l3 l5 hc hf hinv
    have hcn : c = 4 ^ n := by omega
    rcases hinv with ⟨q, -⟩ | ⟨b, b1, b2, -⟩
    · omega
    · refine ⟨b, w1, ?_, by rw [← hcn]; exact b1, hf⟩
      rw [e_M_soon_4, gd_t (by omega), p4, gd_t (by omega), if_pos (by omega), b2]
  | succ m ih =>
    intro c w1 l2 l3 l5 hc hf hinv
    have ee : sameE w w1 := sameE_m hf (by decide)
    have h70 := hf.1 70 (by decide) (by decide)
    have hwM : wtM w1 70 6 = wtM w 70 6 := by unfold wtM; rw [h70]
    obtain ⟨w2, r1, r2, r3⟩ := m_goesRow (d := d) (n := n) (code := c) (ENV_m hf (by decide) (by decide) hE) (by omega) (by rw [hwM, opw_e ee]; exact hF) (by rw [h70]; exact he) (by omega)
    rw [hwM, h70, rAt_e ee] at r3
    have f2 := mF_tr hf r2
    have g1 : w2 11 0 36 = H c := by rw [r3.2.2.1, hH]
    have g2 : w2 11 0 37 = R c := by rw [r3.2.2.2, hR]
    have hnew : ∀ b : Nat, bst H R (fun x => x) (c + 1) c → ∃ b w3, M_soon_10 (d + 6) n c w2 = some (((b : Nat) : Int), w3) ∧ bst H R (fun x => x) (4 ^ n) b ∧ mF mrC mrT w w3 := fun _ hb => by
      rw [e_M_soon_10, gd_t (by omega), g1, g2]
      exact ih (c + 1) w2 _ _ _ (by omega) f2 (Or.inr ⟨c, hb, rfl, rfl, rfl⟩)
    rw [e_M_soon_4, gd_t (by omega), p4, gd_t (by omega), if_neg (by omega), r1, bnd]
    dsimp only
    rcases hinv with ⟨q1, q2⟩ | ⟨b, b1, b2, b3, b4⟩
    · rw [q2, if_pos (by decide)]
      refine hnew 0 ?_
      rw [q1]
      exact bst_one (f := fun x => x)
    · have hbc : b < c := by
        obtain ⟨⟨x, x1, x2⟩, -⟩ := b1
        have : x = b := x2
        omega
      have hkeep : btr H R b c → ∃ b w3, M_soon_4 (d + 6) n l2 l3 l5 (c + 1 : Nat) w2 = some (((b : Nat) : Int), w3) ∧ bst H R (fun x => x) (4 ^ n) b ∧ mF mrC mrT w w3 := fun hb =>
        ih (c + 1) w2 _ _ _ (by omega) f2 (Or.inr ⟨b, bst_keep b1 (Or.inr hb), b2, b3, b4⟩)
      rw [if_neg (by omega)]
      simp only [g1, g2]
      by_cases z1 : H c < l3
      · rw [if_pos z1, gd_t (by omega)]
        exact hkeep (Or.inl (by omega))
      · rw [if_neg z1]
        by_cases z2 : H c = l3
        · rw [if_pos z2]
          by_cases z3 : R c < l5
          · rw [if_pos z3]
            exact hnew 0 (bst_new b1 (Or.inr ⟨by omega, Or.inl (by omega)⟩))
          · rw [if_neg z3, gd_t (by omega)]
            refine hkeep (Or.inr ⟨by omega, ?_⟩)
            rcases Int.lt_or_le (R b) (R c) with q | q
            · exact Or.inl q
            · exact Or.inr ⟨by omega, hbc⟩
        · rw [if_neg z2]
          exact hnew 0 (bst_new b1 (Or.inl (by omega)))
