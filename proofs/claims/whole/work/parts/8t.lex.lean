/-! THE READERS: signs on the tape -/
def rnR (D : Int → Prop) (T : Int → Int) (n p q : Int) : Prop := p ≤ q ∧ (∀ x, p ≤ x → x < q → x < n ∧ D (T x)) ∧ (n ≤ q ∨ ¬ D (T q))
theorem rn_u {D : Int → Prop} {T : Int → Int} {n p q q' : Int} (h : rnR D T n p q) (h' : rnR D T n p q') : q = q' := by
  obtain ⟨a1, a2, a3⟩ := h
  obtain ⟨b1, b2, b3⟩ := h'
  rcases Int.lt_trichotomy q q' with z | z | z
  · have := b2 q a1 z
    rcases a3 with y | y
    · omega
    · exact absurd this.2 y
  · exact z
  · have := a2 q' b1 z
    rcases b3 with y | y
    · omega
    · exact absurd this.2 y
theorem rn_0 {D : Int → Prop} {T : Int → Int} {n p : Int} (h : n ≤ p ∨ ¬ D (T p)) : rnR D T n p p := ⟨Int.le_refl _, fun x a b => by omega, h⟩
theorem rn_s {D : Int → Prop} {T : Int → Int} {n p q : Int} (hp : p < n) (hd : D (T p)) (h : rnR D T n (p + 1) q) : rnR D T n p q := by
  obtain ⟨a1, a2, a3⟩ := h
  refine ⟨by omega, fun x x0 x1 => ?_, a3⟩
  by_cases z : x = p
  · rw [z]
    exact ⟨hp, hd⟩
  · exact a2 x (by omega) x1
theorem rn_n {D : Int → Prop} {T : Int → Int} {n p q : Int} (hp : p ≤ n) (h : rnR D T n p q) : q ≤ n := by
  obtain ⟨a1, a2, a3⟩ := h
  by_cases z : q = p
  · omega
  · have := a2 (q - 1) (by omega) (by omega)
    omega
/-- a blank's end leads on to itself -/
theorem rn_i {D : Int → Prop} {T : Int → Int} {n p q : Int} (h : rnR D T n p q) : rnR D T n q q := rn_0 h.2.2
abbrev blk (c : Int) : Prop := c = 32
abbrev dig (c : Int) : Prop := 48 ≤ c ∧ c ≤ 57
abbrev let' (c : Int) : Prop := 97 ≤ c ∧ c ≤ 122
/-- the sign at a place -/
def TK (T : Int → Int) (n q sg bh : Int) : Prop :=
  if n ≤ q then sg = -1 ∧ bh = q else if dig (T q) then sg = 48 ∧ rnR dig T n (q + 1) bh else if let' (T q) then sg = 97 ∧ rnR let' T n (q + 1) bh else if (T q = 60 ∨ T q = 62) ∧ q + 1 < n ∧ T (q + 1) = 61 then sg = (if T q = 60 then 108 else 103) ∧ bh = q + 2 else sg = T q ∧ bh = q + 1
theorem TK_n {T : Int → Int} {n q sg bh : Int} (hq : q ≤ n) (h : TK T n q sg bh) : q ≤ bh ∧ bh ≤ n := by
  unfold TK at h
  by_cases z : n ≤ q
  · rw [if_pos z] at h
    omega
  rw [if_neg z] at h
  by_cases z1 : dig (T q)
  · rw [if_pos z1] at h
    have := rn_n (by omega) h.2
    have := h.2.1
    omega
  rw [if_neg z1] at h
  by_cases z2 : let' (T q)
  · rw [if_pos z2] at h
    have := rn_n (by omega) h.2
    have := h.2.1
    omega
  rw [if_neg z2] at h
  by_cases z3 : (T q = 60 ∨ T q = 62) ∧ q + 1 < n ∧ T (q + 1) = 61
  · rw [if_pos z3] at h
    omega
  · rw [if_neg z3] at h
    omega
/-- the tape of both -/
def TPE (w : zW) : Prop := 0 ≤ w 5 0 1 ∧ w 5 0 1 ≤ 400
section
variable {d : Nat} {w : zW}
theorem s_next_3 (hT : TPE w) : ∀ (m : Nat) (p : Int), 0 ≤ p → p + m = w 5 0 1 → ∃ q, rnR blk (w 20 0) (w 5 0 1) p q ∧ Reader_next_3 d p w = Reader_next_6 d q w := by
  obtain ⟨t1, t2⟩ := hT
  intro m
  induction m with
  | zero =>
    intro p p0 hp
    exact ⟨p, rn_0 (Or.inl (by omega)), by rw [e_Reader_next_3, if_pos (by omega)]⟩
  | succ m ih =>
    intro p p0 hp
    by_cases z : w 20 0 p = 32
    · obtain ⟨q, q1, q2⟩ := ih (p + 1) (by omega) (by omega)
      exact ⟨q, rn_s (by omega) z q1, by rw [e_Reader_next_3, if_neg (by omega), gd_t (by omega), if_pos z, gd_t (by omega), q2]⟩
    · exact ⟨p, rn_0 (Or.inr z), by rw [e_Reader_next_3, if_neg (by omega), gd_t (by omega), if_neg z]⟩
theorem s_next_11 (hT : TPE w) : ∀ (m : Nat) (p : Int), 0 ≤ p → p + m = w 5 0 1 → ∃ q, rnR dig (w 20 0) (w 5 0 1) p q ∧ Reader_next_11 d p w = some (0, z_up w 5 0 5 q) := by
  obtain ⟨t1, t2⟩ := hT
  intro m
  induction m with
  | zero =>
    intro p p0 hp
    exact ⟨p, rn_0 (Or.inl (by omega)), by rw [e_Reader_next_11, if_pos (by omega)]⟩
  | succ m ih =>
    intro p p0 hp
    by_cases z : w 20 0 p < 48
    · exact ⟨p, rn_0 (Or.inr (by omega)), by rw [e_Reader_next_11, if_neg (by omega), gd_t (by omega), if_pos z]⟩
    by_cases y : 57 < w 20 0 p
    · exact ⟨p, rn_0 (Or.inr (by omega)), by rw [e_Reader_next_11, if_neg (by omega), gd_t (by omega), if_neg z, gd_t (by omega), if_pos y]⟩
    · obtain ⟨q, q1, q2⟩ := ih (p + 1) (by omega) (by omega)
      exact ⟨q, rn_s (by omega) (by omega) q1, by rw [e_Reader_next_11, if_neg (by omega), gd_t (by omega), if_neg z, gd_t (by omega), if_neg y, gd_t (by omega), q2]⟩
theorem s_next_18 (hT : TPE w) : ∀ (m : Nat) (p : Int), 0 ≤ p → p + m = w 5 0 1 → ∃ q, rnR let' (w 20 0) (w 5 0 1) p q ∧ Reader_next_18 d p w = some (0, z_up w 5 0 5 q) := by
  obtain ⟨t1, t2⟩ := hT
  intro m
  induction m with
  | zero =>
    intro p p0 hp
    exact ⟨p, rn_0 (Or.inl (by omega)), by rw [e_Reader_next_18, if_pos (by omega)]⟩
  | succ m ih =>
    intro p p0 hp
    by_cases z : w 20 0 p < 97
    · exact ⟨p, rn_0 (Or.inr (by omega)), by rw [e_Reader_next_18, if_neg (by omega), gd_t (by omega), if_pos z]⟩
    by_cases y : 122 < w 20 0 p
    · exact ⟨p, rn_0 (Or.inr (by omega)), by rw [e_Reader_next_18, if_neg (by omega), gd_t (by omega), if_neg z, gd_t (by omega), if_pos y]⟩
    · obtain ⟨q, q1, q2⟩ := ih (p + 1) (by omega) (by omega)
      exact ⟨q, rn_s (by omega) (by omega) q1, by rw [e_Reader_next_18, if_neg (by omega), gd_t (by omega), if_neg z, gd_t (by omega), if_neg y, gd_t (by omega), q2]⟩
/-- what a step of the reader leaves as it was -/
def RK (w w' : zW) : Prop := z_fr [5] w w' ∧ ∀ s, s ≠ 3 → s ≠ 4 → s ≠ 5 → w' 5 0 s = w 5 0 s
theorem RK_rf (w : zW) : RK w w := ⟨fr_rf _ _, fun _ _ _ _ => rfl⟩
theorem RK_tr {w w' w'' : zW} (h : RK w w') (h' : RK w' w'') : RK w w'' := ⟨fr_tr h.1 h'.1, fun s a b c => (h'.2 s a b c).trans (h.2 s a b c)⟩
theorem RK_up {w : zW} {s v : Int} (h : s = 3 ∨ s = 4 ∨ s = 5) : RK w (z_up w 5 0 s v) := ⟨fr_up (by decide), fun t a b c => up_s (by omega)⟩
/-- a sign read -/
theorem s_next (hT : TPE w) (h2 : w 5 0 2 = 0) (h5 : 0 ≤ w 5 0 5 ∧ w 5 0 5 ≤ w 5 0 1) : ∃ w', Reader_next d w = some (0, w') ∧ RK w w' ∧ rnR blk (w 20 0) (w 5 0 1) (w 5 0 5) (w' 5 0 4) ∧ TK (w 20 0) (w 5 0 1) (w' 5 0 4) (w' 5 0 3) (w' 5 0 5) ∧ 0 ≤ w' 5 0 4 ∧ w' 5 0 4 ≤ w 5 0 1 := by
  obtain ⟨t1, t2⟩ := hT
  obtain ⟨q, q1, q2⟩ := s_next_3 (d := d) (w := w) ⟨t1, t2⟩ (w 5 0 1 - w 5 0 5).toNat (w 5 0 5) h5.1 (by omega)
  have hq0 : 0 ≤ q := by have := q1.1; omega
  have hqn := rn_n h5.2 q1
  rw [e_Reader_next, if_pos h2, q2, e_Reader_next_6]
  by_cases z : q < w 5 0 1
  · rw [if_pos z, gd_t (by omega), gd_t (by omega)]
    have r3 : ∀ u v : Int, (z_up (z_up w 5 0 4 u) 5 0 3 v) 5 0 3 = v := fun u v => up_h
    have r4 : ∀ u v : Int, (z_up (z_up w 5 0 4 u) 5 0 3 v) 5 0 4 = u := fun u v => (up_s (by decide)).trans up_h
    have r1 : ∀ u v : Int, (z_up (z_up w 5 0 4 u) 5 0 3 v) 5 0 1 = w 5 0 1 := fun u v => (up_s (by decide)).trans (up_s (by decide))
    have r20 : ∀ u v : Int, (z_up (z_up w 5 0 4 u) 5 0 3 v) 20 = w 20 := fun u v => by
      funext a b
      rw [up_c (by decide), up_c (by decide)]
    have rk : ∀ u v : Int, RK w (z_up (z_up w 5 0 4 u) 5 0 3 v) := fun u v => RK_tr (RK_up (Or.inr (Or.inl rfl))) (RK_up (Or.inl rfl))
    -- all but digits
    have key : ¬ dig (w 20 0 q) → ∃ w', Reader_next_15 d (q + 1) (z_up (z_up w 5 0 4 q) 5 0 3 (w 20 0 q)) = some (0, w') ∧ RK w w' ∧ rnR blk (w 20 0) (w 5 0 1) (w 5 0 5) (w' 5 0 4) ∧ TK (w 20 0) (w 5 0 1) (w' 5 0 4) (w' 5 0 3) (w' 5 0 5) ∧ 0 ≤ w' 5 0 4 ∧ w' 5 0 4 ≤ w 5 0 1 := fun hnd => by
      have one : ¬ let' (w 20 0 q) → ∃ w', Reader_next_22 d (q + 1) (z_up (z_up w 5 0 4 q) 5 0 3 (w 20 0 q)) = some (0, w') ∧ RK w w' ∧ rnR blk (w 20 0) (w 5 0 1) (w 5 0 5) (w' 5 0 4) ∧ TK (w 20 0) (w 5 0 1) (w' 5 0 4) (w' 5 0 3) (w' 5 0 5) ∧ 0 ≤ w' 5 0 4 ∧ w' 5 0 4 ≤ w 5 0 1 := fun hnl => by
        have hTK : ∀ sg bh, TK (w 20 0) (w 5 0 1) q sg bh ↔ (if (w 20 0 q = 60 ∨ w 20 0 q = 62) ∧ q + 1 < w 5 0 1 ∧ w 20 0 (q + 1) = 61 then sg = (if w 20 0 q = 60 then 108 else 103) ∧ bh = q + 2 else sg = w 20 0 q ∧ bh = q + 1) := fun sg bh => by
          unfold TK
          rw [if_neg (by omega), if_neg hnd, if_neg hnl]
        have plain : ¬ ((w 20 0 q = 60 ∨ w 20 0 q = 62) ∧ q + 1 < w 5 0 1 ∧ w 20 0 (q + 1) = 61) → ∃ w', some ((0 : Int), z_up (z_up (z_up w 5 0 4 q) 5 0 3 (w 20 0 q)) 5 0 5 (q + 1)) = some (0, w') ∧ RK w w' ∧ rnR blk (w 20 0) (w 5 0 1) (w 5 0 5) (w' 5 0 4) ∧ TK (w 20 0) (w 5 0 1) (w' 5 0 4) (w' 5 0 3) (w' 5 0 5) ∧ 0 ≤ w' 5 0 4 ∧ w' 5 0 4 ≤ w 5 0 1 := fun hno => by
          refine ⟨_, rfl, RK_tr (rk _ _) (RK_up (Or.inr (Or.inr rfl))), ?_⟩
          rw [up_s (by decide), r4, up_s (by decide), r3, up_h]
          refine ⟨q1, (hTK _ _).2 ?_, hq0, hqn⟩
          rw [if_neg hno]
          exact ⟨rfl, rfl⟩
        have two : (w 20 0 q = 60 ∨ w 20 0 q = 62) → ∃ w', Reader_next_24 d (q + 1) (z_up (z_up w 5 0 4 q) 5 0 3 (w 20 0 q)) = some (0, w') ∧ RK w w' ∧ rnR blk (w 20 0) (w 5 0 1) (w 5 0 5) (w' 5 0 4) ∧ TK (w 20 0) (w 5 0 1) (w' 5 0 4) (w' 5 0 3) (w' 5 0 5) ∧ 0 ≤ w' 5 0 4 ∧ w' 5 0 4 ≤ w 5 0 1 := fun hor => by
          rw [e_Reader_next_24, r1, r20, r3]
          by_cases y : w 5 0 1 ≤ q + 1
          · rw [if_pos y]
            exact plain (fun k => by omega)
          · rw [if_neg y, gd_t (by omega)]
            by_cases x : w 20 0 (q + 1) = 61
            · rw [if_pos x]
              have fin : ∀ v : Int, v = (if w 20 0 q = 60 then 108 else 103) → ∃ w', some ((0 : Int), z_up (z_up (z_up (z_up w 5 0 4 q) 5 0 3 (w 20 0 q)) 5 0 3 v) 5 0 5 (q + 1 + 1)) = some (0, w') ∧ RK w w' ∧ rnR blk (w 20 0) (w 5 0 1) (w 5 0 5) (w' 5 0 4) ∧ TK (w 20 0) (w 5 0 1) (w' 5 0 4) (w' 5 0 3) (w' 5 0 5) ∧ 0 ≤ w' 5 0 4 ∧ w' 5 0 4 ≤ w 5 0 1 := fun v hv => by
                refine ⟨_, rfl, RK_tr (rk _ _) (RK_tr (RK_up (Or.inl rfl)) (RK_up (Or.inr (Or.inr rfl)))), ?_⟩
                rw [up_s (by decide), up_s (by decide), r4, up_s (by decide), up_h, up_h]
                refine ⟨q1, (hTK _ _).2 ?_, hq0, hqn⟩
                rw [if_pos ⟨hor, by omega, x⟩]
                exact ⟨hv, by omega⟩
              by_cases u : w 20 0 q = 60
              · rw [if_pos u, gd_t (by omega)]
                exact fin 108 (by rw [if_pos u])
              · rw [if_neg u, gd_t (by omega)]
                exact fin 103 (by rw [if_neg u])
            · rw [if_neg x]
              exact plain (fun k => x k.2.2)
        rw [e_Reader_next_22, r3]
        by_cases y : w 20 0 q = 60
        · rw [if_pos y]
          exact two (Or.inl y)
        · rw [if_neg y]
          by_cases x : w 20 0 q = 62
          · rw [if_pos x]
            exact two (Or.inr x)
          · rw [if_neg x]
            exact plain (fun k => by rcases k.1 with k | k; exact y k; exact x k)
      rw [e_Reader_next_15, r3]
      by_cases y : w 20 0 q < 97
      · rw [if_pos y]
        exact one (by omega)
      · rw [if_neg y]
        by_cases x : 122 < w 20 0 q
        · rw [if_pos x]
          exact one (by omega)
        · have hw1 : z_up (z_up (z_up w 5 0 4 q) 5 0 3 (w 20 0 q)) 5 0 3 97 5 0 1 = w 5 0 1 := by rw [up_s (by decide), r1]
          have hw20 : (z_up (z_up (z_up w 5 0 4 q) 5 0 3 (w 20 0 q)) 5 0 3 97) 20 = w 20 := by
            rw [← r20 q (w 20 0 q)]
            funext a b
            exact up_c (by decide)
          obtain ⟨p, p1, p2⟩ := s_next_18 (d := d) (w := z_up (z_up (z_up w 5 0 4 q) 5 0 3 (w 20 0 q)) 5 0 3 97) (by unfold TPE; rw [hw1]; exact ⟨t1, t2⟩) (w 5 0 1 - (q + 1)).toNat (q + 1) (by omega) (by rw [hw1]; omega)
          rw [hw1, hw20] at p1
          rw [if_neg x, p2]
          refine ⟨_, rfl, RK_tr (rk _ _) (RK_tr (RK_up (Or.inl rfl)) (RK_up (Or.inr (Or.inr rfl)))), ?_⟩
          rw [up_s (by decide), up_s (by decide), r4, up_s (by decide), up_h, up_h]
          refine ⟨q1, ?_, hq0, hqn⟩
          unfold TK
          rw [if_neg (by omega), if_neg hnd, if_pos (by omega)]
          exact ⟨rfl, p1⟩
    by_cases y : w 20 0 q < 48
    · rw [if_pos y]
      exact key (by omega)
    · rw [if_neg y]
      by_cases x : 57 < w 20 0 q
      · rw [if_pos x]
        exact key (by omega)
      · have hw1 : z_up (z_up (z_up w 5 0 4 q) 5 0 3 (w 20 0 q)) 5 0 3 48 5 0 1 = w 5 0 1 := by rw [up_s (by decide), r1]
        have hw20 : (z_up (z_up (z_up w 5 0 4 q) 5 0 3 (w 20 0 q)) 5 0 3 48) 20 = w 20 := by
          rw [← r20 q (w 20 0 q)]
          funext a b
          exact up_c (by decide)
        obtain ⟨p, p1, p2⟩ := s_next_11 (d := d) (w := z_up (z_up (z_up w 5 0 4 q) 5 0 3 (w 20 0 q)) 5 0 3 48) (by unfold TPE; rw [hw1]; exact ⟨t1, t2⟩) (w 5 0 1 - (q + 1)).toNat (q + 1) (by omega) (by rw [hw1]; omega)
        rw [hw1, hw20] at p1
        rw [if_neg x, p2]
        refine ⟨_, rfl, RK_tr (rk _ _) (RK_tr (RK_up (Or.inl rfl)) (RK_up (Or.inr (Or.inr rfl)))), ?_⟩
        rw [up_s (by decide), up_s (by decide), r4, up_s (by decide), up_h, up_h]
        refine ⟨q1, ?_, hq0, hqn⟩
        unfold TK
        rw [if_neg (by omega), if_pos (by omega)]
        exact ⟨rfl, p1⟩
  · rw [if_neg z]
    refine ⟨_, rfl, RK_tr (RK_tr (RK_up (Or.inr (Or.inl rfl))) (RK_up (Or.inl rfl))) (RK_up (Or.inr (Or.inr rfl))), ?_⟩
    rw [up_s (by decide), up_s (by decide), up_h, up_s (by decide), up_h, up_h]
    refine ⟨q1, ?_, hq0, hqn⟩
    unfold TK
    rw [if_pos (by omega)]
    exact ⟨rfl, rfl⟩
/-- behind a fault -/
theorem s_nextF (h2 : w 5 0 2 ≠ 0) : Reader_next d w = some (0, z_up w 5 0 3 (-2)) := by
  rw [e_Reader_next, if_neg h2]
end
