/-! the evaluators: the class's and the model's -/
def seg (m : Int) (R : Int → Int) : Int → List (Int × Int) → Prop
  | _, [] => True
  | p, (k, v) :: L => R p = k + m * v ∧ seg m R (p + 1) L
theorem seg_app {m : Int} {R : Int → Int} {L M : List (Int × Int)} : ∀ {p : Int}, seg m R p (L ++ M) ↔ seg m R p L ∧ seg m R (p + L.length) M := by
  induction L with
  | nil => intro p; simp [seg]
  | cons t L ih =>
    intro p
    obtain ⟨k, v⟩ := t
    show (R p = k + m * v ∧ seg m R (p + 1) (L ++ M)) ↔ (R p = k + m * v ∧ seg m R (p + 1) L) ∧ seg m R (p + ((L.length + 1 : Nat) : Int)) M
    rw [ih, show p + 1 + (L.length : Int) = p + ((L.length + 1 : Nat) : Int) by omega]
    exact ⟨fun h => ⟨⟨h.1, h.2.1⟩, h.2.2⟩, fun h => ⟨h.1.1, h.1.2, h.2⟩⟩
theorem seg_congr {m : Int} {R R' : Int → Int} {L : List (Int × Int)} : ∀ {p : Int}, (∀ j, p ≤ j → j < p + L.length → R' j = R j) → seg m R p L → seg m R' p L := by
  induction L with
  | nil => intro p _ h; exact h
  | cons t L ih =>
    intro p hj h
    obtain ⟨k, v⟩ := t
    have hl : (((k, v) :: L).length : Int) = L.length + 1 := by simp
    refine ⟨?_, ih (fun j h1 h2 => hj j (by omega) (by omega)) h.2⟩
    rw [hj p (by omega) (by omega)]
    exact h.1
def cc (op : Int) : Int := if op = 2 then 43 else if op = 3 then 45 else if op = 4 then 42 else if op = 5 then 47 else if op = 6 then 60 else if op = 8 then 61 else if op = 10 then 62 else if op = 11 then 33 else if op = 12 then 38 else 124
/-- the class's signs for one of the model's -/
def cl (t : tok) : List (Int × Int) := if t.1 = 0 then [(48, t.2)] else if t.1 = 1 then [(97, t.2)] else if t.1 = 7 then [(62, 0), (33, 0)] else if t.1 = 9 then [(60, 0), (33, 0)] else [(cc t.1, 0)]
def cls (L : List tok) : List (Int × Int) := L.flatMap cl
abbrev tokOK (n : Int) (t : tok) : Prop := (t.1 = 0 ∧ 0 ≤ t.2 ∧ t.2 ≤ 99999) ∨ (t.1 = 1 ∧ 0 ≤ t.2 ∧ t.2 < n) ∨ (2 ≤ t.1 ∧ t.1 ≤ 13 ∧ t.2 = 0)
def cntV : List tok → Nat
  | [] => 0
  | t :: L => (if t.1 = 0 ∨ t.1 = 1 then 1 else 0) + cntV L
def cone (k a b : Int) : Int := if k = 38 then z_andL a b else if k = 42 then z_wL (a * b) else if k = 43 then z_wL (a + b) else if k = 45 then z_wL (a - b) else if k = 47 then (if b = 0 then 0 else z_wL (Int.tdiv a b)) else if k = 60 then (if b ≤ a then 0 else 1) else if k = 62 then (if a ≤ b then 0 else 1) else if k = 124 then z_orL a b else (if a = b then 1 else 0)
abbrev isK (k3 : Nat) : Prop := k3 = 18 ∨ k3 = 28
theorem isK_kd {k3 : Nat} (h : isK k3) : z_kd k3 = 4 := by rcases h with rfl | rfl <;> rfl
theorem isK_17 {k3 : Nat} (h : isK k3) : k3 ≠ 17 := by rcases h with rfl | rfl <;> decide
theorem c_num {d : Nat} {ci e h p v : Int} {k3 : Nat} {w : zW} {S : Int → Int} (hR : w 13 ci p = 48 + 256 * v) (hv : 0 ≤ v ∧ v ≤ 99999) (hp : 0 ≤ p ∧ p < e ∧ e ≤ 400) (hh : 0 ≤ h ∧ h < 64) :
    Clauses_worth_1 d ci e k3 h p (z_row w 17 ci S) = Clauses_worth_1 d ci e k3 (h + 1) (p + 1) (z_row w 17 ci (upF S h v)) := by
  have hr : (z_row w 17 ci S) 13 ci p = 48 + 256 * v := by rw [row_c (by decide), hR]
  have h1 : z_and ((z_row w 17 ci S) 13 ci p) 255 = 48 := by rw [hr, z_and_255 (by omega)]; omega
  have h2 : (z_row w 17 ci S) 13 ci p / 2 ^ (8 : Int).toNat = v := by
    rw [hr]
    show (48 + 256 * v) / 256 = v
    omega
  rw [e_Clauses_worth_1, if_neg (by omega), if_neg (by omega), gd_t (by omega), gd_t (by omega), gd_t (by decide), h1, h2, if_pos rfl, e_Clauses_worth_8, if_neg (by decide), if_neg (by omega), if_pos rfl, gd_t (by omega), gd_t (by omega), gd_t (by omega), row_up]
theorem c_word {d : Nat} {ci e h p v : Int} {k3 : Nat} {w : zW} {S : Int → Int} (hk : isK k3) (hR : w 13 ci p = 97 + 256 * v) (hv : 0 ≤ v ∧ v < z_ln k3) (hp : 0 ≤ p ∧ p < e ∧ e ≤ 400) (hh : 0 ≤ h ∧ h < 64) :
    Clauses_worth_1 d ci e k3 h p (z_row w 17 ci S) = Clauses_worth_1 d ci e k3 (h + 1) (p + 1) (z_row w 17 ci (upF S h (w k3 0 v))) := by
  have hz : z_ln k3 ≤ 10 := by rcases hk with rfl | rfl <;> decide
  have hr : (z_row w 17 ci S) 13 ci p = 97 + 256 * v := by rw [row_c (by decide), hR]
  have h1 : z_and ((z_row w 17 ci S) 13 ci p) 255 = 97 := by rw [hr, z_and_255 (by omega)]; omega
  have h2 : (z_row w 17 ci S) 13 ci p / 2 ^ (8 : Int).toNat = v := by
    rw [hr]
    show (97 + 256 * v) / 256 = v
    omega
  rw [e_Clauses_worth_1, if_neg (by omega), if_neg (by omega), gd_t (by omega), gd_t (by omega), gd_t (by decide), h1, h2, if_neg (by decide), if_pos rfl, gd_t (Or.inr (isK_kd hk)), if_neg (by omega), e_Clauses_worth_8, if_neg (by decide), if_neg (by omega), if_neg (by decide), gd_t ⟨isK_kd hk, hv.1, hv.2⟩, gd_t (by omega), gd_t (by omega), gd_t (by omega), row_up, row_c (isK_17 hk)]
theorem c_14 {d : Nat} {ci e h p k : Int} {k3 : Nat} {w : zW} {S : Int → Int} (hR : w 13 ci p = k + 256 * 0) (hk : 0 ≤ k ∧ k < 256 ∧ k ≠ 48 ∧ k ≠ 97) (hp : 0 ≤ p ∧ p < e ∧ e ≤ 400) :
    Clauses_worth_1 d ci e k3 h p (z_row w 17 ci S) = Clauses_worth_14 d ci e k3 h p k (z_row w 17 ci S) := by
  have hr : (z_row w 17 ci S) 13 ci p = k := by rw [row_c (by decide), hR]; omega
  have h1 : z_and ((z_row w 17 ci S) 13 ci p) 255 = k := by rw [hr, z_and_255 (by omega)]; omega
  rw [e_Clauses_worth_1, if_neg (by omega), if_neg (by omega), gd_t (by omega), gd_t (by omega), gd_t (by decide), h1, if_neg hk.2.2.1, if_neg hk.2.2.2, e_Clauses_worth_8, if_pos rfl]
theorem c_not {d : Nat} {ci e h p : Int} {k3 : Nat} {w : zW} {S : Int → Int} (hR : w 13 ci p = 33 + 256 * 0) (hp : 0 ≤ p ∧ p < e ∧ e ≤ 400) (hh : 1 ≤ h ∧ h ≤ 64) :
    Clauses_worth_1 d ci e k3 h p (z_row w 17 ci S) = Clauses_worth_1 d ci e k3 h (p + 1) (z_row w 17 ci (upF S (h - 1) (z_wL (1 - S (h - 1))))) := by
  rw [c_14 hR (by decide) hp, e_Clauses_worth_14, if_pos rfl, if_neg (by omega), gd_t (by omega), gd_t (by omega), gd_t (by omega), gd_t (by omega), gd_t (by omega), row_up, row_h]
theorem c_bin {d : Nat} {ci e h p k : Int} {k3 : Nat} {w : zW} {S : Int → Int} (hR : w 13 ci p = k + 256 * 0) (hk : k = 38 ∨ k = 42 ∨ k = 43 ∨ k = 45 ∨ k = 47 ∨ k = 60 ∨ k = 62 ∨ k = 124 ∨ k = 61) (hp : 0 ≤ p ∧ p < e ∧ e ≤ 400) (hh : 2 ≤ h ∧ h ≤ 64) :
    Clauses_worth_1 d ci e k3 h p (z_row w 17 ci S) = Clauses_worth_1 d ci e k3 (h - 1) (p + 1) (z_row w 17 ci (upF S (h - 2) (cone k (S (h - 2)) (S (h - 1))))) := by
  have e1 : h + -1 = h - 1 := by omega
  have e2 : h + -1 - 1 = h - 2 := by omega
  have e3 : h - 1 - 1 = h - 2 := by omega
  have h25 : ∀ v, Clauses_worth_25 d ci e k3 (h + -1) p v (z_row w 17 ci S) = Clauses_worth_1 d ci e k3 (h - 1) (p + 1) (z_row w 17 ci (upF S (h - 2) v)) := fun v => by
    rw [e_Clauses_worth_25, gd_t (by omega), gd_t (by omega), gd_t (by omega), row_up, e2, e1]
  have h31 : ∀ v, Clauses_worth_31 d ci e k3 (h + -1) p v (z_row w 17 ci S) = Clauses_worth_1 d ci e k3 (h - 1) (p + 1) (z_row w 17 ci (upF S (h - 2) v)) := fun v => by
    rw [e_Clauses_worth_31, gd_t (by omega), gd_t (by omega), gd_t (by omega), row_up, e2, e1]
  have h35 : ∀ v, Clauses_worth_35 d ci e k3 (h + -1) p v (z_row w 17 ci S) = Clauses_worth_1 d ci e k3 (h - 1) (p + 1) (z_row w 17 ci (upF S (h - 2) v)) := fun v => by
    rw [e_Clauses_worth_35, gd_t (by omega), gd_t (by omega), gd_t (by omega), row_up, e2, e1]
  have h39 : ∀ v, Clauses_worth_39 d ci e k3 (h + -1) p v (z_row w 17 ci S) = Clauses_worth_1 d ci e k3 (h - 1) (p + 1) (z_row w 17 ci (upF S (h - 2) v)) := fun v => by
    rw [e_Clauses_worth_39, gd_t (by omega), gd_t (by omega), gd_t (by omega), row_up, e2, e1]
  rw [c_14 hR (by omega) hp, e_Clauses_worth_14, if_neg (by omega), e_Clauses_worth_17, if_neg (by omega), gd_t (by omega), gd_t (by omega), gd_t (by omega), gd_t (by omega)]
  rcases hk with rfl | rfl | rfl | rfl | rfl | rfl | rfl | rfl | rfl
  · rw [if_pos rfl, gd_t (by omega), gd_t (by omega), gd_t (by omega), row_up, row_h, row_h, e2, e1]; rfl
  · rw [if_neg (by decide), if_pos rfl, gd_t (by omega), gd_t (by omega), gd_t (by omega), row_up, row_h, row_h, e2, e1]; rfl
  · rw [if_neg (by decide), if_neg (by decide), if_pos rfl, gd_t (by omega), gd_t (by omega), gd_t (by omega), row_up, row_h, row_h, e2, e1]; rfl
  · rw [if_neg (by decide), if_neg (by decide), if_neg (by decide), if_pos rfl, gd_t (by omega), gd_t (by omega), gd_t (by omega), row_up, row_h, row_h, e2, e1]; rfl
  · rw [if_neg (by decide), if_neg (by decide), if_neg (by decide), if_neg (by decide), if_pos rfl, row_h, row_h, h25, h25, e2, e1]
    have hc : cone 47 (S (h - 2)) (S (h - 1)) = if S (h - 1) = 0 then 0 else z_wL (Int.tdiv (S (h - 2)) (S (h - 1))) := rfl
    rw [hc]
    by_cases hb : S (h - 1) = 0
    · rw [if_pos hb, if_pos hb]
    · rw [if_neg hb, if_neg hb, gd_t hb]
  · rw [if_neg (by decide), if_neg (by decide), if_neg (by decide), if_neg (by decide), if_neg (by decide), if_pos rfl, row_h, row_h, h31, h31, e2, e1]
    have hc : cone 60 (S (h - 2)) (S (h - 1)) = if S (h - 1) ≤ S (h - 2) then 0 else 1 := rfl
    rw [hc]
    split <;> rfl
  · rw [if_neg (by decide), if_neg (by decide), if_neg (by decide), if_neg (by decide), if_neg (by decide), if_neg (by decide), if_pos rfl, row_h, row_h, h35, h35, e2, e1]
    have hc : cone 62 (S (h - 2)) (S (h - 1)) = if S (h - 2) ≤ S (h - 1) then 0 else 1 := rfl
    rw [hc]
    split <;> rfl
  · rw [if_neg (by decide), if_neg (by decide), if_neg (by decide), if_neg (by decide), if_neg (by decide), if_neg (by decide), if_neg (by decide), if_pos rfl, gd_t (by omega), gd_t (by omega), gd_t (by omega), row_up, row_h, row_h, e2, e1]; rfl
  · rw [if_neg (by decide), if_neg (by decide), if_neg (by decide), if_neg (by decide), if_neg (by decide), if_neg (by decide), if_neg (by decide), if_neg (by decide), row_h, row_h, h39, h39, e2, e1]
    have hc : cone 61 (S (h - 2)) (S (h - 1)) = if S (h - 2) = S (h - 1) then 1 else 0 := rfl
    rw [hc]
    split <;> rfl
