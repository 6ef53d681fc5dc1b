/-! the model's turns -/
def tst (s : Int) (F : Int → Int) (c v : Int) : Int → Int := fun j => if j / 4 < c ∨ (j / 4 = c ∧ (j % 4 + s) % 4 < v) then rot s F j else 0
def trW (act : Int) : Int := if act = 1 then 3 else if act = 2 then 1 else 2
theorem m_turn_8 {d k1 : Nat} {b act e l6 s : Int} {w : zW} (hk : isW k1 b) (ha : 1 ≤ act ∧ act ≤ 3) (hs : s = 4 - trW act) (hf : wtB (wtM w k1 b)) {c : Nat} (hc : c < 144) : ∀ (m v : Nat) (X : Int → Int), v + m = 4 → eqR X (tst s (wtM w k1 b) c v) →
    ∃ X', eqR X' (tst s (wtM w k1 b) (c + 1 : Nat) (0 : Nat)) ∧ M_does_8 (d + 1) k1 b act e c l6 v (z_row w 72 0 X) = M_does_6 (d + 1) k1 b act e (c + 1 : Nat) (z_row w 72 0 X') := by
  obtain ⟨hz, hl, hb0, hb6⟩ := isW_kd hk
  have hr3 : 1 ≤ trW act ∧ trW act ≤ 3 := by
    unfold trW
    split
    · omega
    · split <;> omega
  intro m
  induction m with
  | zero =>
    intro v X hv hX
    refine ⟨X, fun j j0 j1 => ?_, ?_⟩
    · rw [hX j j0 j1]
      unfold tst
      by_cases h : j / 4 < (c : Int) ∨ (j / 4 = (c : Int) ∧ (j % 4 + s) % 4 < (v : Int))
      · rw [if_pos h, if_pos (by omega)]
      · rw [if_neg h, if_neg (by omega)]
    · rw [e_M_does_8, if_pos (by omega), gd_t (by omega)]
      rfl
  | succ m ih =>
    intro v X hv hX
    have hF := hf (4 * (c : Int) + v) (by omega) (by omega)
    have h72 : k1 ≠ 72 := by rcases hk with ⟨rfl, -⟩ | ⟨rfl, -⟩ <;> decide
    have hr : (z_row w 72 0 X) k1 0 ((b + 4 * (c : Int)) + v) = wtM w k1 b (4 * (c : Int) + v) := by
      rw [row_c h72]
      unfold wtM
      rw [show b + 4 * (c : Int) + v = b + (4 * (c : Int) + v) by omega]
    have hnext : eqR (inc X (4 * (c : Int) + ((v : Int) + trW act) % 4) (wtM w k1 b (4 * (c : Int) + v))) (tst s (wtM w k1 b) c (v + 1 : Nat)) := fun j j0 j1 => by
      unfold inc
      rw [hX j j0 j1]
      unfold tst rot
      by_cases q : j = 4 * (c : Int) + ((v : Int) + trW act) % 4
      · have e1 : j / 4 = c := by omega
        have e2 : (j % 4 + s) % 4 = v := by omega
        rw [if_pos q, if_neg (by omega), if_pos (by omega), e1, e2, Int.zero_add]
      · rw [if_neg q]
        by_cases h : j / 4 < (c : Int) ∨ (j / 4 = (c : Int) ∧ (j % 4 + s) % 4 < (v : Int))
        · rw [if_pos h, if_pos (by omega)]
        · rw [if_neg h, if_neg (by omega)]
    have hx0 : X (4 * (c : Int) + ((v : Int) + trW act) % 4) = 0 := by
      rw [hX _ (by omega) (by omega)]
      unfold tst
      rw [if_neg (by omega)]
    rw [e_M_does_8, if_neg (by omega), gd_t (by omega), gd_t (by omega), gd_t (by omega), gd_t ⟨hz, by omega, by omega⟩]
    simp only [hr]
    by_cases h0 : wtM w k1 b (4 * (c : Int) + v) = 0
    · rw [if_pos h0, gd_t (by omega)]
      rw [h0, inc_0] at hnext
      exact ih (v + 1) X (by omega) hnext
    · have ht : (if act = 1 then (3 : Int) else if act = 2 then 1 else 2) = trW act := rfl
      rw [if_neg h0, if_neg (by omega), gd_t (by omega), m_turned (by omega), ht, bnd]
      dsimp only
      simp only [row_h]
      rw [gd_t (by omega), gd_t (by omega), gd_t (by omega), gd_t (by omega), gd_t (by omega), up_inc]
      exact ih (v + 1) _ (by omega) hnext
theorem m_turn_6 {d k1 : Nat} {b act e s : Int} {w : zW} (hk : isW k1 b) (ha : 1 ≤ act ∧ act ≤ 3) (hs : s = 4 - trW act) (hf : wtB (wtM w k1 b)) : ∀ (m n : Nat) (X : Int → Int), n + m = 144 → eqR X (tst s (wtM w k1 b) n (0 : Nat)) →
    ∃ X', eqR X' (rot s (wtM w k1 b)) ∧ M_does_6 (d + 1) k1 b act e n (z_row w 72 0 X) = M_does_19 (d + 1) k1 b 0 (z_row w 72 0 X') := by
  intro m
  induction m with
  | zero =>
    intro n X hm hX
    refine ⟨X, fun j j0 j1 => ?_, ?_⟩
    · rw [hX j j0 j1]
      unfold tst
      rw [if_pos (by omega)]
    · rw [e_M_does_6, if_pos (by omega)]
  | succ m ih =>
    intro n X hm hX
    obtain ⟨X', q1, q2⟩ := m_turn_8 (d := d) (e := e) (l6 := -1) hk ha hs hf (c := n) (by omega) 4 0 X rfl hX
    rw [show ((0 : Nat) : Int) = 0 from rfl] at q2
    obtain ⟨X'', r1, r2⟩ := ih (n + 1) X' (by omega) q1
    refine ⟨X'', r1, ?_⟩
    rw [e_M_does_6, if_neg (by omega), q2, r2]
theorem m_turn {d k1 : Nat} {b act e s : Int} {w : zW} (hk : isW k1 b) (ha : 1 ≤ act ∧ act ≤ 3) (hs : s = 4 - trW act) (hf : wtB (wtM w k1 b)) : ∃ w', M_does (d + 1) k1 b act e w = some (0, w') ∧ mfk k1 b w w' ∧ eqR (wtM w' k1 b) (rot s (wtM w k1 b)) := by
  have h3 := m_does_3 (d := d + 1) (k1 := k1) (b := b) (act := act) (e := e) (w := w) 576 0 rfl
  rw [show ((0 : Nat) : Int) = 0 from rfl, flF_0, row_self] at h3
  obtain ⟨X', q1, q2⟩ := m_turn_6 (d := d) (e := e) hk ha hs hf 144 0 (flF (w 72 0) 0 576 0) rfl (fun j j0 j1 => by
    unfold flF tst
    rw [if_pos ⟨j0, j1⟩, if_neg (by omega)])
  obtain ⟨w', r1, r2, r3⟩ := m_back (d := d + 1) (G := X') hk (mfr_rf w)
  refine ⟨w', ?_, r2, fun k k0 k1' => ?_⟩
  · rw [e_M_does, if_neg (by omega), h3]
    exact q2.trans r1
  · rw [r3 k k0 k1', q1 k k0 k1']
theorem rot_mod {s t : Int} (h : s % 4 = t % 4) (F : Int → Int) : rot s F = rot t F := by
  funext j
  unfold rot
  rw [show (j % 4 + s) % 4 = (j % 4 + t) % 4 by omega]
theorem rot_wtB {s : Int} {F : Int → Int} (h : wtB F) : wtB (rot s F) := fun k h0 h1 => h _ (by omega) (by omega)
theorem rot_od {s : Int} {F : Int → Int} (hs : 0 ≤ s ∧ s < 4) (c : Int) : od (rot s F) c = od F c := by
  unfold od rot
  rw [show 4 * c / 4 = c by omega, show (4 * c + 1) / 4 = c by omega, show (4 * c + 2) / 4 = c by omega, show (4 * c + 3) / 4 = c by omega]
  have : s = 0 ∨ s = 1 ∨ s = 2 ∨ s = 3 := by omega
  rcases this with rfl | rfl | rfl | rfl
  · rw [show (4 * c % 4 + 0) % 4 = 0 by omega, show ((4 * c + 1) % 4 + 0) % 4 = 1 by omega, show ((4 * c + 2) % 4 + 0) % 4 = 2 by omega, show ((4 * c + 3) % 4 + 0) % 4 = 3 by omega, Int.add_zero]
  · rw [show (4 * c % 4 + 1) % 4 = 1 by omega, show ((4 * c + 1) % 4 + 1) % 4 = 2 by omega, show ((4 * c + 2) % 4 + 1) % 4 = 3 by omega, show ((4 * c + 3) % 4 + 1) % 4 = 0 by omega, Int.add_zero]
    omega
  · rw [show (4 * c % 4 + 2) % 4 = 2 by omega, show ((4 * c + 1) % 4 + 2) % 4 = 3 by omega, show ((4 * c + 2) % 4 + 2) % 4 = 0 by omega, show ((4 * c + 3) % 4 + 2) % 4 = 1 by omega, Int.add_zero]
    omega
  · rw [show (4 * c % 4 + 3) % 4 = 3 by omega, show ((4 * c + 1) % 4 + 3) % 4 = 0 by omega, show ((4 * c + 2) % 4 + 3) % 4 = 1 by omega, show ((4 * c + 3) % 4 + 3) % 4 = 2 by omega, Int.add_zero]
    omega
