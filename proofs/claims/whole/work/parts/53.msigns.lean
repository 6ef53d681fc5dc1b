/-! the model's signs -/
def wq2 (F ch X0 : Int → Int) (q : Int) : Int → Int := fun k => if 0 ≤ k ∧ k < q then wgt F ch k else X0 k
theorem wq2_up {F ch X0 : Int → Int} {q : Int} (hq : 0 ≤ q) : upF (wq2 F ch X0 q) q (wgt F ch q) = wq2 F ch X0 (q + 1) := by
  funext k
  unfold upF wq2
  by_cases h : k = q
  · rw [if_pos h, h, if_pos ⟨hq, by omega⟩]
  · rw [if_neg h]
    by_cases z : 0 ≤ k ∧ k < q
    · rw [if_pos z, if_pos ⟨z.1, by omega⟩]
    · rw [if_neg z, if_neg (fun y => z ⟨y.1, by omega⟩)]
theorem m_signs_3 {d k1 : Nat} {b kd x y e : Int} {w : zW} {ch X0 : Int → Int} (hk : isW k1 b) (hf : wtB (wtM w k1 b)) (hch : chB ch) {c : Nat} (hc : c < 144) : ∀ m v : Nat, v + m = 4 →
    M_signs_3 d k1 b kd x y e (sm (wgt (wtM w k1 b) ch) (4 * c + v)) c (ch c) v (z_row w 72 0 (wq2 (wtM w k1 b) ch X0 (4 * c + v : Nat))) = M_signs_1 d k1 b kd x y e (sm (wgt (wtM w k1 b) ch) (4 * (c + 1))) (c + 1 : Nat) (z_row w 72 0 (wq2 (wtM w k1 b) ch X0 (4 * (c + 1) : Nat))) := by
  obtain ⟨hz, hl, hb0, hb6⟩ := isW_kd hk
  have h72 : k1 ≠ 72 := by rcases hk with ⟨rfl, -⟩ | ⟨rfl, -⟩ <;> decide
  intro m
  induction m with
  | zero =>
    intro v hv
    rw [e_M_signs_3, if_pos (by omega), gd_t (by omega), show 4 * c + v = 4 * (c + 1) by omega]
    rfl
  | succ m ih =>
    intro v hv
    have hq4 : (4 * (c : Int) + v) / 4 = c := by omega
    have hb := wgt_bd (F := wtM w k1 b) (ch := ch) hf True (4 * (c : Int) + v) (by omega) (by omega) (by rw [hq4]; exact hch c (by omega) (by omega))
    have hF := hf (4 * (c : Int) + v) (by omega) (by omega)
    rw [hq4] at hb
    have hw : wtM w k1 b (4 * (c : Int) + v) * ch c / 1000 = wgt (wtM w k1 b) ch (4 * (c : Int) + v) := by unfold wgt; rw [hq4]
    have hsb := sm_bd (f := wgt (wtM w k1 b) ch) (n := 4 * c + v) (B := 1000000000) (fun k hk' => by
      have h1 := wgt_bd (F := wtM w k1 b) (ch := ch) hf True k (by omega) (by omega) (hch (k / 4) (by omega) (by omega))
      have h2 := hf k (by omega) (by omega)
      omega)
    have hss : sm (wgt (wtM w k1 b) ch) (4 * c + (v + 1)) = sm (wgt (wtM w k1 b) ch) (4 * c + v) + wgt (wtM w k1 b) ch (4 * (c : Int) + v) := by
      show sm _ (4 * c + v) + wgt (wtM w k1 b) ch ((4 * c + v : Nat) : Int) = _
      rw [show ((4 * c + v : Nat) : Int) = 4 * (c : Int) + v by omega]
    have hr : ∀ Y : Int → Int, (z_row w 72 0 Y) k1 0 ((b + 4 * (c : Int)) + v) = wtM w k1 b (4 * (c : Int) + v) := fun Y => by
      rw [row_c h72]
      unfold wtM
      rw [show b + 4 * (c : Int) + v = b + (4 * (c : Int) + v) by omega]
    have ih' := ih (v + 1) (by omega)
    rw [← ih', e_M_signs_3, if_neg (by omega)]
    simp only [hr, hw, row_up, row_h, upF_h]
    rw [gd_t (by omega), gd_t (by omega), gd_t (by omega), gd_t (by omega), gd_t (by omega), gd_t ⟨hz, by omega, by omega⟩, gd_t (by omega), gd_t (by omega), gd_t (by omega), gd_t (by omega), gd_t (by omega), gd_t (by omega), gd_t (by omega), gd_t (by omega), gd_t (by omega)]
    rw [show ((4 * c + v : Nat) : Int) = 4 * (c : Int) + v by omega, wq2_up (by omega), ← hss]
    rfl
