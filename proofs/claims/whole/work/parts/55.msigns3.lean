theorem m_signs {d k1 : Nat} {b kd x y e : Int} {w : zW} {ch : Int → Int} (hk : isW k1 b) (hf : wtB (wtM w k1 b)) (hch : chB ch) (hc : ∀ (c : Nat) (X : Int → Int), c < 144 → M_chance d c kd x y e (z_row w 72 0 X) = some (ch c, z_row w 72 0 X)) :
    ∃ w', M_signs (d + 1) k1 b kd x y e w = some (if 0 < sm (wgt (wtM w k1 b) ch) 576 then 1 else 0, w') ∧ mfk k1 b w w' ∧ eqR (wtM w' k1 b) (if 0 < sm (wgt (wtM w k1 b) ch) 576 then nrm (wgt (wtM w k1 b) ch) (sm (wgt (wtM w k1 b) ch) 576) else wtM w k1 b) := by
  have h72 : k1 ≠ 72 := by rcases hk with ⟨rfl, -⟩ | ⟨rfl, -⟩ <;> decide
  have h11 : 11 ≠ k1 := by rcases hk with ⟨rfl, -⟩ | ⟨rfl, -⟩ <;> decide
  have hb : ∀ k : Nat, k < 576 → 0 ≤ wgt (wtM w k1 b) ch k ∧ wgt (wtM w k1 b) ch k ≤ 1000000000 := fun k hk' => by
    have h1 := wgt_bd (F := wtM w k1 b) (ch := ch) hf True k (by omega) (by omega) (hch (k / 4) (by omega) (by omega))
    have h2 := hf k (by omega) (by omega)
    omega
  have hS0 : 0 ≤ sm (wgt (wtM w k1 b) ch) 576 := sm_nn (fun k hk' => (hb k hk').1)
  have h1 := m_signs_1 (d := d) (kd := kd) (x := x) (y := y) (e := e) (X0 := w 72 0) hk hf hch hc 144 0 rfl
  have e0 : wq2 (wtM w k1 b) ch (w 72 0) (4 * 0 : Nat) = w 72 0 := by
    funext k
    unfold wq2
    rw [if_neg (by omega)]
  have e1 : sm (wgt (wtM w k1 b) ch) (4 * 0) = 0 := rfl
  rw [e0, e1, row_self, show ((0 : Nat) : Int) = 0 from rfl] at h1
  have hY : eqR (wq2 (wtM w k1 b) ch (w 72 0) 576) (wgt (wtM w k1 b) ch) := fun k k0 k1 => if_pos ⟨k0, k1⟩
  have hst : M_signs (d + 1) k1 b kd x y e w = M_signs_1 (d + 1) k1 b kd x y e 0 0 w := e_M_signs _ _ _ _ _ _ _ _
  by_cases hp : 0 < sm (wgt (wtM w k1 b) ch) 576
  · rw [if_neg (by omega)] at h1
    rw [if_pos hp, if_pos hp]
    have h9 := m_signs_9 (d := d + 1) (w := z_row w 72 0 (wq2 (wtM w k1 b) ch (w 72 0) 576)) hk hp (fun k k0 k1 => by
      rw [row_h, hY k k0 k1]
      obtain ⟨n, rfl⟩ : ∃ n : Nat, k = n := ⟨k.toNat, by omega⟩
      have := hb n (by omega)
      exact ⟨this.1, this.2, sm_one (fun j hj => (hb j hj).1) (by omega)⟩) 576 0 rfl
    rw [show ((0 : Nat) : Int) = 0 from rfl, cbF_0, row_self] at h9
    refine ⟨_, hst.trans (h1.trans h9), ⟨fun c a1 a2 a3 a4 a5 => ?_, fun s hs => ?_, fun s hs => ?_⟩, fun k k0 k1' => ?_⟩
    · funext i s
      rw [row_c a5, row_c a4]
    · rw [row_c h11, row_c (by decide)]
    · rw [row_h]
      unfold cbF
      rw [if_neg hs, row_c h72]
    · show (z_row (z_row w 72 0 (wq2 (wtM w k1 b) ch (w 72 0) 576)) k1 0 (cbF ((z_row w 72 0 (wq2 (wtM w k1 b) ch (w 72 0) 576)) k1 0) (nrm ((z_row w 72 0 (wq2 (wtM w k1 b) ch (w 72 0) 576)) 72 0) (sm (wgt (wtM w k1 b) ch) 576)) b 576)) k1 0 (b + k) = _
      rw [row_h]
      unfold cbF nrm
      rw [if_pos (by omega), row_h, show b + k - b = k by omega, hY k k0 k1']
  · rw [if_pos (by omega)] at h1
    rw [if_neg hp, if_neg hp]
    refine ⟨_, hst.trans h1, ⟨fun c a1 a2 a3 a4 a5 => ?_, fun s hs => ?_, fun s hs => ?_⟩, fun k k0 k1' => ?_⟩
    · funext i s
      exact row_c a4
    · exact row_c (by decide)
    · exact row_c h72
    · exact row_c h72
