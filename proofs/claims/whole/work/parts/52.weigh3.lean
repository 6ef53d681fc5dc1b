theorem s_weigh {d : Nat} {o i : Int} {w : zW} (hi : w 7 0 0 = i) (hW : WO w i) (hf : wtB (w 19 o)) (hC : wtC w i (w 19 o)) (hch : ∀ c : Nat, c < 144 → opw w i c → 0 ≤ w 24 0 c ∧ w 24 0 c ≤ 1000) :
    ∃ w', Odds_weigh (d + 1) o w = some (if 0 < sm (wgt (w 19 o) (w 24 0)) 576 then 1 else 0, w') ∧ z_fr [19, 25] w w' ∧ (∀ o', o' ≠ o → w' 19 o' = w 19 o') ∧ eqR (w' 19 o) (if 0 < sm (wgt (w 19 o) (w 24 0)) 576 then nrm (wgt (w 19 o) (w 24 0)) (sm (wgt (w 19 o) (w 24 0)) 576) else w 19 o) := by
  have hb : ∀ k : Nat, k < 576 → 0 ≤ wgt (w 19 o) (w 24 0) k ∧ wgt (w 19 o) (w 24 0) k ≤ 1000000000 := fun k hk => by
    obtain ⟨c, hc⟩ : ∃ c : Nat, (k : Int) / 4 = c := ⟨k / 4, by omega⟩
    by_cases ho : opw w i c
    · have h1 := hch c (by omega) ho
      have h2 := wgt_bd (F := w 19 o) (ch := w 24 0) hf True k (by omega) (by omega) (by rw [hc]; exact h1)
      have h3 := hf k (by omega) (by omega)
      omega
    · unfold wgt
      rw [hC c (by omega) ho k (by omega) (by omega), Int.zero_mul]
      decide
  have hS : ∀ q : Nat, q ≤ 576 → 0 ≤ sm (wgt (w 19 o) (w 24 0)) q ∧ sm (wgt (w 19 o) (w 24 0)) q ≤ 576000000000 := fun q hq => by
    have := sm_bd (f := wgt (w 19 o) (w 24 0)) (n := q) (B := 1000000000) (fun k hk => hb k (by omega))
    omega
  have h1 := s_weigh_1 (d := d) (o := o) (X0 := flF (w 25 0) 0 (z_ln 25) 0) hW hf hC hch hS (w 9 i 13).toNat 0 0 (by have := hW.len; omega) (by omega) rfl
  have e0 : wq (opw w i) (w 19 o) (w 24 0) (flF (w 25 0) 0 (z_ln 25) 0) (4 * ((0 : Nat) : Int)) = flF (w 25 0) 0 (z_ln 25) 0 := wq_0
  have e1 : sm (wgt (w 19 o) (w 24 0)) (4 * 0) = 0 := rfl
  rw [e0, e1, show ((0 : Nat) : Int) = 0 from rfl] at h1
  have hY : eqR (wq (opw w i) (w 19 o) (w 24 0) (flF (w 25 0) 0 (z_ln 25) 0) 576) (wgt (w 19 o) (w 24 0)) := fun k k0 k1 => by
    unfold wq
    by_cases z : 0 ≤ k ∧ k < 576 ∧ opw w i (k / 4)
    · rw [if_pos z]
    · have hcl : ¬ opw w i (k / 4) := fun y => z ⟨k0, k1, y⟩
      obtain ⟨c, hc⟩ : ∃ c : Nat, k / 4 = c := ⟨(k / 4).toNat, by omega⟩
      rw [hc] at hcl
      rw [if_neg z]
      unfold wgt flF
      rw [if_pos ⟨k0, k1⟩, hC c (by omega) hcl k (by omega) (by omega), Int.zero_mul]
      rfl
  have hst : Odds_weigh (d + 1) o w = Odds_weigh_1 (d + 1) o i 0 0 (z_row w 25 0 (flF (w 25 0) 0 (z_ln 25) 0)) := by
    rw [e_Odds_weigh, s_fillL rfl (by decide), bnd, hi]
  by_cases hp : 0 < sm (wgt (w 19 o) (w 24 0)) 576
  · rw [if_pos hp] at h1 ⊢
    rw [if_pos hp]
    have h9 := s_weigh_9 (d := d + 1) (o := o) (w := z_row w 25 0 (wq (opw w i) (w 19 o) (w 24 0) (flF (w 25 0) 0 (z_ln 25) 0) 576)) hp (fun k k0 k1 => by
      rw [row_h, hY k k0 k1]
      obtain ⟨n, rfl⟩ : ∃ n : Nat, k = n := ⟨k.toNat, by omega⟩
      exact hb n (by omega)) 576 0 rfl
    have e2 : (fun k => if 0 ≤ k ∧ k < ((0 : Nat) : Int) then nrm ((z_row w 25 0 (wq (opw w i) (w 19 o) (w 24 0) (flF (w 25 0) 0 (z_ln 25) 0) 576)) 25 0) (sm (wgt (w 19 o) (w 24 0)) 576) k else (z_row w 25 0 (wq (opw w i) (w 19 o) (w 24 0) (flF (w 25 0) 0 (z_ln 25) 0) 576)) 19 o k) = (z_row w 25 0 (wq (opw w i) (w 19 o) (w 24 0) (flF (w 25 0) 0 (z_ln 25) 0) 576)) 19 o := by
      funext k
      rw [if_neg (by omega)]
    rw [e2, row_self, show ((0 : Nat) : Int) = 0 from rfl] at h9
    refine ⟨_, hst.trans (h1.trans h9), fr_tr (fr_row (by decide)) (fr_row (by decide)), fun o' ho => ?_, fun k k0 k1 => ?_⟩
    · funext s
      rw [row_i ho, row_c (by decide)]
    · rw [row_h, if_pos ⟨k0, k1⟩]
      unfold nrm
      rw [row_h, hY k k0 k1]
  · rw [if_neg hp] at h1 ⊢
    rw [if_neg hp]
    refine ⟨_, hst.trans h1, fr_row (by decide), fun o' _ => ?_, fun k _ _ => ?_⟩
    · funext s
      exact row_c (by decide)
    · exact row_c (by decide)
