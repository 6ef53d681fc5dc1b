/-! the model lays a wood -/
section
variable {d d' : Nat} {i : Int}
theorem m_lays_9 {b : Int} {v : zW} (hi : 0 ≤ i ∧ i < 4) (hb : b = 144 * (6 * i + 5)) : ∀ (m : Nat) (c : Int), 0 ≤ c → c + m = 144 → M_lays_9 (d + 1) i c (z_row v 64 0 (fun p => if b ≤ p ∧ p < b + c then v 67 0 (p - b) else v 64 0 p)) = some (0, z_row v 64 0 (fun p => if b ≤ p ∧ p < b + 144 then v 67 0 (p - b) else v 64 0 p)) := by
  intro m
  induction m with
  | zero =>
    intro c hc hm
    rw [e_M_lays_9, if_pos (by omega), show c = 144 by omega]
  | succ m ih =>
    intro c hc hm
    have hst : upF (fun p => if b ≤ p ∧ p < b + c then v 67 0 (p - b) else v 64 0 p) (b + c) (v 67 0 c) = fun p => if b ≤ p ∧ p < b + (c + 1) then v 67 0 (p - b) else v 64 0 p := by
      funext p
      unfold upF
      by_cases h1 : p = b + c
      · rw [if_pos h1, if_pos (by omega), h1, show b + c - b = c by omega]
      · rw [if_neg h1]
        dsimp only
        by_cases h2 : b ≤ p ∧ p < b + c
        · rw [if_pos h2, if_pos (by omega)]
        · rw [if_neg h2, if_neg (by omega)]
    rw [e_M_lays_9, if_neg (by omega), m_laidAt hi (by decide), bnd]
    dsimp only
    rw [gd_t (by omega), gd_t (by omega), gd_t (by omega), gd_t (by omega), row_c (by decide), ← hb, row_up, hst]
    exact ih (c + 1) (by omega) (by omega)
theorem m_lays_8 {C R X Y : Int} {v : zW} (hi : 0 ≤ i ∧ i < 4) (hC : v 58 0 (12 + i) = C) (hR : v 59 0 (12 + i) = R) (hX : v 60 0 (12 + i) = X) (hY : v 61 0 (12 + i) = Y) (bC : 2 ≤ C ∧ C ≤ 12) (bR : 2 ≤ R ∧ R ≤ 12) (bX : 0 ≤ X ∧ X < C) (bY : 0 ≤ Y ∧ Y < R) :
    ∃ v', M_lays_8 (d + 4) i v = some (0, v') ∧ mF [64, 66, 67] [] v v' ∧ (∀ p, (p < 864 * i ∨ 864 * i + 864 ≤ p) → v' 64 0 p = v 64 0 p) ∧ (∀ c, 0 ≤ c → c < 144 → md v' i 1 c = if c = 12 * Y + X then 0 else md v i 1 c) ∧ (∀ q c, (q = 0 ∨ q = 2 ∨ q = 3 ∨ q = 4) → 0 ≤ c → c < 144 → md v' i q c = md v i q c) ∧ eqC (md v' i 5) (far (nbr C R (md v' i 1)) (12 * Y + X)) := by
  have hho : ∀ u : zW, u 60 0 (12 + i) = X → u 61 0 (12 + i) = Y → M_homeOf (d + 3) i u = some (12 * Y + X, u) := fun u h1 h2 => by
    rw [m_homeOf hi (by omega) (by omega), h1, h2]
  have e60 : (z_up v 64 0 (144 * (6 * i + 1) + (12 * Y + X)) 0) 60 0 (12 + i) = X := (up_c (by decide)).trans hX
  have e61 : (z_up v 64 0 (144 * (6 * i + 1) + (12 * Y + X)) 0) 61 0 (12 + i) = Y := (up_c (by decide)).trans hY
  have e64 : ∀ p, (z_up v 64 0 (144 * (6 * i + 1) + (12 * Y + X)) 0) 64 0 p = if p = 144 * (6 * i + 1) + (12 * Y + X) then 0 else v 64 0 p := fun p => by
    by_cases z : p = 144 * (6 * i + 1) + (12 * Y + X)
    · rw [if_pos z, z, up_h]
    · rw [if_neg z, up_s z]
  have fu : mF [64] [] v (z_up v 64 0 (144 * (6 * i + 1) + (12 * Y + X)) 0) := mF_up (by decide) (by decide)
  have hMW : MW (z_up v 64 0 (144 * (6 * i + 1) + (12 * Y + X)) 0) i C R (nbr C R (md (z_up v 64 0 (144 * (6 * i + 1) + (12 * Y + X)) 0) i 1)) := ⟨hi, (up_c (by decide)).trans hC, by omega, (up_c (by decide)).trans hR, by omega, rfl⟩
  have hrun : M_lays_8 (d + 4) i v = (M_spreads (d + 3) i (12 * Y + X) (z_up v 64 0 (144 * (6 * i + 1) + (12 * Y + X)) 0)).bind fun r4 => M_lays_9 (d + 4) i 0 r4.2 := by
    rw [e_M_lays_8, m_laidAt hi (by decide), bnd]
    dsimp only
    rw [hho v hX hY, bnd]
    dsimp only
    rw [gd_t (by omega), gd_t (by omega), hho _ e60 e61, bnd]
  generalize z_up v 64 0 (144 * (6 * i + 1) + (12 * Y + X)) 0 = v1 at *
  obtain ⟨v2, s1, s2, s3⟩ := m_spreads (d := d) hMW (show 0 ≤ 12 * Y + X ∧ 12 * Y + X < 144 by omega)
  have h9 := m_lays_9 (d := d + 3) (v := v2) hi rfl 144 0 (Int.le_refl 0) (by decide)
  have h0 : (fun p => if 144 * (6 * i + 5) ≤ p ∧ p < 144 * (6 * i + 5) + 0 then v2 67 0 (p - 144 * (6 * i + 5)) else v2 64 0 p) = v2 64 0 := by
    funext p
    rw [if_neg (by omega)]
  rw [h0, row_self] at h9
  have v264 : v2 64 = v1 64 := s2.1 64 (by decide) (by decide)
  have fin : ∀ p, (z_row v2 64 0 (fun p => if 144 * (6 * i + 5) ≤ p ∧ p < 144 * (6 * i + 5) + 144 then v2 67 0 (p - 144 * (6 * i + 5)) else v2 64 0 p)) 64 0 p = if 144 * (6 * i + 5) ≤ p ∧ p < 144 * (6 * i + 5) + 144 then v2 67 0 (p - 144 * (6 * i + 5)) else v1 64 0 p := fun p => by
    rw [row_h, v264]
  have hmd1 : ∀ c, 0 ≤ c → c < 144 → md (z_row v2 64 0 (fun p => if 144 * (6 * i + 5) ≤ p ∧ p < 144 * (6 * i + 5) + 144 then v2 67 0 (p - 144 * (6 * i + 5)) else v2 64 0 p)) i 1 c = md v1 i 1 c := fun c c0 c1 => by
    unfold md
    rw [fin, if_neg (by omega)]
  refine ⟨_, by rw [hrun, s1, bnd]; exact h9, mF_tr (mF_sub fu (by decide) (by decide)) (mF_tr (mF_sub s2 (by decide) (by decide)) (mF_row (by decide) (by decide))), fun p hp => ?_, fun c c0 c1 => ?_, fun q c hq c0 c1 => ?_, fun c c0 c1 => ?_⟩
  · rw [fin, if_neg (by omega), e64, if_neg (by omega)]
  · rw [hmd1 c c0 c1]
    unfold md
    rw [e64]
    by_cases z : c = 12 * Y + X
    · rw [if_pos z, if_pos (by omega)]
    · rw [if_neg z, if_neg (by omega)]
  · unfold md
    rw [fin, if_neg (by omega), e64, if_neg (by omega)]
  · have h5 : md (z_row v2 64 0 (fun p => if 144 * (6 * i + 5) ≤ p ∧ p < 144 * (6 * i + 5) + 144 then v2 67 0 (p - 144 * (6 * i + 5)) else v2 64 0 p)) i 5 c = v2 67 0 c := by
      unfold md
      rw [fin, if_pos (by omega), show 144 * (6 * i + 5) + c - 144 * (6 * i + 5) = c by omega]
    rw [h5, s3 c c0 c1]
    exact far_eqR (nbr_bd bC.2 bR.2) (fun k _ _ => nbr_eq bC.2 bR.2 (fun c c0 c1 => (hmd1 c c0 c1).symm) k) (by omega) c c0 c1
/-- the index's other wood numbers stay -/
def LI (i : Int) (v v' : zW) : Prop := mF [58, 59, 60, 61] [] v v' ∧ ∀ s, s ≠ 12 + i → v' 58 0 s = v 58 0 s ∧ v' 59 0 s = v 59 0 s ∧ v' 60 0 s = v 60 0 s ∧ v' 61 0 s = v 61 0 s
theorem LI_rf (v : zW) : LI i v v := ⟨mF_rf _ _ _, fun _ _ => ⟨rfl, rfl, rfl, rfl⟩⟩
theorem LI_tr {v v' v'' : zW} (h : LI i v v') (h' : LI i v' v'') : LI i v v'' := ⟨mF_tr h.1 h'.1, fun s hs => ⟨(h'.2 s hs).1.trans (h.2 s hs).1, (h'.2 s hs).2.1.trans (h.2 s hs).2.1, (h'.2 s hs).2.2.1.trans (h.2 s hs).2.2.1, (h'.2 s hs).2.2.2.trans (h.2 s hs).2.2.2⟩⟩
theorem LI_k {x : Int} {k : Nat} {v : zW} (hk : k = 58 ∨ k = 59 ∨ k = 60 ∨ k = 61) : LI i v (z_up v k 0 (12 + i) x) := by
  have e : ∀ (c : Nat) (s : Int), s ≠ 12 + i → (z_up v k 0 (12 + i) x) c 0 s = v c 0 s := fun c s h => by
    unfold z_up
    rw [if_neg (fun q => h q.2.1)]
  exact ⟨mF_up (by rcases hk with rfl | rfl | rfl | rfl <;> decide) (by omega), fun s hs => ⟨e _ s hs, e _ s hs, e _ s hs, e _ s hs⟩⟩
theorem m_lays {C R X Y : Int} {v : zW} (hi : 0 ≤ i ∧ i < 4) (h21 : v 11 0 21 = 12 + i) (hc : (v 58 0 (12 + i) = -1 ∧ C = 12 ∧ R = 12) ∨ (v 58 0 (12 + i) = C ∧ v 59 0 (12 + i) = R ∧ (2 ≤ C ∧ C ≤ 12) ∧ 2 ≤ R ∧ R ≤ 12)) (hh : (v 60 0 (12 + i) = -1 ∧ X = 0 ∧ Y = 0) ∨ (v 60 0 (12 + i) = X ∧ v 61 0 (12 + i) = Y ∧ (0 ≤ X ∧ X ≤ 11) ∧ 0 ≤ Y ∧ Y ≤ 11)) :
    ∃ v', M_lays (d + 4) i v = some (0, v') ∧ (mF [58, 59, 60, 61, 64, 66, 67] [] v v' ∧ ∀ s, s ≠ 12 + i → v' 58 0 s = v 58 0 s ∧ v' 59 0 s = v 59 0 s ∧ v' 60 0 s = v 60 0 s ∧ v' 61 0 s = v 61 0 s) ∧ (v' 58 0 (12 + i) = C ∧ v' 59 0 (12 + i) = R ∧ v' 60 0 (12 + i) = min X (C - 1) ∧ v' 61 0 (12 + i) = min Y (R - 1)) ∧ (∀ p, (p < 864 * i ∨ 864 * i + 864 ≤ p) → v' 64 0 p = v 64 0 p) ∧ (∀ c, 0 ≤ c → c < 144 → md v' i 1 c = if c = 12 * min Y (R - 1) + min X (C - 1) then 0 else md v i 1 c) ∧ (∀ q c, (q = 0 ∨ q = 2 ∨ q = 3 ∨ q = 4) → 0 ≤ c → c < 144 → md v' i q c = md v i q c) ∧ eqC (md v' i 5) (far (nbr C R (md v' i 1)) (12 * min Y (R - 1) + min X (C - 1))) := by
  -- how wide
  obtain ⟨v1, a1, a2, a3, a4⟩ : ∃ v1, M_lays (d + 4) i v = M_lays_2 (d + 4) i v1 ∧ LI i v v1 ∧ (v1 58 0 (12 + i) = C ∧ v1 59 0 (12 + i) = R ∧ (2 ≤ C ∧ C ≤ 12) ∧ 2 ≤ R ∧ R ≤ 12) ∧ (v1 60 = v 60 ∧ v1 61 = v 61) := by
    rcases hc with ⟨h1, h2, h3⟩ | ⟨h1, h2, h3, h4⟩
    · refine ⟨z_up (z_up v 58 0 (12 + i) 12) 59 0 (12 + i) 12, ?_, LI_tr (LI_k (by decide)) (LI_k (by decide)), ⟨?_, ?_, by omega, by omega⟩, ?_, ?_⟩
      · rw [e_M_lays, h21, gd_t (by omega), if_neg (by omega), gd_t (by omega), gd_t (by omega)]
      · rw [up_c (by decide), up_h, h2]
      · rw [up_h, h3]
      · rw [upc (by decide), upc (by decide)]
      · rw [upc (by decide), upc (by decide)]
    · exact ⟨v, by rw [e_M_lays, h21, gd_t (by omega), if_pos (by omega)], LI_rf v, ⟨h1, h2, h3, h4⟩, rfl, rfl⟩
  have b21 : v1 11 0 21 = 12 + i := (a2.1.2 21 List.not_mem_nil).trans h21
  -- where home is
  obtain ⟨v2, b1, b2, b3, b4⟩ : ∃ v2, M_lays_2 (d + 4) i v1 = M_lays_4 (d + 4) i v2 ∧ LI i v1 v2 ∧ (v2 60 0 (12 + i) = X ∧ v2 61 0 (12 + i) = Y ∧ (0 ≤ X ∧ X ≤ 11) ∧ 0 ≤ Y ∧ Y ≤ 11) ∧ (v2 58 = v1 58 ∧ v2 59 = v1 59) := by
    rcases hh with ⟨h1, h2, h3⟩ | ⟨h1, h2, h3, h4⟩
    · refine ⟨z_up (z_up v1 60 0 (12 + i) 0) 61 0 (12 + i) 0, ?_, LI_tr (LI_k (by decide)) (LI_k (by decide)), ⟨?_, ?_, by omega, by omega⟩, ?_, ?_⟩
      · rw [e_M_lays_2, b21, gd_t (by omega), if_neg (by rw [a4.1]; omega), gd_t (by omega), gd_t (by omega)]
      · rw [up_c (by decide), up_h, h2]
      · rw [up_h, h3]
      · rw [upc (by decide), upc (by decide)]
      · rw [upc (by decide), upc (by decide)]
    · exact ⟨v1, by rw [e_M_lays_2, b21, gd_t (by omega), if_pos (by rw [a4.1]; omega)], LI_rf v1, ⟨by rw [a4.1]; exact h1, by rw [a4.2]; exact h2, h3, h4⟩, rfl, rfl⟩
  have c21 : v2 11 0 21 = 12 + i := (b2.1.2 21 List.not_mem_nil).trans b21
  have c58 : v2 58 0 (12 + i) = C := by rw [b4.1]; exact a3.1
  have c59 : v2 59 0 (12 + i) = R := by rw [b4.2]; exact a3.2.1
  have hb := a3.2.2
  have hb2 := b3.2.2
  obtain ⟨v3, c1, c2, c3, c4⟩ : ∃ v3, M_lays_4 (d + 4) i v2 = M_lays_6 (d + 4) i v3 ∧ LI i v2 v3 ∧ v3 60 0 (12 + i) = min X (C - 1) ∧ (v3 58 = v2 58 ∧ v3 59 = v2 59 ∧ v3 61 = v2 61) := by
    by_cases z : X < C
    · exact ⟨v2, by rw [e_M_lays_4, c21, gd_t (by omega), gd_t (by omega), b3.1, c58, if_pos z], LI_rf v2, by rw [b3.1]; omega, rfl, rfl, rfl⟩
    · refine ⟨z_up v2 60 0 (12 + i) (C - 1), ?_, LI_k (by decide), by rw [up_h]; omega, ?_, ?_, ?_⟩
      · rw [e_M_lays_4, c21, gd_t (by omega), gd_t (by omega), b3.1, c58, if_neg z, gd_t (by omega), gd_t (by omega), gd_t (by omega)]
      · rw [upc (by decide)]
      · rw [upc (by decide)]
      · rw [upc (by decide)]
  have d21 : v3 11 0 21 = 12 + i := (c2.1.2 21 List.not_mem_nil).trans c21
  have d61 : v3 61 0 (12 + i) = Y := by rw [c4.2.2]; exact b3.2.1
  have d59 : v3 59 0 (12 + i) = R := by rw [c4.2.1]; exact c59
  obtain ⟨v4, d1, d2, d3, d4⟩ : ∃ v4, M_lays_6 (d + 4) i v3 = M_lays_8 (d + 4) i v4 ∧ LI i v3 v4 ∧ v4 61 0 (12 + i) = min Y (R - 1) ∧ (v4 58 = v3 58 ∧ v4 59 = v3 59 ∧ v4 60 = v3 60) := by
    by_cases z : Y < R
    · exact ⟨v3, by rw [e_M_lays_6, d21, gd_t (by omega), gd_t (by omega), d61, d59, if_pos z], LI_rf v3, by rw [d61]; omega, rfl, rfl, rfl⟩
    · refine ⟨z_up v3 61 0 (12 + i) (R - 1), ?_, LI_k (by decide), by rw [up_h]; omega, ?_, ?_, ?_⟩
      · rw [e_M_lays_6, d21, gd_t (by omega), gd_t (by omega), d61, d59, if_neg z, gd_t (by omega), gd_t (by omega), gd_t (by omega)]
      · rw [upc (by decide)]
      · rw [upc (by decide)]
      · rw [upc (by decide)]
  have hLI : LI i v v4 := LI_tr a2 (LI_tr b2 (LI_tr c2 d2))
  have f58 : v4 58 0 (12 + i) = C := by rw [d4.1, c4.1]; exact c58
  have f59 : v4 59 0 (12 + i) = R := by rw [d4.2.1]; exact d59
  have f60 : v4 60 0 (12 + i) = min X (C - 1) := by rw [d4.2.2]; exact c3
  obtain ⟨v5, e1, e2, e3, e4, e5, e6⟩ := m_lays_8 (d := d) hi f58 f59 f60 d3 hb.1 hb.2 (by omega) (by omega)
  have g64 : v4 64 = v 64 := hLI.1.1 64 (by decide) (by decide)
  have hmd : ∀ q, md v4 i q = md v i q := fun q => by
    unfold md
    rw [g64]
  have k58 : v5 58 = v4 58 := e2.1 58 (by decide) (by decide)
  have k59 : v5 59 = v4 59 := e2.1 59 (by decide) (by decide)
  have k60 : v5 60 = v4 60 := e2.1 60 (by decide) (by decide)
  have k61 : v5 61 = v4 61 := e2.1 61 (by decide) (by decide)
  refine ⟨v5, by rw [a1, b1, c1, d1]; exact e1, ⟨mF_tr (mF_sub hLI.1 (by decide) (by decide)) (mF_sub e2 (by decide) (by decide)), fun s hs => ?_⟩, ⟨by rw [k58]; exact f58, by rw [k59]; exact f59, by rw [k60]; exact f60, by rw [k61]; exact d3⟩, fun p hp => by rw [e3 p hp, g64], fun c c0 c1 => by rw [e4 c c0 c1, hmd], fun q c hq c0 c1 => by rw [e5 q c hq c0 c1, hmd], e6⟩
  rw [k58, k59, k60, k61]
  exact hLI.2 s hs
end
