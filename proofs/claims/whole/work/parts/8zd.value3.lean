section
variable {d d' : Nat} {T : Int → Int} {n ci t bc bm pend : Int} {L : List tok} {wc wm : zW}
theorem s_refuse_x {k : Int} (h : CT T n wc) (hk : 0 ≤ k ∧ k ≤ 7) : Reader_refuse d k wc = some (0, z_up (z_up wc 5 0 2 (1 + 8 * wc 5 0 4 + k)) 5 0 3 (-2)) := by
  obtain ⟨⟨t1, t2, t3⟩, t4, t5, t6, t7⟩ := h
  rw [e_Reader_refuse, if_pos t5, gd_t (by omega), gd_t (by omega), gd_t (by omega)]
theorem FS_refuse {k : Int} (h : JC T n ci t bc bm L pend wc wm) (hp : 0 ≤ pend) (hk : 0 ≤ k ∧ k ≤ 7) : FS ci (1 + 8 * wc 5 0 4 + k) 60 (z_up (z_up wc 5 0 2 (1 + 8 * wc 5 0 4 + k)) 5 0 3 (-2)) := by
  obtain ⟨l0, l1, l2⟩ := h.ln hp
  obtain ⟨j1, ⟨j2, j3, j4⟩, j5, j6, j7⟩ := h
  have t6 := j1.1.2.2.2.1
  have t1 := j1.1.1
  refine ⟨⟨?_, up_h, by omega, by omega⟩, ?_, ?_, ?_, ?_⟩
  · rw [up_s (by decide), up_h]
  · rw [up_s (by decide), up_s (by decide)]; exact j2
  · rw [upc (by decide), upc (by decide), j6.2.1]; omega
  · rw [up_s (by decide), up_s (by decide)]; omega
  · rw [up_s (by decide), up_s (by decide)]; omega
theorem EF_refuse {f : Int} : EF ci wc (z_up (z_up wc 5 0 2 f) 5 0 3 (-2)) := (RF_tr (RF_up (Or.inl rfl)) (RF_up (Or.inr (Or.inl rfl)))).e
/-- the model's number, at the place -/
theorem m_num {lo hi v : Int} (h : JR T n wc wm) (h18 : wm 11 0 18 = wc 5 0 4) (hs : wc 5 0 3 = 48) (hv : dvN T (wc 5 0 4) (min 5 (wc 5 0 5 - wc 5 0 4).toNat) = v) : M_numberHere (d' + 1) lo hi wm = if 5 < wc 5 0 5 - wc 5 0 4 then some (0, z_up (z_up (z_up wm 11 0 18 (wc 5 0 5)) 11 0 20 v) 11 0 19 (1 + 8 * wc 5 0 4 + 1)) else if lo ≤ v ∧ v ≤ hi then some (1, z_up (z_up wm 11 0 18 (wc 5 0 5)) 11 0 20 v) else some (0, z_up (z_up (z_up wm 11 0 18 (wc 5 0 5)) 11 0 20 v) 11 0 19 (1 + 8 * wc 5 0 4 + 1)) := by
  obtain ⟨hse, hJ⟩ := j_see (d := d') h
  have e0 : z_up wm 11 0 18 (wc 5 0 4) = wm := by rw [← h18, up_self]
  rw [e0] at hse
  have hC := h.1
  have hq := hC.2.2.2.1
  have hn := hC.1
  have hdg := m_isDigit (d := d') (p := wc 5 0 4) h.2.1 hq.1
  rcases TK_dig hC.2.2.2.2 with ⟨z1, z2, z3, z4⟩ | ⟨z1, z2⟩
  · rw [if_pos ⟨z2, z3⟩] at hdg
    have hl := m_number_3 (d := d') (lo := lo) (hi := hi) h.2.1 hq z4 (wc 5 0 5 - wc 5 0 4).toNat 0 (by have := z4.1; omega)
    have hd0 : dvN T (wc 5 0 4) (min 5 0) = 0 := rfl
    rw [show wc 5 0 4 + ((0 : Nat) : Int) = wc 5 0 4 by omega, hd0, hv, e0] at hl
    have h19 : (z_up (z_up wm 11 0 18 (wc 5 0 5)) 11 0 20 v) 11 0 19 = 0 := by
      rw [up_s (by decide), up_s (by decide)]
      exact h.2.2.1
    have h9 : M_numberHere_9 (d' + 1) (wc 5 0 4) (z_up (z_up wm 11 0 18 (wc 5 0 5)) 11 0 20 v) = some (0, z_up (z_up (z_up wm 11 0 18 (wc 5 0 5)) 11 0 20 v) 11 0 19 (1 + 8 * wc 5 0 4 + 1)) := by
      rw [e_M_numberHere_9, m_fails h19 (by decide) ⟨hq.1, by omega⟩, bnd]
      dsimp only
      rw [if_pos rfl, gd_t (by decide)]
    rw [e_M_numberHere, hse, bnd]
    dsimp only
    rw [h18, hdg, bnd]
    dsimp only
    rw [if_neg (show ¬ (1 : Int) = 0 by decide), h18, hl, h9]
  · exact absurd hs z1
end
