section
variable {d d' : Nat} {T : Int → Int} {n i : Int}
noncomputable def WEnd (D : Nat) (i : Int) (w : zW) : zR := if (w 5 0 2) = 0 then ((Wood_settle D i w).bind fun r1 => some (0, r1.2)) else some (0, w)
/-- the loop over a wood's clauses -/
theorem w_loop (hi : 0 ≤ i ∧ i < 4) : ∀ (m : Nat) (x : Nat) (wc wm : zW) (told : Int), 24 - told < m → WU T n i x wc wm → 0 ≤ told → told ≤ 24 → wm 11 0 24 = told →
    ∃ wc' wm', Reader_readWood_1 (d + 27) i 1 x told wc = WEnd (d + 26) i wc' ∧ (∀ l1, TX (d' + 11) l1 wm = M_text_17 (d' + 12) l1 wm') ∧ VF i wc wc' ∧ UF i wm wm' ∧ ((∃ x', WU T n i x' wc' wm') ∨ ∃ f, CF f wc' ∧ wm' 11 0 19 = f) := by
  have h0 : ∀ (x told : Int) (w : zW), Reader_readWood_1 (d + 27) i 0 x told w = WEnd (d + 26) i w := fun x told w => by
    rw [e_Reader_readWood_1, if_pos rfl]
    rfl
  intro m
  induction m with
  | zero =>
    intro x wc wm told hm _ _ h12
    omega
  | succ m ih =>
    intro x wc wm told hm h ht0 h12 h24
    obtain ⟨w1, l5, rm, v1, p1, p2, p3, p4, p5⟩ := w_clause (d := d) (d' := d') h hi ht0 h12 h24
    have hx256 : x < 256 := h.2.2.1
    rw [p1]
    have hTX : ∀ l1, TX (d' + 11) l1 wm = M_text_11 (d' + 12) l1 rm v1 := fun l1 => by
      unfold TX
      rw [p2, bnd]
    rcases p5 with ⟨y1, y2, y3, k, y4, y5, y7⟩ | ⟨y1, yl, f, y2, y3⟩
    · rw [y1] at hTX
      have hset := z_set (k := k) hx256 (by omega)
      have y7' := y7
      obtain ⟨hJ, h21, hx, hCo, hHo, hSr, hLy⟩ := y7
      obtain ⟨r, w2, q1, q2, q3⟩ := j_goes (d := d + 25) (d' := d' + 11) hJ
      have h19 : Reader_readWood_20 (d + 27) i x told l5 w1 = Reader_readWood_1 (d + 27) i r ((x ||| 2 ^ k : Nat) : Int) (told + 1) w2 := by
        rw [e_Reader_readWood_20, if_neg (by omega), y5, gd_t ⟨by omega, by omega, by decide, hset.2.2.2⟩, q1, bnd]
        dsimp only
        rw [gd_t (by omega), hset.1]
      rw [h19]
      have mk : ∀ (w : zW) (v : zW), RF w1 w → mF [] [18] v1 v → JR T n w v → WU T n i (x ||| 2 ^ k) w v := fun w v hr hv hJ2 => by
        have c : ∀ c : Nat, c ≠ 5 → w c = w1 c := fun c hc => hr.1 c (fun q => hc (List.mem_singleton.mp q))
        have e : ∀ c : Nat, c ≠ 11 → v c = v1 c := fun c hc => hv.1 c List.not_mem_nil hc
        exact ⟨hJ2, (hv.2 21 (by decide)).trans h21, hx, WCo_eq hCo (by rw [c 9 (by decide)]) (by rw [c 9 (by decide)]) (e 58 (by decide)) (e 59 (by decide)), WHo_eq hHo (by rw [c 9 (by decide)]) (e 60 (by decide)) (e 61 (by decide)), WSr_eq hSr (by rw [c 9 (by decide)]) (c 32 (by decide)) (e 62 (by decide)) (e 63 (by decide)), WLy_eq hLy (fun q hq => c q (by omega)) (e 64 (by decide))⟩
      rcases q3 with ⟨k1, v2, k2, k3, k4, k5, k6, k7⟩ | ⟨k1, k2, v2, k3, k4, k5⟩ | ⟨k1, f, v2, k2, k3, k4, k5⟩
      · obtain ⟨w3, v3, t1, t2, t3, t4, t5⟩ := ih (x ||| 2 ^ k) w2 v2 (told + 1) (by omega) (mk w2 v2 q2 k3 k4) (by omega) (by omega) (by rw [k3.2 24 (by decide)]; exact y3)
        rw [k1]
        exact ⟨w3, v3, t1, fun l1 => by rw [hTX, k2]; exact t2 l1, VF_tr p3 (VF_tr q2.v t3), UF_tr p4 (UF_tr (UF_m (mF_sub k3 (by decide) (by decide))) t4), t5⟩
      · rw [k1, k2]
        exact ⟨w1, v2, h0 _ _ _, fun l1 => by rw [hTX, k3], p3, UF_tr p4 (UF_m (mF_sub k4 (by decide) (by decide))), Or.inl ⟨x ||| 2 ^ k, mk w1 v2 (RF_rf w1) k4 k5⟩⟩
      · rw [k1]
        exact ⟨w2, v2, h0 _ _ _, fun l1 => by rw [hTX, k3], VF_tr p3 q2.v, UF_tr p4 (UF_m (mF_sub k4 (by decide) (by decide))), Or.inr ⟨f, k2, k5⟩⟩
    · rw [y1] at hTX
      obtain ⟨w2, q1, q2, q3⟩ := F_goes (d := d + 25) y2
      have h19 : Reader_readWood_20 (d + 27) i x told l5 w1 = WEnd (d + 26) i w2 := by
        rw [e_Reader_readWood_20]
        by_cases z : l5 < 0
        · rw [if_pos z, q1, bnd]
          dsimp only
          rw [gd_t (by omega), h0]
        · obtain ⟨k, hk⟩ : ∃ k : Nat, l5 = k := ⟨l5.toNat, by omega⟩
          have hset := z_set (k := k) hx256 (by omega)
          rw [if_neg z, hk, gd_t ⟨by omega, by omega, by decide, hset.2.2.2⟩, q1, bnd]
          dsimp only
          rw [gd_t (by omega), h0]
      rw [h19]
      exact ⟨w2, v1, rfl, fun l1 => by rw [hTX, text11_0], VF_tr p3 q2.v, p4, Or.inr ⟨f, q3, y3⟩⟩
/-- what settling leaves -/
def SF (i : Int) (ws w' : zW) : Prop := ∃ H, H = min (ws 9 i 2 / 12) (ws 9 i 1 - 1) * 12 + min (ws 9 i 2 % 12) (ws 9 i 0 - 1) ∧ z_fr [9, 34, 38, 39, 40, 41] ws w' ∧ (∀ s, s ≠ 2 → s ≠ 13 → w' 9 i s = ws 9 i s) ∧ w' 9 i 2 = H ∧ (∀ c, w' 34 i c = if c = H then 0 else ws 34 i c) ∧ WO w' i ∧ eqR (w' 39 i) (nbr (ws 9 i 0) (ws 9 i 1) (w' 34 i)) ∧ eqC (w' 38 i) (far (nbr (ws 9 i 0) (ws 9 i 1) (w' 34 i)) H)
def VG (i : Int) (w w' : zW) : Prop := z_fr [5, 9, 32, 33, 34, 35, 36, 37, 38, 39, 40, 41] w w' ∧ ∀ q, q ≠ i → ∀ c, c ∈ [9, 32, 33, 34, 35, 36, 37, 38, 39, 40, 41] → w' c q = w c q
theorem VF.g {w w' : zW} (h : VF i w w') : VG i w w' := by
  obtain ⟨a1, a2, -⟩ := h
  refine ⟨fr_sub a1 (by decide), fun q hq c hc => ?_⟩
  obtain ⟨c1, c2, c3, c4, c5, c6, c7⟩ := a2 q hq
  have h38 := a1 38 (by decide)
  have h39 := a1 39 (by decide)
  have h40 := a1 40 (by decide)
  have h41 := a1 41 (by decide)
  simp only [List.mem_cons, List.not_mem_nil, or_false] at hc
  rcases hc with rfl | rfl | rfl | rfl | rfl | rfl | rfl | rfl | rfl | rfl | rfl
  · exact c1
  · exact c2
  · exact c3
  · exact c4
  · exact c5
  · exact c6
  · exact c7
  · rw [h38]
  · rw [h39]
  · rw [h40]
  · rw [h41]
theorem VG_tr {w w' w'' : zW} (h : VG i w w') (h' : VG i w' w'') : VG i w w'' := ⟨fr_tr h.1 h'.1, fun q hq c hc => (h'.2 q hq c hc).trans (h.2 q hq c hc)⟩
/-- the class reads a wood, the model its text -/
theorem w_read {w wm : zW} (hT : RT w) (hi : 0 ≤ i ∧ i < 4) (hv : MT (w 20 0) (w 5 0 1) wm) (h21 : wm 11 0 21 = 12 + i) (h0 : wm 11 0 18 = 0 ∧ wm 11 0 19 = 0 ∧ wm 11 0 22 = 0 ∧ wm 11 0 24 = 0) (h58 : wm 58 0 (12 + i) = -1 ∧ wm 60 0 (12 + i) = -1) (h62 : wm 62 0 i = 0) (h64 : ∀ p, 864 * i ≤ p → p < 864 * i + 864 → wm 64 0 p = 0) :
    ∃ wc' wm', Reader_readWood (d + 27) i w = some (0, wc') ∧ (∀ l1, TX (d' + 11) l1 wm = M_text_17 (d' + 12) l1 wm') ∧ VG i w wc' ∧ (wc' 5 0 1 = w 5 0 1 ∧ wc' 9 i 0 ≤ 12 ∧ wc' 9 i 1 ≤ 12) ∧ UF i wm wm' ∧ ((∃ x ws, WU (w 20 0) (w 5 0 1) i x ws wm' ∧ SF i ws wc' ∧ (wc' 5 0 2 = 0 ∧ wm' 11 0 19 = 0)) ∨ (∃ f, 0 < f ∧ f ≤ 4000 ∧ wc' 5 0 2 = f ∧ wm' 11 0 19 = f)) := by
  obtain ⟨w1, p1, p2, p3, p4, p5⟩ := s_start (d := d + 25) hT
  have hJR := p5 wm hv h0.2.1 h0.1
  -- the class's wood, cleared
  obtain ⟨w2, c1, c2, c3, c4, c5⟩ : ∃ w2, Wood_clear (d + 26) i w1 = some (0, w2) ∧ z_fr [9, 33, 34, 35, 36, 37] w1 w2 ∧ (∀ q, q ≠ i → w2 9 q = w1 9 q ∧ w2 33 q = w1 33 q ∧ w2 34 q = w1 34 q ∧ w2 35 q = w1 35 q ∧ w2 36 q = w1 36 q ∧ w2 37 q = w1 37 q) ∧ (w2 9 i 0 = 12 ∧ w2 9 i 1 = 12 ∧ w2 9 i 2 = 0 ∧ w2 9 i 3 = 0) ∧ ∀ c, 0 ≤ c → c < 144 → w2 33 i c = 0 ∧ w2 34 i c = 0 ∧ w2 35 i c = 0 ∧ w2 36 i c = 0 ∧ w2 37 i c = 0 := by
    have hfl : ∀ (F : Int → Int) (c : Int), 0 ≤ c → c < 144 → flF F 0 144 0 c = 0 := fun F c c0 c1 => if_pos (by omega)
    have fi : ∀ (k : Nat) (u : zW), (k = 33 ∨ k = 34 ∨ k = 35 ∨ k = 36 ∨ k = 37) → J_fillI (d + 25) k i 0 u = some (0, z_row u k i (flF (u k i) 0 144 0)) := fun k u hk => by
      have hkk : z_kd k = 1 ∧ z_ln k = 144 := by rcases hk with rfl | rfl | rfl | rfl | rfl <;> decide
      have := s_fillI (d := d + 25) (k := k) (i := i) (v := 0) (w := u) hkk.1 (by rw [hkk.2]; decide)
      rw [hkk.2] at this
      exact this
    refine ⟨_, by
      rw [e_Wood_clear, fi 33 _ (by decide), bnd]
      dsimp only
      rw [fi 34 _ (by decide), bnd]
      dsimp only
      rw [fi 35 _ (by decide), bnd]
      dsimp only
      rw [fi 36 _ (by decide), bnd]
      dsimp only
      rw [fi 37 _ (by decide), bnd], ?_, fun q hq => ⟨?_, ?_, ?_, ?_, ?_, ?_⟩, ⟨?_, ?_, ?_, ?_⟩, fun c c0 c1 => ⟨?_, ?_, ?_, ?_, ?_⟩⟩
    · exact fr_tr (fr_tr (fr_tr (fr_tr (fr_tr (fr_tr (fr_tr (fr_tr (fr_up (by decide)) (fr_up (by decide))) (fr_up (by decide))) (fr_up (by decide))) (fr_row (by decide))) (fr_row (by decide))) (fr_row (by decide))) (fr_row (by decide))) (fr_row (by decide))
    · funext y; dsimp only; rw [row_c (by decide), row_c (by decide), row_c (by decide), row_c (by decide), row_c (by decide), up_i hq, up_i hq, up_i hq, up_i hq]
    · funext y; dsimp only; rw [row_c (by decide), row_c (by decide), row_c (by decide), row_c (by decide), row_i hq, up_c (by decide), up_c (by decide), up_c (by decide), up_c (by decide)]
    · funext y; dsimp only; rw [row_c (by decide), row_c (by decide), row_c (by decide), row_i hq, row_c (by decide), up_c (by decide), up_c (by decide), up_c (by decide), up_c (by decide)]
    · funext y; dsimp only; rw [row_c (by decide), row_c (by decide), row_i hq, row_c (by decide), row_c (by decide), up_c (by decide), up_c (by decide), up_c (by decide), up_c (by decide)]
    · funext y; dsimp only; rw [row_c (by decide), row_i hq, row_c (by decide), row_c (by decide), row_c (by decide), up_c (by decide), up_c (by decide), up_c (by decide), up_c (by decide)]
    · funext y; dsimp only; rw [row_i hq, row_c (by decide), row_c (by decide), row_c (by decide), row_c (by decide), up_c (by decide), up_c (by decide), up_c (by decide), up_c (by decide)]
    · dsimp only; rw [row_c (by decide), row_c (by decide), row_c (by decide), row_c (by decide), row_c (by decide), up_s (by decide), up_s (by decide), up_s (by decide), up_h]
    · dsimp only; rw [row_c (by decide), row_c (by decide), row_c (by decide), row_c (by decide), row_c (by decide), up_s (by decide), up_s (by decide), up_h]
    · dsimp only; rw [row_c (by decide), row_c (by decide), row_c (by decide), row_c (by decide), row_c (by decide), up_s (by decide), up_h]
    · dsimp only; rw [row_c (by decide), row_c (by decide), row_c (by decide), row_c (by decide), row_c (by decide), up_h]
    · dsimp only; rw [row_c (by decide), row_c (by decide), row_c (by decide), row_c (by decide), row_h, hfl _ c c0 c1]
    · dsimp only; rw [row_c (by decide), row_c (by decide), row_c (by decide), row_h, hfl _ c c0 c1]
    · dsimp only; rw [row_c (by decide), row_c (by decide), row_h, hfl _ c c0 c1]
    · dsimp only; rw [row_c (by decide), row_h, hfl _ c c0 c1]
    · dsimp only; rw [row_h, hfl _ c c0 c1]
  have e5 : w2 5 = w1 5 := c2 5 (by decide)
  have hJ2 : JR (w 20 0) (w 5 0 1) w2 wm := JR_g hJR (mF_rf [] [] wm) List.not_mem_nil ⟨List.not_mem_nil, List.not_mem_nil, List.not_mem_nil⟩ e5 (c2 20 (by decide))
  have hWU : WU (w 20 0) (w 5 0 1) i 0 w2 wm := by
    refine ⟨hJ2, h21, by decide, ⟨fun q => ?_, fun _ => ⟨h58.1, c4.1, c4.2.1⟩⟩, ⟨fun q => ?_, fun _ => ⟨h58.2, c4.2.2.1⟩⟩, ⟨by rw [h62]; exact c4.2.2.2, by rw [h62]; decide, fun s s0 s1 => by rw [h62] at s1; omega⟩, fun c x0 x1 => ?_⟩
    · rw [Nat.zero_testBit] at q
      exact absurd q (by decide)
    · rw [Nat.zero_testBit] at q
      exact absurd q (by decide)
    · obtain ⟨g1, g2, g3, g4, g5⟩ := c5 c x0 x1
      have hm : ∀ q : Int, 0 ≤ q → q < 6 → md wm i q c = 0 := fun q q0 q1 => by
        unfold md
        exact h64 _ (by omega) (by omega)
      rw [g1, g2, g3, g4, g5, hm 0 (by decide) (by decide), hm 1 (by decide) (by decide), hm 2 (by decide) (by decide), hm 3 (by decide) (by decide), hm 4 (by decide) (by decide)]
      exact ⟨⟨rfl, rfl, rfl, rfl, rfl⟩, Or.inl rfl, Or.inl rfl, by decide, by decide, by decide⟩
  obtain ⟨w3, v3, t1, t2, t3, t4, t5⟩ := w_loop (d := d) (d' := d') hi 25 0 w2 wm 0 (by omega) hWU (Int.le_refl 0) (by decide) h0.2.2.2
  have hrun : Reader_readWood (d + 27) i w = WEnd (d + 26) i w3 := by
    rw [e_Reader_readWood, p1, bnd]
    dsimp only
    rw [c1, bnd]
    exact t1
  have g12 : VG i w w2 := by
    refine VG_tr (w' := w1) ⟨fr_sub p2 (by decide), fun q hq c hc => ?_⟩ ⟨fr_sub c2 (by decide), fun q hq c hc => ?_⟩
    · rw [p2 c (by revert hc; revert c; decide)]
    · obtain ⟨k1, k2, k3, k4, k5, k6⟩ := c3 q hq
      have h32 := c2 32 (by decide)
      have h38 := c2 38 (by decide)
      have h39 := c2 39 (by decide)
      have h40 := c2 40 (by decide)
      have h41 := c2 41 (by decide)
      simp only [List.mem_cons, List.not_mem_nil, or_false] at hc
      rcases hc with rfl | rfl | rfl | rfl | rfl | rfl | rfl | rfl | rfl | rfl | rfl
      · exact k1
      · rw [h32]
      · exact k2
      · exact k3
      · exact k4
      · exact k5
      · exact k6
      · rw [h38]
      · rw [h39]
      · rw [h40]
      · rw [h41]
  have g13 : VG i w w3 := VG_tr g12 t3.g
  have l1 : w3 5 0 1 = w 5 0 1 := by rw [t3.2.2.1, e5, p3 1 (Or.inl rfl)]
  have b0 : w3 9 i 0 ≤ 12 := t3.2.2.2.1 (by rw [c4.1]; decide)
  have b1 : w3 9 i 1 ≤ 12 := t3.2.2.2.2.1 (by rw [c4.2.1]; decide)
  rcases t5 with ⟨x, hW⟩ | ⟨f, hf, hf2⟩
  · have hW' := hW
    obtain ⟨hJ, k21, hx, hCo, hHo, hSr, hLy⟩ := hW
    have hCC : (2 ≤ w3 9 i 0 ∧ w3 9 i 0 ≤ 12) ∧ (2 ≤ w3 9 i 1 ∧ w3 9 i 1 ≤ 12) := by
      cases hb : x.testBit 0
      · have := hCo.2 hb
        omega
      · have := hCo.1 hb
        omega
    have hHH : 0 ≤ w3 9 i 2 ∧ w3 9 i 2 < 144 := by
      cases hb : x.testBit 1
      · have := hHo.2 hb
        omega
      · have := hHo.1 hb
        omega
    obtain ⟨w4, s1, s2, s3, s4, s5, s6, s7, s8, s9⟩ := s_settle (d := d + 24) (i := i) (wc := w3) hCC.1 hCC.2 hHH (fun c c0 c1 => (hLy c c0 c1).2.2.1) rfl
    have hend : WEnd (d + 26) i w3 = some (0, w4) := by
      unfold WEnd
      rw [if_pos hJ.1.2.2.1, s1, bnd]
    have e45 : w4 5 = w3 5 := s2 5 (by decide)
    refine ⟨w4, v3, hrun.trans hend, t2, VG_tr g13 ⟨fr_sub s2 (by decide), fun q hq c hc => ?_⟩, ⟨by rw [e45]; exact l1, by rw [s4 0 (by decide) (by decide)]; exact b0, by rw [s4 1 (by decide) (by decide)]; exact b1⟩, t4, Or.inl ⟨x, w3, hW', ⟨_, rfl, s2, s4, s5, s6, s7, s8, s9⟩, by rw [e45]; exact hJ.1.2.2.1, hJ.2.2.1⟩⟩
    obtain ⟨k1, k2, k3, k4, k5, k6⟩ := s3 q hq
    have h32 := s2 32 (by decide)
    have h33 := s2 33 (by decide)
    have h35 := s2 35 (by decide)
    have h36 := s2 36 (by decide)
    have h37 := s2 37 (by decide)
    simp only [List.mem_cons, List.not_mem_nil, or_false] at hc
    rcases hc with rfl | rfl | rfl | rfl | rfl | rfl | rfl | rfl | rfl | rfl | rfl
    · exact k1
    · rw [h32]
    · rw [h33]
    · exact k2
    · rw [h35]
    · rw [h36]
    · rw [h37]
    · exact k3
    · exact k4
    · exact k5
    · exact k6
  · have hne : ¬ w3 5 0 2 = 0 := by
      have := hf.1
      have := hf.2.2.1
      omega
    have hend : WEnd (d + 26) i w3 = some (0, w3) := by
      unfold WEnd
      rw [if_neg hne]
    exact ⟨w3, v3, hrun.trans hend, t2, g13, ⟨l1, b0, b1⟩, t4, Or.inr ⟨f, hf.2.2.1, hf.2.2.2, hf.1, hf2⟩⟩
/-- a wood as both have it then -/
theorem RW_mk {x : Nat} {ws w' vm v' W : zW} (hi : 0 ≤ i ∧ i < 4) (hW : WU T n i x ws vm) (hS : SF i ws w') (hlay : ∀ (C R X Y : Int), ((vm 58 0 (12 + i) = -1 ∧ C = 12 ∧ R = 12) ∨ (vm 58 0 (12 + i) = C ∧ vm 59 0 (12 + i) = R ∧ (2 ≤ C ∧ C ≤ 12) ∧ 2 ≤ R ∧ R ≤ 12)) → ((vm 60 0 (12 + i) = -1 ∧ X = 0 ∧ Y = 0) ∨ (vm 60 0 (12 + i) = X ∧ vm 61 0 (12 + i) = Y ∧ (0 ≤ X ∧ X ≤ 11) ∧ 0 ≤ Y ∧ Y ≤ 11)) → (v' 58 0 (12 + i) = C ∧ v' 59 0 (12 + i) = R ∧ v' 60 0 (12 + i) = min X (C - 1) ∧ v' 61 0 (12 + i) = min Y (R - 1)) ∧ (∀ c, 0 ≤ c → c < 144 → md v' i 1 c = if c = 12 * min Y (R - 1) + min X (C - 1) then 0 else md vm i 1 c) ∧ (∀ q c, (q = 0 ∨ q = 2 ∨ q = 3 ∨ q = 4) → 0 ≤ c → c < 144 → md v' i q c = md vm i q c) ∧ eqC (md v' i 5) (far (nbr C R (md v' i 1)) (12 * min Y (R - 1) + min X (C - 1)))) (h62 : v' 62 = vm 62) (h63 : v' 63 = vm 63) (hWc : ∀ c, c ∈ [9, 32, 33, 34, 35, 36, 37, 38, 39, 40, 41] → W c = w' c) (hWm : ∀ c, c ∈ [58, 59, 60, 61, 62, 63, 64] → W c = v' c) : RW W i := by
  obtain ⟨hJ, k21, hx, hCo, hHo, hSr, hLy⟩ := hW
  obtain ⟨H, hH, s2, s4, s5, s6, s7, s8, s9⟩ := hS
  obtain ⟨C, R, X, Y, hc1, hc2, hCR, hXY, hXb⟩ : ∃ C R X Y, ((vm 58 0 (12 + i) = -1 ∧ C = 12 ∧ R = 12) ∨ (vm 58 0 (12 + i) = C ∧ vm 59 0 (12 + i) = R ∧ (2 ≤ C ∧ C ≤ 12) ∧ 2 ≤ R ∧ R ≤ 12)) ∧ ((vm 60 0 (12 + i) = -1 ∧ X = 0 ∧ Y = 0) ∨ (vm 60 0 (12 + i) = X ∧ vm 61 0 (12 + i) = Y ∧ (0 ≤ X ∧ X ≤ 11) ∧ 0 ≤ Y ∧ Y ≤ 11)) ∧ (ws 9 i 0 = C ∧ ws 9 i 1 = R ∧ (2 ≤ C ∧ C ≤ 12) ∧ 2 ≤ R ∧ R ≤ 12) ∧ ws 9 i 2 = Y * 12 + X ∧ (0 ≤ X ∧ X ≤ 11) ∧ 0 ≤ Y ∧ Y ≤ 11 := by
    cases hb : x.testBit 0 <;> cases hb' : x.testBit 1
    · have h1 := hCo.2 hb
      have h2 := hHo.2 hb'
      exact ⟨12, 12, 0, 0, Or.inl ⟨h1.1, rfl, rfl⟩, Or.inl ⟨h2.1, rfl, rfl⟩, by omega, by omega, by omega⟩
    · have h1 := hCo.2 hb
      obtain ⟨g1, g2, g3⟩ := hHo.1 hb'
      exact ⟨12, 12, _, _, Or.inl ⟨h1.1, rfl, rfl⟩, Or.inr ⟨rfl, rfl, g1, g2⟩, by omega, g3, g1, g2⟩
    · obtain ⟨g1, g2, g3, g4⟩ := hCo.1 hb
      have h2 := hHo.2 hb'
      exact ⟨_, _, 0, 0, Or.inr ⟨g3, g4, g1, g2⟩, Or.inl ⟨h2.1, rfl, rfl⟩, ⟨rfl, rfl, g1, g2⟩, by omega, by omega⟩
    · obtain ⟨g1, g2, g3, g4⟩ := hCo.1 hb
      obtain ⟨k1, k2, k3⟩ := hHo.1 hb'
      exact ⟨_, _, _, _, Or.inr ⟨g3, g4, g1, g2⟩, Or.inr ⟨rfl, rfl, k1, k2⟩, ⟨rfl, rfl, g1, g2⟩, k3, k1, k2⟩
  obtain ⟨⟨m58, m59, m60, m61⟩, m1, mq, m5⟩ := hlay C R X Y hc1 hc2
  obtain ⟨e0, e1, bC, bR⟩ := hCR
  have hHv : H = 12 * min Y (R - 1) + min X (C - 1) := by
    rw [hH, hXY, e0, e1]
    omega
  have hmdW : ∀ q, md W i q = md v' i q := fun q => by
    unfold md
    rw [hWm 64 (by decide)]
  have w34W : W 34 i = w' 34 i := by rw [hWc 34 (by decide)]
  have wall : eqC (w' 34 i) (md v' i 1) := fun c c0 c1 => by
    rw [s6, m1 c c0 c1, hHv]
    by_cases z : c = 12 * min Y (R - 1) + min X (C - 1)
    · rw [if_pos z, if_pos z]
    · rw [if_neg z, if_neg z]
      exact (hLy c c0 c1).1.2.1
  have hH0 : 0 ≤ H ∧ H < 144 := by omega
  have w9 : ∀ s, s ≠ 2 → s ≠ 13 → W 9 i s = ws 9 i s := fun s a b => by
    rw [hWc 9 (by decide)]
    exact s4 s a b
  have W90 : W 9 i 0 = C := (w9 0 (by decide) (by decide)).trans e0
  have W91 : W 9 i 1 = R := (w9 1 (by decide) (by decide)).trans e1
  have W92 : W 9 i 2 = H := by rw [hWc 9 (by decide)]; exact s5
  have W93 : W 9 i 3 = ws 9 i 3 := w9 3 (by decide) (by decide)
  have W58 : W 58 0 (12 + i) = C := by rw [hWm 58 (by decide)]; exact m58
  have W59 : W 59 0 (12 + i) = R := by rw [hWm 59 (by decide)]; exact m59
  have W60 : W 60 0 (12 + i) = min X (C - 1) := by rw [hWm 60 (by decide)]; exact m60
  have W61 : W 61 0 (12 + i) = min Y (R - 1) := by rw [hWm 61 (by decide)]; exact m61
  have W62 : W 62 = vm 62 := (hWm 62 (by decide)).trans h62
  have W63 : W 63 = vm 63 := (hWm 63 (by decide)).trans h63
  have lk : ∀ (k : Nat) (c : Int), (k = 32 ∨ k = 33 ∨ k = 35 ∨ k = 36 ∨ k = 37) → W k i c = ws k i c := fun k c hk => by
    rw [hWc k (by rcases hk with rfl | rfl | rfl | rfl | rfl <;> decide), s2 k (by rcases hk with rfl | rfl | rfl | rfl | rfl <;> decide)]
  obtain ⟨r1, r2, r3⟩ := hSr
  have W34 : ∀ c, 0 ≤ c → c < 144 → isB (W 34 i c) := fun c c0 c1 => by
    rw [w34W, s6]
    by_cases z : c = H
    · rw [if_pos z]; exact Or.inl rfl
    · rw [if_neg z]; exact (hLy c c0 c1).2.2.1
  unfold RW
  rw [W90, W91, W92, W93, W58, W59, W60, W61, W62, W63]
  refine ⟨⟨bC, bR⟩, ⟨rfl, rfl⟩, ⟨by omega, by omega, hHv⟩, ⟨r1, r2⟩, fun c c0 c1 => ?_, fun s s0 s1 => ?_, ?_, ?_, ?_⟩
  · obtain ⟨⟨q0, q1, q2, q3, q4⟩, i0, i1, i2, i3, i4⟩ := hLy c c0 c1
    rw [hmdW, hmdW, hmdW, hmdW, hmdW, hmdW, lk 33 c (by decide), lk 35 c (by decide), lk 36 c (by decide), lk 37 c (by decide), mq 0 c (by decide) c0 c1, mq 2 c (by decide) c0 c1, mq 3 c (by decide) c0 c1, mq 4 c (by decide) c0 c1]
    refine ⟨⟨q0, ?_, q2, q3, q4, ?_⟩, i0, W34 c c0 c1, i2, i3, i4⟩
    · rw [w34W]; exact wall c c0 c1
    · rw [hWc 38 (by decide), s9 c c0 c1, m5 c c0 c1, e0, e1, hHv]
      exact far_eqR (nbr_bd bC.2 bR.2) (fun k _ _ => nbr_eq bC.2 bR.2 wall k) (by omega) c c0 c1
  · obtain ⟨g1, g2, g3, g4⟩ := r3 s s0 s1
    exact ⟨g1, g2, g3, fun c hc => by rw [lk 32 _ (by decide)]; exact g4 c hc⟩
  · unfold WO opw at *
    rw [hWc 9 (by decide), hWc 34 (by decide), hWc 40 (by decide)]
    exact s7
  · intro k k0 k1
    rw [hWc 39 (by decide), w34W, s8 k k0 k1, e0, e1]
  · rw [w34W, s6, if_pos rfl]
end
