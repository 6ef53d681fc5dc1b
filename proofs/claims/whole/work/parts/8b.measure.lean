theorem up_row_ne {w : zW} {c c' : Nat} {i i' s v : Int} {F : Int → Int} (h : c ≠ c') : z_up (z_row w c' i' F) c i s v = z_row (z_up w c i s v) c' i' F := by
  funext x y z
  unfold z_up z_row
  by_cases h1 : x = c ∧ z = s ∧ y = i
  · rw [if_pos h1, if_neg (fun q => h (h1.1.symm.trans q.1))]
    dsimp only
    rw [if_pos h1]
  · rw [if_neg h1]
    by_cases h2 : x = c' ∧ y = i'
    · rw [if_pos h2, if_pos h2]
    · rw [if_neg h2, if_neg h2]
      dsimp only
      rw [if_neg h1]
def WS (w : zW) (k2 : Nat) (a2 : Int) (k3 : Nat) (i3 : Int) (s : bS) : zW := z_row (z_row w k2 a2 s.1) k3 i3 s.2.1
theorem WS_O {w : zW} {k2 k3 : Nat} {a2 i3 : Int} {s : bS} (h : k2 ≠ k3) (c : Int) : WS w k2 a2 k3 i3 s k2 a2 c = s.1 c := (row_c h).trans (row_h c)
theorem WS_Q {w : zW} {k2 k3 : Nat} {a2 i3 : Int} {s : bS} (c : Int) : WS w k2 a2 k3 i3 s k3 i3 c = s.2.1 c := row_h c
theorem WS_o {w : zW} {k2 k3 : Nat} {a2 i3 : Int} {s : bS} {c : Nat} (h1 : c ≠ k2) (h2 : c ≠ k3) : WS w k2 a2 k3 i3 s c = w c := by
  funext x y
  exact (row_c h2).trans (row_c h1)
theorem WS_up {w : zW} {k2 k3 : Nat} {a2 i3 c v q : Int} {s : bS} (h : k2 ≠ k3) : z_up (z_up (WS w k2 a2 k3 i3 s) k2 a2 c v) k3 i3 s.2.2 c = WS w k2 a2 k3 i3 (upF s.1 c v, upF s.2.1 s.2.2 c, q) := by
  unfold WS
  rw [up_row_ne h, row_up, row_up]
abbrev isM (k2 : Nat) : Prop := k2 = 38 ∨ k2 = 47
theorem isM_f {k2 : Nat} (h : isM k2) : z_kd k2 = 1 ∧ z_ln k2 = 144 ∧ k2 ≠ 41 ∧ 39 ≠ k2 ∧ 9 ≠ k2 ∧ 34 ≠ k2 := by
  rcases h with rfl | rfl <;> decide
theorem s_measure_4 {d k2 : Nat} {i a2 k : Int} {cell : Int} {w : zW} (hk2 : isM k2) (hn : nxB (w 39 i)) (hc : 0 ≤ cell ∧ cell < 144) (hk : 0 ≤ k ∧ k < 144) : ∀ (m : Nat) (v : Int) (s : bS), 0 ≤ v → v + m = 4 → bI s → 0 ≤ s.1 cell →
    Wood_measure_4 d i k2 a2 s.2.2 k cell v (WS w k2 a2 41 i s) = Wood_measure_1 d i k2 a2 (b4 (w 39 i) cell m v s).2.2 (k + 1) (WS w k2 a2 41 i (b4 (w 39 i) cell m v s)) := by
  obtain ⟨f1, f2, f3, f4, f5, f6⟩ := isM_f hk2
  intro m
  induction m with
  | zero =>
    intro v s v0 hv hI hO
    rw [e_Wood_measure_4, if_pos (by omega), gd_t (by omega)]
    rfl
  | succ m ih =>
    intro v s v0 hv hI hO
    obtain ⟨g1, g2, g3⟩ := bw_I hn (v := v) hc (by omega) hO hI
    have hb := hn (4 * cell + v) (by omega) (by omega)
    have ih' := ih (v + 1) (bw (w 39 i) cell v s) (by omega) (by omega) g1 g2
    have e39 : WS w k2 a2 41 i s 39 i = w 39 i := by rw [WS_o f4 (by decide)]
    show _ = Wood_measure_1 d i k2 a2 (b4 (w 39 i) cell m (v + 1) (bw (w 39 i) cell v s)).2.2 (k + 1) (WS w k2 a2 41 i (b4 (w 39 i) cell m (v + 1) (bw (w 39 i) cell v s)))
    rw [← ih', e_Wood_measure_4, if_neg (by omega), gd_t (by omega), gd_t (by omega), gd_t (by omega), Int.mul_comm cell 4, e39]
    unfold bw
    by_cases z1 : w 39 i (4 * cell + v) = -1
    · rw [if_pos z1, gd_t (by omega), if_neg (fun q => q.1 z1)]
    · rw [if_neg z1]
      generalize hcc : w 39 i (4 * cell + v) = c at *
      rw [gd_t ⟨f1, by omega, by omega⟩, WS_O f3]
      by_cases z2 : s.1 c = -1
      · have hlt := cn_lt144 (O := s.1) (a := c) (by omega) z2
        have hcell := hI.1 cell hc.1 hc.2
        have hq := hI.2.1
        rw [if_pos z2, if_neg (by omega), gd_t ⟨f1, by omega, by omega⟩, WS_O f3, gd_t (by omega), gd_t ⟨f1, by omega, by omega⟩, gd_t (by have := hI.2.2.1; omega), gd_t (by omega), gd_t (by omega), if_pos ⟨z1, z2⟩, WS_up f3]
      · rw [if_neg z2, gd_t (by omega), if_neg (fun q => z2 q.2)]
theorem s_measure_1 {d k2 : Nat} {i a2 : Int} {w : zW} (hk2 : isM k2) (hn : nxB (w 39 i)) : ∀ (f : Nat) (k : Int) (s : bS), 0 ≤ k → k + f = 144 → bI s → Wood_measure_1 d i k2 a2 s.2.2 k (WS w k2 a2 41 i s) = some (0, WS w k2 a2 41 i (bL (w 39 i) f k s)) := by
  intro f
  induction f with
  | zero =>
    intro k s k0 hk hI
    rw [e_Wood_measure_1]
    by_cases z : s.2.2 ≤ k
    · rw [if_pos z]; rfl
    · rw [if_neg z, if_pos (by omega)]; rfl
  | succ f ih =>
    intro k s k0 hk hI
    have hs : bL (w 39 i) (f + 1) k s = if s.2.2 ≤ k then s else bL (w 39 i) f (k + 1) (b4 (w 39 i) (s.2.1 k) 4 0 s) := rfl
    rw [hs, e_Wood_measure_1]
    by_cases z : s.2.2 ≤ k
    · rw [if_pos z, if_pos z]
    · have hq := hI.2.2.2 k k0 (by omega)
      rw [if_neg z, if_neg z, if_neg (by omega), gd_t (by omega), WS_Q, s_measure_4 (d := d) hk2 hn hq.1 (by omega) 4 0 s (by omega) (by omega) hI hq.2]
      exact ih (k + 1) _ (by omega) (by omega) (b4_I hn hq.1 4 0 s (by omega) (by omega) hq.2 hI).1
/-- steps from a cell, to each -/
def far (nx : Int → Int) (a : Int) : Int → Int := (bL nx 144 0 (bB (fun _ => -1) (fun _ => 0) a)).1
theorem s_measure {d k2 : Nat} {i a2 a : Int} {w : zW} (hk2 : isM k2) (hn : nxB (w 39 i)) (ha : 0 ≤ a ∧ a < 144) : ∃ w', Wood_measure (d + 1) i a k2 a2 w = some (0, w') ∧ z_fr [41, k2] w w' ∧ (∀ q, q ≠ a2 → w' k2 q = w k2 q) ∧ (∀ q, q ≠ i → w' 41 q = w 41 q) ∧ eqC (w' k2 a2) (far (w 39 i) a) := by
  obtain ⟨f1, f2, f3, f4, f5, f6⟩ := isM_f hk2
  have hfl : ∀ c, 0 ≤ c → c < 144 → flF (w k2 a2) 0 (z_ln k2) (-1) c = -1 := fun c c0 c1 => if_pos (by rw [f2]; omega)
  have hst : z_up (z_up (z_row w k2 a2 (flF (w k2 a2) 0 (z_ln k2) (-1))) k2 a2 a 0) 41 i 0 a = WS w k2 a2 41 i (bB (flF (w k2 a2) 0 (z_ln k2) (-1)) (w 41 i) a) := by
    have e41 : ∀ F : Int → Int, z_row w k2 a2 F 41 i = w 41 i := fun F => funext fun _ => row_c (fun q => f3 q.symm)
    unfold WS bB
    rw [row_up, up_row, e41]
  have h1 := s_measure_1 (d := d + 1) (a2 := a2) (w := w) hk2 hn 144 0 (bB (flF (w k2 a2) 0 (z_ln k2) (-1)) (w 41 i) a) (by omega) (by omega) (bB_I ha hfl)
  have hE := bL_E hn (fun _ _ _ => rfl) 144 0 (bB (flF (w k2 a2) 0 (z_ln k2) (-1)) (w 41 i) a) (bB (fun _ => -1) (fun _ => 0) a) (by omega) (bB_I ha hfl) (⟨fun c c0 c1 => by
    show upF (flF (w k2 a2) 0 (z_ln k2) (-1)) a 0 c = upF (fun _ => -1) a 0 c
    unfold upF
    by_cases z : c = a
    · rw [if_pos z, if_pos z]
    · rw [if_neg z, if_neg z, hfl c c0 c1], fun j j0 j1 => by
    have j1' : j < 1 := j1
    show upF (w 41 i) 0 a j = upF (fun _ => 0) 0 a j
    rw [show j = 0 by omega, upF_h, upF_h], rfl⟩)
  refine ⟨WS w k2 a2 41 i (bL (w 39 i) 144 0 (bB (flF (w k2 a2) 0 (z_ln k2) (-1)) (w 41 i) a)), ?_, ?_, fun q hq => ?_, fun q hq => ?_, fun c c0 c1 => ?_⟩
  · rw [e_Wood_measure, s_fillI f1 (by rw [f2]; omega), bnd]
    dsimp only
    rw [gd_t ⟨f1, by omega, by omega⟩, gd_t (by decide), hst]
    exact h1
  · intro c hc
    exact WS_o (fun q => hc (by rw [q]; exact List.mem_cons_of_mem _ List.mem_cons_self)) (fun q => hc (by rw [q]; exact List.mem_cons_self))
  · funext s
    unfold WS
    rw [row_c f3, row_i hq]
  · funext s
    unfold WS
    rw [row_i hq, row_c (fun q => f3 q.symm)]
  · rw [WS_O f3]
    exact hE.1 c c0 c1
/-! the model's -/
def MW (w : zW) (i C R : Int) (nx : Int → Int) : Prop := (0 ≤ i ∧ i < 4) ∧ w 58 0 (12 + i) = C ∧ (0 ≤ C ∧ C ≤ 12) ∧ w 59 0 (12 + i) = R ∧ (0 ≤ R ∧ R ≤ 12) ∧ nx = nbr C R (md w i 1)
theorem MW_fr {w w' : zW} {i C R : Int} {nx : Int → Int} (h : MW w i C R nx) (h58 : w' 58 = w 58) (h59 : w' 59 = w 59) (h64 : w' 64 = w 64) : MW w' i C R nx := by
  unfold MW md at *
  rw [h58, h59, h64]
  exact h
theorem m_besideW_10 {d : Nat} {i C R x y y1 : Int} {nx : Int → Int} {w : zW} (h : MW w i C R nx) (hy : 0 ≤ y ∧ y < 12) (hy1 : -1 ≤ y1 ∧ y1 ≤ 1) (hx : -1 ≤ x ∧ x ≤ 12) : M_beside_10 (d + 2) i x y y1 w = some (openAt C R (md w i 1) x (y + y1), w) := by
  obtain ⟨h2, h5, h6, h7, h8, -⟩ := h
  rw [e_M_beside_10, gd_t (by omega), m_isInWood h2 (by omega) (by omega), bnd]
  dsimp only
  rw [h5, h7]
  unfold openAt
  by_cases q : 0 ≤ x ∧ 0 ≤ y + y1 ∧ x < C ∧ y + y1 < R
  · rw [if_pos q, if_neg (by decide), gd_t (by omega), gd_t (by omega), m_at h2 (by decide) (by omega), bnd]
    dsimp only
    have hm : w 64 0 (144 * (6 * i + 1) + (12 * (y + y1) + x)) = md w i 1 ((y + y1) * 12 + x) := by
      unfold md
      rw [Int.mul_comm 12 (y + y1)]
    rw [hm]
    by_cases z : md w i 1 ((y + y1) * 12 + x) = 1
    · rw [if_pos z, if_neg (fun k => k.2.2.2.2 z)]
    · rw [if_neg z, if_pos ⟨q.1, q.2.1, q.2.2.1, q.2.2.2, z⟩, gd_t (by omega), gd_t (by omega), Int.mul_comm 12 (y + y1)]
  · rw [if_neg q, if_pos rfl, if_neg (fun k => q ⟨k.1, k.2.1, k.2.2.1, k.2.2.2.1⟩)]
theorem m_besideW {d : Nat} {i C R c v : Int} {nx : Int → Int} {w : zW} (h : MW w i C R nx) (hc : 0 ≤ c ∧ c < 144) (hv : 0 ≤ v ∧ v < 4) : M_beside (d + 2) i c v w = some (nx (4 * c + v), w) := by
  have hnx : nx = nbr C R (md w i 1) := h.2.2.2.2.2
  rw [e_M_beside, gd_t (by omega), hnx]
  unfold nbr
  rw [show (4 * c + v) % 4 = v by omega, show (4 * c + v) / 4 = c by omega]
  have : v = 0 ∨ v = 1 ∨ v = 2 ∨ v = 3 := by omega
  rcases this with rfl | rfl | rfl | rfl
  · rw [if_neg (by decide), if_neg (by decide), e_M_beside_5, gd_t (by omega), gd_t (by omega), if_neg (by decide), if_pos rfl, m_besideW_10 h (by omega) (by omega) (by omega), if_pos rfl, Int.add_zero]
    rfl
  · rw [if_pos rfl, e_M_beside_5, gd_t (by omega), gd_t (by omega), if_neg (by decide), if_neg (by decide), m_besideW_10 h (by omega) (by omega) (by omega), if_neg (by decide), if_pos rfl, Int.add_zero]
  · rw [if_neg (by decide), if_neg (by decide), e_M_beside_5, gd_t (by omega), gd_t (by omega), if_pos rfl, m_besideW_10 h (by omega) (by omega) (by omega), if_neg (by decide), if_neg (by decide), if_pos rfl, Int.add_zero]
  · rw [if_neg (by decide), if_pos rfl, e_M_beside_5, gd_t (by omega), gd_t (by omega), if_neg (by decide), if_neg (by decide), m_besideW_10 h (by omega) (by omega) (by omega), if_neg (by decide), if_neg (by decide), if_neg (by decide), Int.add_zero]
    rfl
theorem MW.nxB {w : zW} {i C R : Int} {nx : Int → Int} (h : MW w i C R nx) : nxB nx := by
  have hb := nbr_bd (C := C) (R := R) (wall := md w i 1) h.2.2.1.2 h.2.2.2.2.1.2
  rw [← h.2.2.2.2.2] at hb
  exact hb
theorem MW_ws {w : zW} {i C R : Int} {nx : Int → Int} {s : bS} (h : MW w i C R nx) : MW (WS w 67 0 66 0 s) i C R nx := MW_fr h (WS_o (by decide) (by decide)) (WS_o (by decide) (by decide)) (WS_o (by decide) (by decide))
theorem m_spreads_6 {d : Nat} {i C R k : Int} {nx : Int → Int} {w : zW} (h : MW w i C R nx) (hk : 0 ≤ k ∧ k < 144) : ∀ (m : Nat) (v : Int) (s : bS), 0 ≤ v → v + m = 4 → bI s → k < s.2.2 →
    M_spreads_6 (d + 3) i s.2.2 k v (WS w 67 0 66 0 s) = M_spreads_4 (d + 3) i (b4 nx (s.2.1 k) m v s).2.2 (k + 1) (WS w 67 0 66 0 (b4 nx (s.2.1 k) m v s)) := by
  have hn := h.nxB
  intro m
  induction m with
  | zero =>
    intro v s v0 hv hI hks
    rw [e_M_spreads_6, if_pos (by omega), gd_t (by omega)]
    rfl
  | succ m ih =>
    intro v s v0 hv hI hks
    have hq := hI.2.2.2 k hk.1 hks
    obtain ⟨g1, g2, g3⟩ := bw_I hn (v := v) hq.1 (by omega) hq.2 hI
    have hb := hn (4 * s.2.1 k + v) (by omega) (by omega)
    have ih' := ih (v + 1) (bw nx (s.2.1 k) v s) (by omega) (by omega) g1 (by omega)
    have hQk : (bw nx (s.2.1 k) v s).2.1 k = s.2.1 k := by
      unfold bw
      by_cases z : nx (4 * s.2.1 k + v) ≠ -1 ∧ s.1 (nx (4 * s.2.1 k + v)) = -1
      · rw [if_pos z]
        exact upF_o (by omega)
      · rw [if_neg z]
    rw [hQk] at ih'
    show _ = M_spreads_4 (d + 3) i (b4 nx (s.2.1 k) m (v + 1) (bw nx (s.2.1 k) v s)).2.2 (k + 1) (WS w 67 0 66 0 (b4 nx (s.2.1 k) m (v + 1) (bw nx (s.2.1 k) v s)))
    rw [← ih', e_M_spreads_6, if_neg (by omega), gd_t (by omega), WS_Q, m_besideW (d := d) (MW_ws h) hq.1 (by omega), bnd]
    dsimp only
    unfold bw
    by_cases z1 : nx (4 * s.2.1 k + v) = -1
    · rw [if_pos (by omega), gd_t (by omega), if_neg (fun q => q.1 z1)]
    · rw [if_neg (by omega)]
      generalize hcc : nx (4 * s.2.1 k + v) = c at *
      have hcb := hI.1 c (by omega) (by omega)
      have eO : ∀ x, WS w 67 0 66 0 s 67 0 x = s.1 x := fun x => WS_O (by decide) x
      have eQ : ∀ x, WS w 67 0 66 0 s 66 0 x = s.2.1 x := fun x => WS_Q x
      rw [gd_t (by omega)]
      simp only [eO, eQ]
      by_cases z2 : s.1 c = -1
      · have hlt := cn_lt144 (O := s.1) (a := c) (by omega) z2
        have hcell := hI.1 (s.2.1 k) hq.1.1 hq.1.2
        have hqq := hI.2.1
        rw [if_pos (by omega), gd_t (by omega), gd_t hq.1, gd_t (by omega), gd_t (by omega), gd_t (by have := hI.2.2.1; omega), gd_t (by omega), gd_t (by omega), if_pos ⟨z1, z2⟩, WS_up (by decide)]
      · rw [if_neg (by omega), gd_t (by omega), if_neg (fun q => z2 q.2)]
theorem m_spreads_4 {d : Nat} {i C R : Int} {nx : Int → Int} {w : zW} (h : MW w i C R nx) : ∀ (f : Nat) (k : Int) (s : bS), 0 ≤ k → k + f = 144 → bI s → M_spreads_4 (d + 3) i s.2.2 k (WS w 67 0 66 0 s) = some (0, WS w 67 0 66 0 (bL nx f k s)) := by
  have hn := h.nxB
  intro f
  induction f with
  | zero =>
    intro k s k0 hk hI
    have h1 := hI.2.1
    have h2 := cn_le (P := nv s.1) (n := 144)
    rw [e_M_spreads_4, if_pos (by omega)]
    rfl
  | succ f ih =>
    intro k s k0 hk hI
    have hs : bL nx (f + 1) k s = if s.2.2 ≤ k then s else bL nx f (k + 1) (b4 nx (s.2.1 k) 4 0 s) := rfl
    rw [hs, e_M_spreads_4]
    by_cases z : s.2.2 ≤ k
    · rw [if_pos z, if_pos z]
    · have hq := hI.2.2.2 k k0 (by omega)
      rw [if_neg z, if_neg z, m_spreads_6 (d := d) h (by omega) 4 0 s (by omega) (by omega) hI (by omega)]
      exact ih (k + 1) _ (by omega) (by omega) (b4_I hn hq.1 4 0 s (by omega) (by omega) hq.2 hI).1
theorem m_spreads_1 {d : Nat} {i a : Int} {w : zW} (ha : 0 ≤ a ∧ a < 144) : ∀ m n : Nat, n + m = 144 → M_spreads_1 d i a n (z_row w 67 0 (flF (w 67 0) 0 n (-1))) = M_spreads_4 d i 1 0 (WS w 67 0 66 0 (bB (flF (w 67 0) 0 144 (-1)) (w 66 0) a)) := by
  intro m
  induction m with
  | zero =>
    intro n hn
    rw [e_M_spreads_1, if_pos (by omega), gd_t ha, gd_t (by decide), show (n : Int) = 144 by omega]
    have e66 : ∀ F : Int → Int, z_row w 67 0 F 66 0 = w 66 0 := fun F => funext fun _ => row_c (by decide)
    have : z_up (z_up (z_row w 67 0 (flF (w 67 0) 0 144 (-1))) 67 0 a 0) 66 0 0 a = WS w 67 0 66 0 (bB (flF (w 67 0) 0 144 (-1)) (w 66 0) a) := by
      unfold WS bB
      rw [row_up, up_row, e66]
    rw [this]
  | succ m ih =>
    intro n hn
    rw [e_M_spreads_1, if_neg (by omega), gd_t (by omega), gd_t (by omega), row_up, flF_up (by omega)]
    exact ih (n + 1) (by omega)
theorem m_spreads {d : Nat} {i C R a : Int} {nx : Int → Int} {w : zW} (h : MW w i C R nx) (ha : 0 ≤ a ∧ a < 144) : ∃ w', M_spreads (d + 3) i a w = some (0, w') ∧ mF [66, 67] [] w w' ∧ eqC (w' 67 0) (far nx a) := by
  have hn := h.nxB
  have hfl : ∀ c, 0 ≤ c → c < 144 → flF (w 67 0) 0 144 (-1) c = -1 := fun c c0 c1 => if_pos (by omega)
  have h1 := m_spreads_1 (d := d + 3) (i := i) (w := w) ha 144 0 rfl
  rw [show ((0 : Nat) : Int) = 0 from rfl, flF_0, row_self] at h1
  have h2 := m_spreads_4 (d := d) h 144 0 (bB (flF (w 67 0) 0 144 (-1)) (w 66 0) a) (by omega) (by omega) (bB_I ha hfl)
  have hE := bL_E hn (fun _ _ _ => rfl) 144 0 (bB (flF (w 67 0) 0 144 (-1)) (w 66 0) a) (bB (fun _ => -1) (fun _ => 0) a) (by omega) (bB_I ha hfl) (⟨fun c c0 c1 => by
    show upF (flF (w 67 0) 0 144 (-1)) a 0 c = upF (fun _ => -1) a 0 c
    unfold upF
    by_cases z : c = a
    · rw [if_pos z, if_pos z]
    · rw [if_neg z, if_neg z, hfl c c0 c1], fun j j0 j1 => by
    have j1' : j < 1 := j1
    show upF (w 66 0) 0 a j = upF (fun _ => 0) 0 a j
    rw [show j = 0 by omega, upF_h, upF_h], rfl⟩)
  refine ⟨WS w 67 0 66 0 (bL nx 144 0 (bB (flF (w 67 0) 0 144 (-1)) (w 66 0) a)), ?_, mF_tr (mF_row (by decide) (by decide)) (mF_row (by decide) (by decide)), fun c c0 c1 => ?_⟩
  · rw [e_M_spreads, h1]
    exact h2
  · rw [WS_O (by decide)]
    exact hE.1 c c0 c1
