/-! THE TAPE: feed, end -/
theorem z_and_255i (x : Int) : z_and x 255 = x % 256 := by
  have hn : (Int32.ofInt x &&& Int32.ofInt 255).toBitVec.toNat = (x % 256).toNat := by
    have h255 : (Int32.ofInt 255).toBitVec.toNat = 255 := by decide
    rw [Int32.toBitVec_and, BitVec.toNat_and, h255, Int32.toBitVec_ofInt, BitVec.toNat_ofInt]
    have h2 : ∀ n : Nat, n &&& 255 = n % 256 := fun n => Nat.and_two_pow_sub_one_eq_mod n 8
    rw [h2]
    show (x % 4294967296).toNat % 256 = (x % 256).toNat
    omega
  unfold z_and
  rw [bv_int (by rw [hn]; omega), hn]
  omega
def byt (a j : Int) : Int := if j = 0 then a / 16777216 % 256 else if j = 1 then a / 65536 % 256 else if j = 2 then a / 256 % 256 else a % 256
theorem byt_bd (a j : Int) : 0 ≤ byt a j ∧ byt a j ≤ 255 := by
  unfold byt
  split
  · omega
  · split
    · omega
    · split <;> omega
theorem s_put {d : Nat} {a n : Int} {w : zW} (hn : w 5 0 1 = n) (h0 : 0 ≤ n ∧ n + 4 ≤ 400) : ∃ w', Reader_put d a w = some (0, w') ∧ z_fr [5, 20] w w' ∧ w' 5 0 1 = n + 4 ∧ (∀ k, k < n → w' 20 0 k = w 20 0 k) ∧ ∀ j, 0 ≤ j → j < 4 → w' 20 0 (n + j) = byt a j := by
  have st : ∀ (w1 : zW) (m s v : Int), w1 5 0 1 = m → 0 ≤ m → m < 400 → 0 ≤ s → s < 32 → z_and (a / 2 ^ s.toNat) 255 = v → Reader_put_1 d a s w1 = Reader_put_1 d a (s + -8) (z_up (z_up w1 20 0 m v) 5 0 1 (m + 1)) := fun w1 m s v h1 h2 h3 h4 h5 h6 => by
    rw [e_Reader_put_1, if_neg (by omega), h1, if_neg (by omega), gd_t (by omega), gd_t (by omega), gd_t (by omega), gd_t (by omega), h6]
  have c0 : z_and (a / 2 ^ (24 : Int).toNat) 255 = a / 16777216 % 256 := z_and_255i _
  have c1 : z_and (a / 2 ^ (16 : Int).toNat) 255 = a / 65536 % 256 := z_and_255i _
  have c2 : z_and (a / 2 ^ (8 : Int).toNat) 255 = a / 256 % 256 := z_and_255i _
  have c3 : z_and (a / 2 ^ (0 : Int).toNat) 255 = a % 256 := by
    rw [z_and_255i]
    show a / 1 % 256 = _
    rw [Int.ediv_one]
  refine ⟨z_up (z_up (z_up (z_up (z_up (z_up (z_up (z_up w 20 0 n (a / 16777216 % 256)) 5 0 1 (n + 1)) 20 0 (n + 1) (a / 65536 % 256)) 5 0 1 (n + 1 + 1)) 20 0 (n + 1 + 1) (a / 256 % 256)) 5 0 1 (n + 1 + 1 + 1)) 20 0 (n + 1 + 1 + 1) (a % 256)) 5 0 1 (n + 1 + 1 + 1 + 1), ?_, ?_, ?_, fun k hk => ?_, fun j j0 j1 => ?_⟩
  · rw [e_Reader_put, st w n 24 _ hn (by omega) (by omega) (by omega) (by omega) c0]
    rw [show (24 : Int) + -8 = 16 from rfl, st _ (n + 1) 16 _ up_h (by omega) (by omega) (by omega) (by omega) c1]
    rw [show (16 : Int) + -8 = 8 from rfl, st _ (n + 1 + 1) 8 _ up_h (by omega) (by omega) (by omega) (by omega) c2]
    rw [show (8 : Int) + -8 = 0 from rfl, st _ (n + 1 + 1 + 1) 0 _ up_h (by omega) (by omega) (by omega) (by omega) c3]
    rw [e_Reader_put_1, if_pos (by decide)]
  · exact fr_tr (fr_tr (fr_tr (fr_tr (fr_tr (fr_tr (fr_tr (fr_up (by decide)) (fr_up (by decide))) (fr_up (by decide))) (fr_up (by decide))) (fr_up (by decide))) (fr_up (by decide))) (fr_up (by decide))) (fr_up (by decide))
  · rw [up_h]
    omega
  · rw [up_c (by decide), up_s (by omega), up_c (by decide), up_s (by omega), up_c (by decide), up_s (by omega), up_c (by decide), up_s (by omega)]
  · have : j = 0 ∨ j = 1 ∨ j = 2 ∨ j = 3 := by omega
    rcases this with rfl | rfl | rfl | rfl
    · rw [up_c (by decide), up_s (by omega), up_c (by decide), up_s (by omega), up_c (by decide), up_s (by omega), up_c (by decide), Int.add_zero, up_h]
      rfl
    · rw [up_c (by decide), up_s (by omega), up_c (by decide), up_s (by omega), up_c (by decide), up_h]
      rfl
    · rw [up_c (by decide), up_s (by omega), up_c (by decide), show n + 2 = n + 1 + 1 by omega, up_h]
      rfl
    · rw [up_c (by decide), show n + 3 = n + 1 + 1 + 1 by omega, up_h]
      rfl
theorem w8_mod (x : Int) : z_w8 x = z_w8 (x % 256) := by
  unfold z_w8
  omega
theorem w8_bd (x : Int) : -128 ≤ z_w8 x ∧ z_w8 x ≤ 127 := by
  unfold z_w8
  omega
theorem m_four {d : Nat} {a n : Int} {w : zW} (hn : w 11 0 1 = n) (h0 : 0 ≤ n ∧ n + 4 ≤ 400) : ∃ w', M_four d a w = some (0, w') ∧ mF [48] [1] w w' ∧ w' 11 0 1 = n + 4 ∧ (∀ k, k < n → w' 48 0 k = w 48 0 k) ∧ ∀ j, 0 ≤ j → j < 4 → w' 48 0 (n + j) = z_w8 (byt a j) := by
  have st : ∀ (w1 : zW) (m s v : Int), w1 11 0 1 = m → 0 ≤ m → m < 400 → 0 ≤ s → s < 32 → z_w8 (a / 2 ^ s.toNat) = v → M_four_1 d a s w1 = M_four_1 d a (s + -8) (z_up (z_up w1 48 0 m v) 11 0 1 (m + 1)) := fun w1 m s v h1 h2 h3 h4 h5 h6 => by
    have hb := w8_bd (a / 2 ^ s.toNat)
    rw [e_M_four_1, if_neg (by omega), h1, gd_t (by omega), gd_t (by omega), gd_t hb, gd_t (by omega), gd_t (by omega), h6]
  have c0 : z_w8 (a / 2 ^ (24 : Int).toNat) = z_w8 (a / 16777216 % 256) := w8_mod _
  have c1 : z_w8 (a / 2 ^ (16 : Int).toNat) = z_w8 (a / 65536 % 256) := w8_mod _
  have c2 : z_w8 (a / 2 ^ (8 : Int).toNat) = z_w8 (a / 256 % 256) := w8_mod _
  have c3 : z_w8 (a / 2 ^ (0 : Int).toNat) = z_w8 (a % 256) := by
    rw [w8_mod]
    show z_w8 (a / 1 % 256) = _
    rw [Int.ediv_one]
  refine ⟨z_up (z_up (z_up (z_up (z_up (z_up (z_up (z_up w 48 0 n (z_w8 (a / 16777216 % 256))) 11 0 1 (n + 1)) 48 0 (n + 1) (z_w8 (a / 65536 % 256))) 11 0 1 (n + 1 + 1)) 48 0 (n + 1 + 1) (z_w8 (a / 256 % 256))) 11 0 1 (n + 1 + 1 + 1)) 48 0 (n + 1 + 1 + 1) (z_w8 (a % 256))) 11 0 1 (n + 1 + 1 + 1 + 1), ?_, ?_, ?_, fun k hk => ?_, fun j j0 j1 => ?_⟩
  · rw [e_M_four, st w n 24 _ hn (by omega) (by omega) (by omega) (by omega) c0]
    rw [show (24 : Int) + -8 = 16 from rfl, st _ (n + 1) 16 _ up_h (by omega) (by omega) (by omega) (by omega) c1]
    rw [show (16 : Int) + -8 = 8 from rfl, st _ (n + 1 + 1) 8 _ up_h (by omega) (by omega) (by omega) (by omega) c2]
    rw [show (8 : Int) + -8 = 0 from rfl, st _ (n + 1 + 1 + 1) 0 _ up_h (by omega) (by omega) (by omega) (by omega) c3]
    rw [e_M_four_1, if_pos (by decide)]
  · exact mF_tr (mF_tr (mF_tr (mF_tr (mF_tr (mF_tr (mF_tr (mF_up (by decide) (by decide)) (mF_11 (by decide))) (mF_up (by decide) (by decide))) (mF_11 (by decide))) (mF_up (by decide) (by decide))) (mF_11 (by decide))) (mF_up (by decide) (by decide))) (mF_11 (by decide))
  · rw [up_h]
    omega
  · rw [up_c (by decide), up_s (by omega), up_c (by decide), up_s (by omega), up_c (by decide), up_s (by omega), up_c (by decide), up_s (by omega)]
  · have : j = 0 ∨ j = 1 ∨ j = 2 ∨ j = 3 := by omega
    rcases this with rfl | rfl | rfl | rfl
    · rw [up_c (by decide), up_s (by omega), up_c (by decide), up_s (by omega), up_c (by decide), up_s (by omega), up_c (by decide), Int.add_zero, up_h]
      rfl
    · rw [up_c (by decide), up_s (by omega), up_c (by decide), up_s (by omega), up_c (by decide), up_h]
      rfl
    · rw [up_c (by decide), up_s (by omega), up_c (by decide), show n + 2 = n + 1 + 1 by omega, up_h]
      rfl
    · rw [up_c (by decide), show n + 3 = n + 1 + 1 + 1 by omega, up_h]
      rfl
abbrev smT : List Nat := [1, 2, 7, 8, 9, 10, 13, 14, 15, 16, 29, 30, 31, 32, 33, 34, 35, 36, 37, 38, 39, 40, 49, 50, 52, 53, 54, 55, 56, 57, 58, 59, 60, 61, 62, 63, 64, 70, 77, 78]
theorem RS_frT {w w' : zW} {s : Int} {G : Int → Int} (h : ∀ c ∈ smT, w' c = w c) (hs : w' 4 s = w 4 s ∧ w' 19 s = w 19 s) (hR : RS w s G) : RS w' s G := by
  have e9 := h 9 (by decide)
  have e34 := h 34 (by decide)
  unfold RS RP RB RD opw at *
  rw [e9, h 8 (by decide), h 10 (by decide), h 29 (by decide), h 30 (by decide), h 31 (by decide), e34, hs.1, hs.2]
  exact hR
theorem Sim_tape {LS RX : Int → List clau} {w w' : zW} (h : ∀ c ∈ smT, w' c = w c) (hs : ∀ s, s < 5 → w' 4 s = w 4 s ∧ w' 19 s = w 19 s) (hT : RT w') (hR : w 8 0 1 = 1 → RC w' (w 7 0 0) (LS (w 7 0 1))) (hS : Sim LS RX w) : Sim LS RX w' := by
  have e7 := h 7 (by decide)
  have e8 := h 8 (by decide)
  have e9 := h 9 (by decide)
  have e10 := h 10 (by decide)
  have e49 := h 49 (by decide)
  have e70 := h 70 (by decide)
  have e77 := h 77 (by decide)
  have e78 := h 78 (by decide)
  refine ⟨hT, by rw [e49, e10]; exact hS.cnt, fun i i0 i1 => RW_fr (fun c hc => h c (by revert hc; revert c; decide)) (hS.wood i0 (by rw [e10] at i1; exact i1)), fun i i0 i1 => by rw [e9]; exact hS.cols i0 i1, fun j j0 j1 => Rlw_fr (fun c hc => h c (by revert hc; revert c; decide)) (hS.law j0 (by rw [e10] at j1; exact j1)), fun r r0 r1 => Rru_fr (fun c hc => h c (by revert hc; revert c; decide)) (hS.rule r0 (by rw [e10] at r1; exact r1)), by rw [e7]; exact hS.set, ?_, ?_, fun k k0 k1 => ?_⟩
  · rw [e70]
    exact RS_frT h (hs 0 (by omega)) hS.now
  · rw [e8, e7, e70]
    exact fun q => ⟨(hS.rdy q).1, (hS.rdy q).2.1, hR q⟩
  · obtain ⟨a1, a2, a3⟩ := hS.img k0 k1
    rw [e8, e78]
    refine ⟨a1, a2, fun q => ?_⟩
    have hi : im w' k = im w k := by unfold im; rw [e77]
    rw [hi]
    exact RS_frT h (hs (1 + k) (by omega)) (a3 q)
/-- the tape alone has changed -/
theorem Sim_tp {LS RX : Int → List clau} {w w1 w2 : zW} (h1 : z_fr [5, 20] w w1) (h2 : mF [48] [1] w1 w2) (hT : RT w2) (hS : Sim LS RX w) : Sim LS RX w2 := by
  have hc : ∀ c, c ≠ 5 → c ≠ 20 → c ≠ 48 → c ≠ 11 → w2 c = w c := fun c a b e f => by
    rw [h2.1 c (fun q => e (List.mem_singleton.mp q)) f, h1 c (fun q => by
      rcases List.mem_cons.mp q with z | z
      · exact a z
      · exact b (List.mem_singleton.mp z))]
  refine Sim_tape (fun c hc' => hc c (by revert hc'; revert c; decide) (by revert hc'; revert c; decide) (by revert hc'; revert c; decide) (by revert hc'; revert c; decide)) (fun s _ => ?_) hT (fun q => ?_) hS
  · rw [hc 4 (by decide) (by decide) (by decide) (by decide), hc 19 (by decide) (by decide) (by decide) (by decide)]
    exact ⟨rfl, rfl⟩
  · exact RC_fr (fun c hc' => hc c (by revert hc'; revert c; decide) (by revert hc'; revert c; decide) (by revert hc'; revert c; decide) (by revert hc'; revert c; decide)) (hc 26 (by decide) (by decide) (by decide) (by decide)) (hc 27 (by decide) (by decide) (by decide) (by decide)) (hS.rdy q).2.2
theorem p_end {LS RX : Int → List clau} {w : zW} {d : Nat} (hS : Sim LS RX w) (a1 : Int) : ∃ r w1 w2, D_end (d + 12) a1 w = some (r, w1) ∧ M_end (d + 12) a1 w1 = some (r, w2) ∧ Sim LS RX w2 := by
  obtain ⟨t1, t2, t3⟩ := hS.tape
  by_cases h1 : 0 ≤ a1 ∧ a1 ≤ w 5 0 1
  · refine ⟨a1, z_up w 5 0 1 a1, z_up (z_up w 5 0 1 a1) 11 0 1 a1, ?_, ?_, Sim_tp (fr_up (by decide)) (mF_11 (by decide)) ?_ hS⟩
    · rw [e_D_end, if_neg (by omega), if_pos h1.2]
    · rw [e_M_end, if_neg (by omega), up_c (by decide), t2, if_pos h1.2]
    · refine ⟨?_, ?_, fun k k0 k1 => ?_⟩
      · rw [up_c (by decide), up_h]
        omega
      · rw [up_h, up_c (by decide), up_h]
      · rw [up_c (by decide), up_h] at k1
        rw [up_c (by decide), up_c (by decide), up_c (by decide), up_c (by decide)]
        exact t3 k k0 (by omega)
  · refine ⟨-1, w, w, ?_, ?_, hS⟩
    · rw [e_D_end]
      by_cases z : a1 < 0
      · rw [if_pos z]
      · rw [if_neg z, if_neg (by omega)]
    · rw [e_M_end]
      by_cases z : a1 < 0
      · rw [if_pos z]
      · rw [if_neg z, if_neg (by omega)]
def TP (m : Int) (u v : Int → Int) : Prop := ∀ k, 0 ≤ k → k < m → (0 ≤ u k ∧ u k ≤ 255) ∧ v k = z_w8 (u k)
theorem tp_step {m a : Int} {u v u' v' : Int → Int} (h : TP m u v) (h1 : ∀ k, k < m → u' k = u k) (h2 : ∀ j, 0 ≤ j → j < 4 → u' (m + j) = byt a j) (h3 : ∀ k, k < m → v' k = v k) (h4 : ∀ j, 0 ≤ j → j < 4 → v' (m + j) = z_w8 (byt a j)) : TP (m + 4) u' v' := fun k k0 k1 => by
  rcases Int.lt_or_le k m with z | z
  · rw [h1 k z, h3 k z]
    exact h k k0 z
  · have hb := h2 (k - m) (by omega) (by omega)
    have hc := h4 (k - m) (by omega) (by omega)
    rw [show m + (k - m) = k by omega] at hb hc
    rw [hb, hc]
    exact ⟨byt_bd a _, rfl⟩
theorem p_feed {LS RX : Int → List clau} {w : zW} {d : Nat} (hS : Sim LS RX w) (a1 a2 a3 a4 a5 : Int) : ∃ r w1 w2, D_feed (d + 12) a1 a2 a3 a4 a5 w = some (r, w1) ∧ M_feed (d + 12) a1 a2 a3 a4 a5 w1 = some (r, w2) ∧ Sim LS RX w2 := by
  obtain ⟨t1, t2, t3⟩ := hS.tape
  by_cases h1 : w 5 0 1 + 20 ≤ 400
  · generalize hn : w 5 0 1 = n at *
    obtain ⟨u1, p1, f1, l1, o1, b1⟩ := s_put (d := d + 11) (a := a1) (w := w) hn (by omega)
    obtain ⟨u2, p2, f2, l2, o2, b2⟩ := s_put (d := d + 11) (a := a2) (w := u1) l1 (by omega)
    obtain ⟨u3, p3, f3, l3, o3, b3⟩ := s_put (d := d + 11) (a := a3) (w := u2) l2 (by omega)
    obtain ⟨u4, p4, f4, l4, o4, b4⟩ := s_put (d := d + 11) (a := a4) (w := u3) l3 (by omega)
    obtain ⟨u5, p5, f5, l5, o5, b5⟩ := s_put (d := d + 11) (a := a5) (w := u4) l4 (by omega)
    have ff : z_fr [5, 20] w u5 := fr_tr (fr_tr (fr_tr (fr_tr f1 f2) f3) f4) f5
    have hm : u5 11 0 1 = n := by rw [ff 11 (by decide), t2]
    obtain ⟨v1, q1, g1, m1, k1, c1⟩ := m_four (d := d + 11) (a := a1) (w := u5) hm (by omega)
    obtain ⟨v2, q2, g2, m2, k2, c2⟩ := m_four (d := d + 11) (a := a2) (w := v1) m1 (by omega)
    obtain ⟨v3, q3, g3, m3, k3, c3⟩ := m_four (d := d + 11) (a := a3) (w := v2) m2 (by omega)
    obtain ⟨v4, q4, g4, m4, k4, c4⟩ := m_four (d := d + 11) (a := a4) (w := v3) m3 (by omega)
    obtain ⟨v5, q5, g5, m5, k5, c5⟩ := m_four (d := d + 11) (a := a5) (w := v4) m4 (by omega)
    have gg : mF [48] [1] u5 v5 := mF_tr (mF_tr (mF_tr (mF_tr g1 g2) g3) g4) g5
    refine ⟨n + 4 + 4 + 4 + 4 + 4, u5, v5, ?_, ?_, Sim_tp ff gg ?_ hS⟩
    · rw [e_D_feed, hn, gd_t (by omega), if_pos h1, p1, bnd]
      dsimp only
      rw [p2, bnd]
      dsimp only
      rw [p3, bnd]
      dsimp only
      rw [p4, bnd]
      dsimp only
      rw [p5, bnd]
      dsimp only
      rw [l5]
    · rw [e_M_feed, hm, gd_t (by omega), if_pos h1, q1, bnd]
      dsimp only
      rw [q2, bnd]
      dsimp only
      rw [q3, bnd]
      dsimp only
      rw [q4, bnd]
      dsimp only
      rw [q5, bnd]
      dsimp only
      rw [m5]
    · have e5 : v5 5 = u5 5 := gg.1 5 (by decide) (by decide)
      have e20 : v5 20 = u5 20 := gg.1 20 (by decide) (by decide)
      have e48 : u5 48 = w 48 := ff 48 (by decide)
      have s0 : TP n (w 20 0) (u5 48 0) := by
        rw [e48]
        exact t3
      have s5 := tp_step (tp_step (tp_step (tp_step (tp_step s0 o1 b1 k1 c1) o2 b2 k2 c2) o3 b3 k3 c3) o4 b4 k4 c4) o5 b5 k5 c5
      clear o1 o2 o3 o4 o5 b1 b2 b3 b4 b5 k1 k2 k3 k4 k5 c1 c2 c3 c4 c5
      refine ⟨by rw [e5, l5]; omega, by rw [m5, e5, l5], ?_⟩
      rw [e5, l5, e20]
      exact s5
  · refine ⟨-1, w, w, ?_, ?_, hS⟩
    · rw [e_D_feed, gd_t (by omega), if_neg h1]
    · rw [e_M_feed, t2, gd_t (by omega), if_neg h1]
