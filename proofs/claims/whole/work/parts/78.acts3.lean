theorem m_writes {d : Nat} {i k a b n : Int} {w : zW} {path : Int → Int} (hi : w 70 0 0 = i) (h4 : 0 ≤ i ∧ i < 4) (hp : ∀ c, 0 ≤ c → c < 144 → w 64 0 (144 * (6 * i + 0) + c) = path c) (hf : wtB (wtM w 70 6)) (hn : w 70 0 2 = n) (hn2 : 0 ≤ n ∧ n < 200) :
    ∃ w', M_writes (d + 3) k a b w = some (0, w') ∧ mF [70] [] w w' ∧ w' 70 0 2 = n + 1 ∧ (w' 70 0 (582 + 4 * n) = k ∧ w' 70 0 (582 + 4 * n + 1) = a ∧ w' 70 0 (582 + 4 * n + 2) = b ∧ w' 70 0 (582 + 4 * n + 3) = onp path (wtM w 70 6) / 1000000) ∧ ∀ x, x ≠ 2 → (x < 582 + 4 * n ∨ 582 + 4 * n + 4 ≤ x) → w' 70 0 x = w 70 0 x := by
  have hob := onp_bd (path := path) hf
  rw [e_M_writes, gd_t (by decide)]
  simp only [hn]
  generalize hwx : z_up (z_up (z_up w 70 0 (582 + 4 * n) k) 70 0 (582 + 4 * n + 1) a) 70 0 (582 + 4 * n + 2) b = wx
  have fx : mF [70] [] w wx := by
    rw [← hwx]
    exact mF_tr (mF_tr (mF_up (by decide) (by decide)) (mF_up (by decide) (by decide))) (mF_up (by decide) (by decide))
  have hx : ∀ x, x ≠ 582 + 4 * n → x ≠ 582 + 4 * n + 1 → x ≠ 582 + 4 * n + 2 → wx 70 0 x = w 70 0 x := fun x q1 q2 q3 => by
    rw [← hwx, up_s q3, up_s q2, up_s q1]
  have hwt : eqR (wtM wx 70 6) (wtM w 70 6) := fun q q0 q1 => hx (6 + q) (by omega) (by omega) (by omega)
  have hfx : wtB (wtM wx 70 6) := fun q q0 q1 => by rw [hwt q q0 q1]; exact hf q q0 q1
  have hs := m_sumOn (d := d) (k := 70) (b := 6) (i := i) (w := wx) (path := path) (Or.inl ⟨rfl, rfl⟩) (by rw [hx 0 (by omega) (by omega) (by omega)]; exact hi) h4 (fun c c0 c1 => by rw [fx.1 64 (by decide) (by decide)]; exact hp c c0 c1) hfx
  have hone : onp path (wtM wx 70 6) = onp path (wtM w 70 6) := sm_congr fun c hc => by rw [od_eqR hwt (by omega) (by omega)]
  rw [hone] at hs
  rw [gd_t (by omega), gd_t (by omega), gd_t (by omega), gd_t (by omega), gd_t (by omega), gd_t (by omega), gd_t (by omega), gd_t (by omega), hs, bnd]
  dsimp only
  have h2 : (z_up wx 70 0 (582 + 4 * n + 3) (onp path (wtM w 70 6) / 1000000)) 70 0 2 = n := by
    rw [up_s (by omega), hx 2 (by omega) (by omega) (by omega), hn]
  simp only [h2]
  rw [gd_t (by omega), gd_t (by omega), gd_t (by omega), gd_t (by decide), gd_t (by omega), gd_t (by decide)]
  refine ⟨_, rfl, mF_tr fx (mF_tr (mF_up (by decide) (by decide)) (mF_up (by decide) (by decide))), up_h, ⟨?_, ?_, ?_, ?_⟩, fun x x2 q => ?_⟩
  · rw [up_s (by omega), up_s (by omega), ← hwx, up_s (by omega), up_s (by omega), up_h]
  · rw [up_s (by omega), up_s (by omega), ← hwx, up_s (by omega), up_h]
  · rw [up_s (by omega), up_s (by omega), ← hwx, up_h]
  · rw [up_s (by omega), up_h]
  · rw [up_s x2, up_s (by omega), hx x (by omega) (by omega) (by omega)]
/-- behind an act that stands: all is alike again -/
theorem Sim_act {LS RX : Int → List clau} {w w1 w2 : zW} {kd a b on N M E n : Int} {F : Int → Int} (hS : Sim LS RX w) (hB : RB w 0 (w 70 0)) (hE : ENV w (w 7 0 0) (w 7 0 1) (LS (w 7 0 1))) (hn : w 70 0 2 = n) (hn2 : n < 200)
    (k1 : z_fr kC w w1) (k2 : ∀ s, s ≠ 0 → w1 4 s = w 4 s ∧ w1 19 s = w 19 s ∧ w1 8 s = w 8 s ∧ w1 29 s = w 29 s ∧ w1 30 s = w 30 s) (k3 : EN w1 (w 7 0 0) (w 7 0 1) (LS (w 7 0 1))) (k5 : eqR (w1 19 0) F) (k6 : w1 4 0 1 = N) (k7 : w1 4 0 2 = M) (k8 : w1 4 0 3 = E) (k9 : ∀ x, x ≠ 6 → w1 8 0 x = w 8 0 x) (k10 : ∀ x, x ≠ n → w1 29 0 x = w 29 0 x ∧ w1 30 0 x = w 30 0 x) (k11 : w1 8 0 6 = n + 1 ∧ w1 29 0 n = kd + 256 * a + 65536 * b ∧ w1 30 0 n = on)
    (m1 : mF [68, 69, 70, 72] [30] w1 w2) (m2 : w2 70 0 0 = w 70 0 0 ∧ w2 70 0 1 = w 70 0 1 ∧ w2 70 0 2 = n + 1 ∧ w2 70 0 3 = N ∧ w2 70 0 4 = M ∧ w2 70 0 5 = E) (m2' : eqR (wtM w2 70 6) F) (m3 : ∀ x, 582 ≤ x → (x < 582 + 4 * n ∨ 582 + 4 * n + 4 ≤ x) → w2 70 0 x = w 70 0 x) (m4 : w2 70 0 (582 + 4 * n) = (if kd ≤ 4 then kd else mkd kd) ∧ w2 70 0 (582 + 4 * n + 1) = a ∧ w2 70 0 (582 + 4 * n + 2) = b ∧ w2 70 0 (582 + 4 * n + 3) = on)
    (bN : 0 ≤ N ∧ N ≤ n + 1) (bM : 0 ≤ M ∧ M ≤ 9) (bE : 0 ≤ E ∧ E ≤ 30) (hK : wOK (opw w (w 7 0 0)) F) (hk : 0 ≤ kd ∧ kd ≤ 8) (ha : 0 ≤ a ∧ a ≤ 40) (hb : 0 ≤ b ∧ b ≤ 40) (hs : kd = 8 → a < w 9 (w 7 0 0) 3) : Sim LS RX w2 := by
  have hi : w 70 0 0 = w 7 0 0 := hE.2.2.2.1.1
  have hj : w 70 0 1 = w 7 0 1 := hE.2.2.2.1.2
  obtain ⟨b1, b2, b3, b4, b5, b6, b7, b8, b9, b10, b11, b12⟩ := hB
  have hc : ∀ c, c ∉ [4, 8, 11, 17, 19, 24, 25, 26, 27, 28, 29, 30, 68, 69, 70, 72] → w2 c = w c := fun c hc => by
    have g : ∀ q ∈ [68, 69, 70, 72], q ∈ [4, 8, 11, 17, 19, 24, 25, 26, 27, 28, 29, 30, 68, 69, 70, 72] := by decide
    have g2 : ∀ q ∈ kC, q ∈ [4, 8, 11, 17, 19, 24, 25, 26, 27, 28, 29, 30, 68, 69, 70, 72] := by decide
    rw [m1.1 c (fun q => hc (g c q)) (fun q => hc (by rw [q]; decide)), k1 c (fun q => hc (g2 c q))]
  have e4 : w2 4 = w1 4 := m1.1 4 (by decide) (by decide)
  have e8 : w2 8 = w1 8 := m1.1 8 (by decide) (by decide)
  have e19 : w2 19 = w1 19 := m1.1 19 (by decide) (by decide)
  have e29 : w2 29 = w1 29 := m1.1 29 (by decide) (by decide)
  have e30 : w2 30 = w1 30 := m1.1 30 (by decide) (by decide)
  have e9 : w2 9 = w 9 := hc 9 (by decide)
  have e34 : w2 34 = w 34 := hc 34 (by decide)
  have e10 : w2 10 = w 10 := hc 10 (by decide)
  have e31 : w2 31 = w 31 := hc 31 (by decide)
  have e77 : w2 77 = w 77 := hc 77 (by decide)
  have e78 : w2 78 = w 78 := hc 78 (by decide)
  have hop : ∀ q, opw w2 q = opw w q := fun q => by
    show opn (w2 9 q 0) (w2 9 q 1) (w2 34 q) = opn (w 9 q 0) (w 9 q 1) (w 34 q)
    rw [e9, e34]
  have hn6 : w 8 0 6 = n := by omega
  refine Sim_mk (fun c hc' => hc c (by revert hc'; revert c; decide)) (RT_fr (hc 5 (by decide)) (hc 20 (by decide)) (hc 48 (by decide)) (by rw [m1.2 1 (by decide), k1 11 (by decide)]) hS.tape) ⟨fun k q0 q1 => ?_, Or.inr ?_⟩ (fun q => ?_) (fun k q0 q1 => ?_) hS
  · rw [e31, m3 _ (by omega) (by omega)]
    exact hS.now.1 k q0 q1
  · unfold RB
    rw [e8, e4, e19, e10, m2.1, m2.2.1, m2.2.2.1, m2.2.2.2.1, m2.2.2.2.2.1, m2.2.2.2.2.2, k9 1 (by decide), k9 2 (by decide), k9 3 (by decide), k9 4 (by decide), k9 5 (by decide), k11.1, k6, k7, k8, m3 1390 (by omega) (by omega), m3 1391 (by omega) (by omega), hop]
    refine ⟨b1, b2, b3, b4, ⟨rfl, by omega, by omega⟩, ⟨rfl, by omega, by omega⟩, ⟨rfl, bM⟩, ⟨rfl, bE⟩, fun k q0 q1 => ?_, ?_, bN.2, ?_⟩
    · rw [k5 k q0 q1]
      exact (m2' k q0 q1).symm
    · rw [hi]
      exact wOK_eq hK k5
    · intro k q0 q1
      rw [m2.2.2.1] at q1
      rw [e9, e29, e30, m2.1]
      by_cases z : k = n
      · rw [z, m4.1, m4.2.1, m4.2.2.1, m4.2.2.2, k11.2.1, k11.2.2, dk_mkd hk, hi]
        refine ⟨?_, ha, hb, ?_, rfl, rfl⟩
        · unfold mkd
          split
          · omega
          · split <;> omega
        · intro y
          refine hs ?_
          unfold mkd at y
          by_cases y1 : kd ≤ 4
          · rw [if_pos y1] at y; omega
          · rw [if_neg y1] at y
            by_cases y2 : kd = 5
            · rw [if_pos y2] at y; omega
            · rw [if_neg y2] at y; omega
      · have hq := b12 k q0 (by omega)
        rw [(k10 k z).1, (k10 k z).2, m3 _ (by omega) (by omega), m3 _ (by omega) (by omega), m3 _ (by omega) (by omega), m3 _ (by omega) (by omega)]
        exact hq
  · rw [m2.1, m2.2.1]
    exact ⟨hi.symm, hj.symm, RC_fr (sameE_m m1 (by decide)) (m1.1 26 (by decide) (by decide)) (m1.1 27 (by decide) (by decide)) k3.2.2.2.2.2.2.2.2.2⟩
  · obtain ⟨i1, i2, i3⟩ := hS.img q0 q1
    obtain ⟨g4, g19, g8, g29, g30⟩ := k2 (1 + k) (by omega)
    rw [e8, g8, e78]
    refine ⟨i1, i2, fun q => ?_⟩
    have hm : im w2 k = im w k := by unfold im; rw [e77]
    rw [hm]
    obtain ⟨j1, j2⟩ := i3 q
    refine ⟨fun x x0 x1 => ?_, ?_⟩
    · rw [e31]
      exact j1 x x0 x1
    · rcases j2 with z | z
      · left
        rw [e8, g8]
        exact z
      · exact Or.inr (RB_G (by rw [e8, g8]) e10 (by rw [e4, g4]; exact ⟨rfl, rfl, rfl⟩) (by rw [e19, g19]; exact eqR_rf _) (by rw [e29, g29]) (by rw [e30, g30]) e9 e34 (fun _ _ _ => rfl) rfl rfl z)
