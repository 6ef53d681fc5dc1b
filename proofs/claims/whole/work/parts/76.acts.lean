/-! WHAT AN ACT LEAVES BEHIND -/
theorem RB_G {w w' : zW} {s : Int} {G G' : Int → Int} (h8 : w' 8 s = w 8 s) (h10 : w' 10 = w 10) (h4 : w' 4 s 1 = w 4 s 1 ∧ w' 4 s 2 = w 4 s 2 ∧ w' 4 s 3 = w 4 s 3) (h19 : eqR (w' 19 s) (w 19 s)) (h29 : w' 29 s = w 29 s) (h30 : w' 30 s = w 30 s) (h9 : w' 9 = w 9) (h34 : w' 34 = w 34) (hG : ∀ x, 0 ≤ x → x < 1382 → G' x = G x) (g0 : G' 1390 = G 1390) (g1 : G' 1391 = G 1391) (hB : RB w s G) : RB w' s G' := by
  obtain ⟨b1, b2, b3, b4, b5, b6, b7, b8, b9, b10, b11, b12⟩ := hB
  have e0 := hG 0 (by omega) (by omega)
  have e1 := hG 1 (by omega) (by omega)
  have e2 := hG 2 (by omega) (by omega)
  have e3 := hG 3 (by omega) (by omega)
  have e4 := hG 4 (by omega) (by omega)
  have e5 := hG 5 (by omega) (by omega)
  unfold RB
  rw [h8, h10, h4.1, h4.2.1, h4.2.2, e0, e1, e2, e3, e4, e5, g0, g1]
  have ho : opw w' (G 0) = opw w (G 0) := by
    show opn (w' 9 (G 0) 0) (w' 9 (G 0) 1) (w' 34 (G 0)) = _
    rw [h9, h34]
  rw [ho]
  refine ⟨b1, b2, b3, b4, b5, b6, b7, b8, fun k k0 k1 => ?_, wOK_eq b10 h19, b11, ?_⟩
  · rw [h19 k k0 k1, b9 k k0 k1]
    exact (hG (6 + k) (by omega) (by omega)).symm
  · intro k k0 k1
    rw [e2] at k1
    have q := b12 k k0 k1
    rw [h9, h29, h30, e0, hG _ (by omega) (by omega), hG _ (by omega) (by omega), hG _ (by omega) (by omega), hG _ (by omega) (by omega)]
    exact q
theorem RS_fr2 {w w' : zW} {s : Int} {G : Int → Int} (h : ∀ c ∈ [8, 9, 10, 29, 30, 31, 34], w' c = w c) (hs : (w' 4 s 1 = w 4 s 1 ∧ w' 4 s 2 = w 4 s 2 ∧ w' 4 s 3 = w 4 s 3) ∧ eqR (w' 19 s) (w 19 s)) (hR : RS w s G) : RS w' s G := by
  refine ⟨?_, ?_⟩
  · have := hR.1
    unfold RP at *
    rw [h 31 (by decide)]
    exact this
  · rcases hR.2 with q | q
    · left
      rw [h 8 (by decide)]
      exact q
    · exact Or.inr (RB_G (by rw [h 8 (by decide)]) (h 10 (by decide)) hs.1 hs.2 (by rw [h 29 (by decide)]) (by rw [h 30 (by decide)]) (h 9 (by decide)) (h 34 (by decide)) (fun _ _ _ => rfl) rfl rfl q)
abbrev smQ : List Nat := [1, 2, 7, 9, 10, 13, 14, 15, 16, 32, 33, 34, 35, 36, 37, 38, 39, 40, 49, 50, 52, 53, 54, 55, 56, 57, 58, 59, 60, 61, 62, 63, 64]
/-- all of it but the walk now and the images -/
theorem Sim_mk {LS RX : Int → List clau} {w w' : zW} (h : ∀ c ∈ smQ, w' c = w c) (hT : RT w') (hN : RS w' 0 (w' 70 0)) (hr : w' 8 0 1 = 1 → w 7 0 0 = w' 70 0 0 ∧ w 7 0 1 = w' 70 0 1 ∧ RC w' (w 7 0 0) (LS (w 7 0 1))) (hI : ∀ k, 0 ≤ k → k < 4 → isB (w' 8 (1 + k) 0) ∧ w' 78 0 k = w' 8 (1 + k) 0 ∧ (w' 8 (1 + k) 0 = 1 → RS w' (1 + k) (im w' k))) (hS : Sim LS RX w) : Sim LS RX w' := by
  have e7 := h 7 (by decide)
  have e9 := h 9 (by decide)
  have e10 := h 10 (by decide)
  have e49 := h 49 (by decide)
  refine ⟨hT, by rw [e49, e10]; exact hS.cnt, fun i i0 i1 => RW_fr (fun c hc => h c (by revert hc; revert c; decide)) (hS.wood i0 (by rw [e10] at i1; exact i1)), fun i i0 i1 => by rw [e9]; exact hS.cols i0 i1, fun j j0 j1 => Rlw_fr (fun c hc => h c (by revert hc; revert c; decide)) (hS.law j0 (by rw [e10] at j1; exact j1)), fun r r0 r1 => Rru_fr (fun c hc => h c (by revert hc; revert c; decide)) (hS.rule r0 (by rw [e10] at r1; exact r1)), by rw [e7]; exact hS.set, hN, ?_, hI⟩
  rw [e7]
  exact hr
theorem RT_fr {w w' : zW} (h5 : w' 5 = w 5) (h20 : w' 20 = w 20) (h48 : w' 48 = w 48) (h11 : w' 11 0 1 = w 11 0 1) (h : RT w) : RT w' := by
  unfold RT at *
  rw [h5, h20, h48, h11]
  exact h
theorem Sim_ask2 {LS RX : Int → List clau} {w w' : zW} (h : ∀ c ∈ smC, w' c = w c) (hs : ∀ s, s < 5 → (w' 4 s 1 = w 4 s 1 ∧ w' 4 s 2 = w 4 s 2 ∧ w' 4 s 3 = w 4 s 3) ∧ eqR (w' 19 s) (w 19 s)) (h11 : w' 11 0 1 = w 11 0 1) (hR : w 8 0 1 = 1 → RC w' (w 7 0 0) (LS (w 7 0 1))) (hS : Sim LS RX w) : Sim LS RX w' := by
  have e8 := h 8 (by decide)
  have e70 := h 70 (by decide)
  have e77 := h 77 (by decide)
  have e78 := h 78 (by decide)
  refine Sim_mk (fun c hc => h c (by revert hc; revert c; decide)) (RT_fr (h 5 (by decide)) (h 20 (by decide)) (h 48 (by decide)) h11 hS.tape) ?_ ?_ (fun k k0 k1 => ?_) hS
  · rw [e70]
    exact RS_fr2 (fun c hc => h c (by revert hc; revert c; decide)) (hs 0 (by omega)) hS.now
  · rw [e8, e70]
    exact fun q => ⟨(hS.rdy q).1, (hS.rdy q).2.1, hR q⟩
  · obtain ⟨a1, a2, a3⟩ := hS.img k0 k1
    rw [e8, e78]
    refine ⟨a1, a2, fun q => ?_⟩
    have hi : im w' k = im w k := by unfold im; rw [e77]
    rw [hi]
    exact RS_fr2 (fun c hc => h c (by revert hc; revert c; decide)) (hs (1 + k) (by omega)) (a3 q)
theorem p_post {LS RX : Int → List clau} {w : zW} {d : Nat} (hS : Sim LS RX w) (a1 a2 a3 : Int) : ∃ r w1 w2, D_post (d + 12) a1 a2 a3 w = some (r, w1) ∧ M_post (d + 12) a1 a2 a3 w1 = some (r, w2) ∧ Sim LS RX w2 := by
  by_cases h1 : 0 ≤ a1 ∧ a1 ≤ 7
  · by_cases h2 : 0 ≤ a2 ∧ a2 ≤ 11
    · by_cases h3 : 0 ≤ a3 ∧ a3 ≤ 11
      · have hc : ∀ c, c ≠ 31 → c ≠ 70 → (z_up (z_up w 31 0 a1 (a3 * 12 + a2)) 70 0 (1382 + a1) (12 * a3 + a2)) c = w c := fun c q1 q2 => by
          funext x y
          rw [up_c q2, up_c q1]
        refine ⟨1, z_up w 31 0 a1 (a3 * 12 + a2), z_up (z_up w 31 0 a1 (a3 * 12 + a2)) 70 0 (1382 + a1) (12 * a3 + a2), ?_, ?_, ?_⟩
        · rw [e_D_post, if_neg (by omega), if_neg (by omega), if_neg (by omega), if_neg (by omega), if_neg (by omega), if_pos (by omega), gd_t (by omega), gd_t (by omega), gd_t (by omega), gd_t (by omega)]
        · rw [e_M_post, m_in, bnd, if_pos h1]
          dsimp only
          rw [if_neg (show ¬ (1 : Int) = 0 by decide), m_in, bnd, if_pos h2]
          dsimp only
          rw [if_neg (show ¬ (1 : Int) = 0 by decide), m_in, bnd, if_pos h3]
          dsimp only
          rw [if_neg (show ¬ (1 : Int) = 0 by decide), gd_t (by omega), gd_t (by omega), gd_t (by omega), gd_t (by omega), gd_t (by omega)]
        · generalize hw2 : z_up (z_up w 31 0 a1 (a3 * 12 + a2)) 70 0 (1382 + a1) (12 * a3 + a2) = w2 at hc
          have hG : ∀ x, x ≠ 1382 + a1 → w2 70 0 x = w 70 0 x := fun x hx => by
            rw [← hw2, up_s hx, up_c (by decide)]
          have hP : ∀ s x, (s ≠ 0 ∨ x ≠ a1) → w2 31 s x = w 31 s x := fun s x hx => by
            rw [← hw2, up_c (by decide)]
            rcases hx with q | q
            · exact up_i q
            · by_cases z : s = 0
              · rw [z]; exact up_s q
              · exact up_i z
          have hv1 : w2 31 0 a1 = a3 * 12 + a2 := by rw [← hw2, up_c (by decide), up_h]
          have hv2 : w2 70 0 (1382 + a1) = 12 * a3 + a2 := by rw [← hw2, up_h]
          have c8 := hc 8 (by decide) (by decide)
          have c77 := hc 77 (by decide) (by decide)
          have c78 := hc 78 (by decide) (by decide)
          refine Sim_mk (fun c hc' => hc c (by revert hc'; revert c; decide) (by revert hc'; revert c; decide)) (RT_fr (hc 5 (by decide) (by decide)) (hc 20 (by decide) (by decide)) (hc 48 (by decide) (by decide)) (by rw [hc 11 (by decide) (by decide)]) hS.tape) ⟨fun k k0 k1 => ?_, ?_⟩ (fun q => ?_) (fun k k0 k1 => ?_) hS
          · by_cases z : k = a1
            · rw [z, hv1, hv2]
              omega
            · rw [hP 0 k (Or.inr z), hG _ (by omega)]
              exact hS.now.1 k k0 k1
          · rcases hS.now.2 with q | q
            · left
              rw [c8, hG 0 (by omega)]
              exact q
            · exact Or.inr (RB_G (by rw [c8]) (hc 10 (by decide) (by decide)) (by rw [hc 4 (by decide) (by decide)]; exact ⟨rfl, rfl, rfl⟩) (by rw [hc 19 (by decide) (by decide)]; exact eqR_rf _) (by rw [hc 29 (by decide) (by decide)]) (by rw [hc 30 (by decide) (by decide)]) (hc 9 (by decide) (by decide)) (hc 34 (by decide) (by decide)) (fun x x0 x1 => hG x (by omega)) (hG _ (by omega)) (hG _ (by omega)) q)
          · rw [c8] at q
            obtain ⟨r1, r2, r3⟩ := hS.rdy q
            rw [hG 0 (by omega), hG 1 (by omega)]
            exact ⟨r1, r2, RC_fr (fun c hc' => hc c (by revert hc'; revert c; decide) (by revert hc'; revert c; decide)) (hc 26 (by decide) (by decide)) (hc 27 (by decide) (by decide)) r3⟩
          · obtain ⟨i1, i2, i3⟩ := hS.img k0 k1
            rw [c8, c78]
            refine ⟨i1, i2, fun q => ?_⟩
            have hi : im w2 k = im w k := by unfold im; rw [c77]
            rw [hi]
            obtain ⟨j1, j2⟩ := i3 q
            refine ⟨fun x x0 x1 => ?_, ?_⟩
            · rw [hP (1 + k) x (Or.inl (by omega))]
              exact j1 x x0 x1
            · rcases j2 with z | z
              · left
                rw [c8]
                exact z
              · exact Or.inr (RB_G (by rw [c8]) (hc 10 (by decide) (by decide)) (by rw [hc 4 (by decide) (by decide)]; exact ⟨rfl, rfl, rfl⟩) (by rw [hc 19 (by decide) (by decide)]; exact eqR_rf _) (by rw [hc 29 (by decide) (by decide)]) (by rw [hc 30 (by decide) (by decide)]) (hc 9 (by decide) (by decide)) (hc 34 (by decide) (by decide)) (fun _ _ _ => rfl) rfl rfl z)
      · refine ⟨0, w, w, ?_, ?_, hS⟩
        · rw [e_D_post, if_neg (by omega), if_neg (by omega), if_neg (by omega), if_neg (by omega)]
          by_cases z : a3 < 0
          · rw [if_pos z, gd_t (by decide)]
          · rw [if_neg z, if_neg (by omega), gd_t (by decide)]
        · rw [e_M_post, m_in, bnd, if_pos h1]
          dsimp only
          rw [if_neg (show ¬ (1 : Int) = 0 by decide), m_in, bnd, if_pos h2]
          dsimp only
          rw [if_neg (show ¬ (1 : Int) = 0 by decide), m_in, bnd, if_neg h3, if_pos rfl, gd_t (by decide)]
    · refine ⟨0, w, w, ?_, ?_, hS⟩
      · rw [e_D_post, if_neg (by omega), if_neg (by omega)]
        by_cases z : a2 < 0
        · rw [if_pos z, gd_t (by decide)]
        · rw [if_neg z, if_pos (by omega), gd_t (by decide)]
      · rw [e_M_post, m_in, bnd, if_pos h1]
        dsimp only
        rw [if_neg (show ¬ (1 : Int) = 0 by decide), m_in, bnd, if_neg h2, if_pos rfl, gd_t (by decide)]
  · refine ⟨0, w, w, ?_, ?_, hS⟩
    · rw [e_D_post]
      by_cases z : a1 < 0
      · rw [if_pos z, gd_t (by decide)]
      · rw [if_neg z, if_pos (by omega), gd_t (by decide)]
    · rw [e_M_post, m_in, bnd, if_neg h1, if_pos rfl, gd_t (by decide)]
