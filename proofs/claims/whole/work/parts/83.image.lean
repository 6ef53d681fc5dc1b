theorem RS_cp {w w' : zW} {s s' : Int} {G G' : Int → Int} (h8 : ∀ x, 1 ≤ x → x ≤ 6 → w' 8 s' x = w 8 s x) (h4 : w' 4 s' 1 = w 4 s 1 ∧ w' 4 s' 2 = w 4 s 2 ∧ w' 4 s' 3 = w 4 s 3) (h19 : eqR (w' 19 s') (w 19 s)) (h29 : ∀ x, 0 ≤ x → x < 200 → w' 29 s' x = w 29 s x ∧ w' 30 s' x = w 30 s x) (h31 : ∀ x, 0 ≤ x → x < 8 → w' 31 s' x = w 31 s x) (h10 : w' 10 = w 10) (h9 : w' 9 = w 9) (h34 : w' 34 = w 34) (hG : ∀ x, 0 ≤ x → x < 1392 → G' x = G x) (hR : RS w s G) : RS w' s' G' := by
  obtain ⟨hp, hb⟩ := hR
  have e0 := hG 0 (by omega) (by omega)
  have e1 := hG 1 (by omega) (by omega)
  have e2 := hG 2 (by omega) (by omega)
  have e3 := hG 3 (by omega) (by omega)
  have e4 := hG 4 (by omega) (by omega)
  have e5 := hG 5 (by omega) (by omega)
  have e6 := hG 1390 (by omega) (by omega)
  have e7 := hG 1391 (by omega) (by omega)
  refine ⟨fun k k0 k1 => ?_, ?_⟩
  · rw [h31 k k0 k1, hG _ (by omega) (by omega)]
    exact hp k k0 k1
  · rcases hb with q | q
    · left
      rw [h8 1 (by omega) (by omega), h8 6 (by omega) (by omega), e0]
      exact q
    · right
      obtain ⟨b1, b2, b3, b4, b5, b6, b7, b8, b9, b10, b11, b12⟩ := q
      have ho : opw w' (G 0) = opw w (G 0) := by
        show opn (w' 9 (G 0) 0) (w' 9 (G 0) 1) (w' 34 (G 0)) = _
        rw [h9, h34]
      unfold RB
      rw [h8 1 (by omega) (by omega), h8 2 (by omega) (by omega), h8 3 (by omega) (by omega), h8 4 (by omega) (by omega), h8 5 (by omega) (by omega), h8 6 (by omega) (by omega), h10, h4.1, h4.2.1, h4.2.2, e0, e1, e2, e3, e4, e5, e6, e7, ho]
      refine ⟨b1, b2, b3, b4, b5, b6, b7, b8, fun k k0 k1 => ?_, wOK_eq b10 h19, b11, fun k k0 k1 => ?_⟩
      · rw [h19 k k0 k1, b9 k k0 k1]
        exact (hG (6 + k) (by omega) (by omega)).symm
      · rw [e2] at k1
        have hq := b12 k k0 k1
        rw [h9, (h29 k k0 (by omega)).1, (h29 k k0 (by omega)).2, e0, hG _ (by omega) (by omega), hG _ (by omega) (by omega), hG _ (by omega) (by omega), hG _ (by omega) (by omega)]
        exact hq
theorem s_copyS {d : Nat} {s s2 : Int} {w : zW} (hb : isB (w 8 s2 1)) (hne : s ≠ s2) : ∃ w', State_copyFrom (d + 1) s s2 w = some (0, w') ∧ z_fr [4, 8, 19, 29, 30, 31] w w' ∧ (∀ q, q ≠ s → w' 4 q = w 4 q ∧ w' 8 q = w 8 q ∧ w' 19 q = w 19 q ∧ w' 29 q = w 29 q ∧ w' 30 q = w 30 q ∧ w' 31 q = w 31 q) ∧ (∀ x, 1 ≤ x → x ≤ 6 → w' 8 s x = w 8 s2 x) ∧ w' 8 s 0 = w 8 s 0 ∧ (w' 4 s 1 = w 4 s2 1 ∧ w' 4 s 2 = w 4 s2 2 ∧ w' 4 s 3 = w 4 s2 3) ∧ eqR (w' 19 s) (w 19 s2) ∧ (∀ x, 0 ≤ x → x < 200 → w' 29 s x = w 29 s2 x ∧ w' 30 s x = w 30 s2 x) ∧ ∀ x, 0 ≤ x → x < 8 → w' 31 s x = w 31 s2 x := by
  have hne' : s2 ≠ s := fun q => hne q.symm
  generalize hwb : z_up (z_up (z_up (z_up (z_up (z_up w 8 s 1 (w 8 s2 1)) 8 s 2 (w 8 s2 2)) 8 s 3 (w 8 s2 3)) 8 s 4 (w 8 s2 4)) 8 s 5 (w 8 s2 5)) 8 s 6 (w 8 s2 6) = wb
  obtain ⟨w1, p1, p2, p3, p4, p5⟩ := s_copyO (d := d) (o := s) (o2 := s2) (w := wb)
  have fb : z_fr [8] w wb := by
    rw [← hwb]
    exact fr_tr (fr_tr (fr_tr (fr_tr (fr_tr (fr_up (by decide)) (fr_up (by decide))) (fr_up (by decide))) (fr_up (by decide))) (fr_up (by decide))) (fr_up (by decide))
  refine ⟨z_cpy (z_cpy (z_cpy w1 29 s2 0 29 s 0 200) 30 s2 0 30 s 0 200) 31 s2 0 31 s 0 8, ?_, fr_tr (fr_tr (fr_sub fb (by decide)) (fr_sub p2 (by decide))) (fr_tr (fr_tr (fr_cpy (by decide)) (fr_cpy (by decide))) (fr_cpy (by decide))), fun q hq => ⟨?_, ?_, ?_, ?_, ?_, ?_⟩, fun x x0 x1 => ?_, ?_, ?_, fun k k0 k1 => ?_, fun x x0 x1 => ⟨?_, ?_⟩, fun x x0 x1 => ?_⟩
  · rw [e_State_copyFrom, gd_t (by rcases hb with z | z <;> omega), hwb, p1, bnd, gd_t (by decide), gd_t (by decide), gd_t (by decide)]
  · funext t
    rw [cpy_c (by decide), cpy_c (by decide), cpy_c (by decide), (p3 q hq).1, fb 4 (by decide)]
  · funext t
    rw [cpy_c (by decide), cpy_c (by decide), cpy_c (by decide), p2 8 (by decide), ← hwb, up_i hq, up_i hq, up_i hq, up_i hq, up_i hq, up_i hq]
  · funext t
    rw [cpy_c (by decide), cpy_c (by decide), cpy_c (by decide), (p3 q hq).2, fb 19 (by decide)]
  · funext t
    rw [cpy_c (by decide), cpy_c (by decide), cpy_i hq, p2 29 (by decide), fb 29 (by decide)]
  · funext t
    rw [cpy_c (by decide), cpy_i hq, cpy_c (by decide), p2 30 (by decide), fb 30 (by decide)]
  · funext t
    rw [cpy_i hq, cpy_c (by decide), cpy_c (by decide), p2 31 (by decide), fb 31 (by decide)]
  · rw [cpy_c (by decide), cpy_c (by decide), cpy_c (by decide), p2 8 (by decide), ← hwb]
    have : x = 1 ∨ x = 2 ∨ x = 3 ∨ x = 4 ∨ x = 5 ∨ x = 6 := by omega
    rcases this with rfl | rfl | rfl | rfl | rfl | rfl
    · rw [up_s (by decide), up_s (by decide), up_s (by decide), up_s (by decide), up_s (by decide), up_h]
    · rw [up_s (by decide), up_s (by decide), up_s (by decide), up_s (by decide), up_h]
    · rw [up_s (by decide), up_s (by decide), up_s (by decide), up_h]
    · rw [up_s (by decide), up_s (by decide), up_h]
    · rw [up_s (by decide), up_h]
    · rw [up_h]
  · rw [cpy_c (by decide), cpy_c (by decide), cpy_c (by decide), p2 8 (by decide), ← hwb, up_s (by decide), up_s (by decide), up_s (by decide), up_s (by decide), up_s (by decide), up_s (by decide)]
  · rw [cpy_c (by decide), cpy_c (by decide), cpy_c (by decide), cpy_c (by decide), cpy_c (by decide), cpy_c (by decide), cpy_c (by decide), cpy_c (by decide), cpy_c (by decide), p5.1, p5.2.1, p5.2.2, fb 4 (by decide)]
    exact ⟨rfl, rfl, rfl⟩
  · rw [cpy_c (by decide), cpy_c (by decide), cpy_c (by decide), p4 k k0 k1, fb 19 (by decide)]
  · rw [cpy_c (by decide), cpy_c (by decide), cpy_in (by omega), show 0 + (x - 0) = x by omega, p2 29 (by decide), fb 29 (by decide)]
  · rw [cpy_c (by decide), cpy_in (by omega), show 0 + (x - 0) = x by omega, cpy_c (by decide), p2 30 (by decide), fb 30 (by decide)]
  · rw [cpy_in (by omega), show 0 + (x - 0) = x by omega, cpy_c (by decide), cpy_c (by decide), p2 31 (by decide), fb 31 (by decide)]
theorem m_image_3 {d : Nat} {k : Int} {w : zW} (hk : 0 ≤ k ∧ k < 4) : ∀ m n : Nat, n + m = 1392 →
    M_image_3 (d + 1) k n (z_row w 77 0 (cbF (w 77 0) (w 70 0) (1392 * k) n)) = some (if w 70 0 0 = -1 then 0 else w 70 0 2, z_row w 77 0 (cbF (w 77 0) (w 70 0) (1392 * k) 1392)) := by
  intro m
  induction m with
  | zero =>
    intro n hn
    rw [e_M_image_3, if_pos (by omega), m_isWalk, bnd, row_c (by decide), show (n : Int) = 1392 by omega]
    dsimp only
    by_cases z : w 70 0 0 = -1
    · rw [if_pos z, if_pos z, if_pos rfl]
    · rw [if_neg z, if_neg z, if_neg (show ¬ (1 : Int) = 0 by decide), gd_t (by decide), row_c (by decide)]
  | succ m ih =>
    intro n hn
    have hu := cbF_up (F := w 77 0) (G := w 70 0) (b := 1392 * k) (n := (n : Int)) (by omega)
    rw [e_M_image_3, if_neg (by omega), gd_t (by omega), gd_t (by omega), gd_t (by omega), gd_t (by omega), gd_t (by omega), row_c (by decide), row_up, hu]
    exact ih (n + 1) (by omega)
theorem m_back_4 {d : Nat} {k : Int} {w : zW} (hk : 0 ≤ k ∧ k < 4) : ∀ m n : Nat, n + m = 1392 →
    M_back_4 (d + 1) k n (z_row w 70 0 (cbF (w 70 0) (im w k) 0 n)) = some (if im w k 0 = -1 then 0 else im w k 2, z_row w 70 0 (cbF (w 70 0) (im w k) 0 1392)) := by
  intro m
  induction m with
  | zero =>
    intro n hn
    rw [e_M_back_4, if_pos (by omega), m_isWalk, bnd, row_h, show (n : Int) = 1392 by omega]
    have h0 : cbF (w 70 0) (im w k) 0 1392 0 = im w k 0 := by unfold cbF; rw [if_pos (by decide)]; rfl
    have h2 : cbF (w 70 0) (im w k) 0 1392 2 = im w k 2 := by unfold cbF; rw [if_pos (by decide)]; rfl
    dsimp only
    rw [h0]
    by_cases z : im w k 0 = -1
    · rw [if_pos z, if_pos z, if_pos rfl]
    · rw [if_neg z, if_neg z, if_neg (show ¬ (1 : Int) = 0 by decide), gd_t (by decide), row_h, h2]
  | succ m ih =>
    intro n hn
    have hu := cbF_up (F := w 70 0) (G := im w k) (b := 0) (n := (n : Int)) (by omega)
    have hg : im w k n = w 77 0 (1392 * k + n) := rfl
    rw [hg, Int.zero_add] at hu
    rw [e_M_back_4, if_neg (by omega), gd_t (by omega), gd_t (by omega), gd_t (by omega), gd_t (by omega), gd_t (by omega), row_c (by decide), row_up, hu]
    exact ih (n + 1) (by omega)
theorem p_image {LS RX : Int → List clau} {w : zW} {d : Nat} (hS : Sim LS RX w) (a1 : Int) : ∃ r w1 w2, D_image (d + 12) a1 w = some (r, w1) ∧ M_image (d + 12) a1 w1 = some (r, w2) ∧ Sim LS RX w2 := by
  by_cases h1 : 0 ≤ a1 ∧ a1 ≤ 3
  · have hb01 : isB (w 8 0 1) := by
      rcases hS.now.2 with q | q
      · exact Or.inl q.1
      · exact Or.inr q.1
    obtain ⟨w1, p1, p2, p3, p4, p5, p6, p7, p8, p9⟩ := s_copyS (d := d + 10) (s := 1 + a1) (s2 := 0) (w := w) hb01 (by omega)
    have hacts : w1 8 0 6 = if w 70 0 0 = -1 then 0 else w 70 0 2 := by
      rw [(p3 0 (by omega)).2.1]
      rcases hS.now.2 with q | q
      · rw [if_pos q.2.1]; exact q.2.2
      · rw [if_neg (by have := q.2.1.2.1; omega)]; exact q.2.2.2.2.1.1
    generalize hw2 : z_up w1 8 (1 + a1) 0 1 = w2
    generalize hv : z_up w2 78 0 a1 1 = v
    have hm := m_image_3 (d := d + 11) (k := a1) (w := v) (by omega) 1392 0 rfl
    rw [show ((0 : Nat) : Int) = 0 from rfl, cbF_0, row_self] at hm
    have f1 : z_fr [4, 8, 19, 29, 30, 31, 78] w v := by
      rw [← hv, ← hw2]
      exact fr_tr (fr_sub p2 (by decide)) (fr_tr (fr_up (by decide)) (fr_up (by decide)))
    have v70 : v 70 = w 70 := f1 70 (by decide)
    have v77 : v 77 = w 77 := f1 77 (by decide)
    rw [v70] at hm
    refine ⟨w1 8 0 6, w2, z_row v 77 0 (cbF (v 77 0) (w 70 0) (1392 * a1) 1392), ?_, ?_, ?_⟩
    · rw [e_D_image, if_neg (by omega), if_pos (by omega), gd_t (by omega), p1, bnd]
      dsimp only
      rw [gd_t (by omega), gd_t (by decide), hw2]
    · rw [e_M_image, m_in, bnd, if_pos h1]
      dsimp only
      rw [if_neg (show ¬ (1 : Int) = 0 by decide), gd_t (by omega), gd_t (by decide), hv, hacts]
      exact hm
    · generalize hw3 : z_row v 77 0 (cbF (v 77 0) (w 70 0) (1392 * a1) 1392) = w3
      have hc : ∀ c, c ∉ [4, 8, 19, 29, 30, 31, 77, 78] → w3 c = w c := fun c hc => by
        have g2 : ∀ q ∈ [4, 8, 19, 29, 30, 31, 78], q ∈ [4, 8, 19, 29, 30, 31, 77, 78] := by decide
        have h77 : c ≠ 77 := fun q => hc (by rw [q]; decide)
        have e : w3 c = v c := by
          rw [← hw3]
          funext x y
          exact row_c h77
        rw [e, f1 c (fun q => hc (g2 c q))]
      have c1 : ∀ c, c ≠ 8 → c ≠ 77 → c ≠ 78 → w3 c = w1 c := fun c q r s => by
        funext x y
        rw [← hw3, row_c r, ← hv, up_c s, ← hw2, up_c q]
      have e8 : ∀ s x, (s ≠ 1 + a1 ∨ x ≠ 0) → w3 8 s x = w1 8 s x := fun s x h => by
        rw [← hw3, row_c (by decide), ← hv, up_c (by decide), ← hw2]
        rcases h with q | q
        · exact up_i q
        · exact up_s q
      have e80 : w3 8 (1 + a1) 0 = 1 := by rw [← hw3, row_c (by decide), ← hv, up_c (by decide), ← hw2, up_h]
      have e78 : ∀ x, w3 78 0 x = if x = a1 then 1 else w 78 0 x := fun x => by
        rw [← hw3, row_c (by decide), ← hv]
        by_cases z : x = a1
        · rw [if_pos z, z, up_h]
        · rw [if_neg z, up_s z, ← hw2, up_c (by decide), p2 78 (by decide)]
      have i77 : ∀ k x, 0 ≤ k → k < 4 → k ≠ a1 → 0 ≤ x → x < 1392 → im w3 k x = im w k x := fun k x k0 k1 hne x0 x1 => by
        show w3 77 0 (1392 * k + x) = w 77 0 (1392 * k + x)
        rw [← hw3, row_h]
        unfold cbF
        rw [if_neg (by omega), v77]
      have i77a : ∀ x, 0 ≤ x → x < 1392 → im w3 a1 x = w 70 0 x := fun x x0 x1 => by
        show w3 77 0 (1392 * a1 + x) = _
        rw [← hw3, row_h]
        unfold cbF
        rw [if_pos (by omega), show 1392 * a1 + x - 1392 * a1 = x by omega]
      have now : ∀ s, s ≠ 1 + a1 → ∀ G G' : Int → Int, (∀ x, 0 ≤ x → x < 1392 → G' x = G x) → RS w s G → RS w3 s G' := fun s hs G G' hG hR => by
        obtain ⟨o4, o8, o19, o29, o30, o31⟩ := p3 s hs
        exact RS_cp (fun x x0 x1 => by rw [e8 s x (Or.inl hs), o8]) (by rw [c1 4 (by decide) (by decide) (by decide), o4]; exact ⟨rfl, rfl, rfl⟩) (by rw [c1 19 (by decide) (by decide) (by decide), o19]; exact eqR_rf _) (fun x _ _ => by rw [c1 29 (by decide) (by decide) (by decide), c1 30 (by decide) (by decide) (by decide), o29, o30]; exact ⟨rfl, rfl⟩) (fun x _ _ => by rw [c1 31 (by decide) (by decide) (by decide), o31]) (hc 10 (by decide)) (hc 9 (by decide)) (hc 34 (by decide)) hG hR
      have e70 : w3 70 = w 70 := hc 70 (by decide)
      refine Sim_mk (fun c hc' => hc c (by revert hc'; revert c; decide)) (RT_fr (hc 5 (by decide)) (hc 20 (by decide)) (hc 48 (by decide)) (by rw [hc 11 (by decide)]) hS.tape) ?_ (fun q => ?_) (fun k k0 k1 => ?_) hS
      · rw [e70]
        exact now 0 (by omega) _ _ (fun _ _ _ => rfl) hS.now
      · rw [e8 0 1 (Or.inl (by omega)), (p3 0 (by omega)).2.1] at q
        obtain ⟨r1, r2, r3⟩ := hS.rdy q
        rw [e70]
        exact ⟨r1, r2, RC_fr (fun c hc' => hc c (by revert hc'; revert c; decide)) (hc 26 (by decide)) (hc 27 (by decide)) r3⟩
      · by_cases z : k = a1
        · rw [z, e80, e78, if_pos rfl]
          refine ⟨Or.inr rfl, rfl, fun _ => ?_⟩
          exact RS_cp (fun x x0 x1 => by rw [e8 (1 + a1) x (Or.inr (by omega)), p4 x x0 x1]) (by rw [c1 4 (by decide) (by decide) (by decide)]; exact p6) (by rw [c1 19 (by decide) (by decide) (by decide)]; exact p7) (fun x x0 x1 => by rw [c1 29 (by decide) (by decide) (by decide), c1 30 (by decide) (by decide) (by decide)]; exact p8 x x0 x1) (fun x x0 x1 => by rw [c1 31 (by decide) (by decide) (by decide)]; exact p9 x x0 x1) (hc 10 (by decide)) (hc 9 (by decide)) (hc 34 (by decide)) i77a hS.now
        · obtain ⟨i1, i2, i3⟩ := hS.img k0 k1
          rw [e8 (1 + k) 0 (Or.inl (by omega)), (p3 (1 + k) (by omega)).2.1, e78, if_neg z]
          exact ⟨i1, i2, fun q => now (1 + k) (by omega) _ _ (fun x x0 x1 => i77 k x k0 k1 z x0 x1) (i3 q)⟩
  · refine ⟨-1, w, w, ?_, ?_, hS⟩
    · rw [e_D_image]
      by_cases z : a1 < 0
      · rw [if_pos z]
      · rw [if_neg z, if_neg (by omega)]
    · rw [e_M_image, m_in, bnd, if_neg h1, if_pos rfl]
theorem p_back {LS RX : Int → List clau} {w : zW} {d : Nat} (hS : Sim LS RX w) (a1 : Int) : ∃ r w1 w2, D_back (d + 12) a1 w = some (r, w1) ∧ M_back (d + 12) a1 w1 = some (r, w2) ∧ Sim LS RX w2 := by
  by_cases h1 : 0 ≤ a1 ∧ a1 ≤ 3
  · obtain ⟨i1, i2, i3⟩ := hS.img h1.1 (by omega)
    by_cases hz : w 8 (1 + a1) 0 = 0
    · refine ⟨-1, w, w, ?_, ?_, hS⟩
      · rw [e_D_back, if_neg (by omega), if_neg (by omega), gd_t (by omega), if_pos hz]
      · rw [e_M_back, m_in, bnd, if_pos h1]
        dsimp only
        rw [if_neg (show ¬ (1 : Int) = 0 by decide), gd_t (by omega), if_pos (i2.trans hz)]
    · have hR := i3 (by rcases i1 with q | q; exact absurd q hz; exact q)
      have hb01 : isB (w 8 (1 + a1) 1) := by
        rcases hR.2 with q | q
        · exact Or.inl q.1
        · exact Or.inr q.1
      obtain ⟨w1, p1, p2, p3, p4, p5, p6, p7, p8, p9⟩ := s_copyS (d := d + 10) (s := 0) (s2 := 1 + a1) (w := w) hb01 (by omega)
      have hset := hS.set
      have hcnt := hS.cnt
      -- the setting, taken anew where one walks
      have key : ∃ w2, D_back (d + 12) a1 w = some (w1 8 0 6, w2) ∧ z_fr [7, 27] w1 w2 ∧ ((0 ≤ w2 7 0 0 ∧ w2 7 0 0 < 4) ∧ 0 ≤ w2 7 0 1 ∧ w2 7 0 1 < 6) ∧ (w1 8 0 1 = 1 → w2 7 0 0 = im w a1 0 ∧ w2 7 0 1 = im w a1 1 ∧ ∀ e, 0 ≤ e → e ≤ 30 → w2 27 0 e = 0) := by
        have hD : D_back (d + 12) a1 w = if w1 8 0 1 = 0 then some (w1 8 0 6, w1) else gd (0 ≤ w1 8 0 2 ∧ w1 8 0 2 < 4) (gd (0 ≤ w1 8 0 3 ∧ w1 8 0 3 < 6) ((Setting_take (d + 11) (0 + w1 8 0 2) (0 + w1 8 0 3) w1).bind fun r2 => some (r2.2 8 0 6, r2.2))) := by
          rw [e_D_back, if_neg (by omega), if_neg (by omega), gd_t (by omega), if_neg hz, gd_t (by omega), p1, bnd]
        rcases hR.2 with q | q
        · have q1 : w1 8 0 1 = 0 := by rw [p4 1 (by omega) (by omega)]; exact q.1
          refine ⟨w1, by rw [hD, if_pos q1], fr_rf _ _, by rw [p2 7 (by decide)]; exact hset, fun z => by omega⟩
        · have q1 : w1 8 0 1 = 1 := by rw [p4 1 (by omega) (by omega)]; exact q.1
          have q2 : w1 8 0 2 = im w a1 0 := by rw [p4 2 (by omega) (by omega)]; exact q.2.1.1
          have q3 : w1 8 0 3 = im w a1 1 := by rw [p4 3 (by omega) (by omega)]; exact q.2.2.1.1
          have b2 := q.2.1.2
          have b3 := q.2.2.1.2
          obtain ⟨w2, t1, t2, t3, t4, t5⟩ := s_setTake (d := d + 11) (i := 0 + w1 8 0 2) (j := 0 + w1 8 0 3) (w := w1)
          refine ⟨w2, ?_, t2, by rw [t3, t4]; omega, fun _ => ⟨by rw [t3]; omega, by rw [t4]; omega, t5⟩⟩
          rw [hD, if_neg (by omega), gd_t (by omega), gd_t (by omega), t1, bnd]
          dsimp only
          rw [t2 8 (by decide)]
      obtain ⟨w2, k1, k2, k3, k4⟩ := key
      have f2 : z_fr [4, 7, 8, 19, 27, 29, 30, 31] w w2 := fr_tr (fr_sub p2 (by decide)) (fr_sub k2 (by decide))
      have i77 : im w2 a1 = im w a1 := by unfold im; rw [f2 77 (by decide)]
      have hm := m_back_4 (d := d + 11) (k := a1) (w := w2) (by omega) 1392 0 rfl
      rw [show ((0 : Nat) : Int) = 0 from rfl, cbF_0, row_self, i77] at hm
      have hacts : w1 8 0 6 = if im w a1 0 = -1 then 0 else im w a1 2 := by
        rw [p4 6 (by omega) (by omega)]
        rcases hR.2 with q | q
        · rw [if_pos q.2.1]; exact q.2.2
        · rw [if_neg (by have := q.2.1.2.1; omega)]; exact q.2.2.2.2.1.1
      refine ⟨w1 8 0 6, w2, z_row w2 70 0 (cbF (w2 70 0) (im w a1) 0 1392), k1, ?_, ?_⟩
      · rw [e_M_back, m_in, bnd, if_pos h1]
        dsimp only
        rw [if_neg (show ¬ (1 : Int) = 0 by decide), gd_t (by omega), if_neg (fun q => hz (by rw [← i2, ← f2 78 (by decide)]; exact q)), hacts]
        exact hm
      · generalize hw3 : z_row w2 70 0 (cbF (w2 70 0) (im w a1) 0 1392) = w3
        have c2 : ∀ c, c ≠ 70 → w3 c = w2 c := fun c q => by
          funext x y
          rw [← hw3, row_c q]
        have hc : ∀ c, c ∉ [4, 7, 8, 19, 27, 29, 30, 31, 70] → w3 c = w c := fun c hc => by
          have g2 : ∀ q ∈ [4, 7, 8, 19, 27, 29, 30, 31], q ∈ [4, 7, 8, 19, 27, 29, 30, 31, 70] := by decide
          rw [c2 c (fun q => hc (by rw [q]; decide)), f2 c (fun q => hc (g2 c q))]
        have c1 : ∀ c, c ≠ 70 → c ≠ 7 → c ≠ 27 → w3 c = w1 c := fun c q r s => by
          rw [c2 c q, k2 c (by
            intro z
            rcases List.mem_cons.mp z with y | y
            · exact r y
            · exact s (List.mem_singleton.mp y))]
        have e8 : w3 8 = w1 8 := c1 8 (by decide) (by decide) (by decide)
        have g70 : ∀ x, 0 ≤ x → x < 1392 → w3 70 0 x = im w a1 x := fun x x0 x1 => by
          rw [← hw3, row_h]
          unfold cbF
          rw [if_pos (by omega), show x - 0 = x by omega]
        have e7 : w3 7 = w2 7 := c2 7 (by decide)
        refine Sim_mk7 (fun c hc' => hc c (by revert hc'; revert c; decide)) (RT_fr (hc 5 (by decide)) (hc 20 (by decide)) (hc 48 (by decide)) (by rw [hc 11 (by decide)]) hS.tape) (by rw [e7]; exact k3) ?_ (fun q => ?_) (fun k k0 k1' => ?_) hS
        · exact RS_cp (fun x x0 x1 => by rw [e8, p4 x x0 x1]) (by rw [c1 4 (by decide) (by decide) (by decide)]; exact p6) (by rw [c1 19 (by decide) (by decide) (by decide)]; exact p7) (fun x x0 x1 => by rw [c1 29 (by decide) (by decide) (by decide), c1 30 (by decide) (by decide) (by decide)]; exact p8 x x0 x1) (fun x x0 x1 => by rw [c1 31 (by decide) (by decide) (by decide)]; exact p9 x x0 x1) (hc 10 (by decide)) (hc 9 (by decide)) (hc 34 (by decide)) g70 hR
        · rw [e8] at q
          obtain ⟨r1, r2, r3⟩ := k4 q
          rw [e7, g70 0 (by omega) (by omega), g70 1 (by omega) (by omega)]
          exact ⟨r1, r2, RC_0 (fun e e0 e1 => by rw [c2 27 (by decide)]; exact r3 e e0 e1)⟩
        · obtain ⟨j1, j2, j3⟩ := hS.img k0 k1'
          obtain ⟨o4, o8, o19, o29, o30, o31⟩ := p3 (1 + k) (by omega)
          have im3 : im w3 k = im w k := by unfold im; rw [hc 77 (by decide)]
          rw [e8, o8, hc 78 (by decide), im3]
          exact ⟨j1, j2, fun q => RS_cp (fun x x0 x1 => by rw [e8, o8]) (by rw [c1 4 (by decide) (by decide) (by decide), o4]; exact ⟨rfl, rfl, rfl⟩) (by rw [c1 19 (by decide) (by decide) (by decide), o19]; exact eqR_rf _) (fun x _ _ => by rw [c1 29 (by decide) (by decide) (by decide), c1 30 (by decide) (by decide) (by decide), o29, o30]; exact ⟨rfl, rfl⟩) (fun x _ _ => by rw [c1 31 (by decide) (by decide) (by decide), o31]) (hc 10 (by decide)) (hc 9 (by decide)) (hc 34 (by decide)) (fun _ _ _ => rfl) (j3 q)⟩
  · refine ⟨-1, w, w, ?_, ?_, hS⟩
    · rw [e_D_back]
      by_cases z : a1 < 0
      · rw [if_pos z]
      · rw [if_neg z, if_pos (by omega)]
    · rw [e_M_back, m_in, bnd, if_neg h1, if_pos rfl]
