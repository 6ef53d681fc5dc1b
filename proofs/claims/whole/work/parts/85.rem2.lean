theorem dk_bd {m : Int} (h : 0 ≤ m ∧ m ≤ 8) : (0 ≤ dk m ∧ dk m ≤ 8) ∧ (m ≤ 4 → dk m = m) ∧ (5 ≤ m → 5 ≤ dk m ∧ mkd (dk m) = m ∧ ck (dk m) = m - 5 ∧ (dk m = 8 ↔ m = 7) ∧ (dk m = 5 ↔ m = 8)) := by
  have : m = 0 ∨ m = 1 ∨ m = 2 ∨ m = 3 ∨ m = 4 ∨ m = 5 ∨ m = 6 ∨ m = 7 ∨ m = 8 := by omega
  rcases this with rfl | rfl | rfl | rfl | rfl | rfl | rfl | rfl | rfl <;> decide
section
variable {w : zW} {i j : Int} {Cs : List clau} {set : Nat}
theorem gAt_OK (hE : ENV w i j Cs) (hB : RB w 0 (w 70 0)) : ∀ k : Nat, gOK w i (gAt w i j Cs set (w 70 0) k) := by
  intro k
  induction k with
  | zero =>
    have hb4 := hB.2.2.2.1
    have hi := hE.2.2.2.1.1
    refine ⟨beg_OK hb4.2.2.1 hb4.2.2.2.2 (by rw [← hi]; exact hb4.2.2.2.1), Int.le_refl 0, by show (0 : Int) ≤ 30; decide⟩
  | succ k ih => exact gStep_OK hE.1 ih
/-- the class's again -/
theorem s_again_1 {d : Nat} (hE : ENV w i j Cs) (hB : RB w 0 (w 70 0)) (hset : set < 16) : ∀ (m k : Nat) (w1 : zW), (k : Int) + m = w 8 0 6 → z_fr gC w w1 → (∀ q, q ≠ 5 → w1 4 q = w 4 q ∧ w1 19 q = w 19 q) → EN w1 i j Cs → GV w1 k (gAt w i j Cs set (w 70 0) k) →
    ∃ w', State_doAgain_1 (d + 4) 0 set 5 k w1 = some (0, w') ∧ z_fr gC w w' ∧ (∀ q, q ≠ 5 → w' 4 q = w 4 q ∧ w' 19 q = w 19 q) ∧ EN w' i j Cs ∧ eqR (w' 19 5) (gAt w i j Cs set (w 70 0) (w 8 0 6).toNat).1 := by
  obtain ⟨b1, b2, b3, b4, b5, b6, b7, b8, b9, b10, b11, b12⟩ := hB
  intro m
  induction m with
  | zero =>
    intro k w1 hk hf ho hN hV
    have h8 : w1 8 0 6 = w 8 0 6 := by rw [hf 8 (by decide)]
    refine ⟨w1, by rw [e_State_doAgain_1, if_pos (by omega)], hf, ho, hN, ?_⟩
    rw [show (w 8 0 6).toNat = k by omega]
    exact hV.1.1
  | succ m ih =>
    intro k w1 hk hf ho hN hV
    have ee := aC_e hf
    obtain ⟨q1, q2, q3, q4, q5, q6⟩ := b12 k (by omega) (by omega)
    have hdk := dk_bd q1
    have hi : w 70 0 0 = i := hE.2.2.2.1.1
    rw [hi] at q4
    have hOK := gAt_OK (set := set) hE ⟨b1, b2, b3, b4, b5, b6, b7, b8, b9, b10, b11, b12⟩ k
    have hsg : sgB w1 i (dk (w 70 0 (582 + 4 * (k : Int)))) (w 70 0 (582 + 4 * (k : Int) + 1)) (w 70 0 (582 + 4 * (k : Int) + 2)) := by
      refine sgB_of (RW_fr (fun c hc => hf c (by revert hc; revert c; decide)) hE.2.1) (fun q => ?_)
      have hm5 : 5 ≤ w 70 0 (582 + 4 * (k : Int)) := by
        rcases Int.lt_or_le (w 70 0 (582 + 4 * (k : Int))) 5 with z | z
        · have := hdk.2.1 (by omega)
          omega
        · exact z
      rw [hf 9 (by decide)]
      exact ⟨⟨q2.1, q4 ((hdk.2.2 hm5).2.2.2.1.1 q)⟩, q3⟩
    have hg : gOK w1 i (gAt w i j Cs set (w 70 0) k) := by
      unfold gOK
      rw [opw_e ee]
      exact hOK
    obtain ⟨w2, s1, s2, s3, s4, s5⟩ := s_againStep (d := d) (set := set) (k := k) hN hg hV (by omega) hset hdk.1 q2 q3 hsg (by rw [hf 8 (by decide)]; omega) (by rw [hf 29 (by decide)]; exact q5)
    rw [gStep_e ee] at s5
    obtain ⟨w3, t1, t2⟩ := ih (k + 1) w2 (by omega) (fr_tr hf s2) (fun q hq => ⟨(s3 q hq).1.trans (ho q hq).1, (s3 q hq).2.trans (ho q hq).2⟩) s4 s5
    exact ⟨w3, s1.trans t1, t2⟩
theorem s_again {d : Nat} (hE : ENV w i j Cs) (hB : RB w 0 (w 70 0)) (hset : set < 16) : ∃ w', State_doAgain (d + 4) 0 set 5 w = some (0, w') ∧ z_fr gC w w' ∧ (∀ q, q ≠ 5 → w' 4 q = w 4 q ∧ w' 19 q = w 19 q) ∧ EN w' i j Cs ∧ eqR (w' 19 5) (gAt w i j Cs set (w 70 0) (w 8 0 6).toNat).1 := by
  have hB0 := hB
  obtain ⟨b1, b2, b3, b4, b5, b6, b7, b8, b9, b10, b11, b12⟩ := hB
  obtain ⟨w1, p1, p2, p3, p4, p5, p6, p7⟩ := s_oddsBegin (d := d + 2) (o := 5) (c := w 8 0 4) (way := w 8 0 5) (w := w) (by omega) (by omega)
  have ee : sameE w w1 := sameE_fr p2 (by decide)
  rw [b4.1, b4.2.1] at p4
  obtain ⟨w', q1, q2⟩ := s_again_1 (d := d) (set := set) hE hB0 hset (w 8 0 6).toNat 0 w1 (by omega) (fr_sub p2 (by decide)) p3 (EN_e ee (RC_fr ee (p2 26 (by decide)) (p2 27 (by decide)) hE.1.2.2.2.2.2.2.2.2.2) hE.1) ⟨⟨p4, p7⟩, by omega, by omega⟩
  refine ⟨w', ?_, q2⟩
  rw [e_State_doAgain, p1, bnd]
  exact q1
/-- what was told, as the model keeps it -/
def RDm (w : zW) (G : Int → Int) : Prop := ∀ k, 0 ≤ k → k < G 2 → (0 ≤ G (582 + 4 * k) ∧ G (582 + 4 * k) ≤ 8) ∧ (0 ≤ G (582 + 4 * k + 1) ∧ G (582 + 4 * k + 1) ≤ 40) ∧ (0 ≤ G (582 + 4 * k + 2) ∧ G (582 + 4 * k + 2) ≤ 40) ∧ (G (582 + 4 * k) = 7 → G (582 + 4 * k + 1) < w 9 (G 0) 3)
/-- the model's again -/
def HV (w : zW) (s : gS) : Prop := eqR (wtM w 71 0) s.1 ∧ w 11 0 35 = s.2
theorem m_againStep {d k : Nat} {m a b : Int} {s : gS} (hE : ENV w i j Cs) (hs : gOK w i s) (hV : HV w s) (hset : set < 16) (hk : (k : Int) < w 70 0 2 ∧ w 70 0 2 ≤ 200) (hm : 0 ≤ m ∧ m ≤ 8) (ha : 0 ≤ a ∧ a ≤ 40) (hb : 0 ≤ b ∧ b ≤ 40) (hsg : m = 7 → a < w 9 i 3) (g0 : w 70 0 (582 + 4 * (k : Int)) = m) (g1 : w 70 0 (582 + 4 * (k : Int) + 1) = a) (g2 : w 70 0 (582 + 4 * (k : Int) + 2) = b) :
    ∃ w', M_again_1 (d + 5) set k w = M_again_1 (d + 5) set (k + 1 : Nat) w' ∧ mF mrC [30, 35] w w' ∧ HV w' (gStep w i j Cs set (dk m) a b s) := by
  obtain ⟨v1, v2⟩ := hV
  have hdk := dk_bd hm
  have hw : wO0 (opw w i) (wtM w 71 0) := wO0_eq hs.1.w0 v1
  have e6 : M_again_1 (d + 5) set k w = if 5 ≤ m ∧ bt set (m - 5) = 1 then M_again_6 (d + 5) set k (582 + 4 * (k : Int)) m 1 w else M_again_6 (d + 5) set k (582 + 4 * (k : Int)) m 0 w := by
    rw [e_M_again_1, gd_t (by decide), if_neg (by omega), gd_t (by omega), gd_t (by omega), gd_t (by omega)]
    simp only [g0]
    by_cases q : m ≤ 4
    · rw [if_pos q, if_neg (by omega)]
    · rw [if_neg q, gd_t (by omega), gd_t (by omega), bt_z hset]
      by_cases z : bt set (m - 5) = 1
      · rw [if_pos z, if_pos ⟨by omega, z⟩]
      · rw [if_neg z, if_neg (fun y => z y.2)]
  have hlater : ∀ w1 : zW, w1 11 0 35 = s.2 → (M_later (d + 4) (w1 11 0 35) w1).bind (fun r1 => gd (inI ((k : Int) + 1)) (M_again_1 (d + 5) set ((k : Int) + 1) (z_up r1.2 11 0 35 r1.1))) = M_again_1 (d + 5) set (k + 1 : Nat) (z_up w1 11 0 35 (min 30 (s.2 + 1))) := fun w1 h => by
    rw [h, m_later hs.2.1, bnd, gd_t (by omega)]
    rfl
  rw [e6]
  unfold gStep
  by_cases q5 : 5 ≤ m
  · obtain ⟨h1, h2, h3, h4, h5⟩ := hdk.2.2 q5
    by_cases z : bt set (m - 5) = 1
    · rw [if_pos ⟨q5, z⟩, if_pos (Or.inr (by rw [h3]; exact z)), e_M_again_6, if_pos q5, if_neg (by decide), gd_t (by omega), gd_t (by omega), gd_t (by omega), gd_t (by omega), g1, g2, v2]
      obtain ⟨w1, p1, p2, p3⟩ := m_sgn (d := d + 1) (e := s.2) (kd := dk m) (x := a) (y := b) (w := w) (Or.inr ⟨rfl, rfl⟩) hE.2.1 hE.2.2.1 hE.2.2.2.1.1 hE.2.2.2.2.1 hE.2.2.2.1.2 hE.2.2.2.2.2 hw ⟨h1, hdk.1.2⟩ hs.2 (fun y => ⟨⟨ha.1, hsg (h4.1 y)⟩, hb⟩)
      rw [h2, aS_eqR v1] at p1
      have p3' := eqR_tr p3 (aW_eqR v1)
      have f1 := mF_mfk p2
      have r35 : w1 11 0 35 = s.2 := by rw [f1.2 35 (by decide), v2]
      rw [p1, bnd]
      dsimp only
      rw [if_neg (show ¬ dk m ≤ 4 by omega)]
      by_cases y : m = 8
      · rw [if_pos y, if_pos (h5.2 y)]
        rcases aS_01 w i j (dk m) a b s.2 s.1 with x | x
        · rw [x, if_pos rfl, if_neg (by decide), hlater w1 r35]
          exact ⟨_, rfl, mF_tr (mF_sub f1 (by decide) (by decide)) (mF_11 (by decide)), fun t t0 t1 => by
            show (z_up w1 11 0 35 (min 30 (s.2 + 1))) 71 0 (0 + t) = _
            rw [up_c (by decide)]
            exact p3' t t0 t1, up_h⟩
        · rw [x, if_neg (by decide), if_pos rfl, gd_t (by omega)]
          exact ⟨_, rfl, mF_tr (mF_sub f1 (by decide) (by decide)) (mF_11 (by decide)), fun t t0 t1 => by
            show (z_up w1 11 0 35 0) 71 0 (0 + t) = _
            rw [up_c (by decide)]
            exact p3' t t0 t1, up_h⟩
      · rw [if_neg y, if_neg (fun x => y (h5.1 x)), gd_t (by omega)]
        exact ⟨w1, rfl, mF_sub f1 (by decide) (by decide), p3', r35⟩
    · rw [if_neg (fun y => z y.2), if_neg (by rw [h3]; rintro (y | y) <;> omega), e_M_again_6, if_pos q5, if_pos rfl]
      by_cases y : m = 8
      · rw [if_pos y, if_pos (h5.2 y), hlater w v2]
        exact ⟨_, rfl, mF_11 (by decide), fun t t0 t1 => by
          show (z_up w 11 0 35 (min 30 (s.2 + 1))) 71 0 (0 + t) = _
          rw [up_c (by decide)]
          exact v1 t t0 t1, up_h⟩
      · rw [if_neg y, if_neg (fun x => y (h5.1 x)), gd_t (by omega)]
        exact ⟨w, rfl, mF_rf _ _ _, v1, v2⟩
  · have hm4 := hdk.2.1 (by omega)
    rw [if_neg (fun y => q5 y.1), hm4, if_pos (Or.inl (show m ≤ 4 by omega)), if_pos (show m ≤ 4 by omega), e_M_again_6, if_neg q5, v2]
    obtain ⟨w1, p1, p2, p3⟩ := m_act (d := d) (e := s.2) (kd := m) (x := a) (y := b) (w := w) (Or.inr ⟨rfl, rfl⟩) hE.2.1 hE.2.2.1 hE.2.2.2.1.1 hE.2.2.2.2.1 hE.2.2.2.1.2 hE.2.2.2.2.2 hw (by omega)
    have p3' := eqR_tr p3 (aW_eqR v1)
    have f1 := mF_mfk p2
    have r35 : w1 11 0 35 = s.2 := by rw [f1.2 35 (by decide), v2]
    rw [p1, bnd, hlater w1 r35]
    exact ⟨_, rfl, mF_tr (mF_sub f1 (by decide) (by decide)) (mF_11 (by decide)), fun t t0 t1 => by
      show (z_up w1 11 0 35 (min 30 (s.2 + 1))) 71 0 (0 + t) = _
      rw [up_c (by decide)]
      exact p3' t t0 t1, up_h⟩
theorem m_again_1 {d : Nat} {G : Int → Int} {n : Nat} (hE : ENV w i j Cs) (hG : w 70 0 = G) (hn : G 2 = n ∧ n ≤ 200) (hD : RDm w G) (hOK : ∀ k : Nat, gOK w i (gAt w i j Cs set G k)) (hset : set < 16) : ∀ (m k : Nat) (w1 : zW), k + m = n → mF mrC [30, 35] w w1 → HV w1 (gAt w i j Cs set G k) →
    ∃ w', M_again_1 (d + 5) set k w1 = some (0, w') ∧ mF mrC [30, 35] w w' ∧ eqR (wtM w' 71 0) (gAt w i j Cs set G n).1 := by
  intro m
  induction m with
  | zero =>
    intro k w1 hk hf hV
    have h70 := hf.1 70 (by decide) (by decide)
    refine ⟨w1, by rw [e_M_again_1, gd_t (by decide), h70, hG, if_pos (by omega)], hf, ?_⟩
    rw [show n = k by omega]
    exact hV.1
  | succ m ih =>
    intro k w1 hk hf hV
    have h70 : w1 70 0 = G := by rw [hf.1 70 (by decide) (by decide), hG]
    have ee : sameE w w1 := sameE_m hf (by decide)
    have hE1 : ENV w1 i j Cs := ENV_m hf (by decide) (by decide) hE
    obtain ⟨q1, q2, q3, q4⟩ := hD k (by omega) (by omega)
    have hi : G 0 = i := by rw [← hG]; exact hE.2.2.2.1.1
    rw [hi] at q4
    have hg : gOK w1 i (gAt w i j Cs set G k) := by
      unfold gOK
      rw [opw_e ee]
      exact hOK k
    obtain ⟨w2, s1, s2, s3⟩ := m_againStep (d := d) (k := k) (set := set) hE1 hg hV hset (by rw [h70]; omega) q1 q2 q3 (by rw [ee 9 (by decide)]; exact q4) (by rw [h70]) (by rw [h70]) (by rw [h70])
    rw [gStep_e ee] at s3
    obtain ⟨w3, t1, t2⟩ := ih (k + 1) w2 (by omega) (mF_tr hf s2) s3
    exact ⟨w3, s1.trans t1, t2⟩
theorem m_again {d : Nat} {G : Int → Int} {n : Nat} (hE : ENV w i j Cs) (hG : w 70 0 = G) (hn : G 2 = n ∧ n ≤ 200) (hD : RDm w G) (hc : 0 ≤ G 1390 ∧ G 1390 < 144) (hw : 0 ≤ G 1391 ∧ G 1391 < 4) (hOK : ∀ k : Nat, gOK w i (gAt w i j Cs set G k)) (hset : set < 16) (h38 : w 11 0 38 = G 1390) (h39 : w 11 0 39 = G 1391) :
    ∃ w', M_again (d + 5) set w = some (0, w') ∧ mF mrC [30, 35] w w' ∧ eqR (wtM w' 71 0) (gAt w i j Cs set G n).1 := by
  obtain ⟨w1, p1, p2, p3, p4⟩ := m_surely (d := d + 4) (k1 := 71) (b := 0) (c := G 1390) (way := G 1391) (w := w) (Or.inr ⟨rfl, rfl⟩) hc hw
  have f2 : mF mrC [30, 35] w (z_up w1 11 0 35 0) := mF_tr (mF_sub p2 (by decide) (by decide)) (mF_11 (by decide))
  obtain ⟨w', q1, q2⟩ := m_again_1 (d := d) (set := set) hE hG hn hD hOK hset n 0 (z_up w1 11 0 35 0) (by omega) f2 ⟨fun t t0 t1 => by
    show (z_up w1 11 0 35 0) 71 0 (0 + t) = _
    rw [up_c (by decide)]
    exact p4 t t0 t1, up_h⟩
  refine ⟨w', ?_, q2⟩
  rw [e_M_again, h38, h39, p1, bnd]
  exact q1
end
