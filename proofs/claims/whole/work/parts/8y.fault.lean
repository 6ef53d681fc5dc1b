/-! SUMS AND TESTS: what the class writes, and behind a fault -/
def EF (ci : Int) (w w' : zW) : Prop := z_fr [1, 5, 13] w w' ∧ (∀ i, i ≠ ci → w' 1 i = w 1 i ∧ w' 13 i = w 13 i) ∧ (∀ s, s ≠ 5 → w' 1 ci s = w 1 ci s) ∧ (∀ s, (s < 2 ∨ 6 < s) → w' 5 0 s = w 5 0 s) ∧ (∀ p, p < w 1 ci 5 → w' 13 ci p = w 13 ci p) ∧ w 1 ci 5 ≤ w' 1 ci 5
theorem EF_rf (ci : Int) (w : zW) : EF ci w w := ⟨fr_rf _ _, fun _ _ => ⟨rfl, rfl⟩, fun _ _ => rfl, fun _ _ => rfl, fun _ _ => rfl, Int.le_refl _⟩
theorem EF_tr {ci : Int} {w w' w'' : zW} (h : EF ci w w') (h' : EF ci w' w'') : EF ci w w'' := by
  obtain ⟨a1, a2, a3, a4, a5, a6⟩ := h
  obtain ⟨b1, b2, b3, b4, b5, b6⟩ := h'
  exact ⟨fr_tr a1 b1, fun i hi => ⟨(b2 i hi).1.trans (a2 i hi).1, (b2 i hi).2.trans (a2 i hi).2⟩, fun s hs => (b3 s hs).trans (a3 s hs), fun s hs => (b4 s hs).trans (a4 s hs), fun p hp => (b5 p (by omega)).trans (a5 p hp), by omega⟩
theorem RF.e {ci : Int} {w w' : zW} (h : RF w w') : EF ci w w' := by
  have h1 := h.1 1 (by decide)
  have h13 := h.1 13 (by decide)
  exact ⟨fr_sub h.1 (by decide), fun i _ => by rw [h1, h13]; exact ⟨rfl, rfl⟩, fun s _ => by rw [h1], fun s hs => h.2 s (by omega) (by omega) (by omega) (by omega), fun p _ => by rw [h13], by rw [h1]; exact Int.le_refl _⟩
theorem s_add {d : Nat} {ci a b u : Int} {w : zW} (hu : w 1 ci 5 = u) (h0 : 0 ≤ u ∧ u < 400) (ha : 0 ≤ a ∧ a < 256) (hb : 0 ≤ b ∧ b ≤ 99999) : Clauses_add d ci a b w = some (0, z_up (z_up w 13 ci u (a + 256 * b)) 1 ci 5 (u + 1)) := by
  have h8 : (2 : Int) ^ (8 : Int).toNat = 256 := by decide
  have ho : z_or a (b * 2 ^ (8 : Int).toNat) = a + b * 256 := z_or_mul (k := 8) ⟨ha.1, by show a < 256; omega⟩ hb.1 (by show a + b * 256 < _; omega)
  rw [e_Clauses_add, hu, if_neg (by omega), gd_t (by rw [h8]; omega), gd_t (by omega), gd_t (by omega), ho, Int.mul_comm b 256]
theorem EF_add {ci u v : Int} {w : zW} (hu : w 1 ci 5 = u) : EF ci w (z_up (z_up w 13 ci u v) 1 ci 5 (u + 1)) := by
  refine ⟨fr_tr (fr_up (by decide)) (fr_up (by decide)), fun i hi => ⟨?_, ?_⟩, fun s hs => ?_, fun s _ => ?_, fun p hp => ?_, ?_⟩
  · funext s
    rw [up_i hi, up_c (by decide)]
  · funext s
    rw [up_c (by decide), up_i hi]
  · rw [up_s hs, up_c (by decide)]
  · rw [up_c (by decide), up_c (by decide)]
  · rw [up_c (by decide), up_s (by omega)]
  · rw [up_h]; omega
/-- the class behind a fault, in a text that writes to ci -/
def FS (ci f P : Int) (w : zW) : Prop := CF f w ∧ w 5 0 8 = ci ∧ (0 ≤ w 1 ci 5 ∧ w 1 ci 5 ≤ 400) ∧ 0 ≤ w 5 0 6 ∧ w 5 0 6 ≤ P
section
variable {d : Nat} {ci f P : Int} {w : zW}
theorem FS_le {P' : Int} (h : FS ci f P w) (hP : P ≤ P') : FS ci f P' w := ⟨h.1, h.2.1, h.2.2.1, h.2.2.2.1, by have := h.2.2.2.2; omega⟩
theorem FS_RF {w' : zW} (h : FS ci f P w) (hr : RF w w') (hc : CF f w') : FS ci f P w' := by
  obtain ⟨h1, h2, h3, h4⟩ := h
  refine ⟨hc, ?_, ?_, ?_⟩
  · rw [hr.2 8 (by decide) (by decide) (by decide) (by decide)]; exact h2
  · rw [hr.1 1 (by decide)]; exact h3
  · rw [hr.2 6 (by decide) (by decide) (by decide) (by decide)]; exact h4
theorem F_add {a b : Int} (h : FS ci f P w) (ha : 0 ≤ a ∧ a < 256) (hb : 0 ≤ b ∧ b ≤ 99999) : ∃ w', Clauses_add d ci a b w = some (0, w') ∧ EF ci w w' ∧ FS ci f P w' := by
  obtain ⟨h1, h2, h3, h4⟩ := h
  by_cases z : 400 ≤ w 1 ci 5
  · exact ⟨w, by rw [e_Clauses_add, if_pos z], EF_rf _ _, h1, h2, h3, h4⟩
  · refine ⟨_, s_add rfl ⟨h3.1, by omega⟩ ha hb, EF_add rfl, ?_, ?_, ?_, ?_⟩
    · unfold CF at *
      rw [up_c (by decide), up_c (by decide), up_c (by decide), up_c (by decide)]
      exact h1
    · rw [up_c (by decide), up_c (by decide)]; exact h2
    · rw [up_h]; omega
    · rw [up_c (by decide), up_c (by decide)]; exact h4
theorem F_next (h : FS ci f P w) : ∃ w', Reader_next d w = some (0, w') ∧ EF ci w w' ∧ FS ci f P w' := by
  obtain ⟨w', p1, p2, p3⟩ := s_nxF (d := d) h.1
  exact ⟨w', p1, p2.e, FS_RF h p2 p3⟩
theorem F_refuse {k : Int} (h : FS ci f P w) : ∃ w', Reader_refuse d k w = some (0, w') ∧ EF ci w w' ∧ FS ci f P w' := by
  obtain ⟨w', p1, p2, p3⟩ := s_refuseF (d := d) (k := k) h.1
  exact ⟨w', p1, p2.e, FS_RF h p2 p3⟩
theorem F_up6 {v P' : Int} (h : FS ci f P w) (hv : 0 ≤ v ∧ v ≤ P') : EF ci w (z_up w 5 0 6 v) ∧ FS ci f P' (z_up w 5 0 6 v) := by
  obtain ⟨⟨c1, c2, c3⟩, h2, h3, h4⟩ := h
  refine ⟨⟨fr_up (by decide), fun i _ => ?_, fun s _ => up_c (by decide), fun s hs => up_s (by omega), fun p _ => up_c (by decide), ?_⟩, ⟨?_, ?_, c3⟩, ?_, ?_, ?_, ?_⟩
  · rw [upc (by decide), upc (by decide)]; exact ⟨rfl, rfl⟩
  · rw [upc (by decide)]; exact Int.le_refl _
  · rw [up_s (by decide)]; exact c1
  · rw [up_s (by decide)]; exact c2
  · rw [up_s (by decide)]; exact h2
  · rw [upc (by decide)]; exact h3
  · rw [up_h]; exact hv.1
  · rw [up_h]; exact hv.2
theorem F_count (h : FS ci f P w) (hP : P ≤ 1000000) : ∃ w', Reader_countPart (d + 1) w = some (0, w') ∧ EF ci w w' ∧ FS ci f (P + 1) w' := by
  have h6 := h.2.2.2
  rw [e_Reader_countPart]
  by_cases z : w 5 0 6 < 60
  · obtain ⟨p1, p2⟩ := F_up6 (v := w 5 0 6 + 1) (P' := P + 1) h (by omega)
    exact ⟨_, by rw [if_pos z, gd_t (by omega)], p1, p2⟩
  · obtain ⟨w1, q1, q2, q3⟩ := F_refuse (d := d) (k := 3) h
    have h6' := q3.2.2.2
    obtain ⟨p1, p2⟩ := F_up6 (v := w1 5 0 6 + 1) (P' := P + 1) q3 (by omega)
    exact ⟨_, by rw [if_neg z, q1, bnd]; dsimp only; rw [gd_t (by omega)], EF_tr q2 p1, p2⟩
theorem F_value (h : FS ci f P w) (hP : P ≤ 1000000) : ∃ w', Reader_value (d + 2) w = some (0, w') ∧ EF ci w w' ∧ FS ci f (P + 1) w' := by
  have hs : ¬ w 5 0 3 = 48 := by have := h.1.2.1; omega
  obtain ⟨w1, q1, q2, q3⟩ := F_refuse (d := d + 1) (k := 0) h
  obtain ⟨w2, r1, r2, r3⟩ := F_count (d := d) q3 hP
  obtain ⟨w3, t1, t2, t3⟩ := F_next (d := d + 1) r3
  refine ⟨w3, ?_, EF_tr q2 (EF_tr r2 t2), t3⟩
  rw [e_Reader_value, s_wordF h.1, bnd]
  dsimp only
  rw [if_neg hs, if_pos rfl, q1, bnd]
  dsimp only
  rw [r1, bnd]
  dsimp only
  rw [t1, bnd]
theorem F_sum_1 {l k : Int} (h : FS ci f P w) (hl : 0 ≤ l ∧ l < 256) : ∃ w', Reader_sum_1 (d + 1) l k w = some (0, w') ∧ EF ci w w' ∧ FS ci f P w' := by
  have hs := h.1.2.1
  have fin : ∃ w', (if l = 0 then some ((0 : Int), w) else (Clauses_add d (w 5 0 8) l 0 w).bind fun r1 => some (0, r1.2)) = some (0, w') ∧ EF ci w w' ∧ FS ci f P w' := by
    by_cases z : l = 0
    · exact ⟨w, by rw [if_pos z], EF_rf _ _, h⟩
    · obtain ⟨w1, q1, q2, q3⟩ := F_add (d := d) (b := 0) h hl (by decide)
      exact ⟨w1, by rw [if_neg z, h.2.1, q1, bnd], q2, q3⟩
  rw [e_Reader_sum_1]
  by_cases y : 400 ≤ k
  · rw [if_pos y]
    exact fin
  · rw [if_neg y, if_neg (by omega), if_neg (by omega), if_neg (by omega), if_neg (by omega)]
    exact fin
theorem F_sum (h : FS ci f P w) (hP : P ≤ 1000000) : ∃ w', Reader_sum (d + 3) w = some (0, w') ∧ EF ci w w' ∧ FS ci f (P + 1) w' := by
  obtain ⟨w1, q1, q2, q3⟩ := F_value (d := d) h hP
  obtain ⟨w2, r1, r2, r3⟩ := F_sum_1 (d := d + 2) (l := 0) (k := 0) q3 (by decide)
  exact ⟨w2, by rw [e_Reader_sum, q1, bnd]; exact r1, EF_tr q2 r2, r3⟩
theorem F_deeper {k : Int} (h : FS ci f P w) (hk : 0 ≤ k ∧ k ≤ 100) : ∃ w', Reader_deeper (d + 1) k w = some (k + 1, w') ∧ EF ci w w' ∧ FS ci f P w' := by
  rw [e_Reader_deeper]
  by_cases z : k < 10
  · obtain ⟨w1, q1, q2, q3⟩ := F_next (d := d) h
    exact ⟨w1, by rw [if_pos z, q1, bnd]; dsimp only; rw [gd_t (by omega)], q2, q3⟩
  · obtain ⟨w1, q1, q2, q3⟩ := F_refuse (d := d) (k := 2) h
    exact ⟨w1, by rw [if_neg z, q1, bnd]; dsimp only; rw [gd_t (by omega)], q2, q3⟩
theorem F_addC {a : Int} (h : FS ci f P w) (ha : 0 ≤ a ∧ a < 256) : ∃ w', Reader_addComparison (d + 1) a w = some (0, w') ∧ EF ci w w' ∧ FS ci f P w' := by
  have two : ∀ x y : Int, 0 ≤ x → x < 256 → 0 ≤ y → y < 256 → ∃ w', ((Clauses_add d (w 5 0 8) x 0 w).bind fun r1 => (Clauses_add d (r1.2 5 0 8) y 0 r1.2).bind fun r2 => some ((0 : Int), r2.2)) = some (0, w') ∧ EF ci w w' ∧ FS ci f P w' := fun x y x0 x1 y0 y1 => by
    obtain ⟨w1, q1, q2, q3⟩ := F_add (d := d) (b := 0) h ⟨x0, x1⟩ (by decide)
    obtain ⟨w2, r1, r2, r3⟩ := F_add (d := d) (b := 0) q3 ⟨y0, y1⟩ (by decide)
    refine ⟨w2, ?_, EF_tr q2 r2, r3⟩
    rw [h.2.1, q1, bnd]
    dsimp only
    rw [q3.2.1, r1, bnd]
  rw [e_Reader_addComparison]
  by_cases z : a = 108
  · rw [if_pos z]
    exact two 62 33 (by decide) (by decide) (by decide) (by decide)
  rw [if_neg z]
  by_cases y : a = 103
  · rw [if_pos y]
    exact two 60 33 (by decide) (by decide) (by decide) (by decide)
  · obtain ⟨w1, q1, q2, q3⟩ := F_add (d := d) (b := 0) h ha (by decide)
    exact ⟨w1, by rw [if_neg y, h.2.1, q1, bnd], q2, q3⟩
theorem F_fact_19 : ∀ (m : Nat) (l2 l3 : Int) (w : zW), l3 + m = l2 → 0 ≤ l3 → l2 ≤ 1000 → FS ci f P w → ∃ w', Reader_fact_19 (d + 1) l2 l3 w = some (0, w') ∧ EF ci w w' ∧ FS ci f P w' := by
  intro m
  induction m with
  | zero =>
    intro l2 l3 w h0 _ _ h
    exact ⟨w, by rw [e_Reader_fact_19, if_pos (by omega)], EF_rf _ _, h⟩
  | succ m ih =>
    intro l2 l3 w h0 h1 h2 h
    obtain ⟨w1, q1, q2, q3⟩ := F_add (d := d) (a := 33) (b := 0) h (by decide) (by decide)
    obtain ⟨w2, r1, r2, r3⟩ := ih l2 (l3 + 1) w1 (by omega) (by omega) h2 q3
    refine ⟨w2, ?_, EF_tr q2 r2, r3⟩
    rw [e_Reader_fact_19, if_neg (by omega), h.2.1, q1, bnd]
    dsimp only
    rw [gd_t (by omega)]
    exact r1
theorem F_fact_4 {l1 l2 : Int} (h : FS ci f P w) (hP : P ≤ 1000000) (hl : 0 ≤ l1 ∧ l1 ≤ l2 ∧ l2 ≤ 1000) : ∃ w', Reader_fact_4 (d + 4) l1 l2 w = some (0, w') ∧ EF ci w w' ∧ FS ci f (P + 1) w' := by
  obtain ⟨w1, q1, q2, q3⟩ := F_sum (d := d) h hP
  have hs := q3.1.2.1
  obtain ⟨w2, r1, r2, r3⟩ := F_refuse (d := d + 3) (k := 0) q3
  obtain ⟨w3, t1, t2, t3⟩ := F_fact_19 (d := d + 3) (l2 - l1).toNat l2 l1 w2 (by omega) hl.1 hl.2.2 r3
  refine ⟨w3, ?_, EF_tr q2 (EF_tr r2 t2), t3⟩
  rw [e_Reader_fact_4, if_neg (by have := h.1.2.1; omega), q1, bnd]
  dsimp only
  rw [if_neg (by omega), if_neg (by omega), if_neg (by omega), if_neg (by omega), if_neg (by omega), r1, bnd]
  exact t1
theorem F_fact_1 {l1 l2 l3 : Int} (h : FS ci f P w) (hP : P ≤ 1000000) (hl : 0 ≤ l1 ∧ l1 ≤ l2 ∧ l2 ≤ 1000) : ∃ w', Reader_fact_1 (d + 4) l1 l2 l3 w = some (0, w') ∧ EF ci w w' ∧ FS ci f (P + 1) w' := by
  obtain ⟨w1, q1, q2, q3⟩ := F_fact_4 (d := d) h hP hl
  refine ⟨w1, ?_, q2, q3⟩
  rw [e_Reader_fact_1]
  by_cases z : 10 < l3
  · rw [if_pos z]; exact q1
  · rw [if_neg z, s_wordF h.1, bnd]
    dsimp only
    rw [if_neg (by decide)]
    exact q1
theorem F_fact {l : Int} (h : FS ci f P w) (hP : P ≤ 1000000) (hl : 0 ≤ l ∧ l ≤ 1000) : ∃ w', Reader_fact (d + 4) l w = some (0, w') ∧ EF ci w w' ∧ FS ci f (P + 1) w' := by
  rw [e_Reader_fact]
  exact F_fact_1 h hP ⟨hl.1, Int.le_refl _, hl.2⟩
theorem F_test_1 {l1 l2 l3 : Int} (h : FS ci f P w) : ∃ w', Reader_test_1 (d + 1) l1 l2 l3 w = some (0, w') ∧ EF ci w w' ∧ FS ci f P w' := by
  have fin : ∃ w', (if l2 = 0 then some ((0 : Int), w) else (Clauses_add d (w 5 0 8) 124 0 w).bind fun r1 => some (0, r1.2)) = some (0, w') ∧ EF ci w w' ∧ FS ci f P w' := by
    by_cases z : l2 = 0
    · exact ⟨w, by rw [if_pos z], EF_rf _ _, h⟩
    · obtain ⟨w1, q1, q2, q3⟩ := F_add (d := d) (a := 124) (b := 0) h (by decide) (by decide)
      exact ⟨w1, by rw [if_neg z, h.2.1, q1, bnd], q2, q3⟩
  rw [e_Reader_test_1]
  by_cases y : 400 ≤ l3
  · rw [if_pos y]
    exact fin
  · rw [if_neg y, s_wordF h.1, bnd]
    dsimp only
    rw [if_pos rfl]
    exact fin
theorem F_test {l : Int} (h : FS ci f P w) (hP : P ≤ 1000000) (hl : 0 ≤ l ∧ l ≤ 1000) : ∃ w', Reader_test (d + 5) l w = some (0, w') ∧ EF ci w w' ∧ FS ci f (P + 1) w' := by
  obtain ⟨w1, q1, q2, q3⟩ := F_fact (d := d) h hP hl
  obtain ⟨w2, r1, r2, r3⟩ := F_test_1 (d := d + 4) (l1 := l) (l2 := 0) (l3 := 0) q3
  exact ⟨w2, by rw [e_Reader_test, q1, bnd]; exact r1, EF_tr q2 r2, r3⟩
end
