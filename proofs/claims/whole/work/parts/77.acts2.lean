/-! THE ACTS: keep, writes -/
theorem dk_mkd {kd : Int} (h : 0 ≤ kd ∧ kd ≤ 8) : dk (if kd ≤ 4 then kd else mkd kd) = kd := by
  unfold dk mkd
  have : kd = 0 ∨ kd = 1 ∨ kd = 2 ∨ kd = 3 ∨ kd = 4 ∨ kd = 5 ∨ kd = 6 ∨ kd = 7 ∨ kd = 8 := by omega
  rcases this with rfl | rfl | rfl | rfl | rfl | rfl | rfl | rfl | rfl <;> rfl
theorem z_diary {kd a b : Int} (hk : 0 ≤ kd ∧ kd ≤ 8) (ha : 0 ≤ a ∧ a ≤ 40) (hb : 0 ≤ b ∧ b ≤ 40) : z_or (z_or kd (a * 2 ^ (8 : Int).toNat)) (b * 2 ^ (16 : Int).toNat) = kd + 256 * a + 65536 * b := by
  have h1 : z_or kd (a * 2 ^ (8 : Int).toNat) = kd + a * 256 := z_or_mul (k := 8) ⟨hk.1, by show kd < 256; omega⟩ ha.1 (by show kd + a * 256 < _; omega)
  have h2 : z_or (kd + a * 256) (b * 2 ^ (16 : Int).toNat) = kd + a * 256 + b * 65536 := z_or_mul (k := 16) ⟨by omega, by show kd + a * 256 < 65536; omega⟩ hb.1 (by show kd + a * 256 + b * 65536 < _; omega)
  rw [h1, h2]
  omega
abbrev kC : List Nat := [4, 8, 17, 19, 24, 25, 26, 27, 28, 29, 30]
/-- the class's keep -/
theorem s_keep {d : Nat} {i j kd a b : Int} {w : zW} {Cs : List clau} (hk : 0 ≤ kd ∧ kd ≤ 8) (hN : EN w i j Cs) (hO : OD w i 0) (hK : wOK (opw w i) (w 19 0)) (hs : sgB w i kd a b) (ha : 0 ≤ a ∧ a ≤ 40) (hb : 0 ≤ b ∧ b ≤ 40) (hb1 : w 8 0 1 = 1) (h6 : 0 ≤ w 8 0 6 ∧ w 8 0 6 < 200) :
    ∃ w', State_keep (d + 4) 0 kd a b w = some (aS w i j kd a b (w 4 0 3) (w 19 0), w') ∧ z_fr kC w w' ∧ (∀ s, s ≠ 0 → w' 4 s = w 4 s ∧ w' 19 s = w 19 s ∧ w' 8 s = w 8 s ∧ w' 29 s = w 29 s ∧ w' 30 s = w 30 s) ∧ EN w' i j Cs ∧ eqR (w' 19 0) (aW w i j Cs kd a b (w 4 0 3) (w 19 0)) ∧ w' 4 0 1 = aN kd (aS w i j kd a b (w 4 0 3) (w 19 0)) (w 4 0 1) ∧ w' 4 0 2 = aM kd (aS w i j kd a b (w 4 0 3) (w 19 0)) (w 4 0 2) ∧ w' 4 0 3 = aE kd (aS w i j kd a b (w 4 0 3) (w 19 0)) (w 4 0 3) ∧
      (∀ x, x ≠ 6 → w' 8 0 x = w 8 0 x) ∧ (∀ x, x ≠ w 8 0 6 → w' 29 0 x = w 29 0 x ∧ w' 30 0 x = w 30 0 x) ∧
      (if aS w i j kd a b (w 4 0 3) (w 19 0) = 0 then w' 8 = w 8 ∧ w' 29 = w 29 ∧ w' 30 = w 30 ∧ (w' 4 0 1 = w 4 0 1 ∧ w' 4 0 2 = w 4 0 2 ∧ w' 4 0 3 = w 4 0 3) ∧ eqR (w' 19 0) (w 19 0) else w' 8 0 6 = w 8 0 6 + 1 ∧ w' 29 0 (w 8 0 6) = kd + 256 * a + 65536 * b ∧ w' 30 0 (w 8 0 6) = onp (w 33 i) (aW w i j Cs kd a b (w 4 0 3) (w 19 0)) / 1000000) := by
  obtain ⟨w1, p1, p2, p3, p4, p5, p6, p7, p8⟩ := s_happens (d := d) (o := 0) hk hN hO hs
  have r8 := p2 8 (by decide)
  have r29 := p2 29 (by decide)
  have r30 := p2 30 (by decide)
  have hst : aS w i j kd a b (w 4 0 3) (w 19 0) = 0 ∨ aS w i j kd a b (w 4 0 3) (w 19 0) = 1 := by
    unfold aS
    by_cases q : kd ≤ 4
    · rw [if_pos q]; exact Or.inr rfl
    · rw [if_neg q]
      by_cases z : 0 < sm (wgt (w 19 0) (eCh w i j kd a b (w 4 0 3))) 576
      · rw [if_pos z]; exact Or.inr rfl
      · rw [if_neg z]; exact Or.inl rfl
  rw [e_State_keep, if_neg (by omega), if_neg (by omega), p1, bnd]
  dsimp only
  rcases hst with q | q
  · rw [q] at p6 p7 p8 ⊢
    have hk5 : 5 ≤ kd := by
      unfold aS at q
      by_cases z : kd ≤ 4
      · rw [if_pos z] at q; omega
      · omega
    have hq : eqR (w1 19 0) (w 19 0) := by
      have hz : ¬ 0 < sm (wgt (w 19 0) (eCh w i j kd a b (w 4 0 3))) 576 := fun z => by
        unfold aS at q
        rw [if_neg (show ¬ kd ≤ 4 by omega), if_pos z] at q
        exact absurd q (by decide)
      have he : aW w i j Cs kd a b (w 4 0 3) (w 19 0) = w 19 0 := by
        unfold aW
        rw [if_neg (show ¬ kd = 0 by omega), if_neg (show ¬ kd ≤ 3 by omega), if_neg (show ¬ kd = 4 by omega), if_neg hz]
      rw [he] at p5
      exact p5
    have h4 : w1 4 0 1 = w 4 0 1 ∧ w1 4 0 2 = w 4 0 2 ∧ w1 4 0 3 = w 4 0 3 := by
      refine ⟨?_, ?_, ?_⟩
      · rw [p6]; unfold aN; rw [if_neg (by omega)]
      · rw [p7]; unfold aM; rw [if_neg (by omega)]
      · rw [p8]; unfold aE; rw [if_neg (by omega), if_neg (by omega)]
    rw [if_pos rfl, gd_t (by decide)]
    exact ⟨w1, rfl, fr_sub p2 (by decide), fun s hs' => ⟨(p3 s hs').1, (p3 s hs').2, by rw [r8], by rw [r29], by rw [r30]⟩, p4, p5, p6, p7, p8, fun x _ => by rw [r8], fun x _ => by rw [r29, r30]; exact ⟨rfl, rfl⟩, by rw [if_pos (show (0 : Int) = 0 from rfl)]; exact ⟨r8, r29, r30, h4, hq⟩⟩
  · rw [q] at p6 p7 p8 ⊢
    have hK1 : wOK (opw w i) (w1 19 0) := wOK_eq (aW_K (kd := kd) (a := a) (b := b) hN hO.2.2.2 hK) p5
    have h7 : w1 7 0 0 = i := p4.1.1
    generalize hwx : z_up w1 29 0 (w 8 0 6) (kd + 256 * a + 65536 * b) = wx
    have fx : z_fr [29] w1 wx := by rw [← hwx]; exact fr_up (by decide)
    have ex := sameE_fr (w := w1) (w' := wx) fx (by decide)
    have pe : sameE w w1 := aC_e p2
    have hon := s_onPath (d := d + 2) (o := 0) (i := i) (w := wx) (WO_e ex p4.2.1) (by rw [fx 19 (by decide)]; exact wOK_B hK1) (by
      intro c hc hno
      rw [opw_e ex, opw_e pe] at hno
      rw [fx 19 (by decide)]
      exact hK1.2.1 c hc hno)
    have honb := onp_bd (path := w 33 i) (wOK_B hK1)
    have h33 : wx 33 i = w 33 i := by rw [fx 33 (by decide), p2 33 (by decide)]
    have hone : onp (w 33 i) (w1 19 0) = onp (w 33 i) (aW w i j Cs kd a b (w 4 0 3) (w 19 0)) := sm_congr fun c hc => by rw [od_eqR p5 (by omega) (by omega)]
    rw [h33, fx 19 (by decide), hone] at hon
    rw [hone] at honb
    rw [if_neg (show ¬ (1 : Int) = 0 by decide), z_diary hk ha hb]
    simp only [r8, hwx]
    rw [gd_t (by show (0 : Int) ≤ 8 ∧ (8 : Int) < 31 ∧ 0 ≤ a ∧ inI (a * 256); omega), gd_t (by show (0 : Int) ≤ 16 ∧ (16 : Int) < 31 ∧ 0 ≤ b ∧ inI (b * 65536); omega), gd_t (by omega), h7, hon, bnd]
    have hx8 : wx 8 0 6 = w 8 0 6 := by rw [fx 8 (by decide), r8]
    dsimp only
    simp only [hx8]
    rw [gd_t (by omega), gd_t (by omega), gd_t (by omega), gd_t (by omega), gd_t (by decide)]
    have c8 : ∀ c, c ≠ 8 → c ≠ 29 → c ≠ 30 → (z_up (z_up wx 30 0 (w 8 0 6) (onp (w 33 i) (aW w i j Cs kd a b (w 4 0 3) (w 19 0)) / 1000000)) 8 0 6 (w 8 0 6 + 1)) c = w1 c := fun c x y z => by
      funext s t
      rw [up_c x, up_c z, ← hwx, up_c y]
    have ff : z_fr kC w (z_up (z_up wx 30 0 (w 8 0 6) (onp (w 33 i) (aW w i j Cs kd a b (w 4 0 3) (w 19 0)) / 1000000)) 8 0 6 (w 8 0 6 + 1)) := fr_tr (fr_tr (fr_sub p2 (by decide)) (fr_sub fx (by decide))) (fr_tr (fr_up (by decide)) (fr_up (by decide)))
    refine ⟨_, rfl, ff, fun s hs' => ⟨?_, ?_, ?_, ?_, ?_⟩, ?_, ?_, ?_, ?_, ?_, fun x hx => ?_, fun x hx => ⟨?_, ?_⟩, ?_⟩
    · rw [c8 4 (by decide) (by decide) (by decide)]; exact (p3 s hs').1
    · rw [c8 19 (by decide) (by decide) (by decide)]; exact (p3 s hs').2
    · funext t
      rw [up_i hs', up_c (by decide), fx 8 (by decide), r8]
    · funext t
      rw [up_c (by decide), up_c (by decide), ← hwx, up_i hs', r29]
    · funext t
      rw [up_c (by decide), up_i hs', fx 30 (by decide), r30]
    · exact EN_e (fun c hc => c8 c (by revert hc; revert c; decide) (by revert hc; revert c; decide) (by revert hc; revert c; decide)) (RC_fr (fun c hc => c8 c (by revert hc; revert c; decide) (by revert hc; revert c; decide) (by revert hc; revert c; decide)) (c8 26 (by decide) (by decide) (by decide)) (c8 27 (by decide) (by decide) (by decide)) p4.2.2.2.2.2.2.2.2.2) p4
    · rw [c8 19 (by decide) (by decide) (by decide)]; exact p5
    · rw [c8 4 (by decide) (by decide) (by decide)]; exact p6
    · rw [c8 4 (by decide) (by decide) (by decide)]; exact p7
    · rw [c8 4 (by decide) (by decide) (by decide)]; exact p8
    · rw [up_s hx, up_c (by decide), fx 8 (by decide), r8]
    · rw [up_c (by decide), up_c (by decide), ← hwx, up_s hx, r29]
    · rw [up_c (by decide), up_s hx, fx 30 (by decide), r30]
    · rw [if_neg (show ¬ (1 : Int) = 0 by decide)]
      refine ⟨up_h, ?_, ?_⟩
      · rw [up_c (by decide), up_c (by decide), ← hwx, up_h]
      · rw [up_c (by decide), up_h]
