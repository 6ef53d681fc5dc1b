theorem s_step2 {d : Nat} {i j l o act : Int} {w : zW} {Cs : List clau} (hl : 0 ≤ l ∧ l < 6) (ha : 0 ≤ act ∧ act ≤ 3) (hN : EN w i j Cs) (hh : 0 ≤ w 9 i 2 ∧ w 9 i 2 < 144) (hO : OD w i o) (hH : 0 ≤ w 22 0 (l + 1) ∧ w 22 0 (l + 1) ≤ 100000000000) :
    ∃ w', Rows_step_2 (d + 4) l act o w = some (0, w') ∧ z_fr rC w w' ∧ onL w w' o (l + 1) ∧ EN w' i j Cs ∧ eqR (w' 19 o) (if act = 0 then zh (w 9 i 2) (aW w i j Cs act 0 0 (w 4 o 3) (w 19 o)) else aW w i j Cs act 0 0 (w 4 o 3) (w 19 o)) ∧ w' 4 o 1 = w 4 o 1 + 1 ∧ w' 4 o 2 = w 4 o 2 ∧ w' 4 o 3 = min 30 (w 4 o 3 + 1) ∧ w' 22 0 (l + 1) = (if act = 0 then w 22 0 (l + 1) + od (aW w i j Cs act 0 0 (w 4 o 3) (w 19 o)) (w 9 i 2) else w 22 0 (l + 1)) ∧ w' 23 0 (l + 1) = w 23 0 (l + 1) := by
  obtain ⟨w1, p1, p2, p3, p4, p5, p6, p7, p8⟩ := s_happens (d := d) (o := o) (kd := act) (a := 0) (b := 0) (by omega) hN hO (fun q => by omega)
  have hs1 : aS w i j act 0 0 (w 4 o 3) (w 19 o) = 1 := by unfold aS; rw [if_pos (by omega)]
  have f1 : aN act 1 (w 4 o 1) = w 4 o 1 + 1 := by unfold aN; rw [if_pos ⟨by omega, rfl⟩]
  have f2 : aM act 1 (w 4 o 2) = w 4 o 2 := by unfold aM; rw [if_neg (by omega)]
  have f3 : aE act 1 (w 4 o 3) = min 30 (w 4 o 3 + 1) := by unfold aE; rw [if_pos (by omega)]
  rw [hs1] at p1 p6 p7 p8
  rw [f1] at p6
  rw [f2] at p7
  rw [f3] at p8
  have r9 := p2 9 (by decide)
  have r22 := p2 22 (by decide)
  have r23 := p2 23 (by decide)
  have hg := aW_0 (kd := act) (a := 0) (b := 0) (e := w 4 o 3) hN hO.1 (by omega)
  have hB1 : wtB (w1 19 o) := fun k k0 k1 => by
    rw [p5 k k0 k1]
    exact wO0_B hg k k0 k1
  have hod := od_bd (wO0_B hg) hh
  have frS : z_fr rC w w1 := fr_sub p2 (by decide)
  rw [e_Rows_step_2, p1, bnd]
  by_cases q : act = 0
  · obtain ⟨w2, q1, q2, q3, q4⟩ := s_take (d := d + 1) (o := o) (c := w 9 i 2) (w := w1) hh hB1
    have h7 : w1 7 0 0 = i := p4.1.1
    have hsum : w1 22 0 (l + 1) = w 22 0 (l + 1) := by rw [r22]
    rw [if_pos q, if_pos q, if_pos q]
    dsimp only
    rw [h7, r9, gd_t (by omega), gd_t (by omega), q1, bnd]
    dsimp only
    have hodq := od_eqR p5 hh.1 hh.2
    simp only [hsum, hodq]
    rw [gd_t (by omega), gd_t (by omega)]
    have s2 : z_fr rC w (z_up w2 22 0 (l + 1) (w 22 0 (l + 1) + od (aW w i j Cs act 0 0 (w 4 o 3) (w 19 o)) (w 9 i 2))) := fr_tr (fr_tr frS (fr_sub q2 (by decide))) (fr_up (by decide))
    refine ⟨_, rfl, s2, ⟨fun z hz => ⟨?_, ?_⟩, fun s hs => ⟨?_, ?_⟩⟩, ?_, fun k k0 k1 => ?_, ?_, ?_, ?_, up_h, ?_⟩
    · funext s
      rw [up_c (by decide), q2 4 (by decide), (p3 z hz).1]
    · funext s
      rw [up_c (by decide), q3 z hz, (p3 z hz).2]
    · rw [up_s hs, q2 22 (by decide), r22]
    · rw [up_c (by decide), q2 23 (by decide), r23]
    · have he : z_fr rC w1 (z_up w2 22 0 (l + 1) (w 22 0 (l + 1) + od (aW w i j Cs act 0 0 (w 4 o 3) (w 19 o)) (w 9 i 2))) := fr_tr (fr_sub q2 (by decide)) (fr_up (by decide))
      refine EN_e (rC_e he) (RC_fr (rC_e he) ?_ ?_ p4.2.2.2.2.2.2.2.2.2) p4
      · funext a b
        rw [up_c (by decide), q2 26 (by decide)]
      · funext a b
        rw [up_c (by decide), q2 27 (by decide)]
    · rw [up_c (by decide), q4 k k0 k1]
      exact zh_eqR p5 k k0 k1
    · rw [up_c (by decide), q2 4 (by decide), p6]
    · rw [up_c (by decide), q2 4 (by decide), p7]
    · rw [up_c (by decide), q2 4 (by decide), p8]
    · rw [up_c (by decide), q2 23 (by decide), r23]
  · rw [if_neg q, if_neg q, if_neg q]
    exact ⟨w1, rfl, frS, onL_fr p2 (by decide) (by decide) p3, p4, p5, p6, p7, p8, by rw [r22], by rw [r23]⟩
theorem s_rowsStep {d : Nat} {i j l act : Int} {w : zW} {Cs : List clau} {s : rS} (hl : 0 ≤ l ∧ l < 6) (ha : 0 ≤ act ∧ act ≤ 3) (hN : EN w i j Cs) (hh : 0 ≤ w 9 i 2 ∧ w 9 i 2 < 144) (hs : rOK w i l s) (hL : LV w l s) :
    ∃ w', Rows_step (d + 5) l act w = some (0, w') ∧ z_fr rC w w' ∧ onL w w' (6 + (l + 1)) (l + 1) ∧ EN w' i j Cs ∧ LV w' (l + 1) (rStep w i j Cs act s) := by
  obtain ⟨⟨l1, l2, l3, l4⟩, l5, l6⟩ := hL
  obtain ⟨s1, s2, s3, s4⟩ := hs
  obtain ⟨w1, p1, p2, p3, p4, p5, p6, p7⟩ := s_copyO (d := d + 4) (o := 6 + (l + 1)) (o2 := 6 + l) (w := w)
  have hE1 : eqR (w1 19 (6 + (l + 1))) s.1 := eqR_tr p4 l1
  have r22 := p2 22 (by decide)
  have r23 := p2 23 (by decide)
  have hop1 : wO0 (opw w i) (w1 19 (6 + (l + 1))) := wO0_eq s1 hE1
  have hrb := rsk_bd (harm := w 37 i) (wO0_B s1) hN.2.2.2.2.2.2.2.2.1
  rw [e_Rows_step, gd_t (by omega), gd_t (by omega), gd_t (by omega), p1, bnd]
  dsimp only
  rw [gd_t (by omega), gd_t (by omega), gd_t (by omega), gd_t (by omega), gd_t (by omega), gd_t (by omega)]
  simp only [r22, r23, l3, l4]
  generalize hwx : z_up (z_up w1 22 0 (l + 1) s.2.2.1) 23 0 (l + 1) s.2.2.2 = wx
  have fx : z_fr [4, 19, 22, 23] w wx := by
    rw [← hwx]
    exact fr_tr (fr_sub p2 (by decide)) (fr_tr (fr_up (by decide)) (fr_up (by decide)))
  have ex : sameE w wx := sameE_fr fx (by decide)
  have hNx : EN wx i j Cs := EN_e ex (RC_fr ex (fx 26 (by decide)) (fx 27 (by decide)) hN.2.2.2.2.2.2.2.2.2) hN
  have x4 : wx 4 = w1 4 := by
    funext a b
    rw [← hwx, up_c (by decide), up_c (by decide)]
  have x19 : wx 19 = w1 19 := by
    funext a b
    rw [← hwx, up_c (by decide), up_c (by decide)]
  have x22 : wx 22 0 (l + 1) = s.2.2.1 := by rw [← hwx, up_c (by decide), up_h]
  have x23 : wx 23 0 (l + 1) = s.2.2.2 := by rw [← hwx, up_h]
  have onx : onL w wx (6 + (l + 1)) (l + 1) := by
    refine ⟨fun q hq => ?_, fun t ht => ⟨?_, ?_⟩⟩
    · rw [x4, x19]
      exact p3 q hq
    · rw [← hwx, up_c (by decide), up_s ht, r22]
    · rw [← hwx, up_s ht, up_c (by decide), r23]
  have key : ∀ (wy : zW) (R' : Int), z_fr [23] wx wy → wy 23 0 (l + 1) = R' → (∀ t, t ≠ l + 1 → wy 23 0 t = wx 23 0 t) → R' = (if act = 0 then s.2.2.2 + rsk (w 37 i) s.1 else s.2.2.2) →
      ∃ w', Rows_step_2 (d + 5) l act (6 + (l + 1)) wy = some (0, w') ∧ z_fr rC w w' ∧ onL w w' (6 + (l + 1)) (l + 1) ∧ EN w' i j Cs ∧ LV w' (l + 1) (rStep w i j Cs act s) := fun wy R' fy hy1 hy2 hR => by
    have ey : sameE wx wy := sameE_fr fy (by decide)
    have y4 := fy 4 (by decide)
    have y19 := fy 19 (by decide)
    have hNy : EN wy i j Cs := EN_e ey (RC_fr ey (fy 26 (by decide)) (fy 27 (by decide)) hNx.2.2.2.2.2.2.2.2.2) hNx
    have exy := sameE_tr ex ey
    have hy9 : wy 9 i 2 = w 9 i 2 := by rw [exy 9 (by decide)]
    have hOy : OD wy i (6 + (l + 1)) := by
      unfold OD
      rw [opw_e exy, y19, x19, y4, x4, p5, p6, p7]
      exact ⟨hop1, by omega, by omega, by rw [l2]; exact s2⟩
    obtain ⟨w', q1, q2, q3, q4, q5, q6, q7, q8, q9, q10⟩ := s_step2 (d := d + 1) (l := l) (o := 6 + (l + 1)) (act := act) (w := wy) hl ha hNy (by rw [hy9]; exact hh) hOy (by rw [fy 22 (by decide), x22]; omega)
    have e3 : wy 4 (6 + (l + 1)) 3 = s.2.1 := by rw [y4, x4, p7, l2]
    have hFy : eqR (wy 19 (6 + (l + 1))) s.1 := by rw [y19, x19]; exact hE1
    have hAW := aW_eqR (w := w) (i := i) (j := j) (Cs := Cs) (kd := act) (a := 0) (b := 0) (e := s.2.1) hFy
    rw [hy9, aW_e exy, e3] at q5 q9
    rw [fy 22 (by decide), x22] at q9
    refine ⟨w', q1, fr_tr (fr_sub fx (by decide)) (fr_tr (fr_sub fy (by decide)) q2), onL_tr onx (onL_tr ⟨fun z _ => by rw [y4, y19]; exact ⟨rfl, rfl⟩, fun t ht => ⟨by rw [fy 22 (by decide)], hy2 t ht⟩⟩ q3), q4, ⟨?_, ?_, ?_, ?_⟩, ?_, ?_⟩
    · refine eqR_tr q5 ?_
      show eqR _ (if act = 0 then zh (w 9 i 2) (aW w i j Cs act 0 0 s.2.1 s.1) else aW w i j Cs act 0 0 s.2.1 s.1)
      by_cases z : act = 0
      · rw [if_pos z, if_pos z]; exact zh_eqR hAW
      · rw [if_neg z, if_neg z]; exact hAW
    · rw [q8, e3]
      rfl
    · rw [q9, od_eqR hAW hh.1 hh.2]
      rfl
    · rw [q10, hy1, hR]
      rfl
    · rw [q6, y4, x4, p5]
      omega
    · rw [q7, y4, x4, p6]
      exact l6
  by_cases q : act = 0
  · have hx37 : wx 37 i = w 37 i := by rw [ex 37 (by decide)]
    have hrk := s_risk (d := d + 3) (o := 6 + (l + 1)) (i := i) (w := wx) (WO_e ex hN.2.1) (by rw [x19]; exact wO0_B hop1) (by
      intro c hc hno
      rw [opw_e ex] at hno
      rw [x19]
      exact hop1.2.1 c hc hno) (by rw [hx37]; exact hN.2.2.2.2.2.2.2.2.1)
    have h7 : w1 7 0 0 = i := by rw [p2 7 (by decide)]; exact hN.1.1
    have hrq := rsk_eqR (h := w 37 i) hE1
    rw [hx37, x19, hrq] at hrk
    rw [if_pos q, gd_t (by omega), gd_t (by omega), h7, hrk, bnd]
    dsimp only
    simp only [x23]
    rw [gd_t (by omega), gd_t (by omega)]
    exact key _ (s.2.2.2 + rsk (w 37 i) s.1) (fr_up (by decide)) up_h (fun t ht => up_s ht) (by rw [if_pos q])
  · rw [if_neg q]
    exact key wx s.2.2.2 (fr_rf _ _) x23 (fun _ _ => rfl) (by rw [if_neg q])
