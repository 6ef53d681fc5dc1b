section
variable {T : Int → Int} {n ci t bc bm pend : Int} {L : List tok} {wc wm : zW}
/-- a number or a word: the class's part, and what both are then -/
theorem j_oper {d : Nat} {a b k : Int} (h : JC T n ci t bc bm L pend wc wm) (hp : 0 ≤ pend) (hcl : cl (a, b) = [(k, b)]) (hk : 0 ≤ k ∧ k < 256) (hb : 0 ≤ b ∧ b ≤ 99999) (hbh : wc 5 0 4 < wc 5 0 5) :
    ∃ wc', ((Clauses_add (d + 1) ci k b wc).bind fun r2 => (Reader_countPart (d + 1) r2.2).bind fun r3 => (Reader_next (d + 1) r3.2).bind fun r4 => some ((0 : Int), r4.2)) = some (0, wc') ∧ EF ci wc wc' ∧
      (if wc 5 0 6 = 60 then FS ci (1 + 8 * wc 5 0 4 + 3) 61 wc' else ∀ v : zW, MT T n v → v 11 0 19 = 0 → v 11 0 18 = wc 5 0 5 → v 11 0 21 = t → v 11 0 22 = wc 5 0 6 + 1 → v 50 = (z_up wm 50 0 (400 * t + (bm + L.length)) (a + 16 * b)) 50 → v 51 = (z_up wm 51 0 t (bm + L.length + 1)) 51 → JC T n ci t bc bm (L ++ [(a, b)]) pend wc' v) := by
  obtain ⟨l0, l1, l2⟩ := h.ln hp
  have hB := h.2.2.2.2
  have hCT := h.1.1
  have hTb := hCT.bh
  obtain ⟨j1, ⟨j2, j3, j4⟩, ⟨j5, j5a, j5b⟩, j6, j7⟩ := h
  have hK := KC_1 j6 hcl
  have hc := cls_snoc L (a, b)
  rw [hcl] at hc
  have k2 := j6.2.1
  have hlt : bc + ((cls L).length : Int) < 400 := by have := hCT.1; omega
  have hadd := s_add (d := d + 1) k2 ⟨by omega, hlt⟩ hk hb
  have hef := EF_add (v := k + 256 * b) k2
  generalize hw1 : z_up (z_up wc 13 ci (bc + (cls L).length) (k + 256 * b)) 1 ci 5 (bc + (cls L).length + 1) = w1 at *
  have e5 : w1 5 = wc 5 := by
    funext x y
    rw [← hw1, up_c (by decide), up_c (by decide)]
  have e20 : w1 20 = wc 20 := by
    funext x y
    rw [← hw1, up_c (by decide), up_c (by decide)]
  have hCT1 : CT T n w1 := by
    unfold CT at *
    rw [e5, e20]
    exact hCT
  rw [hadd, bnd]
  dsimp only
  by_cases z : wc 5 0 6 = 60
  · obtain ⟨w2, p1, p2, p3⟩ := s_refuse (d := d) (k := 3) hCT1 (by decide)
    have hFS : FS ci (1 + 8 * wc 5 0 4 + 3) 60 w2 := by
      rw [e5] at p3
      refine ⟨p3, ?_, ?_, ?_⟩
      · rw [p2.2 8 (by decide) (by decide) (by decide) (by decide), e5]; exact j2
      · rw [p2.1 1 (by decide), ← hw1, up_h]; omega
      · rw [p2.2 6 (by decide) (by decide) (by decide) (by decide), e5]; omega
    obtain ⟨q1, q2⟩ := F_up6 (v := w2 5 0 6 + 1) (P' := 61) hFS (by have := hFS.2.2.2; omega)
    have h6 := hFS.2.2.2
    obtain ⟨w3, r1, r2, r3⟩ := F_next (d := d + 1) q2
    refine ⟨w3, ?_, EF_tr hef (EF_tr p2.e (EF_tr q1 r2)), ?_⟩
    · rw [e_Reader_countPart, e5, if_neg (by omega), p1, bnd]
      dsimp only
      rw [gd_t (by omega), bnd]
      dsimp only
      rw [r1, bnd]
    · rw [if_pos z]
      exact r3
  · have hCT2 : CT T n (z_up w1 5 0 6 (wc 5 0 6 + 1)) := by
      unfold CT at *
      rw [up_s (by decide), up_s (by decide), up_s (by decide), up_s (by decide), up_s (by decide), upc (by decide)]
      exact hCT1
    obtain ⟨w3, r1, r2, r3, r4⟩ := CT_nx (d := d + 1) hCT2
    have s5 : (z_up w1 5 0 6 (wc 5 0 6 + 1)) 5 0 5 = wc 5 0 5 := by rw [up_s (by decide), e5]
    rw [s5] at r4
    have hEFu : EF ci w1 (z_up w1 5 0 6 (wc 5 0 6 + 1)) := ⟨fr_up (by decide), fun i _ => by rw [upc (by decide), upc (by decide)]; exact ⟨rfl, rfl⟩, fun s _ => up_c (by decide), fun s hs => up_s (by omega), fun p _ => up_c (by decide), by rw [upc (by decide)]; exact Int.le_refl _⟩
    refine ⟨w3, ?_, EF_tr hef (EF_tr hEFu r2.f.e), ?_⟩
    · rw [e_Reader_countPart, e5, if_pos (by omega), gd_t (by omega), bnd]
      dsimp only
      rw [r1, bnd]
    · rw [if_neg z]
      intro v v1 v2 v3 v4 v5 v6 v7
      have w3_1 : w3 1 = w1 1 := by rw [r2.1 1 (by decide), upc (by decide)]
      have w3_13 : w3 13 = w1 13 := by rw [r2.1 13 (by decide), upc (by decide)]
      have w3_6 : w3 5 0 6 = wc 5 0 6 + 1 := by rw [r2.2 6 (by decide) (by decide) (by decide), up_h]
      have w3_8 : w3 5 0 8 = ci := by rw [r2.2 8 (by decide) (by decide) (by decide), up_s (by decide), e5]; exact j2
      refine ⟨⟨r3, v1, v2, ?_, ?_⟩, ⟨w3_8, v4, j4⟩, ⟨?_, ?_, ?_⟩, KC_fr hK w3_13 w3_1 ?_ ?_, ?_, j7.2⟩
      · rw [v3]; omega
      · rw [v3]; exact r4
      · rw [v5, w3_6]
      · rw [w3_6]; omega
      · rw [w3_6]; omega
      · rw [v6]
        exact (upc (by decide)).symm
      · rw [v7]
        funext x y
        unfold z_up
        by_cases q : (51 : Nat) = 51 ∧ y = t ∧ x = 0
        · rw [if_pos q, if_pos q]
        · rw [if_neg q, if_neg q]
          rw [if_neg (fun k => absurd k.1 (by decide))]
      · have := r4.1
        rw [hc, List.length_append]
        show bc + (((cls L).length + 1 : Nat) : Int) + pend ≤ _
        omega
end
