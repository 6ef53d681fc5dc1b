/-! a sum, in both -/
theorem TK_pl {T : Int → Int} {n q sg bh c : Int} (h : TK T n q sg bh) (h0 : 0 ≤ c) (h1 : ¬ dig c) (h2 : ¬ let' c) (h3 : c ≠ 60 ∧ c ≠ 62) : (sg = c ↔ q < n ∧ T q = c) ∧ (sg = c → bh = q + 1) := by
  unfold TK at h
  by_cases z : n ≤ q
  · rw [if_pos z] at h
    exact ⟨⟨fun _ => by omega, fun _ => by omega⟩, fun _ => by omega⟩
  rw [if_neg z] at h
  by_cases z1 : dig (T q)
  · rw [if_pos z1] at h
    exact ⟨⟨fun _ => absurd h.1 (by omega), fun x => by omega⟩, fun _ => absurd h.1 (by omega)⟩
  rw [if_neg z1] at h
  by_cases z2 : let' (T q)
  · rw [if_pos z2] at h
    exact ⟨⟨fun _ => absurd h.1 (by omega), fun x => by omega⟩, fun _ => absurd h.1 (by omega)⟩
  rw [if_neg z2] at h
  by_cases z3 : (T q = 60 ∨ T q = 62) ∧ q + 1 < n ∧ T (q + 1) = 61
  · rw [if_pos z3] at h
    have hb : sg = 108 ∨ sg = 103 := by
      have := h.1
      split at this
      · exact Or.inl this
      · exact Or.inr this
    exact ⟨⟨fun _ => by omega, fun x => by omega⟩, fun _ => by omega⟩
  · rw [if_neg z3] at h
    exact ⟨⟨fun x => ⟨by omega, by omega⟩, fun x => by omega⟩, fun _ => h.2⟩
section
variable {d d' : Nat} {T : Int → Int} {n ci t pend : Int} {L : List tok} {wc wm : zW}
/-- a sign of one byte passed -/
theorem j_pass (h : JC T n ci t L pend wc wm) (hb : wc 5 0 5 = wc 5 0 4 + 1) : ∃ wc', Reader_next d wc = some (0, wc') ∧ EF ci wc wc' ∧ JC T n ci t L (pend + 1) wc' (z_up wm 11 0 18 (wc 5 0 4 + 1)) ∧ wc 5 0 4 < wc' 5 0 4 ∧ wc' 5 0 6 = wc 5 0 6 ∧ RK wc wc' := by
  obtain ⟨j1, ⟨j2, j3, j4⟩, j5, j6, j7⟩ := h
  have hbh := j1.1.bh
  have hq := j1.1.2.2.2.1
  obtain ⟨w3, r1, r2, r3, r4⟩ := CT_nx (d := d) j1.1
  rw [hb] at r4
  have hpl := r4.1
  have e6 : w3 5 0 6 = wc 5 0 6 := r2.2 6 (by decide) (by decide) (by decide)
  refine ⟨w3, r1, r2.f.e, ⟨⟨r3, MT_p j1.2.1, ?_, ?_, ?_⟩, ⟨?_, ?_, j4⟩, ⟨?_, ?_⟩, KC_fr j6 (r2.1 13 (by decide)) (r2.1 1 (by decide)) (upc (by decide)) (upc (by decide)), by omega⟩, by omega, e6, r2⟩
  · rw [up_s (by decide)]; exact j1.2.2.1
  · rw [up_h]; omega
  · rw [up_h]; exact r4
  · rw [r2.2 8 (by decide) (by decide) (by decide)]; exact j2
  · rw [up_s (by decide)]; exact j3
  · rw [up_s (by decide), e6]; exact j5.1
  · rw [e6]; exact j5.2
/-- what the model sees of a plain sign -/
theorem j_sees {c : Int} (h : JR T n wc wm) (h0 : 0 ≤ c) (h1 : ¬ dig c) (h2 : ¬ let' c) (h3 : c ≠ 60 ∧ c ≠ 62) : ((if n ≤ wc 5 0 4 then -1 else T (wc 5 0 4)) = c ↔ wc 5 0 3 = c) ∧ (wc 5 0 3 = c → wc 5 0 5 = wc 5 0 4 + 1 ∧ wc 5 0 4 < n ∧ wm 48 0 (wc 5 0 4) = z_w8 c) := by
  obtain ⟨a1, a2⟩ := TK_pl h.1.2.2.2.2 h0 h1 h2 h3
  have hq := h.1.2.2.2.1
  constructor
  · by_cases z : n ≤ wc 5 0 4
    · rw [if_pos z]
      exact ⟨fun x => by omega, fun x => by have := a1.1 x; omega⟩
    · rw [if_neg z]
      exact ⟨fun x => a1.2 ⟨by omega, x⟩, fun x => (a1.1 x).2⟩
  · intro x
    obtain ⟨b1, b2⟩ := a1.1 x
    refine ⟨a2 x, b1, ?_⟩
    rw [(h.2.1.2.2 _ hq.1 b1).2, b2]
end
