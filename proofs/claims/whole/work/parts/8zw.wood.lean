/-! a wood's text: frames, kinds of clauses -/
def VF (i : Int) (w w' : zW) : Prop := z_fr [5, 9, 32, 33, 34, 35, 36, 37] w w' ∧ (∀ q, q ≠ i → w' 9 q = w 9 q ∧ w' 32 q = w 32 q ∧ w' 33 q = w 33 q ∧ w' 34 q = w 34 q ∧ w' 35 q = w 35 q ∧ w' 36 q = w 36 q ∧ w' 37 q = w 37 q) ∧ w' 5 0 1 = w 5 0 1 ∧ (w 9 i 0 ≤ 12 → w' 9 i 0 ≤ 12) ∧ (w 9 i 1 ≤ 12 → w' 9 i 1 ≤ 12) ∧ (0 ≤ w 9 i 3 ∧ w 9 i 3 ≤ 4 → 0 ≤ w' 9 i 3 ∧ w' 9 i 3 ≤ 4)
theorem VF_tr {i : Int} {w w' w'' : zW} (h : VF i w w') (h' : VF i w' w'') : VF i w w'' := by
  obtain ⟨a1, a2, a3, a4, a5, a6⟩ := h
  obtain ⟨b1, b2, b3, b4, b5, b6⟩ := h'
  refine ⟨fr_tr a1 b1, fun q hq => ?_, b3.trans a3, fun z => b4 (a4 z), fun z => b5 (a5 z), fun z => b6 (a6 z)⟩
  obtain ⟨c1, c2, c3, c4, c5, c6, c7⟩ := a2 q hq
  obtain ⟨d1, d2, d3, d4, d5, d6, d7⟩ := b2 q hq
  exact ⟨d1.trans c1, d2.trans c2, d3.trans c3, d4.trans c4, d5.trans c5, d6.trans c6, d7.trans c7⟩
theorem RF.v {i : Int} {w w' : zW} (h : RF w w') : VF i w w' := by
  have e9 := h.1 9 (by decide)
  refine ⟨fr_sub h.1 (by decide), fun q _ => ⟨by rw [e9], by rw [h.1 32 (by decide)], by rw [h.1 33 (by decide)], by rw [h.1 34 (by decide)], by rw [h.1 35 (by decide)], by rw [h.1 36 (by decide)], by rw [h.1 37 (by decide)]⟩, h.2 1 (by decide) (by decide) (by decide) (by decide), by rw [e9]; exact fun z => z, by rw [e9]; exact fun z => z, by rw [e9]; exact fun z => z⟩
theorem VF_9 {i s v : Int} {w : zW} (h01 : s = 0 ∨ s = 1 → v ≤ 12) (h3 : s = 3 → 0 ≤ v ∧ v ≤ 4) : VF i w (z_up w 9 i s v) := by
  refine ⟨fr_up (by decide), fun q hq => ⟨?_, ?_, ?_, ?_, ?_, ?_, ?_⟩, up_c (by decide), fun z => ?_, fun z => ?_, fun z => ?_⟩
  · funext y; exact up_i hq
  · funext y; exact up_c (by decide)
  · funext y; exact up_c (by decide)
  · funext y; exact up_c (by decide)
  · funext y; exact up_c (by decide)
  · funext y; exact up_c (by decide)
  · funext y; exact up_c (by decide)
  · by_cases q : s = 0
    · rw [q, up_h]; exact h01 (Or.inl q)
    · rw [up_s (fun k => q k.symm)]; exact z
  · by_cases q : s = 1
    · rw [q, up_h]; exact h01 (Or.inr q)
    · rw [up_s (fun k => q k.symm)]; exact z
  · by_cases q : s = 3
    · rw [q, up_h]; exact h3 q
    · rw [up_s (fun k => q k.symm)]; exact z
theorem VF_row {i : Int} {k : Nat} {w : zW} {F : Int → Int} (hk : k = 32 ∨ k = 33 ∨ k = 34 ∨ k = 35 ∨ k = 36 ∨ k = 37) : VF i w (z_row w k i F) := by
  have h9 : (z_row w k i F) 9 = w 9 := by funext x y; exact row_c (by omega)
  have hq : ∀ (c : Nat) (q : Int), q ≠ i → (z_row w k i F) c q = w c q := fun c q hq => by
    funext y
    unfold z_row
    rw [if_neg (fun z => hq z.2)]
  refine ⟨fr_row (by rcases hk with rfl | rfl | rfl | rfl | rfl | rfl <;> decide), fun q hq' => ⟨hq _ q hq', hq _ q hq', hq _ q hq', hq _ q hq', hq _ q hq', hq _ q hq', hq _ q hq'⟩, row_c (by omega), by rw [h9]; exact fun z => z, by rw [h9]; exact fun z => z, by rw [h9]; exact fun z => z⟩
def UF (i : Int) (w w' : zW) : Prop := mF [58, 59, 60, 61, 62, 63, 64] [18, 19, 20, 24] w w' ∧ (∀ s, s ≠ 12 + i → w' 58 0 s = w 58 0 s ∧ w' 59 0 s = w 59 0 s ∧ w' 60 0 s = w 60 0 s ∧ w' 61 0 s = w 61 0 s) ∧ (∀ s, s ≠ i → w' 62 0 s = w 62 0 s) ∧ (∀ p, (p < 12 * i ∨ 12 * i + 12 ≤ p) → w' 63 0 p = w 63 0 p) ∧ ∀ p, (p < 864 * i ∨ 864 * i + 864 ≤ p) → w' 64 0 p = w 64 0 p
theorem UF_tr {i : Int} {w w' w'' : zW} (h : UF i w w') (h' : UF i w' w'') : UF i w w'' := by
  obtain ⟨a1, a2, a3, a4, a5⟩ := h
  obtain ⟨b1, b2, b3, b4, b5⟩ := h'
  refine ⟨mF_tr a1 b1, fun s hs => ?_, fun s hs => (b3 s hs).trans (a3 s hs), fun p hp => (b4 p hp).trans (a4 p hp), fun p hp => (b5 p hp).trans (a5 p hp)⟩
  obtain ⟨c1, c2, c3, c4⟩ := a2 s hs
  obtain ⟨d1, d2, d3, d4⟩ := b2 s hs
  exact ⟨d1.trans c1, d2.trans c2, d3.trans c3, d4.trans c4⟩
theorem UF_m {i : Int} {w w' : zW} (h : mF [] [18, 19, 20, 24] w w') : UF i w w' := by
  have e : ∀ c : Nat, c ≠ 11 → w' c = w c := fun c hc => h.1 c List.not_mem_nil hc
  exact ⟨mF_sub h (by decide) (by decide), fun s _ => ⟨by rw [e 58 (by decide)], by rw [e 59 (by decide)], by rw [e 60 (by decide)], by rw [e 61 (by decide)]⟩, fun s _ => by rw [e 62 (by decide)], fun p _ => by rw [e 63 (by decide)], fun p _ => by rw [e 64 (by decide)]⟩
theorem UF_k {i v : Int} {k : Nat} {w : zW} (hk : k = 58 ∨ k = 59 ∨ k = 60 ∨ k = 61) : UF i w (z_up w k 0 (12 + i) v) := by
  have e : ∀ (c : Nat) (s : Int), c ≠ k ∨ s ≠ 12 + i → (z_up w k 0 (12 + i) v) c 0 s = w c 0 s := fun c s h => by
    unfold z_up
    rw [if_neg (fun q => by rcases h with h | h; exact h q.1; exact h q.2.1)]
  exact ⟨mF_up (by rcases hk with rfl | rfl | rfl | rfl <;> decide) (by omega), fun s hs => ⟨e _ _ (Or.inr hs), e _ _ (Or.inr hs), e _ _ (Or.inr hs), e _ _ (Or.inr hs)⟩, fun s _ => e _ _ (Or.inl (by omega)), fun p _ => e _ _ (Or.inl (by omega)), fun p _ => e _ _ (Or.inl (by omega))⟩
theorem UF_62 {i v : Int} {w : zW} : UF i w (z_up w 62 0 i v) := ⟨mF_up (by decide) (by decide), fun s _ => ⟨up_c (by decide), up_c (by decide), up_c (by decide), up_c (by decide)⟩, fun s hs => up_s hs, fun p _ => up_c (by decide), fun p _ => up_c (by decide)⟩
theorem UF_63 {i p v : Int} {w : zW} (hp : 12 * i ≤ p ∧ p < 12 * i + 12) : UF i w (z_up w 63 0 p v) := ⟨mF_up (by decide) (by decide), fun s _ => ⟨up_c (by decide), up_c (by decide), up_c (by decide), up_c (by decide)⟩, fun s _ => up_c (by decide), fun q hq => up_s (by omega), fun p _ => up_c (by decide)⟩
theorem UF_64 {i : Int} {w : zW} {F : Int → Int} (hF : ∀ p, (p < 864 * i ∨ 864 * i + 864 ≤ p) → F p = w 64 0 p) : UF i w (z_row w 64 0 F) := ⟨mF_row (by decide) (by decide), fun s _ => ⟨row_c (by decide), row_c (by decide), row_c (by decide), row_c (by decide)⟩, fun s _ => row_c (by decide), fun q _ => row_c (by decide), fun p hp => (row_h p).trans (hF p hp)⟩
section
variable {d d' : Nat} {T : Int → Int} {n i : Int} {wc wm : zW}
theorem CF_u {f q s v : Int} {c : Nat} {w : zW} (h : CF f w) (hc : c ≠ 5) : CF f (z_up w c q s v) := by
  unfold CF at *
  rw [up_c hc.symm, up_c hc.symm]
  exact h
theorem JR_u {c k : Nat} {q s v s' v' : Int} (h : JR T n wc wm) (hc : c ≠ 5 ∧ c ≠ 20) (hk : k ≠ 11 ∧ k ≠ 48) : JR T n (z_up wc c q s v) (z_up wm k 0 s' v') := by
  have hf : mF [k] [] wm (z_up wm k 0 s' v') := mF_up List.mem_cons_self hk.1
  exact JR_g h hf (fun z => hk.2 (List.mem_singleton.mp z).symm) (by decide) (by funext x y; exact up_c hc.1.symm) (by funext x y; exact up_c hc.2.symm)
/-- two numbers: how wide, how high -/
theorem k_wide (h : JR T n wc wm) (h21 : wm 11 0 21 = 12 + i) (hi : 0 ≤ i ∧ i < 4) :
    ∃ w' rm v', (∀ K : zW → zR, ((Reader_number (d + 26) 2 12 wc).bind fun r2 => (Reader_number (d + 26) 2 12 (z_up r2.2 9 i 0 r2.1)).bind fun r3 => K (z_up r3.2 9 i 1 r3.1)) = K w') ∧
      ((M_numberHere (d' + 8) 2 12 wm).bind fun r2 => if r2.1 = 0 then (gd ((0 : Int) ≤ 0 ∧ (0 : Int) ≤ 1) (some ((0 : Int), r2.2))) else (gd (z_kd 58 = 1 ∧ 0 ≤ (r2.2 11 0 21) ∧ (r2.2 11 0 21) < z_ln 58) ((M_numberHere (d' + 8) 2 12 (z_up r2.2 58 0 (r2.2 11 0 21) (r2.2 11 0 20))).bind fun r3 => if r3.1 = 0 then (gd ((0 : Int) ≤ 0 ∧ (0 : Int) ≤ 1) (some (0, r3.2))) else (gd (z_kd 59 = 1 ∧ 0 ≤ (r3.2 11 0 21) ∧ (r3.2 11 0 21) < z_ln 59) (gd ((0 : Int) ≤ 1 ∧ (1 : Int) ≤ 1) (some (1, z_up r3.2 59 0 (r3.2 11 0 21) (r3.2 11 0 20)))))))) = some (rm, v') ∧ VF i wc w' ∧ UF i wm v' ∧
      ((rm = 1 ∧ JR T n w' v' ∧ (2 ≤ w' 9 i 0 ∧ w' 9 i 0 ≤ 12) ∧ (2 ≤ w' 9 i 1 ∧ w' 9 i 1 ≤ 12) ∧ (v' 58 0 (12 + i) = w' 9 i 0 ∧ v' 59 0 (12 + i) = w' 9 i 1) ∧ (∀ s, s ≠ 0 → s ≠ 1 → w' 9 i s = wc 9 i s) ∧ z_fr [5, 9] wc w' ∧ mF [58, 59] [18, 19, 20] wm v') ∨ (rm = 0 ∧ ∃ f, CF f w' ∧ v' 11 0 19 = f)) := by
  obtain ⟨a, w2, rm, v2, p1, p2, p3, p4, p5⟩ := j_number (d := d + 25) (d' := d' + 7) (lo := 2) (hi := 12) h
  have k58 : z_kd 58 = 1 ∧ z_ln 58 = 16 ∧ z_kd 59 = 1 ∧ z_ln 59 = 16 := by decide
  have e21 : v2 11 0 21 = 12 + i := (p4.2 21 (by decide)).trans h21
  have u2 : UF i wm v2 := UF_m (mF_sub p4 (by decide) (by decide))
  rw [p1, p2, bnd]
  dsimp only
  rcases p5 with ⟨y1, y2, y3, y4, y5, -⟩ | ⟨y1, y2, f, y3, y4⟩
  · rw [if_neg (show ¬ rm = 0 by omega), gd_t ⟨k58.1, by omega, by rw [k58.2.1]; omega⟩, e21, y3]
    obtain ⟨b, w3, rm3, v3, q1, q2, q3, q4, q5⟩ := j_number (d := d + 25) (d' := d' + 7) (lo := 2) (hi := 12) (JR_u (c := 9) (k := 58) (q := i) (s := 0) (v := a) (s' := 12 + i) (v' := a) y2 (by decide) (by decide))
    have x21 : v3 11 0 21 = 12 + i := by rw [q4.2 21 (by decide), up_c (by decide)]; exact e21
    have vx : VF i wc w3 := VF_tr p3.v (VF_tr (VF_9 (i := i) (s := 0) (v := a) (fun _ => by omega) (fun z => by omega)) q3.v)
    have ux : UF i wm v3 := UF_tr u2 (UF_tr (UF_k (by decide)) (UF_m (mF_sub q4 (by decide) (by decide))))
    rcases q5 with ⟨z1, z2, z3, z4, z5, -⟩ | ⟨z1, z2, f, z3, z4⟩
    · refine ⟨z_up w3 9 i 1 b, 1, z_up v3 59 0 (12 + i) b, fun K => by rw [bnd]; dsimp only; rw [q1, bnd], ?_, VF_tr vx (VF_9 (fun _ => by omega) (fun z => by omega)), UF_tr ux (UF_k (by decide)), Or.inl ⟨rfl, JR_u z2 (by decide) (by decide), ?_, ?_, ⟨?_, ?_⟩, fun s s0 s1 => ?_, ?_, ?_⟩⟩
      · rw [q2, bnd]
        dsimp only
        rw [if_neg (show ¬ rm3 = 0 by omega), gd_t ⟨k58.2.2.1, by omega, by rw [k58.2.2.2]; omega⟩, gd_t (by decide), x21, z3]
      · rw [up_s (by decide), q3.1 9 (by decide), up_h]; omega
      · rw [up_h]; omega
      · rw [up_s (c := 9) (by decide), q3.1 9 (by decide), up_h, up_c (by decide), q4.1 58 (by decide) (by decide), up_h]
      · rw [up_h, up_h]
      · rw [up_s s1, q3.1 9 (by decide), up_s s0, p3.1 9 (by decide)]
      · exact fr_tr (fr_sub p3.1 (by decide)) (fr_tr (fr_up (by decide)) (fr_tr (fr_sub q3.1 (by decide)) (fr_up (by decide))))
      · exact mF_tr (mF_sub p4 (by decide) (by decide)) (mF_tr (mF_up (by decide) (by decide)) (mF_tr (mF_sub q4 (by decide) (by decide)) (mF_up (by decide) (by decide))))
    · refine ⟨z_up w3 9 i 1 b, 0, v3, fun K => by rw [bnd]; dsimp only; rw [q1, bnd], ?_, VF_tr vx (VF_9 (fun _ => by omega) (fun z => by omega)), ux, Or.inr ⟨rfl, f, CF_u z3 (by decide), z4⟩⟩
      rw [q2, bnd]
      dsimp only
      rw [if_pos z1, gd_t (by decide)]
  · obtain ⟨w3, q1, q2, q3⟩ := s_numberF (d := d + 25) (lo := 2) (hi := 12) (CF_u (c := 9) (q := i) (s := 0) (v := a) y3 (by decide))
    refine ⟨z_up w3 9 i 1 2, 0, v2, fun K => by rw [bnd]; dsimp only; rw [q1, bnd], by rw [if_pos y1, gd_t (by decide)], VF_tr p3.v (VF_tr (VF_9 (fun _ => by omega) (fun z => by omega)) (VF_tr q2.v (VF_9 (fun _ => by omega) (fun z => by omega)))), u2, Or.inr ⟨rfl, f, CF_u q3 (by decide), y4⟩⟩
/-- two numbers: where home is -/
theorem k_home (h : JR T n wc wm) (h21 : wm 11 0 21 = 12 + i) (hi : 0 ≤ i ∧ i < 4) :
    ∃ w' rm v', (∀ K : zW → zR, ((Reader_number (d + 26) 0 11 wc).bind fun r2 => (Reader_number (d + 26) 0 11 r2.2).bind fun r3 => gd (inI (r3.1 * 12)) (gd (inI ((r3.1 * 12) + r2.1)) (K (z_up r3.2 9 i 2 ((r3.1 * 12) + r2.1))))) = K w') ∧
      ((M_numberHere (d' + 8) 0 11 wm).bind fun r2 => if r2.1 = 0 then (gd ((0 : Int) ≤ 0 ∧ (0 : Int) ≤ 1) (some ((0 : Int), r2.2))) else (gd (z_kd 60 = 1 ∧ 0 ≤ (r2.2 11 0 21) ∧ (r2.2 11 0 21) < z_ln 60) ((M_numberHere (d' + 8) 0 11 (z_up r2.2 60 0 (r2.2 11 0 21) (r2.2 11 0 20))).bind fun r3 => if r3.1 = 0 then (gd ((0 : Int) ≤ 0 ∧ (0 : Int) ≤ 1) (some (0, r3.2))) else (gd (z_kd 61 = 1 ∧ 0 ≤ (r3.2 11 0 21) ∧ (r3.2 11 0 21) < z_ln 61) (gd ((0 : Int) ≤ 1 ∧ (1 : Int) ≤ 1) (some (1, z_up r3.2 61 0 (r3.2 11 0 21) (r3.2 11 0 20)))))))) = some (rm, v') ∧ VF i wc w' ∧ UF i wm v' ∧
      ((rm = 1 ∧ JR T n w' v' ∧ (0 ≤ v' 60 0 (12 + i) ∧ v' 60 0 (12 + i) ≤ 11) ∧ (0 ≤ v' 61 0 (12 + i) ∧ v' 61 0 (12 + i) ≤ 11) ∧ w' 9 i 2 = v' 61 0 (12 + i) * 12 + v' 60 0 (12 + i) ∧ (∀ s, s ≠ 2 → w' 9 i s = wc 9 i s) ∧ z_fr [5, 9] wc w' ∧ mF [60, 61] [18, 19, 20] wm v') ∨ (rm = 0 ∧ ∃ f, CF f w' ∧ v' 11 0 19 = f)) := by
  obtain ⟨a, w2, rm, v2, p1, p2, p3, p4, p5⟩ := j_number (d := d + 25) (d' := d' + 7) (lo := 0) (hi := 11) h
  have k58 : z_kd 60 = 1 ∧ z_ln 60 = 16 ∧ z_kd 61 = 1 ∧ z_ln 61 = 16 := by decide
  have e21 : v2 11 0 21 = 12 + i := (p4.2 21 (by decide)).trans h21
  have u2 : UF i wm v2 := UF_m (mF_sub p4 (by decide) (by decide))
  rw [p1, p2, bnd]
  dsimp only
  rcases p5 with ⟨y1, y2, y3, y4, y5, -⟩ | ⟨y1, y2, f, y3, y4⟩
  · rw [if_neg (show ¬ rm = 0 by omega), gd_t ⟨k58.1, by omega, by rw [k58.2.1]; omega⟩, e21, y3]
    have hJ : JR T n w2 (z_up v2 60 0 (12 + i) a) := JR_g y2 (mF_up (S := [60]) (T := []) (by decide) (by decide)) (by decide) (by decide) rfl rfl
    obtain ⟨b, w3, rm3, v3, q1, q2, q3, q4, q5⟩ := j_number (d := d + 25) (d' := d' + 7) (lo := 0) (hi := 11) hJ
    have x21 : v3 11 0 21 = 12 + i := by rw [q4.2 21 (by decide), up_c (by decide)]; exact e21
    have vx : VF i wc w3 := VF_tr p3.v q3.v
    have ux : UF i wm v3 := UF_tr u2 (UF_tr (UF_k (by decide)) (UF_m (mF_sub q4 (by decide) (by decide))))
    rcases q5 with ⟨z1, z2, z3, z4, z5, -⟩ | ⟨z1, z2, f, z3, z4⟩
    · refine ⟨z_up w3 9 i 2 (b * 12 + a), 1, z_up v3 61 0 (12 + i) b, fun K => by rw [bnd]; dsimp only; rw [q1, bnd]; dsimp only; rw [gd_t (by omega), gd_t (by omega)], ?_, VF_tr vx (VF_9 (fun z => by omega) (fun z => by omega)), UF_tr ux (UF_k (by decide)), Or.inl ⟨rfl, JR_u z2 (by decide) (by decide), ?_, ?_, ?_, fun s s0 => ?_, ?_, ?_⟩⟩
      · rw [q2, bnd]
        dsimp only
        rw [if_neg (show ¬ rm3 = 0 by omega), gd_t ⟨k58.2.2.1, by omega, by rw [k58.2.2.2]; omega⟩, gd_t (by decide), x21, z3]
      · rw [up_c (by decide), q4.1 60 (by decide) (by decide), up_h]; omega
      · rw [up_h]; omega
      · rw [up_h, up_h, up_c (by decide), q4.1 60 (by decide) (by decide), up_h]
      · rw [up_s s0, q3.1 9 (by decide), p3.1 9 (by decide)]
      · exact fr_tr (fr_sub p3.1 (by decide)) (fr_tr (fr_sub q3.1 (by decide)) (fr_up (by decide)))
      · exact mF_tr (mF_sub p4 (by decide) (by decide)) (mF_tr (mF_up (by decide) (by decide)) (mF_tr (mF_sub q4 (by decide) (by decide)) (mF_up (by decide) (by decide))))
    · refine ⟨z_up w3 9 i 2 (b * 12 + a), 0, v3, fun K => by rw [bnd]; dsimp only; rw [q1, bnd]; dsimp only; rw [gd_t (by omega), gd_t (by omega)], ?_, VF_tr vx (VF_9 (fun z => by omega) (fun z => by omega)), ux, Or.inr ⟨rfl, f, CF_u z3 (by decide), z4⟩⟩
      rw [q2, bnd]
      dsimp only
      rw [if_pos z1, gd_t (by decide)]
  · obtain ⟨w3, q1, q2, q3⟩ := s_numberF (d := d + 25) (lo := 0) (hi := 11) y3
    refine ⟨z_up w3 9 i 2 (0 * 12 + a), 0, v2, fun K => by rw [bnd]; dsimp only; rw [q1, bnd]; dsimp only; rw [gd_t (by decide), gd_t (by omega)], by rw [if_pos y1, gd_t (by decide)], VF_tr p3.v (VF_tr q2.v (VF_9 (fun z => by omega) (fun z => by omega))), u2, Or.inr ⟨rfl, f, CF_u q3 (by decide), y4⟩⟩
/-- four numbers: a rectangle of v -/
theorem k_rect {q v : Int} {k : Nat} (hk : k = 33 ∨ k = 34 ∨ k = 35 ∨ k = 36 ∨ k = 37) (hq : 0 ≤ q ∧ q < 6) (h : JR T n wc wm) (h21 : wm 11 0 21 = 12 + i) (hi : 0 ≤ i ∧ i < 4) :
    ∃ w' rm v', Reader_readArea_8 (d + 26) v k i wc = some (0, w') ∧ M_area_4 (d' + 9) q v wm = some (rm, v') ∧ VF i wc w' ∧ UF i wm v' ∧ ((rm = 1 ∧ JR T n w' v' ∧ (∃ x X y Y, (0 ≤ x ∧ x ≤ X ∧ X ≤ 11) ∧ (0 ≤ y ∧ y ≤ Y ∧ Y ≤ 11) ∧ w' k i = rct (wc k i) x X y (Y + 1) v ∧ ∀ p, v' 64 0 p = rcm (wm 64 0) (144 * (6 * i + q)) x X y (Y + 1) x v p) ∧ z_fr [5, k] wc w' ∧ mF [64] [18, 19, 20] wm v') ∨ (rm = 0 ∧ ∃ f, CF f w' ∧ v' 11 0 19 = f)) := by
  have hkk : z_kd k = 1 ∧ z_ln k = 144 := by rcases hk with rfl | rfl | rfl | rfl | rfl <;> decide
  have k5 : k ≠ 5 ∧ k ≠ 20 := by omega
  -- behind a fault
  have back : ∀ (w : zW) (x y X Y : Int), (z_fr [5] wc w ∧ RF wc w) → ∀ f, CF f w → (if (w 5 0 2) = 0 then (Reader_readArea_10 (d + 26) v k i x X Y y w) else (some ((0 : Int), w))) = some (0, w) := fun w x y X Y _ f hF => by
    rw [if_neg (by have := hF.1; have := hF.2.2.1; omega)]
  obtain ⟨x, w1, r1, v1, a1, a2, a3, a4, a5⟩ := j_number (d := d + 24) (d' := d' + 7) (lo := 0) (hi := 11) h
  rw [e_Reader_readArea_8, e_M_area_4, a1, a2, bnd, bnd]
  dsimp only
  rcases a5 with ⟨y1, y2, y3, y4, y5, -⟩ | ⟨y1, y2, f, y3, y4⟩
  case inr =>
    obtain ⟨w2, b1, b2, b3⟩ := s_numberF (d := d + 24) (lo := 0) (hi := 11) y3
    obtain ⟨w3, c1, c2, c3⟩ := s_numberF (d := d + 24) (lo := x) (hi := 11) b3
    obtain ⟨w4, e1, e2, e3⟩ := s_numberF (d := d + 24) (lo := 0) (hi := 11) c3
    refine ⟨w4, 0, v1, ?_, by rw [if_pos y1, gd_t (by decide)], (RF_tr a3 (RF_tr b2 (RF_tr c2 e2))).v, UF_m (mF_sub a4 (by decide) (by decide)), Or.inr ⟨rfl, f, e3, y4⟩⟩
    rw [b1, bnd]
    dsimp only
    rw [c1, bnd]
    dsimp only
    rw [e1, bnd]
    dsimp only
    exact back w4 _ _ _ _ ⟨(RF_tr a3 (RF_tr b2 (RF_tr c2 e2))).1, RF_tr a3 (RF_tr b2 (RF_tr c2 e2))⟩ f e3
  rw [if_neg (show ¬ r1 = 0 by omega), y3]
  obtain ⟨y, w2, r2, v2, b1, b2, b3, b4, b5⟩ := j_number (d := d + 24) (d' := d' + 7) (lo := 0) (hi := 11) y2
  rw [b1, b2, bnd, bnd]
  dsimp only
  rcases b5 with ⟨z1, z2, z3, z4, z5, -⟩ | ⟨z1, z2, f, z3, z4⟩
  case inr =>
    obtain ⟨w3, c1, c2, c3⟩ := s_numberF (d := d + 24) (lo := x) (hi := 11) z3
    obtain ⟨w4, e1, e2, e3⟩ := s_numberF (d := d + 24) (lo := y) (hi := 11) c3
    refine ⟨w4, 0, v2, ?_, by rw [if_pos z1, gd_t (by decide)], (RF_tr a3 (RF_tr b3 (RF_tr c2 e2))).v, UF_m (mF_tr (mF_sub a4 (by decide) (by decide)) (mF_sub b4 (by decide) (by decide))), Or.inr ⟨rfl, f, e3, z4⟩⟩
    rw [c1, bnd]
    dsimp only
    rw [e1, bnd]
    dsimp only
    exact back w4 _ _ _ _ ⟨(RF_tr a3 (RF_tr b3 (RF_tr c2 e2))).1, RF_tr a3 (RF_tr b3 (RF_tr c2 e2))⟩ f e3
  rw [if_neg (show ¬ r2 = 0 by omega), z3]
  obtain ⟨X, w3, r3, v3, c1, c2, c3, c4, c5⟩ := j_number (d := d + 24) (d' := d' + 7) (lo := x) (hi := 11) z2
  rw [c1, c2, bnd, bnd]
  dsimp only
  rcases c5 with ⟨g1, g2, g3, g4, g5, -⟩ | ⟨g1, g2, f, g3, g4⟩
  case inr =>
    obtain ⟨w4, e1, e2, e3⟩ := s_numberF (d := d + 24) (lo := y) (hi := 11) g3
    refine ⟨w4, 0, v3, ?_, by rw [if_pos g1, gd_t (by decide)], (RF_tr a3 (RF_tr b3 (RF_tr c3 e2))).v, UF_m (mF_tr (mF_sub a4 (by decide) (by decide)) (mF_tr (mF_sub b4 (by decide) (by decide)) (mF_sub c4 (by decide) (by decide)))), Or.inr ⟨rfl, f, e3, g4⟩⟩
    rw [e1, bnd]
    dsimp only
    exact back w4 _ _ _ _ ⟨(RF_tr a3 (RF_tr b3 (RF_tr c3 e2))).1, RF_tr a3 (RF_tr b3 (RF_tr c3 e2))⟩ f e3
  rw [if_neg (show ¬ r3 = 0 by omega), g3]
  obtain ⟨Y, w4, r4, v4, e1, e2, e3, e4, e5⟩ := j_number (d := d + 24) (d' := d' + 7) (lo := y) (hi := 11) g2
  rw [e1, e2, bnd, bnd]
  dsimp only
  have hRF := RF_tr a3 (RF_tr b3 (RF_tr c3 e3))
  have hmf : mF [] [18, 19, 20] wm v4 := mF_tr a4 (mF_tr b4 (mF_tr c4 e4))
  rcases e5 with ⟨i1, i2, i3, i4, i5, -⟩ | ⟨i1, i2, f, i3, i4⟩
  case inr =>
    refine ⟨w4, 0, v4, back w4 _ _ _ _ ⟨hRF.1, hRF⟩ f i3, by rw [if_pos i1, gd_t (by decide)], hRF.v, UF_m (mF_sub hmf (by decide) (by decide)), Or.inr ⟨rfl, f, i3, i4⟩⟩
  have x21 : v4 11 0 21 = 12 + i := (hmf.2 21 (by decide)).trans h21
  have hA := s_area_10 (d := d + 24) (i := i) (v := v) (w := w4) (x := x) (X := X) (y := y) (Y := Y) hkk (by omega) (by omega) (Y + 1 - y).toNat y (Int.le_refl _) (by omega)
  rw [rct_0, row_self] at hA
  have hB := m_area_13 (d := d' + 8) (v := v) (w := v4) (x := x) (X := X) (y := y) (Y := Y) hi hq x21 i3 (by omega) (by omega) (Y + 1 - y).toNat y (Int.le_refl _) (by omega)
  rw [rcm_0, row_self] at hB
  have wk : w4 k = wc k := hRF.1 k (fun z => k5.1 (List.mem_singleton.mp z))
  have v64 : v4 64 = wm 64 := hmf.1 64 List.not_mem_nil (by decide)
  refine ⟨_, 1, _, by rw [if_pos i2.1.2.2.1]; exact hA, by rw [if_neg (show ¬ r4 = 0 by omega)]; exact hB, VF_tr hRF.v (VF_row (by omega)), UF_tr (UF_m (mF_sub hmf (by decide) (by decide))) (UF_64 (fun p hp => ?_)), Or.inl ⟨rfl, ?_, ⟨x, X, y, Y, by omega, by omega, ?_, fun p => ?_⟩, ?_, mF_tr (mF_sub hmf (by decide) (by decide)) (mF_row (by decide) (by decide))⟩⟩
  · unfold rcm
    rw [if_neg (by omega)]
  · exact JR_g i2 (mF_row (S := [64]) (T := []) (by decide) (by decide)) (by decide) (by decide) (by funext a b; exact row_c (fun z => k5.1 z.symm)) (by funext a b; exact row_c (fun z => k5.2 z.symm))
  · rw [← wk]
    funext s
    exact row_h s
  · rw [row_h, v64]
  · exact fr_tr (fr_sub hRF.1 (by simp)) (fr_row (by simp))
end
