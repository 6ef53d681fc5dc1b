theorem TK_let {T : Int → Int} {n q sg bh : Int} (h : TK T n q sg bh) : (sg = 97 ∧ q < n ∧ let' (T q) ∧ rnR let' T n q bh) ∨ (sg ≠ 97 ∧ ¬ (q < n ∧ let' (T q))) := by
  unfold TK at h
  by_cases z : n ≤ q
  · rw [if_pos z] at h
    exact Or.inr ⟨by omega, by omega⟩
  rw [if_neg z] at h
  by_cases z1 : dig (T q)
  · rw [if_pos z1] at h
    exact Or.inr ⟨by omega, by omega⟩
  rw [if_neg z1] at h
  by_cases z2 : let' (T q)
  · rw [if_pos z2] at h
    exact Or.inl ⟨h.1, by omega, z2, rn_s (by omega) z2 h.2⟩
  rw [if_neg z2] at h
  by_cases z3 : (T q = 60 ∨ T q = 62) ∧ q + 1 < n ∧ T (q + 1) = 61
  · rw [if_pos z3] at h
    refine Or.inr ⟨fun z => ?_, fun z => z2 z.2⟩
    have := h.1
    split at this <;> omega
  · rw [if_neg z3] at h
    exact Or.inr ⟨fun z => z2 (by omega), fun z => z2 z.2⟩
theorem TK_dig {T : Int → Int} {n q sg bh : Int} (h : TK T n q sg bh) : (sg = 48 ∧ q < n ∧ dig (T q) ∧ rnR dig T n q bh) ∨ (sg ≠ 48 ∧ ¬ (q < n ∧ dig (T q))) := by
  unfold TK at h
  by_cases z : n ≤ q
  · rw [if_pos z] at h
    exact Or.inr ⟨by omega, by omega⟩
  rw [if_neg z] at h
  by_cases z1 : dig (T q)
  · rw [if_pos z1] at h
    exact Or.inl ⟨h.1, by omega, z1, rn_s (by omega) z1 h.2⟩
  rw [if_neg z1] at h
  by_cases z2 : let' (T q)
  · rw [if_pos z2] at h
    exact Or.inr ⟨by omega, fun z => z1 z.2⟩
  rw [if_neg z2] at h
  by_cases z3 : (T q = 60 ∨ T q = 62) ∧ q + 1 < n ∧ T (q + 1) = 61
  · rw [if_pos z3] at h
    refine Or.inr ⟨fun z => ?_, fun z => z1 z.2⟩
    have := h.1
    split at this <;> omega
  · rw [if_neg z3] at h
    exact Or.inr ⟨fun z => z1 (by omega), fun z => z1 z.2⟩
/-- the class at a sign -/
def CT (T : Int → Int) (n : Int) (wc : zW) : Prop := (wc 5 0 1 = n ∧ 0 ≤ n ∧ n ≤ 400) ∧ wc 20 0 = T ∧ wc 5 0 2 = 0 ∧ (0 ≤ wc 5 0 4 ∧ wc 5 0 4 ≤ n) ∧ TK T n (wc 5 0 4) (wc 5 0 3) (wc 5 0 5)
/-- the class behind a fault -/
def CF (f : Int) (wc : zW) : Prop := wc 5 0 2 = f ∧ wc 5 0 3 = -2 ∧ 0 < f ∧ f ≤ 4000
def okWs (ws : List (List Int)) : Prop := ∀ W ∈ ws, 1 ≤ W.length ∧ ∀ j, j < W.length → 97 ≤ W.getD j 0 ∧ W.getD j 0 ≤ 122
section
variable {d : Nat} {wc : zW} {T : Int → Int} {n : Int}
theorem CT.bh (h : CT T n wc) : wc 5 0 4 ≤ wc 5 0 5 ∧ wc 5 0 5 ≤ n := TK_n h.2.2.2.1.2 h.2.2.2.2
/-- which of the words -/
theorem s_wordIn {s : Int} {cs : List Int} {ws : List (List Int)} (h : CT T n wc) (hS : SS s cs) (hL : LY cs 0 ws) (hW : okWs ws) (hl : ws.length ≤ 900) : ∃ r, Reader_wordIn (d + 2) s wc = some (r, wc) ∧ WI T n (wc 5 0 4) ws 0 r := by
  have hbh := h.bh
  obtain ⟨⟨t1, t2, t3⟩, t4, t5, t6, t7⟩ := h
  rcases TK_let t7 with ⟨z1, z2, z3, z4⟩ | ⟨z1, z2⟩
  · obtain ⟨r, r1, r2⟩ := s_wAll (d := d) (n := n) hS rfl rfl ⟨t6.1, by omega⟩ (show wc 5 0 5 ≤ 400 by omega) (by rw [t4]; exact z4) ws 0 0 hL (fun W hw => (hW W hw).2) (Int.le_refl 0) (by omega)
    rw [t4] at r2
    exact ⟨r, by rw [e_Reader_wordIn, if_pos z1]; exact r1, r2⟩
  · refine ⟨-1, by rw [e_Reader_wordIn, if_neg z1], Or.inl ⟨rfl, fun W hw hd => z2 ?_⟩⟩
    have hl := (hW W hw).1
    exact hd.1.2.1 _ (Int.le_refl _) (by omega)
theorem s_wordF {f s : Int} (h : CF f wc) : Reader_wordIn d s wc = some (-1, wc) := by
  rw [e_Reader_wordIn, if_neg (by have := h.2.1; omega)]
theorem CT_nx (h : CT T n wc) : ∃ wc', Reader_next d wc = some (0, wc') ∧ RK wc wc' ∧ CT T n wc' ∧ rnR blk T n (wc 5 0 5) (wc' 5 0 4) := by
  have hbh := h.bh
  obtain ⟨⟨t1, t2, t3⟩, t4, t5, t6, t7⟩ := h
  obtain ⟨w', p1, p2, p3, p4, p5, p6⟩ := s_next (d := d) (w := wc) ⟨by omega, by omega⟩ t5 (by omega)
  rw [t1, t4] at p3 p4
  refine ⟨w', p1, p2, ⟨⟨?_, t2, t3⟩, ?_, ?_, ⟨p5, by omega⟩, p4⟩, p3⟩
  · rw [p2.2 1 (by decide) (by decide) (by decide)]; exact t1
  · rw [p2.1 20 (by decide)]; exact t4
  · rw [p2.2 2 (by decide) (by decide) (by decide)]; exact t5
/-- what faults may change besides -/
def RF (w w' : zW) : Prop := z_fr [5] w w' ∧ ∀ s, s ≠ 2 → s ≠ 3 → s ≠ 4 → s ≠ 5 → w' 5 0 s = w 5 0 s
theorem RF_rf (w : zW) : RF w w := ⟨fr_rf _ _, fun _ _ _ _ _ => rfl⟩
theorem RF_tr {w w' w'' : zW} (h : RF w w') (h' : RF w' w'') : RF w w'' := ⟨fr_tr h.1 h'.1, fun s a b c e => (h'.2 s a b c e).trans (h.2 s a b c e)⟩
theorem RK.f {w w' : zW} (h : RK w w') : RF w w' := ⟨h.1, fun s _ b c e => h.2 s b c e⟩
theorem RF_up {w : zW} {s v : Int} (h : s = 2 ∨ s = 3 ∨ s = 4 ∨ s = 5) : RF w (z_up w 5 0 s v) := ⟨fr_up (by decide), fun t a b c e => up_s (by omega)⟩
theorem s_refuse {k : Int} (h : CT T n wc) (hk : 0 ≤ k ∧ k ≤ 7) : ∃ wc', Reader_refuse d k wc = some (0, wc') ∧ RF wc wc' ∧ CF (1 + 8 * wc 5 0 4 + k) wc' := by
  obtain ⟨⟨t1, t2, t3⟩, t4, t5, t6, t7⟩ := h
  refine ⟨_, ?_, RF_tr (RF_up (s := 2) (v := 1 + 8 * wc 5 0 4 + k) (Or.inl rfl)) (RF_up (s := 3) (v := -2) (Or.inr (Or.inl rfl))), ?_⟩
  · rw [e_Reader_refuse, if_pos t5, gd_t (by omega), gd_t (by omega), gd_t (by omega)]
  · unfold CF
    rw [up_s (by decide), up_h, up_h]
    omega
theorem s_refuseF {f k : Int} (h : CF f wc) : ∃ wc', Reader_refuse d k wc = some (0, wc') ∧ RF wc wc' ∧ CF f wc' := by
  obtain ⟨c1, c2, c3, c4⟩ := h
  refine ⟨z_up wc 5 0 3 (-2), by rw [e_Reader_refuse, if_neg (by omega)], RF_up (Or.inr (Or.inl rfl)), ?_⟩
  unfold CF
  rw [up_s (by decide), up_h]
  exact ⟨c1, rfl, c3, c4⟩
theorem s_nxF {f : Int} (h : CF f wc) : ∃ wc', Reader_next d wc = some (0, wc') ∧ RF wc wc' ∧ CF f wc' := by
  obtain ⟨c1, c2, c3, c4⟩ := h
  refine ⟨z_up wc 5 0 3 (-2), s_nextF (by omega), RF_up (Or.inr (Or.inl rfl)), ?_⟩
  unfold CF
  rw [up_s (by decide), up_h]
  exact ⟨c1, rfl, c3, c4⟩
end
/-! numbers -/
def dvN (T : Int → Int) (q : Int) : Nat → Int
  | 0 => 0
  | k + 1 => dvN T q k * 10 + T (q + k) - 48
theorem dv_bd {T : Int → Int} {q : Int} : ∀ k : Nat, (∀ j : Nat, j < k → dig (T (q + j))) → 0 ≤ dvN T q k ∧ dvN T q k < 10 ^ k := by
  intro k
  induction k with
  | zero =>
    intro _
    show (0 : Int) ≤ 0 ∧ (0 : Int) < 10 ^ 0
    decide
  | succ k ih =>
    intro h
    have h1 := ih (fun j hj => h j (by omega))
    have h2 := h k (by omega)
    have hs : dvN T q (k + 1) = dvN T q k * 10 + T (q + k) - 48 := rfl
    have hp : (10 : Int) ^ (k + 1) = 10 ^ k * 10 := Int.pow_succ _ _
    rw [hs, hp]
    omega
theorem dv_5 {T : Int → Int} {q : Int} {k : Nat} (hk : k ≤ 5) (h : ∀ j : Nat, j < k → dig (T (q + j))) : 0 ≤ dvN T q k ∧ dvN T q k < 100000 := by
  have h1 := dv_bd k h
  have : k = 0 ∨ k = 1 ∨ k = 2 ∨ k = 3 ∨ k = 4 ∨ k = 5 := by omega
  rcases this with rfl | rfl | rfl | rfl | rfl | rfl <;> exact ⟨h1.1, Int.lt_of_lt_of_le h1.2 (by decide)⟩
theorem s_digits_1 {d : Nat} {wc : zW} {T : Int → Int} {q b : Int} (h20 : wc 20 0 = T) (h4 : wc 5 0 4 = q) (h5 : wc 5 0 5 = b) (hq : 0 ≤ q) (hb : b ≤ 400) (hd : ∀ x, q ≤ x → x < b → dig (T x)) (hqb : q ≤ b) : ∀ (m k : Nat), k + m = min 5 (b - q).toNat → Reader_digits_1 d (dvN T q k) (q + k) wc = some (dvN T q (min 5 (b - q).toNat), wc) := by
  intro m
  induction m with
  | zero =>
    intro k hk
    rw [e_Reader_digits_1, h4, h5]
    by_cases z : b ≤ q + k
    · rw [if_pos z, show k = min 5 (b - q).toNat by omega]
    · rw [if_neg z, gd_t (by omega), if_pos (by omega), show k = min 5 (b - q).toNat by omega]
  | succ m ih =>
    intro k hk
    have h1 := dv_5 (T := T) (q := q) (k := k) (by omega) (fun j hj => hd _ (by omega) (by omega))
    have h2 := hd (q + k) (by omega) (by omega)
    have := ih (k + 1) (by omega)
    rw [show q + ((k + 1 : Nat) : Int) = q + k + 1 by omega] at this
    rw [e_Reader_digits_1, h4, h5, h20, if_neg (by omega), gd_t (by omega), if_neg (by omega), if_neg (by omega), gd_t (by omega), gd_t (by omega), gd_t (by omega), gd_t (by omega), gd_t (by omega)]
    exact this
theorem s_digits {d : Nat} {wc : zW} {T : Int → Int} {n : Int} (h : CT T n wc) (hd : wc 5 0 3 = 48) : Reader_digits d wc = some (dvN T (wc 5 0 4) (min 5 (wc 5 0 5 - wc 5 0 4).toNat), wc) ∧ 0 ≤ dvN T (wc 5 0 4) (min 5 (wc 5 0 5 - wc 5 0 4).toNat) ∧ dvN T (wc 5 0 4) (min 5 (wc 5 0 5 - wc 5 0 4).toNat) < 100000 := by
  have hbh := h.bh
  obtain ⟨⟨t1, t2, t3⟩, t4, t5, t6, t7⟩ := h
  rcases TK_dig t7 with ⟨z1, z2, z3, z4⟩ | ⟨z1, -⟩
  · have hdg : ∀ x, wc 5 0 4 ≤ x → x < wc 5 0 5 → dig (T x) := fun x x0 x1 => (z4.2.1 x x0 x1).2
    have := s_digits_1 (d := d) (T := T) t4 rfl rfl t6.1 (by omega) hdg hbh.1 (min 5 (wc 5 0 5 - wc 5 0 4).toNat) 0 (by omega)
    rw [show wc 5 0 4 + ((0 : Nat) : Int) = wc 5 0 4 by omega] at this
    exact ⟨by rw [e_Reader_digits]; exact this, dv_5 (by omega) (fun j hj => hdg _ (by omega) (by omega))⟩
  · exact absurd hd z1
