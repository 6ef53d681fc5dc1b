/-! TELLS -/
abbrev shP (path ground : Int → Int) (j c : Int) : Prop := ground c = j / 2 ∧ path c = j % 2
def mx (P : Int → Prop) [∀ c, Decidable (P c)] (f : Int → Int) : Nat → Int
  | 0 => 0
  | n + 1 => max (mx P f n) (if P n then od f n else 0)
theorem mx_bd {P : Int → Prop} [∀ c, Decidable (P c)] {f : Int → Int} (hf : wtB f) : ∀ n : Nat, n ≤ 144 → 0 ≤ mx P f n ∧ mx P f n ≤ 4000000000 := by
  intro n
  induction n with
  | zero => exact fun _ => ⟨Int.le_refl 0, by show (0 : Int) ≤ _; omega⟩
  | succ n ih =>
    intro hn
    have h1 := ih (by omega)
    have h2 := od_bd hf (c := n) (by omega)
    show 0 ≤ max (mx P f n) (if P n then od f n else 0) ∧ max (mx P f n) (if P n then od f n else 0) ≤ _
    split <;> omega
theorem mx_sm {P : Int → Prop} [∀ c, Decidable (P c)] {f : Int → Int} (hf : wtB f) : ∀ n : Nat, n ≤ 144 → mx P f n ≤ sm (fun c => if P c then od f c else 0) n := by
  intro n
  induction n with
  | zero => exact fun _ => Int.le_refl 0
  | succ n ih =>
    intro hn
    have h1 := ih (by omega)
    have h2 := od_bd hf (c := n) (by omega)
    have h3 := sm_bd (f := fun c => if P c then od f c else 0) (n := n) (B := 4000000000) (fun k hk => by
      have := od_bd hf (c := k) (by omega)
      split <;> omega)
    show max (mx P f n) (if P n then od f n else 0) ≤ sm (fun c => if P c then od f c else 0) n + (if P n then od f n else 0)
    split <;> omega
theorem sm_atmost {P : Int → Prop} [∀ j, Decidable (P j)] {v : Int} (hv : 0 ≤ v) : ∀ n : Nat, (∀ i j : Nat, i < n → j < n → P i → P j → i = j) → sm (fun j => if P j then v else 0) n ≤ v := by
  intro n
  induction n with
  | zero => exact fun _ => hv
  | succ n ih =>
    intro h
    show sm (fun j => if P j then v else 0) n + (if P n then v else 0) ≤ v
    by_cases hp : P n
    · rw [if_pos hp, ← sm_skip (f := fun j => if P j then v else 0) (m := 0) (n := n) (by omega) (fun k _ hk => if_neg (fun q => by have := h k n (by omega) (by omega) q hp; omega))]
      show 0 + v ≤ v
      omega
    · rw [if_neg hp]
      have := ih (fun i j hi hj => h i j (by omega) (by omega))
      omega
theorem sm_cells {path ground : Int → Int} {f : Int → Int} (hf : wtB f) : ∀ n : Nat, n ≤ 144 → sm (fun j => sm (fun c => if shP path ground j c then od f c else 0) n) 16 ≤ sm (od f) n := by
  intro n
  induction n with
  | zero => exact fun _ => Int.le_of_eq sm_zero
  | succ n ih =>
    intro hn
    have h1 := ih (by omega)
    have h2 := od_bd hf (c := n) (by omega)
    have h3 : sm (fun j => sm (fun c => if shP path ground j c then od f c else 0) (n + 1)) 16 = sm (fun j => sm (fun c => if shP path ground j c then od f c else 0) n) 16 + sm (fun j => if shP path ground j n then od f n else 0) 16 := sm_add
    have h4 := sm_atmost (P := fun j => shP path ground j n) h2.1 16 (fun i j hi hj pi pj => by
      have p1 := pi.1; have p2 := pi.2; have p3 := pj.1; have p4 := pj.2
      omega)
    rw [h3]
    show _ ≤ sm (od f) n + od f n
    omega
def tlG (path ground f : Int → Int) : Int → Int := fun j => mx (shP path ground j) f 144
theorem tlG_bd {path ground f : Int → Int} (hf : wtB f) {j : Int} : 0 ≤ tlG path ground f j ∧ tlG path ground f j ≤ 4000000000 := mx_bd hf 144 (by omega)
theorem tl_tot {path ground f : Int → Int} (hf : wtB f) : sm (tlG path ground f) 16 ≤ tot f := by
  rw [tot_od]
  refine Int.le_trans (sm_le fun j hj => ?_) (sm_cells (path := path) (ground := ground) hf 144 (by omega))
  exact mx_sm hf 144 (by omega)
theorem tl_congr {path ground f g : Int → Int} (h : ∀ k, 0 ≤ k → k < 576 → f k = g k) : ∀ j, tlG path ground f j = tlG path ground g j := fun j => by
  have : ∀ n : Nat, n ≤ 144 → mx (shP path ground j) f n = mx (shP path ground j) g n := by
    intro n
    induction n with
    | zero => exact fun _ => rfl
    | succ n ih =>
      intro hn
      have ho : od f n = od g n := by
        unfold od
        rw [h _ (by omega) (by omega), h _ (by omega) (by omega), h _ (by omega) (by omega), h _ (by omega) (by omega)]
      show max (mx (shP path ground j) f n) _ = max (mx (shP path ground j) g n) _
      rw [ih (by omega), ho]
  exact this 144 (by omega)
theorem s_mostShown_1 {d : Nat} {g p i : Int} {w : zW} (hf : wtB (w 19 0)) (hi : w 7 0 0 = i) (hj : p = 0 ∨ p = 1) : ∀ m n : Nat, n + m = 144 →
    D_mostShown_1 (d + 1) g p (mx (shP (w 33 i) (w 35 i) (2 * g + p)) (w 19 0) n) n w = some (tlG (w 33 i) (w 35 i) (w 19 0) (2 * g + p), w) := by
  intro m
  induction m with
  | zero =>
    intro n hn
    have hs : mx (shP (w 33 i) (w 35 i) (2 * g + p)) (w 19 0) 144 = tlG (w 33 i) (w 35 i) (w 19 0) (2 * g + p) := rfl
    rw [e_D_mostShown_1, if_pos (by omega), show n = 144 by omega, hs]
  | succ m ih =>
    intro n hn
    have hb := mx_bd (P := shP (w 33 i) (w 35 i) (2 * g + p)) hf n (by omega)
    rw [← ih (n + 1) (by omega), e_D_mostShown_1, if_neg (by omega), gd_t (by omega), gd_t (by omega), hi]
    have hs : mx (shP (w 33 i) (w 35 i) (2 * g + p)) (w 19 0) (n + 1) = max (mx (shP (w 33 i) (w 35 i) (2 * g + p)) (w 19 0) n) (if shP (w 33 i) (w 35 i) (2 * g + p) n then od (w 19 0) n else 0) := rfl
    rw [hs, show ((n + 1 : Nat) : Int) = (n : Int) + 1 by omega]
    by_cases h1 : w 35 i n = g
    · rw [if_pos h1]
      by_cases h2 : w 33 i n = p
      · have hP : shP (w 33 i) (w 35 i) (2 * g + p) n := ⟨by omega, by omega⟩
        have hwt : Odds_weightAt d 0 n (-1) w = some (od (w 19 0) n, w) := by
          rw [s_weightAt (by omega) hf, if_neg (by omega)]
        have hb : ∀ F : Int × zW → Option (Int × zW), (some (od (w 19 0) n, w)).bind F = F (od (w 19 0) n, w) := fun F => rfl
        rw [if_pos h2, if_pos hP, hwt, hb, gd_t (by omega)]
      · rw [if_neg h2, if_neg (fun q => h2 (by have := q.2; omega)), gd_t (by omega), show max (mx (shP (w 33 i) (w 35 i) (2 * g + p)) (w 19 0) n) 0 = mx (shP (w 33 i) (w 35 i) (2 * g + p)) (w 19 0) n by omega]
    · rw [if_neg h1, if_neg (fun q => h1 (by have := q.1; omega)), gd_t (by omega), show max (mx (shP (w 33 i) (w 35 i) (2 * g + p)) (w 19 0) n) 0 = mx (shP (w 33 i) (w 35 i) (2 * g + p)) (w 19 0) n by omega]
theorem s_mostShown {d : Nat} {g p i : Int} {w : zW} (hf : wtB (w 19 0)) (hi : w 7 0 0 = i) (hj : p = 0 ∨ p = 1) : D_mostShown (d + 1) g p w = some (tlG (w 33 i) (w 35 i) (w 19 0) (2 * g + p), w) := by
  rw [e_D_mostShown]
  exact s_mostShown_1 hf hi hj 144 0 rfl
theorem s_tells_3 {d : Nat} {i : Int} {w : zW} (hf : wtB (w 19 0)) (hi : w 7 0 0 = i) (hI : tot (w 19 0) ≤ 2147483647) : ∀ m n : Nat, n + m = 8 →
    D_tells_3 (d + 2) (sm (tlG (w 33 i) (w 35 i) (w 19 0)) (2 * n)) n w = some (sm (tlG (w 33 i) (w 35 i) (w 19 0)) 16, w) := by
  intro m
  induction m with
  | zero =>
    intro n hn
    have h1 := tl_tot (path := w 33 i) (ground := w 35 i) hf
    have h2 := sm_nn (f := tlG (w 33 i) (w 35 i) (w 19 0)) (n := 16) (fun k hk => (tlG_bd hf).1)
    rw [e_D_tells_3, if_pos (by omega), show 2 * n = 16 by omega]
    exact gd_t (by omega)
  | succ m ih =>
    intro n hn
    have hb := sm_bd (f := tlG (w 33 i) (w 35 i) (w 19 0)) (n := 2 * n) (B := 4000000000) (fun k hk => tlG_bd hf)
    have h0 := tlG_bd (path := w 33 i) (ground := w 35 i) hf (j := 2 * n + 0)
    have h1 := tlG_bd (path := w 33 i) (ground := w 35 i) hf (j := 2 * n + 1)
    have hs : sm (tlG (w 33 i) (w 35 i) (w 19 0)) (2 * (n + 1)) = sm (tlG (w 33 i) (w 35 i) (w 19 0)) (2 * n) + (tlG (w 33 i) (w 35 i) (w 19 0) (2 * (n : Int) + 0) + tlG (w 33 i) (w 35 i) (w 19 0) (2 * (n : Int) + 1)) := by
      show sm (tlG (w 33 i) (w 35 i) (w 19 0)) (2 * n) + tlG (w 33 i) (w 35 i) (w 19 0) ((2 * n : Nat) : Int) + tlG (w 33 i) (w 35 i) (w 19 0) ((2 * n + 1 : Nat) : Int) = _
      rw [show ((2 * n : Nat) : Int) = 2 * (n : Int) + 0 by omega, show ((2 * n + 1 : Nat) : Int) = 2 * (n : Int) + 1 by omega, Int.add_assoc]
    rw [← ih (n + 1) (by omega), e_D_tells_3, if_neg (by omega), s_mostShown hf hi (Or.inl rfl)]
    dsimp only [Option.bind]
    rw [s_mostShown hf hi (Or.inr rfl)]
    dsimp only
    rw [gd_t (by omega), gd_t (by omega), gd_t (by omega), hs]
    rfl
theorem m_tells_5 {d : Nat} {acc i : Int} {w : zW} {path ground : Int → Int} (hi : w 70 0 0 = i) (h4 : 0 ≤ i ∧ i < 4) (hp : ∀ c, 0 ≤ c → c < 144 → w 64 0 (144 * (6 * i + 0) + c) = path c) (hg : ∀ c, 0 ≤ c → c < 144 → w 64 0 (144 * (6 * i + 2) + c) = ground c) (hf : wtB (wtM w 70 6)) (ha : 0 ≤ acc ∧ acc ≤ 100000000000) (j : Nat) (hj : j < 16) : ∀ m n : Nat, n + m = 144 →
    M_tells_5 (d + 2) acc j (mx (shP path ground j) (wtM w 70 6) n) n w = M_tells_3 (d + 2) (acc + tlG path ground (wtM w 70 6) j) (j + 1 : Nat) w := by
  intro m
  induction m with
  | zero =>
    intro n hn
    have := tlG_bd (path := path) (ground := ground) hf (j := (j : Int))
    have hs : mx (shP path ground j) (wtM w 70 6) 144 = tlG path ground (wtM w 70 6) j := rfl
    rw [e_M_tells_5, if_pos (by omega), show n = 144 by omega, hs, gd_t (by omega), gd_t (by omega)]
    rfl
  | succ m ih =>
    intro n hn
    have hb := mx_bd (P := shP path ground j) hf n (by omega)
    have hod := od_bd hf (c := (n : Int)) (by omega)
    have h10 : ∀ x : Int, x = (if shP path ground j n then od (wtM w 70 6) n else 0) → M_tells_10 (d + 2) acc j (mx (shP path ground j) (wtM w 70 6) n) n x w = M_tells_5 (d + 2) acc j (mx (shP path ground j) (wtM w 70 6) (n + 1)) (n + 1 : Nat) w := fun x hx => by
      have hs : mx (shP path ground j) (wtM w 70 6) (n + 1) = max (mx (shP path ground j) (wtM w 70 6) n) x := by rw [hx]; rfl
      rw [e_M_tells_10, hs, show ((n + 1 : Nat) : Int) = (n : Int) + 1 by omega]
      by_cases h : x ≤ mx (shP path ground j) (wtM w 70 6) n
      · rw [if_pos h, gd_t (by omega), show max (mx (shP path ground j) (wtM w 70 6) n) x = mx (shP path ground j) (wtM w 70 6) n by omega]
      · rw [if_neg h, gd_t (by omega), show max (mx (shP path ground j) (wtM w 70 6) n) x = x by omega]
    rw [← ih (n + 1) (by omega), e_M_tells_5, if_neg (by omega), m_woodNow]
    dsimp only [Option.bind]
    rw [hi, m_at h4 (by decide) (by omega)]
    dsimp only
    rw [hg n (by omega) (by omega), gd_t (by omega)]
    by_cases h1 : ground n = (j : Int) / 2
    · rw [if_pos h1, m_woodNow]
      dsimp only
      rw [hi, m_at h4 (by decide) (by omega)]
      dsimp only
      rw [hp n (by omega) (by omega), gd_t (by omega)]
      by_cases h2 : path n = (j : Int) % 2
      · rw [if_pos h2, m_oddsOf (Or.inl ⟨rfl, rfl⟩) (by omega) hf]
        exact h10 _ (by rw [if_pos ⟨h1, h2⟩])
      · rw [if_neg h2]
        exact h10 _ (by rw [if_neg (fun q => h2 q.2)])
    · rw [if_neg h1]
      exact h10 _ (by rw [if_neg (fun q => h1 q.1)])
theorem m_tells_3 {d : Nat} {i : Int} {w : zW} {path ground : Int → Int} (hi : w 70 0 0 = i) (h4 : 0 ≤ i ∧ i < 4) (hp : ∀ c, 0 ≤ c → c < 144 → w 64 0 (144 * (6 * i + 0) + c) = path c) (hg : ∀ c, 0 ≤ c → c < 144 → w 64 0 (144 * (6 * i + 2) + c) = ground c) (hf : wtB (wtM w 70 6)) (hI : tot (wtM w 70 6) ≤ 2147483647) : ∀ m j : Nat, j + m = 16 →
    M_tells_3 (d + 2) (sm (tlG path ground (wtM w 70 6)) j) j w = some (sm (tlG path ground (wtM w 70 6)) 16, w) := by
  intro m
  induction m with
  | zero =>
    intro j hj
    have h1 := tl_tot (path := path) (ground := ground) hf
    have h2 := sm_nn (f := tlG path ground (wtM w 70 6)) (n := 16) (fun k hk => (tlG_bd hf).1)
    rw [e_M_tells_3, if_pos (by omega), show j = 16 by omega]
    exact gd_t (by omega)
  | succ m ih =>
    intro j hj
    have hb := sm_bd (f := tlG path ground (wtM w 70 6)) (n := j) (B := 4000000000) (fun k hk => tlG_bd hf)
    rw [← ih (j + 1) (by omega), e_M_tells_3, if_neg (by omega)]
    exact m_tells_5 hi h4 hp hg hf (by omega) j (by omega) 144 0 rfl
