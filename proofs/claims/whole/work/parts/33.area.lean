/-! AREAS: fork, all, aim, tells -/
theorem sm_skip {f : Int → Int} {m n : Nat} (hmn : m ≤ n) (h : ∀ k : Nat, m ≤ k → k < n → f k = 0) : sm f m = sm f n := by
  induction hmn with
  | refl => rfl
  | step hm ih =>
    next n' =>
    show sm f m = sm f n' + f n'
    rw [ih (fun k h1 h2 => h k h1 (by omega)), h n' hm (by omega)]
    omega
def wv (f : Int → Int) (way c : Int) : Int := if 0 ≤ way ∧ way < 4 then f (4 * c + way) else od f c
theorem wv_bd {f : Int → Int} (hf : wtB f) {way c : Int} (h : 0 ≤ c ∧ c < 144) : 0 ≤ wv f way c ∧ wv f way c ≤ 4000000000 := by
  unfold wv
  split
  · have := hf (4 * c + way) (by omega) (by omega)
    omega
  · exact od_bd hf h
abbrev inAr (a b c : Int) : Prop := a / 12 ≤ c / 12 ∧ c / 12 ≤ b / 12 ∧ a % 12 ≤ c % 12 ∧ c % 12 ≤ b % 12
def arg (f : Int → Int) (a b way : Int) : Int → Int := fun c => if inAr a b c then wv f way c else 0
theorem arg_bd {f : Int → Int} (hf : wtB f) {a b way c : Int} (h : 0 ≤ c ∧ c < 144) : 0 ≤ arg f a b way c ∧ arg f a b way c ≤ 4000000000 := by
  have := wv_bd hf (way := way) h
  unfold arg
  split <;> omega
theorem s_inArea_4 {d : Nat} {o a b way : Int} {w : zW} (hf : wtB (w 19 o)) (ha : 0 ≤ a ∧ a < 144) (hb : 0 ≤ b ∧ b < 144) : ∀ (m y x : Nat), x + m = 12 → a % 12 ≤ x → y < 12 → a / 12 ≤ y → (y : Int) ≤ b / 12 →
    Odds_inArea_4 (d + 1) o a b way (sm (arg (w 19 o) a b way) (12 * y + x)) y x w = Odds_inArea_1 (d + 1) o a b way (sm (arg (w 19 o) a b way) (12 * (y + 1))) (y + 1 : Nat) w := by
  intro m
  induction m with
  | zero =>
    intro y x hx h1 h2 h3 h4
    rw [e_Odds_inArea_4, gd_t (by omega), if_pos (by omega), gd_t (by omega), show 12 * y + x = 12 * (y + 1) by omega]
    rfl
  | succ m ih =>
    intro y x hx h1 h2 h3 h4
    rw [e_Odds_inArea_4, gd_t (by omega)]
    by_cases h : b % 12 < x
    · rw [if_pos h, gd_t (by omega)]
      rw [sm_skip (f := arg (w 19 o) a b way) (m := 12 * y + x) (n := 12 * (y + 1)) (by omega) (fun k k1 k2 => by unfold arg; rw [if_neg (by omega)])]
      rfl
    · have ih' := ih y (x + 1) (by omega) (by omega) h2 h3 h4
      have hb1 := sm_bd (f := arg (w 19 o) a b way) (n := 12 * y + x) (B := 4000000000) (fun k hk => arg_bd hf (by omega))
      have hb2 := wv_bd hf (way := way) (c := (y : Int) * 12 + x) (by omega)
      rw [if_neg h, gd_t (by omega), gd_t (by omega), s_weightAt (by omega) hf]
      dsimp only [Option.bind]
      have he : (if 0 ≤ way ∧ way < 4 then w 19 o (4 * ((y : Int) * 12 + x) + way) else od (w 19 o) ((y : Int) * 12 + x)) = wv (w 19 o) way ((y : Int) * 12 + x) := rfl
      rw [he]
      have hs : sm (arg (w 19 o) a b way) (12 * y + (x + 1)) = sm (arg (w 19 o) a b way) (12 * y + x) + wv (w 19 o) way ((y : Int) * 12 + x) := by
        show sm _ (12 * y + x) + arg (w 19 o) a b way ((12 * y + x : Nat) : Int) = _
        rw [show ((12 * y + x : Nat) : Int) = (y : Int) * 12 + x by omega]
        unfold arg
        rw [if_pos (by omega)]
      rw [gd_t (by omega), gd_t (by omega), ← hs, show (x : Int) + 1 = ((x + 1 : Nat) : Int) by omega, ih']
theorem s_inArea_1 {d : Nat} {o a b way : Int} {w : zW} (hf : wtB (w 19 o)) (ha : 0 ≤ a ∧ a < 144) (hb : 0 ≤ b ∧ b < 144) : ∀ (m y : Nat), y + m = 12 → a / 12 ≤ y →
    Odds_inArea_1 (d + 1) o a b way (sm (arg (w 19 o) a b way) (12 * y)) y w = some (sm (arg (w 19 o) a b way) 144, w) := by
  intro m
  induction m with
  | zero =>
    intro y hy h1
    rw [e_Odds_inArea_1, gd_t (by omega), if_pos (by omega), show 12 * y = 144 by omega]
  | succ m ih =>
    intro y hy h1
    rw [e_Odds_inArea_1, gd_t (by omega)]
    by_cases h : b / 12 < y
    · rw [if_pos h, sm_skip (f := arg (w 19 o) a b way) (m := 12 * y) (n := 144) (by omega) (fun k k1 k2 => by unfold arg; rw [if_neg (by omega)])]
    · rw [if_neg h, if_neg (by omega), gd_t (by omega)]
      have h2 := s_inArea_4 (d := d) (o := o) (way := way) hf ha hb (12 - (a % 12).toNat) y (a % 12).toNat (by omega) (by omega) (by omega) h1 (by omega)
      rw [show (((a % 12).toNat : Nat) : Int) = a % 12 by omega] at h2
      rw [sm_skip (f := arg (w 19 o) a b way) (m := 12 * y) (n := 12 * y + (a % 12).toNat) (by omega) (fun k k1 k2 => by unfold arg; rw [if_neg (by omega)]), h2]
      exact ih (y + 1) (by omega) (by omega)
def area (f : Int → Int) (a b way : Int) : Int := sm (arg f a b way) 144
theorem area_bd {f : Int → Int} (hf : wtB f) {a b way : Int} : 0 ≤ area f a b way ∧ area f a b way ≤ 144 * 4000000000 :=
  sm_bd (n := 144) (fun k hk => arg_bd hf (by omega))
theorem s_inArea {d : Nat} {o a b way : Int} {w : zW} (hf : wtB (w 19 o)) (ha : 0 ≤ a ∧ a < 144) (hb : 0 ≤ b ∧ b < 144) : Odds_inArea (d + 1) o a b way w = some (area (w 19 o) a b way, w) := by
  rw [e_Odds_inArea, gd_t (by omega)]
  have h := s_inArea_1 (d := d) (o := o) (way := way) hf ha hb (12 - (a / 12).toNat) (a / 12).toNat (by omega) (by omega)
  rw [show (((a / 12).toNat : Nat) : Int) = a / 12 by omega, ← sm_skip (f := arg (w 19 o) a b way) (m := 0) (n := 12 * (a / 12).toNat) (by omega) (fun k k1 k2 => by unfold arg; rw [if_neg (by omega)])] at h
  exact h
/-- the model's fork -/
theorem m_fork_10 {d : Nat} {x1 x2 y1 y2 way : Int} {w : zW} (hf : wtB (wtM w 70 6)) (hx : 0 ≤ x1 ∧ x1 ≤ x2 ∧ x2 < 12) (hy : 0 ≤ y1 ∧ y1 ≤ y2 ∧ y2 < 12) (hw : -1 ≤ way ∧ way < 4) : ∀ (m y x : Nat), x + m = 12 → x1 ≤ x → y1 ≤ y → (y : Int) ≤ y2 →
    M_fork_10 (d + 1) x1 x2 y2 way (sm (arg (wtM w 70 6) (12 * y1 + x1) (12 * y2 + x2) way) (12 * y + x)) y x w = M_fork_8 (d + 1) x1 x2 y2 way (sm (arg (wtM w 70 6) (12 * y1 + x1) (12 * y2 + x2) way) (12 * (y + 1))) (y + 1 : Nat) w := by
  intro m
  induction m with
  | zero =>
    intro y x hx h1 h2 h3
    rw [e_M_fork_10, if_pos (by omega), gd_t (by omega), show 12 * y + x = 12 * (y + 1) by omega]
    rfl
  | succ m ih =>
    intro y x hxx h1 h2 h3
    rw [e_M_fork_10]
    by_cases h : x2 < x
    · rw [if_pos h, gd_t (by omega)]
      rw [sm_skip (f := arg (wtM w 70 6) (12 * y1 + x1) (12 * y2 + x2) way) (m := 12 * y + x) (n := 12 * (y + 1)) (by omega) (fun k k1 k2 => by unfold arg; rw [if_neg (by omega)])]
      rfl
    · have ih' := ih y (x + 1) (by omega) (by omega) h2 h3
      have hb1 := sm_bd (f := arg (wtM w 70 6) (12 * y1 + x1) (12 * y2 + x2) way) (n := 12 * y + x) (B := 4000000000) (fun k hk => arg_bd hf (by omega))
      have hb2 := wv_bd hf (way := way) (c := 12 * (y : Int) + x) (by omega)
      have hs : sm (arg (wtM w 70 6) (12 * y1 + x1) (12 * y2 + x2) way) (12 * y + (x + 1)) = sm (arg (wtM w 70 6) (12 * y1 + x1) (12 * y2 + x2) way) (12 * y + x) + wv (wtM w 70 6) way (12 * (y : Int) + x) := by
        show sm _ (12 * y + x) + arg (wtM w 70 6) (12 * y1 + x1) (12 * y2 + x2) way ((12 * y + x : Nat) : Int) = _
        rw [show ((12 * y + x : Nat) : Int) = 12 * (y : Int) + x by omega]
        unfold arg
        rw [if_pos (by omega)]
      rw [if_neg h, gd_t (by omega), gd_t (by omega)]
      by_cases hq : way = -1
      · rw [if_pos hq, m_oddsOf (Or.inl ⟨rfl, rfl⟩) (by omega) hf]
        dsimp only [Option.bind]
        have he : wv (wtM w 70 6) way (12 * (y : Int) + x) = od (wtM w 70 6) (12 * (y : Int) + x) := by unfold wv; rw [if_neg (by omega)]
        rw [he] at hs hb2
        rw [gd_t (by omega), gd_t (by omega), ← hs, show (x : Int) + 1 = ((x + 1 : Nat) : Int) by omega, ih']
      · rw [if_neg hq]
        have he : wv (wtM w 70 6) way (12 * (y : Int) + x) = w 70 0 ((6 + (4 * ((12 * (y : Int)) + x))) + way) := by
          unfold wv wtM
          rw [if_pos (by omega), show 6 + (4 * (12 * (y : Int) + x) + way) = (6 + (4 * ((12 * (y : Int)) + x))) + way by omega]
        rw [he] at hs hb2
        rw [gd_t (by omega), gd_t (by omega), gd_t (by omega), gd_t (by omega), gd_t (by omega), gd_t (by omega), ← hs, show (x : Int) + 1 = ((x + 1 : Nat) : Int) by omega, ih']
theorem m_fork_8 {d : Nat} {x1 x2 y1 y2 way : Int} {w : zW} (hf : wtB (wtM w 70 6)) (hx : 0 ≤ x1 ∧ x1 ≤ x2 ∧ x2 < 12) (hy : 0 ≤ y1 ∧ y1 ≤ y2 ∧ y2 < 12) (hw : -1 ≤ way ∧ way < 4) (hI : area (wtM w 70 6) (12 * y1 + x1) (12 * y2 + x2) way ≤ 2147483647) : ∀ (m y : Nat), y + m = (y2 + 1).toNat → y1 ≤ y →
    M_fork_8 (d + 1) x1 x2 y2 way (sm (arg (wtM w 70 6) (12 * y1 + x1) (12 * y2 + x2) way) (12 * y)) y w = some (area (wtM w 70 6) (12 * y1 + x1) (12 * y2 + x2) way, w) := by
  intro m
  induction m with
  | zero =>
    intro y hm h1
    have := area_bd hf (a := 12 * y1 + x1) (b := 12 * y2 + x2) (way := way)
    rw [e_M_fork_8, if_pos (by omega), sm_skip (f := arg (wtM w 70 6) (12 * y1 + x1) (12 * y2 + x2) way) (m := 12 * y) (n := 144) (by omega) (fun k k1 k2 => by unfold arg; rw [if_neg (by omega)])]
    exact gd_t (by unfold area at *; omega)
  | succ m ih =>
    intro y hm h1
    rw [e_M_fork_8, if_neg (by omega)]
    have h2 := m_fork_10 (d := d) hf hx hy hw (12 - x1.toNat) y x1.toNat (by omega) (by omega) h1 (by omega)
    rw [show ((x1.toNat : Nat) : Int) = x1 by omega] at h2
    rw [sm_skip (f := arg (wtM w 70 6) (12 * y1 + x1) (12 * y2 + x2) way) (m := 12 * y) (n := 12 * y + x1.toNat) (by omega) (fun k k1 k2 => by unfold arg; rw [if_neg (by omega)]), h2]
    exact ih (y + 1) (by omega) (by omega)
theorem area_congr {f g : Int → Int} {a b way : Int} (h : ∀ k, 0 ≤ k → k < 576 → f k = g k) : area f a b way = area g a b way := sm_congr fun c hc => by
  unfold arg
  split
  · unfold wv od
    split
    · exact h _ (by omega) (by omega)
    · rw [h _ (by omega) (by omega), h _ (by omega) (by omega), h _ (by omega) (by omega), h _ (by omega) (by omega)]
  · rfl
