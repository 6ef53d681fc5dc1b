/-! SUMS OVER CELLS: on, sure, risk, areas; the class's and the model's -/
abbrev opn (C R : Int) (wall : Int → Int) (c : Int) : Prop := c % 12 < C ∧ c / 12 < R ∧ wall c = 0
abbrev opw (w : zW) (i : Int) : Int → Prop := opn (w 9 i 0) (w 9 i 1) (w 34 i)
theorem sm_bd {f : Int → Int} {n : Nat} {B : Int} (h : ∀ k : Nat, k < n → 0 ≤ f k ∧ f k ≤ B) : 0 ≤ sm f n ∧ sm f n ≤ n * B := by
  induction n with
  | zero => exact ⟨Int.le_refl 0, by show (0 : Int) ≤ 0 * B; omega⟩
  | succ n ih =>
    have h1 := ih (fun k hk => h k (by omega))
    have h2 := h n (by omega)
    have h3 : ((n + 1 : Nat) : Int) * B = n * B + B := by rw [Int.natCast_succ, Int.add_mul, Int.one_mul]
    constructor
    · show 0 ≤ sm f n + f n; omega
    · show sm f n + f n ≤ _; omega
theorem od_bd {f : Int → Int} (hf : wtB f) {c : Int} (h : 0 ≤ c ∧ c < 144) : 0 ≤ od f c ∧ od f c ≤ 4000000000 := by
  have k0 := hf (4 * c) (by omega) (by omega)
  have k1 := hf (4 * c + 1) (by omega) (by omega)
  have k2 := hf (4 * c + 2) (by omega) (by omega)
  have k3 := hf (4 * c + 3) (by omega) (by omega)
  unfold od
  omega
/-- the list of a wood's open cells -/
def WO (w : zW) (i : Int) : Prop := w 9 i 13 = cn (opw w i) 144 ∧ lists (opw w i) (w 40 i) 144
theorem WO.at {w : zW} {i : Int} (h : WO w i) {k : Nat} (hk : (k : Int) < w 9 i 13) : ∃ c : Nat, c < 144 ∧ opw w i c ∧ cn (opw w i) c = k ∧ w 40 i k = c := lists_at h.2 (by have := h.1; omega)
theorem WO.len {w : zW} {i : Int} (h : WO w i) : 0 ≤ w 9 i 13 ∧ w 9 i 13 ≤ 144 := by
  have := h.1
  have := cn_le (P := opw w i) (n := 144)
  omega
/-- no weight is at a cell that is closed -/
def wtC (w : zW) (i : Int) (f : Int → Int) : Prop := ∀ c : Nat, c < 144 → ¬ opw w i c → ∀ k, 4 * (c : Int) ≤ k → k < 4 * (c : Int) + 4 → f k = 0
theorem wtC.od {w : zW} {i : Int} {f : Int → Int} (h : wtC w i f) {c : Nat} (hc : c < 144) (ho : ¬ opw w i c) : od f c = 0 := by
  show f (4 * (c : Int)) + f (4 * (c : Int) + 1) + f (4 * (c : Int) + 2) + f (4 * (c : Int) + 3) = 0
  rw [h c hc ho _ (by omega) (by omega), h c hc ho _ (by omega) (by omega), h c hc ho _ (by omega) (by omega), h c hc ho _ (by omega) (by omega)]
  rfl
def onp (path f : Int → Int) : Int := sm (fun c => if path c = 1 then od f c else 0) 144
theorem onp_bd {path f : Int → Int} (hf : wtB f) : 0 ≤ onp path f ∧ onp path f ≤ 144 * 4000000000 := by
  refine sm_bd (n := 144) (fun k hk => ?_)
  have := od_bd hf (c := k) (by omega)
  split <;> omega
theorem s_onPath_1 {d : Nat} {o i : Int} {w : zW} (hW : WO w i) (hf : wtB (w 19 o)) : ∀ m k : Nat, (k : Int) + m = w 9 i 13 →
    Odds_onPath_1 (d + 1) o i (sm (fun j => if w 33 i (w 40 i j) = 1 then od (w 19 o) (w 40 i j) else 0) k) k w = some (sm (fun j => if w 33 i (w 40 i j) = 1 then od (w 19 o) (w 40 i j) else 0) (k + m), w) := by
  intro m
  induction m with
  | zero =>
    intro k hk
    rw [e_Odds_onPath_1, if_pos (by omega), Nat.add_zero]
  | succ m ih =>
    intro k hk
    obtain ⟨c, hc, ho, -, he⟩ := hW.at (k := k) (by omega)
    have hl := hW.len
    have hbd : 0 ≤ sm (fun j => if w 33 i (w 40 i j) = 1 then od (w 19 o) (w 40 i j) else 0) k ∧ sm (fun j => if w 33 i (w 40 i j) = 1 then od (w 19 o) (w 40 i j) else 0) k ≤ k * 4000000000 := by
      refine sm_bd (fun j hj => ?_)
      obtain ⟨c', hc', -, -, he'⟩ := hW.at (k := j) (by omega)
      have := od_bd hf (c := (c' : Int)) (by omega)
      rw [he']
      split <;> omega
    have hod := od_bd hf (c := (c : Int)) (by omega)
    have ih' := ih (k + 1) (by omega)
    rw [show k + 1 + m = k + (m + 1) by omega] at ih'
    rw [← ih', e_Odds_onPath_1, if_neg (by omega), gd_t (by omega), gd_t (by omega), gd_t (by omega)]
    show _ = Odds_onPath_1 (d + 1) o i (sm _ k + (if w 33 i (w 40 i k) = 1 then od (w 19 o) (w 40 i k) else 0)) ((k + 1 : Nat) : Int) w
    rw [show ((k + 1 : Nat) : Int) = (k : Int) + 1 by omega]
    by_cases h1 : w 33 i (w 40 i k) = 1
    · rw [if_pos h1, if_pos h1, s_weightAt (by omega) hf]
      dsimp only [Option.bind]
      rw [if_neg (by omega), he, gd_t (by omega), gd_t (by omega)]
    · rw [if_neg h1, if_neg h1, gd_t (by omega), gd_t (by omega)]
theorem s_onPath {d : Nat} {o i : Int} {w : zW} (hW : WO w i) (hf : wtB (w 19 o)) (hC : wtC w i (w 19 o)) : Odds_onPath (d + 1) o i w = some (onp (w 33 i) (w 19 o), w) := by
  have hl := hW.len
  obtain ⟨n, hn⟩ : ∃ n : Nat, w 9 i 13 = n := ⟨(w 9 i 13).toNat, by omega⟩
  have h := s_onPath_1 (d := d) (o := o) hW hf n 0 (by omega)
  rw [e_Odds_onPath]
  refine h.trans (congrArg (fun z => some (z, w)) ?_)
  rw [Nat.zero_add, show n = cn (opw w i) 144 by have := hW.1; omega]
  rw [sm_list (f := fun c => if w 33 i c = 1 then od (w 19 o) c else 0) hW.2]
  refine sm_congr fun c hc => ?_
  by_cases h1 : opw w i c
  · rw [if_pos h1]
  · rw [if_neg h1, hC.od hc h1, ite_self]
theorem m_sumOn_1 {d k : Nat} {b i : Int} {w : zW} {path : Int → Int} (hk : (k = 70 ∧ b = 6) ∨ (k = 71 ∧ b = 0)) (hi : w 70 0 0 = i) (h4 : 0 ≤ i ∧ i < 4) (hp : ∀ c, 0 ≤ c → c < 144 → w 64 0 (144 * (6 * i + 0) + c) = path c) (hf : wtB (wtM w k b)) : ∀ m n : Nat, n + m = 144 →
    M_sumOn_1 (d + 2) k b (sm (fun c => if path c = 1 then od (wtM w k b) c else 0) n) n w = some (onp path (wtM w k b), w) := by
  intro m
  induction m with
  | zero =>
    intro n hn
    rw [e_M_sumOn_1, if_pos (by omega)]
    unfold onp
    rw [show n = 144 by omega]
  | succ m ih =>
    intro n hn
    have hbd : 0 ≤ sm (fun c => if path c = 1 then od (wtM w k b) c else 0) n ∧ sm (fun c => if path c = 1 then od (wtM w k b) c else 0) n ≤ n * 4000000000 := by
      refine sm_bd (fun j hj => ?_)
      have := od_bd hf (c := (j : Int)) (by omega)
      split <;> omega
    have hod := od_bd hf (c := (n : Int)) (by omega)
    rw [← ih (n + 1) (by omega), e_M_sumOn_1, if_neg (by omega), m_woodNow]
    dsimp only [Option.bind]
    rw [hi, m_at h4 (by decide) (by omega)]
    dsimp only
    rw [hp n (by omega) (by omega)]
    show _ = M_sumOn_1 (d + 2) k b (sm _ n + (if path n = 1 then od (wtM w k b) n else 0)) ((n + 1 : Nat) : Int) w
    rw [show ((n + 1 : Nat) : Int) = (n : Int) + 1 by omega]
    by_cases h1 : path n = 1
    · rw [if_pos h1, if_pos h1, m_oddsOf hk (by omega) hf]
      dsimp only
      rw [gd_t (by omega), gd_t (by omega)]
    · rw [if_neg h1, if_neg h1, gd_t (by omega), gd_t (by omega)]
theorem m_sumOn {d k : Nat} {b i : Int} {w : zW} {path : Int → Int} (hk : (k = 70 ∧ b = 6) ∨ (k = 71 ∧ b = 0)) (hi : w 70 0 0 = i) (h4 : 0 ≤ i ∧ i < 4) (hp : ∀ c, 0 ≤ c → c < 144 → w 64 0 (144 * (6 * i + 0) + c) = path c) (hf : wtB (wtM w k b)) : M_sumOn (d + 2) k b w = some (onp path (wtM w k b), w) := by
  rw [e_M_sumOn]
  exact m_sumOn_1 hk hi h4 hp hf 144 0 rfl
/-! sure -/
def Sur (f : Int → Int) (b : Int) : Prop := 0 ≤ b ∧ b < 144 ∧ (∀ c, 0 ≤ c → c < 144 → od f c ≤ od f b) ∧ ∀ c, 0 ≤ c → c < b → od f c < od f b
theorem Sur.eq {f : Int → Int} {a b : Int} (h1 : Sur f a) (h2 : Sur f b) : a = b := by
  obtain ⟨a0, a1, a2, a3⟩ := h1
  obtain ⟨b0, b1, b2, b3⟩ := h2
  have := a2 b b0 b1
  have := b2 a a0 a1
  rcases Int.lt_trichotomy a b with q | q | q
  · have := b3 a a0 q; omega
  · exact q
  · have := a3 b b0 q; omega
theorem Sur.congr {f g : Int → Int} {b : Int} (h : Sur f b) (hg : ∀ k, 0 ≤ k → k < 576 → g k = f k) : Sur g b := by
  have ho : ∀ c, 0 ≤ c → c < 144 → od g c = od f c := fun c h0 h1 => by
    unfold od
    rw [hg _ (by omega) (by omega), hg _ (by omega) (by omega), hg _ (by omega) (by omega), hg _ (by omega) (by omega)]
  obtain ⟨a0, a1, a2, a3⟩ := h
  refine ⟨a0, a1, fun c h0 h1 => ?_, fun c h0 h1 => ?_⟩
  · rw [ho c h0 h1, ho b a0 a1]; exact a2 c h0 h1
  · rw [ho c h0 (by omega), ho b a0 a1]; exact a3 c h0 h1
theorem m_surest_1 {d k : Nat} {b : Int} {w : zW} (hk : (k = 70 ∧ b = 6) ∨ (k = 71 ∧ b = 0)) (hf : wtB (wtM w k b)) : ∀ (m : Nat) (n best : Int), n + m = 144 → 0 ≤ best → best < n → (∀ c, 0 ≤ c → c < n → od (wtM w k b) c ≤ od (wtM w k b) best) → (∀ c, 0 ≤ c → c < best → od (wtM w k b) c < od (wtM w k b) best) →
    ∃ r, M_surest_1 (d + 1) k b best n w = some (r, w) ∧ Sur (wtM w k b) r := by
  intro m
  induction m with
  | zero =>
    intro n best hn h0 h1 h2 h3
    refine ⟨best, ?_, h0, by omega, fun c c0 c1 => h2 c c0 (by omega), h3⟩
    rw [e_M_surest_1, if_pos (by omega)]
  | succ m ih =>
    intro n best hn h0 h1 h2 h3
    rw [e_M_surest_1, if_neg (by omega), m_oddsOf hk (by omega) hf]
    dsimp only [Option.bind]
    rw [m_oddsOf hk (by omega) hf]
    dsimp only
    by_cases h : od (wtM w k b) n ≤ od (wtM w k b) best
    · rw [if_pos h, gd_t (by omega)]
      refine ih (n + 1) best (by omega) h0 (by omega) (fun c c0 c1 => ?_) h3
      by_cases hc : c = n
      · rw [hc]; exact h
      · exact h2 c c0 (by omega)
    · rw [if_neg h, gd_t (by omega)]
      refine ih (n + 1) n (by omega) (by omega) (by omega) (fun c c0 c1 => ?_) (fun c c0 c1 => ?_)
      · by_cases hc : c = n
        · rw [hc]; exact Int.le_refl _
        · have := h2 c c0 (by omega); omega
      · have := h2 c c0 (by omega); omega
theorem m_surest {d k : Nat} {b : Int} {w : zW} (hk : (k = 70 ∧ b = 6) ∨ (k = 71 ∧ b = 0)) (hf : wtB (wtM w k b)) : ∃ r, M_surest (d + 1) k b w = some (r, w) ∧ Sur (wtM w k b) r := by
  rw [e_M_surest]
  exact m_surest_1 hk hf 143 1 0 (by omega) (by omega) (by omega) (fun c c0 c1 => by rw [show c = 0 by omega]; exact Int.le_refl _) (fun c c0 c1 => by omega)
theorem s_surest_1 {d : Nat} {o i : Int} {w : zW} (hW : WO w i) (hf : wtB (w 19 o)) (hC : wtC w i (w 19 o)) : ∀ (m k : Nat) (best most : Int), (k : Int) + m = w 9 i 13 →
    ((∃ b : Nat, b < 144 ∧ opw w i b ∧ best = b ∧ most = od (w 19 o) b ∧ 0 < most ∧ cn (opw w i) b < k ∧ (∀ c : Nat, c < 144 → opw w i c → cn (opw w i) c < k → od (w 19 o) c ≤ most) ∧ ∀ c : Nat, c < b → opw w i c → od (w 19 o) c < most) ∨ (most = 0 ∧ ∀ c : Nat, c < 144 → opw w i c → cn (opw w i) c < k → od (w 19 o) c ≤ 0)) →
    ∃ r, Odds_surest_1 (d + 1) o i best most k w = some (r, w) ∧ ((∃ c : Nat, c < 144 ∧ 0 < od (w 19 o) c) → Sur (w 19 o) r) := by
  intro m
  induction m with
  | zero =>
    intro k best most hk hinv
    refine ⟨best, by rw [e_Odds_surest_1, if_pos (by omega)], fun hpos => ?_⟩
    have hall : ∀ c : Nat, c < 144 → opw w i c → cn (opw w i) c < k := fun c hc ho => by
      have := cn_lt (P := opw w i) hc ho
      have := hW.1
      omega
    obtain ⟨p, hp, hpp⟩ := hpos
    rcases hinv with ⟨b, hb, hbo, rfl, hm, hm0, -, h1, h2⟩ | ⟨hm, h1⟩
    · refine ⟨by omega, by omega, fun c c0 c1 => ?_, fun c c0 c1 => ?_⟩
      · obtain ⟨c, rfl⟩ : ∃ n : Nat, c = n := ⟨c.toNat, by omega⟩
        by_cases ho : opw w i c
        · have := h1 c (by omega) ho (hall c (by omega) ho); omega
        · rw [hC.od (by omega) ho]; omega
      · obtain ⟨c, rfl⟩ : ∃ n : Nat, c = n := ⟨c.toNat, by omega⟩
        by_cases ho : opw w i c
        · have := h2 c (by omega) ho; omega
        · rw [hC.od (by omega) ho]; omega
    · exfalso
      by_cases ho : opw w i p
      · have := h1 p hp ho (hall p hp ho); omega
      · rw [hC.od hp ho] at hpp; omega
  | succ m ih =>
    intro k best most hk hinv
    obtain ⟨c, hc, ho, hcn, he⟩ := hW.at (k := k) (by omega)
    have hl := hW.len
    rw [e_Odds_surest_1, if_neg (by omega), gd_t (by omega), s_weightAt (by omega) hf]
    dsimp only [Option.bind]
    rw [if_neg (show ¬ (0 ≤ (-1:Int) ∧ (-1:Int) < 4) by omega), he]
    have hlt : ∀ c' : Nat, c' < 144 → opw w i c' → cn (opw w i) c' < k + 1 → c' = c ∨ cn (opw w i) c' < k := fun c' h1 h2 h3 => by
      rcases Nat.lt_trichotomy c' c with q | q | q
      · have := cn_lt (P := opw w i) q h2; omega
      · exact Or.inl q
      · have := cn_lt (P := opw w i) q ho; omega
    by_cases h : od (w 19 o) c ≤ most
    · rw [if_pos h, gd_t (by omega), show (k : Int) + 1 = ((k + 1 : Nat) : Int) by omega]
      refine ih (k + 1) best most (by omega) ?_
      rcases hinv with ⟨b, hb, hbo, hbe, hm, hm0, hbk, h1, h2⟩ | ⟨hm, h1⟩
      · refine Or.inl ⟨b, hb, hbo, hbe, hm, hm0, by omega, fun c' c0 c1 c2 => ?_, h2⟩
        rcases hlt c' c0 c1 c2 with q | q
        · rw [q]; exact h
        · exact h1 c' c0 c1 q
      · refine Or.inr ⟨hm, fun c' c0 c1 c2 => ?_⟩
        rcases hlt c' c0 c1 c2 with q | q
        · rw [q]; omega
        · exact h1 c' c0 c1 q
    · rw [if_neg h, gd_t (by omega), gd_t (by omega), show (k : Int) + 1 = ((k + 1 : Nat) : Int) by omega]
      refine ih (k + 1) c (od (w 19 o) c) (by omega) (Or.inl ⟨c, hc, ho, rfl, rfl, ?_, by omega, fun c' c0 c1 c2 => ?_, fun c' c0 c1 => ?_⟩)
      · rcases hinv with ⟨b, hb, hbo, hbe, hm, hm0, hbk, h1, h2⟩ | ⟨hm, h1⟩ <;> omega
      · rcases hlt c' c0 c1 c2 with q | q
        · rw [q]; exact Int.le_refl _
        · rcases hinv with ⟨b, hb, hbo, hbe, hm, hm0, hbk, h1, h2⟩ | ⟨hm, h1⟩
          · have := h1 c' c0 c1 q; omega
          · have := h1 c' c0 c1 q; omega
      · have hq := cn_lt (P := opw w i) c0 c1
        rcases hinv with ⟨b, hb, hbo, hbe, hm, hm0, hbk, h1, h2⟩ | ⟨hm, h1⟩
        · have := h1 c' (by omega) c1 (by omega); omega
        · have := h1 c' (by omega) c1 (by omega); omega
theorem s_surest {d : Nat} {o i : Int} {w : zW} (hW : WO w i) (hf : wtB (w 19 o)) (hC : wtC w i (w 19 o)) (hp : ∃ c : Nat, c < 144 ∧ 0 < od (w 19 o) c) : ∃ r, Odds_surest (d + 1) o i w = some (r, w) ∧ Sur (w 19 o) r := by
  have hl := hW.len
  rw [e_Odds_surest]
  obtain ⟨r, h1, h2⟩ := s_surest_1 (d := d) hW hf hC (w 9 i 13).toNat 0 (w 9 i 2) 0 (by omega) (Or.inr ⟨rfl, fun c _ _ h => absurd h (Nat.not_lt_zero _)⟩)
  exact ⟨r, h1, h2 hp⟩
theorem s_sure {d : Nat} {o i : Int} {w : zW} (hW : WO w i) (hf : wtB (w 19 o)) (hC : wtC w i (w 19 o)) (hp : ∃ c : Nat, c < 144 ∧ 0 < od (w 19 o) c) : ∃ r, Odds_sure (d + 2) o i w = some (od (w 19 o) r / 1000000, w) ∧ Sur (w 19 o) r := by
  obtain ⟨r, h1, h2⟩ := s_surest (d := d) hW hf hC hp
  refine ⟨r, ?_, h2⟩
  have := od_bd hf (c := r) ⟨h2.1, h2.2.1⟩
  rw [e_Odds_sure, h1]
  dsimp only [Option.bind]
  rw [s_weightAt ⟨h2.1, h2.2.1⟩ hf]
  dsimp only
  rw [if_neg (by omega), gd_t (by omega), gd_t (by omega)]
/-! risk -/
def rsk (harm f : Int → Int) : Int := sm (fun c => od f c * harm c / 1000) 144
theorem rk_bd {a h : Int} (ha : 0 ≤ a ∧ a ≤ 4000000000) (hh : 0 ≤ h ∧ h ≤ 1000) : 0 ≤ a * h ∧ a * h ≤ 4000000000000 ∧ 0 ≤ a * h / 1000 ∧ a * h / 1000 ≤ 4000000000 := by
  have h1 : 0 ≤ a * h := Int.mul_nonneg ha.1 hh.1
  have h2 : a * h ≤ 4000000000 * 1000 := Int.mul_le_mul ha.2 hh.2 hh.1 (by decide)
  omega
def hmB (harm : Int → Int) : Prop := ∀ c, 0 ≤ c → c < 144 → 0 ≤ harm c ∧ harm c ≤ 1000
theorem rsk_bd {harm f : Int → Int} (hf : wtB f) (hh : hmB harm) : 0 ≤ rsk harm f ∧ rsk harm f ≤ 144 * 4000000000 := by
  refine sm_bd (n := 144) (fun k hk => ?_)
  have := rk_bd (od_bd hf (c := k) (by omega)) (hh k (by omega) (by omega))
  omega
theorem s_risk_1 {d : Nat} {o i : Int} {w : zW} (hW : WO w i) (hf : wtB (w 19 o)) (hh : hmB (w 37 i)) : ∀ m k : Nat, (k : Int) + m = w 9 i 13 →
    Odds_risk_1 (d + 1) o i (sm (fun j => od (w 19 o) (w 40 i j) * w 37 i (w 40 i j) / 1000) k) k w = some (sm (fun j => od (w 19 o) (w 40 i j) * w 37 i (w 40 i j) / 1000) (k + m), w) := by
  intro m
  induction m with
  | zero =>
    intro k hk
    rw [e_Odds_risk_1, if_pos (by omega), Nat.add_zero]
  | succ m ih =>
    intro k hk
    obtain ⟨c, hc, ho, -, he⟩ := hW.at (k := k) (by omega)
    have hl := hW.len
    have hbd : 0 ≤ sm (fun j => od (w 19 o) (w 40 i j) * w 37 i (w 40 i j) / 1000) k ∧ sm (fun j => od (w 19 o) (w 40 i j) * w 37 i (w 40 i j) / 1000) k ≤ k * 4000000000 := by
      refine sm_bd (fun j hj => ?_)
      obtain ⟨c', hc', -, -, he'⟩ := hW.at (k := j) (by omega)
      have := rk_bd (od_bd hf (c := (c' : Int)) (by omega)) (hh c' (by omega) (by omega))
      rw [he']
      omega
    have hod := rk_bd (od_bd hf (c := (c : Int)) (by omega)) (hh c (by omega) (by omega))
    have ih' := ih (k + 1) (by omega)
    rw [show k + 1 + m = k + (m + 1) by omega] at ih'
    rw [← ih', e_Odds_risk_1, if_neg (by omega), gd_t (by omega), s_weightAt (by omega) hf]
    show _ = Odds_risk_1 (d + 1) o i (sm _ k + od (w 19 o) (w 40 i k) * w 37 i (w 40 i k) / 1000) ((k + 1 : Nat) : Int) w
    rw [show ((k + 1 : Nat) : Int) = (k : Int) + 1 by omega]
    dsimp only [Option.bind]
    rw [if_neg (by omega), he, gd_t (by omega), gd_t (by omega), gd_t (by omega), gd_t (by omega), gd_t (by omega)]
theorem s_risk {d : Nat} {o i : Int} {w : zW} (hW : WO w i) (hf : wtB (w 19 o)) (hC : wtC w i (w 19 o)) (hh : hmB (w 37 i)) : Odds_risk (d + 1) o i w = some (rsk (w 37 i) (w 19 o), w) := by
  have hl := hW.len
  obtain ⟨n, hn⟩ : ∃ n : Nat, w 9 i 13 = n := ⟨(w 9 i 13).toNat, by omega⟩
  have h := s_risk_1 (d := d) (o := o) hW hf hh n 0 (by omega)
  rw [e_Odds_risk]
  refine h.trans (congrArg (fun z => some (z, w)) ?_)
  rw [Nat.zero_add, show n = cn (opw w i) 144 by have := hW.1; omega]
  rw [sm_list (f := fun c => od (w 19 o) c * w 37 i c / 1000) hW.2]
  refine sm_congr fun c hc => ?_
  by_cases h1 : opw w i c
  · rw [if_pos h1]
  · rw [if_neg h1, hC.od hc h1, Int.zero_mul]; rfl
theorem m_riskOf {d k : Nat} {b i : Int} {w : zW} {harm : Int → Int} (hk : (k = 70 ∧ b = 6) ∨ (k = 71 ∧ b = 0)) (hi : w 70 0 0 = i) (h4 : 0 ≤ i ∧ i < 4) (hp : ∀ c, 0 ≤ c → c < 144 → w 64 0 (144 * (6 * i + 4) + c) = harm c) (hh : hmB harm) (hf : wtB (wtM w k b)) : M_riskOf (d + 2) k b w = some (rsk harm (wtM w k b), w) := by
  rw [e_M_riskOf]
  suffices go : ∀ m n : Nat, n + m = 144 → M_riskOf_1 (d + 2) k b (sm (fun c => od (wtM w k b) c * harm c / 1000) n) n w = some (rsk harm (wtM w k b), w) from go 144 0 rfl
  intro m
  induction m with
  | zero =>
    intro n hn
    rw [e_M_riskOf_1, if_pos (by omega)]
    unfold rsk
    rw [show n = 144 by omega]
  | succ m ih =>
    intro n hn
    have hbd : 0 ≤ sm (fun c => od (wtM w k b) c * harm c / 1000) n ∧ sm (fun c => od (wtM w k b) c * harm c / 1000) n ≤ n * 4000000000 := by
      refine sm_bd (fun j hj => ?_)
      have := rk_bd (od_bd hf (c := (j : Int)) (by omega)) (hh j (by omega) (by omega))
      omega
    have hod := rk_bd (od_bd hf (c := (n : Int)) (by omega)) (hh n (by omega) (by omega))
    rw [← ih (n + 1) (by omega), e_M_riskOf_1, if_neg (by omega), m_oddsOf hk (by omega) hf]
    show _ = M_riskOf_1 (d + 2) k b (sm _ n + od (wtM w k b) n * harm n / 1000) ((n + 1 : Nat) : Int) w
    rw [show ((n + 1 : Nat) : Int) = (n : Int) + 1 by omega]
    dsimp only [Option.bind]
    rw [m_woodNow]
    dsimp only
    rw [hi, m_at h4 (by decide) (by omega)]
    dsimp only
    rw [hp n (by omega) (by omega), gd_t (by omega), gd_t (by omega), gd_t (by omega), gd_t (by omega)]
