/-! SIGNS: the weighing -/
def wgt (F ch : Int → Int) : Int → Int := fun k => F k * ch (k / 4) / 1000
abbrev chB (ch : Int → Int) : Prop := ∀ c, 0 ≤ c → c < 144 → 0 ≤ ch c ∧ ch c ≤ 1000
theorem wgt_bd {F ch : Int → Int} (hf : wtB F) (P : Prop) (k : Int) (h0 : 0 ≤ k) (h1 : k < 576) (hc : 0 ≤ ch (k / 4) ∧ ch (k / 4) ≤ 1000) : 0 ≤ F k * ch (k / 4) ∧ F k * ch (k / 4) ≤ 1000000000000 ∧ 0 ≤ wgt F ch k ∧ wgt F ch k ≤ F k := by
  have k0 := hf k h0 h1
  have p0 : 0 ≤ F k * ch (k / 4) := Int.mul_nonneg k0.1 hc.1
  have p1 : F k * ch (k / 4) ≤ F k * 1000 := Int.mul_le_mul_of_nonneg_left hc.2 k0.1
  unfold wgt
  omega
def wq (P : Int → Prop) [∀ c, Decidable (P c)] (F ch X0 : Int → Int) (q : Int) : Int → Int := fun k => if 0 ≤ k ∧ k < q ∧ P (k / 4) then wgt F ch k else X0 k
theorem wq_0 {P : Int → Prop} [∀ c, Decidable (P c)] {F ch X0 : Int → Int} : wq P F ch X0 0 = X0 := by
  funext k
  unfold wq
  rw [if_neg (by omega)]
theorem wq_up {P : Int → Prop} [∀ c, Decidable (P c)] {F ch X0 : Int → Int} {q : Int} (hq : 0 ≤ q) (hp : P (q / 4)) : upF (wq P F ch X0 q) q (wgt F ch q) = wq P F ch X0 (q + 1) := by
  funext k
  unfold upF wq
  by_cases h : k = q
  · rw [if_pos h, h, if_pos ⟨hq, by omega, hp⟩]
  · rw [if_neg h]
    by_cases z : 0 ≤ k ∧ k < q ∧ P (k / 4)
    · rw [if_pos z, if_pos ⟨z.1, by omega, z.2.2⟩]
    · rw [if_neg z, if_neg (fun y => z ⟨y.1, by omega, y.2.2⟩)]
theorem wq_skip {P : Int → Prop} [∀ c, Decidable (P c)] {F ch X0 : Int → Int} {c : Nat} (hp : ¬ P c) : wq P F ch X0 (4 * c) = wq P F ch X0 (4 * (c + 1 : Nat)) := by
  funext k
  unfold wq
  by_cases z : 0 ≤ k ∧ k < 4 * (c : Int) ∧ P (k / 4)
  · rw [if_pos z, if_pos ⟨z.1, by omega, z.2.2⟩]
  · rw [if_neg z, if_neg (fun y => by
      by_cases e : k / 4 = c
      · rw [e] at y; exact hp y.2.2
      · exact z ⟨y.1, by omega, y.2.2⟩)]
theorem wq_fac {P : Int → Prop} [∀ c, Decidable (P c)] {F ch X0 : Int → Int} {n m : Nat} (h : n ≤ m) (hc : cn P n = cn P m) : wq P F ch X0 (4 * n) = wq P F ch X0 (4 * m) := by
  induction h with
  | refl => rfl
  | step h ih =>
    next m' =>
    have h1 := cn_mono (P := P) (m := n) (n := m') h
    have h2' : cn P (Nat.succ m') = if P m' then cn P m' + 1 else cn P m' := rfl
    by_cases hp : P m'
    · rw [h2', if_pos hp] at hc; omega
    · rw [h2', if_neg hp] at hc
      rw [ih hc]
      exact wq_skip hp
theorem ws_fac {P : Int → Prop} [∀ c, Decidable (P c)] {F ch : Int → Int} (hC : ∀ c : Nat, c < 144 → ¬ P c → ∀ k, 4 * (c : Int) ≤ k → k < 4 * (c : Int) + 4 → F k = 0) {n m : Nat} (h : n ≤ m) (hm : m ≤ 144) (hc : cn P n = cn P m) : sm (wgt F ch) (4 * n) = sm (wgt F ch) (4 * m) := by
  induction h with
  | refl => rfl
  | step h ih =>
    next m' =>
    have h1 := cn_mono (P := P) (m := n) (n := m') h
    have h2' : cn P (Nat.succ m') = if P m' then cn P m' + 1 else cn P m' := rfl
    have hm2 : m' < 144 := hm
    by_cases hp : P m'
    · rw [h2', if_pos hp] at hc; omega
    · rw [h2', if_neg hp] at hc
      rw [ih (by omega) hc]
      refine sm_skip (by omega) (fun k k0 k1 => ?_)
      unfold wgt
      rw [hC m' hm2 hp k (by omega) (by omega), Int.zero_mul]
      rfl
theorem s_weigh_3 {d : Nat} {o i k : Int} {c : Nat} {w : zW} {X0 : Int → Int} (hc : c < 144) (ho : opw w i c) (hf : wtB (w 19 o)) (hk : 0 ≤ k ∧ k < 144) (hch : 0 ≤ w 24 0 c ∧ w 24 0 c ≤ 1000) (hS : ∀ q : Nat, q ≤ 576 → 0 ≤ sm (wgt (w 19 o) (w 24 0)) q ∧ sm (wgt (w 19 o) (w 24 0)) q ≤ 576000000000) : ∀ (m q : Nat), q + m = 4 * (c + 1) → 4 * c ≤ q →
    Odds_weigh_3 (d + 1) o i (sm (wgt (w 19 o) (w 24 0)) q) k c q (z_row w 25 0 (wq (opw w i) (w 19 o) (w 24 0) X0 q)) = Odds_weigh_1 (d + 1) o i (sm (wgt (w 19 o) (w 24 0)) (4 * (c + 1))) (k + 1) (z_row w 25 0 (wq (opw w i) (w 19 o) (w 24 0) X0 (4 * (c + 1 : Nat)))) := by
  intro m
  induction m with
  | zero =>
    intro q hq h1
    rw [e_Odds_weigh_3, gd_t (by omega), gd_t (by omega), if_pos (by omega), gd_t (by omega), show q = 4 * (c + 1) by omega]
    rfl
  | succ m ih =>
    intro q hq h1
    have hq4 : (q : Int) / 4 = c := by omega
    have hb := wgt_bd (F := w 19 o) (ch := w 24 0) hf True q (by omega) (by omega) (by rw [hq4]; exact hch)
    have hs0 := hS q (by omega)
    have hs1 := hS (q + 1) (by omega)
    have hss : sm (wgt (w 19 o) (w 24 0)) (q + 1) = sm (wgt (w 19 o) (w 24 0)) q + wgt (w 19 o) (w 24 0) q := rfl
    have hw : w 19 o q * w 24 0 c / 1000 = wgt (w 19 o) (w 24 0) q := by unfold wgt; rw [hq4]
    rw [hq4] at hb
    have r19 : ∀ Y : Int → Int, (z_row w 25 0 Y) 19 o q = w 19 o q := fun Y => row_c (by decide)
    have r24 : ∀ Y : Int → Int, (z_row w 25 0 Y) 24 0 c = w 24 0 c := fun Y => row_c (by decide)
    have ih' := ih (q + 1) (by omega) (by omega)
    rw [← ih', e_Odds_weigh_3, gd_t (by omega), gd_t (by omega), if_neg (by omega)]
    simp only [r19, r24, hw, row_up, row_h, upF_h]
    rw [gd_t (by omega), gd_t (by omega), gd_t (by omega), gd_t (by omega), gd_t (by omega), gd_t (by omega), gd_t (by omega), gd_t (by omega), wq_up (by omega) (by rw [hq4]; exact ho), ← hss]
    rfl
