theorem rn_ex {D : Int → Prop} {T : Int → Int} {n : Int} (hd : ∀ x, D x ∨ ¬ D x) : ∀ (m : Nat) (p : Int), p + m = n → ∃ q, rnR D T n p q := by
  intro m
  induction m with
  | zero => intro p hp; exact ⟨p, rn_0 (Or.inl (by omega))⟩
  | succ m ih =>
    intro p hp
    rcases hd (T p) with z | z
    · obtain ⟨q, h⟩ := ih (p + 1) (by omega)
      exact ⟨q, rn_s (by omega) z h⟩
    · exact ⟨p, rn_0 (Or.inr z)⟩
theorem let_dec (x : Int) : let' x ∨ ¬ let' x := by omega
theorem pk_cg {f g : Nat → Int} : ∀ k, (∀ j, j < k → f j = g j) → pkN f k = pkN g k := by
  intro k
  induction k with
  | zero => intro _; rfl
  | succ k ih =>
    intro h
    show pkN f k * 256 + f k = pkN g k * 256 + g k
    rw [ih (fun j hj => h j (by omega)), h k (by omega)]
section
variable {d : Nat} {w : zW} {T : Int → Int} {n : Int}
/-- a word in the model -/
theorem m_isWord {code : Int} {W : List Int} (hW : okW W) (hc : cdW W = code) (hT : MT T n w) (hp : 0 ≤ w 11 0 18 ∧ w 11 0 18 ≤ n) : ∃ q r, rnR blk T n (w 11 0 18) q ∧ (0 ≤ q ∧ q ≤ n) ∧ M_isWord (d + 1) code w = some (r, z_up w 11 0 18 q) ∧ (r = 0 ∨ r = 1) ∧ (r = 1 ↔ WD T n q W) := by
  obtain ⟨q, q1, q2, q3⟩ := m_see (d := d) hT hp
  obtain ⟨b, hb⟩ := rn_ex (D := let') (T := T) (n := n) let_dec (n - q).toNat q (by omega)
  have h := m_isWord_1 (d := d) (code := code) (MT_p (v := q) hT) q2 up_h hb (b - q).toNat 0 0 (by have := hb.1; omega) (fun _ => rfl)
  refine ⟨q, if 1 ≤ b - q ∧ b - q < 8 ∧ pkN (fun j => T (q + (j : Nat))) (b - q).toNat = code then 1 else 0, q1, q2, ?_, ?_, ?_⟩
  · rw [e_M_isWord, q3, bnd]
    exact h
  · split
    · exact Or.inr rfl
    · exact Or.inl rfl
  · obtain ⟨w1, w2, w3⟩ := hW
    have hlet : ∀ j : Nat, j < (b - q).toNat → 1 ≤ T (q + (j : Nat)) ∧ T (q + (j : Nat)) < 256 := fun j hj => by
      have := (hb.2.1 (q + j) (by omega) (by omega)).2
      exact ⟨by omega, by omega⟩
    constructor
    · intro hr
      have hcond : 1 ≤ b - q ∧ b - q < 8 ∧ pkN (fun j => T (q + (j : Nat))) (b - q).toNat = code := by
        refine Decidable.byContradiction fun hno => ?_
        rw [if_neg hno] at hr
        exact absurd hr (by decide)
      obtain ⟨c1, c2, c3⟩ := hcond
      obtain ⟨e1, e2⟩ := pk_inj (f := fun j => T (q + (j : Nat))) (g := fun j => W.getD j 0) (b - q).toNat W.length hlet (fun j hj => by have := w3 j hj; omega) (c3.trans hc.symm)
      refine ⟨?_, fun j hj => e2 j (by omega)⟩
      rw [show q + (W.length : Int) = b by omega]
      exact hb
    · rintro ⟨h1, h2⟩
      have hbe := rn_u hb h1
      have hc3 : pkN (fun j => T (q + (j : Nat))) (b - q).toNat = code := by
        have hl : (b - q).toNat = W.length := by omega
        rw [hl, ← hc]
        exact pk_cg _ h2
      rw [if_pos ⟨by omega, by omega, hc3⟩]
/-! the class's words -/
def LY (cs : List Int) : Nat → List (List Int) → Prop
  | st, [] => st = cs.length + 1
  | st, W :: ws => (∀ j, j < W.length → st + j < cs.length ∧ cs.getD (st + j) 0 = W.getD j 0) ∧ (st + W.length = cs.length ∨ (st + W.length < cs.length ∧ cs.getD (st + W.length) 0 = 32)) ∧ LY cs (st + W.length + 1) ws
def WI (T : Int → Int) (n q : Int) (ws : List (List Int)) (k r : Int) : Prop := (r = -1 ∧ ∀ W ∈ ws, ¬ WD T n q W) ∨ ∃ i : Nat, i < ws.length ∧ r = k + i ∧ WD T n q (ws.getD i []) ∧ ∀ i' : Nat, i' < i → ¬ WD T n q (ws.getD i' [])
/-- a text of the class's -/
def SS (s : Int) (cs : List Int) : Prop := z_strs.getD s.toNat [] = cs ∧ (cs.length : Int) ≤ 1000 ∧ ∀ c ∈ cs, 0 ≤ c ∧ c ≤ 122
theorem getD_mem {cs : List Int} {k : Nat} (h : k < cs.length) : cs.getD k 0 ∈ cs := by
  rw [List.getD_eq_getElem?_getD, List.getElem?_eq_getElem h]
  exact List.getElem_mem h
theorem s_slen {s : Int} {cs : List Int} (h : SS s cs) : S_length (d + 1) s w = some ((cs.length : Int), w) := by
  have hz : z_sl s = (cs.length : Int) := by unfold z_sl; rw [h.1]
  rw [e_S_length, e_S_coder, if_neg (by decide), gd_t (by decide), bnd]
  dsimp only
  rw [gd_t (by decide), hz]
  show some ((cs.length : Int) / 2 ^ (0 : Nat), w) = _
  rw [Int.pow_zero, Int.ediv_one]
theorem s_schar {s : Int} {k : Nat} {cs : List Int} (h : SS s cs) (hk : k < cs.length) : S_charAt (d + 1) s k w = some (cs.getD k 0, w) := by
  have hz : z_sl s = (cs.length : Int) := by unfold z_sl; rw [h.1]
  have hc : z_sc s k = cs.getD k 0 := by unfold z_sc; rw [h.1]; rfl
  have hb := h.2.2 _ (getD_mem hk)
  have ha : z_and (cs.getD k 0) 255 = cs.getD k 0 := by rw [z_and_255i]; omega
  rw [e_S_charAt, e_S_isLatin1, if_neg (by decide), if_pos rfl, gd_t (by decide), bnd]
  dsimp only
  rw [if_neg (by decide), e_S_charAtL, hz, hc, ha, gd_t (by omega), gd_t (by omega), gd_t (by omega), gd_t (by omega), bnd]
  dsimp only
  rw [gd_t (by omega)]
/-- inside a word of the class's text -/
theorem s_wIn {s q bh : Int} {cs W : List Int} (hS : SS s cs) (hW : ∀ j, j < W.length → 97 ≤ W.getD j 0) {st : Nat} (h4 : w 5 0 4 = q) (h5 : w 5 0 5 = bh) (hq : 0 ≤ q ∧ q ≤ 400) (hbh : bh ≤ 400) (hL : ∀ j, j < W.length → st + j < cs.length ∧ cs.getD (st + j) 0 = W.getD j 0) (l2 : Int) : ∀ (m j : Nat) (fl : Int), j + m = W.length → (fl = 0 ∨ fl = 1) → (fl = 1 ↔ ∀ i : Nat, i < j → q + i < bh ∧ w 20 0 (q + i) = W.getD i 0) →
    ∃ fl', Reader_wordIn_3 (d + 2) s l2 (q + j) fl (st + j : Nat) w = Reader_wordIn_3 (d + 2) s l2 (q + W.length) fl' (st + W.length : Nat) w ∧ (fl' = 0 ∨ fl' = 1) ∧ (fl' = 1 ↔ ∀ i : Nat, i < W.length → q + i < bh ∧ w 20 0 (q + i) = W.getD i 0) := by
  intro m
  induction m with
  | zero =>
    intro j fl hj h01 hfl
    rw [show j = W.length by omega] at hfl ⊢
    exact ⟨fl, rfl, h01, hfl⟩
  | succ m ih =>
    intro j fl hj h01 hfl
    obtain ⟨c1, c2⟩ := hL j (by omega)
    have hWj := hW j (by omega)
    have hlen := hS.2.1
    have hch := s_schar (d := d) (w := w) hS c1
    rw [c2] at hch
    have step : ∀ fl2 : Int, (fl2 = 0 ∨ fl2 = 1) → (fl2 = 1 ↔ ∀ i : Nat, i < j + 1 → q + i < bh ∧ w 20 0 (q + i) = W.getD i 0) → ∃ fl', Reader_wordIn_3 (d + 2) s l2 (q + j + 1) fl2 ((st + j : Nat) + 1) w = Reader_wordIn_3 (d + 2) s l2 (q + W.length) fl' (st + W.length : Nat) w ∧ (fl' = 0 ∨ fl' = 1) ∧ (fl' = 1 ↔ ∀ i : Nat, i < W.length → q + i < bh ∧ w 20 0 (q + i) = W.getD i 0) := fun fl2 h1 h2 => by
      have := ih (j + 1) fl2 (by omega) h1 h2
      rw [show q + ((j + 1 : Nat) : Int) = q + j + 1 by omega, show ((st + (j + 1) : Nat) : Int) = ((st + j : Nat) : Int) + 1 by omega] at this
      exact this
    have no : ¬ (fl = 1 ∧ q + j < bh ∧ w 20 0 (q + j) = W.getD j 0) → ((0 : Int) = 1 ↔ ∀ i : Nat, i < j + 1 → q + i < bh ∧ w 20 0 (q + i) = W.getD i 0) := fun hno =>
      ⟨fun z => absurd z (by decide), fun z => absurd ⟨hfl.2 (fun i hi => z i (by omega)), z j (by omega)⟩ hno⟩
    have yes : (fl = 1 ∧ q + j < bh ∧ w 20 0 (q + j) = W.getD j 0) → ((1 : Int) = 1 ↔ ∀ i : Nat, i < j + 1 → q + i < bh ∧ w 20 0 (q + i) = W.getD i 0) := fun hy =>
      ⟨fun _ i hi => by
        by_cases z : i = j
        · rw [z]; exact hy.2
        · exact hfl.1 hy.1 i (by omega), fun _ => rfl⟩
    rw [e_Reader_wordIn_3, s_slen hS, bnd]
    dsimp only
    rw [if_neg (by omega), s_slen hS, bnd]
    dsimp only
    rw [if_neg (by omega), hch, bnd]
    dsimp only
    rw [if_neg (by omega)]
    by_cases z1 : fl = 0
    · rw [if_pos z1, gd_t (by omega), gd_t (by omega)]
      exact step 0 (Or.inl rfl) (no (fun k => by omega))
    rw [if_neg z1]
    simp only [h5]
    by_cases z2 : bh ≤ q + j
    · rw [if_pos z2, gd_t (by omega), gd_t (by omega)]
      exact step 0 (Or.inl rfl) (no (fun k => by omega))
    rw [if_neg z2, if_neg (by omega), gd_t (by omega), hch, bnd]
    dsimp only
    by_cases z3 : w 20 0 (q + j) = W.getD j 0
    · rw [if_pos z3, gd_t (by omega), gd_t (by omega)]
      exact step 1 (Or.inr rfl) (yes ⟨by omega, by omega, z3⟩)
    · rw [if_neg z3, gd_t (by omega), gd_t (by omega)]
      exact step 0 (Or.inl rfl) (no (fun k => z3 k.2.2))
/-- all the words of the class's text -/
theorem s_wAll {s q bh : Int} {cs : List Int} (hS : SS s cs) (h4 : w 5 0 4 = q) (h5 : w 5 0 5 = bh) (hq : 0 ≤ q ∧ q ≤ 400) (hbh : bh ≤ 400) (hb : rnR let' (w 20 0) n q bh) : ∀ (ws : List (List Int)) (st : Nat) (k : Int), LY cs st ws → (∀ W ∈ ws, ∀ j, j < W.length → 97 ≤ W.getD j 0 ∧ W.getD j 0 ≤ 122) → 0 ≤ k → k + ws.length ≤ 1000 →
    ∃ r, Reader_wordIn_3 (d + 2) s k q 1 st w = some (r, w) ∧ WI (w 20 0) n q ws k r := by
  have hlen := hS.2.1
  intro ws
  induction ws with
  | nil =>
    intro st k hL _ h0 _
    have hst : st = cs.length + 1 := hL
    refine ⟨-1, ?_, Or.inl ⟨rfl, fun W hW => absurd hW (List.not_mem_nil)⟩⟩
    rw [e_Reader_wordIn_3, s_slen hS, bnd]
    dsimp only
    rw [if_pos (by omega)]
  | cons W ws ih =>
    intro st k hL hWs h0 hk
    obtain ⟨l1, l2, l3⟩ := hL
    have hlc : (((W :: ws).length : Nat) : Int) = ws.length + 1 := by simp
    have hWW := hWs W List.mem_cons_self
    obtain ⟨fl, f1, f2, f3⟩ := s_wIn (d := d) hS (fun j hj => (hWW j hj).1) h4 h5 hq hbh l1 k W.length 0 1 (by omega) (Or.inr rfl) ⟨fun _ i hi => absurd hi (by omega), fun _ => rfl⟩
    rw [show q + ((0 : Nat) : Int) = q by omega] at f1
    have f1' : Reader_wordIn_3 (d + 2) s k q 1 st w = Reader_wordIn_3 (d + 2) s k (q + W.length) fl (st + W.length : Nat) w := f1
    rw [f1']
    have six : Reader_wordIn_3 (d + 2) s k (q + W.length) fl (st + W.length : Nat) w = Reader_wordIn_6 (d + 2) s k (q + W.length) fl (st + W.length : Nat) w := by
      rw [e_Reader_wordIn_3, s_slen hS, bnd]
      dsimp only
      rw [if_neg (by omega), s_slen hS, bnd]
      dsimp only
      rcases l2 with z | ⟨z1, z2⟩
      · rw [if_pos (by omega)]
      · have hch := s_schar (d := d) (w := w) hS z1
        rw [z2] at hch
        rw [if_neg (by omega), hch, bnd]
        dsimp only
        rw [if_pos rfl]
    have hiff : (fl = 1 ∧ q + W.length = bh) ↔ WD (w 20 0) n q W := by
      constructor
      · rintro ⟨z1, z2⟩
        refine ⟨by rw [z2]; exact hb, fun j hj => ((f3.1 z1) j hj).2⟩
      · rintro ⟨z1, z2⟩
        have := rn_u z1 hb
        exact ⟨f3.2 (fun i hi => ⟨by omega, z2 i hi⟩), this⟩
    have next : ¬ WD (w 20 0) n q W → ∃ r, gd (inI (k + 1)) (gd (inI ((st + W.length : Nat) + 1)) (Reader_wordIn_3 (d + 2) s (k + 1) (w 5 0 4) 1 ((st + W.length : Nat) + 1) w)) = some (r, w) ∧ WI (w 20 0) n q (W :: ws) k r := fun hno => by
      obtain ⟨r, r1, r2⟩ := ih (st + W.length + 1) (k + 1) l3 (fun V hV => hWs V (List.mem_cons_of_mem _ hV)) (by omega) (by omega)
      have hle : st + W.length ≤ cs.length := by
        rcases l2 with z | z <;> omega
      refine ⟨r, ?_, ?_⟩
      · rw [gd_t (by omega), gd_t (by omega), h4]
        exact r1
      · rcases r2 with ⟨r2, r3⟩ | ⟨i, i1, i2, i3, i4⟩
        · refine Or.inl ⟨r2, fun V hV => ?_⟩
          rcases List.mem_cons.mp hV with z | z
          · rw [z]; exact hno
          · exact r3 V z
        · refine Or.inr ⟨i + 1, by rw [List.length_cons]; omega, by omega, i3, fun i' hi' => ?_⟩
          cases i' with
          | zero => exact hno
          | succ i' => exact i4 i' (by omega)
    rw [six, e_Reader_wordIn_6]
    by_cases z1 : fl = 0
    · rw [if_pos z1]
      exact next (fun z => by have := (hiff.2 z).1; omega)
    · rw [if_neg z1, h5]
      by_cases z2 : q + W.length = bh
      · rw [if_pos z2]
        exact ⟨k, rfl, Or.inr ⟨0, by rw [List.length_cons]; omega, by omega, hiff.1 ⟨by omega, z2⟩, fun i' hi' => absurd hi' (by omega)⟩⟩
      · rw [if_neg z2]
        exact next (fun z => z2 (hiff.2 z).2)
end
