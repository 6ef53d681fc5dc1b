/-! REMEMBER: bits counted, acts done again -/
def pc (a : Int) : Int := a % 2 + a / 2 % 2 + a / 4 % 2 + a / 8 % 2 + a / 16 % 2 + a / 32 % 2 + a / 64 % 2 + a / 128 % 2
abbrev jx1 (a : Int) : Int := a - (z_and (z_ushr a 1) 1431655765)
abbrev jx2 (x : Int) : Int := (z_and x 858993459) + (z_and (z_ushr x 2) 858993459)
abbrev jx3 (x : Int) : Int := x + (z_ushr x 4)
abbrev jx5 (x : Int) : Int := (z_and x 252645135) + (z_ushr (z_and x 252645135) 8)
abbrev jx6 (x : Int) : Int := x + (z_ushr x 16)
theorem jchk : ∀ n : Nat, n < 256 → inI (jx1 n) ∧ inI (jx2 (jx1 n)) ∧ inI (jx3 (jx2 (jx1 n))) ∧ inI (jx5 (jx3 (jx2 (jx1 n)))) ∧ inI (jx6 (jx5 (jx3 (jx2 (jx1 n))))) ∧ z_and (jx6 (jx5 (jx3 (jx2 (jx1 n))))) 63 = pc n := by decide +kernel
theorem j_bits {d : Nat} {a : Int} {w : zW} (h : 0 ≤ a ∧ a < 256) : J_bitCount d a w = some (pc a, w) := by
  obtain ⟨n, rfl⟩ : ∃ n : Nat, a = n := ⟨a.toNat, by omega⟩
  obtain ⟨g1, g2, g3, g4, g5, g6⟩ := jchk n (by omega)
  rw [e_J_bitCount, gd_t g1, gd_t g2, gd_t g3, gd_t g4, gd_t g5]
  exact congrArg (fun z => some (z, w)) g6
def mbl : Nat → Int → Int → Option Int
  | 0, _, _ => none
  | n + 1, l1, l2 => if l2 = 0 then some l1 else if inI (l1 + 1) ∧ inI (l2 - 1) then mbl n (l1 + 1) (z_and l2 (l2 - 1)) else none
theorem mbl_run {d : Nat} {w : zW} : ∀ (n : Nat) (l1 l2 r : Int), mbl n l1 l2 = some r → M_bits_1 d l1 l2 w = some (r, w) := by
  intro n
  induction n with
  | zero => intro l1 l2 r h; cases h
  | succ n ih =>
    intro l1 l2 r h
    unfold mbl at h
    rw [e_M_bits_1]
    by_cases h0 : l2 = 0
    · rw [if_pos h0] at h ⊢
      rw [Option.some.inj h]
    · rw [if_neg h0] at h ⊢
      by_cases h1 : inI (l1 + 1) ∧ inI (l2 - 1)
      · rw [if_pos h1] at h
        rw [gd_t h1.1, gd_t h1.2]
        exact ih _ _ _ h
      · rw [if_neg h1] at h
        cases h
theorem mchk : ∀ n : Nat, n < 256 → mbl 9 0 n = some (pc n) := by decide +kernel
theorem m_bits {d : Nat} {a : Int} {w : zW} (h : 0 ≤ a ∧ a < 256) : M_bits d a w = some (pc a, w) := by
  obtain ⟨n, rfl⟩ : ∃ n : Nat, a = n := ⟨a.toNat, by omega⟩
  rw [e_M_bits]
  exact mbl_run 9 0 n _ (mchk n (by omega))
/-- is a sort of signs in the set -/
def bt (set : Nat) (s : Int) : Int := ((set / 2 ^ s.toNat % 2 : Nat) : Int)
theorem bt_z {set : Nat} {s : Int} (h : set < 16) : z_and ((set : Int) / 2 ^ s.toNat) 1 = bt set s := by
  have h1 : ((2 : Int) ^ s.toNat) = ((2 ^ s.toNat : Nat) : Int) := by push_cast; rfl
  have h2 : (set : Int) / ((2 ^ s.toNat : Nat) : Int) = ((set / 2 ^ s.toNat : Nat) : Int) := rfl
  have hlt : set / 2 ^ s.toNat < 16 := Nat.lt_of_le_of_lt (Nat.div_le_self _ _) h
  have hq0 : (0 : Int) ≤ ((set / 2 ^ s.toNat : Nat) : Int) := Int.natCast_nonneg _
  rw [h1, h2, z_and_1 (by omega)]
  rfl
theorem bt_01 (set : Nat) (s : Int) : bt set s = 0 ∨ bt set s = 1 := by
  unfold bt
  omega
abbrev gS : Type := (Int → Int) × Int
/-- one act done again, with the signs of a set -/
def gStep (w : zW) (i j : Int) (Cs : List clau) (set : Nat) (kd a b : Int) (s : gS) : gS := if kd ≤ 4 ∨ bt set (ck kd) = 1 then (aW w i j Cs kd a b s.2 s.1, if kd ≤ 4 then min 30 (s.2 + 1) else if kd = 5 then (if aS w i j kd a b s.2 s.1 = 1 then 0 else min 30 (s.2 + 1)) else s.2) else (s.1, if kd = 5 then min 30 (s.2 + 1) else s.2)
def gAt (w : zW) (i j : Int) (Cs : List clau) (set : Nat) (G : Int → Int) : Nat → gS
  | 0 => (beg (G 1390) (G 1391), 0)
  | k + 1 => gStep w i j Cs set (dk (G (582 + 4 * (k : Int)))) (G (582 + 4 * (k : Int) + 1)) (G (582 + 4 * (k : Int) + 2)) (gAt w i j Cs set G k)
def gOK (w : zW) (i : Int) (s : gS) : Prop := wOK (opw w i) s.1 ∧ 0 ≤ s.2 ∧ s.2 ≤ 30
theorem gStep_OK {w : zW} {i j kd a b : Int} {Cs : List clau} {set : Nat} {s : gS} (hN : EN w i j Cs) (h : gOK w i s) : gOK w i (gStep w i j Cs set kd a b s) := by
  obtain ⟨h1, h2⟩ := h
  unfold gStep
  by_cases q : kd ≤ 4 ∨ bt set (ck kd) = 1
  · rw [if_pos q]
    refine ⟨aW_K hN h2 h1, ?_⟩
    dsimp only
    split
    · omega
    · split
      · split <;> omega
      · omega
  · rw [if_neg q]
    refine ⟨h1, ?_⟩
    dsimp only
    split <;> omega
theorem gStep_e {w w' : zW} {i j kd a b : Int} {Cs : List clau} {set : Nat} {s : gS} (h : sameE w w') : gStep w' i j Cs set kd a b s = gStep w i j Cs set kd a b s := by
  unfold gStep
  rw [aW_e h, aS_e h]
def gEq (s t : gS) : Prop := eqR s.1 t.1 ∧ s.2 = t.2
theorem gStep_eq {w : zW} {i j kd a b : Int} {Cs : List clau} {set : Nat} {s t : gS} (h : gEq s t) : gEq (gStep w i j Cs set kd a b s) (gStep w i j Cs set kd a b t) := by
  obtain ⟨h1, h2⟩ := h
  unfold gStep gEq
  rw [h2, aS_eqR h1]
  by_cases q : kd ≤ 4 ∨ bt set (ck kd) = 1
  · rw [if_pos q, if_pos q]
    exact ⟨aW_eqR h1, rfl⟩
  · rw [if_neg q, if_neg q]
    exact ⟨h1, rfl⟩
abbrev gC : List Nat := [4, 17, 19, 24, 25, 26, 27, 28]
/-- what the class's again stands at -/
def GV (w : zW) (k : Int) (s : gS) : Prop := (eqR (w 19 5) s.1 ∧ w 4 5 3 = s.2) ∧ (0 ≤ w 4 5 1 ∧ w 4 5 1 ≤ k) ∧ (9 - k ≤ w 4 5 2 ∧ w 4 5 2 ≤ 9)
theorem s_againStep {d : Nat} {i j : Int} {w : zW} {Cs : List clau} {set k : Nat} {kd a b : Int} {s : gS} (hN : EN w i j Cs) (hs : gOK w i s) (hV : GV w k s) (hk : k < 200) (hset : set < 16) (hkd : 0 ≤ kd ∧ kd ≤ 8) (ha : 0 ≤ a ∧ a ≤ 40) (hb : 0 ≤ b ∧ b ≤ 40) (hsg : sgB w i kd a b) (h6 : (k : Int) < w 8 0 6) (h29 : w 29 0 k = kd + 256 * a + 65536 * b) :
    ∃ w', State_doAgain_1 (d + 4) 0 set 5 k w = State_doAgain_1 (d + 4) 0 set 5 (k + 1 : Nat) w' ∧ z_fr gC w w' ∧ (∀ q, q ≠ 5 → w' 4 q = w 4 q ∧ w' 19 q = w 19 q) ∧ EN w' i j Cs ∧ GV w' (k + 1) (gStep w i j Cs set kd a b s) := by
  obtain ⟨⟨v1, v2⟩, v3, v4⟩ := hV
  have hO : OD w i 5 := ⟨wO0_eq hs.1.w0 v1, by omega, by omega, by rw [v2]; exact hs.2⟩
  have hz1 : z_and (w 29 0 k) 255 = kd := by rw [h29, z_and_255i]; omega
  have hz2 : z_and (w 29 0 k / 2 ^ (8 : Int).toNat) 255 = a := by
    rw [h29]
    show z_and ((kd + 256 * a + 65536 * b) / 256) 255 = a
    rw [z_and_255i]
    omega
  have hz3 : w 29 0 k / 2 ^ (16 : Int).toNat = b := by
    rw [h29]
    show (kd + 256 * a + 65536 * b) / 65536 = b
    omega
  have r6 : ∀ w1 : zW, z_fr gC w w1 → w1 8 0 6 = w 8 0 6 := fun w1 h => by rw [h 8 (by decide)]
  -- the sort of the sign, in the set or not
  have e9 : State_doAgain_1 (d + 4) 0 set 5 k w = if kd ≤ 4 ∨ bt set (ck kd) = 1 then State_doAgain_9 (d + 4) 0 set 5 k kd 1 w else State_doAgain_9 (d + 4) 0 set 5 k kd 0 w := by
    have h5 : ∀ ls : Int, ls = ck kd → State_doAgain_5 (d + 4) 0 set 5 k kd ls w = if kd ≤ 4 ∨ bt set (ck kd) = 1 then State_doAgain_9 (d + 4) 0 set 5 k kd 1 w else State_doAgain_9 (d + 4) 0 set 5 k kd 0 w := fun ls hl => by
      rw [e_State_doAgain_5]
      by_cases q : kd ≤ 4
      · rw [if_pos q, if_pos (Or.inl q)]
      · have hcb : 0 ≤ ck kd ∧ ck kd ≤ 3 := by
          unfold ck
          split <;> omega
        rw [if_neg q, gd_t (by omega), bt_z hset, hl]
        by_cases z : bt set (ck kd) = 1
        · rw [if_pos z, if_pos (Or.inr z)]
        · rw [if_neg z, if_neg (fun y => y.elim q z)]
    rw [e_State_doAgain_1, if_neg (by omega), gd_t (by omega), hz1]
    by_cases q : kd = 5
    · rw [if_pos q]
      exact h5 3 (by unfold ck; rw [if_pos q])
    · rw [if_neg q, gd_t (by omega)]
      exact h5 _ (by unfold ck; rw [if_neg q])
  have hsit : ∀ w1 : zW, OD w1 i 5 → EN w1 i j Cs → ∃ w', State_doAgain_13 (d + 4) 0 set 5 k 5 0 w1 = State_doAgain_1 (d + 4) 0 set 5 (k + 1 : Nat) w' ∧ z_fr gC w1 w' ∧ (∀ q, q ≠ 5 → w' 4 q = w1 4 q ∧ w' 19 q = w1 19 q) ∧ EN w' i j Cs ∧ eqR (w' 19 5) (w1 19 5) ∧ w' 4 5 1 = w1 4 5 1 + 1 ∧ w' 4 5 2 = w1 4 5 2 ∧ w' 4 5 3 = min 30 (w1 4 5 3 + 1) := fun w1 hO1 hN1 => by
    obtain ⟨w2, q1, q2, q3, q4, q5, q6, q7, q8⟩ := s_happens (d := d) (o := 5) (kd := 4) (a := 0) (b := 0) (by decide) hN1 hO1 (fun q => by omega)
    refine ⟨w2, ?_, q2, q3, q4, ?_, q6, q7, q8⟩
    · rw [e_State_doAgain_13, if_pos rfl, if_pos rfl, q1, bnd, gd_t (by omega)]
      rfl
    · exact q5
  rw [e9]
  unfold gStep
  by_cases q : kd ≤ 4 ∨ bt set (ck kd) = 1
  · rw [if_pos q, if_pos q]
    obtain ⟨w1, p1, p2, p3, p4, p5, p6, p7, p8⟩ := s_happens (d := d) (o := 5) (kd := kd) (a := a) (b := b) hkd hN hO hsg
    have hst := aS_01 w i j kd a b (w 4 5 3) (w 19 5)
    rw [v2] at p1 p5 p6 p7 p8 hst
    have hsS := aS_eqR (w := w) (i := i) (j := j) (kd := kd) (a := a) (b := b) (e := s.2) v1
    have hWW := aW_eqR (w := w) (i := i) (j := j) (Cs := Cs) (kd := kd) (a := a) (b := b) (e := s.2) v1
    have p5' := eqR_tr p5 hWW
    rw [hsS] at p1 p6 p7 p8 hst
    rw [e_State_doAgain_9, if_neg (by decide), gd_t (by omega), gd_t (by decide), gd_t (by omega), gd_t (by decide), hz2, hz3, p1, bnd]
    dsimp only
    rcases hst with z | z
    · have hk5 : 5 ≤ kd := by
        unfold aS at z
        by_cases y : kd ≤ 4
        · rw [if_pos y] at z; omega
        · omega
      rw [z] at p6 p7 p8
      rw [z, if_pos rfl]
      have f1 : aN kd 0 (w 4 5 1) = w 4 5 1 := by unfold aN; rw [if_neg (by omega)]
      have f2 : aM kd 0 (w 4 5 2) = w 4 5 2 := by unfold aM; rw [if_neg (by omega)]
      have f3 : aE kd 0 s.2 = s.2 := by unfold aE; rw [if_neg (by omega), if_neg (by omega)]
      rw [f1] at p6
      rw [f2] at p7
      rw [f3] at p8
      by_cases y : kd = 5
      · have hO1 : OD w1 i 5 := by
          have pe := aC_e p2
          refine ⟨?_, by omega, by omega, by rw [p8]; exact hs.2⟩
          rw [opw_e pe]
          exact wO0_eq (aW_K hN hs.2 hs.1).w0 p5'
        obtain ⟨w2, s1, s2, s3, s4, s5, s6, s7, s8⟩ := hsit w1 hO1 p4
        refine ⟨w2, by rw [y]; exact s1, fr_tr p2 s2, fun t ht => ⟨(s3 t ht).1.trans (p3 t ht).1, (s3 t ht).2.trans (p3 t ht).2⟩, s4, ⟨eqR_tr s5 p5', ?_⟩, by omega, by omega⟩
        rw [if_neg (by omega), if_pos y, if_neg (by decide), s8, p8]
      · refine ⟨w1, ?_, p2, p3, p4, ⟨p5', ?_⟩, by omega, by omega⟩
        · rw [e_State_doAgain_13, if_pos rfl, if_neg y, gd_t (by omega)]
          rfl
        · rw [if_neg (by omega), if_neg y, p8]
    · rw [z] at p6 p7 p8
      rw [z, if_neg (by decide)]
      have b6 : aN kd 1 (w 4 5 1) = w 4 5 1 ∨ aN kd 1 (w 4 5 1) = w 4 5 1 + 1 := by
        unfold aN
        by_cases y : kd ≤ 5 ∧ (1 : Int) = 1
        · rw [if_pos y]; exact Or.inr rfl
        · rw [if_neg y]; exact Or.inl rfl
      have b7 : aM kd 1 (w 4 5 2) = w 4 5 2 ∨ aM kd 1 (w 4 5 2) = w 4 5 2 - 1 := by
        unfold aM
        by_cases y : kd = 5 ∧ (1 : Int) = 1
        · rw [if_pos y]; exact Or.inr rfl
        · rw [if_neg y]; exact Or.inl rfl
      refine ⟨w1, ?_, p2, p3, p4, ⟨p5', ?_⟩, ?_, ?_⟩
      · rw [e_State_doAgain_13, if_neg (by decide), gd_t (by omega)]
        rfl
      · rw [p8]
        unfold aE
        by_cases y : kd ≤ 4
        · rw [if_pos y, if_pos y]
        · rw [if_neg y, if_neg y]
          by_cases y2 : kd = 5
          · rw [if_pos ⟨y2, rfl⟩, if_pos y2, if_pos rfl]
          · rw [if_neg (fun x => y2 x.1), if_neg y2]
      · rcases b6 with x | x <;> omega
      · rcases b7 with x | x <;> omega
  · rw [if_neg q, if_neg q, e_State_doAgain_9, if_pos rfl]
    by_cases y : kd = 5
    · obtain ⟨w2, s1, s2, s3, s4, s5, s6, s7, s8⟩ := hsit w hO hN
      refine ⟨w2, by rw [y]; exact s1, s2, s3, s4, ⟨eqR_tr s5 v1, ?_⟩, by omega, by omega⟩
      rw [if_pos y, s8, v2]
    · refine ⟨w, ?_, fr_rf _ _, fun _ _ => ⟨rfl, rfl⟩, hN, ⟨v1, ?_⟩, by omega, by omega⟩
      · rw [e_State_doAgain_13, if_pos rfl, if_neg y, gd_t (by omega)]
        rfl
      · rw [if_neg y, v2]
