/-! ROWS: what a row comes to: weights, eyes, homes, harms -/
abbrev rS : Type := (Int → Int) × Int × Int × Int
def rBeg (w : zW) (i : Int) (F : Int → Int) (e : Int) : rS := (zh (w 9 i 2) F, e, od F (w 9 i 2), 0)
def rStep (w : zW) (i j : Int) (Cs : List clau) (act : Int) (s : rS) : rS := (if act = 0 then zh (w 9 i 2) (aW w i j Cs act 0 0 s.2.1 s.1) else aW w i j Cs act 0 0 s.2.1 s.1, min 30 (s.2.1 + 1), if act = 0 then s.2.2.1 + od (aW w i j Cs act 0 0 s.2.1 s.1) (w 9 i 2) else s.2.2.1, if act = 0 then s.2.2.2 + rsk (w 37 i) s.1 else s.2.2.2)
/-- the digits of a code, the lowest first -/
def dg (code : Nat) (k : Nat) : Int := ((code / 4 ^ k % 4 : Nat) : Int)
def rAt (w : zW) (i j : Int) (Cs : List clau) (F : Int → Int) (e : Int) (code : Nat) : Nat → rS
  | 0 => rBeg w i F e
  | k + 1 => rStep w i j Cs (dg code k) (rAt w i j Cs F e code k)
/-- what a row's numbers keep -/
def rOK (w : zW) (i : Int) (k : Int) (s : rS) : Prop := wO0 (opw w i) s.1 ∧ (0 ≤ s.2.1 ∧ s.2.1 ≤ 30) ∧ (0 ≤ s.2.2.1 ∧ s.2.2.1 ≤ (k + 1) * 4000000000) ∧ 0 ≤ s.2.2.2 ∧ s.2.2.2 ≤ k * 576000000000
theorem rBeg_OK {w : zW} {i j : Int} {Cs : List clau} {F : Int → Int} {e : Int} (hh : 0 ≤ w 9 i 2 ∧ w 9 i 2 < 144) (hF : wO0 (opw w i) F) (he : 0 ≤ e ∧ e ≤ 30) : rOK w i 0 (rBeg w i F e) := by
  have := od_bd (wO0_B hF) hh
  refine ⟨zh_0 hF, he, ?_, ?_⟩
  · show 0 ≤ od F (w 9 i 2) ∧ od F (w 9 i 2) ≤ (0 + 1) * 4000000000
    omega
  · show (0 : Int) ≤ 0 ∧ (0 : Int) ≤ 0 * 576000000000
    omega
theorem rStep_OK {w : zW} {i j k : Int} {Cs : List clau} {act : Int} {s : rS} (hN : EN w i j Cs) (hh : 0 ≤ w 9 i 2 ∧ w 9 i 2 < 144) (ha : 0 ≤ act ∧ act ≤ 3) (h : rOK w i k s) : rOK w i (k + 1) (rStep w i j Cs act s) := by
  obtain ⟨h1, h2, h3, h4⟩ := h
  have g1 := aW_0 (kd := act) (a := 0) (b := 0) (e := s.2.1) hN h1 (by omega)
  have g2 := od_bd (wO0_B g1) hh
  have g3 := rsk_bd (harm := w 37 i) (wO0_B h1) hN.2.2.2.2.2.2.2.2.1
  unfold rStep rOK
  dsimp only
  by_cases q : act = 0
  · rw [if_pos q, if_pos q, if_pos q]
    exact ⟨zh_0 g1, by omega, by omega, by omega⟩
  · rw [if_neg q, if_neg q, if_neg q]
    exact ⟨g1, by omega, by omega, by omega⟩
theorem dg_bd (code k : Nat) : 0 ≤ dg code k ∧ dg code k ≤ 3 := by
  unfold dg
  omega
theorem rAt_OK {w : zW} {i j : Int} {Cs : List clau} {F : Int → Int} {e : Int} {code : Nat} (hN : EN w i j Cs) (hh : 0 ≤ w 9 i 2 ∧ w 9 i 2 < 144) (hF : wO0 (opw w i) F) (he : 0 ≤ e ∧ e ≤ 30) : ∀ k : Nat, rOK w i k (rAt w i j Cs F e code k) := by
  intro k
  induction k with
  | zero => exact rBeg_OK (j := j) (Cs := Cs) hh hF he
  | succ k ih =>
    have := rStep_OK (act := dg code k) hN hh (dg_bd code k) ih
    exact this
/-- alike: weights where they are, all else the same -/
def rEq (s t : rS) : Prop := eqR s.1 t.1 ∧ s.2 = t.2
theorem rsk_eqR {h X Y : Int → Int} (hq : eqR X Y) : rsk h X = rsk h Y := sm_congr fun c hc => by
  rw [od_eqR hq (by omega) (by omega)]
theorem rStep_eq {w : zW} {i j : Int} {Cs : List clau} {act : Int} {s t : rS} (hh : 0 ≤ w 9 i 2 ∧ w 9 i 2 < 144) (h : rEq s t) : rEq (rStep w i j Cs act s) (rStep w i j Cs act t) := by
  obtain ⟨h1, h2⟩ := h
  have g1 := aW_eqR (w := w) (i := i) (j := j) (Cs := Cs) (kd := act) (a := 0) (b := 0) (e := t.2.1) h1
  unfold rStep rEq
  dsimp only
  rw [h2]
  refine ⟨?_, ?_⟩
  · by_cases q : act = 0
    · rw [if_pos q, if_pos q]; exact zh_eqR g1
    · rw [if_neg q, if_neg q]; exact g1
  · rw [od_eqR g1 hh.1 hh.2, rsk_eqR h1]
theorem rStep_e {w w' : zW} {i j : Int} {Cs : List clau} {act : Int} {s : rS} (h : sameE w w') : rStep w' i j Cs act s = rStep w i j Cs act s := by
  unfold rStep
  rw [aW_e h, h 9 (by decide), h 37 (by decide)]
/-- a level of the class's rows -/
def LV (w : zW) (l : Int) (s : rS) : Prop := (eqR (w 19 (6 + l)) s.1 ∧ w 4 (6 + l) 3 = s.2.1 ∧ w 22 0 l = s.2.2.1 ∧ w 23 0 l = s.2.2.2) ∧ (0 ≤ w 4 (6 + l) 1 ∧ w 4 (6 + l) 1 ≤ 1000 + l) ∧ (-100000 ≤ w 4 (6 + l) 2 ∧ w 4 (6 + l) 2 ≤ 9)
abbrev rC : List Nat := [4, 17, 19, 22, 23, 24, 25, 26, 27, 28]
theorem rC_e {w w' : zW} (h : z_fr rC w w') : sameE w w' := sameE_fr h (by decide)
/-- what is left alone but at one level -/
def onL (w w' : zW) (o l : Int) : Prop := (∀ q, q ≠ o → w' 4 q = w 4 q ∧ w' 19 q = w 19 q) ∧ ∀ s, s ≠ l → w' 22 0 s = w 22 0 s ∧ w' 23 0 s = w 23 0 s
theorem onL_tr {w w' w'' : zW} {o l : Int} (h1 : onL w w' o l) (h2 : onL w' w'' o l) : onL w w'' o l :=
  ⟨fun q hq => ⟨(h2.1 q hq).1.trans (h1.1 q hq).1, (h2.1 q hq).2.trans (h1.1 q hq).2⟩, fun s hs => ⟨(h2.2 s hs).1.trans (h1.2 s hs).1, (h2.2 s hs).2.trans (h1.2 s hs).2⟩⟩
theorem onL_fr {S : List Nat} {w w' : zW} {o l : Int} (h : z_fr S w w') (h22 : 22 ∉ S) (h23 : 23 ∉ S) (ho : ∀ q, q ≠ o → w' 4 q = w 4 q ∧ w' 19 q = w 19 q) : onL w w' o l :=
  ⟨ho, fun s _ => by rw [h 22 h22, h 23 h23]; exact ⟨rfl, rfl⟩⟩
theorem LV_on {w w' : zW} {o l m : Int} {s : rS} (h : onL w w' o l) (h1 : 6 + m ≠ o) (h2 : m ≠ l) (hL : LV w m s) : LV w' m s := by
  unfold LV at *
  rw [(h.1 _ h1).1, (h.1 _ h1).2, (h.2 _ h2).1, (h.2 _ h2).2]
  exact hL
theorem s_rowsBegin {d : Nat} {i j o : Int} {w : zW} {Cs : List clau} (ho : o < 6) (hN : EN w i j Cs) (hh : 0 ≤ w 9 i 2 ∧ w 9 i 2 < 144) (hF : wO0 (opw w i) (w 19 o)) (b1 : 0 ≤ w 4 o 1 ∧ w 4 o 1 ≤ 1000) (b2 : -100000 ≤ w 4 o 2 ∧ w 4 o 2 ≤ 9) :
    ∃ w', Rows_begin (d + 3) o i w = some (0, w') ∧ z_fr rC w w' ∧ onL w w' 6 0 ∧ EN w' i j Cs ∧ LV w' 0 (rBeg w i (w 19 o) (w 4 o 3)) := by
  obtain ⟨w1, p1, p2, p3, p4, p5, p6, p7⟩ := s_copyO (d := d + 2) (o := 6 + 0) (o2 := o) (w := w)
  have r9 := p2 9 (by decide)
  have hB1 : wtB (w1 19 (6 + 0)) := fun k k0 k1 => by
    rw [p4 k k0 k1]
    exact wO0_B hF k k0 k1
  obtain ⟨w2, q1, q2, q3, q4⟩ := s_take (d := d) (o := 6 + 0) (c := w 9 i 2) (w := w1) hh hB1
  have f3 : z_fr rC w (z_up (z_up w2 22 0 0 (od (w1 19 (6 + 0)) (w 9 i 2))) 23 0 0 0) := fr_tr (fr_tr (fr_sub p2 (by decide)) (fr_sub q2 (by decide))) (fr_tr (fr_up (by decide)) (fr_up (by decide)))
  refine ⟨z_up (z_up w2 22 0 0 (od (w1 19 (6 + 0)) (w 9 i 2))) 23 0 0 0, ?_, f3, ⟨fun q hq => ⟨?_, ?_⟩, fun s hs => ⟨?_, ?_⟩⟩, ?_, ⟨⟨fun k k0 k1 => ?_, ?_, ?_, ?_⟩, ?_, ?_⟩⟩
  · rw [e_Rows_begin, gd_t (by decide), p1, bnd]
    dsimp only
    rw [gd_t (by decide), r9, q1, bnd]
    simp (disch := omega) only [gd_t]
  · rw [show q = q from rfl]
    funext s
    rw [up_c (by decide), up_c (by decide), q2 4 (by decide), (p3 q (by omega)).1]
  · funext s
    rw [up_c (by decide), up_c (by decide), q3 q (by omega), (p3 q (by omega)).2]
  · rw [up_c (by decide), up_s hs, q2 22 (by decide), p2 22 (by decide)]
  · rw [up_s hs, up_c (by decide), q2 23 (by decide), p2 23 (by decide)]
  · refine EN_e (rC_e f3) (RC_fr (rC_e f3) ?_ ?_ hN.2.2.2.2.2.2.2.2.2) hN
    · funext a b
      rw [up_c (by decide), up_c (by decide), q2 26 (by decide), p2 26 (by decide)]
    · funext a b
      rw [up_c (by decide), up_c (by decide), q2 27 (by decide), p2 27 (by decide)]
  · rw [up_c (by decide), up_c (by decide), q4 k k0 k1]
    exact zh_eqR p4 k k0 k1
  · rw [up_c (by decide), up_c (by decide), q2 4 (by decide), p7]
    rfl
  · rw [up_c (by decide), up_h, od_eqR p4 hh.1 hh.2]
    rfl
  · rw [up_h]
    rfl
  · rw [up_c (by decide), up_c (by decide), q2 4 (by decide), p5]
    omega
  · rw [up_c (by decide), up_c (by decide), q2 4 (by decide), p6]
    exact b2
