/-! AN ACT on odds: the class's. Kinds: 0 go, 1 left, 2 right, 3 back, 4 sit, 5 strike, 6 felt, 7 seen, 8 heard -/
def eG (w : zW) (i j : Int) (Cs : List clau) (e : Int) (F : Int → Int) : Int → Int := goF (opw w i) F (w 39 i) (cA w i e Cs) (w 2 j 1) (fun _ => 0) 144
def tq (kd : Int) : Int := if kd = 3 then 2 else if kd = 1 then 3 else 1
def aS (w : zW) (i j kd a b e : Int) (F : Int → Int) : Int := if kd ≤ 4 then 1 else if 0 < sm (wgt F (eCh w i j kd a b e)) 576 then 1 else 0
def aW (w : zW) (i j : Int) (Cs : List clau) (kd a b e : Int) (F : Int → Int) : Int → Int := if kd = 0 then eG w i j Cs e F else if kd ≤ 3 then rot (3 * tq kd) F else if kd = 4 then F else if 0 < sm (wgt F (eCh w i j kd a b e)) 576 then nrm (wgt F (eCh w i j kd a b e)) (sm (wgt F (eCh w i j kd a b e)) 576) else F
def aN (kd st n : Int) : Int := if kd ≤ 5 ∧ st = 1 then n + 1 else n
def aM (kd st m : Int) : Int := if kd = 5 ∧ st = 1 then m - 1 else m
def aE (kd st e : Int) : Int := if kd ≤ 4 then min 30 (e + 1) else if kd = 5 ∧ st = 1 then 0 else e
/-- where one walks, by what law -/
def EN (w : zW) (i j : Int) (Cs : List clau) : Prop := (w 7 0 0 = i ∧ w 7 0 1 = j) ∧ WO w i ∧ lwB w j ∧ ClC w j 0 Cs ∧ (∀ C ∈ Cs, clT 5 C) ∧ Cs.length ≤ 12 ∧ nxB (w 39 i) ∧ nxP (opw w i) (w 39 i) ∧ hmB (w 37 i) ∧ RC w i Cs
abbrev eC : List Nat := [1, 2, 7, 9, 13, 14, 15, 16, 32, 33, 34, 35, 36, 37, 38, 39, 40, 41]
def sameE (w w' : zW) : Prop := ∀ c ∈ eC, w' c = w c
theorem sameE_rf (w : zW) : sameE w w := fun _ _ => rfl
theorem sameE_tr {w w' w'' : zW} (h1 : sameE w w') (h2 : sameE w' w'') : sameE w w'' := fun c hc => (h2 c hc).trans (h1 c hc)
theorem sameE_fr {S : List Nat} {w w' : zW} (h : z_fr S w w') (hd : ∀ c ∈ eC, c ∉ S) : sameE w w' := fun c hc => h c (hd c hc)
theorem opw_e {w w' : zW} {i : Int} (h : sameE w w') : opw w' i = opw w i := by
  show opn (w' 9 i 0) (w' 9 i 1) (w' 34 i) = opn (w 9 i 0) (w 9 i 1) (w 34 i)
  rw [h 9 (by decide), h 34 (by decide)]
theorem cA_e {w w' : zW} {i e : Int} {Cs : List clau} (h : sameE w w') : cA w' i e Cs = cA w i e Cs := by
  unfold cA
  rw [h 33 (by decide), h 35 (by decide), h 36 (by decide), h 37 (by decide)]
theorem eCh_e {w w' : zW} {i j kd a b e : Int} (h : sameE w w') : eCh w' i j kd a b e = eCh w i j kd a b e := by
  unfold eCh
  rw [h 33 (by decide), h 35 (by decide), h 36 (by decide), h 32 (by decide), h 2 (by decide)]
theorem goF_e {w w' : zW} {i : Int} {F nx A X : Int → Int} {dr : Int} (h : sameE w w') : goF (opw w' i) F nx A dr X = goF (opw w i) F nx A dr X := by
  have h9 := h 9 (by decide)
  have h34 := h 34 (by decide)
  unfold opw
  rw [h9, h34]
theorem eG_e {w w' : zW} {i j e : Int} {Cs : List clau} {F : Int → Int} (h : sameE w w') : eG w' i j Cs e F = eG w i j Cs e F := by
  unfold eG
  rw [goF_e h, cA_e h, h 39 (by decide), h 2 (by decide)]
theorem aS_e {w w' : zW} {i j kd a b e : Int} {F : Int → Int} (h : sameE w w') : aS w' i j kd a b e F = aS w i j kd a b e F := by
  unfold aS
  rw [eCh_e h]
theorem aW_e {w w' : zW} {i j kd a b e : Int} {Cs : List clau} {F : Int → Int} (h : sameE w w') : aW w' i j Cs kd a b e F = aW w i j Cs kd a b e F := by
  unfold aW
  rw [eCh_e h, eG_e h]
theorem WO_e {w w' : zW} {i : Int} (h : sameE w w') (hW : WO w i) : WO w' i := by
  have h9 := h 9 (by decide)
  have h34 := h 34 (by decide)
  have h40 := h 40 (by decide)
  unfold WO at *
  rw [h40]
  show w' 9 i 13 = cn (opn (w' 9 i 0) (w' 9 i 1) (w' 34 i)) 144 ∧ lists (opn (w' 9 i 0) (w' 9 i 1) (w' 34 i)) (w 40 i) 144
  rw [h9, h34]
  exact hW
theorem RC_fr {w w' : zW} {i : Int} {Cs : List clau} (h : sameE w w') (h26 : w' 26 = w 26) (h27 : w' 27 = w 27) (hR : RC w i Cs) : RC w' i Cs := by
  intro e e0 e1 hn c hc ho
  rw [opw_e h] at ho
  rw [h27] at hn
  rw [h26, cA_e h]
  exact hR e e0 e1 hn c hc ho
theorem EN_e {w w' : zW} {i j : Int} {Cs : List clau} (h : sameE w w') (hR : RC w' i Cs) (hN : EN w i j Cs) : EN w' i j Cs := by
  obtain ⟨n1, n2, n3, n4, n5, n6, n7, n8, n9, -⟩ := hN
  refine ⟨by rw [h 7 (by decide)]; exact n1, WO_e h n2, ?_, ClC_fr (h 1 (by decide)) (h 13 (by decide)) (h 14 (by decide)) (h 15 (by decide)) (h 16 (by decide)) Cs 0 n4, n5, n6, by rw [h 39 (by decide)]; exact n7, by rw [h 39 (by decide), opw_e h]; exact n8, by rw [h 37 (by decide)]; exact n9, hR⟩
  unfold lwB at *
  rw [h 2 (by decide)]
  exact n3
abbrev aC : List Nat := [4, 17, 19, 24, 25, 26, 27, 28]
theorem aC_e {w w' : zW} (h : z_fr aC w w') : sameE w w' := sameE_fr h (by decide)
theorem wgt_op {P : Int → Prop} {F ch ch' : Int → Int} (hdec : ∀ c : Nat, P c ∨ ¬ P c) (hC : ∀ c : Nat, c < 144 → ¬ P c → ∀ k, 4 * (c : Int) ≤ k → k < 4 * (c : Int) + 4 → F k = 0) (h : ∀ c : Nat, c < 144 → P c → ch c = ch' c) : eqR (wgt F ch) (wgt F ch') := fun k k0 k1 => by
  obtain ⟨c, hc⟩ : ∃ c : Nat, k / 4 = c := ⟨(k / 4).toNat, by omega⟩
  unfold wgt
  rcases hdec c with q | q
  · rw [hc, h c (by omega) q]
  · rw [hC c (by omega) q k (by omega) (by omega), Int.zero_mul, Int.zero_mul]
theorem sm_eqR {X Y : Int → Int} (h : eqR X Y) : sm X 576 = sm Y 576 := sm_congr fun k hk => h k (by omega) (by omega)
theorem nrm_eqR {X Y : Int → Int} {S : Int} (h : eqR X Y) : eqR (nrm X S) (nrm Y S) := fun k k0 k1 => by
  unfold nrm
  rw [h k k0 k1]
theorem s_happens_9 {d : Nat} {o : Int} {w wx : zW} {F' : Int → Int} (hf : z_fr [17, 19, 24, 25, 26, 27, 28] w wx) (ho : ∀ o', o' ≠ o → wx 19 o' = w 19 o') (hE : eqR (wx 19 o) F') (b1 : 0 ≤ w 4 o 1 ∧ w 4 o 1 ≤ 100000) (b3 : 0 ≤ w 4 o 3 ∧ w 4 o 3 ≤ 30) :
    ∃ w', Odds_happens_9 d o wx = some (1, w') ∧ z_fr aC w w' ∧ (∀ o', o' ≠ o → w' 4 o' = w 4 o' ∧ w' 19 o' = w 19 o') ∧ (∀ c, c ≠ 4 → w' c = wx c) ∧ w' 4 o 1 = w 4 o 1 + 1 ∧ w' 4 o 2 = w 4 o 2 ∧ w' 4 o 3 = min 30 (w 4 o 3 + 1) ∧ eqR (w' 19 o) F' := by
  have h4 := hf 4 (by decide)
  refine ⟨z_up (z_up wx 4 o 1 (w 4 o 1 + 1)) 4 o 3 (min 30 (w 4 o 3 + 1)), ?_, fr_tr (fr_sub hf (by decide)) (fr_tr (fr_up (by decide)) (fr_up (by decide))), fun o' q => ⟨?_, ?_⟩, fun c hc => ?_, ?_, ?_, up_h, fun k k0 k1 => ?_⟩
  · rw [e_Odds_happens_9, h4]
    simp (disch := omega) only [gd_t]
  · funext s
    rw [up_i q, up_i q, h4]
  · funext s
    rw [up_c (by decide), up_c (by decide), ho o' q]
  · funext a s
    rw [up_c hc, up_c hc]
  · rw [up_s (by decide), up_h]
  · rw [up_s (by decide), up_s (by decide), h4]
  · rw [up_c (by decide), up_c (by decide)]
    exact hE k k0 k1
/-- the weights: whole, none at closed cells, together at most a thousand million -/
def wO0 (P : Int → Prop) (F : Int → Int) : Prop := (∀ k, 0 ≤ k → k < 576 → 0 ≤ F k) ∧ (∀ c : Nat, c < 144 → ¬ P c → ∀ k, 4 * (c : Int) ≤ k → k < 4 * (c : Int) + 4 → F k = 0) ∧ tot F ≤ 1000000000
theorem wOK.w0 {P : Int → Prop} {F : Int → Int} (h : wOK P F) : wO0 P F := ⟨h.1, h.2.1, h.2.2.2⟩
theorem wO0_B {P : Int → Prop} {F : Int → Int} (h : wO0 P F) : wtB F := fun k h0 h1 => by
  obtain ⟨n, rfl⟩ : ∃ n : Nat, k = n := ⟨k.toNat, by omega⟩
  have := sm_one (f := F) (n := 576) (k := n) (fun j hj => h.1 j (by omega) (by omega)) (by omega)
  have h3 := h.2.2
  have h2 := h.1 n h0 h1
  have h4 : tot F = sm F 576 := rfl
  omega
def OD (w : zW) (i o : Int) : Prop := wO0 (opw w i) (w 19 o) ∧ (0 ≤ w 4 o 1 ∧ w 4 o 1 ≤ 100000) ∧ (-100000 ≤ w 4 o 2 ∧ w 4 o 2 ≤ 9) ∧ 0 ≤ w 4 o 3 ∧ w 4 o 3 ≤ 30
theorem op_dec (w : zW) (i : Int) (c : Nat) : opw w i c ∨ ¬ opw w i c := by
  by_cases h : opw w i c
  · exact Or.inl h
  · exact Or.inr h
set_option maxRecDepth 20000 in
theorem s_happens {d : Nat} {i j o kd a b : Int} {w : zW} {Cs : List clau} (hk : 0 ≤ kd ∧ kd ≤ 8) (hN : EN w i j Cs) (hO : OD w i o) (hs : sgB w i kd a b) :
    ∃ w', Odds_happens (d + 3) o kd a b w = some (aS w i j kd a b (w 4 o 3) (w 19 o), w') ∧ z_fr aC w w' ∧ (∀ o', o' ≠ o → w' 4 o' = w 4 o' ∧ w' 19 o' = w 19 o') ∧ EN w' i j Cs ∧ eqR (w' 19 o) (aW w i j Cs kd a b (w 4 o 3) (w 19 o)) ∧ w' 4 o 1 = aN kd (aS w i j kd a b (w 4 o 3) (w 19 o)) (w 4 o 1) ∧ w' 4 o 2 = aM kd (aS w i j kd a b (w 4 o 3) (w 19 o)) (w 4 o 2) ∧ w' 4 o 3 = aE kd (aS w i j kd a b (w 4 o 3) (w 19 o)) (w 4 o 3) := by
  have hN0 := hN
  obtain ⟨⟨hi, hj⟩, n2, n3, n4, n5, n6, n7, n8, n9, n10⟩ := hN
  obtain ⟨o1, o2, o3, o4⟩ := hO
  have hB := wO0_B o1
  have hC : wtC w i (w 19 o) := o1.2.1
  rw [e_Odds_happens]
  by_cases hk4 : kd ≤ 4
  · have hs1 : aS w i j kd a b (w 4 o 3) (w 19 o) = 1 := by unfold aS; rw [if_pos hk4]
    have f1 : aN kd 1 (w 4 o 1) = w 4 o 1 + 1 := by unfold aN; rw [if_pos ⟨by omega, rfl⟩]
    have f2 : aM kd 1 (w 4 o 2) = w 4 o 2 := by unfold aM; rw [if_neg (by omega)]
    have f3 : aE kd 1 (w 4 o 3) = min 30 (w 4 o 3 + 1) := by unfold aE; rw [if_pos hk4]
    rw [hs1, f1, f2, f3, if_pos hk4]
    by_cases h0 : kd = 0
    · rw [if_pos h0]
      obtain ⟨w1, p1, p2, p3, p4⟩ := s_ready (d := d) (e := w 4 o 3) hi hj n2 n4 n5 n6 o4 n10
      have pe : sameE w w1 := sameE_fr p2 (by decide)
      have r19 := p2 19 (by decide)
      have r4 := p2 4 (by decide)
      have r7 := p2 7 (by decide)
      have r2 := p2 2 (by decide)
      have r39 := p2 39 (by decide)
      rw [p1, bnd]
      have hA : ∀ c : Nat, c < 144 → opw w1 i c → w1 26 0 (w 4 o 3 * 144 + c) = cA w i (w 4 o 3) Cs c := fun c hc ho => by
        rw [p3 _ o4.1 o4.2 p4 c hc ho, cA_e pe]
      obtain ⟨w2, q1, q2, q3, q4⟩ := s_go (d := d + 1) (o := o) (i := i) (e := w 4 o 3) (dr := w 2 j 1) (w := w1) (A := cA w i (w 4 o 3) Cs) (by rw [r7]; exact hi) (WO_e pe n2) (by rw [r39]; exact n7) (by rw [r19]; exact o1.1) (by rw [r19]; exact o1.2.2) (by
        intro c hc hno
        rw [opw_e pe] at hno
        rw [r19]
        exact hC c hc hno) (by rw [r4]) o4 hA (fun c _ _ => ahd_bd) (by rw [r7, hj, r2]) n3.1.1
      rw [q1, bnd]
      obtain ⟨w3, s1, s2, s3, s4, s5, s6, s7, s8⟩ := s_happens_9 (d := d + 3) (o := o) (w := w) (wx := w2) (F' := aW w i j Cs kd a b (w 4 o 3) (w 19 o)) (fr_tr (fr_sub p2 (by decide)) (fr_sub q2 (by decide))) (fun o' q => by rw [q3 o' q, r19]) (by
        have : aW w i j Cs kd a b (w 4 o 3) (w 19 o) = goF (opw w1 i) (w1 19 o) (w1 39 i) (cA w i (w 4 o 3) Cs) (w 2 j 1) (fun _ => 0) 144 := by
          unfold aW eG
          rw [if_pos h0, goF_e pe, r19, r39]
        rw [this]
        exact q4) o2 o4
      refine ⟨w3, s1, s2, s3, EN_e (aC_e s2) ?_ hN0, s8, s5, s6, s7⟩
      exact RC_fr (sameE_tr (sameE_fr q2 (by decide)) (fun c hc => s4 c (by revert hc; revert c; decide))) (by rw [s4 26 (by decide), q2 26 (by decide)]) (by rw [s4 27 (by decide), q2 27 (by decide)]) p3
    · rw [if_neg h0]
      by_cases h4 : kd = 4
      · rw [if_pos h4]
        obtain ⟨w3, s1, s2, s3, s4, s5, s6, s7, s8⟩ := s_happens_9 (d := d + 3) (o := o) (w := w) (wx := w) (F' := aW w i j Cs kd a b (w 4 o 3) (w 19 o)) (fr_rf _ _) (fun o' q => rfl) (by
          unfold aW
          rw [if_neg h0, if_neg (by omega), if_pos h4]
          exact fun _ _ _ => rfl) o2 o4
        exact ⟨w3, s1, s2, s3, EN_e (aC_e s2) (RC_fr (aC_e s2) (s4 26 (by decide)) (s4 27 (by decide)) n10) hN0, s8, s5, s6, s7⟩
      · rw [if_neg h4, s_turned (by omega), bnd]
        dsimp only
        have ht : (0 + (if kd = 3 then 2 else if kd = 1 then 3 else 1)) % 4 = tq kd := by
          unfold tq
          split
          · rfl
          · split <;> rfl
        have htb : 0 ≤ tq kd ∧ tq kd < 4 := by
          unfold tq
          split
          · omega
          · split <;> omega
        rw [ht, hi]
        obtain ⟨w2, q1, q2, q3, q4⟩ := s_turn (d := d + 2) (o := o) (i := i) (t := tq kd) n2 hC htb
        rw [q1, bnd]
        obtain ⟨w3, s1, s2, s3, s4, s5, s6, s7, s8⟩ := s_happens_9 (d := d + 3) (o := o) (w := w) (wx := w2) (F' := aW w i j Cs kd a b (w 4 o 3) (w 19 o)) (fr_sub q2 (by decide)) q3 (by
          unfold aW
          rw [if_neg h0, if_pos (by omega)]
          exact q4) o2 o4
        exact ⟨w3, s1, s2, s3, EN_e (aC_e s2) (RC_fr (aC_e s2) (by rw [s4 26 (by decide), q2 26 (by decide)]) (by rw [s4 27 (by decide), q2 27 (by decide)]) n10) hN0, s8, s5, s6, s7⟩
  · rw [if_neg hk4]
    obtain ⟨w1, p1, p2, p3⟩ := s_tell (d := d + 1) (e := w 4 o 3) hi hj (by omega) n2 n3 hs o4
    have pe : sameE w w1 := sameE_fr p2 (by decide)
    have r19 := p2 19 (by decide)
    have r7 := p2 7 (by decide)
    rw [p1, bnd]
    obtain ⟨w2, q1, q2, q3, q4⟩ := s_weigh (d := d + 1) (o := o) (i := i) (w := w1) (by rw [r7]; exact hi) (WO_e pe n2) (by rw [r19]; exact hB) (by
      intro c hc hno
      rw [opw_e pe] at hno
      rw [r19]
      exact hC c hc hno) (fun c hc ho => by
      rw [opw_e pe] at ho
      rw [p3 c hc ho]
      exact eCh_bd n3 o4 c)
    have hwg : eqR (wgt (w 19 o) (w1 24 0)) (wgt (w 19 o) (eCh w i j kd a b (w 4 o 3))) := wgt_op (op_dec w i) hC p3
    have hsm := sm_eqR hwg
    rw [r19, hsm] at q1 q4
    have hR2 : RC w2 i Cs := RC_fr (sameE_tr pe (sameE_fr q2 (by decide))) (by rw [q2 26 (by decide), p2 26 (by decide)]) (by rw [q2 27 (by decide), p2 27 (by decide)]) n10
    have f12 : z_fr aC w w2 := fr_tr (fr_sub p2 (by decide)) (fr_sub q2 (by decide))
    have r4 : w2 4 = w 4 := by rw [q2 4 (by decide), p2 4 (by decide)]
    have o19 : ∀ o', o' ≠ o → w2 19 o' = w 19 o' := fun o' q => by rw [q3 o' q, r19]
    rw [q1, bnd]
    dsimp only
    have hhW : aW w i j Cs kd a b (w 4 o 3) (w 19 o) = if 0 < sm (wgt (w 19 o) (eCh w i j kd a b (w 4 o 3))) 576 then nrm (wgt (w 19 o) (eCh w i j kd a b (w 4 o 3))) (sm (wgt (w 19 o) (eCh w i j kd a b (w 4 o 3))) 576) else w 19 o := by
      unfold aW
      rw [if_neg (by omega), if_neg (by omega), if_neg (by omega)]
    by_cases hp : 0 < sm (wgt (w 19 o) (eCh w i j kd a b (w 4 o 3))) 576
    · have hs1 : aS w i j kd a b (w 4 o 3) (w 19 o) = 1 := by unfold aS; rw [if_neg hk4, if_pos hp]
      rw [if_pos hp] at q4
      rw [if_pos hp] at hhW
      rw [hs1, if_pos hp, if_neg (by decide)]
      have hw19 : eqR (w2 19 o) (aW w i j Cs kd a b (w 4 o 3) (w 19 o)) := fun k k0 k1 => by
        rw [q4 k k0 k1, hhW]
        exact nrm_eqR hwg k k0 k1
      by_cases h5 : kd = 5
      · rw [if_pos h5]
        simp only [r4]
        rw [gd_t (by omega), gd_t (by omega), gd_t (by omega)]
        have s2 : z_fr aC w (z_up (z_up (z_up w2 4 o 1 (w 4 o 1 + 1)) 4 o 2 (w 4 o 2 - 1)) 4 o 3 0) := fr_tr f12 (fr_tr (fr_tr (fr_up (by decide)) (fr_up (by decide))) (fr_up (by decide)))
        have c4 : ∀ c, c ≠ 4 → (z_up (z_up (z_up w2 4 o 1 (w 4 o 1 + 1)) 4 o 2 (w 4 o 2 - 1)) 4 o 3 0) c = w2 c := fun c hc => by
          funext x y
          rw [up_c hc, up_c hc, up_c hc]
        refine ⟨_, rfl, s2, fun o' q => ⟨?_, ?_⟩, EN_e (aC_e s2) (RC_fr (fun c hc => c4 c (by revert hc; revert c; decide)) (c4 26 (by decide)) (c4 27 (by decide)) hR2) hN0, ?_, ?_, ?_, ?_⟩
        · funext s
          rw [up_i q, up_i q, up_i q, r4]
        · rw [c4 19 (by decide)]
          exact o19 o' q
        · rw [c4 19 (by decide)]
          exact hw19
        · rw [up_s (by decide), up_s (by decide), up_h]
          unfold aN
          rw [if_pos ⟨by omega, rfl⟩]
        · rw [up_s (by decide), up_h]
          unfold aM
          rw [if_pos ⟨h5, rfl⟩]
        · rw [up_h]
          unfold aE
          rw [if_neg hk4, if_pos ⟨h5, rfl⟩]
      · rw [if_neg h5, gd_t (by decide)]
        refine ⟨w2, rfl, f12, fun o' q => ⟨by rw [r4], o19 o' q⟩, EN_e (aC_e f12) hR2 hN0, hw19, ?_, ?_, ?_⟩
        · rw [r4]; unfold aN; rw [if_neg (by omega)]
        · rw [r4]; unfold aM; rw [if_neg (by omega)]
        · rw [r4]; unfold aE; rw [if_neg hk4, if_neg (by omega)]
    · have hs1 : aS w i j kd a b (w 4 o 3) (w 19 o) = 0 := by unfold aS; rw [if_neg hk4, if_neg hp]
      rw [if_neg hp] at q4
      rw [if_neg hp] at hhW
      rw [hs1, if_neg hp, if_pos rfl, gd_t (by decide)]
      refine ⟨w2, rfl, f12, fun o' q => ⟨by rw [r4], o19 o' q⟩, EN_e (aC_e f12) hR2 hN0, by rw [hhW]; exact q4, ?_, ?_, ?_⟩
      · rw [r4]; unfold aN; rw [if_neg (by omega)]
      · rw [r4]; unfold aM; rw [if_neg (by omega)]
      · rw [r4]; unfold aE; rw [if_neg hk4, if_neg (by omega)]
