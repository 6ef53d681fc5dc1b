/-! WHAT IS ALIKE: a wood, a law, a rule of the class's and of the model's -/
def RW (w : zW) (i : Int) : Prop := ((2 ≤ w 9 i 0 ∧ w 9 i 0 ≤ 12) ∧ (2 ≤ w 9 i 1 ∧ w 9 i 1 ≤ 12)) ∧ (w 58 0 (12 + i) = w 9 i 0 ∧ w 59 0 (12 + i) = w 9 i 1) ∧ ((0 ≤ w 60 0 (12 + i) ∧ w 60 0 (12 + i) < w 9 i 0) ∧ (0 ≤ w 61 0 (12 + i) ∧ w 61 0 (12 + i) < w 9 i 1) ∧ w 9 i 2 = 12 * w 61 0 (12 + i) + w 60 0 (12 + i)) ∧ (w 9 i 3 = w 62 0 i ∧ 0 ≤ w 62 0 i ∧ w 62 0 i ≤ 4) ∧
  (∀ c, 0 ≤ c → c < 144 → (w 33 i c = md w i 0 c ∧ w 34 i c = md w i 1 c ∧ w 35 i c = md w i 2 c ∧ w 36 i c = md w i 3 c ∧ w 37 i c = md w i 4 c ∧ w 38 i c = md w i 5 c) ∧ isB (w 33 i c) ∧ isB (w 34 i c) ∧ (0 ≤ w 35 i c ∧ w 35 i c ≤ 7) ∧ (0 ≤ w 36 i c ∧ w 36 i c ≤ 9) ∧ (0 ≤ w 37 i c ∧ w 37 i c ≤ 1000)) ∧
  (∀ s, 0 ≤ s → s < w 62 0 i → (1 ≤ w 63 0 (12 * i + 3 * s) ∧ w 63 0 (12 * i + 3 * s) ≤ 40) ∧ (0 ≤ w 63 0 (12 * i + 3 * s + 1) ∧ w 63 0 (12 * i + 3 * s + 1) < 12) ∧ (0 ≤ w 63 0 (12 * i + 3 * s + 2) ∧ w 63 0 (12 * i + 3 * s + 2) < 12) ∧ ∀ c : Nat, c < 144 → w 32 i (s * 144 + c) = lud (w 63 0 (12 * i + 3 * s)) (w 63 0 (12 * i + 3 * s + 1)) (w 63 0 (12 * i + 3 * s + 2)) c) ∧
  WO w i ∧ eqR (w 39 i) (nbr (w 9 i 0) (w 9 i 1) (w 34 i)) ∧ w 34 i (w 9 i 2) = 0
abbrev wdC : List Nat := [9, 32, 33, 34, 35, 36, 37, 38, 39, 40, 58, 59, 60, 61, 62, 63, 64]
theorem RW_fr {w w' : zW} {i : Int} (h : ∀ c ∈ wdC, w' c = w c) (hR : RW w i) : RW w' i := by
  have e9 := h 9 (by decide)
  have e34 := h 34 (by decide)
  have e40 := h 40 (by decide)
  unfold RW WO md opw at *
  rw [e9, h 58 (by decide), h 59 (by decide), h 60 (by decide), h 61 (by decide), h 62 (by decide), h 63 (by decide), h 64 (by decide), h 32 (by decide), h 33 (by decide), e34, h 35 (by decide), h 36 (by decide), h 37 (by decide), h 38 (by decide), h 39 (by decide), e40]
  exact hR
def Rlw (w : zW) (j : Int) (Cs : List clau) : Prop := lwB w j ∧ (w 54 0 j = w 2 j 1 ∧ w 55 0 j = w 2 j 2 ∧ w 56 0 j = w 2 j 3 ∧ w 57 0 j = w 2 j 4) ∧ ClC w j 0 Cs ∧ ClM w j false 0 Cs ∧ (∀ C ∈ Cs, clT 5 C) ∧ Cs.length ≤ 12
abbrev lwC : List Nat := [1, 2, 13, 14, 15, 16, 50, 52, 53, 54, 55, 56, 57]
theorem Rlw_fr {w w' : zW} {j : Int} {Cs : List clau} (h : ∀ c ∈ lwC, w' c = w c) (hR : Rlw w j Cs) : Rlw w' j Cs := by
  obtain ⟨h1, h2, h3, h4, h5, h6⟩ := hR
  refine ⟨?_, ?_, ClC_fr (h 1 (by decide)) (h 13 (by decide)) (h 14 (by decide)) (h 15 (by decide)) (h 16 (by decide)) Cs 0 h3, ClM_fr (h 50 (by decide)) (h 52 (by decide)) (h 53 (by decide)) Cs 0 h4, h5, h6⟩
  · unfold lwB at *
    rw [h 2 (by decide)]
    exact h1
  · rw [h 2 (by decide), h 54 (by decide), h 55 (by decide), h 56 (by decide), h 57 (by decide)]
    exact h2
def Rru (w : zW) (r : Int) (Cs : List clau) : Prop := ClC w (6 + r) 0 Cs ∧ ClM w (6 + r) true 0 Cs ∧ (∀ C ∈ Cs, clT 10 C) ∧ Cs.length ≤ 12 ∧ ∀ C ∈ Cs, ∃ a, C.1 = [(0, a)] ∧ 0 ≤ a ∧ a ≤ 5
theorem Rru_fr {w w' : zW} {r : Int} {Cs : List clau} (h : ∀ c ∈ lwC, w' c = w c) (hR : Rru w r Cs) : Rru w' r Cs := by
  obtain ⟨h3, h4, h5⟩ := hR
  exact ⟨ClC_fr (h 1 (by decide)) (h 13 (by decide)) (h 14 (by decide)) (h 15 (by decide)) (h 16 (by decide)) Cs 0 h3, ClM_fr (h 50 (by decide)) (h 52 (by decide)) (h 53 (by decide)) Cs 0 h4, h5⟩
theorem openAt_eq {C R x y : Int} {f g : Int → Int} (hC : C ≤ 12) (hR : R ≤ 12) (h : eqC f g) : openAt C R f x y = openAt C R g x y := by
  unfold openAt
  by_cases q : 0 ≤ x ∧ 0 ≤ y ∧ x < C ∧ y < R
  · rw [h (y * 12 + x) (by omega) (by omega)]
  · rw [if_neg (fun z => q ⟨z.1, z.2.1, z.2.2.1, z.2.2.2.1⟩), if_neg (fun z => q ⟨z.1, z.2.1, z.2.2.1, z.2.2.2.1⟩)]
theorem nbr_eq {C R : Int} {f g : Int → Int} (hC : C ≤ 12) (hR : R ≤ 12) (h : eqC f g) (k : Int) : nbr C R f k = nbr C R g k := by
  unfold nbr
  rw [openAt_eq hC hR h, openAt_eq hC hR h, openAt_eq hC hR h, openAt_eq hC hR h]
theorem RW.wall {w : zW} {i : Int} (h : RW w i) : eqC (w 34 i) (md w i 1) := fun c c0 c1 => (h.2.2.2.2.1 c c0 c1).1.2.1
theorem RW.op {w : zW} {i : Int} (h : RW w i) {c : Nat} (hc : c < 144) : opw w i c ↔ opn (w 9 i 0) (w 9 i 1) (md w i 1) c := by
  show ((c : Int) % 12 < w 9 i 0 ∧ (c : Int) / 12 < w 9 i 1 ∧ w 34 i c = 0) ↔ ((c : Int) % 12 < w 9 i 0 ∧ (c : Int) / 12 < w 9 i 1 ∧ md w i 1 c = 0)
  rw [h.wall c (by omega) (by omega)]
theorem RW.nx {w : zW} {i : Int} (h : RW w i) : eqR (w 39 i) (nbr (w 9 i 0) (w 9 i 1) (md w i 1)) := fun k k0 k1 => by
  rw [h.2.2.2.2.2.2.2.1 k k0 k1]
  exact nbr_eq h.1.1.2 h.1.2.2 h.wall k
theorem RW.nxB {w : zW} {i : Int} (h : RW w i) : nxB (w 39 i) := fun k k0 k1 => by
  rw [h.nx k k0 k1]
  exact nbr_bd h.1.1.2 h.1.2.2 k k0 k1
theorem RW.nxP {w : zW} {i : Int} (h : RW w i) : nxP (opw w i) (w 39 i) := fun k k0 k1 => by
  rw [h.2.2.2.2.2.2.2.1 k k0 k1]
  exact nbr_P h.1.1.2 h.1.2.2 (fun c c0 c1 => (h.2.2.2.2.1 c c0 c1).2.2.1) k k0 k1
theorem RW.hm {w : zW} {i : Int} (h : RW w i) : hmB (w 37 i) := fun c c0 c1 => (h.2.2.2.2.1 c c0 c1).2.2.2.2.2
theorem RW.MS {w : zW} {i j : Int} (h : RW w i) (hi : w 70 0 0 = i) (h4 : 0 ≤ i ∧ i < 4) (hj : w 70 0 1 = j) (h6 : 0 ≤ j ∧ j < 6) : MS w i j (w 9 i 0) (w 9 i 1) (nbr (w 9 i 0) (w 9 i 1) (md w i 1)) := by
  have h1 := h.1
  exact ⟨hi, h4, hj, h6, h.2.1.1, by omega, h.2.1.2, by omega, rfl⟩
theorem RW.home {w : zW} {i : Int} (h : RW w i) : (0 ≤ w 9 i 2 ∧ w 9 i 2 < 144) ∧ w 9 i 2 % 12 = w 60 0 (12 + i) ∧ w 9 i 2 / 12 = w 61 0 (12 + i) := by
  have h1 := h.1
  have h2 := h.2.2.1
  omega
theorem RW.hop {w : zW} {i : Int} (h : RW w i) : opw w i (w 9 i 2) := by
  have h1 := h.home
  have h2 := h.2.2.1
  exact ⟨by omega, by omega, h.2.2.2.2.2.2.2.2⟩
theorem mA_eq {w : zW} {i e : Int} {Cs : List clau} (h : RW w i) {c : Int} (c0 : 0 ≤ c) (c1 : c < 144) : mA w i e Cs c = cA w i e Cs c := by
  obtain ⟨⟨q1, q2, q3, q4, q5, q6⟩, -⟩ := h.2.2.2.2.1 c c0 c1
  unfold mA cA ahd
  have : wds (md w i 0) (md w i 2) (md w i 3) (md w i 4) c e = wds (w 33 i) (w 35 i) (w 36 i) (w 37 i) c e := by
    funext k
    unfold wds
    rw [q1, q3, q4, q5]
  rw [this]
theorem Rlw.MG {w : zW} {i j e : Int} {Cs : List clau} (hW : RW w i) (hL : Rlw w j Cs) (hi : w 70 0 0 = i) (h4 : 0 ≤ i ∧ i < 4) (hj : w 70 0 1 = j) (h6 : 0 ≤ j ∧ j < 6) : MG w i j (w 9 i 0) (w 9 i 1) (w 2 j 1) e (nbr (w 9 i 0) (w 9 i 1) (md w i 1)) Cs :=
  ⟨hW.MS hi h4 hj h6, hL.2.1.1, hL.1.1.1, hL.2.2.2.1, hL.2.2.2.2.1, hL.2.2.2.2.2⟩
/-- the model goes as the class does -/
theorem m_act {d k1 : Nat} {b i j e kd x y : Int} {w : zW} {Cs : List clau} (hk : isW k1 b) (hW : RW w i) (hL : Rlw w j Cs) (hi : w 70 0 0 = i) (h4 : 0 ≤ i ∧ i < 4) (hj : w 70 0 1 = j) (h6 : 0 ≤ j ∧ j < 6) (hw : wO0 (opw w i) (wtM w k1 b)) (hkd : 0 ≤ kd ∧ kd ≤ 4) :
    ∃ w', M_does (d + 4) k1 b kd e w = some (0, w') ∧ mfk k1 b w w' ∧ eqR (wtM w' k1 b) (aW w i j Cs kd x y e (wtM w k1 b)) := by
  unfold aW
  have : kd = 0 ∨ kd = 4 ∨ (kd = 1 ∨ kd = 2 ∨ kd = 3) := by omega
  rcases this with rfl | rfl | h
  · obtain ⟨w', q1, q2, q3⟩ := m_go (d := d) (e := e) hk (Rlw.MG (e := e) hW hL hi h4 hj h6) hw.1 hw.2.2 (fun c hc ho => hw.2.1 c hc (fun z => ho ((hW.op hc).1 z)))
    refine ⟨w', q1, q2, fun k k0 k1' => ?_⟩
    rw [q3 k k0 k1', if_pos rfl]
    exact (goF_eqR (fun c hc => hW.op hc) (fun c hc _ => (mA_eq hW (by omega) (by omega)).symm) (fun _ _ _ => rfl) hW.nx (fun _ _ _ => rfl) 144 (by omega) k k0 k1').symm
  · refine ⟨w, ?_, ⟨fun _ _ _ _ _ _ => rfl, fun _ _ => rfl, fun _ _ => rfl⟩, fun _ _ _ => ?_⟩
    · rw [e_M_does, if_pos rfl]
    · rw [if_neg (by decide), if_neg (by decide), if_pos rfl]
  · obtain ⟨w', q1, q2, q3⟩ := m_turn (d := d + 3) (e := e) (act := kd) hk (by omega) rfl (wO0_B hw)
    refine ⟨w', q1, q2, fun k k0 k1' => ?_⟩
    rw [q3 k k0 k1', if_neg (by omega), if_pos (by omega)]
    have : rot (4 - trW kd) (wtM w k1 b) = rot (3 * tq kd) (wtM w k1 b) := rot_mod (by rcases h with rfl | rfl | rfl <;> decide) _
    rw [this]
def mkd (kd : Int) : Int := if kd = 5 then 8 else kd - 1
theorem m_loud {d : Nat} {i a : Int} {c : Nat} {w : zW} (hW : RW w i) (h4 : 0 ≤ i ∧ i < 4) (ha : 0 ≤ a ∧ a < w 9 i 3) (hc : c < 144) : M_loudAt (d + 1) i a c w = some (w 32 i (a * 144 + c), w) ∧ 0 ≤ w 32 i (a * 144 + c) ∧ w 32 i (a * 144 + c) ≤ 40 := by
  obtain ⟨s1, s2, s3⟩ := hW.2.2.2.1
  obtain ⟨q1, q2, q3, q4⟩ := hW.2.2.2.2.2.1 a ha.1 (by omega)
  rw [q4 c hc]
  refine ⟨m_loudAt h4 (by omega) (by omega) rfl rfl rfl (by omega) q2 q3, ?_⟩
  unfold lud
  omega
theorem sgB_of {w : zW} {i kd a b : Int} (hW : RW w i) (h : kd = 8 → (0 ≤ a ∧ a < w 9 i 3) ∧ 0 ≤ b ∧ b ≤ 40) : sgB w i kd a b := fun q => by
  obtain ⟨ha, hb⟩ := h q
  obtain ⟨s1, s2, s3⟩ := hW.2.2.2.1
  refine ⟨ha.1, ha.2, by omega, fun c hc => ?_, hb.1, hb.2⟩
  obtain ⟨q1, q2, q3, q4⟩ := hW.2.2.2.2.2.1 a ha.1 (by omega)
  rw [q4 c hc]
  unfold lud
  omega
theorem m_sgn {d k1 : Nat} {b i j e kd x y : Int} {w : zW} {Cs : List clau} (hk : isW k1 b) (hW : RW w i) (hL : Rlw w j Cs) (hi : w 70 0 0 = i) (h4 : 0 ≤ i ∧ i < 4) (hj : w 70 0 1 = j) (h6 : 0 ≤ j ∧ j < 6) (hw : wO0 (opw w i) (wtM w k1 b)) (hkd : 5 ≤ kd ∧ kd ≤ 8) (he : 0 ≤ e ∧ e ≤ 30) (hs : kd = 8 → (0 ≤ x ∧ x < w 9 i 3) ∧ 0 ≤ y ∧ y ≤ 40) :
    ∃ w', M_signs (d + 3) k1 b (mkd kd) x y e w = some (aS w i j kd x y e (wtM w k1 b), w') ∧ mfk k1 b w w' ∧ eqR (wtM w' k1 b) (aW w i j Cs kd x y e (wtM w k1 b)) := by
  have hm : mkd kd - 5 = ck kd ∧ 5 ≤ mkd kd ∧ mkd kd ≤ 8 ∧ (mkd kd = 7 ↔ kd = 8) := by
    unfold mkd ck
    by_cases q : kd = 5
    · rw [if_pos q, if_pos q]; omega
    · rw [if_neg q, if_neg q]; omega
  obtain ⟨l1, l2, l3, l4⟩ := hL.1
  have hch : ∀ c : Nat, c < 144 → chF (mkd kd - 5) x y (md w i 0) (md w i 2) (md w i 3) (fun c => w 32 i (x * 144 + c)) (w 2 j 2) (max 100 (w 2 j 3 * e / 30)) (w 2 j 4) c = eCh w i j kd x y e c := fun c hc => by
    obtain ⟨⟨q1, q2, q3, q4, q5, q6⟩, -⟩ := hW.2.2.2.2.1 c (by omega) (by omega)
    unfold eCh chF
    rw [hm.1, q1, q3, q4]
  obtain ⟨w', q1, q2, q3⟩ := m_signs (d := d + 2) (kd := mkd kd) (x := x) (y := y) (e := e) (w := w) (ch := eCh w i j kd x y e) hk (wO0_B hw) (fun c _ _ => eCh_bd hL.1 he c) (fun c X hc => by
    have hf : mfr w (z_row w 72 0 X) := mfr_72
    have hmd : ∀ k, md (z_row w 72 0 X) i k = md w i k := fun k => by
      unfold md
      rw [hf.1 64 (by decide) (by decide) (by decide) (by decide)]
    have hE : ∀ q ∈ wdC, (z_row w 72 0 X) q = w q := fun q hq => by
      funext s t
      exact row_c (by revert hq; revert q; decide)
    have h := m_chance (d := d) (i := i) (j := j) (kd := mkd kd) (e := e) (a := x) (b := y) (c := c) (feel := w 2 j 2) (see := w 2 j 3) (hear := w 2 j 4) (w := z_row w 72 0 X) (loud := fun c => w 32 i (x * 144 + c)) (MS_m (hW.MS hi h4 hj h6) hf) hc ⟨hm.2.1, hm.2.2.1⟩ ((row_c (by decide)).trans hL.2.1.2.1) ((row_c (by decide)).trans hL.2.1.2.2.1) ((row_c (by decide)).trans hL.2.1.2.2.2) l2 l3 l4 he (fun q => by
      obtain ⟨s1, s2, s3⟩ := hs (hm.2.2.2.1 q)
      have hml := m_loud (d := d) (a := x) (c := c) (RW_fr hE hW) h4 (by rw [hE 9 (by decide)]; exact s1) hc
      rw [hE 32 (by decide)] at hml
      exact ⟨hml.1, hml.2.1, hml.2.2, s2, s3⟩)
    rw [hmd, hmd, hmd, hch c hc] at h
    exact h)
  refine ⟨w', ?_, q2, fun k k0 k1' => ?_⟩
  · rw [q1]
    unfold aS
    rw [if_neg (show ¬ kd ≤ 4 by omega)]
  · rw [q3 k k0 k1']
    unfold aW
    rw [if_neg (show ¬ kd = 0 by omega), if_neg (show ¬ kd ≤ 3 by omega), if_neg (show ¬ kd = 4 by omega)]
