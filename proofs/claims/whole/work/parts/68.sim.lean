/-! THE WHOLE RELATION: the class's object and the model's, side by side -/
/-- a kind of the model's, as the class writes it -/
def dk (m : Int) : Int := if m ≤ 4 then m else if m = 8 then 5 else m + 1
def RD (w : zW) (s : Int) (G : Int → Int) : Prop := ∀ k, 0 ≤ k → k < G 2 → (0 ≤ G (582 + 4 * k) ∧ G (582 + 4 * k) ≤ 8) ∧ (0 ≤ G (582 + 4 * k + 1) ∧ G (582 + 4 * k + 1) ≤ 40) ∧ (0 ≤ G (582 + 4 * k + 2) ∧ G (582 + 4 * k + 2) ≤ 40) ∧ (G (582 + 4 * k) = 7 → G (582 + 4 * k + 1) < w 9 (G 0) 3) ∧ w 29 s k = dk (G (582 + 4 * k)) + 256 * G (582 + 4 * k + 1) + 65536 * G (582 + 4 * k + 2) ∧ w 30 s k = G (582 + 4 * k + 3)
def RB (w : zW) (s : Int) (G : Int → Int) : Prop := w 8 s 1 = 1 ∧ (w 8 s 2 = G 0 ∧ 0 ≤ G 0 ∧ G 0 < w 10 0 4) ∧ (w 8 s 3 = G 1 ∧ 0 ≤ G 1 ∧ G 1 < w 10 0 5) ∧ (w 8 s 4 = G 1390 ∧ w 8 s 5 = G 1391 ∧ (0 ≤ G 1390 ∧ G 1390 < 144) ∧ opw w (G 0) (G 1390) ∧ 0 ≤ G 1391 ∧ G 1391 < 4) ∧ (w 8 s 6 = G 2 ∧ 0 ≤ G 2 ∧ G 2 ≤ 200) ∧ (w 4 s 1 = G 3 ∧ 0 ≤ G 3 ∧ G 3 ≤ 200) ∧ (w 4 s 2 = G 4 ∧ 0 ≤ G 4 ∧ G 4 ≤ 9) ∧ (w 4 s 3 = G 5 ∧ 0 ≤ G 5 ∧ G 5 ≤ 30) ∧ eqR (w 19 s) (fun k => G (6 + k)) ∧ wOK (opw w (G 0)) (w 19 s) ∧ G 3 ≤ G 2 ∧ RD w s G
def RP (w : zW) (s : Int) (G : Int → Int) : Prop := ∀ k, 0 ≤ k → k < 8 → w 31 s k = G (1382 + k) ∧ -1 ≤ w 31 s k ∧ w 31 s k < 144
def RS (w : zW) (s : Int) (G : Int → Int) : Prop := RP w s G ∧ ((w 8 s 1 = 0 ∧ G 0 = -1 ∧ w 8 s 6 = 0) ∨ RB w s G)
def im (w : zW) (k : Int) : Int → Int := fun x => w 77 0 (1392 * k + x)
def RT (w : zW) : Prop := (0 ≤ w 5 0 1 ∧ w 5 0 1 ≤ 400) ∧ w 11 0 1 = w 5 0 1 ∧ ∀ k, 0 ≤ k → k < w 5 0 1 → (0 ≤ w 20 0 k ∧ w 20 0 k ≤ 255) ∧ w 48 0 k = z_w8 (w 20 0 k)
def Sim (LS RX : Int → List clau) (w : zW) : Prop := RT w ∧ ((w 49 0 0 = w 10 0 4 ∧ 0 ≤ w 10 0 4 ∧ w 10 0 4 ≤ 4) ∧ (w 49 0 1 = w 10 0 5 ∧ 0 ≤ w 10 0 5 ∧ w 10 0 5 ≤ 6) ∧ w 49 0 2 = w 10 0 6 ∧ 0 ≤ w 10 0 6 ∧ w 10 0 6 ≤ 6) ∧
  (∀ i, 0 ≤ i → i < w 10 0 4 → RW w i) ∧ (∀ i, 0 ≤ i → i < 4 → w 9 i 0 ≤ 12 ∧ w 9 i 1 ≤ 12) ∧ (∀ j, 0 ≤ j → j < w 10 0 5 → Rlw w j (LS j)) ∧ (∀ r, 0 ≤ r → r < w 10 0 6 → Rru w r (RX r)) ∧
  ((0 ≤ w 7 0 0 ∧ w 7 0 0 < 4) ∧ 0 ≤ w 7 0 1 ∧ w 7 0 1 < 6) ∧ RS w 0 (w 70 0) ∧ (w 8 0 1 = 1 → w 7 0 0 = w 70 0 0 ∧ w 7 0 1 = w 70 0 1 ∧ RC w (w 7 0 0) (LS (w 7 0 1))) ∧
  ∀ k, 0 ≤ k → k < 4 → isB (w 8 (1 + k) 0) ∧ w 78 0 k = w 8 (1 + k) 0 ∧ (w 8 (1 + k) 0 = 1 → RS w (1 + k) (im w k))
section
variable {LS RX : Int → List clau} {w : zW}
theorem Sim.tape (h : Sim LS RX w) : RT w := h.1
theorem Sim.cnt (h : Sim LS RX w) : (w 49 0 0 = w 10 0 4 ∧ 0 ≤ w 10 0 4 ∧ w 10 0 4 ≤ 4) ∧ (w 49 0 1 = w 10 0 5 ∧ 0 ≤ w 10 0 5 ∧ w 10 0 5 ≤ 6) ∧ w 49 0 2 = w 10 0 6 ∧ 0 ≤ w 10 0 6 ∧ w 10 0 6 ≤ 6 := h.2.1
theorem Sim.wood (h : Sim LS RX w) {i : Int} (h0 : 0 ≤ i) (h1 : i < w 10 0 4) : RW w i := h.2.2.1 i h0 h1
theorem Sim.cols (h : Sim LS RX w) {i : Int} (h0 : 0 ≤ i) (h1 : i < 4) : w 9 i 0 ≤ 12 ∧ w 9 i 1 ≤ 12 := h.2.2.2.1 i h0 h1
theorem Sim.law (h : Sim LS RX w) {j : Int} (h0 : 0 ≤ j) (h1 : j < w 10 0 5) : Rlw w j (LS j) := h.2.2.2.2.1 j h0 h1
theorem Sim.rule (h : Sim LS RX w) {r : Int} (h0 : 0 ≤ r) (h1 : r < w 10 0 6) : Rru w r (RX r) := h.2.2.2.2.2.1 r h0 h1
theorem Sim.set (h : Sim LS RX w) : (0 ≤ w 7 0 0 ∧ w 7 0 0 < 4) ∧ 0 ≤ w 7 0 1 ∧ w 7 0 1 < 6 := h.2.2.2.2.2.2.1
theorem Sim.now (h : Sim LS RX w) : RS w 0 (w 70 0) := h.2.2.2.2.2.2.2.1
theorem Sim.rdy (h : Sim LS RX w) : w 8 0 1 = 1 → w 7 0 0 = w 70 0 0 ∧ w 7 0 1 = w 70 0 1 ∧ RC w (w 7 0 0) (LS (w 7 0 1)) := h.2.2.2.2.2.2.2.2.1
theorem Sim.img (h : Sim LS RX w) {k : Int} (h0 : 0 ≤ k) (h1 : k < 4) : isB (w 8 (1 + k) 0) ∧ w 78 0 k = w 8 (1 + k) 0 ∧ (w 8 (1 + k) 0 = 1 → RS w (1 + k) (im w k)) := h.2.2.2.2.2.2.2.2.2 k h0 h1
theorem Sim.bgn (h : Sim LS RX w) : (w 8 0 1 = 0 ∧ w 70 0 0 = -1 ∧ w 8 0 6 = 0) ∨ (w 8 0 1 = 1 ∧ RB w 0 (w 70 0) ∧ ENV w (w 7 0 0) (w 7 0 1) (LS (w 7 0 1))) := by
  rcases h.now.2 with q | q
  · exact Or.inl q
  · have hb := q.1
    obtain ⟨h1, h2, h3⟩ := h.rdy hb
    have hc := h.cnt
    have hi := q.2.1.2
    have hj := q.2.2.1.2
    have hW := h.wood (i := w 7 0 0) (by omega) (by omega)
    have hL := h.law (j := w 7 0 1) (by omega) (by omega)
    refine Or.inr ⟨hb, q, ⟨⟨rfl, rfl⟩, hW.2.2.2.2.2.2.1, hL.1, hL.2.2.1, hL.2.2.2.2.1, hL.2.2.2.2.2, hW.nxB, hW.nxP, hW.hm, h3⟩, hW, hL, ⟨h1.symm, h2.symm⟩, ?_, ?_, ?_⟩
    · omega
    · omega
    · omega
end
/-- the model's weights of the walk are the class's -/
theorem RB.wt {w : zW} (h : RB w 0 (w 70 0)) : eqR (w 19 0) (wtM w 70 6) ∧ wOK (opw w (w 70 0 0)) (wtM w 70 6) := by
  obtain ⟨b1, b2, b3, b4, b5, b6, b7, b8, b9, b10, b11⟩ := h
  exact ⟨b9, wOK_eq b10 (fun k k0 k1 => (b9 k k0 k1).symm)⟩
/-- what a question may touch -/
abbrev smC : List Nat := [1, 2, 5, 7, 8, 9, 10, 13, 14, 15, 16, 20, 29, 30, 31, 32, 33, 34, 35, 36, 37, 38, 39, 40, 48, 49, 50, 52, 53, 54, 55, 56, 57, 58, 59, 60, 61, 62, 63, 64, 70, 77, 78]
theorem RS_fr {w w' : zW} {s : Int} {G : Int → Int} (h : ∀ c ∈ smC, w' c = w c) (hs : w' 4 s = w 4 s ∧ w' 19 s = w 19 s) (hR : RS w s G) : RS w' s G := by
  have e9 := h 9 (by decide)
  have e34 := h 34 (by decide)
  unfold RS RP RB RD opw at *
  rw [e9, h 8 (by decide), h 10 (by decide), h 29 (by decide), h 30 (by decide), h 31 (by decide), e34, hs.1, hs.2]
  exact hR
theorem Sim_ask {LS RX : Int → List clau} {w w' : zW} (h : ∀ c ∈ smC, w' c = w c) (hs : ∀ s, s < 5 → w' 4 s = w 4 s ∧ w' 19 s = w 19 s) (h11 : w' 11 0 1 = w 11 0 1) (hR : w 8 0 1 = 1 → RC w' (w 7 0 0) (LS (w 7 0 1))) (hS : Sim LS RX w) : Sim LS RX w' := by
  have e7 := h 7 (by decide)
  have e8 := h 8 (by decide)
  have e9 := h 9 (by decide)
  have e10 := h 10 (by decide)
  have e49 := h 49 (by decide)
  have e5 := h 5 (by decide)
  have e20 := h 20 (by decide)
  have e48 := h 48 (by decide)
  have e70 := h 70 (by decide)
  have e77 := h 77 (by decide)
  have e78 := h 78 (by decide)
  refine ⟨?_, by rw [e49, e10]; exact hS.cnt, fun i i0 i1 => RW_fr (fun c hc => h c (by revert hc; revert c; decide)) (hS.wood i0 (by rw [e10] at i1; exact i1)), fun i i0 i1 => by rw [e9]; exact hS.cols i0 i1, fun j j0 j1 => Rlw_fr (fun c hc => h c (by revert hc; revert c; decide)) (hS.law j0 (by rw [e10] at j1; exact j1)), fun r r0 r1 => Rru_fr (fun c hc => h c (by revert hc; revert c; decide)) (hS.rule r0 (by rw [e10] at r1; exact r1)), by rw [e7]; exact hS.set, ?_, ?_, fun k k0 k1 => ?_⟩
  · have := hS.tape
    unfold RT at *
    rw [e5, h11, e20, e48]
    exact this
  · rw [e70]
    exact RS_fr h (hs 0 (by omega)) hS.now
  · rw [e8, e7, e70]
    exact fun q => ⟨(hS.rdy q).1, (hS.rdy q).2.1, hR q⟩
  · obtain ⟨a1, a2, a3⟩ := hS.img k0 k1
    rw [e8, e78]
    refine ⟨a1, a2, fun q => ?_⟩
    have hi : im w' k = im w k := by unfold im; rw [e77]
    rw [hi]
    exact RS_fr h (hs (1 + k) (by omega)) (a3 q)
