/-! the model's does: all cells, and back into the weights -/
def mfk (k : Nat) (b : Int) (w w' : zW) : Prop := (∀ c, c ≠ 11 → c ≠ 68 → c ≠ 69 → c ≠ 72 → c ≠ k → w' c = w c) ∧ (∀ s, s ≠ 30 → w' 11 0 s = w 11 0 s) ∧ ∀ s, ¬ (b ≤ s ∧ s < b + 576) → w' k 0 s = w k 0 s
theorem m_does_6 {d k1 : Nat} {b i j C R dr e : Int} {nx X0 : Int → Int} {w : zW} {Cs : List clau} (hk : isW k1 b) (h : MG w i j C R dr e nx Cs) (hf : ∀ k, 0 ≤ k → k < 576 → 0 ≤ wtM w k1 b k) (hT : tot (wtM w k1 b) ≤ 1000000000) (hC : ∀ c : Nat, c < 144 → ¬ opn C R (md w i 1) c → ∀ k, 4 * (c : Int) ≤ k → k < 4 * (c : Int) + 4 → wtM w k1 b k = 0) (h0 : okX X0 0) : ∀ (m n : Nat) (w' : zW), n + m = 144 → mfr w w' →
    ∃ w'', mfr w w'' ∧ M_does_6 (d + 4) k1 b 0 e n (z_row w' 72 0 (goF (opn C R (md w i 1)) (wtM w k1 b) nx (mA w i e Cs) dr X0 n)) = M_does_19 (d + 4) k1 b 0 (z_row w'' 72 0 (goF (opn C R (md w i 1)) (wtM w k1 b) nx (mA w i e Cs) dr X0 144)) := by
  have hn : nxB nx := by
    have hb := nbr_bd (C := C) (R := R) (wall := md w i 1) h.1.2.2.2.2.2.1.2 h.1.2.2.2.2.2.2.2.1.2
    rw [← h.1.2.2.2.2.2.2.2.2] at hb
    exact hb
  intro m
  induction m with
  | zero =>
    intro n w' hm hfr
    refine ⟨w', hfr, ?_⟩
    rw [e_M_does_6, if_pos (by omega), show n = 144 by omega]
  | succ m ih =>
    intro n w' hm hfr
    have hok := goF_ok (P := opn C R (md w i 1)) (F := wtM w k1 b) (nx := nx) (A := mA w i e Cs) (dr := dr) h0 hn hf (fun c _ _ => ahd_bd) h.2.2.1 hC n (by omega)
    obtain ⟨w2, q1, q2⟩ := m_does_8 (d := d) hk h hf hT (c := n) (by omega) 4 0 w' _ (-1) rfl hfr (Or.inl rfl) hok
    rw [e_M_does_6, if_neg (by omega)]
    have hs : go4 (wtM w k1 b) nx (mA w i e Cs n) (drf dr (mA w i e Cs n)) n 4 0 (goF (opn C R (md w i 1)) (wtM w k1 b) nx (mA w i e Cs) dr X0 n) = goF (opn C R (md w i 1)) (wtM w k1 b) nx (mA w i e Cs) dr X0 (n + 1) := by
      show _ = if opn C R (md w i 1) n then _ else _
      by_cases hp : opn C R (md w i 1) n
      · rw [if_pos hp]
      · rw [if_neg hp]
        exact go4_0 (hC n (by omega) hp) 4 0 _ (by omega) (by omega)
    rw [show ((0 : Nat) : Int) = 0 from rfl, hs] at q2
    rw [q2]
    exact ih (n + 1) w2 (by omega) q1
def cbF (F G : Int → Int) (b n : Int) : Int → Int := fun s => if b ≤ s ∧ s < b + n then G (s - b) else F s
theorem cbF_0 {F G : Int → Int} {b : Int} : cbF F G b 0 = F := by
  funext s
  unfold cbF
  rw [if_neg (by omega)]
theorem cbF_up {F G : Int → Int} {b n : Int} (hn : 0 ≤ n) : upF (cbF F G b n) (b + n) (G n) = cbF F G b (n + 1) := by
  funext s
  unfold upF cbF
  by_cases h1 : s = b + n
  · rw [if_pos h1, if_pos (by omega), show s - b = n by omega]
  · rw [if_neg h1]
    by_cases h2 : b ≤ s ∧ s < b + n
    · rw [if_pos h2, if_pos (by omega)]
    · rw [if_neg h2, if_neg (by omega)]
theorem m_does_19 {d k1 : Nat} {b : Int} {w : zW} (hk : isW k1 b) : ∀ m n : Nat, n + m = 576 →
    M_does_19 d k1 b n (z_row w k1 0 (cbF (w k1 0) (w 72 0) b n)) = some (0, z_row w k1 0 (cbF (w k1 0) (w 72 0) b 576)) := by
  obtain ⟨hz, hl, hb0, hb6⟩ := isW_kd hk
  have h72 : 72 ≠ k1 := by rcases hk with ⟨rfl, -⟩ | ⟨rfl, -⟩ <;> decide
  intro m
  induction m with
  | zero =>
    intro n hn
    rw [e_M_does_19, if_pos (by omega), show (n : Int) = 576 by omega]
  | succ m ih =>
    intro n hn
    rw [e_M_does_19, if_neg (by omega), gd_t (by omega), gd_t (by omega), gd_t ⟨hz, by omega, by omega⟩, gd_t (by omega), row_up, row_c h72, cbF_up (by omega)]
    exact ih (n + 1) (by omega)
theorem m_does_3 {d k1 : Nat} {b act e : Int} {w : zW} : ∀ m n : Nat, n + m = 576 →
    M_does_3 d k1 b act e n (z_row w 72 0 (flF (w 72 0) 0 n 0)) = M_does_6 d k1 b act e 0 (z_row w 72 0 (flF (w 72 0) 0 576 0)) := by
  intro m
  induction m with
  | zero =>
    intro n hn
    rw [e_M_does_3, if_pos (by omega), show (n : Int) = 576 by omega]
  | succ m ih =>
    intro n hn
    rw [e_M_does_3, if_neg (by omega), gd_t (by omega), gd_t (by omega), row_up, flF_up (by omega)]
    exact ih (n + 1) (by omega)
theorem okX_fl {F : Int → Int} : okX (flF F 0 576 0) 0 := by
  have hq : eqR (flF F 0 576 0) (fun _ => 0) := fun k h0 h1 => if_pos ⟨h0, h1⟩
  refine ⟨fun k h0 h1 => by rw [hq k h0 h1]; exact Int.le_refl 0, ?_⟩
  exact (sm_congr (f := flF F 0 576 0) (g := fun _ => 0) fun k hk => hq k (by omega) (by omega)).trans sm_zero
/-- what lies behind: all cells done, the new weights in 72 -/
theorem m_back {d k1 : Nat} {b : Int} {w w'' : zW} {G : Int → Int} (hk : isW k1 b) (hfr : mfr w w'') : ∃ w', M_does_19 d k1 b 0 (z_row w'' 72 0 G) = some (0, w') ∧ mfk k1 b w w' ∧ eqR (wtM w' k1 b) G := by
  have h72 : k1 ≠ 72 := by rcases hk with ⟨rfl, -⟩ | ⟨rfl, -⟩ <;> decide
  have h11 : 11 ≠ k1 := by rcases hk with ⟨rfl, -⟩ | ⟨rfl, -⟩ <;> decide
  have h := m_does_19 (d := d) (w := z_row w'' 72 0 G) hk 576 0 rfl
  rw [show ((0 : Nat) : Int) = 0 from rfl, cbF_0, row_self] at h
  have hf2 : mfr w (z_row w'' 72 0 G) := mfr_tr hfr mfr_72
  refine ⟨_, h, ⟨fun c a1 a2 a3 a4 a5 => ?_, fun s hs => ?_, fun s hs => ?_⟩, fun k h0 h1 => ?_⟩
  · have : (z_row (z_row w'' 72 0 G) k1 0 (cbF ((z_row w'' 72 0 G) k1 0) ((z_row w'' 72 0 G) 72 0) b 576)) c = (z_row w'' 72 0 G) c := by funext i s; exact row_c a5
    rw [this]
    exact hf2.1 c a1 a2 a3 a4
  · rw [row_c h11]
    exact hf2.2 s hs
  · rw [row_h]
    unfold cbF
    rw [if_neg hs, isW_fr hk hf2]
  · unfold wtM
    rw [row_h]
    unfold cbF
    rw [if_pos (by omega), row_h, show b + k - b = k by omega]
theorem m_go {d k1 : Nat} {b i j C R dr e : Int} {nx : Int → Int} {w : zW} {Cs : List clau} (hk : isW k1 b) (h : MG w i j C R dr e nx Cs) (hf : ∀ k, 0 ≤ k → k < 576 → 0 ≤ wtM w k1 b k) (hT : tot (wtM w k1 b) ≤ 1000000000) (hC : ∀ c : Nat, c < 144 → ¬ opn C R (md w i 1) c → ∀ k, 4 * (c : Int) ≤ k → k < 4 * (c : Int) + 4 → wtM w k1 b k = 0) :
    ∃ w', M_does (d + 4) k1 b 0 e w = some (0, w') ∧ mfk k1 b w w' ∧ eqR (wtM w' k1 b) (goF (opn C R (md w i 1)) (wtM w k1 b) nx (mA w i e Cs) dr (fun _ => 0) 144) := by
  have h3 := m_does_3 (d := d + 4) (k1 := k1) (b := b) (act := 0) (e := e) (w := w) 576 0 rfl
  rw [show ((0 : Nat) : Int) = 0 from rfl, flF_0, row_self] at h3
  obtain ⟨w2, q1, q2⟩ := m_does_6 (d := d) (X0 := flF (w 72 0) 0 576 0) hk h hf hT hC okX_fl 144 0 w rfl (mfr_rf w)
  obtain ⟨w', r1, r2, r3⟩ := m_back (d := d + 4) (G := goF (opn C R (md w i 1)) (wtM w k1 b) nx (mA w i e Cs) dr (flF (w 72 0) 0 576 0) 144) hk q1
  refine ⟨w', ?_, r2, fun k k0 k1' => ?_⟩
  · rw [e_M_does, if_neg (by decide), h3]
    exact q2.trans r1
  · rw [r3 k k0 k1']
    exact goF_eqR (fun c _ => Iff.rfl) (fun c _ _ => rfl) (fun k _ _ => rfl) (fun k _ _ => rfl) (fun k h0 h1 => if_pos ⟨h0, h1⟩) 144 (by omega) k k0 k1'
