/-! the model's does: going -/
theorem go1_m {F nx : Int → Int} {a dd c v : Int} {X : Int → Int} : inc (inc (inc (inc X (come nx c v v) (F (4 * c + v) * a / 1000)) (come nx c v ((v + 3) % 4)) (F (4 * c + v) * dd / 1000)) (come nx c v ((v + 1) % 4)) (F (4 * c + v) * dd / 1000)) (4 * c + v) (F (4 * c + v) - F (4 * c + v) * a / 1000 - 2 * (F (4 * c + v) * dd / 1000)) = go1 F nx a dd c v X := by
  unfold go1
  rw [inc_comm _ (come nx c v ((v + 1) % 4)), inc_comm _ (come nx c v ((v + 3) % 4)), inc_comm _ (come nx c v v)]
theorem m_does_15 {d k1 : Nat} {b i j C R e a dr c v B : Int} {nx X F : Int → Int} {w : zW} (h : MS w i j C R nx) (hdr : w 54 0 j = dr) (hd : 0 ≤ dr) (hc : 0 ≤ c ∧ c < 144) (hv : 0 ≤ v ∧ v < 4) (ha : 0 ≤ a ∧ a ≤ 1000) (hX : okX X B) (hf : 0 ≤ F (4 * c + v)) (hB : B + F (4 * c + v) ≤ 1000000000) :
    M_does_15 (d + 4) k1 b 0 e c a v (F (4 * c + v)) (z_row w 72 0 X) = M_does_8 (d + 4) k1 b 0 e c a (v + 1) (z_row w 72 0 (go1 F nx a (drf dr a) c v X)) := by
  have h' : MS (z_row w 72 0 X) i j C R nx := MS_m h mfr_72
  have hn : nxB nx := by
    have hb := nbr_bd (C := C) (R := R) (wall := md w i 1) h.2.2.2.2.2.1.2 h.2.2.2.2.2.2.2.1.2
    rw [← h.2.2.2.2.2.2.2.2] at hb
    exact hb
  have had := drf_ad hd ha
  have hnn := ok_nn hX
  obtain ⟨k1', k2, k3, k4, k5, k6, k7⟩ := parts_bd hf had
  have c1 := come_bd hn (c := c) (way := v) (along := v) hc hv hv
  have c2 := come_bd hn (c := c) (way := v) (along := (v + 3) % 4) hc hv (by omega)
  have c3 := come_bd hn (c := c) (way := v) (along := (v + 1) % 4) hc hv (by omega)
  have e1 := inc_ok hX c1 k5
  have e2 := inc_ok e1 c2 k6
  have e3 := inc_ok e2 c3 k6
  have b0 := ok_le hX c1.1 c1.2
  have b1 := ok_le e1 c2.1 c2.2
  have b2 := ok_le e2 c3.1 c3.2
  have b3 := ok_le e3 (k := 4 * c + v) (by omega) (by omega)
  rw [e_M_does_15, gd_t (by omega), gd_t (by omega), gd_t (by omega), m_driftBy (dr := dr) h' ha (by rw [row_c (by decide)]; exact hdr), bnd]
  dsimp only
  rw [gd_t (by omega), gd_t (by omega), gd_t (by omega), m_comes h hc hv hv (by omega), bnd]
  dsimp only
  rw [gd_t (by omega), gd_t (by omega), m_comes h hc (by omega) hv (by omega), bnd]
  dsimp only
  rw [gd_t (by omega), gd_t (by omega), m_comes h hc (by omega) hv (by omega), bnd]
  dsimp only
  simp only [row_h]
  rw [gd_t (by omega), gd_t (by omega), gd_t (by omega), gd_t (by omega), gd_t (by omega), gd_t (by omega), gd_t (by omega), gd_t (by omega), gd_t (by omega), up_inc, go1_m]
abbrev isW (k : Nat) (b : Int) : Prop := (k = 70 ∧ b = 6) ∨ (k = 71 ∧ b = 0)
theorem isW_kd {k : Nat} {b : Int} (h : isW k b) : z_kd k = 1 ∧ b + 576 ≤ z_ln k ∧ 0 ≤ b ∧ b ≤ 6 := by
  rcases h with ⟨rfl, rfl⟩ | ⟨rfl, rfl⟩ <;> decide
theorem isW_fr {w w' : zW} {k : Nat} {b : Int} (h : isW k b) (hf : mfr w w') : w' k = w k := by
  rcases h with ⟨rfl, -⟩ | ⟨rfl, -⟩ <;> exact hf.1 _ (by decide) (by decide) (by decide) (by decide)
/-- what the model's weights go by -/
def MG (w : zW) (i j C R dr e : Int) (nx : Int → Int) (Cs : List clau) : Prop := MS w i j C R nx ∧ w 54 0 j = dr ∧ 0 ≤ dr ∧ ClM w j false 0 Cs ∧ (∀ C ∈ Cs, clT 5 C) ∧ Cs.length ≤ 12
def mA (w : zW) (i e : Int) (Cs : List clau) : Int → Int := fun c => ahd (md w i 0) (md w i 2) (md w i 3) (md w i 4) Cs c e
theorem mA_fr {w w' : zW} {i e : Int} {Cs : List clau} (h : w' 64 = w 64) : mA w' i e Cs = mA w i e Cs := by
  unfold mA md
  rw [h]
theorem MG_m {w w' : zW} {i j C R dr e : Int} {nx : Int → Int} {Cs : List clau} (h : MG w i j C R dr e nx Cs) (hf : mfr w w') : MG w' i j C R dr e nx Cs := by
  obtain ⟨h1, h2, h3, h4, h5, h6⟩ := h
  refine ⟨MS_m h1 hf, by rw [hf.1 54 (by decide) (by decide) (by decide) (by decide)]; exact h2, h3, ?_, h5, h6⟩
  exact ClM_fr (hf.1 50 (by decide) (by decide) (by decide) (by decide)) (hf.1 52 (by decide) (by decide) (by decide) (by decide)) (hf.1 53 (by decide) (by decide) (by decide) (by decide)) Cs 0 h4
theorem m_does_8 {d k1 : Nat} {b i j C R dr e : Int} {nx : Int → Int} {w : zW} {Cs : List clau} (hk : isW k1 b) (h : MG w i j C R dr e nx Cs) (hf : ∀ k, 0 ≤ k → k < 576 → 0 ≤ wtM w k1 b k) (hT : tot (wtM w k1 b) ≤ 1000000000) {c : Nat} (hc : c < 144) : ∀ (m v : Nat) (w' : zW) (X : Int → Int) (l6 : Int), v + m = 4 → mfr w w' → (l6 = -1 ∨ l6 = mA w i e Cs c) → okX X (sm (wtM w k1 b) (4 * c + v)) →
    ∃ w'', mfr w w'' ∧ M_does_8 (d + 4) k1 b 0 e c l6 v (z_row w' 72 0 X) = M_does_6 (d + 4) k1 b 0 e (c + 1) (z_row w'' 72 0 (go4 (wtM w k1 b) nx (mA w i e Cs c) (drf dr (mA w i e Cs c)) c m v X)) := by
  obtain ⟨hz, hl, hb0, hb6⟩ := isW_kd hk
  intro m
  induction m with
  | zero =>
    intro v w' X l6 hv hfr hl6 hX
    refine ⟨w', hfr, ?_⟩
    rw [e_M_does_8, if_pos (by omega), gd_t (by omega)]
    rfl
  | succ m ih =>
    intro v w' X l6 hv hfr hl6 hX
    have hF := hf (4 * (c : Int) + v) (by omega) (by omega)
    have hs : sm (wtM w k1 b) (4 * c + (v + 1)) = sm (wtM w k1 b) (4 * c + v) + wtM w k1 b (4 * (c : Int) + v) := by
      show sm (wtM w k1 b) (4 * c + v) + wtM w k1 b ((4 * c + v : Nat) : Int) = _
      rw [show ((4 * c + v : Nat) : Int) = 4 * (c : Int) + v by omega]
    have hle : sm (wtM w k1 b) (4 * c + (v + 1)) ≤ tot (wtM w k1 b) := sm_mono (fun j hj => hf j (by omega) (by omega)) (by omega)
    have hn : nxB nx := by
      have hb := nbr_bd (C := C) (R := R) (wall := md w i 1) h.1.2.2.2.2.2.1.2 h.1.2.2.2.2.2.2.2.1.2
      rw [← h.1.2.2.2.2.2.2.2.2] at hb
      exact hb
    have hA : 0 ≤ mA w i e Cs c ∧ mA w i e Cs c ≤ 1000 := ahd_bd
    have hok := go1_ok (F := wtM w k1 b) (c := (c : Int)) (v := (v : Int)) hX hn (by omega) (by omega) hF (drf_ad h.2.2.1 hA)
    rw [← hs] at hok
    have hr : ∀ (w' : zW) (X : Int → Int), mfr w w' → (z_row w' 72 0 X) k1 0 ((b + 4 * (c : Int)) + v) = wtM w k1 b (4 * (c : Int) + v) := fun w' X hf' => by
      rw [isW_fr hk (mfr_tr hf' mfr_72)]
      unfold wtM
      rw [show b + 4 * (c : Int) + v = b + (4 * (c : Int) + v) by omega]
    rw [e_M_does_8, if_neg (by omega), gd_t (by omega), gd_t (by omega), gd_t (by omega), gd_t ⟨hz, by omega, by omega⟩]
    simp only [hr w' X hfr]
    by_cases h0 : wtM w k1 b (4 * (c : Int) + v) = 0
    · rw [if_pos h0, gd_t (by omega)]
      obtain ⟨w'', q1, q2⟩ := ih (v + 1) w' X l6 (by omega) hfr hl6 (by rw [hs, h0]; simpa using hX)
      refine ⟨w'', q1, ?_⟩
      rw [show (v : Int) + 1 = ((v + 1 : Nat) : Int) by omega, q2]
      show _ = M_does_6 (d + 4) k1 b 0 e (c + 1) (z_row w'' 72 0 (go4 _ nx _ _ c m ((v : Int) + 1) (go1 _ nx _ _ c v X)))
      rw [go1_0 h0]
      rfl
    · have h15 : ∀ w2 : zW, mfr w w2 → ∃ w'', mfr w w'' ∧ M_does_15 (d + 4) k1 b 0 e c (mA w i e Cs c) v (wtM w k1 b (4 * (c : Int) + v)) (z_row w2 72 0 X) = M_does_6 (d + 4) k1 b 0 e (c + 1) (z_row w'' 72 0 (go4 (wtM w k1 b) nx (mA w i e Cs c) (drf dr (mA w i e Cs c)) c (m + 1) v X)) := fun w2 hw2 => by
        have hG := MG_m h hw2
        rw [m_does_15 hG.1 hG.2.1 hG.2.2.1 (by omega) (by omega) hA hX hF (by omega)]
        obtain ⟨w'', q1, q2⟩ := ih (v + 1) w2 _ _ (by omega) hw2 (Or.inr rfl) hok
        exact ⟨w'', q1, q2⟩
      rw [if_neg h0, if_pos (by decide)]
      have hB := hA
      rcases hl6 with rfl | rfl
      · rw [if_neg (by decide)]
        have hG := MG_m (MG_m h hfr) (mfr_72 (X := X))
        obtain ⟨w2, q1, q2, q3⟩ := m_stepAt (d := d) (e := e) (c := (c : Int)) hG.1.1 hG.1.2.1 hG.1.2.2.1 hG.1.2.2.2.1 (by omega) hG.2.2.2.1 hG.2.2.2.2.1 hG.2.2.2.2.2
        have hA2 : ahd (md (z_row w' 72 0 X) i 0) (md (z_row w' 72 0 X) i 2) (md (z_row w' 72 0 X) i 3) (md (z_row w' 72 0 X) i 4) Cs c e = mA w i e Cs c := by
          have := mA_fr (w := w) (w' := z_row w' 72 0 X) (i := i) (e := e) (Cs := Cs) ((mfr_tr hfr mfr_72).1 64 (by decide) (by decide) (by decide) (by decide))
          exact congrFun this c
        rw [q1, bnd]
        dsimp only
        rw [hA2]
        have hw2 : mfr w w2 := mfr_tr (mfr_tr hfr mfr_72) q2
        have he : z_row w2 72 0 X = w2 := by
          have h72 : w2 72 0 = X := by rw [q3]; funext s; exact row_h s
          have := row_self w2 72 0
          rw [h72] at this
          exact this
        obtain ⟨w'', r1, r2⟩ := h15 w2 hw2
        rw [he] at r2
        exact ⟨w'', r1, r2⟩
      · rw [if_pos hB.1]
        exact h15 w' hfr
