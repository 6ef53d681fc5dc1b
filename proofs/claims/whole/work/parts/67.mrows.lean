/-! THE MODEL'S ROWS -/
def mF (S : List Nat) (T : List Int) (w w' : zW) : Prop := (∀ c, c ∉ S → c ≠ 11 → w' c = w c) ∧ ∀ s, s ∉ T → w' 11 0 s = w 11 0 s
theorem mF_rf (S : List Nat) (T : List Int) (w : zW) : mF S T w w := ⟨fun _ _ _ => rfl, fun _ _ => rfl⟩
theorem mF_tr {S : List Nat} {T : List Int} {w w' w'' : zW} (h1 : mF S T w w') (h2 : mF S T w' w'') : mF S T w w'' := ⟨fun c a b => (h2.1 c a b).trans (h1.1 c a b), fun s hs => (h2.2 s hs).trans (h1.2 s hs)⟩
theorem mF_sub {S S' : List Nat} {T T' : List Int} {w w' : zW} (h : mF S T w w') (h1 : ∀ c ∈ S, c ∈ S') (h2 : ∀ t ∈ T, t ∈ T') : mF S' T' w w' := ⟨fun c a b => h.1 c (fun q => a (h1 c q)) b, fun s hs => h.2 s (fun q => hs (h2 s q))⟩
theorem mF_11 {S : List Nat} {T : List Int} {w : zW} {s v : Int} (hs : s ∈ T) : mF S T w (z_up w 11 0 s v) := ⟨fun c _ b => by funext x y; exact up_c b, fun t ht => up_s (fun q => ht (by rw [q]; exact hs))⟩
theorem mF_up {S : List Nat} {T : List Int} {w : zW} {c : Nat} {s v : Int} (hc : c ∈ S) (h11 : c ≠ 11) : mF S T w (z_up w c 0 s v) := ⟨fun c' a _ => by funext x y; exact up_c (fun q => a (by rw [q]; exact hc)), fun t _ => up_c (fun q => h11 q.symm)⟩
theorem mF_row {S : List Nat} {T : List Int} {w : zW} {c : Nat} {F : Int → Int} (hc : c ∈ S) (h11 : c ≠ 11) : mF S T w (z_row w c 0 F) := ⟨fun c' a _ => by funext x y; exact row_c (fun q => a (by rw [q]; exact hc)), fun t _ => row_c (fun q => h11 q.symm)⟩
theorem mF_mfk {w w' : zW} {b : Int} (h : mfk 71 b w w') : mF [68, 69, 71, 72] [30] w w' := ⟨fun c a b => h.1 c b (fun q => a (by rw [q]; decide)) (fun q => a (by rw [q]; decide)) (fun q => a (by rw [q]; decide)) (fun q => a (by rw [q]; decide)), fun s hs => h.2.1 s (fun q => hs (by rw [q]; decide))⟩
/-- where one walks: the class's and the model's -/
def ENV (w : zW) (i j : Int) (Cs : List clau) : Prop := EN w i j Cs ∧ RW w i ∧ Rlw w j Cs ∧ (w 70 0 0 = i ∧ w 70 0 1 = j) ∧ (0 ≤ i ∧ i < 4) ∧ 0 ≤ j ∧ j < 6
abbrev evC : List Nat := [1, 2, 7, 9, 13, 14, 15, 16, 26, 27, 32, 33, 34, 35, 36, 37, 38, 39, 40, 41, 50, 52, 53, 54, 55, 56, 57, 58, 59, 60, 61, 62, 63, 64]
theorem ENV_e {w w' : zW} {i j : Int} {Cs : List clau} (h : ∀ c ∈ evC, w' c = w c) (h70 : w' 70 0 0 = w 70 0 0 ∧ w' 70 0 1 = w 70 0 1) (hE : ENV w i j Cs) : ENV w' i j Cs := by
  obtain ⟨h1, h2, h3, h4, h5⟩ := hE
  have he : sameE w w' := fun c hc => h c (by revert hc; revert c; decide)
  refine ⟨EN_e he (RC_fr he (h 26 (by decide)) (h 27 (by decide)) h1.2.2.2.2.2.2.2.2.2) h1, RW_fr (fun c hc => h c (by revert hc; revert c; decide)) h2, Rlw_fr (fun c hc => h c (by revert hc; revert c; decide)) h3, ?_, h5⟩
  rw [h70.1, h70.2]
  exact h4
theorem ENV_m {S : List Nat} {T : List Int} {w w' : zW} {i j : Int} {Cs : List clau} (hf : mF S T w w') (hS : ∀ c ∈ evC, c ∉ S) (h70 : 70 ∉ S) (hE : ENV w i j Cs) : ENV w' i j Cs :=
  ENV_e (fun c hc => hf.1 c (hS c hc) (by revert hc; revert c; decide)) (by rw [hf.1 70 h70 (by decide)]; exact ⟨rfl, rfl⟩) hE
theorem sameE_m {S : List Nat} {T : List Int} {w w' : zW} (hf : mF S T w w') (hS : ∀ c ∈ eC, c ∉ S) : sameE w w' := fun c hc => hf.1 c (hS c hc) (by revert hc; revert c; decide)
theorem m_tryBegins_1 {d : Nat} {w : zW} : ∀ (m n : Nat), n + m = 576 → M_tryBegins_1 d n (z_row w 71 0 (cbF (w 71 0) (wtM w 70 6) 0 n)) = some (0, z_up (z_row w 71 0 (cbF (w 71 0) (wtM w 70 6) 0 576)) 11 0 35 (w 70 0 5)) := by
  intro m
  induction m with
  | zero =>
    intro n hn
    rw [e_M_tryBegins_1, if_pos (by omega), gd_t (by decide), row_c (by decide), show (n : Int) = 576 by omega]
  | succ m ih =>
    intro n hn
    have hu := cbF_up (F := w 71 0) (G := wtM w 70 6) (b := 0) (n := (n : Int)) (by omega)
    have hg : wtM w 70 6 n = w 70 0 (6 + (n : Int)) := rfl
    rw [hg, Int.zero_add] at hu
    rw [e_M_tryBegins_1, if_neg (by omega), gd_t (by omega), gd_t (by omega), gd_t (by omega), gd_t (by omega), row_c (by decide), row_up, hu]
    exact ih (n + 1) (by omega)
theorem m_tryBegins {d : Nat} {w : zW} : ∃ w', M_tryBegins d w = some (0, w') ∧ mF [71] [35] w w' ∧ eqR (wtM w' 71 0) (wtM w 70 6) ∧ w' 11 0 35 = w 70 0 5 := by
  have h := m_tryBegins_1 (d := d) (w := w) 576 0 rfl
  rw [show ((0 : Nat) : Int) = 0 from rfl, cbF_0, row_self] at h
  refine ⟨_, by rw [e_M_tryBegins]; exact h, mF_tr (mF_row (by decide) (by decide)) (mF_11 (by decide)), fun k k0 k1 => ?_, up_h⟩
  unfold wtM
  rw [up_c (by decide), row_h]
  unfold cbF
  rw [if_pos (by omega)]
  show w 70 0 (6 + (0 + k - 0)) = w 70 0 (6 + k)
  rw [show 6 + (0 + k - 0) = 6 + k by omega]
theorem m_comesHome_1 {d : Nat} {a : Int} {w : zW} (ha : 0 ≤ a ∧ a < 144) : ∀ (m : Nat) (n : Int), 0 ≤ n → n + m = 4 → M_comesHome_1 d (4 * a) n (z_row w 71 0 (flF (w 71 0) (4 * a) (4 * a + n) 0)) = some (0, z_row w 71 0 (flF (w 71 0) (4 * a) (4 * a + 4) 0)) := by
  intro m
  induction m with
  | zero =>
    intro n h0 hn
    rw [e_M_comesHome_1, if_pos (by omega), show n = 4 by omega]
  | succ m ih =>
    intro n h0 hn
    rw [e_M_comesHome_1, if_neg (by omega), gd_t (by omega), gd_t (by omega), gd_t (by omega), row_up, flF_up (by omega), show 4 * a + n + 1 = 4 * a + (n + 1) by omega]
    exact ih (n + 1) (by omega) (by omega)
theorem m_homeAt {d : Nat} {w : zW} {i j : Int} {Cs : List clau} (hE : ENV w i j Cs) : M_homeOf d i w = some (w 9 i 2, w) := by
  obtain ⟨h1, h2, h3, h4, h5, h6⟩ := hE
  have q1 := h2.1
  have q2 := h2.2.2.1
  rw [m_homeOf h5 (by omega) (by omega), q2.2.2]
theorem m_comesHome {d : Nat} {w : zW} {i j : Int} {Cs : List clau} (hE : ENV w i j Cs) (hB : wtB (wtM w 71 0)) (hH : 0 ≤ w 11 0 36 ∧ w 11 0 36 ≤ 100000000000) :
    ∃ w', M_comesHome (d + 1) w = some (0, w') ∧ mF [71] [36] w w' ∧ eqR (wtM w' 71 0) (zh (w 9 i 2) (wtM w 71 0)) ∧ w' 11 0 36 = w 11 0 36 + od (wtM w 71 0) (w 9 i 2) := by
  have hh := hE.2.1.home.1
  have hi := hE.2.2.2.1.1
  have hod := od_bd hB hh
  have h1 := m_comesHome_1 (d := d + 1) (a := w 9 i 2) (w := z_up w 11 0 36 (w 11 0 36 + od (wtM w 71 0) (w 9 i 2))) hh 4 0 (by omega) (by omega)
  rw [Int.add_zero, flF_0, row_self] at h1
  refine ⟨z_row (z_up w 11 0 36 (w 11 0 36 + od (wtM w 71 0) (w 9 i 2))) 71 0 (flF (z_up w 11 0 36 (w 11 0 36 + od (wtM w 71 0) (w 9 i 2)) 71 0) (4 * w 9 i 2) (4 * w 9 i 2 + 4) 0), ?_, mF_tr (mF_11 (by decide)) (mF_row (by decide) (by decide)), fun k k0 k1 => ?_, ?_⟩
  · rw [e_M_comesHome, m_woodNow, bnd]
    dsimp only
    rw [hi, m_homeAt hE, bnd]
    dsimp only
    rw [gd_t (by omega), m_woodNow, bnd]
    dsimp only
    rw [hi, m_homeAt hE, bnd]
    dsimp only
    rw [m_oddsOf (Or.inr ⟨rfl, rfl⟩) hh hB, bnd]
    dsimp only
    rw [gd_t (by omega)]
    exact h1
  · unfold wtM zh flF
    rw [row_h, up_c (by decide), Int.zero_add]
    show _ = (if 4 * w 9 i 2 ≤ k ∧ k < 4 * w 9 i 2 + 4 then 0 else w 71 0 (0 + k))
    rw [Int.zero_add]
  · rw [row_c (by decide), up_h]
/-- what the model's row stands at -/
def MV (w : zW) (s : rS) : Prop := eqR (wtM w 71 0) s.1 ∧ w 11 0 35 = s.2.1 ∧ w 11 0 36 = s.2.2.1 ∧ w 11 0 37 = s.2.2.2
abbrev mrC : List Nat := [68, 69, 71, 72]
abbrev mrT : List Int := [30, 35, 36, 37]
theorem m_rowStep {d : Nat} {n code k : Nat} {i j : Int} {w : zW} {Cs : List clau} {s : rS} (hE : ENV w i j Cs) (hk : k < n) (hn : n ≤ 6) (hs : rOK w i k s) (hM : MV w s) (hc : code < 4096) :
    ∃ w', M_goesRow_1 (d + 5) n ((code / 4 ^ k : Nat) : Int) k w = M_goesRow_1 (d + 5) n ((code / 4 ^ (k + 1) : Nat) : Int) (k + 1 : Nat) w' ∧ mF mrC mrT w w' ∧ MV w' (rStep w i j Cs (dg code k) s) := by
  obtain ⟨m1, m2, m3, m4⟩ := hM
  have hs0 := hs
  obtain ⟨s1, s2, s3, s4⟩ := hs
  have hdg := dg_bd code k
  have hlt : code / 4 ^ k < 4096 := Nat.lt_of_le_of_lt (Nat.div_le_self _ _) hc
  have hq0 : (0 : Int) ≤ ((code / 4 ^ k : Nat) : Int) := Int.natCast_nonneg _
  have hd1 : ((code / 4 ^ k : Nat) : Int) % 4 = dg code k := by unfold dg; omega
  have hd2 : ((code / 4 ^ k : Nat) : Int) / 4 = ((code / 4 ^ (k + 1) : Nat) : Int) := by
    rw [Nat.pow_succ, ← Nat.div_div_eq_div_mul]
    omega
  have hB : wtB (wtM w 71 0) := fun q q0 q1 => by rw [m1 q q0 q1]; exact wO0_B s1 q q0 q1
  have hw : wO0 (opw w i) (wtM w 71 0) := wO0_eq s1 m1
  have hrb := rsk_bd (harm := w 37 i) (wO0_B s1) hE.1.2.2.2.2.2.2.2.2.1
  have hh := hE.2.1.home.1
  rw [e_M_goesRow_1, if_neg (by omega), gd_t (by omega), gd_t (by omega), hd1, hd2]
  -- behind the harms
  have key : ∀ wy : zW, mF [] [37] w wy → wy 11 0 37 = (rStep w i j Cs (dg code k) s).2.2.2 →
      ∃ w', M_goesRow_4 (d + 5) n ((code / 4 ^ (k + 1) : Nat) : Int) k (dg code k) wy = M_goesRow_1 (d + 5) n ((code / 4 ^ (k + 1) : Nat) : Int) (k + 1 : Nat) w' ∧ mF mrC mrT w w' ∧ MV w' (rStep w i j Cs (dg code k) s) := fun wy fy hy => by
    have hEy : ENV wy i j Cs := ENV_m fy (by decide) (by decide) hE
    have ey : sameE w wy := sameE_m fy (by decide)
    have y71 : wtM wy 71 0 = wtM w 71 0 := by unfold wtM; rw [fy.1 71 (by decide) (by decide)]
    have y35 : wy 11 0 35 = s.2.1 := by rw [fy.2 35 (by decide), m2]
    obtain ⟨w1, p1, p2, p3⟩ := m_act (d := d) (e := s.2.1) (kd := dg code k) (x := 0) (y := 0) (Or.inr ⟨rfl, rfl⟩) hEy.2.1 hEy.2.2.1 hEy.2.2.2.1.1 hEy.2.2.2.2.1 hEy.2.2.2.1.2 hEy.2.2.2.2.2 (by rw [opw_e ey, y71]; exact hw) ⟨hdg.1, by omega⟩
    rw [y71, aW_e ey] at p3
    have f1 := mF_mfk p2
    have r35 : w1 11 0 35 = s.2.1 := by rw [f1.2 35 (by decide), y35]
    have hAW := aW_eqR (w := w) (i := i) (j := j) (Cs := Cs) (kd := dg code k) (a := 0) (b := 0) (e := s.2.1) m1
    have hFx := eqR_tr p3 hAW
    have hg := aW_0 (kd := dg code k) (a := 0) (b := 0) (e := s.2.1) hE.1 s1 (by omega)
    rw [e_M_goesRow_4, y35, p1, bnd]
    dsimp only
    rw [r35, m_later (by omega), bnd]
    dsimp only
    have f2 : mF mrC mrT w (z_up w1 11 0 35 (min 30 (s.2.1 + 1))) := mF_tr (mF_sub fy (by decide) (by decide)) (mF_tr (mF_sub f1 (by decide) (by decide)) (mF_11 (by decide)))
    have hE2 : ENV (z_up w1 11 0 35 (min 30 (s.2.1 + 1))) i j Cs := ENV_m f2 (by decide) (by decide) hE
    have x71 : eqR (wtM (z_up w1 11 0 35 (min 30 (s.2.1 + 1))) 71 0) (aW w i j Cs (dg code k) 0 0 s.2.1 s.1) := fun q q0 q1 => by
      show (z_up w1 11 0 35 (min 30 (s.2.1 + 1))) 71 0 (0 + q) = _
      rw [up_c (by decide)]
      exact hFx q q0 q1
    have x36 : (z_up w1 11 0 35 (min 30 (s.2.1 + 1))) 11 0 36 = s.2.2.1 := by
      rw [up_s (by decide), f1.2 36 (by decide), fy.2 36 (by decide), m3]
    have x37 : (z_up w1 11 0 35 (min 30 (s.2.1 + 1))) 11 0 37 = (rStep w i j Cs (dg code k) s).2.2.2 := by
      rw [up_s (by decide), f1.2 37 (by decide), hy]
    by_cases q : dg code k = 0
    · obtain ⟨w2, q1, q2, q3, q4⟩ := m_comesHome (d := d + 3) hE2 (fun z z0 z1 => by rw [x71 z z0 z1]; exact wO0_B hg z z0 z1) (by rw [x36]; omega)
      have h9 : (z_up w1 11 0 35 (min 30 (s.2.1 + 1))) 9 i 2 = w 9 i 2 := by rw [f2.1 9 (by decide) (by decide)]
      rw [if_pos q, q1, bnd]
      dsimp only
      rw [gd_t (by omega)]
      rw [h9] at q3 q4
      refine ⟨w2, rfl, mF_tr f2 (mF_sub q2 (by decide) (by decide)), ?_, ?_, ?_, ?_⟩
      · refine eqR_tr q3 (eqR_tr (zh_eqR x71) ?_)
        unfold rStep
        dsimp only
        rw [if_pos q]
        exact eqR_rf _
      · rw [q2.2 35 (by decide), up_h]
        rfl
      · rw [q4, x36, od_eqR x71 hh.1 hh.2]
        unfold rStep
        dsimp only
        rw [if_pos q]
      · rw [q2.2 37 (by decide), x37]
    · rw [if_neg q, gd_t (by omega)]
      refine ⟨_, rfl, f2, ?_, ?_, ?_, x37⟩
      · unfold rStep
        dsimp only
        rw [if_neg q]
        exact x71
      · rw [up_h]
        rfl
      · rw [x36]
        unfold rStep
        dsimp only
        rw [if_neg q]
  by_cases q : dg code k = 0
  · have hrk := m_riskOf (d := d + 2) (k := 71) (b := 0) (i := i) (w := w) (harm := w 37 i) (Or.inr ⟨rfl, rfl⟩) hE.2.2.2.1.1 hE.2.2.2.2.1 (fun c c0 c1 => (hE.2.1.2.2.2.2.1 c c0 c1).1.2.2.2.2.1.symm) hE.1.2.2.2.2.2.2.2.2.1 hB
    rw [if_pos q, hrk, bnd]
    dsimp only
    rw [m4, rsk_eqR m1, gd_t (by omega)]
    refine key _ (mF_11 (by decide)) ?_
    rw [up_h]
    unfold rStep
    dsimp only
    rw [if_pos q]
  · rw [if_neg q]
    refine key w (mF_rf _ _ _) ?_
    rw [m4]
    unfold rStep
    dsimp only
    rw [if_neg q]
theorem rAt_e {w w' : zW} {i j e : Int} {Cs : List clau} {F : Int → Int} {code : Nat} (h : sameE w w') : ∀ k, rAt w' i j Cs F e code k = rAt w i j Cs F e code k := by
  intro k
  induction k with
  | zero =>
    show rBeg w' i F e = rBeg w i F e
    unfold rBeg
    rw [h 9 (by decide)]
  | succ k ih =>
    show rStep w' i j Cs (dg code k) (rAt w' i j Cs F e code k) = _
    rw [ih, rStep_e h]
    rfl
theorem rOK_e {w w' : zW} {i k : Int} {s : rS} (h : sameE w w') (hs : rOK w i k s) : rOK w' i k s := by
  unfold rOK at *
  rw [opw_e h]
  exact hs
theorem m_goesRow_1 {d : Nat} {n code : Nat} {i j e : Int} {w : zW} {Cs : List clau} {F : Int → Int} (hE : ENV w i j Cs) (hn : n ≤ 6) (hF : wO0 (opw w i) F) (he : 0 ≤ e ∧ e ≤ 30) (hc : code < 4096) : ∀ (m k : Nat) (w1 : zW), k + m = n → mF mrC mrT w w1 → MV w1 (rAt w i j Cs F e code k) →
    ∃ w', M_goesRow_1 (d + 5) n ((code / 4 ^ k : Nat) : Int) k w1 = some (0, w') ∧ mF mrC mrT w w' ∧ MV w' (rAt w i j Cs F e code n) := by
  intro m
  induction m with
  | zero =>
    intro k w1 hk hf hM
    rw [show n = k by omega]
    exact ⟨w1, by rw [e_M_goesRow_1, if_pos (by omega)], hf, hM⟩
  | succ m ih =>
    intro k w1 hk hf hM
    have ee : sameE w w1 := sameE_m hf (by decide)
    have hE1 : ENV w1 i j Cs := ENV_m hf (by decide) (by decide) hE
    obtain ⟨w2, q1, q2, q3⟩ := m_rowStep (d := d) (n := n) (code := code) (k := k) hE1 (by omega) hn (rOK_e ee (rAt_OK (code := code) hE.1 hE.2.1.home.1 hF he k)) hM hc
    rw [rStep_e ee] at q3
    obtain ⟨w', s1, s2, s3⟩ := ih (k + 1) w2 (by omega) (mF_tr hf q2) q3
    exact ⟨w', q1.trans s1, s2, s3⟩
theorem m_goesRow {d : Nat} {n code : Nat} {i j : Int} {w : zW} {Cs : List clau} (hE : ENV w i j Cs) (hn : n ≤ 6) (hF : wO0 (opw w i) (wtM w 70 6)) (he : 0 ≤ w 70 0 5 ∧ w 70 0 5 ≤ 30) (hc : code < 4096) :
    ∃ w', M_goesRow (d + 5) n code w = some (0, w') ∧ mF mrC mrT w w' ∧ MV w' (rAt w i j Cs (wtM w 70 6) (w 70 0 5) code n) := by
  obtain ⟨w1, p1, p2, p3, p4⟩ := m_tryBegins (d := d + 4) (w := w)
  have f2 : mF mrC mrT w (z_up (z_up w1 11 0 36 0) 11 0 37 0) := mF_tr (mF_sub p2 (by decide) (by decide)) (mF_tr (mF_11 (by decide)) (mF_11 (by decide)))
  have hE2 : ENV (z_up (z_up w1 11 0 36 0) 11 0 37 0) i j Cs := ENV_m f2 (by decide) (by decide) hE
  have x71 : eqR (wtM (z_up (z_up w1 11 0 36 0) 11 0 37 0) 71 0) (wtM w 70 6) := fun q q0 q1 => by
    show (z_up (z_up w1 11 0 36 0) 11 0 37 0) 71 0 (0 + q) = _
    rw [up_c (by decide), up_c (by decide)]
    exact p3 q q0 q1
  have x36 : (z_up (z_up w1 11 0 36 0) 11 0 37 0) 11 0 36 = 0 := by rw [up_s (by decide), up_h]
  have h9 : (z_up (z_up w1 11 0 36 0) 11 0 37 0) 9 i 2 = w 9 i 2 := by rw [f2.1 9 (by decide) (by decide)]
  obtain ⟨w2, q1, q2, q3, q4⟩ := m_comesHome (d := d + 3) hE2 (fun z z0 z1 => by rw [x71 z z0 z1]; exact wO0_B hF z z0 z1) (by rw [x36]; omega)
  rw [h9] at q3 q4
  have hh := hE.2.1.home.1
  obtain ⟨w', s1, s2, s3⟩ := m_goesRow_1 (d := d) (n := n) (code := code) (F := wtM w 70 6) (e := w 70 0 5) hE hn hF he hc n 0 w2 (by omega) (mF_tr f2 (mF_sub q2 (by decide) (by decide))) ⟨eqR_tr q3 (zh_eqR x71), by rw [q2.2 35 (by decide), up_s (by decide), up_s (by decide), p4]; rfl, by rw [q4, x36, od_eqR x71 hh.1 hh.2, Int.zero_add]; rfl, by rw [q2.2 37 (by decide), up_h]; rfl⟩
  refine ⟨w', ?_, s2, s3⟩
  rw [e_M_goesRow, p1, bnd]
  dsimp only
  rw [q1, bnd]
  dsimp only
  rw [Nat.pow_zero, Nat.div_one] at s1
  exact s1
