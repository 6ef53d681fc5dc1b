theorem RC_fr3 {w w' : zW} {i : Int} {Cs : List clau} (h : ∀ c ∈ [9, 26, 27, 33, 34, 35, 36, 37], w' c = w c) (hR : RC w i Cs) : RC w' i Cs := by
  have ho' : opw w' i = opw w i := by
    show opn (w' 9 i 0) (w' 9 i 1) (w' 34 i) = opn (w 9 i 0) (w 9 i 1) (w 34 i)
    rw [h 9 (by decide), h 34 (by decide)]
  intro e e0 e1 hn c hc ho
  have hc' : cA w' i e Cs = cA w i e Cs := by
    unfold cA
    rw [h 33 (by decide), h 35 (by decide), h 36 (by decide), h 37 (by decide)]
  rw [ho'] at ho
  rw [h 27 (by decide)] at hn
  rw [h 26 (by decide), hc']
  exact hR e e0 e1 hn c hc ho
theorem par_best {d : Nat} {i : Int} {w wm : zW} {E : Nat → Prop} [hdec : ∀ n, Decidable (E n)] {T : Nat} (hT8 : T < 256)
    (hD : ∀ set : Nat, set < 256 → ∃ r, D_isEnough (d + 2) i set w = some (r, w) ∧ (r = 0 ∨ r = 1) ∧ (r = 1 ↔ E set))
    (hC : ∀ set : Nat, set < 256 → ∃ r, M_covers (d + 2) i set wm = some (r, wm) ∧ (r = 0 ∨ r = 1) ∧ (r = 1 ↔ E set))
    (hT : ∀ n : Nat, n < 256 → E n → E (n &&& T)) : ∀ (m n : Nat) (b : Int), n + m = 256 → (b = -2 ∨ 0 ≤ b ∧ b < 256) → (∀ q : Nat, q < n → E q → b ≠ -2 ∧ pc b ≤ pc q) →
    ∃ r, D_parish_9 (d + 3) i b n w = some (r, w) ∧ M_parish_21 (d + 3) i T b n wm = some (r, wm) := by
  intro m
  induction m with
  | zero =>
    intro n b hn hb hI
    exact ⟨b, by rw [e_D_parish_9, if_pos (by omega)], by rw [e_M_parish_21, if_pos (by omega)]⟩
  | succ m ih =>
    intro n b hn hb hI
    have hn8 : n < 256 := by omega
    obtain ⟨r1, d1, d2, d3⟩ := hD n hn8
    obtain ⟨r2, c1, c2, c3⟩ := hC n hn8
    have hskip : ¬ ((b = -2 ∨ pc n < pc b) ∧ E n) → ∀ q : Nat, q < n + 1 → E q → b ≠ -2 ∧ pc b ≤ pc q := fun hno q hq hEq => by
      by_cases z : q = n
      · subst z
        by_cases y : b = -2
        · exact absurd ⟨Or.inl y, hEq⟩ hno
        · refine ⟨y, ?_⟩
          by_cases x : pc q < pc b
          · exact absurd ⟨Or.inr x, hEq⟩ hno
          · omega
      · exact hI q (by omega) hEq
    have htake : (b = -2 ∨ pc n < pc b) → ∀ q : Nat, q < n + 1 → E q → (n : Int) ≠ -2 ∧ pc n ≤ pc q := fun hw q hq hEq => by
      refine ⟨by omega, ?_⟩
      by_cases z : q = n
      · subst z
        exact Int.le_refl _
      · have := hI q (by omega) hEq
        rcases hw with y | y
        · exact absurd y this.1
        · omega
    -- the class's step
    have D12 : D_parish_12 (d + 3) i b n w = if E n then D_parish_9 (d + 3) i n (n + 1 : Nat) w else D_parish_9 (d + 3) i b (n + 1 : Nat) w := by
      rw [e_D_parish_12, d1, bnd]
      dsimp only
      by_cases y : E n
      · rw [if_neg (by have := d3.2 y; omega), gd_t (by omega), if_pos y]
        rfl
      · rw [if_pos (by rcases d2 with q | q; exact q; exact absurd (d3.1 q) y), gd_t (by omega), if_neg y]
        rfl
    have D9 : D_parish_9 (d + 3) i b n w = if (b = -2 ∨ pc n < pc b) ∧ E n then D_parish_9 (d + 3) i n (n + 1 : Nat) w else D_parish_9 (d + 3) i b (n + 1 : Nat) w := by
      rw [e_D_parish_9, if_neg (by omega)]
      by_cases y : b = -2
      · rw [if_pos y, D12]
        by_cases x : E n
        · rw [if_pos x, if_pos ⟨Or.inl y, x⟩]
        · rw [if_neg x, if_neg (fun q => x q.2)]
      · rw [if_neg y, j_bits (by omega), bnd]
        dsimp only
        rw [j_bits (by omega), bnd]
        dsimp only
        by_cases x : pc b ≤ pc n
        · rw [if_pos x, gd_t (by omega), if_neg (fun q => by rcases q.1 with k | k; exact y k; omega)]
          rfl
        · rw [if_neg x, D12]
          by_cases v : E n
          · rw [if_pos v, if_pos ⟨Or.inr (by omega), v⟩]
          · rw [if_neg v, if_neg (fun q => v q.2)]
    have M25 : M_parish_25 (d + 3) i T b n wm = if E n then M_parish_21 (d + 3) i T n (n + 1 : Nat) wm else M_parish_21 (d + 3) i T b (n + 1 : Nat) wm := by
      rw [e_M_parish_25, c1, bnd]
      dsimp only
      by_cases y : E n
      · rw [if_neg (by have := c3.2 y; omega), gd_t (by omega), if_pos y]
        rfl
      · rw [if_pos (by rcases c2 with q | q; exact q; exact absurd (c3.1 q) y), gd_t (by omega), if_neg y]
        rfl
    have M21 : M_parish_21 (d + 3) i T b n wm = if (b = -2 ∨ pc n < pc b) ∧ E n then M_parish_21 (d + 3) i T n (n + 1 : Nat) wm else M_parish_21 (d + 3) i T b (n + 1 : Nat) wm := by
      rw [e_M_parish_21, if_neg (by omega)]
      by_cases u : n &&& T = n
      · rw [if_pos ((z_andN hn8 hT8).2 u)]
        by_cases y : b = -2
        · rw [if_pos (by omega), M25]
          by_cases x : E n
          · rw [if_pos x, if_pos ⟨Or.inl y, x⟩]
          · rw [if_neg x, if_neg (fun q => x q.2)]
        · rw [if_neg (by omega), m_bits (by omega), bnd]
          dsimp only
          rw [m_bits (by omega), bnd]
          dsimp only
          by_cases x : pc b ≤ pc n
          · rw [if_pos x, gd_t (by omega), if_neg (fun q => by rcases q.1 with k | k; exact y k; omega)]
            rfl
          · rw [if_neg x, M25]
            by_cases v : E n
            · rw [if_pos v, if_pos ⟨Or.inr (by omega), v⟩]
            · rw [if_neg v, if_neg (fun q => v q.2)]
      · rw [if_neg (fun q => u ((z_andN hn8 hT8).1 q)), gd_t (by omega)]
        have hno : ¬ ((b = -2 ∨ pc n < pc b) ∧ E n) := fun q => by
          obtain ⟨l1, l2⟩ := pc_lt hn8 u
          obtain ⟨k1, k2⟩ := hI (n &&& T) l1 (hT n hn8 q.2)
          rcases q.1 with k | k
          · exact k1 k
          · omega
        rw [if_neg hno]
        rfl
    by_cases z : (b = -2 ∨ pc n < pc b) ∧ E n
    · rw [D9, M21, if_pos z, if_pos z]
      exact ih (n + 1) n (by omega) (Or.inr (by omega)) (htake z.1)
    · rw [D9, M21, if_neg z, if_neg z]
      exact ih (n + 1) b (by omega) hb (hskip z)
theorem m_parish_4 {d : Nat} {i r : Int} {w : zW} : ∀ m n : Nat, n + m = 144 → M_parish_4 d i r 0 n (z_row w 75 0 (flF (w 75 0) 0 n 0)) = M_parish_7 d i r 0 0 (z_row w 75 0 (flF (w 75 0) 0 144 0)) := by
  intro m
  induction m with
  | zero =>
    intro n hn
    rw [e_M_parish_4, if_pos (by omega), show (n : Int) = 144 by omega]
  | succ m ih =>
    intro n hn
    rw [e_M_parish_4, if_neg (by omega), gd_t (by omega), gd_t (by omega), row_up, flF_up (by omega)]
    exact ih (n + 1) (by omega)
theorem p_parish {LS RX : Int → List clau} {w : zW} {d : Nat} (hS : Sim LS RX w) (a1 a2 : Int) : ∃ r w1 w2, D_parish (d + 12) a1 a2 w = some (r, w1) ∧ M_parish (d + 12) a1 a2 w1 = some (r, w2) ∧ Sim LS RX w2 := by
  have hc := hS.cnt
  have hT : ∀ u : zW, u 49 = w 49 → M_isText (d + 11) 0 a1 u = some (if 0 ≤ a1 ∧ a1 < w 10 0 4 then 1 else 0, u) := fun u hu => by rw [m_isText (by decide), hu, hc.1.1]
  by_cases h1 : 0 ≤ a1 ∧ a1 < w 10 0 4
  · by_cases h2 : 0 ≤ a2 ∧ a2 ≤ 40
    · have h4 : 0 ≤ a1 ∧ a1 < 4 := by omega
      have hW := hS.wood h1.1 h1.2
      have hP := hS.now.1
      have hnr0 : ∀ c : Int, msk (nrP w a1 a2 c) 0 = 0 := fun _ => rfl
      generalize hwf : z_row w 46 0 (flF (w 46 0) 0 (z_ln 46) 0) = wf
      have ff : z_fr [41, 46, 47] w wf := by
        rw [← hwf]
        exact fr_row (by decide)
      obtain ⟨u, p1, p2, p3⟩ := s_parish_6 (d := d + 9) (i := a1) (r := a2) hW (fun k k0 k1 => (hP k k0 k1).2) 8 0 wf (by omega) ff (fun c hc => by
        have hz : z_ln 46 = 144 := rfl
        rw [← hwf, row_h]
        unfold flF
        rw [if_pos (by rw [hz]; omega)]
        rfl)
      have hfu : ∀ c ∈ smC, u c = w c := fun c hc => p2 c (by revert hc; revert c; decide)
      have hWu : RW u a1 := RW_fr (fun c hc => p2 c (by revert hc; revert c; decide)) hW
      have hmk : ∀ c q, msk (nrP u a1 a2 c) q = msk (nrP w a1 a2 c) q := fun c q => by
        unfold nrP
        rw [p2 31 (by decide), p2 9 (by decide), p2 34 (by decide), p2 39 (by decide)]
      generalize hwy : z_row u 75 0 (flF (u 75 0) 0 144 0) = wy
      have fy : mF [66, 67, 75] [] u wy := by
        rw [← hwy]
        exact mF_row (by decide) (by decide)
      have hPu : ∀ k, 0 ≤ k → k < 8 → u 70 0 (1382 + k) = u 31 0 k ∧ -1 ≤ u 31 0 k ∧ u 31 0 k < 144 := fun k k0 k1 => by
        have := hP k k0 k1
        rw [p2 70 (by decide), p2 31 (by decide)]
        exact ⟨this.1.symm, this.2⟩
      obtain ⟨v, q1, q2, q3⟩ := m_parish_7 (d := d + 8) (i := a1) (r := a2) hWu h4 h2.1 hPu 8 0 wy (by omega) fy (fun c hc => by
        rw [← hwy, row_h]
        unfold flF
        rw [if_pos (by omega)]
        rfl)
      have hM8 : ∀ c : Int, msk (nrP u a1 a2 c) 8 < 256 := fun c => msk_lt 8
      have hWv : RW v a1 := RW_fr (fun c hc => q2.1 c (by revert hc; revert c; decide) (by revert hc; revert c; decide)) hWu
      have hev : enP v a1 (fun c => msk (nrP u a1 a2 c) 8) = enP u a1 (fun c => msk (nrP u a1 a2 c) 8) := by
        unfold enP ndP opw
        rw [q2.1 33 (by decide) (by decide), q2.1 9 (by decide) (by decide), q2.1 34 (by decide) (by decide)]
      obtain ⟨r, t1, t2⟩ := par_best (hdec := fun _ => Classical.propDecidable _) (d := d + 9) (i := a1) (w := u) (wm := v) (E := enP u a1 (fun c => msk (nrP u a1 a2 c) 8)) (T := msk (tdP u) 8) (msk_lt 8)
        (fun set hs => by
          rw [e_D_isEnough]
          exact s_isEnough (d := d + 9) hWu hs hM8 (fun c hc => by rw [p3 c hc, hmk]) 144 0 (by omega) (fun c hc => absurd hc (by omega)))
        (fun set hs => by
          have := m_covers (d := d + 9) hWv h4 hs hM8 q3 144 0 (by omega) (fun c hc => absurd hc (by omega))
          rw [hev] at this
          rw [e_M_covers]
          exact this)
        (fun n hn hE c hc hnd => by
          have := hE c hc hnd
          have hsub := msk_sub (P := nrP u a1 a2 c) (Q := tdP u) (fun k hk => hk.1) 8
          show msk (nrP u a1 a2 c) 8 &&& (n &&& msk (tdP u) 8) ≠ 0
          rw [Nat.and_comm n, ← Nat.and_assoc, hsub]
          exact this) 256 0 (-2) (by omega) (Or.inl rfl) (fun q hq => absurd hq (by omega))
      refine ⟨r, u, v, ?_, ?_, ?_⟩
      · rw [e_D_parish, if_neg (by omega), if_neg (by omega), if_neg (by omega), if_pos h2.2, gd_t h4, s_fillI rfl (by decide), bnd]
        dsimp only
        rw [hwf, show 0 + a1 = a1 by omega]
        exact p1.trans t1
      · rw [e_M_parish, hT u (p2 49 (by decide)), bnd, if_pos h1]
        dsimp only
        rw [if_neg (show ¬ (1 : Int) = 0 by decide), m_in, bnd, if_pos h2]
        dsimp only
        rw [if_neg (show ¬ (1 : Int) = 0 by decide)]
        have hz := m_parish_4 (d := d + 12) (i := a1) (r := a2) (w := u) 144 0 rfl
        rw [show ((0 : Nat) : Int) = 0 from rfl, flF_0, row_self, hwy] at hz
        exact hz.trans (q1.trans t2)
      · refine Sim_ask (fun c hc => ?_) (fun s hs => ?_) ?_ (fun hb => ?_) hS
        · rw [q2.1 c (by revert hc; revert c; decide) (by revert hc; revert c; decide)]
          exact hfu c hc
        · rw [q2.1 4 (by decide) (by decide), q2.1 19 (by decide) (by decide), p2 4 (by decide), p2 19 (by decide)]
          exact ⟨rfl, rfl⟩
        · rw [q2.2 1 (by decide), p2 11 (by decide)]
        · exact RC_fr3 (fun c hc => by rw [q2.1 c (by revert hc; revert c; decide) (by revert hc; revert c; decide), p2 c (by revert hc; revert c; decide)]) (hS.rdy hb).2.2
    · refine ⟨-1, w, w, ?_, ?_, hS⟩
      · rw [e_D_parish, if_neg (by omega), if_neg (by omega)]
        by_cases z : a2 < 0
        · rw [if_pos z]
        · rw [if_neg z, if_neg (by omega)]
      · rw [e_M_parish, hT w rfl, bnd, if_pos h1]
        dsimp only
        rw [if_neg (show ¬ (1 : Int) = 0 by decide), m_in, bnd, if_neg h2, if_pos rfl]
  · refine ⟨-1, w, w, ?_, ?_, hS⟩
    · rw [e_D_parish]
      by_cases z : a1 < 0
      · rw [if_pos z]
      · rw [if_neg z, if_pos (by omega)]
    · rw [e_M_parish, hT w rfl, bnd, if_neg h1, if_pos rfl]
