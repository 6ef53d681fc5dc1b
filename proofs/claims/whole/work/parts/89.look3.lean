def pl (A : Int → Int) : Nat → List Int
  | 0 => []
  | n + 1 => A n :: pl A n
theorem pl_mem {A : Int → Int} {x : Int} : ∀ n : Nat, x ∈ pl A n ↔ ∃ j : Nat, j < n ∧ A j = x := by
  intro n
  induction n with
  | zero => exact ⟨fun q => absurd q List.not_mem_nil, fun ⟨j, h, _⟩ => absurd h (Nat.not_lt_zero _)⟩
  | succ n ih =>
    show x ∈ A n :: pl A n ↔ _
    rw [List.mem_cons, ih]
    constructor
    · rintro (q | ⟨j, h1, h2⟩)
      · exact ⟨n, by omega, q.symm⟩
      · exact ⟨j, by omega, h2⟩
    · rintro ⟨j, h1, h2⟩
      by_cases z : j = n
      · exact Or.inl (by rw [← h2, z])
      · exact Or.inr ⟨j, by omega, h2⟩
theorem pl_cg {A B : Int → Int} : ∀ n : Nat, (∀ j : Nat, j < n → A j = B j) → pl A n = pl B n := by
  intro n
  induction n with
  | zero => intro _; rfl
  | succ n ih =>
    intro h
    show A n :: pl A n = B n :: pl B n
    rw [h n (by omega), ih (fun j hj => h j (by omega))]
section
variable {w : zW}
theorem m_gone_3 {d last p : Nat} {acc : Int} (hg : wtB (wtM w 70 6)) (hl : last < 7) (hp : p ≤ last) (hA : ∀ q : Nat, q ≤ last → 0 ≤ w 74 0 q ∧ w 74 0 q < 144) (ha : 0 ≤ acc ∧ acc ≤ 100000000000) : ∀ (m j : Nat) (f : Int), j + m = p → (f = 0 ∨ f = 1) → (f = 0 ↔ w 74 0 p ∈ pl (w 74 0) j) →
    M_gone_3 (d + 1) last acc p f j w = M_gone_1 (d + 1) last (acc + (if w 74 0 p ∈ pl (w 74 0) p then 0 else od (wtM w 70 6) (w 74 0 p))) (p + 1 : Nat) w := by
  have hAp := hA p hp
  have hod := od_bd hg hAp
  intro m
  induction m with
  | zero =>
    intro j f hj hf hi
    have hjp : j = p := by omega
    subst hjp
    rw [e_M_gone_3, if_pos (by omega)]
    by_cases z : f = 0
    · rw [if_pos z, if_pos (hi.1 z), gd_t (by omega), gd_t (by omega)]
      rfl
    · rw [if_neg z, if_neg (fun q => z (hi.2 q)), gd_t (by omega), m_oddsOf (Or.inl ⟨rfl, rfl⟩) hAp hg, bnd]
      dsimp only
      rw [gd_t (by omega), gd_t (by omega)]
      rfl
  | succ m ih =>
    intro j f hj hf hi
    have hcons : w 74 0 p ∈ pl (w 74 0) (j + 1) ↔ w 74 0 p = w 74 0 j ∨ w 74 0 p ∈ pl (w 74 0) j := List.mem_cons
    rw [e_M_gone_3, if_neg (by omega)]
    by_cases z : f = 0
    · rw [if_pos z, gd_t (by omega)]
      exact ih (j + 1) 0 (by omega) (Or.inl rfl) ⟨fun _ => hcons.2 (Or.inr (hi.1 z)), fun _ => rfl⟩
    · rw [if_neg z, gd_t (by omega), gd_t (by omega)]
      by_cases y : w 74 0 j = w 74 0 p
      · rw [if_pos y, gd_t (by omega)]
        exact ih (j + 1) 0 (by omega) (Or.inl rfl) ⟨fun _ => hcons.2 (Or.inl y.symm), fun _ => rfl⟩
      · rw [if_neg y, gd_t (by omega)]
        exact ih (j + 1) 1 (by omega) (Or.inr rfl) ⟨fun q => absurd q (by decide), fun q => (hcons.1 q).elim (fun e => absurd e.symm y) (fun e => absurd (hi.2 e) z)⟩
theorem m_gone {d last : Nat} (hg : wtB (wtM w 70 6)) (hT : tot (wtM w 70 6) ≤ 1000000000) (hl : last < 7) (hA : ∀ q : Nat, q ≤ last → 0 ≤ w 74 0 q ∧ w 74 0 q < 144) : M_gone (d + 1) last w = some (vl (od (wtM w 70 6)) (pl (w 74 0) (last + 1)), w) := by
  rw [e_M_gone]
  suffices go : ∀ m p : Nat, p + m = last + 1 → M_gone_1 (d + 1) last (vl (od (wtM w 70 6)) (pl (w 74 0) p)) p w = some (vl (od (wtM w 70 6)) (pl (w 74 0) (last + 1)), w) by
    have h := go (last + 1) 0 (by omega)
    have h0 : vl (od (wtM w 70 6)) (pl (w 74 0) 0) = 0 := vl_nil _
    rw [h0] at h
    exact h
  intro m
  induction m with
  | zero =>
    intro p hp
    rw [e_M_gone_1, if_pos (by omega), show p = last + 1 by omega]
  | succ m ih =>
    intro p hp
    have hvb := vl_bd hg (pl (w 74 0) p)
    have hc : vl (od (wtM w 70 6)) (pl (w 74 0) (p + 1)) = vl (od (wtM w 70 6)) (pl (w 74 0) p) + (if w 74 0 p ∈ pl (w 74 0) p then 0 else od (wtM w 70 6) (w 74 0 p)) := vl_cons (hA p (by omega))
    have h3 : M_gone_3 (d + 1) last (vl (od (wtM w 70 6)) (pl (w 74 0) p)) p 1 0 w = _ := m_gone_3 (d := d) (p := p) (acc := vl (od (wtM w 70 6)) (pl (w 74 0) p)) hg hl (by omega) hA (by omega) p 0 1 (by omega) (Or.inr rfl) ⟨fun q => absurd q (by decide), fun q => absurd q List.not_mem_nil⟩
    rw [e_M_gone_1, if_neg (by omega), h3, ← hc]
    exact ih (p + 1) (by omega)
end
theorem lkR_s {nx O : Int → Int} {m j : Nat} {vis : List Int} : lkR nx O (m + 1) vis (j + 1) = if nx (4 * hd vis + (3 - (j : Int))) = -1 then lkR nx O (m + 1) vis j else max (max (vl O (nx (4 * hd vis + (3 - (j : Int))) :: vis)) (lkR nx O m (nx (4 * hd vis + (3 - (j : Int))) :: vis) 4)) (lkR nx O (m + 1) vis j) := rfl
theorem lkR_nn {nx O : Int → Int} {m j : Nat} {vis : List Int} : 0 ≤ lkR nx O m vis j := by
  cases m with
  | zero => exact Int.le_refl 0
  | succ m => exact lkJ_nn j
theorem m_look_4 {d n : Nat} {i j : Int} {w : zW} {Cs : List clau} (hn6 : n ≤ 6) (hE : ENV w i j Cs) (hg : wtB (wtM w 70 6)) (hT : tot (wtM w 70 6) ≤ 1000000000) : ∀ (m k : Nat), k + m = n → ∀ (jj : Nat), jj ≤ 4 → ∀ (w1 : zW) (most : Int), mF [73, 74] [] w w1 → (∀ q : Nat, q ≤ k → 0 ≤ w1 74 0 q ∧ w1 74 0 q < 144) → w1 73 0 k = 3 - (jj : Int) → 0 ≤ most →
    ∃ w2, M_look_4 (d + 3) n most k w1 = M_look_4 (d + 3) n (max most (lkR (w 39 i) (od (wtM w 70 6)) m (pl (w1 74 0) (k + 1)) jj)) (k - 1) w2 ∧ mF [73, 74] [] w w2 ∧ (∀ q : Nat, q ≤ k → w2 74 0 q = w1 74 0 q) ∧ ∀ q : Nat, q < k → w2 73 0 q = w1 73 0 q := by
  intro m
  induction m with
  | zero =>
    intro k hk jj hj w1 most hf hA hB h0
    refine ⟨z_up w1 73 0 k (w1 73 0 k + 1), ?_, mF_tr hf (mF_up (by decide) (by decide)), fun q _ => up_c (by decide), fun q hq => up_s (by omega)⟩
    have hz : lkR (w 39 i) (od (wtM w 70 6)) 0 (pl (w1 74 0) (k + 1)) jj = 0 := rfl
    rw [e_M_look_4, if_neg (by omega), gd_t (by omega), gd_t (by omega), gd_t (by omega), if_pos (by omega), gd_t (by omega), hz, show max most 0 = most by omega]
    rfl
  | succ m ihm =>
    intro k hk jj
    induction jj with
    | zero =>
      intro hj w1 most hf hA hB h0
      refine ⟨z_up w1 73 0 k (w1 73 0 k + 1), ?_, mF_tr hf (mF_up (by decide) (by decide)), fun q _ => up_c (by decide), fun q hq => up_s (by omega)⟩
      have hz : lkR (w 39 i) (od (wtM w 70 6)) (m + 1) (pl (w1 74 0) (k + 1)) 0 = 0 := rfl
      have hup : (z_up w1 73 0 k (w1 73 0 k + 1)) 73 0 k = w1 73 0 k + 1 := up_h
      rw [e_M_look_4, if_neg (by omega), gd_t (by omega), gd_t (by omega), gd_t (by omega), if_neg (by omega), gd_t (by omega)]
      simp only [hup]
      rw [if_neg (by omega), gd_t (by omega), hz, show max most 0 = most by omega]
      rfl
    | succ jj ihj =>
      intro hj w1 most hf hA hB h0
      have hi := hE.2.2.2.1.1
      have hAk := hA k (Nat.le_refl _)
      have hv : w1 73 0 k + 1 = 3 - (jj : Int) := by omega
      generalize hwx : z_up w1 73 0 k (w1 73 0 k + 1) = wx
      have fx : mF [73, 74] [] w1 wx := by
        rw [← hwx]
        exact mF_up (by decide) (by decide)
      have fwx := mF_tr hf fx
      have hEx : ENV wx i j Cs := ENV_m fwx (by decide) (by decide) hE
      have x73 : wx 73 0 k = 3 - (jj : Int) := by rw [← hwx, up_h, hv]
      have x74 : ∀ q, wx 74 0 q = w1 74 0 q := fun q => by rw [← hwx, up_c (by decide)]
      have xo : ∀ q : Nat, q < k → wx 73 0 q = w1 73 0 q := fun q hq => by rw [← hwx, up_s (by omega)]
      have hnx : (nbr (wx 9 i 0) (wx 9 i 1) (md wx i 1)) (4 * w1 74 0 k + (3 - (jj : Int))) = w 39 i (4 * w1 74 0 k + (3 - (jj : Int))) := by
        rw [← hEx.2.1.nx _ (by omega) (by omega), fwx.1 39 (by decide) (by decide)]
      have hbe := m_beside (d := d) (c := w1 74 0 k) (v := 3 - (jj : Int)) (hEx.2.1.MS hEx.2.2.2.1.1 hEx.2.2.2.2.1 hEx.2.2.2.1.2 hEx.2.2.2.2.2) hAk (by omega)
      rw [hnx] at hbe
      have hnb := hE.2.1.nxB (4 * w1 74 0 k + (3 - (jj : Int))) (by omega) (by omega)
      have hhd : hd (pl (w1 74 0) (k + 1)) = w1 74 0 k := rfl
      have hup : (z_up w1 73 0 k (w1 73 0 k + 1)) 73 0 k = w1 73 0 k + 1 := up_h
      have hwM : ∀ wy : zW, mF [73, 74] [] w wy → wtM wy 70 6 = wtM w 70 6 := fun wy h => by unfold wtM; rw [h.1 70 (by decide) (by decide)]
      have hxi : wx 70 0 0 = i := hEx.2.2.2.1.1
      rw [lkR_s, hhd, e_M_look_4, if_neg (by omega), gd_t (by omega), gd_t (by omega), gd_t (by omega), if_neg (by omega), gd_t (by omega)]
      simp only [hup]
      rw [if_pos (by omega), hwx, m_woodNow, bnd]
      dsimp only
      rw [gd_t (by omega), gd_t (by omega), hxi, x74 k, x73, hbe, bnd]
      dsimp only
      by_cases z : w 39 i (4 * w1 74 0 k + (3 - (jj : Int))) = -1
      · rw [if_pos z, if_neg (by omega)]
        obtain ⟨w2, t1, t2, t3, t4⟩ := ihj (by omega) wx most fwx (fun q hq => by rw [x74]; exact hA q hq) x73 h0
        rw [pl_cg (k + 1) (fun q _ => x74 q)] at t1
        exact ⟨w2, t1, t2, fun q hq => (t3 q hq).trans (x74 q), fun q hq => (t4 q hq).trans (xo q hq)⟩
      · rw [if_neg z, if_pos (by omega), gd_t (by omega), gd_t (by omega), gd_t (by omega)]
        generalize hc : w 39 i (4 * w1 74 0 k + (3 - (jj : Int))) = c at *
        generalize hwy : z_up (z_up wx 74 0 ((k : Int) + 1) c) 73 0 ((k : Int) + 1) (-1) = wy
        have fy : mF [73, 74] [] w wy := by
          rw [← hwy]
          exact mF_tr fwx (mF_tr (mF_up (by decide) (by decide)) (mF_up (by decide) (by decide)))
        have y74 : ∀ q : Nat, q ≤ k → wy 74 0 q = w1 74 0 q := fun q hq => by rw [← hwy, up_c (by decide), up_s (by omega), x74]
        have y74k : wy 74 0 ((k + 1 : Nat) : Int) = c := by
          rw [← hwy, up_c (by decide)]
          exact up_h
        have y73k : wy 73 0 ((k + 1 : Nat) : Int) = 3 - ((4 : Nat) : Int) := by
          rw [← hwy]
          exact up_h
        have y73 : ∀ q : Nat, q ≤ k → wy 73 0 q = wx 73 0 q := fun q hq => by rw [← hwy, up_s (by omega), up_c (by decide)]
        have hAy : ∀ q : Nat, q ≤ k + 1 → 0 ≤ wy 74 0 q ∧ wy 74 0 q < 144 := fun q hq => by
          by_cases e : q = k + 1
          · rw [e, y74k]; omega
          · rw [y74 q (by omega)]; exact hA q (by omega)
        have hpl : pl (wy 74 0) (k + 1 + 1) = c :: pl (w1 74 0) (k + 1) := by
          show wy 74 0 ((k + 1 : Nat) : Int) :: pl (wy 74 0) (k + 1) = _
          rw [y74k, pl_cg (k + 1) (fun q hq => y74 q (by omega))]
        have hgo := m_gone (d := d + 1) (last := k + 1) (w := wy) (by rw [hwM wy fy]; exact hg) (by rw [hwM wy fy]; exact hT) (by omega) hAy
        rw [hwM wy fy, hpl] at hgo
        have hvb := vl_bd hg (c :: pl (w1 74 0) (k + 1))
        have hgo' : M_gone (d + 2) ((k : Int) + 1) wy = some (vl (od (wtM w 70 6)) (c :: pl (w1 74 0) (k + 1)), wy) := hgo
        rw [hgo', bnd]
        dsimp only
        have hmx : (if vl (od (wtM w 70 6)) (c :: pl (w1 74 0) (k + 1)) ≤ most then M_look_4 (d + 3) n most ((k : Int) + 1) wy else M_look_4 (d + 3) n (vl (od (wtM w 70 6)) (c :: pl (w1 74 0) (k + 1))) ((k : Int) + 1) wy) = M_look_4 (d + 3) n (max most (vl (od (wtM w 70 6)) (c :: pl (w1 74 0) (k + 1)))) ((k : Int) + 1) wy := by
          by_cases e : vl (od (wtM w 70 6)) (c :: pl (w1 74 0) (k + 1)) ≤ most
          · rw [if_pos e, show max most (vl (od (wtM w 70 6)) (c :: pl (w1 74 0) (k + 1))) = most by omega]
          · rw [if_neg e, show max most (vl (od (wtM w 70 6)) (c :: pl (w1 74 0) (k + 1))) = vl (od (wtM w 70 6)) (c :: pl (w1 74 0) (k + 1)) by omega]
        obtain ⟨w2, t1, t2, t3, t4⟩ := ihm (k + 1) (by omega) 4 (Nat.le_refl _) wy (max most (vl (od (wtM w 70 6)) (c :: pl (w1 74 0) (k + 1)))) fy hAy y73k (by omega)
        rw [hpl] at t1
        have b74 : ∀ q : Nat, q ≤ k → w2 74 0 q = w1 74 0 q := fun q hq => (t3 q (by omega)).trans (y74 q hq)
        have b73 : ∀ q : Nat, q ≤ k → w2 73 0 q = wx 73 0 q := fun q hq => (t4 q (by omega)).trans (y73 q hq)
        have hnn := lkR_nn (nx := w 39 i) (O := od (wtM w 70 6)) (m := m) (j := 4) (vis := c :: pl (w1 74 0) (k + 1))
        obtain ⟨w3, u1, u2, u3, u4⟩ := ihj (by omega) w2 (max (max most (vl (od (wtM w 70 6)) (c :: pl (w1 74 0) (k + 1)))) (lkR (w 39 i) (od (wtM w 70 6)) m (c :: pl (w1 74 0) (k + 1)) 4)) t2 (fun q hq => by rw [b74 q hq]; exact hA q hq) ((b73 k (Nat.le_refl _)).trans x73) (by omega)
        rw [pl_cg (k + 1) (fun q hq => b74 q (by omega))] at u1
        refine ⟨w3, ?_, u2, fun q hq => (u3 q hq).trans (b74 q hq), fun q hq => (u4 q hq).trans ((b73 q (by omega)).trans (xo q hq))⟩
        have e1 : ((k + 1 : Nat) : Int) - 1 = (k : Int) := by omega
        rw [e1] at t1
        refine hmx.trans ?_
        refine (t1.trans u1).trans ?_
        exact congrArg (fun z => M_look_4 (d + 3) n z ((k : Int) - 1) w3) (by omega)
theorem p_look {LS RX : Int → List clau} {w : zW} {d : Nat} (hS : Sim LS RX w) (a1 : Int) : ∃ r w1 w2, D_look (d + 12) a1 w = some (r, w1) ∧ M_look (d + 12) a1 w1 = some (r, w2) ∧ Sim LS RX w2 := by
  rcases hS.bgn with ⟨b1, b2, -⟩ | ⟨hb, hB, hE⟩
  · refine ⟨-1, w, w, ?_, ?_, hS⟩
    · rw [e_D_look, if_pos b1]
    · rw [e_M_look, none_m b2, bnd, if_pos rfl]
  by_cases h1 : 0 ≤ a1 ∧ a1 ≤ 6
  · obtain ⟨n, rfl⟩ : ∃ n : Nat, a1 = n := ⟨a1.toNat, by omega⟩
    have hod := hB.od hE
    have hwt := hB.wt
    have hh := hE.2.1.home.1
    have hF := wOK_B hod.2
    have hg := wOK_B hwt.2
    have hT := hod.2.2.2.2
    have hT2 : tot (wtM w 70 6) ≤ 1000000000 := hwt.2.2.2.2
    have hnx := hE.2.1.nxB
    generalize hwf : z_row w 46 0 (flF (w 46 0) 0 (z_ln 46) (-1)) = wf
    have ff : z_fr [46] w wf := by
      rw [← hwf]
      exact fr_row (by decide)
    obtain ⟨w1, p1, p2⟩ := s_look_5 (d := d + 10) (n := n) (i := w 7 0 0) (w := w) (by omega) rfl hh hnx hF hT (4 ^ n) 0 wf (by omega) ff (fun x x0 x1 => by
      have hz : z_ln 46 = 144 := rfl
      rw [← hwf, row_h]
      unfold flF
      rw [if_pos (by rw [hz]; omega)]
      decide)
    have hm0 : mxC (fun c => ovW (w 39 (w 7 0 0)) (od (w 19 0)) n [w 9 (w 7 0 0) 2] c) 0 = 0 := rfl
    rw [hm0, look_eq hnx hF n [w 9 (w 7 0 0) 2] hh] at p1
    have e1 : sameE w w1 := sameE_fr p2 (by decide)
    have h70 : w1 70 = w 70 := p2 70 (by decide)
    have hE1 : ENV w1 (w 7 0 0) (w 7 0 1) (LS (w 7 0 1)) := ENV_e (fun c hc => p2 c (by revert hc; revert c; decide)) (by rw [h70]; exact ⟨rfl, rfl⟩) hE
    generalize hwy : z_up (z_up w1 74 0 0 (w 9 (w 7 0 0) 2)) 73 0 0 (-1) = wy
    have fy : mF [73, 74] [] w1 wy := by
      rw [← hwy]
      exact mF_tr (mF_up (by decide) (by decide)) (mF_up (by decide) (by decide))
    have hwM1 : wtM w1 70 6 = wtM w 70 6 := by unfold wtM; rw [h70]
    have hwMy : wtM wy 70 6 = wtM w 70 6 := by unfold wtM; rw [fy.1 70 (by decide) (by decide), h70]
    have y74 : wy 74 0 ((0 : Nat) : Int) = w 9 (w 7 0 0) 2 := by
      rw [← hwy, up_c (by decide)]
      exact up_h
    have hAy : ∀ q : Nat, q ≤ 0 → 0 ≤ wy 74 0 q ∧ wy 74 0 q < 144 := fun q hq => by
      rw [show q = 0 by omega, y74]
      exact hh
    have hgo := m_gone (d := d + 10) (last := 0) (w := wy) (by rw [hwMy]; exact hg) (by rw [hwMy]; exact hT2) (by omega) hAy
    have hpl : pl (wy 74 0) (0 + 1) = [w 9 (w 7 0 0) 2] := by
      show wy 74 0 ((0 : Nat) : Int) :: [] = _
      rw [y74]
    rw [hwMy, hpl] at hgo
    have hvb := vl_bd hg [w 9 (w 7 0 0) 2]
    obtain ⟨w2, t1, t2, -, -⟩ := m_look_4 (d := d + 9) (n := n) (w := w1) (by omega) hE1 (by rw [hwM1]; exact hg) (by rw [hwM1]; exact hT2) n 0 (by omega) 4 (Nat.le_refl _) wy (vl (od (wtM w 70 6)) [w 9 (w 7 0 0) 2]) fy hAy (by rw [← hwy]; exact up_h) hvb.1
    have h39 : w1 39 = w 39 := p2 39 (by decide)
    rw [hpl, h39, hwM1] at t1
    have hO : ∀ c, 0 ≤ c → c < 144 → od (w 19 0) c = od (wtM w 70 6) c := fun c c0 c1 => od_eqR hwt.1 c0 c1
    have hle := ov_le hnx hg n [w 9 (w 7 0 0) 2]
    have hlk : ∀ (m : Nat) (vis : List Int), lkR (w 39 (w 7 0 0)) (od (w 19 0)) m vis 4 = lkR (w 39 (w 7 0 0)) (od (wtM w 70 6)) m vis 4 := by
      intro m
      induction m with
      | zero => intro vis; rfl
      | succ m ih =>
        intro vis
        show lkJ _ (fun c => max (vl (od (w 19 0)) (c :: vis)) (lkR _ (od (w 19 0)) m (c :: vis) 4)) (hd vis) 4 = lkJ _ (fun c => max (vl (od (wtM w 70 6)) (c :: vis)) (lkR _ (od (wtM w 70 6)) m (c :: vis) 4)) (hd vis) 4
        exact congrArg (fun g => lkJ (w 39 (w 7 0 0)) g (hd vis) 4) (funext fun c => by rw [vl_congr hO, ih])
    rw [vl_congr hO, hlk] at p1
    obtain ⟨cb, -, hcb⟩ := ov_at hnx hg n [w 9 (w 7 0 0) 2] hh
    have hfin : 0 ≤ max (vl (od (wtM w 70 6)) [w 9 (w 7 0 0) 2]) (lkR (w 39 (w 7 0 0)) (od (wtM w 70 6)) n [w 9 (w 7 0 0) 2] 4) ∧ max (vl (od (wtM w 70 6)) [w 9 (w 7 0 0) 2]) (lkR (w 39 (w 7 0 0)) (od (wtM w 70 6)) n [w 9 (w 7 0 0) 2] 4) ≤ 1000000000 := by
      have ov_t : ∀ (m : Nat) (vis : List Int) (c : Nat), ovW (w 39 (w 7 0 0)) (od (wtM w 70 6)) m vis c ≤ tot (wtM w 70 6) := by
        intro m
        induction m with
        | zero => intro vis c; exact (vl_bd hg vis).2
        | succ m ih =>
          intro vis c
          show (if _ then _ else _) ≤ _
          split
          · exact (vl_bd hg vis).2
          · exact ih _ _
      have := ov_t n [w 9 (w 7 0 0) 2] cb
      omega
    refine ⟨max (vl (od (wtM w 70 6)) [w 9 (w 7 0 0) 2]) (lkR (w 39 (w 7 0 0)) (od (wtM w 70 6)) n [w 9 (w 7 0 0) 2] 4), w1, w2, ?_, ?_, ?_⟩
    · rw [e_D_look, if_neg (by omega), if_neg (by omega), if_pos (by omega), s_fillI rfl (by decide), bnd]
      dsimp only
      rw [hwf]
      exact p1
    · have hgo1 : M_isWalk (d + 11) w1 = some (1, w1) := by
        have := hB.2.1.2.1
        rw [m_isWalk, h70, if_neg (by omega)]
      have hw1i : w1 70 0 0 = w 7 0 0 := hE1.2.2.2.1.1
      have hhome := m_homeAt (d := d + 11) hE1
      rw [p2 9 (by decide)] at hhome
      rw [e_M_look, hgo1, bnd]
      dsimp only
      rw [if_neg (show ¬ (1 : Int) = 0 by decide), m_in, bnd, if_pos h1]
      dsimp only
      rw [if_neg (show ¬ (1 : Int) = 0 by decide), m_woodNow, bnd]
      dsimp only
      rw [hw1i, hhome, bnd]
      dsimp only
      rw [gd_t (by decide), gd_t (by decide), hwy]
      have hgo' : M_gone (d + 11) 0 wy = some (vl (od (wtM w 70 6)) [w 9 (w 7 0 0) 2], wy) := hgo
      rw [hgo', bnd]
      refine t1.trans ?_
      rw [e_M_look_4, if_pos (by omega), gd_t (by omega)]
    · refine Sim_ask (fun c hc => ?_) (fun s hs => ?_) ?_ (fun _ => ?_) hS
      · rw [t2.1 c (by revert hc; revert c; decide) (by revert hc; revert c; decide)]
        exact p2 c (by revert hc; revert c; decide)
      · rw [t2.1 4 (by decide) (by decide), t2.1 19 (by decide) (by decide), p2 4 (by decide), p2 19 (by decide)]
        exact ⟨rfl, rfl⟩
      · rw [t2.2 1 (by decide), p2 11 (by decide)]
      · exact RC_fr (sameE_tr e1 (sameE_m t2 (by decide))) (by rw [t2.1 26 (by decide) (by decide), p2 26 (by decide)]) (by rw [t2.1 27 (by decide) (by decide), p2 27 (by decide)]) hE.1.2.2.2.2.2.2.2.2.2
  · refine ⟨-1, w, w, ?_, ?_, hS⟩
    · rw [e_D_look, if_neg (by omega)]
      by_cases z : a1 < 0
      · rw [if_pos z]
      · rw [if_neg z, if_neg (by omega)]
    · rw [e_M_look, gone_m hB, bnd]
      dsimp only
      rw [if_neg (show ¬ (1 : Int) = 0 by decide), m_in, bnd, if_neg h1, if_pos rfl]
