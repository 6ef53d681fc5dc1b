theorem s_fillI_1 {d k : Nat} {i v n : Int} {w : zW} (hk : z_kd k = 1) (hn : n ≤ z_ln k) (h3 : z_ln k ≤ 100000) {a : Int} (ha : 0 ≤ a) : ∀ (m : Nat) (b : Int), a ≤ b → b + m = n → J_fillI_1 d k i v b n (z_row w k i (flF (w k i) a b v)) = some (0, z_row w k i (flF (w k i) a n v)) := by
  intro m
  induction m with
  | zero =>
    intro b hb hm
    rw [e_J_fillI_1, if_pos (by omega), show b = n by omega]
  | succ m ih =>
    intro b hb hm
    rw [e_J_fillI_1, if_neg (by omega), gd_t ⟨hk, by omega, by omega⟩, gd_t (by omega), row_up, flF_up hb]
    exact ih (b + 1) (by omega) (by omega)
theorem s_fillI {d k : Nat} {i v : Int} {w : zW} (hk : z_kd k = 1) (h3 : 0 ≤ z_ln k ∧ z_ln k ≤ 100000) : J_fillI d k i v w = some (0, z_row w k i (flF (w k i) 0 (z_ln k) v)) := by
  have h := s_fillI_1 (d := d) (i := i) (v := v) (w := w) hk (Int.le_refl _) h3.2 (Int.le_refl 0) (z_ln k).toNat 0 (by omega) (by omega)
  rw [flF_0, row_self] at h
  rw [e_J_fillI, gd_t (Or.inl hk), h]
/-- the class's stamps -/
def stV (w : zW) (vis : List Int) (code : Int) : Prop := ∀ c, 0 ≤ c → c < 144 → (w 46 0 c = code ↔ c ∈ vis) ∧ w 46 0 c ≤ code
theorem s_over_1 {d n code : Nat} {i : Int} {w : zW} (hn6 : n ≤ 6) (hc4 : code < 4096) (hi : w 7 0 0 = i) (hn : nxB (w 39 i)) (hF : wtB (w 19 0)) (hT : tot (w 19 0) ≤ 1000000000) : ∀ (m k : Nat) (vis : List Int) (w1 : zW), k + m = n → visB vis → z_fr [46] w w1 → stV w1 vis code →
    ∃ w2 vis2, D_overWay_1 (d + 1) n code (hd vis) (vl (od (w 19 0)) vis) k w1 = some (ovW (w 39 i) (od (w 19 0)) m vis (code / 4 ^ k), w2) ∧ z_fr [46] w w2 ∧ stV w2 vis2 code := by
  intro m
  induction m with
  | zero =>
    intro k vis w1 hk hv hf hs
    exact ⟨w1, vis, by rw [e_D_overWay_1, if_pos (by omega)]; rfl, hf, hs⟩
  | succ m ih =>
    intro k vis w1 hk hv hf hs
    have r7 := hf 7 (by decide)
    have r39 := hf 39 (by decide)
    have r19 := hf 19 (by decide)
    have hdg : dg code k = ((code / 4 ^ k % 4 : Nat) : Int) := rfl
    have hdb := dg_bd code k
    have hnb := hn (4 * hd vis + dg code k) (by omega) (by omega)
    have hov : ovW (w 39 i) (od (w 19 0)) (m + 1) vis (code / 4 ^ k) = if w 39 i (4 * hd vis + dg code k) = -1 then vl (od (w 19 0)) vis else ovW (w 39 i) (od (w 19 0)) m (w 39 i (4 * hd vis + dg code k) :: vis) (code / 4 ^ (k + 1)) := by
      rw [hdg, Nat.pow_succ, ← Nat.div_div_eq_div_mul]
      rfl
    have hvb := vl_bd hF vis
    rw [hov, e_D_overWay_1, if_neg (by omega), gd_t (by omega), gd_t (by omega), gd_t (by omega), dg_z code k hc4, Int.mul_comm (hd vis) 4, gd_t (by omega), gd_t (by omega), r7, hi, r39]
    by_cases z : w 39 i (4 * hd vis + dg code k) = -1
    · rw [if_pos z, if_pos z]
      exact ⟨w1, vis, rfl, hf, hs⟩
    · rw [if_neg z, if_neg z]
      generalize hc : w 39 i (4 * hd vis + dg code k) = c at *
      have c0 : 0 ≤ c ∧ c < 144 := by omega
      have hsc := hs c c0.1 c0.2
      have hvc := vl_cons (O := od (w 19 0)) (vis := vis) c0
      rw [gd_t (by omega)]
      by_cases y : w1 46 0 c = code
      · rw [if_pos (hsc.1.1 y), Int.add_zero] at hvc
        rw [if_pos y, gd_t (by omega), ← hvc]
        exact ih (k + 1) (c :: vis) w1 (by omega) c0 hf (fun x x0 x1 => by
          have hx := hs x x0 x1
          refine ⟨hx.1.trans ⟨fun q => List.mem_cons_of_mem _ q, fun q => (List.mem_cons.mp q).elim (fun e => by rw [e]; exact hsc.1.1 y) id⟩, hx.2⟩)
      · rw [if_neg (fun q => y (hsc.1.2 q))] at hvc
        have hod := od_bd hF c0
        have fx : z_fr [46] w1 (z_up w1 46 0 c code) := fr_up (by decide)
        rw [if_neg y, gd_t (by omega), s_weightAt c0 (by rw [fx 19 (by decide), r19]; exact hF), bnd, if_neg (by omega)]
        dsimp only
        rw [fx 19 (by decide), r19, gd_t (by omega), gd_t (by omega), ← hvc]
        exact ih (k + 1) (c :: vis) (z_up w1 46 0 c code) (by omega) c0 (fr_tr hf fx) (fun x x0 x1 => by
          have hx := hs x x0 x1
          by_cases e : x = c
          · rw [e, up_h]
            exact ⟨⟨fun _ => List.mem_cons_self, fun _ => rfl⟩, Int.le_refl _⟩
          · rw [up_s e]
            exact ⟨hx.1.trans ⟨fun q => List.mem_cons_of_mem _ q, fun q => (List.mem_cons.mp q).elim (fun z => absurd z e) id⟩, hx.2⟩)
theorem s_overWay {d n code : Nat} {i : Int} {w : zW} (hn6 : n ≤ 6) (hc4 : code < 4096) (hi : w 7 0 0 = i) (hh : 0 ≤ w 9 i 2 ∧ w 9 i 2 < 144) (hn : nxB (w 39 i)) (hF : wtB (w 19 0)) (hT : tot (w 19 0) ≤ 1000000000) (hs : ∀ c, 0 ≤ c → c < 144 → w 46 0 c < code) :
    ∃ w2, D_overWay (d + 1) n code w = some (ovW (w 39 i) (od (w 19 0)) n [w 9 i 2] code, w2) ∧ z_fr [46] w w2 ∧ ∀ c, 0 ≤ c → c < 144 → w2 46 0 c ≤ code := by
  have fx : z_fr [46] w (z_up w 46 0 (w 9 i 2) code) := fr_up (by decide)
  have hv1 : vl (od (w 19 0)) [w 9 i 2] = od (w 19 0) (w 9 i 2) := by
    rw [vl_cons hh, vl_nil, if_neg List.not_mem_nil, Int.zero_add]
  obtain ⟨w2, vis2, q1, q2, q3⟩ := s_over_1 (d := d) (n := n) (code := code) hn6 hc4 hi hn hF hT n 0 [w 9 i 2] (z_up w 46 0 (w 9 i 2) code) (by omega) hh fx (fun x x0 x1 => by
    by_cases e : x = w 9 i 2
    · rw [e, up_h]
      exact ⟨⟨fun _ => List.mem_singleton.mpr rfl, fun _ => rfl⟩, Int.le_refl _⟩
    · rw [up_s e]
      have := hs x x0 x1
      exact ⟨⟨fun q => by omega, fun q => absurd (List.mem_singleton.mp q) e⟩, by omega⟩)
  refine ⟨w2, ?_, q2, fun c c0 c1 => (q3 c c0 c1).2⟩
  rw [hv1, Nat.pow_zero, Nat.div_one] at q1
  rw [e_D_overWay, hi, gd_t hh, s_weightAt hh (by rw [fx 19 (by decide)]; exact hF), bnd, if_neg (by omega)]
  dsimp only
  rw [fx 19 (by decide)]
  exact q1
theorem s_look_5 {d n : Nat} {i : Int} {w : zW} (hn6 : n ≤ 6) (hi : w 7 0 0 = i) (hh : 0 ≤ w 9 i 2 ∧ w 9 i 2 < 144) (hn : nxB (w 39 i)) (hF : wtB (w 19 0)) (hT : tot (w 19 0) ≤ 1000000000) : ∀ (m c : Nat) (w1 : zW), c + m = 4 ^ n → z_fr [46] w w1 → (∀ x, 0 ≤ x → x < 144 → w1 46 0 x < c) →
    ∃ w2, D_look_5 (d + 2) n (mxC (fun c => ovW (w 39 i) (od (w 19 0)) n [w 9 i 2] c) c) c w1 = some (mxC (fun c => ovW (w 39 i) (od (w 19 0)) n [w 9 i 2] c) (4 ^ n), w2) ∧ z_fr [46] w w2 := by
  have hp := p4_le hn6
  have hp1 := p4_pos n
  have hmx : ∀ N, 0 ≤ mxC (fun c => ovW (w 39 i) (od (w 19 0)) n [w 9 i 2] c) N := fun N => by
    induction N with
    | zero => exact Int.le_refl 0
    | succ N ih =>
      show 0 ≤ max (mxC _ N) _
      omega
  intro m
  induction m with
  | zero =>
    intro c w1 hc hf hs
    have hcn : c = 4 ^ n := by omega
    have he := look_eq hn hF n [w 9 i 2] hh
    obtain ⟨c', c1, c2⟩ := ov_at hn hF n [w 9 i 2] hh
    have hle : mxC (fun c => ovW (w 39 i) (od (w 19 0)) n [w 9 i 2] c) (4 ^ n) ≤ 1000000000 := mxC_le (by omega) _ (fun c _ => by
      have ov_t : ∀ (m : Nat) (vis : List Int) (c : Nat), ovW (w 39 i) (od (w 19 0)) m vis c ≤ tot (w 19 0) := by
        intro m
        induction m with
        | zero => intro vis c; exact (vl_bd hF vis).2
        | succ m ih =>
          intro vis c
          show (if _ then _ else _) ≤ _
          split
          · exact (vl_bd hF vis).2
          · exact ih _ _
      have := ov_t n [w 9 i 2] c
      omega)
    have := hmx (4 ^ n)
    refine ⟨w1, ?_, hf⟩
    rw [e_D_look_5, gd_t (by omega), p4, gd_t (by omega), if_pos (by omega), hcn, gd_t (by omega)]
  | succ m ih =>
    intro c w1 hc hf hs
    have r7 := hf 7 (by decide)
    have r39 := hf 39 (by decide)
    have r19 := hf 19 (by decide)
    have r9 := hf 9 (by decide)
    obtain ⟨w2, q1, q2, q3⟩ := s_overWay (d := d) (n := n) (code := c) (i := i) (w := w1) hn6 (by omega) (by rw [r7]; exact hi) (by rw [r9]; exact hh) (by rw [r39]; exact hn) (by rw [r19]; exact hF) (by rw [r19]; exact hT) hs
    rw [r39, r19, r9] at q1
    obtain ⟨w3, t1, t2⟩ := ih (c + 1) w2 (by omega) (fr_tr hf q2) (fun x x0 x1 => by have := q3 x x0 x1; omega)
    refine ⟨w3, ?_, t2⟩
    rw [← t1, e_D_look_5, gd_t (by omega), p4, gd_t (by omega), if_neg (by omega), q1, bnd]
    dsimp only
    rw [gd_t (by omega)]
    rfl
