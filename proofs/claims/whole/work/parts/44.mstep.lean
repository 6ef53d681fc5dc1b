/-! THE STEP: the model's; what a law tells of a cell -/
def wds (p g s h : Int → Int) (c e : Int) : Int → Int := fun j => if j = 0 then p c else if j = 1 then g c else if j = 2 then s c else if j = 3 then h c else e
def ahd (p g s h : Int → Int) (Cs : List clau) (c e : Int) : Int := max 0 (min 1000 (firstV (wds p g s h c e) 900 Cs))
theorem ahd_bd {p g s h : Int → Int} {Cs : List clau} {c e : Int} : 0 ≤ ahd p g s h Cs c e ∧ ahd p g s h Cs c e ≤ 1000 := by unfold ahd; omega
def md (w : zW) (i k : Int) : Int → Int := fun c => w 64 0 (144 * (6 * i + k) + c)
def mfr (w w' : zW) : Prop := (∀ c, c ≠ 11 → c ≠ 68 → c ≠ 69 → c ≠ 72 → w' c = w c) ∧ ∀ s, s ≠ 30 → w' 11 0 s = w 11 0 s
theorem mfr_rf (w : zW) : mfr w w := ⟨fun _ _ _ _ _ => rfl, fun _ _ => rfl⟩
theorem mfr_tr {w w' w'' : zW} (h1 : mfr w w') (h2 : mfr w' w'') : mfr w w'' := ⟨fun c a b x y => (h2.1 c a b x y).trans (h1.1 c a b x y), fun s hs => (h2.2 s hs).trans (h1.2 s hs)⟩
theorem mfr_mk {w : zW} {S : Int → Int} {h : Int} : mfr w (mk w S h) := ⟨fun c a b _ _ => by funext i s; exact mk_o b a, fun s hs => mk_11 hs⟩
theorem mfr_69 {w : zW} {k v : Int} : mfr w (z_up w 69 0 k v) := ⟨fun c _ _ x _ => by funext i s; exact up_c x, fun s _ => up_c (by decide)⟩
theorem mfr_72 {w : zW} {X : Int → Int} : mfr w (z_row w 72 0 X) := ⟨fun c _ _ _ x => by funext i s; exact row_c x, fun s _ => row_c (by decide)⟩
theorem up_self (w : zW) (c : Nat) (i s : Int) : z_up w c i s (w c i s) = w := by
  funext c' i' s'
  unfold z_up
  split
  · next e => rw [e.1, e.2.1, e.2.2]
  · rfl
theorem mk_id (w : zW) : mk w (w 68 0) (w 11 0 30) = w := by
  unfold mk
  rw [row_self, up_self]
theorem clMs_fr {w w' : zW} {t k : Int} {r : Bool} {L : List tok} (h50 : w' 50 = w 50) (h52 : w' 52 = w 52) : clMs w' t k r L ↔ clMs w t k r L := by
  unfold clMs
  rw [h50, h52]
theorem clMt_fr {w w' : zW} {t k : Int} {L : List tok} (h50 : w' 50 = w 50) (h52 : w' 52 = w 52) : clMt w' t k L ↔ clMt w t k L := by
  unfold clMt
  rw [h50, h52]
theorem ClM_fr {w w' : zW} {t : Int} {r : Bool} (h50 : w' 50 = w 50) (h52 : w' 52 = w 52) (h53 : w' 53 = w 53) : ∀ (Cs : List clau) (k : Int), ClM w t r k Cs → ClM w' t r k Cs := by
  intro Cs
  induction Cs with
  | nil =>
    intro k h
    show w' 53 0 t = k
    rw [h53]
    exact h
  | cons C Cs ih =>
    intro k h
    exact ⟨⟨(clMs_fr h50 h52).2 h.1.1, (clMt_fr h50 h52).2 h.1.2⟩, ih (k + 1) h.2⟩
theorem m_stepAt {d : Nat} {i j c e : Int} {w : zW} {Cs : List clau} (hi : w 70 0 0 = i) (h4 : 0 ≤ i ∧ i < 4) (hj : w 70 0 1 = j) (h6 : 0 ≤ j ∧ j < 6) (hc : 0 ≤ c ∧ c < 144) (hM : ClM w j false 0 Cs) (hT : ∀ C ∈ Cs, clT 5 C) (h12 : Cs.length ≤ 12) :
    ∃ w', M_stepAt (d + 3) c e w = some (ahd (md w i 0) (md w i 2) (md w i 3) (md w i 4) Cs c e, w') ∧ mfr w w' ∧ w' 72 = w 72 := by
  have hw70 : ∀ (w' : zW) (k v : Int), (z_up w' 69 0 k v) 70 = w' 70 := fun w' k v => by funext a b; exact up_c (by decide)
  have hw64 : ∀ (w' : zW) (k v : Int), (z_up w' 69 0 k v) 64 = w' 64 := fun w' k v => by funext a b; exact up_c (by decide)
  rw [e_M_stepAt, m_woodNow, bnd]
  dsimp only
  rw [hi, m_at h4 (by decide) hc, bnd]
  dsimp only
  rw [gd_t (by decide), m_woodNow, bnd]
  dsimp only
  rw [hw70, hi, m_at h4 (by decide) hc, bnd]
  dsimp only
  rw [hw64, gd_t (by decide), m_woodNow, bnd]
  dsimp only
  rw [hw70, hw70, hi, m_at h4 (by decide) hc, bnd]
  dsimp only
  rw [hw64, hw64, gd_t (by decide), m_woodNow, bnd]
  dsimp only
  rw [hw70, hw70, hw70, hi, m_at h4 (by decide) hc, bnd]
  dsimp only
  rw [hw64, hw64, hw64, gd_t (by decide), gd_t (by decide), m_lawNow, bnd]
  dsimp only
  rw [hw70, hw70, hw70, hw70, hw70, hj]
  generalize hW5 : z_up (z_up (z_up (z_up (z_up w 69 0 0 (w 64 0 (144 * (6 * i + 0) + c))) 69 0 1 (w 64 0 (144 * (6 * i + 2) + c))) 69 0 2 (w 64 0 (144 * (6 * i + 3) + c))) 69 0 3 (w 64 0 (144 * (6 * i + 4) + c))) 69 0 4 e = W5
  have hf5 : mfr w W5 := by
    rw [← hW5]
    exact mfr_tr (mfr_tr (mfr_tr (mfr_tr mfr_69 mfr_69) mfr_69) mfr_69) mfr_69
  have h72 : W5 72 = w 72 := by
    funext a b
    rw [← hW5, up_c (by decide), up_c (by decide), up_c (by decide), up_c (by decide), up_c (by decide)]
  have h72' : ∀ S h, (mk W5 S h) 72 = w 72 := fun S h => by
    funext a b
    rw [mk_o (by decide) (by decide), h72]
  have hwd : ∀ q, 0 ≤ q → q < 5 → W5 69 0 q = wds (md w i 0) (md w i 2) (md w i 3) (md w i 4) c e q := fun q q0 q1 => by
    have : q = 0 ∨ q = 1 ∨ q = 2 ∨ q = 3 ∨ q = 4 := by omega
    rw [← hW5]
    rcases this with rfl | rfl | rfl | rfl | rfl
    · rw [up_s (by decide), up_s (by decide), up_s (by decide), up_s (by decide), up_h]; rfl
    · rw [up_s (by decide), up_s (by decide), up_s (by decide), up_h]; rfl
    · rw [up_s (by decide), up_s (by decide), up_h]; rfl
    · rw [up_s (by decide), up_h]; rfl
    · rw [up_h]; rfl
  have hM5 : ClM W5 j false 0 Cs := ClM_fr (hf5.1 50 (by decide) (by decide) (by decide) (by decide)) (hf5.1 52 (by decide) (by decide) (by decide) (by decide)) (hf5.1 53 (by decide) (by decide) (by decide) (by decide)) Cs 0 hM
  have hV : firstV (W5 69 0) 900 Cs = firstV (wds (md w i 0) (md w i 2) (md w i 3) (md w i 4) c e) 900 Cs := firstV_W hwd Cs hT
  obtain ⟨S', h', hcl⟩ := m_clauseThat (d := d) (n := 5) (by omega) (by omega) Cs 0 (W5 68 0) (W5 11 0 30) hM5 hT (Int.le_refl 0) (by omega)
  rw [mk_id] at hcl
  rw [e_M_clauseThat, hcl, bnd]
  dsimp only
  rw [m_lawNow, bnd]
  dsimp only
  have h70 : ∀ S h, (mk W5 S h) 70 0 1 = j := fun S h => by rw [mk_o (by decide) (by decide), hf5.1 70 (by decide) (by decide) (by decide) (by decide), hj]
  rw [h70]
  rcases first_at (W := W5 69 0) (df := 900) Cs 0 (Int.le_refl 0) hM5 hT with ⟨q1, q2⟩ | ⟨C, q1, q2, q3, q4, q5⟩
  · rw [q1, gd_t (by omega), gd_t (by omega), gd_t (by omega), if_neg (by decide)]
    have hval : ahd (md w i 0) (md w i 2) (md w i 3) (md w i 4) Cs c e = 900 := by
      unfold ahd
      rw [← hV, q2]
      rfl
    rw [hval]
    exact ⟨_, rfl, mfr_tr hf5 mfr_mk, h72' _ _⟩
  · obtain ⟨t1, t2, t3, t4, t5, t6⟩ := q1
    unfold clMs at q4
    rw [if_neg (by decide)] at q4
    obtain ⟨m1, m2, m3, m4⟩ := q4
    rw [gd_t (by omega), gd_t (by omega), gd_t (by omega), if_pos q2, m_lawNow, bnd]
    dsimp only
    rw [h70, gd_t (by omega), gd_t (by omega), gd_t (by omega), gd_t (by omega), mk_o (by decide) (by decide), mk_o (by decide) (by decide)]
    rw [m_reckons (by omega) m4 (fun x hx => tok_mono (by omega) (t1 x hx)) m2 m1 m3.symm t5 t3, bnd]
    dsimp only
    rw [m_bounded (by decide), bnd]
    dsimp only
    rw [evs_val t1 t5, ← q5, gd_t (by omega)]
    have hval : ahd (md w i 0) (md w i 2) (md w i 3) (md w i 4) Cs c e = max 0 (min 1000 (firstV (W5 69 0) 900 Cs)) := by
      unfold ahd
      rw [hV]
    rw [hval]
    exact ⟨_, rfl, mfr_tr hf5 mfr_mk, h72' _ _⟩
