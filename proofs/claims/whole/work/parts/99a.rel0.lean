/-! THE FIRST WORLD, and the cells that the makings leave, as its cells; written by wip/whole/gen_start.py -/
def w00 : zW := fun c _ s => if c = 5 ∧ s = 8 then 12 else if c = 31 ∧ s < 8 then -1 else if c = 70 ∧ (s = 0 ∨ (1382 ≤ s ∧ s < 1390)) then -1 else 0
theorem w00_0 {c : Nat} {i s : Int} (h5 : c ≠ 5) (h31 : c ≠ 31) (h70 : c ≠ 70) : w00 c i s = 0 := by
  unfold w00
  rw [if_neg (fun h => h5 h.1), if_neg (fun h => h31 h.1), if_neg (fun h => h70 h.1)]
theorem fk_ok (c f : Nat) (h : (z_fk c f).1 = 5) : 0 < z_nin (z_fk c f).2.1 := by
  have hall : ∀ r ∈ z_fkL, ∀ q ∈ r, q.1 = 5 → 0 < z_nin q.2.1 := by decide +kernel
  have e : z_fk c f = ((z_fkL[c]?.getD [])[f]?).getD (9, 0, 0) := by
    unfold z_fk
    rw [List.getD_eq_getElem?_getD, List.getD_eq_getElem?_getD]
  rw [e] at h ⊢
  cases hc : z_fkL[c]? with
  | none =>
    rw [hc] at h
    have e0 : (none : Option (List (Nat × Nat × Int))).getD [] = [] := rfl
    rw [e0, List.getElem?_nil] at h
    exact absurd h (by decide)
  | some r =>
    rw [hc] at h
    have e1 : (some r).getD ([] : List (Nat × Nat × Int)) = r := rfl
    rw [e1] at h ⊢
    cases hf : r[f]? with
    | none =>
      rw [hf] at h
      exact absurd h (by decide)
    | some q =>
      rw [hf] at h
      exact hall r (List.mem_of_getElem? hc) q (List.mem_of_getElem? hf) h
theorem can0 (c : Nat) (s : Int) : z_rng c s 0 := by
  unfold z_rng
  repeat' split
  all_goals first | exact trivial | decide | exact ⟨Int.le_refl 0, fk_ok _ _ (by assumption)⟩
theorem can00 : z_can w00 := by
  intro c i s
  have h5 : z_rng 5 8 12 := by
    unfold z_rng
    rw [if_pos (by decide), if_neg (by decide), if_neg (by decide), if_neg (by decide), if_pos (by decide)]
    exact ⟨by decide, by decide⟩
  have h31 : ∀ s, z_rng 31 s (-1) := fun s => by
    unfold z_rng
    rw [if_neg (by decide), if_pos (by decide)]
    decide
  have h70 : ∀ s, z_rng 70 s (-1) := fun s => by
    unfold z_rng
    rw [if_neg (by decide), if_pos (by decide)]
    decide
  unfold w00
  by_cases q1 : c = 5 ∧ s = 8
  · rw [if_pos q1, q1.1, q1.2]; exact h5
  rw [if_neg q1]
  by_cases q2 : c = 31 ∧ s < 8
  · rw [if_pos q2, q2.1]; exact h31 s
  rw [if_neg q2]
  by_cases q3 : c = 70 ∧ (s = 0 ∨ (1382 ≤ s ∧ s < 1390))
  · rw [if_pos q3, q3.1]; exact h70 s
  rw [if_neg q3]
  exact can0 c s
theorem sim00 : Sim (fun _ => []) (fun _ => []) w00 := by
  have hp : RP w00 0 (w00 70 0) := fun k k0 k1 => by
    have e1 : w00 31 0 k = -1 := by
      unfold w00
      rw [if_neg (by omega), if_pos ⟨rfl, k1⟩]
    have e2 : w00 70 0 (1382 + k) = -1 := by
      unfold w00
      rw [if_neg (by omega), if_neg (by omega), if_pos ⟨rfl, Or.inr ⟨by omega, by omega⟩⟩]
    rw [e1, e2]
    decide
  have z4 : w00 10 0 4 = 0 := w00_0 (by decide) (by decide) (by decide)
  have z5 : w00 10 0 5 = 0 := w00_0 (by decide) (by decide) (by decide)
  have z6 : w00 10 0 6 = 0 := w00_0 (by decide) (by decide) (by decide)
  have z8 : ∀ i s, w00 8 i s = 0 := fun i s => w00_0 (by decide) (by decide) (by decide)
  have z51 : w00 5 0 1 = 0 := by decide +kernel
  refine ⟨⟨by rw [z51]; decide, by rw [z51]; exact w00_0 (by decide) (by decide) (by decide), fun k k0 k1 => absurd k1 (by rw [z51]; omega)⟩, ⟨⟨by rw [z4]; exact w00_0 (by decide) (by decide) (by decide), by rw [z4]; decide, by rw [z4]; decide⟩, ⟨by rw [z5]; exact w00_0 (by decide) (by decide) (by decide), by rw [z5]; decide, by rw [z5]; decide⟩, by rw [z6]; exact w00_0 (by decide) (by decide) (by decide), by rw [z6]; decide, by rw [z6]; decide⟩,
    fun i i0 i1 => absurd i1 (by rw [z4]; omega), fun i _ _ => ⟨by rw [w00_0 (by decide) (by decide) (by decide)]; decide, by rw [w00_0 (by decide) (by decide) (by decide)]; decide⟩, fun j j0 j1 => absurd j1 (by rw [z5]; omega), fun r r0 r1 => absurd r1 (by rw [z6]; omega), ⟨by rw [w00_0 (by decide) (by decide) (by decide)]; decide, by rw [w00_0 (by decide) (by decide) (by decide)]; decide⟩, ⟨hp, Or.inl ⟨z8 _ _, by decide +kernel, z8 _ _⟩⟩, fun h => absurd h (by rw [z8]; decide), fun k k0 k1 => ⟨Or.inl (z8 _ _), by rw [z8]; exact w00_0 (by decide) (by decide) (by decide), fun h => absurd h (by rw [z8]; decide)⟩⟩
/-! lists of cells, one for another -/
def zle (G : va_G) : va_W → va_W → Prop
  | [], [] => True
  | x :: l, y :: m => (x.1 = y.1 ∧ ∀ H : Heap, va_at G zCl x H → va_at G zCl y H) ∧ zle G l m
  | [], _ :: _ => False
  | _ :: _, [] => False
theorem zle_app {G : va_G} : ∀ {a b c d : va_W}, zle G a b → zle G c d → zle G (a ++ c) (b ++ d)
  | [], [], _, _, _, h => h
  | _ :: _, _ :: _, _, _, h1, h2 => ⟨h1.1, zle_app h1.2 h2⟩
  | [], _ :: _, _, _, h, _ => h.elim
  | _ :: _, [], _, _, h, _ => h.elim
theorem zle_get {G : va_G} : ∀ {a b : va_W}, zle G a b → ∀ {k : Nat} {y : Nat × va_E}, b[k]? = some y → ∃ x, a[k]? = some x ∧ x.1 = y.1 ∧ ∀ H : Heap, va_at G zCl x H → va_at G zCl y H
  | [], [], _, k, y, h => by simp at h
  | x :: a, z :: b, h, 0, y, hk => by
    have hz : z = y := Option.some.inj hk
    subst hz
    exact ⟨x, rfl, h.1⟩
  | x :: a, z :: b, h, k + 1, y, hk => by
    obtain ⟨x', q1, q2⟩ := zle_get h.2 (k := k) (y := y) hk
    exact ⟨x', q1, q2⟩
  | [], _ :: _, h, _, _, _ => h.elim
  | _ :: _, [], h, _, _, _ => h.elim
theorem zle_P {G : va_G} {a b : va_W} {H : Heap} (h : zle G a b) (hP : va_P G zCl a H) : va_P G zCl b H := fun k y hy => by
  obtain ⟨x, q1, q2, q3⟩ := zle_get h hy
  exact q3 H (hP k x q1)
theorem zle_D {G : va_G} {A : Nat → Prop} {a b : va_W} (h : zle G a b) (hD : va_D A a) : va_D A b := by
  refine ⟨fun i j p q hp hq e => ?_, fun k q hq => ?_⟩
  · obtain ⟨x, x1, x2, -⟩ := zle_get h hp
    obtain ⟨y, y1, y2, -⟩ := zle_get h hq
    exact hD.1 i j x y x1 y1 (by rw [x2, y2, e])
  · obtain ⟨x, x1, x2, -⟩ := zle_get h hq
    rw [← x2]
    exact hD.2 k x x1
def zb (E : zE) (l : List (Nat × Int)) : va_W := l.map fun q => (E.2.2 q.1 q.2, z_ent E q.1 q.2 w00)
def zlb (E : zE) (a : va_W) (l : List (Nat × Int)) : Prop := zle E.1 a (zb E l)
theorem zlb_nil {E : zE} : zlb E [] [] := trivial
theorem zlb_app {E : zE} {a c : va_W} {p r : List (Nat × Int)} (h1 : zlb E a p) (h2 : zlb E c r) : zlb E (a ++ c) (p ++ r) := by
  unfold zlb zb
  rw [List.map_append]
  exact zle_app h1 h2
theorem zlb_c {E : zE} {a : Nat} {e : va_E} {l : va_W} {c : Nat} {i : Int} {p : List (Nat × Int)} (h1 : a = E.2.2 c i) (h2 : z_ent E c i w00 = e) (h3 : zlb E l p) : zlb E ((a, e) :: l) ((c, i) :: p) :=
  ⟨⟨h1, fun H q => by
    show va_at E.1 zCl (E.2.2 c i, z_ent E c i w00) H
    rw [h2, ← h1]
    exact q⟩, h3⟩
theorem zlb_1 {E : zE} {a : Nat} {e : va_E} {c : Nat} {i : Int} (h1 : a = E.2.2 c i) (h2 : z_ent E c i w00 = e) : zlb E [(a, e)] [(c, i)] := zlb_c h1 h2 zlb_nil
theorem arrV_cong {cI : ClassId} {N : Nat} {f g : Nat → Value} (h : ∀ j, j < N → f j = g j) : arrV cI N f = arrV cI N g := by
  have e : (fun j : Fin N => f j.val) = fun j => g j.val := funext fun j => h j.val j.isLt
  unfold arrV
  rw [e]
theorem zlb_q {E : zE} {a c t N : Nat} {f : Nat → Option Nat} (h1 : a = E.2.2 c 0) (k0 : ¬ z_kd c = 0) (k4 : ¬ z_kd c = 4) (k5 : z_kd c = 5) (ht : z_ak c = t) (hn : (z_ln c).toNat = N) (hf : ∀ j : Nat, j < N → f j = some (E.2.2 (z_ra c).1 ((z_ra c).2 + j))) : zlb E [(a, .inl (E.2.1 t, rfs N f))] [(c, 0)] :=
  ⟨⟨h1, fun H q => by
    show va_at E.1 zCl (E.2.2 c 0, z_ent E c 0 w00) H
    unfold z_ent
    rw [if_neg k0, if_neg k4, if_pos k5, ht, hn, ← h1]
    have q' : H[a]? = some (vp_cell (E.2.1 t) (rfs N f)) := q
    show H[a]? = some (vp_cell (E.2.1 t) (rfs N _))
    rw [q', vp_cell_q, vp_cell_q]
    congr 1
    exact arrV_cong (fun j hj => by rw [hf j hj])⟩, trivial⟩
def pf (p : Nat → List (Nat × Int)) : Nat → List (Nat × Int)
  | 0 => []
  | n + 1 => pf p n ++ p n
theorem zlb_fl {E : zE} {X : Nat → va_W} {p : Nat → List (Nat × Int)} : ∀ {n : Nat}, (∀ j, j < n → zlb E (X j) (p j)) → zlb E (zfl X n) (pf p n)
  | 0, _ => zlb_nil
  | n + 1, h => zlb_app (zlb_fl (n := n) (fun j hj => h j (by omega))) (h n (by omega))
theorem ze_i {E : zE} {c t N : Nat} {i : Int} (k0 : ¬ z_kd c = 0) (k4 : ¬ z_kd c = 4) (k5 : ¬ z_kd c = 5) (ht : z_ak c = t) (hn : (z_ln c).toNat = N) (q5 : c ≠ 5) (q31 : c ≠ 31) (q70 : c ≠ 70) : z_ent E c i w00 = .inl (E.2.1 t, (N, .inl fun _ => 0)) := by
  have e : (fun j : Nat => Int32.ofInt (w00 c i j)) = fun _ => 0 := funext fun j => by
    rw [w00_0 q5 q31 q70]
    rfl
  unfold z_ent
  rw [if_neg k0, if_neg k4, if_neg k5, ht, hn, e]
theorem ze_j {E : zE} {c t N : Nat} {i : Int} (k0 : ¬ z_kd c = 0) (k4 : z_kd c = 4) (ht : z_ak c = t) (hn : (z_ln c).toNat = N) (q5 : c ≠ 5) (q31 : c ≠ 31) (q70 : c ≠ 70) : z_ent E c i w00 = .inl (E.2.1 t, (N, .inr (.inl fun _ => 0))) := by
  have e : (fun j : Nat => Int64.ofInt (w00 c i j)) = fun _ => 0 := funext fun j => by
    rw [w00_0 q5 q31 q70]
    rfl
  unfold z_ent
  rw [if_neg k0, if_pos k4, ht, hn, e]
theorem ze_posts {E : zE} {i : Int} : z_ent E 31 i w00 = .inl (E.2.1 0, (8, .inl fun j => if j < 8 then -1 else 0)) := by
  have e : (fun j : Nat => Int32.ofInt (w00 31 i j)) = fun j => if j < 8 then -1 else 0 := funext fun j => by
    unfold w00
    by_cases h : j < 8
    · rw [if_neg (by omega), if_pos ⟨rfl, by omega⟩, if_pos h]
      rfl
    · rw [if_neg (by omega), if_neg (by omega), if_neg (by omega), if_neg h]
      rfl
  unfold z_ent
  rw [if_neg (by decide), if_neg (by decide), if_neg (by decide), show z_ak 31 = 0 from rfl, show (z_ln 31).toNat = 8 from rfl, e]
theorem ze_said {E : zE} {i : Int} : z_ent E 70 i w00 = .inl (E.2.1 0, (1392, .inl (saidF 8))) := by
  have e : (fun j : Nat => Int32.ofInt (w00 70 i j)) = saidF 8 := funext fun j => by
    unfold w00 saidF
    by_cases h : j = 0 ∨ (1382 ≤ j ∧ j < 1382 + 8)
    · rw [if_neg (by omega), if_neg (by omega), if_pos ⟨rfl, by omega⟩, if_pos h]
      rfl
    · rw [if_neg (by omega), if_neg (by omega), if_neg (by omega), if_neg h]
      rfl
  unfold z_ent
  rw [if_neg (by decide), if_neg (by decide), if_neg (by decide), show z_ak 70 = 0 from rfl, show (z_ln 70).toNat = 1392 from rfl, e]
theorem zo_X0 {E : zE} {i : Int} : z_ent E 1 i w00 = .inr (z_oc 1, [.ref (E.2.2 13 i), .ref (E.2.2 14 i), .ref (E.2.2 15 i), .ref (E.2.2 16 i), .ref (E.2.2 17 i), .int 0, .int 0]) := by
  rw [z_ent_o ob_X0]
  rfl
theorem zo_X1 {E : zE} {i : Int} : z_ent E 2 i w00 = .inr (z_oc 2, [.ref (E.2.2 1 i), .int 0, .int 0, .int 0, .int 0]) := by
  rw [z_ent_o ob_X1]
  rfl
theorem zo_X2 {E : zE} {i : Int} : z_ent E 3 i w00 = .inr (z_oc 3, [.ref (E.2.2 4 13), .ref (E.2.2 18 i), .long 0, .int 0, .int 0, .int 0, .int 0, .int 0, .int 0, .int 0]) := by
  rw [z_ent_o ob_X2]
  rfl
theorem zo_X3 {E : zE} {i : Int} : z_ent E 4 i w00 = .inr (z_oc 4, [.ref (E.2.2 19 i), .int 0, .int 0, .int 0]) := by
  rw [z_ent_o ob_X3]
  rfl
theorem zo_X4 {E : zE} {i : Int} : z_ent E 5 i w00 = .inr (z_oc 5, [.ref (E.2.2 20 i), .int 0, .int 0, .int 0, .int 0, .int 0, .int 0, .ref (E.2.2 12 0), .ref (E.2.2 1 12)]) := by
  rw [z_ent_o ob_X4]
  rfl
theorem zo_X5 {E : zE} {i : Int} : z_ent E 6 i w00 = .inr (z_oc 6, [.ref (E.2.2 21 i), .ref (E.2.2 22 i), .ref (E.2.2 23 i)]) := by
  rw [z_ent_o ob_X5]
  rfl
theorem zo_X6 {E : zE} {i : Int} : z_ent E 7 i w00 = .inr (z_oc 7, [.ref (E.2.2 9 0), .ref (E.2.2 2 0), .ref (E.2.2 24 i), .ref (E.2.2 25 i), .ref (E.2.2 26 i), .ref (E.2.2 27 i), .ref (E.2.2 28 i)]) := by
  rw [z_ent_o ob_X6]
  rfl
theorem zo_X7 {E : zE} {i : Int} : z_ent E 8 i w00 = .inr (z_oc 8, [.int 0, .int 0, .int 0, .int 0, .int 0, .int 0, .int 0, .ref (E.2.2 4 i), .ref (E.2.2 29 i), .ref (E.2.2 30 i), .ref (E.2.2 31 i)]) := by
  rw [z_ent_o ob_X7]
  rfl
theorem zo_X8 {E : zE} {i : Int} : z_ent E 9 i w00 = .inr (z_oc 9, [.int 0, .int 0, .int 0, .int 0, .ref (E.2.2 32 i), .ref (E.2.2 33 i), .ref (E.2.2 34 i), .ref (E.2.2 35 i), .ref (E.2.2 36 i), .ref (E.2.2 37 i), .ref (E.2.2 38 i), .ref (E.2.2 39 i), .ref (E.2.2 40 i), .int 0, .ref (E.2.2 41 i)]) := by
  rw [z_ent_o ob_X8]
  rfl
theorem zo_X9 {E : zE} {i : Int} : z_ent E 10 i w00 = .inr (z_oc 10, [.ref (E.2.2 5 0), .ref (E.2.2 42 i), .ref (E.2.2 43 i), .ref (E.2.2 44 i), .int 0, .int 0, .int 0, .ref (E.2.2 8 0), .ref (E.2.2 45 i), .ref (E.2.2 7 0), .ref (E.2.2 4 5), .ref (E.2.2 6 0), .ref (E.2.2 3 0), .ref (E.2.2 46 i), .ref (E.2.2 47 i)]) := by
  rw [z_ent_o ob_X9]
  rfl
theorem zo_X10 {E : zE} {i : Int} : z_ent E 11 i w00 = .inr (z_oc 11, [.ref (E.2.2 48 i), .int 0, .ref (E.2.2 49 i), .ref (E.2.2 50 i), .ref (E.2.2 51 i), .ref (E.2.2 52 i), .ref (E.2.2 53 i), .ref (E.2.2 54 i), .ref (E.2.2 55 i), .ref (E.2.2 56 i), .ref (E.2.2 57 i), .ref (E.2.2 58 i), .ref (E.2.2 59 i), .ref (E.2.2 60 i), .ref (E.2.2 61 i), .ref (E.2.2 62 i), .ref (E.2.2 63 i), .ref (E.2.2 64 i), .int 0, .int 0, .int 0, .int 0, .int 0, .int 0, .int 0, .ref (E.2.2 65 i), .int 0, .ref (E.2.2 66 i), .ref (E.2.2 67 i), .ref (E.2.2 68 i), .int 0, .ref (E.2.2 69 i), .ref (E.2.2 70 i), .ref (E.2.2 71 i), .ref (E.2.2 72 i), .int 0, .long 0, .long 0, .int 0, .int 0, .ref (E.2.2 73 i), .ref (E.2.2 74 i), .ref (E.2.2 75 i), .long 0, .int 0, .int 0, .int 0, .int 0, .int 0, .int 0, .int 0, .int 0, .int 0, .int 0, .ref (E.2.2 76 i), .ref (E.2.2 77 i), .ref (E.2.2 78 i)]) := by
  rw [z_ent_o ob_X10]
  rfl
abbrev zsn (l : List (Nat × Int)) (c : Nat) (i : Int) : List (Nat × Int) := l ++ [(c, i)]
abbrev pX0 (i : Int) : List (Nat × Int) := (1, i) :: (zsn (zsn (zsn (zsn (zsn [] 13 i) 14 i) 15 i) 16 i) 17 i)
theorem zk_X0 {E : zE} {i : Int} {h : Nat} {u : Nat → Nat} (e : h = E.2.2 1 i) (e0 : u 0 = E.2.2 13 i) (e1 : u 1 = E.2.2 14 i) (e2 : u 2 = E.2.2 15 i) (e3 : u 3 = E.2.2 16 i) (e4 : u 4 = E.2.2 17 i) : zlb E (LX0 E.2.1 h u) (pX0 i) := zlb_c e (by rw [zo_X0, ← e0, ← e1, ← e2, ← e3, ← e4]) (zlb_app (zlb_app (zlb_app (zlb_app (zlb_app zlb_nil (zlb_1 e0 (ze_i (by decide) (by decide) (by decide) rfl rfl (by decide) (by decide) (by decide)))) (zlb_1 e1 (ze_i (by decide) (by decide) (by decide) rfl rfl (by decide) (by decide) (by decide)))) (zlb_1 e2 (ze_i (by decide) (by decide) (by decide) rfl rfl (by decide) (by decide) (by decide)))) (zlb_1 e3 (ze_i (by decide) (by decide) (by decide) rfl rfl (by decide) (by decide) (by decide)))) (zlb_1 e4 (ze_j (by decide) (by decide) rfl rfl (by decide) (by decide) (by decide))))
abbrev pX3 (i : Int) : List (Nat × Int) := (4, i) :: (zsn [] 19 i)
theorem zk_X3 {E : zE} {i : Int} {h : Nat} {u : Nat → Nat} (e : h = E.2.2 4 i) (e0 : u 0 = E.2.2 19 i) : zlb E (LX3 E.2.1 h u) (pX3 i) := zlb_c e (by rw [zo_X3, ← e0]) (zlb_app zlb_nil (zlb_1 e0 (ze_j (by decide) (by decide) rfl rfl (by decide) (by decide) (by decide))))
abbrev pX8 (i : Int) : List (Nat × Int) := (9, i) :: (zsn (zsn (zsn (zsn (zsn (zsn (zsn (zsn (zsn (zsn [] 32 i) 33 i) 34 i) 35 i) 36 i) 37 i) 38 i) 39 i) 40 i) 41 i)
theorem zk_X8 {E : zE} {i : Int} {h : Nat} {u : Nat → Nat} (e : h = E.2.2 9 i) (e0 : u 0 = E.2.2 32 i) (e1 : u 1 = E.2.2 33 i) (e2 : u 2 = E.2.2 34 i) (e3 : u 3 = E.2.2 35 i) (e4 : u 4 = E.2.2 36 i) (e5 : u 5 = E.2.2 37 i) (e6 : u 6 = E.2.2 38 i) (e7 : u 7 = E.2.2 39 i) (e8 : u 8 = E.2.2 40 i) (e9 : u 9 = E.2.2 41 i) : zlb E (LX8 E.2.1 h u) (pX8 i) := zlb_c e (by rw [zo_X8, ← e0, ← e1, ← e2, ← e3, ← e4, ← e5, ← e6, ← e7, ← e8, ← e9]) (zlb_app (zlb_app (zlb_app (zlb_app (zlb_app (zlb_app (zlb_app (zlb_app (zlb_app (zlb_app zlb_nil (zlb_1 e0 (ze_i (by decide) (by decide) (by decide) rfl rfl (by decide) (by decide) (by decide)))) (zlb_1 e1 (ze_i (by decide) (by decide) (by decide) rfl rfl (by decide) (by decide) (by decide)))) (zlb_1 e2 (ze_i (by decide) (by decide) (by decide) rfl rfl (by decide) (by decide) (by decide)))) (zlb_1 e3 (ze_i (by decide) (by decide) (by decide) rfl rfl (by decide) (by decide) (by decide)))) (zlb_1 e4 (ze_i (by decide) (by decide) (by decide) rfl rfl (by decide) (by decide) (by decide)))) (zlb_1 e5 (ze_i (by decide) (by decide) (by decide) rfl rfl (by decide) (by decide) (by decide)))) (zlb_1 e6 (ze_i (by decide) (by decide) (by decide) rfl rfl (by decide) (by decide) (by decide)))) (zlb_1 e7 (ze_i (by decide) (by decide) (by decide) rfl rfl (by decide) (by decide) (by decide)))) (zlb_1 e8 (ze_i (by decide) (by decide) (by decide) rfl rfl (by decide) (by decide) (by decide)))) (zlb_1 e9 (ze_i (by decide) (by decide) (by decide) rfl rfl (by decide) (by decide) (by decide))))
abbrev pX1 (i : Int) : List (Nat × Int) := (2, i) :: ([] ++ pX0 i)
theorem zk_X1 {E : zE} {i : Int} {h : Nat} {u : Nat → Nat} (e : h = E.2.2 2 i) (e0 : u 0 = E.2.2 1 i) (e1 : u 1 = E.2.2 13 i) (e2 : u 2 = E.2.2 14 i) (e3 : u 3 = E.2.2 15 i) (e4 : u 4 = E.2.2 16 i) (e5 : u 5 = E.2.2 17 i) : zlb E (LX1 E.2.1 h u) (pX1 i) := zlb_c e (by rw [zo_X1, ← e0]) (zlb_app zlb_nil (zk_X0 e0 e1 e2 e3 e4 e5))
abbrev pX7 (i : Int) : List (Nat × Int) := (8, i) :: (zsn (zsn (zsn ([] ++ pX3 i) 29 i) 30 i) 31 i)
theorem zk_X7 {E : zE} {i : Int} {h : Nat} {u : Nat → Nat} (e : h = E.2.2 8 i) (e0 : u 0 = E.2.2 4 i) (e1 : u 1 = E.2.2 19 i) (e2 : u 2 = E.2.2 29 i) (e3 : u 3 = E.2.2 30 i) (e4 : u 4 = E.2.2 31 i) : zlb E (LX7 E.2.1 h u) (pX7 i) := zlb_c e (by rw [zo_X7, ← e0, ← e2, ← e3, ← e4]) (zlb_app (zlb_app (zlb_app (zlb_app zlb_nil (zk_X3 e0 e1)) (zlb_1 e2 (ze_i (by decide) (by decide) (by decide) rfl rfl (by decide) (by decide) (by decide)))) (zlb_1 e3 (ze_i (by decide) (by decide) (by decide) rfl rfl (by decide) (by decide) (by decide)))) (zlb_1 e4 ze_posts))
abbrev pX2 (i : Int) : List (Nat × Int) := (3, i) :: (zsn ([] ++ pX3 13) 18 i)
theorem zk_X2 {E : zE} {i : Int} {h : Nat} {u : Nat → Nat} (e : h = E.2.2 3 i) (e0 : u 0 = E.2.2 4 13) (e1 : u 1 = E.2.2 19 13) (e2 : u 2 = E.2.2 18 i) : zlb E (LX2 E.2.1 h u) (pX2 i) := zlb_c e (by rw [zo_X2, ← e0, ← e2]) (zlb_app (zlb_app zlb_nil (zk_X3 e0 e1)) (zlb_1 e2 (ze_j (by decide) (by decide) rfl rfl (by decide) (by decide) (by decide))))
theorem FS_0 (u : Nat → Nat) : ((((((((fs10).set 0 (.ref (u 0))).set 2 (.ref (u 1))).set 3 (.ref (u 2))).set 4 (.ref (u 3))).set 5 (.ref (u 4))).set 6 (.ref (u 5))).set 7 (.ref (u 6))).set 8 (.ref (u 7)) = [.ref (u 0), .int 0, .ref (u 1), .ref (u 2), .ref (u 3), .ref (u 4), .ref (u 5), .ref (u 6), .ref (u 7), .null, .null, .null, .null, .null, .null, .null, .null, .null, .int 0, .int 0, .int 0, .int 0, .int 0, .int 0, .int 0, .null, .int 0, .null, .null, .null, .int 0, .null, .null, .null, .null, .int 0, .long 0, .long 0, .int 0, .int 0, .null, .null, .null, .long 0, .int 0, .int 0, .int 0, .int 0, .int 0, .int 0, .int 0, .int 0, .int 0, .int 0, .null, .null, .null] := rfl
theorem FS_1 (u : Nat → Nat) : ((((((((([.ref (u 0), .int 0, .ref (u 1), .ref (u 2), .ref (u 3), .ref (u 4), .ref (u 5), .ref (u 6), .ref (u 7), .null, .null, .null, .null, .null, .null, .null, .null, .null, .int 0, .int 0, .int 0, .int 0, .int 0, .int 0, .int 0, .null, .int 0, .null, .null, .null, .int 0, .null, .null, .null, .null, .int 0, .long 0, .long 0, .int 0, .int 0, .null, .null, .null, .long 0, .int 0, .int 0, .int 0, .int 0, .int 0, .int 0, .int 0, .int 0, .int 0, .int 0, .null, .null, .null] : List Value)).set 9 (.ref (u 8))).set 10 (.ref (u 9))).set 11 (.ref (u 10))).set 12 (.ref (u 11))).set 13 (.ref (u 12))).set 14 (.ref (u 13))).set 15 (.ref (u 14))).set 16 (.ref (u 15)) = [.ref (u 0), .int 0, .ref (u 1), .ref (u 2), .ref (u 3), .ref (u 4), .ref (u 5), .ref (u 6), .ref (u 7), .ref (u 8), .ref (u 9), .ref (u 10), .ref (u 11), .ref (u 12), .ref (u 13), .ref (u 14), .ref (u 15), .null, .int 0, .int 0, .int 0, .int 0, .int 0, .int 0, .int 0, .null, .int 0, .null, .null, .null, .int 0, .null, .null, .null, .null, .int 0, .long 0, .long 0, .int 0, .int 0, .null, .null, .null, .long 0, .int 0, .int 0, .int 0, .int 0, .int 0, .int 0, .int 0, .int 0, .int 0, .int 0, .null, .null, .null] := rfl
theorem FS_2 (u : Nat → Nat) : ((((((([.ref (u 0), .int 0, .ref (u 1), .ref (u 2), .ref (u 3), .ref (u 4), .ref (u 5), .ref (u 6), .ref (u 7), .ref (u 8), .ref (u 9), .ref (u 10), .ref (u 11), .ref (u 12), .ref (u 13), .ref (u 14), .ref (u 15), .null, .int 0, .int 0, .int 0, .int 0, .int 0, .int 0, .int 0, .null, .int 0, .null, .null, .null, .int 0, .null, .null, .null, .null, .int 0, .long 0, .long 0, .int 0, .int 0, .null, .null, .null, .long 0, .int 0, .int 0, .int 0, .int 0, .int 0, .int 0, .int 0, .int 0, .int 0, .int 0, .null, .null, .null] : List Value)).set 17 (.ref (u 16))).set 25 (.ref (u 17))).set 27 (.ref (u 18))).set 28 (.ref (u 19))).set 29 (.ref (u 20))).set 31 (.ref (u 21)) = [.ref (u 0), .int 0, .ref (u 1), .ref (u 2), .ref (u 3), .ref (u 4), .ref (u 5), .ref (u 6), .ref (u 7), .ref (u 8), .ref (u 9), .ref (u 10), .ref (u 11), .ref (u 12), .ref (u 13), .ref (u 14), .ref (u 15), .ref (u 16), .int 0, .int 0, .int 0, .int 0, .int 0, .int 0, .int 0, .ref (u 17), .int 0, .ref (u 18), .ref (u 19), .ref (u 20), .int 0, .ref (u 21), .null, .null, .null, .int 0, .long 0, .long 0, .int 0, .int 0, .null, .null, .null, .long 0, .int 0, .int 0, .int 0, .int 0, .int 0, .int 0, .int 0, .int 0, .int 0, .int 0, .null, .null, .null] := rfl
theorem FS_3 (u : Nat → Nat) : (([.ref (u 0), .int 0, .ref (u 1), .ref (u 2), .ref (u 3), .ref (u 4), .ref (u 5), .ref (u 6), .ref (u 7), .ref (u 8), .ref (u 9), .ref (u 10), .ref (u 11), .ref (u 12), .ref (u 13), .ref (u 14), .ref (u 15), .ref (u 16), .int 0, .int 0, .int 0, .int 0, .int 0, .int 0, .int 0, .ref (u 17), .int 0, .ref (u 18), .ref (u 19), .ref (u 20), .int 0, .ref (u 21), .null, .null, .null, .int 0, .long 0, .long 0, .int 0, .int 0, .null, .null, .null, .long 0, .int 0, .int 0, .int 0, .int 0, .int 0, .int 0, .int 0, .int 0, .int 0, .int 0, .null, .null, .null] : List Value)).set 32 (.ref (u 22)) = [.ref (u 0), .int 0, .ref (u 1), .ref (u 2), .ref (u 3), .ref (u 4), .ref (u 5), .ref (u 6), .ref (u 7), .ref (u 8), .ref (u 9), .ref (u 10), .ref (u 11), .ref (u 12), .ref (u 13), .ref (u 14), .ref (u 15), .ref (u 16), .int 0, .int 0, .int 0, .int 0, .int 0, .int 0, .int 0, .ref (u 17), .int 0, .ref (u 18), .ref (u 19), .ref (u 20), .int 0, .ref (u 21), .ref (u 22), .null, .null, .int 0, .long 0, .long 0, .int 0, .int 0, .null, .null, .null, .long 0, .int 0, .int 0, .int 0, .int 0, .int 0, .int 0, .int 0, .int 0, .int 0, .int 0, .null, .null, .null] := rfl
theorem FS_4 (u : Nat → Nat) : ((((((((([.ref (u 0), .int 0, .ref (u 1), .ref (u 2), .ref (u 3), .ref (u 4), .ref (u 5), .ref (u 6), .ref (u 7), .ref (u 8), .ref (u 9), .ref (u 10), .ref (u 11), .ref (u 12), .ref (u 13), .ref (u 14), .ref (u 15), .ref (u 16), .int 0, .int 0, .int 0, .int 0, .int 0, .int 0, .int 0, .ref (u 17), .int 0, .ref (u 18), .ref (u 19), .ref (u 20), .int 0, .ref (u 21), .ref (u 22), .null, .null, .int 0, .long 0, .long 0, .int 0, .int 0, .null, .null, .null, .long 0, .int 0, .int 0, .int 0, .int 0, .int 0, .int 0, .int 0, .int 0, .int 0, .int 0, .null, .null, .null] : List Value)).set 33 (.ref (u 23))).set 34 (.ref (u 24))).set 40 (.ref (u 25))).set 41 (.ref (u 26))).set 42 (.ref (u 27))).set 54 (.ref (u 28))).set 55 (.ref (u 29))).set 56 (.ref (u 30)) = [.ref (u 0), .int 0, .ref (u 1), .ref (u 2), .ref (u 3), .ref (u 4), .ref (u 5), .ref (u 6), .ref (u 7), .ref (u 8), .ref (u 9), .ref (u 10), .ref (u 11), .ref (u 12), .ref (u 13), .ref (u 14), .ref (u 15), .ref (u 16), .int 0, .int 0, .int 0, .int 0, .int 0, .int 0, .int 0, .ref (u 17), .int 0, .ref (u 18), .ref (u 19), .ref (u 20), .int 0, .ref (u 21), .ref (u 22), .ref (u 23), .ref (u 24), .int 0, .long 0, .long 0, .int 0, .int 0, .ref (u 25), .ref (u 26), .ref (u 27), .long 0, .int 0, .int 0, .int 0, .int 0, .int 0, .int 0, .int 0, .int 0, .int 0, .int 0, .ref (u 28), .ref (u 29), .ref (u 30)] := rfl
theorem FS10_eq (u : Nat → Nat) : FS10 u = [.ref (u 0), .int 0, .ref (u 1), .ref (u 2), .ref (u 3), .ref (u 4), .ref (u 5), .ref (u 6), .ref (u 7), .ref (u 8), .ref (u 9), .ref (u 10), .ref (u 11), .ref (u 12), .ref (u 13), .ref (u 14), .ref (u 15), .ref (u 16), .int 0, .int 0, .int 0, .int 0, .int 0, .int 0, .int 0, .ref (u 17), .int 0, .ref (u 18), .ref (u 19), .ref (u 20), .int 0, .ref (u 21), .ref (u 22), .ref (u 23), .ref (u 24), .int 0, .long 0, .long 0, .int 0, .int 0, .ref (u 25), .ref (u 26), .ref (u 27), .long 0, .int 0, .int 0, .int 0, .int 0, .int 0, .int 0, .int 0, .int 0, .int 0, .int 0, .ref (u 28), .ref (u 29), .ref (u 30)] := (congrArg (fun l : List Value => (((((((((((((((((((((((l).set 9 (.ref (u 8))).set 10 (.ref (u 9))).set 11 (.ref (u 10))).set 12 (.ref (u 11))).set 13 (.ref (u 12))).set 14 (.ref (u 13))).set 15 (.ref (u 14))).set 16 (.ref (u 15))).set 17 (.ref (u 16))).set 25 (.ref (u 17))).set 27 (.ref (u 18))).set 28 (.ref (u 19))).set 29 (.ref (u 20))).set 31 (.ref (u 21))).set 32 (.ref (u 22))).set 33 (.ref (u 23))).set 34 (.ref (u 24))).set 40 (.ref (u 25))).set 41 (.ref (u 26))).set 42 (.ref (u 27))).set 54 (.ref (u 28))).set 55 (.ref (u 29))).set 56 (.ref (u 30))) (FS_0 u)).trans ((congrArg (fun l : List Value => (((((((((((((((l).set 17 (.ref (u 16))).set 25 (.ref (u 17))).set 27 (.ref (u 18))).set 28 (.ref (u 19))).set 29 (.ref (u 20))).set 31 (.ref (u 21))).set 32 (.ref (u 22))).set 33 (.ref (u 23))).set 34 (.ref (u 24))).set 40 (.ref (u 25))).set 41 (.ref (u 26))).set 42 (.ref (u 27))).set 54 (.ref (u 28))).set 55 (.ref (u 29))).set 56 (.ref (u 30))) (FS_1 u)).trans ((congrArg (fun l : List Value => (((((((((l).set 32 (.ref (u 22))).set 33 (.ref (u 23))).set 34 (.ref (u 24))).set 40 (.ref (u 25))).set 41 (.ref (u 26))).set 42 (.ref (u 27))).set 54 (.ref (u 28))).set 55 (.ref (u 29))).set 56 (.ref (u 30))) (FS_2 u)).trans ((congrArg (fun l : List Value => ((((((((l).set 33 (.ref (u 23))).set 34 (.ref (u 24))).set 40 (.ref (u 25))).set 41 (.ref (u 26))).set 42 (.ref (u 27))).set 54 (.ref (u 28))).set 55 (.ref (u 29))).set 56 (.ref (u 30))) (FS_3 u)).trans (FS_4 u))))
abbrev pX10 (i : Int) : List (Nat × Int) := (11, i) :: [(48, i), (49, i), (50, i), (51, i), (52, i), (53, i), (54, i), (55, i), (56, i), (57, i), (58, i), (59, i), (60, i), (61, i), (62, i), (63, i), (64, i), (65, i), (66, i), (67, i), (68, i), (69, i), (70, i), (71, i), (72, i), (73, i), (74, i), (75, i), (76, i), (77, i), (78, i)]
theorem zo_X10u {E : zE} {i : Int} {u : Nat → Nat} (e0 : u 0 = E.2.2 48 i) (e1 : u 1 = E.2.2 49 i) (e2 : u 2 = E.2.2 50 i) (e3 : u 3 = E.2.2 51 i) (e4 : u 4 = E.2.2 52 i) (e5 : u 5 = E.2.2 53 i) (e6 : u 6 = E.2.2 54 i) (e7 : u 7 = E.2.2 55 i) (e8 : u 8 = E.2.2 56 i) (e9 : u 9 = E.2.2 57 i) (e10 : u 10 = E.2.2 58 i) (e11 : u 11 = E.2.2 59 i) (e12 : u 12 = E.2.2 60 i) (e13 : u 13 = E.2.2 61 i) (e14 : u 14 = E.2.2 62 i) (e15 : u 15 = E.2.2 63 i) (e16 : u 16 = E.2.2 64 i) (e17 : u 17 = E.2.2 65 i) (e18 : u 18 = E.2.2 66 i) (e19 : u 19 = E.2.2 67 i) (e20 : u 20 = E.2.2 68 i) (e21 : u 21 = E.2.2 69 i) (e22 : u 22 = E.2.2 70 i) (e23 : u 23 = E.2.2 71 i) (e24 : u 24 = E.2.2 72 i) (e25 : u 25 = E.2.2 73 i) (e26 : u 26 = E.2.2 74 i) (e27 : u 27 = E.2.2 75 i) (e28 : u 28 = E.2.2 76 i) (e29 : u 29 = E.2.2 77 i) (e30 : u 30 = E.2.2 78 i) : z_ent E 11 i w00 = .inr (z_oc 11, [.ref (u 0), .int 0, .ref (u 1), .ref (u 2), .ref (u 3), .ref (u 4), .ref (u 5), .ref (u 6), .ref (u 7), .ref (u 8), .ref (u 9), .ref (u 10), .ref (u 11), .ref (u 12), .ref (u 13), .ref (u 14), .ref (u 15), .ref (u 16), .int 0, .int 0, .int 0, .int 0, .int 0, .int 0, .int 0, .ref (u 17), .int 0, .ref (u 18), .ref (u 19), .ref (u 20), .int 0, .ref (u 21), .ref (u 22), .ref (u 23), .ref (u 24), .int 0, .long 0, .long 0, .int 0, .int 0, .ref (u 25), .ref (u 26), .ref (u 27), .long 0, .int 0, .int 0, .int 0, .int 0, .int 0, .int 0, .int 0, .int 0, .int 0, .int 0, .ref (u 28), .ref (u 29), .ref (u 30)]) := by rw [zo_X10, ← e0, ← e1, ← e2, ← e3, ← e4, ← e5, ← e6, ← e7, ← e8, ← e9, ← e10, ← e11, ← e12, ← e13, ← e14, ← e15, ← e16, ← e17, ← e18, ← e19, ← e20, ← e21, ← e22, ← e23, ← e24, ← e25, ← e26, ← e27, ← e28, ← e29, ← e30]
theorem zk_X10o {E : zE} {i : Int} {u : Nat → Nat} (e0 : u 0 = E.2.2 48 i) (e1 : u 1 = E.2.2 49 i) (e2 : u 2 = E.2.2 50 i) (e3 : u 3 = E.2.2 51 i) (e4 : u 4 = E.2.2 52 i) (e5 : u 5 = E.2.2 53 i) (e6 : u 6 = E.2.2 54 i) (e7 : u 7 = E.2.2 55 i) (e8 : u 8 = E.2.2 56 i) (e9 : u 9 = E.2.2 57 i) (e10 : u 10 = E.2.2 58 i) (e11 : u 11 = E.2.2 59 i) (e12 : u 12 = E.2.2 60 i) (e13 : u 13 = E.2.2 61 i) (e14 : u 14 = E.2.2 62 i) (e15 : u 15 = E.2.2 63 i) (e16 : u 16 = E.2.2 64 i) (e17 : u 17 = E.2.2 65 i) (e18 : u 18 = E.2.2 66 i) (e19 : u 19 = E.2.2 67 i) (e20 : u 20 = E.2.2 68 i) (e21 : u 21 = E.2.2 69 i) (e22 : u 22 = E.2.2 70 i) (e23 : u 23 = E.2.2 71 i) (e24 : u 24 = E.2.2 72 i) (e25 : u 25 = E.2.2 73 i) (e26 : u 26 = E.2.2 74 i) (e27 : u 27 = E.2.2 75 i) (e28 : u 28 = E.2.2 76 i) (e29 : u 29 = E.2.2 77 i) (e30 : u 30 = E.2.2 78 i) : z_ent E 11 i w00 = .inr (z_oc 11, FS10 u) := by
  rw [FS10_eq]
  exact zo_X10u e0 e1 e2 e3 e4 e5 e6 e7 e8 e9 e10 e11 e12 e13 e14 e15 e16 e17 e18 e19 e20 e21 e22 e23 e24 e25 e26 e27 e28 e29 e30
theorem LX10_eq {dA : Nat → ClassId} {h : Nat} {u : Nat → Nat} : LX10 dA h u = (h, .inr (z_oc 11, FS10 u)) :: [(u 0, .inl (dA 1, (400, .inl fun _ => 0))), (u 1, .inl (dA 0, (3, .inl fun _ => 0))), (u 2, .inl (dA 0, (4800, .inl fun _ => 0))), (u 3, .inl (dA 0, (16, .inl fun _ => 0))), (u 4, .inl (dA 0, (720, .inl fun _ => 0))), (u 5, .inl (dA 0, (16, .inl fun _ => 0))), (u 6, .inl (dA 0, (16, .inl fun _ => 0))), (u 7, .inl (dA 0, (16, .inl fun _ => 0))), (u 8, .inl (dA 0, (16, .inl fun _ => 0))), (u 9, .inl (dA 0, (16, .inl fun _ => 0))), (u 10, .inl (dA 0, (16, .inl fun _ => 0))), (u 11, .inl (dA 0, (16, .inl fun _ => 0))), (u 12, .inl (dA 0, (16, .inl fun _ => 0))), (u 13, .inl (dA 0, (16, .inl fun _ => 0))), (u 14, .inl (dA 0, (4, .inl fun _ => 0))), (u 15, .inl (dA 0, (48, .inl fun _ => 0))), (u 16, .inl (dA 0, (3456, .inl fun _ => 0))), (u 17, .inl (dA 0, (400, .inl fun _ => 0))), (u 18, .inl (dA 0, (144, .inl fun _ => 0))), (u 19, .inl (dA 0, (144, .inl fun _ => 0))), (u 20, .inl (dA 3, (64, .inr (.inl fun _ => 0)))), (u 21, .inl (dA 3, (10, .inr (.inl fun _ => 0)))), (u 22, .inl (dA 0, (1392, .inl (saidF 8)))), (u 23, .inl (dA 0, (576, .inl fun _ => 0))), (u 24, .inl (dA 0, (576, .inl fun _ => 0))), (u 25, .inl (dA 0, (7, .inl fun _ => 0))), (u 26, .inl (dA 0, (7, .inl fun _ => 0))), (u 27, .inl (dA 0, (144, .inl fun _ => 0))), (u 28, .inl (dA 0, (3, .inl fun _ => 0))), (u 29, .inl (dA 0, (5568, .inl fun _ => 0))), (u 30, .inl (dA 2, (4, .inl fun _ => 0)))] := by simp only [LX10, zai, zaj, zaf, List.nil_append, List.cons_append]
theorem zk_X10 {E : zE} {i : Int} {h : Nat} {u : Nat → Nat} (e : h = E.2.2 11 i) (e0 : u 0 = E.2.2 48 i) (e1 : u 1 = E.2.2 49 i) (e2 : u 2 = E.2.2 50 i) (e3 : u 3 = E.2.2 51 i) (e4 : u 4 = E.2.2 52 i) (e5 : u 5 = E.2.2 53 i) (e6 : u 6 = E.2.2 54 i) (e7 : u 7 = E.2.2 55 i) (e8 : u 8 = E.2.2 56 i) (e9 : u 9 = E.2.2 57 i) (e10 : u 10 = E.2.2 58 i) (e11 : u 11 = E.2.2 59 i) (e12 : u 12 = E.2.2 60 i) (e13 : u 13 = E.2.2 61 i) (e14 : u 14 = E.2.2 62 i) (e15 : u 15 = E.2.2 63 i) (e16 : u 16 = E.2.2 64 i) (e17 : u 17 = E.2.2 65 i) (e18 : u 18 = E.2.2 66 i) (e19 : u 19 = E.2.2 67 i) (e20 : u 20 = E.2.2 68 i) (e21 : u 21 = E.2.2 69 i) (e22 : u 22 = E.2.2 70 i) (e23 : u 23 = E.2.2 71 i) (e24 : u 24 = E.2.2 72 i) (e25 : u 25 = E.2.2 73 i) (e26 : u 26 = E.2.2 74 i) (e27 : u 27 = E.2.2 75 i) (e28 : u 28 = E.2.2 76 i) (e29 : u 29 = E.2.2 77 i) (e30 : u 30 = E.2.2 78 i) : zlb E ((h, .inr (z_oc 11, FS10 u)) :: [(u 0, .inl (E.2.1 1, (400, .inl fun _ => 0))), (u 1, .inl (E.2.1 0, (3, .inl fun _ => 0))), (u 2, .inl (E.2.1 0, (4800, .inl fun _ => 0))), (u 3, .inl (E.2.1 0, (16, .inl fun _ => 0))), (u 4, .inl (E.2.1 0, (720, .inl fun _ => 0))), (u 5, .inl (E.2.1 0, (16, .inl fun _ => 0))), (u 6, .inl (E.2.1 0, (16, .inl fun _ => 0))), (u 7, .inl (E.2.1 0, (16, .inl fun _ => 0))), (u 8, .inl (E.2.1 0, (16, .inl fun _ => 0))), (u 9, .inl (E.2.1 0, (16, .inl fun _ => 0))), (u 10, .inl (E.2.1 0, (16, .inl fun _ => 0))), (u 11, .inl (E.2.1 0, (16, .inl fun _ => 0))), (u 12, .inl (E.2.1 0, (16, .inl fun _ => 0))), (u 13, .inl (E.2.1 0, (16, .inl fun _ => 0))), (u 14, .inl (E.2.1 0, (4, .inl fun _ => 0))), (u 15, .inl (E.2.1 0, (48, .inl fun _ => 0))), (u 16, .inl (E.2.1 0, (3456, .inl fun _ => 0))), (u 17, .inl (E.2.1 0, (400, .inl fun _ => 0))), (u 18, .inl (E.2.1 0, (144, .inl fun _ => 0))), (u 19, .inl (E.2.1 0, (144, .inl fun _ => 0))), (u 20, .inl (E.2.1 3, (64, .inr (.inl fun _ => 0)))), (u 21, .inl (E.2.1 3, (10, .inr (.inl fun _ => 0)))), (u 22, .inl (E.2.1 0, (1392, .inl (saidF 8)))), (u 23, .inl (E.2.1 0, (576, .inl fun _ => 0))), (u 24, .inl (E.2.1 0, (576, .inl fun _ => 0))), (u 25, .inl (E.2.1 0, (7, .inl fun _ => 0))), (u 26, .inl (E.2.1 0, (7, .inl fun _ => 0))), (u 27, .inl (E.2.1 0, (144, .inl fun _ => 0))), (u 28, .inl (E.2.1 0, (3, .inl fun _ => 0))), (u 29, .inl (E.2.1 0, (5568, .inl fun _ => 0))), (u 30, .inl (E.2.1 2, (4, .inl fun _ => 0)))]) (pX10 i) := zlb_c e (zk_X10o e0 e1 e2 e3 e4 e5 e6 e7 e8 e9 e10 e11 e12 e13 e14 e15 e16 e17 e18 e19 e20 e21 e22 e23 e24 e25 e26 e27 e28 e29 e30) (zlb_c e0 (ze_i (by decide) (by decide) (by decide) rfl rfl (by decide) (by decide) (by decide)) (zlb_c e1 (ze_i (by decide) (by decide) (by decide) rfl rfl (by decide) (by decide) (by decide)) (zlb_c e2 (ze_i (by decide) (by decide) (by decide) rfl rfl (by decide) (by decide) (by decide)) (zlb_c e3 (ze_i (by decide) (by decide) (by decide) rfl rfl (by decide) (by decide) (by decide)) (zlb_c e4 (ze_i (by decide) (by decide) (by decide) rfl rfl (by decide) (by decide) (by decide)) (zlb_c e5 (ze_i (by decide) (by decide) (by decide) rfl rfl (by decide) (by decide) (by decide)) (zlb_c e6 (ze_i (by decide) (by decide) (by decide) rfl rfl (by decide) (by decide) (by decide)) (zlb_c e7 (ze_i (by decide) (by decide) (by decide) rfl rfl (by decide) (by decide) (by decide)) (zlb_c e8 (ze_i (by decide) (by decide) (by decide) rfl rfl (by decide) (by decide) (by decide)) (zlb_c e9 (ze_i (by decide) (by decide) (by decide) rfl rfl (by decide) (by decide) (by decide)) (zlb_c e10 (ze_i (by decide) (by decide) (by decide) rfl rfl (by decide) (by decide) (by decide)) (zlb_c e11 (ze_i (by decide) (by decide) (by decide) rfl rfl (by decide) (by decide) (by decide)) (zlb_c e12 (ze_i (by decide) (by decide) (by decide) rfl rfl (by decide) (by decide) (by decide)) (zlb_c e13 (ze_i (by decide) (by decide) (by decide) rfl rfl (by decide) (by decide) (by decide)) (zlb_c e14 (ze_i (by decide) (by decide) (by decide) rfl rfl (by decide) (by decide) (by decide)) (zlb_c e15 (ze_i (by decide) (by decide) (by decide) rfl rfl (by decide) (by decide) (by decide)) (zlb_c e16 (ze_i (by decide) (by decide) (by decide) rfl rfl (by decide) (by decide) (by decide)) (zlb_c e17 (ze_i (by decide) (by decide) (by decide) rfl rfl (by decide) (by decide) (by decide)) (zlb_c e18 (ze_i (by decide) (by decide) (by decide) rfl rfl (by decide) (by decide) (by decide)) (zlb_c e19 (ze_i (by decide) (by decide) (by decide) rfl rfl (by decide) (by decide) (by decide)) (zlb_c e20 (ze_j (by decide) (by decide) rfl rfl (by decide) (by decide) (by decide)) (zlb_c e21 (ze_j (by decide) (by decide) rfl rfl (by decide) (by decide) (by decide)) (zlb_c e22 ze_said (zlb_c e23 (ze_i (by decide) (by decide) (by decide) rfl rfl (by decide) (by decide) (by decide)) (zlb_c e24 (ze_i (by decide) (by decide) (by decide) rfl rfl (by decide) (by decide) (by decide)) (zlb_c e25 (ze_i (by decide) (by decide) (by decide) rfl rfl (by decide) (by decide) (by decide)) (zlb_c e26 (ze_i (by decide) (by decide) (by decide) rfl rfl (by decide) (by decide) (by decide)) (zlb_c e27 (ze_i (by decide) (by decide) (by decide) rfl rfl (by decide) (by decide) (by decide)) (zlb_c e28 (ze_i (by decide) (by decide) (by decide) rfl rfl (by decide) (by decide) (by decide)) (zlb_c e29 (ze_i (by decide) (by decide) (by decide) rfl rfl (by decide) (by decide) (by decide)) (zlb_c e30 (ze_i (by decide) (by decide) (by decide) rfl rfl (by decide) (by decide) (by decide)) zlb_nil)))))))))))))))))))))))))))))))
abbrev pX4 (i : Int) : List (Nat × Int) := (5, i) :: ((zsn [] 20 i) ++ pX0 12)
theorem zk_X4 {E : zE} {i : Int} {dS : Nat} {h : Nat} {u : Nat → Nat} (eS : dS = E.2.2 12 0) (e : h = E.2.2 5 i) (e0 : u 0 = E.2.2 20 i) (e1 : u 1 = E.2.2 1 12) (e2 : u 2 = E.2.2 13 12) (e3 : u 3 = E.2.2 14 12) (e4 : u 4 = E.2.2 15 12) (e5 : u 5 = E.2.2 16 12) (e6 : u 6 = E.2.2 17 12) : zlb E (LX4 E.2.1 dS h u) (pX4 i) := zlb_c e (by rw [zo_X4, ← e0, ← eS, ← e1]) (zlb_app (zlb_app zlb_nil (zlb_1 e0 (ze_i (by decide) (by decide) (by decide) rfl rfl (by decide) (by decide) (by decide)))) (zk_X0 e1 e2 e3 e4 e5 e6))
abbrev pX6 (i : Int) : List (Nat × Int) := (7, i) :: (zsn (zsn (zsn (zsn (zsn [] 24 i) 25 i) 26 i) 27 i) 28 i)
theorem zk_X6 {E : zE} {i : Int} {w0 l0 : Nat} {h : Nat} {u : Nat → Nat} (ew : w0 = E.2.2 9 0) (el : l0 = E.2.2 2 0) (e : h = E.2.2 7 i) (e0 : u 0 = E.2.2 24 i) (e1 : u 1 = E.2.2 25 i) (e2 : u 2 = E.2.2 26 i) (e3 : u 3 = E.2.2 27 i) (e4 : u 4 = E.2.2 28 i) : zlb E (LX6 E.2.1 w0 l0 h u) (pX6 i) := zlb_c e (by rw [zo_X6, ← ew, ← el, ← e0, ← e1, ← e2, ← e3, ← e4]) (zlb_app (zlb_app (zlb_app (zlb_app (zlb_app zlb_nil (zlb_1 e0 (ze_j (by decide) (by decide) rfl rfl (by decide) (by decide) (by decide)))) (zlb_1 e1 (ze_j (by decide) (by decide) rfl rfl (by decide) (by decide) (by decide)))) (zlb_1 e2 (ze_i (by decide) (by decide) (by decide) rfl rfl (by decide) (by decide) (by decide)))) (zlb_1 e3 (ze_i (by decide) (by decide) (by decide) rfl rfl (by decide) (by decide) (by decide)))) (zlb_1 e4 (ze_j (by decide) (by decide) rfl rfl (by decide) (by decide) (by decide))))
abbrev pX5 : List (Nat × Int) := ((6, 0) :: ((([] ++ [(21, 0)]) ++ [(22, 0)]) ++ [(23, 0)])) ++ ([] ++ pf (fun j => pX3 (6 + (j : Int))) 7)
theorem zk_X5 {E : zE} {h : Nat} {a : (Nat → Nat) × (Nat → Nat) × (Nat → Nat → Nat)} (e : h = E.2.2 6 0) (g0 : a.1 0 = E.2.2 21 0) (g1 : a.1 1 = E.2.2 22 0) (g2 : a.1 2 = E.2.2 23 0) (hq : ∀ j : Nat, j < 7 → a.2.1 j = E.2.2 4 (6 + (j : Int))) (hu : ∀ j : Nat, j < 7 → a.2.2 j 0 = E.2.2 19 (6 + (j : Int))) : zlb E (LX5 E.2.1 h a) pX5 :=
  zlb_app (zlb_c e (by rw [zo_X5, ← g0, ← g1, ← g2]) (zlb_app (zlb_app (zlb_app zlb_nil (zlb_q g0 (by decide) (by decide) rfl rfl rfl (fun j hj => ((if_pos hj).trans (congrArg some (hq j hj)) : rf a.2.1 7 j = some (E.2.2 4 (6 + (j : Int))))))) (zlb_1 g1 (ze_j (by decide) (by decide) rfl rfl (by decide) (by decide) (by decide)))) (zlb_1 g2 (ze_j (by decide) (by decide) rfl rfl (by decide) (by decide) (by decide)))))
    (zlb_app zlb_nil (zlb_fl (fun j hj => zk_X3 (hq j hj) (hu j hj))))
def adT (dh m0 : Nat) (z : S9) (v : Nat → Nat) : List (List Nat) := [[], [z.2.2.1.2 0 0, z.2.2.1.2 1 0, z.2.2.1.2 2 0, z.2.2.1.2 3 0, z.2.2.1.2 4 0, z.2.2.1.2 5 0, z.2.2.2.1.1 0, z.2.2.2.1.1 1, z.2.2.2.1.1 2, z.2.2.2.1.1 3, z.2.2.2.1.1 4, z.2.2.2.1.1 5, z.1.2.2.1 0 1], [z.2.2.1.1 0, z.2.2.1.1 1, z.2.2.1.1 2, z.2.2.1.1 3, z.2.2.1.1 4, z.2.2.1.1 5], [z.1.2.1 4], [z.1.2.2.1 1 0, z.2.2.2.2.2 0 0, z.2.2.2.2.2 1 0, z.2.2.2.2.2 2 0, z.2.2.2.2.2 3 0, z.1.2.1 2, z.1.2.2.2.2.1 0, z.1.2.2.2.2.1 1, z.1.2.2.2.2.1 2, z.1.2.2.2.2.1 3, z.1.2.2.2.2.1 4, z.1.2.2.2.2.1 5, z.1.2.2.2.2.1 6, z.1.2.2.1 4 0], [z.1.2.1 0], [z.1.2.1 3], [z.1.2.1 5], [z.1.2.1 1, z.2.2.2.2.1 0, z.2.2.2.2.1 1, z.2.2.2.2.1 2, z.2.2.2.2.1 3], [z.2.1.1 0, z.2.1.1 1, z.2.1.1 2, z.2.1.1 3], [dh], [m0], [], [z.2.2.1.2 0 1, z.2.2.1.2 1 1, z.2.2.1.2 2 1, z.2.2.1.2 3 1, z.2.2.1.2 4 1, z.2.2.1.2 5 1, z.2.2.2.1.2 0 0, z.2.2.2.1.2 1 0, z.2.2.2.1.2 2 0, z.2.2.2.1.2 3 0, z.2.2.2.1.2 4 0, z.2.2.2.1.2 5 0, z.1.2.2.1 0 2], [z.2.2.1.2 0 2, z.2.2.1.2 1 2, z.2.2.1.2 2 2, z.2.2.1.2 3 2, z.2.2.1.2 4 2, z.2.2.1.2 5 2, z.2.2.2.1.2 0 1, z.2.2.2.1.2 1 1, z.2.2.2.1.2 2 1, z.2.2.2.1.2 3 1, z.2.2.2.1.2 4 1, z.2.2.2.1.2 5 1, z.1.2.2.1 0 3], [z.2.2.1.2 0 3, z.2.2.1.2 1 3, z.2.2.1.2 2 3, z.2.2.1.2 3 3, z.2.2.1.2 4 3, z.2.2.1.2 5 3, z.2.2.2.1.2 0 2, z.2.2.2.1.2 1 2, z.2.2.2.1.2 2 2, z.2.2.2.1.2 3 2, z.2.2.2.1.2 4 2, z.2.2.2.1.2 5 2, z.1.2.2.1 0 4], [z.2.2.1.2 0 4, z.2.2.1.2 1 4, z.2.2.1.2 2 4, z.2.2.1.2 3 4, z.2.2.1.2 4 4, z.2.2.1.2 5 4, z.2.2.2.1.2 0 3, z.2.2.2.1.2 1 3, z.2.2.2.1.2 2 3, z.2.2.2.1.2 3 3, z.2.2.2.1.2 4 3, z.2.2.2.1.2 5 3, z.1.2.2.1 0 5], [z.2.2.1.2 0 5, z.2.2.1.2 1 5, z.2.2.1.2 2 5, z.2.2.1.2 3 5, z.2.2.1.2 4 5, z.2.2.1.2 5 5, z.2.2.2.1.2 0 4, z.2.2.2.1.2 1 4, z.2.2.2.1.2 2 4, z.2.2.2.1.2 3 4, z.2.2.2.1.2 4 4, z.2.2.2.1.2 5 4, z.1.2.2.1 0 6], [z.1.2.2.1 4 2], [z.1.2.2.1 1 1, z.2.2.2.2.2 0 1, z.2.2.2.2.2 1 1, z.2.2.2.2.2 2 1, z.2.2.2.2.2 3 1, z.1.2.2.1 2 0, z.1.2.2.2.2.2 0 0, z.1.2.2.2.2.2 1 0, z.1.2.2.2.2.2 2 0, z.1.2.2.2.2.2 3 0, z.1.2.2.2.2.2 4 0, z.1.2.2.2.2.2 5 0, z.1.2.2.2.2.2 6 0, z.1.2.2.1 4 1], [z.1.2.2.1 0 0], [z.1.2.2.2.1 0], [z.1.2.2.2.1 1], [z.1.2.2.2.1 2], [z.1.2.2.1 5 0], [z.1.2.2.1 5 1], [z.1.2.2.1 5 2], [z.1.2.2.1 5 3], [z.1.2.2.1 5 4], [z.1.2.2.1 1 2, z.2.2.2.2.2 0 2, z.2.2.2.2.2 1 2, z.2.2.2.2.2 2 2, z.2.2.2.2.2 3 2], [z.1.2.2.1 1 3, z.2.2.2.2.2 0 3, z.2.2.2.2.2 1 3, z.2.2.2.2.2 2 3, z.2.2.2.2.2 3 3], [z.1.2.2.1 1 4, z.2.2.2.2.2 0 4, z.2.2.2.2.2 1 4, z.2.2.2.2.2 2 4, z.2.2.2.2.2 3 4], [z.2.1.2 0 0, z.2.1.2 1 0, z.2.1.2 2 0, z.2.1.2 3 0], [z.2.1.2 0 1, z.2.1.2 1 1, z.2.1.2 2 1, z.2.1.2 3 1], [z.2.1.2 0 2, z.2.1.2 1 2, z.2.1.2 2 2, z.2.1.2 3 2], [z.2.1.2 0 3, z.2.1.2 1 3, z.2.1.2 2 3, z.2.1.2 3 3], [z.2.1.2 0 4, z.2.1.2 1 4, z.2.1.2 2 4, z.2.1.2 3 4], [z.2.1.2 0 5, z.2.1.2 1 5, z.2.1.2 2 5, z.2.1.2 3 5], [z.2.1.2 0 6, z.2.1.2 1 6, z.2.1.2 2 6, z.2.1.2 3 6], [z.2.1.2 0 7, z.2.1.2 1 7, z.2.1.2 2 7, z.2.1.2 3 7], [z.2.1.2 0 8, z.2.1.2 1 8, z.2.1.2 2 8, z.2.1.2 3 8], [z.2.1.2 0 9, z.2.1.2 1 9, z.2.1.2 2 9, z.2.1.2 3 9], [z.1.1 0], [z.1.1 1], [z.1.1 2], [z.1.1 3], [z.1.1 4], [z.1.1 5], [v 0], [v 1], [v 2], [v 3], [v 4], [v 5], [v 6], [v 7], [v 8], [v 9], [v 10], [v 11], [v 12], [v 13], [v 14], [v 15], [v 16], [v 17], [v 18], [v 19], [v 20], [v 21], [v 22], [v 23], [v 24], [v 25], [v 26], [v 27], [v 28], [v 29], [v 30]]
def adF (dh m0 : Nat) (z : S9) (v adK adV : Nat → Nat) : Nat → Int → Nat := fun c i => if c = 12 then adK i.toNat else if c = 79 then adV i.toNat else ((adT dh m0 z v).getD c []).getD i.toNat 0
abbrev eF (G : va_G) (dA : Nat → ClassId) (dh m0 : Nat) (z : S9) (v adK adV : Nat → Nat) : zE := (G, dA, adF dh m0 z v adK adV)
abbrev pQ9 : List (Nat × Int) := ((((((((((([] ++ pX4 0) ++ [(42, 0)]) ++ [(43, 0)]) ++ [(44, 0)]) ++ pX7 0) ++ [(45, 0)]) ++ pX3 5) ++ pX5) ++ pX2 0) ++ [(46, 0)]) ++ [(47, 0)])
abbrev pF9 : List (Nat × Int) := ((([] ++ pf (fun j => pX8 (j : Int)) 4) ++ pf (fun j => pX1 (j : Int) ++ pX0 (6 + (j : Int))) 6) ++ pf (fun j => pX7 (1 + (j : Int))) 4)
abbrev pD9 : List (Nat × Int) := (((10, 0) :: pQ9) ++ pF9) ++ pX6 0
theorem zd_W {G : va_G} {dA : Nat → ClassId} {dh m0 : Nat} {z : S9} {v adK adV : Nat → Nat} : ∀ j, j < 4 → zlb (eF G dA dh m0 z v adK adV) (LX8 dA (z.2.1.1 j) (z.2.1.2 j)) (pX8 (j : Int)) := by
  intro j hj
  rcases (show j = 0 ∨ j = 1 ∨ j = 2 ∨ j = 3 by omega) with rfl | rfl | rfl | rfl <;> exact zk_X8 rfl rfl rfl rfl rfl rfl rfl rfl rfl rfl rfl
theorem zd_A {G : va_G} {dA : Nat → ClassId} {dh m0 : Nat} {z : S9} {v adK adV : Nat → Nat} : ∀ j, j < 6 → zlb (eF G dA dh m0 z v adK adV) (LX1 dA (z.2.2.1.1 j) (z.2.2.1.2 j)) (pX1 (j : Int)) := by
  intro j hj
  rcases (show j = 0 ∨ j = 1 ∨ j = 2 ∨ j = 3 ∨ j = 4 ∨ j = 5 by omega) with rfl | rfl | rfl | rfl | rfl | rfl <;> exact zk_X1 rfl rfl rfl rfl rfl rfl rfl
theorem zd_R {G : va_G} {dA : Nat → ClassId} {dh m0 : Nat} {z : S9} {v adK adV : Nat → Nat} : ∀ j, j < 6 → zlb (eF G dA dh m0 z v adK adV) (LX0 dA (z.2.2.2.1.1 j) (z.2.2.2.1.2 j)) (pX0 (6 + (j : Int))) := by
  intro j hj
  rcases (show j = 0 ∨ j = 1 ∨ j = 2 ∨ j = 3 ∨ j = 4 ∨ j = 5 by omega) with rfl | rfl | rfl | rfl | rfl | rfl <;> exact zk_X0 rfl rfl rfl rfl rfl rfl
theorem zd_I {G : va_G} {dA : Nat → ClassId} {dh m0 : Nat} {z : S9} {v adK adV : Nat → Nat} : ∀ j, j < 4 → zlb (eF G dA dh m0 z v adK adV) (LX7 dA (z.2.2.2.2.1 j) (z.2.2.2.2.2 j)) (pX7 (1 + (j : Int))) := by
  intro j hj
  rcases (show j = 0 ∨ j = 1 ∨ j = 2 ∨ j = 3 by omega) with rfl | rfl | rfl | rfl <;> exact zk_X7 rfl rfl rfl rfl rfl rfl
theorem zd_F {G : va_G} {dA : Nat → ClassId} {dh m0 : Nat} {z : S9} {v adK adV : Nat → Nat} : zlb (eF G dA dh m0 z v adK adV) (FX9 dA z.2.1 z.2.2.1 z.2.2.2.1 z.2.2.2.2) pF9 := zlb_app (zlb_app (zlb_app zlb_nil (zlb_fl zd_W)) (zlb_fl (fun j hj => zlb_app (zd_A j hj) (zd_R j hj)))) (zlb_fl zd_I)
theorem zd_V {G : va_G} {dA : Nat → ClassId} {dh m0 : Nat} {z : S9} {v adK adV : Nat → Nat} : zlb (eF G dA dh m0 z v adK adV) (LX5 dA (z.1.2.1 3) z.1.2.2.2) pX5 := zk_X5 rfl rfl rfl rfl (fun j hj => by rcases (show j = 0 ∨ j = 1 ∨ j = 2 ∨ j = 3 ∨ j = 4 ∨ j = 5 ∨ j = 6 by omega) with rfl | rfl | rfl | rfl | rfl | rfl | rfl <;> rfl) (fun j hj => by rcases (show j = 0 ∨ j = 1 ∨ j = 2 ∨ j = 3 ∨ j = 4 ∨ j = 5 ∨ j = 6 by omega) with rfl | rfl | rfl | rfl | rfl | rfl | rfl <;> rfl)
theorem zd_Q {G : va_G} {dA : Nat → ClassId} {dh m0 : Nat} {z : S9} {v adK adV : Nat → Nat} : zlb (eF G dA dh m0 z v adK adV) (QX9 dA (adK 0) z.1.1 z.1.2.1 z.1.2.2.1 z.1.2.2.2 (rf z.2.1.1 4) (rf z.2.2.1.1 6) (rf z.2.2.2.1.1 6) (rf z.2.2.2.2.1 4)) pQ9 := (zlb_app (zlb_app (zlb_app (zlb_app (zlb_app (zlb_app (zlb_app (zlb_app (zlb_app (zlb_app (zlb_app zlb_nil (zk_X4 rfl rfl rfl rfl rfl rfl rfl rfl rfl)) (zlb_q rfl (by decide) (by decide) rfl rfl rfl (fun j hj => ((if_pos hj).trans (congrArg some (show z.2.1.1 j = adF dh m0 z v adK adV 9 (0 + (j : Int)) by rcases (show j = 0 ∨ j = 1 ∨ j = 2 ∨ j = 3 by omega) with rfl | rfl | rfl | rfl <;> rfl)))))) (zlb_q rfl (by decide) (by decide) rfl rfl rfl (fun j hj => ((if_pos hj).trans (congrArg some (show z.2.2.1.1 j = adF dh m0 z v adK adV 2 (0 + (j : Int)) by rcases (show j = 0 ∨ j = 1 ∨ j = 2 ∨ j = 3 ∨ j = 4 ∨ j = 5 by omega) with rfl | rfl | rfl | rfl | rfl | rfl <;> rfl)))))) (zlb_q rfl (by decide) (by decide) rfl rfl rfl (fun j hj => ((if_pos hj).trans (congrArg some (show z.2.2.2.1.1 j = adF dh m0 z v adK adV 1 (6 + (j : Int)) by rcases (show j = 0 ∨ j = 1 ∨ j = 2 ∨ j = 3 ∨ j = 4 ∨ j = 5 by omega) with rfl | rfl | rfl | rfl | rfl | rfl <;> rfl)))))) (zk_X7 rfl rfl rfl rfl rfl rfl)) (zlb_q rfl (by decide) (by decide) rfl rfl rfl (fun j hj => ((if_pos hj).trans (congrArg some (show z.2.2.2.2.1 j = adF dh m0 z v adK adV 8 (1 + (j : Int)) by rcases (show j = 0 ∨ j = 1 ∨ j = 2 ∨ j = 3 by omega) with rfl | rfl | rfl | rfl <;> rfl)))))) (zk_X3 rfl rfl)) zd_V) (zk_X2 rfl rfl rfl rfl)) (zlb_1 rfl (ze_i (by decide) (by decide) (by decide) rfl rfl (by decide) (by decide) (by decide)))) (zlb_1 rfl (ze_i (by decide) (by decide) (by decide) rfl rfl (by decide) (by decide) (by decide))))
theorem zd_D {G : va_G} {dA : Nat → ClassId} {dh m0 : Nat} {z : S9} {v adK adV : Nat → Nat} : zlb (eF G dA dh m0 z v adK adV) (LX9 dA (adK 0) dh z) pD9 := zlb_app (zlb_app (zlb_c rfl (by rw [zo_X9]; rfl) zd_Q) zd_F) (zk_X6 rfl rfl rfl rfl rfl rfl rfl rfl)
theorem zd_M {G : va_G} {dA : Nat → ClassId} {dh m0 : Nat} {z : S9} {v adK adV : Nat → Nat} : zlb (eF G dA dh m0 z v adK adV) ((m0, .inr (z_oc 11, FS10 v)) :: [(v 0, .inl (dA 1, (400, .inl fun _ => 0))), (v 1, .inl (dA 0, (3, .inl fun _ => 0))), (v 2, .inl (dA 0, (4800, .inl fun _ => 0))), (v 3, .inl (dA 0, (16, .inl fun _ => 0))), (v 4, .inl (dA 0, (720, .inl fun _ => 0))), (v 5, .inl (dA 0, (16, .inl fun _ => 0))), (v 6, .inl (dA 0, (16, .inl fun _ => 0))), (v 7, .inl (dA 0, (16, .inl fun _ => 0))), (v 8, .inl (dA 0, (16, .inl fun _ => 0))), (v 9, .inl (dA 0, (16, .inl fun _ => 0))), (v 10, .inl (dA 0, (16, .inl fun _ => 0))), (v 11, .inl (dA 0, (16, .inl fun _ => 0))), (v 12, .inl (dA 0, (16, .inl fun _ => 0))), (v 13, .inl (dA 0, (16, .inl fun _ => 0))), (v 14, .inl (dA 0, (4, .inl fun _ => 0))), (v 15, .inl (dA 0, (48, .inl fun _ => 0))), (v 16, .inl (dA 0, (3456, .inl fun _ => 0))), (v 17, .inl (dA 0, (400, .inl fun _ => 0))), (v 18, .inl (dA 0, (144, .inl fun _ => 0))), (v 19, .inl (dA 0, (144, .inl fun _ => 0))), (v 20, .inl (dA 3, (64, .inr (.inl fun _ => 0)))), (v 21, .inl (dA 3, (10, .inr (.inl fun _ => 0)))), (v 22, .inl (dA 0, (1392, .inl (saidF 8)))), (v 23, .inl (dA 0, (576, .inl fun _ => 0))), (v 24, .inl (dA 0, (576, .inl fun _ => 0))), (v 25, .inl (dA 0, (7, .inl fun _ => 0))), (v 26, .inl (dA 0, (7, .inl fun _ => 0))), (v 27, .inl (dA 0, (144, .inl fun _ => 0))), (v 28, .inl (dA 0, (3, .inl fun _ => 0))), (v 29, .inl (dA 0, (5568, .inl fun _ => 0))), (v 30, .inl (dA 2, (4, .inl fun _ => 0)))]) (pX10 0) := zk_X10 rfl rfl rfl rfl rfl rfl rfl rfl rfl rfl rfl rfl rfl rfl rfl rfl rfl rfl rfl rfl rfl rfl rfl rfl rfl rfl rfl rfl rfl rfl rfl rfl
theorem cells_in : ∀ q ∈ z_cells, q ∈ pD9 ++ pX10 0 := by decide +kernel
theorem rel00 {G : va_G} {dA : Nat → ClassId} {dh m0 : Nat} {z : S9} {v adK adV : Nat → Nat} {H : Heap} {A : Nat → Prop} (hP : va_P G zCl (LX9 dA (adK 0) dh z ++ LX10 dA m0 v) H) (hD : va_D A (LX9 dA (adK 0) dh z ++ LX10 dA m0 v)) : z_Rel (eF G dA dh m0 z v adK adV) w00 H ∧ z_Ad1 (eF G dA dh m0 z v adK adV) A := by
  rw [LX10_eq] at hP hD
  have hz := zlb_app (zd_D (G := G) (dA := dA) (dh := dh) (m0 := m0) (z := z) (v := v) (adK := adK) (adV := adV)) zd_M
  have hP' := zle_P hz hP
  have hD' := zle_D hz hD
  have hin : ∀ (c : Nat) (i : Int), z_val c i → ∃ k : Nat, (pD9 ++ pX10 0)[k]? = some (c, i) ∧ (zb (eF G dA dh m0 z v adK adV) (pD9 ++ pX10 0))[k]? = some ((eF G dA dh m0 z v adK adV).2.2 c i, z_ent (eF G dA dh m0 z v adK adV) c i w00) := fun c i hv => by
    obtain ⟨k, hk⟩ := List.getElem?_of_mem (cells_in _ (z_cells_in hv))
    refine ⟨k, hk, ?_⟩
    unfold zb
    rw [List.getElem?_map, hk]
    rfl
  refine ⟨⟨fun c i hv => ?_, can00⟩, fun c i c' i' h h' e => ?_, fun c i h => ?_⟩
  · obtain ⟨k, h1, h2⟩ := hin c i hv
    exact hP' k _ h2
  · obtain ⟨k, h1, h2⟩ := hin c i h
    obtain ⟨k', h1', h2'⟩ := hin c' i' h'
    have hk : k = k' := hD'.1 k k' _ _ h2 h2' e
    subst hk
    have := Option.some.inj (h1.symm.trans h1')
    exact ⟨congrArg Prod.fst this, congrArg Prod.snd this⟩
  · obtain ⟨k, h1, h2⟩ := hin c i h
    exact hD'.2 k _ h2
