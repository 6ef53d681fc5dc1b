/-- a sign's chance at a cell: 0 felt, 1 seen, 2 heard, 3 a match -/
def chF (kd a b : Int) (p g s loud : Int → Int) (feel see hear : Int) : Int → Int := fun c => if kd = 0 then (if g c = a then feel else (1000 - feel) / 7) else if kd = 1 then (if s c = a then see else (1000 - see) / 9) else if kd = 3 then (if g c = a then (if p c = b then 1000 else 0) else 0) else if max (loud c - b) (-(loud c - b)) = 0 then hear else if max (loud c - b) (-(loud c - b)) = 1 then (1000 - hear) / 4 else (1000 - hear) / 80
theorem ite_bd {p : Prop} [Decidable p] {a b : Int} (ha : 0 ≤ a ∧ a ≤ 1000) (hb : 0 ≤ b ∧ b ≤ 1000) : 0 ≤ (if p then a else b) ∧ (if p then a else b) ≤ 1000 := by
  by_cases h : p
  · rw [if_pos h]; exact ha
  · rw [if_neg h]; exact hb
theorem chF_bd {kd a b : Int} {p g s loud : Int → Int} {feel see hear : Int} (hf : 0 ≤ feel ∧ feel ≤ 1000) (hs : 0 ≤ see ∧ see ≤ 1000) (hh : 0 ≤ hear ∧ hear ≤ 1000) (c : Int) : 0 ≤ chF kd a b p g s loud feel see hear c ∧ chF kd a b p g s loud feel see hear c ≤ 1000 := by
  unfold chF
  exact ite_bd (ite_bd hf (by omega)) (ite_bd (ite_bd hs (by omega)) (ite_bd (ite_bd (ite_bd (by omega) (by omega)) (by omega)) (ite_bd hh (ite_bd (by omega) (by omega)))))
