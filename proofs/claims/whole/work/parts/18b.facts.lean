theorem n_minL {a b : Int} (ha : inL a) (hb : inL b) : (if Int64.ofInt b < Int64.ofInt a then Int64.ofInt b else Int64.ofInt a) = Int64.ofInt (min a b) ∧ inL (min a b) := by
  refine ⟨?_, by unfold inL at *; omega⟩
  by_cases h : b < a
  · rw [if_pos ((n_llt hb ha).mpr h), Int.min_eq_right (by omega)]
  · rw [if_neg (fun q => h ((n_llt hb ha).mp q)), Int.min_eq_left (by omega)]
theorem im_lmin {E : zE} {A : Nat → Prop} {XH : State → Heap → Prop} {l : Launch} {cc : ByteArray} {own : String} {nL : Nat} {rt : Option FieldType} {bp : Nat → Nat} {pc : Nat} {as : List zA} {idx : Nat} (hw : Cond.methodLink own idx Lib.MathLoose.min_long.x ∈ zTB) (hst : Cond.static Lib.MathLoose.min_long.x ∈ zTB) (hi : Cond.initialized "java/lang/Math" ∈ zTB) (hco : Cond.code Lib.MathLoose.min_long.x Lib.MathLoose.min_long.code 4 (some .long) ∈ zTB) (hd : decode cc pc = .ok (.invokestatic idx, 3)) (h : z_Imp E A XH l cc own nL rt bp (pc + 3) as) : z_Imp E A XH l cc own nL rt bp pc (i_lmin :: as) := by
  refine im_mv h fun C G k ls st w r hb okl oks => ?_
  unfold i_lmin a_binLM at hb
  split at hb
  · next b a st1 =>
    obtain ⟨hq, hb2⟩ := z_bt hb
    have hn := n_minL oks.t.h oks.h
    refine ⟨ls, _, w, hb2, okl, oks.t.t.c hn.2, fun d r p e R s m args below meth c cells slots Q cx H locs lv hR hS hL k => ?_⟩
    have hts := cx.2.2.2.2.1
    have hRm := cx.2.2.2.2.2.2.1
    refine va_mmin_long cx.1 cx.2.1 (cx.2.2.1.trans hL.1.symm) cx.2.2.2.1 (hts _ hw) (hts _ hst) (hts _ hi) (hts _ hco) (by omega) (z_szle E hq (by decide) hRm.2.1) hRm.2.2.1 hRm.2.2.2 hd ?_
    rw [hn.1]
    exact k H locs lv hR hS hL
  · cases hb
