/-! THE LAW'S LOOP -/
set_option maxHeartbeats 2000000 in
theorem law_loop {E : zE} {adV : Nat → Nat} {p : Program} {l : Launch} {e : Env} {s : State} {m : MethodId} {below : List Frame} {meth : Method} {c : Code} {b L : Nat} {xs : Nat → Int32} {cells slots : Nat} (C0 : lw_C E adV p s m meth c b L xs) (hcs : cells ≤ 600000 ∧ slots ≤ 7302250) :
    ∀ (n i : Nat) (LS RX : Int → List clau) (w : zW) (H : Heap) (locs : List Loc) (ls : Array Slot), i ≤ L + 9 → L + 10 ≤ i + n → Sim LS RX w → z_Rel E w H → va_S (lw_A s) s.heap H locs → lv_has ls 4 [(0, .ref b), (1, .ref (E.2.2 10 0)), (2, .ref (E.2.2 11 0)), (3, .int (nI i))] → W p l e room_1 s m #[Value.ref b] below meth c H locs cells slots (lw_Z below #[Value.ref b] s) (F0 m 18 ls []) := by
  obtain ⟨hx, hb, hr, hml, hown, hts, hX, hbl, hlocks, hgv⟩ := id C0.1
  have hL := C0.2.2.2.2
  have hbA : ¬ lw_A s b := Nat.not_le.mpr hbl
  intro n
  induction n with
  | zero =>
    intro i LS RX w H locs ls h1 h2
    exact absurd h2 (by omega)
  | succ n ih =>
    intro i LS RX w H locs ls hi hin hSim hR hS hl
    refine lv_iload_n hx hb dL_law_18 rfl (lv_at hl 3 rfl) ?_
    refine lv_aload_n hx hb dL_law_19 rfl (lv_at hl 0 rfl) ?_
    refine va_slen hx hb hX hbl hbA hS dL_law_20 ?_
    refine lv_bipush (v := 9) hx hb dL_law_21 (by decide) ?_
    refine lv_isub hx hb dL_law_23 ?_
    have e9 : (Int32.ofNat L - 9 : Int32).toInt = (L : Int) - 9 := by
      have h1 : (Int32.ofNat L : Int32) = nI L := rfl
      rw [h1, Int32.toInt_sub, nI_toInt (by omega), show (9 : Int32).toInt = 9 by decide]
      exact Int.bmod_eq_of_le (by omega) (by omega)
    have ei : (nI i).toInt = (i : Int) := nI_toInt (by omega)
    refine lv_icmp_gt (tgt := 1326) hx hb dL_law_24 (by decide) (fun h => ?_) (fun h => ?_)
    · refine lv_iconst (v := 1) hx hb dL_law_1326 (by decide) ?_
      refine va_forget (fun q hq => hS.2.2 q hq) ?_
      refine W.widen (k := 600000) (n := 7302250) hcs.1 hcs.2 ?_
      exact lw_ret hx hb hr hlocks dL_law_1327
    · have h9 : i + 8 < L := by
        have h' : ¬ (Int32.ofNat L - 9 : Int32) < nI i := h
        rw [Int32.lt_iff_toInt_lt, e9, ei] at h'
        omega
      have kk : ∀ (LS RX : Int → List clau) (w : zW) (H : Heap) (locs : List Loc), Sim LS RX w → z_Rel E w H → va_S (lw_A s) s.heap H locs → W p l e room_1 s m #[Value.ref b] below meth c H locs cells slots (lw_Z below #[Value.ref b] s) (F0 m 1320 ls []) := by
        intro LS RX w H locs hSim hR hS
        refine lv_iinc (v := nI (i + 9)) (lv' := [(3, .int (nI (i + 9))), (0, .ref b), (1, .ref (E.2.2 10 0)), (2, .ref (E.2.2 11 0))]) hx hb dL_law_1320 hl (k := 3) rfl (nI_add i 9) (by decide) rfl (fun ls hl => ?_)
        refine lv_goto (tgt := 18) hx hb dL_law_1323 (by decide) ?_
        exact ih (i + 9) LS RX w H locs ls (by omega) (by omega) hSim hR hS (lv_sub hl [1, 2, 3, 0] rfl)
      refine lv_aload_n hx hb dL_law_27 rfl (lv_at hl 0 rfl) ?_
      refine lv_iload_n hx hb dL_law_28 rfl (lv_at hl 3 rfl) ?_
      refine va_sld hx hb hX hbl hbA hS (vp_in_nI (by omega) (by omega)) dL_law_29 ?_
      refine lv_bipush (v := 31) hx hb dL_law_30 (by decide) ?_
      refine lv_iand hx hb dL_law_32 ?_
      refine lv_topi (fun x ex => ?_)
      by_cases h1 : x.toInt < 0
      · exact lv_tableOut (tgt := 1320) hx hb dL_law_33 (Or.inl h1) (by decide) (kk LS RX w H locs hSim hR hS)
      by_cases h2 : 28 < x.toInt
      · exact lv_tableOut (tgt := 1320) hx hb dL_law_33 (Or.inr h2) (by decide) (kk LS RX w H locs hSim hR hS)
      have h3 : x.toInt = 0 ∨ x.toInt = 1 ∨ x.toInt = 2 ∨ x.toInt = 3 ∨ x.toInt = 4 ∨ x.toInt = 5 ∨ x.toInt = 6 ∨ x.toInt = 7 ∨ x.toInt = 8 ∨ x.toInt = 9 ∨ x.toInt = 10 ∨ x.toInt = 11 ∨ x.toInt = 12 ∨ x.toInt = 13 ∨ x.toInt = 14 ∨ x.toInt = 15 ∨ x.toInt = 16 ∨ x.toInt = 17 ∨ x.toInt = 18 ∨ x.toInt = 19 ∨ x.toInt = 20 ∨ x.toInt = 21 ∨ x.toInt = 22 ∨ x.toInt = 23 ∨ x.toInt = 24 ∨ x.toInt = 25 ∨ x.toInt = 26 ∨ x.toInt = 27 ∨ x.toInt = 28 := by omega
      rcases h3 with h3 | h3 | h3 | h3 | h3 | h3 | h3 | h3 | h3 | h3 | h3 | h3 | h3 | h3 | h3 | h3 | h3 | h3 | h3 | h3 | h3 | h3 | h3 | h3 | h3 | h3 | h3 | h3 | h3

      · exact lv_tableIn (off := 131) (tgt := 164) hx hb dL_law_33 h1 h2 (by rw [h3]; rfl) (by decide) (lw_case_0 C0 h9 hcs hl hR hS hSim kk)
      · exact lv_tableIn (off := 194) (tgt := 227) hx hb dL_law_33 h1 h2 (by rw [h3]; rfl) (by decide) (lw_case_1 C0 h9 hcs hl hR hS hSim kk)
      · exact lv_tableIn (off := 217) (tgt := 250) hx hb dL_law_33 h1 h2 (by rw [h3]; rfl) (by decide) (lw_case_2 C0 h9 hcs hl hR hS hSim kk)
      · exact lv_tableIn (off := 240) (tgt := 273) hx hb dL_law_33 h1 h2 (by rw [h3]; rfl) (by decide) (lw_case_3 C0 h9 hcs hl hR hS hSim kk)
      · exact lv_tableIn (off := 293) (tgt := 326) hx hb dL_law_33 h1 h2 (by rw [h3]; rfl) (by decide) (lw_case_4 C0 h9 hcs hl hR hS hSim kk)
      · exact lv_tableIn (off := 326) (tgt := 359) hx hb dL_law_33 h1 h2 (by rw [h3]; rfl) (by decide) (lw_case_5 C0 h9 hcs hl hR hS hSim kk)
      · exact lv_tableIn (off := 389) (tgt := 422) hx hb dL_law_33 h1 h2 (by rw [h3]; rfl) (by decide) (lw_case_6 C0 h9 hcs hl hR hS hSim kk)
      · exact lv_tableIn (off := 412) (tgt := 445) hx hb dL_law_33 h1 h2 (by rw [h3]; rfl) (by decide) (lw_case_7 C0 h9 hcs hl hR hS hSim kk)
      · exact lv_tableIn (off := 435) (tgt := 468) hx hb dL_law_33 h1 h2 (by rw [h3]; rfl) (by decide) (lw_case_8 C0 h9 hcs hl hR hS hSim kk)
      · exact lv_tableIn (off := 458) (tgt := 491) hx hb dL_law_33 h1 h2 (by rw [h3]; rfl) (by decide) (lw_case_9 C0 h9 hcs hl hR hS hSim kk)
      · exact lv_tableIn (off := 491) (tgt := 524) hx hb dL_law_33 h1 h2 (by rw [h3]; rfl) (by decide) (lw_case_10 C0 h9 hcs hl hR hS hSim kk)
      · exact lv_tableIn (off := 540) (tgt := 573) hx hb dL_law_33 h1 h2 (by rw [h3]; rfl) (by decide) (lw_case_11 C0 h9 hcs hl hR hS hSim kk)
      · exact lv_tableIn (off := 583) (tgt := 616) hx hb dL_law_33 h1 h2 (by rw [h3]; rfl) (by decide) (lw_case_12 C0 h9 hcs hl hR hS hSim kk)
      · exact lv_tableIn (off := 606) (tgt := 639) hx hb dL_law_33 h1 h2 (by rw [h3]; rfl) (by decide) (lw_case_13 C0 h9 hcs hl hR hS hSim kk)
      · exact lv_tableIn (off := 650) (tgt := 683) hx hb dL_law_33 h1 h2 (by rw [h3]; rfl) (by decide) (lw_case_14 C0 h9 hcs hl hR hS hSim kk)
      · exact lv_tableIn (off := 673) (tgt := 706) hx hb dL_law_33 h1 h2 (by rw [h3]; rfl) (by decide) (lw_case_15 C0 h9 hcs hl hR hS hSim kk)
      · exact lv_tableIn (off := 696) (tgt := 729) hx hb dL_law_33 h1 h2 (by rw [h3]; rfl) (by decide) (lw_case_16 C0 h9 hcs hl hR hS hSim kk)
      · exact lv_tableIn (off := 759) (tgt := 792) hx hb dL_law_33 h1 h2 (by rw [h3]; rfl) (by decide) (lw_case_17 C0 h9 hcs hl hR hS hSim kk)
      · exact lv_tableIn (off := 802) (tgt := 835) hx hb dL_law_33 h1 h2 (by rw [h3]; rfl) (by decide) (lw_case_18 C0 h9 hcs hl hR hS hSim kk)
      · exact lv_tableIn (off := 815) (tgt := 848) hx hb dL_law_33 h1 h2 (by rw [h3]; rfl) (by decide) (lw_case_19 C0 h9 hcs hl hR hS hSim kk)
      · exact lv_tableIn (off := 858) (tgt := 891) hx hb dL_law_33 h1 h2 (by rw [h3]; rfl) (by decide) (lw_case_20 C0 h9 hcs hl hR hS hSim kk)
      · exact lv_tableIn (off := 881) (tgt := 914) hx hb dL_law_33 h1 h2 (by rw [h3]; rfl) (by decide) (lw_case_21 C0 h9 hcs hl hR hS hSim kk)
      · exact lv_tableIn (off := 924) (tgt := 957) hx hb dL_law_33 h1 h2 (by rw [h3]; rfl) (by decide) (lw_case_22 C0 h9 hcs hl hR hS hSim kk)
      · exact lv_tableIn (off := 957) (tgt := 990) hx hb dL_law_33 h1 h2 (by rw [h3]; rfl) (by decide) (lw_case_23 C0 h9 hcs hl hR hS hSim kk)
      · exact lv_tableIn (off := 1044) (tgt := 1077) hx hb dL_law_33 h1 h2 (by rw [h3]; rfl) (by decide) (lw_case_24 C0 h9 hcs hl hR hS hSim kk)
      · exact lv_tableIn (off := 1143) (tgt := 1176) hx hb dL_law_33 h1 h2 (by rw [h3]; rfl) (by decide) (lw_case_25 C0 h9 hcs hl hR hS hSim kk)
      · exact lv_tableIn (off := 1218) (tgt := 1251) hx hb dL_law_33 h1 h2 (by rw [h3]; rfl) (by decide) (lw_case_26 C0 h9 hcs hl hR hS hSim kk)
      · exact lv_tableIn (off := 1241) (tgt := 1274) hx hb dL_law_33 h1 h2 (by rw [h3]; rfl) (by decide) (lw_case_27 C0 h9 hcs hl hR hS hSim kk)
      · exact lv_tableIn (off := 1264) (tgt := 1297) hx hb dL_law_33 h1 h2 (by rw [h3]; rfl) (by decide) (lw_case_28 C0 h9 hcs hl hR hS hSim kk)
