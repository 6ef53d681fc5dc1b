/-- Clauses_clear -/
def B_0 : List (List zA) := [[a_ldR 0, a_push (vI 0), a_pI 1 5, a_ldR 0, a_push (vI 0), a_pI 1 6, a_retV]]
/-- Clauses_add -/
def B_1 : List (List zA) := [[a_ldR 0, a_gI 1 5, a_push (vI 400), a_if2 (fun a b => b ≤ a) 2 [] 1 [true, true, true]],
  [a_ldR 0, a_gS 1 13, a_ldR 0, a_gI 1 5, a_ldI 1, a_ldI 2, a_push (vI 8), i_ishl, i_ior, a_sN 13 400, a_ldR 0, a_dup, a_gI 1 5, a_push (vI 1), i_iadd, a_pI 1 5, a_go 2 []],
  [a_retV]]
/-- Clauses_openOne -/
def B_2 : List (List zA) := [[a_ldR 0, a_gI 1 6, a_push (vI 12), a_if2 (fun a b => b ≤ a) 2 [] 1 [true]],
  [a_ldR 0, a_gS 1 14, a_ldR 0, a_gI 1 6, a_ldR 0, a_gI 1 5, a_sN 14 12, a_go 2 []],
  [a_retV]]
/-- Clauses_openTest -/
def B_3 : List (List zA) := [[a_ldR 0, a_gI 1 6, a_push (vI 12), a_if2 (fun a b => b ≤ a) 2 [] 1 [true]],
  [a_ldR 0, a_gS 1 15, a_ldR 0, a_gI 1 6, a_ldR 0, a_gI 1 5, a_sN 15 12, a_go 2 []],
  [a_retV]]
/-- Clauses_closeOne -/
def B_4 : List (List zA) := [[a_ldR 0, a_gI 1 6, a_push (vI 12), a_if2 (fun a b => b ≤ a) 2 [] 1 [true]],
  [a_ldR 0, a_gS 1 16, a_ldR 0, a_gI 1 6, a_ldR 0, a_gI 1 5, a_sN 16 12, a_ldR 0, a_dup, a_gI 1 6, a_push (vI 1), i_iadd, a_pI 1 6, a_go 2 []],
  [a_retV]]
/-- Clauses_first -/
def B_5 : List (List zA) := [[a_push (vI 0), a_stI 4, a_go 1 [true, true, true, false, true]],
  [a_ldI 4, a_ldR 0, a_gI 1 6, a_if2 (fun a b => b ≤ a) 6 [false, false, true] 2 [true, true, true, false, true]],
  [a_ldR 0, a_gS 1 15, a_ldI 4, a_aI 15 12, a_ldR 0, a_gS 1 16, a_ldI 4, a_aI 16 12, a_if2 (fun a b => a = b) 4 [true, true, false, false, true] 3 [true, true, true, false, true]],
  [a_ldR 0, a_ldR 0, a_gS 1 15, a_ldI 4, a_aI 15 12, a_ldR 0, a_gS 1 16, a_ldI 4, a_aI 16 12, a_ldR 1, a_callV 6 4 2 13 1, a_push (vL 0), a_ifL (fun a b => a = b) 5 [true, true, true, false, true] 4 [true, true, false, false, true]],
  [a_ldR 0, a_ldR 0, a_gS 1 14, a_ldI 4, a_aI 14 12, a_ldR 0, a_gS 1 15, a_ldI 4, a_aI 15 12, a_ldR 1, a_callV 6 4 2 13 1, a_retL],
  [a_iinc 4 1, a_go 1 [true, true, true, false, true]],
  [a_ldL 2, a_retL]]
/-- Clauses_worth -/
def B_6 : List (List zA) := [[a_push (vI 0), a_stI 4, a_ldI 1, a_stI 5, a_go 1 [true, false, true, true, true, true]],
  [a_ldI 5, a_ldI 2, a_if2 (fun a b => b ≤ a) 42 [true, false, false, false, true] 2 [true, false, true, true, true, true]],
  [a_ldI 5, a_push (vI 400), a_if2 (fun a b => b ≤ a) 42 [true, false, false, false, true] 3 [true, false, true, true, true, true]],
  [a_ldR 0, a_gS 1 13, a_ldI 5, a_aI 13 400, a_push (vI 255), i_iand, a_stI 6, a_ldR 0, a_gS 1 13, a_ldI 5, a_aI 13 400, a_push (vI 8), i_ishr, a_stI 7, a_ldI 6, a_push (vI 48), a_if2 (fun a b => a = b) 6 [true, false, true, true, true, true, true, true] 4 [true, false, true, true, true, true, true, true]],
  [a_ldI 6, a_push (vI 97), a_if2 (fun a b => a = b) 5 [true, false, true, true, true, true, true, true] 7 [true, false, true, true, true, true, true, true]],
  [a_ldI 7, a_ldR 3, a_lenX, a_if2 (fun a b => b ≤ a) 7 [true, false, true, true, true, true, true, true] 6 [true, false, true, true, true, true, true, true]],
  [a_push (vI 1), a_go 8 [true, false, true, true, true, true, true, true]],
  [a_push (vI 0), a_go 8 [true, false, true, true, true, true, true, true]],
  [a_stI 8, a_ldI 8, a_if1 (fun a => a = 0) 14 [true, false, true, true, true, true, true] 9 [true, false, true, true, true, true, true, true]],
  [a_ldI 4, a_push (vI 64), a_if2 (fun a b => b ≤ a) 14 [true, false, true, true, true, true, true] 10 [true, false, true, true, true, true, true, true]],
  [a_ldR 0, a_gS 1 17, a_ldI 4, a_ldI 6, a_push (vI 48), a_if2 (fun a b => a = b) 11 [true, false, true, true, true, true, false, true] 12 [true, false, true, true, true, true, false, true]],
  [a_ldI 7, a_i2l, a_go 13 [true, false, true, true, true, true]],
  [a_ldR 3, a_ldI 7, a_aLX, a_go 13 [true, false, true, true, true, true]],
  [a_sL 17 64, a_iinc 4 1, a_go 41 [true, false, true, true, true, true]],
  [a_ldI 6, a_push (vI 33), a_if2 (fun a b => a = b) 15 [true, false, true, true, true, true, true] 17 [true, false, true, true, true, true, true]],
  [a_ldI 4, a_if1 (fun a => a ≤ 0) 17 [true, false, true, true, true, true, true] 16 [true, false, true, true, true, true]],
  [a_ldR 0, a_gS 1 17, a_ldI 4, a_push (vI 1), i_isub, a_push (vL 1), a_ldR 0, a_gS 1 17, a_ldI 4, a_push (vI 1), i_isub, a_aL 17 64, i_lsubw, a_sL 17 64, a_go 41 [true, false, true, true, true, true]],
  [a_ldI 4, a_push (vI 1), a_if2 (fun a b => a ≤ b) 41 [true, false, true, true, true, true] 18 [true, false, true, true, true, true, true]],
  [a_iinc 4 (-1), a_ldR 0, a_gS 1 17, a_ldI 4, a_aL 17 64, a_stL 9, a_ldR 0, a_gS 1 17, a_ldI 4, a_push (vI 1), i_isub, a_aL 17 64, a_stL 11, a_ldI 6, a_lsw [(38, 26, [true, false, true, true, true, true, false, false, false, true, false, true]), (42, 21, [true, false, true, true, true, true, false, false, false, true, false, true]), (43, 19, [true, false, true, true, true, true, false, false, false, true, false, true]), (45, 20, [true, false, true, true, true, true, false, false, false, true, false, true]), (47, 22, [true, false, true, true, true, true, false, false, false, true, false, true]), (60, 28, [true, false, true, true, true, true, false, false, false, true, false, true]), (62, 32, [true, false, true, true, true, true, false, false, false, true, false, true]), (124, 27, [true, false, true, true, true, true, false, false, false, true, false, true])] 36 [true, false, true, true, true, true, false, false, false, true, false, true]],
  [a_ldL 11, a_ldL 9, i_laddw, a_stL 11, a_go 40 [true, false, true, true, true, true, false, false, false, false, false, true]],
  [a_ldL 11, a_ldL 9, i_lsubw, a_stL 11, a_go 40 [true, false, true, true, true, true, false, false, false, false, false, true]],
  [a_ldL 11, a_ldL 9, i_lmulw, a_stL 11, a_go 40 [true, false, true, true, true, true, false, false, false, false, false, true]],
  [a_ldL 9, a_push (vL 0), a_ifL (fun a b => a = b) 23 [true, false, true, true, true, true] 24 [true, false, true, true, true, true, false, false, false, true, false, true]],
  [a_push (vL 0), a_go 25 [true, false, true, true, true, true]],
  [a_ldL 11, a_ldL 9, i_ldivw, a_go 25 [true, false, true, true, true, true]],
  [a_stL 11, a_go 40 [true, false, true, true, true, true, false, false, false, false, false, true]],
  [a_ldL 11, a_ldL 9, i_land, a_stL 11, a_go 40 [true, false, true, true, true, true, false, false, false, false, false, true]],
  [a_ldL 11, a_ldL 9, i_lor, a_stL 11, a_go 40 [true, false, true, true, true, true, false, false, false, false, false, true]],
  [a_ldL 11, a_ldL 9, a_ifL (fun a b => b ≤ a) 30 [true, false, true, true, true, true] 29 [true, false, true, true, true, true]],
  [a_push (vL 1), a_go 31 [true, false, true, true, true, true]],
  [a_push (vL 0), a_go 31 [true, false, true, true, true, true]],
  [a_stL 11, a_go 40 [true, false, true, true, true, true, false, false, false, false, false, true]],
  [a_ldL 11, a_ldL 9, a_ifL (fun a b => a ≤ b) 34 [true, false, true, true, true, true] 33 [true, false, true, true, true, true]],
  [a_push (vL 1), a_go 35 [true, false, true, true, true, true]],
  [a_push (vL 0), a_go 35 [true, false, true, true, true, true]],
  [a_stL 11, a_go 40 [true, false, true, true, true, true, false, false, false, false, false, true]],
  [a_ldL 11, a_ldL 9, a_ifL (fun a b => a = b) 37 [true, false, true, true, true, true] 38 [true, false, true, true, true, true]],
  [a_push (vL 1), a_go 39 [true, false, true, true, true, true]],
  [a_push (vL 0), a_go 39 [true, false, true, true, true, true]],
  [a_stL 11, a_go 40 [true, false, true, true, true, true, false, false, false, false, false, true]],
  [a_ldR 0, a_gS 1 17, a_ldI 4, a_push (vI 1), i_isub, a_ldL 11, a_sL 17 64, a_go 41 [true, false, true, true, true, true]],
  [a_iinc 5 1, a_go 1 [true, false, true, true, true, true]],
  [a_ldI 4, a_if1 (fun a => a ≤ 0) 44 [] 43 [true]],
  [a_ldR 0, a_gS 1 17, a_push (vI 0), a_aL 17 64, a_go 45 []],
  [a_push (vL 0), a_go 45 []],
  [a_retL]]
/-- Law_clear -/
def B_7 : List (List zA) := [[a_ldR 0, a_gS 2 1, a_callV 0 1 0 1 1, a_ldR 0, a_push (vI 20), a_pI 2 1, a_ldR 0, a_push (vI 800), a_pI 2 2, a_ldR 0, a_push (vI 800), a_pI 2 3, a_ldR 0, a_push (vI 800), a_pI 2 4, a_retV]]
/-- Law_seeing -/
def B_8 : List (List zA) := [[a_push (vI 100), a_ldR 0, a_gI 2 3, a_ldI 1, i_imul, a_push (vI 30), i_idiv, i_max, a_retI]]
/-- Night_play -/
def B_9 : List (List zA) := [[a_ldR 0, a_ldI 4, a_i2l, a_pL 3 2, a_ldR 0, a_push (vI 0), a_pI 3 7, a_ldR 0, a_push (vI 0), a_pI 3 8, a_ldR 0, a_push (vI 0), a_pI 3 9, a_push (vI 0), a_stI 7, a_go 1 [true, true, true, true, false, true, true, true]],
  [a_ldI 7, a_ldI 6, a_if2 (fun a b => b ≤ a) 13 [] 2 [true, true, true, true, false, true, true, true]],
  [a_ldR 0, a_ldI 3, a_push (vI 4), i_idiv, a_ldI 3, a_push (vI 4), i_irem, a_callV 10 3 0 3 3, a_ldI 5, a_stI 8, a_go 3 [true, true, true, true, false, true, true, true, true]],
  [a_ldI 8, a_if1 (fun a => a ≤ 0) 6 [true, true, true, true, false, true, true, true] 4 [true, true, true, true, false, true, true, true, true]],
  [a_ldR 0, a_gI 3 6, a_if1 (fun a => a = 0) 5 [true, true, true, true, false, true, true, true, true] 6 [true, true, true, true, false, true, true, true]],
  [a_ldR 0, a_ldR 1, a_ldR 2, a_callV 12 3 0 4 3, a_iinc 8 (-1), a_go 3 [true, true, true, true, false, true, true, true, true]],
  [a_ldR 0, a_dup, a_gI 3 7, a_ldR 0, a_gI 3 6, a_push (vI 1), a_if2 (fun a b => a = b) 7 [true, true, true, true, false, true, true, true] 8 [true, true, true, true, false, true, true, true]],
  [a_push (vI 1), a_go 9 [true, true, true, true, false, true, true, true]],
  [a_push (vI 0), a_go 9 [true, true, true, true, false, true, true, true]],
  [i_iadd, a_pI 3 7, a_ldR 0, a_dup, a_gI 3 8, a_ldR 0, a_gI 3 6, a_push (vI 2), a_if2 (fun a b => a = b) 10 [true, true, true, true, false, true, true, true] 11 [true, true, true, true, false, true, true, true]],
  [a_push (vI 1), a_go 12 [true, true, true, true, false, true, true, true]],
  [a_push (vI 0), a_go 12 [true, true, true, true, false, true, true, true]],
  [i_iadd, a_pI 3 8, a_ldR 0, a_dup, a_gI 3 9, a_ldR 0, a_gI 3 5, i_iadd, a_pI 3 9, a_iinc 7 1, a_go 1 [true, true, true, true, false, true, true, true]],
  [a_retV]]
/-- Night_begin -/
def B_10 : List (List zA) := [[a_ldR 0, a_gK 3 4 13, a_ldI 1, a_ldI 2, a_callV 17 3 0 3 4, a_ldR 0, a_ldI 1, a_pI 3 3, a_ldR 0, a_ldI 2, a_pI 3 4, a_ldR 0, a_push (vI 0), a_pI 3 5, a_ldR 0, a_push (vI 0), a_pI 3 6, a_ldR 0, a_gS 3 18, a_push (vL 99), a_call 227 2 0 5, a_retV]]
/-- Night_draw -/
def B_11 : List (List zA) := [[a_ldR 0, a_ldR 0, a_gL 3 2, a_push (vL 1103515245), i_lmul, a_push (vL 12345), i_ladd, a_push (vL 2147483648), i_lrem, a_pL 3 2, a_ldR 0, a_gL 3 2, a_push (vL 65536), i_ldiv, a_l2i, a_retI]]
/-- Night_round -/
def B_12 : List (List zA) := [[a_ldR 0, a_dup, a_gI 3 5, a_push (vI 1), i_iadd, a_pI 3 5, a_ldR 0, a_ldR 1, a_gD 7 0 9, a_callV 13 2 0 2 3, a_ldR 2, a_ldR 0, a_gS 3 18, a_push (vL 4), a_callV 5 3 2 5 1, a_l2i, a_stI 3, a_ldI 3, a_push (vI 5), a_if2 (fun a b => a = b) 1 [true, true, false, true] 2 [true, true, false, true]],
  [a_ldR 0, a_ldR 1, a_callV 14 2 0 4 3, a_go 7 [true, true, false, true]],
  [a_ldI 3, a_if1 (fun a => a = 0) 3 [true, true, false, true] 4 [true, true, false, true]],
  [a_ldR 0, a_ldR 1, a_callV 15 2 0 7 3, a_go 6 [true, true, false, true]],
  [a_ldI 3, a_push (vI 4), a_if2 (fun a b => a = b) 6 [true, true, false, true] 5 [true, true, false, true]],
  [a_ldR 0, a_ldR 0, a_gI 3 4, a_ldI 3, a_call 20 2 1 3, a_pI 3 4, a_go 6 [true, true, false, true]],
  [a_ldR 0, a_gK 3 4 13, a_ldI 3, a_push (vI 0), a_push (vI 0), a_ldR 1, a_callV 19 5 1 6 4, a_pop, a_go 7 [true, true, false, true]],
  [a_ldR 0, a_gI 3 3, a_ldR 1, a_gD 7 0 9, a_gI 9 2, a_if2 (fun a b => a = b) 8 [true] 9 [true, true, false, true]],
  [a_ldR 0, a_push (vI 1), a_pI 3 6, a_go 13 []],
  [a_ldI 3, a_if1 (fun a => a = 0) 10 [true, true] 12 [true, true]],
  [a_ldR 0, a_callV 11 1 1 1 3, a_push (vI 1000), i_irem, a_ldR 1, a_gD 7 0 9, a_gS 9 37, a_ldR 0, a_gI 3 3, a_aI 37 144, a_if2 (fun a b => b ≤ a) 12 [true, true] 11 [true]],
  [a_ldR 0, a_push (vI 2), a_pI 3 6, a_go 13 []],
  [a_ldR 0, a_ldR 1, a_callV 16 2 0 7 3, a_go 13 []],
  [a_retV]]
/-- Night_takeStock -/
def B_13 : List (List zA) := [[a_ldR 0, a_gS 3 18, a_push (vI 0), a_ldR 0, a_gK 3 4 13, a_ldR 1, a_callV 27 2 2 5 4, a_push (vL 1000000), i_ldiv, a_sL 18 10, a_ldR 0, a_gS 3 18, a_push (vI 1), a_ldR 0, a_gK 3 4 13, a_ldR 1, a_gI 9 2, a_push (vI (-1)), a_callV 25 3 2 4 4, a_push (vL 1000000), i_ldiv, a_sL 18 10, a_ldR 0, a_gS 3 18, a_push (vI 2), a_ldR 0, a_gK 3 4 13, a_ldR 1, a_callV 29 2 1 2 4, a_i2l, a_sL 18 10, a_ldR 0, a_gS 3 18, a_push (vI 6), a_ldR 0, a_gK 3 4 13, a_gI 4 1, a_i2l, a_sL 18 10, a_ldR 0, a_gS 3 18, a_push (vI 7), a_ldR 0, a_gK 3 4 13, a_gI 4 2, a_i2l, a_sL 18 10, a_ldR 0, a_gS 3 18, a_push (vI 8), a_ldR 0, a_gK 3 4 13, a_gI 4 3, a_i2l, a_sL 18 10, a_retV]]
/-- Night_strikeOne -/
def B_14 : List (List zA) := [[a_ldR 1, a_gD 7 0 9, a_gS 9 35, a_ldR 0, a_gI 3 3, a_aI 35 144, a_stI 2, a_ldR 1, a_gD 7 0 9, a_gS 9 33, a_ldR 0, a_gI 3 3, a_aI 33 144, a_stI 3, a_ldR 0, a_gK 3 4 13, a_gI 4 2, a_if1 (fun a => a ≤ 0) 3 [true, true] 1 [true, true, true, true]],
  [a_ldR 0, a_gK 3 4 13, a_push (vI 5), a_ldI 2, a_ldI 3, a_ldR 1, a_callV 19 5 1 6 4, a_if1 (fun a => a = 0) 3 [true, true] 2 [true, false, false, true]],
  [a_ldR 0, a_gS 3 18, a_push (vI 9), a_ldI 3, a_i2l, a_sL 18 10, a_go 4 []],
  [a_ldR 0, a_gK 3 4 13, a_push (vI 4), a_push (vI 0), a_push (vI 0), a_ldR 1, a_callV 19 5 1 6 4, a_pop, a_go 4 []],
  [a_retV]]
/-- Night_goTruly -/
def B_15 : List (List zA) := [[a_ldR 1, a_ldR 0, a_gK 3 4 13, a_gI 4 3, a_callV 58 2 0 4 7, a_ldR 1, a_ldR 0, a_gI 3 3, a_ldR 0, a_gK 3 4 13, a_gI 4 3, a_callV 59 3 1 3 7, a_stI 2, a_ldR 1, a_ldI 2, a_callV 60 2 1 2 7, a_stI 3, a_ldR 0, a_callV 11 1 1 1 3, a_push (vI 1000), i_irem, a_stI 4, a_ldR 0, a_gI 3 4, a_stI 5, a_ldI 4, a_ldI 2, a_push (vI 2), a_ldI 3, i_imul, i_iadd, a_if2 (fun a b => a < b) 2 [true, true, true, true, true, true] 1 []],
  [a_retV],
  [a_ldI 4, a_ldI 2, a_if2 (fun a b => a < b) 7 [true, true, false, false, false, true] 3 [true, true, true, true, true]],
  [a_ldR 0, a_gI 3 4, a_ldI 4, a_ldI 2, a_ldI 3, i_iadd, a_if2 (fun a b => b ≤ a) 5 [true, true] 4 [true, true]],
  [a_push (vI 3), a_go 6 [true, true]],
  [a_push (vI 1), a_go 6 [true, true]],
  [i_iadd, a_push (vI 4), i_irem, a_stI 5, a_go 7 [true, true, false, false, false, true]],
  [a_ldR 1, a_gD 7 0 9, a_gS 9 39, a_ldR 0, a_gI 3 3, a_push (vI 4), i_imul, a_ldI 5, i_iadd, a_aI 39 576, a_stI 6, a_ldI 6, a_push (vI (-1)), a_if2 (fun a b => a = b) 9 [] 8 [true, false, false, false, false, true, true]],
  [a_ldR 0, a_ldI 6, a_pI 3 3, a_ldR 0, a_ldI 5, a_pI 3 4, a_go 9 []],
  [a_retV]]
/-- Night_perceive -/
def B_16 : List (List zA) := [[a_ldR 1, a_gD 7 0 9, a_stR 2, a_ldR 1, a_gD 7 1 2, a_stR 3, a_ldR 2, a_gS 9 35, a_ldR 0, a_gI 3 3, a_aI 35 144, a_stI 4, a_ldR 0, a_callV 11 1 1 1 3, a_push (vI 1000), i_irem, a_ldR 3, a_gI 2 2, a_if2 (fun a b => a < b) 2 [true, true, true, true, true] 1 [true, true, true, true, true]],
  [a_ldI 4, a_push (vI 1), i_iadd, a_ldR 0, a_callV 11 1 1 1 3, a_push (vI 7), i_irem, i_iadd, a_push (vI 8), i_irem, a_stI 4, a_go 2 [true, true, true, true, true]],
  [a_ldR 0, a_gK 3 4 13, a_push (vI 6), a_ldI 4, a_push (vI 0), a_ldR 1, a_callV 19 5 1 6 4, a_if1 (fun a => a = 0) 4 [true, true, true, true] 3 [true, true, true, true, true]],
  [a_ldR 0, a_gS 3 18, a_push (vI 3), a_ldI 4, a_i2l, a_sL 18 10, a_go 4 [true, true, true, true]],
  [a_ldR 2, a_gS 9 36, a_ldR 0, a_gI 3 3, a_aI 36 144, a_stI 5, a_ldR 0, a_callV 11 1 1 1 3, a_push (vI 1000), i_irem, a_ldR 3, a_ldR 0, a_gK 3 4 13, a_gI 4 3, a_callV 8 2 1 2 2, a_if2 (fun a b => a < b) 6 [true, true, true, true, false, true] 5 [true, true, true, true, false, true]],
  [a_ldI 5, a_push (vI 1), i_iadd, a_ldR 0, a_callV 11 1 1 1 3, a_push (vI 9), i_irem, i_iadd, a_push (vI 10), i_irem, a_stI 5, a_go 6 [true, true, true, true, false, true]],
  [a_ldR 0, a_gK 3 4 13, a_push (vI 7), a_ldI 5, a_push (vI 0), a_ldR 1, a_callV 19 5 1 6 4, a_if1 (fun a => a = 0) 8 [true, true, true, true] 7 [true, true, true, true, false, true]],
  [a_ldR 0, a_gS 3 18, a_push (vI 4), a_ldI 5, a_i2l, a_sL 18 10, a_go 8 [true, true, true, true]],
  [a_ldR 2, a_gI 9 3, a_if1 (fun a => a ≤ 0) 16 [] 9 [true, true, true, true]],
  [a_ldR 2, a_push (vI 0), a_ldR 0, a_gI 3 3, a_callV 72 3 1 3 9, a_stI 6, a_ldR 0, a_callV 11 1 1 1 3, a_push (vI 1000), i_irem, a_ldR 3, a_gI 2 4, a_if2 (fun a b => a < b) 14 [true, true, false, false, false, false, true] 10 [true, true, false, false, false, false, true]],
  [a_ldR 0, a_callV 11 1 1 1 3, a_push (vI 2), i_irem, a_if1 (fun a => a = 0) 11 [true, true, false, false, false, false, true] 12 [true, true, false, false, false, false, true]],
  [a_push (vI 0), a_ldI 6, a_push (vI 1), i_isub, i_max, a_go 13 [true, true]],
  [a_push (vI 40), a_ldI 6, a_push (vI 1), i_iadd, i_min, a_go 13 [true, true]],
  [a_stI 6, a_go 14 [true, true, false, false, false, false, true]],
  [a_ldR 0, a_gK 3 4 13, a_push (vI 8), a_push (vI 0), a_ldI 6, a_ldR 1, a_callV 19 5 1 6 4, a_if1 (fun a => a = 0) 16 [] 15 [true, false, false, false, false, false, true]],
  [a_ldR 0, a_gS 3 18, a_push (vI 5), a_ldI 6, a_i2l, a_sL 18 10, a_go 16 []],
  [a_retV]]
/-- Odds_begin -/
def B_17 : List (List zA) := [[a_ldR 0, a_gS 4 19, a_push (vL 0), a_call 227 2 0 5, a_ldR 0, a_gS 4 19, a_ldI 1, a_push (vI 4), i_imul, a_ldI 2, i_iadd, a_push (vL 1000000000), a_sL 19 576, a_ldR 0, a_push (vI 0), a_pI 4 1, a_ldR 0, a_push (vI 9), a_pI 4 2, a_ldR 0, a_push (vI 0), a_pI 4 3, a_retV]]
/-- Odds_copyFrom -/
def B_18 : List (List zA) := [[a_ldR 1, a_gS 4 19, a_push (vI 0), a_ldR 0, a_gS 4 19, a_push (vI 0), a_push (vI 576), a_acL 19 576 19 576, a_ldR 0, a_ldR 1, a_gI 4 1, a_pI 4 1, a_ldR 0, a_ldR 1, a_gI 4 2, a_pI 4 2, a_ldR 0, a_ldR 1, a_gI 4 3, a_pI 4 3, a_retV]]
/-- Odds_happens -/
def B_19 : List (List zA) := [[a_ldI 1, a_push (vI 4), a_if2 (fun a b => a ≤ b) 5 [true, true, false, false, true] 1 [true, true, true, true, true]],
  [a_ldR 4, a_ldI 1, a_ldI 2, a_ldI 3, a_ldR 0, a_gI 4 3, a_callV 61 5 0 9 7, a_ldR 0, a_ldR 4, a_callV 24 2 1 9 4, a_stI 5, a_ldI 5, a_if1 (fun a => a = 0) 4 [false, false, false, false, false, true] 2 [true, true, false, false, false, true]],
  [a_ldI 1, a_push (vI 5), a_if2 (fun a b => a = b) 3 [true, false, false, false, false, true] 4 [false, false, false, false, false, true]],
  [a_ldR 0, a_dup, a_gI 4 1, a_push (vI 1), i_iadd, a_pI 4 1, a_ldR 0, a_dup, a_gI 4 2, a_push (vI 1), i_isub, a_pI 4 2, a_ldR 0, a_push (vI 0), a_pI 4 3, a_go 4 [false, false, false, false, false, true]],
  [a_ldI 5, a_retZ 0 1],
  [a_ldI 1, a_if1 (fun a => a = 0) 6 [true, false, false, false, true] 7 [true, true, false, false, true]],
  [a_ldR 4, a_ldR 0, a_gI 4 3, a_callV 58 2 0 4 7, a_ldR 0, a_ldR 4, a_callV 22 2 0 15 4, a_go 9 [true]],
  [a_ldI 1, a_push (vI 4), a_if2 (fun a b => a = b) 9 [true] 8 [true, true, false, false, true]],
  [a_ldR 0, a_push (vI 0), a_ldI 1, a_call 20 2 1 3, a_ldR 4, a_gD 7 0 9, a_callV 21 3 0 8 4, a_go 9 [true]],
  [a_ldR 0, a_dup, a_gI 4 1, a_push (vI 1), i_iadd, a_pI 4 1, a_ldR 0, a_push (vI 30), a_ldR 0, a_gI 4 3, a_push (vI 1), i_iadd, i_min, a_pI 4 3, a_push (vI 1), a_retZ 0 1]]
/-- Odds_turned -/
def B_20 : List (List zA) := [[a_ldI 1, a_push (vI 3), a_if2 (fun a b => a = b) 1 [true] 2 [true, true]],
  [a_push (vI 2), a_go 5 [true]],
  [a_ldI 1, a_push (vI 1), a_if2 (fun a b => a = b) 3 [true] 4 [true]],
  [a_push (vI 3), a_go 5 [true]],
  [a_push (vI 1), a_go 5 [true]],
  [a_stI 2, a_ldI 0, a_ldI 2, i_iadd, a_push (vI 4), i_irem, a_retI]]
/-- Odds_turn -/
def B_21 : List (List zA) := [[a_push (vI 0), a_stI 3, a_go 1 [true, true, true, true]],
  [a_ldI 3, a_ldR 2, a_gI 9 13, a_if2 (fun a b => b ≤ a) 6 [] 2 [true, true, true, true]],
  [a_ldR 2, a_gS 9 40, a_ldI 3, a_aI 40 144, a_push (vI 4), i_imul, a_stI 4, a_push (vI 0), a_stI 5, a_go 3 [true, true, true, true, true, true]],
  [a_ldI 5, a_ldI 1, a_if2 (fun a b => b ≤ a) 5 [true, true, true, true] 4 [true, true, true, true, true, true]],
  [a_ldR 0, a_gS 4 19, a_ldI 4, a_push (vI 3), i_iadd, a_aL 19 576, a_stL 6, a_ldR 0, a_gS 4 19, a_ldI 4, a_push (vI 3), i_iadd, a_ldR 0, a_gS 4 19, a_ldI 4, a_push (vI 2), i_iadd, a_aL 19 576, a_sL 19 576, a_ldR 0, a_gS 4 19, a_ldI 4, a_push (vI 2), i_iadd, a_ldR 0, a_gS 4 19, a_ldI 4, a_push (vI 1), i_iadd, a_aL 19 576, a_sL 19 576, a_ldR 0, a_gS 4 19, a_ldI 4, a_push (vI 1), i_iadd, a_ldR 0, a_gS 4 19, a_ldI 4, a_aL 19 576, a_sL 19 576, a_ldR 0, a_gS 4 19, a_ldI 4, a_ldL 6, a_sL 19 576, a_iinc 5 1, a_go 3 [true, true, true, true, true, true]],
  [a_iinc 3 1, a_go 1 [true, true, true, true]],
  [a_retV]]
/-- Odds_go -/
def B_22 : List (List zA) := [[a_ldR 1, a_gD 7 0 9, a_stR 2, a_ldR 1, a_gS 7 25, a_stR 3, a_ldR 3, a_push (vL 0), a_call 227 2 0 5, a_push (vI 0), a_stI 4, a_go 1 [true, true, true, true, true]],
  [a_ldI 4, a_ldR 2, a_gI 9 13, a_if2 (fun a b => b ≤ a) 9 [true, false, false, true] 2 [true, true, true, true, true]],
  [a_ldR 2, a_gS 9 40, a_ldI 4, a_aI 40 144, a_stI 5, a_ldR 1, a_ldI 5, a_ldR 0, a_gI 4 3, a_callV 59 3 1 3 7, a_stI 6, a_ldR 1, a_ldI 6, a_callV 60 2 1 2 7, a_stI 7, a_push (vI 0), a_stI 8, a_go 3 [true, true, true, true, true, true, true, true, true]],
  [a_ldI 8, a_push (vI 4), a_if2 (fun a b => b ≤ a) 8 [true, true, true, true, true] 4 [true, true, true, true, true, true, true, true, true]],
  [a_ldR 0, a_gS 4 19, a_ldI 5, a_push (vI 4), i_imul, a_ldI 8, i_iadd, a_aL 19 576, a_stL 9, a_ldL 9, a_push (vL 0), a_ifL (fun a b => a = b) 5 [true, true, true, true, true, true, true, true, true] 6 [true, true, true, true, true, true, true, true, true, true]],
  [a_go 7 [true, true, true, true, true, true, true, true, true]],
  [a_ldL 9, a_ldI 6, a_i2l, i_lmul, a_push (vL 1000), i_ldiv, a_stL 11, a_ldL 9, a_ldI 7, a_i2l, i_lmul, a_push (vL 1000), i_ldiv, a_stL 13, a_ldR 3, a_ldI 5, a_push (vI 4), i_imul, a_ldI 8, i_iadd, a_dup2, a_aL 25 576, a_ldL 9, a_ldL 11, i_lsub, a_push (vL 2), a_ldL 13, i_lmul, i_lsub, i_ladd, a_sL 25 576, a_ldR 3, a_ldR 2, a_ldI 5, a_ldI 8, a_ldI 8, a_call 23 4 1 5, a_dup2, a_aL 25 576, a_ldL 11, i_ladd, a_sL 25 576, a_ldR 3, a_ldR 2, a_ldI 5, a_ldI 8, a_ldI 8, a_push (vI 3), i_iadd, a_push (vI 4), i_irem, a_call 23 4 1 5, a_dup2, a_aL 25 576, a_ldL 13, i_ladd, a_sL 25 576, a_ldR 3, a_ldR 2, a_ldI 5, a_ldI 8, a_ldI 8, a_push (vI 1), i_iadd, a_push (vI 4), i_irem, a_call 23 4 1 5, a_dup2, a_aL 25 576, a_ldL 13, i_ladd, a_sL 25 576, a_go 7 [true, true, true, true, true, true, true, true, true]],
  [a_iinc 8 1, a_go 3 [true, true, true, true, true, true, true, true, true]],
  [a_iinc 4 1, a_go 1 [true, true, true, true, true]],
  [a_ldR 3, a_push (vI 0), a_ldR 0, a_gS 4 19, a_push (vI 0), a_push (vI 576), a_acL 25 576 19 576, a_retV]]
/-- Odds_comeTo -/
def B_23 : List (List zA) := [[a_ldR 0, a_gS 9 39, a_ldI 1, a_push (vI 4), i_imul, a_ldI 3, i_iadd, a_aI 39 576, a_stI 4, a_ldI 4, a_push (vI (-1)), a_if2 (fun a b => a = b) 1 [false, true, true] 2 [false, false, false, true, true]],
  [a_ldI 1, a_push (vI 4), i_imul, a_ldI 2, i_iadd, a_go 3 []],
  [a_ldI 4, a_push (vI 4), i_imul, a_ldI 3, i_iadd, a_go 3 []],
  [a_retI]]
/-- Odds_weigh -/
def B_24 : List (List zA) := [[a_ldR 1, a_gD 7 0 9, a_stR 2, a_ldR 1, a_gS 7 25, a_stR 3, a_ldR 3, a_push (vL 0), a_call 227 2 0 5, a_push (vL 0), a_stL 4, a_push (vI 0), a_stI 6, a_go 1 [true, true, true, true, true, false, true]],
  [a_ldI 6, a_ldR 2, a_gI 9 13, a_if2 (fun a b => b ≤ a) 6 [true, false, false, true, true] 2 [true, true, true, true, true, false, true]],
  [a_ldR 2, a_gS 9 40, a_ldI 6, a_aI 40 144, a_stI 7, a_ldI 7, a_push (vI 4), i_imul, a_stI 8, a_go 3 [true, true, true, true, true, false, true, true, true]],
  [a_ldI 8, a_ldI 7, a_push (vI 4), i_imul, a_push (vI 4), i_iadd, a_if2 (fun a b => b ≤ a) 5 [true, true, true, true, true, false, true] 4 [true, true, true, true, true, false, true, true, true]],
  [a_ldR 3, a_ldI 8, a_ldR 0, a_gS 4 19, a_ldI 8, a_aL 19 576, a_ldR 1, a_gS 7 24, a_ldI 7, a_aL 24 144, i_lmul, a_push (vL 1000), i_ldiv, a_sL 25 576, a_ldL 4, a_ldR 3, a_ldI 8, a_aL 25 576, i_ladd, a_stL 4, a_iinc 8 1, a_go 3 [true, true, true, true, true, false, true, true, true]],
  [a_iinc 6 1, a_go 1 [true, true, true, true, true, false, true]],
  [a_ldL 4, a_push (vL 0), a_ifL (fun a b => b < a) 8 [true, false, false, true, true] 7 []],
  [a_push (vI 0), a_retZ 0 1],
  [a_push (vI 0), a_stI 6, a_go 9 [true, false, false, true, true, false, true]],
  [a_ldI 6, a_push (vI 576), a_if2 (fun a b => b ≤ a) 11 [] 10 [true, false, false, true, true, false, true]],
  [a_ldR 0, a_gS 4 19, a_ldI 6, a_ldR 3, a_ldI 6, a_aL 25 576, a_push (vL 1000000000), i_lmul, a_ldL 4, i_ldiv, a_sL 19 576, a_iinc 6 1, a_go 9 [true, false, false, true, true, false, true]],
  [a_push (vI 1), a_retZ 0 1]]
/-- Odds_weightAt -/
def B_25 : List (List zA) := [[a_ldI 1, a_push (vI 4), i_imul, a_stI 3, a_ldI 2, a_if1 (fun a => a < 0) 3 [true, false, false, true] 1 [true, false, true, true]],
  [a_ldI 2, a_push (vI 4), a_if2 (fun a b => b ≤ a) 3 [true, false, false, true] 2 [true, false, true, true]],
  [a_ldR 0, a_gS 4 19, a_ldI 3, a_ldI 2, i_iadd, a_aL 19 576, a_retL],
  [a_ldR 0, a_gS 4 19, a_ldI 3, a_aL 19 576, a_ldR 0, a_gS 4 19, a_ldI 3, a_push (vI 1), i_iadd, a_aL 19 576, i_ladd, a_ldR 0, a_gS 4 19, a_ldI 3, a_push (vI 2), i_iadd, a_aL 19 576, i_ladd, a_ldR 0, a_gS 4 19, a_ldI 3, a_push (vI 3), i_iadd, a_aL 19 576, i_ladd, a_retL]]
/-- Odds_inArea -/
def B_26 : List (List zA) := [[a_push (vL 0), a_stL 4, a_ldI 1, a_push (vI 12), i_idiv, a_stI 6, a_go 1 [true, true, true, true, true, false, true]],
  [a_ldI 6, a_ldI 2, a_push (vI 12), i_idiv, a_if2 (fun a b => b < a) 7 [false, false, false, false, true] 2 [true, true, true, true, true, false, true]],
  [a_ldI 6, a_push (vI 12), a_if2 (fun a b => b ≤ a) 7 [false, false, false, false, true] 3 [true, true, true, true, true, false, true]],
  [a_ldI 1, a_push (vI 12), i_irem, a_stI 7, a_go 4 [true, true, true, true, true, false, true, true]],
  [a_ldI 7, a_ldI 2, a_push (vI 12), i_irem, a_if2 (fun a b => b < a) 6 [true, true, true, true, true, false, true] 5 [true, true, true, true, true, false, true, true]],
  [a_ldL 4, a_ldR 0, a_ldI 6, a_push (vI 12), i_imul, a_ldI 7, i_iadd, a_ldI 3, a_callV 25 3 2 4 4, i_ladd, a_stL 4, a_iinc 7 1, a_go 4 [true, true, true, true, true, false, true, true]],
  [a_iinc 6 1, a_go 1 [true, true, true, true, true, false, true]],
  [a_ldL 4, a_retL]]
/-- Odds_onPath -/
def B_27 : List (List zA) := [[a_push (vL 0), a_stL 2, a_push (vI 0), a_stI 4, a_go 1 [true, true, true, false, true]],
  [a_ldI 4, a_ldR 1, a_gI 9 13, a_if2 (fun a b => b ≤ a) 6 [false, false, true] 2 [true, true, true, false, true]],
  [a_ldL 2, a_ldR 1, a_gS 9 33, a_ldR 1, a_gS 9 40, a_ldI 4, a_aI 40 144, a_aI 33 144, a_push (vI 1), a_if2 (fun a b => a = b) 3 [true, true, false, false, true] 4 [true, true, false, false, true]],
  [a_ldR 0, a_ldR 1, a_gS 9 40, a_ldI 4, a_aI 40 144, a_push (vI (-1)), a_callV 25 3 2 4 4, a_go 5 [true, true, false, false, true]],
  [a_push (vL 0), a_go 5 [true, true, false, false, true]],
  [i_ladd, a_stL 2, a_iinc 4 1, a_go 1 [true, true, true, false, true]],
  [a_ldL 2, a_retL]]
/-- Odds_surest -/
def B_28 : List (List zA) := [[a_ldR 1, a_gI 9 2, a_stI 2, a_push (vL 0), a_stL 3, a_push (vI 0), a_stI 5, a_go 1 [true, true, true, true, false, true]],
  [a_ldI 5, a_ldR 1, a_gI 9 13, a_if2 (fun a b => b ≤ a) 5 [false, false, true] 2 [true, true, true, true, false, true]],
  [a_ldR 0, a_ldR 1, a_gS 9 40, a_ldI 5, a_aI 40 144, a_push (vI (-1)), a_callV 25 3 2 4 4, a_stL 6, a_ldL 6, a_ldL 3, a_ifL (fun a b => a ≤ b) 4 [true, true, true, true, false, true] 3 [true, true, false, false, false, true, true]],
  [a_ldL 6, a_stL 3, a_ldR 1, a_gS 9 40, a_ldI 5, a_aI 40 144, a_stI 2, a_go 4 [true, true, true, true, false, true]],
  [a_iinc 5 1, a_go 1 [true, true, true, true, false, true]],
  [a_ldI 2, a_retI]]
/-- Odds_sure -/
def B_29 : List (List zA) := [[a_ldR 0, a_ldR 0, a_ldR 1, a_callV 28 2 1 8 4, a_push (vI (-1)), a_callV 25 3 2 4 4, a_push (vL 1000000), i_ldiv, a_l2i, a_retI]]
/-- Odds_risk -/
def B_30 : List (List zA) := [[a_push (vL 0), a_stL 2, a_push (vI 0), a_stI 4, a_go 1 [true, true, true, false, true]],
  [a_ldI 4, a_ldR 1, a_gI 9 13, a_if2 (fun a b => b ≤ a) 3 [false, false, true] 2 [true, true, true, false, true]],
  [a_ldR 1, a_gS 9 40, a_ldI 4, a_aI 40 144, a_stI 5, a_ldL 2, a_ldR 0, a_ldI 5, a_push (vI (-1)), a_callV 25 3 2 4 4, a_ldR 1, a_gS 9 37, a_ldI 5, a_aI 37 144, a_i2l, i_lmul, a_push (vL 1000), i_ldiv, i_ladd, a_stL 2, a_iinc 4 1, a_go 1 [true, true, true, false, true]],
  [a_ldL 2, a_retL]]
/-- Odds_takeFrom -/
def B_31 : List (List zA) := [[a_ldR 0, a_ldI 1, a_push (vI (-1)), a_callV 25 3 2 4 4, a_stL 2, a_ldR 0, a_gS 4 19, a_ldI 1, a_push (vI 4), i_imul, a_ldI 1, a_push (vI 4), i_imul, a_push (vI 4), i_iadd, a_push (vL 0), a_call 228 4 0 6, a_ldL 2, a_retL]]
/-- Reader_put -/
def B_32 : List (List zA) := [[a_push (vI 24), a_stI 2, a_go 1 [true, true, true]],
  [a_ldI 2, a_if1 (fun a => a < 0) 4 [] 2 [true, true, true]],
  [a_ldR 0, a_gI 5 1, a_push (vI 400), a_if2 (fun a b => b ≤ a) 4 [] 3 [true, true, true]],
  [a_ldR 0, a_gS 5 20, a_ldR 0, a_gI 5 1, a_ldI 1, a_ldI 2, i_ishr, a_push (vI 255), i_iand, a_sN 20 400, a_ldR 0, a_dup, a_gI 5 1, a_push (vI 1), i_iadd, a_pI 5 1, a_iinc 2 (-8), a_go 1 [true, true, true]],
  [a_retV]]
/-- Reader_start -/
def B_33 : List (List zA) := [[a_ldR 0, a_push (vI 0), a_pI 5 2, a_ldR 0, a_push (vI 0), a_pI 5 5, a_ldR 0, a_push (vI 0), a_pI 5 6, a_ldR 0, a_callV 34 1 0 2 5, a_retV]]
/-- Reader_next -/
def B_34 : List (List zA) := [[a_ldR 0, a_gI 5 2, a_if1 (fun a => a = 0) 2 [true] 1 [true]],
  [a_ldR 0, a_push (vI (-2)), a_pI 5 3, a_retV],
  [a_ldR 0, a_gI 5 5, a_stI 1, a_go 3 [true, true]],
  [a_ldI 1, a_ldR 0, a_gI 5 1, a_if2 (fun a b => b ≤ a) 6 [true, true] 4 [true, true]],
  [a_ldR 0, a_gS 5 20, a_ldI 1, a_aI 20 400, a_push (vI 32), a_if2 (fun a b => a = b) 5 [true, true] 6 [true, true]],
  [a_iinc 1 1, a_go 3 [true, true]],
  [a_ldR 0, a_ldI 1, a_pI 5 4, a_ldI 1, a_ldR 0, a_gI 5 1, a_if2 (fun a b => a < b) 8 [true, true] 7 [true, true]],
  [a_ldR 0, a_push (vI (-1)), a_pI 5 3, a_ldR 0, a_ldI 1, a_pI 5 5, a_retV],
  [a_ldR 0, a_ldR 0, a_gS 5 20, a_ldI 1, a_aI 20 400, a_pI 5 3, a_iinc 1 1, a_ldR 0, a_gI 5 3, a_push (vI 48), a_if2 (fun a b => a < b) 15 [true, true] 9 [true, true]],
  [a_ldR 0, a_gI 5 3, a_push (vI 57), a_if2 (fun a b => b < a) 15 [true, true] 10 [true, true]],
  [a_ldR 0, a_push (vI 48), a_pI 5 3, a_go 11 [true, true]],
  [a_ldI 1, a_ldR 0, a_gI 5 1, a_if2 (fun a b => b ≤ a) 30 [true, true] 12 [true, true]],
  [a_ldR 0, a_gS 5 20, a_ldI 1, a_aI 20 400, a_push (vI 48), a_if2 (fun a b => a < b) 30 [true, true] 13 [true, true]],
  [a_ldR 0, a_gS 5 20, a_ldI 1, a_aI 20 400, a_push (vI 57), a_if2 (fun a b => b < a) 30 [true, true] 14 [true, true]],
  [a_iinc 1 1, a_go 11 [true, true]],
  [a_ldR 0, a_gI 5 3, a_push (vI 97), a_if2 (fun a b => a < b) 22 [true, true] 16 [true, true]],
  [a_ldR 0, a_gI 5 3, a_push (vI 122), a_if2 (fun a b => b < a) 22 [true, true] 17 [true, true]],
  [a_ldR 0, a_push (vI 97), a_pI 5 3, a_go 18 [true, true]],
  [a_ldI 1, a_ldR 0, a_gI 5 1, a_if2 (fun a b => b ≤ a) 30 [true, true] 19 [true, true]],
  [a_ldR 0, a_gS 5 20, a_ldI 1, a_aI 20 400, a_push (vI 97), a_if2 (fun a b => a < b) 30 [true, true] 20 [true, true]],
  [a_ldR 0, a_gS 5 20, a_ldI 1, a_aI 20 400, a_push (vI 122), a_if2 (fun a b => b < a) 30 [true, true] 21 [true, true]],
  [a_iinc 1 1, a_go 18 [true, true]],
  [a_ldR 0, a_gI 5 3, a_push (vI 60), a_if2 (fun a b => a = b) 24 [true, true] 23 [true, true]],
  [a_ldR 0, a_gI 5 3, a_push (vI 62), a_if2 (fun a b => a = b) 24 [true, true] 30 [true, true]],
  [a_ldI 1, a_ldR 0, a_gI 5 1, a_if2 (fun a b => b ≤ a) 30 [true, true] 25 [true, true]],
  [a_ldR 0, a_gS 5 20, a_ldI 1, a_aI 20 400, a_push (vI 61), a_if2 (fun a b => a = b) 26 [true, true] 30 [true, true]],
  [a_ldR 0, a_ldR 0, a_gI 5 3, a_push (vI 60), a_if2 (fun a b => a = b) 27 [true, true] 28 [true, true]],
  [a_push (vI 108), a_go 29 [true, true]],
  [a_push (vI 103), a_go 29 [true, true]],
  [a_pI 5 3, a_iinc 1 1, a_go 30 [true, true]],
  [a_ldR 0, a_ldI 1, a_pI 5 5, a_retV]]
/-- Reader_refuse -/
def B_35 : List (List zA) := [[a_ldR 0, a_gI 5 2, a_if1 (fun a => a = 0) 1 [true, true] 2 [true]],
  [a_ldR 0, a_push (vI 1), a_push (vI 8), a_ldR 0, a_gI 5 4, i_imul, i_iadd, a_ldI 1, i_iadd, a_pI 5 2, a_go 2 [true]],
  [a_ldR 0, a_push (vI (-2)), a_pI 5 3, a_retV]]
/-- Reader_wordIn -/
def B_36 : List (List zA) := [[a_ldR 0, a_gI 5 3, a_push (vI 97), a_if2 (fun a b => a = b) 2 [true, true] 1 []],
  [a_push (vI (-1)), a_retI],
  [a_push (vI 0), a_stI 2, a_ldR 0, a_gI 5 4, a_stI 3, a_push (vI 1), a_stI 4, a_push (vI 0), a_stI 5, a_go 3 [true, true, true, true, true, true]],
  [a_ldI 5, a_ldR 1, a_callV 231 1 1 1 12, a_if2 (fun a b => b < a) 18 [] 4 [true, true, true, true, true, true]],
  [a_ldI 5, a_ldR 1, a_callV 231 1 1 1 12, a_if2 (fun a b => a = b) 6 [true, true, true, true, true, true] 5 [true, true, true, true, true, true]],
  [a_ldR 1, a_ldI 5, a_callV 233 2 1 2 12, a_push (vI 32), a_if2 (fun a b => a = b) 6 [true, true, true, true, true, true] 10 [true, true, true, true, true, true]],
  [a_ldI 4, a_if1 (fun a => a = 0) 9 [true, true, true, false, false, true] 7 [true, true, true, true, false, true]],
  [a_ldI 3, a_ldR 0, a_gI 5 5, a_if2 (fun a b => a = b) 8 [false, false, true] 9 [true, true, true, false, false, true]],
  [a_ldI 2, a_retI],
  [a_iinc 2 1, a_ldR 0, a_gI 5 4, a_stI 3, a_push (vI 1), a_stI 4, a_go 17 [true, true, true, true, true, true]],
  [a_ldI 4, a_if1 (fun a => a = 0) 15 [true, true, true, true, false, true] 11 [true, true, true, true, false, true]],
  [a_ldI 3, a_ldR 0, a_gI 5 5, a_if2 (fun a b => b ≤ a) 15 [true, true, true, true, false, true] 12 [true, true, true, true, false, true]],
  [a_ldI 3, a_push (vI 400), a_if2 (fun a b => b ≤ a) 15 [true, true, true, true, false, true] 13 [true, true, true, true, false, true]],
  [a_ldR 0, a_gS 5 20, a_ldI 3, a_aI 20 400, a_ldR 1, a_ldI 5, a_callV 233 2 1 2 12, a_if2 (fun a b => a = b) 14 [true, true, true, true, false, true] 15 [true, true, true, true, false, true]],
  [a_push (vI 1), a_go 16 [true, true, true, true, false, true]],
  [a_push (vI 0), a_go 16 [true, true, true, true, false, true]],
  [a_stI 4, a_iinc 3 1, a_go 17 [true, true, true, true, true, true]],
  [a_iinc 5 1, a_go 3 [true, true, true, true, true, true]],
  [a_push (vI (-1)), a_retI]]
/-- Reader_digits -/
def B_37 : List (List zA) := [[a_push (vI 0), a_stI 1, a_ldR 0, a_gI 5 4, a_stI 2, a_go 1 [true, true, true]],
  [a_ldI 2, a_ldR 0, a_gI 5 5, a_if2 (fun a b => b ≤ a) 5 [false, true] 2 [true, true, true]],
  [a_ldI 2, a_ldR 0, a_gI 5 4, a_push (vI 5), i_iadd, a_if2 (fun a b => b ≤ a) 5 [false, true] 3 [true, true, true]],
  [a_ldI 2, a_push (vI 400), a_if2 (fun a b => b ≤ a) 5 [false, true] 4 [true, true, true]],
  [a_ldI 1, a_push (vI 10), i_imul, a_ldR 0, a_gS 5 20, a_ldI 2, a_aI 20 400, i_iadd, a_push (vI 48), i_isub, a_stI 1, a_iinc 2 1, a_go 1 [true, true, true]],
  [a_ldI 1, a_retI]]
/-- Reader_number -/
def B_38 : List (List zA) := [[a_ldR 0, a_gI 5 3, a_push (vI 48), a_if2 (fun a b => a = b) 2 [true, true, true] 1 [true, true]],
  [a_ldR 0, a_push (vI 0), a_callV 35 2 0 2 5, a_ldI 1, a_retI],
  [a_ldR 0, a_callV 37 1 1 3 5, a_stI 3, a_ldR 0, a_gI 5 5, a_ldR 0, a_gI 5 4, i_isub, a_push (vI 5), a_if2 (fun a b => b < a) 5 [true, true] 3 [true, true, true, true]],
  [a_ldI 3, a_ldI 1, a_if2 (fun a b => a < b) 5 [true, true] 4 [true, true, true, true]],
  [a_ldI 3, a_ldI 2, a_if2 (fun a b => a ≤ b) 6 [true, false, false, true] 5 [true, true]],
  [a_ldR 0, a_push (vI 1), a_callV 35 2 0 2 5, a_ldI 1, a_retI],
  [a_ldR 0, a_callV 34 1 0 2 5, a_ldI 3, a_retI]]
/-- Reader_opened -/
def B_39 : List (List zA) := [[a_ldR 0, a_ldR 1, a_callV 36 2 1 6 5, a_stI 4, a_ldI 4, a_push (vI (-1)), a_if2 (fun a b => a = b) 1 [true, false, false, false, true] 2 [true, false, true, true, true]],
  [a_ldR 0, a_push (vI 0), a_callV 35 2 0 2 5, a_go 4 [true, false, false, false, true]],
  [a_ldI 2, a_ldI 3, a_if2 (fun a b => a < b) 4 [true, false, false, false, true] 3 [true, false, false, false, true]],
  [a_ldR 0, a_push (vI 4), a_callV 35 2 0 2 5, a_go 4 [true, false, false, false, true]],
  [a_ldR 0, a_gI 5 2, a_if1 (fun a => a = 0) 5 [false, false, false, false, true] 6 []],
  [a_ldI 4, a_go 7 []],
  [a_push (vI (-1)), a_go 7 []],
  [a_retI]]
/-- Reader_goesOn -/
def B_40 : List (List zA) := [[a_ldR 0, a_gI 5 3, a_push (vI 59), a_if2 (fun a b => a = b) 1 [true] 2 [true]],
  [a_ldR 0, a_callV 34 1 0 2 5, a_push (vI 1), a_retZ 0 1],
  [a_ldR 0, a_gI 5 3, a_push (vI (-1)), a_if2 (fun a b => a = b) 4 [] 3 [true]],
  [a_ldR 0, a_push (vI 0), a_callV 35 2 0 2 5, a_go 4 []],
  [a_push (vI 0), a_retZ 0 1]]
/-- Reader_readWood -/
def B_41 : List (List zA) := [[a_ldR 0, a_callV 33 1 0 1 5, a_ldR 1, a_callV 66 1 0 1 9, a_push (vI 1), a_stI 2, a_push (vI 0), a_stI 3, a_push (vI 0), a_stI 4, a_go 1 [true, true, true, true, true]],
  [a_ldI 2, a_if1 (fun a => a = 0) 24 [true, true] 2 [true, true, false, true, true]],
  [a_ldI 4, a_push (vI 24), a_if2 (fun a b => b < a) 24 [true, true] 3 [true, true, false, true, true]],
  [a_ldR 0, a_push (vR 12 1), a_ldI 4, a_push (vI 24), a_callV 39 4 1 5 5, a_stI 5, a_ldI 5, a_if1 (fun a => a < 0) 7 [true, true, false, true, true, true] 4 [true, true, false, true, true, true]],
  [a_ldI 5, a_push (vI 2), a_if2 (fun a b => b ≤ a) 7 [true, true, false, true, true, true] 5 [true, true, false, true, true, true]],
  [a_ldI 3, a_ldI 5, i_ishr, a_push (vI 1), i_iand, a_push (vI 1), a_if2 (fun a b => a = b) 6 [true, true, false, true, true, true] 7 [true, true, false, true, true, true]],
  [a_push (vI 1), a_go 8 [true, true, false, true, true, true]],
  [a_push (vI 0), a_go 8 [true, true, false, true, true, true]],
  [a_stI 6, a_ldI 6, a_if1 (fun a => a = 0) 9 [true, true, false, true, true, true] 11 [true, true, false, true, true, true]],
  [a_ldI 5, a_push (vI 7), a_if2 (fun a b => a = b) 10 [true, true, false, true, true, true] 12 [true, true, false, true, true, true]],
  [a_ldR 1, a_gI 9 3, a_push (vI 4), a_if2 (fun a b => a < b) 12 [true, true, false, true, true, true] 11 [true, true, false, true, true, true]],
  [a_ldR 0, a_push (vI 4), a_callV 35 2 0 2 5, a_go 12 [true, true, false, true, true, true]],
  [a_ldR 0, a_callV 34 1 0 2 5, a_ldI 5, a_if1 (fun a => a = 0) 13 [true, true, false, true, true, true] 14 [true, true, false, true, true, true]],
  [a_ldR 1, a_ldR 0, a_push (vI 2), a_push (vI 12), a_callV 38 3 1 4 5, a_pI 9 0, a_ldR 1, a_ldR 0, a_push (vI 2), a_push (vI 12), a_callV 38 3 1 4 5, a_pI 9 1, a_go 20 [true, true, false, true, true, true]],
  [a_ldI 5, a_push (vI 1), a_if2 (fun a b => a = b) 15 [true, true, false, true, true, true] 16 [true, true, false, true, true, true]],
  [a_ldR 0, a_push (vI 0), a_push (vI 11), a_callV 38 3 1 4 5, a_stI 7, a_ldR 1, a_ldR 0, a_push (vI 0), a_push (vI 11), a_callV 38 3 1 4 5, a_push (vI 12), i_imul, a_ldI 7, i_iadd, a_pI 9 2, a_go 20 [true, true, false, true, true, true]],
  [a_ldI 5, a_push (vI 7), a_if2 (fun a b => a = b) 17 [true, true, false, true, true, true] 18 [true, true, false, true, true, true]],
  [a_ldR 0, a_push (vI 1), a_push (vI 40), a_callV 38 3 1 4 5, a_stI 7, a_ldR 0, a_push (vI 0), a_push (vI 11), a_callV 38 3 1 4 5, a_stI 8, a_ldR 1, a_ldI 7, a_ldI 8, a_ldR 0, a_push (vI 0), a_push (vI 11), a_callV 38 3 1 4 5, a_callV 67 4 0 6 9, a_go 20 [true, true, false, true, true, true]],
  [a_ldI 5, a_push (vI (-1)), a_if2 (fun a b => a = b) 20 [true, true, false, true, true, true] 19 [true, true, false, true, true, true]],
  [a_ldR 0, a_ldR 1, a_ldI 5, a_callV 42 3 0 10 5, a_go 20 [true, true, false, true, true, true]],
  [a_ldI 3, a_ldI 5, a_if1 (fun a => a < 0) 22 [true, true, false, false, true] 21 [true, true, false, false, true, true]],
  [a_push (vI 1), a_ldI 5, i_ishl, a_go 23 [true, true, false, false, true]],
  [a_push (vI 0), a_go 23 [true, true, false, false, true]],
  [i_ior, a_stI 3, a_ldR 0, a_callV 40 1 1 1 5, a_stI 2, a_iinc 4 1, a_go 1 [true, true, true, true, true]],
  [a_ldR 0, a_gI 5 2, a_if1 (fun a => a = 0) 25 [false, true] 26 []],
  [a_ldR 1, a_callV 68 1 0 6 9, a_go 26 []],
  [a_retV]]
/-- Reader_readArea -/
def B_42 : List (List zA) := [[a_push (vI 1), a_stI 3, a_ldR 1, a_gS 9 33, a_stR 4, a_ldI 2, a_push (vI 3), a_if2 (fun a b => a = b) 1 [true, true, false, true] 2 [true, true, true, true, true]],
  [a_ldR 1, a_gS 9 34, a_stR 4, a_go 8 [true, false, false, true, true]],
  [a_ldI 2, a_push (vI 4), a_if2 (fun a b => a = b) 3 [true, true] 4 [true, true, true, true, true]],
  [a_ldR 1, a_gS 9 35, a_stR 4, a_ldR 0, a_push (vI 0), a_push (vI 7), a_callV 38 3 1 4 5, a_stI 3, a_go 8 [true, false, false, true, true]],
  [a_ldI 2, a_push (vI 5), a_if2 (fun a b => a = b) 5 [true, true] 6 [true, true, true, true, true]],
  [a_ldR 1, a_gS 9 36, a_stR 4, a_ldR 0, a_push (vI 0), a_push (vI 9), a_callV 38 3 1 4 5, a_stI 3, a_go 8 [true, false, false, true, true]],
  [a_ldI 2, a_push (vI 6), a_if2 (fun a b => a = b) 7 [true, true] 8 [true, false, false, true, true]],
  [a_ldR 1, a_gS 9 37, a_stR 4, a_ldR 0, a_push (vI 0), a_push (vI 1000), a_callV 38 3 1 4 5, a_stI 3, a_go 8 [true, false, false, true, true]],
  [a_ldR 0, a_push (vI 0), a_push (vI 11), a_callV 38 3 1 4 5, a_stI 5, a_ldR 0, a_push (vI 0), a_push (vI 11), a_callV 38 3 1 4 5, a_stI 6, a_ldR 0, a_ldI 5, a_push (vI 11), a_callV 38 3 1 4 5, a_stI 7, a_ldR 0, a_ldI 6, a_push (vI 11), a_callV 38 3 1 4 5, a_stI 8, a_ldR 0, a_gI 5 2, a_if1 (fun a => a = 0) 9 [false, false, false, true, true, true, true, true, true] 12 []],
  [a_ldI 6, a_stI 9, a_go 10 [false, false, false, true, true, true, false, true, true, true]],
  [a_ldI 9, a_ldI 8, a_if2 (fun a b => b < a) 12 [] 11 [false, false, false, true, true, true, false, true, true, true]],
  [a_ldR 4, a_ldI 9, a_push (vI 12), i_imul, a_ldI 5, i_iadd, a_ldI 9, a_push (vI 12), i_imul, a_ldI 7, i_iadd, a_push (vI 1), i_iadd, a_ldI 3, a_call 230 4 0 5, a_iinc 9 1, a_go 10 [false, false, false, true, true, true, false, true, true, true]],
  [a_retV]]
/-- Reader_readLaw -/
def B_43 : List (List zA) := [[a_ldR 0, a_callV 33 1 0 1 5, a_ldR 1, a_callV 7 1 0 1 2, a_ldR 0, a_ldR 1, a_gS 2 1, a_pD 5 8 1, a_ldR 0, a_push (vR 12 0), a_pD 5 7 12, a_push (vI 1), a_stI 2, a_push (vI 0), a_stI 3, a_push (vI 0), a_stI 4, a_go 1 [true, true, true, true, true]],
  [a_ldI 2, a_if1 (fun a => a = 0) 23 [] 2 [true, true, false, true, true]],
  [a_ldI 4, a_push (vI 12), a_if2 (fun a b => b < a) 23 [] 3 [true, true, false, true, true]],
  [a_ldR 0, a_push (vR 12 2), a_ldI 4, a_push (vI 12), a_callV 39 4 1 5 5, a_stI 5, a_ldI 5, a_if1 (fun a => a < 0) 7 [true, true, false, true, true, true] 4 [true, true, false, true, true, true]],
  [a_ldI 5, a_push (vI 4), a_if2 (fun a b => b ≤ a) 7 [true, true, false, true, true, true] 5 [true, true, false, true, true, true]],
  [a_ldI 3, a_ldI 5, i_ishr, a_push (vI 1), i_iand, a_push (vI 1), a_if2 (fun a b => a = b) 6 [true, true, false, true, true, true] 7 [true, true, false, true, true, true]],
  [a_ldR 0, a_push (vI 4), a_callV 35 2 0 2 5, a_go 7 [true, true, false, true, true, true]],
  [a_ldR 0, a_callV 34 1 0 2 5, a_ldI 5, a_if1 (fun a => a = 0) 8 [true, true, false, true, true, true] 9 [true, true, false, true, true, true]],
  [a_ldR 1, a_ldR 0, a_push (vI 0), a_push (vI 500), a_callV 38 3 1 4 5, a_pI 2 1, a_go 19 [true, true, false, true, true, true]],
  [a_ldI 5, a_push (vI 1), a_if2 (fun a b => a = b) 10 [true, true, false, true, true, true] 11 [true, true, false, true, true, true]],
  [a_ldR 1, a_ldR 0, a_push (vI 0), a_push (vI 1000), a_callV 38 3 1 4 5, a_pI 2 2, a_go 19 [true, true, false, true, true, true]],
  [a_ldI 5, a_push (vI 2), a_if2 (fun a b => a = b) 12 [true, true, false, true, true, true] 13 [true, true, false, true, true, true]],
  [a_ldR 1, a_ldR 0, a_push (vI 0), a_push (vI 1000), a_callV 38 3 1 4 5, a_pI 2 3, a_go 19 [true, true, false, true, true, true]],
  [a_ldI 5, a_push (vI 3), a_if2 (fun a b => a = b) 14 [true, true, false, true, true, true] 15 [true, true, false, true, true, true]],
  [a_ldR 1, a_ldR 0, a_push (vI 0), a_push (vI 1000), a_callV 38 3 1 4 5, a_pI 2 4, a_go 19 [true, true, false, true, true, true]],
  [a_ldI 5, a_push (vI 4), a_if2 (fun a b => a = b) 16 [true, true, false, true, true, true] 19 [true, true, false, true, true, true]],
  [a_ldR 0, a_gD 5 8 1, a_callV 2 1 0 1 1, a_ldR 0, a_callV 51 1 0 5 5, a_ldR 0, a_callV 45 1 1 1 5, a_if1 (fun a => a = 0) 18 [true, true, false, true, true, true] 17 [true, true, false, true, true, true]],
  [a_ldR 0, a_push (vI 0), a_callV 46 2 0 5 5, a_go 18 [true, true, false, true, true, true]],
  [a_ldR 0, a_gD 5 8 1, a_callV 4 1 0 1 1, a_go 19 [true, true, false, true, true, true]],
  [a_ldI 3, a_ldI 5, a_if1 (fun a => a < 0) 21 [true, true, false, false, true] 20 [true, true, false, false, true, true]],
  [a_push (vI 1), a_ldI 5, i_ishl, a_go 22 [true, true, false, false, true]],
  [a_push (vI 0), a_go 22 [true, true, false, false, true]],
  [i_ior, a_stI 3, a_ldR 0, a_callV 40 1 1 1 5, a_stI 2, a_iinc 4 1, a_go 1 [true, true, true, true, true]],
  [a_retV]]
/-- Reader_readRule -/
def B_44 : List (List zA) := [[a_ldR 0, a_callV 33 1 0 1 5, a_ldR 1, a_callV 0 1 0 1 1, a_ldR 0, a_ldR 1, a_pD 5 8 1, a_ldR 0, a_push (vR 12 6), a_pD 5 7 12, a_push (vI 1), a_stI 2, a_push (vI 0), a_stI 3, a_go 1 [true, false, true, true]],
  [a_ldI 2, a_if1 (fun a => a = 0) 8 [] 2 [true, false, false, true]],
  [a_ldI 3, a_push (vI 12), a_if2 (fun a b => b < a) 8 [] 3 [true, false, false, true]],
  [a_ldR 0, a_push (vR 12 7), a_ldI 3, a_push (vI 12), a_callV 39 4 1 5 5, a_stI 4, a_ldR 0, a_callV 34 1 0 2 5, a_ldI 4, a_push (vI (-1)), a_if2 (fun a b => a = b) 7 [true, false, false, true] 4 [true, false, false, true, true]],
  [a_ldR 0, a_gD 5 8 1, a_callV 2 1 0 1 1, a_ldR 0, a_gD 5 8 1, a_push (vI 48), a_ldI 4, a_callV 1 3 0 3 1, a_ldR 0, a_callV 45 1 1 1 5, a_if1 (fun a => a = 0) 6 [true, false, false, true] 5 [true, false, false, true]],
  [a_ldR 0, a_push (vI 0), a_callV 46 2 0 5 5, a_go 6 [true, false, false, true]],
  [a_ldR 0, a_gD 5 8 1, a_callV 4 1 0 1 1, a_go 7 [true, false, false, true]],
  [a_ldR 0, a_callV 40 1 1 1 5, a_stI 2, a_iinc 3 1, a_go 1 [true, false, true, true]],
  [a_retV]]
/-- Reader_opensTest -/
def B_45 : List (List zA) := [[a_ldR 0, a_gD 5 8 1, a_callV 3 1 0 1 1, a_ldR 0, a_push (vR 12 3), a_callV 36 2 1 6 5, a_push (vI (-1)), a_if2 (fun a b => a = b) 1 [] 2 [true]],
  [a_push (vI 0), a_retZ 0 1],
  [a_ldR 0, a_callV 34 1 0 2 5, a_push (vI 1), a_retZ 0 1]]
/-- Reader_test -/
def B_46 : List (List zA) := [[a_push (vI 0), a_stI 2, a_ldR 0, a_ldI 1, a_callV 47 2 0 4 5, a_push (vI 0), a_stI 3, a_go 1 [true, true, true, true]],
  [a_ldI 3, a_push (vI 400), a_if2 (fun a b => b ≤ a) 13 [true, false, true] 2 [true, true, true, true]],
  [a_ldR 0, a_push (vR 12 5), a_callV 36 2 1 6 5, a_push (vI (-1)), a_if2 (fun a b => a = b) 13 [true, false, true] 3 [true, true, true, true]],
  [a_ldR 0, a_push (vR 12 5), a_callV 36 2 1 6 5, a_stI 4, a_ldI 4, a_push (vI 1), a_if2 (fun a b => a = b) 4 [true, true, true, true, true] 6 [true, true, true, true, true]],
  [a_ldI 2, a_if1 (fun a => a = 0) 6 [true, true, true, true, true] 5 [true, true, true, true, true]],
  [a_ldR 0, a_gD 5 8 1, a_push (vI 124), a_push (vI 0), a_callV 1 3 0 3 1, a_go 6 [true, true, true, true, true]],
  [a_ldI 2, a_if1 (fun a => a = 0) 7 [true, true, false, true, true] 8 [true, true, false, true, true]],
  [a_ldI 4, a_push (vI 1), a_if2 (fun a b => a = b) 8 [true, true, false, true, true] 9 [true, true, false, true, true]],
  [a_push (vI 1), a_go 10 [true, true, false, true, true]],
  [a_push (vI 0), a_go 10 [true, true, false, true, true]],
  [a_stI 2, a_ldR 0, a_callV 34 1 0 2 5, a_ldR 0, a_ldI 1, a_callV 47 2 0 4 5, a_ldI 4, a_if1 (fun a => a = 0) 11 [true, true, true, true] 12 [true, true, true, true]],
  [a_ldR 0, a_gD 5 8 1, a_push (vI 38), a_push (vI 0), a_callV 1 3 0 3 1, a_go 12 [true, true, true, true]],
  [a_iinc 3 1, a_go 1 [true, true, true, true]],
  [a_ldI 2, a_if1 (fun a => a = 0) 15 [] 14 [true]],
  [a_ldR 0, a_gD 5 8 1, a_push (vI 124), a_push (vI 0), a_callV 1 3 0 3 1, a_go 15 []],
  [a_retV]]
/-- Reader_fact -/
def B_47 : List (List zA) := [[a_ldI 1, a_stI 2, a_push (vI 0), a_stI 3, a_go 1 [true, true, true, true]],
  [a_ldI 3, a_push (vI 10), a_if2 (fun a b => b < a) 4 [true, true, true] 2 [true, true, true, true]],
  [a_ldR 0, a_push (vR 12 4), a_callV 36 2 1 6 5, a_if1 (fun a => a = 0) 3 [true, true, true, true] 4 [true, true, true]],
  [a_ldR 0, a_ldI 2, a_callV 49 2 1 2 5, a_stI 2, a_iinc 3 1, a_go 1 [true, true, true, true]],
  [a_ldR 0, a_gI 5 3, a_push (vI 91), a_if2 (fun a b => a = b) 5 [true, true, true] 11 [true, true, true]],
  [a_ldR 0, a_ldI 2, a_callV 49 2 1 2 5, a_stI 3, a_ldI 3, a_push (vI 10), a_if2 (fun a b => b < a) 7 [true, true, true] 6 [true, true, true, true]],
  [a_ldR 0, a_ldI 3, a_callV 46 2 0 5 5, a_go 7 [true, true, true]],
  [a_ldR 0, a_gI 5 3, a_push (vI 93), a_if2 (fun a b => a = b) 8 [true, true, true] 9 [true, true, true]],
  [a_ldR 0, a_callV 34 1 0 2 5, a_go 10 [true, true, true]],
  [a_ldR 0, a_push (vI 0), a_callV 35 2 0 2 5, a_go 10 [true, true, true]],
  [a_go 18 [true, true, true]],
  [a_ldR 0, a_callV 51 1 0 5 5, a_ldR 0, a_gI 5 3, a_stI 3, a_ldI 3, a_push (vI 60), a_if2 (fun a b => a = b) 16 [true, true, true, true] 12 [true, true, true, true]],
  [a_ldI 3, a_push (vI 108), a_if2 (fun a b => a = b) 16 [true, true, true, true] 13 [true, true, true, true]],
  [a_ldI 3, a_push (vI 61), a_if2 (fun a b => a = b) 16 [true, true, true, true] 14 [true, true, true, true]],
  [a_ldI 3, a_push (vI 103), a_if2 (fun a b => a = b) 16 [true, true, true, true] 15 [true, true, true, true]],
  [a_ldI 3, a_push (vI 62), a_if2 (fun a b => a = b) 16 [true, true, true, true] 17 [true, true, true]],
  [a_ldR 0, a_callV 50 1 0 1 5, a_ldR 0, a_callV 34 1 0 2 5, a_ldR 0, a_callV 51 1 0 5 5, a_ldR 0, a_ldI 3, a_callV 48 2 0 2 5, a_go 18 [true, true, true]],
  [a_ldR 0, a_push (vI 0), a_callV 35 2 0 2 5, a_go 18 [true, true, true]],
  [a_ldI 1, a_stI 3, a_go 19 [true, false, true, true]],
  [a_ldI 3, a_ldI 2, a_if2 (fun a b => b ≤ a) 21 [] 20 [true, false, true, true]],
  [a_ldR 0, a_gD 5 8 1, a_push (vI 33), a_push (vI 0), a_callV 1 3 0 3 1, a_iinc 3 1, a_go 19 [true, false, true, true]],
  [a_retV]]
/-- Reader_addComparison -/
def B_48 : List (List zA) := [[a_ldI 1, a_push (vI 108), a_if2 (fun a b => a = b) 1 [true] 2 [true, true]],
  [a_ldR 0, a_gD 5 8 1, a_push (vI 62), a_push (vI 0), a_callV 1 3 0 3 1, a_ldR 0, a_gD 5 8 1, a_push (vI 33), a_push (vI 0), a_callV 1 3 0 3 1, a_go 5 []],
  [a_ldI 1, a_push (vI 103), a_if2 (fun a b => a = b) 3 [true] 4 [true, true]],
  [a_ldR 0, a_gD 5 8 1, a_push (vI 60), a_push (vI 0), a_callV 1 3 0 3 1, a_ldR 0, a_gD 5 8 1, a_push (vI 33), a_push (vI 0), a_callV 1 3 0 3 1, a_go 5 []],
  [a_ldR 0, a_gD 5 8 1, a_ldI 1, a_push (vI 0), a_callV 1 3 0 3 1, a_go 5 []],
  [a_retV]]
/-- Reader_deeper -/
def B_49 : List (List zA) := [[a_ldI 1, a_push (vI 10), a_if2 (fun a b => a < b) 2 [true, true] 1 [true, true]],
  [a_ldR 0, a_push (vI 2), a_callV 35 2 0 2 5, a_go 3 [false, true]],
  [a_ldR 0, a_callV 34 1 0 2 5, a_go 3 [false, true]],
  [a_ldI 1, a_push (vI 1), i_iadd, a_retI]]
/-- Reader_countPart -/
def B_50 : List (List zA) := [[a_ldR 0, a_gI 5 6, a_push (vI 60), a_if2 (fun a b => a < b) 2 [true] 1 [true]],
  [a_ldR 0, a_push (vI 3), a_callV 35 2 0 2 5, a_go 2 [true]],
  [a_ldR 0, a_dup, a_gI 5 6, a_push (vI 1), i_iadd, a_pI 5 6, a_retV]]
/-- Reader_sum -/
def B_51 : List (List zA) := [[a_push (vI 0), a_stI 1, a_ldR 0, a_callV 52 1 0 2 5, a_push (vI 0), a_stI 2, a_go 1 [true, true, true]],
  [a_ldI 2, a_push (vI 400), a_if2 (fun a b => b ≤ a) 17 [true, true] 2 [true, true, true]],
  [a_ldR 0, a_gI 5 3, a_push (vI 43), a_if2 (fun a b => a = b) 6 [true, true, true] 3 [true, true, true]],
  [a_ldR 0, a_gI 5 3, a_push (vI 45), a_if2 (fun a b => a = b) 6 [true, true, true] 4 [true, true, true]],
  [a_ldR 0, a_gI 5 3, a_push (vI 42), a_if2 (fun a b => a = b) 6 [true, true, true] 5 [true, true, true]],
  [a_ldR 0, a_gI 5 3, a_push (vI 47), a_if2 (fun a b => a = b) 6 [true, true, true] 17 [true, true]],
  [a_ldR 0, a_gI 5 3, a_stI 3, a_ldI 3, a_push (vI 42), a_if2 (fun a b => a = b) 8 [true, true, true, true] 7 [true, true, true, true]],
  [a_ldI 3, a_push (vI 47), a_if2 (fun a b => a = b) 8 [true, true, true, true] 9 [true, true, true, true]],
  [a_push (vI 1), a_go 10 [true, true, true, true]],
  [a_push (vI 0), a_go 10 [true, true, true, true]],
  [a_stI 4, a_ldI 4, a_if1 (fun a => a = 0) 11 [true, true, true, true, true] 13 [true, true, true, true, true]],
  [a_ldI 1, a_if1 (fun a => a = 0) 13 [true, true, true, true, true] 12 [true, true, true, true, true]],
  [a_ldR 0, a_gD 5 8 1, a_ldI 1, a_push (vI 0), a_callV 1 3 0 3 1, a_go 13 [true, true, true, true, true]],
  [a_ldR 0, a_callV 34 1 0 2 5, a_ldR 0, a_callV 52 1 0 2 5, a_ldI 4, a_if1 (fun a => a = 0) 15 [true, false, true, true] 14 [true, true, true, true]],
  [a_ldR 0, a_gD 5 8 1, a_ldI 3, a_push (vI 0), a_callV 1 3 0 3 1, a_go 16 [true, true, true]],
  [a_ldI 3, a_stI 1, a_go 16 [true, true, true]],
  [a_iinc 2 1, a_go 1 [true, true, true]],
  [a_ldI 1, a_if1 (fun a => a = 0) 19 [] 18 [true, true]],
  [a_ldR 0, a_gD 5 8 1, a_ldI 1, a_push (vI 0), a_callV 1 3 0 3 1, a_go 19 []],
  [a_retV]]
/-- Reader_value -/
def B_52 : List (List zA) := [[a_ldR 0, a_ldR 0, a_gD 5 7 12, a_callV 36 2 1 6 5, a_stI 1, a_ldR 0, a_gI 5 3, a_push (vI 48), a_if2 (fun a b => a = b) 1 [true] 4 [true, true]],
  [a_ldR 0, a_gI 5 5, a_ldR 0, a_gI 5 4, i_isub, a_push (vI 5), a_if2 (fun a b => a ≤ b) 3 [true] 2 [true]],
  [a_ldR 0, a_push (vI 1), a_callV 35 2 0 2 5, a_go 3 [true]],
  [a_ldR 0, a_gD 5 8 1, a_push (vI 48), a_ldR 0, a_callV 37 1 1 3 5, a_callV 1 3 0 3 1, a_go 7 [true]],
  [a_ldI 1, a_push (vI (-1)), a_if2 (fun a b => a = b) 6 [true] 5 [true, true]],
  [a_ldR 0, a_gD 5 8 1, a_push (vI 97), a_ldI 1, a_callV 1 3 0 3 1, a_go 7 [true]],
  [a_ldR 0, a_push (vI 0), a_callV 35 2 0 2 5, a_go 7 [true]],
  [a_ldR 0, a_callV 50 1 0 1 5, a_ldR 0, a_callV 34 1 0 2 5, a_retV]]
/-- Rows_begin -/
def B_53 : List (List zA) := [[a_ldR 0, a_gS 6 21, a_push (vI 0), a_aR 21 7 4 6, a_ldR 1, a_callV 18 2 0 2 4, a_ldR 0, a_gS 6 22, a_push (vI 0), a_ldR 0, a_gS 6 21, a_push (vI 0), a_aR 21 7 4 6, a_ldR 2, a_gI 9 2, a_callV 31 2 2 4 4, a_sL 22 7, a_ldR 0, a_gS 6 23, a_push (vI 0), a_push (vL 0), a_sL 23 7, a_retV]]
/-- Rows_step -/
def B_54 : List (List zA) := [[a_ldR 0, a_gS 6 21, a_ldI 1, a_push (vI 1), i_iadd, a_aR 21 7 4 6, a_stR 4, a_ldR 4, a_ldR 0, a_gS 6 21, a_ldI 1, a_aR 21 7 4 6, a_callV 18 2 0 2 4, a_ldR 0, a_gS 6 22, a_ldI 1, a_push (vI 1), i_iadd, a_ldR 0, a_gS 6 22, a_ldI 1, a_aL 22 7, a_sL 22 7, a_ldR 0, a_gS 6 23, a_ldI 1, a_push (vI 1), i_iadd, a_ldR 0, a_gS 6 23, a_ldI 1, a_aL 23 7, a_sL 23 7, a_ldI 2, a_if1 (fun a => a = 0) 1 [true, true, true, true, true] 2 [true, true, true, true, true]],
  [a_ldR 0, a_gS 6 23, a_ldI 1, a_push (vI 1), i_iadd, a_dup2, a_aL 23 7, a_ldR 4, a_ldR 3, a_gD 7 0 9, a_callV 30 2 2 6 4, i_ladd, a_sL 23 7, a_go 2 [true, true, true, true, true]],
  [a_ldR 4, a_ldI 2, a_push (vI 0), a_push (vI 0), a_ldR 3, a_callV 19 5 1 6 4, a_pop, a_ldI 2, a_if1 (fun a => a = 0) 3 [true, true, false, true, true] 4 []],
  [a_ldR 0, a_gS 6 22, a_ldI 1, a_push (vI 1), i_iadd, a_dup2, a_aL 22 7, a_ldR 4, a_ldR 3, a_gD 7 0 9, a_gI 9 2, a_callV 31 2 2 4 4, i_ladd, a_sL 22 7, a_go 4 []],
  [a_retV]]
/-- Rows_best -/
def B_55 : List (List zA) := [[a_ldR 0, a_ldR 1, a_ldR 3, a_gD 7 0 9, a_callV 53 3 0 3 6, a_push (vI (-1)), a_stI 4, a_push (vL 0), a_stL 5, a_push (vL 0), a_stL 7, a_push (vI 0), a_stI 9, a_go 1 [true, false, true, true, true, true, false, true, false, true]],
  [a_ldI 9, a_push (vI 1), a_push (vI 2), a_ldI 2, i_imul, i_ishl, a_if2 (fun a b => b ≤ a) 20 [false, false, false, false, true] 2 [true, false, true, true, true, true, false, true, false, true]],
  [a_ldI 2, a_push (vI 1), i_isub, a_stI 10, a_ldI 9, a_stI 11, a_go 3 [true, false, true, true, true, true, false, true, false, true, true, true]],
  [a_ldI 10, a_if1 (fun a => a ≤ 0) 6 [true, false, true, true, true, true, false, true, false, true, true] 4 [true, false, true, true, true, true, false, true, false, true, true, true]],
  [a_ldI 11, a_push (vI 3), i_iand, a_if1 (fun a => a = 0) 5 [true, false, true, true, true, true, false, true, false, true, true, true] 6 [true, false, true, true, true, true, false, true, false, true, true]],
  [a_iinc 10 (-1), a_ldI 11, a_push (vI 2), i_ishr, a_stI 11, a_go 3 [true, false, true, true, true, true, false, true, false, true, true, true]],
  [a_ldI 10, a_ldI 2, a_if2 (fun a b => b ≤ a) 8 [true, false, true, true, true, true, false, true, false, true] 7 [true, false, true, true, true, true, false, true, false, true, true]],
  [a_ldR 0, a_ldI 10, a_ldI 9, a_push (vI 2), a_ldI 2, a_push (vI 1), i_isub, a_ldI 10, i_isub, i_imul, i_ishr, a_push (vI 3), i_iand, a_ldR 3, a_callV 54 4 0 5 6, a_iinc 10 1, a_go 6 [true, false, true, true, true, true, false, true, false, true, true]],
  [a_ldI 9, a_ldI 2, a_call 56 2 1 4, a_stI 11, a_ldR 0, a_gS 6 22, a_ldI 2, a_aL 22 7, a_ldL 5, a_ifL (fun a b => a = b) 9 [true, false, true, true, true, true, false, true, false, true, false, true] 11 [true, false, true, true, true, true, false, true, false, true, false, true]],
  [a_ldR 0, a_gS 6 23, a_ldI 2, a_aL 23 7, a_ldL 7, a_ifL (fun a b => a = b) 10 [true, false, true, true, true, true, false, true, false, true, false, true] 11 [true, false, true, true, true, true, false, true, false, true, false, true]],
  [a_push (vI 1), a_go 12 [true, false, true, true, true, true, false, true, false, true, false, true]],
  [a_push (vI 0), a_go 12 [true, false, true, true, true, true, false, true, false, true, false, true]],
  [a_stI 12, a_ldI 4, a_push (vI (-1)), a_if2 (fun a b => a = b) 18 [true, false, true, true, false, false, false, false, false, true, false, true] 13 [true, false, true, true, true, true, false, true, false, true, false, true, true]],
  [a_ldR 0, a_gS 6 22, a_ldI 2, a_aL 22 7, a_ldL 5, a_ifL (fun a b => b < a) 18 [true, false, true, true, false, false, false, false, false, true, false, true] 14 [true, false, true, true, true, true, false, true, false, true, false, true, true]],
  [a_ldR 0, a_gS 6 22, a_ldI 2, a_aL 22 7, a_ldL 5, a_ifL (fun a b => a = b) 15 [true, false, true, true, true, true, false, true, false, true, false, true, true] 16 [true, false, true, true, true, true, false, true, false, true, false, true, true]],
  [a_ldR 0, a_gS 6 23, a_ldI 2, a_aL 23 7, a_ldL 7, a_ifL (fun a b => a < b) 18 [true, false, true, true, false, false, false, false, false, true, false, true] 16 [true, false, true, true, true, true, false, true, false, true, false, true, true]],
  [a_ldI 12, a_if1 (fun a => a = 0) 19 [true, false, true, true, true, true, false, true, false, true] 17 [true, false, true, true, true, true, false, true, false, true, false, true]],
  [a_ldI 11, a_ldI 4, a_if2 (fun a b => b ≤ a) 19 [true, false, true, true, true, true, false, true, false, true] 18 [true, false, true, true, false, false, false, false, false, true, false, true]],
  [a_ldI 11, a_stI 4, a_ldR 0, a_gS 6 22, a_ldI 2, a_aL 22 7, a_stL 5, a_ldR 0, a_gS 6 23, a_ldI 2, a_aL 23 7, a_stL 7, a_go 19 [true, false, true, true, true, true, false, true, false, true]],
  [a_iinc 9 1, a_go 1 [true, false, true, true, true, true, false, true, false, true]],
  [a_ldI 4, a_retI]]
/-- Rows_turnedAround -/
def B_56 : List (List zA) := [[a_push (vI 0), a_stI 2, a_push (vI 0), a_stI 3, a_go 1 [true, true, true, true]],
  [a_ldI 3, a_ldI 1, a_if2 (fun a b => b ≤ a) 3 [false, false, true] 2 [true, true, true, true]],
  [a_ldI 2, a_push (vI 2), i_ishl, a_ldI 0, a_push (vI 2), a_ldI 3, i_imul, i_ishr, a_push (vI 3), i_iand, i_ior, a_stI 2, a_iinc 3 1, a_go 1 [true, true, true, true]],
  [a_ldI 2, a_retI]]
/-- Setting_take -/
def B_57 : List (List zA) := [[a_ldR 0, a_ldR 1, a_pD 7 0 9, a_ldR 0, a_ldR 2, a_pD 7 1 2, a_push (vI 0), a_stI 3, a_go 1 [true, false, false, true]],
  [a_ldI 3, a_push (vI 30), a_if2 (fun a b => b < a) 3 [] 2 [true, false, false, true]],
  [a_ldR 0, a_gS 7 27, a_ldI 3, a_push (vI 0), a_sI 27 31 0 1, a_iinc 3 1, a_go 1 [true, false, false, true]],
  [a_retV]]
/-- Setting_ready -/
def B_58 : List (List zA) := [[a_ldR 0, a_gS 7 27, a_ldI 1, a_aI 27 31, a_if1 (fun a => a = 0) 2 [true, true] 1 []],
  [a_retV],
  [a_ldR 0, a_gS 7 27, a_ldI 1, a_push (vI 1), a_sI 27 31 0 1, a_push (vI 0), a_stI 2, a_go 3 [true, true, true]],
  [a_ldI 2, a_ldR 0, a_gD 7 0 9, a_gI 9 13, a_if2 (fun a b => b ≤ a) 5 [] 4 [true, true, true]],
  [a_ldR 0, a_gD 7 0 9, a_gS 9 40, a_ldI 2, a_aI 40 144, a_stI 3, a_ldR 0, a_gS 7 28, a_push (vI 0), a_ldR 0, a_gD 7 0 9, a_gS 9 33, a_ldI 3, a_aI 33 144, a_i2l, a_sL 28 5, a_ldR 0, a_gS 7 28, a_push (vI 1), a_ldR 0, a_gD 7 0 9, a_gS 9 35, a_ldI 3, a_aI 35 144, a_i2l, a_sL 28 5, a_ldR 0, a_gS 7 28, a_push (vI 2), a_ldR 0, a_gD 7 0 9, a_gS 9 36, a_ldI 3, a_aI 36 144, a_i2l, a_sL 28 5, a_ldR 0, a_gS 7 28, a_push (vI 3), a_ldR 0, a_gD 7 0 9, a_gS 9 37, a_ldI 3, a_aI 37 144, a_i2l, a_sL 28 5, a_ldR 0, a_gS 7 28, a_push (vI 4), a_ldI 1, a_i2l, a_sL 28 5, a_ldR 0, a_gS 7 26, a_ldI 1, a_push (vI 144), i_imul, a_ldI 3, i_iadd, a_push (vL 0), a_push (vL 1000), a_ldR 0, a_gD 7 1 2, a_gS 2 1, a_ldR 0, a_gS 7 28, a_push (vL 900), a_callV 5 3 2 5 1, i_lmin, i_lmax, a_l2i, a_sN 26 4464, a_iinc 2 1, a_go 3 [true, true, true]],
  [a_retV]]
/-- Setting_aheadAt -/
def B_59 : List (List zA) := [[a_ldR 0, a_gS 7 26, a_ldI 2, a_push (vI 144), i_imul, a_ldI 1, i_iadd, a_aI 26 4464, a_retI]]
/-- Setting_asideBy -/
def B_60 : List (List zA) := [[a_ldR 0, a_gD 7 1 2, a_gI 2 1, a_push (vI 1000), a_ldI 1, i_isub, a_push (vI 2), i_idiv, i_min, a_retI]]
/-- Setting_tell -/
def B_61 : List (List zA) := [[a_ldR 0, a_gD 7 1 2, a_ldI 4, a_callV 8 2 1 2 2, a_stI 5, a_push (vI 0), a_stI 6, a_go 1 [true, true, true, true, false, true, true]],
  [a_ldI 6, a_ldR 0, a_gD 7 0 9, a_gI 9 13, a_if2 (fun a b => b ≤ a) 26 [] 2 [true, true, true, true, false, true, true]],
  [a_ldR 0, a_gD 7 0 9, a_gS 9 40, a_ldI 6, a_aI 40 144, a_stI 7, a_ldI 1, a_push (vI 6), a_if2 (fun a b => a = b) 3 [true, true, true, true, false, true, true, true] 7 [true, true, true, true, false, true, true, true]],
  [a_ldR 0, a_gS 7 24, a_ldI 7, a_ldR 0, a_gD 7 0 9, a_gS 9 35, a_ldI 7, a_aI 35 144, a_ldI 2, a_if2 (fun a b => a = b) 4 [true, true, true, true, false, true, true] 5 [true, true, true, true, false, true, true]],
  [a_ldR 0, a_gD 7 1 2, a_gI 2 2, a_i2l, a_go 6 [true, true, true, true, false, true, true]],
  [a_push (vI 1000), a_ldR 0, a_gD 7 1 2, a_gI 2 2, i_isub, a_push (vI 7), i_idiv, a_i2l, a_go 6 [true, true, true, true, false, true, true]],
  [a_sL 24 144, a_go 25 [true, true, true, true, false, true, true]],
  [a_ldI 1, a_push (vI 7), a_if2 (fun a b => a = b) 8 [true, true, true, true, false, true, true, true] 12 [true, true, true, true, false, true, true, true]],
  [a_ldR 0, a_gS 7 24, a_ldI 7, a_ldR 0, a_gD 7 0 9, a_gS 9 36, a_ldI 7, a_aI 36 144, a_ldI 2, a_if2 (fun a b => a = b) 9 [true, true, true, true, false, true, true] 10 [true, true, true, true, false, true, true]],
  [a_ldI 5, a_i2l, a_go 11 [true, true, true, true, false, true, true]],
  [a_push (vI 1000), a_ldI 5, i_isub, a_push (vI 9), i_idiv, a_i2l, a_go 11 [true, true, true, true, false, true, true]],
  [a_sL 24 144, a_go 25 [true, true, true, true, false, true, true]],
  [a_ldI 1, a_push (vI 8), a_if2 (fun a b => a = b) 13 [true, true, true, true, false, true, true, true] 20 [true, true, true, true, false, true, true, true]],
  [a_ldR 0, a_gD 7 0 9, a_ldI 2, a_ldI 7, a_callV 72 3 1 3 9, a_ldI 3, i_isub, i_iabs, a_stI 8, a_ldR 0, a_gS 7 24, a_ldI 7, a_ldI 8, a_if1 (fun a => a = 0) 14 [true, true, true, true, false, true, true] 15 [true, true, true, true, false, true, true, false, true]],
  [a_ldR 0, a_gD 7 1 2, a_gI 2 4, a_i2l, a_go 19 [true, true, true, true, false, true, true]],
  [a_push (vI 1000), a_ldR 0, a_gD 7 1 2, a_gI 2 4, i_isub, a_ldI 8, a_push (vI 1), a_if2 (fun a b => a = b) 16 [true, true, true, true, false, true, true] 17 [true, true, true, true, false, true, true]],
  [a_push (vI 4), a_go 18 [true, true, true, true, false, true, true]],
  [a_push (vI 80), a_go 18 [true, true, true, true, false, true, true]],
  [i_idiv, a_i2l, a_go 19 [true, true, true, true, false, true, true]],
  [a_sL 24 144, a_go 25 [true, true, true, true, false, true, true]],
  [a_ldR 0, a_gS 7 24, a_ldI 7, a_ldR 0, a_gD 7 0 9, a_gS 9 35, a_ldI 7, a_aI 35 144, a_ldI 2, a_if2 (fun a b => a = b) 21 [true, true, true, true, false, true, true, true] 23 [true, true, true, true, false, true, true]],
  [a_ldR 0, a_gD 7 0 9, a_gS 9 33, a_ldI 7, a_aI 33 144, a_ldI 3, a_if2 (fun a b => a = b) 22 [true, true, true, true, false, true, true] 23 [true, true, true, true, false, true, true]],
  [a_push (vL 1000), a_go 24 [true, true, true, true, false, true, true]],
  [a_push (vL 0), a_go 24 [true, true, true, true, false, true, true]],
  [a_sL 24 144, a_go 25 [true, true, true, true, false, true, true]],
  [a_iinc 6 1, a_go 1 [true, true, true, true, false, true, true]],
  [a_retV]]
/-- State_begin -/
def B_62 : List (List zA) := [[a_ldR 0, a_push (vI 1), a_pZ 8 1, a_ldR 0, a_ldI 1, a_pI 8 2, a_ldR 0, a_ldI 2, a_pI 8 3, a_ldR 0, a_ldI 3, a_pI 8 4, a_ldR 0, a_ldI 4, a_pI 8 5, a_ldR 0, a_push (vI 0), a_pI 8 6, a_ldR 0, a_gS 8 4, a_ldI 3, a_ldI 4, a_callV 17 3 0 3 4, a_retV]]
/-- State_keep -/
def B_63 : List (List zA) := [[a_ldR 0, a_gI 8 1, a_if1 (fun a => a = 0) 3 [] 1 [true, true, true, true, true]],
  [a_ldR 0, a_gI 8 6, a_push (vI 200), a_if2 (fun a b => b ≤ a) 3 [] 2 [true, true, true, true, true]],
  [a_ldR 0, a_gS 8 4, a_ldI 1, a_ldI 2, a_ldI 3, a_ldR 4, a_callV 19 5 1 6 4, a_if1 (fun a => a = 0) 3 [] 4 [true, true, true, true, true]],
  [a_push (vI 0), a_retZ 0 1],
  [a_ldR 0, a_gS 8 29, a_ldR 0, a_gI 8 6, a_ldI 1, a_ldI 2, a_push (vI 8), i_ishl, i_ior, a_ldI 3, a_push (vI 16), i_ishl, i_ior, a_sN 29 200, a_ldR 0, a_gS 8 30, a_ldR 0, a_gI 8 6, a_ldR 0, a_gS 8 4, a_ldR 4, a_gD 7 0 9, a_callV 27 2 2 5 4, a_push (vL 1000000), i_ldiv, a_l2i, a_sN 30 200, a_ldR 0, a_dup, a_gI 8 6, a_push (vI 1), i_iadd, a_pI 8 6, a_push (vI 1), a_retZ 0 1]]
/-- State_doAgain -/
def B_64 : List (List zA) := [[a_ldR 2, a_ldR 0, a_gI 8 4, a_ldR 0, a_gI 8 5, a_callV 17 3 0 3 4, a_push (vI 0), a_stI 4, a_go 1 [true, true, true, true, true]],
  [a_ldI 4, a_ldR 0, a_gI 8 6, a_if2 (fun a b => b ≤ a) 17 [] 2 [true, true, true, true, true]],
  [a_ldR 0, a_gS 8 29, a_ldI 4, a_aI 29 200, a_push (vI 255), i_iand, a_stI 5, a_ldI 5, a_push (vI 5), a_if2 (fun a b => a = b) 3 [true, true, true, true, true, true] 4 [true, true, true, true, true, true]],
  [a_push (vI 3), a_go 5 [true, true, true, true, true, true]],
  [a_ldI 5, a_push (vI 6), i_isub, a_go 5 [true, true, true, true, true, true]],
  [a_stI 6, a_ldI 5, a_push (vI 4), a_if2 (fun a b => a ≤ b) 7 [true, true, true, true, true, true] 6 [true, true, true, true, true, true, true]],
  [a_ldI 1, a_ldI 6, i_ishr, a_push (vI 1), i_iand, a_push (vI 1), a_if2 (fun a b => a = b) 7 [true, true, true, true, true, true] 8 [true, true, true, true, true, true]],
  [a_push (vI 1), a_go 9 [true, true, true, true, true, true]],
  [a_push (vI 0), a_go 9 [true, true, true, true, true, true]],
  [a_stI 7, a_ldI 7, a_if1 (fun a => a = 0) 12 [true, true, true, true, true, true] 10 [true, true, true, true, true, true]],
  [a_ldR 2, a_ldI 5, a_ldR 0, a_gS 8 29, a_ldI 4, a_aI 29 200, a_push (vI 8), i_ishr, a_push (vI 255), i_iand, a_ldR 0, a_gS 8 29, a_ldI 4, a_aI 29 200, a_push (vI 16), i_ishr, a_ldR 3, a_callV 19 5 1 6 4, a_if1 (fun a => a = 0) 12 [true, true, true, true, true, true] 11 [true, true, true, true, true, true]],
  [a_push (vI 1), a_go 13 [true, true, true, true, true, true]],
  [a_push (vI 0), a_go 13 [true, true, true, true, true, true]],
  [a_stI 8, a_ldI 8, a_if1 (fun a => a = 0) 14 [true, true, true, true, true, true] 16 [true, true, true, true, true]],
  [a_ldI 5, a_push (vI 5), a_if2 (fun a b => a = b) 15 [true, true, true, true, true] 16 [true, true, true, true, true]],
  [a_ldR 2, a_push (vI 4), a_push (vI 0), a_push (vI 0), a_ldR 3, a_callV 19 5 1 6 4, a_pop, a_go 16 [true, true, true, true, true]],
  [a_iinc 4 1, a_go 1 [true, true, true, true, true]],
  [a_retV]]
/-- State_copyFrom -/
def B_65 : List (List zA) := [[a_ldR 0, a_ldR 1, a_gI 8 1, a_pZ 8 1, a_ldR 0, a_ldR 1, a_gI 8 2, a_pI 8 2, a_ldR 0, a_ldR 1, a_gI 8 3, a_pI 8 3, a_ldR 0, a_ldR 1, a_gI 8 4, a_pI 8 4, a_ldR 0, a_ldR 1, a_gI 8 5, a_pI 8 5, a_ldR 0, a_ldR 1, a_gI 8 6, a_pI 8 6, a_ldR 0, a_gS 8 4, a_ldR 1, a_gS 8 4, a_callV 18 2 0 2 4, a_ldR 1, a_gS 8 29, a_push (vI 0), a_ldR 0, a_gS 8 29, a_push (vI 0), a_push (vI 200), a_acI 29 200 29 200, a_ldR 1, a_gS 8 30, a_push (vI 0), a_ldR 0, a_gS 8 30, a_push (vI 0), a_push (vI 200), a_acI 30 200 30 200, a_ldR 1, a_gS 8 31, a_push (vI 0), a_ldR 0, a_gS 8 31, a_push (vI 0), a_push (vI 8), a_acI 31 8 31 8, a_retV]]
/-- Wood_clear -/
def B_66 : List (List zA) := [[a_ldR 0, a_push (vI 12), a_pI 9 0, a_ldR 0, a_push (vI 12), a_pI 9 1, a_ldR 0, a_push (vI 0), a_pI 9 2, a_ldR 0, a_push (vI 0), a_pI 9 3, a_ldR 0, a_gS 9 33, a_push (vI 0), a_call 229 2 0 4, a_ldR 0, a_gS 9 34, a_push (vI 0), a_call 229 2 0 4, a_ldR 0, a_gS 9 35, a_push (vI 0), a_call 229 2 0 4, a_ldR 0, a_gS 9 36, a_push (vI 0), a_call 229 2 0 4, a_ldR 0, a_gS 9 37, a_push (vI 0), a_call 229 2 0 4, a_retV]]
/-- Wood_addSource -/
def B_67 : List (List zA) := [[a_ldR 0, a_gI 9 3, a_push (vI 4), a_if2 (fun a b => b ≤ a) 5 [] 1 [true, true, true, true]],
  [a_push (vI 0), a_stI 4, a_go 2 [true, true, true, true, true]],
  [a_ldI 4, a_push (vI 144), a_if2 (fun a b => b ≤ a) 4 [true] 3 [true, true, true, true, true]],
  [a_ldI 4, a_push (vI 12), i_irem, a_ldI 2, i_isub, i_iabs, a_ldI 4, a_push (vI 12), i_idiv, a_ldI 3, i_isub, i_iabs, i_iadd, a_stI 5, a_ldR 0, a_gS 9 32, a_ldR 0, a_gI 9 3, a_push (vI 144), i_imul, a_ldI 4, i_iadd, a_push (vI 0), a_ldI 1, a_ldI 5, i_isub, i_max, a_sN 32 576, a_iinc 4 1, a_go 2 [true, true, true, true, true]],
  [a_ldR 0, a_dup, a_gI 9 3, a_push (vI 1), i_iadd, a_pI 9 3, a_go 5 []],
  [a_retV]]
/-- Wood_settle -/
def B_68 : List (List zA) := [[a_ldR 0, a_gI 9 2, a_push (vI 12), i_irem, a_ldR 0, a_gI 9 0, a_push (vI 1), i_isub, i_min, a_stI 1, a_ldR 0, a_gI 9 2, a_push (vI 12), i_idiv, a_ldR 0, a_gI 9 1, a_push (vI 1), i_isub, i_min, a_stI 2, a_ldR 0, a_ldI 2, a_push (vI 12), i_imul, a_ldI 1, i_iadd, a_pI 9 2, a_ldR 0, a_gS 9 34, a_ldR 0, a_gI 9 2, a_push (vI 0), a_sN 34 144, a_ldR 0, a_push (vI 0), a_pI 9 13, a_push (vI 0), a_stI 3, a_go 1 [true, false, false, true]],
  [a_ldI 3, a_push (vI 144), a_if2 (fun a b => b ≤ a) 5 [true] 2 [true, false, false, true]],
  [a_ldI 3, a_push (vI 12), i_irem, a_stI 4, a_ldI 3, a_push (vI 12), i_idiv, a_stI 5, a_ldR 0, a_ldI 4, a_ldI 5, a_callV 70 3 1 4 9, a_push (vI (-1)), a_if2 (fun a b => a = b) 4 [true, false, false, true, true, true] 3 [true, false, false, true, true, true]],
  [a_ldR 0, a_gS 9 40, a_ldR 0, a_gI 9 13, a_ldI 3, a_sN 40 144, a_ldR 0, a_dup, a_gI 9 13, a_push (vI 1), i_iadd, a_pI 9 13, a_go 4 [true, false, false, true, true, true]],
  [a_ldR 0, a_gS 9 39, a_ldI 3, a_push (vI 4), i_imul, a_ldR 0, a_ldI 4, a_ldI 5, a_push (vI 1), i_isub, a_callV 70 3 1 4 9, a_sN 39 576, a_ldR 0, a_gS 9 39, a_ldI 3, a_push (vI 4), i_imul, a_push (vI 1), i_iadd, a_ldR 0, a_ldI 4, a_push (vI 1), i_iadd, a_ldI 5, a_callV 70 3 1 4 9, a_sN 39 576, a_ldR 0, a_gS 9 39, a_ldI 3, a_push (vI 4), i_imul, a_push (vI 2), i_iadd, a_ldR 0, a_ldI 4, a_ldI 5, a_push (vI 1), i_iadd, a_callV 70 3 1 4 9, a_sN 39 576, a_ldR 0, a_gS 9 39, a_ldI 3, a_push (vI 4), i_imul, a_push (vI 3), i_iadd, a_ldR 0, a_ldI 4, a_push (vI 1), i_isub, a_ldI 5, a_callV 70 3 1 4 9, a_sN 39 576, a_iinc 3 1, a_go 1 [true, false, false, true]],
  [a_ldR 0, a_ldR 0, a_gI 9 2, a_ldR 0, a_gS 9 38, a_callV 71 3 0 8 9, a_retV]]
/-- Wood_cellAt -/
def B_69 : List (List zA) := [[a_ldI 1, a_if1 (fun a => a < 0) 4 [] 1 [true, true, true]],
  [a_ldI 2, a_if1 (fun a => a < 0) 4 [] 2 [true, true, true]],
  [a_ldI 1, a_ldR 0, a_gI 9 0, a_if2 (fun a b => b ≤ a) 4 [] 3 [true, true, true]],
  [a_ldI 2, a_ldR 0, a_gI 9 1, a_if2 (fun a b => a < b) 5 [false, true, true] 4 []],
  [a_push (vI (-1)), a_go 6 []],
  [a_ldI 2, a_push (vI 12), i_imul, a_ldI 1, i_iadd, a_go 6 []],
  [a_retI]]
/-- Wood_openAt -/
def B_70 : List (List zA) := [[a_ldR 0, a_ldI 1, a_ldI 2, a_callV 69 3 1 3 9, a_stI 3, a_ldI 3, a_push (vI (-1)), a_if2 (fun a b => a = b) 2 [] 1 [true, false, false, true]],
  [a_ldR 0, a_gS 9 34, a_ldI 3, a_aI 34 144, a_push (vI 1), a_if2 (fun a b => a = b) 2 [] 3 [false, false, false, true]],
  [a_push (vI (-1)), a_go 4 []],
  [a_ldI 3, a_go 4 []],
  [a_retI]]
/-- Wood_measure -/
def B_71 : List (List zA) := [[a_ldR 2, a_push (vI (-1)), a_call 229 2 0 4, a_ldR 2, a_ldI 1, a_push (vI 0), a_sNX, a_ldR 0, a_gS 9 41, a_push (vI 0), a_ldI 1, a_sN 41 144, a_push (vI 1), a_stI 3, a_push (vI 0), a_stI 4, a_go 1 [true, false, true, true, true]],
  [a_ldI 4, a_ldI 3, a_if2 (fun a b => b ≤ a) 11 [] 2 [true, false, true, true, true]],
  [a_ldI 4, a_push (vI 144), a_if2 (fun a b => b ≤ a) 11 [] 3 [true, false, true, true, true]],
  [a_ldR 0, a_gS 9 41, a_ldI 4, a_aI 41 144, a_stI 5, a_push (vI 0), a_stI 6, a_go 4 [true, false, true, true, true, true, true]],
  [a_ldI 6, a_push (vI 4), a_if2 (fun a b => b ≤ a) 10 [true, false, true, true, true] 5 [true, false, true, true, true, true, true]],
  [a_ldR 0, a_gS 9 39, a_ldI 5, a_push (vI 4), i_imul, a_ldI 6, i_iadd, a_aI 39 576, a_stI 7, a_ldI 7, a_push (vI (-1)), a_if2 (fun a b => a = b) 9 [true, false, true, true, true, true, true] 6 [true, false, true, true, true, true, true, true]],
  [a_ldR 2, a_ldI 7, a_aIX, a_push (vI (-1)), a_if2 (fun a b => a = b) 7 [true, false, true, true, true, true, true, true] 9 [true, false, true, true, true, true, true]],
  [a_ldI 3, a_push (vI 144), a_if2 (fun a b => b ≤ a) 9 [true, false, true, true, true, true, true] 8 [true, false, true, true, true, true, true, true]],
  [a_ldR 2, a_ldI 7, a_ldR 2, a_ldI 5, a_aIX, a_push (vI 1), i_iadd, a_sNX, a_ldR 0, a_gS 9 41, a_ldI 3, a_ldI 7, a_sN 41 144, a_iinc 3 1, a_go 9 [true, false, true, true, true, true, true]],
  [a_iinc 6 1, a_go 4 [true, false, true, true, true, true, true]],
  [a_iinc 4 1, a_go 1 [true, false, true, true, true]],
  [a_retV]]
/-- Wood_loudAt -/
def B_72 : List (List zA) := [[a_ldI 1, a_if1 (fun a => a < 0) 2 [] 1 [true, true, true]],
  [a_ldI 1, a_ldR 0, a_gI 9 3, a_if2 (fun a b => a < b) 3 [true, true, true] 2 []],
  [a_push (vI (-1)), a_go 4 []],
  [a_ldR 0, a_gS 9 32, a_ldI 1, a_push (vI 144), i_imul, a_ldI 2, i_iadd, a_aI 32 576, a_go 4 []],
  [a_retI]]
/-- Wood_told -/
def B_73 : List (List zA) := [[a_ldI 2, a_sw 0 [(1, [true, true]), (2, [true, true]), (3, [true, true]), (4, [true, true]), (5, [true, true]), (7, [true, true, true]), (7, [true, true, true]), (7, [true, true, true]), (7, [true, true, true]), (6, [true, true])] 7 [true, true, true]],
  [a_ldR 0, a_gS 9 33, a_ldI 1, a_aI 33 144, a_retI],
  [a_ldR 0, a_gS 9 34, a_ldI 1, a_aI 34 144, a_retI],
  [a_ldR 0, a_gS 9 35, a_ldI 1, a_aI 35 144, a_retI],
  [a_ldR 0, a_gS 9 36, a_ldI 1, a_aI 36 144, a_retI],
  [a_ldR 0, a_gS 9 37, a_ldI 1, a_aI 37 144, a_retI],
  [a_ldR 0, a_gS 9 38, a_ldI 1, a_aI 38 144, a_retI],
  [a_ldR 0, a_ldI 2, a_push (vI 5), i_isub, a_ldI 1, a_callV 72 3 1 3 9, a_retI]]
/-- D_feed -/
def B_74 : List (List zA) := [[a_ldR 0, a_gK 10 5 0, a_gI 5 1, a_push (vI 20), i_iadd, a_push (vI 400), a_if2 (fun a b => a ≤ b) 2 [true, true, true, true, true, true] 1 []],
  [a_push (vI (-1)), a_retI],
  [a_ldR 0, a_gK 10 5 0, a_ldI 1, a_callV 32 2 0 3 5, a_ldR 0, a_gK 10 5 0, a_ldI 2, a_callV 32 2 0 3 5, a_ldR 0, a_gK 10 5 0, a_ldI 3, a_callV 32 2 0 3 5, a_ldR 0, a_gK 10 5 0, a_ldI 4, a_callV 32 2 0 3 5, a_ldR 0, a_gK 10 5 0, a_ldI 5, a_callV 32 2 0 3 5, a_ldR 0, a_gK 10 5 0, a_gI 5 1, a_retI]]
/-- D_end -/
def B_75 : List (List zA) := [[a_ldI 1, a_if1 (fun a => a < 0) 2 [] 1 [true, true]],
  [a_ldI 1, a_ldR 0, a_gK 10 5 0, a_gI 5 1, a_if2 (fun a b => a ≤ b) 3 [true, true] 2 []],
  [a_push (vI (-1)), a_retI],
  [a_ldR 0, a_gK 10 5 0, a_ldI 1, a_pI 5 1, a_ldI 1, a_retI]]
/-- D_text -/
def B_76 : List (List zA) := [[a_push (vI (-1)), a_stI 2, a_ldI 1, a_if1 (fun a => a = 0) 1 [true, true] 6 [true, true]],
  [a_ldR 0, a_gI 10 4, a_push (vI 4), a_if2 (fun a b => b ≤ a) 6 [true, true] 2 [true]],
  [a_ldR 0, a_gK 10 5 0, a_ldR 0, a_gS 10 42, a_ldR 0, a_gI 10 4, a_aR 42 4 9 0, a_callV 41 2 0 9 5, a_ldR 0, a_gI 10 4, a_stI 2, a_ldR 0, a_dup, a_gI 10 4, a_ldR 0, a_gK 10 5 0, a_gI 5 2, a_if1 (fun a => a = 0) 3 [true, false, true] 4 [true, false, true]],
  [a_push (vI 1), a_go 5 [true, false, true]],
  [a_push (vI 0), a_go 5 [true, false, true]],
  [i_iadd, a_pI 10 4, a_go 19 [true, false, true]],
  [a_ldI 1, a_push (vI 1), a_if2 (fun a b => a = b) 7 [true, true] 12 [true, true]],
  [a_ldR 0, a_gI 10 5, a_push (vI 6), a_if2 (fun a b => b ≤ a) 12 [true, true] 8 [true]],
  [a_ldR 0, a_gK 10 5 0, a_ldR 0, a_gS 10 43, a_ldR 0, a_gI 10 5, a_aR 43 6 2 0, a_callV 43 2 0 6 5, a_ldR 0, a_gI 10 5, a_stI 2, a_ldR 0, a_dup, a_gI 10 5, a_ldR 0, a_gK 10 5 0, a_gI 5 2, a_if1 (fun a => a = 0) 9 [true, false, true] 10 [true, false, true]],
  [a_push (vI 1), a_go 11 [true, false, true]],
  [a_push (vI 0), a_go 11 [true, false, true]],
  [i_iadd, a_pI 10 5, a_go 19 [true, false, true]],
  [a_ldI 1, a_push (vI 2), a_if2 (fun a b => a = b) 13 [true] 18 []],
  [a_ldR 0, a_gI 10 6, a_push (vI 6), a_if2 (fun a b => b ≤ a) 18 [] 14 [true]],
  [a_ldR 0, a_gK 10 5 0, a_ldR 0, a_gS 10 44, a_ldR 0, a_gI 10 6, a_aR 44 6 1 6, a_callV 44 2 0 5 5, a_ldR 0, a_gI 10 6, a_stI 2, a_ldR 0, a_dup, a_gI 10 6, a_ldR 0, a_gK 10 5 0, a_gI 5 2, a_if1 (fun a => a = 0) 15 [true, false, true] 16 [true, false, true]],
  [a_push (vI 1), a_go 17 [true, false, true]],
  [a_push (vI 0), a_go 17 [true, false, true]],
  [i_iadd, a_pI 10 6, a_go 19 [true, false, true]],
  [a_push (vI (-1)), a_retI],
  [a_ldR 0, a_gK 10 5 0, a_push (vI 0), a_pI 5 1, a_ldR 0, a_gK 10 5 0, a_gI 5 2, a_if1 (fun a => a = 0) 20 [false, false, true] 21 [true]],
  [a_ldI 2, a_go 22 []],
  [a_push (vI (-2)), a_ldR 0, a_gK 10 5 0, a_gI 5 2, i_isub, a_go 22 []],
  [a_retI]]
/-- D_cell -/
def B_77 : List (List zA) := [[a_ldI 1, a_if1 (fun a => a < 0) 4 [] 1 [true, true, true, true, true]],
  [a_ldI 1, a_ldR 0, a_gI 10 4, a_if2 (fun a b => b ≤ a) 4 [] 2 [true, true, true, true, true]],
  [a_ldI 4, a_if1 (fun a => a < 0) 4 [] 3 [true, true, true, true, true]],
  [a_ldI 4, a_push (vI 9), a_if2 (fun a b => a ≤ b) 5 [true, true, true, true, true] 4 []],
  [a_push (vI (-2)), a_retI],
  [a_ldR 0, a_gS 10 42, a_ldI 1, a_aR 42 4 9 0, a_ldI 2, a_ldI 3, a_callV 69 3 1 3 9, a_stI 5, a_ldI 5, a_push (vI (-1)), a_if2 (fun a b => a = b) 6 [] 7 [true, true, false, false, true, true]],
  [a_push (vI (-2)), a_go 8 []],
  [a_ldR 0, a_gS 10 42, a_ldI 1, a_aR 42 4 9 0, a_ldI 5, a_ldI 4, a_callV 73 3 1 3 9, a_go 8 []],
  [a_retI]]
/-- D_wood -/
def B_78 : List (List zA) := [[a_ldI 1, a_if1 (fun a => a < 0) 2 [] 1 [true, true, true]],
  [a_ldI 1, a_ldR 0, a_gI 10 4, a_if2 (fun a b => a < b) 3 [true, true, true] 2 []],
  [a_push (vI (-1)), a_retI],
  [a_ldR 0, a_gS 10 42, a_ldI 1, a_aR 42 4 9 0, a_stR 3, a_ldI 2, a_sw 0 [(4, [false, false, false, true]), (5, [false, false, false, true]), (6, [false, false, false, true]), (7, [false, false, false, true]), (8, [false, false, false, true])] 9 []],
  [a_ldR 3, a_gI 9 0, a_retI],
  [a_ldR 3, a_gI 9 1, a_retI],
  [a_ldR 3, a_gI 9 2, a_push (vI 12), i_irem, a_retI],
  [a_ldR 3, a_gI 9 2, a_push (vI 12), i_idiv, a_retI],
  [a_ldR 3, a_gI 9 3, a_retI],
  [a_push (vI (-1)), a_retI]]
/-- D_walk -/
def B_79 : List (List zA) := [[a_ldI 1, a_if1 (fun a => a < 0) 6 [] 1 [true, true, true, true, true, true]],
  [a_ldI 1, a_ldR 0, a_gI 10 4, a_if2 (fun a b => b ≤ a) 6 [] 2 [true, true, true, true, true, true]],
  [a_ldI 2, a_if1 (fun a => a < 0) 6 [] 3 [true, true, true, true, true, true]],
  [a_ldI 2, a_ldR 0, a_gI 10 5, a_if2 (fun a b => b ≤ a) 6 [] 4 [true, true, true, true, true, true]],
  [a_ldI 5, a_if1 (fun a => a < 0) 6 [] 5 [true, true, true, true, true, true]],
  [a_ldI 5, a_push (vI 4), a_if2 (fun a b => a < b) 7 [true, true, true, true, true, true] 6 []],
  [a_push (vI 0), a_retZ 0 1],
  [a_ldR 0, a_gS 10 42, a_ldI 1, a_aR 42 4 9 0, a_ldI 3, a_ldI 4, a_callV 70 3 1 4 9, a_stI 6, a_ldI 6, a_push (vI (-1)), a_if2 (fun a b => a = b) 8 [] 9 [true, true, true, false, false, true, true]],
  [a_push (vI 0), a_retZ 0 1],
  [a_ldR 0, a_gK 10 8 0, a_ldI 1, a_ldI 2, a_ldI 6, a_ldI 5, a_callV 62 5 0 5 8, a_ldR 0, a_gK 10 7 0, a_ldR 0, a_gS 10 42, a_ldI 1, a_aR 42 4 9 0, a_ldR 0, a_gS 10 43, a_ldI 2, a_aR 43 6 2 0, a_callV 57 3 0 4 7, a_push (vI 1), a_retZ 0 1]]
/-- D_act -/
def B_80 : List (List zA) := [[a_ldI 1, a_if1 (fun a => a < 0) 3 [] 1 [true, true]],
  [a_ldI 1, a_push (vI 4), a_if2 (fun a b => b < a) 3 [] 2 [true, true]],
  [a_ldR 0, a_gK 10 8 0, a_ldI 1, a_push (vI 0), a_push (vI 0), a_ldR 0, a_gK 10 7 0, a_callV 63 5 1 5 8, a_if1 (fun a => a = 0) 3 [] 4 [true]],
  [a_push (vI (-1)), a_retI],
  [a_ldR 0, a_gK 10 8 0, a_gS 8 4, a_gI 4 1, a_retI]]
/-- D_felt -/
def B_81 : List (List zA) := [[a_ldI 1, a_if1 (fun a => a < 0) 3 [] 1 [true, true]],
  [a_ldI 1, a_push (vI 7), a_if2 (fun a b => b < a) 3 [] 2 [true, true]],
  [a_ldR 0, a_gK 10 8 0, a_push (vI 6), a_ldI 1, a_push (vI 0), a_ldR 0, a_gK 10 7 0, a_callV 63 5 1 5 8, a_if1 (fun a => a = 0) 3 [] 4 [true]],
  [a_push (vI (-1)), a_retI],
  [a_ldR 0, a_gK 10 8 0, a_gI 8 6, a_retI]]
/-- D_seen -/
def B_82 : List (List zA) := [[a_ldI 1, a_if1 (fun a => a < 0) 3 [] 1 [true, true]],
  [a_ldI 1, a_push (vI 9), a_if2 (fun a b => b < a) 3 [] 2 [true, true]],
  [a_ldR 0, a_gK 10 8 0, a_push (vI 7), a_ldI 1, a_push (vI 0), a_ldR 0, a_gK 10 7 0, a_callV 63 5 1 5 8, a_if1 (fun a => a = 0) 3 [] 4 [true]],
  [a_push (vI (-1)), a_retI],
  [a_ldR 0, a_gK 10 8 0, a_gI 8 6, a_retI]]
/-- D_heard -/
def B_83 : List (List zA) := [[a_ldI 1, a_if1 (fun a => a < 0) 5 [] 1 [true, true, true]],
  [a_ldI 1, a_ldR 0, a_gK 10 7 0, a_gD 7 0 9, a_gI 9 3, a_if2 (fun a b => b ≤ a) 5 [] 2 [true, true, true]],
  [a_ldI 2, a_if1 (fun a => a < 0) 5 [] 3 [true, true, true]],
  [a_ldI 2, a_push (vI 40), a_if2 (fun a b => b < a) 5 [] 4 [true, true, true]],
  [a_ldR 0, a_gK 10 8 0, a_push (vI 8), a_ldI 1, a_ldI 2, a_ldR 0, a_gK 10 7 0, a_callV 63 5 1 5 8, a_if1 (fun a => a = 0) 5 [] 6 [true]],
  [a_push (vI (-1)), a_retI],
  [a_ldR 0, a_gK 10 8 0, a_gI 8 6, a_retI]]
/-- D_strike -/
def B_84 : List (List zA) := [[a_ldI 1, a_if1 (fun a => a < 0) 7 [] 1 [true, true, true]],
  [a_ldI 1, a_push (vI 7), a_if2 (fun a b => b < a) 7 [] 2 [true, true, true]],
  [a_ldR 0, a_gK 10 8 0, a_gS 8 4, a_gI 4 2, a_push (vI 1), a_if2 (fun a b => a < b) 7 [] 3 [true, true, true]],
  [a_ldR 0, a_gK 10 8 0, a_push (vI 5), a_ldI 1, a_ldI 2, a_if1 (fun a => a = 0) 5 [true] 4 [true]],
  [a_push (vI 1), a_go 6 [true]],
  [a_push (vI 0), a_go 6 [true]],
  [a_ldR 0, a_gK 10 7 0, a_callV 63 5 1 5 8, a_if1 (fun a => a = 0) 7 [] 8 [true]],
  [a_push (vI (-1)), a_retI],
  [a_ldR 0, a_gK 10 8 0, a_gS 8 4, a_gI 4 2, a_retI]]
/-- D_odds -/
def B_85 : List (List zA) := [[a_ldR 0, a_gK 10 7 0, a_gD 7 0 9, a_ldI 1, a_ldI 2, a_callV 69 3 1 3 9, a_stI 4, a_ldR 0, a_gK 10 8 0, a_gI 8 1, a_if1 (fun a => a = 0) 4 [] 1 [true, false, false, true, true]],
  [a_ldI 4, a_push (vI (-1)), a_if2 (fun a b => a = b) 4 [] 2 [true, false, false, true, true]],
  [a_ldI 3, a_push (vI (-1)), a_if2 (fun a b => a < b) 4 [] 3 [true, false, false, true, true]],
  [a_ldI 3, a_push (vI 4), a_if2 (fun a b => a < b) 5 [true, false, false, true, true] 4 []],
  [a_push (vI (-1)), a_retI],
  [a_ldR 0, a_gK 10 8 0, a_gS 8 4, a_ldI 4, a_ldI 3, a_callV 25 3 2 4 4, a_l2i, a_retI]]
/-- D_all -/
def B_86 : List (List zA) := [[a_ldR 0, a_gK 10 8 0, a_gI 8 1, a_if1 (fun a => a = 0) 1 [] 2 [true, true]],
  [a_push (vI (-1)), a_retI],
  [a_ldR 0, a_gK 10 8 0, a_gS 8 4, a_stR 2, a_ldI 1, a_sw 0 [(3, [true, false, true]), (4, [true, false, true]), (5, [true, false, true]), (6, [true, false, true]), (7, [true, false, true]), (8, [true, false, true]), (9, [false, false, true]), (10, [false, true, true]), (10, [false, true, true]), (10, [false, true, true]), (10, [false, true, true])] 11 []],
  [a_ldR 2, a_ldR 0, a_gK 10 7 0, a_gD 7 0 9, a_callV 27 2 2 5 4, a_l2i, a_retI],
  [a_ldR 2, a_ldR 0, a_gK 10 7 0, a_gD 7 0 9, a_gI 9 2, a_push (vI (-1)), a_callV 25 3 2 4 4, a_l2i, a_retI],
  [a_ldR 2, a_ldR 2, a_ldR 0, a_gK 10 7 0, a_gD 7 0 9, a_callV 28 2 1 8 4, a_push (vI (-1)), a_callV 25 3 2 4 4, a_l2i, a_retI],
  [a_ldR 2, a_ldR 0, a_gK 10 7 0, a_gD 7 0 9, a_callV 28 2 1 8 4, a_push (vI 12), i_irem, a_retI],
  [a_ldR 2, a_ldR 0, a_gK 10 7 0, a_gD 7 0 9, a_callV 28 2 1 8 4, a_push (vI 12), i_idiv, a_retI],
  [a_ldR 2, a_ldR 0, a_gK 10 7 0, a_gD 7 0 9, a_callV 30 2 2 6 4, a_l2i, a_retI],
  [a_ldR 2, a_push (vI 0), a_push (vI 143), a_push (vI (-1)), a_callV 26 4 2 8 4, a_l2i, a_retI],
  [a_ldR 2, a_push (vI 0), a_push (vI 143), a_ldI 1, a_push (vI 7), i_isub, a_callV 26 4 2 8 4, a_l2i, a_retI],
  [a_push (vI (-1)), a_retI]]
/-- D_row -/
def B_87 : List (List zA) := [[a_ldR 0, a_gK 10 8 0, a_gI 8 1, a_if1 (fun a => a = 0) 7 [] 1 [true, true, true, true]],
  [a_ldI 1, a_push (vI 1), a_if2 (fun a b => a < b) 7 [] 2 [true, true, true, true]],
  [a_ldI 1, a_push (vI 6), a_if2 (fun a b => b < a) 7 [] 3 [true, true, true, true]],
  [a_ldI 2, a_if1 (fun a => a < 0) 7 [] 4 [true, true, true, true]],
  [a_ldI 2, a_push (vI 1), a_push (vI 2), a_ldI 1, i_imul, i_ishl, a_if2 (fun a b => b ≤ a) 7 [] 5 [true, true, true, true]],
  [a_ldI 3, a_if1 (fun a => a < 0) 7 [] 6 [true, true, true, true]],
  [a_ldI 3, a_push (vI 1), a_if2 (fun a b => a ≤ b) 8 [true, true, true, true] 7 []],
  [a_push (vL (-1)), a_retL],
  [a_ldR 0, a_gK 10 6 0, a_ldR 0, a_gK 10 8 0, a_gS 8 4, a_ldR 0, a_gK 10 7 0, a_gD 7 0 9, a_callV 53 3 0 3 6, a_push (vI 0), a_stI 4, a_go 9 [true, true, true, true, true]],
  [a_ldI 4, a_ldI 1, a_if2 (fun a b => b ≤ a) 11 [true, true, false, true] 10 [true, true, true, true, true]],
  [a_ldR 0, a_gK 10 6 0, a_ldI 4, a_ldI 2, a_push (vI 2), a_ldI 4, i_imul, i_ishr, a_push (vI 3), i_iand, a_ldR 0, a_gK 10 7 0, a_callV 54 4 0 5 6, a_iinc 4 1, a_go 9 [true, true, true, true, true]],
  [a_ldI 3, a_if1 (fun a => a = 0) 12 [true, true] 13 [true, true]],
  [a_ldR 0, a_gK 10 6 0, a_gS 6 22, a_ldI 1, a_aL 22 7, a_go 14 []],
  [a_ldR 0, a_gK 10 6 0, a_gS 6 23, a_ldI 1, a_aL 23 7, a_go 14 []],
  [a_retL]]
/-- D_soon -/
def B_88 : List (List zA) := [[a_ldR 0, a_gK 10 8 0, a_gI 8 1, a_if1 (fun a => a = 0) 3 [] 1 [true, true]],
  [a_ldI 1, a_push (vI 1), a_if2 (fun a b => a < b) 3 [] 2 [true, true]],
  [a_ldI 1, a_push (vI 6), a_if2 (fun a b => a < b) 4 [true, true] 3 []],
  [a_push (vI (-1)), a_retI],
  [a_ldR 0, a_gK 10 6 0, a_ldR 0, a_gK 10 8 0, a_gS 8 4, a_ldI 1, a_ldR 0, a_gK 10 7 0, a_callV 55 4 1 13 6, a_retI]]
/-- D_left -/
def B_89 : List (List zA) := [[a_ldR 0, a_gK 10 8 0, a_gI 8 1, a_if1 (fun a => a = 0) 2 [] 1 [true, true]],
  [a_ldI 1, a_call 90 1 1 1, a_if1 (fun a => a = 0) 2 [] 3 [true, true]],
  [a_push (vI (-1)), a_retI],
  [a_push (vI 0), a_stI 2, a_go 4 [true, true, true]],
  [a_ldI 2, a_ldR 0, a_gK 10 8 0, a_gI 8 6, a_if2 (fun a b => b ≤ a) 8 [] 5 [true, true, true]],
  [a_ldR 0, a_gK 10 8 0, a_gS 8 30, a_ldI 2, a_aI 30 200, a_ldI 1, a_if2 (fun a b => b ≤ a) 7 [true, true, true] 6 [false, false, true]],
  [a_ldI 2, a_retI],
  [a_iinc 2 1, a_go 4 [true, true, true]],
  [a_push (vI (-2)), a_retI]]
/-- D_isBar -/
def B_90 : List (List zA) := [[a_ldI 0, a_push (vI 1), a_if2 (fun a b => a < b) 3 [] 1 [true]],
  [a_ldI 0, a_push (vI 1000), a_if2 (fun a b => b < a) 3 [] 2 []],
  [a_push (vI 1), a_go 4 []],
  [a_push (vI 0), a_go 4 []],
  [a_retZ 0 1]]
/-- D_fork -/
def B_91 : List (List zA) := [[a_ldR 0, a_gK 10 8 0, a_gI 8 1, a_if1 (fun a => a = 0) 9 [] 1 [true, true, true, true, true, true]],
  [a_ldI 1, a_if1 (fun a => a < 0) 9 [] 2 [true, true, true, true, true, true]],
  [a_ldI 2, a_if1 (fun a => a < 0) 9 [] 3 [true, true, true, true, true, true]],
  [a_ldI 3, a_ldI 1, a_if2 (fun a b => a < b) 9 [] 4 [true, true, true, true, true, true]],
  [a_ldI 4, a_ldI 2, a_if2 (fun a b => a < b) 9 [] 5 [true, true, true, true, true, true]],
  [a_ldI 3, a_push (vI 12), a_if2 (fun a b => b ≤ a) 9 [] 6 [true, true, true, true, true, true]],
  [a_ldI 4, a_push (vI 12), a_if2 (fun a b => b ≤ a) 9 [] 7 [true, true, true, true, true, true]],
  [a_ldI 5, a_push (vI (-1)), a_if2 (fun a b => a < b) 9 [] 8 [true, true, true, true, true, true]],
  [a_ldI 5, a_push (vI 4), a_if2 (fun a b => a < b) 10 [true, true, true, true, true, true] 9 []],
  [a_push (vI (-1)), a_retI],
  [a_ldR 0, a_gK 10 8 0, a_gS 8 4, a_ldI 2, a_push (vI 12), i_imul, a_ldI 1, i_iadd, a_ldI 4, a_push (vI 12), i_imul, a_ldI 3, i_iadd, a_ldI 5, a_callV 26 4 2 8 4, a_l2i, a_retI]]
/-- D_remember -/
def B_92 : List (List zA) := [[a_ldR 0, a_gK 10 7 0, a_gD 7 0 9, a_ldI 1, a_ldI 2, a_callV 69 3 1 3 9, a_stI 4, a_ldR 0, a_gK 10 8 0, a_gI 8 1, a_if1 (fun a => a = 0) 3 [] 1 [true, false, false, true, true]],
  [a_ldI 4, a_push (vI (-1)), a_if2 (fun a b => a = b) 3 [] 2 [true, false, false, true, true]],
  [a_ldI 3, a_call 90 1 1 1, a_if1 (fun a => a = 0) 3 [] 4 [true, false, false, true, true]],
  [a_push (vI (-1)), a_retI],
  [a_push (vI 0), a_stI 5, a_go 5 [true, false, false, true, true, true]],
  [a_ldI 5, a_push (vI 4), a_if2 (fun a b => b < a) 13 [] 6 [true, false, false, true, true, true]],
  [a_push (vI 0), a_stI 6, a_go 7 [true, false, false, true, true, true, true]],
  [a_ldI 6, a_push (vI 16), a_if2 (fun a b => b ≤ a) 12 [true, false, false, true, true, true] 8 [true, false, false, true, true, true, true]],
  [a_ldI 6, a_call 225 1 1 1, a_ldI 5, a_if2 (fun a b => a = b) 9 [true, false, false, true, true, true, true] 11 [true, false, false, true, true, true, true]],
  [a_ldR 0, a_gK 10 8 0, a_ldI 6, a_ldR 0, a_gK 10 4 5, a_ldR 0, a_gK 10 7 0, a_callV 64 4 0 9 8, a_ldR 0, a_gK 10 4 5, a_ldI 4, a_push (vI (-1)), a_callV 25 3 2 4 4, a_push (vL 1000000), i_ldiv, a_ldI 3, a_i2l, a_ifL (fun a b => a < b) 11 [true, false, false, true, true, true, true] 10 [false, false, false, false, false, false, true]],
  [a_ldI 6, a_retI],
  [a_iinc 6 1, a_go 7 [true, false, false, true, true, true, true]],
  [a_iinc 5 1, a_go 5 [true, false, false, true, true, true]],
  [a_push (vI (-2)), a_retI]]
/-- D_tells -/
def B_93 : List (List zA) := [[a_ldR 0, a_gK 10 8 0, a_gI 8 1, a_if1 (fun a => a = 0) 1 [] 2 [true]],
  [a_push (vI (-1)), a_retI],
  [a_push (vL 0), a_stL 1, a_push (vI 0), a_stI 3, a_go 3 [true, true, false, true]],
  [a_ldI 3, a_push (vI 8), a_if2 (fun a b => b ≤ a) 5 [false, true] 4 [true, true, false, true]],
  [a_ldL 1, a_ldR 0, a_ldI 3, a_push (vI 0), a_callV 94 3 2 6 10, a_ldR 0, a_ldI 3, a_push (vI 1), a_callV 94 3 2 6 10, i_ladd, i_ladd, a_stL 1, a_iinc 3 1, a_go 3 [true, true, false, true]],
  [a_ldL 1, a_l2i, a_retI]]
/-- D_mostShown -/
def B_94 : List (List zA) := [[a_push (vL 0), a_stL 3, a_push (vI 0), a_stI 5, a_go 1 [true, true, true, true, false, true]],
  [a_ldI 5, a_push (vI 144), a_if2 (fun a b => b ≤ a) 6 [false, false, false, true] 2 [true, true, true, true, false, true]],
  [a_ldR 0, a_gK 10 7 0, a_gD 7 0 9, a_gS 9 35, a_ldI 5, a_aI 35 144, a_ldI 1, a_if2 (fun a b => a = b) 3 [true, true, true, true, false, true] 5 [true, true, true, true, false, true]],
  [a_ldR 0, a_gK 10 7 0, a_gD 7 0 9, a_gS 9 33, a_ldI 5, a_aI 33 144, a_ldI 2, a_if2 (fun a b => a = b) 4 [true, true, true, true, false, true] 5 [true, true, true, true, false, true]],
  [a_ldL 3, a_ldR 0, a_gK 10 8 0, a_gS 8 4, a_ldI 5, a_push (vI (-1)), a_callV 25 3 2 4 4, i_lmax, a_stL 3, a_go 5 [true, true, true, true, false, true]],
  [a_iinc 5 1, a_go 1 [true, true, true, true, false, true]],
  [a_ldL 3, a_retL]]
/-- D_aim -/
def B_95 : List (List zA) := [[a_ldR 0, a_gK 10 8 0, a_gI 8 1, a_if1 (fun a => a = 0) 6 [] 1 [true, true, true, true]],
  [a_ldI 1, a_if1 (fun a => a < 0) 6 [] 2 [true, true, true, true]],
  [a_ldI 1, a_push (vI 1), a_if2 (fun a b => b < a) 6 [] 3 [true, true, true, true]],
  [a_ldI 2, a_if1 (fun a => a < 0) 6 [] 4 [true, true, true, true]],
  [a_ldI 2, a_push (vI 12), a_if2 (fun a b => b ≤ a) 6 [] 5 [true, true, true, true]],
  [a_ldI 3, a_call 90 1 1 1, a_if1 (fun a => a = 0) 6 [] 7 [true, true, true, true]],
  [a_push (vI (-1)), a_retI],
  [a_push (vI 0), a_stI 4, a_go 8 [true, true, true, true, true]],
  [a_ldI 4, a_push (vI 12), a_if2 (fun a b => b < a) 17 [] 9 [true, true, true, true, true]],
  [a_push (vI 0), a_ldI 2, a_push (vI 1), i_iadd, a_ldI 4, i_isub, i_max, a_stI 5, a_push (vL 0), a_stL 6, a_ldI 5, a_push (vI 12), a_if2 (fun a b => b ≤ a) 14 [true, true, true, true, true, false, true] 10 [true, true, true, true, true, true]],
  [a_ldR 0, a_gK 10 8 0, a_gS 8 4, a_ldI 1, a_if1 (fun a => a = 0) 11 [true, true, true, true, true, true] 12 [true, true, true, true, true, true]],
  [a_ldI 5, a_go 13 [true, true, true, true, true]],
  [a_ldI 5, a_push (vI 12), i_imul, a_go 13 [true, true, true, true, true]],
  [a_push (vI 143), a_push (vI (-1)), a_callV 26 4 2 8 4, a_stL 6, a_go 14 [true, true, true, true, true, false, true]],
  [a_ldL 6, a_push (vL 1000000), i_ldiv, a_ldI 3, a_i2l, a_ifL (fun a b => a < b) 16 [true, true, true, true, true] 15 [false, false, false, false, true]],
  [a_ldI 4, a_retI],
  [a_iinc 4 1, a_go 8 [true, true, true, true, true]],
  [a_push (vI (-2)), a_retI]]
/-- D_look -/
def B_96 : List (List zA) := [[a_ldR 0, a_gK 10 8 0, a_gI 8 1, a_if1 (fun a => a = 0) 3 [] 1 [true, true]],
  [a_ldI 1, a_if1 (fun a => a < 0) 3 [] 2 [true, true]],
  [a_ldI 1, a_push (vI 6), a_if2 (fun a b => a ≤ b) 4 [true, true] 3 []],
  [a_push (vI (-1)), a_retI],
  [a_ldR 0, a_gS 10 46, a_push (vI (-1)), a_call 229 2 0 4, a_push (vL 0), a_stL 2, a_push (vI 0), a_stI 4, a_go 5 [true, true, true, false, true]],
  [a_ldI 4, a_push (vI 1), a_push (vI 2), a_ldI 1, i_imul, i_ishl, a_if2 (fun a b => b ≤ a) 7 [false, false, true] 6 [true, true, true, false, true]],
  [a_ldL 2, a_ldR 0, a_ldI 1, a_ldI 4, a_callV 97 3 2 8 10, i_lmax, a_stL 2, a_iinc 4 1, a_go 5 [true, true, true, false, true]],
  [a_ldL 2, a_l2i, a_retI]]
/-- D_overWay -/
def B_97 : List (List zA) := [[a_ldR 0, a_gK 10 7 0, a_gD 7 0 9, a_gI 9 2, a_stI 3, a_ldR 0, a_gS 10 46, a_ldI 3, a_ldI 2, a_sN 46 144, a_ldR 0, a_gK 10 8 0, a_gS 8 4, a_ldI 3, a_push (vI (-1)), a_callV 25 3 2 4 4, a_stL 4, a_push (vI 0), a_stI 6, a_go 1 [true, true, true, true, true, false, true]],
  [a_ldI 6, a_ldI 1, a_if2 (fun a b => b ≤ a) 7 [false, false, false, false, true] 2 [true, true, true, true, true, false, true]],
  [a_ldR 0, a_gK 10 7 0, a_gD 7 0 9, a_gS 9 39, a_ldI 3, a_push (vI 4), i_imul, a_ldI 2, a_push (vI 2), a_ldI 6, i_imul, i_ishr, a_push (vI 3), i_iand, i_iadd, a_aI 39 576, a_stI 7, a_ldI 7, a_push (vI (-1)), a_if2 (fun a b => a = b) 3 [false, false, false, false, true] 4 [true, true, true, false, true, false, true, true]],
  [a_go 7 [false, false, false, false, true]],
  [a_ldR 0, a_gS 10 46, a_ldI 7, a_aI 46 144, a_ldI 2, a_if2 (fun a b => a = b) 6 [true, true, true, false, true, false, true, true] 5 [true, true, true, false, true, false, true, true]],
  [a_ldR 0, a_gS 10 46, a_ldI 7, a_ldI 2, a_sN 46 144, a_ldL 4, a_ldR 0, a_gK 10 8 0, a_gS 8 4, a_ldI 7, a_push (vI (-1)), a_callV 25 3 2 4 4, i_ladd, a_stL 4, a_go 6 [true, true, true, false, true, false, true, true]],
  [a_ldI 7, a_stI 3, a_iinc 6 1, a_go 1 [true, true, true, true, true, false, true]],
  [a_ldL 4, a_retL]]
/-- D_post -/
def B_98 : List (List zA) := [[a_ldI 1, a_if1 (fun a => a < 0) 6 [] 1 [true, true, true, true]],
  [a_ldI 1, a_push (vI 8), a_if2 (fun a b => b ≤ a) 6 [] 2 [true, true, true, true]],
  [a_ldI 2, a_if1 (fun a => a < 0) 6 [] 3 [true, true, true, true]],
  [a_ldI 2, a_push (vI 12), a_if2 (fun a b => b ≤ a) 6 [] 4 [true, true, true, true]],
  [a_ldI 3, a_if1 (fun a => a < 0) 6 [] 5 [true, true, true, true]],
  [a_ldI 3, a_push (vI 12), a_if2 (fun a b => a < b) 7 [true, true, true, true] 6 []],
  [a_push (vI 0), a_retZ 0 1],
  [a_ldR 0, a_gK 10 8 0, a_gS 8 31, a_ldI 1, a_ldI 3, a_push (vI 12), i_imul, a_ldI 2, i_iadd, a_sN 31 8, a_push (vI 1), a_retZ 0 1]]
/-- D_parish -/
def B_99 : List (List zA) := [[a_ldI 1, a_if1 (fun a => a < 0) 4 [] 1 [true, true, true]],
  [a_ldI 1, a_ldR 0, a_gI 10 4, a_if2 (fun a b => b ≤ a) 4 [] 2 [true, true, true]],
  [a_ldI 2, a_if1 (fun a => a < 0) 4 [] 3 [true, true, true]],
  [a_ldI 2, a_push (vI 40), a_if2 (fun a b => a ≤ b) 5 [true, true, true] 4 []],
  [a_push (vI (-1)), a_retI],
  [a_ldR 0, a_gS 10 42, a_ldI 1, a_aR 42 4 9 0, a_stR 3, a_ldR 0, a_gS 10 46, a_push (vI 0), a_call 229 2 0 4, a_push (vI 0), a_stI 4, a_go 6 [true, false, true, true, true]],
  [a_ldI 4, a_push (vI 8), a_if2 (fun a b => b ≤ a) 8 [true, false, false, true] 7 [true, false, true, true, true]],
  [a_ldR 0, a_ldR 3, a_ldI 4, a_ldI 2, a_callV 100 4 0 6 10, a_iinc 4 1, a_go 6 [true, false, true, true, true]],
  [a_push (vI (-2)), a_stI 4, a_push (vI 0), a_stI 5, a_go 9 [true, false, false, true, true, true]],
  [a_ldI 5, a_push (vI 256), a_if2 (fun a b => b ≤ a) 15 [false, false, false, false, true] 10 [true, false, false, true, true, true]],
  [a_ldI 4, a_push (vI (-2)), a_if2 (fun a b => a = b) 12 [true, false, false, true, true, true] 11 [true, false, false, true, true, true]],
  [a_ldI 5, a_call 225 1 1 1, a_ldI 4, a_call 225 1 1 1, a_if2 (fun a b => b ≤ a) 14 [true, false, false, true, true, true] 12 [true, false, false, true, true, true]],
  [a_ldR 0, a_ldR 3, a_ldI 5, a_callV 101 3 1 5 10, a_if1 (fun a => a = 0) 14 [true, false, false, true, true, true] 13 [true, false, false, true, false, true]],
  [a_ldI 5, a_stI 4, a_go 14 [true, false, false, true, true, true]],
  [a_iinc 5 1, a_go 9 [true, false, false, true, true, true]],
  [a_ldI 4, a_retI]]
/-- D_reach -/
def B_100 : List (List zA) := [[a_ldR 0, a_gK 10 8 0, a_gS 8 31, a_ldI 2, a_aI 31 8, a_stI 4, a_ldI 4, a_push (vI (-1)), a_if2 (fun a b => a = b) 2 [] 1 [true, true, true, true, true]],
  [a_ldR 1, a_ldI 4, a_push (vI 12), i_irem, a_ldI 4, a_push (vI 12), i_idiv, a_callV 70 3 1 4 9, a_push (vI (-1)), a_if2 (fun a b => a = b) 2 [] 3 [true, true, true, true, true]],
  [a_retV],
  [a_ldR 1, a_ldI 4, a_ldR 0, a_gS 10 47, a_callV 71 3 0 8 9, a_push (vI 0), a_stI 5, a_go 4 [true, false, true, true, false, true]],
  [a_ldI 5, a_push (vI 144), a_if2 (fun a b => b ≤ a) 9 [] 5 [true, false, true, true, false, true]],
  [a_ldR 0, a_gS 10 47, a_ldI 5, a_aI 47 144, a_push (vI (-1)), a_if2 (fun a b => a = b) 8 [true, false, true, true, false, true] 6 [true, false, true, true, false, true]],
  [a_ldR 0, a_gS 10 47, a_ldI 5, a_aI 47 144, a_ldI 3, a_if2 (fun a b => b < a) 8 [true, false, true, true, false, true] 7 [true, false, true, true, false, true]],
  [a_ldR 0, a_gS 10 46, a_ldI 5, a_dup2, a_aI 46 144, a_push (vI 1), a_ldI 2, i_ishl, i_ior, a_sN 46 144, a_go 8 [true, false, true, true, false, true]],
  [a_iinc 5 1, a_go 4 [true, false, true, true, false, true]],
  [a_retV]]
/-- D_isEnough -/
def B_101 : List (List zA) := [[a_push (vI 0), a_stI 3, a_go 1 [true, true, true, true]],
  [a_ldI 3, a_push (vI 144), a_if2 (fun a b => b ≤ a) 10 [] 2 [true, true, true, true]],
  [a_ldR 1, a_gS 9 33, a_ldI 3, a_aI 33 144, a_push (vI 1), a_if2 (fun a b => a = b) 3 [true, true, true, true] 5 [true, true, true, true]],
  [a_ldR 1, a_ldI 3, a_push (vI 12), i_irem, a_ldI 3, a_push (vI 12), i_idiv, a_callV 70 3 1 4 9, a_push (vI (-1)), a_if2 (fun a b => a = b) 5 [true, true, true, true] 4 [true, true, true, true]],
  [a_push (vI 1), a_go 6 [true, true, true, true]],
  [a_push (vI 0), a_go 6 [true, true, true, true]],
  [a_stI 4, a_ldI 4, a_if1 (fun a => a = 0) 9 [true, true, true, true] 7 [true, true, true, true]],
  [a_ldR 0, a_gS 10 46, a_ldI 3, a_aI 46 144, a_ldI 2, i_iand, a_if1 (fun a => a = 0) 8 [] 9 [true, true, true, true]],
  [a_push (vI 0), a_retZ 0 1],
  [a_iinc 3 1, a_go 1 [true, true, true, true]],
  [a_push (vI 1), a_retZ 0 1]]
/-- D_night -/
def B_102 : List (List zA) := [[a_ldR 0, a_ldI 2, a_ldI 3, a_ldI 4, a_ldI 5, a_ldI 6, a_callV 103 6 1 7 10, a_stI 8, a_ldI 1, a_if1 (fun a => a < 0) 5 [] 1 [true, true, false, false, false, true, true, true, true]],
  [a_ldI 1, a_ldR 0, a_gI 10 6, a_if2 (fun a b => b ≤ a) 5 [] 2 [true, true, false, false, false, true, true, true, true]],
  [a_ldI 8, a_push (vI (-1)), a_if2 (fun a b => a = b) 5 [] 3 [true, true, false, false, false, true, true, true, true]],
  [a_ldI 7, a_if1 (fun a => a < 0) 5 [] 4 [true, true, false, false, false, true, true, true, true]],
  [a_ldI 7, a_push (vI 6), a_if2 (fun a b => a ≤ b) 6 [true, true, false, false, false, true, true, true, true] 5 []],
  [a_push (vI (-1)), a_retI],
  [a_ldR 0, a_gK 10 3 0, a_ldR 0, a_gK 10 7 0, a_ldR 0, a_gS 10 44, a_ldI 1, a_aR 44 6 1 6, a_ldI 8, a_ldI 5, a_ldI 6, a_push (vI 1), a_callV 9 7 0 9 3, a_ldI 7, a_sw 0 [(7, [true]), (8, [true]), (9, [true]), (10, [true]), (11, [true]), (12, [true])] 13 [true]],
  [a_ldR 0, a_gK 10 3 0, a_gI 3 6, a_retI],
  [a_ldR 0, a_gK 10 3 0, a_gI 3 5, a_retI],
  [a_ldR 0, a_gK 10 3 0, a_gI 3 3, a_push (vI 12), i_irem, a_retI],
  [a_ldR 0, a_gK 10 3 0, a_gI 3 3, a_push (vI 12), i_idiv, a_retI],
  [a_ldR 0, a_gK 10 3 0, a_gI 3 4, a_retI],
  [a_ldR 0, a_gK 10 3 0, a_gK 3 4 13, a_gI 4 2, a_retI],
  [a_ldR 0, a_gK 10 3 0, a_gK 3 4 13, a_ldR 0, a_gK 10 7 0, a_gD 7 0 9, a_callV 29 2 1 2 4, a_retI]]
/-- D_startOf -/
def B_103 : List (List zA) := [[a_ldR 0, a_gK 10 8 0, a_gI 8 1, a_if1 (fun a => a = 0) 6 [] 1 [true, true, true, true, true, true]],
  [a_ldI 3, a_if1 (fun a => a < 0) 6 [] 2 [true, true, true, true, true, true]],
  [a_ldI 3, a_push (vI 4), a_if2 (fun a b => b ≤ a) 6 [] 3 [true, true, true, true, true, true]],
  [a_ldI 4, a_if1 (fun a => a < 0) 6 [] 4 [true, true, true, true, false, true]],
  [a_ldI 5, a_push (vI 1), a_if2 (fun a b => a < b) 6 [] 5 [true, true, true, true, false, true]],
  [a_ldI 5, a_push (vI 99), a_if2 (fun a b => a ≤ b) 7 [true, true, true, true] 6 []],
  [a_push (vI (-1)), a_retI],
  [a_ldR 0, a_gK 10 7 0, a_gD 7 0 9, a_ldI 1, a_ldI 2, a_callV 70 3 1 4 9, a_stI 6, a_ldI 6, a_push (vI (-1)), a_if2 (fun a b => a = b) 8 [] 9 [false, false, false, true, false, false, true]],
  [a_push (vI (-1)), a_go 10 []],
  [a_ldI 6, a_push (vI 4), i_imul, a_ldI 3, i_iadd, a_go 10 []],
  [a_retI]]
/-- D_nights -/
def B_104 : List (List zA) := [[a_ldR 0, a_ldI 2, a_ldI 3, a_ldI 4, a_ldI 5, a_ldI 6, a_callV 103 6 1 7 10, a_stI 9, a_ldI 1, a_if1 (fun a => a < 0) 7 [] 1 [true, true, false, false, false, true, true, true, true, true]],
  [a_ldI 1, a_ldR 0, a_gI 10 6, a_if2 (fun a b => b ≤ a) 7 [] 2 [true, true, false, false, false, true, true, true, true, true]],
  [a_ldI 9, a_push (vI (-1)), a_if2 (fun a b => a = b) 7 [] 3 [true, true, false, false, false, true, true, true, true, true]],
  [a_ldI 7, a_push (vI 1), a_if2 (fun a b => a < b) 7 [] 4 [true, true, false, false, false, true, true, true, true, true]],
  [a_ldI 7, a_push (vI 9), a_if2 (fun a b => b < a) 7 [] 5 [true, true, false, false, false, true, true, true, true, true]],
  [a_ldI 8, a_if1 (fun a => a < 0) 7 [] 6 [true, true, false, false, false, true, true, true, true, true]],
  [a_ldI 8, a_push (vI 2), a_if2 (fun a b => a ≤ b) 8 [true, true, false, false, false, true, true, true, true, true] 7 []],
  [a_push (vI (-1)), a_retI],
  [a_ldR 0, a_gK 10 3 0, a_ldR 0, a_gK 10 7 0, a_ldR 0, a_gS 10 44, a_ldI 1, a_aR 44 6 1 6, a_ldI 9, a_ldI 5, a_ldI 6, a_ldI 7, a_callV 9 7 0 9 3, a_ldI 8, a_if1 (fun a => a = 0) 9 [true] 10 [true, false, false, false, false, false, false, false, true]],
  [a_ldR 0, a_gK 10 3 0, a_gI 3 7, a_retI],
  [a_ldI 8, a_push (vI 1), a_if2 (fun a b => a = b) 11 [true] 12 [true]],
  [a_ldR 0, a_gK 10 3 0, a_gI 3 8, a_go 13 []],
  [a_ldR 0, a_gK 10 3 0, a_gI 3 9, a_go 13 []],
  [a_retI]]
/-- D_finest -/
def B_105 : List (List zA) := [[a_ldR 0, a_ldI 1, a_ldI 2, a_ldI 3, a_ldI 4, a_ldI 5, a_callV 103 6 1 7 10, a_stI 7, a_ldI 7, a_push (vI (-1)), a_if2 (fun a b => a = b) 3 [] 1 [true, false, false, false, true, true, true, true]],
  [a_ldI 6, a_push (vI 1), a_if2 (fun a b => a < b) 3 [] 2 [true, false, false, false, true, true, true, true]],
  [a_ldI 6, a_push (vI 9), a_if2 (fun a b => a ≤ b) 4 [true, false, false, false, true, true, true, true] 3 []],
  [a_push (vI (-1)), a_retI],
  [a_push (vI (-2)), a_stI 8, a_push (vI 0), a_stI 9, a_push (vI 0), a_stI 10, a_push (vI 0), a_stI 11, a_go 5 [true, false, false, false, true, true, true, true, true, true, true, true]],
  [a_ldI 11, a_ldR 0, a_gI 10 6, a_if2 (fun a b => b ≤ a) 12 [false, false, false, false, false, false, false, false, true] 6 [true, false, false, false, true, true, true, true, true, true, true, true]],
  [a_ldR 0, a_gK 10 3 0, a_ldR 0, a_gK 10 7 0, a_ldR 0, a_gS 10 44, a_ldI 11, a_aR 44 6 1 6, a_ldI 7, a_ldI 4, a_ldI 5, a_ldI 6, a_callV 9 7 0 9 3, a_ldI 8, a_push (vI (-2)), a_if2 (fun a b => a = b) 10 [true, false, false, false, true, true, true, true, false, false, false, true] 7 [true, false, false, false, true, true, true, true, true, true, true, true]],
  [a_ldR 0, a_gK 10 3 0, a_gI 3 7, a_ldI 9, a_if2 (fun a b => b < a) 10 [true, false, false, false, true, true, true, true, false, false, false, true] 8 [true, false, false, false, true, true, true, true, true, true, true, true]],
  [a_ldR 0, a_gK 10 3 0, a_gI 3 7, a_ldI 9, a_if2 (fun a b => a = b) 9 [true, false, false, false, true, true, true, true, true, true, true, true] 11 [true, false, false, false, true, true, true, true, true, true, true, true]],
  [a_ldR 0, a_gK 10 3 0, a_gI 3 8, a_ldI 10, a_if2 (fun a b => b ≤ a) 11 [true, false, false, false, true, true, true, true, true, true, true, true] 10 [true, false, false, false, true, true, true, true, false, false, false, true]],
  [a_ldI 11, a_stI 8, a_ldR 0, a_gK 10 3 0, a_gI 3 7, a_stI 9, a_ldR 0, a_gK 10 3 0, a_gI 3 8, a_stI 10, a_go 11 [true, false, false, false, true, true, true, true, true, true, true, true]],
  [a_iinc 11 1, a_go 5 [true, false, false, false, true, true, true, true, true, true, true, true]],
  [a_ldI 8, a_retI]]
/-- D_count -/
def B_106 : List (List zA) := [[a_ldI 1, a_sw 0 [(1, [true]), (2, [true]), (3, [true]), (4, [true]), (8, [true]), (12, [true]), (16, [true]), (20, [true])] 21 []],
  [a_ldR 0, a_gI 10 4, a_retI],
  [a_ldR 0, a_gI 10 5, a_retI],
  [a_ldR 0, a_gI 10 6, a_retI],
  [a_ldR 0, a_gK 10 8 0, a_gI 8 1, a_if1 (fun a => a = 0) 6 [] 5 [true]],
  [a_ldR 0, a_gK 10 8 0, a_gI 8 6, a_go 7 []],
  [a_push (vI (-1)), a_go 7 []],
  [a_retI],
  [a_ldR 0, a_gK 10 8 0, a_gI 8 1, a_if1 (fun a => a = 0) 10 [] 9 [true]],
  [a_ldR 0, a_gK 10 8 0, a_gS 8 4, a_gI 4 1, a_go 11 []],
  [a_push (vI (-1)), a_go 11 []],
  [a_retI],
  [a_ldR 0, a_gK 10 8 0, a_gI 8 1, a_if1 (fun a => a = 0) 14 [] 13 [true]],
  [a_ldR 0, a_gK 10 8 0, a_gS 8 4, a_gI 4 2, a_go 15 []],
  [a_push (vI (-1)), a_go 15 []],
  [a_retI],
  [a_ldR 0, a_gK 10 8 0, a_gI 8 1, a_if1 (fun a => a = 0) 18 [] 17 [true]],
  [a_ldR 0, a_gK 10 8 0, a_gS 8 4, a_gI 4 3, a_go 19 []],
  [a_push (vI (-1)), a_go 19 []],
  [a_retI],
  [a_ldR 0, a_gK 10 5 0, a_gI 5 1, a_retI],
  [a_push (vI (-1)), a_retI]]
/-- D_image -/
def B_107 : List (List zA) := [[a_ldI 1, a_if1 (fun a => a < 0) 2 [] 1 [true, true]],
  [a_ldI 1, a_push (vI 4), a_if2 (fun a b => a < b) 3 [true, true] 2 []],
  [a_push (vI (-1)), a_retI],
  [a_ldR 0, a_gS 10 45, a_ldI 1, a_aR 45 4 8 1, a_ldR 0, a_gK 10 8 0, a_callV 65 2 0 2 8, a_ldR 0, a_gS 10 45, a_ldI 1, a_aR 45 4 8 1, a_push (vI 1), a_pZ 8 0, a_ldR 0, a_gK 10 8 0, a_gI 8 6, a_retI]]
/-- D_back -/
def B_108 : List (List zA) := [[a_ldI 1, a_if1 (fun a => a < 0) 3 [] 1 [true, true]],
  [a_ldI 1, a_push (vI 4), a_if2 (fun a b => b ≤ a) 3 [] 2 [true, true]],
  [a_ldR 0, a_gS 10 45, a_ldI 1, a_aR 45 4 8 1, a_gI 8 0, a_if1 (fun a => a = 0) 3 [] 4 [true, true]],
  [a_push (vI (-1)), a_retI],
  [a_ldR 0, a_gK 10 8 0, a_ldR 0, a_gS 10 45, a_ldI 1, a_aR 45 4 8 1, a_callV 65 2 0 2 8, a_ldR 0, a_gK 10 8 0, a_gI 8 1, a_if1 (fun a => a = 0) 6 [true] 5 [true]],
  [a_ldR 0, a_gK 10 7 0, a_ldR 0, a_gS 10 42, a_ldR 0, a_gK 10 8 0, a_gI 8 2, a_aR 42 4 9 0, a_ldR 0, a_gS 10 43, a_ldR 0, a_gK 10 8 0, a_gI 8 3, a_aR 43 6 2 0, a_callV 57 3 0 4 7, a_go 6 [true]],
  [a_ldR 0, a_gK 10 8 0, a_gI 8 6, a_retI]]
/-- M_in -/
def B_109 : List (List zA) := [[a_ldL 0, a_ldL 2, a_ifL (fun a b => a < b) 3 [] 1 [true, false, false, false, true]],
  [a_ldL 0, a_ldL 4, a_ifL (fun a b => b < a) 3 [] 2 []],
  [a_push (vI 1), a_go 4 []],
  [a_push (vI 0), a_go 4 []],
  [a_retZ 0 1]]
/-- M_bounded -/
def B_110 : List (List zA) := [[a_ldL 0, a_ldL 2, a_ifL (fun a b => b ≤ a) 2 [true, false, false, false, true] 1 [false, false, true]],
  [a_ldL 2, a_go 5 []],
  [a_ldL 0, a_ldL 4, a_ifL (fun a b => a ≤ b) 4 [true] 3 [false, false, false, false, true]],
  [a_ldL 4, a_go 5 []],
  [a_ldL 0, a_go 5 []],
  [a_retL]]
/-- M_size -/
def B_111 : List (List zA) := [[a_ldI 0, a_if1 (fun a => 0 ≤ a) 2 [true] 1 [true]],
  [a_ldI 0, i_ineg, a_go 3 []],
  [a_ldI 0, a_go 3 []],
  [a_retI]]
/-- M_four -/
def B_112 : List (List zA) := [[a_push (vI 24), a_stI 2, a_go 1 [true, true, true]],
  [a_ldI 2, a_if1 (fun a => a < 0) 3 [] 2 [true, true, true]],
  [a_ldR 0, a_gS 11 48, a_ldR 0, a_gI 11 1, a_ldI 1, a_ldI 2, i_ishr, i_i2b, a_sI 48 400 (-128) 127, a_ldR 0, a_dup, a_gI 11 1, a_push (vI 1), i_iadd, a_pI 11 1, a_iinc 2 (-8), a_go 1 [true, true, true]],
  [a_retV]]
/-- M_feed -/
def B_113 : List (List zA) := [[a_ldR 0, a_gI 11 1, a_push (vI 20), i_iadd, a_push (vI 400), a_if2 (fun a b => a ≤ b) 2 [true, true, true, true, true, true] 1 []],
  [a_push (vI (-1)), a_retI],
  [a_ldR 0, a_ldI 1, a_callV 112 2 0 3 11, a_ldR 0, a_ldI 2, a_callV 112 2 0 3 11, a_ldR 0, a_ldI 3, a_callV 112 2 0 3 11, a_ldR 0, a_ldI 4, a_callV 112 2 0 3 11, a_ldR 0, a_ldI 5, a_callV 112 2 0 3 11, a_ldR 0, a_gI 11 1, a_retI]]
/-- M_end -/
def B_114 : List (List zA) := [[a_ldI 1, a_if1 (fun a => a < 0) 2 [] 1 [true, true]],
  [a_ldI 1, a_ldR 0, a_gI 11 1, a_if2 (fun a b => a ≤ b) 3 [true, true] 2 []],
  [a_push (vI (-1)), a_retI],
  [a_ldR 0, a_ldI 1, a_pI 11 1, a_ldI 1, a_retI]]
/-- M_fails -/
def B_115 : List (List zA) := [[a_ldR 0, a_gI 11 19, a_if1 (fun a => a = 0) 1 [true, true, true] 2 []],
  [a_ldR 0, a_push (vI 1), a_push (vI 8), a_ldI 2, i_imul, i_iadd, a_ldI 1, i_iadd, a_pI 11 19, a_go 2 []],
  [a_push (vI 0), a_retZ 0 1]]
/-- M_see -/
def B_116 : List (List zA) := [[a_go 1 [true]],
  [a_ldR 0, a_gI 11 18, a_ldR 0, a_gI 11 1, a_if2 (fun a b => b ≤ a) 4 [true] 2 [true]],
  [a_ldR 0, a_gS 11 48, a_ldR 0, a_gI 11 18, a_aI 48 400, a_push (vI 32), a_if2 (fun a b => a = b) 3 [true] 4 [true]],
  [a_ldR 0, a_dup, a_gI 11 18, a_push (vI 1), i_iadd, a_pI 11 18, a_go 1 [true]],
  [a_ldR 0, a_gI 11 18, a_ldR 0, a_gI 11 1, a_if2 (fun a b => b ≤ a) 6 [] 5 [true]],
  [a_ldR 0, a_gS 11 48, a_ldR 0, a_gI 11 18, a_aI 48 400, a_push (vI 255), i_iand, a_go 7 []],
  [a_push (vI (-1)), a_go 7 []],
  [a_retI]]
/-- M_isDigit -/
def B_117 : List (List zA) := [[a_ldI 1, a_ldR 0, a_gI 11 1, a_if2 (fun a b => b ≤ a) 4 [] 1 [true, true]],
  [a_ldR 0, a_gS 11 48, a_ldI 1, a_aI 48 400, a_push (vI 48), a_if2 (fun a b => a < b) 4 [] 2 [true, true]],
  [a_ldR 0, a_gS 11 48, a_ldI 1, a_aI 48 400, a_push (vI 57), a_if2 (fun a b => b < a) 4 [] 3 []],
  [a_push (vI 1), a_go 5 []],
  [a_push (vI 0), a_go 5 []],
  [a_retZ 0 1]]
/-- M_isLetter -/
def B_118 : List (List zA) := [[a_ldI 1, a_ldR 0, a_gI 11 1, a_if2 (fun a b => b ≤ a) 4 [] 1 [true, true]],
  [a_ldR 0, a_gS 11 48, a_ldI 1, a_aI 48 400, a_push (vI 97), a_if2 (fun a b => a < b) 4 [] 2 [true, true]],
  [a_ldR 0, a_gS 11 48, a_ldI 1, a_aI 48 400, a_push (vI 122), a_if2 (fun a b => b < a) 4 [] 3 []],
  [a_push (vI 1), a_go 5 []],
  [a_push (vI 0), a_go 5 []],
  [a_retZ 0 1]]
/-- M_isWord -/
def B_119 : List (List zA) := [[a_ldR 0, a_callV 116 1 1 1 11, a_pop, a_push (vL 0), a_stL 3, a_push (vI 0), a_stI 5, a_go 1 [true, true, false, true, false, true]],
  [a_ldR 0, a_ldR 0, a_gI 11 18, a_ldI 5, i_iadd, a_callV 118 2 1 2 11, a_if1 (fun a => a = 0) 5 [false, true, false, true, false, true] 2 [true, true, false, true, false, true]],
  [a_ldI 5, a_push (vI 8), a_if2 (fun a b => b ≤ a) 4 [true, true, false, true, false, true] 3 [true, true, false, true, false, true]],
  [a_ldL 3, a_push (vI 8), a_lshl, a_ldR 0, a_gS 11 48, a_ldR 0, a_gI 11 18, a_ldI 5, i_iadd, a_aI 48 400, a_i2l, i_lor, a_stL 3, a_go 4 [true, true, false, true, false, true]],
  [a_iinc 5 1, a_go 1 [true, true, false, true, false, true]],
  [a_ldI 5, a_if1 (fun a => a ≤ 0) 9 [] 6 [false, true, false, true, false, true]],
  [a_ldI 5, a_push (vI 8), a_if2 (fun a b => b ≤ a) 9 [] 7 [false, true, false, true]],
  [a_ldL 3, a_ldL 1, a_ifL (fun a b => a = b) 8 [] 9 []],
  [a_push (vI 1), a_go 10 []],
  [a_push (vI 0), a_go 10 []],
  [a_retZ 0 1]]
/-- M_passWord -/
def B_120 : List (List zA) := [[a_go 1 [true]],
  [a_ldR 0, a_ldR 0, a_gI 11 18, a_callV 118 2 1 2 11, a_if1 (fun a => a = 0) 3 [] 2 [true]],
  [a_ldR 0, a_dup, a_gI 11 18, a_push (vI 1), i_iadd, a_pI 11 18, a_go 1 [true]],
  [a_retV]]
/-- M_takesWord -/
def B_121 : List (List zA) := [[a_ldR 0, a_ldL 1, a_callV 119 2 1 6 11, a_if1 (fun a => a = 0) 1 [] 2 [true]],
  [a_push (vI 0), a_retZ 0 1],
  [a_ldR 0, a_callV 120 1 0 1 11, a_push (vI 1), a_retZ 0 1]]
/-- M_numberHere -/
def B_122 : List (List zA) := [[a_ldR 0, a_callV 116 1 1 1 11, a_pop, a_ldR 0, a_ldR 0, a_gI 11 18, a_callV 117 2 1 2 11, a_if1 (fun a => a = 0) 1 [true] 2 [true, true, true]],
  [a_ldR 0, a_push (vI 0), a_ldR 0, a_gI 11 18, a_callV 115 3 1 3 11, a_retZ 0 1],
  [a_ldR 0, a_gI 11 18, a_stI 3, a_push (vI 0), a_stI 4, a_go 3 [true, true, true, true, true]],
  [a_ldR 0, a_ldR 0, a_gI 11 18, a_callV 117 2 1 2 11, a_if1 (fun a => a = 0) 7 [true, true, true, true, true] 4 [true, true, true, true, true]],
  [a_ldR 0, a_gI 11 18, a_ldI 3, i_isub, a_push (vI 5), a_if2 (fun a b => b ≤ a) 6 [true, true, true, true, true] 5 [true, true, true, true, true]],
  [a_push (vI 10), a_ldI 4, i_imul, a_ldR 0, a_gS 11 48, a_ldR 0, a_gI 11 18, a_aI 48 400, i_iadd, a_push (vI 48), i_isub, a_stI 4, a_go 6 [true, true, true, true, true]],
  [a_ldR 0, a_dup, a_gI 11 18, a_push (vI 1), i_iadd, a_pI 11 18, a_go 3 [true, true, true, true, true]],
  [a_ldR 0, a_ldI 4, a_pI 11 20, a_ldR 0, a_gI 11 18, a_ldI 3, i_isub, a_push (vI 5), a_if2 (fun a b => b < a) 9 [true, false, false, true] 8 [true, true, true, true, true]],
  [a_ldI 4, a_i2l, a_ldI 1, a_i2l, a_ldI 2, a_i2l, a_call 109 3 1 6, a_if1 (fun a => a = 0) 9 [true, false, false, true] 10 []],
  [a_ldR 0, a_push (vI 1), a_ldI 3, a_callV 115 3 1 3 11, a_if1 (fun a => a = 0) 11 [] 10 []],
  [a_push (vI 1), a_go 12 []],
  [a_push (vI 0), a_go 12 []],
  [a_retZ 0 1]]
/-- M_wordHere -/
def B_123 : List (List zA) := [[a_ldR 0, a_gI 11 21, a_push (vI 6), a_if2 (fun a b => b ≤ a) 13 [true] 1 [true]],
  [a_ldR 0, a_push (vL 1885434984), a_callV 119 2 1 6 11, a_if1 (fun a => a = 0) 3 [true] 2 []],
  [a_push (vI 0), a_go 12 []],
  [a_ldR 0, a_push (vL 113741193899620), a_callV 119 2 1 6 11, a_if1 (fun a => a = 0) 5 [true] 4 []],
  [a_push (vI 1), a_go 12 []],
  [a_ldR 0, a_push (vL 7564153), a_callV 119 2 1 6 11, a_if1 (fun a => a = 0) 7 [true] 6 []],
  [a_push (vI 2), a_go 12 []],
  [a_ldR 0, a_push (vL 1751216749), a_callV 119 2 1 6 11, a_if1 (fun a => a = 0) 9 [true] 8 []],
  [a_push (vI 3), a_go 12 []],
  [a_ldR 0, a_push (vL 1702454643), a_callV 119 2 1 6 11, a_if1 (fun a => a = 0) 11 [] 10 []],
  [a_push (vI 4), a_go 12 []],
  [a_push (vI (-1)), a_go 12 []],
  [a_retI],
  [a_ldR 0, a_push (vL 28526), a_callV 119 2 1 6 11, a_if1 (fun a => a = 0) 15 [true] 14 []],
  [a_push (vI 0), a_retI],
  [a_ldR 0, a_push (vL 24948), a_callV 119 2 1 6 11, a_if1 (fun a => a = 0) 17 [true] 16 []],
  [a_push (vI 1), a_retI],
  [a_ldR 0, a_push (vL 1937076837), a_callV 119 2 1 6 11, a_if1 (fun a => a = 0) 19 [true] 18 []],
  [a_push (vI 2), a_retI],
  [a_ldR 0, a_push (vL 113741193899620), a_callV 119 2 1 6 11, a_if1 (fun a => a = 0) 21 [true] 20 []],
  [a_push (vI 3), a_retI],
  [a_ldR 0, a_push (vL 7564153), a_callV 119 2 1 6 11, a_if1 (fun a => a = 0) 23 [true] 22 []],
  [a_push (vI 4), a_retI],
  [a_ldR 0, a_push (vL 1819243876), a_callV 119 2 1 6 11, a_if1 (fun a => a = 0) 25 [true] 24 []],
  [a_push (vI 5), a_retI],
  [a_ldR 0, a_push (vL 495874044019), a_callV 119 2 1 6 11, a_if1 (fun a => a = 0) 27 [true] 26 []],
  [a_push (vI 6), a_retI],
  [a_ldR 0, a_push (vL 30787924973348211), a_callV 119 2 1 6 11, a_if1 (fun a => a = 0) 29 [true] 28 []],
  [a_push (vI 7), a_retI],
  [a_ldR 0, a_push (vL 1702454643), a_callV 119 2 1 6 11, a_if1 (fun a => a = 0) 31 [true] 30 []],
  [a_push (vI 8), a_go 34 []],
  [a_ldR 0, a_push (vL 1885434984), a_callV 119 2 1 6 11, a_if1 (fun a => a = 0) 33 [] 32 []],
  [a_push (vI 9), a_go 34 []],
  [a_push (vI (-1)), a_go 34 []],
  [a_retI]]
/-- M_puts -/
def B_124 : List (List zA) := [[a_ldR 0, a_gS 11 50, a_push (vI 400), a_ldR 0, a_gI 11 21, i_imul, a_ldR 0, a_gS 11 51, a_ldR 0, a_gI 11 21, a_aI 51 16, i_iadd, a_ldI 1, a_push (vI 16), a_ldI 2, i_imul, i_iadd, a_sN 50 4800, a_ldR 0, a_gS 11 51, a_ldR 0, a_gI 11 21, a_dup2, a_aI 51 16, a_push (vI 1), i_iadd, a_sN 51 16, a_retV]]
/-- M_makes -/
def B_125 : List (List zA) := [[a_ldR 0, a_gI 11 22, a_push (vI 60), a_if2 (fun a b => a = b) 1 [true, true] 2 [true]],
  [a_ldR 0, a_push (vI 3), a_ldI 1, a_callV 115 3 1 3 11, a_retZ 0 1],
  [a_ldR 0, a_dup, a_gI 11 22, a_push (vI 1), i_iadd, a_pI 11 22, a_push (vI 1), a_retZ 0 1]]
/-- M_opens -/
def B_126 : List (List zA) := [[a_ldR 0, a_gI 11 23, a_push (vI 10), a_if2 (fun a b => a = b) 1 [true] 2 [true, true]],
  [a_ldR 0, a_push (vI 2), a_ldR 0, a_gI 11 18, a_callV 115 3 1 3 11, a_retZ 0 1],
  [a_ldR 0, a_dup, a_gI 11 23, a_push (vI 1), i_iadd, a_pI 11 23, a_ldR 0, a_gS 11 65, a_ldR 0, a_gI 11 26, a_ldI 1, a_sN 65 400, a_ldR 0, a_dup, a_gI 11 26, a_push (vI 1), i_iadd, a_pI 11 26, a_push (vI 1), a_retZ 0 1]]
/-- M_strength -/
def B_127 : List (List zA) := [[a_ldI 0, a_push (vI 13), a_if2 (fun a b => a = b) 1 [] 2 [true]],
  [a_push (vI 1), a_go 7 []],
  [a_ldI 0, a_push (vI 12), a_if2 (fun a b => a = b) 3 [] 4 [true]],
  [a_push (vI 2), a_go 7 []],
  [a_ldI 0, a_push (vI 11), a_if2 (fun a b => a = b) 5 [] 6 []],
  [a_push (vI 3), a_go 7 []],
  [a_push (vI 0), a_go 7 []],
  [a_retI]]
/-- M_settles -/
def B_128 : List (List zA) := [[a_go 1 [true, true]],
  [a_ldR 0, a_gI 11 26, a_if1 (fun a => a ≤ 0) 5 [] 2 [true, true]],
  [a_ldR 0, a_gS 11 65, a_ldR 0, a_gI 11 26, a_push (vI 1), i_isub, a_aI 65 400, a_call 127 1 1 1, a_ldI 1, a_if2 (fun a b => a < b) 5 [] 3 [true, true]],
  [a_ldR 0, a_dup, a_gI 11 26, a_push (vI 1), i_isub, a_pI 11 26, a_ldR 0, a_ldR 0, a_gS 11 65, a_ldR 0, a_gI 11 26, a_aI 65 400, a_push (vI 0), a_callV 124 3 0 3 11, a_ldR 0, a_gS 11 65, a_ldR 0, a_gI 11 26, a_aI 65 400, a_push (vI 11), a_if2 (fun a b => a = b) 4 [true, true] 1 [true, true]],
  [a_ldR 0, a_dup, a_gI 11 23, a_push (vI 1), i_isub, a_pI 11 23, a_go 1 [true, true]],
  [a_retV]]
/-- M_value -/
def B_129 : List (List zA) := [[a_ldR 0, a_callV 116 1 1 1 11, a_pop, a_ldR 0, a_gI 11 18, a_stI 1, a_ldR 0, a_ldR 0, a_gI 11 18, a_callV 117 2 1 2 11, a_if1 (fun a => a = 0) 5 [true, true] 1 [true, true]],
  [a_ldR 0, a_push (vI 0), a_push (vI 99999), a_callV 122 3 1 5 11, a_if1 (fun a => a = 0) 3 [] 2 [true, true]],
  [a_ldR 0, a_ldI 1, a_callV 125 2 1 2 11, a_if1 (fun a => a = 0) 3 [] 4 [true]],
  [a_push (vI 0), a_retZ 0 1],
  [a_ldR 0, a_push (vI 0), a_ldR 0, a_gI 11 20, a_callV 124 3 0 3 11, a_push (vI 1), a_retZ 0 1],
  [a_ldR 0, a_callV 123 1 1 1 11, a_stI 2, a_ldI 2, a_if1 (fun a => 0 ≤ a) 7 [true, true, true] 6 [true, true]],
  [a_ldR 0, a_push (vI 0), a_ldI 1, a_callV 115 3 1 3 11, a_retZ 0 1],
  [a_ldR 0, a_ldI 1, a_callV 125 2 1 2 11, a_if1 (fun a => a = 0) 8 [] 9 [true, false, true]],
  [a_push (vI 0), a_retZ 0 1],
  [a_ldR 0, a_callV 120 1 0 1 11, a_ldR 0, a_push (vI 1), a_ldI 2, a_callV 124 3 0 3 11, a_push (vI 1), a_retZ 0 1]]
/-- M_term -/
def B_130 : List (List zA) := [[a_ldR 0, a_callV 129 1 1 3 11, a_if1 (fun a => a = 0) 1 [] 2 [true]],
  [a_push (vI 0), a_retZ 0 1],
  [a_ldR 0, a_callV 116 1 1 1 11, a_push (vI 42), a_if2 (fun a b => a = b) 4 [true] 3 [true]],
  [a_ldR 0, a_callV 116 1 1 1 11, a_push (vI 47), a_if2 (fun a b => a = b) 4 [true] 10 []],
  [a_ldR 0, a_gS 11 48, a_ldR 0, a_gI 11 18, a_aI 48 400, a_push (vI 42), a_if2 (fun a b => a = b) 5 [true] 6 [true]],
  [a_push (vI 4), a_go 7 [true]],
  [a_push (vI 5), a_go 7 [true]],
  [a_stI 1, a_ldR 0, a_dup, a_gI 11 18, a_push (vI 1), i_iadd, a_pI 11 18, a_ldR 0, a_callV 129 1 1 3 11, a_if1 (fun a => a = 0) 8 [] 9 [true, true]],
  [a_push (vI 0), a_retZ 0 1],
  [a_ldR 0, a_ldI 1, a_push (vI 0), a_callV 124 3 0 3 11, a_go 2 [true]],
  [a_push (vI 1), a_retZ 0 1]]
/-- M_sum -/
def B_131 : List (List zA) := [[a_ldR 0, a_callV 130 1 1 2 11, a_if1 (fun a => a = 0) 1 [] 2 [true]],
  [a_push (vI 0), a_retZ 0 1],
  [a_ldR 0, a_callV 116 1 1 1 11, a_push (vI 43), a_if2 (fun a b => a = b) 4 [true] 3 [true]],
  [a_ldR 0, a_callV 116 1 1 1 11, a_push (vI 45), a_if2 (fun a b => a = b) 4 [true] 10 []],
  [a_ldR 0, a_gS 11 48, a_ldR 0, a_gI 11 18, a_aI 48 400, a_push (vI 43), a_if2 (fun a b => a = b) 5 [true] 6 [true]],
  [a_push (vI 2), a_go 7 [true]],
  [a_push (vI 3), a_go 7 [true]],
  [a_stI 1, a_ldR 0, a_dup, a_gI 11 18, a_push (vI 1), i_iadd, a_pI 11 18, a_ldR 0, a_callV 130 1 1 2 11, a_if1 (fun a => a = 0) 8 [] 9 [true, true]],
  [a_push (vI 0), a_retZ 0 1],
  [a_ldR 0, a_ldI 1, a_push (vI 0), a_callV 124 3 0 3 11, a_go 2 [true]],
  [a_push (vI 1), a_retZ 0 1]]
/-- M_compare -/
def B_132 : List (List zA) := [[a_ldR 0, a_callV 131 1 1 2 11, a_if1 (fun a => a = 0) 1 [] 2 [true]],
  [a_push (vI 0), a_retZ 0 1],
  [a_ldR 0, a_callV 116 1 1 1 11, a_stI 1, a_ldR 0, a_gI 11 18, a_stI 2, a_ldI 1, a_push (vI 60), a_if2 (fun a b => a = b) 6 [true, true, true] 3 [true, true, true]],
  [a_ldI 1, a_push (vI 61), a_if2 (fun a b => a = b) 6 [true, true, true] 4 [true, true, true]],
  [a_ldI 1, a_push (vI 62), a_if2 (fun a b => a = b) 6 [true, true, true] 5 [true, false, true]],
  [a_ldR 0, a_push (vI 0), a_ldI 2, a_callV 115 3 1 3 11, a_retZ 0 1],
  [a_ldR 0, a_dup, a_gI 11 18, a_push (vI 1), i_iadd, a_pI 11 18, a_ldI 1, a_push (vI 61), a_if2 (fun a b => a = b) 10 [true, true, true] 7 [true, true, true]],
  [a_ldR 0, a_gI 11 18, a_ldR 0, a_gI 11 1, a_if2 (fun a b => b ≤ a) 10 [true, true, true] 8 [true, true, true]],
  [a_ldR 0, a_gS 11 48, a_ldR 0, a_gI 11 18, a_aI 48 400, a_push (vI 61), a_if2 (fun a b => a = b) 9 [true, true, true] 10 [true, true, true]],
  [a_push (vI 1), a_go 11 [true, true, true]],
  [a_push (vI 0), a_go 11 [true, true, true]],
  [a_stI 3, a_ldI 3, a_if1 (fun a => a = 0) 13 [true, true, true, true] 12 [true, true, true, true]],
  [a_ldR 0, a_dup, a_gI 11 18, a_push (vI 1), i_iadd, a_pI 11 18, a_go 13 [true, true, true, true]],
  [a_ldR 0, a_ldI 2, a_callV 125 2 1 2 11, a_if1 (fun a => a = 0) 14 [] 15 [true, true, false, true]],
  [a_push (vI 0), a_retZ 0 1],
  [a_ldI 1, a_push (vI 60), a_if2 (fun a b => a = b) 16 [true, false, false, true] 19 [true, true, false, true]],
  [a_ldI 3, a_if1 (fun a => a = 0) 18 [true] 17 [true]],
  [a_push (vI 1), a_go 24 [true]],
  [a_push (vI 0), a_go 24 [true]],
  [a_ldI 1, a_push (vI 61), a_if2 (fun a b => a = b) 20 [true] 21 [true, false, false, true]],
  [a_push (vI 2), a_go 24 [true]],
  [a_ldI 3, a_if1 (fun a => a = 0) 23 [true] 22 [true]],
  [a_push (vI 3), a_go 24 [true]],
  [a_push (vI 4), a_go 24 [true]],
  [a_stI 4, a_ldR 0, a_callV 131 1 1 2 11, a_if1 (fun a => a = 0) 25 [] 26 [true, false, false, false, true]],
  [a_push (vI 0), a_retZ 0 1],
  [a_ldR 0, a_push (vI 6), a_ldI 4, i_iadd, a_push (vI 0), a_callV 124 3 0 3 11, a_push (vI 1), a_retZ 0 1]]
/-- M_fact -/
def B_133 : List (List zA) := [[a_push (vI 1), a_stI 1, a_go 1 [true, true]],
  [a_ldI 1, a_if1 (fun a => a = 0) 11 [true] 2 [true]],
  [a_push (vI 0), a_stI 1, a_ldR 0, a_callV 116 1 1 1 11, a_stI 2, a_ldR 0, a_push (vL 7237492), a_callV 119 2 1 6 11, a_if1 (fun a => a = 0) 6 [true, true, true] 3 [true]],
  [a_ldR 0, a_push (vI 11), a_callV 126 2 1 2 11, a_if1 (fun a => a = 0) 4 [] 5 [true]],
  [a_push (vI 0), a_retZ 0 1],
  [a_ldR 0, a_callV 120 1 0 1 11, a_push (vI 1), a_stI 1, a_go 10 [true, true]],
  [a_ldI 2, a_push (vI 91), a_if2 (fun a b => a = b) 7 [true] 10 [true, true]],
  [a_ldR 0, a_push (vI 91), a_callV 126 2 1 2 11, a_if1 (fun a => a = 0) 8 [] 9 [true]],
  [a_push (vI 0), a_retZ 0 1],
  [a_ldR 0, a_dup, a_gI 11 18, a_push (vI 1), i_iadd, a_pI 11 18, a_push (vI 1), a_stI 1, a_go 10 [true, true]],
  [a_go 1 [true, true]],
  [a_ldR 0, a_callV 132 1 1 5 11, a_retZ 0 1]]
/-- M_isInside -/
def B_134 : List (List zA) := [[a_push (vI 0), a_stI 1, a_go 1 [true, true]],
  [a_ldI 1, a_ldR 0, a_gI 11 26, a_if2 (fun a b => b ≤ a) 5 [] 2 [true, true]],
  [a_ldR 0, a_gS 11 65, a_ldI 1, a_aI 65 400, a_push (vI 91), a_if2 (fun a b => a = b) 3 [] 4 [true, true]],
  [a_push (vI 1), a_retZ 0 1],
  [a_iinc 1 1, a_go 1 [true, true]],
  [a_push (vI 0), a_retZ 0 1]]
/-- M_closes -/
def B_135 : List (List zA) := [[a_ldR 0, a_push (vI 3), a_callV 128 2 0 2 11, a_go 1 [true]],
  [a_ldR 0, a_callV 116 1 1 1 11, a_push (vI 93), a_if2 (fun a b => a = b) 2 [true] 4 []],
  [a_ldR 0, a_callV 134 1 1 2 11, a_if1 (fun a => a = 0) 4 [] 3 [true]],
  [a_ldR 0, a_push (vI 1), a_callV 128 2 0 2 11, a_ldR 0, a_dup, a_gI 11 26, a_push (vI 1), i_isub, a_pI 11 26, a_ldR 0, a_dup, a_gI 11 23, a_push (vI 1), i_isub, a_pI 11 23, a_ldR 0, a_dup, a_gI 11 18, a_push (vI 1), i_iadd, a_pI 11 18, a_ldR 0, a_push (vI 3), a_callV 128 2 0 2 11, a_go 1 [true]],
  [a_retV]]
/-- M_tested -/
def B_136 : List (List zA) := [[a_ldR 0, a_push (vI 0), a_pI 11 26, a_ldR 0, a_push (vI 0), a_pI 11 23, a_push (vI 1), a_stI 1, a_go 1 [true, true]],
  [a_ldI 1, a_if1 (fun a => a = 0) 13 [true] 2 [true]],
  [a_ldR 0, a_callV 133 1 1 3 11, a_if1 (fun a => a = 0) 3 [] 4 [true]],
  [a_push (vI 0), a_retZ 0 1],
  [a_ldR 0, a_callV 135 1 0 1 11, a_ldR 0, a_push (vL 6385252), a_callV 119 2 1 6 11, a_if1 (fun a => a = 0) 5 [true] 6 [true]],
  [a_ldR 0, a_push (vL 28530), a_callV 119 2 1 6 11, a_if1 (fun a => a = 0) 7 [true] 6 [true]],
  [a_push (vI 1), a_go 8 [true]],
  [a_push (vI 0), a_go 8 [true]],
  [a_stI 1, a_ldI 1, a_if1 (fun a => a = 0) 1 [true, true] 9 [true, true]],
  [a_ldR 0, a_push (vL 6385252), a_callV 119 2 1 6 11, a_if1 (fun a => a = 0) 11 [true, true] 10 [true, true]],
  [a_push (vI 12), a_go 12 [true, true]],
  [a_push (vI 13), a_go 12 [true, true]],
  [a_stI 2, a_ldR 0, a_callV 120 1 0 1 11, a_ldR 0, a_ldI 2, a_call 127 1 1 1, a_callV 128 2 0 2 11, a_ldR 0, a_gS 11 65, a_ldR 0, a_gI 11 26, a_ldI 2, a_sN 65 400, a_ldR 0, a_dup, a_gI 11 26, a_push (vI 1), i_iadd, a_pI 11 26, a_go 1 [true, true]],
  [a_ldR 0, a_callV 134 1 1 2 11, a_if1 (fun a => a = 0) 15 [true] 14 [true]],
  [a_ldR 0, a_callV 116 1 1 1 11, a_pop, a_ldR 0, a_push (vI 0), a_ldR 0, a_gI 11 18, a_callV 115 3 1 3 11, a_retZ 0 1],
  [a_ldR 0, a_push (vI 1), a_callV 128 2 0 2 11, a_push (vI 1), a_retZ 0 1]]
/-- M_clauseOf -/
def B_137 : List (List zA) := [[a_ldR 0, a_callV 120 1 0 1 11, a_push (vI 60), a_ldR 0, a_gI 11 21, i_imul, a_push (vI 5), a_ldR 0, a_gS 11 53, a_ldR 0, a_gI 11 21, a_aI 53 16, i_imul, i_iadd, a_stI 3, a_ldR 0, a_gS 11 52, a_ldI 3, a_ldI 1, a_sN 52 720, a_ldR 0, a_gS 11 52, a_ldI 3, a_push (vI 1), i_iadd, a_ldR 0, a_gS 11 51, a_ldR 0, a_gI 11 21, a_aI 51 16, a_sN 52 720, a_ldI 2, a_if1 (fun a => a = 0) 3 [true, false, false, true] 1 [true, false, false, true]],
  [a_ldR 0, a_callV 131 1 1 2 11, a_if1 (fun a => a = 0) 2 [] 3 [true, false, false, true]],
  [a_push (vI 0), a_retZ 0 1],
  [a_ldR 0, a_gS 11 52, a_ldI 3, a_push (vI 2), i_iadd, a_ldR 0, a_gS 11 51, a_ldR 0, a_gI 11 21, a_aI 51 16, a_sN 52 720, a_ldR 0, a_gS 11 52, a_ldI 3, a_push (vI 3), i_iadd, a_push (vI (-1)), a_sN 52 720, a_ldR 0, a_push (vL 26982), a_callV 121 2 1 3 11, a_if1 (fun a => a = 0) 6 [true, false, false, true] 4 [true, false, false, true]],
  [a_ldR 0, a_gS 11 52, a_ldI 3, a_push (vI 3), i_iadd, a_ldR 0, a_gS 11 51, a_ldR 0, a_gI 11 21, a_aI 51 16, a_sN 52 720, a_ldR 0, a_callV 136 1 1 3 11, a_if1 (fun a => a = 0) 5 [] 6 [true, false, false, true]],
  [a_push (vI 0), a_retZ 0 1],
  [a_ldR 0, a_gS 11 52, a_ldI 3, a_push (vI 4), i_iadd, a_ldR 0, a_gS 11 51, a_ldR 0, a_gI 11 21, a_aI 51 16, a_sN 52 720, a_ldR 0, a_gS 11 53, a_ldR 0, a_gI 11 21, a_dup2, a_aI 53 16, a_push (vI 1), i_iadd, a_sN 53 16, a_push (vI 1), a_retZ 0 1]]
/-- M_sets -/
def B_138 : List (List zA) := [[a_ldR 1, a_ldR 0, a_gI 11 21, a_aIX, a_if1 (fun a => a < 0) 2 [true, true, true] 1 [true, false, false, true]],
  [a_ldR 0, a_push (vI 4), a_ldI 3, a_callV 115 3 1 3 11, a_retZ 0 1],
  [a_ldR 0, a_callV 120 1 0 1 11, a_ldR 0, a_push (vI 0), a_ldI 2, a_callV 122 3 1 5 11, a_if1 (fun a => a = 0) 3 [] 4 [true, true]],
  [a_push (vI 0), a_retZ 0 1],
  [a_ldR 1, a_ldR 0, a_gI 11 21, a_ldR 0, a_gI 11 20, a_sNX, a_push (vI 1), a_retZ 0 1]]
/-- M_setsTwo -/
def B_139 : List (List zA) := [[a_ldR 1, a_ldR 0, a_gI 11 21, a_aIX, a_if1 (fun a => a < 0) 2 [true, true, true, true, true] 1 [true, false, false, false, false, true]],
  [a_ldR 0, a_push (vI 4), a_ldI 5, a_callV 115 3 1 3 11, a_retZ 0 1],
  [a_ldR 0, a_callV 120 1 0 1 11, a_ldR 0, a_ldI 3, a_ldI 4, a_callV 122 3 1 5 11, a_if1 (fun a => a = 0) 3 [] 4 [true, true, true, true, true]],
  [a_push (vI 0), a_retZ 0 1],
  [a_ldR 1, a_ldR 0, a_gI 11 21, a_ldR 0, a_gI 11 20, a_sNX, a_ldR 0, a_ldI 3, a_ldI 4, a_callV 122 3 1 5 11, a_if1 (fun a => a = 0) 5 [] 6 [true, false, true]],
  [a_push (vI 0), a_retZ 0 1],
  [a_ldR 2, a_ldR 0, a_gI 11 21, a_ldR 0, a_gI 11 20, a_sNX, a_push (vI 1), a_retZ 0 1]]
/-- M_area -/
def B_140 : List (List zA) := [[a_ldR 0, a_callV 120 1 0 1 11, a_push (vI 1), a_stI 3, a_ldI 2, a_if1 (fun a => a ≤ 0) 4 [true, true, false, true] 1 [true, true, true]],
  [a_ldR 0, a_push (vI 0), a_ldI 2, a_callV 122 3 1 5 11, a_if1 (fun a => a = 0) 2 [] 3 [true, true]],
  [a_push (vI 0), a_retZ 0 1],
  [a_ldR 0, a_gI 11 20, a_stI 3, a_go 4 [true, true, false, true]],
  [a_ldR 0, a_push (vI 0), a_push (vI 11), a_callV 122 3 1 5 11, a_if1 (fun a => a = 0) 5 [] 6 [true, true, false, true]],
  [a_push (vI 0), a_retZ 0 1],
  [a_ldR 0, a_gI 11 20, a_stI 4, a_ldR 0, a_push (vI 0), a_push (vI 11), a_callV 122 3 1 5 11, a_if1 (fun a => a = 0) 7 [] 8 [true, true, false, true, true]],
  [a_push (vI 0), a_retZ 0 1],
  [a_ldR 0, a_gI 11 20, a_stI 5, a_ldR 0, a_ldI 4, a_push (vI 11), a_callV 122 3 1 5 11, a_if1 (fun a => a = 0) 9 [] 10 [true, true, false, true, true, true]],
  [a_push (vI 0), a_retZ 0 1],
  [a_ldR 0, a_gI 11 20, a_stI 6, a_ldR 0, a_ldI 5, a_push (vI 11), a_callV 122 3 1 5 11, a_if1 (fun a => a = 0) 11 [] 12 [true, true, false, true, true, true, true]],
  [a_push (vI 0), a_retZ 0 1],
  [a_ldI 5, a_stI 7, a_go 13 [true, true, false, true, true, false, true, true]],
  [a_ldI 7, a_ldR 0, a_gI 11 20, a_if2 (fun a b => b < a) 18 [] 14 [true, true, false, true, true, false, true, true]],
  [a_ldI 4, a_stI 8, a_go 15 [true, true, false, true, true, false, true, true, true]],
  [a_ldI 8, a_ldI 6, a_if2 (fun a b => b < a) 17 [true, true, false, true, true, false, true, true] 16 [true, true, false, true, true, false, true, true, true]],
  [a_ldR 0, a_gS 11 64, a_ldR 0, a_gI 11 21, a_push (vI 12), i_isub, a_ldI 1, a_call 141 2 1 2, a_push (vI 12), a_ldI 7, i_imul, i_iadd, a_ldI 8, i_iadd, a_ldI 3, a_sN 64 3456, a_iinc 8 1, a_go 15 [true, true, false, true, true, false, true, true, true]],
  [a_iinc 7 1, a_go 13 [true, true, false, true, true, false, true, true]],
  [a_push (vI 1), a_retZ 0 1]]
/-- M_laidAt -/
def B_141 : List (List zA) := [[a_push (vI 144), a_push (vI 6), a_ldI 0, i_imul, a_ldI 1, i_iadd, i_imul, a_retI]]
/-- M_sounds -/
def B_142 : List (List zA) := [[a_ldR 0, a_gI 11 21, a_push (vI 12), i_isub, a_stI 2, a_ldR 0, a_gS 11 62, a_ldI 2, a_aI 62 4, a_push (vI 4), a_if2 (fun a b => a = b) 1 [true, true] 2 [true, false, true]],
  [a_ldR 0, a_push (vI 4), a_ldI 1, a_callV 115 3 1 3 11, a_retZ 0 1],
  [a_ldR 0, a_callV 120 1 0 1 11, a_push (vI 12), a_ldI 2, i_imul, a_push (vI 3), a_ldR 0, a_gS 11 62, a_ldI 2, a_aI 62 4, i_imul, i_iadd, a_stI 3, a_ldR 0, a_push (vI 1), a_push (vI 40), a_callV 122 3 1 5 11, a_if1 (fun a => a = 0) 3 [] 4 [true, false, true, true]],
  [a_push (vI 0), a_retZ 0 1],
  [a_ldR 0, a_gS 11 63, a_ldI 3, a_ldR 0, a_gI 11 20, a_sN 63 48, a_ldR 0, a_push (vI 0), a_push (vI 11), a_callV 122 3 1 5 11, a_if1 (fun a => a = 0) 5 [] 6 [true, false, true, true]],
  [a_push (vI 0), a_retZ 0 1],
  [a_ldR 0, a_gS 11 63, a_ldI 3, a_push (vI 1), i_iadd, a_ldR 0, a_gI 11 20, a_sN 63 48, a_ldR 0, a_push (vI 0), a_push (vI 11), a_callV 122 3 1 5 11, a_if1 (fun a => a = 0) 7 [] 8 [true, false, true, true]],
  [a_push (vI 0), a_retZ 0 1],
  [a_ldR 0, a_gS 11 63, a_ldI 3, a_push (vI 2), i_iadd, a_ldR 0, a_gI 11 20, a_sN 63 48, a_ldR 0, a_gS 11 62, a_ldI 2, a_dup2, a_aI 62 4, a_push (vI 1), i_iadd, a_sN 62 4, a_push (vI 1), a_retZ 0 1]]
/-- M_woodClause -/
def B_143 : List (List zA) := [[a_ldR 0, a_push (vL 2003395685), a_callV 119 2 1 6 11, a_if1 (fun a => a = 0) 2 [true, true] 1 [true, true]],
  [a_ldR 0, a_ldR 0, a_gS 11 58, a_ldR 0, a_gS 11 59, a_push (vI 2), a_push (vI 12), a_ldI 1, a_callV 139 6 1 6 11, a_retZ 0 1],
  [a_ldR 0, a_push (vL 1752132965), a_callV 119 2 1 6 11, a_if1 (fun a => a = 0) 4 [true, true] 3 [true, true]],
  [a_ldR 0, a_ldR 0, a_gS 11 60, a_ldR 0, a_gS 11 61, a_push (vI 0), a_push (vI 11), a_ldI 1, a_callV 139 6 1 6 11, a_retZ 0 1],
  [a_ldR 0, a_push (vL 126922548994917), a_callV 119 2 1 6 11, a_if1 (fun a => a = 0) 6 [true] 5 [true, true]],
  [a_ldR 0, a_ldI 1, a_callV 142 2 1 4 11, a_retZ 0 1],
  [a_ldR 0, a_push (vL 1885434984), a_callV 119 2 1 6 11, a_if1 (fun a => a = 0) 8 [true] 7 [true]],
  [a_ldR 0, a_push (vI 0), a_push (vI 0), a_callV 140 3 1 9 11, a_retZ 0 1],
  [a_ldR 0, a_push (vL 2002873452), a_callV 119 2 1 6 11, a_if1 (fun a => a = 0) 10 [true] 9 [true]],
  [a_ldR 0, a_push (vI 1), a_push (vI 0), a_callV 140 3 1 9 11, a_retZ 0 1],
  [a_ldR 0, a_push (vL 113741193899620), a_callV 119 2 1 6 11, a_if1 (fun a => a = 0) 12 [true] 11 [true]],
  [a_ldR 0, a_push (vI 2), a_push (vI 7), a_callV 140 3 1 9 11, a_go 15 []],
  [a_ldR 0, a_push (vL 7564153), a_callV 119 2 1 6 11, a_if1 (fun a => a = 0) 14 [true] 13 [true]],
  [a_ldR 0, a_push (vI 3), a_push (vI 9), a_callV 140 3 1 9 11, a_go 15 []],
  [a_ldR 0, a_push (vI 4), a_push (vI 1000), a_callV 140 3 1 9 11, a_go 15 []],
  [a_retZ 0 1]]
/-- M_lawClause -/
def B_144 : List (List zA) := [[a_ldR 0, a_push (vL 1937007984), a_callV 119 2 1 6 11, a_if1 (fun a => a = 0) 2 [true, true] 1 [true]],
  [a_ldR 0, a_push (vI 0), a_push (vI 1), a_callV 137 3 1 4 11, a_retZ 0 1],
  [a_ldR 0, a_push (vL 431416239732), a_callV 119 2 1 6 11, a_if1 (fun a => a = 0) 4 [true, true] 3 [true, true]],
  [a_ldR 0, a_ldR 0, a_gS 11 54, a_push (vI 500), a_ldI 1, a_callV 138 4 1 4 11, a_go 9 []],
  [a_ldR 0, a_push (vL 1717921132), a_callV 119 2 1 6 11, a_if1 (fun a => a = 0) 6 [true, true] 5 [true, true]],
  [a_ldR 0, a_ldR 0, a_gS 11 55, a_push (vI 1000), a_ldI 1, a_callV 138 4 1 4 11, a_go 9 []],
  [a_ldR 0, a_push (vL 7562597), a_callV 119 2 1 6 11, a_if1 (fun a => a = 0) 8 [true, true] 7 [true, true]],
  [a_ldR 0, a_ldR 0, a_gS 11 56, a_push (vI 1000), a_ldI 1, a_callV 138 4 1 4 11, a_go 9 []],
  [a_ldR 0, a_ldR 0, a_gS 11 57, a_push (vI 1000), a_ldI 1, a_callV 138 4 1 4 11, a_go 9 []],
  [a_retZ 0 1]]
/-- M_actHere -/
def B_145 : List (List zA) := [[a_ldR 0, a_push (vL 26479), a_callV 119 2 1 6 11, a_if1 (fun a => a = 0) 2 [true] 1 []],
  [a_push (vI 0), a_go 13 []],
  [a_ldR 0, a_push (vL 1818584692), a_callV 119 2 1 6 11, a_if1 (fun a => a = 0) 4 [true] 3 []],
  [a_push (vI 1), a_go 13 []],
  [a_ldR 0, a_push (vL 491394656372), a_callV 119 2 1 6 11, a_if1 (fun a => a = 0) 6 [true] 5 []],
  [a_push (vI 2), a_go 13 []],
  [a_ldR 0, a_push (vL 1650549611), a_callV 119 2 1 6 11, a_if1 (fun a => a = 0) 8 [true] 7 []],
  [a_push (vI 3), a_go 13 []],
  [a_ldR 0, a_push (vL 7563636), a_callV 119 2 1 6 11, a_if1 (fun a => a = 0) 10 [true] 9 []],
  [a_push (vI 4), a_go 13 []],
  [a_ldR 0, a_push (vL 126943972911973), a_callV 119 2 1 6 11, a_if1 (fun a => a = 0) 12 [] 11 []],
  [a_push (vI 5), a_go 13 []],
  [a_push (vI (-1)), a_go 13 []],
  [a_retI]]
/-- M_clauseHere -/
def B_146 : List (List zA) := [[a_ldR 0, a_callV 116 1 1 1 11, a_pop, a_ldR 0, a_gI 11 18, a_stI 1, a_ldR 0, a_push (vL 1937007984), a_callV 119 2 1 6 11, a_if1 (fun a => a = 0) 1 [true, true] 5 [true, true]],
  [a_ldR 0, a_push (vL 431416239732), a_callV 119 2 1 6 11, a_if1 (fun a => a = 0) 2 [true, true] 5 [true, true]],
  [a_ldR 0, a_push (vL 1717921132), a_callV 119 2 1 6 11, a_if1 (fun a => a = 0) 3 [true, true] 5 [true, true]],
  [a_ldR 0, a_push (vL 7562597), a_callV 119 2 1 6 11, a_if1 (fun a => a = 0) 4 [true, true] 5 [true, true]],
  [a_ldR 0, a_push (vL 1751474546), a_callV 119 2 1 6 11, a_if1 (fun a => a = 0) 6 [true, true] 5 [true, true]],
  [a_push (vI 1), a_go 7 [true, true]],
  [a_push (vI 0), a_go 7 [true, true]],
  [a_stI 2, a_ldR 0, a_push (vL 2003395685), a_callV 119 2 1 6 11, a_if1 (fun a => a = 0) 8 [true, true, true] 15 [true, true, true]],
  [a_ldR 0, a_push (vL 1885434984), a_callV 119 2 1 6 11, a_if1 (fun a => a = 0) 9 [true, true, true] 15 [true, true, true]],
  [a_ldR 0, a_push (vL 2002873452), a_callV 119 2 1 6 11, a_if1 (fun a => a = 0) 10 [true, true, true] 15 [true, true, true]],
  [a_ldR 0, a_push (vL 113741193899620), a_callV 119 2 1 6 11, a_if1 (fun a => a = 0) 11 [true, true, true] 15 [true, true, true]],
  [a_ldR 0, a_push (vL 7564153), a_callV 119 2 1 6 11, a_if1 (fun a => a = 0) 12 [true, true, true] 15 [true, true, true]],
  [a_ldR 0, a_push (vL 1751216749), a_callV 119 2 1 6 11, a_if1 (fun a => a = 0) 13 [true, true, true] 15 [true, true, true]],
  [a_ldR 0, a_push (vL 126922548994917), a_callV 119 2 1 6 11, a_if1 (fun a => a = 0) 14 [true, true, true] 15 [true, true, true]],
  [a_ldR 0, a_push (vL 1752132965), a_callV 119 2 1 6 11, a_if1 (fun a => a = 0) 16 [true, true, true] 15 [true, true, true]],
  [a_push (vI 1), a_go 17 [true, true, true]],
  [a_push (vI 0), a_go 17 [true, true, true]],
  [a_stI 3, a_ldR 0, a_gI 11 21, a_push (vI 6), a_if2 (fun a b => b ≤ a) 19 [true, true, false, true] 18 [true, true, true]],
  [a_ldI 2, a_go 24 [true, true]],
  [a_ldR 0, a_gI 11 21, a_push (vI 12), a_if2 (fun a b => b ≤ a) 23 [true, true, false, true] 20 [true, true]],
  [a_ldR 0, a_callV 145 1 1 1 11, a_if1 (fun a => a < 0) 22 [true, true] 21 [true, true]],
  [a_push (vI 1), a_go 24 [true, true]],
  [a_push (vI 0), a_go 24 [true, true]],
  [a_ldI 3, a_go 24 [true, true]],
  [a_stI 4, a_ldI 4, a_if1 (fun a => a = 0) 25 [true, true] 26 [true, true]],
  [a_ldR 0, a_push (vI 0), a_ldI 1, a_callV 115 3 1 3 11, a_retZ 0 1],
  [a_ldR 0, a_gI 11 24, a_ldR 0, a_gI 11 21, a_push (vI 12), a_if2 (fun a b => b ≤ a) 28 [true, true] 27 [true, true]],
  [a_push (vI 12), a_go 29 [true, true]],
  [a_push (vI 24), a_go 29 [true, true]],
  [a_if2 (fun a b => a = b) 30 [true, true] 31 [true, true]],
  [a_ldR 0, a_push (vI 4), a_ldI 1, a_callV 115 3 1 3 11, a_retZ 0 1],
  [a_ldR 0, a_dup, a_gI 11 24, a_push (vI 1), i_iadd, a_pI 11 24, a_ldR 0, a_gI 11 21, a_push (vI 6), a_if2 (fun a b => b ≤ a) 33 [true, true] 32 [true, true]],
  [a_ldR 0, a_ldI 1, a_callV 144 2 1 2 11, a_go 36 []],
  [a_ldR 0, a_gI 11 21, a_push (vI 12), a_if2 (fun a b => b ≤ a) 35 [true, true] 34 [true]],
  [a_ldR 0, a_ldR 0, a_callV 145 1 1 1 11, a_push (vI 0), a_callV 137 3 1 4 11, a_go 36 []],
  [a_ldR 0, a_ldI 1, a_callV 143 2 1 2 11, a_go 36 []],
  [a_retZ 0 1]]
/-- M_firstOf -/
def B_147 : List (List zA) := [[a_ldI 0, a_if1 (fun a => a = 0) 1 [] 2 [true]],
  [a_push (vI 12), a_go 5 []],
  [a_ldI 0, a_push (vI 1), a_if2 (fun a b => a = b) 3 [] 4 []],
  [a_push (vI 0), a_go 5 []],
  [a_push (vI 6), a_go 5 []],
  [a_retI]]
/-- M_text -/
def B_148 : List (List zA) := [[a_ldI 1, a_i2l, a_push (vL 0), a_push (vL 2), a_call 109 3 1 6, a_if1 (fun a => a = 0) 5 [] 1 [true, true]],
  [a_ldR 0, a_gS 11 49, a_ldI 1, a_aI 49 3, a_ldI 1, a_if1 (fun a => a = 0) 2 [true, true] 3 [true, true]],
  [a_push (vI 4), a_go 4 [true, true]],
  [a_push (vI 6), a_go 4 [true, true]],
  [a_if2 (fun a b => a = b) 5 [] 6 [true, true]],
  [a_push (vI (-1)), a_retI],
  [a_ldR 0, a_ldI 1, a_call 147 1 1 1, a_ldR 0, a_gS 11 49, a_ldI 1, a_aI 49 3, i_iadd, a_pI 11 21, a_ldR 0, a_gS 11 51, a_ldR 0, a_gI 11 21, a_push (vI 0), a_sN 51 16, a_ldR 0, a_gS 11 53, a_ldR 0, a_gI 11 21, a_push (vI 0), a_sN 53 16, a_ldR 0, a_gS 11 54, a_ldR 0, a_gI 11 21, a_push (vI (-1)), a_sN 54 16, a_ldR 0, a_gS 11 55, a_ldR 0, a_gI 11 21, a_push (vI (-1)), a_sN 55 16, a_ldR 0, a_gS 11 56, a_ldR 0, a_gI 11 21, a_push (vI (-1)), a_sN 56 16, a_ldR 0, a_gS 11 57, a_ldR 0, a_gI 11 21, a_push (vI (-1)), a_sN 57 16, a_ldR 0, a_gS 11 58, a_ldR 0, a_gI 11 21, a_push (vI (-1)), a_sN 58 16, a_ldR 0, a_gS 11 60, a_ldR 0, a_gI 11 21, a_push (vI (-1)), a_sN 60 16, a_ldI 1, a_if1 (fun a => a = 0) 7 [true, true] 10 [true, true]],
  [a_ldR 0, a_gS 11 62, a_ldR 0, a_gS 11 49, a_push (vI 0), a_aI 49 3, a_push (vI 0), a_sN 62 4, a_push (vI 0), a_stI 2, a_go 8 [true, true, true]],
  [a_ldI 2, a_push (vI 864), a_if2 (fun a b => b ≤ a) 10 [true, true] 9 [true, true, true]],
  [a_ldR 0, a_gS 11 64, a_ldR 0, a_gS 11 49, a_push (vI 0), a_aI 49 3, a_push (vI 0), a_call 141 2 1 2, a_ldI 2, i_iadd, a_push (vI 0), a_sN 64 3456, a_iinc 2 1, a_go 8 [true, true, true]],
  [a_ldR 0, a_push (vI 0), a_pI 11 24, a_ldR 0, a_push (vI 0), a_pI 11 18, a_ldR 0, a_push (vI 0), a_pI 11 19, a_ldR 0, a_push (vI 0), a_pI 11 22, a_ldR 0, a_callV 146 1 1 5 11, a_stI 2, a_go 11 [true, true, true]],
  [a_ldI 2, a_if1 (fun a => a = 0) 14 [true, true, true] 12 [true, true, true]],
  [a_ldR 0, a_callV 116 1 1 1 11, a_push (vI 59), a_if2 (fun a b => a = b) 13 [true, true] 14 [true, true, true]],
  [a_ldR 0, a_dup, a_gI 11 18, a_push (vI 1), i_iadd, a_pI 11 18, a_ldR 0, a_callV 146 1 1 5 11, a_stI 2, a_go 11 [true, true, true]],
  [a_ldI 2, a_if1 (fun a => a = 0) 17 [true, true] 15 [true, true]],
  [a_ldR 0, a_callV 116 1 1 1 11, a_push (vI (-1)), a_if2 (fun a b => a = b) 17 [true, true] 16 [true, true]],
  [a_ldR 0, a_push (vI 0), a_ldR 0, a_gI 11 18, a_callV 115 3 1 3 11, a_pop, a_go 17 [true, true]],
  [a_ldR 0, a_push (vI 0), a_pI 11 1, a_ldR 0, a_gI 11 19, a_if1 (fun a => a ≤ 0) 19 [true, true] 18 [true]],
  [a_push (vI (-2)), a_ldR 0, a_gI 11 19, i_isub, a_retI],
  [a_ldI 1, a_if1 (fun a => a = 0) 20 [true, true] 21 [true, true]],
  [a_ldR 0, a_ldR 0, a_gS 11 49, a_push (vI 0), a_aI 49 3, a_callV 149 2 0 3 11, a_go 21 [true, true]],
  [a_ldR 0, a_gS 11 54, a_ldR 0, a_gI 11 21, a_aI 54 16, a_if1 (fun a => 0 ≤ a) 23 [true, true] 22 [true, true]],
  [a_ldR 0, a_gS 11 54, a_ldR 0, a_gI 11 21, a_push (vI 20), a_sN 54 16, a_go 23 [true, true]],
  [a_ldR 0, a_gS 11 55, a_ldR 0, a_gI 11 21, a_aI 55 16, a_if1 (fun a => 0 ≤ a) 25 [true, true] 24 [true, true]],
  [a_ldR 0, a_gS 11 55, a_ldR 0, a_gI 11 21, a_push (vI 800), a_sN 55 16, a_go 25 [true, true]],
  [a_ldR 0, a_gS 11 56, a_ldR 0, a_gI 11 21, a_aI 56 16, a_if1 (fun a => 0 ≤ a) 27 [true, true] 26 [true, true]],
  [a_ldR 0, a_gS 11 56, a_ldR 0, a_gI 11 21, a_push (vI 800), a_sN 56 16, a_go 27 [true, true]],
  [a_ldR 0, a_gS 11 57, a_ldR 0, a_gI 11 21, a_aI 57 16, a_if1 (fun a => 0 ≤ a) 29 [true, true] 28 [true, true]],
  [a_ldR 0, a_gS 11 57, a_ldR 0, a_gI 11 21, a_push (vI 800), a_sN 57 16, a_go 29 [true, true]],
  [a_ldR 0, a_gS 11 49, a_ldI 1, a_dup2, a_aI 49 3, a_push (vI 1), i_iadd, a_sN 49 3, a_ldR 0, a_gS 11 49, a_ldI 1, a_aI 49 3, a_push (vI 1), i_isub, a_retI]]
/-- M_lays -/
def B_149 : List (List zA) := [[a_ldR 0, a_gS 11 58, a_ldR 0, a_gI 11 21, a_aI 58 16, a_if1 (fun a => 0 ≤ a) 2 [true, true] 1 [true, true]],
  [a_ldR 0, a_gS 11 58, a_ldR 0, a_gI 11 21, a_push (vI 12), a_sN 58 16, a_ldR 0, a_gS 11 59, a_ldR 0, a_gI 11 21, a_push (vI 12), a_sN 59 16, a_go 2 [true, true]],
  [a_ldR 0, a_gS 11 60, a_ldR 0, a_gI 11 21, a_aI 60 16, a_if1 (fun a => 0 ≤ a) 4 [true, true] 3 [true, true]],
  [a_ldR 0, a_gS 11 60, a_ldR 0, a_gI 11 21, a_push (vI 0), a_sN 60 16, a_ldR 0, a_gS 11 61, a_ldR 0, a_gI 11 21, a_push (vI 0), a_sN 61 16, a_go 4 [true, true]],
  [a_ldR 0, a_gS 11 60, a_ldR 0, a_gI 11 21, a_aI 60 16, a_ldR 0, a_gS 11 58, a_ldR 0, a_gI 11 21, a_aI 58 16, a_if2 (fun a b => a < b) 6 [true, true] 5 [true, true]],
  [a_ldR 0, a_gS 11 60, a_ldR 0, a_gI 11 21, a_ldR 0, a_gS 11 58, a_ldR 0, a_gI 11 21, a_aI 58 16, a_push (vI 1), i_isub, a_sN 60 16, a_go 6 [true, true]],
  [a_ldR 0, a_gS 11 61, a_ldR 0, a_gI 11 21, a_aI 61 16, a_ldR 0, a_gS 11 59, a_ldR 0, a_gI 11 21, a_aI 59 16, a_if2 (fun a b => a < b) 8 [true, true] 7 [true, true]],
  [a_ldR 0, a_gS 11 61, a_ldR 0, a_gI 11 21, a_ldR 0, a_gS 11 59, a_ldR 0, a_gI 11 21, a_aI 59 16, a_push (vI 1), i_isub, a_sN 61 16, a_go 8 [true, true]],
  [a_ldR 0, a_gS 11 64, a_ldI 1, a_push (vI 1), a_call 141 2 1 2, a_ldR 0, a_ldI 1, a_callV 150 2 1 2 11, i_iadd, a_push (vI 0), a_sN 64 3456, a_ldR 0, a_ldI 1, a_ldR 0, a_ldI 1, a_callV 150 2 1 2 11, a_callV 154 3 0 7 11, a_push (vI 0), a_stI 2, a_go 9 [true, true, true]],
  [a_ldI 2, a_push (vI 144), a_if2 (fun a b => b ≤ a) 11 [] 10 [true, true, true]],
  [a_ldR 0, a_gS 11 64, a_ldI 1, a_push (vI 5), a_call 141 2 1 2, a_ldI 2, i_iadd, a_ldR 0, a_gS 11 67, a_ldI 2, a_aI 67 144, a_sN 64 3456, a_iinc 2 1, a_go 9 [true, true, true]],
  [a_retV]]
/-- M_homeOf -/
def B_150 : List (List zA) := [[a_push (vI 12), a_ldR 0, a_gS 11 61, a_push (vI 12), a_ldI 1, i_iadd, a_aI 61 16, i_imul, a_ldR 0, a_gS 11 60, a_push (vI 12), a_ldI 1, i_iadd, a_aI 60 16, i_iadd, a_retI]]
/-- M_isInWood -/
def B_151 : List (List zA) := [[a_ldI 2, a_i2l, a_push (vL 0), a_ldR 0, a_gS 11 58, a_push (vI 12), a_ldI 1, i_iadd, a_aI 58 16, a_push (vI 1), i_isub, a_i2l, a_call 109 3 1 6, a_if1 (fun a => a = 0) 3 [] 1 [true, true, false, true]],
  [a_ldI 3, a_i2l, a_push (vL 0), a_ldR 0, a_gS 11 59, a_push (vI 12), a_ldI 1, i_iadd, a_aI 59 16, a_push (vI 1), i_isub, a_i2l, a_call 109 3 1 6, a_if1 (fun a => a = 0) 3 [] 2 []],
  [a_push (vI 1), a_go 4 []],
  [a_push (vI 0), a_go 4 []],
  [a_retZ 0 1]]
/-- M_at -/
def B_152 : List (List zA) := [[a_ldR 0, a_gS 11 64, a_ldI 1, a_ldI 2, a_call 141 2 1 2, a_ldI 3, i_iadd, a_aI 64 3456, a_retI]]
/-- M_beside -/
def B_153 : List (List zA) := [[a_ldI 2, a_push (vI 12), i_irem, a_ldI 3, a_push (vI 1), a_if2 (fun a b => a = b) 1 [true, true, true, true] 2 [true, true, true, true]],
  [a_push (vI 1), a_go 5 [true, true, true, true]],
  [a_ldI 3, a_push (vI 3), a_if2 (fun a b => a = b) 3 [true, true, true, true] 4 [true, true, true, true]],
  [a_push (vI (-1)), a_go 5 [true, true, true, true]],
  [a_push (vI 0), a_go 5 [true, true, true, true]],
  [i_iadd, a_stI 4, a_ldI 2, a_push (vI 12), i_idiv, a_ldI 3, a_push (vI 2), a_if2 (fun a b => a = b) 6 [true, true, false, false, true] 7 [true, true, false, true, true]],
  [a_push (vI 1), a_go 10 [true, true, false, false, true]],
  [a_ldI 3, a_if1 (fun a => a = 0) 8 [true, true, false, false, true] 9 [true, true, false, false, true]],
  [a_push (vI (-1)), a_go 10 [true, true, false, false, true]],
  [a_push (vI 0), a_go 10 [true, true, false, false, true]],
  [i_iadd, a_stI 5, a_ldR 0, a_ldI 1, a_ldI 4, a_ldI 5, a_callV 151 4 1 4 11, a_if1 (fun a => a = 0) 12 [] 11 [true, true, false, false, true, true]],
  [a_ldR 0, a_ldI 1, a_push (vI 1), a_push (vI 12), a_ldI 5, i_imul, a_ldI 4, i_iadd, a_callV 152 4 1 4 11, a_push (vI 1), a_if2 (fun a b => a = b) 12 [] 13 [false, false, false, false, true, true]],
  [a_push (vI (-1)), a_go 14 []],
  [a_push (vI 12), a_ldI 5, i_imul, a_ldI 4, i_iadd, a_go 14 []],
  [a_retI]]
/-- M_spreads -/
def B_154 : List (List zA) := [[a_push (vI 0), a_stI 3, a_go 1 [true, true, true, true]],
  [a_ldI 3, a_push (vI 144), a_if2 (fun a b => b ≤ a) 3 [true, true, true] 2 [true, true, true, true]],
  [a_ldR 0, a_gS 11 67, a_ldI 3, a_push (vI (-1)), a_sN 67 144, a_iinc 3 1, a_go 1 [true, true, true, true]],
  [a_ldR 0, a_gS 11 67, a_ldI 2, a_push (vI 0), a_sN 67 144, a_ldR 0, a_gS 11 66, a_push (vI 0), a_ldI 2, a_sN 66 144, a_push (vI 1), a_stI 3, a_push (vI 0), a_stI 4, a_go 4 [true, true, false, true, true]],
  [a_ldI 4, a_ldI 3, a_if2 (fun a b => b ≤ a) 13 [] 5 [true, true, false, true, true]],
  [a_push (vI 0), a_stI 5, a_go 6 [true, true, false, true, true, true]],
  [a_ldI 5, a_push (vI 4), a_if2 (fun a b => b ≤ a) 12 [true, true, false, true, true] 7 [true, true, false, true, true, true]],
  [a_ldR 0, a_ldI 1, a_ldR 0, a_gS 11 66, a_ldI 4, a_aI 66 144, a_ldI 5, a_callV 153 4 1 6 11, a_stI 6, a_ldI 6, a_if1 (fun a => a < 0) 11 [true, true, false, true, true, true] 8 [true, true, false, true, true, true, true]],
  [a_ldR 0, a_gS 11 67, a_ldI 6, a_aI 67 144, a_if1 (fun a => a < 0) 10 [true, true, false, true, true, true, true] 9 [true, true, false, true, true, true]],
  [a_go 11 [true, true, false, true, true, true]],
  [a_ldR 0, a_gS 11 67, a_ldI 6, a_ldR 0, a_gS 11 67, a_ldR 0, a_gS 11 66, a_ldI 4, a_aI 66 144, a_aI 67 144, a_push (vI 1), i_iadd, a_sN 67 144, a_ldR 0, a_gS 11 66, a_ldI 3, a_ldI 6, a_sN 66 144, a_iinc 3 1, a_go 11 [true, true, false, true, true, true]],
  [a_iinc 5 1, a_go 6 [true, true, false, true, true, true]],
  [a_iinc 4 1, a_go 4 [true, true, false, true, true]],
  [a_retV]]
/-- M_isText -/
def B_155 : List (List zA) := [[a_ldI 2, a_if1 (fun a => a < 0) 3 [] 1 [true, true, true]],
  [a_ldI 2, a_ldR 0, a_gS 11 49, a_ldI 1, a_aI 49 3, a_if2 (fun a b => b ≤ a) 3 [] 2 []],
  [a_push (vI 1), a_go 4 []],
  [a_push (vI 0), a_go 4 []],
  [a_retZ 0 1]]
/-- M_loudAt -/
def B_156 : List (List zA) := [[a_push (vI 12), a_ldI 1, i_imul, a_push (vI 3), a_ldI 2, i_imul, i_iadd, a_stI 4, a_ldR 0, a_gS 11 63, a_ldI 4, a_aI 63 48, a_ldI 3, a_push (vI 12), i_irem, a_ldR 0, a_gS 11 63, a_ldI 4, a_push (vI 1), i_iadd, a_aI 63 48, i_isub, a_call 111 1 1 1, i_isub, a_ldI 3, a_push (vI 12), i_idiv, a_ldR 0, a_gS 11 63, a_ldI 4, a_push (vI 2), i_iadd, a_aI 63 48, i_isub, a_call 111 1 1 1, i_isub, a_stI 5, a_ldI 5, a_if1 (fun a => 0 ≤ a) 2 [false, false, false, false, false, true] 1 []],
  [a_push (vI 0), a_go 3 []],
  [a_ldI 5, a_go 3 []],
  [a_retI]]
/-- M_cell -/
def B_157 : List (List zA) := [[a_ldR 0, a_push (vI 0), a_ldI 1, a_callV 155 3 1 3 11, a_if1 (fun a => a = 0) 3 [] 1 [true, true, true, true, true]],
  [a_ldR 0, a_ldI 1, a_ldI 2, a_ldI 3, a_callV 151 4 1 4 11, a_if1 (fun a => a = 0) 3 [] 2 [true, true, true, true, true]],
  [a_ldI 4, a_i2l, a_push (vL 0), a_push (vL 9), a_call 109 3 1 6, a_if1 (fun a => a = 0) 3 [] 4 [true, true, true, true, true]],
  [a_push (vI (-2)), a_retI],
  [a_push (vI 12), a_ldI 3, i_imul, a_ldI 2, i_iadd, a_stI 5, a_ldI 4, a_push (vI 4), a_if2 (fun a b => a ≤ b) 10 [true, true, false, false, true, true] 5 [true, true, false, false, true, true]],
  [a_ldI 4, a_push (vI 9), a_if2 (fun a b => b ≤ a) 10 [true, true, false, false, true, true] 6 [true, true, false, false, true, true]],
  [a_ldI 4, a_push (vI 5), i_isub, a_ldR 0, a_gS 11 62, a_ldI 1, a_aI 62 4, a_if2 (fun a b => b ≤ a) 8 [] 7 [true, true, false, false, true, true]],
  [a_ldR 0, a_ldI 1, a_ldI 4, a_push (vI 5), i_isub, a_ldI 5, a_callV 156 4 1 6 11, a_go 9 []],
  [a_push (vI (-1)), a_go 9 []],
  [a_retI],
  [a_ldR 0, a_ldI 1, a_ldI 4, a_push (vI 9), a_if2 (fun a b => a = b) 11 [false, false, false, false, false, true] 12 [false, false, false, false, true, true]],
  [a_push (vI 5), a_go 13 [false, false, false, false, false, true]],
  [a_ldI 4, a_go 13 [false, false, false, false, false, true]],
  [a_ldI 5, a_callV 152 4 1 4 11, a_retI]]
/-- M_wood -/
def B_158 : List (List zA) := [[a_ldR 0, a_push (vI 0), a_ldI 1, a_callV 155 3 1 3 11, a_if1 (fun a => a = 0) 2 [] 1 [true, true, true]],
  [a_ldI 2, a_i2l, a_push (vL 0), a_push (vL 4), a_call 109 3 1 6, a_if1 (fun a => a = 0) 2 [] 3 [true, true, true]],
  [a_push (vI (-1)), a_retI],
  [a_push (vI 12), a_ldI 1, i_iadd, a_stI 3, a_ldI 2, a_if1 (fun a => a = 0) 4 [true, false, false, true] 5 [true, true, true, true]],
  [a_ldR 0, a_gS 11 58, a_ldI 3, a_aI 58 16, a_go 12 []],
  [a_ldI 2, a_push (vI 1), a_if2 (fun a b => a = b) 6 [true, false, false, true] 7 [true, true, true, true]],
  [a_ldR 0, a_gS 11 59, a_ldI 3, a_aI 59 16, a_go 12 []],
  [a_ldI 2, a_push (vI 2), a_if2 (fun a b => a = b) 8 [true, false, false, true] 9 [true, true, true, true]],
  [a_ldR 0, a_gS 11 60, a_ldI 3, a_aI 60 16, a_go 12 []],
  [a_ldI 2, a_push (vI 3), a_if2 (fun a b => a = b) 10 [true, false, false, true] 11 [true, true]],
  [a_ldR 0, a_gS 11 61, a_ldI 3, a_aI 61 16, a_go 12 []],
  [a_ldR 0, a_gS 11 62, a_ldI 1, a_aI 62 4, a_go 12 []],
  [a_retI]]
/-- M_push -/
def B_159 : List (List zA) := [[a_ldR 0, a_gS 11 68, a_ldR 0, a_gI 11 30, a_ldL 1, a_sL 68 64, a_ldR 0, a_dup, a_gI 11 30, a_push (vI 1), i_iadd, a_pI 11 30, a_retV]]
/-- M_pop -/
def B_160 : List (List zA) := [[a_ldR 0, a_dup, a_gI 11 30, a_push (vI 1), i_isub, a_pI 11 30, a_ldR 0, a_gS 11 68, a_ldR 0, a_gI 11 30, a_aL 68 64, a_retL]]
/-- M_one -/
def B_161 : List (List zA) := [[a_ldI 0, a_sw 2 [(1, [false, true, false, true]), (2, [false, true, false, true]), (3, [false, true, false, true]), (4, [false, true, false, true]), (8, [false, true, false, true]), (12, [false, true, false, true]), (16, [false, true, false, true]), (20, [false, true, false, true]), (24, [false, true, false, true]), (29, [false, true, false, true]), (28, [false, true, false, true])] 29 [false, true, false, true]],
  [a_ldL 1, a_ldL 3, i_laddw, a_retL],
  [a_ldL 1, a_ldL 3, i_lsubw, a_retL],
  [a_ldL 1, a_ldL 3, i_lmulw, a_retL],
  [a_ldL 3, a_push (vL 0), a_ifL (fun a b => a = b) 5 [] 6 [false, true, false, true]],
  [a_push (vL 0), a_go 7 []],
  [a_ldL 1, a_ldL 3, i_ldivw, a_go 7 []],
  [a_retL],
  [a_ldL 1, a_ldL 3, a_ifL (fun a b => b ≤ a) 10 [] 9 []],
  [a_push (vL 1), a_go 11 []],
  [a_push (vL 0), a_go 11 []],
  [a_retL],
  [a_ldL 1, a_ldL 3, a_ifL (fun a b => b < a) 14 [] 13 []],
  [a_push (vL 1), a_go 15 []],
  [a_push (vL 0), a_go 15 []],
  [a_retL],
  [a_ldL 1, a_ldL 3, a_ifL (fun a b => a = b) 17 [] 18 []],
  [a_push (vL 1), a_go 19 []],
  [a_push (vL 0), a_go 19 []],
  [a_retL],
  [a_ldL 1, a_ldL 3, a_ifL (fun a b => a < b) 22 [] 21 []],
  [a_push (vL 1), a_go 23 []],
  [a_push (vL 0), a_go 23 []],
  [a_retL],
  [a_ldL 1, a_ldL 3, a_ifL (fun a b => a ≤ b) 26 [] 25 []],
  [a_push (vL 1), a_go 27 []],
  [a_push (vL 0), a_go 27 []],
  [a_retL],
  [a_ldL 1, a_ldL 3, i_land, a_retL],
  [a_ldL 1, a_ldL 3, i_lor, a_retL]]
/-- M_reckons -/
def B_162 : List (List zA) := [[a_ldR 0, a_push (vI 0), a_pI 11 30, a_ldI 2, a_stI 4, a_go 1 [true, true, false, true, true]],
  [a_ldI 4, a_ldI 3, a_if2 (fun a b => b ≤ a) 10 [true] 2 [true, true, false, true, true]],
  [a_ldR 0, a_gS 11 50, a_push (vI 400), a_ldI 1, i_imul, a_ldI 4, i_iadd, a_aI 50 4800, a_push (vI 15), i_iand, a_stI 5, a_ldR 0, a_gS 11 50, a_push (vI 400), a_ldI 1, i_imul, a_ldI 4, i_iadd, a_aI 50 4800, a_push (vI 4), i_ishr, a_stI 6, a_ldI 5, a_if1 (fun a => a = 0) 3 [true, true, false, true, true, false, true] 4 [true, true, false, true, true, true, true]],
  [a_ldR 0, a_ldI 6, a_i2l, a_callV 159 2 0 3 11, a_go 9 [true, true, false, true, true]],
  [a_ldI 5, a_push (vI 1), a_if2 (fun a b => a = b) 5 [true, true, false, true, true, false, true] 6 [true, true, false, true, true, true]],
  [a_ldR 0, a_ldR 0, a_gS 11 69, a_ldI 6, a_aL 69 10, a_callV 159 2 0 3 11, a_go 9 [true, true, false, true, true]],
  [a_ldI 5, a_push (vI 11), a_if2 (fun a b => a = b) 7 [true, true, false, true, true] 8 [true, true, false, true, true, true]],
  [a_ldR 0, a_push (vL 1), a_ldR 0, a_callV 160 1 2 1 11, i_lsubw, a_callV 159 2 0 3 11, a_go 9 [true, true, false, true, true]],
  [a_ldR 0, a_callV 160 1 2 1 11, a_stL 7, a_ldR 0, a_callV 160 1 2 1 11, a_stL 9, a_ldR 0, a_ldI 5, a_ldL 9, a_ldL 7, a_call 161 3 2 5, a_callV 159 2 0 3 11, a_go 9 [true, true, false, true, true]],
  [a_iinc 4 1, a_go 1 [true, true, false, true, true]],
  [a_ldR 0, a_callV 160 1 2 1 11, a_retL]]
/-- M_clauseThat -/
def B_163 : List (List zA) := [[a_push (vI 0), a_stI 2, a_go 1 [true, true, true]],
  [a_ldI 2, a_ldR 0, a_gS 11 53, a_ldI 1, a_aI 53 16, a_if2 (fun a b => b ≤ a) 6 [] 2 [true, true, true]],
  [a_push (vI 60), a_ldI 1, i_imul, a_push (vI 5), a_ldI 2, i_imul, i_iadd, a_stI 3, a_ldR 0, a_gS 11 52, a_ldI 3, a_push (vI 3), i_iadd, a_aI 52 720, a_if1 (fun a => a < 0) 4 [false, false, true] 3 [true, true, true, true]],
  [a_ldR 0, a_ldI 1, a_ldR 0, a_gS 11 52, a_ldI 3, a_push (vI 3), i_iadd, a_aI 52 720, a_ldR 0, a_gS 11 52, a_ldI 3, a_push (vI 4), i_iadd, a_aI 52 720, a_callV 162 4 2 11 11, a_push (vL 1), a_ifL (fun a b => a = b) 4 [false, false, true] 5 [true, true, true]],
  [a_ldI 2, a_retI],
  [a_iinc 2 1, a_go 1 [true, true, true]],
  [a_push (vI (-1)), a_retI]]
/-- M_woodNow -/
def B_164 : List (List zA) := [[a_ldR 0, a_gS 11 70, a_push (vI 0), a_aI 70 1392, a_retI]]
/-- M_lawNow -/
def B_165 : List (List zA) := [[a_ldR 0, a_gS 11 70, a_push (vI 1), a_aI 70 1392, a_retI]]
/-- M_isWalk -/
def B_166 : List (List zA) := [[a_ldR 0, a_gS 11 70, a_push (vI 0), a_aI 70 1392, a_push (vI (-1)), a_if2 (fun a b => a = b) 2 [] 1 []],
  [a_push (vI 1), a_go 3 []],
  [a_push (vI 0), a_go 3 []],
  [a_retZ 0 1]]
/-- M_surely -/
def B_167 : List (List zA) := [[a_push (vI 0), a_stI 4, a_go 1 [true, true, true, true, true]],
  [a_ldI 4, a_push (vI 576), a_if2 (fun a b => b ≤ a) 3 [true, true, true, true] 2 [true, true, true, true, true]],
  [a_ldR 0, a_ldI 1, a_ldI 4, i_iadd, a_push (vI 0), a_sNX, a_iinc 4 1, a_go 1 [true, true, true, true, true]],
  [a_ldR 0, a_ldI 1, a_push (vI 4), a_ldI 2, i_imul, i_iadd, a_ldI 3, i_iadd, a_push (vI 1000000000), a_sNX, a_retV]]
/-- M_canStand -/
def B_168 : List (List zA) := [[a_ldR 0, a_ldI 1, a_ldI 2, a_ldI 3, a_callV 151 4 1 4 11, a_if1 (fun a => a = 0) 4 [] 1 [true, true, true, true, true]],
  [a_ldR 0, a_ldI 1, a_push (vI 1), a_push (vI 12), a_ldI 3, i_imul, a_ldI 2, i_iadd, a_callV 152 4 1 4 11, a_if1 (fun a => a = 0) 2 [false, false, false, false, true] 4 []],
  [a_ldI 4, a_i2l, a_push (vL 0), a_push (vL 3), a_call 109 3 1 6, a_if1 (fun a => a = 0) 4 [] 3 []],
  [a_push (vI 1), a_go 5 []],
  [a_push (vI 0), a_go 5 []],
  [a_retZ 0 1]]
/-- M_walk -/
def B_169 : List (List zA) := [[a_ldR 0, a_push (vI 0), a_ldI 1, a_callV 155 3 1 3 11, a_if1 (fun a => a = 0) 3 [] 1 [true, true, true, true, true, true]],
  [a_ldR 0, a_push (vI 1), a_ldI 2, a_callV 155 3 1 3 11, a_if1 (fun a => a = 0) 3 [] 2 [true, true, true, true, true, true]],
  [a_ldR 0, a_ldI 1, a_ldI 3, a_ldI 4, a_ldI 5, a_callV 168 5 1 5 11, a_if1 (fun a => a = 0) 3 [] 4 [true, true, true, true, true, true]],
  [a_push (vI 0), a_retZ 0 1],
  [a_ldR 0, a_gS 11 70, a_push (vI 0), a_ldI 1, a_sN 70 1392, a_ldR 0, a_gS 11 70, a_push (vI 1), a_ldI 2, a_sN 70 1392, a_ldR 0, a_gS 11 70, a_push (vI 2), a_push (vI 0), a_sN 70 1392, a_ldR 0, a_gS 11 70, a_push (vI 3), a_push (vI 0), a_sN 70 1392, a_ldR 0, a_gS 11 70, a_push (vI 4), a_push (vI 9), a_sN 70 1392, a_ldR 0, a_gS 11 70, a_push (vI 5), a_push (vI 0), a_sN 70 1392, a_ldR 0, a_gS 11 70, a_push (vI 6), a_push (vI 12), a_ldI 4, i_imul, a_ldI 3, i_iadd, a_ldI 5, a_call 167 4 0 5, a_ldR 0, a_gS 11 70, a_push (vI 1390), a_push (vI 12), a_ldI 4, i_imul, a_ldI 3, i_iadd, a_sN 70 1392, a_ldR 0, a_gS 11 70, a_push (vI 1391), a_ldI 5, a_sN 70 1392, a_push (vI 1), a_retZ 0 1]]
/-- M_stepAt -/
def B_170 : List (List zA) := [[a_ldR 0, a_gS 11 69, a_push (vI 0), a_ldR 0, a_ldR 0, a_callV 164 1 1 1 11, a_push (vI 0), a_ldI 1, a_callV 152 4 1 4 11, a_i2l, a_sL 69 10, a_ldR 0, a_gS 11 69, a_push (vI 1), a_ldR 0, a_ldR 0, a_callV 164 1 1 1 11, a_push (vI 2), a_ldI 1, a_callV 152 4 1 4 11, a_i2l, a_sL 69 10, a_ldR 0, a_gS 11 69, a_push (vI 2), a_ldR 0, a_ldR 0, a_callV 164 1 1 1 11, a_push (vI 3), a_ldI 1, a_callV 152 4 1 4 11, a_i2l, a_sL 69 10, a_ldR 0, a_gS 11 69, a_push (vI 3), a_ldR 0, a_ldR 0, a_callV 164 1 1 1 11, a_push (vI 4), a_ldI 1, a_callV 152 4 1 4 11, a_i2l, a_sL 69 10, a_ldR 0, a_gS 11 69, a_push (vI 4), a_ldI 2, a_i2l, a_sL 69 10, a_ldR 0, a_ldR 0, a_callV 165 1 1 1 11, a_callV 163 2 1 4 11, a_stI 3, a_push (vI 60), a_ldR 0, a_callV 165 1 1 1 11, i_imul, a_push (vI 5), a_ldI 3, i_imul, i_iadd, a_stI 4, a_ldI 3, a_if1 (fun a => 0 ≤ a) 2 [true, false, false, false, true] 1 []],
  [a_push (vI 900), a_go 3 []],
  [a_ldR 0, a_ldR 0, a_callV 165 1 1 1 11, a_ldR 0, a_gS 11 52, a_ldI 4, a_push (vI 1), i_iadd, a_aI 52 720, a_ldR 0, a_gS 11 52, a_ldI 4, a_push (vI 2), i_iadd, a_aI 52 720, a_callV 162 4 2 11 11, a_push (vL 0), a_push (vL 1000), a_call 110 3 2 6, a_l2i, a_go 3 []],
  [a_retI]]
/-- M_driftBy -/
def B_171 : List (List zA) := [[a_push (vI 1000), a_ldI 1, i_isub, a_push (vI 2), i_idiv, a_stI 2, a_ldR 0, a_gS 11 54, a_ldR 0, a_callV 165 1 1 1 11, a_aI 54 16, a_ldI 2, a_if2 (fun a b => b ≤ a) 2 [false, false, true] 1 [true]],
  [a_ldR 0, a_gS 11 54, a_ldR 0, a_callV 165 1 1 1 11, a_aI 54 16, a_go 3 []],
  [a_ldI 2, a_go 3 []],
  [a_retI]]
/-- M_comes -/
def B_172 : List (List zA) := [[a_ldR 0, a_ldR 0, a_callV 164 1 1 1 11, a_ldI 1, a_ldI 2, a_callV 153 4 1 6 11, a_stI 5, a_ldI 5, a_if1 (fun a => 0 ≤ a) 2 [true, false, true, false, true, true] 1 [true, true, false, true, true]],
  [a_ldR 0, a_gS 11 72, a_push (vI 4), a_ldI 1, i_imul, a_ldI 3, i_iadd, a_dup2, a_aI 72 576, a_ldI 4, i_iadd, a_sN 72 576, a_go 3 []],
  [a_ldR 0, a_gS 11 72, a_push (vI 4), a_ldI 5, i_imul, a_ldI 2, i_iadd, a_dup2, a_aI 72 576, a_ldI 4, i_iadd, a_sN 72 576, a_go 3 []],
  [a_retV]]
/-- M_does -/
def B_173 : List (List zA) := [[a_ldI 3, a_push (vI 4), a_if2 (fun a b => a = b) 1 [] 2 [true, true, true, true, true]],
  [a_retV],
  [a_push (vI 0), a_stI 5, a_go 3 [true, true, true, true, true, true]],
  [a_ldI 5, a_push (vI 576), a_if2 (fun a b => b ≤ a) 5 [true, true, true, true, true] 4 [true, true, true, true, true, true]],
  [a_ldR 0, a_gS 11 72, a_ldI 5, a_push (vI 0), a_sN 72 576, a_iinc 5 1, a_go 3 [true, true, true, true, true, true]],
  [a_push (vI 0), a_stI 5, a_go 6 [true, true, true, true, true, true]],
  [a_ldI 5, a_push (vI 144), a_if2 (fun a b => b ≤ a) 18 [true, true, true] 7 [true, true, true, true, true, true]],
  [a_push (vI (-1)), a_stI 6, a_push (vI 0), a_stI 7, a_go 8 [true, true, true, true, true, true, true, true]],
  [a_ldI 7, a_push (vI 4), a_if2 (fun a b => b ≤ a) 17 [true, true, true, true, true, true] 9 [true, true, true, true, true, true, true, true]],
  [a_ldR 1, a_ldI 2, a_push (vI 4), a_ldI 5, i_imul, i_iadd, a_ldI 7, i_iadd, a_aIX, a_stI 8, a_ldI 8, a_if1 (fun a => a = 0) 10 [true, true, true, true, true, true, true, true] 11 [true, true, true, true, true, true, true, true, true]],
  [a_go 16 [true, true, true, true, true, true, true, true]],
  [a_ldI 3, a_if1 (fun a => a ≤ 0) 13 [true, true, true, true, true, true, true, true, true] 12 [true, true, true, true, true, true, true, true, true]],
  [a_ldR 0, a_gS 11 72, a_push (vI 4), a_ldI 5, i_imul, a_ldI 7, a_ldI 3, a_call 174 2 1 2, i_iadd, a_dup2, a_aI 72 576, a_ldI 8, i_iadd, a_sN 72 576, a_go 16 [true, true, true, true, true, true, true, true]],
  [a_ldI 6, a_if1 (fun a => 0 ≤ a) 15 [true, true, true, true, true, true, true, true, true] 14 [true, true, true, true, true, true, false, true, true]],
  [a_ldR 0, a_ldI 5, a_ldI 4, a_callV 170 3 1 5 11, a_stI 6, a_go 15 [true, true, true, true, true, true, true, true, true]],
  [a_ldI 8, a_i2l, a_ldI 6, a_i2l, i_lmul, a_push (vL 1000), i_ldiv, a_l2i, a_stI 9, a_ldI 8, a_i2l, a_ldR 0, a_ldI 6, a_callV 171 2 1 3 11, a_i2l, i_lmul, a_push (vL 1000), i_ldiv, a_l2i, a_stI 10, a_ldR 0, a_ldI 5, a_ldI 7, a_ldI 7, a_ldI 9, a_callV 172 5 0 6 11, a_ldR 0, a_ldI 5, a_ldI 7, a_push (vI 3), i_iadd, a_push (vI 4), i_irem, a_ldI 7, a_ldI 10, a_callV 172 5 0 6 11, a_ldR 0, a_ldI 5, a_ldI 7, a_push (vI 1), i_iadd, a_push (vI 4), i_irem, a_ldI 7, a_ldI 10, a_callV 172 5 0 6 11, a_ldR 0, a_gS 11 72, a_push (vI 4), a_ldI 5, i_imul, a_ldI 7, i_iadd, a_dup2, a_aI 72 576, a_ldI 8, a_ldI 9, i_isub, a_push (vI 2), a_ldI 10, i_imul, i_isub, i_iadd, a_sN 72 576, a_go 16 [true, true, true, true, true, true, true, true]],
  [a_iinc 7 1, a_go 8 [true, true, true, true, true, true, true, true]],
  [a_iinc 5 1, a_go 6 [true, true, true, true, true, true]],
  [a_push (vI 0), a_stI 5, a_go 19 [true, true, true, false, false, true]],
  [a_ldI 5, a_push (vI 576), a_if2 (fun a b => b ≤ a) 21 [] 20 [true, true, true, false, false, true]],
  [a_ldR 1, a_ldI 2, a_ldI 5, i_iadd, a_ldR 0, a_gS 11 72, a_ldI 5, a_aI 72 576, a_sNX, a_iinc 5 1, a_go 19 [true, true, true, false, false, true]],
  [a_retV]]
/-- M_turned -/
def B_174 : List (List zA) := [[a_ldI 0, a_ldI 1, a_push (vI 1), a_if2 (fun a b => a = b) 1 [] 2 [false, true]],
  [a_push (vI 3), a_go 5 []],
  [a_ldI 1, a_push (vI 2), a_if2 (fun a b => a = b) 3 [] 4 []],
  [a_push (vI 1), a_go 5 []],
  [a_push (vI 2), a_go 5 []],
  [i_iadd, a_push (vI 4), i_irem, a_retI]]
/-- M_seeing -/
def B_175 : List (List zA) := [[a_ldR 0, a_gS 11 56, a_ldR 0, a_callV 165 1 1 1 11, a_aI 56 16, a_ldI 1, i_imul, a_push (vI 30), i_idiv, a_stI 2, a_ldI 2, a_push (vI 100), a_if2 (fun a b => b ≤ a) 2 [false, false, true] 1 []],
  [a_push (vI 100), a_go 3 []],
  [a_ldI 2, a_go 3 []],
  [a_retI]]
/-- M_chance -/
def B_176 : List (List zA) := [[a_ldI 2, a_push (vI 5), a_if2 (fun a b => a = b) 1 [true, true, false, true] 5 [true, true, true, true, true, true]],
  [a_ldR 0, a_ldR 0, a_callV 164 1 1 1 11, a_push (vI 2), a_ldI 1, a_callV 152 4 1 4 11, a_ldI 3, a_if2 (fun a b => a = b) 2 [true] 3 [true]],
  [a_ldR 0, a_gS 11 55, a_ldR 0, a_callV 165 1 1 1 11, a_aI 55 16, a_go 4 []],
  [a_push (vI 1000), a_ldR 0, a_gS 11 55, a_ldR 0, a_callV 165 1 1 1 11, a_aI 55 16, i_isub, a_push (vI 7), i_idiv, a_go 4 []],
  [a_retI],
  [a_ldI 2, a_push (vI 6), a_if2 (fun a b => a = b) 6 [true, true, false, true, false, true] 10 [true, true, true, true, true]],
  [a_ldR 0, a_ldR 0, a_callV 164 1 1 1 11, a_push (vI 3), a_ldI 1, a_callV 152 4 1 4 11, a_ldI 3, a_if2 (fun a b => a = b) 7 [true, false, false, false, false, true] 8 [true, false, false, false, false, true]],
  [a_ldR 0, a_ldI 5, a_callV 175 2 1 3 11, a_go 9 []],
  [a_push (vI 1000), a_ldR 0, a_ldI 5, a_callV 175 2 1 3 11, i_isub, a_push (vI 9), i_idiv, a_go 9 []],
  [a_retI],
  [a_ldI 2, a_push (vI 8), a_if2 (fun a b => a = b) 11 [true, true, false, true, true] 16 [true, true, false, true, true]],
  [a_ldR 0, a_ldR 0, a_callV 164 1 1 1 11, a_push (vI 2), a_ldI 1, a_callV 152 4 1 4 11, a_ldI 3, a_if2 (fun a b => a = b) 12 [true, true, false, false, true] 14 []],
  [a_ldR 0, a_ldR 0, a_callV 164 1 1 1 11, a_push (vI 0), a_ldI 1, a_callV 152 4 1 4 11, a_ldI 4, a_if2 (fun a b => a = b) 13 [] 14 []],
  [a_push (vI 1000), a_go 15 []],
  [a_push (vI 0), a_go 15 []],
  [a_retI],
  [a_ldR 0, a_ldR 0, a_callV 164 1 1 1 11, a_ldI 3, a_ldI 1, a_callV 156 4 1 6 11, a_ldI 4, i_isub, a_call 111 1 1 1, a_stI 6, a_ldI 6, a_if1 (fun a => a = 0) 17 [true] 18 [true, false, false, false, false, false, true]],
  [a_ldR 0, a_gS 11 57, a_ldR 0, a_callV 165 1 1 1 11, a_aI 57 16, a_go 22 []],
  [a_push (vI 1000), a_ldR 0, a_gS 11 57, a_ldR 0, a_callV 165 1 1 1 11, a_aI 57 16, i_isub, a_ldI 6, a_push (vI 1), a_if2 (fun a b => a = b) 19 [] 20 []],
  [a_push (vI 4), a_go 21 []],
  [a_push (vI 80), a_go 21 []],
  [i_idiv, a_go 22 []],
  [a_retI]]
/-- M_signs -/
def B_177 : List (List zA) := [[a_push (vL 0), a_stL 7, a_push (vI 0), a_stI 9, a_go 1 [true, true, true, true, true, true, true, true, false, true]],
  [a_ldI 9, a_push (vI 144), a_if2 (fun a b => b ≤ a) 6 [true, true, true, false, false, false, false, true] 2 [true, true, true, true, true, true, true, true, false, true]],
  [a_ldR 0, a_ldI 9, a_ldI 3, a_ldI 4, a_ldI 5, a_ldI 6, a_callV 176 6 1 7 11, a_stI 10, a_push (vI 0), a_stI 11, a_go 3 [true, true, true, true, true, true, true, true, false, true, true, true]],
  [a_ldI 11, a_push (vI 4), a_if2 (fun a b => b ≤ a) 5 [true, true, true, true, true, true, true, true, false, true] 4 [true, true, true, true, true, true, true, true, false, true, true, true]],
  [a_ldR 0, a_gS 11 72, a_push (vI 4), a_ldI 9, i_imul, a_ldI 11, i_iadd, a_ldR 1, a_ldI 2, a_push (vI 4), a_ldI 9, i_imul, i_iadd, a_ldI 11, i_iadd, a_aIX, a_i2l, a_ldI 10, a_i2l, i_lmul, a_push (vL 1000), i_ldiv, a_l2i, a_sN 72 576, a_ldL 7, a_ldR 0, a_gS 11 72, a_push (vI 4), a_ldI 9, i_imul, a_ldI 11, i_iadd, a_aI 72 576, a_i2l, i_ladd, a_stL 7, a_iinc 11 1, a_go 3 [true, true, true, true, true, true, true, true, false, true, true, true]],
  [a_iinc 9 1, a_go 1 [true, true, true, true, true, true, true, true, false, true]],
  [a_ldL 7, a_push (vL 0), a_ifL (fun a b => a = b) 7 [] 8 [true, true, true, false, false, false, false, true]],
  [a_push (vI 0), a_retZ 0 1],
  [a_push (vI 0), a_stI 9, a_go 9 [true, true, true, false, false, false, false, true, false, true]],
  [a_ldI 9, a_push (vI 576), a_if2 (fun a b => b ≤ a) 11 [] 10 [true, true, true, false, false, false, false, true, false, true]],
  [a_ldR 1, a_ldI 2, a_ldI 9, i_iadd, a_ldR 0, a_gS 11 72, a_ldI 9, a_aI 72 576, a_i2l, a_push (vL 1000000000), i_lmul, a_ldL 7, i_ldiv, a_l2i, a_sNX, a_iinc 9 1, a_go 9 [true, true, true, false, false, false, false, true, false, true]],
  [a_push (vI 1), a_retZ 0 1]]
/-- M_later -/
def B_178 : List (List zA) := [[a_ldI 0, a_push (vI 30), a_if2 (fun a b => b ≤ a) 2 [] 1 [true]],
  [a_ldI 0, a_push (vI 1), i_iadd, a_go 3 []],
  [a_push (vI 30), a_go 3 []],
  [a_retI]]
/-- M_writes -/
def B_179 : List (List zA) := [[a_push (vI 582), a_push (vI 4), a_ldR 0, a_gS 11 70, a_push (vI 2), a_aI 70 1392, i_imul, i_iadd, a_stI 4, a_ldR 0, a_gS 11 70, a_ldI 4, a_ldI 1, a_sN 70 1392, a_ldR 0, a_gS 11 70, a_ldI 4, a_push (vI 1), i_iadd, a_ldI 2, a_sN 70 1392, a_ldR 0, a_gS 11 70, a_ldI 4, a_push (vI 2), i_iadd, a_ldI 3, a_sN 70 1392, a_ldR 0, a_gS 11 70, a_ldI 4, a_push (vI 3), i_iadd, a_ldR 0, a_ldR 0, a_gS 11 70, a_push (vI 6), a_callV 188 3 2 6 11, a_push (vL 1000000), i_ldiv, a_l2i, a_sN 70 1392, a_ldR 0, a_gS 11 70, a_push (vI 2), a_dup2, a_aI 70 1392, a_push (vI 1), i_iadd, a_sN 70 1392, a_retV]]
/-- M_canAct -/
def B_180 : List (List zA) := [[a_ldR 0, a_callV 166 1 1 1 11, a_if1 (fun a => a = 0) 3 [] 1 [true]],
  [a_ldR 0, a_gS 11 70, a_push (vI 2), a_aI 70 1392, a_push (vI 200), a_if2 (fun a b => b ≤ a) 3 [] 2 []],
  [a_push (vI 1), a_go 4 []],
  [a_push (vI 0), a_go 4 []],
  [a_retZ 0 1]]
/-- M_act -/
def B_181 : List (List zA) := [[a_ldR 0, a_callV 180 1 1 1 11, a_if1 (fun a => a = 0) 2 [] 1 [true, true]],
  [a_ldI 1, a_i2l, a_push (vL 0), a_push (vL 4), a_call 109 3 1 6, a_if1 (fun a => a = 0) 2 [] 3 [true, true]],
  [a_push (vI (-1)), a_retI],
  [a_ldR 0, a_ldR 0, a_gS 11 70, a_push (vI 6), a_ldI 1, a_ldR 0, a_gS 11 70, a_push (vI 5), a_aI 70 1392, a_callV 173 5 0 11 11, a_ldR 0, a_gS 11 70, a_push (vI 3), a_dup2, a_aI 70 1392, a_push (vI 1), i_iadd, a_sN 70 1392, a_ldR 0, a_gS 11 70, a_push (vI 5), a_ldR 0, a_gS 11 70, a_push (vI 5), a_aI 70 1392, a_call 178 1 1 1, a_sN 70 1392, a_ldR 0, a_ldI 1, a_push (vI 0), a_push (vI 0), a_callV 179 4 0 5 11, a_ldR 0, a_gS 11 70, a_push (vI 3), a_aI 70 1392, a_retI]]
/-- M_told -/
def B_182 : List (List zA) := [[a_ldR 0, a_ldR 0, a_gS 11 70, a_push (vI 6), a_ldI 1, a_ldI 2, a_ldI 3, a_ldR 0, a_gS 11 70, a_push (vI 5), a_aI 70 1392, a_callV 177 7 1 12 11, a_if1 (fun a => a = 0) 1 [] 2 [true, true, true, true]],
  [a_push (vI (-1)), a_retI],
  [a_ldR 0, a_ldI 1, a_ldI 2, a_ldI 3, a_callV 179 4 0 5 11, a_ldR 0, a_gS 11 70, a_push (vI 2), a_aI 70 1392, a_retI]]
/-- M_felt -/
def B_183 : List (List zA) := [[a_ldR 0, a_callV 180 1 1 1 11, a_if1 (fun a => a = 0) 3 [] 1 [true, true]],
  [a_ldI 1, a_i2l, a_push (vL 0), a_push (vL 7), a_call 109 3 1 6, a_if1 (fun a => a = 0) 3 [] 2 [true, true]],
  [a_ldR 0, a_push (vI 5), a_ldI 1, a_push (vI 0), a_callV 182 4 1 4 11, a_go 4 []],
  [a_push (vI (-1)), a_go 4 []],
  [a_retI]]
/-- M_seen -/
def B_184 : List (List zA) := [[a_ldR 0, a_callV 180 1 1 1 11, a_if1 (fun a => a = 0) 3 [] 1 [true, true]],
  [a_ldI 1, a_i2l, a_push (vL 0), a_push (vL 9), a_call 109 3 1 6, a_if1 (fun a => a = 0) 3 [] 2 [true, true]],
  [a_ldR 0, a_push (vI 6), a_ldI 1, a_push (vI 0), a_callV 182 4 1 4 11, a_go 4 []],
  [a_push (vI (-1)), a_go 4 []],
  [a_retI]]
/-- M_heard -/
def B_185 : List (List zA) := [[a_ldR 0, a_callV 180 1 1 1 11, a_if1 (fun a => a = 0) 4 [] 1 [true, true, true]],
  [a_ldI 1, a_i2l, a_push (vL 0), a_ldR 0, a_gS 11 62, a_ldR 0, a_callV 164 1 1 1 11, a_aI 62 4, a_push (vI 1), i_isub, a_i2l, a_call 109 3 1 6, a_if1 (fun a => a = 0) 4 [] 2 [true, true, true]],
  [a_ldI 2, a_i2l, a_push (vL 0), a_push (vL 40), a_call 109 3 1 6, a_if1 (fun a => a = 0) 4 [] 3 [true, true, true]],
  [a_ldR 0, a_push (vI 7), a_ldI 1, a_ldI 2, a_callV 182 4 1 4 11, a_go 5 []],
  [a_push (vI (-1)), a_go 5 []],
  [a_retI]]
/-- M_strike -/
def B_186 : List (List zA) := [[a_ldR 0, a_callV 180 1 1 1 11, a_if1 (fun a => a = 0) 7 [] 1 [true, true, true]],
  [a_ldI 1, a_i2l, a_push (vL 0), a_push (vL 7), a_call 109 3 1 6, a_if1 (fun a => a = 0) 7 [] 2 [true, true, true]],
  [a_ldR 0, a_gS 11 70, a_push (vI 4), a_aI 70 1392, a_if1 (fun a => a = 0) 7 [] 3 [true, true, true]],
  [a_ldR 0, a_ldR 0, a_gS 11 70, a_push (vI 6), a_push (vI 8), a_ldI 1, a_ldI 2, a_if1 (fun a => a = 0) 5 [true, true, true] 4 [true, true, true]],
  [a_push (vI 1), a_go 6 [true, true, true]],
  [a_push (vI 0), a_go 6 [true, true, true]],
  [a_ldR 0, a_gS 11 70, a_push (vI 5), a_aI 70 1392, a_callV 177 7 1 12 11, a_if1 (fun a => a = 0) 7 [] 8 [true, true, true]],
  [a_push (vI (-1)), a_retI],
  [a_ldR 0, a_gS 11 70, a_push (vI 3), a_dup2, a_aI 70 1392, a_push (vI 1), i_iadd, a_sN 70 1392, a_ldR 0, a_gS 11 70, a_push (vI 4), a_dup2, a_aI 70 1392, a_push (vI 1), i_isub, a_sN 70 1392, a_ldR 0, a_gS 11 70, a_push (vI 5), a_push (vI 0), a_sN 70 1392, a_ldR 0, a_push (vI 8), a_ldI 1, a_ldI 2, a_if1 (fun a => a = 0) 10 [true] 9 [true]],
  [a_push (vI 1), a_go 11 [true]],
  [a_push (vI 0), a_go 11 [true]],
  [a_callV 179 4 0 5 11, a_ldR 0, a_gS 11 70, a_push (vI 4), a_aI 70 1392, a_retI]]
/-- M_oddsOf -/
def B_187 : List (List zA) := [[a_ldI 2, a_push (vI 4), a_ldI 3, i_imul, i_iadd, a_stI 4, a_ldR 1, a_ldI 4, a_aIX, a_i2l, a_ldR 1, a_ldI 4, a_push (vI 1), i_iadd, a_aIX, a_i2l, i_ladd, a_ldR 1, a_ldI 4, a_push (vI 2), i_iadd, a_aIX, a_i2l, i_ladd, a_ldR 1, a_ldI 4, a_push (vI 3), i_iadd, a_aIX, a_i2l, i_ladd, a_retL]]
/-- M_sumOn -/
def B_188 : List (List zA) := [[a_push (vL 0), a_stL 3, a_push (vI 0), a_stI 5, a_go 1 [true, true, true, true, false, true]],
  [a_ldI 5, a_push (vI 144), a_if2 (fun a b => b ≤ a) 6 [false, false, false, true] 2 [true, true, true, true, false, true]],
  [a_ldL 3, a_ldR 0, a_ldR 0, a_callV 164 1 1 1 11, a_push (vI 0), a_ldI 5, a_callV 152 4 1 4 11, a_push (vI 1), a_if2 (fun a b => a = b) 3 [true, true, true, false, false, true] 4 [true, true, true, false, false, true]],
  [a_ldR 0, a_ldR 1, a_ldI 2, a_ldI 5, a_callV 187 4 2 5 11, a_go 5 [true, true, true, false, false, true]],
  [a_push (vL 0), a_go 5 [true, true, true, false, false, true]],
  [i_ladd, a_stL 3, a_iinc 5 1, a_go 1 [true, true, true, true, false, true]],
  [a_ldL 3, a_retL]]
/-- M_surest -/
def B_189 : List (List zA) := [[a_push (vI 0), a_stI 3, a_push (vI 1), a_stI 4, a_go 1 [true, true, true, true, true]],
  [a_ldI 4, a_push (vI 144), a_if2 (fun a b => b ≤ a) 5 [false, false, false, true] 2 [true, true, true, true, true]],
  [a_ldR 0, a_ldR 1, a_ldI 2, a_ldI 4, a_callV 187 4 2 5 11, a_ldR 0, a_ldR 1, a_ldI 2, a_ldI 3, a_callV 187 4 2 5 11, a_ifL (fun a b => a ≤ b) 4 [true, true, true, true, true] 3 [true, true, true, false, true]],
  [a_ldI 4, a_stI 3, a_go 4 [true, true, true, true, true]],
  [a_iinc 4 1, a_go 1 [true, true, true, true, true]],
  [a_ldI 3, a_retI]]
/-- M_riskOf -/
def B_190 : List (List zA) := [[a_push (vL 0), a_stL 3, a_push (vI 0), a_stI 5, a_go 1 [true, true, true, true, false, true]],
  [a_ldI 5, a_push (vI 144), a_if2 (fun a b => b ≤ a) 3 [false, false, false, true] 2 [true, true, true, true, false, true]],
  [a_ldL 3, a_ldR 0, a_ldR 1, a_ldI 2, a_ldI 5, a_callV 187 4 2 5 11, a_ldR 0, a_ldR 0, a_callV 164 1 1 1 11, a_push (vI 4), a_ldI 5, a_callV 152 4 1 4 11, a_i2l, i_lmul, a_push (vL 1000), i_ldiv, i_ladd, a_stL 3, a_iinc 5 1, a_go 1 [true, true, true, true, false, true]],
  [a_ldL 3, a_retL]]
/-- M_odds -/
def B_191 : List (List zA) := [[a_ldR 0, a_callV 166 1 1 1 11, a_if1 (fun a => a = 0) 3 [] 1 [true, true, true, true]],
  [a_ldR 0, a_ldR 0, a_callV 164 1 1 1 11, a_ldI 1, a_ldI 2, a_callV 151 4 1 4 11, a_if1 (fun a => a = 0) 3 [] 2 [true, true, true, true]],
  [a_ldI 3, a_i2l, a_push (vL (-1)), a_push (vL 3), a_call 109 3 1 6, a_if1 (fun a => a = 0) 3 [] 4 [true, true, true, true]],
  [a_push (vI (-1)), a_retI],
  [a_push (vI 12), a_ldI 2, i_imul, a_ldI 1, i_iadd, a_stI 4, a_ldI 3, a_push (vI (-1)), a_if2 (fun a b => a = b) 5 [true, false, false, false, true] 6 [true, false, false, true, true]],
  [a_ldR 0, a_ldR 0, a_gS 11 70, a_push (vI 6), a_ldI 4, a_callV 187 4 2 5 11, a_l2i, a_go 7 []],
  [a_ldR 0, a_gS 11 70, a_push (vI 6), a_push (vI 4), a_ldI 4, i_imul, i_iadd, a_ldI 3, i_iadd, a_aI 70 1392, a_go 7 []],
  [a_retI]]
/-- M_all -/
def B_192 : List (List zA) := [[a_ldR 0, a_callV 166 1 1 1 11, a_if1 (fun a => a = 0) 2 [] 1 [true, true]],
  [a_ldI 1, a_i2l, a_push (vL 0), a_push (vL 10), a_call 109 3 1 6, a_if1 (fun a => a = 0) 2 [] 3 [true, true]],
  [a_push (vI (-1)), a_retI],
  [a_ldR 0, a_ldR 0, a_gS 11 70, a_push (vI 6), a_callV 189 3 1 5 11, a_stI 2, a_push (vL 0), a_stL 3, a_ldI 1, a_sw 0 [(4, [true]), (5, [true]), (6, [true, false, true]), (7, [false, false, true]), (8, [false, false, true]), (9, [true])] 10 [true, true, false, true]],
  [a_ldR 0, a_ldR 0, a_gS 11 70, a_push (vI 6), a_callV 188 3 2 6 11, a_l2i, a_retI],
  [a_ldR 0, a_ldR 0, a_gS 11 70, a_push (vI 6), a_ldR 0, a_ldR 0, a_callV 164 1 1 1 11, a_callV 150 2 1 2 11, a_callV 187 4 2 5 11, a_l2i, a_retI],
  [a_ldR 0, a_ldR 0, a_gS 11 70, a_push (vI 6), a_ldI 2, a_callV 187 4 2 5 11, a_l2i, a_retI],
  [a_ldI 2, a_push (vI 12), i_irem, a_retI],
  [a_ldI 2, a_push (vI 12), i_idiv, a_retI],
  [a_ldR 0, a_ldR 0, a_gS 11 70, a_push (vI 6), a_callV 190 3 2 6 11, a_l2i, a_retI],
  [a_push (vI 0), a_stI 5, a_go 11 [true, true, false, true, false, true]],
  [a_ldI 5, a_push (vI 576), a_if2 (fun a b => b ≤ a) 17 [false, false, false, true] 12 [true, true, false, true, false, true]],
  [a_ldL 3, a_ldI 1, a_push (vI 6), a_if2 (fun a b => a = b) 14 [true, true, false, false, false, true] 13 [true, true, false, false, false, true]],
  [a_ldI 5, a_push (vI 4), i_irem, a_ldI 1, a_push (vI 7), i_isub, a_if2 (fun a b => a = b) 14 [true, true, false, false, false, true] 15 [true, true, false, false, false, true]],
  [a_ldR 0, a_gS 11 70, a_push (vI 6), a_ldI 5, i_iadd, a_aI 70 1392, a_i2l, a_go 16 [true, true, false, false, false, true]],
  [a_push (vL 0), a_go 16 [true, true, false, false, false, true]],
  [i_ladd, a_stL 3, a_iinc 5 1, a_go 11 [true, true, false, true, false, true]],
  [a_ldL 3, a_l2i, a_retI]]
/-- M_tryBegins -/
def B_193 : List (List zA) := [[a_push (vI 0), a_stI 1, a_go 1 [true, true]],
  [a_ldI 1, a_push (vI 576), a_if2 (fun a b => b ≤ a) 3 [true] 2 [true, true]],
  [a_ldR 0, a_gS 11 71, a_ldI 1, a_ldR 0, a_gS 11 70, a_push (vI 6), a_ldI 1, i_iadd, a_aI 70 1392, a_sN 71 576, a_iinc 1 1, a_go 1 [true, true]],
  [a_ldR 0, a_ldR 0, a_gS 11 70, a_push (vI 5), a_aI 70 1392, a_pI 11 35, a_retV]]
/-- M_comesHome -/
def B_194 : List (List zA) := [[a_push (vI 4), a_ldR 0, a_ldR 0, a_callV 164 1 1 1 11, a_callV 150 2 1 2 11, i_imul, a_stI 1, a_ldR 0, a_dup, a_gL 11 36, a_ldR 0, a_ldR 0, a_gS 11 71, a_push (vI 0), a_ldR 0, a_ldR 0, a_callV 164 1 1 1 11, a_callV 150 2 1 2 11, a_callV 187 4 2 5 11, i_ladd, a_pL 11 36, a_push (vI 0), a_stI 2, a_go 1 [true, true, true]],
  [a_ldI 2, a_push (vI 4), a_if2 (fun a b => b ≤ a) 3 [] 2 [true, true, true]],
  [a_ldR 0, a_gS 11 71, a_ldI 1, a_ldI 2, i_iadd, a_push (vI 0), a_sN 71 576, a_iinc 2 1, a_go 1 [true, true, true]],
  [a_retV]]
/-- M_goesRow -/
def B_195 : List (List zA) := [[a_ldR 0, a_callV 193 1 0 2 11, a_ldR 0, a_push (vL 0), a_pL 11 36, a_ldR 0, a_push (vL 0), a_pL 11 37, a_ldR 0, a_callV 194 1 0 3 11, a_ldI 2, a_stI 3, a_push (vI 0), a_stI 4, a_go 1 [true, true, false, true, true]],
  [a_ldI 4, a_ldI 1, a_if2 (fun a b => b ≤ a) 7 [] 2 [true, true, false, true, true]],
  [a_ldI 3, a_push (vI 4), i_irem, a_stI 5, a_ldI 3, a_push (vI 4), i_idiv, a_stI 3, a_ldI 5, a_if1 (fun a => a = 0) 3 [true, true, false, true, true, true] 4 [true, true, false, true, true, true]],
  [a_ldR 0, a_dup, a_gL 11 37, a_ldR 0, a_ldR 0, a_gS 11 71, a_push (vI 0), a_callV 190 3 2 6 11, i_ladd, a_pL 11 37, a_go 4 [true, true, false, true, true, true]],
  [a_ldR 0, a_ldR 0, a_gS 11 71, a_push (vI 0), a_ldI 5, a_ldR 0, a_gI 11 35, a_callV 173 5 0 11 11, a_ldR 0, a_ldR 0, a_gI 11 35, a_call 178 1 1 1, a_pI 11 35, a_ldI 5, a_if1 (fun a => a = 0) 5 [true, true, false, true, true] 6 [true, true, false, true, true]],
  [a_ldR 0, a_callV 194 1 0 3 11, a_go 6 [true, true, false, true, true]],
  [a_iinc 4 1, a_go 1 [true, true, false, true, true]],
  [a_retV]]
/-- M_isCode -/
def B_196 : List (List zA) := [[a_ldI 1, a_if1 (fun a => a < 0) 3 [] 1 [true, true]],
  [a_ldI 1, a_push (vI 1), a_push (vI 2), a_ldI 0, i_imul, i_ishl, a_if2 (fun a b => b ≤ a) 3 [] 2 []],
  [a_push (vI 1), a_go 4 []],
  [a_push (vI 0), a_go 4 []],
  [a_retZ 0 1]]
/-- M_row -/
def B_197 : List (List zA) := [[a_ldR 0, a_callV 166 1 1 1 11, a_if1 (fun a => a = 0) 4 [] 1 [true, true, true, true]],
  [a_ldI 1, a_i2l, a_push (vL 1), a_push (vL 6), a_call 109 3 1 6, a_if1 (fun a => a = 0) 4 [] 2 [true, true, true, true]],
  [a_ldI 1, a_ldI 2, a_call 196 2 1 2, a_if1 (fun a => a = 0) 4 [] 3 [true, true, true, true]],
  [a_ldI 3, a_i2l, a_push (vL 0), a_push (vL 1), a_call 109 3 1 6, a_if1 (fun a => a = 0) 4 [] 5 [true, true, true, true]],
  [a_push (vL (-1)), a_retL],
  [a_ldR 0, a_ldI 1, a_ldI 2, a_callV 195 3 0 6 11, a_ldI 3, a_if1 (fun a => a = 0) 6 [true] 7 [true]],
  [a_ldR 0, a_gL 11 36, a_go 8 []],
  [a_ldR 0, a_gL 11 37, a_go 8 []],
  [a_retL]]
/-- M_soon -/
def B_198 : List (List zA) := [[a_ldR 0, a_callV 166 1 1 1 11, a_if1 (fun a => a = 0) 2 [] 1 [true, true]],
  [a_ldI 1, a_i2l, a_push (vL 1), a_push (vL 5), a_call 109 3 1 6, a_if1 (fun a => a = 0) 2 [] 3 [true, true]],
  [a_push (vI (-1)), a_retI],
  [a_push (vI (-1)), a_stI 2, a_push (vL 0), a_stL 3, a_push (vL 0), a_stL 5, a_push (vI 0), a_stI 7, a_go 4 [true, true, true, true, false, true, false, true]],
  [a_ldI 7, a_push (vI 1), a_push (vI 2), a_ldI 1, i_imul, i_ishl, a_if2 (fun a b => b ≤ a) 12 [false, false, true] 5 [true, true, true, true, false, true, false, true]],
  [a_ldR 0, a_ldI 1, a_ldI 7, a_callV 195 3 0 6 11, a_ldI 2, a_if1 (fun a => a < 0) 10 [true, true, false, false, false, false, false, true] 6 [true, true, true, true, false, true, false, true]],
  [a_ldR 0, a_gL 11 36, a_ldL 3, a_ifL (fun a b => a < b) 11 [true, true, true, true, false, true, false, true] 7 [true, true, true, true, false, true, false, true]],
  [a_ldR 0, a_gL 11 36, a_ldL 3, a_ifL (fun a b => a = b) 8 [true, true, true, true, false, true, false, true] 10 [true, true, false, false, false, false, false, true]],
  [a_ldR 0, a_gL 11 37, a_ldL 5, a_ifL (fun a b => a < b) 10 [true, true, false, false, false, false, false, true] 9 [true, true, true, true, false, true, false, true]],
  [a_go 11 [true, true, true, true, false, true, false, true]],
  [a_ldI 7, a_stI 2, a_ldR 0, a_gL 11 36, a_stL 3, a_ldR 0, a_gL 11 37, a_stL 5, a_go 11 [true, true, true, true, false, true, false, true]],
  [a_iinc 7 1, a_go 4 [true, true, true, true, false, true, false, true]],
  [a_ldI 2, a_retI]]
/-- M_left -/
def B_199 : List (List zA) := [[a_ldR 0, a_callV 166 1 1 1 11, a_if1 (fun a => a = 0) 2 [] 1 [true, true]],
  [a_ldI 1, a_i2l, a_push (vL 1), a_push (vL 1000), a_call 109 3 1 6, a_if1 (fun a => a = 0) 2 [] 3 [true, true]],
  [a_push (vI (-1)), a_retI],
  [a_push (vI 0), a_stI 2, a_go 4 [true, true, true]],
  [a_ldI 2, a_ldR 0, a_gS 11 70, a_push (vI 2), a_aI 70 1392, a_if2 (fun a b => b ≤ a) 8 [] 5 [true, true, true]],
  [a_ldR 0, a_gS 11 70, a_push (vI 582), a_push (vI 4), a_ldI 2, i_imul, i_iadd, a_push (vI 3), i_iadd, a_aI 70 1392, a_ldI 1, a_if2 (fun a b => b ≤ a) 7 [true, true, true] 6 [false, false, true]],
  [a_ldI 2, a_retI],
  [a_iinc 2 1, a_go 4 [true, true, true]],
  [a_push (vI (-2)), a_retI]]
/-- M_fork -/
def B_200 : List (List zA) := [[a_ldR 0, a_callV 166 1 1 1 11, a_if1 (fun a => a = 0) 6 [] 1 [true, true, true, true, true, true]],
  [a_ldI 1, a_i2l, a_push (vL 0), a_push (vL 11), a_call 109 3 1 6, a_if1 (fun a => a = 0) 6 [] 2 [true, true, true, true, true, true]],
  [a_ldI 2, a_i2l, a_push (vL 0), a_push (vL 11), a_call 109 3 1 6, a_if1 (fun a => a = 0) 6 [] 3 [true, true, true, true, true, true]],
  [a_ldI 3, a_i2l, a_ldI 1, a_i2l, a_push (vL 11), a_call 109 3 1 6, a_if1 (fun a => a = 0) 6 [] 4 [true, true, true, true, true, true]],
  [a_ldI 4, a_i2l, a_ldI 2, a_i2l, a_push (vL 11), a_call 109 3 1 6, a_if1 (fun a => a = 0) 6 [] 5 [true, true, true, true, true, true]],
  [a_ldI 5, a_i2l, a_push (vL (-1)), a_push (vL 3), a_call 109 3 1 6, a_if1 (fun a => a = 0) 6 [] 7 [true, true, true, true, true, true]],
  [a_push (vI (-1)), a_retI],
  [a_push (vL 0), a_stL 6, a_ldI 2, a_stI 8, a_go 8 [true, true, false, true, true, true, true, false, true]],
  [a_ldI 8, a_ldI 4, a_if2 (fun a b => b < a) 16 [false, false, false, false, false, false, true] 9 [true, true, false, true, true, true, true, false, true]],
  [a_ldI 1, a_stI 9, a_go 10 [true, true, false, true, true, true, true, false, true, true]],
  [a_ldI 9, a_ldI 3, a_if2 (fun a b => b < a) 15 [true, true, false, true, true, true, true, false, true] 11 [true, true, false, true, true, true, true, false, true, true]],
  [a_push (vI 12), a_ldI 8, i_imul, a_ldI 9, i_iadd, a_stI 10, a_ldL 6, a_ldI 5, a_push (vI (-1)), a_if2 (fun a b => a = b) 12 [true, true, false, true, true, true, false, false, true, true, true] 13 [true, true, false, true, true, true, false, false, true, true, true]],
  [a_ldR 0, a_ldR 0, a_gS 11 70, a_push (vI 6), a_ldI 10, a_callV 187 4 2 5 11, a_go 14 [true, true, false, true, true, true, false, false, true, true]],
  [a_ldR 0, a_gS 11 70, a_push (vI 6), a_push (vI 4), a_ldI 10, i_imul, i_iadd, a_ldI 5, i_iadd, a_aI 70 1392, a_i2l, a_go 14 [true, true, false, true, true, true, false, false, true, true]],
  [i_ladd, a_stL 6, a_iinc 9 1, a_go 10 [true, true, false, true, true, true, true, false, true, true]],
  [a_iinc 8 1, a_go 8 [true, true, false, true, true, true, true, false, true]],
  [a_ldL 6, a_l2i, a_retI]]
/-- M_again -/
def B_201 : List (List zA) := [[a_ldR 0, a_gS 11 71, a_push (vI 0), a_ldR 0, a_gI 11 38, a_ldR 0, a_gI 11 39, a_call 167 4 0 5, a_ldR 0, a_push (vI 0), a_pI 11 35, a_push (vI 0), a_stI 2, a_go 1 [true, true, true]],
  [a_ldI 2, a_ldR 0, a_gS 11 70, a_push (vI 2), a_aI 70 1392, a_if2 (fun a b => b ≤ a) 18 [] 2 [true, true, true]],
  [a_push (vI 582), a_push (vI 4), a_ldI 2, i_imul, i_iadd, a_stI 3, a_ldR 0, a_gS 11 70, a_ldI 3, a_aI 70 1392, a_stI 4, a_ldI 4, a_push (vI 4), a_if2 (fun a b => a ≤ b) 5 [true, true, true, true, true] 3 [true, true, true, true, true]],
  [a_ldI 1, a_ldI 4, a_push (vI 5), i_isub, i_ishr, a_push (vI 1), i_iand, a_push (vI 1), a_if2 (fun a b => a = b) 4 [true, true, true, true, true] 5 [true, true, true, true, true]],
  [a_push (vI 1), a_go 6 [true, true, true, true, true]],
  [a_push (vI 0), a_go 6 [true, true, true, true, true]],
  [a_stI 5, a_ldI 4, a_push (vI 5), a_if2 (fun a b => b ≤ a) 8 [true, true, true, true, true, true] 7 [true, true, true, false, true]],
  [a_ldR 0, a_ldR 0, a_gS 11 71, a_push (vI 0), a_ldI 4, a_ldR 0, a_gI 11 35, a_callV 173 5 0 11 11, a_ldR 0, a_ldR 0, a_gI 11 35, a_call 178 1 1 1, a_pI 11 35, a_go 17 [true, true, true]],
  [a_ldI 5, a_if1 (fun a => a = 0) 15 [true, true, true, false, true] 9 [true, true, true, true, true]],
  [a_ldR 0, a_ldR 0, a_gS 11 71, a_push (vI 0), a_ldI 4, a_ldR 0, a_gS 11 70, a_ldI 3, a_push (vI 1), i_iadd, a_aI 70 1392, a_ldR 0, a_gS 11 70, a_ldI 3, a_push (vI 2), i_iadd, a_aI 70 1392, a_ldR 0, a_gI 11 35, a_callV 177 7 1 12 11, a_stI 6, a_ldI 4, a_push (vI 8), a_if2 (fun a b => a = b) 10 [true, true, true, false, false, false, true] 14 [true, true, true]],
  [a_ldR 0, a_ldI 6, a_if1 (fun a => a = 0) 12 [true, true, true] 11 [true, true, true]],
  [a_push (vI 0), a_go 13 [true, true, true]],
  [a_ldR 0, a_gI 11 35, a_call 178 1 1 1, a_go 13 [true, true, true]],
  [a_pI 11 35, a_go 14 [true, true, true]],
  [a_go 17 [true, true, true]],
  [a_ldI 4, a_push (vI 8), a_if2 (fun a b => a = b) 16 [true, true, true] 17 [true, true, true]],
  [a_ldR 0, a_ldR 0, a_gI 11 35, a_call 178 1 1 1, a_pI 11 35, a_go 17 [true, true, true]],
  [a_iinc 2 1, a_go 1 [true, true, true]],
  [a_retV]]
/-- M_bits -/
def B_202 : List (List zA) := [[a_push (vI 0), a_stI 1, a_ldI 0, a_stI 2, a_go 1 [false, true, true]],
  [a_ldI 2, a_if1 (fun a => a = 0) 3 [false, true] 2 [false, true, true]],
  [a_iinc 1 1, a_ldI 2, a_ldI 2, a_push (vI 1), i_isub, i_iand, a_stI 2, a_go 1 [false, true, true]],
  [a_ldI 1, a_retI]]
/-- M_remember -/
def B_203 : List (List zA) := [[a_ldR 0, a_callV 166 1 1 1 11, a_if1 (fun a => a = 0) 3 [] 1 [true, true, true, true]],
  [a_ldR 0, a_ldR 0, a_callV 164 1 1 1 11, a_ldI 1, a_ldI 2, a_callV 151 4 1 4 11, a_if1 (fun a => a = 0) 3 [] 2 [true, true, true, true]],
  [a_ldI 3, a_i2l, a_push (vL 1), a_push (vL 1000), a_call 109 3 1 6, a_if1 (fun a => a = 0) 3 [] 4 [true, true, true, true]],
  [a_push (vI (-1)), a_retI],
  [a_ldR 0, a_ldR 0, a_gS 11 70, a_push (vI 1390), a_aI 70 1392, a_pI 11 38, a_ldR 0, a_ldR 0, a_gS 11 70, a_push (vI 1391), a_aI 70 1392, a_pI 11 39, a_push (vI 0), a_stI 4, a_go 5 [true, true, true, true, true]],
  [a_ldI 4, a_push (vI 5), a_if2 (fun a b => b ≤ a) 14 [] 6 [true, true, true, true, true]],
  [a_push (vI 0), a_stI 5, a_go 7 [true, true, true, true, true, true]],
  [a_ldI 5, a_push (vI 16), a_if2 (fun a b => b ≤ a) 13 [true, true, true, true, true] 8 [true, true, true, true, true, true]],
  [a_ldI 5, a_call 202 1 1 3, a_ldI 4, a_if2 (fun a b => a = b) 10 [true, true, true, true, true, true] 9 [true, true, true, true, true, true]],
  [a_go 12 [true, true, true, true, true, true]],
  [a_ldR 0, a_ldI 5, a_callV 201 2 0 7 11, a_ldR 0, a_ldR 0, a_gS 11 71, a_push (vI 0), a_push (vI 12), a_ldI 2, i_imul, a_ldI 1, i_iadd, a_callV 187 4 2 5 11, a_push (vL 1000000), i_ldiv, a_ldI 3, a_i2l, a_ifL (fun a b => a < b) 12 [true, true, true, true, true, true] 11 [false, false, false, false, false, true]],
  [a_ldI 5, a_retI],
  [a_iinc 5 1, a_go 7 [true, true, true, true, true, true]],
  [a_iinc 4 1, a_go 5 [true, true, true, true, true]],
  [a_push (vI (-2)), a_retI]]
/-- M_tells -/
def B_204 : List (List zA) := [[a_ldR 0, a_callV 166 1 1 1 11, a_if1 (fun a => a = 0) 1 [] 2 [true]],
  [a_push (vI (-1)), a_retI],
  [a_push (vL 0), a_stL 1, a_push (vI 0), a_stI 3, a_go 3 [true, true, false, true]],
  [a_ldI 3, a_push (vI 16), a_if2 (fun a b => b ≤ a) 15 [false, true] 4 [true, true, false, true]],
  [a_push (vL 0), a_stL 4, a_push (vI 0), a_stI 6, a_go 5 [true, true, false, true, true, false, true]],
  [a_ldI 6, a_push (vI 144), a_if2 (fun a b => b ≤ a) 14 [true, true, false, true, true] 6 [true, true, false, true, true, false, true]],
  [a_ldR 0, a_ldR 0, a_callV 164 1 1 1 11, a_push (vI 2), a_ldI 6, a_callV 152 4 1 4 11, a_ldI 3, a_push (vI 2), i_idiv, a_if2 (fun a b => a = b) 7 [true, true, false, true, true, false, true] 9 [true, true, false, true, true, false, true]],
  [a_ldR 0, a_ldR 0, a_callV 164 1 1 1 11, a_push (vI 0), a_ldI 6, a_callV 152 4 1 4 11, a_ldI 3, a_push (vI 2), i_irem, a_if2 (fun a b => a = b) 8 [true, true, false, true, true, false, true] 9 [true, true, false, true, true, false, true]],
  [a_ldR 0, a_ldR 0, a_gS 11 70, a_push (vI 6), a_ldI 6, a_callV 187 4 2 5 11, a_go 10 [true, true, false, true, true, false, true]],
  [a_push (vL 0), a_go 10 [true, true, false, true, true, false, true]],
  [a_stL 7, a_ldL 7, a_ldL 4, a_ifL (fun a b => a ≤ b) 12 [true, true, false, true, true, false, true] 11 [true, true, false, true, false, false, true, true]],
  [a_ldL 7, a_go 13 [true, true, false, true, false, false, true]],
  [a_ldL 4, a_go 13 [true, true, false, true, false, false, true]],
  [a_stL 4, a_iinc 6 1, a_go 5 [true, true, false, true, true, false, true]],
  [a_ldL 1, a_ldL 4, i_ladd, a_stL 1, a_iinc 3 1, a_go 3 [true, true, false, true]],
  [a_ldL 1, a_l2i, a_retI]]
/-- M_aim -/
def B_205 : List (List zA) := [[a_ldR 0, a_callV 166 1 1 1 11, a_if1 (fun a => a = 0) 4 [] 1 [true, true, true, true]],
  [a_ldI 1, a_i2l, a_push (vL 0), a_push (vL 1), a_call 109 3 1 6, a_if1 (fun a => a = 0) 4 [] 2 [true, true, true, true]],
  [a_ldI 2, a_i2l, a_push (vL 0), a_push (vL 11), a_call 109 3 1 6, a_if1 (fun a => a = 0) 4 [] 3 [true, true, true, true]],
  [a_ldI 3, a_i2l, a_push (vL 1), a_push (vL 1000), a_call 109 3 1 6, a_if1 (fun a => a = 0) 4 [] 5 [true, true, true, true]],
  [a_push (vI (-1)), a_retI],
  [a_push (vI 0), a_stI 4, a_go 6 [true, true, true, true, true]],
  [a_ldI 4, a_push (vI 12), a_if2 (fun a b => b < a) 19 [] 7 [true, true, true, true, true]],
  [a_push (vL 0), a_stL 5, a_push (vI 0), a_stI 7, a_go 8 [true, true, true, true, true, true, false, true]],
  [a_ldI 7, a_push (vI 144), a_if2 (fun a b => b ≤ a) 16 [true, true, true, true, true, true] 9 [true, true, true, true, true, true, false, true]],
  [a_ldL 5, a_ldI 1, a_if1 (fun a => a = 0) 10 [true, true, true, true, true, false, false, true] 11 [true, true, true, true, true, false, false, true]],
  [a_ldI 7, a_push (vI 12), i_irem, a_go 12 [true, true, true, true, true, false, false, true]],
  [a_ldI 7, a_push (vI 12), i_idiv, a_go 12 [true, true, true, true, true, false, false, true]],
  [a_ldI 4, i_iadd, a_ldI 2, a_if2 (fun a b => a ≤ b) 14 [true, true, true, true, true, false, false, true] 13 [true, true, true, true, true, false, false, true]],
  [a_ldR 0, a_ldR 0, a_gS 11 70, a_push (vI 6), a_ldI 7, a_callV 187 4 2 5 11, a_go 15 [true, true, true, true, true, false, false, true]],
  [a_push (vL 0), a_go 15 [true, true, true, true, true, false, false, true]],
  [i_ladd, a_stL 5, a_iinc 7 1, a_go 8 [true, true, true, true, true, true, false, true]],
  [a_ldL 5, a_push (vL 1000000), i_ldiv, a_ldI 3, a_i2l, a_ifL (fun a b => a < b) 18 [true, true, true, true, true] 17 [false, false, false, false, true]],
  [a_ldI 4, a_retI],
  [a_iinc 4 1, a_go 6 [true, true, true, true, true]],
  [a_push (vI (-2)), a_retI]]
/-- M_look -/
def B_206 : List (List zA) := [[a_ldR 0, a_callV 166 1 1 1 11, a_if1 (fun a => a = 0) 2 [] 1 [true, true]],
  [a_ldI 1, a_i2l, a_push (vL 0), a_push (vL 6), a_call 109 3 1 6, a_if1 (fun a => a = 0) 2 [] 3 [true, true]],
  [a_push (vI (-1)), a_retI],
  [a_ldR 0, a_gS 11 74, a_push (vI 0), a_ldR 0, a_ldR 0, a_callV 164 1 1 1 11, a_callV 150 2 1 2 11, a_sN 74 7, a_ldR 0, a_gS 11 73, a_push (vI 0), a_push (vI (-1)), a_sN 73 7, a_ldR 0, a_push (vI 0), a_callV 207 2 2 7 11, a_stL 2, a_push (vI 0), a_stI 4, a_go 4 [true, true, true, false, true]],
  [a_ldI 4, a_if1 (fun a => a < 0) 14 [false, false, true] 5 [true, true, true, false, true]],
  [a_ldR 0, a_gS 11 73, a_ldI 4, a_dup2, a_aI 73 7, a_push (vI 1), i_iadd, a_sN 73 7, a_ldI 4, a_ldI 1, a_if2 (fun a b => a = b) 7 [true, true, true, false, true] 6 [true, true, true, false, true]],
  [a_ldR 0, a_gS 11 73, a_ldI 4, a_aI 73 7, a_push (vI 3), a_if2 (fun a b => a ≤ b) 8 [true, true, true, false, true] 7 [true, true, true, false, true]],
  [a_iinc 4 (-1), a_go 4 [true, true, true, false, true]],
  [a_ldR 0, a_ldR 0, a_callV 164 1 1 1 11, a_ldR 0, a_gS 11 74, a_ldI 4, a_aI 74 7, a_ldR 0, a_gS 11 73, a_ldI 4, a_aI 73 7, a_callV 153 4 1 6 11, a_stI 5, a_ldI 5, a_if1 (fun a => 0 ≤ a) 10 [true, true, true, false, true, true] 9 [true, true, true, false, true]],
  [a_go 4 [true, true, true, false, true]],
  [a_iinc 4 1, a_ldR 0, a_gS 11 74, a_ldI 4, a_ldI 5, a_sN 74 7, a_ldR 0, a_gS 11 73, a_ldI 4, a_push (vI (-1)), a_sN 73 7, a_ldR 0, a_ldI 4, a_callV 207 2 2 7 11, a_stL 6, a_ldL 6, a_ldL 2, a_ifL (fun a b => a ≤ b) 12 [true, true, true, false, true] 11 [true, true, false, false, true, false, true]],
  [a_ldL 6, a_go 13 [true, true, false, false, true]],
  [a_ldL 2, a_go 13 [true, true, false, false, true]],
  [a_stL 2, a_go 4 [true, true, true, false, true]],
  [a_ldL 2, a_l2i, a_retI]]
/-- M_gone -/
def B_207 : List (List zA) := [[a_push (vL 0), a_stL 2, a_push (vI 0), a_stI 4, a_go 1 [true, true, true, false, true]],
  [a_ldI 4, a_ldI 1, a_if2 (fun a b => b < a) 13 [false, false, true] 2 [true, true, true, false, true]],
  [a_push (vI 1), a_stI 5, a_push (vI 0), a_stI 6, a_go 3 [true, true, true, false, true, true, true]],
  [a_ldI 6, a_ldI 4, a_if2 (fun a b => b ≤ a) 9 [true, true, true, false, true, true] 4 [true, true, true, false, true, true, true]],
  [a_ldI 5, a_if1 (fun a => a = 0) 7 [true, true, true, false, true, false, true] 5 [true, true, true, false, true, false, true]],
  [a_ldR 0, a_gS 11 74, a_ldI 6, a_aI 74 7, a_ldR 0, a_gS 11 74, a_ldI 4, a_aI 74 7, a_if2 (fun a b => a = b) 7 [true, true, true, false, true, false, true] 6 [true, true, true, false, true, false, true]],
  [a_push (vI 1), a_go 8 [true, true, true, false, true, false, true]],
  [a_push (vI 0), a_go 8 [true, true, true, false, true, false, true]],
  [a_stI 5, a_iinc 6 1, a_go 3 [true, true, true, false, true, true, true]],
  [a_ldL 2, a_ldI 5, a_if1 (fun a => a = 0) 11 [true, true, false, false, true] 10 [true, true, false, false, true]],
  [a_ldR 0, a_ldR 0, a_gS 11 70, a_push (vI 6), a_ldR 0, a_gS 11 74, a_ldI 4, a_aI 74 7, a_callV 187 4 2 5 11, a_go 12 [true, true, false, false, true]],
  [a_push (vL 0), a_go 12 [true, true, false, false, true]],
  [i_ladd, a_stL 2, a_iinc 4 1, a_go 1 [true, true, true, false, true]],
  [a_ldL 2, a_retL]]
/-- M_post -/
def B_208 : List (List zA) := [[a_ldI 1, a_i2l, a_push (vL 0), a_push (vL 7), a_call 109 3 1 6, a_if1 (fun a => a = 0) 3 [] 1 [true, true, true, true]],
  [a_ldI 2, a_i2l, a_push (vL 0), a_push (vL 11), a_call 109 3 1 6, a_if1 (fun a => a = 0) 3 [] 2 [true, true, true, true]],
  [a_ldI 3, a_i2l, a_push (vL 0), a_push (vL 11), a_call 109 3 1 6, a_if1 (fun a => a = 0) 3 [] 4 [true, true, true, true]],
  [a_push (vI 0), a_retZ 0 1],
  [a_ldR 0, a_gS 11 70, a_push (vI 1382), a_ldI 1, i_iadd, a_push (vI 12), a_ldI 3, i_imul, a_ldI 2, i_iadd, a_sN 70 1392, a_push (vI 1), a_retZ 0 1]]
/-- M_parish -/
def B_209 : List (List zA) := [[a_ldR 0, a_push (vI 0), a_ldI 1, a_callV 155 3 1 3 11, a_if1 (fun a => a = 0) 2 [] 1 [true, true, true]],
  [a_ldI 2, a_i2l, a_push (vL 0), a_push (vL 40), a_call 109 3 1 6, a_if1 (fun a => a = 0) 2 [] 3 [true, true, true]],
  [a_push (vI (-1)), a_retI],
  [a_push (vI 0), a_stI 3, a_push (vI 0), a_stI 4, a_go 4 [true, true, true, true, true]],
  [a_ldI 4, a_push (vI 144), a_if2 (fun a b => b ≤ a) 6 [true, true, true, true] 5 [true, true, true, true, true]],
  [a_ldR 0, a_gS 11 75, a_ldI 4, a_push (vI 0), a_sN 75 144, a_iinc 4 1, a_go 4 [true, true, true, true, true]],
  [a_push (vI 0), a_stI 4, a_go 7 [true, true, true, true, true]],
  [a_ldI 4, a_push (vI 8), a_if2 (fun a b => b ≤ a) 20 [true, true, false, true] 8 [true, true, true, true, true]],
  [a_ldR 0, a_gS 11 70, a_push (vI 1382), a_ldI 4, i_iadd, a_aI 70 1392, a_stI 5, a_ldI 5, a_push (vI (-1)), a_if2 (fun a b => a = b) 9 [true, true, true, true, true] 10 [true, true, true, true, true, true]],
  [a_go 19 [true, true, true, true, true]],
  [a_ldI 3, a_push (vI 1), a_ldI 4, i_ishl, i_ior, a_stI 3, a_ldR 0, a_ldI 1, a_ldI 5, a_push (vI 12), i_irem, a_ldI 5, a_push (vI 12), i_idiv, a_push (vI 0), a_callV 168 5 1 5 11, a_if1 (fun a => a = 0) 11 [true, true, true, true, true] 12 [true, true, true, true, true, true]],
  [a_go 19 [true, true, true, true, true]],
  [a_ldR 0, a_ldI 1, a_ldI 5, a_callV 154 3 0 7 11, a_push (vI 0), a_stI 6, a_go 13 [true, true, true, true, true, false, true]],
  [a_ldI 6, a_push (vI 144), a_if2 (fun a b => b ≤ a) 19 [true, true, true, true, true] 14 [true, true, true, true, true, false, true]],
  [a_ldR 0, a_gS 11 75, a_ldI 6, a_dup2, a_aI 75 144, a_ldR 0, a_gS 11 67, a_ldI 6, a_aI 67 144, a_if1 (fun a => a < 0) 17 [true, true, true, true, true, false, true] 15 [true, true, true, true, true, false, true]],
  [a_ldR 0, a_gS 11 67, a_ldI 6, a_aI 67 144, a_ldI 2, a_if2 (fun a b => b < a) 17 [true, true, true, true, true, false, true] 16 [true, true, true, true, true, false, true]],
  [a_push (vI 1), a_ldI 4, i_ishl, a_go 18 [true, true, true, true, true, false, true]],
  [a_push (vI 0), a_go 18 [true, true, true, true, true, false, true]],
  [i_ior, a_sN 75 144, a_iinc 6 1, a_go 13 [true, true, true, true, true, false, true]],
  [a_iinc 4 1, a_go 7 [true, true, true, true, true]],
  [a_push (vI (-2)), a_stI 4, a_push (vI 0), a_stI 5, a_go 21 [true, true, false, true, true, true]],
  [a_ldI 5, a_push (vI 256), a_if2 (fun a b => b ≤ a) 28 [false, false, false, false, true] 22 [true, true, false, true, true, true]],
  [a_ldI 5, a_ldI 3, a_push (vI (-1)), i_ixor, i_iand, a_if1 (fun a => a = 0) 23 [true, true, false, true, true, true] 27 [true, true, false, true, true, true]],
  [a_ldI 4, a_if1 (fun a => a < 0) 25 [true, true, false, true, true, true] 24 [true, true, false, true, true, true]],
  [a_ldI 5, a_call 202 1 1 3, a_ldI 4, a_call 202 1 1 3, a_if2 (fun a b => b ≤ a) 27 [true, true, false, true, true, true] 25 [true, true, false, true, true, true]],
  [a_ldR 0, a_ldI 1, a_ldI 5, a_callV 210 3 1 5 11, a_if1 (fun a => a = 0) 27 [true, true, false, true, true, true] 26 [true, true, false, true, false, true]],
  [a_ldI 5, a_stI 4, a_go 27 [true, true, false, true, true, true]],
  [a_iinc 5 1, a_go 21 [true, true, false, true, true, true]],
  [a_ldI 4, a_retI]]
/-- M_covers -/
def B_210 : List (List zA) := [[a_push (vI 0), a_stI 3, a_go 1 [true, true, true, true]],
  [a_ldI 3, a_push (vI 144), a_if2 (fun a b => b ≤ a) 11 [] 2 [true, true, true, true]],
  [a_ldR 0, a_ldI 1, a_ldI 3, a_push (vI 12), i_irem, a_ldI 3, a_push (vI 12), i_idiv, a_callV 151 4 1 4 11, a_if1 (fun a => a = 0) 6 [true, true, true, true] 3 [true, true, true, true]],
  [a_ldR 0, a_ldI 1, a_push (vI 0), a_ldI 3, a_callV 152 4 1 4 11, a_push (vI 1), a_if2 (fun a b => a = b) 4 [true, true, true, true] 6 [true, true, true, true]],
  [a_ldR 0, a_ldI 1, a_push (vI 1), a_ldI 3, a_callV 152 4 1 4 11, a_if1 (fun a => a = 0) 5 [true, true, true, true] 6 [true, true, true, true]],
  [a_push (vI 1), a_go 7 [true, true, true, true]],
  [a_push (vI 0), a_go 7 [true, true, true, true]],
  [a_stI 4, a_ldI 4, a_if1 (fun a => a = 0) 10 [true, true, true, true] 8 [true, true, true, true]],
  [a_ldR 0, a_gS 11 75, a_ldI 3, a_aI 75 144, a_ldI 2, i_iand, a_if1 (fun a => a = 0) 9 [] 10 [true, true, true, true]],
  [a_push (vI 0), a_retZ 0 1],
  [a_iinc 3 1, a_go 1 [true, true, true, true]],
  [a_push (vI 1), a_retZ 0 1]]
/-- M_draw -/
def B_211 : List (List zA) := [[a_ldR 0, a_ldR 0, a_gL 11 43, a_push (vL 1103515245), i_lmul, a_push (vL 12345), i_ladd, a_push (vL 2147483648), i_lrem, a_pL 11 43, a_ldR 0, a_gL 11 43, a_push (vL 65536), i_ldiv, a_l2i, a_retI]]
/-- M_ruled -/
def B_212 : List (List zA) := [[a_ldR 0, a_gS 11 69, a_push (vI 0), a_ldR 0, a_ldR 0, a_gS 11 71, a_push (vI 0), a_callV 188 3 2 6 11, a_push (vL 1000000), i_ldiv, a_sL 69 10, a_ldR 0, a_gS 11 69, a_push (vI 1), a_ldR 0, a_ldR 0, a_gS 11 71, a_push (vI 0), a_ldR 0, a_ldR 0, a_callV 164 1 1 1 11, a_callV 150 2 1 2 11, a_callV 187 4 2 5 11, a_push (vL 1000000), i_ldiv, a_sL 69 10, a_ldR 0, a_gS 11 69, a_push (vI 2), a_ldR 0, a_ldR 0, a_gS 11 71, a_push (vI 0), a_ldR 0, a_ldR 0, a_gS 11 71, a_push (vI 0), a_callV 189 3 1 5 11, a_callV 187 4 2 5 11, a_push (vL 1000000), i_ldiv, a_sL 69 10, a_ldR 0, a_gS 11 69, a_push (vI 3), a_ldR 0, a_gI 11 50, a_i2l, a_sL 69 10, a_ldR 0, a_gS 11 69, a_push (vI 4), a_ldR 0, a_gI 11 51, a_i2l, a_sL 69 10, a_ldR 0, a_gS 11 69, a_push (vI 5), a_ldR 0, a_gI 11 52, a_i2l, a_sL 69 10, a_ldR 0, a_gS 11 69, a_push (vI 6), a_ldR 0, a_gI 11 48, a_i2l, a_sL 69 10, a_ldR 0, a_gS 11 69, a_push (vI 7), a_ldR 0, a_gI 11 49, a_i2l, a_sL 69 10, a_ldR 0, a_gS 11 69, a_push (vI 8), a_ldR 0, a_gI 11 35, a_i2l, a_sL 69 10, a_ldR 0, a_gS 11 69, a_push (vI 9), a_ldR 0, a_gI 11 53, a_i2l, a_sL 69 10, a_ldR 0, a_ldI 1, a_callV 163 2 1 4 11, a_stI 2, a_ldI 2, a_if1 (fun a => 0 ≤ a) 2 [true, true, true] 1 []],
  [a_push (vI 4), a_go 3 []],
  [a_ldR 0, a_gS 11 52, a_push (vI 60), a_ldI 1, i_imul, a_push (vI 5), a_ldI 2, i_imul, i_iadd, a_aI 52 720, a_go 3 []],
  [a_retI]]
/-- M_goesTruly -/
def B_213 : List (List zA) := [[a_ldR 0, a_ldR 0, a_gI 11 46, a_ldR 0, a_gI 11 35, a_callV 170 3 1 5 11, a_stI 1, a_ldR 0, a_ldI 1, a_callV 171 2 1 3 11, a_stI 2, a_ldR 0, a_callV 211 1 1 1 11, a_push (vI 1000), i_irem, a_stI 3, a_ldI 3, a_ldI 1, a_if2 (fun a b => b ≤ a) 2 [true, true, true, true] 1 [true]],
  [a_ldR 0, a_gI 11 47, a_go 7 [true]],
  [a_ldI 3, a_ldI 1, a_ldI 2, i_iadd, a_if2 (fun a b => b ≤ a) 4 [true, true, true, true] 3 [true]],
  [a_ldR 0, a_gI 11 47, a_push (vI 3), i_iadd, a_push (vI 4), i_irem, a_go 7 [true]],
  [a_ldI 3, a_ldI 1, a_push (vI 2), a_ldI 2, i_imul, i_iadd, a_if2 (fun a b => b ≤ a) 6 [true] 5 [true]],
  [a_ldR 0, a_gI 11 47, a_push (vI 1), i_iadd, a_push (vI 4), i_irem, a_go 7 [true]],
  [a_push (vI (-1)), a_go 7 [true]],
  [a_stI 4, a_ldI 4, a_push (vI (-1)), a_if2 (fun a b => a = b) 8 [true, false, false, false, true] 9 [true, false, false, false, true]],
  [a_push (vI (-1)), a_go 10 [true, false, false, false, true]],
  [a_ldR 0, a_ldR 0, a_callV 164 1 1 1 11, a_ldR 0, a_gI 11 46, a_ldI 4, a_callV 153 4 1 6 11, a_go 10 [true, false, false, false, true]],
  [a_stI 5, a_ldI 5, a_if1 (fun a => 0 ≤ a) 12 [true, false, false, false, true, true] 11 []],
  [a_retV],
  [a_ldR 0, a_ldI 5, a_pI 11 46, a_ldR 0, a_ldI 4, a_pI 11 47, a_retV]]
/-- M_senses -/
def B_214 : List (List zA) := [[a_ldR 0, a_ldR 0, a_callV 164 1 1 1 11, a_push (vI 2), a_ldR 0, a_gI 11 46, a_callV 152 4 1 4 11, a_stI 1, a_ldR 0, a_callV 211 1 1 1 11, a_push (vI 1000), i_irem, a_ldR 0, a_gS 11 55, a_ldR 0, a_callV 165 1 1 1 11, a_aI 55 16, a_if2 (fun a b => b ≤ a) 2 [true, true] 1 [true, true]],
  [a_ldI 1, a_go 3 [true]],
  [a_ldI 1, a_push (vI 1), i_iadd, a_ldR 0, a_callV 211 1 1 1 11, a_push (vI 7), i_irem, i_iadd, a_push (vI 8), i_irem, a_go 3 [true]],
  [a_stI 2, a_ldR 0, a_ldR 0, a_gS 11 71, a_push (vI 0), a_push (vI 5), a_ldI 2, a_push (vI 0), a_ldR 0, a_gI 11 35, a_callV 177 7 1 12 11, a_if1 (fun a => a = 0) 5 [true] 4 [true, false, true]],
  [a_ldR 0, a_ldI 2, a_pI 11 50, a_go 5 [true]],
  [a_ldR 0, a_ldR 0, a_callV 164 1 1 1 11, a_push (vI 3), a_ldR 0, a_gI 11 46, a_callV 152 4 1 4 11, a_stI 3, a_ldR 0, a_callV 211 1 1 1 11, a_push (vI 1000), i_irem, a_ldR 0, a_ldR 0, a_gI 11 35, a_callV 175 2 1 3 11, a_if2 (fun a b => b ≤ a) 7 [true, false, false, true] 6 [true, false, false, true]],
  [a_ldI 3, a_go 8 [true]],
  [a_ldI 3, a_push (vI 1), i_iadd, a_ldR 0, a_callV 211 1 1 1 11, a_push (vI 9), i_irem, i_iadd, a_push (vI 10), i_irem, a_go 8 [true]],
  [a_stI 2, a_ldR 0, a_ldR 0, a_gS 11 71, a_push (vI 0), a_push (vI 6), a_ldI 2, a_push (vI 0), a_ldR 0, a_gI 11 35, a_callV 177 7 1 12 11, a_if1 (fun a => a = 0) 10 [true] 9 [true, false, true]],
  [a_ldR 0, a_ldI 2, a_pI 11 51, a_go 10 [true]],
  [a_ldR 0, a_gS 11 62, a_ldR 0, a_callV 164 1 1 1 11, a_aI 62 4, a_if1 (fun a => a = 0) 11 [] 12 [true]],
  [a_retV],
  [a_ldR 0, a_ldR 0, a_callV 164 1 1 1 11, a_push (vI 0), a_ldR 0, a_gI 11 46, a_callV 156 4 1 6 11, a_stI 2, a_ldR 0, a_callV 211 1 1 1 11, a_push (vI 1000), i_irem, a_ldR 0, a_gS 11 57, a_ldR 0, a_callV 165 1 1 1 11, a_aI 57 16, a_if2 (fun a b => a < b) 21 [true, false, true] 13 [true, false, true]],
  [a_ldI 2, a_ldR 0, a_callV 211 1 1 1 11, a_push (vI 2), i_irem, a_if1 (fun a => a = 0) 14 [true, false, true] 17 [true, false, true]],
  [a_ldI 2, a_if1 (fun a => a ≤ 0) 16 [true] 15 [true]],
  [a_push (vI (-1)), a_go 20 [true]],
  [a_push (vI 0), a_go 20 [true]],
  [a_ldI 2, a_push (vI 40), a_if2 (fun a b => b ≤ a) 19 [true] 18 [true]],
  [a_push (vI 1), a_go 20 [true]],
  [a_push (vI 0), a_go 20 [true]],
  [i_iadd, a_stI 2, a_go 21 [true, false, true]],
  [a_ldR 0, a_ldR 0, a_gS 11 71, a_push (vI 0), a_push (vI 7), a_push (vI 0), a_ldI 2, a_ldR 0, a_gI 11 35, a_callV 177 7 1 12 11, a_if1 (fun a => a = 0) 23 [] 22 [true, false, true]],
  [a_ldR 0, a_ldI 2, a_pI 11 52, a_go 23 []],
  [a_retV]]
/-- M_strikes -/
def B_215 : List (List zA) := [[a_ldR 0, a_gI 11 49, a_if1 (fun a => a = 0) 2 [] 1 [true]],
  [a_ldR 0, a_ldR 0, a_gS 11 71, a_push (vI 0), a_push (vI 8), a_ldR 0, a_ldR 0, a_callV 164 1 1 1 11, a_push (vI 2), a_ldR 0, a_gI 11 46, a_callV 152 4 1 4 11, a_ldR 0, a_ldR 0, a_callV 164 1 1 1 11, a_push (vI 0), a_ldR 0, a_gI 11 46, a_callV 152 4 1 4 11, a_ldR 0, a_gI 11 35, a_callV 177 7 1 12 11, a_if1 (fun a => a = 0) 2 [] 3 [true]],
  [a_push (vI 0), a_retZ 0 1],
  [a_ldR 0, a_dup, a_gI 11 49, a_push (vI 1), i_isub, a_pI 11 49, a_ldR 0, a_push (vI 0), a_pI 11 35, a_ldR 0, a_ldR 0, a_ldR 0, a_callV 164 1 1 1 11, a_push (vI 0), a_ldR 0, a_gI 11 46, a_callV 152 4 1 4 11, a_pI 11 53, a_push (vI 1), a_retZ 0 1]]
/-- M_nightGoes -/
def B_216 : List (List zA) := [[a_ldR 0, a_gS 11 71, a_push (vI 0), a_ldI 2, a_ldI 3, a_call 167 4 0 5, a_ldR 0, a_ldI 2, a_pI 11 46, a_ldR 0, a_ldI 3, a_pI 11 47, a_ldR 0, a_push (vI 0), a_pI 11 48, a_ldR 0, a_push (vI 9), a_pI 11 49, a_ldR 0, a_push (vI 0), a_pI 11 35, a_ldR 0, a_push (vI 99), a_pI 11 50, a_ldR 0, a_push (vI 99), a_pI 11 51, a_ldR 0, a_push (vI 99), a_pI 11 52, a_ldR 0, a_push (vI 99), a_pI 11 53, a_ldR 0, a_push (vI 0), a_pI 11 44, a_ldR 0, a_push (vI 0), a_pI 11 45, a_go 1 [true, true, false, false, true]],
  [a_ldR 0, a_gI 11 45, a_ldI 4, a_if2 (fun a b => b ≤ a) 20 [] 2 [true, true, false, false, true]],
  [a_ldR 0, a_gI 11 44, a_if1 (fun a => a = 0) 3 [true, true, false, false, true] 20 []],
  [a_ldR 0, a_dup, a_gI 11 45, a_push (vI 1), i_iadd, a_pI 11 45, a_ldR 0, a_push (vI 6), a_ldI 1, i_iadd, a_callV 212 2 1 3 11, a_stI 5, a_ldR 0, a_dup, a_gI 11 48, a_push (vI 1), i_iadd, a_pI 11 48, a_ldI 5, a_push (vI 5), a_if2 (fun a b => a = b) 4 [true, true, false, false, true, true] 5 [true, true, false, false, true, true]],
  [a_ldR 0, a_callV 215 1 1 1 11, a_if1 (fun a => a = 0) 5 [true, true, false, false, true, true] 13 [true, true, false, false, true, true]],
  [a_ldR 0, a_ldR 0, a_gS 11 71, a_push (vI 0), a_ldI 5, a_push (vI 5), a_if2 (fun a b => a = b) 6 [true, true, false, false, true, true] 7 [true, true, false, false, true, true]],
  [a_push (vI 4), a_go 8 [true, true, false, false, true, true]],
  [a_ldI 5, a_go 8 [true, true, false, false, true, true]],
  [a_ldR 0, a_gI 11 35, a_callV 173 5 0 11 11, a_ldI 5, a_if1 (fun a => a = 0) 9 [true, true, false, false, true, true] 10 [true, true, false, false, true, true]],
  [a_ldR 0, a_callV 213 1 0 6 11, a_go 12 [true, true, false, false, true, true]],
  [a_ldI 5, a_push (vI 4), a_if2 (fun a b => b ≤ a) 12 [true, true, false, false, true, true] 11 [true, true, false, false, true, true]],
  [a_ldR 0, a_ldR 0, a_gI 11 47, a_ldI 5, a_call 174 2 1 2, a_pI 11 47, a_go 12 [true, true, false, false, true, true]],
  [a_ldR 0, a_ldR 0, a_gI 11 35, a_call 178 1 1 1, a_pI 11 35, a_go 13 [true, true, false, false, true, true]],
  [a_ldR 0, a_gI 11 46, a_ldR 0, a_ldR 0, a_callV 164 1 1 1 11, a_callV 150 2 1 2 11, a_if2 (fun a b => a = b) 14 [true, true, false, false, true] 15 [true, true, false, false, true, true]],
  [a_ldR 0, a_push (vI 1), a_pI 11 44, a_go 19 [true, true, false, false, true]],
  [a_ldI 5, a_if1 (fun a => a = 0) 16 [true, true, false, false, true] 18 [true, true, false, false, true]],
  [a_ldR 0, a_callV 211 1 1 1 11, a_push (vI 1000), i_irem, a_ldR 0, a_ldR 0, a_callV 164 1 1 1 11, a_push (vI 4), a_ldR 0, a_gI 11 46, a_callV 152 4 1 4 11, a_if2 (fun a b => b ≤ a) 18 [true, true, false, false, true] 17 [true, true, false, false, true]],
  [a_ldR 0, a_push (vI 2), a_pI 11 44, a_go 19 [true, true, false, false, true]],
  [a_ldR 0, a_callV 214 1 0 4 11, a_go 19 [true, true, false, false, true]],
  [a_go 1 [true, true, false, false, true]],
  [a_retV]]
/-- M_isNight -/
def B_217 : List (List zA) := [[a_ldR 0, a_callV 166 1 1 1 11, a_if1 (fun a => a = 0) 6 [] 1 [true, true, true, true, true, true, true]],
  [a_ldR 0, a_push (vI 2), a_ldI 1, a_callV 155 3 1 3 11, a_if1 (fun a => a = 0) 6 [] 2 [true, false, true, true, true, true, true]],
  [a_ldR 0, a_ldR 0, a_callV 164 1 1 1 11, a_ldI 2, a_ldI 3, a_ldI 4, a_callV 168 5 1 5 11, a_if1 (fun a => a = 0) 6 [] 3 [false, false, false, false, false, true, true]],
  [a_ldI 5, a_if1 (fun a => a < 0) 6 [] 4 [false, false, false, false, false, false, true]],
  [a_ldI 6, a_i2l, a_push (vL 1), a_push (vL 99), a_call 109 3 1 6, a_if1 (fun a => a = 0) 6 [] 5 []],
  [a_push (vI 1), a_go 7 []],
  [a_push (vI 0), a_go 7 []],
  [a_retZ 0 1]]
/-- M_night -/
def B_218 : List (List zA) := [[a_ldR 0, a_ldI 1, a_ldI 2, a_ldI 3, a_ldI 4, a_ldI 5, a_ldI 6, a_callV 217 7 1 7 11, a_if1 (fun a => a = 0) 2 [] 1 [true, true, true, true, true, true, true, true]],
  [a_ldI 7, a_i2l, a_push (vL 0), a_push (vL 6), a_call 109 3 1 6, a_if1 (fun a => a = 0) 2 [] 3 [true, true, true, true, true, true, true, true]],
  [a_push (vI (-1)), a_retI],
  [a_ldR 0, a_ldI 5, a_i2l, a_pL 11 43, a_ldR 0, a_ldI 1, a_push (vI 12), a_ldI 3, i_imul, a_ldI 2, i_iadd, a_ldI 4, a_ldI 6, a_callV 216 5 0 6 11, a_ldI 7, a_sw 0 [(4, [true]), (5, [true]), (6, [true]), (7, [true]), (8, [true]), (9, [true])] 10 [true]],
  [a_ldR 0, a_gI 11 44, a_retI],
  [a_ldR 0, a_gI 11 45, a_retI],
  [a_ldR 0, a_gI 11 46, a_push (vI 12), i_irem, a_retI],
  [a_ldR 0, a_gI 11 46, a_push (vI 12), i_idiv, a_retI],
  [a_ldR 0, a_gI 11 47, a_retI],
  [a_ldR 0, a_gI 11 49, a_retI],
  [a_ldR 0, a_ldR 0, a_gS 11 71, a_push (vI 0), a_ldR 0, a_ldR 0, a_gS 11 71, a_push (vI 0), a_callV 189 3 1 5 11, a_callV 187 4 2 5 11, a_push (vL 1000000), i_ldiv, a_l2i, a_retI]]
/-- M_sums -/
def B_219 : List (List zA) := [[a_ldR 0, a_ldI 4, a_i2l, a_pL 11 43, a_ldR 0, a_gS 11 76, a_push (vI 0), a_push (vI 0), a_sN 76 3, a_ldR 0, a_gS 11 76, a_push (vI 1), a_push (vI 0), a_sN 76 3, a_ldR 0, a_gS 11 76, a_push (vI 2), a_push (vI 0), a_sN 76 3, a_push (vI 0), a_stI 7, a_go 1 [true, true, true, true, false, true, true, true]],
  [a_ldI 7, a_ldI 6, a_if2 (fun a b => b ≤ a) 5 [] 2 [true, true, true, true, false, true, true, true]],
  [a_ldR 0, a_ldI 1, a_ldI 2, a_ldI 3, a_ldI 5, a_callV 216 5 0 6 11, a_ldR 0, a_gI 11 44, a_if1 (fun a => a ≤ 0) 4 [true, true, true, true, false, true, true, true] 3 [true, true, true, true, false, true, true, true]],
  [a_ldR 0, a_gS 11 76, a_ldR 0, a_gI 11 44, a_push (vI 1), i_isub, a_dup2, a_aI 76 3, a_push (vI 1), i_iadd, a_sN 76 3, a_go 4 [true, true, true, true, false, true, true, true]],
  [a_ldR 0, a_gS 11 76, a_push (vI 2), a_dup2, a_aI 76 3, a_ldR 0, a_gI 11 45, i_iadd, a_sN 76 3, a_iinc 7 1, a_go 1 [true, true, true, true, false, true, true, true]],
  [a_retV]]
/-- M_nights -/
def B_220 : List (List zA) := [[a_ldR 0, a_ldI 1, a_ldI 2, a_ldI 3, a_ldI 4, a_ldI 5, a_ldI 6, a_callV 217 7 1 7 11, a_if1 (fun a => a = 0) 3 [] 1 [true, true, true, true, true, true, true, true, true]],
  [a_ldI 7, a_i2l, a_push (vL 1), a_push (vL 9), a_call 109 3 1 6, a_if1 (fun a => a = 0) 3 [] 2 [true, true, true, true, true, true, true, true, true]],
  [a_ldI 8, a_i2l, a_push (vL 0), a_push (vL 2), a_call 109 3 1 6, a_if1 (fun a => a = 0) 3 [] 4 [true, true, true, true, true, true, true, true, true]],
  [a_push (vI (-1)), a_retI],
  [a_ldR 0, a_ldI 1, a_push (vI 12), a_ldI 3, i_imul, a_ldI 2, i_iadd, a_ldI 4, a_ldI 5, a_ldI 6, a_ldI 7, a_callV 219 7 0 8 11, a_ldR 0, a_gS 11 76, a_ldI 8, a_aI 76 3, a_retI]]
/-- M_finest -/
def B_221 : List (List zA) := [[a_ldR 0, a_callV 166 1 1 1 11, a_if1 (fun a => a = 0) 5 [] 1 [true, true, true, true, true, true, true]],
  [a_ldR 0, a_ldR 0, a_callV 164 1 1 1 11, a_ldI 1, a_ldI 2, a_ldI 3, a_callV 168 5 1 5 11, a_if1 (fun a => a = 0) 5 [] 2 [true, true, true, true, true, true, true]],
  [a_ldI 4, a_if1 (fun a => a < 0) 5 [] 3 [true, true, true, true, true, true, true]],
  [a_ldI 5, a_i2l, a_push (vL 1), a_push (vL 99), a_call 109 3 1 6, a_if1 (fun a => a = 0) 5 [] 4 [true, true, true, true, true, true, true]],
  [a_ldI 6, a_i2l, a_push (vL 1), a_push (vL 9), a_call 109 3 1 6, a_if1 (fun a => a = 0) 5 [] 6 [true, true, true, true, true, true, true]],
  [a_push (vI (-1)), a_retI],
  [a_push (vI (-2)), a_stI 7, a_push (vI 0), a_stI 8, a_push (vI 0), a_stI 9, a_push (vI 0), a_stI 10, a_go 7 [true, true, true, true, true, true, true, true, true, true, true]],
  [a_ldI 10, a_ldR 0, a_gS 11 49, a_push (vI 2), a_aI 49 3, a_if2 (fun a b => b ≤ a) 15 [false, false, false, false, false, false, false, true] 8 [true, true, true, true, true, true, true, true, true, true, true]],
  [a_ldR 0, a_ldI 10, a_push (vI 12), a_ldI 2, i_imul, a_ldI 1, i_iadd, a_ldI 3, a_ldI 4, a_ldI 5, a_ldI 6, a_callV 219 7 0 8 11, a_ldI 7, a_if1 (fun a => a < 0) 13 [true, true, true, true, true, true, true, false, false, false, true] 9 [true, true, true, true, true, true, true, true, true, true, true]],
  [a_ldR 0, a_gS 11 76, a_push (vI 0), a_aI 76 3, a_ldI 8, a_if2 (fun a b => a < b) 14 [true, true, true, true, true, true, true, true, true, true, true] 10 [true, true, true, true, true, true, true, true, true, true, true]],
  [a_ldR 0, a_gS 11 76, a_push (vI 0), a_aI 76 3, a_ldI 8, a_if2 (fun a b => a = b) 11 [true, true, true, true, true, true, true, true, true, true, true] 13 [true, true, true, true, true, true, true, false, false, false, true]],
  [a_ldR 0, a_gS 11 76, a_push (vI 1), a_aI 76 3, a_ldI 9, a_if2 (fun a b => a < b) 13 [true, true, true, true, true, true, true, false, false, false, true] 12 [true, true, true, true, true, true, true, true, true, true, true]],
  [a_go 14 [true, true, true, true, true, true, true, true, true, true, true]],
  [a_ldI 10, a_stI 7, a_ldR 0, a_gS 11 76, a_push (vI 0), a_aI 76 3, a_stI 8, a_ldR 0, a_gS 11 76, a_push (vI 1), a_aI 76 3, a_stI 9, a_go 14 [true, true, true, true, true, true, true, true, true, true, true]],
  [a_iinc 10 1, a_go 7 [true, true, true, true, true, true, true, true, true, true, true]],
  [a_ldI 7, a_retI]]
/-- M_count -/
def B_222 : List (List zA) := [[a_ldI 1, a_push (vI 2), a_if2 (fun a b => a ≤ b) 6 [true, true] 1 [true, true]],
  [a_ldI 1, a_push (vI 7), a_if2 (fun a b => b ≤ a) 6 [true, true] 2 [true, true]],
  [a_ldR 0, a_callV 166 1 1 1 11, a_if1 (fun a => a = 0) 4 [] 3 [true, true]],
  [a_ldR 0, a_gS 11 70, a_ldI 1, a_push (vI 1), i_isub, a_aI 70 1392, a_go 5 []],
  [a_push (vI (-1)), a_go 5 []],
  [a_retI],
  [a_ldI 1, a_push (vI 7), a_if2 (fun a b => a = b) 7 [true] 8 [true, true]],
  [a_ldR 0, a_gI 11 1, a_go 11 []],
  [a_ldI 1, a_i2l, a_push (vL 0), a_push (vL 2), a_call 109 3 1 6, a_if1 (fun a => a = 0) 10 [] 9 [true, true]],
  [a_ldR 0, a_gS 11 49, a_ldI 1, a_aI 49 3, a_go 11 []],
  [a_push (vI (-1)), a_go 11 []],
  [a_retI]]
/-- M_image -/
def B_223 : List (List zA) := [[a_ldI 1, a_i2l, a_push (vL 0), a_push (vL 3), a_call 109 3 1 6, a_if1 (fun a => a = 0) 1 [] 2 [true, true]],
  [a_push (vI (-1)), a_retI],
  [a_ldR 0, a_gS 11 78, a_ldI 1, a_push (vI 1), a_sI 78 4 0 1, a_push (vI 0), a_stI 2, a_go 3 [true, true, true]],
  [a_ldI 2, a_push (vI 1392), a_if2 (fun a b => b ≤ a) 5 [true] 4 [true, true, true]],
  [a_ldR 0, a_gS 11 77, a_push (vI 1392), a_ldI 1, i_imul, a_ldI 2, i_iadd, a_ldR 0, a_gS 11 70, a_ldI 2, a_aI 70 1392, a_sN 77 5568, a_iinc 2 1, a_go 3 [true, true, true]],
  [a_ldR 0, a_callV 166 1 1 1 11, a_if1 (fun a => a = 0) 7 [] 6 [true]],
  [a_ldR 0, a_gS 11 70, a_push (vI 2), a_aI 70 1392, a_go 8 []],
  [a_push (vI 0), a_go 8 []],
  [a_retI]]
/-- M_back -/
def B_224 : List (List zA) := [[a_ldI 1, a_i2l, a_push (vL 0), a_push (vL 3), a_call 109 3 1 6, a_if1 (fun a => a = 0) 2 [] 1 [true, true]],
  [a_ldR 0, a_gS 11 78, a_ldI 1, a_aI 78 4, a_if1 (fun a => a = 0) 2 [] 3 [true, true]],
  [a_push (vI (-1)), a_retI],
  [a_push (vI 0), a_stI 2, a_go 4 [true, true, true]],
  [a_ldI 2, a_push (vI 1392), a_if2 (fun a b => b ≤ a) 6 [true] 5 [true, true, true]],
  [a_ldR 0, a_gS 11 70, a_ldI 2, a_ldR 0, a_gS 11 77, a_push (vI 1392), a_ldI 1, i_imul, a_ldI 2, i_iadd, a_aI 77 5568, a_sN 70 1392, a_iinc 2 1, a_go 4 [true, true, true]],
  [a_ldR 0, a_callV 166 1 1 1 11, a_if1 (fun a => a = 0) 8 [] 7 [true]],
  [a_ldR 0, a_gS 11 70, a_push (vI 2), a_aI 70 1392, a_go 9 []],
  [a_push (vI 0), a_go 9 []],
  [a_retI]]
/-- J_bitCount -/
def B_225 : List (List zA) := [[a_ldI 0, a_ldI 0, a_push (vI 1), i_iushr, a_push (vI 1431655765), i_iand, i_isub, a_stI 0, a_ldI 0, a_push (vI 858993459), i_iand, a_ldI 0, a_push (vI 2), i_iushr, a_push (vI 858993459), i_iand, i_iadd, a_stI 0, a_ldI 0, a_ldI 0, a_push (vI 4), i_iushr, i_iadd, a_push (vI 252645135), i_iand, a_stI 0, a_ldI 0, a_ldI 0, a_push (vI 8), i_iushr, i_iadd, a_stI 0, a_ldI 0, a_ldI 0, a_push (vI 16), i_iushr, i_iadd, a_stI 0, a_ldI 0, a_push (vI 63), i_iand, a_retI]]
/-- J_rangeCheck -/
def B_226 : List (List zA) := [[a_ldI 1, a_ldI 2, a_if2 (fun a b => a ≤ b) 2 [true, true, true] 1 [false, true, true]],
  [a_dead],
  [a_ldI 1, a_if1 (fun a => 0 ≤ a) 4 [true, false, true] 3 [false, true]],
  [a_dead],
  [a_ldI 2, a_ldI 0, a_if2 (fun a b => a ≤ b) 6 [] 5 [false, false, true]],
  [a_dead],
  [a_retV]]
/-- J_fillL -/
def B_227 : List (List zA) := [[a_push (vI 0), a_stI 3, a_ldR 0, a_lenX, a_stI 4, a_go 1 [true, true, false, true, true]],
  [a_ldI 3, a_ldI 4, a_if2 (fun a b => b ≤ a) 3 [] 2 [true, true, false, true, true]],
  [a_ldR 0, a_ldI 3, a_ldL 1, a_sLX, a_iinc 3 1, a_go 1 [true, true, false, true, true]],
  [a_retV]]
/-- J_fillLr -/
def B_228 : List (List zA) := [[a_ldR 0, a_lenX, a_ldI 1, a_ldI 2, a_call 226 3 0 3, a_ldI 1, a_stI 5, a_go 1 [true, false, true, true, false, true]],
  [a_ldI 5, a_ldI 2, a_if2 (fun a b => b ≤ a) 3 [] 2 [true, false, true, true, false, true]],
  [a_ldR 0, a_ldI 5, a_ldL 3, a_sLX, a_iinc 5 1, a_go 1 [true, false, true, true, false, true]],
  [a_retV]]
/-- J_fillI -/
def B_229 : List (List zA) := [[a_push (vI 0), a_stI 2, a_ldR 0, a_lenX, a_stI 3, a_go 1 [true, true, true, true]],
  [a_ldI 2, a_ldI 3, a_if2 (fun a b => b ≤ a) 3 [] 2 [true, true, true, true]],
  [a_ldR 0, a_ldI 2, a_ldI 1, a_sNX, a_iinc 2 1, a_go 1 [true, true, true, true]],
  [a_retV]]
/-- J_fillIr -/
def B_230 : List (List zA) := [[a_ldR 0, a_lenX, a_ldI 1, a_ldI 2, a_call 226 3 0 3, a_ldI 1, a_stI 4, a_go 1 [true, false, true, true, true]],
  [a_ldI 4, a_ldI 2, a_if2 (fun a b => b ≤ a) 3 [] 2 [true, false, true, true, true]],
  [a_ldR 0, a_ldI 4, a_ldI 3, a_sNX, a_iinc 4 1, a_go 1 [true, false, true, true, true]],
  [a_retV]]
/-- S_length -/
def B_231 : List (List zA) := [[a_ldR 0, a_gS 12 79, a_slv, a_ldR 0, a_callV 232 1 1 1 12, i_ishr, a_retI]]
/-- S_coder -/
def B_232 : List (List zA) := [[a_push (vI 1), a_if1 (fun a => a = 0) 2 [] 1 [true]],
  [a_ldR 0, a_scod, a_go 3 []],
  [a_push (vI 1), a_go 3 []],
  [a_retZ (-128) 127]]
/-- S_charAt -/
def B_233 : List (List zA) := [[a_ldR 0, a_callV 234 1 1 1 12, a_if1 (fun a => a = 0) 2 [true, true] 1 [true, true]],
  [a_ldR 0, a_gS 12 79, a_ldI 1, a_call 235 2 1 2, a_retZ 0 65535],
  [a_ldR 0, a_gS 12 79, a_ldI 1, a_dead]]
/-- S_isLatin1 -/
def B_234 : List (List zA) := [[a_push (vI 1), a_if1 (fun a => a = 0) 3 [] 1 [true]],
  [a_ldR 0, a_scod, a_if1 (fun a => a = 0) 2 [] 3 []],
  [a_push (vI 1), a_go 4 []],
  [a_push (vI 0), a_go 4 []],
  [a_retZ 0 1]]
/-- S_charAtL -/
def B_235 : List (List zA) := [[a_ldI 1, a_ldR 0, a_slv, a_chk, a_ldR 0, a_ldI 1, a_sbl, a_push (vI 255), i_iand, i_i2c, a_retZ 0 65535]]
def zPL : List (List (List zA)) := [B_0, B_1, B_2, B_3, B_4, B_5, B_6, B_7, B_8, B_9, B_10, B_11, B_12, B_13, B_14, B_15, B_16, B_17, B_18, B_19, B_20, B_21, B_22, B_23, B_24, B_25, B_26, B_27, B_28, B_29, B_30, B_31, B_32, B_33, B_34, B_35, B_36, B_37, B_38, B_39, B_40, B_41, B_42, B_43, B_44, B_45, B_46, B_47, B_48, B_49, B_50, B_51, B_52, B_53, B_54, B_55, B_56, B_57, B_58, B_59, B_60, B_61, B_62, B_63, B_64, B_65, B_66, B_67, B_68, B_69, B_70, B_71, B_72, B_73, B_74, B_75, B_76, B_77, B_78, B_79, B_80, B_81, B_82, B_83, B_84, B_85, B_86, B_87, B_88, B_89, B_90, B_91, B_92, B_93, B_94, B_95, B_96, B_97, B_98, B_99, B_100, B_101, B_102, B_103, B_104, B_105, B_106, B_107, B_108, B_109, B_110, B_111, B_112, B_113, B_114, B_115, B_116, B_117, B_118, B_119, B_120, B_121, B_122, B_123, B_124, B_125, B_126, B_127, B_128, B_129, B_130, B_131, B_132, B_133, B_134, B_135, B_136, B_137, B_138, B_139, B_140, B_141, B_142, B_143, B_144, B_145, B_146, B_147, B_148, B_149, B_150, B_151, B_152, B_153, B_154, B_155, B_156, B_157, B_158, B_159, B_160, B_161, B_162, B_163, B_164, B_165, B_166, B_167, B_168, B_169, B_170, B_171, B_172, B_173, B_174, B_175, B_176, B_177, B_178, B_179, B_180, B_181, B_182, B_183, B_184, B_185, B_186, B_187, B_188, B_189, B_190, B_191, B_192, B_193, B_194, B_195, B_196, B_197, B_198, B_199, B_200, B_201, B_202, B_203, B_204, B_205, B_206, B_207, B_208, B_209, B_210, B_211, B_212, B_213, B_214, B_215, B_216, B_217, B_218, B_219, B_220, B_221, B_222, B_223, B_224, B_225, B_226, B_227, B_228, B_229, B_230, B_231, B_232, B_233, B_234, B_235]
def zP (y : Nat) : List (List zA) := zPL.getD y []
noncomputable def Clauses_clear (d : Nat) (a0 : Int) (w : zW) : zR := z_sem zP d 0 0 [some (vR 1 a0)] [] w
noncomputable def Clauses_add (d : Nat) (a0 : Int) (a1 : Int) (a2 : Int) (w : zW) : zR := z_sem zP d 1 0 [some (vR 1 a0), some (vI a1), some (vI a2)] [] w
noncomputable def Clauses_openOne (d : Nat) (a0 : Int) (w : zW) : zR := z_sem zP d 2 0 [some (vR 1 a0)] [] w
noncomputable def Clauses_openTest (d : Nat) (a0 : Int) (w : zW) : zR := z_sem zP d 3 0 [some (vR 1 a0)] [] w
noncomputable def Clauses_closeOne (d : Nat) (a0 : Int) (w : zW) : zR := z_sem zP d 4 0 [some (vR 1 a0)] [] w
noncomputable def Clauses_first (d : Nat) (a0 : Int) (k1 : Nat) (a2 : Int) (w : zW) : zR := z_sem zP d 5 0 [some (vR 1 a0), some (vR k1 0), some (vL a2), none] [] w
noncomputable def Clauses_first_1 (d : Nat) (l0 : Int) (k1 : Nat) (l2 : Int) (l4 : Int) (w : zW) : zR := z_sem zP d 5 1 [some (vR 1 l0), some (vR k1 0), some (vL l2), none, some (vI l4)] [] w
noncomputable def Clauses_first_4 (d : Nat) (l0 : Int) (k1 : Nat) (l4 : Int) (w : zW) : zR := z_sem zP d 5 4 [some (vR 1 l0), some (vR k1 0), none, none, some (vI l4)] [] w
noncomputable def Clauses_worth (d : Nat) (a0 : Int) (a1 : Int) (a2 : Int) (k3 : Nat) (w : zW) : zR := z_sem zP d 6 0 [some (vR 1 a0), some (vI a1), some (vI a2), some (vR k3 0)] [] w
noncomputable def Clauses_worth_1 (d : Nat) (l0 : Int) (l2 : Int) (k3 : Nat) (l4 : Int) (l5 : Int) (w : zW) : zR := z_sem zP d 6 1 [some (vR 1 l0), none, some (vI l2), some (vR k3 0), some (vI l4), some (vI l5)] [] w
noncomputable def Clauses_worth_8 (d : Nat) (l0 : Int) (l2 : Int) (k3 : Nat) (l4 : Int) (l5 : Int) (l6 : Int) (l7 : Int) (ls0 : Int) (w : zW) : zR := z_sem zP d 6 8 [some (vR 1 l0), none, some (vI l2), some (vR k3 0), some (vI l4), some (vI l5), some (vI l6), some (vI l7)] [vI ls0] w
noncomputable def Clauses_worth_14 (d : Nat) (l0 : Int) (l2 : Int) (k3 : Nat) (l4 : Int) (l5 : Int) (l6 : Int) (w : zW) : zR := z_sem zP d 6 14 [some (vR 1 l0), none, some (vI l2), some (vR k3 0), some (vI l4), some (vI l5), some (vI l6)] [] w
noncomputable def Clauses_worth_17 (d : Nat) (l0 : Int) (l2 : Int) (k3 : Nat) (l4 : Int) (l5 : Int) (l6 : Int) (w : zW) : zR := z_sem zP d 6 17 [some (vR 1 l0), none, some (vI l2), some (vR k3 0), some (vI l4), some (vI l5), some (vI l6)] [] w
noncomputable def Clauses_worth_25 (d : Nat) (l0 : Int) (l2 : Int) (k3 : Nat) (l4 : Int) (l5 : Int) (ls0 : Int) (w : zW) : zR := z_sem zP d 6 25 [some (vR 1 l0), none, some (vI l2), some (vR k3 0), some (vI l4), some (vI l5)] [vL ls0] w
noncomputable def Clauses_worth_31 (d : Nat) (l0 : Int) (l2 : Int) (k3 : Nat) (l4 : Int) (l5 : Int) (ls0 : Int) (w : zW) : zR := z_sem zP d 6 31 [some (vR 1 l0), none, some (vI l2), some (vR k3 0), some (vI l4), some (vI l5)] [vL ls0] w
noncomputable def Clauses_worth_35 (d : Nat) (l0 : Int) (l2 : Int) (k3 : Nat) (l4 : Int) (l5 : Int) (ls0 : Int) (w : zW) : zR := z_sem zP d 6 35 [some (vR 1 l0), none, some (vI l2), some (vR k3 0), some (vI l4), some (vI l5)] [vL ls0] w
noncomputable def Clauses_worth_39 (d : Nat) (l0 : Int) (l2 : Int) (k3 : Nat) (l4 : Int) (l5 : Int) (ls0 : Int) (w : zW) : zR := z_sem zP d 6 39 [some (vR 1 l0), none, some (vI l2), some (vR k3 0), some (vI l4), some (vI l5)] [vL ls0] w
noncomputable def Clauses_worth_42 (d : Nat) (l0 : Int) (l4 : Int) (w : zW) : zR := z_sem zP d 6 42 [some (vR 1 l0), none, none, none, some (vI l4)] [] w
noncomputable def Law_clear (d : Nat) (a0 : Int) (w : zW) : zR := z_sem zP d 7 0 [some (vR 2 a0)] [] w
noncomputable def Law_seeing (d : Nat) (a0 : Int) (a1 : Int) (w : zW) : zR := z_sem zP d 8 0 [some (vR 2 a0), some (vI a1)] [] w
noncomputable def Night_play (d : Nat) (a2 : Int) (a3 : Int) (a4 : Int) (a5 : Int) (a6 : Int) (w : zW) : zR := z_sem zP d 9 0 [some (vR 3 0), some (vR 7 0), some (vR 1 a2), some (vI a3), some (vI a4), some (vI a5), some (vI a6)] [] w
noncomputable def Night_play_1 (d : Nat) (l2 : Int) (l3 : Int) (l5 : Int) (l6 : Int) (l7 : Int) (w : zW) : zR := z_sem zP d 9 1 [some (vR 3 0), some (vR 7 0), some (vR 1 l2), some (vI l3), none, some (vI l5), some (vI l6), some (vI l7)] [] w
noncomputable def Night_play_3 (d : Nat) (l2 : Int) (l3 : Int) (l5 : Int) (l6 : Int) (l7 : Int) (l8 : Int) (w : zW) : zR := z_sem zP d 9 3 [some (vR 3 0), some (vR 7 0), some (vR 1 l2), some (vI l3), none, some (vI l5), some (vI l6), some (vI l7), some (vI l8)] [] w
noncomputable def Night_play_6 (d : Nat) (l2 : Int) (l3 : Int) (l5 : Int) (l6 : Int) (l7 : Int) (w : zW) : zR := z_sem zP d 9 6 [some (vR 3 0), some (vR 7 0), some (vR 1 l2), some (vI l3), none, some (vI l5), some (vI l6), some (vI l7)] [] w
noncomputable def Night_play_9 (d : Nat) (l2 : Int) (l3 : Int) (l5 : Int) (l6 : Int) (l7 : Int) (ls1 : Int) (ls2 : Int) (w : zW) : zR := z_sem zP d 9 9 [some (vR 3 0), some (vR 7 0), some (vR 1 l2), some (vI l3), none, some (vI l5), some (vI l6), some (vI l7)] [vI ls2, vI ls1, vR 3 0] w
noncomputable def Night_play_12 (d : Nat) (l2 : Int) (l3 : Int) (l5 : Int) (l6 : Int) (l7 : Int) (ls1 : Int) (ls2 : Int) (w : zW) : zR := z_sem zP d 9 12 [some (vR 3 0), some (vR 7 0), some (vR 1 l2), some (vI l3), none, some (vI l5), some (vI l6), some (vI l7)] [vI ls2, vI ls1, vR 3 0] w
noncomputable def Night_begin (d : Nat) (a1 : Int) (a2 : Int) (w : zW) : zR := z_sem zP d 10 0 [some (vR 3 0), some (vI a1), some (vI a2)] [] w
noncomputable def Night_draw (d : Nat) (w : zW) : zR := z_sem zP d 11 0 [some (vR 3 0)] [] w
noncomputable def Night_round (d : Nat) (a2 : Int) (w : zW) : zR := z_sem zP d 12 0 [some (vR 3 0), some (vR 7 0), some (vR 1 a2)] [] w
noncomputable def Night_round_7 (d : Nat) (l3 : Int) (w : zW) : zR := z_sem zP d 12 7 [some (vR 3 0), some (vR 7 0), none, some (vI l3)] [] w
noncomputable def Night_takeStock (d : Nat) (a1 : Int) (w : zW) : zR := z_sem zP d 13 0 [some (vR 3 0), some (vR 9 a1)] [] w
noncomputable def Night_strikeOne (d : Nat) (w : zW) : zR := z_sem zP d 14 0 [some (vR 3 0), some (vR 7 0)] [] w
noncomputable def Night_goTruly (d : Nat) (w : zW) : zR := z_sem zP d 15 0 [some (vR 3 0), some (vR 7 0)] [] w
noncomputable def Night_goTruly_7 (d : Nat) (l5 : Int) (w : zW) : zR := z_sem zP d 15 7 [some (vR 3 0), some (vR 7 0), none, none, none, some (vI l5)] [] w
noncomputable def Night_perceive (d : Nat) (w : zW) : zR := z_sem zP d 16 0 [some (vR 3 0), some (vR 7 0)] [] w
noncomputable def Night_perceive_2 (d : Nat) (l2 : Int) (l3 : Int) (l4 : Int) (w : zW) : zR := z_sem zP d 16 2 [some (vR 3 0), some (vR 7 0), some (vR 9 l2), some (vR 2 l3), some (vI l4)] [] w
noncomputable def Night_perceive_4 (d : Nat) (l2 : Int) (l3 : Int) (w : zW) : zR := z_sem zP d 16 4 [some (vR 3 0), some (vR 7 0), some (vR 9 l2), some (vR 2 l3)] [] w
noncomputable def Night_perceive_6 (d : Nat) (l2 : Int) (l3 : Int) (l5 : Int) (w : zW) : zR := z_sem zP d 16 6 [some (vR 3 0), some (vR 7 0), some (vR 9 l2), some (vR 2 l3), none, some (vI l5)] [] w
noncomputable def Night_perceive_8 (d : Nat) (l2 : Int) (l3 : Int) (w : zW) : zR := z_sem zP d 16 8 [some (vR 3 0), some (vR 7 0), some (vR 9 l2), some (vR 2 l3)] [] w
noncomputable def Night_perceive_14 (d : Nat) (l6 : Int) (w : zW) : zR := z_sem zP d 16 14 [some (vR 3 0), some (vR 7 0), none, none, none, none, some (vI l6)] [] w
noncomputable def Odds_begin (d : Nat) (a0 : Int) (a1 : Int) (a2 : Int) (w : zW) : zR := z_sem zP d 17 0 [some (vR 4 a0), some (vI a1), some (vI a2)] [] w
noncomputable def Odds_copyFrom (d : Nat) (a0 : Int) (a1 : Int) (w : zW) : zR := z_sem zP d 18 0 [some (vR 4 a0), some (vR 4 a1)] [] w
noncomputable def Odds_happens (d : Nat) (a0 : Int) (a1 : Int) (a2 : Int) (a3 : Int) (w : zW) : zR := z_sem zP d 19 0 [some (vR 4 a0), some (vI a1), some (vI a2), some (vI a3), some (vR 7 0)] [] w
noncomputable def Odds_happens_9 (d : Nat) (l0 : Int) (w : zW) : zR := z_sem zP d 19 9 [some (vR 4 l0)] [] w
noncomputable def Odds_turned (d : Nat) (a0 : Int) (a1 : Int) (w : zW) : zR := z_sem zP d 20 0 [some (vI a0), some (vI a1)] [] w
noncomputable def Odds_turn (d : Nat) (a0 : Int) (a1 : Int) (a2 : Int) (w : zW) : zR := z_sem zP d 21 0 [some (vR 4 a0), some (vI a1), some (vR 9 a2)] [] w
noncomputable def Odds_turn_1 (d : Nat) (l0 : Int) (l1 : Int) (l2 : Int) (l3 : Int) (w : zW) : zR := z_sem zP d 21 1 [some (vR 4 l0), some (vI l1), some (vR 9 l2), some (vI l3)] [] w
noncomputable def Odds_turn_3 (d : Nat) (l0 : Int) (l1 : Int) (l2 : Int) (l3 : Int) (l4 : Int) (l5 : Int) (w : zW) : zR := z_sem zP d 21 3 [some (vR 4 l0), some (vI l1), some (vR 9 l2), some (vI l3), some (vI l4), some (vI l5)] [] w
noncomputable def Odds_go (d : Nat) (a0 : Int) (w : zW) : zR := z_sem zP d 22 0 [some (vR 4 a0), some (vR 7 0)] [] w
noncomputable def Odds_go_1 (d : Nat) (l0 : Int) (l2 : Int) (l4 : Int) (w : zW) : zR := z_sem zP d 22 1 [some (vR 4 l0), some (vR 7 0), some (vR 9 l2), some (vR 25 0), some (vI l4)] [] w
noncomputable def Odds_go_3 (d : Nat) (l0 : Int) (l2 : Int) (l4 : Int) (l5 : Int) (l6 : Int) (l7 : Int) (l8 : Int) (w : zW) : zR := z_sem zP d 22 3 [some (vR 4 l0), some (vR 7 0), some (vR 9 l2), some (vR 25 0), some (vI l4), some (vI l5), some (vI l6), some (vI l7), some (vI l8)] [] w
noncomputable def Odds_comeTo (d : Nat) (a0 : Int) (a1 : Int) (a2 : Int) (a3 : Int) (w : zW) : zR := z_sem zP d 23 0 [some (vR 9 a0), some (vI a1), some (vI a2), some (vI a3)] [] w
noncomputable def Odds_weigh (d : Nat) (a0 : Int) (w : zW) : zR := z_sem zP d 24 0 [some (vR 4 a0), some (vR 7 0)] [] w
noncomputable def Odds_weigh_1 (d : Nat) (l0 : Int) (l2 : Int) (l4 : Int) (l6 : Int) (w : zW) : zR := z_sem zP d 24 1 [some (vR 4 l0), some (vR 7 0), some (vR 9 l2), some (vR 25 0), some (vL l4), none, some (vI l6)] [] w
noncomputable def Odds_weigh_3 (d : Nat) (l0 : Int) (l2 : Int) (l4 : Int) (l6 : Int) (l7 : Int) (l8 : Int) (w : zW) : zR := z_sem zP d 24 3 [some (vR 4 l0), some (vR 7 0), some (vR 9 l2), some (vR 25 0), some (vL l4), none, some (vI l6), some (vI l7), some (vI l8)] [] w
noncomputable def Odds_weigh_9 (d : Nat) (l0 : Int) (l4 : Int) (l6 : Int) (w : zW) : zR := z_sem zP d 24 9 [some (vR 4 l0), none, none, some (vR 25 0), some (vL l4), none, some (vI l6)] [] w
noncomputable def Odds_weightAt (d : Nat) (a0 : Int) (a1 : Int) (a2 : Int) (w : zW) : zR := z_sem zP d 25 0 [some (vR 4 a0), some (vI a1), some (vI a2)] [] w
noncomputable def Odds_weightAt_3 (d : Nat) (l0 : Int) (l3 : Int) (w : zW) : zR := z_sem zP d 25 3 [some (vR 4 l0), none, none, some (vI l3)] [] w
noncomputable def Odds_inArea (d : Nat) (a0 : Int) (a1 : Int) (a2 : Int) (a3 : Int) (w : zW) : zR := z_sem zP d 26 0 [some (vR 4 a0), some (vI a1), some (vI a2), some (vI a3)] [] w
noncomputable def Odds_inArea_1 (d : Nat) (l0 : Int) (l1 : Int) (l2 : Int) (l3 : Int) (l4 : Int) (l6 : Int) (w : zW) : zR := z_sem zP d 26 1 [some (vR 4 l0), some (vI l1), some (vI l2), some (vI l3), some (vL l4), none, some (vI l6)] [] w
noncomputable def Odds_inArea_4 (d : Nat) (l0 : Int) (l1 : Int) (l2 : Int) (l3 : Int) (l4 : Int) (l6 : Int) (l7 : Int) (w : zW) : zR := z_sem zP d 26 4 [some (vR 4 l0), some (vI l1), some (vI l2), some (vI l3), some (vL l4), none, some (vI l6), some (vI l7)] [] w
noncomputable def Odds_onPath (d : Nat) (a0 : Int) (a1 : Int) (w : zW) : zR := z_sem zP d 27 0 [some (vR 4 a0), some (vR 9 a1)] [] w
noncomputable def Odds_onPath_1 (d : Nat) (l0 : Int) (l1 : Int) (l2 : Int) (l4 : Int) (w : zW) : zR := z_sem zP d 27 1 [some (vR 4 l0), some (vR 9 l1), some (vL l2), none, some (vI l4)] [] w
noncomputable def Odds_surest (d : Nat) (a0 : Int) (a1 : Int) (w : zW) : zR := z_sem zP d 28 0 [some (vR 4 a0), some (vR 9 a1)] [] w
noncomputable def Odds_surest_1 (d : Nat) (l0 : Int) (l1 : Int) (l2 : Int) (l3 : Int) (l5 : Int) (w : zW) : zR := z_sem zP d 28 1 [some (vR 4 l0), some (vR 9 l1), some (vI l2), some (vL l3), none, some (vI l5)] [] w
noncomputable def Odds_sure (d : Nat) (a0 : Int) (a1 : Int) (w : zW) : zR := z_sem zP d 29 0 [some (vR 4 a0), some (vR 9 a1)] [] w
noncomputable def Odds_risk (d : Nat) (a0 : Int) (a1 : Int) (w : zW) : zR := z_sem zP d 30 0 [some (vR 4 a0), some (vR 9 a1)] [] w
noncomputable def Odds_risk_1 (d : Nat) (l0 : Int) (l1 : Int) (l2 : Int) (l4 : Int) (w : zW) : zR := z_sem zP d 30 1 [some (vR 4 l0), some (vR 9 l1), some (vL l2), none, some (vI l4)] [] w
noncomputable def Odds_takeFrom (d : Nat) (a0 : Int) (a1 : Int) (w : zW) : zR := z_sem zP d 31 0 [some (vR 4 a0), some (vI a1)] [] w
noncomputable def Reader_put (d : Nat) (a1 : Int) (w : zW) : zR := z_sem zP d 32 0 [some (vR 5 0), some (vI a1)] [] w
noncomputable def Reader_put_1 (d : Nat) (l1 : Int) (l2 : Int) (w : zW) : zR := z_sem zP d 32 1 [some (vR 5 0), some (vI l1), some (vI l2)] [] w
noncomputable def Reader_start (d : Nat) (w : zW) : zR := z_sem zP d 33 0 [some (vR 5 0)] [] w
noncomputable def Reader_next (d : Nat) (w : zW) : zR := z_sem zP d 34 0 [some (vR 5 0)] [] w
noncomputable def Reader_next_3 (d : Nat) (l1 : Int) (w : zW) : zR := z_sem zP d 34 3 [some (vR 5 0), some (vI l1)] [] w
noncomputable def Reader_next_6 (d : Nat) (l1 : Int) (w : zW) : zR := z_sem zP d 34 6 [some (vR 5 0), some (vI l1)] [] w
noncomputable def Reader_next_11 (d : Nat) (l1 : Int) (w : zW) : zR := z_sem zP d 34 11 [some (vR 5 0), some (vI l1)] [] w
noncomputable def Reader_next_15 (d : Nat) (l1 : Int) (w : zW) : zR := z_sem zP d 34 15 [some (vR 5 0), some (vI l1)] [] w
noncomputable def Reader_next_18 (d : Nat) (l1 : Int) (w : zW) : zR := z_sem zP d 34 18 [some (vR 5 0), some (vI l1)] [] w
noncomputable def Reader_next_22 (d : Nat) (l1 : Int) (w : zW) : zR := z_sem zP d 34 22 [some (vR 5 0), some (vI l1)] [] w
noncomputable def Reader_next_24 (d : Nat) (l1 : Int) (w : zW) : zR := z_sem zP d 34 24 [some (vR 5 0), some (vI l1)] [] w
noncomputable def Reader_refuse (d : Nat) (a1 : Int) (w : zW) : zR := z_sem zP d 35 0 [some (vR 5 0), some (vI a1)] [] w
noncomputable def Reader_wordIn (d : Nat) (a1 : Int) (w : zW) : zR := z_sem zP d 36 0 [some (vR 5 0), some (vR 12 a1)] [] w
noncomputable def Reader_wordIn_3 (d : Nat) (l1 : Int) (l2 : Int) (l3 : Int) (l4 : Int) (l5 : Int) (w : zW) : zR := z_sem zP d 36 3 [some (vR 5 0), some (vR 12 l1), some (vI l2), some (vI l3), some (vI l4), some (vI l5)] [] w
noncomputable def Reader_wordIn_6 (d : Nat) (l1 : Int) (l2 : Int) (l3 : Int) (l4 : Int) (l5 : Int) (w : zW) : zR := z_sem zP d 36 6 [some (vR 5 0), some (vR 12 l1), some (vI l2), some (vI l3), some (vI l4), some (vI l5)] [] w
noncomputable def Reader_digits (d : Nat) (w : zW) : zR := z_sem zP d 37 0 [some (vR 5 0)] [] w
noncomputable def Reader_digits_1 (d : Nat) (l1 : Int) (l2 : Int) (w : zW) : zR := z_sem zP d 37 1 [some (vR 5 0), some (vI l1), some (vI l2)] [] w
noncomputable def Reader_number (d : Nat) (a1 : Int) (a2 : Int) (w : zW) : zR := z_sem zP d 38 0 [some (vR 5 0), some (vI a1), some (vI a2)] [] w
noncomputable def Reader_opened (d : Nat) (a1 : Int) (a2 : Int) (a3 : Int) (w : zW) : zR := z_sem zP d 39 0 [some (vR 5 0), some (vR 12 a1), some (vI a2), some (vI a3)] [] w
noncomputable def Reader_goesOn (d : Nat) (w : zW) : zR := z_sem zP d 40 0 [some (vR 5 0)] [] w
noncomputable def Reader_readWood (d : Nat) (a1 : Int) (w : zW) : zR := z_sem zP d 41 0 [some (vR 5 0), some (vR 9 a1)] [] w
noncomputable def Reader_readWood_1 (d : Nat) (l1 : Int) (l2 : Int) (l3 : Int) (l4 : Int) (w : zW) : zR := z_sem zP d 41 1 [some (vR 5 0), some (vR 9 l1), some (vI l2), some (vI l3), some (vI l4)] [] w
noncomputable def Reader_readWood_8 (d : Nat) (l1 : Int) (l3 : Int) (l4 : Int) (l5 : Int) (ls0 : Int) (w : zW) : zR := z_sem zP d 41 8 [some (vR 5 0), some (vR 9 l1), none, some (vI l3), some (vI l4), some (vI l5)] [vI ls0] w
noncomputable def Reader_readWood_12 (d : Nat) (l1 : Int) (l3 : Int) (l4 : Int) (l5 : Int) (w : zW) : zR := z_sem zP d 41 12 [some (vR 5 0), some (vR 9 l1), none, some (vI l3), some (vI l4), some (vI l5)] [] w
noncomputable def Reader_readWood_20 (d : Nat) (l1 : Int) (l3 : Int) (l4 : Int) (l5 : Int) (w : zW) : zR := z_sem zP d 41 20 [some (vR 5 0), some (vR 9 l1), none, some (vI l3), some (vI l4), some (vI l5)] [] w
noncomputable def Reader_readArea (d : Nat) (a1 : Int) (a2 : Int) (w : zW) : zR := z_sem zP d 42 0 [some (vR 5 0), some (vR 9 a1), some (vI a2)] [] w
noncomputable def Reader_readArea_8 (d : Nat) (l3 : Int) (k4 : Nat) (l4 : Int) (w : zW) : zR := z_sem zP d 42 8 [some (vR 5 0), none, none, some (vI l3), some (vR k4 l4)] [] w
noncomputable def Reader_readArea_10 (d : Nat) (l3 : Int) (k4 : Nat) (l4 : Int) (l5 : Int) (l7 : Int) (l8 : Int) (l9 : Int) (w : zW) : zR := z_sem zP d 42 10 [none, none, none, some (vI l3), some (vR k4 l4), some (vI l5), none, some (vI l7), some (vI l8), some (vI l9)] [] w
noncomputable def Reader_readLaw (d : Nat) (a1 : Int) (w : zW) : zR := z_sem zP d 43 0 [some (vR 5 0), some (vR 2 a1)] [] w
noncomputable def Reader_readLaw_1 (d : Nat) (l1 : Int) (l2 : Int) (l3 : Int) (l4 : Int) (w : zW) : zR := z_sem zP d 43 1 [some (vR 5 0), some (vR 2 l1), some (vI l2), some (vI l3), some (vI l4)] [] w
noncomputable def Reader_readLaw_7 (d : Nat) (l1 : Int) (l3 : Int) (l4 : Int) (l5 : Int) (w : zW) : zR := z_sem zP d 43 7 [some (vR 5 0), some (vR 2 l1), none, some (vI l3), some (vI l4), some (vI l5)] [] w
noncomputable def Reader_readLaw_19 (d : Nat) (l1 : Int) (l3 : Int) (l4 : Int) (l5 : Int) (w : zW) : zR := z_sem zP d 43 19 [some (vR 5 0), some (vR 2 l1), none, some (vI l3), some (vI l4), some (vI l5)] [] w
noncomputable def Reader_readRule (d : Nat) (a1 : Int) (w : zW) : zR := z_sem zP d 44 0 [some (vR 5 0), some (vR 1 a1)] [] w
noncomputable def Reader_readRule_1 (d : Nat) (l2 : Int) (l3 : Int) (w : zW) : zR := z_sem zP d 44 1 [some (vR 5 0), none, some (vI l2), some (vI l3)] [] w
noncomputable def Reader_opensTest (d : Nat) (w : zW) : zR := z_sem zP d 45 0 [some (vR 5 0)] [] w
noncomputable def Reader_test (d : Nat) (a1 : Int) (w : zW) : zR := z_sem zP d 46 0 [some (vR 5 0), some (vI a1)] [] w
noncomputable def Reader_test_1 (d : Nat) (l1 : Int) (l2 : Int) (l3 : Int) (w : zW) : zR := z_sem zP d 46 1 [some (vR 5 0), some (vI l1), some (vI l2), some (vI l3)] [] w
noncomputable def Reader_test_6 (d : Nat) (l1 : Int) (l2 : Int) (l3 : Int) (l4 : Int) (w : zW) : zR := z_sem zP d 46 6 [some (vR 5 0), some (vI l1), some (vI l2), some (vI l3), some (vI l4)] [] w
noncomputable def Reader_test_10 (d : Nat) (l1 : Int) (l3 : Int) (l4 : Int) (ls0 : Int) (w : zW) : zR := z_sem zP d 46 10 [some (vR 5 0), some (vI l1), none, some (vI l3), some (vI l4)] [vI ls0] w
noncomputable def Reader_fact (d : Nat) (a1 : Int) (w : zW) : zR := z_sem zP d 47 0 [some (vR 5 0), some (vI a1)] [] w
noncomputable def Reader_fact_1 (d : Nat) (l1 : Int) (l2 : Int) (l3 : Int) (w : zW) : zR := z_sem zP d 47 1 [some (vR 5 0), some (vI l1), some (vI l2), some (vI l3)] [] w
noncomputable def Reader_fact_4 (d : Nat) (l1 : Int) (l2 : Int) (w : zW) : zR := z_sem zP d 47 4 [some (vR 5 0), some (vI l1), some (vI l2)] [] w
noncomputable def Reader_fact_7 (d : Nat) (l1 : Int) (l2 : Int) (w : zW) : zR := z_sem zP d 47 7 [some (vR 5 0), some (vI l1), some (vI l2)] [] w
noncomputable def Reader_fact_16 (d : Nat) (l1 : Int) (l2 : Int) (l3 : Int) (w : zW) : zR := z_sem zP d 47 16 [some (vR 5 0), some (vI l1), some (vI l2), some (vI l3)] [] w
noncomputable def Reader_fact_19 (d : Nat) (l2 : Int) (l3 : Int) (w : zW) : zR := z_sem zP d 47 19 [some (vR 5 0), none, some (vI l2), some (vI l3)] [] w
noncomputable def Reader_addComparison (d : Nat) (a1 : Int) (w : zW) : zR := z_sem zP d 48 0 [some (vR 5 0), some (vI a1)] [] w
noncomputable def Reader_deeper (d : Nat) (a1 : Int) (w : zW) : zR := z_sem zP d 49 0 [some (vR 5 0), some (vI a1)] [] w
noncomputable def Reader_countPart (d : Nat) (w : zW) : zR := z_sem zP d 50 0 [some (vR 5 0)] [] w
noncomputable def Reader_sum (d : Nat) (w : zW) : zR := z_sem zP d 51 0 [some (vR 5 0)] [] w
noncomputable def Reader_sum_1 (d : Nat) (l1 : Int) (l2 : Int) (w : zW) : zR := z_sem zP d 51 1 [some (vR 5 0), some (vI l1), some (vI l2)] [] w
noncomputable def Reader_sum_6 (d : Nat) (l1 : Int) (l2 : Int) (w : zW) : zR := z_sem zP d 51 6 [some (vR 5 0), some (vI l1), some (vI l2)] [] w
noncomputable def Reader_sum_10 (d : Nat) (l1 : Int) (l2 : Int) (l3 : Int) (ls0 : Int) (w : zW) : zR := z_sem zP d 51 10 [some (vR 5 0), some (vI l1), some (vI l2), some (vI l3)] [vI ls0] w
noncomputable def Reader_sum_13 (d : Nat) (l1 : Int) (l2 : Int) (l3 : Int) (l4 : Int) (w : zW) : zR := z_sem zP d 51 13 [some (vR 5 0), some (vI l1), some (vI l2), some (vI l3), some (vI l4)] [] w
noncomputable def Reader_value (d : Nat) (w : zW) : zR := z_sem zP d 52 0 [some (vR 5 0)] [] w
noncomputable def Reader_value_3 (d : Nat) (w : zW) : zR := z_sem zP d 52 3 [some (vR 5 0)] [] w
noncomputable def Rows_begin (d : Nat) (a1 : Int) (a2 : Int) (w : zW) : zR := z_sem zP d 53 0 [some (vR 6 0), some (vR 4 a1), some (vR 9 a2)] [] w
noncomputable def Rows_step (d : Nat) (a1 : Int) (a2 : Int) (w : zW) : zR := z_sem zP d 54 0 [some (vR 6 0), some (vI a1), some (vI a2), some (vR 7 0)] [] w
noncomputable def Rows_step_2 (d : Nat) (l1 : Int) (l2 : Int) (l4 : Int) (w : zW) : zR := z_sem zP d 54 2 [some (vR 6 0), some (vI l1), some (vI l2), some (vR 7 0), some (vR 4 l4)] [] w
noncomputable def Rows_best (d : Nat) (a1 : Int) (a2 : Int) (w : zW) : zR := z_sem zP d 55 0 [some (vR 6 0), some (vR 4 a1), some (vI a2), some (vR 7 0)] [] w
noncomputable def Rows_best_1 (d : Nat) (l2 : Int) (l4 : Int) (l5 : Int) (l7 : Int) (l9 : Int) (w : zW) : zR := z_sem zP d 55 1 [some (vR 6 0), none, some (vI l2), some (vR 7 0), some (vI l4), some (vL l5), none, some (vL l7), none, some (vI l9)] [] w
noncomputable def Rows_best_3 (d : Nat) (l2 : Int) (l4 : Int) (l5 : Int) (l7 : Int) (l9 : Int) (l10 : Int) (l11 : Int) (w : zW) : zR := z_sem zP d 55 3 [some (vR 6 0), none, some (vI l2), some (vR 7 0), some (vI l4), some (vL l5), none, some (vL l7), none, some (vI l9), some (vI l10), some (vI l11)] [] w
noncomputable def Rows_best_6 (d : Nat) (l2 : Int) (l4 : Int) (l5 : Int) (l7 : Int) (l9 : Int) (l10 : Int) (w : zW) : zR := z_sem zP d 55 6 [some (vR 6 0), none, some (vI l2), some (vR 7 0), some (vI l4), some (vL l5), none, some (vL l7), none, some (vI l9), some (vI l10)] [] w
noncomputable def Rows_best_12 (d : Nat) (l2 : Int) (l4 : Int) (l5 : Int) (l7 : Int) (l9 : Int) (l11 : Int) (ls0 : Int) (w : zW) : zR := z_sem zP d 55 12 [some (vR 6 0), none, some (vI l2), some (vR 7 0), some (vI l4), some (vL l5), none, some (vL l7), none, some (vI l9), none, some (vI l11)] [vI ls0] w
noncomputable def Rows_best_18 (d : Nat) (l2 : Int) (l9 : Int) (l11 : Int) (w : zW) : zR := z_sem zP d 55 18 [some (vR 6 0), none, some (vI l2), some (vR 7 0), none, none, none, none, none, some (vI l9), none, some (vI l11)] [] w
noncomputable def Rows_turnedAround (d : Nat) (a0 : Int) (a1 : Int) (w : zW) : zR := z_sem zP d 56 0 [some (vI a0), some (vI a1)] [] w
noncomputable def Rows_turnedAround_1 (d : Nat) (l0 : Int) (l1 : Int) (l2 : Int) (l3 : Int) (w : zW) : zR := z_sem zP d 56 1 [some (vI l0), some (vI l1), some (vI l2), some (vI l3)] [] w
noncomputable def Setting_take (d : Nat) (a1 : Int) (a2 : Int) (w : zW) : zR := z_sem zP d 57 0 [some (vR 7 0), some (vR 9 a1), some (vR 2 a2)] [] w
noncomputable def Setting_take_1 (d : Nat) (l3 : Int) (w : zW) : zR := z_sem zP d 57 1 [some (vR 7 0), none, none, some (vI l3)] [] w
noncomputable def Setting_ready (d : Nat) (a1 : Int) (w : zW) : zR := z_sem zP d 58 0 [some (vR 7 0), some (vI a1)] [] w
noncomputable def Setting_ready_3 (d : Nat) (l1 : Int) (l2 : Int) (w : zW) : zR := z_sem zP d 58 3 [some (vR 7 0), some (vI l1), some (vI l2)] [] w
noncomputable def Setting_aheadAt (d : Nat) (a1 : Int) (a2 : Int) (w : zW) : zR := z_sem zP d 59 0 [some (vR 7 0), some (vI a1), some (vI a2)] [] w
noncomputable def Setting_asideBy (d : Nat) (a1 : Int) (w : zW) : zR := z_sem zP d 60 0 [some (vR 7 0), some (vI a1)] [] w
noncomputable def Setting_tell (d : Nat) (a1 : Int) (a2 : Int) (a3 : Int) (a4 : Int) (w : zW) : zR := z_sem zP d 61 0 [some (vR 7 0), some (vI a1), some (vI a2), some (vI a3), some (vI a4)] [] w
noncomputable def Setting_tell_1 (d : Nat) (l1 : Int) (l2 : Int) (l3 : Int) (l5 : Int) (l6 : Int) (w : zW) : zR := z_sem zP d 61 1 [some (vR 7 0), some (vI l1), some (vI l2), some (vI l3), none, some (vI l5), some (vI l6)] [] w
noncomputable def State_begin (d : Nat) (a0 : Int) (a1 : Int) (a2 : Int) (a3 : Int) (a4 : Int) (w : zW) : zR := z_sem zP d 62 0 [some (vR 8 a0), some (vI a1), some (vI a2), some (vI a3), some (vI a4)] [] w
noncomputable def State_keep (d : Nat) (a0 : Int) (a1 : Int) (a2 : Int) (a3 : Int) (w : zW) : zR := z_sem zP d 63 0 [some (vR 8 a0), some (vI a1), some (vI a2), some (vI a3), some (vR 7 0)] [] w
noncomputable def State_doAgain (d : Nat) (a0 : Int) (a1 : Int) (a2 : Int) (w : zW) : zR := z_sem zP d 64 0 [some (vR 8 a0), some (vI a1), some (vR 4 a2), some (vR 7 0)] [] w
noncomputable def State_doAgain_1 (d : Nat) (l0 : Int) (l1 : Int) (l2 : Int) (l4 : Int) (w : zW) : zR := z_sem zP d 64 1 [some (vR 8 l0), some (vI l1), some (vR 4 l2), some (vR 7 0), some (vI l4)] [] w
noncomputable def State_doAgain_5 (d : Nat) (l0 : Int) (l1 : Int) (l2 : Int) (l4 : Int) (l5 : Int) (ls0 : Int) (w : zW) : zR := z_sem zP d 64 5 [some (vR 8 l0), some (vI l1), some (vR 4 l2), some (vR 7 0), some (vI l4), some (vI l5)] [vI ls0] w
noncomputable def State_doAgain_9 (d : Nat) (l0 : Int) (l1 : Int) (l2 : Int) (l4 : Int) (l5 : Int) (ls0 : Int) (w : zW) : zR := z_sem zP d 64 9 [some (vR 8 l0), some (vI l1), some (vR 4 l2), some (vR 7 0), some (vI l4), some (vI l5)] [vI ls0] w
noncomputable def State_doAgain_13 (d : Nat) (l0 : Int) (l1 : Int) (l2 : Int) (l4 : Int) (l5 : Int) (ls0 : Int) (w : zW) : zR := z_sem zP d 64 13 [some (vR 8 l0), some (vI l1), some (vR 4 l2), some (vR 7 0), some (vI l4), some (vI l5)] [vI ls0] w
noncomputable def State_copyFrom (d : Nat) (a0 : Int) (a1 : Int) (w : zW) : zR := z_sem zP d 65 0 [some (vR 8 a0), some (vR 8 a1)] [] w
noncomputable def Wood_clear (d : Nat) (a0 : Int) (w : zW) : zR := z_sem zP d 66 0 [some (vR 9 a0)] [] w
noncomputable def Wood_addSource (d : Nat) (a0 : Int) (a1 : Int) (a2 : Int) (a3 : Int) (w : zW) : zR := z_sem zP d 67 0 [some (vR 9 a0), some (vI a1), some (vI a2), some (vI a3)] [] w
noncomputable def Wood_addSource_2 (d : Nat) (l0 : Int) (l1 : Int) (l2 : Int) (l3 : Int) (l4 : Int) (w : zW) : zR := z_sem zP d 67 2 [some (vR 9 l0), some (vI l1), some (vI l2), some (vI l3), some (vI l4)] [] w
noncomputable def Wood_settle (d : Nat) (a0 : Int) (w : zW) : zR := z_sem zP d 68 0 [some (vR 9 a0)] [] w
noncomputable def Wood_settle_1 (d : Nat) (l0 : Int) (l3 : Int) (w : zW) : zR := z_sem zP d 68 1 [some (vR 9 l0), none, none, some (vI l3)] [] w
noncomputable def Wood_settle_4 (d : Nat) (l0 : Int) (l3 : Int) (l4 : Int) (l5 : Int) (w : zW) : zR := z_sem zP d 68 4 [some (vR 9 l0), none, none, some (vI l3), some (vI l4), some (vI l5)] [] w
noncomputable def Wood_cellAt (d : Nat) (a0 : Int) (a1 : Int) (a2 : Int) (w : zW) : zR := z_sem zP d 69 0 [some (vR 9 a0), some (vI a1), some (vI a2)] [] w
noncomputable def Wood_openAt (d : Nat) (a0 : Int) (a1 : Int) (a2 : Int) (w : zW) : zR := z_sem zP d 70 0 [some (vR 9 a0), some (vI a1), some (vI a2)] [] w
noncomputable def Wood_measure (d : Nat) (a0 : Int) (a1 : Int) (k2 : Nat) (a2 : Int) (w : zW) : zR := z_sem zP d 71 0 [some (vR 9 a0), some (vI a1), some (vR k2 a2)] [] w
noncomputable def Wood_measure_1 (d : Nat) (l0 : Int) (k2 : Nat) (l2 : Int) (l3 : Int) (l4 : Int) (w : zW) : zR := z_sem zP d 71 1 [some (vR 9 l0), none, some (vR k2 l2), some (vI l3), some (vI l4)] [] w
noncomputable def Wood_measure_4 (d : Nat) (l0 : Int) (k2 : Nat) (l2 : Int) (l3 : Int) (l4 : Int) (l5 : Int) (l6 : Int) (w : zW) : zR := z_sem zP d 71 4 [some (vR 9 l0), none, some (vR k2 l2), some (vI l3), some (vI l4), some (vI l5), some (vI l6)] [] w
noncomputable def Wood_loudAt (d : Nat) (a0 : Int) (a1 : Int) (a2 : Int) (w : zW) : zR := z_sem zP d 72 0 [some (vR 9 a0), some (vI a1), some (vI a2)] [] w
noncomputable def Wood_told (d : Nat) (a0 : Int) (a1 : Int) (a2 : Int) (w : zW) : zR := z_sem zP d 73 0 [some (vR 9 a0), some (vI a1), some (vI a2)] [] w
noncomputable def D_feed (d : Nat) (a1 : Int) (a2 : Int) (a3 : Int) (a4 : Int) (a5 : Int) (w : zW) : zR := z_sem zP d 74 0 [some (vR 10 0), some (vI a1), some (vI a2), some (vI a3), some (vI a4), some (vI a5)] [] w
noncomputable def D_end (d : Nat) (a1 : Int) (w : zW) : zR := z_sem zP d 75 0 [some (vR 10 0), some (vI a1)] [] w
noncomputable def D_text (d : Nat) (a1 : Int) (w : zW) : zR := z_sem zP d 76 0 [some (vR 10 0), some (vI a1)] [] w
noncomputable def D_text_6 (d : Nat) (l1 : Int) (w : zW) : zR := z_sem zP d 76 6 [some (vR 10 0), some (vI l1)] [] w
noncomputable def D_text_12 (d : Nat) (l1 : Int) (w : zW) : zR := z_sem zP d 76 12 [some (vR 10 0), some (vI l1)] [] w
noncomputable def D_text_19 (d : Nat) (l2 : Int) (w : zW) : zR := z_sem zP d 76 19 [some (vR 10 0), none, some (vI l2)] [] w
noncomputable def D_cell (d : Nat) (a1 : Int) (a2 : Int) (a3 : Int) (a4 : Int) (w : zW) : zR := z_sem zP d 77 0 [some (vR 10 0), some (vI a1), some (vI a2), some (vI a3), some (vI a4)] [] w
noncomputable def D_wood (d : Nat) (a1 : Int) (a2 : Int) (w : zW) : zR := z_sem zP d 78 0 [some (vR 10 0), some (vI a1), some (vI a2)] [] w
noncomputable def D_walk (d : Nat) (a1 : Int) (a2 : Int) (a3 : Int) (a4 : Int) (a5 : Int) (w : zW) : zR := z_sem zP d 79 0 [some (vR 10 0), some (vI a1), some (vI a2), some (vI a3), some (vI a4), some (vI a5)] [] w
noncomputable def D_act (d : Nat) (a1 : Int) (w : zW) : zR := z_sem zP d 80 0 [some (vR 10 0), some (vI a1)] [] w
noncomputable def D_felt (d : Nat) (a1 : Int) (w : zW) : zR := z_sem zP d 81 0 [some (vR 10 0), some (vI a1)] [] w
noncomputable def D_seen (d : Nat) (a1 : Int) (w : zW) : zR := z_sem zP d 82 0 [some (vR 10 0), some (vI a1)] [] w
noncomputable def D_heard (d : Nat) (a1 : Int) (a2 : Int) (w : zW) : zR := z_sem zP d 83 0 [some (vR 10 0), some (vI a1), some (vI a2)] [] w
noncomputable def D_strike (d : Nat) (a1 : Int) (a2 : Int) (w : zW) : zR := z_sem zP d 84 0 [some (vR 10 0), some (vI a1), some (vI a2)] [] w
noncomputable def D_strike_6 (d : Nat) (ls0 : Int) (ls1 : Int) (ls2 : Int) (ls3 : Int) (w : zW) : zR := z_sem zP d 84 6 [some (vR 10 0)] [vI ls3, vI ls2, vI ls1, vR 8 ls0] w
noncomputable def D_odds (d : Nat) (a1 : Int) (a2 : Int) (a3 : Int) (w : zW) : zR := z_sem zP d 85 0 [some (vR 10 0), some (vI a1), some (vI a2), some (vI a3)] [] w
noncomputable def D_all (d : Nat) (a1 : Int) (w : zW) : zR := z_sem zP d 86 0 [some (vR 10 0), some (vI a1)] [] w
noncomputable def D_row (d : Nat) (a1 : Int) (a2 : Int) (a3 : Int) (w : zW) : zR := z_sem zP d 87 0 [some (vR 10 0), some (vI a1), some (vI a2), some (vI a3)] [] w
noncomputable def D_row_9 (d : Nat) (l1 : Int) (l2 : Int) (l3 : Int) (l4 : Int) (w : zW) : zR := z_sem zP d 87 9 [some (vR 10 0), some (vI l1), some (vI l2), some (vI l3), some (vI l4)] [] w
noncomputable def D_soon (d : Nat) (a1 : Int) (w : zW) : zR := z_sem zP d 88 0 [some (vR 10 0), some (vI a1)] [] w
noncomputable def D_left (d : Nat) (a1 : Int) (w : zW) : zR := z_sem zP d 89 0 [some (vR 10 0), some (vI a1)] [] w
noncomputable def D_left_4 (d : Nat) (l1 : Int) (l2 : Int) (w : zW) : zR := z_sem zP d 89 4 [some (vR 10 0), some (vI l1), some (vI l2)] [] w
noncomputable def D_isBar (d : Nat) (a0 : Int) (w : zW) : zR := z_sem zP d 90 0 [some (vI a0)] [] w
noncomputable def D_fork (d : Nat) (a1 : Int) (a2 : Int) (a3 : Int) (a4 : Int) (a5 : Int) (w : zW) : zR := z_sem zP d 91 0 [some (vR 10 0), some (vI a1), some (vI a2), some (vI a3), some (vI a4), some (vI a5)] [] w
noncomputable def D_remember (d : Nat) (a1 : Int) (a2 : Int) (a3 : Int) (w : zW) : zR := z_sem zP d 92 0 [some (vR 10 0), some (vI a1), some (vI a2), some (vI a3)] [] w
noncomputable def D_remember_5 (d : Nat) (l3 : Int) (l4 : Int) (l5 : Int) (w : zW) : zR := z_sem zP d 92 5 [some (vR 10 0), none, none, some (vI l3), some (vI l4), some (vI l5)] [] w
noncomputable def D_remember_7 (d : Nat) (l3 : Int) (l4 : Int) (l5 : Int) (l6 : Int) (w : zW) : zR := z_sem zP d 92 7 [some (vR 10 0), none, none, some (vI l3), some (vI l4), some (vI l5), some (vI l6)] [] w
noncomputable def D_tells (d : Nat) (w : zW) : zR := z_sem zP d 93 0 [some (vR 10 0)] [] w
noncomputable def D_tells_3 (d : Nat) (l1 : Int) (l3 : Int) (w : zW) : zR := z_sem zP d 93 3 [some (vR 10 0), some (vL l1), none, some (vI l3)] [] w
noncomputable def D_mostShown (d : Nat) (a1 : Int) (a2 : Int) (w : zW) : zR := z_sem zP d 94 0 [some (vR 10 0), some (vI a1), some (vI a2)] [] w
noncomputable def D_mostShown_1 (d : Nat) (l1 : Int) (l2 : Int) (l3 : Int) (l5 : Int) (w : zW) : zR := z_sem zP d 94 1 [some (vR 10 0), some (vI l1), some (vI l2), some (vL l3), none, some (vI l5)] [] w
noncomputable def D_aim (d : Nat) (a1 : Int) (a2 : Int) (a3 : Int) (w : zW) : zR := z_sem zP d 95 0 [some (vR 10 0), some (vI a1), some (vI a2), some (vI a3)] [] w
noncomputable def D_aim_8 (d : Nat) (l1 : Int) (l2 : Int) (l3 : Int) (l4 : Int) (w : zW) : zR := z_sem zP d 95 8 [some (vR 10 0), some (vI l1), some (vI l2), some (vI l3), some (vI l4)] [] w
noncomputable def D_aim_13 (d : Nat) (l1 : Int) (l2 : Int) (l3 : Int) (l4 : Int) (ls0 : Int) (ls1 : Int) (w : zW) : zR := z_sem zP d 95 13 [some (vR 10 0), some (vI l1), some (vI l2), some (vI l3), some (vI l4)] [vI ls1, vR 4 ls0] w
noncomputable def D_look (d : Nat) (a1 : Int) (w : zW) : zR := z_sem zP d 96 0 [some (vR 10 0), some (vI a1)] [] w
noncomputable def D_look_5 (d : Nat) (l1 : Int) (l2 : Int) (l4 : Int) (w : zW) : zR := z_sem zP d 96 5 [some (vR 10 0), some (vI l1), some (vL l2), none, some (vI l4)] [] w
noncomputable def D_overWay (d : Nat) (a1 : Int) (a2 : Int) (w : zW) : zR := z_sem zP d 97 0 [some (vR 10 0), some (vI a1), some (vI a2)] [] w
noncomputable def D_overWay_1 (d : Nat) (l1 : Int) (l2 : Int) (l3 : Int) (l4 : Int) (l6 : Int) (w : zW) : zR := z_sem zP d 97 1 [some (vR 10 0), some (vI l1), some (vI l2), some (vI l3), some (vL l4), none, some (vI l6)] [] w
noncomputable def D_post (d : Nat) (a1 : Int) (a2 : Int) (a3 : Int) (w : zW) : zR := z_sem zP d 98 0 [some (vR 10 0), some (vI a1), some (vI a2), some (vI a3)] [] w
noncomputable def D_parish (d : Nat) (a1 : Int) (a2 : Int) (w : zW) : zR := z_sem zP d 99 0 [some (vR 10 0), some (vI a1), some (vI a2)] [] w
noncomputable def D_parish_6 (d : Nat) (l2 : Int) (l3 : Int) (l4 : Int) (w : zW) : zR := z_sem zP d 99 6 [some (vR 10 0), none, some (vI l2), some (vR 9 l3), some (vI l4)] [] w
noncomputable def D_parish_9 (d : Nat) (l3 : Int) (l4 : Int) (l5 : Int) (w : zW) : zR := z_sem zP d 99 9 [some (vR 10 0), none, none, some (vR 9 l3), some (vI l4), some (vI l5)] [] w
noncomputable def D_parish_12 (d : Nat) (l3 : Int) (l4 : Int) (l5 : Int) (w : zW) : zR := z_sem zP d 99 12 [some (vR 10 0), none, none, some (vR 9 l3), some (vI l4), some (vI l5)] [] w
noncomputable def D_reach (d : Nat) (a1 : Int) (a2 : Int) (a3 : Int) (w : zW) : zR := z_sem zP d 100 0 [some (vR 10 0), some (vR 9 a1), some (vI a2), some (vI a3)] [] w
noncomputable def D_reach_4 (d : Nat) (l2 : Int) (l3 : Int) (l5 : Int) (w : zW) : zR := z_sem zP d 100 4 [some (vR 10 0), none, some (vI l2), some (vI l3), none, some (vI l5)] [] w
noncomputable def D_isEnough (d : Nat) (a1 : Int) (a2 : Int) (w : zW) : zR := z_sem zP d 101 0 [some (vR 10 0), some (vR 9 a1), some (vI a2)] [] w
noncomputable def D_isEnough_1 (d : Nat) (l1 : Int) (l2 : Int) (l3 : Int) (w : zW) : zR := z_sem zP d 101 1 [some (vR 10 0), some (vR 9 l1), some (vI l2), some (vI l3)] [] w
noncomputable def D_isEnough_6 (d : Nat) (l1 : Int) (l2 : Int) (l3 : Int) (ls0 : Int) (w : zW) : zR := z_sem zP d 101 6 [some (vR 10 0), some (vR 9 l1), some (vI l2), some (vI l3)] [vI ls0] w
noncomputable def D_night (d : Nat) (a1 : Int) (a2 : Int) (a3 : Int) (a4 : Int) (a5 : Int) (a6 : Int) (a7 : Int) (w : zW) : zR := z_sem zP d 102 0 [some (vR 10 0), some (vI a1), some (vI a2), some (vI a3), some (vI a4), some (vI a5), some (vI a6), some (vI a7)] [] w
noncomputable def D_startOf (d : Nat) (a1 : Int) (a2 : Int) (a3 : Int) (a4 : Int) (a5 : Int) (w : zW) : zR := z_sem zP d 103 0 [some (vR 10 0), some (vI a1), some (vI a2), some (vI a3), some (vI a4), some (vI a5)] [] w
noncomputable def D_nights (d : Nat) (a1 : Int) (a2 : Int) (a3 : Int) (a4 : Int) (a5 : Int) (a6 : Int) (a7 : Int) (a8 : Int) (w : zW) : zR := z_sem zP d 104 0 [some (vR 10 0), some (vI a1), some (vI a2), some (vI a3), some (vI a4), some (vI a5), some (vI a6), some (vI a7), some (vI a8)] [] w
noncomputable def D_finest (d : Nat) (a1 : Int) (a2 : Int) (a3 : Int) (a4 : Int) (a5 : Int) (a6 : Int) (w : zW) : zR := z_sem zP d 105 0 [some (vR 10 0), some (vI a1), some (vI a2), some (vI a3), some (vI a4), some (vI a5), some (vI a6)] [] w
noncomputable def D_finest_5 (d : Nat) (l4 : Int) (l5 : Int) (l6 : Int) (l7 : Int) (l8 : Int) (l9 : Int) (l10 : Int) (l11 : Int) (w : zW) : zR := z_sem zP d 105 5 [some (vR 10 0), none, none, none, some (vI l4), some (vI l5), some (vI l6), some (vI l7), some (vI l8), some (vI l9), some (vI l10), some (vI l11)] [] w
noncomputable def D_finest_10 (d : Nat) (l4 : Int) (l5 : Int) (l6 : Int) (l7 : Int) (l11 : Int) (w : zW) : zR := z_sem zP d 105 10 [some (vR 10 0), none, none, none, some (vI l4), some (vI l5), some (vI l6), some (vI l7), none, none, none, some (vI l11)] [] w
noncomputable def D_count (d : Nat) (a1 : Int) (w : zW) : zR := z_sem zP d 106 0 [some (vR 10 0), some (vI a1)] [] w
noncomputable def D_image (d : Nat) (a1 : Int) (w : zW) : zR := z_sem zP d 107 0 [some (vR 10 0), some (vI a1)] [] w
noncomputable def D_back (d : Nat) (a1 : Int) (w : zW) : zR := z_sem zP d 108 0 [some (vR 10 0), some (vI a1)] [] w
noncomputable def M_in (d : Nat) (a0 : Int) (a1 : Int) (a2 : Int) (w : zW) : zR := z_sem zP d 109 0 [some (vL a0), none, some (vL a1), none, some (vL a2), none] [] w
noncomputable def M_bounded (d : Nat) (a0 : Int) (a1 : Int) (a2 : Int) (w : zW) : zR := z_sem zP d 110 0 [some (vL a0), none, some (vL a1), none, some (vL a2), none] [] w
noncomputable def M_size (d : Nat) (a0 : Int) (w : zW) : zR := z_sem zP d 111 0 [some (vI a0)] [] w
noncomputable def M_four (d : Nat) (a1 : Int) (w : zW) : zR := z_sem zP d 112 0 [some (vR 11 0), some (vI a1)] [] w
noncomputable def M_four_1 (d : Nat) (l1 : Int) (l2 : Int) (w : zW) : zR := z_sem zP d 112 1 [some (vR 11 0), some (vI l1), some (vI l2)] [] w
noncomputable def M_feed (d : Nat) (a1 : Int) (a2 : Int) (a3 : Int) (a4 : Int) (a5 : Int) (w : zW) : zR := z_sem zP d 113 0 [some (vR 11 0), some (vI a1), some (vI a2), some (vI a3), some (vI a4), some (vI a5)] [] w
noncomputable def M_end (d : Nat) (a1 : Int) (w : zW) : zR := z_sem zP d 114 0 [some (vR 11 0), some (vI a1)] [] w
noncomputable def M_fails (d : Nat) (a1 : Int) (a2 : Int) (w : zW) : zR := z_sem zP d 115 0 [some (vR 11 0), some (vI a1), some (vI a2)] [] w
noncomputable def M_see (d : Nat) (w : zW) : zR := z_sem zP d 116 0 [some (vR 11 0)] [] w
noncomputable def M_see_1 (d : Nat) (w : zW) : zR := z_sem zP d 116 1 [some (vR 11 0)] [] w
noncomputable def M_see_4 (d : Nat) (w : zW) : zR := z_sem zP d 116 4 [some (vR 11 0)] [] w
noncomputable def M_isDigit (d : Nat) (a1 : Int) (w : zW) : zR := z_sem zP d 117 0 [some (vR 11 0), some (vI a1)] [] w
noncomputable def M_isLetter (d : Nat) (a1 : Int) (w : zW) : zR := z_sem zP d 118 0 [some (vR 11 0), some (vI a1)] [] w
noncomputable def M_isWord (d : Nat) (a1 : Int) (w : zW) : zR := z_sem zP d 119 0 [some (vR 11 0), some (vL a1), none] [] w
noncomputable def M_isWord_1 (d : Nat) (l1 : Int) (l3 : Int) (l5 : Int) (w : zW) : zR := z_sem zP d 119 1 [some (vR 11 0), some (vL l1), none, some (vL l3), none, some (vI l5)] [] w
noncomputable def M_passWord (d : Nat) (w : zW) : zR := z_sem zP d 120 0 [some (vR 11 0)] [] w
noncomputable def M_passWord_1 (d : Nat) (w : zW) : zR := z_sem zP d 120 1 [some (vR 11 0)] [] w
noncomputable def M_takesWord (d : Nat) (a1 : Int) (w : zW) : zR := z_sem zP d 121 0 [some (vR 11 0), some (vL a1), none] [] w
noncomputable def M_numberHere (d : Nat) (a1 : Int) (a2 : Int) (w : zW) : zR := z_sem zP d 122 0 [some (vR 11 0), some (vI a1), some (vI a2)] [] w
noncomputable def M_numberHere_3 (d : Nat) (l1 : Int) (l2 : Int) (l3 : Int) (l4 : Int) (w : zW) : zR := z_sem zP d 122 3 [some (vR 11 0), some (vI l1), some (vI l2), some (vI l3), some (vI l4)] [] w
noncomputable def M_numberHere_9 (d : Nat) (l3 : Int) (w : zW) : zR := z_sem zP d 122 9 [some (vR 11 0), none, none, some (vI l3)] [] w
noncomputable def M_wordHere (d : Nat) (w : zW) : zR := z_sem zP d 123 0 [some (vR 11 0)] [] w
noncomputable def M_puts (d : Nat) (a1 : Int) (a2 : Int) (w : zW) : zR := z_sem zP d 124 0 [some (vR 11 0), some (vI a1), some (vI a2)] [] w
noncomputable def M_makes (d : Nat) (a1 : Int) (w : zW) : zR := z_sem zP d 125 0 [some (vR 11 0), some (vI a1)] [] w
noncomputable def M_opens (d : Nat) (a1 : Int) (w : zW) : zR := z_sem zP d 126 0 [some (vR 11 0), some (vI a1)] [] w
noncomputable def M_strength (d : Nat) (a0 : Int) (w : zW) : zR := z_sem zP d 127 0 [some (vI a0)] [] w
noncomputable def M_settles (d : Nat) (a1 : Int) (w : zW) : zR := z_sem zP d 128 0 [some (vR 11 0), some (vI a1)] [] w
noncomputable def M_settles_1 (d : Nat) (l1 : Int) (w : zW) : zR := z_sem zP d 128 1 [some (vR 11 0), some (vI l1)] [] w
noncomputable def M_value (d : Nat) (w : zW) : zR := z_sem zP d 129 0 [some (vR 11 0)] [] w
noncomputable def M_term (d : Nat) (w : zW) : zR := z_sem zP d 130 0 [some (vR 11 0)] [] w
noncomputable def M_term_2 (d : Nat) (w : zW) : zR := z_sem zP d 130 2 [some (vR 11 0)] [] w
noncomputable def M_term_4 (d : Nat) (w : zW) : zR := z_sem zP d 130 4 [some (vR 11 0)] [] w
noncomputable def M_term_7 (d : Nat) (ls0 : Int) (w : zW) : zR := z_sem zP d 130 7 [some (vR 11 0)] [vI ls0] w
noncomputable def M_sum (d : Nat) (w : zW) : zR := z_sem zP d 131 0 [some (vR 11 0)] [] w
noncomputable def M_sum_2 (d : Nat) (w : zW) : zR := z_sem zP d 131 2 [some (vR 11 0)] [] w
noncomputable def M_sum_4 (d : Nat) (w : zW) : zR := z_sem zP d 131 4 [some (vR 11 0)] [] w
noncomputable def M_sum_7 (d : Nat) (ls0 : Int) (w : zW) : zR := z_sem zP d 131 7 [some (vR 11 0)] [vI ls0] w
noncomputable def M_compare (d : Nat) (w : zW) : zR := z_sem zP d 132 0 [some (vR 11 0)] [] w
noncomputable def M_compare_6 (d : Nat) (l1 : Int) (l2 : Int) (w : zW) : zR := z_sem zP d 132 6 [some (vR 11 0), some (vI l1), some (vI l2)] [] w
noncomputable def M_compare_10 (d : Nat) (l1 : Int) (l2 : Int) (w : zW) : zR := z_sem zP d 132 10 [some (vR 11 0), some (vI l1), some (vI l2)] [] w
noncomputable def M_compare_13 (d : Nat) (l1 : Int) (l2 : Int) (l3 : Int) (w : zW) : zR := z_sem zP d 132 13 [some (vR 11 0), some (vI l1), some (vI l2), some (vI l3)] [] w
noncomputable def M_compare_24 (d : Nat) (ls0 : Int) (w : zW) : zR := z_sem zP d 132 24 [some (vR 11 0)] [vI ls0] w
noncomputable def M_fact (d : Nat) (w : zW) : zR := z_sem zP d 133 0 [some (vR 11 0)] [] w
noncomputable def M_fact_1 (d : Nat) (l1 : Int) (w : zW) : zR := z_sem zP d 133 1 [some (vR 11 0), some (vI l1)] [] w
noncomputable def M_isInside (d : Nat) (w : zW) : zR := z_sem zP d 134 0 [some (vR 11 0)] [] w
noncomputable def M_isInside_1 (d : Nat) (l1 : Int) (w : zW) : zR := z_sem zP d 134 1 [some (vR 11 0), some (vI l1)] [] w
noncomputable def M_closes (d : Nat) (w : zW) : zR := z_sem zP d 135 0 [some (vR 11 0)] [] w
noncomputable def M_closes_1 (d : Nat) (w : zW) : zR := z_sem zP d 135 1 [some (vR 11 0)] [] w
noncomputable def M_tested (d : Nat) (w : zW) : zR := z_sem zP d 136 0 [some (vR 11 0)] [] w
noncomputable def M_tested_1 (d : Nat) (l1 : Int) (w : zW) : zR := z_sem zP d 136 1 [some (vR 11 0), some (vI l1)] [] w
noncomputable def M_tested_8 (d : Nat) (ls0 : Int) (w : zW) : zR := z_sem zP d 136 8 [some (vR 11 0)] [vI ls0] w
noncomputable def M_tested_12 (d : Nat) (l1 : Int) (ls0 : Int) (w : zW) : zR := z_sem zP d 136 12 [some (vR 11 0), some (vI l1)] [vI ls0] w
noncomputable def M_clauseOf (d : Nat) (a1 : Int) (a2 : Int) (w : zW) : zR := z_sem zP d 137 0 [some (vR 11 0), some (vI a1), some (vI a2)] [] w
noncomputable def M_clauseOf_3 (d : Nat) (l3 : Int) (w : zW) : zR := z_sem zP d 137 3 [some (vR 11 0), none, none, some (vI l3)] [] w
noncomputable def M_clauseOf_6 (d : Nat) (l3 : Int) (w : zW) : zR := z_sem zP d 137 6 [some (vR 11 0), none, none, some (vI l3)] [] w
noncomputable def M_sets (d : Nat) (k1 : Nat) (a2 : Int) (a3 : Int) (w : zW) : zR := z_sem zP d 138 0 [some (vR 11 0), some (vR k1 0), some (vI a2), some (vI a3)] [] w
noncomputable def M_setsTwo (d : Nat) (k1 : Nat) (k2 : Nat) (a3 : Int) (a4 : Int) (a5 : Int) (w : zW) : zR := z_sem zP d 139 0 [some (vR 11 0), some (vR k1 0), some (vR k2 0), some (vI a3), some (vI a4), some (vI a5)] [] w
noncomputable def M_area (d : Nat) (a1 : Int) (a2 : Int) (w : zW) : zR := z_sem zP d 140 0 [some (vR 11 0), some (vI a1), some (vI a2)] [] w
noncomputable def M_area_4 (d : Nat) (l1 : Int) (l3 : Int) (w : zW) : zR := z_sem zP d 140 4 [some (vR 11 0), some (vI l1), none, some (vI l3)] [] w
noncomputable def M_area_13 (d : Nat) (l1 : Int) (l3 : Int) (l4 : Int) (l6 : Int) (l7 : Int) (w : zW) : zR := z_sem zP d 140 13 [some (vR 11 0), some (vI l1), none, some (vI l3), some (vI l4), none, some (vI l6), some (vI l7)] [] w
noncomputable def M_area_15 (d : Nat) (l1 : Int) (l3 : Int) (l4 : Int) (l6 : Int) (l7 : Int) (l8 : Int) (w : zW) : zR := z_sem zP d 140 15 [some (vR 11 0), some (vI l1), none, some (vI l3), some (vI l4), none, some (vI l6), some (vI l7), some (vI l8)] [] w
noncomputable def M_laidAt (d : Nat) (a0 : Int) (a1 : Int) (w : zW) : zR := z_sem zP d 141 0 [some (vI a0), some (vI a1)] [] w
noncomputable def M_sounds (d : Nat) (a1 : Int) (w : zW) : zR := z_sem zP d 142 0 [some (vR 11 0), some (vI a1)] [] w
noncomputable def M_woodClause (d : Nat) (a1 : Int) (w : zW) : zR := z_sem zP d 143 0 [some (vR 11 0), some (vI a1)] [] w
noncomputable def M_lawClause (d : Nat) (a1 : Int) (w : zW) : zR := z_sem zP d 144 0 [some (vR 11 0), some (vI a1)] [] w
noncomputable def M_actHere (d : Nat) (w : zW) : zR := z_sem zP d 145 0 [some (vR 11 0)] [] w
noncomputable def M_clauseHere (d : Nat) (w : zW) : zR := z_sem zP d 146 0 [some (vR 11 0)] [] w
noncomputable def M_clauseHere_7 (d : Nat) (l1 : Int) (ls0 : Int) (w : zW) : zR := z_sem zP d 146 7 [some (vR 11 0), some (vI l1)] [vI ls0] w
noncomputable def M_clauseHere_17 (d : Nat) (l1 : Int) (l2 : Int) (ls0 : Int) (w : zW) : zR := z_sem zP d 146 17 [some (vR 11 0), some (vI l1), some (vI l2)] [vI ls0] w
noncomputable def M_clauseHere_24 (d : Nat) (l1 : Int) (ls0 : Int) (w : zW) : zR := z_sem zP d 146 24 [some (vR 11 0), some (vI l1)] [vI ls0] w
noncomputable def M_clauseHere_29 (d : Nat) (l1 : Int) (ls0 : Int) (ls1 : Int) (w : zW) : zR := z_sem zP d 146 29 [some (vR 11 0), some (vI l1)] [vI ls1, vI ls0] w
noncomputable def M_firstOf (d : Nat) (a0 : Int) (w : zW) : zR := z_sem zP d 147 0 [some (vI a0)] [] w
noncomputable def M_text (d : Nat) (a1 : Int) (w : zW) : zR := z_sem zP d 148 0 [some (vR 11 0), some (vI a1)] [] w
noncomputable def M_text_4 (d : Nat) (l1 : Int) (ls0 : Int) (ls1 : Int) (w : zW) : zR := z_sem zP d 148 4 [some (vR 11 0), some (vI l1)] [vI ls1, vI ls0] w
noncomputable def M_text_8 (d : Nat) (l1 : Int) (l2 : Int) (w : zW) : zR := z_sem zP d 148 8 [some (vR 11 0), some (vI l1), some (vI l2)] [] w
noncomputable def M_text_10 (d : Nat) (l1 : Int) (w : zW) : zR := z_sem zP d 148 10 [some (vR 11 0), some (vI l1)] [] w
noncomputable def M_text_11 (d : Nat) (l1 : Int) (l2 : Int) (w : zW) : zR := z_sem zP d 148 11 [some (vR 11 0), some (vI l1), some (vI l2)] [] w
noncomputable def M_text_14 (d : Nat) (l1 : Int) (l2 : Int) (w : zW) : zR := z_sem zP d 148 14 [some (vR 11 0), some (vI l1), some (vI l2)] [] w
noncomputable def M_text_17 (d : Nat) (l1 : Int) (w : zW) : zR := z_sem zP d 148 17 [some (vR 11 0), some (vI l1)] [] w
noncomputable def M_text_21 (d : Nat) (l1 : Int) (w : zW) : zR := z_sem zP d 148 21 [some (vR 11 0), some (vI l1)] [] w
noncomputable def M_text_23 (d : Nat) (l1 : Int) (w : zW) : zR := z_sem zP d 148 23 [some (vR 11 0), some (vI l1)] [] w
noncomputable def M_text_25 (d : Nat) (l1 : Int) (w : zW) : zR := z_sem zP d 148 25 [some (vR 11 0), some (vI l1)] [] w
noncomputable def M_text_27 (d : Nat) (l1 : Int) (w : zW) : zR := z_sem zP d 148 27 [some (vR 11 0), some (vI l1)] [] w
noncomputable def M_text_29 (d : Nat) (l1 : Int) (w : zW) : zR := z_sem zP d 148 29 [some (vR 11 0), some (vI l1)] [] w
noncomputable def M_lays (d : Nat) (a1 : Int) (w : zW) : zR := z_sem zP d 149 0 [some (vR 11 0), some (vI a1)] [] w
noncomputable def M_lays_2 (d : Nat) (l1 : Int) (w : zW) : zR := z_sem zP d 149 2 [some (vR 11 0), some (vI l1)] [] w
noncomputable def M_lays_4 (d : Nat) (l1 : Int) (w : zW) : zR := z_sem zP d 149 4 [some (vR 11 0), some (vI l1)] [] w
noncomputable def M_lays_6 (d : Nat) (l1 : Int) (w : zW) : zR := z_sem zP d 149 6 [some (vR 11 0), some (vI l1)] [] w
noncomputable def M_lays_8 (d : Nat) (l1 : Int) (w : zW) : zR := z_sem zP d 149 8 [some (vR 11 0), some (vI l1)] [] w
noncomputable def M_lays_9 (d : Nat) (l1 : Int) (l2 : Int) (w : zW) : zR := z_sem zP d 149 9 [some (vR 11 0), some (vI l1), some (vI l2)] [] w
noncomputable def M_homeOf (d : Nat) (a1 : Int) (w : zW) : zR := z_sem zP d 150 0 [some (vR 11 0), some (vI a1)] [] w
noncomputable def M_isInWood (d : Nat) (a1 : Int) (a2 : Int) (a3 : Int) (w : zW) : zR := z_sem zP d 151 0 [some (vR 11 0), some (vI a1), some (vI a2), some (vI a3)] [] w
noncomputable def M_at (d : Nat) (a1 : Int) (a2 : Int) (a3 : Int) (w : zW) : zR := z_sem zP d 152 0 [some (vR 11 0), some (vI a1), some (vI a2), some (vI a3)] [] w
noncomputable def M_beside (d : Nat) (a1 : Int) (a2 : Int) (a3 : Int) (w : zW) : zR := z_sem zP d 153 0 [some (vR 11 0), some (vI a1), some (vI a2), some (vI a3)] [] w
noncomputable def M_beside_5 (d : Nat) (l1 : Int) (l2 : Int) (l3 : Int) (ls0 : Int) (ls1 : Int) (w : zW) : zR := z_sem zP d 153 5 [some (vR 11 0), some (vI l1), some (vI l2), some (vI l3)] [vI ls1, vI ls0] w
noncomputable def M_beside_10 (d : Nat) (l1 : Int) (l4 : Int) (ls0 : Int) (ls1 : Int) (w : zW) : zR := z_sem zP d 153 10 [some (vR 11 0), some (vI l1), none, none, some (vI l4)] [vI ls1, vI ls0] w
noncomputable def M_spreads (d : Nat) (a1 : Int) (a2 : Int) (w : zW) : zR := z_sem zP d 154 0 [some (vR 11 0), some (vI a1), some (vI a2)] [] w
noncomputable def M_spreads_1 (d : Nat) (l1 : Int) (l2 : Int) (l3 : Int) (w : zW) : zR := z_sem zP d 154 1 [some (vR 11 0), some (vI l1), some (vI l2), some (vI l3)] [] w
noncomputable def M_spreads_4 (d : Nat) (l1 : Int) (l3 : Int) (l4 : Int) (w : zW) : zR := z_sem zP d 154 4 [some (vR 11 0), some (vI l1), none, some (vI l3), some (vI l4)] [] w
noncomputable def M_spreads_6 (d : Nat) (l1 : Int) (l3 : Int) (l4 : Int) (l5 : Int) (w : zW) : zR := z_sem zP d 154 6 [some (vR 11 0), some (vI l1), none, some (vI l3), some (vI l4), some (vI l5)] [] w
noncomputable def M_isText (d : Nat) (a1 : Int) (a2 : Int) (w : zW) : zR := z_sem zP d 155 0 [some (vR 11 0), some (vI a1), some (vI a2)] [] w
noncomputable def M_loudAt (d : Nat) (a1 : Int) (a2 : Int) (a3 : Int) (w : zW) : zR := z_sem zP d 156 0 [some (vR 11 0), some (vI a1), some (vI a2), some (vI a3)] [] w
noncomputable def M_cell (d : Nat) (a1 : Int) (a2 : Int) (a3 : Int) (a4 : Int) (w : zW) : zR := z_sem zP d 157 0 [some (vR 11 0), some (vI a1), some (vI a2), some (vI a3), some (vI a4)] [] w
noncomputable def M_cell_10 (d : Nat) (l1 : Int) (l4 : Int) (l5 : Int) (w : zW) : zR := z_sem zP d 157 10 [some (vR 11 0), some (vI l1), none, none, some (vI l4), some (vI l5)] [] w
noncomputable def M_wood (d : Nat) (a1 : Int) (a2 : Int) (w : zW) : zR := z_sem zP d 158 0 [some (vR 11 0), some (vI a1), some (vI a2)] [] w
noncomputable def M_push (d : Nat) (a1 : Int) (w : zW) : zR := z_sem zP d 159 0 [some (vR 11 0), some (vL a1), none] [] w
noncomputable def M_pop (d : Nat) (w : zW) : zR := z_sem zP d 160 0 [some (vR 11 0)] [] w
noncomputable def M_one (d : Nat) (a0 : Int) (a1 : Int) (a2 : Int) (w : zW) : zR := z_sem zP d 161 0 [some (vI a0), some (vL a1), none, some (vL a2), none] [] w
noncomputable def M_reckons (d : Nat) (a1 : Int) (a2 : Int) (a3 : Int) (w : zW) : zR := z_sem zP d 162 0 [some (vR 11 0), some (vI a1), some (vI a2), some (vI a3)] [] w
noncomputable def M_reckons_1 (d : Nat) (l1 : Int) (l3 : Int) (l4 : Int) (w : zW) : zR := z_sem zP d 162 1 [some (vR 11 0), some (vI l1), none, some (vI l3), some (vI l4)] [] w
noncomputable def M_clauseThat (d : Nat) (a1 : Int) (w : zW) : zR := z_sem zP d 163 0 [some (vR 11 0), some (vI a1)] [] w
noncomputable def M_clauseThat_1 (d : Nat) (l1 : Int) (l2 : Int) (w : zW) : zR := z_sem zP d 163 1 [some (vR 11 0), some (vI l1), some (vI l2)] [] w
noncomputable def M_woodNow (d : Nat) (w : zW) : zR := z_sem zP d 164 0 [some (vR 11 0)] [] w
noncomputable def M_lawNow (d : Nat) (w : zW) : zR := z_sem zP d 165 0 [some (vR 11 0)] [] w
noncomputable def M_isWalk (d : Nat) (w : zW) : zR := z_sem zP d 166 0 [some (vR 11 0)] [] w
noncomputable def M_surely (d : Nat) (k0 : Nat) (a1 : Int) (a2 : Int) (a3 : Int) (w : zW) : zR := z_sem zP d 167 0 [some (vR k0 0), some (vI a1), some (vI a2), some (vI a3)] [] w
noncomputable def M_surely_1 (d : Nat) (k0 : Nat) (l1 : Int) (l2 : Int) (l3 : Int) (l4 : Int) (w : zW) : zR := z_sem zP d 167 1 [some (vR k0 0), some (vI l1), some (vI l2), some (vI l3), some (vI l4)] [] w
noncomputable def M_canStand (d : Nat) (a1 : Int) (a2 : Int) (a3 : Int) (a4 : Int) (w : zW) : zR := z_sem zP d 168 0 [some (vR 11 0), some (vI a1), some (vI a2), some (vI a3), some (vI a4)] [] w
noncomputable def M_walk (d : Nat) (a1 : Int) (a2 : Int) (a3 : Int) (a4 : Int) (a5 : Int) (w : zW) : zR := z_sem zP d 169 0 [some (vR 11 0), some (vI a1), some (vI a2), some (vI a3), some (vI a4), some (vI a5)] [] w
noncomputable def M_stepAt (d : Nat) (a1 : Int) (a2 : Int) (w : zW) : zR := z_sem zP d 170 0 [some (vR 11 0), some (vI a1), some (vI a2)] [] w
noncomputable def M_driftBy (d : Nat) (a1 : Int) (w : zW) : zR := z_sem zP d 171 0 [some (vR 11 0), some (vI a1)] [] w
noncomputable def M_comes (d : Nat) (a1 : Int) (a2 : Int) (a3 : Int) (a4 : Int) (w : zW) : zR := z_sem zP d 172 0 [some (vR 11 0), some (vI a1), some (vI a2), some (vI a3), some (vI a4)] [] w
noncomputable def M_does (d : Nat) (k1 : Nat) (a2 : Int) (a3 : Int) (a4 : Int) (w : zW) : zR := z_sem zP d 173 0 [some (vR 11 0), some (vR k1 0), some (vI a2), some (vI a3), some (vI a4)] [] w
noncomputable def M_does_3 (d : Nat) (k1 : Nat) (l2 : Int) (l3 : Int) (l4 : Int) (l5 : Int) (w : zW) : zR := z_sem zP d 173 3 [some (vR 11 0), some (vR k1 0), some (vI l2), some (vI l3), some (vI l4), some (vI l5)] [] w
noncomputable def M_does_6 (d : Nat) (k1 : Nat) (l2 : Int) (l3 : Int) (l4 : Int) (l5 : Int) (w : zW) : zR := z_sem zP d 173 6 [some (vR 11 0), some (vR k1 0), some (vI l2), some (vI l3), some (vI l4), some (vI l5)] [] w
noncomputable def M_does_8 (d : Nat) (k1 : Nat) (l2 : Int) (l3 : Int) (l4 : Int) (l5 : Int) (l6 : Int) (l7 : Int) (w : zW) : zR := z_sem zP d 173 8 [some (vR 11 0), some (vR k1 0), some (vI l2), some (vI l3), some (vI l4), some (vI l5), some (vI l6), some (vI l7)] [] w
noncomputable def M_does_15 (d : Nat) (k1 : Nat) (l2 : Int) (l3 : Int) (l4 : Int) (l5 : Int) (l6 : Int) (l7 : Int) (l8 : Int) (w : zW) : zR := z_sem zP d 173 15 [some (vR 11 0), some (vR k1 0), some (vI l2), some (vI l3), some (vI l4), some (vI l5), some (vI l6), some (vI l7), some (vI l8)] [] w
noncomputable def M_does_19 (d : Nat) (k1 : Nat) (l2 : Int) (l5 : Int) (w : zW) : zR := z_sem zP d 173 19 [some (vR 11 0), some (vR k1 0), some (vI l2), none, none, some (vI l5)] [] w
noncomputable def M_turned (d : Nat) (a0 : Int) (a1 : Int) (w : zW) : zR := z_sem zP d 174 0 [some (vI a0), some (vI a1)] [] w
noncomputable def M_seeing (d : Nat) (a1 : Int) (w : zW) : zR := z_sem zP d 175 0 [some (vR 11 0), some (vI a1)] [] w
noncomputable def M_chance (d : Nat) (a1 : Int) (a2 : Int) (a3 : Int) (a4 : Int) (a5 : Int) (w : zW) : zR := z_sem zP d 176 0 [some (vR 11 0), some (vI a1), some (vI a2), some (vI a3), some (vI a4), some (vI a5)] [] w
noncomputable def M_signs (d : Nat) (k1 : Nat) (a2 : Int) (a3 : Int) (a4 : Int) (a5 : Int) (a6 : Int) (w : zW) : zR := z_sem zP d 177 0 [some (vR 11 0), some (vR k1 0), some (vI a2), some (vI a3), some (vI a4), some (vI a5), some (vI a6)] [] w
noncomputable def M_signs_1 (d : Nat) (k1 : Nat) (l2 : Int) (l3 : Int) (l4 : Int) (l5 : Int) (l6 : Int) (l7 : Int) (l9 : Int) (w : zW) : zR := z_sem zP d 177 1 [some (vR 11 0), some (vR k1 0), some (vI l2), some (vI l3), some (vI l4), some (vI l5), some (vI l6), some (vL l7), none, some (vI l9)] [] w
noncomputable def M_signs_3 (d : Nat) (k1 : Nat) (l2 : Int) (l3 : Int) (l4 : Int) (l5 : Int) (l6 : Int) (l7 : Int) (l9 : Int) (l10 : Int) (l11 : Int) (w : zW) : zR := z_sem zP d 177 3 [some (vR 11 0), some (vR k1 0), some (vI l2), some (vI l3), some (vI l4), some (vI l5), some (vI l6), some (vL l7), none, some (vI l9), some (vI l10), some (vI l11)] [] w
noncomputable def M_signs_9 (d : Nat) (k1 : Nat) (l2 : Int) (l7 : Int) (l9 : Int) (w : zW) : zR := z_sem zP d 177 9 [some (vR 11 0), some (vR k1 0), some (vI l2), none, none, none, none, some (vL l7), none, some (vI l9)] [] w
noncomputable def M_later (d : Nat) (a0 : Int) (w : zW) : zR := z_sem zP d 178 0 [some (vI a0)] [] w
noncomputable def M_writes (d : Nat) (a1 : Int) (a2 : Int) (a3 : Int) (w : zW) : zR := z_sem zP d 179 0 [some (vR 11 0), some (vI a1), some (vI a2), some (vI a3)] [] w
noncomputable def M_canAct (d : Nat) (w : zW) : zR := z_sem zP d 180 0 [some (vR 11 0)] [] w
noncomputable def M_act (d : Nat) (a1 : Int) (w : zW) : zR := z_sem zP d 181 0 [some (vR 11 0), some (vI a1)] [] w
noncomputable def M_told (d : Nat) (a1 : Int) (a2 : Int) (a3 : Int) (w : zW) : zR := z_sem zP d 182 0 [some (vR 11 0), some (vI a1), some (vI a2), some (vI a3)] [] w
noncomputable def M_felt (d : Nat) (a1 : Int) (w : zW) : zR := z_sem zP d 183 0 [some (vR 11 0), some (vI a1)] [] w
noncomputable def M_seen (d : Nat) (a1 : Int) (w : zW) : zR := z_sem zP d 184 0 [some (vR 11 0), some (vI a1)] [] w
noncomputable def M_heard (d : Nat) (a1 : Int) (a2 : Int) (w : zW) : zR := z_sem zP d 185 0 [some (vR 11 0), some (vI a1), some (vI a2)] [] w
noncomputable def M_strike (d : Nat) (a1 : Int) (a2 : Int) (w : zW) : zR := z_sem zP d 186 0 [some (vR 11 0), some (vI a1), some (vI a2)] [] w
noncomputable def M_strike_6 (d : Nat) (l1 : Int) (l2 : Int) (ls2 : Int) (ls3 : Int) (ls4 : Int) (ls5 : Int) (w : zW) : zR := z_sem zP d 186 6 [some (vR 11 0), some (vI l1), some (vI l2)] [vI ls5, vI ls4, vI ls3, vI ls2, vR 70 0, vR 11 0] w
noncomputable def M_oddsOf (d : Nat) (k1 : Nat) (a2 : Int) (a3 : Int) (w : zW) : zR := z_sem zP d 187 0 [some (vR 11 0), some (vR k1 0), some (vI a2), some (vI a3)] [] w
noncomputable def M_sumOn (d : Nat) (k1 : Nat) (a2 : Int) (w : zW) : zR := z_sem zP d 188 0 [some (vR 11 0), some (vR k1 0), some (vI a2)] [] w
noncomputable def M_sumOn_1 (d : Nat) (k1 : Nat) (l2 : Int) (l3 : Int) (l5 : Int) (w : zW) : zR := z_sem zP d 188 1 [some (vR 11 0), some (vR k1 0), some (vI l2), some (vL l3), none, some (vI l5)] [] w
noncomputable def M_surest (d : Nat) (k1 : Nat) (a2 : Int) (w : zW) : zR := z_sem zP d 189 0 [some (vR 11 0), some (vR k1 0), some (vI a2)] [] w
noncomputable def M_surest_1 (d : Nat) (k1 : Nat) (l2 : Int) (l3 : Int) (l4 : Int) (w : zW) : zR := z_sem zP d 189 1 [some (vR 11 0), some (vR k1 0), some (vI l2), some (vI l3), some (vI l4)] [] w
noncomputable def M_riskOf (d : Nat) (k1 : Nat) (a2 : Int) (w : zW) : zR := z_sem zP d 190 0 [some (vR 11 0), some (vR k1 0), some (vI a2)] [] w
noncomputable def M_riskOf_1 (d : Nat) (k1 : Nat) (l2 : Int) (l3 : Int) (l5 : Int) (w : zW) : zR := z_sem zP d 190 1 [some (vR 11 0), some (vR k1 0), some (vI l2), some (vL l3), none, some (vI l5)] [] w
noncomputable def M_odds (d : Nat) (a1 : Int) (a2 : Int) (a3 : Int) (w : zW) : zR := z_sem zP d 191 0 [some (vR 11 0), some (vI a1), some (vI a2), some (vI a3)] [] w
noncomputable def M_all (d : Nat) (a1 : Int) (w : zW) : zR := z_sem zP d 192 0 [some (vR 11 0), some (vI a1)] [] w
noncomputable def M_all_11 (d : Nat) (l1 : Int) (l3 : Int) (l5 : Int) (w : zW) : zR := z_sem zP d 192 11 [some (vR 11 0), some (vI l1), none, some (vL l3), none, some (vI l5)] [] w
noncomputable def M_all_14 (d : Nat) (l1 : Int) (l5 : Int) (ls0 : Int) (w : zW) : zR := z_sem zP d 192 14 [some (vR 11 0), some (vI l1), none, none, none, some (vI l5)] [vL ls0] w
noncomputable def M_tryBegins (d : Nat) (w : zW) : zR := z_sem zP d 193 0 [some (vR 11 0)] [] w
noncomputable def M_tryBegins_1 (d : Nat) (l1 : Int) (w : zW) : zR := z_sem zP d 193 1 [some (vR 11 0), some (vI l1)] [] w
noncomputable def M_comesHome (d : Nat) (w : zW) : zR := z_sem zP d 194 0 [some (vR 11 0)] [] w
noncomputable def M_comesHome_1 (d : Nat) (l1 : Int) (l2 : Int) (w : zW) : zR := z_sem zP d 194 1 [some (vR 11 0), some (vI l1), some (vI l2)] [] w
noncomputable def M_goesRow (d : Nat) (a1 : Int) (a2 : Int) (w : zW) : zR := z_sem zP d 195 0 [some (vR 11 0), some (vI a1), some (vI a2)] [] w
noncomputable def M_goesRow_1 (d : Nat) (l1 : Int) (l3 : Int) (l4 : Int) (w : zW) : zR := z_sem zP d 195 1 [some (vR 11 0), some (vI l1), none, some (vI l3), some (vI l4)] [] w
noncomputable def M_goesRow_4 (d : Nat) (l1 : Int) (l3 : Int) (l4 : Int) (l5 : Int) (w : zW) : zR := z_sem zP d 195 4 [some (vR 11 0), some (vI l1), none, some (vI l3), some (vI l4), some (vI l5)] [] w
noncomputable def M_isCode (d : Nat) (a0 : Int) (a1 : Int) (w : zW) : zR := z_sem zP d 196 0 [some (vI a0), some (vI a1)] [] w
noncomputable def M_row (d : Nat) (a1 : Int) (a2 : Int) (a3 : Int) (w : zW) : zR := z_sem zP d 197 0 [some (vR 11 0), some (vI a1), some (vI a2), some (vI a3)] [] w
noncomputable def M_soon (d : Nat) (a1 : Int) (w : zW) : zR := z_sem zP d 198 0 [some (vR 11 0), some (vI a1)] [] w
noncomputable def M_soon_4 (d : Nat) (l1 : Int) (l2 : Int) (l3 : Int) (l5 : Int) (l7 : Int) (w : zW) : zR := z_sem zP d 198 4 [some (vR 11 0), some (vI l1), some (vI l2), some (vL l3), none, some (vL l5), none, some (vI l7)] [] w
noncomputable def M_soon_10 (d : Nat) (l1 : Int) (l7 : Int) (w : zW) : zR := z_sem zP d 198 10 [some (vR 11 0), some (vI l1), none, none, none, none, none, some (vI l7)] [] w
noncomputable def M_left (d : Nat) (a1 : Int) (w : zW) : zR := z_sem zP d 199 0 [some (vR 11 0), some (vI a1)] [] w
noncomputable def M_left_4 (d : Nat) (l1 : Int) (l2 : Int) (w : zW) : zR := z_sem zP d 199 4 [some (vR 11 0), some (vI l1), some (vI l2)] [] w
noncomputable def M_fork (d : Nat) (a1 : Int) (a2 : Int) (a3 : Int) (a4 : Int) (a5 : Int) (w : zW) : zR := z_sem zP d 200 0 [some (vR 11 0), some (vI a1), some (vI a2), some (vI a3), some (vI a4), some (vI a5)] [] w
noncomputable def M_fork_8 (d : Nat) (l1 : Int) (l3 : Int) (l4 : Int) (l5 : Int) (l6 : Int) (l8 : Int) (w : zW) : zR := z_sem zP d 200 8 [some (vR 11 0), some (vI l1), none, some (vI l3), some (vI l4), some (vI l5), some (vL l6), none, some (vI l8)] [] w
noncomputable def M_fork_10 (d : Nat) (l1 : Int) (l3 : Int) (l4 : Int) (l5 : Int) (l6 : Int) (l8 : Int) (l9 : Int) (w : zW) : zR := z_sem zP d 200 10 [some (vR 11 0), some (vI l1), none, some (vI l3), some (vI l4), some (vI l5), some (vL l6), none, some (vI l8), some (vI l9)] [] w
noncomputable def M_again (d : Nat) (a1 : Int) (w : zW) : zR := z_sem zP d 201 0 [some (vR 11 0), some (vI a1)] [] w
noncomputable def M_again_1 (d : Nat) (l1 : Int) (l2 : Int) (w : zW) : zR := z_sem zP d 201 1 [some (vR 11 0), some (vI l1), some (vI l2)] [] w
noncomputable def M_again_6 (d : Nat) (l1 : Int) (l2 : Int) (l3 : Int) (l4 : Int) (ls0 : Int) (w : zW) : zR := z_sem zP d 201 6 [some (vR 11 0), some (vI l1), some (vI l2), some (vI l3), some (vI l4)] [vI ls0] w
noncomputable def M_bits (d : Nat) (a0 : Int) (w : zW) : zR := z_sem zP d 202 0 [some (vI a0)] [] w
noncomputable def M_bits_1 (d : Nat) (l1 : Int) (l2 : Int) (w : zW) : zR := z_sem zP d 202 1 [none, some (vI l1), some (vI l2)] [] w
noncomputable def M_remember (d : Nat) (a1 : Int) (a2 : Int) (a3 : Int) (w : zW) : zR := z_sem zP d 203 0 [some (vR 11 0), some (vI a1), some (vI a2), some (vI a3)] [] w
noncomputable def M_remember_5 (d : Nat) (l1 : Int) (l2 : Int) (l3 : Int) (l4 : Int) (w : zW) : zR := z_sem zP d 203 5 [some (vR 11 0), some (vI l1), some (vI l2), some (vI l3), some (vI l4)] [] w
noncomputable def M_remember_7 (d : Nat) (l1 : Int) (l2 : Int) (l3 : Int) (l4 : Int) (l5 : Int) (w : zW) : zR := z_sem zP d 203 7 [some (vR 11 0), some (vI l1), some (vI l2), some (vI l3), some (vI l4), some (vI l5)] [] w
noncomputable def M_tells (d : Nat) (w : zW) : zR := z_sem zP d 204 0 [some (vR 11 0)] [] w
noncomputable def M_tells_3 (d : Nat) (l1 : Int) (l3 : Int) (w : zW) : zR := z_sem zP d 204 3 [some (vR 11 0), some (vL l1), none, some (vI l3)] [] w
noncomputable def M_tells_5 (d : Nat) (l1 : Int) (l3 : Int) (l4 : Int) (l6 : Int) (w : zW) : zR := z_sem zP d 204 5 [some (vR 11 0), some (vL l1), none, some (vI l3), some (vL l4), none, some (vI l6)] [] w
noncomputable def M_tells_10 (d : Nat) (l1 : Int) (l3 : Int) (l4 : Int) (l6 : Int) (ls0 : Int) (w : zW) : zR := z_sem zP d 204 10 [some (vR 11 0), some (vL l1), none, some (vI l3), some (vL l4), none, some (vI l6)] [vL ls0] w
noncomputable def M_aim (d : Nat) (a1 : Int) (a2 : Int) (a3 : Int) (w : zW) : zR := z_sem zP d 205 0 [some (vR 11 0), some (vI a1), some (vI a2), some (vI a3)] [] w
noncomputable def M_aim_6 (d : Nat) (l1 : Int) (l2 : Int) (l3 : Int) (l4 : Int) (w : zW) : zR := z_sem zP d 205 6 [some (vR 11 0), some (vI l1), some (vI l2), some (vI l3), some (vI l4)] [] w
noncomputable def M_aim_8 (d : Nat) (l1 : Int) (l2 : Int) (l3 : Int) (l4 : Int) (l5 : Int) (l7 : Int) (w : zW) : zR := z_sem zP d 205 8 [some (vR 11 0), some (vI l1), some (vI l2), some (vI l3), some (vI l4), some (vL l5), none, some (vI l7)] [] w
noncomputable def M_aim_12 (d : Nat) (l1 : Int) (l2 : Int) (l3 : Int) (l4 : Int) (l7 : Int) (ls0 : Int) (ls1 : Int) (w : zW) : zR := z_sem zP d 205 12 [some (vR 11 0), some (vI l1), some (vI l2), some (vI l3), some (vI l4), none, none, some (vI l7)] [vI ls1, vL ls0] w
noncomputable def M_look (d : Nat) (a1 : Int) (w : zW) : zR := z_sem zP d 206 0 [some (vR 11 0), some (vI a1)] [] w
noncomputable def M_look_4 (d : Nat) (l1 : Int) (l2 : Int) (l4 : Int) (w : zW) : zR := z_sem zP d 206 4 [some (vR 11 0), some (vI l1), some (vL l2), none, some (vI l4)] [] w
noncomputable def M_gone (d : Nat) (a1 : Int) (w : zW) : zR := z_sem zP d 207 0 [some (vR 11 0), some (vI a1)] [] w
noncomputable def M_gone_1 (d : Nat) (l1 : Int) (l2 : Int) (l4 : Int) (w : zW) : zR := z_sem zP d 207 1 [some (vR 11 0), some (vI l1), some (vL l2), none, some (vI l4)] [] w
noncomputable def M_gone_3 (d : Nat) (l1 : Int) (l2 : Int) (l4 : Int) (l5 : Int) (l6 : Int) (w : zW) : zR := z_sem zP d 207 3 [some (vR 11 0), some (vI l1), some (vL l2), none, some (vI l4), some (vI l5), some (vI l6)] [] w
noncomputable def M_post (d : Nat) (a1 : Int) (a2 : Int) (a3 : Int) (w : zW) : zR := z_sem zP d 208 0 [some (vR 11 0), some (vI a1), some (vI a2), some (vI a3)] [] w
noncomputable def M_parish (d : Nat) (a1 : Int) (a2 : Int) (w : zW) : zR := z_sem zP d 209 0 [some (vR 11 0), some (vI a1), some (vI a2)] [] w
noncomputable def M_parish_4 (d : Nat) (l1 : Int) (l2 : Int) (l3 : Int) (l4 : Int) (w : zW) : zR := z_sem zP d 209 4 [some (vR 11 0), some (vI l1), some (vI l2), some (vI l3), some (vI l4)] [] w
noncomputable def M_parish_7 (d : Nat) (l1 : Int) (l2 : Int) (l3 : Int) (l4 : Int) (w : zW) : zR := z_sem zP d 209 7 [some (vR 11 0), some (vI l1), some (vI l2), some (vI l3), some (vI l4)] [] w
noncomputable def M_parish_13 (d : Nat) (l1 : Int) (l2 : Int) (l3 : Int) (l4 : Int) (l6 : Int) (w : zW) : zR := z_sem zP d 209 13 [some (vR 11 0), some (vI l1), some (vI l2), some (vI l3), some (vI l4), none, some (vI l6)] [] w
noncomputable def M_parish_21 (d : Nat) (l1 : Int) (l3 : Int) (l4 : Int) (l5 : Int) (w : zW) : zR := z_sem zP d 209 21 [some (vR 11 0), some (vI l1), none, some (vI l3), some (vI l4), some (vI l5)] [] w
noncomputable def M_parish_25 (d : Nat) (l1 : Int) (l3 : Int) (l4 : Int) (l5 : Int) (w : zW) : zR := z_sem zP d 209 25 [some (vR 11 0), some (vI l1), none, some (vI l3), some (vI l4), some (vI l5)] [] w
noncomputable def M_covers (d : Nat) (a1 : Int) (a2 : Int) (w : zW) : zR := z_sem zP d 210 0 [some (vR 11 0), some (vI a1), some (vI a2)] [] w
noncomputable def M_covers_1 (d : Nat) (l1 : Int) (l2 : Int) (l3 : Int) (w : zW) : zR := z_sem zP d 210 1 [some (vR 11 0), some (vI l1), some (vI l2), some (vI l3)] [] w
noncomputable def M_covers_7 (d : Nat) (l1 : Int) (l2 : Int) (l3 : Int) (ls0 : Int) (w : zW) : zR := z_sem zP d 210 7 [some (vR 11 0), some (vI l1), some (vI l2), some (vI l3)] [vI ls0] w
noncomputable def M_draw (d : Nat) (w : zW) : zR := z_sem zP d 211 0 [some (vR 11 0)] [] w
noncomputable def M_ruled (d : Nat) (a1 : Int) (w : zW) : zR := z_sem zP d 212 0 [some (vR 11 0), some (vI a1)] [] w
noncomputable def M_goesTruly (d : Nat) (w : zW) : zR := z_sem zP d 213 0 [some (vR 11 0)] [] w
noncomputable def M_goesTruly_7 (d : Nat) (ls0 : Int) (w : zW) : zR := z_sem zP d 213 7 [some (vR 11 0)] [vI ls0] w
noncomputable def M_goesTruly_10 (d : Nat) (l4 : Int) (ls0 : Int) (w : zW) : zR := z_sem zP d 213 10 [some (vR 11 0), none, none, none, some (vI l4)] [vI ls0] w
noncomputable def M_senses (d : Nat) (w : zW) : zR := z_sem zP d 214 0 [some (vR 11 0)] [] w
noncomputable def M_senses_3 (d : Nat) (ls0 : Int) (w : zW) : zR := z_sem zP d 214 3 [some (vR 11 0)] [vI ls0] w
noncomputable def M_senses_5 (d : Nat) (w : zW) : zR := z_sem zP d 214 5 [some (vR 11 0)] [] w
noncomputable def M_senses_8 (d : Nat) (ls0 : Int) (w : zW) : zR := z_sem zP d 214 8 [some (vR 11 0)] [vI ls0] w
noncomputable def M_senses_10 (d : Nat) (w : zW) : zR := z_sem zP d 214 10 [some (vR 11 0)] [] w
noncomputable def M_senses_21 (d : Nat) (l2 : Int) (w : zW) : zR := z_sem zP d 214 21 [some (vR 11 0), none, some (vI l2)] [] w
noncomputable def M_strikes (d : Nat) (w : zW) : zR := z_sem zP d 215 0 [some (vR 11 0)] [] w
noncomputable def M_nightGoes (d : Nat) (a1 : Int) (a2 : Int) (a3 : Int) (a4 : Int) (w : zW) : zR := z_sem zP d 216 0 [some (vR 11 0), some (vI a1), some (vI a2), some (vI a3), some (vI a4)] [] w
noncomputable def M_nightGoes_1 (d : Nat) (l1 : Int) (l4 : Int) (w : zW) : zR := z_sem zP d 216 1 [some (vR 11 0), some (vI l1), none, none, some (vI l4)] [] w
noncomputable def M_nightGoes_5 (d : Nat) (l1 : Int) (l4 : Int) (l5 : Int) (w : zW) : zR := z_sem zP d 216 5 [some (vR 11 0), some (vI l1), none, none, some (vI l4), some (vI l5)] [] w
noncomputable def M_nightGoes_8 (d : Nat) (l1 : Int) (l4 : Int) (l5 : Int) (ls2 : Int) (ls3 : Int) (w : zW) : zR := z_sem zP d 216 8 [some (vR 11 0), some (vI l1), none, none, some (vI l4), some (vI l5)] [vI ls3, vI ls2, vR 71 0, vR 11 0] w
noncomputable def M_nightGoes_13 (d : Nat) (l1 : Int) (l4 : Int) (l5 : Int) (w : zW) : zR := z_sem zP d 216 13 [some (vR 11 0), some (vI l1), none, none, some (vI l4), some (vI l5)] [] w
noncomputable def M_isNight (d : Nat) (a1 : Int) (a2 : Int) (a3 : Int) (a4 : Int) (a5 : Int) (a6 : Int) (w : zW) : zR := z_sem zP d 217 0 [some (vR 11 0), some (vI a1), some (vI a2), some (vI a3), some (vI a4), some (vI a5), some (vI a6)] [] w
noncomputable def M_night (d : Nat) (a1 : Int) (a2 : Int) (a3 : Int) (a4 : Int) (a5 : Int) (a6 : Int) (a7 : Int) (w : zW) : zR := z_sem zP d 218 0 [some (vR 11 0), some (vI a1), some (vI a2), some (vI a3), some (vI a4), some (vI a5), some (vI a6), some (vI a7)] [] w
noncomputable def M_sums (d : Nat) (a1 : Int) (a2 : Int) (a3 : Int) (a4 : Int) (a5 : Int) (a6 : Int) (w : zW) : zR := z_sem zP d 219 0 [some (vR 11 0), some (vI a1), some (vI a2), some (vI a3), some (vI a4), some (vI a5), some (vI a6)] [] w
noncomputable def M_sums_1 (d : Nat) (l1 : Int) (l2 : Int) (l3 : Int) (l5 : Int) (l6 : Int) (l7 : Int) (w : zW) : zR := z_sem zP d 219 1 [some (vR 11 0), some (vI l1), some (vI l2), some (vI l3), none, some (vI l5), some (vI l6), some (vI l7)] [] w
noncomputable def M_sums_4 (d : Nat) (l1 : Int) (l2 : Int) (l3 : Int) (l5 : Int) (l6 : Int) (l7 : Int) (w : zW) : zR := z_sem zP d 219 4 [some (vR 11 0), some (vI l1), some (vI l2), some (vI l3), none, some (vI l5), some (vI l6), some (vI l7)] [] w
noncomputable def M_nights (d : Nat) (a1 : Int) (a2 : Int) (a3 : Int) (a4 : Int) (a5 : Int) (a6 : Int) (a7 : Int) (a8 : Int) (w : zW) : zR := z_sem zP d 220 0 [some (vR 11 0), some (vI a1), some (vI a2), some (vI a3), some (vI a4), some (vI a5), some (vI a6), some (vI a7), some (vI a8)] [] w
noncomputable def M_finest (d : Nat) (a1 : Int) (a2 : Int) (a3 : Int) (a4 : Int) (a5 : Int) (a6 : Int) (w : zW) : zR := z_sem zP d 221 0 [some (vR 11 0), some (vI a1), some (vI a2), some (vI a3), some (vI a4), some (vI a5), some (vI a6)] [] w
noncomputable def M_finest_7 (d : Nat) (l1 : Int) (l2 : Int) (l3 : Int) (l4 : Int) (l5 : Int) (l6 : Int) (l7 : Int) (l8 : Int) (l9 : Int) (l10 : Int) (w : zW) : zR := z_sem zP d 221 7 [some (vR 11 0), some (vI l1), some (vI l2), some (vI l3), some (vI l4), some (vI l5), some (vI l6), some (vI l7), some (vI l8), some (vI l9), some (vI l10)] [] w
noncomputable def M_finest_13 (d : Nat) (l1 : Int) (l2 : Int) (l3 : Int) (l4 : Int) (l5 : Int) (l6 : Int) (l10 : Int) (w : zW) : zR := z_sem zP d 221 13 [some (vR 11 0), some (vI l1), some (vI l2), some (vI l3), some (vI l4), some (vI l5), some (vI l6), none, none, none, some (vI l10)] [] w
noncomputable def M_count (d : Nat) (a1 : Int) (w : zW) : zR := z_sem zP d 222 0 [some (vR 11 0), some (vI a1)] [] w
noncomputable def M_count_6 (d : Nat) (l1 : Int) (w : zW) : zR := z_sem zP d 222 6 [some (vR 11 0), some (vI l1)] [] w
noncomputable def M_image (d : Nat) (a1 : Int) (w : zW) : zR := z_sem zP d 223 0 [some (vR 11 0), some (vI a1)] [] w
noncomputable def M_image_3 (d : Nat) (l1 : Int) (l2 : Int) (w : zW) : zR := z_sem zP d 223 3 [some (vR 11 0), some (vI l1), some (vI l2)] [] w
noncomputable def M_back (d : Nat) (a1 : Int) (w : zW) : zR := z_sem zP d 224 0 [some (vR 11 0), some (vI a1)] [] w
noncomputable def M_back_4 (d : Nat) (l1 : Int) (l2 : Int) (w : zW) : zR := z_sem zP d 224 4 [some (vR 11 0), some (vI l1), some (vI l2)] [] w
noncomputable def J_bitCount (d : Nat) (a0 : Int) (w : zW) : zR := z_sem zP d 225 0 [some (vI a0)] [] w
noncomputable def J_rangeCheck (d : Nat) (a0 : Int) (a1 : Int) (a2 : Int) (w : zW) : zR := z_sem zP d 226 0 [some (vI a0), some (vI a1), some (vI a2)] [] w
noncomputable def J_fillL (d : Nat) (k0 : Nat) (a0 : Int) (a1 : Int) (w : zW) : zR := z_sem zP d 227 0 [some (vR k0 a0), some (vL a1), none] [] w
noncomputable def J_fillL_1 (d : Nat) (k0 : Nat) (l0 : Int) (l1 : Int) (l3 : Int) (l4 : Int) (w : zW) : zR := z_sem zP d 227 1 [some (vR k0 l0), some (vL l1), none, some (vI l3), some (vI l4)] [] w
noncomputable def J_fillLr (d : Nat) (k0 : Nat) (a0 : Int) (a1 : Int) (a2 : Int) (a3 : Int) (w : zW) : zR := z_sem zP d 228 0 [some (vR k0 a0), some (vI a1), some (vI a2), some (vL a3), none] [] w
noncomputable def J_fillLr_1 (d : Nat) (k0 : Nat) (l0 : Int) (l2 : Int) (l3 : Int) (l5 : Int) (w : zW) : zR := z_sem zP d 228 1 [some (vR k0 l0), none, some (vI l2), some (vL l3), none, some (vI l5)] [] w
noncomputable def J_fillI (d : Nat) (k0 : Nat) (a0 : Int) (a1 : Int) (w : zW) : zR := z_sem zP d 229 0 [some (vR k0 a0), some (vI a1)] [] w
noncomputable def J_fillI_1 (d : Nat) (k0 : Nat) (l0 : Int) (l1 : Int) (l2 : Int) (l3 : Int) (w : zW) : zR := z_sem zP d 229 1 [some (vR k0 l0), some (vI l1), some (vI l2), some (vI l3)] [] w
noncomputable def J_fillIr (d : Nat) (k0 : Nat) (a0 : Int) (a1 : Int) (a2 : Int) (a3 : Int) (w : zW) : zR := z_sem zP d 230 0 [some (vR k0 a0), some (vI a1), some (vI a2), some (vI a3)] [] w
noncomputable def J_fillIr_1 (d : Nat) (k0 : Nat) (l0 : Int) (l2 : Int) (l3 : Int) (l4 : Int) (w : zW) : zR := z_sem zP d 230 1 [some (vR k0 l0), none, some (vI l2), some (vI l3), some (vI l4)] [] w
noncomputable def S_length (d : Nat) (a0 : Int) (w : zW) : zR := z_sem zP d 231 0 [some (vR 12 a0)] [] w
noncomputable def S_coder (d : Nat) (a0 : Int) (w : zW) : zR := z_sem zP d 232 0 [some (vR 12 a0)] [] w
noncomputable def S_charAt (d : Nat) (a0 : Int) (a1 : Int) (w : zW) : zR := z_sem zP d 233 0 [some (vR 12 a0), some (vI a1)] [] w
noncomputable def S_isLatin1 (d : Nat) (a0 : Int) (w : zW) : zR := z_sem zP d 234 0 [some (vR 12 a0)] [] w
noncomputable def S_charAtL (d : Nat) (a0 : Int) (a1 : Int) (w : zW) : zR := z_sem zP d 235 0 [some (vR 79 a0), some (vI a1)] [] w
