/-! ===== the library's bitCount ===== -/
section BTS
def ush (x y : Int32) : Int32 := (x.toUInt32 >>> (y.toUInt32 &&& Int32.toUInt32 31)).toInt32
theorem r_iushr {k : MT} {Q : Po} {pc pc' : Nat} {ls : List (Option Value)} {st : List Value} {sh : List SC} {M : Mem} {n1 n2 : Nat} {x y : Int32} (hd : Inx k pc (.iushr) 1 pc') (h : WP k Q pc' ls (.int (ush x y) :: st) sh M n1 n2) : WP k Q pc ls (.int y :: .int x :: st) sh M n1 n2 := by
  intro p l e s m args below meth c ad0 ad dC dI dA sz0 H locs la C h0 h1 h2 h3 h4 h5
  obtain ⟨hd, rfl⟩ := hd
  exact lv_iushr C.1 C.2.1 hd rfl (h p l e s m args below meth c ad0 ad dC dI dA sz0 H locs la C h0 h1 h2 h3 h4 h5)
theorem r_ldcw {k : MT} {Q : Po} {pc pc' : Nat} {ls : List (Option Value)} {st : List Value} {sh : List SC} {M : Mem} {n1 n2 : Nat} {idx : Nat} {v : Int32} (hd : Inx k pc (.ldc_w idx) 3 pc') (hc : Cond.constant k.1.cls idx v ∈ lw_good) (h : WP k Q pc' ls (.int v :: st) sh M n1 n2) : WP k Q pc ls (st) sh M n1 n2 := by
  intro p l e s m args below meth c ad0 ad dC dI dA sz0 H locs la C h0 h1 h2 h3 h4 h5
  obtain ⟨hd, rfl⟩ := hd
  exact lv_ldcw C.1 C.2.1 C.2.2.2.2.2.1 (C.2.2.2.2.2.2.1 _ hc) hd (h p l e s m args below meth c ad0 ad dC dI dA sz0 H locs la C h0 h1 h2 h3 h4 h5)
def m_bits : MT := (yJ6_bitCount_0f7a4, cJ6_bitCount_0f7a4, 1, some .int, 0, 0, 0, 0)
theorem ck_bits : CLk m_bits 1 := ⟨good_mem (tb_5 (List.mem_of_getElem? (i := 81) (rfl : tables_1_5[81]? = some (Cond.code m_bits.1 m_bits.2.1 m_bits.2.2.1 m_bits.2.2.2.1)))) (by decide +kernel), good_mem (tb_1 (List.mem_of_getElem? (i := 19) (rfl : tables_1_1[19]? = some (Cond.initialized m_bits.1.cls)))) (by decide +kernel), by decide +kernel⟩
theorem cl_X10_165 : CS RX10 165 m_bits 1 := ⟨ck_bits, good_mem (tb_5 (List.mem_of_getElem? (i := 79) (rfl : tables_1_5[79]? = some (Cond.methodLink RX10 165 m_bits.1)))) (by decide +kernel), good_mem (tb_5 (List.mem_of_getElem? (i := 80) (rfl : tables_1_5[80]? = some (Cond.static m_bits.1)))) (by decide +kernel)⟩
theorem lc_bits_265 : Cond.constant m_bits.1.cls 265 1431655765 ∈ lw_good := good_mem (tb_5 (List.mem_of_getElem? (i := 82) (rfl : tables_1_5[82]? = some (Cond.constant m_bits.1.cls 265 1431655765)))) (by decide +kernel)
theorem lc_bits_266 : Cond.constant m_bits.1.cls 266 858993459 ∈ lw_good := good_mem (tb_5 (List.mem_of_getElem? (i := 83) (rfl : tables_1_5[83]? = some (Cond.constant m_bits.1.cls 266 858993459)))) (by decide +kernel)
theorem lc_bits_267 : Cond.constant m_bits.1.cls 267 252645135 ∈ lw_good := good_mem (tb_5 (List.mem_of_getElem? (i := 84) (rfl : tables_1_5[84]? = some (Cond.constant m_bits.1.cls 267 252645135)))) (by decide +kernel)
theorem e_bits_0 : Inx m_bits 0 (.iload_n 0) 1 1 := ⟨by decide +kernel, rfl⟩
theorem e_bits_1 : Inx m_bits 1 (.iload_n 0) 1 2 := ⟨by decide +kernel, rfl⟩
theorem e_bits_2 : Inx m_bits 2 (.iconst 1) 1 3 := ⟨by decide +kernel, rfl⟩
theorem e_bits_3 : Inx m_bits 3 (.iushr) 1 4 := ⟨by decide +kernel, rfl⟩
theorem e_bits_4 : Inx m_bits 4 (.ldc_w 265) 3 7 := ⟨by decide +kernel, rfl⟩
theorem e_bits_7 : Inx m_bits 7 (.iand) 1 8 := ⟨by decide +kernel, rfl⟩
theorem e_bits_8 : Inx m_bits 8 (.isub) 1 9 := ⟨by decide +kernel, rfl⟩
theorem e_bits_9 : Inx m_bits 9 (.istore_n 0) 1 10 := ⟨by decide +kernel, rfl⟩
theorem e_bits_10 : Inx m_bits 10 (.iload_n 0) 1 11 := ⟨by decide +kernel, rfl⟩
theorem e_bits_11 : Inx m_bits 11 (.ldc_w 266) 3 14 := ⟨by decide +kernel, rfl⟩
theorem e_bits_14 : Inx m_bits 14 (.iand) 1 15 := ⟨by decide +kernel, rfl⟩
theorem e_bits_15 : Inx m_bits 15 (.iload_n 0) 1 16 := ⟨by decide +kernel, rfl⟩
theorem e_bits_16 : Inx m_bits 16 (.iconst 2) 1 17 := ⟨by decide +kernel, rfl⟩
theorem e_bits_17 : Inx m_bits 17 (.iushr) 1 18 := ⟨by decide +kernel, rfl⟩
theorem e_bits_18 : Inx m_bits 18 (.ldc_w 266) 3 21 := ⟨by decide +kernel, rfl⟩
theorem e_bits_21 : Inx m_bits 21 (.iand) 1 22 := ⟨by decide +kernel, rfl⟩
theorem e_bits_22 : Inx m_bits 22 (.iadd) 1 23 := ⟨by decide +kernel, rfl⟩
theorem e_bits_23 : Inx m_bits 23 (.istore_n 0) 1 24 := ⟨by decide +kernel, rfl⟩
theorem e_bits_24 : Inx m_bits 24 (.iload_n 0) 1 25 := ⟨by decide +kernel, rfl⟩
theorem e_bits_25 : Inx m_bits 25 (.iload_n 0) 1 26 := ⟨by decide +kernel, rfl⟩
theorem e_bits_26 : Inx m_bits 26 (.iconst 4) 1 27 := ⟨by decide +kernel, rfl⟩
theorem e_bits_27 : Inx m_bits 27 (.iushr) 1 28 := ⟨by decide +kernel, rfl⟩
theorem e_bits_28 : Inx m_bits 28 (.iadd) 1 29 := ⟨by decide +kernel, rfl⟩
theorem e_bits_29 : Inx m_bits 29 (.ldc_w 267) 3 32 := ⟨by decide +kernel, rfl⟩
theorem e_bits_32 : Inx m_bits 32 (.iand) 1 33 := ⟨by decide +kernel, rfl⟩
theorem e_bits_33 : Inx m_bits 33 (.istore_n 0) 1 34 := ⟨by decide +kernel, rfl⟩
theorem e_bits_34 : Inx m_bits 34 (.iload_n 0) 1 35 := ⟨by decide +kernel, rfl⟩
theorem e_bits_35 : Inx m_bits 35 (.iload_n 0) 1 36 := ⟨by decide +kernel, rfl⟩
theorem e_bits_36 : Inx m_bits 36 (.bipush 8) 2 38 := ⟨by decide +kernel, rfl⟩
theorem e_bits_38 : Inx m_bits 38 (.iushr) 1 39 := ⟨by decide +kernel, rfl⟩
theorem e_bits_39 : Inx m_bits 39 (.iadd) 1 40 := ⟨by decide +kernel, rfl⟩
theorem e_bits_40 : Inx m_bits 40 (.istore_n 0) 1 41 := ⟨by decide +kernel, rfl⟩
theorem e_bits_41 : Inx m_bits 41 (.iload_n 0) 1 42 := ⟨by decide +kernel, rfl⟩
theorem e_bits_42 : Inx m_bits 42 (.iload_n 0) 1 43 := ⟨by decide +kernel, rfl⟩
theorem e_bits_43 : Inx m_bits 43 (.bipush 16) 2 45 := ⟨by decide +kernel, rfl⟩
theorem e_bits_45 : Inx m_bits 45 (.iushr) 1 46 := ⟨by decide +kernel, rfl⟩
theorem e_bits_46 : Inx m_bits 46 (.iadd) 1 47 := ⟨by decide +kernel, rfl⟩
theorem e_bits_47 : Inx m_bits 47 (.istore_n 0) 1 48 := ⟨by decide +kernel, rfl⟩
theorem e_bits_48 : Inx m_bits 48 (.iload_n 0) 1 49 := ⟨by decide +kernel, rfl⟩
theorem e_bits_49 : Inx m_bits 49 (.bipush 63) 2 51 := ⟨by decide +kernel, rfl⟩
theorem e_bits_51 : Inx m_bits 51 (.iand) 1 52 := ⟨by decide +kernel, rfl⟩
theorem e_bits_52 : Inx m_bits 52 (.ireturn) 1 53 := ⟨by decide +kernel, rfl⟩
def V_bits (x : Int32) (_ : Mem) : Int32 := (let y9 : Int32 := (x - ((ush x (1 : Int32)) &&& (1431655765 : Int32))); let y23 : Int32 := ((y9 &&& (858993459 : Int32)) + ((ush y9 (2 : Int32)) &&& (858993459 : Int32))); let y33 : Int32 := ((y23 + (ush y23 (4 : Int32))) &&& (252645135 : Int32)); let y40 : Int32 := (y33 + (ush y33 (8 : Int32))); let y47 : Int32 := (y40 + (ush y40 (16 : Int32))); (y47 &&& (63 : Int32)))
theorem S_bits {sh : List SC} {M : Mem} {x : Int32} : Gv m_bits [.int x] sh M (.int (V_bits x M)) M := by
  refine Sp.of (ls := [some (.int x)]) (by decide +kernel) (Nat.le_of_ble_eq_true rfl) rfl ?_
  refine r_iload_n e_bits_0 rfl ?_
  refine r_iload_n e_bits_1 rfl ?_
  refine r_iconst e_bits_2 ic_1 ?_
  refine r_iushr e_bits_3 ?_
  refine r_ldcw e_bits_4 lc_bits_265 ?_
  refine r_iand e_bits_7 ?_
  refine r_isub e_bits_8 ?_
  refine r_istore_n (ls' := [some (.int _)]) e_bits_9 (by decide) rfl ?_
  refine r_iload_n e_bits_10 rfl ?_
  refine r_ldcw e_bits_11 lc_bits_266 ?_
  refine r_iand e_bits_14 ?_
  refine r_iload_n e_bits_15 rfl ?_
  refine r_iconst e_bits_16 ic_2 ?_
  refine r_iushr e_bits_17 ?_
  refine r_ldcw e_bits_18 lc_bits_266 ?_
  refine r_iand e_bits_21 ?_
  refine r_iadd e_bits_22 ?_
  refine r_istore_n (ls' := [some (.int _)]) e_bits_23 (by decide) rfl ?_
  refine r_iload_n e_bits_24 rfl ?_
  refine r_iload_n e_bits_25 rfl ?_
  refine r_iconst e_bits_26 ic_4 ?_
  refine r_iushr e_bits_27 ?_
  refine r_iadd e_bits_28 ?_
  refine r_ldcw e_bits_29 lc_bits_267 ?_
  refine r_iand e_bits_32 ?_
  refine r_istore_n (ls' := [some (.int _)]) e_bits_33 (by decide) rfl ?_
  refine r_iload_n e_bits_34 rfl ?_
  refine r_iload_n e_bits_35 rfl ?_
  refine r_bipush (v := (8 : Int32)) e_bits_36 rfl ?_
  refine r_iushr e_bits_38 ?_
  refine r_iadd e_bits_39 ?_
  refine r_istore_n (ls' := [some (.int _)]) e_bits_40 (by decide) rfl ?_
  refine r_iload_n e_bits_41 rfl ?_
  refine r_iload_n e_bits_42 rfl ?_
  refine r_bipush (v := (16 : Int32)) e_bits_43 rfl ?_
  refine r_iushr e_bits_45 ?_
  refine r_iadd e_bits_46 ?_
  refine r_istore_n (ls' := [some (.int _)]) e_bits_47 (by decide) rfl ?_
  refine r_iload_n e_bits_48 rfl ?_
  refine r_bipush (v := (63 : Int32)) e_bits_49 rfl ?_
  refine r_iand e_bits_51 ?_
  exact r_ireturn e_bits_52 rfl ⟨rfl, rfl⟩ ⟨rfl, rfl, rfl⟩
end BTS
