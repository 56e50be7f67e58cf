/-! ===== constructors: the words of the tables, and the leaves ===== -/
theorem aw_int : Cond.arrayClass (newarray.typeOf .int) ∈ lw_good := good_mem (tb_1 (List.mem_of_getElem? (i := 123) (rfl : tables_1_1[123]? = some (Cond.arrayClass (newarray.typeOf .int))))) (by decide +kernel)
theorem aw_long : Cond.arrayClass (newarray.typeOf .long) ∈ lw_good := good_mem (tb_1 (List.mem_of_getElem? (i := 124) (rfl : tables_1_1[124]? = some (Cond.arrayClass (newarray.typeOf .long))))) (by decide +kernel)
theorem aw_boolean : Cond.arrayClass (newarray.typeOf .boolean) ∈ lw_good := good_mem (tb_6 (List.mem_of_getElem? (i := 170) (rfl : tables_1_6[170]? = some (Cond.arrayClass (newarray.typeOf .boolean))))) (by decide +kernel)
theorem ob_i : Cond.instanceMethod Lib.objectInit ∈ lw_good := good_mem (tb_1 (List.mem_of_getElem? (i := 26) (rfl : tables_1_1[26]? = some (Cond.instanceMethod Lib.objectInit)))) (by decide +kernel)
theorem ob_c : Cond.code Lib.objectInit { data := #[177] } 1 none ∈ lw_good := good_mem (tb_1 (List.mem_of_getElem? (i := 27) (rfl : tables_1_1[27]? = some (Cond.code Lib.objectInit { data := #[177] } 1 none)))) (by decide +kernel)
theorem ob_X10 : ObjOk RX10 1 := ⟨good_mem (tb_1 (List.mem_of_getElem? (i := 25) (rfl : tables_1_1[25]? = some (Cond.methodLink RX10 1 Lib.objectInit)))) (by decide +kernel), ob_i, ob_c⟩
theorem lk_X10_13 : Cond.classLink RX10 13 RX4 ∈ lw_good := good_mem (tb_1 (List.mem_of_getElem? (i := 28) (rfl : tables_1_1[28]? = some (Cond.classLink RX10 13 RX4)))) (by decide +kernel)
theorem nw_X10_13 : NW RX10 13 4 10 := ⟨RX4, TX4, tyX4, rfl, inG_X4, tyX4_ok, lk_X10_13, good_mem (tb_1 (List.mem_of_getElem? (i := 29) (rfl : tables_1_1[29]? = some (Cond.instantiable RX4 10)))) (by decide +kernel), good_mem (tb_1 (List.mem_of_getElem? (i := 2) (rfl : tables_1_1[2]? = some (Cond.initialized RX4)))) (by decide +kernel), rfl, by decide +kernel⟩
theorem lk_X10_20 : Cond.classLink RX10 20 RX3 ∈ lw_good := good_mem (tb_1 (List.mem_of_getElem? (i := 126) (rfl : tables_1_1[126]? = some (Cond.classLink RX10 20 RX3)))) (by decide +kernel)
theorem nw_X10_20 : NW RX10 20 3 20 := ⟨RX3, TX3, tyX3, rfl, inG_X3, tyX3_ok, lk_X10_20, good_mem (tb_1 (List.mem_of_getElem? (i := 151) (rfl : tables_1_1[151]? = some (Cond.instantiable RX3 20)))) (by decide +kernel), good_mem (tb_1 (List.mem_of_getElem? (i := 8) (rfl : tables_1_1[8]? = some (Cond.initialized RX3)))) (by decide +kernel), rfl, by decide +kernel⟩
theorem lk_X10_26 : Cond.classLink RX10 26 RX8 ∈ lw_good := good_mem (tb_1 (List.mem_of_getElem? (i := 128) (rfl : tables_1_1[128]? = some (Cond.classLink RX10 26 RX8)))) (by decide +kernel)
theorem nw_X10_26 : NW RX10 26 8 5 := ⟨RX8, TX8, tyX8, rfl, inG_X8, tyX8_ok, lk_X10_26, good_mem (tb_1 (List.mem_of_getElem? (i := 231) (rfl : tables_1_1[231]? = some (Cond.instantiable RX8 5)))) (by decide +kernel), good_mem (tb_1 (List.mem_of_getElem? (i := 9) (rfl : tables_1_1[9]? = some (Cond.initialized RX8)))) (by decide +kernel), rfl, by decide +kernel⟩
theorem lk_X10_32 : Cond.classLink RX10 32 RX2 ∈ lw_good := good_mem (tb_1 (List.mem_of_getElem? (i := 130) (rfl : tables_1_1[130]? = some (Cond.classLink RX10 32 RX2)))) (by decide +kernel)
theorem nw_X10_32 : NW RX10 32 2 10 := ⟨RX2, TX2, tyX2, rfl, inG_X2, tyX2_ok, lk_X10_32, good_mem (tb_2 (List.mem_of_getElem? (i := 29) (rfl : tables_1_2[29]? = some (Cond.instantiable RX2 10)))) (by decide +kernel), good_mem (tb_1 (List.mem_of_getElem? (i := 10) (rfl : tables_1_1[10]? = some (Cond.initialized RX2)))) (by decide +kernel), rfl, by decide +kernel⟩
theorem lk_X10_38 : Cond.classLink RX10 38 RX1 ∈ lw_good := good_mem (tb_1 (List.mem_of_getElem? (i := 132) (rfl : tables_1_1[132]? = some (Cond.classLink RX10 38 RX1)))) (by decide +kernel)
theorem nw_X10_38 : NW RX10 38 1 4 := ⟨RX1, TX1, tyX1, rfl, inG_X1, tyX1_ok, lk_X10_38, good_mem (tb_1 (List.mem_of_getElem? (i := 133) (rfl : tables_1_1[133]? = some (Cond.instantiable RX1 4)))) (by decide +kernel), good_mem (tb_1 (List.mem_of_getElem? (i := 7) (rfl : tables_1_1[7]? = some (Cond.initialized RX1)))) (by decide +kernel), rfl, by decide +kernel⟩
theorem ob_X4 : ObjOk RX4 3 := ⟨good_mem (tb_1 (List.mem_of_getElem? (i := 33) (rfl : tables_1_1[33]? = some (Cond.methodLink RX4 3 Lib.objectInit)))) (by decide +kernel), ob_i, ob_c⟩
theorem ob_X1 : ObjOk RX1 3 := ⟨good_mem (tb_1 (List.mem_of_getElem? (i := 137) (rfl : tables_1_1[137]? = some (Cond.methodLink RX1 3 Lib.objectInit)))) (by decide +kernel), ob_i, ob_c⟩
theorem ob_X3 : ObjOk RX3 3 := ⟨good_mem (tb_1 (List.mem_of_getElem? (i := 155) (rfl : tables_1_1[155]? = some (Cond.methodLink RX3 3 Lib.objectInit)))) (by decide +kernel), ob_i, ob_c⟩
theorem ob_X8 : ObjOk RX8 3 := ⟨good_mem (tb_1 (List.mem_of_getElem? (i := 235) (rfl : tables_1_1[235]? = some (Cond.methodLink RX8 3 Lib.objectInit)))) (by decide +kernel), ob_i, ob_c⟩
theorem ob_X2 : ObjOk RX2 3 := ⟨good_mem (tb_2 (List.mem_of_getElem? (i := 33) (rfl : tables_1_2[33]? = some (Cond.methodLink RX2 3 Lib.objectInit)))) (by decide +kernel), ob_i, ob_c⟩
theorem lk_X2_9 : Cond.classLink RX2 9 RX6 ∈ lw_good := good_mem (tb_2 (List.mem_of_getElem? (i := 34) (rfl : tables_1_2[34]? = some (Cond.classLink RX2 9 RX6)))) (by decide +kernel)
theorem nw_X2_9 : NW RX2 9 6 3 := ⟨RX6, TX6, tyX6, rfl, inG_X6, tyX6_ok, lk_X2_9, good_mem (tb_2 (List.mem_of_getElem? (i := 35) (rfl : tables_1_2[35]? = some (Cond.instantiable RX6 3)))) (by decide +kernel), good_mem (tb_1 (List.mem_of_getElem? (i := 11) (rfl : tables_1_1[11]? = some (Cond.initialized RX6)))) (by decide +kernel), rfl, by decide +kernel⟩
theorem lk_X2_18 : Cond.classLink RX2 18 RX5 ∈ lw_good := good_mem (tb_2 (List.mem_of_getElem? (i := 51) (rfl : tables_1_2[51]? = some (Cond.classLink RX2 18 RX5)))) (by decide +kernel)
theorem nw_X2_18 : NW RX2 18 5 18 := ⟨RX5, TX5, tyX5, rfl, inG_X5, tyX5_ok, lk_X2_18, good_mem (tb_2 (List.mem_of_getElem? (i := 134) (rfl : tables_1_2[134]? = some (Cond.instantiable RX5 18)))) (by decide +kernel), good_mem (tb_1 (List.mem_of_getElem? (i := 14) (rfl : tables_1_1[14]? = some (Cond.initialized RX5)))) (by decide +kernel), rfl, by decide +kernel⟩
theorem lk_X2_24 : Cond.classLink RX2 24 RX0 ∈ lw_good := good_mem (tb_2 (List.mem_of_getElem? (i := 53) (rfl : tables_1_2[53]? = some (Cond.classLink RX2 24 RX0)))) (by decide +kernel)
theorem nw_X2_24 : NW RX2 24 0 12 := ⟨RX0, TX0, tyX0, rfl, inG_X0, tyX0_ok, lk_X2_24, good_mem (tb_2 (List.mem_of_getElem? (i := 54) (rfl : tables_1_2[54]? = some (Cond.instantiable RX0 12)))) (by decide +kernel), good_mem (tb_1 (List.mem_of_getElem? (i := 12) (rfl : tables_1_1[12]? = some (Cond.initialized RX0)))) (by decide +kernel), rfl, by decide +kernel⟩
theorem lk_X2_31 : Cond.classLink RX2 31 RX7 ∈ lw_good := good_mem (tb_2 (List.mem_of_getElem? (i := 103) (rfl : tables_1_2[103]? = some (Cond.classLink RX2 31 RX7)))) (by decide +kernel)
theorem nw_X2_31 : NW RX2 31 7 6 := ⟨RX7, TX7, tyX7, rfl, inG_X7, tyX7_ok, lk_X2_31, good_mem (tb_2 (List.mem_of_getElem? (i := 104) (rfl : tables_1_2[104]? = some (Cond.instantiable RX7 6)))) (by decide +kernel), good_mem (tb_1 (List.mem_of_getElem? (i := 13) (rfl : tables_1_1[13]? = some (Cond.initialized RX7)))) (by decide +kernel), rfl, by decide +kernel⟩
theorem ob_X6 : ObjOk RX6 5 := ⟨good_mem (tb_2 (List.mem_of_getElem? (i := 39) (rfl : tables_1_2[39]? = some (Cond.methodLink RX6 5 Lib.objectInit)))) (by decide +kernel), ob_i, ob_c⟩
theorem ob_X0 : ObjOk RX0 1 := ⟨good_mem (tb_2 (List.mem_of_getElem? (i := 58) (rfl : tables_1_2[58]? = some (Cond.methodLink RX0 1 Lib.objectInit)))) (by decide +kernel), ob_i, ob_c⟩
theorem ob_X7 : ObjOk RX7 1 := ⟨good_mem (tb_2 (List.mem_of_getElem? (i := 108) (rfl : tables_1_2[108]? = some (Cond.methodLink RX7 1 Lib.objectInit)))) (by decide +kernel), ob_i, ob_c⟩
theorem ob_X5 : ObjOk RX5 3 := ⟨good_mem (tb_2 (List.mem_of_getElem? (i := 138) (rfl : tables_1_2[138]? = some (Cond.methodLink RX5 3 Lib.objectInit)))) (by decide +kernel), ob_i, ob_c⟩
theorem ob_X11 : ObjOk RX11 192 := ⟨good_mem (tb_6 (List.mem_of_getElem? (i := 24) (rfl : tables_1_6[24]? = some (Cond.methodLink RX11 192 Lib.objectInit)))) (by decide +kernel), ob_i, ob_c⟩
theorem zb {v : Int32} (h : v = 0 ∨ v = 1) : narrow .boolean (.int v) = .int v ∧ fits .boolean (.int v) = true := by rcases h with rfl | rfl <;> exact ⟨rfl, rfl⟩
def B_X0 (n : Nat) : List SC := [(0 + 7, 0, [none, none, none, none, none, none, none, none, none, none, some (n + 1), some (n + 2)]), (0, 4, []), (0, 4, [])]
def MB_X0 (n : Nat) (M : Mem) : Mem := setI M n 2 (-1 : Int32)
theorem S_X0_init {sh0 : List SC} {n : Nat} {M : Mem} (hn : sh0.length = n) (hw : WfS sh0) (hz : Zm n M) : Sp m_X0_init [.ref n] (sh0 ++ [(0 + 7, 0, List.replicate 12 none)]) M (fun r sh' M' => r = none ∧ sh' = sh0 ++ B_X0 n ∧ M' = MB_X0 n M) := by
  refine Sp.of (ls := [some (.ref n)]) (by decide +kernel) (Nat.le_of_ble_eq_true rfl) rfl ?_
  refine r_aload_n e_X0_init_0 rfl ?_
  refine r_objInit e_X0_init_1 ob_X0 ⟨Nat.le_of_ble_eq_true rfl, Nat.le_of_ble_eq_true rfl⟩ ?_
  refine r_aload_n e_X0_init_4 rfl ?_
  refine r_iconst e_X0_init_5 ic_0 ?_
  refine c_put0 (i := 0) hn e_X0_init_6 fl_X0_7 rfl rfl ((hz n (by omega) 0).1) ?_
  refine r_aload_n e_X0_init_9 rfl ?_
  refine r_iconst e_X0_init_10 ic_0 ?_
  refine c_put0 (i := 0) hn e_X0_init_11 fl_X0_13 rfl rfl ((hz n (by omega) 1).1) ?_
  refine r_aload_n e_X0_init_14 rfl ?_
  refine r_iconst e_X0_init_15 ic_m1 ?_
  refine r_putI e_X0_init_16 fl_X0_16 (kd_app (i := 0) hn rfl rfl) ?_
  refine r_aload_n e_X0_init_19 rfl ?_
  refine r_iconst e_X0_init_20 ic_0 ?_
  refine c_put0 (i := 0) hn e_X0_init_21 fl_X0_19 rfl rfl ((by rw [gI (Or.inr (by decide))]; exact (hz n (by omega) 3).1)) ?_
  refine r_aload_n e_X0_init_24 rfl ?_
  refine r_iconst e_X0_init_25 ic_0 ?_
  refine c_put0 (i := 0) hn e_X0_init_26 fl_X0_22 rfl rfl ((by rw [gI (Or.inr (by decide))]; exact (hz n (by omega) 4).1)) ?_
  refine r_aload_n e_X0_init_29 rfl ?_
  refine r_iconst e_X0_init_30 ic_0 ?_
  refine c_put0 (i := 0) hn e_X0_init_31 fl_X0_25 rfl rfl ((by rw [gI (Or.inr (by decide))]; exact (hz n (by omega) 5).1)) ?_
  refine r_aload_n e_X0_init_34 rfl ?_
  refine r_iconst e_X0_init_35 ic_0 ?_
  refine c_put0 (i := 0) hn e_X0_init_36 fl_X0_28 rfl rfl ((by rw [gI (Or.inr (by decide))]; exact (hz n (by omega) 6).1)) ?_
  refine r_aload_n e_X0_init_39 rfl ?_
  refine r_iconst e_X0_init_40 ic_0 ?_
  refine c_put0 (i := 0) hn e_X0_init_41 fl_X0_31 rfl rfl ((by rw [gI (Or.inr (by decide))]; exact (hz n (by omega) 7).1)) ?_
  refine r_aload_n e_X0_init_44 rfl ?_
  refine r_iconst e_X0_init_45 ic_0 ?_
  refine c_put0 (i := 0) hn e_X0_init_46 fl_X0_34 rfl rfl ((by rw [gI (Or.inr (by decide))]; exact (hz n (by omega) 8).1)) ?_
  refine r_aload_n e_X0_init_49 rfl ?_
  refine r_iconst e_X0_init_50 ic_0 ?_
  refine c_put0 (i := 0) hn e_X0_init_51 fl_X0_37 rfl rfl ((by rw [gI (Or.inr (by decide))]; exact (hz n (by omega) 9).1)) ?_
  refine r_aload_n e_X0_init_54 rfl ?_
  refine r_iconst e_X0_init_55 ic_4 ?_
  refine c_newarr (q := n + 1) (l' := [(0 + 7, 0, [none, none, none, none, none, none, none, none, none, none, none, none]), (0, 4, [])]) (t := 0) (N := 4) hn e_X0_init_56 (by decide) rfl aw_int (by decide) rfl (Nat.le_of_ble_eq_true rfl) hw ⟨trivial, trivial⟩ ⟨(show n < n + 1 by omega), trivial⟩ ⟨(show n < n + 1 by omega), trivial⟩ rfl ((show zq _ _ from (show zq _ _ from hz (n + 1) (by omega)).setI (by omega))) ⟨Nat.le_of_ble_eq_true rfl, Nat.le_of_ble_eq_true rfl⟩ rfl ?_
  refine c_putRF (l' := [(0 + 7, 0, [none, none, none, none, none, none, none, none, none, none, some (n + 1), none]), (0, 4, [])]) (i := 0) hn e_X0_init_58 fl_X0_40 rfl rfl rfl rfl (show 10 < 12 from Nat.le_of_ble_eq_true rfl) rfl ?_
  refine r_aload_n e_X0_init_61 rfl ?_
  refine r_iconst e_X0_init_62 ic_4 ?_
  refine c_newarr (q := n + 2) (l' := [(0 + 7, 0, [none, none, none, none, none, none, none, none, none, none, some (n + 1), none]), (0, 4, []), (0, 4, [])]) (t := 0) (N := 4) hn e_X0_init_63 (by decide) rfl aw_int (by decide) rfl (Nat.le_of_ble_eq_true rfl) hw ⟨⟨(show n + 1 < n + 2 by omega), trivial⟩, ⟨trivial, trivial⟩⟩ ⟨(show n < n + 2 by omega), trivial⟩ ⟨(show n < n + 2 by omega), trivial⟩ rfl ((show zq _ _ from (show zq _ _ from hz (n + 2) (by omega)).setI (by omega))) ⟨Nat.le_of_ble_eq_true rfl, Nat.le_of_ble_eq_true rfl⟩ rfl ?_
  refine c_putRF (l' := [(0 + 7, 0, [none, none, none, none, none, none, none, none, none, none, some (n + 1), some (n + 2)]), (0, 4, []), (0, 4, [])]) (i := 0) hn e_X0_init_65 fl_X0_44 rfl rfl rfl rfl (show 11 < 12 from Nat.le_of_ble_eq_true rfl) rfl ?_
  exact r_return e_X0_init_68 rfl ⟨rfl, rfl⟩ ⟨rfl, rfl, rfl⟩
def B_X1 (n : Nat) : List SC := [(1 + 7, 0, [none, some (n + 1), some (n + 2), some (n + 3)]), (0, 4, []), (0, 4, []), (0, 4, [])]
def MB_X1 (n : Nat) (M : Mem) : Mem := M
theorem S_X1_init {sh0 : List SC} {n : Nat} {M : Mem} (hn : sh0.length = n) (hw : WfS sh0) (hz : Zm n M) : Sp m_X1_init [.ref n] (sh0 ++ [(1 + 7, 0, List.replicate 4 none)]) M (fun r sh' M' => r = none ∧ sh' = sh0 ++ B_X1 n ∧ M' = MB_X1 n M) := by
  refine Sp.of (ls := [some (.ref n)]) (by decide +kernel) (Nat.le_of_ble_eq_true rfl) rfl ?_
  refine r_aload_n e_X1_init_0 rfl ?_
  refine r_objInit e_X1_init_1 ob_X1 ⟨Nat.le_of_ble_eq_true rfl, Nat.le_of_ble_eq_true rfl⟩ ?_
  refine r_aload_n e_X1_init_4 rfl ?_
  refine r_iconst e_X1_init_5 ic_0 ?_
  refine c_put0 (i := 0) hn e_X1_init_6 fl_X1_9 rfl rfl ((hz n (by omega) 0).1) ?_
  refine r_aload_n e_X1_init_9 rfl ?_
  refine r_iconst e_X1_init_10 ic_4 ?_
  refine c_newarr (q := n + 1) (l' := [(1 + 7, 0, [none, none, none, none]), (0, 4, [])]) (t := 0) (N := 4) hn e_X1_init_11 (by decide) rfl aw_int (by decide) rfl (Nat.le_of_ble_eq_true rfl) hw ⟨trivial, trivial⟩ ⟨(show n < n + 1 by omega), trivial⟩ ⟨(show n < n + 1 by omega), trivial⟩ rfl ((show zq _ _ from hz (n + 1) (by omega))) ⟨Nat.le_of_ble_eq_true rfl, Nat.le_of_ble_eq_true rfl⟩ rfl ?_
  refine c_putRF (l' := [(1 + 7, 0, [none, some (n + 1), none, none]), (0, 4, [])]) (i := 0) hn e_X1_init_13 fl_X1_15 rfl rfl rfl rfl (show 1 < 4 from Nat.le_of_ble_eq_true rfl) rfl ?_
  refine r_aload_n e_X1_init_16 rfl ?_
  refine r_iconst e_X1_init_17 ic_4 ?_
  refine c_newarr (q := n + 2) (l' := [(1 + 7, 0, [none, some (n + 1), none, none]), (0, 4, []), (0, 4, [])]) (t := 0) (N := 4) hn e_X1_init_18 (by decide) rfl aw_int (by decide) rfl (Nat.le_of_ble_eq_true rfl) hw ⟨⟨(show n + 1 < n + 2 by omega), trivial⟩, ⟨trivial, trivial⟩⟩ ⟨(show n < n + 2 by omega), trivial⟩ ⟨(show n < n + 2 by omega), trivial⟩ rfl ((show zq _ _ from hz (n + 2) (by omega))) ⟨Nat.le_of_ble_eq_true rfl, Nat.le_of_ble_eq_true rfl⟩ rfl ?_
  refine c_putRF (l' := [(1 + 7, 0, [none, some (n + 1), some (n + 2), none]), (0, 4, []), (0, 4, [])]) (i := 0) hn e_X1_init_20 fl_X1_19 rfl rfl rfl rfl (show 2 < 4 from Nat.le_of_ble_eq_true rfl) rfl ?_
  refine r_aload_n e_X1_init_23 rfl ?_
  refine r_iconst e_X1_init_24 ic_4 ?_
  refine c_newarr (q := n + 3) (l' := [(1 + 7, 0, [none, some (n + 1), some (n + 2), none]), (0, 4, []), (0, 4, []), (0, 4, [])]) (t := 0) (N := 4) hn e_X1_init_25 (by decide) rfl aw_int (by decide) rfl (Nat.le_of_ble_eq_true rfl) hw ⟨⟨(show n + 1 < n + 3 by omega), ⟨(show n + 2 < n + 3 by omega), trivial⟩⟩, ⟨trivial, ⟨trivial, trivial⟩⟩⟩ ⟨(show n < n + 3 by omega), trivial⟩ ⟨(show n < n + 3 by omega), trivial⟩ rfl ((show zq _ _ from hz (n + 3) (by omega))) ⟨Nat.le_of_ble_eq_true rfl, Nat.le_of_ble_eq_true rfl⟩ rfl ?_
  refine c_putRF (l' := [(1 + 7, 0, [none, some (n + 1), some (n + 2), some (n + 3)]), (0, 4, []), (0, 4, []), (0, 4, [])]) (i := 0) hn e_X1_init_27 fl_X1_22 rfl rfl rfl rfl (show 3 < 4 from Nat.le_of_ble_eq_true rfl) rfl ?_
  exact r_return e_X1_init_30 rfl ⟨rfl, rfl⟩ ⟨rfl, rfl, rfl⟩
def B_X7 (n : Nat) : List SC := [(7 + 7, 0, [none, none, none, none, some (n + 1), some (n + 2)]), (0, 4, []), (0, 20, [])]
def MB_X7 (n : Nat) (M : Mem) : Mem := M
theorem S_X7_init {sh0 : List SC} {n : Nat} {M : Mem} (hn : sh0.length = n) (hw : WfS sh0) (hz : Zm n M) : Sp m_X7_init [.ref n] (sh0 ++ [(7 + 7, 0, List.replicate 6 none)]) M (fun r sh' M' => r = none ∧ sh' = sh0 ++ B_X7 n ∧ M' = MB_X7 n M) := by
  refine Sp.of (ls := [some (.ref n)]) (by decide +kernel) (Nat.le_of_ble_eq_true rfl) rfl ?_
  refine r_aload_n e_X7_init_0 rfl ?_
  refine r_objInit e_X7_init_1 ob_X7 ⟨Nat.le_of_ble_eq_true rfl, Nat.le_of_ble_eq_true rfl⟩ ?_
  refine r_aload_n e_X7_init_4 rfl ?_
  refine r_iconst e_X7_init_5 ic_0 ?_
  refine c_put0 (i := 0) hn e_X7_init_6 fl_X7_7 rfl rfl ((hz n (by omega) 0).1) ?_
  refine r_aload_n e_X7_init_9 rfl ?_
  refine r_iconst e_X7_init_10 ic_0 ?_
  refine c_put0 (i := 0) hn e_X7_init_11 fl_X7_13 rfl rfl ((hz n (by omega) 1).1) ?_
  refine r_aload_n e_X7_init_14 rfl ?_
  refine r_iconst e_X7_init_15 ic_0 ?_
  refine c_put0 (i := 0) hn e_X7_init_16 fl_X7_16 rfl rfl ((hz n (by omega) 2).1) ?_
  refine r_aload_n e_X7_init_19 rfl ?_
  refine r_iconst e_X7_init_20 ic_0 ?_
  refine c_put0 (i := 0) hn e_X7_init_21 fl_X7_19 rfl rfl ((hz n (by omega) 3).1) ?_
  refine r_aload_n e_X7_init_24 rfl ?_
  refine r_iconst e_X7_init_25 ic_4 ?_
  refine c_newarr (q := n + 1) (l' := [(7 + 7, 0, [none, none, none, none, none, none]), (0, 4, [])]) (t := 0) (N := 4) hn e_X7_init_26 (by decide) rfl aw_int (by decide) rfl (Nat.le_of_ble_eq_true rfl) hw ⟨trivial, trivial⟩ ⟨(show n < n + 1 by omega), trivial⟩ ⟨(show n < n + 1 by omega), trivial⟩ rfl ((show zq _ _ from hz (n + 1) (by omega))) ⟨Nat.le_of_ble_eq_true rfl, Nat.le_of_ble_eq_true rfl⟩ rfl ?_
  refine c_putRF (l' := [(7 + 7, 0, [none, none, none, none, some (n + 1), none]), (0, 4, [])]) (i := 0) hn e_X7_init_28 fl_X7_22 rfl rfl rfl rfl (show 4 < 6 from Nat.le_of_ble_eq_true rfl) rfl ?_
  refine r_aload_n e_X7_init_31 rfl ?_
  refine r_bipush (v := (20 : Int32)) e_X7_init_32 rfl ?_
  refine c_newarr (q := n + 2) (l' := [(7 + 7, 0, [none, none, none, none, some (n + 1), none]), (0, 4, []), (0, 20, [])]) (t := 0) (N := 20) hn e_X7_init_34 (by decide) rfl aw_int (by decide) rfl (Nat.le_of_ble_eq_true rfl) hw ⟨⟨(show n + 1 < n + 2 by omega), trivial⟩, ⟨trivial, trivial⟩⟩ ⟨(show n < n + 2 by omega), trivial⟩ ⟨(show n < n + 2 by omega), trivial⟩ rfl ((show zq _ _ from hz (n + 2) (by omega))) ⟨Nat.le_of_ble_eq_true rfl, Nat.le_of_ble_eq_true rfl⟩ rfl ?_
  refine c_putRF (l' := [(7 + 7, 0, [none, none, none, none, some (n + 1), some (n + 2)]), (0, 4, []), (0, 20, [])]) (i := 0) hn e_X7_init_36 fl_X7_26 rfl rfl rfl rfl (show 5 < 6 from Nat.le_of_ble_eq_true rfl) rfl ?_
  exact r_return e_X7_init_39 rfl ⟨rfl, rfl⟩ ⟨rfl, rfl, rfl⟩
def B_X6 (n : Nat) : List SC := [(6 + 7, 0, [some (n + 1), none, none]), (0, 28, [])]
def MB_X6 (n : Nat) (M : Mem) : Mem := M
theorem S_X6_init {sh0 : List SC} {n : Nat} {M : Mem} (hn : sh0.length = n) (hw : WfS sh0) (hz : Zm n M) : Sp m_X6_init [.ref n] (sh0 ++ [(6 + 7, 0, List.replicate 3 none)]) M (fun r sh' M' => r = none ∧ sh' = sh0 ++ B_X6 n ∧ M' = MB_X6 n M) := by
  refine Sp.of (ls := [some (.ref n)]) (by decide +kernel) (Nat.le_of_ble_eq_true rfl) rfl ?_
  refine r_aload_n e_X6_init_0 rfl ?_
  refine r_objInit e_X6_init_1 ob_X6 ⟨Nat.le_of_ble_eq_true rfl, Nat.le_of_ble_eq_true rfl⟩ ?_
  refine r_aload_n e_X6_init_4 rfl ?_
  refine r_bipush (v := (28 : Int32)) e_X6_init_5 rfl ?_
  refine c_newarr (q := n + 1) (l' := [(6 + 7, 0, [none, none, none]), (0, 28, [])]) (t := 0) (N := 28) hn e_X6_init_7 (by decide) rfl aw_int (by decide) rfl (Nat.le_of_ble_eq_true rfl) hw ⟨trivial, trivial⟩ ⟨(show n < n + 1 by omega), trivial⟩ ⟨(show n < n + 1 by omega), trivial⟩ rfl ((show zq _ _ from hz (n + 1) (by omega))) ⟨Nat.le_of_ble_eq_true rfl, Nat.le_of_ble_eq_true rfl⟩ rfl ?_
  refine c_putRF (l' := [(6 + 7, 0, [some (n + 1), none, none]), (0, 28, [])]) (i := 0) hn e_X6_init_9 fl_X6_11 rfl rfl rfl rfl (show 0 < 3 from Nat.le_of_ble_eq_true rfl) rfl ?_
  refine r_aload_n e_X6_init_12 rfl ?_
  refine r_iconst e_X6_init_13 ic_0 ?_
  refine c_put0 (i := 0) hn e_X6_init_14 fl_X6_15 rfl rfl ((hz n (by omega) 1).1) ?_
  refine r_aload_n e_X6_init_17 rfl ?_
  refine r_iconst e_X6_init_18 ic_0 ?_
  refine c_put0 (i := 0) hn e_X6_init_19 fl_X6_19 rfl rfl ((hz n (by omega) 2).1) ?_
  exact r_return e_X6_init_22 rfl ⟨rfl, rfl⟩ ⟨rfl, rfl, rfl⟩
def B_X3 (n : Nat) : List SC := [(3 + 7, 0, [none, some (n + 1), some (n + 2), none, some (n + 3), some (n + 4), none, some (n + 5), some (n + 6), none, some (n + 7), some (n + 8), some (n + 9), none, some (n + 10), none, some (n + 11), some (n + 12), some (n + 13), some (n + 14)]), (1, 8, []), (0, 9, []), (0, 97, []), (0, 97, []), (0, 400, []), (0, 400, []), (0, 400, []), (1, 400, []), (0, 400, []), (0, 401, []), (0, 400, []), (0, 400, []), (0, 400, []), (0, 400, [])]
def MB_X3 (n : Nat) (M : Mem) : Mem := M
theorem S_X3_init {sh0 : List SC} {n : Nat} {M : Mem} (hn : sh0.length = n) (hw : WfS sh0) (hz : Zm n M) : Sp m_X3_init [.ref n] (sh0 ++ [(3 + 7, 0, List.replicate 20 none)]) M (fun r sh' M' => r = none ∧ sh' = sh0 ++ B_X3 n ∧ M' = MB_X3 n M) := by
  refine Sp.of (ls := [some (.ref n)]) (by decide +kernel) (Nat.le_of_ble_eq_true rfl) rfl ?_
  refine r_aload_n e_X3_init_0 rfl ?_
  refine r_objInit e_X3_init_1 ob_X3 ⟨Nat.le_of_ble_eq_true rfl, Nat.le_of_ble_eq_true rfl⟩ ?_
  refine r_aload_n e_X3_init_4 rfl ?_
  refine r_iconst e_X3_init_5 ic_0 ?_
  refine c_put0 (i := 0) hn e_X3_init_6 fl_X3_9 rfl rfl ((hz n (by omega) 0).1) ?_
  refine r_aload_n e_X3_init_9 rfl ?_
  refine r_bipush (v := (8 : Int32)) e_X3_init_10 rfl ?_
  refine c_newarr (q := n + 1) (l' := [(3 + 7, 0, [none, none, none, none, none, none, none, none, none, none, none, none, none, none, none, none, none, none, none, none]), (1, 8, [])]) (t := 1) (N := 8) hn e_X3_init_12 (by decide) rfl aw_long (by decide) rfl (Nat.le_of_ble_eq_true rfl) hw ⟨trivial, trivial⟩ ⟨(show n < n + 1 by omega), trivial⟩ ⟨(show n < n + 1 by omega), trivial⟩ rfl ((show zq _ _ from hz (n + 1) (by omega))) ⟨Nat.le_of_ble_eq_true rfl, Nat.le_of_ble_eq_true rfl⟩ rfl ?_
  refine c_putRF (l' := [(3 + 7, 0, [none, some (n + 1), none, none, none, none, none, none, none, none, none, none, none, none, none, none, none, none, none, none]), (1, 8, [])]) (i := 0) hn e_X3_init_14 fl_X3_15 rfl rfl rfl rfl (show 1 < 20 from Nat.le_of_ble_eq_true rfl) rfl ?_
  refine r_aload_n e_X3_init_17 rfl ?_
  refine r_bipush (v := (9 : Int32)) e_X3_init_18 rfl ?_
  refine c_newarr (q := n + 2) (l' := [(3 + 7, 0, [none, some (n + 1), none, none, none, none, none, none, none, none, none, none, none, none, none, none, none, none, none, none]), (1, 8, []), (0, 9, [])]) (t := 0) (N := 9) hn e_X3_init_20 (by decide) rfl aw_int (by decide) rfl (Nat.le_of_ble_eq_true rfl) hw ⟨⟨(show n + 1 < n + 2 by omega), trivial⟩, ⟨trivial, trivial⟩⟩ ⟨(show n < n + 2 by omega), trivial⟩ ⟨(show n < n + 2 by omega), trivial⟩ rfl ((show zq _ _ from hz (n + 2) (by omega))) ⟨Nat.le_of_ble_eq_true rfl, Nat.le_of_ble_eq_true rfl⟩ rfl ?_
  refine c_putRF (l' := [(3 + 7, 0, [none, some (n + 1), some (n + 2), none, none, none, none, none, none, none, none, none, none, none, none, none, none, none, none, none]), (1, 8, []), (0, 9, [])]) (i := 0) hn e_X3_init_22 fl_X3_19 rfl rfl rfl rfl (show 2 < 20 from Nat.le_of_ble_eq_true rfl) rfl ?_
  refine r_aload_n e_X3_init_25 rfl ?_
  refine r_iconst e_X3_init_26 ic_0 ?_
  refine c_put0 (i := 0) hn e_X3_init_27 fl_X3_23 rfl rfl ((hz n (by omega) 3).1) ?_
  refine r_aload_n e_X3_init_30 rfl ?_
  refine r_bipush (v := (97 : Int32)) e_X3_init_31 rfl ?_
  refine c_newarr (q := n + 3) (l' := [(3 + 7, 0, [none, some (n + 1), some (n + 2), none, none, none, none, none, none, none, none, none, none, none, none, none, none, none, none, none]), (1, 8, []), (0, 9, []), (0, 97, [])]) (t := 0) (N := 97) hn e_X3_init_33 (by decide) rfl aw_int (by decide) rfl (Nat.le_of_ble_eq_true rfl) hw ⟨⟨(show n + 1 < n + 3 by omega), ⟨(show n + 2 < n + 3 by omega), trivial⟩⟩, ⟨trivial, ⟨trivial, trivial⟩⟩⟩ ⟨(show n < n + 3 by omega), trivial⟩ ⟨(show n < n + 3 by omega), trivial⟩ rfl ((show zq _ _ from hz (n + 3) (by omega))) ⟨Nat.le_of_ble_eq_true rfl, Nat.le_of_ble_eq_true rfl⟩ rfl ?_
  refine c_putRF (l' := [(3 + 7, 0, [none, some (n + 1), some (n + 2), none, some (n + 3), none, none, none, none, none, none, none, none, none, none, none, none, none, none, none]), (1, 8, []), (0, 9, []), (0, 97, [])]) (i := 0) hn e_X3_init_35 fl_X3_26 rfl rfl rfl rfl (show 4 < 20 from Nat.le_of_ble_eq_true rfl) rfl ?_
  refine r_aload_n e_X3_init_38 rfl ?_
  refine r_bipush (v := (97 : Int32)) e_X3_init_39 rfl ?_
  refine c_newarr (q := n + 4) (l' := [(3 + 7, 0, [none, some (n + 1), some (n + 2), none, some (n + 3), none, none, none, none, none, none, none, none, none, none, none, none, none, none, none]), (1, 8, []), (0, 9, []), (0, 97, []), (0, 97, [])]) (t := 0) (N := 97) hn e_X3_init_41 (by decide) rfl aw_int (by decide) rfl (Nat.le_of_ble_eq_true rfl) hw ⟨⟨(show n + 1 < n + 4 by omega), ⟨(show n + 2 < n + 4 by omega), ⟨(show n + 3 < n + 4 by omega), trivial⟩⟩⟩, ⟨trivial, ⟨trivial, ⟨trivial, trivial⟩⟩⟩⟩ ⟨(show n < n + 4 by omega), trivial⟩ ⟨(show n < n + 4 by omega), trivial⟩ rfl ((show zq _ _ from hz (n + 4) (by omega))) ⟨Nat.le_of_ble_eq_true rfl, Nat.le_of_ble_eq_true rfl⟩ rfl ?_
  refine c_putRF (l' := [(3 + 7, 0, [none, some (n + 1), some (n + 2), none, some (n + 3), some (n + 4), none, none, none, none, none, none, none, none, none, none, none, none, none, none]), (1, 8, []), (0, 9, []), (0, 97, []), (0, 97, [])]) (i := 0) hn e_X3_init_43 fl_X3_29 rfl rfl rfl rfl (show 5 < 20 from Nat.le_of_ble_eq_true rfl) rfl ?_
  refine r_aload_n e_X3_init_46 rfl ?_
  refine r_iconst e_X3_init_47 ic_0 ?_
  refine c_put0 (i := 0) hn e_X3_init_48 fl_X3_32 rfl rfl ((hz n (by omega) 6).1) ?_
  refine r_aload_n e_X3_init_51 rfl ?_
  refine r_sipush (v := (400 : Int32)) e_X3_init_52 (by decide) ?_
  refine c_newarr (q := n + 5) (l' := [(3 + 7, 0, [none, some (n + 1), some (n + 2), none, some (n + 3), some (n + 4), none, none, none, none, none, none, none, none, none, none, none, none, none, none]), (1, 8, []), (0, 9, []), (0, 97, []), (0, 97, []), (0, 400, [])]) (t := 0) (N := 400) hn e_X3_init_55 (by decide) rfl aw_int (by decide) rfl (Nat.le_of_ble_eq_true rfl) hw ⟨⟨(show n + 1 < n + 5 by omega), ⟨(show n + 2 < n + 5 by omega), ⟨(show n + 3 < n + 5 by omega), ⟨(show n + 4 < n + 5 by omega), trivial⟩⟩⟩⟩, ⟨trivial, ⟨trivial, ⟨trivial, ⟨trivial, trivial⟩⟩⟩⟩⟩ ⟨(show n < n + 5 by omega), trivial⟩ ⟨(show n < n + 5 by omega), trivial⟩ rfl ((show zq _ _ from hz (n + 5) (by omega))) ⟨Nat.le_of_ble_eq_true rfl, Nat.le_of_ble_eq_true rfl⟩ rfl ?_
  refine c_putRF (l' := [(3 + 7, 0, [none, some (n + 1), some (n + 2), none, some (n + 3), some (n + 4), none, some (n + 5), none, none, none, none, none, none, none, none, none, none, none, none]), (1, 8, []), (0, 9, []), (0, 97, []), (0, 97, []), (0, 400, [])]) (i := 0) hn e_X3_init_57 fl_X3_35 rfl rfl rfl rfl (show 7 < 20 from Nat.le_of_ble_eq_true rfl) rfl ?_
  refine r_aload_n e_X3_init_60 rfl ?_
  refine r_sipush (v := (400 : Int32)) e_X3_init_61 (by decide) ?_
  refine c_newarr (q := n + 6) (l' := [(3 + 7, 0, [none, some (n + 1), some (n + 2), none, some (n + 3), some (n + 4), none, some (n + 5), none, none, none, none, none, none, none, none, none, none, none, none]), (1, 8, []), (0, 9, []), (0, 97, []), (0, 97, []), (0, 400, []), (0, 400, [])]) (t := 0) (N := 400) hn e_X3_init_64 (by decide) rfl aw_int (by decide) rfl (Nat.le_of_ble_eq_true rfl) hw ⟨⟨(show n + 1 < n + 6 by omega), ⟨(show n + 2 < n + 6 by omega), ⟨(show n + 3 < n + 6 by omega), ⟨(show n + 4 < n + 6 by omega), ⟨(show n + 5 < n + 6 by omega), trivial⟩⟩⟩⟩⟩, ⟨trivial, ⟨trivial, ⟨trivial, ⟨trivial, ⟨trivial, trivial⟩⟩⟩⟩⟩⟩ ⟨(show n < n + 6 by omega), trivial⟩ ⟨(show n < n + 6 by omega), trivial⟩ rfl ((show zq _ _ from hz (n + 6) (by omega))) ⟨Nat.le_of_ble_eq_true rfl, Nat.le_of_ble_eq_true rfl⟩ rfl ?_
  refine c_putRF (l' := [(3 + 7, 0, [none, some (n + 1), some (n + 2), none, some (n + 3), some (n + 4), none, some (n + 5), some (n + 6), none, none, none, none, none, none, none, none, none, none, none]), (1, 8, []), (0, 9, []), (0, 97, []), (0, 97, []), (0, 400, []), (0, 400, [])]) (i := 0) hn e_X3_init_66 fl_X3_38 rfl rfl rfl rfl (show 8 < 20 from Nat.le_of_ble_eq_true rfl) rfl ?_
  refine r_aload_n e_X3_init_69 rfl ?_
  refine r_iconst e_X3_init_70 ic_0 ?_
  refine c_put0 (i := 0) hn e_X3_init_71 fl_X3_41 rfl rfl ((hz n (by omega) 9).1) ?_
  refine r_aload_n e_X3_init_74 rfl ?_
  refine r_sipush (v := (400 : Int32)) e_X3_init_75 (by decide) ?_
  refine c_newarr (q := n + 7) (l' := [(3 + 7, 0, [none, some (n + 1), some (n + 2), none, some (n + 3), some (n + 4), none, some (n + 5), some (n + 6), none, none, none, none, none, none, none, none, none, none, none]), (1, 8, []), (0, 9, []), (0, 97, []), (0, 97, []), (0, 400, []), (0, 400, []), (0, 400, [])]) (t := 0) (N := 400) hn e_X3_init_78 (by decide) rfl aw_int (by decide) rfl (Nat.le_of_ble_eq_true rfl) hw ⟨⟨(show n + 1 < n + 7 by omega), ⟨(show n + 2 < n + 7 by omega), ⟨(show n + 3 < n + 7 by omega), ⟨(show n + 4 < n + 7 by omega), ⟨(show n + 5 < n + 7 by omega), ⟨(show n + 6 < n + 7 by omega), trivial⟩⟩⟩⟩⟩⟩, ⟨trivial, ⟨trivial, ⟨trivial, ⟨trivial, ⟨trivial, ⟨trivial, trivial⟩⟩⟩⟩⟩⟩⟩ ⟨(show n < n + 7 by omega), trivial⟩ ⟨(show n < n + 7 by omega), trivial⟩ rfl ((show zq _ _ from hz (n + 7) (by omega))) ⟨Nat.le_of_ble_eq_true rfl, Nat.le_of_ble_eq_true rfl⟩ rfl ?_
  refine c_putRF (l' := [(3 + 7, 0, [none, some (n + 1), some (n + 2), none, some (n + 3), some (n + 4), none, some (n + 5), some (n + 6), none, some (n + 7), none, none, none, none, none, none, none, none, none]), (1, 8, []), (0, 9, []), (0, 97, []), (0, 97, []), (0, 400, []), (0, 400, []), (0, 400, [])]) (i := 0) hn e_X3_init_80 fl_X3_44 rfl rfl rfl rfl (show 10 < 20 from Nat.le_of_ble_eq_true rfl) rfl ?_
  refine r_aload_n e_X3_init_83 rfl ?_
  refine r_sipush (v := (400 : Int32)) e_X3_init_84 (by decide) ?_
  refine c_newarr (q := n + 8) (l' := [(3 + 7, 0, [none, some (n + 1), some (n + 2), none, some (n + 3), some (n + 4), none, some (n + 5), some (n + 6), none, some (n + 7), none, none, none, none, none, none, none, none, none]), (1, 8, []), (0, 9, []), (0, 97, []), (0, 97, []), (0, 400, []), (0, 400, []), (0, 400, []), (1, 400, [])]) (t := 1) (N := 400) hn e_X3_init_87 (by decide) rfl aw_long (by decide) rfl (Nat.le_of_ble_eq_true rfl) hw ⟨⟨(show n + 1 < n + 8 by omega), ⟨(show n + 2 < n + 8 by omega), ⟨(show n + 3 < n + 8 by omega), ⟨(show n + 4 < n + 8 by omega), ⟨(show n + 5 < n + 8 by omega), ⟨(show n + 6 < n + 8 by omega), ⟨(show n + 7 < n + 8 by omega), trivial⟩⟩⟩⟩⟩⟩⟩, ⟨trivial, ⟨trivial, ⟨trivial, ⟨trivial, ⟨trivial, ⟨trivial, ⟨trivial, trivial⟩⟩⟩⟩⟩⟩⟩⟩ ⟨(show n < n + 8 by omega), trivial⟩ ⟨(show n < n + 8 by omega), trivial⟩ rfl ((show zq _ _ from hz (n + 8) (by omega))) ⟨Nat.le_of_ble_eq_true rfl, Nat.le_of_ble_eq_true rfl⟩ rfl ?_
  refine c_putRF (l' := [(3 + 7, 0, [none, some (n + 1), some (n + 2), none, some (n + 3), some (n + 4), none, some (n + 5), some (n + 6), none, some (n + 7), some (n + 8), none, none, none, none, none, none, none, none]), (1, 8, []), (0, 9, []), (0, 97, []), (0, 97, []), (0, 400, []), (0, 400, []), (0, 400, []), (1, 400, [])]) (i := 0) hn e_X3_init_89 fl_X3_47 rfl rfl rfl rfl (show 11 < 20 from Nat.le_of_ble_eq_true rfl) rfl ?_
  refine r_aload_n e_X3_init_92 rfl ?_
  refine r_sipush (v := (400 : Int32)) e_X3_init_93 (by decide) ?_
  refine c_newarr (q := n + 9) (l' := [(3 + 7, 0, [none, some (n + 1), some (n + 2), none, some (n + 3), some (n + 4), none, some (n + 5), some (n + 6), none, some (n + 7), some (n + 8), none, none, none, none, none, none, none, none]), (1, 8, []), (0, 9, []), (0, 97, []), (0, 97, []), (0, 400, []), (0, 400, []), (0, 400, []), (1, 400, []), (0, 400, [])]) (t := 0) (N := 400) hn e_X3_init_96 (by decide) rfl aw_int (by decide) rfl (Nat.le_of_ble_eq_true rfl) hw ⟨⟨(show n + 1 < n + 9 by omega), ⟨(show n + 2 < n + 9 by omega), ⟨(show n + 3 < n + 9 by omega), ⟨(show n + 4 < n + 9 by omega), ⟨(show n + 5 < n + 9 by omega), ⟨(show n + 6 < n + 9 by omega), ⟨(show n + 7 < n + 9 by omega), ⟨(show n + 8 < n + 9 by omega), trivial⟩⟩⟩⟩⟩⟩⟩⟩, ⟨trivial, ⟨trivial, ⟨trivial, ⟨trivial, ⟨trivial, ⟨trivial, ⟨trivial, ⟨trivial, trivial⟩⟩⟩⟩⟩⟩⟩⟩⟩ ⟨(show n < n + 9 by omega), trivial⟩ ⟨(show n < n + 9 by omega), trivial⟩ rfl ((show zq _ _ from hz (n + 9) (by omega))) ⟨Nat.le_of_ble_eq_true rfl, Nat.le_of_ble_eq_true rfl⟩ rfl ?_
  refine c_putRF (l' := [(3 + 7, 0, [none, some (n + 1), some (n + 2), none, some (n + 3), some (n + 4), none, some (n + 5), some (n + 6), none, some (n + 7), some (n + 8), some (n + 9), none, none, none, none, none, none, none]), (1, 8, []), (0, 9, []), (0, 97, []), (0, 97, []), (0, 400, []), (0, 400, []), (0, 400, []), (1, 400, []), (0, 400, [])]) (i := 0) hn e_X3_init_98 fl_X3_50 rfl rfl rfl rfl (show 12 < 20 from Nat.le_of_ble_eq_true rfl) rfl ?_
  refine r_aload_n e_X3_init_101 rfl ?_
  refine r_iconst e_X3_init_102 ic_0 ?_
  refine c_put0 (i := 0) hn e_X3_init_103 fl_X3_53 rfl rfl ((hz n (by omega) 13).1) ?_
  refine r_aload_n e_X3_init_106 rfl ?_
  refine r_sipush (v := (401 : Int32)) e_X3_init_107 (by decide) ?_
  refine c_newarr (q := n + 10) (l' := [(3 + 7, 0, [none, some (n + 1), some (n + 2), none, some (n + 3), some (n + 4), none, some (n + 5), some (n + 6), none, some (n + 7), some (n + 8), some (n + 9), none, none, none, none, none, none, none]), (1, 8, []), (0, 9, []), (0, 97, []), (0, 97, []), (0, 400, []), (0, 400, []), (0, 400, []), (1, 400, []), (0, 400, []), (0, 401, [])]) (t := 0) (N := 401) hn e_X3_init_110 (by decide) rfl aw_int (by decide) rfl (Nat.le_of_ble_eq_true rfl) hw ⟨⟨(show n + 1 < n + 10 by omega), ⟨(show n + 2 < n + 10 by omega), ⟨(show n + 3 < n + 10 by omega), ⟨(show n + 4 < n + 10 by omega), ⟨(show n + 5 < n + 10 by omega), ⟨(show n + 6 < n + 10 by omega), ⟨(show n + 7 < n + 10 by omega), ⟨(show n + 8 < n + 10 by omega), ⟨(show n + 9 < n + 10 by omega), trivial⟩⟩⟩⟩⟩⟩⟩⟩⟩, ⟨trivial, ⟨trivial, ⟨trivial, ⟨trivial, ⟨trivial, ⟨trivial, ⟨trivial, ⟨trivial, ⟨trivial, trivial⟩⟩⟩⟩⟩⟩⟩⟩⟩⟩ ⟨(show n < n + 10 by omega), trivial⟩ ⟨(show n < n + 10 by omega), trivial⟩ rfl ((show zq _ _ from hz (n + 10) (by omega))) ⟨Nat.le_of_ble_eq_true rfl, Nat.le_of_ble_eq_true rfl⟩ rfl ?_
  refine c_putRF (l' := [(3 + 7, 0, [none, some (n + 1), some (n + 2), none, some (n + 3), some (n + 4), none, some (n + 5), some (n + 6), none, some (n + 7), some (n + 8), some (n + 9), none, some (n + 10), none, none, none, none, none]), (1, 8, []), (0, 9, []), (0, 97, []), (0, 97, []), (0, 400, []), (0, 400, []), (0, 400, []), (1, 400, []), (0, 400, []), (0, 401, [])]) (i := 0) hn e_X3_init_112 fl_X3_56 rfl rfl rfl rfl (show 14 < 20 from Nat.le_of_ble_eq_true rfl) rfl ?_
  refine r_aload_n e_X3_init_115 rfl ?_
  refine r_iconst e_X3_init_116 ic_0 ?_
  refine c_put0 (i := 0) hn e_X3_init_117 fl_X3_59 rfl rfl ((hz n (by omega) 15).1) ?_
  refine r_aload_n e_X3_init_120 rfl ?_
  refine r_sipush (v := (400 : Int32)) e_X3_init_121 (by decide) ?_
  refine c_newarr (q := n + 11) (l' := [(3 + 7, 0, [none, some (n + 1), some (n + 2), none, some (n + 3), some (n + 4), none, some (n + 5), some (n + 6), none, some (n + 7), some (n + 8), some (n + 9), none, some (n + 10), none, none, none, none, none]), (1, 8, []), (0, 9, []), (0, 97, []), (0, 97, []), (0, 400, []), (0, 400, []), (0, 400, []), (1, 400, []), (0, 400, []), (0, 401, []), (0, 400, [])]) (t := 0) (N := 400) hn e_X3_init_124 (by decide) rfl aw_int (by decide) rfl (Nat.le_of_ble_eq_true rfl) hw ⟨⟨(show n + 1 < n + 11 by omega), ⟨(show n + 2 < n + 11 by omega), ⟨(show n + 3 < n + 11 by omega), ⟨(show n + 4 < n + 11 by omega), ⟨(show n + 5 < n + 11 by omega), ⟨(show n + 6 < n + 11 by omega), ⟨(show n + 7 < n + 11 by omega), ⟨(show n + 8 < n + 11 by omega), ⟨(show n + 9 < n + 11 by omega), ⟨(show n + 10 < n + 11 by omega), trivial⟩⟩⟩⟩⟩⟩⟩⟩⟩⟩, ⟨trivial, ⟨trivial, ⟨trivial, ⟨trivial, ⟨trivial, ⟨trivial, ⟨trivial, ⟨trivial, ⟨trivial, ⟨trivial, trivial⟩⟩⟩⟩⟩⟩⟩⟩⟩⟩⟩ ⟨(show n < n + 11 by omega), trivial⟩ ⟨(show n < n + 11 by omega), trivial⟩ rfl ((show zq _ _ from hz (n + 11) (by omega))) ⟨Nat.le_of_ble_eq_true rfl, Nat.le_of_ble_eq_true rfl⟩ rfl ?_
  refine c_putRF (l' := [(3 + 7, 0, [none, some (n + 1), some (n + 2), none, some (n + 3), some (n + 4), none, some (n + 5), some (n + 6), none, some (n + 7), some (n + 8), some (n + 9), none, some (n + 10), none, some (n + 11), none, none, none]), (1, 8, []), (0, 9, []), (0, 97, []), (0, 97, []), (0, 400, []), (0, 400, []), (0, 400, []), (1, 400, []), (0, 400, []), (0, 401, []), (0, 400, [])]) (i := 0) hn e_X3_init_126 fl_X3_62 rfl rfl rfl rfl (show 16 < 20 from Nat.le_of_ble_eq_true rfl) rfl ?_
  refine r_aload_n e_X3_init_129 rfl ?_
  refine r_sipush (v := (400 : Int32)) e_X3_init_130 (by decide) ?_
  refine c_newarr (q := n + 12) (l' := [(3 + 7, 0, [none, some (n + 1), some (n + 2), none, some (n + 3), some (n + 4), none, some (n + 5), some (n + 6), none, some (n + 7), some (n + 8), some (n + 9), none, some (n + 10), none, some (n + 11), none, none, none]), (1, 8, []), (0, 9, []), (0, 97, []), (0, 97, []), (0, 400, []), (0, 400, []), (0, 400, []), (1, 400, []), (0, 400, []), (0, 401, []), (0, 400, []), (0, 400, [])]) (t := 0) (N := 400) hn e_X3_init_133 (by decide) rfl aw_int (by decide) rfl (Nat.le_of_ble_eq_true rfl) hw ⟨⟨(show n + 1 < n + 12 by omega), ⟨(show n + 2 < n + 12 by omega), ⟨(show n + 3 < n + 12 by omega), ⟨(show n + 4 < n + 12 by omega), ⟨(show n + 5 < n + 12 by omega), ⟨(show n + 6 < n + 12 by omega), ⟨(show n + 7 < n + 12 by omega), ⟨(show n + 8 < n + 12 by omega), ⟨(show n + 9 < n + 12 by omega), ⟨(show n + 10 < n + 12 by omega), ⟨(show n + 11 < n + 12 by omega), trivial⟩⟩⟩⟩⟩⟩⟩⟩⟩⟩⟩, ⟨trivial, ⟨trivial, ⟨trivial, ⟨trivial, ⟨trivial, ⟨trivial, ⟨trivial, ⟨trivial, ⟨trivial, ⟨trivial, ⟨trivial, trivial⟩⟩⟩⟩⟩⟩⟩⟩⟩⟩⟩⟩ ⟨(show n < n + 12 by omega), trivial⟩ ⟨(show n < n + 12 by omega), trivial⟩ rfl ((show zq _ _ from hz (n + 12) (by omega))) ⟨Nat.le_of_ble_eq_true rfl, Nat.le_of_ble_eq_true rfl⟩ rfl ?_
  refine c_putRF (l' := [(3 + 7, 0, [none, some (n + 1), some (n + 2), none, some (n + 3), some (n + 4), none, some (n + 5), some (n + 6), none, some (n + 7), some (n + 8), some (n + 9), none, some (n + 10), none, some (n + 11), some (n + 12), none, none]), (1, 8, []), (0, 9, []), (0, 97, []), (0, 97, []), (0, 400, []), (0, 400, []), (0, 400, []), (1, 400, []), (0, 400, []), (0, 401, []), (0, 400, []), (0, 400, [])]) (i := 0) hn e_X3_init_135 fl_X3_65 rfl rfl rfl rfl (show 17 < 20 from Nat.le_of_ble_eq_true rfl) rfl ?_
  refine r_aload_n e_X3_init_138 rfl ?_
  refine r_sipush (v := (400 : Int32)) e_X3_init_139 (by decide) ?_
  refine c_newarr (q := n + 13) (l' := [(3 + 7, 0, [none, some (n + 1), some (n + 2), none, some (n + 3), some (n + 4), none, some (n + 5), some (n + 6), none, some (n + 7), some (n + 8), some (n + 9), none, some (n + 10), none, some (n + 11), some (n + 12), none, none]), (1, 8, []), (0, 9, []), (0, 97, []), (0, 97, []), (0, 400, []), (0, 400, []), (0, 400, []), (1, 400, []), (0, 400, []), (0, 401, []), (0, 400, []), (0, 400, []), (0, 400, [])]) (t := 0) (N := 400) hn e_X3_init_142 (by decide) rfl aw_int (by decide) rfl (Nat.le_of_ble_eq_true rfl) hw ⟨⟨(show n + 1 < n + 13 by omega), ⟨(show n + 2 < n + 13 by omega), ⟨(show n + 3 < n + 13 by omega), ⟨(show n + 4 < n + 13 by omega), ⟨(show n + 5 < n + 13 by omega), ⟨(show n + 6 < n + 13 by omega), ⟨(show n + 7 < n + 13 by omega), ⟨(show n + 8 < n + 13 by omega), ⟨(show n + 9 < n + 13 by omega), ⟨(show n + 10 < n + 13 by omega), ⟨(show n + 11 < n + 13 by omega), ⟨(show n + 12 < n + 13 by omega), trivial⟩⟩⟩⟩⟩⟩⟩⟩⟩⟩⟩⟩, ⟨trivial, ⟨trivial, ⟨trivial, ⟨trivial, ⟨trivial, ⟨trivial, ⟨trivial, ⟨trivial, ⟨trivial, ⟨trivial, ⟨trivial, ⟨trivial, trivial⟩⟩⟩⟩⟩⟩⟩⟩⟩⟩⟩⟩⟩ ⟨(show n < n + 13 by omega), trivial⟩ ⟨(show n < n + 13 by omega), trivial⟩ rfl ((show zq _ _ from hz (n + 13) (by omega))) ⟨Nat.le_of_ble_eq_true rfl, Nat.le_of_ble_eq_true rfl⟩ rfl ?_
  refine c_putRF (l' := [(3 + 7, 0, [none, some (n + 1), some (n + 2), none, some (n + 3), some (n + 4), none, some (n + 5), some (n + 6), none, some (n + 7), some (n + 8), some (n + 9), none, some (n + 10), none, some (n + 11), some (n + 12), some (n + 13), none]), (1, 8, []), (0, 9, []), (0, 97, []), (0, 97, []), (0, 400, []), (0, 400, []), (0, 400, []), (1, 400, []), (0, 400, []), (0, 401, []), (0, 400, []), (0, 400, []), (0, 400, [])]) (i := 0) hn e_X3_init_144 fl_X3_68 rfl rfl rfl rfl (show 18 < 20 from Nat.le_of_ble_eq_true rfl) rfl ?_
  refine r_aload_n e_X3_init_147 rfl ?_
  refine r_sipush (v := (400 : Int32)) e_X3_init_148 (by decide) ?_
  refine c_newarr (q := n + 14) (l' := [(3 + 7, 0, [none, some (n + 1), some (n + 2), none, some (n + 3), some (n + 4), none, some (n + 5), some (n + 6), none, some (n + 7), some (n + 8), some (n + 9), none, some (n + 10), none, some (n + 11), some (n + 12), some (n + 13), none]), (1, 8, []), (0, 9, []), (0, 97, []), (0, 97, []), (0, 400, []), (0, 400, []), (0, 400, []), (1, 400, []), (0, 400, []), (0, 401, []), (0, 400, []), (0, 400, []), (0, 400, []), (0, 400, [])]) (t := 0) (N := 400) hn e_X3_init_151 (by decide) rfl aw_int (by decide) rfl (Nat.le_of_ble_eq_true rfl) hw ⟨⟨(show n + 1 < n + 14 by omega), ⟨(show n + 2 < n + 14 by omega), ⟨(show n + 3 < n + 14 by omega), ⟨(show n + 4 < n + 14 by omega), ⟨(show n + 5 < n + 14 by omega), ⟨(show n + 6 < n + 14 by omega), ⟨(show n + 7 < n + 14 by omega), ⟨(show n + 8 < n + 14 by omega), ⟨(show n + 9 < n + 14 by omega), ⟨(show n + 10 < n + 14 by omega), ⟨(show n + 11 < n + 14 by omega), ⟨(show n + 12 < n + 14 by omega), ⟨(show n + 13 < n + 14 by omega), trivial⟩⟩⟩⟩⟩⟩⟩⟩⟩⟩⟩⟩⟩, ⟨trivial, ⟨trivial, ⟨trivial, ⟨trivial, ⟨trivial, ⟨trivial, ⟨trivial, ⟨trivial, ⟨trivial, ⟨trivial, ⟨trivial, ⟨trivial, ⟨trivial, trivial⟩⟩⟩⟩⟩⟩⟩⟩⟩⟩⟩⟩⟩⟩ ⟨(show n < n + 14 by omega), trivial⟩ ⟨(show n < n + 14 by omega), trivial⟩ rfl ((show zq _ _ from hz (n + 14) (by omega))) ⟨Nat.le_of_ble_eq_true rfl, Nat.le_of_ble_eq_true rfl⟩ rfl ?_
  refine c_putRF (l' := [(3 + 7, 0, [none, some (n + 1), some (n + 2), none, some (n + 3), some (n + 4), none, some (n + 5), some (n + 6), none, some (n + 7), some (n + 8), some (n + 9), none, some (n + 10), none, some (n + 11), some (n + 12), some (n + 13), some (n + 14)]), (1, 8, []), (0, 9, []), (0, 97, []), (0, 97, []), (0, 400, []), (0, 400, []), (0, 400, []), (1, 400, []), (0, 400, []), (0, 401, []), (0, 400, []), (0, 400, []), (0, 400, []), (0, 400, [])]) (i := 0) hn e_X3_init_153 fl_X3_71 rfl rfl rfl rfl (show 19 < 20 from Nat.le_of_ble_eq_true rfl) rfl ?_
  exact r_return e_X3_init_156 rfl ⟨rfl, rfl⟩ ⟨rfl, rfl, rfl⟩
def B_X5 (n : Nat) : List SC := [(5 + 7, 0, [none, none, none, none, none, none, none, none, none, some (n + 1), none, none, none, none, none, none, none, none]), (0, 4, [])]
def MB_X5 (n : Nat) (x1 : Int32) (x2 : Int32) (M : Mem) : Mem := setI (setI (setI (setI (setI (setI M n 2 (-1 : Int32)) n 3 (-1 : Int32)) n 6 (-1 : Int32)) n 7 (-1 : Int32)) n 0 x1) n 1 x2
theorem S_X5_init {sh0 : List SC} {n : Nat} {M : Mem} {x1 : Int32} {x2 : Int32} (hn : sh0.length = n) (hw : WfS sh0) (hz : Zm n M) (hb : x2 = 0 ∨ x2 = 1) : Sp m_X5_init [.ref n, .int x1, .int x2] (sh0 ++ [(5 + 7, 0, List.replicate 18 none)]) M (fun r sh' M' => r = none ∧ sh' = sh0 ++ B_X5 n ∧ M' = MB_X5 n x1 x2 M) := by
  refine Sp.of (ls := [some (.ref n), some (.int x1), some (.int x2)]) (by decide +kernel) (Nat.le_of_ble_eq_true rfl) rfl ?_
  refine r_aload_n e_X5_init_0 rfl ?_
  refine r_objInit e_X5_init_1 ob_X5 ⟨Nat.le_of_ble_eq_true rfl, Nat.le_of_ble_eq_true rfl⟩ ?_
  refine r_aload_n e_X5_init_4 rfl ?_
  refine r_iconst e_X5_init_5 ic_m1 ?_
  refine r_putI e_X5_init_6 fl_X5_11 (kd_app (i := 0) hn rfl rfl) ?_
  refine r_aload_n e_X5_init_9 rfl ?_
  refine r_iconst e_X5_init_10 ic_m1 ?_
  refine r_putI e_X5_init_11 fl_X5_15 (kd_app (i := 0) hn rfl rfl) ?_
  refine r_aload_n e_X5_init_14 rfl ?_
  refine r_iconst e_X5_init_15 ic_0 ?_
  refine c_put0 (i := 0) hn e_X5_init_16 fl_X5_18 rfl rfl ((by rw [gI (Or.inr (by decide)), gI (Or.inr (by decide))]; exact (hz n (by omega) 4).1)) ?_
  refine r_aload_n e_X5_init_19 rfl ?_
  refine r_iconst e_X5_init_20 ic_0 ?_
  refine c_put0 (i := 0) hn e_X5_init_21 fl_X5_21 rfl rfl ((by rw [gI (Or.inr (by decide)), gI (Or.inr (by decide))]; exact (hz n (by omega) 5).1)) ?_
  refine r_aload_n e_X5_init_24 rfl ?_
  refine r_iconst e_X5_init_25 ic_m1 ?_
  refine r_putI e_X5_init_26 fl_X5_24 (kd_app (i := 0) hn rfl rfl) ?_
  refine r_aload_n e_X5_init_29 rfl ?_
  refine r_iconst e_X5_init_30 ic_m1 ?_
  refine r_putI e_X5_init_31 fl_X5_27 (kd_app (i := 0) hn rfl rfl) ?_
  refine r_aload_n e_X5_init_34 rfl ?_
  refine r_iconst e_X5_init_35 ic_0 ?_
  refine c_putZ0 (i := 0) hn e_X5_init_36 fl_X5_30 rfl rfl ((by rw [gI (Or.inr (by decide)), gI (Or.inr (by decide)), gI (Or.inr (by decide)), gI (Or.inr (by decide))]; exact (hz n (by omega) 8).1)) ?_
  refine r_aload_n e_X5_init_39 rfl ?_
  refine r_iconst e_X5_init_40 ic_4 ?_
  refine c_newarr (q := n + 1) (l' := [(5 + 7, 0, [none, none, none, none, none, none, none, none, none, none, none, none, none, none, none, none, none, none]), (0, 4, [])]) (t := 0) (N := 4) hn e_X5_init_41 (by decide) rfl aw_int (by decide) rfl (Nat.le_of_ble_eq_true rfl) hw ⟨trivial, trivial⟩ ⟨(show n < n + 1 by omega), ⟨trivial, ⟨trivial, trivial⟩⟩⟩ ⟨(show n < n + 1 by omega), trivial⟩ rfl ((show zq _ _ from (show zq _ _ from (show zq _ _ from (show zq _ _ from (show zq _ _ from hz (n + 1) (by omega)).setI (by omega)).setI (by omega)).setI (by omega)).setI (by omega))) ⟨Nat.le_of_ble_eq_true rfl, Nat.le_of_ble_eq_true rfl⟩ rfl ?_
  refine c_putRF (l' := [(5 + 7, 0, [none, none, none, none, none, none, none, none, none, some (n + 1), none, none, none, none, none, none, none, none]), (0, 4, [])]) (i := 0) hn e_X5_init_43 fl_X5_34 rfl rfl rfl rfl (show 9 < 18 from Nat.le_of_ble_eq_true rfl) rfl ?_
  refine r_aload_n e_X5_init_46 rfl ?_
  refine r_iconst e_X5_init_47 ic_0 ?_
  refine c_put0 (i := 0) hn e_X5_init_48 fl_X5_38 rfl rfl ((by rw [gI (Or.inr (by decide)), gI (Or.inr (by decide)), gI (Or.inr (by decide)), gI (Or.inr (by decide))]; exact (hz n (by omega) 10).1)) ?_
  refine r_aload_n e_X5_init_51 rfl ?_
  refine r_iconst e_X5_init_52 ic_0 ?_
  refine c_put0 (i := 0) hn e_X5_init_53 fl_X5_41 rfl rfl ((by rw [gI (Or.inr (by decide)), gI (Or.inr (by decide)), gI (Or.inr (by decide)), gI (Or.inr (by decide))]; exact (hz n (by omega) 11).1)) ?_
  refine r_aload_n e_X5_init_56 rfl ?_
  refine r_iconst e_X5_init_57 ic_0 ?_
  refine c_put0 (i := 0) hn e_X5_init_58 fl_X5_44 rfl rfl ((by rw [gI (Or.inr (by decide)), gI (Or.inr (by decide)), gI (Or.inr (by decide)), gI (Or.inr (by decide))]; exact (hz n (by omega) 12).1)) ?_
  refine r_aload_n e_X5_init_61 rfl ?_
  refine r_iconst e_X5_init_62 ic_0 ?_
  refine c_put0 (i := 0) hn e_X5_init_63 fl_X5_47 rfl rfl ((by rw [gI (Or.inr (by decide)), gI (Or.inr (by decide)), gI (Or.inr (by decide)), gI (Or.inr (by decide))]; exact (hz n (by omega) 13).1)) ?_
  refine r_aload_n e_X5_init_66 rfl ?_
  refine r_iconst e_X5_init_67 ic_0 ?_
  refine c_put0 (i := 0) hn e_X5_init_68 fl_X5_50 rfl rfl ((by rw [gI (Or.inr (by decide)), gI (Or.inr (by decide)), gI (Or.inr (by decide)), gI (Or.inr (by decide))]; exact (hz n (by omega) 14).1)) ?_
  refine r_aload_n e_X5_init_71 rfl ?_
  refine r_iconst e_X5_init_72 ic_0 ?_
  refine c_put0 (i := 0) hn e_X5_init_73 fl_X5_53 rfl rfl ((by rw [gI (Or.inr (by decide)), gI (Or.inr (by decide)), gI (Or.inr (by decide)), gI (Or.inr (by decide))]; exact (hz n (by omega) 15).1)) ?_
  refine r_aload_n e_X5_init_76 rfl ?_
  refine r_iconst e_X5_init_77 ic_0 ?_
  refine c_put0 (i := 0) hn e_X5_init_78 fl_X5_56 rfl rfl ((by rw [gI (Or.inr (by decide)), gI (Or.inr (by decide)), gI (Or.inr (by decide)), gI (Or.inr (by decide))]; exact (hz n (by omega) 16).1)) ?_
  refine r_aload_n e_X5_init_81 rfl ?_
  refine r_iconst e_X5_init_82 ic_0 ?_
  refine c_put0 (i := 0) hn e_X5_init_83 fl_X5_59 rfl rfl ((by rw [gI (Or.inr (by decide)), gI (Or.inr (by decide)), gI (Or.inr (by decide)), gI (Or.inr (by decide))]; exact (hz n (by omega) 17).1)) ?_
  refine r_aload_n e_X5_init_86 rfl ?_
  refine r_iload_n e_X5_init_87 rfl ?_
  refine r_putIF0 e_X5_init_88 fl_X5_62 rfl rfl (by decide) (fun ty h => by cases h; exact ⟨rfl, rfl⟩) (kd_app (i := 0) hn rfl rfl) ?_
  refine r_aload_n e_X5_init_91 rfl ?_
  refine r_iload_n e_X5_init_92 rfl ?_
  refine r_putIF0 e_X5_init_93 fl_X5_65 rfl rfl (by decide) (fun ty h => by cases h; exact zb hb) (kd_app (i := 0) hn rfl rfl) ?_
  exact r_return e_X5_init_96 rfl ⟨rfl, rfl⟩ ⟨rfl, rfl, rfl⟩
