/-! ===== the library's texts ===== -/
section STX
def m_coder : MT := (yJ0_coder_7d493, cJ0_coder_7d493, 1, some .byte, 0, 0, 0, 0)
def m_isLat : MT := (yJ0_isLatin1_aae02, cJ0_isLatin1_aae02, 1, some .boolean, 0, 0, 0, 0)
def m_slen : MT := (yJ0_length_8abf5, cJ0_length_8abf5, 1, some .int, 1, 20, 0, 0)
def m_pchk : MT := (yJ3_checkIndex_8e157, cJ3_checkIndex_8e157, 3, some .int, 0, 0, 0, 0)
def m_schk : MT := (yJ0_checkIndex_df160, cJ0_checkIndex_df160, 2, none, 1, 22, 0, 0)
def m_lchar : MT := (yJ1_charAt_3b067, cJ1_charAt_3b067, 2, some .char, 2, 43, 0, 0)
def m_schar : MT := (yJ0_charAt_5068e, cJ0_charAt_5068e, 2, some .char, 3, 64, 0, 0)
def m_canE : MT := (yJ1_canEncode_9a6ad, cJ1_canEncode_9a6ad, 1, some .boolean, 0, 0, 0, 0)
def m_lixc : MT := (yJ1_indexOfChar_4cfef, cJ1_indexOfChar_4cfef, 6, some .int, 0, 0, 0, 0)
def m_lix : MT := (yJ1_indexOf_4cfef, cJ1_indexOf_4cfef, 4, some .int, 1, 25, 0, 0)
def m_six2 : MT := (yJ0_indexOf_7cf53, cJ0_indexOf_7cf53, 3, some .int, 2, 48, 0, 0)
def m_six : MT := (yJ0_indexOf_0f7a4, cJ0_indexOf_0f7a4, 2, some .int, 3, 70, 0, 0)
theorem ck_coder : CLk m_coder 0 := ⟨good_mem (tb_1 (List.mem_of_getElem? (i := 46) (rfl : tables_1_1[46]? = some (Cond.code m_coder.1 m_coder.2.1 m_coder.2.2.1 m_coder.2.2.2.1)))) (by decide +kernel), good_mem (tb_1 (List.mem_of_getElem? (i := 3) (rfl : tables_1_1[3]? = some (Cond.initialized m_coder.1.cls)))) (by decide +kernel), by decide +kernel⟩
theorem ck_isLat : CLk m_isLat 0 := ⟨good_mem (tb_1 (List.mem_of_getElem? (i := 56) (rfl : tables_1_1[56]? = some (Cond.code m_isLat.1 m_isLat.2.1 m_isLat.2.2.1 m_isLat.2.2.2.1)))) (by decide +kernel), good_mem (tb_1 (List.mem_of_getElem? (i := 3) (rfl : tables_1_1[3]? = some (Cond.initialized m_isLat.1.cls)))) (by decide +kernel), by decide +kernel⟩
theorem ck_slen : CLk m_slen 0 := ⟨good_mem (tb_1 (List.mem_of_getElem? (i := 42) (rfl : tables_1_1[42]? = some (Cond.code m_slen.1 m_slen.2.1 m_slen.2.2.1 m_slen.2.2.2.1)))) (by decide +kernel), good_mem (tb_1 (List.mem_of_getElem? (i := 3) (rfl : tables_1_1[3]? = some (Cond.initialized m_slen.1.cls)))) (by decide +kernel), by decide +kernel⟩
theorem ck_pchk : CLk m_pchk 3 := ⟨good_mem (tb_1 (List.mem_of_getElem? (i := 67) (rfl : tables_1_1[67]? = some (Cond.code m_pchk.1 m_pchk.2.1 m_pchk.2.2.1 m_pchk.2.2.2.1)))) (by decide +kernel), good_mem (tb_1 (List.mem_of_getElem? (i := 5) (rfl : tables_1_1[5]? = some (Cond.initialized m_pchk.1.cls)))) (by decide +kernel), by decide +kernel⟩
theorem ck_schk : CLk m_schk 2 := ⟨good_mem (tb_1 (List.mem_of_getElem? (i := 62) (rfl : tables_1_1[62]? = some (Cond.code m_schk.1 m_schk.2.1 m_schk.2.2.1 m_schk.2.2.2.1)))) (by decide +kernel), good_mem (tb_1 (List.mem_of_getElem? (i := 3) (rfl : tables_1_1[3]? = some (Cond.initialized m_schk.1.cls)))) (by decide +kernel), by decide +kernel⟩
theorem ck_lchar : CLk m_lchar 2 := ⟨good_mem (tb_1 (List.mem_of_getElem? (i := 59) (rfl : tables_1_1[59]? = some (Cond.code m_lchar.1 m_lchar.2.1 m_lchar.2.2.1 m_lchar.2.2.2.1)))) (by decide +kernel), good_mem (tb_1 (List.mem_of_getElem? (i := 4) (rfl : tables_1_1[4]? = some (Cond.initialized m_lchar.1.cls)))) (by decide +kernel), by decide +kernel⟩
theorem ck_schar : CLk m_schar 1 := ⟨good_mem (tb_1 (List.mem_of_getElem? (i := 52) (rfl : tables_1_1[52]? = some (Cond.code m_schar.1 m_schar.2.1 m_schar.2.2.1 m_schar.2.2.2.1)))) (by decide +kernel), good_mem (tb_1 (List.mem_of_getElem? (i := 3) (rfl : tables_1_1[3]? = some (Cond.initialized m_schar.1.cls)))) (by decide +kernel), by decide +kernel⟩
theorem ck_canE : CLk m_canE 1 := ⟨good_mem (tb_3 (List.mem_of_getElem? (i := 130) (rfl : tables_1_3[130]? = some (Cond.code m_canE.1 m_canE.2.1 m_canE.2.2.1 m_canE.2.2.2.1)))) (by decide +kernel), good_mem (tb_1 (List.mem_of_getElem? (i := 4) (rfl : tables_1_1[4]? = some (Cond.initialized m_canE.1.cls)))) (by decide +kernel), by decide +kernel⟩
theorem ck_lixc : CLk m_lixc 4 := ⟨good_mem (tb_3 (List.mem_of_getElem? (i := 135) (rfl : tables_1_3[135]? = some (Cond.code m_lixc.1 m_lixc.2.1 m_lixc.2.2.1 m_lixc.2.2.2.1)))) (by decide +kernel), good_mem (tb_1 (List.mem_of_getElem? (i := 4) (rfl : tables_1_1[4]? = some (Cond.initialized m_lixc.1.cls)))) (by decide +kernel), by decide +kernel⟩
theorem ck_lix : CLk m_lix 4 := ⟨good_mem (tb_3 (List.mem_of_getElem? (i := 127) (rfl : tables_1_3[127]? = some (Cond.code m_lix.1 m_lix.2.1 m_lix.2.2.1 m_lix.2.2.2.1)))) (by decide +kernel), good_mem (tb_1 (List.mem_of_getElem? (i := 4) (rfl : tables_1_1[4]? = some (Cond.initialized m_lix.1.cls)))) (by decide +kernel), by decide +kernel⟩
theorem ck_six2 : CLk m_six2 2 := ⟨good_mem (tb_3 (List.mem_of_getElem? (i := 123) (rfl : tables_1_3[123]? = some (Cond.code m_six2.1 m_six2.2.1 m_six2.2.2.1 m_six2.2.2.2.1)))) (by decide +kernel), good_mem (tb_1 (List.mem_of_getElem? (i := 3) (rfl : tables_1_1[3]? = some (Cond.initialized m_six2.1.cls)))) (by decide +kernel), by decide +kernel⟩
theorem ck_six : CLk m_six 1 := ⟨good_mem (tb_3 (List.mem_of_getElem? (i := 119) (rfl : tables_1_3[119]? = some (Cond.code m_six.1 m_six.2.1 m_six.2.2.1 m_six.2.2.2.1)))) (by decide +kernel), good_mem (tb_1 (List.mem_of_getElem? (i := 3) (rfl : tables_1_1[3]? = some (Cond.initialized m_six.1.cls)))) (by decide +kernel), by decide +kernel⟩
/-- a call of a text's own method -/
def CVX (own : String) (idx : Nat) (k' : MT) (n : Nat) : Prop := CLk k' n ∧ Cond.methodLink own idx k'.1 ∈ lw_good ∧ Cond.instanceMethod k'.1 ∈ lw_good ∧ Cond.selects k'.1.cls k'.1 k'.1 ∈ lw_good ∧ k'.1.cls = "java/lang/String"
theorem jl_s_335 : CVX m_slen.1.cls 335 m_coder 0 := ⟨ck_coder, good_mem (tb_1 (List.mem_of_getElem? (i := 43) (rfl : tables_1_1[43]? = some (Cond.methodLink m_slen.1.cls 335 m_coder.1)))) (by decide +kernel), good_mem (tb_1 (List.mem_of_getElem? (i := 44) (rfl : tables_1_1[44]? = some (Cond.instanceMethod m_coder.1)))) (by decide +kernel), good_mem (tb_1 (List.mem_of_getElem? (i := 45) (rfl : tables_1_1[45]? = some (Cond.selects m_coder.1.cls m_coder.1 m_coder.1)))) (by decide +kernel), rfl⟩
theorem jl_s_492 : CVX m_slen.1.cls 492 m_isLat 0 := ⟨ck_isLat, good_mem (tb_1 (List.mem_of_getElem? (i := 53) (rfl : tables_1_1[53]? = some (Cond.methodLink m_slen.1.cls 492 m_isLat.1)))) (by decide +kernel), good_mem (tb_1 (List.mem_of_getElem? (i := 54) (rfl : tables_1_1[54]? = some (Cond.instanceMethod m_isLat.1)))) (by decide +kernel), good_mem (tb_1 (List.mem_of_getElem? (i := 55) (rfl : tables_1_1[55]? = some (Cond.selects m_isLat.1.cls m_isLat.1 m_isLat.1)))) (by decide +kernel), rfl⟩
theorem jl_s_505 : CVX m_slen.1.cls 505 m_slen 0 := ⟨ck_slen, good_mem (tb_3 (List.mem_of_getElem? (i := 124) (rfl : tables_1_3[124]? = some (Cond.methodLink m_slen.1.cls 505 m_slen.1)))) (by decide +kernel), good_mem (tb_1 (List.mem_of_getElem? (i := 40) (rfl : tables_1_1[40]? = some (Cond.instanceMethod m_slen.1)))) (by decide +kernel), good_mem (tb_1 (List.mem_of_getElem? (i := 41) (rfl : tables_1_1[41]? = some (Cond.selects m_slen.1.cls m_slen.1 m_slen.1)))) (by decide +kernel), rfl⟩
theorem jl_s_1059 : CS m_slen.1.cls 1059 m_pchk 3 := ⟨ck_pchk, good_mem (tb_1 (List.mem_of_getElem? (i := 65) (rfl : tables_1_1[65]? = some (Cond.methodLink m_slen.1.cls 1059 m_pchk.1)))) (by decide +kernel), good_mem (tb_1 (List.mem_of_getElem? (i := 66) (rfl : tables_1_1[66]? = some (Cond.static m_pchk.1)))) (by decide +kernel)⟩
theorem jl_l_9 : CS m_lchar.1.cls 9 m_schk 2 := ⟨ck_schk, good_mem (tb_1 (List.mem_of_getElem? (i := 60) (rfl : tables_1_1[60]? = some (Cond.methodLink m_lchar.1.cls 9 m_schk.1)))) (by decide +kernel), good_mem (tb_1 (List.mem_of_getElem? (i := 61) (rfl : tables_1_1[61]? = some (Cond.static m_schk.1)))) (by decide +kernel)⟩
theorem jl_s_495 : CS m_slen.1.cls 495 m_lchar 2 := ⟨ck_lchar, good_mem (tb_1 (List.mem_of_getElem? (i := 57) (rfl : tables_1_1[57]? = some (Cond.methodLink m_slen.1.cls 495 m_lchar.1)))) (by decide +kernel), good_mem (tb_1 (List.mem_of_getElem? (i := 58) (rfl : tables_1_1[58]? = some (Cond.static m_lchar.1)))) (by decide +kernel)⟩
theorem jl_l_88 : CS m_lchar.1.cls 88 m_canE 1 := ⟨ck_canE, good_mem (tb_3 (List.mem_of_getElem? (i := 128) (rfl : tables_1_3[128]? = some (Cond.methodLink m_lchar.1.cls 88 m_canE.1)))) (by decide +kernel), good_mem (tb_3 (List.mem_of_getElem? (i := 129) (rfl : tables_1_3[129]? = some (Cond.static m_canE.1)))) (by decide +kernel)⟩
theorem jl_l_95 : CS m_lchar.1.cls 95 m_lixc 4 := ⟨ck_lixc, good_mem (tb_3 (List.mem_of_getElem? (i := 133) (rfl : tables_1_3[133]? = some (Cond.methodLink m_lchar.1.cls 95 m_lixc.1)))) (by decide +kernel), good_mem (tb_3 (List.mem_of_getElem? (i := 134) (rfl : tables_1_3[134]? = some (Cond.static m_lixc.1)))) (by decide +kernel)⟩
theorem jl_s_637 : CS m_slen.1.cls 637 m_lix 4 := ⟨ck_lix, good_mem (tb_3 (List.mem_of_getElem? (i := 125) (rfl : tables_1_3[125]? = some (Cond.methodLink m_slen.1.cls 637 m_lix.1)))) (by decide +kernel), good_mem (tb_3 (List.mem_of_getElem? (i := 126) (rfl : tables_1_3[126]? = some (Cond.static m_lix.1)))) (by decide +kernel)⟩
theorem jl_s_633 : CVX m_slen.1.cls 633 m_six2 2 := ⟨ck_six2, good_mem (tb_3 (List.mem_of_getElem? (i := 120) (rfl : tables_1_3[120]? = some (Cond.methodLink m_slen.1.cls 633 m_six2.1)))) (by decide +kernel), good_mem (tb_3 (List.mem_of_getElem? (i := 121) (rfl : tables_1_3[121]? = some (Cond.instanceMethod m_six2.1)))) (by decide +kernel), good_mem (tb_3 (List.mem_of_getElem? (i := 122) (rfl : tables_1_3[122]? = some (Cond.selects m_six2.1.cls m_six2.1 m_six2.1)))) (by decide +kernel), rfl⟩
theorem jl_X4_55 : CVX RX4 55 m_slen 0 := ⟨ck_slen, good_mem (tb_1 (List.mem_of_getElem? (i := 39) (rfl : tables_1_1[39]? = some (Cond.methodLink RX4 55 m_slen.1)))) (by decide +kernel), good_mem (tb_1 (List.mem_of_getElem? (i := 40) (rfl : tables_1_1[40]? = some (Cond.instanceMethod m_slen.1)))) (by decide +kernel), good_mem (tb_1 (List.mem_of_getElem? (i := 41) (rfl : tables_1_1[41]? = some (Cond.selects m_slen.1.cls m_slen.1 m_slen.1)))) (by decide +kernel), rfl⟩
theorem jl_X4_61 : CVX RX4 61 m_schar 1 := ⟨ck_schar, good_mem (tb_1 (List.mem_of_getElem? (i := 49) (rfl : tables_1_1[49]? = some (Cond.methodLink RX4 61 m_schar.1)))) (by decide +kernel), good_mem (tb_1 (List.mem_of_getElem? (i := 50) (rfl : tables_1_1[50]? = some (Cond.instanceMethod m_schar.1)))) (by decide +kernel), good_mem (tb_1 (List.mem_of_getElem? (i := 51) (rfl : tables_1_1[51]? = some (Cond.selects m_schar.1.cls m_schar.1 m_schar.1)))) (by decide +kernel), rfl⟩
theorem jl_X4_149 : CVX RX4 149 m_six 1 := ⟨ck_six, good_mem (tb_3 (List.mem_of_getElem? (i := 116) (rfl : tables_1_3[116]? = some (Cond.methodLink RX4 149 m_six.1)))) (by decide +kernel), good_mem (tb_3 (List.mem_of_getElem? (i := 117) (rfl : tables_1_3[117]? = some (Cond.instanceMethod m_six.1)))) (by decide +kernel), good_mem (tb_3 (List.mem_of_getElem? (i := 118) (rfl : tables_1_3[118]? = some (Cond.selects m_six.1.cls m_six.1 m_six.1)))) (by decide +kernel), rfl⟩
theorem jl_l_92 : mathOk m_lchar.1.cls 92 Lib.Math.max.name Lib.Math.max.code 2 := ⟨good_mem (tb_3 (List.mem_of_getElem? (i := 131) (rfl : tables_1_3[131]? = some (Cond.methodLink m_lchar.1.cls 92 Lib.Math.max.name)))) (by decide +kernel), good_mem (tb_3 (List.mem_of_getElem? (i := 96) (rfl : tables_1_3[96]? = some (Cond.static Lib.Math.max.name)))) (by decide +kernel), good_mem (tb_1 (List.mem_of_getElem? (i := 16) (rfl : tables_1_1[16]? = some (Cond.initialized "java/lang/Math")))) (by decide +kernel), good_mem (tb_3 (List.mem_of_getElem? (i := 97) (rfl : tables_1_3[97]? = some (Cond.code Lib.Math.max.name Lib.Math.max.code 2 (some .int))))) (by decide +kernel)⟩
theorem jl_l_38 : mathOk m_lchar.1.cls 38 Lib.Math.min.name Lib.Math.min.code 2 := ⟨good_mem (tb_3 (List.mem_of_getElem? (i := 132) (rfl : tables_1_3[132]? = some (Cond.methodLink m_lchar.1.cls 38 Lib.Math.min.name)))) (by decide +kernel), good_mem (tb_3 (List.mem_of_getElem? (i := 106) (rfl : tables_1_3[106]? = some (Cond.static Lib.Math.min.name)))) (by decide +kernel), good_mem (tb_1 (List.mem_of_getElem? (i := 16) (rfl : tables_1_1[16]? = some (Cond.initialized "java/lang/Math")))) (by decide +kernel), good_mem (tb_3 (List.mem_of_getElem? (i := 107) (rfl : tables_1_3[107]? = some (Cond.code Lib.Math.min.name Lib.Math.min.code 2 (some .int))))) (by decide +kernel)⟩
theorem jf_38 : Cond.fieldLink m_slen.1.cls 38 "java/lang/String" "COMPACT_STRINGS" "Z" ∈ lw_good := good_mem (tb_1 (List.mem_of_getElem? (i := 47) (rfl : tables_1_1[47]? = some (Cond.fieldLink m_slen.1.cls 38 "java/lang/String" "COMPACT_STRINGS" "Z")))) (by decide +kernel)
theorem jf_1053 : Cond.fieldLink m_slen.1.cls 1053 "jdk/internal/util/Preconditions" "SIOOBE_FORMATTER" "Ljava/util/function/BiFunction;" ∈ lw_good := good_mem (tb_1 (List.mem_of_getElem? (i := 63) (rfl : tables_1_1[63]? = some (Cond.fieldLink m_slen.1.cls 1053 "jdk/internal/util/Preconditions" "SIOOBE_FORMATTER" "Ljava/util/function/BiFunction;")))) (by decide +kernel)
theorem jf_9 : Cond.fieldLink m_slen.1.cls 9 "java/lang/String" "value" "[B" ∈ lw_good := good_mem (tb_7 (List.mem_of_getElem? (i := 176) (rfl : tables_1_7[176]? = some (Cond.fieldLink m_slen.1.cls 9 "java/lang/String" "value" "[B")))) (by decide +kernel)
theorem jf_15 : Cond.fieldLink m_slen.1.cls 15 "java/lang/String" "coder" "B" ∈ lw_good := good_mem (tb_7 (List.mem_of_getElem? (i := 177) (rfl : tables_1_7[177]? = some (Cond.fieldLink m_slen.1.cls 15 "java/lang/String" "coder" "B")))) (by decide +kernel)
theorem e_coder_0 : Inx m_coder 0 (.getstatic 38) 3 3 := ⟨by decide +kernel, rfl⟩
theorem e_coder_3 : BrZ m_coder 3 .eq 13 6 := ⟨10, by decide +kernel, rfl, by decide⟩
theorem e_coder_6 : Inx m_coder 6 (.aload_n 0) 1 7 := ⟨by decide +kernel, rfl⟩
theorem e_coder_7 : Inx m_coder 7 (.getfield 15) 3 10 := ⟨by decide +kernel, rfl⟩
theorem e_coder_10 : Gto m_coder 10 14 := ⟨4, by decide +kernel, by decide⟩
theorem e_coder_13 : Inx m_coder 13 (.iconst 1) 1 14 := ⟨by decide +kernel, rfl⟩
theorem e_coder_14 : Inx m_coder 14 (.ireturn) 1 15 := ⟨by decide +kernel, rfl⟩
theorem e_isLat_0 : Inx m_isLat 0 (.getstatic 38) 3 3 := ⟨by decide +kernel, rfl⟩
theorem e_isLat_3 : BrZ m_isLat 3 .eq 17 6 := ⟨14, by decide +kernel, rfl, by decide⟩
theorem e_isLat_6 : Inx m_isLat 6 (.aload_n 0) 1 7 := ⟨by decide +kernel, rfl⟩
theorem e_isLat_7 : Inx m_isLat 7 (.getfield 15) 3 10 := ⟨by decide +kernel, rfl⟩
theorem e_isLat_10 : BrZ m_isLat 10 .ne 17 13 := ⟨7, by decide +kernel, rfl, by decide⟩
theorem e_isLat_13 : Inx m_isLat 13 (.iconst 1) 1 14 := ⟨by decide +kernel, rfl⟩
theorem e_isLat_14 : Gto m_isLat 14 18 := ⟨4, by decide +kernel, by decide⟩
theorem e_isLat_17 : Inx m_isLat 17 (.iconst 0) 1 18 := ⟨by decide +kernel, rfl⟩
theorem e_isLat_18 : Inx m_isLat 18 (.ireturn) 1 19 := ⟨by decide +kernel, rfl⟩
theorem e_slen_0 : Inx m_slen 0 (.aload_n 0) 1 1 := ⟨by decide +kernel, rfl⟩
theorem e_slen_1 : Inx m_slen 1 (.getfield 9) 3 4 := ⟨by decide +kernel, rfl⟩
theorem e_slen_4 : Inx m_slen 4 (.arraylength) 1 5 := ⟨by decide +kernel, rfl⟩
theorem e_slen_5 : Inx m_slen 5 (.aload_n 0) 1 6 := ⟨by decide +kernel, rfl⟩
theorem e_slen_6 : Inx m_slen 6 (.invokevirtual 335) 3 9 := ⟨by decide +kernel, rfl⟩
theorem e_slen_9 : Inx m_slen 9 (.ishr) 1 10 := ⟨by decide +kernel, rfl⟩
theorem e_slen_10 : Inx m_slen 10 (.ireturn) 1 11 := ⟨by decide +kernel, rfl⟩
theorem e_pchk_0 : Inx m_pchk 0 (.iload_n 0) 1 1 := ⟨by decide +kernel, rfl⟩
theorem e_pchk_1 : BrZ m_pchk 1 .lt 9 4 := ⟨8, by decide +kernel, rfl, by decide⟩
theorem e_pchk_4 : Inx m_pchk 4 (.iload_n 0) 1 5 := ⟨by decide +kernel, rfl⟩
theorem e_pchk_5 : Inx m_pchk 5 (.iload_n 1) 1 6 := ⟨by decide +kernel, rfl⟩
theorem e_pchk_6 : BrI m_pchk 6 .lt 16 9 := ⟨10, by decide +kernel, rfl, by decide⟩
theorem e_pchk_10 : Inx m_pchk 10 (.iload_n 0) 1 11 := ⟨by decide +kernel, rfl⟩
theorem e_pchk_11 : Inx m_pchk 11 (.iload_n 1) 1 12 := ⟨by decide +kernel, rfl⟩
theorem e_pchk_12 : Inx m_pchk 12 (.invokestatic 95) 3 15 := ⟨by decide +kernel, rfl⟩
theorem e_pchk_16 : Inx m_pchk 16 (.iload_n 0) 1 17 := ⟨by decide +kernel, rfl⟩
theorem e_pchk_17 : Inx m_pchk 17 (.ireturn) 1 18 := ⟨by decide +kernel, rfl⟩
theorem e_schk_0 : Inx m_schk 0 (.iload_n 0) 1 1 := ⟨by decide +kernel, rfl⟩
theorem e_schk_1 : Inx m_schk 1 (.iload_n 1) 1 2 := ⟨by decide +kernel, rfl⟩
theorem e_schk_2 : Inx m_schk 2 (.getstatic 1053) 3 5 := ⟨by decide +kernel, rfl⟩
theorem e_schk_5 : Inx m_schk 5 (.invokestatic 1059) 3 8 := ⟨by decide +kernel, rfl⟩
theorem e_schk_8 : Inx m_schk 8 (.pop) 1 9 := ⟨by decide +kernel, rfl⟩
theorem e_schk_9 : Inx m_schk 9 (.return_) 1 10 := ⟨by decide +kernel, rfl⟩
theorem e_lchar_0 : Inx m_lchar 0 (.iload_n 1) 1 1 := ⟨by decide +kernel, rfl⟩
theorem e_lchar_1 : Inx m_lchar 1 (.aload_n 0) 1 2 := ⟨by decide +kernel, rfl⟩
theorem e_lchar_2 : Inx m_lchar 2 (.arraylength) 1 3 := ⟨by decide +kernel, rfl⟩
theorem e_lchar_3 : Inx m_lchar 3 (.invokestatic 9) 3 6 := ⟨by decide +kernel, rfl⟩
theorem e_lchar_6 : Inx m_lchar 6 (.aload_n 0) 1 7 := ⟨by decide +kernel, rfl⟩
theorem e_lchar_7 : Inx m_lchar 7 (.iload_n 1) 1 8 := ⟨by decide +kernel, rfl⟩
theorem e_lchar_8 : Inx m_lchar 8 (.baload) 1 9 := ⟨by decide +kernel, rfl⟩
theorem e_lchar_9 : Inx m_lchar 9 (.sipush 255) 3 12 := ⟨by decide +kernel, rfl⟩
theorem e_lchar_12 : Inx m_lchar 12 (.iand) 1 13 := ⟨by decide +kernel, rfl⟩
theorem e_lchar_13 : Inx m_lchar 13 (.i2c) 1 14 := ⟨by decide +kernel, rfl⟩
theorem e_lchar_14 : Inx m_lchar 14 (.ireturn) 1 15 := ⟨by decide +kernel, rfl⟩
theorem e_schar_0 : Inx m_schar 0 (.aload_n 0) 1 1 := ⟨by decide +kernel, rfl⟩
theorem e_schar_1 : Inx m_schar 1 (.invokevirtual 492) 3 4 := ⟨by decide +kernel, rfl⟩
theorem e_schar_4 : BrZ m_schar 4 .eq 16 7 := ⟨12, by decide +kernel, rfl, by decide⟩
theorem e_schar_7 : Inx m_schar 7 (.aload_n 0) 1 8 := ⟨by decide +kernel, rfl⟩
theorem e_schar_8 : Inx m_schar 8 (.getfield 9) 3 11 := ⟨by decide +kernel, rfl⟩
theorem e_schar_11 : Inx m_schar 11 (.iload_n 1) 1 12 := ⟨by decide +kernel, rfl⟩
theorem e_schar_12 : Inx m_schar 12 (.invokestatic 495) 3 15 := ⟨by decide +kernel, rfl⟩
theorem e_schar_15 : Inx m_schar 15 (.ireturn) 1 16 := ⟨by decide +kernel, rfl⟩
theorem e_schar_16 : Inx m_schar 16 (.aload_n 0) 1 17 := ⟨by decide +kernel, rfl⟩
theorem e_schar_17 : Inx m_schar 17 (.getfield 9) 3 20 := ⟨by decide +kernel, rfl⟩
theorem e_schar_20 : Inx m_schar 20 (.iload_n 1) 1 21 := ⟨by decide +kernel, rfl⟩
theorem e_schar_21 : Inx m_schar 21 (.invokestatic 498) 3 24 := ⟨by decide +kernel, rfl⟩
theorem e_schar_24 : Inx m_schar 24 (.ireturn) 1 25 := ⟨by decide +kernel, rfl⟩
theorem e_canE_0 : Inx m_canE 0 (.iload_n 0) 1 1 := ⟨by decide +kernel, rfl⟩
theorem e_canE_1 : BrZ m_canE 1 .lt 15 4 := ⟨14, by decide +kernel, rfl, by decide⟩
theorem e_canE_4 : Inx m_canE 4 (.iload_n 0) 1 5 := ⟨by decide +kernel, rfl⟩
theorem e_canE_5 : Inx m_canE 5 (.sipush 255) 3 8 := ⟨by decide +kernel, rfl⟩
theorem e_canE_8 : BrI m_canE 8 .gt 15 11 := ⟨7, by decide +kernel, rfl, by decide⟩
theorem e_canE_11 : Inx m_canE 11 (.iconst 1) 1 12 := ⟨by decide +kernel, rfl⟩
theorem e_canE_12 : Gto m_canE 12 16 := ⟨4, by decide +kernel, by decide⟩
theorem e_canE_15 : Inx m_canE 15 (.iconst 0) 1 16 := ⟨by decide +kernel, rfl⟩
theorem e_canE_16 : Inx m_canE 16 (.ireturn) 1 17 := ⟨by decide +kernel, rfl⟩
theorem e_lixc_0 : Inx m_lixc 0 (.iload_n 1) 1 1 := ⟨by decide +kernel, rfl⟩
theorem e_lixc_1 : Inx m_lixc 1 (.i2b) 1 2 := ⟨by decide +kernel, rfl⟩
theorem e_lixc_2 : Inx m_lixc 2 (.istore 4) 2 4 := ⟨by decide +kernel, rfl⟩
theorem e_lixc_4 : Inx m_lixc 4 (.iload_n 2) 1 5 := ⟨by decide +kernel, rfl⟩
theorem e_lixc_5 : Inx m_lixc 5 (.istore 5) 2 7 := ⟨by decide +kernel, rfl⟩
theorem e_lixc_7 : Inx m_lixc 7 (.iload 5) 2 9 := ⟨by decide +kernel, rfl⟩
theorem e_lixc_9 : Inx m_lixc 9 (.iload_n 3) 1 10 := ⟨by decide +kernel, rfl⟩
theorem e_lixc_10 : BrI m_lixc 10 .ge 31 13 := ⟨21, by decide +kernel, rfl, by decide⟩
theorem e_lixc_13 : Inx m_lixc 13 (.aload_n 0) 1 14 := ⟨by decide +kernel, rfl⟩
theorem e_lixc_14 : Inx m_lixc 14 (.iload 5) 2 16 := ⟨by decide +kernel, rfl⟩
theorem e_lixc_16 : Inx m_lixc 16 (.baload) 1 17 := ⟨by decide +kernel, rfl⟩
theorem e_lixc_17 : Inx m_lixc 17 (.iload 4) 2 19 := ⟨by decide +kernel, rfl⟩
theorem e_lixc_19 : BrI m_lixc 19 .ne 25 22 := ⟨6, by decide +kernel, rfl, by decide⟩
theorem e_lixc_22 : Inx m_lixc 22 (.iload 5) 2 24 := ⟨by decide +kernel, rfl⟩
theorem e_lixc_24 : Inx m_lixc 24 (.ireturn) 1 25 := ⟨by decide +kernel, rfl⟩
theorem e_lixc_25 : Inx m_lixc 25 (.iinc 5 1) 3 28 := ⟨by decide +kernel, rfl⟩
theorem e_lixc_28 : Gto m_lixc 28 7 := ⟨-21, by decide +kernel, by decide⟩
theorem e_lixc_31 : Inx m_lixc 31 (.iconst (-1)) 1 32 := ⟨by decide +kernel, rfl⟩
theorem e_lixc_32 : Inx m_lixc 32 (.ireturn) 1 33 := ⟨by decide +kernel, rfl⟩
theorem e_lix_0 : Inx m_lix 0 (.iload_n 1) 1 1 := ⟨by decide +kernel, rfl⟩
theorem e_lix_1 : Inx m_lix 1 (.invokestatic 88) 3 4 := ⟨by decide +kernel, rfl⟩
theorem e_lix_4 : BrZ m_lix 4 .ne 9 7 := ⟨5, by decide +kernel, rfl, by decide⟩
theorem e_lix_7 : Inx m_lix 7 (.iconst (-1)) 1 8 := ⟨by decide +kernel, rfl⟩
theorem e_lix_8 : Inx m_lix 8 (.ireturn) 1 9 := ⟨by decide +kernel, rfl⟩
theorem e_lix_9 : Inx m_lix 9 (.iload_n 2) 1 10 := ⟨by decide +kernel, rfl⟩
theorem e_lix_10 : Inx m_lix 10 (.iconst 0) 1 11 := ⟨by decide +kernel, rfl⟩
theorem e_lix_11 : Inx m_lix 11 (.invokestatic 92) 3 14 := ⟨by decide +kernel, rfl⟩
theorem e_lix_14 : Inx m_lix 14 (.istore_n 2) 1 15 := ⟨by decide +kernel, rfl⟩
theorem e_lix_15 : Inx m_lix 15 (.iload_n 3) 1 16 := ⟨by decide +kernel, rfl⟩
theorem e_lix_16 : Inx m_lix 16 (.aload_n 0) 1 17 := ⟨by decide +kernel, rfl⟩
theorem e_lix_17 : Inx m_lix 17 (.arraylength) 1 18 := ⟨by decide +kernel, rfl⟩
theorem e_lix_18 : Inx m_lix 18 (.invokestatic 38) 3 21 := ⟨by decide +kernel, rfl⟩
theorem e_lix_21 : Inx m_lix 21 (.istore_n 3) 1 22 := ⟨by decide +kernel, rfl⟩
theorem e_lix_22 : Inx m_lix 22 (.iload_n 2) 1 23 := ⟨by decide +kernel, rfl⟩
theorem e_lix_23 : Inx m_lix 23 (.iload_n 3) 1 24 := ⟨by decide +kernel, rfl⟩
theorem e_lix_24 : BrI m_lix 24 .lt 29 27 := ⟨5, by decide +kernel, rfl, by decide⟩
theorem e_lix_27 : Inx m_lix 27 (.iconst (-1)) 1 28 := ⟨by decide +kernel, rfl⟩
theorem e_lix_28 : Inx m_lix 28 (.ireturn) 1 29 := ⟨by decide +kernel, rfl⟩
theorem e_lix_29 : Inx m_lix 29 (.aload_n 0) 1 30 := ⟨by decide +kernel, rfl⟩
theorem e_lix_30 : Inx m_lix 30 (.iload_n 1) 1 31 := ⟨by decide +kernel, rfl⟩
theorem e_lix_31 : Inx m_lix 31 (.iload_n 2) 1 32 := ⟨by decide +kernel, rfl⟩
theorem e_lix_32 : Inx m_lix 32 (.iload_n 3) 1 33 := ⟨by decide +kernel, rfl⟩
theorem e_lix_33 : Inx m_lix 33 (.invokestatic 95) 3 36 := ⟨by decide +kernel, rfl⟩
theorem e_lix_36 : Inx m_lix 36 (.ireturn) 1 37 := ⟨by decide +kernel, rfl⟩
theorem e_six2_0 : Inx m_six2 0 (.aload_n 0) 1 1 := ⟨by decide +kernel, rfl⟩
theorem e_six2_1 : Inx m_six2 1 (.invokevirtual 492) 3 4 := ⟨by decide +kernel, rfl⟩
theorem e_six2_4 : BrZ m_six2 4 .eq 23 7 := ⟨19, by decide +kernel, rfl, by decide⟩
theorem e_six2_7 : Inx m_six2 7 (.aload_n 0) 1 8 := ⟨by decide +kernel, rfl⟩
theorem e_six2_8 : Inx m_six2 8 (.getfield 9) 3 11 := ⟨by decide +kernel, rfl⟩
theorem e_six2_11 : Inx m_six2 11 (.iload_n 1) 1 12 := ⟨by decide +kernel, rfl⟩
theorem e_six2_12 : Inx m_six2 12 (.iload_n 2) 1 13 := ⟨by decide +kernel, rfl⟩
theorem e_six2_13 : Inx m_six2 13 (.aload_n 0) 1 14 := ⟨by decide +kernel, rfl⟩
theorem e_six2_14 : Inx m_six2 14 (.invokevirtual 505) 3 17 := ⟨by decide +kernel, rfl⟩
theorem e_six2_17 : Inx m_six2 17 (.invokestatic 637) 3 20 := ⟨by decide +kernel, rfl⟩
theorem e_six2_20 : Gto m_six2 20 36 := ⟨16, by decide +kernel, by decide⟩
theorem e_six2_23 : Inx m_six2 23 (.aload_n 0) 1 24 := ⟨by decide +kernel, rfl⟩
theorem e_six2_24 : Inx m_six2 24 (.getfield 9) 3 27 := ⟨by decide +kernel, rfl⟩
theorem e_six2_27 : Inx m_six2 27 (.iload_n 1) 1 28 := ⟨by decide +kernel, rfl⟩
theorem e_six2_28 : Inx m_six2 28 (.iload_n 2) 1 29 := ⟨by decide +kernel, rfl⟩
theorem e_six2_29 : Inx m_six2 29 (.aload_n 0) 1 30 := ⟨by decide +kernel, rfl⟩
theorem e_six2_30 : Inx m_six2 30 (.invokevirtual 505) 3 33 := ⟨by decide +kernel, rfl⟩
theorem e_six2_33 : Inx m_six2 33 (.invokestatic 640) 3 36 := ⟨by decide +kernel, rfl⟩
theorem e_six2_36 : Inx m_six2 36 (.ireturn) 1 37 := ⟨by decide +kernel, rfl⟩
theorem e_six_0 : Inx m_six 0 (.aload_n 0) 1 1 := ⟨by decide +kernel, rfl⟩
theorem e_six_1 : Inx m_six 1 (.iload_n 1) 1 2 := ⟨by decide +kernel, rfl⟩
theorem e_six_2 : Inx m_six 2 (.iconst 0) 1 3 := ⟨by decide +kernel, rfl⟩
theorem e_six_3 : Inx m_six 3 (.invokevirtual 633) 3 6 := ⟨by decide +kernel, rfl⟩
theorem e_six_6 : Inx m_six 6 (.ireturn) 1 7 := ⟨by decide +kernel, rfl⟩
variable {k k' : MT} {Q Qc : Po} {pc pc' idx : Nat} {ls : List (Option Value)} {st : List Value} {sh : List SC} {M : Mem} {n1 n2 n : Nat} {As : List Value}
theorem r_aloadX_n {i : Fin 4} {x : Nat} (hd : Inx k pc (.aload_n i) 1 pc') (hl : lget ls (i : Nat) = some (.retAddr x)) (h : WP k Q pc' ls (.retAddr x :: st) sh M n1 n2) : WP k Q pc ls st sh M n1 n2 := by
  intro p l e s m args below meth c ad0 ad dC dI dA sz0 H locs la C h0 h1 h2 h3 h4 h5
  obtain ⟨hd, rfl⟩ := hd
  exact lv_aload_n C.1 C.2.1 hd rfl (h5.2.2 _ (lget_mem hl)) (h p l e s m args below meth c ad0 ad dC dI dA sz0 H locs la C h0 h1 h2 h3 h4 h5)
/-- a row of the launch's own, under the number x -/
def XT (ty : FieldType) (x N : Nat) (f : Nat → Int32) : Prop := ∀ (sz0 : Nat) (X : Nat → Nat) (s : State), Ext sz0 X s → va_T ty (X x) N (fun j => .int (f j)) (Aw sz0) s s.heap
theorem r_alenX {ty : FieldType} {x N : Nat} {f : Nat → Int32} {v : Int32} (hd : Inx k pc .arraylength 1 pc') (hT : XT ty x N f) (hv : Int32.ofNat N = v) (h : WP k Q pc' ls (.int v :: st) sh M n1 n2) : WP k Q pc ls (.retAddr x :: st) sh M n1 n2 := by
  intro p l e s m args below meth c ad0 ad dC dI dA sz0 H locs la C h0 h1 h2 h3 h4 h5
  obtain ⟨hd, rfl⟩ := hd
  exact va_tlen C.1 C.2.1 (hT _ _ _ C.2.2.2.2.2.2.2.2.1) h4 hv hd (h p l e s m args below meth c ad0 ad dC dI dA sz0 H locs la C h0 h1 h2 h3 h4 h5)
theorem r_ialoadX {x N : Nat} {f : Nat → Int32} {i : Int32} (hd : Inx k pc .iaload 1 pc') (hT : XT .int x N f) (hi : vp_in i N) (h : WP k Q pc' ls (.int (f i.toNatClampNeg) :: st) sh M n1 n2) : WP k Q pc ls (.int i :: .retAddr x :: st) sh M n1 n2 := by
  intro p l e s m args below meth c ad0 ad dC dI dA sz0 H locs la C h0 h1 h2 h3 h4 h5
  obtain ⟨hd, rfl⟩ := hd
  exact va_ti C.1 C.2.1 (hT _ _ _ C.2.2.2.2.2.2.2.2.1) h4 hi rfl hd (h p l e s m args below meth c ad0 ad dC dI dA sz0 H locs la C h0 h1 h2 h3 h4 h5)
theorem r_getsX {x : Nat} {R nm d : String} (hd : Inx k pc (.getstatic idx) 3 pc') (hZ : ∀ (sz0 : Nat) (X : Nat → Nat) (s : State), Ext sz0 X s → va_Z R nm d (.ref (X x)) (Aw sz0) s s.heap) (hl : Cond.fieldLink k.1.cls idx R nm d ∈ lw_good) (h : WP k Q pc' ls (.retAddr x :: st) sh M n1 n2) : WP k Q pc ls st sh M n1 n2 := by
  intro p l e s m args below meth c ad0 ad dC dI dA sz0 H locs la C h0 h1 h2 h3 h4 h5
  obtain ⟨hd, rfl⟩ := hd
  exact va_gets C.1 C.2.1 (hZ _ _ _ C.2.2.2.2.2.2.2.2.1) h4 C.2.2.2.2.2.1 (C.2.2.2.2.2.2.1 _ hl) (fun _ q => q) hd (h p l e s m args below meth c ad0 ad dC dI dA sz0 H locs la C h0 h1 h2 h3 h4 h5)
theorem S_atX {x N i : Nat} {f : Nat → Int32} (hT : XT .int x N f) (hN : N < 2 ^ 31) (hi : i < N) : Gv m_X10_at [.retAddr x, .int (nI i)] sh M (.int (f i)) M := by
  refine Sp.of (ls := [some (.retAddr x), some (.int (nI i))]) (by decide +kernel) (Nat.le_of_ble_eq_true rfl) rfl ?_
  have hcl : (nI i).toNatClampNeg = i := nI_clamp (by omega)
  refine r_iload_n e_X10_at_0 rfl ?_
  refine r_if_lt e_X10_at_1 (fun c => absurd c (nI_pos (by omega))) (fun _ => ?_)
  refine r_iload_n e_X10_at_4 rfl ?_
  refine r_aloadX_n e_X10_at_5 rfl ?_
  refine r_alenX (v := nI N) e_X10_at_6 hT rfl ?_
  refine r_icmp_ge e_X10_at_7 (fun c => absurd c (nI_ge hi (by omega))) (fun _ => ?_)
  refine r_aloadX_n e_X10_at_10 rfl ?_
  refine r_iload_n e_X10_at_11 rfl ?_
  refine r_ialoadX e_X10_at_12 hT (by unfold vp_in; rw [hcl]; intro q; rcases q with q | q; exact absurd q (nI_pos (by omega)); omega) ?_
  rw [hcl]
  refine r_goto e_X10_at_13 ?_
  exact r_ireturn e_X10_at_17 rfl ⟨rfl, rfl⟩ ⟨rfl, rfl, rfl⟩
theorem r_getsV {R nm d : String} {v : Int32} (hd : Inx k pc (.getstatic idx) 3 pc') (hZ : ∀ (sz0 : Nat) (X : Nat → Nat) (s : State), Ext sz0 X s → va_Z R nm d (.int v) (Aw sz0) s s.heap) (hl : Cond.fieldLink k.1.cls idx R nm d ∈ lw_good) (h : WP k Q pc' ls (.int v :: st) sh M n1 n2) : WP k Q pc ls st sh M n1 n2 := by
  intro p l e s m args below meth c ad0 ad dC dI dA sz0 H locs la C h0 h1 h2 h3 h4 h5
  obtain ⟨hd, rfl⟩ := hd
  exact va_gets C.1 C.2.1 (hZ _ _ _ C.2.2.2.2.2.2.2.2.1) h4 C.2.2.2.2.2.1 (C.2.2.2.2.2.2.1 _ hl) (fun _ q => q) hd (h p l e s m args below meth c ad0 ad dC dI dA sz0 H locs la C h0 h1 h2 h3 h4 h5)
theorem r_getsQ {R nm d : String} {x : Nat} (hd : Inx k pc (.getstatic idx) 3 pc') (hZ : ∀ (sz0 : Nat) (X : Nat → Nat) (s : State), Ext sz0 X s → va_Z R nm d .null (Aw sz0) s s.heap ∨ va_Z R nm d (.ref (X x)) (Aw sz0) s s.heap) (hl : Cond.fieldLink k.1.cls idx R nm d ∈ lw_good) (h : ∀ w : Value, w = .null ∨ w = .retAddr x → WP k Q pc' ls (w :: st) sh M n1 n2) : WP k Q pc ls st sh M n1 n2 := by
  intro p l e s m args below meth c ad0 ad dC dI dA sz0 H locs la C h0 h1 h2 h3 h4 h5
  obtain ⟨hd, rfl⟩ := hd
  rcases hZ _ _ _ C.2.2.2.2.2.2.2.2.1 with q | q
  · exact va_gets C.1 C.2.1 q h4 C.2.2.2.2.2.1 (C.2.2.2.2.2.2.1 _ hl) (fun _ q => q) hd (h .null (Or.inl rfl) p l e s m args below meth c ad0 ad dC dI dA sz0 H locs la C h0 h1 h2 h3 h4 h5)
  · exact va_gets C.1 C.2.1 q h4 C.2.2.2.2.2.1 (C.2.2.2.2.2.2.1 _ hl) (fun _ q => q) hd (h (.retAddr x) (Or.inr rfl) p l e s m args below meth c ad0 ad dC dI dA sz0 H locs la C h0 h1 h2 h3 h4 h5)
theorem r_getfX {o nm d : String} {x : Nat} {w : Value} (hd : Inx k pc (.getfield idx) 3 pc') (hE : ∀ (sz0 : Nat) (ad : AD) (s : State), Ext sz0 ad.2 s → va_OF o nm d (cv ad w) (ad.2 x) (Aw sz0) s s.heap) (hl : Cond.fieldLink k.1.cls idx o nm d ∈ lw_good) (h : WP k Q pc' ls (w :: st) sh M n1 n2) : WP k Q pc ls (.retAddr x :: st) sh M n1 n2 := by
  intro p l e s m args below meth c ad0 ad dC dI dA sz0 H locs la C h0 h1 h2 h3 h4 h5
  obtain ⟨hd, rfl⟩ := hd
  exact vk_getf C.1 C.2.1 (hE _ ad _ C.2.2.2.2.2.2.2.2.1) h4 C.2.2.2.2.2.1 (C.2.2.2.2.2.2.1 _ hl) (fun _ q => q) hd (h p l e s m args below meth c ad0 ad dC dI dA sz0 H locs la C h0 h1 h2 h3 h4 h5)
theorem r_baloadX {x N : Nat} {f : Nat → Int32} {i : Int32} (hd : Inx k pc .baload 1 pc') (hT : XT .byte x N f) (hi : vp_in i N) (h : WP k Q pc' ls (.int (f i.toNatClampNeg) :: st) sh M n1 n2) : WP k Q pc ls (.int i :: .retAddr x :: st) sh M n1 n2 := by
  intro p l e s m args below meth c ad0 ad dC dI dA sz0 H locs la C h0 h1 h2 h3 h4 h5
  obtain ⟨hd, rfl⟩ := hd
  exact va_tb C.1 C.2.1 (hT _ _ _ C.2.2.2.2.2.2.2.2.1) h4 hi rfl hd (h p l e s m args below meth c ad0 ad dC dI dA sz0 H locs la C h0 h1 h2 h3 h4 h5)
theorem r_i2b {x : Int32} (hd : Inx k pc .i2b 1 pc') (h : WP k Q pc' ls (.int x.toInt8.toInt32 :: st) sh M n1 n2) : WP k Q pc ls (.int x :: st) sh M n1 n2 := by
  intro p l e s m args below meth c ad0 ad dC dI dA sz0 H locs la C h0 h1 h2 h3 h4 h5
  obtain ⟨hd, rfl⟩ := hd
  exact lv_i2b C.1 C.2.1 hd rfl (h p l e s m args below meth c ad0 ad dC dI dA sz0 H locs la C h0 h1 h2 h3 h4 h5)
theorem r_tyreturn {ty : FieldType} {v : Int32} (hd : Inx k pc .ireturn 1 pc') (hr : k.2.2.2.1 = some ty) (hn : n1 = k.2.2.2.2.2.2.1 ∧ n2 = k.2.2.2.2.2.2.2) (hv : ty = .byte ∨ ty = .char) (hv2 : narrow ty (.int v) = .int v) (hq : Q (some (.int v)) sh M) : WP k Q pc ls [.int v] sh M n1 n2 := by
  intro p l e s m args below meth c ad0 ad dC dI dA sz0 H locs la C h0 h1 h2 h3 h4 h5
  obtain ⟨hd, rfl⟩ := hd
  obtain ⟨rfl, rfl⟩ := hn
  exact W.zret (ty := ty) C.1 C.2.1 (C.2.2.2.1.trans hr) hv2 (fun t ht hW => QcW_end (k := k) (r := some (.int v)) hq h0 h1 h2 h3 h4 ht) h4.2.2 hd (hlocks := C.2.2.2.2.1)
theorem r_callVX {i : Nat} (hi3 : i < 3) (hd : Inx k pc (.invokevirtual idx) 3 pc') (hC : CVX k.1.cls idx k' n) (hR : Rm k k') (hr : k'.2.2.2.2.2.2.1 = 0 ∧ k'.2.2.2.2.2.2.2 = 0) (hn : As.length = n) (hst : stOk st) (hM : Sp k' (.retAddr (i + 2) :: As) sh M Qc) (hA : Aft k Q Qc pc' ls st sh n1 n2) {st0 : List Value} (hs : st0 = As.reverse ++ .retAddr (i + 2) :: st) (hw : n1 ≤ k.2.2.2.2.2.2.1 ∧ n2 ≤ k.2.2.2.2.2.2.2) : WP k Q pc ls st0 sh M n1 n2 := by
  subst hs
  intro p l e s m args below meth cd ad0 ad dC dI dA sz0 H locs la C h0 h1 h2 h3 h4 h5
  obtain ⟨hd, rfl⟩ := hd
  obtain ⟨hC, hl, hi, hse, hcl⟩ := hC
  have ht := C.2.2.2.2.2.2.1
  have hrun := va_runV (As := As.map (cv ad)) (rest := st.map (cv ad)) (b := ad.2 (i + 2)) (g := F0 m pc la ((As.reverse ++ .retAddr (i + 2) :: st).map (cv ad))) ⟨C.1, C.2.1, C.2.2.1, C.2.2.2.2.2.1, ht⟩ (hM l ad dC dI dA sz0) ⟨callB_ok hC hR ht hl, ht _ hi, ht _ hse⟩ ⟨PcW_blind _ _ _ _ _ _ _ _, (by rw [hcl]; exact vk_recv (adK := fun i => ad.2 (i + 2)) (i := i) C.2.2.2.2.2.2.2.2.1.2.2.2.2.2.1 hi3 h4), pre_ok (As := .retAddr (i + 2) :: As) C h1 h2 h3 h4⟩ rfl (by rw [List.length_map]; exact hn) h5.1 (by simp [cv]) (lv_room (stOk_cv hst)) hd ⟨by rw [hr.1]; exact hw.1, by rw [hr.2]; exact hw.2⟩ (below := below) (e := e) (meth := meth) (p := p) (locs := locs) (cells := n1) (slots := n2)
  refine call_on (free := Aw sz0) hrun h4 ?_
  intro r sh' M' ad' H1 locs1 g1 g2 g3 g4 g5 g6
  rw [hr.1, hr.2]
  exact hA p l e s m args below meth cd ad0 ad dC dI dA sz0 la C h0 h1 h5 r sh' M' ad' H1 locs1 g1 g2 g3 g4 g5 g6
theorem cVX_v {i : Nat} {v : Value} {M' : Mem} (hi3 : i < 3) (hd : Inx k pc (.invokevirtual idx) 3 pc') (hC : CVX k.1.cls idx k' n) (hR : Rm k k') (hr : k'.2.2.2.2.2.2.1 = 0 ∧ k'.2.2.2.2.2.2.2 = 0) (hn : As.length = n) (hst : stOk st) (hM : Gv k' (.retAddr (i + 2) :: As) sh M v M') {st0 : List Value} (hs : st0 = As.reverse ++ .retAddr (i + 2) :: st) (hw : n1 ≤ k.2.2.2.2.2.2.1 ∧ n2 ≤ k.2.2.2.2.2.2.2) (h : WP k Q pc' ls (v :: st) sh M' n1 n2) : WP k Q pc ls st0 sh M n1 n2 :=
  r_callVX hi3 hd hC hR hr hn hst hM (Aft.keep (fun r sh' M'' hq => by obtain ⟨rfl, rfl, rfl⟩ := hq; exact ⟨rfl, h⟩)) hs hw
theorem cS_v {v : Value} {M' : Mem} {st0 : List Value} (hd : Inx k pc (.invokestatic idx) 3 pc') (hC : CS k.1.cls idx k' n) (hR : Rm k k') (hr : k'.2.2.2.2.2.2.1 = 0 ∧ k'.2.2.2.2.2.2.2 = 0) (hn : As.length = n) (hst : stOk st) (hM : Gv k' As sh M v M') (hs : st0 = As.reverse ++ st) (hw : n1 ≤ k.2.2.2.2.2.2.1 ∧ n2 ≤ k.2.2.2.2.2.2.2) (h : WP k Q pc' ls (v :: st) sh M' n1 n2) : WP k Q pc ls st0 sh M n1 n2 :=
  r_callS hd hC hR hr hn hst hM (Aft.keep (fun r sh' M'' hq => by obtain ⟨rfl, rfl, rfl⟩ := hq; exact ⟨rfl, h⟩)) hs hw
theorem cS_u {M' : Mem} {st0 : List Value} (hd : Inx k pc (.invokestatic idx) 3 pc') (hC : CS k.1.cls idx k' n) (hR : Rm k k') (hr : k'.2.2.2.2.2.2.1 = 0 ∧ k'.2.2.2.2.2.2.2 = 0) (hn : As.length = n) (hst : stOk st) (hM : Gu k' As sh M M') (hs : st0 = As.reverse ++ st) (hw : n1 ≤ k.2.2.2.2.2.2.1 ∧ n2 ≤ k.2.2.2.2.2.2.2) (h : WP k Q pc' ls st sh M' n1 n2) : WP k Q pc ls st0 sh M n1 n2 :=
  r_callS hd hC hR hr hn hst hM (Aft.keep (fun r sh' M'' hq => by obtain ⟨rfl, rfl, rfl⟩ := hq; exact ⟨rfl, h⟩)) hs hw
abbrev txN (i : Nat) : Nat := txLen.getD i 0
abbrev txB (i j : Nat) : Int32 := (txByt.getD i []).getD j 0
theorem xt_b {i : Nat} (h : i < 3) : XT .byte (i + 5) (txN i) (txB i) := fun _ _ _ hE => (hE.2.2.2.2.2.1.1 i h).2.2.2
abbrev r0 : 0 ≤ 0 ∧ 0 ≤ 0 := ⟨Nat.le_refl _, Nat.le_refl _⟩
theorem S_coder {i : Nat} (hi : i < 3) : Gv m_coder [.retAddr (i + 2)] sh M (.int 0) M := by
  refine Sp.of (ls := [some (.retAddr (i + 2))]) (by decide +kernel) (Nat.le_of_ble_eq_true rfl) rfl ?_
  refine r_getsV (v := 1) e_coder_0 (fun _ _ _ h => h.2.2.2.1) jf_38 ?_
  refine r_if_eq e_coder_3 (fun c => absurd c (by decide)) (fun _ => ?_)
  refine r_aloadX_n e_coder_6 rfl ?_
  refine r_getfX (w := .int 0) e_coder_7 (fun _ _ _ h => (h.2.2.2.2.2.1.1 i hi).2.1) jf_15 ?_
  refine r_goto e_coder_10 ?_
  exact r_tyreturn e_coder_14 rfl ⟨rfl, rfl⟩ (Or.inl rfl) rfl ⟨rfl, rfl, rfl⟩
theorem S_isLat {i : Nat} (hi : i < 3) : Gv m_isLat [.retAddr (i + 2)] sh M (.int 1) M := by
  refine Sp.of (ls := [some (.retAddr (i + 2))]) (by decide +kernel) (Nat.le_of_ble_eq_true rfl) rfl ?_
  refine r_getsV (v := 1) e_isLat_0 (fun _ _ _ h => h.2.2.2.1) jf_38 ?_
  refine r_if_eq e_isLat_3 (fun c => absurd c (by decide)) (fun _ => ?_)
  refine r_aloadX_n e_isLat_6 rfl ?_
  refine r_getfX (w := .int 0) e_isLat_7 (fun _ _ _ h => (h.2.2.2.2.2.1.1 i hi).2.1) jf_15 ?_
  refine r_if_ne e_isLat_10 (fun c => absurd rfl c) (fun _ => ?_)
  refine r_iconst e_isLat_13 ic_1 ?_
  refine r_goto e_isLat_14 ?_
  exact r_zreturn e_isLat_18 rfl ⟨rfl, rfl⟩ (Or.inr rfl) ⟨rfl, rfl, rfl⟩
theorem shr0 {x : Int32} : x >>> ((0 : Int32) &&& 31) = x := by
  have e : (0 : Int32) &&& 31 = 0 := by decide
  rw [e]
  exact Int32.shiftRight_zero
theorem S_slen {i : Nat} (hi : i < 3) : Gv m_slen [.retAddr (i + 2)] sh M (.int (nI (txN i))) M := by
  refine Sp.of (ls := [some (.retAddr (i + 2))]) (by decide +kernel) (Nat.le_of_ble_eq_true rfl) rfl ?_
  refine r_aloadX_n e_slen_0 rfl ?_
  refine r_getfX (w := .retAddr (i + 5)) e_slen_1 (fun _ _ _ h => (h.2.2.2.2.2.1.1 i hi).2.2.1) jf_9 ?_
  refine r_alenX (v := nI (txN i)) e_slen_4 (xt_b hi) rfl ?_
  refine r_aloadX_n e_slen_5 rfl ?_
  refine cVX_v (As := []) (st := [.int (nI (txN i))]) hi e_slen_6 jl_s_335 ⟨Nat.le_of_ble_eq_true rfl, Nat.le_of_ble_eq_true rfl⟩ ⟨rfl, rfl⟩ rfl (Nat.le_of_ble_eq_true rfl) (S_coder hi) rfl r0 ?_
  refine r_ishr e_slen_9 ?_
  rw [shr0]
  exact r_ireturn e_slen_10 rfl ⟨rfl, rfl⟩ ⟨rfl, rfl, rfl⟩
theorem S_pchk {j N : Nat} {w : Value} (hw : w = .null ∨ w = .retAddr 8) (hj : j < N) (hN : N < 2 ^ 31) : Gv m_pchk [.int (nI j), .int (nI N), w] sh M (.int (nI j)) M := by
  refine Sp.of (ls := [some (.int (nI j)), some (.int (nI N)), some w]) (by decide +kernel) (by rcases hw with rfl | rfl <;> exact Nat.le_of_ble_eq_true rfl) (by rcases hw with rfl | rfl <;> rfl) ?_
  refine r_iload_n e_pchk_0 rfl ?_
  refine r_if_lt e_pchk_1 (fun c => absurd c (nI_pos (by omega))) (fun _ => ?_)
  refine r_iload_n e_pchk_4 rfl ?_
  refine r_iload_n e_pchk_5 rfl ?_
  refine r_icmp_lt e_pchk_6 (fun _ => ?_) (fun c => absurd (nI_lt hj (by omega)) c)
  refine r_iload_n e_pchk_16 rfl ?_
  exact r_ireturn e_pchk_17 rfl ⟨rfl, rfl⟩ ⟨rfl, rfl, rfl⟩
theorem S_schk {j N : Nat} (hj : j < N) (hN : N < 2 ^ 31) : Gu m_schk [.int (nI j), .int (nI N)] sh M M := by
  refine Sp.of (ls := [some (.int (nI j)), some (.int (nI N))]) (by decide +kernel) (Nat.le_of_ble_eq_true rfl) rfl ?_
  refine r_iload_n e_schk_0 rfl ?_
  refine r_iload_n e_schk_1 rfl ?_
  refine r_getsQ (x := 8) e_schk_2 (fun _ _ _ h => h.2.2.2.2.1) jf_1053 (fun w hw => ?_)
  refine cS_v (As := [.int (nI j), .int (nI N), w]) (st := []) e_schk_5 jl_s_1059 ⟨Nat.le_of_ble_eq_true rfl, Nat.le_of_ble_eq_true rfl⟩ ⟨rfl, rfl⟩ rfl (Nat.le_of_ble_eq_true rfl) (S_pchk hw hj hN) rfl r0 ?_
  refine r_pop e_schk_8 rfl ?_
  exact r_return e_schk_9 rfl ⟨rfl, rfl⟩ ⟨rfl, rfl, rfl⟩
theorem txN_lt {i : Nat} (hi : i < 3) : txN i < 2 ^ 31 := by
  rcases (show i = 0 ∨ i = 1 ∨ i = 2 by omega) with rfl | rfl | rfl <;> decide
theorem tx_ch {i j : Nat} (hi : i < 3) (hj : j < txN i) : (((txB i j) &&& 255).toUInt32 % 65536).toInt32 = txB i j ∧ narrow .char (.int (txB i j)) = .int (txB i j) := by
  have key : ∀ i : Fin 3, ∀ j : Fin 62, j.val < txN i.val → (((txB i.val j.val) &&& 255).toUInt32 % 65536).toInt32 = txB i.val j.val ∧ narrow .char (.int (txB i.val j.val)) = .int (txB i.val j.val) := by decide +kernel
  have h62 : txN i ≤ 62 := by rcases (show i = 0 ∨ i = 1 ∨ i = 2 by omega) with rfl | rfl | rfl <;> decide
  exact key ⟨i, hi⟩ ⟨j, by omega⟩ hj
theorem in_nI {j N : Nat} (hj : j < N) (hN : N < 2 ^ 31) : vp_in (nI j) N := by
  unfold vp_in
  rw [nI_clamp (by omega)]
  intro q
  rcases q with q | q
  · exact absurd q (nI_pos (by omega))
  · omega
theorem S_lchar {i j : Nat} (hi : i < 3) (hj : j < txN i) : Gv m_lchar [.retAddr (i + 5), .int (nI j)] sh M (.int (txB i j)) M := by
  refine Sp.of (ls := [some (.retAddr (i + 5)), some (.int (nI j))]) (by decide +kernel) (Nat.le_of_ble_eq_true rfl) rfl ?_
  have hN := txN_lt hi
  refine r_iload_n e_lchar_0 rfl ?_
  refine r_aloadX_n e_lchar_1 rfl ?_
  refine r_alenX (v := nI (txN i)) e_lchar_2 (xt_b hi) rfl ?_
  refine cS_u (As := [.int (nI j), .int (nI (txN i))]) (st := []) e_lchar_3 jl_l_9 ⟨Nat.le_of_ble_eq_true rfl, Nat.le_of_ble_eq_true rfl⟩ ⟨rfl, rfl⟩ rfl (Nat.le_of_ble_eq_true rfl) (S_schk hj hN) rfl r0 ?_
  refine r_aloadX_n e_lchar_6 rfl ?_
  refine r_iload_n e_lchar_7 rfl ?_
  refine r_baloadX e_lchar_8 (xt_b hi) (in_nI hj hN) ?_
  rw [nI_clamp (by omega)]
  refine r_sipush (v := 255) e_lchar_9 (by decide) ?_
  refine r_iand e_lchar_12 ?_
  refine r_i2c e_lchar_13 ?_
  obtain ⟨q1, q2⟩ := tx_ch hi hj
  rw [q1]
  exact r_tyreturn e_lchar_14 rfl ⟨rfl, rfl⟩ (Or.inr rfl) q2 ⟨rfl, rfl, rfl⟩
theorem S_schar {i j : Nat} (hi : i < 3) (hj : j < txN i) : Gv m_schar [.retAddr (i + 2), .int (nI j)] sh M (.int (txB i j)) M := by
  refine Sp.of (ls := [some (.retAddr (i + 2)), some (.int (nI j))]) (by decide +kernel) (Nat.le_of_ble_eq_true rfl) rfl ?_
  refine r_aloadX_n e_schar_0 rfl ?_
  refine cVX_v (As := []) (st := []) hi e_schar_1 jl_s_492 ⟨Nat.le_of_ble_eq_true rfl, Nat.le_of_ble_eq_true rfl⟩ ⟨rfl, rfl⟩ rfl (Nat.le_of_ble_eq_true rfl) (S_isLat hi) rfl r0 ?_
  refine r_if_eq e_schar_4 (fun c => absurd c (by decide)) (fun _ => ?_)
  refine r_aloadX_n e_schar_7 rfl ?_
  refine r_getfX (w := .retAddr (i + 5)) e_schar_8 (fun _ _ _ h => (h.2.2.2.2.2.1.1 i hi).2.2.1) jf_9 ?_
  refine r_iload_n e_schar_11 rfl ?_
  refine cS_v (As := [.retAddr (i + 5), .int (nI j)]) (st := []) e_schar_12 jl_s_495 ⟨Nat.le_of_ble_eq_true rfl, Nat.le_of_ble_eq_true rfl⟩ ⟨rfl, rfl⟩ rfl (Nat.le_of_ble_eq_true rfl) (S_lchar hi hj) rfl r0 ?_
  exact r_tyreturn e_schar_15 rfl ⟨rfl, rfl⟩ (Or.inr rfl) (tx_ch hi hj).2 ⟨rfl, rfl, rfl⟩
theorem S_canE {x : Nat} (hx : x < 256) : Gv m_canE [.int (nI x)] sh M (.int 1) M := by
  refine Sp.of (ls := [some (.int (nI x))]) (by decide +kernel) (Nat.le_of_ble_eq_true rfl) rfl ?_
  refine r_iload_n e_canE_0 rfl ?_
  refine r_if_lt e_canE_1 (fun c => absurd c (nI_pos (by omega))) (fun _ => ?_)
  refine r_iload_n e_canE_4 rfl ?_
  refine r_sipush (v := 255) e_canE_5 (by decide) ?_
  refine r_icmp_gt e_canE_8 (fun c => absurd c (nI_nlt (a := 255) (by omega) (by decide))) (fun _ => ?_)
  refine r_iconst e_canE_11 ic_1 ?_
  refine r_goto e_canE_12 ?_
  exact r_zreturn e_canE_16 rfl ⟨rfl, rfl⟩ (Or.inr rfl) ⟨rfl, rfl, rfl⟩
abbrev sgL : List Int32 := [123, 125, 60, 61, 62, 43, 45, 42, 59]
def sgF (c : Int32) : List Int32 → Nat → Int32
  | [], _ => -1
  | b :: l, k => if b = c then nI k else sgF c l (k + 1)
/-- where a sign stands among the signs -/
def sgIx (c : Int32) : Int32 := sgF c [123, 125, 60, 61, 62, 43, 45, 42, 59] 0
theorem sg_drop {j : Nat} (h : j < 9) : sgL.drop j = txB 2 j :: sgL.drop (j + 1) := by
  rcases (show j = 0 ∨ j = 1 ∨ j = 2 ∨ j = 3 ∨ j = 4 ∨ j = 5 ∨ j = 6 ∨ j = 7 ∨ j = 8 by omega) with rfl | rfl | rfl | rfl | rfl | rfl | rfl | rfl | rfl <;> rfl
theorem lixc_loop {c v : Int32} : ∀ (k j : Nat), j + k = 9 → WP m_lixc (fun r sh' M'' => r = some (.int (sgF v (sgL.drop j) j)) ∧ sh' = sh ∧ M'' = M) 7 [some (.retAddr 7), some (.int c), some (.int 0), some (.int 9), some (.int v), some (.int (nI j))] [] sh M 0 0 := by
  intro k
  induction k with
  | zero =>
    intro j hj
    obtain rfl : j = 9 := by omega
    refine r_iload e_lixc_7 rfl ?_
    refine r_iload_n e_lixc_9 rfl ?_
    refine r_icmp_ge e_lixc_10 (fun _ => ?_) (fun q => absurd (show (9 : Int32) ≤ nI 9 by decide) q)
    refine r_iconst e_lixc_31 ic_m1 ?_
    exact r_ireturn e_lixc_32 rfl ⟨rfl, rfl⟩ ⟨rfl, rfl, rfl⟩
  | succ k ih =>
    intro j hj
    refine r_iload e_lixc_7 rfl ?_
    refine r_iload_n e_lixc_9 rfl ?_
    refine r_icmp_ge e_lixc_10 (fun q => absurd q (nI_ge (b := 9) (by omega) (by decide))) (fun _ => ?_)
    refine r_aloadX_n e_lixc_13 rfl ?_
    refine r_iload e_lixc_14 rfl ?_
    refine r_baloadX e_lixc_16 (xt_b (i := 2) (by decide)) (in_nI (show j < txN 2 by show j < 9; omega) (by decide)) ?_
    rw [nI_clamp (by omega)]
    refine r_iload e_lixc_17 rfl ?_
    rw [sg_drop (show j < 9 by omega)]
    refine r_icmp_ne e_lixc_19 (fun q => ?_) (fun q => ?_)
    · rw [sgF, if_neg q]
      refine p_iinc_6_5 e_lixc_25 rfl ic_1 rfl ?_
      rw [nI_1 j]
      refine r_goto e_lixc_28 ?_
      exact ih (j + 1) (by omega)
    · rw [sgF, if_pos q]
      refine r_iload e_lixc_22 rfl ?_
      exact r_ireturn e_lixc_24 rfl ⟨rfl, rfl⟩ ⟨rfl, rfl, rfl⟩
theorem sg_b {x : Nat} (hx : x < 256) : sgF (nI x).toInt8.toInt32 sgL 0 = sgIx (nI x) := by
  have key : ∀ x : Fin 256, sgF (nI x.val).toInt8.toInt32 sgL 0 = sgIx (nI x.val) := by decide +kernel
  exact key ⟨x, hx⟩
theorem S_lixc {x : Nat} (hx : x < 256) : Gv m_lixc [.retAddr 7, .int (nI x), .int 0, .int 9] sh M (.int (sgIx (nI x))) M := by
  refine Sp.of (ls := [some (.retAddr 7), some (.int (nI x)), some (.int 0), some (.int 9), none, none]) (by decide +kernel) (Nat.le_of_ble_eq_true rfl) rfl ?_
  refine r_iload_n e_lixc_0 rfl ?_
  refine r_i2b e_lixc_1 ?_
  refine p_istore_6_4 e_lixc_2 rfl rfl ?_
  refine r_iload_n e_lixc_4 rfl ?_
  refine p_istore_6_5 e_lixc_5 rfl rfl ?_
  have w := lixc_loop (sh := sh) (M := M) (c := nI x) (v := (nI x).toInt8.toInt32) 9 0 rfl
  rw [← sg_b hx]
  exact w
theorem S_lix {x : Nat} (hx : x < 256) : Gv m_lix [.retAddr 7, .int (nI x), .int 0, .int 9] sh M (.int (sgIx (nI x))) M := by
  refine Sp.of (ls := [some (.retAddr 7), some (.int (nI x)), some (.int 0), some (.int 9)]) (by decide +kernel) (Nat.le_of_ble_eq_true rfl) rfl ?_
  refine r_iload_n e_lix_0 rfl ?_
  refine cS_v (As := [.int (nI x)]) (st := []) e_lix_1 jl_l_88 ⟨Nat.le_of_ble_eq_true rfl, Nat.le_of_ble_eq_true rfl⟩ ⟨rfl, rfl⟩ rfl (Nat.le_of_ble_eq_true rfl) (S_canE hx) rfl r0 ?_
  refine r_if_ne e_lix_4 (fun _ => ?_) (fun c => absurd c (by decide))
  refine r_iload_n e_lix_9 rfl ?_
  refine r_iconst e_lix_10 ic_0 ?_
  refine r_mmax e_lix_11 jl_l_92 ⟨Nat.le_of_ble_eq_true rfl, Nat.le_of_ble_eq_true rfl, Nat.zero_le _, Nat.zero_le _⟩ (Nat.le_of_ble_eq_true rfl) ?_
  refine p_istore_n_4_2 e_lix_14 rfl rfl ?_
  refine r_iload_n e_lix_15 rfl ?_
  refine r_aloadX_n e_lix_16 rfl ?_
  refine r_alenX (v := 9) e_lix_17 (xt_b (i := 2) (by decide)) rfl ?_
  refine r_mmin e_lix_18 jl_l_38 ⟨Nat.le_of_ble_eq_true rfl, Nat.le_of_ble_eq_true rfl, Nat.zero_le _, Nat.zero_le _⟩ (Nat.le_of_ble_eq_true rfl) ?_
  refine p_istore_n_4_3 e_lix_21 rfl rfl ?_
  refine r_iload_n e_lix_22 rfl ?_
  refine r_iload_n e_lix_23 rfl ?_
  refine r_icmp_lt e_lix_24 (fun _ => ?_) (fun c => absurd (by decide) c)
  refine r_aloadX_n e_lix_29 rfl ?_
  refine r_iload_n e_lix_30 rfl ?_
  refine r_iload_n e_lix_31 rfl ?_
  refine r_iload_n e_lix_32 rfl ?_
  refine cS_v (As := [.retAddr 7, .int (nI x), .int 0, .int 9]) (st := []) e_lix_33 jl_l_95 ⟨Nat.le_of_ble_eq_true rfl, Nat.le_of_ble_eq_true rfl⟩ ⟨rfl, rfl⟩ rfl (Nat.le_of_ble_eq_true rfl) (S_lixc hx) rfl r0 ?_
  exact r_ireturn e_lix_36 rfl ⟨rfl, rfl⟩ ⟨rfl, rfl, rfl⟩
theorem S_six2 {x : Nat} (hx : x < 256) : Gv m_six2 [.retAddr 4, .int (nI x), .int 0] sh M (.int (sgIx (nI x))) M := by
  refine Sp.of (ls := [some (.retAddr 4), some (.int (nI x)), some (.int 0)]) (by decide +kernel) (Nat.le_of_ble_eq_true rfl) rfl ?_
  refine r_aloadX_n e_six2_0 rfl ?_
  refine cVX_v (i := 2) (As := []) (st := []) (by decide) e_six2_1 jl_s_492 ⟨Nat.le_of_ble_eq_true rfl, Nat.le_of_ble_eq_true rfl⟩ ⟨rfl, rfl⟩ rfl (Nat.le_of_ble_eq_true rfl) (S_isLat (by decide)) rfl r0 ?_
  refine r_if_eq e_six2_4 (fun c => absurd c (by decide)) (fun _ => ?_)
  refine r_aloadX_n e_six2_7 rfl ?_
  refine r_getfX (w := .retAddr 7) e_six2_8 (fun _ _ _ h => (h.2.2.2.2.2.1.1 2 (by decide)).2.2.1) jf_9 ?_
  refine r_iload_n e_six2_11 rfl ?_
  refine r_iload_n e_six2_12 rfl ?_
  refine r_aloadX_n e_six2_13 rfl ?_
  refine cVX_v (i := 2) (As := []) (st := [.int 0, .int (nI x), .retAddr 7]) (by decide) e_six2_14 jl_s_505 ⟨Nat.le_of_ble_eq_true rfl, Nat.le_of_ble_eq_true rfl⟩ ⟨rfl, rfl⟩ rfl (Nat.le_of_ble_eq_true rfl) (S_slen (by decide)) rfl r0 ?_
  refine cS_v (As := [.retAddr 7, .int (nI x), .int 0, .int 9]) (st := []) e_six2_17 jl_s_637 ⟨Nat.le_of_ble_eq_true rfl, Nat.le_of_ble_eq_true rfl⟩ ⟨rfl, rfl⟩ rfl (Nat.le_of_ble_eq_true rfl) (S_lix hx) rfl r0 ?_
  refine r_goto e_six2_20 ?_
  exact r_ireturn e_six2_36 rfl ⟨rfl, rfl⟩ ⟨rfl, rfl, rfl⟩
theorem S_six {x : Nat} (hx : x < 256) : Gv m_six [.retAddr 4, .int (nI x)] sh M (.int (sgIx (nI x))) M := by
  refine Sp.of (ls := [some (.retAddr 4), some (.int (nI x))]) (by decide +kernel) (Nat.le_of_ble_eq_true rfl) rfl ?_
  refine r_aloadX_n e_six_0 rfl ?_
  refine r_iload_n e_six_1 rfl ?_
  refine r_iconst e_six_2 ic_0 ?_
  refine cVX_v (i := 2) (As := [.int (nI x), .int 0]) (st := []) (by decide) e_six_3 jl_s_633 ⟨Nat.le_of_ble_eq_true rfl, Nat.le_of_ble_eq_true rfl⟩ ⟨rfl, rfl⟩ rfl (Nat.le_of_ble_eq_true rfl) (S_six2 hx) rfl r0 ?_
  exact r_ireturn e_six_6 rfl ⟨rfl, rfl⟩ ⟨rfl, rfl, rfl⟩
theorem r_ldcX {x : Nat} {tx : String} (hd : Inx k pc (.ldc idx) 2 pc') (hZ : ∀ (sz0 : Nat) (X : Nat → Nat) (s : State), Ext sz0 X s → vk_R k.1.cls idx tx (X x) s) (h : WP k Q pc' ls (.retAddr x :: st) sh M n1 n2) : WP k Q pc ls st sh M n1 n2 := by
  intro p l e s m args below meth c ad0 ad dC dI dA sz0 H locs la C h0 h1 h2 h3 h4 h5
  obtain ⟨hd, rfl⟩ := hd
  exact va_ldcS C.1 C.2.1 C.2.2.2.2.2.1 (hZ _ _ _ C.2.2.2.2.2.2.2.2.1) hd (h p l e s m args below meth c ad0 ad dC dI dA sz0 H locs la C h0 h1 h2 h3 h4 h5)

end STX
