def L_X11_sumOf_5 (mA : Nat) : Nat → Int32 → Mem → Option (Int32 × Mem)
  | 0, _, _ => none
  | n + 1, u1, M => bnd1 (R_X11_here  mA M) (fun v2 => if v2 = (43 : Int32) then (bnd1 (R_X11_here  mA M) (fun v4 => bd1 (if v4 = (45 : Int32) then (1 : Int32) else (0 : Int32)) (fun v6_0 => bnd2 (R_X11_productOf  mA (setI M 242 35 ((M.1 242 35) + (1 : Int32)))) (fun v7 M7 => bd1 (if v6_0 = 0 then (u1 + v7) else (u1 - v7)) (fun v9_0 => L_X11_sumOf_5 mA n v9_0 M7))))) else (bnd1 (R_X11_here  mA M) (fun v10 => if v10 = (45 : Int32) then (bnd1 (R_X11_here  mA M) (fun v12 => bd1 (if v12 = (45 : Int32) then (1 : Int32) else (0 : Int32)) (fun v14_0 => bnd2 (R_X11_productOf  mA (setI M 242 35 ((M.1 242 35) + (1 : Int32)))) (fun v15 M15 => bd1 (if v14_0 = 0 then (u1 + v15) else (u1 - v15)) (fun v17_0 => L_X11_sumOf_5 mA n v17_0 M15))))) else (some (u1, M)))))
theorem LW_X11_sumOf_5 {sh : List SC} {Q : Po}  {mA : Nat} {oA : Nat}  (hb1 : ModelAt sh mA oA)  : ∀ (n : Nat) (u1 : Int32) (M : Mem) (z1 : Int32) (Mz : Mem), L_X11_sumOf_5 mA n u1 M = some (z1, Mz) → WP m_X11_sumOf Q 70 [none, some (.int z1), none, none] [] sh Mz 0 0 → WP m_X11_sumOf Q 5 [some (.ref 242), some (.int u1), none, none] [] sh M 0 0 := by
  intro n
  induction n with
  | zero =>
    intro u1 M z1 Mz h hE
    rw [L_X11_sumOf_5] at h
    cases h
  | succ n ih =>
    intro u1 M z1 Mz h hE
    rw [L_X11_sumOf_5] at h
    have k0 : kd sh 242 = some (10 + 7, 0) := hb1.1
    refine r_aload_n e_X11_sumOf_5 rfl ?_
    obtain ⟨v2, w2, h⟩ := bnd1_el h
    refine cV0v e_X11_sumOf_6 cl_X11_327 ⟨Nat.le_of_ble_eq_true rfl, Nat.le_of_ble_eq_true rfl⟩ ⟨rfl, rfl⟩ k0 (Nat.le_of_ble_eq_true rfl) (S_X11_here hb1 w2) ?_
    refine r_bipush e_X11_sumOf_9 bp_43 ?_
    refine r_icmp_eq e_X11_sumOf_11 (fun c3 => ?_) (fun c3 => ?_)
    · rw [if_pos c3] at h
      refine r_aload_n e_X11_sumOf_23 rfl ?_
      obtain ⟨v4, w4, h⟩ := bnd1_el h
      refine cV0v e_X11_sumOf_24 cl_X11_327 ⟨Nat.le_of_ble_eq_true rfl, Nat.le_of_ble_eq_true rfl⟩ ⟨rfl, rfl⟩ k0 (Nat.le_of_ble_eq_true rfl) (S_X11_here hb1 w4) ?_
      refine r_bipush e_X11_sumOf_27 bp_45 ?_
      obtain ⟨v6_0, q6, h⟩ := bd1_el h
      suffices j6 : WP m_X11_sumOf _ 37 [some (.ref 242), some (.int u1), none, none] [.int v6_0] sh M 0 0 by
        refine r_icmp_ne e_X11_sumOf_29 (fun c5 => ?_) (fun c5 => ?_)
        · rw [if_neg c5] at q6
          refine r_iconst e_X11_sumOf_36 ic_0 ?_
          subst q6; exact j6
        · rw [if_pos c5] at q6
          refine r_iconst e_X11_sumOf_32 ic_1 ?_
          refine r_goto e_X11_sumOf_33 ?_
          subst q6; exact j6
      refine p_istore_n_4_2 e_X11_sumOf_37 rfl rfl ?_
      refine r_aload_n e_X11_sumOf_38 rfl ?_
      refine r_dup e_X11_sumOf_39 rfl ?_
      refine r_getI e_X11_sumOf_40 fl_X11_312 i0 k0 ?_
      refine r_iconst e_X11_sumOf_43 ic_1 ?_
      refine r_iadd e_X11_sumOf_44 ?_
      refine r_putI e_X11_sumOf_45 fl_X11_312 k0 ?_
      refine r_aload_n e_X11_sumOf_48 rfl ?_
      obtain ⟨v7, M7, w7, h⟩ := bnd2_el h
      refine cV0v e_X11_sumOf_49 cl_X11_339 ⟨Nat.le_of_ble_eq_true rfl, Nat.le_of_ble_eq_true rfl⟩ ⟨rfl, rfl⟩ k0 (Nat.le_of_ble_eq_true rfl) (S_X11_productOf hb1 w7) ?_
      refine p_istore_n_4_3 e_X11_sumOf_52 rfl rfl ?_
      refine r_iload_n e_X11_sumOf_53 rfl ?_
      obtain ⟨v9_0, q9, h⟩ := bd1_el h
      suffices j9 : WP m_X11_sumOf _ 66 [some (.ref 242), none, none, none] [.int v9_0] sh M7 0 0 by
        refine r_if_eq e_X11_sumOf_54 (fun c8 => ?_) (fun c8 => ?_)
        · rw [if_pos c8] at q9
          refine r_iload_n e_X11_sumOf_63 rfl ?_
          refine r_iload_n e_X11_sumOf_64 rfl ?_
          refine r_iadd e_X11_sumOf_65 ?_
          refine d_4_1 ?_
          refine d_4_2 ?_
          refine d_4_3 ?_
          subst q9; exact j9
        · rw [if_neg c8] at q9
          refine r_iload_n e_X11_sumOf_57 rfl ?_
          refine r_iload_n e_X11_sumOf_58 rfl ?_
          refine r_isub e_X11_sumOf_59 ?_
          refine r_goto e_X11_sumOf_60 ?_
          refine d_4_1 ?_
          refine d_4_2 ?_
          refine d_4_3 ?_
          subst q9; exact j9
      refine p_istore_n_4_1 e_X11_sumOf_66 rfl rfl ?_
      refine r_goto e_X11_sumOf_67 ?_
      exact ih _ _ _ _ h hE
    · rw [if_neg c3] at h
      refine r_aload_n e_X11_sumOf_14 rfl ?_
      obtain ⟨v10, w10, h⟩ := bnd1_el h
      refine cV0v e_X11_sumOf_15 cl_X11_327 ⟨Nat.le_of_ble_eq_true rfl, Nat.le_of_ble_eq_true rfl⟩ ⟨rfl, rfl⟩ k0 (Nat.le_of_ble_eq_true rfl) (S_X11_here hb1 w10) ?_
      refine r_bipush e_X11_sumOf_18 bp_45 ?_
      refine r_icmp_ne e_X11_sumOf_20 (fun c11 => ?_) (fun c11 => ?_)
      · rw [if_neg c11] at h
        refine d_4_0 ?_
        obtain ⟨rfl, rfl⟩ := ps2 h; exact hE
      · rw [if_pos c11] at h
        refine r_aload_n e_X11_sumOf_23 rfl ?_
        obtain ⟨v12, w12, h⟩ := bnd1_el h
        refine cV0v e_X11_sumOf_24 cl_X11_327 ⟨Nat.le_of_ble_eq_true rfl, Nat.le_of_ble_eq_true rfl⟩ ⟨rfl, rfl⟩ k0 (Nat.le_of_ble_eq_true rfl) (S_X11_here hb1 w12) ?_
        refine r_bipush e_X11_sumOf_27 bp_45 ?_
        obtain ⟨v14_0, q14, h⟩ := bd1_el h
        suffices j14 : WP m_X11_sumOf _ 37 [some (.ref 242), some (.int u1), none, none] [.int v14_0] sh M 0 0 by
          refine r_icmp_ne e_X11_sumOf_29 (fun c13 => ?_) (fun c13 => ?_)
          · rw [if_neg c13] at q14
            refine r_iconst e_X11_sumOf_36 ic_0 ?_
            subst q14; exact j14
          · rw [if_pos c13] at q14
            refine r_iconst e_X11_sumOf_32 ic_1 ?_
            refine r_goto e_X11_sumOf_33 ?_
            subst q14; exact j14
        refine p_istore_n_4_2 e_X11_sumOf_37 rfl rfl ?_
        refine r_aload_n e_X11_sumOf_38 rfl ?_
        refine r_dup e_X11_sumOf_39 rfl ?_
        refine r_getI e_X11_sumOf_40 fl_X11_312 i0 k0 ?_
        refine r_iconst e_X11_sumOf_43 ic_1 ?_
        refine r_iadd e_X11_sumOf_44 ?_
        refine r_putI e_X11_sumOf_45 fl_X11_312 k0 ?_
        refine r_aload_n e_X11_sumOf_48 rfl ?_
        obtain ⟨v15, M15, w15, h⟩ := bnd2_el h
        refine cV0v e_X11_sumOf_49 cl_X11_339 ⟨Nat.le_of_ble_eq_true rfl, Nat.le_of_ble_eq_true rfl⟩ ⟨rfl, rfl⟩ k0 (Nat.le_of_ble_eq_true rfl) (S_X11_productOf hb1 w15) ?_
        refine p_istore_n_4_3 e_X11_sumOf_52 rfl rfl ?_
        refine r_iload_n e_X11_sumOf_53 rfl ?_
        obtain ⟨v17_0, q17, h⟩ := bd1_el h
        suffices j17 : WP m_X11_sumOf _ 66 [some (.ref 242), none, none, none] [.int v17_0] sh M15 0 0 by
          refine r_if_eq e_X11_sumOf_54 (fun c16 => ?_) (fun c16 => ?_)
          · rw [if_pos c16] at q17
            refine r_iload_n e_X11_sumOf_63 rfl ?_
            refine r_iload_n e_X11_sumOf_64 rfl ?_
            refine r_iadd e_X11_sumOf_65 ?_
            refine d_4_1 ?_
            refine d_4_2 ?_
            refine d_4_3 ?_
            subst q17; exact j17
          · rw [if_neg c16] at q17
            refine r_iload_n e_X11_sumOf_57 rfl ?_
            refine r_iload_n e_X11_sumOf_58 rfl ?_
            refine r_isub e_X11_sumOf_59 ?_
            refine r_goto e_X11_sumOf_60 ?_
            refine d_4_1 ?_
            refine d_4_2 ?_
            refine d_4_3 ?_
            subst q17; exact j17
        refine p_istore_n_4_1 e_X11_sumOf_66 rfl rfl ?_
        refine r_goto e_X11_sumOf_67 ?_
        exact ih _ _ _ _ h hE
def R_X11_sumOf (mA : Nat) (M : Mem) : Option (Int32 × Mem) := bnd2 (R_X11_productOf  mA M) (fun v1 M1 => bnd2 (L_X11_sumOf_5 mA FUEL v1 M1) (fun v18_0 M18 => some (v18_0, M18)))
theorem S_X11_sumOf {sh : List SC} {M : Mem}  {mA : Nat} {oA : Nat} {v' : Int32} {M' : Mem} (hb1 : ModelAt sh mA oA)  (h : R_X11_sumOf mA M = some (v', M')) : Gv m_X11_sumOf [.ref 242] sh M (.int v') M' := by
  refine Sp.of (ls := [some (.ref 242), none, none, none]) (by decide +kernel) (Nat.le_of_ble_eq_true rfl) rfl ?_
  have k0 : kd sh 242 = some (10 + 7, 0) := hb1.1
  unfold R_X11_sumOf at h
  refine r_aload_n e_X11_sumOf_0 rfl ?_
  obtain ⟨v1, M1, w1, h⟩ := bnd2_el h
  refine cV0v e_X11_sumOf_1 cl_X11_339 ⟨Nat.le_of_ble_eq_true rfl, Nat.le_of_ble_eq_true rfl⟩ ⟨rfl, rfl⟩ k0 (Nat.le_of_ble_eq_true rfl) (S_X11_productOf hb1 w1) ?_
  refine p_istore_n_4_1 e_X11_sumOf_4 rfl rfl ?_
  obtain ⟨v18_0, M18, w18, h⟩ := bnd2_el h
  refine LW_X11_sumOf_5 hb1 _ _ _ _ _ w18 ?_
  refine r_iload_n e_X11_sumOf_70 rfl ?_
  refine r_ireturn e_X11_sumOf_71 rfl ⟨rfl, rfl⟩ ?_
  obtain ⟨rfl, rfl⟩ := ps2 h; exact ⟨rfl, rfl, rfl⟩
def R_X11_actEnds (mA : Nat) (M : Mem) : Option (Int32 × Mem) := bnd1 (R_X11_here  mA (U_X11_step  M)) (fun v1 => if v1 = (13 : Int32) then (bnd1 (if ((U_X11_step  M).1 242 37) = 0 then (ck (((U_X11_step  M).1 242 34) + (((U_X11_step  M).1 242 35) + (1 : Int32))) 4800 (some ((U_X11_step  M).1 245 (((U_X11_step  M).1 242 34) + (((U_X11_step  M).1 242 35) + (1 : Int32))).toNatClampNeg))) else (some ((U_X11_step  M).1 242 41))) (fun v31_0 => some ((0 : Int32), setI (setI (setI (U_X11_step  M) 242 35 (((U_X11_step  M).1 242 35) + (1 : Int32))) 242 41 v31_0) 242 35 ((((U_X11_step  M).1 242 35) + (1 : Int32)) + (2 : Int32))))) else (if v1 = (14 : Int32) then (ck (((U_X11_step  M).1 242 34) + (((U_X11_step  M).1 242 35) + (1 : Int32))) 4800 (bd1 ((U_X11_step  M).1 245 (((U_X11_step  M).1 242 34) + (((U_X11_step  M).1 242 35) + (1 : Int32))).toNatClampNeg) (fun v23 => bnd2 (R_X11_sumOf  mA (setI (setI (U_X11_step  M) 242 35 (((U_X11_step  M).1 242 35) + (1 : Int32))) 242 35 ((((U_X11_step  M).1 242 35) + (1 : Int32)) + (1 : Int32)))) (fun v24 M24 => bnd1 (if (M24.1 242 37) = 0 then (bnd1 (R_X11_set (M24.1 242 33) ((4 : Int32) + v23) v24 mA M24) (fun M28 => (some M28))) else (some M24)) (fun M27 => some ((0 : Int32), setI M27 242 35 ((M27.1 242 35) + (1 : Int32)))))))) else (if v1 = (18 : Int32) then (some ((1 : Int32), setI (U_X11_step  M) 242 35 (((U_X11_step  M).1 242 35) + (1 : Int32)))) else (bnd2 (R_X11_sumOf  mA (setI (U_X11_step  M) 242 35 (((U_X11_step  M).1 242 35) + (1 : Int32)))) (fun v5 M5 => bnd2 (R_X11_sumOf  mA M5) (fun v6 M6 => bnd2 (if v1 = (17 : Int32) then (bnd2 (R_X11_sumOf  mA M6) (fun v10 M10 => (some (v10, M10)))) else (some ((1 : Int32), M6))) (fun v9_0 M9 => if (M9.1 242 37) = 0 then (bnd2 (if v1 = (16 : Int32) then (bnd1 (R_X11_of (M9.1 242 33) (0 : Int32) mA M9) (fun v15 => bd1 (v5 - (V_X11_seenX v15 M9)) (fun v16 => bnd1 (R_X11_of (M9.1 242 33) (1 : Int32) mA M9) (fun v17 => bd1 (v6 - (V_X11_seenY v17 M9)) (fun v18 => (some (v16, v18))))))) else (some (v5, v6))) (fun v14_0 v14_1 => bd1 (if v1 = (17 : Int32) then (2 : Int32) else (1 : Int32)) (fun v20_0 => bnd1 (R_X11_goes v20_0 v14_0 v14_1 v9_0 mA M9) (fun M21 => some ((1 : Int32), M21))))) else (some ((1 : Int32), M9)))))))))
theorem S_X11_actEnds {sh : List SC} {M : Mem}  {mA : Nat} {oA : Nat} {v' : Int32} {M' : Mem} (hb1 : ModelAt sh mA oA)  (h : R_X11_actEnds mA M = some (v', M')) : Gv m_X11_actEnds [.ref 242] sh M (.int v') M' := by
  refine Sp.of (ls := [some (.ref 242), none, none, none, none]) (by decide +kernel) (Nat.le_of_ble_eq_true rfl) rfl ?_
  have k0 : kd sh 242 = some (10 + 7, 0) := hb1.1
  have k1 : rf sh 242 10 = some 245 := hb1.2.2.2.1
  have k2 : kd sh 245 = some (0, 4800) := hb1.2.2.2.2.2.2.2.2.2.2.2.2.2.2.2.2.2.2.2.2.2.2.2.2.2.2.2.2.2.1
  unfold R_X11_actEnds at h
  refine r_aload_n e_X11_actEnds_0 rfl ?_
  refine cV0u e_X11_actEnds_1 cl_X11_324 ⟨Nat.le_of_ble_eq_true rfl, Nat.le_of_ble_eq_true rfl⟩ ⟨rfl, rfl⟩ k0 (Nat.le_of_ble_eq_true rfl) (S_X11_step hb1) ?_
  refine r_aload_n e_X11_actEnds_4 rfl ?_
  obtain ⟨v1, w1, h⟩ := bnd1_el h
  refine cV0v e_X11_actEnds_5 cl_X11_327 ⟨Nat.le_of_ble_eq_true rfl, Nat.le_of_ble_eq_true rfl⟩ ⟨rfl, rfl⟩ k0 (Nat.le_of_ble_eq_true rfl) (S_X11_here hb1 w1) ?_
  refine p_istore_n_5_1 e_X11_actEnds_8 rfl rfl ?_
  refine r_aload_n e_X11_actEnds_9 rfl ?_
  refine r_dup e_X11_actEnds_10 rfl ?_
  refine r_getI e_X11_actEnds_11 fl_X11_312 i0 k0 ?_
  refine r_iconst e_X11_actEnds_14 ic_1 ?_
  refine r_iadd e_X11_actEnds_15 ?_
  refine r_putI e_X11_actEnds_16 fl_X11_312 k0 ?_
  refine r_iload_n e_X11_actEnds_19 rfl ?_
  refine r_bipush e_X11_actEnds_20 bp_13 ?_
  refine r_icmp_ne e_X11_actEnds_22 (fun c2 => ?_) (fun c2 => ?_)
  · rw [if_neg c2] at h
    refine r_iload_n e_X11_actEnds_69 rfl ?_
    refine r_bipush e_X11_actEnds_70 bp_14 ?_
    refine r_icmp_ne e_X11_actEnds_72 (fun c3 => ?_) (fun c3 => ?_)
    · rw [if_neg c3] at h
      refine r_iload_n e_X11_actEnds_136 rfl ?_
      refine r_bipush e_X11_actEnds_137 bp_18 ?_
      refine r_icmp_ne e_X11_actEnds_139 (fun c4 => ?_) (fun c4 => ?_)
      · rw [if_neg c4] at h
        refine r_aload_n e_X11_actEnds_144 rfl ?_
        obtain ⟨v5, M5, w5, h⟩ := bnd2_el h
        refine cV0v e_X11_actEnds_145 cl_X11_342 ⟨Nat.le_of_ble_eq_true rfl, Nat.le_of_ble_eq_true rfl⟩ ⟨rfl, rfl⟩ k0 (Nat.le_of_ble_eq_true rfl) (S_X11_sumOf hb1 w5) ?_
        refine p_istore_n_5_2 e_X11_actEnds_148 rfl rfl ?_
        refine r_aload_n e_X11_actEnds_149 rfl ?_
        obtain ⟨v6, M6, w6, h⟩ := bnd2_el h
        refine cV0v e_X11_actEnds_150 cl_X11_342 ⟨Nat.le_of_ble_eq_true rfl, Nat.le_of_ble_eq_true rfl⟩ ⟨rfl, rfl⟩ k0 (Nat.le_of_ble_eq_true rfl) (S_X11_sumOf hb1 w6) ?_
        refine p_istore_n_5_3 e_X11_actEnds_153 rfl rfl ?_
        refine r_iload_n e_X11_actEnds_154 rfl ?_
        refine r_bipush e_X11_actEnds_155 bp_17 ?_
        obtain ⟨K9, hK9, h⟩ := bnd2_in h
        suffices j9 : ∀ v9_0 M9, K9 (v9_0, M9) = some (v', M') → WP m_X11_actEnds _ 168 [some (.ref 242), some (.int v1), some (.int v5), some (.int v6), none] [.int v9_0] sh M9 0 0 by
          refine r_icmp_ne e_X11_actEnds_157 (fun c7 => ?_) (fun c7 => ?_)
          · rw [if_neg c7] at h
            refine r_iconst e_X11_actEnds_167 ic_1 ?_
            exact j9 _ _ h
          · rw [if_pos c7] at h
            refine r_aload_n e_X11_actEnds_160 rfl ?_
            obtain ⟨v10, M10, w10, h⟩ := bnd2_elK h
            refine cV0v e_X11_actEnds_161 cl_X11_342 ⟨Nat.le_of_ble_eq_true rfl, Nat.le_of_ble_eq_true rfl⟩ ⟨rfl, rfl⟩ k0 (Nat.le_of_ble_eq_true rfl) (S_X11_sumOf hb1 w10) ?_
            refine r_goto e_X11_actEnds_164 ?_
            exact j9 _ _ h
        intro v9_0 M9 h
        rw [hK9] at h
        refine p_istore_5_4 e_X11_actEnds_168 rfl rfl ?_
        refine r_aload_n e_X11_actEnds_170 rfl ?_
        refine r_getI e_X11_actEnds_171 fl_X11_305 i3 k0 ?_
        refine r_if_eq e_X11_actEnds_174 (fun c11 => ?_) (fun c11 => ?_)
        · rw [if_pos c11] at h
          refine r_iload_n e_X11_actEnds_179 rfl ?_
          refine r_bipush e_X11_actEnds_180 bp_16 ?_
          obtain ⟨K14, hK14, h⟩ := bnd2_in h
          suffices j14 : ∀ v14_0 v14_1, K14 (v14_0, v14_1) = some (v', M') → WP m_X11_actEnds _ 217 [some (.ref 242), some (.int v1), some (.int v14_0), some (.int v14_1), some (.int v9_0)] [] sh M9 0 0 by
            refine r_icmp_ne e_X11_actEnds_182 (fun c12 => ?_) (fun c12 => ?_)
            · rw [if_neg c12] at h
              exact j14 _ _ h
            · rw [if_pos c12] at h
              refine r_iload_n e_X11_actEnds_185 rfl ?_
              refine r_aload_n e_X11_actEnds_186 rfl ?_
              refine r_aload_n e_X11_actEnds_187 rfl ?_
              refine r_aload_n e_X11_actEnds_188 rfl ?_
              refine r_getI e_X11_actEnds_189 fl_X11_315 i0 k0 ?_
              refine r_iconst e_X11_actEnds_192 ic_0 ?_
              obtain ⟨v15, w15, h⟩ := bnd1_elK h
              refine cV2v e_X11_actEnds_193 cl_X11_252 ⟨Nat.le_of_ble_eq_true rfl, Nat.le_of_ble_eq_true rfl⟩ ⟨rfl, rfl⟩ k0 (Nat.le_of_ble_eq_true rfl) (S_X11_of hb1 w15) ?_
              refine cV1v e_X11_actEnds_196 cl_X11_318 ⟨Nat.le_of_ble_eq_true rfl, Nat.le_of_ble_eq_true rfl⟩ ⟨rfl, rfl⟩ k0 (Nat.le_of_ble_eq_true rfl) (S_X11_seenX hb1) ?_
              refine r_isub e_X11_actEnds_199 ?_
              obtain ⟨v16, e16, h⟩ := bd1_elK h
              rw [e16]
              refine p_istore_n_5_2 e_X11_actEnds_200 rfl rfl ?_
              refine r_iload_n e_X11_actEnds_201 rfl ?_
              refine r_aload_n e_X11_actEnds_202 rfl ?_
              refine r_aload_n e_X11_actEnds_203 rfl ?_
              refine r_aload_n e_X11_actEnds_204 rfl ?_
              refine r_getI e_X11_actEnds_205 fl_X11_315 i0 k0 ?_
              refine r_iconst e_X11_actEnds_208 ic_1 ?_
              obtain ⟨v17, w17, h⟩ := bnd1_elK h
              refine cV2v e_X11_actEnds_209 cl_X11_252 ⟨Nat.le_of_ble_eq_true rfl, Nat.le_of_ble_eq_true rfl⟩ ⟨rfl, rfl⟩ k0 (Nat.le_of_ble_eq_true rfl) (S_X11_of hb1 w17) ?_
              refine cV1v e_X11_actEnds_212 cl_X11_321 ⟨Nat.le_of_ble_eq_true rfl, Nat.le_of_ble_eq_true rfl⟩ ⟨rfl, rfl⟩ k0 (Nat.le_of_ble_eq_true rfl) (S_X11_seenY hb1) ?_
              refine r_isub e_X11_actEnds_215 ?_
              obtain ⟨v18, e18, h⟩ := bd1_elK h
              rw [e18]
              refine p_istore_n_5_3 e_X11_actEnds_216 rfl rfl ?_
              exact j14 _ _ h
          intro v14_0 v14_1 h
          rw [hK14] at h
          refine r_aload_n e_X11_actEnds_217 rfl ?_
          refine r_iload_n e_X11_actEnds_218 rfl ?_
          refine r_bipush e_X11_actEnds_219 bp_17 ?_
          obtain ⟨v20_0, q20, h⟩ := bd1_el h
          suffices j20 : WP m_X11_actEnds _ 229 [none, none, some (.int v14_0), some (.int v14_1), some (.int v9_0)] [.int v20_0, .ref 242] sh M9 0 0 by
            refine r_icmp_ne e_X11_actEnds_221 (fun c19 => ?_) (fun c19 => ?_)
            · rw [if_neg c19] at q20
              refine r_iconst e_X11_actEnds_228 ic_1 ?_
              refine d_5_0 ?_
              refine d_5_1 ?_
              subst q20; exact j20
            · rw [if_pos c19] at q20
              refine r_iconst e_X11_actEnds_224 ic_2 ?_
              refine r_goto e_X11_actEnds_225 ?_
              refine d_5_0 ?_
              refine d_5_1 ?_
              subst q20; exact j20
          refine r_iload_n e_X11_actEnds_229 rfl ?_
          refine r_iload_n e_X11_actEnds_230 rfl ?_
          refine r_iload e_X11_actEnds_231 rfl ?_
          obtain ⟨M21, w21, h⟩ := bnd1_el h
          refine cV4u e_X11_actEnds_233 cl_X11_351 ⟨Nat.le_of_ble_eq_true rfl, Nat.le_of_ble_eq_true rfl⟩ ⟨rfl, rfl⟩ k0 (Nat.le_of_ble_eq_true rfl) (S_X11_goes hb1 w21) ?_
          refine r_iconst e_X11_actEnds_236 ic_1 ?_
          refine r_zreturn e_X11_actEnds_237 rfl ⟨rfl, rfl⟩ (by first | exact Or.inl rfl | exact Or.inr rfl) ?_
          obtain ⟨rfl, rfl⟩ := ps2 h; exact ⟨rfl, rfl, rfl⟩
        · rw [if_neg c11] at h
          refine r_iconst e_X11_actEnds_177 ic_1 ?_
          refine r_zreturn e_X11_actEnds_178 rfl ⟨rfl, rfl⟩ (by first | exact Or.inl rfl | exact Or.inr rfl) ?_
          obtain ⟨rfl, rfl⟩ := ps2 h; exact ⟨rfl, rfl, rfl⟩
      · rw [if_pos c4] at h
        refine r_iconst e_X11_actEnds_142 ic_1 ?_
        refine r_zreturn e_X11_actEnds_143 rfl ⟨rfl, rfl⟩ (by first | exact Or.inl rfl | exact Or.inr rfl) ?_
        obtain ⟨rfl, rfl⟩ := ps2 h; exact ⟨rfl, rfl, rfl⟩
    · rw [if_pos c3] at h
      refine r_aload_n e_X11_actEnds_75 rfl ?_
      refine r_getR e_X11_actEnds_76 fl_X11_111 k0 k1 ?_
      refine r_aload_n e_X11_actEnds_79 rfl ?_
      refine r_getIe e_X11_actEnds_80 fl_X11_309 i0 k0 (gs_nI (by decide)) ?_
      refine r_aload_n e_X11_actEnds_83 rfl ?_
      refine r_getIe e_X11_actEnds_84 fl_X11_312 i0 k0 gs_eI ?_
      refine r_iadd e_X11_actEnds_87 ?_
      obtain ⟨b22, h⟩ := ck_el h
      refine r_ialoade (v := ((U_X11_step  M).1 245 (((U_X11_step  M).1 242 34) + (((U_X11_step  M).1 242 35) + (1 : Int32))).toNatClampNeg)) e_X11_actEnds_88 k2 b22 (gs_aI (by omega)) ?_
      obtain ⟨v23, e23, h⟩ := bd1_el h
      rw [e23]
      refine p_istore_n_5_2 e_X11_actEnds_89 rfl rfl ?_
      refine r_aload_n e_X11_actEnds_90 rfl ?_
      refine r_dup e_X11_actEnds_91 rfl ?_
      refine r_getIe e_X11_actEnds_92 fl_X11_312 i0 k0 gs_eI ?_
      refine r_iconst e_X11_actEnds_95 ic_1 ?_
      refine r_iadd e_X11_actEnds_96 ?_
      refine r_putI e_X11_actEnds_97 fl_X11_312 k0 ?_
      refine r_aload_n e_X11_actEnds_100 rfl ?_
      obtain ⟨v24, M24, w24, h⟩ := bnd2_el h
      refine cV0v e_X11_actEnds_101 cl_X11_342 ⟨Nat.le_of_ble_eq_true rfl, Nat.le_of_ble_eq_true rfl⟩ ⟨rfl, rfl⟩ k0 (Nat.le_of_ble_eq_true rfl) (S_X11_sumOf hb1 w24) ?_
      refine p_istore_n_5_3 e_X11_actEnds_104 rfl rfl ?_
      refine r_aload_n e_X11_actEnds_105 rfl ?_
      refine r_getI e_X11_actEnds_106 fl_X11_305 i3 k0 ?_
      obtain ⟨K27, hK27, h⟩ := bnd1_in h
      suffices j27 : ∀ M27, K27 M27 = some (v', M') → WP m_X11_actEnds _ 124 [some (.ref 242), none, none, none, none] [] sh M27 0 0 by
        refine r_if_ne e_X11_actEnds_109 (fun c25 => ?_) (fun c25 => ?_)
        · rw [if_neg c25] at h
          refine d_5_1 ?_
          refine d_5_2 ?_
          refine d_5_3 ?_
          exact j27 _ h
        · rw [if_pos c25] at h
          refine r_aload_n e_X11_actEnds_112 rfl ?_
          refine r_aload_n e_X11_actEnds_113 rfl ?_
          refine r_getI e_X11_actEnds_114 fl_X11_315 i0 k0 ?_
          refine r_iconst e_X11_actEnds_117 ic_4 ?_
          refine r_iload_n e_X11_actEnds_118 rfl ?_
          refine r_iadd e_X11_actEnds_119 ?_
          refine r_iload_n e_X11_actEnds_120 rfl ?_
          obtain ⟨M28, w28, h⟩ := bnd1_elK h
          refine cV3u e_X11_actEnds_121 cl_X11_282 ⟨Nat.le_of_ble_eq_true rfl, Nat.le_of_ble_eq_true rfl⟩ ⟨rfl, rfl⟩ k0 (Nat.le_of_ble_eq_true rfl) (S_X11_set hb1 w28) ?_
          refine d_5_1 ?_
          refine d_5_2 ?_
          refine d_5_3 ?_
          exact j27 _ h
      intro M27 h
      rw [hK27] at h
      refine r_aload_n e_X11_actEnds_124 rfl ?_
      refine r_dup e_X11_actEnds_125 rfl ?_
      refine r_getI e_X11_actEnds_126 fl_X11_312 i0 k0 ?_
      refine r_iconst e_X11_actEnds_129 ic_1 ?_
      refine r_iadd e_X11_actEnds_130 ?_
      refine r_putI e_X11_actEnds_131 fl_X11_312 k0 ?_
      refine r_iconst e_X11_actEnds_134 ic_0 ?_
      refine r_zreturn e_X11_actEnds_135 rfl ⟨rfl, rfl⟩ (by first | exact Or.inl rfl | exact Or.inr rfl) ?_
      obtain ⟨rfl, rfl⟩ := ps2 h; exact ⟨rfl, rfl, rfl⟩
  · rw [if_pos c2] at h
    refine r_aload_n e_X11_actEnds_25 rfl ?_
    refine r_aload_n e_X11_actEnds_26 rfl ?_
    refine r_getIe e_X11_actEnds_27 fl_X11_305 i3 k0 (gs_nI (by decide)) ?_
    obtain ⟨K31, hK31, h⟩ := bnd1_in h
    suffices j31 : ∀ v31_0, K31 v31_0 = some (v', M') → WP m_X11_actEnds _ 54 [some (.ref 242), none, none, none, none] [.int v31_0, .ref 242] sh (setI (U_X11_step  M) 242 35 (((U_X11_step  M).1 242 35) + (1 : Int32))) 0 0 by
      refine r_if_eq e_X11_actEnds_30 (fun c29 => ?_) (fun c29 => ?_)
      · rw [if_pos c29] at h
        refine r_aload_n e_X11_actEnds_40 rfl ?_
        refine r_getR e_X11_actEnds_41 fl_X11_111 k0 k1 ?_
        refine r_aload_n e_X11_actEnds_44 rfl ?_
        refine r_getIe e_X11_actEnds_45 fl_X11_309 i0 k0 (gs_nI (by decide)) ?_
        refine r_aload_n e_X11_actEnds_48 rfl ?_
        refine r_getIe e_X11_actEnds_49 fl_X11_312 i0 k0 gs_eI ?_
        refine r_iadd e_X11_actEnds_52 ?_
        obtain ⟨b32, h⟩ := ck_elK h
        refine r_ialoade (v := ((U_X11_step  M).1 245 (((U_X11_step  M).1 242 34) + (((U_X11_step  M).1 242 35) + (1 : Int32))).toNatClampNeg)) e_X11_actEnds_53 k2 b32 (gs_aI (by omega)) ?_
        refine d_5_1 ?_
        exact j31 _ h
      · rw [if_neg c29] at h
        refine r_aload_n e_X11_actEnds_33 rfl ?_
        refine r_getIe e_X11_actEnds_34 fl_X11_348 i0 k0 (gs_nI (by decide)) ?_
        refine r_goto e_X11_actEnds_37 ?_
        refine d_5_1 ?_
        exact j31 _ h
    intro v31_0 h
    rw [hK31] at h
    refine r_putI e_X11_actEnds_54 fl_X11_348 k0 ?_
    refine r_aload_n e_X11_actEnds_57 rfl ?_
    refine r_dup e_X11_actEnds_58 rfl ?_
    refine r_getIe e_X11_actEnds_59 fl_X11_312 i0 k0 ((gs_nI (by decide)).trans gs_eI) ?_
    refine r_iconst e_X11_actEnds_62 ic_2 ?_
    refine r_iadd e_X11_actEnds_63 ?_
    refine r_putI e_X11_actEnds_64 fl_X11_312 k0 ?_
    refine r_iconst e_X11_actEnds_67 ic_0 ?_
    refine r_zreturn e_X11_actEnds_68 rfl ⟨rfl, rfl⟩ (by first | exact Or.inl rfl | exact Or.inr rfl) ?_
    obtain ⟨rfl, rfl⟩ := ps2 h; exact ⟨rfl, rfl, rfl⟩
def R_X11_scored (x1 : Int32) (mA : Nat) (M : Mem) : Option (Mem) := bd1 ((1 : Int32) - x1) (fun v1 => ck ((4 : Int32) + v1) 212 (ck ((4 : Int32) + v1) 212 (bnd1 (if (20 : Int32) ≤ ((setI M mA ((4 : Int32) + v1).toNatClampNeg ((M.1 mA ((4 : Int32) + v1).toNatClampNeg) + (1 : Int32))).1 mA 12) then (some (setI M mA ((4 : Int32) + v1).toNatClampNeg ((M.1 mA ((4 : Int32) + v1).toNatClampNeg) + (1 : Int32)))) else (ck ((24 : Int32) + ((setI M mA ((4 : Int32) + v1).toNatClampNeg ((M.1 mA ((4 : Int32) + v1).toNatClampNeg) + (1 : Int32))).1 mA 12)) 212 (bd1 (setI (setI M mA ((4 : Int32) + v1).toNatClampNeg ((M.1 mA ((4 : Int32) + v1).toNatClampNeg) + (1 : Int32))) mA ((24 : Int32) + ((setI M mA ((4 : Int32) + v1).toNatClampNeg ((M.1 mA ((4 : Int32) + v1).toNatClampNeg) + (1 : Int32))).1 mA 12)).toNatClampNeg (((setI M mA ((4 : Int32) + v1).toNatClampNeg ((M.1 mA ((4 : Int32) + v1).toNatClampNeg) + (1 : Int32))).1 mA 3) + ((1000 : Int32) * v1))) (fun M8 => (some (setI M8 mA 12 ((M8.1 mA 12) + (1 : Int32)))))))) (fun M6 => bnd1 (R_X11_kickOff ((M6.1 mA 3) + (1 : Int32)) mA M6) (fun M9 => some M9)))))
theorem S_X11_scored {sh : List SC} {M : Mem} {x1 : Int32} {mA : Nat} {oA : Nat} {M' : Mem} (hb1 : ModelAt sh mA oA)  (h : R_X11_scored x1 mA M = some M') : Gu m_X11_scored [.ref 242, .int x1] sh M M' := by
  refine Sp.of (ls := [some (.ref 242), some (.int x1), none]) (by decide +kernel) (Nat.le_of_ble_eq_true rfl) rfl ?_
  have k0 : kd sh 242 = some (10 + 7, 0) := hb1.1
  have k1 : rf sh 242 27 = some mA := hb1.2.2.2.2.2.2.2.2.2.2.2.2.2.2.2.2.2.1
  have k2 : kd sh mA = some (0, 212) := hb1.2.2.2.2.2.2.2.2.2.2.2.2.2.2.2.2.2.2.2.2.2.2.2.2.2.2.2.2.2.2.2.2.2.2.2.2.2.2.2.2.2.2.2.2.2.2.2.2.2.2.2.1
  unfold R_X11_scored at h
  refine r_iconst e_X11_scored_0 ic_1 ?_
  refine r_iload_n e_X11_scored_1 rfl ?_
  refine r_isub e_X11_scored_2 ?_
  obtain ⟨v1, e1, h⟩ := bd1_el h
  rw [e1]
  refine p_istore_n_3_2 e_X11_scored_3 rfl rfl ?_
  refine r_aload_n e_X11_scored_4 rfl ?_
  refine r_getR e_X11_scored_5 fl_X11_212 k0 k1 ?_
  refine r_iconst e_X11_scored_8 ic_4 ?_
  refine r_iload_n e_X11_scored_9 rfl ?_
  refine r_iadd e_X11_scored_10 ?_
  refine r_dup2 e_X11_scored_11 rfl rfl ?_
  obtain ⟨b2, h⟩ := ck_el h
  refine r_iaload e_X11_scored_12 k2 b2 ?_
  refine r_iconst e_X11_scored_13 ic_1 ?_
  refine r_iadd e_X11_scored_14 ?_
  obtain ⟨b3, h⟩ := ck_el h
  refine r_iastore e_X11_scored_15 k2 b3 ?_
  refine r_aload_n e_X11_scored_16 rfl ?_
  refine r_getR e_X11_scored_17 fl_X11_212 k0 k1 ?_
  refine r_bipush e_X11_scored_20 bp_12 ?_
  refine r_ialoade (v := ((setI M mA ((4 : Int32) + v1).toNatClampNeg ((M.1 mA ((4 : Int32) + v1).toNatClampNeg) + (1 : Int32))).1 mA 12)) e_X11_scored_22 k2 (by unfold vp_in; decide) (show (setI M mA ((4 : Int32) + v1).toNatClampNeg ((M.1 mA ((4 : Int32) + v1).toNatClampNeg) + (1 : Int32))).1 mA (12 : Int32).toNatClampNeg = (setI M mA ((4 : Int32) + v1).toNatClampNeg ((M.1 mA ((4 : Int32) + v1).toNatClampNeg) + (1 : Int32))).1 mA 12 by rw [show (12 : Int32).toNatClampNeg = 12 from rfl]) ?_
  refine r_bipush e_X11_scored_23 bp_20 ?_
  obtain ⟨K6, hK6, h⟩ := bnd1_in h
  suffices j6 : ∀ M6, K6 M6 = some M' → WP m_X11_scored _ 66 [some (.ref 242), none, none] [] sh M6 0 0 by
    refine r_icmp_ge e_X11_scored_25 (fun c4 => ?_) (fun c4 => ?_)
    · rw [if_pos c4] at h
      refine d_3_1 ?_
      refine d_3_2 ?_
      exact j6 _ h
    · rw [if_neg c4] at h
      refine r_aload_n e_X11_scored_28 rfl ?_
      refine r_getR e_X11_scored_29 fl_X11_212 k0 k1 ?_
      refine r_bipush e_X11_scored_32 bp_24 ?_
      refine r_aload_n e_X11_scored_34 rfl ?_
      refine r_getR e_X11_scored_35 fl_X11_212 k0 k1 ?_
      refine r_bipush e_X11_scored_38 bp_12 ?_
      refine r_ialoade (v := ((setI M mA ((4 : Int32) + v1).toNatClampNeg ((M.1 mA ((4 : Int32) + v1).toNatClampNeg) + (1 : Int32))).1 mA 12)) e_X11_scored_40 k2 (by unfold vp_in; decide) (show (setI M mA ((4 : Int32) + v1).toNatClampNeg ((M.1 mA ((4 : Int32) + v1).toNatClampNeg) + (1 : Int32))).1 mA (12 : Int32).toNatClampNeg = (setI M mA ((4 : Int32) + v1).toNatClampNeg ((M.1 mA ((4 : Int32) + v1).toNatClampNeg) + (1 : Int32))).1 mA 12 by rw [show (12 : Int32).toNatClampNeg = 12 from rfl]) ?_
      refine r_iadd e_X11_scored_41 ?_
      refine r_aload_n e_X11_scored_42 rfl ?_
      refine r_getR e_X11_scored_43 fl_X11_212 k0 k1 ?_
      refine r_iconst e_X11_scored_46 ic_3 ?_
      refine r_ialoade (v := ((setI M mA ((4 : Int32) + v1).toNatClampNeg ((M.1 mA ((4 : Int32) + v1).toNatClampNeg) + (1 : Int32))).1 mA 3)) e_X11_scored_47 k2 (by unfold vp_in; decide) (show (setI M mA ((4 : Int32) + v1).toNatClampNeg ((M.1 mA ((4 : Int32) + v1).toNatClampNeg) + (1 : Int32))).1 mA (3 : Int32).toNatClampNeg = (setI M mA ((4 : Int32) + v1).toNatClampNeg ((M.1 mA ((4 : Int32) + v1).toNatClampNeg) + (1 : Int32))).1 mA 3 by rw [show (3 : Int32).toNatClampNeg = 3 from rfl]) ?_
      refine r_sipush e_X11_scored_48 sp_1000 ?_
      refine r_iload_n e_X11_scored_51 rfl ?_
      refine r_imul e_X11_scored_52 ?_
      refine r_iadd e_X11_scored_53 ?_
      obtain ⟨b7, h⟩ := ck_elK h
      refine r_iastore e_X11_scored_54 k2 b7 ?_
      obtain ⟨M8, e8, h⟩ := bd1_elK h
      rw [e8]
      refine r_aload_n e_X11_scored_55 rfl ?_
      refine r_getR e_X11_scored_56 fl_X11_212 k0 k1 ?_
      refine r_bipush e_X11_scored_59 bp_12 ?_
      refine r_dup2 e_X11_scored_61 rfl rfl ?_
      refine r_ialoade (v := (M8.1 mA 12)) e_X11_scored_62 k2 (by unfold vp_in; decide) (show M8.1 mA (12 : Int32).toNatClampNeg = M8.1 mA 12 by rw [show (12 : Int32).toNatClampNeg = 12 from rfl]) ?_
      refine r_iconst e_X11_scored_63 ic_1 ?_
      refine r_iadd e_X11_scored_64 ?_
      refine r_iastore e_X11_scored_65 k2 (by unfold vp_in; decide) ?_
      rw [show (12 : Int32).toNatClampNeg = 12 from rfl]
      refine d_3_1 ?_
      refine d_3_2 ?_
      exact j6 _ h
  intro M6 h
  rw [hK6] at h
  refine r_aload_n e_X11_scored_66 rfl ?_
  refine r_aload_n e_X11_scored_67 rfl ?_
  refine r_getR e_X11_scored_68 fl_X11_212 k0 k1 ?_
  refine r_iconst e_X11_scored_71 ic_3 ?_
  refine r_ialoade (v := (M6.1 mA 3)) e_X11_scored_72 k2 (by unfold vp_in; decide) (show M6.1 mA (3 : Int32).toNatClampNeg = M6.1 mA 3 by rw [show (3 : Int32).toNatClampNeg = 3 from rfl]) ?_
  refine r_iconst e_X11_scored_73 ic_1 ?_
  refine r_iadd e_X11_scored_74 ?_
  obtain ⟨M9, w9, h⟩ := bnd1_el h
  refine cV1u e_X11_scored_75 cl_X11_295 ⟨Nat.le_of_ble_eq_true rfl, Nat.le_of_ble_eq_true rfl⟩ ⟨rfl, rfl⟩ k0 (Nat.le_of_ble_eq_true rfl) (S_X11_kickOff hb1 w9) ?_
  refine r_return e_X11_scored_78 rfl ⟨rfl, rfl⟩ ?_
  obtain rfl := Option.some.inj h; exact ⟨rfl, rfl, rfl⟩
def R_X10_begin (x1 : Int32) (x2 : Int32) (M : Mem) : Option (Int32 × Mem) := if (V_X10_isTeam x1 M) = 0 then (some ((V_X10_finding (-1001 : Int32) M), U_X10_finding (-1001 : Int32) M)) else (if (V_X10_isTeam x2 M) = 0 then (some ((V_X10_finding (-1001 : Int32) M), U_X10_finding (-1001 : Int32) M)) else (bnd1 (R_X2_open 122 x1 x2 M) (fun M3 => some ((1 : Int32), M3))))
theorem S_X10_begin {sh : List SC} {M : Mem} {x1 : Int32} {x2 : Int32}  {v' : Int32} {M' : Mem} (hb1 : PitchAt sh)  (h : R_X10_begin x1 x2 M = some (v', M')) : Gv m_X10_begin [.ref 0, .int x1, .int x2] sh M (.int v') M' := by
  refine Sp.of (ls := [some (.ref 0), some (.int x1), some (.int x2)]) (by decide +kernel) (Nat.le_of_ble_eq_true rfl) rfl ?_
  have k0 : kd sh 0 = some (9 + 7, 0) := hb1.1
  have k1 : rf sh 0 4 = some 122 := hb1.2.2.2.2.2.1
  have k2 : kd sh 122 = some (2 + 7, 0) := hb1.2.2.2.2.2.2.2.2.2.2.2.2.2.2.2.2.1.1
  unfold R_X10_begin at h
  refine r_iload_n e_X10_begin_0 rfl ?_
  refine cS1v e_X10_begin_1 cl_X10_89 ⟨Nat.le_of_ble_eq_true rfl, Nat.le_of_ble_eq_true rfl⟩ ⟨rfl, rfl⟩  (Nat.le_of_ble_eq_true rfl) (S_X10_isTeam ) ?_
  refine r_if_eq e_X10_begin_4 (fun c1 => ?_) (fun c1 => ?_)
  · rw [if_pos c1] at h
    refine r_aload_n e_X10_begin_14 rfl ?_
    refine r_sipush e_X10_begin_15 sp_m1001 ?_
    refine cV1v e_X10_begin_18 cl_X10_70 ⟨Nat.le_of_ble_eq_true rfl, Nat.le_of_ble_eq_true rfl⟩ ⟨rfl, rfl⟩ k0 (Nat.le_of_ble_eq_true rfl) (S_X10_finding hb1) ?_
    refine r_ireturn e_X10_begin_21 rfl ⟨rfl, rfl⟩ ?_
    obtain ⟨rfl, rfl⟩ := ps2 h; exact ⟨rfl, rfl, rfl⟩
  · rw [if_neg c1] at h
    refine r_iload_n e_X10_begin_7 rfl ?_
    refine cS1v e_X10_begin_8 cl_X10_89 ⟨Nat.le_of_ble_eq_true rfl, Nat.le_of_ble_eq_true rfl⟩ ⟨rfl, rfl⟩  (Nat.le_of_ble_eq_true rfl) (S_X10_isTeam ) ?_
    refine r_if_ne e_X10_begin_11 (fun c2 => ?_) (fun c2 => ?_)
    · rw [if_neg c2] at h
      refine r_aload_n e_X10_begin_22 rfl ?_
      refine r_getR e_X10_begin_23 fl_X10_63 k0 k1 ?_
      refine r_iload_n e_X10_begin_26 rfl ?_
      refine r_iload_n e_X10_begin_27 rfl ?_
      obtain ⟨M3, w3, h⟩ := bnd1_el h
      refine cV2u e_X10_begin_28 cl_X10_111 ⟨Nat.le_of_ble_eq_true rfl, Nat.le_of_ble_eq_true rfl⟩ ⟨rfl, rfl⟩ k2 (Nat.le_of_ble_eq_true rfl) (S_X2_open hb1.2.2.2.2.2.2.2.2.2.2.2.2.2.2.2.2.1 w3) ?_
      refine r_iconst e_X10_begin_31 ic_1 ?_
      refine r_ireturn e_X10_begin_32 rfl ⟨rfl, rfl⟩ ?_
      obtain ⟨rfl, rfl⟩ := ps2 h; exact ⟨rfl, rfl, rfl⟩
    · rw [if_pos c2] at h
      refine r_aload_n e_X10_begin_14 rfl ?_
      refine r_sipush e_X10_begin_15 sp_m1001 ?_
      refine cV1v e_X10_begin_18 cl_X10_70 ⟨Nat.le_of_ble_eq_true rfl, Nat.le_of_ble_eq_true rfl⟩ ⟨rfl, rfl⟩ k0 (Nat.le_of_ble_eq_true rfl) (S_X10_finding hb1) ?_
      refine r_ireturn e_X10_begin_21 rfl ⟨rfl, rfl⟩ ?_
      obtain ⟨rfl, rfl⟩ := ps2 h; exact ⟨rfl, rfl, rfl⟩
def L_X2_play_39 (a : Nat) (x1 : Int32) (w3 : Int32) (w4 : Int32) : Nat → Nat → Mem → Option (Mem)
  | 0, i39, M => some M
  | n + 1, i39, M => bd1 (if w4 = 0 then ((9 : Int32) - (nI i39)) else (nI i39)) (fun v5_0 => bnd1 (R_X2_think a v5_0 M) (fun M6 => L_X2_play_39 a x1 w3 w4 n (i39 + 1) M6))
theorem LW_X2_play_39 {sh : List SC} {Q : Po} {a : Nat} {x1 : Int32}  {w3 : Int32} {w4 : Int32} (hb1 : MatchAt sh a)  : ∀ (n i39 : Nat) (M : Mem) (Mz : Mem), i39 + n = 10 → L_X2_play_39 a x1 w3 w4 n i39 M = some Mz → WP m_X2_play Q 71 [some (.ref a), some (.int x1), none, some (.int w3), some (.int w4), none] [] sh Mz 0 0 → WP m_X2_play Q 39 [some (.ref a), some (.int x1), none, some (.int w3), some (.int w4), some (.int (nI i39))] [] sh M 0 0 := by
  intro n
  induction n with
  | zero =>
    intro i39 M Mz hi h hE
    rw [L_X2_play_39] at h
    have hz : (10 : Int32) ≤ nI i39 := by
      have q : i39 = 10 := by omega
      rw [q]; exact nI_le (Nat.le_refl _) (by decide)
    refine r_iload e_X2_play_39 rfl ?_
    refine r_bipush e_X2_play_41 bp_10 ?_
    refine r_icmp_ge e_X2_play_43 (fun _ => ?_) (fun hh => absurd hz hh)
    refine d_6_5 ?_
    obtain rfl := Option.some.inj h; exact hE
  | succ n ih =>
    intro i39 M Mz hi h hE
    rw [L_X2_play_39] at h
    have hlt_i39 : i39 < 10 := by omega
    have hcl_i39 : (nI i39).toNatClampNeg = i39 := nI_clamp (by omega)
    have hs : ¬ (10 : Int32) ≤ nI i39 := nI_ge (b := 10) hlt_i39 (by decide)
    have k0 : kd sh a = some (2 + 7, 0) := hb1.1
    refine r_iload e_X2_play_39 rfl ?_
    refine r_bipush e_X2_play_41 bp_10 ?_
    refine r_icmp_ge e_X2_play_43 (fun hh => absurd hh hs) (fun _ => ?_)
    refine r_aload_n e_X2_play_46 rfl ?_
    refine r_iload e_X2_play_47 rfl ?_
    obtain ⟨v5_0, q5, h⟩ := bd1_el h
    suffices j5 : WP m_X2_play _ 62 [some (.ref a), some (.int x1), none, some (.int w3), some (.int w4), some (.int (nI i39))] [.int v5_0, .ref a] sh M 0 0 by
      refine r_if_eq e_X2_play_49 (fun c4 => ?_) (fun c4 => ?_)
      · rw [if_pos c4] at q5
        refine r_bipush e_X2_play_57 bp_9 ?_
        refine r_iload e_X2_play_59 rfl ?_
        refine r_isub e_X2_play_61 ?_
        subst q5; exact j5
      · rw [if_neg c4] at q5
        refine r_iload e_X2_play_52 rfl ?_
        refine r_goto e_X2_play_54 ?_
        subst q5; exact j5
    obtain ⟨M6, w6, h⟩ := bnd1_el h
    refine cV1u e_X2_play_62 cl_X2_77 ⟨Nat.le_of_ble_eq_true rfl, Nat.le_of_ble_eq_true rfl⟩ ⟨rfl, rfl⟩ k0 (Nat.le_of_ble_eq_true rfl) (S_X2_think hb1 w6) ?_
    refine p_iinc_6_5 e_X2_play_65 rfl ic_1 rfl ?_
    rw [nI_1 i39]
    refine r_goto e_X2_play_68 ?_
    exact ih _  _ _ (by omega) h hE
def L_X2_play_74 (a : Nat) (x1 : Int32) (w3 : Int32) (w4 : Int32) : Nat → Nat → Mem → Option (Mem)
  | 0, i74, M => some M
  | n + 1, i74, M => bd1 (if w4 = 0 then ((9 : Int32) - (nI i74)) else (nI i74)) (fun v9_0 => bnd1 (R_X2_doCommand a v9_0 M) (fun M10 => L_X2_play_74 a x1 w3 w4 n (i74 + 1) M10))
theorem LW_X2_play_74 {sh : List SC} {Q : Po} {a : Nat} {x1 : Int32}  {w3 : Int32} {w4 : Int32} (hb1 : MatchAt sh a)  : ∀ (n i74 : Nat) (M : Mem) (Mz : Mem), i74 + n = 10 → L_X2_play_74 a x1 w3 w4 n i74 M = some Mz → WP m_X2_play Q 106 [some (.ref a), some (.int x1), none, some (.int w3), none, none] [] sh Mz 0 0 → WP m_X2_play Q 74 [some (.ref a), some (.int x1), none, some (.int w3), some (.int w4), some (.int (nI i74))] [] sh M 0 0 := by
  intro n
  induction n with
  | zero =>
    intro i74 M Mz hi h hE
    rw [L_X2_play_74] at h
    have hz : (10 : Int32) ≤ nI i74 := by
      have q : i74 = 10 := by omega
      rw [q]; exact nI_le (Nat.le_refl _) (by decide)
    refine r_iload e_X2_play_74 rfl ?_
    refine r_bipush e_X2_play_76 bp_10 ?_
    refine r_icmp_ge e_X2_play_78 (fun _ => ?_) (fun hh => absurd hz hh)
    refine d_6_4 ?_
    refine d_6_5 ?_
    obtain rfl := Option.some.inj h; exact hE
  | succ n ih =>
    intro i74 M Mz hi h hE
    rw [L_X2_play_74] at h
    have hlt_i74 : i74 < 10 := by omega
    have hcl_i74 : (nI i74).toNatClampNeg = i74 := nI_clamp (by omega)
    have hs : ¬ (10 : Int32) ≤ nI i74 := nI_ge (b := 10) hlt_i74 (by decide)
    have k0 : kd sh a = some (2 + 7, 0) := hb1.1
    refine r_iload e_X2_play_74 rfl ?_
    refine r_bipush e_X2_play_76 bp_10 ?_
    refine r_icmp_ge e_X2_play_78 (fun hh => absurd hh hs) (fun _ => ?_)
    refine r_aload_n e_X2_play_81 rfl ?_
    refine r_iload e_X2_play_82 rfl ?_
    obtain ⟨v9_0, q9, h⟩ := bd1_el h
    suffices j9 : WP m_X2_play _ 97 [some (.ref a), some (.int x1), none, some (.int w3), some (.int w4), some (.int (nI i74))] [.int v9_0, .ref a] sh M 0 0 by
      refine r_if_eq e_X2_play_84 (fun c8 => ?_) (fun c8 => ?_)
      · rw [if_pos c8] at q9
        refine r_bipush e_X2_play_92 bp_9 ?_
        refine r_iload e_X2_play_94 rfl ?_
        refine r_isub e_X2_play_96 ?_
        subst q9; exact j9
      · rw [if_neg c8] at q9
        refine r_iload e_X2_play_87 rfl ?_
        refine r_goto e_X2_play_89 ?_
        subst q9; exact j9
    obtain ⟨M10, w10, h⟩ := bnd1_el h
    refine cV1u e_X2_play_97 cl_X2_80 ⟨Nat.le_of_ble_eq_true rfl, Nat.le_of_ble_eq_true rfl⟩ ⟨rfl, rfl⟩ k0 (Nat.le_of_ble_eq_true rfl) (S_X2_doCommand hb1 w10) ?_
    refine p_iinc_6_5 e_X2_play_100 rfl ic_1 rfl ?_
    rw [nI_1 i74]
    refine r_goto e_X2_play_103 ?_
    exact ih _  _ _ (by omega) h hE
def L_X2_play_4 (a : Nat) (x1 : Int32) : Nat → Int32 → Int32 → Mem → Option (Int32 × Mem)
  | 0, _, _, _ => none
  | n + 1, u2, u3, M => if x1 ≤ u3 then (some (u2, M)) else (bd1 (if ((M.1 a 7) - (M.1 a 7) / (2 : Int32) * (2 : Int32)) = 0 then (1 : Int32) else (0 : Int32)) (fun v3_0 => bnd1 (L_X2_play_39 a x1 u3 v3_0 10 0 (U_X0_remember (a + 4) (M.1 a 7) M)) (fun M7 => bnd1 (L_X2_play_74 a x1 u3 v3_0 10 0 M7) (fun M11 => bnd2 (R_X2_roll a M11) (fun v12 M12 => bnd2 (R_X2_applyLaws a v12 M12) (fun v13 M13 => bd1 (if v13 < 0 then M13 else (U_X7_addLaw (a + 7) v13 M13)) (fun M15 => L_X2_play_4 a x1 n v13 (u3 + 1) (setI M15 a 7 ((M15.1 a 7) + (1 : Int32))))))))))
theorem LW_X2_play_4 {sh : List SC} {Q : Po} {a : Nat} {x1 : Int32}   (hb1 : MatchAt sh a)  : ∀ (n : Nat) (u2 : Int32) (u3 : Int32) (M : Mem) (z2 : Int32) (Mz : Mem), L_X2_play_4 a x1 n u2 u3 M = some (z2, Mz) → WP m_X2_play Q 143 [none, none, some (.int z2), none, none, none] [] sh Mz 0 0 → WP m_X2_play Q 4 [some (.ref a), some (.int x1), some (.int u2), some (.int u3), none, none] [] sh M 0 0 := by
  intro n
  induction n with
  | zero =>
    intro u2 u3 M z2 Mz h hE
    rw [L_X2_play_4] at h
    cases h
  | succ n ih =>
    intro u2 u3 M z2 Mz h hE
    rw [L_X2_play_4] at h
    have k0 : kd sh a = some (2 + 7, 0) := hb1.1
    have k1 : rf sh a 4 = some (a + 4) := hb1.2.2.2.2.2.1
    have k2 : kd sh (a + 4) = some (0 + 7, 0) := hb1.2.2.2.2.2.2.2.2.2.1.1
    have k3 : rf sh a 5 = some (a + 7) := hb1.2.2.2.2.2.2.1
    have k4 : kd sh (a + 7) = some (7 + 7, 0) := hb1.2.2.2.2.2.2.2.2.2.2.1.1
    refine r_iload_n e_X2_play_4 rfl ?_
    refine r_iload_n e_X2_play_5 rfl ?_
    refine r_icmp_ge e_X2_play_6 (fun c1 => ?_) (fun c1 => ?_)
    · rw [if_pos c1] at h
      refine d_6_0 ?_
      refine d_6_1 ?_
      refine d_6_3 ?_
      obtain ⟨rfl, rfl⟩ := ps2 h; exact hE
    · rw [if_neg c1] at h
      refine r_aload_n e_X2_play_9 rfl ?_
      refine r_getI e_X2_play_10 fl_X2_42 i0 k0 ?_
      refine r_iconst e_X2_play_13 ic_2 ?_
      refine r_irem e_X2_play_14 (by decide) ?_
      obtain ⟨v3_0, q3, h⟩ := bd1_el h
      suffices j3 : WP m_X2_play _ 23 [some (.ref a), some (.int x1), none, some (.int u3), none, none] [.int v3_0] sh M 0 0 by
        refine r_if_ne e_X2_play_15 (fun c2 => ?_) (fun c2 => ?_)
        · rw [if_neg c2] at q3
          refine r_iconst e_X2_play_22 ic_0 ?_
          refine d_6_2 ?_
          subst q3; exact j3
        · rw [if_pos c2] at q3
          refine r_iconst e_X2_play_18 ic_1 ?_
          refine r_goto e_X2_play_19 ?_
          refine d_6_2 ?_
          subst q3; exact j3
      refine p_istore_6_4 e_X2_play_23 rfl rfl ?_
      refine r_aload_n e_X2_play_25 rfl ?_
      refine r_getR e_X2_play_26 fl_X2_27 k0 k1 ?_
      refine r_aload_n e_X2_play_29 rfl ?_
      refine r_getI e_X2_play_30 fl_X2_42 i0 k0 ?_
      refine cV1u e_X2_play_33 cl_X2_73 ⟨Nat.le_of_ble_eq_true rfl, Nat.le_of_ble_eq_true rfl⟩ ⟨rfl, rfl⟩ k2 (Nat.le_of_ble_eq_true rfl) (S_X0_remember hb1.2.2.2.2.2.2.2.2.2.1) ?_
      refine r_iconst e_X2_play_36 ic_0 ?_
      refine p_istore_6_5 e_X2_play_37 rfl rfl ?_
      show WP m_X2_play _ 39 [some (.ref a), some (.int x1), none, some (.int u3), some (.int v3_0), some (.int (nI 0))] [] sh (U_X0_remember (a + 4) (M.1 a 7) M) 0 0
      obtain ⟨M7, w7, h⟩ := bnd1_el h
      refine LW_X2_play_39 hb1 10 0 _ _ (by omega) w7 ?_
      refine r_iconst e_X2_play_71 ic_0 ?_
      refine p_istore_6_5 e_X2_play_72 rfl rfl ?_
      show WP m_X2_play _ 74 [some (.ref a), some (.int x1), none, some (.int u3), some (.int v3_0), some (.int (nI 0))] [] sh M7 0 0
      obtain ⟨M11, w11, h⟩ := bnd1_el h
      refine LW_X2_play_74 hb1 10 0 _ _ (by omega) w11 ?_
      refine r_aload_n e_X2_play_106 rfl ?_
      refine r_aload_n e_X2_play_107 rfl ?_
      obtain ⟨v12, M12, w12, h⟩ := bnd2_el h
      refine cV0v e_X2_play_108 cl_X2_83 ⟨Nat.le_of_ble_eq_true rfl, Nat.le_of_ble_eq_true rfl⟩ ⟨rfl, rfl⟩ k0 (Nat.le_of_ble_eq_true rfl) (S_X2_roll hb1 w12) ?_
      obtain ⟨v13, M13, w13, h⟩ := bnd2_el h
      refine cV1v e_X2_play_111 cl_X2_87 ⟨Nat.le_of_ble_eq_true rfl, Nat.le_of_ble_eq_true rfl⟩ ⟨rfl, rfl⟩ k0 (Nat.le_of_ble_eq_true rfl) (S_X2_applyLaws hb1 w13) ?_
      refine p_istore_n_6_2 e_X2_play_114 rfl rfl ?_
      refine r_iload_n e_X2_play_115 rfl ?_
      obtain ⟨M15, q15, h⟩ := bd1_el h
      suffices j15 : WP m_X2_play _ 127 [some (.ref a), some (.int x1), some (.int v13), some (.int u3), none, none] [] sh M15 0 0 by
        refine r_if_lt e_X2_play_116 (fun c14 => ?_) (fun c14 => ?_)
        · rw [if_pos c14] at q15
          subst q15; exact j15
        · rw [if_neg c14] at q15
          refine r_aload_n e_X2_play_119 rfl ?_
          refine r_getR e_X2_play_120 fl_X2_34 k0 k3 ?_
          refine r_iload_n e_X2_play_123 rfl ?_
          refine cV1u e_X2_play_124 cl_X2_91 ⟨Nat.le_of_ble_eq_true rfl, Nat.le_of_ble_eq_true rfl⟩ ⟨rfl, rfl⟩ k4 (Nat.le_of_ble_eq_true rfl) (S_X7_addLaw hb1.2.2.2.2.2.2.2.2.2.2.1) ?_
          subst q15; exact j15
      refine r_aload_n e_X2_play_127 rfl ?_
      refine r_dup e_X2_play_128 rfl ?_
      refine r_getI e_X2_play_129 fl_X2_42 i0 k0 ?_
      refine r_iconst e_X2_play_132 ic_1 ?_
      refine r_iadd e_X2_play_133 ?_
      refine r_putI e_X2_play_134 fl_X2_42 k0 ?_
      refine p_iinc_6_3 e_X2_play_137 rfl ic_1 rfl ?_
      refine r_goto e_X2_play_140 ?_
      exact ih _ _ _ _ _ h hE
def R_X2_play (a : Nat) (x1 : Int32) (M : Mem) : Option (Int32 × Mem) := bnd2 (L_X2_play_4 a x1 FUEL (-1 : Int32) (0 : Int32) M) (fun v16_0 M16 => some (v16_0, M16))
theorem S_X2_play {sh : List SC} {M : Mem} {a : Nat} {x1 : Int32}  {v' : Int32} {M' : Mem} (hb1 : MatchAt sh a)  (h : R_X2_play a x1 M = some (v', M')) : Gv m_X2_play [.ref a, .int x1] sh M (.int v') M' := by
  refine Sp.of (ls := [some (.ref a), some (.int x1), none, none, none, none]) (by decide +kernel) (Nat.le_of_ble_eq_true rfl) rfl ?_
  unfold R_X2_play at h
  refine r_iconst e_X2_play_0 ic_m1 ?_
  refine p_istore_n_6_2 e_X2_play_1 rfl rfl ?_
  refine r_iconst e_X2_play_2 ic_0 ?_
  refine p_istore_n_6_3 e_X2_play_3 rfl rfl ?_
  obtain ⟨v16_0, M16, w16, h⟩ := bnd2_el h
  refine LW_X2_play_4 hb1 _ _ _ _ _ _ w16 ?_
  refine r_iload_n e_X2_play_143 rfl ?_
  refine r_ireturn e_X2_play_144 rfl ⟨rfl, rfl⟩ ?_
  obtain ⟨rfl, rfl⟩ := ps2 h; exact ⟨rfl, rfl, rfl⟩
def L_X11_sum_10 (mA : Nat) : Nat → Int32 → Mem → Option (Int32 × Mem)
  | 0, _, _ => none
  | n + 1, u1, M => if u1 = 0 then (some (u1, M)) else (if (M.1 242 5) = (43 : Int32) then (bnd2 (R_X11_keepWord  mA M) (fun v4 M4 => bnd2 (R_X11_product  mA M4) (fun v5 M5 => L_X11_sum_10 mA n v5 M5))) else (if (M.1 242 5) = (45 : Int32) then (bnd2 (R_X11_keepWord  mA M) (fun v7 M7 => bnd2 (R_X11_product  mA M7) (fun v8 M8 => L_X11_sum_10 mA n v8 M8))) else (some (u1, M))))
theorem LW_X11_sum_10 {sh : List SC} {Q : Po}  {mA : Nat} {oA : Nat}  (hb1 : ModelAt sh mA oA)  : ∀ (n : Nat) (u1 : Int32) (M : Mem) (z1 : Int32) (Mz : Mem), L_X11_sum_10 mA n u1 M = some (z1, Mz) → WP m_X11_sum Q 45 [none, some (.int z1)] [] sh Mz 0 0 → WP m_X11_sum Q 10 [some (.ref 242), some (.int u1)] [] sh M 0 0 := by
  intro n
  induction n with
  | zero =>
    intro u1 M z1 Mz h hE
    rw [L_X11_sum_10] at h
    cases h
  | succ n ih =>
    intro u1 M z1 Mz h hE
    rw [L_X11_sum_10] at h
    have k0 : kd sh 242 = some (10 + 7, 0) := hb1.1
    refine r_iload_n e_X11_sum_10 rfl ?_
    refine r_if_eq e_X11_sum_11 (fun c2 => ?_) (fun c2 => ?_)
    · rw [if_pos c2] at h
      refine d_2_0 ?_
      obtain ⟨rfl, rfl⟩ := ps2 h; exact hE
    · rw [if_neg c2] at h
      refine r_aload_n e_X11_sum_14 rfl ?_
      refine r_getI e_X11_sum_15 fl_X11_28 i0 k0 ?_
      refine r_bipush e_X11_sum_18 bp_43 ?_
      refine r_icmp_eq e_X11_sum_20 (fun c3 => ?_) (fun c3 => ?_)
      · rw [if_pos c3] at h
        refine r_aload_n e_X11_sum_32 rfl ?_
        obtain ⟨v4, M4, w4, h⟩ := bnd2_el h
        refine cV0v e_X11_sum_33 cl_X11_117 ⟨Nat.le_of_ble_eq_true rfl, Nat.le_of_ble_eq_true rfl⟩ ⟨rfl, rfl⟩ k0 (Nat.le_of_ble_eq_true rfl) (S_X11_keepWord hb1 w4) ?_
        refine r_pop e_X11_sum_36 rfl ?_
        refine r_aload_n e_X11_sum_37 rfl ?_
        obtain ⟨v5, M5, w5, h⟩ := bnd2_el h
        refine cV0v e_X11_sum_38 cl_X11_147 ⟨Nat.le_of_ble_eq_true rfl, Nat.le_of_ble_eq_true rfl⟩ ⟨rfl, rfl⟩ k0 (Nat.le_of_ble_eq_true rfl) (S_X11_product hb1 w5) ?_
        refine p_istore_n_2_1 e_X11_sum_41 rfl rfl ?_
        refine r_goto e_X11_sum_42 ?_
        exact ih _ _ _ _ h hE
      · rw [if_neg c3] at h
        refine r_aload_n e_X11_sum_23 rfl ?_
        refine r_getI e_X11_sum_24 fl_X11_28 i0 k0 ?_
        refine r_bipush e_X11_sum_27 bp_45 ?_
        refine r_icmp_ne e_X11_sum_29 (fun c6 => ?_) (fun c6 => ?_)
        · rw [if_neg c6] at h
          refine d_2_0 ?_
          obtain ⟨rfl, rfl⟩ := ps2 h; exact hE
        · rw [if_pos c6] at h
          refine r_aload_n e_X11_sum_32 rfl ?_
          obtain ⟨v7, M7, w7, h⟩ := bnd2_el h
          refine cV0v e_X11_sum_33 cl_X11_117 ⟨Nat.le_of_ble_eq_true rfl, Nat.le_of_ble_eq_true rfl⟩ ⟨rfl, rfl⟩ k0 (Nat.le_of_ble_eq_true rfl) (S_X11_keepWord hb1 w7) ?_
          refine r_pop e_X11_sum_36 rfl ?_
          refine r_aload_n e_X11_sum_37 rfl ?_
          obtain ⟨v8, M8, w8, h⟩ := bnd2_el h
          refine cV0v e_X11_sum_38 cl_X11_147 ⟨Nat.le_of_ble_eq_true rfl, Nat.le_of_ble_eq_true rfl⟩ ⟨rfl, rfl⟩ k0 (Nat.le_of_ble_eq_true rfl) (S_X11_product hb1 w8) ?_
          refine p_istore_n_2_1 e_X11_sum_41 rfl rfl ?_
          refine r_goto e_X11_sum_42 ?_
          exact ih _ _ _ _ h hE
def R_X11_sum (mA : Nat) (M : Mem) : Option (Int32 × Mem) := bnd2 (R_X11_product  mA (setI M 242 20 (0 : Int32))) (fun v1 M1 => bnd2 (L_X11_sum_10 mA FUEL v1 M1) (fun v9_0 M9 => cz v9_0 (some (v9_0, M9))))
theorem S_X11_sum {sh : List SC} {M : Mem}  {mA : Nat} {oA : Nat} {v' : Int32} {M' : Mem} (hb1 : ModelAt sh mA oA)  (h : R_X11_sum mA M = some (v', M')) : Gv m_X11_sum [.ref 242] sh M (.int v') M' := by
  refine Sp.of (ls := [some (.ref 242), none]) (by decide +kernel) (Nat.le_of_ble_eq_true rfl) rfl ?_
  have k0 : kd sh 242 = some (10 + 7, 0) := hb1.1
  unfold R_X11_sum at h
  refine r_aload_n e_X11_sum_0 rfl ?_
  refine r_iconst e_X11_sum_1 ic_0 ?_
  refine r_putI e_X11_sum_2 fl_X11_141 k0 ?_
  refine r_aload_n e_X11_sum_5 rfl ?_
  obtain ⟨v1, M1, w1, h⟩ := bnd2_el h
  refine cV0v e_X11_sum_6 cl_X11_147 ⟨Nat.le_of_ble_eq_true rfl, Nat.le_of_ble_eq_true rfl⟩ ⟨rfl, rfl⟩ k0 (Nat.le_of_ble_eq_true rfl) (S_X11_product hb1 w1) ?_
  refine p_istore_n_2_1 e_X11_sum_9 rfl rfl ?_
  obtain ⟨v9_0, M9, w9, h⟩ := bnd2_el h
  refine LW_X11_sum_10 hb1 _ _ _ _ _ w9 ?_
  refine r_iload_n e_X11_sum_45 rfl ?_
  obtain ⟨b10, h⟩ := cz_el h
  refine r_zreturn e_X11_sum_46 rfl ⟨rfl, rfl⟩ b10 ?_
  obtain ⟨rfl, rfl⟩ := ps2 h; exact ⟨rfl, rfl, rfl⟩
def R_X11_act (mA : Nat) (M : Mem) : Option (Int32 × Mem) := bnd2 (R_X11_keepWord  mA M) (fun v1 M1 => bnd2 (if (M.1 242 5) = (13 : Int32) then (bnd2 (R_X11_name (0 : Int32) mA M1) (fun v37 M37 => (some (v37, M37)))) else (if (M.1 242 5) = (14 : Int32) then (bnd2 (R_X11_is (3 : Int32) mA M1) (fun v31 M31 => bnd2 (if v31 = 0 then (some ((0 : Int32), M31)) else (bnd2 (R_X11_sum  mA M31) (fun v35 M35 => if v35 = 0 then (some ((0 : Int32), M35)) else (some ((1 : Int32), M35))))) (fun v34_0 M34 => (some (v34_0, M34))))) else (if (M.1 242 5) = (15 : Int32) then (bnd2 (R_X11_sum  mA M1) (fun v9 M9 => bnd2 (if v9 = 0 then (some ((0 : Int32), M9)) else (bnd2 (R_X11_sum  mA M9) (fun v13 M13 => if v13 = 0 then (some ((0 : Int32), M13)) else (some ((1 : Int32), M13))))) (fun v12_0 M12 => (some (v12_0, M12))))) else (if (M.1 242 5) = (16 : Int32) then (bnd2 (R_X11_sum  mA M1) (fun v25 M25 => bnd2 (if v25 = 0 then (some ((0 : Int32), M25)) else (bnd2 (R_X11_sum  mA M25) (fun v29 M29 => if v29 = 0 then (some ((0 : Int32), M29)) else (some ((1 : Int32), M29))))) (fun v28_0 M28 => (some (v28_0, M28))))) else (if (M.1 242 5) = (17 : Int32) then (bnd2 (R_X11_sum  mA M1) (fun v17 M17 => bnd2 (if v17 = 0 then (some ((0 : Int32), M17)) else (bnd2 (R_X11_sum  mA M17) (fun v21 M21 => if v21 = 0 then (some ((0 : Int32), M21)) else (bnd2 (R_X11_sum  mA M21) (fun v23 M23 => if v23 = 0 then (some ((0 : Int32), M23)) else (some ((1 : Int32), M23))))))) (fun v20_0 M20 => (some (v20_0, M20))))) else (some ((1 : Int32), M1))))))) (fun v6_0 M6 => bnd2 (if v6_0 = 0 then (some ((0 : Int32), M6)) else (bnd2 (R_X11_is (59 : Int32) mA M6) (fun v41 M41 => if v41 = 0 then (some ((0 : Int32), M41)) else (some ((1 : Int32), M41))))) (fun v40_0 M40 => cz v40_0 (some (v40_0, M40)))))
theorem S_X11_act {sh : List SC} {M : Mem}  {mA : Nat} {oA : Nat} {v' : Int32} {M' : Mem} (hb1 : ModelAt sh mA oA)  (h : R_X11_act mA M = some (v', M')) : Gv m_X11_act [.ref 242] sh M (.int v') M' := by
  refine Sp.of (ls := [some (.ref 242), none, none]) (by decide +kernel) (Nat.le_of_ble_eq_true rfl) rfl ?_
  have k0 : kd sh 242 = some (10 + 7, 0) := hb1.1
  unfold R_X11_act at h
  refine r_aload_n e_X11_act_0 rfl ?_
  refine r_getI e_X11_act_1 fl_X11_28 i0 k0 ?_
  refine p_istore_n_3_1 e_X11_act_4 rfl rfl ?_
  refine r_aload_n e_X11_act_5 rfl ?_
  obtain ⟨v1, M1, w1, h⟩ := bnd2_el h
  refine cV0v e_X11_act_6 cl_X11_117 ⟨Nat.le_of_ble_eq_true rfl, Nat.le_of_ble_eq_true rfl⟩ ⟨rfl, rfl⟩ k0 (Nat.le_of_ble_eq_true rfl) (S_X11_keepWord hb1 w1) ?_
  refine r_pop e_X11_act_9 rfl ?_
  refine r_iconst e_X11_act_10 ic_1 ?_
  refine p_istore_n_3_2 e_X11_act_11 rfl rfl ?_
  refine r_iload_n e_X11_act_12 rfl ?_
  refine r_bipush e_X11_act_13 bp_13 ?_
  obtain ⟨K6, hK6, h⟩ := bnd2_in h
  suffices j6 : ∀ v6_0 M6, K6 (v6_0, M6) = some (v', M') → WP m_X11_act _ 125 [some (.ref 242), none, some (.int v6_0)] [] sh M6 0 0 by
    refine r_icmp_ne e_X11_act_15 (fun c2 => ?_) (fun c2 => ?_)
    · rw [if_neg c2] at h
      refine r_iload_n e_X11_act_27 rfl ?_
      refine r_bipush e_X11_act_28 bp_14 ?_
      refine r_icmp_ne e_X11_act_30 (fun c7 => ?_) (fun c7 => ?_)
      · rw [if_neg c7] at h
        refine r_iload_n e_X11_act_57 rfl ?_
        refine r_bipush e_X11_act_58 bp_15 ?_
        refine r_icmp_eq e_X11_act_60 (fun c8 => ?_) (fun c8 => ?_)
        · rw [if_pos c8] at h
          refine r_aload_n e_X11_act_69 rfl ?_
          obtain ⟨v9, M9, w9, h⟩ := bnd2_elK h
          refine cV0v e_X11_act_70 cl_X11_150 ⟨Nat.le_of_ble_eq_true rfl, Nat.le_of_ble_eq_true rfl⟩ ⟨rfl, rfl⟩ k0 (Nat.le_of_ble_eq_true rfl) (S_X11_sum hb1 w9) ?_
          obtain ⟨K12, hK12, h⟩ := bnd2_inK h
          suffices j12 : ∀ v12_0 M12, K12 (v12_0, M12) = some (v', M') → WP m_X11_act _ 88 [some (.ref 242), none, none] [.int v12_0] sh M12 0 0 by
            refine r_if_eq e_X11_act_73 (fun c10 => ?_) (fun c10 => ?_)
            · rw [if_pos c10] at h
              refine r_iconst e_X11_act_87 ic_0 ?_
              refine d_3_1 ?_
              refine d_3_2 ?_
              exact j12 _ _ h
            · rw [if_neg c10] at h
              refine r_aload_n e_X11_act_76 rfl ?_
              obtain ⟨v13, M13, w13, h⟩ := bnd2_elK h
              refine cV0v e_X11_act_77 cl_X11_150 ⟨Nat.le_of_ble_eq_true rfl, Nat.le_of_ble_eq_true rfl⟩ ⟨rfl, rfl⟩ k0 (Nat.le_of_ble_eq_true rfl) (S_X11_sum hb1 w13) ?_
              refine r_if_eq e_X11_act_80 (fun c14 => ?_) (fun c14 => ?_)
              · rw [if_pos c14] at h
                refine r_iconst e_X11_act_87 ic_0 ?_
                refine d_3_1 ?_
                refine d_3_2 ?_
                exact j12 _ _ h
              · rw [if_neg c14] at h
                refine r_iconst e_X11_act_83 ic_1 ?_
                refine r_goto e_X11_act_84 ?_
                refine d_3_1 ?_
                refine d_3_2 ?_
                exact j12 _ _ h
          intro v12_0 M12 h
          rw [hK12] at h
          refine p_istore_n_3_2 e_X11_act_88 rfl rfl ?_
          refine r_goto e_X11_act_89 ?_
          exact j6 _ _ h
        · rw [if_neg c8] at h
          refine r_iload_n e_X11_act_63 rfl ?_
          refine r_bipush e_X11_act_64 bp_16 ?_
          refine r_icmp_ne e_X11_act_66 (fun c15 => ?_) (fun c15 => ?_)
          · rw [if_neg c15] at h
            refine r_iload_n e_X11_act_92 rfl ?_
            refine r_bipush e_X11_act_93 bp_17 ?_
            refine r_icmp_ne e_X11_act_95 (fun c16 => ?_) (fun c16 => ?_)
            · rw [if_neg c16] at h
              refine d_3_1 ?_
              exact j6 _ _ h
            · rw [if_pos c16] at h
              refine r_aload_n e_X11_act_98 rfl ?_
              obtain ⟨v17, M17, w17, h⟩ := bnd2_elK h
              refine cV0v e_X11_act_99 cl_X11_150 ⟨Nat.le_of_ble_eq_true rfl, Nat.le_of_ble_eq_true rfl⟩ ⟨rfl, rfl⟩ k0 (Nat.le_of_ble_eq_true rfl) (S_X11_sum hb1 w17) ?_
              obtain ⟨K20, hK20, h⟩ := bnd2_inK h
              suffices j20 : ∀ v20_0 M20, K20 (v20_0, M20) = some (v', M') → WP m_X11_act _ 124 [some (.ref 242), none, none] [.int v20_0] sh M20 0 0 by
                refine r_if_eq e_X11_act_102 (fun c18 => ?_) (fun c18 => ?_)
                · rw [if_pos c18] at h
                  refine r_iconst e_X11_act_123 ic_0 ?_
                  refine d_3_1 ?_
                  refine d_3_2 ?_
                  exact j20 _ _ h
                · rw [if_neg c18] at h
                  refine r_aload_n e_X11_act_105 rfl ?_
                  obtain ⟨v21, M21, w21, h⟩ := bnd2_elK h
                  refine cV0v e_X11_act_106 cl_X11_150 ⟨Nat.le_of_ble_eq_true rfl, Nat.le_of_ble_eq_true rfl⟩ ⟨rfl, rfl⟩ k0 (Nat.le_of_ble_eq_true rfl) (S_X11_sum hb1 w21) ?_
                  refine r_if_eq e_X11_act_109 (fun c22 => ?_) (fun c22 => ?_)
                  · rw [if_pos c22] at h
                    refine r_iconst e_X11_act_123 ic_0 ?_
                    refine d_3_1 ?_
                    refine d_3_2 ?_
                    exact j20 _ _ h
                  · rw [if_neg c22] at h
                    refine r_aload_n e_X11_act_112 rfl ?_
                    obtain ⟨v23, M23, w23, h⟩ := bnd2_elK h
                    refine cV0v e_X11_act_113 cl_X11_150 ⟨Nat.le_of_ble_eq_true rfl, Nat.le_of_ble_eq_true rfl⟩ ⟨rfl, rfl⟩ k0 (Nat.le_of_ble_eq_true rfl) (S_X11_sum hb1 w23) ?_
                    refine r_if_eq e_X11_act_116 (fun c24 => ?_) (fun c24 => ?_)
                    · rw [if_pos c24] at h
                      refine r_iconst e_X11_act_123 ic_0 ?_
                      refine d_3_1 ?_
                      refine d_3_2 ?_
                      exact j20 _ _ h
                    · rw [if_neg c24] at h
                      refine r_iconst e_X11_act_119 ic_1 ?_
                      refine r_goto e_X11_act_120 ?_
                      refine d_3_1 ?_
                      refine d_3_2 ?_
                      exact j20 _ _ h
              intro v20_0 M20 h
              rw [hK20] at h
              refine p_istore_n_3_2 e_X11_act_124 rfl rfl ?_
              exact j6 _ _ h
          · rw [if_pos c15] at h
            refine r_aload_n e_X11_act_69 rfl ?_
            obtain ⟨v25, M25, w25, h⟩ := bnd2_elK h
            refine cV0v e_X11_act_70 cl_X11_150 ⟨Nat.le_of_ble_eq_true rfl, Nat.le_of_ble_eq_true rfl⟩ ⟨rfl, rfl⟩ k0 (Nat.le_of_ble_eq_true rfl) (S_X11_sum hb1 w25) ?_
            obtain ⟨K28, hK28, h⟩ := bnd2_inK h
            suffices j28 : ∀ v28_0 M28, K28 (v28_0, M28) = some (v', M') → WP m_X11_act _ 88 [some (.ref 242), none, none] [.int v28_0] sh M28 0 0 by
              refine r_if_eq e_X11_act_73 (fun c26 => ?_) (fun c26 => ?_)
              · rw [if_pos c26] at h
                refine r_iconst e_X11_act_87 ic_0 ?_
                refine d_3_1 ?_
                refine d_3_2 ?_
                exact j28 _ _ h
              · rw [if_neg c26] at h
                refine r_aload_n e_X11_act_76 rfl ?_
                obtain ⟨v29, M29, w29, h⟩ := bnd2_elK h
                refine cV0v e_X11_act_77 cl_X11_150 ⟨Nat.le_of_ble_eq_true rfl, Nat.le_of_ble_eq_true rfl⟩ ⟨rfl, rfl⟩ k0 (Nat.le_of_ble_eq_true rfl) (S_X11_sum hb1 w29) ?_
                refine r_if_eq e_X11_act_80 (fun c30 => ?_) (fun c30 => ?_)
                · rw [if_pos c30] at h
                  refine r_iconst e_X11_act_87 ic_0 ?_
                  refine d_3_1 ?_
                  refine d_3_2 ?_
                  exact j28 _ _ h
                · rw [if_neg c30] at h
                  refine r_iconst e_X11_act_83 ic_1 ?_
                  refine r_goto e_X11_act_84 ?_
                  refine d_3_1 ?_
                  refine d_3_2 ?_
                  exact j28 _ _ h
            intro v28_0 M28 h
            rw [hK28] at h
            refine p_istore_n_3_2 e_X11_act_88 rfl rfl ?_
            refine r_goto e_X11_act_89 ?_
            exact j6 _ _ h
      · rw [if_pos c7] at h
        refine r_aload_n e_X11_act_33 rfl ?_
        refine r_iconst e_X11_act_34 ic_3 ?_
        obtain ⟨v31, M31, w31, h⟩ := bnd2_elK h
        refine cV1v e_X11_act_35 cl_X11_157 ⟨Nat.le_of_ble_eq_true rfl, Nat.le_of_ble_eq_true rfl⟩ ⟨rfl, rfl⟩ k0 (Nat.le_of_ble_eq_true rfl) (S_X11_is hb1 w31) ?_
        obtain ⟨K34, hK34, h⟩ := bnd2_inK h
        suffices j34 : ∀ v34_0 M34, K34 (v34_0, M34) = some (v', M') → WP m_X11_act _ 53 [some (.ref 242), none, none] [.int v34_0] sh M34 0 0 by
          refine r_if_eq e_X11_act_38 (fun c32 => ?_) (fun c32 => ?_)
          · rw [if_pos c32] at h
            refine r_iconst e_X11_act_52 ic_0 ?_
            refine d_3_1 ?_
            refine d_3_2 ?_
            exact j34 _ _ h
          · rw [if_neg c32] at h
            refine r_aload_n e_X11_act_41 rfl ?_
            obtain ⟨v35, M35, w35, h⟩ := bnd2_elK h
            refine cV0v e_X11_act_42 cl_X11_150 ⟨Nat.le_of_ble_eq_true rfl, Nat.le_of_ble_eq_true rfl⟩ ⟨rfl, rfl⟩ k0 (Nat.le_of_ble_eq_true rfl) (S_X11_sum hb1 w35) ?_
            refine r_if_eq e_X11_act_45 (fun c36 => ?_) (fun c36 => ?_)
            · rw [if_pos c36] at h
              refine r_iconst e_X11_act_52 ic_0 ?_
              refine d_3_1 ?_
              refine d_3_2 ?_
              exact j34 _ _ h
            · rw [if_neg c36] at h
              refine r_iconst e_X11_act_48 ic_1 ?_
              refine r_goto e_X11_act_49 ?_
              refine d_3_1 ?_
              refine d_3_2 ?_
              exact j34 _ _ h
        intro v34_0 M34 h
        rw [hK34] at h
        refine p_istore_n_3_2 e_X11_act_53 rfl rfl ?_
        refine r_goto e_X11_act_54 ?_
        exact j6 _ _ h
    · rw [if_pos c2] at h
      refine r_aload_n e_X11_act_18 rfl ?_
      refine r_iconst e_X11_act_19 ic_0 ?_
      obtain ⟨v37, M37, w37, h⟩ := bnd2_elK h
      refine cV1v e_X11_act_20 cl_X11_153 ⟨Nat.le_of_ble_eq_true rfl, Nat.le_of_ble_eq_true rfl⟩ ⟨rfl, rfl⟩ k0 (Nat.le_of_ble_eq_true rfl) (S_X11_name hb1 w37) ?_
      refine p_istore_n_3_2 e_X11_act_23 rfl rfl ?_
      refine r_goto e_X11_act_24 ?_
      refine d_3_1 ?_
      exact j6 _ _ h
  intro v6_0 M6 h
  rw [hK6] at h
  refine r_iload_n e_X11_act_125 rfl ?_
  obtain ⟨K40, hK40, h⟩ := bnd2_in h
  suffices j40 : ∀ v40_0 M40, K40 (v40_0, M40) = some (v', M') → WP m_X11_act _ 143 [none, none, none] [.int v40_0] sh M40 0 0 by
    refine r_if_eq e_X11_act_126 (fun c38 => ?_) (fun c38 => ?_)
    · rw [if_pos c38] at h
      refine r_iconst e_X11_act_142 ic_0 ?_
      refine d_3_0 ?_
      refine d_3_2 ?_
      exact j40 _ _ h
    · rw [if_neg c38] at h
      refine r_aload_n e_X11_act_129 rfl ?_
      refine r_bipush e_X11_act_130 bp_59 ?_
      obtain ⟨v41, M41, w41, h⟩ := bnd2_elK h
      refine cV1v e_X11_act_132 cl_X11_157 ⟨Nat.le_of_ble_eq_true rfl, Nat.le_of_ble_eq_true rfl⟩ ⟨rfl, rfl⟩ k0 (Nat.le_of_ble_eq_true rfl) (S_X11_is hb1 w41) ?_
      refine r_if_eq e_X11_act_135 (fun c42 => ?_) (fun c42 => ?_)
      · rw [if_pos c42] at h
        refine r_iconst e_X11_act_142 ic_0 ?_
        refine d_3_0 ?_
        refine d_3_2 ?_
        exact j40 _ _ h
      · rw [if_neg c42] at h
        refine r_iconst e_X11_act_138 ic_1 ?_
        refine r_goto e_X11_act_139 ?_
        refine d_3_0 ?_
        refine d_3_2 ?_
        exact j40 _ _ h
  intro v40_0 M40 h
  rw [hK40] at h
  obtain ⟨b43, h⟩ := cz_el h
  refine r_zreturn e_X11_act_143 rfl ⟨rfl, rfl⟩ b43 ?_
  obtain ⟨rfl, rfl⟩ := ps2 h; exact ⟨rfl, rfl, rfl⟩
