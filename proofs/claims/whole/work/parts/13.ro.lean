def L_X4_compile_91 (a : Nat) (x1 : Nat) (w2 : Int32) : Nat → Int32 → Mem → Option (Mem)
  | 0, _, _ => none
  | n + 1, u3, M => if (12 : Int32) < u3 then (some M) else (if 0 ≤ (M.1 a 9) then (some M) else (if (V_X4_kind a M) = (1 : Int32) then (bd1 (if u3 = (12 : Int32) then (U_X4_refuse a M) else M) (fun M15 => bnd1 (R_X4_readRule a x1 M15) (fun M16 => L_X4_compile_91 a x1 w2 n (u3 + 1) M16))) else (some M)))
theorem LW_X4_compile_91 {sh : List SC} {Q : Po} {a : Nat} {x1 : Nat}  {w2 : Int32} (hb1 : ReaderAt sh a) (hb2 : ProgramAt sh x1)  : ∀ (n : Nat) (u3 : Int32) (M : Mem) (Mz : Mem), L_X4_compile_91 a x1 w2 n u3 M = some Mz → WP m_X4_compile Q 133 [some (.ref a), some (.ref x1), some (.int w2), none] [] sh Mz 0 0 → WP m_X4_compile Q 91 [some (.ref a), some (.ref x1), some (.int w2), some (.int u3)] [] sh M 0 0 := by
  intro n
  induction n with
  | zero =>
    intro u3 M Mz h hE
    rw [L_X4_compile_91] at h
    cases h
  | succ n ih =>
    intro u3 M Mz h hE
    rw [L_X4_compile_91] at h
    have k0 : kd sh a = some (4 + 7, 0) := hb1.1
    refine r_iload_n e_X4_compile_91 rfl ?_
    refine r_bipush e_X4_compile_92 bp_12 ?_
    refine r_icmp_gt e_X4_compile_94 (fun c11 => ?_) (fun c11 => ?_)
    · rw [if_pos c11] at h
      refine d_4_3 ?_
      obtain rfl := Option.some.inj h; exact hE
    · rw [if_neg c11] at h
      refine r_aload_n e_X4_compile_97 rfl ?_
      refine r_getI e_X4_compile_98 fl_X4_44 i0 k0 ?_
      refine r_if_ge e_X4_compile_101 (fun c12 => ?_) (fun c12 => ?_)
      · rw [if_pos c12] at h
        refine d_4_3 ?_
        obtain rfl := Option.some.inj h; exact hE
      · rw [if_neg c12] at h
        refine r_aload_n e_X4_compile_104 rfl ?_
        refine cV0v e_X4_compile_105 cl_X4_77 ⟨Nat.le_of_ble_eq_true rfl, Nat.le_of_ble_eq_true rfl⟩ ⟨rfl, rfl⟩ k0 (Nat.le_of_ble_eq_true rfl) (S_X4_kind hb1) ?_
        refine r_iconst e_X4_compile_108 ic_1 ?_
        refine r_icmp_ne e_X4_compile_109 (fun c13 => ?_) (fun c13 => ?_)
        · rw [if_neg c13] at h
          refine d_4_3 ?_
          obtain rfl := Option.some.inj h; exact hE
        · rw [if_pos c13] at h
          refine r_iload_n e_X4_compile_112 rfl ?_
          refine r_bipush e_X4_compile_113 bp_12 ?_
          obtain ⟨M15, q15, h⟩ := bd1_el h
          suffices j15 : WP m_X4_compile _ 122 [some (.ref a), some (.ref x1), some (.int w2), some (.int u3)] [] sh M15 0 0 by
            refine r_icmp_ne e_X4_compile_115 (fun c14 => ?_) (fun c14 => ?_)
            · rw [if_neg c14] at q15
              subst q15; exact j15
            · rw [if_pos c14] at q15
              refine r_aload_n e_X4_compile_118 rfl ?_
              refine cV0u e_X4_compile_119 cl_X4_80 ⟨Nat.le_of_ble_eq_true rfl, Nat.le_of_ble_eq_true rfl⟩ ⟨rfl, rfl⟩ k0 (Nat.le_of_ble_eq_true rfl) (S_X4_refuse hb1) ?_
              subst q15; exact j15
          refine r_aload_n e_X4_compile_122 rfl ?_
          refine r_aload_n e_X4_compile_123 rfl ?_
          obtain ⟨M16, w16, h⟩ := bnd1_el h
          refine cV1u e_X4_compile_124 cl_X4_91 ⟨Nat.le_of_ble_eq_true rfl, Nat.le_of_ble_eq_true rfl⟩ ⟨rfl, rfl⟩ k0 (Nat.le_of_ble_eq_true rfl) (S_X4_readRule hb1 hb2 w16) ?_
          refine p_iinc_4_3 e_X4_compile_127 rfl ic_1 rfl ?_
          refine r_goto e_X4_compile_130 ?_
          exact ih _ _ _ h hE
def L_X4_compile_20 (a : Nat) (x1 : Nat) : Nat → Int32 → Mem → Option (Mem)
  | 0, _, _ => none
  | n + 1, u2, M => if (8 : Int32) < u2 then (some M) else (if 0 ≤ (M.1 a 9) then (some M) else (if u2 = 0 then (bd1 (if u2 = (8 : Int32) then (U_X4_refuse a M) else M) (fun M6 => bnd2 (R_X4_take a (0 : Int32) (0 : Int32) M6) (fun v7 M7 => bnd2 (R_X4_take a (26 : Int32) (26 : Int32) M7) (fun v8 M8 => bnd1 (R_X3_openState x1 (M8.2 a 8) M8) (fun M9 => bnd2 (R_X4_take a (27 : Int32) (27 : Int32) M9) (fun v10 M10 => bnd1 (L_X4_compile_91 a x1 u2 FUEL (0 : Int32) M10) (fun M17 => bnd2 (R_X4_take a (28 : Int32) (28 : Int32) M17) (fun v18 M18 => L_X4_compile_20 a x1 n (u2 + 1) (U_X3_closeState x1 M18))))))))) else (if (V_X4_kind a M) = (37 : Int32) then (some M) else (bd1 (if u2 = (8 : Int32) then (U_X4_refuse a M) else M) (fun M21 => bnd2 (R_X4_take a (0 : Int32) (0 : Int32) M21) (fun v22 M22 => bnd2 (R_X4_take a (26 : Int32) (26 : Int32) M22) (fun v23 M23 => bnd1 (R_X3_openState x1 (M23.2 a 8) M23) (fun M24 => bnd2 (R_X4_take a (27 : Int32) (27 : Int32) M24) (fun v25 M25 => bnd1 (L_X4_compile_91 a x1 u2 FUEL (0 : Int32) M25) (fun M32 => bnd2 (R_X4_take a (28 : Int32) (28 : Int32) M32) (fun v33 M33 => L_X4_compile_20 a x1 n (u2 + 1) (U_X3_closeState x1 M33))))))))))))
theorem LW_X4_compile_20 {sh : List SC} {Q : Po} {a : Nat} {x1 : Nat}   (hb1 : ReaderAt sh a) (hb2 : ProgramAt sh x1)  : ∀ (n : Nat) (u2 : Int32) (M : Mem) (Mz : Mem), L_X4_compile_20 a x1 n u2 M = some Mz → WP m_X4_compile Q 152 [some (.ref a), some (.ref x1), none, none] [] sh Mz 0 0 → WP m_X4_compile Q 20 [some (.ref a), some (.ref x1), some (.int u2), none] [] sh M 0 0 := by
  intro n
  induction n with
  | zero =>
    intro u2 M Mz h hE
    rw [L_X4_compile_20] at h
    cases h
  | succ n ih =>
    intro u2 M Mz h hE
    rw [L_X4_compile_20] at h
    have k0 : kd sh a = some (4 + 7, 0) := hb1.1
    have k1 : kd sh x1 = some (3 + 7, 0) := hb2.1
    refine r_iload_n e_X4_compile_20 rfl ?_
    refine r_bipush e_X4_compile_21 bp_8 ?_
    refine r_icmp_gt e_X4_compile_23 (fun c2 => ?_) (fun c2 => ?_)
    · rw [if_pos c2] at h
      refine d_4_2 ?_
      obtain rfl := Option.some.inj h; exact hE
    · rw [if_neg c2] at h
      refine r_aload_n e_X4_compile_26 rfl ?_
      refine r_getI e_X4_compile_27 fl_X4_44 i0 k0 ?_
      refine r_if_ge e_X4_compile_30 (fun c3 => ?_) (fun c3 => ?_)
      · rw [if_pos c3] at h
        refine d_4_2 ?_
        obtain rfl := Option.some.inj h; exact hE
      · rw [if_neg c3] at h
        refine r_iload_n e_X4_compile_33 rfl ?_
        refine r_if_eq e_X4_compile_34 (fun c4 => ?_) (fun c4 => ?_)
        · rw [if_pos c4] at h
          refine r_iload_n e_X4_compile_46 rfl ?_
          refine r_bipush e_X4_compile_47 bp_8 ?_
          obtain ⟨M6, q6, h⟩ := bd1_el h
          suffices j6 : WP m_X4_compile _ 56 [some (.ref a), some (.ref x1), some (.int u2), none] [] sh M6 0 0 by
            refine r_icmp_ne e_X4_compile_49 (fun c5 => ?_) (fun c5 => ?_)
            · rw [if_neg c5] at q6
              subst q6; exact j6
            · rw [if_pos c5] at q6
              refine r_aload_n e_X4_compile_52 rfl ?_
              refine cV0u e_X4_compile_53 cl_X4_80 ⟨Nat.le_of_ble_eq_true rfl, Nat.le_of_ble_eq_true rfl⟩ ⟨rfl, rfl⟩ k0 (Nat.le_of_ble_eq_true rfl) (S_X4_refuse hb1) ?_
              subst q6; exact j6
          refine r_aload_n e_X4_compile_56 rfl ?_
          refine r_iconst e_X4_compile_57 ic_0 ?_
          refine r_iconst e_X4_compile_58 ic_0 ?_
          obtain ⟨v7, M7, w7, h⟩ := bnd2_el h
          refine cV2v e_X4_compile_59 cl_X4_83 ⟨Nat.le_of_ble_eq_true rfl, Nat.le_of_ble_eq_true rfl⟩ ⟨rfl, rfl⟩ k0 (Nat.le_of_ble_eq_true rfl) (S_X4_take hb1 w7) ?_
          refine r_pop e_X4_compile_62 rfl ?_
          refine r_aload_n e_X4_compile_63 rfl ?_
          refine r_bipush e_X4_compile_64 bp_26 ?_
          refine r_bipush e_X4_compile_66 bp_26 ?_
          obtain ⟨v8, M8, w8, h⟩ := bnd2_el h
          refine cV2v e_X4_compile_68 cl_X4_83 ⟨Nat.le_of_ble_eq_true rfl, Nat.le_of_ble_eq_true rfl⟩ ⟨rfl, rfl⟩ k0 (Nat.le_of_ble_eq_true rfl) (S_X4_take hb1 w8) ?_
          refine r_pop e_X4_compile_71 rfl ?_
          refine r_aload_n e_X4_compile_72 rfl ?_
          refine r_aload_n e_X4_compile_73 rfl ?_
          refine r_getJ e_X4_compile_74 fl_X4_40 k0 ?_
          obtain ⟨M9, w9, h⟩ := bnd1_el h
          refine cV1u e_X4_compile_77 cl_X4_87 ⟨Nat.le_of_ble_eq_true rfl, Nat.le_of_ble_eq_true rfl⟩ ⟨rfl, rfl⟩ k1 (Nat.le_of_ble_eq_true rfl) (S_X3_openState hb2 w9) ?_
          refine r_aload_n e_X4_compile_80 rfl ?_
          refine r_bipush e_X4_compile_81 bp_27 ?_
          refine r_bipush e_X4_compile_83 bp_27 ?_
          obtain ⟨v10, M10, w10, h⟩ := bnd2_el h
          refine cV2v e_X4_compile_85 cl_X4_83 ⟨Nat.le_of_ble_eq_true rfl, Nat.le_of_ble_eq_true rfl⟩ ⟨rfl, rfl⟩ k0 (Nat.le_of_ble_eq_true rfl) (S_X4_take hb1 w10) ?_
          refine r_pop e_X4_compile_88 rfl ?_
          refine r_iconst e_X4_compile_89 ic_0 ?_
          refine p_istore_n_4_3 e_X4_compile_90 rfl rfl ?_
          obtain ⟨M17, w17, h⟩ := bnd1_el h
          refine LW_X4_compile_91 hb1 hb2 _ _ _ _ w17 ?_
          refine r_aload_n e_X4_compile_133 rfl ?_
          refine r_bipush e_X4_compile_134 bp_28 ?_
          refine r_bipush e_X4_compile_136 bp_28 ?_
          obtain ⟨v18, M18, w18, h⟩ := bnd2_el h
          refine cV2v e_X4_compile_138 cl_X4_83 ⟨Nat.le_of_ble_eq_true rfl, Nat.le_of_ble_eq_true rfl⟩ ⟨rfl, rfl⟩ k0 (Nat.le_of_ble_eq_true rfl) (S_X4_take hb1 w18) ?_
          refine r_pop e_X4_compile_141 rfl ?_
          refine r_aload_n e_X4_compile_142 rfl ?_
          refine cV0u e_X4_compile_143 cl_X4_95 ⟨Nat.le_of_ble_eq_true rfl, Nat.le_of_ble_eq_true rfl⟩ ⟨rfl, rfl⟩ k1 (Nat.le_of_ble_eq_true rfl) (S_X3_closeState hb2) ?_
          refine p_iinc_4_2 e_X4_compile_146 rfl ic_1 rfl ?_
          refine r_goto e_X4_compile_149 ?_
          exact ih _ _ _ h hE
        · rw [if_neg c4] at h
          refine r_aload_n e_X4_compile_37 rfl ?_
          refine cV0v e_X4_compile_38 cl_X4_77 ⟨Nat.le_of_ble_eq_true rfl, Nat.le_of_ble_eq_true rfl⟩ ⟨rfl, rfl⟩ k0 (Nat.le_of_ble_eq_true rfl) (S_X4_kind hb1) ?_
          refine r_bipush e_X4_compile_41 bp_37 ?_
          refine r_icmp_eq e_X4_compile_43 (fun c19 => ?_) (fun c19 => ?_)
          · rw [if_pos c19] at h
            refine d_4_2 ?_
            obtain rfl := Option.some.inj h; exact hE
          · rw [if_neg c19] at h
            refine r_iload_n e_X4_compile_46 rfl ?_
            refine r_bipush e_X4_compile_47 bp_8 ?_
            obtain ⟨M21, q21, h⟩ := bd1_el h
            suffices j21 : WP m_X4_compile _ 56 [some (.ref a), some (.ref x1), some (.int u2), none] [] sh M21 0 0 by
              refine r_icmp_ne e_X4_compile_49 (fun c20 => ?_) (fun c20 => ?_)
              · rw [if_neg c20] at q21
                subst q21; exact j21
              · rw [if_pos c20] at q21
                refine r_aload_n e_X4_compile_52 rfl ?_
                refine cV0u e_X4_compile_53 cl_X4_80 ⟨Nat.le_of_ble_eq_true rfl, Nat.le_of_ble_eq_true rfl⟩ ⟨rfl, rfl⟩ k0 (Nat.le_of_ble_eq_true rfl) (S_X4_refuse hb1) ?_
                subst q21; exact j21
            refine r_aload_n e_X4_compile_56 rfl ?_
            refine r_iconst e_X4_compile_57 ic_0 ?_
            refine r_iconst e_X4_compile_58 ic_0 ?_
            obtain ⟨v22, M22, w22, h⟩ := bnd2_el h
            refine cV2v e_X4_compile_59 cl_X4_83 ⟨Nat.le_of_ble_eq_true rfl, Nat.le_of_ble_eq_true rfl⟩ ⟨rfl, rfl⟩ k0 (Nat.le_of_ble_eq_true rfl) (S_X4_take hb1 w22) ?_
            refine r_pop e_X4_compile_62 rfl ?_
            refine r_aload_n e_X4_compile_63 rfl ?_
            refine r_bipush e_X4_compile_64 bp_26 ?_
            refine r_bipush e_X4_compile_66 bp_26 ?_
            obtain ⟨v23, M23, w23, h⟩ := bnd2_el h
            refine cV2v e_X4_compile_68 cl_X4_83 ⟨Nat.le_of_ble_eq_true rfl, Nat.le_of_ble_eq_true rfl⟩ ⟨rfl, rfl⟩ k0 (Nat.le_of_ble_eq_true rfl) (S_X4_take hb1 w23) ?_
            refine r_pop e_X4_compile_71 rfl ?_
            refine r_aload_n e_X4_compile_72 rfl ?_
            refine r_aload_n e_X4_compile_73 rfl ?_
            refine r_getJ e_X4_compile_74 fl_X4_40 k0 ?_
            obtain ⟨M24, w24, h⟩ := bnd1_el h
            refine cV1u e_X4_compile_77 cl_X4_87 ⟨Nat.le_of_ble_eq_true rfl, Nat.le_of_ble_eq_true rfl⟩ ⟨rfl, rfl⟩ k1 (Nat.le_of_ble_eq_true rfl) (S_X3_openState hb2 w24) ?_
            refine r_aload_n e_X4_compile_80 rfl ?_
            refine r_bipush e_X4_compile_81 bp_27 ?_
            refine r_bipush e_X4_compile_83 bp_27 ?_
            obtain ⟨v25, M25, w25, h⟩ := bnd2_el h
            refine cV2v e_X4_compile_85 cl_X4_83 ⟨Nat.le_of_ble_eq_true rfl, Nat.le_of_ble_eq_true rfl⟩ ⟨rfl, rfl⟩ k0 (Nat.le_of_ble_eq_true rfl) (S_X4_take hb1 w25) ?_
            refine r_pop e_X4_compile_88 rfl ?_
            refine r_iconst e_X4_compile_89 ic_0 ?_
            refine p_istore_n_4_3 e_X4_compile_90 rfl rfl ?_
            obtain ⟨M32, w32, h⟩ := bnd1_el h
            refine LW_X4_compile_91 hb1 hb2 _ _ _ _ w32 ?_
            refine r_aload_n e_X4_compile_133 rfl ?_
            refine r_bipush e_X4_compile_134 bp_28 ?_
            refine r_bipush e_X4_compile_136 bp_28 ?_
            obtain ⟨v33, M33, w33, h⟩ := bnd2_el h
            refine cV2v e_X4_compile_138 cl_X4_83 ⟨Nat.le_of_ble_eq_true rfl, Nat.le_of_ble_eq_true rfl⟩ ⟨rfl, rfl⟩ k0 (Nat.le_of_ble_eq_true rfl) (S_X4_take hb1 w33) ?_
            refine r_pop e_X4_compile_141 rfl ?_
            refine r_aload_n e_X4_compile_142 rfl ?_
            refine cV0u e_X4_compile_143 cl_X4_95 ⟨Nat.le_of_ble_eq_true rfl, Nat.le_of_ble_eq_true rfl⟩ ⟨rfl, rfl⟩ k1 (Nat.le_of_ble_eq_true rfl) (S_X3_closeState hb2) ?_
            refine p_iinc_4_2 e_X4_compile_146 rfl ic_1 rfl ?_
            refine r_goto e_X4_compile_149 ?_
            exact ih _ _ _ h hE
def R_X4_compile (a : Nat) (x1 : Nat) (M : Mem) : Option (Int32 × Mem) := bnd1 (R_X4_split a (setI (setI (U_X3_clear x1 M) a 7 (0 : Int32)) a 9 (-1 : Int32))) (fun M1 => bnd1 (L_X4_compile_20 a x1 FUEL (0 : Int32) M1) (fun M34 => bnd1 (R_X4_judgeNames a x1 M34) (fun M35 => bnd1 (if 0 ≤ (M35.1 a 9) then (some M35) else (bnd1 (R_X3_resolveGoes x1 M35) (fun M39 => (some M39)))) (fun M38 => some ((M38.1 a 9), M38)))))
theorem S_X4_compile {sh : List SC} {M : Mem} {a : Nat} {x1 : Nat}  {v' : Int32} {M' : Mem} (hb1 : ReaderAt sh a) (hb2 : ProgramAt sh x1)  (h : R_X4_compile a x1 M = some (v', M')) : Gv m_X4_compile [.ref a, .ref x1] sh M (.int v') M' := by
  refine Sp.of (ls := [some (.ref a), some (.ref x1), none, none]) (by decide +kernel) (Nat.le_of_ble_eq_true rfl) rfl ?_
  have k0 : kd sh x1 = some (3 + 7, 0) := hb2.1
  have k1 : kd sh a = some (4 + 7, 0) := hb1.1
  unfold R_X4_compile at h
  refine r_aload_n e_X4_compile_0 rfl ?_
  refine cV0u e_X4_compile_1 cl_X4_69 ⟨Nat.le_of_ble_eq_true rfl, Nat.le_of_ble_eq_true rfl⟩ ⟨rfl, rfl⟩ k0 (Nat.le_of_ble_eq_true rfl) (S_X3_clear hb2) ?_
  refine r_aload_n e_X4_compile_4 rfl ?_
  refine r_iconst e_X4_compile_5 ic_0 ?_
  refine r_putI e_X4_compile_6 fl_X4_37 k1 ?_
  refine r_aload_n e_X4_compile_9 rfl ?_
  refine r_iconst e_X4_compile_10 ic_m1 ?_
  refine r_putI e_X4_compile_11 fl_X4_44 k1 ?_
  refine r_aload_n e_X4_compile_14 rfl ?_
  obtain ⟨M1, w1, h⟩ := bnd1_el h
  refine cV0u e_X4_compile_15 cl_X4_74 ⟨Nat.le_of_ble_eq_true rfl, Nat.le_of_ble_eq_true rfl⟩ ⟨rfl, rfl⟩ k1 (Nat.le_of_ble_eq_true rfl) (S_X4_split hb1 w1) ?_
  refine r_iconst e_X4_compile_18 ic_0 ?_
  refine p_istore_n_4_2 e_X4_compile_19 rfl rfl ?_
  obtain ⟨M34, w34, h⟩ := bnd1_el h
  refine LW_X4_compile_20 hb1 hb2 _ _ _ _ w34 ?_
  refine r_aload_n e_X4_compile_152 rfl ?_
  refine r_aload_n e_X4_compile_153 rfl ?_
  obtain ⟨M35, w35, h⟩ := bnd1_el h
  refine cV1u e_X4_compile_154 cl_X4_98 ⟨Nat.le_of_ble_eq_true rfl, Nat.le_of_ble_eq_true rfl⟩ ⟨rfl, rfl⟩ k1 (Nat.le_of_ble_eq_true rfl) (S_X4_judgeNames hb1 hb2 w35) ?_
  refine r_aload_n e_X4_compile_157 rfl ?_
  refine r_getI e_X4_compile_158 fl_X4_44 i0 k1 ?_
  obtain ⟨K38, hK38, h⟩ := bnd1_in h
  suffices j38 : ∀ M38, K38 M38 = some (v', M') → WP m_X4_compile _ 168 [some (.ref a), none, none, none] [] sh M38 0 0 by
    refine r_if_ge e_X4_compile_161 (fun c36 => ?_) (fun c36 => ?_)
    · rw [if_pos c36] at h
      refine d_4_1 ?_
      exact j38 _ h
    · rw [if_neg c36] at h
      refine r_aload_n e_X4_compile_164 rfl ?_
      obtain ⟨M39, w39, h⟩ := bnd1_elK h
      refine cV0u e_X4_compile_165 cl_X4_101 ⟨Nat.le_of_ble_eq_true rfl, Nat.le_of_ble_eq_true rfl⟩ ⟨rfl, rfl⟩ k0 (Nat.le_of_ble_eq_true rfl) (S_X3_resolveGoes hb2 w39) ?_
      refine d_4_1 ?_
      exact j38 _ h
  intro M38 h
  rw [hK38] at h
  refine r_aload_n e_X4_compile_168 rfl ?_
  refine r_getI e_X4_compile_169 fl_X4_44 i0 k1 ?_
  refine r_ireturn e_X4_compile_172 rfl ⟨rfl, rfl⟩ ?_
  obtain ⟨rfl, rfl⟩ := ps2 h; exact ⟨rfl, rfl, rfl⟩
def R_X10_read (M : Mem) : Option (Int32 × Mem) := if (M.1 0 10) < (6 : Int32) then (ck (M.1 0 10) 6 (bnd2 (R_X4_compile 2 (16 + 15 * (M.1 0 10).toNatClampNeg) M) (fun v3 M3 => if ((U_X4_empty 2 (setI M3 0 11 v3)).1 0 11) < 0 then (some (((((U_X4_empty 2 (setI M3 0 11 v3)).1 0 10) + (1 : Int32)) - (1 : Int32)), setI (U_X4_empty 2 (setI M3 0 11 v3)) 0 10 (((U_X4_empty 2 (setI M3 0 11 v3)).1 0 10) + (1 : Int32)))) else (bd1 (U_X10_finding (-1005 : Int32) (U_X4_empty 2 (setI M3 0 11 v3))) (fun M5 => some ((V_X10_finding (-1005 : Int32) (U_X4_empty 2 (setI M3 0 11 v3))), M5)))))) else (some ((V_X10_finding (-1002 : Int32) M), U_X10_finding (-1002 : Int32) M))
theorem S_X10_read {sh : List SC} {M : Mem}   {v' : Int32} {M' : Mem} (hb1 : PitchAt sh)  (h : R_X10_read  M = some (v', M')) : Gv m_X10_read [.ref 0] sh M (.int v') M' := by
  refine Sp.of (ls := [some (.ref 0)]) (by decide +kernel) (Nat.le_of_ble_eq_true rfl) rfl ?_
  have k0 : kd sh 0 = some (9 + 7, 0) := hb1.1
  have k1 : rf sh 0 2 = some 8 := hb1.2.2.2.1
  have k2 : kd sh 8 = some (3, 6) := hb1.2.2.2.2.2.2.2.2.2.2.2.2.2.2.2.2.2.2.1
  have k3 : rf sh 0 1 = some 2 := hb1.2.2.1
  have k4 : kd sh 2 = some (4 + 7, 0) := hb1.2.2.2.2.2.2.2.2.2.2.2.2.2.2.1.1
  unfold R_X10_read at h
  refine r_aload_n e_X10_read_0 rfl ?_
  refine r_getI e_X10_read_1 fl_X10_52 i0 k0 ?_
  refine r_aload_n e_X10_read_4 rfl ?_
  refine r_getR e_X10_read_5 fl_X10_22 k0 k1 ?_
  refine r_alen (v := (6 : Int32)) e_X10_read_8 k2 (by decide) rfl ?_
  refine r_icmp_lt e_X10_read_9 (fun c1 => ?_) (fun c1 => ?_)
  · rw [if_pos c1] at h
    refine r_aload_n e_X10_read_20 rfl ?_
    refine r_aload_n e_X10_read_21 rfl ?_
    refine r_getR e_X10_read_22 fl_X10_16 k0 k3 ?_
    refine r_aload_n e_X10_read_25 rfl ?_
    refine r_getR e_X10_read_26 fl_X10_22 k0 k1 ?_
    refine r_aload_n e_X10_read_29 rfl ?_
    refine r_getI e_X10_read_30 fl_X10_52 i0 k0 ?_
    obtain ⟨b2, h⟩ := ck_el h
    refine r_aaload (b := (16 + 15 * (M.1 0 10).toNatClampNeg)) e_X10_read_33 k2 ⟨by decide, by decide⟩ b2 (hb1.2.2.2.2.2.2.2.2.2.2.2.2.2.2.2.2.2.2.2.1 ((M.1 0 10).toNatClampNeg) (vp_lt b2)).1 ?_
    obtain ⟨v3, M3, w3, h⟩ := bnd2_el h
    refine cV1v e_X10_read_34 cl_X10_82 ⟨Nat.le_of_ble_eq_true rfl, Nat.le_of_ble_eq_true rfl⟩ ⟨rfl, rfl⟩ k4 (Nat.le_of_ble_eq_true rfl) (S_X4_compile hb1.2.2.2.2.2.2.2.2.2.2.2.2.2.2.1 (hb1.2.2.2.2.2.2.2.2.2.2.2.2.2.2.2.2.2.2.2.1 ((M.1 0 10).toNatClampNeg) (vp_lt b2)).2 w3) ?_
    refine r_putI e_X10_read_37 fl_X10_55 k0 ?_
    refine r_aload_n e_X10_read_40 rfl ?_
    refine r_getR e_X10_read_41 fl_X10_16 k0 k3 ?_
    refine cV0u e_X10_read_44 cl_X10_86 ⟨Nat.le_of_ble_eq_true rfl, Nat.le_of_ble_eq_true rfl⟩ ⟨rfl, rfl⟩ k4 (Nat.le_of_ble_eq_true rfl) (S_X4_empty hb1.2.2.2.2.2.2.2.2.2.2.2.2.2.2.1) ?_
    refine r_aload_n e_X10_read_47 rfl ?_
    refine r_getI e_X10_read_48 fl_X10_55 i0 k0 ?_
    refine r_if_lt e_X10_read_51 (fun c4 => ?_) (fun c4 => ?_)
    · rw [if_pos c4] at h
      refine r_aload_n e_X10_read_62 rfl ?_
      refine r_dup e_X10_read_63 rfl ?_
      refine r_getI e_X10_read_64 fl_X10_52 i0 k0 ?_
      refine r_iconst e_X10_read_67 ic_1 ?_
      refine r_iadd e_X10_read_68 ?_
      refine r_putI e_X10_read_69 fl_X10_52 k0 ?_
      refine r_aload_n e_X10_read_72 rfl ?_
      refine r_getIe e_X10_read_73 fl_X10_52 i0 k0 gs_eI ?_
      refine r_iconst e_X10_read_76 ic_1 ?_
      refine r_isub e_X10_read_77 ?_
      refine r_ireturn e_X10_read_78 rfl ⟨rfl, rfl⟩ ?_
      obtain ⟨rfl, rfl⟩ := ps2 h; exact ⟨rfl, rfl, rfl⟩
    · rw [if_neg c4] at h
      refine r_aload_n e_X10_read_54 rfl ?_
      refine r_sipush e_X10_read_55 sp_m1005 ?_
      refine cV1v e_X10_read_58 cl_X10_70 ⟨Nat.le_of_ble_eq_true rfl, Nat.le_of_ble_eq_true rfl⟩ ⟨rfl, rfl⟩ k0 (Nat.le_of_ble_eq_true rfl) (S_X10_finding hb1) ?_
      obtain ⟨M5, e5, h⟩ := bd1_el h
      rw [e5]
      refine r_ireturn e_X10_read_61 rfl ⟨rfl, rfl⟩ ?_
      obtain ⟨rfl, rfl⟩ := ps2 h; exact ⟨rfl, rfl, rfl⟩
  · rw [if_neg c1] at h
    refine r_aload_n e_X10_read_12 rfl ?_
    refine r_sipush e_X10_read_13 sp_m1002 ?_
    refine cV1v e_X10_read_16 cl_X10_70 ⟨Nat.le_of_ble_eq_true rfl, Nat.le_of_ble_eq_true rfl⟩ ⟨rfl, rfl⟩ k0 (Nat.le_of_ble_eq_true rfl) (S_X10_finding hb1) ?_
    refine r_ireturn e_X10_read_19 rfl ⟨rfl, rfl⟩ ?_
    obtain ⟨rfl, rfl⟩ := ps2 h; exact ⟨rfl, rfl, rfl⟩
