def L_X11_state_113 (mA : Nat) : Nat → Int32 → Int32 → Mem → Option (Int32 × Mem)
  | 0, _, _, _ => none
  | n + 1, u1, u2, M => if u1 = 0 then (some (u1, M)) else (if (M.1 242 5) = (11 : Int32) then (bnd2 (if (12 : Int32) ≤ u2 then (some ((V_X11_wrong  M), U_X11_wrong  M)) else (bnd2 (R_X11_rule  mA M) (fun v21 M21 => (some (v21, M21))))) (fun v20_0 M20 => L_X11_state_113 mA n v20_0 (u2 + 1) M20)) else (some (u1, M)))
theorem LW_X11_state_113 {sh : List SC} {Q : Po}  {mA : Nat} {oA : Nat}  (hb1 : ModelAt sh mA oA)  : ∀ (n : Nat) (u1 : Int32) (u2 : Int32) (M : Mem) (z1 : Int32) (Mz : Mem), L_X11_state_113 mA n u1 u2 M = some (z1, Mz) → WP m_X11_state Q 150 [some (.ref 242), some (.int z1), none] [] sh Mz 0 0 → WP m_X11_state Q 113 [some (.ref 242), some (.int u1), some (.int u2)] [] sh M 0 0 := by
  intro n
  induction n with
  | zero =>
    intro u1 u2 M z1 Mz h hE
    rw [L_X11_state_113] at h
    cases h
  | succ n ih =>
    intro u1 u2 M z1 Mz h hE
    rw [L_X11_state_113] at h
    have k0 : kd sh 242 = some (10 + 7, 0) := hb1.1
    refine r_iload_n e_X11_state_113 rfl ?_
    refine r_if_eq e_X11_state_114 (fun c16 => ?_) (fun c16 => ?_)
    · rw [if_pos c16] at h
      refine d_3_2 ?_
      obtain ⟨rfl, rfl⟩ := ps2 h; exact hE
    · rw [if_neg c16] at h
      refine r_aload_n e_X11_state_117 rfl ?_
      refine r_getI e_X11_state_118 fl_X11_28 i0 k0 ?_
      refine r_bipush e_X11_state_121 bp_11 ?_
      refine r_icmp_ne e_X11_state_123 (fun c17 => ?_) (fun c17 => ?_)
      · rw [if_neg c17] at h
        refine d_3_2 ?_
        obtain ⟨rfl, rfl⟩ := ps2 h; exact hE
      · rw [if_pos c17] at h
        refine r_iload_n e_X11_state_126 rfl ?_
        refine r_bipush e_X11_state_127 bp_12 ?_
        obtain ⟨K20, hK20, h⟩ := bnd2_in h
        suffices j20 : ∀ v20_0 M20, K20 (v20_0, M20) = some (z1, Mz) → WP m_X11_state _ 143 [some (.ref 242), none, some (.int u2)] [.int v20_0] sh M20 0 0 by
          refine r_icmp_ge e_X11_state_129 (fun c18 => ?_) (fun c18 => ?_)
          · rw [if_pos c18] at h
            refine r_aload_n e_X11_state_139 rfl ?_
            refine cV0v e_X11_state_140 cl_X11_121 ⟨Nat.le_of_ble_eq_true rfl, Nat.le_of_ble_eq_true rfl⟩ ⟨rfl, rfl⟩ k0 (Nat.le_of_ble_eq_true rfl) (S_X11_wrong hb1) ?_
            refine d_3_1 ?_
            exact j20 _ _ h
          · rw [if_neg c18] at h
            refine r_aload_n e_X11_state_132 rfl ?_
            obtain ⟨v21, M21, w21, h⟩ := bnd2_elK h
            refine cV0v e_X11_state_133 cl_X11_175 ⟨Nat.le_of_ble_eq_true rfl, Nat.le_of_ble_eq_true rfl⟩ ⟨rfl, rfl⟩ k0 (Nat.le_of_ble_eq_true rfl) (S_X11_rule hb1 w21) ?_
            refine r_goto e_X11_state_136 ?_
            refine d_3_1 ?_
            exact j20 _ _ h
        intro v20_0 M20 h
        rw [hK20] at h
        refine p_istore_n_3_1 e_X11_state_143 rfl rfl ?_
        refine p_iinc_3_2 e_X11_state_144 rfl ic_1 rfl ?_
        refine r_goto e_X11_state_147 ?_
        exact ih _ _ _ _ _ h hE
def R_X11_state (mA : Nat) (M : Mem) : Option (Int32 × Mem) := if (M.1 242 5) = (10 : Int32) then (ck (M.1 242 8) 6 (if (M.1 246 (M.1 242 8).toNatClampNeg) = (8 : Int32) then (cz (V_X11_wrong  M) (some ((V_X11_wrong  M), U_X11_wrong  M))) else (bnd2 (R_X11_keepWord  mA M) (fun v5 M5 => ck (M5.1 242 8) 6 (ck (M5.1 246 (M5.1 242 8).toNatClampNeg) 8 (bnd2 (R_X11_name (1 : Int32) mA (setJ M5 248 (M5.1 246 (M5.1 242 8).toNatClampNeg).toNatClampNeg (M5.2 242 7))) (fun v8 M8 => if v8 = 0 then (some ((0 : Int32), M8)) else (bnd2 (R_X11_is (123 : Int32) mA M8) (fun v10 M10 => if v10 = 0 then (some ((0 : Int32), M10)) else (ck (M10.1 242 8) 6 (ck (((8 : Int32) * (M10.1 242 8)) + (M10.1 246 (M10.1 242 8).toNatClampNeg)) 48 (ck (M10.1 242 8) 6 (ck (M10.1 242 8) 6 (bnd2 (L_X11_state_113 mA FUEL (1 : Int32) (0 : Int32) (setI (setI M10 247 (((8 : Int32) * (M10.1 242 8)) + (M10.1 246 (M10.1 242 8).toNatClampNeg)).toNatClampNeg (M10.1 242 11)) 246 (M10.1 242 8).toNatClampNeg ((M10.1 246 (M10.1 242 8).toNatClampNeg) + (1 : Int32)))) (fun v22_0 M22 => bnd2 (if v22_0 = 0 then (some ((0 : Int32), M22)) else (bnd2 (R_X11_is (125 : Int32) mA M22) (fun v26 M26 => if v26 = 0 then (some ((0 : Int32), M26)) else (some ((1 : Int32), M26))))) (fun v25_0 M25 => cz v25_0 (some (v25_0, M25)))))))))))))))))) else (cz (V_X11_wrong  M) (some ((V_X11_wrong  M), U_X11_wrong  M)))
theorem S_X11_state {sh : List SC} {M : Mem}  {mA : Nat} {oA : Nat} {v' : Int32} {M' : Mem} (hb1 : ModelAt sh mA oA)  (h : R_X11_state mA M = some (v', M')) : Gv m_X11_state [.ref 242] sh M (.int v') M' := by
  refine Sp.of (ls := [some (.ref 242), none, none]) (by decide +kernel) (Nat.le_of_ble_eq_true rfl) rfl ?_
  have k0 : kd sh 242 = some (10 + 7, 0) := hb1.1
  have k1 : rf sh 242 12 = some 246 := hb1.2.2.2.2.1
  have k2 : kd sh 246 = some (0, 6) := hb1.2.2.2.2.2.2.2.2.2.2.2.2.2.2.2.2.2.2.2.2.2.2.2.2.2.2.2.2.2.2.1
  have k3 : rf sh 242 14 = some 248 := hb1.2.2.2.2.2.2.1
  have k4 : kd sh 248 = some (1, 8) := hb1.2.2.2.2.2.2.2.2.2.2.2.2.2.2.2.2.2.2.2.2.2.2.2.2.2.2.2.2.2.2.2.2.1
  have k5 : rf sh 242 13 = some 247 := hb1.2.2.2.2.2.1
  have k6 : kd sh 247 = some (0, 48) := hb1.2.2.2.2.2.2.2.2.2.2.2.2.2.2.2.2.2.2.2.2.2.2.2.2.2.2.2.2.2.2.2.1
  unfold R_X11_state at h
  refine r_aload_n e_X11_state_0 rfl ?_
  refine r_getI e_X11_state_1 fl_X11_28 i0 k0 ?_
  refine r_bipush e_X11_state_4 bp_10 ?_
  refine r_icmp_ne e_X11_state_6 (fun c1 => ?_) (fun c1 => ?_)
  · rw [if_neg c1] at h
    refine r_aload_n e_X11_state_23 rfl ?_
    refine cV0v e_X11_state_24 cl_X11_121 ⟨Nat.le_of_ble_eq_true rfl, Nat.le_of_ble_eq_true rfl⟩ ⟨rfl, rfl⟩ k0 (Nat.le_of_ble_eq_true rfl) (S_X11_wrong hb1) ?_
    obtain ⟨b2, h⟩ := cz_el h
    refine r_zreturn e_X11_state_27 rfl ⟨rfl, rfl⟩ b2 ?_
    obtain ⟨rfl, rfl⟩ := ps2 h; exact ⟨rfl, rfl, rfl⟩
  · rw [if_pos c1] at h
    refine r_aload_n e_X11_state_9 rfl ?_
    refine r_getR e_X11_state_10 fl_X11_166 k0 k1 ?_
    refine r_aload_n e_X11_state_13 rfl ?_
    refine r_getI e_X11_state_14 fl_X11_105 i0 k0 ?_
    obtain ⟨b3, h⟩ := ck_el h
    refine r_iaload e_X11_state_17 k2 b3 ?_
    refine r_bipush e_X11_state_18 bp_8 ?_
    refine r_icmp_ne e_X11_state_20 (fun c4 => ?_) (fun c4 => ?_)
    · rw [if_neg c4] at h
      refine r_aload_n e_X11_state_28 rfl ?_
      obtain ⟨v5, M5, w5, h⟩ := bnd2_el h
      refine cV0v e_X11_state_29 cl_X11_117 ⟨Nat.le_of_ble_eq_true rfl, Nat.le_of_ble_eq_true rfl⟩ ⟨rfl, rfl⟩ k0 (Nat.le_of_ble_eq_true rfl) (S_X11_keepWord hb1 w5) ?_
      refine r_pop e_X11_state_32 rfl ?_
      refine r_aload_n e_X11_state_33 rfl ?_
      refine r_getR e_X11_state_34 fl_X11_169 k0 k3 ?_
      refine r_aload_n e_X11_state_37 rfl ?_
      refine r_getR e_X11_state_38 fl_X11_166 k0 k1 ?_
      refine r_aload_n e_X11_state_41 rfl ?_
      refine r_getI e_X11_state_42 fl_X11_105 i0 k0 ?_
      obtain ⟨b6, h⟩ := ck_el h
      refine r_iaload e_X11_state_45 k2 b6 ?_
      refine r_aload_n e_X11_state_46 rfl ?_
      refine r_getJ e_X11_state_47 fl_X11_24 k0 ?_
      obtain ⟨b7, h⟩ := ck_el h
      refine r_lastore e_X11_state_50 k4 b7 ?_
      refine r_aload_n e_X11_state_51 rfl ?_
      refine r_iconst e_X11_state_52 ic_1 ?_
      obtain ⟨v8, M8, w8, h⟩ := bnd2_el h
      refine cV1v e_X11_state_53 cl_X11_153 ⟨Nat.le_of_ble_eq_true rfl, Nat.le_of_ble_eq_true rfl⟩ ⟨rfl, rfl⟩ k0 (Nat.le_of_ble_eq_true rfl) (S_X11_name hb1 w8) ?_
      refine r_if_eq e_X11_state_56 (fun c9 => ?_) (fun c9 => ?_)
      · rw [if_pos c9] at h
        refine r_iconst e_X11_state_68 ic_0 ?_
        refine r_zreturn e_X11_state_69 rfl ⟨rfl, rfl⟩ (by first | exact Or.inl rfl | exact Or.inr rfl) ?_
        obtain ⟨rfl, rfl⟩ := ps2 h; exact ⟨rfl, rfl, rfl⟩
      · rw [if_neg c9] at h
        refine r_aload_n e_X11_state_59 rfl ?_
        refine r_bipush e_X11_state_60 bp_123 ?_
        obtain ⟨v10, M10, w10, h⟩ := bnd2_el h
        refine cV1v e_X11_state_62 cl_X11_157 ⟨Nat.le_of_ble_eq_true rfl, Nat.le_of_ble_eq_true rfl⟩ ⟨rfl, rfl⟩ k0 (Nat.le_of_ble_eq_true rfl) (S_X11_is hb1 w10) ?_
        refine r_if_ne e_X11_state_65 (fun c11 => ?_) (fun c11 => ?_)
        · rw [if_neg c11] at h
          refine r_aload_n e_X11_state_70 rfl ?_
          refine r_getR e_X11_state_71 fl_X11_172 k0 k5 ?_
          refine r_bipush e_X11_state_74 bp_8 ?_
          refine r_aload_n e_X11_state_76 rfl ?_
          refine r_getI e_X11_state_77 fl_X11_105 i0 k0 ?_
          refine r_imul e_X11_state_80 ?_
          refine r_aload_n e_X11_state_81 rfl ?_
          refine r_getR e_X11_state_82 fl_X11_166 k0 k1 ?_
          refine r_aload_n e_X11_state_85 rfl ?_
          refine r_getI e_X11_state_86 fl_X11_105 i0 k0 ?_
          obtain ⟨b12, h⟩ := ck_el h
          refine r_iaload e_X11_state_89 k2 b12 ?_
          refine r_iadd e_X11_state_90 ?_
          refine r_aload_n e_X11_state_91 rfl ?_
          refine r_getI e_X11_state_92 fl_X11_108 i0 k0 ?_
          obtain ⟨b13, h⟩ := ck_el h
          refine r_iastore e_X11_state_95 k6 b13 ?_
          refine r_aload_n e_X11_state_96 rfl ?_
          refine r_getR e_X11_state_97 fl_X11_166 k0 k1 ?_
          refine r_aload_n e_X11_state_100 rfl ?_
          refine r_getIe e_X11_state_101 fl_X11_105 i0 k0 (gs_aI (by omega)) ?_
          refine r_dup2 e_X11_state_104 rfl rfl ?_
          obtain ⟨b14, h⟩ := ck_el h
          refine r_ialoade (v := (M10.1 246 (M10.1 242 8).toNatClampNeg)) e_X11_state_105 k2 b14 (gs_aI (by omega)) ?_
          refine r_iconst e_X11_state_106 ic_1 ?_
          refine r_iadd e_X11_state_107 ?_
          obtain ⟨b15, h⟩ := ck_el h
          refine r_iastore e_X11_state_108 k2 b15 ?_
          refine r_iconst e_X11_state_109 ic_1 ?_
          refine p_istore_n_3_1 e_X11_state_110 rfl rfl ?_
          refine r_iconst e_X11_state_111 ic_0 ?_
          refine p_istore_n_3_2 e_X11_state_112 rfl rfl ?_
          obtain ⟨v22_0, M22, w22, h⟩ := bnd2_el h
          refine LW_X11_state_113 hb1 _ _ _ _ _ _ w22 ?_
          refine r_iload_n e_X11_state_150 rfl ?_
          obtain ⟨K25, hK25, h⟩ := bnd2_in h
          suffices j25 : ∀ v25_0 M25, K25 (v25_0, M25) = some (v', M') → WP m_X11_state _ 168 [none, none, none] [.int v25_0] sh M25 0 0 by
            refine r_if_eq e_X11_state_151 (fun c23 => ?_) (fun c23 => ?_)
            · rw [if_pos c23] at h
              refine r_iconst e_X11_state_167 ic_0 ?_
              refine d_3_0 ?_
              refine d_3_1 ?_
              exact j25 _ _ h
            · rw [if_neg c23] at h
              refine r_aload_n e_X11_state_154 rfl ?_
              refine r_bipush e_X11_state_155 bp_125 ?_
              obtain ⟨v26, M26, w26, h⟩ := bnd2_elK h
              refine cV1v e_X11_state_157 cl_X11_157 ⟨Nat.le_of_ble_eq_true rfl, Nat.le_of_ble_eq_true rfl⟩ ⟨rfl, rfl⟩ k0 (Nat.le_of_ble_eq_true rfl) (S_X11_is hb1 w26) ?_
              refine r_if_eq e_X11_state_160 (fun c27 => ?_) (fun c27 => ?_)
              · rw [if_pos c27] at h
                refine r_iconst e_X11_state_167 ic_0 ?_
                refine d_3_0 ?_
                refine d_3_1 ?_
                exact j25 _ _ h
              · rw [if_neg c27] at h
                refine r_iconst e_X11_state_163 ic_1 ?_
                refine r_goto e_X11_state_164 ?_
                refine d_3_0 ?_
                refine d_3_1 ?_
                exact j25 _ _ h
          intro v25_0 M25 h
          rw [hK25] at h
          obtain ⟨b28, h⟩ := cz_el h
          refine r_zreturn e_X11_state_168 rfl ⟨rfl, rfl⟩ b28 ?_
          obtain ⟨rfl, rfl⟩ := ps2 h; exact ⟨rfl, rfl, rfl⟩
        · rw [if_pos c11] at h
          refine r_iconst e_X11_state_68 ic_0 ?_
          refine r_zreturn e_X11_state_69 rfl ⟨rfl, rfl⟩ (by first | exact Or.inl rfl | exact Or.inr rfl) ?_
          obtain ⟨rfl, rfl⟩ := ps2 h; exact ⟨rfl, rfl, rfl⟩
    · rw [if_pos c4] at h
      refine r_aload_n e_X11_state_23 rfl ?_
      refine cV0v e_X11_state_24 cl_X11_121 ⟨Nat.le_of_ble_eq_true rfl, Nat.le_of_ble_eq_true rfl⟩ ⟨rfl, rfl⟩ k0 (Nat.le_of_ble_eq_true rfl) (S_X11_wrong hb1) ?_
      obtain ⟨b29, h⟩ := cz_el h
      refine r_zreturn e_X11_state_27 rfl ⟨rfl, rfl⟩ b29 ?_
      obtain ⟨rfl, rfl⟩ := ps2 h; exact ⟨rfl, rfl, rfl⟩
def L_X11_tickOnce_47 (mA : Nat) (w1 : Int32) : Nat → Nat → Mem → Option (Mem)
  | 0, i47, M => some M
  | n + 1, i47, M => bd1 (if (w1 - w1 / (2 : Int32) * (2 : Int32)) = 0 then (nI i47) else ((9 : Int32) - (nI i47))) (fun v5_0 => bnd1 (R_X11_run v5_0 mA M) (fun M6 => L_X11_tickOnce_47 mA w1 n (i47 + 1) M6))
theorem LW_X11_tickOnce_47 {sh : List SC} {Q : Po}  {mA : Nat} {oA : Nat} {w1 : Int32} (hb1 : ModelAt sh mA oA)  : ∀ (n i47 : Nat) (M : Mem) (Mz : Mem), i47 + n = 10 → L_X11_tickOnce_47 mA w1 n i47 M = some Mz → WP m_X11_tickOnce Q 77 [some (.ref 242), some (.int w1), none] [] sh Mz 0 0 → WP m_X11_tickOnce Q 47 [some (.ref 242), some (.int w1), some (.int (nI i47))] [] sh M 0 0 := by
  intro n
  induction n with
  | zero =>
    intro i47 M Mz hi h hE
    rw [L_X11_tickOnce_47] at h
    have hz : (10 : Int32) ≤ nI i47 := by
      have q : i47 = 10 := by omega
      rw [q]; exact nI_le (Nat.le_refl _) (by decide)
    refine r_iload_n e_X11_tickOnce_47 rfl ?_
    refine r_bipush e_X11_tickOnce_48 bp_10 ?_
    refine r_icmp_ge e_X11_tickOnce_50 (fun _ => ?_) (fun hh => absurd hz hh)
    refine d_3_2 ?_
    obtain rfl := Option.some.inj h; exact hE
  | succ n ih =>
    intro i47 M Mz hi h hE
    rw [L_X11_tickOnce_47] at h
    have hlt_i47 : i47 < 10 := by omega
    have hcl_i47 : (nI i47).toNatClampNeg = i47 := nI_clamp (by omega)
    have hs : ¬ (10 : Int32) ≤ nI i47 := nI_ge (b := 10) hlt_i47 (by decide)
    have k0 : kd sh 242 = some (10 + 7, 0) := hb1.1
    refine r_iload_n e_X11_tickOnce_47 rfl ?_
    refine r_bipush e_X11_tickOnce_48 bp_10 ?_
    refine r_icmp_ge e_X11_tickOnce_50 (fun hh => absurd hh hs) (fun _ => ?_)
    refine r_aload_n e_X11_tickOnce_53 rfl ?_
    refine r_iload_n e_X11_tickOnce_54 rfl ?_
    refine r_iconst e_X11_tickOnce_55 ic_2 ?_
    refine r_irem e_X11_tickOnce_56 (by decide) ?_
    obtain ⟨v5_0, q5, h⟩ := bd1_el h
    suffices j5 : WP m_X11_tickOnce _ 68 [some (.ref 242), some (.int w1), some (.int (nI i47))] [.int v5_0, .ref 242] sh M 0 0 by
      refine r_if_ne e_X11_tickOnce_57 (fun c4 => ?_) (fun c4 => ?_)
      · rw [if_neg c4] at q5
        refine r_bipush e_X11_tickOnce_64 bp_9 ?_
        refine r_iload_n e_X11_tickOnce_66 rfl ?_
        refine r_isub e_X11_tickOnce_67 ?_
        subst q5; exact j5
      · rw [if_pos c4] at q5
        refine r_iload_n e_X11_tickOnce_60 rfl ?_
        refine r_goto e_X11_tickOnce_61 ?_
        subst q5; exact j5
    obtain ⟨M6, w6, h⟩ := bnd1_el h
    refine cV1u e_X11_tickOnce_68 cl_X11_382 ⟨Nat.le_of_ble_eq_true rfl, Nat.le_of_ble_eq_true rfl⟩ ⟨rfl, rfl⟩ k0 (Nat.le_of_ble_eq_true rfl) (S_X11_run hb1 w6) ?_
    refine p_iinc_3_2 e_X11_tickOnce_71 rfl ic_1 rfl ?_
    rw [nI_1 i47]
    refine r_goto e_X11_tickOnce_74 ?_
    exact ih _  _ _ (by omega) h hE
def L_X11_tickOnce_79 (mA : Nat) (w1 : Int32) : Nat → Nat → Mem → Option (Mem)
  | 0, i79, M => some M
  | n + 1, i79, M => bd1 (if (w1 - w1 / (2 : Int32) * (2 : Int32)) = 0 then (nI i79) else ((9 : Int32) - (nI i79))) (fun v9_0 => bnd1 (R_X11_doCommand v9_0 mA M) (fun M10 => L_X11_tickOnce_79 mA w1 n (i79 + 1) M10))
theorem LW_X11_tickOnce_79 {sh : List SC} {Q : Po}  {mA : Nat} {oA : Nat} {w1 : Int32} (hb1 : ModelAt sh mA oA)  : ∀ (n i79 : Nat) (M : Mem) (Mz : Mem), i79 + n = 10 → L_X11_tickOnce_79 mA w1 n i79 M = some Mz → WP m_X11_tickOnce Q 109 [some (.ref 242), none, none] [] sh Mz 0 0 → WP m_X11_tickOnce Q 79 [some (.ref 242), some (.int w1), some (.int (nI i79))] [] sh M 0 0 := by
  intro n
  induction n with
  | zero =>
    intro i79 M Mz hi h hE
    rw [L_X11_tickOnce_79] at h
    have hz : (10 : Int32) ≤ nI i79 := by
      have q : i79 = 10 := by omega
      rw [q]; exact nI_le (Nat.le_refl _) (by decide)
    refine r_iload_n e_X11_tickOnce_79 rfl ?_
    refine r_bipush e_X11_tickOnce_80 bp_10 ?_
    refine r_icmp_ge e_X11_tickOnce_82 (fun _ => ?_) (fun hh => absurd hz hh)
    refine d_3_1 ?_
    refine d_3_2 ?_
    obtain rfl := Option.some.inj h; exact hE
  | succ n ih =>
    intro i79 M Mz hi h hE
    rw [L_X11_tickOnce_79] at h
    have hlt_i79 : i79 < 10 := by omega
    have hcl_i79 : (nI i79).toNatClampNeg = i79 := nI_clamp (by omega)
    have hs : ¬ (10 : Int32) ≤ nI i79 := nI_ge (b := 10) hlt_i79 (by decide)
    have k0 : kd sh 242 = some (10 + 7, 0) := hb1.1
    refine r_iload_n e_X11_tickOnce_79 rfl ?_
    refine r_bipush e_X11_tickOnce_80 bp_10 ?_
    refine r_icmp_ge e_X11_tickOnce_82 (fun hh => absurd hh hs) (fun _ => ?_)
    refine r_aload_n e_X11_tickOnce_85 rfl ?_
    refine r_iload_n e_X11_tickOnce_86 rfl ?_
    refine r_iconst e_X11_tickOnce_87 ic_2 ?_
    refine r_irem e_X11_tickOnce_88 (by decide) ?_
    obtain ⟨v9_0, q9, h⟩ := bd1_el h
    suffices j9 : WP m_X11_tickOnce _ 100 [some (.ref 242), some (.int w1), some (.int (nI i79))] [.int v9_0, .ref 242] sh M 0 0 by
      refine r_if_ne e_X11_tickOnce_89 (fun c8 => ?_) (fun c8 => ?_)
      · rw [if_neg c8] at q9
        refine r_bipush e_X11_tickOnce_96 bp_9 ?_
        refine r_iload_n e_X11_tickOnce_98 rfl ?_
        refine r_isub e_X11_tickOnce_99 ?_
        subst q9; exact j9
      · rw [if_pos c8] at q9
        refine r_iload_n e_X11_tickOnce_92 rfl ?_
        refine r_goto e_X11_tickOnce_93 ?_
        subst q9; exact j9
    obtain ⟨M10, w10, h⟩ := bnd1_el h
    refine cV1u e_X11_tickOnce_100 cl_X11_385 ⟨Nat.le_of_ble_eq_true rfl, Nat.le_of_ble_eq_true rfl⟩ ⟨rfl, rfl⟩ k0 (Nat.le_of_ble_eq_true rfl) (S_X11_doCommand hb1 w10) ?_
    refine p_iinc_3_2 e_X11_tickOnce_103 rfl ic_1 rfl ?_
    rw [nI_1 i79]
    refine r_goto e_X11_tickOnce_106 ?_
    exact ih _  _ _ (by omega) h hE
def R_X11_tickOnce (mA : Nat) (M : Mem) : Option (Int32 × Mem) := ck ((204 : Int32) + ((M.1 mA 3) - (M.1 mA 3) / (4 : Int32) * (4 : Int32))) 212 (ck ((208 : Int32) + ((M.1 mA 3) - (M.1 mA 3) / (4 : Int32) * (4 : Int32))) 212 (bd1 (setI (setI M mA ((204 : Int32) + ((M.1 mA 3) - (M.1 mA 3) / (4 : Int32) * (4 : Int32))).toNatClampNeg (M.1 mA 14)) mA ((208 : Int32) + ((M.1 mA 3) - (M.1 mA 3) / (4 : Int32) * (4 : Int32))).toNatClampNeg ((setI M mA ((204 : Int32) + ((M.1 mA 3) - (M.1 mA 3) / (4 : Int32) * (4 : Int32))).toNatClampNeg (M.1 mA 14)).1 mA 15)) (fun M3 => bnd1 (L_X11_tickOnce_47 mA (M.1 mA 3) 10 0 M3) (fun M7 => bnd1 (L_X11_tickOnce_79 mA (M.1 mA 3) 10 0 M7) (fun M11 => bnd2 (R_X11_roll  mA M11) (fun v12 M12 => bnd2 (R_X11_law v12 mA M12) (fun v13 M13 => bnd1 (if v13 < 0 then (some M13) else (ck ((6 : Int32) + v13) 212 (ck ((6 : Int32) + v13) 212 (some (setI M13 mA ((6 : Int32) + v13).toNatClampNeg ((M13.1 mA ((6 : Int32) + v13).toNatClampNeg) + (1 : Int32))))))) (fun M16 => some (v13, setI M16 mA 3 ((M16.1 mA 3) + (1 : Int32)))))))))))
theorem S_X11_tickOnce {sh : List SC} {M : Mem}  {mA : Nat} {oA : Nat} {v' : Int32} {M' : Mem} (hb1 : ModelAt sh mA oA)  (h : R_X11_tickOnce mA M = some (v', M')) : Gv m_X11_tickOnce [.ref 242] sh M (.int v') M' := by
  refine Sp.of (ls := [some (.ref 242), none, none]) (by decide +kernel) (Nat.le_of_ble_eq_true rfl) rfl ?_
  have k0 : kd sh 242 = some (10 + 7, 0) := hb1.1
  have k1 : rf sh 242 27 = some mA := hb1.2.2.2.2.2.2.2.2.2.2.2.2.2.2.2.2.2.1
  have k2 : kd sh mA = some (0, 212) := hb1.2.2.2.2.2.2.2.2.2.2.2.2.2.2.2.2.2.2.2.2.2.2.2.2.2.2.2.2.2.2.2.2.2.2.2.2.2.2.2.2.2.2.2.2.2.2.2.2.2.2.2.1
  unfold R_X11_tickOnce at h
  refine r_aload_n e_X11_tickOnce_0 rfl ?_
  refine r_getR e_X11_tickOnce_1 fl_X11_212 k0 k1 ?_
  refine r_iconst e_X11_tickOnce_4 ic_3 ?_
  refine r_ialoade (v := (M.1 mA 3)) e_X11_tickOnce_5 k2 (by unfold vp_in; decide) (show M.1 mA (3 : Int32).toNatClampNeg = M.1 mA 3 by rw [show (3 : Int32).toNatClampNeg = 3 from rfl]) ?_
  refine p_istore_n_3_1 e_X11_tickOnce_6 rfl rfl ?_
  refine r_aload_n e_X11_tickOnce_7 rfl ?_
  refine r_getR e_X11_tickOnce_8 fl_X11_212 k0 k1 ?_
  refine r_sipush e_X11_tickOnce_11 sp_204 ?_
  refine r_iload_n e_X11_tickOnce_14 rfl ?_
  refine r_iconst e_X11_tickOnce_15 ic_4 ?_
  refine r_irem e_X11_tickOnce_16 (by decide) ?_
  refine r_iadd e_X11_tickOnce_17 ?_
  refine r_aload_n e_X11_tickOnce_18 rfl ?_
  refine r_getR e_X11_tickOnce_19 fl_X11_212 k0 k1 ?_
  refine r_bipush e_X11_tickOnce_22 bp_14 ?_
  refine r_ialoade (v := (M.1 mA 14)) e_X11_tickOnce_24 k2 (by unfold vp_in; decide) (show M.1 mA (14 : Int32).toNatClampNeg = M.1 mA 14 by rw [show (14 : Int32).toNatClampNeg = 14 from rfl]) ?_
  obtain ⟨b1, h⟩ := ck_el h
  refine r_iastore e_X11_tickOnce_25 k2 b1 ?_
  refine r_aload_n e_X11_tickOnce_26 rfl ?_
  refine r_getR e_X11_tickOnce_27 fl_X11_212 k0 k1 ?_
  refine r_sipush e_X11_tickOnce_30 sp_208 ?_
  refine r_iload_n e_X11_tickOnce_33 rfl ?_
  refine r_iconst e_X11_tickOnce_34 ic_4 ?_
  refine r_irem e_X11_tickOnce_35 (by decide) ?_
  refine r_iadd e_X11_tickOnce_36 ?_
  refine r_aload_n e_X11_tickOnce_37 rfl ?_
  refine r_getR e_X11_tickOnce_38 fl_X11_212 k0 k1 ?_
  refine r_bipush e_X11_tickOnce_41 bp_15 ?_
  refine r_ialoade (v := ((setI M mA ((204 : Int32) + ((M.1 mA 3) - (M.1 mA 3) / (4 : Int32) * (4 : Int32))).toNatClampNeg (M.1 mA 14)).1 mA 15)) e_X11_tickOnce_43 k2 (by unfold vp_in; decide) (show (setI M mA ((204 : Int32) + ((M.1 mA 3) - (M.1 mA 3) / (4 : Int32) * (4 : Int32))).toNatClampNeg (M.1 mA 14)).1 mA (15 : Int32).toNatClampNeg = (setI M mA ((204 : Int32) + ((M.1 mA 3) - (M.1 mA 3) / (4 : Int32) * (4 : Int32))).toNatClampNeg (M.1 mA 14)).1 mA 15 by rw [show (15 : Int32).toNatClampNeg = 15 from rfl]) ?_
  obtain ⟨b2, h⟩ := ck_el h
  refine r_iastore e_X11_tickOnce_44 k2 b2 ?_
  obtain ⟨M3, e3, h⟩ := bd1_el h
  rw [e3]
  refine r_iconst e_X11_tickOnce_45 ic_0 ?_
  refine p_istore_n_3_2 e_X11_tickOnce_46 rfl rfl ?_
  show WP m_X11_tickOnce _ 47 [some (.ref 242), some (.int (M.1 mA 3)), some (.int (nI 0))] [] sh M3 0 0
  obtain ⟨M7, w7, h⟩ := bnd1_el h
  refine LW_X11_tickOnce_47 hb1 10 0 _ _ (by omega) w7 ?_
  refine r_iconst e_X11_tickOnce_77 ic_0 ?_
  refine p_istore_n_3_2 e_X11_tickOnce_78 rfl rfl ?_
  show WP m_X11_tickOnce _ 79 [some (.ref 242), some (.int (M.1 mA 3)), some (.int (nI 0))] [] sh M7 0 0
  obtain ⟨M11, w11, h⟩ := bnd1_el h
  refine LW_X11_tickOnce_79 hb1 10 0 _ _ (by omega) w11 ?_
  refine r_aload_n e_X11_tickOnce_109 rfl ?_
  refine r_aload_n e_X11_tickOnce_110 rfl ?_
  obtain ⟨v12, M12, w12, h⟩ := bnd2_el h
  refine cV0v e_X11_tickOnce_111 cl_X11_388 ⟨Nat.le_of_ble_eq_true rfl, Nat.le_of_ble_eq_true rfl⟩ ⟨rfl, rfl⟩ k0 (Nat.le_of_ble_eq_true rfl) (S_X11_roll hb1 w12) ?_
  obtain ⟨v13, M13, w13, h⟩ := bnd2_el h
  refine cV1v e_X11_tickOnce_114 cl_X11_391 ⟨Nat.le_of_ble_eq_true rfl, Nat.le_of_ble_eq_true rfl⟩ ⟨rfl, rfl⟩ k0 (Nat.le_of_ble_eq_true rfl) (S_X11_law hb1 w13) ?_
  refine p_istore_n_3_2 e_X11_tickOnce_117 rfl rfl ?_
  refine r_iload_n e_X11_tickOnce_118 rfl ?_
  obtain ⟨K16, hK16, h⟩ := bnd1_in h
  suffices j16 : ∀ M16, K16 M16 = some (v', M') → WP m_X11_tickOnce _ 135 [some (.ref 242), none, some (.int v13)] [] sh M16 0 0 by
    refine r_if_lt e_X11_tickOnce_119 (fun c14 => ?_) (fun c14 => ?_)
    · rw [if_pos c14] at h
      exact j16 _ h
    · rw [if_neg c14] at h
      refine r_aload_n e_X11_tickOnce_122 rfl ?_
      refine r_getR e_X11_tickOnce_123 fl_X11_212 k0 k1 ?_
      refine r_bipush e_X11_tickOnce_126 bp_6 ?_
      refine r_iload_n e_X11_tickOnce_128 rfl ?_
      refine r_iadd e_X11_tickOnce_129 ?_
      refine r_dup2 e_X11_tickOnce_130 rfl rfl ?_
      obtain ⟨b17, h⟩ := ck_elK h
      refine r_iaload e_X11_tickOnce_131 k2 b17 ?_
      refine r_iconst e_X11_tickOnce_132 ic_1 ?_
      refine r_iadd e_X11_tickOnce_133 ?_
      obtain ⟨b18, h⟩ := ck_elK h
      refine r_iastore e_X11_tickOnce_134 k2 b18 ?_
      exact j16 _ h
  intro M16 h
  rw [hK16] at h
  refine r_aload_n e_X11_tickOnce_135 rfl ?_
  refine r_getR e_X11_tickOnce_136 fl_X11_212 k0 k1 ?_
  refine r_iconst e_X11_tickOnce_139 ic_3 ?_
  refine r_dup2 e_X11_tickOnce_140 rfl rfl ?_
  refine r_ialoade (v := (M16.1 mA 3)) e_X11_tickOnce_141 k2 (by unfold vp_in; decide) (show M16.1 mA (3 : Int32).toNatClampNeg = M16.1 mA 3 by rw [show (3 : Int32).toNatClampNeg = 3 from rfl]) ?_
  refine r_iconst e_X11_tickOnce_142 ic_1 ?_
  refine r_iadd e_X11_tickOnce_143 ?_
  refine r_iastore e_X11_tickOnce_144 k2 (by unfold vp_in; decide) ?_
  rw [show (3 : Int32).toNatClampNeg = 3 from rfl]
  refine r_iload_n e_X11_tickOnce_145 rfl ?_
  refine r_ireturn e_X11_tickOnce_146 rfl ⟨rfl, rfl⟩ ?_
  obtain ⟨rfl, rfl⟩ := ps2 h; exact ⟨rfl, rfl, rfl⟩
def L_X11_playOne_9 (x1 : Int32) (x2 : Int32) (x3 : Int32) (mA : Nat) : Nat → Int32 → Mem → Option (Mem)
  | 0, _, _ => none
  | n + 1, u4, M => if x3 ≤ u4 then (some M) else (bnd2 (R_X11_tickOnce  mA M) (fun v3 M3 => L_X11_playOne_9 x1 x2 x3 mA n (u4 + 1) M3))
theorem LW_X11_playOne_9 {sh : List SC} {Q : Po} {x1 : Int32} {x2 : Int32} {x3 : Int32} {mA : Nat} {oA : Nat}  (hb1 : ModelAt sh mA oA)  : ∀ (n : Nat) (u4 : Int32) (M : Mem) (Mz : Mem), L_X11_playOne_9 x1 x2 x3 mA n u4 M = some Mz → WP m_X11_playOne Q 26 [some (.ref 242), some (.int x1), some (.int x2), none, none, none] [] sh Mz 0 0 → WP m_X11_playOne Q 9 [some (.ref 242), some (.int x1), some (.int x2), some (.int x3), some (.int u4), none] [] sh M 0 0 := by
  intro n
  induction n with
  | zero =>
    intro u4 M Mz h hE
    rw [L_X11_playOne_9] at h
    cases h
  | succ n ih =>
    intro u4 M Mz h hE
    rw [L_X11_playOne_9] at h
    have k0 : kd sh 242 = some (10 + 7, 0) := hb1.1
    refine r_iload e_X11_playOne_9 rfl ?_
    refine r_iload_n e_X11_playOne_11 rfl ?_
    refine r_icmp_ge e_X11_playOne_12 (fun c2 => ?_) (fun c2 => ?_)
    · rw [if_pos c2] at h
      refine d_6_3 ?_
      refine d_6_4 ?_
      obtain rfl := Option.some.inj h; exact hE
    · rw [if_neg c2] at h
      refine r_aload_n e_X11_playOne_15 rfl ?_
      obtain ⟨v3, M3, w3, h⟩ := bnd2_el h
      refine cV0v e_X11_playOne_16 cl_X11_397 ⟨Nat.le_of_ble_eq_true rfl, Nat.le_of_ble_eq_true rfl⟩ ⟨rfl, rfl⟩ k0 (Nat.le_of_ble_eq_true rfl) (S_X11_tickOnce hb1 w3) ?_
      refine r_pop e_X11_playOne_19 rfl ?_
      refine p_iinc_6_4 e_X11_playOne_20 rfl ic_1 rfl ?_
      refine r_goto e_X11_playOne_23 ?_
      exact ih _ _ _ h hE
def R_X11_playOne (x1 : Int32) (x2 : Int32) (x3 : Int32) (mA : Nat) (M : Mem) : Option (Mem) := bnd1 (R_X11_beginMatch x1 x2 mA M) (fun M1 => bnd1 (L_X11_playOne_9 x1 x2 x3 mA FUEL (0 : Int32) M1) (fun M4 => ck x1 4 (ck x1 4 (ck x1 4 (ck x1 4 (ck x2 4 (ck x2 4 (bd1 (setI (setI (setI M4 266 x1.toNatClampNeg ((M4.1 266 x1.toNatClampNeg) + (M4.1 mA 4))) 267 x1.toNatClampNeg ((M4.1 267 x1.toNatClampNeg) + (M4.1 mA 5))) 266 x2.toNatClampNeg (((setI M4 266 x1.toNatClampNeg ((M4.1 266 x1.toNatClampNeg) + (M4.1 mA 4))).1 266 x2.toNatClampNeg) + (M4.1 mA 5))) (fun M11 => ck x2 4 (ck x2 4 (ck x1 4 (bd1 (if (M4.1 mA 4) ≤ (M4.1 mA 5) then (if (M4.1 mA 4) = (M4.1 mA 5) then (1 : Int32) else (0 : Int32)) else (3 : Int32)) (fun v16_0 => ck x1 4 (ck x2 4 (bd1 (if (M4.1 mA 5) ≤ (M4.1 mA 4) then (if (M4.1 mA 4) = (M4.1 mA 5) then (1 : Int32) else (0 : Int32)) else (3 : Int32)) (fun v21_0 => ck x2 4 (bd1 (setI (setI (setI M11 267 x2.toNatClampNeg ((M11.1 267 x2.toNatClampNeg) + (M4.1 mA 4))) 265 x1.toNatClampNeg ((M11.1 265 x1.toNatClampNeg) + v16_0)) 265 x2.toNatClampNeg (((setI (setI M11 267 x2.toNatClampNeg ((M11.1 267 x2.toNatClampNeg) + (M4.1 mA 4))) 265 x1.toNatClampNeg ((M11.1 265 x1.toNatClampNeg) + v16_0)).1 265 x2.toNatClampNeg) + v21_0)) (fun M24 => some M24))))))))))))))))))
theorem S_X11_playOne {sh : List SC} {M : Mem} {x1 : Int32} {x2 : Int32} {x3 : Int32} {mA : Nat} {oA : Nat} {M' : Mem} (hb1 : ModelAt sh mA oA)  (h : R_X11_playOne x1 x2 x3 mA M = some M') : Gu m_X11_playOne [.ref 242, .int x1, .int x2, .int x3] sh M M' := by
  refine Sp.of (ls := [some (.ref 242), some (.int x1), some (.int x2), some (.int x3), none, none]) (by decide +kernel) (Nat.le_of_ble_eq_true rfl) rfl ?_
  have k0 : kd sh 242 = some (10 + 7, 0) := hb1.1
  have k1 : rf sh 242 27 = some mA := hb1.2.2.2.2.2.2.2.2.2.2.2.2.2.2.2.2.2.1
  have k2 : kd sh mA = some (0, 212) := hb1.2.2.2.2.2.2.2.2.2.2.2.2.2.2.2.2.2.2.2.2.2.2.2.2.2.2.2.2.2.2.2.2.2.2.2.2.2.2.2.2.2.2.2.2.2.2.2.2.2.2.2.1
  have k3 : rf sh 242 44 = some 266 := hb1.2.2.2.2.2.2.2.2.2.2.2.2.2.2.2.2.2.2.2.2.2.2.2.2.1
  have k4 : kd sh 266 = some (0, 4) := hb1.2.2.2.2.2.2.2.2.2.2.2.2.2.2.2.2.2.2.2.2.2.2.2.2.2.2.2.2.2.2.2.2.2.2.2.2.2.2.2.2.2.2.2.2.2.2.2.2.1
  have k5 : rf sh 242 45 = some 267 := hb1.2.2.2.2.2.2.2.2.2.2.2.2.2.2.2.2.2.2.2.2.2.2.2.2.2.1
  have k6 : kd sh 267 = some (0, 4) := hb1.2.2.2.2.2.2.2.2.2.2.2.2.2.2.2.2.2.2.2.2.2.2.2.2.2.2.2.2.2.2.2.2.2.2.2.2.2.2.2.2.2.2.2.2.2.2.2.2.2.1
  have k7 : rf sh 242 43 = some 265 := hb1.2.2.2.2.2.2.2.2.2.2.2.2.2.2.2.2.2.2.2.2.2.2.2.1
  have k8 : kd sh 265 = some (0, 4) := hb1.2.2.2.2.2.2.2.2.2.2.2.2.2.2.2.2.2.2.2.2.2.2.2.2.2.2.2.2.2.2.2.2.2.2.2.2.2.2.2.2.2.2.2.2.2.2.2.1
  unfold R_X11_playOne at h
  refine r_aload_n e_X11_playOne_0 rfl ?_
  refine r_iload_n e_X11_playOne_1 rfl ?_
  refine r_iload_n e_X11_playOne_2 rfl ?_
  obtain ⟨M1, w1, h⟩ := bnd1_el h
  refine cV2u e_X11_playOne_3 cl_X11_298 ⟨Nat.le_of_ble_eq_true rfl, Nat.le_of_ble_eq_true rfl⟩ ⟨rfl, rfl⟩ k0 (Nat.le_of_ble_eq_true rfl) (S_X11_beginMatch hb1 w1) ?_
  refine r_iconst e_X11_playOne_6 ic_0 ?_
  refine p_istore_6_4 e_X11_playOne_7 rfl rfl ?_
  obtain ⟨M4, w4, h⟩ := bnd1_el h
  refine LW_X11_playOne_9 hb1 _ _ _ _ w4 ?_
  refine r_aload_n e_X11_playOne_26 rfl ?_
  refine r_getR e_X11_playOne_27 fl_X11_212 k0 k1 ?_
  refine r_iconst e_X11_playOne_30 ic_4 ?_
  refine r_ialoade (v := (M4.1 mA 4)) e_X11_playOne_31 k2 (by unfold vp_in; decide) (show M4.1 mA (4 : Int32).toNatClampNeg = M4.1 mA 4 by rw [show (4 : Int32).toNatClampNeg = 4 from rfl]) ?_
  refine p_istore_6_4 e_X11_playOne_32 rfl rfl ?_
  refine r_aload_n e_X11_playOne_34 rfl ?_
  refine r_getR e_X11_playOne_35 fl_X11_212 k0 k1 ?_
  refine r_iconst e_X11_playOne_38 ic_5 ?_
  refine r_ialoade (v := (M4.1 mA 5)) e_X11_playOne_39 k2 (by unfold vp_in; decide) (show M4.1 mA (5 : Int32).toNatClampNeg = M4.1 mA 5 by rw [show (5 : Int32).toNatClampNeg = 5 from rfl]) ?_
  refine p_istore_6_5 e_X11_playOne_40 rfl rfl ?_
  refine r_aload_n e_X11_playOne_42 rfl ?_
  refine r_getR e_X11_playOne_43 fl_X11_236 k0 k3 ?_
  refine r_iload_n e_X11_playOne_46 rfl ?_
  refine r_dup2 e_X11_playOne_47 rfl rfl ?_
  obtain ⟨b5, h⟩ := ck_el h
  refine r_iaload e_X11_playOne_48 k4 b5 ?_
  refine r_iload e_X11_playOne_49 rfl ?_
  refine r_iadd e_X11_playOne_51 ?_
  obtain ⟨b6, h⟩ := ck_el h
  refine r_iastore e_X11_playOne_52 k4 b6 ?_
  refine r_aload_n e_X11_playOne_53 rfl ?_
  refine r_getR e_X11_playOne_54 fl_X11_239 k0 k5 ?_
  refine r_iload_n e_X11_playOne_57 rfl ?_
  refine r_dup2 e_X11_playOne_58 rfl rfl ?_
  obtain ⟨b7, h⟩ := ck_el h
  refine r_ialoade (v := (M4.1 267 x1.toNatClampNeg)) e_X11_playOne_59 k6 b7 (gs_aI (by omega)) ?_
  refine r_iload e_X11_playOne_60 rfl ?_
  refine r_iadd e_X11_playOne_62 ?_
  obtain ⟨b8, h⟩ := ck_el h
  refine r_iastore e_X11_playOne_63 k6 b8 ?_
  refine r_aload_n e_X11_playOne_64 rfl ?_
  refine r_getR e_X11_playOne_65 fl_X11_236 k0 k3 ?_
  refine r_iload_n e_X11_playOne_68 rfl ?_
  refine r_dup2 e_X11_playOne_69 rfl rfl ?_
  obtain ⟨b9, h⟩ := ck_el h
  refine r_ialoade (v := ((setI M4 266 x1.toNatClampNeg ((M4.1 266 x1.toNatClampNeg) + (M4.1 mA 4))).1 266 x2.toNatClampNeg)) e_X11_playOne_70 k4 b9 (gs_aI (by omega)) ?_
  refine r_iload e_X11_playOne_71 rfl ?_
  refine r_iadd e_X11_playOne_73 ?_
  obtain ⟨b10, h⟩ := ck_el h
  refine r_iastore e_X11_playOne_74 k4 b10 ?_
  obtain ⟨M11, e11, h⟩ := bd1_el h
  rw [e11]
  refine r_aload_n e_X11_playOne_75 rfl ?_
  refine r_getR e_X11_playOne_76 fl_X11_239 k0 k5 ?_
  refine r_iload_n e_X11_playOne_79 rfl ?_
  refine r_dup2 e_X11_playOne_80 rfl rfl ?_
  obtain ⟨b12, h⟩ := ck_el h
  refine r_iaload e_X11_playOne_81 k6 b12 ?_
  refine r_iload e_X11_playOne_82 rfl ?_
  refine r_iadd e_X11_playOne_84 ?_
  obtain ⟨b13, h⟩ := ck_el h
  refine r_iastore e_X11_playOne_85 k6 b13 ?_
  refine r_aload_n e_X11_playOne_86 rfl ?_
  refine r_getR e_X11_playOne_87 fl_X11_233 k0 k7 ?_
  refine r_iload_n e_X11_playOne_90 rfl ?_
  refine r_dup2 e_X11_playOne_91 rfl rfl ?_
  obtain ⟨b14, h⟩ := ck_el h
  refine r_ialoade (v := (M11.1 265 x1.toNatClampNeg)) e_X11_playOne_92 k8 b14 (gs_aI (by omega)) ?_
  refine r_iload e_X11_playOne_93 rfl ?_
  refine r_iload e_X11_playOne_95 rfl ?_
  obtain ⟨v16_0, q16, h⟩ := bd1_el h
  suffices j16 : WP m_X11_playOne _ 116 [some (.ref 242), none, some (.int x2), none, some (.int (M4.1 mA 4)), some (.int (M4.1 mA 5))] [.int v16_0, .int (M11.1 265 x1.toNatClampNeg), .int x1, .ref 265] sh (setI M11 267 x2.toNatClampNeg ((M11.1 267 x2.toNatClampNeg) + (M4.1 mA 4))) 0 0 by
    refine r_icmp_le e_X11_playOne_97 (fun c15 => ?_) (fun c15 => ?_)
    · rw [if_pos c15] at q16
      refine r_iload e_X11_playOne_104 rfl ?_
      refine r_iload e_X11_playOne_106 rfl ?_
      refine r_icmp_ne e_X11_playOne_108 (fun c17 => ?_) (fun c17 => ?_)
      · rw [if_neg c17] at q16
        refine r_iconst e_X11_playOne_115 ic_0 ?_
        refine d_6_1 ?_
        subst q16; exact j16
      · rw [if_pos c17] at q16
        refine r_iconst e_X11_playOne_111 ic_1 ?_
        refine r_goto e_X11_playOne_112 ?_
        refine d_6_1 ?_
        subst q16; exact j16
    · rw [if_neg c15] at q16
      refine r_iconst e_X11_playOne_100 ic_3 ?_
      refine r_goto e_X11_playOne_101 ?_
      refine d_6_1 ?_
      subst q16; exact j16
  refine r_iadd e_X11_playOne_116 ?_
  obtain ⟨b18, h⟩ := ck_el h
  refine r_iastore e_X11_playOne_117 k8 b18 ?_
  refine r_aload_n e_X11_playOne_118 rfl ?_
  refine r_getR e_X11_playOne_119 fl_X11_233 k0 k7 ?_
  refine r_iload_n e_X11_playOne_122 rfl ?_
  refine r_dup2 e_X11_playOne_123 rfl rfl ?_
  obtain ⟨b19, h⟩ := ck_el h
  refine r_iaload e_X11_playOne_124 k8 b19 ?_
  refine r_iload e_X11_playOne_125 rfl ?_
  refine r_iload e_X11_playOne_127 rfl ?_
  obtain ⟨v21_0, q21, h⟩ := bd1_el h
  suffices j21 : WP m_X11_playOne _ 148 [none, none, none, none, none, none] [.int v21_0, .int ((setI (setI M11 267 x2.toNatClampNeg ((M11.1 267 x2.toNatClampNeg) + (M4.1 mA 4))) 265 x1.toNatClampNeg ((M11.1 265 x1.toNatClampNeg) + v16_0)).1 265 x2.toNatClampNeg), .int x2, .ref 265] sh (setI (setI M11 267 x2.toNatClampNeg ((M11.1 267 x2.toNatClampNeg) + (M4.1 mA 4))) 265 x1.toNatClampNeg ((M11.1 265 x1.toNatClampNeg) + v16_0)) 0 0 by
    refine r_icmp_le e_X11_playOne_129 (fun c20 => ?_) (fun c20 => ?_)
    · rw [if_pos c20] at q21
      refine r_iload e_X11_playOne_136 rfl ?_
      refine r_iload e_X11_playOne_138 rfl ?_
      refine r_icmp_ne e_X11_playOne_140 (fun c22 => ?_) (fun c22 => ?_)
      · rw [if_neg c22] at q21
        refine r_iconst e_X11_playOne_147 ic_0 ?_
        refine d_6_0 ?_
        refine d_6_2 ?_
        refine d_6_4 ?_
        refine d_6_5 ?_
        subst q21; exact j21
      · rw [if_pos c22] at q21
        refine r_iconst e_X11_playOne_143 ic_1 ?_
        refine r_goto e_X11_playOne_144 ?_
        refine d_6_0 ?_
        refine d_6_2 ?_
        refine d_6_4 ?_
        refine d_6_5 ?_
        subst q21; exact j21
    · rw [if_neg c20] at q21
      refine r_iconst e_X11_playOne_132 ic_3 ?_
      refine r_goto e_X11_playOne_133 ?_
      refine d_6_0 ?_
      refine d_6_2 ?_
      refine d_6_4 ?_
      refine d_6_5 ?_
      subst q21; exact j21
  refine r_iadd e_X11_playOne_148 ?_
  obtain ⟨b23, h⟩ := ck_el h
  refine r_iastore e_X11_playOne_149 k8 b23 ?_
  obtain ⟨M24, e24, h⟩ := bd1_el h
  rw [e24]
  refine r_return e_X11_playOne_150 rfl ⟨rfl, rfl⟩ ?_
  obtain rfl := Option.some.inj h; exact ⟨rfl, rfl, rfl⟩
def L_X11_read_56 (mA : Nat) : Nat → Int32 → Mem → Option (Int32 × Mem)
  | 0, _, _ => none
  | n + 1, u1, M => if u1 = 0 then (some (u1, M)) else (if (M.1 242 5) = 0 then (some (u1, M)) else (bnd2 (R_X11_state  mA M) (fun v7 M7 => L_X11_read_56 mA n v7 M7)))
theorem LW_X11_read_56 {sh : List SC} {Q : Po}  {mA : Nat} {oA : Nat}  (hb1 : ModelAt sh mA oA)  : ∀ (n : Nat) (u1 : Int32) (M : Mem) (z1 : Int32) (Mz : Mem), L_X11_read_56 mA n u1 M = some (z1, Mz) → WP m_X11_read Q 75 [some (.ref 242), some (.int z1)] [] sh Mz 0 0 → WP m_X11_read Q 56 [some (.ref 242), some (.int u1)] [] sh M 0 0 := by
  intro n
  induction n with
  | zero =>
    intro u1 M z1 Mz h hE
    rw [L_X11_read_56] at h
    cases h
  | succ n ih =>
    intro u1 M z1 Mz h hE
    rw [L_X11_read_56] at h
    have k0 : kd sh 242 = some (10 + 7, 0) := hb1.1
    refine r_iload_n e_X11_read_56 rfl ?_
    refine r_if_eq e_X11_read_57 (fun c5 => ?_) (fun c5 => ?_)
    · rw [if_pos c5] at h
      obtain ⟨rfl, rfl⟩ := ps2 h; exact hE
    · rw [if_neg c5] at h
      refine r_aload_n e_X11_read_60 rfl ?_
      refine r_getI e_X11_read_61 fl_X11_28 i0 k0 ?_
      refine r_if_eq e_X11_read_64 (fun c6 => ?_) (fun c6 => ?_)
      · rw [if_pos c6] at h
        obtain ⟨rfl, rfl⟩ := ps2 h; exact hE
      · rw [if_neg c6] at h
        refine r_aload_n e_X11_read_67 rfl ?_
        obtain ⟨v7, M7, w7, h⟩ := bnd2_el h
        refine cV0v e_X11_read_68 cl_X11_183 ⟨Nat.le_of_ble_eq_true rfl, Nat.le_of_ble_eq_true rfl⟩ ⟨rfl, rfl⟩ k0 (Nat.le_of_ble_eq_true rfl) (S_X11_state hb1 w7) ?_
        refine p_istore_n_2_1 e_X11_read_71 rfl rfl ?_
        refine r_goto e_X11_read_72 ?_
        exact ih _ _ _ _ h hE
def R_X11_read (mA : Nat) (M : Mem) : Option (Int32 × Mem) := if (M.1 242 8) = (6 : Int32) then (bnd2 (R_X11_finding (-1002 : Int32) mA (setI M 242 2 (-1 : Int32))) (fun v15 M15 => some (v15, M15))) else (ck (M.1 242 8) 6 (bnd1 (R_X11_word  mA (setI (setI (setI (setI (setI M 242 2 (-1 : Int32)) 242 11 (0 : Int32)) 242 15 (0 : Int32)) 246 (M.1 242 8).toNatClampNeg (0 : Int32)) 242 4 (0 : Int32))) (fun M3 => bnd2 (R_X11_state  mA M3) (fun v4 M4 => bnd2 (L_X11_read_56 mA FUEL v4 M4) (fun v8_0 M8 => bnd1 (if v8_0 = 0 then (some M8) else (bnd1 (R_X11_findNames  mA M8) (fun M12 => (some M12)))) (fun M11 => if (M11.1 242 2) < 0 then (some ((((M11.1 242 8) + (1 : Int32)) - (1 : Int32)), setI (setI M11 242 1 (0 : Int32)) 242 8 ((M11.1 242 8) + (1 : Int32)))) else (bnd2 (R_X11_finding (-1005 : Int32) mA (setI M11 242 1 (0 : Int32))) (fun v14 M14 => some (v14, M14)))))))))
theorem S_X11_read {sh : List SC} {M : Mem}  {mA : Nat} {oA : Nat} {v' : Int32} {M' : Mem} (hb1 : ModelAt sh mA oA)  (h : R_X11_read mA M = some (v', M')) : Gv m_X11_read [.ref 242] sh M (.int v') M' := by
  refine Sp.of (ls := [some (.ref 242), none]) (by decide +kernel) (Nat.le_of_ble_eq_true rfl) rfl ?_
  have k0 : kd sh 242 = some (10 + 7, 0) := hb1.1
  have k1 : rf sh 242 12 = some 246 := hb1.2.2.2.2.1
  have k2 : kd sh 246 = some (0, 6) := hb1.2.2.2.2.2.2.2.2.2.2.2.2.2.2.2.2.2.2.2.2.2.2.2.2.2.2.2.2.2.2.1
  unfold R_X11_read at h
  refine r_aload_n e_X11_read_0 rfl ?_
  refine r_iconst e_X11_read_1 ic_m1 ?_
  refine r_putI e_X11_read_2 fl_X11_99 k0 ?_
  refine r_aload_n e_X11_read_5 rfl ?_
  refine r_getIe e_X11_read_6 fl_X11_105 i0 k0 (gs_nI (by decide)) ?_
  refine r_bipush e_X11_read_9 bp_6 ?_
  refine r_icmp_ne e_X11_read_11 (fun c1 => ?_) (fun c1 => ?_)
  · rw [if_neg c1] at h
    refine r_aload_n e_X11_read_22 rfl ?_
    refine r_iconst e_X11_read_23 ic_0 ?_
    refine r_putI e_X11_read_24 fl_X11_108 k0 ?_
    refine r_aload_n e_X11_read_27 rfl ?_
    refine r_iconst e_X11_read_28 ic_0 ?_
    refine r_putI e_X11_read_29 fl_X11_128 k0 ?_
    refine r_aload_n e_X11_read_32 rfl ?_
    refine r_getR e_X11_read_33 fl_X11_166 k0 k1 ?_
    refine r_aload_n e_X11_read_36 rfl ?_
    refine r_getIe e_X11_read_37 fl_X11_105 i0 k0 ((gs_nI (by decide)).trans ((gs_nI (by decide)).trans (gs_nI (by decide)))) ?_
    refine r_iconst e_X11_read_40 ic_0 ?_
    obtain ⟨b2, h⟩ := ck_el h
    refine r_iastore e_X11_read_41 k2 b2 ?_
    refine r_aload_n e_X11_read_42 rfl ?_
    refine r_iconst e_X11_read_43 ic_0 ?_
    refine r_putI e_X11_read_44 fl_X11_11 k0 ?_
    refine r_aload_n e_X11_read_47 rfl ?_
    obtain ⟨M3, w3, h⟩ := bnd1_el h
    refine cV0u e_X11_read_48 cl_X11_114 ⟨Nat.le_of_ble_eq_true rfl, Nat.le_of_ble_eq_true rfl⟩ ⟨rfl, rfl⟩ k0 (Nat.le_of_ble_eq_true rfl) (S_X11_word hb1 w3) ?_
    refine r_aload_n e_X11_read_51 rfl ?_
    obtain ⟨v4, M4, w4, h⟩ := bnd2_el h
    refine cV0v e_X11_read_52 cl_X11_183 ⟨Nat.le_of_ble_eq_true rfl, Nat.le_of_ble_eq_true rfl⟩ ⟨rfl, rfl⟩ k0 (Nat.le_of_ble_eq_true rfl) (S_X11_state hb1 w4) ?_
    refine p_istore_n_2_1 e_X11_read_55 rfl rfl ?_
    obtain ⟨v8_0, M8, w8, h⟩ := bnd2_el h
    refine LW_X11_read_56 hb1 _ _ _ _ _ w8 ?_
    refine r_iload_n e_X11_read_75 rfl ?_
    obtain ⟨K11, hK11, h⟩ := bnd1_in h
    suffices j11 : ∀ M11, K11 M11 = some (v', M') → WP m_X11_read _ 83 [some (.ref 242), none] [] sh M11 0 0 by
      refine r_if_eq e_X11_read_76 (fun c9 => ?_) (fun c9 => ?_)
      · rw [if_pos c9] at h
        refine d_2_1 ?_
        exact j11 _ h
      · rw [if_neg c9] at h
        refine r_aload_n e_X11_read_79 rfl ?_
        obtain ⟨M12, w12, h⟩ := bnd1_elK h
        refine cV0u e_X11_read_80 cl_X11_186 ⟨Nat.le_of_ble_eq_true rfl, Nat.le_of_ble_eq_true rfl⟩ ⟨rfl, rfl⟩ k0 (Nat.le_of_ble_eq_true rfl) (S_X11_findNames hb1 w12) ?_
        refine d_2_1 ?_
        exact j11 _ h
    intro M11 h
    rw [hK11] at h
    refine r_aload_n e_X11_read_83 rfl ?_
    refine r_iconst e_X11_read_84 ic_0 ?_
    refine r_putI e_X11_read_85 fl_X11_1 k0 ?_
    refine r_aload_n e_X11_read_88 rfl ?_
    refine r_getIe e_X11_read_89 fl_X11_99 i0 k0 (gs_nI (by decide)) ?_
    refine r_if_lt e_X11_read_92 (fun c13 => ?_) (fun c13 => ?_)
    · rw [if_pos c13] at h
      refine r_aload_n e_X11_read_103 rfl ?_
      refine r_dup e_X11_read_104 rfl ?_
      refine r_getIe e_X11_read_105 fl_X11_105 i0 k0 (gs_nI (by decide)) ?_
      refine r_iconst e_X11_read_108 ic_1 ?_
      refine r_iadd e_X11_read_109 ?_
      refine r_putI e_X11_read_110 fl_X11_105 k0 ?_
      refine r_aload_n e_X11_read_113 rfl ?_
      refine r_getIe e_X11_read_114 fl_X11_105 i0 k0 gs_eI ?_
      refine r_iconst e_X11_read_117 ic_1 ?_
      refine r_isub e_X11_read_118 ?_
      refine r_ireturn e_X11_read_119 rfl ⟨rfl, rfl⟩ ?_
      obtain ⟨rfl, rfl⟩ := ps2 h; exact ⟨rfl, rfl, rfl⟩
    · rw [if_neg c13] at h
      refine r_aload_n e_X11_read_95 rfl ?_
      refine r_sipush e_X11_read_96 sp_m1005 ?_
      obtain ⟨v14, M14, w14, h⟩ := bnd2_el h
      refine cV1v e_X11_read_99 cl_X11_178 ⟨Nat.le_of_ble_eq_true rfl, Nat.le_of_ble_eq_true rfl⟩ ⟨rfl, rfl⟩ k0 (Nat.le_of_ble_eq_true rfl) (S_X11_finding hb1 w14) ?_
      refine r_ireturn e_X11_read_102 rfl ⟨rfl, rfl⟩ ?_
      obtain ⟨rfl, rfl⟩ := ps2 h; exact ⟨rfl, rfl, rfl⟩
  · rw [if_pos c1] at h
    refine r_aload_n e_X11_read_14 rfl ?_
    refine r_sipush e_X11_read_15 sp_m1002 ?_
    obtain ⟨v15, M15, w15, h⟩ := bnd2_el h
    refine cV1v e_X11_read_18 cl_X11_178 ⟨Nat.le_of_ble_eq_true rfl, Nat.le_of_ble_eq_true rfl⟩ ⟨rfl, rfl⟩ k0 (Nat.le_of_ble_eq_true rfl) (S_X11_finding hb1 w15) ?_
    refine r_ireturn e_X11_read_21 rfl ⟨rfl, rfl⟩ ?_
    obtain ⟨rfl, rfl⟩ := ps2 h; exact ⟨rfl, rfl, rfl⟩
def L_X11_tick_37 (x1 : Int32) (mA : Nat) : Nat → Int32 → Int32 → Mem → Option (Int32 × Mem)
  | 0, _, _, _ => none
  | n + 1, u2, u3, M => if x1 ≤ u3 then (some (u2, M)) else (bnd2 (R_X11_tickOnce  mA M) (fun v4 M4 => L_X11_tick_37 x1 mA n v4 (u3 + 1) M4))
theorem LW_X11_tick_37 {sh : List SC} {Q : Po} {x1 : Int32} {mA : Nat} {oA : Nat}  (hb1 : ModelAt sh mA oA)  : ∀ (n : Nat) (u2 : Int32) (u3 : Int32) (M : Mem) (z2 : Int32) (Mz : Mem), L_X11_tick_37 x1 mA n u2 u3 M = some (z2, Mz) → WP m_X11_tick Q 53 [none, none, some (.int z2), none] [] sh Mz 0 0 → WP m_X11_tick Q 37 [some (.ref 242), some (.int x1), some (.int u2), some (.int u3)] [] sh M 0 0 := by
  intro n
  induction n with
  | zero =>
    intro u2 u3 M z2 Mz h hE
    rw [L_X11_tick_37] at h
    cases h
  | succ n ih =>
    intro u2 u3 M z2 Mz h hE
    rw [L_X11_tick_37] at h
    have k0 : kd sh 242 = some (10 + 7, 0) := hb1.1
    refine r_iload_n e_X11_tick_37 rfl ?_
    refine r_iload_n e_X11_tick_38 rfl ?_
    refine r_icmp_ge e_X11_tick_39 (fun c3 => ?_) (fun c3 => ?_)
    · rw [if_pos c3] at h
      refine d_4_0 ?_
      refine d_4_1 ?_
      refine d_4_3 ?_
      obtain ⟨rfl, rfl⟩ := ps2 h; exact hE
    · rw [if_neg c3] at h
      refine r_aload_n e_X11_tick_42 rfl ?_
      obtain ⟨v4, M4, w4, h⟩ := bnd2_el h
      refine cV0v e_X11_tick_43 cl_X11_397 ⟨Nat.le_of_ble_eq_true rfl, Nat.le_of_ble_eq_true rfl⟩ ⟨rfl, rfl⟩ k0 (Nat.le_of_ble_eq_true rfl) (S_X11_tickOnce hb1 w4) ?_
      refine p_istore_n_4_2 e_X11_tick_46 rfl rfl ?_
      refine p_iinc_4_3 e_X11_tick_47 rfl ic_1 rfl ?_
      refine r_goto e_X11_tick_50 ?_
      exact ih _ _ _ _ _ h hE
def R_X11_tick (x1 : Int32) (mA : Nat) (M : Mem) : Option (Int32 × Mem) := if (V_X11_isMatch  mA M) = 0 then (bnd2 (R_X11_finding (-1003 : Int32) mA M) (fun v7 M7 => some (v7, M7))) else (if (V_X11_in x1 (1 : Int32) (50 : Int32) M) = 0 then (bnd2 (R_X11_finding (-1001 : Int32) mA M) (fun v6 M6 => some (v6, M6))) else (bnd2 (L_X11_tick_37 x1 mA FUEL (-1 : Int32) (0 : Int32) M) (fun v5_0 M5 => some (v5_0, M5))))
theorem S_X11_tick {sh : List SC} {M : Mem} {x1 : Int32} {mA : Nat} {oA : Nat} {v' : Int32} {M' : Mem} (hb1 : ModelAt sh mA oA)  (h : R_X11_tick x1 mA M = some (v', M')) : Gv m_X11_tick [.ref 242, .int x1] sh M (.int v') M' := by
  refine Sp.of (ls := [some (.ref 242), some (.int x1), none, none]) (by decide +kernel) (Nat.le_of_ble_eq_true rfl) rfl ?_
  have k0 : kd sh 242 = some (10 + 7, 0) := hb1.1
  unfold R_X11_tick at h
  refine r_aload_n e_X11_tick_0 rfl ?_
  refine cV0v e_X11_tick_1 cl_X11_394 ⟨Nat.le_of_ble_eq_true rfl, Nat.le_of_ble_eq_true rfl⟩ ⟨rfl, rfl⟩ k0 (Nat.le_of_ble_eq_true rfl) (S_X11_isMatch hb1) ?_
  refine r_if_ne e_X11_tick_4 (fun c1 => ?_) (fun c1 => ?_)
  · rw [if_neg c1] at h
    refine r_iload_n e_X11_tick_15 rfl ?_
    refine r_iconst e_X11_tick_16 ic_1 ?_
    refine r_bipush e_X11_tick_17 bp_50 ?_
    refine cS3v e_X11_tick_19 cl_X11_245 ⟨Nat.le_of_ble_eq_true rfl, Nat.le_of_ble_eq_true rfl⟩ ⟨rfl, rfl⟩  (Nat.le_of_ble_eq_true rfl) (S_X11_in ) ?_
    refine r_if_ne e_X11_tick_22 (fun c2 => ?_) (fun c2 => ?_)
    · rw [if_neg c2] at h
      refine r_iconst e_X11_tick_33 ic_m1 ?_
      refine p_istore_n_4_2 e_X11_tick_34 rfl rfl ?_
      refine r_iconst e_X11_tick_35 ic_0 ?_
      refine p_istore_n_4_3 e_X11_tick_36 rfl rfl ?_
      obtain ⟨v5_0, M5, w5, h⟩ := bnd2_el h
      refine LW_X11_tick_37 hb1 _ _ _ _ _ _ w5 ?_
      refine r_iload_n e_X11_tick_53 rfl ?_
      refine r_ireturn e_X11_tick_54 rfl ⟨rfl, rfl⟩ ?_
      obtain ⟨rfl, rfl⟩ := ps2 h; exact ⟨rfl, rfl, rfl⟩
    · rw [if_pos c2] at h
      refine r_aload_n e_X11_tick_25 rfl ?_
      refine r_sipush e_X11_tick_26 sp_m1001 ?_
      obtain ⟨v6, M6, w6, h⟩ := bnd2_el h
      refine cV1v e_X11_tick_29 cl_X11_178 ⟨Nat.le_of_ble_eq_true rfl, Nat.le_of_ble_eq_true rfl⟩ ⟨rfl, rfl⟩ k0 (Nat.le_of_ble_eq_true rfl) (S_X11_finding hb1 w6) ?_
      refine r_ireturn e_X11_tick_32 rfl ⟨rfl, rfl⟩ ?_
      obtain ⟨rfl, rfl⟩ := ps2 h; exact ⟨rfl, rfl, rfl⟩
  · rw [if_pos c1] at h
    refine r_aload_n e_X11_tick_7 rfl ?_
    refine r_sipush e_X11_tick_8 sp_m1003 ?_
    obtain ⟨v7, M7, w7, h⟩ := bnd2_el h
    refine cV1v e_X11_tick_11 cl_X11_178 ⟨Nat.le_of_ble_eq_true rfl, Nat.le_of_ble_eq_true rfl⟩ ⟨rfl, rfl⟩ k0 (Nat.le_of_ble_eq_true rfl) (S_X11_finding hb1 w7) ?_
    refine r_ireturn e_X11_tick_14 rfl ⟨rfl, rfl⟩ ?_
    obtain ⟨rfl, rfl⟩ := ps2 h; exact ⟨rfl, rfl, rfl⟩
def R_X4_splitSign (a : Nat) (x1 : Int32) (x2 : Int32) (M : Mem) : Option (Mem) := ck x2 256 (bd1 (if 0 ≤ (sgIx x2) then ((27 : Int32) + (sgIx x2)) else (36 : Int32)) (fun v => R_X4_addWord a v (0 : Int64) x1 M))
theorem S_X4_splitSign {sh : List SC} {M : Mem} {a : Nat} {x1 : Int32} {x2 : Int32} {M' : Mem} (hb1 : ReaderAt sh a) (h : R_X4_splitSign a x1 x2 M = some M') : Gu m_X4_splitSign [.ref a, .int x1, .int x2] sh M M' := by
  refine Sp.of (ls := [some (.ref a), some (.int x1), some (.int x2), none]) (by decide +kernel) (Nat.le_of_ble_eq_true rfl) rfl ?_
  have k0 : kd sh a = some (4 + 7, 0) := hb1.1
  unfold R_X4_splitSign at h
  obtain ⟨b0, h⟩ := ck_el h
  obtain ⟨x, hx, rfl⟩ : ∃ x, x < 256 ∧ x2 = nI x := by
    rcases pk_ix x2 (n := 256) (by decide) with c | c | ⟨j, hj, e⟩
    · exact absurd (Or.inl c) b0
    · refine absurd (Or.inr ?_) b0
      have e1 : (nI 256).toInt = 256 := rfl
      rw [Int32.le_iff_toInt_le, e1] at c
      show 256 ≤ x2.toInt.toNat
      omega
    · exact ⟨j, hj, e⟩
  have ec : ((nI x).toUInt32 % 65536).toInt32 = nI x := by
    have key : ∀ y : Fin 256, ((nI y.val).toUInt32 % 65536).toInt32 = nI y.val := by decide +kernel
    exact key ⟨x, hx⟩
  refine r_ldcX (x := 4) e_X4_splitSign_0 (fun _ _ _ h => h.2.2.2.2.2.2.2.2) ?_
  refine r_iload_n e_X4_splitSign_2 rfl ?_
  refine r_i2c e_X4_splitSign_3 ?_
  rw [ec]
  refine cVX_v (i := 2) (As := [.int (nI x)]) (st := []) (by decide) e_X4_splitSign_4 jl_X4_149 ⟨Nat.le_of_ble_eq_true rfl, Nat.le_of_ble_eq_true rfl⟩ ⟨rfl, rfl⟩ rfl (Nat.le_of_ble_eq_true rfl) (S_six hx) rfl ⟨Nat.zero_le _, Nat.zero_le _⟩ ?_
  refine p_istore_n_4_3 e_X4_splitSign_7 rfl rfl ?_
  refine r_aload_n e_X4_splitSign_8 rfl ?_
  refine r_iload_n e_X4_splitSign_9 rfl ?_
  have key : ∀ v : Int32, R_X4_addWord a v (0 : Int64) x1 M = some M' → WP m_X4_splitSign (fun r sh' M'' => r = none ∧ sh' = sh ∧ M'' = M') 22 [some (.ref a), some (.int x1), some (.int (nI x)), some (.int (sgIx (nI x)))] [.int v, .ref a] sh M 0 0 := fun v hv => by
    refine r_lconst e_X4_splitSign_22 rfl ?_
    refine r_iload_n e_X4_splitSign_23 rfl ?_
    refine cV3u e_X4_splitSign_24 cl_X4_136 ⟨Nat.le_of_ble_eq_true rfl, Nat.le_of_ble_eq_true rfl⟩ ⟨rfl, rfl⟩ k0 (Nat.le_of_ble_eq_true rfl) (S_X4_addWord hb1 hv) ?_
    exact r_return e_X4_splitSign_27 rfl ⟨rfl, rfl⟩ ⟨rfl, rfl, rfl⟩
  refine r_if_ge e_X4_splitSign_10 (fun c => ?_) (fun c => ?_)
  · refine r_bipush e_X4_splitSign_18 bp_27 ?_
    refine r_iload_n e_X4_splitSign_20 rfl ?_
    refine r_iadd e_X4_splitSign_21 ?_
    rw [bd1, if_pos c] at h
    exact key _ h
  · refine r_bipush e_X4_splitSign_13 bp_36 ?_
    refine r_goto e_X4_splitSign_15 ?_
    rw [bd1, if_neg c] at h
    exact key _ h
def L_X4_split_9 (a : Nat) : Nat → Int32 → Int32 → Mem → Option (Mem)
  | 0, _, _, _ => none
  | n + 1, u1, u2, M => if (M.1 a 5) ≤ u1 then (some M) else (if u2 = 0 then (some M) else (bd1 (V_X10_at (a + 1) u1 800 M) (fun v3 => bnd2 (if (V_X4_isLetter v3 M) = 0 then (if (V_X4_isFigure v3 M) = 0 then (bnd1 (if (V_X4_isBlank v3 M) = 0 then (bnd1 (R_X4_splitSign a u1 v3 M) (fun M14 => (some M14))) else (some M)) (fun M13 => (some ((u1 + 1), M13)))) else (bnd2 (R_X4_splitNumber a u1 M) (fun v15 M15 => bd1 (if (u1 + (1 : Int32)) < v15 then v15 else (u1 + (1 : Int32))) (fun v16 => (some (v16, M15)))))) else (bnd2 (R_X4_splitName a u1 M) (fun v17 M17 => bd1 (if (u1 + (1 : Int32)) < v17 then v17 else (u1 + (1 : Int32))) (fun v18 => (some (v18, M17)))))) (fun v9_0 M9 => bd1 (if (M9.1 a 6) = 0 then (1 : Int32) else (if (V_X10_at (a + 3) ((M9.1 a 6) - (1 : Int32)) 801 M9) = (36 : Int32) then (0 : Int32) else (1 : Int32))) (fun v20_0 => L_X4_split_9 a n v9_0 v20_0 M9)))))
theorem LW_X4_split_9 {sh : List SC} {Q : Po} {a : Nat}   (hb1 : ReaderAt sh a)  : ∀ (n : Nat) (u1 : Int32) (u2 : Int32) (M : Mem) (Mz : Mem), L_X4_split_9 a n u1 u2 M = some Mz → WP m_X4_split Q 124 [some (.ref a), none, none, none] [] sh Mz 0 0 → WP m_X4_split Q 9 [some (.ref a), some (.int u1), some (.int u2), none] [] sh M 0 0 := by
  intro n
  induction n with
  | zero =>
    intro u1 u2 M Mz h hE
    rw [L_X4_split_9] at h
    cases h
  | succ n ih =>
    intro u1 u2 M Mz h hE
    rw [L_X4_split_9] at h
    have k0 : kd sh a = some (4 + 7, 0) := hb1.1
    have k1 : rf sh a 0 = some (a + 1) := hb1.2.1
    have k2 : kd sh (a + 1) = some (0, 800) := hb1.2.2.2.2.2.2.1
    have k3 : rf sh a 2 = some (a + 3) := hb1.2.2.2.1
    have k4 : kd sh (a + 3) = some (0, 801) := hb1.2.2.2.2.2.2.2.2.1
    refine r_iload_n e_X4_split_9 rfl ?_
    refine r_aload_n e_X4_split_10 rfl ?_
    refine r_getI e_X4_split_11 fl_X4_30 i0 k0 ?_
    refine r_icmp_ge e_X4_split_14 (fun c1 => ?_) (fun c1 => ?_)
    · rw [if_pos c1] at h
      refine d_4_1 ?_
      refine d_4_2 ?_
      obtain rfl := Option.some.inj h; exact hE
    · rw [if_neg c1] at h
      refine r_iload_n e_X4_split_17 rfl ?_
      refine r_if_eq e_X4_split_18 (fun c2 => ?_) (fun c2 => ?_)
      · rw [if_pos c2] at h
        refine d_4_1 ?_
        refine d_4_2 ?_
        obtain rfl := Option.some.inj h; exact hE
      · rw [if_neg c2] at h
        refine r_aload_n e_X4_split_21 rfl ?_
        refine r_getR e_X4_split_22 fl_X4_9 k0 k1 ?_
        refine r_iload_n e_X4_split_25 rfl ?_
        refine cSN2v e_X4_split_26 cl_X4_106 ⟨Nat.le_of_ble_eq_true rfl, Nat.le_of_ble_eq_true rfl⟩ ⟨rfl, rfl⟩  (Nat.le_of_ble_eq_true rfl) (S_X10_at k2 (by decide)) ?_
        obtain ⟨v3, e3, h⟩ := bd1_el h
        rw [e3]
        refine p_istore_n_4_3 e_X4_split_29 rfl rfl ?_
        refine r_iload_n e_X4_split_30 rfl ?_
        refine cS1v e_X4_split_31 cl_X4_110 ⟨Nat.le_of_ble_eq_true rfl, Nat.le_of_ble_eq_true rfl⟩ ⟨rfl, rfl⟩  (Nat.le_of_ble_eq_true rfl) (S_X4_isLetter ) ?_
        obtain ⟨K9, hK9, h⟩ := bnd2_in h
        suffices j9 : ∀ v9_0 M9, K9 (v9_0, M9) = some Mz → WP m_X4_split _ 90 [some (.ref a), some (.int v9_0), none, none] [] sh M9 0 0 by
          refine r_if_eq e_X4_split_34 (fun c4 => ?_) (fun c4 => ?_)
          · rw [if_pos c4] at h
            refine r_iload_n e_X4_split_52 rfl ?_
            refine cS1v e_X4_split_53 cl_X4_123 ⟨Nat.le_of_ble_eq_true rfl, Nat.le_of_ble_eq_true rfl⟩ ⟨rfl, rfl⟩  (Nat.le_of_ble_eq_true rfl) (S_X4_isFigure ) ?_
            refine r_if_eq e_X4_split_56 (fun c10 => ?_) (fun c10 => ?_)
            · rw [if_pos c10] at h
              refine r_iload_n e_X4_split_74 rfl ?_
              refine cS1v e_X4_split_75 cl_X4_129 ⟨Nat.le_of_ble_eq_true rfl, Nat.le_of_ble_eq_true rfl⟩ ⟨rfl, rfl⟩  (Nat.le_of_ble_eq_true rfl) (S_X4_isBlank ) ?_
              obtain ⟨K13, hK13, h⟩ := bnd1_inK h
              suffices j13 : ∀ M13, K13 M13 = some Mz → WP m_X4_split _ 87 [some (.ref a), some (.int u1), none, none] [] sh M13 0 0 by
                refine r_if_ne e_X4_split_78 (fun c11 => ?_) (fun c11 => ?_)
                · rw [if_neg c11] at h
                  refine d_4_2 ?_
                  refine d_4_3 ?_
                  exact j13 _ h
                · rw [if_pos c11] at h
                  refine r_aload_n e_X4_split_81 rfl ?_
                  refine r_iload_n e_X4_split_82 rfl ?_
                  refine r_iload_n e_X4_split_83 rfl ?_
                  obtain ⟨M14, w14, h⟩ := bnd1_elK h
                  refine cV2u e_X4_split_84 cl_X4_132 ⟨Nat.le_of_ble_eq_true rfl, Nat.le_of_ble_eq_true rfl⟩ ⟨rfl, rfl⟩ k0 (Nat.le_of_ble_eq_true rfl) (S_X4_splitSign hb1 w14) ?_
                  refine d_4_2 ?_
                  refine d_4_3 ?_
                  exact j13 _ h
              intro M13 h
              rw [hK13] at h
              refine p_iinc_4_1 e_X4_split_87 rfl ic_1 rfl ?_
              exact j9 _ _ h
            · rw [if_neg c10] at h
              refine r_iload_n e_X4_split_59 rfl ?_
              refine r_iconst e_X4_split_60 ic_1 ?_
              refine r_iadd e_X4_split_61 ?_
              refine r_aload_n e_X4_split_62 rfl ?_
              refine r_iload_n e_X4_split_63 rfl ?_
              obtain ⟨v15, M15, w15, h⟩ := bnd2_elK h
              refine cV1v e_X4_split_64 cl_X4_126 ⟨Nat.le_of_ble_eq_true rfl, Nat.le_of_ble_eq_true rfl⟩ ⟨rfl, rfl⟩ k0 (Nat.le_of_ble_eq_true rfl) (S_X4_splitNumber hb1 w15) ?_
              refine r_mmax e_X4_split_67 cl_X4_118 ⟨Nat.le_of_ble_eq_true rfl, Nat.le_of_ble_eq_true rfl, Nat.zero_le _, Nat.zero_le _⟩ (Nat.le_of_ble_eq_true rfl) ?_
              obtain ⟨v16, e16, h⟩ := bd1_elK h
              rw [e16]
              refine p_istore_n_4_1 e_X4_split_70 rfl rfl ?_
              refine r_goto e_X4_split_71 ?_
              refine d_4_2 ?_
              refine d_4_3 ?_
              exact j9 _ _ h
          · rw [if_neg c4] at h
            refine r_iload_n e_X4_split_37 rfl ?_
            refine r_iconst e_X4_split_38 ic_1 ?_
            refine r_iadd e_X4_split_39 ?_
            refine r_aload_n e_X4_split_40 rfl ?_
            refine r_iload_n e_X4_split_41 rfl ?_
            obtain ⟨v17, M17, w17, h⟩ := bnd2_elK h
            refine cV1v e_X4_split_42 cl_X4_114 ⟨Nat.le_of_ble_eq_true rfl, Nat.le_of_ble_eq_true rfl⟩ ⟨rfl, rfl⟩ k0 (Nat.le_of_ble_eq_true rfl) (S_X4_splitName hb1 w17) ?_
            refine r_mmax e_X4_split_45 cl_X4_118 ⟨Nat.le_of_ble_eq_true rfl, Nat.le_of_ble_eq_true rfl, Nat.zero_le _, Nat.zero_le _⟩ (Nat.le_of_ble_eq_true rfl) ?_
            obtain ⟨v18, e18, h⟩ := bd1_elK h
            rw [e18]
            refine p_istore_n_4_1 e_X4_split_48 rfl rfl ?_
            refine r_goto e_X4_split_49 ?_
            refine d_4_2 ?_
            refine d_4_3 ?_
            exact j9 _ _ h
        intro v9_0 M9 h
        rw [hK9] at h
        refine r_aload_n e_X4_split_90 rfl ?_
        refine r_getI e_X4_split_91 fl_X4_34 i0 k0 ?_
        obtain ⟨v20_0, q20, h⟩ := bd1_el h
        suffices j20 : WP m_X4_split _ 120 [some (.ref a), some (.int v9_0), none, none] [.int v20_0] sh M9 0 0 by
          refine r_if_eq e_X4_split_94 (fun c19 => ?_) (fun c19 => ?_)
          · rw [if_pos c19] at q20
            refine r_iconst e_X4_split_115 ic_1 ?_
            refine r_goto e_X4_split_116 ?_
            subst q20; exact j20
          · rw [if_neg c19] at q20
            refine r_aload_n e_X4_split_97 rfl ?_
            refine r_getR e_X4_split_98 fl_X4_21 k0 k3 ?_
            refine r_aload_n e_X4_split_101 rfl ?_
            refine r_getI e_X4_split_102 fl_X4_34 i0 k0 ?_
            refine r_iconst e_X4_split_105 ic_1 ?_
            refine r_isub e_X4_split_106 ?_
            refine cSN2v e_X4_split_107 cl_X4_106 ⟨Nat.le_of_ble_eq_true rfl, Nat.le_of_ble_eq_true rfl⟩ ⟨rfl, rfl⟩  (Nat.le_of_ble_eq_true rfl) (S_X10_at k4 (by decide)) ?_
            refine r_bipush e_X4_split_110 bp_36 ?_
            refine r_icmp_eq e_X4_split_112 (fun c21 => ?_) (fun c21 => ?_)
            · rw [if_pos c21] at q20
              refine r_iconst e_X4_split_119 ic_0 ?_
              subst q20; exact j20
            · rw [if_neg c21] at q20
              refine r_iconst e_X4_split_115 ic_1 ?_
              refine r_goto e_X4_split_116 ?_
              subst q20; exact j20
        refine p_istore_n_4_2 e_X4_split_120 rfl rfl ?_
        refine r_goto e_X4_split_121 ?_
        exact ih _ _ _ _ h hE
def R_X4_split (a : Nat) (M : Mem) : Option (Mem) := bnd1 (L_X4_split_9 a FUEL (0 : Int32) (1 : Int32) (setI M a 6 (0 : Int32))) (fun M22 => bnd1 (R_X4_addWord a (37 : Int32) (0 : Int64) (M22.1 a 5) M22) (fun M23 => some M23))
theorem S_X4_split {sh : List SC} {M : Mem} {a : Nat}  {M' : Mem} (hb1 : ReaderAt sh a)  (h : R_X4_split a M = some M') : Gu m_X4_split [.ref a] sh M M' := by
  refine Sp.of (ls := [some (.ref a), none, none, none]) (by decide +kernel) (Nat.le_of_ble_eq_true rfl) rfl ?_
  have k0 : kd sh a = some (4 + 7, 0) := hb1.1
  unfold R_X4_split at h
  refine r_aload_n e_X4_split_0 rfl ?_
  refine r_iconst e_X4_split_1 ic_0 ?_
  refine r_putI e_X4_split_2 fl_X4_34 k0 ?_
  refine r_iconst e_X4_split_5 ic_0 ?_
  refine p_istore_n_4_1 e_X4_split_6 rfl rfl ?_
  refine r_iconst e_X4_split_7 ic_1 ?_
  refine p_istore_n_4_2 e_X4_split_8 rfl rfl ?_
  obtain ⟨M22, w22, h⟩ := bnd1_el h
  refine LW_X4_split_9 hb1 _ _ _ _ _ w22 ?_
  refine r_aload_n e_X4_split_124 rfl ?_
  refine r_bipush e_X4_split_125 bp_37 ?_
  refine r_lconst e_X4_split_127 lk_0 ?_
  refine r_aload_n e_X4_split_128 rfl ?_
  refine r_getI e_X4_split_129 fl_X4_30 i0 k0 ?_
  obtain ⟨M23, w23, h⟩ := bnd1_el h
  refine cV3u e_X4_split_132 cl_X4_136 ⟨Nat.le_of_ble_eq_true rfl, Nat.le_of_ble_eq_true rfl⟩ ⟨rfl, rfl⟩ k0 (Nat.le_of_ble_eq_true rfl) (S_X4_addWord hb1 w23) ?_
  refine r_return e_X4_split_135 rfl ⟨rfl, rfl⟩ ?_
  obtain rfl := Option.some.inj h; exact ⟨rfl, rfl, rfl⟩
