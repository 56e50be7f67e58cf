def FV_X2_roll_2 (a : Nat) : Nat → Nat → Mem → Int32
  | 0, i2, M => (0 : Int32)
  | n + 1, i2, M => if 0 ≤ (M.1 (a + 4) 2) then (0 : Int32) else (if (M.1 (a + 4) 4) ≤ 0 then (0 : Int32) else (let v202_0 : Int32 := if ((M.1 (a + 4) 0) + (M.1 (a + 4) 5)) < 0 then (1 : Int32) else (if ((M.1 (a + 4) 0) + (M.1 (a + 4) 5)) < (15 : Int32) then (0 : Int32) else (1 : Int32)); let v204_0 : Int32 := if ((M.1 (a + 4) 1) + (M.1 (a + 4) 6)) < 0 then (1 : Int32) else (if ((M.1 (a + 4) 1) + (M.1 (a + 4) 6)) < (9 : Int32) then (0 : Int32) else (1 : Int32)); if v202_0 = 0 then (let M207_0 : Mem := if v202_0 = 0 then (setI M (a + 4) 4 ((M.1 (a + 4) 4) - (1 : Int32))) else (setI (setI M (a + 4) 4 ((M.1 (a + 4) 4) - (1 : Int32))) (a + 4) 5 (-(M.1 (a + 4) 5))); let M208_0 : Mem := if v204_0 = 0 then M207_0 else (setI M207_0 (a + 4) 6 (-(M207_0.1 (a + 4) 6))); let M209_0 : Mem := if v202_0 = 0 then (if v204_0 = 0 then (U_X2_arrive a ((M.1 (a + 4) 0) + (M.1 (a + 4) 5)) ((M.1 (a + 4) 1) + (M.1 (a + 4) 6)) M208_0) else M208_0) else M208_0; (FV_X2_roll_2 a n (i2 + 1) M209_0)) else (if ((M.1 (a + 4) 1) + (M.1 (a + 4) 6)) < (3 : Int32) then (let M212_0 : Mem := if v202_0 = 0 then (setI M (a + 4) 4 ((M.1 (a + 4) 4) - (1 : Int32))) else (setI (setI M (a + 4) 4 ((M.1 (a + 4) 4) - (1 : Int32))) (a + 4) 5 (-(M.1 (a + 4) 5))); let M213_0 : Mem := if v204_0 = 0 then M212_0 else (setI M212_0 (a + 4) 6 (-(M212_0.1 (a + 4) 6))); let M214_0 : Mem := if v202_0 = 0 then (if v204_0 = 0 then (U_X2_arrive a ((M.1 (a + 4) 0) + (M.1 (a + 4) 5)) ((M.1 (a + 4) 1) + (M.1 (a + 4) 6)) M213_0) else M213_0) else M213_0; (FV_X2_roll_2 a n (i2 + 1) M214_0)) else (if (5 : Int32) < ((M.1 (a + 4) 1) + (M.1 (a + 4) 6)) then (let M217_0 : Mem := if v202_0 = 0 then (setI M (a + 4) 4 ((M.1 (a + 4) 4) - (1 : Int32))) else (setI (setI M (a + 4) 4 ((M.1 (a + 4) 4) - (1 : Int32))) (a + 4) 5 (-(M.1 (a + 4) 5))); let M218_0 : Mem := if v204_0 = 0 then M217_0 else (setI M217_0 (a + 4) 6 (-(M217_0.1 (a + 4) 6))); let M219_0 : Mem := if v202_0 = 0 then (if v204_0 = 0 then (U_X2_arrive a ((M.1 (a + 4) 0) + (M.1 (a + 4) 5)) ((M.1 (a + 4) 1) + (M.1 (a + 4) 6)) M218_0) else M218_0) else M218_0; (FV_X2_roll_2 a n (i2 + 1) M219_0)) else (if 0 ≤ ((M.1 (a + 4) 0) + (M.1 (a + 4) 5)) then (1 : Int32) else (2 : Int32))))))
def FU_X2_roll_2 (a : Nat) : Nat → Nat → Mem → Mem
  | 0, i2, M => M
  | n + 1, i2, M => if 0 ≤ (M.1 (a + 4) 2) then M else (if (M.1 (a + 4) 4) ≤ 0 then M else (let v202_0 : Int32 := if ((M.1 (a + 4) 0) + (M.1 (a + 4) 5)) < 0 then (1 : Int32) else (if ((M.1 (a + 4) 0) + (M.1 (a + 4) 5)) < (15 : Int32) then (0 : Int32) else (1 : Int32)); let v204_0 : Int32 := if ((M.1 (a + 4) 1) + (M.1 (a + 4) 6)) < 0 then (1 : Int32) else (if ((M.1 (a + 4) 1) + (M.1 (a + 4) 6)) < (9 : Int32) then (0 : Int32) else (1 : Int32)); if v202_0 = 0 then (let M207_0 : Mem := if v202_0 = 0 then (setI M (a + 4) 4 ((M.1 (a + 4) 4) - (1 : Int32))) else (setI (setI M (a + 4) 4 ((M.1 (a + 4) 4) - (1 : Int32))) (a + 4) 5 (-(M.1 (a + 4) 5))); let M208_0 : Mem := if v204_0 = 0 then M207_0 else (setI M207_0 (a + 4) 6 (-(M207_0.1 (a + 4) 6))); let M209_0 : Mem := if v202_0 = 0 then (if v204_0 = 0 then (U_X2_arrive a ((M.1 (a + 4) 0) + (M.1 (a + 4) 5)) ((M.1 (a + 4) 1) + (M.1 (a + 4) 6)) M208_0) else M208_0) else M208_0; (FU_X2_roll_2 a n (i2 + 1) M209_0)) else (if ((M.1 (a + 4) 1) + (M.1 (a + 4) 6)) < (3 : Int32) then (let M212_0 : Mem := if v202_0 = 0 then (setI M (a + 4) 4 ((M.1 (a + 4) 4) - (1 : Int32))) else (setI (setI M (a + 4) 4 ((M.1 (a + 4) 4) - (1 : Int32))) (a + 4) 5 (-(M.1 (a + 4) 5))); let M213_0 : Mem := if v204_0 = 0 then M212_0 else (setI M212_0 (a + 4) 6 (-(M212_0.1 (a + 4) 6))); let M214_0 : Mem := if v202_0 = 0 then (if v204_0 = 0 then (U_X2_arrive a ((M.1 (a + 4) 0) + (M.1 (a + 4) 5)) ((M.1 (a + 4) 1) + (M.1 (a + 4) 6)) M213_0) else M213_0) else M213_0; (FU_X2_roll_2 a n (i2 + 1) M214_0)) else (if (5 : Int32) < ((M.1 (a + 4) 1) + (M.1 (a + 4) 6)) then (let M217_0 : Mem := if v202_0 = 0 then (setI M (a + 4) 4 ((M.1 (a + 4) 4) - (1 : Int32))) else (setI (setI M (a + 4) 4 ((M.1 (a + 4) 4) - (1 : Int32))) (a + 4) 5 (-(M.1 (a + 4) 5))); let M218_0 : Mem := if v204_0 = 0 then M217_0 else (setI M217_0 (a + 4) 6 (-(M217_0.1 (a + 4) 6))); let M219_0 : Mem := if v202_0 = 0 then (if v204_0 = 0 then (U_X2_arrive a ((M.1 (a + 4) 0) + (M.1 (a + 4) 5)) ((M.1 (a + 4) 1) + (M.1 (a + 4) 6)) M218_0) else M218_0) else M218_0; (FU_X2_roll_2 a n (i2 + 1) M219_0)) else (if 0 ≤ ((M.1 (a + 4) 0) + (M.1 (a + 4) 5)) then (setI M (a + 4) 4 ((M.1 (a + 4) 4) - (1 : Int32))) else (setI M (a + 4) 4 ((M.1 (a + 4) 4) - (1 : Int32))))))))
theorem L_X2_roll_2 {sh : List SC} {Q : Po} {a : Nat}    (hb1 : MatchAt sh a)   : ∀ (n i2 : Nat) (M : Mem), i2 + n = 3 → Q (some (.int (FV_X2_roll_2 a n i2 M))) sh (FU_X2_roll_2 a n i2 M) → WP m_X2_roll Q 2 [some (.ref a), some (.int (nI i2)), none, none, none, none] [] sh M 0 0 := by
  have k0 : kd sh a = some (2 + 7, 0) := hb1.1
  have k1 : rf sh a 4 = some (a + 4) := hb1.2.2.2.2.2.1
  have k2 : kd sh (a + 4) = some (0 + 7, 0) := hb1.2.2.2.2.2.2.2.2.2.1.1
  intro n
  induction n with
  | zero =>
    intro i2 M hi hq
    have hz : (3 : Int32) ≤ nI i2 := by
      have q : i2 = 3 := by omega
      rw [q]; exact nI_le (Nat.le_refl _) (by decide)
    refine r_iload_n e_X2_roll_2 rfl ?_
    refine r_iconst e_X2_roll_3 ic_3 ?_
    refine r_icmp_ge e_X2_roll_4 (fun _ => ?_) (fun hh => absurd hz hh)
    refine r_iconst e_X2_roll_193 ic_0 ?_
    refine r_ireturn e_X2_roll_194 rfl ⟨rfl, rfl⟩ ?_
    (simp only [FV_X2_roll_2, FU_X2_roll_2] at hq; first | exact hq | (simp only []; exact hq))
  | succ n ih =>
    intro i2 M hi hq
    have hlt_i2 : i2 < 3 := by omega
    have hcl_i2 : (nI i2).toNatClampNeg = i2 := nI_clamp (by omega)
    have hs : ¬ (3 : Int32) ≤ nI i2 := nI_ge (b := 3) hlt_i2 (by decide)
    refine r_iload_n e_X2_roll_2 rfl ?_
    refine r_iconst e_X2_roll_3 ic_3 ?_
    refine r_icmp_ge e_X2_roll_4 (fun hh => absurd hh hs) (fun _ => ?_)
    refine r_aload_n e_X2_roll_7 rfl ?_
    refine r_getR e_X2_roll_8 fl_X2_27 k0 k1 ?_
    refine r_getI e_X2_roll_11 fl_X2_132 i0 k2 ?_
    refine r_if_ge e_X2_roll_14 (fun h14_200 => ?_) (fun h14_200 => ?_)
    · refine r_iconst e_X2_roll_193 ic_0 ?_
      refine r_ireturn e_X2_roll_194 rfl ⟨rfl, rfl⟩ ?_
      (simp only [FV_X2_roll_2, FU_X2_roll_2, if_pos h14_200] at hq; first | exact hq | (simp only [if_pos h14_200]; exact hq))
    · refine r_aload_n e_X2_roll_17 rfl ?_
      refine r_getR e_X2_roll_18 fl_X2_27 k0 k1 ?_
      refine r_getI e_X2_roll_21 fl_X2_241 i0 k2 ?_
      refine r_if_le e_X2_roll_24 (fun h24_201 => ?_) (fun h24_201 => ?_)
      · refine r_iconst e_X2_roll_193 ic_0 ?_
        refine r_ireturn e_X2_roll_194 rfl ⟨rfl, rfl⟩ ?_
        (simp only [FV_X2_roll_2, FU_X2_roll_2, if_neg h14_200, if_pos h24_201] at hq; first | exact hq | (simp only [if_neg h14_200, if_pos h24_201]; exact hq))
      · refine r_aload_n e_X2_roll_27 rfl ?_
        refine r_getR e_X2_roll_28 fl_X2_27 k0 k1 ?_
        refine r_dup e_X2_roll_31 rfl ?_
        refine r_getI e_X2_roll_32 fl_X2_241 i0 k2 ?_
        refine r_iconst e_X2_roll_35 ic_1 ?_
        refine r_isub e_X2_roll_36 ?_
        refine r_putI e_X2_roll_37 fl_X2_241 k2 ?_
        refine r_aload_n e_X2_roll_40 rfl ?_
        refine r_getR e_X2_roll_41 fl_X2_27 k0 k1 ?_
        refine r_getIe e_X2_roll_44 fl_X2_110 i0 k2 (gs_nI (by decide)) ?_
        refine r_aload_n e_X2_roll_47 rfl ?_
        refine r_getR e_X2_roll_48 fl_X2_27 k0 k1 ?_
        refine r_getIe e_X2_roll_51 fl_X2_242 i0 k2 (gs_nI (by decide)) ?_
        refine r_iadd e_X2_roll_54 ?_
        refine p_istore_n_6_2 e_X2_roll_55 rfl rfl ?_
        refine r_aload_n e_X2_roll_56 rfl ?_
        refine r_getR e_X2_roll_57 fl_X2_27 k0 k1 ?_
        refine r_getIe e_X2_roll_60 fl_X2_113 i0 k2 (gs_nI (by decide)) ?_
        refine r_aload_n e_X2_roll_63 rfl ?_
        refine r_getR e_X2_roll_64 fl_X2_27 k0 k1 ?_
        refine r_getIe e_X2_roll_67 fl_X2_243 i0 k2 (gs_nI (by decide)) ?_
        refine r_iadd e_X2_roll_70 ?_
        refine p_istore_n_6_3 e_X2_roll_71 rfl rfl ?_
        refine r_iload_n e_X2_roll_72 rfl ?_
        obtain ⟨v202_0, e_v202_0⟩ : ∃ z : Int32, z = (if ((M.1 (a + 4) 0) + (M.1 (a + 4) 5)) < 0 then (1 : Int32) else (if ((M.1 (a + 4) 0) + (M.1 (a + 4) 5)) < (15 : Int32) then (0 : Int32) else (1 : Int32))) := ⟨_, rfl⟩
        have z_v202_0 : v202_0 = 0 ∨ v202_0 = 1 := by rw [e_v202_0]; exact (zi (Or.inr rfl) (zi (Or.inl rfl) (Or.inr rfl)))
        suffices j87_202 : WP m_X2_roll Q 87 [some (.ref a), some (.int (nI i2)), some (.int ((M.1 (a + 4) 0) + (M.1 (a + 4) 5))), some (.int ((M.1 (a + 4) 1) + (M.1 (a + 4) 6))), none, none] [.int v202_0] sh (setI M (a + 4) 4 ((M.1 (a + 4) 4) - (1 : Int32))) 0 0 by
          refine r_if_lt e_X2_roll_73 (fun h73_202 => ?_) (fun h73_202 => ?_)
          · refine r_iconst e_X2_roll_82 ic_1 ?_
            refine r_goto e_X2_roll_83 ?_
            (rw [show v202_0 = (1 : Int32) from (e_v202_0.trans (if_pos h73_202))] at j87_202; exact j87_202)
          · refine r_iload_n e_X2_roll_76 rfl ?_
            refine r_bipush e_X2_roll_77 bp_15 ?_
            refine r_icmp_lt e_X2_roll_79 (fun h79_203 => ?_) (fun h79_203 => ?_)
            · refine r_iconst e_X2_roll_86 ic_0 ?_
              (rw [show v202_0 = (0 : Int32) from ((e_v202_0.trans (if_neg h73_202)).trans (if_pos h79_203))] at j87_202; exact j87_202)
            · refine r_iconst e_X2_roll_82 ic_1 ?_
              refine r_goto e_X2_roll_83 ?_
              (rw [show v202_0 = (1 : Int32) from ((e_v202_0.trans (if_neg h73_202)).trans (if_neg h79_203))] at j87_202; exact j87_202)
        refine p_istore_6_4 e_X2_roll_87 rfl rfl ?_
        refine r_iload_n e_X2_roll_89 rfl ?_
        obtain ⟨v204_0, e_v204_0⟩ : ∃ z : Int32, z = (if ((M.1 (a + 4) 1) + (M.1 (a + 4) 6)) < 0 then (1 : Int32) else (if ((M.1 (a + 4) 1) + (M.1 (a + 4) 6)) < (9 : Int32) then (0 : Int32) else (1 : Int32))) := ⟨_, rfl⟩
        have z_v204_0 : v204_0 = 0 ∨ v204_0 = 1 := by rw [e_v204_0]; exact (zi (Or.inr rfl) (zi (Or.inl rfl) (Or.inr rfl)))
        suffices j104_204 : WP m_X2_roll Q 104 [some (.ref a), some (.int (nI i2)), some (.int ((M.1 (a + 4) 0) + (M.1 (a + 4) 5))), some (.int ((M.1 (a + 4) 1) + (M.1 (a + 4) 6))), some (.int v202_0), none] [.int v204_0] sh (setI M (a + 4) 4 ((M.1 (a + 4) 4) - (1 : Int32))) 0 0 by
          refine r_if_lt e_X2_roll_90 (fun h90_204 => ?_) (fun h90_204 => ?_)
          · refine r_iconst e_X2_roll_99 ic_1 ?_
            refine r_goto e_X2_roll_100 ?_
            (rw [show v204_0 = (1 : Int32) from (e_v204_0.trans (if_pos h90_204))] at j104_204; exact j104_204)
          · refine r_iload_n e_X2_roll_93 rfl ?_
            refine r_bipush e_X2_roll_94 bp_9 ?_
            refine r_icmp_lt e_X2_roll_96 (fun h96_205 => ?_) (fun h96_205 => ?_)
            · refine r_iconst e_X2_roll_103 ic_0 ?_
              (rw [show v204_0 = (0 : Int32) from ((e_v204_0.trans (if_neg h90_204)).trans (if_pos h96_205))] at j104_204; exact j104_204)
            · refine r_iconst e_X2_roll_99 ic_1 ?_
              refine r_goto e_X2_roll_100 ?_
              (rw [show v204_0 = (1 : Int32) from ((e_v204_0.trans (if_neg h90_204)).trans (if_neg h96_205))] at j104_204; exact j104_204)
        refine p_istore_6_5 e_X2_roll_104 rfl rfl ?_
        refine r_iload e_X2_roll_106 rfl ?_
        refine r_if_eq e_X2_roll_108 (fun h108_206 => ?_) (fun h108_206 => ?_)
        · refine r_iload e_X2_roll_131 rfl ?_
          obtain ⟨M207_0, e_M207_0⟩ : ∃ z : Mem, z = (if v202_0 = 0 then (setI M (a + 4) 4 ((M.1 (a + 4) 4) - (1 : Int32))) else (setI (setI M (a + 4) 4 ((M.1 (a + 4) 4) - (1 : Int32))) (a + 4) 5 (-(M.1 (a + 4) 5)))) := ⟨_, rfl⟩
          suffices j151_207 : WP m_X2_roll Q 151 [some (.ref a), some (.int (nI i2)), some (.int ((M.1 (a + 4) 0) + (M.1 (a + 4) 5))), some (.int ((M.1 (a + 4) 1) + (M.1 (a + 4) 6))), some (.int v202_0), some (.int v204_0)] [] sh M207_0 0 0 by
            refine r_if_eq e_X2_roll_133 (fun h133_207 => ?_) (fun h133_207 => ?_)
            · (rw [show M207_0 = setI M (a + 4) 4 ((M.1 (a + 4) 4) - (1 : Int32)) from (e_M207_0.trans (if_pos h133_207))] at j151_207; exact j151_207)
            · refine r_aload_n e_X2_roll_136 rfl ?_
              refine r_getR e_X2_roll_137 fl_X2_27 k0 k1 ?_
              refine r_aload_n e_X2_roll_140 rfl ?_
              refine r_getR e_X2_roll_141 fl_X2_27 k0 k1 ?_
              refine r_getIe e_X2_roll_144 fl_X2_242 i0 k2 (gs_nI (by decide)) ?_
              refine r_ineg e_X2_roll_147 ?_
              refine r_putI e_X2_roll_148 fl_X2_242 k2 ?_
              (rw [show M207_0 = setI (setI M (a + 4) 4 ((M.1 (a + 4) 4) - (1 : Int32))) (a + 4) 5 (-(M.1 (a + 4) 5)) from (e_M207_0.trans (if_neg h133_207))] at j151_207; exact j151_207)
          refine r_iload e_X2_roll_151 rfl ?_
          obtain ⟨M208_0, e_M208_0⟩ : ∃ z : Mem, z = (if v204_0 = 0 then M207_0 else (setI M207_0 (a + 4) 6 (-(M207_0.1 (a + 4) 6)))) := ⟨_, rfl⟩
          suffices j171_208 : WP m_X2_roll Q 171 [some (.ref a), some (.int (nI i2)), some (.int ((M.1 (a + 4) 0) + (M.1 (a + 4) 5))), some (.int ((M.1 (a + 4) 1) + (M.1 (a + 4) 6))), some (.int v202_0), some (.int v204_0)] [] sh M208_0 0 0 by
            refine r_if_eq e_X2_roll_153 (fun h153_208 => ?_) (fun h153_208 => ?_)
            · (rw [show M208_0 = M207_0 from (e_M208_0.trans (if_pos h153_208))] at j171_208; exact j171_208)
            · refine r_aload_n e_X2_roll_156 rfl ?_
              refine r_getR e_X2_roll_157 fl_X2_27 k0 k1 ?_
              refine r_aload_n e_X2_roll_160 rfl ?_
              refine r_getR e_X2_roll_161 fl_X2_27 k0 k1 ?_
              refine r_getI e_X2_roll_164 fl_X2_243 i0 k2 ?_
              refine r_ineg e_X2_roll_167 ?_
              refine r_putI e_X2_roll_168 fl_X2_243 k2 ?_
              (rw [show M208_0 = setI M207_0 (a + 4) 6 (-(M207_0.1 (a + 4) 6)) from (e_M208_0.trans (if_neg h153_208))] at j171_208; exact j171_208)
          refine r_iload e_X2_roll_171 rfl ?_
          obtain ⟨M209_0, e_M209_0⟩ : ∃ z : Mem, z = (if v202_0 = 0 then (if v204_0 = 0 then (U_X2_arrive a ((M.1 (a + 4) 0) + (M.1 (a + 4) 5)) ((M.1 (a + 4) 1) + (M.1 (a + 4) 6)) M208_0) else M208_0) else M208_0) := ⟨_, rfl⟩
          suffices j187_209 : WP m_X2_roll Q 187 [some (.ref a), some (.int (nI i2)), some (.int ((M.1 (a + 4) 0) + (M.1 (a + 4) 5))), some (.int ((M.1 (a + 4) 1) + (M.1 (a + 4) 6))), some (.int v202_0), some (.int v204_0)] [] sh M209_0 0 0 by
            refine r_if_ne e_X2_roll_173 (fun h173_209 => ?_) (fun h173_209 => ?_)
            · (rw [show M209_0 = M208_0 from (e_M209_0.trans (if_neg h173_209))] at j187_209; exact j187_209)
            · refine r_iload e_X2_roll_176 rfl ?_
              refine r_if_ne e_X2_roll_178 (fun h178_210 => ?_) (fun h178_210 => ?_)
              · (rw [show M209_0 = M208_0 from ((e_M209_0.trans (if_pos h173_209)).trans (if_neg h178_210))] at j187_209; exact j187_209)
              · refine r_aload_n e_X2_roll_181 rfl ?_
                refine r_iload_n e_X2_roll_182 rfl ?_
                refine r_iload_n e_X2_roll_183 rfl ?_
                refine cV2u e_X2_roll_184 cl_X2_244 ⟨Nat.le_of_ble_eq_true rfl, Nat.le_of_ble_eq_true rfl⟩ ⟨rfl, rfl⟩ k0 (Nat.le_of_ble_eq_true rfl) (S_X2_arrive hb1) ?_
                (rw [show M209_0 = U_X2_arrive a ((M.1 (a + 4) 0) + (M.1 (a + 4) 5)) ((M.1 (a + 4) 1) + (M.1 (a + 4) 6)) M208_0 from ((e_M209_0.trans (if_pos h173_209)).trans (if_pos h178_210))] at j187_209; exact j187_209)
          refine p_iinc_6_1 e_X2_roll_187 rfl ic_1 rfl ?_
          rw [nI_1 i2]
          refine r_goto e_X2_roll_190 ?_
          refine d_6_2 ?_
          refine d_6_3 ?_
          refine d_6_4 ?_
          refine d_6_5 ?_
          (subst e_M209_0 e_M208_0 e_M207_0 e_v204_0 e_v202_0; simp only [FV_X2_roll_2, FU_X2_roll_2, if_neg h14_200, if_neg h24_201, if_pos h108_206] at hq; first | exact ih (i2 + 1) _ (by omega) hq | (simp only [if_neg h14_200, if_neg h24_201, if_pos h108_206]; exact ih (i2 + 1) _ (by omega) hq))
        · refine r_iload_n e_X2_roll_111 rfl ?_
          refine r_iconst e_X2_roll_112 ic_3 ?_
          refine r_icmp_lt e_X2_roll_113 (fun h113_211 => ?_) (fun h113_211 => ?_)
          · refine r_iload e_X2_roll_131 rfl ?_
            obtain ⟨M212_0, e_M212_0⟩ : ∃ z : Mem, z = (if v202_0 = 0 then (setI M (a + 4) 4 ((M.1 (a + 4) 4) - (1 : Int32))) else (setI (setI M (a + 4) 4 ((M.1 (a + 4) 4) - (1 : Int32))) (a + 4) 5 (-(M.1 (a + 4) 5)))) := ⟨_, rfl⟩
            suffices j151_212 : WP m_X2_roll Q 151 [some (.ref a), some (.int (nI i2)), some (.int ((M.1 (a + 4) 0) + (M.1 (a + 4) 5))), some (.int ((M.1 (a + 4) 1) + (M.1 (a + 4) 6))), some (.int v202_0), some (.int v204_0)] [] sh M212_0 0 0 by
              refine r_if_eq e_X2_roll_133 (fun h133_212 => ?_) (fun h133_212 => ?_)
              · (rw [show M212_0 = setI M (a + 4) 4 ((M.1 (a + 4) 4) - (1 : Int32)) from (e_M212_0.trans (if_pos h133_212))] at j151_212; exact j151_212)
              · refine r_aload_n e_X2_roll_136 rfl ?_
                refine r_getR e_X2_roll_137 fl_X2_27 k0 k1 ?_
                refine r_aload_n e_X2_roll_140 rfl ?_
                refine r_getR e_X2_roll_141 fl_X2_27 k0 k1 ?_
                refine r_getIe e_X2_roll_144 fl_X2_242 i0 k2 (gs_nI (by decide)) ?_
                refine r_ineg e_X2_roll_147 ?_
                refine r_putI e_X2_roll_148 fl_X2_242 k2 ?_
                (rw [show M212_0 = setI (setI M (a + 4) 4 ((M.1 (a + 4) 4) - (1 : Int32))) (a + 4) 5 (-(M.1 (a + 4) 5)) from (e_M212_0.trans (if_neg h133_212))] at j151_212; exact j151_212)
            refine r_iload e_X2_roll_151 rfl ?_
            obtain ⟨M213_0, e_M213_0⟩ : ∃ z : Mem, z = (if v204_0 = 0 then M212_0 else (setI M212_0 (a + 4) 6 (-(M212_0.1 (a + 4) 6)))) := ⟨_, rfl⟩
            suffices j171_213 : WP m_X2_roll Q 171 [some (.ref a), some (.int (nI i2)), some (.int ((M.1 (a + 4) 0) + (M.1 (a + 4) 5))), some (.int ((M.1 (a + 4) 1) + (M.1 (a + 4) 6))), some (.int v202_0), some (.int v204_0)] [] sh M213_0 0 0 by
              refine r_if_eq e_X2_roll_153 (fun h153_213 => ?_) (fun h153_213 => ?_)
              · (rw [show M213_0 = M212_0 from (e_M213_0.trans (if_pos h153_213))] at j171_213; exact j171_213)
              · refine r_aload_n e_X2_roll_156 rfl ?_
                refine r_getR e_X2_roll_157 fl_X2_27 k0 k1 ?_
                refine r_aload_n e_X2_roll_160 rfl ?_
                refine r_getR e_X2_roll_161 fl_X2_27 k0 k1 ?_
                refine r_getI e_X2_roll_164 fl_X2_243 i0 k2 ?_
                refine r_ineg e_X2_roll_167 ?_
                refine r_putI e_X2_roll_168 fl_X2_243 k2 ?_
                (rw [show M213_0 = setI M212_0 (a + 4) 6 (-(M212_0.1 (a + 4) 6)) from (e_M213_0.trans (if_neg h153_213))] at j171_213; exact j171_213)
            refine r_iload e_X2_roll_171 rfl ?_
            obtain ⟨M214_0, e_M214_0⟩ : ∃ z : Mem, z = (if v202_0 = 0 then (if v204_0 = 0 then (U_X2_arrive a ((M.1 (a + 4) 0) + (M.1 (a + 4) 5)) ((M.1 (a + 4) 1) + (M.1 (a + 4) 6)) M213_0) else M213_0) else M213_0) := ⟨_, rfl⟩
            suffices j187_214 : WP m_X2_roll Q 187 [some (.ref a), some (.int (nI i2)), some (.int ((M.1 (a + 4) 0) + (M.1 (a + 4) 5))), some (.int ((M.1 (a + 4) 1) + (M.1 (a + 4) 6))), some (.int v202_0), some (.int v204_0)] [] sh M214_0 0 0 by
              refine r_if_ne e_X2_roll_173 (fun h173_214 => ?_) (fun h173_214 => ?_)
              · (rw [show M214_0 = M213_0 from (e_M214_0.trans (if_neg h173_214))] at j187_214; exact j187_214)
              · refine r_iload e_X2_roll_176 rfl ?_
                refine r_if_ne e_X2_roll_178 (fun h178_215 => ?_) (fun h178_215 => ?_)
                · (rw [show M214_0 = M213_0 from ((e_M214_0.trans (if_pos h173_214)).trans (if_neg h178_215))] at j187_214; exact j187_214)
                · refine r_aload_n e_X2_roll_181 rfl ?_
                  refine r_iload_n e_X2_roll_182 rfl ?_
                  refine r_iload_n e_X2_roll_183 rfl ?_
                  refine cV2u e_X2_roll_184 cl_X2_244 ⟨Nat.le_of_ble_eq_true rfl, Nat.le_of_ble_eq_true rfl⟩ ⟨rfl, rfl⟩ k0 (Nat.le_of_ble_eq_true rfl) (S_X2_arrive hb1) ?_
                  (rw [show M214_0 = U_X2_arrive a ((M.1 (a + 4) 0) + (M.1 (a + 4) 5)) ((M.1 (a + 4) 1) + (M.1 (a + 4) 6)) M213_0 from ((e_M214_0.trans (if_pos h173_214)).trans (if_pos h178_215))] at j187_214; exact j187_214)
            refine p_iinc_6_1 e_X2_roll_187 rfl ic_1 rfl ?_
            rw [nI_1 i2]
            refine r_goto e_X2_roll_190 ?_
            refine d_6_2 ?_
            refine d_6_3 ?_
            refine d_6_4 ?_
            refine d_6_5 ?_
            (subst e_M214_0 e_M213_0 e_M212_0 e_v204_0 e_v202_0; simp only [FV_X2_roll_2, FU_X2_roll_2, if_neg h14_200, if_neg h24_201, if_neg h108_206, if_pos h113_211] at hq; first | exact ih (i2 + 1) _ (by omega) hq | (simp only [if_neg h14_200, if_neg h24_201, if_neg h108_206, if_pos h113_211]; exact ih (i2 + 1) _ (by omega) hq))
          · refine r_iload_n e_X2_roll_116 rfl ?_
            refine r_iconst e_X2_roll_117 ic_5 ?_
            refine r_icmp_gt e_X2_roll_118 (fun h118_216 => ?_) (fun h118_216 => ?_)
            · refine r_iload e_X2_roll_131 rfl ?_
              obtain ⟨M217_0, e_M217_0⟩ : ∃ z : Mem, z = (if v202_0 = 0 then (setI M (a + 4) 4 ((M.1 (a + 4) 4) - (1 : Int32))) else (setI (setI M (a + 4) 4 ((M.1 (a + 4) 4) - (1 : Int32))) (a + 4) 5 (-(M.1 (a + 4) 5)))) := ⟨_, rfl⟩
              suffices j151_217 : WP m_X2_roll Q 151 [some (.ref a), some (.int (nI i2)), some (.int ((M.1 (a + 4) 0) + (M.1 (a + 4) 5))), some (.int ((M.1 (a + 4) 1) + (M.1 (a + 4) 6))), some (.int v202_0), some (.int v204_0)] [] sh M217_0 0 0 by
                refine r_if_eq e_X2_roll_133 (fun h133_217 => ?_) (fun h133_217 => ?_)
                · (rw [show M217_0 = setI M (a + 4) 4 ((M.1 (a + 4) 4) - (1 : Int32)) from (e_M217_0.trans (if_pos h133_217))] at j151_217; exact j151_217)
                · refine r_aload_n e_X2_roll_136 rfl ?_
                  refine r_getR e_X2_roll_137 fl_X2_27 k0 k1 ?_
                  refine r_aload_n e_X2_roll_140 rfl ?_
                  refine r_getR e_X2_roll_141 fl_X2_27 k0 k1 ?_
                  refine r_getIe e_X2_roll_144 fl_X2_242 i0 k2 (gs_nI (by decide)) ?_
                  refine r_ineg e_X2_roll_147 ?_
                  refine r_putI e_X2_roll_148 fl_X2_242 k2 ?_
                  (rw [show M217_0 = setI (setI M (a + 4) 4 ((M.1 (a + 4) 4) - (1 : Int32))) (a + 4) 5 (-(M.1 (a + 4) 5)) from (e_M217_0.trans (if_neg h133_217))] at j151_217; exact j151_217)
              refine r_iload e_X2_roll_151 rfl ?_
              obtain ⟨M218_0, e_M218_0⟩ : ∃ z : Mem, z = (if v204_0 = 0 then M217_0 else (setI M217_0 (a + 4) 6 (-(M217_0.1 (a + 4) 6)))) := ⟨_, rfl⟩
              suffices j171_218 : WP m_X2_roll Q 171 [some (.ref a), some (.int (nI i2)), some (.int ((M.1 (a + 4) 0) + (M.1 (a + 4) 5))), some (.int ((M.1 (a + 4) 1) + (M.1 (a + 4) 6))), some (.int v202_0), some (.int v204_0)] [] sh M218_0 0 0 by
                refine r_if_eq e_X2_roll_153 (fun h153_218 => ?_) (fun h153_218 => ?_)
                · (rw [show M218_0 = M217_0 from (e_M218_0.trans (if_pos h153_218))] at j171_218; exact j171_218)
                · refine r_aload_n e_X2_roll_156 rfl ?_
                  refine r_getR e_X2_roll_157 fl_X2_27 k0 k1 ?_
                  refine r_aload_n e_X2_roll_160 rfl ?_
                  refine r_getR e_X2_roll_161 fl_X2_27 k0 k1 ?_
                  refine r_getI e_X2_roll_164 fl_X2_243 i0 k2 ?_
                  refine r_ineg e_X2_roll_167 ?_
                  refine r_putI e_X2_roll_168 fl_X2_243 k2 ?_
                  (rw [show M218_0 = setI M217_0 (a + 4) 6 (-(M217_0.1 (a + 4) 6)) from (e_M218_0.trans (if_neg h153_218))] at j171_218; exact j171_218)
              refine r_iload e_X2_roll_171 rfl ?_
              obtain ⟨M219_0, e_M219_0⟩ : ∃ z : Mem, z = (if v202_0 = 0 then (if v204_0 = 0 then (U_X2_arrive a ((M.1 (a + 4) 0) + (M.1 (a + 4) 5)) ((M.1 (a + 4) 1) + (M.1 (a + 4) 6)) M218_0) else M218_0) else M218_0) := ⟨_, rfl⟩
              suffices j187_219 : WP m_X2_roll Q 187 [some (.ref a), some (.int (nI i2)), some (.int ((M.1 (a + 4) 0) + (M.1 (a + 4) 5))), some (.int ((M.1 (a + 4) 1) + (M.1 (a + 4) 6))), some (.int v202_0), some (.int v204_0)] [] sh M219_0 0 0 by
                refine r_if_ne e_X2_roll_173 (fun h173_219 => ?_) (fun h173_219 => ?_)
                · (rw [show M219_0 = M218_0 from (e_M219_0.trans (if_neg h173_219))] at j187_219; exact j187_219)
                · refine r_iload e_X2_roll_176 rfl ?_
                  refine r_if_ne e_X2_roll_178 (fun h178_220 => ?_) (fun h178_220 => ?_)
                  · (rw [show M219_0 = M218_0 from ((e_M219_0.trans (if_pos h173_219)).trans (if_neg h178_220))] at j187_219; exact j187_219)
                  · refine r_aload_n e_X2_roll_181 rfl ?_
                    refine r_iload_n e_X2_roll_182 rfl ?_
                    refine r_iload_n e_X2_roll_183 rfl ?_
                    refine cV2u e_X2_roll_184 cl_X2_244 ⟨Nat.le_of_ble_eq_true rfl, Nat.le_of_ble_eq_true rfl⟩ ⟨rfl, rfl⟩ k0 (Nat.le_of_ble_eq_true rfl) (S_X2_arrive hb1) ?_
                    (rw [show M219_0 = U_X2_arrive a ((M.1 (a + 4) 0) + (M.1 (a + 4) 5)) ((M.1 (a + 4) 1) + (M.1 (a + 4) 6)) M218_0 from ((e_M219_0.trans (if_pos h173_219)).trans (if_pos h178_220))] at j187_219; exact j187_219)
              refine p_iinc_6_1 e_X2_roll_187 rfl ic_1 rfl ?_
              rw [nI_1 i2]
              refine r_goto e_X2_roll_190 ?_
              refine d_6_2 ?_
              refine d_6_3 ?_
              refine d_6_4 ?_
              refine d_6_5 ?_
              (subst e_M219_0 e_M218_0 e_M217_0 e_v204_0 e_v202_0; simp only [FV_X2_roll_2, FU_X2_roll_2, if_neg h14_200, if_neg h24_201, if_neg h108_206, if_neg h113_211, if_pos h118_216] at hq; first | exact ih (i2 + 1) _ (by omega) hq | (simp only [if_neg h14_200, if_neg h24_201, if_neg h108_206, if_neg h113_211, if_pos h118_216]; exact ih (i2 + 1) _ (by omega) hq))
            · refine r_iload_n e_X2_roll_121 rfl ?_
              refine r_if_ge e_X2_roll_122 (fun h122_221 => ?_) (fun h122_221 => ?_)
              · refine r_iconst e_X2_roll_129 ic_1 ?_
                refine r_ireturn e_X2_roll_130 rfl ⟨rfl, rfl⟩ ?_
                (subst e_v204_0 e_v202_0; simp only [FV_X2_roll_2, FU_X2_roll_2, if_neg h14_200, if_neg h24_201, if_neg h108_206, if_neg h113_211, if_neg h118_216, if_pos h122_221] at hq; first | exact hq | (simp only [if_neg h14_200, if_neg h24_201, if_neg h108_206, if_neg h113_211, if_neg h118_216, if_pos h122_221]; exact hq))
              · refine r_iconst e_X2_roll_125 ic_2 ?_
                refine r_goto e_X2_roll_126 ?_
                refine r_ireturn e_X2_roll_130 rfl ⟨rfl, rfl⟩ ?_
                (subst e_v204_0 e_v202_0; simp only [FV_X2_roll_2, FU_X2_roll_2, if_neg h14_200, if_neg h24_201, if_neg h108_206, if_neg h113_211, if_neg h118_216, if_neg h122_221] at hq; first | exact hq | (simp only [if_neg h14_200, if_neg h24_201, if_neg h108_206, if_neg h113_211, if_neg h118_216, if_neg h122_221]; exact hq))
def V_X2_roll (a : Nat) (M : Mem) : Int32 := (FV_X2_roll_2 a 3 0 M)
def U_X2_roll (a : Nat) (M : Mem) : Mem := (FU_X2_roll_2 a 3 0 M)
theorem S_X2_roll {sh : List SC} {M : Mem} {a : Nat}  (hb1 : MatchAt sh a)  : Gv m_X2_roll [.ref a] sh M (.int (V_X2_roll a M)) (U_X2_roll a M) := by
  refine Sp.of (ls := [some (.ref a), none, none, none, none, none]) (by decide +kernel) (Nat.le_of_ble_eq_true rfl) rfl ?_
  refine r_iconst e_X2_roll_0 ic_0 ?_
  refine p_istore_n_6_1 e_X2_roll_1 rfl rfl ?_
  skip
  show WP m_X2_roll _ 2 [some (.ref a), some (.int (nI 0)), none, none, none, none] [] sh M 0 0
  refine L_X2_roll_2 hb1 3 0  M (by omega) ?_
  (refine ⟨?_, rfl, ?_⟩ <;> ((try unfold V_X2_roll); (try unfold U_X2_roll); (try simp only []); (try rfl)))
def V_X10_ball (x1 : Int32) (M : Mem) : Int32 := if (M.1 122 6) = 0 then (V_X10_finding (-1003 : Int32) M) else (if x1 < 0 then (V_X10_finding (-1001 : Int32) M) else (if x1 < (6 : Int32) then (V_X0_shown 126 x1 M) else (V_X10_finding (-1001 : Int32) M)))
def U_X10_ball (x1 : Int32) (M : Mem) : Mem := if (M.1 122 6) = 0 then (U_X10_finding (-1003 : Int32) M) else (if x1 < 0 then (U_X10_finding (-1001 : Int32) M) else (if x1 < (6 : Int32) then M else (U_X10_finding (-1001 : Int32) M)))
theorem S_X10_ball {sh : List SC} {M : Mem} {x1 : Int32}  (hb1 : PitchAt sh)  : Gv m_X10_ball [.ref 0, .int x1] sh M (.int (V_X10_ball x1 M)) (U_X10_ball x1 M) := by
  refine Sp.of (ls := [some (.ref 0), some (.int x1)]) (by decide +kernel) (Nat.le_of_ble_eq_true rfl) rfl ?_
  have k0 : kd sh 0 = some (9 + 7, 0) := hb1.1
  have k1 : rf sh 0 4 = some 122 := hb1.2.2.2.2.2.1
  have k2 : kd sh 122 = some (2 + 7, 0) := hb1.2.2.2.2.2.2.2.2.2.2.2.2.2.2.2.2.1.1
  have k3 : rf sh 122 4 = some 126 := hb1.2.2.2.2.2.2.2.2.2.2.2.2.2.2.2.2.1.2.2.2.2.2.1
  have k4 : kd sh 126 = some (0 + 7, 0) := hb1.2.2.2.2.2.2.2.2.2.2.2.2.2.2.2.2.1.2.2.2.2.2.2.2.2.2.1.1
  refine r_aload_n e_X10_ball_0 rfl ?_
  refine r_getR e_X10_ball_1 fl_X10_63 k0 k1 ?_
  refine r_getI e_X10_ball_4 fl_X10_115 i3 k2 ?_
  refine r_if_ne e_X10_ball_7 (fun h7_0 => ?_) (fun h7_0 => ?_)
  · refine r_iload_n e_X10_ball_18 rfl ?_
    refine r_if_lt e_X10_ball_19 (fun h19_1 => ?_) (fun h19_1 => ?_)
    · refine r_aload_n e_X10_ball_28 rfl ?_
      refine r_sipush e_X10_ball_29 sp_m1001 ?_
      refine cV1v e_X10_ball_32 cl_X10_70 ⟨Nat.le_of_ble_eq_true rfl, Nat.le_of_ble_eq_true rfl⟩ ⟨rfl, rfl⟩ k0 (Nat.le_of_ble_eq_true rfl) (S_X10_finding hb1) ?_
      refine r_ireturn e_X10_ball_35 rfl ⟨rfl, rfl⟩ ?_
      (refine ⟨?_, rfl, ?_⟩ <;> ((try unfold V_X10_ball); (try unfold U_X10_ball); (try simp only [if_neg h7_0, if_pos h19_1]); (try rfl)))
    · refine r_iload_n e_X10_ball_22 rfl ?_
      refine r_bipush e_X10_ball_23 bp_6 ?_
      refine r_icmp_lt e_X10_ball_25 (fun h25_2 => ?_) (fun h25_2 => ?_)
      · refine r_aload_n e_X10_ball_36 rfl ?_
        refine r_getR e_X10_ball_37 fl_X10_63 k0 k1 ?_
        refine r_getR e_X10_ball_40 fl_X10_124 k2 k3 ?_
        refine r_iload_n e_X10_ball_43 rfl ?_
        refine cV1v e_X10_ball_44 cl_X10_128 ⟨Nat.le_of_ble_eq_true rfl, Nat.le_of_ble_eq_true rfl⟩ ⟨rfl, rfl⟩ k4 (Nat.le_of_ble_eq_true rfl) (S_X0_shown hb1.2.2.2.2.2.2.2.2.2.2.2.2.2.2.2.2.1.2.2.2.2.2.2.2.2.2.1) ?_
        refine r_ireturn e_X10_ball_47 rfl ⟨rfl, rfl⟩ ?_
        (refine ⟨?_, rfl, ?_⟩ <;> ((try unfold V_X10_ball); (try unfold U_X10_ball); (try simp only [if_neg h7_0, if_neg h19_1, if_pos h25_2]); (try rfl)))
      · refine r_aload_n e_X10_ball_28 rfl ?_
        refine r_sipush e_X10_ball_29 sp_m1001 ?_
        refine cV1v e_X10_ball_32 cl_X10_70 ⟨Nat.le_of_ble_eq_true rfl, Nat.le_of_ble_eq_true rfl⟩ ⟨rfl, rfl⟩ k0 (Nat.le_of_ble_eq_true rfl) (S_X10_finding hb1) ?_
        refine r_ireturn e_X10_ball_35 rfl ⟨rfl, rfl⟩ ?_
        (refine ⟨?_, rfl, ?_⟩ <;> ((try unfold V_X10_ball); (try unfold U_X10_ball); (try simp only [if_neg h7_0, if_neg h19_1, if_neg h25_2]); (try rfl)))
  · refine r_aload_n e_X10_ball_10 rfl ?_
    refine r_sipush e_X10_ball_11 sp_m1003 ?_
    refine cV1v e_X10_ball_14 cl_X10_70 ⟨Nat.le_of_ble_eq_true rfl, Nat.le_of_ble_eq_true rfl⟩ ⟨rfl, rfl⟩ k0 (Nat.le_of_ble_eq_true rfl) (S_X10_finding hb1) ?_
    refine r_ireturn e_X10_ball_17 rfl ⟨rfl, rfl⟩ ?_
    (refine ⟨?_, rfl, ?_⟩ <;> ((try unfold V_X10_ball); (try unfold U_X10_ball); (try simp only [if_pos h7_0]); (try rfl)))
def V_X10_robot (x1 : Int32) (x2 : Int32) (M : Mem) : Int32 := if (M.1 122 6) = 0 then (V_X10_finding (-1003 : Int32) M) else (if x1 < 0 then (V_X10_finding (-1001 : Int32) M) else (if (10 : Int32) ≤ x1 then (V_X10_finding (-1001 : Int32) M) else (if x2 < 0 then (V_X10_finding (-1001 : Int32) M) else (if x2 < (11 : Int32) then (V_X5_shown (132 + 2 * x1.toNatClampNeg) x2 M) else (V_X10_finding (-1001 : Int32) M)))))
def U_X10_robot (x1 : Int32) (x2 : Int32) (M : Mem) : Mem := if (M.1 122 6) = 0 then (U_X10_finding (-1003 : Int32) M) else (if x1 < 0 then (U_X10_finding (-1001 : Int32) M) else (if (10 : Int32) ≤ x1 then (U_X10_finding (-1001 : Int32) M) else (if x2 < 0 then (U_X10_finding (-1001 : Int32) M) else (if x2 < (11 : Int32) then M else (U_X10_finding (-1001 : Int32) M)))))
theorem S_X10_robot {sh : List SC} {M : Mem} {x1 : Int32} {x2 : Int32}  (hb1 : PitchAt sh)  : Gv m_X10_robot [.ref 0, .int x1, .int x2] sh M (.int (V_X10_robot x1 x2 M)) (U_X10_robot x1 x2 M) := by
  refine Sp.of (ls := [some (.ref 0), some (.int x1), some (.int x2)]) (by decide +kernel) (Nat.le_of_ble_eq_true rfl) rfl ?_
  have k0 : kd sh 0 = some (9 + 7, 0) := hb1.1
  have k1 : rf sh 0 4 = some 122 := hb1.2.2.2.2.2.1
  have k2 : kd sh 122 = some (2 + 7, 0) := hb1.2.2.2.2.2.2.2.2.2.2.2.2.2.2.2.2.1.1
  have k3 : rf sh 122 3 = some 125 := hb1.2.2.2.2.2.2.2.2.2.2.2.2.2.2.2.2.1.2.2.2.2.1
  have k4 : kd sh 125 = some (6, 10) := hb1.2.2.2.2.2.2.2.2.2.2.2.2.2.2.2.2.1.2.2.2.2.2.2.2.1
  refine r_aload_n e_X10_robot_0 rfl ?_
  refine r_getR e_X10_robot_1 fl_X10_63 k0 k1 ?_
  refine r_getI e_X10_robot_4 fl_X10_115 i3 k2 ?_
  refine r_if_ne e_X10_robot_7 (fun h7_0 => ?_) (fun h7_0 => ?_)
  · refine r_iload_n e_X10_robot_18 rfl ?_
    refine r_if_lt e_X10_robot_19 (fun h19_1 => ?_) (fun h19_1 => ?_)
    · refine r_aload_n e_X10_robot_44 rfl ?_
      refine r_sipush e_X10_robot_45 sp_m1001 ?_
      refine cV1v e_X10_robot_48 cl_X10_70 ⟨Nat.le_of_ble_eq_true rfl, Nat.le_of_ble_eq_true rfl⟩ ⟨rfl, rfl⟩ k0 (Nat.le_of_ble_eq_true rfl) (S_X10_finding hb1) ?_
      refine r_ireturn e_X10_robot_51 rfl ⟨rfl, rfl⟩ ?_
      (refine ⟨?_, rfl, ?_⟩ <;> ((try unfold V_X10_robot); (try unfold U_X10_robot); (try simp only [if_neg h7_0, if_pos h19_1]); (try rfl)))
    · refine r_iload_n e_X10_robot_22 rfl ?_
      refine r_aload_n e_X10_robot_23 rfl ?_
      refine r_getR e_X10_robot_24 fl_X10_63 k0 k1 ?_
      refine r_getR e_X10_robot_27 fl_X10_131 k2 k3 ?_
      refine r_alen (v := (10 : Int32)) e_X10_robot_30 k4 (by decide) rfl ?_
      refine r_icmp_ge e_X10_robot_31 (fun h31_2 => ?_) (fun h31_2 => ?_)
      · refine r_aload_n e_X10_robot_44 rfl ?_
        refine r_sipush e_X10_robot_45 sp_m1001 ?_
        refine cV1v e_X10_robot_48 cl_X10_70 ⟨Nat.le_of_ble_eq_true rfl, Nat.le_of_ble_eq_true rfl⟩ ⟨rfl, rfl⟩ k0 (Nat.le_of_ble_eq_true rfl) (S_X10_finding hb1) ?_
        refine r_ireturn e_X10_robot_51 rfl ⟨rfl, rfl⟩ ?_
        (refine ⟨?_, rfl, ?_⟩ <;> ((try unfold V_X10_robot); (try unfold U_X10_robot); (try simp only [if_neg h7_0, if_neg h19_1, if_pos h31_2]); (try rfl)))
      · refine r_iload_n e_X10_robot_34 rfl ?_
        refine r_if_lt e_X10_robot_35 (fun h35_3 => ?_) (fun h35_3 => ?_)
        · refine r_aload_n e_X10_robot_44 rfl ?_
          refine r_sipush e_X10_robot_45 sp_m1001 ?_
          refine cV1v e_X10_robot_48 cl_X10_70 ⟨Nat.le_of_ble_eq_true rfl, Nat.le_of_ble_eq_true rfl⟩ ⟨rfl, rfl⟩ k0 (Nat.le_of_ble_eq_true rfl) (S_X10_finding hb1) ?_
          refine r_ireturn e_X10_robot_51 rfl ⟨rfl, rfl⟩ ?_
          (refine ⟨?_, rfl, ?_⟩ <;> ((try unfold V_X10_robot); (try unfold U_X10_robot); (try simp only [if_neg h7_0, if_neg h19_1, if_neg h31_2, if_pos h35_3]); (try rfl)))
        · refine r_iload_n e_X10_robot_38 rfl ?_
          refine r_bipush e_X10_robot_39 bp_11 ?_
          refine r_icmp_lt e_X10_robot_41 (fun h41_4 => ?_) (fun h41_4 => ?_)
          · refine r_aload_n e_X10_robot_52 rfl ?_
            refine r_getR e_X10_robot_53 fl_X10_63 k0 k1 ?_
            refine r_getR e_X10_robot_56 fl_X10_131 k2 k3 ?_
            refine r_iload_n e_X10_robot_59 rfl ?_
            refine r_aaload (b := (132 + 2 * x1.toNatClampNeg)) e_X10_robot_60 k4 ⟨by decide, by decide⟩ (vp_guard h19_1 h31_2 (by decide)) (hb1.2.2.2.2.2.2.2.2.2.2.2.2.2.2.2.2.1.2.2.2.2.2.2.2.2.1 x1.toNatClampNeg (vp_lt (vp_guard h19_1 h31_2 (by decide)))).1 ?_
            refine r_iload_n e_X10_robot_61 rfl ?_
            refine cV1v e_X10_robot_62 cl_X10_137 ⟨Nat.le_of_ble_eq_true rfl, Nat.le_of_ble_eq_true rfl⟩ ⟨rfl, rfl⟩ (show kd sh (132 + 2 * x1.toNatClampNeg) = some (5 + 7, 0) from (hb1.2.2.2.2.2.2.2.2.2.2.2.2.2.2.2.2.1.2.2.2.2.2.2.2.2.1 x1.toNatClampNeg (vp_lt (vp_guard h19_1 h31_2 (by decide)))).2.1) (Nat.le_of_ble_eq_true rfl) (S_X5_shown (hb1.2.2.2.2.2.2.2.2.2.2.2.2.2.2.2.2.1.2.2.2.2.2.2.2.2.1 x1.toNatClampNeg (vp_lt (vp_guard h19_1 h31_2 (by decide)))).2) ?_
            refine r_ireturn e_X10_robot_65 rfl ⟨rfl, rfl⟩ ?_
            (refine ⟨?_, rfl, ?_⟩ <;> ((try unfold V_X10_robot); (try unfold U_X10_robot); (try simp only [if_neg h7_0, if_neg h19_1, if_neg h31_2, if_neg h35_3, if_pos h41_4]); (try rfl)))
          · refine r_aload_n e_X10_robot_44 rfl ?_
            refine r_sipush e_X10_robot_45 sp_m1001 ?_
            refine cV1v e_X10_robot_48 cl_X10_70 ⟨Nat.le_of_ble_eq_true rfl, Nat.le_of_ble_eq_true rfl⟩ ⟨rfl, rfl⟩ k0 (Nat.le_of_ble_eq_true rfl) (S_X10_finding hb1) ?_
            refine r_ireturn e_X10_robot_51 rfl ⟨rfl, rfl⟩ ?_
            (refine ⟨?_, rfl, ?_⟩ <;> ((try unfold V_X10_robot); (try unfold U_X10_robot); (try simp only [if_neg h7_0, if_neg h19_1, if_neg h31_2, if_neg h35_3, if_neg h41_4]); (try rfl)))
  · refine r_aload_n e_X10_robot_10 rfl ?_
    refine r_sipush e_X10_robot_11 sp_m1003 ?_
    refine cV1v e_X10_robot_14 cl_X10_70 ⟨Nat.le_of_ble_eq_true rfl, Nat.le_of_ble_eq_true rfl⟩ ⟨rfl, rfl⟩ k0 (Nat.le_of_ble_eq_true rfl) (S_X10_finding hb1) ?_
    refine r_ireturn e_X10_robot_17 rfl ⟨rfl, rfl⟩ ?_
    (refine ⟨?_, rfl, ?_⟩ <;> ((try unfold V_X10_robot); (try unfold U_X10_robot); (try simp only [if_pos h7_0]); (try rfl)))
def V_X10_score (x1 : Int32) (M : Mem) : Int32 := if (M.1 122 6) = 0 then (V_X10_finding (-1003 : Int32) M) else (if x1 < 0 then (V_X10_finding (-1001 : Int32) M) else (if x1 < (9 : Int32) then (let v3_0 : Int32 := if x1 = 0 then (M.1 122 7) else (V_X7_shown 129 x1 M); v3_0) else (V_X10_finding (-1001 : Int32) M)))
def U_X10_score (x1 : Int32) (M : Mem) : Mem := if (M.1 122 6) = 0 then (U_X10_finding (-1003 : Int32) M) else (if x1 < 0 then (U_X10_finding (-1001 : Int32) M) else (if x1 < (9 : Int32) then M else (U_X10_finding (-1001 : Int32) M)))
theorem S_X10_score {sh : List SC} {M : Mem} {x1 : Int32}  (hb1 : PitchAt sh)  : Gv m_X10_score [.ref 0, .int x1] sh M (.int (V_X10_score x1 M)) (U_X10_score x1 M) := by
  refine Sp.of (ls := [some (.ref 0), some (.int x1)]) (by decide +kernel) (Nat.le_of_ble_eq_true rfl) rfl ?_
  have k0 : kd sh 0 = some (9 + 7, 0) := hb1.1
  have k1 : rf sh 0 4 = some 122 := hb1.2.2.2.2.2.1
  have k2 : kd sh 122 = some (2 + 7, 0) := hb1.2.2.2.2.2.2.2.2.2.2.2.2.2.2.2.2.1.1
  have k3 : rf sh 122 5 = some 129 := hb1.2.2.2.2.2.2.2.2.2.2.2.2.2.2.2.2.1.2.2.2.2.2.2.1
  have k4 : kd sh 129 = some (7 + 7, 0) := hb1.2.2.2.2.2.2.2.2.2.2.2.2.2.2.2.2.1.2.2.2.2.2.2.2.2.2.2.1.1
  refine r_aload_n e_X10_score_0 rfl ?_
  refine r_getR e_X10_score_1 fl_X10_63 k0 k1 ?_
  refine r_getI e_X10_score_4 fl_X10_115 i3 k2 ?_
  refine r_if_ne e_X10_score_7 (fun h7_0 => ?_) (fun h7_0 => ?_)
  · refine r_iload_n e_X10_score_18 rfl ?_
    refine r_if_lt e_X10_score_19 (fun h19_1 => ?_) (fun h19_1 => ?_)
    · refine r_aload_n e_X10_score_28 rfl ?_
      refine r_sipush e_X10_score_29 sp_m1001 ?_
      refine cV1v e_X10_score_32 cl_X10_70 ⟨Nat.le_of_ble_eq_true rfl, Nat.le_of_ble_eq_true rfl⟩ ⟨rfl, rfl⟩ k0 (Nat.le_of_ble_eq_true rfl) (S_X10_finding hb1) ?_
      refine r_ireturn e_X10_score_35 rfl ⟨rfl, rfl⟩ ?_
      (refine ⟨?_, rfl, ?_⟩ <;> ((try unfold V_X10_score); (try unfold U_X10_score); (try simp only [if_neg h7_0, if_pos h19_1]); (try rfl)))
    · refine r_iload_n e_X10_score_22 rfl ?_
      refine r_bipush e_X10_score_23 bp_9 ?_
      refine r_icmp_lt e_X10_score_25 (fun h25_2 => ?_) (fun h25_2 => ?_)
      · refine r_iload_n e_X10_score_36 rfl ?_
        obtain ⟨v3_0, e_v3_0⟩ : ∃ z : Int32, z = (if x1 = 0 then (M.1 122 7) else (V_X7_shown 129 x1 M)) := ⟨_, rfl⟩
        suffices j61_3 : WP m_X10_score (fun r sh' M'' => r = some (.int (V_X10_score x1 M)) ∧ sh' = sh ∧ M'' = (U_X10_score x1 M)) 61 [some (.ref 0), some (.int x1)] [.int v3_0] sh M 0 0 by
          refine r_if_ne e_X10_score_37 (fun h37_3 => ?_) (fun h37_3 => ?_)
          · refine r_aload_n e_X10_score_50 rfl ?_
            refine r_getR e_X10_score_51 fl_X10_63 k0 k1 ?_
            refine r_getR e_X10_score_54 fl_X10_143 k2 k3 ?_
            refine r_iload_n e_X10_score_57 rfl ?_
            refine cV1v e_X10_score_58 cl_X10_147 ⟨Nat.le_of_ble_eq_true rfl, Nat.le_of_ble_eq_true rfl⟩ ⟨rfl, rfl⟩ k4 (Nat.le_of_ble_eq_true rfl) (S_X7_shown hb1.2.2.2.2.2.2.2.2.2.2.2.2.2.2.2.2.1.2.2.2.2.2.2.2.2.2.2.1) ?_
            (rw [show v3_0 = (V_X7_shown 129 x1 M) from (e_v3_0.trans (if_neg h37_3))] at j61_3; exact j61_3)
          · refine r_aload_n e_X10_score_40 rfl ?_
            refine r_getR e_X10_score_41 fl_X10_63 k0 k1 ?_
            refine r_getI e_X10_score_44 fl_X10_140 i0 k2 ?_
            refine r_goto e_X10_score_47 ?_
            (rw [show v3_0 = (M.1 122 7) from (e_v3_0.trans (if_pos h37_3))] at j61_3; exact j61_3)
        refine r_ireturn e_X10_score_61 rfl ⟨rfl, rfl⟩ ?_
        (subst e_v3_0; refine ⟨?_, rfl, ?_⟩ <;> ((try unfold V_X10_score); (try unfold U_X10_score); (try simp only [if_neg h7_0, if_neg h19_1, if_pos h25_2]); (try rfl)))
      · refine r_aload_n e_X10_score_28 rfl ?_
        refine r_sipush e_X10_score_29 sp_m1001 ?_
        refine cV1v e_X10_score_32 cl_X10_70 ⟨Nat.le_of_ble_eq_true rfl, Nat.le_of_ble_eq_true rfl⟩ ⟨rfl, rfl⟩ k0 (Nat.le_of_ble_eq_true rfl) (S_X10_finding hb1) ?_
        refine r_ireturn e_X10_score_35 rfl ⟨rfl, rfl⟩ ?_
        (refine ⟨?_, rfl, ?_⟩ <;> ((try unfold V_X10_score); (try unfold U_X10_score); (try simp only [if_neg h7_0, if_neg h19_1, if_neg h25_2]); (try rfl)))
  · refine r_aload_n e_X10_score_10 rfl ?_
    refine r_sipush e_X10_score_11 sp_m1003 ?_
    refine cV1v e_X10_score_14 cl_X10_70 ⟨Nat.le_of_ble_eq_true rfl, Nat.le_of_ble_eq_true rfl⟩ ⟨rfl, rfl⟩ k0 (Nat.le_of_ble_eq_true rfl) (S_X10_finding hb1) ?_
    refine r_ireturn e_X10_score_17 rfl ⟨rfl, rfl⟩ ?_
    (refine ⟨?_, rfl, ?_⟩ <;> ((try unfold V_X10_score); (try unfold U_X10_score); (try simp only [if_pos h7_0]); (try rfl)))
def V_X10_goal (x1 : Int32) (M : Mem) : Int32 := if (M.1 122 6) = 0 then (V_X10_finding (-1003 : Int32) M) else (if x1 < 0 then (V_X10_finding (-1004 : Int32) M) else (if x1 < (V_X7_listed 129 M) then (V_X7_goalAt 129 x1 M) else (V_X10_finding (-1004 : Int32) M)))
def U_X10_goal (x1 : Int32) (M : Mem) : Mem := if (M.1 122 6) = 0 then (U_X10_finding (-1003 : Int32) M) else (if x1 < 0 then (U_X10_finding (-1004 : Int32) M) else (if x1 < (V_X7_listed 129 M) then M else (U_X10_finding (-1004 : Int32) M)))
theorem S_X10_goal {sh : List SC} {M : Mem} {x1 : Int32}  (hb1 : PitchAt sh)  : Gv m_X10_goal [.ref 0, .int x1] sh M (.int (V_X10_goal x1 M)) (U_X10_goal x1 M) := by
  refine Sp.of (ls := [some (.ref 0), some (.int x1)]) (by decide +kernel) (Nat.le_of_ble_eq_true rfl) rfl ?_
  have k0 : kd sh 0 = some (9 + 7, 0) := hb1.1
  have k1 : rf sh 0 4 = some 122 := hb1.2.2.2.2.2.1
  have k2 : kd sh 122 = some (2 + 7, 0) := hb1.2.2.2.2.2.2.2.2.2.2.2.2.2.2.2.2.1.1
  have k3 : rf sh 122 5 = some 129 := hb1.2.2.2.2.2.2.2.2.2.2.2.2.2.2.2.2.1.2.2.2.2.2.2.1
  have k4 : kd sh 129 = some (7 + 7, 0) := hb1.2.2.2.2.2.2.2.2.2.2.2.2.2.2.2.2.1.2.2.2.2.2.2.2.2.2.2.1.1
  refine r_aload_n e_X10_goal_0 rfl ?_
  refine r_getR e_X10_goal_1 fl_X10_63 k0 k1 ?_
  refine r_getI e_X10_goal_4 fl_X10_115 i3 k2 ?_
  refine r_if_ne e_X10_goal_7 (fun h7_0 => ?_) (fun h7_0 => ?_)
  · refine r_iload_n e_X10_goal_18 rfl ?_
    refine r_if_lt e_X10_goal_19 (fun h19_1 => ?_) (fun h19_1 => ?_)
    · refine r_aload_n e_X10_goal_36 rfl ?_
      refine r_sipush e_X10_goal_37 sp_m1004 ?_
      refine cV1v e_X10_goal_40 cl_X10_70 ⟨Nat.le_of_ble_eq_true rfl, Nat.le_of_ble_eq_true rfl⟩ ⟨rfl, rfl⟩ k0 (Nat.le_of_ble_eq_true rfl) (S_X10_finding hb1) ?_
      refine r_ireturn e_X10_goal_43 rfl ⟨rfl, rfl⟩ ?_
      (refine ⟨?_, rfl, ?_⟩ <;> ((try unfold V_X10_goal); (try unfold U_X10_goal); (try simp only [if_neg h7_0, if_pos h19_1]); (try rfl)))
    · refine r_iload_n e_X10_goal_22 rfl ?_
      refine r_aload_n e_X10_goal_23 rfl ?_
      refine r_getR e_X10_goal_24 fl_X10_63 k0 k1 ?_
      refine r_getR e_X10_goal_27 fl_X10_143 k2 k3 ?_
      refine cV0v e_X10_goal_30 cl_X10_148 ⟨Nat.le_of_ble_eq_true rfl, Nat.le_of_ble_eq_true rfl⟩ ⟨rfl, rfl⟩ k4 (Nat.le_of_ble_eq_true rfl) (S_X7_listed hb1.2.2.2.2.2.2.2.2.2.2.2.2.2.2.2.2.1.2.2.2.2.2.2.2.2.2.2.1) ?_
      refine r_icmp_lt e_X10_goal_33 (fun h33_2 => ?_) (fun h33_2 => ?_)
      · refine r_aload_n e_X10_goal_44 rfl ?_
        refine r_getR e_X10_goal_45 fl_X10_63 k0 k1 ?_
        refine r_getR e_X10_goal_48 fl_X10_143 k2 k3 ?_
        refine r_iload_n e_X10_goal_51 rfl ?_
        refine cV1v e_X10_goal_52 cl_X10_151 ⟨Nat.le_of_ble_eq_true rfl, Nat.le_of_ble_eq_true rfl⟩ ⟨rfl, rfl⟩ k4 (Nat.le_of_ble_eq_true rfl) (S_X7_goalAt hb1.2.2.2.2.2.2.2.2.2.2.2.2.2.2.2.2.1.2.2.2.2.2.2.2.2.2.2.1) ?_
        refine r_ireturn e_X10_goal_55 rfl ⟨rfl, rfl⟩ ?_
        (refine ⟨?_, rfl, ?_⟩ <;> ((try unfold V_X10_goal); (try unfold U_X10_goal); (try simp only [if_neg h7_0, if_neg h19_1, if_pos h33_2]); (try rfl)))
      · refine r_aload_n e_X10_goal_36 rfl ?_
        refine r_sipush e_X10_goal_37 sp_m1004 ?_
        refine cV1v e_X10_goal_40 cl_X10_70 ⟨Nat.le_of_ble_eq_true rfl, Nat.le_of_ble_eq_true rfl⟩ ⟨rfl, rfl⟩ k0 (Nat.le_of_ble_eq_true rfl) (S_X10_finding hb1) ?_
        refine r_ireturn e_X10_goal_43 rfl ⟨rfl, rfl⟩ ?_
        (refine ⟨?_, rfl, ?_⟩ <;> ((try unfold V_X10_goal); (try unfold U_X10_goal); (try simp only [if_neg h7_0, if_neg h19_1, if_neg h33_2]); (try rfl)))
  · refine r_aload_n e_X10_goal_10 rfl ?_
    refine r_sipush e_X10_goal_11 sp_m1003 ?_
    refine cV1v e_X10_goal_14 cl_X10_70 ⟨Nat.le_of_ble_eq_true rfl, Nat.le_of_ble_eq_true rfl⟩ ⟨rfl, rfl⟩ k0 (Nat.le_of_ble_eq_true rfl) (S_X10_finding hb1) ?_
    refine r_ireturn e_X10_goal_17 rfl ⟨rfl, rfl⟩ ?_
    (refine ⟨?_, rfl, ?_⟩ <;> ((try unfold V_X10_goal); (try unfold U_X10_goal); (try simp only [if_pos h7_0]); (try rfl)))
def F_X2_copy_56 (a : Nat) (x1 : Nat) : Nat → Nat → Mem → Mem
  | 0, i56, M => M
  | n + 1, i56, M => (F_X2_copy_56 a x1 n (i56 + 1) (U_X5_copy (a + 10 + 2 * i56) (x1 + 10 + 2 * i56) M))
def H_X2_copy_56 (a : Nat) (x1 : Nat) : Nat → Nat → Mem → Prop
  | 0, i56, M => True
  | n + 1, i56, M => (∀ i56 : Nat, i56 < 10 → (M.1 (x1 + 10 + 2 * i56) 8) = 0 ∨ (M.1 (x1 + 10 + 2 * i56) 8) = 1) ∧ ((H_X2_copy_56 a x1 n (i56 + 1) (U_X5_copy (a + 10 + 2 * i56) (x1 + 10 + 2 * i56) M)))
theorem L_X2_copy_56 {sh : List SC} {Q : Po} {a : Nat} {x1 : Nat}    (hb1 : MatchAt sh a) (hb2 : MatchAt sh x1)   : ∀ (n i56 : Nat) (M : Mem), i56 + n = 10 → H_X2_copy_56 a x1 n i56 M → WP m_X2_copy Q 95 [some (.ref a), some (.ref x1), none] [] sh (F_X2_copy_56 a x1 n i56 M) 0 0 → WP m_X2_copy Q 56 [some (.ref a), some (.ref x1), some (.int (nI i56))] [] sh M 0 0 := by
  have k0 : kd sh a = some (2 + 7, 0) := hb1.1
  have k1 : rf sh a 3 = some (a + 3) := hb1.2.2.2.2.1
  have k2 : kd sh (a + 3) = some (6, 10) := hb1.2.2.2.2.2.2.2.1
  have k3 : kd sh x1 = some (2 + 7, 0) := hb2.1
  have k4 : rf sh x1 3 = some (x1 + 3) := hb2.2.2.2.2.1
  have k5 : kd sh (x1 + 3) = some (6, 10) := hb2.2.2.2.2.2.2.2.1
  intro n
  induction n with
  | zero =>
    intro i56 M hi _ hq
    have hz : (10 : Int32) ≤ nI i56 := by
      have q : i56 = 10 := by omega
      rw [q]; exact nI_le (Nat.le_refl _) (by decide)
    refine r_iload_n e_X2_copy_56 rfl ?_
    refine r_aload_n e_X2_copy_57 rfl ?_
    refine r_getR e_X2_copy_58 fl_X2_20 k0 k1 ?_
    refine r_alen (v := (10 : Int32)) e_X2_copy_61 k2 (by decide) rfl ?_
    refine r_icmp_ge e_X2_copy_62 (fun _ => ?_) (fun hh => absurd hz hh)
    refine d_3_2 ?_
    (simp only [F_X2_copy_56] at hq; first | exact hq | (simp only []; exact hq))
  | succ n ih =>
    intro i56 M hi hH hq
    unfold H_X2_copy_56 at hH
    obtain ⟨g1, hH⟩ := hH
    have hlt_i56 : i56 < 10 := by omega
    have hcl_i56 : (nI i56).toNatClampNeg = i56 := nI_clamp (by omega)
    have hs : ¬ (10 : Int32) ≤ nI i56 := nI_ge (b := 10) hlt_i56 (by decide)
    refine r_iload_n e_X2_copy_56 rfl ?_
    refine r_aload_n e_X2_copy_57 rfl ?_
    refine r_getR e_X2_copy_58 fl_X2_20 k0 k1 ?_
    refine r_alen (v := (10 : Int32)) e_X2_copy_61 k2 (by decide) rfl ?_
    refine r_icmp_ge e_X2_copy_62 (fun hh => absurd hh hs) (fun _ => ?_)
    refine r_iload_n e_X2_copy_65 rfl ?_
    refine r_aload_n e_X2_copy_66 rfl ?_
    refine r_getR e_X2_copy_67 fl_X2_20 k3 k4 ?_
    refine r_alen (v := (10 : Int32)) e_X2_copy_70 k5 (by decide) rfl ?_
    refine r_icmp_ge e_X2_copy_71 (fun hh => absurd hh hs) (fun _ => ?_)
    refine r_aload_n e_X2_copy_74 rfl ?_
    refine r_getR e_X2_copy_75 fl_X2_20 k0 k1 ?_
    refine r_iload_n e_X2_copy_78 rfl ?_
    refine r_aaload (b := (a + 10 + 2 * i56)) e_X2_copy_79 k2 ⟨by decide, by decide⟩ (vp_in_nI (Nat.lt_of_lt_of_le hlt_i56 (by decide)) (by decide)) (by rw [hcl_i56]; exact (hb1.2.2.2.2.2.2.2.2.1 i56 (Nat.lt_of_lt_of_le hlt_i56 (by decide))).1) ?_
    refine r_aload_n e_X2_copy_80 rfl ?_
    refine r_getR e_X2_copy_81 fl_X2_20 k3 k4 ?_
    refine r_iload_n e_X2_copy_84 rfl ?_
    refine r_aaload (b := (x1 + 10 + 2 * i56)) e_X2_copy_85 k5 ⟨by decide, by decide⟩ (vp_in_nI (Nat.lt_of_lt_of_le hlt_i56 (by decide)) (by decide)) (by rw [hcl_i56]; exact (hb2.2.2.2.2.2.2.2.2.1 i56 (Nat.lt_of_lt_of_le hlt_i56 (by decide))).1) ?_
    refine cV1u e_X2_copy_86 cl_X2_269 ⟨Nat.le_of_ble_eq_true rfl, Nat.le_of_ble_eq_true rfl⟩ ⟨rfl, rfl⟩ (show kd sh (a + 10 + 2 * i56) = some (5 + 7, 0) from (hb1.2.2.2.2.2.2.2.2.1 i56 (Nat.lt_of_lt_of_le hlt_i56 (by decide))).2.1) (Nat.le_of_ble_eq_true rfl) (S_X5_copy (hb1.2.2.2.2.2.2.2.2.1 i56 (Nat.lt_of_lt_of_le hlt_i56 (by decide))).2 (hb2.2.2.2.2.2.2.2.2.1 i56 (Nat.lt_of_lt_of_le hlt_i56 (by decide))).2 (g1 i56 hlt_i56)) ?_
    refine p_iinc_3_2 e_X2_copy_89 rfl ic_1 rfl ?_
    rw [nI_1 i56]
    refine r_goto e_X2_copy_92 ?_
    (simp only [F_X2_copy_56] at hq; (try simp only [] at hH); first | exact ih (i56 + 1) _ (by omega) hH hq | (simp only []; exact ih (i56 + 1) _ (by omega) hH hq))
def U_X2_copy (a : Nat) (x1 : Nat) (M : Mem) : Mem := (let Mc1 : Mem := U_X7_copy (a + 7) (x1 + 7) (U_X0_copy (a + 4) (x1 + 4) (setI (setI (setI (setI M a 6 (M.1 x1 6)) a 7 (M.1 x1 7)) a 8 (M.1 x1 8)) a 9 (M.1 x1 9))); (F_X2_copy_56 a x1 10 0 Mc1))
def P_X2_copy (a : Nat) (x1 : Nat) (M : Mem) : Prop := (H_X2_copy_56 a x1 10 0 (U_X7_copy (a + 7) (x1 + 7) (U_X0_copy (a + 4) (x1 + 4) (setI (setI (setI (setI M a 6 (M.1 x1 6)) a 7 (M.1 x1 7)) a 8 (M.1 x1 8)) a 9 (M.1 x1 9)))))
theorem S_X2_copy {sh : List SC} {M : Mem} {a : Nat} {x1 : Nat}  (hb1 : MatchAt sh a) (hb2 : MatchAt sh x1) (g1 : (M.1 x1 6) = 0 ∨ (M.1 x1 6) = 1) (hP : P_X2_copy a x1 M) : Gu m_X2_copy [.ref a, .ref x1] sh M (U_X2_copy a x1 M) := by
  refine Sp.of (ls := [some (.ref a), some (.ref x1), none]) (by decide +kernel) (Nat.le_of_ble_eq_true rfl) rfl ?_
  have g2 : H_X2_copy_56 a x1 10 0 (U_X7_copy (a + 7) (x1 + 7) (U_X0_copy (a + 4) (x1 + 4) (setI (setI (setI (setI M a 6 (M.1 x1 6)) a 7 (M.1 x1 7)) a 8 (M.1 x1 8)) a 9 (M.1 x1 9)))) := hP
  have k0 : kd sh x1 = some (2 + 7, 0) := hb2.1
  have k1 : kd sh a = some (2 + 7, 0) := hb1.1
  have k2 : rf sh a 4 = some (a + 4) := hb1.2.2.2.2.2.1
  have k3 : rf sh x1 4 = some (x1 + 4) := hb2.2.2.2.2.2.1
  have k4 : kd sh (a + 4) = some (0 + 7, 0) := hb1.2.2.2.2.2.2.2.2.2.1.1
  have k5 : rf sh a 5 = some (a + 7) := hb1.2.2.2.2.2.2.1
  have k6 : rf sh x1 5 = some (x1 + 7) := hb2.2.2.2.2.2.2.1
  have k7 : kd sh (a + 7) = some (7 + 7, 0) := hb1.2.2.2.2.2.2.2.2.2.2.1.1
  refine r_aload_n e_X2_copy_0 rfl ?_
  refine r_aload_n e_X2_copy_1 rfl ?_
  refine r_getI e_X2_copy_2 fl_X2_38 i3 k0 ?_
  refine r_putZ e_X2_copy_5 fl_X2_38 g1 k1 ?_
  refine r_aload_n e_X2_copy_8 rfl ?_
  refine r_aload_n e_X2_copy_9 rfl ?_
  refine r_getIe e_X2_copy_10 fl_X2_42 i0 k0 (gs_nI (by decide)) ?_
  refine r_putI e_X2_copy_13 fl_X2_42 k1 ?_
  refine r_aload_n e_X2_copy_16 rfl ?_
  refine r_aload_n e_X2_copy_17 rfl ?_
  refine r_getIe e_X2_copy_18 fl_X2_46 i0 k0 ((gs_nI (by decide)).trans (gs_nI (by decide))) ?_
  refine r_putI e_X2_copy_21 fl_X2_46 k1 ?_
  refine r_aload_n e_X2_copy_24 rfl ?_
  refine r_aload_n e_X2_copy_25 rfl ?_
  refine r_getIe e_X2_copy_26 fl_X2_49 i0 k0 ((gs_nI (by decide)).trans ((gs_nI (by decide)).trans (gs_nI (by decide)))) ?_
  refine r_putI e_X2_copy_29 fl_X2_49 k1 ?_
  refine r_aload_n e_X2_copy_32 rfl ?_
  refine r_getR e_X2_copy_33 fl_X2_27 k1 k2 ?_
  refine r_aload_n e_X2_copy_36 rfl ?_
  refine r_getR e_X2_copy_37 fl_X2_27 k0 k3 ?_
  refine cV1u e_X2_copy_40 cl_X2_262 ⟨Nat.le_of_ble_eq_true rfl, Nat.le_of_ble_eq_true rfl⟩ ⟨rfl, rfl⟩ k4 (Nat.le_of_ble_eq_true rfl) (S_X0_copy hb1.2.2.2.2.2.2.2.2.2.1 hb2.2.2.2.2.2.2.2.2.2.1) ?_
  refine r_aload_n e_X2_copy_43 rfl ?_
  refine r_getR e_X2_copy_44 fl_X2_34 k1 k5 ?_
  refine r_aload_n e_X2_copy_47 rfl ?_
  refine r_getR e_X2_copy_48 fl_X2_34 k0 k6 ?_
  refine cV1u e_X2_copy_51 cl_X2_266 ⟨Nat.le_of_ble_eq_true rfl, Nat.le_of_ble_eq_true rfl⟩ ⟨rfl, rfl⟩ k7 (Nat.le_of_ble_eq_true rfl) (S_X7_copy hb1.2.2.2.2.2.2.2.2.2.2.1 hb2.2.2.2.2.2.2.2.2.2.2.1) ?_
  obtain ⟨Mc1, e_Mc1⟩ : ∃ z : Mem, z = (U_X7_copy (a + 7) (x1 + 7) (U_X0_copy (a + 4) (x1 + 4) (setI (setI (setI (setI M a 6 (M.1 x1 6)) a 7 (M.1 x1 7)) a 8 (M.1 x1 8)) a 9 (M.1 x1 9)))) := ⟨_, rfl⟩
  rw [← e_Mc1]
  refine r_iconst e_X2_copy_54 ic_0 ?_
  refine p_istore_n_3_2 e_X2_copy_55 rfl rfl ?_
  skip
  show WP m_X2_copy _ 56 [some (.ref a), some (.ref x1), some (.int (nI 0))] [] sh Mc1 0 0
  refine L_X2_copy_56 hb1 hb2 10 0  Mc1 (by omega) (by subst e_Mc1; exact g2 ) ?_
  refine r_return e_X2_copy_95 rfl ⟨rfl, rfl⟩ ?_
  (subst e_Mc1; refine ⟨?_, rfl, ?_⟩ <;> ((try unfold U_X2_copy); (try simp only []); (try rfl)))
def V_X10_back (x1 : Int32) (M : Mem) : Int32 := if (V_X10_isPlace x1 M) = 0 then (V_X10_finding (-1001 : Int32) M) else (if (M.1 (182 + 30 * x1.toNatClampNeg) 6) = 0 then (V_X10_finding (-1004 : Int32) M) else ((U_X2_copy 122 (182 + 30 * x1.toNatClampNeg) M).1 122 7))
def U_X10_back (x1 : Int32) (M : Mem) : Mem := if (V_X10_isPlace x1 M) = 0 then (U_X10_finding (-1001 : Int32) M) else (if (M.1 (182 + 30 * x1.toNatClampNeg) 6) = 0 then (U_X10_finding (-1004 : Int32) M) else (U_X2_copy 122 (182 + 30 * x1.toNatClampNeg) M))
def P_X10_back (x1 : Int32) (M : Mem) : Prop := (¬ ((V_X10_isPlace x1 M) = 0) → vp_in x1 2) ∧ (¬ ((V_X10_isPlace x1 M) = 0) → ¬ ((M.1 (182 + 30 * x1.toNatClampNeg) 6) = 0) → vp_in x1 2) ∧ (¬ ((V_X10_isPlace x1 M) = 0) → ¬ ((M.1 (182 + 30 * x1.toNatClampNeg) 6) = 0) → P_X2_copy 122 (182 + 30 * x1.toNatClampNeg) M)
theorem S_X10_back {sh : List SC} {M : Mem} {x1 : Int32}  (hb1 : PitchAt sh) (g3 : (M.1 (182 + 30 * x1.toNatClampNeg) 6) = 0 ∨ (M.1 (182 + 30 * x1.toNatClampNeg) 6) = 1) (hP : P_X10_back x1 M) : Gv m_X10_back [.ref 0, .int x1] sh M (.int (V_X10_back x1 M)) (U_X10_back x1 M) := by
  refine Sp.of (ls := [some (.ref 0), some (.int x1)]) (by decide +kernel) (Nat.le_of_ble_eq_true rfl) rfl ?_
  obtain ⟨g1, g2, g4⟩ := hP
  have k0 : kd sh 0 = some (9 + 7, 0) := hb1.1
  have k1 : rf sh 0 6 = some 10 := hb1.2.2.2.2.2.2.2.1
  have k2 : kd sh 10 = some (5, 2) := hb1.2.2.2.2.2.2.2.2.2.2.2.2.1
  have k3 : rf sh 0 4 = some 122 := hb1.2.2.2.2.2.1
  have k4 : kd sh 122 = some (2 + 7, 0) := hb1.2.2.2.2.2.2.2.2.2.2.2.2.2.2.2.2.1.1
  refine r_iload_n e_X10_back_0 rfl ?_
  refine cS1v e_X10_back_1 cl_X10_154 ⟨Nat.le_of_ble_eq_true rfl, Nat.le_of_ble_eq_true rfl⟩ ⟨rfl, rfl⟩  (Nat.le_of_ble_eq_true rfl) (S_X10_isPlace ) ?_
  refine r_if_ne e_X10_back_4 (fun h4_0 => ?_) (fun h4_0 => ?_)
  · refine r_aload_n e_X10_back_15 rfl ?_
    refine r_getR e_X10_back_16 fl_X10_34 k0 k1 ?_
    refine r_iload_n e_X10_back_19 rfl ?_
    refine r_aaload (b := (182 + 30 * x1.toNatClampNeg)) e_X10_back_20 k2 ⟨by decide, by decide⟩ (g1 h4_0) (hb1.2.2.2.2.2.2.2.2.2.2.2.2.2.1 x1.toNatClampNeg (vp_lt (g1 h4_0))).1 ?_
    refine r_getI e_X10_back_21 fl_X10_115 i3 (show kd sh (182 + 30 * x1.toNatClampNeg) = some (2 + 7, 0) from (hb1.2.2.2.2.2.2.2.2.2.2.2.2.2.1 x1.toNatClampNeg (vp_lt (g1 h4_0))).2.1) ?_
    refine r_if_ne e_X10_back_24 (fun h24_1 => ?_) (fun h24_1 => ?_)
    · refine r_aload_n e_X10_back_35 rfl ?_
      refine r_getR e_X10_back_36 fl_X10_63 k0 k3 ?_
      refine r_aload_n e_X10_back_39 rfl ?_
      refine r_getR e_X10_back_40 fl_X10_34 k0 k1 ?_
      refine r_iload_n e_X10_back_43 rfl ?_
      refine r_aaload (b := (182 + 30 * x1.toNatClampNeg)) e_X10_back_44 k2 ⟨by decide, by decide⟩ (g2 h4_0 h24_1) (hb1.2.2.2.2.2.2.2.2.2.2.2.2.2.1 x1.toNatClampNeg (vp_lt (g2 h4_0 h24_1))).1 ?_
      refine cV1u e_X10_back_45 cl_X10_157 ⟨Nat.le_of_ble_eq_true rfl, Nat.le_of_ble_eq_true rfl⟩ ⟨rfl, rfl⟩ k4 (Nat.le_of_ble_eq_true rfl) (S_X2_copy hb1.2.2.2.2.2.2.2.2.2.2.2.2.2.2.2.2.1 (hb1.2.2.2.2.2.2.2.2.2.2.2.2.2.1 x1.toNatClampNeg (vp_lt (g2 h4_0 h24_1))).2 g3 (g4 h4_0 h24_1)) ?_
      refine r_aload_n e_X10_back_48 rfl ?_
      refine r_getR e_X10_back_49 fl_X10_63 k0 k3 ?_
      refine r_getI e_X10_back_52 fl_X10_140 i0 k4 ?_
      refine r_ireturn e_X10_back_55 rfl ⟨rfl, rfl⟩ ?_
      (refine ⟨?_, rfl, ?_⟩ <;> ((try unfold V_X10_back); (try unfold U_X10_back); (try simp only [if_neg h4_0, if_neg h24_1]); (try rfl)))
    · refine r_aload_n e_X10_back_27 rfl ?_
      refine r_sipush e_X10_back_28 sp_m1004 ?_
      refine cV1v e_X10_back_31 cl_X10_70 ⟨Nat.le_of_ble_eq_true rfl, Nat.le_of_ble_eq_true rfl⟩ ⟨rfl, rfl⟩ k0 (Nat.le_of_ble_eq_true rfl) (S_X10_finding hb1) ?_
      refine r_ireturn e_X10_back_34 rfl ⟨rfl, rfl⟩ ?_
      (refine ⟨?_, rfl, ?_⟩ <;> ((try unfold V_X10_back); (try unfold U_X10_back); (try simp only [if_neg h4_0, if_pos h24_1]); (try rfl)))
  · refine r_aload_n e_X10_back_7 rfl ?_
    refine r_sipush e_X10_back_8 sp_m1001 ?_
    refine cV1v e_X10_back_11 cl_X10_70 ⟨Nat.le_of_ble_eq_true rfl, Nat.le_of_ble_eq_true rfl⟩ ⟨rfl, rfl⟩ k0 (Nat.le_of_ble_eq_true rfl) (S_X10_finding hb1) ?_
    refine r_ireturn e_X10_back_14 rfl ⟨rfl, rfl⟩ ?_
    (refine ⟨?_, rfl, ?_⟩ <;> ((try unfold V_X10_back); (try unfold U_X10_back); (try simp only [if_pos h4_0]); (try rfl)))
def U_X1_enter (a : Nat) (x1 : Int32) (x2 : Int32) (x3 : Int32) (x4 : Int32) (M : Mem) : Mem := U_X1_enterFor a x2 x4 x3 (U_X1_enterFor a x1 x3 x4 M)
theorem S_X1_enter {sh : List SC} {M : Mem} {a : Nat} {x1 : Int32} {x2 : Int32} {x3 : Int32} {x4 : Int32}  (hb1 : LeagueAt sh a)  : Gu m_X1_enter [.ref a, .int x1, .int x2, .int x3, .int x4] sh M (U_X1_enter a x1 x2 x3 x4 M) := by
  refine Sp.of (ls := [some (.ref a), some (.int x1), some (.int x2), some (.int x3), some (.int x4)]) (by decide +kernel) (Nat.le_of_ble_eq_true rfl) rfl ?_
  have k0 : kd sh a = some (1 + 7, 0) := hb1.1
  refine r_aload_n e_X1_enter_0 rfl ?_
  refine r_iload_n e_X1_enter_1 rfl ?_
  refine r_iload_n e_X1_enter_2 rfl ?_
  refine r_iload e_X1_enter_3 rfl ?_
  refine cV3u e_X1_enter_5 cl_X1_29 ⟨Nat.le_of_ble_eq_true rfl, Nat.le_of_ble_eq_true rfl⟩ ⟨rfl, rfl⟩ k0 (Nat.le_of_ble_eq_true rfl) (S_X1_enterFor hb1) ?_
  refine r_aload_n e_X1_enter_8 rfl ?_
  refine r_iload_n e_X1_enter_9 rfl ?_
  refine r_iload e_X1_enter_10 rfl ?_
  refine r_iload_n e_X1_enter_12 rfl ?_
  refine cV3u e_X1_enter_13 cl_X1_29 ⟨Nat.le_of_ble_eq_true rfl, Nat.le_of_ble_eq_true rfl⟩ ⟨rfl, rfl⟩ k0 (Nat.le_of_ble_eq_true rfl) (S_X1_enterFor hb1) ?_
  refine r_return e_X1_enter_16 rfl ⟨rfl, rfl⟩ ?_
  (refine ⟨?_, rfl, ?_⟩ <;> ((try unfold U_X1_enter); (try simp only []); (try rfl)))
def V_X10_table (x1 : Int32) (x2 : Int32) (M : Mem) : Int32 := if (V_X10_isTeam x1 M) = 0 then (V_X10_finding (-1001 : Int32) M) else (if x2 < 0 then (V_X10_finding (-1001 : Int32) M) else (if x2 ≤ (2 : Int32) then (if (V_X1_has 11 x1 M) = 0 then (V_X10_finding (-1004 : Int32) M) else (V_X1_shown 11 x1 x2 M)) else (V_X10_finding (-1001 : Int32) M)))
def U_X10_table (x1 : Int32) (x2 : Int32) (M : Mem) : Mem := if (V_X10_isTeam x1 M) = 0 then (U_X10_finding (-1001 : Int32) M) else (if x2 < 0 then (U_X10_finding (-1001 : Int32) M) else (if x2 ≤ (2 : Int32) then (if (V_X1_has 11 x1 M) = 0 then (U_X10_finding (-1004 : Int32) M) else M) else (U_X10_finding (-1001 : Int32) M)))
theorem S_X10_table {sh : List SC} {M : Mem} {x1 : Int32} {x2 : Int32}  (hb1 : PitchAt sh)  : Gv m_X10_table [.ref 0, .int x1, .int x2] sh M (.int (V_X10_table x1 x2 M)) (U_X10_table x1 x2 M) := by
  refine Sp.of (ls := [some (.ref 0), some (.int x1), some (.int x2)]) (by decide +kernel) (Nat.le_of_ble_eq_true rfl) rfl ?_
  have k0 : kd sh 0 = some (9 + 7, 0) := hb1.1
  have k1 : rf sh 0 7 = some 11 := hb1.2.2.2.2.2.2.2.2.1
  have k2 : kd sh 11 = some (1 + 7, 0) := hb1.2.2.2.2.2.2.2.2.2.2.2.2.2.2.2.1.1
  refine r_iload_n e_X10_table_0 rfl ?_
  refine cS1v e_X10_table_1 cl_X10_89 ⟨Nat.le_of_ble_eq_true rfl, Nat.le_of_ble_eq_true rfl⟩ ⟨rfl, rfl⟩  (Nat.le_of_ble_eq_true rfl) (S_X10_isTeam ) ?_
  refine r_if_eq e_X10_table_4 (fun h4_0 => ?_) (fun h4_0 => ?_)
  · refine r_aload_n e_X10_table_16 rfl ?_
    refine r_sipush e_X10_table_17 sp_m1001 ?_
    refine cV1v e_X10_table_20 cl_X10_70 ⟨Nat.le_of_ble_eq_true rfl, Nat.le_of_ble_eq_true rfl⟩ ⟨rfl, rfl⟩ k0 (Nat.le_of_ble_eq_true rfl) (S_X10_finding hb1) ?_
    refine r_ireturn e_X10_table_23 rfl ⟨rfl, rfl⟩ ?_
    (refine ⟨?_, rfl, ?_⟩ <;> ((try unfold V_X10_table); (try unfold U_X10_table); (try simp only [if_pos h4_0]); (try rfl)))
  · refine r_iload_n e_X10_table_7 rfl ?_
    refine r_if_lt e_X10_table_8 (fun h8_1 => ?_) (fun h8_1 => ?_)
    · refine r_aload_n e_X10_table_16 rfl ?_
      refine r_sipush e_X10_table_17 sp_m1001 ?_
      refine cV1v e_X10_table_20 cl_X10_70 ⟨Nat.le_of_ble_eq_true rfl, Nat.le_of_ble_eq_true rfl⟩ ⟨rfl, rfl⟩ k0 (Nat.le_of_ble_eq_true rfl) (S_X10_finding hb1) ?_
      refine r_ireturn e_X10_table_23 rfl ⟨rfl, rfl⟩ ?_
      (refine ⟨?_, rfl, ?_⟩ <;> ((try unfold V_X10_table); (try unfold U_X10_table); (try simp only [if_neg h4_0, if_pos h8_1]); (try rfl)))
    · refine r_iload_n e_X10_table_11 rfl ?_
      refine r_iconst e_X10_table_12 ic_2 ?_
      refine r_icmp_le e_X10_table_13 (fun h13_2 => ?_) (fun h13_2 => ?_)
      · refine r_aload_n e_X10_table_24 rfl ?_
        refine r_getR e_X10_table_25 fl_X10_41 k0 k1 ?_
        refine r_iload_n e_X10_table_28 rfl ?_
        refine cV1v e_X10_table_29 cl_X10_173 ⟨Nat.le_of_ble_eq_true rfl, Nat.le_of_ble_eq_true rfl⟩ ⟨rfl, rfl⟩ k2 (Nat.le_of_ble_eq_true rfl) (S_X1_has hb1.2.2.2.2.2.2.2.2.2.2.2.2.2.2.2.1) ?_
        refine r_if_ne e_X10_table_32 (fun h32_3 => ?_) (fun h32_3 => ?_)
        · refine r_aload_n e_X10_table_43 rfl ?_
          refine r_getR e_X10_table_44 fl_X10_41 k0 k1 ?_
          refine r_iload_n e_X10_table_47 rfl ?_
          refine r_iload_n e_X10_table_48 rfl ?_
          refine cV2v e_X10_table_49 cl_X10_186 ⟨Nat.le_of_ble_eq_true rfl, Nat.le_of_ble_eq_true rfl⟩ ⟨rfl, rfl⟩ k2 (Nat.le_of_ble_eq_true rfl) (S_X1_shown hb1.2.2.2.2.2.2.2.2.2.2.2.2.2.2.2.1) ?_
          refine r_ireturn e_X10_table_52 rfl ⟨rfl, rfl⟩ ?_
          (refine ⟨?_, rfl, ?_⟩ <;> ((try unfold V_X10_table); (try unfold U_X10_table); (try simp only [if_neg h4_0, if_neg h8_1, if_pos h13_2, if_neg h32_3]); (try rfl)))
        · refine r_aload_n e_X10_table_35 rfl ?_
          refine r_sipush e_X10_table_36 sp_m1004 ?_
          refine cV1v e_X10_table_39 cl_X10_70 ⟨Nat.le_of_ble_eq_true rfl, Nat.le_of_ble_eq_true rfl⟩ ⟨rfl, rfl⟩ k0 (Nat.le_of_ble_eq_true rfl) (S_X10_finding hb1) ?_
          refine r_ireturn e_X10_table_42 rfl ⟨rfl, rfl⟩ ?_
          (refine ⟨?_, rfl, ?_⟩ <;> ((try unfold V_X10_table); (try unfold U_X10_table); (try simp only [if_neg h4_0, if_neg h8_1, if_pos h13_2, if_pos h32_3]); (try rfl)))
      · refine r_aload_n e_X10_table_16 rfl ?_
        refine r_sipush e_X10_table_17 sp_m1001 ?_
        refine cV1v e_X10_table_20 cl_X10_70 ⟨Nat.le_of_ble_eq_true rfl, Nat.le_of_ble_eq_true rfl⟩ ⟨rfl, rfl⟩ k0 (Nat.le_of_ble_eq_true rfl) (S_X10_finding hb1) ?_
        refine r_ireturn e_X10_table_23 rfl ⟨rfl, rfl⟩ ?_
        (refine ⟨?_, rfl, ?_⟩ <;> ((try unfold V_X10_table); (try unfold U_X10_table); (try simp only [if_neg h4_0, if_neg h8_1, if_neg h13_2]); (try rfl)))
def F_X1_teamAt_12 (a : Nat) (x1 : Int32) (i2 : Nat) : Nat → Nat → Int32 → Mem → Int32
  | 0, i12, u3, M => u3
  | n + 1, i12, u3, M => (let v1400_0 : Int32 := if (V_X1_has a (nI i12) M) = 0 then u3 else (if (V_X1_isAhead a (nI i12) (nI i2) M) = 0 then u3 else (u3 + 1)); (F_X1_teamAt_12 a x1 i2 n (i12 + 1) v1400_0 M))
theorem L_X1_teamAt_12 {sh : List SC} {Q : Po} {a : Nat} {x1 : Int32}   {i2 : Nat} (hb1 : LeagueAt sh a)  (hlt_i2 : i2 < 4) : ∀ (n i12 : Nat) (u3 : Int32) (M : Mem), i12 + n = 4 → WP m_X1_teamAt Q 46 [some (.ref a), some (.int x1), some (.int (nI i2)), some (.int (F_X1_teamAt_12 a x1 i2 n i12 u3 M)), none] [] sh M 0 0 → WP m_X1_teamAt Q 12 [some (.ref a), some (.int x1), some (.int (nI i2)), some (.int u3), some (.int (nI i12))] [] sh M 0 0 := by
  have k0 : kd sh a = some (1 + 7, 0) := hb1.1
  have hcl_i2 : (nI i2).toNatClampNeg = i2 := nI_clamp (by omega)
  intro n
  induction n with
  | zero =>
    intro i12 u3 M hi hq
    have hz : (4 : Int32) ≤ nI i12 := by
      have q : i12 = 4 := by omega
      rw [q]; exact nI_le (Nat.le_refl _) (by decide)
    refine r_iload e_X1_teamAt_12 rfl ?_
    refine r_iconst e_X1_teamAt_14 ic_4 ?_
    refine r_icmp_ge e_X1_teamAt_15 (fun _ => ?_) (fun hh => absurd hz hh)
    refine d_5_4 ?_
    (simp only [F_X1_teamAt_12] at hq; first | exact hq | (simp only []; exact hq))
  | succ n ih =>
    intro i12 u3 M hi hq
    have hlt_i12 : i12 < 4 := by omega
    have hcl_i12 : (nI i12).toNatClampNeg = i12 := nI_clamp (by omega)
    have hs : ¬ (4 : Int32) ≤ nI i12 := nI_ge (b := 4) hlt_i12 (by decide)
    refine r_iload e_X1_teamAt_12 rfl ?_
    refine r_iconst e_X1_teamAt_14 ic_4 ?_
    refine r_icmp_ge e_X1_teamAt_15 (fun hh => absurd hh hs) (fun _ => ?_)
    refine r_aload_n e_X1_teamAt_18 rfl ?_
    refine r_iload e_X1_teamAt_19 rfl ?_
    refine cV1v e_X1_teamAt_21 cl_X1_37 ⟨Nat.le_of_ble_eq_true rfl, Nat.le_of_ble_eq_true rfl⟩ ⟨rfl, rfl⟩ k0 (Nat.le_of_ble_eq_true rfl) (S_X1_has hb1) ?_
    obtain ⟨v1400_0, e_v1400_0⟩ : ∃ z : Int32, z = (if (V_X1_has a (nI i12) M) = 0 then u3 else (if (V_X1_isAhead a (nI i12) (nI i2) M) = 0 then u3 else (u3 + 1))) := ⟨_, rfl⟩
    suffices j40_1400 : WP m_X1_teamAt Q 40 [some (.ref a), some (.int x1), some (.int (nI i2)), some (.int v1400_0), some (.int (nI i12))] [] sh M 0 0 by
      refine r_if_eq e_X1_teamAt_24 (fun h24_1400 => ?_) (fun h24_1400 => ?_)
      · (rw [show v1400_0 = u3 from (e_v1400_0.trans (if_pos h24_1400))] at j40_1400; exact j40_1400)
      · refine r_aload_n e_X1_teamAt_27 rfl ?_
        refine r_iload e_X1_teamAt_28 rfl ?_
        refine r_iload_n e_X1_teamAt_30 rfl ?_
        refine cV2v e_X1_teamAt_31 cl_X1_41 ⟨Nat.le_of_ble_eq_true rfl, Nat.le_of_ble_eq_true rfl⟩ ⟨rfl, rfl⟩ k0 (Nat.le_of_ble_eq_true rfl) (S_X1_isAhead hb1) ?_
        refine r_if_eq e_X1_teamAt_34 (fun h34_1401 => ?_) (fun h34_1401 => ?_)
        · (rw [show v1400_0 = u3 from ((e_v1400_0.trans (if_neg h24_1400)).trans (if_pos h34_1401))] at j40_1400; exact j40_1400)
        · refine p_iinc_5_3 e_X1_teamAt_37 rfl ic_1 rfl ?_
          (rw [show v1400_0 = (u3 + 1) from ((e_v1400_0.trans (if_neg h24_1400)).trans (if_neg h34_1401))] at j40_1400; exact j40_1400)
    refine p_iinc_5_4 e_X1_teamAt_40 rfl ic_1 rfl ?_
    rw [nI_1 i12]
    refine r_goto e_X1_teamAt_43 ?_
    (subst e_v1400_0; simp only [F_X1_teamAt_12] at hq; first | exact ih (i12 + 1) _ _ (by omega) hq | (simp only []; exact ih (i12 + 1) _ _ (by omega) hq))
def FV_X1_teamAt_2 (a : Nat) (x1 : Int32) : Nat → Nat → Mem → Int32
  | 0, i2, M => (-1 : Int32)
  | n + 1, i2, M => if (V_X1_has a (nI i2) M) = 0 then (FV_X1_teamAt_2 a x1 n (i2 + 1) M) else (if (F_X1_teamAt_12 a x1 i2 4 0 (0 : Int32) M) = x1 then (nI i2) else (FV_X1_teamAt_2 a x1 n (i2 + 1) M))
theorem L_X1_teamAt_2 {sh : List SC} {Q : Po} {a : Nat} {x1 : Int32}    (hb1 : LeagueAt sh a)   : ∀ (n i2 : Nat) (M : Mem), i2 + n = 4 → Q (some (.int (FV_X1_teamAt_2 a x1 n i2 M))) sh M → WP m_X1_teamAt Q 2 [some (.ref a), some (.int x1), some (.int (nI i2)), none, none] [] sh M 0 0 := by
  have k0 : kd sh a = some (1 + 7, 0) := hb1.1
  intro n
  induction n with
  | zero =>
    intro i2 M hi hq
    have hz : (4 : Int32) ≤ nI i2 := by
      have q : i2 = 4 := by omega
      rw [q]; exact nI_le (Nat.le_refl _) (by decide)
    refine r_iload_n e_X1_teamAt_2 rfl ?_
    refine r_iconst e_X1_teamAt_3 ic_4 ?_
    refine r_icmp_ge e_X1_teamAt_4 (fun _ => ?_) (fun hh => absurd hz hh)
    refine r_iconst e_X1_teamAt_67 ic_m1 ?_
    refine r_ireturn e_X1_teamAt_68 rfl ⟨rfl, rfl⟩ ?_
    (simp only [FV_X1_teamAt_2] at hq; first | exact hq | (simp only []; exact hq))
  | succ n ih =>
    intro i2 M hi hq
    have hlt_i2 : i2 < 4 := by omega
    have hcl_i2 : (nI i2).toNatClampNeg = i2 := nI_clamp (by omega)
    have hs : ¬ (4 : Int32) ≤ nI i2 := nI_ge (b := 4) hlt_i2 (by decide)
    refine r_iload_n e_X1_teamAt_2 rfl ?_
    refine r_iconst e_X1_teamAt_3 ic_4 ?_
    refine r_icmp_ge e_X1_teamAt_4 (fun hh => absurd hh hs) (fun _ => ?_)
    refine r_iconst e_X1_teamAt_7 ic_0 ?_
    refine p_istore_n_5_3 e_X1_teamAt_8 rfl rfl ?_
    refine r_iconst e_X1_teamAt_9 ic_0 ?_
    refine p_istore_5_4 e_X1_teamAt_10 rfl rfl ?_
    skip
    show WP m_X1_teamAt _ 12 [some (.ref a), some (.int x1), some (.int (nI i2)), some (.int (0 : Int32)), some (.int (nI 0))] [] sh M 0 0
    refine L_X1_teamAt_12 hb1 hlt_i2 4 0 (0 : Int32) M (by omega) ?_
    refine r_aload_n e_X1_teamAt_46 rfl ?_
    refine r_iload_n e_X1_teamAt_47 rfl ?_
    refine cV1v e_X1_teamAt_48 cl_X1_37 ⟨Nat.le_of_ble_eq_true rfl, Nat.le_of_ble_eq_true rfl⟩ ⟨rfl, rfl⟩ k0 (Nat.le_of_ble_eq_true rfl) (S_X1_has hb1) ?_
    refine r_if_eq e_X1_teamAt_51 (fun h51_200 => ?_) (fun h51_200 => ?_)
    · refine p_iinc_5_2 e_X1_teamAt_61 rfl ic_1 rfl ?_
      rw [nI_1 i2]
      refine r_goto e_X1_teamAt_64 ?_
      refine d_5_3 ?_
      (simp only [FV_X1_teamAt_2, if_pos h51_200] at hq; first | exact ih (i2 + 1) _ (by omega) hq | (simp only [if_pos h51_200]; exact ih (i2 + 1) _ (by omega) hq))
    · refine r_iload_n e_X1_teamAt_54 rfl ?_
      refine r_iload_n e_X1_teamAt_55 rfl ?_
      refine r_icmp_ne e_X1_teamAt_56 (fun h56_201 => ?_) (fun h56_201 => ?_)
      · refine p_iinc_5_2 e_X1_teamAt_61 rfl ic_1 rfl ?_
        rw [nI_1 i2]
        refine r_goto e_X1_teamAt_64 ?_
        refine d_5_3 ?_
        (simp only [FV_X1_teamAt_2, if_neg h51_200, if_neg h56_201] at hq; first | exact ih (i2 + 1) _ (by omega) hq | (simp only [if_neg h51_200, if_neg h56_201]; exact ih (i2 + 1) _ (by omega) hq))
      · refine r_iload_n e_X1_teamAt_59 rfl ?_
        refine r_ireturn e_X1_teamAt_60 rfl ⟨rfl, rfl⟩ ?_
        (simp only [FV_X1_teamAt_2, if_neg h51_200, if_pos h56_201] at hq; first | exact hq | (simp only [if_neg h51_200, if_pos h56_201]; exact hq))
def V_X1_teamAt (a : Nat) (x1 : Int32) (M : Mem) : Int32 := (FV_X1_teamAt_2 a x1 4 0 M)
theorem S_X1_teamAt {sh : List SC} {M : Mem} {a : Nat} {x1 : Int32}  (hb1 : LeagueAt sh a)  : Gv m_X1_teamAt [.ref a, .int x1] sh M (.int (V_X1_teamAt a x1 M)) M := by
  refine Sp.of (ls := [some (.ref a), some (.int x1), none, none, none]) (by decide +kernel) (Nat.le_of_ble_eq_true rfl) rfl ?_
  refine r_iconst e_X1_teamAt_0 ic_0 ?_
  refine p_istore_n_5_2 e_X1_teamAt_1 rfl rfl ?_
  skip
  show WP m_X1_teamAt _ 2 [some (.ref a), some (.int x1), some (.int (nI 0)), none, none] [] sh M 0 0
  refine L_X1_teamAt_2 hb1 4 0  M (by omega) ?_
  (refine ⟨?_, rfl, ?_⟩ <;> ((try unfold V_X1_teamAt); (try simp only []); (try rfl)))
def F_X11_feed_42 (x1 : Int64) (nn : Nat) : Nat → Nat → Mem → Mem
  | 0, i42, M => M
  | n + 1, i42, M => (F_X11_feed_42 x1 nn n (i42 + 1) (setI (setI M 243 (M.1 242 1).toNatClampNeg (((x1 >>> (((8 : Int32) * (nI i42)).toInt64 &&& 63)) &&& (255 : Int64)).toInt32)) 242 1 ((M.1 242 1) + (1 : Int32))))
def H_X11_feed_42 (x1 : Int64) (nn : Nat) : Nat → Nat → Mem → Prop
  | 0, i42, M => True
  | n + 1, i42, M => (vp_in (M.1 242 1) 800) ∧ ((H_X11_feed_42 x1 nn n (i42 + 1) (setI (setI M 243 (M.1 242 1).toNatClampNeg (((x1 >>> (((8 : Int32) * (nI i42)).toInt64 &&& 63)) &&& (255 : Int64)).toInt32)) 242 1 ((M.1 242 1) + (1 : Int32)))))
theorem L_X11_feed_42 {sh : List SC} {Q : Po} {x1 : Int64} {nn : Nat} {mA : Nat} {oA : Nat}   (hb1 : ModelAt sh mA oA) (g1 : nn < 2 ^ 31)  : ∀ (n i42 : Nat) (M : Mem), i42 + n = nn → H_X11_feed_42 x1 nn n i42 M → WP m_X11_feed Q 85 [some (.ref 242), some (.long x1), none, some (.int (nI nn)), none] [] sh (F_X11_feed_42 x1 nn n i42 M) 0 0 → WP m_X11_feed Q 42 [some (.ref 242), some (.long x1), none, some (.int (nI nn)), some (.int (nI i42))] [] sh M 0 0 := by
  have k0 : kd sh 242 = some (10 + 7, 0) := hb1.1
  have k1 : rf sh 242 0 = some 243 := hb1.2.1
  have k2 : kd sh 243 = some (0, 800) := hb1.2.2.2.2.2.2.2.2.2.2.2.2.2.2.2.2.2.2.2.2.2.2.2.2.2.2.2.1
  intro n
  induction n with
  | zero =>
    intro i42 M hi _ hq
    have hz : (nI nn) ≤ nI i42 := by
      have q : i42 = nn := by omega
      rw [q]; exact nI_le (Nat.le_refl _) (by assumption)
    refine r_iload e_X11_feed_42 rfl ?_
    refine r_iload_n e_X11_feed_44 rfl ?_
    refine r_icmp_ge e_X11_feed_45 (fun _ => ?_) (fun hh => absurd hz hh)
    refine d_5_4 ?_
    (simp only [F_X11_feed_42] at hq; first | exact hq | (simp only []; exact hq))
  | succ n ih =>
    intro i42 M hi hH hq
    unfold H_X11_feed_42 at hH
    obtain ⟨g2, hH⟩ := hH
    have hlt_i42 : i42 < nn := by omega
    have hcl_i42 : (nI i42).toNatClampNeg = i42 := nI_clamp (by omega)
    have hs : ¬ (nI nn) ≤ nI i42 := nI_ge (b := nn) hlt_i42 (by assumption)
    refine r_iload e_X11_feed_42 rfl ?_
    refine r_iload_n e_X11_feed_44 rfl ?_
    refine r_icmp_ge e_X11_feed_45 (fun hh => absurd hh hs) (fun _ => ?_)
    refine r_aload_n e_X11_feed_48 rfl ?_
    refine r_getR e_X11_feed_49 fl_X11_7 k0 k1 ?_
    refine r_aload_n e_X11_feed_52 rfl ?_
    refine r_getI e_X11_feed_53 fl_X11_1 i0 k0 ?_
    refine r_lload_n e_X11_feed_56 rfl ?_
    refine r_bipush e_X11_feed_57 bp_8 ?_
    refine r_iload e_X11_feed_59 rfl ?_
    refine r_imul e_X11_feed_61 ?_
    refine r_lshr e_X11_feed_62 ?_
    refine r_ldc2 e_X11_feed_63 lc_X11_181 ?_
    refine r_land e_X11_feed_66 ?_
    refine r_l2i e_X11_feed_67 ?_
    refine r_iastore e_X11_feed_68 k2 g2 ?_
    refine r_aload_n e_X11_feed_69 rfl ?_
    refine r_dup e_X11_feed_70 rfl ?_
    refine r_getIe e_X11_feed_71 fl_X11_1 i0 k0 (gs_aI (by omega)) ?_
    refine r_iconst e_X11_feed_74 ic_1 ?_
    refine r_iadd e_X11_feed_75 ?_
    refine r_putI e_X11_feed_76 fl_X11_1 k0 ?_
    refine p_iinc_5_4 e_X11_feed_79 rfl ic_1 rfl ?_
    rw [nI_1 i42]
    refine r_goto e_X11_feed_82 ?_
    (simp only [F_X11_feed_42] at hq; (try simp only [] at hH); first | exact ih (i42 + 1) _ (by omega) hH hq | (simp only []; exact ih (i42 + 1) _ (by omega) hH hq))
def V_X11_feed (x1 : Int64) (nn : Nat) (M : Mem) : Int32 := if (nI nn) < (1 : Int32) then (V_X11_finding (-1001 : Int32) M) else (if (nI nn) ≤ (8 : Int32) then (if ((M.1 242 1) + (nI nn)) ≤ (800 : Int32) then ((F_X11_feed_42 x1 nn (nn - 0) 0 M).1 242 1) else (V_X11_finding (-1002 : Int32) M)) else (V_X11_finding (-1001 : Int32) M))
def U_X11_feed (x1 : Int64) (nn : Nat) (M : Mem) : Mem := if (nI nn) < (1 : Int32) then (U_X11_finding (-1001 : Int32) M) else (if (nI nn) ≤ (8 : Int32) then (if ((M.1 242 1) + (nI nn)) ≤ (800 : Int32) then (F_X11_feed_42 x1 nn (nn - 0) 0 M) else (U_X11_finding (-1002 : Int32) M)) else (U_X11_finding (-1001 : Int32) M))
def P_X11_feed (x1 : Int64) (nn : Nat) (M : Mem) : Prop := (¬ ((nI nn) < (1 : Int32)) → (nI nn) ≤ (8 : Int32) → ((M.1 242 1) + (nI nn)) ≤ (800 : Int32) → H_X11_feed_42 x1 nn (nn - 0) 0 M)
theorem S_X11_feed {sh : List SC} {M : Mem} {x1 : Int64} {nn : Nat} {mA : Nat} {oA : Nat} (hb1 : ModelAt sh mA oA) (g1 : nn < 2 ^ 31) (hP : P_X11_feed x1 nn M) : Gv m_X11_feed [.ref 242, .long x1, .int (nI nn)] sh M (.int (V_X11_feed x1 nn M)) (U_X11_feed x1 nn M) := by
  refine Sp.of (ls := [some (.ref 242), some (.long x1), none, some (.int (nI nn)), none]) (by decide +kernel) (Nat.le_of_ble_eq_true rfl) rfl ?_
  have g2 : ¬ ((nI nn) < (1 : Int32)) → (nI nn) ≤ (8 : Int32) → ((M.1 242 1) + (nI nn)) ≤ (800 : Int32) → H_X11_feed_42 x1 nn (nn - 0) 0 M := hP
  have k0 : kd sh 242 = some (10 + 7, 0) := hb1.1
  refine r_iload_n e_X11_feed_0 rfl ?_
  refine r_iconst e_X11_feed_1 ic_1 ?_
  refine r_icmp_lt e_X11_feed_2 (fun h2_0 => ?_) (fun h2_0 => ?_)
  · refine r_aload_n e_X11_feed_11 rfl ?_
    refine r_sipush e_X11_feed_12 sp_m1001 ?_
    refine cV1v e_X11_feed_15 cl_X11_178 ⟨Nat.le_of_ble_eq_true rfl, Nat.le_of_ble_eq_true rfl⟩ ⟨rfl, rfl⟩ k0 (Nat.le_of_ble_eq_true rfl) (S_X11_finding hb1 (by first | decide | (unfold vp_in; decide) | exact Or.inl rfl | exact Or.inr rfl)) ?_
    refine r_ireturn e_X11_feed_18 rfl ⟨rfl, rfl⟩ ?_
    (refine ⟨?_, rfl, ?_⟩ <;> ((try unfold V_X11_feed); (try unfold U_X11_feed); (try simp only [if_pos h2_0]); (try rfl)))
  · refine r_iload_n e_X11_feed_5 rfl ?_
    refine r_bipush e_X11_feed_6 bp_8 ?_
    refine r_icmp_le e_X11_feed_8 (fun h8_1 => ?_) (fun h8_1 => ?_)
    · refine r_aload_n e_X11_feed_19 rfl ?_
      refine r_getI e_X11_feed_20 fl_X11_1 i0 k0 ?_
      refine r_iload_n e_X11_feed_23 rfl ?_
      refine r_iadd e_X11_feed_24 ?_
      refine r_sipush e_X11_feed_25 sp_800 ?_
      refine r_icmp_le e_X11_feed_28 (fun h28_2 => ?_) (fun h28_2 => ?_)
      · refine r_iconst e_X11_feed_39 ic_0 ?_
        refine p_istore_5_4 e_X11_feed_40 rfl rfl ?_
        skip
        show WP m_X11_feed _ 42 [some (.ref 242), some (.long x1), none, some (.int (nI nn)), some (.int (nI 0))] [] sh M 0 0
        refine L_X11_feed_42 hb1 g1 (nn - 0) 0  M (by omega) (g2 h2_0 h8_1 h28_2) ?_
        refine r_aload_n e_X11_feed_85 rfl ?_
        refine r_getI e_X11_feed_86 fl_X11_1 i0 k0 ?_
        refine r_ireturn e_X11_feed_89 rfl ⟨rfl, rfl⟩ ?_
        (refine ⟨?_, rfl, ?_⟩ <;> ((try unfold V_X11_feed); (try unfold U_X11_feed); (try simp only [if_neg h2_0, if_pos h8_1, if_pos h28_2]); (try rfl)))
      · refine r_aload_n e_X11_feed_31 rfl ?_
        refine r_sipush e_X11_feed_32 sp_m1002 ?_
        refine cV1v e_X11_feed_35 cl_X11_178 ⟨Nat.le_of_ble_eq_true rfl, Nat.le_of_ble_eq_true rfl⟩ ⟨rfl, rfl⟩ k0 (Nat.le_of_ble_eq_true rfl) (S_X11_finding hb1 (by first | decide | (unfold vp_in; decide) | exact Or.inl rfl | exact Or.inr rfl)) ?_
        refine r_ireturn e_X11_feed_38 rfl ⟨rfl, rfl⟩ ?_
        (refine ⟨?_, rfl, ?_⟩ <;> ((try unfold V_X11_feed); (try unfold U_X11_feed); (try simp only [if_neg h2_0, if_pos h8_1, if_neg h28_2]); (try rfl)))
    · refine r_aload_n e_X11_feed_11 rfl ?_
      refine r_sipush e_X11_feed_12 sp_m1001 ?_
      refine cV1v e_X11_feed_15 cl_X11_178 ⟨Nat.le_of_ble_eq_true rfl, Nat.le_of_ble_eq_true rfl⟩ ⟨rfl, rfl⟩ k0 (Nat.le_of_ble_eq_true rfl) (S_X11_finding hb1 (by first | decide | (unfold vp_in; decide) | exact Or.inl rfl | exact Or.inr rfl)) ?_
      refine r_ireturn e_X11_feed_18 rfl ⟨rfl, rfl⟩ ?_
      (refine ⟨?_, rfl, ?_⟩ <;> ((try unfold V_X11_feed); (try unfold U_X11_feed); (try simp only [if_neg h2_0, if_neg h8_1]); (try rfl)))
def F_X11_letters_0 : Nat → Mem → Mem
  | 0, M => M
  | n + 1, M => if (V_X11_isLetter (V_X11_at (M.1 242 4) M) M) = 0 then M else (let M1_0 : Mem := if (12 : Int32) ≤ ((M.1 242 4) - (M.1 242 3)) then M else (setJ M 242 7 ((((M.2 242 7) * (27 : Int64)) + (V_X11_at (M.1 242 4) M).toInt64) - (96 : Int64))); (F_X11_letters_0  n (setI M1_0 242 4 ((M1_0.1 242 4) + (1 : Int32)))))
def T_X11_letters_0 : Nat → Mem → Prop
  | 0, M => False
  | n + 1, M => (P_X11_at (M.1 242 4) M) ∧ (if (V_X11_isLetter (V_X11_at (M.1 242 4) M) M) = 0 then True else (let M1_0 : Mem := if (12 : Int32) ≤ ((M.1 242 4) - (M.1 242 3)) then M else (setJ M 242 7 ((((M.2 242 7) * (27 : Int64)) + (V_X11_at (M.1 242 4) M).toInt64) - (96 : Int64))); (T_X11_letters_0  n (setI M1_0 242 4 ((M1_0.1 242 4) + (1 : Int32))))))
theorem L_X11_letters_0 {sh : List SC} {Q : Po}  {mA : Nat} {oA : Nat}   (hb1 : ModelAt sh mA oA)   : ∀ (n : Nat) (M : Mem), T_X11_letters_0  n M → WP m_X11_letters Q 67 [some (.ref 242)] [] sh (F_X11_letters_0  n M) 0 0 → WP m_X11_letters Q 0 [some (.ref 242)] [] sh M 0 0 := by
  have k0 : kd sh 242 = some (10 + 7, 0) := hb1.1
  intro n
  induction n with
  | zero =>
    intro M hH hq
    exact hH.elim
  | succ n ih =>
    intro M hH hq
    unfold T_X11_letters_0 at hH
    obtain ⟨g1, hH⟩ := hH
    refine r_aload_n e_X11_letters_0 rfl ?_
    refine r_aload_n e_X11_letters_1 rfl ?_
    refine r_getI e_X11_letters_2 fl_X11_11 i0 k0 ?_
    refine cV1v e_X11_letters_5 cl_X11_14 ⟨Nat.le_of_ble_eq_true rfl, Nat.le_of_ble_eq_true rfl⟩ ⟨rfl, rfl⟩ k0 (Nat.le_of_ble_eq_true rfl) (S_X11_at hb1 g1) ?_
    refine cS1v e_X11_letters_8 cl_X11_31 ⟨Nat.le_of_ble_eq_true rfl, Nat.le_of_ble_eq_true rfl⟩ ⟨rfl, rfl⟩  (Nat.le_of_ble_eq_true rfl) (S_X11_isLetter ) ?_
    refine r_if_eq e_X11_letters_11 (fun h11_0 => ?_) (fun h11_0 => ?_)
    · (simp only [F_X11_letters_0, if_pos h11_0] at hq; first | exact hq | (simp only [if_pos h11_0]; exact hq))
    · refine r_aload_n e_X11_letters_14 rfl ?_
      refine r_getI e_X11_letters_15 fl_X11_11 i0 k0 ?_
      refine r_aload_n e_X11_letters_18 rfl ?_
      refine r_getI e_X11_letters_19 fl_X11_18 i0 k0 ?_
      refine r_isub e_X11_letters_22 ?_
      refine r_bipush e_X11_letters_23 bp_12 ?_
      obtain ⟨M1_0, e_M1_0⟩ : ∃ z : Mem, z = (if (12 : Int32) ≤ ((M.1 242 4) - (M.1 242 3)) then M else (setJ M 242 7 ((((M.2 242 7) * (27 : Int64)) + (V_X11_at (M.1 242 4) M).toInt64) - (96 : Int64)))) := ⟨_, rfl⟩
      suffices j54_1 : WP m_X11_letters Q 54 [some (.ref 242)] [] sh M1_0 0 0 by
        refine r_icmp_ge e_X11_letters_25 (fun h25_1 => ?_) (fun h25_1 => ?_)
        · (rw [show M1_0 = M from (e_M1_0.trans (if_pos h25_1))] at j54_1; exact j54_1)
        · refine r_aload_n e_X11_letters_28 rfl ?_
          refine r_aload_n e_X11_letters_29 rfl ?_
          refine r_getJ e_X11_letters_30 fl_X11_24 k0 ?_
          refine r_ldc2 e_X11_letters_33 lc_X11_48 ?_
          refine r_lmul e_X11_letters_36 ?_
          refine r_aload_n e_X11_letters_37 rfl ?_
          refine r_aload_n e_X11_letters_38 rfl ?_
          refine r_getI e_X11_letters_39 fl_X11_11 i0 k0 ?_
          refine cV1v e_X11_letters_42 cl_X11_14 ⟨Nat.le_of_ble_eq_true rfl, Nat.le_of_ble_eq_true rfl⟩ ⟨rfl, rfl⟩ k0 (Nat.le_of_ble_eq_true rfl) (S_X11_at hb1 g1) ?_
          refine r_i2l e_X11_letters_45 ?_
          refine r_ladd e_X11_letters_46 ?_
          refine r_ldc2 e_X11_letters_47 lc_X11_50 ?_
          refine r_lsub e_X11_letters_50 ?_
          refine r_putJ e_X11_letters_51 fl_X11_24 k0 ?_
          (rw [show M1_0 = setJ M 242 7 ((((M.2 242 7) * (27 : Int64)) + (V_X11_at (M.1 242 4) M).toInt64) - (96 : Int64)) from (e_M1_0.trans (if_neg h25_1))] at j54_1; exact j54_1)
      refine r_aload_n e_X11_letters_54 rfl ?_
      refine r_dup e_X11_letters_55 rfl ?_
      refine r_getI e_X11_letters_56 fl_X11_11 i0 k0 ?_
      refine r_iconst e_X11_letters_59 ic_1 ?_
      refine r_iadd e_X11_letters_60 ?_
      refine r_putI e_X11_letters_61 fl_X11_11 k0 ?_
      refine r_goto e_X11_letters_64 ?_
      (subst e_M1_0; simp only [F_X11_letters_0, if_neg h11_0] at hq; (try simp only [if_neg h11_0] at hH); first | exact ih _ hH hq | (simp only [if_neg h11_0]; exact ih _ hH hq))
def U_X11_letters (M : Mem) : Mem := if (((F_X11_letters_0  FUEL M).1 242 4) - ((F_X11_letters_0  FUEL M).1 242 3)) ≤ (12 : Int32) then (U_X11_findWord  (F_X11_letters_0  FUEL M)) else (setI (F_X11_letters_0  FUEL M) 242 5 (6 : Int32))
def P_X11_letters (M : Mem) : Prop := (T_X11_letters_0  FUEL M)
theorem S_X11_letters {sh : List SC} {M : Mem}  {mA : Nat} {oA : Nat} (hb1 : ModelAt sh mA oA)  (hP : P_X11_letters  M) : Gu m_X11_letters [.ref 242] sh M (U_X11_letters  M) := by
  refine Sp.of (ls := [some (.ref 242)]) (by decide +kernel) (Nat.le_of_ble_eq_true rfl) rfl ?_
  have g1 : T_X11_letters_0  FUEL M := hP
  have k0 : kd sh 242 = some (10 + 7, 0) := hb1.1
  refine L_X11_letters_0 hb1 FUEL  M g1 ?_
  refine r_aload_n e_X11_letters_67 rfl ?_
  refine r_getI e_X11_letters_68 fl_X11_11 i0 k0 ?_
  refine r_aload_n e_X11_letters_71 rfl ?_
  refine r_getI e_X11_letters_72 fl_X11_18 i0 k0 ?_
  refine r_isub e_X11_letters_75 ?_
  refine r_bipush e_X11_letters_76 bp_12 ?_
  refine r_icmp_le e_X11_letters_78 (fun h78_0 => ?_) (fun h78_0 => ?_)
  · refine r_aload_n e_X11_letters_88 rfl ?_
    refine cV0u e_X11_letters_89 cl_X11_52 ⟨Nat.le_of_ble_eq_true rfl, Nat.le_of_ble_eq_true rfl⟩ ⟨rfl, rfl⟩ k0 (Nat.le_of_ble_eq_true rfl) (S_X11_findWord hb1) ?_
    refine r_return e_X11_letters_92 rfl ⟨rfl, rfl⟩ ?_
    (refine ⟨?_, rfl, ?_⟩ <;> ((try unfold U_X11_letters); (try simp only [if_pos h78_0]); (try rfl)))
  · refine r_aload_n e_X11_letters_81 rfl ?_
    refine r_bipush e_X11_letters_82 bp_6 ?_
    refine r_putI e_X11_letters_84 fl_X11_28 k0 ?_
    refine r_return e_X11_letters_87 rfl ⟨rfl, rfl⟩ ?_
    (refine ⟨?_, rfl, ?_⟩ <;> ((try unfold U_X11_letters); (try simp only [if_neg h78_0]); (try rfl)))
