def L_X2_roll_2 (a : Nat) : Nat → Nat → Mem → Option ((Int32 × Mem) ⊕ (Mem))
  | 0, i2, M => some (.inr M)
  | n + 1, i2, M => if 0 ≤ (M.1 (a + 4) 2) then (some (.inr M)) else (if (M.1 (a + 4) 4) ≤ 0 then (some (.inr M)) else (bd1 ((M.1 (a + 4) 0) + (M.1 (a + 4) 5)) (fun v26 => bd1 ((M.1 (a + 4) 1) + (M.1 (a + 4) 6)) (fun v27 => bd1 (if v26 < 0 then (1 : Int32) else (if v26 < (15 : Int32) then (0 : Int32) else (1 : Int32))) (fun v29_0 => bd1 (if v27 < 0 then (1 : Int32) else (if v27 < (9 : Int32) then (0 : Int32) else (1 : Int32))) (fun v32_0 => bs1 (if v29_0 = 0 then (some (.inr ())) else (if v27 < (3 : Int32) then (some (.inr ())) else (if (5 : Int32) < v27 then (some (.inr ())) else (if 0 ≤ v26 then (some (.inl ((1 : Int32), setI M (a + 4) 4 ((M.1 (a + 4) 4) - (1 : Int32))))) else (some (.inl ((2 : Int32), setI M (a + 4) 4 ((M.1 (a + 4) 4) - (1 : Int32))))))))) (fun u43 => bd1 (if v29_0 = 0 then (setI M (a + 4) 4 ((M.1 (a + 4) 4) - (1 : Int32))) else (setI (setI M (a + 4) 4 ((M.1 (a + 4) 4) - (1 : Int32))) (a + 4) 5 (-(M.1 (a + 4) 5)))) (fun M48 => bd1 (if v32_0 = 0 then M48 else (setI M48 (a + 4) 6 (-(M48.1 (a + 4) 6)))) (fun M50 => bd1 (if v29_0 = 0 then (if v32_0 = 0 then (U_X2_arrive a v26 v27 M50) else M50) else M50) (fun M52 => L_X2_roll_2 a n (i2 + 1) M52))))))))))
theorem LW_X2_roll_2 {sh : List SC} {Q : Po} {a : Nat}   (hb1 : MatchAt sh a)  : ∀ (n i2 : Nat) (M : Mem) (q : (Int32 × Mem) ⊕ (Mem)), i2 + n = 3 → L_X2_roll_2 a n i2 M = some q → (∀ x, q = .inl x → Q (some (.int x.1)) sh x.2) → (∀ Mz, q = .inr Mz → WP m_X2_roll Q 193 [none, none, none, none, none, none] [] sh Mz 0 0) → WP m_X2_roll Q 2 [some (.ref a), some (.int (nI i2)), none, none, none, none] [] sh M 0 0 := by
  intro n
  induction n with
  | zero =>
    intro i2 M q hi h hR hE
    rw [L_X2_roll_2] at h
    have hz : (3 : Int32) ≤ nI i2 := by
      have q : i2 = 3 := by omega
      rw [q]; exact nI_le (Nat.le_refl _) (by decide)
    refine r_iload_n e_X2_roll_2 rfl ?_
    refine r_iconst e_X2_roll_3 ic_3 ?_
    refine r_icmp_ge e_X2_roll_4 (fun _ => ?_) (fun hh => absurd hz hh)
    refine d_6_0 ?_
    refine d_6_1 ?_
    exact hE _ (Option.some.inj h).symm
  | succ n ih =>
    intro i2 M q hi h hR hE
    rw [L_X2_roll_2] at h
    have hlt_i2 : i2 < 3 := by omega
    have hcl_i2 : (nI i2).toNatClampNeg = i2 := nI_clamp (by omega)
    have hs : ¬ (3 : Int32) ≤ nI i2 := nI_ge (b := 3) hlt_i2 (by decide)
    have k0 : kd sh a = some (2 + 7, 0) := hb1.1
    have k1 : rf sh a 4 = some (a + 4) := hb1.2.2.2.2.2.1
    have k2 : kd sh (a + 4) = some (0 + 7, 0) := hb1.2.2.2.2.2.2.2.2.2.1.1
    refine r_iload_n e_X2_roll_2 rfl ?_
    refine r_iconst e_X2_roll_3 ic_3 ?_
    refine r_icmp_ge e_X2_roll_4 (fun hh => absurd hh hs) (fun _ => ?_)
    refine r_aload_n e_X2_roll_7 rfl ?_
    refine r_getR e_X2_roll_8 fl_X2_27 k0 k1 ?_
    refine r_getI e_X2_roll_11 fl_X2_132 i0 k2 ?_
    refine r_if_ge e_X2_roll_14 (fun c24 => ?_) (fun c24 => ?_)
    · rw [if_pos c24] at h
      refine d_6_0 ?_
      refine d_6_1 ?_
      exact hE _ (Option.some.inj h).symm
    · rw [if_neg c24] at h
      refine r_aload_n e_X2_roll_17 rfl ?_
      refine r_getR e_X2_roll_18 fl_X2_27 k0 k1 ?_
      refine r_getI e_X2_roll_21 fl_X2_241 i0 k2 ?_
      refine r_if_le e_X2_roll_24 (fun c25 => ?_) (fun c25 => ?_)
      · rw [if_pos c25] at h
        refine d_6_0 ?_
        refine d_6_1 ?_
        exact hE _ (Option.some.inj h).symm
      · rw [if_neg c25] at h
        refine r_aload_n e_X2_roll_27 rfl ?_
        refine r_getR e_X2_roll_28 fl_X2_27 k0 k1 ?_
        refine r_dup e_X2_roll_31 rfl ?_
        refine r_getI e_X2_roll_32 fl_X2_241 i0 k2 ?_
        refine r_iconst e_X2_roll_35 ic_1 ?_
        refine r_isub e_X2_roll_36 ?_
        refine r_putI e_X2_roll_37 fl_X2_241 k2 ?_
        refine r_aload_n e_X2_roll_40 rfl ?_
        refine r_getR e_X2_roll_41 fl_X2_27 k0 k1 ?_
        refine r_getIe e_X2_roll_44 fl_X2_110 i0 k2 (gs_nI (by decide)) ?_
        refine r_aload_n e_X2_roll_47 rfl ?_
        refine r_getR e_X2_roll_48 fl_X2_27 k0 k1 ?_
        refine r_getIe e_X2_roll_51 fl_X2_242 i0 k2 (gs_nI (by decide)) ?_
        refine r_iadd e_X2_roll_54 ?_
        obtain ⟨v26, e26, h⟩ := bd1_el h
        rw [e26]
        refine p_istore_n_6_2 e_X2_roll_55 rfl rfl ?_
        refine r_aload_n e_X2_roll_56 rfl ?_
        refine r_getR e_X2_roll_57 fl_X2_27 k0 k1 ?_
        refine r_getIe e_X2_roll_60 fl_X2_113 i0 k2 (gs_nI (by decide)) ?_
        refine r_aload_n e_X2_roll_63 rfl ?_
        refine r_getR e_X2_roll_64 fl_X2_27 k0 k1 ?_
        refine r_getIe e_X2_roll_67 fl_X2_243 i0 k2 (gs_nI (by decide)) ?_
        refine r_iadd e_X2_roll_70 ?_
        obtain ⟨v27, e27, h⟩ := bd1_el h
        rw [e27]
        refine p_istore_n_6_3 e_X2_roll_71 rfl rfl ?_
        refine r_iload_n e_X2_roll_72 rfl ?_
        obtain ⟨v29_0, q29, h⟩ := bd1_el h
        suffices j29 : WP m_X2_roll _ 87 [some (.ref a), some (.int (nI i2)), some (.int v26), some (.int v27), none, none] [.int v29_0] sh (setI M (a + 4) 4 ((M.1 (a + 4) 4) - (1 : Int32))) 0 0 by
          refine r_if_lt e_X2_roll_73 (fun c28 => ?_) (fun c28 => ?_)
          · rw [if_pos c28] at q29
            refine r_iconst e_X2_roll_82 ic_1 ?_
            refine r_goto e_X2_roll_83 ?_
            subst q29; exact j29
          · rw [if_neg c28] at q29
            refine r_iload_n e_X2_roll_76 rfl ?_
            refine r_bipush e_X2_roll_77 bp_15 ?_
            refine r_icmp_lt e_X2_roll_79 (fun c30 => ?_) (fun c30 => ?_)
            · rw [if_pos c30] at q29
              refine r_iconst e_X2_roll_86 ic_0 ?_
              subst q29; exact j29
            · rw [if_neg c30] at q29
              refine r_iconst e_X2_roll_82 ic_1 ?_
              refine r_goto e_X2_roll_83 ?_
              subst q29; exact j29
        refine p_istore_6_4 e_X2_roll_87 rfl rfl ?_
        refine r_iload_n e_X2_roll_89 rfl ?_
        obtain ⟨v32_0, q32, h⟩ := bd1_el h
        suffices j32 : WP m_X2_roll _ 104 [some (.ref a), some (.int (nI i2)), some (.int v26), some (.int v27), some (.int v29_0), none] [.int v32_0] sh (setI M (a + 4) 4 ((M.1 (a + 4) 4) - (1 : Int32))) 0 0 by
          refine r_if_lt e_X2_roll_90 (fun c31 => ?_) (fun c31 => ?_)
          · rw [if_pos c31] at q32
            refine r_iconst e_X2_roll_99 ic_1 ?_
            refine r_goto e_X2_roll_100 ?_
            subst q32; exact j32
          · rw [if_neg c31] at q32
            refine r_iload_n e_X2_roll_93 rfl ?_
            refine r_bipush e_X2_roll_94 bp_9 ?_
            refine r_icmp_lt e_X2_roll_96 (fun c33 => ?_) (fun c33 => ?_)
            · rw [if_pos c33] at q32
              refine r_iconst e_X2_roll_103 ic_0 ?_
              subst q32; exact j32
            · rw [if_neg c33] at q32
              refine r_iconst e_X2_roll_99 ic_1 ?_
              refine r_goto e_X2_roll_100 ?_
              subst q32; exact j32
        refine p_istore_6_5 e_X2_roll_104 rfl rfl ?_
        refine r_iload e_X2_roll_106 rfl ?_
        obtain ⟨K43, hK43, hL43, h⟩ := bs1_in h
        suffices j43 : ∀ u43, K43 (.inr u43) = some q → WP m_X2_roll _ 131 [some (.ref a), some (.int (nI i2)), some (.int v26), some (.int v27), some (.int v29_0), some (.int v32_0)] [] sh (setI M (a + 4) 4 ((M.1 (a + 4) 4) - (1 : Int32))) 0 0 by
          refine r_if_eq e_X2_roll_108 (fun c34 => ?_) (fun c34 => ?_)
          · rw [if_pos c34] at h
            exact j43 _ h
          · rw [if_neg c34] at h
            refine r_iload_n e_X2_roll_111 rfl ?_
            refine r_iconst e_X2_roll_112 ic_3 ?_
            refine r_icmp_lt e_X2_roll_113 (fun c44 => ?_) (fun c44 => ?_)
            · rw [if_pos c44] at h
              exact j43 _ h
            · rw [if_neg c44] at h
              refine r_iload_n e_X2_roll_116 rfl ?_
              refine r_iconst e_X2_roll_117 ic_5 ?_
              refine r_icmp_gt e_X2_roll_118 (fun c45 => ?_) (fun c45 => ?_)
              · rw [if_pos c45] at h
                exact j43 _ h
              · rw [if_neg c45] at h
                refine r_iload_n e_X2_roll_121 rfl ?_
                refine r_if_ge e_X2_roll_122 (fun c46 => ?_) (fun c46 => ?_)
                · rw [if_pos c46] at h
                  refine r_iconst e_X2_roll_129 ic_1 ?_
                  refine r_ireturn e_X2_roll_130 rfl ⟨rfl, rfl⟩ ?_
                  have h := (hL43 _).symm.trans h
                  exact hR _ (Option.some.inj h).symm
                · rw [if_neg c46] at h
                  refine r_iconst e_X2_roll_125 ic_2 ?_
                  refine r_goto e_X2_roll_126 ?_
                  refine r_ireturn e_X2_roll_130 rfl ⟨rfl, rfl⟩ ?_
                  have h := (hL43 _).symm.trans h
                  exact hR _ (Option.some.inj h).symm
        intro u43 h
        rw [hK43] at h
        refine r_iload e_X2_roll_131 rfl ?_
        obtain ⟨M48, q48, h⟩ := bd1_el h
        suffices j48 : WP m_X2_roll _ 151 [some (.ref a), some (.int (nI i2)), some (.int v26), some (.int v27), some (.int v29_0), some (.int v32_0)] [] sh M48 0 0 by
          refine r_if_eq e_X2_roll_133 (fun c47 => ?_) (fun c47 => ?_)
          · rw [if_pos c47] at q48
            subst q48; exact j48
          · rw [if_neg c47] at q48
            refine r_aload_n e_X2_roll_136 rfl ?_
            refine r_getR e_X2_roll_137 fl_X2_27 k0 k1 ?_
            refine r_aload_n e_X2_roll_140 rfl ?_
            refine r_getR e_X2_roll_141 fl_X2_27 k0 k1 ?_
            refine r_getIe e_X2_roll_144 fl_X2_242 i0 k2 (gs_nI (by decide)) ?_
            refine r_ineg e_X2_roll_147 ?_
            refine r_putI e_X2_roll_148 fl_X2_242 k2 ?_
            subst q48; exact j48
        refine r_iload e_X2_roll_151 rfl ?_
        obtain ⟨M50, q50, h⟩ := bd1_el h
        suffices j50 : WP m_X2_roll _ 171 [some (.ref a), some (.int (nI i2)), some (.int v26), some (.int v27), some (.int v29_0), some (.int v32_0)] [] sh M50 0 0 by
          refine r_if_eq e_X2_roll_153 (fun c49 => ?_) (fun c49 => ?_)
          · rw [if_pos c49] at q50
            subst q50; exact j50
          · rw [if_neg c49] at q50
            refine r_aload_n e_X2_roll_156 rfl ?_
            refine r_getR e_X2_roll_157 fl_X2_27 k0 k1 ?_
            refine r_aload_n e_X2_roll_160 rfl ?_
            refine r_getR e_X2_roll_161 fl_X2_27 k0 k1 ?_
            refine r_getI e_X2_roll_164 fl_X2_243 i0 k2 ?_
            refine r_ineg e_X2_roll_167 ?_
            refine r_putI e_X2_roll_168 fl_X2_243 k2 ?_
            subst q50; exact j50
        refine r_iload e_X2_roll_171 rfl ?_
        obtain ⟨M52, q52, h⟩ := bd1_el h
        suffices j52 : WP m_X2_roll _ 187 [some (.ref a), some (.int (nI i2)), none, none, none, none] [] sh M52 0 0 by
          refine r_if_ne e_X2_roll_173 (fun c51 => ?_) (fun c51 => ?_)
          · rw [if_neg c51] at q52
            refine d_6_2 ?_
            refine d_6_3 ?_
            refine d_6_4 ?_
            refine d_6_5 ?_
            subst q52; exact j52
          · rw [if_pos c51] at q52
            refine r_iload e_X2_roll_176 rfl ?_
            refine r_if_ne e_X2_roll_178 (fun c53 => ?_) (fun c53 => ?_)
            · rw [if_neg c53] at q52
              refine d_6_2 ?_
              refine d_6_3 ?_
              refine d_6_4 ?_
              refine d_6_5 ?_
              subst q52; exact j52
            · rw [if_pos c53] at q52
              refine r_aload_n e_X2_roll_181 rfl ?_
              refine r_iload_n e_X2_roll_182 rfl ?_
              refine r_iload_n e_X2_roll_183 rfl ?_
              refine cV2u e_X2_roll_184 cl_X2_244 ⟨Nat.le_of_ble_eq_true rfl, Nat.le_of_ble_eq_true rfl⟩ ⟨rfl, rfl⟩ k0 (Nat.le_of_ble_eq_true rfl) (S_X2_arrive hb1) ?_
              refine d_6_2 ?_
              refine d_6_3 ?_
              refine d_6_4 ?_
              refine d_6_5 ?_
              subst q52; exact j52
        refine p_iinc_6_1 e_X2_roll_187 rfl ic_1 rfl ?_
        rw [nI_1 i2]
        refine r_goto e_X2_roll_190 ?_
        exact ih _  _ _ (by omega) h hR hE
def R_X2_roll (a : Nat) (M : Mem) : Option (Int32 × Mem) := br1 (L_X2_roll_2 a 3 0 M) (fun M54 => some ((0 : Int32), M54))
theorem S_X2_roll {sh : List SC} {M : Mem} {a : Nat}  {v' : Int32} {M' : Mem} (hb1 : MatchAt sh a)  (h : R_X2_roll a M = some (v', M')) : Gv m_X2_roll [.ref a] sh M (.int v') M' := by
  refine Sp.of (ls := [some (.ref a), none, none, none, none, none]) (by decide +kernel) (Nat.le_of_ble_eq_true rfl) rfl ?_
  unfold R_X2_roll at h
  refine r_iconst e_X2_roll_0 ic_0 ?_
  refine p_istore_n_6_1 e_X2_roll_1 rfl rfl ?_
  show WP m_X2_roll _ 2 [some (.ref a), some (.int (nI 0)), none, none, none, none] [] sh M 0 0
  obtain ⟨q54, w54, l54, r54⟩ := br1_el h
  refine LW_X2_roll_2 hb1 3 0 _ _ (by omega) w54 (fun x54 y54 => ?_) (fun M54 y54 => ?_)
  · have h := l54 _ y54
    obtain ⟨rfl, rfl⟩ := ps2 h; exact ⟨rfl, rfl, rfl⟩
  have h := r54 _ y54
  refine r_iconst e_X2_roll_193 ic_0 ?_
  refine r_ireturn e_X2_roll_194 rfl ⟨rfl, rfl⟩ ?_
  obtain ⟨rfl, rfl⟩ := ps2 h; exact ⟨rfl, rfl, rfl⟩
def R_X0_hasSlept (a : Nat) (M : Mem) : Option (Int32 × Mem) := bd1 (if (M.1 a 9) ≤ 0 then (0 : Int32) else (if (M.1 a 7) = (M.1 a 0) then (if (M.1 a 8) = (M.1 a 1) then (1 : Int32) else (0 : Int32)) else (0 : Int32))) (fun v2_0 => bd1 (if (M.1 a 2) < 0 then (if v2_0 = 0 then (1 : Int32) else ((M.1 a 9) + (1 : Int32))) else (0 : Int32)) (fun v6_0 => bd1 (if v6_0 < (10 : Int32) then (0 : Int32) else (1 : Int32)) (fun v9_0 => cz v9_0 (some (v9_0, setI (setI (setI M a 9 v6_0) a 7 (M.1 a 0)) a 8 (M.1 a 1))))))
theorem S_X0_hasSlept {sh : List SC} {M : Mem} {a : Nat}  {v' : Int32} {M' : Mem} (hb1 : BallAt sh a)  (h : R_X0_hasSlept a M = some (v', M')) : Gv m_X0_hasSlept [.ref a] sh M (.int v') M' := by
  refine Sp.of (ls := [some (.ref a), none]) (by decide +kernel) (Nat.le_of_ble_eq_true rfl) rfl ?_
  have k0 : kd sh a = some (0 + 7, 0) := hb1.1
  unfold R_X0_hasSlept at h
  refine r_aload_n e_X0_hasSlept_0 rfl ?_
  refine r_getI e_X0_hasSlept_1 fl_X0_37 i0 k0 ?_
  obtain ⟨v2_0, q2, h⟩ := bd1_el h
  suffices j2 : WP m_X0_hasSlept _ 34 [some (.ref a), none] [.int v2_0] sh M 0 0 by
    refine r_if_le e_X0_hasSlept_4 (fun c1 => ?_) (fun c1 => ?_)
    · rw [if_pos c1] at q2
      refine r_iconst e_X0_hasSlept_33 ic_0 ?_
      subst q2; exact j2
    · rw [if_neg c1] at q2
      refine r_aload_n e_X0_hasSlept_7 rfl ?_
      refine r_getI e_X0_hasSlept_8 fl_X0_31 i0 k0 ?_
      refine r_aload_n e_X0_hasSlept_11 rfl ?_
      refine r_getI e_X0_hasSlept_12 fl_X0_7 i0 k0 ?_
      refine r_icmp_ne e_X0_hasSlept_15 (fun c3 => ?_) (fun c3 => ?_)
      · rw [if_neg c3] at q2
        refine r_iconst e_X0_hasSlept_33 ic_0 ?_
        subst q2; exact j2
      · rw [if_pos c3] at q2
        refine r_aload_n e_X0_hasSlept_18 rfl ?_
        refine r_getI e_X0_hasSlept_19 fl_X0_34 i0 k0 ?_
        refine r_aload_n e_X0_hasSlept_22 rfl ?_
        refine r_getI e_X0_hasSlept_23 fl_X0_13 i0 k0 ?_
        refine r_icmp_ne e_X0_hasSlept_26 (fun c4 => ?_) (fun c4 => ?_)
        · rw [if_neg c4] at q2
          refine r_iconst e_X0_hasSlept_33 ic_0 ?_
          subst q2; exact j2
        · rw [if_pos c4] at q2
          refine r_iconst e_X0_hasSlept_29 ic_1 ?_
          refine r_goto e_X0_hasSlept_30 ?_
          subst q2; exact j2
  refine p_istore_n_2_1 e_X0_hasSlept_34 rfl rfl ?_
  refine r_aload_n e_X0_hasSlept_35 rfl ?_
  refine r_aload_n e_X0_hasSlept_36 rfl ?_
  refine r_getI e_X0_hasSlept_37 fl_X0_16 i0 k0 ?_
  obtain ⟨v6_0, q6, h⟩ := bd1_el h
  suffices j6 : WP m_X0_hasSlept _ 61 [some (.ref a), none] [.int v6_0, .ref a] sh M 0 0 by
    refine r_if_lt e_X0_hasSlept_40 (fun c5 => ?_) (fun c5 => ?_)
    · rw [if_pos c5] at q6
      refine r_iload_n e_X0_hasSlept_47 rfl ?_
      refine r_if_eq e_X0_hasSlept_48 (fun c7 => ?_) (fun c7 => ?_)
      · rw [if_pos c7] at q6
        refine r_iconst e_X0_hasSlept_60 ic_1 ?_
        refine d_2_1 ?_
        subst q6; exact j6
      · rw [if_neg c7] at q6
        refine r_aload_n e_X0_hasSlept_51 rfl ?_
        refine r_getI e_X0_hasSlept_52 fl_X0_37 i0 k0 ?_
        refine r_iconst e_X0_hasSlept_55 ic_1 ?_
        refine r_iadd e_X0_hasSlept_56 ?_
        refine r_goto e_X0_hasSlept_57 ?_
        refine d_2_1 ?_
        subst q6; exact j6
    · rw [if_neg c5] at q6
      refine r_iconst e_X0_hasSlept_43 ic_0 ?_
      refine r_goto e_X0_hasSlept_44 ?_
      refine d_2_1 ?_
      subst q6; exact j6
  refine r_putI e_X0_hasSlept_61 fl_X0_37 k0 ?_
  refine r_aload_n e_X0_hasSlept_64 rfl ?_
  refine r_aload_n e_X0_hasSlept_65 rfl ?_
  refine r_getIe e_X0_hasSlept_66 fl_X0_7 i0 k0 (gs_nI (by decide)) ?_
  refine r_putI e_X0_hasSlept_69 fl_X0_31 k0 ?_
  refine r_aload_n e_X0_hasSlept_72 rfl ?_
  refine r_aload_n e_X0_hasSlept_73 rfl ?_
  refine r_getIe e_X0_hasSlept_74 fl_X0_13 i0 k0 ((gs_nI (by decide)).trans (gs_nI (by decide))) ?_
  refine r_putI e_X0_hasSlept_77 fl_X0_34 k0 ?_
  refine r_aload_n e_X0_hasSlept_80 rfl ?_
  refine r_getIe e_X0_hasSlept_81 fl_X0_37 i0 k0 ((gs_nI (by decide)).trans ((gs_nI (by decide)).trans gs_eI)) ?_
  refine r_bipush e_X0_hasSlept_84 bp_10 ?_
  obtain ⟨v9_0, q9, h⟩ := bd1_el h
  suffices j9 : WP m_X0_hasSlept _ 94 [none, none] [.int v9_0] sh (setI (setI (setI M a 9 v6_0) a 7 (M.1 a 0)) a 8 (M.1 a 1)) 0 0 by
    refine r_icmp_lt e_X0_hasSlept_86 (fun c8 => ?_) (fun c8 => ?_)
    · rw [if_pos c8] at q9
      refine r_iconst e_X0_hasSlept_93 ic_0 ?_
      refine d_2_0 ?_
      subst q9; exact j9
    · rw [if_neg c8] at q9
      refine r_iconst e_X0_hasSlept_89 ic_1 ?_
      refine r_goto e_X0_hasSlept_90 ?_
      refine d_2_0 ?_
      subst q9; exact j9
  obtain ⟨b10, h⟩ := cz_el h
  refine r_zreturn e_X0_hasSlept_94 rfl ⟨rfl, rfl⟩ b10 ?_
  obtain ⟨rfl, rfl⟩ := ps2 h; exact ⟨rfl, rfl, rfl⟩
def L_X2_giveToFoe_7 (a : Nat) : Nat → Nat → Int32 → Int32 → Mem → Option (Int32)
  | 0, i7, u1, u2, M => some u1
  | n + 1, i7, u1, u2, M => bd1 (V_X10_distance (M.1 (a + 4) 0) (M.1 (a + 4) 1) (M.1 (a + 10 + 2 * i7) 2) (M.1 (a + 10 + 2 * i7) 3) M) (fun v1 => bd2 (if ((nI i7) / (5 : Int32)) = ((M.1 (a + 4) 2) / (5 : Int32)) then (u1, u2) else (if u2 ≤ v1 then (u1, u2) else ((nI i7), v1))) (fun v3_0 v3_1 => L_X2_giveToFoe_7 a n (i7 + 1) v3_0 v3_1 M))
theorem LW_X2_giveToFoe_7 {sh : List SC} {Q : Po} {a : Nat}   (hb1 : MatchAt sh a)  : ∀ (n i7 : Nat) (u1 : Int32) (u2 : Int32) (M : Mem) (z1 : Int32), i7 + n = 10 → L_X2_giveToFoe_7 a n i7 u1 u2 M = some z1 → WP m_X2_giveToFoe Q 85 [some (.ref a), some (.int z1), none, none, none] [] sh M 0 0 → WP m_X2_giveToFoe Q 7 [some (.ref a), some (.int u1), some (.int u2), some (.int (nI i7)), none] [] sh M 0 0 := by
  intro n
  induction n with
  | zero =>
    intro i7 u1 u2 M z1 hi h hE
    rw [L_X2_giveToFoe_7] at h
    have hz : (10 : Int32) ≤ nI i7 := by
      have q : i7 = 10 := by omega
      rw [q]; exact nI_le (Nat.le_refl _) (by decide)
    have k0 : kd sh a = some (2 + 7, 0) := hb1.1
    have k1 : rf sh a 3 = some (a + 3) := hb1.2.2.2.2.1
    have k2 : kd sh (a + 3) = some (6, 10) := hb1.2.2.2.2.2.2.2.1
    refine r_iload_n e_X2_giveToFoe_7 rfl ?_
    refine r_aload_n e_X2_giveToFoe_8 rfl ?_
    refine r_getR e_X2_giveToFoe_9 fl_X2_20 k0 k1 ?_
    refine r_alen (v := (10 : Int32)) e_X2_giveToFoe_12 k2 (by decide) rfl ?_
    refine r_icmp_ge e_X2_giveToFoe_13 (fun _ => ?_) (fun hh => absurd hz hh)
    refine d_5_2 ?_
    refine d_5_3 ?_
    obtain rfl := Option.some.inj h; exact hE
  | succ n ih =>
    intro i7 u1 u2 M z1 hi h hE
    rw [L_X2_giveToFoe_7] at h
    have hlt_i7 : i7 < 10 := by omega
    have hcl_i7 : (nI i7).toNatClampNeg = i7 := nI_clamp (by omega)
    have hs : ¬ (10 : Int32) ≤ nI i7 := nI_ge (b := 10) hlt_i7 (by decide)
    have k0 : kd sh a = some (2 + 7, 0) := hb1.1
    have k1 : rf sh a 3 = some (a + 3) := hb1.2.2.2.2.1
    have k2 : kd sh (a + 3) = some (6, 10) := hb1.2.2.2.2.2.2.2.1
    have k3 : rf sh a 4 = some (a + 4) := hb1.2.2.2.2.2.1
    have k4 : kd sh (a + 4) = some (0 + 7, 0) := hb1.2.2.2.2.2.2.2.2.2.1.1
    refine r_iload_n e_X2_giveToFoe_7 rfl ?_
    refine r_aload_n e_X2_giveToFoe_8 rfl ?_
    refine r_getR e_X2_giveToFoe_9 fl_X2_20 k0 k1 ?_
    refine r_alen (v := (10 : Int32)) e_X2_giveToFoe_12 k2 (by decide) rfl ?_
    refine r_icmp_ge e_X2_giveToFoe_13 (fun hh => absurd hh hs) (fun _ => ?_)
    refine r_aload_n e_X2_giveToFoe_16 rfl ?_
    refine r_getR e_X2_giveToFoe_17 fl_X2_27 k0 k3 ?_
    refine r_getI e_X2_giveToFoe_20 fl_X2_110 i0 k4 ?_
    refine r_aload_n e_X2_giveToFoe_23 rfl ?_
    refine r_getR e_X2_giveToFoe_24 fl_X2_27 k0 k3 ?_
    refine r_getI e_X2_giveToFoe_27 fl_X2_113 i0 k4 ?_
    refine r_aload_n e_X2_giveToFoe_30 rfl ?_
    refine r_getR e_X2_giveToFoe_31 fl_X2_20 k0 k1 ?_
    refine r_iload_n e_X2_giveToFoe_34 rfl ?_
    refine r_aaload (b := (a + 10 + 2 * i7)) e_X2_giveToFoe_35 k2 ⟨by decide, by decide⟩ (vp_in_nI (Nat.lt_of_lt_of_le hlt_i7 (by decide)) (by decide)) (by rw [hcl_i7]; exact (hb1.2.2.2.2.2.2.2.2.1 i7 (Nat.lt_of_lt_of_le hlt_i7 (by decide))).1) ?_
    refine r_getI e_X2_giveToFoe_36 fl_X2_130 i0 (show kd sh (a + 10 + 2 * i7) = some (5 + 7, 0) from (hb1.2.2.2.2.2.2.2.2.1 i7 (Nat.lt_of_lt_of_le hlt_i7 (by decide))).2.1) ?_
    refine r_aload_n e_X2_giveToFoe_39 rfl ?_
    refine r_getR e_X2_giveToFoe_40 fl_X2_20 k0 k1 ?_
    refine r_iload_n e_X2_giveToFoe_43 rfl ?_
    refine r_aaload (b := (a + 10 + 2 * i7)) e_X2_giveToFoe_44 k2 ⟨by decide, by decide⟩ (vp_in_nI (Nat.lt_of_lt_of_le hlt_i7 (by decide)) (by decide)) (by rw [hcl_i7]; exact (hb1.2.2.2.2.2.2.2.2.1 i7 (Nat.lt_of_lt_of_le hlt_i7 (by decide))).1) ?_
    refine r_getI e_X2_giveToFoe_45 fl_X2_131 i0 (show kd sh (a + 10 + 2 * i7) = some (5 + 7, 0) from (hb1.2.2.2.2.2.2.2.2.1 i7 (Nat.lt_of_lt_of_le hlt_i7 (by decide))).2.1) ?_
    refine cSN4v e_X2_giveToFoe_48 cl_X2_144 ⟨Nat.le_of_ble_eq_true rfl, Nat.le_of_ble_eq_true rfl⟩ ⟨rfl, rfl⟩  (Nat.le_of_ble_eq_true rfl) (S_X10_distance ) ?_
    obtain ⟨v1, e1, h⟩ := bd1_el h
    rw [e1]
    refine p_istore_5_4 e_X2_giveToFoe_51 rfl rfl ?_
    refine r_iload_n e_X2_giveToFoe_53 rfl ?_
    refine r_iconst e_X2_giveToFoe_54 ic_5 ?_
    refine r_idiv e_X2_giveToFoe_55 (by decide) ?_
    refine r_aload_n e_X2_giveToFoe_56 rfl ?_
    refine r_getR e_X2_giveToFoe_57 fl_X2_27 k0 k3 ?_
    refine r_getI e_X2_giveToFoe_60 fl_X2_132 i0 k4 ?_
    refine r_iconst e_X2_giveToFoe_63 ic_5 ?_
    refine r_idiv e_X2_giveToFoe_64 (by decide) ?_
    obtain ⟨v3_0, v3_1, q3, h⟩ := bd2_el h
    suffices j3 : WP m_X2_giveToFoe _ 79 [some (.ref a), some (.int v3_0), some (.int v3_1), some (.int (nI i7)), none] [] sh M 0 0 by
      refine r_icmp_eq e_X2_giveToFoe_65 (fun c2 => ?_) (fun c2 => ?_)
      · rw [if_pos c2] at q3
        refine d_5_4 ?_
        obtain ⟨rfl, rfl⟩ := pe2 q3; exact j3
      · rw [if_neg c2] at q3
        refine r_iload e_X2_giveToFoe_68 rfl ?_
        refine r_iload_n e_X2_giveToFoe_70 rfl ?_
        refine r_icmp_ge e_X2_giveToFoe_71 (fun c4 => ?_) (fun c4 => ?_)
        · rw [if_pos c4] at q3
          refine d_5_4 ?_
          obtain ⟨rfl, rfl⟩ := pe2 q3; exact j3
        · rw [if_neg c4] at q3
          refine r_iload e_X2_giveToFoe_74 rfl ?_
          refine p_istore_n_5_2 e_X2_giveToFoe_76 rfl rfl ?_
          refine r_iload_n e_X2_giveToFoe_77 rfl ?_
          refine p_istore_n_5_1 e_X2_giveToFoe_78 rfl rfl ?_
          refine d_5_4 ?_
          obtain ⟨rfl, rfl⟩ := pe2 q3; exact j3
    refine p_iinc_5_3 e_X2_giveToFoe_79 rfl ic_1 rfl ?_
    rw [nI_1 i7]
    refine r_goto e_X2_giveToFoe_82 ?_
    exact ih _ _ _ _ _ (by omega) h hE
def R_X2_giveToFoe (a : Nat) (M : Mem) : Option (Mem) := bnd1 (L_X2_giveToFoe_7 a 10 0 (-1 : Int32) (15 : Int32) M) (fun v5_0 => bnd1 (if v5_0 < 0 then (some M) else (ck v5_0 10 (ck v5_0 10 (bd1 (U_X0_hold (a + 4) v5_0 (M.1 (a + 10 + 2 * v5_0.toNatClampNeg) 2) (M.1 (a + 10 + 2 * v5_0.toNatClampNeg) 3) (M.1 a 7) M) (fun M11 => (some M11)))))) (fun M8 => some M8))
theorem S_X2_giveToFoe {sh : List SC} {M : Mem} {a : Nat}  {M' : Mem} (hb1 : MatchAt sh a)  (h : R_X2_giveToFoe a M = some M') : Gu m_X2_giveToFoe [.ref a] sh M M' := by
  refine Sp.of (ls := [some (.ref a), none, none, none, none]) (by decide +kernel) (Nat.le_of_ble_eq_true rfl) rfl ?_
  have k0 : kd sh a = some (2 + 7, 0) := hb1.1
  have k1 : rf sh a 4 = some (a + 4) := hb1.2.2.2.2.2.1
  have k2 : rf sh a 3 = some (a + 3) := hb1.2.2.2.2.1
  have k3 : kd sh (a + 3) = some (6, 10) := hb1.2.2.2.2.2.2.2.1
  have k4 : kd sh (a + 4) = some (0 + 7, 0) := hb1.2.2.2.2.2.2.2.2.2.1.1
  unfold R_X2_giveToFoe at h
  refine r_iconst e_X2_giveToFoe_0 ic_m1 ?_
  refine p_istore_n_5_1 e_X2_giveToFoe_1 rfl rfl ?_
  refine r_bipush e_X2_giveToFoe_2 bp_15 ?_
  refine p_istore_n_5_2 e_X2_giveToFoe_4 rfl rfl ?_
  refine r_iconst e_X2_giveToFoe_5 ic_0 ?_
  refine p_istore_n_5_3 e_X2_giveToFoe_6 rfl rfl ?_
  show WP m_X2_giveToFoe _ 7 [some (.ref a), some (.int (-1 : Int32)), some (.int (15 : Int32)), some (.int (nI 0)), none] [] sh M 0 0
  obtain ⟨v5_0, w5, h⟩ := bnd1_el h
  refine LW_X2_giveToFoe_7 hb1 10 0 _ _ _ _ (by omega) w5 ?_
  refine r_iload_n e_X2_giveToFoe_85 rfl ?_
  obtain ⟨K8, hK8, h⟩ := bnd1_in h
  suffices j8 : ∀ M8, K8 M8 = some M' → WP m_X2_giveToFoe _ 119 [none, none, none, none, none] [] sh M8 0 0 by
    refine r_if_lt e_X2_giveToFoe_86 (fun c6 => ?_) (fun c6 => ?_)
    · rw [if_pos c6] at h
      refine d_5_0 ?_
      refine d_5_1 ?_
      exact j8 _ h
    · rw [if_neg c6] at h
      refine r_aload_n e_X2_giveToFoe_89 rfl ?_
      refine r_getR e_X2_giveToFoe_90 fl_X2_27 k0 k1 ?_
      refine r_iload_n e_X2_giveToFoe_93 rfl ?_
      refine r_aload_n e_X2_giveToFoe_94 rfl ?_
      refine r_getR e_X2_giveToFoe_95 fl_X2_20 k0 k2 ?_
      refine r_iload_n e_X2_giveToFoe_98 rfl ?_
      obtain ⟨b9, h⟩ := ck_elK h
      refine r_aaload (b := (a + 10 + 2 * v5_0.toNatClampNeg)) e_X2_giveToFoe_99 k3 ⟨by decide, by decide⟩ b9 (hb1.2.2.2.2.2.2.2.2.1 v5_0.toNatClampNeg (vp_lt b9)).1 ?_
      refine r_getI e_X2_giveToFoe_100 fl_X2_130 i0 (show kd sh (a + 10 + 2 * v5_0.toNatClampNeg) = some (5 + 7, 0) from (hb1.2.2.2.2.2.2.2.2.1 v5_0.toNatClampNeg (vp_lt b9)).2.1) ?_
      refine r_aload_n e_X2_giveToFoe_103 rfl ?_
      refine r_getR e_X2_giveToFoe_104 fl_X2_20 k0 k2 ?_
      refine r_iload_n e_X2_giveToFoe_107 rfl ?_
      obtain ⟨b10, h⟩ := ck_elK h
      refine r_aaload (b := (a + 10 + 2 * v5_0.toNatClampNeg)) e_X2_giveToFoe_108 k3 ⟨by decide, by decide⟩ b10 (hb1.2.2.2.2.2.2.2.2.1 v5_0.toNatClampNeg (vp_lt b10)).1 ?_
      refine r_getI e_X2_giveToFoe_109 fl_X2_131 i0 (show kd sh (a + 10 + 2 * v5_0.toNatClampNeg) = some (5 + 7, 0) from (hb1.2.2.2.2.2.2.2.2.1 v5_0.toNatClampNeg (vp_lt b10)).2.1) ?_
      refine r_aload_n e_X2_giveToFoe_112 rfl ?_
      refine r_getI e_X2_giveToFoe_113 fl_X2_42 i0 k0 ?_
      refine cV4u e_X2_giveToFoe_116 cl_X2_235 ⟨Nat.le_of_ble_eq_true rfl, Nat.le_of_ble_eq_true rfl⟩ ⟨rfl, rfl⟩ k4 (Nat.le_of_ble_eq_true rfl) (S_X0_hold hb1.2.2.2.2.2.2.2.2.2.1) ?_
      obtain ⟨M11, e11, h⟩ := bd1_elK h
      rw [e11]
      refine d_5_0 ?_
      refine d_5_1 ?_
      exact j8 _ h
  intro M8 h
  rw [hK8] at h
  refine r_return e_X2_giveToFoe_119 rfl ⟨rfl, rfl⟩ ?_
  obtain rfl := Option.some.inj h; exact ⟨rfl, rfl, rfl⟩
def R_X5_copy (a : Nat) (x1 : Nat) (M : Mem) : Option (Mem) := cz (M.1 x1 8) (bd1 (setI (cpyI (setI (setI (setI (setI (setI (setI (setI M a 2 (M.1 x1 2)) a 3 (M.1 x1 3)) a 4 (M.1 x1 4)) a 5 (M.1 x1 5)) a 6 (M.1 x1 6)) a 7 (M.1 x1 7)) a 8 (M.1 x1 8)) (x1 + 1) (a + 1) 4) a 10 ((cpyI (setI (setI (setI (setI (setI (setI (setI M a 2 (M.1 x1 2)) a 3 (M.1 x1 3)) a 4 (M.1 x1 4)) a 5 (M.1 x1 5)) a 6 (M.1 x1 6)) a 7 (M.1 x1 7)) a 8 (M.1 x1 8)) (x1 + 1) (a + 1) 4).1 x1 10)) (fun M2 => some (setI (setI (setI (setI M2 a 11 (M2.1 x1 11)) a 12 (M2.1 x1 12)) a 13 (M2.1 x1 13)) a 14 (M2.1 x1 14))))
theorem S_X5_copy {sh : List SC} {M : Mem} {a : Nat} {x1 : Nat}  {M' : Mem} (hb1 : RobotAt sh a) (hb2 : RobotAt sh x1)  (h : R_X5_copy a x1 M = some M') : Gu m_X5_copy [.ref a, .ref x1] sh M M' := by
  refine Sp.of (ls := [some (.ref a), some (.ref x1)]) (by decide +kernel) (Nat.le_of_ble_eq_true rfl) rfl ?_
  have k0 : kd sh x1 = some (5 + 7, 0) := hb2.1
  have k1 : kd sh a = some (5 + 7, 0) := hb1.1
  have k2 : rf sh x1 9 = some (x1 + 1) := hb2.2.1
  have k3 : kd sh (x1 + 1) = some (0, 4) := hb2.2.2
  have k4 : rf sh a 9 = some (a + 1) := hb1.2.1
  have k5 : kd sh (a + 1) = some (0, 4) := hb1.2.2
  unfold R_X5_copy at h
  refine r_aload_n e_X5_copy_0 rfl ?_
  refine r_aload_n e_X5_copy_1 rfl ?_
  refine r_getI e_X5_copy_2 fl_X5_11 i0 k0 ?_
  refine r_putI e_X5_copy_5 fl_X5_11 k1 ?_
  refine r_aload_n e_X5_copy_8 rfl ?_
  refine r_aload_n e_X5_copy_9 rfl ?_
  refine r_getIe e_X5_copy_10 fl_X5_15 i0 k0 (gs_nI (by decide)) ?_
  refine r_putI e_X5_copy_13 fl_X5_15 k1 ?_
  refine r_aload_n e_X5_copy_16 rfl ?_
  refine r_aload_n e_X5_copy_17 rfl ?_
  refine r_getIe e_X5_copy_18 fl_X5_18 i0 k0 ((gs_nI (by decide)).trans (gs_nI (by decide))) ?_
  refine r_putI e_X5_copy_21 fl_X5_18 k1 ?_
  refine r_aload_n e_X5_copy_24 rfl ?_
  refine r_aload_n e_X5_copy_25 rfl ?_
  refine r_getIe e_X5_copy_26 fl_X5_21 i0 k0 ((gs_nI (by decide)).trans ((gs_nI (by decide)).trans (gs_nI (by decide)))) ?_
  refine r_putI e_X5_copy_29 fl_X5_21 k1 ?_
  refine r_aload_n e_X5_copy_32 rfl ?_
  refine r_aload_n e_X5_copy_33 rfl ?_
  refine r_getIe e_X5_copy_34 fl_X5_24 i0 k0 ((gs_nI (by decide)).trans ((gs_nI (by decide)).trans ((gs_nI (by decide)).trans (gs_nI (by decide))))) ?_
  refine r_putI e_X5_copy_37 fl_X5_24 k1 ?_
  refine r_aload_n e_X5_copy_40 rfl ?_
  refine r_aload_n e_X5_copy_41 rfl ?_
  refine r_getIe e_X5_copy_42 fl_X5_27 i0 k0 ((gs_nI (by decide)).trans ((gs_nI (by decide)).trans ((gs_nI (by decide)).trans ((gs_nI (by decide)).trans (gs_nI (by decide)))))) ?_
  refine r_putI e_X5_copy_45 fl_X5_27 k1 ?_
  refine r_aload_n e_X5_copy_48 rfl ?_
  refine r_aload_n e_X5_copy_49 rfl ?_
  refine r_getIe e_X5_copy_50 fl_X5_30 i3 k0 ((gs_nI (by decide)).trans ((gs_nI (by decide)).trans ((gs_nI (by decide)).trans ((gs_nI (by decide)).trans ((gs_nI (by decide)).trans (gs_nI (by decide))))))) ?_
  obtain ⟨b1, h⟩ := cz_el h
  refine r_putZ e_X5_copy_53 fl_X5_30 b1 k1 ?_
  refine r_aload_n e_X5_copy_56 rfl ?_
  refine r_getR e_X5_copy_57 fl_X5_34 k0 k2 ?_
  refine r_iconst e_X5_copy_60 ic_0 ?_
  refine r_aload_n e_X5_copy_61 rfl ?_
  refine r_getR e_X5_copy_62 fl_X5_34 k1 k4 ?_
  refine r_iconst e_X5_copy_65 ic_0 ?_
  refine r_iconst e_X5_copy_66 ic_4 ?_
  refine r_copyi e_X5_copy_67 cl_X5_89 (Nat.le_of_ble_eq_true rfl) (Nat.le_of_ble_eq_true rfl) (Nat.le_of_ble_eq_true rfl) k3 k5 (by decide) (by decide) (by decide) ?_
  rw [show ((4 : Int32)).toNatClampNeg = 4 from rfl]
  refine r_aload_n e_X5_copy_70 rfl ?_
  refine r_aload_n e_X5_copy_71 rfl ?_
  refine r_getI e_X5_copy_72 fl_X5_38 i0 k0 ?_
  refine r_putI e_X5_copy_75 fl_X5_38 k1 ?_
  obtain ⟨M2, e2, h⟩ := bd1_el h
  rw [e2]
  refine r_aload_n e_X5_copy_78 rfl ?_
  refine r_aload_n e_X5_copy_79 rfl ?_
  refine r_getI e_X5_copy_80 fl_X5_41 i0 k0 ?_
  refine r_putI e_X5_copy_83 fl_X5_41 k1 ?_
  refine r_aload_n e_X5_copy_86 rfl ?_
  refine r_aload_n e_X5_copy_87 rfl ?_
  refine r_getIe e_X5_copy_88 fl_X5_44 i0 k0 (gs_nI (by decide)) ?_
  refine r_putI e_X5_copy_91 fl_X5_44 k1 ?_
  refine r_aload_n e_X5_copy_94 rfl ?_
  refine r_aload_n e_X5_copy_95 rfl ?_
  refine r_getIe e_X5_copy_96 fl_X5_47 i0 k0 ((gs_nI (by decide)).trans (gs_nI (by decide))) ?_
  refine r_putI e_X5_copy_99 fl_X5_47 k1 ?_
  refine r_aload_n e_X5_copy_102 rfl ?_
  refine r_aload_n e_X5_copy_103 rfl ?_
  refine r_getIe e_X5_copy_104 fl_X5_50 i0 k0 ((gs_nI (by decide)).trans ((gs_nI (by decide)).trans (gs_nI (by decide)))) ?_
  refine r_putI e_X5_copy_107 fl_X5_50 k1 ?_
  refine r_return e_X5_copy_110 rfl ⟨rfl, rfl⟩ ?_
  obtain rfl := Option.some.inj h; exact ⟨rfl, rfl, rfl⟩
def L_X2_difference_10 (a : Nat) (x1 : Nat) (w2 : Int32) : Nat → Nat → Mem → Option ((Int32) ⊕ (Unit))
  | 0, i10, M => some (.inr ())
  | n + 1, i10, M => if (V_X2_robotIn a w2 (nI i10) M) = (V_X2_robotIn x1 w2 (nI i10) M) then (L_X2_difference_10 a x1 w2 n (i10 + 1) M) else (some (.inl (w2 + ((15 : Int32) * (nI i10)))))
theorem LW_X2_difference_10 {sh : List SC} {Q : Po} {a : Nat} {x1 : Nat}  {w2 : Int32} (hb1 : MatchAt sh a) (hb2 : MatchAt sh x1)  : ∀ (n i10 : Nat) (M : Mem) (q : (Int32) ⊕ (Unit)), i10 + n = 9 → L_X2_difference_10 a x1 w2 n i10 M = some q → (∀ x, q = .inl x → Q (some (.int x)) sh M) → (∀ zu, q = .inr zu → WP m_X2_difference Q 44 [some (.ref a), some (.ref x1), some (.int w2), none] [] sh M 0 0) → WP m_X2_difference Q 10 [some (.ref a), some (.ref x1), some (.int w2), some (.int (nI i10))] [] sh M 0 0 := by
  intro n
  induction n with
  | zero =>
    intro i10 M q hi h hR hE
    rw [L_X2_difference_10] at h
    have hz : (9 : Int32) ≤ nI i10 := by
      have q : i10 = 9 := by omega
      rw [q]; exact nI_le (Nat.le_refl _) (by decide)
    refine r_iload_n e_X2_difference_10 rfl ?_
    refine r_bipush e_X2_difference_11 bp_9 ?_
    refine r_icmp_ge e_X2_difference_13 (fun _ => ?_) (fun hh => absurd hz hh)
    refine d_4_3 ?_
    exact hE _ (Option.some.inj h).symm
  | succ n ih =>
    intro i10 M q hi h hR hE
    rw [L_X2_difference_10] at h
    have hlt_i10 : i10 < 9 := by omega
    have hcl_i10 : (nI i10).toNatClampNeg = i10 := nI_clamp (by omega)
    have hs : ¬ (9 : Int32) ≤ nI i10 := nI_ge (b := 9) hlt_i10 (by decide)
    have k0 : kd sh a = some (2 + 7, 0) := hb1.1
    have k1 : kd sh x1 = some (2 + 7, 0) := hb2.1
    refine r_iload_n e_X2_difference_10 rfl ?_
    refine r_bipush e_X2_difference_11 bp_9 ?_
    refine r_icmp_ge e_X2_difference_13 (fun hh => absurd hh hs) (fun _ => ?_)
    refine r_aload_n e_X2_difference_16 rfl ?_
    refine r_iload_n e_X2_difference_17 rfl ?_
    refine r_iload_n e_X2_difference_18 rfl ?_
    refine cV2v e_X2_difference_19 cl_X2_141 ⟨Nat.le_of_ble_eq_true rfl, Nat.le_of_ble_eq_true rfl⟩ ⟨rfl, rfl⟩ k0 (Nat.le_of_ble_eq_true rfl) (S_X2_robotIn hb1) ?_
    refine r_aload_n e_X2_difference_22 rfl ?_
    refine r_iload_n e_X2_difference_23 rfl ?_
    refine r_iload_n e_X2_difference_24 rfl ?_
    refine cV2v e_X2_difference_25 cl_X2_141 ⟨Nat.le_of_ble_eq_true rfl, Nat.le_of_ble_eq_true rfl⟩ ⟨rfl, rfl⟩ k1 (Nat.le_of_ble_eq_true rfl) (S_X2_robotIn hb2) ?_
    refine r_icmp_eq e_X2_difference_28 (fun c3 => ?_) (fun c3 => ?_)
    · rw [if_pos c3] at h
      refine p_iinc_4_3 e_X2_difference_38 rfl ic_1 rfl ?_
      rw [nI_1 i10]
      refine r_goto e_X2_difference_41 ?_
      exact ih _  _ _ (by omega) h hR hE
    · rw [if_neg c3] at h
      refine r_iload_n e_X2_difference_31 rfl ?_
      refine r_bipush e_X2_difference_32 bp_15 ?_
      refine r_iload_n e_X2_difference_34 rfl ?_
      refine r_imul e_X2_difference_35 ?_
      refine r_iadd e_X2_difference_36 ?_
      refine r_ireturn e_X2_difference_37 rfl ⟨rfl, rfl⟩ ?_
      exact hR _ (Option.some.inj h).symm
def L_X2_difference_2 (a : Nat) (x1 : Nat) : Nat → Nat → Mem → Option ((Int32) ⊕ (Unit))
  | 0, i2, M => some (.inr ())
  | n + 1, i2, M => bs1 (L_X2_difference_10 a x1 (nI i2) 9 0 M) (fun u4 => L_X2_difference_2 a x1 n (i2 + 1) M)
theorem LW_X2_difference_2 {sh : List SC} {Q : Po} {a : Nat} {x1 : Nat}   (hb1 : MatchAt sh a) (hb2 : MatchAt sh x1)  : ∀ (n i2 : Nat) (M : Mem) (q : (Int32) ⊕ (Unit)), i2 + n = 15 → L_X2_difference_2 a x1 n i2 M = some q → (∀ x, q = .inl x → Q (some (.int x)) sh M) → (∀ zu, q = .inr zu → WP m_X2_difference Q 50 [some (.ref a), some (.ref x1), none, none] [] sh M 0 0) → WP m_X2_difference Q 2 [some (.ref a), some (.ref x1), some (.int (nI i2)), none] [] sh M 0 0 := by
  intro n
  induction n with
  | zero =>
    intro i2 M q hi h hR hE
    rw [L_X2_difference_2] at h
    have hz : (15 : Int32) ≤ nI i2 := by
      have q : i2 = 15 := by omega
      rw [q]; exact nI_le (Nat.le_refl _) (by decide)
    refine r_iload_n e_X2_difference_2 rfl ?_
    refine r_bipush e_X2_difference_3 bp_15 ?_
    refine r_icmp_ge e_X2_difference_5 (fun _ => ?_) (fun hh => absurd hz hh)
    refine d_4_2 ?_
    exact hE _ (Option.some.inj h).symm
  | succ n ih =>
    intro i2 M q hi h hR hE
    rw [L_X2_difference_2] at h
    have hlt_i2 : i2 < 15 := by omega
    have hcl_i2 : (nI i2).toNatClampNeg = i2 := nI_clamp (by omega)
    have hs : ¬ (15 : Int32) ≤ nI i2 := nI_ge (b := 15) hlt_i2 (by decide)
    refine r_iload_n e_X2_difference_2 rfl ?_
    refine r_bipush e_X2_difference_3 bp_15 ?_
    refine r_icmp_ge e_X2_difference_5 (fun hh => absurd hh hs) (fun _ => ?_)
    refine r_iconst e_X2_difference_8 ic_0 ?_
    refine p_istore_n_4_3 e_X2_difference_9 rfl rfl ?_
    show WP m_X2_difference _ 10 [some (.ref a), some (.ref x1), some (.int (nI i2)), some (.int (nI 0))] [] sh M 0 0
    obtain ⟨q4, w4, l4, r4⟩ := bs1_el h
    refine LW_X2_difference_10 hb1 hb2 9 0 _ _ (by omega) w4 (fun x4 y4 => ?_) (fun u4 y4 => ?_)
    · have h := l4 _ y4
      exact hR _ (Option.some.inj h).symm
    have h := r4 _ y4
    refine p_iinc_4_2 e_X2_difference_44 rfl ic_1 rfl ?_
    rw [nI_1 i2]
    refine r_goto e_X2_difference_47 ?_
    exact ih _  _ _ (by omega) h hR hE
def L_X2_difference_64 (a : Nat) (x1 : Nat) : Nat → Nat → Int32 → Mem → Option (Int32)
  | 0, i64, u2, M => some u2
  | n + 1, i64, u2, M => bd1 (if u2 = 0 then (0 : Int32) else (if (V_X5_isLike (a + 10 + 2 * i64) (x1 + 10 + 2 * i64) M) = 0 then (0 : Int32) else (1 : Int32))) (fun v8_0 => L_X2_difference_64 a x1 n (i64 + 1) v8_0 M)
theorem LW_X2_difference_64 {sh : List SC} {Q : Po} {a : Nat} {x1 : Nat}   (hb1 : MatchAt sh a) (hb2 : MatchAt sh x1)  : ∀ (n i64 : Nat) (u2 : Int32) (M : Mem) (z2 : Int32), i64 + n = 10 → L_X2_difference_64 a x1 n i64 u2 M = some z2 → WP m_X2_difference Q 116 [none, none, some (.int z2), none] [] sh M 0 0 → WP m_X2_difference Q 64 [some (.ref a), some (.ref x1), some (.int u2), some (.int (nI i64))] [] sh M 0 0 := by
  intro n
  induction n with
  | zero =>
    intro i64 u2 M z2 hi h hE
    rw [L_X2_difference_64] at h
    have hz : (10 : Int32) ≤ nI i64 := by
      have q : i64 = 10 := by omega
      rw [q]; exact nI_le (Nat.le_refl _) (by decide)
    have k0 : kd sh a = some (2 + 7, 0) := hb1.1
    have k1 : rf sh a 3 = some (a + 3) := hb1.2.2.2.2.1
    have k2 : kd sh (a + 3) = some (6, 10) := hb1.2.2.2.2.2.2.2.1
    refine r_iload_n e_X2_difference_64 rfl ?_
    refine r_aload_n e_X2_difference_65 rfl ?_
    refine r_getR e_X2_difference_66 fl_X2_20 k0 k1 ?_
    refine r_alen (v := (10 : Int32)) e_X2_difference_69 k2 (by decide) rfl ?_
    refine r_icmp_ge e_X2_difference_70 (fun _ => ?_) (fun hh => absurd hz hh)
    refine d_4_0 ?_
    refine d_4_1 ?_
    refine d_4_3 ?_
    obtain rfl := Option.some.inj h; exact hE
  | succ n ih =>
    intro i64 u2 M z2 hi h hE
    rw [L_X2_difference_64] at h
    have hlt_i64 : i64 < 10 := by omega
    have hcl_i64 : (nI i64).toNatClampNeg = i64 := nI_clamp (by omega)
    have hs : ¬ (10 : Int32) ≤ nI i64 := nI_ge (b := 10) hlt_i64 (by decide)
    have k0 : kd sh a = some (2 + 7, 0) := hb1.1
    have k1 : rf sh a 3 = some (a + 3) := hb1.2.2.2.2.1
    have k2 : kd sh (a + 3) = some (6, 10) := hb1.2.2.2.2.2.2.2.1
    have k3 : kd sh x1 = some (2 + 7, 0) := hb2.1
    have k4 : rf sh x1 3 = some (x1 + 3) := hb2.2.2.2.2.1
    have k5 : kd sh (x1 + 3) = some (6, 10) := hb2.2.2.2.2.2.2.2.1
    refine r_iload_n e_X2_difference_64 rfl ?_
    refine r_aload_n e_X2_difference_65 rfl ?_
    refine r_getR e_X2_difference_66 fl_X2_20 k0 k1 ?_
    refine r_alen (v := (10 : Int32)) e_X2_difference_69 k2 (by decide) rfl ?_
    refine r_icmp_ge e_X2_difference_70 (fun hh => absurd hh hs) (fun _ => ?_)
    refine r_iload_n e_X2_difference_73 rfl ?_
    refine r_aload_n e_X2_difference_74 rfl ?_
    refine r_getR e_X2_difference_75 fl_X2_20 k3 k4 ?_
    refine r_alen (v := (10 : Int32)) e_X2_difference_78 k5 (by decide) rfl ?_
    refine r_icmp_ge e_X2_difference_79 (fun hh => absurd hh hs) (fun _ => ?_)
    refine r_iload_n e_X2_difference_82 rfl ?_
    obtain ⟨v8_0, q8, h⟩ := bd1_el h
    suffices j8 : WP m_X2_difference _ 109 [some (.ref a), some (.ref x1), none, some (.int (nI i64))] [.int v8_0] sh M 0 0 by
      refine r_if_eq e_X2_difference_83 (fun c7 => ?_) (fun c7 => ?_)
      · rw [if_pos c7] at q8
        refine r_iconst e_X2_difference_108 ic_0 ?_
        refine d_4_2 ?_
        subst q8; exact j8
      · rw [if_neg c7] at q8
        refine r_aload_n e_X2_difference_86 rfl ?_
        refine r_getR e_X2_difference_87 fl_X2_20 k0 k1 ?_
        refine r_iload_n e_X2_difference_90 rfl ?_
        refine r_aaload (b := (a + 10 + 2 * i64)) e_X2_difference_91 k2 ⟨by decide, by decide⟩ (vp_in_nI (Nat.lt_of_lt_of_le hlt_i64 (by decide)) (by decide)) (by rw [hcl_i64]; exact (hb1.2.2.2.2.2.2.2.2.1 i64 (Nat.lt_of_lt_of_le hlt_i64 (by decide))).1) ?_
        refine r_aload_n e_X2_difference_92 rfl ?_
        refine r_getR e_X2_difference_93 fl_X2_20 k3 k4 ?_
        refine r_iload_n e_X2_difference_96 rfl ?_
        refine r_aaload (b := (x1 + 10 + 2 * i64)) e_X2_difference_97 k5 ⟨by decide, by decide⟩ (vp_in_nI (Nat.lt_of_lt_of_le hlt_i64 (by decide)) (by decide)) (by rw [hcl_i64]; exact (hb2.2.2.2.2.2.2.2.2.1 i64 (Nat.lt_of_lt_of_le hlt_i64 (by decide))).1) ?_
        refine cV1v e_X2_difference_98 cl_X2_276 ⟨Nat.le_of_ble_eq_true rfl, Nat.le_of_ble_eq_true rfl⟩ ⟨rfl, rfl⟩ (show kd sh (a + 10 + 2 * i64) = some (5 + 7, 0) from (hb1.2.2.2.2.2.2.2.2.1 i64 (Nat.lt_of_lt_of_le hlt_i64 (by decide))).2.1) (Nat.le_of_ble_eq_true rfl) (S_X5_isLike (hb1.2.2.2.2.2.2.2.2.1 i64 (Nat.lt_of_lt_of_le hlt_i64 (by decide))).2 (hb2.2.2.2.2.2.2.2.2.1 i64 (Nat.lt_of_lt_of_le hlt_i64 (by decide))).2) ?_
        refine r_if_eq e_X2_difference_101 (fun c9 => ?_) (fun c9 => ?_)
        · rw [if_pos c9] at q8
          refine r_iconst e_X2_difference_108 ic_0 ?_
          refine d_4_2 ?_
          subst q8; exact j8
        · rw [if_neg c9] at q8
          refine r_iconst e_X2_difference_104 ic_1 ?_
          refine r_goto e_X2_difference_105 ?_
          refine d_4_2 ?_
          subst q8; exact j8
    refine p_istore_n_4_2 e_X2_difference_109 rfl rfl ?_
    refine p_iinc_4_3 e_X2_difference_110 rfl ic_1 rfl ?_
    rw [nI_1 i64]
    refine r_goto e_X2_difference_113 ?_
    exact ih _ _ _ _ (by omega) h hE
def R_X2_difference (a : Nat) (x1 : Nat) (M : Mem) : Option (Int32) := br1 (L_X2_difference_2 a x1 15 0 M) (fun u5 => bd1 (V_X0_isLike (a + 4) (x1 + 4) M) (fun v6 => bnd1 (L_X2_difference_64 a x1 10 0 v6 M) (fun v10_0 => bd1 (if v10_0 = 0 then (1000 : Int32) else (2000 : Int32)) (fun v12_0 => some v12_0))))
theorem S_X2_difference {sh : List SC} {M : Mem} {a : Nat} {x1 : Nat}  {v' : Int32} (hb1 : MatchAt sh a) (hb2 : MatchAt sh x1)  (h : R_X2_difference a x1 M = some v') : Gv m_X2_difference [.ref a, .ref x1] sh M (.int v') M := by
  refine Sp.of (ls := [some (.ref a), some (.ref x1), none, none]) (by decide +kernel) (Nat.le_of_ble_eq_true rfl) rfl ?_
  have k0 : kd sh a = some (2 + 7, 0) := hb1.1
  have k1 : rf sh a 4 = some (a + 4) := hb1.2.2.2.2.2.1
  have k2 : kd sh x1 = some (2 + 7, 0) := hb2.1
  have k3 : rf sh x1 4 = some (x1 + 4) := hb2.2.2.2.2.2.1
  have k4 : kd sh (a + 4) = some (0 + 7, 0) := hb1.2.2.2.2.2.2.2.2.2.1.1
  unfold R_X2_difference at h
  refine r_iconst e_X2_difference_0 ic_0 ?_
  refine p_istore_n_4_2 e_X2_difference_1 rfl rfl ?_
  show WP m_X2_difference _ 2 [some (.ref a), some (.ref x1), some (.int (nI 0)), none] [] sh M 0 0
  obtain ⟨q5, w5, l5, r5⟩ := br1_el h
  refine LW_X2_difference_2 hb1 hb2 15 0 _ _ (by omega) w5 (fun x5 y5 => ?_) (fun u5 y5 => ?_)
  · have h := l5 _ y5
    obtain rfl := Option.some.inj h; exact ⟨rfl, rfl, rfl⟩
  have h := r5 _ y5
  refine r_aload_n e_X2_difference_50 rfl ?_
  refine r_getR e_X2_difference_51 fl_X2_27 k0 k1 ?_
  refine r_aload_n e_X2_difference_54 rfl ?_
  refine r_getR e_X2_difference_55 fl_X2_27 k2 k3 ?_
  refine cV1v e_X2_difference_58 cl_X2_272 ⟨Nat.le_of_ble_eq_true rfl, Nat.le_of_ble_eq_true rfl⟩ ⟨rfl, rfl⟩ k4 (Nat.le_of_ble_eq_true rfl) (S_X0_isLike hb1.2.2.2.2.2.2.2.2.2.1 hb2.2.2.2.2.2.2.2.2.2.1) ?_
  obtain ⟨v6, e6, h⟩ := bd1_el h
  rw [e6]
  refine p_istore_n_4_2 e_X2_difference_61 rfl rfl ?_
  refine r_iconst e_X2_difference_62 ic_0 ?_
  refine p_istore_n_4_3 e_X2_difference_63 rfl rfl ?_
  show WP m_X2_difference _ 64 [some (.ref a), some (.ref x1), some (.int v6), some (.int (nI 0))] [] sh M 0 0
  obtain ⟨v10_0, w10, h⟩ := bnd1_el h
  refine LW_X2_difference_64 hb1 hb2 10 0 _ _ _ (by omega) w10 ?_
  refine r_iload_n e_X2_difference_116 rfl ?_
  obtain ⟨v12_0, q12, h⟩ := bd1_el h
  suffices j12 : WP m_X2_difference _ 129 [none, none, none, none] [.int v12_0] sh M 0 0 by
    refine r_if_eq e_X2_difference_117 (fun c11 => ?_) (fun c11 => ?_)
    · rw [if_pos c11] at q12
      refine r_sipush e_X2_difference_126 sp_1000 ?_
      refine d_4_2 ?_
      subst q12; exact j12
    · rw [if_neg c11] at q12
      refine r_sipush e_X2_difference_120 sp_2000 ?_
      refine r_goto e_X2_difference_123 ?_
      refine d_4_2 ?_
      subst q12; exact j12
  refine r_ireturn e_X2_difference_129 rfl ⟨rfl, rfl⟩ ?_
  obtain rfl := Option.some.inj h; exact ⟨rfl, rfl, rfl⟩
def R_X10_tell (x1 : Int32) (M : Mem) : Option (Int32 × Mem) := if (M.1 0 9) < (20 : Int32) then (ck (M.1 0 9) 20 (some (((M.1 0 9) + (1 : Int32)), setI (setI M 15 (M.1 0 9).toNatClampNeg x1) 0 9 ((M.1 0 9) + (1 : Int32))))) else (some ((V_X10_finding (-1002 : Int32) M), U_X10_finding (-1002 : Int32) M))
theorem S_X10_tell {sh : List SC} {M : Mem} {x1 : Int32}  {v' : Int32} {M' : Mem} (hb1 : PitchAt sh)  (h : R_X10_tell x1 M = some (v', M')) : Gv m_X10_tell [.ref 0, .int x1] sh M (.int v') M' := by
  refine Sp.of (ls := [some (.ref 0), some (.int x1)]) (by decide +kernel) (Nat.le_of_ble_eq_true rfl) rfl ?_
  have k0 : kd sh 0 = some (9 + 7, 0) := hb1.1
  have k1 : rf sh 0 8 = some 15 := hb1.2.2.2.2.2.2.2.2.2.1
  have k2 : kd sh 15 = some (0, 20) := hb1.2.2.2.2.2.2.2.2.2.2.2.1
  unfold R_X10_tell at h
  refine r_aload_n e_X10_tell_0 rfl ?_
  refine r_getI e_X10_tell_1 fl_X10_48 i0 k0 ?_
  refine r_aload_n e_X10_tell_4 rfl ?_
  refine r_getR e_X10_tell_5 fl_X10_45 k0 k1 ?_
  refine r_alen (v := (20 : Int32)) e_X10_tell_8 k2 (by decide) rfl ?_
  refine r_icmp_lt e_X10_tell_9 (fun c1 => ?_) (fun c1 => ?_)
  · rw [if_pos c1] at h
    refine r_aload_n e_X10_tell_20 rfl ?_
    refine r_getR e_X10_tell_21 fl_X10_45 k0 k1 ?_
    refine r_aload_n e_X10_tell_24 rfl ?_
    refine r_getI e_X10_tell_25 fl_X10_48 i0 k0 ?_
    refine r_iload_n e_X10_tell_28 rfl ?_
    obtain ⟨b2, h⟩ := ck_el h
    refine r_iastore e_X10_tell_29 k2 b2 ?_
    refine r_aload_n e_X10_tell_30 rfl ?_
    refine r_dup e_X10_tell_31 rfl ?_
    refine r_getIe e_X10_tell_32 fl_X10_48 i0 k0 (gs_aI (by omega)) ?_
    refine r_iconst e_X10_tell_35 ic_1 ?_
    refine r_iadd e_X10_tell_36 ?_
    refine r_putI e_X10_tell_37 fl_X10_48 k0 ?_
    refine r_aload_n e_X10_tell_40 rfl ?_
    refine r_getIe e_X10_tell_41 fl_X10_48 i0 k0 gs_eI ?_
    refine r_ireturn e_X10_tell_44 rfl ⟨rfl, rfl⟩ ?_
    obtain ⟨rfl, rfl⟩ := ps2 h; exact ⟨rfl, rfl, rfl⟩
  · rw [if_neg c1] at h
    refine r_aload_n e_X10_tell_12 rfl ?_
    refine r_sipush e_X10_tell_13 sp_m1002 ?_
    refine cV1v e_X10_tell_16 cl_X10_70 ⟨Nat.le_of_ble_eq_true rfl, Nat.le_of_ble_eq_true rfl⟩ ⟨rfl, rfl⟩ k0 (Nat.le_of_ble_eq_true rfl) (S_X10_finding hb1) ?_
    refine r_ireturn e_X10_tell_19 rfl ⟨rfl, rfl⟩ ?_
    obtain ⟨rfl, rfl⟩ := ps2 h; exact ⟨rfl, rfl, rfl⟩
def L_X10_check_41 (w1 : Int32) (w2 : Int32) : Nat → Int32 → Mem → Option ((Int32 × Mem) ⊕ (Unit))
  | 0, _, _ => none
  | n + 1, u3, M => if w2 ≤ u3 then (some (.inr ())) else (if w1 ≤ u3 then (some (.inl (((1 : Int32) + u3), M))) else (if (V_X10_at 15 u3 20 M) = (V_X7_goalAt 129 u3 M) then (L_X10_check_41 w1 w2 n (u3 + 1) M) else (some (.inl (((1 : Int32) + u3), M)))))
theorem LW_X10_check_41 {sh : List SC} {Q : Po}   {w1 : Int32} {w2 : Int32} (hb1 : PitchAt sh)  : ∀ (n : Nat) (u3 : Int32) (M : Mem) (q : (Int32 × Mem) ⊕ (Unit)), L_X10_check_41 w1 w2 n u3 M = some q → (∀ x, q = .inl x → Q (some (.int x.1)) sh x.2) → (∀ zu, q = .inr zu → WP m_X10_check Q 83 [none, some (.int w1), some (.int w2), none] [] sh M 0 0) → WP m_X10_check Q 41 [some (.ref 0), some (.int w1), some (.int w2), some (.int u3)] [] sh M 0 0 := by
  intro n
  induction n with
  | zero =>
    intro u3 M q h hR hE
    rw [L_X10_check_41] at h
    cases h
  | succ n ih =>
    intro u3 M q h hR hE
    rw [L_X10_check_41] at h
    have k0 : kd sh 0 = some (9 + 7, 0) := hb1.1
    have k1 : rf sh 0 8 = some 15 := hb1.2.2.2.2.2.2.2.2.2.1
    have k2 : kd sh 15 = some (0, 20) := hb1.2.2.2.2.2.2.2.2.2.2.2.1
    have k3 : rf sh 0 4 = some 122 := hb1.2.2.2.2.2.1
    have k4 : kd sh 122 = some (2 + 7, 0) := hb1.2.2.2.2.2.2.2.2.2.2.2.2.2.2.2.2.1.1
    have k5 : rf sh 122 5 = some 129 := hb1.2.2.2.2.2.2.2.2.2.2.2.2.2.2.2.2.1.2.2.2.2.2.2.1
    have k6 : kd sh 129 = some (7 + 7, 0) := hb1.2.2.2.2.2.2.2.2.2.2.2.2.2.2.2.2.1.2.2.2.2.2.2.2.2.2.2.1.1
    refine r_iload_n e_X10_check_41 rfl ?_
    refine r_iload_n e_X10_check_42 rfl ?_
    refine r_icmp_ge e_X10_check_43 (fun c5 => ?_) (fun c5 => ?_)
    · rw [if_pos c5] at h
      refine d_4_0 ?_
      refine d_4_3 ?_
      exact hE _ (Option.some.inj h).symm
    · rw [if_neg c5] at h
      refine r_iload_n e_X10_check_46 rfl ?_
      refine r_iload_n e_X10_check_47 rfl ?_
      refine r_icmp_ge e_X10_check_48 (fun c6 => ?_) (fun c6 => ?_)
      · rw [if_pos c6] at h
        refine r_iconst e_X10_check_73 ic_1 ?_
        refine r_iload_n e_X10_check_74 rfl ?_
        refine r_iadd e_X10_check_75 ?_
        refine r_ireturn e_X10_check_76 rfl ⟨rfl, rfl⟩ ?_
        exact hR _ (Option.some.inj h).symm
      · rw [if_neg c6] at h
        refine r_aload_n e_X10_check_51 rfl ?_
        refine r_getR e_X10_check_52 fl_X10_45 k0 k1 ?_
        refine r_iload_n e_X10_check_55 rfl ?_
        refine cS2v e_X10_check_56 cl_X10_192 ⟨Nat.le_of_ble_eq_true rfl, Nat.le_of_ble_eq_true rfl⟩ ⟨rfl, rfl⟩  (Nat.le_of_ble_eq_true rfl) (S_X10_at k2 (by decide)) ?_
        refine r_aload_n e_X10_check_59 rfl ?_
        refine r_getR e_X10_check_60 fl_X10_63 k0 k3 ?_
        refine r_getR e_X10_check_63 fl_X10_143 k4 k5 ?_
        refine r_iload_n e_X10_check_66 rfl ?_
        refine cV1v e_X10_check_67 cl_X10_151 ⟨Nat.le_of_ble_eq_true rfl, Nat.le_of_ble_eq_true rfl⟩ ⟨rfl, rfl⟩ k6 (Nat.le_of_ble_eq_true rfl) (S_X7_goalAt hb1.2.2.2.2.2.2.2.2.2.2.2.2.2.2.2.2.1.2.2.2.2.2.2.2.2.2.2.1) ?_
        refine r_icmp_eq e_X10_check_70 (fun c7 => ?_) (fun c7 => ?_)
        · rw [if_pos c7] at h
          refine p_iinc_4_3 e_X10_check_77 rfl ic_1 rfl ?_
          refine r_goto e_X10_check_80 ?_
          exact ih _ _ _ h hR hE
        · rw [if_neg c7] at h
          refine r_iconst e_X10_check_73 ic_1 ?_
          refine r_iload_n e_X10_check_74 rfl ?_
          refine r_iadd e_X10_check_75 ?_
          refine r_ireturn e_X10_check_76 rfl ⟨rfl, rfl⟩ ?_
          exact hR _ (Option.some.inj h).symm
def R_X10_check (M : Mem) : Option (Int32 × Mem) := if (M.1 122 6) = 0 then (bd1 (U_X10_finding (-1003 : Int32) (setI M 0 9 (0 : Int32))) (fun M11 => some ((V_X10_finding (-1003 : Int32) (setI M 0 9 (0 : Int32))), M11))) else (bd1 (V_X7_listed 129 (setI M 0 9 (0 : Int32))) (fun v2 => br1 (L_X10_check_41 (M.1 0 9) v2 FUEL (0 : Int32) (setI M 0 9 (0 : Int32))) (fun u8 => bd1 (if (M.1 0 9) ≤ v2 then (0 : Int32) else (99 : Int32)) (fun v10_0 => some (v10_0, setI M 0 9 (0 : Int32))))))
theorem S_X10_check {sh : List SC} {M : Mem}   {v' : Int32} {M' : Mem} (hb1 : PitchAt sh)  (h : R_X10_check  M = some (v', M')) : Gv m_X10_check [.ref 0] sh M (.int v') M' := by
  refine Sp.of (ls := [some (.ref 0), none, none, none]) (by decide +kernel) (Nat.le_of_ble_eq_true rfl) rfl ?_
  have k0 : kd sh 0 = some (9 + 7, 0) := hb1.1
  have k1 : rf sh 0 4 = some 122 := hb1.2.2.2.2.2.1
  have k2 : kd sh 122 = some (2 + 7, 0) := hb1.2.2.2.2.2.2.2.2.2.2.2.2.2.2.2.2.1.1
  have k3 : rf sh 122 5 = some 129 := hb1.2.2.2.2.2.2.2.2.2.2.2.2.2.2.2.2.1.2.2.2.2.2.2.1
  have k4 : kd sh 129 = some (7 + 7, 0) := hb1.2.2.2.2.2.2.2.2.2.2.2.2.2.2.2.2.1.2.2.2.2.2.2.2.2.2.2.1.1
  unfold R_X10_check at h
  refine r_aload_n e_X10_check_0 rfl ?_
  refine r_getI e_X10_check_1 fl_X10_48 i0 k0 ?_
  refine p_istore_n_4_1 e_X10_check_4 rfl rfl ?_
  refine r_aload_n e_X10_check_5 rfl ?_
  refine r_iconst e_X10_check_6 ic_0 ?_
  refine r_putI e_X10_check_7 fl_X10_48 k0 ?_
  refine r_aload_n e_X10_check_10 rfl ?_
  refine r_getR e_X10_check_11 fl_X10_63 k0 k1 ?_
  refine r_getIe e_X10_check_14 fl_X10_115 i3 k2 (gs_nI (by decide)) ?_
  refine r_if_ne e_X10_check_17 (fun c1 => ?_) (fun c1 => ?_)
  · rw [if_neg c1] at h
    refine r_aload_n e_X10_check_28 rfl ?_
    refine r_getR e_X10_check_29 fl_X10_63 k0 k1 ?_
    refine r_getR e_X10_check_32 fl_X10_143 k2 k3 ?_
    refine cV0v e_X10_check_35 cl_X10_148 ⟨Nat.le_of_ble_eq_true rfl, Nat.le_of_ble_eq_true rfl⟩ ⟨rfl, rfl⟩ k4 (Nat.le_of_ble_eq_true rfl) (S_X7_listed hb1.2.2.2.2.2.2.2.2.2.2.2.2.2.2.2.2.1.2.2.2.2.2.2.2.2.2.2.1) ?_
    obtain ⟨v2, e2, h⟩ := bd1_el h
    rw [e2]
    refine p_istore_n_4_2 e_X10_check_38 rfl rfl ?_
    refine r_iconst e_X10_check_39 ic_0 ?_
    refine p_istore_n_4_3 e_X10_check_40 rfl rfl ?_
    obtain ⟨q8, w8, l8, r8⟩ := br1_el h
    refine LW_X10_check_41 hb1 _ _ _ _ w8 (fun x8 y8 => ?_) (fun u8 y8 => ?_)
    · have h := l8 _ y8
      obtain ⟨rfl, rfl⟩ := ps2 h; exact ⟨rfl, rfl, rfl⟩
    have h := r8 _ y8
    refine r_iload_n e_X10_check_83 rfl ?_
    refine r_iload_n e_X10_check_84 rfl ?_
    obtain ⟨v10_0, q10, h⟩ := bd1_el h
    suffices j10 : WP m_X10_check _ 94 [none, none, none, none] [.int v10_0] sh (setI M 0 9 (0 : Int32)) 0 0 by
      refine r_icmp_le e_X10_check_85 (fun c9 => ?_) (fun c9 => ?_)
      · rw [if_pos c9] at q10
        refine r_iconst e_X10_check_93 ic_0 ?_
        refine d_4_1 ?_
        refine d_4_2 ?_
        subst q10; exact j10
      · rw [if_neg c9] at q10
        refine r_bipush e_X10_check_88 bp_99 ?_
        refine r_goto e_X10_check_90 ?_
        refine d_4_1 ?_
        refine d_4_2 ?_
        subst q10; exact j10
    refine r_ireturn e_X10_check_94 rfl ⟨rfl, rfl⟩ ?_
    obtain ⟨rfl, rfl⟩ := ps2 h; exact ⟨rfl, rfl, rfl⟩
  · rw [if_pos c1] at h
    refine r_aload_n e_X10_check_20 rfl ?_
    refine r_sipush e_X10_check_21 sp_m1003 ?_
    refine cV1v e_X10_check_24 cl_X10_70 ⟨Nat.le_of_ble_eq_true rfl, Nat.le_of_ble_eq_true rfl⟩ ⟨rfl, rfl⟩ k0 (Nat.le_of_ble_eq_true rfl) (S_X10_finding hb1) ?_
    obtain ⟨M11, e11, h⟩ := bd1_el h
    rw [e11]
    refine r_ireturn e_X10_check_27 rfl ⟨rfl, rfl⟩ ?_
    obtain ⟨rfl, rfl⟩ := ps2 h; exact ⟨rfl, rfl, rfl⟩
def R_X11_finding (x1 : Int32) (mA : Nat) (M : Mem) : Option (Int32 × Mem) := ck ((-1000 : Int32) - x1) 6 (ck ((-1000 : Int32) - x1) 6 (some (x1, setI M 253 ((-1000 : Int32) - x1).toNatClampNeg ((M.1 253 ((-1000 : Int32) - x1).toNatClampNeg) + (1 : Int32)))))
theorem S_X11_finding {sh : List SC} {M : Mem} {x1 : Int32} {mA : Nat} {oA : Nat} {v' : Int32} {M' : Mem} (hb1 : ModelAt sh mA oA)  (h : R_X11_finding x1 mA M = some (v', M')) : Gv m_X11_finding [.ref 242, .int x1] sh M (.int v') M' := by
  refine Sp.of (ls := [some (.ref 242), some (.int x1)]) (by decide +kernel) (Nat.le_of_ble_eq_true rfl) rfl ?_
  have k0 : kd sh 242 = some (10 + 7, 0) := hb1.1
  have k1 : rf sh 242 21 = some 253 := hb1.2.2.2.2.2.2.2.2.2.2.2.1
  have k2 : kd sh 253 = some (0, 6) := hb1.2.2.2.2.2.2.2.2.2.2.2.2.2.2.2.2.2.2.2.2.2.2.2.2.2.2.2.2.2.2.2.2.2.2.2.2.2.1
  unfold R_X11_finding at h
  refine r_aload_n e_X11_finding_0 rfl ?_
  refine r_getR e_X11_finding_1 fl_X11_189 k0 k1 ?_
  refine r_sipush e_X11_finding_4 sp_m1000 ?_
  refine r_iload_n e_X11_finding_7 rfl ?_
  refine r_isub e_X11_finding_8 ?_
  refine r_dup2 e_X11_finding_9 rfl rfl ?_
  obtain ⟨b1, h⟩ := ck_el h
  refine r_iaload e_X11_finding_10 k2 b1 ?_
  refine r_iconst e_X11_finding_11 ic_1 ?_
  refine r_iadd e_X11_finding_12 ?_
  obtain ⟨b2, h⟩ := ck_el h
  refine r_iastore e_X11_finding_13 k2 b2 ?_
  refine r_iload_n e_X11_finding_14 rfl ?_
  refine r_ireturn e_X11_finding_15 rfl ⟨rfl, rfl⟩ ?_
  obtain ⟨rfl, rfl⟩ := ps2 h; exact ⟨rfl, rfl, rfl⟩
