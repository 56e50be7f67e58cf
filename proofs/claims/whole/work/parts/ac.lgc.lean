/-! ===== the league of the class ===== -/
def L_X10_league_73 (x1 : Int32) (x2 : Int32) (w5 : Int32) : Nat → Int32 → Int32 → Mem → Option (Int32 × Mem)
  | 0, _, _, _ => none
  | n + 1, u4, u6, M => if (4 : Int32) ≤ u6 then (some (u4, M)) else (bnd2 (if (V_X1_has 11 w5 M) = 0 then (some (u4, M)) else (if (V_X1_has 11 u6 M) = 0 then (some (u4, M)) else (bnd1 (R_X2_open 152 w5 u6 M) (fun M15 => bnd2 (R_X2_play 152 x2 M15) (fun v16 M16 => bd1 (U_X1_enter 11 w5 u6 (M16.1 159 0) (M16.1 159 1) M16) (fun M17 => (some ((u4 + 1), M17)))))))) (fun v13_0 M13 => L_X10_league_73 x1 x2 w5 n v13_0 (u6 + 1) M13))
theorem LW_X10_league_73 {sh : List SC} {Q : Po} {x1 : Int32} {x2 : Int32}  {w5 : Int32} (hb1 : PitchAt sh)  : ∀ (n : Nat) (u4 : Int32) (u6 : Int32) (M : Mem) (z4 : Int32) (Mz : Mem), L_X10_league_73 x1 x2 w5 n u4 u6 M = some (z4, Mz) → WP m_X10_league Q 163 [some (.ref 0), none, some (.int x2), none, some (.int z4), some (.int w5), none] [] sh Mz 0 0 → WP m_X10_league Q 73 [some (.ref 0), none, some (.int x2), none, some (.int u4), some (.int w5), some (.int u6)] [] sh M 0 0 := by
  intro n
  induction n with
  | zero =>
    intro u4 u6 M z4 Mz h hE
    rw [L_X10_league_73] at h
    cases h
  | succ n ih =>
    intro u4 u6 M z4 Mz h hE
    rw [L_X10_league_73] at h
    have k0 : kd sh 0 = some (9 + 7, 0) := hb1.1
    have k1 : rf sh 0 7 = some 11 := hb1.2.2.2.2.2.2.2.2.1
    have k2 : kd sh 11 = some (1 + 7, 0) := hb1.2.2.2.2.2.2.2.2.2.2.2.2.2.2.2.1.1
    have k3 : rf sh 0 5 = some 152 := hb1.2.2.2.2.2.2.1
    have k4 : kd sh 152 = some (2 + 7, 0) := hb1.2.2.2.2.2.2.2.2.2.2.2.2.2.2.2.2.2.1.1
    have k5 : rf sh 152 5 = some 159 := hb1.2.2.2.2.2.2.2.2.2.2.2.2.2.2.2.2.2.1.2.2.2.2.2.2.1
    have k6 : kd sh 159 = some (7 + 7, 0) := hb1.2.2.2.2.2.2.2.2.2.2.2.2.2.2.2.2.2.1.2.2.2.2.2.2.2.2.2.2.1.1
    refine r_iload e_X10_league_73 rfl ?_
    refine r_iconst e_X10_league_75 ic_4 ?_
    refine r_icmp_ge e_X10_league_76 (fun c9 => ?_) (fun c9 => ?_)
    · rw [if_pos c9] at h
      refine d_7_6 ?_
      obtain ⟨rfl, rfl⟩ := ps2 h; exact hE
    · rw [if_neg c9] at h
      refine r_aload_n e_X10_league_79 rfl ?_
      refine r_getR e_X10_league_80 fl_X10_41 k0 k1 ?_
      refine r_iload e_X10_league_83 rfl ?_
      refine cV1v e_X10_league_85 cl_X10_173 ⟨Nat.le_of_ble_eq_true rfl, Nat.le_of_ble_eq_true rfl⟩ ⟨rfl, rfl⟩ k2 (Nat.le_of_ble_eq_true rfl) (S_X1_has hb1.2.2.2.2.2.2.2.2.2.2.2.2.2.2.2.1) ?_
      obtain ⟨K13, hK13, h⟩ := bnd2_in h
      suffices j13 : ∀ v13_0 M13, K13 (v13_0, M13) = some (z4, Mz) → WP m_X10_league _ 157 [some (.ref 0), none, some (.int x2), none, some (.int v13_0), some (.int w5), some (.int u6)] [] sh M13 0 0 by
        refine r_if_eq e_X10_league_88 (fun c10 => ?_) (fun c10 => ?_)
        · rw [if_pos c10] at h
          exact j13 _ _ h
        · rw [if_neg c10] at h
          refine r_aload_n e_X10_league_91 rfl ?_
          refine r_getR e_X10_league_92 fl_X10_41 k0 k1 ?_
          refine r_iload e_X10_league_95 rfl ?_
          refine cV1v e_X10_league_97 cl_X10_173 ⟨Nat.le_of_ble_eq_true rfl, Nat.le_of_ble_eq_true rfl⟩ ⟨rfl, rfl⟩ k2 (Nat.le_of_ble_eq_true rfl) (S_X1_has hb1.2.2.2.2.2.2.2.2.2.2.2.2.2.2.2.1) ?_
          refine r_if_eq e_X10_league_100 (fun c14 => ?_) (fun c14 => ?_)
          · rw [if_pos c14] at h
            exact j13 _ _ h
          · rw [if_neg c14] at h
            refine r_aload_n e_X10_league_103 rfl ?_
            refine r_getR e_X10_league_104 fl_X10_67 k0 k3 ?_
            refine r_iload e_X10_league_107 rfl ?_
            refine r_iload e_X10_league_109 rfl ?_
            obtain ⟨M15, w15, h⟩ := bnd1_elK h
            refine cV2u e_X10_league_111 cl_X10_111 ⟨Nat.le_of_ble_eq_true rfl, Nat.le_of_ble_eq_true rfl⟩ ⟨rfl, rfl⟩ k4 (Nat.le_of_ble_eq_true rfl) (S_X2_open hb1.2.2.2.2.2.2.2.2.2.2.2.2.2.2.2.2.2.1 w15) ?_
            refine r_aload_n e_X10_league_114 rfl ?_
            refine r_getR e_X10_league_115 fl_X10_67 k0 k3 ?_
            refine r_iload_n e_X10_league_118 rfl ?_
            obtain ⟨v16, M16, w16, h⟩ := bnd2_elK h
            refine cV1v e_X10_league_119 cl_X10_119 ⟨Nat.le_of_ble_eq_true rfl, Nat.le_of_ble_eq_true rfl⟩ ⟨rfl, rfl⟩ k4 (Nat.le_of_ble_eq_true rfl) (S_X2_play hb1.2.2.2.2.2.2.2.2.2.2.2.2.2.2.2.2.2.1 w16) ?_
            refine r_pop e_X10_league_122 rfl ?_
            refine r_aload_n e_X10_league_123 rfl ?_
            refine r_getR e_X10_league_124 fl_X10_41 k0 k1 ?_
            refine r_iload e_X10_league_127 rfl ?_
            refine r_iload e_X10_league_129 rfl ?_
            refine r_aload_n e_X10_league_131 rfl ?_
            refine r_getR e_X10_league_132 fl_X10_67 k0 k3 ?_
            refine r_getR e_X10_league_135 fl_X10_143 k4 k5 ?_
            refine r_getI e_X10_league_138 fl_X10_176 i0 k6 ?_
            refine r_aload_n e_X10_league_141 rfl ?_
            refine r_getR e_X10_league_142 fl_X10_67 k0 k3 ?_
            refine r_getR e_X10_league_145 fl_X10_143 k4 k5 ?_
            refine r_getI e_X10_league_148 fl_X10_179 i0 k6 ?_
            refine cV4u e_X10_league_151 cl_X10_182 ⟨Nat.le_of_ble_eq_true rfl, Nat.le_of_ble_eq_true rfl⟩ ⟨rfl, rfl⟩ k2 (Nat.le_of_ble_eq_true rfl) (S_X1_enter hb1.2.2.2.2.2.2.2.2.2.2.2.2.2.2.2.1) ?_
            obtain ⟨M17, e17, h⟩ := bd1_elK h
            rw [e17]
            refine p_iinc_7_4 e_X10_league_154 rfl ic_1 rfl ?_
            exact j13 _ _ h
      intro v13_0 M13 h
      rw [hK13] at h
      refine p_iinc_7_6 e_X10_league_157 rfl ic_1 rfl ?_
      refine r_goto e_X10_league_160 ?_
      exact ih _ _ _ _ _ h hE
def L_X10_league_61 (x1 : Int32) (x2 : Int32) : Nat → Nat → Int32 → Mem → Option (Int32 × Mem)
  | 0, i61, u4, M => some (u4, M)
  | n + 1, i61, u4, M => bd1 ((nI i61) + (1 : Int32)) (fun v8 => bnd2 (L_X10_league_73 x1 x2 (nI i61) FUEL u4 v8 M) (fun v18_0 M18 => L_X10_league_61 x1 x2 n (i61 + 1) v18_0 M18))
theorem LW_X10_league_61 {sh : List SC} {Q : Po} {x1 : Int32} {x2 : Int32}   (hb1 : PitchAt sh)  : ∀ (n i61 : Nat) (u4 : Int32) (M : Mem) (z4 : Int32) (Mz : Mem), i61 + n = 4 → L_X10_league_61 x1 x2 n i61 u4 M = some (z4, Mz) → WP m_X10_league Q 169 [none, none, none, none, some (.int z4), none, none] [] sh Mz 0 0 → WP m_X10_league Q 61 [some (.ref 0), none, some (.int x2), none, some (.int u4), some (.int (nI i61)), none] [] sh M 0 0 := by
  intro n
  induction n with
  | zero =>
    intro i61 u4 M z4 Mz hi h hE
    rw [L_X10_league_61] at h
    have hz : (4 : Int32) ≤ nI i61 := by
      have q : i61 = 4 := by omega
      rw [q]; exact nI_le (Nat.le_refl _) (by decide)
    refine r_iload e_X10_league_61 rfl ?_
    refine r_iconst e_X10_league_63 ic_4 ?_
    refine r_icmp_ge e_X10_league_64 (fun _ => ?_) (fun hh => absurd hz hh)
    refine d_7_0 ?_
    refine d_7_2 ?_
    refine d_7_5 ?_
    obtain ⟨rfl, rfl⟩ := ps2 h; exact hE
  | succ n ih =>
    intro i61 u4 M z4 Mz hi h hE
    rw [L_X10_league_61] at h
    have hlt_i61 : i61 < 4 := by omega
    have hcl_i61 : (nI i61).toNatClampNeg = i61 := nI_clamp (by omega)
    have hs : ¬ (4 : Int32) ≤ nI i61 := nI_ge (b := 4) hlt_i61 (by decide)
    refine r_iload e_X10_league_61 rfl ?_
    refine r_iconst e_X10_league_63 ic_4 ?_
    refine r_icmp_ge e_X10_league_64 (fun hh => absurd hh hs) (fun _ => ?_)
    refine r_iload e_X10_league_67 rfl ?_
    refine r_iconst e_X10_league_69 ic_1 ?_
    refine r_iadd e_X10_league_70 ?_
    obtain ⟨v8, e8, h⟩ := bd1_el h
    rw [e8]
    refine p_istore_7_6 e_X10_league_71 rfl rfl ?_
    obtain ⟨v18_0, M18, w18, h⟩ := bnd2_el h
    refine LW_X10_league_73 hb1 _ _ _ _ _ _ w18 ?_
    refine p_iinc_7_5 e_X10_league_163 rfl ic_1 rfl ?_
    rw [nI_1 i61]
    refine r_goto e_X10_league_166 ?_
    exact ih _ _ _ _ _ (by omega) h hE
def R_X10_league (x1 : Int32) (x2 : Int32) (M : Mem) : Option (Int32 × Mem) := bd1 (if x1 < 0 then (0 : Int32) else (if (16 : Int32) ≤ x1 then (0 : Int32) else (if (V_bits x1 M) < (2 : Int32) then (0 : Int32) else (1 : Int32)))) (fun v2_0 => if v2_0 = 0 then (some ((V_X10_finding (-1001 : Int32) M), U_X10_finding (-1001 : Int32) M)) else (if x2 < (1 : Int32) then (some ((V_X10_finding (-1001 : Int32) M), U_X10_finding (-1001 : Int32) M)) else (if x2 ≤ (60 : Int32) then (bnd2 (L_X10_league_61 x1 x2 4 0 (0 : Int32) (U_X1_clear 11 x1 M)) (fun v19_0 M19 => some (v19_0, M19))) else (some ((V_X10_finding (-1001 : Int32) M), U_X10_finding (-1001 : Int32) M)))))
theorem S_X10_league {sh : List SC} {M : Mem} {x1 : Int32} {x2 : Int32}  {v' : Int32} {M' : Mem} (hb1 : PitchAt sh)  (h : R_X10_league x1 x2 M = some (v', M')) : Gv m_X10_league [.ref 0, .int x1, .int x2] sh M (.int v') M' := by
  refine Sp.of (ls := [some (.ref 0), some (.int x1), some (.int x2), none, none, none, none]) (by decide +kernel) (Nat.le_of_ble_eq_true rfl) rfl ?_
  have k0 : kd sh 0 = some (9 + 7, 0) := hb1.1
  have k1 : rf sh 0 7 = some 11 := hb1.2.2.2.2.2.2.2.2.1
  have k2 : kd sh 11 = some (1 + 7, 0) := hb1.2.2.2.2.2.2.2.2.2.2.2.2.2.2.2.1.1
  unfold R_X10_league at h
  refine r_iload_n e_X10_league_0 rfl ?_
  obtain ⟨v2_0, q2, h⟩ := bd1_el h
  suffices j2 : WP m_X10_league _ 23 [some (.ref 0), some (.int x1), some (.int x2), none, none, none, none] [.int v2_0] sh M 0 0 by
    refine r_if_lt e_X10_league_1 (fun c1 => ?_) (fun c1 => ?_)
    · rw [if_pos c1] at q2
      refine r_iconst e_X10_league_22 ic_0 ?_
      subst q2; exact j2
    · rw [if_neg c1] at q2
      refine r_iload_n e_X10_league_4 rfl ?_
      refine r_bipush e_X10_league_5 bp_16 ?_
      refine r_icmp_ge e_X10_league_7 (fun c3 => ?_) (fun c3 => ?_)
      · rw [if_pos c3] at q2
        refine r_iconst e_X10_league_22 ic_0 ?_
        subst q2; exact j2
      · rw [if_neg c3] at q2
        refine r_iload_n e_X10_league_10 rfl ?_
        refine cS1v e_X10_league_11 cl_X10_165 ⟨Nat.le_of_ble_eq_true rfl, Nat.le_of_ble_eq_true rfl⟩ ⟨rfl, rfl⟩  (Nat.le_of_ble_eq_true rfl) (S_bits ) ?_
        refine r_iconst e_X10_league_14 ic_2 ?_
        refine r_icmp_lt e_X10_league_15 (fun c4 => ?_) (fun c4 => ?_)
        · rw [if_pos c4] at q2
          refine r_iconst e_X10_league_22 ic_0 ?_
          subst q2; exact j2
        · rw [if_neg c4] at q2
          refine r_iconst e_X10_league_18 ic_1 ?_
          refine r_goto e_X10_league_19 ?_
          subst q2; exact j2
  refine p_istore_n_7_3 e_X10_league_23 rfl rfl ?_
  refine r_iload_n e_X10_league_24 rfl ?_
  refine r_if_eq e_X10_league_25 (fun c5 => ?_) (fun c5 => ?_)
  · rw [if_pos c5] at h
    refine r_aload_n e_X10_league_39 rfl ?_
    refine r_sipush e_X10_league_40 sp_m1001 ?_
    refine cV1v e_X10_league_43 cl_X10_70 ⟨Nat.le_of_ble_eq_true rfl, Nat.le_of_ble_eq_true rfl⟩ ⟨rfl, rfl⟩ k0 (Nat.le_of_ble_eq_true rfl) (S_X10_finding hb1) ?_
    refine r_ireturn e_X10_league_46 rfl ⟨rfl, rfl⟩ ?_
    obtain ⟨rfl, rfl⟩ := ps2 h; exact ⟨rfl, rfl, rfl⟩
  · rw [if_neg c5] at h
    refine r_iload_n e_X10_league_28 rfl ?_
    refine r_iconst e_X10_league_29 ic_1 ?_
    refine r_icmp_lt e_X10_league_30 (fun c6 => ?_) (fun c6 => ?_)
    · rw [if_pos c6] at h
      refine r_aload_n e_X10_league_39 rfl ?_
      refine r_sipush e_X10_league_40 sp_m1001 ?_
      refine cV1v e_X10_league_43 cl_X10_70 ⟨Nat.le_of_ble_eq_true rfl, Nat.le_of_ble_eq_true rfl⟩ ⟨rfl, rfl⟩ k0 (Nat.le_of_ble_eq_true rfl) (S_X10_finding hb1) ?_
      refine r_ireturn e_X10_league_46 rfl ⟨rfl, rfl⟩ ?_
      obtain ⟨rfl, rfl⟩ := ps2 h; exact ⟨rfl, rfl, rfl⟩
    · rw [if_neg c6] at h
      refine r_iload_n e_X10_league_33 rfl ?_
      refine r_bipush e_X10_league_34 bp_60 ?_
      refine r_icmp_le e_X10_league_36 (fun c7 => ?_) (fun c7 => ?_)
      · rw [if_pos c7] at h
        refine r_aload_n e_X10_league_47 rfl ?_
        refine r_getR e_X10_league_48 fl_X10_41 k0 k1 ?_
        refine r_iload_n e_X10_league_51 rfl ?_
        refine cV1u e_X10_league_52 cl_X10_170 ⟨Nat.le_of_ble_eq_true rfl, Nat.le_of_ble_eq_true rfl⟩ ⟨rfl, rfl⟩ k2 (Nat.le_of_ble_eq_true rfl) (S_X1_clear hb1.2.2.2.2.2.2.2.2.2.2.2.2.2.2.2.1) ?_
        refine r_iconst e_X10_league_55 ic_0 ?_
        refine p_istore_7_4 e_X10_league_56 rfl rfl ?_
        refine r_iconst e_X10_league_58 ic_0 ?_
        refine p_istore_7_5 e_X10_league_59 rfl rfl ?_
        refine d_7_1 ?_
        refine d_7_3 ?_
        show WP m_X10_league _ 61 [some (.ref 0), none, some (.int x2), none, some (.int (0 : Int32)), some (.int (nI 0)), none] [] sh (U_X1_clear 11 x1 M) 0 0
        obtain ⟨v19_0, M19, w19, h⟩ := bnd2_el h
        refine LW_X10_league_61 hb1 4 0 _ _ _ _ (by omega) w19 ?_
        refine r_iload e_X10_league_169 rfl ?_
        refine r_ireturn e_X10_league_171 rfl ⟨rfl, rfl⟩ ?_
        obtain ⟨rfl, rfl⟩ := ps2 h; exact ⟨rfl, rfl, rfl⟩
      · rw [if_neg c7] at h
        refine r_aload_n e_X10_league_39 rfl ?_
        refine r_sipush e_X10_league_40 sp_m1001 ?_
        refine cV1v e_X10_league_43 cl_X10_70 ⟨Nat.le_of_ble_eq_true rfl, Nat.le_of_ble_eq_true rfl⟩ ⟨rfl, rfl⟩ k0 (Nat.le_of_ble_eq_true rfl) (S_X10_finding hb1) ?_
        refine r_ireturn e_X10_league_46 rfl ⟨rfl, rfl⟩ ?_
        obtain ⟨rfl, rfl⟩ := ps2 h; exact ⟨rfl, rfl, rfl⟩