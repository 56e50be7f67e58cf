def R_X11_lay (mA : Nat) (M : Mem) : Option (Mem) := bnd1 (R_X11_findPut (7 : Int32) (4 : Int32) (-1 : Int32) mA M) (fun M1 => bd1 (U_X11_stopBall  mA (setI (setI (setI M1 mA 14 (M1.1 242 31)) mA 15 (M1.1 242 32)) mA 16 (-1 : Int32))) (fun M2 => some (setI M2 mA 21 (0 : Int32))))
theorem S_X11_lay {sh : List SC} {M : Mem}  {mA : Nat} {oA : Nat} {M' : Mem} (hb1 : ModelAt sh mA oA)  (h : R_X11_lay mA M = some M') : Gu m_X11_lay [.ref 242] sh M M' := by
  refine Sp.of (ls := [some (.ref 242)]) (by decide +kernel) (Nat.le_of_ble_eq_true rfl) rfl ?_
  have k0 : kd sh 242 = some (10 + 7, 0) := hb1.1
  have k1 : rf sh 242 27 = some mA := hb1.2.2.2.2.2.2.2.2.2.2.2.2.2.2.2.2.2.1
  have k2 : kd sh mA = some (0, 212) := hb1.2.2.2.2.2.2.2.2.2.2.2.2.2.2.2.2.2.2.2.2.2.2.2.2.2.2.2.2.2.2.2.2.2.2.2.2.2.2.2.2.2.2.2.2.2.2.2.2.2.2.2.1
  unfold R_X11_lay at h
  refine r_aload_n e_X11_lay_0 rfl ?_
  refine r_bipush e_X11_lay_1 bp_7 ?_
  refine r_iconst e_X11_lay_3 ic_4 ?_
  refine r_iconst e_X11_lay_4 ic_m1 ?_
  obtain ⟨M1, w1, h⟩ := bnd1_el h
  refine cV3u e_X11_lay_5 cl_X11_278 ⟨Nat.le_of_ble_eq_true rfl, Nat.le_of_ble_eq_true rfl⟩ ⟨rfl, rfl⟩ k0 (Nat.le_of_ble_eq_true rfl) (S_X11_findPut hb1 w1) ?_
  refine r_aload_n e_X11_lay_8 rfl ?_
  refine r_getR e_X11_lay_9 fl_X11_212 k0 k1 ?_
  refine r_bipush e_X11_lay_12 bp_14 ?_
  refine r_aload_n e_X11_lay_14 rfl ?_
  refine r_getI e_X11_lay_15 fl_X11_264 i0 k0 ?_
  refine r_iastore e_X11_lay_18 k2 (by unfold vp_in; decide) ?_
  rw [show (14 : Int32).toNatClampNeg = 14 from rfl]
  refine r_aload_n e_X11_lay_19 rfl ?_
  refine r_getR e_X11_lay_20 fl_X11_212 k0 k1 ?_
  refine r_bipush e_X11_lay_23 bp_15 ?_
  refine r_aload_n e_X11_lay_25 rfl ?_
  refine r_getIe e_X11_lay_26 fl_X11_267 i0 k0 (gs_nI (by decide)) ?_
  refine r_iastore e_X11_lay_29 k2 (by unfold vp_in; decide) ?_
  rw [show (15 : Int32).toNatClampNeg = 15 from rfl]
  refine r_aload_n e_X11_lay_30 rfl ?_
  refine r_getR e_X11_lay_31 fl_X11_212 k0 k1 ?_
  refine r_bipush e_X11_lay_34 bp_16 ?_
  refine r_iconst e_X11_lay_36 ic_m1 ?_
  refine r_iastore e_X11_lay_37 k2 (by unfold vp_in; decide) ?_
  rw [show (16 : Int32).toNatClampNeg = 16 from rfl]
  refine r_aload_n e_X11_lay_38 rfl ?_
  refine cV0u e_X11_lay_39 cl_X11_285 ⟨Nat.le_of_ble_eq_true rfl, Nat.le_of_ble_eq_true rfl⟩ ⟨rfl, rfl⟩ k0 (Nat.le_of_ble_eq_true rfl) (S_X11_stopBall hb1) ?_
  obtain ⟨M2, e2, h⟩ := bd1_el h
  rw [e2]
  refine r_aload_n e_X11_lay_42 rfl ?_
  refine r_getR e_X11_lay_43 fl_X11_212 k0 k1 ?_
  refine r_bipush e_X11_lay_46 bp_21 ?_
  refine r_iconst e_X11_lay_48 ic_0 ?_
  refine r_iastore e_X11_lay_49 k2 (by unfold vp_in; decide) ?_
  rw [show (21 : Int32).toNatClampNeg = 21 from rfl]
  refine r_return e_X11_lay_50 rfl ⟨rfl, rfl⟩ ?_
  obtain rfl := Option.some.inj h; exact ⟨rfl, rfl, rfl⟩
def L_X11_termOf_6 (mA : Nat) : Nat → Int32 → Mem → Option (Int32 × Mem)
  | 0, _, _ => none
  | n + 1, u1, M => bnd1 (R_X11_here  mA M) (fun v1 => if v1 = (45 : Int32) then (bd1 (if u1 = 0 then (1 : Int32) else (0 : Int32)) (fun v4_0 => L_X11_termOf_6 mA n v4_0 (setI M 242 35 ((M.1 242 35) + (1 : Int32))))) else (some (u1, M)))
theorem LW_X11_termOf_6 {sh : List SC} {Q : Po}  {mA : Nat} {oA : Nat}  (hb1 : ModelAt sh mA oA)  : ∀ (n : Nat) (u1 : Int32) (M : Mem) (z1 : Int32) (Mz : Mem), L_X11_termOf_6 mA n u1 M = some (z1, Mz) → WP m_X11_termOf Q 38 [some (.ref 242), some (.int z1), none, none] [] sh Mz 0 0 → WP m_X11_termOf Q 6 [some (.ref 242), some (.int u1), none, none] [] sh M 0 0 := by
  intro n
  induction n with
  | zero =>
    intro u1 M z1 Mz h hE
    rw [L_X11_termOf_6] at h
    cases h
  | succ n ih =>
    intro u1 M z1 Mz h hE
    rw [L_X11_termOf_6] at h
    have k0 : kd sh 242 = some (10 + 7, 0) := hb1.1
    refine r_aload_n e_X11_termOf_6 rfl ?_
    obtain ⟨v1, w1, h⟩ := bnd1_el h
    refine cV0v e_X11_termOf_7 cl_X11_327 ⟨Nat.le_of_ble_eq_true rfl, Nat.le_of_ble_eq_true rfl⟩ ⟨rfl, rfl⟩ k0 (Nat.le_of_ble_eq_true rfl) (S_X11_here hb1 w1) ?_
    refine r_bipush e_X11_termOf_10 bp_45 ?_
    refine r_icmp_ne e_X11_termOf_12 (fun c2 => ?_) (fun c2 => ?_)
    · rw [if_neg c2] at h
      obtain ⟨rfl, rfl⟩ := ps2 h; exact hE
    · rw [if_pos c2] at h
      refine r_iload_n e_X11_termOf_15 rfl ?_
      obtain ⟨v4_0, q4, h⟩ := bd1_el h
      suffices j4 : WP m_X11_termOf _ 24 [some (.ref 242), none, none, none] [.int v4_0] sh M 0 0 by
        refine r_if_ne e_X11_termOf_16 (fun c3 => ?_) (fun c3 => ?_)
        · rw [if_neg c3] at q4
          refine r_iconst e_X11_termOf_23 ic_0 ?_
          refine d_4_1 ?_
          subst q4; exact j4
        · rw [if_pos c3] at q4
          refine r_iconst e_X11_termOf_19 ic_1 ?_
          refine r_goto e_X11_termOf_20 ?_
          refine d_4_1 ?_
          subst q4; exact j4
      refine p_istore_n_4_1 e_X11_termOf_24 rfl rfl ?_
      refine r_aload_n e_X11_termOf_25 rfl ?_
      refine r_dup e_X11_termOf_26 rfl ?_
      refine r_getI e_X11_termOf_27 fl_X11_312 i0 k0 ?_
      refine r_iconst e_X11_termOf_30 ic_1 ?_
      refine r_iadd e_X11_termOf_31 ?_
      refine r_putI e_X11_termOf_32 fl_X11_312 k0 ?_
      refine r_goto e_X11_termOf_35 ?_
      exact ih _ _ _ _ h hE
def R_X11_termOf (mA : Nat) (M : Mem) : Option (Int32 × Mem) := bnd2 (L_X11_termOf_6 mA FUEL (0 : Int32) (U_X11_step  M)) (fun v5_0 M5 => bnd1 (R_X11_here  mA M5) (fun v6 => ck ((M5.1 242 34) + (M5.1 242 35)) 4800 (bd1 (M5.1 245 ((M5.1 242 34) + (M5.1 242 35)).toNatClampNeg) (fun v8 => bnd2 (if v6 = (3 : Int32) then (bnd1 (R_X11_of (M5.1 242 33) ((4 : Int32) + v8) mA (setI M5 242 35 ((M5.1 242 35) + (1 : Int32)))) (fun v19 => (some (v19, setI M5 242 35 ((M5.1 242 35) + (1 : Int32)))))) else (if v6 = (4 : Int32) then (bnd1 (R_X11_sensor v8 mA (setI M5 242 35 ((M5.1 242 35) + (1 : Int32)))) (fun v18 => (some (v18, setI M5 242 35 ((M5.1 242 35) + (1 : Int32)))))) else (if v6 = (5 : Int32) then (ck ((M5.1 242 34) + ((M5.1 242 35) + (1 : Int32))) 4800 (bnd1 (R_X11_otherRobot v8 (M5.1 245 ((M5.1 242 34) + ((M5.1 242 35) + (1 : Int32))).toNatClampNeg) mA (setI M5 242 35 ((M5.1 242 35) + (1 : Int32)))) (fun v17 => (some (v17, setI (setI M5 242 35 ((M5.1 242 35) + (1 : Int32))) 242 35 (((M5.1 242 35) + (1 : Int32)) + (1 : Int32))))))) else (some (v8, setI M5 242 35 ((M5.1 242 35) + (1 : Int32))))))) (fun v13_0 M13 => bd1 (if v5_0 = 0 then v13_0 else (-v13_0)) (fun v21_0 => some (v21_0, M13)))))))
theorem S_X11_termOf {sh : List SC} {M : Mem}  {mA : Nat} {oA : Nat} {v' : Int32} {M' : Mem} (hb1 : ModelAt sh mA oA)  (h : R_X11_termOf mA M = some (v', M')) : Gv m_X11_termOf [.ref 242] sh M (.int v') M' := by
  refine Sp.of (ls := [some (.ref 242), none, none, none]) (by decide +kernel) (Nat.le_of_ble_eq_true rfl) rfl ?_
  have k0 : kd sh 242 = some (10 + 7, 0) := hb1.1
  have k1 : rf sh 242 10 = some 245 := hb1.2.2.2.1
  have k2 : kd sh 245 = some (0, 4800) := hb1.2.2.2.2.2.2.2.2.2.2.2.2.2.2.2.2.2.2.2.2.2.2.2.2.2.2.2.2.2.1
  unfold R_X11_termOf at h
  refine r_aload_n e_X11_termOf_0 rfl ?_
  refine cV0u e_X11_termOf_1 cl_X11_324 ⟨Nat.le_of_ble_eq_true rfl, Nat.le_of_ble_eq_true rfl⟩ ⟨rfl, rfl⟩ k0 (Nat.le_of_ble_eq_true rfl) (S_X11_step hb1) ?_
  refine r_iconst e_X11_termOf_4 ic_0 ?_
  refine p_istore_n_4_1 e_X11_termOf_5 rfl rfl ?_
  obtain ⟨v5_0, M5, w5, h⟩ := bnd2_el h
  refine LW_X11_termOf_6 hb1 _ _ _ _ _ w5 ?_
  refine r_aload_n e_X11_termOf_38 rfl ?_
  obtain ⟨v6, w6, h⟩ := bnd1_el h
  refine cV0v e_X11_termOf_39 cl_X11_327 ⟨Nat.le_of_ble_eq_true rfl, Nat.le_of_ble_eq_true rfl⟩ ⟨rfl, rfl⟩ k0 (Nat.le_of_ble_eq_true rfl) (S_X11_here hb1 w6) ?_
  refine p_istore_n_4_2 e_X11_termOf_42 rfl rfl ?_
  refine r_aload_n e_X11_termOf_43 rfl ?_
  refine r_getR e_X11_termOf_44 fl_X11_111 k0 k1 ?_
  refine r_aload_n e_X11_termOf_47 rfl ?_
  refine r_getI e_X11_termOf_48 fl_X11_309 i0 k0 ?_
  refine r_aload_n e_X11_termOf_51 rfl ?_
  refine r_getI e_X11_termOf_52 fl_X11_312 i0 k0 ?_
  refine r_iadd e_X11_termOf_55 ?_
  obtain ⟨b7, h⟩ := ck_el h
  refine r_iaload e_X11_termOf_56 k2 b7 ?_
  obtain ⟨v8, e8, h⟩ := bd1_el h
  rw [e8]
  refine p_istore_n_4_3 e_X11_termOf_57 rfl rfl ?_
  refine r_aload_n e_X11_termOf_58 rfl ?_
  refine r_dup e_X11_termOf_59 rfl ?_
  refine r_getI e_X11_termOf_60 fl_X11_312 i0 k0 ?_
  refine r_iconst e_X11_termOf_63 ic_1 ?_
  refine r_iadd e_X11_termOf_64 ?_
  refine r_putI e_X11_termOf_65 fl_X11_312 k0 ?_
  refine r_iload_n e_X11_termOf_68 rfl ?_
  refine r_iconst e_X11_termOf_69 ic_3 ?_
  obtain ⟨K13, hK13, h⟩ := bnd2_in h
  suffices j13 : ∀ v13_0 M13, K13 (v13_0, M13) = some (v', M') → WP m_X11_termOf _ 137 [none, some (.int v5_0), none, some (.int v13_0)] [] sh M13 0 0 by
    refine r_icmp_ne e_X11_termOf_70 (fun c9 => ?_) (fun c9 => ?_)
    · rw [if_neg c9] at h
      refine r_iload_n e_X11_termOf_88 rfl ?_
      refine r_iconst e_X11_termOf_89 ic_4 ?_
      refine r_icmp_ne e_X11_termOf_90 (fun c14 => ?_) (fun c14 => ?_)
      · rw [if_neg c14] at h
        refine r_iload_n e_X11_termOf_102 rfl ?_
        refine r_iconst e_X11_termOf_103 ic_5 ?_
        refine r_icmp_ne e_X11_termOf_104 (fun c15 => ?_) (fun c15 => ?_)
        · rw [if_neg c15] at h
          refine d_4_0 ?_
          refine d_4_2 ?_
          exact j13 _ _ h
        · rw [if_pos c15] at h
          refine r_aload_n e_X11_termOf_107 rfl ?_
          refine r_iload_n e_X11_termOf_108 rfl ?_
          refine r_aload_n e_X11_termOf_109 rfl ?_
          refine r_getR e_X11_termOf_110 fl_X11_111 k0 k1 ?_
          refine r_aload_n e_X11_termOf_113 rfl ?_
          refine r_getIe e_X11_termOf_114 fl_X11_309 i0 k0 (gs_nI (by decide)) ?_
          refine r_aload_n e_X11_termOf_117 rfl ?_
          refine r_getIe e_X11_termOf_118 fl_X11_312 i0 k0 gs_eI ?_
          refine r_iadd e_X11_termOf_121 ?_
          obtain ⟨b16, h⟩ := ck_elK h
          refine r_ialoade (v := (M5.1 245 ((M5.1 242 34) + ((M5.1 242 35) + (1 : Int32))).toNatClampNeg)) e_X11_termOf_122 k2 b16 (gs_aI (by omega)) ?_
          obtain ⟨v17, w17, h⟩ := bnd1_elK h
          refine cV2v e_X11_termOf_123 cl_X11_333 ⟨Nat.le_of_ble_eq_true rfl, Nat.le_of_ble_eq_true rfl⟩ ⟨rfl, rfl⟩ k0 (Nat.le_of_ble_eq_true rfl) (S_X11_otherRobot hb1 w17) ?_
          refine p_istore_n_4_3 e_X11_termOf_126 rfl rfl ?_
          refine r_aload_n e_X11_termOf_127 rfl ?_
          refine r_dup e_X11_termOf_128 rfl ?_
          refine r_getIe e_X11_termOf_129 fl_X11_312 i0 k0 gs_eI ?_
          refine r_iconst e_X11_termOf_132 ic_1 ?_
          refine r_iadd e_X11_termOf_133 ?_
          refine r_putI e_X11_termOf_134 fl_X11_312 k0 ?_
          refine d_4_0 ?_
          refine d_4_2 ?_
          exact j13 _ _ h
      · rw [if_pos c14] at h
        refine r_aload_n e_X11_termOf_93 rfl ?_
        refine r_iload_n e_X11_termOf_94 rfl ?_
        obtain ⟨v18, w18, h⟩ := bnd1_elK h
        refine cV1v e_X11_termOf_95 cl_X11_330 ⟨Nat.le_of_ble_eq_true rfl, Nat.le_of_ble_eq_true rfl⟩ ⟨rfl, rfl⟩ k0 (Nat.le_of_ble_eq_true rfl) (S_X11_sensor hb1 w18) ?_
        refine p_istore_n_4_3 e_X11_termOf_98 rfl rfl ?_
        refine r_goto e_X11_termOf_99 ?_
        refine d_4_0 ?_
        refine d_4_2 ?_
        exact j13 _ _ h
    · rw [if_pos c9] at h
      refine r_aload_n e_X11_termOf_73 rfl ?_
      refine r_aload_n e_X11_termOf_74 rfl ?_
      refine r_getIe e_X11_termOf_75 fl_X11_315 i0 k0 (gs_nI (by decide)) ?_
      refine r_iconst e_X11_termOf_78 ic_4 ?_
      refine r_iload_n e_X11_termOf_79 rfl ?_
      refine r_iadd e_X11_termOf_80 ?_
      obtain ⟨v19, w19, h⟩ := bnd1_elK h
      refine cV2v e_X11_termOf_81 cl_X11_252 ⟨Nat.le_of_ble_eq_true rfl, Nat.le_of_ble_eq_true rfl⟩ ⟨rfl, rfl⟩ k0 (Nat.le_of_ble_eq_true rfl) (S_X11_of hb1 w19) ?_
      refine p_istore_n_4_3 e_X11_termOf_84 rfl rfl ?_
      refine r_goto e_X11_termOf_85 ?_
      refine d_4_0 ?_
      refine d_4_2 ?_
      exact j13 _ _ h
  intro v13_0 M13 h
  rw [hK13] at h
  refine r_iload_n e_X11_termOf_137 rfl ?_
  obtain ⟨v21_0, q21, h⟩ := bd1_el h
  suffices j21 : WP m_X11_termOf _ 147 [none, none, none, none] [.int v21_0] sh M13 0 0 by
    refine r_if_eq e_X11_termOf_138 (fun c20 => ?_) (fun c20 => ?_)
    · rw [if_pos c20] at q21
      refine r_iload_n e_X11_termOf_146 rfl ?_
      refine d_4_1 ?_
      refine d_4_3 ?_
      subst q21; exact j21
    · rw [if_neg c20] at q21
      refine r_iload_n e_X11_termOf_141 rfl ?_
      refine r_ineg e_X11_termOf_142 ?_
      refine r_goto e_X11_termOf_143 ?_
      refine d_4_1 ?_
      refine d_4_3 ?_
      subst q21; exact j21
  refine r_ireturn e_X11_termOf_147 rfl ⟨rfl, rfl⟩ ?_
  obtain ⟨rfl, rfl⟩ := ps2 h; exact ⟨rfl, rfl, rfl⟩
def R_X11_doCommand (x1 : Int32) (mA : Nat) (M : Mem) : Option (Mem) := ck x1 10 (bd1 (M.1 262 x1.toNatClampNeg) (fun v2 => ck x1 10 (bd1 (M.1 263 x1.toNatClampNeg) (fun v4 => bnd1 (R_X11_of x1 (10 : Int32) mA M) (fun v5 => if v5 = 0 then (some M) else (br1 (if v2 = 0 then (if v4 = 0 then (some (.inl M)) else (some (.inr ()))) else (some (.inr ()))) (fun u12 => if v5 = (2 : Int32) then (bnd1 (if (M.1 mA 16) = x1 then (ck x1 10 (some (setI (setI (setI (setI M mA 16 (-1 : Int32)) mA 17 (M.1 264 x1.toNatClampNeg)) mA 18 v2) mA 19 v4))) else (some M)) (fun M43 => some M43)) else (bnd1 (R_X11_of x1 (0 : Int32) mA M) (fun v15 => bnd1 (R_X11_of x1 (1 : Int32) mA M) (fun v16 => if (V_X11_in (v15 + v2) (0 : Int32) (14 : Int32) M) = 0 then (some M) else (if (V_X11_in (v16 + v4) (0 : Int32) (8 : Int32) M) = 0 then (some M) else (bnd1 (R_X11_robotAt (v15 + v2) (v16 + v4) (-1 : Int32) mA M) (fun v19 => if v19 < 0 then (bnd1 (R_X11_set x1 (0 : Int32) (v15 + v2) mA M) (fun M21 => bnd1 (R_X11_set x1 (1 : Int32) (v16 + v4) mA M21) (fun M22 => bnd1 (if (M22.1 mA 16) = x1 then (some (setI (setI M22 mA 14 (v15 + v2)) mA 15 (v16 + v4))) else (if 0 ≤ (M22.1 mA 16) then (some M22) else (if (M22.1 mA 14) = (v15 + v2) then (if (M22.1 mA 15) = (v16 + v4) then (bnd1 (R_X11_hold x1 mA M22) (fun M32 => (some M32))) else (some M22)) else (some M22)))) (fun M28 => some M28)))) else (bnd1 (if (M.1 mA 16) = v19 then (if (v19 / (5 : Int32)) = (x1 / (5 : Int32)) then (some M) else (if ((M.1 mA 3) - (M.1 mA 20)) < (2 : Int32) then (some M) else (bnd1 (R_X11_hold x1 mA M) (fun M40 => (some (setI M40 mA 10 ((M40.1 mA 10) + (1 : Int32)))))))) else (some M)) (fun M37 => some M37)))))))))))))))
theorem S_X11_doCommand {sh : List SC} {M : Mem} {x1 : Int32} {mA : Nat} {oA : Nat} {M' : Mem} (hb1 : ModelAt sh mA oA)  (h : R_X11_doCommand x1 mA M = some M') : Gu m_X11_doCommand [.ref 242, .int x1] sh M M' := by
  refine Sp.of (ls := [some (.ref 242), some (.int x1), none, none, none, none, none, none]) (by decide +kernel) (Nat.le_of_ble_eq_true rfl) rfl ?_
  have k0 : kd sh 242 = some (10 + 7, 0) := hb1.1
  have k1 : rf sh 242 38 = some 262 := hb1.2.2.2.2.2.2.2.2.2.2.2.2.2.2.2.2.2.2.2.2.1
  have k2 : kd sh 262 = some (0, 10) := hb1.2.2.2.2.2.2.2.2.2.2.2.2.2.2.2.2.2.2.2.2.2.2.2.2.2.2.2.2.2.2.2.2.2.2.2.2.2.2.2.2.2.2.2.2.1
  have k3 : rf sh 242 39 = some 263 := hb1.2.2.2.2.2.2.2.2.2.2.2.2.2.2.2.2.2.2.2.2.2.1
  have k4 : kd sh 263 = some (0, 10) := hb1.2.2.2.2.2.2.2.2.2.2.2.2.2.2.2.2.2.2.2.2.2.2.2.2.2.2.2.2.2.2.2.2.2.2.2.2.2.2.2.2.2.2.2.2.2.1
  have k5 : rf sh 242 27 = some mA := hb1.2.2.2.2.2.2.2.2.2.2.2.2.2.2.2.2.2.1
  have k6 : kd sh mA = some (0, 212) := hb1.2.2.2.2.2.2.2.2.2.2.2.2.2.2.2.2.2.2.2.2.2.2.2.2.2.2.2.2.2.2.2.2.2.2.2.2.2.2.2.2.2.2.2.2.2.2.2.2.2.2.2.1
  have k7 : rf sh 242 40 = some 264 := hb1.2.2.2.2.2.2.2.2.2.2.2.2.2.2.2.2.2.2.2.2.2.2.1
  have k8 : kd sh 264 = some (0, 10) := hb1.2.2.2.2.2.2.2.2.2.2.2.2.2.2.2.2.2.2.2.2.2.2.2.2.2.2.2.2.2.2.2.2.2.2.2.2.2.2.2.2.2.2.2.2.2.2.1
  unfold R_X11_doCommand at h
  refine r_aload_n e_X11_doCommand_0 rfl ?_
  refine r_getR e_X11_doCommand_1 fl_X11_224 k0 k1 ?_
  refine r_iload_n e_X11_doCommand_4 rfl ?_
  obtain ⟨b1, h⟩ := ck_el h
  refine r_iaload e_X11_doCommand_5 k2 b1 ?_
  obtain ⟨v2, e2, h⟩ := bd1_el h
  rw [e2]
  refine p_istore_n_8_2 e_X11_doCommand_6 rfl rfl ?_
  refine r_aload_n e_X11_doCommand_7 rfl ?_
  refine r_getR e_X11_doCommand_8 fl_X11_227 k0 k3 ?_
  refine r_iload_n e_X11_doCommand_11 rfl ?_
  obtain ⟨b3, h⟩ := ck_el h
  refine r_iaload e_X11_doCommand_12 k4 b3 ?_
  obtain ⟨v4, e4, h⟩ := bd1_el h
  rw [e4]
  refine p_istore_n_8_3 e_X11_doCommand_13 rfl rfl ?_
  refine r_aload_n e_X11_doCommand_14 rfl ?_
  refine r_iload_n e_X11_doCommand_15 rfl ?_
  refine r_bipush e_X11_doCommand_16 bp_10 ?_
  obtain ⟨v5, w5, h⟩ := bnd1_el h
  refine cV2v e_X11_doCommand_18 cl_X11_252 ⟨Nat.le_of_ble_eq_true rfl, Nat.le_of_ble_eq_true rfl⟩ ⟨rfl, rfl⟩ k0 (Nat.le_of_ble_eq_true rfl) (S_X11_of hb1 w5) ?_
  refine p_istore_8_4 e_X11_doCommand_21 rfl rfl ?_
  refine r_iload e_X11_doCommand_23 rfl ?_
  refine r_if_eq e_X11_doCommand_25 (fun c6 => ?_) (fun c6 => ?_)
  · rw [if_pos c6] at h
    refine r_return e_X11_doCommand_36 rfl ⟨rfl, rfl⟩ ?_
    obtain rfl := Option.some.inj h; exact ⟨rfl, rfl, rfl⟩
  · rw [if_neg c6] at h
    refine r_iload_n e_X11_doCommand_28 rfl ?_
    obtain ⟨K12, hK12, hL12, h⟩ := br1_in h
    suffices j12 : ∀ u12, K12 (.inr u12) = some M' → WP m_X11_doCommand _ 37 [some (.ref 242), some (.int x1), some (.int v2), some (.int v4), some (.int v5), none, none, none] [] sh M 0 0 by
      refine r_if_ne e_X11_doCommand_29 (fun c7 => ?_) (fun c7 => ?_)
      · rw [if_neg c7] at h
        exact j12 _ h
      · rw [if_pos c7] at h
        refine r_iload_n e_X11_doCommand_32 rfl ?_
        refine r_if_ne e_X11_doCommand_33 (fun c13 => ?_) (fun c13 => ?_)
        · rw [if_neg c13] at h
          exact j12 _ h
        · rw [if_pos c13] at h
          refine r_return e_X11_doCommand_36 rfl ⟨rfl, rfl⟩ ?_
          have h := (hL12 _).symm.trans h
          obtain rfl := Option.some.inj h; exact ⟨rfl, rfl, rfl⟩
    intro u12 h
    rw [hK12] at h
    refine r_iload e_X11_doCommand_37 rfl ?_
    refine r_iconst e_X11_doCommand_39 ic_2 ?_
    refine r_icmp_ne e_X11_doCommand_40 (fun c14 => ?_) (fun c14 => ?_)
    · rw [if_neg c14] at h
      refine r_aload_n e_X11_doCommand_92 rfl ?_
      refine r_iload_n e_X11_doCommand_93 rfl ?_
      refine r_iconst e_X11_doCommand_94 ic_0 ?_
      obtain ⟨v15, w15, h⟩ := bnd1_el h
      refine cV2v e_X11_doCommand_95 cl_X11_252 ⟨Nat.le_of_ble_eq_true rfl, Nat.le_of_ble_eq_true rfl⟩ ⟨rfl, rfl⟩ k0 (Nat.le_of_ble_eq_true rfl) (S_X11_of hb1 w15) ?_
      refine r_iload_n e_X11_doCommand_98 rfl ?_
      refine r_iadd e_X11_doCommand_99 ?_
      refine p_istore_8_5 e_X11_doCommand_100 rfl rfl ?_
      refine r_aload_n e_X11_doCommand_102 rfl ?_
      refine r_iload_n e_X11_doCommand_103 rfl ?_
      refine r_iconst e_X11_doCommand_104 ic_1 ?_
      obtain ⟨v16, w16, h⟩ := bnd1_el h
      refine cV2v e_X11_doCommand_105 cl_X11_252 ⟨Nat.le_of_ble_eq_true rfl, Nat.le_of_ble_eq_true rfl⟩ ⟨rfl, rfl⟩ k0 (Nat.le_of_ble_eq_true rfl) (S_X11_of hb1 w16) ?_
      refine r_iload_n e_X11_doCommand_108 rfl ?_
      refine r_iadd e_X11_doCommand_109 ?_
      refine p_istore_8_6 e_X11_doCommand_110 rfl rfl ?_
      refine r_iload e_X11_doCommand_112 rfl ?_
      refine r_iconst e_X11_doCommand_114 ic_0 ?_
      refine r_bipush e_X11_doCommand_115 bp_14 ?_
      refine cS3v e_X11_doCommand_117 cl_X11_245 ⟨Nat.le_of_ble_eq_true rfl, Nat.le_of_ble_eq_true rfl⟩ ⟨rfl, rfl⟩  (Nat.le_of_ble_eq_true rfl) (S_X11_in ) ?_
      refine r_if_eq e_X11_doCommand_120 (fun c17 => ?_) (fun c17 => ?_)
      · rw [if_pos c17] at h
        refine r_return e_X11_doCommand_134 rfl ⟨rfl, rfl⟩ ?_
        obtain rfl := Option.some.inj h; exact ⟨rfl, rfl, rfl⟩
      · rw [if_neg c17] at h
        refine r_iload e_X11_doCommand_123 rfl ?_
        refine r_iconst e_X11_doCommand_125 ic_0 ?_
        refine r_bipush e_X11_doCommand_126 bp_8 ?_
        refine cS3v e_X11_doCommand_128 cl_X11_245 ⟨Nat.le_of_ble_eq_true rfl, Nat.le_of_ble_eq_true rfl⟩ ⟨rfl, rfl⟩  (Nat.le_of_ble_eq_true rfl) (S_X11_in ) ?_
        refine r_if_ne e_X11_doCommand_131 (fun c18 => ?_) (fun c18 => ?_)
        · rw [if_neg c18] at h
          refine r_aload_n e_X11_doCommand_135 rfl ?_
          refine r_iload e_X11_doCommand_136 rfl ?_
          refine r_iload e_X11_doCommand_138 rfl ?_
          refine r_iconst e_X11_doCommand_140 ic_m1 ?_
          obtain ⟨v19, w19, h⟩ := bnd1_el h
          refine cV3v e_X11_doCommand_141 cl_X11_270 ⟨Nat.le_of_ble_eq_true rfl, Nat.le_of_ble_eq_true rfl⟩ ⟨rfl, rfl⟩ k0 (Nat.le_of_ble_eq_true rfl) (S_X11_robotAt hb1 w19) ?_
          refine p_istore_8_7 e_X11_doCommand_144 rfl rfl ?_
          refine r_iload e_X11_doCommand_146 rfl ?_
          refine r_if_lt e_X11_doCommand_148 (fun c20 => ?_) (fun c20 => ?_)
          · rw [if_pos c20] at h
            refine r_aload_n e_X11_doCommand_208 rfl ?_
            refine r_iload_n e_X11_doCommand_209 rfl ?_
            refine r_iconst e_X11_doCommand_210 ic_0 ?_
            refine r_iload e_X11_doCommand_211 rfl ?_
            obtain ⟨M21, w21, h⟩ := bnd1_el h
            refine cV3u e_X11_doCommand_213 cl_X11_282 ⟨Nat.le_of_ble_eq_true rfl, Nat.le_of_ble_eq_true rfl⟩ ⟨rfl, rfl⟩ k0 (Nat.le_of_ble_eq_true rfl) (S_X11_set hb1 w21) ?_
            refine r_aload_n e_X11_doCommand_216 rfl ?_
            refine r_iload_n e_X11_doCommand_217 rfl ?_
            refine r_iconst e_X11_doCommand_218 ic_1 ?_
            refine r_iload e_X11_doCommand_219 rfl ?_
            obtain ⟨M22, w22, h⟩ := bnd1_el h
            refine cV3u e_X11_doCommand_221 cl_X11_282 ⟨Nat.le_of_ble_eq_true rfl, Nat.le_of_ble_eq_true rfl⟩ ⟨rfl, rfl⟩ k0 (Nat.le_of_ble_eq_true rfl) (S_X11_set hb1 w22) ?_
            refine r_aload_n e_X11_doCommand_224 rfl ?_
            refine r_getR e_X11_doCommand_225 fl_X11_212 k0 k5 ?_
            refine r_bipush e_X11_doCommand_228 bp_16 ?_
            refine r_ialoade (v := (M22.1 mA 16)) e_X11_doCommand_230 k6 (by unfold vp_in; decide) (show M22.1 mA (16 : Int32).toNatClampNeg = M22.1 mA 16 by rw [show (16 : Int32).toNatClampNeg = 16 from rfl]) ?_
            refine r_iload_n e_X11_doCommand_231 rfl ?_
            obtain ⟨K28, hK28, h⟩ := bnd1_in h
            suffices j28 : ∀ M28, K28 M28 = some M' → WP m_X11_doCommand _ 295 [none, none, none, none, none, none, none, none] [] sh M28 0 0 by
              refine r_icmp_ne e_X11_doCommand_232 (fun c23 => ?_) (fun c23 => ?_)
              · rw [if_neg c23] at h
                refine r_aload_n e_X11_doCommand_256 rfl ?_
                refine r_getR e_X11_doCommand_257 fl_X11_212 k0 k5 ?_
                refine r_bipush e_X11_doCommand_260 bp_16 ?_
                refine r_ialoade (v := (M22.1 mA 16)) e_X11_doCommand_262 k6 (by unfold vp_in; decide) (show M22.1 mA (16 : Int32).toNatClampNeg = M22.1 mA 16 by rw [show (16 : Int32).toNatClampNeg = 16 from rfl]) ?_
                refine r_if_ge e_X11_doCommand_263 (fun c29 => ?_) (fun c29 => ?_)
                · rw [if_pos c29] at h
                  refine d_8_0 ?_
                  refine d_8_1 ?_
                  refine d_8_2 ?_
                  refine d_8_3 ?_
                  refine d_8_4 ?_
                  refine d_8_5 ?_
                  refine d_8_6 ?_
                  refine d_8_7 ?_
                  exact j28 _ h
                · rw [if_neg c29] at h
                  refine r_aload_n e_X11_doCommand_266 rfl ?_
                  refine r_getR e_X11_doCommand_267 fl_X11_212 k0 k5 ?_
                  refine r_bipush e_X11_doCommand_270 bp_14 ?_
                  refine r_ialoade (v := (M22.1 mA 14)) e_X11_doCommand_272 k6 (by unfold vp_in; decide) (show M22.1 mA (14 : Int32).toNatClampNeg = M22.1 mA 14 by rw [show (14 : Int32).toNatClampNeg = 14 from rfl]) ?_
                  refine r_iload e_X11_doCommand_273 rfl ?_
                  refine r_icmp_ne e_X11_doCommand_275 (fun c30 => ?_) (fun c30 => ?_)
                  · rw [if_neg c30] at h
                    refine d_8_0 ?_
                    refine d_8_1 ?_
                    refine d_8_2 ?_
                    refine d_8_3 ?_
                    refine d_8_4 ?_
                    refine d_8_5 ?_
                    refine d_8_6 ?_
                    refine d_8_7 ?_
                    exact j28 _ h
                  · rw [if_pos c30] at h
                    refine r_aload_n e_X11_doCommand_278 rfl ?_
                    refine r_getR e_X11_doCommand_279 fl_X11_212 k0 k5 ?_
                    refine r_bipush e_X11_doCommand_282 bp_15 ?_
                    refine r_ialoade (v := (M22.1 mA 15)) e_X11_doCommand_284 k6 (by unfold vp_in; decide) (show M22.1 mA (15 : Int32).toNatClampNeg = M22.1 mA 15 by rw [show (15 : Int32).toNatClampNeg = 15 from rfl]) ?_
                    refine r_iload e_X11_doCommand_285 rfl ?_
                    refine r_icmp_ne e_X11_doCommand_287 (fun c31 => ?_) (fun c31 => ?_)
                    · rw [if_neg c31] at h
                      refine d_8_0 ?_
                      refine d_8_1 ?_
                      refine d_8_2 ?_
                      refine d_8_3 ?_
                      refine d_8_4 ?_
                      refine d_8_5 ?_
                      refine d_8_6 ?_
                      refine d_8_7 ?_
                      exact j28 _ h
                    · rw [if_pos c31] at h
                      refine r_aload_n e_X11_doCommand_290 rfl ?_
                      refine r_iload_n e_X11_doCommand_291 rfl ?_
                      obtain ⟨M32, w32, h⟩ := bnd1_elK h
                      refine cV1u e_X11_doCommand_292 cl_X11_367 ⟨Nat.le_of_ble_eq_true rfl, Nat.le_of_ble_eq_true rfl⟩ ⟨rfl, rfl⟩ k0 (Nat.le_of_ble_eq_true rfl) (S_X11_hold hb1 w32) ?_
                      refine d_8_0 ?_
                      refine d_8_1 ?_
                      refine d_8_2 ?_
                      refine d_8_3 ?_
                      refine d_8_4 ?_
                      refine d_8_5 ?_
                      refine d_8_6 ?_
                      refine d_8_7 ?_
                      exact j28 _ h
              · rw [if_pos c23] at h
                refine r_aload_n e_X11_doCommand_235 rfl ?_
                refine r_getR e_X11_doCommand_236 fl_X11_212 k0 k5 ?_
                refine r_bipush e_X11_doCommand_239 bp_14 ?_
                refine r_iload e_X11_doCommand_241 rfl ?_
                refine r_iastore e_X11_doCommand_243 k6 (by unfold vp_in; decide) ?_
                rw [show (14 : Int32).toNatClampNeg = 14 from rfl]
                refine r_aload_n e_X11_doCommand_244 rfl ?_
                refine r_getR e_X11_doCommand_245 fl_X11_212 k0 k5 ?_
                refine r_bipush e_X11_doCommand_248 bp_15 ?_
                refine r_iload e_X11_doCommand_250 rfl ?_
                refine r_iastore e_X11_doCommand_252 k6 (by unfold vp_in; decide) ?_
                rw [show (15 : Int32).toNatClampNeg = 15 from rfl]
                refine r_goto e_X11_doCommand_253 ?_
                refine d_8_0 ?_
                refine d_8_1 ?_
                refine d_8_2 ?_
                refine d_8_3 ?_
                refine d_8_4 ?_
                refine d_8_5 ?_
                refine d_8_6 ?_
                refine d_8_7 ?_
                exact j28 _ h
            intro M28 h
            rw [hK28] at h
            refine r_return e_X11_doCommand_295 rfl ⟨rfl, rfl⟩ ?_
            obtain rfl := Option.some.inj h; exact ⟨rfl, rfl, rfl⟩
          · rw [if_neg c20] at h
            refine r_aload_n e_X11_doCommand_151 rfl ?_
            refine r_getR e_X11_doCommand_152 fl_X11_212 k0 k5 ?_
            refine r_bipush e_X11_doCommand_155 bp_16 ?_
            refine r_ialoade (v := (M.1 mA 16)) e_X11_doCommand_157 k6 (by unfold vp_in; decide) (show M.1 mA (16 : Int32).toNatClampNeg = M.1 mA 16 by rw [show (16 : Int32).toNatClampNeg = 16 from rfl]) ?_
            refine r_iload e_X11_doCommand_158 rfl ?_
            obtain ⟨K37, hK37, h⟩ := bnd1_in h
            suffices j37 : ∀ M37, K37 M37 = some M' → WP m_X11_doCommand _ 207 [none, none, none, none, none, none, none, none] [] sh M37 0 0 by
              refine r_icmp_ne e_X11_doCommand_160 (fun c33 => ?_) (fun c33 => ?_)
              · rw [if_neg c33] at h
                refine d_8_0 ?_
                refine d_8_1 ?_
                refine d_8_2 ?_
                refine d_8_3 ?_
                refine d_8_4 ?_
                refine d_8_5 ?_
                refine d_8_6 ?_
                refine d_8_7 ?_
                exact j37 _ h
              · rw [if_pos c33] at h
                refine r_iload e_X11_doCommand_163 rfl ?_
                refine r_iconst e_X11_doCommand_165 ic_5 ?_
                refine r_idiv e_X11_doCommand_166 (by decide) ?_
                refine r_iload_n e_X11_doCommand_167 rfl ?_
                refine r_iconst e_X11_doCommand_168 ic_5 ?_
                refine r_idiv e_X11_doCommand_169 (by decide) ?_
                refine r_icmp_eq e_X11_doCommand_170 (fun c38 => ?_) (fun c38 => ?_)
                · rw [if_pos c38] at h
                  refine d_8_0 ?_
                  refine d_8_1 ?_
                  refine d_8_2 ?_
                  refine d_8_3 ?_
                  refine d_8_4 ?_
                  refine d_8_5 ?_
                  refine d_8_6 ?_
                  refine d_8_7 ?_
                  exact j37 _ h
                · rw [if_neg c38] at h
                  refine r_aload_n e_X11_doCommand_173 rfl ?_
                  refine r_getR e_X11_doCommand_174 fl_X11_212 k0 k5 ?_
                  refine r_iconst e_X11_doCommand_177 ic_3 ?_
                  refine r_ialoade (v := (M.1 mA 3)) e_X11_doCommand_178 k6 (by unfold vp_in; decide) (show M.1 mA (3 : Int32).toNatClampNeg = M.1 mA 3 by rw [show (3 : Int32).toNatClampNeg = 3 from rfl]) ?_
                  refine r_aload_n e_X11_doCommand_179 rfl ?_
                  refine r_getR e_X11_doCommand_180 fl_X11_212 k0 k5 ?_
                  refine r_bipush e_X11_doCommand_183 bp_20 ?_
                  refine r_ialoade (v := (M.1 mA 20)) e_X11_doCommand_185 k6 (by unfold vp_in; decide) (show M.1 mA (20 : Int32).toNatClampNeg = M.1 mA 20 by rw [show (20 : Int32).toNatClampNeg = 20 from rfl]) ?_
                  refine r_isub e_X11_doCommand_186 ?_
                  refine r_iconst e_X11_doCommand_187 ic_2 ?_
                  refine r_icmp_lt e_X11_doCommand_188 (fun c39 => ?_) (fun c39 => ?_)
                  · rw [if_pos c39] at h
                    refine d_8_0 ?_
                    refine d_8_1 ?_
                    refine d_8_2 ?_
                    refine d_8_3 ?_
                    refine d_8_4 ?_
                    refine d_8_5 ?_
                    refine d_8_6 ?_
                    refine d_8_7 ?_
                    exact j37 _ h
                  · rw [if_neg c39] at h
                    refine r_aload_n e_X11_doCommand_191 rfl ?_
                    refine r_iload_n e_X11_doCommand_192 rfl ?_
                    obtain ⟨M40, w40, h⟩ := bnd1_elK h
                    refine cV1u e_X11_doCommand_193 cl_X11_367 ⟨Nat.le_of_ble_eq_true rfl, Nat.le_of_ble_eq_true rfl⟩ ⟨rfl, rfl⟩ k0 (Nat.le_of_ble_eq_true rfl) (S_X11_hold hb1 w40) ?_
                    refine r_aload_n e_X11_doCommand_196 rfl ?_
                    refine r_getR e_X11_doCommand_197 fl_X11_212 k0 k5 ?_
                    refine r_bipush e_X11_doCommand_200 bp_10 ?_
                    refine r_dup2 e_X11_doCommand_202 rfl rfl ?_
                    refine r_ialoade (v := (M40.1 mA 10)) e_X11_doCommand_203 k6 (by unfold vp_in; decide) (show M40.1 mA (10 : Int32).toNatClampNeg = M40.1 mA 10 by rw [show (10 : Int32).toNatClampNeg = 10 from rfl]) ?_
                    refine r_iconst e_X11_doCommand_204 ic_1 ?_
                    refine r_iadd e_X11_doCommand_205 ?_
                    refine r_iastore e_X11_doCommand_206 k6 (by unfold vp_in; decide) ?_
                    rw [show (10 : Int32).toNatClampNeg = 10 from rfl]
                    refine d_8_0 ?_
                    refine d_8_1 ?_
                    refine d_8_2 ?_
                    refine d_8_3 ?_
                    refine d_8_4 ?_
                    refine d_8_5 ?_
                    refine d_8_6 ?_
                    refine d_8_7 ?_
                    exact j37 _ h
            intro M37 h
            rw [hK37] at h
            refine r_return e_X11_doCommand_207 rfl ⟨rfl, rfl⟩ ?_
            obtain rfl := Option.some.inj h; exact ⟨rfl, rfl, rfl⟩
        · rw [if_pos c18] at h
          refine r_return e_X11_doCommand_134 rfl ⟨rfl, rfl⟩ ?_
          obtain rfl := Option.some.inj h; exact ⟨rfl, rfl, rfl⟩
    · rw [if_pos c14] at h
      refine r_aload_n e_X11_doCommand_43 rfl ?_
      refine r_getR e_X11_doCommand_44 fl_X11_212 k0 k5 ?_
      refine r_bipush e_X11_doCommand_47 bp_16 ?_
      refine r_ialoade (v := (M.1 mA 16)) e_X11_doCommand_49 k6 (by unfold vp_in; decide) (show M.1 mA (16 : Int32).toNatClampNeg = M.1 mA 16 by rw [show (16 : Int32).toNatClampNeg = 16 from rfl]) ?_
      refine r_iload_n e_X11_doCommand_50 rfl ?_
      obtain ⟨K43, hK43, h⟩ := bnd1_in h
      suffices j43 : ∀ M43, K43 M43 = some M' → WP m_X11_doCommand _ 91 [none, none, none, none, none, none, none, none] [] sh M43 0 0 by
        refine r_icmp_ne e_X11_doCommand_51 (fun c41 => ?_) (fun c41 => ?_)
        · rw [if_neg c41] at h
          refine d_8_0 ?_
          refine d_8_1 ?_
          refine d_8_2 ?_
          refine d_8_3 ?_
          refine d_8_4 ?_
          exact j43 _ h
        · rw [if_pos c41] at h
          refine r_aload_n e_X11_doCommand_54 rfl ?_
          refine r_getR e_X11_doCommand_55 fl_X11_212 k0 k5 ?_
          refine r_bipush e_X11_doCommand_58 bp_16 ?_
          refine r_iconst e_X11_doCommand_60 ic_m1 ?_
          refine r_iastore e_X11_doCommand_61 k6 (by unfold vp_in; decide) ?_
          rw [show (16 : Int32).toNatClampNeg = 16 from rfl]
          refine r_aload_n e_X11_doCommand_62 rfl ?_
          refine r_getR e_X11_doCommand_63 fl_X11_212 k0 k5 ?_
          refine r_bipush e_X11_doCommand_66 bp_17 ?_
          refine r_aload_n e_X11_doCommand_68 rfl ?_
          refine r_getR e_X11_doCommand_69 fl_X11_230 k0 k7 ?_
          refine r_iload_n e_X11_doCommand_72 rfl ?_
          obtain ⟨b44, h⟩ := ck_elK h
          refine r_ialoade (v := (M.1 264 x1.toNatClampNeg)) e_X11_doCommand_73 k8 b44 (gs_aI (ne_kd k8 k6 (by decide))) ?_
          refine r_iastore e_X11_doCommand_74 k6 (by unfold vp_in; decide) ?_
          rw [show (17 : Int32).toNatClampNeg = 17 from rfl]
          refine r_aload_n e_X11_doCommand_75 rfl ?_
          refine r_getR e_X11_doCommand_76 fl_X11_212 k0 k5 ?_
          refine r_bipush e_X11_doCommand_79 bp_18 ?_
          refine r_iload_n e_X11_doCommand_81 rfl ?_
          refine r_iastore e_X11_doCommand_82 k6 (by unfold vp_in; decide) ?_
          rw [show (18 : Int32).toNatClampNeg = 18 from rfl]
          refine r_aload_n e_X11_doCommand_83 rfl ?_
          refine r_getR e_X11_doCommand_84 fl_X11_212 k0 k5 ?_
          refine r_bipush e_X11_doCommand_87 bp_19 ?_
          refine r_iload_n e_X11_doCommand_89 rfl ?_
          refine r_iastore e_X11_doCommand_90 k6 (by unfold vp_in; decide) ?_
          rw [show (19 : Int32).toNatClampNeg = 19 from rfl]
          refine d_8_0 ?_
          refine d_8_1 ?_
          refine d_8_2 ?_
          refine d_8_3 ?_
          refine d_8_4 ?_
          exact j43 _ h
      intro M43 h
      rw [hK43] at h
      refine r_return e_X11_doCommand_91 rfl ⟨rfl, rfl⟩ ?_
      obtain rfl := Option.some.inj h; exact ⟨rfl, rfl, rfl⟩
def R_X11_ball (x1 : Int32) (mA : Nat) (M : Mem) : Option (Int32 × Mem) := if (V_X11_isMatch  mA M) = 0 then (bnd2 (R_X11_finding (-1003 : Int32) mA M) (fun v5 M5 => some (v5, M5))) else (if (V_X11_in x1 (0 : Int32) (5 : Int32) M) = 0 then (bnd2 (R_X11_finding (-1001 : Int32) mA M) (fun v4 M4 => some (v4, M4))) else (bnd1 (R_X11_ballOf mA (0 : Int32) x1 212 M) (fun v3 => some (v3, M))))
theorem S_X11_ball {sh : List SC} {M : Mem} {x1 : Int32} {mA : Nat} {oA : Nat} {v' : Int32} {M' : Mem} (hb1 : ModelAt sh mA oA)  (h : R_X11_ball x1 mA M = some (v', M')) : Gv m_X11_ball [.ref 242, .int x1] sh M (.int v') M' := by
  refine Sp.of (ls := [some (.ref 242), some (.int x1)]) (by decide +kernel) (Nat.le_of_ble_eq_true rfl) rfl ?_
  have k0 : kd sh 242 = some (10 + 7, 0) := hb1.1
  have k1 : rf sh 242 27 = some mA := hb1.2.2.2.2.2.2.2.2.2.2.2.2.2.2.2.2.2.1
  have k2 : kd sh mA = some (0, 212) := hb1.2.2.2.2.2.2.2.2.2.2.2.2.2.2.2.2.2.2.2.2.2.2.2.2.2.2.2.2.2.2.2.2.2.2.2.2.2.2.2.2.2.2.2.2.2.2.2.2.2.2.2.1
  unfold R_X11_ball at h
  refine r_aload_n e_X11_ball_0 rfl ?_
  refine cV0v e_X11_ball_1 cl_X11_394 ⟨Nat.le_of_ble_eq_true rfl, Nat.le_of_ble_eq_true rfl⟩ ⟨rfl, rfl⟩ k0 (Nat.le_of_ble_eq_true rfl) (S_X11_isMatch hb1) ?_
  refine r_if_ne e_X11_ball_4 (fun c1 => ?_) (fun c1 => ?_)
  · rw [if_neg c1] at h
    refine r_iload_n e_X11_ball_15 rfl ?_
    refine r_iconst e_X11_ball_16 ic_0 ?_
    refine r_iconst e_X11_ball_17 ic_5 ?_
    refine cS3v e_X11_ball_18 cl_X11_245 ⟨Nat.le_of_ble_eq_true rfl, Nat.le_of_ble_eq_true rfl⟩ ⟨rfl, rfl⟩  (Nat.le_of_ble_eq_true rfl) (S_X11_in ) ?_
    refine r_if_ne e_X11_ball_21 (fun c2 => ?_) (fun c2 => ?_)
    · rw [if_neg c2] at h
      refine r_aload_n e_X11_ball_32 rfl ?_
      refine r_getR e_X11_ball_33 fl_X11_212 k0 k1 ?_
      refine r_iconst e_X11_ball_36 ic_0 ?_
      refine r_iload_n e_X11_ball_37 rfl ?_
      obtain ⟨v3, w3, h⟩ := bnd1_el h
      refine cS3v e_X11_ball_38 cl_X11_400 ⟨Nat.le_of_ble_eq_true rfl, Nat.le_of_ble_eq_true rfl⟩ ⟨rfl, rfl⟩  (Nat.le_of_ble_eq_true rfl) (S_X11_ballOf k2 (by decide) w3) ?_
      refine r_ireturn e_X11_ball_41 rfl ⟨rfl, rfl⟩ ?_
      obtain ⟨rfl, rfl⟩ := ps2 h; exact ⟨rfl, rfl, rfl⟩
    · rw [if_pos c2] at h
      refine r_aload_n e_X11_ball_24 rfl ?_
      refine r_sipush e_X11_ball_25 sp_m1001 ?_
      obtain ⟨v4, M4, w4, h⟩ := bnd2_el h
      refine cV1v e_X11_ball_28 cl_X11_178 ⟨Nat.le_of_ble_eq_true rfl, Nat.le_of_ble_eq_true rfl⟩ ⟨rfl, rfl⟩ k0 (Nat.le_of_ble_eq_true rfl) (S_X11_finding hb1 w4) ?_
      refine r_ireturn e_X11_ball_31 rfl ⟨rfl, rfl⟩ ?_
      obtain ⟨rfl, rfl⟩ := ps2 h; exact ⟨rfl, rfl, rfl⟩
  · rw [if_pos c1] at h
    refine r_aload_n e_X11_ball_7 rfl ?_
    refine r_sipush e_X11_ball_8 sp_m1003 ?_
    obtain ⟨v5, M5, w5, h⟩ := bnd2_el h
    refine cV1v e_X11_ball_11 cl_X11_178 ⟨Nat.le_of_ble_eq_true rfl, Nat.le_of_ble_eq_true rfl⟩ ⟨rfl, rfl⟩ k0 (Nat.le_of_ble_eq_true rfl) (S_X11_finding hb1 w5) ?_
    refine r_ireturn e_X11_ball_14 rfl ⟨rfl, rfl⟩ ?_
    obtain ⟨rfl, rfl⟩ := ps2 h; exact ⟨rfl, rfl, rfl⟩
def L_X11_differ_63 (x1 : Int32) (mA : Nat) (w2 : Int32) : Nat → Nat → Mem → Option ((Int32 × Mem) ⊕ (Unit))
  | 0, i63, M => some (.inr ())
  | n + 1, i63, M => bnd1 (R_X11_robotIn mA (0 : Int32) w2 (nI i63) 212 M) (fun v11 => bnd1 (R_X11_robotIn 261 ((212 : Int32) * x1) w2 (nI i63) 424 M) (fun v12 => if v11 = v12 then (L_X11_differ_63 x1 mA w2 n (i63 + 1) M) else (some (.inl ((w2 + ((15 : Int32) * (nI i63))), M)))))
theorem LW_X11_differ_63 {sh : List SC} {Q : Po} {x1 : Int32} {mA : Nat} {oA : Nat} {w2 : Int32} (hb1 : ModelAt sh mA oA)  : ∀ (n i63 : Nat) (M : Mem) (q : (Int32 × Mem) ⊕ (Unit)), i63 + n = 9 → L_X11_differ_63 x1 mA w2 n i63 M = some q → (∀ x, q = .inl x → Q (some (.int x.1)) sh x.2) → (∀ zu, q = .inr zu → WP m_X11_differ Q 109 [some (.ref 242), some (.int x1), some (.int w2), none, none] [] sh M 0 0) → WP m_X11_differ Q 63 [some (.ref 242), some (.int x1), some (.int w2), some (.int (nI i63)), none] [] sh M 0 0 := by
  intro n
  induction n with
  | zero =>
    intro i63 M q hi h hR hE
    rw [L_X11_differ_63] at h
    have hz : (9 : Int32) ≤ nI i63 := by
      have q : i63 = 9 := by omega
      rw [q]; exact nI_le (Nat.le_refl _) (by decide)
    refine r_iload_n e_X11_differ_63 rfl ?_
    refine r_bipush e_X11_differ_64 bp_9 ?_
    refine r_icmp_ge e_X11_differ_66 (fun _ => ?_) (fun hh => absurd hz hh)
    refine d_5_3 ?_
    exact hE _ (Option.some.inj h).symm
  | succ n ih =>
    intro i63 M q hi h hR hE
    rw [L_X11_differ_63] at h
    have hlt_i63 : i63 < 9 := by omega
    have hcl_i63 : (nI i63).toNatClampNeg = i63 := nI_clamp (by omega)
    have hs : ¬ (9 : Int32) ≤ nI i63 := nI_ge (b := 9) hlt_i63 (by decide)
    have k0 : kd sh 242 = some (10 + 7, 0) := hb1.1
    have k1 : rf sh 242 27 = some mA := hb1.2.2.2.2.2.2.2.2.2.2.2.2.2.2.2.2.2.1
    have k2 : kd sh mA = some (0, 212) := hb1.2.2.2.2.2.2.2.2.2.2.2.2.2.2.2.2.2.2.2.2.2.2.2.2.2.2.2.2.2.2.2.2.2.2.2.2.2.2.2.2.2.2.2.2.2.2.2.2.2.2.2.1
    have k3 : rf sh 242 29 = some 261 := hb1.2.2.2.2.2.2.2.2.2.2.2.2.2.2.2.2.2.2.2.1
    have k4 : kd sh 261 = some (0, 424) := hb1.2.2.2.2.2.2.2.2.2.2.2.2.2.2.2.2.2.2.2.2.2.2.2.2.2.2.2.2.2.2.2.2.2.2.2.2.2.2.2.2.2.2.2.1
    refine r_iload_n e_X11_differ_63 rfl ?_
    refine r_bipush e_X11_differ_64 bp_9 ?_
    refine r_icmp_ge e_X11_differ_66 (fun hh => absurd hh hs) (fun _ => ?_)
    refine r_aload_n e_X11_differ_69 rfl ?_
    refine r_getR e_X11_differ_70 fl_X11_212 k0 k1 ?_
    refine r_iconst e_X11_differ_73 ic_0 ?_
    refine r_iload_n e_X11_differ_74 rfl ?_
    refine r_iload_n e_X11_differ_75 rfl ?_
    obtain ⟨v11, w11, h⟩ := bnd1_el h
    refine cS4v e_X11_differ_76 cl_X11_404 ⟨Nat.le_of_ble_eq_true rfl, Nat.le_of_ble_eq_true rfl⟩ ⟨rfl, rfl⟩  (Nat.le_of_ble_eq_true rfl) (S_X11_robotIn k2 (by decide) w11) ?_
    refine r_aload_n e_X11_differ_79 rfl ?_
    refine r_getR e_X11_differ_80 fl_X11_218 k0 k3 ?_
    refine r_sipush e_X11_differ_83 sp_212 ?_
    refine r_iload_n e_X11_differ_86 rfl ?_
    refine r_imul e_X11_differ_87 ?_
    refine r_iload_n e_X11_differ_88 rfl ?_
    refine r_iload_n e_X11_differ_89 rfl ?_
    obtain ⟨v12, w12, h⟩ := bnd1_el h
    refine cS4v e_X11_differ_90 cl_X11_404 ⟨Nat.le_of_ble_eq_true rfl, Nat.le_of_ble_eq_true rfl⟩ ⟨rfl, rfl⟩  (Nat.le_of_ble_eq_true rfl) (S_X11_robotIn k4 (by decide) w12) ?_
    refine r_icmp_eq e_X11_differ_93 (fun c13 => ?_) (fun c13 => ?_)
    · rw [if_pos c13] at h
      refine p_iinc_5_3 e_X11_differ_103 rfl ic_1 rfl ?_
      rw [nI_1 i63]
      refine r_goto e_X11_differ_106 ?_
      exact ih _  _ _ (by omega) h hR hE
    · rw [if_neg c13] at h
      refine r_iload_n e_X11_differ_96 rfl ?_
      refine r_bipush e_X11_differ_97 bp_15 ?_
      refine r_iload_n e_X11_differ_99 rfl ?_
      refine r_imul e_X11_differ_100 ?_
      refine r_iadd e_X11_differ_101 ?_
      refine r_ireturn e_X11_differ_102 rfl ⟨rfl, rfl⟩ ?_
      exact hR _ (Option.some.inj h).symm
def L_X11_differ_55 (x1 : Int32) (mA : Nat) : Nat → Nat → Mem → Option ((Int32 × Mem) ⊕ (Unit))
  | 0, i55, M => some (.inr ())
  | n + 1, i55, M => bs1 (L_X11_differ_63 x1 mA (nI i55) 9 0 M) (fun u14 => L_X11_differ_55 x1 mA n (i55 + 1) M)
theorem LW_X11_differ_55 {sh : List SC} {Q : Po} {x1 : Int32} {mA : Nat} {oA : Nat}  (hb1 : ModelAt sh mA oA)  : ∀ (n i55 : Nat) (M : Mem) (q : (Int32 × Mem) ⊕ (Unit)), i55 + n = 15 → L_X11_differ_55 x1 mA n i55 M = some q → (∀ x, q = .inl x → Q (some (.int x.1)) sh x.2) → (∀ zu, q = .inr zu → WP m_X11_differ Q 115 [some (.ref 242), some (.int x1), none, none, none] [] sh M 0 0) → WP m_X11_differ Q 55 [some (.ref 242), some (.int x1), some (.int (nI i55)), none, none] [] sh M 0 0 := by
  intro n
  induction n with
  | zero =>
    intro i55 M q hi h hR hE
    rw [L_X11_differ_55] at h
    have hz : (15 : Int32) ≤ nI i55 := by
      have q : i55 = 15 := by omega
      rw [q]; exact nI_le (Nat.le_refl _) (by decide)
    refine r_iload_n e_X11_differ_55 rfl ?_
    refine r_bipush e_X11_differ_56 bp_15 ?_
    refine r_icmp_ge e_X11_differ_58 (fun _ => ?_) (fun hh => absurd hz hh)
    refine d_5_2 ?_
    exact hE _ (Option.some.inj h).symm
  | succ n ih =>
    intro i55 M q hi h hR hE
    rw [L_X11_differ_55] at h
    have hlt_i55 : i55 < 15 := by omega
    have hcl_i55 : (nI i55).toNatClampNeg = i55 := nI_clamp (by omega)
    have hs : ¬ (15 : Int32) ≤ nI i55 := nI_ge (b := 15) hlt_i55 (by decide)
    refine r_iload_n e_X11_differ_55 rfl ?_
    refine r_bipush e_X11_differ_56 bp_15 ?_
    refine r_icmp_ge e_X11_differ_58 (fun hh => absurd hh hs) (fun _ => ?_)
    refine r_iconst e_X11_differ_61 ic_0 ?_
    refine p_istore_n_5_3 e_X11_differ_62 rfl rfl ?_
    show WP m_X11_differ _ 63 [some (.ref 242), some (.int x1), some (.int (nI i55)), some (.int (nI 0)), none] [] sh M 0 0
    obtain ⟨q14, w14, l14, r14⟩ := bs1_el h
    refine LW_X11_differ_63 hb1 9 0 _ _ (by omega) w14 (fun x14 y14 => ?_) (fun u14 y14 => ?_)
    · have h := l14 _ y14
      exact hR _ (Option.some.inj h).symm
    have h := r14 _ y14
    refine p_iinc_5_2 e_X11_differ_109 rfl ic_1 rfl ?_
    rw [nI_1 i55]
    refine r_goto e_X11_differ_112 ?_
    exact ih _  _ _ (by omega) h hR hE
def L_X11_differ_119 (x1 : Int32) (mA : Nat) : Nat → Nat → Int32 → Mem → Option (Int32)
  | 0, i119, u2, M => some u2
  | n + 1, i119, u2, M => bnd1 (if u2 = 0 then (some (0 : Int32)) else (bnd1 (R_X11_ballOf mA (0 : Int32) (nI i119) 212 M) (fun v19 => bnd1 (R_X11_ballOf 261 ((212 : Int32) * x1) (nI i119) 424 M) (fun v20 => if v19 = v20 then (some (1 : Int32)) else (some (0 : Int32)))))) (fun v18_0 => L_X11_differ_119 x1 mA n (i119 + 1) v18_0 M)
theorem LW_X11_differ_119 {sh : List SC} {Q : Po} {x1 : Int32} {mA : Nat} {oA : Nat}  (hb1 : ModelAt sh mA oA)  : ∀ (n i119 : Nat) (u2 : Int32) (M : Mem) (z2 : Int32), i119 + n = 6 → L_X11_differ_119 x1 mA n i119 u2 M = some z2 → WP m_X11_differ Q 166 [some (.ref 242), some (.int x1), some (.int z2), none, none] [] sh M 0 0 → WP m_X11_differ Q 119 [some (.ref 242), some (.int x1), some (.int u2), some (.int (nI i119)), none] [] sh M 0 0 := by
  intro n
  induction n with
  | zero =>
    intro i119 u2 M z2 hi h hE
    rw [L_X11_differ_119] at h
    have hz : (6 : Int32) ≤ nI i119 := by
      have q : i119 = 6 := by omega
      rw [q]; exact nI_le (Nat.le_refl _) (by decide)
    refine r_iload_n e_X11_differ_119 rfl ?_
    refine r_bipush e_X11_differ_120 bp_6 ?_
    refine r_icmp_ge e_X11_differ_122 (fun _ => ?_) (fun hh => absurd hz hh)
    refine d_5_3 ?_
    obtain rfl := Option.some.inj h; exact hE
  | succ n ih =>
    intro i119 u2 M z2 hi h hE
    rw [L_X11_differ_119] at h
    have hlt_i119 : i119 < 6 := by omega
    have hcl_i119 : (nI i119).toNatClampNeg = i119 := nI_clamp (by omega)
    have hs : ¬ (6 : Int32) ≤ nI i119 := nI_ge (b := 6) hlt_i119 (by decide)
    have k0 : kd sh 242 = some (10 + 7, 0) := hb1.1
    have k1 : rf sh 242 27 = some mA := hb1.2.2.2.2.2.2.2.2.2.2.2.2.2.2.2.2.2.1
    have k2 : kd sh mA = some (0, 212) := hb1.2.2.2.2.2.2.2.2.2.2.2.2.2.2.2.2.2.2.2.2.2.2.2.2.2.2.2.2.2.2.2.2.2.2.2.2.2.2.2.2.2.2.2.2.2.2.2.2.2.2.2.1
    have k3 : rf sh 242 29 = some 261 := hb1.2.2.2.2.2.2.2.2.2.2.2.2.2.2.2.2.2.2.2.1
    have k4 : kd sh 261 = some (0, 424) := hb1.2.2.2.2.2.2.2.2.2.2.2.2.2.2.2.2.2.2.2.2.2.2.2.2.2.2.2.2.2.2.2.2.2.2.2.2.2.2.2.2.2.2.2.1
    refine r_iload_n e_X11_differ_119 rfl ?_
    refine r_bipush e_X11_differ_120 bp_6 ?_
    refine r_icmp_ge e_X11_differ_122 (fun hh => absurd hh hs) (fun _ => ?_)
    refine r_iload_n e_X11_differ_125 rfl ?_
    obtain ⟨K18, hK18, h⟩ := bnd1_in h
    suffices j18 : ∀ v18_0, K18 v18_0 = some z2 → WP m_X11_differ _ 159 [some (.ref 242), some (.int x1), none, some (.int (nI i119)), none] [.int v18_0] sh M 0 0 by
      refine r_if_eq e_X11_differ_126 (fun c16 => ?_) (fun c16 => ?_)
      · rw [if_pos c16] at h
        refine r_iconst e_X11_differ_158 ic_0 ?_
        refine d_5_2 ?_
        exact j18 _ h
      · rw [if_neg c16] at h
        refine r_aload_n e_X11_differ_129 rfl ?_
        refine r_getR e_X11_differ_130 fl_X11_212 k0 k1 ?_
        refine r_iconst e_X11_differ_133 ic_0 ?_
        refine r_iload_n e_X11_differ_134 rfl ?_
        obtain ⟨v19, w19, h⟩ := bnd1_elK h
        refine cS3v e_X11_differ_135 cl_X11_400 ⟨Nat.le_of_ble_eq_true rfl, Nat.le_of_ble_eq_true rfl⟩ ⟨rfl, rfl⟩  (Nat.le_of_ble_eq_true rfl) (S_X11_ballOf k2 (by decide) w19) ?_
        refine r_aload_n e_X11_differ_138 rfl ?_
        refine r_getR e_X11_differ_139 fl_X11_218 k0 k3 ?_
        refine r_sipush e_X11_differ_142 sp_212 ?_
        refine r_iload_n e_X11_differ_145 rfl ?_
        refine r_imul e_X11_differ_146 ?_
        refine r_iload_n e_X11_differ_147 rfl ?_
        obtain ⟨v20, w20, h⟩ := bnd1_elK h
        refine cS3v e_X11_differ_148 cl_X11_400 ⟨Nat.le_of_ble_eq_true rfl, Nat.le_of_ble_eq_true rfl⟩ ⟨rfl, rfl⟩  (Nat.le_of_ble_eq_true rfl) (S_X11_ballOf k4 (by decide) w20) ?_
        refine r_icmp_ne e_X11_differ_151 (fun c21 => ?_) (fun c21 => ?_)
        · rw [if_neg c21] at h
          refine r_iconst e_X11_differ_158 ic_0 ?_
          refine d_5_2 ?_
          exact j18 _ h
        · rw [if_pos c21] at h
          refine r_iconst e_X11_differ_154 ic_1 ?_
          refine r_goto e_X11_differ_155 ?_
          refine d_5_2 ?_
          exact j18 _ h
    intro v18_0 h
    rw [hK18] at h
    refine p_istore_n_5_2 e_X11_differ_159 rfl rfl ?_
    refine p_iinc_5_3 e_X11_differ_160 rfl ic_1 rfl ?_
    rw [nI_1 i119]
    refine r_goto e_X11_differ_163 ?_
    exact ih _ _ _ _ (by omega) h hE
def L_X11_differ_177 (x1 : Int32) (mA : Nat) (w3 : Int32) : Nat → Nat → Int32 → Mem → Option (Int32)
  | 0, i177, u2, M => some u2
  | n + 1, i177, u2, M => bnd1 (if u2 = 0 then (some (0 : Int32)) else (bnd1 (R_X11_of w3 (nI i177) mA M) (fun v26 => ck (((((212 : Int32) * x1) + (44 : Int32)) + ((16 : Int32) * w3)) + (nI i177)) 424 (if v26 = (M.1 261 (((((212 : Int32) * x1) + (44 : Int32)) + ((16 : Int32) * w3)) + (nI i177)).toNatClampNeg) then (some (1 : Int32)) else (some (0 : Int32)))))) (fun v25_0 => L_X11_differ_177 x1 mA w3 n (i177 + 1) v25_0 M)
theorem LW_X11_differ_177 {sh : List SC} {Q : Po} {x1 : Int32} {mA : Nat} {oA : Nat} {w3 : Int32} (hb1 : ModelAt sh mA oA)  : ∀ (n i177 : Nat) (u2 : Int32) (M : Mem) (z2 : Int32), i177 + n = 8 → L_X11_differ_177 x1 mA w3 n i177 u2 M = some z2 → WP m_X11_differ Q 231 [some (.ref 242), some (.int x1), some (.int z2), some (.int w3), none] [] sh M 0 0 → WP m_X11_differ Q 177 [some (.ref 242), some (.int x1), some (.int u2), some (.int w3), some (.int (nI i177))] [] sh M 0 0 := by
  intro n
  induction n with
  | zero =>
    intro i177 u2 M z2 hi h hE
    rw [L_X11_differ_177] at h
    have hz : (8 : Int32) ≤ nI i177 := by
      have q : i177 = 8 := by omega
      rw [q]; exact nI_le (Nat.le_refl _) (by decide)
    refine r_iload e_X11_differ_177 rfl ?_
    refine r_bipush e_X11_differ_179 bp_8 ?_
    refine r_icmp_ge e_X11_differ_181 (fun _ => ?_) (fun hh => absurd hz hh)
    refine d_5_4 ?_
    obtain rfl := Option.some.inj h; exact hE
  | succ n ih =>
    intro i177 u2 M z2 hi h hE
    rw [L_X11_differ_177] at h
    have hlt_i177 : i177 < 8 := by omega
    have hcl_i177 : (nI i177).toNatClampNeg = i177 := nI_clamp (by omega)
    have hs : ¬ (8 : Int32) ≤ nI i177 := nI_ge (b := 8) hlt_i177 (by decide)
    have k0 : kd sh 242 = some (10 + 7, 0) := hb1.1
    have k1 : rf sh 242 29 = some 261 := hb1.2.2.2.2.2.2.2.2.2.2.2.2.2.2.2.2.2.2.2.1
    have k2 : kd sh 261 = some (0, 424) := hb1.2.2.2.2.2.2.2.2.2.2.2.2.2.2.2.2.2.2.2.2.2.2.2.2.2.2.2.2.2.2.2.2.2.2.2.2.2.2.2.2.2.2.2.1
    refine r_iload e_X11_differ_177 rfl ?_
    refine r_bipush e_X11_differ_179 bp_8 ?_
    refine r_icmp_ge e_X11_differ_181 (fun hh => absurd hh hs) (fun _ => ?_)
    refine r_iload_n e_X11_differ_184 rfl ?_
    obtain ⟨K25, hK25, h⟩ := bnd1_in h
    suffices j25 : ∀ v25_0, K25 v25_0 = some z2 → WP m_X11_differ _ 224 [some (.ref 242), some (.int x1), none, some (.int w3), some (.int (nI i177))] [.int v25_0] sh M 0 0 by
      refine r_if_eq e_X11_differ_185 (fun c23 => ?_) (fun c23 => ?_)
      · rw [if_pos c23] at h
        refine r_iconst e_X11_differ_223 ic_0 ?_
        refine d_5_2 ?_
        exact j25 _ h
      · rw [if_neg c23] at h
        refine r_aload_n e_X11_differ_188 rfl ?_
        refine r_iload_n e_X11_differ_189 rfl ?_
        refine r_iload e_X11_differ_190 rfl ?_
        obtain ⟨v26, w26, h⟩ := bnd1_elK h
        refine cV2v e_X11_differ_192 cl_X11_252 ⟨Nat.le_of_ble_eq_true rfl, Nat.le_of_ble_eq_true rfl⟩ ⟨rfl, rfl⟩ k0 (Nat.le_of_ble_eq_true rfl) (S_X11_of hb1 w26) ?_
        refine r_aload_n e_X11_differ_195 rfl ?_
        refine r_getR e_X11_differ_196 fl_X11_218 k0 k1 ?_
        refine r_sipush e_X11_differ_199 sp_212 ?_
        refine r_iload_n e_X11_differ_202 rfl ?_
        refine r_imul e_X11_differ_203 ?_
        refine r_bipush e_X11_differ_204 bp_44 ?_
        refine r_iadd e_X11_differ_206 ?_
        refine r_bipush e_X11_differ_207 bp_16 ?_
        refine r_iload_n e_X11_differ_209 rfl ?_
        refine r_imul e_X11_differ_210 ?_
        refine r_iadd e_X11_differ_211 ?_
        refine r_iload e_X11_differ_212 rfl ?_
        refine r_iadd e_X11_differ_214 ?_
        obtain ⟨b27, h⟩ := ck_elK h
        refine r_iaload e_X11_differ_215 k2 b27 ?_
        refine r_icmp_ne e_X11_differ_216 (fun c28 => ?_) (fun c28 => ?_)
        · rw [if_neg c28] at h
          refine r_iconst e_X11_differ_223 ic_0 ?_
          refine d_5_2 ?_
          exact j25 _ h
        · rw [if_pos c28] at h
          refine r_iconst e_X11_differ_219 ic_1 ?_
          refine r_goto e_X11_differ_220 ?_
          refine d_5_2 ?_
          exact j25 _ h
    intro v25_0 h
    rw [hK25] at h
    refine p_istore_n_5_2 e_X11_differ_224 rfl rfl ?_
    refine p_iinc_5_4 e_X11_differ_225 rfl ic_1 rfl ?_
    rw [nI_1 i177]
    refine r_goto e_X11_differ_228 ?_
    exact ih _ _ _ _ (by omega) h hE
def L_X11_differ_168 (x1 : Int32) (mA : Nat) : Nat → Nat → Int32 → Mem → Option (Int32)
  | 0, i168, u2, M => some u2
  | n + 1, i168, u2, M => bnd1 (L_X11_differ_177 x1 mA (nI i168) 6 2 u2 M) (fun v29_0 => L_X11_differ_168 x1 mA n (i168 + 1) v29_0 M)
theorem LW_X11_differ_168 {sh : List SC} {Q : Po} {x1 : Int32} {mA : Nat} {oA : Nat}  (hb1 : ModelAt sh mA oA)  : ∀ (n i168 : Nat) (u2 : Int32) (M : Mem) (z2 : Int32), i168 + n = 10 → L_X11_differ_168 x1 mA n i168 u2 M = some z2 → WP m_X11_differ Q 237 [none, none, some (.int z2), none, none] [] sh M 0 0 → WP m_X11_differ Q 168 [some (.ref 242), some (.int x1), some (.int u2), some (.int (nI i168)), none] [] sh M 0 0 := by
  intro n
  induction n with
  | zero =>
    intro i168 u2 M z2 hi h hE
    rw [L_X11_differ_168] at h
    have hz : (10 : Int32) ≤ nI i168 := by
      have q : i168 = 10 := by omega
      rw [q]; exact nI_le (Nat.le_refl _) (by decide)
    refine r_iload_n e_X11_differ_168 rfl ?_
    refine r_bipush e_X11_differ_169 bp_10 ?_
    refine r_icmp_ge e_X11_differ_171 (fun _ => ?_) (fun hh => absurd hz hh)
    refine d_5_0 ?_
    refine d_5_1 ?_
    refine d_5_3 ?_
    obtain rfl := Option.some.inj h; exact hE
  | succ n ih =>
    intro i168 u2 M z2 hi h hE
    rw [L_X11_differ_168] at h
    have hlt_i168 : i168 < 10 := by omega
    have hcl_i168 : (nI i168).toNatClampNeg = i168 := nI_clamp (by omega)
    have hs : ¬ (10 : Int32) ≤ nI i168 := nI_ge (b := 10) hlt_i168 (by decide)
    refine r_iload_n e_X11_differ_168 rfl ?_
    refine r_bipush e_X11_differ_169 bp_10 ?_
    refine r_icmp_ge e_X11_differ_171 (fun hh => absurd hh hs) (fun _ => ?_)
    refine r_iconst e_X11_differ_174 ic_2 ?_
    refine p_istore_5_4 e_X11_differ_175 rfl rfl ?_
    show WP m_X11_differ _ 177 [some (.ref 242), some (.int x1), some (.int u2), some (.int (nI i168)), some (.int (nI 2))] [] sh M 0 0
    obtain ⟨v29_0, w29, h⟩ := bnd1_el h
    refine LW_X11_differ_177 hb1 6 2 _ _ _ (by omega) w29 ?_
    refine p_iinc_5_3 e_X11_differ_231 rfl ic_1 rfl ?_
    rw [nI_1 i168]
    refine r_goto e_X11_differ_234 ?_
    exact ih _ _ _ _ (by omega) h hE
def R_X11_differ (x1 : Int32) (mA : Nat) (M : Mem) : Option (Int32 × Mem) := if (V_X11_in x1 (0 : Int32) (1 : Int32) M) = 0 then (bnd2 (R_X11_finding (-1001 : Int32) mA M) (fun v35 M35 => some (v35, M35))) else (if (V_X11_isMatch  mA M) = 0 then (bnd2 (R_X11_finding (-1003 : Int32) mA M) (fun v34 M34 => some (v34, M34))) else (ck ((212 : Int32) * x1) 424 (if (M.1 261 ((212 : Int32) * x1).toNatClampNeg) = 0 then (bnd2 (R_X11_finding (-1004 : Int32) mA M) (fun v33 M33 => some (v33, M33))) else (br1 (L_X11_differ_55 x1 mA 15 0 M) (fun u15 => bnd1 (L_X11_differ_119 x1 mA 6 0 (1 : Int32) M) (fun v22_0 => bnd1 (L_X11_differ_168 x1 mA 10 0 v22_0 M) (fun v30_0 => bd1 (if v30_0 = 0 then (1000 : Int32) else (2000 : Int32)) (fun v32_0 => some (v32_0, M)))))))))
theorem S_X11_differ {sh : List SC} {M : Mem} {x1 : Int32} {mA : Nat} {oA : Nat} {v' : Int32} {M' : Mem} (hb1 : ModelAt sh mA oA)  (h : R_X11_differ x1 mA M = some (v', M')) : Gv m_X11_differ [.ref 242, .int x1] sh M (.int v') M' := by
  refine Sp.of (ls := [some (.ref 242), some (.int x1), none, none, none]) (by decide +kernel) (Nat.le_of_ble_eq_true rfl) rfl ?_
  have k0 : kd sh 242 = some (10 + 7, 0) := hb1.1
  have k1 : rf sh 242 29 = some 261 := hb1.2.2.2.2.2.2.2.2.2.2.2.2.2.2.2.2.2.2.2.1
  have k2 : kd sh 261 = some (0, 424) := hb1.2.2.2.2.2.2.2.2.2.2.2.2.2.2.2.2.2.2.2.2.2.2.2.2.2.2.2.2.2.2.2.2.2.2.2.2.2.2.2.2.2.2.2.1
  unfold R_X11_differ at h
  refine r_iload_n e_X11_differ_0 rfl ?_
  refine r_iconst e_X11_differ_1 ic_0 ?_
  refine r_iconst e_X11_differ_2 ic_1 ?_
  refine cS3v e_X11_differ_3 cl_X11_245 ⟨Nat.le_of_ble_eq_true rfl, Nat.le_of_ble_eq_true rfl⟩ ⟨rfl, rfl⟩  (Nat.le_of_ble_eq_true rfl) (S_X11_in ) ?_
  refine r_if_ne e_X11_differ_6 (fun c1 => ?_) (fun c1 => ?_)
  · rw [if_neg c1] at h
    refine r_aload_n e_X11_differ_17 rfl ?_
    refine cV0v e_X11_differ_18 cl_X11_394 ⟨Nat.le_of_ble_eq_true rfl, Nat.le_of_ble_eq_true rfl⟩ ⟨rfl, rfl⟩ k0 (Nat.le_of_ble_eq_true rfl) (S_X11_isMatch hb1) ?_
    refine r_if_ne e_X11_differ_21 (fun c2 => ?_) (fun c2 => ?_)
    · rw [if_neg c2] at h
      refine r_aload_n e_X11_differ_32 rfl ?_
      refine r_getR e_X11_differ_33 fl_X11_218 k0 k1 ?_
      refine r_sipush e_X11_differ_36 sp_212 ?_
      refine r_iload_n e_X11_differ_39 rfl ?_
      refine r_imul e_X11_differ_40 ?_
      obtain ⟨b3, h⟩ := ck_el h
      refine r_iaload e_X11_differ_41 k2 b3 ?_
      refine r_if_ne e_X11_differ_42 (fun c4 => ?_) (fun c4 => ?_)
      · rw [if_neg c4] at h
        refine r_iconst e_X11_differ_53 ic_0 ?_
        refine p_istore_n_5_2 e_X11_differ_54 rfl rfl ?_
        show WP m_X11_differ _ 55 [some (.ref 242), some (.int x1), some (.int (nI 0)), none, none] [] sh M 0 0
        obtain ⟨q15, w15, l15, r15⟩ := br1_el h
        refine LW_X11_differ_55 hb1 15 0 _ _ (by omega) w15 (fun x15 y15 => ?_) (fun u15 y15 => ?_)
        · have h := l15 _ y15
          obtain ⟨rfl, rfl⟩ := ps2 h; exact ⟨rfl, rfl, rfl⟩
        have h := r15 _ y15
        refine r_iconst e_X11_differ_115 ic_1 ?_
        refine p_istore_n_5_2 e_X11_differ_116 rfl rfl ?_
        refine r_iconst e_X11_differ_117 ic_0 ?_
        refine p_istore_n_5_3 e_X11_differ_118 rfl rfl ?_
        show WP m_X11_differ _ 119 [some (.ref 242), some (.int x1), some (.int (1 : Int32)), some (.int (nI 0)), none] [] sh M 0 0
        obtain ⟨v22_0, w22, h⟩ := bnd1_el h
        refine LW_X11_differ_119 hb1 6 0 _ _ _ (by omega) w22 ?_
        refine r_iconst e_X11_differ_166 ic_0 ?_
        refine p_istore_n_5_3 e_X11_differ_167 rfl rfl ?_
        show WP m_X11_differ _ 168 [some (.ref 242), some (.int x1), some (.int v22_0), some (.int (nI 0)), none] [] sh M 0 0
        obtain ⟨v30_0, w30, h⟩ := bnd1_el h
        refine LW_X11_differ_168 hb1 10 0 _ _ _ (by omega) w30 ?_
        refine r_iload_n e_X11_differ_237 rfl ?_
        obtain ⟨v32_0, q32, h⟩ := bd1_el h
        suffices j32 : WP m_X11_differ _ 250 [none, none, none, none, none] [.int v32_0] sh M 0 0 by
          refine r_if_eq e_X11_differ_238 (fun c31 => ?_) (fun c31 => ?_)
          · rw [if_pos c31] at q32
            refine r_sipush e_X11_differ_247 sp_1000 ?_
            refine d_5_2 ?_
            subst q32; exact j32
          · rw [if_neg c31] at q32
            refine r_sipush e_X11_differ_241 sp_2000 ?_
            refine r_goto e_X11_differ_244 ?_
            refine d_5_2 ?_
            subst q32; exact j32
        refine r_ireturn e_X11_differ_250 rfl ⟨rfl, rfl⟩ ?_
        obtain ⟨rfl, rfl⟩ := ps2 h; exact ⟨rfl, rfl, rfl⟩
      · rw [if_pos c4] at h
        refine r_aload_n e_X11_differ_45 rfl ?_
        refine r_sipush e_X11_differ_46 sp_m1004 ?_
        obtain ⟨v33, M33, w33, h⟩ := bnd2_el h
        refine cV1v e_X11_differ_49 cl_X11_178 ⟨Nat.le_of_ble_eq_true rfl, Nat.le_of_ble_eq_true rfl⟩ ⟨rfl, rfl⟩ k0 (Nat.le_of_ble_eq_true rfl) (S_X11_finding hb1 w33) ?_
        refine r_ireturn e_X11_differ_52 rfl ⟨rfl, rfl⟩ ?_
        obtain ⟨rfl, rfl⟩ := ps2 h; exact ⟨rfl, rfl, rfl⟩
    · rw [if_pos c2] at h
      refine r_aload_n e_X11_differ_24 rfl ?_
      refine r_sipush e_X11_differ_25 sp_m1003 ?_
      obtain ⟨v34, M34, w34, h⟩ := bnd2_el h
      refine cV1v e_X11_differ_28 cl_X11_178 ⟨Nat.le_of_ble_eq_true rfl, Nat.le_of_ble_eq_true rfl⟩ ⟨rfl, rfl⟩ k0 (Nat.le_of_ble_eq_true rfl) (S_X11_finding hb1 w34) ?_
      refine r_ireturn e_X11_differ_31 rfl ⟨rfl, rfl⟩ ?_
      obtain ⟨rfl, rfl⟩ := ps2 h; exact ⟨rfl, rfl, rfl⟩
  · rw [if_pos c1] at h
    refine r_aload_n e_X11_differ_9 rfl ?_
    refine r_sipush e_X11_differ_10 sp_m1001 ?_
    obtain ⟨v35, M35, w35, h⟩ := bnd2_el h
    refine cV1v e_X11_differ_13 cl_X11_178 ⟨Nat.le_of_ble_eq_true rfl, Nat.le_of_ble_eq_true rfl⟩ ⟨rfl, rfl⟩ k0 (Nat.le_of_ble_eq_true rfl) (S_X11_finding hb1 w35) ?_
    refine r_ireturn e_X11_differ_16 rfl ⟨rfl, rfl⟩ ?_
    obtain ⟨rfl, rfl⟩ := ps2 h; exact ⟨rfl, rfl, rfl⟩
