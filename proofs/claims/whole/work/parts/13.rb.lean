def L_X5_join_92 (a : Nat) (x1 : Nat) : Nat → Nat → Mem → Option (Mem)
  | 0, i92, M => some M
  | n + 1, i92, M => L_X5_join_92 a x1 n (i92 + 1) (setI M (a + 1) i92 (0 : Int32))
theorem LW_X5_join_92 {sh : List SC} {Q : Po} {a : Nat} {x1 : Nat}   (hb1 : RobotAt sh a) (hb2 : TeamAt sh x1)  : ∀ (n i92 : Nat) (M : Mem) (Mz : Mem), i92 + n = 4 → L_X5_join_92 a x1 n i92 M = some Mz → WP m_X5_join Q 114 [none, none, none] [] sh Mz 0 0 → WP m_X5_join Q 92 [some (.ref a), none, some (.int (nI i92))] [] sh M 0 0 := by
  intro n
  induction n with
  | zero =>
    intro i92 M Mz hi h hE
    rw [L_X5_join_92] at h
    have hz : (4 : Int32) ≤ nI i92 := by
      have q : i92 = 4 := by omega
      rw [q]; exact nI_le (Nat.le_refl _) (by decide)
    have k0 : kd sh a = some (5 + 7, 0) := hb1.1
    have k1 : rf sh a 9 = some (a + 1) := hb1.2.1
    have k2 : kd sh (a + 1) = some (0, 4) := hb1.2.2
    refine r_iload_n e_X5_join_92 rfl ?_
    refine r_aload_n e_X5_join_93 rfl ?_
    refine r_getR e_X5_join_94 fl_X5_34 k0 k1 ?_
    refine r_alen (v := (4 : Int32)) e_X5_join_97 k2 (by decide) rfl ?_
    refine r_icmp_ge e_X5_join_98 (fun _ => ?_) (fun hh => absurd hz hh)
    refine d_3_0 ?_
    refine d_3_2 ?_
    obtain rfl := Option.some.inj h; exact hE
  | succ n ih =>
    intro i92 M Mz hi h hE
    rw [L_X5_join_92] at h
    have hlt_i92 : i92 < 4 := by omega
    have hcl_i92 : (nI i92).toNatClampNeg = i92 := nI_clamp (by omega)
    have hs : ¬ (4 : Int32) ≤ nI i92 := nI_ge (b := 4) hlt_i92 (by decide)
    have k0 : kd sh a = some (5 + 7, 0) := hb1.1
    have k1 : rf sh a 9 = some (a + 1) := hb1.2.1
    have k2 : kd sh (a + 1) = some (0, 4) := hb1.2.2
    refine r_iload_n e_X5_join_92 rfl ?_
    refine r_aload_n e_X5_join_93 rfl ?_
    refine r_getR e_X5_join_94 fl_X5_34 k0 k1 ?_
    refine r_alen (v := (4 : Int32)) e_X5_join_97 k2 (by decide) rfl ?_
    refine r_icmp_ge e_X5_join_98 (fun hh => absurd hh hs) (fun _ => ?_)
    refine r_aload_n e_X5_join_101 rfl ?_
    refine r_getR e_X5_join_102 fl_X5_34 k0 k1 ?_
    refine r_iload_n e_X5_join_105 rfl ?_
    refine r_iconst e_X5_join_106 ic_0 ?_
    refine r_iastore e_X5_join_107 k2 (vp_in_nI (Nat.lt_of_lt_of_le hlt_i92 (by decide)) (by decide)) ?_
    rw [hcl_i92]
    refine p_iinc_3_2 e_X5_join_108 rfl ic_1 rfl ?_
    rw [nI_1 i92]
    refine r_goto e_X5_join_111 ?_
    exact ih _  _ _ (by omega) h hE
def R_X5_join (a : Nat) (x1 : Nat) (M : Mem) : Option (Mem) := bd1 (setI (setI (setI M a 6 (V_X10_at (x1 + 1) (M.1 a 0) 5 M)) a 4 (V_X5_seenX a (V_X10_at (x1 + 2) (M.1 a 0) 5 (setI M a 6 (V_X10_at (x1 + 1) (M.1 a 0) 5 M))) (setI M a 6 (V_X10_at (x1 + 1) (M.1 a 0) 5 M)))) a 5 (V_X5_seenY a (V_X10_at (x1 + 3) (M.1 a 0) 5 (setI (setI M a 6 (V_X10_at (x1 + 1) (M.1 a 0) 5 M)) a 4 (V_X5_seenX a (V_X10_at (x1 + 2) (M.1 a 0) 5 (setI M a 6 (V_X10_at (x1 + 1) (M.1 a 0) 5 M))) (setI M a 6 (V_X10_at (x1 + 1) (M.1 a 0) 5 M))))) (setI (setI M a 6 (V_X10_at (x1 + 1) (M.1 a 0) 5 M)) a 4 (V_X5_seenX a (V_X10_at (x1 + 2) (M.1 a 0) 5 (setI M a 6 (V_X10_at (x1 + 1) (M.1 a 0) 5 M))) (setI M a 6 (V_X10_at (x1 + 1) (M.1 a 0) 5 M)))))) (fun M1 => bd1 (if 0 ≤ (M1.1 a 6) then (0 : Int32) else (-1 : Int32)) (fun v3_0 => bnd1 (L_X5_join_92 a x1 4 0 (setI (setI (setI (setI M1 a 12 (M1.1 x1 3)) a 13 (M1.1 x1 4)) a 7 v3_0) a 8 (0 : Int32))) (fun M4 => some M4)))
theorem S_X5_join {sh : List SC} {M : Mem} {a : Nat} {x1 : Nat}  {M' : Mem} (hb1 : RobotAt sh a) (hb2 : TeamAt sh x1)  (h : R_X5_join a x1 M = some M') : Gu m_X5_join [.ref a, .ref x1] sh M M' := by
  refine Sp.of (ls := [some (.ref a), some (.ref x1), none]) (by decide +kernel) (Nat.le_of_ble_eq_true rfl) rfl ?_
  have k0 : kd sh x1 = some (8 + 7, 0) := hb2.1
  have k1 : rf sh x1 0 = some (x1 + 1) := hb2.2.1
  have k2 : kd sh (x1 + 1) = some (0, 5) := hb2.2.2.2.2.1
  have k3 : kd sh a = some (5 + 7, 0) := hb1.1
  have k4 : rf sh x1 1 = some (x1 + 2) := hb2.2.2.1
  have k5 : kd sh (x1 + 2) = some (0, 5) := hb2.2.2.2.2.2.1
  have k6 : rf sh x1 2 = some (x1 + 3) := hb2.2.2.2.1
  have k7 : kd sh (x1 + 3) = some (0, 5) := hb2.2.2.2.2.2.2
  unfold R_X5_join at h
  refine r_aload_n e_X5_join_0 rfl ?_
  refine r_aload_n e_X5_join_1 rfl ?_
  refine r_getR e_X5_join_2 fl_X5_68 k0 k1 ?_
  refine r_aload_n e_X5_join_5 rfl ?_
  refine r_getI e_X5_join_6 fl_X5_62 i0 k3 ?_
  refine cSN2v e_X5_join_9 cl_X5_72 ⟨Nat.le_of_ble_eq_true rfl, Nat.le_of_ble_eq_true rfl⟩ ⟨rfl, rfl⟩  (Nat.le_of_ble_eq_true rfl) (S_X10_at k2 (by decide)) ?_
  refine r_putI e_X5_join_12 fl_X5_24 k3 ?_
  refine r_aload_n e_X5_join_15 rfl ?_
  refine r_aload_n e_X5_join_16 rfl ?_
  refine r_aload_n e_X5_join_17 rfl ?_
  refine r_getR e_X5_join_18 fl_X5_76 k0 k4 ?_
  refine r_aload_n e_X5_join_21 rfl ?_
  refine r_getIe e_X5_join_22 fl_X5_62 i0 k3 (gs_nI (by decide)) ?_
  refine cSN2v e_X5_join_25 cl_X5_72 ⟨Nat.le_of_ble_eq_true rfl, Nat.le_of_ble_eq_true rfl⟩ ⟨rfl, rfl⟩  (Nat.le_of_ble_eq_true rfl) (S_X10_at k5 (by decide)) ?_
  refine cV1v e_X5_join_28 cl_X5_78 ⟨Nat.le_of_ble_eq_true rfl, Nat.le_of_ble_eq_true rfl⟩ ⟨rfl, rfl⟩ k3 (Nat.le_of_ble_eq_true rfl) (S_X5_seenX hb1) ?_
  refine r_putI e_X5_join_31 fl_X5_18 k3 ?_
  refine r_aload_n e_X5_join_34 rfl ?_
  refine r_aload_n e_X5_join_35 rfl ?_
  refine r_aload_n e_X5_join_36 rfl ?_
  refine r_getR e_X5_join_37 fl_X5_82 k0 k6 ?_
  refine r_aload_n e_X5_join_40 rfl ?_
  refine r_getIe e_X5_join_41 fl_X5_62 i0 k3 ((gs_nI (by decide)).trans (gs_nI (by decide))) ?_
  refine cSN2v e_X5_join_44 cl_X5_72 ⟨Nat.le_of_ble_eq_true rfl, Nat.le_of_ble_eq_true rfl⟩ ⟨rfl, rfl⟩  (Nat.le_of_ble_eq_true rfl) (S_X10_at k7 (by decide)) ?_
  refine cV1v e_X5_join_47 cl_X5_84 ⟨Nat.le_of_ble_eq_true rfl, Nat.le_of_ble_eq_true rfl⟩ ⟨rfl, rfl⟩ k3 (Nat.le_of_ble_eq_true rfl) (S_X5_seenY hb1) ?_
  refine r_putI e_X5_join_50 fl_X5_21 k3 ?_
  obtain ⟨M1, e1, h⟩ := bd1_el h
  rw [e1]
  refine r_aload_n e_X5_join_53 rfl ?_
  refine r_aload_n e_X5_join_54 rfl ?_
  refine r_getI e_X5_join_55 fl_X5_87 i0 k0 ?_
  refine r_putI e_X5_join_58 fl_X5_44 k3 ?_
  refine r_aload_n e_X5_join_61 rfl ?_
  refine r_aload_n e_X5_join_62 rfl ?_
  refine r_getIe e_X5_join_63 fl_X5_88 i0 k0 (gs_nI (by decide)) ?_
  refine r_putI e_X5_join_66 fl_X5_47 k3 ?_
  refine r_aload_n e_X5_join_69 rfl ?_
  refine r_aload_n e_X5_join_70 rfl ?_
  refine r_getIe e_X5_join_71 fl_X5_24 i0 k3 ((gs_nI (by decide)).trans (gs_nI (by decide))) ?_
  obtain ⟨v3_0, q3, h⟩ := bd1_el h
  suffices j3 : WP m_X5_join _ 82 [some (.ref a), none, none] [.int v3_0, .ref a] sh (setI (setI M1 a 12 (M1.1 x1 3)) a 13 (M1.1 x1 4)) 0 0 by
    refine r_if_ge e_X5_join_74 (fun c2 => ?_) (fun c2 => ?_)
    · rw [if_pos c2] at q3
      refine r_iconst e_X5_join_81 ic_0 ?_
      refine d_3_1 ?_
      subst q3; exact j3
    · rw [if_neg c2] at q3
      refine r_iconst e_X5_join_77 ic_m1 ?_
      refine r_goto e_X5_join_78 ?_
      refine d_3_1 ?_
      subst q3; exact j3
  refine r_putI e_X5_join_82 fl_X5_27 k3 ?_
  refine r_aload_n e_X5_join_85 rfl ?_
  refine r_iconst e_X5_join_86 ic_0 ?_
  refine r_putZ e_X5_join_87 fl_X5_30 (by first | exact Or.inl rfl | exact Or.inr rfl) k3 ?_
  refine r_iconst e_X5_join_90 ic_0 ?_
  refine p_istore_n_3_2 e_X5_join_91 rfl rfl ?_
  show WP m_X5_join _ 92 [some (.ref a), none, some (.int (nI 0))] [] sh (setI (setI (setI (setI M1 a 12 (M1.1 x1 3)) a 13 (M1.1 x1 4)) a 7 v3_0) a 8 (0 : Int32)) 0 0
  obtain ⟨M4, w4, h⟩ := bnd1_el h
  refine LW_X5_join_92 hb1 hb2 4 0 _ _ (by omega) w4 ?_
  refine r_return e_X5_join_114 rfl ⟨rfl, rfl⟩ ?_
  obtain rfl := Option.some.inj h; exact ⟨rfl, rfl, rfl⟩
def L_X2_freeCell_35 (a : Nat) (x1 : Int32) (x2 : Int32) (w5 : Int32) : Nat → Nat → Int32 → Int32 → Mem → Option (Int32 × Int32)
  | 0, i35, u3, u4, M => some (u3, u4)
  | n + 1, i35, u3, u4, M => bd1 (V_X10_distance x1 x2 w5 (nI i35) M) (fun v2 => bd2 (if u4 ≤ v2 then (u3, u4) else (if 0 ≤ (V_X2_robotIn a w5 (nI i35) M) then (u3, u4) else (bd1 (w5 + ((15 : Int32) * (nI i35))) (fun v6 => (v6, v2))))) (fun v4_0 v4_1 => L_X2_freeCell_35 a x1 x2 w5 n (i35 + 1) v4_0 v4_1 M))
theorem LW_X2_freeCell_35 {sh : List SC} {Q : Po} {a : Nat} {x1 : Int32} {x2 : Int32}  {w5 : Int32} (hb1 : MatchAt sh a)  : ∀ (n i35 : Nat) (u3 : Int32) (u4 : Int32) (M : Mem) (z3 : Int32) (z4 : Int32), i35 + n = 9 → L_X2_freeCell_35 a x1 x2 w5 n i35 u3 u4 M = some (z3, z4) → WP m_X2_freeCell Q 90 [some (.ref a), some (.int x1), some (.int x2), some (.int z3), some (.int z4), some (.int w5), none, none] [] sh M 0 0 → WP m_X2_freeCell Q 35 [some (.ref a), some (.int x1), some (.int x2), some (.int u3), some (.int u4), some (.int w5), some (.int (nI i35)), none] [] sh M 0 0 := by
  intro n
  induction n with
  | zero =>
    intro i35 u3 u4 M z3 z4 hi h hE
    rw [L_X2_freeCell_35] at h
    have hz : (9 : Int32) ≤ nI i35 := by
      have q : i35 = 9 := by omega
      rw [q]; exact nI_le (Nat.le_refl _) (by decide)
    refine r_iload e_X2_freeCell_35 rfl ?_
    refine r_bipush e_X2_freeCell_37 bp_9 ?_
    refine r_icmp_ge e_X2_freeCell_39 (fun _ => ?_) (fun hh => absurd hz hh)
    refine d_8_6 ?_
    obtain ⟨rfl, rfl⟩ := ps2 h; exact hE
  | succ n ih =>
    intro i35 u3 u4 M z3 z4 hi h hE
    rw [L_X2_freeCell_35] at h
    have hlt_i35 : i35 < 9 := by omega
    have hcl_i35 : (nI i35).toNatClampNeg = i35 := nI_clamp (by omega)
    have hs : ¬ (9 : Int32) ≤ nI i35 := nI_ge (b := 9) hlt_i35 (by decide)
    have k0 : kd sh a = some (2 + 7, 0) := hb1.1
    refine r_iload e_X2_freeCell_35 rfl ?_
    refine r_bipush e_X2_freeCell_37 bp_9 ?_
    refine r_icmp_ge e_X2_freeCell_39 (fun hh => absurd hh hs) (fun _ => ?_)
    refine r_iload_n e_X2_freeCell_42 rfl ?_
    refine r_iload_n e_X2_freeCell_43 rfl ?_
    refine r_iload e_X2_freeCell_44 rfl ?_
    refine r_iload e_X2_freeCell_46 rfl ?_
    refine cSN4v e_X2_freeCell_48 cl_X2_144 ⟨Nat.le_of_ble_eq_true rfl, Nat.le_of_ble_eq_true rfl⟩ ⟨rfl, rfl⟩  (Nat.le_of_ble_eq_true rfl) (S_X10_distance ) ?_
    obtain ⟨v2, e2, h⟩ := bd1_el h
    rw [e2]
    refine p_istore_8_7 e_X2_freeCell_51 rfl rfl ?_
    refine r_iload e_X2_freeCell_53 rfl ?_
    refine r_iload e_X2_freeCell_55 rfl ?_
    obtain ⟨v4_0, v4_1, q4, h⟩ := bd2_el h
    suffices j4 : WP m_X2_freeCell _ 84 [some (.ref a), some (.int x1), some (.int x2), some (.int v4_0), some (.int v4_1), some (.int w5), some (.int (nI i35)), none] [] sh M 0 0 by
      refine r_icmp_ge e_X2_freeCell_57 (fun c3 => ?_) (fun c3 => ?_)
      · rw [if_pos c3] at q4
        refine d_8_7 ?_
        obtain ⟨rfl, rfl⟩ := pe2 q4; exact j4
      · rw [if_neg c3] at q4
        refine r_aload_n e_X2_freeCell_60 rfl ?_
        refine r_iload e_X2_freeCell_61 rfl ?_
        refine r_iload e_X2_freeCell_63 rfl ?_
        refine cV2v e_X2_freeCell_65 cl_X2_141 ⟨Nat.le_of_ble_eq_true rfl, Nat.le_of_ble_eq_true rfl⟩ ⟨rfl, rfl⟩ k0 (Nat.le_of_ble_eq_true rfl) (S_X2_robotIn hb1) ?_
        refine r_if_ge e_X2_freeCell_68 (fun c5 => ?_) (fun c5 => ?_)
        · rw [if_pos c5] at q4
          refine d_8_7 ?_
          obtain ⟨rfl, rfl⟩ := pe2 q4; exact j4
        · rw [if_neg c5] at q4
          refine r_iload e_X2_freeCell_71 rfl ?_
          refine p_istore_8_4 e_X2_freeCell_73 rfl rfl ?_
          refine r_iload e_X2_freeCell_75 rfl ?_
          refine r_bipush e_X2_freeCell_77 bp_15 ?_
          refine r_iload e_X2_freeCell_79 rfl ?_
          refine r_imul e_X2_freeCell_81 ?_
          refine r_iadd e_X2_freeCell_82 ?_
          obtain ⟨v6, e6, q4⟩ := bd1_el q4
          rw [e6]
          refine p_istore_n_8_3 e_X2_freeCell_83 rfl rfl ?_
          refine d_8_7 ?_
          obtain ⟨rfl, rfl⟩ := pe2 q4; exact j4
    refine p_iinc_8_6 e_X2_freeCell_84 rfl ic_1 rfl ?_
    rw [nI_1 i35]
    refine r_goto e_X2_freeCell_87 ?_
    exact ih _ _ _ _ _ _ (by omega) h hE
def L_X2_freeCell_25 (a : Nat) (x1 : Int32) (x2 : Int32) : Nat → Nat → Int32 → Int32 → Mem → Option (Int32)
  | 0, i25, u3, u4, M => some u3
  | n + 1, i25, u3, u4, M => bnd2 (L_X2_freeCell_35 a x1 x2 (nI i25) 9 0 u3 u4 M) (fun v7_0 v7_1 => L_X2_freeCell_25 a x1 x2 n (i25 + 1) v7_0 v7_1 M)
theorem LW_X2_freeCell_25 {sh : List SC} {Q : Po} {a : Nat} {x1 : Int32} {x2 : Int32}   (hb1 : MatchAt sh a)  : ∀ (n i25 : Nat) (u3 : Int32) (u4 : Int32) (M : Mem) (z3 : Int32), i25 + n = 15 → L_X2_freeCell_25 a x1 x2 n i25 u3 u4 M = some z3 → WP m_X2_freeCell Q 96 [none, none, none, some (.int z3), none, none, none, none] [] sh M 0 0 → WP m_X2_freeCell Q 25 [some (.ref a), some (.int x1), some (.int x2), some (.int u3), some (.int u4), some (.int (nI i25)), none, none] [] sh M 0 0 := by
  intro n
  induction n with
  | zero =>
    intro i25 u3 u4 M z3 hi h hE
    rw [L_X2_freeCell_25] at h
    have hz : (15 : Int32) ≤ nI i25 := by
      have q : i25 = 15 := by omega
      rw [q]; exact nI_le (Nat.le_refl _) (by decide)
    refine r_iload e_X2_freeCell_25 rfl ?_
    refine r_bipush e_X2_freeCell_27 bp_15 ?_
    refine r_icmp_ge e_X2_freeCell_29 (fun _ => ?_) (fun hh => absurd hz hh)
    refine d_8_0 ?_
    refine d_8_1 ?_
    refine d_8_2 ?_
    refine d_8_4 ?_
    refine d_8_5 ?_
    obtain rfl := Option.some.inj h; exact hE
  | succ n ih =>
    intro i25 u3 u4 M z3 hi h hE
    rw [L_X2_freeCell_25] at h
    have hlt_i25 : i25 < 15 := by omega
    have hcl_i25 : (nI i25).toNatClampNeg = i25 := nI_clamp (by omega)
    have hs : ¬ (15 : Int32) ≤ nI i25 := nI_ge (b := 15) hlt_i25 (by decide)
    refine r_iload e_X2_freeCell_25 rfl ?_
    refine r_bipush e_X2_freeCell_27 bp_15 ?_
    refine r_icmp_ge e_X2_freeCell_29 (fun hh => absurd hh hs) (fun _ => ?_)
    refine r_iconst e_X2_freeCell_32 ic_0 ?_
    refine p_istore_8_6 e_X2_freeCell_33 rfl rfl ?_
    show WP m_X2_freeCell _ 35 [some (.ref a), some (.int x1), some (.int x2), some (.int u3), some (.int u4), some (.int (nI i25)), some (.int (nI 0)), none] [] sh M 0 0
    obtain ⟨v7_0, v7_1, w7, h⟩ := bnd2_el h
    refine LW_X2_freeCell_35 hb1 9 0 _ _ _ _ _ (by omega) w7 ?_
    refine p_iinc_8_5 e_X2_freeCell_90 rfl ic_1 rfl ?_
    rw [nI_1 i25]
    refine r_goto e_X2_freeCell_93 ?_
    exact ih _ _ _ _ _ (by omega) h hE
def R_X2_freeCell (a : Nat) (x1 : Int32) (x2 : Int32) (M : Mem) : Option (Int32) := if 0 ≤ (V_X2_robotIn a x1 x2 M) then (bnd1 (L_X2_freeCell_25 a x1 x2 15 0 (0 : Int32) (15 : Int32) M) (fun v8_0 => some v8_0)) else (some (x1 + ((15 : Int32) * x2)))
theorem S_X2_freeCell {sh : List SC} {M : Mem} {a : Nat} {x1 : Int32} {x2 : Int32}  {v' : Int32} (hb1 : MatchAt sh a)  (h : R_X2_freeCell a x1 x2 M = some v') : Gv m_X2_freeCell [.ref a, .int x1, .int x2] sh M (.int v') M := by
  refine Sp.of (ls := [some (.ref a), some (.int x1), some (.int x2), none, none, none, none, none]) (by decide +kernel) (Nat.le_of_ble_eq_true rfl) rfl ?_
  have k0 : kd sh a = some (2 + 7, 0) := hb1.1
  unfold R_X2_freeCell at h
  refine r_aload_n e_X2_freeCell_0 rfl ?_
  refine r_iload_n e_X2_freeCell_1 rfl ?_
  refine r_iload_n e_X2_freeCell_2 rfl ?_
  refine cV2v e_X2_freeCell_3 cl_X2_141 ⟨Nat.le_of_ble_eq_true rfl, Nat.le_of_ble_eq_true rfl⟩ ⟨rfl, rfl⟩ k0 (Nat.le_of_ble_eq_true rfl) (S_X2_robotIn hb1) ?_
  refine r_if_ge e_X2_freeCell_6 (fun c1 => ?_) (fun c1 => ?_)
  · rw [if_pos c1] at h
    refine r_iconst e_X2_freeCell_16 ic_0 ?_
    refine p_istore_n_8_3 e_X2_freeCell_17 rfl rfl ?_
    refine r_bipush e_X2_freeCell_18 bp_15 ?_
    refine p_istore_8_4 e_X2_freeCell_20 rfl rfl ?_
    refine r_iconst e_X2_freeCell_22 ic_0 ?_
    refine p_istore_8_5 e_X2_freeCell_23 rfl rfl ?_
    show WP m_X2_freeCell _ 25 [some (.ref a), some (.int x1), some (.int x2), some (.int (0 : Int32)), some (.int (15 : Int32)), some (.int (nI 0)), none, none] [] sh M 0 0
    obtain ⟨v8_0, w8, h⟩ := bnd1_el h
    refine LW_X2_freeCell_25 hb1 15 0 _ _ _ _ (by omega) w8 ?_
    refine r_iload_n e_X2_freeCell_96 rfl ?_
    refine r_ireturn e_X2_freeCell_97 rfl ⟨rfl, rfl⟩ ?_
    obtain rfl := Option.some.inj h; exact ⟨rfl, rfl, rfl⟩
  · rw [if_neg c1] at h
    refine r_iload_n e_X2_freeCell_9 rfl ?_
    refine r_bipush e_X2_freeCell_10 bp_15 ?_
    refine r_iload_n e_X2_freeCell_12 rfl ?_
    refine r_imul e_X2_freeCell_13 ?_
    refine r_iadd e_X2_freeCell_14 ?_
    refine r_ireturn e_X2_freeCell_15 rfl ⟨rfl, rfl⟩ ?_
    obtain rfl := Option.some.inj h; exact ⟨rfl, rfl, rfl⟩
def R_X2_putBall (a : Nat) (M : Mem) : Option (Mem) := bnd1 (R_X2_freeCell a (7 : Int32) (4 : Int32) M) (fun v1 => bd1 (U_X0_lie (a + 4) (v1 - v1 / (15 : Int32) * (15 : Int32)) (v1 / (15 : Int32)) M) (fun M2 => some M2))
theorem S_X2_putBall {sh : List SC} {M : Mem} {a : Nat}  {M' : Mem} (hb1 : MatchAt sh a)  (h : R_X2_putBall a M = some M') : Gu m_X2_putBall [.ref a] sh M M' := by
  refine Sp.of (ls := [some (.ref a), none]) (by decide +kernel) (Nat.le_of_ble_eq_true rfl) rfl ?_
  have k0 : kd sh a = some (2 + 7, 0) := hb1.1
  have k1 : rf sh a 4 = some (a + 4) := hb1.2.2.2.2.2.1
  have k2 : kd sh (a + 4) = some (0 + 7, 0) := hb1.2.2.2.2.2.2.2.2.2.1.1
  unfold R_X2_putBall at h
  refine r_aload_n e_X2_putBall_0 rfl ?_
  refine r_bipush e_X2_putBall_1 bp_7 ?_
  refine r_iconst e_X2_putBall_3 ic_4 ?_
  obtain ⟨v1, w1, h⟩ := bnd1_el h
  refine cV2v e_X2_putBall_4 cl_X2_126 ⟨Nat.le_of_ble_eq_true rfl, Nat.le_of_ble_eq_true rfl⟩ ⟨rfl, rfl⟩ k0 (Nat.le_of_ble_eq_true rfl) (S_X2_freeCell hb1 w1) ?_
  refine p_istore_n_2_1 e_X2_putBall_7 rfl rfl ?_
  refine r_aload_n e_X2_putBall_8 rfl ?_
  refine r_getR e_X2_putBall_9 fl_X2_27 k0 k1 ?_
  refine r_iload_n e_X2_putBall_12 rfl ?_
  refine r_bipush e_X2_putBall_13 bp_15 ?_
  refine r_irem e_X2_putBall_15 (by decide) ?_
  refine r_iload_n e_X2_putBall_16 rfl ?_
  refine r_bipush e_X2_putBall_17 bp_15 ?_
  refine r_idiv e_X2_putBall_19 (by decide) ?_
  refine cV2u e_X2_putBall_20 cl_X2_138 ⟨Nat.le_of_ble_eq_true rfl, Nat.le_of_ble_eq_true rfl⟩ ⟨rfl, rfl⟩ k2 (Nat.le_of_ble_eq_true rfl) (S_X0_lie hb1.2.2.2.2.2.2.2.2.2.1) ?_
  obtain ⟨M2, e2, h⟩ := bd1_el h
  rw [e2]
  refine r_return e_X2_putBall_23 rfl ⟨rfl, rfl⟩ ?_
  obtain rfl := Option.some.inj h; exact ⟨rfl, rfl, rfl⟩
def L_X2_sense_145 (a : Nat) (x1 : Nat) (x2 : Int32) : Nat → Nat → Mem → Option (Mem)
  | 0, i145, M => some M
  | n + 1, i145, M => bd1 (if (M.1 (a + 10 + 2 * i145) 1) = (M.1 x1 1) then (1 : Int32) else (0 : Int32)) (fun v12_0 => bd1 (if v12_0 = 0 then (10 : Int32) else (0 : Int32)) (fun v14_0 => bd1 (((8 : Int32) + v14_0) + (M.1 (a + 10 + 2 * i145) 0)) (fun v15 => bd1 (U_X10_put (a + 2) v15 (V_X5_seenX x1 (M.1 (a + 10 + 2 * i145) 2) M) 28 M) (fun M16 => bd1 (U_X10_put (a + 2) (v15 + (5 : Int32)) (V_X5_seenY x1 (M16.1 (a + 10 + 2 * i145) 3) M16) 28 M16) (fun M17 => L_X2_sense_145 a x1 x2 n (i145 + 1) M17)))))
theorem LW_X2_sense_145 {sh : List SC} {Q : Po} {a : Nat} {x1 : Nat} {x2 : Int32}   (hb1 : MatchAt sh a) (hb2 : RobotAt sh x1)  : ∀ (n i145 : Nat) (M : Mem) (Mz : Mem), i145 + n = 10 → L_X2_sense_145 a x1 x2 n i145 M = some Mz → WP m_X2_sense Q 254 [none, none, none, none, none, none, none, none] [] sh Mz 0 0 → WP m_X2_sense Q 145 [some (.ref a), some (.ref x1), none, some (.ref (a + 2)), none, some (.int (nI i145)), none, none] [] sh M 0 0 := by
  intro n
  induction n with
  | zero =>
    intro i145 M Mz hi h hE
    rw [L_X2_sense_145] at h
    have hz : (10 : Int32) ≤ nI i145 := by
      have q : i145 = 10 := by omega
      rw [q]; exact nI_le (Nat.le_refl _) (by decide)
    have k0 : rf sh a 2 = some (a + 1) := hb1.2.2.2.1
    have k1 : rf sh a 4 = some (a + 4) := hb1.2.2.2.2.2.1
    have k2 : rf sh a 5 = some (a + 7) := hb1.2.2.2.2.2.2.1
    have k3 : rf sh (a + 1) 0 = some (a + 2) := hb1.2.2.2.2.2.2.2.2.2.2.2.1.2.1
    have k4 : kd sh (a + 2) = some (0, 28) := hb1.2.2.2.2.2.2.2.2.2.2.2.1.2.2
    have k5 : kd sh a = some (2 + 7, 0) := hb1.1
    have k6 : rf sh a 3 = some (a + 3) := hb1.2.2.2.2.1
    have k7 : kd sh (a + 3) = some (6, 10) := hb1.2.2.2.2.2.2.2.1
    refine r_iload e_X2_sense_145 rfl ?_
    refine r_aload_n e_X2_sense_147 rfl ?_
    refine r_getR e_X2_sense_148 fl_X2_20 k5 k6 ?_
    refine r_alen (v := (10 : Int32)) e_X2_sense_151 k7 (by decide) rfl ?_
    refine r_icmp_ge e_X2_sense_152 (fun _ => ?_) (fun hh => absurd hz hh)
    refine d_8_0 ?_
    refine d_8_1 ?_
    refine d_8_3 ?_
    refine d_8_5 ?_
    obtain rfl := Option.some.inj h; exact hE
  | succ n ih =>
    intro i145 M Mz hi h hE
    rw [L_X2_sense_145] at h
    have hlt_i145 : i145 < 10 := by omega
    have hcl_i145 : (nI i145).toNatClampNeg = i145 := nI_clamp (by omega)
    have hs : ¬ (10 : Int32) ≤ nI i145 := nI_ge (b := 10) hlt_i145 (by decide)
    have k0 : rf sh a 2 = some (a + 1) := hb1.2.2.2.1
    have k1 : rf sh a 4 = some (a + 4) := hb1.2.2.2.2.2.1
    have k2 : rf sh a 5 = some (a + 7) := hb1.2.2.2.2.2.2.1
    have k3 : rf sh (a + 1) 0 = some (a + 2) := hb1.2.2.2.2.2.2.2.2.2.2.2.1.2.1
    have k4 : kd sh (a + 2) = some (0, 28) := hb1.2.2.2.2.2.2.2.2.2.2.2.1.2.2
    have k5 : kd sh a = some (2 + 7, 0) := hb1.1
    have k6 : rf sh a 3 = some (a + 3) := hb1.2.2.2.2.1
    have k7 : kd sh (a + 3) = some (6, 10) := hb1.2.2.2.2.2.2.2.1
    have k8 : kd sh x1 = some (5 + 7, 0) := hb2.1
    refine r_iload e_X2_sense_145 rfl ?_
    refine r_aload_n e_X2_sense_147 rfl ?_
    refine r_getR e_X2_sense_148 fl_X2_20 k5 k6 ?_
    refine r_alen (v := (10 : Int32)) e_X2_sense_151 k7 (by decide) rfl ?_
    refine r_icmp_ge e_X2_sense_152 (fun hh => absurd hh hs) (fun _ => ?_)
    refine r_aload_n e_X2_sense_155 rfl ?_
    refine r_getR e_X2_sense_156 fl_X2_20 k5 k6 ?_
    refine r_iload e_X2_sense_159 rfl ?_
    refine r_aaload (b := (a + 10 + 2 * i145)) e_X2_sense_161 k7 ⟨by decide, by decide⟩ (vp_in_nI (Nat.lt_of_lt_of_le hlt_i145 (by decide)) (by decide)) (by rw [hcl_i145]; exact (hb1.2.2.2.2.2.2.2.2.1 i145 (Nat.lt_of_lt_of_le hlt_i145 (by decide))).1) ?_
    refine r_getI e_X2_sense_162 fl_X2_207 i3 (show kd sh (a + 10 + 2 * i145) = some (5 + 7, 0) from (hb1.2.2.2.2.2.2.2.2.1 i145 (Nat.lt_of_lt_of_le hlt_i145 (by decide))).2.1) ?_
    refine r_aload_n e_X2_sense_165 rfl ?_
    refine r_getI e_X2_sense_166 fl_X2_207 i3 k8 ?_
    obtain ⟨v12_0, q12, h⟩ := bd1_el h
    suffices j12 : WP m_X2_sense _ 177 [some (.ref a), some (.ref x1), none, some (.ref (a + 2)), none, some (.int (nI i145)), none, none] [.int v12_0] sh M 0 0 by
      refine r_icmp_ne e_X2_sense_169 (fun c11 => ?_) (fun c11 => ?_)
      · rw [if_neg c11] at q12
        refine r_iconst e_X2_sense_176 ic_0 ?_
        subst q12; exact j12
      · rw [if_pos c11] at q12
        refine r_iconst e_X2_sense_172 ic_1 ?_
        refine r_goto e_X2_sense_173 ?_
        subst q12; exact j12
    refine p_istore_8_6 e_X2_sense_177 rfl rfl ?_
    refine r_bipush e_X2_sense_179 bp_8 ?_
    refine r_iload e_X2_sense_181 rfl ?_
    obtain ⟨v14_0, q14, h⟩ := bd1_el h
    suffices j14 : WP m_X2_sense _ 192 [some (.ref a), some (.ref x1), none, some (.ref (a + 2)), none, some (.int (nI i145)), none, none] [.int v14_0, .int (8 : Int32)] sh M 0 0 by
      refine r_if_eq e_X2_sense_183 (fun c13 => ?_) (fun c13 => ?_)
      · rw [if_pos c13] at q14
        refine r_bipush e_X2_sense_190 bp_10 ?_
        refine d_8_6 ?_
        subst q14; exact j14
      · rw [if_neg c13] at q14
        refine r_iconst e_X2_sense_186 ic_0 ?_
        refine r_goto e_X2_sense_187 ?_
        refine d_8_6 ?_
        subst q14; exact j14
    refine r_iadd e_X2_sense_192 ?_
    refine r_aload_n e_X2_sense_193 rfl ?_
    refine r_getR e_X2_sense_194 fl_X2_20 k5 k6 ?_
    refine r_iload e_X2_sense_197 rfl ?_
    refine r_aaload (b := (a + 10 + 2 * i145)) e_X2_sense_199 k7 ⟨by decide, by decide⟩ (vp_in_nI (Nat.lt_of_lt_of_le hlt_i145 (by decide)) (by decide)) (by rw [hcl_i145]; exact (hb1.2.2.2.2.2.2.2.2.1 i145 (Nat.lt_of_lt_of_le hlt_i145 (by decide))).1) ?_
    refine r_getI e_X2_sense_200 fl_X2_210 i0 (show kd sh (a + 10 + 2 * i145) = some (5 + 7, 0) from (hb1.2.2.2.2.2.2.2.2.1 i145 (Nat.lt_of_lt_of_le hlt_i145 (by decide))).2.1) ?_
    refine r_iadd e_X2_sense_203 ?_
    obtain ⟨v15, e15, h⟩ := bd1_el h
    rw [e15]
    refine p_istore_8_7 e_X2_sense_204 rfl rfl ?_
    refine r_aload_n e_X2_sense_206 rfl ?_
    refine r_iload e_X2_sense_207 rfl ?_
    refine r_aload_n e_X2_sense_209 rfl ?_
    refine r_aload_n e_X2_sense_210 rfl ?_
    refine r_getR e_X2_sense_211 fl_X2_20 k5 k6 ?_
    refine r_iload e_X2_sense_214 rfl ?_
    refine r_aaload (b := (a + 10 + 2 * i145)) e_X2_sense_216 k7 ⟨by decide, by decide⟩ (vp_in_nI (Nat.lt_of_lt_of_le hlt_i145 (by decide)) (by decide)) (by rw [hcl_i145]; exact (hb1.2.2.2.2.2.2.2.2.1 i145 (Nat.lt_of_lt_of_le hlt_i145 (by decide))).1) ?_
    refine r_getI e_X2_sense_217 fl_X2_130 i0 (show kd sh (a + 10 + 2 * i145) = some (5 + 7, 0) from (hb1.2.2.2.2.2.2.2.2.1 i145 (Nat.lt_of_lt_of_le hlt_i145 (by decide))).2.1) ?_
    refine cV1v e_X2_sense_220 cl_X2_185 ⟨Nat.le_of_ble_eq_true rfl, Nat.le_of_ble_eq_true rfl⟩ ⟨rfl, rfl⟩ k8 (Nat.le_of_ble_eq_true rfl) (S_X5_seenX hb2) ?_
    refine cSN3u e_X2_sense_223 cl_X2_188 ⟨Nat.le_of_ble_eq_true rfl, Nat.le_of_ble_eq_true rfl⟩ ⟨rfl, rfl⟩  (Nat.le_of_ble_eq_true rfl) (S_X10_put k4 (by decide)) ?_
    obtain ⟨M16, e16, h⟩ := bd1_el h
    rw [e16]
    refine r_aload_n e_X2_sense_226 rfl ?_
    refine r_iload e_X2_sense_227 rfl ?_
    refine r_iconst e_X2_sense_229 ic_5 ?_
    refine r_iadd e_X2_sense_230 ?_
    refine r_aload_n e_X2_sense_231 rfl ?_
    refine r_aload_n e_X2_sense_232 rfl ?_
    refine r_getR e_X2_sense_233 fl_X2_20 k5 k6 ?_
    refine r_iload e_X2_sense_236 rfl ?_
    refine r_aaload (b := (a + 10 + 2 * i145)) e_X2_sense_238 k7 ⟨by decide, by decide⟩ (vp_in_nI (Nat.lt_of_lt_of_le hlt_i145 (by decide)) (by decide)) (by rw [hcl_i145]; exact (hb1.2.2.2.2.2.2.2.2.1 i145 (Nat.lt_of_lt_of_le hlt_i145 (by decide))).1) ?_
    refine r_getI e_X2_sense_239 fl_X2_131 i0 (show kd sh (a + 10 + 2 * i145) = some (5 + 7, 0) from (hb1.2.2.2.2.2.2.2.2.1 i145 (Nat.lt_of_lt_of_le hlt_i145 (by decide))).2.1) ?_
    refine cV1v e_X2_sense_242 cl_X2_195 ⟨Nat.le_of_ble_eq_true rfl, Nat.le_of_ble_eq_true rfl⟩ ⟨rfl, rfl⟩ k8 (Nat.le_of_ble_eq_true rfl) (S_X5_seenY hb2) ?_
    refine cSN3u e_X2_sense_245 cl_X2_188 ⟨Nat.le_of_ble_eq_true rfl, Nat.le_of_ble_eq_true rfl⟩ ⟨rfl, rfl⟩  (Nat.le_of_ble_eq_true rfl) (S_X10_put k4 (by decide)) ?_
    obtain ⟨M17, e17, h⟩ := bd1_el h
    rw [e17]
    refine p_iinc_8_5 e_X2_sense_248 rfl ic_1 rfl ?_
    rw [nI_1 i145]
    refine r_goto e_X2_sense_251 ?_
    refine d_8_7 ?_
    exact ih _  _ _ (by omega) h hE
def R_X2_sense (a : Nat) (x1 : Nat) (x2 : Int32) (M : Mem) : Option (Mem) := bd1 (U_X10_put (a + 2) (0 : Int32) (V_X5_seenX x1 (M.1 x1 10) M) 28 M) (fun M1 => bd1 (U_X10_put (a + 2) (1 : Int32) (V_X5_seenY x1 (M1.1 x1 11) M1) 28 M1) (fun M2 => bd1 (U_X10_put (a + 2) (2 : Int32) (V_X5_seenX x1 (M2.1 x1 2) M2) 28 M2) (fun M3 => bd1 (U_X10_put (a + 2) (3 : Int32) (V_X5_seenY x1 (M3.1 x1 3) M3) 28 M3) (fun M4 => bd1 (U_X10_put (a + 2) (4 : Int32) (V_X2_holding a x2 M4) 28 M4) (fun M5 => bd1 (U_X10_put (a + 2) (5 : Int32) (M5.1 a 7) 28 M5) (fun M6 => bd1 ((M6.1 (a + 7) 0) - (M6.1 (a + 7) 1)) (fun v7 => bd1 (if (M6.1 x1 1) = 0 then v7 else (-v7)) (fun v9_0 => bd1 (U_X10_put (a + 2) (7 : Int32) (V_X10_distance ((U_X10_put (a + 2) (6 : Int32) v9_0 28 M6).1 x1 2) ((U_X10_put (a + 2) (6 : Int32) v9_0 28 M6).1 x1 3) ((U_X10_put (a + 2) (6 : Int32) v9_0 28 M6).1 x1 10) ((U_X10_put (a + 2) (6 : Int32) v9_0 28 M6).1 x1 11) (U_X10_put (a + 2) (6 : Int32) v9_0 28 M6)) 28 (U_X10_put (a + 2) (6 : Int32) v9_0 28 M6)) (fun M10 => bnd1 (L_X2_sense_145 a x1 x2 10 0 M10) (fun M18 => some M18))))))))))
theorem S_X2_sense {sh : List SC} {M : Mem} {a : Nat} {x1 : Nat} {x2 : Int32}  {M' : Mem} (hb1 : MatchAt sh a) (hb2 : RobotAt sh x1)  (h : R_X2_sense a x1 x2 M = some M') : Gu m_X2_sense [.ref a, .ref x1, .int x2] sh M M' := by
  refine Sp.of (ls := [some (.ref a), some (.ref x1), some (.int x2), none, none, none, none, none]) (by decide +kernel) (Nat.le_of_ble_eq_true rfl) rfl ?_
  have k0 : kd sh a = some (2 + 7, 0) := hb1.1
  have k1 : rf sh a 2 = some (a + 1) := hb1.2.2.2.1
  have k2 : kd sh (a + 1) = some (6 + 7, 0) := hb1.2.2.2.2.2.2.2.2.2.2.2.1.1
  have k3 : rf sh (a + 1) 0 = some (a + 2) := hb1.2.2.2.2.2.2.2.2.2.2.2.1.2.1
  have k4 : kd sh (a + 2) = some (0, 28) := hb1.2.2.2.2.2.2.2.2.2.2.2.1.2.2
  have k5 : kd sh x1 = some (5 + 7, 0) := hb2.1
  have k6 : rf sh a 5 = some (a + 7) := hb1.2.2.2.2.2.2.1
  have k7 : kd sh (a + 7) = some (7 + 7, 0) := hb1.2.2.2.2.2.2.2.2.2.2.1.1
  unfold R_X2_sense at h
  refine r_aload_n e_X2_sense_0 rfl ?_
  refine r_getR e_X2_sense_1 fl_X2_12 k0 k1 ?_
  refine r_getR e_X2_sense_4 fl_X2_178 k2 k3 ?_
  refine p_astore_n_8_3 e_X2_sense_7 rfl rfl ?_
  refine r_aload_n e_X2_sense_8 rfl ?_
  refine r_iconst e_X2_sense_9 ic_0 ?_
  refine r_aload_n e_X2_sense_10 rfl ?_
  refine r_aload_n e_X2_sense_11 rfl ?_
  refine r_getI e_X2_sense_12 fl_X2_182 i0 k5 ?_
  refine cV1v e_X2_sense_15 cl_X2_185 ⟨Nat.le_of_ble_eq_true rfl, Nat.le_of_ble_eq_true rfl⟩ ⟨rfl, rfl⟩ k5 (Nat.le_of_ble_eq_true rfl) (S_X5_seenX hb2) ?_
  refine cSN3u e_X2_sense_18 cl_X2_188 ⟨Nat.le_of_ble_eq_true rfl, Nat.le_of_ble_eq_true rfl⟩ ⟨rfl, rfl⟩  (Nat.le_of_ble_eq_true rfl) (S_X10_put k4 (by decide)) ?_
  obtain ⟨M1, e1, h⟩ := bd1_el h
  rw [e1]
  refine r_aload_n e_X2_sense_21 rfl ?_
  refine r_iconst e_X2_sense_22 ic_1 ?_
  refine r_aload_n e_X2_sense_23 rfl ?_
  refine r_aload_n e_X2_sense_24 rfl ?_
  refine r_getI e_X2_sense_25 fl_X2_192 i0 k5 ?_
  refine cV1v e_X2_sense_28 cl_X2_195 ⟨Nat.le_of_ble_eq_true rfl, Nat.le_of_ble_eq_true rfl⟩ ⟨rfl, rfl⟩ k5 (Nat.le_of_ble_eq_true rfl) (S_X5_seenY hb2) ?_
  refine cSN3u e_X2_sense_31 cl_X2_188 ⟨Nat.le_of_ble_eq_true rfl, Nat.le_of_ble_eq_true rfl⟩ ⟨rfl, rfl⟩  (Nat.le_of_ble_eq_true rfl) (S_X10_put k4 (by decide)) ?_
  obtain ⟨M2, e2, h⟩ := bd1_el h
  rw [e2]
  refine r_aload_n e_X2_sense_34 rfl ?_
  refine r_iconst e_X2_sense_35 ic_2 ?_
  refine r_aload_n e_X2_sense_36 rfl ?_
  refine r_aload_n e_X2_sense_37 rfl ?_
  refine r_getI e_X2_sense_38 fl_X2_130 i0 k5 ?_
  refine cV1v e_X2_sense_41 cl_X2_185 ⟨Nat.le_of_ble_eq_true rfl, Nat.le_of_ble_eq_true rfl⟩ ⟨rfl, rfl⟩ k5 (Nat.le_of_ble_eq_true rfl) (S_X5_seenX hb2) ?_
  refine cSN3u e_X2_sense_44 cl_X2_188 ⟨Nat.le_of_ble_eq_true rfl, Nat.le_of_ble_eq_true rfl⟩ ⟨rfl, rfl⟩  (Nat.le_of_ble_eq_true rfl) (S_X10_put k4 (by decide)) ?_
  obtain ⟨M3, e3, h⟩ := bd1_el h
  rw [e3]
  refine r_aload_n e_X2_sense_47 rfl ?_
  refine r_iconst e_X2_sense_48 ic_3 ?_
  refine r_aload_n e_X2_sense_49 rfl ?_
  refine r_aload_n e_X2_sense_50 rfl ?_
  refine r_getI e_X2_sense_51 fl_X2_131 i0 k5 ?_
  refine cV1v e_X2_sense_54 cl_X2_195 ⟨Nat.le_of_ble_eq_true rfl, Nat.le_of_ble_eq_true rfl⟩ ⟨rfl, rfl⟩ k5 (Nat.le_of_ble_eq_true rfl) (S_X5_seenY hb2) ?_
  refine cSN3u e_X2_sense_57 cl_X2_188 ⟨Nat.le_of_ble_eq_true rfl, Nat.le_of_ble_eq_true rfl⟩ ⟨rfl, rfl⟩  (Nat.le_of_ble_eq_true rfl) (S_X10_put k4 (by decide)) ?_
  obtain ⟨M4, e4, h⟩ := bd1_el h
  rw [e4]
  refine r_aload_n e_X2_sense_60 rfl ?_
  refine r_iconst e_X2_sense_61 ic_4 ?_
  refine r_aload_n e_X2_sense_62 rfl ?_
  refine r_iload_n e_X2_sense_63 rfl ?_
  refine cV1v e_X2_sense_64 cl_X2_198 ⟨Nat.le_of_ble_eq_true rfl, Nat.le_of_ble_eq_true rfl⟩ ⟨rfl, rfl⟩ k0 (Nat.le_of_ble_eq_true rfl) (S_X2_holding hb1) ?_
  refine cSN3u e_X2_sense_67 cl_X2_188 ⟨Nat.le_of_ble_eq_true rfl, Nat.le_of_ble_eq_true rfl⟩ ⟨rfl, rfl⟩  (Nat.le_of_ble_eq_true rfl) (S_X10_put k4 (by decide)) ?_
  obtain ⟨M5, e5, h⟩ := bd1_el h
  rw [e5]
  refine r_aload_n e_X2_sense_70 rfl ?_
  refine r_iconst e_X2_sense_71 ic_5 ?_
  refine r_aload_n e_X2_sense_72 rfl ?_
  refine r_getI e_X2_sense_73 fl_X2_42 i0 k0 ?_
  refine cSN3u e_X2_sense_76 cl_X2_188 ⟨Nat.le_of_ble_eq_true rfl, Nat.le_of_ble_eq_true rfl⟩ ⟨rfl, rfl⟩  (Nat.le_of_ble_eq_true rfl) (S_X10_put k4 (by decide)) ?_
  obtain ⟨M6, e6, h⟩ := bd1_el h
  rw [e6]
  refine r_aload_n e_X2_sense_79 rfl ?_
  refine r_getR e_X2_sense_80 fl_X2_34 k0 k6 ?_
  refine r_getI e_X2_sense_83 fl_X2_201 i0 k7 ?_
  refine r_aload_n e_X2_sense_86 rfl ?_
  refine r_getR e_X2_sense_87 fl_X2_34 k0 k6 ?_
  refine r_getI e_X2_sense_90 fl_X2_204 i0 k7 ?_
  refine r_isub e_X2_sense_93 ?_
  obtain ⟨v7, e7, h⟩ := bd1_el h
  rw [e7]
  refine p_istore_8_4 e_X2_sense_94 rfl rfl ?_
  refine r_aload_n e_X2_sense_96 rfl ?_
  refine r_bipush e_X2_sense_97 bp_6 ?_
  refine r_aload_n e_X2_sense_99 rfl ?_
  refine r_getI e_X2_sense_100 fl_X2_207 i3 k5 ?_
  obtain ⟨v9_0, q9, h⟩ := bd1_el h
  suffices j9 : WP m_X2_sense _ 114 [some (.ref a), some (.ref x1), none, some (.ref (a + 2)), none, none, none, none] [.int v9_0, .int (6 : Int32), .ref (a + 2)] sh M6 0 0 by
    refine r_if_eq e_X2_sense_103 (fun c8 => ?_) (fun c8 => ?_)
    · rw [if_pos c8] at q9
      refine r_iload e_X2_sense_112 rfl ?_
      refine d_8_2 ?_
      refine d_8_4 ?_
      subst q9; exact j9
    · rw [if_neg c8] at q9
      refine r_iload e_X2_sense_106 rfl ?_
      refine r_ineg e_X2_sense_108 ?_
      refine r_goto e_X2_sense_109 ?_
      refine d_8_2 ?_
      refine d_8_4 ?_
      subst q9; exact j9
  refine cSN3u e_X2_sense_114 cl_X2_188 ⟨Nat.le_of_ble_eq_true rfl, Nat.le_of_ble_eq_true rfl⟩ ⟨rfl, rfl⟩  (Nat.le_of_ble_eq_true rfl) (S_X10_put k4 (by decide)) ?_
  refine r_aload_n e_X2_sense_117 rfl ?_
  refine r_bipush e_X2_sense_118 bp_7 ?_
  refine r_aload_n e_X2_sense_120 rfl ?_
  refine r_getI e_X2_sense_121 fl_X2_130 i0 k5 ?_
  refine r_aload_n e_X2_sense_124 rfl ?_
  refine r_getI e_X2_sense_125 fl_X2_131 i0 k5 ?_
  refine r_aload_n e_X2_sense_128 rfl ?_
  refine r_getI e_X2_sense_129 fl_X2_182 i0 k5 ?_
  refine r_aload_n e_X2_sense_132 rfl ?_
  refine r_getI e_X2_sense_133 fl_X2_192 i0 k5 ?_
  refine cSN4v e_X2_sense_136 cl_X2_144 ⟨Nat.le_of_ble_eq_true rfl, Nat.le_of_ble_eq_true rfl⟩ ⟨rfl, rfl⟩  (Nat.le_of_ble_eq_true rfl) (S_X10_distance ) ?_
  refine cSN3u e_X2_sense_139 cl_X2_188 ⟨Nat.le_of_ble_eq_true rfl, Nat.le_of_ble_eq_true rfl⟩ ⟨rfl, rfl⟩  (Nat.le_of_ble_eq_true rfl) (S_X10_put k4 (by decide)) ?_
  obtain ⟨M10, e10, h⟩ := bd1_el h
  rw [e10]
  refine r_iconst e_X2_sense_142 ic_0 ?_
  refine p_istore_8_5 e_X2_sense_143 rfl rfl ?_
  show WP m_X2_sense _ 145 [some (.ref a), some (.ref x1), none, some (.ref (a + 2)), none, some (.int (nI 0)), none, none] [] sh M10 0 0
  obtain ⟨M18, w18, h⟩ := bnd1_el h
  refine LW_X2_sense_145 hb1 hb2 10 0 _ _ (by omega) w18 ?_
  refine r_return e_X2_sense_254 rfl ⟨rfl, rfl⟩ ?_
  obtain rfl := Option.some.inj h; exact ⟨rfl, rfl, rfl⟩
def L_X6_work_28 (a : Nat) (x1 : Nat) (x2 : Int32) (x3 : Nat) (n1 : Nat) (w6 : Int32) : Nat → Int32 → Int32 → Int32 → Mem → Option (Int32 × Int32 × Mem)
  | 0, _, _, _, _ => none
  | n + 1, u4, u5, u7, M => if w6 ≤ u7 then (some (u4, u5, M)) else (if (80 : Int32) < (M.1 a 1) then (some (u4, u5, M)) else (bd1 (V_X10_at (x1 + 13) u7 400 (setI M a 1 ((M.1 a 1) + (1 : Int32)))) (fun v5 => bd1 (V_X10_at (x1 + 14) u7 400 (setI M a 1 ((M.1 a 1) + (1 : Int32)))) (fun v6 => bd1 (if v5 = (1 : Int32) then (bd1 (V_X10_at x3 v6 n1 (setI M a 1 ((M.1 a 1) + (1 : Int32)))) (fun v11 => v11)) else (if v5 = (2 : Int32) then (bd1 (V_X10_at (a + 1) v6 28 (setI M a 1 ((M.1 a 1) + (1 : Int32)))) (fun v10 => v10)) else v6)) (fun v8_0 => bd1 (v8_0 * (V_X10_at (x1 + 12) u7 400 (setI M a 1 ((M.1 a 1) + (1 : Int32))))) (fun v12 => bd1 (V_X10_at (x1 + 11) u7 400 (setI M a 1 ((M.1 a 1) + (1 : Int32)))) (fun v13 => bd2 (if v13 = (34 : Int32) then (u4, (u5 * v12)) else (bd1 (if v13 = (33 : Int32) then (-v12) else v12) (fun v17_0 => ((u4 + u5), v17_0)))) (fun v15_0 v15_1 => L_X6_work_28 a x1 x2 x3 n1 w6 n v15_0 v15_1 (u7 + 1) (setI M a 1 ((M.1 a 1) + (1 : Int32)))))))))))
theorem LW_X6_work_28 {sh : List SC} {Q : Po} {a : Nat} {x1 : Nat} {x2 : Int32} {x3 : Nat} {n1 : Nat} {w6 : Int32} (hb1 : RunnerAt sh a) (hb2 : ProgramAt sh x1) (g1 : kd sh x3 = some (0, n1)) (g2 : n1 < 2 ^ 31) : ∀ (n : Nat) (u4 : Int32) (u5 : Int32) (u7 : Int32) (M : Mem) (z4 : Int32) (z5 : Int32) (Mz : Mem), L_X6_work_28 a x1 x2 x3 n1 w6 n u4 u5 u7 M = some (z4, z5, Mz) → WP m_X6_work Q 182 [none, none, none, none, some (.int z4), some (.int z5), none, none, none, none, none] [] sh Mz 0 0 → WP m_X6_work Q 28 [some (.ref a), some (.ref x1), none, some (.ref x3), some (.int u4), some (.int u5), some (.int w6), some (.int u7), none, none, none] [] sh M 0 0 := by
  intro n
  induction n with
  | zero =>
    intro u4 u5 u7 M z4 z5 Mz h hE
    rw [L_X6_work_28] at h
    cases h
  | succ n ih =>
    intro u4 u5 u7 M z4 z5 Mz h hE
    rw [L_X6_work_28] at h
    have k0 : kd sh a = some (6 + 7, 0) := hb1.1
    have k1 : kd sh x1 = some (3 + 7, 0) := hb2.1
    have k2 : rf sh x1 18 = some (x1 + 13) := hb2.2.2.2.2.2.2.2.2.2.2.2.2.2.1
    have k3 : kd sh (x1 + 13) = some (0, 400) := hb2.2.2.2.2.2.2.2.2.2.2.2.2.2.2.2.2.2.2.2.2.2.2.2.2.2.2.2.1
    have k4 : rf sh x1 19 = some (x1 + 14) := hb2.2.2.2.2.2.2.2.2.2.2.2.2.2.2.1
    have k5 : kd sh (x1 + 14) = some (0, 400) := hb2.2.2.2.2.2.2.2.2.2.2.2.2.2.2.2.2.2.2.2.2.2.2.2.2.2.2.2.2
    have k6 : rf sh a 0 = some (a + 1) := hb1.2.1
    have k7 : kd sh (a + 1) = some (0, 28) := hb1.2.2
    have k8 : rf sh x1 17 = some (x1 + 12) := hb2.2.2.2.2.2.2.2.2.2.2.2.2.1
    have k9 : kd sh (x1 + 12) = some (0, 400) := hb2.2.2.2.2.2.2.2.2.2.2.2.2.2.2.2.2.2.2.2.2.2.2.2.2.2.2.1
    have k10 : rf sh x1 16 = some (x1 + 11) := hb2.2.2.2.2.2.2.2.2.2.2.2.1
    have k11 : kd sh (x1 + 11) = some (0, 400) := hb2.2.2.2.2.2.2.2.2.2.2.2.2.2.2.2.2.2.2.2.2.2.2.2.2.2.1
    refine r_iload e_X6_work_28 rfl ?_
    refine r_iload e_X6_work_30 rfl ?_
    refine r_icmp_ge e_X6_work_32 (fun c3 => ?_) (fun c3 => ?_)
    · rw [if_pos c3] at h
      refine d_11_0 ?_
      refine d_11_1 ?_
      refine d_11_3 ?_
      refine d_11_6 ?_
      refine d_11_7 ?_
      obtain ⟨rfl, rfl, rfl⟩ := ps3 h; exact hE
    · rw [if_neg c3] at h
      refine r_aload_n e_X6_work_35 rfl ?_
      refine r_getI e_X6_work_36 fl_X6_15 i0 k0 ?_
      refine r_bipush e_X6_work_39 bp_80 ?_
      refine r_icmp_gt e_X6_work_41 (fun c4 => ?_) (fun c4 => ?_)
      · rw [if_pos c4] at h
        refine d_11_0 ?_
        refine d_11_1 ?_
        refine d_11_3 ?_
        refine d_11_6 ?_
        refine d_11_7 ?_
        obtain ⟨rfl, rfl, rfl⟩ := ps3 h; exact hE
      · rw [if_neg c4] at h
        refine r_aload_n e_X6_work_44 rfl ?_
        refine r_dup e_X6_work_45 rfl ?_
        refine r_getI e_X6_work_46 fl_X6_15 i0 k0 ?_
        refine r_iconst e_X6_work_49 ic_1 ?_
        refine r_iadd e_X6_work_50 ?_
        refine r_putI e_X6_work_51 fl_X6_15 k0 ?_
        refine r_aload_n e_X6_work_54 rfl ?_
        refine r_getR e_X6_work_55 fl_X6_111 k1 k2 ?_
        refine r_iload e_X6_work_58 rfl ?_
        refine cSN2v e_X6_work_60 cl_X6_32 ⟨Nat.le_of_ble_eq_true rfl, Nat.le_of_ble_eq_true rfl⟩ ⟨rfl, rfl⟩  (Nat.le_of_ble_eq_true rfl) (S_X10_at k3 (by decide)) ?_
        obtain ⟨v5, e5, h⟩ := bd1_el h
        rw [e5]
        refine p_istore_11_8 e_X6_work_63 rfl rfl ?_
        refine r_aload_n e_X6_work_65 rfl ?_
        refine r_getR e_X6_work_66 fl_X6_114 k1 k4 ?_
        refine r_iload e_X6_work_69 rfl ?_
        refine cSN2v e_X6_work_71 cl_X6_32 ⟨Nat.le_of_ble_eq_true rfl, Nat.le_of_ble_eq_true rfl⟩ ⟨rfl, rfl⟩  (Nat.le_of_ble_eq_true rfl) (S_X10_at k5 (by decide)) ?_
        obtain ⟨v6, e6, h⟩ := bd1_el h
        rw [e6]
        refine p_istore_11_9 e_X6_work_74 rfl rfl ?_
        refine r_iload e_X6_work_76 rfl ?_
        refine r_iconst e_X6_work_78 ic_1 ?_
        obtain ⟨v8_0, q8, h⟩ := bd1_el h
        suffices j8 : WP m_X6_work _ 110 [some (.ref a), some (.ref x1), none, some (.ref x3), some (.int u4), some (.int u5), some (.int w6), some (.int u7), none, some (.int v8_0), none] [] sh (setI M a 1 ((M.1 a 1) + (1 : Int32))) 0 0 by
          refine r_icmp_ne e_X6_work_79 (fun c7 => ?_) (fun c7 => ?_)
          · rw [if_neg c7] at q8
            refine r_iload e_X6_work_93 rfl ?_
            refine r_iconst e_X6_work_95 ic_2 ?_
            refine r_icmp_ne e_X6_work_96 (fun c9 => ?_) (fun c9 => ?_)
            · rw [if_neg c9] at q8
              refine d_11_8 ?_
              subst q8; exact j8
            · rw [if_pos c9] at q8
              refine r_aload_n e_X6_work_99 rfl ?_
              refine r_getR e_X6_work_100 fl_X6_11 k0 k6 ?_
              refine r_iload e_X6_work_103 rfl ?_
              refine cSN2v e_X6_work_105 cl_X6_32 ⟨Nat.le_of_ble_eq_true rfl, Nat.le_of_ble_eq_true rfl⟩ ⟨rfl, rfl⟩  (Nat.le_of_ble_eq_true rfl) (S_X10_at k7 (by decide)) ?_
              obtain ⟨v10, e10, q8⟩ := bd1_el q8
              rw [e10]
              refine p_istore_11_9 e_X6_work_108 rfl rfl ?_
              refine d_11_8 ?_
              subst q8; exact j8
          · rw [if_pos c7] at q8
            refine r_aload_n e_X6_work_82 rfl ?_
            refine r_iload e_X6_work_83 rfl ?_
            refine cSN2v e_X6_work_85 cl_X6_32 ⟨Nat.le_of_ble_eq_true rfl, Nat.le_of_ble_eq_true rfl⟩ ⟨rfl, rfl⟩  (Nat.le_of_ble_eq_true rfl) (S_X10_at g1 (by with_reducible assumption)) ?_
            obtain ⟨v11, e11, q8⟩ := bd1_el q8
            rw [e11]
            refine p_istore_11_9 e_X6_work_88 rfl rfl ?_
            refine r_goto e_X6_work_90 ?_
            refine d_11_8 ?_
            subst q8; exact j8
        refine r_iload e_X6_work_110 rfl ?_
        refine r_aload_n e_X6_work_112 rfl ?_
        refine r_getR e_X6_work_113 fl_X6_117 k1 k8 ?_
        refine r_iload e_X6_work_116 rfl ?_
        refine cSN2v e_X6_work_118 cl_X6_32 ⟨Nat.le_of_ble_eq_true rfl, Nat.le_of_ble_eq_true rfl⟩ ⟨rfl, rfl⟩  (Nat.le_of_ble_eq_true rfl) (S_X10_at k9 (by decide)) ?_
        refine r_imul e_X6_work_121 ?_
        obtain ⟨v12, e12, h⟩ := bd1_el h
        rw [e12]
        refine p_istore_11_9 e_X6_work_122 rfl rfl ?_
        refine r_aload_n e_X6_work_124 rfl ?_
        refine r_getR e_X6_work_125 fl_X6_120 k1 k10 ?_
        refine r_iload e_X6_work_128 rfl ?_
        refine cSN2v e_X6_work_130 cl_X6_32 ⟨Nat.le_of_ble_eq_true rfl, Nat.le_of_ble_eq_true rfl⟩ ⟨rfl, rfl⟩  (Nat.le_of_ble_eq_true rfl) (S_X10_at k11 (by decide)) ?_
        obtain ⟨v13, e13, h⟩ := bd1_el h
        rw [e13]
        refine p_istore_11_10 e_X6_work_133 rfl rfl ?_
        refine r_iload e_X6_work_135 rfl ?_
        refine r_bipush e_X6_work_137 bp_34 ?_
        obtain ⟨v15_0, v15_1, q15, h⟩ := bd2_el h
        suffices j15 : WP m_X6_work _ 176 [some (.ref a), some (.ref x1), none, some (.ref x3), some (.int v15_0), some (.int v15_1), some (.int w6), some (.int u7), none, none, none] [] sh (setI M a 1 ((M.1 a 1) + (1 : Int32))) 0 0 by
          refine r_icmp_ne e_X6_work_139 (fun c14 => ?_) (fun c14 => ?_)
          · rw [if_neg c14] at q15
            refine r_iload e_X6_work_152 rfl ?_
            refine r_iload e_X6_work_154 rfl ?_
            refine r_iadd e_X6_work_156 ?_
            refine p_istore_11_4 e_X6_work_157 rfl rfl ?_
            refine r_iload e_X6_work_159 rfl ?_
            refine r_bipush e_X6_work_161 bp_33 ?_
            obtain ⟨v17_0, q17, q15⟩ := bd1_el q15
            suffices j17 : WP m_X6_work _ 174 [some (.ref a), some (.ref x1), none, some (.ref x3), some (.int (u4 + u5)), none, some (.int w6), some (.int u7), none, none, none] [.int v17_0] sh (setI M a 1 ((M.1 a 1) + (1 : Int32))) 0 0 by
              refine r_icmp_ne e_X6_work_163 (fun c16 => ?_) (fun c16 => ?_)
              · rw [if_neg c16] at q17
                refine r_iload e_X6_work_172 rfl ?_
                refine d_11_5 ?_
                refine d_11_9 ?_
                refine d_11_10 ?_
                subst q17; exact j17
              · rw [if_pos c16] at q17
                refine r_iload e_X6_work_166 rfl ?_
                refine r_ineg e_X6_work_168 ?_
                refine r_goto e_X6_work_169 ?_
                refine d_11_5 ?_
                refine d_11_9 ?_
                refine d_11_10 ?_
                subst q17; exact j17
            refine p_istore_11_5 e_X6_work_174 rfl rfl ?_
            obtain ⟨rfl, rfl⟩ := pe2 q15; exact j15
          · rw [if_pos c14] at q15
            refine r_iload e_X6_work_142 rfl ?_
            refine r_iload e_X6_work_144 rfl ?_
            refine r_imul e_X6_work_146 ?_
            refine p_istore_11_5 e_X6_work_147 rfl rfl ?_
            refine r_goto e_X6_work_149 ?_
            refine d_11_9 ?_
            refine d_11_10 ?_
            obtain ⟨rfl, rfl⟩ := pe2 q15; exact j15
        refine p_iinc_11_7 e_X6_work_176 rfl ic_1 rfl ?_
        refine r_goto e_X6_work_179 ?_
        exact ih _ _ _ _ _ _ _ h hE
def R_X6_work (a : Nat) (x1 : Nat) (x2 : Int32) (x3 : Nat) (n1 : Nat) (M : Mem) : Option (Int32 × Mem) := bd1 (V_X10_at (x1 + 10) (x2 + (1 : Int32)) 401 M) (fun v1 => bd1 (V_X10_at (x1 + 10) x2 401 M) (fun v2 => bnd3 (L_X6_work_28 a x1 x2 x3 n1 v1 FUEL (0 : Int32) (0 : Int32) v2 M) (fun v18_0 v18_1 M18 => some ((v18_0 + v18_1), M18))))
theorem S_X6_work {sh : List SC} {M : Mem} {a : Nat} {x1 : Nat} {x2 : Int32} {x3 : Nat} {n1 : Nat} {v' : Int32} {M' : Mem} (hb1 : RunnerAt sh a) (hb2 : ProgramAt sh x1) (g1 : kd sh x3 = some (0, n1)) (g2 : n1 < 2 ^ 31) (h : R_X6_work a x1 x2 x3 n1 M = some (v', M')) : Gv m_X6_work [.ref a, .ref x1, .int x2, .ref x3] sh M (.int v') M' := by
  refine Sp.of (ls := [some (.ref a), some (.ref x1), some (.int x2), some (.ref x3), none, none, none, none, none, none, none]) (by decide +kernel) (Nat.le_of_ble_eq_true rfl) rfl ?_
  have k0 : kd sh x1 = some (3 + 7, 0) := hb2.1
  have k1 : rf sh x1 14 = some (x1 + 10) := hb2.2.2.2.2.2.2.2.2.2.2.1
  have k2 : kd sh (x1 + 10) = some (0, 401) := hb2.2.2.2.2.2.2.2.2.2.2.2.2.2.2.2.2.2.2.2.2.2.2.2.2.1
  unfold R_X6_work at h
  refine r_iconst e_X6_work_0 ic_0 ?_
  refine p_istore_11_4 e_X6_work_1 rfl rfl ?_
  refine r_iconst e_X6_work_3 ic_0 ?_
  refine p_istore_11_5 e_X6_work_4 rfl rfl ?_
  refine r_aload_n e_X6_work_6 rfl ?_
  refine r_getR e_X6_work_7 fl_X6_108 k0 k1 ?_
  refine r_iload_n e_X6_work_10 rfl ?_
  refine r_iconst e_X6_work_11 ic_1 ?_
  refine r_iadd e_X6_work_12 ?_
  refine cSN2v e_X6_work_13 cl_X6_32 ⟨Nat.le_of_ble_eq_true rfl, Nat.le_of_ble_eq_true rfl⟩ ⟨rfl, rfl⟩  (Nat.le_of_ble_eq_true rfl) (S_X10_at k2 (by decide)) ?_
  obtain ⟨v1, e1, h⟩ := bd1_el h
  rw [e1]
  refine p_istore_11_6 e_X6_work_16 rfl rfl ?_
  refine r_aload_n e_X6_work_18 rfl ?_
  refine r_getR e_X6_work_19 fl_X6_108 k0 k1 ?_
  refine r_iload_n e_X6_work_22 rfl ?_
  refine cSN2v e_X6_work_23 cl_X6_32 ⟨Nat.le_of_ble_eq_true rfl, Nat.le_of_ble_eq_true rfl⟩ ⟨rfl, rfl⟩  (Nat.le_of_ble_eq_true rfl) (S_X10_at k2 (by decide)) ?_
  obtain ⟨v2, e2, h⟩ := bd1_el h
  rw [e2]
  refine p_istore_11_7 e_X6_work_26 rfl rfl ?_
  refine d_11_2 ?_
  obtain ⟨v18_0, v18_1, M18, w18, h⟩ := bnd3_el h
  refine LW_X6_work_28 hb1 hb2 g1 g2 _ _ _ _ _ _ _ _ w18 ?_
  refine r_iload e_X6_work_182 rfl ?_
  refine r_iload e_X6_work_184 rfl ?_
  refine r_iadd e_X6_work_186 ?_
  refine r_ireturn e_X6_work_187 rfl ⟨rfl, rfl⟩ ?_
  obtain ⟨rfl, rfl⟩ := ps2 h; exact ⟨rfl, rfl, rfl⟩
def R_X6_command (a : Nat) (x1 : Nat) (x2 : Int32) (x3 : Int32) (x4 : Nat) (M : Mem) : Option (Mem) := if x2 = (8 : Int32) then (bd1 (U_X5_decide x4 (0 : Int32) (0 : Int32) (0 : Int32) (0 : Int32) M) (fun M15 => some M15)) else (bnd2 (R_X6_work a x1 x3 (x4 + 1) 4 M) (fun v2 M2 => bnd2 (R_X6_work a x1 (x3 + (1 : Int32)) (x4 + 1) 4 M2) (fun v3 M3 => bnd2 (if x2 = (7 : Int32) then (bnd2 (R_X6_work a x1 (x3 + (2 : Int32)) (x4 + 1) 4 M3) (fun v7 M7 => (some (v7, M7)))) else (some ((1 : Int32), M3))) (fun v6_0 M6 => bd2 (if x2 = (6 : Int32) then (bd1 (v2 - (V_X5_seenX x4 (M6.1 x4 2) M6)) (fun v10 => bd1 (v3 - (V_X5_seenY x4 (M6.1 x4 3) M6)) (fun v11 => (v10, v11)))) else (v2, v3)) (fun v9_0 v9_1 => bd1 (if x2 = (7 : Int32) then (2 : Int32) else (1 : Int32)) (fun v13_0 => bd1 (U_X5_decide x4 v13_0 (V_X10_cut v9_0 (-1 : Int32) (1 : Int32) M6) (V_X10_cut v9_1 (-1 : Int32) (1 : Int32) M6) (V_X10_cut v6_0 (1 : Int32) (9 : Int32) M6) M6) (fun M14 => some M14)))))))
theorem S_X6_command {sh : List SC} {M : Mem} {a : Nat} {x1 : Nat} {x2 : Int32} {x3 : Int32} {x4 : Nat}  {M' : Mem} (hb1 : RunnerAt sh a) (hb2 : ProgramAt sh x1) (hb3 : RobotAt sh x4)  (h : R_X6_command a x1 x2 x3 x4 M = some M') : Gu m_X6_command [.ref a, .ref x1, .int x2, .int x3, .ref x4] sh M M' := by
  refine Sp.of (ls := [some (.ref a), some (.ref x1), some (.int x2), some (.int x3), some (.ref x4), none, none, none, none]) (by decide +kernel) (Nat.le_of_ble_eq_true rfl) rfl ?_
  have k0 : kd sh x4 = some (5 + 7, 0) := hb3.1
  have k1 : rf sh x4 9 = some (x4 + 1) := hb3.2.1
  have k2 : kd sh (x4 + 1) = some (0, 4) := hb3.2.2
  have k3 : kd sh a = some (6 + 7, 0) := hb1.1
  unfold R_X6_command at h
  refine r_iload_n e_X6_command_0 rfl ?_
  refine r_bipush e_X6_command_1 bp_8 ?_
  refine r_icmp_ne e_X6_command_3 (fun c1 => ?_) (fun c1 => ?_)
  · rw [if_neg c1] at h
    refine r_aload_n e_X6_command_16 rfl ?_
    refine r_aload_n e_X6_command_17 rfl ?_
    refine r_iload_n e_X6_command_18 rfl ?_
    refine r_aload e_X6_command_19 rfl ?_
    refine r_getR e_X6_command_21 fl_X6_36 k0 k1 ?_
    obtain ⟨v2, M2, w2, h⟩ := bnd2_el h
    refine cV3v e_X6_command_24 cl_X6_61 ⟨Nat.le_of_ble_eq_true rfl, Nat.le_of_ble_eq_true rfl⟩ ⟨rfl, rfl⟩ k3 (Nat.le_of_ble_eq_true rfl) (S_X6_work hb1 hb2 k2 (by decide) w2) ?_
    refine p_istore_9_5 e_X6_command_27 rfl rfl ?_
    refine r_aload_n e_X6_command_29 rfl ?_
    refine r_aload_n e_X6_command_30 rfl ?_
    refine r_iload_n e_X6_command_31 rfl ?_
    refine r_iconst e_X6_command_32 ic_1 ?_
    refine r_iadd e_X6_command_33 ?_
    refine r_aload e_X6_command_34 rfl ?_
    refine r_getR e_X6_command_36 fl_X6_36 k0 k1 ?_
    obtain ⟨v3, M3, w3, h⟩ := bnd2_el h
    refine cV3v e_X6_command_39 cl_X6_61 ⟨Nat.le_of_ble_eq_true rfl, Nat.le_of_ble_eq_true rfl⟩ ⟨rfl, rfl⟩ k3 (Nat.le_of_ble_eq_true rfl) (S_X6_work hb1 hb2 k2 (by decide) w3) ?_
    refine p_istore_9_6 e_X6_command_42 rfl rfl ?_
    refine r_iload_n e_X6_command_44 rfl ?_
    refine r_bipush e_X6_command_45 bp_7 ?_
    obtain ⟨K6, hK6, h⟩ := bnd2_in h
    suffices j6 : ∀ v6_0 M6, K6 (v6_0, M6) = some M' → WP m_X6_command _ 67 [none, none, some (.int x2), none, some (.ref x4), some (.int v2), some (.int v3), none, none] [.int v6_0] sh M6 0 0 by
      refine r_icmp_ne e_X6_command_47 (fun c4 => ?_) (fun c4 => ?_)
      · rw [if_neg c4] at h
        refine r_iconst e_X6_command_66 ic_1 ?_
        refine d_9_0 ?_
        refine d_9_1 ?_
        refine d_9_3 ?_
        exact j6 _ _ h
      · rw [if_pos c4] at h
        refine r_aload_n e_X6_command_50 rfl ?_
        refine r_aload_n e_X6_command_51 rfl ?_
        refine r_iload_n e_X6_command_52 rfl ?_
        refine r_iconst e_X6_command_53 ic_2 ?_
        refine r_iadd e_X6_command_54 ?_
        refine r_aload e_X6_command_55 rfl ?_
        refine r_getR e_X6_command_57 fl_X6_36 k0 k1 ?_
        obtain ⟨v7, M7, w7, h⟩ := bnd2_elK h
        refine cV3v e_X6_command_60 cl_X6_61 ⟨Nat.le_of_ble_eq_true rfl, Nat.le_of_ble_eq_true rfl⟩ ⟨rfl, rfl⟩ k3 (Nat.le_of_ble_eq_true rfl) (S_X6_work hb1 hb2 k2 (by decide) w7) ?_
        refine r_goto e_X6_command_63 ?_
        refine d_9_0 ?_
        refine d_9_1 ?_
        refine d_9_3 ?_
        exact j6 _ _ h
    intro v6_0 M6 h
    rw [hK6] at h
    refine p_istore_9_7 e_X6_command_67 rfl rfl ?_
    refine r_iload_n e_X6_command_69 rfl ?_
    refine r_bipush e_X6_command_70 bp_6 ?_
    obtain ⟨v9_0, v9_1, q9, h⟩ := bd2_el h
    suffices j9 : WP m_X6_command _ 105 [none, none, some (.int x2), none, some (.ref x4), some (.int v9_0), some (.int v9_1), some (.int v6_0), none] [] sh M6 0 0 by
      refine r_icmp_ne e_X6_command_72 (fun c8 => ?_) (fun c8 => ?_)
      · rw [if_neg c8] at q9
        obtain ⟨rfl, rfl⟩ := pe2 q9; exact j9
      · rw [if_pos c8] at q9
        refine r_iload e_X6_command_75 rfl ?_
        refine r_aload e_X6_command_77 rfl ?_
        refine r_aload e_X6_command_79 rfl ?_
        refine r_getI e_X6_command_81 fl_X6_91 i0 k0 ?_
        refine cV1v e_X6_command_84 cl_X6_94 ⟨Nat.le_of_ble_eq_true rfl, Nat.le_of_ble_eq_true rfl⟩ ⟨rfl, rfl⟩ k0 (Nat.le_of_ble_eq_true rfl) (S_X5_seenX hb3) ?_
        refine r_isub e_X6_command_87 ?_
        obtain ⟨v10, e10, q9⟩ := bd1_el q9
        rw [e10]
        refine p_istore_9_5 e_X6_command_88 rfl rfl ?_
        refine r_iload e_X6_command_90 rfl ?_
        refine r_aload e_X6_command_92 rfl ?_
        refine r_aload e_X6_command_94 rfl ?_
        refine r_getI e_X6_command_96 fl_X6_98 i0 k0 ?_
        refine cV1v e_X6_command_99 cl_X6_101 ⟨Nat.le_of_ble_eq_true rfl, Nat.le_of_ble_eq_true rfl⟩ ⟨rfl, rfl⟩ k0 (Nat.le_of_ble_eq_true rfl) (S_X5_seenY hb3) ?_
        refine r_isub e_X6_command_102 ?_
        obtain ⟨v11, e11, q9⟩ := bd1_el q9
        rw [e11]
        refine p_istore_9_6 e_X6_command_103 rfl rfl ?_
        obtain ⟨rfl, rfl⟩ := pe2 q9; exact j9
    refine r_iload_n e_X6_command_105 rfl ?_
    refine r_bipush e_X6_command_106 bp_7 ?_
    obtain ⟨v13_0, q13, h⟩ := bd1_el h
    suffices j13 : WP m_X6_command _ 116 [none, none, none, none, some (.ref x4), some (.int v9_0), some (.int v9_1), some (.int v6_0), none] [.int v13_0] sh M6 0 0 by
      refine r_icmp_ne e_X6_command_108 (fun c12 => ?_) (fun c12 => ?_)
      · rw [if_neg c12] at q13
        refine r_iconst e_X6_command_115 ic_1 ?_
        refine d_9_2 ?_
        subst q13; exact j13
      · rw [if_pos c12] at q13
        refine r_iconst e_X6_command_111 ic_2 ?_
        refine r_goto e_X6_command_112 ?_
        refine d_9_2 ?_
        subst q13; exact j13
    refine p_istore_9_8 e_X6_command_116 rfl rfl ?_
    refine r_aload e_X6_command_118 rfl ?_
    refine r_iload e_X6_command_120 rfl ?_
    refine r_iload e_X6_command_122 rfl ?_
    refine r_iconst e_X6_command_124 ic_m1 ?_
    refine r_iconst e_X6_command_125 ic_1 ?_
    refine cSN3v e_X6_command_126 cl_X6_104 ⟨Nat.le_of_ble_eq_true rfl, Nat.le_of_ble_eq_true rfl⟩ ⟨rfl, rfl⟩  (Nat.le_of_ble_eq_true rfl) (S_X10_cut ) ?_
    refine r_iload e_X6_command_129 rfl ?_
    refine r_iconst e_X6_command_131 ic_m1 ?_
    refine r_iconst e_X6_command_132 ic_1 ?_
    refine cSN3v e_X6_command_133 cl_X6_104 ⟨Nat.le_of_ble_eq_true rfl, Nat.le_of_ble_eq_true rfl⟩ ⟨rfl, rfl⟩  (Nat.le_of_ble_eq_true rfl) (S_X10_cut ) ?_
    refine r_iload e_X6_command_136 rfl ?_
    refine r_iconst e_X6_command_138 ic_1 ?_
    refine r_bipush e_X6_command_139 bp_9 ?_
    refine cSN3v e_X6_command_141 cl_X6_104 ⟨Nat.le_of_ble_eq_true rfl, Nat.le_of_ble_eq_true rfl⟩ ⟨rfl, rfl⟩  (Nat.le_of_ble_eq_true rfl) (S_X10_cut ) ?_
    refine cV4u e_X6_command_144 cl_X6_47 ⟨Nat.le_of_ble_eq_true rfl, Nat.le_of_ble_eq_true rfl⟩ ⟨rfl, rfl⟩ k0 (Nat.le_of_ble_eq_true rfl) (S_X5_decide hb3) ?_
    obtain ⟨M14, e14, h⟩ := bd1_el h
    rw [e14]
    refine r_return e_X6_command_147 rfl ⟨rfl, rfl⟩ ?_
    obtain rfl := Option.some.inj h; exact ⟨rfl, rfl, rfl⟩
  · rw [if_pos c1] at h
    refine r_aload e_X6_command_6 rfl ?_
    refine r_iconst e_X6_command_8 ic_0 ?_
    refine r_iconst e_X6_command_9 ic_0 ?_
    refine r_iconst e_X6_command_10 ic_0 ?_
    refine r_iconst e_X6_command_11 ic_0 ?_
    refine cV4u e_X6_command_12 cl_X6_47 ⟨Nat.le_of_ble_eq_true rfl, Nat.le_of_ble_eq_true rfl⟩ ⟨rfl, rfl⟩ k0 (Nat.le_of_ble_eq_true rfl) (S_X5_decide hb3) ?_
    obtain ⟨M15, e15, h⟩ := bd1_el h
    rw [e15]
    refine r_return e_X6_command_15 rfl ⟨rfl, rfl⟩ ?_
    obtain rfl := Option.some.inj h; exact ⟨rfl, rfl, rfl⟩
def R_X2_move (a : Nat) (x1 : Nat) (x2 : Int32) (M : Mem) : Option (Mem) := bd1 ((M.1 x1 2) + (M.1 x1 15)) (fun v1 => bd1 ((M.1 x1 3) + (M.1 x1 16)) (fun v2 => if v1 < 0 then (some M) else (if (15 : Int32) ≤ v1 then (some M) else (if v2 < 0 then (some M) else (if v2 < (9 : Int32) then (bd1 (V_X2_robotIn a v1 v2 M) (fun v7 => if v7 < 0 then (bd1 (if (M.1 (a + 4) 2) = x2 then (bd1 (U_X0_go (a + 4) v1 v2 (setI (setI M x1 2 v1) x1 3 v2)) (fun M15 => M15)) else (if 0 ≤ (M.1 (a + 4) 2) then (setI (setI M x1 2 v1) x1 3 v2) else (if (M.1 (a + 4) 0) = v1 then (if (M.1 (a + 4) 1) = v2 then (bd1 (U_X0_hold (a + 4) x2 v1 v2 (M.1 a 7) (setI (setI M x1 2 v1) x1 3 v2)) (fun M14 => M14)) else (setI (setI M x1 2 v1) x1 3 v2)) else (setI (setI M x1 2 v1) x1 3 v2)))) (fun M10 => some M10)) else (bd1 (if v7 = (M.1 (a + 4) 2) then (if (v7 / (5 : Int32)) = (x2 / (5 : Int32)) then (0 : Int32) else (1 : Int32)) else (0 : Int32)) (fun v17_0 => bd1 (if v17_0 = 0 then M else (if ((M.1 a 7) - (M.1 (a + 4) 3)) < (2 : Int32) then M else (bd1 (U_X0_hold (a + 4) x2 (M.1 x1 2) (M.1 x1 3) (M.1 a 7) M) (fun M22 => (setI M22 (a + 7) 2 ((M22.1 (a + 7) 2) + (1 : Int32))))))) (fun M20 => some M20))))) else (some M))))))
theorem S_X2_move {sh : List SC} {M : Mem} {a : Nat} {x1 : Nat} {x2 : Int32}  {M' : Mem} (hb1 : MatchAt sh a) (hb2 : RobotAt sh x1)  (h : R_X2_move a x1 x2 M = some M') : Gu m_X2_move [.ref a, .ref x1, .int x2] sh M M' := by
  refine Sp.of (ls := [some (.ref a), some (.ref x1), some (.int x2), none, none, none, none]) (by decide +kernel) (Nat.le_of_ble_eq_true rfl) rfl ?_
  have k0 : kd sh x1 = some (5 + 7, 0) := hb2.1
  have k1 : kd sh a = some (2 + 7, 0) := hb1.1
  have k2 : rf sh a 4 = some (a + 4) := hb1.2.2.2.2.2.1
  have k3 : kd sh (a + 4) = some (0 + 7, 0) := hb1.2.2.2.2.2.2.2.2.2.1.1
  have k4 : rf sh a 5 = some (a + 7) := hb1.2.2.2.2.2.2.1
  have k5 : kd sh (a + 7) = some (7 + 7, 0) := hb1.2.2.2.2.2.2.2.2.2.2.1.1
  unfold R_X2_move at h
  refine r_aload_n e_X2_move_0 rfl ?_
  refine r_getI e_X2_move_1 fl_X2_130 i0 k0 ?_
  refine r_aload_n e_X2_move_4 rfl ?_
  refine r_getI e_X2_move_5 fl_X2_213 i0 k0 ?_
  refine r_iadd e_X2_move_8 ?_
  obtain ⟨v1, e1, h⟩ := bd1_el h
  rw [e1]
  refine p_istore_n_7_3 e_X2_move_9 rfl rfl ?_
  refine r_aload_n e_X2_move_10 rfl ?_
  refine r_getI e_X2_move_11 fl_X2_131 i0 k0 ?_
  refine r_aload_n e_X2_move_14 rfl ?_
  refine r_getI e_X2_move_15 fl_X2_216 i0 k0 ?_
  refine r_iadd e_X2_move_18 ?_
  obtain ⟨v2, e2, h⟩ := bd1_el h
  rw [e2]
  refine p_istore_7_4 e_X2_move_19 rfl rfl ?_
  refine r_iload_n e_X2_move_21 rfl ?_
  refine r_if_lt e_X2_move_22 (fun c3 => ?_) (fun c3 => ?_)
  · rw [if_pos c3] at h
    refine r_return e_X2_move_43 rfl ⟨rfl, rfl⟩ ?_
    obtain rfl := Option.some.inj h; exact ⟨rfl, rfl, rfl⟩
  · rw [if_neg c3] at h
    refine r_iload_n e_X2_move_25 rfl ?_
    refine r_bipush e_X2_move_26 bp_15 ?_
    refine r_icmp_ge e_X2_move_28 (fun c4 => ?_) (fun c4 => ?_)
    · rw [if_pos c4] at h
      refine r_return e_X2_move_43 rfl ⟨rfl, rfl⟩ ?_
      obtain rfl := Option.some.inj h; exact ⟨rfl, rfl, rfl⟩
    · rw [if_neg c4] at h
      refine r_iload e_X2_move_31 rfl ?_
      refine r_if_lt e_X2_move_33 (fun c5 => ?_) (fun c5 => ?_)
      · rw [if_pos c5] at h
        refine r_return e_X2_move_43 rfl ⟨rfl, rfl⟩ ?_
        obtain rfl := Option.some.inj h; exact ⟨rfl, rfl, rfl⟩
      · rw [if_neg c5] at h
        refine r_iload e_X2_move_36 rfl ?_
        refine r_bipush e_X2_move_38 bp_9 ?_
        refine r_icmp_lt e_X2_move_40 (fun c6 => ?_) (fun c6 => ?_)
        · rw [if_pos c6] at h
          refine r_aload_n e_X2_move_44 rfl ?_
          refine r_iload_n e_X2_move_45 rfl ?_
          refine r_iload e_X2_move_46 rfl ?_
          refine cV2v e_X2_move_48 cl_X2_141 ⟨Nat.le_of_ble_eq_true rfl, Nat.le_of_ble_eq_true rfl⟩ ⟨rfl, rfl⟩ k1 (Nat.le_of_ble_eq_true rfl) (S_X2_robotIn hb1) ?_
          obtain ⟨v7, e7, h⟩ := bd1_el h
          rw [e7]
          refine p_istore_7_5 e_X2_move_51 rfl rfl ?_
          refine r_iload e_X2_move_53 rfl ?_
          refine r_if_lt e_X2_move_55 (fun c8 => ?_) (fun c8 => ?_)
          · rw [if_pos c8] at h
            refine r_aload_n e_X2_move_142 rfl ?_
            refine r_iload_n e_X2_move_143 rfl ?_
            refine r_putI e_X2_move_144 fl_X2_130 k0 ?_
            refine r_aload_n e_X2_move_147 rfl ?_
            refine r_iload e_X2_move_148 rfl ?_
            refine r_putI e_X2_move_150 fl_X2_131 k0 ?_
            refine r_aload_n e_X2_move_153 rfl ?_
            refine r_getR e_X2_move_154 fl_X2_27 k1 k2 ?_
            refine r_getIe e_X2_move_157 fl_X2_132 i0 k3 ((gs_nI (by decide)).trans (gs_aI (ne_kd k3 k0 (by decide)))) ?_
            refine r_iload_n e_X2_move_160 rfl ?_
            obtain ⟨M10, q10, h⟩ := bd1_el h
            suffices j10 : WP m_X2_move _ 225 [none, none, none, none, none, none, none] [] sh M10 0 0 by
              refine r_icmp_ne e_X2_move_161 (fun c9 => ?_) (fun c9 => ?_)
              · rw [if_neg c9] at q10
                refine r_aload_n e_X2_move_177 rfl ?_
                refine r_getR e_X2_move_178 fl_X2_27 k1 k2 ?_
                refine r_getIe e_X2_move_181 fl_X2_132 i0 k3 ((gs_nI (by decide)).trans (gs_aI (ne_kd k3 k0 (by decide)))) ?_
                refine r_if_ge e_X2_move_184 (fun c11 => ?_) (fun c11 => ?_)
                · rw [if_pos c11] at q10
                  refine d_7_0 ?_
                  refine d_7_1 ?_
                  refine d_7_2 ?_
                  refine d_7_3 ?_
                  refine d_7_4 ?_
                  refine d_7_5 ?_
                  subst q10; exact j10
                · rw [if_neg c11] at q10
                  refine r_aload_n e_X2_move_187 rfl ?_
                  refine r_getR e_X2_move_188 fl_X2_27 k1 k2 ?_
                  refine r_getIe e_X2_move_191 fl_X2_110 i0 k3 ((gs_nI (by decide)).trans (gs_nI (by decide))) ?_
                  refine r_iload_n e_X2_move_194 rfl ?_
                  refine r_icmp_ne e_X2_move_195 (fun c12 => ?_) (fun c12 => ?_)
                  · rw [if_neg c12] at q10
                    refine d_7_0 ?_
                    refine d_7_1 ?_
                    refine d_7_2 ?_
                    refine d_7_3 ?_
                    refine d_7_4 ?_
                    refine d_7_5 ?_
                    subst q10; exact j10
                  · rw [if_pos c12] at q10
                    refine r_aload_n e_X2_move_198 rfl ?_
                    refine r_getR e_X2_move_199 fl_X2_27 k1 k2 ?_
                    refine r_getIe e_X2_move_202 fl_X2_113 i0 k3 ((gs_nI (by decide)).trans (gs_nI (by decide))) ?_
                    refine r_iload e_X2_move_205 rfl ?_
                    refine r_icmp_ne e_X2_move_207 (fun c13 => ?_) (fun c13 => ?_)
                    · rw [if_neg c13] at q10
                      refine d_7_0 ?_
                      refine d_7_1 ?_
                      refine d_7_2 ?_
                      refine d_7_3 ?_
                      refine d_7_4 ?_
                      refine d_7_5 ?_
                      subst q10; exact j10
                    · rw [if_pos c13] at q10
                      refine r_aload_n e_X2_move_210 rfl ?_
                      refine r_getR e_X2_move_211 fl_X2_27 k1 k2 ?_
                      refine r_iload_n e_X2_move_214 rfl ?_
                      refine r_iload_n e_X2_move_215 rfl ?_
                      refine r_iload e_X2_move_216 rfl ?_
                      refine r_aload_n e_X2_move_218 rfl ?_
                      refine r_getIe e_X2_move_219 fl_X2_42 i0 k1 ((gs_nI (by decide)).trans (gs_nI (by decide))) ?_
                      refine cV4u e_X2_move_222 cl_X2_235 ⟨Nat.le_of_ble_eq_true rfl, Nat.le_of_ble_eq_true rfl⟩ ⟨rfl, rfl⟩ k3 (Nat.le_of_ble_eq_true rfl) (S_X0_hold hb1.2.2.2.2.2.2.2.2.2.1) ?_
                      obtain ⟨M14, e14, q10⟩ := bd1_el q10
                      rw [e14]
                      refine d_7_0 ?_
                      refine d_7_1 ?_
                      refine d_7_2 ?_
                      refine d_7_3 ?_
                      refine d_7_4 ?_
                      refine d_7_5 ?_
                      subst q10; exact j10
              · rw [if_pos c9] at q10
                refine r_aload_n e_X2_move_164 rfl ?_
                refine r_getR e_X2_move_165 fl_X2_27 k1 k2 ?_
                refine r_iload_n e_X2_move_168 rfl ?_
                refine r_iload e_X2_move_169 rfl ?_
                refine cV2u e_X2_move_171 cl_X2_135 ⟨Nat.le_of_ble_eq_true rfl, Nat.le_of_ble_eq_true rfl⟩ ⟨rfl, rfl⟩ k3 (Nat.le_of_ble_eq_true rfl) (S_X0_go hb1.2.2.2.2.2.2.2.2.2.1) ?_
                obtain ⟨M15, e15, q10⟩ := bd1_el q10
                rw [e15]
                refine r_goto e_X2_move_174 ?_
                refine d_7_0 ?_
                refine d_7_1 ?_
                refine d_7_2 ?_
                refine d_7_3 ?_
                refine d_7_4 ?_
                refine d_7_5 ?_
                subst q10; exact j10
            refine r_return e_X2_move_225 rfl ⟨rfl, rfl⟩ ?_
            obtain rfl := Option.some.inj h; exact ⟨rfl, rfl, rfl⟩
          · rw [if_neg c8] at h
            refine r_iload e_X2_move_58 rfl ?_
            refine r_aload_n e_X2_move_60 rfl ?_
            refine r_getR e_X2_move_61 fl_X2_27 k1 k2 ?_
            refine r_getI e_X2_move_64 fl_X2_132 i0 k3 ?_
            obtain ⟨v17_0, q17, h⟩ := bd1_el h
            suffices j17 : WP m_X2_move _ 85 [some (.ref a), some (.ref x1), some (.int x2), none, none, none, none] [.int v17_0] sh M 0 0 by
              refine r_icmp_ne e_X2_move_67 (fun c16 => ?_) (fun c16 => ?_)
              · rw [if_neg c16] at q17
                refine r_iconst e_X2_move_84 ic_0 ?_
                refine d_7_3 ?_
                refine d_7_4 ?_
                refine d_7_5 ?_
                subst q17; exact j17
              · rw [if_pos c16] at q17
                refine r_iload e_X2_move_70 rfl ?_
                refine r_iconst e_X2_move_72 ic_5 ?_
                refine r_idiv e_X2_move_73 (by decide) ?_
                refine r_iload_n e_X2_move_74 rfl ?_
                refine r_iconst e_X2_move_75 ic_5 ?_
                refine r_idiv e_X2_move_76 (by decide) ?_
                refine r_icmp_eq e_X2_move_77 (fun c18 => ?_) (fun c18 => ?_)
                · rw [if_pos c18] at q17
                  refine r_iconst e_X2_move_84 ic_0 ?_
                  refine d_7_3 ?_
                  refine d_7_4 ?_
                  refine d_7_5 ?_
                  subst q17; exact j17
                · rw [if_neg c18] at q17
                  refine r_iconst e_X2_move_80 ic_1 ?_
                  refine r_goto e_X2_move_81 ?_
                  refine d_7_3 ?_
                  refine d_7_4 ?_
                  refine d_7_5 ?_
                  subst q17; exact j17
            refine p_istore_7_6 e_X2_move_85 rfl rfl ?_
            refine r_iload e_X2_move_87 rfl ?_
            obtain ⟨M20, q20, h⟩ := bd1_el h
            suffices j20 : WP m_X2_move _ 141 [none, none, none, none, none, none, none] [] sh M20 0 0 by
              refine r_if_eq e_X2_move_89 (fun c19 => ?_) (fun c19 => ?_)
              · rw [if_pos c19] at q20
                refine d_7_0 ?_
                refine d_7_1 ?_
                refine d_7_2 ?_
                refine d_7_6 ?_
                subst q20; exact j20
              · rw [if_neg c19] at q20
                refine r_aload_n e_X2_move_92 rfl ?_
                refine r_getI e_X2_move_93 fl_X2_42 i0 k1 ?_
                refine r_aload_n e_X2_move_96 rfl ?_
                refine r_getR e_X2_move_97 fl_X2_27 k1 k2 ?_
                refine r_getI e_X2_move_100 fl_X2_232 i0 k3 ?_
                refine r_isub e_X2_move_103 ?_
                refine r_iconst e_X2_move_104 ic_2 ?_
                refine r_icmp_lt e_X2_move_105 (fun c21 => ?_) (fun c21 => ?_)
                · rw [if_pos c21] at q20
                  refine d_7_0 ?_
                  refine d_7_1 ?_
                  refine d_7_2 ?_
                  refine d_7_6 ?_
                  subst q20; exact j20
                · rw [if_neg c21] at q20
                  refine r_aload_n e_X2_move_108 rfl ?_
                  refine r_getR e_X2_move_109 fl_X2_27 k1 k2 ?_
                  refine r_iload_n e_X2_move_112 rfl ?_
                  refine r_aload_n e_X2_move_113 rfl ?_
                  refine r_getI e_X2_move_114 fl_X2_130 i0 k0 ?_
                  refine r_aload_n e_X2_move_117 rfl ?_
                  refine r_getI e_X2_move_118 fl_X2_131 i0 k0 ?_
                  refine r_aload_n e_X2_move_121 rfl ?_
                  refine r_getI e_X2_move_122 fl_X2_42 i0 k1 ?_
                  refine cV4u e_X2_move_125 cl_X2_235 ⟨Nat.le_of_ble_eq_true rfl, Nat.le_of_ble_eq_true rfl⟩ ⟨rfl, rfl⟩ k3 (Nat.le_of_ble_eq_true rfl) (S_X0_hold hb1.2.2.2.2.2.2.2.2.2.1) ?_
                  obtain ⟨M22, e22, q20⟩ := bd1_el q20
                  rw [e22]
                  refine r_aload_n e_X2_move_128 rfl ?_
                  refine r_getR e_X2_move_129 fl_X2_34 k1 k4 ?_
                  refine r_dup e_X2_move_132 rfl ?_
                  refine r_getI e_X2_move_133 fl_X2_238 i0 k5 ?_
                  refine r_iconst e_X2_move_136 ic_1 ?_
                  refine r_iadd e_X2_move_137 ?_
                  refine r_putI e_X2_move_138 fl_X2_238 k5 ?_
                  refine d_7_0 ?_
                  refine d_7_1 ?_
                  refine d_7_2 ?_
                  refine d_7_6 ?_
                  subst q20; exact j20
            refine r_return e_X2_move_141 rfl ⟨rfl, rfl⟩ ?_
            obtain rfl := Option.some.inj h; exact ⟨rfl, rfl, rfl⟩
        · rw [if_neg c6] at h
          refine r_return e_X2_move_43 rfl ⟨rfl, rfl⟩ ?_
          obtain rfl := Option.some.inj h; exact ⟨rfl, rfl, rfl⟩
