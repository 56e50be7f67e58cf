def U_X0_copy (a : Nat) (x1 : Nat) (M : Mem) : Mem := cpyI (cpyI (setI (setI (setI (setI (setI (setI (setI (setI (setI (setI M a 0 (M.1 x1 0)) a 1 (M.1 x1 1)) a 2 (M.1 x1 2)) a 3 (M.1 x1 3)) a 4 (M.1 x1 4)) a 5 (M.1 x1 5)) a 6 (M.1 x1 6)) a 7 (M.1 x1 7)) a 8 (M.1 x1 8)) a 9 (M.1 x1 9)) (x1 + 1) (a + 1) 4) (x1 + 2) (a + 2) 4
theorem S_X0_copy {sh : List SC} {M : Mem} {a : Nat} {x1 : Nat}  (hb1 : BallAt sh a) (hb2 : BallAt sh x1)  : Gu m_X0_copy [.ref a, .ref x1] sh M (U_X0_copy a x1 M) := by
  refine Sp.of (ls := [some (.ref a), some (.ref x1)]) (by decide +kernel) (Nat.le_of_ble_eq_true rfl) rfl ?_
  have k0 : kd sh x1 = some (0 + 7, 0) := hb2.1
  have k1 : kd sh a = some (0 + 7, 0) := hb1.1
  have k2 : rf sh x1 10 = some (x1 + 1) := hb2.2.1
  have k3 : kd sh (x1 + 1) = some (0, 4) := hb2.2.2.2.1
  have k4 : rf sh a 10 = some (a + 1) := hb1.2.1
  have k5 : kd sh (a + 1) = some (0, 4) := hb1.2.2.2.1
  have k6 : rf sh x1 11 = some (x1 + 2) := hb2.2.2.1
  have k7 : kd sh (x1 + 2) = some (0, 4) := hb2.2.2.2.2
  have k8 : rf sh a 11 = some (a + 2) := hb1.2.2.1
  have k9 : kd sh (a + 2) = some (0, 4) := hb1.2.2.2.2
  refine r_aload_n e_X0_copy_0 rfl ?_
  refine r_aload_n e_X0_copy_1 rfl ?_
  refine r_getI e_X0_copy_2 fl_X0_7 i0 k0 ?_
  refine r_putI e_X0_copy_5 fl_X0_7 k1 ?_
  refine r_aload_n e_X0_copy_8 rfl ?_
  refine r_aload_n e_X0_copy_9 rfl ?_
  refine r_getIe e_X0_copy_10 fl_X0_13 i0 k0 (gs_nI (by decide)) ?_
  refine r_putI e_X0_copy_13 fl_X0_13 k1 ?_
  refine r_aload_n e_X0_copy_16 rfl ?_
  refine r_aload_n e_X0_copy_17 rfl ?_
  refine r_getIe e_X0_copy_18 fl_X0_16 i0 k0 ((gs_nI (by decide)).trans (gs_nI (by decide))) ?_
  refine r_putI e_X0_copy_21 fl_X0_16 k1 ?_
  refine r_aload_n e_X0_copy_24 rfl ?_
  refine r_aload_n e_X0_copy_25 rfl ?_
  refine r_getIe e_X0_copy_26 fl_X0_19 i0 k0 ((gs_nI (by decide)).trans ((gs_nI (by decide)).trans (gs_nI (by decide)))) ?_
  refine r_putI e_X0_copy_29 fl_X0_19 k1 ?_
  refine r_aload_n e_X0_copy_32 rfl ?_
  refine r_aload_n e_X0_copy_33 rfl ?_
  refine r_getIe e_X0_copy_34 fl_X0_22 i0 k0 ((gs_nI (by decide)).trans ((gs_nI (by decide)).trans ((gs_nI (by decide)).trans (gs_nI (by decide))))) ?_
  refine r_putI e_X0_copy_37 fl_X0_22 k1 ?_
  refine r_aload_n e_X0_copy_40 rfl ?_
  refine r_aload_n e_X0_copy_41 rfl ?_
  refine r_getIe e_X0_copy_42 fl_X0_25 i0 k0 ((gs_nI (by decide)).trans ((gs_nI (by decide)).trans ((gs_nI (by decide)).trans ((gs_nI (by decide)).trans (gs_nI (by decide)))))) ?_
  refine r_putI e_X0_copy_45 fl_X0_25 k1 ?_
  refine r_aload_n e_X0_copy_48 rfl ?_
  refine r_aload_n e_X0_copy_49 rfl ?_
  refine r_getIe e_X0_copy_50 fl_X0_28 i0 k0 ((gs_nI (by decide)).trans ((gs_nI (by decide)).trans ((gs_nI (by decide)).trans ((gs_nI (by decide)).trans ((gs_nI (by decide)).trans (gs_nI (by decide))))))) ?_
  refine r_putI e_X0_copy_53 fl_X0_28 k1 ?_
  refine r_aload_n e_X0_copy_56 rfl ?_
  refine r_aload_n e_X0_copy_57 rfl ?_
  refine r_getIe e_X0_copy_58 fl_X0_31 i0 k0 ((gs_nI (by decide)).trans ((gs_nI (by decide)).trans ((gs_nI (by decide)).trans ((gs_nI (by decide)).trans ((gs_nI (by decide)).trans ((gs_nI (by decide)).trans (gs_nI (by decide)))))))) ?_
  refine r_putI e_X0_copy_61 fl_X0_31 k1 ?_
  refine r_aload_n e_X0_copy_64 rfl ?_
  refine r_aload_n e_X0_copy_65 rfl ?_
  refine r_getIe e_X0_copy_66 fl_X0_34 i0 k0 ((gs_nI (by decide)).trans ((gs_nI (by decide)).trans ((gs_nI (by decide)).trans ((gs_nI (by decide)).trans ((gs_nI (by decide)).trans ((gs_nI (by decide)).trans ((gs_nI (by decide)).trans (gs_nI (by decide))))))))) ?_
  refine r_putI e_X0_copy_69 fl_X0_34 k1 ?_
  refine r_aload_n e_X0_copy_72 rfl ?_
  refine r_aload_n e_X0_copy_73 rfl ?_
  refine r_getIe e_X0_copy_74 fl_X0_37 i0 k0 ((gs_nI (by decide)).trans ((gs_nI (by decide)).trans ((gs_nI (by decide)).trans ((gs_nI (by decide)).trans ((gs_nI (by decide)).trans ((gs_nI (by decide)).trans ((gs_nI (by decide)).trans ((gs_nI (by decide)).trans (gs_nI (by decide)))))))))) ?_
  refine r_putI e_X0_copy_77 fl_X0_37 k1 ?_
  refine r_aload_n e_X0_copy_80 rfl ?_
  refine r_getR e_X0_copy_81 fl_X0_40 k0 k2 ?_
  refine r_iconst e_X0_copy_84 ic_0 ?_
  refine r_aload_n e_X0_copy_85 rfl ?_
  refine r_getR e_X0_copy_86 fl_X0_40 k1 k4 ?_
  refine r_iconst e_X0_copy_89 ic_0 ?_
  refine r_iconst e_X0_copy_90 ic_4 ?_
  refine r_copyi e_X0_copy_91 cl_X0_69 (Nat.le_of_ble_eq_true rfl) (Nat.le_of_ble_eq_true rfl) (Nat.le_of_ble_eq_true rfl) k3 k5 (by decide) (by decide) (by decide) ?_
  rw [show ((4 : Int32)).toNatClampNeg = 4 from rfl]
  refine r_aload_n e_X0_copy_94 rfl ?_
  refine r_getR e_X0_copy_95 fl_X0_44 k0 k6 ?_
  refine r_iconst e_X0_copy_98 ic_0 ?_
  refine r_aload_n e_X0_copy_99 rfl ?_
  refine r_getR e_X0_copy_100 fl_X0_44 k1 k8 ?_
  refine r_iconst e_X0_copy_103 ic_0 ?_
  refine r_iconst e_X0_copy_104 ic_4 ?_
  refine r_copyi e_X0_copy_105 cl_X0_69 (Nat.le_of_ble_eq_true rfl) (Nat.le_of_ble_eq_true rfl) (Nat.le_of_ble_eq_true rfl) k7 k9 (by decide) (by decide) (by decide) ?_
  rw [show ((4 : Int32)).toNatClampNeg = 4 from rfl]
  refine r_return e_X0_copy_108 rfl ⟨rfl, rfl⟩ ?_
  (refine ⟨?_, rfl, ?_⟩ <;> ((try unfold U_X0_copy); (try simp only []); (try rfl)))
def U_X7_copy (a : Nat) (x1 : Nat) (M : Mem) : Mem := cpyI (cpyI (setI (setI (setI (setI M a 0 (M.1 x1 0)) a 1 (M.1 x1 1)) a 2 (M.1 x1 2)) a 3 (M.1 x1 3)) (x1 + 1) (a + 1) 4) (x1 + 2) (a + 2) 20
theorem S_X7_copy {sh : List SC} {M : Mem} {a : Nat} {x1 : Nat}  (hb1 : TallyAt sh a) (hb2 : TallyAt sh x1)  : Gu m_X7_copy [.ref a, .ref x1] sh M (U_X7_copy a x1 M) := by
  refine Sp.of (ls := [some (.ref a), some (.ref x1)]) (by decide +kernel) (Nat.le_of_ble_eq_true rfl) rfl ?_
  have k0 : kd sh x1 = some (7 + 7, 0) := hb2.1
  have k1 : kd sh a = some (7 + 7, 0) := hb1.1
  have k2 : rf sh x1 4 = some (x1 + 1) := hb2.2.1
  have k3 : kd sh (x1 + 1) = some (0, 4) := hb2.2.2.2.1
  have k4 : rf sh a 4 = some (a + 1) := hb1.2.1
  have k5 : kd sh (a + 1) = some (0, 4) := hb1.2.2.2.1
  have k6 : rf sh x1 5 = some (x1 + 2) := hb2.2.2.1
  have k7 : kd sh (x1 + 2) = some (0, 20) := hb2.2.2.2.2
  have k8 : rf sh a 5 = some (a + 2) := hb1.2.2.1
  have k9 : kd sh (a + 2) = some (0, 20) := hb1.2.2.2.2
  refine r_aload_n e_X7_copy_0 rfl ?_
  refine r_aload_n e_X7_copy_1 rfl ?_
  refine r_getI e_X7_copy_2 fl_X7_7 i0 k0 ?_
  refine r_putI e_X7_copy_5 fl_X7_7 k1 ?_
  refine r_aload_n e_X7_copy_8 rfl ?_
  refine r_aload_n e_X7_copy_9 rfl ?_
  refine r_getIe e_X7_copy_10 fl_X7_13 i0 k0 (gs_nI (by decide)) ?_
  refine r_putI e_X7_copy_13 fl_X7_13 k1 ?_
  refine r_aload_n e_X7_copy_16 rfl ?_
  refine r_aload_n e_X7_copy_17 rfl ?_
  refine r_getIe e_X7_copy_18 fl_X7_16 i0 k0 ((gs_nI (by decide)).trans (gs_nI (by decide))) ?_
  refine r_putI e_X7_copy_21 fl_X7_16 k1 ?_
  refine r_aload_n e_X7_copy_24 rfl ?_
  refine r_aload_n e_X7_copy_25 rfl ?_
  refine r_getIe e_X7_copy_26 fl_X7_19 i0 k0 ((gs_nI (by decide)).trans ((gs_nI (by decide)).trans (gs_nI (by decide)))) ?_
  refine r_putI e_X7_copy_29 fl_X7_19 k1 ?_
  refine r_aload_n e_X7_copy_32 rfl ?_
  refine r_getR e_X7_copy_33 fl_X7_22 k0 k2 ?_
  refine r_iconst e_X7_copy_36 ic_0 ?_
  refine r_aload_n e_X7_copy_37 rfl ?_
  refine r_getR e_X7_copy_38 fl_X7_22 k1 k4 ?_
  refine r_iconst e_X7_copy_41 ic_0 ?_
  refine r_iconst e_X7_copy_42 ic_4 ?_
  refine r_copyi e_X7_copy_43 cl_X7_45 (Nat.le_of_ble_eq_true rfl) (Nat.le_of_ble_eq_true rfl) (Nat.le_of_ble_eq_true rfl) k3 k5 (by decide) (by decide) (by decide) ?_
  rw [show ((4 : Int32)).toNatClampNeg = 4 from rfl]
  refine r_aload_n e_X7_copy_46 rfl ?_
  refine r_getR e_X7_copy_47 fl_X7_26 k0 k6 ?_
  refine r_iconst e_X7_copy_50 ic_0 ?_
  refine r_aload_n e_X7_copy_51 rfl ?_
  refine r_getR e_X7_copy_52 fl_X7_26 k1 k8 ?_
  refine r_iconst e_X7_copy_55 ic_0 ?_
  refine r_bipush e_X7_copy_56 bp_20 ?_
  refine r_copyi e_X7_copy_58 cl_X7_45 (Nat.le_of_ble_eq_true rfl) (Nat.le_of_ble_eq_true rfl) (Nat.le_of_ble_eq_true rfl) k7 k9 (by decide) (by decide) (by decide) ?_
  rw [show ((20 : Int32)).toNatClampNeg = 20 from rfl]
  refine r_return e_X7_copy_61 rfl ⟨rfl, rfl⟩ ?_
  (refine ⟨?_, rfl, ?_⟩ <;> ((try unfold U_X7_copy); (try simp only []); (try rfl)))
def U_X5_copy (a : Nat) (x1 : Nat) (M : Mem) : Mem := setI (setI (setI (setI (setI (cpyI (setI (setI (setI (setI (setI (setI (setI M a 2 (M.1 x1 2)) a 3 (M.1 x1 3)) a 4 (M.1 x1 4)) a 5 (M.1 x1 5)) a 6 (M.1 x1 6)) a 7 (M.1 x1 7)) a 8 (M.1 x1 8)) (x1 + 1) (a + 1) 4) a 10 ((cpyI (setI (setI (setI (setI (setI (setI (setI M a 2 (M.1 x1 2)) a 3 (M.1 x1 3)) a 4 (M.1 x1 4)) a 5 (M.1 x1 5)) a 6 (M.1 x1 6)) a 7 (M.1 x1 7)) a 8 (M.1 x1 8)) (x1 + 1) (a + 1) 4).1 x1 10)) a 11 ((cpyI (setI (setI (setI (setI (setI (setI (setI M a 2 (M.1 x1 2)) a 3 (M.1 x1 3)) a 4 (M.1 x1 4)) a 5 (M.1 x1 5)) a 6 (M.1 x1 6)) a 7 (M.1 x1 7)) a 8 (M.1 x1 8)) (x1 + 1) (a + 1) 4).1 x1 11)) a 12 ((cpyI (setI (setI (setI (setI (setI (setI (setI M a 2 (M.1 x1 2)) a 3 (M.1 x1 3)) a 4 (M.1 x1 4)) a 5 (M.1 x1 5)) a 6 (M.1 x1 6)) a 7 (M.1 x1 7)) a 8 (M.1 x1 8)) (x1 + 1) (a + 1) 4).1 x1 12)) a 13 ((cpyI (setI (setI (setI (setI (setI (setI (setI M a 2 (M.1 x1 2)) a 3 (M.1 x1 3)) a 4 (M.1 x1 4)) a 5 (M.1 x1 5)) a 6 (M.1 x1 6)) a 7 (M.1 x1 7)) a 8 (M.1 x1 8)) (x1 + 1) (a + 1) 4).1 x1 13)) a 14 ((cpyI (setI (setI (setI (setI (setI (setI (setI M a 2 (M.1 x1 2)) a 3 (M.1 x1 3)) a 4 (M.1 x1 4)) a 5 (M.1 x1 5)) a 6 (M.1 x1 6)) a 7 (M.1 x1 7)) a 8 (M.1 x1 8)) (x1 + 1) (a + 1) 4).1 x1 14)
theorem S_X5_copy {sh : List SC} {M : Mem} {a : Nat} {x1 : Nat}  (hb1 : RobotAt sh a) (hb2 : RobotAt sh x1) (g1 : (M.1 x1 8) = 0 ∨ (M.1 x1 8) = 1) : Gu m_X5_copy [.ref a, .ref x1] sh M (U_X5_copy a x1 M) := by
  refine Sp.of (ls := [some (.ref a), some (.ref x1)]) (by decide +kernel) (Nat.le_of_ble_eq_true rfl) rfl ?_
  have k0 : kd sh x1 = some (5 + 7, 0) := hb2.1
  have k1 : kd sh a = some (5 + 7, 0) := hb1.1
  have k2 : rf sh x1 9 = some (x1 + 1) := hb2.2.1
  have k3 : kd sh (x1 + 1) = some (0, 4) := hb2.2.2
  have k4 : rf sh a 9 = some (a + 1) := hb1.2.1
  have k5 : kd sh (a + 1) = some (0, 4) := hb1.2.2
  refine r_aload_n e_X5_copy_0 rfl ?_
  refine r_aload_n e_X5_copy_1 rfl ?_
  refine r_getI e_X5_copy_2 fl_X5_11 i0 k0 ?_
  refine r_putI e_X5_copy_5 fl_X5_11 k1 ?_
  refine r_aload_n e_X5_copy_8 rfl ?_
  refine r_aload_n e_X5_copy_9 rfl ?_
  refine r_getIe e_X5_copy_10 fl_X5_15 i0 k0 (gs_nI (by decide)) ?_
  refine r_putI e_X5_copy_13 fl_X5_15 k1 ?_
  refine r_aload_n e_X5_copy_16 rfl ?_
  refine r_aload_n e_X5_copy_17 rfl ?_
  refine r_getIe e_X5_copy_18 fl_X5_18 i0 k0 ((gs_nI (by decide)).trans (gs_nI (by decide))) ?_
  refine r_putI e_X5_copy_21 fl_X5_18 k1 ?_
  refine r_aload_n e_X5_copy_24 rfl ?_
  refine r_aload_n e_X5_copy_25 rfl ?_
  refine r_getIe e_X5_copy_26 fl_X5_21 i0 k0 ((gs_nI (by decide)).trans ((gs_nI (by decide)).trans (gs_nI (by decide)))) ?_
  refine r_putI e_X5_copy_29 fl_X5_21 k1 ?_
  refine r_aload_n e_X5_copy_32 rfl ?_
  refine r_aload_n e_X5_copy_33 rfl ?_
  refine r_getIe e_X5_copy_34 fl_X5_24 i0 k0 ((gs_nI (by decide)).trans ((gs_nI (by decide)).trans ((gs_nI (by decide)).trans (gs_nI (by decide))))) ?_
  refine r_putI e_X5_copy_37 fl_X5_24 k1 ?_
  refine r_aload_n e_X5_copy_40 rfl ?_
  refine r_aload_n e_X5_copy_41 rfl ?_
  refine r_getIe e_X5_copy_42 fl_X5_27 i0 k0 ((gs_nI (by decide)).trans ((gs_nI (by decide)).trans ((gs_nI (by decide)).trans ((gs_nI (by decide)).trans (gs_nI (by decide)))))) ?_
  refine r_putI e_X5_copy_45 fl_X5_27 k1 ?_
  refine r_aload_n e_X5_copy_48 rfl ?_
  refine r_aload_n e_X5_copy_49 rfl ?_
  refine r_getIe e_X5_copy_50 fl_X5_30 i3 k0 ((gs_nI (by decide)).trans ((gs_nI (by decide)).trans ((gs_nI (by decide)).trans ((gs_nI (by decide)).trans ((gs_nI (by decide)).trans (gs_nI (by decide))))))) ?_
  refine r_putZ e_X5_copy_53 fl_X5_30 g1 k1 ?_
  refine r_aload_n e_X5_copy_56 rfl ?_
  refine r_getR e_X5_copy_57 fl_X5_34 k0 k2 ?_
  refine r_iconst e_X5_copy_60 ic_0 ?_
  refine r_aload_n e_X5_copy_61 rfl ?_
  refine r_getR e_X5_copy_62 fl_X5_34 k1 k4 ?_
  refine r_iconst e_X5_copy_65 ic_0 ?_
  refine r_iconst e_X5_copy_66 ic_4 ?_
  refine r_copyi e_X5_copy_67 cl_X5_89 (Nat.le_of_ble_eq_true rfl) (Nat.le_of_ble_eq_true rfl) (Nat.le_of_ble_eq_true rfl) k3 k5 (by decide) (by decide) (by decide) ?_
  rw [show ((4 : Int32)).toNatClampNeg = 4 from rfl]
  refine r_aload_n e_X5_copy_70 rfl ?_
  refine r_aload_n e_X5_copy_71 rfl ?_
  refine r_getI e_X5_copy_72 fl_X5_38 i0 k0 ?_
  refine r_putI e_X5_copy_75 fl_X5_38 k1 ?_
  refine r_aload_n e_X5_copy_78 rfl ?_
  refine r_aload_n e_X5_copy_79 rfl ?_
  refine r_getIe e_X5_copy_80 fl_X5_41 i0 k0 (gs_nI (by decide)) ?_
  refine r_putI e_X5_copy_83 fl_X5_41 k1 ?_
  refine r_aload_n e_X5_copy_86 rfl ?_
  refine r_aload_n e_X5_copy_87 rfl ?_
  refine r_getIe e_X5_copy_88 fl_X5_44 i0 k0 ((gs_nI (by decide)).trans (gs_nI (by decide))) ?_
  refine r_putI e_X5_copy_91 fl_X5_44 k1 ?_
  refine r_aload_n e_X5_copy_94 rfl ?_
  refine r_aload_n e_X5_copy_95 rfl ?_
  refine r_getIe e_X5_copy_96 fl_X5_47 i0 k0 ((gs_nI (by decide)).trans ((gs_nI (by decide)).trans (gs_nI (by decide)))) ?_
  refine r_putI e_X5_copy_99 fl_X5_47 k1 ?_
  refine r_aload_n e_X5_copy_102 rfl ?_
  refine r_aload_n e_X5_copy_103 rfl ?_
  refine r_getIe e_X5_copy_104 fl_X5_50 i0 k0 ((gs_nI (by decide)).trans ((gs_nI (by decide)).trans ((gs_nI (by decide)).trans (gs_nI (by decide))))) ?_
  refine r_putI e_X5_copy_107 fl_X5_50 k1 ?_
  refine r_return e_X5_copy_110 rfl ⟨rfl, rfl⟩ ?_
  (refine ⟨?_, rfl, ?_⟩ <;> ((try unfold U_X5_copy); (try simp only []); (try rfl)))
def F_X0_isLike_4 (a : Nat) (x1 : Nat) : Nat → Nat → Int32 → Mem → Int32
  | 0, i4, u2, M => u2
  | n + 1, i4, u2, M => (let v400_0 : Int32 := if u2 = 0 then (0 : Int32) else (if (V_X0_shown a (nI i4) M) = (V_X0_shown x1 (nI i4) M) then (1 : Int32) else (0 : Int32)); (F_X0_isLike_4 a x1 n (i4 + 1) v400_0 M))
theorem L_X0_isLike_4 {sh : List SC} {Q : Po} {a : Nat} {x1 : Nat}    (hb1 : BallAt sh a) (hb2 : BallAt sh x1)   : ∀ (n i4 : Nat) (u2 : Int32) (M : Mem), i4 + n = 6 → WP m_X0_isLike Q 39 [some (.ref a), some (.ref x1), some (.int (F_X0_isLike_4 a x1 n i4 u2 M)), none] [] sh M 0 0 → WP m_X0_isLike Q 4 [some (.ref a), some (.ref x1), some (.int u2), some (.int (nI i4))] [] sh M 0 0 := by
  have k0 : kd sh a = some (0 + 7, 0) := hb1.1
  have k1 : kd sh x1 = some (0 + 7, 0) := hb2.1
  intro n
  induction n with
  | zero =>
    intro i4 u2 M hi hq
    have hz : (6 : Int32) ≤ nI i4 := by
      have q : i4 = 6 := by omega
      rw [q]; exact nI_le (Nat.le_refl _) (by decide)
    refine r_iload_n e_X0_isLike_4 rfl ?_
    refine r_bipush e_X0_isLike_5 bp_6 ?_
    refine r_icmp_ge e_X0_isLike_7 (fun _ => ?_) (fun hh => absurd hz hh)
    refine d_4_3 ?_
    (simp only [F_X0_isLike_4] at hq; first | exact hq | (simp only []; exact hq))
  | succ n ih =>
    intro i4 u2 M hi hq
    have hlt_i4 : i4 < 6 := by omega
    have hcl_i4 : (nI i4).toNatClampNeg = i4 := nI_clamp (by omega)
    have hs : ¬ (6 : Int32) ≤ nI i4 := nI_ge (b := 6) hlt_i4 (by decide)
    refine r_iload_n e_X0_isLike_4 rfl ?_
    refine r_bipush e_X0_isLike_5 bp_6 ?_
    refine r_icmp_ge e_X0_isLike_7 (fun hh => absurd hh hs) (fun _ => ?_)
    refine r_iload_n e_X0_isLike_10 rfl ?_
    obtain ⟨v400_0, e_v400_0⟩ : ∃ z : Int32, z = (if u2 = 0 then (0 : Int32) else (if (V_X0_shown a (nI i4) M) = (V_X0_shown x1 (nI i4) M) then (1 : Int32) else (0 : Int32))) := ⟨_, rfl⟩
    have z_v400_0 : v400_0 = 0 ∨ v400_0 = 1 := by rw [e_v400_0]; exact (zi (Or.inl rfl) (zi (Or.inr rfl) (Or.inl rfl)))
    suffices j32_400 : WP m_X0_isLike Q 32 [some (.ref a), some (.ref x1), some (.int u2), some (.int (nI i4))] [.int v400_0] sh M 0 0 by
      refine r_if_eq e_X0_isLike_11 (fun h11_400 => ?_) (fun h11_400 => ?_)
      · refine r_iconst e_X0_isLike_31 ic_0 ?_
        rw [show v400_0 = (0 : Int32) from (e_v400_0.trans (if_pos h11_400))] at j32_400; exact j32_400
      · refine r_aload_n e_X0_isLike_14 rfl ?_
        refine r_iload_n e_X0_isLike_15 rfl ?_
        refine cV1v e_X0_isLike_16 cl_X0_75 ⟨Nat.le_of_ble_eq_true rfl, Nat.le_of_ble_eq_true rfl⟩ ⟨rfl, rfl⟩ k0 (Nat.le_of_ble_eq_true rfl) (S_X0_shown hb1) ?_
        refine r_aload_n e_X0_isLike_19 rfl ?_
        refine r_iload_n e_X0_isLike_20 rfl ?_
        refine cV1v e_X0_isLike_21 cl_X0_75 ⟨Nat.le_of_ble_eq_true rfl, Nat.le_of_ble_eq_true rfl⟩ ⟨rfl, rfl⟩ k1 (Nat.le_of_ble_eq_true rfl) (S_X0_shown hb2) ?_
        refine r_icmp_ne e_X0_isLike_24 (fun h24_401 => ?_) (fun h24_401 => ?_)
        · refine r_iconst e_X0_isLike_31 ic_0 ?_
          rw [show v400_0 = (0 : Int32) from ((e_v400_0.trans (if_neg h11_400)).trans (if_neg h24_401))] at j32_400; exact j32_400
        · refine r_iconst e_X0_isLike_27 ic_1 ?_
          refine r_goto e_X0_isLike_28 ?_
          rw [show v400_0 = (1 : Int32) from ((e_v400_0.trans (if_neg h11_400)).trans (if_pos h24_401))] at j32_400; exact j32_400
    refine p_istore_n_4_2 e_X0_isLike_32 rfl rfl ?_
    refine p_iinc_4_3 e_X0_isLike_33 rfl ic_1 rfl ?_
    rw [nI_1 i4]
    refine r_goto e_X0_isLike_36 ?_
    (subst e_v400_0; simp only [F_X0_isLike_4] at hq; first | exact ih (i4 + 1) _ _ (by omega) hq | (simp only []; exact ih (i4 + 1) _ _ (by omega) hq))
theorem ZF_X0_isLike_4 {a : Nat} {x1 : Nat} : ∀ (n i4 : Nat) (u2 : Int32) (M : Mem), (u2 = 0 ∨ u2 = 1) → F_X0_isLike_4 a x1 n i4 u2 M = 0 ∨ F_X0_isLike_4 a x1 n i4 u2 M = 1 := by
  intro n
  induction n with
  | zero => intro i4 u2 M h; exact h
  | succ n ih => intro i4 u2 M h; exact ih _ _ _ (zi (Or.inl rfl) (zi (Or.inr rfl) (Or.inl rfl)))
def V_X0_isLike (a : Nat) (x1 : Nat) (M : Mem) : Int32 := (F_X0_isLike_4 a x1 6 0 (1 : Int32) M)
theorem Z_X0_isLike {M : Mem} {a : Nat} {x1 : Nat}   : V_X0_isLike a x1 M = 0 ∨ V_X0_isLike a x1 M = 1 := (ZF_X0_isLike_4 _ _ _ _ (Or.inr rfl))
theorem S_X0_isLike {sh : List SC} {M : Mem} {a : Nat} {x1 : Nat}  (hb1 : BallAt sh a) (hb2 : BallAt sh x1)  : Gv m_X0_isLike [.ref a, .ref x1] sh M (.int (V_X0_isLike a x1 M)) M := by
  refine Sp.of (ls := [some (.ref a), some (.ref x1), none, none]) (by decide +kernel) (Nat.le_of_ble_eq_true rfl) rfl ?_
  refine r_iconst e_X0_isLike_0 ic_1 ?_
  refine p_istore_n_4_2 e_X0_isLike_1 rfl rfl ?_
  refine r_iconst e_X0_isLike_2 ic_0 ?_
  refine p_istore_n_4_3 e_X0_isLike_3 rfl rfl ?_
  skip
  show WP m_X0_isLike _ 4 [some (.ref a), some (.ref x1), some (.int (1 : Int32)), some (.int (nI 0))] [] sh M 0 0
  refine L_X0_isLike_4 hb1 hb2 6 0 (1 : Int32) M (by omega) ?_
  refine r_iload_n e_X0_isLike_39 rfl ?_
  refine r_zreturn e_X0_isLike_40 rfl ⟨rfl, rfl⟩ (ZF_X0_isLike_4 _ _ _ _ (by first | exact Or.inl rfl | exact Or.inr rfl)) ?_
  (refine ⟨?_, rfl, ?_⟩ <;> ((try unfold V_X0_isLike); (try simp only []); (try rfl)))
def F_X5_isLike_30 (a : Nat) (x1 : Nat) : Nat → Nat → Int32 → Mem → Int32
  | 0, i30, u2, M => u2
  | n + 1, i30, u2, M => (let v3002_0 : Int32 := if u2 = 0 then (0 : Int32) else (if (V_X10_at (a + 1) (nI i30) 4 M) = (V_X10_at (x1 + 1) (nI i30) 4 M) then (1 : Int32) else (0 : Int32)); (F_X5_isLike_30 a x1 n (i30 + 1) v3002_0 M))
theorem L_X5_isLike_30 {sh : List SC} {Q : Po} {a : Nat} {x1 : Nat}    (hb1 : RobotAt sh a) (hb2 : RobotAt sh x1)   : ∀ (n i30 : Nat) (u2 : Int32) (M : Mem), i30 + n = 4 → WP m_X5_isLike Q 70 [some (.ref a), some (.ref x1), some (.int (F_X5_isLike_30 a x1 n i30 u2 M)), none] [] sh M 0 0 → WP m_X5_isLike Q 30 [some (.ref a), some (.ref x1), some (.int u2), some (.int (nI i30))] [] sh M 0 0 := by
  have k0 : kd sh a = some (5 + 7, 0) := hb1.1
  have k1 : rf sh a 9 = some (a + 1) := hb1.2.1
  have k2 : kd sh (a + 1) = some (0, 4) := hb1.2.2
  have k3 : kd sh x1 = some (5 + 7, 0) := hb2.1
  have k4 : rf sh x1 9 = some (x1 + 1) := hb2.2.1
  have k5 : kd sh (x1 + 1) = some (0, 4) := hb2.2.2
  intro n
  induction n with
  | zero =>
    intro i30 u2 M hi hq
    have hz : (4 : Int32) ≤ nI i30 := by
      have q : i30 = 4 := by omega
      rw [q]; exact nI_le (Nat.le_refl _) (by decide)
    refine r_iload_n e_X5_isLike_30 rfl ?_
    refine r_iconst e_X5_isLike_31 ic_4 ?_
    refine r_icmp_ge e_X5_isLike_32 (fun _ => ?_) (fun hh => absurd hz hh)
    refine d_4_3 ?_
    (simp only [F_X5_isLike_30] at hq; first | exact hq | (simp only []; exact hq))
  | succ n ih =>
    intro i30 u2 M hi hq
    have hlt_i30 : i30 < 4 := by omega
    have hcl_i30 : (nI i30).toNatClampNeg = i30 := nI_clamp (by omega)
    have hs : ¬ (4 : Int32) ≤ nI i30 := nI_ge (b := 4) hlt_i30 (by decide)
    refine r_iload_n e_X5_isLike_30 rfl ?_
    refine r_iconst e_X5_isLike_31 ic_4 ?_
    refine r_icmp_ge e_X5_isLike_32 (fun hh => absurd hh hs) (fun _ => ?_)
    refine r_iload_n e_X5_isLike_35 rfl ?_
    obtain ⟨v3002_0, e_v3002_0⟩ : ∃ z : Int32, z = (if u2 = 0 then (0 : Int32) else (if (V_X10_at (a + 1) (nI i30) 4 M) = (V_X10_at (x1 + 1) (nI i30) 4 M) then (1 : Int32) else (0 : Int32))) := ⟨_, rfl⟩
    have z_v3002_0 : v3002_0 = 0 ∨ v3002_0 = 1 := by rw [e_v3002_0]; exact (zi (Or.inl rfl) (zi (Or.inr rfl) (Or.inl rfl)))
    suffices j63_3002 : WP m_X5_isLike Q 63 [some (.ref a), some (.ref x1), some (.int u2), some (.int (nI i30))] [.int v3002_0] sh M 0 0 by
      refine r_if_eq e_X5_isLike_36 (fun h36_3002 => ?_) (fun h36_3002 => ?_)
      · refine r_iconst e_X5_isLike_62 ic_0 ?_
        rw [show v3002_0 = (0 : Int32) from (e_v3002_0.trans (if_pos h36_3002))] at j63_3002; exact j63_3002
      · refine r_aload_n e_X5_isLike_39 rfl ?_
        refine r_getR e_X5_isLike_40 fl_X5_34 k0 k1 ?_
        refine r_iload_n e_X5_isLike_43 rfl ?_
        refine cSN2v e_X5_isLike_44 cl_X5_72 ⟨Nat.le_of_ble_eq_true rfl, Nat.le_of_ble_eq_true rfl⟩ ⟨rfl, rfl⟩  (Nat.le_of_ble_eq_true rfl) (S_X10_at k2 (by first | decide | (unfold vp_in; decide) | exact Or.inl rfl | exact Or.inr rfl)) ?_
        refine r_aload_n e_X5_isLike_47 rfl ?_
        refine r_getR e_X5_isLike_48 fl_X5_34 k3 k4 ?_
        refine r_iload_n e_X5_isLike_51 rfl ?_
        refine cSN2v e_X5_isLike_52 cl_X5_72 ⟨Nat.le_of_ble_eq_true rfl, Nat.le_of_ble_eq_true rfl⟩ ⟨rfl, rfl⟩  (Nat.le_of_ble_eq_true rfl) (S_X10_at k5 (by first | decide | (unfold vp_in; decide) | exact Or.inl rfl | exact Or.inr rfl)) ?_
        refine r_icmp_ne e_X5_isLike_55 (fun h55_3003 => ?_) (fun h55_3003 => ?_)
        · refine r_iconst e_X5_isLike_62 ic_0 ?_
          rw [show v3002_0 = (0 : Int32) from ((e_v3002_0.trans (if_neg h36_3002)).trans (if_neg h55_3003))] at j63_3002; exact j63_3002
        · refine r_iconst e_X5_isLike_58 ic_1 ?_
          refine r_goto e_X5_isLike_59 ?_
          rw [show v3002_0 = (1 : Int32) from ((e_v3002_0.trans (if_neg h36_3002)).trans (if_pos h55_3003))] at j63_3002; exact j63_3002
    refine p_istore_n_4_2 e_X5_isLike_63 rfl rfl ?_
    refine p_iinc_4_3 e_X5_isLike_64 rfl ic_1 rfl ?_
    rw [nI_1 i30]
    refine r_goto e_X5_isLike_67 ?_
    (subst e_v3002_0; simp only [F_X5_isLike_30] at hq; first | exact ih (i30 + 1) _ _ (by omega) hq | (simp only []; exact ih (i30 + 1) _ _ (by omega) hq))
theorem ZF_X5_isLike_30 {a : Nat} {x1 : Nat} : ∀ (n i30 : Nat) (u2 : Int32) (M : Mem), (u2 = 0 ∨ u2 = 1) → F_X5_isLike_30 a x1 n i30 u2 M = 0 ∨ F_X5_isLike_30 a x1 n i30 u2 M = 1 := by
  intro n
  induction n with
  | zero => intro i30 u2 M h; exact h
  | succ n ih => intro i30 u2 M h; exact ih _ _ _ (zi (Or.inl rfl) (zi (Or.inr rfl) (Or.inl rfl)))
def V_X5_isLike (a : Nat) (x1 : Nat) (M : Mem) : Int32 := (let v0_0 : Int32 := if (M.1 a 7) = (M.1 x1 7) then (if (M.1 a 8) = (M.1 x1 8) then (1 : Int32) else (0 : Int32)) else (0 : Int32); (F_X5_isLike_30 a x1 4 0 v0_0 M))
theorem Z_X5_isLike {M : Mem} {a : Nat} {x1 : Nat}   : V_X5_isLike a x1 M = 0 ∨ V_X5_isLike a x1 M = 1 := (ZF_X5_isLike_30 _ _ _ _ (zi (zi (Or.inr rfl) (Or.inl rfl)) (Or.inl rfl)))
theorem S_X5_isLike {sh : List SC} {M : Mem} {a : Nat} {x1 : Nat}  (hb1 : RobotAt sh a) (hb2 : RobotAt sh x1)  : Gv m_X5_isLike [.ref a, .ref x1] sh M (.int (V_X5_isLike a x1 M)) M := by
  refine Sp.of (ls := [some (.ref a), some (.ref x1), none, none]) (by decide +kernel) (Nat.le_of_ble_eq_true rfl) rfl ?_
  have k0 : kd sh a = some (5 + 7, 0) := hb1.1
  have k1 : kd sh x1 = some (5 + 7, 0) := hb2.1
  refine r_aload_n e_X5_isLike_0 rfl ?_
  refine r_getI e_X5_isLike_1 fl_X5_27 i0 k0 ?_
  refine r_aload_n e_X5_isLike_4 rfl ?_
  refine r_getI e_X5_isLike_5 fl_X5_27 i0 k1 ?_
  obtain ⟨v0_0, e_v0_0⟩ : ∃ z : Int32, z = (if (M.1 a 7) = (M.1 x1 7) then (if (M.1 a 8) = (M.1 x1 8) then (1 : Int32) else (0 : Int32)) else (0 : Int32)) := ⟨_, rfl⟩
  have z_v0_0 : v0_0 = 0 ∨ v0_0 = 1 := by rw [e_v0_0]; exact (zi (zi (Or.inr rfl) (Or.inl rfl)) (Or.inl rfl))
  suffices j27_0 : WP m_X5_isLike (fun r sh' M'' => r = some (.int (V_X5_isLike a x1 M)) ∧ sh' = sh ∧ M'' = M) 27 [some (.ref a), some (.ref x1), none, none] [.int v0_0] sh M 0 0 by
    refine r_icmp_ne e_X5_isLike_8 (fun h8_0 => ?_) (fun h8_0 => ?_)
    · refine r_iconst e_X5_isLike_26 ic_0 ?_
      rw [show v0_0 = (0 : Int32) from (e_v0_0.trans (if_neg h8_0))] at j27_0; exact j27_0
    · refine r_aload_n e_X5_isLike_11 rfl ?_
      refine r_getI e_X5_isLike_12 fl_X5_30 i3 k0 ?_
      refine r_aload_n e_X5_isLike_15 rfl ?_
      refine r_getI e_X5_isLike_16 fl_X5_30 i3 k1 ?_
      refine r_icmp_ne e_X5_isLike_19 (fun h19_1 => ?_) (fun h19_1 => ?_)
      · refine r_iconst e_X5_isLike_26 ic_0 ?_
        rw [show v0_0 = (0 : Int32) from ((e_v0_0.trans (if_pos h8_0)).trans (if_neg h19_1))] at j27_0; exact j27_0
      · refine r_iconst e_X5_isLike_22 ic_1 ?_
        refine r_goto e_X5_isLike_23 ?_
        rw [show v0_0 = (1 : Int32) from ((e_v0_0.trans (if_pos h8_0)).trans (if_pos h19_1))] at j27_0; exact j27_0
  refine p_istore_n_4_2 e_X5_isLike_27 rfl rfl ?_
  refine r_iconst e_X5_isLike_28 ic_0 ?_
  refine p_istore_n_4_3 e_X5_isLike_29 rfl rfl ?_
  skip
  show WP m_X5_isLike _ 30 [some (.ref a), some (.ref x1), some (.int v0_0), some (.int (nI 0))] [] sh M 0 0
  refine L_X5_isLike_30 hb1 hb2 4 0 v0_0 M (by omega) ?_
  refine r_iload_n e_X5_isLike_70 rfl ?_
  refine r_zreturn e_X5_isLike_71 rfl ⟨rfl, rfl⟩ (ZF_X5_isLike_30 _ _ _ _ z_v0_0) ?_
  (subst e_v0_0; refine ⟨?_, rfl, ?_⟩ <;> ((try unfold V_X5_isLike); (try simp only []); (try rfl)))
def F_X1_clear_7 (a : Nat) (x1 : Int32) : Nat → Nat → Mem → Mem
  | 0, i7, M => M
  | n + 1, i7, M => (let Mc1001 : Mem := U_X10_put (a + 3) (nI i7) (0 : Int32) 4 (U_X10_put (a + 2) (nI i7) (0 : Int32) 4 (U_X10_put (a + 1) (nI i7) (0 : Int32) 4 M)); (F_X1_clear_7 a x1 n (i7 + 1) Mc1001))
theorem L_X1_clear_7 {sh : List SC} {Q : Po} {a : Nat} {x1 : Int32}    (hb1 : LeagueAt sh a)   : ∀ (n i7 : Nat) (M : Mem), i7 + n = 4 → WP m_X1_clear Q 45 [some (.ref a), some (.int x1), none] [] sh (F_X1_clear_7 a x1 n i7 M) 0 0 → WP m_X1_clear Q 7 [some (.ref a), some (.int x1), some (.int (nI i7))] [] sh M 0 0 := by
  have k0 : kd sh a = some (1 + 7, 0) := hb1.1
  have k1 : rf sh a 1 = some (a + 1) := hb1.2.1
  have k2 : kd sh (a + 1) = some (0, 4) := hb1.2.2.2.2.1
  have k3 : rf sh a 2 = some (a + 2) := hb1.2.2.1
  have k4 : kd sh (a + 2) = some (0, 4) := hb1.2.2.2.2.2.1
  have k5 : rf sh a 3 = some (a + 3) := hb1.2.2.2.1
  have k6 : kd sh (a + 3) = some (0, 4) := hb1.2.2.2.2.2.2
  intro n
  induction n with
  | zero =>
    intro i7 M hi hq
    have hz : (4 : Int32) ≤ nI i7 := by
      have q : i7 = 4 := by omega
      rw [q]; exact nI_le (Nat.le_refl _) (by decide)
    refine r_iload_n e_X1_clear_7 rfl ?_
    refine r_iconst e_X1_clear_8 ic_4 ?_
    refine r_icmp_ge e_X1_clear_9 (fun _ => ?_) (fun hh => absurd hz hh)
    refine d_3_2 ?_
    (simp only [F_X1_clear_7] at hq; first | exact hq | (simp only []; exact hq))
  | succ n ih =>
    intro i7 M hi hq
    have hlt_i7 : i7 < 4 := by omega
    have hcl_i7 : (nI i7).toNatClampNeg = i7 := nI_clamp (by omega)
    have hs : ¬ (4 : Int32) ≤ nI i7 := nI_ge (b := 4) hlt_i7 (by decide)
    refine r_iload_n e_X1_clear_7 rfl ?_
    refine r_iconst e_X1_clear_8 ic_4 ?_
    refine r_icmp_ge e_X1_clear_9 (fun hh => absurd hh hs) (fun _ => ?_)
    refine r_aload_n e_X1_clear_12 rfl ?_
    refine r_getR e_X1_clear_13 fl_X1_15 k0 k1 ?_
    refine r_iload_n e_X1_clear_16 rfl ?_
    refine r_iconst e_X1_clear_17 ic_0 ?_
    refine cSN3u e_X1_clear_18 cl_X1_25 ⟨Nat.le_of_ble_eq_true rfl, Nat.le_of_ble_eq_true rfl⟩ ⟨rfl, rfl⟩  (Nat.le_of_ble_eq_true rfl) (S_X10_put k2 (by first | decide | (unfold vp_in; decide) | exact Or.inl rfl | exact Or.inr rfl)) ?_
    refine r_aload_n e_X1_clear_21 rfl ?_
    refine r_getR e_X1_clear_22 fl_X1_19 k0 k3 ?_
    refine r_iload_n e_X1_clear_25 rfl ?_
    refine r_iconst e_X1_clear_26 ic_0 ?_
    refine cSN3u e_X1_clear_27 cl_X1_25 ⟨Nat.le_of_ble_eq_true rfl, Nat.le_of_ble_eq_true rfl⟩ ⟨rfl, rfl⟩  (Nat.le_of_ble_eq_true rfl) (S_X10_put k4 (by first | decide | (unfold vp_in; decide) | exact Or.inl rfl | exact Or.inr rfl)) ?_
    refine r_aload_n e_X1_clear_30 rfl ?_
    refine r_getR e_X1_clear_31 fl_X1_22 k0 k5 ?_
    refine r_iload_n e_X1_clear_34 rfl ?_
    refine r_iconst e_X1_clear_35 ic_0 ?_
    refine cSN3u e_X1_clear_36 cl_X1_25 ⟨Nat.le_of_ble_eq_true rfl, Nat.le_of_ble_eq_true rfl⟩ ⟨rfl, rfl⟩  (Nat.le_of_ble_eq_true rfl) (S_X10_put k6 (by first | decide | (unfold vp_in; decide) | exact Or.inl rfl | exact Or.inr rfl)) ?_
    obtain ⟨Mc1001, e_Mc1001⟩ : ∃ z : Mem, z = (U_X10_put (a + 3) (nI i7) (0 : Int32) 4 (U_X10_put (a + 2) (nI i7) (0 : Int32) 4 (U_X10_put (a + 1) (nI i7) (0 : Int32) 4 M))) := ⟨_, rfl⟩
    rw [← e_Mc1001]
    refine p_iinc_3_2 e_X1_clear_39 rfl ic_1 rfl ?_
    rw [nI_1 i7]
    refine r_goto e_X1_clear_42 ?_
    (subst e_Mc1001; simp only [F_X1_clear_7] at hq; first | exact ih (i7 + 1) _ (by omega) hq | (simp only []; exact ih (i7 + 1) _ (by omega) hq))
def U_X1_clear (a : Nat) (x1 : Int32) (M : Mem) : Mem := (F_X1_clear_7 a x1 4 0 (setI M a 0 x1))
theorem S_X1_clear {sh : List SC} {M : Mem} {a : Nat} {x1 : Int32}  (hb1 : LeagueAt sh a)  : Gu m_X1_clear [.ref a, .int x1] sh M (U_X1_clear a x1 M) := by
  refine Sp.of (ls := [some (.ref a), some (.int x1), none]) (by decide +kernel) (Nat.le_of_ble_eq_true rfl) rfl ?_
  have k0 : kd sh a = some (1 + 7, 0) := hb1.1
  refine r_aload_n e_X1_clear_0 rfl ?_
  refine r_iload_n e_X1_clear_1 rfl ?_
  refine r_putI e_X1_clear_2 fl_X1_9 k0 ?_
  refine r_iconst e_X1_clear_5 ic_0 ?_
  refine p_istore_n_3_2 e_X1_clear_6 rfl rfl ?_
  skip
  show WP m_X1_clear _ 7 [some (.ref a), some (.int x1), some (.int (nI 0))] [] sh (setI M a 0 x1) 0 0
  refine L_X1_clear_7 hb1 4 0  (setI M a 0 x1) (by omega) ?_
  refine r_return e_X1_clear_45 rfl ⟨rfl, rfl⟩ ?_
  (refine ⟨?_, rfl, ?_⟩ <;> ((try unfold U_X1_clear); (try simp only []); (try rfl)))
def V_X1_has (a : Nat) (x1 : Int32) (M : Mem) : Int32 := (let v0_0 : Int32 := if x1 < 0 then (0 : Int32) else (if (4 : Int32) ≤ x1 then (0 : Int32) else (if (((M.1 a 0) >>> (x1 &&& 31)) &&& (1 : Int32)) = (1 : Int32) then (1 : Int32) else (0 : Int32))); v0_0)
theorem Z_X1_has {M : Mem} {a : Nat} {x1 : Int32}   : V_X1_has a x1 M = 0 ∨ V_X1_has a x1 M = 1 := (zi (Or.inl rfl) (zi (Or.inl rfl) (zi (Or.inr rfl) (Or.inl rfl))))
theorem S_X1_has {sh : List SC} {M : Mem} {a : Nat} {x1 : Int32}  (hb1 : LeagueAt sh a)  : Gv m_X1_has [.ref a, .int x1] sh M (.int (V_X1_has a x1 M)) M := by
  refine Sp.of (ls := [some (.ref a), some (.int x1)]) (by decide +kernel) (Nat.le_of_ble_eq_true rfl) rfl ?_
  have k0 : kd sh a = some (1 + 7, 0) := hb1.1
  refine r_iload_n e_X1_has_0 rfl ?_
  obtain ⟨v0_0, e_v0_0⟩ : ∃ z : Int32, z = (if x1 < 0 then (0 : Int32) else (if (4 : Int32) ≤ x1 then (0 : Int32) else (if (((M.1 a 0) >>> (x1 &&& 31)) &&& (1 : Int32)) = (1 : Int32) then (1 : Int32) else (0 : Int32)))) := ⟨_, rfl⟩
  have z_v0_0 : v0_0 = 0 ∨ v0_0 = 1 := by rw [e_v0_0]; exact (zi (Or.inl rfl) (zi (Or.inl rfl) (zi (Or.inr rfl) (Or.inl rfl))))
  suffices j26_0 : WP m_X1_has (fun r sh' M'' => r = some (.int (V_X1_has a x1 M)) ∧ sh' = sh ∧ M'' = M) 26 [some (.ref a), some (.int x1)] [.int v0_0] sh M 0 0 by
    refine r_if_lt e_X1_has_1 (fun h1_0 => ?_) (fun h1_0 => ?_)
    · refine r_iconst e_X1_has_25 ic_0 ?_
      rw [show v0_0 = (0 : Int32) from (e_v0_0.trans (if_pos h1_0))] at j26_0; exact j26_0
    · refine r_iload_n e_X1_has_4 rfl ?_
      refine r_iconst e_X1_has_5 ic_4 ?_
      refine r_icmp_ge e_X1_has_6 (fun h6_1 => ?_) (fun h6_1 => ?_)
      · refine r_iconst e_X1_has_25 ic_0 ?_
        rw [show v0_0 = (0 : Int32) from ((e_v0_0.trans (if_neg h1_0)).trans (if_pos h6_1))] at j26_0; exact j26_0
      · refine r_aload_n e_X1_has_9 rfl ?_
        refine r_getI e_X1_has_10 fl_X1_9 i0 k0 ?_
        refine r_iload_n e_X1_has_13 rfl ?_
        refine r_ishr e_X1_has_14 ?_
        refine r_iconst e_X1_has_15 ic_1 ?_
        refine r_iand e_X1_has_16 ?_
        refine r_iconst e_X1_has_17 ic_1 ?_
        refine r_icmp_ne e_X1_has_18 (fun h18_2 => ?_) (fun h18_2 => ?_)
        · refine r_iconst e_X1_has_25 ic_0 ?_
          rw [show v0_0 = (0 : Int32) from (((e_v0_0.trans (if_neg h1_0)).trans (if_neg h6_1)).trans (if_neg h18_2))] at j26_0; exact j26_0
        · refine r_iconst e_X1_has_21 ic_1 ?_
          refine r_goto e_X1_has_22 ?_
          rw [show v0_0 = (1 : Int32) from (((e_v0_0.trans (if_neg h1_0)).trans (if_neg h6_1)).trans (if_pos h18_2))] at j26_0; exact j26_0
  refine r_zreturn e_X1_has_26 rfl ⟨rfl, rfl⟩ z_v0_0 ?_
  (subst e_v0_0; refine ⟨?_, rfl, ?_⟩ <;> ((try unfold V_X1_has); (try simp only []); (try rfl)))
def U_X1_enterFor (a : Nat) (x1 : Int32) (x2 : Int32) (x3 : Int32) (M : Mem) : Mem := (let v0_0 : Int32 := if x2 ≤ x3 then (if x2 = x3 then (1 : Int32) else (0 : Int32)) else (3 : Int32); let Mc1 : Mem := U_X10_put (a + 2) x1 ((V_X10_at (a + 2) x1 4 (U_X10_put (a + 1) x1 ((V_X10_at (a + 1) x1 4 M) + v0_0) 4 M)) + x2) 4 (U_X10_put (a + 1) x1 ((V_X10_at (a + 1) x1 4 M) + v0_0) 4 M); U_X10_put (a + 3) x1 ((V_X10_at (a + 3) x1 4 Mc1) + x3) 4 Mc1)
theorem S_X1_enterFor {sh : List SC} {M : Mem} {a : Nat} {x1 : Int32} {x2 : Int32} {x3 : Int32}  (hb1 : LeagueAt sh a)  : Gu m_X1_enterFor [.ref a, .int x1, .int x2, .int x3] sh M (U_X1_enterFor a x1 x2 x3 M) := by
  refine Sp.of (ls := [some (.ref a), some (.int x1), some (.int x2), some (.int x3), none]) (by decide +kernel) (Nat.le_of_ble_eq_true rfl) rfl ?_
  have k0 : kd sh a = some (1 + 7, 0) := hb1.1
  have k1 : rf sh a 1 = some (a + 1) := hb1.2.1
  have k2 : kd sh (a + 1) = some (0, 4) := hb1.2.2.2.2.1
  have k3 : rf sh a 2 = some (a + 2) := hb1.2.2.1
  have k4 : kd sh (a + 2) = some (0, 4) := hb1.2.2.2.2.2.1
  have k5 : rf sh a 3 = some (a + 3) := hb1.2.2.2.1
  have k6 : kd sh (a + 3) = some (0, 4) := hb1.2.2.2.2.2.2
  refine r_iload_n e_X1_enterFor_0 rfl ?_
  refine r_iload_n e_X1_enterFor_1 rfl ?_
  obtain ⟨v0_0, e_v0_0⟩ : ∃ z : Int32, z = (if x2 ≤ x3 then (if x2 = x3 then (1 : Int32) else (0 : Int32)) else (3 : Int32)) := ⟨_, rfl⟩
  suffices j19_0 : WP m_X1_enterFor (fun r sh' M'' => r = none ∧ sh' = sh ∧ M'' = (U_X1_enterFor a x1 x2 x3 M)) 19 [some (.ref a), some (.int x1), some (.int x2), some (.int x3), none] [.int v0_0] sh M 0 0 by
    refine r_icmp_le e_X1_enterFor_2 (fun h2_0 => ?_) (fun h2_0 => ?_)
    · refine r_iload_n e_X1_enterFor_9 rfl ?_
      refine r_iload_n e_X1_enterFor_10 rfl ?_
      refine r_icmp_ne e_X1_enterFor_11 (fun h11_1 => ?_) (fun h11_1 => ?_)
      · refine r_iconst e_X1_enterFor_18 ic_0 ?_
        rw [show v0_0 = (0 : Int32) from ((e_v0_0.trans (if_pos h2_0)).trans (if_neg h11_1))] at j19_0; exact j19_0
      · refine r_iconst e_X1_enterFor_14 ic_1 ?_
        refine r_goto e_X1_enterFor_15 ?_
        rw [show v0_0 = (1 : Int32) from ((e_v0_0.trans (if_pos h2_0)).trans (if_pos h11_1))] at j19_0; exact j19_0
    · refine r_iconst e_X1_enterFor_5 ic_3 ?_
      refine r_goto e_X1_enterFor_6 ?_
      rw [show v0_0 = (3 : Int32) from (e_v0_0.trans (if_neg h2_0))] at j19_0; exact j19_0
  refine p_istore_5_4 e_X1_enterFor_19 rfl rfl ?_
  refine r_aload_n e_X1_enterFor_21 rfl ?_
  refine r_getR e_X1_enterFor_22 fl_X1_15 k0 k1 ?_
  refine r_iload_n e_X1_enterFor_25 rfl ?_
  refine r_aload_n e_X1_enterFor_26 rfl ?_
  refine r_getR e_X1_enterFor_27 fl_X1_15 k0 k1 ?_
  refine r_iload_n e_X1_enterFor_30 rfl ?_
  refine cSN2v e_X1_enterFor_31 cl_X1_33 ⟨Nat.le_of_ble_eq_true rfl, Nat.le_of_ble_eq_true rfl⟩ ⟨rfl, rfl⟩  (Nat.le_of_ble_eq_true rfl) (S_X10_at k2 (by first | decide | (unfold vp_in; decide) | exact Or.inl rfl | exact Or.inr rfl)) ?_
  refine r_iload e_X1_enterFor_34 rfl ?_
  refine r_iadd e_X1_enterFor_36 ?_
  refine cSN3u e_X1_enterFor_37 cl_X1_25 ⟨Nat.le_of_ble_eq_true rfl, Nat.le_of_ble_eq_true rfl⟩ ⟨rfl, rfl⟩  (Nat.le_of_ble_eq_true rfl) (S_X10_put k2 (by first | decide | (unfold vp_in; decide) | exact Or.inl rfl | exact Or.inr rfl)) ?_
  refine r_aload_n e_X1_enterFor_40 rfl ?_
  refine r_getR e_X1_enterFor_41 fl_X1_19 k0 k3 ?_
  refine r_iload_n e_X1_enterFor_44 rfl ?_
  refine r_aload_n e_X1_enterFor_45 rfl ?_
  refine r_getR e_X1_enterFor_46 fl_X1_19 k0 k3 ?_
  refine r_iload_n e_X1_enterFor_49 rfl ?_
  refine cSN2v e_X1_enterFor_50 cl_X1_33 ⟨Nat.le_of_ble_eq_true rfl, Nat.le_of_ble_eq_true rfl⟩ ⟨rfl, rfl⟩  (Nat.le_of_ble_eq_true rfl) (S_X10_at k4 (by first | decide | (unfold vp_in; decide) | exact Or.inl rfl | exact Or.inr rfl)) ?_
  refine r_iload_n e_X1_enterFor_53 rfl ?_
  refine r_iadd e_X1_enterFor_54 ?_
  refine cSN3u e_X1_enterFor_55 cl_X1_25 ⟨Nat.le_of_ble_eq_true rfl, Nat.le_of_ble_eq_true rfl⟩ ⟨rfl, rfl⟩  (Nat.le_of_ble_eq_true rfl) (S_X10_put k4 (by first | decide | (unfold vp_in; decide) | exact Or.inl rfl | exact Or.inr rfl)) ?_
  obtain ⟨Mc1, e_Mc1⟩ : ∃ z : Mem, z = (U_X10_put (a + 2) x1 ((V_X10_at (a + 2) x1 4 (U_X10_put (a + 1) x1 ((V_X10_at (a + 1) x1 4 M) + v0_0) 4 M)) + x2) 4 (U_X10_put (a + 1) x1 ((V_X10_at (a + 1) x1 4 M) + v0_0) 4 M)) := ⟨_, rfl⟩
  rw [← e_Mc1]
  refine r_aload_n e_X1_enterFor_58 rfl ?_
  refine r_getR e_X1_enterFor_59 fl_X1_22 k0 k5 ?_
  refine r_iload_n e_X1_enterFor_62 rfl ?_
  refine r_aload_n e_X1_enterFor_63 rfl ?_
  refine r_getR e_X1_enterFor_64 fl_X1_22 k0 k5 ?_
  refine r_iload_n e_X1_enterFor_67 rfl ?_
  refine cSN2v e_X1_enterFor_68 cl_X1_33 ⟨Nat.le_of_ble_eq_true rfl, Nat.le_of_ble_eq_true rfl⟩ ⟨rfl, rfl⟩  (Nat.le_of_ble_eq_true rfl) (S_X10_at k6 (by first | decide | (unfold vp_in; decide) | exact Or.inl rfl | exact Or.inr rfl)) ?_
  refine r_iload_n e_X1_enterFor_71 rfl ?_
  refine r_iadd e_X1_enterFor_72 ?_
  refine cSN3u e_X1_enterFor_73 cl_X1_25 ⟨Nat.le_of_ble_eq_true rfl, Nat.le_of_ble_eq_true rfl⟩ ⟨rfl, rfl⟩  (Nat.le_of_ble_eq_true rfl) (S_X10_put k6 (by first | decide | (unfold vp_in; decide) | exact Or.inl rfl | exact Or.inr rfl)) ?_
  refine r_return e_X1_enterFor_76 rfl ⟨rfl, rfl⟩ ?_
  (subst e_Mc1 e_v0_0; refine ⟨?_, rfl, ?_⟩ <;> ((try unfold U_X1_enterFor); (try simp only []); (try rfl)))
def V_X1_shown (a : Nat) (x1 : Int32) (x2 : Int32) (M : Mem) : Int32 := if x2 = 0 then (V_X10_at (a + 1) x1 4 M) else (if x2 = (1 : Int32) then (V_X10_at (a + 2) x1 4 M) else (V_X10_at (a + 3) x1 4 M))
theorem S_X1_shown {sh : List SC} {M : Mem} {a : Nat} {x1 : Int32} {x2 : Int32}  (hb1 : LeagueAt sh a)  : Gv m_X1_shown [.ref a, .int x1, .int x2] sh M (.int (V_X1_shown a x1 x2 M)) M := by
  refine Sp.of (ls := [some (.ref a), some (.int x1), some (.int x2)]) (by decide +kernel) (Nat.le_of_ble_eq_true rfl) rfl ?_
  have k0 : kd sh a = some (1 + 7, 0) := hb1.1
  have k1 : rf sh a 3 = some (a + 3) := hb1.2.2.2.1
  have k2 : kd sh (a + 3) = some (0, 4) := hb1.2.2.2.2.2.2
  have k3 : rf sh a 2 = some (a + 2) := hb1.2.2.1
  have k4 : kd sh (a + 2) = some (0, 4) := hb1.2.2.2.2.2.1
  have k5 : rf sh a 1 = some (a + 1) := hb1.2.1
  have k6 : kd sh (a + 1) = some (0, 4) := hb1.2.2.2.2.1
  refine r_iload_n e_X1_shown_0 rfl ?_
  refine r_if_ne e_X1_shown_1 (fun h1_0 => ?_) (fun h1_0 => ?_)
  · refine r_iload_n e_X1_shown_11 rfl ?_
    refine r_iconst e_X1_shown_12 ic_1 ?_
    refine r_icmp_ne e_X1_shown_13 (fun h13_1 => ?_) (fun h13_1 => ?_)
    · refine r_aload_n e_X1_shown_23 rfl ?_
      refine r_getR e_X1_shown_24 fl_X1_22 k0 k1 ?_
      refine r_iload_n e_X1_shown_27 rfl ?_
      refine cSN2v e_X1_shown_28 cl_X1_33 ⟨Nat.le_of_ble_eq_true rfl, Nat.le_of_ble_eq_true rfl⟩ ⟨rfl, rfl⟩  (Nat.le_of_ble_eq_true rfl) (S_X10_at k2 (by first | decide | (unfold vp_in; decide) | exact Or.inl rfl | exact Or.inr rfl)) ?_
      refine r_ireturn e_X1_shown_31 rfl ⟨rfl, rfl⟩ ?_
      (refine ⟨?_, rfl, ?_⟩ <;> ((try unfold V_X1_shown); (try simp only [if_neg h1_0, if_neg h13_1]); (try rfl)))
    · refine r_aload_n e_X1_shown_16 rfl ?_
      refine r_getR e_X1_shown_17 fl_X1_19 k0 k3 ?_
      refine r_goto e_X1_shown_20 ?_
      refine r_iload_n e_X1_shown_27 rfl ?_
      refine cSN2v e_X1_shown_28 cl_X1_33 ⟨Nat.le_of_ble_eq_true rfl, Nat.le_of_ble_eq_true rfl⟩ ⟨rfl, rfl⟩  (Nat.le_of_ble_eq_true rfl) (S_X10_at k4 (by first | decide | (unfold vp_in; decide) | exact Or.inl rfl | exact Or.inr rfl)) ?_
      refine r_ireturn e_X1_shown_31 rfl ⟨rfl, rfl⟩ ?_
      (refine ⟨?_, rfl, ?_⟩ <;> ((try unfold V_X1_shown); (try simp only [if_neg h1_0, if_pos h13_1]); (try rfl)))
  · refine r_aload_n e_X1_shown_4 rfl ?_
    refine r_getR e_X1_shown_5 fl_X1_15 k0 k5 ?_
    refine r_goto e_X1_shown_8 ?_
    refine r_iload_n e_X1_shown_27 rfl ?_
    refine cSN2v e_X1_shown_28 cl_X1_33 ⟨Nat.le_of_ble_eq_true rfl, Nat.le_of_ble_eq_true rfl⟩ ⟨rfl, rfl⟩  (Nat.le_of_ble_eq_true rfl) (S_X10_at k6 (by first | decide | (unfold vp_in; decide) | exact Or.inl rfl | exact Or.inr rfl)) ?_
    refine r_ireturn e_X1_shown_31 rfl ⟨rfl, rfl⟩ ?_
    (refine ⟨?_, rfl, ?_⟩ <;> ((try unfold V_X1_shown); (try simp only [if_pos h1_0]); (try rfl)))
def V_X1_isAhead (a : Nat) (x1 : Int32) (x2 : Int32) (M : Mem) : Int32 := if ((V_X10_at (a + 1) x1 4 M) - (V_X10_at (a + 1) x2 4 M)) = 0 then (if ((((V_X10_at (a + 2) x1 4 M) - (V_X10_at (a + 2) x2 4 M)) - (V_X10_at (a + 3) x1 4 M)) + (V_X10_at (a + 3) x2 4 M)) = 0 then (let v2_0 : Int32 := if ((V_X10_at (a + 2) x1 4 M) - (V_X10_at (a + 2) x2 4 M)) = 0 then (if x2 ≤ x1 then (0 : Int32) else (1 : Int32)) else (if ((V_X10_at (a + 2) x1 4 M) - (V_X10_at (a + 2) x2 4 M)) ≤ 0 then (0 : Int32) else (1 : Int32)); v2_0) else (let v5_0 : Int32 := if ((((V_X10_at (a + 2) x1 4 M) - (V_X10_at (a + 2) x2 4 M)) - (V_X10_at (a + 3) x1 4 M)) + (V_X10_at (a + 3) x2 4 M)) ≤ 0 then (0 : Int32) else (1 : Int32); v5_0)) else (let v6_0 : Int32 := if ((V_X10_at (a + 1) x1 4 M) - (V_X10_at (a + 1) x2 4 M)) ≤ 0 then (0 : Int32) else (1 : Int32); v6_0)
theorem Z_X1_isAhead {M : Mem} {a : Nat} {x1 : Int32} {x2 : Int32}   : V_X1_isAhead a x1 x2 M = 0 ∨ V_X1_isAhead a x1 x2 M = 1 := (zi (zi (zi (zi (Or.inl rfl) (Or.inr rfl)) (zi (Or.inl rfl) (Or.inr rfl))) (zi (Or.inl rfl) (Or.inr rfl))) (zi (Or.inl rfl) (Or.inr rfl)))
theorem S_X1_isAhead {sh : List SC} {M : Mem} {a : Nat} {x1 : Int32} {x2 : Int32}  (hb1 : LeagueAt sh a)  : Gv m_X1_isAhead [.ref a, .int x1, .int x2] sh M (.int (V_X1_isAhead a x1 x2 M)) M := by
  refine Sp.of (ls := [some (.ref a), some (.int x1), some (.int x2), none, none, none]) (by decide +kernel) (Nat.le_of_ble_eq_true rfl) rfl ?_
  have k0 : kd sh a = some (1 + 7, 0) := hb1.1
  have k1 : rf sh a 1 = some (a + 1) := hb1.2.1
  have k2 : kd sh (a + 1) = some (0, 4) := hb1.2.2.2.2.1
  have k3 : rf sh a 2 = some (a + 2) := hb1.2.2.1
  have k4 : kd sh (a + 2) = some (0, 4) := hb1.2.2.2.2.2.1
  have k5 : rf sh a 3 = some (a + 3) := hb1.2.2.2.1
  have k6 : kd sh (a + 3) = some (0, 4) := hb1.2.2.2.2.2.2
  refine r_aload_n e_X1_isAhead_0 rfl ?_
  refine r_getR e_X1_isAhead_1 fl_X1_15 k0 k1 ?_
  refine r_iload_n e_X1_isAhead_4 rfl ?_
  refine cSN2v e_X1_isAhead_5 cl_X1_33 ⟨Nat.le_of_ble_eq_true rfl, Nat.le_of_ble_eq_true rfl⟩ ⟨rfl, rfl⟩  (Nat.le_of_ble_eq_true rfl) (S_X10_at k2 (by first | decide | (unfold vp_in; decide) | exact Or.inl rfl | exact Or.inr rfl)) ?_
  refine r_aload_n e_X1_isAhead_8 rfl ?_
  refine r_getR e_X1_isAhead_9 fl_X1_15 k0 k1 ?_
  refine r_iload_n e_X1_isAhead_12 rfl ?_
  refine cSN2v e_X1_isAhead_13 cl_X1_33 ⟨Nat.le_of_ble_eq_true rfl, Nat.le_of_ble_eq_true rfl⟩ ⟨rfl, rfl⟩  (Nat.le_of_ble_eq_true rfl) (S_X10_at k2 (by first | decide | (unfold vp_in; decide) | exact Or.inl rfl | exact Or.inr rfl)) ?_
  refine r_isub e_X1_isAhead_16 ?_
  refine p_istore_n_6_3 e_X1_isAhead_17 rfl rfl ?_
  refine r_aload_n e_X1_isAhead_18 rfl ?_
  refine r_getR e_X1_isAhead_19 fl_X1_19 k0 k3 ?_
  refine r_iload_n e_X1_isAhead_22 rfl ?_
  refine cSN2v e_X1_isAhead_23 cl_X1_33 ⟨Nat.le_of_ble_eq_true rfl, Nat.le_of_ble_eq_true rfl⟩ ⟨rfl, rfl⟩  (Nat.le_of_ble_eq_true rfl) (S_X10_at k4 (by first | decide | (unfold vp_in; decide) | exact Or.inl rfl | exact Or.inr rfl)) ?_
  refine r_aload_n e_X1_isAhead_26 rfl ?_
  refine r_getR e_X1_isAhead_27 fl_X1_19 k0 k3 ?_
  refine r_iload_n e_X1_isAhead_30 rfl ?_
  refine cSN2v e_X1_isAhead_31 cl_X1_33 ⟨Nat.le_of_ble_eq_true rfl, Nat.le_of_ble_eq_true rfl⟩ ⟨rfl, rfl⟩  (Nat.le_of_ble_eq_true rfl) (S_X10_at k4 (by first | decide | (unfold vp_in; decide) | exact Or.inl rfl | exact Or.inr rfl)) ?_
  refine r_isub e_X1_isAhead_34 ?_
  refine p_istore_6_4 e_X1_isAhead_35 rfl rfl ?_
  refine r_iload e_X1_isAhead_37 rfl ?_
  refine r_aload_n e_X1_isAhead_39 rfl ?_
  refine r_getR e_X1_isAhead_40 fl_X1_22 k0 k5 ?_
  refine r_iload_n e_X1_isAhead_43 rfl ?_
  refine cSN2v e_X1_isAhead_44 cl_X1_33 ⟨Nat.le_of_ble_eq_true rfl, Nat.le_of_ble_eq_true rfl⟩ ⟨rfl, rfl⟩  (Nat.le_of_ble_eq_true rfl) (S_X10_at k6 (by first | decide | (unfold vp_in; decide) | exact Or.inl rfl | exact Or.inr rfl)) ?_
  refine r_isub e_X1_isAhead_47 ?_
  refine r_aload_n e_X1_isAhead_48 rfl ?_
  refine r_getR e_X1_isAhead_49 fl_X1_22 k0 k5 ?_
  refine r_iload_n e_X1_isAhead_52 rfl ?_
  refine cSN2v e_X1_isAhead_53 cl_X1_33 ⟨Nat.le_of_ble_eq_true rfl, Nat.le_of_ble_eq_true rfl⟩ ⟨rfl, rfl⟩  (Nat.le_of_ble_eq_true rfl) (S_X10_at k6 (by first | decide | (unfold vp_in; decide) | exact Or.inl rfl | exact Or.inr rfl)) ?_
  refine r_iadd e_X1_isAhead_56 ?_
  refine p_istore_6_5 e_X1_isAhead_57 rfl rfl ?_
  refine r_iload_n e_X1_isAhead_59 rfl ?_
  refine r_if_eq e_X1_isAhead_60 (fun h60_0 => ?_) (fun h60_0 => ?_)
  · refine r_iload e_X1_isAhead_73 rfl ?_
    refine r_if_eq e_X1_isAhead_75 (fun h75_1 => ?_) (fun h75_1 => ?_)
    · refine r_iload e_X1_isAhead_89 rfl ?_
      obtain ⟨v2_0, e_v2_0⟩ : ∃ z : Int32, z = (if ((V_X10_at (a + 2) x1 4 M) - (V_X10_at (a + 2) x2 4 M)) = 0 then (if x2 ≤ x1 then (0 : Int32) else (1 : Int32)) else (if ((V_X10_at (a + 2) x1 4 M) - (V_X10_at (a + 2) x2 4 M)) ≤ 0 then (0 : Int32) else (1 : Int32))) := ⟨_, rfl⟩
      have z_v2_0 : v2_0 = 0 ∨ v2_0 = 1 := by rw [e_v2_0]; exact (zi (zi (Or.inl rfl) (Or.inr rfl)) (zi (Or.inl rfl) (Or.inr rfl)))
      suffices j117_2 : WP m_X1_isAhead (fun r sh' M'' => r = some (.int (V_X1_isAhead a x1 x2 M)) ∧ sh' = sh ∧ M'' = M) 117 [some (.ref a), some (.int x1), some (.int x2), some (.int ((V_X10_at (a + 1) x1 4 M) - (V_X10_at (a + 1) x2 4 M))), some (.int ((V_X10_at (a + 2) x1 4 M) - (V_X10_at (a + 2) x2 4 M))), some (.int ((((V_X10_at (a + 2) x1 4 M) - (V_X10_at (a + 2) x2 4 M)) - (V_X10_at (a + 3) x1 4 M)) + (V_X10_at (a + 3) x2 4 M)))] [.int v2_0] sh M 0 0 by
        refine r_if_eq e_X1_isAhead_91 (fun h91_2 => ?_) (fun h91_2 => ?_)
        · refine r_iload_n e_X1_isAhead_107 rfl ?_
          refine r_iload_n e_X1_isAhead_108 rfl ?_
          refine r_icmp_ge e_X1_isAhead_109 (fun h109_3 => ?_) (fun h109_3 => ?_)
          · refine r_iconst e_X1_isAhead_116 ic_0 ?_
            rw [show v2_0 = (0 : Int32) from ((e_v2_0.trans (if_pos h91_2)).trans (if_pos h109_3))] at j117_2; exact j117_2
          · refine r_iconst e_X1_isAhead_112 ic_1 ?_
            refine r_goto e_X1_isAhead_113 ?_
            rw [show v2_0 = (1 : Int32) from ((e_v2_0.trans (if_pos h91_2)).trans (if_neg h109_3))] at j117_2; exact j117_2
        · refine r_iload e_X1_isAhead_94 rfl ?_
          refine r_if_le e_X1_isAhead_96 (fun h96_4 => ?_) (fun h96_4 => ?_)
          · refine r_iconst e_X1_isAhead_103 ic_0 ?_
            refine r_goto e_X1_isAhead_104 ?_
            rw [show v2_0 = (0 : Int32) from ((e_v2_0.trans (if_neg h91_2)).trans (if_pos h96_4))] at j117_2; exact j117_2
          · refine r_iconst e_X1_isAhead_99 ic_1 ?_
            refine r_goto e_X1_isAhead_100 ?_
            rw [show v2_0 = (1 : Int32) from ((e_v2_0.trans (if_neg h91_2)).trans (if_neg h96_4))] at j117_2; exact j117_2
      refine r_zreturn e_X1_isAhead_117 rfl ⟨rfl, rfl⟩ z_v2_0 ?_
      (subst e_v2_0; refine ⟨?_, rfl, ?_⟩ <;> ((try unfold V_X1_isAhead); (try simp only [if_pos h60_0, if_pos h75_1]); (try rfl)))
    · refine r_iload e_X1_isAhead_78 rfl ?_
      obtain ⟨v5_0, e_v5_0⟩ : ∃ z : Int32, z = (if ((((V_X10_at (a + 2) x1 4 M) - (V_X10_at (a + 2) x2 4 M)) - (V_X10_at (a + 3) x1 4 M)) + (V_X10_at (a + 3) x2 4 M)) ≤ 0 then (0 : Int32) else (1 : Int32)) := ⟨_, rfl⟩
      have z_v5_0 : v5_0 = 0 ∨ v5_0 = 1 := by rw [e_v5_0]; exact (zi (Or.inl rfl) (Or.inr rfl))
      suffices j88_5 : WP m_X1_isAhead (fun r sh' M'' => r = some (.int (V_X1_isAhead a x1 x2 M)) ∧ sh' = sh ∧ M'' = M) 88 [some (.ref a), some (.int x1), some (.int x2), some (.int ((V_X10_at (a + 1) x1 4 M) - (V_X10_at (a + 1) x2 4 M))), some (.int ((V_X10_at (a + 2) x1 4 M) - (V_X10_at (a + 2) x2 4 M))), some (.int ((((V_X10_at (a + 2) x1 4 M) - (V_X10_at (a + 2) x2 4 M)) - (V_X10_at (a + 3) x1 4 M)) + (V_X10_at (a + 3) x2 4 M)))] [.int v5_0] sh M 0 0 by
        refine r_if_le e_X1_isAhead_80 (fun h80_5 => ?_) (fun h80_5 => ?_)
        · refine r_iconst e_X1_isAhead_87 ic_0 ?_
          rw [show v5_0 = (0 : Int32) from (e_v5_0.trans (if_pos h80_5))] at j88_5; exact j88_5
        · refine r_iconst e_X1_isAhead_83 ic_1 ?_
          refine r_goto e_X1_isAhead_84 ?_
          rw [show v5_0 = (1 : Int32) from (e_v5_0.trans (if_neg h80_5))] at j88_5; exact j88_5
      refine r_zreturn e_X1_isAhead_88 rfl ⟨rfl, rfl⟩ z_v5_0 ?_
      (subst e_v5_0; refine ⟨?_, rfl, ?_⟩ <;> ((try unfold V_X1_isAhead); (try simp only [if_pos h60_0, if_neg h75_1]); (try rfl)))
  · refine r_iload_n e_X1_isAhead_63 rfl ?_
    obtain ⟨v6_0, e_v6_0⟩ : ∃ z : Int32, z = (if ((V_X10_at (a + 1) x1 4 M) - (V_X10_at (a + 1) x2 4 M)) ≤ 0 then (0 : Int32) else (1 : Int32)) := ⟨_, rfl⟩
    have z_v6_0 : v6_0 = 0 ∨ v6_0 = 1 := by rw [e_v6_0]; exact (zi (Or.inl rfl) (Or.inr rfl))
    suffices j72_6 : WP m_X1_isAhead (fun r sh' M'' => r = some (.int (V_X1_isAhead a x1 x2 M)) ∧ sh' = sh ∧ M'' = M) 72 [some (.ref a), some (.int x1), some (.int x2), some (.int ((V_X10_at (a + 1) x1 4 M) - (V_X10_at (a + 1) x2 4 M))), some (.int ((V_X10_at (a + 2) x1 4 M) - (V_X10_at (a + 2) x2 4 M))), some (.int ((((V_X10_at (a + 2) x1 4 M) - (V_X10_at (a + 2) x2 4 M)) - (V_X10_at (a + 3) x1 4 M)) + (V_X10_at (a + 3) x2 4 M)))] [.int v6_0] sh M 0 0 by
      refine r_if_le e_X1_isAhead_64 (fun h64_6 => ?_) (fun h64_6 => ?_)
      · refine r_iconst e_X1_isAhead_71 ic_0 ?_
        rw [show v6_0 = (0 : Int32) from (e_v6_0.trans (if_pos h64_6))] at j72_6; exact j72_6
      · refine r_iconst e_X1_isAhead_67 ic_1 ?_
        refine r_goto e_X1_isAhead_68 ?_
        rw [show v6_0 = (1 : Int32) from (e_v6_0.trans (if_neg h64_6))] at j72_6; exact j72_6
    refine r_zreturn e_X1_isAhead_72 rfl ⟨rfl, rfl⟩ z_v6_0 ?_
    (subst e_v6_0; refine ⟨?_, rfl, ?_⟩ <;> ((try unfold V_X1_isAhead); (try simp only [if_neg h60_0]); (try rfl)))
def V_X10_tell (x1 : Int32) (M : Mem) : Int32 := if (M.1 0 9) < (20 : Int32) then ((M.1 0 9) + (1 : Int32)) else (V_X10_finding (-1002 : Int32) M)
def U_X10_tell (x1 : Int32) (M : Mem) : Mem := if (M.1 0 9) < (20 : Int32) then (setI (setI M 15 (M.1 0 9).toNatClampNeg x1) 0 9 ((M.1 0 9) + (1 : Int32))) else (U_X10_finding (-1002 : Int32) M)
theorem S_X10_tell {sh : List SC} {M : Mem} {x1 : Int32}  (hb1 : PitchAt sh) (g1 : ¬ (M.1 0 9) < 0) : Gv m_X10_tell [.ref 0, .int x1] sh M (.int (V_X10_tell x1 M)) (U_X10_tell x1 M) := by
  refine Sp.of (ls := [some (.ref 0), some (.int x1)]) (by decide +kernel) (Nat.le_of_ble_eq_true rfl) rfl ?_
  have k0 : kd sh 0 = some (9 + 7, 0) := hb1.1
  have k1 : rf sh 0 8 = some 15 := hb1.2.2.2.2.2.2.2.2.2.1
  have k2 : kd sh 15 = some (0, 20) := hb1.2.2.2.2.2.2.2.2.2.2.2.1
  refine r_aload_n e_X10_tell_0 rfl ?_
  refine r_getI e_X10_tell_1 fl_X10_48 i0 k0 ?_
  refine r_aload_n e_X10_tell_4 rfl ?_
  refine r_getR e_X10_tell_5 fl_X10_45 k0 k1 ?_
  refine r_alen (v := (20 : Int32)) e_X10_tell_8 k2 (by decide) rfl ?_
  refine r_icmp_lt e_X10_tell_9 (fun h9_0 => ?_) (fun h9_0 => ?_)
  · refine r_aload_n e_X10_tell_20 rfl ?_
    refine r_getR e_X10_tell_21 fl_X10_45 k0 k1 ?_
    refine r_aload_n e_X10_tell_24 rfl ?_
    refine r_getI e_X10_tell_25 fl_X10_48 i0 k0 ?_
    refine r_iload_n e_X10_tell_28 rfl ?_
    refine r_iastore e_X10_tell_29 k2 (vp_guard g1 (i_nle h9_0) (by decide)) ?_
    refine r_aload_n e_X10_tell_30 rfl ?_
    refine r_dup e_X10_tell_31 rfl ?_
    refine r_getIe e_X10_tell_32 fl_X10_48 i0 k0 (gs_aI (by omega)) ?_
    refine r_iconst e_X10_tell_35 ic_1 ?_
    refine r_iadd e_X10_tell_36 ?_
    refine r_putI e_X10_tell_37 fl_X10_48 k0 ?_
    refine r_aload_n e_X10_tell_40 rfl ?_
    refine r_getIe e_X10_tell_41 fl_X10_48 i0 k0 gs_eI ?_
    refine r_ireturn e_X10_tell_44 rfl ⟨rfl, rfl⟩ ?_
    (refine ⟨?_, rfl, ?_⟩ <;> ((try unfold V_X10_tell); (try unfold U_X10_tell); (try simp only [if_pos h9_0]); (try rfl)))
  · refine r_aload_n e_X10_tell_12 rfl ?_
    refine r_sipush e_X10_tell_13 sp_m1002 ?_
    refine cV1v e_X10_tell_16 cl_X10_70 ⟨Nat.le_of_ble_eq_true rfl, Nat.le_of_ble_eq_true rfl⟩ ⟨rfl, rfl⟩ k0 (Nat.le_of_ble_eq_true rfl) (S_X10_finding hb1) ?_
    refine r_ireturn e_X10_tell_19 rfl ⟨rfl, rfl⟩ ?_
    (refine ⟨?_, rfl, ?_⟩ <;> ((try unfold V_X10_tell); (try unfold U_X10_tell); (try simp only [if_neg h9_0]); (try rfl)))
def V_X10_count (x1 : Int32) (M : Mem) : Int32 := if x1 = 0 then (M.1 0 10) else (if x1 = 1 then (V_X4_length 2 M) else (if x1 = 2 then (let v0_0 : Int32 := if (M.1 0 10) = 0 then (0 : Int32) else (M.1 (16 + 15 * (0 : Int32).toNatClampNeg) 0); v0_0) else (if x1 = 3 then (M.1 0 9) else (if x1 = 4 then (let v1_0 : Int32 := if (M.1 122 6) = 0 then (0 : Int32) else (1 : Int32); v1_0) else (V_X10_finding (-1001 : Int32) M)))))
def U_X10_count (x1 : Int32) (M : Mem) : Mem := if x1 = 0 then M else (if x1 = 1 then M else (if x1 = 2 then M else (if x1 = 3 then M else (if x1 = 4 then M else (U_X10_finding (-1001 : Int32) M)))))
theorem S_X10_count {sh : List SC} {M : Mem} {x1 : Int32}  (hb1 : PitchAt sh)  : Gv m_X10_count [.ref 0, .int x1] sh M (.int (V_X10_count x1 M)) (U_X10_count x1 M) := by
  refine Sp.of (ls := [some (.ref 0), some (.int x1)]) (by decide +kernel) (Nat.le_of_ble_eq_true rfl) rfl ?_
  have k0 : kd sh 0 = some (9 + 7, 0) := hb1.1
  have k1 : rf sh 0 1 = some 2 := hb1.2.2.1
  have k2 : kd sh 2 = some (4 + 7, 0) := hb1.2.2.2.2.2.2.2.2.2.2.2.2.2.2.1.1
  have k3 : rf sh 0 2 = some 8 := hb1.2.2.2.1
  have k4 : kd sh 8 = some (3, 6) := hb1.2.2.2.2.2.2.2.2.2.2.2.2.2.2.2.2.2.2.1
  have k5 : rf sh 0 4 = some 122 := hb1.2.2.2.2.2.1
  have k6 : kd sh 122 = some (2 + 7, 0) := hb1.2.2.2.2.2.2.2.2.2.2.2.2.2.2.2.2.1.1
  refine r_iload_n e_X10_count_0 rfl ?_
  by_cases hs1_0 : x1 = 0
  · refine r_tabIn (tgt := 36) (off := 35) e_X10_count_1 (by rw [hs1_0]; decide) (by rw [hs1_0]; decide) (by rw [hs1_0]; rfl) (by decide) ?_
    refine r_aload_n e_X10_count_36 rfl ?_
    refine r_getI e_X10_count_37 fl_X10_52 i0 k0 ?_
    refine r_ireturn e_X10_count_40 rfl ⟨rfl, rfl⟩ ?_
    (refine ⟨?_, rfl, ?_⟩ <;> ((try unfold V_X10_count); (try unfold U_X10_count); (try simp only [if_pos hs1_0]); (try rfl)))
  · by_cases hs1_1 : x1 = 1
    · refine r_tabIn (tgt := 41) (off := 40) e_X10_count_1 (by rw [hs1_1]; decide) (by rw [hs1_1]; decide) (by rw [hs1_1]; rfl) (by decide) ?_
      refine r_aload_n e_X10_count_41 rfl ?_
      refine r_getR e_X10_count_42 fl_X10_16 k0 k1 ?_
      refine cV0v e_X10_count_45 cl_X10_74 ⟨Nat.le_of_ble_eq_true rfl, Nat.le_of_ble_eq_true rfl⟩ ⟨rfl, rfl⟩ k2 (Nat.le_of_ble_eq_true rfl) (S_X4_length hb1.2.2.2.2.2.2.2.2.2.2.2.2.2.2.1) ?_
      refine r_ireturn e_X10_count_48 rfl ⟨rfl, rfl⟩ ?_
      (refine ⟨?_, rfl, ?_⟩ <;> ((try unfold V_X10_count); (try unfold U_X10_count); (try simp only [if_neg hs1_0, if_pos hs1_1]); (try rfl)))
    · by_cases hs1_2 : x1 = 2
      · refine r_tabIn (tgt := 49) (off := 48) e_X10_count_1 (by rw [hs1_2]; decide) (by rw [hs1_2]; decide) (by rw [hs1_2]; rfl) (by decide) ?_
        refine r_aload_n e_X10_count_49 rfl ?_
        refine r_getI e_X10_count_50 fl_X10_52 i0 k0 ?_
        obtain ⟨v0_0, e_v0_0⟩ : ∃ z : Int32, z = (if (M.1 0 10) = 0 then (0 : Int32) else (M.1 (16 + 15 * (0 : Int32).toNatClampNeg) 0)) := ⟨_, rfl⟩
        suffices j69_0 : WP m_X10_count (fun r sh' M'' => r = some (.int (V_X10_count x1 M)) ∧ sh' = sh ∧ M'' = (U_X10_count x1 M)) 69 [some (.ref 0), some (.int x1)] [.int v0_0] sh M 0 0 by
          refine r_if_ne e_X10_count_53 (fun h53_0 => ?_) (fun h53_0 => ?_)
          · refine r_aload_n e_X10_count_60 rfl ?_
            refine r_getR e_X10_count_61 fl_X10_22 k0 k3 ?_
            refine r_iconst e_X10_count_64 ic_0 ?_
            refine r_aaload (b := (16 + 15 * (0 : Int32).toNatClampNeg)) e_X10_count_65 k4 ⟨by decide, by decide⟩ (by unfold vp_in; decide) (hb1.2.2.2.2.2.2.2.2.2.2.2.2.2.2.2.2.2.2.2.1 ((0 : Int32).toNatClampNeg) (vp_lt (by unfold vp_in; decide))).1 ?_
            refine r_getI e_X10_count_66 fl_X10_196 i0 (show kd sh (16 + 15 * (0 : Int32).toNatClampNeg) = some (3 + 7, 0) from (hb1.2.2.2.2.2.2.2.2.2.2.2.2.2.2.2.2.2.2.2.1 ((0 : Int32).toNatClampNeg) (vp_lt (by unfold vp_in; decide))).2.1) ?_
            rw [show v0_0 = (M.1 (16 + 15 * (0 : Int32).toNatClampNeg) 0) from (e_v0_0.trans (if_neg h53_0))] at j69_0; exact j69_0
          · refine r_iconst e_X10_count_56 ic_0 ?_
            refine r_goto e_X10_count_57 ?_
            rw [show v0_0 = (0 : Int32) from (e_v0_0.trans (if_pos h53_0))] at j69_0; exact j69_0
        refine r_ireturn e_X10_count_69 rfl ⟨rfl, rfl⟩ ?_
        (subst e_v0_0; refine ⟨?_, rfl, ?_⟩ <;> ((try unfold V_X10_count); (try unfold U_X10_count); (try simp only [if_neg hs1_0, if_neg hs1_1, if_pos hs1_2]); (try rfl)))
      · by_cases hs1_3 : x1 = 3
        · refine r_tabIn (tgt := 70) (off := 69) e_X10_count_1 (by rw [hs1_3]; decide) (by rw [hs1_3]; decide) (by rw [hs1_3]; rfl) (by decide) ?_
          refine r_aload_n e_X10_count_70 rfl ?_
          refine r_getI e_X10_count_71 fl_X10_48 i0 k0 ?_
          refine r_ireturn e_X10_count_74 rfl ⟨rfl, rfl⟩ ?_
          (refine ⟨?_, rfl, ?_⟩ <;> ((try unfold V_X10_count); (try unfold U_X10_count); (try simp only [if_neg hs1_0, if_neg hs1_1, if_neg hs1_2, if_pos hs1_3]); (try rfl)))
        · by_cases hs1_4 : x1 = 4
          · refine r_tabIn (tgt := 75) (off := 74) e_X10_count_1 (by rw [hs1_4]; decide) (by rw [hs1_4]; decide) (by rw [hs1_4]; rfl) (by decide) ?_
            refine r_aload_n e_X10_count_75 rfl ?_
            refine r_getR e_X10_count_76 fl_X10_63 k0 k5 ?_
            refine r_getI e_X10_count_79 fl_X10_115 i3 k6 ?_
            obtain ⟨v1_0, e_v1_0⟩ : ∃ z : Int32, z = (if (M.1 122 6) = 0 then (0 : Int32) else (1 : Int32)) := ⟨_, rfl⟩
            have z_v1_0 : v1_0 = 0 ∨ v1_0 = 1 := by rw [e_v1_0]; exact (zi (Or.inl rfl) (Or.inr rfl))
            suffices j90_1 : WP m_X10_count (fun r sh' M'' => r = some (.int (V_X10_count x1 M)) ∧ sh' = sh ∧ M'' = (U_X10_count x1 M)) 90 [some (.ref 0), some (.int x1)] [.int v1_0] sh M 0 0 by
              refine r_if_eq e_X10_count_82 (fun h82_1 => ?_) (fun h82_1 => ?_)
              · refine r_iconst e_X10_count_89 ic_0 ?_
                rw [show v1_0 = (0 : Int32) from (e_v1_0.trans (if_pos h82_1))] at j90_1; exact j90_1
              · refine r_iconst e_X10_count_85 ic_1 ?_
                refine r_goto e_X10_count_86 ?_
                rw [show v1_0 = (1 : Int32) from (e_v1_0.trans (if_neg h82_1))] at j90_1; exact j90_1
            refine r_ireturn e_X10_count_90 rfl ⟨rfl, rfl⟩ ?_
            (subst e_v1_0; refine ⟨?_, rfl, ?_⟩ <;> ((try unfold V_X10_count); (try unfold U_X10_count); (try simp only [if_neg hs1_0, if_neg hs1_1, if_neg hs1_2, if_neg hs1_3, if_pos hs1_4]); (try rfl)))
          · refine r_tabOut (tgt := 91) e_X10_count_1 (by have q0 := lv_neT hs1_0 (show (0 : Int32).toInt = 0 from rfl); have q1 := lv_neT hs1_1 (show (1 : Int32).toInt = 1 from rfl); have q2 := lv_neT hs1_2 (show (2 : Int32).toInt = 2 from rfl); have q3 := lv_neT hs1_3 (show (3 : Int32).toInt = 3 from rfl); have q4 := lv_neT hs1_4 (show (4 : Int32).toInt = 4 from rfl); omega) (by decide) ?_
            refine r_aload_n e_X10_count_91 rfl ?_
            refine r_sipush e_X10_count_92 sp_m1001 ?_
            refine cV1v e_X10_count_95 cl_X10_70 ⟨Nat.le_of_ble_eq_true rfl, Nat.le_of_ble_eq_true rfl⟩ ⟨rfl, rfl⟩ k0 (Nat.le_of_ble_eq_true rfl) (S_X10_finding hb1) ?_
            refine r_ireturn e_X10_count_98 rfl ⟨rfl, rfl⟩ ?_
            (refine ⟨?_, rfl, ?_⟩ <;> ((try unfold V_X10_count); (try unfold U_X10_count); (try simp only [if_neg hs1_0, if_neg hs1_1, if_neg hs1_2, if_neg hs1_3, if_neg hs1_4]); (try rfl)))
def V_X10_found (x1 : Int32) (M : Mem) : Int32 := if (-1001 : Int32) < x1 then (V_X10_finding (-1001 : Int32) M) else (if (-1006 : Int32) < x1 then (V_X10_at 1 ((-1001 : Int32) - x1) 5 M) else (V_X10_finding (-1001 : Int32) M))
def U_X10_found (x1 : Int32) (M : Mem) : Mem := if (-1001 : Int32) < x1 then (U_X10_finding (-1001 : Int32) M) else (if (-1006 : Int32) < x1 then M else (U_X10_finding (-1001 : Int32) M))
theorem S_X10_found {sh : List SC} {M : Mem} {x1 : Int32}  (hb1 : PitchAt sh)  : Gv m_X10_found [.ref 0, .int x1] sh M (.int (V_X10_found x1 M)) (U_X10_found x1 M) := by
  refine Sp.of (ls := [some (.ref 0), some (.int x1)]) (by decide +kernel) (Nat.le_of_ble_eq_true rfl) rfl ?_
  have k0 : kd sh 0 = some (9 + 7, 0) := hb1.1
  have k1 : rf sh 0 0 = some 1 := hb1.2.1
  have k2 : kd sh 1 = some (0, 5) := hb1.2.2.2.2.2.2.2.2.2.2.1
  refine r_iload_n e_X10_found_0 rfl ?_
  refine r_sipush e_X10_found_1 sp_m1001 ?_
  refine r_icmp_gt e_X10_found_4 (fun h4_0 => ?_) (fun h4_0 => ?_)
  · refine r_aload_n e_X10_found_14 rfl ?_
    refine r_sipush e_X10_found_15 sp_m1001 ?_
    refine cV1v e_X10_found_18 cl_X10_70 ⟨Nat.le_of_ble_eq_true rfl, Nat.le_of_ble_eq_true rfl⟩ ⟨rfl, rfl⟩ k0 (Nat.le_of_ble_eq_true rfl) (S_X10_finding hb1) ?_
    refine r_ireturn e_X10_found_21 rfl ⟨rfl, rfl⟩ ?_
    (refine ⟨?_, rfl, ?_⟩ <;> ((try unfold V_X10_found); (try unfold U_X10_found); (try simp only [if_pos h4_0]); (try rfl)))
  · refine r_iload_n e_X10_found_7 rfl ?_
    refine r_sipush e_X10_found_8 sp_m1006 ?_
    refine r_icmp_gt e_X10_found_11 (fun h11_1 => ?_) (fun h11_1 => ?_)
    · refine r_aload_n e_X10_found_22 rfl ?_
      refine r_getR e_X10_found_23 fl_X10_9 k0 k1 ?_
      refine r_sipush e_X10_found_26 sp_m1001 ?_
      refine r_iload_n e_X10_found_29 rfl ?_
      refine r_isub e_X10_found_30 ?_
      refine cS2v e_X10_found_31 cl_X10_192 ⟨Nat.le_of_ble_eq_true rfl, Nat.le_of_ble_eq_true rfl⟩ ⟨rfl, rfl⟩  (Nat.le_of_ble_eq_true rfl) (S_X10_at k2 (by first | decide | (unfold vp_in; decide) | exact Or.inl rfl | exact Or.inr rfl)) ?_
      refine r_ireturn e_X10_found_34 rfl ⟨rfl, rfl⟩ ?_
      (refine ⟨?_, rfl, ?_⟩ <;> ((try unfold V_X10_found); (try unfold U_X10_found); (try simp only [if_neg h4_0, if_pos h11_1]); (try rfl)))
    · refine r_aload_n e_X10_found_14 rfl ?_
      refine r_sipush e_X10_found_15 sp_m1001 ?_
      refine cV1v e_X10_found_18 cl_X10_70 ⟨Nat.le_of_ble_eq_true rfl, Nat.le_of_ble_eq_true rfl⟩ ⟨rfl, rfl⟩ k0 (Nat.le_of_ble_eq_true rfl) (S_X10_finding hb1) ?_
      refine r_ireturn e_X10_found_21 rfl ⟨rfl, rfl⟩ ?_
      (refine ⟨?_, rfl, ?_⟩ <;> ((try unfold V_X10_found); (try unfold U_X10_found); (try simp only [if_neg h4_0, if_neg h11_1]); (try rfl)))
def V_X11_finding (x1 : Int32) (M : Mem) : Int32 := x1
def U_X11_finding (x1 : Int32) (M : Mem) : Mem := setI M 253 ((-1000 : Int32) - x1).toNatClampNeg ((M.1 253 ((-1000 : Int32) - x1).toNatClampNeg) + (1 : Int32))
theorem S_X11_finding {sh : List SC} {M : Mem} {x1 : Int32} {mA : Nat} {oA : Nat} (hb1 : ModelAt sh mA oA) (g1 : vp_in ((-1000 : Int32) - x1) 6) : Gv m_X11_finding [.ref 242, .int x1] sh M (.int (V_X11_finding x1 M)) (U_X11_finding x1 M) := by
  refine Sp.of (ls := [some (.ref 242), some (.int x1)]) (by decide +kernel) (Nat.le_of_ble_eq_true rfl) rfl ?_
  have k0 : kd sh 242 = some (10 + 7, 0) := hb1.1
  have k1 : rf sh 242 21 = some 253 := hb1.2.2.2.2.2.2.2.2.2.2.2.1
  have k2 : kd sh 253 = some (0, 6) := hb1.2.2.2.2.2.2.2.2.2.2.2.2.2.2.2.2.2.2.2.2.2.2.2.2.2.2.2.2.2.2.2.2.2.2.2.2.2.1
  refine r_aload_n e_X11_finding_0 rfl ?_
  refine r_getR e_X11_finding_1 fl_X11_189 k0 k1 ?_
  refine r_sipush e_X11_finding_4 sp_m1000 ?_
  refine r_iload_n e_X11_finding_7 rfl ?_
  refine r_isub e_X11_finding_8 ?_
  refine r_dup2 e_X11_finding_9 rfl rfl ?_
  refine r_iaload e_X11_finding_10 k2 g1 ?_
  refine r_iconst e_X11_finding_11 ic_1 ?_
  refine r_iadd e_X11_finding_12 ?_
  refine r_iastore e_X11_finding_13 k2 g1 ?_
  refine r_iload_n e_X11_finding_14 rfl ?_
  refine r_ireturn e_X11_finding_15 rfl ⟨rfl, rfl⟩ ?_
  (refine ⟨?_, rfl, ?_⟩ <;> ((try unfold V_X11_finding); (try unfold U_X11_finding); (try simp only []); (try rfl)))
def V_X11_at (x1 : Int32) (M : Mem) : Int32 := (let v0_0 : Int32 := if (M.1 242 1) ≤ x1 then (-1 : Int32) else (M.1 243 x1.toNatClampNeg); v0_0)
def P_X11_at (x1 : Int32) (M : Mem) : Prop := (¬ ((M.1 242 1) ≤ x1) → vp_in x1 800)
theorem S_X11_at {sh : List SC} {M : Mem} {x1 : Int32} {mA : Nat} {oA : Nat} (hb1 : ModelAt sh mA oA)  (hP : P_X11_at x1 M) : Gv m_X11_at [.ref 242, .int x1] sh M (.int (V_X11_at x1 M)) M := by
  refine Sp.of (ls := [some (.ref 242), some (.int x1)]) (by decide +kernel) (Nat.le_of_ble_eq_true rfl) rfl ?_
  have g1 : ¬ ((M.1 242 1) ≤ x1) → vp_in x1 800 := hP
  have k0 : kd sh 242 = some (10 + 7, 0) := hb1.1
  have k1 : rf sh 242 0 = some 243 := hb1.2.1
  have k2 : kd sh 243 = some (0, 800) := hb1.2.2.2.2.2.2.2.2.2.2.2.2.2.2.2.2.2.2.2.2.2.2.2.2.2.2.2.1
  refine r_iload_n e_X11_at_0 rfl ?_
  refine r_aload_n e_X11_at_1 rfl ?_
  refine r_getI e_X11_at_2 fl_X11_1 i0 k0 ?_
  obtain ⟨v0_0, e_v0_0⟩ : ∃ z : Int32, z = (if (M.1 242 1) ≤ x1 then (-1 : Int32) else (M.1 243 x1.toNatClampNeg)) := ⟨_, rfl⟩
  suffices j18_0 : WP m_X11_at (fun r sh' M'' => r = some (.int (V_X11_at x1 M)) ∧ sh' = sh ∧ M'' = M) 18 [some (.ref 242), some (.int x1)] [.int v0_0] sh M 0 0 by
    refine r_icmp_ge e_X11_at_5 (fun h5_0 => ?_) (fun h5_0 => ?_)
    · refine r_iconst e_X11_at_17 ic_m1 ?_
      rw [show v0_0 = (-1 : Int32) from (e_v0_0.trans (if_pos h5_0))] at j18_0; exact j18_0
    · refine r_aload_n e_X11_at_8 rfl ?_
      refine r_getR e_X11_at_9 fl_X11_7 k0 k1 ?_
      refine r_iload_n e_X11_at_12 rfl ?_
      refine r_iaload e_X11_at_13 k2 (g1 h5_0) ?_
      refine r_goto e_X11_at_14 ?_
      rw [show v0_0 = (M.1 243 x1.toNatClampNeg) from (e_v0_0.trans (if_neg h5_0))] at j18_0; exact j18_0
  refine r_ireturn e_X11_at_18 rfl ⟨rfl, rfl⟩ ?_
  (subst e_v0_0; refine ⟨?_, rfl, ?_⟩ <;> ((try unfold V_X11_at); (try simp only []); (try rfl)))
def V_X11_isLetter (x1 : Int32) (M : Mem) : Int32 := (let v0_0 : Int32 := if x1 < (97 : Int32) then (0 : Int32) else (if (122 : Int32) < x1 then (0 : Int32) else (1 : Int32)); v0_0)
theorem Z_X11_isLetter {M : Mem} {x1 : Int32}   : V_X11_isLetter x1 M = 0 ∨ V_X11_isLetter x1 M = 1 := (zi (Or.inl rfl) (zi (Or.inl rfl) (Or.inr rfl)))
theorem S_X11_isLetter {sh : List SC} {M : Mem} {x1 : Int32}    : Gv m_X11_isLetter [.int x1] sh M (.int (V_X11_isLetter x1 M)) M := by
  refine Sp.of (ls := [some (.int x1)]) (by decide +kernel) (Nat.le_of_ble_eq_true rfl) rfl ?_
  refine r_iload_n e_X11_isLetter_0 rfl ?_
  refine r_bipush e_X11_isLetter_1 bp_97 ?_
  obtain ⟨v0_0, e_v0_0⟩ : ∃ z : Int32, z = (if x1 < (97 : Int32) then (0 : Int32) else (if (122 : Int32) < x1 then (0 : Int32) else (1 : Int32))) := ⟨_, rfl⟩
  have z_v0_0 : v0_0 = 0 ∨ v0_0 = 1 := by rw [e_v0_0]; exact (zi (Or.inl rfl) (zi (Or.inl rfl) (Or.inr rfl)))
  suffices j17_0 : WP m_X11_isLetter (fun r sh' M'' => r = some (.int (V_X11_isLetter x1 M)) ∧ sh' = sh ∧ M'' = M) 17 [some (.int x1)] [.int v0_0] sh M 0 0 by
    refine r_icmp_lt e_X11_isLetter_3 (fun h3_0 => ?_) (fun h3_0 => ?_)
    · refine r_iconst e_X11_isLetter_16 ic_0 ?_
      rw [show v0_0 = (0 : Int32) from (e_v0_0.trans (if_pos h3_0))] at j17_0; exact j17_0
    · refine r_iload_n e_X11_isLetter_6 rfl ?_
      refine r_bipush e_X11_isLetter_7 bp_122 ?_
      refine r_icmp_gt e_X11_isLetter_9 (fun h9_1 => ?_) (fun h9_1 => ?_)
      · refine r_iconst e_X11_isLetter_16 ic_0 ?_
        rw [show v0_0 = (0 : Int32) from ((e_v0_0.trans (if_neg h3_0)).trans (if_pos h9_1))] at j17_0; exact j17_0
      · refine r_iconst e_X11_isLetter_12 ic_1 ?_
        refine r_goto e_X11_isLetter_13 ?_
        rw [show v0_0 = (1 : Int32) from ((e_v0_0.trans (if_neg h3_0)).trans (if_neg h9_1))] at j17_0; exact j17_0
  refine r_zreturn e_X11_isLetter_17 rfl ⟨rfl, rfl⟩ z_v0_0 ?_
  (subst e_v0_0; refine ⟨?_, rfl, ?_⟩ <;> ((try unfold V_X11_isLetter); (try simp only []); (try rfl)))
def U_X11_findWord (M : Mem) : Mem := if (lg_cmp (M.2 242 7) (10492313 : Int64)) = 0 then (setI M 242 5 (10 : Int32)) else (if (lg_cmp (M.2 242 7) (458690 : Int64)) = 0 then (setI M 242 5 (11 : Int32)) else (if (lg_cmp (M.2 242 7) (1111 : Int64)) = 0 then (setI M 242 5 (12 : Int32)) else (if (lg_cmp (M.2 242 7) (204 : Int64)) = 0 then (setI M 242 5 (13 : Int32)) else (if (lg_cmp (M.2 242 7) (14006 : Int64)) = 0 then (setI M 242 5 (14 : Int32)) else (if (lg_cmp (M.2 242 7) (267413 : Int64)) = 0 then (setI M 242 5 (15 : Int32)) else (if (lg_cmp (M.2 242 7) (555 : Int64)) = 0 then (setI M 242 5 (16 : Int32)) else (if (lg_cmp (M.2 242 7) (223166 : Int64)) = 0 then (setI M 242 5 (17 : Int32)) else (if (lg_cmp (M.2 242 7) (388609 : Int64)) = 0 then (setI M 242 5 (18 : Int32)) else (if 0 ≤ (lg_cmp (M.2 242 7) (5 : Int64)) then (if (lg_cmp (M.2 242 7) (6943155 : Int64)) = 0 then (setI (setI M 242 5 (5 : Int32)) 242 6 (0 : Int32)) else (if (lg_cmp (M.2 242 7) (6943156 : Int64)) = 0 then (setI (setI M 242 5 (5 : Int32)) 242 6 (1 : Int32)) else (if (lg_cmp (M.2 242 7) (129192 : Int64)) = 0 then (setI (setI M 242 5 (5 : Int32)) 242 6 (2 : Int32)) else (if (lg_cmp (M.2 242 7) (129193 : Int64)) = 0 then (setI (setI M 242 5 (5 : Int32)) 242 6 (3 : Int32)) else (if (lg_cmp (M.2 242 7) (1091661 : Int64)) = 0 then (setI (setI M 242 5 (4 : Int32)) 242 6 (0 : Int32)) else (if (lg_cmp (M.2 242 7) (1091662 : Int64)) = 0 then (setI (setI M 242 5 (4 : Int32)) 242 6 (1 : Int32)) else (if (lg_cmp (M.2 242 7) (10176 : Int64)) = 0 then (setI (setI M 242 5 (4 : Int32)) 242 6 (2 : Int32)) else (if (lg_cmp (M.2 242 7) (10177 : Int64)) = 0 then (setI (setI M 242 5 (4 : Int32)) 242 6 (3 : Int32)) else (if (lg_cmp (M.2 242 7) (161437 : Int64)) = 0 then (setI (setI M 242 5 (4 : Int32)) 242 6 (4 : Int32)) else (if (lg_cmp (M.2 242 7) (400313 : Int64)) = 0 then (setI (setI M 242 5 (4 : Int32)) 242 6 (5 : Int32)) else (if (lg_cmp (M.2 242 7) (239872 : Int64)) = 0 then (setI (setI M 242 5 (4 : Int32)) 242 6 (6 : Int32)) else (if (lg_cmp (M.2 242 7) (279252 : Int64)) = 0 then (setI (setI M 242 5 (4 : Int32)) 242 6 (7 : Int32)) else (setI M 242 5 (1 : Int32)))))))))))))) else (setI (setI M 242 5 (3 : Int32)) 242 6 ((M.2 242 7).toInt32 - (1 : Int32))))))))))))
theorem S_X11_findWord {sh : List SC} {M : Mem}  {mA : Nat} {oA : Nat} (hb1 : ModelAt sh mA oA)  : Gu m_X11_findWord [.ref 242] sh M (U_X11_findWord  M) := by
  refine Sp.of (ls := [some (.ref 242), none, none]) (by decide +kernel) (Nat.le_of_ble_eq_true rfl) rfl ?_
  have k0 : kd sh 242 = some (10 + 7, 0) := hb1.1
  refine r_aload_n e_X11_findWord_0 rfl ?_
  refine r_getJ e_X11_findWord_1 fl_X11_24 k0 ?_
  refine p_lstore_n_3_1 e_X11_findWord_4 rfl rfl ?_
  refine r_lload_n e_X11_findWord_5 rfl ?_
  refine r_ldc2 e_X11_findWord_6 lc_X11_55 ?_
  refine r_lcmp e_X11_findWord_9 ?_
  refine r_if_ne e_X11_findWord_10 (fun h10_0 => ?_) (fun h10_0 => ?_)
  · refine r_lload_n e_X11_findWord_20 rfl ?_
    refine r_ldc2 e_X11_findWord_21 lc_X11_57 ?_
    refine r_lcmp e_X11_findWord_24 ?_
    refine r_if_ne e_X11_findWord_25 (fun h25_1 => ?_) (fun h25_1 => ?_)
    · refine r_lload_n e_X11_findWord_35 rfl ?_
      refine r_ldc2 e_X11_findWord_36 lc_X11_59 ?_
      refine r_lcmp e_X11_findWord_39 ?_
      refine r_if_ne e_X11_findWord_40 (fun h40_2 => ?_) (fun h40_2 => ?_)
      · refine r_lload_n e_X11_findWord_50 rfl ?_
        refine r_ldc2 e_X11_findWord_51 lc_X11_61 ?_
        refine r_lcmp e_X11_findWord_54 ?_
        refine r_if_ne e_X11_findWord_55 (fun h55_3 => ?_) (fun h55_3 => ?_)
        · refine r_lload_n e_X11_findWord_65 rfl ?_
          refine r_ldc2 e_X11_findWord_66 lc_X11_63 ?_
          refine r_lcmp e_X11_findWord_69 ?_
          refine r_if_ne e_X11_findWord_70 (fun h70_4 => ?_) (fun h70_4 => ?_)
          · refine r_lload_n e_X11_findWord_80 rfl ?_
            refine r_ldc2 e_X11_findWord_81 lc_X11_65 ?_
            refine r_lcmp e_X11_findWord_84 ?_
            refine r_if_ne e_X11_findWord_85 (fun h85_5 => ?_) (fun h85_5 => ?_)
            · refine r_lload_n e_X11_findWord_95 rfl ?_
              refine r_ldc2 e_X11_findWord_96 lc_X11_67 ?_
              refine r_lcmp e_X11_findWord_99 ?_
              refine r_if_ne e_X11_findWord_100 (fun h100_6 => ?_) (fun h100_6 => ?_)
              · refine r_lload_n e_X11_findWord_110 rfl ?_
                refine r_ldc2 e_X11_findWord_111 lc_X11_69 ?_
                refine r_lcmp e_X11_findWord_114 ?_
                refine r_if_ne e_X11_findWord_115 (fun h115_7 => ?_) (fun h115_7 => ?_)
                · refine r_lload_n e_X11_findWord_125 rfl ?_
                  refine r_ldc2 e_X11_findWord_126 lc_X11_71 ?_
                  refine r_lcmp e_X11_findWord_129 ?_
                  refine r_if_ne e_X11_findWord_130 (fun h130_8 => ?_) (fun h130_8 => ?_)
                  · refine r_lload_n e_X11_findWord_140 rfl ?_
                    refine r_ldc2 e_X11_findWord_141 lc_X11_73 ?_
                    refine r_lcmp e_X11_findWord_144 ?_
                    refine r_if_ge e_X11_findWord_145 (fun h145_9 => ?_) (fun h145_9 => ?_)
                    · refine r_lload_n e_X11_findWord_162 rfl ?_
                      refine r_ldc2 e_X11_findWord_163 lc_X11_75 ?_
                      refine r_lcmp e_X11_findWord_166 ?_
                      refine r_if_ne e_X11_findWord_167 (fun h167_10 => ?_) (fun h167_10 => ?_)
                      · refine r_lload_n e_X11_findWord_181 rfl ?_
                        refine r_ldc2 e_X11_findWord_182 lc_X11_77 ?_
                        refine r_lcmp e_X11_findWord_185 ?_
                        refine r_if_ne e_X11_findWord_186 (fun h186_11 => ?_) (fun h186_11 => ?_)
                        · refine r_lload_n e_X11_findWord_200 rfl ?_
                          refine r_ldc2 e_X11_findWord_201 lc_X11_79 ?_
                          refine r_lcmp e_X11_findWord_204 ?_
                          refine r_if_ne e_X11_findWord_205 (fun h205_12 => ?_) (fun h205_12 => ?_)
                          · refine r_lload_n e_X11_findWord_219 rfl ?_
                            refine r_ldc2 e_X11_findWord_220 lc_X11_81 ?_
                            refine r_lcmp e_X11_findWord_223 ?_
                            refine r_if_ne e_X11_findWord_224 (fun h224_13 => ?_) (fun h224_13 => ?_)
                            · refine r_lload_n e_X11_findWord_238 rfl ?_
                              refine r_ldc2 e_X11_findWord_239 lc_X11_83 ?_
                              refine r_lcmp e_X11_findWord_242 ?_
                              refine r_if_ne e_X11_findWord_243 (fun h243_14 => ?_) (fun h243_14 => ?_)
                              · refine r_lload_n e_X11_findWord_257 rfl ?_
                                refine r_ldc2 e_X11_findWord_258 lc_X11_85 ?_
                                refine r_lcmp e_X11_findWord_261 ?_
                                refine r_if_ne e_X11_findWord_262 (fun h262_15 => ?_) (fun h262_15 => ?_)
                                · refine r_lload_n e_X11_findWord_276 rfl ?_
                                  refine r_ldc2 e_X11_findWord_277 lc_X11_87 ?_
                                  refine r_lcmp e_X11_findWord_280 ?_
                                  refine r_if_ne e_X11_findWord_281 (fun h281_16 => ?_) (fun h281_16 => ?_)
                                  · refine r_lload_n e_X11_findWord_295 rfl ?_
                                    refine r_ldc2 e_X11_findWord_296 lc_X11_89 ?_
                                    refine r_lcmp e_X11_findWord_299 ?_
                                    refine r_if_ne e_X11_findWord_300 (fun h300_17 => ?_) (fun h300_17 => ?_)
                                    · refine r_lload_n e_X11_findWord_314 rfl ?_
                                      refine r_ldc2 e_X11_findWord_315 lc_X11_91 ?_
                                      refine r_lcmp e_X11_findWord_318 ?_
                                      refine r_if_ne e_X11_findWord_319 (fun h319_18 => ?_) (fun h319_18 => ?_)
                                      · refine r_lload_n e_X11_findWord_333 rfl ?_
                                        refine r_ldc2 e_X11_findWord_334 lc_X11_93 ?_
                                        refine r_lcmp e_X11_findWord_337 ?_
                                        refine r_if_ne e_X11_findWord_338 (fun h338_19 => ?_) (fun h338_19 => ?_)
                                        · refine r_lload_n e_X11_findWord_352 rfl ?_
                                          refine r_ldc2 e_X11_findWord_353 lc_X11_95 ?_
                                          refine r_lcmp e_X11_findWord_356 ?_
                                          refine r_if_ne e_X11_findWord_357 (fun h357_20 => ?_) (fun h357_20 => ?_)
                                          · refine r_lload_n e_X11_findWord_372 rfl ?_
                                            refine r_ldc2 e_X11_findWord_373 lc_X11_97 ?_
                                            refine r_lcmp e_X11_findWord_376 ?_
                                            refine r_if_ne e_X11_findWord_377 (fun h377_21 => ?_) (fun h377_21 => ?_)
                                            · refine r_aload_n e_X11_findWord_392 rfl ?_
                                              refine r_iconst e_X11_findWord_393 ic_1 ?_
                                              refine r_putI e_X11_findWord_394 fl_X11_28 k0 ?_
                                              refine r_return e_X11_findWord_397 rfl ⟨rfl, rfl⟩ ?_
                                              (refine ⟨?_, rfl, ?_⟩ <;> ((try unfold U_X11_findWord); (try simp only [if_neg h10_0, if_neg h25_1, if_neg h40_2, if_neg h55_3, if_neg h70_4, if_neg h85_5, if_neg h100_6, if_neg h115_7, if_neg h130_8, if_pos h145_9, if_neg h167_10, if_neg h186_11, if_neg h205_12, if_neg h224_13, if_neg h243_14, if_neg h262_15, if_neg h281_16, if_neg h300_17, if_neg h319_18, if_neg h338_19, if_neg h357_20, if_neg h377_21]); (try rfl)))
                                            · refine r_aload_n e_X11_findWord_380 rfl ?_
                                              refine r_iconst e_X11_findWord_381 ic_4 ?_
                                              refine r_putI e_X11_findWord_382 fl_X11_28 k0 ?_
                                              refine r_aload_n e_X11_findWord_385 rfl ?_
                                              refine r_bipush e_X11_findWord_386 bp_7 ?_
                                              refine r_putI e_X11_findWord_388 fl_X11_21 k0 ?_
                                              refine r_return e_X11_findWord_391 rfl ⟨rfl, rfl⟩ ?_
                                              (refine ⟨?_, rfl, ?_⟩ <;> ((try unfold U_X11_findWord); (try simp only [if_neg h10_0, if_neg h25_1, if_neg h40_2, if_neg h55_3, if_neg h70_4, if_neg h85_5, if_neg h100_6, if_neg h115_7, if_neg h130_8, if_pos h145_9, if_neg h167_10, if_neg h186_11, if_neg h205_12, if_neg h224_13, if_neg h243_14, if_neg h262_15, if_neg h281_16, if_neg h300_17, if_neg h319_18, if_neg h338_19, if_neg h357_20, if_pos h377_21]); (try rfl)))
                                          · refine r_aload_n e_X11_findWord_360 rfl ?_
                                            refine r_iconst e_X11_findWord_361 ic_4 ?_
                                            refine r_putI e_X11_findWord_362 fl_X11_28 k0 ?_
                                            refine r_aload_n e_X11_findWord_365 rfl ?_
                                            refine r_bipush e_X11_findWord_366 bp_6 ?_
                                            refine r_putI e_X11_findWord_368 fl_X11_21 k0 ?_
                                            refine r_return e_X11_findWord_371 rfl ⟨rfl, rfl⟩ ?_
                                            (refine ⟨?_, rfl, ?_⟩ <;> ((try unfold U_X11_findWord); (try simp only [if_neg h10_0, if_neg h25_1, if_neg h40_2, if_neg h55_3, if_neg h70_4, if_neg h85_5, if_neg h100_6, if_neg h115_7, if_neg h130_8, if_pos h145_9, if_neg h167_10, if_neg h186_11, if_neg h205_12, if_neg h224_13, if_neg h243_14, if_neg h262_15, if_neg h281_16, if_neg h300_17, if_neg h319_18, if_neg h338_19, if_pos h357_20]); (try rfl)))
                                        · refine r_aload_n e_X11_findWord_341 rfl ?_
                                          refine r_iconst e_X11_findWord_342 ic_4 ?_
                                          refine r_putI e_X11_findWord_343 fl_X11_28 k0 ?_
                                          refine r_aload_n e_X11_findWord_346 rfl ?_
                                          refine r_iconst e_X11_findWord_347 ic_5 ?_
                                          refine r_putI e_X11_findWord_348 fl_X11_21 k0 ?_
                                          refine r_return e_X11_findWord_351 rfl ⟨rfl, rfl⟩ ?_
                                          (refine ⟨?_, rfl, ?_⟩ <;> ((try unfold U_X11_findWord); (try simp only [if_neg h10_0, if_neg h25_1, if_neg h40_2, if_neg h55_3, if_neg h70_4, if_neg h85_5, if_neg h100_6, if_neg h115_7, if_neg h130_8, if_pos h145_9, if_neg h167_10, if_neg h186_11, if_neg h205_12, if_neg h224_13, if_neg h243_14, if_neg h262_15, if_neg h281_16, if_neg h300_17, if_neg h319_18, if_pos h338_19]); (try rfl)))
                                      · refine r_aload_n e_X11_findWord_322 rfl ?_
                                        refine r_iconst e_X11_findWord_323 ic_4 ?_
                                        refine r_putI e_X11_findWord_324 fl_X11_28 k0 ?_
                                        refine r_aload_n e_X11_findWord_327 rfl ?_
                                        refine r_iconst e_X11_findWord_328 ic_4 ?_
                                        refine r_putI e_X11_findWord_329 fl_X11_21 k0 ?_
                                        refine r_return e_X11_findWord_332 rfl ⟨rfl, rfl⟩ ?_
                                        (refine ⟨?_, rfl, ?_⟩ <;> ((try unfold U_X11_findWord); (try simp only [if_neg h10_0, if_neg h25_1, if_neg h40_2, if_neg h55_3, if_neg h70_4, if_neg h85_5, if_neg h100_6, if_neg h115_7, if_neg h130_8, if_pos h145_9, if_neg h167_10, if_neg h186_11, if_neg h205_12, if_neg h224_13, if_neg h243_14, if_neg h262_15, if_neg h281_16, if_neg h300_17, if_pos h319_18]); (try rfl)))
                                    · refine r_aload_n e_X11_findWord_303 rfl ?_
                                      refine r_iconst e_X11_findWord_304 ic_4 ?_
                                      refine r_putI e_X11_findWord_305 fl_X11_28 k0 ?_
                                      refine r_aload_n e_X11_findWord_308 rfl ?_
                                      refine r_iconst e_X11_findWord_309 ic_3 ?_
                                      refine r_putI e_X11_findWord_310 fl_X11_21 k0 ?_
                                      refine r_return e_X11_findWord_313 rfl ⟨rfl, rfl⟩ ?_
                                      (refine ⟨?_, rfl, ?_⟩ <;> ((try unfold U_X11_findWord); (try simp only [if_neg h10_0, if_neg h25_1, if_neg h40_2, if_neg h55_3, if_neg h70_4, if_neg h85_5, if_neg h100_6, if_neg h115_7, if_neg h130_8, if_pos h145_9, if_neg h167_10, if_neg h186_11, if_neg h205_12, if_neg h224_13, if_neg h243_14, if_neg h262_15, if_neg h281_16, if_pos h300_17]); (try rfl)))
                                  · refine r_aload_n e_X11_findWord_284 rfl ?_
                                    refine r_iconst e_X11_findWord_285 ic_4 ?_
                                    refine r_putI e_X11_findWord_286 fl_X11_28 k0 ?_
                                    refine r_aload_n e_X11_findWord_289 rfl ?_
                                    refine r_iconst e_X11_findWord_290 ic_2 ?_
                                    refine r_putI e_X11_findWord_291 fl_X11_21 k0 ?_
                                    refine r_return e_X11_findWord_294 rfl ⟨rfl, rfl⟩ ?_
                                    (refine ⟨?_, rfl, ?_⟩ <;> ((try unfold U_X11_findWord); (try simp only [if_neg h10_0, if_neg h25_1, if_neg h40_2, if_neg h55_3, if_neg h70_4, if_neg h85_5, if_neg h100_6, if_neg h115_7, if_neg h130_8, if_pos h145_9, if_neg h167_10, if_neg h186_11, if_neg h205_12, if_neg h224_13, if_neg h243_14, if_neg h262_15, if_pos h281_16]); (try rfl)))
                                · refine r_aload_n e_X11_findWord_265 rfl ?_
                                  refine r_iconst e_X11_findWord_266 ic_4 ?_
                                  refine r_putI e_X11_findWord_267 fl_X11_28 k0 ?_
                                  refine r_aload_n e_X11_findWord_270 rfl ?_
                                  refine r_iconst e_X11_findWord_271 ic_1 ?_
                                  refine r_putI e_X11_findWord_272 fl_X11_21 k0 ?_
                                  refine r_return e_X11_findWord_275 rfl ⟨rfl, rfl⟩ ?_
                                  (refine ⟨?_, rfl, ?_⟩ <;> ((try unfold U_X11_findWord); (try simp only [if_neg h10_0, if_neg h25_1, if_neg h40_2, if_neg h55_3, if_neg h70_4, if_neg h85_5, if_neg h100_6, if_neg h115_7, if_neg h130_8, if_pos h145_9, if_neg h167_10, if_neg h186_11, if_neg h205_12, if_neg h224_13, if_neg h243_14, if_pos h262_15]); (try rfl)))
                              · refine r_aload_n e_X11_findWord_246 rfl ?_
                                refine r_iconst e_X11_findWord_247 ic_4 ?_
                                refine r_putI e_X11_findWord_248 fl_X11_28 k0 ?_
                                refine r_aload_n e_X11_findWord_251 rfl ?_
                                refine r_iconst e_X11_findWord_252 ic_0 ?_
                                refine r_putI e_X11_findWord_253 fl_X11_21 k0 ?_
                                refine r_return e_X11_findWord_256 rfl ⟨rfl, rfl⟩ ?_
                                (refine ⟨?_, rfl, ?_⟩ <;> ((try unfold U_X11_findWord); (try simp only [if_neg h10_0, if_neg h25_1, if_neg h40_2, if_neg h55_3, if_neg h70_4, if_neg h85_5, if_neg h100_6, if_neg h115_7, if_neg h130_8, if_pos h145_9, if_neg h167_10, if_neg h186_11, if_neg h205_12, if_neg h224_13, if_pos h243_14]); (try rfl)))
                            · refine r_aload_n e_X11_findWord_227 rfl ?_
                              refine r_iconst e_X11_findWord_228 ic_5 ?_
                              refine r_putI e_X11_findWord_229 fl_X11_28 k0 ?_
                              refine r_aload_n e_X11_findWord_232 rfl ?_
                              refine r_iconst e_X11_findWord_233 ic_3 ?_
                              refine r_putI e_X11_findWord_234 fl_X11_21 k0 ?_
                              refine r_return e_X11_findWord_237 rfl ⟨rfl, rfl⟩ ?_
                              (refine ⟨?_, rfl, ?_⟩ <;> ((try unfold U_X11_findWord); (try simp only [if_neg h10_0, if_neg h25_1, if_neg h40_2, if_neg h55_3, if_neg h70_4, if_neg h85_5, if_neg h100_6, if_neg h115_7, if_neg h130_8, if_pos h145_9, if_neg h167_10, if_neg h186_11, if_neg h205_12, if_pos h224_13]); (try rfl)))
                          · refine r_aload_n e_X11_findWord_208 rfl ?_
                            refine r_iconst e_X11_findWord_209 ic_5 ?_
                            refine r_putI e_X11_findWord_210 fl_X11_28 k0 ?_
                            refine r_aload_n e_X11_findWord_213 rfl ?_
                            refine r_iconst e_X11_findWord_214 ic_2 ?_
                            refine r_putI e_X11_findWord_215 fl_X11_21 k0 ?_
                            refine r_return e_X11_findWord_218 rfl ⟨rfl, rfl⟩ ?_
                            (refine ⟨?_, rfl, ?_⟩ <;> ((try unfold U_X11_findWord); (try simp only [if_neg h10_0, if_neg h25_1, if_neg h40_2, if_neg h55_3, if_neg h70_4, if_neg h85_5, if_neg h100_6, if_neg h115_7, if_neg h130_8, if_pos h145_9, if_neg h167_10, if_neg h186_11, if_pos h205_12]); (try rfl)))
                        · refine r_aload_n e_X11_findWord_189 rfl ?_
                          refine r_iconst e_X11_findWord_190 ic_5 ?_
                          refine r_putI e_X11_findWord_191 fl_X11_28 k0 ?_
                          refine r_aload_n e_X11_findWord_194 rfl ?_
                          refine r_iconst e_X11_findWord_195 ic_1 ?_
                          refine r_putI e_X11_findWord_196 fl_X11_21 k0 ?_
                          refine r_return e_X11_findWord_199 rfl ⟨rfl, rfl⟩ ?_
                          (refine ⟨?_, rfl, ?_⟩ <;> ((try unfold U_X11_findWord); (try simp only [if_neg h10_0, if_neg h25_1, if_neg h40_2, if_neg h55_3, if_neg h70_4, if_neg h85_5, if_neg h100_6, if_neg h115_7, if_neg h130_8, if_pos h145_9, if_neg h167_10, if_pos h186_11]); (try rfl)))
                      · refine r_aload_n e_X11_findWord_170 rfl ?_
                        refine r_iconst e_X11_findWord_171 ic_5 ?_
                        refine r_putI e_X11_findWord_172 fl_X11_28 k0 ?_
                        refine r_aload_n e_X11_findWord_175 rfl ?_
                        refine r_iconst e_X11_findWord_176 ic_0 ?_
                        refine r_putI e_X11_findWord_177 fl_X11_21 k0 ?_
                        refine r_return e_X11_findWord_180 rfl ⟨rfl, rfl⟩ ?_
                        (refine ⟨?_, rfl, ?_⟩ <;> ((try unfold U_X11_findWord); (try simp only [if_neg h10_0, if_neg h25_1, if_neg h40_2, if_neg h55_3, if_neg h70_4, if_neg h85_5, if_neg h100_6, if_neg h115_7, if_neg h130_8, if_pos h145_9, if_pos h167_10]); (try rfl)))
                    · refine r_aload_n e_X11_findWord_148 rfl ?_
                      refine r_iconst e_X11_findWord_149 ic_3 ?_
                      refine r_putI e_X11_findWord_150 fl_X11_28 k0 ?_
                      refine r_aload_n e_X11_findWord_153 rfl ?_
                      refine r_lload_n e_X11_findWord_154 rfl ?_
                      refine r_l2i e_X11_findWord_155 ?_
                      refine r_iconst e_X11_findWord_156 ic_1 ?_
                      refine r_isub e_X11_findWord_157 ?_
                      refine r_putI e_X11_findWord_158 fl_X11_21 k0 ?_
                      refine r_return e_X11_findWord_161 rfl ⟨rfl, rfl⟩ ?_
                      (refine ⟨?_, rfl, ?_⟩ <;> ((try unfold U_X11_findWord); (try simp only [if_neg h10_0, if_neg h25_1, if_neg h40_2, if_neg h55_3, if_neg h70_4, if_neg h85_5, if_neg h100_6, if_neg h115_7, if_neg h130_8, if_neg h145_9]); (try rfl)))
                  · refine r_aload_n e_X11_findWord_133 rfl ?_
                    refine r_bipush e_X11_findWord_134 bp_18 ?_
                    refine r_putI e_X11_findWord_136 fl_X11_28 k0 ?_
                    refine r_return e_X11_findWord_139 rfl ⟨rfl, rfl⟩ ?_
                    (refine ⟨?_, rfl, ?_⟩ <;> ((try unfold U_X11_findWord); (try simp only [if_neg h10_0, if_neg h25_1, if_neg h40_2, if_neg h55_3, if_neg h70_4, if_neg h85_5, if_neg h100_6, if_neg h115_7, if_pos h130_8]); (try rfl)))
                · refine r_aload_n e_X11_findWord_118 rfl ?_
                  refine r_bipush e_X11_findWord_119 bp_17 ?_
                  refine r_putI e_X11_findWord_121 fl_X11_28 k0 ?_
                  refine r_return e_X11_findWord_124 rfl ⟨rfl, rfl⟩ ?_
                  (refine ⟨?_, rfl, ?_⟩ <;> ((try unfold U_X11_findWord); (try simp only [if_neg h10_0, if_neg h25_1, if_neg h40_2, if_neg h55_3, if_neg h70_4, if_neg h85_5, if_neg h100_6, if_pos h115_7]); (try rfl)))
              · refine r_aload_n e_X11_findWord_103 rfl ?_
                refine r_bipush e_X11_findWord_104 bp_16 ?_
                refine r_putI e_X11_findWord_106 fl_X11_28 k0 ?_
                refine r_return e_X11_findWord_109 rfl ⟨rfl, rfl⟩ ?_
                (refine ⟨?_, rfl, ?_⟩ <;> ((try unfold U_X11_findWord); (try simp only [if_neg h10_0, if_neg h25_1, if_neg h40_2, if_neg h55_3, if_neg h70_4, if_neg h85_5, if_pos h100_6]); (try rfl)))
            · refine r_aload_n e_X11_findWord_88 rfl ?_
              refine r_bipush e_X11_findWord_89 bp_15 ?_
              refine r_putI e_X11_findWord_91 fl_X11_28 k0 ?_
              refine r_return e_X11_findWord_94 rfl ⟨rfl, rfl⟩ ?_
              (refine ⟨?_, rfl, ?_⟩ <;> ((try unfold U_X11_findWord); (try simp only [if_neg h10_0, if_neg h25_1, if_neg h40_2, if_neg h55_3, if_neg h70_4, if_pos h85_5]); (try rfl)))
          · refine r_aload_n e_X11_findWord_73 rfl ?_
            refine r_bipush e_X11_findWord_74 bp_14 ?_
            refine r_putI e_X11_findWord_76 fl_X11_28 k0 ?_
            refine r_return e_X11_findWord_79 rfl ⟨rfl, rfl⟩ ?_
            (refine ⟨?_, rfl, ?_⟩ <;> ((try unfold U_X11_findWord); (try simp only [if_neg h10_0, if_neg h25_1, if_neg h40_2, if_neg h55_3, if_pos h70_4]); (try rfl)))
        · refine r_aload_n e_X11_findWord_58 rfl ?_
          refine r_bipush e_X11_findWord_59 bp_13 ?_
          refine r_putI e_X11_findWord_61 fl_X11_28 k0 ?_
          refine r_return e_X11_findWord_64 rfl ⟨rfl, rfl⟩ ?_
          (refine ⟨?_, rfl, ?_⟩ <;> ((try unfold U_X11_findWord); (try simp only [if_neg h10_0, if_neg h25_1, if_neg h40_2, if_pos h55_3]); (try rfl)))
      · refine r_aload_n e_X11_findWord_43 rfl ?_
        refine r_bipush e_X11_findWord_44 bp_12 ?_
        refine r_putI e_X11_findWord_46 fl_X11_28 k0 ?_
        refine r_return e_X11_findWord_49 rfl ⟨rfl, rfl⟩ ?_
        (refine ⟨?_, rfl, ?_⟩ <;> ((try unfold U_X11_findWord); (try simp only [if_neg h10_0, if_neg h25_1, if_pos h40_2]); (try rfl)))
    · refine r_aload_n e_X11_findWord_28 rfl ?_
      refine r_bipush e_X11_findWord_29 bp_11 ?_
      refine r_putI e_X11_findWord_31 fl_X11_28 k0 ?_
      refine r_return e_X11_findWord_34 rfl ⟨rfl, rfl⟩ ?_
      (refine ⟨?_, rfl, ?_⟩ <;> ((try unfold U_X11_findWord); (try simp only [if_neg h10_0, if_pos h25_1]); (try rfl)))
  · refine r_aload_n e_X11_findWord_13 rfl ?_
    refine r_bipush e_X11_findWord_14 bp_10 ?_
    refine r_putI e_X11_findWord_16 fl_X11_28 k0 ?_
    refine r_return e_X11_findWord_19 rfl ⟨rfl, rfl⟩ ?_
    (refine ⟨?_, rfl, ?_⟩ <;> ((try unfold U_X11_findWord); (try simp only [if_pos h10_0]); (try rfl)))
