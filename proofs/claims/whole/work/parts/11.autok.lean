def V_X11_name (x1 : Int32) (M : Mem) : Int32 := if (M.1 242 5) = (1 : Int32) then (let Mc1 : Mem := U_X11_keepWord  (setI (setI (setI (setI (setJ M 249 (M.1 242 15).toNatClampNeg (M.2 242 7)) 250 (M.1 242 15).toNatClampNeg (M.1 242 3)) 251 (M.1 242 15).toNatClampNeg (M.1 242 11)) 252 (M.1 242 15).toNatClampNeg x1) 242 15 ((M.1 242 15) + (1 : Int32))); (V_X11_keepWord  (setI (setI (setI (setI (setJ M 249 (M.1 242 15).toNatClampNeg (M.2 242 7)) 250 (M.1 242 15).toNatClampNeg (M.1 242 3)) 251 (M.1 242 15).toNatClampNeg (M.1 242 11)) 252 (M.1 242 15).toNatClampNeg x1) 242 15 ((M.1 242 15) + (1 : Int32))))) else (V_X11_wrong  M)
theorem Z_X11_name {M : Mem} {x1 : Int32}  (g2 : x1 = 0 ∨ x1 = 1) : V_X11_name x1 M = 0 ∨ V_X11_name x1 M = 1 := (zi Z_X11_keepWord Z_X11_wrong)
def U_X11_name (x1 : Int32) (M : Mem) : Mem := if (M.1 242 5) = (1 : Int32) then (let Mc1 : Mem := U_X11_keepWord  (setI (setI (setI (setI (setJ M 249 (M.1 242 15).toNatClampNeg (M.2 242 7)) 250 (M.1 242 15).toNatClampNeg (M.1 242 3)) 251 (M.1 242 15).toNatClampNeg (M.1 242 11)) 252 (M.1 242 15).toNatClampNeg x1) 242 15 ((M.1 242 15) + (1 : Int32))); Mc1) else (U_X11_wrong  M)
def P_X11_name (x1 : Int32) (M : Mem) : Prop := ((M.1 242 5) = (1 : Int32) → vp_in (M.1 242 15) 800) ∧ ((M.1 242 5) = (1 : Int32) → vp_in (((800 : Int32) * ((setI (setI (setI (setI (setJ M 249 (M.1 242 15).toNatClampNeg (M.2 242 7)) 250 (M.1 242 15).toNatClampNeg (M.1 242 3)) 251 (M.1 242 15).toNatClampNeg (M.1 242 11)) 252 (M.1 242 15).toNatClampNeg x1) 242 15 ((M.1 242 15) + (1 : Int32))).1 242 8)) + ((setI (setI (setI (setI (setJ M 249 (M.1 242 15).toNatClampNeg (M.2 242 7)) 250 (M.1 242 15).toNatClampNeg (M.1 242 3)) 251 (M.1 242 15).toNatClampNeg (M.1 242 11)) 252 (M.1 242 15).toNatClampNeg x1) 242 15 ((M.1 242 15) + (1 : Int32))).1 242 11)) 4800) ∧ ((M.1 242 5) = (1 : Int32) → P_X11_keepWord  (setI (setI (setI (setI (setJ M 249 (M.1 242 15).toNatClampNeg (M.2 242 7)) 250 (M.1 242 15).toNatClampNeg (M.1 242 3)) 251 (M.1 242 15).toNatClampNeg (M.1 242 11)) 252 (M.1 242 15).toNatClampNeg x1) 242 15 ((M.1 242 15) + (1 : Int32))))
theorem S_X11_name {sh : List SC} {M : Mem} {x1 : Int32} {mA : Nat} {oA : Nat} (hb1 : ModelAt sh mA oA) (g2 : x1 = 0 ∨ x1 = 1) (hP : P_X11_name x1 M) : Gv m_X11_name [.ref 242, .int x1] sh M (.int (V_X11_name x1 M)) (U_X11_name x1 M) := by
  refine Sp.of (ls := [some (.ref 242), some (.int x1)]) (by decide +kernel) (Nat.le_of_ble_eq_true rfl) rfl ?_
  obtain ⟨g1, g3, g4⟩ := hP
  have k0 : kd sh 242 = some (10 + 7, 0) := hb1.1
  have k1 : rf sh 242 16 = some 249 := hb1.2.2.2.2.2.2.2.1
  have k2 : kd sh 249 = some (1, 800) := hb1.2.2.2.2.2.2.2.2.2.2.2.2.2.2.2.2.2.2.2.2.2.2.2.2.2.2.2.2.2.2.2.2.2.1
  have k3 : rf sh 242 17 = some 250 := hb1.2.2.2.2.2.2.2.2.1
  have k4 : kd sh 250 = some (0, 800) := hb1.2.2.2.2.2.2.2.2.2.2.2.2.2.2.2.2.2.2.2.2.2.2.2.2.2.2.2.2.2.2.2.2.2.2.1
  have k5 : rf sh 242 18 = some 251 := hb1.2.2.2.2.2.2.2.2.2.1
  have k6 : kd sh 251 = some (0, 800) := hb1.2.2.2.2.2.2.2.2.2.2.2.2.2.2.2.2.2.2.2.2.2.2.2.2.2.2.2.2.2.2.2.2.2.2.2.1
  have k7 : rf sh 242 19 = some 252 := hb1.2.2.2.2.2.2.2.2.2.2.1
  have k8 : kd sh 252 = some (2, 800) := hb1.2.2.2.2.2.2.2.2.2.2.2.2.2.2.2.2.2.2.2.2.2.2.2.2.2.2.2.2.2.2.2.2.2.2.2.2.1
  refine r_aload_n e_X11_name_0 rfl ?_
  refine r_getI e_X11_name_1 fl_X11_28 i0 k0 ?_
  refine r_iconst e_X11_name_4 ic_1 ?_
  refine r_icmp_eq e_X11_name_5 (fun h5_0 => ?_) (fun h5_0 => ?_)
  · refine r_aload_n e_X11_name_13 rfl ?_
    refine r_getR e_X11_name_14 fl_X11_124 k0 k1 ?_
    refine r_aload_n e_X11_name_17 rfl ?_
    refine r_getI e_X11_name_18 fl_X11_128 i0 k0 ?_
    refine r_aload_n e_X11_name_21 rfl ?_
    refine r_getJ e_X11_name_22 fl_X11_24 k0 ?_
    refine r_lastore e_X11_name_25 k2 (g1 h5_0) ?_
    refine r_aload_n e_X11_name_26 rfl ?_
    refine r_getR e_X11_name_27 fl_X11_131 k0 k3 ?_
    refine r_aload_n e_X11_name_30 rfl ?_
    refine r_getIe e_X11_name_31 fl_X11_128 i0 k0 gs_k ?_
    refine r_aload_n e_X11_name_34 rfl ?_
    refine r_getIe e_X11_name_35 fl_X11_18 i0 k0 gs_k ?_
    refine r_iastore e_X11_name_38 k4 (g1 h5_0) ?_
    refine r_aload_n e_X11_name_39 rfl ?_
    refine r_getR e_X11_name_40 fl_X11_134 k0 k5 ?_
    refine r_aload_n e_X11_name_43 rfl ?_
    refine r_getIe e_X11_name_44 fl_X11_128 i0 k0 ((gs_aI (by omega)).trans gs_k) ?_
    refine r_aload_n e_X11_name_47 rfl ?_
    refine r_getIe e_X11_name_48 fl_X11_108 i0 k0 ((gs_aI (by omega)).trans gs_k) ?_
    refine r_iastore e_X11_name_51 k6 (g1 h5_0) ?_
    refine r_aload_n e_X11_name_52 rfl ?_
    refine r_getR e_X11_name_53 fl_X11_137 k0 k7 ?_
    refine r_aload_n e_X11_name_56 rfl ?_
    refine r_getIe e_X11_name_57 fl_X11_128 i0 k0 ((gs_aI (by omega)).trans ((gs_aI (by omega)).trans gs_k)) ?_
    refine r_iload_n e_X11_name_60 rfl ?_
    refine r_zastore e_X11_name_61 k8 (g1 h5_0) g2 ?_
    refine r_aload_n e_X11_name_62 rfl ?_
    refine r_dup e_X11_name_63 rfl ?_
    refine r_getIe e_X11_name_64 fl_X11_128 i0 k0 ((gs_aI (by omega)).trans ((gs_aI (by omega)).trans ((gs_aI (by omega)).trans gs_k))) ?_
    refine r_iconst e_X11_name_67 ic_1 ?_
    refine r_iadd e_X11_name_68 ?_
    refine r_putI e_X11_name_69 fl_X11_128 k0 ?_
    refine r_aload_n e_X11_name_72 rfl ?_
    refine cV0v e_X11_name_73 cl_X11_117 ⟨Nat.le_of_ble_eq_true rfl, Nat.le_of_ble_eq_true rfl⟩ ⟨rfl, rfl⟩ k0 (Nat.le_of_ble_eq_true rfl) (S_X11_keepWord hb1 (g3 h5_0) (g4 h5_0)) ?_
    obtain ⟨Mc1, e_Mc1⟩ : ∃ z : Mem, z = (U_X11_keepWord  (setI (setI (setI (setI (setJ M 249 (M.1 242 15).toNatClampNeg (M.2 242 7)) 250 (M.1 242 15).toNatClampNeg (M.1 242 3)) 251 (M.1 242 15).toNatClampNeg (M.1 242 11)) 252 (M.1 242 15).toNatClampNeg x1) 242 15 ((M.1 242 15) + (1 : Int32)))) := ⟨_, rfl⟩
    rw [← e_Mc1]
    refine r_zreturn e_X11_name_76 rfl ⟨rfl, rfl⟩ (Z_X11_keepWord) ?_
    (subst e_Mc1; refine ⟨?_, rfl, ?_⟩ <;> ((try unfold V_X11_name); (try unfold U_X11_name); (try simp only [if_pos h5_0]); (try rfl)))
  · refine r_aload_n e_X11_name_8 rfl ?_
    refine cV0v e_X11_name_9 cl_X11_121 ⟨Nat.le_of_ble_eq_true rfl, Nat.le_of_ble_eq_true rfl⟩ ⟨rfl, rfl⟩ k0 (Nat.le_of_ble_eq_true rfl) (S_X11_wrong hb1) ?_
    refine r_zreturn e_X11_name_12 rfl ⟨rfl, rfl⟩ (Z_X11_wrong) ?_
    (refine ⟨?_, rfl, ?_⟩ <;> ((try unfold V_X11_name); (try unfold U_X11_name); (try simp only [if_neg h5_0]); (try rfl)))
def V_X11_is (x1 : Int32) (M : Mem) : Int32 := (let v0_0 : Int32 := if (M.1 242 5) = x1 then (V_X11_keepWord  M) else (V_X11_wrong  M); let M0_1 : Mem := if (M.1 242 5) = x1 then (U_X11_keepWord  M) else (U_X11_wrong  M); v0_0)
theorem Z_X11_is {M : Mem} {x1 : Int32}   : V_X11_is x1 M = 0 ∨ V_X11_is x1 M = 1 := (zi Z_X11_keepWord Z_X11_wrong)
def U_X11_is (x1 : Int32) (M : Mem) : Mem := (let v0_0 : Int32 := if (M.1 242 5) = x1 then (V_X11_keepWord  M) else (V_X11_wrong  M); let M0_1 : Mem := if (M.1 242 5) = x1 then (U_X11_keepWord  M) else (U_X11_wrong  M); M0_1)
def P_X11_is (x1 : Int32) (M : Mem) : Prop := ((M.1 242 5) = x1 → vp_in (((800 : Int32) * (M.1 242 8)) + (M.1 242 11)) 4800) ∧ ((M.1 242 5) = x1 → P_X11_keepWord  M)
theorem S_X11_is {sh : List SC} {M : Mem} {x1 : Int32} {mA : Nat} {oA : Nat} (hb1 : ModelAt sh mA oA)  (hP : P_X11_is x1 M) : Gv m_X11_is [.ref 242, .int x1] sh M (.int (V_X11_is x1 M)) (U_X11_is x1 M) := by
  refine Sp.of (ls := [some (.ref 242), some (.int x1)]) (by decide +kernel) (Nat.le_of_ble_eq_true rfl) rfl ?_
  obtain ⟨g1, g2⟩ := hP
  have k0 : kd sh 242 = some (10 + 7, 0) := hb1.1
  refine r_aload_n e_X11_is_0 rfl ?_
  refine r_getI e_X11_is_1 fl_X11_28 i0 k0 ?_
  refine r_iload_n e_X11_is_4 rfl ?_
  obtain ⟨v0_0, e_v0_0⟩ : ∃ z : Int32, z = (if (M.1 242 5) = x1 then (V_X11_keepWord  M) else (V_X11_wrong  M)) := ⟨_, rfl⟩
  have z_v0_0 : v0_0 = 0 ∨ v0_0 = 1 := by rw [e_v0_0]; exact (zi Z_X11_keepWord Z_X11_wrong)
  obtain ⟨M0_1, e_M0_1⟩ : ∃ z : Mem, z = (if (M.1 242 5) = x1 then (U_X11_keepWord  M) else (U_X11_wrong  M)) := ⟨_, rfl⟩
  suffices j19_0 : WP m_X11_is (fun r sh' M'' => r = some (.int (V_X11_is x1 M)) ∧ sh' = sh ∧ M'' = (U_X11_is x1 M)) 19 [some (.ref 242), some (.int x1)] [.int v0_0] sh M0_1 0 0 by
    refine r_icmp_ne e_X11_is_5 (fun h5_0 => ?_) (fun h5_0 => ?_)
    · refine r_aload_n e_X11_is_15 rfl ?_
      refine cV0v e_X11_is_16 cl_X11_121 ⟨Nat.le_of_ble_eq_true rfl, Nat.le_of_ble_eq_true rfl⟩ ⟨rfl, rfl⟩ k0 (Nat.le_of_ble_eq_true rfl) (S_X11_wrong hb1) ?_
      (rw [show v0_0 = (V_X11_wrong  M) from (e_v0_0.trans (if_neg h5_0)), show M0_1 = U_X11_wrong  M from (e_M0_1.trans (if_neg h5_0))] at j19_0; exact j19_0)
    · refine r_aload_n e_X11_is_8 rfl ?_
      refine cV0v e_X11_is_9 cl_X11_117 ⟨Nat.le_of_ble_eq_true rfl, Nat.le_of_ble_eq_true rfl⟩ ⟨rfl, rfl⟩ k0 (Nat.le_of_ble_eq_true rfl) (S_X11_keepWord hb1 (g1 h5_0) (g2 h5_0)) ?_
      refine r_goto e_X11_is_12 ?_
      (rw [show v0_0 = (V_X11_keepWord  M) from (e_v0_0.trans (if_pos h5_0)), show M0_1 = U_X11_keepWord  M from (e_M0_1.trans (if_pos h5_0))] at j19_0; exact j19_0)
  refine r_zreturn e_X11_is_19 rfl ⟨rfl, rfl⟩ z_v0_0 ?_
  (subst e_M0_1 e_v0_0; refine ⟨?_, rfl, ?_⟩ <;> ((try unfold V_X11_is); (try unfold U_X11_is); (try simp only []); (try rfl)))
def FV_X11_term_26 : Nat → Int32 → Mem → Int32
  | 0, u1, M => 0
  | n + 1, u1, M => if (M.1 242 5) = (45 : Int32) then (if u1 = (6 : Int32) then (V_X11_wrong  M) else (FV_X11_term_26  n (u1 + 1) (U_X11_keepWord  M))) else (if (M.1 242 5) = (5 : Int32) then (if ((U_X11_keepWord  M).1 242 5) = (2 : Int32) then (if (4 : Int32) < ((U_X11_keepWord  M).1 242 6) then (V_X11_wrong  (U_X11_keepWord  M)) else (V_X11_keepWord  (U_X11_keepWord  M))) else (V_X11_wrong  (U_X11_keepWord  M))) else (if (M.1 242 5) = (2 : Int32) then (V_X11_keepWord  M) else (if (M.1 242 5) = (3 : Int32) then (V_X11_keepWord  M) else (if (M.1 242 5) = (4 : Int32) then (V_X11_keepWord  M) else (V_X11_wrong  M)))))
def FU_X11_term_26 : Nat → Int32 → Mem → Mem
  | 0, u1, M => M
  | n + 1, u1, M => if (M.1 242 5) = (45 : Int32) then (if u1 = (6 : Int32) then (U_X11_wrong  M) else (FU_X11_term_26  n (u1 + 1) (U_X11_keepWord  M))) else (if (M.1 242 5) = (5 : Int32) then (if ((U_X11_keepWord  M).1 242 5) = (2 : Int32) then (if (4 : Int32) < ((U_X11_keepWord  M).1 242 6) then (U_X11_wrong  (U_X11_keepWord  M)) else (U_X11_keepWord  (U_X11_keepWord  M))) else (U_X11_wrong  (U_X11_keepWord  M))) else (if (M.1 242 5) = (2 : Int32) then (U_X11_keepWord  M) else (if (M.1 242 5) = (3 : Int32) then (U_X11_keepWord  M) else (if (M.1 242 5) = (4 : Int32) then (U_X11_keepWord  M) else (U_X11_wrong  M)))))
def T_X11_term_26 : Nat → Int32 → Mem → Prop
  | 0, u1, M => False
  | n + 1, u1, M => (vp_in (((800 : Int32) * (M.1 242 8)) + (M.1 242 11)) 4800) ∧ (P_X11_keepWord  M) ∧ (vp_in (((800 : Int32) * ((U_X11_keepWord  M).1 242 8)) + ((U_X11_keepWord  M).1 242 11)) 4800) ∧ (P_X11_keepWord  (U_X11_keepWord  M)) ∧ ((if (M.1 242 5) = (45 : Int32) then (if u1 = (6 : Int32) then True else (T_X11_term_26  n (u1 + 1) (U_X11_keepWord  M))) else (if (M.1 242 5) = (5 : Int32) then (if ((U_X11_keepWord  M).1 242 5) = (2 : Int32) then (if (4 : Int32) < ((U_X11_keepWord  M).1 242 6) then True else True) else True) else (if (M.1 242 5) = (2 : Int32) then True else (if (M.1 242 5) = (3 : Int32) then True else (if (M.1 242 5) = (4 : Int32) then True else True))))))
theorem L_X11_term_26 {sh : List SC} {Q : Po}  {mA : Nat} {oA : Nat}   (hb1 : ModelAt sh mA oA)   : ∀ (n : Nat) (u1 : Int32) (M : Mem), T_X11_term_26  n u1 M → Q (some (.int (FV_X11_term_26  n u1 M))) sh (FU_X11_term_26  n u1 M) → WP m_X11_term Q 26 [some (.ref 242), some (.int u1)] [] sh M 0 0 := by
  have k0 : kd sh 242 = some (10 + 7, 0) := hb1.1
  intro n
  induction n with
  | zero =>
    intro u1 M hH hq
    exact hH.elim
  | succ n ih =>
    intro u1 M hH hq
    unfold T_X11_term_26 at hH
    obtain ⟨g1, g2, g3, g4, hH⟩ := hH
    refine r_aload_n e_X11_term_26 rfl ?_
    refine r_getI e_X11_term_27 fl_X11_28 i0 k0 ?_
    refine r_bipush e_X11_term_30 bp_45 ?_
    refine r_icmp_ne e_X11_term_32 (fun h32_2601 => ?_) (fun h32_2601 => ?_)
    · refine r_aload_n e_X11_term_57 rfl ?_
      refine r_getI e_X11_term_58 fl_X11_28 i0 k0 ?_
      refine r_iconst e_X11_term_61 ic_5 ?_
      refine r_icmp_ne e_X11_term_62 (fun h62_2602 => ?_) (fun h62_2602 => ?_)
      · refine r_aload_n e_X11_term_98 rfl ?_
        refine r_getI e_X11_term_99 fl_X11_28 i0 k0 ?_
        refine r_iconst e_X11_term_102 ic_2 ?_
        refine r_icmp_eq e_X11_term_103 (fun h103_2603 => ?_) (fun h103_2603 => ?_)
        · refine r_aload_n e_X11_term_122 rfl ?_
          refine cV0v e_X11_term_123 cl_X11_117 ⟨Nat.le_of_ble_eq_true rfl, Nat.le_of_ble_eq_true rfl⟩ ⟨rfl, rfl⟩ k0 (Nat.le_of_ble_eq_true rfl) (S_X11_keepWord hb1 g1 g2) ?_
          refine r_goto e_X11_term_126 ?_
          refine r_zreturn e_X11_term_133 rfl ⟨rfl, rfl⟩ (Z_X11_keepWord) ?_
          (simp only [FV_X11_term_26, FU_X11_term_26, if_neg h32_2601, if_neg h62_2602, if_pos h103_2603] at hq; first | exact hq | (simp only [if_neg h32_2601, if_neg h62_2602, if_pos h103_2603]; exact hq))
        · refine r_aload_n e_X11_term_106 rfl ?_
          refine r_getI e_X11_term_107 fl_X11_28 i0 k0 ?_
          refine r_iconst e_X11_term_110 ic_3 ?_
          refine r_icmp_eq e_X11_term_111 (fun h111_2604 => ?_) (fun h111_2604 => ?_)
          · refine r_aload_n e_X11_term_122 rfl ?_
            refine cV0v e_X11_term_123 cl_X11_117 ⟨Nat.le_of_ble_eq_true rfl, Nat.le_of_ble_eq_true rfl⟩ ⟨rfl, rfl⟩ k0 (Nat.le_of_ble_eq_true rfl) (S_X11_keepWord hb1 g1 g2) ?_
            refine r_goto e_X11_term_126 ?_
            refine r_zreturn e_X11_term_133 rfl ⟨rfl, rfl⟩ (Z_X11_keepWord) ?_
            (simp only [FV_X11_term_26, FU_X11_term_26, if_neg h32_2601, if_neg h62_2602, if_neg h103_2603, if_pos h111_2604] at hq; first | exact hq | (simp only [if_neg h32_2601, if_neg h62_2602, if_neg h103_2603, if_pos h111_2604]; exact hq))
          · refine r_aload_n e_X11_term_114 rfl ?_
            refine r_getI e_X11_term_115 fl_X11_28 i0 k0 ?_
            refine r_iconst e_X11_term_118 ic_4 ?_
            refine r_icmp_ne e_X11_term_119 (fun h119_2605 => ?_) (fun h119_2605 => ?_)
            · refine r_aload_n e_X11_term_129 rfl ?_
              refine cV0v e_X11_term_130 cl_X11_121 ⟨Nat.le_of_ble_eq_true rfl, Nat.le_of_ble_eq_true rfl⟩ ⟨rfl, rfl⟩ k0 (Nat.le_of_ble_eq_true rfl) (S_X11_wrong hb1) ?_
              refine r_zreturn e_X11_term_133 rfl ⟨rfl, rfl⟩ (Z_X11_wrong) ?_
              (simp only [FV_X11_term_26, FU_X11_term_26, if_neg h32_2601, if_neg h62_2602, if_neg h103_2603, if_neg h111_2604, if_neg h119_2605] at hq; first | exact hq | (simp only [if_neg h32_2601, if_neg h62_2602, if_neg h103_2603, if_neg h111_2604, if_neg h119_2605]; exact hq))
            · refine r_aload_n e_X11_term_122 rfl ?_
              refine cV0v e_X11_term_123 cl_X11_117 ⟨Nat.le_of_ble_eq_true rfl, Nat.le_of_ble_eq_true rfl⟩ ⟨rfl, rfl⟩ k0 (Nat.le_of_ble_eq_true rfl) (S_X11_keepWord hb1 g1 g2) ?_
              refine r_goto e_X11_term_126 ?_
              refine r_zreturn e_X11_term_133 rfl ⟨rfl, rfl⟩ (Z_X11_keepWord) ?_
              (simp only [FV_X11_term_26, FU_X11_term_26, if_neg h32_2601, if_neg h62_2602, if_neg h103_2603, if_neg h111_2604, if_pos h119_2605] at hq; first | exact hq | (simp only [if_neg h32_2601, if_neg h62_2602, if_neg h103_2603, if_neg h111_2604, if_pos h119_2605]; exact hq))
      · refine r_aload_n e_X11_term_65 rfl ?_
        refine cV0v e_X11_term_66 cl_X11_117 ⟨Nat.le_of_ble_eq_true rfl, Nat.le_of_ble_eq_true rfl⟩ ⟨rfl, rfl⟩ k0 (Nat.le_of_ble_eq_true rfl) (S_X11_keepWord hb1 g1 g2) ?_
        refine r_pop e_X11_term_69 rfl ?_
        refine r_aload_n e_X11_term_70 rfl ?_
        refine r_getI e_X11_term_71 fl_X11_28 i0 k0 ?_
        refine r_iconst e_X11_term_74 ic_2 ?_
        refine r_icmp_ne e_X11_term_75 (fun h75_2606 => ?_) (fun h75_2606 => ?_)
        · refine r_aload_n e_X11_term_93 rfl ?_
          refine cV0v e_X11_term_94 cl_X11_121 ⟨Nat.le_of_ble_eq_true rfl, Nat.le_of_ble_eq_true rfl⟩ ⟨rfl, rfl⟩ k0 (Nat.le_of_ble_eq_true rfl) (S_X11_wrong hb1) ?_
          refine r_zreturn e_X11_term_97 rfl ⟨rfl, rfl⟩ (Z_X11_wrong) ?_
          (simp only [FV_X11_term_26, FU_X11_term_26, if_neg h32_2601, if_pos h62_2602, if_neg h75_2606] at hq; first | exact hq | (simp only [if_neg h32_2601, if_pos h62_2602, if_neg h75_2606]; exact hq))
        · refine r_aload_n e_X11_term_78 rfl ?_
          refine r_getI e_X11_term_79 fl_X11_21 i0 k0 ?_
          refine r_iconst e_X11_term_82 ic_4 ?_
          refine r_icmp_gt e_X11_term_83 (fun h83_2607 => ?_) (fun h83_2607 => ?_)
          · refine r_aload_n e_X11_term_93 rfl ?_
            refine cV0v e_X11_term_94 cl_X11_121 ⟨Nat.le_of_ble_eq_true rfl, Nat.le_of_ble_eq_true rfl⟩ ⟨rfl, rfl⟩ k0 (Nat.le_of_ble_eq_true rfl) (S_X11_wrong hb1) ?_
            refine r_zreturn e_X11_term_97 rfl ⟨rfl, rfl⟩ (Z_X11_wrong) ?_
            (simp only [FV_X11_term_26, FU_X11_term_26, if_neg h32_2601, if_pos h62_2602, if_pos h75_2606, if_pos h83_2607] at hq; first | exact hq | (simp only [if_neg h32_2601, if_pos h62_2602, if_pos h75_2606, if_pos h83_2607]; exact hq))
          · refine r_aload_n e_X11_term_86 rfl ?_
            refine cV0v e_X11_term_87 cl_X11_117 ⟨Nat.le_of_ble_eq_true rfl, Nat.le_of_ble_eq_true rfl⟩ ⟨rfl, rfl⟩ k0 (Nat.le_of_ble_eq_true rfl) (S_X11_keepWord hb1 g3 g4) ?_
            refine r_goto e_X11_term_90 ?_
            refine r_zreturn e_X11_term_97 rfl ⟨rfl, rfl⟩ (Z_X11_keepWord) ?_
            (simp only [FV_X11_term_26, FU_X11_term_26, if_neg h32_2601, if_pos h62_2602, if_pos h75_2606, if_neg h83_2607] at hq; first | exact hq | (simp only [if_neg h32_2601, if_pos h62_2602, if_pos h75_2606, if_neg h83_2607]; exact hq))
    · refine r_iload_n e_X11_term_35 rfl ?_
      refine r_bipush e_X11_term_36 bp_6 ?_
      refine r_icmp_ne e_X11_term_38 (fun h38_2608 => ?_) (fun h38_2608 => ?_)
      · refine r_aload_n e_X11_term_46 rfl ?_
        refine cV0v e_X11_term_47 cl_X11_117 ⟨Nat.le_of_ble_eq_true rfl, Nat.le_of_ble_eq_true rfl⟩ ⟨rfl, rfl⟩ k0 (Nat.le_of_ble_eq_true rfl) (S_X11_keepWord hb1 g1 g2) ?_
        refine r_pop e_X11_term_50 rfl ?_
        refine p_iinc_2_1 e_X11_term_51 rfl ic_1 rfl ?_
        refine r_goto e_X11_term_54 ?_
        (simp only [FV_X11_term_26, FU_X11_term_26, if_pos h32_2601, if_neg h38_2608] at hq; (try simp only [if_pos h32_2601, if_neg h38_2608] at hH); first | exact ih _ _ hH hq | (simp only [if_pos h32_2601, if_neg h38_2608]; exact ih _ _ hH hq))
      · refine r_aload_n e_X11_term_41 rfl ?_
        refine cV0v e_X11_term_42 cl_X11_121 ⟨Nat.le_of_ble_eq_true rfl, Nat.le_of_ble_eq_true rfl⟩ ⟨rfl, rfl⟩ k0 (Nat.le_of_ble_eq_true rfl) (S_X11_wrong hb1) ?_
        refine r_zreturn e_X11_term_45 rfl ⟨rfl, rfl⟩ (Z_X11_wrong) ?_
        (simp only [FV_X11_term_26, FU_X11_term_26, if_pos h32_2601, if_pos h38_2608] at hq; first | exact hq | (simp only [if_pos h32_2601, if_pos h38_2608]; exact hq))
theorem ZV_X11_term_26 : ∀ (n : Nat) (u1 : Int32) (M : Mem), FV_X11_term_26  n u1 M = 0 ∨ FV_X11_term_26  n u1 M = 1 := by
  intro n
  induction n with
  | zero => intro u1 M; exact Or.inl rfl
  | succ n ih => intro u1 M; exact (zi (zi Z_X11_wrong (ih _ _)) (zi (zi (zi Z_X11_wrong Z_X11_keepWord) Z_X11_wrong) (zi Z_X11_keepWord (zi Z_X11_keepWord (zi Z_X11_keepWord Z_X11_wrong)))))
def V_X11_term (M : Mem) : Int32 := if (M.1 242 20) = (12 : Int32) then (V_X11_wrong  M) else (FV_X11_term_26  FUEL (0 : Int32) (setI M 242 20 ((M.1 242 20) + (1 : Int32))))
theorem Z_X11_term {M : Mem}    : V_X11_term  M = 0 ∨ V_X11_term  M = 1 := (zi Z_X11_wrong (ZV_X11_term_26 _ _ _))
def U_X11_term (M : Mem) : Mem := if (M.1 242 20) = (12 : Int32) then (U_X11_wrong  M) else (FU_X11_term_26  FUEL (0 : Int32) (setI M 242 20 ((M.1 242 20) + (1 : Int32))))
def P_X11_term (M : Mem) : Prop := (¬ ((M.1 242 20) = (12 : Int32)) → T_X11_term_26  FUEL (0 : Int32) (setI M 242 20 ((M.1 242 20) + (1 : Int32))))
theorem S_X11_term {sh : List SC} {M : Mem}  {mA : Nat} {oA : Nat} (hb1 : ModelAt sh mA oA)  (hP : P_X11_term  M) : Gv m_X11_term [.ref 242] sh M (.int (V_X11_term  M)) (U_X11_term  M) := by
  refine Sp.of (ls := [some (.ref 242), none]) (by decide +kernel) (Nat.le_of_ble_eq_true rfl) rfl ?_
  have g1 : ¬ ((M.1 242 20) = (12 : Int32)) → T_X11_term_26  FUEL (0 : Int32) (setI M 242 20 ((M.1 242 20) + (1 : Int32))) := hP
  have k0 : kd sh 242 = some (10 + 7, 0) := hb1.1
  refine r_aload_n e_X11_term_0 rfl ?_
  refine r_getI e_X11_term_1 fl_X11_141 i0 k0 ?_
  refine r_bipush e_X11_term_4 bp_12 ?_
  refine r_icmp_ne e_X11_term_6 (fun h6_0 => ?_) (fun h6_0 => ?_)
  · refine r_aload_n e_X11_term_14 rfl ?_
    refine r_dup e_X11_term_15 rfl ?_
    refine r_getI e_X11_term_16 fl_X11_141 i0 k0 ?_
    refine r_iconst e_X11_term_19 ic_1 ?_
    refine r_iadd e_X11_term_20 ?_
    refine r_putI e_X11_term_21 fl_X11_141 k0 ?_
    refine r_iconst e_X11_term_24 ic_0 ?_
    refine p_istore_n_2_1 e_X11_term_25 rfl rfl ?_
    refine L_X11_term_26 hb1 FUEL (0 : Int32) (setI M 242 20 ((M.1 242 20) + (1 : Int32))) (g1 h6_0) ?_
    (refine ⟨?_, rfl, ?_⟩ <;> ((try unfold V_X11_term); (try unfold U_X11_term); (try simp only [if_neg h6_0]); (try rfl)))
  · refine r_aload_n e_X11_term_9 rfl ?_
    refine cV0v e_X11_term_10 cl_X11_121 ⟨Nat.le_of_ble_eq_true rfl, Nat.le_of_ble_eq_true rfl⟩ ⟨rfl, rfl⟩ k0 (Nat.le_of_ble_eq_true rfl) (S_X11_wrong hb1) ?_
    refine r_zreturn e_X11_term_13 rfl ⟨rfl, rfl⟩ (Z_X11_wrong) ?_
    (refine ⟨?_, rfl, ?_⟩ <;> ((try unfold V_X11_term); (try unfold U_X11_term); (try simp only [if_pos h6_0]); (try rfl)))
def V_X11_program (x1 : Int32) (x2 : Int32) (x3 : Int32) (M : Mem) : Int32 := if (V_X11_isTeam x1 M) = 0 then (V_X11_finding (-1001 : Int32) M) else (if (V_X11_in x2 (0 : Int32) (4 : Int32) M) = 0 then (V_X11_finding (-1001 : Int32) M) else (if (V_X11_in x3 (-1 : Int32) ((M.1 242 8) - (1 : Int32)) M) = 0 then (V_X11_finding (-1001 : Int32) M) else (1 : Int32)))
def U_X11_program (x1 : Int32) (x2 : Int32) (x3 : Int32) (M : Mem) : Mem := if (V_X11_isTeam x1 M) = 0 then (U_X11_finding (-1001 : Int32) M) else (if (V_X11_in x2 (0 : Int32) (4 : Int32) M) = 0 then (U_X11_finding (-1001 : Int32) M) else (if (V_X11_in x3 (-1 : Int32) ((M.1 242 8) - (1 : Int32)) M) = 0 then (U_X11_finding (-1001 : Int32) M) else (setI M 254 (((5 : Int32) * x1) + x2).toNatClampNeg x3)))
def P_X11_program (x1 : Int32) (x2 : Int32) (x3 : Int32) (M : Mem) : Prop := (¬ ((V_X11_isTeam x1 M) = 0) → ¬ ((V_X11_in x2 (0 : Int32) (4 : Int32) M) = 0) → ¬ ((V_X11_in x3 (-1 : Int32) ((M.1 242 8) - (1 : Int32)) M) = 0) → vp_in (((5 : Int32) * x1) + x2) 20)
theorem S_X11_program {sh : List SC} {M : Mem} {x1 : Int32} {x2 : Int32} {x3 : Int32} {mA : Nat} {oA : Nat} (hb1 : ModelAt sh mA oA)  (hP : P_X11_program x1 x2 x3 M) : Gv m_X11_program [.ref 242, .int x1, .int x2, .int x3] sh M (.int (V_X11_program x1 x2 x3 M)) (U_X11_program x1 x2 x3 M) := by
  refine Sp.of (ls := [some (.ref 242), some (.int x1), some (.int x2), some (.int x3)]) (by decide +kernel) (Nat.le_of_ble_eq_true rfl) rfl ?_
  have g1 : ¬ ((V_X11_isTeam x1 M) = 0) → ¬ ((V_X11_in x2 (0 : Int32) (4 : Int32) M) = 0) → ¬ ((V_X11_in x3 (-1 : Int32) ((M.1 242 8) - (1 : Int32)) M) = 0) → vp_in (((5 : Int32) * x1) + x2) 20 := hP
  have k0 : kd sh 242 = some (10 + 7, 0) := hb1.1
  have k1 : rf sh 242 22 = some 254 := hb1.2.2.2.2.2.2.2.2.2.2.2.2.1
  have k2 : kd sh 254 = some (0, 20) := hb1.2.2.2.2.2.2.2.2.2.2.2.2.2.2.2.2.2.2.2.2.2.2.2.2.2.2.2.2.2.2.2.2.2.2.2.2.2.2.1
  refine r_iload_n e_X11_program_0 rfl ?_
  refine cS1v e_X11_program_1 cl_X11_249 ⟨Nat.le_of_ble_eq_true rfl, Nat.le_of_ble_eq_true rfl⟩ ⟨rfl, rfl⟩  (Nat.le_of_ble_eq_true rfl) (S_X11_isTeam ) ?_
  refine r_if_eq e_X11_program_4 (fun h4_0 => ?_) (fun h4_0 => ?_)
  · refine r_aload_n e_X11_program_30 rfl ?_
    refine r_sipush e_X11_program_31 sp_m1001 ?_
    refine cV1v e_X11_program_34 cl_X11_178 ⟨Nat.le_of_ble_eq_true rfl, Nat.le_of_ble_eq_true rfl⟩ ⟨rfl, rfl⟩ k0 (Nat.le_of_ble_eq_true rfl) (S_X11_finding hb1 (by first | decide | (unfold vp_in; decide) | exact Or.inl rfl | exact Or.inr rfl)) ?_
    refine r_ireturn e_X11_program_37 rfl ⟨rfl, rfl⟩ ?_
    (refine ⟨?_, rfl, ?_⟩ <;> ((try unfold V_X11_program); (try unfold U_X11_program); (try simp only [if_pos h4_0]); (try rfl)))
  · refine r_iload_n e_X11_program_7 rfl ?_
    refine r_iconst e_X11_program_8 ic_0 ?_
    refine r_iconst e_X11_program_9 ic_4 ?_
    refine cS3v e_X11_program_10 cl_X11_245 ⟨Nat.le_of_ble_eq_true rfl, Nat.le_of_ble_eq_true rfl⟩ ⟨rfl, rfl⟩  (Nat.le_of_ble_eq_true rfl) (S_X11_in ) ?_
    refine r_if_eq e_X11_program_13 (fun h13_1 => ?_) (fun h13_1 => ?_)
    · refine r_aload_n e_X11_program_30 rfl ?_
      refine r_sipush e_X11_program_31 sp_m1001 ?_
      refine cV1v e_X11_program_34 cl_X11_178 ⟨Nat.le_of_ble_eq_true rfl, Nat.le_of_ble_eq_true rfl⟩ ⟨rfl, rfl⟩ k0 (Nat.le_of_ble_eq_true rfl) (S_X11_finding hb1 (by first | decide | (unfold vp_in; decide) | exact Or.inl rfl | exact Or.inr rfl)) ?_
      refine r_ireturn e_X11_program_37 rfl ⟨rfl, rfl⟩ ?_
      (refine ⟨?_, rfl, ?_⟩ <;> ((try unfold V_X11_program); (try unfold U_X11_program); (try simp only [if_neg h4_0, if_pos h13_1]); (try rfl)))
    · refine r_iload_n e_X11_program_16 rfl ?_
      refine r_iconst e_X11_program_17 ic_m1 ?_
      refine r_aload_n e_X11_program_18 rfl ?_
      refine r_getI e_X11_program_19 fl_X11_105 i0 k0 ?_
      refine r_iconst e_X11_program_22 ic_1 ?_
      refine r_isub e_X11_program_23 ?_
      refine cS3v e_X11_program_24 cl_X11_245 ⟨Nat.le_of_ble_eq_true rfl, Nat.le_of_ble_eq_true rfl⟩ ⟨rfl, rfl⟩  (Nat.le_of_ble_eq_true rfl) (S_X11_in ) ?_
      refine r_if_ne e_X11_program_27 (fun h27_2 => ?_) (fun h27_2 => ?_)
      · refine r_aload_n e_X11_program_38 rfl ?_
        refine r_getR e_X11_program_39 fl_X11_197 k0 k1 ?_
        refine r_iconst e_X11_program_42 ic_5 ?_
        refine r_iload_n e_X11_program_43 rfl ?_
        refine r_imul e_X11_program_44 ?_
        refine r_iload_n e_X11_program_45 rfl ?_
        refine r_iadd e_X11_program_46 ?_
        refine r_iload_n e_X11_program_47 rfl ?_
        refine r_iastore e_X11_program_48 k2 (g1 h4_0 h13_1 h27_2) ?_
        refine r_iconst e_X11_program_49 ic_1 ?_
        refine r_ireturn e_X11_program_50 rfl ⟨rfl, rfl⟩ ?_
        (refine ⟨?_, rfl, ?_⟩ <;> ((try unfold V_X11_program); (try unfold U_X11_program); (try simp only [if_neg h4_0, if_neg h13_1, if_neg h27_2]); (try rfl)))
      · refine r_aload_n e_X11_program_30 rfl ?_
        refine r_sipush e_X11_program_31 sp_m1001 ?_
        refine cV1v e_X11_program_34 cl_X11_178 ⟨Nat.le_of_ble_eq_true rfl, Nat.le_of_ble_eq_true rfl⟩ ⟨rfl, rfl⟩ k0 (Nat.le_of_ble_eq_true rfl) (S_X11_finding hb1 (by first | decide | (unfold vp_in; decide) | exact Or.inl rfl | exact Or.inr rfl)) ?_
        refine r_ireturn e_X11_program_37 rfl ⟨rfl, rfl⟩ ?_
        (refine ⟨?_, rfl, ?_⟩ <;> ((try unfold V_X11_program); (try unfold U_X11_program); (try simp only [if_neg h4_0, if_neg h13_1, if_pos h27_2]); (try rfl)))
def U_X11_putAtStart (x1 : Int32) (mA : Nat) (M : Mem) : Mem := (let v0_0 : Int32 := if x1 < (5 : Int32) then (0 : Int32) else (1 : Int32); let v1_0 : Int32 := if v0_0 = 0 then (V_X11_of x1 (12 : Int32) mA M) else ((14 : Int32) - (V_X11_of x1 (12 : Int32) mA M)); let v2_0 : Int32 := if v0_0 = 0 then (V_X11_of x1 (13 : Int32) mA M) else ((8 : Int32) - (V_X11_of x1 (13 : Int32) mA M)); let Mc1 : Mem := U_X11_set x1 (1 : Int32) ((U_X11_set x1 (0 : Int32) ((U_X11_findPut v1_0 v2_0 x1 mA M).1 242 31) mA (U_X11_findPut v1_0 v2_0 x1 mA M)).1 242 32) mA (U_X11_set x1 (0 : Int32) ((U_X11_findPut v1_0 v2_0 x1 mA M).1 242 31) mA (U_X11_findPut v1_0 v2_0 x1 mA M)); Mc1)
def P_X11_putAtStart (x1 : Int32) (mA : Nat) (M : Mem) : Prop := ((if x1 < (5 : Int32) then (0 : Int32) else (1 : Int32)) = 0 → vp_in (((44 : Int32) + ((16 : Int32) * x1)) + (12 : Int32)) 212) ∧ (¬ ((if x1 < (5 : Int32) then (0 : Int32) else (1 : Int32)) = 0) → vp_in (((44 : Int32) + ((16 : Int32) * x1)) + (12 : Int32)) 212) ∧ ((if x1 < (5 : Int32) then (0 : Int32) else (1 : Int32)) = 0 → vp_in (((44 : Int32) + ((16 : Int32) * x1)) + (13 : Int32)) 212) ∧ (¬ ((if x1 < (5 : Int32) then (0 : Int32) else (1 : Int32)) = 0) → vp_in (((44 : Int32) + ((16 : Int32) * x1)) + (13 : Int32)) 212) ∧ (P_X11_findPut (if (if x1 < (5 : Int32) then (0 : Int32) else (1 : Int32)) = 0 then (V_X11_of x1 (12 : Int32) mA M) else ((14 : Int32) - (V_X11_of x1 (12 : Int32) mA M))) (if (if x1 < (5 : Int32) then (0 : Int32) else (1 : Int32)) = 0 then (V_X11_of x1 (13 : Int32) mA M) else ((8 : Int32) - (V_X11_of x1 (13 : Int32) mA M))) x1 mA M)
theorem S_X11_putAtStart {sh : List SC} {M : Mem} {x1 : Int32} {mA : Nat} {oA : Nat} (hb1 : ModelAt sh mA oA) (g6 : vp_in (((44 : Int32) + ((16 : Int32) * x1)) + (0 : Int32)) 212) (g7 : vp_in (((44 : Int32) + ((16 : Int32) * x1)) + (1 : Int32)) 212) (hP : P_X11_putAtStart x1 mA M) : Gu m_X11_putAtStart [.ref 242, .int x1] sh M (U_X11_putAtStart x1 mA M) := by
  refine Sp.of (ls := [some (.ref 242), some (.int x1), none]) (by decide +kernel) (Nat.le_of_ble_eq_true rfl) rfl ?_
  obtain ⟨g1, g2, g3, g4, g5⟩ := hP
  have k0 : kd sh 242 = some (10 + 7, 0) := hb1.1
  refine r_iload_n e_X11_putAtStart_0 rfl ?_
  refine r_iconst e_X11_putAtStart_1 ic_5 ?_
  obtain ⟨v0_0, e_v0_0⟩ : ∃ z : Int32, z = (if x1 < (5 : Int32) then (0 : Int32) else (1 : Int32)) := ⟨_, rfl⟩
  have z_v0_0 : v0_0 = 0 ∨ v0_0 = 1 := by rw [e_v0_0]; exact (zi (Or.inl rfl) (Or.inr rfl))
  suffices j10_0 : WP m_X11_putAtStart (fun r sh' M'' => r = none ∧ sh' = sh ∧ M'' = (U_X11_putAtStart x1 mA M)) 10 [some (.ref 242), some (.int x1), none] [.int v0_0] sh M 0 0 by
    refine r_icmp_lt e_X11_putAtStart_2 (fun h2_0 => ?_) (fun h2_0 => ?_)
    · refine r_iconst e_X11_putAtStart_9 ic_0 ?_
      (rw [show v0_0 = (0 : Int32) from (e_v0_0.trans (if_pos h2_0))] at j10_0; exact j10_0)
    · refine r_iconst e_X11_putAtStart_5 ic_1 ?_
      refine r_goto e_X11_putAtStart_6 ?_
      (rw [show v0_0 = (1 : Int32) from (e_v0_0.trans (if_neg h2_0))] at j10_0; exact j10_0)
  refine p_istore_n_3_2 e_X11_putAtStart_10 rfl rfl ?_
  refine r_aload_n e_X11_putAtStart_11 rfl ?_
  refine r_iload_n e_X11_putAtStart_12 rfl ?_
  obtain ⟨v1_0, e_v1_0⟩ : ∃ z : Int32, z = (if v0_0 = 0 then (V_X11_of x1 (12 : Int32) mA M) else ((14 : Int32) - (V_X11_of x1 (12 : Int32) mA M))) := ⟨_, rfl⟩
  suffices j36_1 : WP m_X11_putAtStart (fun r sh' M'' => r = none ∧ sh' = sh ∧ M'' = (U_X11_putAtStart x1 mA M)) 36 [some (.ref 242), some (.int x1), some (.int v0_0)] [.int v1_0, .ref 242] sh M 0 0 by
    refine r_if_eq e_X11_putAtStart_13 (fun h13_1 => ?_) (fun h13_1 => ?_)
    · refine r_aload_n e_X11_putAtStart_29 rfl ?_
      refine r_iload_n e_X11_putAtStart_30 rfl ?_
      refine r_bipush e_X11_putAtStart_31 bp_12 ?_
      refine cV2v e_X11_putAtStart_33 cl_X11_252 ⟨Nat.le_of_ble_eq_true rfl, Nat.le_of_ble_eq_true rfl⟩ ⟨rfl, rfl⟩ k0 (Nat.le_of_ble_eq_true rfl) (S_X11_of hb1 (by subst e_v0_0; exact g1 h13_1)) ?_
      (rw [show v1_0 = (V_X11_of x1 (12 : Int32) mA M) from (e_v1_0.trans (if_pos h13_1))] at j36_1; exact j36_1)
    · refine r_bipush e_X11_putAtStart_16 bp_14 ?_
      refine r_aload_n e_X11_putAtStart_18 rfl ?_
      refine r_iload_n e_X11_putAtStart_19 rfl ?_
      refine r_bipush e_X11_putAtStart_20 bp_12 ?_
      refine cV2v e_X11_putAtStart_22 cl_X11_252 ⟨Nat.le_of_ble_eq_true rfl, Nat.le_of_ble_eq_true rfl⟩ ⟨rfl, rfl⟩ k0 (Nat.le_of_ble_eq_true rfl) (S_X11_of hb1 (by subst e_v0_0; exact g2 h13_1)) ?_
      refine r_isub e_X11_putAtStart_25 ?_
      refine r_goto e_X11_putAtStart_26 ?_
      (rw [show v1_0 = ((14 : Int32) - (V_X11_of x1 (12 : Int32) mA M)) from (e_v1_0.trans (if_neg h13_1))] at j36_1; exact j36_1)
  refine r_iload_n e_X11_putAtStart_36 rfl ?_
  obtain ⟨v2_0, e_v2_0⟩ : ∃ z : Int32, z = (if v0_0 = 0 then (V_X11_of x1 (13 : Int32) mA M) else ((8 : Int32) - (V_X11_of x1 (13 : Int32) mA M))) := ⟨_, rfl⟩
  suffices j60_2 : WP m_X11_putAtStart (fun r sh' M'' => r = none ∧ sh' = sh ∧ M'' = (U_X11_putAtStart x1 mA M)) 60 [some (.ref 242), some (.int x1), some (.int v0_0)] [.int v2_0, .int v1_0, .ref 242] sh M 0 0 by
    refine r_if_eq e_X11_putAtStart_37 (fun h37_2 => ?_) (fun h37_2 => ?_)
    · refine r_aload_n e_X11_putAtStart_53 rfl ?_
      refine r_iload_n e_X11_putAtStart_54 rfl ?_
      refine r_bipush e_X11_putAtStart_55 bp_13 ?_
      refine cV2v e_X11_putAtStart_57 cl_X11_252 ⟨Nat.le_of_ble_eq_true rfl, Nat.le_of_ble_eq_true rfl⟩ ⟨rfl, rfl⟩ k0 (Nat.le_of_ble_eq_true rfl) (S_X11_of hb1 (by subst e_v0_0; exact g3 h37_2)) ?_
      (rw [show v2_0 = (V_X11_of x1 (13 : Int32) mA M) from (e_v2_0.trans (if_pos h37_2))] at j60_2; exact j60_2)
    · refine r_bipush e_X11_putAtStart_40 bp_8 ?_
      refine r_aload_n e_X11_putAtStart_42 rfl ?_
      refine r_iload_n e_X11_putAtStart_43 rfl ?_
      refine r_bipush e_X11_putAtStart_44 bp_13 ?_
      refine cV2v e_X11_putAtStart_46 cl_X11_252 ⟨Nat.le_of_ble_eq_true rfl, Nat.le_of_ble_eq_true rfl⟩ ⟨rfl, rfl⟩ k0 (Nat.le_of_ble_eq_true rfl) (S_X11_of hb1 (by subst e_v0_0; exact g4 h37_2)) ?_
      refine r_isub e_X11_putAtStart_49 ?_
      refine r_goto e_X11_putAtStart_50 ?_
      (rw [show v2_0 = ((8 : Int32) - (V_X11_of x1 (13 : Int32) mA M)) from (e_v2_0.trans (if_neg h37_2))] at j60_2; exact j60_2)
  refine r_iload_n e_X11_putAtStart_60 rfl ?_
  refine cV3u e_X11_putAtStart_61 cl_X11_278 ⟨Nat.le_of_ble_eq_true rfl, Nat.le_of_ble_eq_true rfl⟩ ⟨rfl, rfl⟩ k0 (Nat.le_of_ble_eq_true rfl) (S_X11_findPut hb1 (by subst e_v2_0 e_v1_0 e_v0_0; exact g5 )) ?_
  refine r_aload_n e_X11_putAtStart_64 rfl ?_
  refine r_iload_n e_X11_putAtStart_65 rfl ?_
  refine r_iconst e_X11_putAtStart_66 ic_0 ?_
  refine r_aload_n e_X11_putAtStart_67 rfl ?_
  refine r_getI e_X11_putAtStart_68 fl_X11_264 i0 k0 ?_
  refine cV3u e_X11_putAtStart_71 cl_X11_282 ⟨Nat.le_of_ble_eq_true rfl, Nat.le_of_ble_eq_true rfl⟩ ⟨rfl, rfl⟩ k0 (Nat.le_of_ble_eq_true rfl) (S_X11_set hb1 g6) ?_
  refine r_aload_n e_X11_putAtStart_74 rfl ?_
  refine r_iload_n e_X11_putAtStart_75 rfl ?_
  refine r_iconst e_X11_putAtStart_76 ic_1 ?_
  refine r_aload_n e_X11_putAtStart_77 rfl ?_
  refine r_getI e_X11_putAtStart_78 fl_X11_267 i0 k0 ?_
  refine cV3u e_X11_putAtStart_81 cl_X11_282 ⟨Nat.le_of_ble_eq_true rfl, Nat.le_of_ble_eq_true rfl⟩ ⟨rfl, rfl⟩ k0 (Nat.le_of_ble_eq_true rfl) (S_X11_set hb1 g7) ?_
  obtain ⟨Mc1, e_Mc1⟩ : ∃ z : Mem, z = (U_X11_set x1 (1 : Int32) ((U_X11_set x1 (0 : Int32) ((U_X11_findPut v1_0 v2_0 x1 mA M).1 242 31) mA (U_X11_findPut v1_0 v2_0 x1 mA M)).1 242 32) mA (U_X11_set x1 (0 : Int32) ((U_X11_findPut v1_0 v2_0 x1 mA M).1 242 31) mA (U_X11_findPut v1_0 v2_0 x1 mA M))) := ⟨_, rfl⟩
  rw [← e_Mc1]
  refine r_return e_X11_putAtStart_84 rfl ⟨rfl, rfl⟩ ?_
  (subst e_Mc1 e_v2_0 e_v1_0 e_v0_0; refine ⟨?_, rfl, ?_⟩ <;> ((try unfold U_X11_putAtStart); (try simp only []); (try rfl)))
def F_X11_termOf_6 : Nat → Int32 → Mem → Int32 × Mem
  | 0, u1, M => (u1, M)
  | n + 1, u1, M => if (V_X11_here  M) = (45 : Int32) then (let v601_0 : Int32 := if u1 = 0 then (1 : Int32) else (0 : Int32); (F_X11_termOf_6  n v601_0 (setI M 242 35 ((M.1 242 35) + (1 : Int32))))) else (u1, M)
def T_X11_termOf_6 : Nat → Int32 → Mem → Prop
  | 0, u1, M => False
  | n + 1, u1, M => (vp_in ((M.1 242 34) + (M.1 242 35)) 4800) ∧ (if (V_X11_here  M) = (45 : Int32) then (let v601_0 : Int32 := if u1 = 0 then (1 : Int32) else (0 : Int32); (T_X11_termOf_6  n v601_0 (setI M 242 35 ((M.1 242 35) + (1 : Int32))))) else True)
theorem L_X11_termOf_6 {sh : List SC} {Q : Po}  {mA : Nat} {oA : Nat}   (hb1 : ModelAt sh mA oA)   : ∀ (n : Nat) (u1 : Int32) (M : Mem), T_X11_termOf_6  n u1 M → WP m_X11_termOf Q 38 [some (.ref 242), some (.int ((F_X11_termOf_6  n u1 M).1)), none, none] [] sh ((F_X11_termOf_6  n u1 M).2) 0 0 → WP m_X11_termOf Q 6 [some (.ref 242), some (.int u1), none, none] [] sh M 0 0 := by
  have k0 : kd sh 242 = some (10 + 7, 0) := hb1.1
  intro n
  induction n with
  | zero =>
    intro u1 M hH hq
    exact hH.elim
  | succ n ih =>
    intro u1 M hH hq
    unfold T_X11_termOf_6 at hH
    obtain ⟨g1, hH⟩ := hH
    refine r_aload_n e_X11_termOf_6 rfl ?_
    refine cV0v e_X11_termOf_7 cl_X11_327 ⟨Nat.le_of_ble_eq_true rfl, Nat.le_of_ble_eq_true rfl⟩ ⟨rfl, rfl⟩ k0 (Nat.le_of_ble_eq_true rfl) (S_X11_here hb1 g1) ?_
    refine r_bipush e_X11_termOf_10 bp_45 ?_
    refine r_icmp_ne e_X11_termOf_12 (fun h12_600 => ?_) (fun h12_600 => ?_)
    · (simp only [F_X11_termOf_6, if_neg h12_600] at hq; first | exact hq | (simp only [if_neg h12_600]; exact hq))
    · refine r_iload_n e_X11_termOf_15 rfl ?_
      obtain ⟨v601_0, e_v601_0⟩ : ∃ z : Int32, z = (if u1 = 0 then (1 : Int32) else (0 : Int32)) := ⟨_, rfl⟩
      have z_v601_0 : v601_0 = 0 ∨ v601_0 = 1 := by rw [e_v601_0]; exact (zi (Or.inr rfl) (Or.inl rfl))
      suffices j24_601 : WP m_X11_termOf Q 24 [some (.ref 242), some (.int u1), none, none] [.int v601_0] sh M 0 0 by
        refine r_if_ne e_X11_termOf_16 (fun h16_601 => ?_) (fun h16_601 => ?_)
        · refine r_iconst e_X11_termOf_23 ic_0 ?_
          (rw [show v601_0 = (0 : Int32) from (e_v601_0.trans (if_neg h16_601))] at j24_601; exact j24_601)
        · refine r_iconst e_X11_termOf_19 ic_1 ?_
          refine r_goto e_X11_termOf_20 ?_
          (rw [show v601_0 = (1 : Int32) from (e_v601_0.trans (if_pos h16_601))] at j24_601; exact j24_601)
      refine p_istore_n_4_1 e_X11_termOf_24 rfl rfl ?_
      refine r_aload_n e_X11_termOf_25 rfl ?_
      refine r_dup e_X11_termOf_26 rfl ?_
      refine r_getI e_X11_termOf_27 fl_X11_312 i0 k0 ?_
      refine r_iconst e_X11_termOf_30 ic_1 ?_
      refine r_iadd e_X11_termOf_31 ?_
      refine r_putI e_X11_termOf_32 fl_X11_312 k0 ?_
      refine r_goto e_X11_termOf_35 ?_
      (subst e_v601_0; simp only [F_X11_termOf_6, if_pos h12_600] at hq; (try simp only [if_pos h12_600] at hH); first | exact ih _ _ hH hq | (simp only [if_pos h12_600]; exact ih _ _ hH hq))
theorem ZF_X11_termOf_6 : ∀ (n : Nat) (u1 : Int32) (M : Mem), (u1 = 0 ∨ u1 = 1) → (F_X11_termOf_6  n u1 M).1 = 0 ∨ (F_X11_termOf_6  n u1 M).1 = 1 := by
  intro n
  induction n with
  | zero => intro u1 M h; exact h
  | succ n ih => intro u1 M h; unfold F_X11_termOf_6; (try dsimp only); (repeat' split) <;> first | exact h | exact Or.inl rfl | exact Or.inr rfl | exact ih _ _ (zi (Or.inr rfl) (Or.inl rfl)) | exact ih _ _ (Or.inl rfl) | exact ih _ _ (Or.inr rfl)
def V_X11_termOf (mA : Nat) (M : Mem) : Int32 := (let v0_0 : Int32 := if (V_X11_here  ((F_X11_termOf_6  FUEL (0 : Int32) (U_X11_step  M)).2)) = (3 : Int32) then (V_X11_of (((F_X11_termOf_6  FUEL (0 : Int32) (U_X11_step  M)).2).1 242 33) ((4 : Int32) + (((F_X11_termOf_6  FUEL (0 : Int32) (U_X11_step  M)).2).1 245 ((((F_X11_termOf_6  FUEL (0 : Int32) (U_X11_step  M)).2).1 242 34) + (((F_X11_termOf_6  FUEL (0 : Int32) (U_X11_step  M)).2).1 242 35)).toNatClampNeg)) mA (setI ((F_X11_termOf_6  FUEL (0 : Int32) (U_X11_step  M)).2) 242 35 ((((F_X11_termOf_6  FUEL (0 : Int32) (U_X11_step  M)).2).1 242 35) + (1 : Int32)))) else (if (V_X11_here  ((F_X11_termOf_6  FUEL (0 : Int32) (U_X11_step  M)).2)) = (4 : Int32) then (V_X11_sensor (((F_X11_termOf_6  FUEL (0 : Int32) (U_X11_step  M)).2).1 245 ((((F_X11_termOf_6  FUEL (0 : Int32) (U_X11_step  M)).2).1 242 34) + (((F_X11_termOf_6  FUEL (0 : Int32) (U_X11_step  M)).2).1 242 35)).toNatClampNeg) mA (setI ((F_X11_termOf_6  FUEL (0 : Int32) (U_X11_step  M)).2) 242 35 ((((F_X11_termOf_6  FUEL (0 : Int32) (U_X11_step  M)).2).1 242 35) + (1 : Int32)))) else (if (V_X11_here  ((F_X11_termOf_6  FUEL (0 : Int32) (U_X11_step  M)).2)) = (5 : Int32) then (V_X11_otherRobot (((F_X11_termOf_6  FUEL (0 : Int32) (U_X11_step  M)).2).1 245 ((((F_X11_termOf_6  FUEL (0 : Int32) (U_X11_step  M)).2).1 242 34) + (((F_X11_termOf_6  FUEL (0 : Int32) (U_X11_step  M)).2).1 242 35)).toNatClampNeg) (((F_X11_termOf_6  FUEL (0 : Int32) (U_X11_step  M)).2).1 245 ((((F_X11_termOf_6  FUEL (0 : Int32) (U_X11_step  M)).2).1 242 34) + ((((F_X11_termOf_6  FUEL (0 : Int32) (U_X11_step  M)).2).1 242 35) + (1 : Int32))).toNatClampNeg) mA (setI ((F_X11_termOf_6  FUEL (0 : Int32) (U_X11_step  M)).2) 242 35 ((((F_X11_termOf_6  FUEL (0 : Int32) (U_X11_step  M)).2).1 242 35) + (1 : Int32)))) else (((F_X11_termOf_6  FUEL (0 : Int32) (U_X11_step  M)).2).1 245 ((((F_X11_termOf_6  FUEL (0 : Int32) (U_X11_step  M)).2).1 242 34) + (((F_X11_termOf_6  FUEL (0 : Int32) (U_X11_step  M)).2).1 242 35)).toNatClampNeg))); let M0_1 : Mem := if (V_X11_here  ((F_X11_termOf_6  FUEL (0 : Int32) (U_X11_step  M)).2)) = (3 : Int32) then (setI ((F_X11_termOf_6  FUEL (0 : Int32) (U_X11_step  M)).2) 242 35 ((((F_X11_termOf_6  FUEL (0 : Int32) (U_X11_step  M)).2).1 242 35) + (1 : Int32))) else (if (V_X11_here  ((F_X11_termOf_6  FUEL (0 : Int32) (U_X11_step  M)).2)) = (4 : Int32) then (setI ((F_X11_termOf_6  FUEL (0 : Int32) (U_X11_step  M)).2) 242 35 ((((F_X11_termOf_6  FUEL (0 : Int32) (U_X11_step  M)).2).1 242 35) + (1 : Int32))) else (if (V_X11_here  ((F_X11_termOf_6  FUEL (0 : Int32) (U_X11_step  M)).2)) = (5 : Int32) then (setI (setI ((F_X11_termOf_6  FUEL (0 : Int32) (U_X11_step  M)).2) 242 35 ((((F_X11_termOf_6  FUEL (0 : Int32) (U_X11_step  M)).2).1 242 35) + (1 : Int32))) 242 35 (((((F_X11_termOf_6  FUEL (0 : Int32) (U_X11_step  M)).2).1 242 35) + (1 : Int32)) + (1 : Int32))) else (setI ((F_X11_termOf_6  FUEL (0 : Int32) (U_X11_step  M)).2) 242 35 ((((F_X11_termOf_6  FUEL (0 : Int32) (U_X11_step  M)).2).1 242 35) + (1 : Int32))))); let v3_0 : Int32 := if ((F_X11_termOf_6  FUEL (0 : Int32) (U_X11_step  M)).1) = 0 then v0_0 else (-v0_0); v3_0)
def U_X11_termOf (mA : Nat) (M : Mem) : Mem := (let v0_0 : Int32 := if (V_X11_here  ((F_X11_termOf_6  FUEL (0 : Int32) (U_X11_step  M)).2)) = (3 : Int32) then (V_X11_of (((F_X11_termOf_6  FUEL (0 : Int32) (U_X11_step  M)).2).1 242 33) ((4 : Int32) + (((F_X11_termOf_6  FUEL (0 : Int32) (U_X11_step  M)).2).1 245 ((((F_X11_termOf_6  FUEL (0 : Int32) (U_X11_step  M)).2).1 242 34) + (((F_X11_termOf_6  FUEL (0 : Int32) (U_X11_step  M)).2).1 242 35)).toNatClampNeg)) mA (setI ((F_X11_termOf_6  FUEL (0 : Int32) (U_X11_step  M)).2) 242 35 ((((F_X11_termOf_6  FUEL (0 : Int32) (U_X11_step  M)).2).1 242 35) + (1 : Int32)))) else (if (V_X11_here  ((F_X11_termOf_6  FUEL (0 : Int32) (U_X11_step  M)).2)) = (4 : Int32) then (V_X11_sensor (((F_X11_termOf_6  FUEL (0 : Int32) (U_X11_step  M)).2).1 245 ((((F_X11_termOf_6  FUEL (0 : Int32) (U_X11_step  M)).2).1 242 34) + (((F_X11_termOf_6  FUEL (0 : Int32) (U_X11_step  M)).2).1 242 35)).toNatClampNeg) mA (setI ((F_X11_termOf_6  FUEL (0 : Int32) (U_X11_step  M)).2) 242 35 ((((F_X11_termOf_6  FUEL (0 : Int32) (U_X11_step  M)).2).1 242 35) + (1 : Int32)))) else (if (V_X11_here  ((F_X11_termOf_6  FUEL (0 : Int32) (U_X11_step  M)).2)) = (5 : Int32) then (V_X11_otherRobot (((F_X11_termOf_6  FUEL (0 : Int32) (U_X11_step  M)).2).1 245 ((((F_X11_termOf_6  FUEL (0 : Int32) (U_X11_step  M)).2).1 242 34) + (((F_X11_termOf_6  FUEL (0 : Int32) (U_X11_step  M)).2).1 242 35)).toNatClampNeg) (((F_X11_termOf_6  FUEL (0 : Int32) (U_X11_step  M)).2).1 245 ((((F_X11_termOf_6  FUEL (0 : Int32) (U_X11_step  M)).2).1 242 34) + ((((F_X11_termOf_6  FUEL (0 : Int32) (U_X11_step  M)).2).1 242 35) + (1 : Int32))).toNatClampNeg) mA (setI ((F_X11_termOf_6  FUEL (0 : Int32) (U_X11_step  M)).2) 242 35 ((((F_X11_termOf_6  FUEL (0 : Int32) (U_X11_step  M)).2).1 242 35) + (1 : Int32)))) else (((F_X11_termOf_6  FUEL (0 : Int32) (U_X11_step  M)).2).1 245 ((((F_X11_termOf_6  FUEL (0 : Int32) (U_X11_step  M)).2).1 242 34) + (((F_X11_termOf_6  FUEL (0 : Int32) (U_X11_step  M)).2).1 242 35)).toNatClampNeg))); let M0_1 : Mem := if (V_X11_here  ((F_X11_termOf_6  FUEL (0 : Int32) (U_X11_step  M)).2)) = (3 : Int32) then (setI ((F_X11_termOf_6  FUEL (0 : Int32) (U_X11_step  M)).2) 242 35 ((((F_X11_termOf_6  FUEL (0 : Int32) (U_X11_step  M)).2).1 242 35) + (1 : Int32))) else (if (V_X11_here  ((F_X11_termOf_6  FUEL (0 : Int32) (U_X11_step  M)).2)) = (4 : Int32) then (setI ((F_X11_termOf_6  FUEL (0 : Int32) (U_X11_step  M)).2) 242 35 ((((F_X11_termOf_6  FUEL (0 : Int32) (U_X11_step  M)).2).1 242 35) + (1 : Int32))) else (if (V_X11_here  ((F_X11_termOf_6  FUEL (0 : Int32) (U_X11_step  M)).2)) = (5 : Int32) then (setI (setI ((F_X11_termOf_6  FUEL (0 : Int32) (U_X11_step  M)).2) 242 35 ((((F_X11_termOf_6  FUEL (0 : Int32) (U_X11_step  M)).2).1 242 35) + (1 : Int32))) 242 35 (((((F_X11_termOf_6  FUEL (0 : Int32) (U_X11_step  M)).2).1 242 35) + (1 : Int32)) + (1 : Int32))) else (setI ((F_X11_termOf_6  FUEL (0 : Int32) (U_X11_step  M)).2) 242 35 ((((F_X11_termOf_6  FUEL (0 : Int32) (U_X11_step  M)).2).1 242 35) + (1 : Int32))))); let v3_0 : Int32 := if ((F_X11_termOf_6  FUEL (0 : Int32) (U_X11_step  M)).1) = 0 then v0_0 else (-v0_0); M0_1)
def P_X11_termOf (mA : Nat) (M : Mem) : Prop := (T_X11_termOf_6  FUEL (0 : Int32) (U_X11_step  M)) ∧ (¬ ((V_X11_here  ((F_X11_termOf_6  FUEL (0 : Int32) (U_X11_step  M)).2)) = (3 : Int32)) → ¬ ((V_X11_here  ((F_X11_termOf_6  FUEL (0 : Int32) (U_X11_step  M)).2)) = (4 : Int32)) → (V_X11_here  ((F_X11_termOf_6  FUEL (0 : Int32) (U_X11_step  M)).2)) = (5 : Int32) → vp_in ((((F_X11_termOf_6  FUEL (0 : Int32) (U_X11_step  M)).2).1 242 34) + ((((F_X11_termOf_6  FUEL (0 : Int32) (U_X11_step  M)).2).1 242 35) + (1 : Int32))) 4800) ∧ (¬ ((V_X11_here  ((F_X11_termOf_6  FUEL (0 : Int32) (U_X11_step  M)).2)) = (3 : Int32)) → ¬ ((V_X11_here  ((F_X11_termOf_6  FUEL (0 : Int32) (U_X11_step  M)).2)) = (4 : Int32)) → (V_X11_here  ((F_X11_termOf_6  FUEL (0 : Int32) (U_X11_step  M)).2)) = (5 : Int32) → P_X11_otherRobot (((F_X11_termOf_6  FUEL (0 : Int32) (U_X11_step  M)).2).1 245 ((((F_X11_termOf_6  FUEL (0 : Int32) (U_X11_step  M)).2).1 242 34) + (((F_X11_termOf_6  FUEL (0 : Int32) (U_X11_step  M)).2).1 242 35)).toNatClampNeg) (((F_X11_termOf_6  FUEL (0 : Int32) (U_X11_step  M)).2).1 245 ((((F_X11_termOf_6  FUEL (0 : Int32) (U_X11_step  M)).2).1 242 34) + ((((F_X11_termOf_6  FUEL (0 : Int32) (U_X11_step  M)).2).1 242 35) + (1 : Int32))).toNatClampNeg) mA (setI ((F_X11_termOf_6  FUEL (0 : Int32) (U_X11_step  M)).2) 242 35 ((((F_X11_termOf_6  FUEL (0 : Int32) (U_X11_step  M)).2).1 242 35) + (1 : Int32)))) ∧ (¬ ((V_X11_here  ((F_X11_termOf_6  FUEL (0 : Int32) (U_X11_step  M)).2)) = (3 : Int32)) → (V_X11_here  ((F_X11_termOf_6  FUEL (0 : Int32) (U_X11_step  M)).2)) = (4 : Int32) → vp_in (((44 : Int32) + ((16 : Int32) * ((setI ((F_X11_termOf_6  FUEL (0 : Int32) (U_X11_step  M)).2) 242 35 ((((F_X11_termOf_6  FUEL (0 : Int32) (U_X11_step  M)).2).1 242 35) + (1 : Int32))).1 242 33))) + (0 : Int32)) 212) ∧ (¬ ((V_X11_here  ((F_X11_termOf_6  FUEL (0 : Int32) (U_X11_step  M)).2)) = (3 : Int32)) → (V_X11_here  ((F_X11_termOf_6  FUEL (0 : Int32) (U_X11_step  M)).2)) = (4 : Int32) → vp_in (((44 : Int32) + ((16 : Int32) * ((setI ((F_X11_termOf_6  FUEL (0 : Int32) (U_X11_step  M)).2) 242 35 ((((F_X11_termOf_6  FUEL (0 : Int32) (U_X11_step  M)).2).1 242 35) + (1 : Int32))).1 242 33))) + (1 : Int32)) 212) ∧ (¬ ((V_X11_here  ((F_X11_termOf_6  FUEL (0 : Int32) (U_X11_step  M)).2)) = (3 : Int32)) → (V_X11_here  ((F_X11_termOf_6  FUEL (0 : Int32) (U_X11_step  M)).2)) = (4 : Int32) → vp_in (((44 : Int32) + ((16 : Int32) * ((setI ((F_X11_termOf_6  FUEL (0 : Int32) (U_X11_step  M)).2) 242 35 ((((F_X11_termOf_6  FUEL (0 : Int32) (U_X11_step  M)).2).1 242 35) + (1 : Int32))).1 242 33))) + (8 : Int32)) 212) ∧ (¬ ((V_X11_here  ((F_X11_termOf_6  FUEL (0 : Int32) (U_X11_step  M)).2)) = (3 : Int32)) → (V_X11_here  ((F_X11_termOf_6  FUEL (0 : Int32) (U_X11_step  M)).2)) = (4 : Int32) → vp_in (((44 : Int32) + ((16 : Int32) * ((setI ((F_X11_termOf_6  FUEL (0 : Int32) (U_X11_step  M)).2) 242 35 ((((F_X11_termOf_6  FUEL (0 : Int32) (U_X11_step  M)).2).1 242 35) + (1 : Int32))).1 242 33))) + (9 : Int32)) 212) ∧ (¬ ((V_X11_here  ((F_X11_termOf_6  FUEL (0 : Int32) (U_X11_step  M)).2)) = (3 : Int32)) → (V_X11_here  ((F_X11_termOf_6  FUEL (0 : Int32) (U_X11_step  M)).2)) = (4 : Int32) → P_X11_sensor (((F_X11_termOf_6  FUEL (0 : Int32) (U_X11_step  M)).2).1 245 ((((F_X11_termOf_6  FUEL (0 : Int32) (U_X11_step  M)).2).1 242 34) + (((F_X11_termOf_6  FUEL (0 : Int32) (U_X11_step  M)).2).1 242 35)).toNatClampNeg) mA (setI ((F_X11_termOf_6  FUEL (0 : Int32) (U_X11_step  M)).2) 242 35 ((((F_X11_termOf_6  FUEL (0 : Int32) (U_X11_step  M)).2).1 242 35) + (1 : Int32)))) ∧ ((V_X11_here  ((F_X11_termOf_6  FUEL (0 : Int32) (U_X11_step  M)).2)) = (3 : Int32) → vp_in (((44 : Int32) + ((16 : Int32) * (((F_X11_termOf_6  FUEL (0 : Int32) (U_X11_step  M)).2).1 242 33))) + ((4 : Int32) + (((F_X11_termOf_6  FUEL (0 : Int32) (U_X11_step  M)).2).1 245 ((((F_X11_termOf_6  FUEL (0 : Int32) (U_X11_step  M)).2).1 242 34) + (((F_X11_termOf_6  FUEL (0 : Int32) (U_X11_step  M)).2).1 242 35)).toNatClampNeg))) 212)
theorem S_X11_termOf {sh : List SC} {M : Mem}  {mA : Nat} {oA : Nat} (hb1 : ModelAt sh mA oA) (g2 : vp_in ((((F_X11_termOf_6  FUEL (0 : Int32) (U_X11_step  M)).2).1 242 34) + (((F_X11_termOf_6  FUEL (0 : Int32) (U_X11_step  M)).2).1 242 35)) 4800) (hP : P_X11_termOf mA M) : Gv m_X11_termOf [.ref 242] sh M (.int (V_X11_termOf mA M)) (U_X11_termOf mA M) := by
  refine Sp.of (ls := [some (.ref 242), none, none, none]) (by decide +kernel) (Nat.le_of_ble_eq_true rfl) rfl ?_
  obtain ⟨g1, g3, g4, g5, g6, g7, g8, g9, g10⟩ := hP
  have k0 : kd sh 242 = some (10 + 7, 0) := hb1.1
  have k1 : rf sh 242 10 = some 245 := hb1.2.2.2.1
  have k2 : kd sh 245 = some (0, 4800) := hb1.2.2.2.2.2.2.2.2.2.2.2.2.2.2.2.2.2.2.2.2.2.2.2.2.2.2.2.2.2.1
  refine r_aload_n e_X11_termOf_0 rfl ?_
  refine cV0u e_X11_termOf_1 cl_X11_324 ⟨Nat.le_of_ble_eq_true rfl, Nat.le_of_ble_eq_true rfl⟩ ⟨rfl, rfl⟩ k0 (Nat.le_of_ble_eq_true rfl) (S_X11_step hb1) ?_
  refine r_iconst e_X11_termOf_4 ic_0 ?_
  refine p_istore_n_4_1 e_X11_termOf_5 rfl rfl ?_
  refine L_X11_termOf_6 hb1 FUEL (0 : Int32) (U_X11_step  M) g1 ?_
  refine r_aload_n e_X11_termOf_38 rfl ?_
  refine cV0v e_X11_termOf_39 cl_X11_327 ⟨Nat.le_of_ble_eq_true rfl, Nat.le_of_ble_eq_true rfl⟩ ⟨rfl, rfl⟩ k0 (Nat.le_of_ble_eq_true rfl) (S_X11_here hb1 g2) ?_
  refine p_istore_n_4_2 e_X11_termOf_42 rfl rfl ?_
  refine r_aload_n e_X11_termOf_43 rfl ?_
  refine r_getR e_X11_termOf_44 fl_X11_111 k0 k1 ?_
  refine r_aload_n e_X11_termOf_47 rfl ?_
  refine r_getI e_X11_termOf_48 fl_X11_309 i0 k0 ?_
  refine r_aload_n e_X11_termOf_51 rfl ?_
  refine r_getI e_X11_termOf_52 fl_X11_312 i0 k0 ?_
  refine r_iadd e_X11_termOf_55 ?_
  refine r_iaload e_X11_termOf_56 k2 g2 ?_
  refine p_istore_n_4_3 e_X11_termOf_57 rfl rfl ?_
  refine r_aload_n e_X11_termOf_58 rfl ?_
  refine r_dup e_X11_termOf_59 rfl ?_
  refine r_getI e_X11_termOf_60 fl_X11_312 i0 k0 ?_
  refine r_iconst e_X11_termOf_63 ic_1 ?_
  refine r_iadd e_X11_termOf_64 ?_
  refine r_putI e_X11_termOf_65 fl_X11_312 k0 ?_
  refine r_iload_n e_X11_termOf_68 rfl ?_
  refine r_iconst e_X11_termOf_69 ic_3 ?_
  obtain ⟨v0_0, e_v0_0⟩ : ∃ z : Int32, z = (if (V_X11_here  ((F_X11_termOf_6  FUEL (0 : Int32) (U_X11_step  M)).2)) = (3 : Int32) then (V_X11_of (((F_X11_termOf_6  FUEL (0 : Int32) (U_X11_step  M)).2).1 242 33) ((4 : Int32) + (((F_X11_termOf_6  FUEL (0 : Int32) (U_X11_step  M)).2).1 245 ((((F_X11_termOf_6  FUEL (0 : Int32) (U_X11_step  M)).2).1 242 34) + (((F_X11_termOf_6  FUEL (0 : Int32) (U_X11_step  M)).2).1 242 35)).toNatClampNeg)) mA (setI ((F_X11_termOf_6  FUEL (0 : Int32) (U_X11_step  M)).2) 242 35 ((((F_X11_termOf_6  FUEL (0 : Int32) (U_X11_step  M)).2).1 242 35) + (1 : Int32)))) else (if (V_X11_here  ((F_X11_termOf_6  FUEL (0 : Int32) (U_X11_step  M)).2)) = (4 : Int32) then (V_X11_sensor (((F_X11_termOf_6  FUEL (0 : Int32) (U_X11_step  M)).2).1 245 ((((F_X11_termOf_6  FUEL (0 : Int32) (U_X11_step  M)).2).1 242 34) + (((F_X11_termOf_6  FUEL (0 : Int32) (U_X11_step  M)).2).1 242 35)).toNatClampNeg) mA (setI ((F_X11_termOf_6  FUEL (0 : Int32) (U_X11_step  M)).2) 242 35 ((((F_X11_termOf_6  FUEL (0 : Int32) (U_X11_step  M)).2).1 242 35) + (1 : Int32)))) else (if (V_X11_here  ((F_X11_termOf_6  FUEL (0 : Int32) (U_X11_step  M)).2)) = (5 : Int32) then (V_X11_otherRobot (((F_X11_termOf_6  FUEL (0 : Int32) (U_X11_step  M)).2).1 245 ((((F_X11_termOf_6  FUEL (0 : Int32) (U_X11_step  M)).2).1 242 34) + (((F_X11_termOf_6  FUEL (0 : Int32) (U_X11_step  M)).2).1 242 35)).toNatClampNeg) (((F_X11_termOf_6  FUEL (0 : Int32) (U_X11_step  M)).2).1 245 ((((F_X11_termOf_6  FUEL (0 : Int32) (U_X11_step  M)).2).1 242 34) + ((((F_X11_termOf_6  FUEL (0 : Int32) (U_X11_step  M)).2).1 242 35) + (1 : Int32))).toNatClampNeg) mA (setI ((F_X11_termOf_6  FUEL (0 : Int32) (U_X11_step  M)).2) 242 35 ((((F_X11_termOf_6  FUEL (0 : Int32) (U_X11_step  M)).2).1 242 35) + (1 : Int32)))) else (((F_X11_termOf_6  FUEL (0 : Int32) (U_X11_step  M)).2).1 245 ((((F_X11_termOf_6  FUEL (0 : Int32) (U_X11_step  M)).2).1 242 34) + (((F_X11_termOf_6  FUEL (0 : Int32) (U_X11_step  M)).2).1 242 35)).toNatClampNeg)))) := ⟨_, rfl⟩
  obtain ⟨M0_1, e_M0_1⟩ : ∃ z : Mem, z = (if (V_X11_here  ((F_X11_termOf_6  FUEL (0 : Int32) (U_X11_step  M)).2)) = (3 : Int32) then (setI ((F_X11_termOf_6  FUEL (0 : Int32) (U_X11_step  M)).2) 242 35 ((((F_X11_termOf_6  FUEL (0 : Int32) (U_X11_step  M)).2).1 242 35) + (1 : Int32))) else (if (V_X11_here  ((F_X11_termOf_6  FUEL (0 : Int32) (U_X11_step  M)).2)) = (4 : Int32) then (setI ((F_X11_termOf_6  FUEL (0 : Int32) (U_X11_step  M)).2) 242 35 ((((F_X11_termOf_6  FUEL (0 : Int32) (U_X11_step  M)).2).1 242 35) + (1 : Int32))) else (if (V_X11_here  ((F_X11_termOf_6  FUEL (0 : Int32) (U_X11_step  M)).2)) = (5 : Int32) then (setI (setI ((F_X11_termOf_6  FUEL (0 : Int32) (U_X11_step  M)).2) 242 35 ((((F_X11_termOf_6  FUEL (0 : Int32) (U_X11_step  M)).2).1 242 35) + (1 : Int32))) 242 35 (((((F_X11_termOf_6  FUEL (0 : Int32) (U_X11_step  M)).2).1 242 35) + (1 : Int32)) + (1 : Int32))) else (setI ((F_X11_termOf_6  FUEL (0 : Int32) (U_X11_step  M)).2) 242 35 ((((F_X11_termOf_6  FUEL (0 : Int32) (U_X11_step  M)).2).1 242 35) + (1 : Int32)))))) := ⟨_, rfl⟩
  suffices j137_0 : WP m_X11_termOf (fun r sh' M'' => r = some (.int (V_X11_termOf mA M)) ∧ sh' = sh ∧ M'' = (U_X11_termOf mA M)) 137 [some (.ref 242), some (.int ((F_X11_termOf_6  FUEL (0 : Int32) (U_X11_step  M)).1)), some (.int (V_X11_here  ((F_X11_termOf_6  FUEL (0 : Int32) (U_X11_step  M)).2))), some (.int v0_0)] [] sh M0_1 0 0 by
    refine r_icmp_ne e_X11_termOf_70 (fun h70_0 => ?_) (fun h70_0 => ?_)
    · refine r_iload_n e_X11_termOf_88 rfl ?_
      refine r_iconst e_X11_termOf_89 ic_4 ?_
      refine r_icmp_ne e_X11_termOf_90 (fun h90_1 => ?_) (fun h90_1 => ?_)
      · refine r_iload_n e_X11_termOf_102 rfl ?_
        refine r_iconst e_X11_termOf_103 ic_5 ?_
        refine r_icmp_ne e_X11_termOf_104 (fun h104_2 => ?_) (fun h104_2 => ?_)
        · (rw [show v0_0 = (((F_X11_termOf_6  FUEL (0 : Int32) (U_X11_step  M)).2).1 245 ((((F_X11_termOf_6  FUEL (0 : Int32) (U_X11_step  M)).2).1 242 34) + (((F_X11_termOf_6  FUEL (0 : Int32) (U_X11_step  M)).2).1 242 35)).toNatClampNeg) from (((e_v0_0.trans (if_neg h70_0)).trans (if_neg h90_1)).trans (if_neg h104_2)), show M0_1 = setI ((F_X11_termOf_6  FUEL (0 : Int32) (U_X11_step  M)).2) 242 35 ((((F_X11_termOf_6  FUEL (0 : Int32) (U_X11_step  M)).2).1 242 35) + (1 : Int32)) from (((e_M0_1.trans (if_neg h70_0)).trans (if_neg h90_1)).trans (if_neg h104_2))] at j137_0; exact j137_0)
        · refine r_aload_n e_X11_termOf_107 rfl ?_
          refine r_iload_n e_X11_termOf_108 rfl ?_
          refine r_aload_n e_X11_termOf_109 rfl ?_
          refine r_getR e_X11_termOf_110 fl_X11_111 k0 k1 ?_
          refine r_aload_n e_X11_termOf_113 rfl ?_
          refine r_getIe e_X11_termOf_114 fl_X11_309 i0 k0 (gs_nI (by decide)) ?_
          refine r_aload_n e_X11_termOf_117 rfl ?_
          refine r_getIe e_X11_termOf_118 fl_X11_312 i0 k0 gs_eI ?_
          refine r_iadd e_X11_termOf_121 ?_
          refine r_ialoade (v := (((F_X11_termOf_6  FUEL (0 : Int32) (U_X11_step  M)).2).1 245 ((((F_X11_termOf_6  FUEL (0 : Int32) (U_X11_step  M)).2).1 242 34) + ((((F_X11_termOf_6  FUEL (0 : Int32) (U_X11_step  M)).2).1 242 35) + (1 : Int32))).toNatClampNeg)) e_X11_termOf_122 k2 (g3 h70_0 h90_1 h104_2) (gs_aI (by omega)) ?_
          refine cV2v e_X11_termOf_123 cl_X11_333 ⟨Nat.le_of_ble_eq_true rfl, Nat.le_of_ble_eq_true rfl⟩ ⟨rfl, rfl⟩ k0 (Nat.le_of_ble_eq_true rfl) (S_X11_otherRobot hb1 (g4 h70_0 h90_1 h104_2)) ?_
          refine p_istore_n_4_3 e_X11_termOf_126 rfl rfl ?_
          refine r_aload_n e_X11_termOf_127 rfl ?_
          refine r_dup e_X11_termOf_128 rfl ?_
          refine r_getIe e_X11_termOf_129 fl_X11_312 i0 k0 gs_eI ?_
          refine r_iconst e_X11_termOf_132 ic_1 ?_
          refine r_iadd e_X11_termOf_133 ?_
          refine r_putI e_X11_termOf_134 fl_X11_312 k0 ?_
          (rw [show v0_0 = (V_X11_otherRobot (((F_X11_termOf_6  FUEL (0 : Int32) (U_X11_step  M)).2).1 245 ((((F_X11_termOf_6  FUEL (0 : Int32) (U_X11_step  M)).2).1 242 34) + (((F_X11_termOf_6  FUEL (0 : Int32) (U_X11_step  M)).2).1 242 35)).toNatClampNeg) (((F_X11_termOf_6  FUEL (0 : Int32) (U_X11_step  M)).2).1 245 ((((F_X11_termOf_6  FUEL (0 : Int32) (U_X11_step  M)).2).1 242 34) + ((((F_X11_termOf_6  FUEL (0 : Int32) (U_X11_step  M)).2).1 242 35) + (1 : Int32))).toNatClampNeg) mA (setI ((F_X11_termOf_6  FUEL (0 : Int32) (U_X11_step  M)).2) 242 35 ((((F_X11_termOf_6  FUEL (0 : Int32) (U_X11_step  M)).2).1 242 35) + (1 : Int32)))) from (((e_v0_0.trans (if_neg h70_0)).trans (if_neg h90_1)).trans (if_pos h104_2)), show M0_1 = setI (setI ((F_X11_termOf_6  FUEL (0 : Int32) (U_X11_step  M)).2) 242 35 ((((F_X11_termOf_6  FUEL (0 : Int32) (U_X11_step  M)).2).1 242 35) + (1 : Int32))) 242 35 (((((F_X11_termOf_6  FUEL (0 : Int32) (U_X11_step  M)).2).1 242 35) + (1 : Int32)) + (1 : Int32)) from (((e_M0_1.trans (if_neg h70_0)).trans (if_neg h90_1)).trans (if_pos h104_2))] at j137_0; exact j137_0)
      · refine r_aload_n e_X11_termOf_93 rfl ?_
        refine r_iload_n e_X11_termOf_94 rfl ?_
        refine cV1v e_X11_termOf_95 cl_X11_330 ⟨Nat.le_of_ble_eq_true rfl, Nat.le_of_ble_eq_true rfl⟩ ⟨rfl, rfl⟩ k0 (Nat.le_of_ble_eq_true rfl) (S_X11_sensor hb1 (g5 h70_0 h90_1) (g6 h70_0 h90_1) (g7 h70_0 h90_1) (g8 h70_0 h90_1) (g9 h70_0 h90_1)) ?_
        refine p_istore_n_4_3 e_X11_termOf_98 rfl rfl ?_
        refine r_goto e_X11_termOf_99 ?_
        (rw [show v0_0 = (V_X11_sensor (((F_X11_termOf_6  FUEL (0 : Int32) (U_X11_step  M)).2).1 245 ((((F_X11_termOf_6  FUEL (0 : Int32) (U_X11_step  M)).2).1 242 34) + (((F_X11_termOf_6  FUEL (0 : Int32) (U_X11_step  M)).2).1 242 35)).toNatClampNeg) mA (setI ((F_X11_termOf_6  FUEL (0 : Int32) (U_X11_step  M)).2) 242 35 ((((F_X11_termOf_6  FUEL (0 : Int32) (U_X11_step  M)).2).1 242 35) + (1 : Int32)))) from ((e_v0_0.trans (if_neg h70_0)).trans (if_pos h90_1)), show M0_1 = setI ((F_X11_termOf_6  FUEL (0 : Int32) (U_X11_step  M)).2) 242 35 ((((F_X11_termOf_6  FUEL (0 : Int32) (U_X11_step  M)).2).1 242 35) + (1 : Int32)) from ((e_M0_1.trans (if_neg h70_0)).trans (if_pos h90_1))] at j137_0; exact j137_0)
    · refine r_aload_n e_X11_termOf_73 rfl ?_
      refine r_aload_n e_X11_termOf_74 rfl ?_
      refine r_getIe e_X11_termOf_75 fl_X11_315 i0 k0 (gs_nI (by decide)) ?_
      refine r_iconst e_X11_termOf_78 ic_4 ?_
      refine r_iload_n e_X11_termOf_79 rfl ?_
      refine r_iadd e_X11_termOf_80 ?_
      refine cV2v e_X11_termOf_81 cl_X11_252 ⟨Nat.le_of_ble_eq_true rfl, Nat.le_of_ble_eq_true rfl⟩ ⟨rfl, rfl⟩ k0 (Nat.le_of_ble_eq_true rfl) (S_X11_of hb1 (g10 h70_0)) ?_
      refine p_istore_n_4_3 e_X11_termOf_84 rfl rfl ?_
      refine r_goto e_X11_termOf_85 ?_
      (rw [show v0_0 = (V_X11_of (((F_X11_termOf_6  FUEL (0 : Int32) (U_X11_step  M)).2).1 242 33) ((4 : Int32) + (((F_X11_termOf_6  FUEL (0 : Int32) (U_X11_step  M)).2).1 245 ((((F_X11_termOf_6  FUEL (0 : Int32) (U_X11_step  M)).2).1 242 34) + (((F_X11_termOf_6  FUEL (0 : Int32) (U_X11_step  M)).2).1 242 35)).toNatClampNeg)) mA (setI ((F_X11_termOf_6  FUEL (0 : Int32) (U_X11_step  M)).2) 242 35 ((((F_X11_termOf_6  FUEL (0 : Int32) (U_X11_step  M)).2).1 242 35) + (1 : Int32)))) from (e_v0_0.trans (if_pos h70_0)), show M0_1 = setI ((F_X11_termOf_6  FUEL (0 : Int32) (U_X11_step  M)).2) 242 35 ((((F_X11_termOf_6  FUEL (0 : Int32) (U_X11_step  M)).2).1 242 35) + (1 : Int32)) from (e_M0_1.trans (if_pos h70_0))] at j137_0; exact j137_0)
  refine r_iload_n e_X11_termOf_137 rfl ?_
  obtain ⟨v3_0, e_v3_0⟩ : ∃ z : Int32, z = (if ((F_X11_termOf_6  FUEL (0 : Int32) (U_X11_step  M)).1) = 0 then v0_0 else (-v0_0)) := ⟨_, rfl⟩
  suffices j147_3 : WP m_X11_termOf (fun r sh' M'' => r = some (.int (V_X11_termOf mA M)) ∧ sh' = sh ∧ M'' = (U_X11_termOf mA M)) 147 [some (.ref 242), some (.int ((F_X11_termOf_6  FUEL (0 : Int32) (U_X11_step  M)).1)), some (.int (V_X11_here  ((F_X11_termOf_6  FUEL (0 : Int32) (U_X11_step  M)).2))), some (.int v0_0)] [.int v3_0] sh M0_1 0 0 by
    refine r_if_eq e_X11_termOf_138 (fun h138_3 => ?_) (fun h138_3 => ?_)
    · refine r_iload_n e_X11_termOf_146 rfl ?_
      (rw [show v3_0 = v0_0 from (e_v3_0.trans (if_pos h138_3))] at j147_3; exact j147_3)
    · refine r_iload_n e_X11_termOf_141 rfl ?_
      refine r_ineg e_X11_termOf_142 ?_
      refine r_goto e_X11_termOf_143 ?_
      (rw [show v3_0 = (-v0_0) from (e_v3_0.trans (if_neg h138_3))] at j147_3; exact j147_3)
  refine r_ireturn e_X11_termOf_147 rfl ⟨rfl, rfl⟩ ?_
  (subst e_v3_0 e_M0_1 e_v0_0; refine ⟨?_, rfl, ?_⟩ <;> ((try unfold V_X11_termOf); (try unfold U_X11_termOf); (try simp only []); (try rfl)))
def F_X4_readSum_8 (a : Nat) (x1 : Nat) : Nat → Int32 → Int32 → Int32 → Mem → Int32 × Int32 × Int32 × Mem
  | 0, u2, u3, u4, M => (u2, u3, u4, M)
  | n + 1, u2, u3, u4, M => if (12 : Int32) < u4 then (u2, u3, u4, M) else (if 0 ≤ (M.1 a 9) then (u2, u3, u4, M) else (if u3 = 0 then (u2, u3, u4, M) else (let M803_0 : Mem := if u4 = (12 : Int32) then (U_X4_refuse a M) else M; let v804_0 : Int32 := if (V_X4_kind a (U_X4_readTerm a x1 u2 M803_0)) < (32 : Int32) then (0 : Int32) else (if (34 : Int32) < (V_X4_kind a (U_X4_readTerm a x1 u2 M803_0)) then (0 : Int32) else (1 : Int32)); let v806_0 : Int32 := if v804_0 = 0 then u2 else (V_X4_take a (32 : Int32) (34 : Int32) (U_X4_readTerm a x1 u2 M803_0)); let M806_1 : Mem := if v804_0 = 0 then (U_X4_readTerm a x1 u2 M803_0) else (U_X4_take a (32 : Int32) (34 : Int32) (U_X4_readTerm a x1 u2 M803_0)); (F_X4_readSum_8 a x1 n v806_0 v804_0 (u4 + 1) M806_1))))
def T_X4_readSum_8 (a : Nat) (x1 : Nat) : Nat → Int32 → Int32 → Int32 → Mem → Prop
  | 0, u2, u3, u4, M => False
  | n + 1, u2, u3, u4, M => (¬ (((F_X4_readTerm_5 a x1 u2 FUEL (1 : Int32) (0 : Int32) (if u4 = (12 : Int32) then (U_X4_refuse a M) else M)).2.2).1 a 7) < 0) ∧ (¬ ((U_X4_take a (9 : Int32) (25 : Int32) ((F_X4_readTerm_5 a x1 u2 FUEL (1 : Int32) (0 : Int32) (if u4 = (12 : Int32) then (U_X4_refuse a M) else M)).2.2)).1 a 7) < 0) ∧ (¬ ((if (801 : Int32) ≤ ((U_X4_take a (9 : Int32) (25 : Int32) ((F_X4_readTerm_5 a x1 u2 FUEL (1 : Int32) (0 : Int32) (if u4 = (12 : Int32) then (U_X4_refuse a M) else M)).2.2)).1 a 7) then (U_X4_take a (9 : Int32) (25 : Int32) ((F_X4_readTerm_5 a x1 u2 FUEL (1 : Int32) (0 : Int32) (if u4 = (12 : Int32) then (U_X4_refuse a M) else M)).2.2)) else (if (lg_cmp ((U_X4_take a (9 : Int32) (25 : Int32) ((F_X4_readTerm_5 a x1 u2 FUEL (1 : Int32) (0 : Int32) (if u4 = (12 : Int32) then (U_X4_refuse a M) else M)).2.2)).2 (a + 4) ((U_X4_take a (9 : Int32) (25 : Int32) ((F_X4_readTerm_5 a x1 u2 FUEL (1 : Int32) (0 : Int32) (if u4 = (12 : Int32) then (U_X4_refuse a M) else M)).2.2)).1 a 7).toNatClampNeg) (5 : Int64)) < 0 then (U_X4_take a (9 : Int32) (25 : Int32) ((F_X4_readTerm_5 a x1 u2 FUEL (1 : Int32) (0 : Int32) (if u4 = (12 : Int32) then (U_X4_refuse a M) else M)).2.2)) else (U_X4_refuse a (U_X4_take a (9 : Int32) (25 : Int32) ((F_X4_readTerm_5 a x1 u2 FUEL (1 : Int32) (0 : Int32) (if u4 = (12 : Int32) then (U_X4_refuse a M) else M)).2.2))))).1 a 7) < 0) ∧ (P_X4_readTerm a x1 u2 (if u4 = (12 : Int32) then (U_X4_refuse a M) else M)) ∧ (¬ ((U_X4_readTerm a x1 u2 (if u4 = (12 : Int32) then (U_X4_refuse a M) else M)).1 a 7) < 0) ∧ (if (12 : Int32) < u4 then True else (if 0 ≤ (M.1 a 9) then True else (if u3 = 0 then True else (let M803_0 : Mem := if u4 = (12 : Int32) then (U_X4_refuse a M) else M; let v804_0 : Int32 := if (V_X4_kind a (U_X4_readTerm a x1 u2 M803_0)) < (32 : Int32) then (0 : Int32) else (if (34 : Int32) < (V_X4_kind a (U_X4_readTerm a x1 u2 M803_0)) then (0 : Int32) else (1 : Int32)); let v806_0 : Int32 := if v804_0 = 0 then u2 else (V_X4_take a (32 : Int32) (34 : Int32) (U_X4_readTerm a x1 u2 M803_0)); let M806_1 : Mem := if v804_0 = 0 then (U_X4_readTerm a x1 u2 M803_0) else (U_X4_take a (32 : Int32) (34 : Int32) (U_X4_readTerm a x1 u2 M803_0)); (T_X4_readSum_8 a x1 n v806_0 v804_0 (u4 + 1) M806_1)))))
theorem L_X4_readSum_8 {sh : List SC} {Q : Po} {a : Nat} {x1 : Nat}    (hb1 : ReaderAt sh a) (hb2 : ProgramAt sh x1)   : ∀ (n : Nat) (u2 : Int32) (u3 : Int32) (u4 : Int32) (M : Mem), T_X4_readSum_8 a x1 n u2 u3 u4 M → WP m_X4_readSum Q 86 [some (.ref a), some (.ref x1), some (.int ((F_X4_readSum_8 a x1 n u2 u3 u4 M).1)), some (.int ((F_X4_readSum_8 a x1 n u2 u3 u4 M).2.1)), some (.int ((F_X4_readSum_8 a x1 n u2 u3 u4 M).2.2.1))] [] sh ((F_X4_readSum_8 a x1 n u2 u3 u4 M).2.2.2) 0 0 → WP m_X4_readSum Q 8 [some (.ref a), some (.ref x1), some (.int u2), some (.int u3), some (.int u4)] [] sh M 0 0 := by
  have k0 : kd sh a = some (4 + 7, 0) := hb1.1
  intro n
  induction n with
  | zero =>
    intro u2 u3 u4 M hH hq
    exact hH.elim
  | succ n ih =>
    intro u2 u3 u4 M hH hq
    unfold T_X4_readSum_8 at hH
    obtain ⟨g1, g2, g3, g4, g5, hH⟩ := hH
    refine r_iload e_X4_readSum_8 rfl ?_
    refine r_bipush e_X4_readSum_10 bp_12 ?_
    refine r_icmp_gt e_X4_readSum_12 (fun h12_800 => ?_) (fun h12_800 => ?_)
    · (simp only [F_X4_readSum_8, if_pos h12_800] at hq; first | exact hq | (simp only [if_pos h12_800]; exact hq))
    · refine r_aload_n e_X4_readSum_15 rfl ?_
      refine r_getI e_X4_readSum_16 fl_X4_44 i0 k0 ?_
      refine r_if_ge e_X4_readSum_19 (fun h19_801 => ?_) (fun h19_801 => ?_)
      · (simp only [F_X4_readSum_8, if_neg h12_800, if_pos h19_801] at hq; first | exact hq | (simp only [if_neg h12_800, if_pos h19_801]; exact hq))
      · refine r_iload_n e_X4_readSum_22 rfl ?_
        refine r_if_eq e_X4_readSum_23 (fun h23_802 => ?_) (fun h23_802 => ?_)
        · (simp only [F_X4_readSum_8, if_neg h12_800, if_neg h19_801, if_pos h23_802] at hq; first | exact hq | (simp only [if_neg h12_800, if_neg h19_801, if_pos h23_802]; exact hq))
        · refine r_iload e_X4_readSum_26 rfl ?_
          refine r_bipush e_X4_readSum_28 bp_12 ?_
          obtain ⟨M803_0, e_M803_0⟩ : ∃ z : Mem, z = (if u4 = (12 : Int32) then (U_X4_refuse a M) else M) := ⟨_, rfl⟩
          suffices j37_803 : WP m_X4_readSum Q 37 [some (.ref a), some (.ref x1), some (.int u2), some (.int u3), some (.int u4)] [] sh M803_0 0 0 by
            refine r_icmp_ne e_X4_readSum_30 (fun h30_803 => ?_) (fun h30_803 => ?_)
            · (rw [show M803_0 = M from (e_M803_0.trans (if_neg h30_803))] at j37_803; exact j37_803)
            · refine r_aload_n e_X4_readSum_33 rfl ?_
              refine cV0u e_X4_readSum_34 cl_X4_80 ⟨Nat.le_of_ble_eq_true rfl, Nat.le_of_ble_eq_true rfl⟩ ⟨rfl, rfl⟩ k0 (Nat.le_of_ble_eq_true rfl) (S_X4_refuse hb1) ?_
              (rw [show M803_0 = U_X4_refuse a M from (e_M803_0.trans (if_pos h30_803))] at j37_803; exact j37_803)
          refine r_aload_n e_X4_readSum_37 rfl ?_
          refine r_aload_n e_X4_readSum_38 rfl ?_
          refine r_iload_n e_X4_readSum_39 rfl ?_
          refine cV2u e_X4_readSum_40 cl_X4_168 ⟨Nat.le_of_ble_eq_true rfl, Nat.le_of_ble_eq_true rfl⟩ ⟨rfl, rfl⟩ k0 (Nat.le_of_ble_eq_true rfl) (S_X4_readTerm hb1 hb2 (by subst e_M803_0; exact g1 ) (by subst e_M803_0; exact g2 ) (by subst e_M803_0; exact g3 ) (by subst e_M803_0; exact g4 )) ?_
          refine r_aload_n e_X4_readSum_43 rfl ?_
          refine cV0v e_X4_readSum_44 cl_X4_77 ⟨Nat.le_of_ble_eq_true rfl, Nat.le_of_ble_eq_true rfl⟩ ⟨rfl, rfl⟩ k0 (Nat.le_of_ble_eq_true rfl) (S_X4_kind hb1) ?_
          refine r_bipush e_X4_readSum_47 bp_32 ?_
          obtain ⟨v804_0, e_v804_0⟩ : ∃ z : Int32, z = (if (V_X4_kind a (U_X4_readTerm a x1 u2 M803_0)) < (32 : Int32) then (0 : Int32) else (if (34 : Int32) < (V_X4_kind a (U_X4_readTerm a x1 u2 M803_0)) then (0 : Int32) else (1 : Int32))) := ⟨_, rfl⟩
          have z_v804_0 : v804_0 = 0 ∨ v804_0 = 1 := by rw [e_v804_0]; exact (zi (Or.inl rfl) (zi (Or.inl rfl) (Or.inr rfl)))
          suffices j66_804 : WP m_X4_readSum Q 66 [some (.ref a), some (.ref x1), some (.int u2), some (.int u3), some (.int u4)] [.int v804_0] sh (U_X4_readTerm a x1 u2 M803_0) 0 0 by
            refine r_icmp_lt e_X4_readSum_49 (fun h49_804 => ?_) (fun h49_804 => ?_)
            · refine r_iconst e_X4_readSum_65 ic_0 ?_
              (rw [show v804_0 = (0 : Int32) from (e_v804_0.trans (if_pos h49_804))] at j66_804; exact j66_804)
            · refine r_aload_n e_X4_readSum_52 rfl ?_
              refine cV0v e_X4_readSum_53 cl_X4_77 ⟨Nat.le_of_ble_eq_true rfl, Nat.le_of_ble_eq_true rfl⟩ ⟨rfl, rfl⟩ k0 (Nat.le_of_ble_eq_true rfl) (S_X4_kind hb1) ?_
              refine r_bipush e_X4_readSum_56 bp_34 ?_
              refine r_icmp_gt e_X4_readSum_58 (fun h58_805 => ?_) (fun h58_805 => ?_)
              · refine r_iconst e_X4_readSum_65 ic_0 ?_
                (rw [show v804_0 = (0 : Int32) from ((e_v804_0.trans (if_neg h49_804)).trans (if_pos h58_805))] at j66_804; exact j66_804)
              · refine r_iconst e_X4_readSum_61 ic_1 ?_
                refine r_goto e_X4_readSum_62 ?_
                (rw [show v804_0 = (1 : Int32) from ((e_v804_0.trans (if_neg h49_804)).trans (if_neg h58_805))] at j66_804; exact j66_804)
          refine p_istore_n_5_3 e_X4_readSum_66 rfl rfl ?_
          refine r_iload_n e_X4_readSum_67 rfl ?_
          obtain ⟨v806_0, e_v806_0⟩ : ∃ z : Int32, z = (if v804_0 = 0 then u2 else (V_X4_take a (32 : Int32) (34 : Int32) (U_X4_readTerm a x1 u2 M803_0))) := ⟨_, rfl⟩
          obtain ⟨M806_1, e_M806_1⟩ : ∃ z : Mem, z = (if v804_0 = 0 then (U_X4_readTerm a x1 u2 M803_0) else (U_X4_take a (32 : Int32) (34 : Int32) (U_X4_readTerm a x1 u2 M803_0))) := ⟨_, rfl⟩
          suffices j80_806 : WP m_X4_readSum Q 80 [some (.ref a), some (.ref x1), some (.int v806_0), some (.int v804_0), some (.int u4)] [] sh M806_1 0 0 by
            refine r_if_eq e_X4_readSum_68 (fun h68_806 => ?_) (fun h68_806 => ?_)
            · (rw [show v806_0 = u2 from (e_v806_0.trans (if_pos h68_806)), show M806_1 = U_X4_readTerm a x1 u2 M803_0 from (e_M806_1.trans (if_pos h68_806))] at j80_806; exact j80_806)
            · refine r_aload_n e_X4_readSum_71 rfl ?_
              refine r_bipush e_X4_readSum_72 bp_32 ?_
              refine r_bipush e_X4_readSum_74 bp_34 ?_
              refine cV2v e_X4_readSum_76 cl_X4_83 ⟨Nat.le_of_ble_eq_true rfl, Nat.le_of_ble_eq_true rfl⟩ ⟨rfl, rfl⟩ k0 (Nat.le_of_ble_eq_true rfl) (S_X4_take hb1 (by subst e_M803_0; exact g5 )) ?_
              refine p_istore_n_5_2 e_X4_readSum_79 rfl rfl ?_
              (rw [show v806_0 = (V_X4_take a (32 : Int32) (34 : Int32) (U_X4_readTerm a x1 u2 M803_0)) from (e_v806_0.trans (if_neg h68_806)), show M806_1 = U_X4_take a (32 : Int32) (34 : Int32) (U_X4_readTerm a x1 u2 M803_0) from (e_M806_1.trans (if_neg h68_806))] at j80_806; exact j80_806)
          refine p_iinc_5_4 e_X4_readSum_80 rfl ic_1 rfl ?_
          refine r_goto e_X4_readSum_83 ?_
          (subst e_M806_1 e_v806_0 e_v804_0 e_M803_0; simp only [F_X4_readSum_8, if_neg h12_800, if_neg h19_801, if_neg h23_802] at hq; (try simp only [if_neg h12_800, if_neg h19_801, if_neg h23_802] at hH); first | exact ih _ _ _ _ hH hq | (simp only [if_neg h12_800, if_neg h19_801, if_neg h23_802]; exact ih _ _ _ _ hH hq))
theorem ZF_X4_readSum_8 {a : Nat} {x1 : Nat} : ∀ (n : Nat) (u2 : Int32) (u3 : Int32) (u4 : Int32) (M : Mem), (u3 = 0 ∨ u3 = 1) → (F_X4_readSum_8 a x1 n u2 u3 u4 M).2.1 = 0 ∨ (F_X4_readSum_8 a x1 n u2 u3 u4 M).2.1 = 1 := by
  intro n
  induction n with
  | zero => intro u2 u3 u4 M h; exact h
  | succ n ih => intro u2 u3 u4 M h; unfold F_X4_readSum_8; (try dsimp only); (repeat' split) <;> first | exact h | exact Or.inl rfl | exact Or.inr rfl | exact ih _ _ _ _ (zi (Or.inl rfl) (zi (Or.inl rfl) (Or.inr rfl))) | exact ih _ _ _ _ (Or.inl rfl) | exact ih _ _ _ _ (Or.inr rfl)
def U_X4_readSum (a : Nat) (x1 : Nat) (M : Mem) : Mem := U_X3_closeSum x1 ((F_X4_readSum_8 a x1 FUEL (32 : Int32) (1 : Int32) (0 : Int32) M).2.2.2)
def P_X4_readSum (a : Nat) (x1 : Nat) (M : Mem) : Prop := (T_X4_readSum_8 a x1 FUEL (32 : Int32) (1 : Int32) (0 : Int32) M)
theorem S_X4_readSum {sh : List SC} {M : Mem} {a : Nat} {x1 : Nat}  (hb1 : ReaderAt sh a) (hb2 : ProgramAt sh x1)  (hP : P_X4_readSum a x1 M) : Gu m_X4_readSum [.ref a, .ref x1] sh M (U_X4_readSum a x1 M) := by
  refine Sp.of (ls := [some (.ref a), some (.ref x1), none, none, none]) (by decide +kernel) (Nat.le_of_ble_eq_true rfl) rfl ?_
  have g1 : T_X4_readSum_8 a x1 FUEL (32 : Int32) (1 : Int32) (0 : Int32) M := hP
  have k0 : kd sh x1 = some (3 + 7, 0) := hb2.1
  refine r_bipush e_X4_readSum_0 bp_32 ?_
  refine p_istore_n_5_2 e_X4_readSum_2 rfl rfl ?_
  refine r_iconst e_X4_readSum_3 ic_1 ?_
  refine p_istore_n_5_3 e_X4_readSum_4 rfl rfl ?_
  refine r_iconst e_X4_readSum_5 ic_0 ?_
  refine p_istore_5_4 e_X4_readSum_6 rfl rfl ?_
  refine L_X4_readSum_8 hb1 hb2 FUEL (32 : Int32) (1 : Int32) (0 : Int32) M g1 ?_
  refine r_aload_n e_X4_readSum_86 rfl ?_
  refine cV0u e_X4_readSum_87 cl_X4_172 ⟨Nat.le_of_ble_eq_true rfl, Nat.le_of_ble_eq_true rfl⟩ ⟨rfl, rfl⟩ k0 (Nat.le_of_ble_eq_true rfl) (S_X3_closeSum hb2) ?_
  refine r_return e_X4_readSum_90 rfl ⟨rfl, rfl⟩ ?_
  (refine ⟨?_, rfl, ?_⟩ <;> ((try unfold U_X4_readSum); (try simp only []); (try rfl)))
def F_X4_readAct_88 (a : Nat) (x1 : Nat) (w2 : Int32) (w3 : Int64) (w5 : Int32) : Nat → Int32 → Mem → Int32 × Mem
  | 0, u6, M => (u6, M)
  | n + 1, u6, M => if w5 ≤ u6 then (u6, M) else (F_X4_readAct_88 a x1 w2 w3 w5 n (u6 + 1) (U_X4_readSum a x1 M))
def T_X4_readAct_88 (a : Nat) (x1 : Nat) (w2 : Int32) (w3 : Int64) (w5 : Int32) : Nat → Int32 → Mem → Prop
  | 0, u6, M => False
  | n + 1, u6, M => (P_X4_readSum a x1 M) ∧ (if w5 ≤ u6 then True else (T_X4_readAct_88 a x1 w2 w3 w5 n (u6 + 1) (U_X4_readSum a x1 M)))
theorem L_X4_readAct_88 {sh : List SC} {Q : Po} {a : Nat} {x1 : Nat}  {w2 : Int32} {w3 : Int64} {w5 : Int32}  (hb1 : ReaderAt sh a) (hb2 : ProgramAt sh x1)   : ∀ (n : Nat) (u6 : Int32) (M : Mem), T_X4_readAct_88 a x1 w2 w3 w5 n u6 M → WP m_X4_readAct Q 106 [some (.ref a), some (.ref x1), some (.int w2), some (.long w3), none, some (.int w5), some (.int ((F_X4_readAct_88 a x1 w2 w3 w5 n u6 M).1))] [] sh ((F_X4_readAct_88 a x1 w2 w3 w5 n u6 M).2) 0 0 → WP m_X4_readAct Q 88 [some (.ref a), some (.ref x1), some (.int w2), some (.long w3), none, some (.int w5), some (.int u6)] [] sh M 0 0 := by
  have k0 : kd sh a = some (4 + 7, 0) := hb1.1
  intro n
  induction n with
  | zero =>
    intro u6 M hH hq
    exact hH.elim
  | succ n ih =>
    intro u6 M hH hq
    unfold T_X4_readAct_88 at hH
    obtain ⟨g1, hH⟩ := hH
    refine r_iload e_X4_readAct_88 rfl ?_
    refine r_iload e_X4_readAct_90 rfl ?_
    refine r_icmp_ge e_X4_readAct_92 (fun h92_8805 => ?_) (fun h92_8805 => ?_)
    · (simp only [F_X4_readAct_88, if_pos h92_8805] at hq; first | exact hq | (simp only [if_pos h92_8805]; exact hq))
    · refine r_aload_n e_X4_readAct_95 rfl ?_
      refine r_aload_n e_X4_readAct_96 rfl ?_
      refine cV1u e_X4_readAct_97 cl_X4_152 ⟨Nat.le_of_ble_eq_true rfl, Nat.le_of_ble_eq_true rfl⟩ ⟨rfl, rfl⟩ k0 (Nat.le_of_ble_eq_true rfl) (S_X4_readSum hb1 hb2 g1) ?_
      refine p_iinc_7_6 e_X4_readAct_100 rfl ic_1 rfl ?_
      refine r_goto e_X4_readAct_103 ?_
      (simp only [F_X4_readAct_88, if_neg h92_8805] at hq; (try simp only [if_neg h92_8805] at hH); first | exact ih _ _ hH hq | (simp only [if_neg h92_8805]; exact ih _ _ hH hq))
def U_X4_readAct (a : Nat) (x1 : Nat) (M : Mem) : Mem := (let v0_0 : Int64 := if (V_X4_take a (3 : Int32) (8 : Int32) M) = (3 : Int32) then ((U_X4_take a (26 : Int32) (26 : Int32) (U_X4_take a (3 : Int32) (8 : Int32) M)).2 a 8) else (if (V_X4_take a (3 : Int32) (8 : Int32) M) = (4 : Int32) then (((V_X4_take a (13 : Int32) (16 : Int32) (U_X4_take a (3 : Int32) (8 : Int32) M)) - (13 : Int32)).toInt64) else (0 : Int64)); let v0_1 : Int32 := if (V_X4_take a (3 : Int32) (8 : Int32) M) = (3 : Int32) then (0 : Int32) else (if (V_X4_take a (3 : Int32) (8 : Int32) M) = (4 : Int32) then (1 : Int32) else (if (V_X4_take a (3 : Int32) (8 : Int32) M) = (5 : Int32) then (2 : Int32) else (if (V_X4_take a (3 : Int32) (8 : Int32) M) = (6 : Int32) then (2 : Int32) else (if (V_X4_take a (3 : Int32) (8 : Int32) M) = (7 : Int32) then (3 : Int32) else (0 : Int32))))); let M0_2 : Mem := if (V_X4_take a (3 : Int32) (8 : Int32) M) = (3 : Int32) then (U_X4_take a (26 : Int32) (26 : Int32) (U_X4_take a (3 : Int32) (8 : Int32) M)) else (if (V_X4_take a (3 : Int32) (8 : Int32) M) = (4 : Int32) then (U_X4_take a (13 : Int32) (16 : Int32) (U_X4_take a (3 : Int32) (8 : Int32) M)) else (U_X4_take a (3 : Int32) (8 : Int32) M)); let Mc1 : Mem := U_X4_take a (35 : Int32) (35 : Int32) ((F_X4_readAct_88 a x1 (V_X4_take a (3 : Int32) (8 : Int32) M) v0_0 v0_1 FUEL (0 : Int32) M0_2).2); U_X3_addAct x1 (V_X4_take a (3 : Int32) (8 : Int32) M) v0_0 v0_1 Mc1)
def P_X4_readAct (a : Nat) (x1 : Nat) (M : Mem) : Prop := (T_X4_readAct_88 a x1 (V_X4_take a (3 : Int32) (8 : Int32) M) (if (V_X4_take a (3 : Int32) (8 : Int32) M) = (3 : Int32) then ((U_X4_take a (26 : Int32) (26 : Int32) (U_X4_take a (3 : Int32) (8 : Int32) M)).2 a 8) else (if (V_X4_take a (3 : Int32) (8 : Int32) M) = (4 : Int32) then (((V_X4_take a (13 : Int32) (16 : Int32) (U_X4_take a (3 : Int32) (8 : Int32) M)) - (13 : Int32)).toInt64) else (0 : Int64))) (if (V_X4_take a (3 : Int32) (8 : Int32) M) = (3 : Int32) then (0 : Int32) else (if (V_X4_take a (3 : Int32) (8 : Int32) M) = (4 : Int32) then (1 : Int32) else (if (V_X4_take a (3 : Int32) (8 : Int32) M) = (5 : Int32) then (2 : Int32) else (if (V_X4_take a (3 : Int32) (8 : Int32) M) = (6 : Int32) then (2 : Int32) else (if (V_X4_take a (3 : Int32) (8 : Int32) M) = (7 : Int32) then (3 : Int32) else (0 : Int32)))))) FUEL (0 : Int32) (if (V_X4_take a (3 : Int32) (8 : Int32) M) = (3 : Int32) then (U_X4_take a (26 : Int32) (26 : Int32) (U_X4_take a (3 : Int32) (8 : Int32) M)) else (if (V_X4_take a (3 : Int32) (8 : Int32) M) = (4 : Int32) then (U_X4_take a (13 : Int32) (16 : Int32) (U_X4_take a (3 : Int32) (8 : Int32) M)) else (U_X4_take a (3 : Int32) (8 : Int32) M))))
theorem S_X4_readAct {sh : List SC} {M : Mem} {a : Nat} {x1 : Nat}  (hb1 : ReaderAt sh a) (hb2 : ProgramAt sh x1) (g1 : ¬ (M.1 a 7) < 0) (g2 : ¬ ((U_X4_take a (3 : Int32) (8 : Int32) M).1 a 7) < 0) (g4 : ¬ (((F_X4_readAct_88 a x1 (V_X4_take a (3 : Int32) (8 : Int32) M) (if (V_X4_take a (3 : Int32) (8 : Int32) M) = (3 : Int32) then ((U_X4_take a (26 : Int32) (26 : Int32) (U_X4_take a (3 : Int32) (8 : Int32) M)).2 a 8) else (if (V_X4_take a (3 : Int32) (8 : Int32) M) = (4 : Int32) then (((V_X4_take a (13 : Int32) (16 : Int32) (U_X4_take a (3 : Int32) (8 : Int32) M)) - (13 : Int32)).toInt64) else (0 : Int64))) (if (V_X4_take a (3 : Int32) (8 : Int32) M) = (3 : Int32) then (0 : Int32) else (if (V_X4_take a (3 : Int32) (8 : Int32) M) = (4 : Int32) then (1 : Int32) else (if (V_X4_take a (3 : Int32) (8 : Int32) M) = (5 : Int32) then (2 : Int32) else (if (V_X4_take a (3 : Int32) (8 : Int32) M) = (6 : Int32) then (2 : Int32) else (if (V_X4_take a (3 : Int32) (8 : Int32) M) = (7 : Int32) then (3 : Int32) else (0 : Int32)))))) FUEL (0 : Int32) (if (V_X4_take a (3 : Int32) (8 : Int32) M) = (3 : Int32) then (U_X4_take a (26 : Int32) (26 : Int32) (U_X4_take a (3 : Int32) (8 : Int32) M)) else (if (V_X4_take a (3 : Int32) (8 : Int32) M) = (4 : Int32) then (U_X4_take a (13 : Int32) (16 : Int32) (U_X4_take a (3 : Int32) (8 : Int32) M)) else (U_X4_take a (3 : Int32) (8 : Int32) M)))).2).1 a 7) < 0) (g5 : ¬ ((U_X4_take a (35 : Int32) (35 : Int32) ((F_X4_readAct_88 a x1 (V_X4_take a (3 : Int32) (8 : Int32) M) (if (V_X4_take a (3 : Int32) (8 : Int32) M) = (3 : Int32) then ((U_X4_take a (26 : Int32) (26 : Int32) (U_X4_take a (3 : Int32) (8 : Int32) M)).2 a 8) else (if (V_X4_take a (3 : Int32) (8 : Int32) M) = (4 : Int32) then (((V_X4_take a (13 : Int32) (16 : Int32) (U_X4_take a (3 : Int32) (8 : Int32) M)) - (13 : Int32)).toInt64) else (0 : Int64))) (if (V_X4_take a (3 : Int32) (8 : Int32) M) = (3 : Int32) then (0 : Int32) else (if (V_X4_take a (3 : Int32) (8 : Int32) M) = (4 : Int32) then (1 : Int32) else (if (V_X4_take a (3 : Int32) (8 : Int32) M) = (5 : Int32) then (2 : Int32) else (if (V_X4_take a (3 : Int32) (8 : Int32) M) = (6 : Int32) then (2 : Int32) else (if (V_X4_take a (3 : Int32) (8 : Int32) M) = (7 : Int32) then (3 : Int32) else (0 : Int32)))))) FUEL (0 : Int32) (if (V_X4_take a (3 : Int32) (8 : Int32) M) = (3 : Int32) then (U_X4_take a (26 : Int32) (26 : Int32) (U_X4_take a (3 : Int32) (8 : Int32) M)) else (if (V_X4_take a (3 : Int32) (8 : Int32) M) = (4 : Int32) then (U_X4_take a (13 : Int32) (16 : Int32) (U_X4_take a (3 : Int32) (8 : Int32) M)) else (U_X4_take a (3 : Int32) (8 : Int32) M)))).2)).1 x1 9) < 0) (hP : P_X4_readAct a x1 M) : Gu m_X4_readAct [.ref a, .ref x1] sh M (U_X4_readAct a x1 M) := by
  refine Sp.of (ls := [some (.ref a), some (.ref x1), none, none, none, none, none]) (by decide +kernel) (Nat.le_of_ble_eq_true rfl) rfl ?_
  have g3 : T_X4_readAct_88 a x1 (V_X4_take a (3 : Int32) (8 : Int32) M) (if (V_X4_take a (3 : Int32) (8 : Int32) M) = (3 : Int32) then ((U_X4_take a (26 : Int32) (26 : Int32) (U_X4_take a (3 : Int32) (8 : Int32) M)).2 a 8) else (if (V_X4_take a (3 : Int32) (8 : Int32) M) = (4 : Int32) then (((V_X4_take a (13 : Int32) (16 : Int32) (U_X4_take a (3 : Int32) (8 : Int32) M)) - (13 : Int32)).toInt64) else (0 : Int64))) (if (V_X4_take a (3 : Int32) (8 : Int32) M) = (3 : Int32) then (0 : Int32) else (if (V_X4_take a (3 : Int32) (8 : Int32) M) = (4 : Int32) then (1 : Int32) else (if (V_X4_take a (3 : Int32) (8 : Int32) M) = (5 : Int32) then (2 : Int32) else (if (V_X4_take a (3 : Int32) (8 : Int32) M) = (6 : Int32) then (2 : Int32) else (if (V_X4_take a (3 : Int32) (8 : Int32) M) = (7 : Int32) then (3 : Int32) else (0 : Int32)))))) FUEL (0 : Int32) (if (V_X4_take a (3 : Int32) (8 : Int32) M) = (3 : Int32) then (U_X4_take a (26 : Int32) (26 : Int32) (U_X4_take a (3 : Int32) (8 : Int32) M)) else (if (V_X4_take a (3 : Int32) (8 : Int32) M) = (4 : Int32) then (U_X4_take a (13 : Int32) (16 : Int32) (U_X4_take a (3 : Int32) (8 : Int32) M)) else (U_X4_take a (3 : Int32) (8 : Int32) M))) := hP
  have k0 : kd sh a = some (4 + 7, 0) := hb1.1
  have k1 : kd sh x1 = some (3 + 7, 0) := hb2.1
  refine r_aload_n e_X4_readAct_0 rfl ?_
  refine r_iconst e_X4_readAct_1 ic_3 ?_
  refine r_bipush e_X4_readAct_2 bp_8 ?_
  refine cV2v e_X4_readAct_4 cl_X4_83 ⟨Nat.le_of_ble_eq_true rfl, Nat.le_of_ble_eq_true rfl⟩ ⟨rfl, rfl⟩ k0 (Nat.le_of_ble_eq_true rfl) (S_X4_take hb1 g1) ?_
  refine p_istore_n_7_2 e_X4_readAct_7 rfl rfl ?_
  refine r_lconst e_X4_readAct_8 lk_0 ?_
  refine p_lstore_n_7_3 e_X4_readAct_9 rfl rfl ?_
  refine r_iconst e_X4_readAct_10 ic_0 ?_
  refine p_istore_7_5 e_X4_readAct_11 rfl rfl ?_
  refine r_iload_n e_X4_readAct_13 rfl ?_
  refine r_iconst e_X4_readAct_14 ic_3 ?_
  obtain ⟨v0_0, e_v0_0⟩ : ∃ z : Int64, z = (if (V_X4_take a (3 : Int32) (8 : Int32) M) = (3 : Int32) then ((U_X4_take a (26 : Int32) (26 : Int32) (U_X4_take a (3 : Int32) (8 : Int32) M)).2 a 8) else (if (V_X4_take a (3 : Int32) (8 : Int32) M) = (4 : Int32) then (((V_X4_take a (13 : Int32) (16 : Int32) (U_X4_take a (3 : Int32) (8 : Int32) M)) - (13 : Int32)).toInt64) else (0 : Int64))) := ⟨_, rfl⟩
  obtain ⟨v0_1, e_v0_1⟩ : ∃ z : Int32, z = (if (V_X4_take a (3 : Int32) (8 : Int32) M) = (3 : Int32) then (0 : Int32) else (if (V_X4_take a (3 : Int32) (8 : Int32) M) = (4 : Int32) then (1 : Int32) else (if (V_X4_take a (3 : Int32) (8 : Int32) M) = (5 : Int32) then (2 : Int32) else (if (V_X4_take a (3 : Int32) (8 : Int32) M) = (6 : Int32) then (2 : Int32) else (if (V_X4_take a (3 : Int32) (8 : Int32) M) = (7 : Int32) then (3 : Int32) else (0 : Int32)))))) := ⟨_, rfl⟩
  obtain ⟨M0_2, e_M0_2⟩ : ∃ z : Mem, z = (if (V_X4_take a (3 : Int32) (8 : Int32) M) = (3 : Int32) then (U_X4_take a (26 : Int32) (26 : Int32) (U_X4_take a (3 : Int32) (8 : Int32) M)) else (if (V_X4_take a (3 : Int32) (8 : Int32) M) = (4 : Int32) then (U_X4_take a (13 : Int32) (16 : Int32) (U_X4_take a (3 : Int32) (8 : Int32) M)) else (U_X4_take a (3 : Int32) (8 : Int32) M))) := ⟨_, rfl⟩
  suffices j85_0 : WP m_X4_readAct (fun r sh' M'' => r = none ∧ sh' = sh ∧ M'' = (U_X4_readAct a x1 M)) 85 [some (.ref a), some (.ref x1), some (.int (V_X4_take a (3 : Int32) (8 : Int32) M)), some (.long v0_0), none, some (.int v0_1), none] [] sh M0_2 0 0 by
    refine r_icmp_ne e_X4_readAct_15 (fun h15_0 => ?_) (fun h15_0 => ?_)
    · refine r_iload_n e_X4_readAct_35 rfl ?_
      refine r_iconst e_X4_readAct_36 ic_4 ?_
      refine r_icmp_ne e_X4_readAct_37 (fun h37_1 => ?_) (fun h37_1 => ?_)
      · refine r_iload_n e_X4_readAct_59 rfl ?_
        refine r_iconst e_X4_readAct_60 ic_5 ?_
        refine r_icmp_eq e_X4_readAct_61 (fun h61_2 => ?_) (fun h61_2 => ?_)
        · refine r_iconst e_X4_readAct_70 ic_2 ?_
          refine p_istore_7_5 e_X4_readAct_71 rfl rfl ?_
          refine r_goto e_X4_readAct_73 ?_
          (rw [show v0_0 = (0 : Int64) from ((e_v0_0.trans (if_neg h15_0)).trans (if_neg h37_1)), show v0_1 = (2 : Int32) from (((e_v0_1.trans (if_neg h15_0)).trans (if_neg h37_1)).trans (if_pos h61_2)), show M0_2 = U_X4_take a (3 : Int32) (8 : Int32) M from ((e_M0_2.trans (if_neg h15_0)).trans (if_neg h37_1))] at j85_0; exact j85_0)
        · refine r_iload_n e_X4_readAct_64 rfl ?_
          refine r_bipush e_X4_readAct_65 bp_6 ?_
          refine r_icmp_ne e_X4_readAct_67 (fun h67_3 => ?_) (fun h67_3 => ?_)
          · refine r_iload_n e_X4_readAct_76 rfl ?_
            refine r_bipush e_X4_readAct_77 bp_7 ?_
            refine r_icmp_ne e_X4_readAct_79 (fun h79_4 => ?_) (fun h79_4 => ?_)
            · (rw [show v0_0 = (0 : Int64) from ((e_v0_0.trans (if_neg h15_0)).trans (if_neg h37_1)), show v0_1 = (0 : Int32) from (((((e_v0_1.trans (if_neg h15_0)).trans (if_neg h37_1)).trans (if_neg h61_2)).trans (if_neg h67_3)).trans (if_neg h79_4)), show M0_2 = U_X4_take a (3 : Int32) (8 : Int32) M from ((e_M0_2.trans (if_neg h15_0)).trans (if_neg h37_1))] at j85_0; exact j85_0)
            · refine r_iconst e_X4_readAct_82 ic_3 ?_
              refine p_istore_7_5 e_X4_readAct_83 rfl rfl ?_
              (rw [show v0_0 = (0 : Int64) from ((e_v0_0.trans (if_neg h15_0)).trans (if_neg h37_1)), show v0_1 = (3 : Int32) from (((((e_v0_1.trans (if_neg h15_0)).trans (if_neg h37_1)).trans (if_neg h61_2)).trans (if_neg h67_3)).trans (if_pos h79_4)), show M0_2 = U_X4_take a (3 : Int32) (8 : Int32) M from ((e_M0_2.trans (if_neg h15_0)).trans (if_neg h37_1))] at j85_0; exact j85_0)
          · refine r_iconst e_X4_readAct_70 ic_2 ?_
            refine p_istore_7_5 e_X4_readAct_71 rfl rfl ?_
            refine r_goto e_X4_readAct_73 ?_
            (rw [show v0_0 = (0 : Int64) from ((e_v0_0.trans (if_neg h15_0)).trans (if_neg h37_1)), show v0_1 = (2 : Int32) from ((((e_v0_1.trans (if_neg h15_0)).trans (if_neg h37_1)).trans (if_neg h61_2)).trans (if_pos h67_3)), show M0_2 = U_X4_take a (3 : Int32) (8 : Int32) M from ((e_M0_2.trans (if_neg h15_0)).trans (if_neg h37_1))] at j85_0; exact j85_0)
      · refine r_aload_n e_X4_readAct_40 rfl ?_
        refine r_bipush e_X4_readAct_41 bp_13 ?_
        refine r_bipush e_X4_readAct_43 bp_16 ?_
        refine cV2v e_X4_readAct_45 cl_X4_83 ⟨Nat.le_of_ble_eq_true rfl, Nat.le_of_ble_eq_true rfl⟩ ⟨rfl, rfl⟩ k0 (Nat.le_of_ble_eq_true rfl) (S_X4_take hb1 g2) ?_
        refine r_bipush e_X4_readAct_48 bp_13 ?_
        refine r_isub e_X4_readAct_50 ?_
        refine r_i2l e_X4_readAct_51 ?_
        refine p_lstore_n_7_3 e_X4_readAct_52 rfl rfl ?_
        refine r_iconst e_X4_readAct_53 ic_1 ?_
        refine p_istore_7_5 e_X4_readAct_54 rfl rfl ?_
        refine r_goto e_X4_readAct_56 ?_
        (rw [show v0_0 = ((V_X4_take a (13 : Int32) (16 : Int32) (U_X4_take a (3 : Int32) (8 : Int32) M)) - (13 : Int32)).toInt64 from ((e_v0_0.trans (if_neg h15_0)).trans (if_pos h37_1)), show v0_1 = (1 : Int32) from ((e_v0_1.trans (if_neg h15_0)).trans (if_pos h37_1)), show M0_2 = U_X4_take a (13 : Int32) (16 : Int32) (U_X4_take a (3 : Int32) (8 : Int32) M) from ((e_M0_2.trans (if_neg h15_0)).trans (if_pos h37_1))] at j85_0; exact j85_0)
    · refine r_aload_n e_X4_readAct_18 rfl ?_
      refine r_bipush e_X4_readAct_19 bp_26 ?_
      refine r_bipush e_X4_readAct_21 bp_26 ?_
      refine cV2v e_X4_readAct_23 cl_X4_83 ⟨Nat.le_of_ble_eq_true rfl, Nat.le_of_ble_eq_true rfl⟩ ⟨rfl, rfl⟩ k0 (Nat.le_of_ble_eq_true rfl) (S_X4_take hb1 g2) ?_
      refine r_pop e_X4_readAct_26 rfl ?_
      refine r_aload_n e_X4_readAct_27 rfl ?_
      refine r_getJ e_X4_readAct_28 fl_X4_40 k0 ?_
      refine p_lstore_n_7_3 e_X4_readAct_31 rfl rfl ?_
      refine r_goto e_X4_readAct_32 ?_
      (rw [show v0_0 = ((U_X4_take a (26 : Int32) (26 : Int32) (U_X4_take a (3 : Int32) (8 : Int32) M)).2 a 8) from (e_v0_0.trans (if_pos h15_0)), show v0_1 = (0 : Int32) from (e_v0_1.trans (if_pos h15_0)), show M0_2 = U_X4_take a (26 : Int32) (26 : Int32) (U_X4_take a (3 : Int32) (8 : Int32) M) from (e_M0_2.trans (if_pos h15_0))] at j85_0; exact j85_0)
  refine r_iconst e_X4_readAct_85 ic_0 ?_
  refine p_istore_7_6 e_X4_readAct_86 rfl rfl ?_
  refine L_X4_readAct_88 hb1 hb2 FUEL (0 : Int32) M0_2 (by subst e_M0_2 e_v0_1 e_v0_0; exact g3 ) ?_
  refine r_aload_n e_X4_readAct_106 rfl ?_
  refine r_bipush e_X4_readAct_107 bp_35 ?_
  refine r_bipush e_X4_readAct_109 bp_35 ?_
  refine cV2v e_X4_readAct_111 cl_X4_83 ⟨Nat.le_of_ble_eq_true rfl, Nat.le_of_ble_eq_true rfl⟩ ⟨rfl, rfl⟩ k0 (Nat.le_of_ble_eq_true rfl) (S_X4_take hb1 (by subst e_M0_2 e_v0_1 e_v0_0; exact g4 )) ?_
  obtain ⟨Mc1, e_Mc1⟩ : ∃ z : Mem, z = (U_X4_take a (35 : Int32) (35 : Int32) ((F_X4_readAct_88 a x1 (V_X4_take a (3 : Int32) (8 : Int32) M) v0_0 v0_1 FUEL (0 : Int32) M0_2).2)) := ⟨_, rfl⟩
  rw [← e_Mc1]
  refine r_pop e_X4_readAct_114 rfl ?_
  refine r_aload_n e_X4_readAct_115 rfl ?_
  refine r_iload_n e_X4_readAct_116 rfl ?_
  refine r_lload_n e_X4_readAct_117 rfl ?_
  refine r_iload e_X4_readAct_118 rfl ?_
  refine cV3u e_X4_readAct_120 cl_X4_165 ⟨Nat.le_of_ble_eq_true rfl, Nat.le_of_ble_eq_true rfl⟩ ⟨rfl, rfl⟩ k1 (Nat.le_of_ble_eq_true rfl) (S_X3_addAct hb2 (by subst e_Mc1 e_M0_2 e_v0_1 e_v0_0; exact g5 )) ?_
  refine r_return e_X4_readAct_123 rfl ⟨rfl, rfl⟩ ?_
  (subst e_Mc1 e_M0_2 e_v0_1 e_v0_0; refine ⟨?_, rfl, ?_⟩ <;> ((try unfold U_X4_readAct); (try simp only []); (try rfl)))
def F_X2_kickOff_2 (a : Nat) : Nat → Nat → Mem → Mem
  | 0, i2, M => M
  | n + 1, i2, M => (F_X2_kickOff_2 a n (i2 + 1) (U_X5_leave (a + 10 + 2 * i2) M))
theorem L_X2_kickOff_2 {sh : List SC} {Q : Po} {a : Nat}    (hb1 : MatchAt sh a)   : ∀ (n i2 : Nat) (M : Mem), i2 + n = 10 → WP m_X2_kickOff Q 26 [some (.ref a), none, none] [] sh (F_X2_kickOff_2 a n i2 M) 0 0 → WP m_X2_kickOff Q 2 [some (.ref a), some (.int (nI i2)), none] [] sh M 0 0 := by
  have k0 : kd sh a = some (2 + 7, 0) := hb1.1
  have k1 : rf sh a 3 = some (a + 3) := hb1.2.2.2.2.1
  have k2 : kd sh (a + 3) = some (6, 10) := hb1.2.2.2.2.2.2.2.1
  intro n
  induction n with
  | zero =>
    intro i2 M hi hq
    have hz : (10 : Int32) ≤ nI i2 := by
      have q : i2 = 10 := by omega
      rw [q]; exact nI_le (Nat.le_refl _) (by decide)
    refine r_iload_n e_X2_kickOff_2 rfl ?_
    refine r_aload_n e_X2_kickOff_3 rfl ?_
    refine r_getR e_X2_kickOff_4 fl_X2_20 k0 k1 ?_
    refine r_alen (v := (10 : Int32)) e_X2_kickOff_7 k2 (by decide) rfl ?_
    refine r_icmp_ge e_X2_kickOff_8 (fun _ => ?_) (fun hh => absurd hz hh)
    refine d_3_1 ?_
    (simp only [F_X2_kickOff_2] at hq; first | exact hq | (simp only []; exact hq))
  | succ n ih =>
    intro i2 M hi hq
    have hlt_i2 : i2 < 10 := by omega
    have hcl_i2 : (nI i2).toNatClampNeg = i2 := nI_clamp (by omega)
    have hs : ¬ (10 : Int32) ≤ nI i2 := nI_ge (b := 10) hlt_i2 (by decide)
    refine r_iload_n e_X2_kickOff_2 rfl ?_
    refine r_aload_n e_X2_kickOff_3 rfl ?_
    refine r_getR e_X2_kickOff_4 fl_X2_20 k0 k1 ?_
    refine r_alen (v := (10 : Int32)) e_X2_kickOff_7 k2 (by decide) rfl ?_
    refine r_icmp_ge e_X2_kickOff_8 (fun hh => absurd hh hs) (fun _ => ?_)
    refine r_aload_n e_X2_kickOff_11 rfl ?_
    refine r_getR e_X2_kickOff_12 fl_X2_20 k0 k1 ?_
    refine r_iload_n e_X2_kickOff_15 rfl ?_
    refine r_aaload (b := (a + 10 + 2 * i2)) e_X2_kickOff_16 k2 ⟨by decide, by decide⟩ (vp_in_nI (Nat.lt_of_lt_of_le hlt_i2 (by decide)) (by decide)) (by rw [hcl_i2]; exact (hb1.2.2.2.2.2.2.2.2.1 i2 (Nat.lt_of_lt_of_le hlt_i2 (by decide))).1) ?_
    refine cV0u e_X2_kickOff_17 cl_X2_94 ⟨Nat.le_of_ble_eq_true rfl, Nat.le_of_ble_eq_true rfl⟩ ⟨rfl, rfl⟩ (show kd sh (a + 10 + 2 * i2) = some (5 + 7, 0) from (hb1.2.2.2.2.2.2.2.2.1 i2 (Nat.lt_of_lt_of_le hlt_i2 (by decide))).2.1) (Nat.le_of_ble_eq_true rfl) (S_X5_leave (hb1.2.2.2.2.2.2.2.2.1 i2 (Nat.lt_of_lt_of_le hlt_i2 (by decide))).2) ?_
    refine p_iinc_3_1 e_X2_kickOff_20 rfl ic_1 rfl ?_
    rw [nI_1 i2]
    refine r_goto e_X2_kickOff_23 ?_
    (simp only [F_X2_kickOff_2] at hq; first | exact ih (i2 + 1) _ (by omega) hq | (simp only []; exact ih (i2 + 1) _ (by omega) hq))
def F_X2_kickOff_28 (a : Nat) : Nat → Nat → Mem → Mem
  | 0, i28, M => M
  | n + 1, i28, M => (let v2800_0 : Int32 := if (5 : Int32) ≤ (nI i28) then (M.1 a 9) else (M.1 a 8); let M2801_0 : Mem := if v2800_0 < 0 then M else (if (4 : Int32) ≤ v2800_0 then M else (U_X5_join (a + 10 + 2 * i28) (106 + 4 * v2800_0.toNatClampNeg) M)); (F_X2_kickOff_28 a n (i28 + 1) (U_X2_putAtStart a (nI i28) M2801_0)))
theorem L_X2_kickOff_28 {sh : List SC} {Q : Po} {a : Nat}    (hb1 : MatchAt sh a)   : ∀ (n i28 : Nat) (M : Mem), i28 + n = 10 → WP m_X2_kickOff Q 93 [some (.ref a), none, none] [] sh (F_X2_kickOff_28 a n i28 M) 0 0 → WP m_X2_kickOff Q 28 [some (.ref a), some (.int (nI i28)), none] [] sh M 0 0 := by
  have k0 : kd sh a = some (2 + 7, 0) := hb1.1
  have k1 : rf sh a 3 = some (a + 3) := hb1.2.2.2.2.1
  have k2 : kd sh (a + 3) = some (6, 10) := hb1.2.2.2.2.2.2.2.1
  have k3 : rf sh a 0 = some 9 := hb1.2.1
  have k4 : kd sh 9 = some (4, 4) := hb1.2.2.2.2.2.2.2.2.2.2.2.2.2.2.1
  intro n
  induction n with
  | zero =>
    intro i28 M hi hq
    have hz : (10 : Int32) ≤ nI i28 := by
      have q : i28 = 10 := by omega
      rw [q]; exact nI_le (Nat.le_refl _) (by decide)
    refine r_iload_n e_X2_kickOff_28 rfl ?_
    refine r_aload_n e_X2_kickOff_29 rfl ?_
    refine r_getR e_X2_kickOff_30 fl_X2_20 k0 k1 ?_
    refine r_alen (v := (10 : Int32)) e_X2_kickOff_33 k2 (by decide) rfl ?_
    refine r_icmp_ge e_X2_kickOff_34 (fun _ => ?_) (fun hh => absurd hz hh)
    refine d_3_1 ?_
    (simp only [F_X2_kickOff_28] at hq; first | exact hq | (simp only []; exact hq))
  | succ n ih =>
    intro i28 M hi hq
    have hlt_i28 : i28 < 10 := by omega
    have hcl_i28 : (nI i28).toNatClampNeg = i28 := nI_clamp (by omega)
    have hs : ¬ (10 : Int32) ≤ nI i28 := nI_ge (b := 10) hlt_i28 (by decide)
    refine r_iload_n e_X2_kickOff_28 rfl ?_
    refine r_aload_n e_X2_kickOff_29 rfl ?_
    refine r_getR e_X2_kickOff_30 fl_X2_20 k0 k1 ?_
    refine r_alen (v := (10 : Int32)) e_X2_kickOff_33 k2 (by decide) rfl ?_
    refine r_icmp_ge e_X2_kickOff_34 (fun hh => absurd hh hs) (fun _ => ?_)
    refine r_iload_n e_X2_kickOff_37 rfl ?_
    refine r_iconst e_X2_kickOff_38 ic_5 ?_
    obtain ⟨v2800_0, e_v2800_0⟩ : ∃ z : Int32, z = (if (5 : Int32) ≤ (nI i28) then (M.1 a 9) else (M.1 a 8)) := ⟨_, rfl⟩
    suffices j53_2800 : WP m_X2_kickOff Q 53 [some (.ref a), some (.int (nI i28)), none] [.int v2800_0] sh M 0 0 by
      refine r_icmp_ge e_X2_kickOff_39 (fun h39_2800 => ?_) (fun h39_2800 => ?_)
      · refine r_aload_n e_X2_kickOff_49 rfl ?_
        refine r_getI e_X2_kickOff_50 fl_X2_49 i0 k0 ?_
        (rw [show v2800_0 = (M.1 a 9) from (e_v2800_0.trans (if_pos h39_2800))] at j53_2800; exact j53_2800)
      · refine r_aload_n e_X2_kickOff_42 rfl ?_
        refine r_getI e_X2_kickOff_43 fl_X2_46 i0 k0 ?_
        refine r_goto e_X2_kickOff_46 ?_
        (rw [show v2800_0 = (M.1 a 8) from (e_v2800_0.trans (if_neg h39_2800))] at j53_2800; exact j53_2800)
    refine p_istore_n_3_2 e_X2_kickOff_53 rfl rfl ?_
    refine r_iload_n e_X2_kickOff_54 rfl ?_
    obtain ⟨M2801_0, e_M2801_0⟩ : ∃ z : Mem, z = (if v2800_0 < 0 then M else (if (4 : Int32) ≤ v2800_0 then M else (U_X5_join (a + 10 + 2 * i28) (106 + 4 * v2800_0.toNatClampNeg) M))) := ⟨_, rfl⟩
    suffices j82_2801 : WP m_X2_kickOff Q 82 [some (.ref a), some (.int (nI i28)), some (.int v2800_0)] [] sh M2801_0 0 0 by
      refine r_if_lt e_X2_kickOff_55 (fun h55_2801 => ?_) (fun h55_2801 => ?_)
      · (rw [show M2801_0 = M from (e_M2801_0.trans (if_pos h55_2801))] at j82_2801; exact j82_2801)
      · refine r_iload_n e_X2_kickOff_58 rfl ?_
        refine r_aload_n e_X2_kickOff_59 rfl ?_
        refine r_getR e_X2_kickOff_60 fl_X2_52 k0 k3 ?_
        refine r_alen (v := (4 : Int32)) e_X2_kickOff_63 k4 (by decide) rfl ?_
        refine r_icmp_ge e_X2_kickOff_64 (fun h64_2802 => ?_) (fun h64_2802 => ?_)
        · (rw [show M2801_0 = M from ((e_M2801_0.trans (if_neg h55_2801)).trans (if_pos h64_2802))] at j82_2801; exact j82_2801)
        · refine r_aload_n e_X2_kickOff_67 rfl ?_
          refine r_getR e_X2_kickOff_68 fl_X2_20 k0 k1 ?_
          refine r_iload_n e_X2_kickOff_71 rfl ?_
          refine r_aaload (b := (a + 10 + 2 * i28)) e_X2_kickOff_72 k2 ⟨by decide, by decide⟩ (vp_in_nI (Nat.lt_of_lt_of_le hlt_i28 (by decide)) (by decide)) (by rw [hcl_i28]; exact (hb1.2.2.2.2.2.2.2.2.1 i28 (Nat.lt_of_lt_of_le hlt_i28 (by decide))).1) ?_
          refine r_aload_n e_X2_kickOff_73 rfl ?_
          refine r_getR e_X2_kickOff_74 fl_X2_52 k0 k3 ?_
          refine r_iload_n e_X2_kickOff_77 rfl ?_
          refine r_aaload (b := (106 + 4 * v2800_0.toNatClampNeg)) e_X2_kickOff_78 k4 ⟨by decide, by decide⟩ (vp_guard h55_2801 h64_2802 (by decide)) (hb1.2.2.2.2.2.2.2.2.2.2.2.2.2.2.2 v2800_0.toNatClampNeg (vp_lt (vp_guard h55_2801 h64_2802 (by decide)))).1 ?_
          refine cV1u e_X2_kickOff_79 cl_X2_97 ⟨Nat.le_of_ble_eq_true rfl, Nat.le_of_ble_eq_true rfl⟩ ⟨rfl, rfl⟩ (show kd sh (a + 10 + 2 * i28) = some (5 + 7, 0) from (hb1.2.2.2.2.2.2.2.2.1 i28 (Nat.lt_of_lt_of_le hlt_i28 (by decide))).2.1) (Nat.le_of_ble_eq_true rfl) (S_X5_join (hb1.2.2.2.2.2.2.2.2.1 i28 (Nat.lt_of_lt_of_le hlt_i28 (by decide))).2 (hb1.2.2.2.2.2.2.2.2.2.2.2.2.2.2.2 v2800_0.toNatClampNeg (vp_lt (vp_guard h55_2801 h64_2802 (by decide)))).2) ?_
          (rw [show M2801_0 = U_X5_join (a + 10 + 2 * i28) (106 + 4 * v2800_0.toNatClampNeg) M from ((e_M2801_0.trans (if_neg h55_2801)).trans (if_neg h64_2802))] at j82_2801; exact j82_2801)
    refine r_aload_n e_X2_kickOff_82 rfl ?_
    refine r_iload_n e_X2_kickOff_83 rfl ?_
    refine cV1u e_X2_kickOff_84 cl_X2_101 ⟨Nat.le_of_ble_eq_true rfl, Nat.le_of_ble_eq_true rfl⟩ ⟨rfl, rfl⟩ k0 (Nat.le_of_ble_eq_true rfl) (S_X2_putAtStart hb1) ?_
    refine p_iinc_3_1 e_X2_kickOff_87 rfl ic_1 rfl ?_
    rw [nI_1 i28]
    refine r_goto e_X2_kickOff_90 ?_
    refine d_3_2 ?_
    (subst e_M2801_0 e_v2800_0; simp only [F_X2_kickOff_28] at hq; first | exact ih (i28 + 1) _ (by omega) hq | (simp only []; exact ih (i28 + 1) _ (by omega) hq))
def F_X2_kickOff_106 (a : Nat) : Nat → Nat → Mem → Mem
  | 0, i106, M => M
  | n + 1, i106, M => (F_X2_kickOff_106 a n (i106 + 1) (U_X5_see (a + 10 + 2 * i106) (M.1 (a + 4) 0) (M.1 (a + 4) 1) M))
theorem L_X2_kickOff_106 {sh : List SC} {Q : Po} {a : Nat}    (hb1 : MatchAt sh a)   : ∀ (n i106 : Nat) (M : Mem), i106 + n = 10 → WP m_X2_kickOff Q 144 [some (.ref a), none, none] [] sh (F_X2_kickOff_106 a n i106 M) 0 0 → WP m_X2_kickOff Q 106 [some (.ref a), some (.int (nI i106)), none] [] sh M 0 0 := by
  have k0 : kd sh a = some (2 + 7, 0) := hb1.1
  have k1 : rf sh a 3 = some (a + 3) := hb1.2.2.2.2.1
  have k2 : kd sh (a + 3) = some (6, 10) := hb1.2.2.2.2.2.2.2.1
  have k3 : rf sh a 4 = some (a + 4) := hb1.2.2.2.2.2.1
  have k4 : kd sh (a + 4) = some (0 + 7, 0) := hb1.2.2.2.2.2.2.2.2.2.1.1
  intro n
  induction n with
  | zero =>
    intro i106 M hi hq
    have hz : (10 : Int32) ≤ nI i106 := by
      have q : i106 = 10 := by omega
      rw [q]; exact nI_le (Nat.le_refl _) (by decide)
    refine r_iload_n e_X2_kickOff_106 rfl ?_
    refine r_aload_n e_X2_kickOff_107 rfl ?_
    refine r_getR e_X2_kickOff_108 fl_X2_20 k0 k1 ?_
    refine r_alen (v := (10 : Int32)) e_X2_kickOff_111 k2 (by decide) rfl ?_
    refine r_icmp_ge e_X2_kickOff_112 (fun _ => ?_) (fun hh => absurd hz hh)
    refine d_3_1 ?_
    (simp only [F_X2_kickOff_106] at hq; first | exact hq | (simp only []; exact hq))
  | succ n ih =>
    intro i106 M hi hq
    have hlt_i106 : i106 < 10 := by omega
    have hcl_i106 : (nI i106).toNatClampNeg = i106 := nI_clamp (by omega)
    have hs : ¬ (10 : Int32) ≤ nI i106 := nI_ge (b := 10) hlt_i106 (by decide)
    refine r_iload_n e_X2_kickOff_106 rfl ?_
    refine r_aload_n e_X2_kickOff_107 rfl ?_
    refine r_getR e_X2_kickOff_108 fl_X2_20 k0 k1 ?_
    refine r_alen (v := (10 : Int32)) e_X2_kickOff_111 k2 (by decide) rfl ?_
    refine r_icmp_ge e_X2_kickOff_112 (fun hh => absurd hh hs) (fun _ => ?_)
    refine r_aload_n e_X2_kickOff_115 rfl ?_
    refine r_getR e_X2_kickOff_116 fl_X2_20 k0 k1 ?_
    refine r_iload_n e_X2_kickOff_119 rfl ?_
    refine r_aaload (b := (a + 10 + 2 * i106)) e_X2_kickOff_120 k2 ⟨by decide, by decide⟩ (vp_in_nI (Nat.lt_of_lt_of_le hlt_i106 (by decide)) (by decide)) (by rw [hcl_i106]; exact (hb1.2.2.2.2.2.2.2.2.1 i106 (Nat.lt_of_lt_of_le hlt_i106 (by decide))).1) ?_
    refine r_aload_n e_X2_kickOff_121 rfl ?_
    refine r_getR e_X2_kickOff_122 fl_X2_27 k0 k3 ?_
    refine r_getI e_X2_kickOff_125 fl_X2_110 i0 k4 ?_
    refine r_aload_n e_X2_kickOff_128 rfl ?_
    refine r_getR e_X2_kickOff_129 fl_X2_27 k0 k3 ?_
    refine r_getI e_X2_kickOff_132 fl_X2_113 i0 k4 ?_
    refine cV2u e_X2_kickOff_135 cl_X2_116 ⟨Nat.le_of_ble_eq_true rfl, Nat.le_of_ble_eq_true rfl⟩ ⟨rfl, rfl⟩ (show kd sh (a + 10 + 2 * i106) = some (5 + 7, 0) from (hb1.2.2.2.2.2.2.2.2.1 i106 (Nat.lt_of_lt_of_le hlt_i106 (by decide))).2.1) (Nat.le_of_ble_eq_true rfl) (S_X5_see (hb1.2.2.2.2.2.2.2.2.1 i106 (Nat.lt_of_lt_of_le hlt_i106 (by decide))).2) ?_
    refine p_iinc_3_1 e_X2_kickOff_138 rfl ic_1 rfl ?_
    rw [nI_1 i106]
    refine r_goto e_X2_kickOff_141 ?_
    (simp only [F_X2_kickOff_106] at hq; first | exact ih (i106 + 1) _ (by omega) hq | (simp only []; exact ih (i106 + 1) _ (by omega) hq))
def U_X2_kickOff (a : Nat) (M : Mem) : Mem := (F_X2_kickOff_106 a 10 0 (U_X0_forget (a + 4) (U_X2_putBall a (F_X2_kickOff_28 a 10 0 (F_X2_kickOff_2 a 10 0 M)))))
theorem S_X2_kickOff {sh : List SC} {M : Mem} {a : Nat}  (hb1 : MatchAt sh a)  : Gu m_X2_kickOff [.ref a] sh M (U_X2_kickOff a M) := by
  refine Sp.of (ls := [some (.ref a), none, none]) (by decide +kernel) (Nat.le_of_ble_eq_true rfl) rfl ?_
  have k0 : kd sh a = some (2 + 7, 0) := hb1.1
  have k1 : rf sh a 4 = some (a + 4) := hb1.2.2.2.2.2.1
  have k2 : kd sh (a + 4) = some (0 + 7, 0) := hb1.2.2.2.2.2.2.2.2.2.1.1
  refine r_iconst e_X2_kickOff_0 ic_0 ?_
  refine p_istore_n_3_1 e_X2_kickOff_1 rfl rfl ?_
  skip
  show WP m_X2_kickOff _ 2 [some (.ref a), some (.int (nI 0)), none] [] sh M 0 0
  refine L_X2_kickOff_2 hb1 10 0  M (by omega) ?_
  refine r_iconst e_X2_kickOff_26 ic_0 ?_
  refine p_istore_n_3_1 e_X2_kickOff_27 rfl rfl ?_
  skip
  show WP m_X2_kickOff _ 28 [some (.ref a), some (.int (nI 0)), none] [] sh (F_X2_kickOff_2 a 10 0 M) 0 0
  refine L_X2_kickOff_28 hb1 10 0  (F_X2_kickOff_2 a 10 0 M) (by omega) ?_
  refine r_aload_n e_X2_kickOff_93 rfl ?_
  refine cV0u e_X2_kickOff_94 cl_X2_104 ⟨Nat.le_of_ble_eq_true rfl, Nat.le_of_ble_eq_true rfl⟩ ⟨rfl, rfl⟩ k0 (Nat.le_of_ble_eq_true rfl) (S_X2_putBall hb1) ?_
  refine r_aload_n e_X2_kickOff_97 rfl ?_
  refine r_getR e_X2_kickOff_98 fl_X2_27 k0 k1 ?_
  refine cV0u e_X2_kickOff_101 cl_X2_107 ⟨Nat.le_of_ble_eq_true rfl, Nat.le_of_ble_eq_true rfl⟩ ⟨rfl, rfl⟩ k2 (Nat.le_of_ble_eq_true rfl) (S_X0_forget hb1.2.2.2.2.2.2.2.2.2.1) ?_
  refine r_iconst e_X2_kickOff_104 ic_0 ?_
  refine p_istore_n_3_1 e_X2_kickOff_105 rfl rfl ?_
  skip
  show WP m_X2_kickOff _ 106 [some (.ref a), some (.int (nI 0)), none] [] sh (U_X0_forget (a + 4) (U_X2_putBall a (F_X2_kickOff_28 a 10 0 (F_X2_kickOff_2 a 10 0 M)))) 0 0
  refine L_X2_kickOff_106 hb1 10 0  (U_X0_forget (a + 4) (U_X2_putBall a (F_X2_kickOff_28 a 10 0 (F_X2_kickOff_2 a 10 0 M)))) (by omega) ?_
  refine r_return e_X2_kickOff_144 rfl ⟨rfl, rfl⟩ ?_
  (refine ⟨?_, rfl, ?_⟩ <;> ((try unfold U_X2_kickOff); (try simp only []); (try rfl)))
def F_X6_run_43 (a : Nat) (x1 : Nat) (x2 : Nat) (w4 : Int32) : Nat → Int32 → Int32 → Mem → Int32 × Int32 × Mem
  | 0, u3, u5, M => (u3, u5, M)
  | n + 1, u3, u5, M => if w4 ≤ u5 then (u3, u5, M) else (if (80 : Int32) < (M.1 a 1) then (u3, u5, M) else (if u3 = 0 then (let v4303_0 : Int32 := if (V_X6_allHold a x1 u5 (x2 + 1) 4 M) = 0 then u3 else (V_X6_doActs a x1 u5 x2 (U_X6_allHold a x1 u5 (x2 + 1) 4 M)); let M4303_1 : Mem := if (V_X6_allHold a x1 u5 (x2 + 1) 4 M) = 0 then (U_X6_allHold a x1 u5 (x2 + 1) 4 M) else (U_X6_doActs a x1 u5 x2 (U_X6_allHold a x1 u5 (x2 + 1) 4 M)); (F_X6_run_43 a x1 x2 w4 n v4303_0 (u5 + 1) M4303_1)) else (u3, u5, M)))
def T_X6_run_43 (a : Nat) (x1 : Nat) (x2 : Nat) (w4 : Int32) : Nat → Int32 → Int32 → Mem → Prop
  | 0, u3, u5, M => False
  | n + 1, u3, u5, M => (P_X6_allHold a x1 u5 (x2 + 1) 4 M) ∧ (P_X6_doActs a x1 u5 x2 (U_X6_allHold a x1 u5 (x2 + 1) 4 M)) ∧ (if w4 ≤ u5 then True else (if (80 : Int32) < (M.1 a 1) then True else (if u3 = 0 then (let v4303_0 : Int32 := if (V_X6_allHold a x1 u5 (x2 + 1) 4 M) = 0 then u3 else (V_X6_doActs a x1 u5 x2 (U_X6_allHold a x1 u5 (x2 + 1) 4 M)); let M4303_1 : Mem := if (V_X6_allHold a x1 u5 (x2 + 1) 4 M) = 0 then (U_X6_allHold a x1 u5 (x2 + 1) 4 M) else (U_X6_doActs a x1 u5 x2 (U_X6_allHold a x1 u5 (x2 + 1) 4 M)); (T_X6_run_43 a x1 x2 w4 n v4303_0 (u5 + 1) M4303_1)) else True)))
theorem L_X6_run_43 {sh : List SC} {Q : Po} {a : Nat} {x1 : Nat} {x2 : Nat}  {w4 : Int32}  (hb1 : RunnerAt sh a) (hb2 : ProgramAt sh x1) (hb3 : RobotAt sh x2)   : ∀ (n : Nat) (u3 : Int32) (u5 : Int32) (M : Mem), T_X6_run_43 a x1 x2 w4 n u3 u5 M → WP m_X6_run Q 92 [some (.ref a), some (.ref x1), some (.ref x2), some (.int ((F_X6_run_43 a x1 x2 w4 n u3 u5 M).1)), some (.int w4), some (.int ((F_X6_run_43 a x1 x2 w4 n u3 u5 M).2.1))] [] sh ((F_X6_run_43 a x1 x2 w4 n u3 u5 M).2.2) 0 0 → WP m_X6_run Q 43 [some (.ref a), some (.ref x1), some (.ref x2), some (.int u3), some (.int w4), some (.int u5)] [] sh M 0 0 := by
  have k0 : kd sh a = some (6 + 7, 0) := hb1.1
  have k1 : kd sh x2 = some (5 + 7, 0) := hb3.1
  have k2 : rf sh x2 9 = some (x2 + 1) := hb3.2.1
  have k3 : kd sh (x2 + 1) = some (0, 4) := hb3.2.2
  intro n
  induction n with
  | zero =>
    intro u3 u5 M hH hq
    exact hH.elim
  | succ n ih =>
    intro u3 u5 M hH hq
    unfold T_X6_run_43 at hH
    obtain ⟨g1, g2, hH⟩ := hH
    refine r_iload e_X6_run_43 rfl ?_
    refine r_iload e_X6_run_45 rfl ?_
    refine r_icmp_ge e_X6_run_47 (fun h47_4300 => ?_) (fun h47_4300 => ?_)
    · (simp only [F_X6_run_43, if_pos h47_4300] at hq; first | exact hq | (simp only [if_pos h47_4300]; exact hq))
    · refine r_aload_n e_X6_run_50 rfl ?_
      refine r_getI e_X6_run_51 fl_X6_15 i0 k0 ?_
      refine r_bipush e_X6_run_54 bp_80 ?_
      refine r_icmp_gt e_X6_run_56 (fun h56_4301 => ?_) (fun h56_4301 => ?_)
      · (simp only [F_X6_run_43, if_neg h47_4300, if_pos h56_4301] at hq; first | exact hq | (simp only [if_neg h47_4300, if_pos h56_4301]; exact hq))
      · refine r_iload_n e_X6_run_59 rfl ?_
        refine r_if_ne e_X6_run_60 (fun h60_4302 => ?_) (fun h60_4302 => ?_)
        · (simp only [F_X6_run_43, if_neg h47_4300, if_neg h56_4301, if_neg h60_4302] at hq; first | exact hq | (simp only [if_neg h47_4300, if_neg h56_4301, if_neg h60_4302]; exact hq))
        · refine r_aload_n e_X6_run_63 rfl ?_
          refine r_aload_n e_X6_run_64 rfl ?_
          refine r_iload e_X6_run_65 rfl ?_
          refine r_aload_n e_X6_run_67 rfl ?_
          refine r_getR e_X6_run_68 fl_X6_36 k1 k2 ?_
          refine cV3v e_X6_run_71 cl_X6_39 ⟨Nat.le_of_ble_eq_true rfl, Nat.le_of_ble_eq_true rfl⟩ ⟨rfl, rfl⟩ k0 (Nat.le_of_ble_eq_true rfl) (S_X6_allHold hb1 hb2 k3 g1) ?_
          obtain ⟨v4303_0, e_v4303_0⟩ : ∃ z : Int32, z = (if (V_X6_allHold a x1 u5 (x2 + 1) 4 M) = 0 then u3 else (V_X6_doActs a x1 u5 x2 (U_X6_allHold a x1 u5 (x2 + 1) 4 M))) := ⟨_, rfl⟩
          obtain ⟨M4303_1, e_M4303_1⟩ : ∃ z : Mem, z = (if (V_X6_allHold a x1 u5 (x2 + 1) 4 M) = 0 then (U_X6_allHold a x1 u5 (x2 + 1) 4 M) else (U_X6_doActs a x1 u5 x2 (U_X6_allHold a x1 u5 (x2 + 1) 4 M))) := ⟨_, rfl⟩
          suffices j86_4303 : WP m_X6_run Q 86 [some (.ref a), some (.ref x1), some (.ref x2), some (.int v4303_0), some (.int w4), some (.int u5)] [] sh M4303_1 0 0 by
            refine r_if_eq e_X6_run_74 (fun h74_4303 => ?_) (fun h74_4303 => ?_)
            · (rw [show v4303_0 = u3 from (e_v4303_0.trans (if_pos h74_4303)), show M4303_1 = U_X6_allHold a x1 u5 (x2 + 1) 4 M from (e_M4303_1.trans (if_pos h74_4303))] at j86_4303; exact j86_4303)
            · refine r_aload_n e_X6_run_77 rfl ?_
              refine r_aload_n e_X6_run_78 rfl ?_
              refine r_iload e_X6_run_79 rfl ?_
              refine r_aload_n e_X6_run_81 rfl ?_
              refine cV3v e_X6_run_82 cl_X6_43 ⟨Nat.le_of_ble_eq_true rfl, Nat.le_of_ble_eq_true rfl⟩ ⟨rfl, rfl⟩ k0 (Nat.le_of_ble_eq_true rfl) (S_X6_doActs hb1 hb2 hb3 g2) ?_
              refine p_istore_n_6_3 e_X6_run_85 rfl rfl ?_
              (rw [show v4303_0 = (V_X6_doActs a x1 u5 x2 (U_X6_allHold a x1 u5 (x2 + 1) 4 M)) from (e_v4303_0.trans (if_neg h74_4303)), show M4303_1 = U_X6_doActs a x1 u5 x2 (U_X6_allHold a x1 u5 (x2 + 1) 4 M) from (e_M4303_1.trans (if_neg h74_4303))] at j86_4303; exact j86_4303)
          refine p_iinc_6_5 e_X6_run_86 rfl ic_1 rfl ?_
          refine r_goto e_X6_run_89 ?_
          (subst e_M4303_1 e_v4303_0; simp only [F_X6_run_43, if_neg h47_4300, if_neg h56_4301, if_pos h60_4302] at hq; (try simp only [if_neg h47_4300, if_neg h56_4301, if_pos h60_4302] at hH); first | exact ih _ _ _ hH hq | (simp only [if_neg h47_4300, if_neg h56_4301, if_pos h60_4302]; exact ih _ _ _ hH hq))
def V_X6_run (a : Nat) (x1 : Nat) (x2 : Nat) (M : Mem) : Int32 := if (((F_X6_run_43 a x1 x2 (V_X10_at (x1 + 2) ((M.1 x2 7) + (1 : Int32)) 9 (setI (setI M a 1 (0 : Int32)) a 2 (M.1 x2 7))) FUEL (0 : Int32) (V_X10_at (x1 + 2) (M.1 x2 7) 9 (setI (setI M a 1 (0 : Int32)) a 2 (M.1 x2 7))) (setI (setI M a 1 (0 : Int32)) a 2 (M.1 x2 7))).2.2).1 a 1) ≤ (80 : Int32) then (0 : Int32) else (let Mc1 : Mem := U_X5_decide x2 (0 : Int32) (0 : Int32) (0 : Int32) (0 : Int32) ((F_X6_run_43 a x1 x2 (V_X10_at (x1 + 2) ((M.1 x2 7) + (1 : Int32)) 9 (setI (setI M a 1 (0 : Int32)) a 2 (M.1 x2 7))) FUEL (0 : Int32) (V_X10_at (x1 + 2) (M.1 x2 7) 9 (setI (setI M a 1 (0 : Int32)) a 2 (M.1 x2 7))) (setI (setI M a 1 (0 : Int32)) a 2 (M.1 x2 7))).2.2); (1 : Int32))
theorem Z_X6_run {M : Mem} {a : Nat} {x1 : Nat} {x2 : Nat}   : V_X6_run a x1 x2 M = 0 ∨ V_X6_run a x1 x2 M = 1 := (zi (Or.inl rfl) (Or.inr rfl))
def U_X6_run (a : Nat) (x1 : Nat) (x2 : Nat) (M : Mem) : Mem := if (((F_X6_run_43 a x1 x2 (V_X10_at (x1 + 2) ((M.1 x2 7) + (1 : Int32)) 9 (setI (setI M a 1 (0 : Int32)) a 2 (M.1 x2 7))) FUEL (0 : Int32) (V_X10_at (x1 + 2) (M.1 x2 7) 9 (setI (setI M a 1 (0 : Int32)) a 2 (M.1 x2 7))) (setI (setI M a 1 (0 : Int32)) a 2 (M.1 x2 7))).2.2).1 a 1) ≤ (80 : Int32) then (setI ((F_X6_run_43 a x1 x2 (V_X10_at (x1 + 2) ((M.1 x2 7) + (1 : Int32)) 9 (setI (setI M a 1 (0 : Int32)) a 2 (M.1 x2 7))) FUEL (0 : Int32) (V_X10_at (x1 + 2) (M.1 x2 7) 9 (setI (setI M a 1 (0 : Int32)) a 2 (M.1 x2 7))) (setI (setI M a 1 (0 : Int32)) a 2 (M.1 x2 7))).2.2) x2 7 (((F_X6_run_43 a x1 x2 (V_X10_at (x1 + 2) ((M.1 x2 7) + (1 : Int32)) 9 (setI (setI M a 1 (0 : Int32)) a 2 (M.1 x2 7))) FUEL (0 : Int32) (V_X10_at (x1 + 2) (M.1 x2 7) 9 (setI (setI M a 1 (0 : Int32)) a 2 (M.1 x2 7))) (setI (setI M a 1 (0 : Int32)) a 2 (M.1 x2 7))).2.2).1 a 2)) else (let Mc1 : Mem := U_X5_decide x2 (0 : Int32) (0 : Int32) (0 : Int32) (0 : Int32) ((F_X6_run_43 a x1 x2 (V_X10_at (x1 + 2) ((M.1 x2 7) + (1 : Int32)) 9 (setI (setI M a 1 (0 : Int32)) a 2 (M.1 x2 7))) FUEL (0 : Int32) (V_X10_at (x1 + 2) (M.1 x2 7) 9 (setI (setI M a 1 (0 : Int32)) a 2 (M.1 x2 7))) (setI (setI M a 1 (0 : Int32)) a 2 (M.1 x2 7))).2.2); setI Mc1 x2 8 (1 : Int32))
def P_X6_run (a : Nat) (x1 : Nat) (x2 : Nat) (M : Mem) : Prop := (T_X6_run_43 a x1 x2 (V_X10_at (x1 + 2) ((M.1 x2 7) + (1 : Int32)) 9 (setI (setI M a 1 (0 : Int32)) a 2 (M.1 x2 7))) FUEL (0 : Int32) (V_X10_at (x1 + 2) (M.1 x2 7) 9 (setI (setI M a 1 (0 : Int32)) a 2 (M.1 x2 7))) (setI (setI M a 1 (0 : Int32)) a 2 (M.1 x2 7)))
theorem S_X6_run {sh : List SC} {M : Mem} {a : Nat} {x1 : Nat} {x2 : Nat}  (hb1 : RunnerAt sh a) (hb2 : ProgramAt sh x1) (hb3 : RobotAt sh x2)  (hP : P_X6_run a x1 x2 M) : Gv m_X6_run [.ref a, .ref x1, .ref x2] sh M (.int (V_X6_run a x1 x2 M)) (U_X6_run a x1 x2 M) := by
  refine Sp.of (ls := [some (.ref a), some (.ref x1), some (.ref x2), none, none, none]) (by decide +kernel) (Nat.le_of_ble_eq_true rfl) rfl ?_
  have g1 : T_X6_run_43 a x1 x2 (V_X10_at (x1 + 2) ((M.1 x2 7) + (1 : Int32)) 9 (setI (setI M a 1 (0 : Int32)) a 2 (M.1 x2 7))) FUEL (0 : Int32) (V_X10_at (x1 + 2) (M.1 x2 7) 9 (setI (setI M a 1 (0 : Int32)) a 2 (M.1 x2 7))) (setI (setI M a 1 (0 : Int32)) a 2 (M.1 x2 7)) := hP
  have k0 : kd sh a = some (6 + 7, 0) := hb1.1
  have k1 : kd sh x2 = some (5 + 7, 0) := hb3.1
  have k2 : kd sh x1 = some (3 + 7, 0) := hb2.1
  have k3 : rf sh x1 2 = some (x1 + 2) := hb2.2.2.1
  have k4 : kd sh (x1 + 2) = some (0, 9) := hb2.2.2.2.2.2.2.2.2.2.2.2.2.2.2.2.2.1
  refine r_aload_n e_X6_run_0 rfl ?_
  refine r_iconst e_X6_run_1 ic_0 ?_
  refine r_putI e_X6_run_2 fl_X6_15 k0 ?_
  refine r_aload_n e_X6_run_5 rfl ?_
  refine r_aload_n e_X6_run_6 rfl ?_
  refine r_getIe e_X6_run_7 fl_X6_22 i0 k1 (gs_nI (by decide)) ?_
  refine r_putI e_X6_run_10 fl_X6_19 k0 ?_
  refine r_iconst e_X6_run_13 ic_0 ?_
  refine p_istore_n_6_3 e_X6_run_14 rfl rfl ?_
  refine r_aload_n e_X6_run_15 rfl ?_
  refine r_getR e_X6_run_16 fl_X6_27 k2 k3 ?_
  refine r_aload_n e_X6_run_19 rfl ?_
  refine r_getIe e_X6_run_20 fl_X6_22 i0 k1 ((gs_nI (by decide)).trans (gs_nI (by decide))) ?_
  refine r_iconst e_X6_run_23 ic_1 ?_
  refine r_iadd e_X6_run_24 ?_
  refine cSN2v e_X6_run_25 cl_X6_32 ⟨Nat.le_of_ble_eq_true rfl, Nat.le_of_ble_eq_true rfl⟩ ⟨rfl, rfl⟩  (Nat.le_of_ble_eq_true rfl) (S_X10_at k4 (by first | decide | (unfold vp_in; decide) | exact Or.inl rfl | exact Or.inr rfl)) ?_
  refine p_istore_6_4 e_X6_run_28 rfl rfl ?_
  refine r_aload_n e_X6_run_30 rfl ?_
  refine r_getR e_X6_run_31 fl_X6_27 k2 k3 ?_
  refine r_aload_n e_X6_run_34 rfl ?_
  refine r_getIe e_X6_run_35 fl_X6_22 i0 k1 ((gs_nI (by decide)).trans (gs_nI (by decide))) ?_
  refine cSN2v e_X6_run_38 cl_X6_32 ⟨Nat.le_of_ble_eq_true rfl, Nat.le_of_ble_eq_true rfl⟩ ⟨rfl, rfl⟩  (Nat.le_of_ble_eq_true rfl) (S_X10_at k4 (by first | decide | (unfold vp_in; decide) | exact Or.inl rfl | exact Or.inr rfl)) ?_
  refine p_istore_6_5 e_X6_run_41 rfl rfl ?_
  refine L_X6_run_43 hb1 hb2 hb3 FUEL (0 : Int32) (V_X10_at (x1 + 2) (M.1 x2 7) 9 (setI (setI M a 1 (0 : Int32)) a 2 (M.1 x2 7))) (setI (setI M a 1 (0 : Int32)) a 2 (M.1 x2 7)) g1 ?_
  refine r_aload_n e_X6_run_92 rfl ?_
  refine r_getI e_X6_run_93 fl_X6_15 i0 k0 ?_
  refine r_bipush e_X6_run_96 bp_80 ?_
  refine r_icmp_le e_X6_run_98 (fun h98_0 => ?_) (fun h98_0 => ?_)
  · refine r_aload_n e_X6_run_116 rfl ?_
    refine r_aload_n e_X6_run_117 rfl ?_
    refine r_getI e_X6_run_118 fl_X6_19 i0 k0 ?_
    refine r_putI e_X6_run_121 fl_X6_22 k1 ?_
    refine r_iconst e_X6_run_124 ic_0 ?_
    refine r_zreturn e_X6_run_125 rfl ⟨rfl, rfl⟩ (by first | exact Or.inl rfl | exact Or.inr rfl) ?_
    (refine ⟨?_, rfl, ?_⟩ <;> ((try unfold V_X6_run); (try unfold U_X6_run); (try simp only [if_pos h98_0]); (try rfl)))
  · refine r_aload_n e_X6_run_101 rfl ?_
    refine r_iconst e_X6_run_102 ic_0 ?_
    refine r_iconst e_X6_run_103 ic_0 ?_
    refine r_iconst e_X6_run_104 ic_0 ?_
    refine r_iconst e_X6_run_105 ic_0 ?_
    refine cV4u e_X6_run_106 cl_X6_47 ⟨Nat.le_of_ble_eq_true rfl, Nat.le_of_ble_eq_true rfl⟩ ⟨rfl, rfl⟩ k1 (Nat.le_of_ble_eq_true rfl) (S_X5_decide hb3) ?_
    obtain ⟨Mc1, e_Mc1⟩ : ∃ z : Mem, z = (U_X5_decide x2 (0 : Int32) (0 : Int32) (0 : Int32) (0 : Int32) ((F_X6_run_43 a x1 x2 (V_X10_at (x1 + 2) ((M.1 x2 7) + (1 : Int32)) 9 (setI (setI M a 1 (0 : Int32)) a 2 (M.1 x2 7))) FUEL (0 : Int32) (V_X10_at (x1 + 2) (M.1 x2 7) 9 (setI (setI M a 1 (0 : Int32)) a 2 (M.1 x2 7))) (setI (setI M a 1 (0 : Int32)) a 2 (M.1 x2 7))).2.2)) := ⟨_, rfl⟩
    rw [← e_Mc1]
    refine r_aload_n e_X6_run_109 rfl ?_
    refine r_iconst e_X6_run_110 ic_1 ?_
    refine r_putZ e_X6_run_111 fl_X6_51 (by first | exact Or.inl rfl | exact Or.inr rfl) k1 ?_
    refine r_iconst e_X6_run_114 ic_1 ?_
    refine r_zreturn e_X6_run_115 rfl ⟨rfl, rfl⟩ (by first | exact Or.inl rfl | exact Or.inr rfl) ?_
    (subst e_Mc1; refine ⟨?_, rfl, ?_⟩ <;> ((try unfold V_X6_run); (try unfold U_X6_run); (try simp only [if_neg h98_0]); (try rfl)))
