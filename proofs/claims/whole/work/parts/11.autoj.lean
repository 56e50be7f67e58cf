def V_X11_keepWord (M : Mem) : Int32 := (let Mc1 : Mem := U_X11_word  (setI (setI (setI M 244 (((800 : Int32) * (M.1 242 8)) + (M.1 242 11)).toNatClampNeg (M.1 242 5)) 245 (((800 : Int32) * (M.1 242 8)) + (M.1 242 11)).toNatClampNeg (M.1 242 6)) 242 11 ((M.1 242 11) + (1 : Int32))); (1 : Int32))
theorem Z_X11_keepWord {M : Mem}    : V_X11_keepWord  M = 0 ∨ V_X11_keepWord  M = 1 := (Or.inr rfl)
def U_X11_keepWord (M : Mem) : Mem := (let Mc1 : Mem := U_X11_word  (setI (setI (setI M 244 (((800 : Int32) * (M.1 242 8)) + (M.1 242 11)).toNatClampNeg (M.1 242 5)) 245 (((800 : Int32) * (M.1 242 8)) + (M.1 242 11)).toNatClampNeg (M.1 242 6)) 242 11 ((M.1 242 11) + (1 : Int32))); Mc1)
def P_X11_keepWord (M : Mem) : Prop := (P_X11_word  (setI (setI (setI M 244 (((800 : Int32) * (M.1 242 8)) + (M.1 242 11)).toNatClampNeg (M.1 242 5)) 245 (((800 : Int32) * (M.1 242 8)) + (M.1 242 11)).toNatClampNeg (M.1 242 6)) 242 11 ((M.1 242 11) + (1 : Int32))))
theorem S_X11_keepWord {sh : List SC} {M : Mem}  {mA : Nat} {oA : Nat} (hb1 : ModelAt sh mA oA) (g1 : vp_in (((800 : Int32) * (M.1 242 8)) + (M.1 242 11)) 4800) (hP : P_X11_keepWord  M) : Gv m_X11_keepWord [.ref 242] sh M (.int (V_X11_keepWord  M)) (U_X11_keepWord  M) := by
  refine Sp.of (ls := [some (.ref 242)]) (by decide +kernel) (Nat.le_of_ble_eq_true rfl) rfl ?_
  have g2 : P_X11_word  (setI (setI (setI M 244 (((800 : Int32) * (M.1 242 8)) + (M.1 242 11)).toNatClampNeg (M.1 242 5)) 245 (((800 : Int32) * (M.1 242 8)) + (M.1 242 11)).toNatClampNeg (M.1 242 6)) 242 11 ((M.1 242 11) + (1 : Int32))) := hP
  have k0 : kd sh 242 = some (10 + 7, 0) := hb1.1
  have k1 : rf sh 242 9 = some 244 := hb1.2.2.1
  have k2 : kd sh 244 = some (0, 4800) := hb1.2.2.2.2.2.2.2.2.2.2.2.2.2.2.2.2.2.2.2.2.2.2.2.2.2.2.2.2.1
  have k3 : rf sh 242 10 = some 245 := hb1.2.2.2.1
  have k4 : kd sh 245 = some (0, 4800) := hb1.2.2.2.2.2.2.2.2.2.2.2.2.2.2.2.2.2.2.2.2.2.2.2.2.2.2.2.2.2.1
  refine r_aload_n e_X11_keepWord_0 rfl ?_
  refine r_getR e_X11_keepWord_1 fl_X11_102 k0 k1 ?_
  refine r_sipush e_X11_keepWord_4 sp_800 ?_
  refine r_aload_n e_X11_keepWord_7 rfl ?_
  refine r_getI e_X11_keepWord_8 fl_X11_105 i0 k0 ?_
  refine r_imul e_X11_keepWord_11 ?_
  refine r_aload_n e_X11_keepWord_12 rfl ?_
  refine r_getI e_X11_keepWord_13 fl_X11_108 i0 k0 ?_
  refine r_iadd e_X11_keepWord_16 ?_
  refine r_aload_n e_X11_keepWord_17 rfl ?_
  refine r_getI e_X11_keepWord_18 fl_X11_28 i0 k0 ?_
  refine r_iastore e_X11_keepWord_21 k2 g1 ?_
  refine r_aload_n e_X11_keepWord_22 rfl ?_
  refine r_getR e_X11_keepWord_23 fl_X11_111 k0 k3 ?_
  refine r_sipush e_X11_keepWord_26 sp_800 ?_
  refine r_aload_n e_X11_keepWord_29 rfl ?_
  refine r_getIe e_X11_keepWord_30 fl_X11_105 i0 k0 (gs_aI (by omega)) ?_
  refine r_imul e_X11_keepWord_33 ?_
  refine r_aload_n e_X11_keepWord_34 rfl ?_
  refine r_getIe e_X11_keepWord_35 fl_X11_108 i0 k0 (gs_aI (by omega)) ?_
  refine r_iadd e_X11_keepWord_38 ?_
  refine r_aload_n e_X11_keepWord_39 rfl ?_
  refine r_getIe e_X11_keepWord_40 fl_X11_21 i0 k0 (gs_aI (by omega)) ?_
  refine r_iastore e_X11_keepWord_43 k4 g1 ?_
  refine r_aload_n e_X11_keepWord_44 rfl ?_
  refine r_dup e_X11_keepWord_45 rfl ?_
  refine r_getIe e_X11_keepWord_46 fl_X11_108 i0 k0 ((gs_aI (by omega)).trans (gs_aI (by omega))) ?_
  refine r_iconst e_X11_keepWord_49 ic_1 ?_
  refine r_iadd e_X11_keepWord_50 ?_
  refine r_putI e_X11_keepWord_51 fl_X11_108 k0 ?_
  refine r_aload_n e_X11_keepWord_54 rfl ?_
  refine cV0u e_X11_keepWord_55 cl_X11_114 ⟨Nat.le_of_ble_eq_true rfl, Nat.le_of_ble_eq_true rfl⟩ ⟨rfl, rfl⟩ k0 (Nat.le_of_ble_eq_true rfl) (S_X11_word hb1 g2) ?_
  obtain ⟨Mc1, e_Mc1⟩ : ∃ z : Mem, z = (U_X11_word  (setI (setI (setI M 244 (((800 : Int32) * (M.1 242 8)) + (M.1 242 11)).toNatClampNeg (M.1 242 5)) 245 (((800 : Int32) * (M.1 242 8)) + (M.1 242 11)).toNatClampNeg (M.1 242 6)) 242 11 ((M.1 242 11) + (1 : Int32)))) := ⟨_, rfl⟩
  rw [← e_Mc1]
  refine r_iconst e_X11_keepWord_58 ic_1 ?_
  refine r_zreturn e_X11_keepWord_59 rfl ⟨rfl, rfl⟩ (by first | exact Or.inl rfl | exact Or.inr rfl) ?_
  (subst e_Mc1; refine ⟨?_, rfl, ?_⟩ <;> ((try unfold V_X11_keepWord); (try unfold U_X11_keepWord); (try simp only []); (try rfl)))
def V_X11_name (x1 : Int32) (M : Mem) : Int32 := if (M.1 242 5) = (1 : Int32) then (let Mc1 : Mem := U_X11_keepWord  (setI (setI (setI (setI (setJ M 249 (M.1 242 15).toNatClampNeg (M.2 242 7)) 250 (M.1 242 15).toNatClampNeg (M.1 242 3)) 251 (M.1 242 15).toNatClampNeg (M.1 242 11)) 252 (M.1 242 15).toNatClampNeg x1) 242 15 ((M.1 242 15) + (1 : Int32))); (V_X11_keepWord  (setI (setI (setI (setI (setJ M 249 (M.1 242 15).toNatClampNeg (M.2 242 7)) 250 (M.1 242 15).toNatClampNeg (M.1 242 3)) 251 (M.1 242 15).toNatClampNeg (M.1 242 11)) 252 (M.1 242 15).toNatClampNeg x1) 242 15 ((M.1 242 15) + (1 : Int32))))) else (V_X11_wrong  M)
theorem Z_X11_name {M : Mem} {x1 : Int32}  (g2 : x1 = 0 ∨ x1 = 1) : V_X11_name x1 M = 0 ∨ V_X11_name x1 M = 1 := (zi Z_X11_keepWord Z_X11_wrong)
def U_X11_name (x1 : Int32) (M : Mem) : Mem := if (M.1 242 5) = (1 : Int32) then (let Mc1 : Mem := U_X11_keepWord  (setI (setI (setI (setI (setJ M 249 (M.1 242 15).toNatClampNeg (M.2 242 7)) 250 (M.1 242 15).toNatClampNeg (M.1 242 3)) 251 (M.1 242 15).toNatClampNeg (M.1 242 11)) 252 (M.1 242 15).toNatClampNeg x1) 242 15 ((M.1 242 15) + (1 : Int32))); Mc1) else (U_X11_wrong  M)
def P_X11_name (x1 : Int32) (M : Mem) : Prop := ((M.1 242 5) = (1 : Int32) → vp_in (M.1 242 15) 800) ∧ ((M.1 242 5) = (1 : Int32) → vp_in (((800 : Int32) * ((setI (setI (setI (setI (setJ M 249 (M.1 242 15).toNatClampNeg (M.2 242 7)) 250 (M.1 242 15).toNatClampNeg (M.1 242 3)) 251 (M.1 242 15).toNatClampNeg (M.1 242 11)) 252 (M.1 242 15).toNatClampNeg x1) 242 15 ((M.1 242 15) + (1 : Int32))).1 242 8)) + ((setI (setI (setI (setI (setJ M 249 (M.1 242 15).toNatClampNeg (M.2 242 7)) 250 (M.1 242 15).toNatClampNeg (M.1 242 3)) 251 (M.1 242 15).toNatClampNeg (M.1 242 11)) 252 (M.1 242 15).toNatClampNeg x1) 242 15 ((M.1 242 15) + (1 : Int32))).1 242 11)) 4800) ∧ ((M.1 242 5) = (1 : Int32) → P_X11_keepWord  (setI (setI (setI (setI (setJ M 249 (M.1 242 15).toNatClampNeg (M.2 242 7)) 250 (M.1 242 15).toNatClampNeg (M.1 242 3)) 251 (M.1 242 15).toNatClampNeg (M.1 242 11)) 252 (M.1 242 15).toNatClampNeg x1) 242 15 ((M.1 242 15) + (1 : Int32))))
theorem S_X11_name {sh : List SC} {M : Mem} {x1 : Int32} {mA : Nat} {oA : Nat} (hb1 : ModelAt sh mA oA) (g2 : x1 = 0 ∨ x1 = 1) (hP : P_X11_name x1 M) : Gv m_X11_name [.ref 242, .int x1] sh M (.int (V_X11_name x1 M)) (U_X11_name x1 M) := by
  refine Sp.of (ls := [some (.ref 242), some (.int x1)]) (by decide +kernel) (Nat.le_of_ble_eq_true rfl) rfl ?_
  obtain ⟨g1, g3, g4⟩ := hP
  have k0 : kd sh 242 = some (10 + 7, 0) := hb1.1
  have k1 : rf sh 242 16 = some 249 := hb1.2.2.2.2.2.2.2.1
  have k2 : kd sh 249 = some (1, 800) := hb1.2.2.2.2.2.2.2.2.2.2.2.2.2.2.2.2.2.2.2.2.2.2.2.2.2.2.2.2.2.2.2.2.2.1
  have k3 : rf sh 242 17 = some 250 := hb1.2.2.2.2.2.2.2.2.1
  have k4 : kd sh 250 = some (0, 800) := hb1.2.2.2.2.2.2.2.2.2.2.2.2.2.2.2.2.2.2.2.2.2.2.2.2.2.2.2.2.2.2.2.2.2.2.1
  have k5 : rf sh 242 18 = some 251 := hb1.2.2.2.2.2.2.2.2.2.1
  have k6 : kd sh 251 = some (0, 800) := hb1.2.2.2.2.2.2.2.2.2.2.2.2.2.2.2.2.2.2.2.2.2.2.2.2.2.2.2.2.2.2.2.2.2.2.2.1
  have k7 : rf sh 242 19 = some 252 := hb1.2.2.2.2.2.2.2.2.2.2.1
  have k8 : kd sh 252 = some (2, 800) := hb1.2.2.2.2.2.2.2.2.2.2.2.2.2.2.2.2.2.2.2.2.2.2.2.2.2.2.2.2.2.2.2.2.2.2.2.2.1
  refine r_aload_n e_X11_name_0 rfl ?_
  refine r_getI e_X11_name_1 fl_X11_28 i0 k0 ?_
  refine r_iconst e_X11_name_4 ic_1 ?_
  refine r_icmp_eq e_X11_name_5 (fun h5_0 => ?_) (fun h5_0 => ?_)
  · refine r_aload_n e_X11_name_13 rfl ?_
    refine r_getR e_X11_name_14 fl_X11_124 k0 k1 ?_
    refine r_aload_n e_X11_name_17 rfl ?_
    refine r_getI e_X11_name_18 fl_X11_128 i0 k0 ?_
    refine r_aload_n e_X11_name_21 rfl ?_
    refine r_getJ e_X11_name_22 fl_X11_24 k0 ?_
    refine r_lastore e_X11_name_25 k2 (g1 h5_0) ?_
    refine r_aload_n e_X11_name_26 rfl ?_
    refine r_getR e_X11_name_27 fl_X11_131 k0 k3 ?_
    refine r_aload_n e_X11_name_30 rfl ?_
    refine r_getIe e_X11_name_31 fl_X11_128 i0 k0 gs_k ?_
    refine r_aload_n e_X11_name_34 rfl ?_
    refine r_getIe e_X11_name_35 fl_X11_18 i0 k0 gs_k ?_
    refine r_iastore e_X11_name_38 k4 (g1 h5_0) ?_
    refine r_aload_n e_X11_name_39 rfl ?_
    refine r_getR e_X11_name_40 fl_X11_134 k0 k5 ?_
    refine r_aload_n e_X11_name_43 rfl ?_
    refine r_getIe e_X11_name_44 fl_X11_128 i0 k0 ((gs_aI (by omega)).trans gs_k) ?_
    refine r_aload_n e_X11_name_47 rfl ?_
    refine r_getIe e_X11_name_48 fl_X11_108 i0 k0 ((gs_aI (by omega)).trans gs_k) ?_
    refine r_iastore e_X11_name_51 k6 (g1 h5_0) ?_
    refine r_aload_n e_X11_name_52 rfl ?_
    refine r_getR e_X11_name_53 fl_X11_137 k0 k7 ?_
    refine r_aload_n e_X11_name_56 rfl ?_
    refine r_getIe e_X11_name_57 fl_X11_128 i0 k0 ((gs_aI (by omega)).trans ((gs_aI (by omega)).trans gs_k)) ?_
    refine r_iload_n e_X11_name_60 rfl ?_
    refine r_zastore e_X11_name_61 k8 (g1 h5_0) g2 ?_
    refine r_aload_n e_X11_name_62 rfl ?_
    refine r_dup e_X11_name_63 rfl ?_
    refine r_getIe e_X11_name_64 fl_X11_128 i0 k0 ((gs_aI (by omega)).trans ((gs_aI (by omega)).trans ((gs_aI (by omega)).trans gs_k))) ?_
    refine r_iconst e_X11_name_67 ic_1 ?_
    refine r_iadd e_X11_name_68 ?_
    refine r_putI e_X11_name_69 fl_X11_128 k0 ?_
    refine r_aload_n e_X11_name_72 rfl ?_
    refine cV0v e_X11_name_73 cl_X11_117 ⟨Nat.le_of_ble_eq_true rfl, Nat.le_of_ble_eq_true rfl⟩ ⟨rfl, rfl⟩ k0 (Nat.le_of_ble_eq_true rfl) (S_X11_keepWord hb1 (g3 h5_0) (g4 h5_0)) ?_
    obtain ⟨Mc1, e_Mc1⟩ : ∃ z : Mem, z = (U_X11_keepWord  (setI (setI (setI (setI (setJ M 249 (M.1 242 15).toNatClampNeg (M.2 242 7)) 250 (M.1 242 15).toNatClampNeg (M.1 242 3)) 251 (M.1 242 15).toNatClampNeg (M.1 242 11)) 252 (M.1 242 15).toNatClampNeg x1) 242 15 ((M.1 242 15) + (1 : Int32)))) := ⟨_, rfl⟩
    rw [← e_Mc1]
    refine r_zreturn e_X11_name_76 rfl ⟨rfl, rfl⟩ (Z_X11_keepWord) ?_
    (subst e_Mc1; refine ⟨?_, rfl, ?_⟩ <;> ((try unfold V_X11_name); (try unfold U_X11_name); (try simp only [if_pos h5_0]); (try rfl)))
  · refine r_aload_n e_X11_name_8 rfl ?_
    refine cV0v e_X11_name_9 cl_X11_121 ⟨Nat.le_of_ble_eq_true rfl, Nat.le_of_ble_eq_true rfl⟩ ⟨rfl, rfl⟩ k0 (Nat.le_of_ble_eq_true rfl) (S_X11_wrong hb1) ?_
    refine r_zreturn e_X11_name_12 rfl ⟨rfl, rfl⟩ (Z_X11_wrong) ?_
    (refine ⟨?_, rfl, ?_⟩ <;> ((try unfold V_X11_name); (try unfold U_X11_name); (try simp only [if_neg h5_0]); (try rfl)))
def V_X11_is (x1 : Int32) (M : Mem) : Int32 := (let v0_0 : Int32 := if (M.1 242 5) = x1 then (V_X11_keepWord  M) else (V_X11_wrong  M); let M0_1 : Mem := if (M.1 242 5) = x1 then (U_X11_keepWord  M) else (U_X11_wrong  M); v0_0)
theorem Z_X11_is {M : Mem} {x1 : Int32}   : V_X11_is x1 M = 0 ∨ V_X11_is x1 M = 1 := (zi Z_X11_keepWord Z_X11_wrong)
def U_X11_is (x1 : Int32) (M : Mem) : Mem := (let v0_0 : Int32 := if (M.1 242 5) = x1 then (V_X11_keepWord  M) else (V_X11_wrong  M); let M0_1 : Mem := if (M.1 242 5) = x1 then (U_X11_keepWord  M) else (U_X11_wrong  M); M0_1)
def P_X11_is (x1 : Int32) (M : Mem) : Prop := ((M.1 242 5) = x1 → vp_in (((800 : Int32) * (M.1 242 8)) + (M.1 242 11)) 4800) ∧ ((M.1 242 5) = x1 → P_X11_keepWord  M)
theorem S_X11_is {sh : List SC} {M : Mem} {x1 : Int32} {mA : Nat} {oA : Nat} (hb1 : ModelAt sh mA oA)  (hP : P_X11_is x1 M) : Gv m_X11_is [.ref 242, .int x1] sh M (.int (V_X11_is x1 M)) (U_X11_is x1 M) := by
  refine Sp.of (ls := [some (.ref 242), some (.int x1)]) (by decide +kernel) (Nat.le_of_ble_eq_true rfl) rfl ?_
  obtain ⟨g1, g2⟩ := hP
  have k0 : kd sh 242 = some (10 + 7, 0) := hb1.1
  refine r_aload_n e_X11_is_0 rfl ?_
  refine r_getI e_X11_is_1 fl_X11_28 i0 k0 ?_
  refine r_iload_n e_X11_is_4 rfl ?_
  obtain ⟨v0_0, e_v0_0⟩ : ∃ z : Int32, z = (if (M.1 242 5) = x1 then (V_X11_keepWord  M) else (V_X11_wrong  M)) := ⟨_, rfl⟩
  have z_v0_0 : v0_0 = 0 ∨ v0_0 = 1 := by rw [e_v0_0]; exact (zi Z_X11_keepWord Z_X11_wrong)
  obtain ⟨M0_1, e_M0_1⟩ : ∃ z : Mem, z = (if (M.1 242 5) = x1 then (U_X11_keepWord  M) else (U_X11_wrong  M)) := ⟨_, rfl⟩
  suffices j19_0 : WP m_X11_is (fun r sh' M'' => r = some (.int (V_X11_is x1 M)) ∧ sh' = sh ∧ M'' = (U_X11_is x1 M)) 19 [some (.ref 242), some (.int x1)] [.int v0_0] sh M0_1 0 0 by
    refine r_icmp_ne e_X11_is_5 (fun h5_0 => ?_) (fun h5_0 => ?_)
    · refine r_aload_n e_X11_is_15 rfl ?_
      refine cV0v e_X11_is_16 cl_X11_121 ⟨Nat.le_of_ble_eq_true rfl, Nat.le_of_ble_eq_true rfl⟩ ⟨rfl, rfl⟩ k0 (Nat.le_of_ble_eq_true rfl) (S_X11_wrong hb1) ?_
      rw [show v0_0 = (V_X11_wrong  M) from (e_v0_0.trans (if_neg h5_0)), show M0_1 = U_X11_wrong  M from (e_M0_1.trans (if_neg h5_0))] at j19_0; exact j19_0
    · refine r_aload_n e_X11_is_8 rfl ?_
      refine cV0v e_X11_is_9 cl_X11_117 ⟨Nat.le_of_ble_eq_true rfl, Nat.le_of_ble_eq_true rfl⟩ ⟨rfl, rfl⟩ k0 (Nat.le_of_ble_eq_true rfl) (S_X11_keepWord hb1 (g1 h5_0) (g2 h5_0)) ?_
      refine r_goto e_X11_is_12 ?_
      rw [show v0_0 = (V_X11_keepWord  M) from (e_v0_0.trans (if_pos h5_0)), show M0_1 = U_X11_keepWord  M from (e_M0_1.trans (if_pos h5_0))] at j19_0; exact j19_0
  refine r_zreturn e_X11_is_19 rfl ⟨rfl, rfl⟩ z_v0_0 ?_
  (subst e_M0_1 e_v0_0; refine ⟨?_, rfl, ?_⟩ <;> ((try unfold V_X11_is); (try unfold U_X11_is); (try simp only []); (try rfl)))
def FV_X11_term_26 : Nat → Int32 → Mem → Int32
  | 0, u1, M => 0
  | n + 1, u1, M => if (M.1 242 5) = (45 : Int32) then (if u1 = (6 : Int32) then (V_X11_wrong  M) else (FV_X11_term_26  n (u1 + 1) (U_X11_keepWord  M))) else (if (M.1 242 5) = (5 : Int32) then (if ((U_X11_keepWord  M).1 242 5) = (2 : Int32) then (if (4 : Int32) < ((U_X11_keepWord  M).1 242 6) then (V_X11_wrong  (U_X11_keepWord  M)) else (V_X11_keepWord  (U_X11_keepWord  M))) else (V_X11_wrong  (U_X11_keepWord  M))) else (if (M.1 242 5) = (2 : Int32) then (V_X11_keepWord  M) else (if (M.1 242 5) = (3 : Int32) then (V_X11_keepWord  M) else (if (M.1 242 5) = (4 : Int32) then (V_X11_keepWord  M) else (V_X11_wrong  M)))))
def FU_X11_term_26 : Nat → Int32 → Mem → Mem
  | 0, u1, M => M
  | n + 1, u1, M => if (M.1 242 5) = (45 : Int32) then (if u1 = (6 : Int32) then (U_X11_wrong  M) else (FU_X11_term_26  n (u1 + 1) (U_X11_keepWord  M))) else (if (M.1 242 5) = (5 : Int32) then (if ((U_X11_keepWord  M).1 242 5) = (2 : Int32) then (if (4 : Int32) < ((U_X11_keepWord  M).1 242 6) then (U_X11_wrong  (U_X11_keepWord  M)) else (U_X11_keepWord  (U_X11_keepWord  M))) else (U_X11_wrong  (U_X11_keepWord  M))) else (if (M.1 242 5) = (2 : Int32) then (U_X11_keepWord  M) else (if (M.1 242 5) = (3 : Int32) then (U_X11_keepWord  M) else (if (M.1 242 5) = (4 : Int32) then (U_X11_keepWord  M) else (U_X11_wrong  M)))))
def T_X11_term_26 : Nat → Int32 → Mem → Prop
  | 0, u1, M => False
  | n + 1, u1, M => (vp_in (((800 : Int32) * (M.1 242 8)) + (M.1 242 11)) 4800) ∧ (P_X11_keepWord  M) ∧ (vp_in (((800 : Int32) * ((U_X11_keepWord  M).1 242 8)) + ((U_X11_keepWord  M).1 242 11)) 4800) ∧ (P_X11_keepWord  (U_X11_keepWord  M)) ∧ ((if (M.1 242 5) = (45 : Int32) then (if u1 = (6 : Int32) then True else (T_X11_term_26  n (u1 + 1) (U_X11_keepWord  M))) else (if (M.1 242 5) = (5 : Int32) then (if ((U_X11_keepWord  M).1 242 5) = (2 : Int32) then (if (4 : Int32) < ((U_X11_keepWord  M).1 242 6) then True else True) else True) else (if (M.1 242 5) = (2 : Int32) then True else (if (M.1 242 5) = (3 : Int32) then True else (if (M.1 242 5) = (4 : Int32) then True else True))))))
theorem L_X11_term_26 {sh : List SC} {Q : Po}  {mA : Nat} {oA : Nat}   (hb1 : ModelAt sh mA oA)   : ∀ (n : Nat) (u1 : Int32) (M : Mem), T_X11_term_26  n u1 M → Q (some (.int (FV_X11_term_26  n u1 M))) sh (FU_X11_term_26  n u1 M) → WP m_X11_term Q 26 [some (.ref 242), some (.int u1)] [] sh M 0 0 := by
  have k0 : kd sh 242 = some (10 + 7, 0) := hb1.1
  intro n
  induction n with
  | zero =>
    intro u1 M hH hq
    exact hH.elim
  | succ n ih =>
    intro u1 M hH hq
    unfold T_X11_term_26 at hH
    obtain ⟨g1, g2, g3, g4, hH⟩ := hH
    refine r_aload_n e_X11_term_26 rfl ?_
    refine r_getI e_X11_term_27 fl_X11_28 i0 k0 ?_
    refine r_bipush e_X11_term_30 bp_45 ?_
    refine r_icmp_ne e_X11_term_32 (fun h32_2601 => ?_) (fun h32_2601 => ?_)
    · refine r_aload_n e_X11_term_57 rfl ?_
      refine r_getI e_X11_term_58 fl_X11_28 i0 k0 ?_
      refine r_iconst e_X11_term_61 ic_5 ?_
      refine r_icmp_ne e_X11_term_62 (fun h62_2602 => ?_) (fun h62_2602 => ?_)
      · refine r_aload_n e_X11_term_98 rfl ?_
        refine r_getI e_X11_term_99 fl_X11_28 i0 k0 ?_
        refine r_iconst e_X11_term_102 ic_2 ?_
        refine r_icmp_eq e_X11_term_103 (fun h103_2603 => ?_) (fun h103_2603 => ?_)
        · refine r_aload_n e_X11_term_122 rfl ?_
          refine cV0v e_X11_term_123 cl_X11_117 ⟨Nat.le_of_ble_eq_true rfl, Nat.le_of_ble_eq_true rfl⟩ ⟨rfl, rfl⟩ k0 (Nat.le_of_ble_eq_true rfl) (S_X11_keepWord hb1 g1 g2) ?_
          refine r_goto e_X11_term_126 ?_
          refine r_zreturn e_X11_term_133 rfl ⟨rfl, rfl⟩ (Z_X11_keepWord) ?_
          (simp only [FV_X11_term_26, FU_X11_term_26, if_neg h32_2601, if_neg h62_2602, if_pos h103_2603] at hq; first | exact hq | (simp only [if_neg h32_2601, if_neg h62_2602, if_pos h103_2603]; exact hq))
        · refine r_aload_n e_X11_term_106 rfl ?_
          refine r_getI e_X11_term_107 fl_X11_28 i0 k0 ?_
          refine r_iconst e_X11_term_110 ic_3 ?_
          refine r_icmp_eq e_X11_term_111 (fun h111_2604 => ?_) (fun h111_2604 => ?_)
          · refine r_aload_n e_X11_term_122 rfl ?_
            refine cV0v e_X11_term_123 cl_X11_117 ⟨Nat.le_of_ble_eq_true rfl, Nat.le_of_ble_eq_true rfl⟩ ⟨rfl, rfl⟩ k0 (Nat.le_of_ble_eq_true rfl) (S_X11_keepWord hb1 g1 g2) ?_
            refine r_goto e_X11_term_126 ?_
            refine r_zreturn e_X11_term_133 rfl ⟨rfl, rfl⟩ (Z_X11_keepWord) ?_
            (simp only [FV_X11_term_26, FU_X11_term_26, if_neg h32_2601, if_neg h62_2602, if_neg h103_2603, if_pos h111_2604] at hq; first | exact hq | (simp only [if_neg h32_2601, if_neg h62_2602, if_neg h103_2603, if_pos h111_2604]; exact hq))
          · refine r_aload_n e_X11_term_114 rfl ?_
            refine r_getI e_X11_term_115 fl_X11_28 i0 k0 ?_
            refine r_iconst e_X11_term_118 ic_4 ?_
            refine r_icmp_ne e_X11_term_119 (fun h119_2605 => ?_) (fun h119_2605 => ?_)
            · refine r_aload_n e_X11_term_129 rfl ?_
              refine cV0v e_X11_term_130 cl_X11_121 ⟨Nat.le_of_ble_eq_true rfl, Nat.le_of_ble_eq_true rfl⟩ ⟨rfl, rfl⟩ k0 (Nat.le_of_ble_eq_true rfl) (S_X11_wrong hb1) ?_
              refine r_zreturn e_X11_term_133 rfl ⟨rfl, rfl⟩ (Z_X11_wrong) ?_
              (simp only [FV_X11_term_26, FU_X11_term_26, if_neg h32_2601, if_neg h62_2602, if_neg h103_2603, if_neg h111_2604, if_neg h119_2605] at hq; first | exact hq | (simp only [if_neg h32_2601, if_neg h62_2602, if_neg h103_2603, if_neg h111_2604, if_neg h119_2605]; exact hq))
            · refine r_aload_n e_X11_term_122 rfl ?_
              refine cV0v e_X11_term_123 cl_X11_117 ⟨Nat.le_of_ble_eq_true rfl, Nat.le_of_ble_eq_true rfl⟩ ⟨rfl, rfl⟩ k0 (Nat.le_of_ble_eq_true rfl) (S_X11_keepWord hb1 g1 g2) ?_
              refine r_goto e_X11_term_126 ?_
              refine r_zreturn e_X11_term_133 rfl ⟨rfl, rfl⟩ (Z_X11_keepWord) ?_
              (simp only [FV_X11_term_26, FU_X11_term_26, if_neg h32_2601, if_neg h62_2602, if_neg h103_2603, if_neg h111_2604, if_pos h119_2605] at hq; first | exact hq | (simp only [if_neg h32_2601, if_neg h62_2602, if_neg h103_2603, if_neg h111_2604, if_pos h119_2605]; exact hq))
      · refine r_aload_n e_X11_term_65 rfl ?_
        refine cV0v e_X11_term_66 cl_X11_117 ⟨Nat.le_of_ble_eq_true rfl, Nat.le_of_ble_eq_true rfl⟩ ⟨rfl, rfl⟩ k0 (Nat.le_of_ble_eq_true rfl) (S_X11_keepWord hb1 g1 g2) ?_
        refine r_pop e_X11_term_69 rfl ?_
        refine r_aload_n e_X11_term_70 rfl ?_
        refine r_getI e_X11_term_71 fl_X11_28 i0 k0 ?_
        refine r_iconst e_X11_term_74 ic_2 ?_
        refine r_icmp_ne e_X11_term_75 (fun h75_2606 => ?_) (fun h75_2606 => ?_)
        · refine r_aload_n e_X11_term_93 rfl ?_
          refine cV0v e_X11_term_94 cl_X11_121 ⟨Nat.le_of_ble_eq_true rfl, Nat.le_of_ble_eq_true rfl⟩ ⟨rfl, rfl⟩ k0 (Nat.le_of_ble_eq_true rfl) (S_X11_wrong hb1) ?_
          refine r_zreturn e_X11_term_97 rfl ⟨rfl, rfl⟩ (Z_X11_wrong) ?_
          (simp only [FV_X11_term_26, FU_X11_term_26, if_neg h32_2601, if_pos h62_2602, if_neg h75_2606] at hq; first | exact hq | (simp only [if_neg h32_2601, if_pos h62_2602, if_neg h75_2606]; exact hq))
        · refine r_aload_n e_X11_term_78 rfl ?_
          refine r_getI e_X11_term_79 fl_X11_21 i0 k0 ?_
          refine r_iconst e_X11_term_82 ic_4 ?_
          refine r_icmp_gt e_X11_term_83 (fun h83_2607 => ?_) (fun h83_2607 => ?_)
          · refine r_aload_n e_X11_term_93 rfl ?_
            refine cV0v e_X11_term_94 cl_X11_121 ⟨Nat.le_of_ble_eq_true rfl, Nat.le_of_ble_eq_true rfl⟩ ⟨rfl, rfl⟩ k0 (Nat.le_of_ble_eq_true rfl) (S_X11_wrong hb1) ?_
            refine r_zreturn e_X11_term_97 rfl ⟨rfl, rfl⟩ (Z_X11_wrong) ?_
            (simp only [FV_X11_term_26, FU_X11_term_26, if_neg h32_2601, if_pos h62_2602, if_pos h75_2606, if_pos h83_2607] at hq; first | exact hq | (simp only [if_neg h32_2601, if_pos h62_2602, if_pos h75_2606, if_pos h83_2607]; exact hq))
          · refine r_aload_n e_X11_term_86 rfl ?_
            refine cV0v e_X11_term_87 cl_X11_117 ⟨Nat.le_of_ble_eq_true rfl, Nat.le_of_ble_eq_true rfl⟩ ⟨rfl, rfl⟩ k0 (Nat.le_of_ble_eq_true rfl) (S_X11_keepWord hb1 g3 g4) ?_
            refine r_goto e_X11_term_90 ?_
            refine r_zreturn e_X11_term_97 rfl ⟨rfl, rfl⟩ (Z_X11_keepWord) ?_
            (simp only [FV_X11_term_26, FU_X11_term_26, if_neg h32_2601, if_pos h62_2602, if_pos h75_2606, if_neg h83_2607] at hq; first | exact hq | (simp only [if_neg h32_2601, if_pos h62_2602, if_pos h75_2606, if_neg h83_2607]; exact hq))
    · refine r_iload_n e_X11_term_35 rfl ?_
      refine r_bipush e_X11_term_36 bp_6 ?_
      refine r_icmp_ne e_X11_term_38 (fun h38_2608 => ?_) (fun h38_2608 => ?_)
      · refine r_aload_n e_X11_term_46 rfl ?_
        refine cV0v e_X11_term_47 cl_X11_117 ⟨Nat.le_of_ble_eq_true rfl, Nat.le_of_ble_eq_true rfl⟩ ⟨rfl, rfl⟩ k0 (Nat.le_of_ble_eq_true rfl) (S_X11_keepWord hb1 g1 g2) ?_
        refine r_pop e_X11_term_50 rfl ?_
        refine p_iinc_2_1 e_X11_term_51 rfl ic_1 rfl ?_
        refine r_goto e_X11_term_54 ?_
        (simp only [FV_X11_term_26, FU_X11_term_26, if_pos h32_2601, if_neg h38_2608] at hq; (try simp only [if_pos h32_2601, if_neg h38_2608] at hH); first | exact ih _ _ hH hq | (simp only [if_pos h32_2601, if_neg h38_2608]; exact ih _ _ hH hq))
      · refine r_aload_n e_X11_term_41 rfl ?_
        refine cV0v e_X11_term_42 cl_X11_121 ⟨Nat.le_of_ble_eq_true rfl, Nat.le_of_ble_eq_true rfl⟩ ⟨rfl, rfl⟩ k0 (Nat.le_of_ble_eq_true rfl) (S_X11_wrong hb1) ?_
        refine r_zreturn e_X11_term_45 rfl ⟨rfl, rfl⟩ (Z_X11_wrong) ?_
        (simp only [FV_X11_term_26, FU_X11_term_26, if_pos h32_2601, if_pos h38_2608] at hq; first | exact hq | (simp only [if_pos h32_2601, if_pos h38_2608]; exact hq))
theorem ZV_X11_term_26 : ∀ (n : Nat) (u1 : Int32) (M : Mem), FV_X11_term_26  n u1 M = 0 ∨ FV_X11_term_26  n u1 M = 1 := by
  intro n
  induction n with
  | zero => intro u1 M; exact Or.inl rfl
  | succ n ih => intro u1 M; exact (zi (zi Z_X11_wrong (ih _ _)) (zi (zi (zi Z_X11_wrong Z_X11_keepWord) Z_X11_wrong) (zi Z_X11_keepWord (zi Z_X11_keepWord (zi Z_X11_keepWord Z_X11_wrong)))))
def V_X11_term (M : Mem) : Int32 := if (M.1 242 20) = (12 : Int32) then (V_X11_wrong  M) else (FV_X11_term_26  FUEL (0 : Int32) (setI M 242 20 ((M.1 242 20) + (1 : Int32))))
theorem Z_X11_term {M : Mem}    : V_X11_term  M = 0 ∨ V_X11_term  M = 1 := (zi Z_X11_wrong (ZV_X11_term_26 _ _ _))
def U_X11_term (M : Mem) : Mem := if (M.1 242 20) = (12 : Int32) then (U_X11_wrong  M) else (FU_X11_term_26  FUEL (0 : Int32) (setI M 242 20 ((M.1 242 20) + (1 : Int32))))
def P_X11_term (M : Mem) : Prop := (¬ ((M.1 242 20) = (12 : Int32)) → T_X11_term_26  FUEL (0 : Int32) (setI M 242 20 ((M.1 242 20) + (1 : Int32))))
theorem S_X11_term {sh : List SC} {M : Mem}  {mA : Nat} {oA : Nat} (hb1 : ModelAt sh mA oA)  (hP : P_X11_term  M) : Gv m_X11_term [.ref 242] sh M (.int (V_X11_term  M)) (U_X11_term  M) := by
  refine Sp.of (ls := [some (.ref 242), none]) (by decide +kernel) (Nat.le_of_ble_eq_true rfl) rfl ?_
  have g1 : ¬ ((M.1 242 20) = (12 : Int32)) → T_X11_term_26  FUEL (0 : Int32) (setI M 242 20 ((M.1 242 20) + (1 : Int32))) := hP
  have k0 : kd sh 242 = some (10 + 7, 0) := hb1.1
  refine r_aload_n e_X11_term_0 rfl ?_
  refine r_getI e_X11_term_1 fl_X11_141 i0 k0 ?_
  refine r_bipush e_X11_term_4 bp_12 ?_
  refine r_icmp_ne e_X11_term_6 (fun h6_0 => ?_) (fun h6_0 => ?_)
  · refine r_aload_n e_X11_term_14 rfl ?_
    refine r_dup e_X11_term_15 rfl ?_
    refine r_getI e_X11_term_16 fl_X11_141 i0 k0 ?_
    refine r_iconst e_X11_term_19 ic_1 ?_
    refine r_iadd e_X11_term_20 ?_
    refine r_putI e_X11_term_21 fl_X11_141 k0 ?_
    refine r_iconst e_X11_term_24 ic_0 ?_
    refine p_istore_n_2_1 e_X11_term_25 rfl rfl ?_
    refine L_X11_term_26 hb1 FUEL (0 : Int32) (setI M 242 20 ((M.1 242 20) + (1 : Int32))) (g1 h6_0) ?_
    (refine ⟨?_, rfl, ?_⟩ <;> ((try unfold V_X11_term); (try unfold U_X11_term); (try simp only [if_neg h6_0]); (try rfl)))
  · refine r_aload_n e_X11_term_9 rfl ?_
    refine cV0v e_X11_term_10 cl_X11_121 ⟨Nat.le_of_ble_eq_true rfl, Nat.le_of_ble_eq_true rfl⟩ ⟨rfl, rfl⟩ k0 (Nat.le_of_ble_eq_true rfl) (S_X11_wrong hb1) ?_
    refine r_zreturn e_X11_term_13 rfl ⟨rfl, rfl⟩ (Z_X11_wrong) ?_
    (refine ⟨?_, rfl, ?_⟩ <;> ((try unfold V_X11_term); (try unfold U_X11_term); (try simp only [if_pos h6_0]); (try rfl)))
def V_X11_program (x1 : Int32) (x2 : Int32) (x3 : Int32) (M : Mem) : Int32 := if (V_X11_isTeam x1 M) = 0 then (V_X11_finding (-1001 : Int32) M) else (if (V_X11_in x2 (0 : Int32) (4 : Int32) M) = 0 then (V_X11_finding (-1001 : Int32) M) else (if (V_X11_in x3 (-1 : Int32) ((M.1 242 8) - (1 : Int32)) M) = 0 then (V_X11_finding (-1001 : Int32) M) else (1 : Int32)))
def U_X11_program (x1 : Int32) (x2 : Int32) (x3 : Int32) (M : Mem) : Mem := if (V_X11_isTeam x1 M) = 0 then (U_X11_finding (-1001 : Int32) M) else (if (V_X11_in x2 (0 : Int32) (4 : Int32) M) = 0 then (U_X11_finding (-1001 : Int32) M) else (if (V_X11_in x3 (-1 : Int32) ((M.1 242 8) - (1 : Int32)) M) = 0 then (U_X11_finding (-1001 : Int32) M) else (setI M 254 (((5 : Int32) * x1) + x2).toNatClampNeg x3)))
def P_X11_program (x1 : Int32) (x2 : Int32) (x3 : Int32) (M : Mem) : Prop := (¬ ((V_X11_isTeam x1 M) = 0) → ¬ ((V_X11_in x2 (0 : Int32) (4 : Int32) M) = 0) → ¬ ((V_X11_in x3 (-1 : Int32) ((M.1 242 8) - (1 : Int32)) M) = 0) → vp_in (((5 : Int32) * x1) + x2) 20)
theorem S_X11_program {sh : List SC} {M : Mem} {x1 : Int32} {x2 : Int32} {x3 : Int32} {mA : Nat} {oA : Nat} (hb1 : ModelAt sh mA oA)  (hP : P_X11_program x1 x2 x3 M) : Gv m_X11_program [.ref 242, .int x1, .int x2, .int x3] sh M (.int (V_X11_program x1 x2 x3 M)) (U_X11_program x1 x2 x3 M) := by
  refine Sp.of (ls := [some (.ref 242), some (.int x1), some (.int x2), some (.int x3)]) (by decide +kernel) (Nat.le_of_ble_eq_true rfl) rfl ?_
  have g1 : ¬ ((V_X11_isTeam x1 M) = 0) → ¬ ((V_X11_in x2 (0 : Int32) (4 : Int32) M) = 0) → ¬ ((V_X11_in x3 (-1 : Int32) ((M.1 242 8) - (1 : Int32)) M) = 0) → vp_in (((5 : Int32) * x1) + x2) 20 := hP
  have k0 : kd sh 242 = some (10 + 7, 0) := hb1.1
  have k1 : rf sh 242 22 = some 254 := hb1.2.2.2.2.2.2.2.2.2.2.2.2.1
  have k2 : kd sh 254 = some (0, 20) := hb1.2.2.2.2.2.2.2.2.2.2.2.2.2.2.2.2.2.2.2.2.2.2.2.2.2.2.2.2.2.2.2.2.2.2.2.2.2.2.1
  refine r_iload_n e_X11_program_0 rfl ?_
  refine cS1v e_X11_program_1 cl_X11_249 ⟨Nat.le_of_ble_eq_true rfl, Nat.le_of_ble_eq_true rfl⟩ ⟨rfl, rfl⟩  (Nat.le_of_ble_eq_true rfl) (S_X11_isTeam ) ?_
  refine r_if_eq e_X11_program_4 (fun h4_0 => ?_) (fun h4_0 => ?_)
  · refine r_aload_n e_X11_program_30 rfl ?_
    refine r_sipush e_X11_program_31 sp_m1001 ?_
    refine cV1v e_X11_program_34 cl_X11_178 ⟨Nat.le_of_ble_eq_true rfl, Nat.le_of_ble_eq_true rfl⟩ ⟨rfl, rfl⟩ k0 (Nat.le_of_ble_eq_true rfl) (S_X11_finding hb1 (by first | decide | (unfold vp_in; decide) | exact Or.inl rfl | exact Or.inr rfl)) ?_
    refine r_ireturn e_X11_program_37 rfl ⟨rfl, rfl⟩ ?_
    (refine ⟨?_, rfl, ?_⟩ <;> ((try unfold V_X11_program); (try unfold U_X11_program); (try simp only [if_pos h4_0]); (try rfl)))
  · refine r_iload_n e_X11_program_7 rfl ?_
    refine r_iconst e_X11_program_8 ic_0 ?_
    refine r_iconst e_X11_program_9 ic_4 ?_
    refine cS3v e_X11_program_10 cl_X11_245 ⟨Nat.le_of_ble_eq_true rfl, Nat.le_of_ble_eq_true rfl⟩ ⟨rfl, rfl⟩  (Nat.le_of_ble_eq_true rfl) (S_X11_in ) ?_
    refine r_if_eq e_X11_program_13 (fun h13_1 => ?_) (fun h13_1 => ?_)
    · refine r_aload_n e_X11_program_30 rfl ?_
      refine r_sipush e_X11_program_31 sp_m1001 ?_
      refine cV1v e_X11_program_34 cl_X11_178 ⟨Nat.le_of_ble_eq_true rfl, Nat.le_of_ble_eq_true rfl⟩ ⟨rfl, rfl⟩ k0 (Nat.le_of_ble_eq_true rfl) (S_X11_finding hb1 (by first | decide | (unfold vp_in; decide) | exact Or.inl rfl | exact Or.inr rfl)) ?_
      refine r_ireturn e_X11_program_37 rfl ⟨rfl, rfl⟩ ?_
      (refine ⟨?_, rfl, ?_⟩ <;> ((try unfold V_X11_program); (try unfold U_X11_program); (try simp only [if_neg h4_0, if_pos h13_1]); (try rfl)))
    · refine r_iload_n e_X11_program_16 rfl ?_
      refine r_iconst e_X11_program_17 ic_m1 ?_
      refine r_aload_n e_X11_program_18 rfl ?_
      refine r_getI e_X11_program_19 fl_X11_105 i0 k0 ?_
      refine r_iconst e_X11_program_22 ic_1 ?_
      refine r_isub e_X11_program_23 ?_
      refine cS3v e_X11_program_24 cl_X11_245 ⟨Nat.le_of_ble_eq_true rfl, Nat.le_of_ble_eq_true rfl⟩ ⟨rfl, rfl⟩  (Nat.le_of_ble_eq_true rfl) (S_X11_in ) ?_
      refine r_if_ne e_X11_program_27 (fun h27_2 => ?_) (fun h27_2 => ?_)
      · refine r_aload_n e_X11_program_38 rfl ?_
        refine r_getR e_X11_program_39 fl_X11_197 k0 k1 ?_
        refine r_iconst e_X11_program_42 ic_5 ?_
        refine r_iload_n e_X11_program_43 rfl ?_
        refine r_imul e_X11_program_44 ?_
        refine r_iload_n e_X11_program_45 rfl ?_
        refine r_iadd e_X11_program_46 ?_
        refine r_iload_n e_X11_program_47 rfl ?_
        refine r_iastore e_X11_program_48 k2 (g1 h4_0 h13_1 h27_2) ?_
        refine r_iconst e_X11_program_49 ic_1 ?_
        refine r_ireturn e_X11_program_50 rfl ⟨rfl, rfl⟩ ?_
        (refine ⟨?_, rfl, ?_⟩ <;> ((try unfold V_X11_program); (try unfold U_X11_program); (try simp only [if_neg h4_0, if_neg h13_1, if_neg h27_2]); (try rfl)))
      · refine r_aload_n e_X11_program_30 rfl ?_
        refine r_sipush e_X11_program_31 sp_m1001 ?_
        refine cV1v e_X11_program_34 cl_X11_178 ⟨Nat.le_of_ble_eq_true rfl, Nat.le_of_ble_eq_true rfl⟩ ⟨rfl, rfl⟩ k0 (Nat.le_of_ble_eq_true rfl) (S_X11_finding hb1 (by first | decide | (unfold vp_in; decide) | exact Or.inl rfl | exact Or.inr rfl)) ?_
        refine r_ireturn e_X11_program_37 rfl ⟨rfl, rfl⟩ ?_
        (refine ⟨?_, rfl, ?_⟩ <;> ((try unfold V_X11_program); (try unfold U_X11_program); (try simp only [if_neg h4_0, if_neg h13_1, if_pos h27_2]); (try rfl)))
def U_X11_putAtStart (x1 : Int32) (mA : Nat) (M : Mem) : Mem := (let v0_0 : Int32 := if x1 < (5 : Int32) then (0 : Int32) else (1 : Int32); let v1_0 : Int32 := if v0_0 = 0 then (V_X11_of x1 (12 : Int32) mA M) else ((14 : Int32) - (V_X11_of x1 (12 : Int32) mA M)); let v2_0 : Int32 := if v0_0 = 0 then (V_X11_of x1 (13 : Int32) mA M) else ((8 : Int32) - (V_X11_of x1 (13 : Int32) mA M)); let Mc1 : Mem := U_X11_set x1 (1 : Int32) ((U_X11_set x1 (0 : Int32) ((U_X11_findPut v1_0 v2_0 x1 mA M).1 242 31) mA (U_X11_findPut v1_0 v2_0 x1 mA M)).1 242 32) mA (U_X11_set x1 (0 : Int32) ((U_X11_findPut v1_0 v2_0 x1 mA M).1 242 31) mA (U_X11_findPut v1_0 v2_0 x1 mA M)); Mc1)
def P_X11_putAtStart (x1 : Int32) (mA : Nat) (M : Mem) : Prop := ((if x1 < (5 : Int32) then (0 : Int32) else (1 : Int32)) = 0 → vp_in (((44 : Int32) + ((16 : Int32) * x1)) + (12 : Int32)) 212) ∧ (¬ ((if x1 < (5 : Int32) then (0 : Int32) else (1 : Int32)) = 0) → vp_in (((44 : Int32) + ((16 : Int32) * x1)) + (12 : Int32)) 212) ∧ ((if x1 < (5 : Int32) then (0 : Int32) else (1 : Int32)) = 0 → vp_in (((44 : Int32) + ((16 : Int32) * x1)) + (13 : Int32)) 212) ∧ (¬ ((if x1 < (5 : Int32) then (0 : Int32) else (1 : Int32)) = 0) → vp_in (((44 : Int32) + ((16 : Int32) * x1)) + (13 : Int32)) 212) ∧ (P_X11_findPut (if (if x1 < (5 : Int32) then (0 : Int32) else (1 : Int32)) = 0 then (V_X11_of x1 (12 : Int32) mA M) else ((14 : Int32) - (V_X11_of x1 (12 : Int32) mA M))) (if (if x1 < (5 : Int32) then (0 : Int32) else (1 : Int32)) = 0 then (V_X11_of x1 (13 : Int32) mA M) else ((8 : Int32) - (V_X11_of x1 (13 : Int32) mA M))) x1 mA M)
theorem S_X11_putAtStart {sh : List SC} {M : Mem} {x1 : Int32} {mA : Nat} {oA : Nat} (hb1 : ModelAt sh mA oA) (g6 : vp_in (((44 : Int32) + ((16 : Int32) * x1)) + (0 : Int32)) 212) (g7 : vp_in (((44 : Int32) + ((16 : Int32) * x1)) + (1 : Int32)) 212) (hP : P_X11_putAtStart x1 mA M) : Gu m_X11_putAtStart [.ref 242, .int x1] sh M (U_X11_putAtStart x1 mA M) := by
  refine Sp.of (ls := [some (.ref 242), some (.int x1), none]) (by decide +kernel) (Nat.le_of_ble_eq_true rfl) rfl ?_
  obtain ⟨g1, g2, g3, g4, g5⟩ := hP
  have k0 : kd sh 242 = some (10 + 7, 0) := hb1.1
  refine r_iload_n e_X11_putAtStart_0 rfl ?_
  refine r_iconst e_X11_putAtStart_1 ic_5 ?_
  obtain ⟨v0_0, e_v0_0⟩ : ∃ z : Int32, z = (if x1 < (5 : Int32) then (0 : Int32) else (1 : Int32)) := ⟨_, rfl⟩
  have z_v0_0 : v0_0 = 0 ∨ v0_0 = 1 := by rw [e_v0_0]; exact (zi (Or.inl rfl) (Or.inr rfl))
  suffices j10_0 : WP m_X11_putAtStart (fun r sh' M'' => r = none ∧ sh' = sh ∧ M'' = (U_X11_putAtStart x1 mA M)) 10 [some (.ref 242), some (.int x1), none] [.int v0_0] sh M 0 0 by
    refine r_icmp_lt e_X11_putAtStart_2 (fun h2_0 => ?_) (fun h2_0 => ?_)
    · refine r_iconst e_X11_putAtStart_9 ic_0 ?_
      rw [show v0_0 = (0 : Int32) from (e_v0_0.trans (if_pos h2_0))] at j10_0; exact j10_0
    · refine r_iconst e_X11_putAtStart_5 ic_1 ?_
      refine r_goto e_X11_putAtStart_6 ?_
      rw [show v0_0 = (1 : Int32) from (e_v0_0.trans (if_neg h2_0))] at j10_0; exact j10_0
  refine p_istore_n_3_2 e_X11_putAtStart_10 rfl rfl ?_
  refine r_aload_n e_X11_putAtStart_11 rfl ?_
  refine r_iload_n e_X11_putAtStart_12 rfl ?_
  obtain ⟨v1_0, e_v1_0⟩ : ∃ z : Int32, z = (if v0_0 = 0 then (V_X11_of x1 (12 : Int32) mA M) else ((14 : Int32) - (V_X11_of x1 (12 : Int32) mA M))) := ⟨_, rfl⟩
  suffices j36_1 : WP m_X11_putAtStart (fun r sh' M'' => r = none ∧ sh' = sh ∧ M'' = (U_X11_putAtStart x1 mA M)) 36 [some (.ref 242), some (.int x1), some (.int v0_0)] [.int v1_0, .ref 242] sh M 0 0 by
    refine r_if_eq e_X11_putAtStart_13 (fun h13_1 => ?_) (fun h13_1 => ?_)
    · refine r_aload_n e_X11_putAtStart_29 rfl ?_
      refine r_iload_n e_X11_putAtStart_30 rfl ?_
      refine r_bipush e_X11_putAtStart_31 bp_12 ?_
      refine cV2v e_X11_putAtStart_33 cl_X11_252 ⟨Nat.le_of_ble_eq_true rfl, Nat.le_of_ble_eq_true rfl⟩ ⟨rfl, rfl⟩ k0 (Nat.le_of_ble_eq_true rfl) (S_X11_of hb1 (by subst e_v0_0; exact g1 h13_1)) ?_
      rw [show v1_0 = (V_X11_of x1 (12 : Int32) mA M) from (e_v1_0.trans (if_pos h13_1))] at j36_1; exact j36_1
    · refine r_bipush e_X11_putAtStart_16 bp_14 ?_
      refine r_aload_n e_X11_putAtStart_18 rfl ?_
      refine r_iload_n e_X11_putAtStart_19 rfl ?_
      refine r_bipush e_X11_putAtStart_20 bp_12 ?_
      refine cV2v e_X11_putAtStart_22 cl_X11_252 ⟨Nat.le_of_ble_eq_true rfl, Nat.le_of_ble_eq_true rfl⟩ ⟨rfl, rfl⟩ k0 (Nat.le_of_ble_eq_true rfl) (S_X11_of hb1 (by subst e_v0_0; exact g2 h13_1)) ?_
      refine r_isub e_X11_putAtStart_25 ?_
      refine r_goto e_X11_putAtStart_26 ?_
      rw [show v1_0 = ((14 : Int32) - (V_X11_of x1 (12 : Int32) mA M)) from (e_v1_0.trans (if_neg h13_1))] at j36_1; exact j36_1
  refine r_iload_n e_X11_putAtStart_36 rfl ?_
  obtain ⟨v2_0, e_v2_0⟩ : ∃ z : Int32, z = (if v0_0 = 0 then (V_X11_of x1 (13 : Int32) mA M) else ((8 : Int32) - (V_X11_of x1 (13 : Int32) mA M))) := ⟨_, rfl⟩
  suffices j60_2 : WP m_X11_putAtStart (fun r sh' M'' => r = none ∧ sh' = sh ∧ M'' = (U_X11_putAtStart x1 mA M)) 60 [some (.ref 242), some (.int x1), some (.int v0_0)] [.int v2_0, .int v1_0, .ref 242] sh M 0 0 by
    refine r_if_eq e_X11_putAtStart_37 (fun h37_2 => ?_) (fun h37_2 => ?_)
    · refine r_aload_n e_X11_putAtStart_53 rfl ?_
      refine r_iload_n e_X11_putAtStart_54 rfl ?_
      refine r_bipush e_X11_putAtStart_55 bp_13 ?_
      refine cV2v e_X11_putAtStart_57 cl_X11_252 ⟨Nat.le_of_ble_eq_true rfl, Nat.le_of_ble_eq_true rfl⟩ ⟨rfl, rfl⟩ k0 (Nat.le_of_ble_eq_true rfl) (S_X11_of hb1 (by subst e_v0_0; exact g3 h37_2)) ?_
      rw [show v2_0 = (V_X11_of x1 (13 : Int32) mA M) from (e_v2_0.trans (if_pos h37_2))] at j60_2; exact j60_2
    · refine r_bipush e_X11_putAtStart_40 bp_8 ?_
      refine r_aload_n e_X11_putAtStart_42 rfl ?_
      refine r_iload_n e_X11_putAtStart_43 rfl ?_
      refine r_bipush e_X11_putAtStart_44 bp_13 ?_
      refine cV2v e_X11_putAtStart_46 cl_X11_252 ⟨Nat.le_of_ble_eq_true rfl, Nat.le_of_ble_eq_true rfl⟩ ⟨rfl, rfl⟩ k0 (Nat.le_of_ble_eq_true rfl) (S_X11_of hb1 (by subst e_v0_0; exact g4 h37_2)) ?_
      refine r_isub e_X11_putAtStart_49 ?_
      refine r_goto e_X11_putAtStart_50 ?_
      rw [show v2_0 = ((8 : Int32) - (V_X11_of x1 (13 : Int32) mA M)) from (e_v2_0.trans (if_neg h37_2))] at j60_2; exact j60_2
  refine r_iload_n e_X11_putAtStart_60 rfl ?_
  refine cV3u e_X11_putAtStart_61 cl_X11_278 ⟨Nat.le_of_ble_eq_true rfl, Nat.le_of_ble_eq_true rfl⟩ ⟨rfl, rfl⟩ k0 (Nat.le_of_ble_eq_true rfl) (S_X11_findPut hb1 (by subst e_v2_0 e_v1_0 e_v0_0; exact g5 )) ?_
  refine r_aload_n e_X11_putAtStart_64 rfl ?_
  refine r_iload_n e_X11_putAtStart_65 rfl ?_
  refine r_iconst e_X11_putAtStart_66 ic_0 ?_
  refine r_aload_n e_X11_putAtStart_67 rfl ?_
  refine r_getI e_X11_putAtStart_68 fl_X11_264 i0 k0 ?_
  refine cV3u e_X11_putAtStart_71 cl_X11_282 ⟨Nat.le_of_ble_eq_true rfl, Nat.le_of_ble_eq_true rfl⟩ ⟨rfl, rfl⟩ k0 (Nat.le_of_ble_eq_true rfl) (S_X11_set hb1 g6) ?_
  refine r_aload_n e_X11_putAtStart_74 rfl ?_
  refine r_iload_n e_X11_putAtStart_75 rfl ?_
  refine r_iconst e_X11_putAtStart_76 ic_1 ?_
  refine r_aload_n e_X11_putAtStart_77 rfl ?_
  refine r_getI e_X11_putAtStart_78 fl_X11_267 i0 k0 ?_
  refine cV3u e_X11_putAtStart_81 cl_X11_282 ⟨Nat.le_of_ble_eq_true rfl, Nat.le_of_ble_eq_true rfl⟩ ⟨rfl, rfl⟩ k0 (Nat.le_of_ble_eq_true rfl) (S_X11_set hb1 g7) ?_
  obtain ⟨Mc1, e_Mc1⟩ : ∃ z : Mem, z = (U_X11_set x1 (1 : Int32) ((U_X11_set x1 (0 : Int32) ((U_X11_findPut v1_0 v2_0 x1 mA M).1 242 31) mA (U_X11_findPut v1_0 v2_0 x1 mA M)).1 242 32) mA (U_X11_set x1 (0 : Int32) ((U_X11_findPut v1_0 v2_0 x1 mA M).1 242 31) mA (U_X11_findPut v1_0 v2_0 x1 mA M))) := ⟨_, rfl⟩
  rw [← e_Mc1]
  refine r_return e_X11_putAtStart_84 rfl ⟨rfl, rfl⟩ ?_
  (subst e_Mc1 e_v2_0 e_v1_0 e_v0_0; refine ⟨?_, rfl, ?_⟩ <;> ((try unfold U_X11_putAtStart); (try simp only []); (try rfl)))
def F_X11_termOf_6 : Nat → Int32 → Mem → Int32 × Mem
  | 0, u1, M => (u1, M)
  | n + 1, u1, M => if (V_X11_here  M) = (45 : Int32) then (let v601_0 : Int32 := if u1 = 0 then (1 : Int32) else (0 : Int32); (F_X11_termOf_6  n v601_0 (setI M 242 35 ((M.1 242 35) + (1 : Int32))))) else (u1, M)
def T_X11_termOf_6 : Nat → Int32 → Mem → Prop
  | 0, u1, M => False
  | n + 1, u1, M => (vp_in ((M.1 242 34) + (M.1 242 35)) 4800) ∧ (if (V_X11_here  M) = (45 : Int32) then (let v601_0 : Int32 := if u1 = 0 then (1 : Int32) else (0 : Int32); (T_X11_termOf_6  n v601_0 (setI M 242 35 ((M.1 242 35) + (1 : Int32))))) else True)
theorem L_X11_termOf_6 {sh : List SC} {Q : Po}  {mA : Nat} {oA : Nat}   (hb1 : ModelAt sh mA oA)   : ∀ (n : Nat) (u1 : Int32) (M : Mem), T_X11_termOf_6  n u1 M → WP m_X11_termOf Q 38 [some (.ref 242), some (.int ((F_X11_termOf_6  n u1 M).1)), none, none] [] sh ((F_X11_termOf_6  n u1 M).2) 0 0 → WP m_X11_termOf Q 6 [some (.ref 242), some (.int u1), none, none] [] sh M 0 0 := by
  have k0 : kd sh 242 = some (10 + 7, 0) := hb1.1
  intro n
  induction n with
  | zero =>
    intro u1 M hH hq
    exact hH.elim
  | succ n ih =>
    intro u1 M hH hq
    unfold T_X11_termOf_6 at hH
    obtain ⟨g1, hH⟩ := hH
    refine r_aload_n e_X11_termOf_6 rfl ?_
    refine cV0v e_X11_termOf_7 cl_X11_327 ⟨Nat.le_of_ble_eq_true rfl, Nat.le_of_ble_eq_true rfl⟩ ⟨rfl, rfl⟩ k0 (Nat.le_of_ble_eq_true rfl) (S_X11_here hb1 g1) ?_
    refine r_bipush e_X11_termOf_10 bp_45 ?_
    refine r_icmp_ne e_X11_termOf_12 (fun h12_600 => ?_) (fun h12_600 => ?_)
    · (simp only [F_X11_termOf_6, if_neg h12_600] at hq; first | exact hq | (simp only [if_neg h12_600]; exact hq))
    · refine r_iload_n e_X11_termOf_15 rfl ?_
      obtain ⟨v601_0, e_v601_0⟩ : ∃ z : Int32, z = (if u1 = 0 then (1 : Int32) else (0 : Int32)) := ⟨_, rfl⟩
      have z_v601_0 : v601_0 = 0 ∨ v601_0 = 1 := by rw [e_v601_0]; exact (zi (Or.inr rfl) (Or.inl rfl))
      suffices j24_601 : WP m_X11_termOf Q 24 [some (.ref 242), some (.int u1), none, none] [.int v601_0] sh M 0 0 by
        refine r_if_ne e_X11_termOf_16 (fun h16_601 => ?_) (fun h16_601 => ?_)
        · refine r_iconst e_X11_termOf_23 ic_0 ?_
          rw [show v601_0 = (0 : Int32) from (e_v601_0.trans (if_neg h16_601))] at j24_601; exact j24_601
        · refine r_iconst e_X11_termOf_19 ic_1 ?_
          refine r_goto e_X11_termOf_20 ?_
          rw [show v601_0 = (1 : Int32) from (e_v601_0.trans (if_pos h16_601))] at j24_601; exact j24_601
      refine p_istore_n_4_1 e_X11_termOf_24 rfl rfl ?_
      refine r_aload_n e_X11_termOf_25 rfl ?_
      refine r_dup e_X11_termOf_26 rfl ?_
      refine r_getI e_X11_termOf_27 fl_X11_312 i0 k0 ?_
      refine r_iconst e_X11_termOf_30 ic_1 ?_
      refine r_iadd e_X11_termOf_31 ?_
      refine r_putI e_X11_termOf_32 fl_X11_312 k0 ?_
      refine r_goto e_X11_termOf_35 ?_
      (subst e_v601_0; simp only [F_X11_termOf_6, if_pos h12_600] at hq; (try simp only [if_pos h12_600] at hH); first | exact ih _ _ hH hq | (simp only [if_pos h12_600]; exact ih _ _ hH hq))
theorem ZF_X11_termOf_6 : ∀ (n : Nat) (u1 : Int32) (M : Mem), (u1 = 0 ∨ u1 = 1) → (F_X11_termOf_6  n u1 M).1 = 0 ∨ (F_X11_termOf_6  n u1 M).1 = 1 := by
  intro n
  induction n with
  | zero => intro u1 M h; exact h
  | succ n ih => intro u1 M h; unfold F_X11_termOf_6; (try dsimp only); (repeat' split) <;> first | exact h | exact Or.inl rfl | exact Or.inr rfl | exact ih _ _ (zi (Or.inr rfl) (Or.inl rfl)) | exact ih _ _ (Or.inl rfl) | exact ih _ _ (Or.inr rfl)
def V_X11_termOf (mA : Nat) (M : Mem) : Int32 := (let v0_0 : Int32 := if (V_X11_here  ((F_X11_termOf_6  FUEL (0 : Int32) (U_X11_step  M)).2)) = (3 : Int32) then (V_X11_of (((F_X11_termOf_6  FUEL (0 : Int32) (U_X11_step  M)).2).1 242 33) ((4 : Int32) + (((F_X11_termOf_6  FUEL (0 : Int32) (U_X11_step  M)).2).1 245 ((((F_X11_termOf_6  FUEL (0 : Int32) (U_X11_step  M)).2).1 242 34) + (((F_X11_termOf_6  FUEL (0 : Int32) (U_X11_step  M)).2).1 242 35)).toNatClampNeg)) mA (setI ((F_X11_termOf_6  FUEL (0 : Int32) (U_X11_step  M)).2) 242 35 ((((F_X11_termOf_6  FUEL (0 : Int32) (U_X11_step  M)).2).1 242 35) + (1 : Int32)))) else (if (V_X11_here  ((F_X11_termOf_6  FUEL (0 : Int32) (U_X11_step  M)).2)) = (4 : Int32) then (V_X11_sensor (((F_X11_termOf_6  FUEL (0 : Int32) (U_X11_step  M)).2).1 245 ((((F_X11_termOf_6  FUEL (0 : Int32) (U_X11_step  M)).2).1 242 34) + (((F_X11_termOf_6  FUEL (0 : Int32) (U_X11_step  M)).2).1 242 35)).toNatClampNeg) mA (setI ((F_X11_termOf_6  FUEL (0 : Int32) (U_X11_step  M)).2) 242 35 ((((F_X11_termOf_6  FUEL (0 : Int32) (U_X11_step  M)).2).1 242 35) + (1 : Int32)))) else (if (V_X11_here  ((F_X11_termOf_6  FUEL (0 : Int32) (U_X11_step  M)).2)) = (5 : Int32) then (V_X11_otherRobot (((F_X11_termOf_6  FUEL (0 : Int32) (U_X11_step  M)).2).1 245 ((((F_X11_termOf_6  FUEL (0 : Int32) (U_X11_step  M)).2).1 242 34) + (((F_X11_termOf_6  FUEL (0 : Int32) (U_X11_step  M)).2).1 242 35)).toNatClampNeg) (((F_X11_termOf_6  FUEL (0 : Int32) (U_X11_step  M)).2).1 245 ((((F_X11_termOf_6  FUEL (0 : Int32) (U_X11_step  M)).2).1 242 34) + ((((F_X11_termOf_6  FUEL (0 : Int32) (U_X11_step  M)).2).1 242 35) + (1 : Int32))).toNatClampNeg) mA (setI ((F_X11_termOf_6  FUEL (0 : Int32) (U_X11_step  M)).2) 242 35 ((((F_X11_termOf_6  FUEL (0 : Int32) (U_X11_step  M)).2).1 242 35) + (1 : Int32)))) else (((F_X11_termOf_6  FUEL (0 : Int32) (U_X11_step  M)).2).1 245 ((((F_X11_termOf_6  FUEL (0 : Int32) (U_X11_step  M)).2).1 242 34) + (((F_X11_termOf_6  FUEL (0 : Int32) (U_X11_step  M)).2).1 242 35)).toNatClampNeg))); let M0_1 : Mem := if (V_X11_here  ((F_X11_termOf_6  FUEL (0 : Int32) (U_X11_step  M)).2)) = (3 : Int32) then (setI ((F_X11_termOf_6  FUEL (0 : Int32) (U_X11_step  M)).2) 242 35 ((((F_X11_termOf_6  FUEL (0 : Int32) (U_X11_step  M)).2).1 242 35) + (1 : Int32))) else (if (V_X11_here  ((F_X11_termOf_6  FUEL (0 : Int32) (U_X11_step  M)).2)) = (4 : Int32) then (setI ((F_X11_termOf_6  FUEL (0 : Int32) (U_X11_step  M)).2) 242 35 ((((F_X11_termOf_6  FUEL (0 : Int32) (U_X11_step  M)).2).1 242 35) + (1 : Int32))) else (if (V_X11_here  ((F_X11_termOf_6  FUEL (0 : Int32) (U_X11_step  M)).2)) = (5 : Int32) then (setI (setI ((F_X11_termOf_6  FUEL (0 : Int32) (U_X11_step  M)).2) 242 35 ((((F_X11_termOf_6  FUEL (0 : Int32) (U_X11_step  M)).2).1 242 35) + (1 : Int32))) 242 35 (((((F_X11_termOf_6  FUEL (0 : Int32) (U_X11_step  M)).2).1 242 35) + (1 : Int32)) + (1 : Int32))) else (setI ((F_X11_termOf_6  FUEL (0 : Int32) (U_X11_step  M)).2) 242 35 ((((F_X11_termOf_6  FUEL (0 : Int32) (U_X11_step  M)).2).1 242 35) + (1 : Int32))))); let v3_0 : Int32 := if ((F_X11_termOf_6  FUEL (0 : Int32) (U_X11_step  M)).1) = 0 then v0_0 else (-v0_0); v3_0)
def U_X11_termOf (mA : Nat) (M : Mem) : Mem := (let v0_0 : Int32 := if (V_X11_here  ((F_X11_termOf_6  FUEL (0 : Int32) (U_X11_step  M)).2)) = (3 : Int32) then (V_X11_of (((F_X11_termOf_6  FUEL (0 : Int32) (U_X11_step  M)).2).1 242 33) ((4 : Int32) + (((F_X11_termOf_6  FUEL (0 : Int32) (U_X11_step  M)).2).1 245 ((((F_X11_termOf_6  FUEL (0 : Int32) (U_X11_step  M)).2).1 242 34) + (((F_X11_termOf_6  FUEL (0 : Int32) (U_X11_step  M)).2).1 242 35)).toNatClampNeg)) mA (setI ((F_X11_termOf_6  FUEL (0 : Int32) (U_X11_step  M)).2) 242 35 ((((F_X11_termOf_6  FUEL (0 : Int32) (U_X11_step  M)).2).1 242 35) + (1 : Int32)))) else (if (V_X11_here  ((F_X11_termOf_6  FUEL (0 : Int32) (U_X11_step  M)).2)) = (4 : Int32) then (V_X11_sensor (((F_X11_termOf_6  FUEL (0 : Int32) (U_X11_step  M)).2).1 245 ((((F_X11_termOf_6  FUEL (0 : Int32) (U_X11_step  M)).2).1 242 34) + (((F_X11_termOf_6  FUEL (0 : Int32) (U_X11_step  M)).2).1 242 35)).toNatClampNeg) mA (setI ((F_X11_termOf_6  FUEL (0 : Int32) (U_X11_step  M)).2) 242 35 ((((F_X11_termOf_6  FUEL (0 : Int32) (U_X11_step  M)).2).1 242 35) + (1 : Int32)))) else (if (V_X11_here  ((F_X11_termOf_6  FUEL (0 : Int32) (U_X11_step  M)).2)) = (5 : Int32) then (V_X11_otherRobot (((F_X11_termOf_6  FUEL (0 : Int32) (U_X11_step  M)).2).1 245 ((((F_X11_termOf_6  FUEL (0 : Int32) (U_X11_step  M)).2).1 242 34) + (((F_X11_termOf_6  FUEL (0 : Int32) (U_X11_step  M)).2).1 242 35)).toNatClampNeg) (((F_X11_termOf_6  FUEL (0 : Int32) (U_X11_step  M)).2).1 245 ((((F_X11_termOf_6  FUEL (0 : Int32) (U_X11_step  M)).2).1 242 34) + ((((F_X11_termOf_6  FUEL (0 : Int32) (U_X11_step  M)).2).1 242 35) + (1 : Int32))).toNatClampNeg) mA (setI ((F_X11_termOf_6  FUEL (0 : Int32) (U_X11_step  M)).2) 242 35 ((((F_X11_termOf_6  FUEL (0 : Int32) (U_X11_step  M)).2).1 242 35) + (1 : Int32)))) else (((F_X11_termOf_6  FUEL (0 : Int32) (U_X11_step  M)).2).1 245 ((((F_X11_termOf_6  FUEL (0 : Int32) (U_X11_step  M)).2).1 242 34) + (((F_X11_termOf_6  FUEL (0 : Int32) (U_X11_step  M)).2).1 242 35)).toNatClampNeg))); let M0_1 : Mem := if (V_X11_here  ((F_X11_termOf_6  FUEL (0 : Int32) (U_X11_step  M)).2)) = (3 : Int32) then (setI ((F_X11_termOf_6  FUEL (0 : Int32) (U_X11_step  M)).2) 242 35 ((((F_X11_termOf_6  FUEL (0 : Int32) (U_X11_step  M)).2).1 242 35) + (1 : Int32))) else (if (V_X11_here  ((F_X11_termOf_6  FUEL (0 : Int32) (U_X11_step  M)).2)) = (4 : Int32) then (setI ((F_X11_termOf_6  FUEL (0 : Int32) (U_X11_step  M)).2) 242 35 ((((F_X11_termOf_6  FUEL (0 : Int32) (U_X11_step  M)).2).1 242 35) + (1 : Int32))) else (if (V_X11_here  ((F_X11_termOf_6  FUEL (0 : Int32) (U_X11_step  M)).2)) = (5 : Int32) then (setI (setI ((F_X11_termOf_6  FUEL (0 : Int32) (U_X11_step  M)).2) 242 35 ((((F_X11_termOf_6  FUEL (0 : Int32) (U_X11_step  M)).2).1 242 35) + (1 : Int32))) 242 35 (((((F_X11_termOf_6  FUEL (0 : Int32) (U_X11_step  M)).2).1 242 35) + (1 : Int32)) + (1 : Int32))) else (setI ((F_X11_termOf_6  FUEL (0 : Int32) (U_X11_step  M)).2) 242 35 ((((F_X11_termOf_6  FUEL (0 : Int32) (U_X11_step  M)).2).1 242 35) + (1 : Int32))))); let v3_0 : Int32 := if ((F_X11_termOf_6  FUEL (0 : Int32) (U_X11_step  M)).1) = 0 then v0_0 else (-v0_0); M0_1)
def P_X11_termOf (mA : Nat) (M : Mem) : Prop := (T_X11_termOf_6  FUEL (0 : Int32) (U_X11_step  M)) ∧ (¬ ((V_X11_here  ((F_X11_termOf_6  FUEL (0 : Int32) (U_X11_step  M)).2)) = (3 : Int32)) → ¬ ((V_X11_here  ((F_X11_termOf_6  FUEL (0 : Int32) (U_X11_step  M)).2)) = (4 : Int32)) → (V_X11_here  ((F_X11_termOf_6  FUEL (0 : Int32) (U_X11_step  M)).2)) = (5 : Int32) → vp_in ((((F_X11_termOf_6  FUEL (0 : Int32) (U_X11_step  M)).2).1 242 34) + ((((F_X11_termOf_6  FUEL (0 : Int32) (U_X11_step  M)).2).1 242 35) + (1 : Int32))) 4800) ∧ (¬ ((V_X11_here  ((F_X11_termOf_6  FUEL (0 : Int32) (U_X11_step  M)).2)) = (3 : Int32)) → ¬ ((V_X11_here  ((F_X11_termOf_6  FUEL (0 : Int32) (U_X11_step  M)).2)) = (4 : Int32)) → (V_X11_here  ((F_X11_termOf_6  FUEL (0 : Int32) (U_X11_step  M)).2)) = (5 : Int32) → P_X11_otherRobot (((F_X11_termOf_6  FUEL (0 : Int32) (U_X11_step  M)).2).1 245 ((((F_X11_termOf_6  FUEL (0 : Int32) (U_X11_step  M)).2).1 242 34) + (((F_X11_termOf_6  FUEL (0 : Int32) (U_X11_step  M)).2).1 242 35)).toNatClampNeg) (((F_X11_termOf_6  FUEL (0 : Int32) (U_X11_step  M)).2).1 245 ((((F_X11_termOf_6  FUEL (0 : Int32) (U_X11_step  M)).2).1 242 34) + ((((F_X11_termOf_6  FUEL (0 : Int32) (U_X11_step  M)).2).1 242 35) + (1 : Int32))).toNatClampNeg) mA (setI ((F_X11_termOf_6  FUEL (0 : Int32) (U_X11_step  M)).2) 242 35 ((((F_X11_termOf_6  FUEL (0 : Int32) (U_X11_step  M)).2).1 242 35) + (1 : Int32)))) ∧ (¬ ((V_X11_here  ((F_X11_termOf_6  FUEL (0 : Int32) (U_X11_step  M)).2)) = (3 : Int32)) → (V_X11_here  ((F_X11_termOf_6  FUEL (0 : Int32) (U_X11_step  M)).2)) = (4 : Int32) → vp_in (((44 : Int32) + ((16 : Int32) * ((setI ((F_X11_termOf_6  FUEL (0 : Int32) (U_X11_step  M)).2) 242 35 ((((F_X11_termOf_6  FUEL (0 : Int32) (U_X11_step  M)).2).1 242 35) + (1 : Int32))).1 242 33))) + (0 : Int32)) 212) ∧ (¬ ((V_X11_here  ((F_X11_termOf_6  FUEL (0 : Int32) (U_X11_step  M)).2)) = (3 : Int32)) → (V_X11_here  ((F_X11_termOf_6  FUEL (0 : Int32) (U_X11_step  M)).2)) = (4 : Int32) → vp_in (((44 : Int32) + ((16 : Int32) * ((setI ((F_X11_termOf_6  FUEL (0 : Int32) (U_X11_step  M)).2) 242 35 ((((F_X11_termOf_6  FUEL (0 : Int32) (U_X11_step  M)).2).1 242 35) + (1 : Int32))).1 242 33))) + (1 : Int32)) 212) ∧ (¬ ((V_X11_here  ((F_X11_termOf_6  FUEL (0 : Int32) (U_X11_step  M)).2)) = (3 : Int32)) → (V_X11_here  ((F_X11_termOf_6  FUEL (0 : Int32) (U_X11_step  M)).2)) = (4 : Int32) → vp_in (((44 : Int32) + ((16 : Int32) * ((setI ((F_X11_termOf_6  FUEL (0 : Int32) (U_X11_step  M)).2) 242 35 ((((F_X11_termOf_6  FUEL (0 : Int32) (U_X11_step  M)).2).1 242 35) + (1 : Int32))).1 242 33))) + (8 : Int32)) 212) ∧ (¬ ((V_X11_here  ((F_X11_termOf_6  FUEL (0 : Int32) (U_X11_step  M)).2)) = (3 : Int32)) → (V_X11_here  ((F_X11_termOf_6  FUEL (0 : Int32) (U_X11_step  M)).2)) = (4 : Int32) → vp_in (((44 : Int32) + ((16 : Int32) * ((setI ((F_X11_termOf_6  FUEL (0 : Int32) (U_X11_step  M)).2) 242 35 ((((F_X11_termOf_6  FUEL (0 : Int32) (U_X11_step  M)).2).1 242 35) + (1 : Int32))).1 242 33))) + (9 : Int32)) 212) ∧ (¬ ((V_X11_here  ((F_X11_termOf_6  FUEL (0 : Int32) (U_X11_step  M)).2)) = (3 : Int32)) → (V_X11_here  ((F_X11_termOf_6  FUEL (0 : Int32) (U_X11_step  M)).2)) = (4 : Int32) → P_X11_sensor (((F_X11_termOf_6  FUEL (0 : Int32) (U_X11_step  M)).2).1 245 ((((F_X11_termOf_6  FUEL (0 : Int32) (U_X11_step  M)).2).1 242 34) + (((F_X11_termOf_6  FUEL (0 : Int32) (U_X11_step  M)).2).1 242 35)).toNatClampNeg) mA (setI ((F_X11_termOf_6  FUEL (0 : Int32) (U_X11_step  M)).2) 242 35 ((((F_X11_termOf_6  FUEL (0 : Int32) (U_X11_step  M)).2).1 242 35) + (1 : Int32)))) ∧ ((V_X11_here  ((F_X11_termOf_6  FUEL (0 : Int32) (U_X11_step  M)).2)) = (3 : Int32) → vp_in (((44 : Int32) + ((16 : Int32) * (((F_X11_termOf_6  FUEL (0 : Int32) (U_X11_step  M)).2).1 242 33))) + ((4 : Int32) + (((F_X11_termOf_6  FUEL (0 : Int32) (U_X11_step  M)).2).1 245 ((((F_X11_termOf_6  FUEL (0 : Int32) (U_X11_step  M)).2).1 242 34) + (((F_X11_termOf_6  FUEL (0 : Int32) (U_X11_step  M)).2).1 242 35)).toNatClampNeg))) 212)
theorem S_X11_termOf {sh : List SC} {M : Mem}  {mA : Nat} {oA : Nat} (hb1 : ModelAt sh mA oA) (g2 : vp_in ((((F_X11_termOf_6  FUEL (0 : Int32) (U_X11_step  M)).2).1 242 34) + (((F_X11_termOf_6  FUEL (0 : Int32) (U_X11_step  M)).2).1 242 35)) 4800) (hP : P_X11_termOf mA M) : Gv m_X11_termOf [.ref 242] sh M (.int (V_X11_termOf mA M)) (U_X11_termOf mA M) := by
  refine Sp.of (ls := [some (.ref 242), none, none, none]) (by decide +kernel) (Nat.le_of_ble_eq_true rfl) rfl ?_
  obtain ⟨g1, g3, g4, g5, g6, g7, g8, g9, g10⟩ := hP
  have k0 : kd sh 242 = some (10 + 7, 0) := hb1.1
  have k1 : rf sh 242 10 = some 245 := hb1.2.2.2.1
  have k2 : kd sh 245 = some (0, 4800) := hb1.2.2.2.2.2.2.2.2.2.2.2.2.2.2.2.2.2.2.2.2.2.2.2.2.2.2.2.2.2.1
  refine r_aload_n e_X11_termOf_0 rfl ?_
  refine cV0u e_X11_termOf_1 cl_X11_324 ⟨Nat.le_of_ble_eq_true rfl, Nat.le_of_ble_eq_true rfl⟩ ⟨rfl, rfl⟩ k0 (Nat.le_of_ble_eq_true rfl) (S_X11_step hb1) ?_
  refine r_iconst e_X11_termOf_4 ic_0 ?_
  refine p_istore_n_4_1 e_X11_termOf_5 rfl rfl ?_
  refine L_X11_termOf_6 hb1 FUEL (0 : Int32) (U_X11_step  M) g1 ?_
  refine r_aload_n e_X11_termOf_38 rfl ?_
  refine cV0v e_X11_termOf_39 cl_X11_327 ⟨Nat.le_of_ble_eq_true rfl, Nat.le_of_ble_eq_true rfl⟩ ⟨rfl, rfl⟩ k0 (Nat.le_of_ble_eq_true rfl) (S_X11_here hb1 g2) ?_
  refine p_istore_n_4_2 e_X11_termOf_42 rfl rfl ?_
  refine r_aload_n e_X11_termOf_43 rfl ?_
  refine r_getR e_X11_termOf_44 fl_X11_111 k0 k1 ?_
  refine r_aload_n e_X11_termOf_47 rfl ?_
  refine r_getI e_X11_termOf_48 fl_X11_309 i0 k0 ?_
  refine r_aload_n e_X11_termOf_51 rfl ?_
  refine r_getI e_X11_termOf_52 fl_X11_312 i0 k0 ?_
  refine r_iadd e_X11_termOf_55 ?_
  refine r_iaload e_X11_termOf_56 k2 g2 ?_
  refine p_istore_n_4_3 e_X11_termOf_57 rfl rfl ?_
  refine r_aload_n e_X11_termOf_58 rfl ?_
  refine r_dup e_X11_termOf_59 rfl ?_
  refine r_getI e_X11_termOf_60 fl_X11_312 i0 k0 ?_
  refine r_iconst e_X11_termOf_63 ic_1 ?_
  refine r_iadd e_X11_termOf_64 ?_
  refine r_putI e_X11_termOf_65 fl_X11_312 k0 ?_
  refine r_iload_n e_X11_termOf_68 rfl ?_
  refine r_iconst e_X11_termOf_69 ic_3 ?_
  obtain ⟨v0_0, e_v0_0⟩ : ∃ z : Int32, z = (if (V_X11_here  ((F_X11_termOf_6  FUEL (0 : Int32) (U_X11_step  M)).2)) = (3 : Int32) then (V_X11_of (((F_X11_termOf_6  FUEL (0 : Int32) (U_X11_step  M)).2).1 242 33) ((4 : Int32) + (((F_X11_termOf_6  FUEL (0 : Int32) (U_X11_step  M)).2).1 245 ((((F_X11_termOf_6  FUEL (0 : Int32) (U_X11_step  M)).2).1 242 34) + (((F_X11_termOf_6  FUEL (0 : Int32) (U_X11_step  M)).2).1 242 35)).toNatClampNeg)) mA (setI ((F_X11_termOf_6  FUEL (0 : Int32) (U_X11_step  M)).2) 242 35 ((((F_X11_termOf_6  FUEL (0 : Int32) (U_X11_step  M)).2).1 242 35) + (1 : Int32)))) else (if (V_X11_here  ((F_X11_termOf_6  FUEL (0 : Int32) (U_X11_step  M)).2)) = (4 : Int32) then (V_X11_sensor (((F_X11_termOf_6  FUEL (0 : Int32) (U_X11_step  M)).2).1 245 ((((F_X11_termOf_6  FUEL (0 : Int32) (U_X11_step  M)).2).1 242 34) + (((F_X11_termOf_6  FUEL (0 : Int32) (U_X11_step  M)).2).1 242 35)).toNatClampNeg) mA (setI ((F_X11_termOf_6  FUEL (0 : Int32) (U_X11_step  M)).2) 242 35 ((((F_X11_termOf_6  FUEL (0 : Int32) (U_X11_step  M)).2).1 242 35) + (1 : Int32)))) else (if (V_X11_here  ((F_X11_termOf_6  FUEL (0 : Int32) (U_X11_step  M)).2)) = (5 : Int32) then (V_X11_otherRobot (((F_X11_termOf_6  FUEL (0 : Int32) (U_X11_step  M)).2).1 245 ((((F_X11_termOf_6  FUEL (0 : Int32) (U_X11_step  M)).2).1 242 34) + (((F_X11_termOf_6  FUEL (0 : Int32) (U_X11_step  M)).2).1 242 35)).toNatClampNeg) (((F_X11_termOf_6  FUEL (0 : Int32) (U_X11_step  M)).2).1 245 ((((F_X11_termOf_6  FUEL (0 : Int32) (U_X11_step  M)).2).1 242 34) + ((((F_X11_termOf_6  FUEL (0 : Int32) (U_X11_step  M)).2).1 242 35) + (1 : Int32))).toNatClampNeg) mA (setI ((F_X11_termOf_6  FUEL (0 : Int32) (U_X11_step  M)).2) 242 35 ((((F_X11_termOf_6  FUEL (0 : Int32) (U_X11_step  M)).2).1 242 35) + (1 : Int32)))) else (((F_X11_termOf_6  FUEL (0 : Int32) (U_X11_step  M)).2).1 245 ((((F_X11_termOf_6  FUEL (0 : Int32) (U_X11_step  M)).2).1 242 34) + (((F_X11_termOf_6  FUEL (0 : Int32) (U_X11_step  M)).2).1 242 35)).toNatClampNeg)))) := ⟨_, rfl⟩
  obtain ⟨M0_1, e_M0_1⟩ : ∃ z : Mem, z = (if (V_X11_here  ((F_X11_termOf_6  FUEL (0 : Int32) (U_X11_step  M)).2)) = (3 : Int32) then (setI ((F_X11_termOf_6  FUEL (0 : Int32) (U_X11_step  M)).2) 242 35 ((((F_X11_termOf_6  FUEL (0 : Int32) (U_X11_step  M)).2).1 242 35) + (1 : Int32))) else (if (V_X11_here  ((F_X11_termOf_6  FUEL (0 : Int32) (U_X11_step  M)).2)) = (4 : Int32) then (setI ((F_X11_termOf_6  FUEL (0 : Int32) (U_X11_step  M)).2) 242 35 ((((F_X11_termOf_6  FUEL (0 : Int32) (U_X11_step  M)).2).1 242 35) + (1 : Int32))) else (if (V_X11_here  ((F_X11_termOf_6  FUEL (0 : Int32) (U_X11_step  M)).2)) = (5 : Int32) then (setI (setI ((F_X11_termOf_6  FUEL (0 : Int32) (U_X11_step  M)).2) 242 35 ((((F_X11_termOf_6  FUEL (0 : Int32) (U_X11_step  M)).2).1 242 35) + (1 : Int32))) 242 35 (((((F_X11_termOf_6  FUEL (0 : Int32) (U_X11_step  M)).2).1 242 35) + (1 : Int32)) + (1 : Int32))) else (setI ((F_X11_termOf_6  FUEL (0 : Int32) (U_X11_step  M)).2) 242 35 ((((F_X11_termOf_6  FUEL (0 : Int32) (U_X11_step  M)).2).1 242 35) + (1 : Int32)))))) := ⟨_, rfl⟩
  suffices j137_0 : WP m_X11_termOf (fun r sh' M'' => r = some (.int (V_X11_termOf mA M)) ∧ sh' = sh ∧ M'' = (U_X11_termOf mA M)) 137 [some (.ref 242), some (.int ((F_X11_termOf_6  FUEL (0 : Int32) (U_X11_step  M)).1)), some (.int (V_X11_here  ((F_X11_termOf_6  FUEL (0 : Int32) (U_X11_step  M)).2))), some (.int v0_0)] [] sh M0_1 0 0 by
    refine r_icmp_ne e_X11_termOf_70 (fun h70_0 => ?_) (fun h70_0 => ?_)
    · refine r_iload_n e_X11_termOf_88 rfl ?_
      refine r_iconst e_X11_termOf_89 ic_4 ?_
      refine r_icmp_ne e_X11_termOf_90 (fun h90_1 => ?_) (fun h90_1 => ?_)
      · refine r_iload_n e_X11_termOf_102 rfl ?_
        refine r_iconst e_X11_termOf_103 ic_5 ?_
        refine r_icmp_ne e_X11_termOf_104 (fun h104_2 => ?_) (fun h104_2 => ?_)
        · rw [show v0_0 = (((F_X11_termOf_6  FUEL (0 : Int32) (U_X11_step  M)).2).1 245 ((((F_X11_termOf_6  FUEL (0 : Int32) (U_X11_step  M)).2).1 242 34) + (((F_X11_termOf_6  FUEL (0 : Int32) (U_X11_step  M)).2).1 242 35)).toNatClampNeg) from (((e_v0_0.trans (if_neg h70_0)).trans (if_neg h90_1)).trans (if_neg h104_2)), show M0_1 = setI ((F_X11_termOf_6  FUEL (0 : Int32) (U_X11_step  M)).2) 242 35 ((((F_X11_termOf_6  FUEL (0 : Int32) (U_X11_step  M)).2).1 242 35) + (1 : Int32)) from (((e_M0_1.trans (if_neg h70_0)).trans (if_neg h90_1)).trans (if_neg h104_2))] at j137_0; exact j137_0
        · refine r_aload_n e_X11_termOf_107 rfl ?_
          refine r_iload_n e_X11_termOf_108 rfl ?_
          refine r_aload_n e_X11_termOf_109 rfl ?_
          refine r_getR e_X11_termOf_110 fl_X11_111 k0 k1 ?_
          refine r_aload_n e_X11_termOf_113 rfl ?_
          refine r_getIe e_X11_termOf_114 fl_X11_309 i0 k0 (gs_nI (by decide)) ?_
          refine r_aload_n e_X11_termOf_117 rfl ?_
          refine r_getIe e_X11_termOf_118 fl_X11_312 i0 k0 gs_eI ?_
          refine r_iadd e_X11_termOf_121 ?_
          refine r_ialoade (v := (((F_X11_termOf_6  FUEL (0 : Int32) (U_X11_step  M)).2).1 245 ((((F_X11_termOf_6  FUEL (0 : Int32) (U_X11_step  M)).2).1 242 34) + ((((F_X11_termOf_6  FUEL (0 : Int32) (U_X11_step  M)).2).1 242 35) + (1 : Int32))).toNatClampNeg)) e_X11_termOf_122 k2 (g3 h70_0 h90_1 h104_2) (gs_aI (by omega)) ?_
          refine cV2v e_X11_termOf_123 cl_X11_333 ⟨Nat.le_of_ble_eq_true rfl, Nat.le_of_ble_eq_true rfl⟩ ⟨rfl, rfl⟩ k0 (Nat.le_of_ble_eq_true rfl) (S_X11_otherRobot hb1 (g4 h70_0 h90_1 h104_2)) ?_
          refine p_istore_n_4_3 e_X11_termOf_126 rfl rfl ?_
          refine r_aload_n e_X11_termOf_127 rfl ?_
          refine r_dup e_X11_termOf_128 rfl ?_
          refine r_getIe e_X11_termOf_129 fl_X11_312 i0 k0 gs_eI ?_
          refine r_iconst e_X11_termOf_132 ic_1 ?_
          refine r_iadd e_X11_termOf_133 ?_
          refine r_putI e_X11_termOf_134 fl_X11_312 k0 ?_
          rw [show v0_0 = (V_X11_otherRobot (((F_X11_termOf_6  FUEL (0 : Int32) (U_X11_step  M)).2).1 245 ((((F_X11_termOf_6  FUEL (0 : Int32) (U_X11_step  M)).2).1 242 34) + (((F_X11_termOf_6  FUEL (0 : Int32) (U_X11_step  M)).2).1 242 35)).toNatClampNeg) (((F_X11_termOf_6  FUEL (0 : Int32) (U_X11_step  M)).2).1 245 ((((F_X11_termOf_6  FUEL (0 : Int32) (U_X11_step  M)).2).1 242 34) + ((((F_X11_termOf_6  FUEL (0 : Int32) (U_X11_step  M)).2).1 242 35) + (1 : Int32))).toNatClampNeg) mA (setI ((F_X11_termOf_6  FUEL (0 : Int32) (U_X11_step  M)).2) 242 35 ((((F_X11_termOf_6  FUEL (0 : Int32) (U_X11_step  M)).2).1 242 35) + (1 : Int32)))) from (((e_v0_0.trans (if_neg h70_0)).trans (if_neg h90_1)).trans (if_pos h104_2)), show M0_1 = setI (setI ((F_X11_termOf_6  FUEL (0 : Int32) (U_X11_step  M)).2) 242 35 ((((F_X11_termOf_6  FUEL (0 : Int32) (U_X11_step  M)).2).1 242 35) + (1 : Int32))) 242 35 (((((F_X11_termOf_6  FUEL (0 : Int32) (U_X11_step  M)).2).1 242 35) + (1 : Int32)) + (1 : Int32)) from (((e_M0_1.trans (if_neg h70_0)).trans (if_neg h90_1)).trans (if_pos h104_2))] at j137_0; exact j137_0
      · refine r_aload_n e_X11_termOf_93 rfl ?_
        refine r_iload_n e_X11_termOf_94 rfl ?_
        refine cV1v e_X11_termOf_95 cl_X11_330 ⟨Nat.le_of_ble_eq_true rfl, Nat.le_of_ble_eq_true rfl⟩ ⟨rfl, rfl⟩ k0 (Nat.le_of_ble_eq_true rfl) (S_X11_sensor hb1 (g5 h70_0 h90_1) (g6 h70_0 h90_1) (g7 h70_0 h90_1) (g8 h70_0 h90_1) (g9 h70_0 h90_1)) ?_
        refine p_istore_n_4_3 e_X11_termOf_98 rfl rfl ?_
        refine r_goto e_X11_termOf_99 ?_
        rw [show v0_0 = (V_X11_sensor (((F_X11_termOf_6  FUEL (0 : Int32) (U_X11_step  M)).2).1 245 ((((F_X11_termOf_6  FUEL (0 : Int32) (U_X11_step  M)).2).1 242 34) + (((F_X11_termOf_6  FUEL (0 : Int32) (U_X11_step  M)).2).1 242 35)).toNatClampNeg) mA (setI ((F_X11_termOf_6  FUEL (0 : Int32) (U_X11_step  M)).2) 242 35 ((((F_X11_termOf_6  FUEL (0 : Int32) (U_X11_step  M)).2).1 242 35) + (1 : Int32)))) from ((e_v0_0.trans (if_neg h70_0)).trans (if_pos h90_1)), show M0_1 = setI ((F_X11_termOf_6  FUEL (0 : Int32) (U_X11_step  M)).2) 242 35 ((((F_X11_termOf_6  FUEL (0 : Int32) (U_X11_step  M)).2).1 242 35) + (1 : Int32)) from ((e_M0_1.trans (if_neg h70_0)).trans (if_pos h90_1))] at j137_0; exact j137_0
    · refine r_aload_n e_X11_termOf_73 rfl ?_
      refine r_aload_n e_X11_termOf_74 rfl ?_
      refine r_getIe e_X11_termOf_75 fl_X11_315 i0 k0 (gs_nI (by decide)) ?_
      refine r_iconst e_X11_termOf_78 ic_4 ?_
      refine r_iload_n e_X11_termOf_79 rfl ?_
      refine r_iadd e_X11_termOf_80 ?_
      refine cV2v e_X11_termOf_81 cl_X11_252 ⟨Nat.le_of_ble_eq_true rfl, Nat.le_of_ble_eq_true rfl⟩ ⟨rfl, rfl⟩ k0 (Nat.le_of_ble_eq_true rfl) (S_X11_of hb1 (g10 h70_0)) ?_
      refine p_istore_n_4_3 e_X11_termOf_84 rfl rfl ?_
      refine r_goto e_X11_termOf_85 ?_
      rw [show v0_0 = (V_X11_of (((F_X11_termOf_6  FUEL (0 : Int32) (U_X11_step  M)).2).1 242 33) ((4 : Int32) + (((F_X11_termOf_6  FUEL (0 : Int32) (U_X11_step  M)).2).1 245 ((((F_X11_termOf_6  FUEL (0 : Int32) (U_X11_step  M)).2).1 242 34) + (((F_X11_termOf_6  FUEL (0 : Int32) (U_X11_step  M)).2).1 242 35)).toNatClampNeg)) mA (setI ((F_X11_termOf_6  FUEL (0 : Int32) (U_X11_step  M)).2) 242 35 ((((F_X11_termOf_6  FUEL (0 : Int32) (U_X11_step  M)).2).1 242 35) + (1 : Int32)))) from (e_v0_0.trans (if_pos h70_0)), show M0_1 = setI ((F_X11_termOf_6  FUEL (0 : Int32) (U_X11_step  M)).2) 242 35 ((((F_X11_termOf_6  FUEL (0 : Int32) (U_X11_step  M)).2).1 242 35) + (1 : Int32)) from (e_M0_1.trans (if_pos h70_0))] at j137_0; exact j137_0
  refine r_iload_n e_X11_termOf_137 rfl ?_
  obtain ⟨v3_0, e_v3_0⟩ : ∃ z : Int32, z = (if ((F_X11_termOf_6  FUEL (0 : Int32) (U_X11_step  M)).1) = 0 then v0_0 else (-v0_0)) := ⟨_, rfl⟩
  suffices j147_3 : WP m_X11_termOf (fun r sh' M'' => r = some (.int (V_X11_termOf mA M)) ∧ sh' = sh ∧ M'' = (U_X11_termOf mA M)) 147 [some (.ref 242), some (.int ((F_X11_termOf_6  FUEL (0 : Int32) (U_X11_step  M)).1)), some (.int (V_X11_here  ((F_X11_termOf_6  FUEL (0 : Int32) (U_X11_step  M)).2))), some (.int v0_0)] [.int v3_0] sh M0_1 0 0 by
    refine r_if_eq e_X11_termOf_138 (fun h138_3 => ?_) (fun h138_3 => ?_)
    · refine r_iload_n e_X11_termOf_146 rfl ?_
      rw [show v3_0 = v0_0 from (e_v3_0.trans (if_pos h138_3))] at j147_3; exact j147_3
    · refine r_iload_n e_X11_termOf_141 rfl ?_
      refine r_ineg e_X11_termOf_142 ?_
      refine r_goto e_X11_termOf_143 ?_
      rw [show v3_0 = (-v0_0) from (e_v3_0.trans (if_neg h138_3))] at j147_3; exact j147_3
  refine r_ireturn e_X11_termOf_147 rfl ⟨rfl, rfl⟩ ?_
  (subst e_v3_0 e_M0_1 e_v0_0; refine ⟨?_, rfl, ?_⟩ <;> ((try unfold V_X11_termOf); (try unfold U_X11_termOf); (try simp only []); (try rfl)))
def F_X2_kickOff_2 (a : Nat) : Nat → Nat → Mem → Mem
  | 0, i2, M => M
  | n + 1, i2, M => (F_X2_kickOff_2 a n (i2 + 1) (U_X5_leave (a + 10 + 2 * i2) M))
theorem L_X2_kickOff_2 {sh : List SC} {Q : Po} {a : Nat}    (hb1 : MatchAt sh a)   : ∀ (n i2 : Nat) (M : Mem), i2 + n = 10 → WP m_X2_kickOff Q 26 [some (.ref a), none, none] [] sh (F_X2_kickOff_2 a n i2 M) 0 0 → WP m_X2_kickOff Q 2 [some (.ref a), some (.int (nI i2)), none] [] sh M 0 0 := by
  have k0 : kd sh a = some (2 + 7, 0) := hb1.1
  have k1 : rf sh a 3 = some (a + 3) := hb1.2.2.2.2.1
  have k2 : kd sh (a + 3) = some (6, 10) := hb1.2.2.2.2.2.2.2.1
  intro n
  induction n with
  | zero =>
    intro i2 M hi hq
    have hz : (10 : Int32) ≤ nI i2 := by
      have q : i2 = 10 := by omega
      rw [q]; exact nI_le (Nat.le_refl _) (by decide)
    refine r_iload_n e_X2_kickOff_2 rfl ?_
    refine r_aload_n e_X2_kickOff_3 rfl ?_
    refine r_getR e_X2_kickOff_4 fl_X2_20 k0 k1 ?_
    refine r_alen (v := (10 : Int32)) e_X2_kickOff_7 k2 (by decide) rfl ?_
    refine r_icmp_ge e_X2_kickOff_8 (fun _ => ?_) (fun hh => absurd hz hh)
    refine d_3_1 ?_
    (simp only [F_X2_kickOff_2] at hq; first | exact hq | (simp only []; exact hq))
  | succ n ih =>
    intro i2 M hi hq
    have hlt_i2 : i2 < 10 := by omega
    have hcl_i2 : (nI i2).toNatClampNeg = i2 := nI_clamp (by omega)
    have hs : ¬ (10 : Int32) ≤ nI i2 := nI_ge (b := 10) hlt_i2 (by decide)
    refine r_iload_n e_X2_kickOff_2 rfl ?_
    refine r_aload_n e_X2_kickOff_3 rfl ?_
    refine r_getR e_X2_kickOff_4 fl_X2_20 k0 k1 ?_
    refine r_alen (v := (10 : Int32)) e_X2_kickOff_7 k2 (by decide) rfl ?_
    refine r_icmp_ge e_X2_kickOff_8 (fun hh => absurd hh hs) (fun _ => ?_)
    refine r_aload_n e_X2_kickOff_11 rfl ?_
    refine r_getR e_X2_kickOff_12 fl_X2_20 k0 k1 ?_
    refine r_iload_n e_X2_kickOff_15 rfl ?_
    refine r_aaload (b := (a + 10 + 2 * i2)) e_X2_kickOff_16 k2 ⟨by decide, by decide⟩ (vp_in_nI (Nat.lt_of_lt_of_le hlt_i2 (by decide)) (by decide)) (by rw [hcl_i2]; exact (hb1.2.2.2.2.2.2.2.2.1 i2 (Nat.lt_of_lt_of_le hlt_i2 (by decide))).1) ?_
    refine cV0u e_X2_kickOff_17 cl_X2_94 ⟨Nat.le_of_ble_eq_true rfl, Nat.le_of_ble_eq_true rfl⟩ ⟨rfl, rfl⟩ (show kd sh (a + 10 + 2 * i2) = some (5 + 7, 0) from (hb1.2.2.2.2.2.2.2.2.1 i2 (Nat.lt_of_lt_of_le hlt_i2 (by decide))).2.1) (Nat.le_of_ble_eq_true rfl) (S_X5_leave (hb1.2.2.2.2.2.2.2.2.1 i2 (Nat.lt_of_lt_of_le hlt_i2 (by decide))).2) ?_
    refine p_iinc_3_1 e_X2_kickOff_20 rfl ic_1 rfl ?_
    rw [nI_1 i2]
    refine r_goto e_X2_kickOff_23 ?_
    (simp only [F_X2_kickOff_2] at hq; first | exact ih (i2 + 1) _ (by omega) hq | (simp only []; exact ih (i2 + 1) _ (by omega) hq))
def F_X2_kickOff_28 (a : Nat) : Nat → Nat → Mem → Mem
  | 0, i28, M => M
  | n + 1, i28, M => (let v2800_0 : Int32 := if (5 : Int32) ≤ (nI i28) then (M.1 a 9) else (M.1 a 8); let M2801_0 : Mem := if v2800_0 < 0 then M else (if (4 : Int32) ≤ v2800_0 then M else (U_X5_join (a + 10 + 2 * i28) (106 + 4 * v2800_0.toNatClampNeg) M)); (F_X2_kickOff_28 a n (i28 + 1) (U_X2_putAtStart a (nI i28) M2801_0)))
theorem L_X2_kickOff_28 {sh : List SC} {Q : Po} {a : Nat}    (hb1 : MatchAt sh a)   : ∀ (n i28 : Nat) (M : Mem), i28 + n = 10 → WP m_X2_kickOff Q 93 [some (.ref a), none, none] [] sh (F_X2_kickOff_28 a n i28 M) 0 0 → WP m_X2_kickOff Q 28 [some (.ref a), some (.int (nI i28)), none] [] sh M 0 0 := by
  have k0 : kd sh a = some (2 + 7, 0) := hb1.1
  have k1 : rf sh a 3 = some (a + 3) := hb1.2.2.2.2.1
  have k2 : kd sh (a + 3) = some (6, 10) := hb1.2.2.2.2.2.2.2.1
  have k3 : rf sh a 0 = some 9 := hb1.2.1
  have k4 : kd sh 9 = some (4, 4) := hb1.2.2.2.2.2.2.2.2.2.2.2.2.2.2.1
  intro n
  induction n with
  | zero =>
    intro i28 M hi hq
    have hz : (10 : Int32) ≤ nI i28 := by
      have q : i28 = 10 := by omega
      rw [q]; exact nI_le (Nat.le_refl _) (by decide)
    refine r_iload_n e_X2_kickOff_28 rfl ?_
    refine r_aload_n e_X2_kickOff_29 rfl ?_
    refine r_getR e_X2_kickOff_30 fl_X2_20 k0 k1 ?_
    refine r_alen (v := (10 : Int32)) e_X2_kickOff_33 k2 (by decide) rfl ?_
    refine r_icmp_ge e_X2_kickOff_34 (fun _ => ?_) (fun hh => absurd hz hh)
    refine d_3_1 ?_
    (simp only [F_X2_kickOff_28] at hq; first | exact hq | (simp only []; exact hq))
  | succ n ih =>
    intro i28 M hi hq
    have hlt_i28 : i28 < 10 := by omega
    have hcl_i28 : (nI i28).toNatClampNeg = i28 := nI_clamp (by omega)
    have hs : ¬ (10 : Int32) ≤ nI i28 := nI_ge (b := 10) hlt_i28 (by decide)
    refine r_iload_n e_X2_kickOff_28 rfl ?_
    refine r_aload_n e_X2_kickOff_29 rfl ?_
    refine r_getR e_X2_kickOff_30 fl_X2_20 k0 k1 ?_
    refine r_alen (v := (10 : Int32)) e_X2_kickOff_33 k2 (by decide) rfl ?_
    refine r_icmp_ge e_X2_kickOff_34 (fun hh => absurd hh hs) (fun _ => ?_)
    refine r_iload_n e_X2_kickOff_37 rfl ?_
    refine r_iconst e_X2_kickOff_38 ic_5 ?_
    obtain ⟨v2800_0, e_v2800_0⟩ : ∃ z : Int32, z = (if (5 : Int32) ≤ (nI i28) then (M.1 a 9) else (M.1 a 8)) := ⟨_, rfl⟩
    suffices j53_2800 : WP m_X2_kickOff Q 53 [some (.ref a), some (.int (nI i28)), none] [.int v2800_0] sh M 0 0 by
      refine r_icmp_ge e_X2_kickOff_39 (fun h39_2800 => ?_) (fun h39_2800 => ?_)
      · refine r_aload_n e_X2_kickOff_49 rfl ?_
        refine r_getI e_X2_kickOff_50 fl_X2_49 i0 k0 ?_
        rw [show v2800_0 = (M.1 a 9) from (e_v2800_0.trans (if_pos h39_2800))] at j53_2800; exact j53_2800
      · refine r_aload_n e_X2_kickOff_42 rfl ?_
        refine r_getI e_X2_kickOff_43 fl_X2_46 i0 k0 ?_
        refine r_goto e_X2_kickOff_46 ?_
        rw [show v2800_0 = (M.1 a 8) from (e_v2800_0.trans (if_neg h39_2800))] at j53_2800; exact j53_2800
    refine p_istore_n_3_2 e_X2_kickOff_53 rfl rfl ?_
    refine r_iload_n e_X2_kickOff_54 rfl ?_
    obtain ⟨M2801_0, e_M2801_0⟩ : ∃ z : Mem, z = (if v2800_0 < 0 then M else (if (4 : Int32) ≤ v2800_0 then M else (U_X5_join (a + 10 + 2 * i28) (106 + 4 * v2800_0.toNatClampNeg) M))) := ⟨_, rfl⟩
    suffices j82_2801 : WP m_X2_kickOff Q 82 [some (.ref a), some (.int (nI i28)), some (.int v2800_0)] [] sh M2801_0 0 0 by
      refine r_if_lt e_X2_kickOff_55 (fun h55_2801 => ?_) (fun h55_2801 => ?_)
      · rw [show M2801_0 = M from (e_M2801_0.trans (if_pos h55_2801))] at j82_2801; exact j82_2801
      · refine r_iload_n e_X2_kickOff_58 rfl ?_
        refine r_aload_n e_X2_kickOff_59 rfl ?_
        refine r_getR e_X2_kickOff_60 fl_X2_52 k0 k3 ?_
        refine r_alen (v := (4 : Int32)) e_X2_kickOff_63 k4 (by decide) rfl ?_
        refine r_icmp_ge e_X2_kickOff_64 (fun h64_2802 => ?_) (fun h64_2802 => ?_)
        · rw [show M2801_0 = M from ((e_M2801_0.trans (if_neg h55_2801)).trans (if_pos h64_2802))] at j82_2801; exact j82_2801
        · refine r_aload_n e_X2_kickOff_67 rfl ?_
          refine r_getR e_X2_kickOff_68 fl_X2_20 k0 k1 ?_
          refine r_iload_n e_X2_kickOff_71 rfl ?_
          refine r_aaload (b := (a + 10 + 2 * i28)) e_X2_kickOff_72 k2 ⟨by decide, by decide⟩ (vp_in_nI (Nat.lt_of_lt_of_le hlt_i28 (by decide)) (by decide)) (by rw [hcl_i28]; exact (hb1.2.2.2.2.2.2.2.2.1 i28 (Nat.lt_of_lt_of_le hlt_i28 (by decide))).1) ?_
          refine r_aload_n e_X2_kickOff_73 rfl ?_
          refine r_getR e_X2_kickOff_74 fl_X2_52 k0 k3 ?_
          refine r_iload_n e_X2_kickOff_77 rfl ?_
          refine r_aaload (b := (106 + 4 * v2800_0.toNatClampNeg)) e_X2_kickOff_78 k4 ⟨by decide, by decide⟩ (vp_guard h55_2801 h64_2802 (by decide)) (hb1.2.2.2.2.2.2.2.2.2.2.2.2.2.2.2 v2800_0.toNatClampNeg (vp_lt (vp_guard h55_2801 h64_2802 (by decide)))).1 ?_
          refine cV1u e_X2_kickOff_79 cl_X2_97 ⟨Nat.le_of_ble_eq_true rfl, Nat.le_of_ble_eq_true rfl⟩ ⟨rfl, rfl⟩ (show kd sh (a + 10 + 2 * i28) = some (5 + 7, 0) from (hb1.2.2.2.2.2.2.2.2.1 i28 (Nat.lt_of_lt_of_le hlt_i28 (by decide))).2.1) (Nat.le_of_ble_eq_true rfl) (S_X5_join (hb1.2.2.2.2.2.2.2.2.1 i28 (Nat.lt_of_lt_of_le hlt_i28 (by decide))).2 (hb1.2.2.2.2.2.2.2.2.2.2.2.2.2.2.2 v2800_0.toNatClampNeg (vp_lt (vp_guard h55_2801 h64_2802 (by decide)))).2) ?_
          rw [show M2801_0 = U_X5_join (a + 10 + 2 * i28) (106 + 4 * v2800_0.toNatClampNeg) M from ((e_M2801_0.trans (if_neg h55_2801)).trans (if_neg h64_2802))] at j82_2801; exact j82_2801
    refine r_aload_n e_X2_kickOff_82 rfl ?_
    refine r_iload_n e_X2_kickOff_83 rfl ?_
    refine cV1u e_X2_kickOff_84 cl_X2_101 ⟨Nat.le_of_ble_eq_true rfl, Nat.le_of_ble_eq_true rfl⟩ ⟨rfl, rfl⟩ k0 (Nat.le_of_ble_eq_true rfl) (S_X2_putAtStart hb1) ?_
    refine p_iinc_3_1 e_X2_kickOff_87 rfl ic_1 rfl ?_
    rw [nI_1 i28]
    refine r_goto e_X2_kickOff_90 ?_
    refine d_3_2 ?_
    (subst e_M2801_0 e_v2800_0; simp only [F_X2_kickOff_28] at hq; first | exact ih (i28 + 1) _ (by omega) hq | (simp only []; exact ih (i28 + 1) _ (by omega) hq))
def F_X2_kickOff_106 (a : Nat) : Nat → Nat → Mem → Mem
  | 0, i106, M => M
  | n + 1, i106, M => (F_X2_kickOff_106 a n (i106 + 1) (U_X5_see (a + 10 + 2 * i106) (M.1 (a + 4) 0) (M.1 (a + 4) 1) M))
theorem L_X2_kickOff_106 {sh : List SC} {Q : Po} {a : Nat}    (hb1 : MatchAt sh a)   : ∀ (n i106 : Nat) (M : Mem), i106 + n = 10 → WP m_X2_kickOff Q 144 [some (.ref a), none, none] [] sh (F_X2_kickOff_106 a n i106 M) 0 0 → WP m_X2_kickOff Q 106 [some (.ref a), some (.int (nI i106)), none] [] sh M 0 0 := by
  have k0 : kd sh a = some (2 + 7, 0) := hb1.1
  have k1 : rf sh a 3 = some (a + 3) := hb1.2.2.2.2.1
  have k2 : kd sh (a + 3) = some (6, 10) := hb1.2.2.2.2.2.2.2.1
  have k3 : rf sh a 4 = some (a + 4) := hb1.2.2.2.2.2.1
  have k4 : kd sh (a + 4) = some (0 + 7, 0) := hb1.2.2.2.2.2.2.2.2.2.1.1
  intro n
  induction n with
  | zero =>
    intro i106 M hi hq
    have hz : (10 : Int32) ≤ nI i106 := by
      have q : i106 = 10 := by omega
      rw [q]; exact nI_le (Nat.le_refl _) (by decide)
    refine r_iload_n e_X2_kickOff_106 rfl ?_
    refine r_aload_n e_X2_kickOff_107 rfl ?_
    refine r_getR e_X2_kickOff_108 fl_X2_20 k0 k1 ?_
    refine r_alen (v := (10 : Int32)) e_X2_kickOff_111 k2 (by decide) rfl ?_
    refine r_icmp_ge e_X2_kickOff_112 (fun _ => ?_) (fun hh => absurd hz hh)
    refine d_3_1 ?_
    (simp only [F_X2_kickOff_106] at hq; first | exact hq | (simp only []; exact hq))
  | succ n ih =>
    intro i106 M hi hq
    have hlt_i106 : i106 < 10 := by omega
    have hcl_i106 : (nI i106).toNatClampNeg = i106 := nI_clamp (by omega)
    have hs : ¬ (10 : Int32) ≤ nI i106 := nI_ge (b := 10) hlt_i106 (by decide)
    refine r_iload_n e_X2_kickOff_106 rfl ?_
    refine r_aload_n e_X2_kickOff_107 rfl ?_
    refine r_getR e_X2_kickOff_108 fl_X2_20 k0 k1 ?_
    refine r_alen (v := (10 : Int32)) e_X2_kickOff_111 k2 (by decide) rfl ?_
    refine r_icmp_ge e_X2_kickOff_112 (fun hh => absurd hh hs) (fun _ => ?_)
    refine r_aload_n e_X2_kickOff_115 rfl ?_
    refine r_getR e_X2_kickOff_116 fl_X2_20 k0 k1 ?_
    refine r_iload_n e_X2_kickOff_119 rfl ?_
    refine r_aaload (b := (a + 10 + 2 * i106)) e_X2_kickOff_120 k2 ⟨by decide, by decide⟩ (vp_in_nI (Nat.lt_of_lt_of_le hlt_i106 (by decide)) (by decide)) (by rw [hcl_i106]; exact (hb1.2.2.2.2.2.2.2.2.1 i106 (Nat.lt_of_lt_of_le hlt_i106 (by decide))).1) ?_
    refine r_aload_n e_X2_kickOff_121 rfl ?_
    refine r_getR e_X2_kickOff_122 fl_X2_27 k0 k3 ?_
    refine r_getI e_X2_kickOff_125 fl_X2_110 i0 k4 ?_
    refine r_aload_n e_X2_kickOff_128 rfl ?_
    refine r_getR e_X2_kickOff_129 fl_X2_27 k0 k3 ?_
    refine r_getI e_X2_kickOff_132 fl_X2_113 i0 k4 ?_
    refine cV2u e_X2_kickOff_135 cl_X2_116 ⟨Nat.le_of_ble_eq_true rfl, Nat.le_of_ble_eq_true rfl⟩ ⟨rfl, rfl⟩ (show kd sh (a + 10 + 2 * i106) = some (5 + 7, 0) from (hb1.2.2.2.2.2.2.2.2.1 i106 (Nat.lt_of_lt_of_le hlt_i106 (by decide))).2.1) (Nat.le_of_ble_eq_true rfl) (S_X5_see (hb1.2.2.2.2.2.2.2.2.1 i106 (Nat.lt_of_lt_of_le hlt_i106 (by decide))).2) ?_
    refine p_iinc_3_1 e_X2_kickOff_138 rfl ic_1 rfl ?_
    rw [nI_1 i106]
    refine r_goto e_X2_kickOff_141 ?_
    (simp only [F_X2_kickOff_106] at hq; first | exact ih (i106 + 1) _ (by omega) hq | (simp only []; exact ih (i106 + 1) _ (by omega) hq))
def U_X2_kickOff (a : Nat) (M : Mem) : Mem := (F_X2_kickOff_106 a 10 0 (U_X0_forget (a + 4) (U_X2_putBall a (F_X2_kickOff_28 a 10 0 (F_X2_kickOff_2 a 10 0 M)))))
theorem S_X2_kickOff {sh : List SC} {M : Mem} {a : Nat}  (hb1 : MatchAt sh a)  : Gu m_X2_kickOff [.ref a] sh M (U_X2_kickOff a M) := by
  refine Sp.of (ls := [some (.ref a), none, none]) (by decide +kernel) (Nat.le_of_ble_eq_true rfl) rfl ?_
  have k0 : kd sh a = some (2 + 7, 0) := hb1.1
  have k1 : rf sh a 4 = some (a + 4) := hb1.2.2.2.2.2.1
  have k2 : kd sh (a + 4) = some (0 + 7, 0) := hb1.2.2.2.2.2.2.2.2.2.1.1
  refine r_iconst e_X2_kickOff_0 ic_0 ?_
  refine p_istore_n_3_1 e_X2_kickOff_1 rfl rfl ?_
  skip
  show WP m_X2_kickOff _ 2 [some (.ref a), some (.int (nI 0)), none] [] sh M 0 0
  refine L_X2_kickOff_2 hb1 10 0  M (by omega) ?_
  refine r_iconst e_X2_kickOff_26 ic_0 ?_
  refine p_istore_n_3_1 e_X2_kickOff_27 rfl rfl ?_
  skip
  show WP m_X2_kickOff _ 28 [some (.ref a), some (.int (nI 0)), none] [] sh (F_X2_kickOff_2 a 10 0 M) 0 0
  refine L_X2_kickOff_28 hb1 10 0  (F_X2_kickOff_2 a 10 0 M) (by omega) ?_
  refine r_aload_n e_X2_kickOff_93 rfl ?_
  refine cV0u e_X2_kickOff_94 cl_X2_104 ⟨Nat.le_of_ble_eq_true rfl, Nat.le_of_ble_eq_true rfl⟩ ⟨rfl, rfl⟩ k0 (Nat.le_of_ble_eq_true rfl) (S_X2_putBall hb1) ?_
  refine r_aload_n e_X2_kickOff_97 rfl ?_
  refine r_getR e_X2_kickOff_98 fl_X2_27 k0 k1 ?_
  refine cV0u e_X2_kickOff_101 cl_X2_107 ⟨Nat.le_of_ble_eq_true rfl, Nat.le_of_ble_eq_true rfl⟩ ⟨rfl, rfl⟩ k2 (Nat.le_of_ble_eq_true rfl) (S_X0_forget hb1.2.2.2.2.2.2.2.2.2.1) ?_
  refine r_iconst e_X2_kickOff_104 ic_0 ?_
  refine p_istore_n_3_1 e_X2_kickOff_105 rfl rfl ?_
  skip
  show WP m_X2_kickOff _ 106 [some (.ref a), some (.int (nI 0)), none] [] sh (U_X0_forget (a + 4) (U_X2_putBall a (F_X2_kickOff_28 a 10 0 (F_X2_kickOff_2 a 10 0 M)))) 0 0
  refine L_X2_kickOff_106 hb1 10 0  (U_X0_forget (a + 4) (U_X2_putBall a (F_X2_kickOff_28 a 10 0 (F_X2_kickOff_2 a 10 0 M)))) (by omega) ?_
  refine r_return e_X2_kickOff_144 rfl ⟨rfl, rfl⟩ ?_
  (refine ⟨?_, rfl, ?_⟩ <;> ((try unfold U_X2_kickOff); (try simp only []); (try rfl)))
def V_X2_applyLaws (a : Nat) (x1 : Int32) (M : Mem) : Int32 := if x1 = 0 then (if (V_X0_hasSlept (a + 4) M) = 0 then (if ((U_X0_hasSlept (a + 4) M).1 (a + 4) 2) < 0 then (let v3_0 : Int32 := if (V_X2_thinsCrowd a (0 : Int32) (U_X0_hasSlept (a + 4) M)) = 0 then (if (V_X2_thinsCrowd a (1 : Int32) (U_X2_thinsCrowd a (0 : Int32) (U_X0_hasSlept (a + 4) M))) = 0 then (-1 : Int32) else (3 : Int32)) else (3 : Int32); let M3_1 : Mem := if (V_X2_thinsCrowd a (0 : Int32) (U_X0_hasSlept (a + 4) M)) = 0 then (U_X2_thinsCrowd a (1 : Int32) (U_X2_thinsCrowd a (0 : Int32) (U_X0_hasSlept (a + 4) M))) else (U_X2_thinsCrowd a (0 : Int32) (U_X0_hasSlept (a + 4) M)); v3_0) else (if (((U_X0_hasSlept (a + 4) M).1 a 7) - ((U_X0_hasSlept (a + 4) M).1 (a + 4) 3)) < (12 : Int32) then (let v6_0 : Int32 := if (V_X2_thinsCrowd a (0 : Int32) (U_X0_hasSlept (a + 4) M)) = 0 then (if (V_X2_thinsCrowd a (1 : Int32) (U_X2_thinsCrowd a (0 : Int32) (U_X0_hasSlept (a + 4) M))) = 0 then (-1 : Int32) else (3 : Int32)) else (3 : Int32); let M6_1 : Mem := if (V_X2_thinsCrowd a (0 : Int32) (U_X0_hasSlept (a + 4) M)) = 0 then (U_X2_thinsCrowd a (1 : Int32) (U_X2_thinsCrowd a (0 : Int32) (U_X0_hasSlept (a + 4) M))) else (U_X2_thinsCrowd a (0 : Int32) (U_X0_hasSlept (a + 4) M)); v6_0) else (2 : Int32))) else (1 : Int32)) else (let v8_0 : Int32 := if x1 = (2 : Int32) then (1 : Int32) else (0 : Int32); (0 : Int32))
def U_X2_applyLaws (a : Nat) (x1 : Int32) (M : Mem) : Mem := if x1 = 0 then (if (V_X0_hasSlept (a + 4) M) = 0 then (if ((U_X0_hasSlept (a + 4) M).1 (a + 4) 2) < 0 then (let v3_0 : Int32 := if (V_X2_thinsCrowd a (0 : Int32) (U_X0_hasSlept (a + 4) M)) = 0 then (if (V_X2_thinsCrowd a (1 : Int32) (U_X2_thinsCrowd a (0 : Int32) (U_X0_hasSlept (a + 4) M))) = 0 then (-1 : Int32) else (3 : Int32)) else (3 : Int32); let M3_1 : Mem := if (V_X2_thinsCrowd a (0 : Int32) (U_X0_hasSlept (a + 4) M)) = 0 then (U_X2_thinsCrowd a (1 : Int32) (U_X2_thinsCrowd a (0 : Int32) (U_X0_hasSlept (a + 4) M))) else (U_X2_thinsCrowd a (0 : Int32) (U_X0_hasSlept (a + 4) M)); M3_1) else (if (((U_X0_hasSlept (a + 4) M).1 a 7) - ((U_X0_hasSlept (a + 4) M).1 (a + 4) 3)) < (12 : Int32) then (let v6_0 : Int32 := if (V_X2_thinsCrowd a (0 : Int32) (U_X0_hasSlept (a + 4) M)) = 0 then (if (V_X2_thinsCrowd a (1 : Int32) (U_X2_thinsCrowd a (0 : Int32) (U_X0_hasSlept (a + 4) M))) = 0 then (-1 : Int32) else (3 : Int32)) else (3 : Int32); let M6_1 : Mem := if (V_X2_thinsCrowd a (0 : Int32) (U_X0_hasSlept (a + 4) M)) = 0 then (U_X2_thinsCrowd a (1 : Int32) (U_X2_thinsCrowd a (0 : Int32) (U_X0_hasSlept (a + 4) M))) else (U_X2_thinsCrowd a (0 : Int32) (U_X0_hasSlept (a + 4) M)); M6_1) else (U_X2_giveToFoe a (U_X0_hasSlept (a + 4) M)))) else (U_X2_putBall a (U_X0_hasSlept (a + 4) M))) else (let v8_0 : Int32 := if x1 = (2 : Int32) then (1 : Int32) else (0 : Int32); U_X2_kickOff a (U_X7_addGoal (a + 7) v8_0 (M.1 a 7) M))
def P_X2_applyLaws (a : Nat) (x1 : Int32) (M : Mem) : Prop := (x1 = 0 → (V_X0_hasSlept (a + 4) M) = 0 → ¬ (((U_X0_hasSlept (a + 4) M).1 (a + 4) 2) < 0) → ¬ ((((U_X0_hasSlept (a + 4) M).1 a 7) - ((U_X0_hasSlept (a + 4) M).1 (a + 4) 3)) < (12 : Int32)) → P_X2_giveToFoe a (U_X0_hasSlept (a + 4) M))
theorem S_X2_applyLaws {sh : List SC} {M : Mem} {a : Nat} {x1 : Int32}  (hb1 : MatchAt sh a)  (hP : P_X2_applyLaws a x1 M) : Gv m_X2_applyLaws [.ref a, .int x1] sh M (.int (V_X2_applyLaws a x1 M)) (U_X2_applyLaws a x1 M) := by
  refine Sp.of (ls := [some (.ref a), some (.int x1)]) (by decide +kernel) (Nat.le_of_ble_eq_true rfl) rfl ?_
  have g1 : x1 = 0 → (V_X0_hasSlept (a + 4) M) = 0 → ¬ (((U_X0_hasSlept (a + 4) M).1 (a + 4) 2) < 0) → ¬ ((((U_X0_hasSlept (a + 4) M).1 a 7) - ((U_X0_hasSlept (a + 4) M).1 (a + 4) 3)) < (12 : Int32)) → P_X2_giveToFoe a (U_X0_hasSlept (a + 4) M) := hP
  have k0 : kd sh a = some (2 + 7, 0) := hb1.1
  have k1 : rf sh a 4 = some (a + 4) := hb1.2.2.2.2.2.1
  have k2 : kd sh (a + 4) = some (0 + 7, 0) := hb1.2.2.2.2.2.2.2.2.2.1.1
  have k3 : rf sh a 5 = some (a + 7) := hb1.2.2.2.2.2.2.1
  have k4 : kd sh (a + 7) = some (7 + 7, 0) := hb1.2.2.2.2.2.2.2.2.2.2.1.1
  refine r_iload_n e_X2_applyLaws_0 rfl ?_
  refine r_if_eq e_X2_applyLaws_1 (fun h1_0 => ?_) (fun h1_0 => ?_)
  · refine r_aload_n e_X2_applyLaws_31 rfl ?_
    refine r_getR e_X2_applyLaws_32 fl_X2_27 k0 k1 ?_
    refine cV0v e_X2_applyLaws_35 cl_X2_251 ⟨Nat.le_of_ble_eq_true rfl, Nat.le_of_ble_eq_true rfl⟩ ⟨rfl, rfl⟩ k2 (Nat.le_of_ble_eq_true rfl) (S_X0_hasSlept hb1.2.2.2.2.2.2.2.2.2.1) ?_
    refine r_if_eq e_X2_applyLaws_38 (fun h38_1 => ?_) (fun h38_1 => ?_)
    · refine r_aload_n e_X2_applyLaws_47 rfl ?_
      refine r_getR e_X2_applyLaws_48 fl_X2_27 k0 k1 ?_
      refine r_getI e_X2_applyLaws_51 fl_X2_132 i0 k2 ?_
      refine r_if_lt e_X2_applyLaws_54 (fun h54_2 => ?_) (fun h54_2 => ?_)
      · refine r_aload_n e_X2_applyLaws_80 rfl ?_
        refine r_iconst e_X2_applyLaws_81 ic_0 ?_
        refine cV1v e_X2_applyLaws_82 cl_X2_258 ⟨Nat.le_of_ble_eq_true rfl, Nat.le_of_ble_eq_true rfl⟩ ⟨rfl, rfl⟩ k0 (Nat.le_of_ble_eq_true rfl) (S_X2_thinsCrowd hb1) ?_
        obtain ⟨v3_0, e_v3_0⟩ : ∃ z : Int32, z = (if (V_X2_thinsCrowd a (0 : Int32) (U_X0_hasSlept (a + 4) M)) = 0 then (if (V_X2_thinsCrowd a (1 : Int32) (U_X2_thinsCrowd a (0 : Int32) (U_X0_hasSlept (a + 4) M))) = 0 then (-1 : Int32) else (3 : Int32)) else (3 : Int32)) := ⟨_, rfl⟩
        obtain ⟨M3_1, e_M3_1⟩ : ∃ z : Mem, z = (if (V_X2_thinsCrowd a (0 : Int32) (U_X0_hasSlept (a + 4) M)) = 0 then (U_X2_thinsCrowd a (1 : Int32) (U_X2_thinsCrowd a (0 : Int32) (U_X0_hasSlept (a + 4) M))) else (U_X2_thinsCrowd a (0 : Int32) (U_X0_hasSlept (a + 4) M))) := ⟨_, rfl⟩
        suffices j101_3 : WP m_X2_applyLaws (fun r sh' M'' => r = some (.int (V_X2_applyLaws a x1 M)) ∧ sh' = sh ∧ M'' = (U_X2_applyLaws a x1 M)) 101 [some (.ref a), some (.int x1)] [.int v3_0] sh M3_1 0 0 by
          refine r_if_ne e_X2_applyLaws_85 (fun h85_3 => ?_) (fun h85_3 => ?_)
          · refine r_iconst e_X2_applyLaws_96 ic_3 ?_
            refine r_goto e_X2_applyLaws_97 ?_
            rw [show v3_0 = (3 : Int32) from (e_v3_0.trans (if_neg h85_3)), show M3_1 = U_X2_thinsCrowd a (0 : Int32) (U_X0_hasSlept (a + 4) M) from (e_M3_1.trans (if_neg h85_3))] at j101_3; exact j101_3
          · refine r_aload_n e_X2_applyLaws_88 rfl ?_
            refine r_iconst e_X2_applyLaws_89 ic_1 ?_
            refine cV1v e_X2_applyLaws_90 cl_X2_258 ⟨Nat.le_of_ble_eq_true rfl, Nat.le_of_ble_eq_true rfl⟩ ⟨rfl, rfl⟩ k0 (Nat.le_of_ble_eq_true rfl) (S_X2_thinsCrowd hb1) ?_
            refine r_if_eq e_X2_applyLaws_93 (fun h93_4 => ?_) (fun h93_4 => ?_)
            · refine r_iconst e_X2_applyLaws_100 ic_m1 ?_
              rw [show v3_0 = (-1 : Int32) from ((e_v3_0.trans (if_pos h85_3)).trans (if_pos h93_4)), show M3_1 = U_X2_thinsCrowd a (1 : Int32) (U_X2_thinsCrowd a (0 : Int32) (U_X0_hasSlept (a + 4) M)) from (e_M3_1.trans (if_pos h85_3))] at j101_3; exact j101_3
            · refine r_iconst e_X2_applyLaws_96 ic_3 ?_
              refine r_goto e_X2_applyLaws_97 ?_
              rw [show v3_0 = (3 : Int32) from ((e_v3_0.trans (if_pos h85_3)).trans (if_neg h93_4)), show M3_1 = U_X2_thinsCrowd a (1 : Int32) (U_X2_thinsCrowd a (0 : Int32) (U_X0_hasSlept (a + 4) M)) from (e_M3_1.trans (if_pos h85_3))] at j101_3; exact j101_3
        refine r_ireturn e_X2_applyLaws_101 rfl ⟨rfl, rfl⟩ ?_
        (subst e_M3_1 e_v3_0; refine ⟨?_, rfl, ?_⟩ <;> ((try unfold V_X2_applyLaws); (try unfold U_X2_applyLaws); (try simp only [if_pos h1_0, if_pos h38_1, if_pos h54_2]); (try rfl)))
      · refine r_aload_n e_X2_applyLaws_57 rfl ?_
        refine r_getI e_X2_applyLaws_58 fl_X2_42 i0 k0 ?_
        refine r_aload_n e_X2_applyLaws_61 rfl ?_
        refine r_getR e_X2_applyLaws_62 fl_X2_27 k0 k1 ?_
        refine r_getI e_X2_applyLaws_65 fl_X2_232 i0 k2 ?_
        refine r_isub e_X2_applyLaws_68 ?_
        refine r_bipush e_X2_applyLaws_69 bp_12 ?_
        refine r_icmp_lt e_X2_applyLaws_71 (fun h71_5 => ?_) (fun h71_5 => ?_)
        · refine r_aload_n e_X2_applyLaws_80 rfl ?_
          refine r_iconst e_X2_applyLaws_81 ic_0 ?_
          refine cV1v e_X2_applyLaws_82 cl_X2_258 ⟨Nat.le_of_ble_eq_true rfl, Nat.le_of_ble_eq_true rfl⟩ ⟨rfl, rfl⟩ k0 (Nat.le_of_ble_eq_true rfl) (S_X2_thinsCrowd hb1) ?_
          obtain ⟨v6_0, e_v6_0⟩ : ∃ z : Int32, z = (if (V_X2_thinsCrowd a (0 : Int32) (U_X0_hasSlept (a + 4) M)) = 0 then (if (V_X2_thinsCrowd a (1 : Int32) (U_X2_thinsCrowd a (0 : Int32) (U_X0_hasSlept (a + 4) M))) = 0 then (-1 : Int32) else (3 : Int32)) else (3 : Int32)) := ⟨_, rfl⟩
          obtain ⟨M6_1, e_M6_1⟩ : ∃ z : Mem, z = (if (V_X2_thinsCrowd a (0 : Int32) (U_X0_hasSlept (a + 4) M)) = 0 then (U_X2_thinsCrowd a (1 : Int32) (U_X2_thinsCrowd a (0 : Int32) (U_X0_hasSlept (a + 4) M))) else (U_X2_thinsCrowd a (0 : Int32) (U_X0_hasSlept (a + 4) M))) := ⟨_, rfl⟩
          suffices j101_6 : WP m_X2_applyLaws (fun r sh' M'' => r = some (.int (V_X2_applyLaws a x1 M)) ∧ sh' = sh ∧ M'' = (U_X2_applyLaws a x1 M)) 101 [some (.ref a), some (.int x1)] [.int v6_0] sh M6_1 0 0 by
            refine r_if_ne e_X2_applyLaws_85 (fun h85_6 => ?_) (fun h85_6 => ?_)
            · refine r_iconst e_X2_applyLaws_96 ic_3 ?_
              refine r_goto e_X2_applyLaws_97 ?_
              rw [show v6_0 = (3 : Int32) from (e_v6_0.trans (if_neg h85_6)), show M6_1 = U_X2_thinsCrowd a (0 : Int32) (U_X0_hasSlept (a + 4) M) from (e_M6_1.trans (if_neg h85_6))] at j101_6; exact j101_6
            · refine r_aload_n e_X2_applyLaws_88 rfl ?_
              refine r_iconst e_X2_applyLaws_89 ic_1 ?_
              refine cV1v e_X2_applyLaws_90 cl_X2_258 ⟨Nat.le_of_ble_eq_true rfl, Nat.le_of_ble_eq_true rfl⟩ ⟨rfl, rfl⟩ k0 (Nat.le_of_ble_eq_true rfl) (S_X2_thinsCrowd hb1) ?_
              refine r_if_eq e_X2_applyLaws_93 (fun h93_7 => ?_) (fun h93_7 => ?_)
              · refine r_iconst e_X2_applyLaws_100 ic_m1 ?_
                rw [show v6_0 = (-1 : Int32) from ((e_v6_0.trans (if_pos h85_6)).trans (if_pos h93_7)), show M6_1 = U_X2_thinsCrowd a (1 : Int32) (U_X2_thinsCrowd a (0 : Int32) (U_X0_hasSlept (a + 4) M)) from (e_M6_1.trans (if_pos h85_6))] at j101_6; exact j101_6
              · refine r_iconst e_X2_applyLaws_96 ic_3 ?_
                refine r_goto e_X2_applyLaws_97 ?_
                rw [show v6_0 = (3 : Int32) from ((e_v6_0.trans (if_pos h85_6)).trans (if_neg h93_7)), show M6_1 = U_X2_thinsCrowd a (1 : Int32) (U_X2_thinsCrowd a (0 : Int32) (U_X0_hasSlept (a + 4) M)) from (e_M6_1.trans (if_pos h85_6))] at j101_6; exact j101_6
          refine r_ireturn e_X2_applyLaws_101 rfl ⟨rfl, rfl⟩ ?_
          (subst e_M6_1 e_v6_0; refine ⟨?_, rfl, ?_⟩ <;> ((try unfold V_X2_applyLaws); (try unfold U_X2_applyLaws); (try simp only [if_pos h1_0, if_pos h38_1, if_neg h54_2, if_pos h71_5]); (try rfl)))
        · refine r_aload_n e_X2_applyLaws_74 rfl ?_
          refine cV0u e_X2_applyLaws_75 cl_X2_255 ⟨Nat.le_of_ble_eq_true rfl, Nat.le_of_ble_eq_true rfl⟩ ⟨rfl, rfl⟩ k0 (Nat.le_of_ble_eq_true rfl) (S_X2_giveToFoe hb1 (g1 h1_0 h38_1 h54_2 h71_5)) ?_
          refine r_iconst e_X2_applyLaws_78 ic_2 ?_
          refine r_ireturn e_X2_applyLaws_79 rfl ⟨rfl, rfl⟩ ?_
          (refine ⟨?_, rfl, ?_⟩ <;> ((try unfold V_X2_applyLaws); (try unfold U_X2_applyLaws); (try simp only [if_pos h1_0, if_pos h38_1, if_neg h54_2, if_neg h71_5]); (try rfl)))
    · refine r_aload_n e_X2_applyLaws_41 rfl ?_
      refine cV0u e_X2_applyLaws_42 cl_X2_104 ⟨Nat.le_of_ble_eq_true rfl, Nat.le_of_ble_eq_true rfl⟩ ⟨rfl, rfl⟩ k0 (Nat.le_of_ble_eq_true rfl) (S_X2_putBall hb1) ?_
      refine r_iconst e_X2_applyLaws_45 ic_1 ?_
      refine r_ireturn e_X2_applyLaws_46 rfl ⟨rfl, rfl⟩ ?_
      (refine ⟨?_, rfl, ?_⟩ <;> ((try unfold V_X2_applyLaws); (try unfold U_X2_applyLaws); (try simp only [if_pos h1_0, if_neg h38_1]); (try rfl)))
  · refine r_aload_n e_X2_applyLaws_4 rfl ?_
    refine r_getR e_X2_applyLaws_5 fl_X2_34 k0 k3 ?_
    refine r_iload_n e_X2_applyLaws_8 rfl ?_
    refine r_iconst e_X2_applyLaws_9 ic_2 ?_
    obtain ⟨v8_0, e_v8_0⟩ : ∃ z : Int32, z = (if x1 = (2 : Int32) then (1 : Int32) else (0 : Int32)) := ⟨_, rfl⟩
    have z_v8_0 : v8_0 = 0 ∨ v8_0 = 1 := by rw [e_v8_0]; exact (zi (Or.inr rfl) (Or.inl rfl))
    suffices j18_8 : WP m_X2_applyLaws (fun r sh' M'' => r = some (.int (V_X2_applyLaws a x1 M)) ∧ sh' = sh ∧ M'' = (U_X2_applyLaws a x1 M)) 18 [some (.ref a), some (.int x1)] [.int v8_0, .ref (a + 7)] sh M 0 0 by
      refine r_icmp_ne e_X2_applyLaws_10 (fun h10_8 => ?_) (fun h10_8 => ?_)
      · refine r_iconst e_X2_applyLaws_17 ic_0 ?_
        rw [show v8_0 = (0 : Int32) from (e_v8_0.trans (if_neg h10_8))] at j18_8; exact j18_8
      · refine r_iconst e_X2_applyLaws_13 ic_1 ?_
        refine r_goto e_X2_applyLaws_14 ?_
        rw [show v8_0 = (1 : Int32) from (e_v8_0.trans (if_pos h10_8))] at j18_8; exact j18_8
    refine r_aload_n e_X2_applyLaws_18 rfl ?_
    refine r_getI e_X2_applyLaws_19 fl_X2_42 i0 k0 ?_
    refine cV2u e_X2_applyLaws_22 cl_X2_247 ⟨Nat.le_of_ble_eq_true rfl, Nat.le_of_ble_eq_true rfl⟩ ⟨rfl, rfl⟩ k4 (Nat.le_of_ble_eq_true rfl) (S_X7_addGoal hb1.2.2.2.2.2.2.2.2.2.2.1) ?_
    refine r_aload_n e_X2_applyLaws_25 rfl ?_
    refine cV0u e_X2_applyLaws_26 cl_X2_70 ⟨Nat.le_of_ble_eq_true rfl, Nat.le_of_ble_eq_true rfl⟩ ⟨rfl, rfl⟩ k0 (Nat.le_of_ble_eq_true rfl) (S_X2_kickOff hb1) ?_
    refine r_iconst e_X2_applyLaws_29 ic_0 ?_
    refine r_ireturn e_X2_applyLaws_30 rfl ⟨rfl, rfl⟩ ?_
    (subst e_v8_0; refine ⟨?_, rfl, ?_⟩ <;> ((try unfold V_X2_applyLaws); (try unfold U_X2_applyLaws); (try simp only [if_neg h1_0]); (try rfl)))
def F_X11_product_5 : Nat → Int32 → Mem → Int32 × Mem
  | 0, u1, M => (u1, M)
  | n + 1, u1, M => if u1 = 0 then (u1, M) else (if (M.1 242 5) = (42 : Int32) then (F_X11_product_5  n (V_X11_term  (U_X11_keepWord  M)) (U_X11_term  (U_X11_keepWord  M))) else (u1, M))
def T_X11_product_5 : Nat → Int32 → Mem → Prop
  | 0, u1, M => False
  | n + 1, u1, M => (vp_in (((800 : Int32) * (M.1 242 8)) + (M.1 242 11)) 4800) ∧ (P_X11_keepWord  M) ∧ (P_X11_term  (U_X11_keepWord  M)) ∧ (if u1 = 0 then True else (if (M.1 242 5) = (42 : Int32) then (T_X11_product_5  n (V_X11_term  (U_X11_keepWord  M)) (U_X11_term  (U_X11_keepWord  M))) else True))
theorem L_X11_product_5 {sh : List SC} {Q : Po}  {mA : Nat} {oA : Nat}   (hb1 : ModelAt sh mA oA)   : ∀ (n : Nat) (u1 : Int32) (M : Mem), T_X11_product_5  n u1 M → WP m_X11_product Q 31 [some (.ref 242), some (.int ((F_X11_product_5  n u1 M).1))] [] sh ((F_X11_product_5  n u1 M).2) 0 0 → WP m_X11_product Q 5 [some (.ref 242), some (.int u1)] [] sh M 0 0 := by
  have k0 : kd sh 242 = some (10 + 7, 0) := hb1.1
  intro n
  induction n with
  | zero =>
    intro u1 M hH hq
    exact hH.elim
  | succ n ih =>
    intro u1 M hH hq
    unfold T_X11_product_5 at hH
    obtain ⟨g1, g2, g3, hH⟩ := hH
    refine r_iload_n e_X11_product_5 rfl ?_
    refine r_if_eq e_X11_product_6 (fun h6_500 => ?_) (fun h6_500 => ?_)
    · (simp only [F_X11_product_5, if_pos h6_500] at hq; first | exact hq | (simp only [if_pos h6_500]; exact hq))
    · refine r_aload_n e_X11_product_9 rfl ?_
      refine r_getI e_X11_product_10 fl_X11_28 i0 k0 ?_
      refine r_bipush e_X11_product_13 bp_42 ?_
      refine r_icmp_ne e_X11_product_15 (fun h15_501 => ?_) (fun h15_501 => ?_)
      · (simp only [F_X11_product_5, if_neg h6_500, if_neg h15_501] at hq; first | exact hq | (simp only [if_neg h6_500, if_neg h15_501]; exact hq))
      · refine r_aload_n e_X11_product_18 rfl ?_
        refine cV0v e_X11_product_19 cl_X11_117 ⟨Nat.le_of_ble_eq_true rfl, Nat.le_of_ble_eq_true rfl⟩ ⟨rfl, rfl⟩ k0 (Nat.le_of_ble_eq_true rfl) (S_X11_keepWord hb1 g1 g2) ?_
        refine r_pop e_X11_product_22 rfl ?_
        refine r_aload_n e_X11_product_23 rfl ?_
        refine cV0v e_X11_product_24 cl_X11_144 ⟨Nat.le_of_ble_eq_true rfl, Nat.le_of_ble_eq_true rfl⟩ ⟨rfl, rfl⟩ k0 (Nat.le_of_ble_eq_true rfl) (S_X11_term hb1 g3) ?_
        refine p_istore_n_2_1 e_X11_product_27 rfl rfl ?_
        refine r_goto e_X11_product_28 ?_
        (simp only [F_X11_product_5, if_neg h6_500, if_pos h15_501] at hq; (try simp only [if_neg h6_500, if_pos h15_501] at hH); first | exact ih _ _ hH hq | (simp only [if_neg h6_500, if_pos h15_501]; exact ih _ _ hH hq))
theorem ZF_X11_product_5 : ∀ (n : Nat) (u1 : Int32) (M : Mem), (u1 = 0 ∨ u1 = 1) → (F_X11_product_5  n u1 M).1 = 0 ∨ (F_X11_product_5  n u1 M).1 = 1 := by
  intro n
  induction n with
  | zero => intro u1 M h; exact h
  | succ n ih => intro u1 M h; unfold F_X11_product_5; (try dsimp only); (repeat' split) <;> first | exact h | exact Or.inl rfl | exact Or.inr rfl | exact ih _ _ Z_X11_term | exact ih _ _ (Or.inl rfl) | exact ih _ _ (Or.inr rfl)
def V_X11_product (M : Mem) : Int32 := ((F_X11_product_5  FUEL (V_X11_term  M) (U_X11_term  M)).1)
theorem Z_X11_product {M : Mem}    : V_X11_product  M = 0 ∨ V_X11_product  M = 1 := (ZF_X11_product_5 _ _ _ Z_X11_term)
def U_X11_product (M : Mem) : Mem := ((F_X11_product_5  FUEL (V_X11_term  M) (U_X11_term  M)).2)
def P_X11_product (M : Mem) : Prop := (P_X11_term  M) ∧ (T_X11_product_5  FUEL (V_X11_term  M) (U_X11_term  M))
theorem S_X11_product {sh : List SC} {M : Mem}  {mA : Nat} {oA : Nat} (hb1 : ModelAt sh mA oA)  (hP : P_X11_product  M) : Gv m_X11_product [.ref 242] sh M (.int (V_X11_product  M)) (U_X11_product  M) := by
  refine Sp.of (ls := [some (.ref 242), none]) (by decide +kernel) (Nat.le_of_ble_eq_true rfl) rfl ?_
  obtain ⟨g1, g2⟩ := hP
  have k0 : kd sh 242 = some (10 + 7, 0) := hb1.1
  refine r_aload_n e_X11_product_0 rfl ?_
  refine cV0v e_X11_product_1 cl_X11_144 ⟨Nat.le_of_ble_eq_true rfl, Nat.le_of_ble_eq_true rfl⟩ ⟨rfl, rfl⟩ k0 (Nat.le_of_ble_eq_true rfl) (S_X11_term hb1 g1) ?_
  refine p_istore_n_2_1 e_X11_product_4 rfl rfl ?_
  refine L_X11_product_5 hb1 FUEL (V_X11_term  M) (U_X11_term  M) g2 ?_
  refine r_iload_n e_X11_product_31 rfl ?_
  refine r_zreturn e_X11_product_32 rfl ⟨rfl, rfl⟩ (ZF_X11_product_5 _ _ _ (Z_X11_term)) ?_
  (refine ⟨?_, rfl, ?_⟩ <;> ((try unfold V_X11_product); (try unfold U_X11_product); (try simp only []); (try rfl)))
def F_X11_kickOff_127 (x1 : Int32) (mA : Nat) (w3 : Int32) (w4 : Int32) (i2 : Nat) : Nat → Nat → Mem → Mem
  | 0, i127, M => M
  | n + 1, i127, M => (F_X11_kickOff_127 x1 mA w3 w4 i2 n (i127 + 1) (U_X11_set (nI i2) ((4 : Int32) + (nI i127)) (0 : Int32) mA M))
theorem L_X11_kickOff_127 {sh : List SC} {Q : Po} {x1 : Int32} {mA : Nat} {oA : Nat} {w3 : Int32} {w4 : Int32} {i2 : Nat} (hb1 : ModelAt sh mA oA) (g1 : ∀ i127 : Nat, i127 < 4 → ∀ i2 : Nat, i2 < 10 → vp_in (((44 : Int32) + ((16 : Int32) * (nI i2))) + ((4 : Int32) + (nI i127))) 212) (hlt_i2 : i2 < 10) : ∀ (n i127 : Nat) (M : Mem), i127 + n = 4 → WP m_X11_kickOff Q 149 [some (.ref 242), some (.int x1), some (.int (nI i2)), some (.int w3), some (.int w4), none] [] sh (F_X11_kickOff_127 x1 mA w3 w4 i2 n i127 M) 0 0 → WP m_X11_kickOff Q 127 [some (.ref 242), some (.int x1), some (.int (nI i2)), some (.int w3), some (.int w4), some (.int (nI i127))] [] sh M 0 0 := by
  have k0 : kd sh 242 = some (10 + 7, 0) := hb1.1
  have hcl_i2 : (nI i2).toNatClampNeg = i2 := nI_clamp (by omega)
  intro n
  induction n with
  | zero =>
    intro i127 M hi hq
    have hz : (4 : Int32) ≤ nI i127 := by
      have q : i127 = 4 := by omega
      rw [q]; exact nI_le (Nat.le_refl _) (by decide)
    refine r_iload e_X11_kickOff_127 rfl ?_
    refine r_iconst e_X11_kickOff_129 ic_4 ?_
    refine r_icmp_ge e_X11_kickOff_130 (fun _ => ?_) (fun hh => absurd hz hh)
    refine d_6_5 ?_
    (simp only [F_X11_kickOff_127] at hq; first | exact hq | (simp only []; exact hq))
  | succ n ih =>
    intro i127 M hi hq
    have hlt_i127 : i127 < 4 := by omega
    have hcl_i127 : (nI i127).toNatClampNeg = i127 := nI_clamp (by omega)
    have hs : ¬ (4 : Int32) ≤ nI i127 := nI_ge (b := 4) hlt_i127 (by decide)
    refine r_iload e_X11_kickOff_127 rfl ?_
    refine r_iconst e_X11_kickOff_129 ic_4 ?_
    refine r_icmp_ge e_X11_kickOff_130 (fun hh => absurd hh hs) (fun _ => ?_)
    refine r_aload_n e_X11_kickOff_133 rfl ?_
    refine r_iload_n e_X11_kickOff_134 rfl ?_
    refine r_iconst e_X11_kickOff_135 ic_4 ?_
    refine r_iload e_X11_kickOff_136 rfl ?_
    refine r_iadd e_X11_kickOff_138 ?_
    refine r_iconst e_X11_kickOff_139 ic_0 ?_
    refine cV3u e_X11_kickOff_140 cl_X11_282 ⟨Nat.le_of_ble_eq_true rfl, Nat.le_of_ble_eq_true rfl⟩ ⟨rfl, rfl⟩ k0 (Nat.le_of_ble_eq_true rfl) (S_X11_set hb1 (g1 i127 hlt_i127 i2 hlt_i2)) ?_
    refine p_iinc_6_5 e_X11_kickOff_143 rfl ic_1 rfl ?_
    rw [nI_1 i127]
    refine r_goto e_X11_kickOff_146 ?_
    (simp only [F_X11_kickOff_127] at hq; first | exact ih (i127 + 1) _ (by omega) hq | (simp only []; exact ih (i127 + 1) _ (by omega) hq))
def F_X11_kickOff_2 (x1 : Int32) (mA : Nat) : Nat → Nat → Mem → Mem
  | 0, i2, M => M
  | n + 1, i2, M => (let Mc1001 : Mem := U_X11_set (nI i2) (11 : Int32) (M.1 254 (((5 : Int32) * (M.1 mA ((1 : Int32) + ((nI i2) / (5 : Int32))).toNatClampNeg)) + ((nI i2) - (nI i2) / (5 : Int32) * (5 : Int32))).toNatClampNeg) mA M; let Mc1002 : Mem := U_X11_set (nI i2) (12 : Int32) (Mc1001.1 255 (((5 : Int32) * (M.1 mA ((1 : Int32) + ((nI i2) / (5 : Int32))).toNatClampNeg)) + ((nI i2) - (nI i2) / (5 : Int32) * (5 : Int32))).toNatClampNeg) mA Mc1001; let Mc1003 : Mem := U_X11_set (nI i2) (13 : Int32) (Mc1002.1 256 (((5 : Int32) * (M.1 mA ((1 : Int32) + ((nI i2) / (5 : Int32))).toNatClampNeg)) + ((nI i2) - (nI i2) / (5 : Int32) * (5 : Int32))).toNatClampNeg) mA Mc1002; let Mc1004 : Mem := U_X11_set (nI i2) (14 : Int32) (Mc1003.1 257 (M.1 mA ((1 : Int32) + ((nI i2) / (5 : Int32))).toNatClampNeg).toNatClampNeg) mA Mc1003; let Mc1005 : Mem := U_X11_set (nI i2) (15 : Int32) (Mc1004.1 258 (M.1 mA ((1 : Int32) + ((nI i2) / (5 : Int32))).toNatClampNeg).toNatClampNeg) mA Mc1004; let v200_0 : Int32 := if 0 ≤ (Mc1005.1 254 (((5 : Int32) * (M.1 mA ((1 : Int32) + ((nI i2) / (5 : Int32))).toNatClampNeg)) + ((nI i2) - (nI i2) / (5 : Int32) * (5 : Int32))).toNatClampNeg) then (0 : Int32) else (-1 : Int32); (F_X11_kickOff_2 x1 mA n (i2 + 1) (F_X11_kickOff_127 x1 mA (M.1 mA ((1 : Int32) + ((nI i2) / (5 : Int32))).toNatClampNeg) (((5 : Int32) * (M.1 mA ((1 : Int32) + ((nI i2) / (5 : Int32))).toNatClampNeg)) + ((nI i2) - (nI i2) / (5 : Int32) * (5 : Int32))) i2 4 0 (U_X11_set (nI i2) (3 : Int32) (0 : Int32) mA (U_X11_set (nI i2) (2 : Int32) v200_0 mA Mc1005)))))
def H_X11_kickOff_2 (x1 : Int32) (mA : Nat) : Nat → Nat → Mem → Prop
  | 0, i2, M => True
  | n + 1, i2, M => (∀ i2 : Nat, i2 < 10 → vp_in (((5 : Int32) * (M.1 mA ((1 : Int32) + ((nI i2) / (5 : Int32))).toNatClampNeg)) + ((nI i2) - (nI i2) / (5 : Int32) * (5 : Int32))) 20) ∧ (∀ i2 : Nat, i2 < 10 → vp_in (M.1 mA ((1 : Int32) + ((nI i2) / (5 : Int32))).toNatClampNeg) 4) ∧ ((let Mc1001 : Mem := U_X11_set (nI i2) (11 : Int32) (M.1 254 (((5 : Int32) * (M.1 mA ((1 : Int32) + ((nI i2) / (5 : Int32))).toNatClampNeg)) + ((nI i2) - (nI i2) / (5 : Int32) * (5 : Int32))).toNatClampNeg) mA M; let Mc1002 : Mem := U_X11_set (nI i2) (12 : Int32) (Mc1001.1 255 (((5 : Int32) * (M.1 mA ((1 : Int32) + ((nI i2) / (5 : Int32))).toNatClampNeg)) + ((nI i2) - (nI i2) / (5 : Int32) * (5 : Int32))).toNatClampNeg) mA Mc1001; let Mc1003 : Mem := U_X11_set (nI i2) (13 : Int32) (Mc1002.1 256 (((5 : Int32) * (M.1 mA ((1 : Int32) + ((nI i2) / (5 : Int32))).toNatClampNeg)) + ((nI i2) - (nI i2) / (5 : Int32) * (5 : Int32))).toNatClampNeg) mA Mc1002; let Mc1004 : Mem := U_X11_set (nI i2) (14 : Int32) (Mc1003.1 257 (M.1 mA ((1 : Int32) + ((nI i2) / (5 : Int32))).toNatClampNeg).toNatClampNeg) mA Mc1003; let Mc1005 : Mem := U_X11_set (nI i2) (15 : Int32) (Mc1004.1 258 (M.1 mA ((1 : Int32) + ((nI i2) / (5 : Int32))).toNatClampNeg).toNatClampNeg) mA Mc1004; let v200_0 : Int32 := if 0 ≤ (Mc1005.1 254 (((5 : Int32) * (M.1 mA ((1 : Int32) + ((nI i2) / (5 : Int32))).toNatClampNeg)) + ((nI i2) - (nI i2) / (5 : Int32) * (5 : Int32))).toNatClampNeg) then (0 : Int32) else (-1 : Int32); (H_X11_kickOff_2 x1 mA n (i2 + 1) (F_X11_kickOff_127 x1 mA (M.1 mA ((1 : Int32) + ((nI i2) / (5 : Int32))).toNatClampNeg) (((5 : Int32) * (M.1 mA ((1 : Int32) + ((nI i2) / (5 : Int32))).toNatClampNeg)) + ((nI i2) - (nI i2) / (5 : Int32) * (5 : Int32))) i2 4 0 (U_X11_set (nI i2) (3 : Int32) (0 : Int32) mA (U_X11_set (nI i2) (2 : Int32) v200_0 mA Mc1005))))))
theorem L_X11_kickOff_2 {sh : List SC} {Q : Po} {x1 : Int32} {mA : Nat} {oA : Nat}   (hb1 : ModelAt sh mA oA) (g1 : ∀ i2 : Nat, i2 < 10 → vp_in ((1 : Int32) + ((nI i2) / (5 : Int32))) 212) (g3 : ∀ i2 : Nat, i2 < 10 → vp_in (((44 : Int32) + ((16 : Int32) * (nI i2))) + (11 : Int32)) 212) (g4 : ∀ i2 : Nat, i2 < 10 → vp_in (((44 : Int32) + ((16 : Int32) * (nI i2))) + (12 : Int32)) 212) (g5 : ∀ i2 : Nat, i2 < 10 → vp_in (((44 : Int32) + ((16 : Int32) * (nI i2))) + (13 : Int32)) 212) (g7 : ∀ i2 : Nat, i2 < 10 → vp_in (((44 : Int32) + ((16 : Int32) * (nI i2))) + (14 : Int32)) 212) (g8 : ∀ i2 : Nat, i2 < 10 → vp_in (((44 : Int32) + ((16 : Int32) * (nI i2))) + (15 : Int32)) 212) (g9 : ∀ i2 : Nat, i2 < 10 → vp_in (((44 : Int32) + ((16 : Int32) * (nI i2))) + (2 : Int32)) 212) (g10 : ∀ i2 : Nat, i2 < 10 → vp_in (((44 : Int32) + ((16 : Int32) * (nI i2))) + (3 : Int32)) 212) (g11 : ∀ i127 : Nat, i127 < 4 → ∀ i2 : Nat, i2 < 10 → vp_in (((44 : Int32) + ((16 : Int32) * (nI i2))) + ((4 : Int32) + (nI i127))) 212)  : ∀ (n i2 : Nat) (M : Mem), i2 + n = 10 → H_X11_kickOff_2 x1 mA n i2 M → WP m_X11_kickOff Q 155 [some (.ref 242), some (.int x1), none, none, none, none] [] sh (F_X11_kickOff_2 x1 mA n i2 M) 0 0 → WP m_X11_kickOff Q 2 [some (.ref 242), some (.int x1), some (.int (nI i2)), none, none, none] [] sh M 0 0 := by
  have k0 : kd sh 242 = some (10 + 7, 0) := hb1.1
  have k1 : rf sh 242 27 = some mA := hb1.2.2.2.2.2.2.2.2.2.2.2.2.2.2.2.2.2.1
  have k2 : kd sh mA = some (0, 212) := hb1.2.2.2.2.2.2.2.2.2.2.2.2.2.2.2.2.2.2.2.2.2.2.2.2.2.2.2.2.2.2.2.2.2.2.2.2.2.2.2.2.2.2.2.2.2.2.2.2.2.2.2.1
  have k3 : rf sh 242 22 = some 254 := hb1.2.2.2.2.2.2.2.2.2.2.2.2.1
  have k4 : kd sh 254 = some (0, 20) := hb1.2.2.2.2.2.2.2.2.2.2.2.2.2.2.2.2.2.2.2.2.2.2.2.2.2.2.2.2.2.2.2.2.2.2.2.2.2.2.1
  have k5 : rf sh 242 23 = some 255 := hb1.2.2.2.2.2.2.2.2.2.2.2.2.2.1
  have k6 : kd sh 255 = some (0, 20) := hb1.2.2.2.2.2.2.2.2.2.2.2.2.2.2.2.2.2.2.2.2.2.2.2.2.2.2.2.2.2.2.2.2.2.2.2.2.2.2.2.1
  have k7 : rf sh 242 24 = some 256 := hb1.2.2.2.2.2.2.2.2.2.2.2.2.2.2.1
  have k8 : kd sh 256 = some (0, 20) := hb1.2.2.2.2.2.2.2.2.2.2.2.2.2.2.2.2.2.2.2.2.2.2.2.2.2.2.2.2.2.2.2.2.2.2.2.2.2.2.2.2.1
  have k9 : rf sh 242 25 = some 257 := hb1.2.2.2.2.2.2.2.2.2.2.2.2.2.2.2.1
  have k10 : kd sh 257 = some (0, 4) := hb1.2.2.2.2.2.2.2.2.2.2.2.2.2.2.2.2.2.2.2.2.2.2.2.2.2.2.2.2.2.2.2.2.2.2.2.2.2.2.2.2.2.1
  have k11 : rf sh 242 26 = some 258 := hb1.2.2.2.2.2.2.2.2.2.2.2.2.2.2.2.2.1
  have k12 : kd sh 258 = some (0, 4) := hb1.2.2.2.2.2.2.2.2.2.2.2.2.2.2.2.2.2.2.2.2.2.2.2.2.2.2.2.2.2.2.2.2.2.2.2.2.2.2.2.2.2.2.1
  intro n
  induction n with
  | zero =>
    intro i2 M hi _ hq
    have hz : (10 : Int32) ≤ nI i2 := by
      have q : i2 = 10 := by omega
      rw [q]; exact nI_le (Nat.le_refl _) (by decide)
    refine r_iload_n e_X11_kickOff_2 rfl ?_
    refine r_bipush e_X11_kickOff_3 bp_10 ?_
    refine r_icmp_ge e_X11_kickOff_5 (fun _ => ?_) (fun hh => absurd hz hh)
    refine d_6_2 ?_
    (simp only [F_X11_kickOff_2] at hq; first | exact hq | (simp only []; exact hq))
  | succ n ih =>
    intro i2 M hi hH hq
    unfold H_X11_kickOff_2 at hH
    obtain ⟨g2, g6, hH⟩ := hH
    have hlt_i2 : i2 < 10 := by omega
    have hcl_i2 : (nI i2).toNatClampNeg = i2 := nI_clamp (by omega)
    have hs : ¬ (10 : Int32) ≤ nI i2 := nI_ge (b := 10) hlt_i2 (by decide)
    refine r_iload_n e_X11_kickOff_2 rfl ?_
    refine r_bipush e_X11_kickOff_3 bp_10 ?_
    refine r_icmp_ge e_X11_kickOff_5 (fun hh => absurd hh hs) (fun _ => ?_)
    refine r_aload_n e_X11_kickOff_8 rfl ?_
    refine r_getR e_X11_kickOff_9 fl_X11_212 k0 k1 ?_
    refine r_iconst e_X11_kickOff_12 ic_1 ?_
    refine r_iload_n e_X11_kickOff_13 rfl ?_
    refine r_iconst e_X11_kickOff_14 ic_5 ?_
    refine r_idiv e_X11_kickOff_15 (by decide) ?_
    refine r_iadd e_X11_kickOff_16 ?_
    refine r_iaload e_X11_kickOff_17 k2 (g1 i2 hlt_i2) ?_
    refine p_istore_n_6_3 e_X11_kickOff_18 rfl rfl ?_
    refine r_iconst e_X11_kickOff_19 ic_5 ?_
    refine r_iload_n e_X11_kickOff_20 rfl ?_
    refine r_imul e_X11_kickOff_21 ?_
    refine r_iload_n e_X11_kickOff_22 rfl ?_
    refine r_iconst e_X11_kickOff_23 ic_5 ?_
    refine r_irem e_X11_kickOff_24 (by decide) ?_
    refine r_iadd e_X11_kickOff_25 ?_
    refine p_istore_6_4 e_X11_kickOff_26 rfl rfl ?_
    refine r_aload_n e_X11_kickOff_28 rfl ?_
    refine r_iload_n e_X11_kickOff_29 rfl ?_
    refine r_bipush e_X11_kickOff_30 bp_11 ?_
    refine r_aload_n e_X11_kickOff_32 rfl ?_
    refine r_getR e_X11_kickOff_33 fl_X11_197 k0 k3 ?_
    refine r_iload e_X11_kickOff_36 rfl ?_
    refine r_iaload e_X11_kickOff_38 k4 (g2 i2 hlt_i2) ?_
    refine cV3u e_X11_kickOff_39 cl_X11_282 ⟨Nat.le_of_ble_eq_true rfl, Nat.le_of_ble_eq_true rfl⟩ ⟨rfl, rfl⟩ k0 (Nat.le_of_ble_eq_true rfl) (S_X11_set hb1 (g3 i2 hlt_i2)) ?_
    obtain ⟨Mc1001, e_Mc1001⟩ : ∃ z : Mem, z = (U_X11_set (nI i2) (11 : Int32) (M.1 254 (((5 : Int32) * (M.1 mA ((1 : Int32) + ((nI i2) / (5 : Int32))).toNatClampNeg)) + ((nI i2) - (nI i2) / (5 : Int32) * (5 : Int32))).toNatClampNeg) mA M) := ⟨_, rfl⟩
    rw [← e_Mc1001]
    refine r_aload_n e_X11_kickOff_42 rfl ?_
    refine r_iload_n e_X11_kickOff_43 rfl ?_
    refine r_bipush e_X11_kickOff_44 bp_12 ?_
    refine r_aload_n e_X11_kickOff_46 rfl ?_
    refine r_getR e_X11_kickOff_47 fl_X11_200 k0 k5 ?_
    refine r_iload e_X11_kickOff_50 rfl ?_
    refine r_iaload e_X11_kickOff_52 k6 (g2 i2 hlt_i2) ?_
    refine cV3u e_X11_kickOff_53 cl_X11_282 ⟨Nat.le_of_ble_eq_true rfl, Nat.le_of_ble_eq_true rfl⟩ ⟨rfl, rfl⟩ k0 (Nat.le_of_ble_eq_true rfl) (S_X11_set hb1 (g4 i2 hlt_i2)) ?_
    obtain ⟨Mc1002, e_Mc1002⟩ : ∃ z : Mem, z = (U_X11_set (nI i2) (12 : Int32) (Mc1001.1 255 (((5 : Int32) * (M.1 mA ((1 : Int32) + ((nI i2) / (5 : Int32))).toNatClampNeg)) + ((nI i2) - (nI i2) / (5 : Int32) * (5 : Int32))).toNatClampNeg) mA Mc1001) := ⟨_, rfl⟩
    rw [← e_Mc1002]
    refine r_aload_n e_X11_kickOff_56 rfl ?_
    refine r_iload_n e_X11_kickOff_57 rfl ?_
    refine r_bipush e_X11_kickOff_58 bp_13 ?_
    refine r_aload_n e_X11_kickOff_60 rfl ?_
    refine r_getR e_X11_kickOff_61 fl_X11_203 k0 k7 ?_
    refine r_iload e_X11_kickOff_64 rfl ?_
    refine r_iaload e_X11_kickOff_66 k8 (g2 i2 hlt_i2) ?_
    refine cV3u e_X11_kickOff_67 cl_X11_282 ⟨Nat.le_of_ble_eq_true rfl, Nat.le_of_ble_eq_true rfl⟩ ⟨rfl, rfl⟩ k0 (Nat.le_of_ble_eq_true rfl) (S_X11_set hb1 (g5 i2 hlt_i2)) ?_
    obtain ⟨Mc1003, e_Mc1003⟩ : ∃ z : Mem, z = (U_X11_set (nI i2) (13 : Int32) (Mc1002.1 256 (((5 : Int32) * (M.1 mA ((1 : Int32) + ((nI i2) / (5 : Int32))).toNatClampNeg)) + ((nI i2) - (nI i2) / (5 : Int32) * (5 : Int32))).toNatClampNeg) mA Mc1002) := ⟨_, rfl⟩
    rw [← e_Mc1003]
    refine r_aload_n e_X11_kickOff_70 rfl ?_
    refine r_iload_n e_X11_kickOff_71 rfl ?_
    refine r_bipush e_X11_kickOff_72 bp_14 ?_
    refine r_aload_n e_X11_kickOff_74 rfl ?_
    refine r_getR e_X11_kickOff_75 fl_X11_206 k0 k9 ?_
    refine r_iload_n e_X11_kickOff_78 rfl ?_
    refine r_iaload e_X11_kickOff_79 k10 (g6 i2 hlt_i2) ?_
    refine cV3u e_X11_kickOff_80 cl_X11_282 ⟨Nat.le_of_ble_eq_true rfl, Nat.le_of_ble_eq_true rfl⟩ ⟨rfl, rfl⟩ k0 (Nat.le_of_ble_eq_true rfl) (S_X11_set hb1 (g7 i2 hlt_i2)) ?_
    obtain ⟨Mc1004, e_Mc1004⟩ : ∃ z : Mem, z = (U_X11_set (nI i2) (14 : Int32) (Mc1003.1 257 (M.1 mA ((1 : Int32) + ((nI i2) / (5 : Int32))).toNatClampNeg).toNatClampNeg) mA Mc1003) := ⟨_, rfl⟩
    rw [← e_Mc1004]
    refine r_aload_n e_X11_kickOff_83 rfl ?_
    refine r_iload_n e_X11_kickOff_84 rfl ?_
    refine r_bipush e_X11_kickOff_85 bp_15 ?_
    refine r_aload_n e_X11_kickOff_87 rfl ?_
    refine r_getR e_X11_kickOff_88 fl_X11_209 k0 k11 ?_
    refine r_iload_n e_X11_kickOff_91 rfl ?_
    refine r_iaload e_X11_kickOff_92 k12 (g6 i2 hlt_i2) ?_
    refine cV3u e_X11_kickOff_93 cl_X11_282 ⟨Nat.le_of_ble_eq_true rfl, Nat.le_of_ble_eq_true rfl⟩ ⟨rfl, rfl⟩ k0 (Nat.le_of_ble_eq_true rfl) (S_X11_set hb1 (g8 i2 hlt_i2)) ?_
    obtain ⟨Mc1005, e_Mc1005⟩ : ∃ z : Mem, z = (U_X11_set (nI i2) (15 : Int32) (Mc1004.1 258 (M.1 mA ((1 : Int32) + ((nI i2) / (5 : Int32))).toNatClampNeg).toNatClampNeg) mA Mc1004) := ⟨_, rfl⟩
    rw [← e_Mc1005]
    refine r_aload_n e_X11_kickOff_96 rfl ?_
    refine r_iload_n e_X11_kickOff_97 rfl ?_
    refine r_iconst e_X11_kickOff_98 ic_2 ?_
    refine r_aload_n e_X11_kickOff_99 rfl ?_
    refine r_getR e_X11_kickOff_100 fl_X11_197 k0 k3 ?_
    refine r_iload e_X11_kickOff_103 rfl ?_
    refine r_iaload e_X11_kickOff_105 k4 (g2 i2 hlt_i2) ?_
    obtain ⟨v200_0, e_v200_0⟩ : ∃ z : Int32, z = (if 0 ≤ (Mc1005.1 254 (((5 : Int32) * (M.1 mA ((1 : Int32) + ((nI i2) / (5 : Int32))).toNatClampNeg)) + ((nI i2) - (nI i2) / (5 : Int32) * (5 : Int32))).toNatClampNeg) then (0 : Int32) else (-1 : Int32)) := ⟨_, rfl⟩
    suffices j114_200 : WP m_X11_kickOff Q 114 [some (.ref 242), some (.int x1), some (.int (nI i2)), some (.int (M.1 mA ((1 : Int32) + ((nI i2) / (5 : Int32))).toNatClampNeg)), some (.int (((5 : Int32) * (M.1 mA ((1 : Int32) + ((nI i2) / (5 : Int32))).toNatClampNeg)) + ((nI i2) - (nI i2) / (5 : Int32) * (5 : Int32)))), none] [.int v200_0, .int (2 : Int32), .int (nI i2), .ref 242] sh Mc1005 0 0 by
      refine r_if_ge e_X11_kickOff_106 (fun h106_200 => ?_) (fun h106_200 => ?_)
      · refine r_iconst e_X11_kickOff_113 ic_0 ?_
        rw [show v200_0 = (0 : Int32) from (e_v200_0.trans (if_pos h106_200))] at j114_200; exact j114_200
      · refine r_iconst e_X11_kickOff_109 ic_m1 ?_
        refine r_goto e_X11_kickOff_110 ?_
        rw [show v200_0 = (-1 : Int32) from (e_v200_0.trans (if_neg h106_200))] at j114_200; exact j114_200
    refine cV3u e_X11_kickOff_114 cl_X11_282 ⟨Nat.le_of_ble_eq_true rfl, Nat.le_of_ble_eq_true rfl⟩ ⟨rfl, rfl⟩ k0 (Nat.le_of_ble_eq_true rfl) (S_X11_set hb1 (g9 i2 hlt_i2)) ?_
    refine r_aload_n e_X11_kickOff_117 rfl ?_
    refine r_iload_n e_X11_kickOff_118 rfl ?_
    refine r_iconst e_X11_kickOff_119 ic_3 ?_
    refine r_iconst e_X11_kickOff_120 ic_0 ?_
    refine cV3u e_X11_kickOff_121 cl_X11_282 ⟨Nat.le_of_ble_eq_true rfl, Nat.le_of_ble_eq_true rfl⟩ ⟨rfl, rfl⟩ k0 (Nat.le_of_ble_eq_true rfl) (S_X11_set hb1 (g10 i2 hlt_i2)) ?_
    refine r_iconst e_X11_kickOff_124 ic_0 ?_
    refine p_istore_6_5 e_X11_kickOff_125 rfl rfl ?_
    skip
    show WP m_X11_kickOff _ 127 [some (.ref 242), some (.int x1), some (.int (nI i2)), some (.int (M.1 mA ((1 : Int32) + ((nI i2) / (5 : Int32))).toNatClampNeg)), some (.int (((5 : Int32) * (M.1 mA ((1 : Int32) + ((nI i2) / (5 : Int32))).toNatClampNeg)) + ((nI i2) - (nI i2) / (5 : Int32) * (5 : Int32)))), some (.int (nI 0))] [] sh (U_X11_set (nI i2) (3 : Int32) (0 : Int32) mA (U_X11_set (nI i2) (2 : Int32) v200_0 mA Mc1005)) 0 0
    refine L_X11_kickOff_127 hb1 g11 hlt_i2 4 0  (U_X11_set (nI i2) (3 : Int32) (0 : Int32) mA (U_X11_set (nI i2) (2 : Int32) v200_0 mA Mc1005)) (by omega) ?_
    refine p_iinc_6_2 e_X11_kickOff_149 rfl ic_1 rfl ?_
    rw [nI_1 i2]
    refine r_goto e_X11_kickOff_152 ?_
    refine d_6_3 ?_
    refine d_6_4 ?_
    (subst e_v200_0 e_Mc1005 e_Mc1004 e_Mc1003 e_Mc1002 e_Mc1001; simp only [F_X11_kickOff_2] at hq; (try simp only [] at hH); first | exact ih (i2 + 1) _ (by omega) hH hq | (simp only []; exact ih (i2 + 1) _ (by omega) hH hq))
def F_X11_kickOff_160 (x1 : Int32) (mA : Nat) : Nat → Mem → Mem
  | 0, M => M
  | n + 1, M => if (10 : Int32) ≤ (M.1 242 30) then M else (F_X11_kickOff_160 x1 mA n (setI (U_X11_putAtStart (M.1 242 30) mA M) 242 30 (((U_X11_putAtStart (M.1 242 30) mA M).1 242 30) + (1 : Int32))))
def T_X11_kickOff_160 (x1 : Int32) (mA : Nat) : Nat → Mem → Prop
  | 0, M => False
  | n + 1, M => (vp_in (((44 : Int32) + ((16 : Int32) * (M.1 242 30))) + (0 : Int32)) 212) ∧ (vp_in (((44 : Int32) + ((16 : Int32) * (M.1 242 30))) + (1 : Int32)) 212) ∧ (P_X11_putAtStart (M.1 242 30) mA M) ∧ (if (10 : Int32) ≤ (M.1 242 30) then True else (T_X11_kickOff_160 x1 mA n (setI (U_X11_putAtStart (M.1 242 30) mA M) 242 30 (((U_X11_putAtStart (M.1 242 30) mA M).1 242 30) + (1 : Int32)))))
theorem L_X11_kickOff_160 {sh : List SC} {Q : Po} {x1 : Int32} {mA : Nat} {oA : Nat}   (hb1 : ModelAt sh mA oA)   : ∀ (n : Nat) (M : Mem), T_X11_kickOff_160 x1 mA n M → WP m_X11_kickOff Q 190 [some (.ref 242), some (.int x1), none, none, none, none] [] sh (F_X11_kickOff_160 x1 mA n M) 0 0 → WP m_X11_kickOff Q 160 [some (.ref 242), some (.int x1), none, none, none, none] [] sh M 0 0 := by
  have k0 : kd sh 242 = some (10 + 7, 0) := hb1.1
  intro n
  induction n with
  | zero =>
    intro M hH hq
    exact hH.elim
  | succ n ih =>
    intro M hH hq
    unfold T_X11_kickOff_160 at hH
    obtain ⟨g1, g2, g3, hH⟩ := hH
    refine r_aload_n e_X11_kickOff_160 rfl ?_
    refine r_getI e_X11_kickOff_161 fl_X11_221 i0 k0 ?_
    refine r_bipush e_X11_kickOff_164 bp_10 ?_
    refine r_icmp_ge e_X11_kickOff_166 (fun h166_16000 => ?_) (fun h166_16000 => ?_)
    · (simp only [F_X11_kickOff_160, if_pos h166_16000] at hq; first | exact hq | (simp only [if_pos h166_16000]; exact hq))
    · refine r_aload_n e_X11_kickOff_169 rfl ?_
      refine r_aload_n e_X11_kickOff_170 rfl ?_
      refine r_getI e_X11_kickOff_171 fl_X11_221 i0 k0 ?_
      refine cV1u e_X11_kickOff_174 cl_X11_288 ⟨Nat.le_of_ble_eq_true rfl, Nat.le_of_ble_eq_true rfl⟩ ⟨rfl, rfl⟩ k0 (Nat.le_of_ble_eq_true rfl) (S_X11_putAtStart hb1 g1 g2 g3) ?_
      refine r_aload_n e_X11_kickOff_177 rfl ?_
      refine r_dup e_X11_kickOff_178 rfl ?_
      refine r_getI e_X11_kickOff_179 fl_X11_221 i0 k0 ?_
      refine r_iconst e_X11_kickOff_182 ic_1 ?_
      refine r_iadd e_X11_kickOff_183 ?_
      refine r_putI e_X11_kickOff_184 fl_X11_221 k0 ?_
      refine r_goto e_X11_kickOff_187 ?_
      (simp only [F_X11_kickOff_160, if_neg h166_16000] at hq; (try simp only [if_neg h166_16000] at hH); first | exact ih _ hH hq | (simp only [if_neg h166_16000]; exact ih _ hH hq))
def F_X11_kickOff_196 (x1 : Int32) (mA : Nat) : Nat → Nat → Mem → Mem
  | 0, i196, M => M
  | n + 1, i196, M => (let Mc1001 : Mem := U_X11_set (nI i196) (9 : Int32) ((U_X11_set (nI i196) (8 : Int32) (M.1 mA (14 : Int32).toNatClampNeg) mA M).1 mA (15 : Int32).toNatClampNeg) mA (U_X11_set (nI i196) (8 : Int32) (M.1 mA (14 : Int32).toNatClampNeg) mA M); (F_X11_kickOff_196 x1 mA n (i196 + 1) Mc1001))
theorem L_X11_kickOff_196 {sh : List SC} {Q : Po} {x1 : Int32} {mA : Nat} {oA : Nat}   (hb1 : ModelAt sh mA oA) (g1 : ∀ i196 : Nat, i196 < 10 → vp_in (((44 : Int32) + ((16 : Int32) * (nI i196))) + (8 : Int32)) 212) (g2 : ∀ i196 : Nat, i196 < 10 → vp_in (((44 : Int32) + ((16 : Int32) * (nI i196))) + (9 : Int32)) 212)  : ∀ (n i196 : Nat) (M : Mem), i196 + n = 10 → WP m_X11_kickOff Q 236 [some (.ref 242), some (.int x1), none, none, none, none] [] sh (F_X11_kickOff_196 x1 mA n i196 M) 0 0 → WP m_X11_kickOff Q 196 [some (.ref 242), some (.int x1), some (.int (nI i196)), none, none, none] [] sh M 0 0 := by
  have k0 : kd sh 242 = some (10 + 7, 0) := hb1.1
  have k1 : rf sh 242 27 = some mA := hb1.2.2.2.2.2.2.2.2.2.2.2.2.2.2.2.2.2.1
  have k2 : kd sh mA = some (0, 212) := hb1.2.2.2.2.2.2.2.2.2.2.2.2.2.2.2.2.2.2.2.2.2.2.2.2.2.2.2.2.2.2.2.2.2.2.2.2.2.2.2.2.2.2.2.2.2.2.2.2.2.2.2.1
  intro n
  induction n with
  | zero =>
    intro i196 M hi hq
    have hz : (10 : Int32) ≤ nI i196 := by
      have q : i196 = 10 := by omega
      rw [q]; exact nI_le (Nat.le_refl _) (by decide)
    refine r_iload_n e_X11_kickOff_196 rfl ?_
    refine r_bipush e_X11_kickOff_197 bp_10 ?_
    refine r_icmp_ge e_X11_kickOff_199 (fun _ => ?_) (fun hh => absurd hz hh)
    refine d_6_2 ?_
    (simp only [F_X11_kickOff_196] at hq; first | exact hq | (simp only []; exact hq))
  | succ n ih =>
    intro i196 M hi hq
    have hlt_i196 : i196 < 10 := by omega
    have hcl_i196 : (nI i196).toNatClampNeg = i196 := nI_clamp (by omega)
    have hs : ¬ (10 : Int32) ≤ nI i196 := nI_ge (b := 10) hlt_i196 (by decide)
    refine r_iload_n e_X11_kickOff_196 rfl ?_
    refine r_bipush e_X11_kickOff_197 bp_10 ?_
    refine r_icmp_ge e_X11_kickOff_199 (fun hh => absurd hh hs) (fun _ => ?_)
    refine r_aload_n e_X11_kickOff_202 rfl ?_
    refine r_iload_n e_X11_kickOff_203 rfl ?_
    refine r_bipush e_X11_kickOff_204 bp_8 ?_
    refine r_aload_n e_X11_kickOff_206 rfl ?_
    refine r_getR e_X11_kickOff_207 fl_X11_212 k0 k1 ?_
    refine r_bipush e_X11_kickOff_210 bp_14 ?_
    refine r_iaload e_X11_kickOff_212 k2 (by unfold vp_in; decide) ?_
    refine cV3u e_X11_kickOff_213 cl_X11_282 ⟨Nat.le_of_ble_eq_true rfl, Nat.le_of_ble_eq_true rfl⟩ ⟨rfl, rfl⟩ k0 (Nat.le_of_ble_eq_true rfl) (S_X11_set hb1 (g1 i196 hlt_i196)) ?_
    refine r_aload_n e_X11_kickOff_216 rfl ?_
    refine r_iload_n e_X11_kickOff_217 rfl ?_
    refine r_bipush e_X11_kickOff_218 bp_9 ?_
    refine r_aload_n e_X11_kickOff_220 rfl ?_
    refine r_getR e_X11_kickOff_221 fl_X11_212 k0 k1 ?_
    refine r_bipush e_X11_kickOff_224 bp_15 ?_
    refine r_iaload e_X11_kickOff_226 k2 (by unfold vp_in; decide) ?_
    refine cV3u e_X11_kickOff_227 cl_X11_282 ⟨Nat.le_of_ble_eq_true rfl, Nat.le_of_ble_eq_true rfl⟩ ⟨rfl, rfl⟩ k0 (Nat.le_of_ble_eq_true rfl) (S_X11_set hb1 (g2 i196 hlt_i196)) ?_
    obtain ⟨Mc1001, e_Mc1001⟩ : ∃ z : Mem, z = (U_X11_set (nI i196) (9 : Int32) ((U_X11_set (nI i196) (8 : Int32) (M.1 mA (14 : Int32).toNatClampNeg) mA M).1 mA (15 : Int32).toNatClampNeg) mA (U_X11_set (nI i196) (8 : Int32) (M.1 mA (14 : Int32).toNatClampNeg) mA M)) := ⟨_, rfl⟩
    rw [← e_Mc1001]
    refine p_iinc_6_2 e_X11_kickOff_230 rfl ic_1 rfl ?_
    rw [nI_1 i196]
    refine r_goto e_X11_kickOff_233 ?_
    (subst e_Mc1001; simp only [F_X11_kickOff_196] at hq; first | exact ih (i196 + 1) _ (by omega) hq | (simp only []; exact ih (i196 + 1) _ (by omega) hq))
def U_X11_kickOff (x1 : Int32) (mA : Nat) (M : Mem) : Mem := setI (F_X11_kickOff_196 x1 mA 10 0 (U_X11_lay  mA (F_X11_kickOff_160 x1 mA FUEL (setI (F_X11_kickOff_2 x1 mA 10 0 M) 242 30 (0 : Int32))))) mA (13 : Int32).toNatClampNeg x1
def P_X11_kickOff (x1 : Int32) (mA : Nat) (M : Mem) : Prop := (∀ i2 : Nat, i2 < 10 → vp_in ((1 : Int32) + ((nI i2) / (5 : Int32))) 212) ∧ (∀ i2 : Nat, i2 < 10 → vp_in (((44 : Int32) + ((16 : Int32) * (nI i2))) + (11 : Int32)) 212) ∧ (∀ i2 : Nat, i2 < 10 → vp_in (((44 : Int32) + ((16 : Int32) * (nI i2))) + (12 : Int32)) 212) ∧ (∀ i2 : Nat, i2 < 10 → vp_in (((44 : Int32) + ((16 : Int32) * (nI i2))) + (13 : Int32)) 212) ∧ (∀ i2 : Nat, i2 < 10 → vp_in (((44 : Int32) + ((16 : Int32) * (nI i2))) + (14 : Int32)) 212) ∧ (∀ i2 : Nat, i2 < 10 → vp_in (((44 : Int32) + ((16 : Int32) * (nI i2))) + (15 : Int32)) 212) ∧ (∀ i2 : Nat, i2 < 10 → vp_in (((44 : Int32) + ((16 : Int32) * (nI i2))) + (2 : Int32)) 212) ∧ (∀ i2 : Nat, i2 < 10 → vp_in (((44 : Int32) + ((16 : Int32) * (nI i2))) + (3 : Int32)) 212) ∧ (∀ i127 : Nat, i127 < 4 → ∀ i2 : Nat, i2 < 10 → vp_in (((44 : Int32) + ((16 : Int32) * (nI i2))) + ((4 : Int32) + (nI i127))) 212) ∧ (H_X11_kickOff_2 x1 mA 10 0 M) ∧ (T_X11_kickOff_160 x1 mA FUEL (setI (F_X11_kickOff_2 x1 mA 10 0 M) 242 30 (0 : Int32))) ∧ (P_X11_lay mA (F_X11_kickOff_160 x1 mA FUEL (setI (F_X11_kickOff_2 x1 mA 10 0 M) 242 30 (0 : Int32)))) ∧ (∀ i196 : Nat, i196 < 10 → vp_in (((44 : Int32) + ((16 : Int32) * (nI i196))) + (8 : Int32)) 212) ∧ (∀ i196 : Nat, i196 < 10 → vp_in (((44 : Int32) + ((16 : Int32) * (nI i196))) + (9 : Int32)) 212)
theorem S_X11_kickOff {sh : List SC} {M : Mem} {x1 : Int32} {mA : Nat} {oA : Nat} (hb1 : ModelAt sh mA oA)  (hP : P_X11_kickOff x1 mA M) : Gu m_X11_kickOff [.ref 242, .int x1] sh M (U_X11_kickOff x1 mA M) := by
  refine Sp.of (ls := [some (.ref 242), some (.int x1), none, none, none, none]) (by decide +kernel) (Nat.le_of_ble_eq_true rfl) rfl ?_
  obtain ⟨g1, g2, g3, g4, g5, g6, g7, g8, g9, g10, g11, g12, g13, g14⟩ := hP
  have k0 : kd sh 242 = some (10 + 7, 0) := hb1.1
  have k1 : rf sh 242 27 = some mA := hb1.2.2.2.2.2.2.2.2.2.2.2.2.2.2.2.2.2.1
  have k2 : kd sh mA = some (0, 212) := hb1.2.2.2.2.2.2.2.2.2.2.2.2.2.2.2.2.2.2.2.2.2.2.2.2.2.2.2.2.2.2.2.2.2.2.2.2.2.2.2.2.2.2.2.2.2.2.2.2.2.2.2.1
  refine r_iconst e_X11_kickOff_0 ic_0 ?_
  refine p_istore_n_6_2 e_X11_kickOff_1 rfl rfl ?_
  skip
  show WP m_X11_kickOff _ 2 [some (.ref 242), some (.int x1), some (.int (nI 0)), none, none, none] [] sh M 0 0
  refine L_X11_kickOff_2 hb1 g1 g2 g3 g4 g5 g6 g7 g8 g9 10 0  M (by omega) g10 ?_
  refine r_aload_n e_X11_kickOff_155 rfl ?_
  refine r_iconst e_X11_kickOff_156 ic_0 ?_
  refine r_putI e_X11_kickOff_157 fl_X11_221 k0 ?_
  refine L_X11_kickOff_160 hb1 FUEL  (setI (F_X11_kickOff_2 x1 mA 10 0 M) 242 30 (0 : Int32)) g11 ?_
  refine r_aload_n e_X11_kickOff_190 rfl ?_
  refine cV0u e_X11_kickOff_191 cl_X11_292 ⟨Nat.le_of_ble_eq_true rfl, Nat.le_of_ble_eq_true rfl⟩ ⟨rfl, rfl⟩ k0 (Nat.le_of_ble_eq_true rfl) (S_X11_lay hb1 g12) ?_
  refine r_iconst e_X11_kickOff_194 ic_0 ?_
  refine p_istore_n_6_2 e_X11_kickOff_195 rfl rfl ?_
  skip
  show WP m_X11_kickOff _ 196 [some (.ref 242), some (.int x1), some (.int (nI 0)), none, none, none] [] sh (U_X11_lay  mA (F_X11_kickOff_160 x1 mA FUEL (setI (F_X11_kickOff_2 x1 mA 10 0 M) 242 30 (0 : Int32)))) 0 0
  refine L_X11_kickOff_196 hb1 g13 g14 10 0  (U_X11_lay  mA (F_X11_kickOff_160 x1 mA FUEL (setI (F_X11_kickOff_2 x1 mA 10 0 M) 242 30 (0 : Int32)))) (by omega) ?_
  refine r_aload_n e_X11_kickOff_236 rfl ?_
  refine r_getR e_X11_kickOff_237 fl_X11_212 k0 k1 ?_
  refine r_bipush e_X11_kickOff_240 bp_13 ?_
  refine r_iload_n e_X11_kickOff_242 rfl ?_
  refine r_iastore e_X11_kickOff_243 k2 (by unfold vp_in; decide) ?_
  refine r_return e_X11_kickOff_244 rfl ⟨rfl, rfl⟩ ?_
  (refine ⟨?_, rfl, ?_⟩ <;> ((try unfold U_X11_kickOff); (try simp only []); (try rfl)))
