def V_X10_isMember (x1 : Int32) (M : Mem) : Int32 := (let v0_0 : Int32 := if x1 < 0 then (0 : Int32) else (if (5 : Int32) ≤ x1 then (0 : Int32) else (1 : Int32)); v0_0)
theorem Z_X10_isMember {M : Mem} {x1 : Int32}   : V_X10_isMember x1 M = 0 ∨ V_X10_isMember x1 M = 1 := (zi (Or.inl rfl) (zi (Or.inl rfl) (Or.inr rfl)))
theorem S_X10_isMember {sh : List SC} {M : Mem} {x1 : Int32}    : Gv m_X10_isMember [.int x1] sh M (.int (V_X10_isMember x1 M)) M := by
  refine Sp.of (ls := [some (.int x1)]) (by decide +kernel) (Nat.le_of_ble_eq_true rfl) rfl ?_
  refine r_iload_n e_X10_isMember_0 rfl ?_
  obtain ⟨v0_0, e_v0_0⟩ : ∃ z : Int32, z = (if x1 < 0 then (0 : Int32) else (if (5 : Int32) ≤ x1 then (0 : Int32) else (1 : Int32))) := ⟨_, rfl⟩
  have z_v0_0 : v0_0 = 0 ∨ v0_0 = 1 := by rw [e_v0_0]; exact (zi (Or.inl rfl) (zi (Or.inl rfl) (Or.inr rfl)))
  suffices j14_0 : WP m_X10_isMember (fun r sh' M'' => r = some (.int (V_X10_isMember x1 M)) ∧ sh' = sh ∧ M'' = M) 14 [some (.int x1)] [.int v0_0] sh M 0 0 by
    refine r_if_lt e_X10_isMember_1 (fun h1_0 => ?_) (fun h1_0 => ?_)
    · refine r_iconst e_X10_isMember_13 ic_0 ?_
      (rw [show v0_0 = (0 : Int32) from (e_v0_0.trans (if_pos h1_0))] at j14_0; exact j14_0)
    · refine r_iload_n e_X10_isMember_4 rfl ?_
      refine r_iconst e_X10_isMember_5 ic_5 ?_
      refine r_icmp_ge e_X10_isMember_6 (fun h6_1 => ?_) (fun h6_1 => ?_)
      · refine r_iconst e_X10_isMember_13 ic_0 ?_
        (rw [show v0_0 = (0 : Int32) from ((e_v0_0.trans (if_neg h1_0)).trans (if_pos h6_1))] at j14_0; exact j14_0)
      · refine r_iconst e_X10_isMember_9 ic_1 ?_
        refine r_goto e_X10_isMember_10 ?_
        (rw [show v0_0 = (1 : Int32) from ((e_v0_0.trans (if_neg h1_0)).trans (if_neg h6_1))] at j14_0; exact j14_0)
  refine r_zreturn e_X10_isMember_14 rfl ⟨rfl, rfl⟩ z_v0_0 ?_
  (subst e_v0_0; refine ⟨?_, rfl, ?_⟩ <;> ((try unfold V_X10_isMember); (try simp only []); (try rfl)))
def V_X10_start (x1 : Int32) (x2 : Int32) (x3 : Int32) (x4 : Int32) (M : Mem) : Int32 := (let v0_0 : Int32 := if x3 < 0 then (0 : Int32) else (if (7 : Int32) ≤ x3 then (0 : Int32) else (if x4 < 0 then (0 : Int32) else (if (9 : Int32) ≤ x4 then (0 : Int32) else (1 : Int32)))); if (V_X10_isTeam x1 M) = 0 then (V_X10_finding (-1001 : Int32) M) else (if (V_X10_isMember x2 M) = 0 then (V_X10_finding (-1001 : Int32) M) else (if v0_0 = 0 then (V_X10_finding (-1001 : Int32) M) else (1 : Int32))))
def U_X10_start (x1 : Int32) (x2 : Int32) (x3 : Int32) (x4 : Int32) (M : Mem) : Mem := (let v0_0 : Int32 := if x3 < 0 then (0 : Int32) else (if (7 : Int32) ≤ x3 then (0 : Int32) else (if x4 < 0 then (0 : Int32) else (if (9 : Int32) ≤ x4 then (0 : Int32) else (1 : Int32)))); if (V_X10_isTeam x1 M) = 0 then (U_X10_finding (-1001 : Int32) M) else (if (V_X10_isMember x2 M) = 0 then (U_X10_finding (-1001 : Int32) M) else (if v0_0 = 0 then (U_X10_finding (-1001 : Int32) M) else (setI (setI M ((106 + 4 * x1.toNatClampNeg) + 2) x2.toNatClampNeg x3) ((106 + 4 * x1.toNatClampNeg) + 3) x2.toNatClampNeg x4))))
def P_X10_start (x1 : Int32) (x2 : Int32) (x3 : Int32) (x4 : Int32) (M : Mem) : Prop := (¬ ((V_X10_isTeam x1 M) = 0) → ¬ ((V_X10_isMember x2 M) = 0) → ¬ ((if x3 < 0 then (0 : Int32) else (if (7 : Int32) ≤ x3 then (0 : Int32) else (if x4 < 0 then (0 : Int32) else (if (9 : Int32) ≤ x4 then (0 : Int32) else (1 : Int32))))) = 0) → vp_in x1 4) ∧ (¬ ((V_X10_isTeam x1 M) = 0) → ¬ ((V_X10_isMember x2 M) = 0) → ¬ ((if x3 < 0 then (0 : Int32) else (if (7 : Int32) ≤ x3 then (0 : Int32) else (if x4 < 0 then (0 : Int32) else (if (9 : Int32) ≤ x4 then (0 : Int32) else (1 : Int32))))) = 0) → vp_in x2 5)
theorem S_X10_start {sh : List SC} {M : Mem} {x1 : Int32} {x2 : Int32} {x3 : Int32} {x4 : Int32}  (hb1 : PitchAt sh)  (hP : P_X10_start x1 x2 x3 x4 M) : Gv m_X10_start [.ref 0, .int x1, .int x2, .int x3, .int x4] sh M (.int (V_X10_start x1 x2 x3 x4 M)) (U_X10_start x1 x2 x3 x4 M) := by
  refine Sp.of (ls := [some (.ref 0), some (.int x1), some (.int x2), some (.int x3), some (.int x4), none]) (by decide +kernel) (Nat.le_of_ble_eq_true rfl) rfl ?_
  obtain ⟨g1, g2⟩ := hP
  have k0 : kd sh 0 = some (9 + 7, 0) := hb1.1
  have k1 : rf sh 0 3 = some 9 := hb1.2.2.2.2.1
  have k2 : kd sh 9 = some (4, 4) := hb1.2.2.2.2.2.2.2.2.2.2.2.2.2.2.2.2.2.2.2.2.1
  refine r_iload_n e_X10_start_0 rfl ?_
  obtain ⟨v0_0, e_v0_0⟩ : ∃ z : Int32, z = (if x3 < 0 then (0 : Int32) else (if (7 : Int32) ≤ x3 then (0 : Int32) else (if x4 < 0 then (0 : Int32) else (if (9 : Int32) ≤ x4 then (0 : Int32) else (1 : Int32))))) := ⟨_, rfl⟩
  have z_v0_0 : v0_0 = 0 ∨ v0_0 = 1 := by rw [e_v0_0]; exact (zi (Or.inl rfl) (zi (Or.inl rfl) (zi (Or.inl rfl) (zi (Or.inl rfl) (Or.inr rfl)))))
  suffices j27_0 : WP m_X10_start (fun r sh' M'' => r = some (.int (V_X10_start x1 x2 x3 x4 M)) ∧ sh' = sh ∧ M'' = (U_X10_start x1 x2 x3 x4 M)) 27 [some (.ref 0), some (.int x1), some (.int x2), some (.int x3), some (.int x4), none] [.int v0_0] sh M 0 0 by
    refine r_if_lt e_X10_start_1 (fun h1_0 => ?_) (fun h1_0 => ?_)
    · refine r_iconst e_X10_start_26 ic_0 ?_
      (rw [show v0_0 = (0 : Int32) from (e_v0_0.trans (if_pos h1_0))] at j27_0; exact j27_0)
    · refine r_iload_n e_X10_start_4 rfl ?_
      refine r_bipush e_X10_start_5 bp_7 ?_
      refine r_icmp_ge e_X10_start_7 (fun h7_1 => ?_) (fun h7_1 => ?_)
      · refine r_iconst e_X10_start_26 ic_0 ?_
        (rw [show v0_0 = (0 : Int32) from ((e_v0_0.trans (if_neg h1_0)).trans (if_pos h7_1))] at j27_0; exact j27_0)
      · refine r_iload e_X10_start_10 rfl ?_
        refine r_if_lt e_X10_start_12 (fun h12_2 => ?_) (fun h12_2 => ?_)
        · refine r_iconst e_X10_start_26 ic_0 ?_
          (rw [show v0_0 = (0 : Int32) from (((e_v0_0.trans (if_neg h1_0)).trans (if_neg h7_1)).trans (if_pos h12_2))] at j27_0; exact j27_0)
        · refine r_iload e_X10_start_15 rfl ?_
          refine r_bipush e_X10_start_17 bp_9 ?_
          refine r_icmp_ge e_X10_start_19 (fun h19_3 => ?_) (fun h19_3 => ?_)
          · refine r_iconst e_X10_start_26 ic_0 ?_
            (rw [show v0_0 = (0 : Int32) from ((((e_v0_0.trans (if_neg h1_0)).trans (if_neg h7_1)).trans (if_neg h12_2)).trans (if_pos h19_3))] at j27_0; exact j27_0)
          · refine r_iconst e_X10_start_22 ic_1 ?_
            refine r_goto e_X10_start_23 ?_
            (rw [show v0_0 = (1 : Int32) from ((((e_v0_0.trans (if_neg h1_0)).trans (if_neg h7_1)).trans (if_neg h12_2)).trans (if_neg h19_3))] at j27_0; exact j27_0)
  refine p_istore_6_5 e_X10_start_27 rfl rfl ?_
  refine r_iload_n e_X10_start_29 rfl ?_
  refine cS1v e_X10_start_30 cl_X10_89 ⟨Nat.le_of_ble_eq_true rfl, Nat.le_of_ble_eq_true rfl⟩ ⟨rfl, rfl⟩  (Nat.le_of_ble_eq_true rfl) (S_X10_isTeam ) ?_
  refine r_if_eq e_X10_start_33 (fun h33_4 => ?_) (fun h33_4 => ?_)
  · refine r_aload_n e_X10_start_48 rfl ?_
    refine r_sipush e_X10_start_49 sp_m1001 ?_
    refine cV1v e_X10_start_52 cl_X10_70 ⟨Nat.le_of_ble_eq_true rfl, Nat.le_of_ble_eq_true rfl⟩ ⟨rfl, rfl⟩ k0 (Nat.le_of_ble_eq_true rfl) (S_X10_finding hb1) ?_
    refine r_ireturn e_X10_start_55 rfl ⟨rfl, rfl⟩ ?_
    (subst e_v0_0; refine ⟨?_, rfl, ?_⟩ <;> ((try unfold V_X10_start); (try unfold U_X10_start); (try simp only [if_pos h33_4]); (try rfl)))
  · refine r_iload_n e_X10_start_36 rfl ?_
    refine cS1v e_X10_start_37 cl_X10_93 ⟨Nat.le_of_ble_eq_true rfl, Nat.le_of_ble_eq_true rfl⟩ ⟨rfl, rfl⟩  (Nat.le_of_ble_eq_true rfl) (S_X10_isMember ) ?_
    refine r_if_eq e_X10_start_40 (fun h40_5 => ?_) (fun h40_5 => ?_)
    · refine r_aload_n e_X10_start_48 rfl ?_
      refine r_sipush e_X10_start_49 sp_m1001 ?_
      refine cV1v e_X10_start_52 cl_X10_70 ⟨Nat.le_of_ble_eq_true rfl, Nat.le_of_ble_eq_true rfl⟩ ⟨rfl, rfl⟩ k0 (Nat.le_of_ble_eq_true rfl) (S_X10_finding hb1) ?_
      refine r_ireturn e_X10_start_55 rfl ⟨rfl, rfl⟩ ?_
      (subst e_v0_0; refine ⟨?_, rfl, ?_⟩ <;> ((try unfold V_X10_start); (try unfold U_X10_start); (try simp only [if_neg h33_4, if_pos h40_5]); (try rfl)))
    · refine r_iload e_X10_start_43 rfl ?_
      refine r_if_ne e_X10_start_45 (fun h45_6 => ?_) (fun h45_6 => ?_)
      · refine r_aload_n e_X10_start_56 rfl ?_
        refine r_getR e_X10_start_57 fl_X10_28 k0 k1 ?_
        refine r_iload_n e_X10_start_60 rfl ?_
        refine r_aaload (b := (106 + 4 * x1.toNatClampNeg)) e_X10_start_61 k2 ⟨by decide, by decide⟩ (by subst e_v0_0; exact g1 h33_4 h40_5 h45_6) (hb1.2.2.2.2.2.2.2.2.2.2.2.2.2.2.2.2.2.2.2.2.2 x1.toNatClampNeg (vp_lt (by subst e_v0_0; exact g1 h33_4 h40_5 h45_6))).1 ?_
        refine r_getR e_X10_start_62 fl_X10_99 (show kd sh (106 + 4 * x1.toNatClampNeg) = some (8 + 7, 0) from (hb1.2.2.2.2.2.2.2.2.2.2.2.2.2.2.2.2.2.2.2.2.2 x1.toNatClampNeg (vp_lt (by subst e_v0_0; exact g1 h33_4 h40_5 h45_6))).2.1) (show rf sh (106 + 4 * x1.toNatClampNeg) 1 = some ((106 + 4 * x1.toNatClampNeg) + 2) from (hb1.2.2.2.2.2.2.2.2.2.2.2.2.2.2.2.2.2.2.2.2.2 x1.toNatClampNeg (vp_lt (by subst e_v0_0; exact g1 h33_4 h40_5 h45_6))).2.2.2.1) ?_
        refine r_iload_n e_X10_start_65 rfl ?_
        refine r_iload_n e_X10_start_66 rfl ?_
        refine r_iastore e_X10_start_67 (show kd sh ((106 + 4 * x1.toNatClampNeg) + 2) = some (0, 5) from (hb1.2.2.2.2.2.2.2.2.2.2.2.2.2.2.2.2.2.2.2.2.2 x1.toNatClampNeg (vp_lt (by subst e_v0_0; exact g1 h33_4 h40_5 h45_6))).2.2.2.2.2.2.1) (by subst e_v0_0; exact g2 h33_4 h40_5 h45_6) ?_
        refine r_aload_n e_X10_start_68 rfl ?_
        refine r_getR e_X10_start_69 fl_X10_28 k0 k1 ?_
        refine r_iload_n e_X10_start_72 rfl ?_
        refine r_aaload (b := (106 + 4 * x1.toNatClampNeg)) e_X10_start_73 k2 ⟨by decide, by decide⟩ (by subst e_v0_0; exact g1 h33_4 h40_5 h45_6) (hb1.2.2.2.2.2.2.2.2.2.2.2.2.2.2.2.2.2.2.2.2.2 x1.toNatClampNeg (vp_lt (by subst e_v0_0; exact g1 h33_4 h40_5 h45_6))).1 ?_
        refine r_getR e_X10_start_74 fl_X10_102 (show kd sh (106 + 4 * x1.toNatClampNeg) = some (8 + 7, 0) from (hb1.2.2.2.2.2.2.2.2.2.2.2.2.2.2.2.2.2.2.2.2.2 x1.toNatClampNeg (vp_lt (by subst e_v0_0; exact g1 h33_4 h40_5 h45_6))).2.1) (show rf sh (106 + 4 * x1.toNatClampNeg) 2 = some ((106 + 4 * x1.toNatClampNeg) + 3) from (hb1.2.2.2.2.2.2.2.2.2.2.2.2.2.2.2.2.2.2.2.2.2 x1.toNatClampNeg (vp_lt (by subst e_v0_0; exact g1 h33_4 h40_5 h45_6))).2.2.2.2.1) ?_
        refine r_iload_n e_X10_start_77 rfl ?_
        refine r_iload e_X10_start_78 rfl ?_
        refine r_iastore e_X10_start_80 (show kd sh ((106 + 4 * x1.toNatClampNeg) + 3) = some (0, 5) from (hb1.2.2.2.2.2.2.2.2.2.2.2.2.2.2.2.2.2.2.2.2.2 x1.toNatClampNeg (vp_lt (by subst e_v0_0; exact g1 h33_4 h40_5 h45_6))).2.2.2.2.2.2.2) (by subst e_v0_0; exact g2 h33_4 h40_5 h45_6) ?_
        refine r_iconst e_X10_start_81 ic_1 ?_
        refine r_ireturn e_X10_start_82 rfl ⟨rfl, rfl⟩ ?_
        (subst e_v0_0; refine ⟨?_, rfl, ?_⟩ <;> ((try unfold V_X10_start); (try unfold U_X10_start); (try simp only [if_neg h33_4, if_neg h40_5, if_neg h45_6]); (try rfl)))
      · refine r_aload_n e_X10_start_48 rfl ?_
        refine r_sipush e_X10_start_49 sp_m1001 ?_
        refine cV1v e_X10_start_52 cl_X10_70 ⟨Nat.le_of_ble_eq_true rfl, Nat.le_of_ble_eq_true rfl⟩ ⟨rfl, rfl⟩ k0 (Nat.le_of_ble_eq_true rfl) (S_X10_finding hb1) ?_
        refine r_ireturn e_X10_start_55 rfl ⟨rfl, rfl⟩ ?_
        (subst e_v0_0; refine ⟨?_, rfl, ?_⟩ <;> ((try unfold V_X10_start); (try unfold U_X10_start); (try simp only [if_neg h33_4, if_neg h40_5, if_pos h45_6]); (try rfl)))
def V_X10_views (x1 : Int32) (x2 : Int32) (x3 : Int32) (M : Mem) : Int32 := (let v0_0 : Int32 := if x2 < 0 then (0 : Int32) else (if (3 : Int32) < x2 then (0 : Int32) else (1 : Int32)); let v2_0 : Int32 := if x3 = 0 then (1 : Int32) else (if x3 < (2 : Int32) then (0 : Int32) else (if (9 : Int32) < x3 then (0 : Int32) else (1 : Int32))); if (V_X10_isTeam x1 M) = 0 then (V_X10_finding (-1001 : Int32) M) else (if v0_0 = 0 then (V_X10_finding (-1001 : Int32) M) else (if v2_0 = 0 then (V_X10_finding (-1001 : Int32) M) else (1 : Int32))))
def U_X10_views (x1 : Int32) (x2 : Int32) (x3 : Int32) (M : Mem) : Mem := (let v0_0 : Int32 := if x2 < 0 then (0 : Int32) else (if (3 : Int32) < x2 then (0 : Int32) else (1 : Int32)); let v2_0 : Int32 := if x3 = 0 then (1 : Int32) else (if x3 < (2 : Int32) then (0 : Int32) else (if (9 : Int32) < x3 then (0 : Int32) else (1 : Int32))); if (V_X10_isTeam x1 M) = 0 then (U_X10_finding (-1001 : Int32) M) else (if v0_0 = 0 then (U_X10_finding (-1001 : Int32) M) else (if v2_0 = 0 then (U_X10_finding (-1001 : Int32) M) else (setI (setI M (106 + 4 * x1.toNatClampNeg) 3 x2) (106 + 4 * x1.toNatClampNeg) 4 x3))))
def P_X10_views (x1 : Int32) (x2 : Int32) (x3 : Int32) (M : Mem) : Prop := (¬ ((V_X10_isTeam x1 M) = 0) → ¬ ((if x2 < 0 then (0 : Int32) else (if (3 : Int32) < x2 then (0 : Int32) else (1 : Int32))) = 0) → ¬ ((if x3 = 0 then (1 : Int32) else (if x3 < (2 : Int32) then (0 : Int32) else (if (9 : Int32) < x3 then (0 : Int32) else (1 : Int32)))) = 0) → vp_in x1 4)
theorem S_X10_views {sh : List SC} {M : Mem} {x1 : Int32} {x2 : Int32} {x3 : Int32}  (hb1 : PitchAt sh)  (hP : P_X10_views x1 x2 x3 M) : Gv m_X10_views [.ref 0, .int x1, .int x2, .int x3] sh M (.int (V_X10_views x1 x2 x3 M)) (U_X10_views x1 x2 x3 M) := by
  refine Sp.of (ls := [some (.ref 0), some (.int x1), some (.int x2), some (.int x3), none, none]) (by decide +kernel) (Nat.le_of_ble_eq_true rfl) rfl ?_
  have g1 : ¬ ((V_X10_isTeam x1 M) = 0) → ¬ ((if x2 < 0 then (0 : Int32) else (if (3 : Int32) < x2 then (0 : Int32) else (1 : Int32))) = 0) → ¬ ((if x3 = 0 then (1 : Int32) else (if x3 < (2 : Int32) then (0 : Int32) else (if (9 : Int32) < x3 then (0 : Int32) else (1 : Int32)))) = 0) → vp_in x1 4 := hP
  have k0 : kd sh 0 = some (9 + 7, 0) := hb1.1
  have k1 : rf sh 0 3 = some 9 := hb1.2.2.2.2.1
  have k2 : kd sh 9 = some (4, 4) := hb1.2.2.2.2.2.2.2.2.2.2.2.2.2.2.2.2.2.2.2.2.1
  refine r_iload_n e_X10_views_0 rfl ?_
  obtain ⟨v0_0, e_v0_0⟩ : ∃ z : Int32, z = (if x2 < 0 then (0 : Int32) else (if (3 : Int32) < x2 then (0 : Int32) else (1 : Int32))) := ⟨_, rfl⟩
  have z_v0_0 : v0_0 = 0 ∨ v0_0 = 1 := by rw [e_v0_0]; exact (zi (Or.inl rfl) (zi (Or.inl rfl) (Or.inr rfl)))
  suffices j14_0 : WP m_X10_views (fun r sh' M'' => r = some (.int (V_X10_views x1 x2 x3 M)) ∧ sh' = sh ∧ M'' = (U_X10_views x1 x2 x3 M)) 14 [some (.ref 0), some (.int x1), some (.int x2), some (.int x3), none, none] [.int v0_0] sh M 0 0 by
    refine r_if_lt e_X10_views_1 (fun h1_0 => ?_) (fun h1_0 => ?_)
    · refine r_iconst e_X10_views_13 ic_0 ?_
      (rw [show v0_0 = (0 : Int32) from (e_v0_0.trans (if_pos h1_0))] at j14_0; exact j14_0)
    · refine r_iload_n e_X10_views_4 rfl ?_
      refine r_iconst e_X10_views_5 ic_3 ?_
      refine r_icmp_gt e_X10_views_6 (fun h6_1 => ?_) (fun h6_1 => ?_)
      · refine r_iconst e_X10_views_13 ic_0 ?_
        (rw [show v0_0 = (0 : Int32) from ((e_v0_0.trans (if_neg h1_0)).trans (if_pos h6_1))] at j14_0; exact j14_0)
      · refine r_iconst e_X10_views_9 ic_1 ?_
        refine r_goto e_X10_views_10 ?_
        (rw [show v0_0 = (1 : Int32) from ((e_v0_0.trans (if_neg h1_0)).trans (if_neg h6_1))] at j14_0; exact j14_0)
  refine p_istore_6_4 e_X10_views_14 rfl rfl ?_
  refine r_iload_n e_X10_views_16 rfl ?_
  obtain ⟨v2_0, e_v2_0⟩ : ∃ z : Int32, z = (if x3 = 0 then (1 : Int32) else (if x3 < (2 : Int32) then (0 : Int32) else (if (9 : Int32) < x3 then (0 : Int32) else (1 : Int32)))) := ⟨_, rfl⟩
  have z_v2_0 : v2_0 = 0 ∨ v2_0 = 1 := by rw [e_v2_0]; exact (zi (Or.inr rfl) (zi (Or.inl rfl) (zi (Or.inl rfl) (Or.inr rfl))))
  suffices j36_2 : WP m_X10_views (fun r sh' M'' => r = some (.int (V_X10_views x1 x2 x3 M)) ∧ sh' = sh ∧ M'' = (U_X10_views x1 x2 x3 M)) 36 [some (.ref 0), some (.int x1), some (.int x2), some (.int x3), some (.int v0_0), none] [.int v2_0] sh M 0 0 by
    refine r_if_eq e_X10_views_17 (fun h17_2 => ?_) (fun h17_2 => ?_)
    · refine r_iconst e_X10_views_31 ic_1 ?_
      refine r_goto e_X10_views_32 ?_
      (rw [show v2_0 = (1 : Int32) from (e_v2_0.trans (if_pos h17_2))] at j36_2; exact j36_2)
    · refine r_iload_n e_X10_views_20 rfl ?_
      refine r_iconst e_X10_views_21 ic_2 ?_
      refine r_icmp_lt e_X10_views_22 (fun h22_3 => ?_) (fun h22_3 => ?_)
      · refine r_iconst e_X10_views_35 ic_0 ?_
        (rw [show v2_0 = (0 : Int32) from ((e_v2_0.trans (if_neg h17_2)).trans (if_pos h22_3))] at j36_2; exact j36_2)
      · refine r_iload_n e_X10_views_25 rfl ?_
        refine r_bipush e_X10_views_26 bp_9 ?_
        refine r_icmp_gt e_X10_views_28 (fun h28_4 => ?_) (fun h28_4 => ?_)
        · refine r_iconst e_X10_views_35 ic_0 ?_
          (rw [show v2_0 = (0 : Int32) from (((e_v2_0.trans (if_neg h17_2)).trans (if_neg h22_3)).trans (if_pos h28_4))] at j36_2; exact j36_2)
        · refine r_iconst e_X10_views_31 ic_1 ?_
          refine r_goto e_X10_views_32 ?_
          (rw [show v2_0 = (1 : Int32) from (((e_v2_0.trans (if_neg h17_2)).trans (if_neg h22_3)).trans (if_neg h28_4))] at j36_2; exact j36_2)
  refine p_istore_6_5 e_X10_views_36 rfl rfl ?_
  refine r_iload_n e_X10_views_38 rfl ?_
  refine cS1v e_X10_views_39 cl_X10_89 ⟨Nat.le_of_ble_eq_true rfl, Nat.le_of_ble_eq_true rfl⟩ ⟨rfl, rfl⟩  (Nat.le_of_ble_eq_true rfl) (S_X10_isTeam ) ?_
  refine r_if_eq e_X10_views_42 (fun h42_5 => ?_) (fun h42_5 => ?_)
  · refine r_aload_n e_X10_views_55 rfl ?_
    refine r_sipush e_X10_views_56 sp_m1001 ?_
    refine cV1v e_X10_views_59 cl_X10_70 ⟨Nat.le_of_ble_eq_true rfl, Nat.le_of_ble_eq_true rfl⟩ ⟨rfl, rfl⟩ k0 (Nat.le_of_ble_eq_true rfl) (S_X10_finding hb1) ?_
    refine r_ireturn e_X10_views_62 rfl ⟨rfl, rfl⟩ ?_
    (subst e_v2_0 e_v0_0; refine ⟨?_, rfl, ?_⟩ <;> ((try unfold V_X10_views); (try unfold U_X10_views); (try simp only [if_pos h42_5]); (try rfl)))
  · refine r_iload e_X10_views_45 rfl ?_
    refine r_if_eq e_X10_views_47 (fun h47_6 => ?_) (fun h47_6 => ?_)
    · refine r_aload_n e_X10_views_55 rfl ?_
      refine r_sipush e_X10_views_56 sp_m1001 ?_
      refine cV1v e_X10_views_59 cl_X10_70 ⟨Nat.le_of_ble_eq_true rfl, Nat.le_of_ble_eq_true rfl⟩ ⟨rfl, rfl⟩ k0 (Nat.le_of_ble_eq_true rfl) (S_X10_finding hb1) ?_
      refine r_ireturn e_X10_views_62 rfl ⟨rfl, rfl⟩ ?_
      (subst e_v2_0 e_v0_0; refine ⟨?_, rfl, ?_⟩ <;> ((try unfold V_X10_views); (try unfold U_X10_views); (try simp only [if_neg h42_5, if_pos h47_6]); (try rfl)))
    · refine r_iload e_X10_views_50 rfl ?_
      refine r_if_ne e_X10_views_52 (fun h52_7 => ?_) (fun h52_7 => ?_)
      · refine r_aload_n e_X10_views_63 rfl ?_
        refine r_getR e_X10_views_64 fl_X10_28 k0 k1 ?_
        refine r_iload_n e_X10_views_67 rfl ?_
        refine r_aaload (b := (106 + 4 * x1.toNatClampNeg)) e_X10_views_68 k2 ⟨by decide, by decide⟩ (by subst e_v2_0 e_v0_0; exact g1 h42_5 h47_6 h52_7) (hb1.2.2.2.2.2.2.2.2.2.2.2.2.2.2.2.2.2.2.2.2.2 x1.toNatClampNeg (vp_lt (by subst e_v2_0 e_v0_0; exact g1 h42_5 h47_6 h52_7))).1 ?_
        refine r_iload_n e_X10_views_69 rfl ?_
        refine r_putI e_X10_views_70 fl_X10_105 (show kd sh (106 + 4 * x1.toNatClampNeg) = some (8 + 7, 0) from (hb1.2.2.2.2.2.2.2.2.2.2.2.2.2.2.2.2.2.2.2.2.2 x1.toNatClampNeg (vp_lt (by subst e_v2_0 e_v0_0; exact g1 h42_5 h47_6 h52_7))).2.1) ?_
        refine r_aload_n e_X10_views_73 rfl ?_
        refine r_getR e_X10_views_74 fl_X10_28 k0 k1 ?_
        refine r_iload_n e_X10_views_77 rfl ?_
        refine r_aaload (b := (106 + 4 * x1.toNatClampNeg)) e_X10_views_78 k2 ⟨by decide, by decide⟩ (by subst e_v2_0 e_v0_0; exact g1 h42_5 h47_6 h52_7) (hb1.2.2.2.2.2.2.2.2.2.2.2.2.2.2.2.2.2.2.2.2.2 x1.toNatClampNeg (vp_lt (by subst e_v2_0 e_v0_0; exact g1 h42_5 h47_6 h52_7))).1 ?_
        refine r_iload_n e_X10_views_79 rfl ?_
        refine r_putI e_X10_views_80 fl_X10_108 (show kd sh (106 + 4 * x1.toNatClampNeg) = some (8 + 7, 0) from (hb1.2.2.2.2.2.2.2.2.2.2.2.2.2.2.2.2.2.2.2.2.2 x1.toNatClampNeg (vp_lt (by subst e_v2_0 e_v0_0; exact g1 h42_5 h47_6 h52_7))).2.1) ?_
        refine r_iconst e_X10_views_83 ic_1 ?_
        refine r_ireturn e_X10_views_84 rfl ⟨rfl, rfl⟩ ?_
        (subst e_v2_0 e_v0_0; refine ⟨?_, rfl, ?_⟩ <;> ((try unfold V_X10_views); (try unfold U_X10_views); (try simp only [if_neg h42_5, if_neg h47_6, if_neg h52_7]); (try rfl)))
      · refine r_aload_n e_X10_views_55 rfl ?_
        refine r_sipush e_X10_views_56 sp_m1001 ?_
        refine cV1v e_X10_views_59 cl_X10_70 ⟨Nat.le_of_ble_eq_true rfl, Nat.le_of_ble_eq_true rfl⟩ ⟨rfl, rfl⟩ k0 (Nat.le_of_ble_eq_true rfl) (S_X10_finding hb1) ?_
        refine r_ireturn e_X10_views_62 rfl ⟨rfl, rfl⟩ ?_
        (subst e_v2_0 e_v0_0; refine ⟨?_, rfl, ?_⟩ <;> ((try unfold V_X10_views); (try unfold U_X10_views); (try simp only [if_neg h42_5, if_neg h47_6, if_pos h52_7]); (try rfl)))
def F_X7_clear_22 (a : Nat) : Nat → Nat → Mem → Mem
  | 0, i22, M => M
  | n + 1, i22, M => (F_X7_clear_22 a n (i22 + 1) (setI M (a + 1) i22 (0 : Int32)))
theorem L_X7_clear_22 {sh : List SC} {Q : Po} {a : Nat}    (hb1 : TallyAt sh a)   : ∀ (n i22 : Nat) (M : Mem), i22 + n = 4 → WP m_X7_clear Q 44 [some (.ref a), none] [] sh (F_X7_clear_22 a n i22 M) 0 0 → WP m_X7_clear Q 22 [some (.ref a), some (.int (nI i22))] [] sh M 0 0 := by
  have k0 : kd sh a = some (7 + 7, 0) := hb1.1
  have k1 : rf sh a 4 = some (a + 1) := hb1.2.1
  have k2 : kd sh (a + 1) = some (0, 4) := hb1.2.2.2.1
  intro n
  induction n with
  | zero =>
    intro i22 M hi hq
    have hz : (4 : Int32) ≤ nI i22 := by
      have q : i22 = 4 := by omega
      rw [q]; exact nI_le (Nat.le_refl _) (by decide)
    refine r_iload_n e_X7_clear_22 rfl ?_
    refine r_aload_n e_X7_clear_23 rfl ?_
    refine r_getR e_X7_clear_24 fl_X7_22 k0 k1 ?_
    refine r_alen (v := (4 : Int32)) e_X7_clear_27 k2 (by decide) rfl ?_
    refine r_icmp_ge e_X7_clear_28 (fun _ => ?_) (fun hh => absurd hz hh)
    refine d_2_1 ?_
    (simp only [F_X7_clear_22] at hq; first | exact hq | (simp only []; exact hq))
  | succ n ih =>
    intro i22 M hi hq
    have hlt_i22 : i22 < 4 := by omega
    have hcl_i22 : (nI i22).toNatClampNeg = i22 := nI_clamp (by omega)
    have hs : ¬ (4 : Int32) ≤ nI i22 := nI_ge (b := 4) hlt_i22 (by decide)
    refine r_iload_n e_X7_clear_22 rfl ?_
    refine r_aload_n e_X7_clear_23 rfl ?_
    refine r_getR e_X7_clear_24 fl_X7_22 k0 k1 ?_
    refine r_alen (v := (4 : Int32)) e_X7_clear_27 k2 (by decide) rfl ?_
    refine r_icmp_ge e_X7_clear_28 (fun hh => absurd hh hs) (fun _ => ?_)
    refine r_aload_n e_X7_clear_31 rfl ?_
    refine r_getR e_X7_clear_32 fl_X7_22 k0 k1 ?_
    refine r_iload_n e_X7_clear_35 rfl ?_
    refine r_iconst e_X7_clear_36 ic_0 ?_
    refine r_iastore e_X7_clear_37 k2 (vp_in_nI (Nat.lt_of_lt_of_le hlt_i22 (by decide)) (by decide)) ?_
    rw [hcl_i22]
    refine p_iinc_2_1 e_X7_clear_38 rfl ic_1 rfl ?_
    rw [nI_1 i22]
    refine r_goto e_X7_clear_41 ?_
    (simp only [F_X7_clear_22] at hq; first | exact ih (i22 + 1) _ (by omega) hq | (simp only []; exact ih (i22 + 1) _ (by omega) hq))
def U_X7_clear (a : Nat) (M : Mem) : Mem := (F_X7_clear_22 a 4 0 (setI (setI (setI (setI M a 0 (0 : Int32)) a 1 (0 : Int32)) a 2 (0 : Int32)) a 3 (0 : Int32)))
theorem S_X7_clear {sh : List SC} {M : Mem} {a : Nat}  (hb1 : TallyAt sh a)  : Gu m_X7_clear [.ref a] sh M (U_X7_clear a M) := by
  refine Sp.of (ls := [some (.ref a), none]) (by decide +kernel) (Nat.le_of_ble_eq_true rfl) rfl ?_
  have k0 : kd sh a = some (7 + 7, 0) := hb1.1
  refine r_aload_n e_X7_clear_0 rfl ?_
  refine r_iconst e_X7_clear_1 ic_0 ?_
  refine r_putI e_X7_clear_2 fl_X7_7 k0 ?_
  refine r_aload_n e_X7_clear_5 rfl ?_
  refine r_iconst e_X7_clear_6 ic_0 ?_
  refine r_putI e_X7_clear_7 fl_X7_13 k0 ?_
  refine r_aload_n e_X7_clear_10 rfl ?_
  refine r_iconst e_X7_clear_11 ic_0 ?_
  refine r_putI e_X7_clear_12 fl_X7_16 k0 ?_
  refine r_aload_n e_X7_clear_15 rfl ?_
  refine r_iconst e_X7_clear_16 ic_0 ?_
  refine r_putI e_X7_clear_17 fl_X7_19 k0 ?_
  refine r_iconst e_X7_clear_20 ic_0 ?_
  refine p_istore_n_2_1 e_X7_clear_21 rfl rfl ?_
  skip
  show WP m_X7_clear _ 22 [some (.ref a), some (.int (nI 0))] [] sh (setI (setI (setI (setI M a 0 (0 : Int32)) a 1 (0 : Int32)) a 2 (0 : Int32)) a 3 (0 : Int32)) 0 0
  refine L_X7_clear_22 hb1 4 0  (setI (setI (setI (setI M a 0 (0 : Int32)) a 1 (0 : Int32)) a 2 (0 : Int32)) a 3 (0 : Int32)) (by omega) ?_
  refine r_return e_X7_clear_44 rfl ⟨rfl, rfl⟩ ?_
  (refine ⟨?_, rfl, ?_⟩ <;> ((try unfold U_X7_clear); (try simp only []); (try rfl)))
def U_X5_decide (a : Nat) (x1 : Int32) (x2 : Int32) (x3 : Int32) (x4 : Int32) (M : Mem) : Mem := (let v0_0 : Int32 := if (M.1 a 1) = 0 then x2 else (-x2); let v1_0 : Int32 := if (M.1 a 1) = 0 then x3 else (-x3); setI (setI (setI (setI M a 14 x1) a 15 v0_0) a 16 v1_0) a 17 x4)
theorem S_X5_decide {sh : List SC} {M : Mem} {a : Nat} {x1 : Int32} {x2 : Int32} {x3 : Int32} {x4 : Int32}  (hb1 : RobotAt sh a)  : Gu m_X5_decide [.ref a, .int x1, .int x2, .int x3, .int x4] sh M (U_X5_decide a x1 x2 x3 x4 M) := by
  refine Sp.of (ls := [some (.ref a), some (.int x1), some (.int x2), some (.int x3), some (.int x4)]) (by decide +kernel) (Nat.le_of_ble_eq_true rfl) rfl ?_
  have k0 : kd sh a = some (5 + 7, 0) := hb1.1
  refine r_aload_n e_X5_decide_0 rfl ?_
  refine r_iload_n e_X5_decide_1 rfl ?_
  refine r_putI e_X5_decide_2 fl_X5_50 k0 ?_
  refine r_aload_n e_X5_decide_5 rfl ?_
  refine r_aload_n e_X5_decide_6 rfl ?_
  refine r_getIe e_X5_decide_7 fl_X5_65 i3 k0 (gs_nI (by decide)) ?_
  obtain ⟨v0_0, e_v0_0⟩ : ∃ z : Int32, z = (if (M.1 a 1) = 0 then x2 else (-x2)) := ⟨_, rfl⟩
  suffices j19_0 : WP m_X5_decide (fun r sh' M'' => r = none ∧ sh' = sh ∧ M'' = (U_X5_decide a x1 x2 x3 x4 M)) 19 [some (.ref a), some (.int x1), some (.int x2), some (.int x3), some (.int x4)] [.int v0_0, .ref a] sh (setI M a 14 x1) 0 0 by
    refine r_if_eq e_X5_decide_10 (fun h10_0 => ?_) (fun h10_0 => ?_)
    · refine r_iload_n e_X5_decide_18 rfl ?_
      (rw [show v0_0 = x2 from (e_v0_0.trans (if_pos h10_0))] at j19_0; exact j19_0)
    · refine r_iload_n e_X5_decide_13 rfl ?_
      refine r_ineg e_X5_decide_14 ?_
      refine r_goto e_X5_decide_15 ?_
      (rw [show v0_0 = (-x2) from (e_v0_0.trans (if_neg h10_0))] at j19_0; exact j19_0)
  refine r_putI e_X5_decide_19 fl_X5_53 k0 ?_
  refine r_aload_n e_X5_decide_22 rfl ?_
  refine r_aload_n e_X5_decide_23 rfl ?_
  refine r_getIe e_X5_decide_24 fl_X5_65 i3 k0 ((gs_nI (by decide)).trans (gs_nI (by decide))) ?_
  obtain ⟨v1_0, e_v1_0⟩ : ∃ z : Int32, z = (if (M.1 a 1) = 0 then x3 else (-x3)) := ⟨_, rfl⟩
  suffices j36_1 : WP m_X5_decide (fun r sh' M'' => r = none ∧ sh' = sh ∧ M'' = (U_X5_decide a x1 x2 x3 x4 M)) 36 [some (.ref a), some (.int x1), some (.int x2), some (.int x3), some (.int x4)] [.int v1_0, .ref a] sh (setI (setI M a 14 x1) a 15 v0_0) 0 0 by
    refine r_if_eq e_X5_decide_27 (fun h27_1 => ?_) (fun h27_1 => ?_)
    · refine r_iload_n e_X5_decide_35 rfl ?_
      (rw [show v1_0 = x3 from (e_v1_0.trans (if_pos h27_1))] at j36_1; exact j36_1)
    · refine r_iload_n e_X5_decide_30 rfl ?_
      refine r_ineg e_X5_decide_31 ?_
      refine r_goto e_X5_decide_32 ?_
      (rw [show v1_0 = (-x3) from (e_v1_0.trans (if_neg h27_1))] at j36_1; exact j36_1)
  refine r_putI e_X5_decide_36 fl_X5_56 k0 ?_
  refine r_aload_n e_X5_decide_39 rfl ?_
  refine r_iload e_X5_decide_40 rfl ?_
  refine r_putI e_X5_decide_42 fl_X5_59 k0 ?_
  refine r_return e_X5_decide_45 rfl ⟨rfl, rfl⟩ ?_
  (subst e_v1_0 e_v0_0; refine ⟨?_, rfl, ?_⟩ <;> ((try unfold U_X5_decide); (try simp only []); (try rfl)))
def U_X5_leave (a : Nat) (M : Mem) : Mem := setI (setI M a 2 (-1 : Int32)) a 3 (-1 : Int32)
theorem S_X5_leave {sh : List SC} {M : Mem} {a : Nat}  (hb1 : RobotAt sh a)  : Gu m_X5_leave [.ref a] sh M (U_X5_leave a M) := by
  refine Sp.of (ls := [some (.ref a)]) (by decide +kernel) (Nat.le_of_ble_eq_true rfl) rfl ?_
  have k0 : kd sh a = some (5 + 7, 0) := hb1.1
  refine r_aload_n e_X5_leave_0 rfl ?_
  refine r_iconst e_X5_leave_1 ic_m1 ?_
  refine r_putI e_X5_leave_2 fl_X5_11 k0 ?_
  refine r_aload_n e_X5_leave_5 rfl ?_
  refine r_iconst e_X5_leave_6 ic_m1 ?_
  refine r_putI e_X5_leave_7 fl_X5_15 k0 ?_
  refine r_return e_X5_leave_10 rfl ⟨rfl, rfl⟩ ?_
  (refine ⟨?_, rfl, ?_⟩ <;> ((try unfold U_X5_leave); (try simp only []); (try rfl)))
def V_X5_seenX (a : Nat) (x1 : Int32) (M : Mem) : Int32 := (let v0_0 : Int32 := if (M.1 a 1) = 0 then x1 else ((14 : Int32) - x1); v0_0)
theorem S_X5_seenX {sh : List SC} {M : Mem} {a : Nat} {x1 : Int32}  (hb1 : RobotAt sh a)  : Gv m_X5_seenX [.ref a, .int x1] sh M (.int (V_X5_seenX a x1 M)) M := by
  refine Sp.of (ls := [some (.ref a), some (.int x1)]) (by decide +kernel) (Nat.le_of_ble_eq_true rfl) rfl ?_
  have k0 : kd sh a = some (5 + 7, 0) := hb1.1
  refine r_aload_n e_X5_seenX_0 rfl ?_
  refine r_getI e_X5_seenX_1 fl_X5_65 i3 k0 ?_
  obtain ⟨v0_0, e_v0_0⟩ : ∃ z : Int32, z = (if (M.1 a 1) = 0 then x1 else ((14 : Int32) - x1)) := ⟨_, rfl⟩
  suffices j15_0 : WP m_X5_seenX (fun r sh' M'' => r = some (.int (V_X5_seenX a x1 M)) ∧ sh' = sh ∧ M'' = M) 15 [some (.ref a), some (.int x1)] [.int v0_0] sh M 0 0 by
    refine r_if_eq e_X5_seenX_4 (fun h4_0 => ?_) (fun h4_0 => ?_)
    · refine r_iload_n e_X5_seenX_14 rfl ?_
      (rw [show v0_0 = x1 from (e_v0_0.trans (if_pos h4_0))] at j15_0; exact j15_0)
    · refine r_bipush e_X5_seenX_7 bp_14 ?_
      refine r_iload_n e_X5_seenX_9 rfl ?_
      refine r_isub e_X5_seenX_10 ?_
      refine r_goto e_X5_seenX_11 ?_
      (rw [show v0_0 = ((14 : Int32) - x1) from (e_v0_0.trans (if_neg h4_0))] at j15_0; exact j15_0)
  refine r_ireturn e_X5_seenX_15 rfl ⟨rfl, rfl⟩ ?_
  (subst e_v0_0; refine ⟨?_, rfl, ?_⟩ <;> ((try unfold V_X5_seenX); (try simp only []); (try rfl)))
def V_X5_seenY (a : Nat) (x1 : Int32) (M : Mem) : Int32 := (let v0_0 : Int32 := if (M.1 a 1) = 0 then x1 else ((8 : Int32) - x1); v0_0)
theorem S_X5_seenY {sh : List SC} {M : Mem} {a : Nat} {x1 : Int32}  (hb1 : RobotAt sh a)  : Gv m_X5_seenY [.ref a, .int x1] sh M (.int (V_X5_seenY a x1 M)) M := by
  refine Sp.of (ls := [some (.ref a), some (.int x1)]) (by decide +kernel) (Nat.le_of_ble_eq_true rfl) rfl ?_
  have k0 : kd sh a = some (5 + 7, 0) := hb1.1
  refine r_aload_n e_X5_seenY_0 rfl ?_
  refine r_getI e_X5_seenY_1 fl_X5_65 i3 k0 ?_
  obtain ⟨v0_0, e_v0_0⟩ : ∃ z : Int32, z = (if (M.1 a 1) = 0 then x1 else ((8 : Int32) - x1)) := ⟨_, rfl⟩
  suffices j15_0 : WP m_X5_seenY (fun r sh' M'' => r = some (.int (V_X5_seenY a x1 M)) ∧ sh' = sh ∧ M'' = M) 15 [some (.ref a), some (.int x1)] [.int v0_0] sh M 0 0 by
    refine r_if_eq e_X5_seenY_4 (fun h4_0 => ?_) (fun h4_0 => ?_)
    · refine r_iload_n e_X5_seenY_14 rfl ?_
      (rw [show v0_0 = x1 from (e_v0_0.trans (if_pos h4_0))] at j15_0; exact j15_0)
    · refine r_bipush e_X5_seenY_7 bp_8 ?_
      refine r_iload_n e_X5_seenY_9 rfl ?_
      refine r_isub e_X5_seenY_10 ?_
      refine r_goto e_X5_seenY_11 ?_
      (rw [show v0_0 = ((8 : Int32) - x1) from (e_v0_0.trans (if_neg h4_0))] at j15_0; exact j15_0)
  refine r_ireturn e_X5_seenY_15 rfl ⟨rfl, rfl⟩ ?_
  (subst e_v0_0; refine ⟨?_, rfl, ?_⟩ <;> ((try unfold V_X5_seenY); (try simp only []); (try rfl)))
def FV_X2_robotIn_2 (a : Nat) (x1 : Int32) (x2 : Int32) : Nat → Nat → Mem → Int32
  | 0, i2, M => (-1 : Int32)
  | n + 1, i2, M => if (M.1 (a + 10 + 2 * i2) 2) = x1 then (if (M.1 (a + 10 + 2 * i2) 3) = x2 then (nI i2) else (FV_X2_robotIn_2 a x1 x2 n (i2 + 1) M)) else (FV_X2_robotIn_2 a x1 x2 n (i2 + 1) M)
theorem L_X2_robotIn_2 {sh : List SC} {Q : Po} {a : Nat} {x1 : Int32} {x2 : Int32}    (hb1 : MatchAt sh a)   : ∀ (n i2 : Nat) (M : Mem), i2 + n = 10 → Q (some (.int (FV_X2_robotIn_2 a x1 x2 n i2 M))) sh M → WP m_X2_robotIn Q 2 [some (.ref a), some (.int x1), some (.int x2), some (.int (nI i2))] [] sh M 0 0 := by
  have k0 : kd sh a = some (2 + 7, 0) := hb1.1
  have k1 : rf sh a 3 = some (a + 3) := hb1.2.2.2.2.1
  have k2 : kd sh (a + 3) = some (6, 10) := hb1.2.2.2.2.2.2.2.1
  intro n
  induction n with
  | zero =>
    intro i2 M hi hq
    have hz : (10 : Int32) ≤ nI i2 := by
      have q : i2 = 10 := by omega
      rw [q]; exact nI_le (Nat.le_refl _) (by decide)
    refine r_iload_n e_X2_robotIn_2 rfl ?_
    refine r_aload_n e_X2_robotIn_3 rfl ?_
    refine r_getR e_X2_robotIn_4 fl_X2_20 k0 k1 ?_
    refine r_alen (v := (10 : Int32)) e_X2_robotIn_7 k2 (by decide) rfl ?_
    refine r_icmp_ge e_X2_robotIn_8 (fun _ => ?_) (fun hh => absurd hz hh)
    refine r_iconst e_X2_robotIn_45 ic_m1 ?_
    refine r_ireturn e_X2_robotIn_46 rfl ⟨rfl, rfl⟩ ?_
    (simp only [FV_X2_robotIn_2] at hq; first | exact hq | (simp only []; exact hq))
  | succ n ih =>
    intro i2 M hi hq
    have hlt_i2 : i2 < 10 := by omega
    have hcl_i2 : (nI i2).toNatClampNeg = i2 := nI_clamp (by omega)
    have hs : ¬ (10 : Int32) ≤ nI i2 := nI_ge (b := 10) hlt_i2 (by decide)
    refine r_iload_n e_X2_robotIn_2 rfl ?_
    refine r_aload_n e_X2_robotIn_3 rfl ?_
    refine r_getR e_X2_robotIn_4 fl_X2_20 k0 k1 ?_
    refine r_alen (v := (10 : Int32)) e_X2_robotIn_7 k2 (by decide) rfl ?_
    refine r_icmp_ge e_X2_robotIn_8 (fun hh => absurd hh hs) (fun _ => ?_)
    refine r_aload_n e_X2_robotIn_11 rfl ?_
    refine r_getR e_X2_robotIn_12 fl_X2_20 k0 k1 ?_
    refine r_iload_n e_X2_robotIn_15 rfl ?_
    refine r_aaload (b := (a + 10 + 2 * i2)) e_X2_robotIn_16 k2 ⟨by decide, by decide⟩ (vp_in_nI (Nat.lt_of_lt_of_le hlt_i2 (by decide)) (by decide)) (by rw [hcl_i2]; exact (hb1.2.2.2.2.2.2.2.2.1 i2 (Nat.lt_of_lt_of_le hlt_i2 (by decide))).1) ?_
    refine r_getI e_X2_robotIn_17 fl_X2_130 i0 (show kd sh (a + 10 + 2 * i2) = some (5 + 7, 0) from (hb1.2.2.2.2.2.2.2.2.1 i2 (Nat.lt_of_lt_of_le hlt_i2 (by decide))).2.1) ?_
    refine r_iload_n e_X2_robotIn_20 rfl ?_
    refine r_icmp_ne e_X2_robotIn_21 (fun h21_200 => ?_) (fun h21_200 => ?_)
    · refine p_iinc_4_3 e_X2_robotIn_39 rfl ic_1 rfl ?_
      rw [nI_1 i2]
      refine r_goto e_X2_robotIn_42 ?_
      (simp only [FV_X2_robotIn_2, if_neg h21_200] at hq; first | exact ih (i2 + 1) _ (by omega) hq | (simp only [if_neg h21_200]; exact ih (i2 + 1) _ (by omega) hq))
    · refine r_aload_n e_X2_robotIn_24 rfl ?_
      refine r_getR e_X2_robotIn_25 fl_X2_20 k0 k1 ?_
      refine r_iload_n e_X2_robotIn_28 rfl ?_
      refine r_aaload (b := (a + 10 + 2 * i2)) e_X2_robotIn_29 k2 ⟨by decide, by decide⟩ (vp_in_nI (Nat.lt_of_lt_of_le hlt_i2 (by decide)) (by decide)) (by rw [hcl_i2]; exact (hb1.2.2.2.2.2.2.2.2.1 i2 (Nat.lt_of_lt_of_le hlt_i2 (by decide))).1) ?_
      refine r_getI e_X2_robotIn_30 fl_X2_131 i0 (show kd sh (a + 10 + 2 * i2) = some (5 + 7, 0) from (hb1.2.2.2.2.2.2.2.2.1 i2 (Nat.lt_of_lt_of_le hlt_i2 (by decide))).2.1) ?_
      refine r_iload_n e_X2_robotIn_33 rfl ?_
      refine r_icmp_ne e_X2_robotIn_34 (fun h34_201 => ?_) (fun h34_201 => ?_)
      · refine p_iinc_4_3 e_X2_robotIn_39 rfl ic_1 rfl ?_
        rw [nI_1 i2]
        refine r_goto e_X2_robotIn_42 ?_
        (simp only [FV_X2_robotIn_2, if_pos h21_200, if_neg h34_201] at hq; first | exact ih (i2 + 1) _ (by omega) hq | (simp only [if_pos h21_200, if_neg h34_201]; exact ih (i2 + 1) _ (by omega) hq))
      · refine r_iload_n e_X2_robotIn_37 rfl ?_
        refine r_ireturn e_X2_robotIn_38 rfl ⟨rfl, rfl⟩ ?_
        (simp only [FV_X2_robotIn_2, if_pos h21_200, if_pos h34_201] at hq; first | exact hq | (simp only [if_pos h21_200, if_pos h34_201]; exact hq))
def V_X2_robotIn (a : Nat) (x1 : Int32) (x2 : Int32) (M : Mem) : Int32 := (FV_X2_robotIn_2 a x1 x2 10 0 M)
theorem S_X2_robotIn {sh : List SC} {M : Mem} {a : Nat} {x1 : Int32} {x2 : Int32}  (hb1 : MatchAt sh a)  : Gv m_X2_robotIn [.ref a, .int x1, .int x2] sh M (.int (V_X2_robotIn a x1 x2 M)) M := by
  refine Sp.of (ls := [some (.ref a), some (.int x1), some (.int x2), none]) (by decide +kernel) (Nat.le_of_ble_eq_true rfl) rfl ?_
  refine r_iconst e_X2_robotIn_0 ic_0 ?_
  refine p_istore_n_4_3 e_X2_robotIn_1 rfl rfl ?_
  skip
  show WP m_X2_robotIn _ 2 [some (.ref a), some (.int x1), some (.int x2), some (.int (nI 0))] [] sh M 0 0
  refine L_X2_robotIn_2 hb1 10 0  M (by omega) ?_
  (refine ⟨?_, rfl, ?_⟩ <;> ((try unfold V_X2_robotIn); (try simp only []); (try rfl)))
def V_X10_distance (x1 : Int32) (x2 : Int32) (x3 : Int32) (x4 : Int32) (M : Mem) : Int32 := (if (if 0 ≤ (x1 - x3) then (x1 - x3) else 0 - (x1 - x3)) < (if 0 ≤ (x2 - x4) then (x2 - x4) else 0 - (x2 - x4)) then (if 0 ≤ (x2 - x4) then (x2 - x4) else 0 - (x2 - x4)) else (if 0 ≤ (x1 - x3) then (x1 - x3) else 0 - (x1 - x3)))
theorem S_X10_distance {sh : List SC} {M : Mem} {x1 : Int32} {x2 : Int32} {x3 : Int32} {x4 : Int32}    : Gv m_X10_distance [.int x1, .int x2, .int x3, .int x4] sh M (.int (V_X10_distance x1 x2 x3 x4 M)) M := by
  refine Sp.of (ls := [some (.int x1), some (.int x2), some (.int x3), some (.int x4)]) (by decide +kernel) (Nat.le_of_ble_eq_true rfl) rfl ?_
  refine r_iload_n e_X10_distance_0 rfl ?_
  refine r_iload_n e_X10_distance_1 rfl ?_
  refine r_isub e_X10_distance_2 ?_
  refine r_mabs e_X10_distance_3 cl_X10_207 ⟨Nat.le_of_ble_eq_true rfl, Nat.le_of_ble_eq_true rfl, Nat.zero_le _, Nat.zero_le _⟩ (Nat.le_of_ble_eq_true rfl) ?_
  refine r_iload_n e_X10_distance_6 rfl ?_
  refine r_iload_n e_X10_distance_7 rfl ?_
  refine r_isub e_X10_distance_8 ?_
  refine r_mabs e_X10_distance_9 cl_X10_207 ⟨Nat.le_of_ble_eq_true rfl, Nat.le_of_ble_eq_true rfl, Nat.zero_le _, Nat.zero_le _⟩ (Nat.le_of_ble_eq_true rfl) ?_
  refine r_mmax e_X10_distance_12 cl_X10_204 ⟨Nat.le_of_ble_eq_true rfl, Nat.le_of_ble_eq_true rfl, Nat.zero_le _, Nat.zero_le _⟩ (Nat.le_of_ble_eq_true rfl) ?_
  refine r_ireturn e_X10_distance_15 rfl ⟨rfl, rfl⟩ ?_
  (refine ⟨?_, rfl, ?_⟩ <;> ((try unfold V_X10_distance); (try simp only []); (try rfl)))
def U_X0_go (a : Nat) (x1 : Int32) (x2 : Int32) (M : Mem) : Mem := setI (setI M a 0 x1) a 1 x2
theorem S_X0_go {sh : List SC} {M : Mem} {a : Nat} {x1 : Int32} {x2 : Int32}  (hb1 : BallAt sh a)  : Gu m_X0_go [.ref a, .int x1, .int x2] sh M (U_X0_go a x1 x2 M) := by
  refine Sp.of (ls := [some (.ref a), some (.int x1), some (.int x2)]) (by decide +kernel) (Nat.le_of_ble_eq_true rfl) rfl ?_
  have k0 : kd sh a = some (0 + 7, 0) := hb1.1
  refine r_aload_n e_X0_go_0 rfl ?_
  refine r_iload_n e_X0_go_1 rfl ?_
  refine r_putI e_X0_go_2 fl_X0_7 k0 ?_
  refine r_aload_n e_X0_go_5 rfl ?_
  refine r_iload_n e_X0_go_6 rfl ?_
  refine r_putI e_X0_go_7 fl_X0_13 k0 ?_
  refine r_return e_X0_go_10 rfl ⟨rfl, rfl⟩ ?_
  (refine ⟨?_, rfl, ?_⟩ <;> ((try unfold U_X0_go); (try simp only []); (try rfl)))
def U_X0_free (a : Nat) (x1 : Int32) (x2 : Int32) (x3 : Int32) (M : Mem) : Mem := setI (setI (setI (setI M a 2 (-1 : Int32)) a 5 x1) a 6 x2) a 4 x3
theorem S_X0_free {sh : List SC} {M : Mem} {a : Nat} {x1 : Int32} {x2 : Int32} {x3 : Int32}  (hb1 : BallAt sh a)  : Gu m_X0_free [.ref a, .int x1, .int x2, .int x3] sh M (U_X0_free a x1 x2 x3 M) := by
  refine Sp.of (ls := [some (.ref a), some (.int x1), some (.int x2), some (.int x3)]) (by decide +kernel) (Nat.le_of_ble_eq_true rfl) rfl ?_
  have k0 : kd sh a = some (0 + 7, 0) := hb1.1
  refine r_aload_n e_X0_free_0 rfl ?_
  refine r_iconst e_X0_free_1 ic_m1 ?_
  refine r_putI e_X0_free_2 fl_X0_16 k0 ?_
  refine r_aload_n e_X0_free_5 rfl ?_
  refine r_iload_n e_X0_free_6 rfl ?_
  refine r_putI e_X0_free_7 fl_X0_25 k0 ?_
  refine r_aload_n e_X0_free_10 rfl ?_
  refine r_iload_n e_X0_free_11 rfl ?_
  refine r_putI e_X0_free_12 fl_X0_28 k0 ?_
  refine r_aload_n e_X0_free_15 rfl ?_
  refine r_iload_n e_X0_free_16 rfl ?_
  refine r_putI e_X0_free_17 fl_X0_22 k0 ?_
  refine r_return e_X0_free_20 rfl ⟨rfl, rfl⟩ ?_
  (refine ⟨?_, rfl, ?_⟩ <;> ((try unfold U_X0_free); (try simp only []); (try rfl)))
def U_X0_remember (a : Nat) (x1 : Int32) (M : Mem) : Mem := (let Mc1 : Mem := U_X10_put (a + 2) (x1 &&& (3 : Int32)) ((U_X10_put (a + 1) (x1 &&& (3 : Int32)) (M.1 a 0) 4 M).1 a 1) 4 (U_X10_put (a + 1) (x1 &&& (3 : Int32)) (M.1 a 0) 4 M); Mc1)
theorem S_X0_remember {sh : List SC} {M : Mem} {a : Nat} {x1 : Int32}  (hb1 : BallAt sh a)  : Gu m_X0_remember [.ref a, .int x1] sh M (U_X0_remember a x1 M) := by
  refine Sp.of (ls := [some (.ref a), some (.int x1)]) (by decide +kernel) (Nat.le_of_ble_eq_true rfl) rfl ?_
  have k0 : kd sh a = some (0 + 7, 0) := hb1.1
  have k1 : rf sh a 10 = some (a + 1) := hb1.2.1
  have k2 : kd sh (a + 1) = some (0, 4) := hb1.2.2.2.1
  have k3 : rf sh a 11 = some (a + 2) := hb1.2.2.1
  have k4 : kd sh (a + 2) = some (0, 4) := hb1.2.2.2.2
  refine r_aload_n e_X0_remember_0 rfl ?_
  refine r_getR e_X0_remember_1 fl_X0_40 k0 k1 ?_
  refine r_iload_n e_X0_remember_4 rfl ?_
  refine r_iconst e_X0_remember_5 ic_3 ?_
  refine r_iand e_X0_remember_6 ?_
  refine r_aload_n e_X0_remember_7 rfl ?_
  refine r_getI e_X0_remember_8 fl_X0_7 i0 k0 ?_
  refine cSN3u e_X0_remember_11 cl_X0_55 ⟨Nat.le_of_ble_eq_true rfl, Nat.le_of_ble_eq_true rfl⟩ ⟨rfl, rfl⟩  (Nat.le_of_ble_eq_true rfl) (S_X10_put k2 (by first | decide | (unfold vp_in; decide) | exact Or.inl rfl | exact Or.inr rfl)) ?_
  refine r_aload_n e_X0_remember_14 rfl ?_
  refine r_getR e_X0_remember_15 fl_X0_44 k0 k3 ?_
  refine r_iload_n e_X0_remember_18 rfl ?_
  refine r_iconst e_X0_remember_19 ic_3 ?_
  refine r_iand e_X0_remember_20 ?_
  refine r_aload_n e_X0_remember_21 rfl ?_
  refine r_getI e_X0_remember_22 fl_X0_13 i0 k0 ?_
  refine cSN3u e_X0_remember_25 cl_X0_55 ⟨Nat.le_of_ble_eq_true rfl, Nat.le_of_ble_eq_true rfl⟩ ⟨rfl, rfl⟩  (Nat.le_of_ble_eq_true rfl) (S_X10_put k4 (by first | decide | (unfold vp_in; decide) | exact Or.inl rfl | exact Or.inr rfl)) ?_
  obtain ⟨Mc1, e_Mc1⟩ : ∃ z : Mem, z = (U_X10_put (a + 2) (x1 &&& (3 : Int32)) ((U_X10_put (a + 1) (x1 &&& (3 : Int32)) (M.1 a 0) 4 M).1 a 1) 4 (U_X10_put (a + 1) (x1 &&& (3 : Int32)) (M.1 a 0) 4 M)) := ⟨_, rfl⟩
  rw [← e_Mc1]
  refine r_return e_X0_remember_28 rfl ⟨rfl, rfl⟩ ?_
  (subst e_Mc1; refine ⟨?_, rfl, ?_⟩ <;> ((try unfold U_X0_remember); (try simp only []); (try rfl)))
def U_X5_see (a : Nat) (x1 : Int32) (x2 : Int32) (M : Mem) : Mem := setI (setI M a 10 x1) a 11 x2
theorem S_X5_see {sh : List SC} {M : Mem} {a : Nat} {x1 : Int32} {x2 : Int32}  (hb1 : RobotAt sh a)  : Gu m_X5_see [.ref a, .int x1, .int x2] sh M (U_X5_see a x1 x2 M) := by
  refine Sp.of (ls := [some (.ref a), some (.int x1), some (.int x2)]) (by decide +kernel) (Nat.le_of_ble_eq_true rfl) rfl ?_
  have k0 : kd sh a = some (5 + 7, 0) := hb1.1
  refine r_aload_n e_X5_see_0 rfl ?_
  refine r_iload_n e_X5_see_1 rfl ?_
  refine r_putI e_X5_see_2 fl_X5_38 k0 ?_
  refine r_aload_n e_X5_see_5 rfl ?_
  refine r_iload_n e_X5_see_6 rfl ?_
  refine r_putI e_X5_see_7 fl_X5_41 k0 ?_
  refine r_return e_X5_see_10 rfl ⟨rfl, rfl⟩ ?_
  (refine ⟨?_, rfl, ?_⟩ <;> ((try unfold U_X5_see); (try simp only []); (try rfl)))
def V_X5_isLost (a : Nat) (x1 : Int32) (M : Mem) : Int32 := (let v0_0 : Int32 := if (M.1 a 13) ≤ 0 then (0 : Int32) else (if ((x1 + (M.1 a 0)) - (x1 + (M.1 a 0)) / (M.1 a 13) * (M.1 a 13)) = 0 then (1 : Int32) else (0 : Int32)); v0_0)
theorem Z_X5_isLost {M : Mem} {a : Nat} {x1 : Int32}   : V_X5_isLost a x1 M = 0 ∨ V_X5_isLost a x1 M = 1 := (zi (Or.inl rfl) (zi (Or.inr rfl) (Or.inl rfl)))
theorem S_X5_isLost {sh : List SC} {M : Mem} {a : Nat} {x1 : Int32}  (hb1 : RobotAt sh a)  : Gv m_X5_isLost [.ref a, .int x1] sh M (.int (V_X5_isLost a x1 M)) M := by
  refine Sp.of (ls := [some (.ref a), some (.int x1)]) (by decide +kernel) (Nat.le_of_ble_eq_true rfl) rfl ?_
  have k0 : kd sh a = some (5 + 7, 0) := hb1.1
  refine r_aload_n e_X5_isLost_0 rfl ?_
  refine r_getI e_X5_isLost_1 fl_X5_47 i0 k0 ?_
  obtain ⟨v0_0, e_v0_0⟩ : ∃ z : Int32, z = (if (M.1 a 13) ≤ 0 then (0 : Int32) else (if ((x1 + (M.1 a 0)) - (x1 + (M.1 a 0)) / (M.1 a 13) * (M.1 a 13)) = 0 then (1 : Int32) else (0 : Int32))) := ⟨_, rfl⟩
  have z_v0_0 : v0_0 = 0 ∨ v0_0 = 1 := by rw [e_v0_0]; exact (zi (Or.inl rfl) (zi (Or.inr rfl) (Or.inl rfl)))
  suffices j26_0 : WP m_X5_isLost (fun r sh' M'' => r = some (.int (V_X5_isLost a x1 M)) ∧ sh' = sh ∧ M'' = M) 26 [some (.ref a), some (.int x1)] [.int v0_0] sh M 0 0 by
    refine r_if_le e_X5_isLost_4 (fun h4_0 => ?_) (fun h4_0 => ?_)
    · refine r_iconst e_X5_isLost_25 ic_0 ?_
      (rw [show v0_0 = (0 : Int32) from (e_v0_0.trans (if_pos h4_0))] at j26_0; exact j26_0)
    · refine r_iload_n e_X5_isLost_7 rfl ?_
      refine r_aload_n e_X5_isLost_8 rfl ?_
      refine r_getI e_X5_isLost_9 fl_X5_62 i0 k0 ?_
      refine r_iadd e_X5_isLost_12 ?_
      refine r_aload_n e_X5_isLost_13 rfl ?_
      refine r_getI e_X5_isLost_14 fl_X5_47 i0 k0 ?_
      refine r_irem e_X5_isLost_17 (fun q => h4_0 (by rw [q]; decide)) ?_
      refine r_if_ne e_X5_isLost_18 (fun h18_1 => ?_) (fun h18_1 => ?_)
      · refine r_iconst e_X5_isLost_25 ic_0 ?_
        (rw [show v0_0 = (0 : Int32) from ((e_v0_0.trans (if_neg h4_0)).trans (if_neg h18_1))] at j26_0; exact j26_0)
      · refine r_iconst e_X5_isLost_21 ic_1 ?_
        refine r_goto e_X5_isLost_22 ?_
        (rw [show v0_0 = (1 : Int32) from ((e_v0_0.trans (if_neg h4_0)).trans (if_pos h18_1))] at j26_0; exact j26_0)
  refine r_zreturn e_X5_isLost_26 rfl ⟨rfl, rfl⟩ z_v0_0 ?_
  (subst e_v0_0; refine ⟨?_, rfl, ?_⟩ <;> ((try unfold V_X5_isLost); (try simp only []); (try rfl)))
def V_X0_pastX (a : Nat) (x1 : Int32) (M : Mem) : Int32 := (V_X10_at (a + 1) (x1 &&& (3 : Int32)) 4 M)
theorem S_X0_pastX {sh : List SC} {M : Mem} {a : Nat} {x1 : Int32}  (hb1 : BallAt sh a)  : Gv m_X0_pastX [.ref a, .int x1] sh M (.int (V_X0_pastX a x1 M)) M := by
  refine Sp.of (ls := [some (.ref a), some (.int x1)]) (by decide +kernel) (Nat.le_of_ble_eq_true rfl) rfl ?_
  have k0 : kd sh a = some (0 + 7, 0) := hb1.1
  have k1 : rf sh a 10 = some (a + 1) := hb1.2.1
  have k2 : kd sh (a + 1) = some (0, 4) := hb1.2.2.2.1
  refine r_aload_n e_X0_pastX_0 rfl ?_
  refine r_getR e_X0_pastX_1 fl_X0_40 k0 k1 ?_
  refine r_iload_n e_X0_pastX_4 rfl ?_
  refine r_iconst e_X0_pastX_5 ic_3 ?_
  refine r_iand e_X0_pastX_6 ?_
  refine cSN2v e_X0_pastX_7 cl_X0_65 ⟨Nat.le_of_ble_eq_true rfl, Nat.le_of_ble_eq_true rfl⟩ ⟨rfl, rfl⟩  (Nat.le_of_ble_eq_true rfl) (S_X10_at k2 (by first | decide | (unfold vp_in; decide) | exact Or.inl rfl | exact Or.inr rfl)) ?_
  refine r_ireturn e_X0_pastX_10 rfl ⟨rfl, rfl⟩ ?_
  (refine ⟨?_, rfl, ?_⟩ <;> ((try unfold V_X0_pastX); (try simp only []); (try rfl)))
def V_X0_pastY (a : Nat) (x1 : Int32) (M : Mem) : Int32 := (V_X10_at (a + 2) (x1 &&& (3 : Int32)) 4 M)
theorem S_X0_pastY {sh : List SC} {M : Mem} {a : Nat} {x1 : Int32}  (hb1 : BallAt sh a)  : Gv m_X0_pastY [.ref a, .int x1] sh M (.int (V_X0_pastY a x1 M)) M := by
  refine Sp.of (ls := [some (.ref a), some (.int x1)]) (by decide +kernel) (Nat.le_of_ble_eq_true rfl) rfl ?_
  have k0 : kd sh a = some (0 + 7, 0) := hb1.1
  have k1 : rf sh a 11 = some (a + 2) := hb1.2.2.1
  have k2 : kd sh (a + 2) = some (0, 4) := hb1.2.2.2.2
  refine r_aload_n e_X0_pastY_0 rfl ?_
  refine r_getR e_X0_pastY_1 fl_X0_44 k0 k1 ?_
  refine r_iload_n e_X0_pastY_4 rfl ?_
  refine r_iconst e_X0_pastY_5 ic_3 ?_
  refine r_iand e_X0_pastY_6 ?_
  refine cSN2v e_X0_pastY_7 cl_X0_65 ⟨Nat.le_of_ble_eq_true rfl, Nat.le_of_ble_eq_true rfl⟩ ⟨rfl, rfl⟩  (Nat.le_of_ble_eq_true rfl) (S_X10_at k2 (by first | decide | (unfold vp_in; decide) | exact Or.inl rfl | exact Or.inr rfl)) ?_
  refine r_ireturn e_X0_pastY_10 rfl ⟨rfl, rfl⟩ ?_
  (refine ⟨?_, rfl, ?_⟩ <;> ((try unfold V_X0_pastY); (try simp only []); (try rfl)))
def V_X2_holding (a : Nat) (x1 : Int32) (M : Mem) : Int32 := if 0 ≤ (M.1 (a + 4) 2) then (if (M.1 (a + 4) 2) = x1 then (2 : Int32) else (let v2_0 : Int32 := if ((M.1 (a + 4) 2) / (5 : Int32)) = (x1 / (5 : Int32)) then (1 : Int32) else (-1 : Int32); v2_0)) else (0 : Int32)
theorem S_X2_holding {sh : List SC} {M : Mem} {a : Nat} {x1 : Int32}  (hb1 : MatchAt sh a)  : Gv m_X2_holding [.ref a, .int x1] sh M (.int (V_X2_holding a x1 M)) M := by
  refine Sp.of (ls := [some (.ref a), some (.int x1)]) (by decide +kernel) (Nat.le_of_ble_eq_true rfl) rfl ?_
  have k0 : kd sh a = some (2 + 7, 0) := hb1.1
  have k1 : rf sh a 4 = some (a + 4) := hb1.2.2.2.2.2.1
  have k2 : kd sh (a + 4) = some (0 + 7, 0) := hb1.2.2.2.2.2.2.2.2.2.1.1
  refine r_aload_n e_X2_holding_0 rfl ?_
  refine r_getR e_X2_holding_1 fl_X2_27 k0 k1 ?_
  refine r_getI e_X2_holding_4 fl_X2_132 i0 k2 ?_
  refine r_if_ge e_X2_holding_7 (fun h7_0 => ?_) (fun h7_0 => ?_)
  · refine r_aload_n e_X2_holding_12 rfl ?_
    refine r_getR e_X2_holding_13 fl_X2_27 k0 k1 ?_
    refine r_getI e_X2_holding_16 fl_X2_132 i0 k2 ?_
    refine r_iload_n e_X2_holding_19 rfl ?_
    refine r_icmp_ne e_X2_holding_20 (fun h20_1 => ?_) (fun h20_1 => ?_)
    · refine r_aload_n e_X2_holding_25 rfl ?_
      refine r_getR e_X2_holding_26 fl_X2_27 k0 k1 ?_
      refine r_getI e_X2_holding_29 fl_X2_132 i0 k2 ?_
      refine r_iconst e_X2_holding_32 ic_5 ?_
      refine r_idiv e_X2_holding_33 (by decide) ?_
      refine r_iload_n e_X2_holding_34 rfl ?_
      refine r_iconst e_X2_holding_35 ic_5 ?_
      refine r_idiv e_X2_holding_36 (by decide) ?_
      obtain ⟨v2_0, e_v2_0⟩ : ∃ z : Int32, z = (if ((M.1 (a + 4) 2) / (5 : Int32)) = (x1 / (5 : Int32)) then (1 : Int32) else (-1 : Int32)) := ⟨_, rfl⟩
      suffices j45_2 : WP m_X2_holding (fun r sh' M'' => r = some (.int (V_X2_holding a x1 M)) ∧ sh' = sh ∧ M'' = M) 45 [some (.ref a), some (.int x1)] [.int v2_0] sh M 0 0 by
        refine r_icmp_ne e_X2_holding_37 (fun h37_2 => ?_) (fun h37_2 => ?_)
        · refine r_iconst e_X2_holding_44 ic_m1 ?_
          (rw [show v2_0 = (-1 : Int32) from (e_v2_0.trans (if_neg h37_2))] at j45_2; exact j45_2)
        · refine r_iconst e_X2_holding_40 ic_1 ?_
          refine r_goto e_X2_holding_41 ?_
          (rw [show v2_0 = (1 : Int32) from (e_v2_0.trans (if_pos h37_2))] at j45_2; exact j45_2)
      refine r_ireturn e_X2_holding_45 rfl ⟨rfl, rfl⟩ ?_
      (subst e_v2_0; refine ⟨?_, rfl, ?_⟩ <;> ((try unfold V_X2_holding); (try simp only [if_pos h7_0, if_neg h20_1]); (try rfl)))
    · refine r_iconst e_X2_holding_23 ic_2 ?_
      refine r_ireturn e_X2_holding_24 rfl ⟨rfl, rfl⟩ ?_
      (refine ⟨?_, rfl, ?_⟩ <;> ((try unfold V_X2_holding); (try simp only [if_pos h7_0, if_pos h20_1]); (try rfl)))
  · refine r_iconst e_X2_holding_10 ic_0 ?_
    refine r_ireturn e_X2_holding_11 rfl ⟨rfl, rfl⟩ ?_
    (refine ⟨?_, rfl, ?_⟩ <;> ((try unfold V_X2_holding); (try simp only [if_neg h7_0]); (try rfl)))
def F_X6_work_28 (a : Nat) (x1 : Nat) (x2 : Int32) (x3 : Nat) (n1 : Nat) (w6 : Int32) : Nat → Int32 → Int32 → Int32 → Mem → Int32 × Int32 × Int32 × Mem
  | 0, u4, u5, u7, M => (u4, u5, u7, M)
  | n + 1, u4, u5, u7, M => if w6 ≤ u7 then (u4, u5, u7, M) else (if (80 : Int32) < (M.1 a 1) then (u4, u5, u7, M) else (let v2802_0 : Int32 := if (V_X10_at (x1 + 13) u7 400 (setI M a 1 ((M.1 a 1) + (1 : Int32)))) = (1 : Int32) then (V_X10_at x3 (V_X10_at (x1 + 14) u7 400 (setI M a 1 ((M.1 a 1) + (1 : Int32)))) n1 (setI M a 1 ((M.1 a 1) + (1 : Int32)))) else (if (V_X10_at (x1 + 13) u7 400 (setI M a 1 ((M.1 a 1) + (1 : Int32)))) = (2 : Int32) then (V_X10_at (a + 1) (V_X10_at (x1 + 14) u7 400 (setI M a 1 ((M.1 a 1) + (1 : Int32)))) 28 (setI M a 1 ((M.1 a 1) + (1 : Int32)))) else (V_X10_at (x1 + 14) u7 400 (setI M a 1 ((M.1 a 1) + (1 : Int32))))); let v2804_0 : Int32 := if (V_X10_at (x1 + 11) u7 400 (setI M a 1 ((M.1 a 1) + (1 : Int32)))) = (34 : Int32) then u4 else (u4 + u5); let v2804_1 : Int32 := if (V_X10_at (x1 + 11) u7 400 (setI M a 1 ((M.1 a 1) + (1 : Int32)))) = (34 : Int32) then (u5 * (v2802_0 * (V_X10_at (x1 + 12) u7 400 (setI M a 1 ((M.1 a 1) + (1 : Int32)))))) else (if (V_X10_at (x1 + 11) u7 400 (setI M a 1 ((M.1 a 1) + (1 : Int32)))) = (33 : Int32) then (-(v2802_0 * (V_X10_at (x1 + 12) u7 400 (setI M a 1 ((M.1 a 1) + (1 : Int32)))))) else (v2802_0 * (V_X10_at (x1 + 12) u7 400 (setI M a 1 ((M.1 a 1) + (1 : Int32)))))); (F_X6_work_28 a x1 x2 x3 n1 w6 n v2804_0 v2804_1 (u7 + 1) (setI M a 1 ((M.1 a 1) + (1 : Int32))))))
def T_X6_work_28 (a : Nat) (x1 : Nat) (x2 : Int32) (x3 : Nat) (n1 : Nat) (w6 : Int32) : Nat → Int32 → Int32 → Int32 → Mem → Prop
  | 0, u4, u5, u7, M => False
  | n + 1, u4, u5, u7, M => (n1 < 2 ^ 31) ∧ (if w6 ≤ u7 then True else (if (80 : Int32) < (M.1 a 1) then True else (let v2802_0 : Int32 := if (V_X10_at (x1 + 13) u7 400 (setI M a 1 ((M.1 a 1) + (1 : Int32)))) = (1 : Int32) then (V_X10_at x3 (V_X10_at (x1 + 14) u7 400 (setI M a 1 ((M.1 a 1) + (1 : Int32)))) n1 (setI M a 1 ((M.1 a 1) + (1 : Int32)))) else (if (V_X10_at (x1 + 13) u7 400 (setI M a 1 ((M.1 a 1) + (1 : Int32)))) = (2 : Int32) then (V_X10_at (a + 1) (V_X10_at (x1 + 14) u7 400 (setI M a 1 ((M.1 a 1) + (1 : Int32)))) 28 (setI M a 1 ((M.1 a 1) + (1 : Int32)))) else (V_X10_at (x1 + 14) u7 400 (setI M a 1 ((M.1 a 1) + (1 : Int32))))); let v2804_0 : Int32 := if (V_X10_at (x1 + 11) u7 400 (setI M a 1 ((M.1 a 1) + (1 : Int32)))) = (34 : Int32) then u4 else (u4 + u5); let v2804_1 : Int32 := if (V_X10_at (x1 + 11) u7 400 (setI M a 1 ((M.1 a 1) + (1 : Int32)))) = (34 : Int32) then (u5 * (v2802_0 * (V_X10_at (x1 + 12) u7 400 (setI M a 1 ((M.1 a 1) + (1 : Int32)))))) else (if (V_X10_at (x1 + 11) u7 400 (setI M a 1 ((M.1 a 1) + (1 : Int32)))) = (33 : Int32) then (-(v2802_0 * (V_X10_at (x1 + 12) u7 400 (setI M a 1 ((M.1 a 1) + (1 : Int32)))))) else (v2802_0 * (V_X10_at (x1 + 12) u7 400 (setI M a 1 ((M.1 a 1) + (1 : Int32)))))); (T_X6_work_28 a x1 x2 x3 n1 w6 n v2804_0 v2804_1 (u7 + 1) (setI M a 1 ((M.1 a 1) + (1 : Int32)))))))
theorem L_X6_work_28 {sh : List SC} {Q : Po} {a : Nat} {x1 : Nat} {x2 : Int32} {x3 : Nat} {n1 : Nat} {w6 : Int32}  (hb1 : RunnerAt sh a) (hb2 : ProgramAt sh x1) (g1 : kd sh x3 = some (0, n1))  : ∀ (n : Nat) (u4 : Int32) (u5 : Int32) (u7 : Int32) (M : Mem), T_X6_work_28 a x1 x2 x3 n1 w6 n u4 u5 u7 M → WP m_X6_work Q 182 [some (.ref a), some (.ref x1), some (.int x2), some (.ref x3), some (.int ((F_X6_work_28 a x1 x2 x3 n1 w6 n u4 u5 u7 M).1)), some (.int ((F_X6_work_28 a x1 x2 x3 n1 w6 n u4 u5 u7 M).2.1)), some (.int w6), some (.int ((F_X6_work_28 a x1 x2 x3 n1 w6 n u4 u5 u7 M).2.2.1)), none, none, none] [] sh ((F_X6_work_28 a x1 x2 x3 n1 w6 n u4 u5 u7 M).2.2.2) 0 0 → WP m_X6_work Q 28 [some (.ref a), some (.ref x1), some (.int x2), some (.ref x3), some (.int u4), some (.int u5), some (.int w6), some (.int u7), none, none, none] [] sh M 0 0 := by
  have k0 : kd sh a = some (6 + 7, 0) := hb1.1
  have k1 : kd sh x1 = some (3 + 7, 0) := hb2.1
  have k2 : rf sh x1 18 = some (x1 + 13) := hb2.2.2.2.2.2.2.2.2.2.2.2.2.2.1
  have k3 : kd sh (x1 + 13) = some (0, 400) := hb2.2.2.2.2.2.2.2.2.2.2.2.2.2.2.2.2.2.2.2.2.2.2.2.2.2.2.2.1
  have k4 : rf sh x1 19 = some (x1 + 14) := hb2.2.2.2.2.2.2.2.2.2.2.2.2.2.2.1
  have k5 : kd sh (x1 + 14) = some (0, 400) := hb2.2.2.2.2.2.2.2.2.2.2.2.2.2.2.2.2.2.2.2.2.2.2.2.2.2.2.2.2
  have k6 : rf sh a 0 = some (a + 1) := hb1.2.1
  have k7 : kd sh (a + 1) = some (0, 28) := hb1.2.2
  have k8 : rf sh x1 17 = some (x1 + 12) := hb2.2.2.2.2.2.2.2.2.2.2.2.2.1
  have k9 : kd sh (x1 + 12) = some (0, 400) := hb2.2.2.2.2.2.2.2.2.2.2.2.2.2.2.2.2.2.2.2.2.2.2.2.2.2.2.1
  have k10 : rf sh x1 16 = some (x1 + 11) := hb2.2.2.2.2.2.2.2.2.2.2.2.1
  have k11 : kd sh (x1 + 11) = some (0, 400) := hb2.2.2.2.2.2.2.2.2.2.2.2.2.2.2.2.2.2.2.2.2.2.2.2.2.2.1
  intro n
  induction n with
  | zero =>
    intro u4 u5 u7 M hH hq
    exact hH.elim
  | succ n ih =>
    intro u4 u5 u7 M hH hq
    unfold T_X6_work_28 at hH
    obtain ⟨g2, hH⟩ := hH
    refine r_iload e_X6_work_28 rfl ?_
    refine r_iload e_X6_work_30 rfl ?_
    refine r_icmp_ge e_X6_work_32 (fun h32_2800 => ?_) (fun h32_2800 => ?_)
    · (simp only [F_X6_work_28, if_pos h32_2800] at hq; first | exact hq | (simp only [if_pos h32_2800]; exact hq))
    · refine r_aload_n e_X6_work_35 rfl ?_
      refine r_getI e_X6_work_36 fl_X6_15 i0 k0 ?_
      refine r_bipush e_X6_work_39 bp_80 ?_
      refine r_icmp_gt e_X6_work_41 (fun h41_2801 => ?_) (fun h41_2801 => ?_)
      · (simp only [F_X6_work_28, if_neg h32_2800, if_pos h41_2801] at hq; first | exact hq | (simp only [if_neg h32_2800, if_pos h41_2801]; exact hq))
      · refine r_aload_n e_X6_work_44 rfl ?_
        refine r_dup e_X6_work_45 rfl ?_
        refine r_getI e_X6_work_46 fl_X6_15 i0 k0 ?_
        refine r_iconst e_X6_work_49 ic_1 ?_
        refine r_iadd e_X6_work_50 ?_
        refine r_putI e_X6_work_51 fl_X6_15 k0 ?_
        refine r_aload_n e_X6_work_54 rfl ?_
        refine r_getR e_X6_work_55 fl_X6_111 k1 k2 ?_
        refine r_iload e_X6_work_58 rfl ?_
        refine cSN2v e_X6_work_60 cl_X6_32 ⟨Nat.le_of_ble_eq_true rfl, Nat.le_of_ble_eq_true rfl⟩ ⟨rfl, rfl⟩  (Nat.le_of_ble_eq_true rfl) (S_X10_at k3 (by first | decide | (unfold vp_in; decide) | exact Or.inl rfl | exact Or.inr rfl)) ?_
        refine p_istore_11_8 e_X6_work_63 rfl rfl ?_
        refine r_aload_n e_X6_work_65 rfl ?_
        refine r_getR e_X6_work_66 fl_X6_114 k1 k4 ?_
        refine r_iload e_X6_work_69 rfl ?_
        refine cSN2v e_X6_work_71 cl_X6_32 ⟨Nat.le_of_ble_eq_true rfl, Nat.le_of_ble_eq_true rfl⟩ ⟨rfl, rfl⟩  (Nat.le_of_ble_eq_true rfl) (S_X10_at k5 (by first | decide | (unfold vp_in; decide) | exact Or.inl rfl | exact Or.inr rfl)) ?_
        refine p_istore_11_9 e_X6_work_74 rfl rfl ?_
        refine r_iload e_X6_work_76 rfl ?_
        refine r_iconst e_X6_work_78 ic_1 ?_
        obtain ⟨v2802_0, e_v2802_0⟩ : ∃ z : Int32, z = (if (V_X10_at (x1 + 13) u7 400 (setI M a 1 ((M.1 a 1) + (1 : Int32)))) = (1 : Int32) then (V_X10_at x3 (V_X10_at (x1 + 14) u7 400 (setI M a 1 ((M.1 a 1) + (1 : Int32)))) n1 (setI M a 1 ((M.1 a 1) + (1 : Int32)))) else (if (V_X10_at (x1 + 13) u7 400 (setI M a 1 ((M.1 a 1) + (1 : Int32)))) = (2 : Int32) then (V_X10_at (a + 1) (V_X10_at (x1 + 14) u7 400 (setI M a 1 ((M.1 a 1) + (1 : Int32)))) 28 (setI M a 1 ((M.1 a 1) + (1 : Int32)))) else (V_X10_at (x1 + 14) u7 400 (setI M a 1 ((M.1 a 1) + (1 : Int32)))))) := ⟨_, rfl⟩
        suffices j110_2802 : WP m_X6_work Q 110 [some (.ref a), some (.ref x1), some (.int x2), some (.ref x3), some (.int u4), some (.int u5), some (.int w6), some (.int u7), some (.int (V_X10_at (x1 + 13) u7 400 (setI M a 1 ((M.1 a 1) + (1 : Int32))))), some (.int v2802_0), none] [] sh (setI M a 1 ((M.1 a 1) + (1 : Int32))) 0 0 by
          refine r_icmp_ne e_X6_work_79 (fun h79_2802 => ?_) (fun h79_2802 => ?_)
          · refine r_iload e_X6_work_93 rfl ?_
            refine r_iconst e_X6_work_95 ic_2 ?_
            refine r_icmp_ne e_X6_work_96 (fun h96_2803 => ?_) (fun h96_2803 => ?_)
            · (rw [show v2802_0 = (V_X10_at (x1 + 14) u7 400 (setI M a 1 ((M.1 a 1) + (1 : Int32)))) from ((e_v2802_0.trans (if_neg h79_2802)).trans (if_neg h96_2803))] at j110_2802; exact j110_2802)
            · refine r_aload_n e_X6_work_99 rfl ?_
              refine r_getR e_X6_work_100 fl_X6_11 k0 k6 ?_
              refine r_iload e_X6_work_103 rfl ?_
              refine cSN2v e_X6_work_105 cl_X6_32 ⟨Nat.le_of_ble_eq_true rfl, Nat.le_of_ble_eq_true rfl⟩ ⟨rfl, rfl⟩  (Nat.le_of_ble_eq_true rfl) (S_X10_at k7 (by first | decide | (unfold vp_in; decide) | exact Or.inl rfl | exact Or.inr rfl)) ?_
              refine p_istore_11_9 e_X6_work_108 rfl rfl ?_
              (rw [show v2802_0 = (V_X10_at (a + 1) (V_X10_at (x1 + 14) u7 400 (setI M a 1 ((M.1 a 1) + (1 : Int32)))) 28 (setI M a 1 ((M.1 a 1) + (1 : Int32)))) from ((e_v2802_0.trans (if_neg h79_2802)).trans (if_pos h96_2803))] at j110_2802; exact j110_2802)
          · refine r_aload_n e_X6_work_82 rfl ?_
            refine r_iload e_X6_work_83 rfl ?_
            refine cSN2v e_X6_work_85 cl_X6_32 ⟨Nat.le_of_ble_eq_true rfl, Nat.le_of_ble_eq_true rfl⟩ ⟨rfl, rfl⟩  (Nat.le_of_ble_eq_true rfl) (S_X10_at g1 g2) ?_
            refine p_istore_11_9 e_X6_work_88 rfl rfl ?_
            refine r_goto e_X6_work_90 ?_
            (rw [show v2802_0 = (V_X10_at x3 (V_X10_at (x1 + 14) u7 400 (setI M a 1 ((M.1 a 1) + (1 : Int32)))) n1 (setI M a 1 ((M.1 a 1) + (1 : Int32)))) from (e_v2802_0.trans (if_pos h79_2802))] at j110_2802; exact j110_2802)
        refine r_iload e_X6_work_110 rfl ?_
        refine r_aload_n e_X6_work_112 rfl ?_
        refine r_getR e_X6_work_113 fl_X6_117 k1 k8 ?_
        refine r_iload e_X6_work_116 rfl ?_
        refine cSN2v e_X6_work_118 cl_X6_32 ⟨Nat.le_of_ble_eq_true rfl, Nat.le_of_ble_eq_true rfl⟩ ⟨rfl, rfl⟩  (Nat.le_of_ble_eq_true rfl) (S_X10_at k9 (by first | decide | (unfold vp_in; decide) | exact Or.inl rfl | exact Or.inr rfl)) ?_
        refine r_imul e_X6_work_121 ?_
        refine p_istore_11_9 e_X6_work_122 rfl rfl ?_
        refine r_aload_n e_X6_work_124 rfl ?_
        refine r_getR e_X6_work_125 fl_X6_120 k1 k10 ?_
        refine r_iload e_X6_work_128 rfl ?_
        refine cSN2v e_X6_work_130 cl_X6_32 ⟨Nat.le_of_ble_eq_true rfl, Nat.le_of_ble_eq_true rfl⟩ ⟨rfl, rfl⟩  (Nat.le_of_ble_eq_true rfl) (S_X10_at k11 (by first | decide | (unfold vp_in; decide) | exact Or.inl rfl | exact Or.inr rfl)) ?_
        refine p_istore_11_10 e_X6_work_133 rfl rfl ?_
        refine r_iload e_X6_work_135 rfl ?_
        refine r_bipush e_X6_work_137 bp_34 ?_
        obtain ⟨v2804_0, e_v2804_0⟩ : ∃ z : Int32, z = (if (V_X10_at (x1 + 11) u7 400 (setI M a 1 ((M.1 a 1) + (1 : Int32)))) = (34 : Int32) then u4 else (u4 + u5)) := ⟨_, rfl⟩
        obtain ⟨v2804_1, e_v2804_1⟩ : ∃ z : Int32, z = (if (V_X10_at (x1 + 11) u7 400 (setI M a 1 ((M.1 a 1) + (1 : Int32)))) = (34 : Int32) then (u5 * (v2802_0 * (V_X10_at (x1 + 12) u7 400 (setI M a 1 ((M.1 a 1) + (1 : Int32)))))) else (if (V_X10_at (x1 + 11) u7 400 (setI M a 1 ((M.1 a 1) + (1 : Int32)))) = (33 : Int32) then (-(v2802_0 * (V_X10_at (x1 + 12) u7 400 (setI M a 1 ((M.1 a 1) + (1 : Int32)))))) else (v2802_0 * (V_X10_at (x1 + 12) u7 400 (setI M a 1 ((M.1 a 1) + (1 : Int32))))))) := ⟨_, rfl⟩
        suffices j176_2804 : WP m_X6_work Q 176 [some (.ref a), some (.ref x1), some (.int x2), some (.ref x3), some (.int v2804_0), some (.int v2804_1), some (.int w6), some (.int u7), some (.int (V_X10_at (x1 + 13) u7 400 (setI M a 1 ((M.1 a 1) + (1 : Int32))))), some (.int (v2802_0 * (V_X10_at (x1 + 12) u7 400 (setI M a 1 ((M.1 a 1) + (1 : Int32)))))), some (.int (V_X10_at (x1 + 11) u7 400 (setI M a 1 ((M.1 a 1) + (1 : Int32)))))] [] sh (setI M a 1 ((M.1 a 1) + (1 : Int32))) 0 0 by
          refine r_icmp_ne e_X6_work_139 (fun h139_2804 => ?_) (fun h139_2804 => ?_)
          · refine r_iload e_X6_work_152 rfl ?_
            refine r_iload e_X6_work_154 rfl ?_
            refine r_iadd e_X6_work_156 ?_
            refine p_istore_11_4 e_X6_work_157 rfl rfl ?_
            refine r_iload e_X6_work_159 rfl ?_
            refine r_bipush e_X6_work_161 bp_33 ?_
            obtain ⟨v2805_0, e_v2805_0⟩ : ∃ z : Int32, z = (if (V_X10_at (x1 + 11) u7 400 (setI M a 1 ((M.1 a 1) + (1 : Int32)))) = (33 : Int32) then (-(v2802_0 * (V_X10_at (x1 + 12) u7 400 (setI M a 1 ((M.1 a 1) + (1 : Int32)))))) else (v2802_0 * (V_X10_at (x1 + 12) u7 400 (setI M a 1 ((M.1 a 1) + (1 : Int32)))))) := ⟨_, rfl⟩
            suffices j174_2805 : WP m_X6_work Q 174 [some (.ref a), some (.ref x1), some (.int x2), some (.ref x3), some (.int (u4 + u5)), some (.int u5), some (.int w6), some (.int u7), some (.int (V_X10_at (x1 + 13) u7 400 (setI M a 1 ((M.1 a 1) + (1 : Int32))))), some (.int (v2802_0 * (V_X10_at (x1 + 12) u7 400 (setI M a 1 ((M.1 a 1) + (1 : Int32)))))), some (.int (V_X10_at (x1 + 11) u7 400 (setI M a 1 ((M.1 a 1) + (1 : Int32)))))] [.int v2805_0] sh (setI M a 1 ((M.1 a 1) + (1 : Int32))) 0 0 by
              refine r_icmp_ne e_X6_work_163 (fun h163_2805 => ?_) (fun h163_2805 => ?_)
              · refine r_iload e_X6_work_172 rfl ?_
                (rw [show v2805_0 = (v2802_0 * (V_X10_at (x1 + 12) u7 400 (setI M a 1 ((M.1 a 1) + (1 : Int32))))) from (e_v2805_0.trans (if_neg h163_2805))] at j174_2805; exact j174_2805)
              · refine r_iload e_X6_work_166 rfl ?_
                refine r_ineg e_X6_work_168 ?_
                refine r_goto e_X6_work_169 ?_
                (rw [show v2805_0 = (-(v2802_0 * (V_X10_at (x1 + 12) u7 400 (setI M a 1 ((M.1 a 1) + (1 : Int32)))))) from (e_v2805_0.trans (if_pos h163_2805))] at j174_2805; exact j174_2805)
            refine p_istore_11_5 e_X6_work_174 rfl rfl ?_
            (subst e_v2805_0; rw [show v2804_0 = (u4 + u5) from (e_v2804_0.trans (if_neg h139_2804)), show v2804_1 = (if (V_X10_at (x1 + 11) u7 400 (setI M a 1 ((M.1 a 1) + (1 : Int32)))) = (33 : Int32) then (-(v2802_0 * (V_X10_at (x1 + 12) u7 400 (setI M a 1 ((M.1 a 1) + (1 : Int32)))))) else (v2802_0 * (V_X10_at (x1 + 12) u7 400 (setI M a 1 ((M.1 a 1) + (1 : Int32)))))) from (e_v2804_1.trans (if_neg h139_2804))] at j176_2804; exact j176_2804)
          · refine r_iload e_X6_work_142 rfl ?_
            refine r_iload e_X6_work_144 rfl ?_
            refine r_imul e_X6_work_146 ?_
            refine p_istore_11_5 e_X6_work_147 rfl rfl ?_
            refine r_goto e_X6_work_149 ?_
            (rw [show v2804_0 = u4 from (e_v2804_0.trans (if_pos h139_2804)), show v2804_1 = (u5 * (v2802_0 * (V_X10_at (x1 + 12) u7 400 (setI M a 1 ((M.1 a 1) + (1 : Int32)))))) from (e_v2804_1.trans (if_pos h139_2804))] at j176_2804; exact j176_2804)
        refine p_iinc_11_7 e_X6_work_176 rfl ic_1 rfl ?_
        refine r_goto e_X6_work_179 ?_
        refine d_11_8 ?_
        refine d_11_9 ?_
        refine d_11_10 ?_
        (subst e_v2804_1 e_v2804_0 e_v2802_0; simp only [F_X6_work_28, if_neg h32_2800, if_neg h41_2801] at hq; (try simp only [if_neg h32_2800, if_neg h41_2801] at hH); first | exact ih _ _ _ _ hH hq | (simp only [if_neg h32_2800, if_neg h41_2801]; exact ih _ _ _ _ hH hq))
def V_X6_work (a : Nat) (x1 : Nat) (x2 : Int32) (x3 : Nat) (n1 : Nat) (M : Mem) : Int32 := (((F_X6_work_28 a x1 x2 x3 n1 (V_X10_at (x1 + 10) (x2 + (1 : Int32)) 401 M) FUEL (0 : Int32) (0 : Int32) (V_X10_at (x1 + 10) x2 401 M) M).1) + ((F_X6_work_28 a x1 x2 x3 n1 (V_X10_at (x1 + 10) (x2 + (1 : Int32)) 401 M) FUEL (0 : Int32) (0 : Int32) (V_X10_at (x1 + 10) x2 401 M) M).2.1))
def U_X6_work (a : Nat) (x1 : Nat) (x2 : Int32) (x3 : Nat) (n1 : Nat) (M : Mem) : Mem := ((F_X6_work_28 a x1 x2 x3 n1 (V_X10_at (x1 + 10) (x2 + (1 : Int32)) 401 M) FUEL (0 : Int32) (0 : Int32) (V_X10_at (x1 + 10) x2 401 M) M).2.2.2)
def P_X6_work (a : Nat) (x1 : Nat) (x2 : Int32) (x3 : Nat) (n1 : Nat) (M : Mem) : Prop := (T_X6_work_28 a x1 x2 x3 n1 (V_X10_at (x1 + 10) (x2 + (1 : Int32)) 401 M) FUEL (0 : Int32) (0 : Int32) (V_X10_at (x1 + 10) x2 401 M) M)
theorem S_X6_work {sh : List SC} {M : Mem} {a : Nat} {x1 : Nat} {x2 : Int32} {x3 : Nat} {n1 : Nat} (hb1 : RunnerAt sh a) (hb2 : ProgramAt sh x1) (g1 : kd sh x3 = some (0, n1)) (hP : P_X6_work a x1 x2 x3 n1 M) : Gv m_X6_work [.ref a, .ref x1, .int x2, .ref x3] sh M (.int (V_X6_work a x1 x2 x3 n1 M)) (U_X6_work a x1 x2 x3 n1 M) := by
  refine Sp.of (ls := [some (.ref a), some (.ref x1), some (.int x2), some (.ref x3), none, none, none, none, none, none, none]) (by decide +kernel) (Nat.le_of_ble_eq_true rfl) rfl ?_
  have g2 : T_X6_work_28 a x1 x2 x3 n1 (V_X10_at (x1 + 10) (x2 + (1 : Int32)) 401 M) FUEL (0 : Int32) (0 : Int32) (V_X10_at (x1 + 10) x2 401 M) M := hP
  have k0 : kd sh x1 = some (3 + 7, 0) := hb2.1
  have k1 : rf sh x1 14 = some (x1 + 10) := hb2.2.2.2.2.2.2.2.2.2.2.1
  have k2 : kd sh (x1 + 10) = some (0, 401) := hb2.2.2.2.2.2.2.2.2.2.2.2.2.2.2.2.2.2.2.2.2.2.2.2.2.1
  refine r_iconst e_X6_work_0 ic_0 ?_
  refine p_istore_11_4 e_X6_work_1 rfl rfl ?_
  refine r_iconst e_X6_work_3 ic_0 ?_
  refine p_istore_11_5 e_X6_work_4 rfl rfl ?_
  refine r_aload_n e_X6_work_6 rfl ?_
  refine r_getR e_X6_work_7 fl_X6_108 k0 k1 ?_
  refine r_iload_n e_X6_work_10 rfl ?_
  refine r_iconst e_X6_work_11 ic_1 ?_
  refine r_iadd e_X6_work_12 ?_
  refine cSN2v e_X6_work_13 cl_X6_32 ⟨Nat.le_of_ble_eq_true rfl, Nat.le_of_ble_eq_true rfl⟩ ⟨rfl, rfl⟩  (Nat.le_of_ble_eq_true rfl) (S_X10_at k2 (by first | decide | (unfold vp_in; decide) | exact Or.inl rfl | exact Or.inr rfl)) ?_
  refine p_istore_11_6 e_X6_work_16 rfl rfl ?_
  refine r_aload_n e_X6_work_18 rfl ?_
  refine r_getR e_X6_work_19 fl_X6_108 k0 k1 ?_
  refine r_iload_n e_X6_work_22 rfl ?_
  refine cSN2v e_X6_work_23 cl_X6_32 ⟨Nat.le_of_ble_eq_true rfl, Nat.le_of_ble_eq_true rfl⟩ ⟨rfl, rfl⟩  (Nat.le_of_ble_eq_true rfl) (S_X10_at k2 (by first | decide | (unfold vp_in; decide) | exact Or.inl rfl | exact Or.inr rfl)) ?_
  refine p_istore_11_7 e_X6_work_26 rfl rfl ?_
  refine L_X6_work_28 hb1 hb2 g1 FUEL (0 : Int32) (0 : Int32) (V_X10_at (x1 + 10) x2 401 M) M g2 ?_
  refine r_iload e_X6_work_182 rfl ?_
  refine r_iload e_X6_work_184 rfl ?_
  refine r_iadd e_X6_work_186 ?_
  refine r_ireturn e_X6_work_187 rfl ⟨rfl, rfl⟩ ?_
  (refine ⟨?_, rfl, ?_⟩ <;> ((try unfold V_X6_work); (try unfold U_X6_work); (try simp only []); (try rfl)))
def V_X10_cut (x1 : Int32) (x2 : Int32) (x3 : Int32) (M : Mem) : Int32 := (if x2 < (if x1 < x3 then x1 else x3) then (if x1 < x3 then x1 else x3) else x2)
theorem S_X10_cut {sh : List SC} {M : Mem} {x1 : Int32} {x2 : Int32} {x3 : Int32}    : Gv m_X10_cut [.int x1, .int x2, .int x3] sh M (.int (V_X10_cut x1 x2 x3 M)) M := by
  refine Sp.of (ls := [some (.int x1), some (.int x2), some (.int x3)]) (by decide +kernel) (Nat.le_of_ble_eq_true rfl) rfl ?_
  refine r_iload_n e_X10_cut_0 rfl ?_
  refine r_iload_n e_X10_cut_1 rfl ?_
  refine r_iload_n e_X10_cut_2 rfl ?_
  refine r_mmin e_X10_cut_3 cl_X10_199 ⟨Nat.le_of_ble_eq_true rfl, Nat.le_of_ble_eq_true rfl, Nat.zero_le _, Nat.zero_le _⟩ (Nat.le_of_ble_eq_true rfl) ?_
  refine r_mmax e_X10_cut_6 cl_X10_204 ⟨Nat.le_of_ble_eq_true rfl, Nat.le_of_ble_eq_true rfl, Nat.zero_le _, Nat.zero_le _⟩ (Nat.le_of_ble_eq_true rfl) ?_
  refine r_ireturn e_X10_cut_9 rfl ⟨rfl, rfl⟩ ?_
  (refine ⟨?_, rfl, ?_⟩ <;> ((try unfold V_X10_cut); (try simp only []); (try rfl)))
def U_X0_hold (a : Nat) (x1 : Int32) (x2 : Int32) (x3 : Int32) (x4 : Int32) (M : Mem) : Mem := setI (setI (U_X0_go a x2 x3 (U_X0_free a (0 : Int32) (0 : Int32) (0 : Int32) M)) a 2 x1) a 3 x4
theorem S_X0_hold {sh : List SC} {M : Mem} {a : Nat} {x1 : Int32} {x2 : Int32} {x3 : Int32} {x4 : Int32}  (hb1 : BallAt sh a)  : Gu m_X0_hold [.ref a, .int x1, .int x2, .int x3, .int x4] sh M (U_X0_hold a x1 x2 x3 x4 M) := by
  refine Sp.of (ls := [some (.ref a), some (.int x1), some (.int x2), some (.int x3), some (.int x4)]) (by decide +kernel) (Nat.le_of_ble_eq_true rfl) rfl ?_
  have k0 : kd sh a = some (0 + 7, 0) := hb1.1
  refine r_aload_n e_X0_hold_0 rfl ?_
  refine r_iconst e_X0_hold_1 ic_0 ?_
  refine r_iconst e_X0_hold_2 ic_0 ?_
  refine r_iconst e_X0_hold_3 ic_0 ?_
  refine cV3u e_X0_hold_4 cl_X0_51 ⟨Nat.le_of_ble_eq_true rfl, Nat.le_of_ble_eq_true rfl⟩ ⟨rfl, rfl⟩ k0 (Nat.le_of_ble_eq_true rfl) (S_X0_free hb1) ?_
  refine r_aload_n e_X0_hold_7 rfl ?_
  refine r_iload_n e_X0_hold_8 rfl ?_
  refine r_iload_n e_X0_hold_9 rfl ?_
  refine cV2u e_X0_hold_10 cl_X0_47 ⟨Nat.le_of_ble_eq_true rfl, Nat.le_of_ble_eq_true rfl⟩ ⟨rfl, rfl⟩ k0 (Nat.le_of_ble_eq_true rfl) (S_X0_go hb1) ?_
  refine r_aload_n e_X0_hold_13 rfl ?_
  refine r_iload_n e_X0_hold_14 rfl ?_
  refine r_putI e_X0_hold_15 fl_X0_16 k0 ?_
  refine r_aload_n e_X0_hold_18 rfl ?_
  refine r_iload e_X0_hold_19 rfl ?_
  refine r_putI e_X0_hold_21 fl_X0_19 k0 ?_
  refine r_return e_X0_hold_24 rfl ⟨rfl, rfl⟩ ?_
  (refine ⟨?_, rfl, ?_⟩ <;> ((try unfold U_X0_hold); (try simp only []); (try rfl)))
def U_X2_arrive (a : Nat) (x1 : Int32) (x2 : Int32) (M : Mem) : Mem := (let M0_0 : Mem := if (V_X2_robotIn a x1 x2 M) < 0 then (U_X0_go (a + 4) x1 x2 M) else (U_X0_hold (a + 4) (V_X2_robotIn a x1 x2 M) x1 x2 (M.1 a 7) M); M0_0)
theorem S_X2_arrive {sh : List SC} {M : Mem} {a : Nat} {x1 : Int32} {x2 : Int32}  (hb1 : MatchAt sh a)  : Gu m_X2_arrive [.ref a, .int x1, .int x2] sh M (U_X2_arrive a x1 x2 M) := by
  refine Sp.of (ls := [some (.ref a), some (.int x1), some (.int x2), none]) (by decide +kernel) (Nat.le_of_ble_eq_true rfl) rfl ?_
  have k0 : kd sh a = some (2 + 7, 0) := hb1.1
  have k1 : rf sh a 4 = some (a + 4) := hb1.2.2.2.2.2.1
  have k2 : kd sh (a + 4) = some (0 + 7, 0) := hb1.2.2.2.2.2.2.2.2.2.1.1
  refine r_aload_n e_X2_arrive_0 rfl ?_
  refine r_iload_n e_X2_arrive_1 rfl ?_
  refine r_iload_n e_X2_arrive_2 rfl ?_
  refine cV2v e_X2_arrive_3 cl_X2_141 ⟨Nat.le_of_ble_eq_true rfl, Nat.le_of_ble_eq_true rfl⟩ ⟨rfl, rfl⟩ k0 (Nat.le_of_ble_eq_true rfl) (S_X2_robotIn hb1) ?_
  refine p_istore_n_4_3 e_X2_arrive_6 rfl rfl ?_
  refine r_iload_n e_X2_arrive_7 rfl ?_
  obtain ⟨M0_0, e_M0_0⟩ : ∃ z : Mem, z = (if (V_X2_robotIn a x1 x2 M) < 0 then (U_X0_go (a + 4) x1 x2 M) else (U_X0_hold (a + 4) (V_X2_robotIn a x1 x2 M) x1 x2 (M.1 a 7) M)) := ⟨_, rfl⟩
  suffices j37_0 : WP m_X2_arrive (fun r sh' M'' => r = none ∧ sh' = sh ∧ M'' = (U_X2_arrive a x1 x2 M)) 37 [some (.ref a), some (.int x1), some (.int x2), some (.int (V_X2_robotIn a x1 x2 M))] [] sh M0_0 0 0 by
    refine r_if_lt e_X2_arrive_8 (fun h8_0 => ?_) (fun h8_0 => ?_)
    · refine r_aload_n e_X2_arrive_28 rfl ?_
      refine r_getR e_X2_arrive_29 fl_X2_27 k0 k1 ?_
      refine r_iload_n e_X2_arrive_32 rfl ?_
      refine r_iload_n e_X2_arrive_33 rfl ?_
      refine cV2u e_X2_arrive_34 cl_X2_135 ⟨Nat.le_of_ble_eq_true rfl, Nat.le_of_ble_eq_true rfl⟩ ⟨rfl, rfl⟩ k2 (Nat.le_of_ble_eq_true rfl) (S_X0_go hb1.2.2.2.2.2.2.2.2.2.1) ?_
      (rw [show M0_0 = U_X0_go (a + 4) x1 x2 M from (e_M0_0.trans (if_pos h8_0))] at j37_0; exact j37_0)
    · refine r_aload_n e_X2_arrive_11 rfl ?_
      refine r_getR e_X2_arrive_12 fl_X2_27 k0 k1 ?_
      refine r_iload_n e_X2_arrive_15 rfl ?_
      refine r_iload_n e_X2_arrive_16 rfl ?_
      refine r_iload_n e_X2_arrive_17 rfl ?_
      refine r_aload_n e_X2_arrive_18 rfl ?_
      refine r_getI e_X2_arrive_19 fl_X2_42 i0 k0 ?_
      refine cV4u e_X2_arrive_22 cl_X2_235 ⟨Nat.le_of_ble_eq_true rfl, Nat.le_of_ble_eq_true rfl⟩ ⟨rfl, rfl⟩ k2 (Nat.le_of_ble_eq_true rfl) (S_X0_hold hb1.2.2.2.2.2.2.2.2.2.1) ?_
      refine r_goto e_X2_arrive_25 ?_
      (rw [show M0_0 = U_X0_hold (a + 4) (V_X2_robotIn a x1 x2 M) x1 x2 (M.1 a 7) M from (e_M0_0.trans (if_neg h8_0))] at j37_0; exact j37_0)
  refine r_return e_X2_arrive_37 rfl ⟨rfl, rfl⟩ ?_
  (subst e_M0_0; refine ⟨?_, rfl, ?_⟩ <;> ((try unfold U_X2_arrive); (try simp only []); (try rfl)))
def U_X7_addGoal (a : Nat) (x1 : Int32) (x2 : Int32) (M : Mem) : Mem := (let v0_0 : Int32 := if x1 = 0 then x2 else (x2 + (1000 : Int32)); let M1_0 : Mem := if x1 = 0 then (setI (U_X10_put (a + 2) ((M.1 a 0) + (M.1 a 1)) v0_0 20 M) a 0 (((U_X10_put (a + 2) ((M.1 a 0) + (M.1 a 1)) v0_0 20 M).1 a 0) + (1 : Int32))) else (setI (U_X10_put (a + 2) ((M.1 a 0) + (M.1 a 1)) v0_0 20 M) a 1 (((U_X10_put (a + 2) ((M.1 a 0) + (M.1 a 1)) v0_0 20 M).1 a 1) + (1 : Int32))); M1_0)
theorem S_X7_addGoal {sh : List SC} {M : Mem} {a : Nat} {x1 : Int32} {x2 : Int32}  (hb1 : TallyAt sh a)  : Gu m_X7_addGoal [.ref a, .int x1, .int x2] sh M (U_X7_addGoal a x1 x2 M) := by
  refine Sp.of (ls := [some (.ref a), some (.int x1), some (.int x2)]) (by decide +kernel) (Nat.le_of_ble_eq_true rfl) rfl ?_
  have k0 : kd sh a = some (7 + 7, 0) := hb1.1
  have k1 : rf sh a 5 = some (a + 2) := hb1.2.2.1
  have k2 : kd sh (a + 2) = some (0, 20) := hb1.2.2.2.2
  refine r_aload_n e_X7_addGoal_0 rfl ?_
  refine r_getR e_X7_addGoal_1 fl_X7_26 k0 k1 ?_
  refine r_aload_n e_X7_addGoal_4 rfl ?_
  refine r_getI e_X7_addGoal_5 fl_X7_7 i0 k0 ?_
  refine r_aload_n e_X7_addGoal_8 rfl ?_
  refine r_getI e_X7_addGoal_9 fl_X7_13 i0 k0 ?_
  refine r_iadd e_X7_addGoal_12 ?_
  refine r_iload_n e_X7_addGoal_13 rfl ?_
  obtain ⟨v0_0, e_v0_0⟩ : ∃ z : Int32, z = (if x1 = 0 then x2 else (x2 + (1000 : Int32))) := ⟨_, rfl⟩
  suffices j26_0 : WP m_X7_addGoal (fun r sh' M'' => r = none ∧ sh' = sh ∧ M'' = (U_X7_addGoal a x1 x2 M)) 26 [some (.ref a), some (.int x1), some (.int x2)] [.int v0_0, .int ((M.1 a 0) + (M.1 a 1)), .ref (a + 2)] sh M 0 0 by
    refine r_if_eq e_X7_addGoal_14 (fun h14_0 => ?_) (fun h14_0 => ?_)
    · refine r_iload_n e_X7_addGoal_25 rfl ?_
      (rw [show v0_0 = x2 from (e_v0_0.trans (if_pos h14_0))] at j26_0; exact j26_0)
    · refine r_iload_n e_X7_addGoal_17 rfl ?_
      refine r_sipush e_X7_addGoal_18 sp_1000 ?_
      refine r_iadd e_X7_addGoal_21 ?_
      refine r_goto e_X7_addGoal_22 ?_
      (rw [show v0_0 = (x2 + (1000 : Int32)) from (e_v0_0.trans (if_neg h14_0))] at j26_0; exact j26_0)
  refine cSN3u e_X7_addGoal_26 cl_X7_41 ⟨Nat.le_of_ble_eq_true rfl, Nat.le_of_ble_eq_true rfl⟩ ⟨rfl, rfl⟩  (Nat.le_of_ble_eq_true rfl) (S_X10_put k2 (by first | decide | (unfold vp_in; decide) | exact Or.inl rfl | exact Or.inr rfl)) ?_
  refine r_iload_n e_X7_addGoal_29 rfl ?_
  obtain ⟨M1_0, e_M1_0⟩ : ∃ z : Mem, z = (if x1 = 0 then (setI (U_X10_put (a + 2) ((M.1 a 0) + (M.1 a 1)) v0_0 20 M) a 0 (((U_X10_put (a + 2) ((M.1 a 0) + (M.1 a 1)) v0_0 20 M).1 a 0) + (1 : Int32))) else (setI (U_X10_put (a + 2) ((M.1 a 0) + (M.1 a 1)) v0_0 20 M) a 1 (((U_X10_put (a + 2) ((M.1 a 0) + (M.1 a 1)) v0_0 20 M).1 a 1) + (1 : Int32)))) := ⟨_, rfl⟩
  suffices j56_1 : WP m_X7_addGoal (fun r sh' M'' => r = none ∧ sh' = sh ∧ M'' = (U_X7_addGoal a x1 x2 M)) 56 [some (.ref a), some (.int x1), some (.int x2)] [] sh M1_0 0 0 by
    refine r_if_eq e_X7_addGoal_30 (fun h30_1 => ?_) (fun h30_1 => ?_)
    · refine r_aload_n e_X7_addGoal_46 rfl ?_
      refine r_dup e_X7_addGoal_47 rfl ?_
      refine r_getI e_X7_addGoal_48 fl_X7_7 i0 k0 ?_
      refine r_iconst e_X7_addGoal_51 ic_1 ?_
      refine r_iadd e_X7_addGoal_52 ?_
      refine r_putI e_X7_addGoal_53 fl_X7_7 k0 ?_
      (rw [show M1_0 = setI (U_X10_put (a + 2) ((M.1 a 0) + (M.1 a 1)) v0_0 20 M) a 0 (((U_X10_put (a + 2) ((M.1 a 0) + (M.1 a 1)) v0_0 20 M).1 a 0) + (1 : Int32)) from (e_M1_0.trans (if_pos h30_1))] at j56_1; exact j56_1)
    · refine r_aload_n e_X7_addGoal_33 rfl ?_
      refine r_dup e_X7_addGoal_34 rfl ?_
      refine r_getI e_X7_addGoal_35 fl_X7_13 i0 k0 ?_
      refine r_iconst e_X7_addGoal_38 ic_1 ?_
      refine r_iadd e_X7_addGoal_39 ?_
      refine r_putI e_X7_addGoal_40 fl_X7_13 k0 ?_
      refine r_goto e_X7_addGoal_43 ?_
      (rw [show M1_0 = setI (U_X10_put (a + 2) ((M.1 a 0) + (M.1 a 1)) v0_0 20 M) a 1 (((U_X10_put (a + 2) ((M.1 a 0) + (M.1 a 1)) v0_0 20 M).1 a 1) + (1 : Int32)) from (e_M1_0.trans (if_neg h30_1))] at j56_1; exact j56_1)
  refine r_return e_X7_addGoal_56 rfl ⟨rfl, rfl⟩ ?_
  (subst e_M1_0 e_v0_0; refine ⟨?_, rfl, ?_⟩ <;> ((try unfold U_X7_addGoal); (try simp only []); (try rfl)))
def V_X0_hasSlept (a : Nat) (M : Mem) : Int32 := (let v0_0 : Int32 := if (M.1 a 9) ≤ 0 then (0 : Int32) else (if (M.1 a 7) = (M.1 a 0) then (if (M.1 a 8) = (M.1 a 1) then (1 : Int32) else (0 : Int32)) else (0 : Int32)); let v3_0 : Int32 := if (M.1 a 2) < 0 then (if v0_0 = 0 then (1 : Int32) else ((M.1 a 9) + (1 : Int32))) else (0 : Int32); let v5_0 : Int32 := if v3_0 < (10 : Int32) then (0 : Int32) else (1 : Int32); v5_0)
theorem Z_X0_hasSlept {M : Mem} {a : Nat}   : V_X0_hasSlept a M = 0 ∨ V_X0_hasSlept a M = 1 := (zi (Or.inl rfl) (Or.inr rfl))
def U_X0_hasSlept (a : Nat) (M : Mem) : Mem := (let v0_0 : Int32 := if (M.1 a 9) ≤ 0 then (0 : Int32) else (if (M.1 a 7) = (M.1 a 0) then (if (M.1 a 8) = (M.1 a 1) then (1 : Int32) else (0 : Int32)) else (0 : Int32)); let v3_0 : Int32 := if (M.1 a 2) < 0 then (if v0_0 = 0 then (1 : Int32) else ((M.1 a 9) + (1 : Int32))) else (0 : Int32); let v5_0 : Int32 := if v3_0 < (10 : Int32) then (0 : Int32) else (1 : Int32); setI (setI (setI M a 9 v3_0) a 7 (M.1 a 0)) a 8 (M.1 a 1))
theorem S_X0_hasSlept {sh : List SC} {M : Mem} {a : Nat}  (hb1 : BallAt sh a)  : Gv m_X0_hasSlept [.ref a] sh M (.int (V_X0_hasSlept a M)) (U_X0_hasSlept a M) := by
  refine Sp.of (ls := [some (.ref a), none]) (by decide +kernel) (Nat.le_of_ble_eq_true rfl) rfl ?_
  have k0 : kd sh a = some (0 + 7, 0) := hb1.1
  refine r_aload_n e_X0_hasSlept_0 rfl ?_
  refine r_getI e_X0_hasSlept_1 fl_X0_37 i0 k0 ?_
  obtain ⟨v0_0, e_v0_0⟩ : ∃ z : Int32, z = (if (M.1 a 9) ≤ 0 then (0 : Int32) else (if (M.1 a 7) = (M.1 a 0) then (if (M.1 a 8) = (M.1 a 1) then (1 : Int32) else (0 : Int32)) else (0 : Int32))) := ⟨_, rfl⟩
  have z_v0_0 : v0_0 = 0 ∨ v0_0 = 1 := by rw [e_v0_0]; exact (zi (Or.inl rfl) (zi (zi (Or.inr rfl) (Or.inl rfl)) (Or.inl rfl)))
  suffices j34_0 : WP m_X0_hasSlept (fun r sh' M'' => r = some (.int (V_X0_hasSlept a M)) ∧ sh' = sh ∧ M'' = (U_X0_hasSlept a M)) 34 [some (.ref a), none] [.int v0_0] sh M 0 0 by
    refine r_if_le e_X0_hasSlept_4 (fun h4_0 => ?_) (fun h4_0 => ?_)
    · refine r_iconst e_X0_hasSlept_33 ic_0 ?_
      (rw [show v0_0 = (0 : Int32) from (e_v0_0.trans (if_pos h4_0))] at j34_0; exact j34_0)
    · refine r_aload_n e_X0_hasSlept_7 rfl ?_
      refine r_getI e_X0_hasSlept_8 fl_X0_31 i0 k0 ?_
      refine r_aload_n e_X0_hasSlept_11 rfl ?_
      refine r_getI e_X0_hasSlept_12 fl_X0_7 i0 k0 ?_
      refine r_icmp_ne e_X0_hasSlept_15 (fun h15_1 => ?_) (fun h15_1 => ?_)
      · refine r_iconst e_X0_hasSlept_33 ic_0 ?_
        (rw [show v0_0 = (0 : Int32) from ((e_v0_0.trans (if_neg h4_0)).trans (if_neg h15_1))] at j34_0; exact j34_0)
      · refine r_aload_n e_X0_hasSlept_18 rfl ?_
        refine r_getI e_X0_hasSlept_19 fl_X0_34 i0 k0 ?_
        refine r_aload_n e_X0_hasSlept_22 rfl ?_
        refine r_getI e_X0_hasSlept_23 fl_X0_13 i0 k0 ?_
        refine r_icmp_ne e_X0_hasSlept_26 (fun h26_2 => ?_) (fun h26_2 => ?_)
        · refine r_iconst e_X0_hasSlept_33 ic_0 ?_
          (rw [show v0_0 = (0 : Int32) from (((e_v0_0.trans (if_neg h4_0)).trans (if_pos h15_1)).trans (if_neg h26_2))] at j34_0; exact j34_0)
        · refine r_iconst e_X0_hasSlept_29 ic_1 ?_
          refine r_goto e_X0_hasSlept_30 ?_
          (rw [show v0_0 = (1 : Int32) from (((e_v0_0.trans (if_neg h4_0)).trans (if_pos h15_1)).trans (if_pos h26_2))] at j34_0; exact j34_0)
  refine p_istore_n_2_1 e_X0_hasSlept_34 rfl rfl ?_
  refine r_aload_n e_X0_hasSlept_35 rfl ?_
  refine r_aload_n e_X0_hasSlept_36 rfl ?_
  refine r_getI e_X0_hasSlept_37 fl_X0_16 i0 k0 ?_
  obtain ⟨v3_0, e_v3_0⟩ : ∃ z : Int32, z = (if (M.1 a 2) < 0 then (if v0_0 = 0 then (1 : Int32) else ((M.1 a 9) + (1 : Int32))) else (0 : Int32)) := ⟨_, rfl⟩
  suffices j61_3 : WP m_X0_hasSlept (fun r sh' M'' => r = some (.int (V_X0_hasSlept a M)) ∧ sh' = sh ∧ M'' = (U_X0_hasSlept a M)) 61 [some (.ref a), some (.int v0_0)] [.int v3_0, .ref a] sh M 0 0 by
    refine r_if_lt e_X0_hasSlept_40 (fun h40_3 => ?_) (fun h40_3 => ?_)
    · refine r_iload_n e_X0_hasSlept_47 rfl ?_
      refine r_if_eq e_X0_hasSlept_48 (fun h48_4 => ?_) (fun h48_4 => ?_)
      · refine r_iconst e_X0_hasSlept_60 ic_1 ?_
        (rw [show v3_0 = (1 : Int32) from ((e_v3_0.trans (if_pos h40_3)).trans (if_pos h48_4))] at j61_3; exact j61_3)
      · refine r_aload_n e_X0_hasSlept_51 rfl ?_
        refine r_getI e_X0_hasSlept_52 fl_X0_37 i0 k0 ?_
        refine r_iconst e_X0_hasSlept_55 ic_1 ?_
        refine r_iadd e_X0_hasSlept_56 ?_
        refine r_goto e_X0_hasSlept_57 ?_
        (rw [show v3_0 = ((M.1 a 9) + (1 : Int32)) from ((e_v3_0.trans (if_pos h40_3)).trans (if_neg h48_4))] at j61_3; exact j61_3)
    · refine r_iconst e_X0_hasSlept_43 ic_0 ?_
      refine r_goto e_X0_hasSlept_44 ?_
      (rw [show v3_0 = (0 : Int32) from (e_v3_0.trans (if_neg h40_3))] at j61_3; exact j61_3)
  refine r_putI e_X0_hasSlept_61 fl_X0_37 k0 ?_
  refine r_aload_n e_X0_hasSlept_64 rfl ?_
  refine r_aload_n e_X0_hasSlept_65 rfl ?_
  refine r_getIe e_X0_hasSlept_66 fl_X0_7 i0 k0 (gs_nI (by decide)) ?_
  refine r_putI e_X0_hasSlept_69 fl_X0_31 k0 ?_
  refine r_aload_n e_X0_hasSlept_72 rfl ?_
  refine r_aload_n e_X0_hasSlept_73 rfl ?_
  refine r_getIe e_X0_hasSlept_74 fl_X0_13 i0 k0 ((gs_nI (by decide)).trans (gs_nI (by decide))) ?_
  refine r_putI e_X0_hasSlept_77 fl_X0_34 k0 ?_
  refine r_aload_n e_X0_hasSlept_80 rfl ?_
  refine r_getIe e_X0_hasSlept_81 fl_X0_37 i0 k0 ((gs_nI (by decide)).trans ((gs_nI (by decide)).trans gs_eI)) ?_
  refine r_bipush e_X0_hasSlept_84 bp_10 ?_
  obtain ⟨v5_0, e_v5_0⟩ : ∃ z : Int32, z = (if v3_0 < (10 : Int32) then (0 : Int32) else (1 : Int32)) := ⟨_, rfl⟩
  have z_v5_0 : v5_0 = 0 ∨ v5_0 = 1 := by rw [e_v5_0]; exact (zi (Or.inl rfl) (Or.inr rfl))
  suffices j94_5 : WP m_X0_hasSlept (fun r sh' M'' => r = some (.int (V_X0_hasSlept a M)) ∧ sh' = sh ∧ M'' = (U_X0_hasSlept a M)) 94 [some (.ref a), some (.int v0_0)] [.int v5_0] sh (setI (setI (setI M a 9 v3_0) a 7 (M.1 a 0)) a 8 (M.1 a 1)) 0 0 by
    refine r_icmp_lt e_X0_hasSlept_86 (fun h86_5 => ?_) (fun h86_5 => ?_)
    · refine r_iconst e_X0_hasSlept_93 ic_0 ?_
      (rw [show v5_0 = (0 : Int32) from (e_v5_0.trans (if_pos h86_5))] at j94_5; exact j94_5)
    · refine r_iconst e_X0_hasSlept_89 ic_1 ?_
      refine r_goto e_X0_hasSlept_90 ?_
      (rw [show v5_0 = (1 : Int32) from (e_v5_0.trans (if_neg h86_5))] at j94_5; exact j94_5)
  refine r_zreturn e_X0_hasSlept_94 rfl ⟨rfl, rfl⟩ z_v5_0 ?_
  (subst e_v5_0 e_v3_0 e_v0_0; refine ⟨?_, rfl, ?_⟩ <;> ((try unfold V_X0_hasSlept); (try unfold U_X0_hasSlept); (try simp only []); (try rfl)))
def F_X2_giveToFoe_7 (a : Nat) : Nat → Nat → Int32 → Int32 → Mem → Int32 × Int32
  | 0, i7, u1, u2, M => (u1, u2)
  | n + 1, i7, u1, u2, M => (let v700_0 : Int32 := if ((nI i7) / (5 : Int32)) = ((M.1 (a + 4) 2) / (5 : Int32)) then u1 else (if u2 ≤ (V_X10_distance (M.1 (a + 4) 0) (M.1 (a + 4) 1) (M.1 (a + 10 + 2 * i7) 2) (M.1 (a + 10 + 2 * i7) 3) M) then u1 else (nI i7)); let v700_1 : Int32 := if ((nI i7) / (5 : Int32)) = ((M.1 (a + 4) 2) / (5 : Int32)) then u2 else (if u2 ≤ (V_X10_distance (M.1 (a + 4) 0) (M.1 (a + 4) 1) (M.1 (a + 10 + 2 * i7) 2) (M.1 (a + 10 + 2 * i7) 3) M) then u2 else (V_X10_distance (M.1 (a + 4) 0) (M.1 (a + 4) 1) (M.1 (a + 10 + 2 * i7) 2) (M.1 (a + 10 + 2 * i7) 3) M)); (F_X2_giveToFoe_7 a n (i7 + 1) v700_0 v700_1 M))
theorem L_X2_giveToFoe_7 {sh : List SC} {Q : Po} {a : Nat}    (hb1 : MatchAt sh a)   : ∀ (n i7 : Nat) (u1 : Int32) (u2 : Int32) (M : Mem), i7 + n = 10 → WP m_X2_giveToFoe Q 85 [some (.ref a), some (.int ((F_X2_giveToFoe_7 a n i7 u1 u2 M).1)), some (.int ((F_X2_giveToFoe_7 a n i7 u1 u2 M).2)), none, none] [] sh M 0 0 → WP m_X2_giveToFoe Q 7 [some (.ref a), some (.int u1), some (.int u2), some (.int (nI i7)), none] [] sh M 0 0 := by
  have k0 : kd sh a = some (2 + 7, 0) := hb1.1
  have k1 : rf sh a 3 = some (a + 3) := hb1.2.2.2.2.1
  have k2 : kd sh (a + 3) = some (6, 10) := hb1.2.2.2.2.2.2.2.1
  have k3 : rf sh a 4 = some (a + 4) := hb1.2.2.2.2.2.1
  have k4 : kd sh (a + 4) = some (0 + 7, 0) := hb1.2.2.2.2.2.2.2.2.2.1.1
  intro n
  induction n with
  | zero =>
    intro i7 u1 u2 M hi hq
    have hz : (10 : Int32) ≤ nI i7 := by
      have q : i7 = 10 := by omega
      rw [q]; exact nI_le (Nat.le_refl _) (by decide)
    refine r_iload_n e_X2_giveToFoe_7 rfl ?_
    refine r_aload_n e_X2_giveToFoe_8 rfl ?_
    refine r_getR e_X2_giveToFoe_9 fl_X2_20 k0 k1 ?_
    refine r_alen (v := (10 : Int32)) e_X2_giveToFoe_12 k2 (by decide) rfl ?_
    refine r_icmp_ge e_X2_giveToFoe_13 (fun _ => ?_) (fun hh => absurd hz hh)
    refine d_5_3 ?_
    (simp only [F_X2_giveToFoe_7] at hq; first | exact hq | (simp only []; exact hq))
  | succ n ih =>
    intro i7 u1 u2 M hi hq
    have hlt_i7 : i7 < 10 := by omega
    have hcl_i7 : (nI i7).toNatClampNeg = i7 := nI_clamp (by omega)
    have hs : ¬ (10 : Int32) ≤ nI i7 := nI_ge (b := 10) hlt_i7 (by decide)
    refine r_iload_n e_X2_giveToFoe_7 rfl ?_
    refine r_aload_n e_X2_giveToFoe_8 rfl ?_
    refine r_getR e_X2_giveToFoe_9 fl_X2_20 k0 k1 ?_
    refine r_alen (v := (10 : Int32)) e_X2_giveToFoe_12 k2 (by decide) rfl ?_
    refine r_icmp_ge e_X2_giveToFoe_13 (fun hh => absurd hh hs) (fun _ => ?_)
    refine r_aload_n e_X2_giveToFoe_16 rfl ?_
    refine r_getR e_X2_giveToFoe_17 fl_X2_27 k0 k3 ?_
    refine r_getI e_X2_giveToFoe_20 fl_X2_110 i0 k4 ?_
    refine r_aload_n e_X2_giveToFoe_23 rfl ?_
    refine r_getR e_X2_giveToFoe_24 fl_X2_27 k0 k3 ?_
    refine r_getI e_X2_giveToFoe_27 fl_X2_113 i0 k4 ?_
    refine r_aload_n e_X2_giveToFoe_30 rfl ?_
    refine r_getR e_X2_giveToFoe_31 fl_X2_20 k0 k1 ?_
    refine r_iload_n e_X2_giveToFoe_34 rfl ?_
    refine r_aaload (b := (a + 10 + 2 * i7)) e_X2_giveToFoe_35 k2 ⟨by decide, by decide⟩ (vp_in_nI (Nat.lt_of_lt_of_le hlt_i7 (by decide)) (by decide)) (by rw [hcl_i7]; exact (hb1.2.2.2.2.2.2.2.2.1 i7 (Nat.lt_of_lt_of_le hlt_i7 (by decide))).1) ?_
    refine r_getI e_X2_giveToFoe_36 fl_X2_130 i0 (show kd sh (a + 10 + 2 * i7) = some (5 + 7, 0) from (hb1.2.2.2.2.2.2.2.2.1 i7 (Nat.lt_of_lt_of_le hlt_i7 (by decide))).2.1) ?_
    refine r_aload_n e_X2_giveToFoe_39 rfl ?_
    refine r_getR e_X2_giveToFoe_40 fl_X2_20 k0 k1 ?_
    refine r_iload_n e_X2_giveToFoe_43 rfl ?_
    refine r_aaload (b := (a + 10 + 2 * i7)) e_X2_giveToFoe_44 k2 ⟨by decide, by decide⟩ (vp_in_nI (Nat.lt_of_lt_of_le hlt_i7 (by decide)) (by decide)) (by rw [hcl_i7]; exact (hb1.2.2.2.2.2.2.2.2.1 i7 (Nat.lt_of_lt_of_le hlt_i7 (by decide))).1) ?_
    refine r_getI e_X2_giveToFoe_45 fl_X2_131 i0 (show kd sh (a + 10 + 2 * i7) = some (5 + 7, 0) from (hb1.2.2.2.2.2.2.2.2.1 i7 (Nat.lt_of_lt_of_le hlt_i7 (by decide))).2.1) ?_
    refine cSN4v e_X2_giveToFoe_48 cl_X2_144 ⟨Nat.le_of_ble_eq_true rfl, Nat.le_of_ble_eq_true rfl⟩ ⟨rfl, rfl⟩  (Nat.le_of_ble_eq_true rfl) (S_X10_distance ) ?_
    refine p_istore_5_4 e_X2_giveToFoe_51 rfl rfl ?_
    refine r_iload_n e_X2_giveToFoe_53 rfl ?_
    refine r_iconst e_X2_giveToFoe_54 ic_5 ?_
    refine r_idiv e_X2_giveToFoe_55 (by decide) ?_
    refine r_aload_n e_X2_giveToFoe_56 rfl ?_
    refine r_getR e_X2_giveToFoe_57 fl_X2_27 k0 k3 ?_
    refine r_getI e_X2_giveToFoe_60 fl_X2_132 i0 k4 ?_
    refine r_iconst e_X2_giveToFoe_63 ic_5 ?_
    refine r_idiv e_X2_giveToFoe_64 (by decide) ?_
    obtain ⟨v700_0, e_v700_0⟩ : ∃ z : Int32, z = (if ((nI i7) / (5 : Int32)) = ((M.1 (a + 4) 2) / (5 : Int32)) then u1 else (if u2 ≤ (V_X10_distance (M.1 (a + 4) 0) (M.1 (a + 4) 1) (M.1 (a + 10 + 2 * i7) 2) (M.1 (a + 10 + 2 * i7) 3) M) then u1 else (nI i7))) := ⟨_, rfl⟩
    obtain ⟨v700_1, e_v700_1⟩ : ∃ z : Int32, z = (if ((nI i7) / (5 : Int32)) = ((M.1 (a + 4) 2) / (5 : Int32)) then u2 else (if u2 ≤ (V_X10_distance (M.1 (a + 4) 0) (M.1 (a + 4) 1) (M.1 (a + 10 + 2 * i7) 2) (M.1 (a + 10 + 2 * i7) 3) M) then u2 else (V_X10_distance (M.1 (a + 4) 0) (M.1 (a + 4) 1) (M.1 (a + 10 + 2 * i7) 2) (M.1 (a + 10 + 2 * i7) 3) M))) := ⟨_, rfl⟩
    suffices j79_700 : WP m_X2_giveToFoe Q 79 [some (.ref a), some (.int v700_0), some (.int v700_1), some (.int (nI i7)), some (.int (V_X10_distance (M.1 (a + 4) 0) (M.1 (a + 4) 1) (M.1 (a + 10 + 2 * i7) 2) (M.1 (a + 10 + 2 * i7) 3) M))] [] sh M 0 0 by
      refine r_icmp_eq e_X2_giveToFoe_65 (fun h65_700 => ?_) (fun h65_700 => ?_)
      · (rw [show v700_0 = u1 from (e_v700_0.trans (if_pos h65_700)), show v700_1 = u2 from (e_v700_1.trans (if_pos h65_700))] at j79_700; exact j79_700)
      · refine r_iload e_X2_giveToFoe_68 rfl ?_
        refine r_iload_n e_X2_giveToFoe_70 rfl ?_
        refine r_icmp_ge e_X2_giveToFoe_71 (fun h71_701 => ?_) (fun h71_701 => ?_)
        · (rw [show v700_0 = u1 from ((e_v700_0.trans (if_neg h65_700)).trans (if_pos h71_701)), show v700_1 = u2 from ((e_v700_1.trans (if_neg h65_700)).trans (if_pos h71_701))] at j79_700; exact j79_700)
        · refine r_iload e_X2_giveToFoe_74 rfl ?_
          refine p_istore_n_5_2 e_X2_giveToFoe_76 rfl rfl ?_
          refine r_iload_n e_X2_giveToFoe_77 rfl ?_
          refine p_istore_n_5_1 e_X2_giveToFoe_78 rfl rfl ?_
          (rw [show v700_0 = (nI i7) from ((e_v700_0.trans (if_neg h65_700)).trans (if_neg h71_701)), show v700_1 = (V_X10_distance (M.1 (a + 4) 0) (M.1 (a + 4) 1) (M.1 (a + 10 + 2 * i7) 2) (M.1 (a + 10 + 2 * i7) 3) M) from ((e_v700_1.trans (if_neg h65_700)).trans (if_neg h71_701))] at j79_700; exact j79_700)
    refine p_iinc_5_3 e_X2_giveToFoe_79 rfl ic_1 rfl ?_
    rw [nI_1 i7]
    refine r_goto e_X2_giveToFoe_82 ?_
    refine d_5_4 ?_
    (subst e_v700_1 e_v700_0; simp only [F_X2_giveToFoe_7] at hq; first | exact ih (i7 + 1) _ _ _ (by omega) hq | (simp only []; exact ih (i7 + 1) _ _ _ (by omega) hq))
def U_X2_giveToFoe (a : Nat) (M : Mem) : Mem := (let M0_0 : Mem := if ((F_X2_giveToFoe_7 a 10 0 (-1 : Int32) (15 : Int32) M).1) < 0 then M else (U_X0_hold (a + 4) ((F_X2_giveToFoe_7 a 10 0 (-1 : Int32) (15 : Int32) M).1) (M.1 (a + 10 + 2 * ((F_X2_giveToFoe_7 a 10 0 (-1 : Int32) (15 : Int32) M).1).toNatClampNeg) 2) (M.1 (a + 10 + 2 * ((F_X2_giveToFoe_7 a 10 0 (-1 : Int32) (15 : Int32) M).1).toNatClampNeg) 3) (M.1 a 7) M); M0_0)
def P_X2_giveToFoe (a : Nat) (M : Mem) : Prop := (¬ (((F_X2_giveToFoe_7 a 10 0 (-1 : Int32) (15 : Int32) M).1) < 0) → vp_in ((F_X2_giveToFoe_7 a 10 0 (-1 : Int32) (15 : Int32) M).1) 10)
theorem S_X2_giveToFoe {sh : List SC} {M : Mem} {a : Nat}  (hb1 : MatchAt sh a)  (hP : P_X2_giveToFoe a M) : Gu m_X2_giveToFoe [.ref a] sh M (U_X2_giveToFoe a M) := by
  refine Sp.of (ls := [some (.ref a), none, none, none, none]) (by decide +kernel) (Nat.le_of_ble_eq_true rfl) rfl ?_
  have g1 : ¬ (((F_X2_giveToFoe_7 a 10 0 (-1 : Int32) (15 : Int32) M).1) < 0) → vp_in ((F_X2_giveToFoe_7 a 10 0 (-1 : Int32) (15 : Int32) M).1) 10 := hP
  have k0 : kd sh a = some (2 + 7, 0) := hb1.1
  have k1 : rf sh a 4 = some (a + 4) := hb1.2.2.2.2.2.1
  have k2 : rf sh a 3 = some (a + 3) := hb1.2.2.2.2.1
  have k3 : kd sh (a + 3) = some (6, 10) := hb1.2.2.2.2.2.2.2.1
  have k4 : kd sh (a + 4) = some (0 + 7, 0) := hb1.2.2.2.2.2.2.2.2.2.1.1
  refine r_iconst e_X2_giveToFoe_0 ic_m1 ?_
  refine p_istore_n_5_1 e_X2_giveToFoe_1 rfl rfl ?_
  refine r_bipush e_X2_giveToFoe_2 bp_15 ?_
  refine p_istore_n_5_2 e_X2_giveToFoe_4 rfl rfl ?_
  refine r_iconst e_X2_giveToFoe_5 ic_0 ?_
  refine p_istore_n_5_3 e_X2_giveToFoe_6 rfl rfl ?_
  skip
  show WP m_X2_giveToFoe _ 7 [some (.ref a), some (.int (-1 : Int32)), some (.int (15 : Int32)), some (.int (nI 0)), none] [] sh M 0 0
  refine L_X2_giveToFoe_7 hb1 10 0 (-1 : Int32) (15 : Int32) M (by omega) ?_
  refine r_iload_n e_X2_giveToFoe_85 rfl ?_
  obtain ⟨M0_0, e_M0_0⟩ : ∃ z : Mem, z = (if ((F_X2_giveToFoe_7 a 10 0 (-1 : Int32) (15 : Int32) M).1) < 0 then M else (U_X0_hold (a + 4) ((F_X2_giveToFoe_7 a 10 0 (-1 : Int32) (15 : Int32) M).1) (M.1 (a + 10 + 2 * ((F_X2_giveToFoe_7 a 10 0 (-1 : Int32) (15 : Int32) M).1).toNatClampNeg) 2) (M.1 (a + 10 + 2 * ((F_X2_giveToFoe_7 a 10 0 (-1 : Int32) (15 : Int32) M).1).toNatClampNeg) 3) (M.1 a 7) M)) := ⟨_, rfl⟩
  suffices j119_0 : WP m_X2_giveToFoe (fun r sh' M'' => r = none ∧ sh' = sh ∧ M'' = (U_X2_giveToFoe a M)) 119 [some (.ref a), some (.int ((F_X2_giveToFoe_7 a 10 0 (-1 : Int32) (15 : Int32) M).1)), some (.int ((F_X2_giveToFoe_7 a 10 0 (-1 : Int32) (15 : Int32) M).2)), none, none] [] sh M0_0 0 0 by
    refine r_if_lt e_X2_giveToFoe_86 (fun h86_0 => ?_) (fun h86_0 => ?_)
    · (rw [show M0_0 = M from (e_M0_0.trans (if_pos h86_0))] at j119_0; exact j119_0)
    · refine r_aload_n e_X2_giveToFoe_89 rfl ?_
      refine r_getR e_X2_giveToFoe_90 fl_X2_27 k0 k1 ?_
      refine r_iload_n e_X2_giveToFoe_93 rfl ?_
      refine r_aload_n e_X2_giveToFoe_94 rfl ?_
      refine r_getR e_X2_giveToFoe_95 fl_X2_20 k0 k2 ?_
      refine r_iload_n e_X2_giveToFoe_98 rfl ?_
      refine r_aaload (b := (a + 10 + 2 * ((F_X2_giveToFoe_7 a 10 0 (-1 : Int32) (15 : Int32) M).1).toNatClampNeg)) e_X2_giveToFoe_99 k3 ⟨by decide, by decide⟩ (g1 h86_0) (hb1.2.2.2.2.2.2.2.2.1 (((F_X2_giveToFoe_7 a 10 0 (-1 : Int32) (15 : Int32) M).1).toNatClampNeg) (vp_lt (g1 h86_0))).1 ?_
      refine r_getI e_X2_giveToFoe_100 fl_X2_130 i0 (show kd sh (a + 10 + 2 * ((F_X2_giveToFoe_7 a 10 0 (-1 : Int32) (15 : Int32) M).1).toNatClampNeg) = some (5 + 7, 0) from (hb1.2.2.2.2.2.2.2.2.1 (((F_X2_giveToFoe_7 a 10 0 (-1 : Int32) (15 : Int32) M).1).toNatClampNeg) (vp_lt (g1 h86_0))).2.1) ?_
      refine r_aload_n e_X2_giveToFoe_103 rfl ?_
      refine r_getR e_X2_giveToFoe_104 fl_X2_20 k0 k2 ?_
      refine r_iload_n e_X2_giveToFoe_107 rfl ?_
      refine r_aaload (b := (a + 10 + 2 * ((F_X2_giveToFoe_7 a 10 0 (-1 : Int32) (15 : Int32) M).1).toNatClampNeg)) e_X2_giveToFoe_108 k3 ⟨by decide, by decide⟩ (g1 h86_0) (hb1.2.2.2.2.2.2.2.2.1 (((F_X2_giveToFoe_7 a 10 0 (-1 : Int32) (15 : Int32) M).1).toNatClampNeg) (vp_lt (g1 h86_0))).1 ?_
      refine r_getI e_X2_giveToFoe_109 fl_X2_131 i0 (show kd sh (a + 10 + 2 * ((F_X2_giveToFoe_7 a 10 0 (-1 : Int32) (15 : Int32) M).1).toNatClampNeg) = some (5 + 7, 0) from (hb1.2.2.2.2.2.2.2.2.1 (((F_X2_giveToFoe_7 a 10 0 (-1 : Int32) (15 : Int32) M).1).toNatClampNeg) (vp_lt (g1 h86_0))).2.1) ?_
      refine r_aload_n e_X2_giveToFoe_112 rfl ?_
      refine r_getI e_X2_giveToFoe_113 fl_X2_42 i0 k0 ?_
      refine cV4u e_X2_giveToFoe_116 cl_X2_235 ⟨Nat.le_of_ble_eq_true rfl, Nat.le_of_ble_eq_true rfl⟩ ⟨rfl, rfl⟩ k4 (Nat.le_of_ble_eq_true rfl) (S_X0_hold hb1.2.2.2.2.2.2.2.2.2.1) ?_
      (rw [show M0_0 = U_X0_hold (a + 4) ((F_X2_giveToFoe_7 a 10 0 (-1 : Int32) (15 : Int32) M).1) (M.1 (a + 10 + 2 * ((F_X2_giveToFoe_7 a 10 0 (-1 : Int32) (15 : Int32) M).1).toNatClampNeg) 2) (M.1 (a + 10 + 2 * ((F_X2_giveToFoe_7 a 10 0 (-1 : Int32) (15 : Int32) M).1).toNatClampNeg) 3) (M.1 a 7) M from (e_M0_0.trans (if_neg h86_0))] at j119_0; exact j119_0)
  refine r_return e_X2_giveToFoe_119 rfl ⟨rfl, rfl⟩ ?_
  (subst e_M0_0; refine ⟨?_, rfl, ?_⟩ <;> ((try unfold U_X2_giveToFoe); (try simp only []); (try rfl)))
