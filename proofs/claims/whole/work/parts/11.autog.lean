def V_X10_program (x1 : Int32) (x2 : Int32) (x3 : Int32) (M : Mem) : Int32 := if (V_X10_isTeam x1 M) = 0 then (V_X10_finding (-1001 : Int32) M) else (if (V_X10_isMember x2 M) = 0 then (V_X10_finding (-1001 : Int32) M) else (if x3 < (-1 : Int32) then (V_X10_finding (-1001 : Int32) M) else (if x3 < (M.1 0 10) then (1 : Int32) else (V_X10_finding (-1001 : Int32) M))))
def U_X10_program (x1 : Int32) (x2 : Int32) (x3 : Int32) (M : Mem) : Mem := if (V_X10_isTeam x1 M) = 0 then (U_X10_finding (-1001 : Int32) M) else (if (V_X10_isMember x2 M) = 0 then (U_X10_finding (-1001 : Int32) M) else (if x3 < (-1 : Int32) then (U_X10_finding (-1001 : Int32) M) else (if x3 < (M.1 0 10) then (setI M ((106 + 4 * x1.toNatClampNeg) + 1) x2.toNatClampNeg x3) else (U_X10_finding (-1001 : Int32) M))))
def P_X10_program (x1 : Int32) (x2 : Int32) (x3 : Int32) (M : Mem) : Prop := (¬ ((V_X10_isTeam x1 M) = 0) → ¬ ((V_X10_isMember x2 M) = 0) → ¬ (x3 < (-1 : Int32)) → x3 < (M.1 0 10) → vp_in x1 4) ∧ (¬ ((V_X10_isTeam x1 M) = 0) → ¬ ((V_X10_isMember x2 M) = 0) → ¬ (x3 < (-1 : Int32)) → x3 < (M.1 0 10) → vp_in x2 5)
theorem S_X10_program {sh : List SC} {M : Mem} {x1 : Int32} {x2 : Int32} {x3 : Int32}  (hb1 : PitchAt sh)  (hP : P_X10_program x1 x2 x3 M) : Gv m_X10_program [.ref 0, .int x1, .int x2, .int x3] sh M (.int (V_X10_program x1 x2 x3 M)) (U_X10_program x1 x2 x3 M) := by
  refine Sp.of (ls := [some (.ref 0), some (.int x1), some (.int x2), some (.int x3)]) (by decide +kernel) (Nat.le_of_ble_eq_true rfl) rfl ?_
  obtain ⟨g1, g2⟩ := hP
  have k0 : kd sh 0 = some (9 + 7, 0) := hb1.1
  have k1 : rf sh 0 3 = some 9 := hb1.2.2.2.2.1
  have k2 : kd sh 9 = some (4, 4) := hb1.2.2.2.2.2.2.2.2.2.2.2.2.2.2.2.2.2.2.2.2.1
  refine r_iload_n e_X10_program_0 rfl ?_
  refine cS1v e_X10_program_1 cl_X10_89 ⟨Nat.le_of_ble_eq_true rfl, Nat.le_of_ble_eq_true rfl⟩ ⟨rfl, rfl⟩  (Nat.le_of_ble_eq_true rfl) (S_X10_isTeam ) ?_
  refine r_if_eq e_X10_program_4 (fun h4_0 => ?_) (fun h4_0 => ?_)
  · refine r_aload_n e_X10_program_27 rfl ?_
    refine r_sipush e_X10_program_28 sp_m1001 ?_
    refine cV1v e_X10_program_31 cl_X10_70 ⟨Nat.le_of_ble_eq_true rfl, Nat.le_of_ble_eq_true rfl⟩ ⟨rfl, rfl⟩ k0 (Nat.le_of_ble_eq_true rfl) (S_X10_finding hb1) ?_
    refine r_ireturn e_X10_program_34 rfl ⟨rfl, rfl⟩ ?_
    (refine ⟨?_, rfl, ?_⟩ <;> ((try unfold V_X10_program); (try unfold U_X10_program); (try simp only [if_pos h4_0]); (try rfl)))
  · refine r_iload_n e_X10_program_7 rfl ?_
    refine cS1v e_X10_program_8 cl_X10_93 ⟨Nat.le_of_ble_eq_true rfl, Nat.le_of_ble_eq_true rfl⟩ ⟨rfl, rfl⟩  (Nat.le_of_ble_eq_true rfl) (S_X10_isMember ) ?_
    refine r_if_eq e_X10_program_11 (fun h11_1 => ?_) (fun h11_1 => ?_)
    · refine r_aload_n e_X10_program_27 rfl ?_
      refine r_sipush e_X10_program_28 sp_m1001 ?_
      refine cV1v e_X10_program_31 cl_X10_70 ⟨Nat.le_of_ble_eq_true rfl, Nat.le_of_ble_eq_true rfl⟩ ⟨rfl, rfl⟩ k0 (Nat.le_of_ble_eq_true rfl) (S_X10_finding hb1) ?_
      refine r_ireturn e_X10_program_34 rfl ⟨rfl, rfl⟩ ?_
      (refine ⟨?_, rfl, ?_⟩ <;> ((try unfold V_X10_program); (try unfold U_X10_program); (try simp only [if_neg h4_0, if_pos h11_1]); (try rfl)))
    · refine r_iload_n e_X10_program_14 rfl ?_
      refine r_iconst e_X10_program_15 ic_m1 ?_
      refine r_icmp_lt e_X10_program_16 (fun h16_2 => ?_) (fun h16_2 => ?_)
      · refine r_aload_n e_X10_program_27 rfl ?_
        refine r_sipush e_X10_program_28 sp_m1001 ?_
        refine cV1v e_X10_program_31 cl_X10_70 ⟨Nat.le_of_ble_eq_true rfl, Nat.le_of_ble_eq_true rfl⟩ ⟨rfl, rfl⟩ k0 (Nat.le_of_ble_eq_true rfl) (S_X10_finding hb1) ?_
        refine r_ireturn e_X10_program_34 rfl ⟨rfl, rfl⟩ ?_
        (refine ⟨?_, rfl, ?_⟩ <;> ((try unfold V_X10_program); (try unfold U_X10_program); (try simp only [if_neg h4_0, if_neg h11_1, if_pos h16_2]); (try rfl)))
      · refine r_iload_n e_X10_program_19 rfl ?_
        refine r_aload_n e_X10_program_20 rfl ?_
        refine r_getI e_X10_program_21 fl_X10_52 i0 k0 ?_
        refine r_icmp_lt e_X10_program_24 (fun h24_3 => ?_) (fun h24_3 => ?_)
        · refine r_aload_n e_X10_program_35 rfl ?_
          refine r_getR e_X10_program_36 fl_X10_28 k0 k1 ?_
          refine r_iload_n e_X10_program_39 rfl ?_
          refine r_aaload (b := (106 + 4 * x1.toNatClampNeg)) e_X10_program_40 k2 ⟨by decide, by decide⟩ (g1 h4_0 h11_1 h16_2 h24_3) (hb1.2.2.2.2.2.2.2.2.2.2.2.2.2.2.2.2.2.2.2.2.2 x1.toNatClampNeg (vp_lt (g1 h4_0 h11_1 h16_2 h24_3))).1 ?_
          refine r_getR e_X10_program_41 fl_X10_96 (show kd sh (106 + 4 * x1.toNatClampNeg) = some (8 + 7, 0) from (hb1.2.2.2.2.2.2.2.2.2.2.2.2.2.2.2.2.2.2.2.2.2 x1.toNatClampNeg (vp_lt (g1 h4_0 h11_1 h16_2 h24_3))).2.1) (show rf sh (106 + 4 * x1.toNatClampNeg) 0 = some ((106 + 4 * x1.toNatClampNeg) + 1) from (hb1.2.2.2.2.2.2.2.2.2.2.2.2.2.2.2.2.2.2.2.2.2 x1.toNatClampNeg (vp_lt (g1 h4_0 h11_1 h16_2 h24_3))).2.2.1) ?_
          refine r_iload_n e_X10_program_44 rfl ?_
          refine r_iload_n e_X10_program_45 rfl ?_
          refine r_iastore e_X10_program_46 (show kd sh ((106 + 4 * x1.toNatClampNeg) + 1) = some (0, 5) from (hb1.2.2.2.2.2.2.2.2.2.2.2.2.2.2.2.2.2.2.2.2.2 x1.toNatClampNeg (vp_lt (g1 h4_0 h11_1 h16_2 h24_3))).2.2.2.2.2.1) (g2 h4_0 h11_1 h16_2 h24_3) ?_
          refine r_iconst e_X10_program_47 ic_1 ?_
          refine r_ireturn e_X10_program_48 rfl ⟨rfl, rfl⟩ ?_
          (refine ⟨?_, rfl, ?_⟩ <;> ((try unfold V_X10_program); (try unfold U_X10_program); (try simp only [if_neg h4_0, if_neg h11_1, if_neg h16_2, if_pos h24_3]); (try rfl)))
        · refine r_aload_n e_X10_program_27 rfl ?_
          refine r_sipush e_X10_program_28 sp_m1001 ?_
          refine cV1v e_X10_program_31 cl_X10_70 ⟨Nat.le_of_ble_eq_true rfl, Nat.le_of_ble_eq_true rfl⟩ ⟨rfl, rfl⟩ k0 (Nat.le_of_ble_eq_true rfl) (S_X10_finding hb1) ?_
          refine r_ireturn e_X10_program_34 rfl ⟨rfl, rfl⟩ ?_
          (refine ⟨?_, rfl, ?_⟩ <;> ((try unfold V_X10_program); (try unfold U_X10_program); (try simp only [if_neg h4_0, if_neg h11_1, if_neg h16_2, if_neg h24_3]); (try rfl)))
def F_X5_join_92 (a : Nat) (x1 : Nat) : Nat → Nat → Mem → Mem
  | 0, i92, M => M
  | n + 1, i92, M => (F_X5_join_92 a x1 n (i92 + 1) (setI M (a + 1) i92 (0 : Int32)))
theorem L_X5_join_92 {sh : List SC} {Q : Po} {a : Nat} {x1 : Nat}    (hb1 : RobotAt sh a) (hb2 : TeamAt sh x1)   : ∀ (n i92 : Nat) (M : Mem), i92 + n = 4 → WP m_X5_join Q 114 [some (.ref a), some (.ref x1), none] [] sh (F_X5_join_92 a x1 n i92 M) 0 0 → WP m_X5_join Q 92 [some (.ref a), some (.ref x1), some (.int (nI i92))] [] sh M 0 0 := by
  have k0 : kd sh a = some (5 + 7, 0) := hb1.1
  have k1 : rf sh a 9 = some (a + 1) := hb1.2.1
  have k2 : kd sh (a + 1) = some (0, 4) := hb1.2.2
  intro n
  induction n with
  | zero =>
    intro i92 M hi hq
    have hz : (4 : Int32) ≤ nI i92 := by
      have q : i92 = 4 := by omega
      rw [q]; exact nI_le (Nat.le_refl _) (by decide)
    refine r_iload_n e_X5_join_92 rfl ?_
    refine r_aload_n e_X5_join_93 rfl ?_
    refine r_getR e_X5_join_94 fl_X5_34 k0 k1 ?_
    refine r_alen (v := (4 : Int32)) e_X5_join_97 k2 (by decide) rfl ?_
    refine r_icmp_ge e_X5_join_98 (fun _ => ?_) (fun hh => absurd hz hh)
    refine d_3_2 ?_
    (simp only [F_X5_join_92] at hq; first | exact hq | (simp only []; exact hq))
  | succ n ih =>
    intro i92 M hi hq
    have hlt_i92 : i92 < 4 := by omega
    have hcl_i92 : (nI i92).toNatClampNeg = i92 := nI_clamp (by omega)
    have hs : ¬ (4 : Int32) ≤ nI i92 := nI_ge (b := 4) hlt_i92 (by decide)
    refine r_iload_n e_X5_join_92 rfl ?_
    refine r_aload_n e_X5_join_93 rfl ?_
    refine r_getR e_X5_join_94 fl_X5_34 k0 k1 ?_
    refine r_alen (v := (4 : Int32)) e_X5_join_97 k2 (by decide) rfl ?_
    refine r_icmp_ge e_X5_join_98 (fun hh => absurd hh hs) (fun _ => ?_)
    refine r_aload_n e_X5_join_101 rfl ?_
    refine r_getR e_X5_join_102 fl_X5_34 k0 k1 ?_
    refine r_iload_n e_X5_join_105 rfl ?_
    refine r_iconst e_X5_join_106 ic_0 ?_
    refine r_iastore e_X5_join_107 k2 (vp_in_nI (Nat.lt_of_lt_of_le hlt_i92 (by decide)) (by decide)) ?_
    rw [hcl_i92]
    refine p_iinc_3_2 e_X5_join_108 rfl ic_1 rfl ?_
    rw [nI_1 i92]
    refine r_goto e_X5_join_111 ?_
    (simp only [F_X5_join_92] at hq; first | exact ih (i92 + 1) _ (by omega) hq | (simp only []; exact ih (i92 + 1) _ (by omega) hq))
def U_X5_join (a : Nat) (x1 : Nat) (M : Mem) : Mem := (let v0_0 : Int32 := if 0 ≤ (V_X10_at (x1 + 1) (M.1 a 0) 5 M) then (0 : Int32) else (-1 : Int32); (F_X5_join_92 a x1 4 0 (setI (setI (setI (setI (setI (setI (setI M a 6 (V_X10_at (x1 + 1) (M.1 a 0) 5 M)) a 4 (V_X5_seenX a (V_X10_at (x1 + 2) (M.1 a 0) 5 (setI M a 6 (V_X10_at (x1 + 1) (M.1 a 0) 5 M))) (setI M a 6 (V_X10_at (x1 + 1) (M.1 a 0) 5 M)))) a 5 (V_X5_seenY a (V_X10_at (x1 + 3) (M.1 a 0) 5 (setI (setI M a 6 (V_X10_at (x1 + 1) (M.1 a 0) 5 M)) a 4 (V_X5_seenX a (V_X10_at (x1 + 2) (M.1 a 0) 5 (setI M a 6 (V_X10_at (x1 + 1) (M.1 a 0) 5 M))) (setI M a 6 (V_X10_at (x1 + 1) (M.1 a 0) 5 M))))) (setI (setI M a 6 (V_X10_at (x1 + 1) (M.1 a 0) 5 M)) a 4 (V_X5_seenX a (V_X10_at (x1 + 2) (M.1 a 0) 5 (setI M a 6 (V_X10_at (x1 + 1) (M.1 a 0) 5 M))) (setI M a 6 (V_X10_at (x1 + 1) (M.1 a 0) 5 M)))))) a 12 (M.1 x1 3)) a 13 (M.1 x1 4)) a 7 v0_0) a 8 (0 : Int32))))
theorem S_X5_join {sh : List SC} {M : Mem} {a : Nat} {x1 : Nat}  (hb1 : RobotAt sh a) (hb2 : TeamAt sh x1)  : Gu m_X5_join [.ref a, .ref x1] sh M (U_X5_join a x1 M) := by
  refine Sp.of (ls := [some (.ref a), some (.ref x1), none]) (by decide +kernel) (Nat.le_of_ble_eq_true rfl) rfl ?_
  have k0 : kd sh x1 = some (8 + 7, 0) := hb2.1
  have k1 : rf sh x1 0 = some (x1 + 1) := hb2.2.1
  have k2 : kd sh (x1 + 1) = some (0, 5) := hb2.2.2.2.2.1
  have k3 : kd sh a = some (5 + 7, 0) := hb1.1
  have k4 : rf sh x1 1 = some (x1 + 2) := hb2.2.2.1
  have k5 : kd sh (x1 + 2) = some (0, 5) := hb2.2.2.2.2.2.1
  have k6 : rf sh x1 2 = some (x1 + 3) := hb2.2.2.2.1
  have k7 : kd sh (x1 + 3) = some (0, 5) := hb2.2.2.2.2.2.2
  refine r_aload_n e_X5_join_0 rfl ?_
  refine r_aload_n e_X5_join_1 rfl ?_
  refine r_getR e_X5_join_2 fl_X5_68 k0 k1 ?_
  refine r_aload_n e_X5_join_5 rfl ?_
  refine r_getI e_X5_join_6 fl_X5_62 i0 k3 ?_
  refine cSN2v e_X5_join_9 cl_X5_72 ⟨Nat.le_of_ble_eq_true rfl, Nat.le_of_ble_eq_true rfl⟩ ⟨rfl, rfl⟩  (Nat.le_of_ble_eq_true rfl) (S_X10_at k2 (by first | decide | (unfold vp_in; decide) | exact Or.inl rfl | exact Or.inr rfl)) ?_
  refine r_putI e_X5_join_12 fl_X5_24 k3 ?_
  refine r_aload_n e_X5_join_15 rfl ?_
  refine r_aload_n e_X5_join_16 rfl ?_
  refine r_aload_n e_X5_join_17 rfl ?_
  refine r_getR e_X5_join_18 fl_X5_76 k0 k4 ?_
  refine r_aload_n e_X5_join_21 rfl ?_
  refine r_getIe e_X5_join_22 fl_X5_62 i0 k3 (gs_nI (by decide)) ?_
  refine cSN2v e_X5_join_25 cl_X5_72 ⟨Nat.le_of_ble_eq_true rfl, Nat.le_of_ble_eq_true rfl⟩ ⟨rfl, rfl⟩  (Nat.le_of_ble_eq_true rfl) (S_X10_at k5 (by first | decide | (unfold vp_in; decide) | exact Or.inl rfl | exact Or.inr rfl)) ?_
  refine cV1v e_X5_join_28 cl_X5_78 ⟨Nat.le_of_ble_eq_true rfl, Nat.le_of_ble_eq_true rfl⟩ ⟨rfl, rfl⟩ k3 (Nat.le_of_ble_eq_true rfl) (S_X5_seenX hb1) ?_
  refine r_putI e_X5_join_31 fl_X5_18 k3 ?_
  refine r_aload_n e_X5_join_34 rfl ?_
  refine r_aload_n e_X5_join_35 rfl ?_
  refine r_aload_n e_X5_join_36 rfl ?_
  refine r_getR e_X5_join_37 fl_X5_82 k0 k6 ?_
  refine r_aload_n e_X5_join_40 rfl ?_
  refine r_getIe e_X5_join_41 fl_X5_62 i0 k3 ((gs_nI (by decide)).trans (gs_nI (by decide))) ?_
  refine cSN2v e_X5_join_44 cl_X5_72 ⟨Nat.le_of_ble_eq_true rfl, Nat.le_of_ble_eq_true rfl⟩ ⟨rfl, rfl⟩  (Nat.le_of_ble_eq_true rfl) (S_X10_at k7 (by first | decide | (unfold vp_in; decide) | exact Or.inl rfl | exact Or.inr rfl)) ?_
  refine cV1v e_X5_join_47 cl_X5_84 ⟨Nat.le_of_ble_eq_true rfl, Nat.le_of_ble_eq_true rfl⟩ ⟨rfl, rfl⟩ k3 (Nat.le_of_ble_eq_true rfl) (S_X5_seenY hb1) ?_
  refine r_putI e_X5_join_50 fl_X5_21 k3 ?_
  refine r_aload_n e_X5_join_53 rfl ?_
  refine r_aload_n e_X5_join_54 rfl ?_
  refine r_getIe e_X5_join_55 fl_X5_87 i0 k0 ((gs_nI (by decide)).trans ((gs_nI (by decide)).trans (gs_nI (by decide)))) ?_
  refine r_putI e_X5_join_58 fl_X5_44 k3 ?_
  refine r_aload_n e_X5_join_61 rfl ?_
  refine r_aload_n e_X5_join_62 rfl ?_
  refine r_getIe e_X5_join_63 fl_X5_88 i0 k0 ((gs_nI (by decide)).trans ((gs_nI (by decide)).trans ((gs_aI (ne_kd k0 k3 (by decide))).trans (gs_nI (by decide))))) ?_
  refine r_putI e_X5_join_66 fl_X5_47 k3 ?_
  refine r_aload_n e_X5_join_69 rfl ?_
  refine r_aload_n e_X5_join_70 rfl ?_
  refine r_getIe e_X5_join_71 fl_X5_24 i0 k3 ((gs_nI (by decide)).trans ((gs_nI (by decide)).trans ((gs_nI (by decide)).trans ((gs_nI (by decide)).trans gs_eI)))) ?_
  obtain ⟨v0_0, e_v0_0⟩ : ∃ z : Int32, z = (if 0 ≤ (V_X10_at (x1 + 1) (M.1 a 0) 5 M) then (0 : Int32) else (-1 : Int32)) := ⟨_, rfl⟩
  suffices j82_0 : WP m_X5_join (fun r sh' M'' => r = none ∧ sh' = sh ∧ M'' = (U_X5_join a x1 M)) 82 [some (.ref a), some (.ref x1), none] [.int v0_0, .ref a] sh (setI (setI (setI (setI (setI M a 6 (V_X10_at (x1 + 1) (M.1 a 0) 5 M)) a 4 (V_X5_seenX a (V_X10_at (x1 + 2) (M.1 a 0) 5 (setI M a 6 (V_X10_at (x1 + 1) (M.1 a 0) 5 M))) (setI M a 6 (V_X10_at (x1 + 1) (M.1 a 0) 5 M)))) a 5 (V_X5_seenY a (V_X10_at (x1 + 3) (M.1 a 0) 5 (setI (setI M a 6 (V_X10_at (x1 + 1) (M.1 a 0) 5 M)) a 4 (V_X5_seenX a (V_X10_at (x1 + 2) (M.1 a 0) 5 (setI M a 6 (V_X10_at (x1 + 1) (M.1 a 0) 5 M))) (setI M a 6 (V_X10_at (x1 + 1) (M.1 a 0) 5 M))))) (setI (setI M a 6 (V_X10_at (x1 + 1) (M.1 a 0) 5 M)) a 4 (V_X5_seenX a (V_X10_at (x1 + 2) (M.1 a 0) 5 (setI M a 6 (V_X10_at (x1 + 1) (M.1 a 0) 5 M))) (setI M a 6 (V_X10_at (x1 + 1) (M.1 a 0) 5 M)))))) a 12 (M.1 x1 3)) a 13 (M.1 x1 4)) 0 0 by
    refine r_if_ge e_X5_join_74 (fun h74_0 => ?_) (fun h74_0 => ?_)
    · refine r_iconst e_X5_join_81 ic_0 ?_
      (rw [show v0_0 = (0 : Int32) from (e_v0_0.trans (if_pos h74_0))] at j82_0; exact j82_0)
    · refine r_iconst e_X5_join_77 ic_m1 ?_
      refine r_goto e_X5_join_78 ?_
      (rw [show v0_0 = (-1 : Int32) from (e_v0_0.trans (if_neg h74_0))] at j82_0; exact j82_0)
  refine r_putI e_X5_join_82 fl_X5_27 k3 ?_
  refine r_aload_n e_X5_join_85 rfl ?_
  refine r_iconst e_X5_join_86 ic_0 ?_
  refine r_putZ e_X5_join_87 fl_X5_30 (by first | exact Or.inl rfl | exact Or.inr rfl) k3 ?_
  refine r_iconst e_X5_join_90 ic_0 ?_
  refine p_istore_n_3_2 e_X5_join_91 rfl rfl ?_
  skip
  show WP m_X5_join _ 92 [some (.ref a), some (.ref x1), some (.int (nI 0))] [] sh (setI (setI (setI (setI (setI (setI (setI M a 6 (V_X10_at (x1 + 1) (M.1 a 0) 5 M)) a 4 (V_X5_seenX a (V_X10_at (x1 + 2) (M.1 a 0) 5 (setI M a 6 (V_X10_at (x1 + 1) (M.1 a 0) 5 M))) (setI M a 6 (V_X10_at (x1 + 1) (M.1 a 0) 5 M)))) a 5 (V_X5_seenY a (V_X10_at (x1 + 3) (M.1 a 0) 5 (setI (setI M a 6 (V_X10_at (x1 + 1) (M.1 a 0) 5 M)) a 4 (V_X5_seenX a (V_X10_at (x1 + 2) (M.1 a 0) 5 (setI M a 6 (V_X10_at (x1 + 1) (M.1 a 0) 5 M))) (setI M a 6 (V_X10_at (x1 + 1) (M.1 a 0) 5 M))))) (setI (setI M a 6 (V_X10_at (x1 + 1) (M.1 a 0) 5 M)) a 4 (V_X5_seenX a (V_X10_at (x1 + 2) (M.1 a 0) 5 (setI M a 6 (V_X10_at (x1 + 1) (M.1 a 0) 5 M))) (setI M a 6 (V_X10_at (x1 + 1) (M.1 a 0) 5 M)))))) a 12 (M.1 x1 3)) a 13 (M.1 x1 4)) a 7 v0_0) a 8 (0 : Int32)) 0 0
  refine L_X5_join_92 hb1 hb2 4 0  (setI (setI (setI (setI (setI (setI (setI M a 6 (V_X10_at (x1 + 1) (M.1 a 0) 5 M)) a 4 (V_X5_seenX a (V_X10_at (x1 + 2) (M.1 a 0) 5 (setI M a 6 (V_X10_at (x1 + 1) (M.1 a 0) 5 M))) (setI M a 6 (V_X10_at (x1 + 1) (M.1 a 0) 5 M)))) a 5 (V_X5_seenY a (V_X10_at (x1 + 3) (M.1 a 0) 5 (setI (setI M a 6 (V_X10_at (x1 + 1) (M.1 a 0) 5 M)) a 4 (V_X5_seenX a (V_X10_at (x1 + 2) (M.1 a 0) 5 (setI M a 6 (V_X10_at (x1 + 1) (M.1 a 0) 5 M))) (setI M a 6 (V_X10_at (x1 + 1) (M.1 a 0) 5 M))))) (setI (setI M a 6 (V_X10_at (x1 + 1) (M.1 a 0) 5 M)) a 4 (V_X5_seenX a (V_X10_at (x1 + 2) (M.1 a 0) 5 (setI M a 6 (V_X10_at (x1 + 1) (M.1 a 0) 5 M))) (setI M a 6 (V_X10_at (x1 + 1) (M.1 a 0) 5 M)))))) a 12 (M.1 x1 3)) a 13 (M.1 x1 4)) a 7 v0_0) a 8 (0 : Int32)) (by omega) ?_
  refine r_return e_X5_join_114 rfl ⟨rfl, rfl⟩ ?_
  (subst e_v0_0; refine ⟨?_, rfl, ?_⟩ <;> ((try unfold U_X5_join); (try simp only []); (try rfl)))
def F_X2_freeCell_35 (a : Nat) (x1 : Int32) (x2 : Int32) (i25 : Nat) : Nat → Nat → Int32 → Int32 → Mem → Int32 × Int32
  | 0, i35, u3, u4, M => (u3, u4)
  | n + 1, i35, u3, u4, M => (let v6001_0 : Int32 := if u4 ≤ (V_X10_distance x1 x2 (nI i25) (nI i35) M) then u3 else (if 0 ≤ (V_X2_robotIn a (nI i25) (nI i35) M) then u3 else ((nI i25) + ((15 : Int32) * (nI i35)))); let v6001_1 : Int32 := if u4 ≤ (V_X10_distance x1 x2 (nI i25) (nI i35) M) then u4 else (if 0 ≤ (V_X2_robotIn a (nI i25) (nI i35) M) then u4 else (V_X10_distance x1 x2 (nI i25) (nI i35) M)); (F_X2_freeCell_35 a x1 x2 i25 n (i35 + 1) v6001_0 v6001_1 M))
theorem L_X2_freeCell_35 {sh : List SC} {Q : Po} {a : Nat} {x1 : Int32} {x2 : Int32}   {i25 : Nat} (hb1 : MatchAt sh a)  (hlt_i25 : i25 < 15) : ∀ (n i35 : Nat) (u3 : Int32) (u4 : Int32) (M : Mem), i35 + n = 9 → WP m_X2_freeCell Q 90 [some (.ref a), some (.int x1), some (.int x2), some (.int ((F_X2_freeCell_35 a x1 x2 i25 n i35 u3 u4 M).1)), some (.int ((F_X2_freeCell_35 a x1 x2 i25 n i35 u3 u4 M).2)), some (.int (nI i25)), none, none] [] sh M 0 0 → WP m_X2_freeCell Q 35 [some (.ref a), some (.int x1), some (.int x2), some (.int u3), some (.int u4), some (.int (nI i25)), some (.int (nI i35)), none] [] sh M 0 0 := by
  have k0 : kd sh a = some (2 + 7, 0) := hb1.1
  have hcl_i25 : (nI i25).toNatClampNeg = i25 := nI_clamp (by omega)
  intro n
  induction n with
  | zero =>
    intro i35 u3 u4 M hi hq
    have hz : (9 : Int32) ≤ nI i35 := by
      have q : i35 = 9 := by omega
      rw [q]; exact nI_le (Nat.le_refl _) (by decide)
    refine r_iload e_X2_freeCell_35 rfl ?_
    refine r_bipush e_X2_freeCell_37 bp_9 ?_
    refine r_icmp_ge e_X2_freeCell_39 (fun _ => ?_) (fun hh => absurd hz hh)
    refine d_8_6 ?_
    (simp only [F_X2_freeCell_35] at hq; first | exact hq | (simp only []; exact hq))
  | succ n ih =>
    intro i35 u3 u4 M hi hq
    have hlt_i35 : i35 < 9 := by omega
    have hcl_i35 : (nI i35).toNatClampNeg = i35 := nI_clamp (by omega)
    have hs : ¬ (9 : Int32) ≤ nI i35 := nI_ge (b := 9) hlt_i35 (by decide)
    refine r_iload e_X2_freeCell_35 rfl ?_
    refine r_bipush e_X2_freeCell_37 bp_9 ?_
    refine r_icmp_ge e_X2_freeCell_39 (fun hh => absurd hh hs) (fun _ => ?_)
    refine r_iload_n e_X2_freeCell_42 rfl ?_
    refine r_iload_n e_X2_freeCell_43 rfl ?_
    refine r_iload e_X2_freeCell_44 rfl ?_
    refine r_iload e_X2_freeCell_46 rfl ?_
    refine cSN4v e_X2_freeCell_48 cl_X2_144 ⟨Nat.le_of_ble_eq_true rfl, Nat.le_of_ble_eq_true rfl⟩ ⟨rfl, rfl⟩  (Nat.le_of_ble_eq_true rfl) (S_X10_distance ) ?_
    refine p_istore_8_7 e_X2_freeCell_51 rfl rfl ?_
    refine r_iload e_X2_freeCell_53 rfl ?_
    refine r_iload e_X2_freeCell_55 rfl ?_
    obtain ⟨v6001_0, e_v6001_0⟩ : ∃ z : Int32, z = (if u4 ≤ (V_X10_distance x1 x2 (nI i25) (nI i35) M) then u3 else (if 0 ≤ (V_X2_robotIn a (nI i25) (nI i35) M) then u3 else ((nI i25) + ((15 : Int32) * (nI i35))))) := ⟨_, rfl⟩
    obtain ⟨v6001_1, e_v6001_1⟩ : ∃ z : Int32, z = (if u4 ≤ (V_X10_distance x1 x2 (nI i25) (nI i35) M) then u4 else (if 0 ≤ (V_X2_robotIn a (nI i25) (nI i35) M) then u4 else (V_X10_distance x1 x2 (nI i25) (nI i35) M))) := ⟨_, rfl⟩
    suffices j84_6001 : WP m_X2_freeCell Q 84 [some (.ref a), some (.int x1), some (.int x2), some (.int v6001_0), some (.int v6001_1), some (.int (nI i25)), some (.int (nI i35)), some (.int (V_X10_distance x1 x2 (nI i25) (nI i35) M))] [] sh M 0 0 by
      refine r_icmp_ge e_X2_freeCell_57 (fun h57_6001 => ?_) (fun h57_6001 => ?_)
      · (rw [show v6001_0 = u3 from (e_v6001_0.trans (if_pos h57_6001)), show v6001_1 = u4 from (e_v6001_1.trans (if_pos h57_6001))] at j84_6001; exact j84_6001)
      · refine r_aload_n e_X2_freeCell_60 rfl ?_
        refine r_iload e_X2_freeCell_61 rfl ?_
        refine r_iload e_X2_freeCell_63 rfl ?_
        refine cV2v e_X2_freeCell_65 cl_X2_141 ⟨Nat.le_of_ble_eq_true rfl, Nat.le_of_ble_eq_true rfl⟩ ⟨rfl, rfl⟩ k0 (Nat.le_of_ble_eq_true rfl) (S_X2_robotIn hb1) ?_
        refine r_if_ge e_X2_freeCell_68 (fun h68_6002 => ?_) (fun h68_6002 => ?_)
        · (rw [show v6001_0 = u3 from ((e_v6001_0.trans (if_neg h57_6001)).trans (if_pos h68_6002)), show v6001_1 = u4 from ((e_v6001_1.trans (if_neg h57_6001)).trans (if_pos h68_6002))] at j84_6001; exact j84_6001)
        · refine r_iload e_X2_freeCell_71 rfl ?_
          refine p_istore_8_4 e_X2_freeCell_73 rfl rfl ?_
          refine r_iload e_X2_freeCell_75 rfl ?_
          refine r_bipush e_X2_freeCell_77 bp_15 ?_
          refine r_iload e_X2_freeCell_79 rfl ?_
          refine r_imul e_X2_freeCell_81 ?_
          refine r_iadd e_X2_freeCell_82 ?_
          refine p_istore_n_8_3 e_X2_freeCell_83 rfl rfl ?_
          (rw [show v6001_0 = ((nI i25) + ((15 : Int32) * (nI i35))) from ((e_v6001_0.trans (if_neg h57_6001)).trans (if_neg h68_6002)), show v6001_1 = (V_X10_distance x1 x2 (nI i25) (nI i35) M) from ((e_v6001_1.trans (if_neg h57_6001)).trans (if_neg h68_6002))] at j84_6001; exact j84_6001)
    refine p_iinc_8_6 e_X2_freeCell_84 rfl ic_1 rfl ?_
    rw [nI_1 i35]
    refine r_goto e_X2_freeCell_87 ?_
    refine d_8_7 ?_
    (subst e_v6001_1 e_v6001_0; simp only [F_X2_freeCell_35] at hq; first | exact ih (i35 + 1) _ _ _ (by omega) hq | (simp only []; exact ih (i35 + 1) _ _ _ (by omega) hq))
def F_X2_freeCell_25 (a : Nat) (x1 : Int32) (x2 : Int32) : Nat → Nat → Int32 → Int32 → Mem → Int32 × Int32
  | 0, i25, u3, u4, M => (u3, u4)
  | n + 1, i25, u3, u4, M => (F_X2_freeCell_25 a x1 x2 n (i25 + 1) ((F_X2_freeCell_35 a x1 x2 i25 9 0 u3 u4 M).1) ((F_X2_freeCell_35 a x1 x2 i25 9 0 u3 u4 M).2) M)
theorem L_X2_freeCell_25 {sh : List SC} {Q : Po} {a : Nat} {x1 : Int32} {x2 : Int32}    (hb1 : MatchAt sh a)   : ∀ (n i25 : Nat) (u3 : Int32) (u4 : Int32) (M : Mem), i25 + n = 15 → WP m_X2_freeCell Q 96 [some (.ref a), some (.int x1), some (.int x2), some (.int ((F_X2_freeCell_25 a x1 x2 n i25 u3 u4 M).1)), some (.int ((F_X2_freeCell_25 a x1 x2 n i25 u3 u4 M).2)), none, none, none] [] sh M 0 0 → WP m_X2_freeCell Q 25 [some (.ref a), some (.int x1), some (.int x2), some (.int u3), some (.int u4), some (.int (nI i25)), none, none] [] sh M 0 0 := by
  intro n
  induction n with
  | zero =>
    intro i25 u3 u4 M hi hq
    have hz : (15 : Int32) ≤ nI i25 := by
      have q : i25 = 15 := by omega
      rw [q]; exact nI_le (Nat.le_refl _) (by decide)
    refine r_iload e_X2_freeCell_25 rfl ?_
    refine r_bipush e_X2_freeCell_27 bp_15 ?_
    refine r_icmp_ge e_X2_freeCell_29 (fun _ => ?_) (fun hh => absurd hz hh)
    refine d_8_5 ?_
    (simp only [F_X2_freeCell_25] at hq; first | exact hq | (simp only []; exact hq))
  | succ n ih =>
    intro i25 u3 u4 M hi hq
    have hlt_i25 : i25 < 15 := by omega
    have hcl_i25 : (nI i25).toNatClampNeg = i25 := nI_clamp (by omega)
    have hs : ¬ (15 : Int32) ≤ nI i25 := nI_ge (b := 15) hlt_i25 (by decide)
    refine r_iload e_X2_freeCell_25 rfl ?_
    refine r_bipush e_X2_freeCell_27 bp_15 ?_
    refine r_icmp_ge e_X2_freeCell_29 (fun hh => absurd hh hs) (fun _ => ?_)
    refine r_iconst e_X2_freeCell_32 ic_0 ?_
    refine p_istore_8_6 e_X2_freeCell_33 rfl rfl ?_
    skip
    show WP m_X2_freeCell _ 35 [some (.ref a), some (.int x1), some (.int x2), some (.int u3), some (.int u4), some (.int (nI i25)), some (.int (nI 0)), none] [] sh M 0 0
    refine L_X2_freeCell_35 hb1 hlt_i25 9 0 u3 u4 M (by omega) ?_
    refine p_iinc_8_5 e_X2_freeCell_90 rfl ic_1 rfl ?_
    rw [nI_1 i25]
    refine r_goto e_X2_freeCell_93 ?_
    (simp only [F_X2_freeCell_25] at hq; first | exact ih (i25 + 1) _ _ _ (by omega) hq | (simp only []; exact ih (i25 + 1) _ _ _ (by omega) hq))
def V_X2_freeCell (a : Nat) (x1 : Int32) (x2 : Int32) (M : Mem) : Int32 := if 0 ≤ (V_X2_robotIn a x1 x2 M) then ((F_X2_freeCell_25 a x1 x2 15 0 (0 : Int32) (15 : Int32) M).1) else (x1 + ((15 : Int32) * x2))
theorem S_X2_freeCell {sh : List SC} {M : Mem} {a : Nat} {x1 : Int32} {x2 : Int32}  (hb1 : MatchAt sh a)  : Gv m_X2_freeCell [.ref a, .int x1, .int x2] sh M (.int (V_X2_freeCell a x1 x2 M)) M := by
  refine Sp.of (ls := [some (.ref a), some (.int x1), some (.int x2), none, none, none, none, none]) (by decide +kernel) (Nat.le_of_ble_eq_true rfl) rfl ?_
  have k0 : kd sh a = some (2 + 7, 0) := hb1.1
  refine r_aload_n e_X2_freeCell_0 rfl ?_
  refine r_iload_n e_X2_freeCell_1 rfl ?_
  refine r_iload_n e_X2_freeCell_2 rfl ?_
  refine cV2v e_X2_freeCell_3 cl_X2_141 ⟨Nat.le_of_ble_eq_true rfl, Nat.le_of_ble_eq_true rfl⟩ ⟨rfl, rfl⟩ k0 (Nat.le_of_ble_eq_true rfl) (S_X2_robotIn hb1) ?_
  refine r_if_ge e_X2_freeCell_6 (fun h6_0 => ?_) (fun h6_0 => ?_)
  · refine r_iconst e_X2_freeCell_16 ic_0 ?_
    refine p_istore_n_8_3 e_X2_freeCell_17 rfl rfl ?_
    refine r_bipush e_X2_freeCell_18 bp_15 ?_
    refine p_istore_8_4 e_X2_freeCell_20 rfl rfl ?_
    refine r_iconst e_X2_freeCell_22 ic_0 ?_
    refine p_istore_8_5 e_X2_freeCell_23 rfl rfl ?_
    skip
    show WP m_X2_freeCell _ 25 [some (.ref a), some (.int x1), some (.int x2), some (.int (0 : Int32)), some (.int (15 : Int32)), some (.int (nI 0)), none, none] [] sh M 0 0
    refine L_X2_freeCell_25 hb1 15 0 (0 : Int32) (15 : Int32) M (by omega) ?_
    refine r_iload_n e_X2_freeCell_96 rfl ?_
    refine r_ireturn e_X2_freeCell_97 rfl ⟨rfl, rfl⟩ ?_
    (refine ⟨?_, rfl, ?_⟩ <;> ((try unfold V_X2_freeCell); (try simp only [if_pos h6_0]); (try rfl)))
  · refine r_iload_n e_X2_freeCell_9 rfl ?_
    refine r_bipush e_X2_freeCell_10 bp_15 ?_
    refine r_iload_n e_X2_freeCell_12 rfl ?_
    refine r_imul e_X2_freeCell_13 ?_
    refine r_iadd e_X2_freeCell_14 ?_
    refine r_ireturn e_X2_freeCell_15 rfl ⟨rfl, rfl⟩ ?_
    (refine ⟨?_, rfl, ?_⟩ <;> ((try unfold V_X2_freeCell); (try simp only [if_neg h6_0]); (try rfl)))
def U_X0_lie (a : Nat) (x1 : Int32) (x2 : Int32) (M : Mem) : Mem := setI (U_X0_free a (0 : Int32) (0 : Int32) (0 : Int32) (U_X0_go a x1 x2 M)) a 9 (0 : Int32)
theorem S_X0_lie {sh : List SC} {M : Mem} {a : Nat} {x1 : Int32} {x2 : Int32}  (hb1 : BallAt sh a)  : Gu m_X0_lie [.ref a, .int x1, .int x2] sh M (U_X0_lie a x1 x2 M) := by
  refine Sp.of (ls := [some (.ref a), some (.int x1), some (.int x2)]) (by decide +kernel) (Nat.le_of_ble_eq_true rfl) rfl ?_
  have k0 : kd sh a = some (0 + 7, 0) := hb1.1
  refine r_aload_n e_X0_lie_0 rfl ?_
  refine r_iload_n e_X0_lie_1 rfl ?_
  refine r_iload_n e_X0_lie_2 rfl ?_
  refine cV2u e_X0_lie_3 cl_X0_47 ⟨Nat.le_of_ble_eq_true rfl, Nat.le_of_ble_eq_true rfl⟩ ⟨rfl, rfl⟩ k0 (Nat.le_of_ble_eq_true rfl) (S_X0_go hb1) ?_
  refine r_aload_n e_X0_lie_6 rfl ?_
  refine r_iconst e_X0_lie_7 ic_0 ?_
  refine r_iconst e_X0_lie_8 ic_0 ?_
  refine r_iconst e_X0_lie_9 ic_0 ?_
  refine cV3u e_X0_lie_10 cl_X0_51 ⟨Nat.le_of_ble_eq_true rfl, Nat.le_of_ble_eq_true rfl⟩ ⟨rfl, rfl⟩ k0 (Nat.le_of_ble_eq_true rfl) (S_X0_free hb1) ?_
  refine r_aload_n e_X0_lie_13 rfl ?_
  refine r_iconst e_X0_lie_14 ic_0 ?_
  refine r_putI e_X0_lie_15 fl_X0_37 k0 ?_
  refine r_return e_X0_lie_18 rfl ⟨rfl, rfl⟩ ?_
  (refine ⟨?_, rfl, ?_⟩ <;> ((try unfold U_X0_lie); (try simp only []); (try rfl)))
def F_X0_forget_2 (a : Nat) : Nat → Nat → Mem → Mem
  | 0, i2, M => M
  | n + 1, i2, M => (F_X0_forget_2 a n (i2 + 1) (U_X0_remember a (nI i2) M))
theorem L_X0_forget_2 {sh : List SC} {Q : Po} {a : Nat}    (hb1 : BallAt sh a)   : ∀ (n i2 : Nat) (M : Mem), i2 + n = 4 → WP m_X0_forget Q 18 [some (.ref a), none] [] sh (F_X0_forget_2 a n i2 M) 0 0 → WP m_X0_forget Q 2 [some (.ref a), some (.int (nI i2))] [] sh M 0 0 := by
  have k0 : kd sh a = some (0 + 7, 0) := hb1.1
  intro n
  induction n with
  | zero =>
    intro i2 M hi hq
    have hz : (4 : Int32) ≤ nI i2 := by
      have q : i2 = 4 := by omega
      rw [q]; exact nI_le (Nat.le_refl _) (by decide)
    refine r_iload_n e_X0_forget_2 rfl ?_
    refine r_iconst e_X0_forget_3 ic_4 ?_
    refine r_icmp_ge e_X0_forget_4 (fun _ => ?_) (fun hh => absurd hz hh)
    refine d_2_1 ?_
    (simp only [F_X0_forget_2] at hq; first | exact hq | (simp only []; exact hq))
  | succ n ih =>
    intro i2 M hi hq
    have hlt_i2 : i2 < 4 := by omega
    have hcl_i2 : (nI i2).toNatClampNeg = i2 := nI_clamp (by omega)
    have hs : ¬ (4 : Int32) ≤ nI i2 := nI_ge (b := 4) hlt_i2 (by decide)
    refine r_iload_n e_X0_forget_2 rfl ?_
    refine r_iconst e_X0_forget_3 ic_4 ?_
    refine r_icmp_ge e_X0_forget_4 (fun hh => absurd hh hs) (fun _ => ?_)
    refine r_aload_n e_X0_forget_7 rfl ?_
    refine r_iload_n e_X0_forget_8 rfl ?_
    refine cV1u e_X0_forget_9 cl_X0_61 ⟨Nat.le_of_ble_eq_true rfl, Nat.le_of_ble_eq_true rfl⟩ ⟨rfl, rfl⟩ k0 (Nat.le_of_ble_eq_true rfl) (S_X0_remember hb1) ?_
    refine p_iinc_2_1 e_X0_forget_12 rfl ic_1 rfl ?_
    rw [nI_1 i2]
    refine r_goto e_X0_forget_15 ?_
    (simp only [F_X0_forget_2] at hq; first | exact ih (i2 + 1) _ (by omega) hq | (simp only []; exact ih (i2 + 1) _ (by omega) hq))
def U_X0_forget (a : Nat) (M : Mem) : Mem := (F_X0_forget_2 a 4 0 M)
theorem S_X0_forget {sh : List SC} {M : Mem} {a : Nat}  (hb1 : BallAt sh a)  : Gu m_X0_forget [.ref a] sh M (U_X0_forget a M) := by
  refine Sp.of (ls := [some (.ref a), none]) (by decide +kernel) (Nat.le_of_ble_eq_true rfl) rfl ?_
  refine r_iconst e_X0_forget_0 ic_0 ?_
  refine p_istore_n_2_1 e_X0_forget_1 rfl rfl ?_
  skip
  show WP m_X0_forget _ 2 [some (.ref a), some (.int (nI 0))] [] sh M 0 0
  refine L_X0_forget_2 hb1 4 0  M (by omega) ?_
  refine r_return e_X0_forget_18 rfl ⟨rfl, rfl⟩ ?_
  (refine ⟨?_, rfl, ?_⟩ <;> ((try unfold U_X0_forget); (try simp only []); (try rfl)))
def F_X2_sense_145 (a : Nat) (x1 : Nat) (x2 : Int32) (w4 : Int32) : Nat → Nat → Mem → Mem
  | 0, i145, M => M
  | n + 1, i145, M => (let v14501_0 : Int32 := if (M.1 (a + 10 + 2 * i145) 1) = (M.1 x1 1) then (1 : Int32) else (0 : Int32); let v14502_0 : Int32 := if v14501_0 = 0 then (10 : Int32) else (0 : Int32); let Mc1005 : Mem := U_X10_put (a + 2) (((8 : Int32) + v14502_0) + (M.1 (a + 10 + 2 * i145) 0)) (V_X5_seenX x1 (M.1 (a + 10 + 2 * i145) 2) M) 28 M; let Mc1006 : Mem := U_X10_put (a + 2) ((((8 : Int32) + v14502_0) + (M.1 (a + 10 + 2 * i145) 0)) + (5 : Int32)) (V_X5_seenY x1 (Mc1005.1 (a + 10 + 2 * i145) 3) Mc1005) 28 Mc1005; (F_X2_sense_145 a x1 x2 w4 n (i145 + 1) Mc1006))
theorem L_X2_sense_145 {sh : List SC} {Q : Po} {a : Nat} {x1 : Nat} {x2 : Int32}  {w4 : Int32}  (hb1 : MatchAt sh a) (hb2 : RobotAt sh x1)   : ∀ (n i145 : Nat) (M : Mem), i145 + n = 10 → WP m_X2_sense Q 254 [some (.ref a), some (.ref x1), some (.int x2), some (.ref (a + 2)), some (.int w4), none, none, none] [] sh (F_X2_sense_145 a x1 x2 w4 n i145 M) 0 0 → WP m_X2_sense Q 145 [some (.ref a), some (.ref x1), some (.int x2), some (.ref (a + 2)), some (.int w4), some (.int (nI i145)), none, none] [] sh M 0 0 := by
  have k0 : rf sh (a + 1) 0 = some (a + 2) := hb1.2.2.2.2.2.2.2.2.2.2.2.1.2.1
  have k1 : kd sh (a + 2) = some (0, 28) := hb1.2.2.2.2.2.2.2.2.2.2.2.1.2.2
  have k2 : kd sh a = some (2 + 7, 0) := hb1.1
  have k3 : rf sh a 3 = some (a + 3) := hb1.2.2.2.2.1
  have k4 : kd sh (a + 3) = some (6, 10) := hb1.2.2.2.2.2.2.2.1
  have k5 : kd sh x1 = some (5 + 7, 0) := hb2.1
  intro n
  induction n with
  | zero =>
    intro i145 M hi hq
    have hz : (10 : Int32) ≤ nI i145 := by
      have q : i145 = 10 := by omega
      rw [q]; exact nI_le (Nat.le_refl _) (by decide)
    refine r_iload e_X2_sense_145 rfl ?_
    refine r_aload_n e_X2_sense_147 rfl ?_
    refine r_getR e_X2_sense_148 fl_X2_20 k2 k3 ?_
    refine r_alen (v := (10 : Int32)) e_X2_sense_151 k4 (by decide) rfl ?_
    refine r_icmp_ge e_X2_sense_152 (fun _ => ?_) (fun hh => absurd hz hh)
    refine d_8_5 ?_
    (simp only [F_X2_sense_145] at hq; first | exact hq | (simp only []; exact hq))
  | succ n ih =>
    intro i145 M hi hq
    have hlt_i145 : i145 < 10 := by omega
    have hcl_i145 : (nI i145).toNatClampNeg = i145 := nI_clamp (by omega)
    have hs : ¬ (10 : Int32) ≤ nI i145 := nI_ge (b := 10) hlt_i145 (by decide)
    refine r_iload e_X2_sense_145 rfl ?_
    refine r_aload_n e_X2_sense_147 rfl ?_
    refine r_getR e_X2_sense_148 fl_X2_20 k2 k3 ?_
    refine r_alen (v := (10 : Int32)) e_X2_sense_151 k4 (by decide) rfl ?_
    refine r_icmp_ge e_X2_sense_152 (fun hh => absurd hh hs) (fun _ => ?_)
    refine r_aload_n e_X2_sense_155 rfl ?_
    refine r_getR e_X2_sense_156 fl_X2_20 k2 k3 ?_
    refine r_iload e_X2_sense_159 rfl ?_
    refine r_aaload (b := (a + 10 + 2 * i145)) e_X2_sense_161 k4 ⟨by decide, by decide⟩ (vp_in_nI (Nat.lt_of_lt_of_le hlt_i145 (by decide)) (by decide)) (by rw [hcl_i145]; exact (hb1.2.2.2.2.2.2.2.2.1 i145 (Nat.lt_of_lt_of_le hlt_i145 (by decide))).1) ?_
    refine r_getI e_X2_sense_162 fl_X2_207 i3 (show kd sh (a + 10 + 2 * i145) = some (5 + 7, 0) from (hb1.2.2.2.2.2.2.2.2.1 i145 (Nat.lt_of_lt_of_le hlt_i145 (by decide))).2.1) ?_
    refine r_aload_n e_X2_sense_165 rfl ?_
    refine r_getI e_X2_sense_166 fl_X2_207 i3 k5 ?_
    obtain ⟨v14501_0, e_v14501_0⟩ : ∃ z : Int32, z = (if (M.1 (a + 10 + 2 * i145) 1) = (M.1 x1 1) then (1 : Int32) else (0 : Int32)) := ⟨_, rfl⟩
    have z_v14501_0 : v14501_0 = 0 ∨ v14501_0 = 1 := by rw [e_v14501_0]; exact (zi (Or.inr rfl) (Or.inl rfl))
    suffices j177_14501 : WP m_X2_sense Q 177 [some (.ref a), some (.ref x1), some (.int x2), some (.ref (a + 2)), some (.int w4), some (.int (nI i145)), none, none] [.int v14501_0] sh M 0 0 by
      refine r_icmp_ne e_X2_sense_169 (fun h169_14501 => ?_) (fun h169_14501 => ?_)
      · refine r_iconst e_X2_sense_176 ic_0 ?_
        (rw [show v14501_0 = (0 : Int32) from (e_v14501_0.trans (if_neg h169_14501))] at j177_14501; exact j177_14501)
      · refine r_iconst e_X2_sense_172 ic_1 ?_
        refine r_goto e_X2_sense_173 ?_
        (rw [show v14501_0 = (1 : Int32) from (e_v14501_0.trans (if_pos h169_14501))] at j177_14501; exact j177_14501)
    refine p_istore_8_6 e_X2_sense_177 rfl rfl ?_
    refine r_bipush e_X2_sense_179 bp_8 ?_
    refine r_iload e_X2_sense_181 rfl ?_
    obtain ⟨v14502_0, e_v14502_0⟩ : ∃ z : Int32, z = (if v14501_0 = 0 then (10 : Int32) else (0 : Int32)) := ⟨_, rfl⟩
    suffices j192_14502 : WP m_X2_sense Q 192 [some (.ref a), some (.ref x1), some (.int x2), some (.ref (a + 2)), some (.int w4), some (.int (nI i145)), some (.int v14501_0), none] [.int v14502_0, .int (8 : Int32)] sh M 0 0 by
      refine r_if_eq e_X2_sense_183 (fun h183_14502 => ?_) (fun h183_14502 => ?_)
      · refine r_bipush e_X2_sense_190 bp_10 ?_
        (rw [show v14502_0 = (10 : Int32) from (e_v14502_0.trans (if_pos h183_14502))] at j192_14502; exact j192_14502)
      · refine r_iconst e_X2_sense_186 ic_0 ?_
        refine r_goto e_X2_sense_187 ?_
        (rw [show v14502_0 = (0 : Int32) from (e_v14502_0.trans (if_neg h183_14502))] at j192_14502; exact j192_14502)
    refine r_iadd e_X2_sense_192 ?_
    refine r_aload_n e_X2_sense_193 rfl ?_
    refine r_getR e_X2_sense_194 fl_X2_20 k2 k3 ?_
    refine r_iload e_X2_sense_197 rfl ?_
    refine r_aaload (b := (a + 10 + 2 * i145)) e_X2_sense_199 k4 ⟨by decide, by decide⟩ (vp_in_nI (Nat.lt_of_lt_of_le hlt_i145 (by decide)) (by decide)) (by rw [hcl_i145]; exact (hb1.2.2.2.2.2.2.2.2.1 i145 (Nat.lt_of_lt_of_le hlt_i145 (by decide))).1) ?_
    refine r_getI e_X2_sense_200 fl_X2_210 i0 (show kd sh (a + 10 + 2 * i145) = some (5 + 7, 0) from (hb1.2.2.2.2.2.2.2.2.1 i145 (Nat.lt_of_lt_of_le hlt_i145 (by decide))).2.1) ?_
    refine r_iadd e_X2_sense_203 ?_
    refine p_istore_8_7 e_X2_sense_204 rfl rfl ?_
    refine r_aload_n e_X2_sense_206 rfl ?_
    refine r_iload e_X2_sense_207 rfl ?_
    refine r_aload_n e_X2_sense_209 rfl ?_
    refine r_aload_n e_X2_sense_210 rfl ?_
    refine r_getR e_X2_sense_211 fl_X2_20 k2 k3 ?_
    refine r_iload e_X2_sense_214 rfl ?_
    refine r_aaload (b := (a + 10 + 2 * i145)) e_X2_sense_216 k4 ⟨by decide, by decide⟩ (vp_in_nI (Nat.lt_of_lt_of_le hlt_i145 (by decide)) (by decide)) (by rw [hcl_i145]; exact (hb1.2.2.2.2.2.2.2.2.1 i145 (Nat.lt_of_lt_of_le hlt_i145 (by decide))).1) ?_
    refine r_getI e_X2_sense_217 fl_X2_130 i0 (show kd sh (a + 10 + 2 * i145) = some (5 + 7, 0) from (hb1.2.2.2.2.2.2.2.2.1 i145 (Nat.lt_of_lt_of_le hlt_i145 (by decide))).2.1) ?_
    refine cV1v e_X2_sense_220 cl_X2_185 ⟨Nat.le_of_ble_eq_true rfl, Nat.le_of_ble_eq_true rfl⟩ ⟨rfl, rfl⟩ k5 (Nat.le_of_ble_eq_true rfl) (S_X5_seenX hb2) ?_
    refine cSN3u e_X2_sense_223 cl_X2_188 ⟨Nat.le_of_ble_eq_true rfl, Nat.le_of_ble_eq_true rfl⟩ ⟨rfl, rfl⟩  (Nat.le_of_ble_eq_true rfl) (S_X10_put k1 (by first | decide | (unfold vp_in; decide) | exact Or.inl rfl | exact Or.inr rfl)) ?_
    obtain ⟨Mc1005, e_Mc1005⟩ : ∃ z : Mem, z = (U_X10_put (a + 2) (((8 : Int32) + v14502_0) + (M.1 (a + 10 + 2 * i145) 0)) (V_X5_seenX x1 (M.1 (a + 10 + 2 * i145) 2) M) 28 M) := ⟨_, rfl⟩
    rw [← e_Mc1005]
    refine r_aload_n e_X2_sense_226 rfl ?_
    refine r_iload e_X2_sense_227 rfl ?_
    refine r_iconst e_X2_sense_229 ic_5 ?_
    refine r_iadd e_X2_sense_230 ?_
    refine r_aload_n e_X2_sense_231 rfl ?_
    refine r_aload_n e_X2_sense_232 rfl ?_
    refine r_getR e_X2_sense_233 fl_X2_20 k2 k3 ?_
    refine r_iload e_X2_sense_236 rfl ?_
    refine r_aaload (b := (a + 10 + 2 * i145)) e_X2_sense_238 k4 ⟨by decide, by decide⟩ (vp_in_nI (Nat.lt_of_lt_of_le hlt_i145 (by decide)) (by decide)) (by rw [hcl_i145]; exact (hb1.2.2.2.2.2.2.2.2.1 i145 (Nat.lt_of_lt_of_le hlt_i145 (by decide))).1) ?_
    refine r_getI e_X2_sense_239 fl_X2_131 i0 (show kd sh (a + 10 + 2 * i145) = some (5 + 7, 0) from (hb1.2.2.2.2.2.2.2.2.1 i145 (Nat.lt_of_lt_of_le hlt_i145 (by decide))).2.1) ?_
    refine cV1v e_X2_sense_242 cl_X2_195 ⟨Nat.le_of_ble_eq_true rfl, Nat.le_of_ble_eq_true rfl⟩ ⟨rfl, rfl⟩ k5 (Nat.le_of_ble_eq_true rfl) (S_X5_seenY hb2) ?_
    refine cSN3u e_X2_sense_245 cl_X2_188 ⟨Nat.le_of_ble_eq_true rfl, Nat.le_of_ble_eq_true rfl⟩ ⟨rfl, rfl⟩  (Nat.le_of_ble_eq_true rfl) (S_X10_put k1 (by first | decide | (unfold vp_in; decide) | exact Or.inl rfl | exact Or.inr rfl)) ?_
    obtain ⟨Mc1006, e_Mc1006⟩ : ∃ z : Mem, z = (U_X10_put (a + 2) ((((8 : Int32) + v14502_0) + (M.1 (a + 10 + 2 * i145) 0)) + (5 : Int32)) (V_X5_seenY x1 (Mc1005.1 (a + 10 + 2 * i145) 3) Mc1005) 28 Mc1005) := ⟨_, rfl⟩
    rw [← e_Mc1006]
    refine p_iinc_8_5 e_X2_sense_248 rfl ic_1 rfl ?_
    rw [nI_1 i145]
    refine r_goto e_X2_sense_251 ?_
    refine d_8_6 ?_
    refine d_8_7 ?_
    (subst e_Mc1006 e_Mc1005 e_v14502_0 e_v14501_0; simp only [F_X2_sense_145] at hq; first | exact ih (i145 + 1) _ (by omega) hq | (simp only []; exact ih (i145 + 1) _ (by omega) hq))
def U_X2_sense (a : Nat) (x1 : Nat) (x2 : Int32) (M : Mem) : Mem := (let Mc1 : Mem := U_X10_put (a + 2) (1 : Int32) (V_X5_seenY x1 ((U_X10_put (a + 2) (0 : Int32) (V_X5_seenX x1 (M.1 x1 10) M) 28 M).1 x1 11) (U_X10_put (a + 2) (0 : Int32) (V_X5_seenX x1 (M.1 x1 10) M) 28 M)) 28 (U_X10_put (a + 2) (0 : Int32) (V_X5_seenX x1 (M.1 x1 10) M) 28 M); let Mc2 : Mem := U_X10_put (a + 2) (3 : Int32) (V_X5_seenY x1 ((U_X10_put (a + 2) (2 : Int32) (V_X5_seenX x1 (Mc1.1 x1 2) Mc1) 28 Mc1).1 x1 3) (U_X10_put (a + 2) (2 : Int32) (V_X5_seenX x1 (Mc1.1 x1 2) Mc1) 28 Mc1)) 28 (U_X10_put (a + 2) (2 : Int32) (V_X5_seenX x1 (Mc1.1 x1 2) Mc1) 28 Mc1); let Mc3 : Mem := U_X10_put (a + 2) (5 : Int32) ((U_X10_put (a + 2) (4 : Int32) (V_X2_holding a x2 Mc2) 28 Mc2).1 a 7) 28 (U_X10_put (a + 2) (4 : Int32) (V_X2_holding a x2 Mc2) 28 Mc2); let v0_0 : Int32 := if (Mc3.1 x1 1) = 0 then ((Mc3.1 (a + 7) 0) - (Mc3.1 (a + 7) 1)) else (-((Mc3.1 (a + 7) 0) - (Mc3.1 (a + 7) 1))); let Mc4 : Mem := U_X10_put (a + 2) (7 : Int32) (V_X10_distance ((U_X10_put (a + 2) (6 : Int32) v0_0 28 Mc3).1 x1 2) ((U_X10_put (a + 2) (6 : Int32) v0_0 28 Mc3).1 x1 3) ((U_X10_put (a + 2) (6 : Int32) v0_0 28 Mc3).1 x1 10) ((U_X10_put (a + 2) (6 : Int32) v0_0 28 Mc3).1 x1 11) (U_X10_put (a + 2) (6 : Int32) v0_0 28 Mc3)) 28 (U_X10_put (a + 2) (6 : Int32) v0_0 28 Mc3); (F_X2_sense_145 a x1 x2 ((Mc3.1 (a + 7) 0) - (Mc3.1 (a + 7) 1)) 10 0 Mc4))
theorem S_X2_sense {sh : List SC} {M : Mem} {a : Nat} {x1 : Nat} {x2 : Int32}  (hb1 : MatchAt sh a) (hb2 : RobotAt sh x1)  : Gu m_X2_sense [.ref a, .ref x1, .int x2] sh M (U_X2_sense a x1 x2 M) := by
  refine Sp.of (ls := [some (.ref a), some (.ref x1), some (.int x2), none, none, none, none, none]) (by decide +kernel) (Nat.le_of_ble_eq_true rfl) rfl ?_
  have k0 : kd sh a = some (2 + 7, 0) := hb1.1
  have k1 : rf sh a 2 = some (a + 1) := hb1.2.2.2.1
  have k2 : kd sh (a + 1) = some (6 + 7, 0) := hb1.2.2.2.2.2.2.2.2.2.2.2.1.1
  have k3 : rf sh (a + 1) 0 = some (a + 2) := hb1.2.2.2.2.2.2.2.2.2.2.2.1.2.1
  have k4 : kd sh (a + 2) = some (0, 28) := hb1.2.2.2.2.2.2.2.2.2.2.2.1.2.2
  have k5 : kd sh x1 = some (5 + 7, 0) := hb2.1
  have k6 : rf sh a 5 = some (a + 7) := hb1.2.2.2.2.2.2.1
  have k7 : kd sh (a + 7) = some (7 + 7, 0) := hb1.2.2.2.2.2.2.2.2.2.2.1.1
  refine r_aload_n e_X2_sense_0 rfl ?_
  refine r_getR e_X2_sense_1 fl_X2_12 k0 k1 ?_
  refine r_getR e_X2_sense_4 fl_X2_178 k2 k3 ?_
  refine p_astore_n_8_3 e_X2_sense_7 rfl rfl ?_
  refine r_aload_n e_X2_sense_8 rfl ?_
  refine r_iconst e_X2_sense_9 ic_0 ?_
  refine r_aload_n e_X2_sense_10 rfl ?_
  refine r_aload_n e_X2_sense_11 rfl ?_
  refine r_getI e_X2_sense_12 fl_X2_182 i0 k5 ?_
  refine cV1v e_X2_sense_15 cl_X2_185 ⟨Nat.le_of_ble_eq_true rfl, Nat.le_of_ble_eq_true rfl⟩ ⟨rfl, rfl⟩ k5 (Nat.le_of_ble_eq_true rfl) (S_X5_seenX hb2) ?_
  refine cSN3u e_X2_sense_18 cl_X2_188 ⟨Nat.le_of_ble_eq_true rfl, Nat.le_of_ble_eq_true rfl⟩ ⟨rfl, rfl⟩  (Nat.le_of_ble_eq_true rfl) (S_X10_put k4 (by first | decide | (unfold vp_in; decide) | exact Or.inl rfl | exact Or.inr rfl)) ?_
  refine r_aload_n e_X2_sense_21 rfl ?_
  refine r_iconst e_X2_sense_22 ic_1 ?_
  refine r_aload_n e_X2_sense_23 rfl ?_
  refine r_aload_n e_X2_sense_24 rfl ?_
  refine r_getI e_X2_sense_25 fl_X2_192 i0 k5 ?_
  refine cV1v e_X2_sense_28 cl_X2_195 ⟨Nat.le_of_ble_eq_true rfl, Nat.le_of_ble_eq_true rfl⟩ ⟨rfl, rfl⟩ k5 (Nat.le_of_ble_eq_true rfl) (S_X5_seenY hb2) ?_
  refine cSN3u e_X2_sense_31 cl_X2_188 ⟨Nat.le_of_ble_eq_true rfl, Nat.le_of_ble_eq_true rfl⟩ ⟨rfl, rfl⟩  (Nat.le_of_ble_eq_true rfl) (S_X10_put k4 (by first | decide | (unfold vp_in; decide) | exact Or.inl rfl | exact Or.inr rfl)) ?_
  obtain ⟨Mc1, e_Mc1⟩ : ∃ z : Mem, z = (U_X10_put (a + 2) (1 : Int32) (V_X5_seenY x1 ((U_X10_put (a + 2) (0 : Int32) (V_X5_seenX x1 (M.1 x1 10) M) 28 M).1 x1 11) (U_X10_put (a + 2) (0 : Int32) (V_X5_seenX x1 (M.1 x1 10) M) 28 M)) 28 (U_X10_put (a + 2) (0 : Int32) (V_X5_seenX x1 (M.1 x1 10) M) 28 M)) := ⟨_, rfl⟩
  rw [← e_Mc1]
  refine r_aload_n e_X2_sense_34 rfl ?_
  refine r_iconst e_X2_sense_35 ic_2 ?_
  refine r_aload_n e_X2_sense_36 rfl ?_
  refine r_aload_n e_X2_sense_37 rfl ?_
  refine r_getI e_X2_sense_38 fl_X2_130 i0 k5 ?_
  refine cV1v e_X2_sense_41 cl_X2_185 ⟨Nat.le_of_ble_eq_true rfl, Nat.le_of_ble_eq_true rfl⟩ ⟨rfl, rfl⟩ k5 (Nat.le_of_ble_eq_true rfl) (S_X5_seenX hb2) ?_
  refine cSN3u e_X2_sense_44 cl_X2_188 ⟨Nat.le_of_ble_eq_true rfl, Nat.le_of_ble_eq_true rfl⟩ ⟨rfl, rfl⟩  (Nat.le_of_ble_eq_true rfl) (S_X10_put k4 (by first | decide | (unfold vp_in; decide) | exact Or.inl rfl | exact Or.inr rfl)) ?_
  refine r_aload_n e_X2_sense_47 rfl ?_
  refine r_iconst e_X2_sense_48 ic_3 ?_
  refine r_aload_n e_X2_sense_49 rfl ?_
  refine r_aload_n e_X2_sense_50 rfl ?_
  refine r_getI e_X2_sense_51 fl_X2_131 i0 k5 ?_
  refine cV1v e_X2_sense_54 cl_X2_195 ⟨Nat.le_of_ble_eq_true rfl, Nat.le_of_ble_eq_true rfl⟩ ⟨rfl, rfl⟩ k5 (Nat.le_of_ble_eq_true rfl) (S_X5_seenY hb2) ?_
  refine cSN3u e_X2_sense_57 cl_X2_188 ⟨Nat.le_of_ble_eq_true rfl, Nat.le_of_ble_eq_true rfl⟩ ⟨rfl, rfl⟩  (Nat.le_of_ble_eq_true rfl) (S_X10_put k4 (by first | decide | (unfold vp_in; decide) | exact Or.inl rfl | exact Or.inr rfl)) ?_
  obtain ⟨Mc2, e_Mc2⟩ : ∃ z : Mem, z = (U_X10_put (a + 2) (3 : Int32) (V_X5_seenY x1 ((U_X10_put (a + 2) (2 : Int32) (V_X5_seenX x1 (Mc1.1 x1 2) Mc1) 28 Mc1).1 x1 3) (U_X10_put (a + 2) (2 : Int32) (V_X5_seenX x1 (Mc1.1 x1 2) Mc1) 28 Mc1)) 28 (U_X10_put (a + 2) (2 : Int32) (V_X5_seenX x1 (Mc1.1 x1 2) Mc1) 28 Mc1)) := ⟨_, rfl⟩
  rw [← e_Mc2]
  refine r_aload_n e_X2_sense_60 rfl ?_
  refine r_iconst e_X2_sense_61 ic_4 ?_
  refine r_aload_n e_X2_sense_62 rfl ?_
  refine r_iload_n e_X2_sense_63 rfl ?_
  refine cV1v e_X2_sense_64 cl_X2_198 ⟨Nat.le_of_ble_eq_true rfl, Nat.le_of_ble_eq_true rfl⟩ ⟨rfl, rfl⟩ k0 (Nat.le_of_ble_eq_true rfl) (S_X2_holding hb1) ?_
  refine cSN3u e_X2_sense_67 cl_X2_188 ⟨Nat.le_of_ble_eq_true rfl, Nat.le_of_ble_eq_true rfl⟩ ⟨rfl, rfl⟩  (Nat.le_of_ble_eq_true rfl) (S_X10_put k4 (by first | decide | (unfold vp_in; decide) | exact Or.inl rfl | exact Or.inr rfl)) ?_
  refine r_aload_n e_X2_sense_70 rfl ?_
  refine r_iconst e_X2_sense_71 ic_5 ?_
  refine r_aload_n e_X2_sense_72 rfl ?_
  refine r_getI e_X2_sense_73 fl_X2_42 i0 k0 ?_
  refine cSN3u e_X2_sense_76 cl_X2_188 ⟨Nat.le_of_ble_eq_true rfl, Nat.le_of_ble_eq_true rfl⟩ ⟨rfl, rfl⟩  (Nat.le_of_ble_eq_true rfl) (S_X10_put k4 (by first | decide | (unfold vp_in; decide) | exact Or.inl rfl | exact Or.inr rfl)) ?_
  obtain ⟨Mc3, e_Mc3⟩ : ∃ z : Mem, z = (U_X10_put (a + 2) (5 : Int32) ((U_X10_put (a + 2) (4 : Int32) (V_X2_holding a x2 Mc2) 28 Mc2).1 a 7) 28 (U_X10_put (a + 2) (4 : Int32) (V_X2_holding a x2 Mc2) 28 Mc2)) := ⟨_, rfl⟩
  rw [← e_Mc3]
  refine r_aload_n e_X2_sense_79 rfl ?_
  refine r_getR e_X2_sense_80 fl_X2_34 k0 k6 ?_
  refine r_getI e_X2_sense_83 fl_X2_201 i0 k7 ?_
  refine r_aload_n e_X2_sense_86 rfl ?_
  refine r_getR e_X2_sense_87 fl_X2_34 k0 k6 ?_
  refine r_getI e_X2_sense_90 fl_X2_204 i0 k7 ?_
  refine r_isub e_X2_sense_93 ?_
  refine p_istore_8_4 e_X2_sense_94 rfl rfl ?_
  refine r_aload_n e_X2_sense_96 rfl ?_
  refine r_bipush e_X2_sense_97 bp_6 ?_
  refine r_aload_n e_X2_sense_99 rfl ?_
  refine r_getI e_X2_sense_100 fl_X2_207 i3 k5 ?_
  obtain ⟨v0_0, e_v0_0⟩ : ∃ z : Int32, z = (if (Mc3.1 x1 1) = 0 then ((Mc3.1 (a + 7) 0) - (Mc3.1 (a + 7) 1)) else (-((Mc3.1 (a + 7) 0) - (Mc3.1 (a + 7) 1)))) := ⟨_, rfl⟩
  suffices j114_0 : WP m_X2_sense (fun r sh' M'' => r = none ∧ sh' = sh ∧ M'' = (U_X2_sense a x1 x2 M)) 114 [some (.ref a), some (.ref x1), some (.int x2), some (.ref (a + 2)), some (.int ((Mc3.1 (a + 7) 0) - (Mc3.1 (a + 7) 1))), none, none, none] [.int v0_0, .int (6 : Int32), .ref (a + 2)] sh Mc3 0 0 by
    refine r_if_eq e_X2_sense_103 (fun h103_0 => ?_) (fun h103_0 => ?_)
    · refine r_iload e_X2_sense_112 rfl ?_
      (rw [show v0_0 = ((Mc3.1 (a + 7) 0) - (Mc3.1 (a + 7) 1)) from (e_v0_0.trans (if_pos h103_0))] at j114_0; exact j114_0)
    · refine r_iload e_X2_sense_106 rfl ?_
      refine r_ineg e_X2_sense_108 ?_
      refine r_goto e_X2_sense_109 ?_
      (rw [show v0_0 = (-((Mc3.1 (a + 7) 0) - (Mc3.1 (a + 7) 1))) from (e_v0_0.trans (if_neg h103_0))] at j114_0; exact j114_0)
  refine cSN3u e_X2_sense_114 cl_X2_188 ⟨Nat.le_of_ble_eq_true rfl, Nat.le_of_ble_eq_true rfl⟩ ⟨rfl, rfl⟩  (Nat.le_of_ble_eq_true rfl) (S_X10_put k4 (by first | decide | (unfold vp_in; decide) | exact Or.inl rfl | exact Or.inr rfl)) ?_
  refine r_aload_n e_X2_sense_117 rfl ?_
  refine r_bipush e_X2_sense_118 bp_7 ?_
  refine r_aload_n e_X2_sense_120 rfl ?_
  refine r_getI e_X2_sense_121 fl_X2_130 i0 k5 ?_
  refine r_aload_n e_X2_sense_124 rfl ?_
  refine r_getI e_X2_sense_125 fl_X2_131 i0 k5 ?_
  refine r_aload_n e_X2_sense_128 rfl ?_
  refine r_getI e_X2_sense_129 fl_X2_182 i0 k5 ?_
  refine r_aload_n e_X2_sense_132 rfl ?_
  refine r_getI e_X2_sense_133 fl_X2_192 i0 k5 ?_
  refine cSN4v e_X2_sense_136 cl_X2_144 ⟨Nat.le_of_ble_eq_true rfl, Nat.le_of_ble_eq_true rfl⟩ ⟨rfl, rfl⟩  (Nat.le_of_ble_eq_true rfl) (S_X10_distance ) ?_
  refine cSN3u e_X2_sense_139 cl_X2_188 ⟨Nat.le_of_ble_eq_true rfl, Nat.le_of_ble_eq_true rfl⟩ ⟨rfl, rfl⟩  (Nat.le_of_ble_eq_true rfl) (S_X10_put k4 (by first | decide | (unfold vp_in; decide) | exact Or.inl rfl | exact Or.inr rfl)) ?_
  obtain ⟨Mc4, e_Mc4⟩ : ∃ z : Mem, z = (U_X10_put (a + 2) (7 : Int32) (V_X10_distance ((U_X10_put (a + 2) (6 : Int32) v0_0 28 Mc3).1 x1 2) ((U_X10_put (a + 2) (6 : Int32) v0_0 28 Mc3).1 x1 3) ((U_X10_put (a + 2) (6 : Int32) v0_0 28 Mc3).1 x1 10) ((U_X10_put (a + 2) (6 : Int32) v0_0 28 Mc3).1 x1 11) (U_X10_put (a + 2) (6 : Int32) v0_0 28 Mc3)) 28 (U_X10_put (a + 2) (6 : Int32) v0_0 28 Mc3)) := ⟨_, rfl⟩
  rw [← e_Mc4]
  refine r_iconst e_X2_sense_142 ic_0 ?_
  refine p_istore_8_5 e_X2_sense_143 rfl rfl ?_
  skip
  show WP m_X2_sense _ 145 [some (.ref a), some (.ref x1), some (.int x2), some (.ref (a + 2)), some (.int ((Mc3.1 (a + 7) 0) - (Mc3.1 (a + 7) 1))), some (.int (nI 0)), none, none] [] sh Mc4 0 0
  refine L_X2_sense_145 hb1 hb2 10 0  Mc4 (by omega) ?_
  refine r_return e_X2_sense_254 rfl ⟨rfl, rfl⟩ ?_
  (subst e_Mc4 e_v0_0 e_Mc3 e_Mc2 e_Mc1; refine ⟨?_, rfl, ?_⟩ <;> ((try unfold U_X2_sense); (try simp only []); (try rfl)))
def F_X6_allHold_25 (a : Nat) (x1 : Nat) (x2 : Int32) (x3 : Nat) (n1 : Nat) (w5 : Int32) : Nat → Int32 → Int32 → Mem → Int32 × Int32 × Mem
  | 0, u4, u6, M => (u4, u6, M)
  | n + 1, u4, u6, M => if w5 ≤ u6 then (u4, u6, M) else (if u4 = 0 then (u4, u6, M) else (let Mc1001 : Mem := U_X6_work a x1 (V_X10_at (x1 + 6) u6 400 (setI M a 1 ((M.1 a 1) + (1 : Int32)))) x3 n1 (setI M a 1 ((M.1 a 1) + (1 : Int32))); let v2502_0 : Int32 := if (V_X10_at (x1 + 5) u6 400 (U_X6_work a x1 ((V_X10_at (x1 + 6) u6 400 (setI M a 1 ((M.1 a 1) + (1 : Int32)))) + (1 : Int32)) x3 n1 Mc1001)) = (29 : Int32) then (if (V_X6_work a x1 ((V_X10_at (x1 + 6) u6 400 (setI M a 1 ((M.1 a 1) + (1 : Int32)))) + (1 : Int32)) x3 n1 Mc1001) ≤ (V_X6_work a x1 (V_X10_at (x1 + 6) u6 400 (setI M a 1 ((M.1 a 1) + (1 : Int32)))) x3 n1 (setI M a 1 ((M.1 a 1) + (1 : Int32)))) then (0 : Int32) else (1 : Int32)) else (if (V_X10_at (x1 + 5) u6 400 (U_X6_work a x1 ((V_X10_at (x1 + 6) u6 400 (setI M a 1 ((M.1 a 1) + (1 : Int32)))) + (1 : Int32)) x3 n1 Mc1001)) = (31 : Int32) then (if (V_X6_work a x1 (V_X10_at (x1 + 6) u6 400 (setI M a 1 ((M.1 a 1) + (1 : Int32)))) x3 n1 (setI M a 1 ((M.1 a 1) + (1 : Int32)))) ≤ (V_X6_work a x1 ((V_X10_at (x1 + 6) u6 400 (setI M a 1 ((M.1 a 1) + (1 : Int32)))) + (1 : Int32)) x3 n1 Mc1001) then (0 : Int32) else (1 : Int32)) else (if (V_X6_work a x1 (V_X10_at (x1 + 6) u6 400 (setI M a 1 ((M.1 a 1) + (1 : Int32)))) x3 n1 (setI M a 1 ((M.1 a 1) + (1 : Int32)))) = (V_X6_work a x1 ((V_X10_at (x1 + 6) u6 400 (setI M a 1 ((M.1 a 1) + (1 : Int32)))) + (1 : Int32)) x3 n1 Mc1001) then (1 : Int32) else (0 : Int32))); let v2507_0 : Int32 := if v2502_0 = 0 then (0 : Int32) else (if (80 : Int32) < ((U_X6_work a x1 ((V_X10_at (x1 + 6) u6 400 (setI M a 1 ((M.1 a 1) + (1 : Int32)))) + (1 : Int32)) x3 n1 Mc1001).1 a 1) then (0 : Int32) else (1 : Int32)); (F_X6_allHold_25 a x1 x2 x3 n1 w5 n v2507_0 (u6 + 1) (U_X6_work a x1 ((V_X10_at (x1 + 6) u6 400 (setI M a 1 ((M.1 a 1) + (1 : Int32)))) + (1 : Int32)) x3 n1 Mc1001))))
def T_X6_allHold_25 (a : Nat) (x1 : Nat) (x2 : Int32) (x3 : Nat) (n1 : Nat) (w5 : Int32) : Nat → Int32 → Int32 → Mem → Prop
  | 0, u4, u6, M => False
  | n + 1, u4, u6, M => (P_X6_work a x1 (V_X10_at (x1 + 6) u6 400 (setI M a 1 ((M.1 a 1) + (1 : Int32)))) x3 n1 (setI M a 1 ((M.1 a 1) + (1 : Int32)))) ∧ (P_X6_work a x1 ((V_X10_at (x1 + 6) u6 400 (setI M a 1 ((M.1 a 1) + (1 : Int32)))) + (1 : Int32)) x3 n1 (U_X6_work a x1 (V_X10_at (x1 + 6) u6 400 (setI M a 1 ((M.1 a 1) + (1 : Int32)))) x3 n1 (setI M a 1 ((M.1 a 1) + (1 : Int32))))) ∧ (if w5 ≤ u6 then True else (if u4 = 0 then True else (let Mc1001 : Mem := U_X6_work a x1 (V_X10_at (x1 + 6) u6 400 (setI M a 1 ((M.1 a 1) + (1 : Int32)))) x3 n1 (setI M a 1 ((M.1 a 1) + (1 : Int32))); let v2502_0 : Int32 := if (V_X10_at (x1 + 5) u6 400 (U_X6_work a x1 ((V_X10_at (x1 + 6) u6 400 (setI M a 1 ((M.1 a 1) + (1 : Int32)))) + (1 : Int32)) x3 n1 Mc1001)) = (29 : Int32) then (if (V_X6_work a x1 ((V_X10_at (x1 + 6) u6 400 (setI M a 1 ((M.1 a 1) + (1 : Int32)))) + (1 : Int32)) x3 n1 Mc1001) ≤ (V_X6_work a x1 (V_X10_at (x1 + 6) u6 400 (setI M a 1 ((M.1 a 1) + (1 : Int32)))) x3 n1 (setI M a 1 ((M.1 a 1) + (1 : Int32)))) then (0 : Int32) else (1 : Int32)) else (if (V_X10_at (x1 + 5) u6 400 (U_X6_work a x1 ((V_X10_at (x1 + 6) u6 400 (setI M a 1 ((M.1 a 1) + (1 : Int32)))) + (1 : Int32)) x3 n1 Mc1001)) = (31 : Int32) then (if (V_X6_work a x1 (V_X10_at (x1 + 6) u6 400 (setI M a 1 ((M.1 a 1) + (1 : Int32)))) x3 n1 (setI M a 1 ((M.1 a 1) + (1 : Int32)))) ≤ (V_X6_work a x1 ((V_X10_at (x1 + 6) u6 400 (setI M a 1 ((M.1 a 1) + (1 : Int32)))) + (1 : Int32)) x3 n1 Mc1001) then (0 : Int32) else (1 : Int32)) else (if (V_X6_work a x1 (V_X10_at (x1 + 6) u6 400 (setI M a 1 ((M.1 a 1) + (1 : Int32)))) x3 n1 (setI M a 1 ((M.1 a 1) + (1 : Int32)))) = (V_X6_work a x1 ((V_X10_at (x1 + 6) u6 400 (setI M a 1 ((M.1 a 1) + (1 : Int32)))) + (1 : Int32)) x3 n1 Mc1001) then (1 : Int32) else (0 : Int32))); let v2507_0 : Int32 := if v2502_0 = 0 then (0 : Int32) else (if (80 : Int32) < ((U_X6_work a x1 ((V_X10_at (x1 + 6) u6 400 (setI M a 1 ((M.1 a 1) + (1 : Int32)))) + (1 : Int32)) x3 n1 Mc1001).1 a 1) then (0 : Int32) else (1 : Int32)); (T_X6_allHold_25 a x1 x2 x3 n1 w5 n v2507_0 (u6 + 1) (U_X6_work a x1 ((V_X10_at (x1 + 6) u6 400 (setI M a 1 ((M.1 a 1) + (1 : Int32)))) + (1 : Int32)) x3 n1 Mc1001)))))
theorem L_X6_allHold_25 {sh : List SC} {Q : Po} {a : Nat} {x1 : Nat} {x2 : Int32} {x3 : Nat} {n1 : Nat} {w5 : Int32}  (hb1 : RunnerAt sh a) (hb2 : ProgramAt sh x1) (g1 : kd sh x3 = some (0, n1))  : ∀ (n : Nat) (u4 : Int32) (u6 : Int32) (M : Mem), T_X6_allHold_25 a x1 x2 x3 n1 w5 n u4 u6 M → WP m_X6_allHold Q 176 [some (.ref a), some (.ref x1), some (.int x2), some (.ref x3), some (.int ((F_X6_allHold_25 a x1 x2 x3 n1 w5 n u4 u6 M).1)), some (.int w5), some (.int ((F_X6_allHold_25 a x1 x2 x3 n1 w5 n u4 u6 M).2.1)), none, none, none, none] [] sh ((F_X6_allHold_25 a x1 x2 x3 n1 w5 n u4 u6 M).2.2) 0 0 → WP m_X6_allHold Q 25 [some (.ref a), some (.ref x1), some (.int x2), some (.ref x3), some (.int u4), some (.int w5), some (.int u6), none, none, none, none] [] sh M 0 0 := by
  have k0 : kd sh a = some (6 + 7, 0) := hb1.1
  have k1 : kd sh x1 = some (3 + 7, 0) := hb2.1
  have k2 : rf sh x1 8 = some (x1 + 6) := hb2.2.2.2.2.2.2.1
  have k3 : kd sh (x1 + 6) = some (0, 400) := hb2.2.2.2.2.2.2.2.2.2.2.2.2.2.2.2.2.2.2.2.2.1
  have k4 : rf sh x1 7 = some (x1 + 5) := hb2.2.2.2.2.2.1
  have k5 : kd sh (x1 + 5) = some (0, 400) := hb2.2.2.2.2.2.2.2.2.2.2.2.2.2.2.2.2.2.2.2.1
  intro n
  induction n with
  | zero =>
    intro u4 u6 M hH hq
    exact hH.elim
  | succ n ih =>
    intro u4 u6 M hH hq
    unfold T_X6_allHold_25 at hH
    obtain ⟨g2, g3, hH⟩ := hH
    refine r_iload e_X6_allHold_25 rfl ?_
    refine r_iload e_X6_allHold_27 rfl ?_
    refine r_icmp_ge e_X6_allHold_29 (fun h29_2500 => ?_) (fun h29_2500 => ?_)
    · (simp only [F_X6_allHold_25, if_pos h29_2500] at hq; first | exact hq | (simp only [if_pos h29_2500]; exact hq))
    · refine r_iload e_X6_allHold_32 rfl ?_
      refine r_if_eq e_X6_allHold_34 (fun h34_2501 => ?_) (fun h34_2501 => ?_)
      · (simp only [F_X6_allHold_25, if_neg h29_2500, if_pos h34_2501] at hq; first | exact hq | (simp only [if_neg h29_2500, if_pos h34_2501]; exact hq))
      · refine r_aload_n e_X6_allHold_37 rfl ?_
        refine r_dup e_X6_allHold_38 rfl ?_
        refine r_getI e_X6_allHold_39 fl_X6_15 i0 k0 ?_
        refine r_iconst e_X6_allHold_42 ic_1 ?_
        refine r_iadd e_X6_allHold_43 ?_
        refine r_putI e_X6_allHold_44 fl_X6_15 k0 ?_
        refine r_aload_n e_X6_allHold_47 rfl ?_
        refine r_getR e_X6_allHold_48 fl_X6_58 k1 k2 ?_
        refine r_iload e_X6_allHold_51 rfl ?_
        refine cSN2v e_X6_allHold_53 cl_X6_32 ⟨Nat.le_of_ble_eq_true rfl, Nat.le_of_ble_eq_true rfl⟩ ⟨rfl, rfl⟩  (Nat.le_of_ble_eq_true rfl) (S_X10_at k3 (by first | decide | (unfold vp_in; decide) | exact Or.inl rfl | exact Or.inr rfl)) ?_
        refine p_istore_11_7 e_X6_allHold_56 rfl rfl ?_
        refine r_aload_n e_X6_allHold_58 rfl ?_
        refine r_aload_n e_X6_allHold_59 rfl ?_
        refine r_iload e_X6_allHold_60 rfl ?_
        refine r_aload_n e_X6_allHold_62 rfl ?_
        refine cV3v e_X6_allHold_63 cl_X6_61 ⟨Nat.le_of_ble_eq_true rfl, Nat.le_of_ble_eq_true rfl⟩ ⟨rfl, rfl⟩ k0 (Nat.le_of_ble_eq_true rfl) (S_X6_work hb1 hb2 g1 g2) ?_
        obtain ⟨Mc1001, e_Mc1001⟩ : ∃ z : Mem, z = (U_X6_work a x1 (V_X10_at (x1 + 6) u6 400 (setI M a 1 ((M.1 a 1) + (1 : Int32)))) x3 n1 (setI M a 1 ((M.1 a 1) + (1 : Int32)))) := ⟨_, rfl⟩
        rw [← e_Mc1001]
        refine p_istore_11_8 e_X6_allHold_66 rfl rfl ?_
        refine r_aload_n e_X6_allHold_68 rfl ?_
        refine r_aload_n e_X6_allHold_69 rfl ?_
        refine r_iload e_X6_allHold_70 rfl ?_
        refine r_iconst e_X6_allHold_72 ic_1 ?_
        refine r_iadd e_X6_allHold_73 ?_
        refine r_aload_n e_X6_allHold_74 rfl ?_
        refine cV3v e_X6_allHold_75 cl_X6_61 ⟨Nat.le_of_ble_eq_true rfl, Nat.le_of_ble_eq_true rfl⟩ ⟨rfl, rfl⟩ k0 (Nat.le_of_ble_eq_true rfl) (S_X6_work hb1 hb2 g1 (by subst e_Mc1001; exact g3 )) ?_
        refine p_istore_11_9 e_X6_allHold_78 rfl rfl ?_
        refine r_aload_n e_X6_allHold_80 rfl ?_
        refine r_getR e_X6_allHold_81 fl_X6_65 k1 k4 ?_
        refine r_iload e_X6_allHold_84 rfl ?_
        refine cSN2v e_X6_allHold_86 cl_X6_32 ⟨Nat.le_of_ble_eq_true rfl, Nat.le_of_ble_eq_true rfl⟩ ⟨rfl, rfl⟩  (Nat.le_of_ble_eq_true rfl) (S_X10_at k5 (by first | decide | (unfold vp_in; decide) | exact Or.inl rfl | exact Or.inr rfl)) ?_
        refine p_istore_11_10 e_X6_allHold_89 rfl rfl ?_
        refine r_iload e_X6_allHold_91 rfl ?_
        refine r_bipush e_X6_allHold_93 bp_29 ?_
        obtain ⟨v2502_0, e_v2502_0⟩ : ∃ z : Int32, z = (if (V_X10_at (x1 + 5) u6 400 (U_X6_work a x1 ((V_X10_at (x1 + 6) u6 400 (setI M a 1 ((M.1 a 1) + (1 : Int32)))) + (1 : Int32)) x3 n1 Mc1001)) = (29 : Int32) then (if (V_X6_work a x1 ((V_X10_at (x1 + 6) u6 400 (setI M a 1 ((M.1 a 1) + (1 : Int32)))) + (1 : Int32)) x3 n1 Mc1001) ≤ (V_X6_work a x1 (V_X10_at (x1 + 6) u6 400 (setI M a 1 ((M.1 a 1) + (1 : Int32)))) x3 n1 (setI M a 1 ((M.1 a 1) + (1 : Int32)))) then (0 : Int32) else (1 : Int32)) else (if (V_X10_at (x1 + 5) u6 400 (U_X6_work a x1 ((V_X10_at (x1 + 6) u6 400 (setI M a 1 ((M.1 a 1) + (1 : Int32)))) + (1 : Int32)) x3 n1 Mc1001)) = (31 : Int32) then (if (V_X6_work a x1 (V_X10_at (x1 + 6) u6 400 (setI M a 1 ((M.1 a 1) + (1 : Int32)))) x3 n1 (setI M a 1 ((M.1 a 1) + (1 : Int32)))) ≤ (V_X6_work a x1 ((V_X10_at (x1 + 6) u6 400 (setI M a 1 ((M.1 a 1) + (1 : Int32)))) + (1 : Int32)) x3 n1 Mc1001) then (0 : Int32) else (1 : Int32)) else (if (V_X6_work a x1 (V_X10_at (x1 + 6) u6 400 (setI M a 1 ((M.1 a 1) + (1 : Int32)))) x3 n1 (setI M a 1 ((M.1 a 1) + (1 : Int32)))) = (V_X6_work a x1 ((V_X10_at (x1 + 6) u6 400 (setI M a 1 ((M.1 a 1) + (1 : Int32)))) + (1 : Int32)) x3 n1 Mc1001) then (1 : Int32) else (0 : Int32)))) := ⟨_, rfl⟩
        have z_v2502_0 : v2502_0 = 0 ∨ v2502_0 = 1 := by rw [e_v2502_0]; exact (zi (zi (Or.inl rfl) (Or.inr rfl)) (zi (zi (Or.inl rfl) (Or.inr rfl)) (zi (Or.inr rfl) (Or.inl rfl))))
        suffices j147_2502 : WP m_X6_allHold Q 147 [some (.ref a), some (.ref x1), some (.int x2), some (.ref x3), some (.int u4), some (.int w5), some (.int u6), some (.int (V_X10_at (x1 + 6) u6 400 (setI M a 1 ((M.1 a 1) + (1 : Int32))))), some (.int (V_X6_work a x1 (V_X10_at (x1 + 6) u6 400 (setI M a 1 ((M.1 a 1) + (1 : Int32)))) x3 n1 (setI M a 1 ((M.1 a 1) + (1 : Int32))))), some (.int (V_X6_work a x1 ((V_X10_at (x1 + 6) u6 400 (setI M a 1 ((M.1 a 1) + (1 : Int32)))) + (1 : Int32)) x3 n1 Mc1001)), some (.int (V_X10_at (x1 + 5) u6 400 (U_X6_work a x1 ((V_X10_at (x1 + 6) u6 400 (setI M a 1 ((M.1 a 1) + (1 : Int32)))) + (1 : Int32)) x3 n1 Mc1001)))] [.int v2502_0] sh (U_X6_work a x1 ((V_X10_at (x1 + 6) u6 400 (setI M a 1 ((M.1 a 1) + (1 : Int32)))) + (1 : Int32)) x3 n1 Mc1001) 0 0 by
          refine r_icmp_ne e_X6_allHold_95 (fun h95_2502 => ?_) (fun h95_2502 => ?_)
          · refine r_iload e_X6_allHold_113 rfl ?_
            refine r_bipush e_X6_allHold_115 bp_31 ?_
            refine r_icmp_ne e_X6_allHold_117 (fun h117_2503 => ?_) (fun h117_2503 => ?_)
            · refine r_iload e_X6_allHold_135 rfl ?_
              refine r_iload e_X6_allHold_137 rfl ?_
              refine r_icmp_ne e_X6_allHold_139 (fun h139_2504 => ?_) (fun h139_2504 => ?_)
              · refine r_iconst e_X6_allHold_146 ic_0 ?_
                (rw [show v2502_0 = (0 : Int32) from (((e_v2502_0.trans (if_neg h95_2502)).trans (if_neg h117_2503)).trans (if_neg h139_2504))] at j147_2502; exact j147_2502)
              · refine r_iconst e_X6_allHold_142 ic_1 ?_
                refine r_goto e_X6_allHold_143 ?_
                (rw [show v2502_0 = (1 : Int32) from (((e_v2502_0.trans (if_neg h95_2502)).trans (if_neg h117_2503)).trans (if_pos h139_2504))] at j147_2502; exact j147_2502)
            · refine r_iload e_X6_allHold_120 rfl ?_
              refine r_iload e_X6_allHold_122 rfl ?_
              refine r_icmp_le e_X6_allHold_124 (fun h124_2505 => ?_) (fun h124_2505 => ?_)
              · refine r_iconst e_X6_allHold_131 ic_0 ?_
                refine r_goto e_X6_allHold_132 ?_
                (rw [show v2502_0 = (0 : Int32) from (((e_v2502_0.trans (if_neg h95_2502)).trans (if_pos h117_2503)).trans (if_pos h124_2505))] at j147_2502; exact j147_2502)
              · refine r_iconst e_X6_allHold_127 ic_1 ?_
                refine r_goto e_X6_allHold_128 ?_
                (rw [show v2502_0 = (1 : Int32) from (((e_v2502_0.trans (if_neg h95_2502)).trans (if_pos h117_2503)).trans (if_neg h124_2505))] at j147_2502; exact j147_2502)
          · refine r_iload e_X6_allHold_98 rfl ?_
            refine r_iload e_X6_allHold_100 rfl ?_
            refine r_icmp_ge e_X6_allHold_102 (fun h102_2506 => ?_) (fun h102_2506 => ?_)
            · refine r_iconst e_X6_allHold_109 ic_0 ?_
              refine r_goto e_X6_allHold_110 ?_
              (rw [show v2502_0 = (0 : Int32) from ((e_v2502_0.trans (if_pos h95_2502)).trans (if_pos h102_2506))] at j147_2502; exact j147_2502)
            · refine r_iconst e_X6_allHold_105 ic_1 ?_
              refine r_goto e_X6_allHold_106 ?_
              (rw [show v2502_0 = (1 : Int32) from ((e_v2502_0.trans (if_pos h95_2502)).trans (if_neg h102_2506))] at j147_2502; exact j147_2502)
        refine p_istore_11_4 e_X6_allHold_147 rfl rfl ?_
        refine r_iload e_X6_allHold_149 rfl ?_
        obtain ⟨v2507_0, e_v2507_0⟩ : ∃ z : Int32, z = (if v2502_0 = 0 then (0 : Int32) else (if (80 : Int32) < ((U_X6_work a x1 ((V_X10_at (x1 + 6) u6 400 (setI M a 1 ((M.1 a 1) + (1 : Int32)))) + (1 : Int32)) x3 n1 Mc1001).1 a 1) then (0 : Int32) else (1 : Int32))) := ⟨_, rfl⟩
        have z_v2507_0 : v2507_0 = 0 ∨ v2507_0 = 1 := by rw [e_v2507_0]; exact (zi (Or.inl rfl) (zi (Or.inl rfl) (Or.inr rfl)))
        suffices j168_2507 : WP m_X6_allHold Q 168 [some (.ref a), some (.ref x1), some (.int x2), some (.ref x3), some (.int v2502_0), some (.int w5), some (.int u6), some (.int (V_X10_at (x1 + 6) u6 400 (setI M a 1 ((M.1 a 1) + (1 : Int32))))), some (.int (V_X6_work a x1 (V_X10_at (x1 + 6) u6 400 (setI M a 1 ((M.1 a 1) + (1 : Int32)))) x3 n1 (setI M a 1 ((M.1 a 1) + (1 : Int32))))), some (.int (V_X6_work a x1 ((V_X10_at (x1 + 6) u6 400 (setI M a 1 ((M.1 a 1) + (1 : Int32)))) + (1 : Int32)) x3 n1 Mc1001)), some (.int (V_X10_at (x1 + 5) u6 400 (U_X6_work a x1 ((V_X10_at (x1 + 6) u6 400 (setI M a 1 ((M.1 a 1) + (1 : Int32)))) + (1 : Int32)) x3 n1 Mc1001)))] [.int v2507_0] sh (U_X6_work a x1 ((V_X10_at (x1 + 6) u6 400 (setI M a 1 ((M.1 a 1) + (1 : Int32)))) + (1 : Int32)) x3 n1 Mc1001) 0 0 by
          refine r_if_eq e_X6_allHold_151 (fun h151_2507 => ?_) (fun h151_2507 => ?_)
          · refine r_iconst e_X6_allHold_167 ic_0 ?_
            (rw [show v2507_0 = (0 : Int32) from (e_v2507_0.trans (if_pos h151_2507))] at j168_2507; exact j168_2507)
          · refine r_aload_n e_X6_allHold_154 rfl ?_
            refine r_getI e_X6_allHold_155 fl_X6_15 i0 k0 ?_
            refine r_bipush e_X6_allHold_158 bp_80 ?_
            refine r_icmp_gt e_X6_allHold_160 (fun h160_2508 => ?_) (fun h160_2508 => ?_)
            · refine r_iconst e_X6_allHold_167 ic_0 ?_
              (rw [show v2507_0 = (0 : Int32) from ((e_v2507_0.trans (if_neg h151_2507)).trans (if_pos h160_2508))] at j168_2507; exact j168_2507)
            · refine r_iconst e_X6_allHold_163 ic_1 ?_
              refine r_goto e_X6_allHold_164 ?_
              (rw [show v2507_0 = (1 : Int32) from ((e_v2507_0.trans (if_neg h151_2507)).trans (if_neg h160_2508))] at j168_2507; exact j168_2507)
        refine p_istore_11_4 e_X6_allHold_168 rfl rfl ?_
        refine p_iinc_11_6 e_X6_allHold_170 rfl ic_1 rfl ?_
        refine r_goto e_X6_allHold_173 ?_
        refine d_11_7 ?_
        refine d_11_8 ?_
        refine d_11_9 ?_
        refine d_11_10 ?_
        (subst e_v2507_0 e_v2502_0 e_Mc1001; simp only [F_X6_allHold_25, if_neg h29_2500, if_neg h34_2501] at hq; (try simp only [if_neg h29_2500, if_neg h34_2501] at hH); first | exact ih _ _ _ hH hq | (simp only [if_neg h29_2500, if_neg h34_2501]; exact ih _ _ _ hH hq))
theorem ZF_X6_allHold_25 {a : Nat} {x1 : Nat} {x2 : Int32} {x3 : Nat} {n1 : Nat} {w5 : Int32} : ∀ (n : Nat) (u4 : Int32) (u6 : Int32) (M : Mem), (u4 = 0 ∨ u4 = 1) → (F_X6_allHold_25 a x1 x2 x3 n1 w5 n u4 u6 M).1 = 0 ∨ (F_X6_allHold_25 a x1 x2 x3 n1 w5 n u4 u6 M).1 = 1 := by
  intro n
  induction n with
  | zero => intro u4 u6 M h; exact h
  | succ n ih => intro u4 u6 M h; unfold F_X6_allHold_25; (try dsimp only); (repeat' split) <;> first | exact h | exact Or.inl rfl | exact Or.inr rfl | exact ih _ _ _ (zi (Or.inl rfl) (zi (Or.inl rfl) (Or.inr rfl))) | exact ih _ _ _ (Or.inl rfl) | exact ih _ _ _ (Or.inr rfl)
def V_X6_allHold (a : Nat) (x1 : Nat) (x2 : Int32) (x3 : Nat) (n1 : Nat) (M : Mem) : Int32 := ((F_X6_allHold_25 a x1 x2 x3 n1 (V_X10_at (x1 + 3) (x2 + (1 : Int32)) 97 M) FUEL (1 : Int32) (V_X10_at (x1 + 3) x2 97 M) M).1)
theorem Z_X6_allHold {M : Mem} {a : Nat} {x1 : Nat} {x2 : Int32} {x3 : Nat} {n1 : Nat}  : V_X6_allHold a x1 x2 x3 n1 M = 0 ∨ V_X6_allHold a x1 x2 x3 n1 M = 1 := (ZF_X6_allHold_25 _ _ _ _ (Or.inr rfl))
def U_X6_allHold (a : Nat) (x1 : Nat) (x2 : Int32) (x3 : Nat) (n1 : Nat) (M : Mem) : Mem := ((F_X6_allHold_25 a x1 x2 x3 n1 (V_X10_at (x1 + 3) (x2 + (1 : Int32)) 97 M) FUEL (1 : Int32) (V_X10_at (x1 + 3) x2 97 M) M).2.2)
def P_X6_allHold (a : Nat) (x1 : Nat) (x2 : Int32) (x3 : Nat) (n1 : Nat) (M : Mem) : Prop := (T_X6_allHold_25 a x1 x2 x3 n1 (V_X10_at (x1 + 3) (x2 + (1 : Int32)) 97 M) FUEL (1 : Int32) (V_X10_at (x1 + 3) x2 97 M) M)
theorem S_X6_allHold {sh : List SC} {M : Mem} {a : Nat} {x1 : Nat} {x2 : Int32} {x3 : Nat} {n1 : Nat} (hb1 : RunnerAt sh a) (hb2 : ProgramAt sh x1) (g1 : kd sh x3 = some (0, n1)) (hP : P_X6_allHold a x1 x2 x3 n1 M) : Gv m_X6_allHold [.ref a, .ref x1, .int x2, .ref x3] sh M (.int (V_X6_allHold a x1 x2 x3 n1 M)) (U_X6_allHold a x1 x2 x3 n1 M) := by
  refine Sp.of (ls := [some (.ref a), some (.ref x1), some (.int x2), some (.ref x3), none, none, none, none, none, none, none]) (by decide +kernel) (Nat.le_of_ble_eq_true rfl) rfl ?_
  have g2 : T_X6_allHold_25 a x1 x2 x3 n1 (V_X10_at (x1 + 3) (x2 + (1 : Int32)) 97 M) FUEL (1 : Int32) (V_X10_at (x1 + 3) x2 97 M) M := hP
  have k0 : kd sh x1 = some (3 + 7, 0) := hb2.1
  have k1 : rf sh x1 4 = some (x1 + 3) := hb2.2.2.2.1
  have k2 : kd sh (x1 + 3) = some (0, 97) := hb2.2.2.2.2.2.2.2.2.2.2.2.2.2.2.2.2.2.1
  refine r_iconst e_X6_allHold_0 ic_1 ?_
  refine p_istore_11_4 e_X6_allHold_1 rfl rfl ?_
  refine r_aload_n e_X6_allHold_3 rfl ?_
  refine r_getR e_X6_allHold_4 fl_X6_55 k0 k1 ?_
  refine r_iload_n e_X6_allHold_7 rfl ?_
  refine r_iconst e_X6_allHold_8 ic_1 ?_
  refine r_iadd e_X6_allHold_9 ?_
  refine cSN2v e_X6_allHold_10 cl_X6_32 ⟨Nat.le_of_ble_eq_true rfl, Nat.le_of_ble_eq_true rfl⟩ ⟨rfl, rfl⟩  (Nat.le_of_ble_eq_true rfl) (S_X10_at k2 (by first | decide | (unfold vp_in; decide) | exact Or.inl rfl | exact Or.inr rfl)) ?_
  refine p_istore_11_5 e_X6_allHold_13 rfl rfl ?_
  refine r_aload_n e_X6_allHold_15 rfl ?_
  refine r_getR e_X6_allHold_16 fl_X6_55 k0 k1 ?_
  refine r_iload_n e_X6_allHold_19 rfl ?_
  refine cSN2v e_X6_allHold_20 cl_X6_32 ⟨Nat.le_of_ble_eq_true rfl, Nat.le_of_ble_eq_true rfl⟩ ⟨rfl, rfl⟩  (Nat.le_of_ble_eq_true rfl) (S_X10_at k2 (by first | decide | (unfold vp_in; decide) | exact Or.inl rfl | exact Or.inr rfl)) ?_
  refine p_istore_11_6 e_X6_allHold_23 rfl rfl ?_
  refine L_X6_allHold_25 hb1 hb2 g1 FUEL (1 : Int32) (V_X10_at (x1 + 3) x2 97 M) M g2 ?_
  refine r_iload e_X6_allHold_176 rfl ?_
  refine r_zreturn e_X6_allHold_178 rfl ⟨rfl, rfl⟩ (ZF_X6_allHold_25 _ _ _ _ (by first | exact Or.inl rfl | exact Or.inr rfl)) ?_
  (refine ⟨?_, rfl, ?_⟩ <;> ((try unfold V_X6_allHold); (try unfold U_X6_allHold); (try simp only []); (try rfl)))
def U_X6_command (a : Nat) (x1 : Nat) (x2 : Int32) (x3 : Int32) (x4 : Nat) (M : Mem) : Mem := if x2 = (8 : Int32) then (U_X5_decide x4 (0 : Int32) (0 : Int32) (0 : Int32) (0 : Int32) M) else (let v1_0 : Int32 := if x2 = (7 : Int32) then (V_X6_work a x1 (x3 + (2 : Int32)) (x4 + 1) 4 (U_X6_work a x1 (x3 + (1 : Int32)) (x4 + 1) 4 (U_X6_work a x1 x3 (x4 + 1) 4 M))) else (1 : Int32); let M1_1 : Mem := if x2 = (7 : Int32) then (U_X6_work a x1 (x3 + (2 : Int32)) (x4 + 1) 4 (U_X6_work a x1 (x3 + (1 : Int32)) (x4 + 1) 4 (U_X6_work a x1 x3 (x4 + 1) 4 M))) else (U_X6_work a x1 (x3 + (1 : Int32)) (x4 + 1) 4 (U_X6_work a x1 x3 (x4 + 1) 4 M)); let v2_0 : Int32 := if x2 = (6 : Int32) then ((V_X6_work a x1 x3 (x4 + 1) 4 M) - (V_X5_seenX x4 (M1_1.1 x4 2) M1_1)) else (V_X6_work a x1 x3 (x4 + 1) 4 M); let v2_1 : Int32 := if x2 = (6 : Int32) then ((V_X6_work a x1 (x3 + (1 : Int32)) (x4 + 1) 4 (U_X6_work a x1 x3 (x4 + 1) 4 M)) - (V_X5_seenY x4 (M1_1.1 x4 3) M1_1)) else (V_X6_work a x1 (x3 + (1 : Int32)) (x4 + 1) 4 (U_X6_work a x1 x3 (x4 + 1) 4 M)); let v3_0 : Int32 := if x2 = (7 : Int32) then (2 : Int32) else (1 : Int32); let Mc1 : Mem := U_X5_decide x4 v3_0 (V_X10_cut v2_0 (-1 : Int32) (1 : Int32) M1_1) (V_X10_cut v2_1 (-1 : Int32) (1 : Int32) M1_1) (V_X10_cut v1_0 (1 : Int32) (9 : Int32) M1_1) M1_1; Mc1)
def P_X6_command (a : Nat) (x1 : Nat) (x2 : Int32) (x3 : Int32) (x4 : Nat) (M : Mem) : Prop := (¬ (x2 = (8 : Int32)) → P_X6_work a x1 x3 (x4 + 1) 4 M) ∧ (¬ (x2 = (8 : Int32)) → P_X6_work a x1 (x3 + (1 : Int32)) (x4 + 1) 4 (U_X6_work a x1 x3 (x4 + 1) 4 M)) ∧ (¬ (x2 = (8 : Int32)) → x2 = (7 : Int32) → P_X6_work a x1 (x3 + (2 : Int32)) (x4 + 1) 4 (U_X6_work a x1 (x3 + (1 : Int32)) (x4 + 1) 4 (U_X6_work a x1 x3 (x4 + 1) 4 M)))
theorem S_X6_command {sh : List SC} {M : Mem} {a : Nat} {x1 : Nat} {x2 : Int32} {x3 : Int32} {x4 : Nat}  (hb1 : RunnerAt sh a) (hb2 : ProgramAt sh x1) (hb3 : RobotAt sh x4)  (hP : P_X6_command a x1 x2 x3 x4 M) : Gu m_X6_command [.ref a, .ref x1, .int x2, .int x3, .ref x4] sh M (U_X6_command a x1 x2 x3 x4 M) := by
  refine Sp.of (ls := [some (.ref a), some (.ref x1), some (.int x2), some (.int x3), some (.ref x4), none, none, none, none]) (by decide +kernel) (Nat.le_of_ble_eq_true rfl) rfl ?_
  obtain ⟨g1, g2, g3⟩ := hP
  have k0 : kd sh x4 = some (5 + 7, 0) := hb3.1
  have k1 : rf sh x4 9 = some (x4 + 1) := hb3.2.1
  have k2 : kd sh (x4 + 1) = some (0, 4) := hb3.2.2
  have k3 : kd sh a = some (6 + 7, 0) := hb1.1
  refine r_iload_n e_X6_command_0 rfl ?_
  refine r_bipush e_X6_command_1 bp_8 ?_
  refine r_icmp_ne e_X6_command_3 (fun h3_0 => ?_) (fun h3_0 => ?_)
  · refine r_aload_n e_X6_command_16 rfl ?_
    refine r_aload_n e_X6_command_17 rfl ?_
    refine r_iload_n e_X6_command_18 rfl ?_
    refine r_aload e_X6_command_19 rfl ?_
    refine r_getR e_X6_command_21 fl_X6_36 k0 k1 ?_
    refine cV3v e_X6_command_24 cl_X6_61 ⟨Nat.le_of_ble_eq_true rfl, Nat.le_of_ble_eq_true rfl⟩ ⟨rfl, rfl⟩ k3 (Nat.le_of_ble_eq_true rfl) (S_X6_work hb1 hb2 k2 (g1 h3_0)) ?_
    refine p_istore_9_5 e_X6_command_27 rfl rfl ?_
    refine r_aload_n e_X6_command_29 rfl ?_
    refine r_aload_n e_X6_command_30 rfl ?_
    refine r_iload_n e_X6_command_31 rfl ?_
    refine r_iconst e_X6_command_32 ic_1 ?_
    refine r_iadd e_X6_command_33 ?_
    refine r_aload e_X6_command_34 rfl ?_
    refine r_getR e_X6_command_36 fl_X6_36 k0 k1 ?_
    refine cV3v e_X6_command_39 cl_X6_61 ⟨Nat.le_of_ble_eq_true rfl, Nat.le_of_ble_eq_true rfl⟩ ⟨rfl, rfl⟩ k3 (Nat.le_of_ble_eq_true rfl) (S_X6_work hb1 hb2 k2 (g2 h3_0)) ?_
    refine p_istore_9_6 e_X6_command_42 rfl rfl ?_
    refine r_iload_n e_X6_command_44 rfl ?_
    refine r_bipush e_X6_command_45 bp_7 ?_
    obtain ⟨v1_0, e_v1_0⟩ : ∃ z : Int32, z = (if x2 = (7 : Int32) then (V_X6_work a x1 (x3 + (2 : Int32)) (x4 + 1) 4 (U_X6_work a x1 (x3 + (1 : Int32)) (x4 + 1) 4 (U_X6_work a x1 x3 (x4 + 1) 4 M))) else (1 : Int32)) := ⟨_, rfl⟩
    obtain ⟨M1_1, e_M1_1⟩ : ∃ z : Mem, z = (if x2 = (7 : Int32) then (U_X6_work a x1 (x3 + (2 : Int32)) (x4 + 1) 4 (U_X6_work a x1 (x3 + (1 : Int32)) (x4 + 1) 4 (U_X6_work a x1 x3 (x4 + 1) 4 M))) else (U_X6_work a x1 (x3 + (1 : Int32)) (x4 + 1) 4 (U_X6_work a x1 x3 (x4 + 1) 4 M))) := ⟨_, rfl⟩
    suffices j67_1 : WP m_X6_command (fun r sh' M'' => r = none ∧ sh' = sh ∧ M'' = (U_X6_command a x1 x2 x3 x4 M)) 67 [some (.ref a), some (.ref x1), some (.int x2), some (.int x3), some (.ref x4), some (.int (V_X6_work a x1 x3 (x4 + 1) 4 M)), some (.int (V_X6_work a x1 (x3 + (1 : Int32)) (x4 + 1) 4 (U_X6_work a x1 x3 (x4 + 1) 4 M))), none, none] [.int v1_0] sh M1_1 0 0 by
      refine r_icmp_ne e_X6_command_47 (fun h47_1 => ?_) (fun h47_1 => ?_)
      · refine r_iconst e_X6_command_66 ic_1 ?_
        (rw [show v1_0 = (1 : Int32) from (e_v1_0.trans (if_neg h47_1)), show M1_1 = U_X6_work a x1 (x3 + (1 : Int32)) (x4 + 1) 4 (U_X6_work a x1 x3 (x4 + 1) 4 M) from (e_M1_1.trans (if_neg h47_1))] at j67_1; exact j67_1)
      · refine r_aload_n e_X6_command_50 rfl ?_
        refine r_aload_n e_X6_command_51 rfl ?_
        refine r_iload_n e_X6_command_52 rfl ?_
        refine r_iconst e_X6_command_53 ic_2 ?_
        refine r_iadd e_X6_command_54 ?_
        refine r_aload e_X6_command_55 rfl ?_
        refine r_getR e_X6_command_57 fl_X6_36 k0 k1 ?_
        refine cV3v e_X6_command_60 cl_X6_61 ⟨Nat.le_of_ble_eq_true rfl, Nat.le_of_ble_eq_true rfl⟩ ⟨rfl, rfl⟩ k3 (Nat.le_of_ble_eq_true rfl) (S_X6_work hb1 hb2 k2 (g3 h3_0 h47_1)) ?_
        refine r_goto e_X6_command_63 ?_
        (rw [show v1_0 = (V_X6_work a x1 (x3 + (2 : Int32)) (x4 + 1) 4 (U_X6_work a x1 (x3 + (1 : Int32)) (x4 + 1) 4 (U_X6_work a x1 x3 (x4 + 1) 4 M))) from (e_v1_0.trans (if_pos h47_1)), show M1_1 = U_X6_work a x1 (x3 + (2 : Int32)) (x4 + 1) 4 (U_X6_work a x1 (x3 + (1 : Int32)) (x4 + 1) 4 (U_X6_work a x1 x3 (x4 + 1) 4 M)) from (e_M1_1.trans (if_pos h47_1))] at j67_1; exact j67_1)
    refine p_istore_9_7 e_X6_command_67 rfl rfl ?_
    refine r_iload_n e_X6_command_69 rfl ?_
    refine r_bipush e_X6_command_70 bp_6 ?_
    obtain ⟨v2_0, e_v2_0⟩ : ∃ z : Int32, z = (if x2 = (6 : Int32) then ((V_X6_work a x1 x3 (x4 + 1) 4 M) - (V_X5_seenX x4 (M1_1.1 x4 2) M1_1)) else (V_X6_work a x1 x3 (x4 + 1) 4 M)) := ⟨_, rfl⟩
    obtain ⟨v2_1, e_v2_1⟩ : ∃ z : Int32, z = (if x2 = (6 : Int32) then ((V_X6_work a x1 (x3 + (1 : Int32)) (x4 + 1) 4 (U_X6_work a x1 x3 (x4 + 1) 4 M)) - (V_X5_seenY x4 (M1_1.1 x4 3) M1_1)) else (V_X6_work a x1 (x3 + (1 : Int32)) (x4 + 1) 4 (U_X6_work a x1 x3 (x4 + 1) 4 M))) := ⟨_, rfl⟩
    suffices j105_2 : WP m_X6_command (fun r sh' M'' => r = none ∧ sh' = sh ∧ M'' = (U_X6_command a x1 x2 x3 x4 M)) 105 [some (.ref a), some (.ref x1), some (.int x2), some (.int x3), some (.ref x4), some (.int v2_0), some (.int v2_1), some (.int v1_0), none] [] sh M1_1 0 0 by
      refine r_icmp_ne e_X6_command_72 (fun h72_2 => ?_) (fun h72_2 => ?_)
      · (rw [show v2_0 = (V_X6_work a x1 x3 (x4 + 1) 4 M) from (e_v2_0.trans (if_neg h72_2)), show v2_1 = (V_X6_work a x1 (x3 + (1 : Int32)) (x4 + 1) 4 (U_X6_work a x1 x3 (x4 + 1) 4 M)) from (e_v2_1.trans (if_neg h72_2))] at j105_2; exact j105_2)
      · refine r_iload e_X6_command_75 rfl ?_
        refine r_aload e_X6_command_77 rfl ?_
        refine r_aload e_X6_command_79 rfl ?_
        refine r_getI e_X6_command_81 fl_X6_91 i0 k0 ?_
        refine cV1v e_X6_command_84 cl_X6_94 ⟨Nat.le_of_ble_eq_true rfl, Nat.le_of_ble_eq_true rfl⟩ ⟨rfl, rfl⟩ k0 (Nat.le_of_ble_eq_true rfl) (S_X5_seenX hb3) ?_
        refine r_isub e_X6_command_87 ?_
        refine p_istore_9_5 e_X6_command_88 rfl rfl ?_
        refine r_iload e_X6_command_90 rfl ?_
        refine r_aload e_X6_command_92 rfl ?_
        refine r_aload e_X6_command_94 rfl ?_
        refine r_getI e_X6_command_96 fl_X6_98 i0 k0 ?_
        refine cV1v e_X6_command_99 cl_X6_101 ⟨Nat.le_of_ble_eq_true rfl, Nat.le_of_ble_eq_true rfl⟩ ⟨rfl, rfl⟩ k0 (Nat.le_of_ble_eq_true rfl) (S_X5_seenY hb3) ?_
        refine r_isub e_X6_command_102 ?_
        refine p_istore_9_6 e_X6_command_103 rfl rfl ?_
        (rw [show v2_0 = ((V_X6_work a x1 x3 (x4 + 1) 4 M) - (V_X5_seenX x4 (M1_1.1 x4 2) M1_1)) from (e_v2_0.trans (if_pos h72_2)), show v2_1 = ((V_X6_work a x1 (x3 + (1 : Int32)) (x4 + 1) 4 (U_X6_work a x1 x3 (x4 + 1) 4 M)) - (V_X5_seenY x4 (M1_1.1 x4 3) M1_1)) from (e_v2_1.trans (if_pos h72_2))] at j105_2; exact j105_2)
    refine r_iload_n e_X6_command_105 rfl ?_
    refine r_bipush e_X6_command_106 bp_7 ?_
    obtain ⟨v3_0, e_v3_0⟩ : ∃ z : Int32, z = (if x2 = (7 : Int32) then (2 : Int32) else (1 : Int32)) := ⟨_, rfl⟩
    suffices j116_3 : WP m_X6_command (fun r sh' M'' => r = none ∧ sh' = sh ∧ M'' = (U_X6_command a x1 x2 x3 x4 M)) 116 [some (.ref a), some (.ref x1), some (.int x2), some (.int x3), some (.ref x4), some (.int v2_0), some (.int v2_1), some (.int v1_0), none] [.int v3_0] sh M1_1 0 0 by
      refine r_icmp_ne e_X6_command_108 (fun h108_3 => ?_) (fun h108_3 => ?_)
      · refine r_iconst e_X6_command_115 ic_1 ?_
        (rw [show v3_0 = (1 : Int32) from (e_v3_0.trans (if_neg h108_3))] at j116_3; exact j116_3)
      · refine r_iconst e_X6_command_111 ic_2 ?_
        refine r_goto e_X6_command_112 ?_
        (rw [show v3_0 = (2 : Int32) from (e_v3_0.trans (if_pos h108_3))] at j116_3; exact j116_3)
    refine p_istore_9_8 e_X6_command_116 rfl rfl ?_
    refine r_aload e_X6_command_118 rfl ?_
    refine r_iload e_X6_command_120 rfl ?_
    refine r_iload e_X6_command_122 rfl ?_
    refine r_iconst e_X6_command_124 ic_m1 ?_
    refine r_iconst e_X6_command_125 ic_1 ?_
    refine cSN3v e_X6_command_126 cl_X6_104 ⟨Nat.le_of_ble_eq_true rfl, Nat.le_of_ble_eq_true rfl⟩ ⟨rfl, rfl⟩  (Nat.le_of_ble_eq_true rfl) (S_X10_cut ) ?_
    refine r_iload e_X6_command_129 rfl ?_
    refine r_iconst e_X6_command_131 ic_m1 ?_
    refine r_iconst e_X6_command_132 ic_1 ?_
    refine cSN3v e_X6_command_133 cl_X6_104 ⟨Nat.le_of_ble_eq_true rfl, Nat.le_of_ble_eq_true rfl⟩ ⟨rfl, rfl⟩  (Nat.le_of_ble_eq_true rfl) (S_X10_cut ) ?_
    refine r_iload e_X6_command_136 rfl ?_
    refine r_iconst e_X6_command_138 ic_1 ?_
    refine r_bipush e_X6_command_139 bp_9 ?_
    refine cSN3v e_X6_command_141 cl_X6_104 ⟨Nat.le_of_ble_eq_true rfl, Nat.le_of_ble_eq_true rfl⟩ ⟨rfl, rfl⟩  (Nat.le_of_ble_eq_true rfl) (S_X10_cut ) ?_
    refine cV4u e_X6_command_144 cl_X6_47 ⟨Nat.le_of_ble_eq_true rfl, Nat.le_of_ble_eq_true rfl⟩ ⟨rfl, rfl⟩ k0 (Nat.le_of_ble_eq_true rfl) (S_X5_decide hb3) ?_
    obtain ⟨Mc1, e_Mc1⟩ : ∃ z : Mem, z = (U_X5_decide x4 v3_0 (V_X10_cut v2_0 (-1 : Int32) (1 : Int32) M1_1) (V_X10_cut v2_1 (-1 : Int32) (1 : Int32) M1_1) (V_X10_cut v1_0 (1 : Int32) (9 : Int32) M1_1) M1_1) := ⟨_, rfl⟩
    rw [← e_Mc1]
    refine r_return e_X6_command_147 rfl ⟨rfl, rfl⟩ ?_
    (subst e_Mc1 e_v3_0 e_v2_1 e_v2_0 e_M1_1 e_v1_0; refine ⟨?_, rfl, ?_⟩ <;> ((try unfold U_X6_command); (try simp only [if_neg h3_0]); (try rfl)))
  · refine r_aload e_X6_command_6 rfl ?_
    refine r_iconst e_X6_command_8 ic_0 ?_
    refine r_iconst e_X6_command_9 ic_0 ?_
    refine r_iconst e_X6_command_10 ic_0 ?_
    refine r_iconst e_X6_command_11 ic_0 ?_
    refine cV4u e_X6_command_12 cl_X6_47 ⟨Nat.le_of_ble_eq_true rfl, Nat.le_of_ble_eq_true rfl⟩ ⟨rfl, rfl⟩ k0 (Nat.le_of_ble_eq_true rfl) (S_X5_decide hb3) ?_
    refine r_return e_X6_command_15 rfl ⟨rfl, rfl⟩ ?_
    (refine ⟨?_, rfl, ?_⟩ <;> ((try unfold U_X6_command); (try simp only [if_pos h3_0]); (try rfl)))
def U_X2_move (a : Nat) (x1 : Nat) (x2 : Int32) (M : Mem) : Mem := if ((M.1 x1 2) + (M.1 x1 15)) < 0 then M else (if (15 : Int32) ≤ ((M.1 x1 2) + (M.1 x1 15)) then M else (if ((M.1 x1 3) + (M.1 x1 16)) < 0 then M else (if ((M.1 x1 3) + (M.1 x1 16)) < (9 : Int32) then (if (V_X2_robotIn a ((M.1 x1 2) + (M.1 x1 15)) ((M.1 x1 3) + (M.1 x1 16)) M) < 0 then (let M5_0 : Mem := if (M.1 (a + 4) 2) = x2 then (U_X0_go (a + 4) ((M.1 x1 2) + (M.1 x1 15)) ((M.1 x1 3) + (M.1 x1 16)) (setI (setI M x1 2 ((M.1 x1 2) + (M.1 x1 15))) x1 3 ((M.1 x1 3) + (M.1 x1 16)))) else (if 0 ≤ (M.1 (a + 4) 2) then (setI (setI M x1 2 ((M.1 x1 2) + (M.1 x1 15))) x1 3 ((M.1 x1 3) + (M.1 x1 16))) else (if (M.1 (a + 4) 0) = ((M.1 x1 2) + (M.1 x1 15)) then (if (M.1 (a + 4) 1) = ((M.1 x1 3) + (M.1 x1 16)) then (U_X0_hold (a + 4) x2 ((M.1 x1 2) + (M.1 x1 15)) ((M.1 x1 3) + (M.1 x1 16)) (M.1 a 7) (setI (setI M x1 2 ((M.1 x1 2) + (M.1 x1 15))) x1 3 ((M.1 x1 3) + (M.1 x1 16)))) else (setI (setI M x1 2 ((M.1 x1 2) + (M.1 x1 15))) x1 3 ((M.1 x1 3) + (M.1 x1 16)))) else (setI (setI M x1 2 ((M.1 x1 2) + (M.1 x1 15))) x1 3 ((M.1 x1 3) + (M.1 x1 16))))); M5_0) else (let v9_0 : Int32 := if (V_X2_robotIn a ((M.1 x1 2) + (M.1 x1 15)) ((M.1 x1 3) + (M.1 x1 16)) M) = (M.1 (a + 4) 2) then (if ((V_X2_robotIn a ((M.1 x1 2) + (M.1 x1 15)) ((M.1 x1 3) + (M.1 x1 16)) M) / (5 : Int32)) = (x2 / (5 : Int32)) then (0 : Int32) else (1 : Int32)) else (0 : Int32); let M11_0 : Mem := if v9_0 = 0 then M else (if ((M.1 a 7) - (M.1 (a + 4) 3)) < (2 : Int32) then M else (setI (U_X0_hold (a + 4) x2 (M.1 x1 2) (M.1 x1 3) (M.1 a 7) M) (a + 7) 2 (((U_X0_hold (a + 4) x2 (M.1 x1 2) (M.1 x1 3) (M.1 a 7) M).1 (a + 7) 2) + (1 : Int32)))); M11_0)) else M)))
theorem S_X2_move {sh : List SC} {M : Mem} {a : Nat} {x1 : Nat} {x2 : Int32}  (hb1 : MatchAt sh a) (hb2 : RobotAt sh x1)  : Gu m_X2_move [.ref a, .ref x1, .int x2] sh M (U_X2_move a x1 x2 M) := by
  refine Sp.of (ls := [some (.ref a), some (.ref x1), some (.int x2), none, none, none, none]) (by decide +kernel) (Nat.le_of_ble_eq_true rfl) rfl ?_
  have k0 : kd sh x1 = some (5 + 7, 0) := hb2.1
  have k1 : kd sh a = some (2 + 7, 0) := hb1.1
  have k2 : rf sh a 4 = some (a + 4) := hb1.2.2.2.2.2.1
  have k3 : kd sh (a + 4) = some (0 + 7, 0) := hb1.2.2.2.2.2.2.2.2.2.1.1
  have k4 : rf sh a 5 = some (a + 7) := hb1.2.2.2.2.2.2.1
  have k5 : kd sh (a + 7) = some (7 + 7, 0) := hb1.2.2.2.2.2.2.2.2.2.2.1.1
  refine r_aload_n e_X2_move_0 rfl ?_
  refine r_getI e_X2_move_1 fl_X2_130 i0 k0 ?_
  refine r_aload_n e_X2_move_4 rfl ?_
  refine r_getI e_X2_move_5 fl_X2_213 i0 k0 ?_
  refine r_iadd e_X2_move_8 ?_
  refine p_istore_n_7_3 e_X2_move_9 rfl rfl ?_
  refine r_aload_n e_X2_move_10 rfl ?_
  refine r_getI e_X2_move_11 fl_X2_131 i0 k0 ?_
  refine r_aload_n e_X2_move_14 rfl ?_
  refine r_getI e_X2_move_15 fl_X2_216 i0 k0 ?_
  refine r_iadd e_X2_move_18 ?_
  refine p_istore_7_4 e_X2_move_19 rfl rfl ?_
  refine r_iload_n e_X2_move_21 rfl ?_
  refine r_if_lt e_X2_move_22 (fun h22_0 => ?_) (fun h22_0 => ?_)
  · refine r_return e_X2_move_43 rfl ⟨rfl, rfl⟩ ?_
    (refine ⟨?_, rfl, ?_⟩ <;> ((try unfold U_X2_move); (try simp only [if_pos h22_0]); (try rfl)))
  · refine r_iload_n e_X2_move_25 rfl ?_
    refine r_bipush e_X2_move_26 bp_15 ?_
    refine r_icmp_ge e_X2_move_28 (fun h28_1 => ?_) (fun h28_1 => ?_)
    · refine r_return e_X2_move_43 rfl ⟨rfl, rfl⟩ ?_
      (refine ⟨?_, rfl, ?_⟩ <;> ((try unfold U_X2_move); (try simp only [if_neg h22_0, if_pos h28_1]); (try rfl)))
    · refine r_iload e_X2_move_31 rfl ?_
      refine r_if_lt e_X2_move_33 (fun h33_2 => ?_) (fun h33_2 => ?_)
      · refine r_return e_X2_move_43 rfl ⟨rfl, rfl⟩ ?_
        (refine ⟨?_, rfl, ?_⟩ <;> ((try unfold U_X2_move); (try simp only [if_neg h22_0, if_neg h28_1, if_pos h33_2]); (try rfl)))
      · refine r_iload e_X2_move_36 rfl ?_
        refine r_bipush e_X2_move_38 bp_9 ?_
        refine r_icmp_lt e_X2_move_40 (fun h40_3 => ?_) (fun h40_3 => ?_)
        · refine r_aload_n e_X2_move_44 rfl ?_
          refine r_iload_n e_X2_move_45 rfl ?_
          refine r_iload e_X2_move_46 rfl ?_
          refine cV2v e_X2_move_48 cl_X2_141 ⟨Nat.le_of_ble_eq_true rfl, Nat.le_of_ble_eq_true rfl⟩ ⟨rfl, rfl⟩ k1 (Nat.le_of_ble_eq_true rfl) (S_X2_robotIn hb1) ?_
          refine p_istore_7_5 e_X2_move_51 rfl rfl ?_
          refine r_iload e_X2_move_53 rfl ?_
          refine r_if_lt e_X2_move_55 (fun h55_4 => ?_) (fun h55_4 => ?_)
          · refine r_aload_n e_X2_move_142 rfl ?_
            refine r_iload_n e_X2_move_143 rfl ?_
            refine r_putI e_X2_move_144 fl_X2_130 k0 ?_
            refine r_aload_n e_X2_move_147 rfl ?_
            refine r_iload e_X2_move_148 rfl ?_
            refine r_putI e_X2_move_150 fl_X2_131 k0 ?_
            refine r_aload_n e_X2_move_153 rfl ?_
            refine r_getR e_X2_move_154 fl_X2_27 k1 k2 ?_
            refine r_getIe e_X2_move_157 fl_X2_132 i0 k3 ((gs_nI (by decide)).trans (gs_aI (ne_kd k3 k0 (by decide)))) ?_
            refine r_iload_n e_X2_move_160 rfl ?_
            obtain ⟨M5_0, e_M5_0⟩ : ∃ z : Mem, z = (if (M.1 (a + 4) 2) = x2 then (U_X0_go (a + 4) ((M.1 x1 2) + (M.1 x1 15)) ((M.1 x1 3) + (M.1 x1 16)) (setI (setI M x1 2 ((M.1 x1 2) + (M.1 x1 15))) x1 3 ((M.1 x1 3) + (M.1 x1 16)))) else (if 0 ≤ (M.1 (a + 4) 2) then (setI (setI M x1 2 ((M.1 x1 2) + (M.1 x1 15))) x1 3 ((M.1 x1 3) + (M.1 x1 16))) else (if (M.1 (a + 4) 0) = ((M.1 x1 2) + (M.1 x1 15)) then (if (M.1 (a + 4) 1) = ((M.1 x1 3) + (M.1 x1 16)) then (U_X0_hold (a + 4) x2 ((M.1 x1 2) + (M.1 x1 15)) ((M.1 x1 3) + (M.1 x1 16)) (M.1 a 7) (setI (setI M x1 2 ((M.1 x1 2) + (M.1 x1 15))) x1 3 ((M.1 x1 3) + (M.1 x1 16)))) else (setI (setI M x1 2 ((M.1 x1 2) + (M.1 x1 15))) x1 3 ((M.1 x1 3) + (M.1 x1 16)))) else (setI (setI M x1 2 ((M.1 x1 2) + (M.1 x1 15))) x1 3 ((M.1 x1 3) + (M.1 x1 16)))))) := ⟨_, rfl⟩
            suffices j225_5 : WP m_X2_move (fun r sh' M'' => r = none ∧ sh' = sh ∧ M'' = (U_X2_move a x1 x2 M)) 225 [some (.ref a), some (.ref x1), some (.int x2), some (.int ((M.1 x1 2) + (M.1 x1 15))), some (.int ((M.1 x1 3) + (M.1 x1 16))), some (.int (V_X2_robotIn a ((M.1 x1 2) + (M.1 x1 15)) ((M.1 x1 3) + (M.1 x1 16)) M)), none] [] sh M5_0 0 0 by
              refine r_icmp_ne e_X2_move_161 (fun h161_5 => ?_) (fun h161_5 => ?_)
              · refine r_aload_n e_X2_move_177 rfl ?_
                refine r_getR e_X2_move_178 fl_X2_27 k1 k2 ?_
                refine r_getIe e_X2_move_181 fl_X2_132 i0 k3 ((gs_nI (by decide)).trans (gs_aI (ne_kd k3 k0 (by decide)))) ?_
                refine r_if_ge e_X2_move_184 (fun h184_6 => ?_) (fun h184_6 => ?_)
                · (rw [show M5_0 = setI (setI M x1 2 ((M.1 x1 2) + (M.1 x1 15))) x1 3 ((M.1 x1 3) + (M.1 x1 16)) from ((e_M5_0.trans (if_neg h161_5)).trans (if_pos h184_6))] at j225_5; exact j225_5)
                · refine r_aload_n e_X2_move_187 rfl ?_
                  refine r_getR e_X2_move_188 fl_X2_27 k1 k2 ?_
                  refine r_getIe e_X2_move_191 fl_X2_110 i0 k3 ((gs_nI (by decide)).trans (gs_nI (by decide))) ?_
                  refine r_iload_n e_X2_move_194 rfl ?_
                  refine r_icmp_ne e_X2_move_195 (fun h195_7 => ?_) (fun h195_7 => ?_)
                  · (rw [show M5_0 = setI (setI M x1 2 ((M.1 x1 2) + (M.1 x1 15))) x1 3 ((M.1 x1 3) + (M.1 x1 16)) from (((e_M5_0.trans (if_neg h161_5)).trans (if_neg h184_6)).trans (if_neg h195_7))] at j225_5; exact j225_5)
                  · refine r_aload_n e_X2_move_198 rfl ?_
                    refine r_getR e_X2_move_199 fl_X2_27 k1 k2 ?_
                    refine r_getIe e_X2_move_202 fl_X2_113 i0 k3 ((gs_nI (by decide)).trans (gs_nI (by decide))) ?_
                    refine r_iload e_X2_move_205 rfl ?_
                    refine r_icmp_ne e_X2_move_207 (fun h207_8 => ?_) (fun h207_8 => ?_)
                    · (rw [show M5_0 = setI (setI M x1 2 ((M.1 x1 2) + (M.1 x1 15))) x1 3 ((M.1 x1 3) + (M.1 x1 16)) from ((((e_M5_0.trans (if_neg h161_5)).trans (if_neg h184_6)).trans (if_pos h195_7)).trans (if_neg h207_8))] at j225_5; exact j225_5)
                    · refine r_aload_n e_X2_move_210 rfl ?_
                      refine r_getR e_X2_move_211 fl_X2_27 k1 k2 ?_
                      refine r_iload_n e_X2_move_214 rfl ?_
                      refine r_iload_n e_X2_move_215 rfl ?_
                      refine r_iload e_X2_move_216 rfl ?_
                      refine r_aload_n e_X2_move_218 rfl ?_
                      refine r_getIe e_X2_move_219 fl_X2_42 i0 k1 ((gs_nI (by decide)).trans (gs_nI (by decide))) ?_
                      refine cV4u e_X2_move_222 cl_X2_235 ⟨Nat.le_of_ble_eq_true rfl, Nat.le_of_ble_eq_true rfl⟩ ⟨rfl, rfl⟩ k3 (Nat.le_of_ble_eq_true rfl) (S_X0_hold hb1.2.2.2.2.2.2.2.2.2.1) ?_
                      (rw [show M5_0 = U_X0_hold (a + 4) x2 ((M.1 x1 2) + (M.1 x1 15)) ((M.1 x1 3) + (M.1 x1 16)) (M.1 a 7) (setI (setI M x1 2 ((M.1 x1 2) + (M.1 x1 15))) x1 3 ((M.1 x1 3) + (M.1 x1 16))) from ((((e_M5_0.trans (if_neg h161_5)).trans (if_neg h184_6)).trans (if_pos h195_7)).trans (if_pos h207_8))] at j225_5; exact j225_5)
              · refine r_aload_n e_X2_move_164 rfl ?_
                refine r_getR e_X2_move_165 fl_X2_27 k1 k2 ?_
                refine r_iload_n e_X2_move_168 rfl ?_
                refine r_iload e_X2_move_169 rfl ?_
                refine cV2u e_X2_move_171 cl_X2_135 ⟨Nat.le_of_ble_eq_true rfl, Nat.le_of_ble_eq_true rfl⟩ ⟨rfl, rfl⟩ k3 (Nat.le_of_ble_eq_true rfl) (S_X0_go hb1.2.2.2.2.2.2.2.2.2.1) ?_
                refine r_goto e_X2_move_174 ?_
                (rw [show M5_0 = U_X0_go (a + 4) ((M.1 x1 2) + (M.1 x1 15)) ((M.1 x1 3) + (M.1 x1 16)) (setI (setI M x1 2 ((M.1 x1 2) + (M.1 x1 15))) x1 3 ((M.1 x1 3) + (M.1 x1 16))) from (e_M5_0.trans (if_pos h161_5))] at j225_5; exact j225_5)
            refine r_return e_X2_move_225 rfl ⟨rfl, rfl⟩ ?_
            (subst e_M5_0; refine ⟨?_, rfl, ?_⟩ <;> ((try unfold U_X2_move); (try simp only [if_neg h22_0, if_neg h28_1, if_neg h33_2, if_pos h40_3, if_pos h55_4]); (try rfl)))
          · refine r_iload e_X2_move_58 rfl ?_
            refine r_aload_n e_X2_move_60 rfl ?_
            refine r_getR e_X2_move_61 fl_X2_27 k1 k2 ?_
            refine r_getI e_X2_move_64 fl_X2_132 i0 k3 ?_
            obtain ⟨v9_0, e_v9_0⟩ : ∃ z : Int32, z = (if (V_X2_robotIn a ((M.1 x1 2) + (M.1 x1 15)) ((M.1 x1 3) + (M.1 x1 16)) M) = (M.1 (a + 4) 2) then (if ((V_X2_robotIn a ((M.1 x1 2) + (M.1 x1 15)) ((M.1 x1 3) + (M.1 x1 16)) M) / (5 : Int32)) = (x2 / (5 : Int32)) then (0 : Int32) else (1 : Int32)) else (0 : Int32)) := ⟨_, rfl⟩
            have z_v9_0 : v9_0 = 0 ∨ v9_0 = 1 := by rw [e_v9_0]; exact (zi (zi (Or.inl rfl) (Or.inr rfl)) (Or.inl rfl))
            suffices j85_9 : WP m_X2_move (fun r sh' M'' => r = none ∧ sh' = sh ∧ M'' = (U_X2_move a x1 x2 M)) 85 [some (.ref a), some (.ref x1), some (.int x2), some (.int ((M.1 x1 2) + (M.1 x1 15))), some (.int ((M.1 x1 3) + (M.1 x1 16))), some (.int (V_X2_robotIn a ((M.1 x1 2) + (M.1 x1 15)) ((M.1 x1 3) + (M.1 x1 16)) M)), none] [.int v9_0] sh M 0 0 by
              refine r_icmp_ne e_X2_move_67 (fun h67_9 => ?_) (fun h67_9 => ?_)
              · refine r_iconst e_X2_move_84 ic_0 ?_
                (rw [show v9_0 = (0 : Int32) from (e_v9_0.trans (if_neg h67_9))] at j85_9; exact j85_9)
              · refine r_iload e_X2_move_70 rfl ?_
                refine r_iconst e_X2_move_72 ic_5 ?_
                refine r_idiv e_X2_move_73 (by decide) ?_
                refine r_iload_n e_X2_move_74 rfl ?_
                refine r_iconst e_X2_move_75 ic_5 ?_
                refine r_idiv e_X2_move_76 (by decide) ?_
                refine r_icmp_eq e_X2_move_77 (fun h77_10 => ?_) (fun h77_10 => ?_)
                · refine r_iconst e_X2_move_84 ic_0 ?_
                  (rw [show v9_0 = (0 : Int32) from ((e_v9_0.trans (if_pos h67_9)).trans (if_pos h77_10))] at j85_9; exact j85_9)
                · refine r_iconst e_X2_move_80 ic_1 ?_
                  refine r_goto e_X2_move_81 ?_
                  (rw [show v9_0 = (1 : Int32) from ((e_v9_0.trans (if_pos h67_9)).trans (if_neg h77_10))] at j85_9; exact j85_9)
            refine p_istore_7_6 e_X2_move_85 rfl rfl ?_
            refine r_iload e_X2_move_87 rfl ?_
            obtain ⟨M11_0, e_M11_0⟩ : ∃ z : Mem, z = (if v9_0 = 0 then M else (if ((M.1 a 7) - (M.1 (a + 4) 3)) < (2 : Int32) then M else (setI (U_X0_hold (a + 4) x2 (M.1 x1 2) (M.1 x1 3) (M.1 a 7) M) (a + 7) 2 (((U_X0_hold (a + 4) x2 (M.1 x1 2) (M.1 x1 3) (M.1 a 7) M).1 (a + 7) 2) + (1 : Int32))))) := ⟨_, rfl⟩
            suffices j141_11 : WP m_X2_move (fun r sh' M'' => r = none ∧ sh' = sh ∧ M'' = (U_X2_move a x1 x2 M)) 141 [some (.ref a), some (.ref x1), some (.int x2), some (.int ((M.1 x1 2) + (M.1 x1 15))), some (.int ((M.1 x1 3) + (M.1 x1 16))), some (.int (V_X2_robotIn a ((M.1 x1 2) + (M.1 x1 15)) ((M.1 x1 3) + (M.1 x1 16)) M)), some (.int v9_0)] [] sh M11_0 0 0 by
              refine r_if_eq e_X2_move_89 (fun h89_11 => ?_) (fun h89_11 => ?_)
              · (rw [show M11_0 = M from (e_M11_0.trans (if_pos h89_11))] at j141_11; exact j141_11)
              · refine r_aload_n e_X2_move_92 rfl ?_
                refine r_getI e_X2_move_93 fl_X2_42 i0 k1 ?_
                refine r_aload_n e_X2_move_96 rfl ?_
                refine r_getR e_X2_move_97 fl_X2_27 k1 k2 ?_
                refine r_getI e_X2_move_100 fl_X2_232 i0 k3 ?_
                refine r_isub e_X2_move_103 ?_
                refine r_iconst e_X2_move_104 ic_2 ?_
                refine r_icmp_lt e_X2_move_105 (fun h105_12 => ?_) (fun h105_12 => ?_)
                · (rw [show M11_0 = M from ((e_M11_0.trans (if_neg h89_11)).trans (if_pos h105_12))] at j141_11; exact j141_11)
                · refine r_aload_n e_X2_move_108 rfl ?_
                  refine r_getR e_X2_move_109 fl_X2_27 k1 k2 ?_
                  refine r_iload_n e_X2_move_112 rfl ?_
                  refine r_aload_n e_X2_move_113 rfl ?_
                  refine r_getI e_X2_move_114 fl_X2_130 i0 k0 ?_
                  refine r_aload_n e_X2_move_117 rfl ?_
                  refine r_getI e_X2_move_118 fl_X2_131 i0 k0 ?_
                  refine r_aload_n e_X2_move_121 rfl ?_
                  refine r_getI e_X2_move_122 fl_X2_42 i0 k1 ?_
                  refine cV4u e_X2_move_125 cl_X2_235 ⟨Nat.le_of_ble_eq_true rfl, Nat.le_of_ble_eq_true rfl⟩ ⟨rfl, rfl⟩ k3 (Nat.le_of_ble_eq_true rfl) (S_X0_hold hb1.2.2.2.2.2.2.2.2.2.1) ?_
                  refine r_aload_n e_X2_move_128 rfl ?_
                  refine r_getR e_X2_move_129 fl_X2_34 k1 k4 ?_
                  refine r_dup e_X2_move_132 rfl ?_
                  refine r_getI e_X2_move_133 fl_X2_238 i0 k5 ?_
                  refine r_iconst e_X2_move_136 ic_1 ?_
                  refine r_iadd e_X2_move_137 ?_
                  refine r_putI e_X2_move_138 fl_X2_238 k5 ?_
                  (rw [show M11_0 = setI (U_X0_hold (a + 4) x2 (M.1 x1 2) (M.1 x1 3) (M.1 a 7) M) (a + 7) 2 (((U_X0_hold (a + 4) x2 (M.1 x1 2) (M.1 x1 3) (M.1 a 7) M).1 (a + 7) 2) + (1 : Int32)) from ((e_M11_0.trans (if_neg h89_11)).trans (if_neg h105_12))] at j141_11; exact j141_11)
            refine r_return e_X2_move_141 rfl ⟨rfl, rfl⟩ ?_
            (subst e_M11_0 e_v9_0; refine ⟨?_, rfl, ?_⟩ <;> ((try unfold U_X2_move); (try simp only [if_neg h22_0, if_neg h28_1, if_neg h33_2, if_pos h40_3, if_neg h55_4]); (try rfl)))
        · refine r_return e_X2_move_43 rfl ⟨rfl, rfl⟩ ?_
          (refine ⟨?_, rfl, ?_⟩ <;> ((try unfold U_X2_move); (try simp only [if_neg h22_0, if_neg h28_1, if_neg h33_2, if_neg h40_3]); (try rfl)))
