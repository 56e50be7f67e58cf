def V_X10_tell (x1 : Int32) (M : Mem) : Int32 := if (M.1 0 9) < (20 : Int32) then ((M.1 0 9) + (1 : Int32)) else (V_X10_finding (-1002 : Int32) M)
def U_X10_tell (x1 : Int32) (M : Mem) : Mem := if (M.1 0 9) < (20 : Int32) then (setI (setI M 15 (M.1 0 9).toNatClampNeg x1) 0 9 ((M.1 0 9) + (1 : Int32))) else (U_X10_finding (-1002 : Int32) M)
theorem S_X10_tell {sh : List SC} {M : Mem} {x1 : Int32}  (hb1 : PitchAt sh) (g1 : ¬ (M.1 0 9) < 0) : Gv m_X10_tell [.ref 0, .int x1] sh M (.int (V_X10_tell x1 M)) (U_X10_tell x1 M) := by
  refine Sp.of (ls := [some (.ref 0), some (.int x1)]) (by decide +kernel) (Nat.le_of_ble_eq_true rfl) rfl ?_
  have k0 : kd sh 0 = some (9 + 7, 0) := hb1.1
  have k1 : rf sh 0 8 = some 15 := hb1.2.2.2.2.2.2.2.2.2.1
  have k2 : kd sh 15 = some (0, 20) := hb1.2.2.2.2.2.2.2.2.2.2.2.1
  refine r_aload_n e_X10_tell_0 rfl ?_
  refine r_getI e_X10_tell_1 fl_X10_48 i0 k0 ?_
  refine r_aload_n e_X10_tell_4 rfl ?_
  refine r_getR e_X10_tell_5 fl_X10_45 k0 k1 ?_
  refine r_alen (v := (20 : Int32)) e_X10_tell_8 k2 (by decide) rfl ?_
  refine r_icmp_lt e_X10_tell_9 (fun h9_0 => ?_) (fun h9_0 => ?_)
  · refine r_aload_n e_X10_tell_20 rfl ?_
    refine r_getR e_X10_tell_21 fl_X10_45 k0 k1 ?_
    refine r_aload_n e_X10_tell_24 rfl ?_
    refine r_getI e_X10_tell_25 fl_X10_48 i0 k0 ?_
    refine r_iload_n e_X10_tell_28 rfl ?_
    refine r_iastore e_X10_tell_29 k2 (vp_guard g1 (i_nle h9_0) (by decide)) ?_
    refine r_aload_n e_X10_tell_30 rfl ?_
    refine r_dup e_X10_tell_31 rfl ?_
    refine r_getIe e_X10_tell_32 fl_X10_48 i0 k0 (gs_aI (by omega)) ?_
    refine r_iconst e_X10_tell_35 ic_1 ?_
    refine r_iadd e_X10_tell_36 ?_
    refine r_putI e_X10_tell_37 fl_X10_48 k0 ?_
    refine r_aload_n e_X10_tell_40 rfl ?_
    refine r_getIe e_X10_tell_41 fl_X10_48 i0 k0 gs_eI ?_
    refine r_ireturn e_X10_tell_44 rfl ⟨rfl, rfl⟩ ?_
    (refine ⟨?_, rfl, ?_⟩ <;> ((try unfold V_X10_tell); (try unfold U_X10_tell); (try simp only [if_pos h9_0]); (try rfl)))
  · refine r_aload_n e_X10_tell_12 rfl ?_
    refine r_sipush e_X10_tell_13 sp_m1002 ?_
    refine cV1v e_X10_tell_16 cl_X10_70 ⟨Nat.le_of_ble_eq_true rfl, Nat.le_of_ble_eq_true rfl⟩ ⟨rfl, rfl⟩ k0 (Nat.le_of_ble_eq_true rfl) (S_X10_finding hb1) ?_
    refine r_ireturn e_X10_tell_19 rfl ⟨rfl, rfl⟩ ?_
    (refine ⟨?_, rfl, ?_⟩ <;> ((try unfold V_X10_tell); (try unfold U_X10_tell); (try simp only [if_neg h9_0]); (try rfl)))
def FV_X10_check_41 (w1 : Int32) (w2 : Int32) : Nat → Int32 → Mem → Int32
  | 0, u3, M => 0
  | n + 1, u3, M => if w2 ≤ u3 then (if w1 ≤ w2 then (0 : Int32) else (99 : Int32)) else (if w1 ≤ u3 then ((1 : Int32) + u3) else (if (V_X10_at 15 u3 20 M) = (V_X7_goalAt 129 u3 M) then (FV_X10_check_41 w1 w2 n (u3 + 1) M) else ((1 : Int32) + u3)))
def T_X10_check_41 (w1 : Int32) (w2 : Int32) : Nat → Int32 → Mem → Prop
  | 0, u3, M => False
  | n + 1, u3, M => ((if w2 ≤ u3 then (if w1 ≤ w2 then True else True) else (if w1 ≤ u3 then True else (if (V_X10_at 15 u3 20 M) = (V_X7_goalAt 129 u3 M) then (T_X10_check_41 w1 w2 n (u3 + 1) M) else True))))
theorem L_X10_check_41 {sh : List SC} {Q : Po}   {w1 : Int32} {w2 : Int32}  (hb1 : PitchAt sh)   : ∀ (n : Nat) (u3 : Int32) (M : Mem), T_X10_check_41 w1 w2 n u3 M → Q (some (.int (FV_X10_check_41 w1 w2 n u3 M))) sh M → WP m_X10_check Q 41 [some (.ref 0), some (.int w1), some (.int w2), some (.int u3)] [] sh M 0 0 := by
  have k0 : kd sh 0 = some (9 + 7, 0) := hb1.1
  have k1 : rf sh 0 8 = some 15 := hb1.2.2.2.2.2.2.2.2.2.1
  have k2 : kd sh 15 = some (0, 20) := hb1.2.2.2.2.2.2.2.2.2.2.2.1
  have k3 : rf sh 0 4 = some 122 := hb1.2.2.2.2.2.1
  have k4 : kd sh 122 = some (2 + 7, 0) := hb1.2.2.2.2.2.2.2.2.2.2.2.2.2.2.2.2.1.1
  have k5 : rf sh 122 5 = some 129 := hb1.2.2.2.2.2.2.2.2.2.2.2.2.2.2.2.2.1.2.2.2.2.2.2.1
  have k6 : kd sh 129 = some (7 + 7, 0) := hb1.2.2.2.2.2.2.2.2.2.2.2.2.2.2.2.2.1.2.2.2.2.2.2.2.2.2.2.1.1
  intro n
  induction n with
  | zero =>
    intro u3 M hH hq
    exact hH.elim
  | succ n ih =>
    intro u3 M hH hq
    unfold T_X10_check_41 at hH
    refine r_iload_n e_X10_check_41 rfl ?_
    refine r_iload_n e_X10_check_42 rfl ?_
    refine r_icmp_ge e_X10_check_43 (fun h43_4101 => ?_) (fun h43_4101 => ?_)
    · refine r_iload_n e_X10_check_83 rfl ?_
      refine r_iload_n e_X10_check_84 rfl ?_
      refine r_icmp_le e_X10_check_85 (fun h85_4102 => ?_) (fun h85_4102 => ?_)
      · refine r_iconst e_X10_check_93 ic_0 ?_
        refine r_ireturn e_X10_check_94 rfl ⟨rfl, rfl⟩ ?_
        (simp only [FV_X10_check_41, if_pos h43_4101, if_pos h85_4102] at hq; first | exact hq | (simp only [if_pos h43_4101, if_pos h85_4102]; exact hq))
      · refine r_bipush e_X10_check_88 bp_99 ?_
        refine r_goto e_X10_check_90 ?_
        refine r_ireturn e_X10_check_94 rfl ⟨rfl, rfl⟩ ?_
        (simp only [FV_X10_check_41, if_pos h43_4101, if_neg h85_4102] at hq; first | exact hq | (simp only [if_pos h43_4101, if_neg h85_4102]; exact hq))
    · refine r_iload_n e_X10_check_46 rfl ?_
      refine r_iload_n e_X10_check_47 rfl ?_
      refine r_icmp_ge e_X10_check_48 (fun h48_4103 => ?_) (fun h48_4103 => ?_)
      · refine r_iconst e_X10_check_73 ic_1 ?_
        refine r_iload_n e_X10_check_74 rfl ?_
        refine r_iadd e_X10_check_75 ?_
        refine r_ireturn e_X10_check_76 rfl ⟨rfl, rfl⟩ ?_
        (simp only [FV_X10_check_41, if_neg h43_4101, if_pos h48_4103] at hq; first | exact hq | (simp only [if_neg h43_4101, if_pos h48_4103]; exact hq))
      · refine r_aload_n e_X10_check_51 rfl ?_
        refine r_getR e_X10_check_52 fl_X10_45 k0 k1 ?_
        refine r_iload_n e_X10_check_55 rfl ?_
        refine cS2v e_X10_check_56 cl_X10_192 ⟨Nat.le_of_ble_eq_true rfl, Nat.le_of_ble_eq_true rfl⟩ ⟨rfl, rfl⟩  (Nat.le_of_ble_eq_true rfl) (S_X10_at k2 (by first | decide | (unfold vp_in; decide) | exact Or.inl rfl | exact Or.inr rfl)) ?_
        refine r_aload_n e_X10_check_59 rfl ?_
        refine r_getR e_X10_check_60 fl_X10_63 k0 k3 ?_
        refine r_getR e_X10_check_63 fl_X10_143 k4 k5 ?_
        refine r_iload_n e_X10_check_66 rfl ?_
        refine cV1v e_X10_check_67 cl_X10_151 ⟨Nat.le_of_ble_eq_true rfl, Nat.le_of_ble_eq_true rfl⟩ ⟨rfl, rfl⟩ k6 (Nat.le_of_ble_eq_true rfl) (S_X7_goalAt hb1.2.2.2.2.2.2.2.2.2.2.2.2.2.2.2.2.1.2.2.2.2.2.2.2.2.2.2.1) ?_
        refine r_icmp_eq e_X10_check_70 (fun h70_4104 => ?_) (fun h70_4104 => ?_)
        · refine p_iinc_4_3 e_X10_check_77 rfl ic_1 rfl ?_
          refine r_goto e_X10_check_80 ?_
          (simp only [FV_X10_check_41, if_neg h43_4101, if_neg h48_4103, if_pos h70_4104] at hq; (try simp only [if_neg h43_4101, if_neg h48_4103, if_pos h70_4104] at hH); first | exact ih _ _ hH hq | (simp only [if_neg h43_4101, if_neg h48_4103, if_pos h70_4104]; exact ih _ _ hH hq))
        · refine r_iconst e_X10_check_73 ic_1 ?_
          refine r_iload_n e_X10_check_74 rfl ?_
          refine r_iadd e_X10_check_75 ?_
          refine r_ireturn e_X10_check_76 rfl ⟨rfl, rfl⟩ ?_
          (simp only [FV_X10_check_41, if_neg h43_4101, if_neg h48_4103, if_neg h70_4104] at hq; first | exact hq | (simp only [if_neg h43_4101, if_neg h48_4103, if_neg h70_4104]; exact hq))
def V_X10_check (M : Mem) : Int32 := if (M.1 122 6) = 0 then (V_X10_finding (-1003 : Int32) (setI M 0 9 (0 : Int32))) else (FV_X10_check_41 (M.1 0 9) (V_X7_listed 129 (setI M 0 9 (0 : Int32))) FUEL (0 : Int32) (setI M 0 9 (0 : Int32)))
def U_X10_check (M : Mem) : Mem := if (M.1 122 6) = 0 then (U_X10_finding (-1003 : Int32) (setI M 0 9 (0 : Int32))) else (setI M 0 9 (0 : Int32))
def P_X10_check (M : Mem) : Prop := (¬ ((M.1 122 6) = 0) → T_X10_check_41 (M.1 0 9) (V_X7_listed 129 (setI M 0 9 (0 : Int32))) FUEL (0 : Int32) (setI M 0 9 (0 : Int32)))
theorem S_X10_check {sh : List SC} {M : Mem}   (hb1 : PitchAt sh)  (hP : P_X10_check  M) : Gv m_X10_check [.ref 0] sh M (.int (V_X10_check  M)) (U_X10_check  M) := by
  refine Sp.of (ls := [some (.ref 0), none, none, none]) (by decide +kernel) (Nat.le_of_ble_eq_true rfl) rfl ?_
  have g1 : ¬ ((M.1 122 6) = 0) → T_X10_check_41 (M.1 0 9) (V_X7_listed 129 (setI M 0 9 (0 : Int32))) FUEL (0 : Int32) (setI M 0 9 (0 : Int32)) := hP
  have k0 : kd sh 0 = some (9 + 7, 0) := hb1.1
  have k1 : rf sh 0 4 = some 122 := hb1.2.2.2.2.2.1
  have k2 : kd sh 122 = some (2 + 7, 0) := hb1.2.2.2.2.2.2.2.2.2.2.2.2.2.2.2.2.1.1
  have k3 : rf sh 122 5 = some 129 := hb1.2.2.2.2.2.2.2.2.2.2.2.2.2.2.2.2.1.2.2.2.2.2.2.1
  have k4 : kd sh 129 = some (7 + 7, 0) := hb1.2.2.2.2.2.2.2.2.2.2.2.2.2.2.2.2.1.2.2.2.2.2.2.2.2.2.2.1.1
  refine r_aload_n e_X10_check_0 rfl ?_
  refine r_getI e_X10_check_1 fl_X10_48 i0 k0 ?_
  refine p_istore_n_4_1 e_X10_check_4 rfl rfl ?_
  refine r_aload_n e_X10_check_5 rfl ?_
  refine r_iconst e_X10_check_6 ic_0 ?_
  refine r_putI e_X10_check_7 fl_X10_48 k0 ?_
  refine r_aload_n e_X10_check_10 rfl ?_
  refine r_getR e_X10_check_11 fl_X10_63 k0 k1 ?_
  refine r_getIe e_X10_check_14 fl_X10_115 i3 k2 (gs_nI (by decide)) ?_
  refine r_if_ne e_X10_check_17 (fun h17_0 => ?_) (fun h17_0 => ?_)
  · refine r_aload_n e_X10_check_28 rfl ?_
    refine r_getR e_X10_check_29 fl_X10_63 k0 k1 ?_
    refine r_getR e_X10_check_32 fl_X10_143 k2 k3 ?_
    refine cV0v e_X10_check_35 cl_X10_148 ⟨Nat.le_of_ble_eq_true rfl, Nat.le_of_ble_eq_true rfl⟩ ⟨rfl, rfl⟩ k4 (Nat.le_of_ble_eq_true rfl) (S_X7_listed hb1.2.2.2.2.2.2.2.2.2.2.2.2.2.2.2.2.1.2.2.2.2.2.2.2.2.2.2.1) ?_
    refine p_istore_n_4_2 e_X10_check_38 rfl rfl ?_
    refine r_iconst e_X10_check_39 ic_0 ?_
    refine p_istore_n_4_3 e_X10_check_40 rfl rfl ?_
    refine L_X10_check_41 hb1 FUEL (0 : Int32) (setI M 0 9 (0 : Int32)) (g1 h17_0) ?_
    (refine ⟨?_, rfl, ?_⟩ <;> ((try unfold V_X10_check); (try unfold U_X10_check); (try simp only [if_neg h17_0]); (try rfl)))
  · refine r_aload_n e_X10_check_20 rfl ?_
    refine r_sipush e_X10_check_21 sp_m1003 ?_
    refine cV1v e_X10_check_24 cl_X10_70 ⟨Nat.le_of_ble_eq_true rfl, Nat.le_of_ble_eq_true rfl⟩ ⟨rfl, rfl⟩ k0 (Nat.le_of_ble_eq_true rfl) (S_X10_finding hb1) ?_
    refine r_ireturn e_X10_check_27 rfl ⟨rfl, rfl⟩ ?_
    (refine ⟨?_, rfl, ?_⟩ <;> ((try unfold V_X10_check); (try unfold U_X10_check); (try simp only [if_pos h17_0]); (try rfl)))
def V_X10_count (x1 : Int32) (M : Mem) : Int32 := if x1 = 0 then (M.1 0 10) else (if x1 = 1 then (V_X4_length 2 M) else (if x1 = 2 then (let v0_0 : Int32 := if (M.1 0 10) = 0 then (0 : Int32) else (M.1 (16 + 15 * 0) 0); v0_0) else (if x1 = 3 then (M.1 0 9) else (if x1 = 4 then (let v1_0 : Int32 := if (M.1 122 6) = 0 then (0 : Int32) else (1 : Int32); v1_0) else (V_X10_finding (-1001 : Int32) M)))))
def U_X10_count (x1 : Int32) (M : Mem) : Mem := if x1 = 0 then M else (if x1 = 1 then M else (if x1 = 2 then M else (if x1 = 3 then M else (if x1 = 4 then M else (U_X10_finding (-1001 : Int32) M)))))
theorem S_X10_count {sh : List SC} {M : Mem} {x1 : Int32}  (hb1 : PitchAt sh)  : Gv m_X10_count [.ref 0, .int x1] sh M (.int (V_X10_count x1 M)) (U_X10_count x1 M) := by
  refine Sp.of (ls := [some (.ref 0), some (.int x1)]) (by decide +kernel) (Nat.le_of_ble_eq_true rfl) rfl ?_
  have k0 : kd sh 0 = some (9 + 7, 0) := hb1.1
  have k1 : rf sh 0 1 = some 2 := hb1.2.2.1
  have k2 : kd sh 2 = some (4 + 7, 0) := hb1.2.2.2.2.2.2.2.2.2.2.2.2.2.2.1.1
  have k3 : rf sh 0 2 = some 8 := hb1.2.2.2.1
  have k4 : kd sh 8 = some (3, 6) := hb1.2.2.2.2.2.2.2.2.2.2.2.2.2.2.2.2.2.2.1
  have k5 : kd sh (16 + 15 * 0) = some (3 + 7, 0) := (hb1.2.2.2.2.2.2.2.2.2.2.2.2.2.2.2.2.2.2.2.1 0 (by decide)).2.1
  have k6 : rf sh 0 4 = some 122 := hb1.2.2.2.2.2.1
  have k7 : kd sh 122 = some (2 + 7, 0) := hb1.2.2.2.2.2.2.2.2.2.2.2.2.2.2.2.2.1.1
  refine r_iload_n e_X10_count_0 rfl ?_
  by_cases hs1_0 : x1 = 0
  · refine r_tabIn (tgt := 36) (off := 35) e_X10_count_1 (by rw [hs1_0]; decide) (by rw [hs1_0]; decide) (by rw [hs1_0]; rfl) (by decide) ?_
    refine r_aload_n e_X10_count_36 rfl ?_
    refine r_getI e_X10_count_37 fl_X10_52 i0 k0 ?_
    refine r_ireturn e_X10_count_40 rfl ⟨rfl, rfl⟩ ?_
    (refine ⟨?_, rfl, ?_⟩ <;> ((try unfold V_X10_count); (try unfold U_X10_count); (try simp only [if_pos hs1_0]); (try rfl)))
  · by_cases hs1_1 : x1 = 1
    · refine r_tabIn (tgt := 41) (off := 40) e_X10_count_1 (by rw [hs1_1]; decide) (by rw [hs1_1]; decide) (by rw [hs1_1]; rfl) (by decide) ?_
      refine r_aload_n e_X10_count_41 rfl ?_
      refine r_getR e_X10_count_42 fl_X10_16 k0 k1 ?_
      refine cV0v e_X10_count_45 cl_X10_74 ⟨Nat.le_of_ble_eq_true rfl, Nat.le_of_ble_eq_true rfl⟩ ⟨rfl, rfl⟩ k2 (Nat.le_of_ble_eq_true rfl) (S_X4_length hb1.2.2.2.2.2.2.2.2.2.2.2.2.2.2.1) ?_
      refine r_ireturn e_X10_count_48 rfl ⟨rfl, rfl⟩ ?_
      (refine ⟨?_, rfl, ?_⟩ <;> ((try unfold V_X10_count); (try unfold U_X10_count); (try simp only [if_neg hs1_0, if_pos hs1_1]); (try rfl)))
    · by_cases hs1_2 : x1 = 2
      · refine r_tabIn (tgt := 49) (off := 48) e_X10_count_1 (by rw [hs1_2]; decide) (by rw [hs1_2]; decide) (by rw [hs1_2]; rfl) (by decide) ?_
        refine r_aload_n e_X10_count_49 rfl ?_
        refine r_getI e_X10_count_50 fl_X10_52 i0 k0 ?_
        obtain ⟨v0_0, e_v0_0⟩ : ∃ z : Int32, z = (if (M.1 0 10) = 0 then (0 : Int32) else (M.1 (16 + 15 * 0) 0)) := ⟨_, rfl⟩
        suffices j69_0 : WP m_X10_count (fun r sh' M'' => r = some (.int (V_X10_count x1 M)) ∧ sh' = sh ∧ M'' = (U_X10_count x1 M)) 69 [some (.ref 0), some (.int x1)] [.int v0_0] sh M 0 0 by
          refine r_if_ne e_X10_count_53 (fun h53_0 => ?_) (fun h53_0 => ?_)
          · refine r_aload_n e_X10_count_60 rfl ?_
            refine r_getR e_X10_count_61 fl_X10_22 k0 k3 ?_
            refine r_iconst e_X10_count_64 ic_0 ?_
            refine r_aaload (b := (16 + 15 * 0)) e_X10_count_65 k4 ⟨by decide, by decide⟩ (by unfold vp_in; decide) (show rf sh 8 (0 : Int32).toNatClampNeg = some (16 + 15 * 0) from (hb1.2.2.2.2.2.2.2.2.2.2.2.2.2.2.2.2.2.2.2.1 0 (by decide)).1) ?_
            refine r_getI e_X10_count_66 fl_X10_196 i0 k5 ?_
            (rw [show v0_0 = (M.1 (16 + 15 * 0) 0) from (e_v0_0.trans (if_neg h53_0))] at j69_0; exact j69_0)
          · refine r_iconst e_X10_count_56 ic_0 ?_
            refine r_goto e_X10_count_57 ?_
            (rw [show v0_0 = (0 : Int32) from (e_v0_0.trans (if_pos h53_0))] at j69_0; exact j69_0)
        refine r_ireturn e_X10_count_69 rfl ⟨rfl, rfl⟩ ?_
        (subst e_v0_0; refine ⟨?_, rfl, ?_⟩ <;> ((try unfold V_X10_count); (try unfold U_X10_count); (try simp only [if_neg hs1_0, if_neg hs1_1, if_pos hs1_2]); (try rfl)))
      · by_cases hs1_3 : x1 = 3
        · refine r_tabIn (tgt := 70) (off := 69) e_X10_count_1 (by rw [hs1_3]; decide) (by rw [hs1_3]; decide) (by rw [hs1_3]; rfl) (by decide) ?_
          refine r_aload_n e_X10_count_70 rfl ?_
          refine r_getI e_X10_count_71 fl_X10_48 i0 k0 ?_
          refine r_ireturn e_X10_count_74 rfl ⟨rfl, rfl⟩ ?_
          (refine ⟨?_, rfl, ?_⟩ <;> ((try unfold V_X10_count); (try unfold U_X10_count); (try simp only [if_neg hs1_0, if_neg hs1_1, if_neg hs1_2, if_pos hs1_3]); (try rfl)))
        · by_cases hs1_4 : x1 = 4
          · refine r_tabIn (tgt := 75) (off := 74) e_X10_count_1 (by rw [hs1_4]; decide) (by rw [hs1_4]; decide) (by rw [hs1_4]; rfl) (by decide) ?_
            refine r_aload_n e_X10_count_75 rfl ?_
            refine r_getR e_X10_count_76 fl_X10_63 k0 k6 ?_
            refine r_getI e_X10_count_79 fl_X10_115 i3 k7 ?_
            obtain ⟨v1_0, e_v1_0⟩ : ∃ z : Int32, z = (if (M.1 122 6) = 0 then (0 : Int32) else (1 : Int32)) := ⟨_, rfl⟩
            have z_v1_0 : v1_0 = 0 ∨ v1_0 = 1 := by rw [e_v1_0]; exact (zi (Or.inl rfl) (Or.inr rfl))
            suffices j90_1 : WP m_X10_count (fun r sh' M'' => r = some (.int (V_X10_count x1 M)) ∧ sh' = sh ∧ M'' = (U_X10_count x1 M)) 90 [some (.ref 0), some (.int x1)] [.int v1_0] sh M 0 0 by
              refine r_if_eq e_X10_count_82 (fun h82_1 => ?_) (fun h82_1 => ?_)
              · refine r_iconst e_X10_count_89 ic_0 ?_
                (rw [show v1_0 = (0 : Int32) from (e_v1_0.trans (if_pos h82_1))] at j90_1; exact j90_1)
              · refine r_iconst e_X10_count_85 ic_1 ?_
                refine r_goto e_X10_count_86 ?_
                (rw [show v1_0 = (1 : Int32) from (e_v1_0.trans (if_neg h82_1))] at j90_1; exact j90_1)
            refine r_ireturn e_X10_count_90 rfl ⟨rfl, rfl⟩ ?_
            (subst e_v1_0; refine ⟨?_, rfl, ?_⟩ <;> ((try unfold V_X10_count); (try unfold U_X10_count); (try simp only [if_neg hs1_0, if_neg hs1_1, if_neg hs1_2, if_neg hs1_3, if_pos hs1_4]); (try rfl)))
          · refine r_tabOut (tgt := 91) e_X10_count_1 (by have q0 := lv_neT hs1_0 (show (0 : Int32).toInt = 0 from rfl); have q1 := lv_neT hs1_1 (show (1 : Int32).toInt = 1 from rfl); have q2 := lv_neT hs1_2 (show (2 : Int32).toInt = 2 from rfl); have q3 := lv_neT hs1_3 (show (3 : Int32).toInt = 3 from rfl); have q4 := lv_neT hs1_4 (show (4 : Int32).toInt = 4 from rfl); omega) (by decide) ?_
            refine r_aload_n e_X10_count_91 rfl ?_
            refine r_sipush e_X10_count_92 sp_m1001 ?_
            refine cV1v e_X10_count_95 cl_X10_70 ⟨Nat.le_of_ble_eq_true rfl, Nat.le_of_ble_eq_true rfl⟩ ⟨rfl, rfl⟩ k0 (Nat.le_of_ble_eq_true rfl) (S_X10_finding hb1) ?_
            refine r_ireturn e_X10_count_98 rfl ⟨rfl, rfl⟩ ?_
            (refine ⟨?_, rfl, ?_⟩ <;> ((try unfold V_X10_count); (try unfold U_X10_count); (try simp only [if_neg hs1_0, if_neg hs1_1, if_neg hs1_2, if_neg hs1_3, if_neg hs1_4]); (try rfl)))
def V_X10_found (x1 : Int32) (M : Mem) : Int32 := if (-1001 : Int32) < x1 then (V_X10_finding (-1001 : Int32) M) else (if (-1006 : Int32) < x1 then (V_X10_at 1 ((-1001 : Int32) - x1) 5 M) else (V_X10_finding (-1001 : Int32) M))
def U_X10_found (x1 : Int32) (M : Mem) : Mem := if (-1001 : Int32) < x1 then (U_X10_finding (-1001 : Int32) M) else (if (-1006 : Int32) < x1 then M else (U_X10_finding (-1001 : Int32) M))
theorem S_X10_found {sh : List SC} {M : Mem} {x1 : Int32}  (hb1 : PitchAt sh)  : Gv m_X10_found [.ref 0, .int x1] sh M (.int (V_X10_found x1 M)) (U_X10_found x1 M) := by
  refine Sp.of (ls := [some (.ref 0), some (.int x1)]) (by decide +kernel) (Nat.le_of_ble_eq_true rfl) rfl ?_
  have k0 : kd sh 0 = some (9 + 7, 0) := hb1.1
  have k1 : rf sh 0 0 = some 1 := hb1.2.1
  have k2 : kd sh 1 = some (0, 5) := hb1.2.2.2.2.2.2.2.2.2.2.1
  refine r_iload_n e_X10_found_0 rfl ?_
  refine r_sipush e_X10_found_1 sp_m1001 ?_
  refine r_icmp_gt e_X10_found_4 (fun h4_0 => ?_) (fun h4_0 => ?_)
  · refine r_aload_n e_X10_found_14 rfl ?_
    refine r_sipush e_X10_found_15 sp_m1001 ?_
    refine cV1v e_X10_found_18 cl_X10_70 ⟨Nat.le_of_ble_eq_true rfl, Nat.le_of_ble_eq_true rfl⟩ ⟨rfl, rfl⟩ k0 (Nat.le_of_ble_eq_true rfl) (S_X10_finding hb1) ?_
    refine r_ireturn e_X10_found_21 rfl ⟨rfl, rfl⟩ ?_
    (refine ⟨?_, rfl, ?_⟩ <;> ((try unfold V_X10_found); (try unfold U_X10_found); (try simp only [if_pos h4_0]); (try rfl)))
  · refine r_iload_n e_X10_found_7 rfl ?_
    refine r_sipush e_X10_found_8 sp_m1006 ?_
    refine r_icmp_gt e_X10_found_11 (fun h11_1 => ?_) (fun h11_1 => ?_)
    · refine r_aload_n e_X10_found_22 rfl ?_
      refine r_getR e_X10_found_23 fl_X10_9 k0 k1 ?_
      refine r_sipush e_X10_found_26 sp_m1001 ?_
      refine r_iload_n e_X10_found_29 rfl ?_
      refine r_isub e_X10_found_30 ?_
      refine cS2v e_X10_found_31 cl_X10_192 ⟨Nat.le_of_ble_eq_true rfl, Nat.le_of_ble_eq_true rfl⟩ ⟨rfl, rfl⟩  (Nat.le_of_ble_eq_true rfl) (S_X10_at k2 (by first | decide | (unfold vp_in; decide) | exact Or.inl rfl | exact Or.inr rfl)) ?_
      refine r_ireturn e_X10_found_34 rfl ⟨rfl, rfl⟩ ?_
      (refine ⟨?_, rfl, ?_⟩ <;> ((try unfold V_X10_found); (try unfold U_X10_found); (try simp only [if_neg h4_0, if_pos h11_1]); (try rfl)))
    · refine r_aload_n e_X10_found_14 rfl ?_
      refine r_sipush e_X10_found_15 sp_m1001 ?_
      refine cV1v e_X10_found_18 cl_X10_70 ⟨Nat.le_of_ble_eq_true rfl, Nat.le_of_ble_eq_true rfl⟩ ⟨rfl, rfl⟩ k0 (Nat.le_of_ble_eq_true rfl) (S_X10_finding hb1) ?_
      refine r_ireturn e_X10_found_21 rfl ⟨rfl, rfl⟩ ?_
      (refine ⟨?_, rfl, ?_⟩ <;> ((try unfold V_X10_found); (try unfold U_X10_found); (try simp only [if_neg h4_0, if_neg h11_1]); (try rfl)))
def V_X11_finding (x1 : Int32) (M : Mem) : Int32 := x1
def U_X11_finding (x1 : Int32) (M : Mem) : Mem := setI M 253 ((-1000 : Int32) - x1).toNatClampNeg ((M.1 253 ((-1000 : Int32) - x1).toNatClampNeg) + (1 : Int32))
theorem S_X11_finding {sh : List SC} {M : Mem} {x1 : Int32} {mA : Nat} {oA : Nat} (hb1 : ModelAt sh mA oA) (g1 : vp_in ((-1000 : Int32) - x1) 6) : Gv m_X11_finding [.ref 242, .int x1] sh M (.int (V_X11_finding x1 M)) (U_X11_finding x1 M) := by
  refine Sp.of (ls := [some (.ref 242), some (.int x1)]) (by decide +kernel) (Nat.le_of_ble_eq_true rfl) rfl ?_
  have k0 : kd sh 242 = some (10 + 7, 0) := hb1.1
  have k1 : rf sh 242 21 = some 253 := hb1.2.2.2.2.2.2.2.2.2.2.2.1
  have k2 : kd sh 253 = some (0, 6) := hb1.2.2.2.2.2.2.2.2.2.2.2.2.2.2.2.2.2.2.2.2.2.2.2.2.2.2.2.2.2.2.2.2.2.2.2.2.2.1
  refine r_aload_n e_X11_finding_0 rfl ?_
  refine r_getR e_X11_finding_1 fl_X11_189 k0 k1 ?_
  refine r_sipush e_X11_finding_4 sp_m1000 ?_
  refine r_iload_n e_X11_finding_7 rfl ?_
  refine r_isub e_X11_finding_8 ?_
  refine r_dup2 e_X11_finding_9 rfl rfl ?_
  refine r_iaload e_X11_finding_10 k2 g1 ?_
  refine r_iconst e_X11_finding_11 ic_1 ?_
  refine r_iadd e_X11_finding_12 ?_
  refine r_iastore e_X11_finding_13 k2 g1 ?_
  refine r_iload_n e_X11_finding_14 rfl ?_
  refine r_ireturn e_X11_finding_15 rfl ⟨rfl, rfl⟩ ?_
  (refine ⟨?_, rfl, ?_⟩ <;> ((try unfold V_X11_finding); (try unfold U_X11_finding); (try simp only []); (try rfl)))
def V_X11_at (x1 : Int32) (M : Mem) : Int32 := (let v0_0 : Int32 := if (M.1 242 1) ≤ x1 then (-1 : Int32) else (M.1 243 x1.toNatClampNeg); v0_0)
def P_X11_at (x1 : Int32) (M : Mem) : Prop := (¬ ((M.1 242 1) ≤ x1) → vp_in x1 800)
theorem S_X11_at {sh : List SC} {M : Mem} {x1 : Int32} {mA : Nat} {oA : Nat} (hb1 : ModelAt sh mA oA)  (hP : P_X11_at x1 M) : Gv m_X11_at [.ref 242, .int x1] sh M (.int (V_X11_at x1 M)) M := by
  refine Sp.of (ls := [some (.ref 242), some (.int x1)]) (by decide +kernel) (Nat.le_of_ble_eq_true rfl) rfl ?_
  have g1 : ¬ ((M.1 242 1) ≤ x1) → vp_in x1 800 := hP
  have k0 : kd sh 242 = some (10 + 7, 0) := hb1.1
  have k1 : rf sh 242 0 = some 243 := hb1.2.1
  have k2 : kd sh 243 = some (0, 800) := hb1.2.2.2.2.2.2.2.2.2.2.2.2.2.2.2.2.2.2.2.2.2.2.2.2.2.2.2.1
  refine r_iload_n e_X11_at_0 rfl ?_
  refine r_aload_n e_X11_at_1 rfl ?_
  refine r_getI e_X11_at_2 fl_X11_1 i0 k0 ?_
  obtain ⟨v0_0, e_v0_0⟩ : ∃ z : Int32, z = (if (M.1 242 1) ≤ x1 then (-1 : Int32) else (M.1 243 x1.toNatClampNeg)) := ⟨_, rfl⟩
  suffices j18_0 : WP m_X11_at (fun r sh' M'' => r = some (.int (V_X11_at x1 M)) ∧ sh' = sh ∧ M'' = M) 18 [some (.ref 242), some (.int x1)] [.int v0_0] sh M 0 0 by
    refine r_icmp_ge e_X11_at_5 (fun h5_0 => ?_) (fun h5_0 => ?_)
    · refine r_iconst e_X11_at_17 ic_m1 ?_
      (rw [show v0_0 = (-1 : Int32) from (e_v0_0.trans (if_pos h5_0))] at j18_0; exact j18_0)
    · refine r_aload_n e_X11_at_8 rfl ?_
      refine r_getR e_X11_at_9 fl_X11_7 k0 k1 ?_
      refine r_iload_n e_X11_at_12 rfl ?_
      refine r_iaload e_X11_at_13 k2 (g1 h5_0) ?_
      refine r_goto e_X11_at_14 ?_
      (rw [show v0_0 = (M.1 243 x1.toNatClampNeg) from (e_v0_0.trans (if_neg h5_0))] at j18_0; exact j18_0)
  refine r_ireturn e_X11_at_18 rfl ⟨rfl, rfl⟩ ?_
  (subst e_v0_0; refine ⟨?_, rfl, ?_⟩ <;> ((try unfold V_X11_at); (try simp only []); (try rfl)))
def V_X11_isLetter (x1 : Int32) (M : Mem) : Int32 := (let v0_0 : Int32 := if x1 < (97 : Int32) then (0 : Int32) else (if (122 : Int32) < x1 then (0 : Int32) else (1 : Int32)); v0_0)
theorem Z_X11_isLetter {M : Mem} {x1 : Int32}   : V_X11_isLetter x1 M = 0 ∨ V_X11_isLetter x1 M = 1 := (zi (Or.inl rfl) (zi (Or.inl rfl) (Or.inr rfl)))
theorem S_X11_isLetter {sh : List SC} {M : Mem} {x1 : Int32}    : Gv m_X11_isLetter [.int x1] sh M (.int (V_X11_isLetter x1 M)) M := by
  refine Sp.of (ls := [some (.int x1)]) (by decide +kernel) (Nat.le_of_ble_eq_true rfl) rfl ?_
  refine r_iload_n e_X11_isLetter_0 rfl ?_
  refine r_bipush e_X11_isLetter_1 bp_97 ?_
  obtain ⟨v0_0, e_v0_0⟩ : ∃ z : Int32, z = (if x1 < (97 : Int32) then (0 : Int32) else (if (122 : Int32) < x1 then (0 : Int32) else (1 : Int32))) := ⟨_, rfl⟩
  have z_v0_0 : v0_0 = 0 ∨ v0_0 = 1 := by rw [e_v0_0]; exact (zi (Or.inl rfl) (zi (Or.inl rfl) (Or.inr rfl)))
  suffices j17_0 : WP m_X11_isLetter (fun r sh' M'' => r = some (.int (V_X11_isLetter x1 M)) ∧ sh' = sh ∧ M'' = M) 17 [some (.int x1)] [.int v0_0] sh M 0 0 by
    refine r_icmp_lt e_X11_isLetter_3 (fun h3_0 => ?_) (fun h3_0 => ?_)
    · refine r_iconst e_X11_isLetter_16 ic_0 ?_
      (rw [show v0_0 = (0 : Int32) from (e_v0_0.trans (if_pos h3_0))] at j17_0; exact j17_0)
    · refine r_iload_n e_X11_isLetter_6 rfl ?_
      refine r_bipush e_X11_isLetter_7 bp_122 ?_
      refine r_icmp_gt e_X11_isLetter_9 (fun h9_1 => ?_) (fun h9_1 => ?_)
      · refine r_iconst e_X11_isLetter_16 ic_0 ?_
        (rw [show v0_0 = (0 : Int32) from ((e_v0_0.trans (if_neg h3_0)).trans (if_pos h9_1))] at j17_0; exact j17_0)
      · refine r_iconst e_X11_isLetter_12 ic_1 ?_
        refine r_goto e_X11_isLetter_13 ?_
        (rw [show v0_0 = (1 : Int32) from ((e_v0_0.trans (if_neg h3_0)).trans (if_neg h9_1))] at j17_0; exact j17_0)
  refine r_zreturn e_X11_isLetter_17 rfl ⟨rfl, rfl⟩ z_v0_0 ?_
  (subst e_v0_0; refine ⟨?_, rfl, ?_⟩ <;> ((try unfold V_X11_isLetter); (try simp only []); (try rfl)))
def U_X11_findWord (M : Mem) : Mem := if (lg_cmp (M.2 242 7) (10492313 : Int64)) = 0 then (setI M 242 5 (10 : Int32)) else (if (lg_cmp (M.2 242 7) (458690 : Int64)) = 0 then (setI M 242 5 (11 : Int32)) else (if (lg_cmp (M.2 242 7) (1111 : Int64)) = 0 then (setI M 242 5 (12 : Int32)) else (if (lg_cmp (M.2 242 7) (204 : Int64)) = 0 then (setI M 242 5 (13 : Int32)) else (if (lg_cmp (M.2 242 7) (14006 : Int64)) = 0 then (setI M 242 5 (14 : Int32)) else (if (lg_cmp (M.2 242 7) (267413 : Int64)) = 0 then (setI M 242 5 (15 : Int32)) else (if (lg_cmp (M.2 242 7) (555 : Int64)) = 0 then (setI M 242 5 (16 : Int32)) else (if (lg_cmp (M.2 242 7) (223166 : Int64)) = 0 then (setI M 242 5 (17 : Int32)) else (if (lg_cmp (M.2 242 7) (388609 : Int64)) = 0 then (setI M 242 5 (18 : Int32)) else (if 0 ≤ (lg_cmp (M.2 242 7) (5 : Int64)) then (if (lg_cmp (M.2 242 7) (6943155 : Int64)) = 0 then (setI (setI M 242 5 (5 : Int32)) 242 6 (0 : Int32)) else (if (lg_cmp (M.2 242 7) (6943156 : Int64)) = 0 then (setI (setI M 242 5 (5 : Int32)) 242 6 (1 : Int32)) else (if (lg_cmp (M.2 242 7) (129192 : Int64)) = 0 then (setI (setI M 242 5 (5 : Int32)) 242 6 (2 : Int32)) else (if (lg_cmp (M.2 242 7) (129193 : Int64)) = 0 then (setI (setI M 242 5 (5 : Int32)) 242 6 (3 : Int32)) else (if (lg_cmp (M.2 242 7) (1091661 : Int64)) = 0 then (setI (setI M 242 5 (4 : Int32)) 242 6 (0 : Int32)) else (if (lg_cmp (M.2 242 7) (1091662 : Int64)) = 0 then (setI (setI M 242 5 (4 : Int32)) 242 6 (1 : Int32)) else (if (lg_cmp (M.2 242 7) (10176 : Int64)) = 0 then (setI (setI M 242 5 (4 : Int32)) 242 6 (2 : Int32)) else (if (lg_cmp (M.2 242 7) (10177 : Int64)) = 0 then (setI (setI M 242 5 (4 : Int32)) 242 6 (3 : Int32)) else (if (lg_cmp (M.2 242 7) (161437 : Int64)) = 0 then (setI (setI M 242 5 (4 : Int32)) 242 6 (4 : Int32)) else (if (lg_cmp (M.2 242 7) (400313 : Int64)) = 0 then (setI (setI M 242 5 (4 : Int32)) 242 6 (5 : Int32)) else (if (lg_cmp (M.2 242 7) (239872 : Int64)) = 0 then (setI (setI M 242 5 (4 : Int32)) 242 6 (6 : Int32)) else (if (lg_cmp (M.2 242 7) (279252 : Int64)) = 0 then (setI (setI M 242 5 (4 : Int32)) 242 6 (7 : Int32)) else (setI M 242 5 (1 : Int32)))))))))))))) else (setI (setI M 242 5 (3 : Int32)) 242 6 ((M.2 242 7).toInt32 - (1 : Int32))))))))))))
theorem S_X11_findWord {sh : List SC} {M : Mem}  {mA : Nat} {oA : Nat} (hb1 : ModelAt sh mA oA)  : Gu m_X11_findWord [.ref 242] sh M (U_X11_findWord  M) := by
  refine Sp.of (ls := [some (.ref 242), none, none]) (by decide +kernel) (Nat.le_of_ble_eq_true rfl) rfl ?_
  have k0 : kd sh 242 = some (10 + 7, 0) := hb1.1
  refine r_aload_n e_X11_findWord_0 rfl ?_
  refine r_getJ e_X11_findWord_1 fl_X11_24 k0 ?_
  refine p_lstore_n_3_1 e_X11_findWord_4 rfl rfl ?_
  refine r_lload_n e_X11_findWord_5 rfl ?_
  refine r_ldc2 e_X11_findWord_6 lc_X11_55 ?_
  refine r_lcmp e_X11_findWord_9 ?_
  refine r_if_ne e_X11_findWord_10 (fun h10_0 => ?_) (fun h10_0 => ?_)
  · refine r_lload_n e_X11_findWord_20 rfl ?_
    refine r_ldc2 e_X11_findWord_21 lc_X11_57 ?_
    refine r_lcmp e_X11_findWord_24 ?_
    refine r_if_ne e_X11_findWord_25 (fun h25_1 => ?_) (fun h25_1 => ?_)
    · refine r_lload_n e_X11_findWord_35 rfl ?_
      refine r_ldc2 e_X11_findWord_36 lc_X11_59 ?_
      refine r_lcmp e_X11_findWord_39 ?_
      refine r_if_ne e_X11_findWord_40 (fun h40_2 => ?_) (fun h40_2 => ?_)
      · refine r_lload_n e_X11_findWord_50 rfl ?_
        refine r_ldc2 e_X11_findWord_51 lc_X11_61 ?_
        refine r_lcmp e_X11_findWord_54 ?_
        refine r_if_ne e_X11_findWord_55 (fun h55_3 => ?_) (fun h55_3 => ?_)
        · refine r_lload_n e_X11_findWord_65 rfl ?_
          refine r_ldc2 e_X11_findWord_66 lc_X11_63 ?_
          refine r_lcmp e_X11_findWord_69 ?_
          refine r_if_ne e_X11_findWord_70 (fun h70_4 => ?_) (fun h70_4 => ?_)
          · refine r_lload_n e_X11_findWord_80 rfl ?_
            refine r_ldc2 e_X11_findWord_81 lc_X11_65 ?_
            refine r_lcmp e_X11_findWord_84 ?_
            refine r_if_ne e_X11_findWord_85 (fun h85_5 => ?_) (fun h85_5 => ?_)
            · refine r_lload_n e_X11_findWord_95 rfl ?_
              refine r_ldc2 e_X11_findWord_96 lc_X11_67 ?_
              refine r_lcmp e_X11_findWord_99 ?_
              refine r_if_ne e_X11_findWord_100 (fun h100_6 => ?_) (fun h100_6 => ?_)
              · refine r_lload_n e_X11_findWord_110 rfl ?_
                refine r_ldc2 e_X11_findWord_111 lc_X11_69 ?_
                refine r_lcmp e_X11_findWord_114 ?_
                refine r_if_ne e_X11_findWord_115 (fun h115_7 => ?_) (fun h115_7 => ?_)
                · refine r_lload_n e_X11_findWord_125 rfl ?_
                  refine r_ldc2 e_X11_findWord_126 lc_X11_71 ?_
                  refine r_lcmp e_X11_findWord_129 ?_
                  refine r_if_ne e_X11_findWord_130 (fun h130_8 => ?_) (fun h130_8 => ?_)
                  · refine r_lload_n e_X11_findWord_140 rfl ?_
                    refine r_ldc2 e_X11_findWord_141 lc_X11_73 ?_
                    refine r_lcmp e_X11_findWord_144 ?_
                    refine r_if_ge e_X11_findWord_145 (fun h145_9 => ?_) (fun h145_9 => ?_)
                    · refine r_lload_n e_X11_findWord_162 rfl ?_
                      refine r_ldc2 e_X11_findWord_163 lc_X11_75 ?_
                      refine r_lcmp e_X11_findWord_166 ?_
                      refine r_if_ne e_X11_findWord_167 (fun h167_10 => ?_) (fun h167_10 => ?_)
                      · refine r_lload_n e_X11_findWord_181 rfl ?_
                        refine r_ldc2 e_X11_findWord_182 lc_X11_77 ?_
                        refine r_lcmp e_X11_findWord_185 ?_
                        refine r_if_ne e_X11_findWord_186 (fun h186_11 => ?_) (fun h186_11 => ?_)
                        · refine r_lload_n e_X11_findWord_200 rfl ?_
                          refine r_ldc2 e_X11_findWord_201 lc_X11_79 ?_
                          refine r_lcmp e_X11_findWord_204 ?_
                          refine r_if_ne e_X11_findWord_205 (fun h205_12 => ?_) (fun h205_12 => ?_)
                          · refine r_lload_n e_X11_findWord_219 rfl ?_
                            refine r_ldc2 e_X11_findWord_220 lc_X11_81 ?_
                            refine r_lcmp e_X11_findWord_223 ?_
                            refine r_if_ne e_X11_findWord_224 (fun h224_13 => ?_) (fun h224_13 => ?_)
                            · refine r_lload_n e_X11_findWord_238 rfl ?_
                              refine r_ldc2 e_X11_findWord_239 lc_X11_83 ?_
                              refine r_lcmp e_X11_findWord_242 ?_
                              refine r_if_ne e_X11_findWord_243 (fun h243_14 => ?_) (fun h243_14 => ?_)
                              · refine r_lload_n e_X11_findWord_257 rfl ?_
                                refine r_ldc2 e_X11_findWord_258 lc_X11_85 ?_
                                refine r_lcmp e_X11_findWord_261 ?_
                                refine r_if_ne e_X11_findWord_262 (fun h262_15 => ?_) (fun h262_15 => ?_)
                                · refine r_lload_n e_X11_findWord_276 rfl ?_
                                  refine r_ldc2 e_X11_findWord_277 lc_X11_87 ?_
                                  refine r_lcmp e_X11_findWord_280 ?_
                                  refine r_if_ne e_X11_findWord_281 (fun h281_16 => ?_) (fun h281_16 => ?_)
                                  · refine r_lload_n e_X11_findWord_295 rfl ?_
                                    refine r_ldc2 e_X11_findWord_296 lc_X11_89 ?_
                                    refine r_lcmp e_X11_findWord_299 ?_
                                    refine r_if_ne e_X11_findWord_300 (fun h300_17 => ?_) (fun h300_17 => ?_)
                                    · refine r_lload_n e_X11_findWord_314 rfl ?_
                                      refine r_ldc2 e_X11_findWord_315 lc_X11_91 ?_
                                      refine r_lcmp e_X11_findWord_318 ?_
                                      refine r_if_ne e_X11_findWord_319 (fun h319_18 => ?_) (fun h319_18 => ?_)
                                      · refine r_lload_n e_X11_findWord_333 rfl ?_
                                        refine r_ldc2 e_X11_findWord_334 lc_X11_93 ?_
                                        refine r_lcmp e_X11_findWord_337 ?_
                                        refine r_if_ne e_X11_findWord_338 (fun h338_19 => ?_) (fun h338_19 => ?_)
                                        · refine r_lload_n e_X11_findWord_352 rfl ?_
                                          refine r_ldc2 e_X11_findWord_353 lc_X11_95 ?_
                                          refine r_lcmp e_X11_findWord_356 ?_
                                          refine r_if_ne e_X11_findWord_357 (fun h357_20 => ?_) (fun h357_20 => ?_)
                                          · refine r_lload_n e_X11_findWord_372 rfl ?_
                                            refine r_ldc2 e_X11_findWord_373 lc_X11_97 ?_
                                            refine r_lcmp e_X11_findWord_376 ?_
                                            refine r_if_ne e_X11_findWord_377 (fun h377_21 => ?_) (fun h377_21 => ?_)
                                            · refine r_aload_n e_X11_findWord_392 rfl ?_
                                              refine r_iconst e_X11_findWord_393 ic_1 ?_
                                              refine r_putI e_X11_findWord_394 fl_X11_28 k0 ?_
                                              refine r_return e_X11_findWord_397 rfl ⟨rfl, rfl⟩ ?_
                                              (refine ⟨?_, rfl, ?_⟩ <;> ((try unfold U_X11_findWord); (try simp only [if_neg h10_0, if_neg h25_1, if_neg h40_2, if_neg h55_3, if_neg h70_4, if_neg h85_5, if_neg h100_6, if_neg h115_7, if_neg h130_8, if_pos h145_9, if_neg h167_10, if_neg h186_11, if_neg h205_12, if_neg h224_13, if_neg h243_14, if_neg h262_15, if_neg h281_16, if_neg h300_17, if_neg h319_18, if_neg h338_19, if_neg h357_20, if_neg h377_21]); (try rfl)))
                                            · refine r_aload_n e_X11_findWord_380 rfl ?_
                                              refine r_iconst e_X11_findWord_381 ic_4 ?_
                                              refine r_putI e_X11_findWord_382 fl_X11_28 k0 ?_
                                              refine r_aload_n e_X11_findWord_385 rfl ?_
                                              refine r_bipush e_X11_findWord_386 bp_7 ?_
                                              refine r_putI e_X11_findWord_388 fl_X11_21 k0 ?_
                                              refine r_return e_X11_findWord_391 rfl ⟨rfl, rfl⟩ ?_
                                              (refine ⟨?_, rfl, ?_⟩ <;> ((try unfold U_X11_findWord); (try simp only [if_neg h10_0, if_neg h25_1, if_neg h40_2, if_neg h55_3, if_neg h70_4, if_neg h85_5, if_neg h100_6, if_neg h115_7, if_neg h130_8, if_pos h145_9, if_neg h167_10, if_neg h186_11, if_neg h205_12, if_neg h224_13, if_neg h243_14, if_neg h262_15, if_neg h281_16, if_neg h300_17, if_neg h319_18, if_neg h338_19, if_neg h357_20, if_pos h377_21]); (try rfl)))
                                          · refine r_aload_n e_X11_findWord_360 rfl ?_
                                            refine r_iconst e_X11_findWord_361 ic_4 ?_
                                            refine r_putI e_X11_findWord_362 fl_X11_28 k0 ?_
                                            refine r_aload_n e_X11_findWord_365 rfl ?_
                                            refine r_bipush e_X11_findWord_366 bp_6 ?_
                                            refine r_putI e_X11_findWord_368 fl_X11_21 k0 ?_
                                            refine r_return e_X11_findWord_371 rfl ⟨rfl, rfl⟩ ?_
                                            (refine ⟨?_, rfl, ?_⟩ <;> ((try unfold U_X11_findWord); (try simp only [if_neg h10_0, if_neg h25_1, if_neg h40_2, if_neg h55_3, if_neg h70_4, if_neg h85_5, if_neg h100_6, if_neg h115_7, if_neg h130_8, if_pos h145_9, if_neg h167_10, if_neg h186_11, if_neg h205_12, if_neg h224_13, if_neg h243_14, if_neg h262_15, if_neg h281_16, if_neg h300_17, if_neg h319_18, if_neg h338_19, if_pos h357_20]); (try rfl)))
                                        · refine r_aload_n e_X11_findWord_341 rfl ?_
                                          refine r_iconst e_X11_findWord_342 ic_4 ?_
                                          refine r_putI e_X11_findWord_343 fl_X11_28 k0 ?_
                                          refine r_aload_n e_X11_findWord_346 rfl ?_
                                          refine r_iconst e_X11_findWord_347 ic_5 ?_
                                          refine r_putI e_X11_findWord_348 fl_X11_21 k0 ?_
                                          refine r_return e_X11_findWord_351 rfl ⟨rfl, rfl⟩ ?_
                                          (refine ⟨?_, rfl, ?_⟩ <;> ((try unfold U_X11_findWord); (try simp only [if_neg h10_0, if_neg h25_1, if_neg h40_2, if_neg h55_3, if_neg h70_4, if_neg h85_5, if_neg h100_6, if_neg h115_7, if_neg h130_8, if_pos h145_9, if_neg h167_10, if_neg h186_11, if_neg h205_12, if_neg h224_13, if_neg h243_14, if_neg h262_15, if_neg h281_16, if_neg h300_17, if_neg h319_18, if_pos h338_19]); (try rfl)))
                                      · refine r_aload_n e_X11_findWord_322 rfl ?_
                                        refine r_iconst e_X11_findWord_323 ic_4 ?_
                                        refine r_putI e_X11_findWord_324 fl_X11_28 k0 ?_
                                        refine r_aload_n e_X11_findWord_327 rfl ?_
                                        refine r_iconst e_X11_findWord_328 ic_4 ?_
                                        refine r_putI e_X11_findWord_329 fl_X11_21 k0 ?_
                                        refine r_return e_X11_findWord_332 rfl ⟨rfl, rfl⟩ ?_
                                        (refine ⟨?_, rfl, ?_⟩ <;> ((try unfold U_X11_findWord); (try simp only [if_neg h10_0, if_neg h25_1, if_neg h40_2, if_neg h55_3, if_neg h70_4, if_neg h85_5, if_neg h100_6, if_neg h115_7, if_neg h130_8, if_pos h145_9, if_neg h167_10, if_neg h186_11, if_neg h205_12, if_neg h224_13, if_neg h243_14, if_neg h262_15, if_neg h281_16, if_neg h300_17, if_pos h319_18]); (try rfl)))
                                    · refine r_aload_n e_X11_findWord_303 rfl ?_
                                      refine r_iconst e_X11_findWord_304 ic_4 ?_
                                      refine r_putI e_X11_findWord_305 fl_X11_28 k0 ?_
                                      refine r_aload_n e_X11_findWord_308 rfl ?_
                                      refine r_iconst e_X11_findWord_309 ic_3 ?_
                                      refine r_putI e_X11_findWord_310 fl_X11_21 k0 ?_
                                      refine r_return e_X11_findWord_313 rfl ⟨rfl, rfl⟩ ?_
                                      (refine ⟨?_, rfl, ?_⟩ <;> ((try unfold U_X11_findWord); (try simp only [if_neg h10_0, if_neg h25_1, if_neg h40_2, if_neg h55_3, if_neg h70_4, if_neg h85_5, if_neg h100_6, if_neg h115_7, if_neg h130_8, if_pos h145_9, if_neg h167_10, if_neg h186_11, if_neg h205_12, if_neg h224_13, if_neg h243_14, if_neg h262_15, if_neg h281_16, if_pos h300_17]); (try rfl)))
                                  · refine r_aload_n e_X11_findWord_284 rfl ?_
                                    refine r_iconst e_X11_findWord_285 ic_4 ?_
                                    refine r_putI e_X11_findWord_286 fl_X11_28 k0 ?_
                                    refine r_aload_n e_X11_findWord_289 rfl ?_
                                    refine r_iconst e_X11_findWord_290 ic_2 ?_
                                    refine r_putI e_X11_findWord_291 fl_X11_21 k0 ?_
                                    refine r_return e_X11_findWord_294 rfl ⟨rfl, rfl⟩ ?_
                                    (refine ⟨?_, rfl, ?_⟩ <;> ((try unfold U_X11_findWord); (try simp only [if_neg h10_0, if_neg h25_1, if_neg h40_2, if_neg h55_3, if_neg h70_4, if_neg h85_5, if_neg h100_6, if_neg h115_7, if_neg h130_8, if_pos h145_9, if_neg h167_10, if_neg h186_11, if_neg h205_12, if_neg h224_13, if_neg h243_14, if_neg h262_15, if_pos h281_16]); (try rfl)))
                                · refine r_aload_n e_X11_findWord_265 rfl ?_
                                  refine r_iconst e_X11_findWord_266 ic_4 ?_
                                  refine r_putI e_X11_findWord_267 fl_X11_28 k0 ?_
                                  refine r_aload_n e_X11_findWord_270 rfl ?_
                                  refine r_iconst e_X11_findWord_271 ic_1 ?_
                                  refine r_putI e_X11_findWord_272 fl_X11_21 k0 ?_
                                  refine r_return e_X11_findWord_275 rfl ⟨rfl, rfl⟩ ?_
                                  (refine ⟨?_, rfl, ?_⟩ <;> ((try unfold U_X11_findWord); (try simp only [if_neg h10_0, if_neg h25_1, if_neg h40_2, if_neg h55_3, if_neg h70_4, if_neg h85_5, if_neg h100_6, if_neg h115_7, if_neg h130_8, if_pos h145_9, if_neg h167_10, if_neg h186_11, if_neg h205_12, if_neg h224_13, if_neg h243_14, if_pos h262_15]); (try rfl)))
                              · refine r_aload_n e_X11_findWord_246 rfl ?_
                                refine r_iconst e_X11_findWord_247 ic_4 ?_
                                refine r_putI e_X11_findWord_248 fl_X11_28 k0 ?_
                                refine r_aload_n e_X11_findWord_251 rfl ?_
                                refine r_iconst e_X11_findWord_252 ic_0 ?_
                                refine r_putI e_X11_findWord_253 fl_X11_21 k0 ?_
                                refine r_return e_X11_findWord_256 rfl ⟨rfl, rfl⟩ ?_
                                (refine ⟨?_, rfl, ?_⟩ <;> ((try unfold U_X11_findWord); (try simp only [if_neg h10_0, if_neg h25_1, if_neg h40_2, if_neg h55_3, if_neg h70_4, if_neg h85_5, if_neg h100_6, if_neg h115_7, if_neg h130_8, if_pos h145_9, if_neg h167_10, if_neg h186_11, if_neg h205_12, if_neg h224_13, if_pos h243_14]); (try rfl)))
                            · refine r_aload_n e_X11_findWord_227 rfl ?_
                              refine r_iconst e_X11_findWord_228 ic_5 ?_
                              refine r_putI e_X11_findWord_229 fl_X11_28 k0 ?_
                              refine r_aload_n e_X11_findWord_232 rfl ?_
                              refine r_iconst e_X11_findWord_233 ic_3 ?_
                              refine r_putI e_X11_findWord_234 fl_X11_21 k0 ?_
                              refine r_return e_X11_findWord_237 rfl ⟨rfl, rfl⟩ ?_
                              (refine ⟨?_, rfl, ?_⟩ <;> ((try unfold U_X11_findWord); (try simp only [if_neg h10_0, if_neg h25_1, if_neg h40_2, if_neg h55_3, if_neg h70_4, if_neg h85_5, if_neg h100_6, if_neg h115_7, if_neg h130_8, if_pos h145_9, if_neg h167_10, if_neg h186_11, if_neg h205_12, if_pos h224_13]); (try rfl)))
                          · refine r_aload_n e_X11_findWord_208 rfl ?_
                            refine r_iconst e_X11_findWord_209 ic_5 ?_
                            refine r_putI e_X11_findWord_210 fl_X11_28 k0 ?_
                            refine r_aload_n e_X11_findWord_213 rfl ?_
                            refine r_iconst e_X11_findWord_214 ic_2 ?_
                            refine r_putI e_X11_findWord_215 fl_X11_21 k0 ?_
                            refine r_return e_X11_findWord_218 rfl ⟨rfl, rfl⟩ ?_
                            (refine ⟨?_, rfl, ?_⟩ <;> ((try unfold U_X11_findWord); (try simp only [if_neg h10_0, if_neg h25_1, if_neg h40_2, if_neg h55_3, if_neg h70_4, if_neg h85_5, if_neg h100_6, if_neg h115_7, if_neg h130_8, if_pos h145_9, if_neg h167_10, if_neg h186_11, if_pos h205_12]); (try rfl)))
                        · refine r_aload_n e_X11_findWord_189 rfl ?_
                          refine r_iconst e_X11_findWord_190 ic_5 ?_
                          refine r_putI e_X11_findWord_191 fl_X11_28 k0 ?_
                          refine r_aload_n e_X11_findWord_194 rfl ?_
                          refine r_iconst e_X11_findWord_195 ic_1 ?_
                          refine r_putI e_X11_findWord_196 fl_X11_21 k0 ?_
                          refine r_return e_X11_findWord_199 rfl ⟨rfl, rfl⟩ ?_
                          (refine ⟨?_, rfl, ?_⟩ <;> ((try unfold U_X11_findWord); (try simp only [if_neg h10_0, if_neg h25_1, if_neg h40_2, if_neg h55_3, if_neg h70_4, if_neg h85_5, if_neg h100_6, if_neg h115_7, if_neg h130_8, if_pos h145_9, if_neg h167_10, if_pos h186_11]); (try rfl)))
                      · refine r_aload_n e_X11_findWord_170 rfl ?_
                        refine r_iconst e_X11_findWord_171 ic_5 ?_
                        refine r_putI e_X11_findWord_172 fl_X11_28 k0 ?_
                        refine r_aload_n e_X11_findWord_175 rfl ?_
                        refine r_iconst e_X11_findWord_176 ic_0 ?_
                        refine r_putI e_X11_findWord_177 fl_X11_21 k0 ?_
                        refine r_return e_X11_findWord_180 rfl ⟨rfl, rfl⟩ ?_
                        (refine ⟨?_, rfl, ?_⟩ <;> ((try unfold U_X11_findWord); (try simp only [if_neg h10_0, if_neg h25_1, if_neg h40_2, if_neg h55_3, if_neg h70_4, if_neg h85_5, if_neg h100_6, if_neg h115_7, if_neg h130_8, if_pos h145_9, if_pos h167_10]); (try rfl)))
                    · refine r_aload_n e_X11_findWord_148 rfl ?_
                      refine r_iconst e_X11_findWord_149 ic_3 ?_
                      refine r_putI e_X11_findWord_150 fl_X11_28 k0 ?_
                      refine r_aload_n e_X11_findWord_153 rfl ?_
                      refine r_lload_n e_X11_findWord_154 rfl ?_
                      refine r_l2i e_X11_findWord_155 ?_
                      refine r_iconst e_X11_findWord_156 ic_1 ?_
                      refine r_isub e_X11_findWord_157 ?_
                      refine r_putI e_X11_findWord_158 fl_X11_21 k0 ?_
                      refine r_return e_X11_findWord_161 rfl ⟨rfl, rfl⟩ ?_
                      (refine ⟨?_, rfl, ?_⟩ <;> ((try unfold U_X11_findWord); (try simp only [if_neg h10_0, if_neg h25_1, if_neg h40_2, if_neg h55_3, if_neg h70_4, if_neg h85_5, if_neg h100_6, if_neg h115_7, if_neg h130_8, if_neg h145_9]); (try rfl)))
                  · refine r_aload_n e_X11_findWord_133 rfl ?_
                    refine r_bipush e_X11_findWord_134 bp_18 ?_
                    refine r_putI e_X11_findWord_136 fl_X11_28 k0 ?_
                    refine r_return e_X11_findWord_139 rfl ⟨rfl, rfl⟩ ?_
                    (refine ⟨?_, rfl, ?_⟩ <;> ((try unfold U_X11_findWord); (try simp only [if_neg h10_0, if_neg h25_1, if_neg h40_2, if_neg h55_3, if_neg h70_4, if_neg h85_5, if_neg h100_6, if_neg h115_7, if_pos h130_8]); (try rfl)))
                · refine r_aload_n e_X11_findWord_118 rfl ?_
                  refine r_bipush e_X11_findWord_119 bp_17 ?_
                  refine r_putI e_X11_findWord_121 fl_X11_28 k0 ?_
                  refine r_return e_X11_findWord_124 rfl ⟨rfl, rfl⟩ ?_
                  (refine ⟨?_, rfl, ?_⟩ <;> ((try unfold U_X11_findWord); (try simp only [if_neg h10_0, if_neg h25_1, if_neg h40_2, if_neg h55_3, if_neg h70_4, if_neg h85_5, if_neg h100_6, if_pos h115_7]); (try rfl)))
              · refine r_aload_n e_X11_findWord_103 rfl ?_
                refine r_bipush e_X11_findWord_104 bp_16 ?_
                refine r_putI e_X11_findWord_106 fl_X11_28 k0 ?_
                refine r_return e_X11_findWord_109 rfl ⟨rfl, rfl⟩ ?_
                (refine ⟨?_, rfl, ?_⟩ <;> ((try unfold U_X11_findWord); (try simp only [if_neg h10_0, if_neg h25_1, if_neg h40_2, if_neg h55_3, if_neg h70_4, if_neg h85_5, if_pos h100_6]); (try rfl)))
            · refine r_aload_n e_X11_findWord_88 rfl ?_
              refine r_bipush e_X11_findWord_89 bp_15 ?_
              refine r_putI e_X11_findWord_91 fl_X11_28 k0 ?_
              refine r_return e_X11_findWord_94 rfl ⟨rfl, rfl⟩ ?_
              (refine ⟨?_, rfl, ?_⟩ <;> ((try unfold U_X11_findWord); (try simp only [if_neg h10_0, if_neg h25_1, if_neg h40_2, if_neg h55_3, if_neg h70_4, if_pos h85_5]); (try rfl)))
          · refine r_aload_n e_X11_findWord_73 rfl ?_
            refine r_bipush e_X11_findWord_74 bp_14 ?_
            refine r_putI e_X11_findWord_76 fl_X11_28 k0 ?_
            refine r_return e_X11_findWord_79 rfl ⟨rfl, rfl⟩ ?_
            (refine ⟨?_, rfl, ?_⟩ <;> ((try unfold U_X11_findWord); (try simp only [if_neg h10_0, if_neg h25_1, if_neg h40_2, if_neg h55_3, if_pos h70_4]); (try rfl)))
        · refine r_aload_n e_X11_findWord_58 rfl ?_
          refine r_bipush e_X11_findWord_59 bp_13 ?_
          refine r_putI e_X11_findWord_61 fl_X11_28 k0 ?_
          refine r_return e_X11_findWord_64 rfl ⟨rfl, rfl⟩ ?_
          (refine ⟨?_, rfl, ?_⟩ <;> ((try unfold U_X11_findWord); (try simp only [if_neg h10_0, if_neg h25_1, if_neg h40_2, if_pos h55_3]); (try rfl)))
      · refine r_aload_n e_X11_findWord_43 rfl ?_
        refine r_bipush e_X11_findWord_44 bp_12 ?_
        refine r_putI e_X11_findWord_46 fl_X11_28 k0 ?_
        refine r_return e_X11_findWord_49 rfl ⟨rfl, rfl⟩ ?_
        (refine ⟨?_, rfl, ?_⟩ <;> ((try unfold U_X11_findWord); (try simp only [if_neg h10_0, if_neg h25_1, if_pos h40_2]); (try rfl)))
    · refine r_aload_n e_X11_findWord_28 rfl ?_
      refine r_bipush e_X11_findWord_29 bp_11 ?_
      refine r_putI e_X11_findWord_31 fl_X11_28 k0 ?_
      refine r_return e_X11_findWord_34 rfl ⟨rfl, rfl⟩ ?_
      (refine ⟨?_, rfl, ?_⟩ <;> ((try unfold U_X11_findWord); (try simp only [if_neg h10_0, if_pos h25_1]); (try rfl)))
  · refine r_aload_n e_X11_findWord_13 rfl ?_
    refine r_bipush e_X11_findWord_14 bp_10 ?_
    refine r_putI e_X11_findWord_16 fl_X11_28 k0 ?_
    refine r_return e_X11_findWord_19 rfl ⟨rfl, rfl⟩ ?_
    (refine ⟨?_, rfl, ?_⟩ <;> ((try unfold U_X11_findWord); (try simp only [if_pos h10_0]); (try rfl)))
def V_X11_isFigure (x1 : Int32) (M : Mem) : Int32 := (let v0_0 : Int32 := if x1 < (48 : Int32) then (0 : Int32) else (if (57 : Int32) < x1 then (0 : Int32) else (1 : Int32)); v0_0)
theorem Z_X11_isFigure {M : Mem} {x1 : Int32}   : V_X11_isFigure x1 M = 0 ∨ V_X11_isFigure x1 M = 1 := (zi (Or.inl rfl) (zi (Or.inl rfl) (Or.inr rfl)))
theorem S_X11_isFigure {sh : List SC} {M : Mem} {x1 : Int32}    : Gv m_X11_isFigure [.int x1] sh M (.int (V_X11_isFigure x1 M)) M := by
  refine Sp.of (ls := [some (.int x1)]) (by decide +kernel) (Nat.le_of_ble_eq_true rfl) rfl ?_
  refine r_iload_n e_X11_isFigure_0 rfl ?_
  refine r_bipush e_X11_isFigure_1 bp_48 ?_
  obtain ⟨v0_0, e_v0_0⟩ : ∃ z : Int32, z = (if x1 < (48 : Int32) then (0 : Int32) else (if (57 : Int32) < x1 then (0 : Int32) else (1 : Int32))) := ⟨_, rfl⟩
  have z_v0_0 : v0_0 = 0 ∨ v0_0 = 1 := by rw [e_v0_0]; exact (zi (Or.inl rfl) (zi (Or.inl rfl) (Or.inr rfl)))
  suffices j17_0 : WP m_X11_isFigure (fun r sh' M'' => r = some (.int (V_X11_isFigure x1 M)) ∧ sh' = sh ∧ M'' = M) 17 [some (.int x1)] [.int v0_0] sh M 0 0 by
    refine r_icmp_lt e_X11_isFigure_3 (fun h3_0 => ?_) (fun h3_0 => ?_)
    · refine r_iconst e_X11_isFigure_16 ic_0 ?_
      (rw [show v0_0 = (0 : Int32) from (e_v0_0.trans (if_pos h3_0))] at j17_0; exact j17_0)
    · refine r_iload_n e_X11_isFigure_6 rfl ?_
      refine r_bipush e_X11_isFigure_7 bp_57 ?_
      refine r_icmp_gt e_X11_isFigure_9 (fun h9_1 => ?_) (fun h9_1 => ?_)
      · refine r_iconst e_X11_isFigure_16 ic_0 ?_
        (rw [show v0_0 = (0 : Int32) from ((e_v0_0.trans (if_neg h3_0)).trans (if_pos h9_1))] at j17_0; exact j17_0)
      · refine r_iconst e_X11_isFigure_12 ic_1 ?_
        refine r_goto e_X11_isFigure_13 ?_
        (rw [show v0_0 = (1 : Int32) from ((e_v0_0.trans (if_neg h3_0)).trans (if_neg h9_1))] at j17_0; exact j17_0)
  refine r_zreturn e_X11_isFigure_17 rfl ⟨rfl, rfl⟩ z_v0_0 ?_
  (subst e_v0_0; refine ⟨?_, rfl, ?_⟩ <;> ((try unfold V_X11_isFigure); (try simp only []); (try rfl)))
def F_X11_figures_0 : Nat → Mem → Mem
  | 0, M => M
  | n + 1, M => if (V_X11_isFigure (V_X11_at (M.1 242 4) M) M) = 0 then M else (let v1_0 : Int32 := if (M.1 242 6) ≤ (999 : Int32) then ((((10 : Int32) * (M.1 242 6)) + (V_X11_at (M.1 242 4) M)) - (48 : Int32)) else (M.1 242 6); (F_X11_figures_0  n (setI (setI M 242 6 v1_0) 242 4 ((M.1 242 4) + (1 : Int32)))))
def T_X11_figures_0 : Nat → Mem → Prop
  | 0, M => False
  | n + 1, M => (P_X11_at (M.1 242 4) M) ∧ (if (V_X11_isFigure (V_X11_at (M.1 242 4) M) M) = 0 then True else (let v1_0 : Int32 := if (M.1 242 6) ≤ (999 : Int32) then ((((10 : Int32) * (M.1 242 6)) + (V_X11_at (M.1 242 4) M)) - (48 : Int32)) else (M.1 242 6); (T_X11_figures_0  n (setI (setI M 242 6 v1_0) 242 4 ((M.1 242 4) + (1 : Int32))))))
theorem L_X11_figures_0 {sh : List SC} {Q : Po}  {mA : Nat} {oA : Nat}   (hb1 : ModelAt sh mA oA)   : ∀ (n : Nat) (M : Mem), T_X11_figures_0  n M → WP m_X11_figures Q 67 [some (.ref 242)] [] sh (F_X11_figures_0  n M) 0 0 → WP m_X11_figures Q 0 [some (.ref 242)] [] sh M 0 0 := by
  have k0 : kd sh 242 = some (10 + 7, 0) := hb1.1
  intro n
  induction n with
  | zero =>
    intro M hH hq
    exact hH.elim
  | succ n ih =>
    intro M hH hq
    unfold T_X11_figures_0 at hH
    obtain ⟨g1, hH⟩ := hH
    refine r_aload_n e_X11_figures_0 rfl ?_
    refine r_aload_n e_X11_figures_1 rfl ?_
    refine r_getI e_X11_figures_2 fl_X11_11 i0 k0 ?_
    refine cV1v e_X11_figures_5 cl_X11_14 ⟨Nat.le_of_ble_eq_true rfl, Nat.le_of_ble_eq_true rfl⟩ ⟨rfl, rfl⟩ k0 (Nat.le_of_ble_eq_true rfl) (S_X11_at hb1 g1) ?_
    refine cS1v e_X11_figures_8 cl_X11_39 ⟨Nat.le_of_ble_eq_true rfl, Nat.le_of_ble_eq_true rfl⟩ ⟨rfl, rfl⟩  (Nat.le_of_ble_eq_true rfl) (S_X11_isFigure ) ?_
    refine r_if_eq e_X11_figures_11 (fun h11_0 => ?_) (fun h11_0 => ?_)
    · (simp only [F_X11_figures_0, if_pos h11_0] at hq; first | exact hq | (simp only [if_pos h11_0]; exact hq))
    · refine r_aload_n e_X11_figures_14 rfl ?_
      refine r_aload_n e_X11_figures_15 rfl ?_
      refine r_getI e_X11_figures_16 fl_X11_21 i0 k0 ?_
      refine r_sipush e_X11_figures_19 sp_999 ?_
      obtain ⟨v1_0, e_v1_0⟩ : ∃ z : Int32, z = (if (M.1 242 6) ≤ (999 : Int32) then ((((10 : Int32) * (M.1 242 6)) + (V_X11_at (M.1 242 4) M)) - (48 : Int32)) else (M.1 242 6)) := ⟨_, rfl⟩
      suffices j51_1 : WP m_X11_figures Q 51 [some (.ref 242)] [.int v1_0, .ref 242] sh M 0 0 by
        refine r_icmp_le e_X11_figures_22 (fun h22_1 => ?_) (fun h22_1 => ?_)
        · refine r_bipush e_X11_figures_32 bp_10 ?_
          refine r_aload_n e_X11_figures_34 rfl ?_
          refine r_getI e_X11_figures_35 fl_X11_21 i0 k0 ?_
          refine r_imul e_X11_figures_38 ?_
          refine r_aload_n e_X11_figures_39 rfl ?_
          refine r_aload_n e_X11_figures_40 rfl ?_
          refine r_getI e_X11_figures_41 fl_X11_11 i0 k0 ?_
          refine cV1v e_X11_figures_44 cl_X11_14 ⟨Nat.le_of_ble_eq_true rfl, Nat.le_of_ble_eq_true rfl⟩ ⟨rfl, rfl⟩ k0 (Nat.le_of_ble_eq_true rfl) (S_X11_at hb1 g1) ?_
          refine r_iadd e_X11_figures_47 ?_
          refine r_bipush e_X11_figures_48 bp_48 ?_
          refine r_isub e_X11_figures_50 ?_
          (rw [show v1_0 = ((((10 : Int32) * (M.1 242 6)) + (V_X11_at (M.1 242 4) M)) - (48 : Int32)) from (e_v1_0.trans (if_pos h22_1))] at j51_1; exact j51_1)
        · refine r_aload_n e_X11_figures_25 rfl ?_
          refine r_getI e_X11_figures_26 fl_X11_21 i0 k0 ?_
          refine r_goto e_X11_figures_29 ?_
          (rw [show v1_0 = (M.1 242 6) from (e_v1_0.trans (if_neg h22_1))] at j51_1; exact j51_1)
      refine r_putI e_X11_figures_51 fl_X11_21 k0 ?_
      refine r_aload_n e_X11_figures_54 rfl ?_
      refine r_dup e_X11_figures_55 rfl ?_
      refine r_getIe e_X11_figures_56 fl_X11_11 i0 k0 (gs_nI (by decide)) ?_
      refine r_iconst e_X11_figures_59 ic_1 ?_
      refine r_iadd e_X11_figures_60 ?_
      refine r_putI e_X11_figures_61 fl_X11_11 k0 ?_
      refine r_goto e_X11_figures_64 ?_
      (subst e_v1_0; simp only [F_X11_figures_0, if_neg h11_0] at hq; (try simp only [if_neg h11_0] at hH); first | exact ih _ hH hq | (simp only [if_neg h11_0]; exact ih _ hH hq))
def U_X11_figures (M : Mem) : Mem := (let v0_0 : Int32 := if ((F_X11_figures_0  FUEL M).1 242 6) ≤ (999 : Int32) then (2 : Int32) else (6 : Int32); setI (F_X11_figures_0  FUEL M) 242 5 v0_0)
def P_X11_figures (M : Mem) : Prop := (T_X11_figures_0  FUEL M)
theorem S_X11_figures {sh : List SC} {M : Mem}  {mA : Nat} {oA : Nat} (hb1 : ModelAt sh mA oA)  (hP : P_X11_figures  M) : Gu m_X11_figures [.ref 242] sh M (U_X11_figures  M) := by
  refine Sp.of (ls := [some (.ref 242)]) (by decide +kernel) (Nat.le_of_ble_eq_true rfl) rfl ?_
  have g1 : T_X11_figures_0  FUEL M := hP
  have k0 : kd sh 242 = some (10 + 7, 0) := hb1.1
  refine L_X11_figures_0 hb1 FUEL  M g1 ?_
  refine r_aload_n e_X11_figures_67 rfl ?_
  refine r_aload_n e_X11_figures_68 rfl ?_
  refine r_getI e_X11_figures_69 fl_X11_21 i0 k0 ?_
  refine r_sipush e_X11_figures_72 sp_999 ?_
  obtain ⟨v0_0, e_v0_0⟩ : ∃ z : Int32, z = (if ((F_X11_figures_0  FUEL M).1 242 6) ≤ (999 : Int32) then (2 : Int32) else (6 : Int32)) := ⟨_, rfl⟩
  suffices j84_0 : WP m_X11_figures (fun r sh' M'' => r = none ∧ sh' = sh ∧ M'' = (U_X11_figures  M)) 84 [some (.ref 242)] [.int v0_0, .ref 242] sh (F_X11_figures_0  FUEL M) 0 0 by
    refine r_icmp_le e_X11_figures_75 (fun h75_0 => ?_) (fun h75_0 => ?_)
    · refine r_iconst e_X11_figures_83 ic_2 ?_
      (rw [show v0_0 = (2 : Int32) from (e_v0_0.trans (if_pos h75_0))] at j84_0; exact j84_0)
    · refine r_bipush e_X11_figures_78 bp_6 ?_
      refine r_goto e_X11_figures_80 ?_
      (rw [show v0_0 = (6 : Int32) from (e_v0_0.trans (if_neg h75_0))] at j84_0; exact j84_0)
  refine r_putI e_X11_figures_84 fl_X11_28 k0 ?_
  refine r_return e_X11_figures_87 rfl ⟨rfl, rfl⟩ ?_
  (subst e_v0_0; refine ⟨?_, rfl, ?_⟩ <;> ((try unfold U_X11_figures); (try simp only []); (try rfl)))
def V_X11_isSign (x1 : Int32) (M : Mem) : Int32 := (let v0_0 : Int32 := if x1 = (123 : Int32) then (1 : Int32) else (if x1 = (125 : Int32) then (1 : Int32) else (if x1 = (60 : Int32) then (1 : Int32) else (if x1 = (61 : Int32) then (1 : Int32) else (if x1 = (62 : Int32) then (1 : Int32) else (if x1 = (43 : Int32) then (1 : Int32) else (if x1 = (45 : Int32) then (1 : Int32) else (if x1 = (42 : Int32) then (1 : Int32) else (if x1 = (59 : Int32) then (1 : Int32) else (0 : Int32))))))))); v0_0)
theorem Z_X11_isSign {M : Mem} {x1 : Int32}   : V_X11_isSign x1 M = 0 ∨ V_X11_isSign x1 M = 1 := (zi (Or.inr rfl) (zi (Or.inr rfl) (zi (Or.inr rfl) (zi (Or.inr rfl) (zi (Or.inr rfl) (zi (Or.inr rfl) (zi (Or.inr rfl) (zi (Or.inr rfl) (zi (Or.inr rfl) (Or.inl rfl))))))))))
theorem S_X11_isSign {sh : List SC} {M : Mem} {x1 : Int32}    : Gv m_X11_isSign [.int x1] sh M (.int (V_X11_isSign x1 M)) M := by
  refine Sp.of (ls := [some (.int x1)]) (by decide +kernel) (Nat.le_of_ble_eq_true rfl) rfl ?_
  refine r_iload_n e_X11_isSign_0 rfl ?_
  refine r_bipush e_X11_isSign_1 bp_123 ?_
  obtain ⟨v0_0, e_v0_0⟩ : ∃ z : Int32, z = (if x1 = (123 : Int32) then (1 : Int32) else (if x1 = (125 : Int32) then (1 : Int32) else (if x1 = (60 : Int32) then (1 : Int32) else (if x1 = (61 : Int32) then (1 : Int32) else (if x1 = (62 : Int32) then (1 : Int32) else (if x1 = (43 : Int32) then (1 : Int32) else (if x1 = (45 : Int32) then (1 : Int32) else (if x1 = (42 : Int32) then (1 : Int32) else (if x1 = (59 : Int32) then (1 : Int32) else (0 : Int32)))))))))) := ⟨_, rfl⟩
  have z_v0_0 : v0_0 = 0 ∨ v0_0 = 1 := by rw [e_v0_0]; exact (zi (Or.inr rfl) (zi (Or.inr rfl) (zi (Or.inr rfl) (zi (Or.inr rfl) (zi (Or.inr rfl) (zi (Or.inr rfl) (zi (Or.inr rfl) (zi (Or.inr rfl) (zi (Or.inr rfl) (Or.inl rfl))))))))))
  suffices j59_0 : WP m_X11_isSign (fun r sh' M'' => r = some (.int (V_X11_isSign x1 M)) ∧ sh' = sh ∧ M'' = M) 59 [some (.int x1)] [.int v0_0] sh M 0 0 by
    refine r_icmp_eq e_X11_isSign_3 (fun h3_0 => ?_) (fun h3_0 => ?_)
    · refine r_iconst e_X11_isSign_54 ic_1 ?_
      refine r_goto e_X11_isSign_55 ?_
      (rw [show v0_0 = (1 : Int32) from (e_v0_0.trans (if_pos h3_0))] at j59_0; exact j59_0)
    · refine r_iload_n e_X11_isSign_6 rfl ?_
      refine r_bipush e_X11_isSign_7 bp_125 ?_
      refine r_icmp_eq e_X11_isSign_9 (fun h9_1 => ?_) (fun h9_1 => ?_)
      · refine r_iconst e_X11_isSign_54 ic_1 ?_
        refine r_goto e_X11_isSign_55 ?_
        (rw [show v0_0 = (1 : Int32) from ((e_v0_0.trans (if_neg h3_0)).trans (if_pos h9_1))] at j59_0; exact j59_0)
      · refine r_iload_n e_X11_isSign_12 rfl ?_
        refine r_bipush e_X11_isSign_13 bp_60 ?_
        refine r_icmp_eq e_X11_isSign_15 (fun h15_2 => ?_) (fun h15_2 => ?_)
        · refine r_iconst e_X11_isSign_54 ic_1 ?_
          refine r_goto e_X11_isSign_55 ?_
          (rw [show v0_0 = (1 : Int32) from (((e_v0_0.trans (if_neg h3_0)).trans (if_neg h9_1)).trans (if_pos h15_2))] at j59_0; exact j59_0)
        · refine r_iload_n e_X11_isSign_18 rfl ?_
          refine r_bipush e_X11_isSign_19 bp_61 ?_
          refine r_icmp_eq e_X11_isSign_21 (fun h21_3 => ?_) (fun h21_3 => ?_)
          · refine r_iconst e_X11_isSign_54 ic_1 ?_
            refine r_goto e_X11_isSign_55 ?_
            (rw [show v0_0 = (1 : Int32) from ((((e_v0_0.trans (if_neg h3_0)).trans (if_neg h9_1)).trans (if_neg h15_2)).trans (if_pos h21_3))] at j59_0; exact j59_0)
          · refine r_iload_n e_X11_isSign_24 rfl ?_
            refine r_bipush e_X11_isSign_25 bp_62 ?_
            refine r_icmp_eq e_X11_isSign_27 (fun h27_4 => ?_) (fun h27_4 => ?_)
            · refine r_iconst e_X11_isSign_54 ic_1 ?_
              refine r_goto e_X11_isSign_55 ?_
              (rw [show v0_0 = (1 : Int32) from (((((e_v0_0.trans (if_neg h3_0)).trans (if_neg h9_1)).trans (if_neg h15_2)).trans (if_neg h21_3)).trans (if_pos h27_4))] at j59_0; exact j59_0)
            · refine r_iload_n e_X11_isSign_30 rfl ?_
              refine r_bipush e_X11_isSign_31 bp_43 ?_
              refine r_icmp_eq e_X11_isSign_33 (fun h33_5 => ?_) (fun h33_5 => ?_)
              · refine r_iconst e_X11_isSign_54 ic_1 ?_
                refine r_goto e_X11_isSign_55 ?_
                (rw [show v0_0 = (1 : Int32) from ((((((e_v0_0.trans (if_neg h3_0)).trans (if_neg h9_1)).trans (if_neg h15_2)).trans (if_neg h21_3)).trans (if_neg h27_4)).trans (if_pos h33_5))] at j59_0; exact j59_0)
              · refine r_iload_n e_X11_isSign_36 rfl ?_
                refine r_bipush e_X11_isSign_37 bp_45 ?_
                refine r_icmp_eq e_X11_isSign_39 (fun h39_6 => ?_) (fun h39_6 => ?_)
                · refine r_iconst e_X11_isSign_54 ic_1 ?_
                  refine r_goto e_X11_isSign_55 ?_
                  (rw [show v0_0 = (1 : Int32) from (((((((e_v0_0.trans (if_neg h3_0)).trans (if_neg h9_1)).trans (if_neg h15_2)).trans (if_neg h21_3)).trans (if_neg h27_4)).trans (if_neg h33_5)).trans (if_pos h39_6))] at j59_0; exact j59_0)
                · refine r_iload_n e_X11_isSign_42 rfl ?_
                  refine r_bipush e_X11_isSign_43 bp_42 ?_
                  refine r_icmp_eq e_X11_isSign_45 (fun h45_7 => ?_) (fun h45_7 => ?_)
                  · refine r_iconst e_X11_isSign_54 ic_1 ?_
                    refine r_goto e_X11_isSign_55 ?_
                    (rw [show v0_0 = (1 : Int32) from ((((((((e_v0_0.trans (if_neg h3_0)).trans (if_neg h9_1)).trans (if_neg h15_2)).trans (if_neg h21_3)).trans (if_neg h27_4)).trans (if_neg h33_5)).trans (if_neg h39_6)).trans (if_pos h45_7))] at j59_0; exact j59_0)
                  · refine r_iload_n e_X11_isSign_48 rfl ?_
                    refine r_bipush e_X11_isSign_49 bp_59 ?_
                    refine r_icmp_ne e_X11_isSign_51 (fun h51_8 => ?_) (fun h51_8 => ?_)
                    · refine r_iconst e_X11_isSign_58 ic_0 ?_
                      (rw [show v0_0 = (0 : Int32) from (((((((((e_v0_0.trans (if_neg h3_0)).trans (if_neg h9_1)).trans (if_neg h15_2)).trans (if_neg h21_3)).trans (if_neg h27_4)).trans (if_neg h33_5)).trans (if_neg h39_6)).trans (if_neg h45_7)).trans (if_neg h51_8))] at j59_0; exact j59_0)
                    · refine r_iconst e_X11_isSign_54 ic_1 ?_
                      refine r_goto e_X11_isSign_55 ?_
                      (rw [show v0_0 = (1 : Int32) from (((((((((e_v0_0.trans (if_neg h3_0)).trans (if_neg h9_1)).trans (if_neg h15_2)).trans (if_neg h21_3)).trans (if_neg h27_4)).trans (if_neg h33_5)).trans (if_neg h39_6)).trans (if_neg h45_7)).trans (if_pos h51_8))] at j59_0; exact j59_0)
  refine r_zreturn e_X11_isSign_59 rfl ⟨rfl, rfl⟩ z_v0_0 ?_
  (subst e_v0_0; refine ⟨?_, rfl, ?_⟩ <;> ((try unfold V_X11_isSign); (try simp only []); (try rfl)))
def V_X11_wrong (M : Mem) : Int32 := (0 : Int32)
theorem Z_X11_wrong {M : Mem}    : V_X11_wrong  M = 0 ∨ V_X11_wrong  M = 1 := (Or.inl rfl)
def U_X11_wrong (M : Mem) : Mem := setI M 242 2 (M.1 242 3)
theorem S_X11_wrong {sh : List SC} {M : Mem}  {mA : Nat} {oA : Nat} (hb1 : ModelAt sh mA oA)  : Gv m_X11_wrong [.ref 242] sh M (.int (V_X11_wrong  M)) (U_X11_wrong  M) := by
  refine Sp.of (ls := [some (.ref 242)]) (by decide +kernel) (Nat.le_of_ble_eq_true rfl) rfl ?_
  have k0 : kd sh 242 = some (10 + 7, 0) := hb1.1
  refine r_aload_n e_X11_wrong_0 rfl ?_
  refine r_aload_n e_X11_wrong_1 rfl ?_
  refine r_getI e_X11_wrong_2 fl_X11_18 i0 k0 ?_
  refine r_putI e_X11_wrong_5 fl_X11_99 k0 ?_
  refine r_iconst e_X11_wrong_8 ic_0 ?_
  refine r_zreturn e_X11_wrong_9 rfl ⟨rfl, rfl⟩ (by first | exact Or.inl rfl | exact Or.inr rfl) ?_
  (refine ⟨?_, rfl, ?_⟩ <;> ((try unfold V_X11_wrong); (try unfold U_X11_wrong); (try simp only []); (try rfl)))
def F_X11_findNames_34 (w1 : Int32) (w2 : Int32) : Nat → Int32 → Int32 → Mem → Int32 × Int32
  | 0, u3, u4, M => (u3, u4)
  | n + 1, u3, u4, M => if u4 < 0 then (u3, u4) else (let v3803_0 : Int32 := if (lg_cmp (M.2 248 u4.toNatClampNeg) (M.2 249 w2.toNatClampNeg)) = 0 then u4 else u3; (F_X11_findNames_34 w1 w2 n v3803_0 (u4 + (-1)) M))
def T_X11_findNames_34 (w1 : Int32) (w2 : Int32) : Nat → Int32 → Int32 → Mem → Prop
  | 0, u3, u4, M => False
  | n + 1, u3, u4, M => (vp_in u4 8) ∧ (vp_in w2 800) ∧ (if u4 < 0 then True else (let v3803_0 : Int32 := if (lg_cmp (M.2 248 u4.toNatClampNeg) (M.2 249 w2.toNatClampNeg)) = 0 then u4 else u3; (T_X11_findNames_34 w1 w2 n v3803_0 (u4 + (-1)) M)))
theorem L_X11_findNames_34 {sh : List SC} {Q : Po}  {mA : Nat} {oA : Nat} {w1 : Int32} {w2 : Int32}  (hb1 : ModelAt sh mA oA)   : ∀ (n : Nat) (u3 : Int32) (u4 : Int32) (M : Mem), T_X11_findNames_34 w1 w2 n u3 u4 M → WP m_X11_findNames Q 69 [some (.ref 242), some (.int w1), some (.int w2), some (.int ((F_X11_findNames_34 w1 w2 n u3 u4 M).1)), some (.int ((F_X11_findNames_34 w1 w2 n u3 u4 M).2))] [] sh M 0 0 → WP m_X11_findNames Q 34 [some (.ref 242), some (.int w1), some (.int w2), some (.int u3), some (.int u4)] [] sh M 0 0 := by
  have k0 : kd sh 242 = some (10 + 7, 0) := hb1.1
  have k1 : rf sh 242 14 = some 248 := hb1.2.2.2.2.2.2.1
  have k2 : kd sh 248 = some (1, 8) := hb1.2.2.2.2.2.2.2.2.2.2.2.2.2.2.2.2.2.2.2.2.2.2.2.2.2.2.2.2.2.2.2.2.1
  have k3 : rf sh 242 16 = some 249 := hb1.2.2.2.2.2.2.2.1
  have k4 : kd sh 249 = some (1, 800) := hb1.2.2.2.2.2.2.2.2.2.2.2.2.2.2.2.2.2.2.2.2.2.2.2.2.2.2.2.2.2.2.2.2.2.1
  intro n
  induction n with
  | zero =>
    intro u3 u4 M hH hq
    exact hH.elim
  | succ n ih =>
    intro u3 u4 M hH hq
    unfold T_X11_findNames_34 at hH
    obtain ⟨g1, g2, hH⟩ := hH
    refine r_iload e_X11_findNames_34 rfl ?_
    refine r_if_lt e_X11_findNames_36 (fun h36_3802 => ?_) (fun h36_3802 => ?_)
    · (simp only [F_X11_findNames_34, if_pos h36_3802] at hq; first | exact hq | (simp only [if_pos h36_3802]; exact hq))
    · refine r_aload_n e_X11_findNames_39 rfl ?_
      refine r_getR e_X11_findNames_40 fl_X11_169 k0 k1 ?_
      refine r_iload e_X11_findNames_43 rfl ?_
      refine r_laload e_X11_findNames_45 k2 g1 ?_
      refine r_aload_n e_X11_findNames_46 rfl ?_
      refine r_getR e_X11_findNames_47 fl_X11_124 k0 k3 ?_
      refine r_iload_n e_X11_findNames_50 rfl ?_
      refine r_laload e_X11_findNames_51 k4 g2 ?_
      refine r_lcmp e_X11_findNames_52 ?_
      obtain ⟨v3803_0, e_v3803_0⟩ : ∃ z : Int32, z = (if (lg_cmp (M.2 248 u4.toNatClampNeg) (M.2 249 w2.toNatClampNeg)) = 0 then u4 else u3) := ⟨_, rfl⟩
      suffices j62_3803 : WP m_X11_findNames Q 62 [some (.ref 242), some (.int w1), some (.int w2), some (.int u3), some (.int u4)] [.int v3803_0] sh M 0 0 by
        refine r_if_ne e_X11_findNames_53 (fun h53_3803 => ?_) (fun h53_3803 => ?_)
        · refine r_iload_n e_X11_findNames_61 rfl ?_
          (rw [show v3803_0 = u3 from (e_v3803_0.trans (if_neg h53_3803))] at j62_3803; exact j62_3803)
        · refine r_iload e_X11_findNames_56 rfl ?_
          refine r_goto e_X11_findNames_58 ?_
          (rw [show v3803_0 = u4 from (e_v3803_0.trans (if_pos h53_3803))] at j62_3803; exact j62_3803)
      refine p_istore_n_5_3 e_X11_findNames_62 rfl rfl ?_
      refine p_iinc_5_4 e_X11_findNames_63 rfl ic_m1 rfl ?_
      refine r_goto e_X11_findNames_66 ?_
      (subst e_v3803_0; simp only [F_X11_findNames_34, if_neg h36_3802] at hq; (try simp only [if_neg h36_3802] at hH); first | exact ih _ _ _ hH hq | (simp only [if_neg h36_3802]; exact ih _ _ _ hH hq))
def F_X11_findNames_4 : Nat → Int32 → Int32 → Mem → Int32 × Int32 × Mem
  | 0, u1, u2, M => (u1, u2, M)
  | n + 1, u1, u2, M => if (M.1 242 15) ≤ u2 then (u1, u2, M) else (if 0 ≤ (M.1 242 2) then (u1, u2, M) else (let M402_0 : Mem := if (M.1 252 u2.toNatClampNeg) = 0 then (if 0 ≤ ((F_X11_findNames_34 u1 u2 FUEL (-1 : Int32) ((M.1 246 (M.1 242 8).toNatClampNeg) - (1 : Int32)) M).1) then M else (setI M 242 2 (M.1 250 u2.toNatClampNeg))) else (if u1 ≤ ((F_X11_findNames_34 u1 u2 FUEL (-1 : Int32) ((M.1 246 (M.1 242 8).toNatClampNeg) - (1 : Int32)) M).1) then M else (setI M 242 2 (M.1 250 u2.toNatClampNeg))); let v405_0 : Int32 := if (M402_0.1 252 u2.toNatClampNeg) = 0 then (0 : Int32) else (1 : Int32); (F_X11_findNames_4  n (u1 + v405_0) (u2 + 1) (setI M402_0 245 (((800 : Int32) * (M402_0.1 242 8)) + (M402_0.1 251 u2.toNatClampNeg)).toNatClampNeg ((F_X11_findNames_34 u1 u2 FUEL (-1 : Int32) ((M.1 246 (M.1 242 8).toNatClampNeg) - (1 : Int32)) M).1)))))
def T_X11_findNames_4 : Nat → Int32 → Int32 → Mem → Prop
  | 0, u1, u2, M => False
  | n + 1, u1, u2, M => (vp_in (M.1 242 8) 6) ∧ (T_X11_findNames_34 u1 u2 FUEL (-1 : Int32) ((M.1 246 (M.1 242 8).toNatClampNeg) - (1 : Int32)) M) ∧ (vp_in u2 800) ∧ (vp_in (((800 : Int32) * ((if (M.1 252 u2.toNatClampNeg) = 0 then (if 0 ≤ ((F_X11_findNames_34 u1 u2 FUEL (-1 : Int32) ((M.1 246 (M.1 242 8).toNatClampNeg) - (1 : Int32)) M).1) then M else (setI M 242 2 (M.1 250 u2.toNatClampNeg))) else (if u1 ≤ ((F_X11_findNames_34 u1 u2 FUEL (-1 : Int32) ((M.1 246 (M.1 242 8).toNatClampNeg) - (1 : Int32)) M).1) then M else (setI M 242 2 (M.1 250 u2.toNatClampNeg)))).1 242 8)) + ((if (M.1 252 u2.toNatClampNeg) = 0 then (if 0 ≤ ((F_X11_findNames_34 u1 u2 FUEL (-1 : Int32) ((M.1 246 (M.1 242 8).toNatClampNeg) - (1 : Int32)) M).1) then M else (setI M 242 2 (M.1 250 u2.toNatClampNeg))) else (if u1 ≤ ((F_X11_findNames_34 u1 u2 FUEL (-1 : Int32) ((M.1 246 (M.1 242 8).toNatClampNeg) - (1 : Int32)) M).1) then M else (setI M 242 2 (M.1 250 u2.toNatClampNeg)))).1 251 u2.toNatClampNeg)) 4800) ∧ (if (M.1 242 15) ≤ u2 then True else (if 0 ≤ (M.1 242 2) then True else (let M402_0 : Mem := if (M.1 252 u2.toNatClampNeg) = 0 then (if 0 ≤ ((F_X11_findNames_34 u1 u2 FUEL (-1 : Int32) ((M.1 246 (M.1 242 8).toNatClampNeg) - (1 : Int32)) M).1) then M else (setI M 242 2 (M.1 250 u2.toNatClampNeg))) else (if u1 ≤ ((F_X11_findNames_34 u1 u2 FUEL (-1 : Int32) ((M.1 246 (M.1 242 8).toNatClampNeg) - (1 : Int32)) M).1) then M else (setI M 242 2 (M.1 250 u2.toNatClampNeg))); let v405_0 : Int32 := if (M402_0.1 252 u2.toNatClampNeg) = 0 then (0 : Int32) else (1 : Int32); (T_X11_findNames_4  n (u1 + v405_0) (u2 + 1) (setI M402_0 245 (((800 : Int32) * (M402_0.1 242 8)) + (M402_0.1 251 u2.toNatClampNeg)).toNatClampNeg ((F_X11_findNames_34 u1 u2 FUEL (-1 : Int32) ((M.1 246 (M.1 242 8).toNatClampNeg) - (1 : Int32)) M).1))))))
theorem L_X11_findNames_4 {sh : List SC} {Q : Po}  {mA : Nat} {oA : Nat}   (hb1 : ModelAt sh mA oA)   : ∀ (n : Nat) (u1 : Int32) (u2 : Int32) (M : Mem), T_X11_findNames_4  n u1 u2 M → WP m_X11_findNames Q 144 [some (.ref 242), some (.int ((F_X11_findNames_4  n u1 u2 M).1)), some (.int ((F_X11_findNames_4  n u1 u2 M).2.1)), none, none] [] sh ((F_X11_findNames_4  n u1 u2 M).2.2) 0 0 → WP m_X11_findNames Q 4 [some (.ref 242), some (.int u1), some (.int u2), none, none] [] sh M 0 0 := by
  have k0 : kd sh 242 = some (10 + 7, 0) := hb1.1
  have k1 : rf sh 242 12 = some 246 := hb1.2.2.2.2.1
  have k2 : kd sh 246 = some (0, 6) := hb1.2.2.2.2.2.2.2.2.2.2.2.2.2.2.2.2.2.2.2.2.2.2.2.2.2.2.2.2.2.2.1
  have k3 : rf sh 242 19 = some 252 := hb1.2.2.2.2.2.2.2.2.2.2.1
  have k4 : kd sh 252 = some (2, 800) := hb1.2.2.2.2.2.2.2.2.2.2.2.2.2.2.2.2.2.2.2.2.2.2.2.2.2.2.2.2.2.2.2.2.2.2.2.2.1
  have k5 : rf sh 242 17 = some 250 := hb1.2.2.2.2.2.2.2.2.1
  have k6 : kd sh 250 = some (0, 800) := hb1.2.2.2.2.2.2.2.2.2.2.2.2.2.2.2.2.2.2.2.2.2.2.2.2.2.2.2.2.2.2.2.2.2.2.1
  have k7 : rf sh 242 10 = some 245 := hb1.2.2.2.1
  have k8 : kd sh 245 = some (0, 4800) := hb1.2.2.2.2.2.2.2.2.2.2.2.2.2.2.2.2.2.2.2.2.2.2.2.2.2.2.2.2.2.1
  have k9 : rf sh 242 18 = some 251 := hb1.2.2.2.2.2.2.2.2.2.1
  have k10 : kd sh 251 = some (0, 800) := hb1.2.2.2.2.2.2.2.2.2.2.2.2.2.2.2.2.2.2.2.2.2.2.2.2.2.2.2.2.2.2.2.2.2.2.2.1
  intro n
  induction n with
  | zero =>
    intro u1 u2 M hH hq
    exact hH.elim
  | succ n ih =>
    intro u1 u2 M hH hq
    unfold T_X11_findNames_4 at hH
    obtain ⟨g1, g2, g3, g4, hH⟩ := hH
    refine r_iload_n e_X11_findNames_4 rfl ?_
    refine r_aload_n e_X11_findNames_5 rfl ?_
    refine r_getI e_X11_findNames_6 fl_X11_128 i0 k0 ?_
    refine r_icmp_ge e_X11_findNames_9 (fun h9_400 => ?_) (fun h9_400 => ?_)
    · (simp only [F_X11_findNames_4, if_pos h9_400] at hq; first | exact hq | (simp only [if_pos h9_400]; exact hq))
    · refine r_aload_n e_X11_findNames_12 rfl ?_
      refine r_getI e_X11_findNames_13 fl_X11_99 i0 k0 ?_
      refine r_if_ge e_X11_findNames_16 (fun h16_401 => ?_) (fun h16_401 => ?_)
      · (simp only [F_X11_findNames_4, if_neg h9_400, if_pos h16_401] at hq; first | exact hq | (simp only [if_neg h9_400, if_pos h16_401]; exact hq))
      · refine r_iconst e_X11_findNames_19 ic_m1 ?_
        refine p_istore_n_5_3 e_X11_findNames_20 rfl rfl ?_
        refine r_aload_n e_X11_findNames_21 rfl ?_
        refine r_getR e_X11_findNames_22 fl_X11_166 k0 k1 ?_
        refine r_aload_n e_X11_findNames_25 rfl ?_
        refine r_getI e_X11_findNames_26 fl_X11_105 i0 k0 ?_
        refine r_iaload e_X11_findNames_29 k2 g1 ?_
        refine r_iconst e_X11_findNames_30 ic_1 ?_
        refine r_isub e_X11_findNames_31 ?_
        refine p_istore_5_4 e_X11_findNames_32 rfl rfl ?_
        refine L_X11_findNames_34 hb1 FUEL (-1 : Int32) ((M.1 246 (M.1 242 8).toNatClampNeg) - (1 : Int32)) M g2 ?_
        refine r_aload_n e_X11_findNames_69 rfl ?_
        refine r_getR e_X11_findNames_70 fl_X11_137 k0 k3 ?_
        refine r_iload_n e_X11_findNames_73 rfl ?_
        refine r_zaload e_X11_findNames_74 k4 g3 ?_
        obtain ⟨M402_0, e_M402_0⟩ : ∃ z : Mem, z = (if (M.1 252 u2.toNatClampNeg) = 0 then (if 0 ≤ ((F_X11_findNames_34 u1 u2 FUEL (-1 : Int32) ((M.1 246 (M.1 242 8).toNatClampNeg) - (1 : Int32)) M).1) then M else (setI M 242 2 (M.1 250 u2.toNatClampNeg))) else (if u1 ≤ ((F_X11_findNames_34 u1 u2 FUEL (-1 : Int32) ((M.1 246 (M.1 242 8).toNatClampNeg) - (1 : Int32)) M).1) then M else (setI M 242 2 (M.1 250 u2.toNatClampNeg)))) := ⟨_, rfl⟩
        suffices j100_402 : WP m_X11_findNames Q 100 [some (.ref 242), some (.int u1), some (.int u2), some (.int ((F_X11_findNames_34 u1 u2 FUEL (-1 : Int32) ((M.1 246 (M.1 242 8).toNatClampNeg) - (1 : Int32)) M).1)), some (.int ((F_X11_findNames_34 u1 u2 FUEL (-1 : Int32) ((M.1 246 (M.1 242 8).toNatClampNeg) - (1 : Int32)) M).2))] [] sh M402_0 0 0 by
          refine r_if_eq e_X11_findNames_75 (fun h75_402 => ?_) (fun h75_402 => ?_)
          · refine r_iload_n e_X11_findNames_86 rfl ?_
            refine r_if_ge e_X11_findNames_87 (fun h87_403 => ?_) (fun h87_403 => ?_)
            · (rw [show M402_0 = M from ((e_M402_0.trans (if_pos h75_402)).trans (if_pos h87_403))] at j100_402; exact j100_402)
            · refine r_aload_n e_X11_findNames_90 rfl ?_
              refine r_aload_n e_X11_findNames_91 rfl ?_
              refine r_getR e_X11_findNames_92 fl_X11_131 k0 k5 ?_
              refine r_iload_n e_X11_findNames_95 rfl ?_
              refine r_iaload e_X11_findNames_96 k6 g3 ?_
              refine r_putI e_X11_findNames_97 fl_X11_99 k0 ?_
              (rw [show M402_0 = setI M 242 2 (M.1 250 u2.toNatClampNeg) from ((e_M402_0.trans (if_pos h75_402)).trans (if_neg h87_403))] at j100_402; exact j100_402)
          · refine r_iload_n e_X11_findNames_78 rfl ?_
            refine r_iload_n e_X11_findNames_79 rfl ?_
            refine r_icmp_ge e_X11_findNames_80 (fun h80_404 => ?_) (fun h80_404 => ?_)
            · (rw [show M402_0 = M from ((e_M402_0.trans (if_neg h75_402)).trans (if_pos h80_404))] at j100_402; exact j100_402)
            · refine r_goto e_X11_findNames_83 ?_
              refine r_aload_n e_X11_findNames_90 rfl ?_
              refine r_aload_n e_X11_findNames_91 rfl ?_
              refine r_getR e_X11_findNames_92 fl_X11_131 k0 k5 ?_
              refine r_iload_n e_X11_findNames_95 rfl ?_
              refine r_iaload e_X11_findNames_96 k6 g3 ?_
              refine r_putI e_X11_findNames_97 fl_X11_99 k0 ?_
              (rw [show M402_0 = setI M 242 2 (M.1 250 u2.toNatClampNeg) from ((e_M402_0.trans (if_neg h75_402)).trans (if_neg h80_404))] at j100_402; exact j100_402)
        refine r_iload_n e_X11_findNames_100 rfl ?_
        refine r_aload_n e_X11_findNames_101 rfl ?_
        refine r_getR e_X11_findNames_102 fl_X11_137 k0 k3 ?_
        refine r_iload_n e_X11_findNames_105 rfl ?_
        refine r_zaload e_X11_findNames_106 k4 g3 ?_
        obtain ⟨v405_0, e_v405_0⟩ : ∃ z : Int32, z = (if (M402_0.1 252 u2.toNatClampNeg) = 0 then (0 : Int32) else (1 : Int32)) := ⟨_, rfl⟩
        have z_v405_0 : v405_0 = 0 ∨ v405_0 = 1 := by rw [e_v405_0]; exact (zi (Or.inl rfl) (Or.inr rfl))
        suffices j115_405 : WP m_X11_findNames Q 115 [some (.ref 242), some (.int u1), some (.int u2), some (.int ((F_X11_findNames_34 u1 u2 FUEL (-1 : Int32) ((M.1 246 (M.1 242 8).toNatClampNeg) - (1 : Int32)) M).1)), some (.int ((F_X11_findNames_34 u1 u2 FUEL (-1 : Int32) ((M.1 246 (M.1 242 8).toNatClampNeg) - (1 : Int32)) M).2))] [.int v405_0, .int u1] sh M402_0 0 0 by
          refine r_if_eq e_X11_findNames_107 (fun h107_405 => ?_) (fun h107_405 => ?_)
          · refine r_iconst e_X11_findNames_114 ic_0 ?_
            (rw [show v405_0 = (0 : Int32) from (e_v405_0.trans (if_pos h107_405))] at j115_405; exact j115_405)
          · refine r_iconst e_X11_findNames_110 ic_1 ?_
            refine r_goto e_X11_findNames_111 ?_
            (rw [show v405_0 = (1 : Int32) from (e_v405_0.trans (if_neg h107_405))] at j115_405; exact j115_405)
        refine r_iadd e_X11_findNames_115 ?_
        refine p_istore_n_5_1 e_X11_findNames_116 rfl rfl ?_
        refine r_aload_n e_X11_findNames_117 rfl ?_
        refine r_getR e_X11_findNames_118 fl_X11_111 k0 k7 ?_
        refine r_sipush e_X11_findNames_121 sp_800 ?_
        refine r_aload_n e_X11_findNames_124 rfl ?_
        refine r_getI e_X11_findNames_125 fl_X11_105 i0 k0 ?_
        refine r_imul e_X11_findNames_128 ?_
        refine r_aload_n e_X11_findNames_129 rfl ?_
        refine r_getR e_X11_findNames_130 fl_X11_134 k0 k9 ?_
        refine r_iload_n e_X11_findNames_133 rfl ?_
        refine r_iaload e_X11_findNames_134 k10 g3 ?_
        refine r_iadd e_X11_findNames_135 ?_
        refine r_iload_n e_X11_findNames_136 rfl ?_
        refine r_iastore e_X11_findNames_137 k8 (by subst e_M402_0; exact g4 ) ?_
        refine p_iinc_5_2 e_X11_findNames_138 rfl ic_1 rfl ?_
        refine r_goto e_X11_findNames_141 ?_
        refine d_5_3 ?_
        refine d_5_4 ?_
        (subst e_v405_0 e_M402_0; simp only [F_X11_findNames_4, if_neg h9_400, if_neg h16_401] at hq; (try simp only [if_neg h9_400, if_neg h16_401] at hH); first | exact ih _ _ _ hH hq | (simp only [if_neg h9_400, if_neg h16_401]; exact ih _ _ _ hH hq))
def U_X11_findNames (M : Mem) : Mem := ((F_X11_findNames_4  FUEL (0 : Int32) (0 : Int32) M).2.2)
def P_X11_findNames (M : Mem) : Prop := (T_X11_findNames_4  FUEL (0 : Int32) (0 : Int32) M)
theorem S_X11_findNames {sh : List SC} {M : Mem}  {mA : Nat} {oA : Nat} (hb1 : ModelAt sh mA oA)  (hP : P_X11_findNames  M) : Gu m_X11_findNames [.ref 242] sh M (U_X11_findNames  M) := by
  refine Sp.of (ls := [some (.ref 242), none, none, none, none]) (by decide +kernel) (Nat.le_of_ble_eq_true rfl) rfl ?_
  have g1 : T_X11_findNames_4  FUEL (0 : Int32) (0 : Int32) M := hP
  refine r_iconst e_X11_findNames_0 ic_0 ?_
  refine p_istore_n_5_1 e_X11_findNames_1 rfl rfl ?_
  refine r_iconst e_X11_findNames_2 ic_0 ?_
  refine p_istore_n_5_2 e_X11_findNames_3 rfl rfl ?_
  refine L_X11_findNames_4 hb1 FUEL (0 : Int32) (0 : Int32) M g1 ?_
  refine r_return e_X11_findNames_144 rfl ⟨rfl, rfl⟩ ?_
  (refine ⟨?_, rfl, ?_⟩ <;> ((try unfold U_X11_findNames); (try simp only []); (try rfl)))
def V_X11_fault (M : Mem) : Int32 := (M.1 242 2)
theorem S_X11_fault {sh : List SC} {M : Mem}  {mA : Nat} {oA : Nat} (hb1 : ModelAt sh mA oA)  : Gv m_X11_fault [.ref 242] sh M (.int (V_X11_fault  M)) M := by
  refine Sp.of (ls := [some (.ref 242)]) (by decide +kernel) (Nat.le_of_ble_eq_true rfl) rfl ?_
  have k0 : kd sh 242 = some (10 + 7, 0) := hb1.1
  refine r_aload_n e_X11_fault_0 rfl ?_
  refine r_getI e_X11_fault_1 fl_X11_99 i0 k0 ?_
  refine r_ireturn e_X11_fault_4 rfl ⟨rfl, rfl⟩ ?_
  (refine ⟨?_, rfl, ?_⟩ <;> ((try unfold V_X11_fault); (try simp only []); (try rfl)))
def V_X11_in (x1 : Int32) (x2 : Int32) (x3 : Int32) (M : Mem) : Int32 := (let v0_0 : Int32 := if x1 < x2 then (0 : Int32) else (if x3 < x1 then (0 : Int32) else (1 : Int32)); v0_0)
theorem Z_X11_in {M : Mem} {x1 : Int32} {x2 : Int32} {x3 : Int32}   : V_X11_in x1 x2 x3 M = 0 ∨ V_X11_in x1 x2 x3 M = 1 := (zi (Or.inl rfl) (zi (Or.inl rfl) (Or.inr rfl)))
theorem S_X11_in {sh : List SC} {M : Mem} {x1 : Int32} {x2 : Int32} {x3 : Int32}    : Gv m_X11_in [.int x1, .int x2, .int x3] sh M (.int (V_X11_in x1 x2 x3 M)) M := by
  refine Sp.of (ls := [some (.int x1), some (.int x2), some (.int x3)]) (by decide +kernel) (Nat.le_of_ble_eq_true rfl) rfl ?_
  refine r_iload_n e_X11_in_0 rfl ?_
  refine r_iload_n e_X11_in_1 rfl ?_
  obtain ⟨v0_0, e_v0_0⟩ : ∃ z : Int32, z = (if x1 < x2 then (0 : Int32) else (if x3 < x1 then (0 : Int32) else (1 : Int32))) := ⟨_, rfl⟩
  have z_v0_0 : v0_0 = 0 ∨ v0_0 = 1 := by rw [e_v0_0]; exact (zi (Or.inl rfl) (zi (Or.inl rfl) (Or.inr rfl)))
  suffices j15_0 : WP m_X11_in (fun r sh' M'' => r = some (.int (V_X11_in x1 x2 x3 M)) ∧ sh' = sh ∧ M'' = M) 15 [some (.int x1), some (.int x2), some (.int x3)] [.int v0_0] sh M 0 0 by
    refine r_icmp_lt e_X11_in_2 (fun h2_0 => ?_) (fun h2_0 => ?_)
    · refine r_iconst e_X11_in_14 ic_0 ?_
      (rw [show v0_0 = (0 : Int32) from (e_v0_0.trans (if_pos h2_0))] at j15_0; exact j15_0)
    · refine r_iload_n e_X11_in_5 rfl ?_
      refine r_iload_n e_X11_in_6 rfl ?_
      refine r_icmp_gt e_X11_in_7 (fun h7_1 => ?_) (fun h7_1 => ?_)
      · refine r_iconst e_X11_in_14 ic_0 ?_
        (rw [show v0_0 = (0 : Int32) from ((e_v0_0.trans (if_neg h2_0)).trans (if_pos h7_1))] at j15_0; exact j15_0)
      · refine r_iconst e_X11_in_10 ic_1 ?_
        refine r_goto e_X11_in_11 ?_
        (rw [show v0_0 = (1 : Int32) from ((e_v0_0.trans (if_neg h2_0)).trans (if_neg h7_1))] at j15_0; exact j15_0)
  refine r_zreturn e_X11_in_15 rfl ⟨rfl, rfl⟩ z_v0_0 ?_
  (subst e_v0_0; refine ⟨?_, rfl, ?_⟩ <;> ((try unfold V_X11_in); (try simp only []); (try rfl)))
