def V_X10_back (x1 : Int32) (M : Mem) : Int32 := if (V_X10_isPlace x1 M) = 0 then (V_X10_finding (-1001 : Int32) M) else (if (M.1 (182 + 30 * x1.toNatClampNeg) 6) = 0 then (V_X10_finding (-1004 : Int32) M) else ((U_X2_copy 122 (182 + 30 * x1.toNatClampNeg) M).1 122 7))
def U_X10_back (x1 : Int32) (M : Mem) : Mem := if (V_X10_isPlace x1 M) = 0 then (U_X10_finding (-1001 : Int32) M) else (if (M.1 (182 + 30 * x1.toNatClampNeg) 6) = 0 then (U_X10_finding (-1004 : Int32) M) else (U_X2_copy 122 (182 + 30 * x1.toNatClampNeg) M))
def P_X10_back (x1 : Int32) (M : Mem) : Prop := (¬ ((V_X10_isPlace x1 M) = 0) → vp_in x1 2) ∧ (¬ ((V_X10_isPlace x1 M) = 0) → ¬ ((M.1 (182 + 30 * x1.toNatClampNeg) 6) = 0) → vp_in x1 2) ∧ (¬ ((V_X10_isPlace x1 M) = 0) → ¬ ((M.1 (182 + 30 * x1.toNatClampNeg) 6) = 0) → P_X2_copy 122 (182 + 30 * x1.toNatClampNeg) M)
theorem S_X10_back {sh : List SC} {M : Mem} {x1 : Int32}  (hb1 : PitchAt sh) (g3 : (M.1 (182 + 30 * x1.toNatClampNeg) 6) = 0 ∨ (M.1 (182 + 30 * x1.toNatClampNeg) 6) = 1) (hP : P_X10_back x1 M) : Gv m_X10_back [.ref 0, .int x1] sh M (.int (V_X10_back x1 M)) (U_X10_back x1 M) := by
  refine Sp.of (ls := [some (.ref 0), some (.int x1)]) (by decide +kernel) (Nat.le_of_ble_eq_true rfl) rfl ?_
  obtain ⟨g1, g2, g4⟩ := hP
  have k0 : kd sh 0 = some (9 + 7, 0) := hb1.1
  have k1 : rf sh 0 6 = some 10 := hb1.2.2.2.2.2.2.2.1
  have k2 : kd sh 10 = some (5, 2) := hb1.2.2.2.2.2.2.2.2.2.2.2.2.1
  have k3 : rf sh 0 4 = some 122 := hb1.2.2.2.2.2.1
  have k4 : kd sh 122 = some (2 + 7, 0) := hb1.2.2.2.2.2.2.2.2.2.2.2.2.2.2.2.2.1.1
  refine r_iload_n e_X10_back_0 rfl ?_
  refine cS1v e_X10_back_1 cl_X10_154 ⟨Nat.le_of_ble_eq_true rfl, Nat.le_of_ble_eq_true rfl⟩ ⟨rfl, rfl⟩  (Nat.le_of_ble_eq_true rfl) (S_X10_isPlace ) ?_
  refine r_if_ne e_X10_back_4 (fun h4_0 => ?_) (fun h4_0 => ?_)
  · refine r_aload_n e_X10_back_15 rfl ?_
    refine r_getR e_X10_back_16 fl_X10_34 k0 k1 ?_
    refine r_iload_n e_X10_back_19 rfl ?_
    refine r_aaload (b := (182 + 30 * x1.toNatClampNeg)) e_X10_back_20 k2 ⟨by decide, by decide⟩ (g1 h4_0) (hb1.2.2.2.2.2.2.2.2.2.2.2.2.2.1 x1.toNatClampNeg (vp_lt (g1 h4_0))).1 ?_
    refine r_getI e_X10_back_21 fl_X10_115 i3 (show kd sh (182 + 30 * x1.toNatClampNeg) = some (2 + 7, 0) from (hb1.2.2.2.2.2.2.2.2.2.2.2.2.2.1 x1.toNatClampNeg (vp_lt (g1 h4_0))).2.1) ?_
    refine r_if_ne e_X10_back_24 (fun h24_1 => ?_) (fun h24_1 => ?_)
    · refine r_aload_n e_X10_back_35 rfl ?_
      refine r_getR e_X10_back_36 fl_X10_63 k0 k3 ?_
      refine r_aload_n e_X10_back_39 rfl ?_
      refine r_getR e_X10_back_40 fl_X10_34 k0 k1 ?_
      refine r_iload_n e_X10_back_43 rfl ?_
      refine r_aaload (b := (182 + 30 * x1.toNatClampNeg)) e_X10_back_44 k2 ⟨by decide, by decide⟩ (g2 h4_0 h24_1) (hb1.2.2.2.2.2.2.2.2.2.2.2.2.2.1 x1.toNatClampNeg (vp_lt (g2 h4_0 h24_1))).1 ?_
      refine cV1u e_X10_back_45 cl_X10_157 ⟨Nat.le_of_ble_eq_true rfl, Nat.le_of_ble_eq_true rfl⟩ ⟨rfl, rfl⟩ k4 (Nat.le_of_ble_eq_true rfl) (S_X2_copy hb1.2.2.2.2.2.2.2.2.2.2.2.2.2.2.2.2.1 (hb1.2.2.2.2.2.2.2.2.2.2.2.2.2.1 x1.toNatClampNeg (vp_lt (g2 h4_0 h24_1))).2 g3 (g4 h4_0 h24_1)) ?_
      refine r_aload_n e_X10_back_48 rfl ?_
      refine r_getR e_X10_back_49 fl_X10_63 k0 k3 ?_
      refine r_getI e_X10_back_52 fl_X10_140 i0 k4 ?_
      refine r_ireturn e_X10_back_55 rfl ⟨rfl, rfl⟩ ?_
      (refine ⟨?_, rfl, ?_⟩ <;> ((try unfold V_X10_back); (try unfold U_X10_back); (try simp only [if_neg h4_0, if_neg h24_1]); (try rfl)))
    · refine r_aload_n e_X10_back_27 rfl ?_
      refine r_sipush e_X10_back_28 sp_m1004 ?_
      refine cV1v e_X10_back_31 cl_X10_70 ⟨Nat.le_of_ble_eq_true rfl, Nat.le_of_ble_eq_true rfl⟩ ⟨rfl, rfl⟩ k0 (Nat.le_of_ble_eq_true rfl) (S_X10_finding hb1) ?_
      refine r_ireturn e_X10_back_34 rfl ⟨rfl, rfl⟩ ?_
      (refine ⟨?_, rfl, ?_⟩ <;> ((try unfold V_X10_back); (try unfold U_X10_back); (try simp only [if_neg h4_0, if_pos h24_1]); (try rfl)))
  · refine r_aload_n e_X10_back_7 rfl ?_
    refine r_sipush e_X10_back_8 sp_m1001 ?_
    refine cV1v e_X10_back_11 cl_X10_70 ⟨Nat.le_of_ble_eq_true rfl, Nat.le_of_ble_eq_true rfl⟩ ⟨rfl, rfl⟩ k0 (Nat.le_of_ble_eq_true rfl) (S_X10_finding hb1) ?_
    refine r_ireturn e_X10_back_14 rfl ⟨rfl, rfl⟩ ?_
    (refine ⟨?_, rfl, ?_⟩ <;> ((try unfold V_X10_back); (try unfold U_X10_back); (try simp only [if_pos h4_0]); (try rfl)))
def U_X1_enter (a : Nat) (x1 : Int32) (x2 : Int32) (x3 : Int32) (x4 : Int32) (M : Mem) : Mem := U_X1_enterFor a x2 x4 x3 (U_X1_enterFor a x1 x3 x4 M)
theorem S_X1_enter {sh : List SC} {M : Mem} {a : Nat} {x1 : Int32} {x2 : Int32} {x3 : Int32} {x4 : Int32}  (hb1 : LeagueAt sh a)  : Gu m_X1_enter [.ref a, .int x1, .int x2, .int x3, .int x4] sh M (U_X1_enter a x1 x2 x3 x4 M) := by
  refine Sp.of (ls := [some (.ref a), some (.int x1), some (.int x2), some (.int x3), some (.int x4)]) (by decide +kernel) (Nat.le_of_ble_eq_true rfl) rfl ?_
  have k0 : kd sh a = some (1 + 7, 0) := hb1.1
  refine r_aload_n e_X1_enter_0 rfl ?_
  refine r_iload_n e_X1_enter_1 rfl ?_
  refine r_iload_n e_X1_enter_2 rfl ?_
  refine r_iload e_X1_enter_3 rfl ?_
  refine cV3u e_X1_enter_5 cl_X1_29 ⟨Nat.le_of_ble_eq_true rfl, Nat.le_of_ble_eq_true rfl⟩ ⟨rfl, rfl⟩ k0 (Nat.le_of_ble_eq_true rfl) (S_X1_enterFor hb1) ?_
  refine r_aload_n e_X1_enter_8 rfl ?_
  refine r_iload_n e_X1_enter_9 rfl ?_
  refine r_iload e_X1_enter_10 rfl ?_
  refine r_iload_n e_X1_enter_12 rfl ?_
  refine cV3u e_X1_enter_13 cl_X1_29 ⟨Nat.le_of_ble_eq_true rfl, Nat.le_of_ble_eq_true rfl⟩ ⟨rfl, rfl⟩ k0 (Nat.le_of_ble_eq_true rfl) (S_X1_enterFor hb1) ?_
  refine r_return e_X1_enter_16 rfl ⟨rfl, rfl⟩ ?_
  (refine ⟨?_, rfl, ?_⟩ <;> ((try unfold U_X1_enter); (try simp only []); (try rfl)))
def V_X10_table (x1 : Int32) (x2 : Int32) (M : Mem) : Int32 := if (V_X10_isTeam x1 M) = 0 then (V_X10_finding (-1001 : Int32) M) else (if x2 < 0 then (V_X10_finding (-1001 : Int32) M) else (if x2 ≤ (2 : Int32) then (if (V_X1_has 11 x1 M) = 0 then (V_X10_finding (-1004 : Int32) M) else (V_X1_shown 11 x1 x2 M)) else (V_X10_finding (-1001 : Int32) M)))
def U_X10_table (x1 : Int32) (x2 : Int32) (M : Mem) : Mem := if (V_X10_isTeam x1 M) = 0 then (U_X10_finding (-1001 : Int32) M) else (if x2 < 0 then (U_X10_finding (-1001 : Int32) M) else (if x2 ≤ (2 : Int32) then (if (V_X1_has 11 x1 M) = 0 then (U_X10_finding (-1004 : Int32) M) else M) else (U_X10_finding (-1001 : Int32) M)))
theorem S_X10_table {sh : List SC} {M : Mem} {x1 : Int32} {x2 : Int32}  (hb1 : PitchAt sh)  : Gv m_X10_table [.ref 0, .int x1, .int x2] sh M (.int (V_X10_table x1 x2 M)) (U_X10_table x1 x2 M) := by
  refine Sp.of (ls := [some (.ref 0), some (.int x1), some (.int x2)]) (by decide +kernel) (Nat.le_of_ble_eq_true rfl) rfl ?_
  have k0 : kd sh 0 = some (9 + 7, 0) := hb1.1
  have k1 : rf sh 0 7 = some 11 := hb1.2.2.2.2.2.2.2.2.1
  have k2 : kd sh 11 = some (1 + 7, 0) := hb1.2.2.2.2.2.2.2.2.2.2.2.2.2.2.2.1.1
  refine r_iload_n e_X10_table_0 rfl ?_
  refine cS1v e_X10_table_1 cl_X10_89 ⟨Nat.le_of_ble_eq_true rfl, Nat.le_of_ble_eq_true rfl⟩ ⟨rfl, rfl⟩  (Nat.le_of_ble_eq_true rfl) (S_X10_isTeam ) ?_
  refine r_if_eq e_X10_table_4 (fun h4_0 => ?_) (fun h4_0 => ?_)
  · refine r_aload_n e_X10_table_16 rfl ?_
    refine r_sipush e_X10_table_17 sp_m1001 ?_
    refine cV1v e_X10_table_20 cl_X10_70 ⟨Nat.le_of_ble_eq_true rfl, Nat.le_of_ble_eq_true rfl⟩ ⟨rfl, rfl⟩ k0 (Nat.le_of_ble_eq_true rfl) (S_X10_finding hb1) ?_
    refine r_ireturn e_X10_table_23 rfl ⟨rfl, rfl⟩ ?_
    (refine ⟨?_, rfl, ?_⟩ <;> ((try unfold V_X10_table); (try unfold U_X10_table); (try simp only [if_pos h4_0]); (try rfl)))
  · refine r_iload_n e_X10_table_7 rfl ?_
    refine r_if_lt e_X10_table_8 (fun h8_1 => ?_) (fun h8_1 => ?_)
    · refine r_aload_n e_X10_table_16 rfl ?_
      refine r_sipush e_X10_table_17 sp_m1001 ?_
      refine cV1v e_X10_table_20 cl_X10_70 ⟨Nat.le_of_ble_eq_true rfl, Nat.le_of_ble_eq_true rfl⟩ ⟨rfl, rfl⟩ k0 (Nat.le_of_ble_eq_true rfl) (S_X10_finding hb1) ?_
      refine r_ireturn e_X10_table_23 rfl ⟨rfl, rfl⟩ ?_
      (refine ⟨?_, rfl, ?_⟩ <;> ((try unfold V_X10_table); (try unfold U_X10_table); (try simp only [if_neg h4_0, if_pos h8_1]); (try rfl)))
    · refine r_iload_n e_X10_table_11 rfl ?_
      refine r_iconst e_X10_table_12 ic_2 ?_
      refine r_icmp_le e_X10_table_13 (fun h13_2 => ?_) (fun h13_2 => ?_)
      · refine r_aload_n e_X10_table_24 rfl ?_
        refine r_getR e_X10_table_25 fl_X10_41 k0 k1 ?_
        refine r_iload_n e_X10_table_28 rfl ?_
        refine cV1v e_X10_table_29 cl_X10_173 ⟨Nat.le_of_ble_eq_true rfl, Nat.le_of_ble_eq_true rfl⟩ ⟨rfl, rfl⟩ k2 (Nat.le_of_ble_eq_true rfl) (S_X1_has hb1.2.2.2.2.2.2.2.2.2.2.2.2.2.2.2.1) ?_
        refine r_if_ne e_X10_table_32 (fun h32_3 => ?_) (fun h32_3 => ?_)
        · refine r_aload_n e_X10_table_43 rfl ?_
          refine r_getR e_X10_table_44 fl_X10_41 k0 k1 ?_
          refine r_iload_n e_X10_table_47 rfl ?_
          refine r_iload_n e_X10_table_48 rfl ?_
          refine cV2v e_X10_table_49 cl_X10_186 ⟨Nat.le_of_ble_eq_true rfl, Nat.le_of_ble_eq_true rfl⟩ ⟨rfl, rfl⟩ k2 (Nat.le_of_ble_eq_true rfl) (S_X1_shown hb1.2.2.2.2.2.2.2.2.2.2.2.2.2.2.2.1) ?_
          refine r_ireturn e_X10_table_52 rfl ⟨rfl, rfl⟩ ?_
          (refine ⟨?_, rfl, ?_⟩ <;> ((try unfold V_X10_table); (try unfold U_X10_table); (try simp only [if_neg h4_0, if_neg h8_1, if_pos h13_2, if_neg h32_3]); (try rfl)))
        · refine r_aload_n e_X10_table_35 rfl ?_
          refine r_sipush e_X10_table_36 sp_m1004 ?_
          refine cV1v e_X10_table_39 cl_X10_70 ⟨Nat.le_of_ble_eq_true rfl, Nat.le_of_ble_eq_true rfl⟩ ⟨rfl, rfl⟩ k0 (Nat.le_of_ble_eq_true rfl) (S_X10_finding hb1) ?_
          refine r_ireturn e_X10_table_42 rfl ⟨rfl, rfl⟩ ?_
          (refine ⟨?_, rfl, ?_⟩ <;> ((try unfold V_X10_table); (try unfold U_X10_table); (try simp only [if_neg h4_0, if_neg h8_1, if_pos h13_2, if_pos h32_3]); (try rfl)))
      · refine r_aload_n e_X10_table_16 rfl ?_
        refine r_sipush e_X10_table_17 sp_m1001 ?_
        refine cV1v e_X10_table_20 cl_X10_70 ⟨Nat.le_of_ble_eq_true rfl, Nat.le_of_ble_eq_true rfl⟩ ⟨rfl, rfl⟩ k0 (Nat.le_of_ble_eq_true rfl) (S_X10_finding hb1) ?_
        refine r_ireturn e_X10_table_23 rfl ⟨rfl, rfl⟩ ?_
        (refine ⟨?_, rfl, ?_⟩ <;> ((try unfold V_X10_table); (try unfold U_X10_table); (try simp only [if_neg h4_0, if_neg h8_1, if_neg h13_2]); (try rfl)))
def F_X1_teamAt_12 (a : Nat) (x1 : Int32) (i2 : Nat) : Nat → Nat → Int32 → Mem → Int32
  | 0, i12, u3, M => u3
  | n + 1, i12, u3, M => (let v1400_0 : Int32 := if (V_X1_has a (nI i12) M) = 0 then u3 else (if (V_X1_isAhead a (nI i12) (nI i2) M) = 0 then u3 else (u3 + 1)); (F_X1_teamAt_12 a x1 i2 n (i12 + 1) v1400_0 M))
theorem L_X1_teamAt_12 {sh : List SC} {Q : Po} {a : Nat} {x1 : Int32}   {i2 : Nat} (hb1 : LeagueAt sh a)  (hlt_i2 : i2 < 4) : ∀ (n i12 : Nat) (u3 : Int32) (M : Mem), i12 + n = 4 → WP m_X1_teamAt Q 46 [some (.ref a), some (.int x1), some (.int (nI i2)), some (.int (F_X1_teamAt_12 a x1 i2 n i12 u3 M)), none] [] sh M 0 0 → WP m_X1_teamAt Q 12 [some (.ref a), some (.int x1), some (.int (nI i2)), some (.int u3), some (.int (nI i12))] [] sh M 0 0 := by
  have k0 : kd sh a = some (1 + 7, 0) := hb1.1
  have hcl_i2 : (nI i2).toNatClampNeg = i2 := nI_clamp (by omega)
  intro n
  induction n with
  | zero =>
    intro i12 u3 M hi hq
    have hz : (4 : Int32) ≤ nI i12 := by
      have q : i12 = 4 := by omega
      rw [q]; exact nI_le (Nat.le_refl _) (by decide)
    refine r_iload e_X1_teamAt_12 rfl ?_
    refine r_iconst e_X1_teamAt_14 ic_4 ?_
    refine r_icmp_ge e_X1_teamAt_15 (fun _ => ?_) (fun hh => absurd hz hh)
    refine d_5_4 ?_
    (simp only [F_X1_teamAt_12] at hq; first | exact hq | (simp only []; exact hq))
  | succ n ih =>
    intro i12 u3 M hi hq
    have hlt_i12 : i12 < 4 := by omega
    have hcl_i12 : (nI i12).toNatClampNeg = i12 := nI_clamp (by omega)
    have hs : ¬ (4 : Int32) ≤ nI i12 := nI_ge (b := 4) hlt_i12 (by decide)
    refine r_iload e_X1_teamAt_12 rfl ?_
    refine r_iconst e_X1_teamAt_14 ic_4 ?_
    refine r_icmp_ge e_X1_teamAt_15 (fun hh => absurd hh hs) (fun _ => ?_)
    refine r_aload_n e_X1_teamAt_18 rfl ?_
    refine r_iload e_X1_teamAt_19 rfl ?_
    refine cV1v e_X1_teamAt_21 cl_X1_37 ⟨Nat.le_of_ble_eq_true rfl, Nat.le_of_ble_eq_true rfl⟩ ⟨rfl, rfl⟩ k0 (Nat.le_of_ble_eq_true rfl) (S_X1_has hb1) ?_
    obtain ⟨v1400_0, e_v1400_0⟩ : ∃ z : Int32, z = (if (V_X1_has a (nI i12) M) = 0 then u3 else (if (V_X1_isAhead a (nI i12) (nI i2) M) = 0 then u3 else (u3 + 1))) := ⟨_, rfl⟩
    suffices j40_1400 : WP m_X1_teamAt Q 40 [some (.ref a), some (.int x1), some (.int (nI i2)), some (.int v1400_0), some (.int (nI i12))] [] sh M 0 0 by
      refine r_if_eq e_X1_teamAt_24 (fun h24_1400 => ?_) (fun h24_1400 => ?_)
      · rw [show v1400_0 = u3 from (e_v1400_0.trans (if_pos h24_1400))] at j40_1400; exact j40_1400
      · refine r_aload_n e_X1_teamAt_27 rfl ?_
        refine r_iload e_X1_teamAt_28 rfl ?_
        refine r_iload_n e_X1_teamAt_30 rfl ?_
        refine cV2v e_X1_teamAt_31 cl_X1_41 ⟨Nat.le_of_ble_eq_true rfl, Nat.le_of_ble_eq_true rfl⟩ ⟨rfl, rfl⟩ k0 (Nat.le_of_ble_eq_true rfl) (S_X1_isAhead hb1) ?_
        refine r_if_eq e_X1_teamAt_34 (fun h34_1401 => ?_) (fun h34_1401 => ?_)
        · rw [show v1400_0 = u3 from ((e_v1400_0.trans (if_neg h24_1400)).trans (if_pos h34_1401))] at j40_1400; exact j40_1400
        · refine p_iinc_5_3 e_X1_teamAt_37 rfl ic_1 rfl ?_
          rw [show v1400_0 = (u3 + 1) from ((e_v1400_0.trans (if_neg h24_1400)).trans (if_neg h34_1401))] at j40_1400; exact j40_1400
    refine p_iinc_5_4 e_X1_teamAt_40 rfl ic_1 rfl ?_
    rw [nI_1 i12]
    refine r_goto e_X1_teamAt_43 ?_
    (subst e_v1400_0; simp only [F_X1_teamAt_12] at hq; first | exact ih (i12 + 1) _ _ (by omega) hq | (simp only []; exact ih (i12 + 1) _ _ (by omega) hq))
def FV_X1_teamAt_2 (a : Nat) (x1 : Int32) : Nat → Nat → Mem → Int32
  | 0, i2, M => (-1 : Int32)
  | n + 1, i2, M => if (V_X1_has a (nI i2) M) = 0 then (FV_X1_teamAt_2 a x1 n (i2 + 1) M) else (if (F_X1_teamAt_12 a x1 i2 4 0 (0 : Int32) M) = x1 then (nI i2) else (FV_X1_teamAt_2 a x1 n (i2 + 1) M))
theorem L_X1_teamAt_2 {sh : List SC} {Q : Po} {a : Nat} {x1 : Int32}    (hb1 : LeagueAt sh a)   : ∀ (n i2 : Nat) (M : Mem), i2 + n = 4 → Q (some (.int (FV_X1_teamAt_2 a x1 n i2 M))) sh M → WP m_X1_teamAt Q 2 [some (.ref a), some (.int x1), some (.int (nI i2)), none, none] [] sh M 0 0 := by
  have k0 : kd sh a = some (1 + 7, 0) := hb1.1
  intro n
  induction n with
  | zero =>
    intro i2 M hi hq
    have hz : (4 : Int32) ≤ nI i2 := by
      have q : i2 = 4 := by omega
      rw [q]; exact nI_le (Nat.le_refl _) (by decide)
    refine r_iload_n e_X1_teamAt_2 rfl ?_
    refine r_iconst e_X1_teamAt_3 ic_4 ?_
    refine r_icmp_ge e_X1_teamAt_4 (fun _ => ?_) (fun hh => absurd hz hh)
    refine r_iconst e_X1_teamAt_67 ic_m1 ?_
    refine r_ireturn e_X1_teamAt_68 rfl ⟨rfl, rfl⟩ ?_
    (simp only [FV_X1_teamAt_2] at hq; first | exact hq | (simp only []; exact hq))
  | succ n ih =>
    intro i2 M hi hq
    have hlt_i2 : i2 < 4 := by omega
    have hcl_i2 : (nI i2).toNatClampNeg = i2 := nI_clamp (by omega)
    have hs : ¬ (4 : Int32) ≤ nI i2 := nI_ge (b := 4) hlt_i2 (by decide)
    refine r_iload_n e_X1_teamAt_2 rfl ?_
    refine r_iconst e_X1_teamAt_3 ic_4 ?_
    refine r_icmp_ge e_X1_teamAt_4 (fun hh => absurd hh hs) (fun _ => ?_)
    refine r_iconst e_X1_teamAt_7 ic_0 ?_
    refine p_istore_n_5_3 e_X1_teamAt_8 rfl rfl ?_
    refine r_iconst e_X1_teamAt_9 ic_0 ?_
    refine p_istore_5_4 e_X1_teamAt_10 rfl rfl ?_
    skip
    show WP m_X1_teamAt _ 12 [some (.ref a), some (.int x1), some (.int (nI i2)), some (.int (0 : Int32)), some (.int (nI 0))] [] sh M 0 0
    refine L_X1_teamAt_12 hb1 hlt_i2 4 0 (0 : Int32) M (by omega) ?_
    refine r_aload_n e_X1_teamAt_46 rfl ?_
    refine r_iload_n e_X1_teamAt_47 rfl ?_
    refine cV1v e_X1_teamAt_48 cl_X1_37 ⟨Nat.le_of_ble_eq_true rfl, Nat.le_of_ble_eq_true rfl⟩ ⟨rfl, rfl⟩ k0 (Nat.le_of_ble_eq_true rfl) (S_X1_has hb1) ?_
    refine r_if_eq e_X1_teamAt_51 (fun h51_200 => ?_) (fun h51_200 => ?_)
    · refine p_iinc_5_2 e_X1_teamAt_61 rfl ic_1 rfl ?_
      rw [nI_1 i2]
      refine r_goto e_X1_teamAt_64 ?_
      refine d_5_3 ?_
      (simp only [FV_X1_teamAt_2, if_pos h51_200] at hq; first | exact ih (i2 + 1) _ (by omega) hq | (simp only [if_pos h51_200]; exact ih (i2 + 1) _ (by omega) hq))
    · refine r_iload_n e_X1_teamAt_54 rfl ?_
      refine r_iload_n e_X1_teamAt_55 rfl ?_
      refine r_icmp_ne e_X1_teamAt_56 (fun h56_201 => ?_) (fun h56_201 => ?_)
      · refine p_iinc_5_2 e_X1_teamAt_61 rfl ic_1 rfl ?_
        rw [nI_1 i2]
        refine r_goto e_X1_teamAt_64 ?_
        refine d_5_3 ?_
        (simp only [FV_X1_teamAt_2, if_neg h51_200, if_neg h56_201] at hq; first | exact ih (i2 + 1) _ (by omega) hq | (simp only [if_neg h51_200, if_neg h56_201]; exact ih (i2 + 1) _ (by omega) hq))
      · refine r_iload_n e_X1_teamAt_59 rfl ?_
        refine r_ireturn e_X1_teamAt_60 rfl ⟨rfl, rfl⟩ ?_
        (simp only [FV_X1_teamAt_2, if_neg h51_200, if_pos h56_201] at hq; first | exact hq | (simp only [if_neg h51_200, if_pos h56_201]; exact hq))
def V_X1_teamAt (a : Nat) (x1 : Int32) (M : Mem) : Int32 := (FV_X1_teamAt_2 a x1 4 0 M)
theorem S_X1_teamAt {sh : List SC} {M : Mem} {a : Nat} {x1 : Int32}  (hb1 : LeagueAt sh a)  : Gv m_X1_teamAt [.ref a, .int x1] sh M (.int (V_X1_teamAt a x1 M)) M := by
  refine Sp.of (ls := [some (.ref a), some (.int x1), none, none, none]) (by decide +kernel) (Nat.le_of_ble_eq_true rfl) rfl ?_
  refine r_iconst e_X1_teamAt_0 ic_0 ?_
  refine p_istore_n_5_2 e_X1_teamAt_1 rfl rfl ?_
  skip
  show WP m_X1_teamAt _ 2 [some (.ref a), some (.int x1), some (.int (nI 0)), none, none] [] sh M 0 0
  refine L_X1_teamAt_2 hb1 4 0  M (by omega) ?_
  (refine ⟨?_, rfl, ?_⟩ <;> ((try unfold V_X1_teamAt); (try simp only []); (try rfl)))
def F_X11_feed_42 (x1 : Int64) (nn : Nat) : Nat → Nat → Mem → Mem
  | 0, i42, M => M
  | n + 1, i42, M => (F_X11_feed_42 x1 nn n (i42 + 1) (setI (setI M 243 (M.1 242 1).toNatClampNeg (((x1 >>> (((8 : Int32) * (nI i42)).toInt64 &&& 63)) &&& (255 : Int64)).toInt32)) 242 1 ((M.1 242 1) + (1 : Int32))))
def H_X11_feed_42 (x1 : Int64) (nn : Nat) : Nat → Nat → Mem → Prop
  | 0, i42, M => True
  | n + 1, i42, M => (vp_in (M.1 242 1) 800) ∧ ((H_X11_feed_42 x1 nn n (i42 + 1) (setI (setI M 243 (M.1 242 1).toNatClampNeg (((x1 >>> (((8 : Int32) * (nI i42)).toInt64 &&& 63)) &&& (255 : Int64)).toInt32)) 242 1 ((M.1 242 1) + (1 : Int32)))))
theorem L_X11_feed_42 {sh : List SC} {Q : Po} {x1 : Int64} {nn : Nat} {mA : Nat} {oA : Nat}   (hb1 : ModelAt sh mA oA) (g1 : nn < 2 ^ 31)  : ∀ (n i42 : Nat) (M : Mem), i42 + n = nn → H_X11_feed_42 x1 nn n i42 M → WP m_X11_feed Q 85 [some (.ref 242), some (.long x1), none, some (.int (nI nn)), none] [] sh (F_X11_feed_42 x1 nn n i42 M) 0 0 → WP m_X11_feed Q 42 [some (.ref 242), some (.long x1), none, some (.int (nI nn)), some (.int (nI i42))] [] sh M 0 0 := by
  have k0 : kd sh 242 = some (10 + 7, 0) := hb1.1
  have k1 : rf sh 242 0 = some 243 := hb1.2.1
  have k2 : kd sh 243 = some (0, 800) := hb1.2.2.2.2.2.2.2.2.2.2.2.2.2.2.2.2.2.2.2.2.2.2.2.2.2.2.2.1
  intro n
  induction n with
  | zero =>
    intro i42 M hi _ hq
    have hz : (nI nn) ≤ nI i42 := by
      have q : i42 = nn := by omega
      rw [q]; exact nI_le (Nat.le_refl _) (by assumption)
    refine r_iload e_X11_feed_42 rfl ?_
    refine r_iload_n e_X11_feed_44 rfl ?_
    refine r_icmp_ge e_X11_feed_45 (fun _ => ?_) (fun hh => absurd hz hh)
    refine d_5_4 ?_
    (simp only [F_X11_feed_42] at hq; first | exact hq | (simp only []; exact hq))
  | succ n ih =>
    intro i42 M hi hH hq
    unfold H_X11_feed_42 at hH
    obtain ⟨g2, hH⟩ := hH
    have hlt_i42 : i42 < nn := by omega
    have hcl_i42 : (nI i42).toNatClampNeg = i42 := nI_clamp (by omega)
    have hs : ¬ (nI nn) ≤ nI i42 := nI_ge (b := nn) hlt_i42 (by assumption)
    refine r_iload e_X11_feed_42 rfl ?_
    refine r_iload_n e_X11_feed_44 rfl ?_
    refine r_icmp_ge e_X11_feed_45 (fun hh => absurd hh hs) (fun _ => ?_)
    refine r_aload_n e_X11_feed_48 rfl ?_
    refine r_getR e_X11_feed_49 fl_X11_7 k0 k1 ?_
    refine r_aload_n e_X11_feed_52 rfl ?_
    refine r_getI e_X11_feed_53 fl_X11_1 i0 k0 ?_
    refine r_lload_n e_X11_feed_56 rfl ?_
    refine r_bipush e_X11_feed_57 bp_8 ?_
    refine r_iload e_X11_feed_59 rfl ?_
    refine r_imul e_X11_feed_61 ?_
    refine r_lshr e_X11_feed_62 ?_
    refine r_ldc2 e_X11_feed_63 lc_X11_181 ?_
    refine r_land e_X11_feed_66 ?_
    refine r_l2i e_X11_feed_67 ?_
    refine r_iastore e_X11_feed_68 k2 g2 ?_
    refine r_aload_n e_X11_feed_69 rfl ?_
    refine r_dup e_X11_feed_70 rfl ?_
    refine r_getIe e_X11_feed_71 fl_X11_1 i0 k0 (gs_aI (by omega)) ?_
    refine r_iconst e_X11_feed_74 ic_1 ?_
    refine r_iadd e_X11_feed_75 ?_
    refine r_putI e_X11_feed_76 fl_X11_1 k0 ?_
    refine p_iinc_5_4 e_X11_feed_79 rfl ic_1 rfl ?_
    rw [nI_1 i42]
    refine r_goto e_X11_feed_82 ?_
    (simp only [F_X11_feed_42] at hq; (try simp only [] at hH); first | exact ih (i42 + 1) _ (by omega) hH hq | (simp only []; exact ih (i42 + 1) _ (by omega) hH hq))
def V_X11_feed (x1 : Int64) (nn : Nat) (M : Mem) : Int32 := if (nI nn) < (1 : Int32) then (V_X11_finding (-1001 : Int32) M) else (if (nI nn) ≤ (8 : Int32) then (if ((M.1 242 1) + (nI nn)) ≤ (800 : Int32) then ((F_X11_feed_42 x1 nn (nn - 0) 0 M).1 242 1) else (V_X11_finding (-1002 : Int32) M)) else (V_X11_finding (-1001 : Int32) M))
def U_X11_feed (x1 : Int64) (nn : Nat) (M : Mem) : Mem := if (nI nn) < (1 : Int32) then (U_X11_finding (-1001 : Int32) M) else (if (nI nn) ≤ (8 : Int32) then (if ((M.1 242 1) + (nI nn)) ≤ (800 : Int32) then (F_X11_feed_42 x1 nn (nn - 0) 0 M) else (U_X11_finding (-1002 : Int32) M)) else (U_X11_finding (-1001 : Int32) M))
def P_X11_feed (x1 : Int64) (nn : Nat) (M : Mem) : Prop := (¬ ((nI nn) < (1 : Int32)) → (nI nn) ≤ (8 : Int32) → ((M.1 242 1) + (nI nn)) ≤ (800 : Int32) → H_X11_feed_42 x1 nn (nn - 0) 0 M)
theorem S_X11_feed {sh : List SC} {M : Mem} {x1 : Int64} {nn : Nat} {mA : Nat} {oA : Nat} (hb1 : ModelAt sh mA oA) (g1 : nn < 2 ^ 31) (hP : P_X11_feed x1 nn M) : Gv m_X11_feed [.ref 242, .long x1, .int (nI nn)] sh M (.int (V_X11_feed x1 nn M)) (U_X11_feed x1 nn M) := by
  refine Sp.of (ls := [some (.ref 242), some (.long x1), none, some (.int (nI nn)), none]) (by decide +kernel) (Nat.le_of_ble_eq_true rfl) rfl ?_
  have g2 : ¬ ((nI nn) < (1 : Int32)) → (nI nn) ≤ (8 : Int32) → ((M.1 242 1) + (nI nn)) ≤ (800 : Int32) → H_X11_feed_42 x1 nn (nn - 0) 0 M := hP
  have k0 : kd sh 242 = some (10 + 7, 0) := hb1.1
  refine r_iload_n e_X11_feed_0 rfl ?_
  refine r_iconst e_X11_feed_1 ic_1 ?_
  refine r_icmp_lt e_X11_feed_2 (fun h2_0 => ?_) (fun h2_0 => ?_)
  · refine r_aload_n e_X11_feed_11 rfl ?_
    refine r_sipush e_X11_feed_12 sp_m1001 ?_
    refine cV1v e_X11_feed_15 cl_X11_178 ⟨Nat.le_of_ble_eq_true rfl, Nat.le_of_ble_eq_true rfl⟩ ⟨rfl, rfl⟩ k0 (Nat.le_of_ble_eq_true rfl) (S_X11_finding hb1 (by first | decide | (unfold vp_in; decide) | exact Or.inl rfl | exact Or.inr rfl)) ?_
    refine r_ireturn e_X11_feed_18 rfl ⟨rfl, rfl⟩ ?_
    (refine ⟨?_, rfl, ?_⟩ <;> ((try unfold V_X11_feed); (try unfold U_X11_feed); (try simp only [if_pos h2_0]); (try rfl)))
  · refine r_iload_n e_X11_feed_5 rfl ?_
    refine r_bipush e_X11_feed_6 bp_8 ?_
    refine r_icmp_le e_X11_feed_8 (fun h8_1 => ?_) (fun h8_1 => ?_)
    · refine r_aload_n e_X11_feed_19 rfl ?_
      refine r_getI e_X11_feed_20 fl_X11_1 i0 k0 ?_
      refine r_iload_n e_X11_feed_23 rfl ?_
      refine r_iadd e_X11_feed_24 ?_
      refine r_sipush e_X11_feed_25 sp_800 ?_
      refine r_icmp_le e_X11_feed_28 (fun h28_2 => ?_) (fun h28_2 => ?_)
      · refine r_iconst e_X11_feed_39 ic_0 ?_
        refine p_istore_5_4 e_X11_feed_40 rfl rfl ?_
        skip
        show WP m_X11_feed _ 42 [some (.ref 242), some (.long x1), none, some (.int (nI nn)), some (.int (nI 0))] [] sh M 0 0
        refine L_X11_feed_42 hb1 g1 (nn - 0) 0  M (by omega) (g2 h2_0 h8_1 h28_2) ?_
        refine r_aload_n e_X11_feed_85 rfl ?_
        refine r_getI e_X11_feed_86 fl_X11_1 i0 k0 ?_
        refine r_ireturn e_X11_feed_89 rfl ⟨rfl, rfl⟩ ?_
        (refine ⟨?_, rfl, ?_⟩ <;> ((try unfold V_X11_feed); (try unfold U_X11_feed); (try simp only [if_neg h2_0, if_pos h8_1, if_pos h28_2]); (try rfl)))
      · refine r_aload_n e_X11_feed_31 rfl ?_
        refine r_sipush e_X11_feed_32 sp_m1002 ?_
        refine cV1v e_X11_feed_35 cl_X11_178 ⟨Nat.le_of_ble_eq_true rfl, Nat.le_of_ble_eq_true rfl⟩ ⟨rfl, rfl⟩ k0 (Nat.le_of_ble_eq_true rfl) (S_X11_finding hb1 (by first | decide | (unfold vp_in; decide) | exact Or.inl rfl | exact Or.inr rfl)) ?_
        refine r_ireturn e_X11_feed_38 rfl ⟨rfl, rfl⟩ ?_
        (refine ⟨?_, rfl, ?_⟩ <;> ((try unfold V_X11_feed); (try unfold U_X11_feed); (try simp only [if_neg h2_0, if_pos h8_1, if_neg h28_2]); (try rfl)))
    · refine r_aload_n e_X11_feed_11 rfl ?_
      refine r_sipush e_X11_feed_12 sp_m1001 ?_
      refine cV1v e_X11_feed_15 cl_X11_178 ⟨Nat.le_of_ble_eq_true rfl, Nat.le_of_ble_eq_true rfl⟩ ⟨rfl, rfl⟩ k0 (Nat.le_of_ble_eq_true rfl) (S_X11_finding hb1 (by first | decide | (unfold vp_in; decide) | exact Or.inl rfl | exact Or.inr rfl)) ?_
      refine r_ireturn e_X11_feed_18 rfl ⟨rfl, rfl⟩ ?_
      (refine ⟨?_, rfl, ?_⟩ <;> ((try unfold V_X11_feed); (try unfold U_X11_feed); (try simp only [if_neg h2_0, if_neg h8_1]); (try rfl)))
def F_X11_letters_0 : Nat → Mem → Mem
  | 0, M => M
  | n + 1, M => if (V_X11_isLetter (V_X11_at (M.1 242 4) M) M) = 0 then M else (let M1_0 : Mem := if (12 : Int32) ≤ ((M.1 242 4) - (M.1 242 3)) then M else (setJ M 242 7 ((((M.2 242 7) * (27 : Int64)) + (V_X11_at (M.1 242 4) M).toInt64) - (96 : Int64))); (F_X11_letters_0  n (setI M1_0 242 4 ((M1_0.1 242 4) + (1 : Int32)))))
def T_X11_letters_0 : Nat → Mem → Prop
  | 0, M => False
  | n + 1, M => (P_X11_at (M.1 242 4) M) ∧ (if (V_X11_isLetter (V_X11_at (M.1 242 4) M) M) = 0 then True else (let M1_0 : Mem := if (12 : Int32) ≤ ((M.1 242 4) - (M.1 242 3)) then M else (setJ M 242 7 ((((M.2 242 7) * (27 : Int64)) + (V_X11_at (M.1 242 4) M).toInt64) - (96 : Int64))); (T_X11_letters_0  n (setI M1_0 242 4 ((M1_0.1 242 4) + (1 : Int32))))))
theorem L_X11_letters_0 {sh : List SC} {Q : Po}  {mA : Nat} {oA : Nat}   (hb1 : ModelAt sh mA oA)   : ∀ (n : Nat) (M : Mem), T_X11_letters_0  n M → WP m_X11_letters Q 67 [some (.ref 242)] [] sh (F_X11_letters_0  n M) 0 0 → WP m_X11_letters Q 0 [some (.ref 242)] [] sh M 0 0 := by
  have k0 : kd sh 242 = some (10 + 7, 0) := hb1.1
  intro n
  induction n with
  | zero =>
    intro M hH hq
    exact hH.elim
  | succ n ih =>
    intro M hH hq
    unfold T_X11_letters_0 at hH
    obtain ⟨g1, hH⟩ := hH
    refine r_aload_n e_X11_letters_0 rfl ?_
    refine r_aload_n e_X11_letters_1 rfl ?_
    refine r_getI e_X11_letters_2 fl_X11_11 i0 k0 ?_
    refine cV1v e_X11_letters_5 cl_X11_14 ⟨Nat.le_of_ble_eq_true rfl, Nat.le_of_ble_eq_true rfl⟩ ⟨rfl, rfl⟩ k0 (Nat.le_of_ble_eq_true rfl) (S_X11_at hb1 g1) ?_
    refine cS1v e_X11_letters_8 cl_X11_31 ⟨Nat.le_of_ble_eq_true rfl, Nat.le_of_ble_eq_true rfl⟩ ⟨rfl, rfl⟩  (Nat.le_of_ble_eq_true rfl) (S_X11_isLetter ) ?_
    refine r_if_eq e_X11_letters_11 (fun h11_0 => ?_) (fun h11_0 => ?_)
    · (simp only [F_X11_letters_0, if_pos h11_0] at hq; first | exact hq | (simp only [if_pos h11_0]; exact hq))
    · refine r_aload_n e_X11_letters_14 rfl ?_
      refine r_getI e_X11_letters_15 fl_X11_11 i0 k0 ?_
      refine r_aload_n e_X11_letters_18 rfl ?_
      refine r_getI e_X11_letters_19 fl_X11_18 i0 k0 ?_
      refine r_isub e_X11_letters_22 ?_
      refine r_bipush e_X11_letters_23 bp_12 ?_
      obtain ⟨M1_0, e_M1_0⟩ : ∃ z : Mem, z = (if (12 : Int32) ≤ ((M.1 242 4) - (M.1 242 3)) then M else (setJ M 242 7 ((((M.2 242 7) * (27 : Int64)) + (V_X11_at (M.1 242 4) M).toInt64) - (96 : Int64)))) := ⟨_, rfl⟩
      suffices j54_1 : WP m_X11_letters Q 54 [some (.ref 242)] [] sh M1_0 0 0 by
        refine r_icmp_ge e_X11_letters_25 (fun h25_1 => ?_) (fun h25_1 => ?_)
        · rw [show M1_0 = M from (e_M1_0.trans (if_pos h25_1))] at j54_1; exact j54_1
        · refine r_aload_n e_X11_letters_28 rfl ?_
          refine r_aload_n e_X11_letters_29 rfl ?_
          refine r_getJ e_X11_letters_30 fl_X11_24 k0 ?_
          refine r_ldc2 e_X11_letters_33 lc_X11_48 ?_
          refine r_lmul e_X11_letters_36 ?_
          refine r_aload_n e_X11_letters_37 rfl ?_
          refine r_aload_n e_X11_letters_38 rfl ?_
          refine r_getI e_X11_letters_39 fl_X11_11 i0 k0 ?_
          refine cV1v e_X11_letters_42 cl_X11_14 ⟨Nat.le_of_ble_eq_true rfl, Nat.le_of_ble_eq_true rfl⟩ ⟨rfl, rfl⟩ k0 (Nat.le_of_ble_eq_true rfl) (S_X11_at hb1 g1) ?_
          refine r_i2l e_X11_letters_45 ?_
          refine r_ladd e_X11_letters_46 ?_
          refine r_ldc2 e_X11_letters_47 lc_X11_50 ?_
          refine r_lsub e_X11_letters_50 ?_
          refine r_putJ e_X11_letters_51 fl_X11_24 k0 ?_
          rw [show M1_0 = setJ M 242 7 ((((M.2 242 7) * (27 : Int64)) + (V_X11_at (M.1 242 4) M).toInt64) - (96 : Int64)) from (e_M1_0.trans (if_neg h25_1))] at j54_1; exact j54_1
      refine r_aload_n e_X11_letters_54 rfl ?_
      refine r_dup e_X11_letters_55 rfl ?_
      refine r_getI e_X11_letters_56 fl_X11_11 i0 k0 ?_
      refine r_iconst e_X11_letters_59 ic_1 ?_
      refine r_iadd e_X11_letters_60 ?_
      refine r_putI e_X11_letters_61 fl_X11_11 k0 ?_
      refine r_goto e_X11_letters_64 ?_
      (subst e_M1_0; simp only [F_X11_letters_0, if_neg h11_0] at hq; (try simp only [if_neg h11_0] at hH); first | exact ih _ hH hq | (simp only [if_neg h11_0]; exact ih _ hH hq))
def U_X11_letters (M : Mem) : Mem := if (((F_X11_letters_0  FUEL M).1 242 4) - ((F_X11_letters_0  FUEL M).1 242 3)) ≤ (12 : Int32) then (U_X11_findWord  (F_X11_letters_0  FUEL M)) else (setI (F_X11_letters_0  FUEL M) 242 5 (6 : Int32))
def P_X11_letters (M : Mem) : Prop := (T_X11_letters_0  FUEL M)
theorem S_X11_letters {sh : List SC} {M : Mem}  {mA : Nat} {oA : Nat} (hb1 : ModelAt sh mA oA)  (hP : P_X11_letters  M) : Gu m_X11_letters [.ref 242] sh M (U_X11_letters  M) := by
  refine Sp.of (ls := [some (.ref 242)]) (by decide +kernel) (Nat.le_of_ble_eq_true rfl) rfl ?_
  have g1 : T_X11_letters_0  FUEL M := hP
  have k0 : kd sh 242 = some (10 + 7, 0) := hb1.1
  refine L_X11_letters_0 hb1 FUEL  M g1 ?_
  refine r_aload_n e_X11_letters_67 rfl ?_
  refine r_getI e_X11_letters_68 fl_X11_11 i0 k0 ?_
  refine r_aload_n e_X11_letters_71 rfl ?_
  refine r_getI e_X11_letters_72 fl_X11_18 i0 k0 ?_
  refine r_isub e_X11_letters_75 ?_
  refine r_bipush e_X11_letters_76 bp_12 ?_
  refine r_icmp_le e_X11_letters_78 (fun h78_0 => ?_) (fun h78_0 => ?_)
  · refine r_aload_n e_X11_letters_88 rfl ?_
    refine cV0u e_X11_letters_89 cl_X11_52 ⟨Nat.le_of_ble_eq_true rfl, Nat.le_of_ble_eq_true rfl⟩ ⟨rfl, rfl⟩ k0 (Nat.le_of_ble_eq_true rfl) (S_X11_findWord hb1) ?_
    refine r_return e_X11_letters_92 rfl ⟨rfl, rfl⟩ ?_
    (refine ⟨?_, rfl, ?_⟩ <;> ((try unfold U_X11_letters); (try simp only [if_pos h78_0]); (try rfl)))
  · refine r_aload_n e_X11_letters_81 rfl ?_
    refine r_bipush e_X11_letters_82 bp_6 ?_
    refine r_putI e_X11_letters_84 fl_X11_28 k0 ?_
    refine r_return e_X11_letters_87 rfl ⟨rfl, rfl⟩ ?_
    (refine ⟨?_, rfl, ?_⟩ <;> ((try unfold U_X11_letters); (try simp only [if_neg h78_0]); (try rfl)))
def V_X11_isTeam (x1 : Int32) (M : Mem) : Int32 := (V_X11_in x1 (0 : Int32) (3 : Int32) M)
theorem Z_X11_isTeam {M : Mem} {x1 : Int32}   : V_X11_isTeam x1 M = 0 ∨ V_X11_isTeam x1 M = 1 := Z_X11_in
theorem S_X11_isTeam {sh : List SC} {M : Mem} {x1 : Int32}    : Gv m_X11_isTeam [.int x1] sh M (.int (V_X11_isTeam x1 M)) M := by
  refine Sp.of (ls := [some (.int x1)]) (by decide +kernel) (Nat.le_of_ble_eq_true rfl) rfl ?_
  refine r_iload_n e_X11_isTeam_0 rfl ?_
  refine r_iconst e_X11_isTeam_1 ic_0 ?_
  refine r_iconst e_X11_isTeam_2 ic_3 ?_
  refine cS3v e_X11_isTeam_3 cl_X11_245 ⟨Nat.le_of_ble_eq_true rfl, Nat.le_of_ble_eq_true rfl⟩ ⟨rfl, rfl⟩  (Nat.le_of_ble_eq_true rfl) (S_X11_in ) ?_
  refine r_zreturn e_X11_isTeam_6 rfl ⟨rfl, rfl⟩ (Z_X11_in) ?_
  (refine ⟨?_, rfl, ?_⟩ <;> ((try unfold V_X11_isTeam); (try simp only []); (try rfl)))
def V_X11_start (x1 : Int32) (x2 : Int32) (x3 : Int32) (x4 : Int32) (M : Mem) : Int32 := if (V_X11_isTeam x1 M) = 0 then (V_X11_finding (-1001 : Int32) M) else (if (V_X11_in x2 (0 : Int32) (4 : Int32) M) = 0 then (V_X11_finding (-1001 : Int32) M) else (if (V_X11_in x3 (0 : Int32) (6 : Int32) M) = 0 then (V_X11_finding (-1001 : Int32) M) else (if (V_X11_in x4 (0 : Int32) (8 : Int32) M) = 0 then (V_X11_finding (-1001 : Int32) M) else (1 : Int32))))
def U_X11_start (x1 : Int32) (x2 : Int32) (x3 : Int32) (x4 : Int32) (M : Mem) : Mem := if (V_X11_isTeam x1 M) = 0 then (U_X11_finding (-1001 : Int32) M) else (if (V_X11_in x2 (0 : Int32) (4 : Int32) M) = 0 then (U_X11_finding (-1001 : Int32) M) else (if (V_X11_in x3 (0 : Int32) (6 : Int32) M) = 0 then (U_X11_finding (-1001 : Int32) M) else (if (V_X11_in x4 (0 : Int32) (8 : Int32) M) = 0 then (U_X11_finding (-1001 : Int32) M) else (setI (setI M 255 (((5 : Int32) * x1) + x2).toNatClampNeg x3) 256 (((5 : Int32) * x1) + x2).toNatClampNeg x4))))
def P_X11_start (x1 : Int32) (x2 : Int32) (x3 : Int32) (x4 : Int32) (M : Mem) : Prop := (¬ ((V_X11_isTeam x1 M) = 0) → ¬ ((V_X11_in x2 (0 : Int32) (4 : Int32) M) = 0) → ¬ ((V_X11_in x3 (0 : Int32) (6 : Int32) M) = 0) → ¬ ((V_X11_in x4 (0 : Int32) (8 : Int32) M) = 0) → vp_in (((5 : Int32) * x1) + x2) 20)
theorem S_X11_start {sh : List SC} {M : Mem} {x1 : Int32} {x2 : Int32} {x3 : Int32} {x4 : Int32} {mA : Nat} {oA : Nat} (hb1 : ModelAt sh mA oA)  (hP : P_X11_start x1 x2 x3 x4 M) : Gv m_X11_start [.ref 242, .int x1, .int x2, .int x3, .int x4] sh M (.int (V_X11_start x1 x2 x3 x4 M)) (U_X11_start x1 x2 x3 x4 M) := by
  refine Sp.of (ls := [some (.ref 242), some (.int x1), some (.int x2), some (.int x3), some (.int x4)]) (by decide +kernel) (Nat.le_of_ble_eq_true rfl) rfl ?_
  have g1 : ¬ ((V_X11_isTeam x1 M) = 0) → ¬ ((V_X11_in x2 (0 : Int32) (4 : Int32) M) = 0) → ¬ ((V_X11_in x3 (0 : Int32) (6 : Int32) M) = 0) → ¬ ((V_X11_in x4 (0 : Int32) (8 : Int32) M) = 0) → vp_in (((5 : Int32) * x1) + x2) 20 := hP
  have k0 : kd sh 242 = some (10 + 7, 0) := hb1.1
  have k1 : rf sh 242 23 = some 255 := hb1.2.2.2.2.2.2.2.2.2.2.2.2.2.1
  have k2 : kd sh 255 = some (0, 20) := hb1.2.2.2.2.2.2.2.2.2.2.2.2.2.2.2.2.2.2.2.2.2.2.2.2.2.2.2.2.2.2.2.2.2.2.2.2.2.2.2.1
  have k3 : rf sh 242 24 = some 256 := hb1.2.2.2.2.2.2.2.2.2.2.2.2.2.2.1
  have k4 : kd sh 256 = some (0, 20) := hb1.2.2.2.2.2.2.2.2.2.2.2.2.2.2.2.2.2.2.2.2.2.2.2.2.2.2.2.2.2.2.2.2.2.2.2.2.2.2.2.2.1
  refine r_iload_n e_X11_start_0 rfl ?_
  refine cS1v e_X11_start_1 cl_X11_249 ⟨Nat.le_of_ble_eq_true rfl, Nat.le_of_ble_eq_true rfl⟩ ⟨rfl, rfl⟩  (Nat.le_of_ble_eq_true rfl) (S_X11_isTeam ) ?_
  refine r_if_eq e_X11_start_4 (fun h4_0 => ?_) (fun h4_0 => ?_)
  · refine r_aload_n e_X11_start_37 rfl ?_
    refine r_sipush e_X11_start_38 sp_m1001 ?_
    refine cV1v e_X11_start_41 cl_X11_178 ⟨Nat.le_of_ble_eq_true rfl, Nat.le_of_ble_eq_true rfl⟩ ⟨rfl, rfl⟩ k0 (Nat.le_of_ble_eq_true rfl) (S_X11_finding hb1 (by first | decide | (unfold vp_in; decide) | exact Or.inl rfl | exact Or.inr rfl)) ?_
    refine r_ireturn e_X11_start_44 rfl ⟨rfl, rfl⟩ ?_
    (refine ⟨?_, rfl, ?_⟩ <;> ((try unfold V_X11_start); (try unfold U_X11_start); (try simp only [if_pos h4_0]); (try rfl)))
  · refine r_iload_n e_X11_start_7 rfl ?_
    refine r_iconst e_X11_start_8 ic_0 ?_
    refine r_iconst e_X11_start_9 ic_4 ?_
    refine cS3v e_X11_start_10 cl_X11_245 ⟨Nat.le_of_ble_eq_true rfl, Nat.le_of_ble_eq_true rfl⟩ ⟨rfl, rfl⟩  (Nat.le_of_ble_eq_true rfl) (S_X11_in ) ?_
    refine r_if_eq e_X11_start_13 (fun h13_1 => ?_) (fun h13_1 => ?_)
    · refine r_aload_n e_X11_start_37 rfl ?_
      refine r_sipush e_X11_start_38 sp_m1001 ?_
      refine cV1v e_X11_start_41 cl_X11_178 ⟨Nat.le_of_ble_eq_true rfl, Nat.le_of_ble_eq_true rfl⟩ ⟨rfl, rfl⟩ k0 (Nat.le_of_ble_eq_true rfl) (S_X11_finding hb1 (by first | decide | (unfold vp_in; decide) | exact Or.inl rfl | exact Or.inr rfl)) ?_
      refine r_ireturn e_X11_start_44 rfl ⟨rfl, rfl⟩ ?_
      (refine ⟨?_, rfl, ?_⟩ <;> ((try unfold V_X11_start); (try unfold U_X11_start); (try simp only [if_neg h4_0, if_pos h13_1]); (try rfl)))
    · refine r_iload_n e_X11_start_16 rfl ?_
      refine r_iconst e_X11_start_17 ic_0 ?_
      refine r_bipush e_X11_start_18 bp_6 ?_
      refine cS3v e_X11_start_20 cl_X11_245 ⟨Nat.le_of_ble_eq_true rfl, Nat.le_of_ble_eq_true rfl⟩ ⟨rfl, rfl⟩  (Nat.le_of_ble_eq_true rfl) (S_X11_in ) ?_
      refine r_if_eq e_X11_start_23 (fun h23_2 => ?_) (fun h23_2 => ?_)
      · refine r_aload_n e_X11_start_37 rfl ?_
        refine r_sipush e_X11_start_38 sp_m1001 ?_
        refine cV1v e_X11_start_41 cl_X11_178 ⟨Nat.le_of_ble_eq_true rfl, Nat.le_of_ble_eq_true rfl⟩ ⟨rfl, rfl⟩ k0 (Nat.le_of_ble_eq_true rfl) (S_X11_finding hb1 (by first | decide | (unfold vp_in; decide) | exact Or.inl rfl | exact Or.inr rfl)) ?_
        refine r_ireturn e_X11_start_44 rfl ⟨rfl, rfl⟩ ?_
        (refine ⟨?_, rfl, ?_⟩ <;> ((try unfold V_X11_start); (try unfold U_X11_start); (try simp only [if_neg h4_0, if_neg h13_1, if_pos h23_2]); (try rfl)))
      · refine r_iload e_X11_start_26 rfl ?_
        refine r_iconst e_X11_start_28 ic_0 ?_
        refine r_bipush e_X11_start_29 bp_8 ?_
        refine cS3v e_X11_start_31 cl_X11_245 ⟨Nat.le_of_ble_eq_true rfl, Nat.le_of_ble_eq_true rfl⟩ ⟨rfl, rfl⟩  (Nat.le_of_ble_eq_true rfl) (S_X11_in ) ?_
        refine r_if_ne e_X11_start_34 (fun h34_3 => ?_) (fun h34_3 => ?_)
        · refine r_aload_n e_X11_start_45 rfl ?_
          refine r_getR e_X11_start_46 fl_X11_200 k0 k1 ?_
          refine r_iconst e_X11_start_49 ic_5 ?_
          refine r_iload_n e_X11_start_50 rfl ?_
          refine r_imul e_X11_start_51 ?_
          refine r_iload_n e_X11_start_52 rfl ?_
          refine r_iadd e_X11_start_53 ?_
          refine r_iload_n e_X11_start_54 rfl ?_
          refine r_iastore e_X11_start_55 k2 (g1 h4_0 h13_1 h23_2 h34_3) ?_
          refine r_aload_n e_X11_start_56 rfl ?_
          refine r_getR e_X11_start_57 fl_X11_203 k0 k3 ?_
          refine r_iconst e_X11_start_60 ic_5 ?_
          refine r_iload_n e_X11_start_61 rfl ?_
          refine r_imul e_X11_start_62 ?_
          refine r_iload_n e_X11_start_63 rfl ?_
          refine r_iadd e_X11_start_64 ?_
          refine r_iload e_X11_start_65 rfl ?_
          refine r_iastore e_X11_start_67 k4 (g1 h4_0 h13_1 h23_2 h34_3) ?_
          refine r_iconst e_X11_start_68 ic_1 ?_
          refine r_ireturn e_X11_start_69 rfl ⟨rfl, rfl⟩ ?_
          (refine ⟨?_, rfl, ?_⟩ <;> ((try unfold V_X11_start); (try unfold U_X11_start); (try simp only [if_neg h4_0, if_neg h13_1, if_neg h23_2, if_neg h34_3]); (try rfl)))
        · refine r_aload_n e_X11_start_37 rfl ?_
          refine r_sipush e_X11_start_38 sp_m1001 ?_
          refine cV1v e_X11_start_41 cl_X11_178 ⟨Nat.le_of_ble_eq_true rfl, Nat.le_of_ble_eq_true rfl⟩ ⟨rfl, rfl⟩ k0 (Nat.le_of_ble_eq_true rfl) (S_X11_finding hb1 (by first | decide | (unfold vp_in; decide) | exact Or.inl rfl | exact Or.inr rfl)) ?_
          refine r_ireturn e_X11_start_44 rfl ⟨rfl, rfl⟩ ?_
          (refine ⟨?_, rfl, ?_⟩ <;> ((try unfold V_X11_start); (try unfold U_X11_start); (try simp only [if_neg h4_0, if_neg h13_1, if_neg h23_2, if_pos h34_3]); (try rfl)))
def V_X11_views (x1 : Int32) (x2 : Int32) (x3 : Int32) (M : Mem) : Int32 := if (V_X11_isTeam x1 M) = 0 then (V_X11_finding (-1001 : Int32) M) else (if (V_X11_in x2 (0 : Int32) (3 : Int32) M) = 0 then (V_X11_finding (-1001 : Int32) M) else (if x3 = 0 then (1 : Int32) else (if (V_X11_in x3 (2 : Int32) (9 : Int32) M) = 0 then (V_X11_finding (-1001 : Int32) M) else (1 : Int32))))
def U_X11_views (x1 : Int32) (x2 : Int32) (x3 : Int32) (M : Mem) : Mem := if (V_X11_isTeam x1 M) = 0 then (U_X11_finding (-1001 : Int32) M) else (if (V_X11_in x2 (0 : Int32) (3 : Int32) M) = 0 then (U_X11_finding (-1001 : Int32) M) else (if x3 = 0 then (setI (setI M 257 x1.toNatClampNeg x2) 258 x1.toNatClampNeg x3) else (if (V_X11_in x3 (2 : Int32) (9 : Int32) M) = 0 then (U_X11_finding (-1001 : Int32) M) else (setI (setI M 257 x1.toNatClampNeg x2) 258 x1.toNatClampNeg x3))))
def P_X11_views (x1 : Int32) (x2 : Int32) (x3 : Int32) (M : Mem) : Prop := (¬ ((V_X11_isTeam x1 M) = 0) → ¬ ((V_X11_in x2 (0 : Int32) (3 : Int32) M) = 0) → x3 = 0 → vp_in x1 4) ∧ (¬ ((V_X11_isTeam x1 M) = 0) → ¬ ((V_X11_in x2 (0 : Int32) (3 : Int32) M) = 0) → ¬ (x3 = 0) → ¬ ((V_X11_in x3 (2 : Int32) (9 : Int32) M) = 0) → vp_in x1 4)
theorem S_X11_views {sh : List SC} {M : Mem} {x1 : Int32} {x2 : Int32} {x3 : Int32} {mA : Nat} {oA : Nat} (hb1 : ModelAt sh mA oA)  (hP : P_X11_views x1 x2 x3 M) : Gv m_X11_views [.ref 242, .int x1, .int x2, .int x3] sh M (.int (V_X11_views x1 x2 x3 M)) (U_X11_views x1 x2 x3 M) := by
  refine Sp.of (ls := [some (.ref 242), some (.int x1), some (.int x2), some (.int x3)]) (by decide +kernel) (Nat.le_of_ble_eq_true rfl) rfl ?_
  obtain ⟨g1, g2⟩ := hP
  have k0 : kd sh 242 = some (10 + 7, 0) := hb1.1
  have k1 : rf sh 242 25 = some 257 := hb1.2.2.2.2.2.2.2.2.2.2.2.2.2.2.2.1
  have k2 : kd sh 257 = some (0, 4) := hb1.2.2.2.2.2.2.2.2.2.2.2.2.2.2.2.2.2.2.2.2.2.2.2.2.2.2.2.2.2.2.2.2.2.2.2.2.2.2.2.2.2.1
  have k3 : rf sh 242 26 = some 258 := hb1.2.2.2.2.2.2.2.2.2.2.2.2.2.2.2.2.1
  have k4 : kd sh 258 = some (0, 4) := hb1.2.2.2.2.2.2.2.2.2.2.2.2.2.2.2.2.2.2.2.2.2.2.2.2.2.2.2.2.2.2.2.2.2.2.2.2.2.2.2.2.2.2.1
  refine r_iload_n e_X11_views_0 rfl ?_
  refine cS1v e_X11_views_1 cl_X11_249 ⟨Nat.le_of_ble_eq_true rfl, Nat.le_of_ble_eq_true rfl⟩ ⟨rfl, rfl⟩  (Nat.le_of_ble_eq_true rfl) (S_X11_isTeam ) ?_
  refine r_if_eq e_X11_views_4 (fun h4_0 => ?_) (fun h4_0 => ?_)
  · refine r_aload_n e_X11_views_30 rfl ?_
    refine r_sipush e_X11_views_31 sp_m1001 ?_
    refine cV1v e_X11_views_34 cl_X11_178 ⟨Nat.le_of_ble_eq_true rfl, Nat.le_of_ble_eq_true rfl⟩ ⟨rfl, rfl⟩ k0 (Nat.le_of_ble_eq_true rfl) (S_X11_finding hb1 (by first | decide | (unfold vp_in; decide) | exact Or.inl rfl | exact Or.inr rfl)) ?_
    refine r_ireturn e_X11_views_37 rfl ⟨rfl, rfl⟩ ?_
    (refine ⟨?_, rfl, ?_⟩ <;> ((try unfold V_X11_views); (try unfold U_X11_views); (try simp only [if_pos h4_0]); (try rfl)))
  · refine r_iload_n e_X11_views_7 rfl ?_
    refine r_iconst e_X11_views_8 ic_0 ?_
    refine r_iconst e_X11_views_9 ic_3 ?_
    refine cS3v e_X11_views_10 cl_X11_245 ⟨Nat.le_of_ble_eq_true rfl, Nat.le_of_ble_eq_true rfl⟩ ⟨rfl, rfl⟩  (Nat.le_of_ble_eq_true rfl) (S_X11_in ) ?_
    refine r_if_eq e_X11_views_13 (fun h13_1 => ?_) (fun h13_1 => ?_)
    · refine r_aload_n e_X11_views_30 rfl ?_
      refine r_sipush e_X11_views_31 sp_m1001 ?_
      refine cV1v e_X11_views_34 cl_X11_178 ⟨Nat.le_of_ble_eq_true rfl, Nat.le_of_ble_eq_true rfl⟩ ⟨rfl, rfl⟩ k0 (Nat.le_of_ble_eq_true rfl) (S_X11_finding hb1 (by first | decide | (unfold vp_in; decide) | exact Or.inl rfl | exact Or.inr rfl)) ?_
      refine r_ireturn e_X11_views_37 rfl ⟨rfl, rfl⟩ ?_
      (refine ⟨?_, rfl, ?_⟩ <;> ((try unfold V_X11_views); (try unfold U_X11_views); (try simp only [if_neg h4_0, if_pos h13_1]); (try rfl)))
    · refine r_iload_n e_X11_views_16 rfl ?_
      refine r_if_eq e_X11_views_17 (fun h17_2 => ?_) (fun h17_2 => ?_)
      · refine r_aload_n e_X11_views_38 rfl ?_
        refine r_getR e_X11_views_39 fl_X11_206 k0 k1 ?_
        refine r_iload_n e_X11_views_42 rfl ?_
        refine r_iload_n e_X11_views_43 rfl ?_
        refine r_iastore e_X11_views_44 k2 (g1 h4_0 h13_1 h17_2) ?_
        refine r_aload_n e_X11_views_45 rfl ?_
        refine r_getR e_X11_views_46 fl_X11_209 k0 k3 ?_
        refine r_iload_n e_X11_views_49 rfl ?_
        refine r_iload_n e_X11_views_50 rfl ?_
        refine r_iastore e_X11_views_51 k4 (g1 h4_0 h13_1 h17_2) ?_
        refine r_iconst e_X11_views_52 ic_1 ?_
        refine r_ireturn e_X11_views_53 rfl ⟨rfl, rfl⟩ ?_
        (refine ⟨?_, rfl, ?_⟩ <;> ((try unfold V_X11_views); (try unfold U_X11_views); (try simp only [if_neg h4_0, if_neg h13_1, if_pos h17_2]); (try rfl)))
      · refine r_iload_n e_X11_views_20 rfl ?_
        refine r_iconst e_X11_views_21 ic_2 ?_
        refine r_bipush e_X11_views_22 bp_9 ?_
        refine cS3v e_X11_views_24 cl_X11_245 ⟨Nat.le_of_ble_eq_true rfl, Nat.le_of_ble_eq_true rfl⟩ ⟨rfl, rfl⟩  (Nat.le_of_ble_eq_true rfl) (S_X11_in ) ?_
        refine r_if_ne e_X11_views_27 (fun h27_3 => ?_) (fun h27_3 => ?_)
        · refine r_aload_n e_X11_views_38 rfl ?_
          refine r_getR e_X11_views_39 fl_X11_206 k0 k1 ?_
          refine r_iload_n e_X11_views_42 rfl ?_
          refine r_iload_n e_X11_views_43 rfl ?_
          refine r_iastore e_X11_views_44 k2 (g2 h4_0 h13_1 h17_2 h27_3) ?_
          refine r_aload_n e_X11_views_45 rfl ?_
          refine r_getR e_X11_views_46 fl_X11_209 k0 k3 ?_
          refine r_iload_n e_X11_views_49 rfl ?_
          refine r_iload_n e_X11_views_50 rfl ?_
          refine r_iastore e_X11_views_51 k4 (g2 h4_0 h13_1 h17_2 h27_3) ?_
          refine r_iconst e_X11_views_52 ic_1 ?_
          refine r_ireturn e_X11_views_53 rfl ⟨rfl, rfl⟩ ?_
          (refine ⟨?_, rfl, ?_⟩ <;> ((try unfold V_X11_views); (try unfold U_X11_views); (try simp only [if_neg h4_0, if_neg h13_1, if_neg h17_2, if_neg h27_3]); (try rfl)))
        · refine r_aload_n e_X11_views_30 rfl ?_
          refine r_sipush e_X11_views_31 sp_m1001 ?_
          refine cV1v e_X11_views_34 cl_X11_178 ⟨Nat.le_of_ble_eq_true rfl, Nat.le_of_ble_eq_true rfl⟩ ⟨rfl, rfl⟩ k0 (Nat.le_of_ble_eq_true rfl) (S_X11_finding hb1 (by first | decide | (unfold vp_in; decide) | exact Or.inl rfl | exact Or.inr rfl)) ?_
          refine r_ireturn e_X11_views_37 rfl ⟨rfl, rfl⟩ ?_
          (refine ⟨?_, rfl, ?_⟩ <;> ((try unfold V_X11_views); (try unfold U_X11_views); (try simp only [if_neg h4_0, if_neg h13_1, if_neg h17_2, if_pos h27_3]); (try rfl)))
def F_X11_findPut_38 (x1 : Int32) (x2 : Int32) (x3 : Int32) (mA : Nat) (i28 : Nat) : Nat → Nat → Int32 → Mem → Int32 × Mem
  | 0, i38, u4, M => (u4, M)
  | n + 1, i38, u4, M => (let v6601_0 : Int32 := if u4 ≤ (V_X11_distance x1 x2 (nI i28) (nI i38) M) then u4 else (if 0 ≤ (V_X11_robotAt (nI i28) (nI i38) x3 mA M) then u4 else (V_X11_distance x1 x2 (nI i28) (nI i38) M)); let M6601_1 : Mem := if u4 ≤ (V_X11_distance x1 x2 (nI i28) (nI i38) M) then M else (if 0 ≤ (V_X11_robotAt (nI i28) (nI i38) x3 mA M) then M else (setI (setI M 242 31 (nI i28)) 242 32 (nI i38))); (F_X11_findPut_38 x1 x2 x3 mA i28 n (i38 + 1) v6601_0 M6601_1))
def H_X11_findPut_38 (x1 : Int32) (x2 : Int32) (x3 : Int32) (mA : Nat) (i28 : Nat) : Nat → Nat → Int32 → Mem → Prop
  | 0, i38, u4, M => True
  | n + 1, i38, u4, M => (∀ i38 : Nat, i38 < 9 → ∀ i28 : Nat, i28 < 15 → P_X11_robotAt (nI i28) (nI i38) x3 mA M) ∧ ((let v6601_0 : Int32 := if u4 ≤ (V_X11_distance x1 x2 (nI i28) (nI i38) M) then u4 else (if 0 ≤ (V_X11_robotAt (nI i28) (nI i38) x3 mA M) then u4 else (V_X11_distance x1 x2 (nI i28) (nI i38) M)); let M6601_1 : Mem := if u4 ≤ (V_X11_distance x1 x2 (nI i28) (nI i38) M) then M else (if 0 ≤ (V_X11_robotAt (nI i28) (nI i38) x3 mA M) then M else (setI (setI M 242 31 (nI i28)) 242 32 (nI i38))); (H_X11_findPut_38 x1 x2 x3 mA i28 n (i38 + 1) v6601_0 M6601_1)))
theorem L_X11_findPut_38 {sh : List SC} {Q : Po} {x1 : Int32} {x2 : Int32} {x3 : Int32} {mA : Nat} {oA : Nat}  {i28 : Nat} (hb1 : ModelAt sh mA oA)  (hlt_i28 : i28 < 15) : ∀ (n i38 : Nat) (u4 : Int32) (M : Mem), i38 + n = 9 → H_X11_findPut_38 x1 x2 x3 mA i28 n i38 u4 M → WP m_X11_findPut Q 100 [some (.ref 242), some (.int x1), some (.int x2), some (.int x3), some (.int ((F_X11_findPut_38 x1 x2 x3 mA i28 n i38 u4 M).1)), some (.int (nI i28)), none] [] sh ((F_X11_findPut_38 x1 x2 x3 mA i28 n i38 u4 M).2) 0 0 → WP m_X11_findPut Q 38 [some (.ref 242), some (.int x1), some (.int x2), some (.int x3), some (.int u4), some (.int (nI i28)), some (.int (nI i38))] [] sh M 0 0 := by
  have k0 : kd sh 242 = some (10 + 7, 0) := hb1.1
  have hcl_i28 : (nI i28).toNatClampNeg = i28 := nI_clamp (by omega)
  intro n
  induction n with
  | zero =>
    intro i38 u4 M hi _ hq
    have hz : (9 : Int32) ≤ nI i38 := by
      have q : i38 = 9 := by omega
      rw [q]; exact nI_le (Nat.le_refl _) (by decide)
    refine r_iload e_X11_findPut_38 rfl ?_
    refine r_bipush e_X11_findPut_40 bp_9 ?_
    refine r_icmp_ge e_X11_findPut_42 (fun _ => ?_) (fun hh => absurd hz hh)
    refine d_7_6 ?_
    (simp only [F_X11_findPut_38] at hq; first | exact hq | (simp only []; exact hq))
  | succ n ih =>
    intro i38 u4 M hi hH hq
    unfold H_X11_findPut_38 at hH
    obtain ⟨g1, hH⟩ := hH
    have hlt_i38 : i38 < 9 := by omega
    have hcl_i38 : (nI i38).toNatClampNeg = i38 := nI_clamp (by omega)
    have hs : ¬ (9 : Int32) ≤ nI i38 := nI_ge (b := 9) hlt_i38 (by decide)
    refine r_iload e_X11_findPut_38 rfl ?_
    refine r_bipush e_X11_findPut_40 bp_9 ?_
    refine r_icmp_ge e_X11_findPut_42 (fun hh => absurd hh hs) (fun _ => ?_)
    refine r_iload_n e_X11_findPut_45 rfl ?_
    refine r_iload_n e_X11_findPut_46 rfl ?_
    refine r_iload e_X11_findPut_47 rfl ?_
    refine r_iload e_X11_findPut_49 rfl ?_
    refine cS4v e_X11_findPut_51 cl_X11_274 ⟨Nat.le_of_ble_eq_true rfl, Nat.le_of_ble_eq_true rfl⟩ ⟨rfl, rfl⟩  (Nat.le_of_ble_eq_true rfl) (S_X11_distance ) ?_
    refine r_iload e_X11_findPut_54 rfl ?_
    obtain ⟨v6601_0, e_v6601_0⟩ : ∃ z : Int32, z = (if u4 ≤ (V_X11_distance x1 x2 (nI i28) (nI i38) M) then u4 else (if 0 ≤ (V_X11_robotAt (nI i28) (nI i38) x3 mA M) then u4 else (V_X11_distance x1 x2 (nI i28) (nI i38) M))) := ⟨_, rfl⟩
    obtain ⟨M6601_1, e_M6601_1⟩ : ∃ z : Mem, z = (if u4 ≤ (V_X11_distance x1 x2 (nI i28) (nI i38) M) then M else (if 0 ≤ (V_X11_robotAt (nI i28) (nI i38) x3 mA M) then M else (setI (setI M 242 31 (nI i28)) 242 32 (nI i38)))) := ⟨_, rfl⟩
    suffices j94_6601 : WP m_X11_findPut Q 94 [some (.ref 242), some (.int x1), some (.int x2), some (.int x3), some (.int v6601_0), some (.int (nI i28)), some (.int (nI i38))] [] sh M6601_1 0 0 by
      refine r_icmp_ge e_X11_findPut_56 (fun h56_6601 => ?_) (fun h56_6601 => ?_)
      · rw [show v6601_0 = u4 from (e_v6601_0.trans (if_pos h56_6601)), show M6601_1 = M from (e_M6601_1.trans (if_pos h56_6601))] at j94_6601; exact j94_6601
      · refine r_aload_n e_X11_findPut_59 rfl ?_
        refine r_iload e_X11_findPut_60 rfl ?_
        refine r_iload e_X11_findPut_62 rfl ?_
        refine r_iload_n e_X11_findPut_64 rfl ?_
        refine cV3v e_X11_findPut_65 cl_X11_270 ⟨Nat.le_of_ble_eq_true rfl, Nat.le_of_ble_eq_true rfl⟩ ⟨rfl, rfl⟩ k0 (Nat.le_of_ble_eq_true rfl) (S_X11_robotAt hb1 (g1 i38 hlt_i38 i28 hlt_i28)) ?_
        refine r_if_ge e_X11_findPut_68 (fun h68_6602 => ?_) (fun h68_6602 => ?_)
        · rw [show v6601_0 = u4 from ((e_v6601_0.trans (if_neg h56_6601)).trans (if_pos h68_6602)), show M6601_1 = M from ((e_M6601_1.trans (if_neg h56_6601)).trans (if_pos h68_6602))] at j94_6601; exact j94_6601
        · refine r_iload_n e_X11_findPut_71 rfl ?_
          refine r_iload_n e_X11_findPut_72 rfl ?_
          refine r_iload e_X11_findPut_73 rfl ?_
          refine r_iload e_X11_findPut_75 rfl ?_
          refine cS4v e_X11_findPut_77 cl_X11_274 ⟨Nat.le_of_ble_eq_true rfl, Nat.le_of_ble_eq_true rfl⟩ ⟨rfl, rfl⟩  (Nat.le_of_ble_eq_true rfl) (S_X11_distance ) ?_
          refine p_istore_7_4 e_X11_findPut_80 rfl rfl ?_
          refine r_aload_n e_X11_findPut_82 rfl ?_
          refine r_iload e_X11_findPut_83 rfl ?_
          refine r_putI e_X11_findPut_85 fl_X11_264 k0 ?_
          refine r_aload_n e_X11_findPut_88 rfl ?_
          refine r_iload e_X11_findPut_89 rfl ?_
          refine r_putI e_X11_findPut_91 fl_X11_267 k0 ?_
          rw [show v6601_0 = (V_X11_distance x1 x2 (nI i28) (nI i38) M) from ((e_v6601_0.trans (if_neg h56_6601)).trans (if_neg h68_6602)), show M6601_1 = setI (setI M 242 31 (nI i28)) 242 32 (nI i38) from ((e_M6601_1.trans (if_neg h56_6601)).trans (if_neg h68_6602))] at j94_6601; exact j94_6601
    refine p_iinc_7_6 e_X11_findPut_94 rfl ic_1 rfl ?_
    rw [nI_1 i38]
    refine r_goto e_X11_findPut_97 ?_
    (subst e_M6601_1 e_v6601_0; simp only [F_X11_findPut_38] at hq; (try simp only [] at hH); first | exact ih (i38 + 1) _ _ (by omega) hH hq | (simp only []; exact ih (i38 + 1) _ _ (by omega) hH hq))
def F_X11_findPut_28 (x1 : Int32) (x2 : Int32) (x3 : Int32) (mA : Nat) : Nat → Nat → Int32 → Mem → Int32 × Mem
  | 0, i28, u4, M => (u4, M)
  | n + 1, i28, u4, M => (F_X11_findPut_28 x1 x2 x3 mA n (i28 + 1) ((F_X11_findPut_38 x1 x2 x3 mA i28 9 0 u4 M).1) ((F_X11_findPut_38 x1 x2 x3 mA i28 9 0 u4 M).2))
def H_X11_findPut_28 (x1 : Int32) (x2 : Int32) (x3 : Int32) (mA : Nat) : Nat → Nat → Int32 → Mem → Prop
  | 0, i28, u4, M => True
  | n + 1, i28, u4, M => (∀ i28 : Nat, i28 < 15 → H_X11_findPut_38 x1 x2 x3 mA i28 9 0 u4 M) ∧ ((H_X11_findPut_28 x1 x2 x3 mA n (i28 + 1) ((F_X11_findPut_38 x1 x2 x3 mA i28 9 0 u4 M).1) ((F_X11_findPut_38 x1 x2 x3 mA i28 9 0 u4 M).2)))
theorem L_X11_findPut_28 {sh : List SC} {Q : Po} {x1 : Int32} {x2 : Int32} {x3 : Int32} {mA : Nat} {oA : Nat}   (hb1 : ModelAt sh mA oA)   : ∀ (n i28 : Nat) (u4 : Int32) (M : Mem), i28 + n = 15 → H_X11_findPut_28 x1 x2 x3 mA n i28 u4 M → WP m_X11_findPut Q 106 [some (.ref 242), some (.int x1), some (.int x2), some (.int x3), some (.int ((F_X11_findPut_28 x1 x2 x3 mA n i28 u4 M).1)), none, none] [] sh ((F_X11_findPut_28 x1 x2 x3 mA n i28 u4 M).2) 0 0 → WP m_X11_findPut Q 28 [some (.ref 242), some (.int x1), some (.int x2), some (.int x3), some (.int u4), some (.int (nI i28)), none] [] sh M 0 0 := by
  intro n
  induction n with
  | zero =>
    intro i28 u4 M hi _ hq
    have hz : (15 : Int32) ≤ nI i28 := by
      have q : i28 = 15 := by omega
      rw [q]; exact nI_le (Nat.le_refl _) (by decide)
    refine r_iload e_X11_findPut_28 rfl ?_
    refine r_bipush e_X11_findPut_30 bp_15 ?_
    refine r_icmp_ge e_X11_findPut_32 (fun _ => ?_) (fun hh => absurd hz hh)
    refine d_7_5 ?_
    (simp only [F_X11_findPut_28] at hq; first | exact hq | (simp only []; exact hq))
  | succ n ih =>
    intro i28 u4 M hi hH hq
    unfold H_X11_findPut_28 at hH
    obtain ⟨g1, hH⟩ := hH
    have hlt_i28 : i28 < 15 := by omega
    have hcl_i28 : (nI i28).toNatClampNeg = i28 := nI_clamp (by omega)
    have hs : ¬ (15 : Int32) ≤ nI i28 := nI_ge (b := 15) hlt_i28 (by decide)
    refine r_iload e_X11_findPut_28 rfl ?_
    refine r_bipush e_X11_findPut_30 bp_15 ?_
    refine r_icmp_ge e_X11_findPut_32 (fun hh => absurd hh hs) (fun _ => ?_)
    refine r_iconst e_X11_findPut_35 ic_0 ?_
    refine p_istore_7_6 e_X11_findPut_36 rfl rfl ?_
    skip
    show WP m_X11_findPut _ 38 [some (.ref 242), some (.int x1), some (.int x2), some (.int x3), some (.int u4), some (.int (nI i28)), some (.int (nI 0))] [] sh M 0 0
    refine L_X11_findPut_38 hb1 hlt_i28 9 0 u4 M (by omega) (g1 i28 hlt_i28) ?_
    refine p_iinc_7_5 e_X11_findPut_100 rfl ic_1 rfl ?_
    rw [nI_1 i28]
    refine r_goto e_X11_findPut_103 ?_
    (simp only [F_X11_findPut_28] at hq; (try simp only [] at hH); first | exact ih (i28 + 1) _ _ (by omega) hH hq | (simp only []; exact ih (i28 + 1) _ _ (by omega) hH hq))
def U_X11_findPut (x1 : Int32) (x2 : Int32) (x3 : Int32) (mA : Nat) (M : Mem) : Mem := if 0 ≤ (V_X11_robotAt x1 x2 x3 mA (setI (setI M 242 31 x1) 242 32 x2)) then ((F_X11_findPut_28 x1 x2 x3 mA 15 0 (100 : Int32) (setI (setI M 242 31 x1) 242 32 x2)).2) else (setI (setI M 242 31 x1) 242 32 x2)
def P_X11_findPut (x1 : Int32) (x2 : Int32) (x3 : Int32) (mA : Nat) (M : Mem) : Prop := (P_X11_robotAt x1 x2 x3 mA (setI (setI M 242 31 x1) 242 32 x2)) ∧ (0 ≤ (V_X11_robotAt x1 x2 x3 mA (setI (setI M 242 31 x1) 242 32 x2)) → H_X11_findPut_28 x1 x2 x3 mA 15 0 (100 : Int32) (setI (setI M 242 31 x1) 242 32 x2))
theorem S_X11_findPut {sh : List SC} {M : Mem} {x1 : Int32} {x2 : Int32} {x3 : Int32} {mA : Nat} {oA : Nat} (hb1 : ModelAt sh mA oA)  (hP : P_X11_findPut x1 x2 x3 mA M) : Gu m_X11_findPut [.ref 242, .int x1, .int x2, .int x3] sh M (U_X11_findPut x1 x2 x3 mA M) := by
  refine Sp.of (ls := [some (.ref 242), some (.int x1), some (.int x2), some (.int x3), none, none, none]) (by decide +kernel) (Nat.le_of_ble_eq_true rfl) rfl ?_
  obtain ⟨g1, g2⟩ := hP
  have k0 : kd sh 242 = some (10 + 7, 0) := hb1.1
  refine r_aload_n e_X11_findPut_0 rfl ?_
  refine r_iload_n e_X11_findPut_1 rfl ?_
  refine r_putI e_X11_findPut_2 fl_X11_264 k0 ?_
  refine r_aload_n e_X11_findPut_5 rfl ?_
  refine r_iload_n e_X11_findPut_6 rfl ?_
  refine r_putI e_X11_findPut_7 fl_X11_267 k0 ?_
  refine r_aload_n e_X11_findPut_10 rfl ?_
  refine r_iload_n e_X11_findPut_11 rfl ?_
  refine r_iload_n e_X11_findPut_12 rfl ?_
  refine r_iload_n e_X11_findPut_13 rfl ?_
  refine cV3v e_X11_findPut_14 cl_X11_270 ⟨Nat.le_of_ble_eq_true rfl, Nat.le_of_ble_eq_true rfl⟩ ⟨rfl, rfl⟩ k0 (Nat.le_of_ble_eq_true rfl) (S_X11_robotAt hb1 g1) ?_
  refine r_if_ge e_X11_findPut_17 (fun h17_0 => ?_) (fun h17_0 => ?_)
  · refine r_bipush e_X11_findPut_21 bp_100 ?_
    refine p_istore_7_4 e_X11_findPut_23 rfl rfl ?_
    refine r_iconst e_X11_findPut_25 ic_0 ?_
    refine p_istore_7_5 e_X11_findPut_26 rfl rfl ?_
    skip
    show WP m_X11_findPut _ 28 [some (.ref 242), some (.int x1), some (.int x2), some (.int x3), some (.int (100 : Int32)), some (.int (nI 0)), none] [] sh (setI (setI M 242 31 x1) 242 32 x2) 0 0
    refine L_X11_findPut_28 hb1 15 0 (100 : Int32) (setI (setI M 242 31 x1) 242 32 x2) (by omega) (g2 h17_0) ?_
    refine r_return e_X11_findPut_106 rfl ⟨rfl, rfl⟩ ?_
    (refine ⟨?_, rfl, ?_⟩ <;> ((try unfold U_X11_findPut); (try simp only [if_pos h17_0]); (try rfl)))
  · refine r_return e_X11_findPut_20 rfl ⟨rfl, rfl⟩ ?_
    (refine ⟨?_, rfl, ?_⟩ <;> ((try unfold U_X11_findPut); (try simp only [if_neg h17_0]); (try rfl)))
def U_X11_lay (mA : Nat) (M : Mem) : Mem := (let Mc1 : Mem := U_X11_stopBall  mA (setI (setI (setI (U_X11_findPut (7 : Int32) (4 : Int32) (-1 : Int32) mA M) mA (14 : Int32).toNatClampNeg ((U_X11_findPut (7 : Int32) (4 : Int32) (-1 : Int32) mA M).1 242 31)) mA (15 : Int32).toNatClampNeg ((U_X11_findPut (7 : Int32) (4 : Int32) (-1 : Int32) mA M).1 242 32)) mA (16 : Int32).toNatClampNeg (-1 : Int32)); setI Mc1 mA (21 : Int32).toNatClampNeg (0 : Int32))
def P_X11_lay (mA : Nat) (M : Mem) : Prop := (P_X11_findPut (7 : Int32) (4 : Int32) (-1 : Int32) mA M)
theorem S_X11_lay {sh : List SC} {M : Mem}  {mA : Nat} {oA : Nat} (hb1 : ModelAt sh mA oA)  (hP : P_X11_lay mA M) : Gu m_X11_lay [.ref 242] sh M (U_X11_lay mA M) := by
  refine Sp.of (ls := [some (.ref 242)]) (by decide +kernel) (Nat.le_of_ble_eq_true rfl) rfl ?_
  have g1 : P_X11_findPut (7 : Int32) (4 : Int32) (-1 : Int32) mA M := hP
  have k0 : kd sh 242 = some (10 + 7, 0) := hb1.1
  have k1 : rf sh 242 27 = some mA := hb1.2.2.2.2.2.2.2.2.2.2.2.2.2.2.2.2.2.1
  have k2 : kd sh mA = some (0, 212) := hb1.2.2.2.2.2.2.2.2.2.2.2.2.2.2.2.2.2.2.2.2.2.2.2.2.2.2.2.2.2.2.2.2.2.2.2.2.2.2.2.2.2.2.2.2.2.2.2.2.2.2.2.1
  refine r_aload_n e_X11_lay_0 rfl ?_
  refine r_bipush e_X11_lay_1 bp_7 ?_
  refine r_iconst e_X11_lay_3 ic_4 ?_
  refine r_iconst e_X11_lay_4 ic_m1 ?_
  refine cV3u e_X11_lay_5 cl_X11_278 ⟨Nat.le_of_ble_eq_true rfl, Nat.le_of_ble_eq_true rfl⟩ ⟨rfl, rfl⟩ k0 (Nat.le_of_ble_eq_true rfl) (S_X11_findPut hb1 g1) ?_
  refine r_aload_n e_X11_lay_8 rfl ?_
  refine r_getR e_X11_lay_9 fl_X11_212 k0 k1 ?_
  refine r_bipush e_X11_lay_12 bp_14 ?_
  refine r_aload_n e_X11_lay_14 rfl ?_
  refine r_getI e_X11_lay_15 fl_X11_264 i0 k0 ?_
  refine r_iastore e_X11_lay_18 k2 (by unfold vp_in; decide) ?_
  refine r_aload_n e_X11_lay_19 rfl ?_
  refine r_getR e_X11_lay_20 fl_X11_212 k0 k1 ?_
  refine r_bipush e_X11_lay_23 bp_15 ?_
  refine r_aload_n e_X11_lay_25 rfl ?_
  refine r_getIe e_X11_lay_26 fl_X11_267 i0 k0 (gs_aI (ne_kd k0 k2 (by decide))) ?_
  refine r_iastore e_X11_lay_29 k2 (by unfold vp_in; decide) ?_
  refine r_aload_n e_X11_lay_30 rfl ?_
  refine r_getR e_X11_lay_31 fl_X11_212 k0 k1 ?_
  refine r_bipush e_X11_lay_34 bp_16 ?_
  refine r_iconst e_X11_lay_36 ic_m1 ?_
  refine r_iastore e_X11_lay_37 k2 (by unfold vp_in; decide) ?_
  refine r_aload_n e_X11_lay_38 rfl ?_
  refine cV0u e_X11_lay_39 cl_X11_285 ⟨Nat.le_of_ble_eq_true rfl, Nat.le_of_ble_eq_true rfl⟩ ⟨rfl, rfl⟩ k0 (Nat.le_of_ble_eq_true rfl) (S_X11_stopBall hb1) ?_
  obtain ⟨Mc1, e_Mc1⟩ : ∃ z : Mem, z = (U_X11_stopBall  mA (setI (setI (setI (U_X11_findPut (7 : Int32) (4 : Int32) (-1 : Int32) mA M) mA (14 : Int32).toNatClampNeg ((U_X11_findPut (7 : Int32) (4 : Int32) (-1 : Int32) mA M).1 242 31)) mA (15 : Int32).toNatClampNeg ((U_X11_findPut (7 : Int32) (4 : Int32) (-1 : Int32) mA M).1 242 32)) mA (16 : Int32).toNatClampNeg (-1 : Int32))) := ⟨_, rfl⟩
  rw [← e_Mc1]
  refine r_aload_n e_X11_lay_42 rfl ?_
  refine r_getR e_X11_lay_43 fl_X11_212 k0 k1 ?_
  refine r_bipush e_X11_lay_46 bp_21 ?_
  refine r_iconst e_X11_lay_48 ic_0 ?_
  refine r_iastore e_X11_lay_49 k2 (by unfold vp_in; decide) ?_
  refine r_return e_X11_lay_50 rfl ⟨rfl, rfl⟩ ?_
  (subst e_Mc1; refine ⟨?_, rfl, ?_⟩ <;> ((try unfold U_X11_lay); (try simp only []); (try rfl)))
def U_X11_goes (x1 : Int32) (x2 : Int32) (x3 : Int32) (x4 : Int32) (mA : Nat) (M : Mem) : Mem := (let v0_0 : Int32 := if (5 : Int32) ≤ (M.1 242 33) then (-1 : Int32) else (1 : Int32); let v1_0 : Int32 := if (1 : Int32) ≤ x4 then (if x4 ≤ (9 : Int32) then x4 else (9 : Int32)) else (1 : Int32); setI (setI (setI (U_X11_set (M.1 242 33) (10 : Int32) x1 mA M) 262 ((U_X11_set (M.1 242 33) (10 : Int32) x1 mA M).1 242 33).toNatClampNeg (v0_0 * (V_X11_sign x2 (U_X11_set (M.1 242 33) (10 : Int32) x1 mA M)))) 263 ((U_X11_set (M.1 242 33) (10 : Int32) x1 mA M).1 242 33).toNatClampNeg (v0_0 * (V_X11_sign x3 (setI (U_X11_set (M.1 242 33) (10 : Int32) x1 mA M) 262 ((U_X11_set (M.1 242 33) (10 : Int32) x1 mA M).1 242 33).toNatClampNeg (v0_0 * (V_X11_sign x2 (U_X11_set (M.1 242 33) (10 : Int32) x1 mA M))))))) 264 ((U_X11_set (M.1 242 33) (10 : Int32) x1 mA M).1 242 33).toNatClampNeg v1_0)
theorem S_X11_goes {sh : List SC} {M : Mem} {x1 : Int32} {x2 : Int32} {x3 : Int32} {x4 : Int32} {mA : Nat} {oA : Nat} (hb1 : ModelAt sh mA oA) (g1 : vp_in (((44 : Int32) + ((16 : Int32) * (M.1 242 33))) + (10 : Int32)) 212) (g2 : vp_in ((U_X11_set (M.1 242 33) (10 : Int32) x1 mA M).1 242 33) 10) : Gu m_X11_goes [.ref 242, .int x1, .int x2, .int x3, .int x4] sh M (U_X11_goes x1 x2 x3 x4 mA M) := by
  refine Sp.of (ls := [some (.ref 242), some (.int x1), some (.int x2), some (.int x3), some (.int x4), none]) (by decide +kernel) (Nat.le_of_ble_eq_true rfl) rfl ?_
  have k0 : kd sh 242 = some (10 + 7, 0) := hb1.1
  have k1 : rf sh 242 38 = some 262 := hb1.2.2.2.2.2.2.2.2.2.2.2.2.2.2.2.2.2.2.2.2.1
  have k2 : kd sh 262 = some (0, 10) := hb1.2.2.2.2.2.2.2.2.2.2.2.2.2.2.2.2.2.2.2.2.2.2.2.2.2.2.2.2.2.2.2.2.2.2.2.2.2.2.2.2.2.2.2.2.1
  have k3 : rf sh 242 39 = some 263 := hb1.2.2.2.2.2.2.2.2.2.2.2.2.2.2.2.2.2.2.2.2.2.1
  have k4 : kd sh 263 = some (0, 10) := hb1.2.2.2.2.2.2.2.2.2.2.2.2.2.2.2.2.2.2.2.2.2.2.2.2.2.2.2.2.2.2.2.2.2.2.2.2.2.2.2.2.2.2.2.2.2.1
  have k5 : rf sh 242 40 = some 264 := hb1.2.2.2.2.2.2.2.2.2.2.2.2.2.2.2.2.2.2.2.2.2.2.1
  have k6 : kd sh 264 = some (0, 10) := hb1.2.2.2.2.2.2.2.2.2.2.2.2.2.2.2.2.2.2.2.2.2.2.2.2.2.2.2.2.2.2.2.2.2.2.2.2.2.2.2.2.2.2.2.2.2.2.1
  refine r_aload_n e_X11_goes_0 rfl ?_
  refine r_getI e_X11_goes_1 fl_X11_315 i0 k0 ?_
  refine r_iconst e_X11_goes_4 ic_5 ?_
  obtain ⟨v0_0, e_v0_0⟩ : ∃ z : Int32, z = (if (5 : Int32) ≤ (M.1 242 33) then (-1 : Int32) else (1 : Int32)) := ⟨_, rfl⟩
  suffices j13_0 : WP m_X11_goes (fun r sh' M'' => r = none ∧ sh' = sh ∧ M'' = (U_X11_goes x1 x2 x3 x4 mA M)) 13 [some (.ref 242), some (.int x1), some (.int x2), some (.int x3), some (.int x4), none] [.int v0_0] sh M 0 0 by
    refine r_icmp_ge e_X11_goes_5 (fun h5_0 => ?_) (fun h5_0 => ?_)
    · refine r_iconst e_X11_goes_12 ic_m1 ?_
      rw [show v0_0 = (-1 : Int32) from (e_v0_0.trans (if_pos h5_0))] at j13_0; exact j13_0
    · refine r_iconst e_X11_goes_8 ic_1 ?_
      refine r_goto e_X11_goes_9 ?_
      rw [show v0_0 = (1 : Int32) from (e_v0_0.trans (if_neg h5_0))] at j13_0; exact j13_0
  refine p_istore_6_5 e_X11_goes_13 rfl rfl ?_
  refine r_aload_n e_X11_goes_15 rfl ?_
  refine r_aload_n e_X11_goes_16 rfl ?_
  refine r_getI e_X11_goes_17 fl_X11_315 i0 k0 ?_
  refine r_bipush e_X11_goes_20 bp_10 ?_
  refine r_iload_n e_X11_goes_22 rfl ?_
  refine cV3u e_X11_goes_23 cl_X11_282 ⟨Nat.le_of_ble_eq_true rfl, Nat.le_of_ble_eq_true rfl⟩ ⟨rfl, rfl⟩ k0 (Nat.le_of_ble_eq_true rfl) (S_X11_set hb1 g1) ?_
  refine r_aload_n e_X11_goes_26 rfl ?_
  refine r_getR e_X11_goes_27 fl_X11_224 k0 k1 ?_
  refine r_aload_n e_X11_goes_30 rfl ?_
  refine r_getI e_X11_goes_31 fl_X11_315 i0 k0 ?_
  refine r_iload e_X11_goes_34 rfl ?_
  refine r_iload_n e_X11_goes_36 rfl ?_
  refine cS1v e_X11_goes_37 cl_X11_345 ⟨Nat.le_of_ble_eq_true rfl, Nat.le_of_ble_eq_true rfl⟩ ⟨rfl, rfl⟩  (Nat.le_of_ble_eq_true rfl) (S_X11_sign ) ?_
  refine r_imul e_X11_goes_40 ?_
  refine r_iastore e_X11_goes_41 k2 g2 ?_
  refine r_aload_n e_X11_goes_42 rfl ?_
  refine r_getR e_X11_goes_43 fl_X11_227 k0 k3 ?_
  refine r_aload_n e_X11_goes_46 rfl ?_
  refine r_getIe e_X11_goes_47 fl_X11_315 i0 k0 (gs_aI (by omega)) ?_
  refine r_iload e_X11_goes_50 rfl ?_
  refine r_iload_n e_X11_goes_52 rfl ?_
  refine cS1v e_X11_goes_53 cl_X11_345 ⟨Nat.le_of_ble_eq_true rfl, Nat.le_of_ble_eq_true rfl⟩ ⟨rfl, rfl⟩  (Nat.le_of_ble_eq_true rfl) (S_X11_sign ) ?_
  refine r_imul e_X11_goes_56 ?_
  refine r_iastore e_X11_goes_57 k4 g2 ?_
  refine r_aload_n e_X11_goes_58 rfl ?_
  refine r_getR e_X11_goes_59 fl_X11_230 k0 k5 ?_
  refine r_aload_n e_X11_goes_62 rfl ?_
  refine r_getIe e_X11_goes_63 fl_X11_315 i0 k0 ((gs_aI (by omega)).trans (gs_aI (by omega))) ?_
  refine r_iload e_X11_goes_66 rfl ?_
  refine r_iconst e_X11_goes_68 ic_1 ?_
  obtain ⟨v1_0, e_v1_0⟩ : ∃ z : Int32, z = (if (1 : Int32) ≤ x4 then (if x4 ≤ (9 : Int32) then x4 else (9 : Int32)) else (1 : Int32)) := ⟨_, rfl⟩
  suffices j90_1 : WP m_X11_goes (fun r sh' M'' => r = none ∧ sh' = sh ∧ M'' = (U_X11_goes x1 x2 x3 x4 mA M)) 90 [some (.ref 242), some (.int x1), some (.int x2), some (.int x3), some (.int x4), some (.int v0_0)] [.int v1_0, .int ((U_X11_set (M.1 242 33) (10 : Int32) x1 mA M).1 242 33), .ref 264] sh (setI (setI (U_X11_set (M.1 242 33) (10 : Int32) x1 mA M) 262 ((U_X11_set (M.1 242 33) (10 : Int32) x1 mA M).1 242 33).toNatClampNeg (v0_0 * (V_X11_sign x2 (U_X11_set (M.1 242 33) (10 : Int32) x1 mA M)))) 263 ((U_X11_set (M.1 242 33) (10 : Int32) x1 mA M).1 242 33).toNatClampNeg (v0_0 * (V_X11_sign x3 (setI (U_X11_set (M.1 242 33) (10 : Int32) x1 mA M) 262 ((U_X11_set (M.1 242 33) (10 : Int32) x1 mA M).1 242 33).toNatClampNeg (v0_0 * (V_X11_sign x2 (U_X11_set (M.1 242 33) (10 : Int32) x1 mA M))))))) 0 0 by
    refine r_icmp_ge e_X11_goes_69 (fun h69_1 => ?_) (fun h69_1 => ?_)
    · refine r_iload e_X11_goes_76 rfl ?_
      refine r_bipush e_X11_goes_78 bp_9 ?_
      refine r_icmp_le e_X11_goes_80 (fun h80_2 => ?_) (fun h80_2 => ?_)
      · refine r_iload e_X11_goes_88 rfl ?_
        rw [show v1_0 = x4 from ((e_v1_0.trans (if_pos h69_1)).trans (if_pos h80_2))] at j90_1; exact j90_1
      · refine r_bipush e_X11_goes_83 bp_9 ?_
        refine r_goto e_X11_goes_85 ?_
        rw [show v1_0 = (9 : Int32) from ((e_v1_0.trans (if_pos h69_1)).trans (if_neg h80_2))] at j90_1; exact j90_1
    · refine r_iconst e_X11_goes_72 ic_1 ?_
      refine r_goto e_X11_goes_73 ?_
      rw [show v1_0 = (1 : Int32) from (e_v1_0.trans (if_neg h69_1))] at j90_1; exact j90_1
  refine r_iastore e_X11_goes_90 k6 g2 ?_
  refine r_return e_X11_goes_91 rfl ⟨rfl, rfl⟩ ?_
  (subst e_v1_0 e_v0_0; refine ⟨?_, rfl, ?_⟩ <;> ((try unfold U_X11_goes); (try simp only []); (try rfl)))
def V_X11_sensor (x1 : Int32) (mA : Nat) (M : Mem) : Int32 := if x1 = 0 then (V_X11_seenX (V_X11_of (M.1 242 33) (8 : Int32) mA M) M) else (if x1 = 1 then (V_X11_seenY (V_X11_of (M.1 242 33) (9 : Int32) mA M) M) else (if x1 = 2 then (V_X11_seenX (V_X11_of (M.1 242 33) (0 : Int32) mA M) M) else (if x1 = 3 then (V_X11_seenY (V_X11_of (M.1 242 33) (1 : Int32) mA M) M) else (if x1 = 4 then (let v0_0 : Int32 := if 0 ≤ (M.1 mA (16 : Int32).toNatClampNeg) then (if (M.1 mA (16 : Int32).toNatClampNeg) = (M.1 242 33) then (2 : Int32) else (if ((M.1 mA (16 : Int32).toNatClampNeg) / (5 : Int32)) = ((M.1 242 33) / (5 : Int32)) then (1 : Int32) else (-1 : Int32))) else (0 : Int32); v0_0) else (if x1 = 5 then (M.1 mA (3 : Int32).toNatClampNeg) else (if x1 = 6 then ((M.1 mA ((4 : Int32) + ((M.1 242 33) / (5 : Int32))).toNatClampNeg) - (M.1 mA ((5 : Int32) - ((M.1 242 33) / (5 : Int32))).toNatClampNeg)) else (V_X11_distance (V_X11_of (M.1 242 33) (0 : Int32) mA M) (V_X11_of (M.1 242 33) (1 : Int32) mA M) (V_X11_of (M.1 242 33) (8 : Int32) mA M) (V_X11_of (M.1 242 33) (9 : Int32) mA M) M)))))))
def P_X11_sensor (x1 : Int32) (mA : Nat) (M : Mem) : Prop := (x1 = 0 → vp_in (((44 : Int32) + ((16 : Int32) * (M.1 242 33))) + (8 : Int32)) 212) ∧ (x1 = 1 → vp_in (((44 : Int32) + ((16 : Int32) * (M.1 242 33))) + (9 : Int32)) 212) ∧ (x1 = 2 → vp_in (((44 : Int32) + ((16 : Int32) * (M.1 242 33))) + (0 : Int32)) 212) ∧ (x1 = 3 → vp_in (((44 : Int32) + ((16 : Int32) * (M.1 242 33))) + (1 : Int32)) 212) ∧ (x1 = 6 → vp_in ((4 : Int32) + ((M.1 242 33) / (5 : Int32))) 212) ∧ (x1 = 6 → vp_in ((5 : Int32) - ((M.1 242 33) / (5 : Int32))) 212)
theorem S_X11_sensor {sh : List SC} {M : Mem} {x1 : Int32} {mA : Nat} {oA : Nat} (hb1 : ModelAt sh mA oA) (g7 : vp_in (((44 : Int32) + ((16 : Int32) * (M.1 242 33))) + (0 : Int32)) 212) (g8 : vp_in (((44 : Int32) + ((16 : Int32) * (M.1 242 33))) + (1 : Int32)) 212) (g9 : vp_in (((44 : Int32) + ((16 : Int32) * (M.1 242 33))) + (8 : Int32)) 212) (g10 : vp_in (((44 : Int32) + ((16 : Int32) * (M.1 242 33))) + (9 : Int32)) 212) (hP : P_X11_sensor x1 mA M) : Gv m_X11_sensor [.ref 242, .int x1] sh M (.int (V_X11_sensor x1 mA M)) M := by
  refine Sp.of (ls := [some (.ref 242), some (.int x1), none, none]) (by decide +kernel) (Nat.le_of_ble_eq_true rfl) rfl ?_
  obtain ⟨g1, g2, g3, g4, g5, g6⟩ := hP
  have k0 : kd sh 242 = some (10 + 7, 0) := hb1.1
  have k1 : rf sh 242 27 = some mA := hb1.2.2.2.2.2.2.2.2.2.2.2.2.2.2.2.2.2.1
  have k2 : kd sh mA = some (0, 212) := hb1.2.2.2.2.2.2.2.2.2.2.2.2.2.2.2.2.2.2.2.2.2.2.2.2.2.2.2.2.2.2.2.2.2.2.2.2.2.2.2.2.2.2.2.2.2.2.2.2.2.2.2.1
  refine r_aload_n e_X11_sensor_0 rfl ?_
  refine r_getR e_X11_sensor_1 fl_X11_212 k0 k1 ?_
  refine r_bipush e_X11_sensor_4 bp_16 ?_
  refine r_iaload e_X11_sensor_6 k2 (by unfold vp_in; decide) ?_
  refine p_istore_n_4_2 e_X11_sensor_7 rfl rfl ?_
  refine r_aload_n e_X11_sensor_8 rfl ?_
  refine r_getI e_X11_sensor_9 fl_X11_315 i0 k0 ?_
  refine r_iconst e_X11_sensor_12 ic_5 ?_
  refine r_idiv e_X11_sensor_13 (by decide) ?_
  refine p_istore_n_4_3 e_X11_sensor_14 rfl rfl ?_
  refine r_iload_n e_X11_sensor_15 rfl ?_
  by_cases hs16_0 : x1 = 0
  · refine r_tabIn (tgt := 60) (off := 44) e_X11_sensor_16 (by rw [hs16_0]; decide) (by rw [hs16_0]; decide) (by rw [hs16_0]; rfl) (by decide) ?_
    refine r_aload_n e_X11_sensor_60 rfl ?_
    refine r_aload_n e_X11_sensor_61 rfl ?_
    refine r_aload_n e_X11_sensor_62 rfl ?_
    refine r_getI e_X11_sensor_63 fl_X11_315 i0 k0 ?_
    refine r_bipush e_X11_sensor_66 bp_8 ?_
    refine cV2v e_X11_sensor_68 cl_X11_252 ⟨Nat.le_of_ble_eq_true rfl, Nat.le_of_ble_eq_true rfl⟩ ⟨rfl, rfl⟩ k0 (Nat.le_of_ble_eq_true rfl) (S_X11_of hb1 (g1 hs16_0)) ?_
    refine cV1v e_X11_sensor_71 cl_X11_318 ⟨Nat.le_of_ble_eq_true rfl, Nat.le_of_ble_eq_true rfl⟩ ⟨rfl, rfl⟩ k0 (Nat.le_of_ble_eq_true rfl) (S_X11_seenX hb1) ?_
    refine r_ireturn e_X11_sensor_74 rfl ⟨rfl, rfl⟩ ?_
    (refine ⟨?_, rfl, ?_⟩ <;> ((try unfold V_X11_sensor); (try simp only [if_pos hs16_0]); (try rfl)))
  · by_cases hs16_1 : x1 = 1
    · refine r_tabIn (tgt := 75) (off := 59) e_X11_sensor_16 (by rw [hs16_1]; decide) (by rw [hs16_1]; decide) (by rw [hs16_1]; rfl) (by decide) ?_
      refine r_aload_n e_X11_sensor_75 rfl ?_
      refine r_aload_n e_X11_sensor_76 rfl ?_
      refine r_aload_n e_X11_sensor_77 rfl ?_
      refine r_getI e_X11_sensor_78 fl_X11_315 i0 k0 ?_
      refine r_bipush e_X11_sensor_81 bp_9 ?_
      refine cV2v e_X11_sensor_83 cl_X11_252 ⟨Nat.le_of_ble_eq_true rfl, Nat.le_of_ble_eq_true rfl⟩ ⟨rfl, rfl⟩ k0 (Nat.le_of_ble_eq_true rfl) (S_X11_of hb1 (g2 hs16_1)) ?_
      refine cV1v e_X11_sensor_86 cl_X11_321 ⟨Nat.le_of_ble_eq_true rfl, Nat.le_of_ble_eq_true rfl⟩ ⟨rfl, rfl⟩ k0 (Nat.le_of_ble_eq_true rfl) (S_X11_seenY hb1) ?_
      refine r_ireturn e_X11_sensor_89 rfl ⟨rfl, rfl⟩ ?_
      (refine ⟨?_, rfl, ?_⟩ <;> ((try unfold V_X11_sensor); (try simp only [if_neg hs16_0, if_pos hs16_1]); (try rfl)))
    · by_cases hs16_2 : x1 = 2
      · refine r_tabIn (tgt := 90) (off := 74) e_X11_sensor_16 (by rw [hs16_2]; decide) (by rw [hs16_2]; decide) (by rw [hs16_2]; rfl) (by decide) ?_
        refine r_aload_n e_X11_sensor_90 rfl ?_
        refine r_aload_n e_X11_sensor_91 rfl ?_
        refine r_aload_n e_X11_sensor_92 rfl ?_
        refine r_getI e_X11_sensor_93 fl_X11_315 i0 k0 ?_
        refine r_iconst e_X11_sensor_96 ic_0 ?_
        refine cV2v e_X11_sensor_97 cl_X11_252 ⟨Nat.le_of_ble_eq_true rfl, Nat.le_of_ble_eq_true rfl⟩ ⟨rfl, rfl⟩ k0 (Nat.le_of_ble_eq_true rfl) (S_X11_of hb1 (g3 hs16_2)) ?_
        refine cV1v e_X11_sensor_100 cl_X11_318 ⟨Nat.le_of_ble_eq_true rfl, Nat.le_of_ble_eq_true rfl⟩ ⟨rfl, rfl⟩ k0 (Nat.le_of_ble_eq_true rfl) (S_X11_seenX hb1) ?_
        refine r_ireturn e_X11_sensor_103 rfl ⟨rfl, rfl⟩ ?_
        (refine ⟨?_, rfl, ?_⟩ <;> ((try unfold V_X11_sensor); (try simp only [if_neg hs16_0, if_neg hs16_1, if_pos hs16_2]); (try rfl)))
      · by_cases hs16_3 : x1 = 3
        · refine r_tabIn (tgt := 104) (off := 88) e_X11_sensor_16 (by rw [hs16_3]; decide) (by rw [hs16_3]; decide) (by rw [hs16_3]; rfl) (by decide) ?_
          refine r_aload_n e_X11_sensor_104 rfl ?_
          refine r_aload_n e_X11_sensor_105 rfl ?_
          refine r_aload_n e_X11_sensor_106 rfl ?_
          refine r_getI e_X11_sensor_107 fl_X11_315 i0 k0 ?_
          refine r_iconst e_X11_sensor_110 ic_1 ?_
          refine cV2v e_X11_sensor_111 cl_X11_252 ⟨Nat.le_of_ble_eq_true rfl, Nat.le_of_ble_eq_true rfl⟩ ⟨rfl, rfl⟩ k0 (Nat.le_of_ble_eq_true rfl) (S_X11_of hb1 (g4 hs16_3)) ?_
          refine cV1v e_X11_sensor_114 cl_X11_321 ⟨Nat.le_of_ble_eq_true rfl, Nat.le_of_ble_eq_true rfl⟩ ⟨rfl, rfl⟩ k0 (Nat.le_of_ble_eq_true rfl) (S_X11_seenY hb1) ?_
          refine r_ireturn e_X11_sensor_117 rfl ⟨rfl, rfl⟩ ?_
          (refine ⟨?_, rfl, ?_⟩ <;> ((try unfold V_X11_sensor); (try simp only [if_neg hs16_0, if_neg hs16_1, if_neg hs16_2, if_pos hs16_3]); (try rfl)))
        · by_cases hs16_4 : x1 = 4
          · refine r_tabIn (tgt := 118) (off := 102) e_X11_sensor_16 (by rw [hs16_4]; decide) (by rw [hs16_4]; decide) (by rw [hs16_4]; rfl) (by decide) ?_
            refine r_iload_n e_X11_sensor_118 rfl ?_
            obtain ⟨v0_0, e_v0_0⟩ : ∃ z : Int32, z = (if 0 ≤ (M.1 mA (16 : Int32).toNatClampNeg) then (if (M.1 mA (16 : Int32).toNatClampNeg) = (M.1 242 33) then (2 : Int32) else (if ((M.1 mA (16 : Int32).toNatClampNeg) / (5 : Int32)) = ((M.1 242 33) / (5 : Int32)) then (1 : Int32) else (-1 : Int32))) else (0 : Int32)) := ⟨_, rfl⟩
            suffices j150_0 : WP m_X11_sensor (fun r sh' M'' => r = some (.int (V_X11_sensor x1 mA M)) ∧ sh' = sh ∧ M'' = M) 150 [some (.ref 242), some (.int x1), some (.int (M.1 mA (16 : Int32).toNatClampNeg)), some (.int ((M.1 242 33) / (5 : Int32)))] [.int v0_0] sh M 0 0 by
              refine r_if_ge e_X11_sensor_119 (fun h119_0 => ?_) (fun h119_0 => ?_)
              · refine r_iload_n e_X11_sensor_126 rfl ?_
                refine r_aload_n e_X11_sensor_127 rfl ?_
                refine r_getI e_X11_sensor_128 fl_X11_315 i0 k0 ?_
                refine r_icmp_ne e_X11_sensor_131 (fun h131_1 => ?_) (fun h131_1 => ?_)
                · refine r_iload_n e_X11_sensor_138 rfl ?_
                  refine r_iconst e_X11_sensor_139 ic_5 ?_
                  refine r_idiv e_X11_sensor_140 (by decide) ?_
                  refine r_iload_n e_X11_sensor_141 rfl ?_
                  refine r_icmp_ne e_X11_sensor_142 (fun h142_2 => ?_) (fun h142_2 => ?_)
                  · refine r_iconst e_X11_sensor_149 ic_m1 ?_
                    rw [show v0_0 = (-1 : Int32) from (((e_v0_0.trans (if_pos h119_0)).trans (if_neg h131_1)).trans (if_neg h142_2))] at j150_0; exact j150_0
                  · refine r_iconst e_X11_sensor_145 ic_1 ?_
                    refine r_goto e_X11_sensor_146 ?_
                    rw [show v0_0 = (1 : Int32) from (((e_v0_0.trans (if_pos h119_0)).trans (if_neg h131_1)).trans (if_pos h142_2))] at j150_0; exact j150_0
                · refine r_iconst e_X11_sensor_134 ic_2 ?_
                  refine r_goto e_X11_sensor_135 ?_
                  rw [show v0_0 = (2 : Int32) from ((e_v0_0.trans (if_pos h119_0)).trans (if_pos h131_1))] at j150_0; exact j150_0
              · refine r_iconst e_X11_sensor_122 ic_0 ?_
                refine r_goto e_X11_sensor_123 ?_
                rw [show v0_0 = (0 : Int32) from (e_v0_0.trans (if_neg h119_0))] at j150_0; exact j150_0
            refine r_ireturn e_X11_sensor_150 rfl ⟨rfl, rfl⟩ ?_
            (subst e_v0_0; refine ⟨?_, rfl, ?_⟩ <;> ((try unfold V_X11_sensor); (try simp only [if_neg hs16_0, if_neg hs16_1, if_neg hs16_2, if_neg hs16_3, if_pos hs16_4]); (try rfl)))
          · by_cases hs16_5 : x1 = 5
            · refine r_tabIn (tgt := 151) (off := 135) e_X11_sensor_16 (by rw [hs16_5]; decide) (by rw [hs16_5]; decide) (by rw [hs16_5]; rfl) (by decide) ?_
              refine r_aload_n e_X11_sensor_151 rfl ?_
              refine r_getR e_X11_sensor_152 fl_X11_212 k0 k1 ?_
              refine r_iconst e_X11_sensor_155 ic_3 ?_
              refine r_iaload e_X11_sensor_156 k2 (by unfold vp_in; decide) ?_
              refine r_ireturn e_X11_sensor_157 rfl ⟨rfl, rfl⟩ ?_
              (refine ⟨?_, rfl, ?_⟩ <;> ((try unfold V_X11_sensor); (try simp only [if_neg hs16_0, if_neg hs16_1, if_neg hs16_2, if_neg hs16_3, if_neg hs16_4, if_pos hs16_5]); (try rfl)))
            · by_cases hs16_6 : x1 = 6
              · refine r_tabIn (tgt := 158) (off := 142) e_X11_sensor_16 (by rw [hs16_6]; decide) (by rw [hs16_6]; decide) (by rw [hs16_6]; rfl) (by decide) ?_
                refine r_aload_n e_X11_sensor_158 rfl ?_
                refine r_getR e_X11_sensor_159 fl_X11_212 k0 k1 ?_
                refine r_iconst e_X11_sensor_162 ic_4 ?_
                refine r_iload_n e_X11_sensor_163 rfl ?_
                refine r_iadd e_X11_sensor_164 ?_
                refine r_iaload e_X11_sensor_165 k2 (g5 hs16_6) ?_
                refine r_aload_n e_X11_sensor_166 rfl ?_
                refine r_getR e_X11_sensor_167 fl_X11_212 k0 k1 ?_
                refine r_iconst e_X11_sensor_170 ic_5 ?_
                refine r_iload_n e_X11_sensor_171 rfl ?_
                refine r_isub e_X11_sensor_172 ?_
                refine r_iaload e_X11_sensor_173 k2 (g6 hs16_6) ?_
                refine r_isub e_X11_sensor_174 ?_
                refine r_ireturn e_X11_sensor_175 rfl ⟨rfl, rfl⟩ ?_
                (refine ⟨?_, rfl, ?_⟩ <;> ((try unfold V_X11_sensor); (try simp only [if_neg hs16_0, if_neg hs16_1, if_neg hs16_2, if_neg hs16_3, if_neg hs16_4, if_neg hs16_5, if_pos hs16_6]); (try rfl)))
              · refine r_tabOut (tgt := 176) e_X11_sensor_16 (by have q0 := lv_neT hs16_0 (show (0 : Int32).toInt = 0 from rfl); have q1 := lv_neT hs16_1 (show (1 : Int32).toInt = 1 from rfl); have q2 := lv_neT hs16_2 (show (2 : Int32).toInt = 2 from rfl); have q3 := lv_neT hs16_3 (show (3 : Int32).toInt = 3 from rfl); have q4 := lv_neT hs16_4 (show (4 : Int32).toInt = 4 from rfl); have q5 := lv_neT hs16_5 (show (5 : Int32).toInt = 5 from rfl); have q6 := lv_neT hs16_6 (show (6 : Int32).toInt = 6 from rfl); omega) (by decide) ?_
                refine r_aload_n e_X11_sensor_176 rfl ?_
                refine r_aload_n e_X11_sensor_177 rfl ?_
                refine r_getI e_X11_sensor_178 fl_X11_315 i0 k0 ?_
                refine r_iconst e_X11_sensor_181 ic_0 ?_
                refine cV2v e_X11_sensor_182 cl_X11_252 ⟨Nat.le_of_ble_eq_true rfl, Nat.le_of_ble_eq_true rfl⟩ ⟨rfl, rfl⟩ k0 (Nat.le_of_ble_eq_true rfl) (S_X11_of hb1 g7) ?_
                refine r_aload_n e_X11_sensor_185 rfl ?_
                refine r_aload_n e_X11_sensor_186 rfl ?_
                refine r_getI e_X11_sensor_187 fl_X11_315 i0 k0 ?_
                refine r_iconst e_X11_sensor_190 ic_1 ?_
                refine cV2v e_X11_sensor_191 cl_X11_252 ⟨Nat.le_of_ble_eq_true rfl, Nat.le_of_ble_eq_true rfl⟩ ⟨rfl, rfl⟩ k0 (Nat.le_of_ble_eq_true rfl) (S_X11_of hb1 g8) ?_
                refine r_aload_n e_X11_sensor_194 rfl ?_
                refine r_aload_n e_X11_sensor_195 rfl ?_
                refine r_getI e_X11_sensor_196 fl_X11_315 i0 k0 ?_
                refine r_bipush e_X11_sensor_199 bp_8 ?_
                refine cV2v e_X11_sensor_201 cl_X11_252 ⟨Nat.le_of_ble_eq_true rfl, Nat.le_of_ble_eq_true rfl⟩ ⟨rfl, rfl⟩ k0 (Nat.le_of_ble_eq_true rfl) (S_X11_of hb1 g9) ?_
                refine r_aload_n e_X11_sensor_204 rfl ?_
                refine r_aload_n e_X11_sensor_205 rfl ?_
                refine r_getI e_X11_sensor_206 fl_X11_315 i0 k0 ?_
                refine r_bipush e_X11_sensor_209 bp_9 ?_
                refine cV2v e_X11_sensor_211 cl_X11_252 ⟨Nat.le_of_ble_eq_true rfl, Nat.le_of_ble_eq_true rfl⟩ ⟨rfl, rfl⟩ k0 (Nat.le_of_ble_eq_true rfl) (S_X11_of hb1 g10) ?_
                refine cS4v e_X11_sensor_214 cl_X11_274 ⟨Nat.le_of_ble_eq_true rfl, Nat.le_of_ble_eq_true rfl⟩ ⟨rfl, rfl⟩  (Nat.le_of_ble_eq_true rfl) (S_X11_distance ) ?_
                refine r_ireturn e_X11_sensor_217 rfl ⟨rfl, rfl⟩ ?_
                (refine ⟨?_, rfl, ?_⟩ <;> ((try unfold V_X11_sensor); (try simp only [if_neg hs16_0, if_neg hs16_1, if_neg hs16_2, if_neg hs16_3, if_neg hs16_4, if_neg hs16_5, if_neg hs16_6]); (try rfl)))
