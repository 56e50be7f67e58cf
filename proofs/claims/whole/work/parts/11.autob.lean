def V_X2_holding (a : Nat) (x1 : Int32) (M : Mem) : Int32 := if 0 ≤ (M.1 (a + 4) 2) then (if (M.1 (a + 4) 2) = x1 then (2 : Int32) else (let v2_0 : Int32 := if ((M.1 (a + 4) 2) / (5 : Int32)) = (x1 / (5 : Int32)) then (1 : Int32) else (-1 : Int32); v2_0)) else (0 : Int32)
theorem S_X2_holding {sh : List SC} {M : Mem} {a : Nat} {x1 : Int32}  (hb1 : MatchAt sh a)  : Gv m_X2_holding [.ref a, .int x1] sh M (.int (V_X2_holding a x1 M)) M := by
  refine Sp.of (ls := [some (.ref a), some (.int x1)]) (by decide +kernel) (Nat.le_of_ble_eq_true rfl) rfl ?_
  have k0 : kd sh a = some (2 + 7, 0) := hb1.1
  have k1 : rf sh a 4 = some (a + 4) := hb1.2.2.2.2.2.1
  have k2 : kd sh (a + 4) = some (0 + 7, 0) := hb1.2.2.2.2.2.2.2.2.2.1.1
  refine r_aload_n e_X2_holding_0 rfl ?_
  refine r_getR e_X2_holding_1 fl_X2_27 k0 k1 ?_
  refine r_getI e_X2_holding_4 fl_X2_132 i0 k2 ?_
  refine r_if_ge e_X2_holding_7 (fun h7_0 => ?_) (fun h7_0 => ?_)
  · refine r_aload_n e_X2_holding_12 rfl ?_
    refine r_getR e_X2_holding_13 fl_X2_27 k0 k1 ?_
    refine r_getI e_X2_holding_16 fl_X2_132 i0 k2 ?_
    refine r_iload_n e_X2_holding_19 rfl ?_
    refine r_icmp_ne e_X2_holding_20 (fun h20_1 => ?_) (fun h20_1 => ?_)
    · refine r_aload_n e_X2_holding_25 rfl ?_
      refine r_getR e_X2_holding_26 fl_X2_27 k0 k1 ?_
      refine r_getI e_X2_holding_29 fl_X2_132 i0 k2 ?_
      refine r_iconst e_X2_holding_32 ic_5 ?_
      refine r_idiv e_X2_holding_33 (by decide) ?_
      refine r_iload_n e_X2_holding_34 rfl ?_
      refine r_iconst e_X2_holding_35 ic_5 ?_
      refine r_idiv e_X2_holding_36 (by decide) ?_
      obtain ⟨v2_0, e_v2_0⟩ : ∃ z : Int32, z = (if ((M.1 (a + 4) 2) / (5 : Int32)) = (x1 / (5 : Int32)) then (1 : Int32) else (-1 : Int32)) := ⟨_, rfl⟩
      suffices j45_2 : WP m_X2_holding (fun r sh' M'' => r = some (.int (V_X2_holding a x1 M)) ∧ sh' = sh ∧ M'' = M) 45 [some (.ref a), some (.int x1)] [.int v2_0] sh M 0 0 by
        refine r_icmp_ne e_X2_holding_37 (fun h37_2 => ?_) (fun h37_2 => ?_)
        · refine r_iconst e_X2_holding_44 ic_m1 ?_
          (rw [show v2_0 = (-1 : Int32) from (e_v2_0.trans (if_neg h37_2))] at j45_2; exact j45_2)
        · refine r_iconst e_X2_holding_40 ic_1 ?_
          refine r_goto e_X2_holding_41 ?_
          (rw [show v2_0 = (1 : Int32) from (e_v2_0.trans (if_pos h37_2))] at j45_2; exact j45_2)
      refine r_ireturn e_X2_holding_45 rfl ⟨rfl, rfl⟩ ?_
      (subst e_v2_0; refine ⟨?_, rfl, ?_⟩ <;> ((try unfold V_X2_holding); (try simp only [if_pos h7_0, if_neg h20_1]); (try rfl)))
    · refine r_iconst e_X2_holding_23 ic_2 ?_
      refine r_ireturn e_X2_holding_24 rfl ⟨rfl, rfl⟩ ?_
      (refine ⟨?_, rfl, ?_⟩ <;> ((try unfold V_X2_holding); (try simp only [if_pos h7_0, if_pos h20_1]); (try rfl)))
  · refine r_iconst e_X2_holding_10 ic_0 ?_
    refine r_ireturn e_X2_holding_11 rfl ⟨rfl, rfl⟩ ?_
    (refine ⟨?_, rfl, ?_⟩ <;> ((try unfold V_X2_holding); (try simp only [if_neg h7_0]); (try rfl)))
def V_X10_cut (x1 : Int32) (x2 : Int32) (x3 : Int32) (M : Mem) : Int32 := (if x2 < (if x1 < x3 then x1 else x3) then (if x1 < x3 then x1 else x3) else x2)
theorem S_X10_cut {sh : List SC} {M : Mem} {x1 : Int32} {x2 : Int32} {x3 : Int32}    : Gv m_X10_cut [.int x1, .int x2, .int x3] sh M (.int (V_X10_cut x1 x2 x3 M)) M := by
  refine Sp.of (ls := [some (.int x1), some (.int x2), some (.int x3)]) (by decide +kernel) (Nat.le_of_ble_eq_true rfl) rfl ?_
  refine r_iload_n e_X10_cut_0 rfl ?_
  refine r_iload_n e_X10_cut_1 rfl ?_
  refine r_iload_n e_X10_cut_2 rfl ?_
  refine r_mmin e_X10_cut_3 cl_X10_199 ⟨Nat.le_of_ble_eq_true rfl, Nat.le_of_ble_eq_true rfl, Nat.zero_le _, Nat.zero_le _⟩ (Nat.le_of_ble_eq_true rfl) ?_
  refine r_mmax e_X10_cut_6 cl_X10_204 ⟨Nat.le_of_ble_eq_true rfl, Nat.le_of_ble_eq_true rfl, Nat.zero_le _, Nat.zero_le _⟩ (Nat.le_of_ble_eq_true rfl) ?_
  refine r_ireturn e_X10_cut_9 rfl ⟨rfl, rfl⟩ ?_
  (refine ⟨?_, rfl, ?_⟩ <;> ((try unfold V_X10_cut); (try simp only []); (try rfl)))
def U_X0_hold (a : Nat) (x1 : Int32) (x2 : Int32) (x3 : Int32) (x4 : Int32) (M : Mem) : Mem := setI (setI (U_X0_go a x2 x3 (U_X0_free a (0 : Int32) (0 : Int32) (0 : Int32) M)) a 2 x1) a 3 x4
theorem S_X0_hold {sh : List SC} {M : Mem} {a : Nat} {x1 : Int32} {x2 : Int32} {x3 : Int32} {x4 : Int32}  (hb1 : BallAt sh a)  : Gu m_X0_hold [.ref a, .int x1, .int x2, .int x3, .int x4] sh M (U_X0_hold a x1 x2 x3 x4 M) := by
  refine Sp.of (ls := [some (.ref a), some (.int x1), some (.int x2), some (.int x3), some (.int x4)]) (by decide +kernel) (Nat.le_of_ble_eq_true rfl) rfl ?_
  have k0 : kd sh a = some (0 + 7, 0) := hb1.1
  refine r_aload_n e_X0_hold_0 rfl ?_
  refine r_iconst e_X0_hold_1 ic_0 ?_
  refine r_iconst e_X0_hold_2 ic_0 ?_
  refine r_iconst e_X0_hold_3 ic_0 ?_
  refine cV3u e_X0_hold_4 cl_X0_51 ⟨Nat.le_of_ble_eq_true rfl, Nat.le_of_ble_eq_true rfl⟩ ⟨rfl, rfl⟩ k0 (Nat.le_of_ble_eq_true rfl) (S_X0_free hb1) ?_
  refine r_aload_n e_X0_hold_7 rfl ?_
  refine r_iload_n e_X0_hold_8 rfl ?_
  refine r_iload_n e_X0_hold_9 rfl ?_
  refine cV2u e_X0_hold_10 cl_X0_47 ⟨Nat.le_of_ble_eq_true rfl, Nat.le_of_ble_eq_true rfl⟩ ⟨rfl, rfl⟩ k0 (Nat.le_of_ble_eq_true rfl) (S_X0_go hb1) ?_
  refine r_aload_n e_X0_hold_13 rfl ?_
  refine r_iload_n e_X0_hold_14 rfl ?_
  refine r_putI e_X0_hold_15 fl_X0_16 k0 ?_
  refine r_aload_n e_X0_hold_18 rfl ?_
  refine r_iload e_X0_hold_19 rfl ?_
  refine r_putI e_X0_hold_21 fl_X0_19 k0 ?_
  refine r_return e_X0_hold_24 rfl ⟨rfl, rfl⟩ ?_
  (refine ⟨?_, rfl, ?_⟩ <;> ((try unfold U_X0_hold); (try simp only []); (try rfl)))
def U_X2_arrive (a : Nat) (x1 : Int32) (x2 : Int32) (M : Mem) : Mem := (let M0_0 : Mem := if (V_X2_robotIn a x1 x2 M) < 0 then (U_X0_go (a + 4) x1 x2 M) else (U_X0_hold (a + 4) (V_X2_robotIn a x1 x2 M) x1 x2 (M.1 a 7) M); M0_0)
theorem S_X2_arrive {sh : List SC} {M : Mem} {a : Nat} {x1 : Int32} {x2 : Int32}  (hb1 : MatchAt sh a)  : Gu m_X2_arrive [.ref a, .int x1, .int x2] sh M (U_X2_arrive a x1 x2 M) := by
  refine Sp.of (ls := [some (.ref a), some (.int x1), some (.int x2), none]) (by decide +kernel) (Nat.le_of_ble_eq_true rfl) rfl ?_
  have k0 : kd sh a = some (2 + 7, 0) := hb1.1
  have k1 : rf sh a 4 = some (a + 4) := hb1.2.2.2.2.2.1
  have k2 : kd sh (a + 4) = some (0 + 7, 0) := hb1.2.2.2.2.2.2.2.2.2.1.1
  refine r_aload_n e_X2_arrive_0 rfl ?_
  refine r_iload_n e_X2_arrive_1 rfl ?_
  refine r_iload_n e_X2_arrive_2 rfl ?_
  refine cV2v e_X2_arrive_3 cl_X2_141 ⟨Nat.le_of_ble_eq_true rfl, Nat.le_of_ble_eq_true rfl⟩ ⟨rfl, rfl⟩ k0 (Nat.le_of_ble_eq_true rfl) (S_X2_robotIn hb1) ?_
  refine p_istore_n_4_3 e_X2_arrive_6 rfl rfl ?_
  refine r_iload_n e_X2_arrive_7 rfl ?_
  obtain ⟨M0_0, e_M0_0⟩ : ∃ z : Mem, z = (if (V_X2_robotIn a x1 x2 M) < 0 then (U_X0_go (a + 4) x1 x2 M) else (U_X0_hold (a + 4) (V_X2_robotIn a x1 x2 M) x1 x2 (M.1 a 7) M)) := ⟨_, rfl⟩
  suffices j37_0 : WP m_X2_arrive (fun r sh' M'' => r = none ∧ sh' = sh ∧ M'' = (U_X2_arrive a x1 x2 M)) 37 [some (.ref a), some (.int x1), some (.int x2), some (.int (V_X2_robotIn a x1 x2 M))] [] sh M0_0 0 0 by
    refine r_if_lt e_X2_arrive_8 (fun h8_0 => ?_) (fun h8_0 => ?_)
    · refine r_aload_n e_X2_arrive_28 rfl ?_
      refine r_getR e_X2_arrive_29 fl_X2_27 k0 k1 ?_
      refine r_iload_n e_X2_arrive_32 rfl ?_
      refine r_iload_n e_X2_arrive_33 rfl ?_
      refine cV2u e_X2_arrive_34 cl_X2_135 ⟨Nat.le_of_ble_eq_true rfl, Nat.le_of_ble_eq_true rfl⟩ ⟨rfl, rfl⟩ k2 (Nat.le_of_ble_eq_true rfl) (S_X0_go hb1.2.2.2.2.2.2.2.2.2.1) ?_
      (rw [show M0_0 = U_X0_go (a + 4) x1 x2 M from (e_M0_0.trans (if_pos h8_0))] at j37_0; exact j37_0)
    · refine r_aload_n e_X2_arrive_11 rfl ?_
      refine r_getR e_X2_arrive_12 fl_X2_27 k0 k1 ?_
      refine r_iload_n e_X2_arrive_15 rfl ?_
      refine r_iload_n e_X2_arrive_16 rfl ?_
      refine r_iload_n e_X2_arrive_17 rfl ?_
      refine r_aload_n e_X2_arrive_18 rfl ?_
      refine r_getI e_X2_arrive_19 fl_X2_42 i0 k0 ?_
      refine cV4u e_X2_arrive_22 cl_X2_235 ⟨Nat.le_of_ble_eq_true rfl, Nat.le_of_ble_eq_true rfl⟩ ⟨rfl, rfl⟩ k2 (Nat.le_of_ble_eq_true rfl) (S_X0_hold hb1.2.2.2.2.2.2.2.2.2.1) ?_
      refine r_goto e_X2_arrive_25 ?_
      (rw [show M0_0 = U_X0_hold (a + 4) (V_X2_robotIn a x1 x2 M) x1 x2 (M.1 a 7) M from (e_M0_0.trans (if_neg h8_0))] at j37_0; exact j37_0)
  refine r_return e_X2_arrive_37 rfl ⟨rfl, rfl⟩ ?_
  (subst e_M0_0; refine ⟨?_, rfl, ?_⟩ <;> ((try unfold U_X2_arrive); (try simp only []); (try rfl)))
def U_X7_addGoal (a : Nat) (x1 : Int32) (x2 : Int32) (M : Mem) : Mem := (let v0_0 : Int32 := if x1 = 0 then x2 else (x2 + (1000 : Int32)); let M1_0 : Mem := if x1 = 0 then (setI (U_X10_put (a + 2) ((M.1 a 0) + (M.1 a 1)) v0_0 20 M) a 0 (((U_X10_put (a + 2) ((M.1 a 0) + (M.1 a 1)) v0_0 20 M).1 a 0) + (1 : Int32))) else (setI (U_X10_put (a + 2) ((M.1 a 0) + (M.1 a 1)) v0_0 20 M) a 1 (((U_X10_put (a + 2) ((M.1 a 0) + (M.1 a 1)) v0_0 20 M).1 a 1) + (1 : Int32))); M1_0)
theorem S_X7_addGoal {sh : List SC} {M : Mem} {a : Nat} {x1 : Int32} {x2 : Int32}  (hb1 : TallyAt sh a)  : Gu m_X7_addGoal [.ref a, .int x1, .int x2] sh M (U_X7_addGoal a x1 x2 M) := by
  refine Sp.of (ls := [some (.ref a), some (.int x1), some (.int x2)]) (by decide +kernel) (Nat.le_of_ble_eq_true rfl) rfl ?_
  have k0 : kd sh a = some (7 + 7, 0) := hb1.1
  have k1 : rf sh a 5 = some (a + 2) := hb1.2.2.1
  have k2 : kd sh (a + 2) = some (0, 20) := hb1.2.2.2.2
  refine r_aload_n e_X7_addGoal_0 rfl ?_
  refine r_getR e_X7_addGoal_1 fl_X7_26 k0 k1 ?_
  refine r_aload_n e_X7_addGoal_4 rfl ?_
  refine r_getI e_X7_addGoal_5 fl_X7_7 i0 k0 ?_
  refine r_aload_n e_X7_addGoal_8 rfl ?_
  refine r_getI e_X7_addGoal_9 fl_X7_13 i0 k0 ?_
  refine r_iadd e_X7_addGoal_12 ?_
  refine r_iload_n e_X7_addGoal_13 rfl ?_
  obtain ⟨v0_0, e_v0_0⟩ : ∃ z : Int32, z = (if x1 = 0 then x2 else (x2 + (1000 : Int32))) := ⟨_, rfl⟩
  suffices j26_0 : WP m_X7_addGoal (fun r sh' M'' => r = none ∧ sh' = sh ∧ M'' = (U_X7_addGoal a x1 x2 M)) 26 [some (.ref a), some (.int x1), some (.int x2)] [.int v0_0, .int ((M.1 a 0) + (M.1 a 1)), .ref (a + 2)] sh M 0 0 by
    refine r_if_eq e_X7_addGoal_14 (fun h14_0 => ?_) (fun h14_0 => ?_)
    · refine r_iload_n e_X7_addGoal_25 rfl ?_
      (rw [show v0_0 = x2 from (e_v0_0.trans (if_pos h14_0))] at j26_0; exact j26_0)
    · refine r_iload_n e_X7_addGoal_17 rfl ?_
      refine r_sipush e_X7_addGoal_18 sp_1000 ?_
      refine r_iadd e_X7_addGoal_21 ?_
      refine r_goto e_X7_addGoal_22 ?_
      (rw [show v0_0 = (x2 + (1000 : Int32)) from (e_v0_0.trans (if_neg h14_0))] at j26_0; exact j26_0)
  refine cSN3u e_X7_addGoal_26 cl_X7_41 ⟨Nat.le_of_ble_eq_true rfl, Nat.le_of_ble_eq_true rfl⟩ ⟨rfl, rfl⟩  (Nat.le_of_ble_eq_true rfl) (S_X10_put k2 (by first | decide | (unfold vp_in; decide) | exact Or.inl rfl | exact Or.inr rfl)) ?_
  refine r_iload_n e_X7_addGoal_29 rfl ?_
  obtain ⟨M1_0, e_M1_0⟩ : ∃ z : Mem, z = (if x1 = 0 then (setI (U_X10_put (a + 2) ((M.1 a 0) + (M.1 a 1)) v0_0 20 M) a 0 (((U_X10_put (a + 2) ((M.1 a 0) + (M.1 a 1)) v0_0 20 M).1 a 0) + (1 : Int32))) else (setI (U_X10_put (a + 2) ((M.1 a 0) + (M.1 a 1)) v0_0 20 M) a 1 (((U_X10_put (a + 2) ((M.1 a 0) + (M.1 a 1)) v0_0 20 M).1 a 1) + (1 : Int32)))) := ⟨_, rfl⟩
  suffices j56_1 : WP m_X7_addGoal (fun r sh' M'' => r = none ∧ sh' = sh ∧ M'' = (U_X7_addGoal a x1 x2 M)) 56 [some (.ref a), some (.int x1), some (.int x2)] [] sh M1_0 0 0 by
    refine r_if_eq e_X7_addGoal_30 (fun h30_1 => ?_) (fun h30_1 => ?_)
    · refine r_aload_n e_X7_addGoal_46 rfl ?_
      refine r_dup e_X7_addGoal_47 rfl ?_
      refine r_getI e_X7_addGoal_48 fl_X7_7 i0 k0 ?_
      refine r_iconst e_X7_addGoal_51 ic_1 ?_
      refine r_iadd e_X7_addGoal_52 ?_
      refine r_putI e_X7_addGoal_53 fl_X7_7 k0 ?_
      (rw [show M1_0 = setI (U_X10_put (a + 2) ((M.1 a 0) + (M.1 a 1)) v0_0 20 M) a 0 (((U_X10_put (a + 2) ((M.1 a 0) + (M.1 a 1)) v0_0 20 M).1 a 0) + (1 : Int32)) from (e_M1_0.trans (if_pos h30_1))] at j56_1; exact j56_1)
    · refine r_aload_n e_X7_addGoal_33 rfl ?_
      refine r_dup e_X7_addGoal_34 rfl ?_
      refine r_getI e_X7_addGoal_35 fl_X7_13 i0 k0 ?_
      refine r_iconst e_X7_addGoal_38 ic_1 ?_
      refine r_iadd e_X7_addGoal_39 ?_
      refine r_putI e_X7_addGoal_40 fl_X7_13 k0 ?_
      refine r_goto e_X7_addGoal_43 ?_
      (rw [show M1_0 = setI (U_X10_put (a + 2) ((M.1 a 0) + (M.1 a 1)) v0_0 20 M) a 1 (((U_X10_put (a + 2) ((M.1 a 0) + (M.1 a 1)) v0_0 20 M).1 a 1) + (1 : Int32)) from (e_M1_0.trans (if_neg h30_1))] at j56_1; exact j56_1)
  refine r_return e_X7_addGoal_56 rfl ⟨rfl, rfl⟩ ?_
  (subst e_M1_0 e_v0_0; refine ⟨?_, rfl, ?_⟩ <;> ((try unfold U_X7_addGoal); (try simp only []); (try rfl)))
def U_X7_addLaw (a : Nat) (x1 : Int32) (M : Mem) : Mem := U_X10_put (a + 1) x1 ((V_X10_at (a + 1) x1 4 M) + (1 : Int32)) 4 M
theorem S_X7_addLaw {sh : List SC} {M : Mem} {a : Nat} {x1 : Int32}  (hb1 : TallyAt sh a)  : Gu m_X7_addLaw [.ref a, .int x1] sh M (U_X7_addLaw a x1 M) := by
  refine Sp.of (ls := [some (.ref a), some (.int x1)]) (by decide +kernel) (Nat.le_of_ble_eq_true rfl) rfl ?_
  have k0 : kd sh a = some (7 + 7, 0) := hb1.1
  have k1 : rf sh a 4 = some (a + 1) := hb1.2.1
  have k2 : kd sh (a + 1) = some (0, 4) := hb1.2.2.2.1
  refine r_aload_n e_X7_addLaw_0 rfl ?_
  refine r_getR e_X7_addLaw_1 fl_X7_22 k0 k1 ?_
  refine r_iload_n e_X7_addLaw_4 rfl ?_
  refine r_aload_n e_X7_addLaw_5 rfl ?_
  refine r_getR e_X7_addLaw_6 fl_X7_22 k0 k1 ?_
  refine r_iload_n e_X7_addLaw_9 rfl ?_
  refine cSN2v e_X7_addLaw_10 cl_X7_35 ⟨Nat.le_of_ble_eq_true rfl, Nat.le_of_ble_eq_true rfl⟩ ⟨rfl, rfl⟩  (Nat.le_of_ble_eq_true rfl) (S_X10_at k2 (by first | decide | (unfold vp_in; decide) | exact Or.inl rfl | exact Or.inr rfl)) ?_
  refine r_iconst e_X7_addLaw_13 ic_1 ?_
  refine r_iadd e_X7_addLaw_14 ?_
  refine cSN3u e_X7_addLaw_15 cl_X7_41 ⟨Nat.le_of_ble_eq_true rfl, Nat.le_of_ble_eq_true rfl⟩ ⟨rfl, rfl⟩  (Nat.le_of_ble_eq_true rfl) (S_X10_put k2 (by first | decide | (unfold vp_in; decide) | exact Or.inl rfl | exact Or.inr rfl)) ?_
  refine r_return e_X7_addLaw_18 rfl ⟨rfl, rfl⟩ ?_
  (refine ⟨?_, rfl, ?_⟩ <;> ((try unfold U_X7_addLaw); (try simp only []); (try rfl)))
def V_X0_shown (a : Nat) (x1 : Int32) (M : Mem) : Int32 := if x1 = 0 then (M.1 a 0) else (if x1 = 1 then (M.1 a 1) else (if x1 = 2 then (M.1 a 2) else (if x1 = 3 then (M.1 a 4) else (if x1 = 4 then (let v0_0 : Int32 := if (M.1 a 4) ≤ 0 then (0 : Int32) else (M.1 a 5); v0_0) else (let v1_0 : Int32 := if (M.1 a 4) ≤ 0 then (0 : Int32) else (M.1 a 6); v1_0)))))
theorem S_X0_shown {sh : List SC} {M : Mem} {a : Nat} {x1 : Int32}  (hb1 : BallAt sh a)  : Gv m_X0_shown [.ref a, .int x1] sh M (.int (V_X0_shown a x1 M)) M := by
  refine Sp.of (ls := [some (.ref a), some (.int x1)]) (by decide +kernel) (Nat.le_of_ble_eq_true rfl) rfl ?_
  have k0 : kd sh a = some (0 + 7, 0) := hb1.1
  refine r_iload_n e_X0_shown_0 rfl ?_
  by_cases hs1_0 : x1 = 0
  · refine r_tabIn (tgt := 36) (off := 35) e_X0_shown_1 (by rw [hs1_0]; decide) (by rw [hs1_0]; decide) (by rw [hs1_0]; rfl) (by decide) ?_
    refine r_aload_n e_X0_shown_36 rfl ?_
    refine r_getI e_X0_shown_37 fl_X0_7 i0 k0 ?_
    refine r_ireturn e_X0_shown_40 rfl ⟨rfl, rfl⟩ ?_
    (refine ⟨?_, rfl, ?_⟩ <;> ((try unfold V_X0_shown); (try simp only [if_pos hs1_0]); (try rfl)))
  · by_cases hs1_1 : x1 = 1
    · refine r_tabIn (tgt := 41) (off := 40) e_X0_shown_1 (by rw [hs1_1]; decide) (by rw [hs1_1]; decide) (by rw [hs1_1]; rfl) (by decide) ?_
      refine r_aload_n e_X0_shown_41 rfl ?_
      refine r_getI e_X0_shown_42 fl_X0_13 i0 k0 ?_
      refine r_ireturn e_X0_shown_45 rfl ⟨rfl, rfl⟩ ?_
      (refine ⟨?_, rfl, ?_⟩ <;> ((try unfold V_X0_shown); (try simp only [if_neg hs1_0, if_pos hs1_1]); (try rfl)))
    · by_cases hs1_2 : x1 = 2
      · refine r_tabIn (tgt := 46) (off := 45) e_X0_shown_1 (by rw [hs1_2]; decide) (by rw [hs1_2]; decide) (by rw [hs1_2]; rfl) (by decide) ?_
        refine r_aload_n e_X0_shown_46 rfl ?_
        refine r_getI e_X0_shown_47 fl_X0_16 i0 k0 ?_
        refine r_ireturn e_X0_shown_50 rfl ⟨rfl, rfl⟩ ?_
        (refine ⟨?_, rfl, ?_⟩ <;> ((try unfold V_X0_shown); (try simp only [if_neg hs1_0, if_neg hs1_1, if_pos hs1_2]); (try rfl)))
      · by_cases hs1_3 : x1 = 3
        · refine r_tabIn (tgt := 51) (off := 50) e_X0_shown_1 (by rw [hs1_3]; decide) (by rw [hs1_3]; decide) (by rw [hs1_3]; rfl) (by decide) ?_
          refine r_aload_n e_X0_shown_51 rfl ?_
          refine r_getI e_X0_shown_52 fl_X0_22 i0 k0 ?_
          refine r_ireturn e_X0_shown_55 rfl ⟨rfl, rfl⟩ ?_
          (refine ⟨?_, rfl, ?_⟩ <;> ((try unfold V_X0_shown); (try simp only [if_neg hs1_0, if_neg hs1_1, if_neg hs1_2, if_pos hs1_3]); (try rfl)))
        · by_cases hs1_4 : x1 = 4
          · refine r_tabIn (tgt := 56) (off := 55) e_X0_shown_1 (by rw [hs1_4]; decide) (by rw [hs1_4]; decide) (by rw [hs1_4]; rfl) (by decide) ?_
            refine r_aload_n e_X0_shown_56 rfl ?_
            refine r_getI e_X0_shown_57 fl_X0_22 i0 k0 ?_
            obtain ⟨v0_0, e_v0_0⟩ : ∃ z : Int32, z = (if (M.1 a 4) ≤ 0 then (0 : Int32) else (M.1 a 5)) := ⟨_, rfl⟩
            suffices j71_0 : WP m_X0_shown (fun r sh' M'' => r = some (.int (V_X0_shown a x1 M)) ∧ sh' = sh ∧ M'' = M) 71 [some (.ref a), some (.int x1)] [.int v0_0] sh M 0 0 by
              refine r_if_le e_X0_shown_60 (fun h60_0 => ?_) (fun h60_0 => ?_)
              · refine r_iconst e_X0_shown_70 ic_0 ?_
                (rw [show v0_0 = (0 : Int32) from (e_v0_0.trans (if_pos h60_0))] at j71_0; exact j71_0)
              · refine r_aload_n e_X0_shown_63 rfl ?_
                refine r_getI e_X0_shown_64 fl_X0_25 i0 k0 ?_
                refine r_goto e_X0_shown_67 ?_
                (rw [show v0_0 = (M.1 a 5) from (e_v0_0.trans (if_neg h60_0))] at j71_0; exact j71_0)
            refine r_ireturn e_X0_shown_71 rfl ⟨rfl, rfl⟩ ?_
            (subst e_v0_0; refine ⟨?_, rfl, ?_⟩ <;> ((try unfold V_X0_shown); (try simp only [if_neg hs1_0, if_neg hs1_1, if_neg hs1_2, if_neg hs1_3, if_pos hs1_4]); (try rfl)))
          · refine r_tabOut (tgt := 72) e_X0_shown_1 (by have q0 := lv_neT hs1_0 (show (0 : Int32).toInt = 0 from rfl); have q1 := lv_neT hs1_1 (show (1 : Int32).toInt = 1 from rfl); have q2 := lv_neT hs1_2 (show (2 : Int32).toInt = 2 from rfl); have q3 := lv_neT hs1_3 (show (3 : Int32).toInt = 3 from rfl); have q4 := lv_neT hs1_4 (show (4 : Int32).toInt = 4 from rfl); omega) (by decide) ?_
            refine r_aload_n e_X0_shown_72 rfl ?_
            refine r_getI e_X0_shown_73 fl_X0_22 i0 k0 ?_
            obtain ⟨v1_0, e_v1_0⟩ : ∃ z : Int32, z = (if (M.1 a 4) ≤ 0 then (0 : Int32) else (M.1 a 6)) := ⟨_, rfl⟩
            suffices j87_1 : WP m_X0_shown (fun r sh' M'' => r = some (.int (V_X0_shown a x1 M)) ∧ sh' = sh ∧ M'' = M) 87 [some (.ref a), some (.int x1)] [.int v1_0] sh M 0 0 by
              refine r_if_le e_X0_shown_76 (fun h76_1 => ?_) (fun h76_1 => ?_)
              · refine r_iconst e_X0_shown_86 ic_0 ?_
                (rw [show v1_0 = (0 : Int32) from (e_v1_0.trans (if_pos h76_1))] at j87_1; exact j87_1)
              · refine r_aload_n e_X0_shown_79 rfl ?_
                refine r_getI e_X0_shown_80 fl_X0_28 i0 k0 ?_
                refine r_goto e_X0_shown_83 ?_
                (rw [show v1_0 = (M.1 a 6) from (e_v1_0.trans (if_neg h76_1))] at j87_1; exact j87_1)
            refine r_ireturn e_X0_shown_87 rfl ⟨rfl, rfl⟩ ?_
            (subst e_v1_0; refine ⟨?_, rfl, ?_⟩ <;> ((try unfold V_X0_shown); (try simp only [if_neg hs1_0, if_neg hs1_1, if_neg hs1_2, if_neg hs1_3, if_neg hs1_4]); (try rfl)))
def V_X5_shown (a : Nat) (x1 : Int32) (M : Mem) : Int32 := if x1 = 0 then (M.1 a 2) else (if x1 = 1 then (M.1 a 3) else (if x1 = 2 then (M.1 a 7) else (if x1 = 3 then (let v0_0 : Int32 := if (M.1 a 8) = 0 then (0 : Int32) else (1 : Int32); v0_0) else (if x1 = 4 then (V_X10_at (a + 1) (x1 - (4 : Int32)) 4 M) else (if x1 = 5 then (V_X10_at (a + 1) (x1 - (4 : Int32)) 4 M) else (if x1 = 6 then (V_X10_at (a + 1) (x1 - (4 : Int32)) 4 M) else (if x1 = 7 then (V_X10_at (a + 1) (x1 - (4 : Int32)) 4 M) else (if x1 = 8 then (M.1 a 10) else (if x1 = 9 then (M.1 a 11) else (if x1 = 10 then (M.1 a 14) else (V_X10_at (a + 1) (x1 - (4 : Int32)) 4 M)))))))))))
theorem S_X5_shown {sh : List SC} {M : Mem} {a : Nat} {x1 : Int32}  (hb1 : RobotAt sh a)  : Gv m_X5_shown [.ref a, .int x1] sh M (.int (V_X5_shown a x1 M)) M := by
  refine Sp.of (ls := [some (.ref a), some (.int x1)]) (by decide +kernel) (Nat.le_of_ble_eq_true rfl) rfl ?_
  have k0 : kd sh a = some (5 + 7, 0) := hb1.1
  have k1 : rf sh a 9 = some (a + 1) := hb1.2.1
  have k2 : kd sh (a + 1) = some (0, 4) := hb1.2.2
  refine r_iload_n e_X5_shown_0 rfl ?_
  by_cases hs1_0 : x1 = 0
  · refine r_tabIn (tgt := 60) (off := 59) e_X5_shown_1 (by rw [hs1_0]; decide) (by rw [hs1_0]; decide) (by rw [hs1_0]; rfl) (by decide) ?_
    refine r_aload_n e_X5_shown_60 rfl ?_
    refine r_getI e_X5_shown_61 fl_X5_11 i0 k0 ?_
    refine r_ireturn e_X5_shown_64 rfl ⟨rfl, rfl⟩ ?_
    (refine ⟨?_, rfl, ?_⟩ <;> ((try unfold V_X5_shown); (try simp only [if_pos hs1_0]); (try rfl)))
  · by_cases hs1_1 : x1 = 1
    · refine r_tabIn (tgt := 65) (off := 64) e_X5_shown_1 (by rw [hs1_1]; decide) (by rw [hs1_1]; decide) (by rw [hs1_1]; rfl) (by decide) ?_
      refine r_aload_n e_X5_shown_65 rfl ?_
      refine r_getI e_X5_shown_66 fl_X5_15 i0 k0 ?_
      refine r_ireturn e_X5_shown_69 rfl ⟨rfl, rfl⟩ ?_
      (refine ⟨?_, rfl, ?_⟩ <;> ((try unfold V_X5_shown); (try simp only [if_neg hs1_0, if_pos hs1_1]); (try rfl)))
    · by_cases hs1_2 : x1 = 2
      · refine r_tabIn (tgt := 70) (off := 69) e_X5_shown_1 (by rw [hs1_2]; decide) (by rw [hs1_2]; decide) (by rw [hs1_2]; rfl) (by decide) ?_
        refine r_aload_n e_X5_shown_70 rfl ?_
        refine r_getI e_X5_shown_71 fl_X5_27 i0 k0 ?_
        refine r_ireturn e_X5_shown_74 rfl ⟨rfl, rfl⟩ ?_
        (refine ⟨?_, rfl, ?_⟩ <;> ((try unfold V_X5_shown); (try simp only [if_neg hs1_0, if_neg hs1_1, if_pos hs1_2]); (try rfl)))
      · by_cases hs1_3 : x1 = 3
        · refine r_tabIn (tgt := 75) (off := 74) e_X5_shown_1 (by rw [hs1_3]; decide) (by rw [hs1_3]; decide) (by rw [hs1_3]; rfl) (by decide) ?_
          refine r_aload_n e_X5_shown_75 rfl ?_
          refine r_getI e_X5_shown_76 fl_X5_30 i3 k0 ?_
          obtain ⟨v0_0, e_v0_0⟩ : ∃ z : Int32, z = (if (M.1 a 8) = 0 then (0 : Int32) else (1 : Int32)) := ⟨_, rfl⟩
          have z_v0_0 : v0_0 = 0 ∨ v0_0 = 1 := by rw [e_v0_0]; exact (zi (Or.inl rfl) (Or.inr rfl))
          suffices j87_0 : WP m_X5_shown (fun r sh' M'' => r = some (.int (V_X5_shown a x1 M)) ∧ sh' = sh ∧ M'' = M) 87 [some (.ref a), some (.int x1)] [.int v0_0] sh M 0 0 by
            refine r_if_eq e_X5_shown_79 (fun h79_0 => ?_) (fun h79_0 => ?_)
            · refine r_iconst e_X5_shown_86 ic_0 ?_
              (rw [show v0_0 = (0 : Int32) from (e_v0_0.trans (if_pos h79_0))] at j87_0; exact j87_0)
            · refine r_iconst e_X5_shown_82 ic_1 ?_
              refine r_goto e_X5_shown_83 ?_
              (rw [show v0_0 = (1 : Int32) from (e_v0_0.trans (if_neg h79_0))] at j87_0; exact j87_0)
          refine r_ireturn e_X5_shown_87 rfl ⟨rfl, rfl⟩ ?_
          (subst e_v0_0; refine ⟨?_, rfl, ?_⟩ <;> ((try unfold V_X5_shown); (try simp only [if_neg hs1_0, if_neg hs1_1, if_neg hs1_2, if_pos hs1_3]); (try rfl)))
        · by_cases hs1_4 : x1 = 4
          · refine r_tabIn (tgt := 103) (off := 102) e_X5_shown_1 (by rw [hs1_4]; decide) (by rw [hs1_4]; decide) (by rw [hs1_4]; rfl) (by decide) ?_
            refine r_aload_n e_X5_shown_103 rfl ?_
            refine r_getR e_X5_shown_104 fl_X5_34 k0 k1 ?_
            refine r_iload_n e_X5_shown_107 rfl ?_
            refine r_iconst e_X5_shown_108 ic_4 ?_
            refine r_isub e_X5_shown_109 ?_
            refine cSN2v e_X5_shown_110 cl_X5_72 ⟨Nat.le_of_ble_eq_true rfl, Nat.le_of_ble_eq_true rfl⟩ ⟨rfl, rfl⟩  (Nat.le_of_ble_eq_true rfl) (S_X10_at k2 (by first | decide | (unfold vp_in; decide) | exact Or.inl rfl | exact Or.inr rfl)) ?_
            refine r_ireturn e_X5_shown_113 rfl ⟨rfl, rfl⟩ ?_
            (refine ⟨?_, rfl, ?_⟩ <;> ((try unfold V_X5_shown); (try simp only [if_neg hs1_0, if_neg hs1_1, if_neg hs1_2, if_neg hs1_3, if_pos hs1_4]); (try rfl)))
          · by_cases hs1_5 : x1 = 5
            · refine r_tabIn (tgt := 103) (off := 102) e_X5_shown_1 (by rw [hs1_5]; decide) (by rw [hs1_5]; decide) (by rw [hs1_5]; rfl) (by decide) ?_
              refine r_aload_n e_X5_shown_103 rfl ?_
              refine r_getR e_X5_shown_104 fl_X5_34 k0 k1 ?_
              refine r_iload_n e_X5_shown_107 rfl ?_
              refine r_iconst e_X5_shown_108 ic_4 ?_
              refine r_isub e_X5_shown_109 ?_
              refine cSN2v e_X5_shown_110 cl_X5_72 ⟨Nat.le_of_ble_eq_true rfl, Nat.le_of_ble_eq_true rfl⟩ ⟨rfl, rfl⟩  (Nat.le_of_ble_eq_true rfl) (S_X10_at k2 (by first | decide | (unfold vp_in; decide) | exact Or.inl rfl | exact Or.inr rfl)) ?_
              refine r_ireturn e_X5_shown_113 rfl ⟨rfl, rfl⟩ ?_
              (refine ⟨?_, rfl, ?_⟩ <;> ((try unfold V_X5_shown); (try simp only [if_neg hs1_0, if_neg hs1_1, if_neg hs1_2, if_neg hs1_3, if_neg hs1_4, if_pos hs1_5]); (try rfl)))
            · by_cases hs1_6 : x1 = 6
              · refine r_tabIn (tgt := 103) (off := 102) e_X5_shown_1 (by rw [hs1_6]; decide) (by rw [hs1_6]; decide) (by rw [hs1_6]; rfl) (by decide) ?_
                refine r_aload_n e_X5_shown_103 rfl ?_
                refine r_getR e_X5_shown_104 fl_X5_34 k0 k1 ?_
                refine r_iload_n e_X5_shown_107 rfl ?_
                refine r_iconst e_X5_shown_108 ic_4 ?_
                refine r_isub e_X5_shown_109 ?_
                refine cSN2v e_X5_shown_110 cl_X5_72 ⟨Nat.le_of_ble_eq_true rfl, Nat.le_of_ble_eq_true rfl⟩ ⟨rfl, rfl⟩  (Nat.le_of_ble_eq_true rfl) (S_X10_at k2 (by first | decide | (unfold vp_in; decide) | exact Or.inl rfl | exact Or.inr rfl)) ?_
                refine r_ireturn e_X5_shown_113 rfl ⟨rfl, rfl⟩ ?_
                (refine ⟨?_, rfl, ?_⟩ <;> ((try unfold V_X5_shown); (try simp only [if_neg hs1_0, if_neg hs1_1, if_neg hs1_2, if_neg hs1_3, if_neg hs1_4, if_neg hs1_5, if_pos hs1_6]); (try rfl)))
              · by_cases hs1_7 : x1 = 7
                · refine r_tabIn (tgt := 103) (off := 102) e_X5_shown_1 (by rw [hs1_7]; decide) (by rw [hs1_7]; decide) (by rw [hs1_7]; rfl) (by decide) ?_
                  refine r_aload_n e_X5_shown_103 rfl ?_
                  refine r_getR e_X5_shown_104 fl_X5_34 k0 k1 ?_
                  refine r_iload_n e_X5_shown_107 rfl ?_
                  refine r_iconst e_X5_shown_108 ic_4 ?_
                  refine r_isub e_X5_shown_109 ?_
                  refine cSN2v e_X5_shown_110 cl_X5_72 ⟨Nat.le_of_ble_eq_true rfl, Nat.le_of_ble_eq_true rfl⟩ ⟨rfl, rfl⟩  (Nat.le_of_ble_eq_true rfl) (S_X10_at k2 (by first | decide | (unfold vp_in; decide) | exact Or.inl rfl | exact Or.inr rfl)) ?_
                  refine r_ireturn e_X5_shown_113 rfl ⟨rfl, rfl⟩ ?_
                  (refine ⟨?_, rfl, ?_⟩ <;> ((try unfold V_X5_shown); (try simp only [if_neg hs1_0, if_neg hs1_1, if_neg hs1_2, if_neg hs1_3, if_neg hs1_4, if_neg hs1_5, if_neg hs1_6, if_pos hs1_7]); (try rfl)))
                · by_cases hs1_8 : x1 = 8
                  · refine r_tabIn (tgt := 88) (off := 87) e_X5_shown_1 (by rw [hs1_8]; decide) (by rw [hs1_8]; decide) (by rw [hs1_8]; rfl) (by decide) ?_
                    refine r_aload_n e_X5_shown_88 rfl ?_
                    refine r_getI e_X5_shown_89 fl_X5_38 i0 k0 ?_
                    refine r_ireturn e_X5_shown_92 rfl ⟨rfl, rfl⟩ ?_
                    (refine ⟨?_, rfl, ?_⟩ <;> ((try unfold V_X5_shown); (try simp only [if_neg hs1_0, if_neg hs1_1, if_neg hs1_2, if_neg hs1_3, if_neg hs1_4, if_neg hs1_5, if_neg hs1_6, if_neg hs1_7, if_pos hs1_8]); (try rfl)))
                  · by_cases hs1_9 : x1 = 9
                    · refine r_tabIn (tgt := 93) (off := 92) e_X5_shown_1 (by rw [hs1_9]; decide) (by rw [hs1_9]; decide) (by rw [hs1_9]; rfl) (by decide) ?_
                      refine r_aload_n e_X5_shown_93 rfl ?_
                      refine r_getI e_X5_shown_94 fl_X5_41 i0 k0 ?_
                      refine r_ireturn e_X5_shown_97 rfl ⟨rfl, rfl⟩ ?_
                      (refine ⟨?_, rfl, ?_⟩ <;> ((try unfold V_X5_shown); (try simp only [if_neg hs1_0, if_neg hs1_1, if_neg hs1_2, if_neg hs1_3, if_neg hs1_4, if_neg hs1_5, if_neg hs1_6, if_neg hs1_7, if_neg hs1_8, if_pos hs1_9]); (try rfl)))
                    · by_cases hs1_10 : x1 = 10
                      · refine r_tabIn (tgt := 98) (off := 97) e_X5_shown_1 (by rw [hs1_10]; decide) (by rw [hs1_10]; decide) (by rw [hs1_10]; rfl) (by decide) ?_
                        refine r_aload_n e_X5_shown_98 rfl ?_
                        refine r_getI e_X5_shown_99 fl_X5_50 i0 k0 ?_
                        refine r_ireturn e_X5_shown_102 rfl ⟨rfl, rfl⟩ ?_
                        (refine ⟨?_, rfl, ?_⟩ <;> ((try unfold V_X5_shown); (try simp only [if_neg hs1_0, if_neg hs1_1, if_neg hs1_2, if_neg hs1_3, if_neg hs1_4, if_neg hs1_5, if_neg hs1_6, if_neg hs1_7, if_neg hs1_8, if_neg hs1_9, if_pos hs1_10]); (try rfl)))
                      · refine r_tabOut (tgt := 103) e_X5_shown_1 (by have q0 := lv_neT hs1_0 (show (0 : Int32).toInt = 0 from rfl); have q1 := lv_neT hs1_1 (show (1 : Int32).toInt = 1 from rfl); have q2 := lv_neT hs1_2 (show (2 : Int32).toInt = 2 from rfl); have q3 := lv_neT hs1_3 (show (3 : Int32).toInt = 3 from rfl); have q4 := lv_neT hs1_4 (show (4 : Int32).toInt = 4 from rfl); have q5 := lv_neT hs1_5 (show (5 : Int32).toInt = 5 from rfl); have q6 := lv_neT hs1_6 (show (6 : Int32).toInt = 6 from rfl); have q7 := lv_neT hs1_7 (show (7 : Int32).toInt = 7 from rfl); have q8 := lv_neT hs1_8 (show (8 : Int32).toInt = 8 from rfl); have q9 := lv_neT hs1_9 (show (9 : Int32).toInt = 9 from rfl); have q10 := lv_neT hs1_10 (show (10 : Int32).toInt = 10 from rfl); omega) (by decide) ?_
                        refine r_aload_n e_X5_shown_103 rfl ?_
                        refine r_getR e_X5_shown_104 fl_X5_34 k0 k1 ?_
                        refine r_iload_n e_X5_shown_107 rfl ?_
                        refine r_iconst e_X5_shown_108 ic_4 ?_
                        refine r_isub e_X5_shown_109 ?_
                        refine cSN2v e_X5_shown_110 cl_X5_72 ⟨Nat.le_of_ble_eq_true rfl, Nat.le_of_ble_eq_true rfl⟩ ⟨rfl, rfl⟩  (Nat.le_of_ble_eq_true rfl) (S_X10_at k2 (by first | decide | (unfold vp_in; decide) | exact Or.inl rfl | exact Or.inr rfl)) ?_
                        refine r_ireturn e_X5_shown_113 rfl ⟨rfl, rfl⟩ ?_
                        (refine ⟨?_, rfl, ?_⟩ <;> ((try unfold V_X5_shown); (try simp only [if_neg hs1_0, if_neg hs1_1, if_neg hs1_2, if_neg hs1_3, if_neg hs1_4, if_neg hs1_5, if_neg hs1_6, if_neg hs1_7, if_neg hs1_8, if_neg hs1_9, if_neg hs1_10]); (try rfl)))
def V_X7_shown (a : Nat) (x1 : Int32) (M : Mem) : Int32 := if x1 = 1 then (M.1 a 0) else (if x1 = 2 then (M.1 a 1) else (if x1 = 3 then (V_X10_at (a + 1) (x1 - (3 : Int32)) 4 M) else (if x1 = 4 then (V_X10_at (a + 1) (x1 - (3 : Int32)) 4 M) else (if x1 = 5 then (V_X10_at (a + 1) (x1 - (3 : Int32)) 4 M) else (if x1 = 6 then (V_X10_at (a + 1) (x1 - (3 : Int32)) 4 M) else (if x1 = 7 then (M.1 a 2) else (if x1 = 8 then (M.1 a 3) else (V_X10_at (a + 1) (x1 - (3 : Int32)) 4 M))))))))
theorem S_X7_shown {sh : List SC} {M : Mem} {a : Nat} {x1 : Int32}  (hb1 : TallyAt sh a)  : Gv m_X7_shown [.ref a, .int x1] sh M (.int (V_X7_shown a x1 M)) M := by
  refine Sp.of (ls := [some (.ref a), some (.int x1)]) (by decide +kernel) (Nat.le_of_ble_eq_true rfl) rfl ?_
  have k0 : kd sh a = some (7 + 7, 0) := hb1.1
  have k1 : rf sh a 4 = some (a + 1) := hb1.2.1
  have k2 : kd sh (a + 1) = some (0, 4) := hb1.2.2.2.1
  refine r_iload_n e_X7_shown_0 rfl ?_
  by_cases hs1_1 : x1 = 1
  · refine r_tabIn (tgt := 48) (off := 47) e_X7_shown_1 (by rw [hs1_1]; decide) (by rw [hs1_1]; decide) (by rw [hs1_1]; rfl) (by decide) ?_
    refine r_aload_n e_X7_shown_48 rfl ?_
    refine r_getI e_X7_shown_49 fl_X7_7 i0 k0 ?_
    refine r_ireturn e_X7_shown_52 rfl ⟨rfl, rfl⟩ ?_
    (refine ⟨?_, rfl, ?_⟩ <;> ((try unfold V_X7_shown); (try simp only [if_pos hs1_1]); (try rfl)))
  · by_cases hs1_2 : x1 = 2
    · refine r_tabIn (tgt := 53) (off := 52) e_X7_shown_1 (by rw [hs1_2]; decide) (by rw [hs1_2]; decide) (by rw [hs1_2]; rfl) (by decide) ?_
      refine r_aload_n e_X7_shown_53 rfl ?_
      refine r_getI e_X7_shown_54 fl_X7_13 i0 k0 ?_
      refine r_ireturn e_X7_shown_57 rfl ⟨rfl, rfl⟩ ?_
      (refine ⟨?_, rfl, ?_⟩ <;> ((try unfold V_X7_shown); (try simp only [if_neg hs1_1, if_pos hs1_2]); (try rfl)))
    · by_cases hs1_3 : x1 = 3
      · refine r_tabIn (tgt := 68) (off := 67) e_X7_shown_1 (by rw [hs1_3]; decide) (by rw [hs1_3]; decide) (by rw [hs1_3]; rfl) (by decide) ?_
        refine r_aload_n e_X7_shown_68 rfl ?_
        refine r_getR e_X7_shown_69 fl_X7_22 k0 k1 ?_
        refine r_iload_n e_X7_shown_72 rfl ?_
        refine r_iconst e_X7_shown_73 ic_3 ?_
        refine r_isub e_X7_shown_74 ?_
        refine cSN2v e_X7_shown_75 cl_X7_35 ⟨Nat.le_of_ble_eq_true rfl, Nat.le_of_ble_eq_true rfl⟩ ⟨rfl, rfl⟩  (Nat.le_of_ble_eq_true rfl) (S_X10_at k2 (by first | decide | (unfold vp_in; decide) | exact Or.inl rfl | exact Or.inr rfl)) ?_
        refine r_ireturn e_X7_shown_78 rfl ⟨rfl, rfl⟩ ?_
        (refine ⟨?_, rfl, ?_⟩ <;> ((try unfold V_X7_shown); (try simp only [if_neg hs1_1, if_neg hs1_2, if_pos hs1_3]); (try rfl)))
      · by_cases hs1_4 : x1 = 4
        · refine r_tabIn (tgt := 68) (off := 67) e_X7_shown_1 (by rw [hs1_4]; decide) (by rw [hs1_4]; decide) (by rw [hs1_4]; rfl) (by decide) ?_
          refine r_aload_n e_X7_shown_68 rfl ?_
          refine r_getR e_X7_shown_69 fl_X7_22 k0 k1 ?_
          refine r_iload_n e_X7_shown_72 rfl ?_
          refine r_iconst e_X7_shown_73 ic_3 ?_
          refine r_isub e_X7_shown_74 ?_
          refine cSN2v e_X7_shown_75 cl_X7_35 ⟨Nat.le_of_ble_eq_true rfl, Nat.le_of_ble_eq_true rfl⟩ ⟨rfl, rfl⟩  (Nat.le_of_ble_eq_true rfl) (S_X10_at k2 (by first | decide | (unfold vp_in; decide) | exact Or.inl rfl | exact Or.inr rfl)) ?_
          refine r_ireturn e_X7_shown_78 rfl ⟨rfl, rfl⟩ ?_
          (refine ⟨?_, rfl, ?_⟩ <;> ((try unfold V_X7_shown); (try simp only [if_neg hs1_1, if_neg hs1_2, if_neg hs1_3, if_pos hs1_4]); (try rfl)))
        · by_cases hs1_5 : x1 = 5
          · refine r_tabIn (tgt := 68) (off := 67) e_X7_shown_1 (by rw [hs1_5]; decide) (by rw [hs1_5]; decide) (by rw [hs1_5]; rfl) (by decide) ?_
            refine r_aload_n e_X7_shown_68 rfl ?_
            refine r_getR e_X7_shown_69 fl_X7_22 k0 k1 ?_
            refine r_iload_n e_X7_shown_72 rfl ?_
            refine r_iconst e_X7_shown_73 ic_3 ?_
            refine r_isub e_X7_shown_74 ?_
            refine cSN2v e_X7_shown_75 cl_X7_35 ⟨Nat.le_of_ble_eq_true rfl, Nat.le_of_ble_eq_true rfl⟩ ⟨rfl, rfl⟩  (Nat.le_of_ble_eq_true rfl) (S_X10_at k2 (by first | decide | (unfold vp_in; decide) | exact Or.inl rfl | exact Or.inr rfl)) ?_
            refine r_ireturn e_X7_shown_78 rfl ⟨rfl, rfl⟩ ?_
            (refine ⟨?_, rfl, ?_⟩ <;> ((try unfold V_X7_shown); (try simp only [if_neg hs1_1, if_neg hs1_2, if_neg hs1_3, if_neg hs1_4, if_pos hs1_5]); (try rfl)))
          · by_cases hs1_6 : x1 = 6
            · refine r_tabIn (tgt := 68) (off := 67) e_X7_shown_1 (by rw [hs1_6]; decide) (by rw [hs1_6]; decide) (by rw [hs1_6]; rfl) (by decide) ?_
              refine r_aload_n e_X7_shown_68 rfl ?_
              refine r_getR e_X7_shown_69 fl_X7_22 k0 k1 ?_
              refine r_iload_n e_X7_shown_72 rfl ?_
              refine r_iconst e_X7_shown_73 ic_3 ?_
              refine r_isub e_X7_shown_74 ?_
              refine cSN2v e_X7_shown_75 cl_X7_35 ⟨Nat.le_of_ble_eq_true rfl, Nat.le_of_ble_eq_true rfl⟩ ⟨rfl, rfl⟩  (Nat.le_of_ble_eq_true rfl) (S_X10_at k2 (by first | decide | (unfold vp_in; decide) | exact Or.inl rfl | exact Or.inr rfl)) ?_
              refine r_ireturn e_X7_shown_78 rfl ⟨rfl, rfl⟩ ?_
              (refine ⟨?_, rfl, ?_⟩ <;> ((try unfold V_X7_shown); (try simp only [if_neg hs1_1, if_neg hs1_2, if_neg hs1_3, if_neg hs1_4, if_neg hs1_5, if_pos hs1_6]); (try rfl)))
            · by_cases hs1_7 : x1 = 7
              · refine r_tabIn (tgt := 58) (off := 57) e_X7_shown_1 (by rw [hs1_7]; decide) (by rw [hs1_7]; decide) (by rw [hs1_7]; rfl) (by decide) ?_
                refine r_aload_n e_X7_shown_58 rfl ?_
                refine r_getI e_X7_shown_59 fl_X7_16 i0 k0 ?_
                refine r_ireturn e_X7_shown_62 rfl ⟨rfl, rfl⟩ ?_
                (refine ⟨?_, rfl, ?_⟩ <;> ((try unfold V_X7_shown); (try simp only [if_neg hs1_1, if_neg hs1_2, if_neg hs1_3, if_neg hs1_4, if_neg hs1_5, if_neg hs1_6, if_pos hs1_7]); (try rfl)))
              · by_cases hs1_8 : x1 = 8
                · refine r_tabIn (tgt := 63) (off := 62) e_X7_shown_1 (by rw [hs1_8]; decide) (by rw [hs1_8]; decide) (by rw [hs1_8]; rfl) (by decide) ?_
                  refine r_aload_n e_X7_shown_63 rfl ?_
                  refine r_getI e_X7_shown_64 fl_X7_19 i0 k0 ?_
                  refine r_ireturn e_X7_shown_67 rfl ⟨rfl, rfl⟩ ?_
                  (refine ⟨?_, rfl, ?_⟩ <;> ((try unfold V_X7_shown); (try simp only [if_neg hs1_1, if_neg hs1_2, if_neg hs1_3, if_neg hs1_4, if_neg hs1_5, if_neg hs1_6, if_neg hs1_7, if_pos hs1_8]); (try rfl)))
                · refine r_tabOut (tgt := 68) e_X7_shown_1 (by have q0 := lv_neT hs1_1 (show (1 : Int32).toInt = 1 from rfl); have q1 := lv_neT hs1_2 (show (2 : Int32).toInt = 2 from rfl); have q2 := lv_neT hs1_3 (show (3 : Int32).toInt = 3 from rfl); have q3 := lv_neT hs1_4 (show (4 : Int32).toInt = 4 from rfl); have q4 := lv_neT hs1_5 (show (5 : Int32).toInt = 5 from rfl); have q5 := lv_neT hs1_6 (show (6 : Int32).toInt = 6 from rfl); have q6 := lv_neT hs1_7 (show (7 : Int32).toInt = 7 from rfl); have q7 := lv_neT hs1_8 (show (8 : Int32).toInt = 8 from rfl); omega) (by decide) ?_
                  refine r_aload_n e_X7_shown_68 rfl ?_
                  refine r_getR e_X7_shown_69 fl_X7_22 k0 k1 ?_
                  refine r_iload_n e_X7_shown_72 rfl ?_
                  refine r_iconst e_X7_shown_73 ic_3 ?_
                  refine r_isub e_X7_shown_74 ?_
                  refine cSN2v e_X7_shown_75 cl_X7_35 ⟨Nat.le_of_ble_eq_true rfl, Nat.le_of_ble_eq_true rfl⟩ ⟨rfl, rfl⟩  (Nat.le_of_ble_eq_true rfl) (S_X10_at k2 (by first | decide | (unfold vp_in; decide) | exact Or.inl rfl | exact Or.inr rfl)) ?_
                  refine r_ireturn e_X7_shown_78 rfl ⟨rfl, rfl⟩ ?_
                  (refine ⟨?_, rfl, ?_⟩ <;> ((try unfold V_X7_shown); (try simp only [if_neg hs1_1, if_neg hs1_2, if_neg hs1_3, if_neg hs1_4, if_neg hs1_5, if_neg hs1_6, if_neg hs1_7, if_neg hs1_8]); (try rfl)))
def V_X7_listed (a : Nat) (M : Mem) : Int32 := (if ((M.1 a 0) + (M.1 a 1)) < (20 : Int32) then ((M.1 a 0) + (M.1 a 1)) else (20 : Int32))
theorem S_X7_listed {sh : List SC} {M : Mem} {a : Nat}  (hb1 : TallyAt sh a)  : Gv m_X7_listed [.ref a] sh M (.int (V_X7_listed a M)) M := by
  refine Sp.of (ls := [some (.ref a)]) (by decide +kernel) (Nat.le_of_ble_eq_true rfl) rfl ?_
  have k0 : kd sh a = some (7 + 7, 0) := hb1.1
  refine r_bipush e_X7_listed_0 bp_20 ?_
  refine r_aload_n e_X7_listed_2 rfl ?_
  refine r_getI e_X7_listed_3 fl_X7_7 i0 k0 ?_
  refine r_aload_n e_X7_listed_6 rfl ?_
  refine r_getI e_X7_listed_7 fl_X7_13 i0 k0 ?_
  refine r_iadd e_X7_listed_10 ?_
  refine r_mmin e_X7_listed_11 cl_X7_29 ⟨Nat.le_of_ble_eq_true rfl, Nat.le_of_ble_eq_true rfl, Nat.zero_le _, Nat.zero_le _⟩ (Nat.le_of_ble_eq_true rfl) ?_
  refine r_ireturn e_X7_listed_14 rfl ⟨rfl, rfl⟩ ?_
  (refine ⟨?_, rfl, ?_⟩ <;> ((try unfold V_X7_listed); (try simp only []); (try rfl)))
def V_X7_goalAt (a : Nat) (x1 : Int32) (M : Mem) : Int32 := (V_X10_at (a + 2) x1 20 M)
theorem S_X7_goalAt {sh : List SC} {M : Mem} {a : Nat} {x1 : Int32}  (hb1 : TallyAt sh a)  : Gv m_X7_goalAt [.ref a, .int x1] sh M (.int (V_X7_goalAt a x1 M)) M := by
  refine Sp.of (ls := [some (.ref a), some (.int x1)]) (by decide +kernel) (Nat.le_of_ble_eq_true rfl) rfl ?_
  have k0 : kd sh a = some (7 + 7, 0) := hb1.1
  have k1 : rf sh a 5 = some (a + 2) := hb1.2.2.1
  have k2 : kd sh (a + 2) = some (0, 20) := hb1.2.2.2.2
  refine r_aload_n e_X7_goalAt_0 rfl ?_
  refine r_getR e_X7_goalAt_1 fl_X7_26 k0 k1 ?_
  refine r_iload_n e_X7_goalAt_4 rfl ?_
  refine cSN2v e_X7_goalAt_5 cl_X7_35 ⟨Nat.le_of_ble_eq_true rfl, Nat.le_of_ble_eq_true rfl⟩ ⟨rfl, rfl⟩  (Nat.le_of_ble_eq_true rfl) (S_X10_at k2 (by first | decide | (unfold vp_in; decide) | exact Or.inl rfl | exact Or.inr rfl)) ?_
  refine r_ireturn e_X7_goalAt_8 rfl ⟨rfl, rfl⟩ ?_
  (refine ⟨?_, rfl, ?_⟩ <;> ((try unfold V_X7_goalAt); (try simp only []); (try rfl)))
def V_X10_isPlace (x1 : Int32) (M : Mem) : Int32 := (let v0_0 : Int32 := if x1 < 0 then (0 : Int32) else (if (2 : Int32) ≤ x1 then (0 : Int32) else (1 : Int32)); v0_0)
theorem Z_X10_isPlace {M : Mem} {x1 : Int32}   : V_X10_isPlace x1 M = 0 ∨ V_X10_isPlace x1 M = 1 := (zi (Or.inl rfl) (zi (Or.inl rfl) (Or.inr rfl)))
theorem S_X10_isPlace {sh : List SC} {M : Mem} {x1 : Int32}    : Gv m_X10_isPlace [.int x1] sh M (.int (V_X10_isPlace x1 M)) M := by
  refine Sp.of (ls := [some (.int x1)]) (by decide +kernel) (Nat.le_of_ble_eq_true rfl) rfl ?_
  refine r_iload_n e_X10_isPlace_0 rfl ?_
  obtain ⟨v0_0, e_v0_0⟩ : ∃ z : Int32, z = (if x1 < 0 then (0 : Int32) else (if (2 : Int32) ≤ x1 then (0 : Int32) else (1 : Int32))) := ⟨_, rfl⟩
  have z_v0_0 : v0_0 = 0 ∨ v0_0 = 1 := by rw [e_v0_0]; exact (zi (Or.inl rfl) (zi (Or.inl rfl) (Or.inr rfl)))
  suffices j14_0 : WP m_X10_isPlace (fun r sh' M'' => r = some (.int (V_X10_isPlace x1 M)) ∧ sh' = sh ∧ M'' = M) 14 [some (.int x1)] [.int v0_0] sh M 0 0 by
    refine r_if_lt e_X10_isPlace_1 (fun h1_0 => ?_) (fun h1_0 => ?_)
    · refine r_iconst e_X10_isPlace_13 ic_0 ?_
      (rw [show v0_0 = (0 : Int32) from (e_v0_0.trans (if_pos h1_0))] at j14_0; exact j14_0)
    · refine r_iload_n e_X10_isPlace_4 rfl ?_
      refine r_iconst e_X10_isPlace_5 ic_2 ?_
      refine r_icmp_ge e_X10_isPlace_6 (fun h6_1 => ?_) (fun h6_1 => ?_)
      · refine r_iconst e_X10_isPlace_13 ic_0 ?_
        (rw [show v0_0 = (0 : Int32) from ((e_v0_0.trans (if_neg h1_0)).trans (if_pos h6_1))] at j14_0; exact j14_0)
      · refine r_iconst e_X10_isPlace_9 ic_1 ?_
        refine r_goto e_X10_isPlace_10 ?_
        (rw [show v0_0 = (1 : Int32) from ((e_v0_0.trans (if_neg h1_0)).trans (if_neg h6_1))] at j14_0; exact j14_0)
  refine r_zreturn e_X10_isPlace_14 rfl ⟨rfl, rfl⟩ z_v0_0 ?_
  (subst e_v0_0; refine ⟨?_, rfl, ?_⟩ <;> ((try unfold V_X10_isPlace); (try simp only []); (try rfl)))
def U_X0_copy (a : Nat) (x1 : Nat) (M : Mem) : Mem := cpyI (cpyI (setI (setI (setI (setI (setI (setI (setI (setI (setI (setI M a 0 (M.1 x1 0)) a 1 (M.1 x1 1)) a 2 (M.1 x1 2)) a 3 (M.1 x1 3)) a 4 (M.1 x1 4)) a 5 (M.1 x1 5)) a 6 (M.1 x1 6)) a 7 (M.1 x1 7)) a 8 (M.1 x1 8)) a 9 (M.1 x1 9)) (x1 + 1) (a + 1) 4) (x1 + 2) (a + 2) 4
theorem S_X0_copy {sh : List SC} {M : Mem} {a : Nat} {x1 : Nat}  (hb1 : BallAt sh a) (hb2 : BallAt sh x1)  : Gu m_X0_copy [.ref a, .ref x1] sh M (U_X0_copy a x1 M) := by
  refine Sp.of (ls := [some (.ref a), some (.ref x1)]) (by decide +kernel) (Nat.le_of_ble_eq_true rfl) rfl ?_
  have k0 : kd sh x1 = some (0 + 7, 0) := hb2.1
  have k1 : kd sh a = some (0 + 7, 0) := hb1.1
  have k2 : rf sh x1 10 = some (x1 + 1) := hb2.2.1
  have k3 : kd sh (x1 + 1) = some (0, 4) := hb2.2.2.2.1
  have k4 : rf sh a 10 = some (a + 1) := hb1.2.1
  have k5 : kd sh (a + 1) = some (0, 4) := hb1.2.2.2.1
  have k6 : rf sh x1 11 = some (x1 + 2) := hb2.2.2.1
  have k7 : kd sh (x1 + 2) = some (0, 4) := hb2.2.2.2.2
  have k8 : rf sh a 11 = some (a + 2) := hb1.2.2.1
  have k9 : kd sh (a + 2) = some (0, 4) := hb1.2.2.2.2
  refine r_aload_n e_X0_copy_0 rfl ?_
  refine r_aload_n e_X0_copy_1 rfl ?_
  refine r_getI e_X0_copy_2 fl_X0_7 i0 k0 ?_
  refine r_putI e_X0_copy_5 fl_X0_7 k1 ?_
  refine r_aload_n e_X0_copy_8 rfl ?_
  refine r_aload_n e_X0_copy_9 rfl ?_
  refine r_getIe e_X0_copy_10 fl_X0_13 i0 k0 (gs_nI (by decide)) ?_
  refine r_putI e_X0_copy_13 fl_X0_13 k1 ?_
  refine r_aload_n e_X0_copy_16 rfl ?_
  refine r_aload_n e_X0_copy_17 rfl ?_
  refine r_getIe e_X0_copy_18 fl_X0_16 i0 k0 ((gs_nI (by decide)).trans (gs_nI (by decide))) ?_
  refine r_putI e_X0_copy_21 fl_X0_16 k1 ?_
  refine r_aload_n e_X0_copy_24 rfl ?_
  refine r_aload_n e_X0_copy_25 rfl ?_
  refine r_getIe e_X0_copy_26 fl_X0_19 i0 k0 ((gs_nI (by decide)).trans ((gs_nI (by decide)).trans (gs_nI (by decide)))) ?_
  refine r_putI e_X0_copy_29 fl_X0_19 k1 ?_
  refine r_aload_n e_X0_copy_32 rfl ?_
  refine r_aload_n e_X0_copy_33 rfl ?_
  refine r_getIe e_X0_copy_34 fl_X0_22 i0 k0 ((gs_nI (by decide)).trans ((gs_nI (by decide)).trans ((gs_nI (by decide)).trans (gs_nI (by decide))))) ?_
  refine r_putI e_X0_copy_37 fl_X0_22 k1 ?_
  refine r_aload_n e_X0_copy_40 rfl ?_
  refine r_aload_n e_X0_copy_41 rfl ?_
  refine r_getIe e_X0_copy_42 fl_X0_25 i0 k0 ((gs_nI (by decide)).trans ((gs_nI (by decide)).trans ((gs_nI (by decide)).trans ((gs_nI (by decide)).trans (gs_nI (by decide)))))) ?_
  refine r_putI e_X0_copy_45 fl_X0_25 k1 ?_
  refine r_aload_n e_X0_copy_48 rfl ?_
  refine r_aload_n e_X0_copy_49 rfl ?_
  refine r_getIe e_X0_copy_50 fl_X0_28 i0 k0 ((gs_nI (by decide)).trans ((gs_nI (by decide)).trans ((gs_nI (by decide)).trans ((gs_nI (by decide)).trans ((gs_nI (by decide)).trans (gs_nI (by decide))))))) ?_
  refine r_putI e_X0_copy_53 fl_X0_28 k1 ?_
  refine r_aload_n e_X0_copy_56 rfl ?_
  refine r_aload_n e_X0_copy_57 rfl ?_
  refine r_getIe e_X0_copy_58 fl_X0_31 i0 k0 ((gs_nI (by decide)).trans ((gs_nI (by decide)).trans ((gs_nI (by decide)).trans ((gs_nI (by decide)).trans ((gs_nI (by decide)).trans ((gs_nI (by decide)).trans (gs_nI (by decide)))))))) ?_
  refine r_putI e_X0_copy_61 fl_X0_31 k1 ?_
  refine r_aload_n e_X0_copy_64 rfl ?_
  refine r_aload_n e_X0_copy_65 rfl ?_
  refine r_getIe e_X0_copy_66 fl_X0_34 i0 k0 ((gs_nI (by decide)).trans ((gs_nI (by decide)).trans ((gs_nI (by decide)).trans ((gs_nI (by decide)).trans ((gs_nI (by decide)).trans ((gs_nI (by decide)).trans ((gs_nI (by decide)).trans (gs_nI (by decide))))))))) ?_
  refine r_putI e_X0_copy_69 fl_X0_34 k1 ?_
  refine r_aload_n e_X0_copy_72 rfl ?_
  refine r_aload_n e_X0_copy_73 rfl ?_
  refine r_getIe e_X0_copy_74 fl_X0_37 i0 k0 ((gs_nI (by decide)).trans ((gs_nI (by decide)).trans ((gs_nI (by decide)).trans ((gs_nI (by decide)).trans ((gs_nI (by decide)).trans ((gs_nI (by decide)).trans ((gs_nI (by decide)).trans ((gs_nI (by decide)).trans (gs_nI (by decide)))))))))) ?_
  refine r_putI e_X0_copy_77 fl_X0_37 k1 ?_
  refine r_aload_n e_X0_copy_80 rfl ?_
  refine r_getR e_X0_copy_81 fl_X0_40 k0 k2 ?_
  refine r_iconst e_X0_copy_84 ic_0 ?_
  refine r_aload_n e_X0_copy_85 rfl ?_
  refine r_getR e_X0_copy_86 fl_X0_40 k1 k4 ?_
  refine r_iconst e_X0_copy_89 ic_0 ?_
  refine r_iconst e_X0_copy_90 ic_4 ?_
  refine r_copyi e_X0_copy_91 cl_X0_69 (Nat.le_of_ble_eq_true rfl) (Nat.le_of_ble_eq_true rfl) (Nat.le_of_ble_eq_true rfl) k3 k5 (by decide) (by decide) (by decide) ?_
  rw [show ((4 : Int32)).toNatClampNeg = 4 from rfl]
  refine r_aload_n e_X0_copy_94 rfl ?_
  refine r_getR e_X0_copy_95 fl_X0_44 k0 k6 ?_
  refine r_iconst e_X0_copy_98 ic_0 ?_
  refine r_aload_n e_X0_copy_99 rfl ?_
  refine r_getR e_X0_copy_100 fl_X0_44 k1 k8 ?_
  refine r_iconst e_X0_copy_103 ic_0 ?_
  refine r_iconst e_X0_copy_104 ic_4 ?_
  refine r_copyi e_X0_copy_105 cl_X0_69 (Nat.le_of_ble_eq_true rfl) (Nat.le_of_ble_eq_true rfl) (Nat.le_of_ble_eq_true rfl) k7 k9 (by decide) (by decide) (by decide) ?_
  rw [show ((4 : Int32)).toNatClampNeg = 4 from rfl]
  refine r_return e_X0_copy_108 rfl ⟨rfl, rfl⟩ ?_
  (refine ⟨?_, rfl, ?_⟩ <;> ((try unfold U_X0_copy); (try simp only []); (try rfl)))
def U_X7_copy (a : Nat) (x1 : Nat) (M : Mem) : Mem := cpyI (cpyI (setI (setI (setI (setI M a 0 (M.1 x1 0)) a 1 (M.1 x1 1)) a 2 (M.1 x1 2)) a 3 (M.1 x1 3)) (x1 + 1) (a + 1) 4) (x1 + 2) (a + 2) 20
theorem S_X7_copy {sh : List SC} {M : Mem} {a : Nat} {x1 : Nat}  (hb1 : TallyAt sh a) (hb2 : TallyAt sh x1)  : Gu m_X7_copy [.ref a, .ref x1] sh M (U_X7_copy a x1 M) := by
  refine Sp.of (ls := [some (.ref a), some (.ref x1)]) (by decide +kernel) (Nat.le_of_ble_eq_true rfl) rfl ?_
  have k0 : kd sh x1 = some (7 + 7, 0) := hb2.1
  have k1 : kd sh a = some (7 + 7, 0) := hb1.1
  have k2 : rf sh x1 4 = some (x1 + 1) := hb2.2.1
  have k3 : kd sh (x1 + 1) = some (0, 4) := hb2.2.2.2.1
  have k4 : rf sh a 4 = some (a + 1) := hb1.2.1
  have k5 : kd sh (a + 1) = some (0, 4) := hb1.2.2.2.1
  have k6 : rf sh x1 5 = some (x1 + 2) := hb2.2.2.1
  have k7 : kd sh (x1 + 2) = some (0, 20) := hb2.2.2.2.2
  have k8 : rf sh a 5 = some (a + 2) := hb1.2.2.1
  have k9 : kd sh (a + 2) = some (0, 20) := hb1.2.2.2.2
  refine r_aload_n e_X7_copy_0 rfl ?_
  refine r_aload_n e_X7_copy_1 rfl ?_
  refine r_getI e_X7_copy_2 fl_X7_7 i0 k0 ?_
  refine r_putI e_X7_copy_5 fl_X7_7 k1 ?_
  refine r_aload_n e_X7_copy_8 rfl ?_
  refine r_aload_n e_X7_copy_9 rfl ?_
  refine r_getIe e_X7_copy_10 fl_X7_13 i0 k0 (gs_nI (by decide)) ?_
  refine r_putI e_X7_copy_13 fl_X7_13 k1 ?_
  refine r_aload_n e_X7_copy_16 rfl ?_
  refine r_aload_n e_X7_copy_17 rfl ?_
  refine r_getIe e_X7_copy_18 fl_X7_16 i0 k0 ((gs_nI (by decide)).trans (gs_nI (by decide))) ?_
  refine r_putI e_X7_copy_21 fl_X7_16 k1 ?_
  refine r_aload_n e_X7_copy_24 rfl ?_
  refine r_aload_n e_X7_copy_25 rfl ?_
  refine r_getIe e_X7_copy_26 fl_X7_19 i0 k0 ((gs_nI (by decide)).trans ((gs_nI (by decide)).trans (gs_nI (by decide)))) ?_
  refine r_putI e_X7_copy_29 fl_X7_19 k1 ?_
  refine r_aload_n e_X7_copy_32 rfl ?_
  refine r_getR e_X7_copy_33 fl_X7_22 k0 k2 ?_
  refine r_iconst e_X7_copy_36 ic_0 ?_
  refine r_aload_n e_X7_copy_37 rfl ?_
  refine r_getR e_X7_copy_38 fl_X7_22 k1 k4 ?_
  refine r_iconst e_X7_copy_41 ic_0 ?_
  refine r_iconst e_X7_copy_42 ic_4 ?_
  refine r_copyi e_X7_copy_43 cl_X7_45 (Nat.le_of_ble_eq_true rfl) (Nat.le_of_ble_eq_true rfl) (Nat.le_of_ble_eq_true rfl) k3 k5 (by decide) (by decide) (by decide) ?_
  rw [show ((4 : Int32)).toNatClampNeg = 4 from rfl]
  refine r_aload_n e_X7_copy_46 rfl ?_
  refine r_getR e_X7_copy_47 fl_X7_26 k0 k6 ?_
  refine r_iconst e_X7_copy_50 ic_0 ?_
  refine r_aload_n e_X7_copy_51 rfl ?_
  refine r_getR e_X7_copy_52 fl_X7_26 k1 k8 ?_
  refine r_iconst e_X7_copy_55 ic_0 ?_
  refine r_bipush e_X7_copy_56 bp_20 ?_
  refine r_copyi e_X7_copy_58 cl_X7_45 (Nat.le_of_ble_eq_true rfl) (Nat.le_of_ble_eq_true rfl) (Nat.le_of_ble_eq_true rfl) k7 k9 (by decide) (by decide) (by decide) ?_
  rw [show ((20 : Int32)).toNatClampNeg = 20 from rfl]
  refine r_return e_X7_copy_61 rfl ⟨rfl, rfl⟩ ?_
  (refine ⟨?_, rfl, ?_⟩ <;> ((try unfold U_X7_copy); (try simp only []); (try rfl)))
def F_X0_isLike_4 (a : Nat) (x1 : Nat) : Nat → Nat → Int32 → Mem → Int32
  | 0, i4, u2, M => u2
  | n + 1, i4, u2, M => (let v400_0 : Int32 := if u2 = 0 then (0 : Int32) else (if (V_X0_shown a (nI i4) M) = (V_X0_shown x1 (nI i4) M) then (1 : Int32) else (0 : Int32)); (F_X0_isLike_4 a x1 n (i4 + 1) v400_0 M))
theorem L_X0_isLike_4 {sh : List SC} {Q : Po} {a : Nat} {x1 : Nat}    (hb1 : BallAt sh a) (hb2 : BallAt sh x1)   : ∀ (n i4 : Nat) (u2 : Int32) (M : Mem), i4 + n = 6 → WP m_X0_isLike Q 39 [some (.ref a), some (.ref x1), some (.int (F_X0_isLike_4 a x1 n i4 u2 M)), none] [] sh M 0 0 → WP m_X0_isLike Q 4 [some (.ref a), some (.ref x1), some (.int u2), some (.int (nI i4))] [] sh M 0 0 := by
  have k0 : kd sh a = some (0 + 7, 0) := hb1.1
  have k1 : kd sh x1 = some (0 + 7, 0) := hb2.1
  intro n
  induction n with
  | zero =>
    intro i4 u2 M hi hq
    have hz : (6 : Int32) ≤ nI i4 := by
      have q : i4 = 6 := by omega
      rw [q]; exact nI_le (Nat.le_refl _) (by decide)
    refine r_iload_n e_X0_isLike_4 rfl ?_
    refine r_bipush e_X0_isLike_5 bp_6 ?_
    refine r_icmp_ge e_X0_isLike_7 (fun _ => ?_) (fun hh => absurd hz hh)
    refine d_4_3 ?_
    (simp only [F_X0_isLike_4] at hq; first | exact hq | (simp only []; exact hq))
  | succ n ih =>
    intro i4 u2 M hi hq
    have hlt_i4 : i4 < 6 := by omega
    have hcl_i4 : (nI i4).toNatClampNeg = i4 := nI_clamp (by omega)
    have hs : ¬ (6 : Int32) ≤ nI i4 := nI_ge (b := 6) hlt_i4 (by decide)
    refine r_iload_n e_X0_isLike_4 rfl ?_
    refine r_bipush e_X0_isLike_5 bp_6 ?_
    refine r_icmp_ge e_X0_isLike_7 (fun hh => absurd hh hs) (fun _ => ?_)
    refine r_iload_n e_X0_isLike_10 rfl ?_
    obtain ⟨v400_0, e_v400_0⟩ : ∃ z : Int32, z = (if u2 = 0 then (0 : Int32) else (if (V_X0_shown a (nI i4) M) = (V_X0_shown x1 (nI i4) M) then (1 : Int32) else (0 : Int32))) := ⟨_, rfl⟩
    have z_v400_0 : v400_0 = 0 ∨ v400_0 = 1 := by rw [e_v400_0]; exact (zi (Or.inl rfl) (zi (Or.inr rfl) (Or.inl rfl)))
    suffices j32_400 : WP m_X0_isLike Q 32 [some (.ref a), some (.ref x1), some (.int u2), some (.int (nI i4))] [.int v400_0] sh M 0 0 by
      refine r_if_eq e_X0_isLike_11 (fun h11_400 => ?_) (fun h11_400 => ?_)
      · refine r_iconst e_X0_isLike_31 ic_0 ?_
        (rw [show v400_0 = (0 : Int32) from (e_v400_0.trans (if_pos h11_400))] at j32_400; exact j32_400)
      · refine r_aload_n e_X0_isLike_14 rfl ?_
        refine r_iload_n e_X0_isLike_15 rfl ?_
        refine cV1v e_X0_isLike_16 cl_X0_75 ⟨Nat.le_of_ble_eq_true rfl, Nat.le_of_ble_eq_true rfl⟩ ⟨rfl, rfl⟩ k0 (Nat.le_of_ble_eq_true rfl) (S_X0_shown hb1) ?_
        refine r_aload_n e_X0_isLike_19 rfl ?_
        refine r_iload_n e_X0_isLike_20 rfl ?_
        refine cV1v e_X0_isLike_21 cl_X0_75 ⟨Nat.le_of_ble_eq_true rfl, Nat.le_of_ble_eq_true rfl⟩ ⟨rfl, rfl⟩ k1 (Nat.le_of_ble_eq_true rfl) (S_X0_shown hb2) ?_
        refine r_icmp_ne e_X0_isLike_24 (fun h24_401 => ?_) (fun h24_401 => ?_)
        · refine r_iconst e_X0_isLike_31 ic_0 ?_
          (rw [show v400_0 = (0 : Int32) from ((e_v400_0.trans (if_neg h11_400)).trans (if_neg h24_401))] at j32_400; exact j32_400)
        · refine r_iconst e_X0_isLike_27 ic_1 ?_
          refine r_goto e_X0_isLike_28 ?_
          (rw [show v400_0 = (1 : Int32) from ((e_v400_0.trans (if_neg h11_400)).trans (if_pos h24_401))] at j32_400; exact j32_400)
    refine p_istore_n_4_2 e_X0_isLike_32 rfl rfl ?_
    refine p_iinc_4_3 e_X0_isLike_33 rfl ic_1 rfl ?_
    rw [nI_1 i4]
    refine r_goto e_X0_isLike_36 ?_
    (subst e_v400_0; simp only [F_X0_isLike_4] at hq; first | exact ih (i4 + 1) _ _ (by omega) hq | (simp only []; exact ih (i4 + 1) _ _ (by omega) hq))
theorem ZF_X0_isLike_4 {a : Nat} {x1 : Nat} : ∀ (n i4 : Nat) (u2 : Int32) (M : Mem), (u2 = 0 ∨ u2 = 1) → F_X0_isLike_4 a x1 n i4 u2 M = 0 ∨ F_X0_isLike_4 a x1 n i4 u2 M = 1 := by
  intro n
  induction n with
  | zero => intro i4 u2 M h; exact h
  | succ n ih => intro i4 u2 M h; exact ih _ _ _ (zi (Or.inl rfl) (zi (Or.inr rfl) (Or.inl rfl)))
def V_X0_isLike (a : Nat) (x1 : Nat) (M : Mem) : Int32 := (F_X0_isLike_4 a x1 6 0 (1 : Int32) M)
theorem Z_X0_isLike {M : Mem} {a : Nat} {x1 : Nat}   : V_X0_isLike a x1 M = 0 ∨ V_X0_isLike a x1 M = 1 := (ZF_X0_isLike_4 _ _ _ _ (Or.inr rfl))
theorem S_X0_isLike {sh : List SC} {M : Mem} {a : Nat} {x1 : Nat}  (hb1 : BallAt sh a) (hb2 : BallAt sh x1)  : Gv m_X0_isLike [.ref a, .ref x1] sh M (.int (V_X0_isLike a x1 M)) M := by
  refine Sp.of (ls := [some (.ref a), some (.ref x1), none, none]) (by decide +kernel) (Nat.le_of_ble_eq_true rfl) rfl ?_
  refine r_iconst e_X0_isLike_0 ic_1 ?_
  refine p_istore_n_4_2 e_X0_isLike_1 rfl rfl ?_
  refine r_iconst e_X0_isLike_2 ic_0 ?_
  refine p_istore_n_4_3 e_X0_isLike_3 rfl rfl ?_
  skip
  show WP m_X0_isLike _ 4 [some (.ref a), some (.ref x1), some (.int (1 : Int32)), some (.int (nI 0))] [] sh M 0 0
  refine L_X0_isLike_4 hb1 hb2 6 0 (1 : Int32) M (by omega) ?_
  refine r_iload_n e_X0_isLike_39 rfl ?_
  refine r_zreturn e_X0_isLike_40 rfl ⟨rfl, rfl⟩ (ZF_X0_isLike_4 _ _ _ _ (by first | exact Or.inl rfl | exact Or.inr rfl)) ?_
  (refine ⟨?_, rfl, ?_⟩ <;> ((try unfold V_X0_isLike); (try simp only []); (try rfl)))
def F_X5_isLike_30 (a : Nat) (x1 : Nat) : Nat → Nat → Int32 → Mem → Int32
  | 0, i30, u2, M => u2
  | n + 1, i30, u2, M => (let v3002_0 : Int32 := if u2 = 0 then (0 : Int32) else (if (V_X10_at (a + 1) (nI i30) 4 M) = (V_X10_at (x1 + 1) (nI i30) 4 M) then (1 : Int32) else (0 : Int32)); (F_X5_isLike_30 a x1 n (i30 + 1) v3002_0 M))
theorem L_X5_isLike_30 {sh : List SC} {Q : Po} {a : Nat} {x1 : Nat}    (hb1 : RobotAt sh a) (hb2 : RobotAt sh x1)   : ∀ (n i30 : Nat) (u2 : Int32) (M : Mem), i30 + n = 4 → WP m_X5_isLike Q 70 [some (.ref a), some (.ref x1), some (.int (F_X5_isLike_30 a x1 n i30 u2 M)), none] [] sh M 0 0 → WP m_X5_isLike Q 30 [some (.ref a), some (.ref x1), some (.int u2), some (.int (nI i30))] [] sh M 0 0 := by
  have k0 : kd sh a = some (5 + 7, 0) := hb1.1
  have k1 : rf sh a 9 = some (a + 1) := hb1.2.1
  have k2 : kd sh (a + 1) = some (0, 4) := hb1.2.2
  have k3 : kd sh x1 = some (5 + 7, 0) := hb2.1
  have k4 : rf sh x1 9 = some (x1 + 1) := hb2.2.1
  have k5 : kd sh (x1 + 1) = some (0, 4) := hb2.2.2
  intro n
  induction n with
  | zero =>
    intro i30 u2 M hi hq
    have hz : (4 : Int32) ≤ nI i30 := by
      have q : i30 = 4 := by omega
      rw [q]; exact nI_le (Nat.le_refl _) (by decide)
    refine r_iload_n e_X5_isLike_30 rfl ?_
    refine r_iconst e_X5_isLike_31 ic_4 ?_
    refine r_icmp_ge e_X5_isLike_32 (fun _ => ?_) (fun hh => absurd hz hh)
    refine d_4_3 ?_
    (simp only [F_X5_isLike_30] at hq; first | exact hq | (simp only []; exact hq))
  | succ n ih =>
    intro i30 u2 M hi hq
    have hlt_i30 : i30 < 4 := by omega
    have hcl_i30 : (nI i30).toNatClampNeg = i30 := nI_clamp (by omega)
    have hs : ¬ (4 : Int32) ≤ nI i30 := nI_ge (b := 4) hlt_i30 (by decide)
    refine r_iload_n e_X5_isLike_30 rfl ?_
    refine r_iconst e_X5_isLike_31 ic_4 ?_
    refine r_icmp_ge e_X5_isLike_32 (fun hh => absurd hh hs) (fun _ => ?_)
    refine r_iload_n e_X5_isLike_35 rfl ?_
    obtain ⟨v3002_0, e_v3002_0⟩ : ∃ z : Int32, z = (if u2 = 0 then (0 : Int32) else (if (V_X10_at (a + 1) (nI i30) 4 M) = (V_X10_at (x1 + 1) (nI i30) 4 M) then (1 : Int32) else (0 : Int32))) := ⟨_, rfl⟩
    have z_v3002_0 : v3002_0 = 0 ∨ v3002_0 = 1 := by rw [e_v3002_0]; exact (zi (Or.inl rfl) (zi (Or.inr rfl) (Or.inl rfl)))
    suffices j63_3002 : WP m_X5_isLike Q 63 [some (.ref a), some (.ref x1), some (.int u2), some (.int (nI i30))] [.int v3002_0] sh M 0 0 by
      refine r_if_eq e_X5_isLike_36 (fun h36_3002 => ?_) (fun h36_3002 => ?_)
      · refine r_iconst e_X5_isLike_62 ic_0 ?_
        (rw [show v3002_0 = (0 : Int32) from (e_v3002_0.trans (if_pos h36_3002))] at j63_3002; exact j63_3002)
      · refine r_aload_n e_X5_isLike_39 rfl ?_
        refine r_getR e_X5_isLike_40 fl_X5_34 k0 k1 ?_
        refine r_iload_n e_X5_isLike_43 rfl ?_
        refine cSN2v e_X5_isLike_44 cl_X5_72 ⟨Nat.le_of_ble_eq_true rfl, Nat.le_of_ble_eq_true rfl⟩ ⟨rfl, rfl⟩  (Nat.le_of_ble_eq_true rfl) (S_X10_at k2 (by first | decide | (unfold vp_in; decide) | exact Or.inl rfl | exact Or.inr rfl)) ?_
        refine r_aload_n e_X5_isLike_47 rfl ?_
        refine r_getR e_X5_isLike_48 fl_X5_34 k3 k4 ?_
        refine r_iload_n e_X5_isLike_51 rfl ?_
        refine cSN2v e_X5_isLike_52 cl_X5_72 ⟨Nat.le_of_ble_eq_true rfl, Nat.le_of_ble_eq_true rfl⟩ ⟨rfl, rfl⟩  (Nat.le_of_ble_eq_true rfl) (S_X10_at k5 (by first | decide | (unfold vp_in; decide) | exact Or.inl rfl | exact Or.inr rfl)) ?_
        refine r_icmp_ne e_X5_isLike_55 (fun h55_3003 => ?_) (fun h55_3003 => ?_)
        · refine r_iconst e_X5_isLike_62 ic_0 ?_
          (rw [show v3002_0 = (0 : Int32) from ((e_v3002_0.trans (if_neg h36_3002)).trans (if_neg h55_3003))] at j63_3002; exact j63_3002)
        · refine r_iconst e_X5_isLike_58 ic_1 ?_
          refine r_goto e_X5_isLike_59 ?_
          (rw [show v3002_0 = (1 : Int32) from ((e_v3002_0.trans (if_neg h36_3002)).trans (if_pos h55_3003))] at j63_3002; exact j63_3002)
    refine p_istore_n_4_2 e_X5_isLike_63 rfl rfl ?_
    refine p_iinc_4_3 e_X5_isLike_64 rfl ic_1 rfl ?_
    rw [nI_1 i30]
    refine r_goto e_X5_isLike_67 ?_
    (subst e_v3002_0; simp only [F_X5_isLike_30] at hq; first | exact ih (i30 + 1) _ _ (by omega) hq | (simp only []; exact ih (i30 + 1) _ _ (by omega) hq))
theorem ZF_X5_isLike_30 {a : Nat} {x1 : Nat} : ∀ (n i30 : Nat) (u2 : Int32) (M : Mem), (u2 = 0 ∨ u2 = 1) → F_X5_isLike_30 a x1 n i30 u2 M = 0 ∨ F_X5_isLike_30 a x1 n i30 u2 M = 1 := by
  intro n
  induction n with
  | zero => intro i30 u2 M h; exact h
  | succ n ih => intro i30 u2 M h; exact ih _ _ _ (zi (Or.inl rfl) (zi (Or.inr rfl) (Or.inl rfl)))
def V_X5_isLike (a : Nat) (x1 : Nat) (M : Mem) : Int32 := (let v0_0 : Int32 := if (M.1 a 7) = (M.1 x1 7) then (if (M.1 a 8) = (M.1 x1 8) then (1 : Int32) else (0 : Int32)) else (0 : Int32); (F_X5_isLike_30 a x1 4 0 v0_0 M))
theorem Z_X5_isLike {M : Mem} {a : Nat} {x1 : Nat}   : V_X5_isLike a x1 M = 0 ∨ V_X5_isLike a x1 M = 1 := (ZF_X5_isLike_30 _ _ _ _ (zi (zi (Or.inr rfl) (Or.inl rfl)) (Or.inl rfl)))
theorem S_X5_isLike {sh : List SC} {M : Mem} {a : Nat} {x1 : Nat}  (hb1 : RobotAt sh a) (hb2 : RobotAt sh x1)  : Gv m_X5_isLike [.ref a, .ref x1] sh M (.int (V_X5_isLike a x1 M)) M := by
  refine Sp.of (ls := [some (.ref a), some (.ref x1), none, none]) (by decide +kernel) (Nat.le_of_ble_eq_true rfl) rfl ?_
  have k0 : kd sh a = some (5 + 7, 0) := hb1.1
  have k1 : kd sh x1 = some (5 + 7, 0) := hb2.1
  refine r_aload_n e_X5_isLike_0 rfl ?_
  refine r_getI e_X5_isLike_1 fl_X5_27 i0 k0 ?_
  refine r_aload_n e_X5_isLike_4 rfl ?_
  refine r_getI e_X5_isLike_5 fl_X5_27 i0 k1 ?_
  obtain ⟨v0_0, e_v0_0⟩ : ∃ z : Int32, z = (if (M.1 a 7) = (M.1 x1 7) then (if (M.1 a 8) = (M.1 x1 8) then (1 : Int32) else (0 : Int32)) else (0 : Int32)) := ⟨_, rfl⟩
  have z_v0_0 : v0_0 = 0 ∨ v0_0 = 1 := by rw [e_v0_0]; exact (zi (zi (Or.inr rfl) (Or.inl rfl)) (Or.inl rfl))
  suffices j27_0 : WP m_X5_isLike (fun r sh' M'' => r = some (.int (V_X5_isLike a x1 M)) ∧ sh' = sh ∧ M'' = M) 27 [some (.ref a), some (.ref x1), none, none] [.int v0_0] sh M 0 0 by
    refine r_icmp_ne e_X5_isLike_8 (fun h8_0 => ?_) (fun h8_0 => ?_)
    · refine r_iconst e_X5_isLike_26 ic_0 ?_
      (rw [show v0_0 = (0 : Int32) from (e_v0_0.trans (if_neg h8_0))] at j27_0; exact j27_0)
    · refine r_aload_n e_X5_isLike_11 rfl ?_
      refine r_getI e_X5_isLike_12 fl_X5_30 i3 k0 ?_
      refine r_aload_n e_X5_isLike_15 rfl ?_
      refine r_getI e_X5_isLike_16 fl_X5_30 i3 k1 ?_
      refine r_icmp_ne e_X5_isLike_19 (fun h19_1 => ?_) (fun h19_1 => ?_)
      · refine r_iconst e_X5_isLike_26 ic_0 ?_
        (rw [show v0_0 = (0 : Int32) from ((e_v0_0.trans (if_pos h8_0)).trans (if_neg h19_1))] at j27_0; exact j27_0)
      · refine r_iconst e_X5_isLike_22 ic_1 ?_
        refine r_goto e_X5_isLike_23 ?_
        (rw [show v0_0 = (1 : Int32) from ((e_v0_0.trans (if_pos h8_0)).trans (if_pos h19_1))] at j27_0; exact j27_0)
  refine p_istore_n_4_2 e_X5_isLike_27 rfl rfl ?_
  refine r_iconst e_X5_isLike_28 ic_0 ?_
  refine p_istore_n_4_3 e_X5_isLike_29 rfl rfl ?_
  skip
  show WP m_X5_isLike _ 30 [some (.ref a), some (.ref x1), some (.int v0_0), some (.int (nI 0))] [] sh M 0 0
  refine L_X5_isLike_30 hb1 hb2 4 0 v0_0 M (by omega) ?_
  refine r_iload_n e_X5_isLike_70 rfl ?_
  refine r_zreturn e_X5_isLike_71 rfl ⟨rfl, rfl⟩ (ZF_X5_isLike_30 _ _ _ _ z_v0_0) ?_
  (subst e_v0_0; refine ⟨?_, rfl, ?_⟩ <;> ((try unfold V_X5_isLike); (try simp only []); (try rfl)))
def F_X1_clear_7 (a : Nat) (x1 : Int32) : Nat → Nat → Mem → Mem
  | 0, i7, M => M
  | n + 1, i7, M => (let Mc1001 : Mem := U_X10_put (a + 3) (nI i7) (0 : Int32) 4 (U_X10_put (a + 2) (nI i7) (0 : Int32) 4 (U_X10_put (a + 1) (nI i7) (0 : Int32) 4 M)); (F_X1_clear_7 a x1 n (i7 + 1) Mc1001))
theorem L_X1_clear_7 {sh : List SC} {Q : Po} {a : Nat} {x1 : Int32}    (hb1 : LeagueAt sh a)   : ∀ (n i7 : Nat) (M : Mem), i7 + n = 4 → WP m_X1_clear Q 45 [some (.ref a), some (.int x1), none] [] sh (F_X1_clear_7 a x1 n i7 M) 0 0 → WP m_X1_clear Q 7 [some (.ref a), some (.int x1), some (.int (nI i7))] [] sh M 0 0 := by
  have k0 : kd sh a = some (1 + 7, 0) := hb1.1
  have k1 : rf sh a 1 = some (a + 1) := hb1.2.1
  have k2 : kd sh (a + 1) = some (0, 4) := hb1.2.2.2.2.1
  have k3 : rf sh a 2 = some (a + 2) := hb1.2.2.1
  have k4 : kd sh (a + 2) = some (0, 4) := hb1.2.2.2.2.2.1
  have k5 : rf sh a 3 = some (a + 3) := hb1.2.2.2.1
  have k6 : kd sh (a + 3) = some (0, 4) := hb1.2.2.2.2.2.2
  intro n
  induction n with
  | zero =>
    intro i7 M hi hq
    have hz : (4 : Int32) ≤ nI i7 := by
      have q : i7 = 4 := by omega
      rw [q]; exact nI_le (Nat.le_refl _) (by decide)
    refine r_iload_n e_X1_clear_7 rfl ?_
    refine r_iconst e_X1_clear_8 ic_4 ?_
    refine r_icmp_ge e_X1_clear_9 (fun _ => ?_) (fun hh => absurd hz hh)
    refine d_3_2 ?_
    (simp only [F_X1_clear_7] at hq; first | exact hq | (simp only []; exact hq))
  | succ n ih =>
    intro i7 M hi hq
    have hlt_i7 : i7 < 4 := by omega
    have hcl_i7 : (nI i7).toNatClampNeg = i7 := nI_clamp (by omega)
    have hs : ¬ (4 : Int32) ≤ nI i7 := nI_ge (b := 4) hlt_i7 (by decide)
    refine r_iload_n e_X1_clear_7 rfl ?_
    refine r_iconst e_X1_clear_8 ic_4 ?_
    refine r_icmp_ge e_X1_clear_9 (fun hh => absurd hh hs) (fun _ => ?_)
    refine r_aload_n e_X1_clear_12 rfl ?_
    refine r_getR e_X1_clear_13 fl_X1_15 k0 k1 ?_
    refine r_iload_n e_X1_clear_16 rfl ?_
    refine r_iconst e_X1_clear_17 ic_0 ?_
    refine cSN3u e_X1_clear_18 cl_X1_25 ⟨Nat.le_of_ble_eq_true rfl, Nat.le_of_ble_eq_true rfl⟩ ⟨rfl, rfl⟩  (Nat.le_of_ble_eq_true rfl) (S_X10_put k2 (by first | decide | (unfold vp_in; decide) | exact Or.inl rfl | exact Or.inr rfl)) ?_
    refine r_aload_n e_X1_clear_21 rfl ?_
    refine r_getR e_X1_clear_22 fl_X1_19 k0 k3 ?_
    refine r_iload_n e_X1_clear_25 rfl ?_
    refine r_iconst e_X1_clear_26 ic_0 ?_
    refine cSN3u e_X1_clear_27 cl_X1_25 ⟨Nat.le_of_ble_eq_true rfl, Nat.le_of_ble_eq_true rfl⟩ ⟨rfl, rfl⟩  (Nat.le_of_ble_eq_true rfl) (S_X10_put k4 (by first | decide | (unfold vp_in; decide) | exact Or.inl rfl | exact Or.inr rfl)) ?_
    refine r_aload_n e_X1_clear_30 rfl ?_
    refine r_getR e_X1_clear_31 fl_X1_22 k0 k5 ?_
    refine r_iload_n e_X1_clear_34 rfl ?_
    refine r_iconst e_X1_clear_35 ic_0 ?_
    refine cSN3u e_X1_clear_36 cl_X1_25 ⟨Nat.le_of_ble_eq_true rfl, Nat.le_of_ble_eq_true rfl⟩ ⟨rfl, rfl⟩  (Nat.le_of_ble_eq_true rfl) (S_X10_put k6 (by first | decide | (unfold vp_in; decide) | exact Or.inl rfl | exact Or.inr rfl)) ?_
    obtain ⟨Mc1001, e_Mc1001⟩ : ∃ z : Mem, z = (U_X10_put (a + 3) (nI i7) (0 : Int32) 4 (U_X10_put (a + 2) (nI i7) (0 : Int32) 4 (U_X10_put (a + 1) (nI i7) (0 : Int32) 4 M))) := ⟨_, rfl⟩
    rw [← e_Mc1001]
    refine p_iinc_3_2 e_X1_clear_39 rfl ic_1 rfl ?_
    rw [nI_1 i7]
    refine r_goto e_X1_clear_42 ?_
    (subst e_Mc1001; simp only [F_X1_clear_7] at hq; first | exact ih (i7 + 1) _ (by omega) hq | (simp only []; exact ih (i7 + 1) _ (by omega) hq))
def U_X1_clear (a : Nat) (x1 : Int32) (M : Mem) : Mem := (F_X1_clear_7 a x1 4 0 (setI M a 0 x1))
theorem S_X1_clear {sh : List SC} {M : Mem} {a : Nat} {x1 : Int32}  (hb1 : LeagueAt sh a)  : Gu m_X1_clear [.ref a, .int x1] sh M (U_X1_clear a x1 M) := by
  refine Sp.of (ls := [some (.ref a), some (.int x1), none]) (by decide +kernel) (Nat.le_of_ble_eq_true rfl) rfl ?_
  have k0 : kd sh a = some (1 + 7, 0) := hb1.1
  refine r_aload_n e_X1_clear_0 rfl ?_
  refine r_iload_n e_X1_clear_1 rfl ?_
  refine r_putI e_X1_clear_2 fl_X1_9 k0 ?_
  refine r_iconst e_X1_clear_5 ic_0 ?_
  refine p_istore_n_3_2 e_X1_clear_6 rfl rfl ?_
  skip
  show WP m_X1_clear _ 7 [some (.ref a), some (.int x1), some (.int (nI 0))] [] sh (setI M a 0 x1) 0 0
  refine L_X1_clear_7 hb1 4 0  (setI M a 0 x1) (by omega) ?_
  refine r_return e_X1_clear_45 rfl ⟨rfl, rfl⟩ ?_
  (refine ⟨?_, rfl, ?_⟩ <;> ((try unfold U_X1_clear); (try simp only []); (try rfl)))
def V_X1_has (a : Nat) (x1 : Int32) (M : Mem) : Int32 := (let v0_0 : Int32 := if x1 < 0 then (0 : Int32) else (if (4 : Int32) ≤ x1 then (0 : Int32) else (if (((M.1 a 0) >>> (x1 &&& 31)) &&& (1 : Int32)) = (1 : Int32) then (1 : Int32) else (0 : Int32))); v0_0)
theorem Z_X1_has {M : Mem} {a : Nat} {x1 : Int32}   : V_X1_has a x1 M = 0 ∨ V_X1_has a x1 M = 1 := (zi (Or.inl rfl) (zi (Or.inl rfl) (zi (Or.inr rfl) (Or.inl rfl))))
theorem S_X1_has {sh : List SC} {M : Mem} {a : Nat} {x1 : Int32}  (hb1 : LeagueAt sh a)  : Gv m_X1_has [.ref a, .int x1] sh M (.int (V_X1_has a x1 M)) M := by
  refine Sp.of (ls := [some (.ref a), some (.int x1)]) (by decide +kernel) (Nat.le_of_ble_eq_true rfl) rfl ?_
  have k0 : kd sh a = some (1 + 7, 0) := hb1.1
  refine r_iload_n e_X1_has_0 rfl ?_
  obtain ⟨v0_0, e_v0_0⟩ : ∃ z : Int32, z = (if x1 < 0 then (0 : Int32) else (if (4 : Int32) ≤ x1 then (0 : Int32) else (if (((M.1 a 0) >>> (x1 &&& 31)) &&& (1 : Int32)) = (1 : Int32) then (1 : Int32) else (0 : Int32)))) := ⟨_, rfl⟩
  have z_v0_0 : v0_0 = 0 ∨ v0_0 = 1 := by rw [e_v0_0]; exact (zi (Or.inl rfl) (zi (Or.inl rfl) (zi (Or.inr rfl) (Or.inl rfl))))
  suffices j26_0 : WP m_X1_has (fun r sh' M'' => r = some (.int (V_X1_has a x1 M)) ∧ sh' = sh ∧ M'' = M) 26 [some (.ref a), some (.int x1)] [.int v0_0] sh M 0 0 by
    refine r_if_lt e_X1_has_1 (fun h1_0 => ?_) (fun h1_0 => ?_)
    · refine r_iconst e_X1_has_25 ic_0 ?_
      (rw [show v0_0 = (0 : Int32) from (e_v0_0.trans (if_pos h1_0))] at j26_0; exact j26_0)
    · refine r_iload_n e_X1_has_4 rfl ?_
      refine r_iconst e_X1_has_5 ic_4 ?_
      refine r_icmp_ge e_X1_has_6 (fun h6_1 => ?_) (fun h6_1 => ?_)
      · refine r_iconst e_X1_has_25 ic_0 ?_
        (rw [show v0_0 = (0 : Int32) from ((e_v0_0.trans (if_neg h1_0)).trans (if_pos h6_1))] at j26_0; exact j26_0)
      · refine r_aload_n e_X1_has_9 rfl ?_
        refine r_getI e_X1_has_10 fl_X1_9 i0 k0 ?_
        refine r_iload_n e_X1_has_13 rfl ?_
        refine r_ishr e_X1_has_14 ?_
        refine r_iconst e_X1_has_15 ic_1 ?_
        refine r_iand e_X1_has_16 ?_
        refine r_iconst e_X1_has_17 ic_1 ?_
        refine r_icmp_ne e_X1_has_18 (fun h18_2 => ?_) (fun h18_2 => ?_)
        · refine r_iconst e_X1_has_25 ic_0 ?_
          (rw [show v0_0 = (0 : Int32) from (((e_v0_0.trans (if_neg h1_0)).trans (if_neg h6_1)).trans (if_neg h18_2))] at j26_0; exact j26_0)
        · refine r_iconst e_X1_has_21 ic_1 ?_
          refine r_goto e_X1_has_22 ?_
          (rw [show v0_0 = (1 : Int32) from (((e_v0_0.trans (if_neg h1_0)).trans (if_neg h6_1)).trans (if_pos h18_2))] at j26_0; exact j26_0)
  refine r_zreturn e_X1_has_26 rfl ⟨rfl, rfl⟩ z_v0_0 ?_
  (subst e_v0_0; refine ⟨?_, rfl, ?_⟩ <;> ((try unfold V_X1_has); (try simp only []); (try rfl)))
def U_X1_enterFor (a : Nat) (x1 : Int32) (x2 : Int32) (x3 : Int32) (M : Mem) : Mem := (let v0_0 : Int32 := if x2 ≤ x3 then (if x2 = x3 then (1 : Int32) else (0 : Int32)) else (3 : Int32); let Mc1 : Mem := U_X10_put (a + 2) x1 ((V_X10_at (a + 2) x1 4 (U_X10_put (a + 1) x1 ((V_X10_at (a + 1) x1 4 M) + v0_0) 4 M)) + x2) 4 (U_X10_put (a + 1) x1 ((V_X10_at (a + 1) x1 4 M) + v0_0) 4 M); U_X10_put (a + 3) x1 ((V_X10_at (a + 3) x1 4 Mc1) + x3) 4 Mc1)
theorem S_X1_enterFor {sh : List SC} {M : Mem} {a : Nat} {x1 : Int32} {x2 : Int32} {x3 : Int32}  (hb1 : LeagueAt sh a)  : Gu m_X1_enterFor [.ref a, .int x1, .int x2, .int x3] sh M (U_X1_enterFor a x1 x2 x3 M) := by
  refine Sp.of (ls := [some (.ref a), some (.int x1), some (.int x2), some (.int x3), none]) (by decide +kernel) (Nat.le_of_ble_eq_true rfl) rfl ?_
  have k0 : kd sh a = some (1 + 7, 0) := hb1.1
  have k1 : rf sh a 1 = some (a + 1) := hb1.2.1
  have k2 : kd sh (a + 1) = some (0, 4) := hb1.2.2.2.2.1
  have k3 : rf sh a 2 = some (a + 2) := hb1.2.2.1
  have k4 : kd sh (a + 2) = some (0, 4) := hb1.2.2.2.2.2.1
  have k5 : rf sh a 3 = some (a + 3) := hb1.2.2.2.1
  have k6 : kd sh (a + 3) = some (0, 4) := hb1.2.2.2.2.2.2
  refine r_iload_n e_X1_enterFor_0 rfl ?_
  refine r_iload_n e_X1_enterFor_1 rfl ?_
  obtain ⟨v0_0, e_v0_0⟩ : ∃ z : Int32, z = (if x2 ≤ x3 then (if x2 = x3 then (1 : Int32) else (0 : Int32)) else (3 : Int32)) := ⟨_, rfl⟩
  suffices j19_0 : WP m_X1_enterFor (fun r sh' M'' => r = none ∧ sh' = sh ∧ M'' = (U_X1_enterFor a x1 x2 x3 M)) 19 [some (.ref a), some (.int x1), some (.int x2), some (.int x3), none] [.int v0_0] sh M 0 0 by
    refine r_icmp_le e_X1_enterFor_2 (fun h2_0 => ?_) (fun h2_0 => ?_)
    · refine r_iload_n e_X1_enterFor_9 rfl ?_
      refine r_iload_n e_X1_enterFor_10 rfl ?_
      refine r_icmp_ne e_X1_enterFor_11 (fun h11_1 => ?_) (fun h11_1 => ?_)
      · refine r_iconst e_X1_enterFor_18 ic_0 ?_
        (rw [show v0_0 = (0 : Int32) from ((e_v0_0.trans (if_pos h2_0)).trans (if_neg h11_1))] at j19_0; exact j19_0)
      · refine r_iconst e_X1_enterFor_14 ic_1 ?_
        refine r_goto e_X1_enterFor_15 ?_
        (rw [show v0_0 = (1 : Int32) from ((e_v0_0.trans (if_pos h2_0)).trans (if_pos h11_1))] at j19_0; exact j19_0)
    · refine r_iconst e_X1_enterFor_5 ic_3 ?_
      refine r_goto e_X1_enterFor_6 ?_
      (rw [show v0_0 = (3 : Int32) from (e_v0_0.trans (if_neg h2_0))] at j19_0; exact j19_0)
  refine p_istore_5_4 e_X1_enterFor_19 rfl rfl ?_
  refine r_aload_n e_X1_enterFor_21 rfl ?_
  refine r_getR e_X1_enterFor_22 fl_X1_15 k0 k1 ?_
  refine r_iload_n e_X1_enterFor_25 rfl ?_
  refine r_aload_n e_X1_enterFor_26 rfl ?_
  refine r_getR e_X1_enterFor_27 fl_X1_15 k0 k1 ?_
  refine r_iload_n e_X1_enterFor_30 rfl ?_
  refine cSN2v e_X1_enterFor_31 cl_X1_33 ⟨Nat.le_of_ble_eq_true rfl, Nat.le_of_ble_eq_true rfl⟩ ⟨rfl, rfl⟩  (Nat.le_of_ble_eq_true rfl) (S_X10_at k2 (by first | decide | (unfold vp_in; decide) | exact Or.inl rfl | exact Or.inr rfl)) ?_
  refine r_iload e_X1_enterFor_34 rfl ?_
  refine r_iadd e_X1_enterFor_36 ?_
  refine cSN3u e_X1_enterFor_37 cl_X1_25 ⟨Nat.le_of_ble_eq_true rfl, Nat.le_of_ble_eq_true rfl⟩ ⟨rfl, rfl⟩  (Nat.le_of_ble_eq_true rfl) (S_X10_put k2 (by first | decide | (unfold vp_in; decide) | exact Or.inl rfl | exact Or.inr rfl)) ?_
  refine r_aload_n e_X1_enterFor_40 rfl ?_
  refine r_getR e_X1_enterFor_41 fl_X1_19 k0 k3 ?_
  refine r_iload_n e_X1_enterFor_44 rfl ?_
  refine r_aload_n e_X1_enterFor_45 rfl ?_
  refine r_getR e_X1_enterFor_46 fl_X1_19 k0 k3 ?_
  refine r_iload_n e_X1_enterFor_49 rfl ?_
  refine cSN2v e_X1_enterFor_50 cl_X1_33 ⟨Nat.le_of_ble_eq_true rfl, Nat.le_of_ble_eq_true rfl⟩ ⟨rfl, rfl⟩  (Nat.le_of_ble_eq_true rfl) (S_X10_at k4 (by first | decide | (unfold vp_in; decide) | exact Or.inl rfl | exact Or.inr rfl)) ?_
  refine r_iload_n e_X1_enterFor_53 rfl ?_
  refine r_iadd e_X1_enterFor_54 ?_
  refine cSN3u e_X1_enterFor_55 cl_X1_25 ⟨Nat.le_of_ble_eq_true rfl, Nat.le_of_ble_eq_true rfl⟩ ⟨rfl, rfl⟩  (Nat.le_of_ble_eq_true rfl) (S_X10_put k4 (by first | decide | (unfold vp_in; decide) | exact Or.inl rfl | exact Or.inr rfl)) ?_
  obtain ⟨Mc1, e_Mc1⟩ : ∃ z : Mem, z = (U_X10_put (a + 2) x1 ((V_X10_at (a + 2) x1 4 (U_X10_put (a + 1) x1 ((V_X10_at (a + 1) x1 4 M) + v0_0) 4 M)) + x2) 4 (U_X10_put (a + 1) x1 ((V_X10_at (a + 1) x1 4 M) + v0_0) 4 M)) := ⟨_, rfl⟩
  rw [← e_Mc1]
  refine r_aload_n e_X1_enterFor_58 rfl ?_
  refine r_getR e_X1_enterFor_59 fl_X1_22 k0 k5 ?_
  refine r_iload_n e_X1_enterFor_62 rfl ?_
  refine r_aload_n e_X1_enterFor_63 rfl ?_
  refine r_getR e_X1_enterFor_64 fl_X1_22 k0 k5 ?_
  refine r_iload_n e_X1_enterFor_67 rfl ?_
  refine cSN2v e_X1_enterFor_68 cl_X1_33 ⟨Nat.le_of_ble_eq_true rfl, Nat.le_of_ble_eq_true rfl⟩ ⟨rfl, rfl⟩  (Nat.le_of_ble_eq_true rfl) (S_X10_at k6 (by first | decide | (unfold vp_in; decide) | exact Or.inl rfl | exact Or.inr rfl)) ?_
  refine r_iload_n e_X1_enterFor_71 rfl ?_
  refine r_iadd e_X1_enterFor_72 ?_
  refine cSN3u e_X1_enterFor_73 cl_X1_25 ⟨Nat.le_of_ble_eq_true rfl, Nat.le_of_ble_eq_true rfl⟩ ⟨rfl, rfl⟩  (Nat.le_of_ble_eq_true rfl) (S_X10_put k6 (by first | decide | (unfold vp_in; decide) | exact Or.inl rfl | exact Or.inr rfl)) ?_
  refine r_return e_X1_enterFor_76 rfl ⟨rfl, rfl⟩ ?_
  (subst e_Mc1 e_v0_0; refine ⟨?_, rfl, ?_⟩ <;> ((try unfold U_X1_enterFor); (try simp only []); (try rfl)))
def V_X1_shown (a : Nat) (x1 : Int32) (x2 : Int32) (M : Mem) : Int32 := if x2 = 0 then (V_X10_at (a + 1) x1 4 M) else (if x2 = (1 : Int32) then (V_X10_at (a + 2) x1 4 M) else (V_X10_at (a + 3) x1 4 M))
theorem S_X1_shown {sh : List SC} {M : Mem} {a : Nat} {x1 : Int32} {x2 : Int32}  (hb1 : LeagueAt sh a)  : Gv m_X1_shown [.ref a, .int x1, .int x2] sh M (.int (V_X1_shown a x1 x2 M)) M := by
  refine Sp.of (ls := [some (.ref a), some (.int x1), some (.int x2)]) (by decide +kernel) (Nat.le_of_ble_eq_true rfl) rfl ?_
  have k0 : kd sh a = some (1 + 7, 0) := hb1.1
  have k1 : rf sh a 3 = some (a + 3) := hb1.2.2.2.1
  have k2 : kd sh (a + 3) = some (0, 4) := hb1.2.2.2.2.2.2
  have k3 : rf sh a 2 = some (a + 2) := hb1.2.2.1
  have k4 : kd sh (a + 2) = some (0, 4) := hb1.2.2.2.2.2.1
  have k5 : rf sh a 1 = some (a + 1) := hb1.2.1
  have k6 : kd sh (a + 1) = some (0, 4) := hb1.2.2.2.2.1
  refine r_iload_n e_X1_shown_0 rfl ?_
  refine r_if_ne e_X1_shown_1 (fun h1_0 => ?_) (fun h1_0 => ?_)
  · refine r_iload_n e_X1_shown_11 rfl ?_
    refine r_iconst e_X1_shown_12 ic_1 ?_
    refine r_icmp_ne e_X1_shown_13 (fun h13_1 => ?_) (fun h13_1 => ?_)
    · refine r_aload_n e_X1_shown_23 rfl ?_
      refine r_getR e_X1_shown_24 fl_X1_22 k0 k1 ?_
      refine r_iload_n e_X1_shown_27 rfl ?_
      refine cSN2v e_X1_shown_28 cl_X1_33 ⟨Nat.le_of_ble_eq_true rfl, Nat.le_of_ble_eq_true rfl⟩ ⟨rfl, rfl⟩  (Nat.le_of_ble_eq_true rfl) (S_X10_at k2 (by first | decide | (unfold vp_in; decide) | exact Or.inl rfl | exact Or.inr rfl)) ?_
      refine r_ireturn e_X1_shown_31 rfl ⟨rfl, rfl⟩ ?_
      (refine ⟨?_, rfl, ?_⟩ <;> ((try unfold V_X1_shown); (try simp only [if_neg h1_0, if_neg h13_1]); (try rfl)))
    · refine r_aload_n e_X1_shown_16 rfl ?_
      refine r_getR e_X1_shown_17 fl_X1_19 k0 k3 ?_
      refine r_goto e_X1_shown_20 ?_
      refine r_iload_n e_X1_shown_27 rfl ?_
      refine cSN2v e_X1_shown_28 cl_X1_33 ⟨Nat.le_of_ble_eq_true rfl, Nat.le_of_ble_eq_true rfl⟩ ⟨rfl, rfl⟩  (Nat.le_of_ble_eq_true rfl) (S_X10_at k4 (by first | decide | (unfold vp_in; decide) | exact Or.inl rfl | exact Or.inr rfl)) ?_
      refine r_ireturn e_X1_shown_31 rfl ⟨rfl, rfl⟩ ?_
      (refine ⟨?_, rfl, ?_⟩ <;> ((try unfold V_X1_shown); (try simp only [if_neg h1_0, if_pos h13_1]); (try rfl)))
  · refine r_aload_n e_X1_shown_4 rfl ?_
    refine r_getR e_X1_shown_5 fl_X1_15 k0 k5 ?_
    refine r_goto e_X1_shown_8 ?_
    refine r_iload_n e_X1_shown_27 rfl ?_
    refine cSN2v e_X1_shown_28 cl_X1_33 ⟨Nat.le_of_ble_eq_true rfl, Nat.le_of_ble_eq_true rfl⟩ ⟨rfl, rfl⟩  (Nat.le_of_ble_eq_true rfl) (S_X10_at k6 (by first | decide | (unfold vp_in; decide) | exact Or.inl rfl | exact Or.inr rfl)) ?_
    refine r_ireturn e_X1_shown_31 rfl ⟨rfl, rfl⟩ ?_
    (refine ⟨?_, rfl, ?_⟩ <;> ((try unfold V_X1_shown); (try simp only [if_pos h1_0]); (try rfl)))
