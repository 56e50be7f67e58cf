def F_X2_open_29 (a : Nat) (x1 : Int32) (x2 : Int32) : Nat → Nat → Mem → Mem
  | 0, i29, M => M
  | n + 1, i29, M => (F_X2_open_29 a x1 x2 n (i29 + 1) (U_X5_decide (a + 10 + 2 * i29) (0 : Int32) (0 : Int32) (0 : Int32) (0 : Int32) M))
theorem L_X2_open_29 {sh : List SC} {Q : Po} {a : Nat} {x1 : Int32} {x2 : Int32}    (hb1 : MatchAt sh a)   : ∀ (n i29 : Nat) (M : Mem), i29 + n = 10 → WP m_X2_open Q 57 [some (.ref a), some (.int x1), some (.int x2), none] [] sh (F_X2_open_29 a x1 x2 n i29 M) 0 0 → WP m_X2_open Q 29 [some (.ref a), some (.int x1), some (.int x2), some (.int (nI i29))] [] sh M 0 0 := by
  have k0 : kd sh a = some (2 + 7, 0) := hb1.1
  have k1 : rf sh a 3 = some (a + 3) := hb1.2.2.2.2.1
  have k2 : kd sh (a + 3) = some (6, 10) := hb1.2.2.2.2.2.2.2.1
  intro n
  induction n with
  | zero =>
    intro i29 M hi hq
    have hz : (10 : Int32) ≤ nI i29 := by
      have q : i29 = 10 := by omega
      rw [q]; exact nI_le (Nat.le_refl _) (by decide)
    refine r_iload_n e_X2_open_29 rfl ?_
    refine r_aload_n e_X2_open_30 rfl ?_
    refine r_getR e_X2_open_31 fl_X2_20 k0 k1 ?_
    refine r_alen (v := (10 : Int32)) e_X2_open_34 k2 (by decide) rfl ?_
    refine r_icmp_ge e_X2_open_35 (fun _ => ?_) (fun hh => absurd hz hh)
    refine d_4_3 ?_
    (simp only [F_X2_open_29] at hq; first | exact hq | (simp only []; exact hq))
  | succ n ih =>
    intro i29 M hi hq
    have hlt_i29 : i29 < 10 := by omega
    have hcl_i29 : (nI i29).toNatClampNeg = i29 := nI_clamp (by omega)
    have hs : ¬ (10 : Int32) ≤ nI i29 := nI_ge (b := 10) hlt_i29 (by decide)
    refine r_iload_n e_X2_open_29 rfl ?_
    refine r_aload_n e_X2_open_30 rfl ?_
    refine r_getR e_X2_open_31 fl_X2_20 k0 k1 ?_
    refine r_alen (v := (10 : Int32)) e_X2_open_34 k2 (by decide) rfl ?_
    refine r_icmp_ge e_X2_open_35 (fun hh => absurd hh hs) (fun _ => ?_)
    refine r_aload_n e_X2_open_38 rfl ?_
    refine r_getR e_X2_open_39 fl_X2_20 k0 k1 ?_
    refine r_iload_n e_X2_open_42 rfl ?_
    refine r_aaload (b := (a + 10 + 2 * i29)) e_X2_open_43 k2 ⟨by decide, by decide⟩ (vp_in_nI (Nat.lt_of_lt_of_le hlt_i29 (by decide)) (by decide)) (by rw [hcl_i29]; exact (hb1.2.2.2.2.2.2.2.2.1 i29 (Nat.lt_of_lt_of_le hlt_i29 (by decide))).1) ?_
    refine r_iconst e_X2_open_44 ic_0 ?_
    refine r_iconst e_X2_open_45 ic_0 ?_
    refine r_iconst e_X2_open_46 ic_0 ?_
    refine r_iconst e_X2_open_47 ic_0 ?_
    refine cV4u e_X2_open_48 cl_X2_66 ⟨Nat.le_of_ble_eq_true rfl, Nat.le_of_ble_eq_true rfl⟩ ⟨rfl, rfl⟩ (show kd sh (a + 10 + 2 * i29) = some (5 + 7, 0) from (hb1.2.2.2.2.2.2.2.2.1 i29 (Nat.lt_of_lt_of_le hlt_i29 (by decide))).2.1) (Nat.le_of_ble_eq_true rfl) (S_X5_decide (hb1.2.2.2.2.2.2.2.2.1 i29 (Nat.lt_of_lt_of_le hlt_i29 (by decide))).2) ?_
    refine p_iinc_4_3 e_X2_open_51 rfl ic_1 rfl ?_
    rw [nI_1 i29]
    refine r_goto e_X2_open_54 ?_
    (simp only [F_X2_open_29] at hq; first | exact ih (i29 + 1) _ (by omega) hq | (simp only []; exact ih (i29 + 1) _ (by omega) hq))
def U_X2_open (a : Nat) (x1 : Int32) (x2 : Int32) (M : Mem) : Mem := U_X2_kickOff a (F_X2_open_29 a x1 x2 10 0 (U_X7_clear (a + 7) (setI (setI (setI (setI M a 6 (1 : Int32)) a 7 (0 : Int32)) a 8 x1) a 9 x2)))
theorem S_X2_open {sh : List SC} {M : Mem} {a : Nat} {x1 : Int32} {x2 : Int32}  (hb1 : MatchAt sh a)  : Gu m_X2_open [.ref a, .int x1, .int x2] sh M (U_X2_open a x1 x2 M) := by
  refine Sp.of (ls := [some (.ref a), some (.int x1), some (.int x2), none]) (by decide +kernel) (Nat.le_of_ble_eq_true rfl) rfl ?_
  have k0 : kd sh a = some (2 + 7, 0) := hb1.1
  have k1 : rf sh a 5 = some (a + 7) := hb1.2.2.2.2.2.2.1
  have k2 : kd sh (a + 7) = some (7 + 7, 0) := hb1.2.2.2.2.2.2.2.2.2.2.1.1
  refine r_aload_n e_X2_open_0 rfl ?_
  refine r_iconst e_X2_open_1 ic_1 ?_
  refine r_putZ e_X2_open_2 fl_X2_38 (by first | exact Or.inl rfl | exact Or.inr rfl) k0 ?_
  refine r_aload_n e_X2_open_5 rfl ?_
  refine r_iconst e_X2_open_6 ic_0 ?_
  refine r_putI e_X2_open_7 fl_X2_42 k0 ?_
  refine r_aload_n e_X2_open_10 rfl ?_
  refine r_iload_n e_X2_open_11 rfl ?_
  refine r_putI e_X2_open_12 fl_X2_46 k0 ?_
  refine r_aload_n e_X2_open_15 rfl ?_
  refine r_iload_n e_X2_open_16 rfl ?_
  refine r_putI e_X2_open_17 fl_X2_49 k0 ?_
  refine r_aload_n e_X2_open_20 rfl ?_
  refine r_getR e_X2_open_21 fl_X2_34 k0 k1 ?_
  refine cV0u e_X2_open_24 cl_X2_63 ⟨Nat.le_of_ble_eq_true rfl, Nat.le_of_ble_eq_true rfl⟩ ⟨rfl, rfl⟩ k2 (Nat.le_of_ble_eq_true rfl) (S_X7_clear hb1.2.2.2.2.2.2.2.2.2.2.1) ?_
  refine r_iconst e_X2_open_27 ic_0 ?_
  refine p_istore_n_4_3 e_X2_open_28 rfl rfl ?_
  skip
  show WP m_X2_open _ 29 [some (.ref a), some (.int x1), some (.int x2), some (.int (nI 0))] [] sh (U_X7_clear (a + 7) (setI (setI (setI (setI M a 6 (1 : Int32)) a 7 (0 : Int32)) a 8 x1) a 9 x2)) 0 0
  refine L_X2_open_29 hb1 10 0  (U_X7_clear (a + 7) (setI (setI (setI (setI M a 6 (1 : Int32)) a 7 (0 : Int32)) a 8 x1) a 9 x2)) (by omega) ?_
  refine r_aload_n e_X2_open_57 rfl ?_
  refine cV0u e_X2_open_58 cl_X2_70 ⟨Nat.le_of_ble_eq_true rfl, Nat.le_of_ble_eq_true rfl⟩ ⟨rfl, rfl⟩ k0 (Nat.le_of_ble_eq_true rfl) (S_X2_kickOff hb1) ?_
  refine r_return e_X2_open_61 rfl ⟨rfl, rfl⟩ ?_
  (refine ⟨?_, rfl, ?_⟩ <;> ((try unfold U_X2_open); (try simp only []); (try rfl)))
def V_X10_begin (x1 : Int32) (x2 : Int32) (M : Mem) : Int32 := if (V_X10_isTeam x1 M) = 0 then (V_X10_finding (-1001 : Int32) M) else (if (V_X10_isTeam x2 M) = 0 then (V_X10_finding (-1001 : Int32) M) else (1 : Int32))
def U_X10_begin (x1 : Int32) (x2 : Int32) (M : Mem) : Mem := if (V_X10_isTeam x1 M) = 0 then (U_X10_finding (-1001 : Int32) M) else (if (V_X10_isTeam x2 M) = 0 then (U_X10_finding (-1001 : Int32) M) else (U_X2_open 122 x1 x2 M))
theorem S_X10_begin {sh : List SC} {M : Mem} {x1 : Int32} {x2 : Int32}  (hb1 : PitchAt sh)  : Gv m_X10_begin [.ref 0, .int x1, .int x2] sh M (.int (V_X10_begin x1 x2 M)) (U_X10_begin x1 x2 M) := by
  refine Sp.of (ls := [some (.ref 0), some (.int x1), some (.int x2)]) (by decide +kernel) (Nat.le_of_ble_eq_true rfl) rfl ?_
  have k0 : kd sh 0 = some (9 + 7, 0) := hb1.1
  have k1 : rf sh 0 4 = some 122 := hb1.2.2.2.2.2.1
  have k2 : kd sh 122 = some (2 + 7, 0) := hb1.2.2.2.2.2.2.2.2.2.2.2.2.2.2.2.2.1.1
  refine r_iload_n e_X10_begin_0 rfl ?_
  refine cS1v e_X10_begin_1 cl_X10_89 ⟨Nat.le_of_ble_eq_true rfl, Nat.le_of_ble_eq_true rfl⟩ ⟨rfl, rfl⟩  (Nat.le_of_ble_eq_true rfl) (S_X10_isTeam ) ?_
  refine r_if_eq e_X10_begin_4 (fun h4_0 => ?_) (fun h4_0 => ?_)
  · refine r_aload_n e_X10_begin_14 rfl ?_
    refine r_sipush e_X10_begin_15 sp_m1001 ?_
    refine cV1v e_X10_begin_18 cl_X10_70 ⟨Nat.le_of_ble_eq_true rfl, Nat.le_of_ble_eq_true rfl⟩ ⟨rfl, rfl⟩ k0 (Nat.le_of_ble_eq_true rfl) (S_X10_finding hb1) ?_
    refine r_ireturn e_X10_begin_21 rfl ⟨rfl, rfl⟩ ?_
    (refine ⟨?_, rfl, ?_⟩ <;> ((try unfold V_X10_begin); (try unfold U_X10_begin); (try simp only [if_pos h4_0]); (try rfl)))
  · refine r_iload_n e_X10_begin_7 rfl ?_
    refine cS1v e_X10_begin_8 cl_X10_89 ⟨Nat.le_of_ble_eq_true rfl, Nat.le_of_ble_eq_true rfl⟩ ⟨rfl, rfl⟩  (Nat.le_of_ble_eq_true rfl) (S_X10_isTeam ) ?_
    refine r_if_ne e_X10_begin_11 (fun h11_1 => ?_) (fun h11_1 => ?_)
    · refine r_aload_n e_X10_begin_22 rfl ?_
      refine r_getR e_X10_begin_23 fl_X10_63 k0 k1 ?_
      refine r_iload_n e_X10_begin_26 rfl ?_
      refine r_iload_n e_X10_begin_27 rfl ?_
      refine cV2u e_X10_begin_28 cl_X10_111 ⟨Nat.le_of_ble_eq_true rfl, Nat.le_of_ble_eq_true rfl⟩ ⟨rfl, rfl⟩ k2 (Nat.le_of_ble_eq_true rfl) (S_X2_open hb1.2.2.2.2.2.2.2.2.2.2.2.2.2.2.2.2.1) ?_
      refine r_iconst e_X10_begin_31 ic_1 ?_
      refine r_ireturn e_X10_begin_32 rfl ⟨rfl, rfl⟩ ?_
      (refine ⟨?_, rfl, ?_⟩ <;> ((try unfold V_X10_begin); (try unfold U_X10_begin); (try simp only [if_neg h4_0, if_neg h11_1]); (try rfl)))
    · refine r_aload_n e_X10_begin_14 rfl ?_
      refine r_sipush e_X10_begin_15 sp_m1001 ?_
      refine cV1v e_X10_begin_18 cl_X10_70 ⟨Nat.le_of_ble_eq_true rfl, Nat.le_of_ble_eq_true rfl⟩ ⟨rfl, rfl⟩ k0 (Nat.le_of_ble_eq_true rfl) (S_X10_finding hb1) ?_
      refine r_ireturn e_X10_begin_21 rfl ⟨rfl, rfl⟩ ?_
      (refine ⟨?_, rfl, ?_⟩ <;> ((try unfold V_X10_begin); (try unfold U_X10_begin); (try simp only [if_neg h4_0, if_pos h11_1]); (try rfl)))
