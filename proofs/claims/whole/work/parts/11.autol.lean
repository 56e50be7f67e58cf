def V_X2_applyLaws (a : Nat) (x1 : Int32) (M : Mem) : Int32 := if x1 = 0 then (if (V_X0_hasSlept (a + 4) M) = 0 then (if ((U_X0_hasSlept (a + 4) M).1 (a + 4) 2) < 0 then (let v3_0 : Int32 := if (V_X2_thinsCrowd a (0 : Int32) (U_X0_hasSlept (a + 4) M)) = 0 then (if (V_X2_thinsCrowd a (1 : Int32) (U_X2_thinsCrowd a (0 : Int32) (U_X0_hasSlept (a + 4) M))) = 0 then (-1 : Int32) else (3 : Int32)) else (3 : Int32); let M3_1 : Mem := if (V_X2_thinsCrowd a (0 : Int32) (U_X0_hasSlept (a + 4) M)) = 0 then (U_X2_thinsCrowd a (1 : Int32) (U_X2_thinsCrowd a (0 : Int32) (U_X0_hasSlept (a + 4) M))) else (U_X2_thinsCrowd a (0 : Int32) (U_X0_hasSlept (a + 4) M)); v3_0) else (if (((U_X0_hasSlept (a + 4) M).1 a 7) - ((U_X0_hasSlept (a + 4) M).1 (a + 4) 3)) < (12 : Int32) then (let v6_0 : Int32 := if (V_X2_thinsCrowd a (0 : Int32) (U_X0_hasSlept (a + 4) M)) = 0 then (if (V_X2_thinsCrowd a (1 : Int32) (U_X2_thinsCrowd a (0 : Int32) (U_X0_hasSlept (a + 4) M))) = 0 then (-1 : Int32) else (3 : Int32)) else (3 : Int32); let M6_1 : Mem := if (V_X2_thinsCrowd a (0 : Int32) (U_X0_hasSlept (a + 4) M)) = 0 then (U_X2_thinsCrowd a (1 : Int32) (U_X2_thinsCrowd a (0 : Int32) (U_X0_hasSlept (a + 4) M))) else (U_X2_thinsCrowd a (0 : Int32) (U_X0_hasSlept (a + 4) M)); v6_0) else (2 : Int32))) else (1 : Int32)) else (let v8_0 : Int32 := if x1 = (2 : Int32) then (1 : Int32) else (0 : Int32); (0 : Int32))
def U_X2_applyLaws (a : Nat) (x1 : Int32) (M : Mem) : Mem := if x1 = 0 then (if (V_X0_hasSlept (a + 4) M) = 0 then (if ((U_X0_hasSlept (a + 4) M).1 (a + 4) 2) < 0 then (let v3_0 : Int32 := if (V_X2_thinsCrowd a (0 : Int32) (U_X0_hasSlept (a + 4) M)) = 0 then (if (V_X2_thinsCrowd a (1 : Int32) (U_X2_thinsCrowd a (0 : Int32) (U_X0_hasSlept (a + 4) M))) = 0 then (-1 : Int32) else (3 : Int32)) else (3 : Int32); let M3_1 : Mem := if (V_X2_thinsCrowd a (0 : Int32) (U_X0_hasSlept (a + 4) M)) = 0 then (U_X2_thinsCrowd a (1 : Int32) (U_X2_thinsCrowd a (0 : Int32) (U_X0_hasSlept (a + 4) M))) else (U_X2_thinsCrowd a (0 : Int32) (U_X0_hasSlept (a + 4) M)); M3_1) else (if (((U_X0_hasSlept (a + 4) M).1 a 7) - ((U_X0_hasSlept (a + 4) M).1 (a + 4) 3)) < (12 : Int32) then (let v6_0 : Int32 := if (V_X2_thinsCrowd a (0 : Int32) (U_X0_hasSlept (a + 4) M)) = 0 then (if (V_X2_thinsCrowd a (1 : Int32) (U_X2_thinsCrowd a (0 : Int32) (U_X0_hasSlept (a + 4) M))) = 0 then (-1 : Int32) else (3 : Int32)) else (3 : Int32); let M6_1 : Mem := if (V_X2_thinsCrowd a (0 : Int32) (U_X0_hasSlept (a + 4) M)) = 0 then (U_X2_thinsCrowd a (1 : Int32) (U_X2_thinsCrowd a (0 : Int32) (U_X0_hasSlept (a + 4) M))) else (U_X2_thinsCrowd a (0 : Int32) (U_X0_hasSlept (a + 4) M)); M6_1) else (U_X2_giveToFoe a (U_X0_hasSlept (a + 4) M)))) else (U_X2_putBall a (U_X0_hasSlept (a + 4) M))) else (let v8_0 : Int32 := if x1 = (2 : Int32) then (1 : Int32) else (0 : Int32); U_X2_kickOff a (U_X7_addGoal (a + 7) v8_0 (M.1 a 7) M))
def P_X2_applyLaws (a : Nat) (x1 : Int32) (M : Mem) : Prop := (x1 = 0 → (V_X0_hasSlept (a + 4) M) = 0 → ¬ (((U_X0_hasSlept (a + 4) M).1 (a + 4) 2) < 0) → ¬ ((((U_X0_hasSlept (a + 4) M).1 a 7) - ((U_X0_hasSlept (a + 4) M).1 (a + 4) 3)) < (12 : Int32)) → P_X2_giveToFoe a (U_X0_hasSlept (a + 4) M))
theorem S_X2_applyLaws {sh : List SC} {M : Mem} {a : Nat} {x1 : Int32}  (hb1 : MatchAt sh a)  (hP : P_X2_applyLaws a x1 M) : Gv m_X2_applyLaws [.ref a, .int x1] sh M (.int (V_X2_applyLaws a x1 M)) (U_X2_applyLaws a x1 M) := by
  refine Sp.of (ls := [some (.ref a), some (.int x1)]) (by decide +kernel) (Nat.le_of_ble_eq_true rfl) rfl ?_
  have g1 : x1 = 0 → (V_X0_hasSlept (a + 4) M) = 0 → ¬ (((U_X0_hasSlept (a + 4) M).1 (a + 4) 2) < 0) → ¬ ((((U_X0_hasSlept (a + 4) M).1 a 7) - ((U_X0_hasSlept (a + 4) M).1 (a + 4) 3)) < (12 : Int32)) → P_X2_giveToFoe a (U_X0_hasSlept (a + 4) M) := hP
  have k0 : kd sh a = some (2 + 7, 0) := hb1.1
  have k1 : rf sh a 4 = some (a + 4) := hb1.2.2.2.2.2.1
  have k2 : kd sh (a + 4) = some (0 + 7, 0) := hb1.2.2.2.2.2.2.2.2.2.1.1
  have k3 : rf sh a 5 = some (a + 7) := hb1.2.2.2.2.2.2.1
  have k4 : kd sh (a + 7) = some (7 + 7, 0) := hb1.2.2.2.2.2.2.2.2.2.2.1.1
  refine r_iload_n e_X2_applyLaws_0 rfl ?_
  refine r_if_eq e_X2_applyLaws_1 (fun h1_0 => ?_) (fun h1_0 => ?_)
  · refine r_aload_n e_X2_applyLaws_31 rfl ?_
    refine r_getR e_X2_applyLaws_32 fl_X2_27 k0 k1 ?_
    refine cV0v e_X2_applyLaws_35 cl_X2_251 ⟨Nat.le_of_ble_eq_true rfl, Nat.le_of_ble_eq_true rfl⟩ ⟨rfl, rfl⟩ k2 (Nat.le_of_ble_eq_true rfl) (S_X0_hasSlept hb1.2.2.2.2.2.2.2.2.2.1) ?_
    refine r_if_eq e_X2_applyLaws_38 (fun h38_1 => ?_) (fun h38_1 => ?_)
    · refine r_aload_n e_X2_applyLaws_47 rfl ?_
      refine r_getR e_X2_applyLaws_48 fl_X2_27 k0 k1 ?_
      refine r_getI e_X2_applyLaws_51 fl_X2_132 i0 k2 ?_
      refine r_if_lt e_X2_applyLaws_54 (fun h54_2 => ?_) (fun h54_2 => ?_)
      · refine r_aload_n e_X2_applyLaws_80 rfl ?_
        refine r_iconst e_X2_applyLaws_81 ic_0 ?_
        refine cV1v e_X2_applyLaws_82 cl_X2_258 ⟨Nat.le_of_ble_eq_true rfl, Nat.le_of_ble_eq_true rfl⟩ ⟨rfl, rfl⟩ k0 (Nat.le_of_ble_eq_true rfl) (S_X2_thinsCrowd hb1) ?_
        obtain ⟨v3_0, e_v3_0⟩ : ∃ z : Int32, z = (if (V_X2_thinsCrowd a (0 : Int32) (U_X0_hasSlept (a + 4) M)) = 0 then (if (V_X2_thinsCrowd a (1 : Int32) (U_X2_thinsCrowd a (0 : Int32) (U_X0_hasSlept (a + 4) M))) = 0 then (-1 : Int32) else (3 : Int32)) else (3 : Int32)) := ⟨_, rfl⟩
        obtain ⟨M3_1, e_M3_1⟩ : ∃ z : Mem, z = (if (V_X2_thinsCrowd a (0 : Int32) (U_X0_hasSlept (a + 4) M)) = 0 then (U_X2_thinsCrowd a (1 : Int32) (U_X2_thinsCrowd a (0 : Int32) (U_X0_hasSlept (a + 4) M))) else (U_X2_thinsCrowd a (0 : Int32) (U_X0_hasSlept (a + 4) M))) := ⟨_, rfl⟩
        suffices j101_3 : WP m_X2_applyLaws (fun r sh' M'' => r = some (.int (V_X2_applyLaws a x1 M)) ∧ sh' = sh ∧ M'' = (U_X2_applyLaws a x1 M)) 101 [some (.ref a), some (.int x1)] [.int v3_0] sh M3_1 0 0 by
          refine r_if_ne e_X2_applyLaws_85 (fun h85_3 => ?_) (fun h85_3 => ?_)
          · refine r_iconst e_X2_applyLaws_96 ic_3 ?_
            refine r_goto e_X2_applyLaws_97 ?_
            (rw [show v3_0 = (3 : Int32) from (e_v3_0.trans (if_neg h85_3)), show M3_1 = U_X2_thinsCrowd a (0 : Int32) (U_X0_hasSlept (a + 4) M) from (e_M3_1.trans (if_neg h85_3))] at j101_3; exact j101_3)
          · refine r_aload_n e_X2_applyLaws_88 rfl ?_
            refine r_iconst e_X2_applyLaws_89 ic_1 ?_
            refine cV1v e_X2_applyLaws_90 cl_X2_258 ⟨Nat.le_of_ble_eq_true rfl, Nat.le_of_ble_eq_true rfl⟩ ⟨rfl, rfl⟩ k0 (Nat.le_of_ble_eq_true rfl) (S_X2_thinsCrowd hb1) ?_
            refine r_if_eq e_X2_applyLaws_93 (fun h93_4 => ?_) (fun h93_4 => ?_)
            · refine r_iconst e_X2_applyLaws_100 ic_m1 ?_
              (rw [show v3_0 = (-1 : Int32) from ((e_v3_0.trans (if_pos h85_3)).trans (if_pos h93_4)), show M3_1 = U_X2_thinsCrowd a (1 : Int32) (U_X2_thinsCrowd a (0 : Int32) (U_X0_hasSlept (a + 4) M)) from (e_M3_1.trans (if_pos h85_3))] at j101_3; exact j101_3)
            · refine r_iconst e_X2_applyLaws_96 ic_3 ?_
              refine r_goto e_X2_applyLaws_97 ?_
              (rw [show v3_0 = (3 : Int32) from ((e_v3_0.trans (if_pos h85_3)).trans (if_neg h93_4)), show M3_1 = U_X2_thinsCrowd a (1 : Int32) (U_X2_thinsCrowd a (0 : Int32) (U_X0_hasSlept (a + 4) M)) from (e_M3_1.trans (if_pos h85_3))] at j101_3; exact j101_3)
        refine r_ireturn e_X2_applyLaws_101 rfl ⟨rfl, rfl⟩ ?_
        (subst e_M3_1 e_v3_0; refine ⟨?_, rfl, ?_⟩ <;> ((try unfold V_X2_applyLaws); (try unfold U_X2_applyLaws); (try simp only [if_pos h1_0, if_pos h38_1, if_pos h54_2]); (try rfl)))
      · refine r_aload_n e_X2_applyLaws_57 rfl ?_
        refine r_getI e_X2_applyLaws_58 fl_X2_42 i0 k0 ?_
        refine r_aload_n e_X2_applyLaws_61 rfl ?_
        refine r_getR e_X2_applyLaws_62 fl_X2_27 k0 k1 ?_
        refine r_getI e_X2_applyLaws_65 fl_X2_232 i0 k2 ?_
        refine r_isub e_X2_applyLaws_68 ?_
        refine r_bipush e_X2_applyLaws_69 bp_12 ?_
        refine r_icmp_lt e_X2_applyLaws_71 (fun h71_5 => ?_) (fun h71_5 => ?_)
        · refine r_aload_n e_X2_applyLaws_80 rfl ?_
          refine r_iconst e_X2_applyLaws_81 ic_0 ?_
          refine cV1v e_X2_applyLaws_82 cl_X2_258 ⟨Nat.le_of_ble_eq_true rfl, Nat.le_of_ble_eq_true rfl⟩ ⟨rfl, rfl⟩ k0 (Nat.le_of_ble_eq_true rfl) (S_X2_thinsCrowd hb1) ?_
          obtain ⟨v6_0, e_v6_0⟩ : ∃ z : Int32, z = (if (V_X2_thinsCrowd a (0 : Int32) (U_X0_hasSlept (a + 4) M)) = 0 then (if (V_X2_thinsCrowd a (1 : Int32) (U_X2_thinsCrowd a (0 : Int32) (U_X0_hasSlept (a + 4) M))) = 0 then (-1 : Int32) else (3 : Int32)) else (3 : Int32)) := ⟨_, rfl⟩
          obtain ⟨M6_1, e_M6_1⟩ : ∃ z : Mem, z = (if (V_X2_thinsCrowd a (0 : Int32) (U_X0_hasSlept (a + 4) M)) = 0 then (U_X2_thinsCrowd a (1 : Int32) (U_X2_thinsCrowd a (0 : Int32) (U_X0_hasSlept (a + 4) M))) else (U_X2_thinsCrowd a (0 : Int32) (U_X0_hasSlept (a + 4) M))) := ⟨_, rfl⟩
          suffices j101_6 : WP m_X2_applyLaws (fun r sh' M'' => r = some (.int (V_X2_applyLaws a x1 M)) ∧ sh' = sh ∧ M'' = (U_X2_applyLaws a x1 M)) 101 [some (.ref a), some (.int x1)] [.int v6_0] sh M6_1 0 0 by
            refine r_if_ne e_X2_applyLaws_85 (fun h85_6 => ?_) (fun h85_6 => ?_)
            · refine r_iconst e_X2_applyLaws_96 ic_3 ?_
              refine r_goto e_X2_applyLaws_97 ?_
              (rw [show v6_0 = (3 : Int32) from (e_v6_0.trans (if_neg h85_6)), show M6_1 = U_X2_thinsCrowd a (0 : Int32) (U_X0_hasSlept (a + 4) M) from (e_M6_1.trans (if_neg h85_6))] at j101_6; exact j101_6)
            · refine r_aload_n e_X2_applyLaws_88 rfl ?_
              refine r_iconst e_X2_applyLaws_89 ic_1 ?_
              refine cV1v e_X2_applyLaws_90 cl_X2_258 ⟨Nat.le_of_ble_eq_true rfl, Nat.le_of_ble_eq_true rfl⟩ ⟨rfl, rfl⟩ k0 (Nat.le_of_ble_eq_true rfl) (S_X2_thinsCrowd hb1) ?_
              refine r_if_eq e_X2_applyLaws_93 (fun h93_7 => ?_) (fun h93_7 => ?_)
              · refine r_iconst e_X2_applyLaws_100 ic_m1 ?_
                (rw [show v6_0 = (-1 : Int32) from ((e_v6_0.trans (if_pos h85_6)).trans (if_pos h93_7)), show M6_1 = U_X2_thinsCrowd a (1 : Int32) (U_X2_thinsCrowd a (0 : Int32) (U_X0_hasSlept (a + 4) M)) from (e_M6_1.trans (if_pos h85_6))] at j101_6; exact j101_6)
              · refine r_iconst e_X2_applyLaws_96 ic_3 ?_
                refine r_goto e_X2_applyLaws_97 ?_
                (rw [show v6_0 = (3 : Int32) from ((e_v6_0.trans (if_pos h85_6)).trans (if_neg h93_7)), show M6_1 = U_X2_thinsCrowd a (1 : Int32) (U_X2_thinsCrowd a (0 : Int32) (U_X0_hasSlept (a + 4) M)) from (e_M6_1.trans (if_pos h85_6))] at j101_6; exact j101_6)
          refine r_ireturn e_X2_applyLaws_101 rfl ⟨rfl, rfl⟩ ?_
          (subst e_M6_1 e_v6_0; refine ⟨?_, rfl, ?_⟩ <;> ((try unfold V_X2_applyLaws); (try unfold U_X2_applyLaws); (try simp only [if_pos h1_0, if_pos h38_1, if_neg h54_2, if_pos h71_5]); (try rfl)))
        · refine r_aload_n e_X2_applyLaws_74 rfl ?_
          refine cV0u e_X2_applyLaws_75 cl_X2_255 ⟨Nat.le_of_ble_eq_true rfl, Nat.le_of_ble_eq_true rfl⟩ ⟨rfl, rfl⟩ k0 (Nat.le_of_ble_eq_true rfl) (S_X2_giveToFoe hb1 (g1 h1_0 h38_1 h54_2 h71_5)) ?_
          refine r_iconst e_X2_applyLaws_78 ic_2 ?_
          refine r_ireturn e_X2_applyLaws_79 rfl ⟨rfl, rfl⟩ ?_
          (refine ⟨?_, rfl, ?_⟩ <;> ((try unfold V_X2_applyLaws); (try unfold U_X2_applyLaws); (try simp only [if_pos h1_0, if_pos h38_1, if_neg h54_2, if_neg h71_5]); (try rfl)))
    · refine r_aload_n e_X2_applyLaws_41 rfl ?_
      refine cV0u e_X2_applyLaws_42 cl_X2_104 ⟨Nat.le_of_ble_eq_true rfl, Nat.le_of_ble_eq_true rfl⟩ ⟨rfl, rfl⟩ k0 (Nat.le_of_ble_eq_true rfl) (S_X2_putBall hb1) ?_
      refine r_iconst e_X2_applyLaws_45 ic_1 ?_
      refine r_ireturn e_X2_applyLaws_46 rfl ⟨rfl, rfl⟩ ?_
      (refine ⟨?_, rfl, ?_⟩ <;> ((try unfold V_X2_applyLaws); (try unfold U_X2_applyLaws); (try simp only [if_pos h1_0, if_neg h38_1]); (try rfl)))
  · refine r_aload_n e_X2_applyLaws_4 rfl ?_
    refine r_getR e_X2_applyLaws_5 fl_X2_34 k0 k3 ?_
    refine r_iload_n e_X2_applyLaws_8 rfl ?_
    refine r_iconst e_X2_applyLaws_9 ic_2 ?_
    obtain ⟨v8_0, e_v8_0⟩ : ∃ z : Int32, z = (if x1 = (2 : Int32) then (1 : Int32) else (0 : Int32)) := ⟨_, rfl⟩
    have z_v8_0 : v8_0 = 0 ∨ v8_0 = 1 := by rw [e_v8_0]; exact (zi (Or.inr rfl) (Or.inl rfl))
    suffices j18_8 : WP m_X2_applyLaws (fun r sh' M'' => r = some (.int (V_X2_applyLaws a x1 M)) ∧ sh' = sh ∧ M'' = (U_X2_applyLaws a x1 M)) 18 [some (.ref a), some (.int x1)] [.int v8_0, .ref (a + 7)] sh M 0 0 by
      refine r_icmp_ne e_X2_applyLaws_10 (fun h10_8 => ?_) (fun h10_8 => ?_)
      · refine r_iconst e_X2_applyLaws_17 ic_0 ?_
        (rw [show v8_0 = (0 : Int32) from (e_v8_0.trans (if_neg h10_8))] at j18_8; exact j18_8)
      · refine r_iconst e_X2_applyLaws_13 ic_1 ?_
        refine r_goto e_X2_applyLaws_14 ?_
        (rw [show v8_0 = (1 : Int32) from (e_v8_0.trans (if_pos h10_8))] at j18_8; exact j18_8)
    refine r_aload_n e_X2_applyLaws_18 rfl ?_
    refine r_getI e_X2_applyLaws_19 fl_X2_42 i0 k0 ?_
    refine cV2u e_X2_applyLaws_22 cl_X2_247 ⟨Nat.le_of_ble_eq_true rfl, Nat.le_of_ble_eq_true rfl⟩ ⟨rfl, rfl⟩ k4 (Nat.le_of_ble_eq_true rfl) (S_X7_addGoal hb1.2.2.2.2.2.2.2.2.2.2.1) ?_
    refine r_aload_n e_X2_applyLaws_25 rfl ?_
    refine cV0u e_X2_applyLaws_26 cl_X2_70 ⟨Nat.le_of_ble_eq_true rfl, Nat.le_of_ble_eq_true rfl⟩ ⟨rfl, rfl⟩ k0 (Nat.le_of_ble_eq_true rfl) (S_X2_kickOff hb1) ?_
    refine r_iconst e_X2_applyLaws_29 ic_0 ?_
    refine r_ireturn e_X2_applyLaws_30 rfl ⟨rfl, rfl⟩ ?_
    (subst e_v8_0; refine ⟨?_, rfl, ?_⟩ <;> ((try unfold V_X2_applyLaws); (try unfold U_X2_applyLaws); (try simp only [if_neg h1_0]); (try rfl)))
def F_X11_product_5 : Nat → Int32 → Mem → Int32 × Mem
  | 0, u1, M => (u1, M)
  | n + 1, u1, M => if u1 = 0 then (u1, M) else (if (M.1 242 5) = (42 : Int32) then (F_X11_product_5  n (V_X11_term  (U_X11_keepWord  M)) (U_X11_term  (U_X11_keepWord  M))) else (u1, M))
def T_X11_product_5 : Nat → Int32 → Mem → Prop
  | 0, u1, M => False
  | n + 1, u1, M => (vp_in (((800 : Int32) * (M.1 242 8)) + (M.1 242 11)) 4800) ∧ (P_X11_keepWord  M) ∧ (P_X11_term  (U_X11_keepWord  M)) ∧ (if u1 = 0 then True else (if (M.1 242 5) = (42 : Int32) then (T_X11_product_5  n (V_X11_term  (U_X11_keepWord  M)) (U_X11_term  (U_X11_keepWord  M))) else True))
theorem L_X11_product_5 {sh : List SC} {Q : Po}  {mA : Nat} {oA : Nat}   (hb1 : ModelAt sh mA oA)   : ∀ (n : Nat) (u1 : Int32) (M : Mem), T_X11_product_5  n u1 M → WP m_X11_product Q 31 [some (.ref 242), some (.int ((F_X11_product_5  n u1 M).1))] [] sh ((F_X11_product_5  n u1 M).2) 0 0 → WP m_X11_product Q 5 [some (.ref 242), some (.int u1)] [] sh M 0 0 := by
  have k0 : kd sh 242 = some (10 + 7, 0) := hb1.1
  intro n
  induction n with
  | zero =>
    intro u1 M hH hq
    exact hH.elim
  | succ n ih =>
    intro u1 M hH hq
    unfold T_X11_product_5 at hH
    obtain ⟨g1, g2, g3, hH⟩ := hH
    refine r_iload_n e_X11_product_5 rfl ?_
    refine r_if_eq e_X11_product_6 (fun h6_500 => ?_) (fun h6_500 => ?_)
    · (simp only [F_X11_product_5, if_pos h6_500] at hq; first | exact hq | (simp only [if_pos h6_500]; exact hq))
    · refine r_aload_n e_X11_product_9 rfl ?_
      refine r_getI e_X11_product_10 fl_X11_28 i0 k0 ?_
      refine r_bipush e_X11_product_13 bp_42 ?_
      refine r_icmp_ne e_X11_product_15 (fun h15_501 => ?_) (fun h15_501 => ?_)
      · (simp only [F_X11_product_5, if_neg h6_500, if_neg h15_501] at hq; first | exact hq | (simp only [if_neg h6_500, if_neg h15_501]; exact hq))
      · refine r_aload_n e_X11_product_18 rfl ?_
        refine cV0v e_X11_product_19 cl_X11_117 ⟨Nat.le_of_ble_eq_true rfl, Nat.le_of_ble_eq_true rfl⟩ ⟨rfl, rfl⟩ k0 (Nat.le_of_ble_eq_true rfl) (S_X11_keepWord hb1 g1 g2) ?_
        refine r_pop e_X11_product_22 rfl ?_
        refine r_aload_n e_X11_product_23 rfl ?_
        refine cV0v e_X11_product_24 cl_X11_144 ⟨Nat.le_of_ble_eq_true rfl, Nat.le_of_ble_eq_true rfl⟩ ⟨rfl, rfl⟩ k0 (Nat.le_of_ble_eq_true rfl) (S_X11_term hb1 g3) ?_
        refine p_istore_n_2_1 e_X11_product_27 rfl rfl ?_
        refine r_goto e_X11_product_28 ?_
        (simp only [F_X11_product_5, if_neg h6_500, if_pos h15_501] at hq; (try simp only [if_neg h6_500, if_pos h15_501] at hH); first | exact ih _ _ hH hq | (simp only [if_neg h6_500, if_pos h15_501]; exact ih _ _ hH hq))
theorem ZF_X11_product_5 : ∀ (n : Nat) (u1 : Int32) (M : Mem), (u1 = 0 ∨ u1 = 1) → (F_X11_product_5  n u1 M).1 = 0 ∨ (F_X11_product_5  n u1 M).1 = 1 := by
  intro n
  induction n with
  | zero => intro u1 M h; exact h
  | succ n ih => intro u1 M h; unfold F_X11_product_5; (try dsimp only); (repeat' split) <;> first | exact h | exact Or.inl rfl | exact Or.inr rfl | exact ih _ _ Z_X11_term | exact ih _ _ (Or.inl rfl) | exact ih _ _ (Or.inr rfl)
def V_X11_product (M : Mem) : Int32 := ((F_X11_product_5  FUEL (V_X11_term  M) (U_X11_term  M)).1)
theorem Z_X11_product {M : Mem}    : V_X11_product  M = 0 ∨ V_X11_product  M = 1 := (ZF_X11_product_5 _ _ _ Z_X11_term)
def U_X11_product (M : Mem) : Mem := ((F_X11_product_5  FUEL (V_X11_term  M) (U_X11_term  M)).2)
def P_X11_product (M : Mem) : Prop := (P_X11_term  M) ∧ (T_X11_product_5  FUEL (V_X11_term  M) (U_X11_term  M))
theorem S_X11_product {sh : List SC} {M : Mem}  {mA : Nat} {oA : Nat} (hb1 : ModelAt sh mA oA)  (hP : P_X11_product  M) : Gv m_X11_product [.ref 242] sh M (.int (V_X11_product  M)) (U_X11_product  M) := by
  refine Sp.of (ls := [some (.ref 242), none]) (by decide +kernel) (Nat.le_of_ble_eq_true rfl) rfl ?_
  obtain ⟨g1, g2⟩ := hP
  have k0 : kd sh 242 = some (10 + 7, 0) := hb1.1
  refine r_aload_n e_X11_product_0 rfl ?_
  refine cV0v e_X11_product_1 cl_X11_144 ⟨Nat.le_of_ble_eq_true rfl, Nat.le_of_ble_eq_true rfl⟩ ⟨rfl, rfl⟩ k0 (Nat.le_of_ble_eq_true rfl) (S_X11_term hb1 g1) ?_
  refine p_istore_n_2_1 e_X11_product_4 rfl rfl ?_
  refine L_X11_product_5 hb1 FUEL (V_X11_term  M) (U_X11_term  M) g2 ?_
  refine r_iload_n e_X11_product_31 rfl ?_
  refine r_zreturn e_X11_product_32 rfl ⟨rfl, rfl⟩ (ZF_X11_product_5 _ _ _ (Z_X11_term)) ?_
  (refine ⟨?_, rfl, ?_⟩ <;> ((try unfold V_X11_product); (try unfold U_X11_product); (try simp only []); (try rfl)))
def F_X11_kickOff_127 (x1 : Int32) (mA : Nat) (w3 : Int32) (w4 : Int32) (i2 : Nat) : Nat → Nat → Mem → Mem
  | 0, i127, M => M
  | n + 1, i127, M => (F_X11_kickOff_127 x1 mA w3 w4 i2 n (i127 + 1) (U_X11_set (nI i2) ((4 : Int32) + (nI i127)) (0 : Int32) mA M))
theorem L_X11_kickOff_127 {sh : List SC} {Q : Po} {x1 : Int32} {mA : Nat} {oA : Nat} {w3 : Int32} {w4 : Int32} {i2 : Nat} (hb1 : ModelAt sh mA oA) (g1 : ∀ i127 : Nat, i127 < 4 → ∀ i2 : Nat, i2 < 10 → vp_in (((44 : Int32) + ((16 : Int32) * (nI i2))) + ((4 : Int32) + (nI i127))) 212) (hlt_i2 : i2 < 10) : ∀ (n i127 : Nat) (M : Mem), i127 + n = 4 → WP m_X11_kickOff Q 149 [some (.ref 242), some (.int x1), some (.int (nI i2)), some (.int w3), some (.int w4), none] [] sh (F_X11_kickOff_127 x1 mA w3 w4 i2 n i127 M) 0 0 → WP m_X11_kickOff Q 127 [some (.ref 242), some (.int x1), some (.int (nI i2)), some (.int w3), some (.int w4), some (.int (nI i127))] [] sh M 0 0 := by
  have k0 : kd sh 242 = some (10 + 7, 0) := hb1.1
  have hcl_i2 : (nI i2).toNatClampNeg = i2 := nI_clamp (by omega)
  intro n
  induction n with
  | zero =>
    intro i127 M hi hq
    have hz : (4 : Int32) ≤ nI i127 := by
      have q : i127 = 4 := by omega
      rw [q]; exact nI_le (Nat.le_refl _) (by decide)
    refine r_iload e_X11_kickOff_127 rfl ?_
    refine r_iconst e_X11_kickOff_129 ic_4 ?_
    refine r_icmp_ge e_X11_kickOff_130 (fun _ => ?_) (fun hh => absurd hz hh)
    refine d_6_5 ?_
    (simp only [F_X11_kickOff_127] at hq; first | exact hq | (simp only []; exact hq))
  | succ n ih =>
    intro i127 M hi hq
    have hlt_i127 : i127 < 4 := by omega
    have hcl_i127 : (nI i127).toNatClampNeg = i127 := nI_clamp (by omega)
    have hs : ¬ (4 : Int32) ≤ nI i127 := nI_ge (b := 4) hlt_i127 (by decide)
    refine r_iload e_X11_kickOff_127 rfl ?_
    refine r_iconst e_X11_kickOff_129 ic_4 ?_
    refine r_icmp_ge e_X11_kickOff_130 (fun hh => absurd hh hs) (fun _ => ?_)
    refine r_aload_n e_X11_kickOff_133 rfl ?_
    refine r_iload_n e_X11_kickOff_134 rfl ?_
    refine r_iconst e_X11_kickOff_135 ic_4 ?_
    refine r_iload e_X11_kickOff_136 rfl ?_
    refine r_iadd e_X11_kickOff_138 ?_
    refine r_iconst e_X11_kickOff_139 ic_0 ?_
    refine cV3u e_X11_kickOff_140 cl_X11_282 ⟨Nat.le_of_ble_eq_true rfl, Nat.le_of_ble_eq_true rfl⟩ ⟨rfl, rfl⟩ k0 (Nat.le_of_ble_eq_true rfl) (S_X11_set hb1 (g1 i127 hlt_i127 i2 hlt_i2)) ?_
    refine p_iinc_6_5 e_X11_kickOff_143 rfl ic_1 rfl ?_
    rw [nI_1 i127]
    refine r_goto e_X11_kickOff_146 ?_
    (simp only [F_X11_kickOff_127] at hq; first | exact ih (i127 + 1) _ (by omega) hq | (simp only []; exact ih (i127 + 1) _ (by omega) hq))
def F_X11_kickOff_2 (x1 : Int32) (mA : Nat) : Nat → Nat → Mem → Mem
  | 0, i2, M => M
  | n + 1, i2, M => (let Mc1001 : Mem := U_X11_set (nI i2) (11 : Int32) (M.1 254 (((5 : Int32) * (M.1 mA ((1 : Int32) + ((nI i2) / (5 : Int32))).toNatClampNeg)) + ((nI i2) - (nI i2) / (5 : Int32) * (5 : Int32))).toNatClampNeg) mA M; let Mc1002 : Mem := U_X11_set (nI i2) (12 : Int32) (Mc1001.1 255 (((5 : Int32) * (M.1 mA ((1 : Int32) + ((nI i2) / (5 : Int32))).toNatClampNeg)) + ((nI i2) - (nI i2) / (5 : Int32) * (5 : Int32))).toNatClampNeg) mA Mc1001; let Mc1003 : Mem := U_X11_set (nI i2) (13 : Int32) (Mc1002.1 256 (((5 : Int32) * (M.1 mA ((1 : Int32) + ((nI i2) / (5 : Int32))).toNatClampNeg)) + ((nI i2) - (nI i2) / (5 : Int32) * (5 : Int32))).toNatClampNeg) mA Mc1002; let Mc1004 : Mem := U_X11_set (nI i2) (14 : Int32) (Mc1003.1 257 (M.1 mA ((1 : Int32) + ((nI i2) / (5 : Int32))).toNatClampNeg).toNatClampNeg) mA Mc1003; let Mc1005 : Mem := U_X11_set (nI i2) (15 : Int32) (Mc1004.1 258 (M.1 mA ((1 : Int32) + ((nI i2) / (5 : Int32))).toNatClampNeg).toNatClampNeg) mA Mc1004; let v200_0 : Int32 := if 0 ≤ (Mc1005.1 254 (((5 : Int32) * (M.1 mA ((1 : Int32) + ((nI i2) / (5 : Int32))).toNatClampNeg)) + ((nI i2) - (nI i2) / (5 : Int32) * (5 : Int32))).toNatClampNeg) then (0 : Int32) else (-1 : Int32); (F_X11_kickOff_2 x1 mA n (i2 + 1) (F_X11_kickOff_127 x1 mA (M.1 mA ((1 : Int32) + ((nI i2) / (5 : Int32))).toNatClampNeg) (((5 : Int32) * (M.1 mA ((1 : Int32) + ((nI i2) / (5 : Int32))).toNatClampNeg)) + ((nI i2) - (nI i2) / (5 : Int32) * (5 : Int32))) i2 4 0 (U_X11_set (nI i2) (3 : Int32) (0 : Int32) mA (U_X11_set (nI i2) (2 : Int32) v200_0 mA Mc1005)))))
def H_X11_kickOff_2 (x1 : Int32) (mA : Nat) : Nat → Nat → Mem → Prop
  | 0, i2, M => True
  | n + 1, i2, M => (∀ i2 : Nat, i2 < 10 → vp_in (((5 : Int32) * (M.1 mA ((1 : Int32) + ((nI i2) / (5 : Int32))).toNatClampNeg)) + ((nI i2) - (nI i2) / (5 : Int32) * (5 : Int32))) 20) ∧ (∀ i2 : Nat, i2 < 10 → vp_in (M.1 mA ((1 : Int32) + ((nI i2) / (5 : Int32))).toNatClampNeg) 4) ∧ ((let Mc1001 : Mem := U_X11_set (nI i2) (11 : Int32) (M.1 254 (((5 : Int32) * (M.1 mA ((1 : Int32) + ((nI i2) / (5 : Int32))).toNatClampNeg)) + ((nI i2) - (nI i2) / (5 : Int32) * (5 : Int32))).toNatClampNeg) mA M; let Mc1002 : Mem := U_X11_set (nI i2) (12 : Int32) (Mc1001.1 255 (((5 : Int32) * (M.1 mA ((1 : Int32) + ((nI i2) / (5 : Int32))).toNatClampNeg)) + ((nI i2) - (nI i2) / (5 : Int32) * (5 : Int32))).toNatClampNeg) mA Mc1001; let Mc1003 : Mem := U_X11_set (nI i2) (13 : Int32) (Mc1002.1 256 (((5 : Int32) * (M.1 mA ((1 : Int32) + ((nI i2) / (5 : Int32))).toNatClampNeg)) + ((nI i2) - (nI i2) / (5 : Int32) * (5 : Int32))).toNatClampNeg) mA Mc1002; let Mc1004 : Mem := U_X11_set (nI i2) (14 : Int32) (Mc1003.1 257 (M.1 mA ((1 : Int32) + ((nI i2) / (5 : Int32))).toNatClampNeg).toNatClampNeg) mA Mc1003; let Mc1005 : Mem := U_X11_set (nI i2) (15 : Int32) (Mc1004.1 258 (M.1 mA ((1 : Int32) + ((nI i2) / (5 : Int32))).toNatClampNeg).toNatClampNeg) mA Mc1004; let v200_0 : Int32 := if 0 ≤ (Mc1005.1 254 (((5 : Int32) * (M.1 mA ((1 : Int32) + ((nI i2) / (5 : Int32))).toNatClampNeg)) + ((nI i2) - (nI i2) / (5 : Int32) * (5 : Int32))).toNatClampNeg) then (0 : Int32) else (-1 : Int32); (H_X11_kickOff_2 x1 mA n (i2 + 1) (F_X11_kickOff_127 x1 mA (M.1 mA ((1 : Int32) + ((nI i2) / (5 : Int32))).toNatClampNeg) (((5 : Int32) * (M.1 mA ((1 : Int32) + ((nI i2) / (5 : Int32))).toNatClampNeg)) + ((nI i2) - (nI i2) / (5 : Int32) * (5 : Int32))) i2 4 0 (U_X11_set (nI i2) (3 : Int32) (0 : Int32) mA (U_X11_set (nI i2) (2 : Int32) v200_0 mA Mc1005))))))
theorem L_X11_kickOff_2 {sh : List SC} {Q : Po} {x1 : Int32} {mA : Nat} {oA : Nat}   (hb1 : ModelAt sh mA oA) (g1 : ∀ i2 : Nat, i2 < 10 → vp_in ((1 : Int32) + ((nI i2) / (5 : Int32))) 212) (g3 : ∀ i2 : Nat, i2 < 10 → vp_in (((44 : Int32) + ((16 : Int32) * (nI i2))) + (11 : Int32)) 212) (g4 : ∀ i2 : Nat, i2 < 10 → vp_in (((44 : Int32) + ((16 : Int32) * (nI i2))) + (12 : Int32)) 212) (g5 : ∀ i2 : Nat, i2 < 10 → vp_in (((44 : Int32) + ((16 : Int32) * (nI i2))) + (13 : Int32)) 212) (g7 : ∀ i2 : Nat, i2 < 10 → vp_in (((44 : Int32) + ((16 : Int32) * (nI i2))) + (14 : Int32)) 212) (g8 : ∀ i2 : Nat, i2 < 10 → vp_in (((44 : Int32) + ((16 : Int32) * (nI i2))) + (15 : Int32)) 212) (g9 : ∀ i2 : Nat, i2 < 10 → vp_in (((44 : Int32) + ((16 : Int32) * (nI i2))) + (2 : Int32)) 212) (g10 : ∀ i2 : Nat, i2 < 10 → vp_in (((44 : Int32) + ((16 : Int32) * (nI i2))) + (3 : Int32)) 212) (g11 : ∀ i127 : Nat, i127 < 4 → ∀ i2 : Nat, i2 < 10 → vp_in (((44 : Int32) + ((16 : Int32) * (nI i2))) + ((4 : Int32) + (nI i127))) 212)  : ∀ (n i2 : Nat) (M : Mem), i2 + n = 10 → H_X11_kickOff_2 x1 mA n i2 M → WP m_X11_kickOff Q 155 [some (.ref 242), some (.int x1), none, none, none, none] [] sh (F_X11_kickOff_2 x1 mA n i2 M) 0 0 → WP m_X11_kickOff Q 2 [some (.ref 242), some (.int x1), some (.int (nI i2)), none, none, none] [] sh M 0 0 := by
  have k0 : kd sh 242 = some (10 + 7, 0) := hb1.1
  have k1 : rf sh 242 27 = some mA := hb1.2.2.2.2.2.2.2.2.2.2.2.2.2.2.2.2.2.1
  have k2 : kd sh mA = some (0, 212) := hb1.2.2.2.2.2.2.2.2.2.2.2.2.2.2.2.2.2.2.2.2.2.2.2.2.2.2.2.2.2.2.2.2.2.2.2.2.2.2.2.2.2.2.2.2.2.2.2.2.2.2.2.1
  have k3 : rf sh 242 22 = some 254 := hb1.2.2.2.2.2.2.2.2.2.2.2.2.1
  have k4 : kd sh 254 = some (0, 20) := hb1.2.2.2.2.2.2.2.2.2.2.2.2.2.2.2.2.2.2.2.2.2.2.2.2.2.2.2.2.2.2.2.2.2.2.2.2.2.2.1
  have k5 : rf sh 242 23 = some 255 := hb1.2.2.2.2.2.2.2.2.2.2.2.2.2.1
  have k6 : kd sh 255 = some (0, 20) := hb1.2.2.2.2.2.2.2.2.2.2.2.2.2.2.2.2.2.2.2.2.2.2.2.2.2.2.2.2.2.2.2.2.2.2.2.2.2.2.2.1
  have k7 : rf sh 242 24 = some 256 := hb1.2.2.2.2.2.2.2.2.2.2.2.2.2.2.1
  have k8 : kd sh 256 = some (0, 20) := hb1.2.2.2.2.2.2.2.2.2.2.2.2.2.2.2.2.2.2.2.2.2.2.2.2.2.2.2.2.2.2.2.2.2.2.2.2.2.2.2.2.1
  have k9 : rf sh 242 25 = some 257 := hb1.2.2.2.2.2.2.2.2.2.2.2.2.2.2.2.1
  have k10 : kd sh 257 = some (0, 4) := hb1.2.2.2.2.2.2.2.2.2.2.2.2.2.2.2.2.2.2.2.2.2.2.2.2.2.2.2.2.2.2.2.2.2.2.2.2.2.2.2.2.2.1
  have k11 : rf sh 242 26 = some 258 := hb1.2.2.2.2.2.2.2.2.2.2.2.2.2.2.2.2.1
  have k12 : kd sh 258 = some (0, 4) := hb1.2.2.2.2.2.2.2.2.2.2.2.2.2.2.2.2.2.2.2.2.2.2.2.2.2.2.2.2.2.2.2.2.2.2.2.2.2.2.2.2.2.2.1
  intro n
  induction n with
  | zero =>
    intro i2 M hi _ hq
    have hz : (10 : Int32) ≤ nI i2 := by
      have q : i2 = 10 := by omega
      rw [q]; exact nI_le (Nat.le_refl _) (by decide)
    refine r_iload_n e_X11_kickOff_2 rfl ?_
    refine r_bipush e_X11_kickOff_3 bp_10 ?_
    refine r_icmp_ge e_X11_kickOff_5 (fun _ => ?_) (fun hh => absurd hz hh)
    refine d_6_2 ?_
    (simp only [F_X11_kickOff_2] at hq; first | exact hq | (simp only []; exact hq))
  | succ n ih =>
    intro i2 M hi hH hq
    unfold H_X11_kickOff_2 at hH
    obtain ⟨g2, g6, hH⟩ := hH
    have hlt_i2 : i2 < 10 := by omega
    have hcl_i2 : (nI i2).toNatClampNeg = i2 := nI_clamp (by omega)
    have hs : ¬ (10 : Int32) ≤ nI i2 := nI_ge (b := 10) hlt_i2 (by decide)
    refine r_iload_n e_X11_kickOff_2 rfl ?_
    refine r_bipush e_X11_kickOff_3 bp_10 ?_
    refine r_icmp_ge e_X11_kickOff_5 (fun hh => absurd hh hs) (fun _ => ?_)
    refine r_aload_n e_X11_kickOff_8 rfl ?_
    refine r_getR e_X11_kickOff_9 fl_X11_212 k0 k1 ?_
    refine r_iconst e_X11_kickOff_12 ic_1 ?_
    refine r_iload_n e_X11_kickOff_13 rfl ?_
    refine r_iconst e_X11_kickOff_14 ic_5 ?_
    refine r_idiv e_X11_kickOff_15 (by decide) ?_
    refine r_iadd e_X11_kickOff_16 ?_
    refine r_iaload e_X11_kickOff_17 k2 (g1 i2 hlt_i2) ?_
    refine p_istore_n_6_3 e_X11_kickOff_18 rfl rfl ?_
    refine r_iconst e_X11_kickOff_19 ic_5 ?_
    refine r_iload_n e_X11_kickOff_20 rfl ?_
    refine r_imul e_X11_kickOff_21 ?_
    refine r_iload_n e_X11_kickOff_22 rfl ?_
    refine r_iconst e_X11_kickOff_23 ic_5 ?_
    refine r_irem e_X11_kickOff_24 (by decide) ?_
    refine r_iadd e_X11_kickOff_25 ?_
    refine p_istore_6_4 e_X11_kickOff_26 rfl rfl ?_
    refine r_aload_n e_X11_kickOff_28 rfl ?_
    refine r_iload_n e_X11_kickOff_29 rfl ?_
    refine r_bipush e_X11_kickOff_30 bp_11 ?_
    refine r_aload_n e_X11_kickOff_32 rfl ?_
    refine r_getR e_X11_kickOff_33 fl_X11_197 k0 k3 ?_
    refine r_iload e_X11_kickOff_36 rfl ?_
    refine r_iaload e_X11_kickOff_38 k4 (g2 i2 hlt_i2) ?_
    refine cV3u e_X11_kickOff_39 cl_X11_282 ⟨Nat.le_of_ble_eq_true rfl, Nat.le_of_ble_eq_true rfl⟩ ⟨rfl, rfl⟩ k0 (Nat.le_of_ble_eq_true rfl) (S_X11_set hb1 (g3 i2 hlt_i2)) ?_
    obtain ⟨Mc1001, e_Mc1001⟩ : ∃ z : Mem, z = (U_X11_set (nI i2) (11 : Int32) (M.1 254 (((5 : Int32) * (M.1 mA ((1 : Int32) + ((nI i2) / (5 : Int32))).toNatClampNeg)) + ((nI i2) - (nI i2) / (5 : Int32) * (5 : Int32))).toNatClampNeg) mA M) := ⟨_, rfl⟩
    rw [← e_Mc1001]
    refine r_aload_n e_X11_kickOff_42 rfl ?_
    refine r_iload_n e_X11_kickOff_43 rfl ?_
    refine r_bipush e_X11_kickOff_44 bp_12 ?_
    refine r_aload_n e_X11_kickOff_46 rfl ?_
    refine r_getR e_X11_kickOff_47 fl_X11_200 k0 k5 ?_
    refine r_iload e_X11_kickOff_50 rfl ?_
    refine r_iaload e_X11_kickOff_52 k6 (g2 i2 hlt_i2) ?_
    refine cV3u e_X11_kickOff_53 cl_X11_282 ⟨Nat.le_of_ble_eq_true rfl, Nat.le_of_ble_eq_true rfl⟩ ⟨rfl, rfl⟩ k0 (Nat.le_of_ble_eq_true rfl) (S_X11_set hb1 (g4 i2 hlt_i2)) ?_
    obtain ⟨Mc1002, e_Mc1002⟩ : ∃ z : Mem, z = (U_X11_set (nI i2) (12 : Int32) (Mc1001.1 255 (((5 : Int32) * (M.1 mA ((1 : Int32) + ((nI i2) / (5 : Int32))).toNatClampNeg)) + ((nI i2) - (nI i2) / (5 : Int32) * (5 : Int32))).toNatClampNeg) mA Mc1001) := ⟨_, rfl⟩
    rw [← e_Mc1002]
    refine r_aload_n e_X11_kickOff_56 rfl ?_
    refine r_iload_n e_X11_kickOff_57 rfl ?_
    refine r_bipush e_X11_kickOff_58 bp_13 ?_
    refine r_aload_n e_X11_kickOff_60 rfl ?_
    refine r_getR e_X11_kickOff_61 fl_X11_203 k0 k7 ?_
    refine r_iload e_X11_kickOff_64 rfl ?_
    refine r_iaload e_X11_kickOff_66 k8 (g2 i2 hlt_i2) ?_
    refine cV3u e_X11_kickOff_67 cl_X11_282 ⟨Nat.le_of_ble_eq_true rfl, Nat.le_of_ble_eq_true rfl⟩ ⟨rfl, rfl⟩ k0 (Nat.le_of_ble_eq_true rfl) (S_X11_set hb1 (g5 i2 hlt_i2)) ?_
    obtain ⟨Mc1003, e_Mc1003⟩ : ∃ z : Mem, z = (U_X11_set (nI i2) (13 : Int32) (Mc1002.1 256 (((5 : Int32) * (M.1 mA ((1 : Int32) + ((nI i2) / (5 : Int32))).toNatClampNeg)) + ((nI i2) - (nI i2) / (5 : Int32) * (5 : Int32))).toNatClampNeg) mA Mc1002) := ⟨_, rfl⟩
    rw [← e_Mc1003]
    refine r_aload_n e_X11_kickOff_70 rfl ?_
    refine r_iload_n e_X11_kickOff_71 rfl ?_
    refine r_bipush e_X11_kickOff_72 bp_14 ?_
    refine r_aload_n e_X11_kickOff_74 rfl ?_
    refine r_getR e_X11_kickOff_75 fl_X11_206 k0 k9 ?_
    refine r_iload_n e_X11_kickOff_78 rfl ?_
    refine r_iaload e_X11_kickOff_79 k10 (g6 i2 hlt_i2) ?_
    refine cV3u e_X11_kickOff_80 cl_X11_282 ⟨Nat.le_of_ble_eq_true rfl, Nat.le_of_ble_eq_true rfl⟩ ⟨rfl, rfl⟩ k0 (Nat.le_of_ble_eq_true rfl) (S_X11_set hb1 (g7 i2 hlt_i2)) ?_
    obtain ⟨Mc1004, e_Mc1004⟩ : ∃ z : Mem, z = (U_X11_set (nI i2) (14 : Int32) (Mc1003.1 257 (M.1 mA ((1 : Int32) + ((nI i2) / (5 : Int32))).toNatClampNeg).toNatClampNeg) mA Mc1003) := ⟨_, rfl⟩
    rw [← e_Mc1004]
    refine r_aload_n e_X11_kickOff_83 rfl ?_
    refine r_iload_n e_X11_kickOff_84 rfl ?_
    refine r_bipush e_X11_kickOff_85 bp_15 ?_
    refine r_aload_n e_X11_kickOff_87 rfl ?_
    refine r_getR e_X11_kickOff_88 fl_X11_209 k0 k11 ?_
    refine r_iload_n e_X11_kickOff_91 rfl ?_
    refine r_iaload e_X11_kickOff_92 k12 (g6 i2 hlt_i2) ?_
    refine cV3u e_X11_kickOff_93 cl_X11_282 ⟨Nat.le_of_ble_eq_true rfl, Nat.le_of_ble_eq_true rfl⟩ ⟨rfl, rfl⟩ k0 (Nat.le_of_ble_eq_true rfl) (S_X11_set hb1 (g8 i2 hlt_i2)) ?_
    obtain ⟨Mc1005, e_Mc1005⟩ : ∃ z : Mem, z = (U_X11_set (nI i2) (15 : Int32) (Mc1004.1 258 (M.1 mA ((1 : Int32) + ((nI i2) / (5 : Int32))).toNatClampNeg).toNatClampNeg) mA Mc1004) := ⟨_, rfl⟩
    rw [← e_Mc1005]
    refine r_aload_n e_X11_kickOff_96 rfl ?_
    refine r_iload_n e_X11_kickOff_97 rfl ?_
    refine r_iconst e_X11_kickOff_98 ic_2 ?_
    refine r_aload_n e_X11_kickOff_99 rfl ?_
    refine r_getR e_X11_kickOff_100 fl_X11_197 k0 k3 ?_
    refine r_iload e_X11_kickOff_103 rfl ?_
    refine r_iaload e_X11_kickOff_105 k4 (g2 i2 hlt_i2) ?_
    obtain ⟨v200_0, e_v200_0⟩ : ∃ z : Int32, z = (if 0 ≤ (Mc1005.1 254 (((5 : Int32) * (M.1 mA ((1 : Int32) + ((nI i2) / (5 : Int32))).toNatClampNeg)) + ((nI i2) - (nI i2) / (5 : Int32) * (5 : Int32))).toNatClampNeg) then (0 : Int32) else (-1 : Int32)) := ⟨_, rfl⟩
    suffices j114_200 : WP m_X11_kickOff Q 114 [some (.ref 242), some (.int x1), some (.int (nI i2)), some (.int (M.1 mA ((1 : Int32) + ((nI i2) / (5 : Int32))).toNatClampNeg)), some (.int (((5 : Int32) * (M.1 mA ((1 : Int32) + ((nI i2) / (5 : Int32))).toNatClampNeg)) + ((nI i2) - (nI i2) / (5 : Int32) * (5 : Int32)))), none] [.int v200_0, .int (2 : Int32), .int (nI i2), .ref 242] sh Mc1005 0 0 by
      refine r_if_ge e_X11_kickOff_106 (fun h106_200 => ?_) (fun h106_200 => ?_)
      · refine r_iconst e_X11_kickOff_113 ic_0 ?_
        (rw [show v200_0 = (0 : Int32) from (e_v200_0.trans (if_pos h106_200))] at j114_200; exact j114_200)
      · refine r_iconst e_X11_kickOff_109 ic_m1 ?_
        refine r_goto e_X11_kickOff_110 ?_
        (rw [show v200_0 = (-1 : Int32) from (e_v200_0.trans (if_neg h106_200))] at j114_200; exact j114_200)
    refine cV3u e_X11_kickOff_114 cl_X11_282 ⟨Nat.le_of_ble_eq_true rfl, Nat.le_of_ble_eq_true rfl⟩ ⟨rfl, rfl⟩ k0 (Nat.le_of_ble_eq_true rfl) (S_X11_set hb1 (g9 i2 hlt_i2)) ?_
    refine r_aload_n e_X11_kickOff_117 rfl ?_
    refine r_iload_n e_X11_kickOff_118 rfl ?_
    refine r_iconst e_X11_kickOff_119 ic_3 ?_
    refine r_iconst e_X11_kickOff_120 ic_0 ?_
    refine cV3u e_X11_kickOff_121 cl_X11_282 ⟨Nat.le_of_ble_eq_true rfl, Nat.le_of_ble_eq_true rfl⟩ ⟨rfl, rfl⟩ k0 (Nat.le_of_ble_eq_true rfl) (S_X11_set hb1 (g10 i2 hlt_i2)) ?_
    refine r_iconst e_X11_kickOff_124 ic_0 ?_
    refine p_istore_6_5 e_X11_kickOff_125 rfl rfl ?_
    skip
    show WP m_X11_kickOff _ 127 [some (.ref 242), some (.int x1), some (.int (nI i2)), some (.int (M.1 mA ((1 : Int32) + ((nI i2) / (5 : Int32))).toNatClampNeg)), some (.int (((5 : Int32) * (M.1 mA ((1 : Int32) + ((nI i2) / (5 : Int32))).toNatClampNeg)) + ((nI i2) - (nI i2) / (5 : Int32) * (5 : Int32)))), some (.int (nI 0))] [] sh (U_X11_set (nI i2) (3 : Int32) (0 : Int32) mA (U_X11_set (nI i2) (2 : Int32) v200_0 mA Mc1005)) 0 0
    refine L_X11_kickOff_127 hb1 g11 hlt_i2 4 0  (U_X11_set (nI i2) (3 : Int32) (0 : Int32) mA (U_X11_set (nI i2) (2 : Int32) v200_0 mA Mc1005)) (by omega) ?_
    refine p_iinc_6_2 e_X11_kickOff_149 rfl ic_1 rfl ?_
    rw [nI_1 i2]
    refine r_goto e_X11_kickOff_152 ?_
    refine d_6_3 ?_
    refine d_6_4 ?_
    (subst e_v200_0 e_Mc1005 e_Mc1004 e_Mc1003 e_Mc1002 e_Mc1001; simp only [F_X11_kickOff_2] at hq; (try simp only [] at hH); first | exact ih (i2 + 1) _ (by omega) hH hq | (simp only []; exact ih (i2 + 1) _ (by omega) hH hq))
def F_X11_kickOff_160 (x1 : Int32) (mA : Nat) : Nat → Mem → Mem
  | 0, M => M
  | n + 1, M => if (10 : Int32) ≤ (M.1 242 30) then M else (F_X11_kickOff_160 x1 mA n (setI (U_X11_putAtStart (M.1 242 30) mA M) 242 30 (((U_X11_putAtStart (M.1 242 30) mA M).1 242 30) + (1 : Int32))))
def T_X11_kickOff_160 (x1 : Int32) (mA : Nat) : Nat → Mem → Prop
  | 0, M => False
  | n + 1, M => (vp_in (((44 : Int32) + ((16 : Int32) * (M.1 242 30))) + (0 : Int32)) 212) ∧ (vp_in (((44 : Int32) + ((16 : Int32) * (M.1 242 30))) + (1 : Int32)) 212) ∧ (P_X11_putAtStart (M.1 242 30) mA M) ∧ (if (10 : Int32) ≤ (M.1 242 30) then True else (T_X11_kickOff_160 x1 mA n (setI (U_X11_putAtStart (M.1 242 30) mA M) 242 30 (((U_X11_putAtStart (M.1 242 30) mA M).1 242 30) + (1 : Int32)))))
theorem L_X11_kickOff_160 {sh : List SC} {Q : Po} {x1 : Int32} {mA : Nat} {oA : Nat}   (hb1 : ModelAt sh mA oA)   : ∀ (n : Nat) (M : Mem), T_X11_kickOff_160 x1 mA n M → WP m_X11_kickOff Q 190 [some (.ref 242), some (.int x1), none, none, none, none] [] sh (F_X11_kickOff_160 x1 mA n M) 0 0 → WP m_X11_kickOff Q 160 [some (.ref 242), some (.int x1), none, none, none, none] [] sh M 0 0 := by
  have k0 : kd sh 242 = some (10 + 7, 0) := hb1.1
  intro n
  induction n with
  | zero =>
    intro M hH hq
    exact hH.elim
  | succ n ih =>
    intro M hH hq
    unfold T_X11_kickOff_160 at hH
    obtain ⟨g1, g2, g3, hH⟩ := hH
    refine r_aload_n e_X11_kickOff_160 rfl ?_
    refine r_getI e_X11_kickOff_161 fl_X11_221 i0 k0 ?_
    refine r_bipush e_X11_kickOff_164 bp_10 ?_
    refine r_icmp_ge e_X11_kickOff_166 (fun h166_16000 => ?_) (fun h166_16000 => ?_)
    · (simp only [F_X11_kickOff_160, if_pos h166_16000] at hq; first | exact hq | (simp only [if_pos h166_16000]; exact hq))
    · refine r_aload_n e_X11_kickOff_169 rfl ?_
      refine r_aload_n e_X11_kickOff_170 rfl ?_
      refine r_getI e_X11_kickOff_171 fl_X11_221 i0 k0 ?_
      refine cV1u e_X11_kickOff_174 cl_X11_288 ⟨Nat.le_of_ble_eq_true rfl, Nat.le_of_ble_eq_true rfl⟩ ⟨rfl, rfl⟩ k0 (Nat.le_of_ble_eq_true rfl) (S_X11_putAtStart hb1 g1 g2 g3) ?_
      refine r_aload_n e_X11_kickOff_177 rfl ?_
      refine r_dup e_X11_kickOff_178 rfl ?_
      refine r_getI e_X11_kickOff_179 fl_X11_221 i0 k0 ?_
      refine r_iconst e_X11_kickOff_182 ic_1 ?_
      refine r_iadd e_X11_kickOff_183 ?_
      refine r_putI e_X11_kickOff_184 fl_X11_221 k0 ?_
      refine r_goto e_X11_kickOff_187 ?_
      (simp only [F_X11_kickOff_160, if_neg h166_16000] at hq; (try simp only [if_neg h166_16000] at hH); first | exact ih _ hH hq | (simp only [if_neg h166_16000]; exact ih _ hH hq))
def F_X11_kickOff_196 (x1 : Int32) (mA : Nat) : Nat → Nat → Mem → Mem
  | 0, i196, M => M
  | n + 1, i196, M => (let Mc1001 : Mem := U_X11_set (nI i196) (9 : Int32) ((U_X11_set (nI i196) (8 : Int32) (M.1 mA 14) mA M).1 mA 15) mA (U_X11_set (nI i196) (8 : Int32) (M.1 mA 14) mA M); (F_X11_kickOff_196 x1 mA n (i196 + 1) Mc1001))
theorem L_X11_kickOff_196 {sh : List SC} {Q : Po} {x1 : Int32} {mA : Nat} {oA : Nat}   (hb1 : ModelAt sh mA oA) (g1 : ∀ i196 : Nat, i196 < 10 → vp_in (((44 : Int32) + ((16 : Int32) * (nI i196))) + (8 : Int32)) 212) (g2 : ∀ i196 : Nat, i196 < 10 → vp_in (((44 : Int32) + ((16 : Int32) * (nI i196))) + (9 : Int32)) 212)  : ∀ (n i196 : Nat) (M : Mem), i196 + n = 10 → WP m_X11_kickOff Q 236 [some (.ref 242), some (.int x1), none, none, none, none] [] sh (F_X11_kickOff_196 x1 mA n i196 M) 0 0 → WP m_X11_kickOff Q 196 [some (.ref 242), some (.int x1), some (.int (nI i196)), none, none, none] [] sh M 0 0 := by
  have k0 : kd sh 242 = some (10 + 7, 0) := hb1.1
  have k1 : rf sh 242 27 = some mA := hb1.2.2.2.2.2.2.2.2.2.2.2.2.2.2.2.2.2.1
  have k2 : kd sh mA = some (0, 212) := hb1.2.2.2.2.2.2.2.2.2.2.2.2.2.2.2.2.2.2.2.2.2.2.2.2.2.2.2.2.2.2.2.2.2.2.2.2.2.2.2.2.2.2.2.2.2.2.2.2.2.2.2.1
  intro n
  induction n with
  | zero =>
    intro i196 M hi hq
    have hz : (10 : Int32) ≤ nI i196 := by
      have q : i196 = 10 := by omega
      rw [q]; exact nI_le (Nat.le_refl _) (by decide)
    refine r_iload_n e_X11_kickOff_196 rfl ?_
    refine r_bipush e_X11_kickOff_197 bp_10 ?_
    refine r_icmp_ge e_X11_kickOff_199 (fun _ => ?_) (fun hh => absurd hz hh)
    refine d_6_2 ?_
    (simp only [F_X11_kickOff_196] at hq; first | exact hq | (simp only []; exact hq))
  | succ n ih =>
    intro i196 M hi hq
    have hlt_i196 : i196 < 10 := by omega
    have hcl_i196 : (nI i196).toNatClampNeg = i196 := nI_clamp (by omega)
    have hs : ¬ (10 : Int32) ≤ nI i196 := nI_ge (b := 10) hlt_i196 (by decide)
    refine r_iload_n e_X11_kickOff_196 rfl ?_
    refine r_bipush e_X11_kickOff_197 bp_10 ?_
    refine r_icmp_ge e_X11_kickOff_199 (fun hh => absurd hh hs) (fun _ => ?_)
    refine r_aload_n e_X11_kickOff_202 rfl ?_
    refine r_iload_n e_X11_kickOff_203 rfl ?_
    refine r_bipush e_X11_kickOff_204 bp_8 ?_
    refine r_aload_n e_X11_kickOff_206 rfl ?_
    refine r_getR e_X11_kickOff_207 fl_X11_212 k0 k1 ?_
    refine r_bipush e_X11_kickOff_210 bp_14 ?_
    refine r_ialoade (v := (M.1 mA 14)) e_X11_kickOff_212 k2 (by unfold vp_in; decide) (show M.1 mA (14 : Int32).toNatClampNeg = M.1 mA 14 by rw [show (14 : Int32).toNatClampNeg = 14 from rfl]) ?_
    refine cV3u e_X11_kickOff_213 cl_X11_282 ⟨Nat.le_of_ble_eq_true rfl, Nat.le_of_ble_eq_true rfl⟩ ⟨rfl, rfl⟩ k0 (Nat.le_of_ble_eq_true rfl) (S_X11_set hb1 (g1 i196 hlt_i196)) ?_
    refine r_aload_n e_X11_kickOff_216 rfl ?_
    refine r_iload_n e_X11_kickOff_217 rfl ?_
    refine r_bipush e_X11_kickOff_218 bp_9 ?_
    refine r_aload_n e_X11_kickOff_220 rfl ?_
    refine r_getR e_X11_kickOff_221 fl_X11_212 k0 k1 ?_
    refine r_bipush e_X11_kickOff_224 bp_15 ?_
    refine r_ialoade (v := ((U_X11_set (nI i196) (8 : Int32) (M.1 mA 14) mA M).1 mA 15)) e_X11_kickOff_226 k2 (by unfold vp_in; decide) (show (U_X11_set (nI i196) (8 : Int32) (M.1 mA 14) mA M).1 mA (15 : Int32).toNatClampNeg = (U_X11_set (nI i196) (8 : Int32) (M.1 mA 14) mA M).1 mA 15 by rw [show (15 : Int32).toNatClampNeg = 15 from rfl]) ?_
    refine cV3u e_X11_kickOff_227 cl_X11_282 ⟨Nat.le_of_ble_eq_true rfl, Nat.le_of_ble_eq_true rfl⟩ ⟨rfl, rfl⟩ k0 (Nat.le_of_ble_eq_true rfl) (S_X11_set hb1 (g2 i196 hlt_i196)) ?_
    obtain ⟨Mc1001, e_Mc1001⟩ : ∃ z : Mem, z = (U_X11_set (nI i196) (9 : Int32) ((U_X11_set (nI i196) (8 : Int32) (M.1 mA 14) mA M).1 mA 15) mA (U_X11_set (nI i196) (8 : Int32) (M.1 mA 14) mA M)) := ⟨_, rfl⟩
    rw [← e_Mc1001]
    refine p_iinc_6_2 e_X11_kickOff_230 rfl ic_1 rfl ?_
    rw [nI_1 i196]
    refine r_goto e_X11_kickOff_233 ?_
    (subst e_Mc1001; simp only [F_X11_kickOff_196] at hq; first | exact ih (i196 + 1) _ (by omega) hq | (simp only []; exact ih (i196 + 1) _ (by omega) hq))
def U_X11_kickOff (x1 : Int32) (mA : Nat) (M : Mem) : Mem := setI (F_X11_kickOff_196 x1 mA 10 0 (U_X11_lay  mA (F_X11_kickOff_160 x1 mA FUEL (setI (F_X11_kickOff_2 x1 mA 10 0 M) 242 30 (0 : Int32))))) mA 13 x1
def P_X11_kickOff (x1 : Int32) (mA : Nat) (M : Mem) : Prop := (∀ i2 : Nat, i2 < 10 → vp_in ((1 : Int32) + ((nI i2) / (5 : Int32))) 212) ∧ (∀ i2 : Nat, i2 < 10 → vp_in (((44 : Int32) + ((16 : Int32) * (nI i2))) + (11 : Int32)) 212) ∧ (∀ i2 : Nat, i2 < 10 → vp_in (((44 : Int32) + ((16 : Int32) * (nI i2))) + (12 : Int32)) 212) ∧ (∀ i2 : Nat, i2 < 10 → vp_in (((44 : Int32) + ((16 : Int32) * (nI i2))) + (13 : Int32)) 212) ∧ (∀ i2 : Nat, i2 < 10 → vp_in (((44 : Int32) + ((16 : Int32) * (nI i2))) + (14 : Int32)) 212) ∧ (∀ i2 : Nat, i2 < 10 → vp_in (((44 : Int32) + ((16 : Int32) * (nI i2))) + (15 : Int32)) 212) ∧ (∀ i2 : Nat, i2 < 10 → vp_in (((44 : Int32) + ((16 : Int32) * (nI i2))) + (2 : Int32)) 212) ∧ (∀ i2 : Nat, i2 < 10 → vp_in (((44 : Int32) + ((16 : Int32) * (nI i2))) + (3 : Int32)) 212) ∧ (∀ i127 : Nat, i127 < 4 → ∀ i2 : Nat, i2 < 10 → vp_in (((44 : Int32) + ((16 : Int32) * (nI i2))) + ((4 : Int32) + (nI i127))) 212) ∧ (H_X11_kickOff_2 x1 mA 10 0 M) ∧ (T_X11_kickOff_160 x1 mA FUEL (setI (F_X11_kickOff_2 x1 mA 10 0 M) 242 30 (0 : Int32))) ∧ (P_X11_lay mA (F_X11_kickOff_160 x1 mA FUEL (setI (F_X11_kickOff_2 x1 mA 10 0 M) 242 30 (0 : Int32)))) ∧ (∀ i196 : Nat, i196 < 10 → vp_in (((44 : Int32) + ((16 : Int32) * (nI i196))) + (8 : Int32)) 212) ∧ (∀ i196 : Nat, i196 < 10 → vp_in (((44 : Int32) + ((16 : Int32) * (nI i196))) + (9 : Int32)) 212)
theorem S_X11_kickOff {sh : List SC} {M : Mem} {x1 : Int32} {mA : Nat} {oA : Nat} (hb1 : ModelAt sh mA oA)  (hP : P_X11_kickOff x1 mA M) : Gu m_X11_kickOff [.ref 242, .int x1] sh M (U_X11_kickOff x1 mA M) := by
  refine Sp.of (ls := [some (.ref 242), some (.int x1), none, none, none, none]) (by decide +kernel) (Nat.le_of_ble_eq_true rfl) rfl ?_
  obtain ⟨g1, g2, g3, g4, g5, g6, g7, g8, g9, g10, g11, g12, g13, g14⟩ := hP
  have k0 : kd sh 242 = some (10 + 7, 0) := hb1.1
  have k1 : rf sh 242 27 = some mA := hb1.2.2.2.2.2.2.2.2.2.2.2.2.2.2.2.2.2.1
  have k2 : kd sh mA = some (0, 212) := hb1.2.2.2.2.2.2.2.2.2.2.2.2.2.2.2.2.2.2.2.2.2.2.2.2.2.2.2.2.2.2.2.2.2.2.2.2.2.2.2.2.2.2.2.2.2.2.2.2.2.2.2.1
  refine r_iconst e_X11_kickOff_0 ic_0 ?_
  refine p_istore_n_6_2 e_X11_kickOff_1 rfl rfl ?_
  skip
  show WP m_X11_kickOff _ 2 [some (.ref 242), some (.int x1), some (.int (nI 0)), none, none, none] [] sh M 0 0
  refine L_X11_kickOff_2 hb1 g1 g2 g3 g4 g5 g6 g7 g8 g9 10 0  M (by omega) g10 ?_
  refine r_aload_n e_X11_kickOff_155 rfl ?_
  refine r_iconst e_X11_kickOff_156 ic_0 ?_
  refine r_putI e_X11_kickOff_157 fl_X11_221 k0 ?_
  refine L_X11_kickOff_160 hb1 FUEL  (setI (F_X11_kickOff_2 x1 mA 10 0 M) 242 30 (0 : Int32)) g11 ?_
  refine r_aload_n e_X11_kickOff_190 rfl ?_
  refine cV0u e_X11_kickOff_191 cl_X11_292 ⟨Nat.le_of_ble_eq_true rfl, Nat.le_of_ble_eq_true rfl⟩ ⟨rfl, rfl⟩ k0 (Nat.le_of_ble_eq_true rfl) (S_X11_lay hb1 g12) ?_
  refine r_iconst e_X11_kickOff_194 ic_0 ?_
  refine p_istore_n_6_2 e_X11_kickOff_195 rfl rfl ?_
  skip
  show WP m_X11_kickOff _ 196 [some (.ref 242), some (.int x1), some (.int (nI 0)), none, none, none] [] sh (U_X11_lay  mA (F_X11_kickOff_160 x1 mA FUEL (setI (F_X11_kickOff_2 x1 mA 10 0 M) 242 30 (0 : Int32)))) 0 0
  refine L_X11_kickOff_196 hb1 g13 g14 10 0  (U_X11_lay  mA (F_X11_kickOff_160 x1 mA FUEL (setI (F_X11_kickOff_2 x1 mA 10 0 M) 242 30 (0 : Int32)))) (by omega) ?_
  refine r_aload_n e_X11_kickOff_236 rfl ?_
  refine r_getR e_X11_kickOff_237 fl_X11_212 k0 k1 ?_
  refine r_bipush e_X11_kickOff_240 bp_13 ?_
  refine r_iload_n e_X11_kickOff_242 rfl ?_
  refine r_iastore e_X11_kickOff_243 k2 (by unfold vp_in; decide) ?_
  rw [show (13 : Int32).toNatClampNeg = 13 from rfl]
  refine r_return e_X11_kickOff_244 rfl ⟨rfl, rfl⟩ ?_
  (refine ⟨?_, rfl, ?_⟩ <;> ((try unfold U_X11_kickOff); (try simp only []); (try rfl)))
def F_X11_productOf_5 (mA : Nat) : Nat → Int32 → Mem → Int32 × Mem
  | 0, u1, M => (u1, M)
  | n + 1, u1, M => if (V_X11_here  M) = (42 : Int32) then (F_X11_productOf_5 mA n (u1 * (V_X11_termOf  mA (setI M 242 35 ((M.1 242 35) + (1 : Int32))))) (U_X11_termOf  mA (setI M 242 35 ((M.1 242 35) + (1 : Int32))))) else (u1, M)
def T_X11_productOf_5 (mA : Nat) : Nat → Int32 → Mem → Prop
  | 0, u1, M => False
  | n + 1, u1, M => (vp_in ((M.1 242 34) + (M.1 242 35)) 4800) ∧ (vp_in ((((F_X11_termOf_6  FUEL (0 : Int32) (U_X11_step  (setI M 242 35 ((M.1 242 35) + (1 : Int32))))).2).1 242 34) + (((F_X11_termOf_6  FUEL (0 : Int32) (U_X11_step  (setI M 242 35 ((M.1 242 35) + (1 : Int32))))).2).1 242 35)) 4800) ∧ (P_X11_termOf mA (setI M 242 35 ((M.1 242 35) + (1 : Int32)))) ∧ (if (V_X11_here  M) = (42 : Int32) then (T_X11_productOf_5 mA n (u1 * (V_X11_termOf  mA (setI M 242 35 ((M.1 242 35) + (1 : Int32))))) (U_X11_termOf  mA (setI M 242 35 ((M.1 242 35) + (1 : Int32))))) else True)
theorem L_X11_productOf_5 {sh : List SC} {Q : Po}  {mA : Nat} {oA : Nat}   (hb1 : ModelAt sh mA oA)   : ∀ (n : Nat) (u1 : Int32) (M : Mem), T_X11_productOf_5 mA n u1 M → WP m_X11_productOf Q 34 [some (.ref 242), some (.int ((F_X11_productOf_5 mA n u1 M).1))] [] sh ((F_X11_productOf_5 mA n u1 M).2) 0 0 → WP m_X11_productOf Q 5 [some (.ref 242), some (.int u1)] [] sh M 0 0 := by
  have k0 : kd sh 242 = some (10 + 7, 0) := hb1.1
  intro n
  induction n with
  | zero =>
    intro u1 M hH hq
    exact hH.elim
  | succ n ih =>
    intro u1 M hH hq
    unfold T_X11_productOf_5 at hH
    obtain ⟨g1, g2, g3, hH⟩ := hH
    refine r_aload_n e_X11_productOf_5 rfl ?_
    refine cV0v e_X11_productOf_6 cl_X11_327 ⟨Nat.le_of_ble_eq_true rfl, Nat.le_of_ble_eq_true rfl⟩ ⟨rfl, rfl⟩ k0 (Nat.le_of_ble_eq_true rfl) (S_X11_here hb1 g1) ?_
    refine r_bipush e_X11_productOf_9 bp_42 ?_
    refine r_icmp_ne e_X11_productOf_11 (fun h11_500 => ?_) (fun h11_500 => ?_)
    · (simp only [F_X11_productOf_5, if_neg h11_500] at hq; first | exact hq | (simp only [if_neg h11_500]; exact hq))
    · refine r_aload_n e_X11_productOf_14 rfl ?_
      refine r_dup e_X11_productOf_15 rfl ?_
      refine r_getI e_X11_productOf_16 fl_X11_312 i0 k0 ?_
      refine r_iconst e_X11_productOf_19 ic_1 ?_
      refine r_iadd e_X11_productOf_20 ?_
      refine r_putI e_X11_productOf_21 fl_X11_312 k0 ?_
      refine r_iload_n e_X11_productOf_24 rfl ?_
      refine r_aload_n e_X11_productOf_25 rfl ?_
      refine cV0v e_X11_productOf_26 cl_X11_336 ⟨Nat.le_of_ble_eq_true rfl, Nat.le_of_ble_eq_true rfl⟩ ⟨rfl, rfl⟩ k0 (Nat.le_of_ble_eq_true rfl) (S_X11_termOf hb1 g2 g3) ?_
      refine r_imul e_X11_productOf_29 ?_
      refine p_istore_n_2_1 e_X11_productOf_30 rfl rfl ?_
      refine r_goto e_X11_productOf_31 ?_
      (simp only [F_X11_productOf_5, if_pos h11_500] at hq; (try simp only [if_pos h11_500] at hH); first | exact ih _ _ hH hq | (simp only [if_pos h11_500]; exact ih _ _ hH hq))
def V_X11_productOf (mA : Nat) (M : Mem) : Int32 := ((F_X11_productOf_5 mA FUEL (V_X11_termOf  mA M) (U_X11_termOf  mA M)).1)
def U_X11_productOf (mA : Nat) (M : Mem) : Mem := ((F_X11_productOf_5 mA FUEL (V_X11_termOf  mA M) (U_X11_termOf  mA M)).2)
def P_X11_productOf (mA : Nat) (M : Mem) : Prop := (P_X11_termOf mA M) ∧ (T_X11_productOf_5 mA FUEL (V_X11_termOf  mA M) (U_X11_termOf  mA M))
theorem S_X11_productOf {sh : List SC} {M : Mem}  {mA : Nat} {oA : Nat} (hb1 : ModelAt sh mA oA) (g1 : vp_in ((((F_X11_termOf_6  FUEL (0 : Int32) (U_X11_step  M)).2).1 242 34) + (((F_X11_termOf_6  FUEL (0 : Int32) (U_X11_step  M)).2).1 242 35)) 4800) (hP : P_X11_productOf mA M) : Gv m_X11_productOf [.ref 242] sh M (.int (V_X11_productOf mA M)) (U_X11_productOf mA M) := by
  refine Sp.of (ls := [some (.ref 242), none]) (by decide +kernel) (Nat.le_of_ble_eq_true rfl) rfl ?_
  obtain ⟨g2, g3⟩ := hP
  have k0 : kd sh 242 = some (10 + 7, 0) := hb1.1
  refine r_aload_n e_X11_productOf_0 rfl ?_
  refine cV0v e_X11_productOf_1 cl_X11_336 ⟨Nat.le_of_ble_eq_true rfl, Nat.le_of_ble_eq_true rfl⟩ ⟨rfl, rfl⟩ k0 (Nat.le_of_ble_eq_true rfl) (S_X11_termOf hb1 g1 g2) ?_
  refine p_istore_n_2_1 e_X11_productOf_4 rfl rfl ?_
  refine L_X11_productOf_5 hb1 FUEL (V_X11_termOf  mA M) (U_X11_termOf  mA M) g3 ?_
  refine r_iload_n e_X11_productOf_34 rfl ?_
  refine r_ireturn e_X11_productOf_35 rfl ⟨rfl, rfl⟩ ?_
  (refine ⟨?_, rfl, ?_⟩ <;> ((try unfold V_X11_productOf); (try unfold U_X11_productOf); (try simp only []); (try rfl)))
def U_X11_scored (x1 : Int32) (mA : Nat) (M : Mem) : Mem := (let M0_0 : Mem := if (20 : Int32) ≤ ((setI M mA ((4 : Int32) + ((1 : Int32) - x1)).toNatClampNeg ((M.1 mA ((4 : Int32) + ((1 : Int32) - x1)).toNatClampNeg) + (1 : Int32))).1 mA 12) then (setI M mA ((4 : Int32) + ((1 : Int32) - x1)).toNatClampNeg ((M.1 mA ((4 : Int32) + ((1 : Int32) - x1)).toNatClampNeg) + (1 : Int32))) else (setI (setI (setI M mA ((4 : Int32) + ((1 : Int32) - x1)).toNatClampNeg ((M.1 mA ((4 : Int32) + ((1 : Int32) - x1)).toNatClampNeg) + (1 : Int32))) mA ((24 : Int32) + ((setI M mA ((4 : Int32) + ((1 : Int32) - x1)).toNatClampNeg ((M.1 mA ((4 : Int32) + ((1 : Int32) - x1)).toNatClampNeg) + (1 : Int32))).1 mA 12)).toNatClampNeg (((setI M mA ((4 : Int32) + ((1 : Int32) - x1)).toNatClampNeg ((M.1 mA ((4 : Int32) + ((1 : Int32) - x1)).toNatClampNeg) + (1 : Int32))).1 mA 3) + ((1000 : Int32) * ((1 : Int32) - x1)))) mA 12 (((setI (setI M mA ((4 : Int32) + ((1 : Int32) - x1)).toNatClampNeg ((M.1 mA ((4 : Int32) + ((1 : Int32) - x1)).toNatClampNeg) + (1 : Int32))) mA ((24 : Int32) + ((setI M mA ((4 : Int32) + ((1 : Int32) - x1)).toNatClampNeg ((M.1 mA ((4 : Int32) + ((1 : Int32) - x1)).toNatClampNeg) + (1 : Int32))).1 mA 12)).toNatClampNeg (((setI M mA ((4 : Int32) + ((1 : Int32) - x1)).toNatClampNeg ((M.1 mA ((4 : Int32) + ((1 : Int32) - x1)).toNatClampNeg) + (1 : Int32))).1 mA 3) + ((1000 : Int32) * ((1 : Int32) - x1)))).1 mA 12) + (1 : Int32))); U_X11_kickOff ((M0_0.1 mA 3) + (1 : Int32)) mA M0_0)
def P_X11_scored (x1 : Int32) (mA : Nat) (M : Mem) : Prop := (¬ ((20 : Int32) ≤ ((setI M mA ((4 : Int32) + ((1 : Int32) - x1)).toNatClampNeg ((M.1 mA ((4 : Int32) + ((1 : Int32) - x1)).toNatClampNeg) + (1 : Int32))).1 mA 12)) → vp_in ((24 : Int32) + ((setI M mA ((4 : Int32) + ((1 : Int32) - x1)).toNatClampNeg ((M.1 mA ((4 : Int32) + ((1 : Int32) - x1)).toNatClampNeg) + (1 : Int32))).1 mA 12)) 212) ∧ (P_X11_kickOff (((if (20 : Int32) ≤ ((setI M mA ((4 : Int32) + ((1 : Int32) - x1)).toNatClampNeg ((M.1 mA ((4 : Int32) + ((1 : Int32) - x1)).toNatClampNeg) + (1 : Int32))).1 mA 12) then (setI M mA ((4 : Int32) + ((1 : Int32) - x1)).toNatClampNeg ((M.1 mA ((4 : Int32) + ((1 : Int32) - x1)).toNatClampNeg) + (1 : Int32))) else (setI (setI (setI M mA ((4 : Int32) + ((1 : Int32) - x1)).toNatClampNeg ((M.1 mA ((4 : Int32) + ((1 : Int32) - x1)).toNatClampNeg) + (1 : Int32))) mA ((24 : Int32) + ((setI M mA ((4 : Int32) + ((1 : Int32) - x1)).toNatClampNeg ((M.1 mA ((4 : Int32) + ((1 : Int32) - x1)).toNatClampNeg) + (1 : Int32))).1 mA 12)).toNatClampNeg (((setI M mA ((4 : Int32) + ((1 : Int32) - x1)).toNatClampNeg ((M.1 mA ((4 : Int32) + ((1 : Int32) - x1)).toNatClampNeg) + (1 : Int32))).1 mA 3) + ((1000 : Int32) * ((1 : Int32) - x1)))) mA 12 (((setI (setI M mA ((4 : Int32) + ((1 : Int32) - x1)).toNatClampNeg ((M.1 mA ((4 : Int32) + ((1 : Int32) - x1)).toNatClampNeg) + (1 : Int32))) mA ((24 : Int32) + ((setI M mA ((4 : Int32) + ((1 : Int32) - x1)).toNatClampNeg ((M.1 mA ((4 : Int32) + ((1 : Int32) - x1)).toNatClampNeg) + (1 : Int32))).1 mA 12)).toNatClampNeg (((setI M mA ((4 : Int32) + ((1 : Int32) - x1)).toNatClampNeg ((M.1 mA ((4 : Int32) + ((1 : Int32) - x1)).toNatClampNeg) + (1 : Int32))).1 mA 3) + ((1000 : Int32) * ((1 : Int32) - x1)))).1 mA 12) + (1 : Int32)))).1 mA 3) + (1 : Int32)) mA (if (20 : Int32) ≤ ((setI M mA ((4 : Int32) + ((1 : Int32) - x1)).toNatClampNeg ((M.1 mA ((4 : Int32) + ((1 : Int32) - x1)).toNatClampNeg) + (1 : Int32))).1 mA 12) then (setI M mA ((4 : Int32) + ((1 : Int32) - x1)).toNatClampNeg ((M.1 mA ((4 : Int32) + ((1 : Int32) - x1)).toNatClampNeg) + (1 : Int32))) else (setI (setI (setI M mA ((4 : Int32) + ((1 : Int32) - x1)).toNatClampNeg ((M.1 mA ((4 : Int32) + ((1 : Int32) - x1)).toNatClampNeg) + (1 : Int32))) mA ((24 : Int32) + ((setI M mA ((4 : Int32) + ((1 : Int32) - x1)).toNatClampNeg ((M.1 mA ((4 : Int32) + ((1 : Int32) - x1)).toNatClampNeg) + (1 : Int32))).1 mA 12)).toNatClampNeg (((setI M mA ((4 : Int32) + ((1 : Int32) - x1)).toNatClampNeg ((M.1 mA ((4 : Int32) + ((1 : Int32) - x1)).toNatClampNeg) + (1 : Int32))).1 mA 3) + ((1000 : Int32) * ((1 : Int32) - x1)))) mA 12 (((setI (setI M mA ((4 : Int32) + ((1 : Int32) - x1)).toNatClampNeg ((M.1 mA ((4 : Int32) + ((1 : Int32) - x1)).toNatClampNeg) + (1 : Int32))) mA ((24 : Int32) + ((setI M mA ((4 : Int32) + ((1 : Int32) - x1)).toNatClampNeg ((M.1 mA ((4 : Int32) + ((1 : Int32) - x1)).toNatClampNeg) + (1 : Int32))).1 mA 12)).toNatClampNeg (((setI M mA ((4 : Int32) + ((1 : Int32) - x1)).toNatClampNeg ((M.1 mA ((4 : Int32) + ((1 : Int32) - x1)).toNatClampNeg) + (1 : Int32))).1 mA 3) + ((1000 : Int32) * ((1 : Int32) - x1)))).1 mA 12) + (1 : Int32)))))
theorem S_X11_scored {sh : List SC} {M : Mem} {x1 : Int32} {mA : Nat} {oA : Nat} (hb1 : ModelAt sh mA oA) (g1 : vp_in ((4 : Int32) + ((1 : Int32) - x1)) 212) (hP : P_X11_scored x1 mA M) : Gu m_X11_scored [.ref 242, .int x1] sh M (U_X11_scored x1 mA M) := by
  refine Sp.of (ls := [some (.ref 242), some (.int x1), none]) (by decide +kernel) (Nat.le_of_ble_eq_true rfl) rfl ?_
  obtain ⟨g2, g3⟩ := hP
  have k0 : kd sh 242 = some (10 + 7, 0) := hb1.1
  have k1 : rf sh 242 27 = some mA := hb1.2.2.2.2.2.2.2.2.2.2.2.2.2.2.2.2.2.1
  have k2 : kd sh mA = some (0, 212) := hb1.2.2.2.2.2.2.2.2.2.2.2.2.2.2.2.2.2.2.2.2.2.2.2.2.2.2.2.2.2.2.2.2.2.2.2.2.2.2.2.2.2.2.2.2.2.2.2.2.2.2.2.1
  refine r_iconst e_X11_scored_0 ic_1 ?_
  refine r_iload_n e_X11_scored_1 rfl ?_
  refine r_isub e_X11_scored_2 ?_
  refine p_istore_n_3_2 e_X11_scored_3 rfl rfl ?_
  refine r_aload_n e_X11_scored_4 rfl ?_
  refine r_getR e_X11_scored_5 fl_X11_212 k0 k1 ?_
  refine r_iconst e_X11_scored_8 ic_4 ?_
  refine r_iload_n e_X11_scored_9 rfl ?_
  refine r_iadd e_X11_scored_10 ?_
  refine r_dup2 e_X11_scored_11 rfl rfl ?_
  refine r_iaload e_X11_scored_12 k2 g1 ?_
  refine r_iconst e_X11_scored_13 ic_1 ?_
  refine r_iadd e_X11_scored_14 ?_
  refine r_iastore e_X11_scored_15 k2 g1 ?_
  refine r_aload_n e_X11_scored_16 rfl ?_
  refine r_getR e_X11_scored_17 fl_X11_212 k0 k1 ?_
  refine r_bipush e_X11_scored_20 bp_12 ?_
  refine r_ialoade (v := ((setI M mA ((4 : Int32) + ((1 : Int32) - x1)).toNatClampNeg ((M.1 mA ((4 : Int32) + ((1 : Int32) - x1)).toNatClampNeg) + (1 : Int32))).1 mA 12)) e_X11_scored_22 k2 (by unfold vp_in; decide) (show (setI M mA ((4 : Int32) + ((1 : Int32) - x1)).toNatClampNeg ((M.1 mA ((4 : Int32) + ((1 : Int32) - x1)).toNatClampNeg) + (1 : Int32))).1 mA (12 : Int32).toNatClampNeg = (setI M mA ((4 : Int32) + ((1 : Int32) - x1)).toNatClampNeg ((M.1 mA ((4 : Int32) + ((1 : Int32) - x1)).toNatClampNeg) + (1 : Int32))).1 mA 12 by rw [show (12 : Int32).toNatClampNeg = 12 from rfl]) ?_
  refine r_bipush e_X11_scored_23 bp_20 ?_
  obtain ⟨M0_0, e_M0_0⟩ : ∃ z : Mem, z = (if (20 : Int32) ≤ ((setI M mA ((4 : Int32) + ((1 : Int32) - x1)).toNatClampNeg ((M.1 mA ((4 : Int32) + ((1 : Int32) - x1)).toNatClampNeg) + (1 : Int32))).1 mA 12) then (setI M mA ((4 : Int32) + ((1 : Int32) - x1)).toNatClampNeg ((M.1 mA ((4 : Int32) + ((1 : Int32) - x1)).toNatClampNeg) + (1 : Int32))) else (setI (setI (setI M mA ((4 : Int32) + ((1 : Int32) - x1)).toNatClampNeg ((M.1 mA ((4 : Int32) + ((1 : Int32) - x1)).toNatClampNeg) + (1 : Int32))) mA ((24 : Int32) + ((setI M mA ((4 : Int32) + ((1 : Int32) - x1)).toNatClampNeg ((M.1 mA ((4 : Int32) + ((1 : Int32) - x1)).toNatClampNeg) + (1 : Int32))).1 mA 12)).toNatClampNeg (((setI M mA ((4 : Int32) + ((1 : Int32) - x1)).toNatClampNeg ((M.1 mA ((4 : Int32) + ((1 : Int32) - x1)).toNatClampNeg) + (1 : Int32))).1 mA 3) + ((1000 : Int32) * ((1 : Int32) - x1)))) mA 12 (((setI (setI M mA ((4 : Int32) + ((1 : Int32) - x1)).toNatClampNeg ((M.1 mA ((4 : Int32) + ((1 : Int32) - x1)).toNatClampNeg) + (1 : Int32))) mA ((24 : Int32) + ((setI M mA ((4 : Int32) + ((1 : Int32) - x1)).toNatClampNeg ((M.1 mA ((4 : Int32) + ((1 : Int32) - x1)).toNatClampNeg) + (1 : Int32))).1 mA 12)).toNatClampNeg (((setI M mA ((4 : Int32) + ((1 : Int32) - x1)).toNatClampNeg ((M.1 mA ((4 : Int32) + ((1 : Int32) - x1)).toNatClampNeg) + (1 : Int32))).1 mA 3) + ((1000 : Int32) * ((1 : Int32) - x1)))).1 mA 12) + (1 : Int32)))) := ⟨_, rfl⟩
  suffices j66_0 : WP m_X11_scored (fun r sh' M'' => r = none ∧ sh' = sh ∧ M'' = (U_X11_scored x1 mA M)) 66 [some (.ref 242), some (.int x1), some (.int ((1 : Int32) - x1))] [] sh M0_0 0 0 by
    refine r_icmp_ge e_X11_scored_25 (fun h25_0 => ?_) (fun h25_0 => ?_)
    · (rw [show M0_0 = setI M mA ((4 : Int32) + ((1 : Int32) - x1)).toNatClampNeg ((M.1 mA ((4 : Int32) + ((1 : Int32) - x1)).toNatClampNeg) + (1 : Int32)) from (e_M0_0.trans (if_pos h25_0))] at j66_0; exact j66_0)
    · refine r_aload_n e_X11_scored_28 rfl ?_
      refine r_getR e_X11_scored_29 fl_X11_212 k0 k1 ?_
      refine r_bipush e_X11_scored_32 bp_24 ?_
      refine r_aload_n e_X11_scored_34 rfl ?_
      refine r_getR e_X11_scored_35 fl_X11_212 k0 k1 ?_
      refine r_bipush e_X11_scored_38 bp_12 ?_
      refine r_ialoade (v := ((setI M mA ((4 : Int32) + ((1 : Int32) - x1)).toNatClampNeg ((M.1 mA ((4 : Int32) + ((1 : Int32) - x1)).toNatClampNeg) + (1 : Int32))).1 mA 12)) e_X11_scored_40 k2 (by unfold vp_in; decide) (show (setI M mA ((4 : Int32) + ((1 : Int32) - x1)).toNatClampNeg ((M.1 mA ((4 : Int32) + ((1 : Int32) - x1)).toNatClampNeg) + (1 : Int32))).1 mA (12 : Int32).toNatClampNeg = (setI M mA ((4 : Int32) + ((1 : Int32) - x1)).toNatClampNeg ((M.1 mA ((4 : Int32) + ((1 : Int32) - x1)).toNatClampNeg) + (1 : Int32))).1 mA 12 by rw [show (12 : Int32).toNatClampNeg = 12 from rfl]) ?_
      refine r_iadd e_X11_scored_41 ?_
      refine r_aload_n e_X11_scored_42 rfl ?_
      refine r_getR e_X11_scored_43 fl_X11_212 k0 k1 ?_
      refine r_iconst e_X11_scored_46 ic_3 ?_
      refine r_ialoade (v := ((setI M mA ((4 : Int32) + ((1 : Int32) - x1)).toNatClampNeg ((M.1 mA ((4 : Int32) + ((1 : Int32) - x1)).toNatClampNeg) + (1 : Int32))).1 mA 3)) e_X11_scored_47 k2 (by unfold vp_in; decide) (show (setI M mA ((4 : Int32) + ((1 : Int32) - x1)).toNatClampNeg ((M.1 mA ((4 : Int32) + ((1 : Int32) - x1)).toNatClampNeg) + (1 : Int32))).1 mA (3 : Int32).toNatClampNeg = (setI M mA ((4 : Int32) + ((1 : Int32) - x1)).toNatClampNeg ((M.1 mA ((4 : Int32) + ((1 : Int32) - x1)).toNatClampNeg) + (1 : Int32))).1 mA 3 by rw [show (3 : Int32).toNatClampNeg = 3 from rfl]) ?_
      refine r_sipush e_X11_scored_48 sp_1000 ?_
      refine r_iload_n e_X11_scored_51 rfl ?_
      refine r_imul e_X11_scored_52 ?_
      refine r_iadd e_X11_scored_53 ?_
      refine r_iastore e_X11_scored_54 k2 (g2 h25_0) ?_
      refine r_aload_n e_X11_scored_55 rfl ?_
      refine r_getR e_X11_scored_56 fl_X11_212 k0 k1 ?_
      refine r_bipush e_X11_scored_59 bp_12 ?_
      refine r_dup2 e_X11_scored_61 rfl rfl ?_
      refine r_ialoade (v := ((setI (setI M mA ((4 : Int32) + ((1 : Int32) - x1)).toNatClampNeg ((M.1 mA ((4 : Int32) + ((1 : Int32) - x1)).toNatClampNeg) + (1 : Int32))) mA ((24 : Int32) + ((setI M mA ((4 : Int32) + ((1 : Int32) - x1)).toNatClampNeg ((M.1 mA ((4 : Int32) + ((1 : Int32) - x1)).toNatClampNeg) + (1 : Int32))).1 mA 12)).toNatClampNeg (((setI M mA ((4 : Int32) + ((1 : Int32) - x1)).toNatClampNeg ((M.1 mA ((4 : Int32) + ((1 : Int32) - x1)).toNatClampNeg) + (1 : Int32))).1 mA 3) + ((1000 : Int32) * ((1 : Int32) - x1)))).1 mA 12)) e_X11_scored_62 k2 (by unfold vp_in; decide) (show (setI (setI M mA ((4 : Int32) + ((1 : Int32) - x1)).toNatClampNeg ((M.1 mA ((4 : Int32) + ((1 : Int32) - x1)).toNatClampNeg) + (1 : Int32))) mA ((24 : Int32) + ((setI M mA ((4 : Int32) + ((1 : Int32) - x1)).toNatClampNeg ((M.1 mA ((4 : Int32) + ((1 : Int32) - x1)).toNatClampNeg) + (1 : Int32))).1 mA 12)).toNatClampNeg (((setI M mA ((4 : Int32) + ((1 : Int32) - x1)).toNatClampNeg ((M.1 mA ((4 : Int32) + ((1 : Int32) - x1)).toNatClampNeg) + (1 : Int32))).1 mA 3) + ((1000 : Int32) * ((1 : Int32) - x1)))).1 mA (12 : Int32).toNatClampNeg = (setI (setI M mA ((4 : Int32) + ((1 : Int32) - x1)).toNatClampNeg ((M.1 mA ((4 : Int32) + ((1 : Int32) - x1)).toNatClampNeg) + (1 : Int32))) mA ((24 : Int32) + ((setI M mA ((4 : Int32) + ((1 : Int32) - x1)).toNatClampNeg ((M.1 mA ((4 : Int32) + ((1 : Int32) - x1)).toNatClampNeg) + (1 : Int32))).1 mA 12)).toNatClampNeg (((setI M mA ((4 : Int32) + ((1 : Int32) - x1)).toNatClampNeg ((M.1 mA ((4 : Int32) + ((1 : Int32) - x1)).toNatClampNeg) + (1 : Int32))).1 mA 3) + ((1000 : Int32) * ((1 : Int32) - x1)))).1 mA 12 by rw [show (12 : Int32).toNatClampNeg = 12 from rfl]) ?_
      refine r_iconst e_X11_scored_63 ic_1 ?_
      refine r_iadd e_X11_scored_64 ?_
      refine r_iastore e_X11_scored_65 k2 (by unfold vp_in; decide) ?_
      rw [show (12 : Int32).toNatClampNeg = 12 from rfl]
      (rw [show M0_0 = setI (setI (setI M mA ((4 : Int32) + ((1 : Int32) - x1)).toNatClampNeg ((M.1 mA ((4 : Int32) + ((1 : Int32) - x1)).toNatClampNeg) + (1 : Int32))) mA ((24 : Int32) + ((setI M mA ((4 : Int32) + ((1 : Int32) - x1)).toNatClampNeg ((M.1 mA ((4 : Int32) + ((1 : Int32) - x1)).toNatClampNeg) + (1 : Int32))).1 mA 12)).toNatClampNeg (((setI M mA ((4 : Int32) + ((1 : Int32) - x1)).toNatClampNeg ((M.1 mA ((4 : Int32) + ((1 : Int32) - x1)).toNatClampNeg) + (1 : Int32))).1 mA 3) + ((1000 : Int32) * ((1 : Int32) - x1)))) mA 12 (((setI (setI M mA ((4 : Int32) + ((1 : Int32) - x1)).toNatClampNeg ((M.1 mA ((4 : Int32) + ((1 : Int32) - x1)).toNatClampNeg) + (1 : Int32))) mA ((24 : Int32) + ((setI M mA ((4 : Int32) + ((1 : Int32) - x1)).toNatClampNeg ((M.1 mA ((4 : Int32) + ((1 : Int32) - x1)).toNatClampNeg) + (1 : Int32))).1 mA 12)).toNatClampNeg (((setI M mA ((4 : Int32) + ((1 : Int32) - x1)).toNatClampNeg ((M.1 mA ((4 : Int32) + ((1 : Int32) - x1)).toNatClampNeg) + (1 : Int32))).1 mA 3) + ((1000 : Int32) * ((1 : Int32) - x1)))).1 mA 12) + (1 : Int32)) from (e_M0_0.trans (if_neg h25_0))] at j66_0; exact j66_0)
  refine r_aload_n e_X11_scored_66 rfl ?_
  refine r_aload_n e_X11_scored_67 rfl ?_
  refine r_getR e_X11_scored_68 fl_X11_212 k0 k1 ?_
  refine r_iconst e_X11_scored_71 ic_3 ?_
  refine r_ialoade (v := (M0_0.1 mA 3)) e_X11_scored_72 k2 (by unfold vp_in; decide) (show M0_0.1 mA (3 : Int32).toNatClampNeg = M0_0.1 mA 3 by rw [show (3 : Int32).toNatClampNeg = 3 from rfl]) ?_
  refine r_iconst e_X11_scored_73 ic_1 ?_
  refine r_iadd e_X11_scored_74 ?_
  refine cV1u e_X11_scored_75 cl_X11_295 ⟨Nat.le_of_ble_eq_true rfl, Nat.le_of_ble_eq_true rfl⟩ ⟨rfl, rfl⟩ k0 (Nat.le_of_ble_eq_true rfl) (S_X11_kickOff hb1 (by subst e_M0_0; exact g3 )) ?_
  refine r_return e_X11_scored_78 rfl ⟨rfl, rfl⟩ ?_
  (subst e_M0_0; refine ⟨?_, rfl, ?_⟩ <;> ((try unfold U_X11_scored); (try simp only []); (try rfl)))
def F_X4_readRule_11 (a : Nat) (x1 : Nat) : Nat → Nat → Int32 → Mem → Int32 × Mem
  | 0, i11, u2, M => (u2, M)
  | n + 1, i11, u2, M => if 0 ≤ (M.1 a 9) then (u2, M) else (if u2 = 0 then (u2, M) else (let Mc1001 : Mem := U_X3_addTest x1 (V_X4_take a (29 : Int32) (31 : Int32) (U_X4_readSum a x1 M)) (U_X4_readSum a x1 (U_X4_take a (29 : Int32) (31 : Int32) (U_X4_readSum a x1 M))); let v1102_0 : Int32 := if (V_X4_kind a Mc1001) = (2 : Int32) then (1 : Int32) else (0 : Int32); let M1103_0 : Mem := if v1102_0 = 0 then Mc1001 else (U_X4_take a (2 : Int32) (2 : Int32) Mc1001); (F_X4_readRule_11 a x1 n (i11 + 1) v1102_0 M1103_0)))
def H_X4_readRule_11 (a : Nat) (x1 : Nat) : Nat → Nat → Int32 → Mem → Prop
  | 0, i11, u2, M => True
  | n + 1, i11, u2, M => (P_X4_readSum a x1 M) ∧ (¬ ((U_X4_readSum a x1 M).1 a 7) < 0) ∧ (P_X4_readSum a x1 (U_X4_take a (29 : Int32) (31 : Int32) (U_X4_readSum a x1 M))) ∧ (¬ ((U_X3_addTest x1 (V_X4_take a (29 : Int32) (31 : Int32) (U_X4_readSum a x1 M)) (U_X4_readSum a x1 (U_X4_take a (29 : Int32) (31 : Int32) (U_X4_readSum a x1 M)))).1 a 7) < 0) ∧ (if 0 ≤ (M.1 a 9) then True else (if u2 = 0 then True else (let Mc1001 : Mem := U_X3_addTest x1 (V_X4_take a (29 : Int32) (31 : Int32) (U_X4_readSum a x1 M)) (U_X4_readSum a x1 (U_X4_take a (29 : Int32) (31 : Int32) (U_X4_readSum a x1 M))); let v1102_0 : Int32 := if (V_X4_kind a Mc1001) = (2 : Int32) then (1 : Int32) else (0 : Int32); let M1103_0 : Mem := if v1102_0 = 0 then Mc1001 else (U_X4_take a (2 : Int32) (2 : Int32) Mc1001); (H_X4_readRule_11 a x1 n (i11 + 1) v1102_0 M1103_0))))
theorem L_X4_readRule_11 {sh : List SC} {Q : Po} {a : Nat} {x1 : Nat}    (hb1 : ReaderAt sh a) (hb2 : ProgramAt sh x1)   : ∀ (n i11 : Nat) (u2 : Int32) (M : Mem), i11 + n = 800 → H_X4_readRule_11 a x1 n i11 u2 M → WP m_X4_readRule Q 86 [some (.ref a), some (.ref x1), some (.int ((F_X4_readRule_11 a x1 n i11 u2 M).1)), none, none] [] sh ((F_X4_readRule_11 a x1 n i11 u2 M).2) 0 0 → WP m_X4_readRule Q 11 [some (.ref a), some (.ref x1), some (.int u2), some (.int (nI i11)), none] [] sh M 0 0 := by
  have k0 : kd sh a = some (4 + 7, 0) := hb1.1
  have k1 : kd sh x1 = some (3 + 7, 0) := hb2.1
  intro n
  induction n with
  | zero =>
    intro i11 u2 M hi _ hq
    have hz : (800 : Int32) ≤ nI i11 := by
      have q : i11 = 800 := by omega
      rw [q]; exact nI_le (Nat.le_refl _) (by decide)
    refine r_iload_n e_X4_readRule_11 rfl ?_
    refine r_sipush e_X4_readRule_12 sp_800 ?_
    refine r_icmp_ge e_X4_readRule_15 (fun _ => ?_) (fun hh => absurd hz hh)
    refine d_5_3 ?_
    (simp only [F_X4_readRule_11] at hq; first | exact hq | (simp only []; exact hq))
  | succ n ih =>
    intro i11 u2 M hi hH hq
    unfold H_X4_readRule_11 at hH
    obtain ⟨g1, g2, g3, g4, hH⟩ := hH
    have hlt_i11 : i11 < 800 := by omega
    have hcl_i11 : (nI i11).toNatClampNeg = i11 := nI_clamp (by omega)
    have hs : ¬ (800 : Int32) ≤ nI i11 := nI_ge (b := 800) hlt_i11 (by decide)
    refine r_iload_n e_X4_readRule_11 rfl ?_
    refine r_sipush e_X4_readRule_12 sp_800 ?_
    refine r_icmp_ge e_X4_readRule_15 (fun hh => absurd hh hs) (fun _ => ?_)
    refine r_aload_n e_X4_readRule_18 rfl ?_
    refine r_getI e_X4_readRule_19 fl_X4_44 i0 k0 ?_
    refine r_if_ge e_X4_readRule_22 (fun h22_1100 => ?_) (fun h22_1100 => ?_)
    · refine d_5_3 ?_
      (simp only [F_X4_readRule_11, if_pos h22_1100] at hq; first | exact hq | (simp only [if_pos h22_1100]; exact hq))
    · refine r_iload_n e_X4_readRule_25 rfl ?_
      refine r_if_eq e_X4_readRule_26 (fun h26_1101 => ?_) (fun h26_1101 => ?_)
      · refine d_5_3 ?_
        (simp only [F_X4_readRule_11, if_neg h22_1100, if_pos h26_1101] at hq; first | exact hq | (simp only [if_neg h22_1100, if_pos h26_1101]; exact hq))
      · refine r_aload_n e_X4_readRule_29 rfl ?_
        refine r_aload_n e_X4_readRule_30 rfl ?_
        refine cV1u e_X4_readRule_31 cl_X4_152 ⟨Nat.le_of_ble_eq_true rfl, Nat.le_of_ble_eq_true rfl⟩ ⟨rfl, rfl⟩ k0 (Nat.le_of_ble_eq_true rfl) (S_X4_readSum hb1 hb2 g1) ?_
        refine r_aload_n e_X4_readRule_34 rfl ?_
        refine r_bipush e_X4_readRule_35 bp_29 ?_
        refine r_bipush e_X4_readRule_37 bp_31 ?_
        refine cV2v e_X4_readRule_39 cl_X4_83 ⟨Nat.le_of_ble_eq_true rfl, Nat.le_of_ble_eq_true rfl⟩ ⟨rfl, rfl⟩ k0 (Nat.le_of_ble_eq_true rfl) (S_X4_take hb1 g2) ?_
        refine p_istore_5_4 e_X4_readRule_42 rfl rfl ?_
        refine r_aload_n e_X4_readRule_44 rfl ?_
        refine r_aload_n e_X4_readRule_45 rfl ?_
        refine cV1u e_X4_readRule_46 cl_X4_152 ⟨Nat.le_of_ble_eq_true rfl, Nat.le_of_ble_eq_true rfl⟩ ⟨rfl, rfl⟩ k0 (Nat.le_of_ble_eq_true rfl) (S_X4_readSum hb1 hb2 g3) ?_
        refine r_aload_n e_X4_readRule_49 rfl ?_
        refine r_iload e_X4_readRule_50 rfl ?_
        refine cV1u e_X4_readRule_52 cl_X4_155 ⟨Nat.le_of_ble_eq_true rfl, Nat.le_of_ble_eq_true rfl⟩ ⟨rfl, rfl⟩ k1 (Nat.le_of_ble_eq_true rfl) (S_X3_addTest hb2) ?_
        obtain ⟨Mc1001, e_Mc1001⟩ : ∃ z : Mem, z = (U_X3_addTest x1 (V_X4_take a (29 : Int32) (31 : Int32) (U_X4_readSum a x1 M)) (U_X4_readSum a x1 (U_X4_take a (29 : Int32) (31 : Int32) (U_X4_readSum a x1 M)))) := ⟨_, rfl⟩
        rw [← e_Mc1001]
        refine r_aload_n e_X4_readRule_55 rfl ?_
        refine cV0v e_X4_readRule_56 cl_X4_77 ⟨Nat.le_of_ble_eq_true rfl, Nat.le_of_ble_eq_true rfl⟩ ⟨rfl, rfl⟩ k0 (Nat.le_of_ble_eq_true rfl) (S_X4_kind hb1) ?_
        refine r_iconst e_X4_readRule_59 ic_2 ?_
        obtain ⟨v1102_0, e_v1102_0⟩ : ∃ z : Int32, z = (if (V_X4_kind a Mc1001) = (2 : Int32) then (1 : Int32) else (0 : Int32)) := ⟨_, rfl⟩
        have z_v1102_0 : v1102_0 = 0 ∨ v1102_0 = 1 := by rw [e_v1102_0]; exact (zi (Or.inr rfl) (Or.inl rfl))
        suffices j68_1102 : WP m_X4_readRule Q 68 [some (.ref a), some (.ref x1), some (.int u2), some (.int (nI i11)), some (.int (V_X4_take a (29 : Int32) (31 : Int32) (U_X4_readSum a x1 M)))] [.int v1102_0] sh Mc1001 0 0 by
          refine r_icmp_ne e_X4_readRule_60 (fun h60_1102 => ?_) (fun h60_1102 => ?_)
          · refine r_iconst e_X4_readRule_67 ic_0 ?_
            (rw [show v1102_0 = (0 : Int32) from (e_v1102_0.trans (if_neg h60_1102))] at j68_1102; exact j68_1102)
          · refine r_iconst e_X4_readRule_63 ic_1 ?_
            refine r_goto e_X4_readRule_64 ?_
            (rw [show v1102_0 = (1 : Int32) from (e_v1102_0.trans (if_pos h60_1102))] at j68_1102; exact j68_1102)
        refine p_istore_n_5_2 e_X4_readRule_68 rfl rfl ?_
        refine r_iload_n e_X4_readRule_69 rfl ?_
        obtain ⟨M1103_0, e_M1103_0⟩ : ∃ z : Mem, z = (if v1102_0 = 0 then Mc1001 else (U_X4_take a (2 : Int32) (2 : Int32) Mc1001)) := ⟨_, rfl⟩
        suffices j80_1103 : WP m_X4_readRule Q 80 [some (.ref a), some (.ref x1), some (.int v1102_0), some (.int (nI i11)), some (.int (V_X4_take a (29 : Int32) (31 : Int32) (U_X4_readSum a x1 M)))] [] sh M1103_0 0 0 by
          refine r_if_eq e_X4_readRule_70 (fun h70_1103 => ?_) (fun h70_1103 => ?_)
          · (rw [show M1103_0 = Mc1001 from (e_M1103_0.trans (if_pos h70_1103))] at j80_1103; exact j80_1103)
          · refine r_aload_n e_X4_readRule_73 rfl ?_
            refine r_iconst e_X4_readRule_74 ic_2 ?_
            refine r_iconst e_X4_readRule_75 ic_2 ?_
            refine cV2v e_X4_readRule_76 cl_X4_83 ⟨Nat.le_of_ble_eq_true rfl, Nat.le_of_ble_eq_true rfl⟩ ⟨rfl, rfl⟩ k0 (Nat.le_of_ble_eq_true rfl) (S_X4_take hb1 (by subst e_Mc1001; exact g4 )) ?_
            refine r_pop e_X4_readRule_79 rfl ?_
            (rw [show M1103_0 = U_X4_take a (2 : Int32) (2 : Int32) Mc1001 from (e_M1103_0.trans (if_neg h70_1103))] at j80_1103; exact j80_1103)
        refine p_iinc_5_3 e_X4_readRule_80 rfl ic_1 rfl ?_
        rw [nI_1 i11]
        refine r_goto e_X4_readRule_83 ?_
        refine d_5_4 ?_
        (subst e_M1103_0 e_v1102_0 e_Mc1001; simp only [F_X4_readRule_11, if_neg h22_1100, if_neg h26_1101] at hq; (try simp only [if_neg h22_1100, if_neg h26_1101] at hH); first | exact ih (i11 + 1) _ _ (by omega) hH hq | (simp only [if_neg h22_1100, if_neg h26_1101]; exact ih (i11 + 1) _ _ (by omega) hH hq))
def F_X4_readRule_97 (a : Nat) (x1 : Nat) (w2 : Int32) : Nat → Int32 → Mem → Int32 × Mem
  | 0, u3, M => (u3, M)
  | n + 1, u3, M => if (8 : Int32) < u3 then (u3, M) else (if 0 ≤ (M.1 a 9) then (u3, M) else (if (V_X4_kind a M) = (28 : Int32) then (u3, M) else (let M9703_0 : Mem := if u3 = (8 : Int32) then (U_X4_refuse a M) else M; (F_X4_readRule_97 a x1 w2 n (u3 + 1) (U_X4_readAct a x1 M9703_0)))))
def T_X4_readRule_97 (a : Nat) (x1 : Nat) (w2 : Int32) : Nat → Int32 → Mem → Prop
  | 0, u3, M => False
  | n + 1, u3, M => (¬ ((if u3 = (8 : Int32) then (U_X4_refuse a M) else M).1 a 7) < 0) ∧ (¬ ((U_X4_take a (3 : Int32) (8 : Int32) (if u3 = (8 : Int32) then (U_X4_refuse a M) else M)).1 a 7) < 0) ∧ (¬ (((F_X4_readAct_88 a x1 (V_X4_take a (3 : Int32) (8 : Int32) (if u3 = (8 : Int32) then (U_X4_refuse a M) else M)) (if (V_X4_take a (3 : Int32) (8 : Int32) (if u3 = (8 : Int32) then (U_X4_refuse a M) else M)) = (3 : Int32) then ((U_X4_take a (26 : Int32) (26 : Int32) (U_X4_take a (3 : Int32) (8 : Int32) (if u3 = (8 : Int32) then (U_X4_refuse a M) else M))).2 a 8) else (if (V_X4_take a (3 : Int32) (8 : Int32) (if u3 = (8 : Int32) then (U_X4_refuse a M) else M)) = (4 : Int32) then (((V_X4_take a (13 : Int32) (16 : Int32) (U_X4_take a (3 : Int32) (8 : Int32) (if u3 = (8 : Int32) then (U_X4_refuse a M) else M))) - (13 : Int32)).toInt64) else (0 : Int64))) (if (V_X4_take a (3 : Int32) (8 : Int32) (if u3 = (8 : Int32) then (U_X4_refuse a M) else M)) = (3 : Int32) then (0 : Int32) else (if (V_X4_take a (3 : Int32) (8 : Int32) (if u3 = (8 : Int32) then (U_X4_refuse a M) else M)) = (4 : Int32) then (1 : Int32) else (if (V_X4_take a (3 : Int32) (8 : Int32) (if u3 = (8 : Int32) then (U_X4_refuse a M) else M)) = (5 : Int32) then (2 : Int32) else (if (V_X4_take a (3 : Int32) (8 : Int32) (if u3 = (8 : Int32) then (U_X4_refuse a M) else M)) = (6 : Int32) then (2 : Int32) else (if (V_X4_take a (3 : Int32) (8 : Int32) (if u3 = (8 : Int32) then (U_X4_refuse a M) else M)) = (7 : Int32) then (3 : Int32) else (0 : Int32)))))) FUEL (0 : Int32) (if (V_X4_take a (3 : Int32) (8 : Int32) (if u3 = (8 : Int32) then (U_X4_refuse a M) else M)) = (3 : Int32) then (U_X4_take a (26 : Int32) (26 : Int32) (U_X4_take a (3 : Int32) (8 : Int32) (if u3 = (8 : Int32) then (U_X4_refuse a M) else M))) else (if (V_X4_take a (3 : Int32) (8 : Int32) (if u3 = (8 : Int32) then (U_X4_refuse a M) else M)) = (4 : Int32) then (U_X4_take a (13 : Int32) (16 : Int32) (U_X4_take a (3 : Int32) (8 : Int32) (if u3 = (8 : Int32) then (U_X4_refuse a M) else M))) else (U_X4_take a (3 : Int32) (8 : Int32) (if u3 = (8 : Int32) then (U_X4_refuse a M) else M))))).2).1 a 7) < 0) ∧ (¬ ((U_X4_take a (35 : Int32) (35 : Int32) ((F_X4_readAct_88 a x1 (V_X4_take a (3 : Int32) (8 : Int32) (if u3 = (8 : Int32) then (U_X4_refuse a M) else M)) (if (V_X4_take a (3 : Int32) (8 : Int32) (if u3 = (8 : Int32) then (U_X4_refuse a M) else M)) = (3 : Int32) then ((U_X4_take a (26 : Int32) (26 : Int32) (U_X4_take a (3 : Int32) (8 : Int32) (if u3 = (8 : Int32) then (U_X4_refuse a M) else M))).2 a 8) else (if (V_X4_take a (3 : Int32) (8 : Int32) (if u3 = (8 : Int32) then (U_X4_refuse a M) else M)) = (4 : Int32) then (((V_X4_take a (13 : Int32) (16 : Int32) (U_X4_take a (3 : Int32) (8 : Int32) (if u3 = (8 : Int32) then (U_X4_refuse a M) else M))) - (13 : Int32)).toInt64) else (0 : Int64))) (if (V_X4_take a (3 : Int32) (8 : Int32) (if u3 = (8 : Int32) then (U_X4_refuse a M) else M)) = (3 : Int32) then (0 : Int32) else (if (V_X4_take a (3 : Int32) (8 : Int32) (if u3 = (8 : Int32) then (U_X4_refuse a M) else M)) = (4 : Int32) then (1 : Int32) else (if (V_X4_take a (3 : Int32) (8 : Int32) (if u3 = (8 : Int32) then (U_X4_refuse a M) else M)) = (5 : Int32) then (2 : Int32) else (if (V_X4_take a (3 : Int32) (8 : Int32) (if u3 = (8 : Int32) then (U_X4_refuse a M) else M)) = (6 : Int32) then (2 : Int32) else (if (V_X4_take a (3 : Int32) (8 : Int32) (if u3 = (8 : Int32) then (U_X4_refuse a M) else M)) = (7 : Int32) then (3 : Int32) else (0 : Int32)))))) FUEL (0 : Int32) (if (V_X4_take a (3 : Int32) (8 : Int32) (if u3 = (8 : Int32) then (U_X4_refuse a M) else M)) = (3 : Int32) then (U_X4_take a (26 : Int32) (26 : Int32) (U_X4_take a (3 : Int32) (8 : Int32) (if u3 = (8 : Int32) then (U_X4_refuse a M) else M))) else (if (V_X4_take a (3 : Int32) (8 : Int32) (if u3 = (8 : Int32) then (U_X4_refuse a M) else M)) = (4 : Int32) then (U_X4_take a (13 : Int32) (16 : Int32) (U_X4_take a (3 : Int32) (8 : Int32) (if u3 = (8 : Int32) then (U_X4_refuse a M) else M))) else (U_X4_take a (3 : Int32) (8 : Int32) (if u3 = (8 : Int32) then (U_X4_refuse a M) else M))))).2)).1 x1 9) < 0) ∧ (P_X4_readAct a x1 (if u3 = (8 : Int32) then (U_X4_refuse a M) else M)) ∧ (if (8 : Int32) < u3 then True else (if 0 ≤ (M.1 a 9) then True else (if (V_X4_kind a M) = (28 : Int32) then True else (let M9703_0 : Mem := if u3 = (8 : Int32) then (U_X4_refuse a M) else M; (T_X4_readRule_97 a x1 w2 n (u3 + 1) (U_X4_readAct a x1 M9703_0))))))
theorem L_X4_readRule_97 {sh : List SC} {Q : Po} {a : Nat} {x1 : Nat}  {w2 : Int32}  (hb1 : ReaderAt sh a) (hb2 : ProgramAt sh x1)   : ∀ (n : Nat) (u3 : Int32) (M : Mem), T_X4_readRule_97 a x1 w2 n u3 M → WP m_X4_readRule Q 140 [some (.ref a), some (.ref x1), some (.int w2), some (.int ((F_X4_readRule_97 a x1 w2 n u3 M).1)), none] [] sh ((F_X4_readRule_97 a x1 w2 n u3 M).2) 0 0 → WP m_X4_readRule Q 97 [some (.ref a), some (.ref x1), some (.int w2), some (.int u3), none] [] sh M 0 0 := by
  have k0 : kd sh a = some (4 + 7, 0) := hb1.1
  intro n
  induction n with
  | zero =>
    intro u3 M hH hq
    exact hH.elim
  | succ n ih =>
    intro u3 M hH hq
    unfold T_X4_readRule_97 at hH
    obtain ⟨g1, g2, g3, g4, g5, hH⟩ := hH
    refine r_iload_n e_X4_readRule_97 rfl ?_
    refine r_bipush e_X4_readRule_98 bp_8 ?_
    refine r_icmp_gt e_X4_readRule_100 (fun h100_9700 => ?_) (fun h100_9700 => ?_)
    · (simp only [F_X4_readRule_97, if_pos h100_9700] at hq; first | exact hq | (simp only [if_pos h100_9700]; exact hq))
    · refine r_aload_n e_X4_readRule_103 rfl ?_
      refine r_getI e_X4_readRule_104 fl_X4_44 i0 k0 ?_
      refine r_if_ge e_X4_readRule_107 (fun h107_9701 => ?_) (fun h107_9701 => ?_)
      · (simp only [F_X4_readRule_97, if_neg h100_9700, if_pos h107_9701] at hq; first | exact hq | (simp only [if_neg h100_9700, if_pos h107_9701]; exact hq))
      · refine r_aload_n e_X4_readRule_110 rfl ?_
        refine cV0v e_X4_readRule_111 cl_X4_77 ⟨Nat.le_of_ble_eq_true rfl, Nat.le_of_ble_eq_true rfl⟩ ⟨rfl, rfl⟩ k0 (Nat.le_of_ble_eq_true rfl) (S_X4_kind hb1) ?_
        refine r_bipush e_X4_readRule_114 bp_28 ?_
        refine r_icmp_eq e_X4_readRule_116 (fun h116_9702 => ?_) (fun h116_9702 => ?_)
        · (simp only [F_X4_readRule_97, if_neg h100_9700, if_neg h107_9701, if_pos h116_9702] at hq; first | exact hq | (simp only [if_neg h100_9700, if_neg h107_9701, if_pos h116_9702]; exact hq))
        · refine r_iload_n e_X4_readRule_119 rfl ?_
          refine r_bipush e_X4_readRule_120 bp_8 ?_
          obtain ⟨M9703_0, e_M9703_0⟩ : ∃ z : Mem, z = (if u3 = (8 : Int32) then (U_X4_refuse a M) else M) := ⟨_, rfl⟩
          suffices j129_9703 : WP m_X4_readRule Q 129 [some (.ref a), some (.ref x1), some (.int w2), some (.int u3), none] [] sh M9703_0 0 0 by
            refine r_icmp_ne e_X4_readRule_122 (fun h122_9703 => ?_) (fun h122_9703 => ?_)
            · (rw [show M9703_0 = M from (e_M9703_0.trans (if_neg h122_9703))] at j129_9703; exact j129_9703)
            · refine r_aload_n e_X4_readRule_125 rfl ?_
              refine cV0u e_X4_readRule_126 cl_X4_80 ⟨Nat.le_of_ble_eq_true rfl, Nat.le_of_ble_eq_true rfl⟩ ⟨rfl, rfl⟩ k0 (Nat.le_of_ble_eq_true rfl) (S_X4_refuse hb1) ?_
              (rw [show M9703_0 = U_X4_refuse a M from (e_M9703_0.trans (if_pos h122_9703))] at j129_9703; exact j129_9703)
          refine r_aload_n e_X4_readRule_129 rfl ?_
          refine r_aload_n e_X4_readRule_130 rfl ?_
          refine cV1u e_X4_readRule_131 cl_X4_159 ⟨Nat.le_of_ble_eq_true rfl, Nat.le_of_ble_eq_true rfl⟩ ⟨rfl, rfl⟩ k0 (Nat.le_of_ble_eq_true rfl) (S_X4_readAct hb1 hb2 (by subst e_M9703_0; exact g1 ) (by subst e_M9703_0; exact g2 ) (by subst e_M9703_0; exact g3 ) (by subst e_M9703_0; exact g4 ) (by subst e_M9703_0; exact g5 )) ?_
          refine p_iinc_5_3 e_X4_readRule_134 rfl ic_1 rfl ?_
          refine r_goto e_X4_readRule_137 ?_
          (subst e_M9703_0; simp only [F_X4_readRule_97, if_neg h100_9700, if_neg h107_9701, if_neg h116_9702] at hq; (try simp only [if_neg h100_9700, if_neg h107_9701, if_neg h116_9702] at hH); first | exact ih _ _ hH hq | (simp only [if_neg h100_9700, if_neg h107_9701, if_neg h116_9702]; exact ih _ _ hH hq))
def U_X4_readRule (a : Nat) (x1 : Nat) (M : Mem) : Mem := (let Mc1 : Mem := U_X4_take a (27 : Int32) (27 : Int32) ((F_X4_readRule_11 a x1 800 0 (1 : Int32) (U_X4_take a (1 : Int32) (1 : Int32) M)).2); let Mc2 : Mem := U_X4_take a (28 : Int32) (28 : Int32) ((F_X4_readRule_97 a x1 ((F_X4_readRule_11 a x1 800 0 (1 : Int32) (U_X4_take a (1 : Int32) (1 : Int32) M)).1) FUEL (0 : Int32) Mc1).2); U_X3_closeRule x1 Mc2)
def P_X4_readRule (a : Nat) (x1 : Nat) (M : Mem) : Prop := (H_X4_readRule_11 a x1 800 0 (1 : Int32) (U_X4_take a (1 : Int32) (1 : Int32) M)) ∧ (T_X4_readRule_97 a x1 ((F_X4_readRule_11 a x1 800 0 (1 : Int32) (U_X4_take a (1 : Int32) (1 : Int32) M)).1) FUEL (0 : Int32) (U_X4_take a (27 : Int32) (27 : Int32) ((F_X4_readRule_11 a x1 800 0 (1 : Int32) (U_X4_take a (1 : Int32) (1 : Int32) M)).2)))
theorem S_X4_readRule {sh : List SC} {M : Mem} {a : Nat} {x1 : Nat}  (hb1 : ReaderAt sh a) (hb2 : ProgramAt sh x1) (g1 : ¬ (M.1 a 7) < 0) (g3 : ¬ (((F_X4_readRule_11 a x1 800 0 (1 : Int32) (U_X4_take a (1 : Int32) (1 : Int32) M)).2).1 a 7) < 0) (g5 : ¬ (((F_X4_readRule_97 a x1 ((F_X4_readRule_11 a x1 800 0 (1 : Int32) (U_X4_take a (1 : Int32) (1 : Int32) M)).1) FUEL (0 : Int32) (U_X4_take a (27 : Int32) (27 : Int32) ((F_X4_readRule_11 a x1 800 0 (1 : Int32) (U_X4_take a (1 : Int32) (1 : Int32) M)).2))).2).1 a 7) < 0) (hP : P_X4_readRule a x1 M) : Gu m_X4_readRule [.ref a, .ref x1] sh M (U_X4_readRule a x1 M) := by
  refine Sp.of (ls := [some (.ref a), some (.ref x1), none, none, none]) (by decide +kernel) (Nat.le_of_ble_eq_true rfl) rfl ?_
  obtain ⟨g2, g4⟩ := hP
  have k0 : kd sh a = some (4 + 7, 0) := hb1.1
  have k1 : kd sh x1 = some (3 + 7, 0) := hb2.1
  refine r_aload_n e_X4_readRule_0 rfl ?_
  refine r_iconst e_X4_readRule_1 ic_1 ?_
  refine r_iconst e_X4_readRule_2 ic_1 ?_
  refine cV2v e_X4_readRule_3 cl_X4_83 ⟨Nat.le_of_ble_eq_true rfl, Nat.le_of_ble_eq_true rfl⟩ ⟨rfl, rfl⟩ k0 (Nat.le_of_ble_eq_true rfl) (S_X4_take hb1 g1) ?_
  refine r_pop e_X4_readRule_6 rfl ?_
  refine r_iconst e_X4_readRule_7 ic_1 ?_
  refine p_istore_n_5_2 e_X4_readRule_8 rfl rfl ?_
  refine r_iconst e_X4_readRule_9 ic_0 ?_
  refine p_istore_n_5_3 e_X4_readRule_10 rfl rfl ?_
  skip
  show WP m_X4_readRule _ 11 [some (.ref a), some (.ref x1), some (.int (1 : Int32)), some (.int (nI 0)), none] [] sh (U_X4_take a (1 : Int32) (1 : Int32) M) 0 0
  refine L_X4_readRule_11 hb1 hb2 800 0 (1 : Int32) (U_X4_take a (1 : Int32) (1 : Int32) M) (by omega) g2 ?_
  refine r_aload_n e_X4_readRule_86 rfl ?_
  refine r_bipush e_X4_readRule_87 bp_27 ?_
  refine r_bipush e_X4_readRule_89 bp_27 ?_
  refine cV2v e_X4_readRule_91 cl_X4_83 ⟨Nat.le_of_ble_eq_true rfl, Nat.le_of_ble_eq_true rfl⟩ ⟨rfl, rfl⟩ k0 (Nat.le_of_ble_eq_true rfl) (S_X4_take hb1 g3) ?_
  obtain ⟨Mc1, e_Mc1⟩ : ∃ z : Mem, z = (U_X4_take a (27 : Int32) (27 : Int32) ((F_X4_readRule_11 a x1 800 0 (1 : Int32) (U_X4_take a (1 : Int32) (1 : Int32) M)).2)) := ⟨_, rfl⟩
  rw [← e_Mc1]
  refine r_pop e_X4_readRule_94 rfl ?_
  refine r_iconst e_X4_readRule_95 ic_0 ?_
  refine p_istore_n_5_3 e_X4_readRule_96 rfl rfl ?_
  refine L_X4_readRule_97 hb1 hb2 FUEL (0 : Int32) Mc1 (by subst e_Mc1; exact g4 ) ?_
  refine r_aload_n e_X4_readRule_140 rfl ?_
  refine r_bipush e_X4_readRule_141 bp_28 ?_
  refine r_bipush e_X4_readRule_143 bp_28 ?_
  refine cV2v e_X4_readRule_145 cl_X4_83 ⟨Nat.le_of_ble_eq_true rfl, Nat.le_of_ble_eq_true rfl⟩ ⟨rfl, rfl⟩ k0 (Nat.le_of_ble_eq_true rfl) (S_X4_take hb1 (by subst e_Mc1; exact g5 )) ?_
  obtain ⟨Mc2, e_Mc2⟩ : ∃ z : Mem, z = (U_X4_take a (28 : Int32) (28 : Int32) ((F_X4_readRule_97 a x1 ((F_X4_readRule_11 a x1 800 0 (1 : Int32) (U_X4_take a (1 : Int32) (1 : Int32) M)).1) FUEL (0 : Int32) Mc1).2)) := ⟨_, rfl⟩
  rw [← e_Mc2]
  refine r_pop e_X4_readRule_148 rfl ?_
  refine r_aload_n e_X4_readRule_149 rfl ?_
  refine cV0u e_X4_readRule_150 cl_X4_162 ⟨Nat.le_of_ble_eq_true rfl, Nat.le_of_ble_eq_true rfl⟩ ⟨rfl, rfl⟩ k1 (Nat.le_of_ble_eq_true rfl) (S_X3_closeRule hb2) ?_
  refine r_return e_X4_readRule_153 rfl ⟨rfl, rfl⟩ ?_
  (subst e_Mc2 e_Mc1; refine ⟨?_, rfl, ?_⟩ <;> ((try unfold U_X4_readRule); (try simp only []); (try rfl)))
def F_X2_open_29 (a : Nat) (x1 : Int32) (x2 : Int32) : Nat → Nat → Mem → Mem
  | 0, i29, M => M
  | n + 1, i29, M => (F_X2_open_29 a x1 x2 n (i29 + 1) (U_X5_decide (a + 10 + 2 * i29) (0 : Int32) (0 : Int32) (0 : Int32) (0 : Int32) M))
theorem L_X2_open_29 {sh : List SC} {Q : Po} {a : Nat} {x1 : Int32} {x2 : Int32}    (hb1 : MatchAt sh a)   : ∀ (n i29 : Nat) (M : Mem), i29 + n = 10 → WP m_X2_open Q 57 [some (.ref a), some (.int x1), some (.int x2), none] [] sh (F_X2_open_29 a x1 x2 n i29 M) 0 0 → WP m_X2_open Q 29 [some (.ref a), some (.int x1), some (.int x2), some (.int (nI i29))] [] sh M 0 0 := by
  have k0 : kd sh a = some (2 + 7, 0) := hb1.1
  have k1 : rf sh a 3 = some (a + 3) := hb1.2.2.2.2.1
  have k2 : kd sh (a + 3) = some (6, 10) := hb1.2.2.2.2.2.2.2.1
  intro n
  induction n with
  | zero =>
    intro i29 M hi hq
    have hz : (10 : Int32) ≤ nI i29 := by
      have q : i29 = 10 := by omega
      rw [q]; exact nI_le (Nat.le_refl _) (by decide)
    refine r_iload_n e_X2_open_29 rfl ?_
    refine r_aload_n e_X2_open_30 rfl ?_
    refine r_getR e_X2_open_31 fl_X2_20 k0 k1 ?_
    refine r_alen (v := (10 : Int32)) e_X2_open_34 k2 (by decide) rfl ?_
    refine r_icmp_ge e_X2_open_35 (fun _ => ?_) (fun hh => absurd hz hh)
    refine d_4_3 ?_
    (simp only [F_X2_open_29] at hq; first | exact hq | (simp only []; exact hq))
  | succ n ih =>
    intro i29 M hi hq
    have hlt_i29 : i29 < 10 := by omega
    have hcl_i29 : (nI i29).toNatClampNeg = i29 := nI_clamp (by omega)
    have hs : ¬ (10 : Int32) ≤ nI i29 := nI_ge (b := 10) hlt_i29 (by decide)
    refine r_iload_n e_X2_open_29 rfl ?_
    refine r_aload_n e_X2_open_30 rfl ?_
    refine r_getR e_X2_open_31 fl_X2_20 k0 k1 ?_
    refine r_alen (v := (10 : Int32)) e_X2_open_34 k2 (by decide) rfl ?_
    refine r_icmp_ge e_X2_open_35 (fun hh => absurd hh hs) (fun _ => ?_)
    refine r_aload_n e_X2_open_38 rfl ?_
    refine r_getR e_X2_open_39 fl_X2_20 k0 k1 ?_
    refine r_iload_n e_X2_open_42 rfl ?_
    refine r_aaload (b := (a + 10 + 2 * i29)) e_X2_open_43 k2 ⟨by decide, by decide⟩ (vp_in_nI (Nat.lt_of_lt_of_le hlt_i29 (by decide)) (by decide)) (by rw [hcl_i29]; exact (hb1.2.2.2.2.2.2.2.2.1 i29 (Nat.lt_of_lt_of_le hlt_i29 (by decide))).1) ?_
    refine r_iconst e_X2_open_44 ic_0 ?_
    refine r_iconst e_X2_open_45 ic_0 ?_
    refine r_iconst e_X2_open_46 ic_0 ?_
    refine r_iconst e_X2_open_47 ic_0 ?_
    refine cV4u e_X2_open_48 cl_X2_66 ⟨Nat.le_of_ble_eq_true rfl, Nat.le_of_ble_eq_true rfl⟩ ⟨rfl, rfl⟩ (show kd sh (a + 10 + 2 * i29) = some (5 + 7, 0) from (hb1.2.2.2.2.2.2.2.2.1 i29 (Nat.lt_of_lt_of_le hlt_i29 (by decide))).2.1) (Nat.le_of_ble_eq_true rfl) (S_X5_decide (hb1.2.2.2.2.2.2.2.2.1 i29 (Nat.lt_of_lt_of_le hlt_i29 (by decide))).2) ?_
    refine p_iinc_4_3 e_X2_open_51 rfl ic_1 rfl ?_
    rw [nI_1 i29]
    refine r_goto e_X2_open_54 ?_
    (simp only [F_X2_open_29] at hq; first | exact ih (i29 + 1) _ (by omega) hq | (simp only []; exact ih (i29 + 1) _ (by omega) hq))
def U_X2_open (a : Nat) (x1 : Int32) (x2 : Int32) (M : Mem) : Mem := (let Mc1 : Mem := U_X2_kickOff a (F_X2_open_29 a x1 x2 10 0 (U_X7_clear (a + 7) (setI (setI (setI (setI M a 6 (1 : Int32)) a 7 (0 : Int32)) a 8 x1) a 9 x2))); Mc1)
theorem S_X2_open {sh : List SC} {M : Mem} {a : Nat} {x1 : Int32} {x2 : Int32}  (hb1 : MatchAt sh a)  : Gu m_X2_open [.ref a, .int x1, .int x2] sh M (U_X2_open a x1 x2 M) := by
  refine Sp.of (ls := [some (.ref a), some (.int x1), some (.int x2), none]) (by decide +kernel) (Nat.le_of_ble_eq_true rfl) rfl ?_
  have k0 : kd sh a = some (2 + 7, 0) := hb1.1
  have k1 : rf sh a 5 = some (a + 7) := hb1.2.2.2.2.2.2.1
  have k2 : kd sh (a + 7) = some (7 + 7, 0) := hb1.2.2.2.2.2.2.2.2.2.2.1.1
  refine r_aload_n e_X2_open_0 rfl ?_
  refine r_iconst e_X2_open_1 ic_1 ?_
  refine r_putZ e_X2_open_2 fl_X2_38 (by first | exact Or.inl rfl | exact Or.inr rfl) k0 ?_
  refine r_aload_n e_X2_open_5 rfl ?_
  refine r_iconst e_X2_open_6 ic_0 ?_
  refine r_putI e_X2_open_7 fl_X2_42 k0 ?_
  refine r_aload_n e_X2_open_10 rfl ?_
  refine r_iload_n e_X2_open_11 rfl ?_
  refine r_putI e_X2_open_12 fl_X2_46 k0 ?_
  refine r_aload_n e_X2_open_15 rfl ?_
  refine r_iload_n e_X2_open_16 rfl ?_
  refine r_putI e_X2_open_17 fl_X2_49 k0 ?_
  refine r_aload_n e_X2_open_20 rfl ?_
  refine r_getR e_X2_open_21 fl_X2_34 k0 k1 ?_
  refine cV0u e_X2_open_24 cl_X2_63 ⟨Nat.le_of_ble_eq_true rfl, Nat.le_of_ble_eq_true rfl⟩ ⟨rfl, rfl⟩ k2 (Nat.le_of_ble_eq_true rfl) (S_X7_clear hb1.2.2.2.2.2.2.2.2.2.2.1) ?_
  refine r_iconst e_X2_open_27 ic_0 ?_
  refine p_istore_n_4_3 e_X2_open_28 rfl rfl ?_
  skip
  show WP m_X2_open _ 29 [some (.ref a), some (.int x1), some (.int x2), some (.int (nI 0))] [] sh (U_X7_clear (a + 7) (setI (setI (setI (setI M a 6 (1 : Int32)) a 7 (0 : Int32)) a 8 x1) a 9 x2)) 0 0
  refine L_X2_open_29 hb1 10 0  (U_X7_clear (a + 7) (setI (setI (setI (setI M a 6 (1 : Int32)) a 7 (0 : Int32)) a 8 x1) a 9 x2)) (by omega) ?_
  refine r_aload_n e_X2_open_57 rfl ?_
  refine cV0u e_X2_open_58 cl_X2_70 ⟨Nat.le_of_ble_eq_true rfl, Nat.le_of_ble_eq_true rfl⟩ ⟨rfl, rfl⟩ k0 (Nat.le_of_ble_eq_true rfl) (S_X2_kickOff hb1) ?_
  obtain ⟨Mc1, e_Mc1⟩ : ∃ z : Mem, z = (U_X2_kickOff a (F_X2_open_29 a x1 x2 10 0 (U_X7_clear (a + 7) (setI (setI (setI (setI M a 6 (1 : Int32)) a 7 (0 : Int32)) a 8 x1) a 9 x2)))) := ⟨_, rfl⟩
  rw [← e_Mc1]
  refine r_return e_X2_open_61 rfl ⟨rfl, rfl⟩ ?_
  (subst e_Mc1; refine ⟨?_, rfl, ?_⟩ <;> ((try unfold U_X2_open); (try simp only []); (try rfl)))
def F_X11_sum_10 : Nat → Int32 → Mem → Int32 × Mem
  | 0, u1, M => (u1, M)
  | n + 1, u1, M => if u1 = 0 then (u1, M) else (if (M.1 242 5) = (43 : Int32) then (F_X11_sum_10  n (V_X11_product  (U_X11_keepWord  M)) (U_X11_product  (U_X11_keepWord  M))) else (if (M.1 242 5) = (45 : Int32) then (F_X11_sum_10  n (V_X11_product  (U_X11_keepWord  M)) (U_X11_product  (U_X11_keepWord  M))) else (u1, M)))
def T_X11_sum_10 : Nat → Int32 → Mem → Prop
  | 0, u1, M => False
  | n + 1, u1, M => (vp_in (((800 : Int32) * (M.1 242 8)) + (M.1 242 11)) 4800) ∧ (P_X11_keepWord  M) ∧ (P_X11_product  (U_X11_keepWord  M)) ∧ (if u1 = 0 then True else (if (M.1 242 5) = (43 : Int32) then (T_X11_sum_10  n (V_X11_product  (U_X11_keepWord  M)) (U_X11_product  (U_X11_keepWord  M))) else (if (M.1 242 5) = (45 : Int32) then (T_X11_sum_10  n (V_X11_product  (U_X11_keepWord  M)) (U_X11_product  (U_X11_keepWord  M))) else True)))
theorem L_X11_sum_10 {sh : List SC} {Q : Po}  {mA : Nat} {oA : Nat}   (hb1 : ModelAt sh mA oA)   : ∀ (n : Nat) (u1 : Int32) (M : Mem), T_X11_sum_10  n u1 M → WP m_X11_sum Q 45 [some (.ref 242), some (.int ((F_X11_sum_10  n u1 M).1))] [] sh ((F_X11_sum_10  n u1 M).2) 0 0 → WP m_X11_sum Q 10 [some (.ref 242), some (.int u1)] [] sh M 0 0 := by
  have k0 : kd sh 242 = some (10 + 7, 0) := hb1.1
  intro n
  induction n with
  | zero =>
    intro u1 M hH hq
    exact hH.elim
  | succ n ih =>
    intro u1 M hH hq
    unfold T_X11_sum_10 at hH
    obtain ⟨g1, g2, g3, hH⟩ := hH
    refine r_iload_n e_X11_sum_10 rfl ?_
    refine r_if_eq e_X11_sum_11 (fun h11_1000 => ?_) (fun h11_1000 => ?_)
    · (simp only [F_X11_sum_10, if_pos h11_1000] at hq; first | exact hq | (simp only [if_pos h11_1000]; exact hq))
    · refine r_aload_n e_X11_sum_14 rfl ?_
      refine r_getI e_X11_sum_15 fl_X11_28 i0 k0 ?_
      refine r_bipush e_X11_sum_18 bp_43 ?_
      refine r_icmp_eq e_X11_sum_20 (fun h20_1001 => ?_) (fun h20_1001 => ?_)
      · refine r_aload_n e_X11_sum_32 rfl ?_
        refine cV0v e_X11_sum_33 cl_X11_117 ⟨Nat.le_of_ble_eq_true rfl, Nat.le_of_ble_eq_true rfl⟩ ⟨rfl, rfl⟩ k0 (Nat.le_of_ble_eq_true rfl) (S_X11_keepWord hb1 g1 g2) ?_
        refine r_pop e_X11_sum_36 rfl ?_
        refine r_aload_n e_X11_sum_37 rfl ?_
        refine cV0v e_X11_sum_38 cl_X11_147 ⟨Nat.le_of_ble_eq_true rfl, Nat.le_of_ble_eq_true rfl⟩ ⟨rfl, rfl⟩ k0 (Nat.le_of_ble_eq_true rfl) (S_X11_product hb1 g3) ?_
        refine p_istore_n_2_1 e_X11_sum_41 rfl rfl ?_
        refine r_goto e_X11_sum_42 ?_
        (simp only [F_X11_sum_10, if_neg h11_1000, if_pos h20_1001] at hq; (try simp only [if_neg h11_1000, if_pos h20_1001] at hH); first | exact ih _ _ hH hq | (simp only [if_neg h11_1000, if_pos h20_1001]; exact ih _ _ hH hq))
      · refine r_aload_n e_X11_sum_23 rfl ?_
        refine r_getI e_X11_sum_24 fl_X11_28 i0 k0 ?_
        refine r_bipush e_X11_sum_27 bp_45 ?_
        refine r_icmp_ne e_X11_sum_29 (fun h29_1002 => ?_) (fun h29_1002 => ?_)
        · (simp only [F_X11_sum_10, if_neg h11_1000, if_neg h20_1001, if_neg h29_1002] at hq; first | exact hq | (simp only [if_neg h11_1000, if_neg h20_1001, if_neg h29_1002]; exact hq))
        · refine r_aload_n e_X11_sum_32 rfl ?_
          refine cV0v e_X11_sum_33 cl_X11_117 ⟨Nat.le_of_ble_eq_true rfl, Nat.le_of_ble_eq_true rfl⟩ ⟨rfl, rfl⟩ k0 (Nat.le_of_ble_eq_true rfl) (S_X11_keepWord hb1 g1 g2) ?_
          refine r_pop e_X11_sum_36 rfl ?_
          refine r_aload_n e_X11_sum_37 rfl ?_
          refine cV0v e_X11_sum_38 cl_X11_147 ⟨Nat.le_of_ble_eq_true rfl, Nat.le_of_ble_eq_true rfl⟩ ⟨rfl, rfl⟩ k0 (Nat.le_of_ble_eq_true rfl) (S_X11_product hb1 g3) ?_
          refine p_istore_n_2_1 e_X11_sum_41 rfl rfl ?_
          refine r_goto e_X11_sum_42 ?_
          (simp only [F_X11_sum_10, if_neg h11_1000, if_neg h20_1001, if_pos h29_1002] at hq; (try simp only [if_neg h11_1000, if_neg h20_1001, if_pos h29_1002] at hH); first | exact ih _ _ hH hq | (simp only [if_neg h11_1000, if_neg h20_1001, if_pos h29_1002]; exact ih _ _ hH hq))
theorem ZF_X11_sum_10 : ∀ (n : Nat) (u1 : Int32) (M : Mem), (u1 = 0 ∨ u1 = 1) → (F_X11_sum_10  n u1 M).1 = 0 ∨ (F_X11_sum_10  n u1 M).1 = 1 := by
  intro n
  induction n with
  | zero => intro u1 M h; exact h
  | succ n ih => intro u1 M h; unfold F_X11_sum_10; (try dsimp only); (repeat' split) <;> first | exact h | exact Or.inl rfl | exact Or.inr rfl | exact ih _ _ Z_X11_product | exact ih _ _ (Or.inl rfl) | exact ih _ _ (Or.inr rfl)
def V_X11_sum (M : Mem) : Int32 := ((F_X11_sum_10  FUEL (V_X11_product  (setI M 242 20 (0 : Int32))) (U_X11_product  (setI M 242 20 (0 : Int32)))).1)
theorem Z_X11_sum {M : Mem}    : V_X11_sum  M = 0 ∨ V_X11_sum  M = 1 := (ZF_X11_sum_10 _ _ _ Z_X11_product)
def U_X11_sum (M : Mem) : Mem := ((F_X11_sum_10  FUEL (V_X11_product  (setI M 242 20 (0 : Int32))) (U_X11_product  (setI M 242 20 (0 : Int32)))).2)
def P_X11_sum (M : Mem) : Prop := (P_X11_product  (setI M 242 20 (0 : Int32))) ∧ (T_X11_sum_10  FUEL (V_X11_product  (setI M 242 20 (0 : Int32))) (U_X11_product  (setI M 242 20 (0 : Int32))))
theorem S_X11_sum {sh : List SC} {M : Mem}  {mA : Nat} {oA : Nat} (hb1 : ModelAt sh mA oA)  (hP : P_X11_sum  M) : Gv m_X11_sum [.ref 242] sh M (.int (V_X11_sum  M)) (U_X11_sum  M) := by
  refine Sp.of (ls := [some (.ref 242), none]) (by decide +kernel) (Nat.le_of_ble_eq_true rfl) rfl ?_
  obtain ⟨g1, g2⟩ := hP
  have k0 : kd sh 242 = some (10 + 7, 0) := hb1.1
  refine r_aload_n e_X11_sum_0 rfl ?_
  refine r_iconst e_X11_sum_1 ic_0 ?_
  refine r_putI e_X11_sum_2 fl_X11_141 k0 ?_
  refine r_aload_n e_X11_sum_5 rfl ?_
  refine cV0v e_X11_sum_6 cl_X11_147 ⟨Nat.le_of_ble_eq_true rfl, Nat.le_of_ble_eq_true rfl⟩ ⟨rfl, rfl⟩ k0 (Nat.le_of_ble_eq_true rfl) (S_X11_product hb1 g1) ?_
  refine p_istore_n_2_1 e_X11_sum_9 rfl rfl ?_
  refine L_X11_sum_10 hb1 FUEL (V_X11_product  (setI M 242 20 (0 : Int32))) (U_X11_product  (setI M 242 20 (0 : Int32))) g2 ?_
  refine r_iload_n e_X11_sum_45 rfl ?_
  refine r_zreturn e_X11_sum_46 rfl ⟨rfl, rfl⟩ (ZF_X11_sum_10 _ _ _ (Z_X11_product)) ?_
  (refine ⟨?_, rfl, ?_⟩ <;> ((try unfold V_X11_sum); (try unfold U_X11_sum); (try simp only []); (try rfl)))
def F_X11_beginMatch_2 (x1 : Int32) (x2 : Int32) (mA : Nat) : Nat → Nat → Mem → Mem
  | 0, i2, M => M
  | n + 1, i2, M => (F_X11_beginMatch_2 x1 x2 mA n (i2 + 1) (setI M mA i2 (0 : Int32)))
theorem L_X11_beginMatch_2 {sh : List SC} {Q : Po} {x1 : Int32} {x2 : Int32} {mA : Nat} {oA : Nat}   (hb1 : ModelAt sh mA oA)   : ∀ (n i2 : Nat) (M : Mem), i2 + n = 212 → WP m_X11_beginMatch Q 22 [some (.ref 242), some (.int x1), some (.int x2), none] [] sh (F_X11_beginMatch_2 x1 x2 mA n i2 M) 0 0 → WP m_X11_beginMatch Q 2 [some (.ref 242), some (.int x1), some (.int x2), some (.int (nI i2))] [] sh M 0 0 := by
  have k0 : kd sh 242 = some (10 + 7, 0) := hb1.1
  have k1 : rf sh 242 27 = some mA := hb1.2.2.2.2.2.2.2.2.2.2.2.2.2.2.2.2.2.1
  have k2 : kd sh mA = some (0, 212) := hb1.2.2.2.2.2.2.2.2.2.2.2.2.2.2.2.2.2.2.2.2.2.2.2.2.2.2.2.2.2.2.2.2.2.2.2.2.2.2.2.2.2.2.2.2.2.2.2.2.2.2.2.1
  intro n
  induction n with
  | zero =>
    intro i2 M hi hq
    have hz : (212 : Int32) ≤ nI i2 := by
      have q : i2 = 212 := by omega
      rw [q]; exact nI_le (Nat.le_refl _) (by decide)
    refine r_iload_n e_X11_beginMatch_2 rfl ?_
    refine r_sipush e_X11_beginMatch_3 sp_212 ?_
    refine r_icmp_ge e_X11_beginMatch_6 (fun _ => ?_) (fun hh => absurd hz hh)
    refine d_4_3 ?_
    (simp only [F_X11_beginMatch_2] at hq; first | exact hq | (simp only []; exact hq))
  | succ n ih =>
    intro i2 M hi hq
    have hlt_i2 : i2 < 212 := by omega
    have hcl_i2 : (nI i2).toNatClampNeg = i2 := nI_clamp (by omega)
    have hs : ¬ (212 : Int32) ≤ nI i2 := nI_ge (b := 212) hlt_i2 (by decide)
    refine r_iload_n e_X11_beginMatch_2 rfl ?_
    refine r_sipush e_X11_beginMatch_3 sp_212 ?_
    refine r_icmp_ge e_X11_beginMatch_6 (fun hh => absurd hh hs) (fun _ => ?_)
    refine r_aload_n e_X11_beginMatch_9 rfl ?_
    refine r_getR e_X11_beginMatch_10 fl_X11_212 k0 k1 ?_
    refine r_iload_n e_X11_beginMatch_13 rfl ?_
    refine r_iconst e_X11_beginMatch_14 ic_0 ?_
    refine r_iastore e_X11_beginMatch_15 k2 (vp_in_nI (Nat.lt_of_lt_of_le hlt_i2 (by decide)) (by decide)) ?_
    rw [hcl_i2]
    refine p_iinc_4_3 e_X11_beginMatch_16 rfl ic_1 rfl ?_
    rw [nI_1 i2]
    refine r_goto e_X11_beginMatch_19 ?_
    (simp only [F_X11_beginMatch_2] at hq; first | exact ih (i2 + 1) _ (by omega) hq | (simp only []; exact ih (i2 + 1) _ (by omega) hq))
def U_X11_beginMatch (x1 : Int32) (x2 : Int32) (mA : Nat) (M : Mem) : Mem := U_X11_kickOff (0 : Int32) mA (setI (setI (setI (F_X11_beginMatch_2 x1 x2 mA 212 0 M) mA 0 (1 : Int32)) mA 1 x1) mA 2 x2)
def P_X11_beginMatch (x1 : Int32) (x2 : Int32) (mA : Nat) (M : Mem) : Prop := (P_X11_kickOff (0 : Int32) mA (setI (setI (setI (F_X11_beginMatch_2 x1 x2 mA 212 0 M) mA 0 (1 : Int32)) mA 1 x1) mA 2 x2))
theorem S_X11_beginMatch {sh : List SC} {M : Mem} {x1 : Int32} {x2 : Int32} {mA : Nat} {oA : Nat} (hb1 : ModelAt sh mA oA)  (hP : P_X11_beginMatch x1 x2 mA M) : Gu m_X11_beginMatch [.ref 242, .int x1, .int x2] sh M (U_X11_beginMatch x1 x2 mA M) := by
  refine Sp.of (ls := [some (.ref 242), some (.int x1), some (.int x2), none]) (by decide +kernel) (Nat.le_of_ble_eq_true rfl) rfl ?_
  have g1 : P_X11_kickOff (0 : Int32) mA (setI (setI (setI (F_X11_beginMatch_2 x1 x2 mA 212 0 M) mA 0 (1 : Int32)) mA 1 x1) mA 2 x2) := hP
  have k0 : kd sh 242 = some (10 + 7, 0) := hb1.1
  have k1 : rf sh 242 27 = some mA := hb1.2.2.2.2.2.2.2.2.2.2.2.2.2.2.2.2.2.1
  have k2 : kd sh mA = some (0, 212) := hb1.2.2.2.2.2.2.2.2.2.2.2.2.2.2.2.2.2.2.2.2.2.2.2.2.2.2.2.2.2.2.2.2.2.2.2.2.2.2.2.2.2.2.2.2.2.2.2.2.2.2.2.1
  refine r_iconst e_X11_beginMatch_0 ic_0 ?_
  refine p_istore_n_4_3 e_X11_beginMatch_1 rfl rfl ?_
  skip
  show WP m_X11_beginMatch _ 2 [some (.ref 242), some (.int x1), some (.int x2), some (.int (nI 0))] [] sh M 0 0
  refine L_X11_beginMatch_2 hb1 212 0  M (by omega) ?_
  refine r_aload_n e_X11_beginMatch_22 rfl ?_
  refine r_getR e_X11_beginMatch_23 fl_X11_212 k0 k1 ?_
  refine r_iconst e_X11_beginMatch_26 ic_0 ?_
  refine r_iconst e_X11_beginMatch_27 ic_1 ?_
  refine r_iastore e_X11_beginMatch_28 k2 (by unfold vp_in; decide) ?_
  rw [show (0 : Int32).toNatClampNeg = 0 from rfl]
  refine r_aload_n e_X11_beginMatch_29 rfl ?_
  refine r_getR e_X11_beginMatch_30 fl_X11_212 k0 k1 ?_
  refine r_iconst e_X11_beginMatch_33 ic_1 ?_
  refine r_iload_n e_X11_beginMatch_34 rfl ?_
  refine r_iastore e_X11_beginMatch_35 k2 (by unfold vp_in; decide) ?_
  rw [show (1 : Int32).toNatClampNeg = 1 from rfl]
  refine r_aload_n e_X11_beginMatch_36 rfl ?_
  refine r_getR e_X11_beginMatch_37 fl_X11_212 k0 k1 ?_
  refine r_iconst e_X11_beginMatch_40 ic_2 ?_
  refine r_iload_n e_X11_beginMatch_41 rfl ?_
  refine r_iastore e_X11_beginMatch_42 k2 (by unfold vp_in; decide) ?_
  rw [show (2 : Int32).toNatClampNeg = 2 from rfl]
  refine r_aload_n e_X11_beginMatch_43 rfl ?_
  refine r_iconst e_X11_beginMatch_44 ic_0 ?_
  refine cV1u e_X11_beginMatch_45 cl_X11_295 ⟨Nat.le_of_ble_eq_true rfl, Nat.le_of_ble_eq_true rfl⟩ ⟨rfl, rfl⟩ k0 (Nat.le_of_ble_eq_true rfl) (S_X11_kickOff hb1 g1) ?_
  refine r_return e_X11_beginMatch_48 rfl ⟨rfl, rfl⟩ ?_
  (refine ⟨?_, rfl, ?_⟩ <;> ((try unfold U_X11_beginMatch); (try simp only []); (try rfl)))
