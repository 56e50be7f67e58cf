def U_X11_set (x1 : Int32) (x2 : Int32) (x3 : Int32) (mA : Nat) (M : Mem) : Mem := setI M mA (((44 : Int32) + ((16 : Int32) * x1)) + x2).toNatClampNeg x3
theorem S_X11_set {sh : List SC} {M : Mem} {x1 : Int32} {x2 : Int32} {x3 : Int32} {mA : Nat} {oA : Nat} (hb1 : ModelAt sh mA oA) (g1 : vp_in (((44 : Int32) + ((16 : Int32) * x1)) + x2) 212) : Gu m_X11_set [.ref 242, .int x1, .int x2, .int x3] sh M (U_X11_set x1 x2 x3 mA M) := by
  refine Sp.of (ls := [some (.ref 242), some (.int x1), some (.int x2), some (.int x3)]) (by decide +kernel) (Nat.le_of_ble_eq_true rfl) rfl ?_
  have k0 : kd sh 242 = some (10 + 7, 0) := hb1.1
  have k1 : rf sh 242 27 = some mA := hb1.2.2.2.2.2.2.2.2.2.2.2.2.2.2.2.2.2.1
  have k2 : kd sh mA = some (0, 212) := hb1.2.2.2.2.2.2.2.2.2.2.2.2.2.2.2.2.2.2.2.2.2.2.2.2.2.2.2.2.2.2.2.2.2.2.2.2.2.2.2.2.2.2.2.2.2.2.2.2.2.2.2.1
  refine r_aload_n e_X11_set_0 rfl ?_
  refine r_getR e_X11_set_1 fl_X11_212 k0 k1 ?_
  refine r_bipush e_X11_set_4 bp_44 ?_
  refine r_bipush e_X11_set_6 bp_16 ?_
  refine r_iload_n e_X11_set_8 rfl ?_
  refine r_imul e_X11_set_9 ?_
  refine r_iadd e_X11_set_10 ?_
  refine r_iload_n e_X11_set_11 rfl ?_
  refine r_iadd e_X11_set_12 ?_
  refine r_iload_n e_X11_set_13 rfl ?_
  refine r_iastore e_X11_set_14 k2 g1 ?_
  refine r_return e_X11_set_15 rfl ⟨rfl, rfl⟩ ?_
  (refine ⟨?_, rfl, ?_⟩ <;> ((try unfold U_X11_set); (try simp only []); (try rfl)))
def V_X11_of (x1 : Int32) (x2 : Int32) (mA : Nat) (M : Mem) : Int32 := (M.1 mA (((44 : Int32) + ((16 : Int32) * x1)) + x2).toNatClampNeg)
theorem S_X11_of {sh : List SC} {M : Mem} {x1 : Int32} {x2 : Int32} {mA : Nat} {oA : Nat} (hb1 : ModelAt sh mA oA) (g1 : vp_in (((44 : Int32) + ((16 : Int32) * x1)) + x2) 212) : Gv m_X11_of [.ref 242, .int x1, .int x2] sh M (.int (V_X11_of x1 x2 mA M)) M := by
  refine Sp.of (ls := [some (.ref 242), some (.int x1), some (.int x2)]) (by decide +kernel) (Nat.le_of_ble_eq_true rfl) rfl ?_
  have k0 : kd sh 242 = some (10 + 7, 0) := hb1.1
  have k1 : rf sh 242 27 = some mA := hb1.2.2.2.2.2.2.2.2.2.2.2.2.2.2.2.2.2.1
  have k2 : kd sh mA = some (0, 212) := hb1.2.2.2.2.2.2.2.2.2.2.2.2.2.2.2.2.2.2.2.2.2.2.2.2.2.2.2.2.2.2.2.2.2.2.2.2.2.2.2.2.2.2.2.2.2.2.2.2.2.2.2.1
  refine r_aload_n e_X11_of_0 rfl ?_
  refine r_getR e_X11_of_1 fl_X11_212 k0 k1 ?_
  refine r_bipush e_X11_of_4 bp_44 ?_
  refine r_bipush e_X11_of_6 bp_16 ?_
  refine r_iload_n e_X11_of_8 rfl ?_
  refine r_imul e_X11_of_9 ?_
  refine r_iadd e_X11_of_10 ?_
  refine r_iload_n e_X11_of_11 rfl ?_
  refine r_iadd e_X11_of_12 ?_
  refine r_iaload e_X11_of_13 k2 g1 ?_
  refine r_ireturn e_X11_of_14 rfl ⟨rfl, rfl⟩ ?_
  (refine ⟨?_, rfl, ?_⟩ <;> ((try unfold V_X11_of); (try simp only []); (try rfl)))
def FV_X11_robotAt_3 (x1 : Int32) (x2 : Int32) (x3 : Int32) (mA : Nat) : Nat → Int32 → Mem → Int32
  | 0, u4, M => 0
  | n + 1, u4, M => if (M.1 242 30) ≤ u4 then (-1 : Int32) else (if u4 = x3 then (FV_X11_robotAt_3 x1 x2 x3 mA n (u4 + 1) M) else (if (V_X11_of u4 (0 : Int32) mA M) = x1 then (if (V_X11_of u4 (1 : Int32) mA M) = x2 then u4 else (FV_X11_robotAt_3 x1 x2 x3 mA n (u4 + 1) M)) else (FV_X11_robotAt_3 x1 x2 x3 mA n (u4 + 1) M)))
def T_X11_robotAt_3 (x1 : Int32) (x2 : Int32) (x3 : Int32) (mA : Nat) : Nat → Int32 → Mem → Prop
  | 0, u4, M => False
  | n + 1, u4, M => (vp_in (((44 : Int32) + ((16 : Int32) * u4)) + (0 : Int32)) 212) ∧ (vp_in (((44 : Int32) + ((16 : Int32) * u4)) + (1 : Int32)) 212) ∧ ((if (M.1 242 30) ≤ u4 then True else (if u4 = x3 then (T_X11_robotAt_3 x1 x2 x3 mA n (u4 + 1) M) else (if (V_X11_of u4 (0 : Int32) mA M) = x1 then (if (V_X11_of u4 (1 : Int32) mA M) = x2 then True else (T_X11_robotAt_3 x1 x2 x3 mA n (u4 + 1) M)) else (T_X11_robotAt_3 x1 x2 x3 mA n (u4 + 1) M)))))
theorem L_X11_robotAt_3 {sh : List SC} {Q : Po} {x1 : Int32} {x2 : Int32} {x3 : Int32} {mA : Nat} {oA : Nat}   (hb1 : ModelAt sh mA oA)   : ∀ (n : Nat) (u4 : Int32) (M : Mem), T_X11_robotAt_3 x1 x2 x3 mA n u4 M → Q (some (.int (FV_X11_robotAt_3 x1 x2 x3 mA n u4 M))) sh M → WP m_X11_robotAt Q 3 [some (.ref 242), some (.int x1), some (.int x2), some (.int x3), some (.int u4)] [] sh M 0 0 := by
  have k0 : kd sh 242 = some (10 + 7, 0) := hb1.1
  intro n
  induction n with
  | zero =>
    intro u4 M hH hq
    exact hH.elim
  | succ n ih =>
    intro u4 M hH hq
    unfold T_X11_robotAt_3 at hH
    obtain ⟨g1, g2, hH⟩ := hH
    refine r_iload e_X11_robotAt_3 rfl ?_
    refine r_aload_n e_X11_robotAt_5 rfl ?_
    refine r_getI e_X11_robotAt_6 fl_X11_221 i0 k0 ?_
    refine r_icmp_ge e_X11_robotAt_9 (fun h9_300 => ?_) (fun h9_300 => ?_)
    · refine r_iconst e_X11_robotAt_49 ic_m1 ?_
      refine r_ireturn e_X11_robotAt_50 rfl ⟨rfl, rfl⟩ ?_
      (simp only [FV_X11_robotAt_3, if_pos h9_300] at hq; first | exact hq | (simp only [if_pos h9_300]; exact hq))
    · refine r_iload e_X11_robotAt_12 rfl ?_
      refine r_iload_n e_X11_robotAt_14 rfl ?_
      refine r_icmp_eq e_X11_robotAt_15 (fun h15_301 => ?_) (fun h15_301 => ?_)
      · refine p_iinc_5_4 e_X11_robotAt_43 rfl ic_1 rfl ?_
        refine r_goto e_X11_robotAt_46 ?_
        (simp only [FV_X11_robotAt_3, if_neg h9_300, if_pos h15_301] at hq; (try simp only [if_neg h9_300, if_pos h15_301] at hH); first | exact ih _ _ hH hq | (simp only [if_neg h9_300, if_pos h15_301]; exact ih _ _ hH hq))
      · refine r_aload_n e_X11_robotAt_18 rfl ?_
        refine r_iload e_X11_robotAt_19 rfl ?_
        refine r_iconst e_X11_robotAt_21 ic_0 ?_
        refine cV2v e_X11_robotAt_22 cl_X11_252 ⟨Nat.le_of_ble_eq_true rfl, Nat.le_of_ble_eq_true rfl⟩ ⟨rfl, rfl⟩ k0 (Nat.le_of_ble_eq_true rfl) (S_X11_of hb1 g1) ?_
        refine r_iload_n e_X11_robotAt_25 rfl ?_
        refine r_icmp_ne e_X11_robotAt_26 (fun h26_302 => ?_) (fun h26_302 => ?_)
        · refine p_iinc_5_4 e_X11_robotAt_43 rfl ic_1 rfl ?_
          refine r_goto e_X11_robotAt_46 ?_
          (simp only [FV_X11_robotAt_3, if_neg h9_300, if_neg h15_301, if_neg h26_302] at hq; (try simp only [if_neg h9_300, if_neg h15_301, if_neg h26_302] at hH); first | exact ih _ _ hH hq | (simp only [if_neg h9_300, if_neg h15_301, if_neg h26_302]; exact ih _ _ hH hq))
        · refine r_aload_n e_X11_robotAt_29 rfl ?_
          refine r_iload e_X11_robotAt_30 rfl ?_
          refine r_iconst e_X11_robotAt_32 ic_1 ?_
          refine cV2v e_X11_robotAt_33 cl_X11_252 ⟨Nat.le_of_ble_eq_true rfl, Nat.le_of_ble_eq_true rfl⟩ ⟨rfl, rfl⟩ k0 (Nat.le_of_ble_eq_true rfl) (S_X11_of hb1 g2) ?_
          refine r_iload_n e_X11_robotAt_36 rfl ?_
          refine r_icmp_ne e_X11_robotAt_37 (fun h37_303 => ?_) (fun h37_303 => ?_)
          · refine p_iinc_5_4 e_X11_robotAt_43 rfl ic_1 rfl ?_
            refine r_goto e_X11_robotAt_46 ?_
            (simp only [FV_X11_robotAt_3, if_neg h9_300, if_neg h15_301, if_pos h26_302, if_neg h37_303] at hq; (try simp only [if_neg h9_300, if_neg h15_301, if_pos h26_302, if_neg h37_303] at hH); first | exact ih _ _ hH hq | (simp only [if_neg h9_300, if_neg h15_301, if_pos h26_302, if_neg h37_303]; exact ih _ _ hH hq))
          · refine r_iload e_X11_robotAt_40 rfl ?_
            refine r_ireturn e_X11_robotAt_42 rfl ⟨rfl, rfl⟩ ?_
            (simp only [FV_X11_robotAt_3, if_neg h9_300, if_neg h15_301, if_pos h26_302, if_pos h37_303] at hq; first | exact hq | (simp only [if_neg h9_300, if_neg h15_301, if_pos h26_302, if_pos h37_303]; exact hq))
def V_X11_robotAt (x1 : Int32) (x2 : Int32) (x3 : Int32) (mA : Nat) (M : Mem) : Int32 := (FV_X11_robotAt_3 x1 x2 x3 mA FUEL (0 : Int32) M)
def P_X11_robotAt (x1 : Int32) (x2 : Int32) (x3 : Int32) (mA : Nat) (M : Mem) : Prop := (T_X11_robotAt_3 x1 x2 x3 mA FUEL (0 : Int32) M)
theorem S_X11_robotAt {sh : List SC} {M : Mem} {x1 : Int32} {x2 : Int32} {x3 : Int32} {mA : Nat} {oA : Nat} (hb1 : ModelAt sh mA oA)  (hP : P_X11_robotAt x1 x2 x3 mA M) : Gv m_X11_robotAt [.ref 242, .int x1, .int x2, .int x3] sh M (.int (V_X11_robotAt x1 x2 x3 mA M)) M := by
  refine Sp.of (ls := [some (.ref 242), some (.int x1), some (.int x2), some (.int x3), none]) (by decide +kernel) (Nat.le_of_ble_eq_true rfl) rfl ?_
  have g1 : T_X11_robotAt_3 x1 x2 x3 mA FUEL (0 : Int32) M := hP
  refine r_iconst e_X11_robotAt_0 ic_0 ?_
  refine p_istore_5_4 e_X11_robotAt_1 rfl rfl ?_
  refine L_X11_robotAt_3 hb1 FUEL (0 : Int32) M g1 ?_
  (refine ⟨?_, rfl, ?_⟩ <;> ((try unfold V_X11_robotAt); (try simp only []); (try rfl)))
def V_X11_distance (x1 : Int32) (x2 : Int32) (x3 : Int32) (x4 : Int32) (M : Mem) : Int32 := (if (if 0 ≤ (x1 - x3) then (x1 - x3) else 0 - (x1 - x3)) < (if 0 ≤ (x2 - x4) then (x2 - x4) else 0 - (x2 - x4)) then (if 0 ≤ (x2 - x4) then (x2 - x4) else 0 - (x2 - x4)) else (if 0 ≤ (x1 - x3) then (x1 - x3) else 0 - (x1 - x3)))
theorem S_X11_distance {sh : List SC} {M : Mem} {x1 : Int32} {x2 : Int32} {x3 : Int32} {x4 : Int32}    : Gv m_X11_distance [.int x1, .int x2, .int x3, .int x4] sh M (.int (V_X11_distance x1 x2 x3 x4 M)) M := by
  refine Sp.of (ls := [some (.int x1), some (.int x2), some (.int x3), some (.int x4)]) (by decide +kernel) (Nat.le_of_ble_eq_true rfl) rfl ?_
  refine r_iload_n e_X11_distance_0 rfl ?_
  refine r_iload_n e_X11_distance_1 rfl ?_
  refine r_isub e_X11_distance_2 ?_
  refine r_mabs e_X11_distance_3 cl_X11_256 ⟨Nat.le_of_ble_eq_true rfl, Nat.le_of_ble_eq_true rfl, Nat.zero_le _, Nat.zero_le _⟩ (Nat.le_of_ble_eq_true rfl) ?_
  refine r_iload_n e_X11_distance_6 rfl ?_
  refine r_iload_n e_X11_distance_7 rfl ?_
  refine r_isub e_X11_distance_8 ?_
  refine r_mabs e_X11_distance_9 cl_X11_256 ⟨Nat.le_of_ble_eq_true rfl, Nat.le_of_ble_eq_true rfl, Nat.zero_le _, Nat.zero_le _⟩ (Nat.le_of_ble_eq_true rfl) ?_
  refine r_mmax e_X11_distance_12 cl_X11_261 ⟨Nat.le_of_ble_eq_true rfl, Nat.le_of_ble_eq_true rfl, Nat.zero_le _, Nat.zero_le _⟩ (Nat.le_of_ble_eq_true rfl) ?_
  refine r_ireturn e_X11_distance_15 rfl ⟨rfl, rfl⟩ ?_
  (refine ⟨?_, rfl, ?_⟩ <;> ((try unfold V_X11_distance); (try simp only []); (try rfl)))
def U_X11_stopBall (mA : Nat) (M : Mem) : Mem := setI (setI (setI M mA 17 (0 : Int32)) mA 18 (0 : Int32)) mA 19 (0 : Int32)
theorem S_X11_stopBall {sh : List SC} {M : Mem}  {mA : Nat} {oA : Nat} (hb1 : ModelAt sh mA oA)  : Gu m_X11_stopBall [.ref 242] sh M (U_X11_stopBall mA M) := by
  refine Sp.of (ls := [some (.ref 242)]) (by decide +kernel) (Nat.le_of_ble_eq_true rfl) rfl ?_
  have k0 : kd sh 242 = some (10 + 7, 0) := hb1.1
  have k1 : rf sh 242 27 = some mA := hb1.2.2.2.2.2.2.2.2.2.2.2.2.2.2.2.2.2.1
  have k2 : kd sh mA = some (0, 212) := hb1.2.2.2.2.2.2.2.2.2.2.2.2.2.2.2.2.2.2.2.2.2.2.2.2.2.2.2.2.2.2.2.2.2.2.2.2.2.2.2.2.2.2.2.2.2.2.2.2.2.2.2.1
  refine r_aload_n e_X11_stopBall_0 rfl ?_
  refine r_getR e_X11_stopBall_1 fl_X11_212 k0 k1 ?_
  refine r_bipush e_X11_stopBall_4 bp_17 ?_
  refine r_iconst e_X11_stopBall_6 ic_0 ?_
  refine r_iastore e_X11_stopBall_7 k2 (by unfold vp_in; decide) ?_
  rw [show (17 : Int32).toNatClampNeg = 17 from rfl]
  refine r_aload_n e_X11_stopBall_8 rfl ?_
  refine r_getR e_X11_stopBall_9 fl_X11_212 k0 k1 ?_
  refine r_bipush e_X11_stopBall_12 bp_18 ?_
  refine r_iconst e_X11_stopBall_14 ic_0 ?_
  refine r_iastore e_X11_stopBall_15 k2 (by unfold vp_in; decide) ?_
  rw [show (18 : Int32).toNatClampNeg = 18 from rfl]
  refine r_aload_n e_X11_stopBall_16 rfl ?_
  refine r_getR e_X11_stopBall_17 fl_X11_212 k0 k1 ?_
  refine r_bipush e_X11_stopBall_20 bp_19 ?_
  refine r_iconst e_X11_stopBall_22 ic_0 ?_
  refine r_iastore e_X11_stopBall_23 k2 (by unfold vp_in; decide) ?_
  rw [show (19 : Int32).toNatClampNeg = 19 from rfl]
  refine r_return e_X11_stopBall_24 rfl ⟨rfl, rfl⟩ ?_
  (refine ⟨?_, rfl, ?_⟩ <;> ((try unfold U_X11_stopBall); (try simp only []); (try rfl)))
def V_X11_isMatch (mA : Nat) (M : Mem) : Int32 := (let v0_0 : Int32 := if (M.1 mA 0) = (1 : Int32) then (1 : Int32) else (0 : Int32); v0_0)
theorem Z_X11_isMatch {M : Mem}  {mA : Nat}  : V_X11_isMatch mA M = 0 ∨ V_X11_isMatch mA M = 1 := (zi (Or.inr rfl) (Or.inl rfl))
theorem S_X11_isMatch {sh : List SC} {M : Mem}  {mA : Nat} {oA : Nat} (hb1 : ModelAt sh mA oA)  : Gv m_X11_isMatch [.ref 242] sh M (.int (V_X11_isMatch mA M)) M := by
  refine Sp.of (ls := [some (.ref 242)]) (by decide +kernel) (Nat.le_of_ble_eq_true rfl) rfl ?_
  have k0 : kd sh 242 = some (10 + 7, 0) := hb1.1
  have k1 : rf sh 242 27 = some mA := hb1.2.2.2.2.2.2.2.2.2.2.2.2.2.2.2.2.2.1
  have k2 : kd sh mA = some (0, 212) := hb1.2.2.2.2.2.2.2.2.2.2.2.2.2.2.2.2.2.2.2.2.2.2.2.2.2.2.2.2.2.2.2.2.2.2.2.2.2.2.2.2.2.2.2.2.2.2.2.2.2.2.2.1
  refine r_aload_n e_X11_isMatch_0 rfl ?_
  refine r_getR e_X11_isMatch_1 fl_X11_212 k0 k1 ?_
  refine r_iconst e_X11_isMatch_4 ic_0 ?_
  refine r_ialoade (v := (M.1 mA 0)) e_X11_isMatch_5 k2 (by unfold vp_in; decide) (show M.1 mA (0 : Int32).toNatClampNeg = M.1 mA 0 by rw [show (0 : Int32).toNatClampNeg = 0 from rfl]) ?_
  refine r_iconst e_X11_isMatch_6 ic_1 ?_
  obtain ⟨v0_0, e_v0_0⟩ : ∃ z : Int32, z = (if (M.1 mA 0) = (1 : Int32) then (1 : Int32) else (0 : Int32)) := ⟨_, rfl⟩
  have z_v0_0 : v0_0 = 0 ∨ v0_0 = 1 := by rw [e_v0_0]; exact (zi (Or.inr rfl) (Or.inl rfl))
  suffices j15_0 : WP m_X11_isMatch (fun r sh' M'' => r = some (.int (V_X11_isMatch mA M)) ∧ sh' = sh ∧ M'' = M) 15 [some (.ref 242)] [.int v0_0] sh M 0 0 by
    refine r_icmp_ne e_X11_isMatch_7 (fun h7_0 => ?_) (fun h7_0 => ?_)
    · refine r_iconst e_X11_isMatch_14 ic_0 ?_
      (rw [show v0_0 = (0 : Int32) from (e_v0_0.trans (if_neg h7_0))] at j15_0; exact j15_0)
    · refine r_iconst e_X11_isMatch_10 ic_1 ?_
      refine r_goto e_X11_isMatch_11 ?_
      (rw [show v0_0 = (1 : Int32) from (e_v0_0.trans (if_pos h7_0))] at j15_0; exact j15_0)
  refine r_zreturn e_X11_isMatch_15 rfl ⟨rfl, rfl⟩ z_v0_0 ?_
  (subst e_v0_0; refine ⟨?_, rfl, ?_⟩ <;> ((try unfold V_X11_isMatch); (try simp only []); (try rfl)))
def U_X11_see (x1 : Int32) (mA : Nat) (M : Mem) : Mem := if (V_X11_of x1 (15 : Int32) mA M) ≤ 0 then (let Mc1 : Mem := U_X11_set x1 (8 : Int32) (M.1 mA ((204 : Int32) + ((if ((M.1 mA 3) - (V_X11_of x1 (14 : Int32) mA M)) < (M.1 mA 13) then (M.1 mA 13) else ((M.1 mA 3) - (V_X11_of x1 (14 : Int32) mA M))) - (if ((M.1 mA 3) - (V_X11_of x1 (14 : Int32) mA M)) < (M.1 mA 13) then (M.1 mA 13) else ((M.1 mA 3) - (V_X11_of x1 (14 : Int32) mA M))) / (4 : Int32) * (4 : Int32))).toNatClampNeg) mA M; let Mc2 : Mem := U_X11_set x1 (9 : Int32) (Mc1.1 mA ((208 : Int32) + ((if ((M.1 mA 3) - (V_X11_of x1 (14 : Int32) mA M)) < (M.1 mA 13) then (M.1 mA 13) else ((M.1 mA 3) - (V_X11_of x1 (14 : Int32) mA M))) - (if ((M.1 mA 3) - (V_X11_of x1 (14 : Int32) mA M)) < (M.1 mA 13) then (M.1 mA 13) else ((M.1 mA 3) - (V_X11_of x1 (14 : Int32) mA M))) / (4 : Int32) * (4 : Int32))).toNatClampNeg) mA Mc1; Mc2) else (if (((M.1 mA 3) + (x1 - x1 / (5 : Int32) * (5 : Int32))) - ((M.1 mA 3) + (x1 - x1 / (5 : Int32) * (5 : Int32))) / (V_X11_of x1 (15 : Int32) mA M) * (V_X11_of x1 (15 : Int32) mA M)) = 0 then M else (let Mc3 : Mem := U_X11_set x1 (8 : Int32) (M.1 mA ((204 : Int32) + ((if ((M.1 mA 3) - (V_X11_of x1 (14 : Int32) mA M)) < (M.1 mA 13) then (M.1 mA 13) else ((M.1 mA 3) - (V_X11_of x1 (14 : Int32) mA M))) - (if ((M.1 mA 3) - (V_X11_of x1 (14 : Int32) mA M)) < (M.1 mA 13) then (M.1 mA 13) else ((M.1 mA 3) - (V_X11_of x1 (14 : Int32) mA M))) / (4 : Int32) * (4 : Int32))).toNatClampNeg) mA M; let Mc4 : Mem := U_X11_set x1 (9 : Int32) (Mc3.1 mA ((208 : Int32) + ((if ((M.1 mA 3) - (V_X11_of x1 (14 : Int32) mA M)) < (M.1 mA 13) then (M.1 mA 13) else ((M.1 mA 3) - (V_X11_of x1 (14 : Int32) mA M))) - (if ((M.1 mA 3) - (V_X11_of x1 (14 : Int32) mA M)) < (M.1 mA 13) then (M.1 mA 13) else ((M.1 mA 3) - (V_X11_of x1 (14 : Int32) mA M))) / (4 : Int32) * (4 : Int32))).toNatClampNeg) mA Mc3; Mc4))
def P_X11_see (x1 : Int32) (mA : Nat) (M : Mem) : Prop := ((V_X11_of x1 (15 : Int32) mA M) ≤ 0 → vp_in (((44 : Int32) + ((16 : Int32) * x1)) + (14 : Int32)) 212) ∧ ((V_X11_of x1 (15 : Int32) mA M) ≤ 0 → vp_in ((204 : Int32) + ((if ((M.1 mA 3) - (V_X11_of x1 (14 : Int32) mA M)) < (M.1 mA 13) then (M.1 mA 13) else ((M.1 mA 3) - (V_X11_of x1 (14 : Int32) mA M))) - (if ((M.1 mA 3) - (V_X11_of x1 (14 : Int32) mA M)) < (M.1 mA 13) then (M.1 mA 13) else ((M.1 mA 3) - (V_X11_of x1 (14 : Int32) mA M))) / (4 : Int32) * (4 : Int32))) 212) ∧ ((V_X11_of x1 (15 : Int32) mA M) ≤ 0 → vp_in (((44 : Int32) + ((16 : Int32) * x1)) + (8 : Int32)) 212) ∧ ((V_X11_of x1 (15 : Int32) mA M) ≤ 0 → vp_in ((208 : Int32) + ((if ((M.1 mA 3) - (V_X11_of x1 (14 : Int32) mA M)) < (M.1 mA 13) then (M.1 mA 13) else ((M.1 mA 3) - (V_X11_of x1 (14 : Int32) mA M))) - (if ((M.1 mA 3) - (V_X11_of x1 (14 : Int32) mA M)) < (M.1 mA 13) then (M.1 mA 13) else ((M.1 mA 3) - (V_X11_of x1 (14 : Int32) mA M))) / (4 : Int32) * (4 : Int32))) 212) ∧ ((V_X11_of x1 (15 : Int32) mA M) ≤ 0 → vp_in (((44 : Int32) + ((16 : Int32) * x1)) + (9 : Int32)) 212) ∧ (¬ ((V_X11_of x1 (15 : Int32) mA M) ≤ 0) → ¬ ((((M.1 mA 3) + (x1 - x1 / (5 : Int32) * (5 : Int32))) - ((M.1 mA 3) + (x1 - x1 / (5 : Int32) * (5 : Int32))) / (V_X11_of x1 (15 : Int32) mA M) * (V_X11_of x1 (15 : Int32) mA M)) = 0) → vp_in (((44 : Int32) + ((16 : Int32) * x1)) + (14 : Int32)) 212) ∧ (¬ ((V_X11_of x1 (15 : Int32) mA M) ≤ 0) → ¬ ((((M.1 mA 3) + (x1 - x1 / (5 : Int32) * (5 : Int32))) - ((M.1 mA 3) + (x1 - x1 / (5 : Int32) * (5 : Int32))) / (V_X11_of x1 (15 : Int32) mA M) * (V_X11_of x1 (15 : Int32) mA M)) = 0) → vp_in ((204 : Int32) + ((if ((M.1 mA 3) - (V_X11_of x1 (14 : Int32) mA M)) < (M.1 mA 13) then (M.1 mA 13) else ((M.1 mA 3) - (V_X11_of x1 (14 : Int32) mA M))) - (if ((M.1 mA 3) - (V_X11_of x1 (14 : Int32) mA M)) < (M.1 mA 13) then (M.1 mA 13) else ((M.1 mA 3) - (V_X11_of x1 (14 : Int32) mA M))) / (4 : Int32) * (4 : Int32))) 212) ∧ (¬ ((V_X11_of x1 (15 : Int32) mA M) ≤ 0) → ¬ ((((M.1 mA 3) + (x1 - x1 / (5 : Int32) * (5 : Int32))) - ((M.1 mA 3) + (x1 - x1 / (5 : Int32) * (5 : Int32))) / (V_X11_of x1 (15 : Int32) mA M) * (V_X11_of x1 (15 : Int32) mA M)) = 0) → vp_in (((44 : Int32) + ((16 : Int32) * x1)) + (8 : Int32)) 212) ∧ (¬ ((V_X11_of x1 (15 : Int32) mA M) ≤ 0) → ¬ ((((M.1 mA 3) + (x1 - x1 / (5 : Int32) * (5 : Int32))) - ((M.1 mA 3) + (x1 - x1 / (5 : Int32) * (5 : Int32))) / (V_X11_of x1 (15 : Int32) mA M) * (V_X11_of x1 (15 : Int32) mA M)) = 0) → vp_in ((208 : Int32) + ((if ((M.1 mA 3) - (V_X11_of x1 (14 : Int32) mA M)) < (M.1 mA 13) then (M.1 mA 13) else ((M.1 mA 3) - (V_X11_of x1 (14 : Int32) mA M))) - (if ((M.1 mA 3) - (V_X11_of x1 (14 : Int32) mA M)) < (M.1 mA 13) then (M.1 mA 13) else ((M.1 mA 3) - (V_X11_of x1 (14 : Int32) mA M))) / (4 : Int32) * (4 : Int32))) 212) ∧ (¬ ((V_X11_of x1 (15 : Int32) mA M) ≤ 0) → ¬ ((((M.1 mA 3) + (x1 - x1 / (5 : Int32) * (5 : Int32))) - ((M.1 mA 3) + (x1 - x1 / (5 : Int32) * (5 : Int32))) / (V_X11_of x1 (15 : Int32) mA M) * (V_X11_of x1 (15 : Int32) mA M)) = 0) → vp_in (((44 : Int32) + ((16 : Int32) * x1)) + (9 : Int32)) 212)
theorem S_X11_see {sh : List SC} {M : Mem} {x1 : Int32} {mA : Nat} {oA : Nat} (hb1 : ModelAt sh mA oA) (g1 : vp_in (((44 : Int32) + ((16 : Int32) * x1)) + (15 : Int32)) 212) (hP : P_X11_see x1 mA M) : Gu m_X11_see [.ref 242, .int x1] sh M (U_X11_see x1 mA M) := by
  refine Sp.of (ls := [some (.ref 242), some (.int x1), none, none, none]) (by decide +kernel) (Nat.le_of_ble_eq_true rfl) rfl ?_
  obtain ⟨g2, g3, g4, g5, g6, g7, g8, g9, g10, g11⟩ := hP
  have k0 : kd sh 242 = some (10 + 7, 0) := hb1.1
  have k1 : rf sh 242 27 = some mA := hb1.2.2.2.2.2.2.2.2.2.2.2.2.2.2.2.2.2.1
  have k2 : kd sh mA = some (0, 212) := hb1.2.2.2.2.2.2.2.2.2.2.2.2.2.2.2.2.2.2.2.2.2.2.2.2.2.2.2.2.2.2.2.2.2.2.2.2.2.2.2.2.2.2.2.2.2.2.2.2.2.2.2.1
  refine r_aload_n e_X11_see_0 rfl ?_
  refine r_iload_n e_X11_see_1 rfl ?_
  refine r_bipush e_X11_see_2 bp_15 ?_
  refine cV2v e_X11_see_4 cl_X11_252 ⟨Nat.le_of_ble_eq_true rfl, Nat.le_of_ble_eq_true rfl⟩ ⟨rfl, rfl⟩ k0 (Nat.le_of_ble_eq_true rfl) (S_X11_of hb1 g1) ?_
  refine p_istore_n_5_2 e_X11_see_7 rfl rfl ?_
  refine r_aload_n e_X11_see_8 rfl ?_
  refine r_getR e_X11_see_9 fl_X11_212 k0 k1 ?_
  refine r_iconst e_X11_see_12 ic_3 ?_
  refine r_ialoade (v := (M.1 mA 3)) e_X11_see_13 k2 (by unfold vp_in; decide) (show M.1 mA (3 : Int32).toNatClampNeg = M.1 mA 3 by rw [show (3 : Int32).toNatClampNeg = 3 from rfl]) ?_
  refine p_istore_n_5_3 e_X11_see_14 rfl rfl ?_
  refine r_iload_n e_X11_see_15 rfl ?_
  refine r_if_le e_X11_see_16 (fun h16_0 => ?_) (fun h16_0 => ?_)
  · refine r_iload_n e_X11_see_30 rfl ?_
    refine r_aload_n e_X11_see_31 rfl ?_
    refine r_iload_n e_X11_see_32 rfl ?_
    refine r_bipush e_X11_see_33 bp_14 ?_
    refine cV2v e_X11_see_35 cl_X11_252 ⟨Nat.le_of_ble_eq_true rfl, Nat.le_of_ble_eq_true rfl⟩ ⟨rfl, rfl⟩ k0 (Nat.le_of_ble_eq_true rfl) (S_X11_of hb1 (g2 h16_0)) ?_
    refine r_isub e_X11_see_38 ?_
    refine r_aload_n e_X11_see_39 rfl ?_
    refine r_getR e_X11_see_40 fl_X11_212 k0 k1 ?_
    refine r_bipush e_X11_see_43 bp_13 ?_
    refine r_ialoade (v := (M.1 mA 13)) e_X11_see_45 k2 (by unfold vp_in; decide) (show M.1 mA (13 : Int32).toNatClampNeg = M.1 mA 13 by rw [show (13 : Int32).toNatClampNeg = 13 from rfl]) ?_
    refine r_mmax e_X11_see_46 cl_X11_261 ⟨Nat.le_of_ble_eq_true rfl, Nat.le_of_ble_eq_true rfl, Nat.zero_le _, Nat.zero_le _⟩ (Nat.le_of_ble_eq_true rfl) ?_
    refine p_istore_5_4 e_X11_see_49 rfl rfl ?_
    refine r_aload_n e_X11_see_51 rfl ?_
    refine r_iload_n e_X11_see_52 rfl ?_
    refine r_bipush e_X11_see_53 bp_8 ?_
    refine r_aload_n e_X11_see_55 rfl ?_
    refine r_getR e_X11_see_56 fl_X11_212 k0 k1 ?_
    refine r_sipush e_X11_see_59 sp_204 ?_
    refine r_iload e_X11_see_62 rfl ?_
    refine r_iconst e_X11_see_64 ic_4 ?_
    refine r_irem e_X11_see_65 (by decide) ?_
    refine r_iadd e_X11_see_66 ?_
    refine r_iaload e_X11_see_67 k2 (g3 h16_0) ?_
    refine cV3u e_X11_see_68 cl_X11_282 ⟨Nat.le_of_ble_eq_true rfl, Nat.le_of_ble_eq_true rfl⟩ ⟨rfl, rfl⟩ k0 (Nat.le_of_ble_eq_true rfl) (S_X11_set hb1 (g4 h16_0)) ?_
    obtain ⟨Mc1, e_Mc1⟩ : ∃ z : Mem, z = (U_X11_set x1 (8 : Int32) (M.1 mA ((204 : Int32) + ((if ((M.1 mA 3) - (V_X11_of x1 (14 : Int32) mA M)) < (M.1 mA 13) then (M.1 mA 13) else ((M.1 mA 3) - (V_X11_of x1 (14 : Int32) mA M))) - (if ((M.1 mA 3) - (V_X11_of x1 (14 : Int32) mA M)) < (M.1 mA 13) then (M.1 mA 13) else ((M.1 mA 3) - (V_X11_of x1 (14 : Int32) mA M))) / (4 : Int32) * (4 : Int32))).toNatClampNeg) mA M) := ⟨_, rfl⟩
    rw [← e_Mc1]
    refine r_aload_n e_X11_see_71 rfl ?_
    refine r_iload_n e_X11_see_72 rfl ?_
    refine r_bipush e_X11_see_73 bp_9 ?_
    refine r_aload_n e_X11_see_75 rfl ?_
    refine r_getR e_X11_see_76 fl_X11_212 k0 k1 ?_
    refine r_sipush e_X11_see_79 sp_208 ?_
    refine r_iload e_X11_see_82 rfl ?_
    refine r_iconst e_X11_see_84 ic_4 ?_
    refine r_irem e_X11_see_85 (by decide) ?_
    refine r_iadd e_X11_see_86 ?_
    refine r_iaload e_X11_see_87 k2 (g5 h16_0) ?_
    refine cV3u e_X11_see_88 cl_X11_282 ⟨Nat.le_of_ble_eq_true rfl, Nat.le_of_ble_eq_true rfl⟩ ⟨rfl, rfl⟩ k0 (Nat.le_of_ble_eq_true rfl) (S_X11_set hb1 (g6 h16_0)) ?_
    obtain ⟨Mc2, e_Mc2⟩ : ∃ z : Mem, z = (U_X11_set x1 (9 : Int32) (Mc1.1 mA ((208 : Int32) + ((if ((M.1 mA 3) - (V_X11_of x1 (14 : Int32) mA M)) < (M.1 mA 13) then (M.1 mA 13) else ((M.1 mA 3) - (V_X11_of x1 (14 : Int32) mA M))) - (if ((M.1 mA 3) - (V_X11_of x1 (14 : Int32) mA M)) < (M.1 mA 13) then (M.1 mA 13) else ((M.1 mA 3) - (V_X11_of x1 (14 : Int32) mA M))) / (4 : Int32) * (4 : Int32))).toNatClampNeg) mA Mc1) := ⟨_, rfl⟩
    rw [← e_Mc2]
    refine r_return e_X11_see_91 rfl ⟨rfl, rfl⟩ ?_
    (subst e_Mc2 e_Mc1; refine ⟨?_, rfl, ?_⟩ <;> ((try unfold U_X11_see); (try simp only [if_pos h16_0]); (try rfl)))
  · refine r_iload_n e_X11_see_19 rfl ?_
    refine r_iload_n e_X11_see_20 rfl ?_
    refine r_iconst e_X11_see_21 ic_5 ?_
    refine r_irem e_X11_see_22 (by decide) ?_
    refine r_iadd e_X11_see_23 ?_
    refine r_iload_n e_X11_see_24 rfl ?_
    refine r_irem e_X11_see_25 (fun q => h16_0 (by rw [q]; decide)) ?_
    refine r_if_ne e_X11_see_26 (fun h26_1 => ?_) (fun h26_1 => ?_)
    · refine r_iload_n e_X11_see_30 rfl ?_
      refine r_aload_n e_X11_see_31 rfl ?_
      refine r_iload_n e_X11_see_32 rfl ?_
      refine r_bipush e_X11_see_33 bp_14 ?_
      refine cV2v e_X11_see_35 cl_X11_252 ⟨Nat.le_of_ble_eq_true rfl, Nat.le_of_ble_eq_true rfl⟩ ⟨rfl, rfl⟩ k0 (Nat.le_of_ble_eq_true rfl) (S_X11_of hb1 (g7 h16_0 h26_1)) ?_
      refine r_isub e_X11_see_38 ?_
      refine r_aload_n e_X11_see_39 rfl ?_
      refine r_getR e_X11_see_40 fl_X11_212 k0 k1 ?_
      refine r_bipush e_X11_see_43 bp_13 ?_
      refine r_ialoade (v := (M.1 mA 13)) e_X11_see_45 k2 (by unfold vp_in; decide) (show M.1 mA (13 : Int32).toNatClampNeg = M.1 mA 13 by rw [show (13 : Int32).toNatClampNeg = 13 from rfl]) ?_
      refine r_mmax e_X11_see_46 cl_X11_261 ⟨Nat.le_of_ble_eq_true rfl, Nat.le_of_ble_eq_true rfl, Nat.zero_le _, Nat.zero_le _⟩ (Nat.le_of_ble_eq_true rfl) ?_
      refine p_istore_5_4 e_X11_see_49 rfl rfl ?_
      refine r_aload_n e_X11_see_51 rfl ?_
      refine r_iload_n e_X11_see_52 rfl ?_
      refine r_bipush e_X11_see_53 bp_8 ?_
      refine r_aload_n e_X11_see_55 rfl ?_
      refine r_getR e_X11_see_56 fl_X11_212 k0 k1 ?_
      refine r_sipush e_X11_see_59 sp_204 ?_
      refine r_iload e_X11_see_62 rfl ?_
      refine r_iconst e_X11_see_64 ic_4 ?_
      refine r_irem e_X11_see_65 (by decide) ?_
      refine r_iadd e_X11_see_66 ?_
      refine r_iaload e_X11_see_67 k2 (g8 h16_0 h26_1) ?_
      refine cV3u e_X11_see_68 cl_X11_282 ⟨Nat.le_of_ble_eq_true rfl, Nat.le_of_ble_eq_true rfl⟩ ⟨rfl, rfl⟩ k0 (Nat.le_of_ble_eq_true rfl) (S_X11_set hb1 (g9 h16_0 h26_1)) ?_
      obtain ⟨Mc3, e_Mc3⟩ : ∃ z : Mem, z = (U_X11_set x1 (8 : Int32) (M.1 mA ((204 : Int32) + ((if ((M.1 mA 3) - (V_X11_of x1 (14 : Int32) mA M)) < (M.1 mA 13) then (M.1 mA 13) else ((M.1 mA 3) - (V_X11_of x1 (14 : Int32) mA M))) - (if ((M.1 mA 3) - (V_X11_of x1 (14 : Int32) mA M)) < (M.1 mA 13) then (M.1 mA 13) else ((M.1 mA 3) - (V_X11_of x1 (14 : Int32) mA M))) / (4 : Int32) * (4 : Int32))).toNatClampNeg) mA M) := ⟨_, rfl⟩
      rw [← e_Mc3]
      refine r_aload_n e_X11_see_71 rfl ?_
      refine r_iload_n e_X11_see_72 rfl ?_
      refine r_bipush e_X11_see_73 bp_9 ?_
      refine r_aload_n e_X11_see_75 rfl ?_
      refine r_getR e_X11_see_76 fl_X11_212 k0 k1 ?_
      refine r_sipush e_X11_see_79 sp_208 ?_
      refine r_iload e_X11_see_82 rfl ?_
      refine r_iconst e_X11_see_84 ic_4 ?_
      refine r_irem e_X11_see_85 (by decide) ?_
      refine r_iadd e_X11_see_86 ?_
      refine r_iaload e_X11_see_87 k2 (g10 h16_0 h26_1) ?_
      refine cV3u e_X11_see_88 cl_X11_282 ⟨Nat.le_of_ble_eq_true rfl, Nat.le_of_ble_eq_true rfl⟩ ⟨rfl, rfl⟩ k0 (Nat.le_of_ble_eq_true rfl) (S_X11_set hb1 (g11 h16_0 h26_1)) ?_
      obtain ⟨Mc4, e_Mc4⟩ : ∃ z : Mem, z = (U_X11_set x1 (9 : Int32) (Mc3.1 mA ((208 : Int32) + ((if ((M.1 mA 3) - (V_X11_of x1 (14 : Int32) mA M)) < (M.1 mA 13) then (M.1 mA 13) else ((M.1 mA 3) - (V_X11_of x1 (14 : Int32) mA M))) - (if ((M.1 mA 3) - (V_X11_of x1 (14 : Int32) mA M)) < (M.1 mA 13) then (M.1 mA 13) else ((M.1 mA 3) - (V_X11_of x1 (14 : Int32) mA M))) / (4 : Int32) * (4 : Int32))).toNatClampNeg) mA Mc3) := ⟨_, rfl⟩
      rw [← e_Mc4]
      refine r_return e_X11_see_91 rfl ⟨rfl, rfl⟩ ?_
      (subst e_Mc4 e_Mc3; refine ⟨?_, rfl, ?_⟩ <;> ((try unfold U_X11_see); (try simp only [if_neg h16_0, if_neg h26_1]); (try rfl)))
    · refine r_return e_X11_see_29 rfl ⟨rfl, rfl⟩ ?_
      (refine ⟨?_, rfl, ?_⟩ <;> ((try unfold U_X11_see); (try simp only [if_neg h16_0, if_pos h26_1]); (try rfl)))
def V_X11_sign (x1 : Int32) (M : Mem) : Int32 := (let v0_0 : Int32 := if 0 ≤ x1 then (if x1 ≤ 0 then (0 : Int32) else (1 : Int32)) else (-1 : Int32); v0_0)
theorem S_X11_sign {sh : List SC} {M : Mem} {x1 : Int32}    : Gv m_X11_sign [.int x1] sh M (.int (V_X11_sign x1 M)) M := by
  refine Sp.of (ls := [some (.int x1)]) (by decide +kernel) (Nat.le_of_ble_eq_true rfl) rfl ?_
  refine r_iload_n e_X11_sign_0 rfl ?_
  obtain ⟨v0_0, e_v0_0⟩ : ∃ z : Int32, z = (if 0 ≤ x1 then (if x1 ≤ 0 then (0 : Int32) else (1 : Int32)) else (-1 : Int32)) := ⟨_, rfl⟩
  suffices j17_0 : WP m_X11_sign (fun r sh' M'' => r = some (.int (V_X11_sign x1 M)) ∧ sh' = sh ∧ M'' = M) 17 [some (.int x1)] [.int v0_0] sh M 0 0 by
    refine r_if_ge e_X11_sign_1 (fun h1_0 => ?_) (fun h1_0 => ?_)
    · refine r_iload_n e_X11_sign_8 rfl ?_
      refine r_if_le e_X11_sign_9 (fun h9_1 => ?_) (fun h9_1 => ?_)
      · refine r_iconst e_X11_sign_16 ic_0 ?_
        (rw [show v0_0 = (0 : Int32) from ((e_v0_0.trans (if_pos h1_0)).trans (if_pos h9_1))] at j17_0; exact j17_0)
      · refine r_iconst e_X11_sign_12 ic_1 ?_
        refine r_goto e_X11_sign_13 ?_
        (rw [show v0_0 = (1 : Int32) from ((e_v0_0.trans (if_pos h1_0)).trans (if_neg h9_1))] at j17_0; exact j17_0)
    · refine r_iconst e_X11_sign_4 ic_m1 ?_
      refine r_goto e_X11_sign_5 ?_
      (rw [show v0_0 = (-1 : Int32) from (e_v0_0.trans (if_neg h1_0))] at j17_0; exact j17_0)
  refine r_ireturn e_X11_sign_17 rfl ⟨rfl, rfl⟩ ?_
  (subst e_v0_0; refine ⟨?_, rfl, ?_⟩ <;> ((try unfold V_X11_sign); (try simp only []); (try rfl)))
def V_X11_here (M : Mem) : Int32 := (M.1 244 ((M.1 242 34) + (M.1 242 35)).toNatClampNeg)
theorem S_X11_here {sh : List SC} {M : Mem}  {mA : Nat} {oA : Nat} (hb1 : ModelAt sh mA oA) (g1 : vp_in ((M.1 242 34) + (M.1 242 35)) 4800) : Gv m_X11_here [.ref 242] sh M (.int (V_X11_here  M)) M := by
  refine Sp.of (ls := [some (.ref 242)]) (by decide +kernel) (Nat.le_of_ble_eq_true rfl) rfl ?_
  have k0 : kd sh 242 = some (10 + 7, 0) := hb1.1
  have k1 : rf sh 242 9 = some 244 := hb1.2.2.1
  have k2 : kd sh 244 = some (0, 4800) := hb1.2.2.2.2.2.2.2.2.2.2.2.2.2.2.2.2.2.2.2.2.2.2.2.2.2.2.2.2.1
  refine r_aload_n e_X11_here_0 rfl ?_
  refine r_getR e_X11_here_1 fl_X11_102 k0 k1 ?_
  refine r_aload_n e_X11_here_4 rfl ?_
  refine r_getI e_X11_here_5 fl_X11_309 i0 k0 ?_
  refine r_aload_n e_X11_here_8 rfl ?_
  refine r_getI e_X11_here_9 fl_X11_312 i0 k0 ?_
  refine r_iadd e_X11_here_12 ?_
  refine r_iaload e_X11_here_13 k2 g1 ?_
  refine r_ireturn e_X11_here_14 rfl ⟨rfl, rfl⟩ ?_
  (refine ⟨?_, rfl, ?_⟩ <;> ((try unfold V_X11_here); (try simp only []); (try rfl)))
def U_X11_step (M : Mem) : Mem := (let M0_0 : Mem := if (M.1 242 36) = (80 : Int32) then (setI M 242 37 (1 : Int32)) else (setI M 242 36 ((M.1 242 36) + (1 : Int32))); M0_0)
theorem S_X11_step {sh : List SC} {M : Mem}  {mA : Nat} {oA : Nat} (hb1 : ModelAt sh mA oA)  : Gu m_X11_step [.ref 242] sh M (U_X11_step  M) := by
  refine Sp.of (ls := [some (.ref 242)]) (by decide +kernel) (Nat.le_of_ble_eq_true rfl) rfl ?_
  have k0 : kd sh 242 = some (10 + 7, 0) := hb1.1
  refine r_aload_n e_X11_step_0 rfl ?_
  refine r_getI e_X11_step_1 fl_X11_302 i0 k0 ?_
  refine r_bipush e_X11_step_4 bp_80 ?_
  obtain ⟨M0_0, e_M0_0⟩ : ∃ z : Mem, z = (if (M.1 242 36) = (80 : Int32) then (setI M 242 37 (1 : Int32)) else (setI M 242 36 ((M.1 242 36) + (1 : Int32)))) := ⟨_, rfl⟩
  suffices j27_0 : WP m_X11_step (fun r sh' M'' => r = none ∧ sh' = sh ∧ M'' = (U_X11_step  M)) 27 [some (.ref 242)] [] sh M0_0 0 0 by
    refine r_icmp_ne e_X11_step_6 (fun h6_0 => ?_) (fun h6_0 => ?_)
    · refine r_aload_n e_X11_step_17 rfl ?_
      refine r_dup e_X11_step_18 rfl ?_
      refine r_getI e_X11_step_19 fl_X11_302 i0 k0 ?_
      refine r_iconst e_X11_step_22 ic_1 ?_
      refine r_iadd e_X11_step_23 ?_
      refine r_putI e_X11_step_24 fl_X11_302 k0 ?_
      (rw [show M0_0 = setI M 242 36 ((M.1 242 36) + (1 : Int32)) from (e_M0_0.trans (if_neg h6_0))] at j27_0; exact j27_0)
    · refine r_aload_n e_X11_step_9 rfl ?_
      refine r_iconst e_X11_step_10 ic_1 ?_
      refine r_putZ e_X11_step_11 fl_X11_305 (by first | exact Or.inl rfl | exact Or.inr rfl) k0 ?_
      refine r_goto e_X11_step_14 ?_
      (rw [show M0_0 = setI M 242 37 (1 : Int32) from (e_M0_0.trans (if_pos h6_0))] at j27_0; exact j27_0)
  refine r_return e_X11_step_27 rfl ⟨rfl, rfl⟩ ?_
  (subst e_M0_0; refine ⟨?_, rfl, ?_⟩ <;> ((try unfold U_X11_step); (try simp only []); (try rfl)))
def V_X11_seenX (x1 : Int32) (M : Mem) : Int32 := (let v0_0 : Int32 := if (5 : Int32) ≤ (M.1 242 33) then ((14 : Int32) - x1) else x1; v0_0)
theorem S_X11_seenX {sh : List SC} {M : Mem} {x1 : Int32} {mA : Nat} {oA : Nat} (hb1 : ModelAt sh mA oA)  : Gv m_X11_seenX [.ref 242, .int x1] sh M (.int (V_X11_seenX x1 M)) M := by
  refine Sp.of (ls := [some (.ref 242), some (.int x1)]) (by decide +kernel) (Nat.le_of_ble_eq_true rfl) rfl ?_
  have k0 : kd sh 242 = some (10 + 7, 0) := hb1.1
  refine r_aload_n e_X11_seenX_0 rfl ?_
  refine r_getI e_X11_seenX_1 fl_X11_315 i0 k0 ?_
  refine r_iconst e_X11_seenX_4 ic_5 ?_
  obtain ⟨v0_0, e_v0_0⟩ : ∃ z : Int32, z = (if (5 : Int32) ≤ (M.1 242 33) then ((14 : Int32) - x1) else x1) := ⟨_, rfl⟩
  suffices j16_0 : WP m_X11_seenX (fun r sh' M'' => r = some (.int (V_X11_seenX x1 M)) ∧ sh' = sh ∧ M'' = M) 16 [some (.ref 242), some (.int x1)] [.int v0_0] sh M 0 0 by
    refine r_icmp_ge e_X11_seenX_5 (fun h5_0 => ?_) (fun h5_0 => ?_)
    · refine r_bipush e_X11_seenX_12 bp_14 ?_
      refine r_iload_n e_X11_seenX_14 rfl ?_
      refine r_isub e_X11_seenX_15 ?_
      (rw [show v0_0 = ((14 : Int32) - x1) from (e_v0_0.trans (if_pos h5_0))] at j16_0; exact j16_0)
    · refine r_iload_n e_X11_seenX_8 rfl ?_
      refine r_goto e_X11_seenX_9 ?_
      (rw [show v0_0 = x1 from (e_v0_0.trans (if_neg h5_0))] at j16_0; exact j16_0)
  refine r_ireturn e_X11_seenX_16 rfl ⟨rfl, rfl⟩ ?_
  (subst e_v0_0; refine ⟨?_, rfl, ?_⟩ <;> ((try unfold V_X11_seenX); (try simp only []); (try rfl)))
def V_X11_seenY (x1 : Int32) (M : Mem) : Int32 := (let v0_0 : Int32 := if (5 : Int32) ≤ (M.1 242 33) then ((8 : Int32) - x1) else x1; v0_0)
theorem S_X11_seenY {sh : List SC} {M : Mem} {x1 : Int32} {mA : Nat} {oA : Nat} (hb1 : ModelAt sh mA oA)  : Gv m_X11_seenY [.ref 242, .int x1] sh M (.int (V_X11_seenY x1 M)) M := by
  refine Sp.of (ls := [some (.ref 242), some (.int x1)]) (by decide +kernel) (Nat.le_of_ble_eq_true rfl) rfl ?_
  have k0 : kd sh 242 = some (10 + 7, 0) := hb1.1
  refine r_aload_n e_X11_seenY_0 rfl ?_
  refine r_getI e_X11_seenY_1 fl_X11_315 i0 k0 ?_
  refine r_iconst e_X11_seenY_4 ic_5 ?_
  obtain ⟨v0_0, e_v0_0⟩ : ∃ z : Int32, z = (if (5 : Int32) ≤ (M.1 242 33) then ((8 : Int32) - x1) else x1) := ⟨_, rfl⟩
  suffices j16_0 : WP m_X11_seenY (fun r sh' M'' => r = some (.int (V_X11_seenY x1 M)) ∧ sh' = sh ∧ M'' = M) 16 [some (.ref 242), some (.int x1)] [.int v0_0] sh M 0 0 by
    refine r_icmp_ge e_X11_seenY_5 (fun h5_0 => ?_) (fun h5_0 => ?_)
    · refine r_bipush e_X11_seenY_12 bp_8 ?_
      refine r_iload_n e_X11_seenY_14 rfl ?_
      refine r_isub e_X11_seenY_15 ?_
      (rw [show v0_0 = ((8 : Int32) - x1) from (e_v0_0.trans (if_pos h5_0))] at j16_0; exact j16_0)
    · refine r_iload_n e_X11_seenY_8 rfl ?_
      refine r_goto e_X11_seenY_9 ?_
      (rw [show v0_0 = x1 from (e_v0_0.trans (if_neg h5_0))] at j16_0; exact j16_0)
  refine r_ireturn e_X11_seenY_16 rfl ⟨rfl, rfl⟩ ?_
  (subst e_v0_0; refine ⟨?_, rfl, ?_⟩ <;> ((try unfold V_X11_seenY); (try simp only []); (try rfl)))
def V_X11_otherRobot (x1 : Int32) (x2 : Int32) (mA : Nat) (M : Mem) : Int32 := (let v0_0 : Int32 := if (2 : Int32) ≤ x1 then ((1 : Int32) - ((M.1 242 33) / (5 : Int32))) else ((M.1 242 33) / (5 : Int32)); let v1_0 : Int32 := if (x1 - x1 / (2 : Int32) * (2 : Int32)) = 0 then (V_X11_seenX (V_X11_of (((5 : Int32) * v0_0) + x2) (0 : Int32) mA M) M) else (V_X11_seenY (V_X11_of (((5 : Int32) * v0_0) + x2) (1 : Int32) mA M) M); v1_0)
def P_X11_otherRobot (x1 : Int32) (x2 : Int32) (mA : Nat) (M : Mem) : Prop := (¬ ((x1 - x1 / (2 : Int32) * (2 : Int32)) = 0) → vp_in (((44 : Int32) + ((16 : Int32) * (((5 : Int32) * (if (2 : Int32) ≤ x1 then ((1 : Int32) - ((M.1 242 33) / (5 : Int32))) else ((M.1 242 33) / (5 : Int32)))) + x2))) + (1 : Int32)) 212) ∧ ((x1 - x1 / (2 : Int32) * (2 : Int32)) = 0 → vp_in (((44 : Int32) + ((16 : Int32) * (((5 : Int32) * (if (2 : Int32) ≤ x1 then ((1 : Int32) - ((M.1 242 33) / (5 : Int32))) else ((M.1 242 33) / (5 : Int32)))) + x2))) + (0 : Int32)) 212)
theorem S_X11_otherRobot {sh : List SC} {M : Mem} {x1 : Int32} {x2 : Int32} {mA : Nat} {oA : Nat} (hb1 : ModelAt sh mA oA)  (hP : P_X11_otherRobot x1 x2 mA M) : Gv m_X11_otherRobot [.ref 242, .int x1, .int x2] sh M (.int (V_X11_otherRobot x1 x2 mA M)) M := by
  refine Sp.of (ls := [some (.ref 242), some (.int x1), some (.int x2), none, none]) (by decide +kernel) (Nat.le_of_ble_eq_true rfl) rfl ?_
  obtain ⟨g1, g2⟩ := hP
  have k0 : kd sh 242 = some (10 + 7, 0) := hb1.1
  refine r_iload_n e_X11_otherRobot_0 rfl ?_
  refine r_iconst e_X11_otherRobot_1 ic_2 ?_
  obtain ⟨v0_0, e_v0_0⟩ : ∃ z : Int32, z = (if (2 : Int32) ≤ x1 then ((1 : Int32) - ((M.1 242 33) / (5 : Int32))) else ((M.1 242 33) / (5 : Int32))) := ⟨_, rfl⟩
  suffices j22_0 : WP m_X11_otherRobot (fun r sh' M'' => r = some (.int (V_X11_otherRobot x1 x2 mA M)) ∧ sh' = sh ∧ M'' = M) 22 [some (.ref 242), some (.int x1), some (.int x2), none, none] [.int v0_0] sh M 0 0 by
    refine r_icmp_ge e_X11_otherRobot_2 (fun h2_0 => ?_) (fun h2_0 => ?_)
    · refine r_iconst e_X11_otherRobot_14 ic_1 ?_
      refine r_aload_n e_X11_otherRobot_15 rfl ?_
      refine r_getI e_X11_otherRobot_16 fl_X11_315 i0 k0 ?_
      refine r_iconst e_X11_otherRobot_19 ic_5 ?_
      refine r_idiv e_X11_otherRobot_20 (by decide) ?_
      refine r_isub e_X11_otherRobot_21 ?_
      (rw [show v0_0 = ((1 : Int32) - ((M.1 242 33) / (5 : Int32))) from (e_v0_0.trans (if_pos h2_0))] at j22_0; exact j22_0)
    · refine r_aload_n e_X11_otherRobot_5 rfl ?_
      refine r_getI e_X11_otherRobot_6 fl_X11_315 i0 k0 ?_
      refine r_iconst e_X11_otherRobot_9 ic_5 ?_
      refine r_idiv e_X11_otherRobot_10 (by decide) ?_
      refine r_goto e_X11_otherRobot_11 ?_
      (rw [show v0_0 = ((M.1 242 33) / (5 : Int32)) from (e_v0_0.trans (if_neg h2_0))] at j22_0; exact j22_0)
  refine p_istore_n_5_3 e_X11_otherRobot_22 rfl rfl ?_
  refine r_iconst e_X11_otherRobot_23 ic_5 ?_
  refine r_iload_n e_X11_otherRobot_24 rfl ?_
  refine r_imul e_X11_otherRobot_25 ?_
  refine r_iload_n e_X11_otherRobot_26 rfl ?_
  refine r_iadd e_X11_otherRobot_27 ?_
  refine p_istore_5_4 e_X11_otherRobot_28 rfl rfl ?_
  refine r_iload_n e_X11_otherRobot_30 rfl ?_
  refine r_iconst e_X11_otherRobot_31 ic_2 ?_
  refine r_irem e_X11_otherRobot_32 (by decide) ?_
  obtain ⟨v1_0, e_v1_0⟩ : ∃ z : Int32, z = (if (x1 - x1 / (2 : Int32) * (2 : Int32)) = 0 then (V_X11_seenX (V_X11_of (((5 : Int32) * v0_0) + x2) (0 : Int32) mA M) M) else (V_X11_seenY (V_X11_of (((5 : Int32) * v0_0) + x2) (1 : Int32) mA M) M)) := ⟨_, rfl⟩
  suffices j61_1 : WP m_X11_otherRobot (fun r sh' M'' => r = some (.int (V_X11_otherRobot x1 x2 mA M)) ∧ sh' = sh ∧ M'' = M) 61 [some (.ref 242), some (.int x1), some (.int x2), some (.int v0_0), some (.int (((5 : Int32) * v0_0) + x2))] [.int v1_0] sh M 0 0 by
    refine r_if_ne e_X11_otherRobot_33 (fun h33_1 => ?_) (fun h33_1 => ?_)
    · refine r_aload_n e_X11_otherRobot_50 rfl ?_
      refine r_aload_n e_X11_otherRobot_51 rfl ?_
      refine r_iload e_X11_otherRobot_52 rfl ?_
      refine r_iconst e_X11_otherRobot_54 ic_1 ?_
      refine cV2v e_X11_otherRobot_55 cl_X11_252 ⟨Nat.le_of_ble_eq_true rfl, Nat.le_of_ble_eq_true rfl⟩ ⟨rfl, rfl⟩ k0 (Nat.le_of_ble_eq_true rfl) (S_X11_of hb1 (by subst e_v0_0; exact g1 h33_1)) ?_
      refine cV1v e_X11_otherRobot_58 cl_X11_321 ⟨Nat.le_of_ble_eq_true rfl, Nat.le_of_ble_eq_true rfl⟩ ⟨rfl, rfl⟩ k0 (Nat.le_of_ble_eq_true rfl) (S_X11_seenY hb1) ?_
      (rw [show v1_0 = (V_X11_seenY (V_X11_of (((5 : Int32) * v0_0) + x2) (1 : Int32) mA M) M) from (e_v1_0.trans (if_neg h33_1))] at j61_1; exact j61_1)
    · refine r_aload_n e_X11_otherRobot_36 rfl ?_
      refine r_aload_n e_X11_otherRobot_37 rfl ?_
      refine r_iload e_X11_otherRobot_38 rfl ?_
      refine r_iconst e_X11_otherRobot_40 ic_0 ?_
      refine cV2v e_X11_otherRobot_41 cl_X11_252 ⟨Nat.le_of_ble_eq_true rfl, Nat.le_of_ble_eq_true rfl⟩ ⟨rfl, rfl⟩ k0 (Nat.le_of_ble_eq_true rfl) (S_X11_of hb1 (by subst e_v0_0; exact g2 h33_1)) ?_
      refine cV1v e_X11_otherRobot_44 cl_X11_318 ⟨Nat.le_of_ble_eq_true rfl, Nat.le_of_ble_eq_true rfl⟩ ⟨rfl, rfl⟩ k0 (Nat.le_of_ble_eq_true rfl) (S_X11_seenX hb1) ?_
      refine r_goto e_X11_otherRobot_47 ?_
      (rw [show v1_0 = (V_X11_seenX (V_X11_of (((5 : Int32) * v0_0) + x2) (0 : Int32) mA M) M) from (e_v1_0.trans (if_pos h33_1))] at j61_1; exact j61_1)
  refine r_ireturn e_X11_otherRobot_61 rfl ⟨rfl, rfl⟩ ?_
  (subst e_v1_0 e_v0_0; refine ⟨?_, rfl, ?_⟩ <;> ((try unfold V_X11_otherRobot); (try simp only []); (try rfl)))
def U_X11_hold (x1 : Int32) (mA : Nat) (M : Mem) : Mem := (let Mc1 : Mem := U_X11_stopBall  mA (setI (setI (setI (setI M mA 16 x1) mA 20 (M.1 mA 3)) mA 14 (V_X11_of x1 (0 : Int32) mA (setI (setI M mA 16 x1) mA 20 (M.1 mA 3)))) mA 15 (V_X11_of x1 (1 : Int32) mA (setI (setI (setI M mA 16 x1) mA 20 (M.1 mA 3)) mA 14 (V_X11_of x1 (0 : Int32) mA (setI (setI M mA 16 x1) mA 20 (M.1 mA 3)))))); Mc1)
theorem S_X11_hold {sh : List SC} {M : Mem} {x1 : Int32} {mA : Nat} {oA : Nat} (hb1 : ModelAt sh mA oA) (g1 : vp_in (((44 : Int32) + ((16 : Int32) * x1)) + (0 : Int32)) 212) (g2 : vp_in (((44 : Int32) + ((16 : Int32) * x1)) + (1 : Int32)) 212) : Gu m_X11_hold [.ref 242, .int x1] sh M (U_X11_hold x1 mA M) := by
  refine Sp.of (ls := [some (.ref 242), some (.int x1)]) (by decide +kernel) (Nat.le_of_ble_eq_true rfl) rfl ?_
  have k0 : kd sh 242 = some (10 + 7, 0) := hb1.1
  have k1 : rf sh 242 27 = some mA := hb1.2.2.2.2.2.2.2.2.2.2.2.2.2.2.2.2.2.1
  have k2 : kd sh mA = some (0, 212) := hb1.2.2.2.2.2.2.2.2.2.2.2.2.2.2.2.2.2.2.2.2.2.2.2.2.2.2.2.2.2.2.2.2.2.2.2.2.2.2.2.2.2.2.2.2.2.2.2.2.2.2.2.1
  refine r_aload_n e_X11_hold_0 rfl ?_
  refine r_getR e_X11_hold_1 fl_X11_212 k0 k1 ?_
  refine r_bipush e_X11_hold_4 bp_16 ?_
  refine r_iload_n e_X11_hold_6 rfl ?_
  refine r_iastore e_X11_hold_7 k2 (by unfold vp_in; decide) ?_
  rw [show (16 : Int32).toNatClampNeg = 16 from rfl]
  refine r_aload_n e_X11_hold_8 rfl ?_
  refine r_getR e_X11_hold_9 fl_X11_212 k0 k1 ?_
  refine r_bipush e_X11_hold_12 bp_20 ?_
  refine r_aload_n e_X11_hold_14 rfl ?_
  refine r_getR e_X11_hold_15 fl_X11_212 k0 k1 ?_
  refine r_iconst e_X11_hold_18 ic_3 ?_
  refine r_ialoade (v := (M.1 mA 3)) e_X11_hold_19 k2 (by unfold vp_in; decide) ((show (setI M mA 16 x1).1 mA (3 : Int32).toNatClampNeg = (setI M mA 16 x1).1 mA 3 by rw [show (3 : Int32).toNatClampNeg = 3 from rfl]).trans (gs_nI (by decide))) ?_
  refine r_iastore e_X11_hold_20 k2 (by unfold vp_in; decide) ?_
  rw [show (20 : Int32).toNatClampNeg = 20 from rfl]
  refine r_aload_n e_X11_hold_21 rfl ?_
  refine r_getR e_X11_hold_22 fl_X11_212 k0 k1 ?_
  refine r_bipush e_X11_hold_25 bp_14 ?_
  refine r_aload_n e_X11_hold_27 rfl ?_
  refine r_iload_n e_X11_hold_28 rfl ?_
  refine r_iconst e_X11_hold_29 ic_0 ?_
  refine cV2v e_X11_hold_30 cl_X11_252 ⟨Nat.le_of_ble_eq_true rfl, Nat.le_of_ble_eq_true rfl⟩ ⟨rfl, rfl⟩ k0 (Nat.le_of_ble_eq_true rfl) (S_X11_of hb1 g1) ?_
  refine r_iastore e_X11_hold_33 k2 (by unfold vp_in; decide) ?_
  rw [show (14 : Int32).toNatClampNeg = 14 from rfl]
  refine r_aload_n e_X11_hold_34 rfl ?_
  refine r_getR e_X11_hold_35 fl_X11_212 k0 k1 ?_
  refine r_bipush e_X11_hold_38 bp_15 ?_
  refine r_aload_n e_X11_hold_40 rfl ?_
  refine r_iload_n e_X11_hold_41 rfl ?_
  refine r_iconst e_X11_hold_42 ic_1 ?_
  refine cV2v e_X11_hold_43 cl_X11_252 ⟨Nat.le_of_ble_eq_true rfl, Nat.le_of_ble_eq_true rfl⟩ ⟨rfl, rfl⟩ k0 (Nat.le_of_ble_eq_true rfl) (S_X11_of hb1 g2) ?_
  refine r_iastore e_X11_hold_46 k2 (by unfold vp_in; decide) ?_
  rw [show (15 : Int32).toNatClampNeg = 15 from rfl]
  refine r_aload_n e_X11_hold_47 rfl ?_
  refine cV0u e_X11_hold_48 cl_X11_285 ⟨Nat.le_of_ble_eq_true rfl, Nat.le_of_ble_eq_true rfl⟩ ⟨rfl, rfl⟩ k0 (Nat.le_of_ble_eq_true rfl) (S_X11_stopBall hb1) ?_
  obtain ⟨Mc1, e_Mc1⟩ : ∃ z : Mem, z = (U_X11_stopBall  mA (setI (setI (setI (setI M mA 16 x1) mA 20 (M.1 mA 3)) mA 14 (V_X11_of x1 (0 : Int32) mA (setI (setI M mA 16 x1) mA 20 (M.1 mA 3)))) mA 15 (V_X11_of x1 (1 : Int32) mA (setI (setI (setI M mA 16 x1) mA 20 (M.1 mA 3)) mA 14 (V_X11_of x1 (0 : Int32) mA (setI (setI M mA 16 x1) mA 20 (M.1 mA 3))))))) := ⟨_, rfl⟩
  rw [← e_Mc1]
  refine r_return e_X11_hold_51 rfl ⟨rfl, rfl⟩ ?_
  (subst e_Mc1; refine ⟨?_, rfl, ?_⟩ <;> ((try unfold U_X11_hold); (try simp only []); (try rfl)))
def V_X11_sleeps (mA : Nat) (M : Mem) : Int32 := (let v0_0 : Int32 := if (M.1 mA 21) ≤ 0 then (0 : Int32) else (if (M.1 mA 22) = (M.1 mA 14) then (if (M.1 mA 23) = (M.1 mA 15) then (1 : Int32) else (0 : Int32)) else (0 : Int32)); let v3_0 : Int32 := if (M.1 mA 16) < 0 then (if v0_0 = 0 then (1 : Int32) else ((M.1 mA 21) + (1 : Int32))) else (0 : Int32); v3_0)
def U_X11_sleeps (mA : Nat) (M : Mem) : Mem := (let v0_0 : Int32 := if (M.1 mA 21) ≤ 0 then (0 : Int32) else (if (M.1 mA 22) = (M.1 mA 14) then (if (M.1 mA 23) = (M.1 mA 15) then (1 : Int32) else (0 : Int32)) else (0 : Int32)); let v3_0 : Int32 := if (M.1 mA 16) < 0 then (if v0_0 = 0 then (1 : Int32) else ((M.1 mA 21) + (1 : Int32))) else (0 : Int32); setI (setI (setI M mA 21 v3_0) mA 22 (M.1 mA 14)) mA 23 (M.1 mA 15))
theorem S_X11_sleeps {sh : List SC} {M : Mem}  {mA : Nat} {oA : Nat} (hb1 : ModelAt sh mA oA)  : Gv m_X11_sleeps [.ref 242] sh M (.int (V_X11_sleeps mA M)) (U_X11_sleeps mA M) := by
  refine Sp.of (ls := [some (.ref 242), none]) (by decide +kernel) (Nat.le_of_ble_eq_true rfl) rfl ?_
  have k0 : kd sh 242 = some (10 + 7, 0) := hb1.1
  have k1 : rf sh 242 27 = some mA := hb1.2.2.2.2.2.2.2.2.2.2.2.2.2.2.2.2.2.1
  have k2 : kd sh mA = some (0, 212) := hb1.2.2.2.2.2.2.2.2.2.2.2.2.2.2.2.2.2.2.2.2.2.2.2.2.2.2.2.2.2.2.2.2.2.2.2.2.2.2.2.2.2.2.2.2.2.2.2.2.2.2.2.1
  refine r_aload_n e_X11_sleeps_0 rfl ?_
  refine r_getR e_X11_sleeps_1 fl_X11_212 k0 k1 ?_
  refine r_bipush e_X11_sleeps_4 bp_21 ?_
  refine r_ialoade (v := (M.1 mA 21)) e_X11_sleeps_6 k2 (by unfold vp_in; decide) (show M.1 mA (21 : Int32).toNatClampNeg = M.1 mA 21 by rw [show (21 : Int32).toNatClampNeg = 21 from rfl]) ?_
  obtain ⟨v0_0, e_v0_0⟩ : ∃ z : Int32, z = (if (M.1 mA 21) ≤ 0 then (0 : Int32) else (if (M.1 mA 22) = (M.1 mA 14) then (if (M.1 mA 23) = (M.1 mA 15) then (1 : Int32) else (0 : Int32)) else (0 : Int32))) := ⟨_, rfl⟩
  have z_v0_0 : v0_0 = 0 ∨ v0_0 = 1 := by rw [e_v0_0]; exact (zi (Or.inl rfl) (zi (zi (Or.inr rfl) (Or.inl rfl)) (Or.inl rfl)))
  suffices j49_0 : WP m_X11_sleeps (fun r sh' M'' => r = some (.int (V_X11_sleeps mA M)) ∧ sh' = sh ∧ M'' = (U_X11_sleeps mA M)) 49 [some (.ref 242), none] [.int v0_0] sh M 0 0 by
    refine r_if_le e_X11_sleeps_7 (fun h7_0 => ?_) (fun h7_0 => ?_)
    · refine r_iconst e_X11_sleeps_48 ic_0 ?_
      (rw [show v0_0 = (0 : Int32) from (e_v0_0.trans (if_pos h7_0))] at j49_0; exact j49_0)
    · refine r_aload_n e_X11_sleeps_10 rfl ?_
      refine r_getR e_X11_sleeps_11 fl_X11_212 k0 k1 ?_
      refine r_bipush e_X11_sleeps_14 bp_22 ?_
      refine r_ialoade (v := (M.1 mA 22)) e_X11_sleeps_16 k2 (by unfold vp_in; decide) (show M.1 mA (22 : Int32).toNatClampNeg = M.1 mA 22 by rw [show (22 : Int32).toNatClampNeg = 22 from rfl]) ?_
      refine r_aload_n e_X11_sleeps_17 rfl ?_
      refine r_getR e_X11_sleeps_18 fl_X11_212 k0 k1 ?_
      refine r_bipush e_X11_sleeps_21 bp_14 ?_
      refine r_ialoade (v := (M.1 mA 14)) e_X11_sleeps_23 k2 (by unfold vp_in; decide) (show M.1 mA (14 : Int32).toNatClampNeg = M.1 mA 14 by rw [show (14 : Int32).toNatClampNeg = 14 from rfl]) ?_
      refine r_icmp_ne e_X11_sleeps_24 (fun h24_1 => ?_) (fun h24_1 => ?_)
      · refine r_iconst e_X11_sleeps_48 ic_0 ?_
        (rw [show v0_0 = (0 : Int32) from ((e_v0_0.trans (if_neg h7_0)).trans (if_neg h24_1))] at j49_0; exact j49_0)
      · refine r_aload_n e_X11_sleeps_27 rfl ?_
        refine r_getR e_X11_sleeps_28 fl_X11_212 k0 k1 ?_
        refine r_bipush e_X11_sleeps_31 bp_23 ?_
        refine r_ialoade (v := (M.1 mA 23)) e_X11_sleeps_33 k2 (by unfold vp_in; decide) (show M.1 mA (23 : Int32).toNatClampNeg = M.1 mA 23 by rw [show (23 : Int32).toNatClampNeg = 23 from rfl]) ?_
        refine r_aload_n e_X11_sleeps_34 rfl ?_
        refine r_getR e_X11_sleeps_35 fl_X11_212 k0 k1 ?_
        refine r_bipush e_X11_sleeps_38 bp_15 ?_
        refine r_ialoade (v := (M.1 mA 15)) e_X11_sleeps_40 k2 (by unfold vp_in; decide) (show M.1 mA (15 : Int32).toNatClampNeg = M.1 mA 15 by rw [show (15 : Int32).toNatClampNeg = 15 from rfl]) ?_
        refine r_icmp_ne e_X11_sleeps_41 (fun h41_2 => ?_) (fun h41_2 => ?_)
        · refine r_iconst e_X11_sleeps_48 ic_0 ?_
          (rw [show v0_0 = (0 : Int32) from (((e_v0_0.trans (if_neg h7_0)).trans (if_pos h24_1)).trans (if_neg h41_2))] at j49_0; exact j49_0)
        · refine r_iconst e_X11_sleeps_44 ic_1 ?_
          refine r_goto e_X11_sleeps_45 ?_
          (rw [show v0_0 = (1 : Int32) from (((e_v0_0.trans (if_neg h7_0)).trans (if_pos h24_1)).trans (if_pos h41_2))] at j49_0; exact j49_0)
  refine p_istore_n_2_1 e_X11_sleeps_49 rfl rfl ?_
  refine r_aload_n e_X11_sleeps_50 rfl ?_
  refine r_getR e_X11_sleeps_51 fl_X11_212 k0 k1 ?_
  refine r_bipush e_X11_sleeps_54 bp_21 ?_
  refine r_aload_n e_X11_sleeps_56 rfl ?_
  refine r_getR e_X11_sleeps_57 fl_X11_212 k0 k1 ?_
  refine r_bipush e_X11_sleeps_60 bp_16 ?_
  refine r_ialoade (v := (M.1 mA 16)) e_X11_sleeps_62 k2 (by unfold vp_in; decide) (show M.1 mA (16 : Int32).toNatClampNeg = M.1 mA 16 by rw [show (16 : Int32).toNatClampNeg = 16 from rfl]) ?_
  obtain ⟨v3_0, e_v3_0⟩ : ∃ z : Int32, z = (if (M.1 mA 16) < 0 then (if v0_0 = 0 then (1 : Int32) else ((M.1 mA 21) + (1 : Int32))) else (0 : Int32)) := ⟨_, rfl⟩
  suffices j87_3 : WP m_X11_sleeps (fun r sh' M'' => r = some (.int (V_X11_sleeps mA M)) ∧ sh' = sh ∧ M'' = (U_X11_sleeps mA M)) 87 [some (.ref 242), some (.int v0_0)] [.int v3_0, .int (21 : Int32), .ref mA] sh M 0 0 by
    refine r_if_lt e_X11_sleeps_63 (fun h63_3 => ?_) (fun h63_3 => ?_)
    · refine r_iload_n e_X11_sleeps_70 rfl ?_
      refine r_if_eq e_X11_sleeps_71 (fun h71_4 => ?_) (fun h71_4 => ?_)
      · refine r_iconst e_X11_sleeps_86 ic_1 ?_
        (rw [show v3_0 = (1 : Int32) from ((e_v3_0.trans (if_pos h63_3)).trans (if_pos h71_4))] at j87_3; exact j87_3)
      · refine r_aload_n e_X11_sleeps_74 rfl ?_
        refine r_getR e_X11_sleeps_75 fl_X11_212 k0 k1 ?_
        refine r_bipush e_X11_sleeps_78 bp_21 ?_
        refine r_ialoade (v := (M.1 mA 21)) e_X11_sleeps_80 k2 (by unfold vp_in; decide) (show M.1 mA (21 : Int32).toNatClampNeg = M.1 mA 21 by rw [show (21 : Int32).toNatClampNeg = 21 from rfl]) ?_
        refine r_iconst e_X11_sleeps_81 ic_1 ?_
        refine r_iadd e_X11_sleeps_82 ?_
        refine r_goto e_X11_sleeps_83 ?_
        (rw [show v3_0 = ((M.1 mA 21) + (1 : Int32)) from ((e_v3_0.trans (if_pos h63_3)).trans (if_neg h71_4))] at j87_3; exact j87_3)
    · refine r_iconst e_X11_sleeps_66 ic_0 ?_
      refine r_goto e_X11_sleeps_67 ?_
      (rw [show v3_0 = (0 : Int32) from (e_v3_0.trans (if_neg h63_3))] at j87_3; exact j87_3)
  refine r_iastore e_X11_sleeps_87 k2 (by unfold vp_in; decide) ?_
  rw [show (21 : Int32).toNatClampNeg = 21 from rfl]
  refine r_aload_n e_X11_sleeps_88 rfl ?_
  refine r_getR e_X11_sleeps_89 fl_X11_212 k0 k1 ?_
  refine r_bipush e_X11_sleeps_92 bp_22 ?_
  refine r_aload_n e_X11_sleeps_94 rfl ?_
  refine r_getR e_X11_sleeps_95 fl_X11_212 k0 k1 ?_
  refine r_bipush e_X11_sleeps_98 bp_14 ?_
  refine r_ialoade (v := (M.1 mA 14)) e_X11_sleeps_100 k2 (by unfold vp_in; decide) ((show (setI M mA 21 v3_0).1 mA (14 : Int32).toNatClampNeg = (setI M mA 21 v3_0).1 mA 14 by rw [show (14 : Int32).toNatClampNeg = 14 from rfl]).trans (gs_nI (by decide))) ?_
  refine r_iastore e_X11_sleeps_101 k2 (by unfold vp_in; decide) ?_
  rw [show (22 : Int32).toNatClampNeg = 22 from rfl]
  refine r_aload_n e_X11_sleeps_102 rfl ?_
  refine r_getR e_X11_sleeps_103 fl_X11_212 k0 k1 ?_
  refine r_bipush e_X11_sleeps_106 bp_23 ?_
  refine r_aload_n e_X11_sleeps_108 rfl ?_
  refine r_getR e_X11_sleeps_109 fl_X11_212 k0 k1 ?_
  refine r_bipush e_X11_sleeps_112 bp_15 ?_
  refine r_ialoade (v := (M.1 mA 15)) e_X11_sleeps_114 k2 (by unfold vp_in; decide) ((show (setI (setI M mA 21 v3_0) mA 22 (M.1 mA 14)).1 mA (15 : Int32).toNatClampNeg = (setI (setI M mA 21 v3_0) mA 22 (M.1 mA 14)).1 mA 15 by rw [show (15 : Int32).toNatClampNeg = 15 from rfl]).trans ((gs_nI (by decide)).trans (gs_nI (by decide)))) ?_
  refine r_iastore e_X11_sleeps_115 k2 (by unfold vp_in; decide) ?_
  rw [show (23 : Int32).toNatClampNeg = 23 from rfl]
  refine r_aload_n e_X11_sleeps_116 rfl ?_
  refine r_getR e_X11_sleeps_117 fl_X11_212 k0 k1 ?_
  refine r_bipush e_X11_sleeps_120 bp_21 ?_
  refine r_ialoade (v := v3_0) e_X11_sleeps_122 k2 (by unfold vp_in; decide) ((show (setI (setI (setI M mA 21 v3_0) mA 22 (M.1 mA 14)) mA 23 (M.1 mA 15)).1 mA (21 : Int32).toNatClampNeg = (setI (setI (setI M mA 21 v3_0) mA 22 (M.1 mA 14)) mA 23 (M.1 mA 15)).1 mA 21 by rw [show (21 : Int32).toNatClampNeg = 21 from rfl]).trans ((gs_nI (by decide)).trans ((gs_nI (by decide)).trans gs_eI))) ?_
  refine r_ireturn e_X11_sleeps_123 rfl ⟨rfl, rfl⟩ ?_
  (subst e_v3_0 e_v0_0; refine ⟨?_, rfl, ?_⟩ <;> ((try unfold V_X11_sleeps); (try unfold U_X11_sleeps); (try simp only []); (try rfl)))
def F_X11_nearestFoe_13 (x1 : Int32) (mA : Nat) : Nat → Int32 → Int32 → Mem → Int32 × Int32
  | 0, u2, u3, M => (u2, u3)
  | n + 1, u2, u3, M => (let v1301_0 : Int32 := if (5 : Int32) ≤ x1 then (5 : Int32) else (10 : Int32); if v1301_0 ≤ u3 then (u2, u3) else (let v1303_0 : Int32 := if u2 < 0 then u3 else (if (V_X11_distance (V_X11_of x1 (0 : Int32) mA M) (V_X11_of x1 (1 : Int32) mA M) (V_X11_of u2 (0 : Int32) mA M) (V_X11_of u2 (1 : Int32) mA M) M) ≤ (V_X11_distance (V_X11_of x1 (0 : Int32) mA M) (V_X11_of x1 (1 : Int32) mA M) (V_X11_of u3 (0 : Int32) mA M) (V_X11_of u3 (1 : Int32) mA M) M) then u2 else u3); (F_X11_nearestFoe_13 x1 mA n v1303_0 (u3 + 1) M)))
def T_X11_nearestFoe_13 (x1 : Int32) (mA : Nat) : Nat → Int32 → Int32 → Mem → Prop
  | 0, u2, u3, M => False
  | n + 1, u2, u3, M => (vp_in (((44 : Int32) + ((16 : Int32) * x1)) + (0 : Int32)) 212) ∧ (vp_in (((44 : Int32) + ((16 : Int32) * x1)) + (1 : Int32)) 212) ∧ (vp_in (((44 : Int32) + ((16 : Int32) * u3)) + (0 : Int32)) 212) ∧ (vp_in (((44 : Int32) + ((16 : Int32) * u3)) + (1 : Int32)) 212) ∧ (vp_in (((44 : Int32) + ((16 : Int32) * u2)) + (0 : Int32)) 212) ∧ (vp_in (((44 : Int32) + ((16 : Int32) * u2)) + (1 : Int32)) 212) ∧ ((let v1301_0 : Int32 := if (5 : Int32) ≤ x1 then (5 : Int32) else (10 : Int32); if v1301_0 ≤ u3 then True else (let v1303_0 : Int32 := if u2 < 0 then u3 else (if (V_X11_distance (V_X11_of x1 (0 : Int32) mA M) (V_X11_of x1 (1 : Int32) mA M) (V_X11_of u2 (0 : Int32) mA M) (V_X11_of u2 (1 : Int32) mA M) M) ≤ (V_X11_distance (V_X11_of x1 (0 : Int32) mA M) (V_X11_of x1 (1 : Int32) mA M) (V_X11_of u3 (0 : Int32) mA M) (V_X11_of u3 (1 : Int32) mA M) M) then u2 else u3); (T_X11_nearestFoe_13 x1 mA n v1303_0 (u3 + 1) M))))
theorem L_X11_nearestFoe_13 {sh : List SC} {Q : Po} {x1 : Int32} {mA : Nat} {oA : Nat}   (hb1 : ModelAt sh mA oA)   : ∀ (n : Nat) (u2 : Int32) (u3 : Int32) (M : Mem), T_X11_nearestFoe_13 x1 mA n u2 u3 M → WP m_X11_nearestFoe Q 105 [some (.ref 242), some (.int x1), some (.int ((F_X11_nearestFoe_13 x1 mA n u2 u3 M).1)), some (.int ((F_X11_nearestFoe_13 x1 mA n u2 u3 M).2)), none] [] sh M 0 0 → WP m_X11_nearestFoe Q 13 [some (.ref 242), some (.int x1), some (.int u2), some (.int u3), none] [] sh M 0 0 := by
  have k0 : kd sh 242 = some (10 + 7, 0) := hb1.1
  intro n
  induction n with
  | zero =>
    intro u2 u3 M hH hq
    exact hH.elim
  | succ n ih =>
    intro u2 u3 M hH hq
    unfold T_X11_nearestFoe_13 at hH
    obtain ⟨g1, g2, g3, g4, g5, g6, hH⟩ := hH
    refine r_iload_n e_X11_nearestFoe_13 rfl ?_
    refine r_iload_n e_X11_nearestFoe_14 rfl ?_
    refine r_iconst e_X11_nearestFoe_15 ic_5 ?_
    obtain ⟨v1301_0, e_v1301_0⟩ : ∃ z : Int32, z = (if (5 : Int32) ≤ x1 then (5 : Int32) else (10 : Int32)) := ⟨_, rfl⟩
    suffices j25_1301 : WP m_X11_nearestFoe Q 25 [some (.ref 242), some (.int x1), some (.int u2), some (.int u3), none] [.int v1301_0, .int u3] sh M 0 0 by
      refine r_icmp_ge e_X11_nearestFoe_16 (fun h16_1301 => ?_) (fun h16_1301 => ?_)
      · refine r_iconst e_X11_nearestFoe_24 ic_5 ?_
        (rw [show v1301_0 = (5 : Int32) from (e_v1301_0.trans (if_pos h16_1301))] at j25_1301; exact j25_1301)
      · refine r_bipush e_X11_nearestFoe_19 bp_10 ?_
        refine r_goto e_X11_nearestFoe_21 ?_
        (rw [show v1301_0 = (10 : Int32) from (e_v1301_0.trans (if_neg h16_1301))] at j25_1301; exact j25_1301)
    refine r_icmp_ge e_X11_nearestFoe_25 (fun h25_1302 => ?_) (fun h25_1302 => ?_)
    · (subst e_v1301_0; simp only [F_X11_nearestFoe_13, if_pos h25_1302] at hq; first | exact hq | (simp only [if_pos h25_1302]; exact hq))
    · refine r_aload_n e_X11_nearestFoe_28 rfl ?_
      refine r_iload_n e_X11_nearestFoe_29 rfl ?_
      refine r_iconst e_X11_nearestFoe_30 ic_0 ?_
      refine cV2v e_X11_nearestFoe_31 cl_X11_252 ⟨Nat.le_of_ble_eq_true rfl, Nat.le_of_ble_eq_true rfl⟩ ⟨rfl, rfl⟩ k0 (Nat.le_of_ble_eq_true rfl) (S_X11_of hb1 g1) ?_
      refine r_aload_n e_X11_nearestFoe_34 rfl ?_
      refine r_iload_n e_X11_nearestFoe_35 rfl ?_
      refine r_iconst e_X11_nearestFoe_36 ic_1 ?_
      refine cV2v e_X11_nearestFoe_37 cl_X11_252 ⟨Nat.le_of_ble_eq_true rfl, Nat.le_of_ble_eq_true rfl⟩ ⟨rfl, rfl⟩ k0 (Nat.le_of_ble_eq_true rfl) (S_X11_of hb1 g2) ?_
      refine r_aload_n e_X11_nearestFoe_40 rfl ?_
      refine r_iload_n e_X11_nearestFoe_41 rfl ?_
      refine r_iconst e_X11_nearestFoe_42 ic_0 ?_
      refine cV2v e_X11_nearestFoe_43 cl_X11_252 ⟨Nat.le_of_ble_eq_true rfl, Nat.le_of_ble_eq_true rfl⟩ ⟨rfl, rfl⟩ k0 (Nat.le_of_ble_eq_true rfl) (S_X11_of hb1 g3) ?_
      refine r_aload_n e_X11_nearestFoe_46 rfl ?_
      refine r_iload_n e_X11_nearestFoe_47 rfl ?_
      refine r_iconst e_X11_nearestFoe_48 ic_1 ?_
      refine cV2v e_X11_nearestFoe_49 cl_X11_252 ⟨Nat.le_of_ble_eq_true rfl, Nat.le_of_ble_eq_true rfl⟩ ⟨rfl, rfl⟩ k0 (Nat.le_of_ble_eq_true rfl) (S_X11_of hb1 g4) ?_
      refine cS4v e_X11_nearestFoe_52 cl_X11_274 ⟨Nat.le_of_ble_eq_true rfl, Nat.le_of_ble_eq_true rfl⟩ ⟨rfl, rfl⟩  (Nat.le_of_ble_eq_true rfl) (S_X11_distance ) ?_
      refine p_istore_5_4 e_X11_nearestFoe_55 rfl rfl ?_
      refine r_iload_n e_X11_nearestFoe_57 rfl ?_
      obtain ⟨v1303_0, e_v1303_0⟩ : ∃ z : Int32, z = (if u2 < 0 then u3 else (if (V_X11_distance (V_X11_of x1 (0 : Int32) mA M) (V_X11_of x1 (1 : Int32) mA M) (V_X11_of u2 (0 : Int32) mA M) (V_X11_of u2 (1 : Int32) mA M) M) ≤ (V_X11_distance (V_X11_of x1 (0 : Int32) mA M) (V_X11_of x1 (1 : Int32) mA M) (V_X11_of u3 (0 : Int32) mA M) (V_X11_of u3 (1 : Int32) mA M) M) then u2 else u3)) := ⟨_, rfl⟩
      suffices j98_1303 : WP m_X11_nearestFoe Q 98 [some (.ref 242), some (.int x1), some (.int u2), some (.int u3), some (.int (V_X11_distance (V_X11_of x1 (0 : Int32) mA M) (V_X11_of x1 (1 : Int32) mA M) (V_X11_of u3 (0 : Int32) mA M) (V_X11_of u3 (1 : Int32) mA M) M))] [.int v1303_0] sh M 0 0 by
        refine r_if_lt e_X11_nearestFoe_58 (fun h58_1303 => ?_) (fun h58_1303 => ?_)
        · refine r_iload_n e_X11_nearestFoe_93 rfl ?_
          refine r_goto e_X11_nearestFoe_94 ?_
          (rw [show v1303_0 = u3 from (e_v1303_0.trans (if_pos h58_1303))] at j98_1303; exact j98_1303)
        · refine r_iload e_X11_nearestFoe_61 rfl ?_
          refine r_aload_n e_X11_nearestFoe_63 rfl ?_
          refine r_iload_n e_X11_nearestFoe_64 rfl ?_
          refine r_iconst e_X11_nearestFoe_65 ic_0 ?_
          refine cV2v e_X11_nearestFoe_66 cl_X11_252 ⟨Nat.le_of_ble_eq_true rfl, Nat.le_of_ble_eq_true rfl⟩ ⟨rfl, rfl⟩ k0 (Nat.le_of_ble_eq_true rfl) (S_X11_of hb1 g1) ?_
          refine r_aload_n e_X11_nearestFoe_69 rfl ?_
          refine r_iload_n e_X11_nearestFoe_70 rfl ?_
          refine r_iconst e_X11_nearestFoe_71 ic_1 ?_
          refine cV2v e_X11_nearestFoe_72 cl_X11_252 ⟨Nat.le_of_ble_eq_true rfl, Nat.le_of_ble_eq_true rfl⟩ ⟨rfl, rfl⟩ k0 (Nat.le_of_ble_eq_true rfl) (S_X11_of hb1 g2) ?_
          refine r_aload_n e_X11_nearestFoe_75 rfl ?_
          refine r_iload_n e_X11_nearestFoe_76 rfl ?_
          refine r_iconst e_X11_nearestFoe_77 ic_0 ?_
          refine cV2v e_X11_nearestFoe_78 cl_X11_252 ⟨Nat.le_of_ble_eq_true rfl, Nat.le_of_ble_eq_true rfl⟩ ⟨rfl, rfl⟩ k0 (Nat.le_of_ble_eq_true rfl) (S_X11_of hb1 g5) ?_
          refine r_aload_n e_X11_nearestFoe_81 rfl ?_
          refine r_iload_n e_X11_nearestFoe_82 rfl ?_
          refine r_iconst e_X11_nearestFoe_83 ic_1 ?_
          refine cV2v e_X11_nearestFoe_84 cl_X11_252 ⟨Nat.le_of_ble_eq_true rfl, Nat.le_of_ble_eq_true rfl⟩ ⟨rfl, rfl⟩ k0 (Nat.le_of_ble_eq_true rfl) (S_X11_of hb1 g6) ?_
          refine cS4v e_X11_nearestFoe_87 cl_X11_274 ⟨Nat.le_of_ble_eq_true rfl, Nat.le_of_ble_eq_true rfl⟩ ⟨rfl, rfl⟩  (Nat.le_of_ble_eq_true rfl) (S_X11_distance ) ?_
          refine r_icmp_ge e_X11_nearestFoe_90 (fun h90_1304 => ?_) (fun h90_1304 => ?_)
          · refine r_iload_n e_X11_nearestFoe_97 rfl ?_
            (rw [show v1303_0 = u2 from ((e_v1303_0.trans (if_neg h58_1303)).trans (if_pos h90_1304))] at j98_1303; exact j98_1303)
          · refine r_iload_n e_X11_nearestFoe_93 rfl ?_
            refine r_goto e_X11_nearestFoe_94 ?_
            (rw [show v1303_0 = u3 from ((e_v1303_0.trans (if_neg h58_1303)).trans (if_neg h90_1304))] at j98_1303; exact j98_1303)
      refine p_istore_n_5_2 e_X11_nearestFoe_98 rfl rfl ?_
      refine p_iinc_5_3 e_X11_nearestFoe_99 rfl ic_1 rfl ?_
      refine r_goto e_X11_nearestFoe_102 ?_
      refine d_5_4 ?_
      (subst e_v1303_0 e_v1301_0; simp only [F_X11_nearestFoe_13, if_neg h25_1302] at hq; (try simp only [if_neg h25_1302] at hH); first | exact ih _ _ _ hH hq | (simp only [if_neg h25_1302]; exact ih _ _ _ hH hq))
def V_X11_nearestFoe (x1 : Int32) (mA : Nat) (M : Mem) : Int32 := (let v0_0 : Int32 := if (5 : Int32) ≤ x1 then (0 : Int32) else (5 : Int32); ((F_X11_nearestFoe_13 x1 mA FUEL (-1 : Int32) v0_0 M).1))
def P_X11_nearestFoe (x1 : Int32) (mA : Nat) (M : Mem) : Prop := (T_X11_nearestFoe_13 x1 mA FUEL (-1 : Int32) (if (5 : Int32) ≤ x1 then (0 : Int32) else (5 : Int32)) M)
theorem S_X11_nearestFoe {sh : List SC} {M : Mem} {x1 : Int32} {mA : Nat} {oA : Nat} (hb1 : ModelAt sh mA oA)  (hP : P_X11_nearestFoe x1 mA M) : Gv m_X11_nearestFoe [.ref 242, .int x1] sh M (.int (V_X11_nearestFoe x1 mA M)) M := by
  refine Sp.of (ls := [some (.ref 242), some (.int x1), none, none, none]) (by decide +kernel) (Nat.le_of_ble_eq_true rfl) rfl ?_
  have g1 : T_X11_nearestFoe_13 x1 mA FUEL (-1 : Int32) (if (5 : Int32) ≤ x1 then (0 : Int32) else (5 : Int32)) M := hP
  refine r_iconst e_X11_nearestFoe_0 ic_m1 ?_
  refine p_istore_n_5_2 e_X11_nearestFoe_1 rfl rfl ?_
  refine r_iload_n e_X11_nearestFoe_2 rfl ?_
  refine r_iconst e_X11_nearestFoe_3 ic_5 ?_
  obtain ⟨v0_0, e_v0_0⟩ : ∃ z : Int32, z = (if (5 : Int32) ≤ x1 then (0 : Int32) else (5 : Int32)) := ⟨_, rfl⟩
  suffices j12_0 : WP m_X11_nearestFoe (fun r sh' M'' => r = some (.int (V_X11_nearestFoe x1 mA M)) ∧ sh' = sh ∧ M'' = M) 12 [some (.ref 242), some (.int x1), some (.int (-1 : Int32)), none, none] [.int v0_0] sh M 0 0 by
    refine r_icmp_ge e_X11_nearestFoe_4 (fun h4_0 => ?_) (fun h4_0 => ?_)
    · refine r_iconst e_X11_nearestFoe_11 ic_0 ?_
      (rw [show v0_0 = (0 : Int32) from (e_v0_0.trans (if_pos h4_0))] at j12_0; exact j12_0)
    · refine r_iconst e_X11_nearestFoe_7 ic_5 ?_
      refine r_goto e_X11_nearestFoe_8 ?_
      (rw [show v0_0 = (5 : Int32) from (e_v0_0.trans (if_neg h4_0))] at j12_0; exact j12_0)
  refine p_istore_n_5_3 e_X11_nearestFoe_12 rfl rfl ?_
  refine L_X11_nearestFoe_13 hb1 FUEL (-1 : Int32) v0_0 M (by subst e_v0_0; exact g1 ) ?_
  refine r_iload_n e_X11_nearestFoe_105 rfl ?_
  refine r_ireturn e_X11_nearestFoe_106 rfl ⟨rfl, rfl⟩ ?_
  (subst e_v0_0; refine ⟨?_, rfl, ?_⟩ <;> ((try unfold V_X11_nearestFoe); (try simp only []); (try rfl)))
def F_X11_crowded_7 (x1 : Int32) (mA : Nat) : Nat → Nat → Int32 → Int32 → Mem → Int32 × Int32
  | 0, i7, u2, u3, M => (u2, u3)
  | n + 1, i7, u2, u3, M => (let v700_0 : Int32 := if x1 = 0 then (V_X11_of (((5 : Int32) * x1) + (nI i7)) (0 : Int32) mA M) else ((14 : Int32) - (V_X11_of (((5 : Int32) * x1) + (nI i7)) (0 : Int32) mA M)); let v701_0 : Int32 := if (2 : Int32) < v700_0 then u2 else (u2 + 1); let v701_1 : Int32 := if (2 : Int32) < v700_0 then u3 else (((5 : Int32) * x1) + (nI i7)); (F_X11_crowded_7 x1 mA n (i7 + 1) v701_0 v701_1 M))
theorem L_X11_crowded_7 {sh : List SC} {Q : Po} {x1 : Int32} {mA : Nat} {oA : Nat}   (hb1 : ModelAt sh mA oA) (g1 : ∀ i7 : Nat, i7 < 5 → vp_in (((44 : Int32) + ((16 : Int32) * (((5 : Int32) * x1) + (nI i7)))) + (0 : Int32)) 212)  : ∀ (n i7 : Nat) (u2 : Int32) (u3 : Int32) (M : Mem), i7 + n = 5 → WP m_X11_crowded Q 60 [some (.ref 242), some (.int x1), some (.int ((F_X11_crowded_7 x1 mA n i7 u2 u3 M).1)), some (.int ((F_X11_crowded_7 x1 mA n i7 u2 u3 M).2)), none, none] [] sh M 0 0 → WP m_X11_crowded Q 7 [some (.ref 242), some (.int x1), some (.int u2), some (.int u3), some (.int (nI i7)), none] [] sh M 0 0 := by
  have k0 : kd sh 242 = some (10 + 7, 0) := hb1.1
  intro n
  induction n with
  | zero =>
    intro i7 u2 u3 M hi hq
    have hz : (5 : Int32) ≤ nI i7 := by
      have q : i7 = 5 := by omega
      rw [q]; exact nI_le (Nat.le_refl _) (by decide)
    refine r_iload e_X11_crowded_7 rfl ?_
    refine r_iconst e_X11_crowded_9 ic_5 ?_
    refine r_icmp_ge e_X11_crowded_10 (fun _ => ?_) (fun hh => absurd hz hh)
    refine d_6_4 ?_
    (simp only [F_X11_crowded_7] at hq; first | exact hq | (simp only []; exact hq))
  | succ n ih =>
    intro i7 u2 u3 M hi hq
    have hlt_i7 : i7 < 5 := by omega
    have hcl_i7 : (nI i7).toNatClampNeg = i7 := nI_clamp (by omega)
    have hs : ¬ (5 : Int32) ≤ nI i7 := nI_ge (b := 5) hlt_i7 (by decide)
    refine r_iload e_X11_crowded_7 rfl ?_
    refine r_iconst e_X11_crowded_9 ic_5 ?_
    refine r_icmp_ge e_X11_crowded_10 (fun hh => absurd hh hs) (fun _ => ?_)
    refine r_aload_n e_X11_crowded_13 rfl ?_
    refine r_iconst e_X11_crowded_14 ic_5 ?_
    refine r_iload_n e_X11_crowded_15 rfl ?_
    refine r_imul e_X11_crowded_16 ?_
    refine r_iload e_X11_crowded_17 rfl ?_
    refine r_iadd e_X11_crowded_19 ?_
    refine r_iconst e_X11_crowded_20 ic_0 ?_
    refine cV2v e_X11_crowded_21 cl_X11_252 ⟨Nat.le_of_ble_eq_true rfl, Nat.le_of_ble_eq_true rfl⟩ ⟨rfl, rfl⟩ k0 (Nat.le_of_ble_eq_true rfl) (S_X11_of hb1 (g1 i7 hlt_i7)) ?_
    refine p_istore_6_5 e_X11_crowded_24 rfl rfl ?_
    refine r_iload_n e_X11_crowded_26 rfl ?_
    obtain ⟨v700_0, e_v700_0⟩ : ∃ z : Int32, z = (if x1 = 0 then (V_X11_of (((5 : Int32) * x1) + (nI i7)) (0 : Int32) mA M) else ((14 : Int32) - (V_X11_of (((5 : Int32) * x1) + (nI i7)) (0 : Int32) mA M))) := ⟨_, rfl⟩
    suffices j40_700 : WP m_X11_crowded Q 40 [some (.ref 242), some (.int x1), some (.int u2), some (.int u3), some (.int (nI i7)), some (.int (V_X11_of (((5 : Int32) * x1) + (nI i7)) (0 : Int32) mA M))] [.int v700_0] sh M 0 0 by
      refine r_if_ne e_X11_crowded_27 (fun h27_700 => ?_) (fun h27_700 => ?_)
      · refine r_bipush e_X11_crowded_35 bp_14 ?_
        refine r_iload e_X11_crowded_37 rfl ?_
        refine r_isub e_X11_crowded_39 ?_
        (rw [show v700_0 = ((14 : Int32) - (V_X11_of (((5 : Int32) * x1) + (nI i7)) (0 : Int32) mA M)) from (e_v700_0.trans (if_neg h27_700))] at j40_700; exact j40_700)
      · refine r_iload e_X11_crowded_30 rfl ?_
        refine r_goto e_X11_crowded_32 ?_
        (rw [show v700_0 = (V_X11_of (((5 : Int32) * x1) + (nI i7)) (0 : Int32) mA M) from (e_v700_0.trans (if_pos h27_700))] at j40_700; exact j40_700)
    refine r_iconst e_X11_crowded_40 ic_2 ?_
    obtain ⟨v701_0, e_v701_0⟩ : ∃ z : Int32, z = (if (2 : Int32) < v700_0 then u2 else (u2 + 1)) := ⟨_, rfl⟩
    obtain ⟨v701_1, e_v701_1⟩ : ∃ z : Int32, z = (if (2 : Int32) < v700_0 then u3 else (((5 : Int32) * x1) + (nI i7))) := ⟨_, rfl⟩
    suffices j54_701 : WP m_X11_crowded Q 54 [some (.ref 242), some (.int x1), some (.int v701_0), some (.int v701_1), some (.int (nI i7)), some (.int (V_X11_of (((5 : Int32) * x1) + (nI i7)) (0 : Int32) mA M))] [] sh M 0 0 by
      refine r_icmp_gt e_X11_crowded_41 (fun h41_701 => ?_) (fun h41_701 => ?_)
      · (rw [show v701_0 = u2 from (e_v701_0.trans (if_pos h41_701)), show v701_1 = u3 from (e_v701_1.trans (if_pos h41_701))] at j54_701; exact j54_701)
      · refine p_iinc_6_2 e_X11_crowded_44 rfl ic_1 rfl ?_
        refine r_iconst e_X11_crowded_47 ic_5 ?_
        refine r_iload_n e_X11_crowded_48 rfl ?_
        refine r_imul e_X11_crowded_49 ?_
        refine r_iload e_X11_crowded_50 rfl ?_
        refine r_iadd e_X11_crowded_52 ?_
        refine p_istore_n_6_3 e_X11_crowded_53 rfl rfl ?_
        (rw [show v701_0 = (u2 + 1) from (e_v701_0.trans (if_neg h41_701)), show v701_1 = (((5 : Int32) * x1) + (nI i7)) from (e_v701_1.trans (if_neg h41_701))] at j54_701; exact j54_701)
    refine p_iinc_6_4 e_X11_crowded_54 rfl ic_1 rfl ?_
    rw [nI_1 i7]
    refine r_goto e_X11_crowded_57 ?_
    refine d_6_5 ?_
    (subst e_v701_1 e_v701_0 e_v700_0; simp only [F_X11_crowded_7] at hq; first | exact ih (i7 + 1) _ _ _ (by omega) hq | (simp only []; exact ih (i7 + 1) _ _ _ (by omega) hq))
def V_X11_crowded (x1 : Int32) (mA : Nat) (M : Mem) : Int32 := (let v0_0 : Int32 := if ((F_X11_crowded_7 x1 mA 5 0 (0 : Int32) (-1 : Int32) M).1) < (4 : Int32) then (-1 : Int32) else ((F_X11_crowded_7 x1 mA 5 0 (0 : Int32) (-1 : Int32) M).2); v0_0)
def P_X11_crowded (x1 : Int32) (mA : Nat) (M : Mem) : Prop := (∀ i7 : Nat, i7 < 5 → vp_in (((44 : Int32) + ((16 : Int32) * (((5 : Int32) * x1) + (nI i7)))) + (0 : Int32)) 212)
theorem S_X11_crowded {sh : List SC} {M : Mem} {x1 : Int32} {mA : Nat} {oA : Nat} (hb1 : ModelAt sh mA oA)  (hP : P_X11_crowded x1 mA M) : Gv m_X11_crowded [.ref 242, .int x1] sh M (.int (V_X11_crowded x1 mA M)) M := by
  refine Sp.of (ls := [some (.ref 242), some (.int x1), none, none, none, none]) (by decide +kernel) (Nat.le_of_ble_eq_true rfl) rfl ?_
  have g1 : ∀ i7 : Nat, i7 < 5 → vp_in (((44 : Int32) + ((16 : Int32) * (((5 : Int32) * x1) + (nI i7)))) + (0 : Int32)) 212 := hP
  refine r_iconst e_X11_crowded_0 ic_0 ?_
  refine p_istore_n_6_2 e_X11_crowded_1 rfl rfl ?_
  refine r_iconst e_X11_crowded_2 ic_m1 ?_
  refine p_istore_n_6_3 e_X11_crowded_3 rfl rfl ?_
  refine r_iconst e_X11_crowded_4 ic_0 ?_
  refine p_istore_6_4 e_X11_crowded_5 rfl rfl ?_
  skip
  show WP m_X11_crowded _ 7 [some (.ref 242), some (.int x1), some (.int (0 : Int32)), some (.int (-1 : Int32)), some (.int (nI 0)), none] [] sh M 0 0
  refine L_X11_crowded_7 hb1 g1 5 0 (0 : Int32) (-1 : Int32) M (by omega) ?_
  refine r_iload_n e_X11_crowded_60 rfl ?_
  refine r_iconst e_X11_crowded_61 ic_4 ?_
  obtain ⟨v0_0, e_v0_0⟩ : ∃ z : Int32, z = (if ((F_X11_crowded_7 x1 mA 5 0 (0 : Int32) (-1 : Int32) M).1) < (4 : Int32) then (-1 : Int32) else ((F_X11_crowded_7 x1 mA 5 0 (0 : Int32) (-1 : Int32) M).2)) := ⟨_, rfl⟩
  suffices j70_0 : WP m_X11_crowded (fun r sh' M'' => r = some (.int (V_X11_crowded x1 mA M)) ∧ sh' = sh ∧ M'' = M) 70 [some (.ref 242), some (.int x1), some (.int ((F_X11_crowded_7 x1 mA 5 0 (0 : Int32) (-1 : Int32) M).1)), some (.int ((F_X11_crowded_7 x1 mA 5 0 (0 : Int32) (-1 : Int32) M).2)), none, none] [.int v0_0] sh M 0 0 by
    refine r_icmp_lt e_X11_crowded_62 (fun h62_0 => ?_) (fun h62_0 => ?_)
    · refine r_iconst e_X11_crowded_69 ic_m1 ?_
      (rw [show v0_0 = (-1 : Int32) from (e_v0_0.trans (if_pos h62_0))] at j70_0; exact j70_0)
    · refine r_iload_n e_X11_crowded_65 rfl ?_
      refine r_goto e_X11_crowded_66 ?_
      (rw [show v0_0 = ((F_X11_crowded_7 x1 mA 5 0 (0 : Int32) (-1 : Int32) M).2) from (e_v0_0.trans (if_neg h62_0))] at j70_0; exact j70_0)
  refine r_ireturn e_X11_crowded_70 rfl ⟨rfl, rfl⟩ ?_
  (subst e_v0_0; refine ⟨?_, rfl, ?_⟩ <;> ((try unfold V_X11_crowded); (try simp only []); (try rfl)))
def V_X11_ballOf (x1 : Nat) (x2 : Int32) (x3 : Int32) (n1 : Nat) (M : Mem) : Int32 := (let v0_0 : Int32 := if 0 ≤ (M.1 x1 (x2 + (16 : Int32)).toNatClampNeg) then (0 : Int32) else (if (M.1 x1 (x2 + (17 : Int32)).toNatClampNeg) ≤ 0 then (0 : Int32) else (1 : Int32)); let v2_0 : Int32 := if (3 : Int32) ≤ x3 then (if v0_0 = 0 then (0 : Int32) else (M.1 x1 ((x2 + (14 : Int32)) + x3).toNatClampNeg)) else (M.1 x1 ((x2 + (14 : Int32)) + x3).toNatClampNeg); v2_0)
def P_X11_ballOf (x1 : Nat) (x2 : Int32) (x3 : Int32) (n1 : Nat) (M : Mem) : Prop := (¬ (0 ≤ (M.1 x1 (x2 + (16 : Int32)).toNatClampNeg)) → vp_in (x2 + (17 : Int32)) n1) ∧ ((3 : Int32) ≤ x3 → ¬ ((if 0 ≤ (M.1 x1 (x2 + (16 : Int32)).toNatClampNeg) then (0 : Int32) else (if (M.1 x1 (x2 + (17 : Int32)).toNatClampNeg) ≤ 0 then (0 : Int32) else (1 : Int32))) = 0) → vp_in ((x2 + (14 : Int32)) + x3) n1) ∧ (¬ ((3 : Int32) ≤ x3) → vp_in ((x2 + (14 : Int32)) + x3) n1)
theorem S_X11_ballOf {sh : List SC} {M : Mem} {x1 : Nat} {x2 : Int32} {x3 : Int32} {n1 : Nat}  (g1 : kd sh x1 = some (0, n1)) (g2 : vp_in (x2 + (16 : Int32)) n1) (hP : P_X11_ballOf x1 x2 x3 n1 M) : Gv m_X11_ballOf [.ref x1, .int x2, .int x3] sh M (.int (V_X11_ballOf x1 x2 x3 n1 M)) M := by
  refine Sp.of (ls := [some (.ref x1), some (.int x2), some (.int x3), none]) (by decide +kernel) (Nat.le_of_ble_eq_true rfl) rfl ?_
  obtain ⟨g3, g4, g5⟩ := hP
  refine r_aload_n e_X11_ballOf_0 rfl ?_
  refine r_iload_n e_X11_ballOf_1 rfl ?_
  refine r_bipush e_X11_ballOf_2 bp_16 ?_
  refine r_iadd e_X11_ballOf_4 ?_
  refine r_iaload e_X11_ballOf_5 g1 g2 ?_
  obtain ⟨v0_0, e_v0_0⟩ : ∃ z : Int32, z = (if 0 ≤ (M.1 x1 (x2 + (16 : Int32)).toNatClampNeg) then (0 : Int32) else (if (M.1 x1 (x2 + (17 : Int32)).toNatClampNeg) ≤ 0 then (0 : Int32) else (1 : Int32))) := ⟨_, rfl⟩
  have z_v0_0 : v0_0 = 0 ∨ v0_0 = 1 := by rw [e_v0_0]; exact (zi (Or.inl rfl) (zi (Or.inl rfl) (Or.inr rfl)))
  suffices j23_0 : WP m_X11_ballOf (fun r sh' M'' => r = some (.int (V_X11_ballOf x1 x2 x3 n1 M)) ∧ sh' = sh ∧ M'' = M) 23 [some (.ref x1), some (.int x2), some (.int x3), none] [.int v0_0] sh M 0 0 by
    refine r_if_ge e_X11_ballOf_6 (fun h6_0 => ?_) (fun h6_0 => ?_)
    · refine r_iconst e_X11_ballOf_22 ic_0 ?_
      (rw [show v0_0 = (0 : Int32) from (e_v0_0.trans (if_pos h6_0))] at j23_0; exact j23_0)
    · refine r_aload_n e_X11_ballOf_9 rfl ?_
      refine r_iload_n e_X11_ballOf_10 rfl ?_
      refine r_bipush e_X11_ballOf_11 bp_17 ?_
      refine r_iadd e_X11_ballOf_13 ?_
      refine r_iaload e_X11_ballOf_14 g1 (g3 h6_0) ?_
      refine r_if_le e_X11_ballOf_15 (fun h15_1 => ?_) (fun h15_1 => ?_)
      · refine r_iconst e_X11_ballOf_22 ic_0 ?_
        (rw [show v0_0 = (0 : Int32) from ((e_v0_0.trans (if_neg h6_0)).trans (if_pos h15_1))] at j23_0; exact j23_0)
      · refine r_iconst e_X11_ballOf_18 ic_1 ?_
        refine r_goto e_X11_ballOf_19 ?_
        (rw [show v0_0 = (1 : Int32) from ((e_v0_0.trans (if_neg h6_0)).trans (if_neg h15_1))] at j23_0; exact j23_0)
  refine p_istore_n_4_3 e_X11_ballOf_23 rfl rfl ?_
  refine r_iload_n e_X11_ballOf_24 rfl ?_
  refine r_iconst e_X11_ballOf_25 ic_3 ?_
  obtain ⟨v2_0, e_v2_0⟩ : ∃ z : Int32, z = (if (3 : Int32) ≤ x3 then (if v0_0 = 0 then (0 : Int32) else (M.1 x1 ((x2 + (14 : Int32)) + x3).toNatClampNeg)) else (M.1 x1 ((x2 + (14 : Int32)) + x3).toNatClampNeg)) := ⟨_, rfl⟩
  suffices j56_2 : WP m_X11_ballOf (fun r sh' M'' => r = some (.int (V_X11_ballOf x1 x2 x3 n1 M)) ∧ sh' = sh ∧ M'' = M) 56 [some (.ref x1), some (.int x2), some (.int x3), some (.int v0_0)] [.int v2_0] sh M 0 0 by
    refine r_icmp_ge e_X11_ballOf_26 (fun h26_2 => ?_) (fun h26_2 => ?_)
    · refine r_iload_n e_X11_ballOf_40 rfl ?_
      refine r_if_eq e_X11_ballOf_41 (fun h41_3 => ?_) (fun h41_3 => ?_)
      · refine r_iconst e_X11_ballOf_55 ic_0 ?_
        (rw [show v2_0 = (0 : Int32) from ((e_v2_0.trans (if_pos h26_2)).trans (if_pos h41_3))] at j56_2; exact j56_2)
      · refine r_aload_n e_X11_ballOf_44 rfl ?_
        refine r_iload_n e_X11_ballOf_45 rfl ?_
        refine r_bipush e_X11_ballOf_46 bp_14 ?_
        refine r_iadd e_X11_ballOf_48 ?_
        refine r_iload_n e_X11_ballOf_49 rfl ?_
        refine r_iadd e_X11_ballOf_50 ?_
        refine r_iaload e_X11_ballOf_51 g1 (by subst e_v0_0; exact g4 h26_2 h41_3) ?_
        refine r_goto e_X11_ballOf_52 ?_
        (rw [show v2_0 = (M.1 x1 ((x2 + (14 : Int32)) + x3).toNatClampNeg) from ((e_v2_0.trans (if_pos h26_2)).trans (if_neg h41_3))] at j56_2; exact j56_2)
    · refine r_aload_n e_X11_ballOf_29 rfl ?_
      refine r_iload_n e_X11_ballOf_30 rfl ?_
      refine r_bipush e_X11_ballOf_31 bp_14 ?_
      refine r_iadd e_X11_ballOf_33 ?_
      refine r_iload_n e_X11_ballOf_34 rfl ?_
      refine r_iadd e_X11_ballOf_35 ?_
      refine r_iaload e_X11_ballOf_36 g1 (g5 h26_2) ?_
      refine r_goto e_X11_ballOf_37 ?_
      (rw [show v2_0 = (M.1 x1 ((x2 + (14 : Int32)) + x3).toNatClampNeg) from (e_v2_0.trans (if_neg h26_2))] at j56_2; exact j56_2)
  refine r_ireturn e_X11_ballOf_56 rfl ⟨rfl, rfl⟩ ?_
  (subst e_v2_0 e_v0_0; refine ⟨?_, rfl, ?_⟩ <;> ((try unfold V_X11_ballOf); (try simp only []); (try rfl)))
def V_X11_robot (x1 : Int32) (x2 : Int32) (mA : Nat) (M : Mem) : Int32 := if (V_X11_isMatch  mA M) = 0 then (V_X11_finding (-1003 : Int32) M) else (if (V_X11_in x1 (0 : Int32) (9 : Int32) M) = 0 then (V_X11_finding (-1001 : Int32) M) else (if (V_X11_in x2 (0 : Int32) (10 : Int32) M) = 0 then (V_X11_finding (-1001 : Int32) M) else (V_X11_of x1 x2 mA M)))
def U_X11_robot (x1 : Int32) (x2 : Int32) (mA : Nat) (M : Mem) : Mem := if (V_X11_isMatch  mA M) = 0 then (U_X11_finding (-1003 : Int32) M) else (if (V_X11_in x1 (0 : Int32) (9 : Int32) M) = 0 then (U_X11_finding (-1001 : Int32) M) else (if (V_X11_in x2 (0 : Int32) (10 : Int32) M) = 0 then (U_X11_finding (-1001 : Int32) M) else M))
def P_X11_robot (x1 : Int32) (x2 : Int32) (mA : Nat) (M : Mem) : Prop := (¬ ((V_X11_isMatch  mA M) = 0) → ¬ ((V_X11_in x1 (0 : Int32) (9 : Int32) M) = 0) → ¬ ((V_X11_in x2 (0 : Int32) (10 : Int32) M) = 0) → vp_in (((44 : Int32) + ((16 : Int32) * x1)) + x2) 212)
theorem S_X11_robot {sh : List SC} {M : Mem} {x1 : Int32} {x2 : Int32} {mA : Nat} {oA : Nat} (hb1 : ModelAt sh mA oA)  (hP : P_X11_robot x1 x2 mA M) : Gv m_X11_robot [.ref 242, .int x1, .int x2] sh M (.int (V_X11_robot x1 x2 mA M)) (U_X11_robot x1 x2 mA M) := by
  refine Sp.of (ls := [some (.ref 242), some (.int x1), some (.int x2)]) (by decide +kernel) (Nat.le_of_ble_eq_true rfl) rfl ?_
  have g1 : ¬ ((V_X11_isMatch  mA M) = 0) → ¬ ((V_X11_in x1 (0 : Int32) (9 : Int32) M) = 0) → ¬ ((V_X11_in x2 (0 : Int32) (10 : Int32) M) = 0) → vp_in (((44 : Int32) + ((16 : Int32) * x1)) + x2) 212 := hP
  have k0 : kd sh 242 = some (10 + 7, 0) := hb1.1
  refine r_aload_n e_X11_robot_0 rfl ?_
  refine cV0v e_X11_robot_1 cl_X11_394 ⟨Nat.le_of_ble_eq_true rfl, Nat.le_of_ble_eq_true rfl⟩ ⟨rfl, rfl⟩ k0 (Nat.le_of_ble_eq_true rfl) (S_X11_isMatch hb1) ?_
  refine r_if_ne e_X11_robot_4 (fun h4_0 => ?_) (fun h4_0 => ?_)
  · refine r_iload_n e_X11_robot_15 rfl ?_
    refine r_iconst e_X11_robot_16 ic_0 ?_
    refine r_bipush e_X11_robot_17 bp_9 ?_
    refine cS3v e_X11_robot_19 cl_X11_245 ⟨Nat.le_of_ble_eq_true rfl, Nat.le_of_ble_eq_true rfl⟩ ⟨rfl, rfl⟩  (Nat.le_of_ble_eq_true rfl) (S_X11_in ) ?_
    refine r_if_eq e_X11_robot_22 (fun h22_1 => ?_) (fun h22_1 => ?_)
    · refine r_aload_n e_X11_robot_35 rfl ?_
      refine r_sipush e_X11_robot_36 sp_m1001 ?_
      refine cV1v e_X11_robot_39 cl_X11_178 ⟨Nat.le_of_ble_eq_true rfl, Nat.le_of_ble_eq_true rfl⟩ ⟨rfl, rfl⟩ k0 (Nat.le_of_ble_eq_true rfl) (S_X11_finding hb1 (by first | decide | (unfold vp_in; decide) | exact Or.inl rfl | exact Or.inr rfl)) ?_
      refine r_ireturn e_X11_robot_42 rfl ⟨rfl, rfl⟩ ?_
      (refine ⟨?_, rfl, ?_⟩ <;> ((try unfold V_X11_robot); (try unfold U_X11_robot); (try simp only [if_neg h4_0, if_pos h22_1]); (try rfl)))
    · refine r_iload_n e_X11_robot_25 rfl ?_
      refine r_iconst e_X11_robot_26 ic_0 ?_
      refine r_bipush e_X11_robot_27 bp_10 ?_
      refine cS3v e_X11_robot_29 cl_X11_245 ⟨Nat.le_of_ble_eq_true rfl, Nat.le_of_ble_eq_true rfl⟩ ⟨rfl, rfl⟩  (Nat.le_of_ble_eq_true rfl) (S_X11_in ) ?_
      refine r_if_ne e_X11_robot_32 (fun h32_2 => ?_) (fun h32_2 => ?_)
      · refine r_aload_n e_X11_robot_43 rfl ?_
        refine r_iload_n e_X11_robot_44 rfl ?_
        refine r_iload_n e_X11_robot_45 rfl ?_
        refine cV2v e_X11_robot_46 cl_X11_252 ⟨Nat.le_of_ble_eq_true rfl, Nat.le_of_ble_eq_true rfl⟩ ⟨rfl, rfl⟩ k0 (Nat.le_of_ble_eq_true rfl) (S_X11_of hb1 (g1 h4_0 h22_1 h32_2)) ?_
        refine r_ireturn e_X11_robot_49 rfl ⟨rfl, rfl⟩ ?_
        (refine ⟨?_, rfl, ?_⟩ <;> ((try unfold V_X11_robot); (try unfold U_X11_robot); (try simp only [if_neg h4_0, if_neg h22_1, if_neg h32_2]); (try rfl)))
      · refine r_aload_n e_X11_robot_35 rfl ?_
        refine r_sipush e_X11_robot_36 sp_m1001 ?_
        refine cV1v e_X11_robot_39 cl_X11_178 ⟨Nat.le_of_ble_eq_true rfl, Nat.le_of_ble_eq_true rfl⟩ ⟨rfl, rfl⟩ k0 (Nat.le_of_ble_eq_true rfl) (S_X11_finding hb1 (by first | decide | (unfold vp_in; decide) | exact Or.inl rfl | exact Or.inr rfl)) ?_
        refine r_ireturn e_X11_robot_42 rfl ⟨rfl, rfl⟩ ?_
        (refine ⟨?_, rfl, ?_⟩ <;> ((try unfold V_X11_robot); (try unfold U_X11_robot); (try simp only [if_neg h4_0, if_neg h22_1, if_pos h32_2]); (try rfl)))
  · refine r_aload_n e_X11_robot_7 rfl ?_
    refine r_sipush e_X11_robot_8 sp_m1003 ?_
    refine cV1v e_X11_robot_11 cl_X11_178 ⟨Nat.le_of_ble_eq_true rfl, Nat.le_of_ble_eq_true rfl⟩ ⟨rfl, rfl⟩ k0 (Nat.le_of_ble_eq_true rfl) (S_X11_finding hb1 (by first | decide | (unfold vp_in; decide) | exact Or.inl rfl | exact Or.inr rfl)) ?_
    refine r_ireturn e_X11_robot_14 rfl ⟨rfl, rfl⟩ ?_
    (refine ⟨?_, rfl, ?_⟩ <;> ((try unfold V_X11_robot); (try unfold U_X11_robot); (try simp only [if_pos h4_0]); (try rfl)))
def V_X11_score (x1 : Int32) (mA : Nat) (M : Mem) : Int32 := if (V_X11_isMatch  mA M) = 0 then (V_X11_finding (-1003 : Int32) M) else (let v1_0 : Int32 := if (V_X11_in x1 (0 : Int32) (8 : Int32) M) = 0 then (V_X11_finding (-1001 : Int32) M) else (M.1 mA ((3 : Int32) + x1).toNatClampNeg); let M1_1 : Mem := if (V_X11_in x1 (0 : Int32) (8 : Int32) M) = 0 then (U_X11_finding (-1001 : Int32) M) else M; v1_0)
def U_X11_score (x1 : Int32) (mA : Nat) (M : Mem) : Mem := if (V_X11_isMatch  mA M) = 0 then (U_X11_finding (-1003 : Int32) M) else (let v1_0 : Int32 := if (V_X11_in x1 (0 : Int32) (8 : Int32) M) = 0 then (V_X11_finding (-1001 : Int32) M) else (M.1 mA ((3 : Int32) + x1).toNatClampNeg); let M1_1 : Mem := if (V_X11_in x1 (0 : Int32) (8 : Int32) M) = 0 then (U_X11_finding (-1001 : Int32) M) else M; M1_1)
def P_X11_score (x1 : Int32) (mA : Nat) (M : Mem) : Prop := (¬ ((V_X11_isMatch  mA M) = 0) → ¬ ((V_X11_in x1 (0 : Int32) (8 : Int32) M) = 0) → vp_in ((3 : Int32) + x1) 212)
theorem S_X11_score {sh : List SC} {M : Mem} {x1 : Int32} {mA : Nat} {oA : Nat} (hb1 : ModelAt sh mA oA)  (hP : P_X11_score x1 mA M) : Gv m_X11_score [.ref 242, .int x1] sh M (.int (V_X11_score x1 mA M)) (U_X11_score x1 mA M) := by
  refine Sp.of (ls := [some (.ref 242), some (.int x1)]) (by decide +kernel) (Nat.le_of_ble_eq_true rfl) rfl ?_
  have g1 : ¬ ((V_X11_isMatch  mA M) = 0) → ¬ ((V_X11_in x1 (0 : Int32) (8 : Int32) M) = 0) → vp_in ((3 : Int32) + x1) 212 := hP
  have k0 : kd sh 242 = some (10 + 7, 0) := hb1.1
  have k1 : rf sh 242 27 = some mA := hb1.2.2.2.2.2.2.2.2.2.2.2.2.2.2.2.2.2.1
  have k2 : kd sh mA = some (0, 212) := hb1.2.2.2.2.2.2.2.2.2.2.2.2.2.2.2.2.2.2.2.2.2.2.2.2.2.2.2.2.2.2.2.2.2.2.2.2.2.2.2.2.2.2.2.2.2.2.2.2.2.2.2.1
  refine r_aload_n e_X11_score_0 rfl ?_
  refine cV0v e_X11_score_1 cl_X11_394 ⟨Nat.le_of_ble_eq_true rfl, Nat.le_of_ble_eq_true rfl⟩ ⟨rfl, rfl⟩ k0 (Nat.le_of_ble_eq_true rfl) (S_X11_isMatch hb1) ?_
  refine r_if_ne e_X11_score_4 (fun h4_0 => ?_) (fun h4_0 => ?_)
  · refine r_iload_n e_X11_score_15 rfl ?_
    refine r_iconst e_X11_score_16 ic_0 ?_
    refine r_bipush e_X11_score_17 bp_8 ?_
    refine cS3v e_X11_score_19 cl_X11_245 ⟨Nat.le_of_ble_eq_true rfl, Nat.le_of_ble_eq_true rfl⟩ ⟨rfl, rfl⟩  (Nat.le_of_ble_eq_true rfl) (S_X11_in ) ?_
    obtain ⟨v1_0, e_v1_0⟩ : ∃ z : Int32, z = (if (V_X11_in x1 (0 : Int32) (8 : Int32) M) = 0 then (V_X11_finding (-1001 : Int32) M) else (M.1 mA ((3 : Int32) + x1).toNatClampNeg)) := ⟨_, rfl⟩
    obtain ⟨M1_1, e_M1_1⟩ : ∃ z : Mem, z = (if (V_X11_in x1 (0 : Int32) (8 : Int32) M) = 0 then (U_X11_finding (-1001 : Int32) M) else M) := ⟨_, rfl⟩
    suffices j43_1 : WP m_X11_score (fun r sh' M'' => r = some (.int (V_X11_score x1 mA M)) ∧ sh' = sh ∧ M'' = (U_X11_score x1 mA M)) 43 [some (.ref 242), some (.int x1)] [.int v1_0] sh M1_1 0 0 by
      refine r_if_eq e_X11_score_22 (fun h22_1 => ?_) (fun h22_1 => ?_)
      · refine r_aload_n e_X11_score_36 rfl ?_
        refine r_sipush e_X11_score_37 sp_m1001 ?_
        refine cV1v e_X11_score_40 cl_X11_178 ⟨Nat.le_of_ble_eq_true rfl, Nat.le_of_ble_eq_true rfl⟩ ⟨rfl, rfl⟩ k0 (Nat.le_of_ble_eq_true rfl) (S_X11_finding hb1 (by first | decide | (unfold vp_in; decide) | exact Or.inl rfl | exact Or.inr rfl)) ?_
        (rw [show v1_0 = (V_X11_finding (-1001 : Int32) M) from (e_v1_0.trans (if_pos h22_1)), show M1_1 = U_X11_finding (-1001 : Int32) M from (e_M1_1.trans (if_pos h22_1))] at j43_1; exact j43_1)
      · refine r_aload_n e_X11_score_25 rfl ?_
        refine r_getR e_X11_score_26 fl_X11_212 k0 k1 ?_
        refine r_iconst e_X11_score_29 ic_3 ?_
        refine r_iload_n e_X11_score_30 rfl ?_
        refine r_iadd e_X11_score_31 ?_
        refine r_iaload e_X11_score_32 k2 (g1 h4_0 h22_1) ?_
        refine r_goto e_X11_score_33 ?_
        (rw [show v1_0 = (M.1 mA ((3 : Int32) + x1).toNatClampNeg) from (e_v1_0.trans (if_neg h22_1)), show M1_1 = M from (e_M1_1.trans (if_neg h22_1))] at j43_1; exact j43_1)
    refine r_ireturn e_X11_score_43 rfl ⟨rfl, rfl⟩ ?_
    (subst e_M1_1 e_v1_0; refine ⟨?_, rfl, ?_⟩ <;> ((try unfold V_X11_score); (try unfold U_X11_score); (try simp only [if_neg h4_0]); (try rfl)))
  · refine r_aload_n e_X11_score_7 rfl ?_
    refine r_sipush e_X11_score_8 sp_m1003 ?_
    refine cV1v e_X11_score_11 cl_X11_178 ⟨Nat.le_of_ble_eq_true rfl, Nat.le_of_ble_eq_true rfl⟩ ⟨rfl, rfl⟩ k0 (Nat.le_of_ble_eq_true rfl) (S_X11_finding hb1 (by first | decide | (unfold vp_in; decide) | exact Or.inl rfl | exact Or.inr rfl)) ?_
    refine r_ireturn e_X11_score_14 rfl ⟨rfl, rfl⟩ ?_
    (refine ⟨?_, rfl, ?_⟩ <;> ((try unfold V_X11_score); (try unfold U_X11_score); (try simp only [if_pos h4_0]); (try rfl)))
def V_X11_goal (x1 : Int32) (mA : Nat) (M : Mem) : Int32 := if (V_X11_isMatch  mA M) = 0 then (V_X11_finding (-1003 : Int32) M) else (let v1_0 : Int32 := if (V_X11_in x1 (0 : Int32) ((M.1 mA 12) - (1 : Int32)) M) = 0 then (V_X11_finding (-1004 : Int32) M) else (M.1 mA ((24 : Int32) + x1).toNatClampNeg); let M1_1 : Mem := if (V_X11_in x1 (0 : Int32) ((M.1 mA 12) - (1 : Int32)) M) = 0 then (U_X11_finding (-1004 : Int32) M) else M; v1_0)
def U_X11_goal (x1 : Int32) (mA : Nat) (M : Mem) : Mem := if (V_X11_isMatch  mA M) = 0 then (U_X11_finding (-1003 : Int32) M) else (let v1_0 : Int32 := if (V_X11_in x1 (0 : Int32) ((M.1 mA 12) - (1 : Int32)) M) = 0 then (V_X11_finding (-1004 : Int32) M) else (M.1 mA ((24 : Int32) + x1).toNatClampNeg); let M1_1 : Mem := if (V_X11_in x1 (0 : Int32) ((M.1 mA 12) - (1 : Int32)) M) = 0 then (U_X11_finding (-1004 : Int32) M) else M; M1_1)
def P_X11_goal (x1 : Int32) (mA : Nat) (M : Mem) : Prop := (¬ ((V_X11_isMatch  mA M) = 0) → ¬ ((V_X11_in x1 (0 : Int32) ((M.1 mA 12) - (1 : Int32)) M) = 0) → vp_in ((24 : Int32) + x1) 212)
theorem S_X11_goal {sh : List SC} {M : Mem} {x1 : Int32} {mA : Nat} {oA : Nat} (hb1 : ModelAt sh mA oA)  (hP : P_X11_goal x1 mA M) : Gv m_X11_goal [.ref 242, .int x1] sh M (.int (V_X11_goal x1 mA M)) (U_X11_goal x1 mA M) := by
  refine Sp.of (ls := [some (.ref 242), some (.int x1)]) (by decide +kernel) (Nat.le_of_ble_eq_true rfl) rfl ?_
  have g1 : ¬ ((V_X11_isMatch  mA M) = 0) → ¬ ((V_X11_in x1 (0 : Int32) ((M.1 mA 12) - (1 : Int32)) M) = 0) → vp_in ((24 : Int32) + x1) 212 := hP
  have k0 : kd sh 242 = some (10 + 7, 0) := hb1.1
  have k1 : rf sh 242 27 = some mA := hb1.2.2.2.2.2.2.2.2.2.2.2.2.2.2.2.2.2.1
  have k2 : kd sh mA = some (0, 212) := hb1.2.2.2.2.2.2.2.2.2.2.2.2.2.2.2.2.2.2.2.2.2.2.2.2.2.2.2.2.2.2.2.2.2.2.2.2.2.2.2.2.2.2.2.2.2.2.2.2.2.2.2.1
  refine r_aload_n e_X11_goal_0 rfl ?_
  refine cV0v e_X11_goal_1 cl_X11_394 ⟨Nat.le_of_ble_eq_true rfl, Nat.le_of_ble_eq_true rfl⟩ ⟨rfl, rfl⟩ k0 (Nat.le_of_ble_eq_true rfl) (S_X11_isMatch hb1) ?_
  refine r_if_ne e_X11_goal_4 (fun h4_0 => ?_) (fun h4_0 => ?_)
  · refine r_iload_n e_X11_goal_15 rfl ?_
    refine r_iconst e_X11_goal_16 ic_0 ?_
    refine r_aload_n e_X11_goal_17 rfl ?_
    refine r_getR e_X11_goal_18 fl_X11_212 k0 k1 ?_
    refine r_bipush e_X11_goal_21 bp_12 ?_
    refine r_ialoade (v := (M.1 mA 12)) e_X11_goal_23 k2 (by unfold vp_in; decide) (show M.1 mA (12 : Int32).toNatClampNeg = M.1 mA 12 by rw [show (12 : Int32).toNatClampNeg = 12 from rfl]) ?_
    refine r_iconst e_X11_goal_24 ic_1 ?_
    refine r_isub e_X11_goal_25 ?_
    refine cS3v e_X11_goal_26 cl_X11_245 ⟨Nat.le_of_ble_eq_true rfl, Nat.le_of_ble_eq_true rfl⟩ ⟨rfl, rfl⟩  (Nat.le_of_ble_eq_true rfl) (S_X11_in ) ?_
    obtain ⟨v1_0, e_v1_0⟩ : ∃ z : Int32, z = (if (V_X11_in x1 (0 : Int32) ((M.1 mA 12) - (1 : Int32)) M) = 0 then (V_X11_finding (-1004 : Int32) M) else (M.1 mA ((24 : Int32) + x1).toNatClampNeg)) := ⟨_, rfl⟩
    obtain ⟨M1_1, e_M1_1⟩ : ∃ z : Mem, z = (if (V_X11_in x1 (0 : Int32) ((M.1 mA 12) - (1 : Int32)) M) = 0 then (U_X11_finding (-1004 : Int32) M) else M) := ⟨_, rfl⟩
    suffices j51_1 : WP m_X11_goal (fun r sh' M'' => r = some (.int (V_X11_goal x1 mA M)) ∧ sh' = sh ∧ M'' = (U_X11_goal x1 mA M)) 51 [some (.ref 242), some (.int x1)] [.int v1_0] sh M1_1 0 0 by
      refine r_if_eq e_X11_goal_29 (fun h29_1 => ?_) (fun h29_1 => ?_)
      · refine r_aload_n e_X11_goal_44 rfl ?_
        refine r_sipush e_X11_goal_45 sp_m1004 ?_
        refine cV1v e_X11_goal_48 cl_X11_178 ⟨Nat.le_of_ble_eq_true rfl, Nat.le_of_ble_eq_true rfl⟩ ⟨rfl, rfl⟩ k0 (Nat.le_of_ble_eq_true rfl) (S_X11_finding hb1 (by first | decide | (unfold vp_in; decide) | exact Or.inl rfl | exact Or.inr rfl)) ?_
        (rw [show v1_0 = (V_X11_finding (-1004 : Int32) M) from (e_v1_0.trans (if_pos h29_1)), show M1_1 = U_X11_finding (-1004 : Int32) M from (e_M1_1.trans (if_pos h29_1))] at j51_1; exact j51_1)
      · refine r_aload_n e_X11_goal_32 rfl ?_
        refine r_getR e_X11_goal_33 fl_X11_212 k0 k1 ?_
        refine r_bipush e_X11_goal_36 bp_24 ?_
        refine r_iload_n e_X11_goal_38 rfl ?_
        refine r_iadd e_X11_goal_39 ?_
        refine r_iaload e_X11_goal_40 k2 (g1 h4_0 h29_1) ?_
        refine r_goto e_X11_goal_41 ?_
        (rw [show v1_0 = (M.1 mA ((24 : Int32) + x1).toNatClampNeg) from (e_v1_0.trans (if_neg h29_1)), show M1_1 = M from (e_M1_1.trans (if_neg h29_1))] at j51_1; exact j51_1)
    refine r_ireturn e_X11_goal_51 rfl ⟨rfl, rfl⟩ ?_
    (subst e_M1_1 e_v1_0; refine ⟨?_, rfl, ?_⟩ <;> ((try unfold V_X11_goal); (try unfold U_X11_goal); (try simp only [if_neg h4_0]); (try rfl)))
  · refine r_aload_n e_X11_goal_7 rfl ?_
    refine r_sipush e_X11_goal_8 sp_m1003 ?_
    refine cV1v e_X11_goal_11 cl_X11_178 ⟨Nat.le_of_ble_eq_true rfl, Nat.le_of_ble_eq_true rfl⟩ ⟨rfl, rfl⟩ k0 (Nat.le_of_ble_eq_true rfl) (S_X11_finding hb1 (by first | decide | (unfold vp_in; decide) | exact Or.inl rfl | exact Or.inr rfl)) ?_
    refine r_ireturn e_X11_goal_14 rfl ⟨rfl, rfl⟩ ?_
    (refine ⟨?_, rfl, ?_⟩ <;> ((try unfold V_X11_goal); (try unfold U_X11_goal); (try simp only [if_pos h4_0]); (try rfl)))
