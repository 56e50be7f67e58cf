def R_X11_see (x1 : Int32) (mA : Nat) (M : Mem) : Option (Mem) := bnd1 (R_X11_of x1 (15 : Int32) mA M) (fun v1 => br1 (if v1 ≤ 0 then (some (.inr ())) else (cd v1 (if (((M.1 mA 3) + (x1 - x1 / (5 : Int32) * (5 : Int32))) - ((M.1 mA 3) + (x1 - x1 / (5 : Int32) * (5 : Int32))) / v1 * v1) = 0 then (some (.inl M)) else (some (.inr ()))))) (fun u7 => bnd1 (R_X11_of x1 (14 : Int32) mA M) (fun v10 => bd1 (if ((M.1 mA 3) - v10) < (M.1 mA 13) then (M.1 mA 13) else ((M.1 mA 3) - v10)) (fun v11 => ck ((204 : Int32) + (v11 - v11 / (4 : Int32) * (4 : Int32))) 212 (bnd1 (R_X11_set x1 (8 : Int32) (M.1 mA ((204 : Int32) + (v11 - v11 / (4 : Int32) * (4 : Int32))).toNatClampNeg) mA M) (fun M13 => ck ((208 : Int32) + (v11 - v11 / (4 : Int32) * (4 : Int32))) 212 (bnd1 (R_X11_set x1 (9 : Int32) (M13.1 mA ((208 : Int32) + (v11 - v11 / (4 : Int32) * (4 : Int32))).toNatClampNeg) mA M13) (fun M15 => some M15))))))))
theorem S_X11_see {sh : List SC} {M : Mem} {x1 : Int32} {mA : Nat} {oA : Nat} {M' : Mem} (hb1 : ModelAt sh mA oA)  (h : R_X11_see x1 mA M = some M') : Gu m_X11_see [.ref 242, .int x1] sh M M' := by
  refine Sp.of (ls := [some (.ref 242), some (.int x1), none, none, none]) (by decide +kernel) (Nat.le_of_ble_eq_true rfl) rfl ?_
  have k0 : kd sh 242 = some (10 + 7, 0) := hb1.1
  have k1 : rf sh 242 27 = some mA := hb1.2.2.2.2.2.2.2.2.2.2.2.2.2.2.2.2.2.1
  have k2 : kd sh mA = some (0, 212) := hb1.2.2.2.2.2.2.2.2.2.2.2.2.2.2.2.2.2.2.2.2.2.2.2.2.2.2.2.2.2.2.2.2.2.2.2.2.2.2.2.2.2.2.2.2.2.2.2.2.2.2.2.1
  unfold R_X11_see at h
  refine r_aload_n e_X11_see_0 rfl ?_
  refine r_iload_n e_X11_see_1 rfl ?_
  refine r_bipush e_X11_see_2 bp_15 ?_
  obtain ⟨v1, w1, h⟩ := bnd1_el h
  refine cV2v e_X11_see_4 cl_X11_252 ⟨Nat.le_of_ble_eq_true rfl, Nat.le_of_ble_eq_true rfl⟩ ⟨rfl, rfl⟩ k0 (Nat.le_of_ble_eq_true rfl) (S_X11_of hb1 w1) ?_
  refine p_istore_n_5_2 e_X11_see_7 rfl rfl ?_
  refine r_aload_n e_X11_see_8 rfl ?_
  refine r_getR e_X11_see_9 fl_X11_212 k0 k1 ?_
  refine r_iconst e_X11_see_12 ic_3 ?_
  refine r_ialoade (v := (M.1 mA 3)) e_X11_see_13 k2 (by unfold vp_in; decide) (show M.1 mA (3 : Int32).toNatClampNeg = M.1 mA 3 by rw [show (3 : Int32).toNatClampNeg = 3 from rfl]) ?_
  refine p_istore_n_5_3 e_X11_see_14 rfl rfl ?_
  refine r_iload_n e_X11_see_15 rfl ?_
  obtain ⟨K7, hK7, hL7, h⟩ := br1_in h
  suffices j7 : ∀ u7, K7 (.inr u7) = some M' → WP m_X11_see _ 30 [some (.ref 242), some (.int x1), none, some (.int (M.1 mA 3)), none] [] sh M 0 0 by
    refine r_if_le e_X11_see_16 (fun c2 => ?_) (fun c2 => ?_)
    · rw [if_pos c2] at h
      refine d_5_2 ?_
      exact j7 _ h
    · rw [if_neg c2] at h
      refine r_iload_n e_X11_see_19 rfl ?_
      refine r_iload_n e_X11_see_20 rfl ?_
      refine r_iconst e_X11_see_21 ic_5 ?_
      refine r_irem e_X11_see_22 (by decide) ?_
      refine r_iadd e_X11_see_23 ?_
      refine r_iload_n e_X11_see_24 rfl ?_
      obtain ⟨b8, h⟩ := cd_elK h
      refine r_irem e_X11_see_25 b8 ?_
      refine r_if_ne e_X11_see_26 (fun c9 => ?_) (fun c9 => ?_)
      · rw [if_neg c9] at h
        refine d_5_2 ?_
        exact j7 _ h
      · rw [if_pos c9] at h
        refine r_return e_X11_see_29 rfl ⟨rfl, rfl⟩ ?_
        have h := (hL7 _).symm.trans h
        obtain rfl := Option.some.inj h; exact ⟨rfl, rfl, rfl⟩
  intro u7 h
  rw [hK7] at h
  refine r_iload_n e_X11_see_30 rfl ?_
  refine r_aload_n e_X11_see_31 rfl ?_
  refine r_iload_n e_X11_see_32 rfl ?_
  refine r_bipush e_X11_see_33 bp_14 ?_
  obtain ⟨v10, w10, h⟩ := bnd1_el h
  refine cV2v e_X11_see_35 cl_X11_252 ⟨Nat.le_of_ble_eq_true rfl, Nat.le_of_ble_eq_true rfl⟩ ⟨rfl, rfl⟩ k0 (Nat.le_of_ble_eq_true rfl) (S_X11_of hb1 w10) ?_
  refine r_isub e_X11_see_38 ?_
  refine r_aload_n e_X11_see_39 rfl ?_
  refine r_getR e_X11_see_40 fl_X11_212 k0 k1 ?_
  refine r_bipush e_X11_see_43 bp_13 ?_
  refine r_ialoade (v := (M.1 mA 13)) e_X11_see_45 k2 (by unfold vp_in; decide) (show M.1 mA (13 : Int32).toNatClampNeg = M.1 mA 13 by rw [show (13 : Int32).toNatClampNeg = 13 from rfl]) ?_
  refine r_mmax e_X11_see_46 cl_X11_261 ⟨Nat.le_of_ble_eq_true rfl, Nat.le_of_ble_eq_true rfl, Nat.zero_le _, Nat.zero_le _⟩ (Nat.le_of_ble_eq_true rfl) ?_
  obtain ⟨v11, e11, h⟩ := bd1_el h
  rw [e11]
  refine p_istore_5_4 e_X11_see_49 rfl rfl ?_
  refine r_aload_n e_X11_see_51 rfl ?_
  refine r_iload_n e_X11_see_52 rfl ?_
  refine r_bipush e_X11_see_53 bp_8 ?_
  refine r_aload_n e_X11_see_55 rfl ?_
  refine r_getR e_X11_see_56 fl_X11_212 k0 k1 ?_
  refine r_sipush e_X11_see_59 sp_204 ?_
  refine r_iload e_X11_see_62 rfl ?_
  refine r_iconst e_X11_see_64 ic_4 ?_
  refine r_irem e_X11_see_65 (by decide) ?_
  refine r_iadd e_X11_see_66 ?_
  obtain ⟨b12, h⟩ := ck_el h
  refine r_iaload e_X11_see_67 k2 b12 ?_
  obtain ⟨M13, w13, h⟩ := bnd1_el h
  refine cV3u e_X11_see_68 cl_X11_282 ⟨Nat.le_of_ble_eq_true rfl, Nat.le_of_ble_eq_true rfl⟩ ⟨rfl, rfl⟩ k0 (Nat.le_of_ble_eq_true rfl) (S_X11_set hb1 w13) ?_
  refine r_aload_n e_X11_see_71 rfl ?_
  refine r_iload_n e_X11_see_72 rfl ?_
  refine r_bipush e_X11_see_73 bp_9 ?_
  refine r_aload_n e_X11_see_75 rfl ?_
  refine r_getR e_X11_see_76 fl_X11_212 k0 k1 ?_
  refine r_sipush e_X11_see_79 sp_208 ?_
  refine r_iload e_X11_see_82 rfl ?_
  refine r_iconst e_X11_see_84 ic_4 ?_
  refine r_irem e_X11_see_85 (by decide) ?_
  refine r_iadd e_X11_see_86 ?_
  obtain ⟨b14, h⟩ := ck_el h
  refine r_iaload e_X11_see_87 k2 b14 ?_
  obtain ⟨M15, w15, h⟩ := bnd1_el h
  refine cV3u e_X11_see_88 cl_X11_282 ⟨Nat.le_of_ble_eq_true rfl, Nat.le_of_ble_eq_true rfl⟩ ⟨rfl, rfl⟩ k0 (Nat.le_of_ble_eq_true rfl) (S_X11_set hb1 w15) ?_
  refine r_return e_X11_see_91 rfl ⟨rfl, rfl⟩ ?_
  obtain rfl := Option.some.inj h; exact ⟨rfl, rfl, rfl⟩
def R_X11_goes (x1 : Int32) (x2 : Int32) (x3 : Int32) (x4 : Int32) (mA : Nat) (M : Mem) : Option (Mem) := bd1 (if (5 : Int32) ≤ (M.1 242 33) then (-1 : Int32) else (1 : Int32)) (fun v2_0 => bnd1 (R_X11_set (M.1 242 33) (10 : Int32) x1 mA M) (fun M3 => ck (M3.1 242 33) 10 (ck (M3.1 242 33) 10 (bd1 (if (1 : Int32) ≤ x4 then (if x4 ≤ (9 : Int32) then x4 else (9 : Int32)) else (1 : Int32)) (fun v7_0 => ck (M3.1 242 33) 10 (some (setI (setI (setI M3 262 (M3.1 242 33).toNatClampNeg (v2_0 * (V_X11_sign x2 M3))) 263 (M3.1 242 33).toNatClampNeg (v2_0 * (V_X11_sign x3 (setI M3 262 (M3.1 242 33).toNatClampNeg (v2_0 * (V_X11_sign x2 M3)))))) 264 (M3.1 242 33).toNatClampNeg v7_0)))))))
theorem S_X11_goes {sh : List SC} {M : Mem} {x1 : Int32} {x2 : Int32} {x3 : Int32} {x4 : Int32} {mA : Nat} {oA : Nat} {M' : Mem} (hb1 : ModelAt sh mA oA)  (h : R_X11_goes x1 x2 x3 x4 mA M = some M') : Gu m_X11_goes [.ref 242, .int x1, .int x2, .int x3, .int x4] sh M M' := by
  refine Sp.of (ls := [some (.ref 242), some (.int x1), some (.int x2), some (.int x3), some (.int x4), none]) (by decide +kernel) (Nat.le_of_ble_eq_true rfl) rfl ?_
  have k0 : kd sh 242 = some (10 + 7, 0) := hb1.1
  have k1 : rf sh 242 38 = some 262 := hb1.2.2.2.2.2.2.2.2.2.2.2.2.2.2.2.2.2.2.2.2.1
  have k2 : kd sh 262 = some (0, 10) := hb1.2.2.2.2.2.2.2.2.2.2.2.2.2.2.2.2.2.2.2.2.2.2.2.2.2.2.2.2.2.2.2.2.2.2.2.2.2.2.2.2.2.2.2.2.1
  have k3 : rf sh 242 39 = some 263 := hb1.2.2.2.2.2.2.2.2.2.2.2.2.2.2.2.2.2.2.2.2.2.1
  have k4 : kd sh 263 = some (0, 10) := hb1.2.2.2.2.2.2.2.2.2.2.2.2.2.2.2.2.2.2.2.2.2.2.2.2.2.2.2.2.2.2.2.2.2.2.2.2.2.2.2.2.2.2.2.2.2.1
  have k5 : rf sh 242 40 = some 264 := hb1.2.2.2.2.2.2.2.2.2.2.2.2.2.2.2.2.2.2.2.2.2.2.1
  have k6 : kd sh 264 = some (0, 10) := hb1.2.2.2.2.2.2.2.2.2.2.2.2.2.2.2.2.2.2.2.2.2.2.2.2.2.2.2.2.2.2.2.2.2.2.2.2.2.2.2.2.2.2.2.2.2.2.1
  unfold R_X11_goes at h
  refine r_aload_n e_X11_goes_0 rfl ?_
  refine r_getI e_X11_goes_1 fl_X11_315 i0 k0 ?_
  refine r_iconst e_X11_goes_4 ic_5 ?_
  obtain ⟨v2_0, q2, h⟩ := bd1_el h
  suffices j2 : WP m_X11_goes _ 13 [some (.ref 242), some (.int x1), some (.int x2), some (.int x3), some (.int x4), none] [.int v2_0] sh M 0 0 by
    refine r_icmp_ge e_X11_goes_5 (fun c1 => ?_) (fun c1 => ?_)
    · rw [if_pos c1] at q2
      refine r_iconst e_X11_goes_12 ic_m1 ?_
      subst q2; exact j2
    · rw [if_neg c1] at q2
      refine r_iconst e_X11_goes_8 ic_1 ?_
      refine r_goto e_X11_goes_9 ?_
      subst q2; exact j2
  refine p_istore_6_5 e_X11_goes_13 rfl rfl ?_
  refine r_aload_n e_X11_goes_15 rfl ?_
  refine r_aload_n e_X11_goes_16 rfl ?_
  refine r_getI e_X11_goes_17 fl_X11_315 i0 k0 ?_
  refine r_bipush e_X11_goes_20 bp_10 ?_
  refine r_iload_n e_X11_goes_22 rfl ?_
  obtain ⟨M3, w3, h⟩ := bnd1_el h
  refine cV3u e_X11_goes_23 cl_X11_282 ⟨Nat.le_of_ble_eq_true rfl, Nat.le_of_ble_eq_true rfl⟩ ⟨rfl, rfl⟩ k0 (Nat.le_of_ble_eq_true rfl) (S_X11_set hb1 w3) ?_
  refine r_aload_n e_X11_goes_26 rfl ?_
  refine r_getR e_X11_goes_27 fl_X11_224 k0 k1 ?_
  refine r_aload_n e_X11_goes_30 rfl ?_
  refine r_getI e_X11_goes_31 fl_X11_315 i0 k0 ?_
  refine r_iload e_X11_goes_34 rfl ?_
  refine r_iload_n e_X11_goes_36 rfl ?_
  refine cS1v e_X11_goes_37 cl_X11_345 ⟨Nat.le_of_ble_eq_true rfl, Nat.le_of_ble_eq_true rfl⟩ ⟨rfl, rfl⟩  (Nat.le_of_ble_eq_true rfl) (S_X11_sign ) ?_
  refine r_imul e_X11_goes_40 ?_
  obtain ⟨b4, h⟩ := ck_el h
  refine r_iastore e_X11_goes_41 k2 b4 ?_
  refine r_aload_n e_X11_goes_42 rfl ?_
  refine r_getR e_X11_goes_43 fl_X11_227 k0 k3 ?_
  refine r_aload_n e_X11_goes_46 rfl ?_
  refine r_getIe e_X11_goes_47 fl_X11_315 i0 k0 (gs_aI (by omega)) ?_
  refine r_iload e_X11_goes_50 rfl ?_
  refine r_iload_n e_X11_goes_52 rfl ?_
  refine cS1v e_X11_goes_53 cl_X11_345 ⟨Nat.le_of_ble_eq_true rfl, Nat.le_of_ble_eq_true rfl⟩ ⟨rfl, rfl⟩  (Nat.le_of_ble_eq_true rfl) (S_X11_sign ) ?_
  refine r_imul e_X11_goes_56 ?_
  obtain ⟨b5, h⟩ := ck_el h
  refine r_iastore e_X11_goes_57 k4 b5 ?_
  refine r_aload_n e_X11_goes_58 rfl ?_
  refine r_getR e_X11_goes_59 fl_X11_230 k0 k5 ?_
  refine r_aload_n e_X11_goes_62 rfl ?_
  refine r_getIe e_X11_goes_63 fl_X11_315 i0 k0 ((gs_aI (by omega)).trans (gs_aI (by omega))) ?_
  refine r_iload e_X11_goes_66 rfl ?_
  refine r_iconst e_X11_goes_68 ic_1 ?_
  obtain ⟨v7_0, q7, h⟩ := bd1_el h
  suffices j7 : WP m_X11_goes _ 90 [none, none, none, none, none, none] [.int v7_0, .int (M3.1 242 33), .ref 264] sh (setI (setI M3 262 (M3.1 242 33).toNatClampNeg (v2_0 * (V_X11_sign x2 M3))) 263 (M3.1 242 33).toNatClampNeg (v2_0 * (V_X11_sign x3 (setI M3 262 (M3.1 242 33).toNatClampNeg (v2_0 * (V_X11_sign x2 M3)))))) 0 0 by
    refine r_icmp_ge e_X11_goes_69 (fun c6 => ?_) (fun c6 => ?_)
    · rw [if_pos c6] at q7
      refine r_iload e_X11_goes_76 rfl ?_
      refine r_bipush e_X11_goes_78 bp_9 ?_
      refine r_icmp_le e_X11_goes_80 (fun c8 => ?_) (fun c8 => ?_)
      · rw [if_pos c8] at q7
        refine r_iload e_X11_goes_88 rfl ?_
        refine d_6_0 ?_
        refine d_6_1 ?_
        refine d_6_2 ?_
        refine d_6_3 ?_
        refine d_6_4 ?_
        refine d_6_5 ?_
        subst q7; exact j7
      · rw [if_neg c8] at q7
        refine r_bipush e_X11_goes_83 bp_9 ?_
        refine r_goto e_X11_goes_85 ?_
        refine d_6_0 ?_
        refine d_6_1 ?_
        refine d_6_2 ?_
        refine d_6_3 ?_
        refine d_6_4 ?_
        refine d_6_5 ?_
        subst q7; exact j7
    · rw [if_neg c6] at q7
      refine r_iconst e_X11_goes_72 ic_1 ?_
      refine r_goto e_X11_goes_73 ?_
      refine d_6_0 ?_
      refine d_6_1 ?_
      refine d_6_2 ?_
      refine d_6_3 ?_
      refine d_6_4 ?_
      refine d_6_5 ?_
      subst q7; exact j7
  obtain ⟨b9, h⟩ := ck_el h
  refine r_iastore e_X11_goes_90 k6 b9 ?_
  refine r_return e_X11_goes_91 rfl ⟨rfl, rfl⟩ ?_
  obtain rfl := Option.some.inj h; exact ⟨rfl, rfl, rfl⟩
def R_X11_here (mA : Nat) (M : Mem) : Option (Int32) := ck ((M.1 242 34) + (M.1 242 35)) 4800 (some (M.1 244 ((M.1 242 34) + (M.1 242 35)).toNatClampNeg))
theorem S_X11_here {sh : List SC} {M : Mem}  {mA : Nat} {oA : Nat} {v' : Int32} (hb1 : ModelAt sh mA oA)  (h : R_X11_here mA M = some v') : Gv m_X11_here [.ref 242] sh M (.int v') M := by
  refine Sp.of (ls := [some (.ref 242)]) (by decide +kernel) (Nat.le_of_ble_eq_true rfl) rfl ?_
  have k0 : kd sh 242 = some (10 + 7, 0) := hb1.1
  have k1 : rf sh 242 9 = some 244 := hb1.2.2.1
  have k2 : kd sh 244 = some (0, 4800) := hb1.2.2.2.2.2.2.2.2.2.2.2.2.2.2.2.2.2.2.2.2.2.2.2.2.2.2.2.2.1
  unfold R_X11_here at h
  refine r_aload_n e_X11_here_0 rfl ?_
  refine r_getR e_X11_here_1 fl_X11_102 k0 k1 ?_
  refine r_aload_n e_X11_here_4 rfl ?_
  refine r_getI e_X11_here_5 fl_X11_309 i0 k0 ?_
  refine r_aload_n e_X11_here_8 rfl ?_
  refine r_getI e_X11_here_9 fl_X11_312 i0 k0 ?_
  refine r_iadd e_X11_here_12 ?_
  obtain ⟨b1, h⟩ := ck_el h
  refine r_iaload e_X11_here_13 k2 b1 ?_
  refine r_ireturn e_X11_here_14 rfl ⟨rfl, rfl⟩ ?_
  obtain rfl := Option.some.inj h; exact ⟨rfl, rfl, rfl⟩
def R_X11_sensor (x1 : Int32) (mA : Nat) (M : Mem) : Option (Int32) := bd1 ((M.1 242 33) / (5 : Int32)) (fun v1 => if x1 = 0 then (bnd1 (R_X11_of (M.1 242 33) (8 : Int32) mA M) (fun v2 => some (V_X11_seenX v2 M))) else (if x1 = 1 then (bnd1 (R_X11_of (M.1 242 33) (9 : Int32) mA M) (fun v3 => some (V_X11_seenY v3 M))) else (if x1 = 2 then (bnd1 (R_X11_of (M.1 242 33) (0 : Int32) mA M) (fun v4 => some (V_X11_seenX v4 M))) else (if x1 = 3 then (bnd1 (R_X11_of (M.1 242 33) (1 : Int32) mA M) (fun v5 => some (V_X11_seenY v5 M))) else (if x1 = 4 then (bd1 (if 0 ≤ (M.1 mA 16) then (if (M.1 mA 16) = (M.1 242 33) then (2 : Int32) else (if ((M.1 mA 16) / (5 : Int32)) = v1 then (1 : Int32) else (-1 : Int32))) else (0 : Int32)) (fun v7_0 => some v7_0)) else (if x1 = 5 then (some (M.1 mA 3)) else (if x1 = 6 then (ck ((4 : Int32) + v1) 212 (ck ((5 : Int32) - v1) 212 (some ((M.1 mA ((4 : Int32) + v1).toNatClampNeg) - (M.1 mA ((5 : Int32) - v1).toNatClampNeg))))) else (bnd1 (R_X11_of (M.1 242 33) (0 : Int32) mA M) (fun v12 => bnd1 (R_X11_of (M.1 242 33) (1 : Int32) mA M) (fun v13 => bnd1 (R_X11_of (M.1 242 33) (8 : Int32) mA M) (fun v14 => bnd1 (R_X11_of (M.1 242 33) (9 : Int32) mA M) (fun v15 => some (V_X11_distance v12 v13 v14 v15 M)))))))))))))
theorem S_X11_sensor {sh : List SC} {M : Mem} {x1 : Int32} {mA : Nat} {oA : Nat} {v' : Int32} (hb1 : ModelAt sh mA oA)  (h : R_X11_sensor x1 mA M = some v') : Gv m_X11_sensor [.ref 242, .int x1] sh M (.int v') M := by
  refine Sp.of (ls := [some (.ref 242), some (.int x1), none, none]) (by decide +kernel) (Nat.le_of_ble_eq_true rfl) rfl ?_
  have k0 : kd sh 242 = some (10 + 7, 0) := hb1.1
  have k1 : rf sh 242 27 = some mA := hb1.2.2.2.2.2.2.2.2.2.2.2.2.2.2.2.2.2.1
  have k2 : kd sh mA = some (0, 212) := hb1.2.2.2.2.2.2.2.2.2.2.2.2.2.2.2.2.2.2.2.2.2.2.2.2.2.2.2.2.2.2.2.2.2.2.2.2.2.2.2.2.2.2.2.2.2.2.2.2.2.2.2.1
  unfold R_X11_sensor at h
  refine r_aload_n e_X11_sensor_0 rfl ?_
  refine r_getR e_X11_sensor_1 fl_X11_212 k0 k1 ?_
  refine r_bipush e_X11_sensor_4 bp_16 ?_
  refine r_ialoade (v := (M.1 mA 16)) e_X11_sensor_6 k2 (by unfold vp_in; decide) (show M.1 mA (16 : Int32).toNatClampNeg = M.1 mA 16 by rw [show (16 : Int32).toNatClampNeg = 16 from rfl]) ?_
  refine p_istore_n_4_2 e_X11_sensor_7 rfl rfl ?_
  refine r_aload_n e_X11_sensor_8 rfl ?_
  refine r_getI e_X11_sensor_9 fl_X11_315 i0 k0 ?_
  refine r_iconst e_X11_sensor_12 ic_5 ?_
  refine r_idiv e_X11_sensor_13 (by decide) ?_
  obtain ⟨v1, e1, h⟩ := bd1_el h
  rw [e1]
  refine p_istore_n_4_3 e_X11_sensor_14 rfl rfl ?_
  refine r_iload_n e_X11_sensor_15 rfl ?_
  by_cases hs16_0 : x1 = 0
  · rw [if_pos hs16_0] at h
    refine r_tabIn (tgt := 60) (off := 44) e_X11_sensor_16 (by rw [hs16_0]; decide) (by rw [hs16_0]; decide) (by rw [hs16_0]; rfl) (by decide) ?_
    refine r_aload_n e_X11_sensor_60 rfl ?_
    refine r_aload_n e_X11_sensor_61 rfl ?_
    refine r_aload_n e_X11_sensor_62 rfl ?_
    refine r_getI e_X11_sensor_63 fl_X11_315 i0 k0 ?_
    refine r_bipush e_X11_sensor_66 bp_8 ?_
    obtain ⟨v2, w2, h⟩ := bnd1_el h
    refine cV2v e_X11_sensor_68 cl_X11_252 ⟨Nat.le_of_ble_eq_true rfl, Nat.le_of_ble_eq_true rfl⟩ ⟨rfl, rfl⟩ k0 (Nat.le_of_ble_eq_true rfl) (S_X11_of hb1 w2) ?_
    refine cV1v e_X11_sensor_71 cl_X11_318 ⟨Nat.le_of_ble_eq_true rfl, Nat.le_of_ble_eq_true rfl⟩ ⟨rfl, rfl⟩ k0 (Nat.le_of_ble_eq_true rfl) (S_X11_seenX hb1) ?_
    refine r_ireturn e_X11_sensor_74 rfl ⟨rfl, rfl⟩ ?_
    obtain rfl := Option.some.inj h; exact ⟨rfl, rfl, rfl⟩
  · rw [if_neg hs16_0] at h
    by_cases hs16_1 : x1 = 1
    · rw [if_pos hs16_1] at h
      refine r_tabIn (tgt := 75) (off := 59) e_X11_sensor_16 (by rw [hs16_1]; decide) (by rw [hs16_1]; decide) (by rw [hs16_1]; rfl) (by decide) ?_
      refine r_aload_n e_X11_sensor_75 rfl ?_
      refine r_aload_n e_X11_sensor_76 rfl ?_
      refine r_aload_n e_X11_sensor_77 rfl ?_
      refine r_getI e_X11_sensor_78 fl_X11_315 i0 k0 ?_
      refine r_bipush e_X11_sensor_81 bp_9 ?_
      obtain ⟨v3, w3, h⟩ := bnd1_el h
      refine cV2v e_X11_sensor_83 cl_X11_252 ⟨Nat.le_of_ble_eq_true rfl, Nat.le_of_ble_eq_true rfl⟩ ⟨rfl, rfl⟩ k0 (Nat.le_of_ble_eq_true rfl) (S_X11_of hb1 w3) ?_
      refine cV1v e_X11_sensor_86 cl_X11_321 ⟨Nat.le_of_ble_eq_true rfl, Nat.le_of_ble_eq_true rfl⟩ ⟨rfl, rfl⟩ k0 (Nat.le_of_ble_eq_true rfl) (S_X11_seenY hb1) ?_
      refine r_ireturn e_X11_sensor_89 rfl ⟨rfl, rfl⟩ ?_
      obtain rfl := Option.some.inj h; exact ⟨rfl, rfl, rfl⟩
    · rw [if_neg hs16_1] at h
      by_cases hs16_2 : x1 = 2
      · rw [if_pos hs16_2] at h
        refine r_tabIn (tgt := 90) (off := 74) e_X11_sensor_16 (by rw [hs16_2]; decide) (by rw [hs16_2]; decide) (by rw [hs16_2]; rfl) (by decide) ?_
        refine r_aload_n e_X11_sensor_90 rfl ?_
        refine r_aload_n e_X11_sensor_91 rfl ?_
        refine r_aload_n e_X11_sensor_92 rfl ?_
        refine r_getI e_X11_sensor_93 fl_X11_315 i0 k0 ?_
        refine r_iconst e_X11_sensor_96 ic_0 ?_
        obtain ⟨v4, w4, h⟩ := bnd1_el h
        refine cV2v e_X11_sensor_97 cl_X11_252 ⟨Nat.le_of_ble_eq_true rfl, Nat.le_of_ble_eq_true rfl⟩ ⟨rfl, rfl⟩ k0 (Nat.le_of_ble_eq_true rfl) (S_X11_of hb1 w4) ?_
        refine cV1v e_X11_sensor_100 cl_X11_318 ⟨Nat.le_of_ble_eq_true rfl, Nat.le_of_ble_eq_true rfl⟩ ⟨rfl, rfl⟩ k0 (Nat.le_of_ble_eq_true rfl) (S_X11_seenX hb1) ?_
        refine r_ireturn e_X11_sensor_103 rfl ⟨rfl, rfl⟩ ?_
        obtain rfl := Option.some.inj h; exact ⟨rfl, rfl, rfl⟩
      · rw [if_neg hs16_2] at h
        by_cases hs16_3 : x1 = 3
        · rw [if_pos hs16_3] at h
          refine r_tabIn (tgt := 104) (off := 88) e_X11_sensor_16 (by rw [hs16_3]; decide) (by rw [hs16_3]; decide) (by rw [hs16_3]; rfl) (by decide) ?_
          refine r_aload_n e_X11_sensor_104 rfl ?_
          refine r_aload_n e_X11_sensor_105 rfl ?_
          refine r_aload_n e_X11_sensor_106 rfl ?_
          refine r_getI e_X11_sensor_107 fl_X11_315 i0 k0 ?_
          refine r_iconst e_X11_sensor_110 ic_1 ?_
          obtain ⟨v5, w5, h⟩ := bnd1_el h
          refine cV2v e_X11_sensor_111 cl_X11_252 ⟨Nat.le_of_ble_eq_true rfl, Nat.le_of_ble_eq_true rfl⟩ ⟨rfl, rfl⟩ k0 (Nat.le_of_ble_eq_true rfl) (S_X11_of hb1 w5) ?_
          refine cV1v e_X11_sensor_114 cl_X11_321 ⟨Nat.le_of_ble_eq_true rfl, Nat.le_of_ble_eq_true rfl⟩ ⟨rfl, rfl⟩ k0 (Nat.le_of_ble_eq_true rfl) (S_X11_seenY hb1) ?_
          refine r_ireturn e_X11_sensor_117 rfl ⟨rfl, rfl⟩ ?_
          obtain rfl := Option.some.inj h; exact ⟨rfl, rfl, rfl⟩
        · rw [if_neg hs16_3] at h
          by_cases hs16_4 : x1 = 4
          · rw [if_pos hs16_4] at h
            refine r_tabIn (tgt := 118) (off := 102) e_X11_sensor_16 (by rw [hs16_4]; decide) (by rw [hs16_4]; decide) (by rw [hs16_4]; rfl) (by decide) ?_
            refine r_iload_n e_X11_sensor_118 rfl ?_
            obtain ⟨v7_0, q7, h⟩ := bd1_el h
            suffices j7 : WP m_X11_sensor _ 150 [none, none, none, none] [.int v7_0] sh M 0 0 by
              refine r_if_ge e_X11_sensor_119 (fun c6 => ?_) (fun c6 => ?_)
              · rw [if_pos c6] at q7
                refine r_iload_n e_X11_sensor_126 rfl ?_
                refine r_aload_n e_X11_sensor_127 rfl ?_
                refine r_getI e_X11_sensor_128 fl_X11_315 i0 k0 ?_
                refine r_icmp_ne e_X11_sensor_131 (fun c8 => ?_) (fun c8 => ?_)
                · rw [if_neg c8] at q7
                  refine r_iload_n e_X11_sensor_138 rfl ?_
                  refine r_iconst e_X11_sensor_139 ic_5 ?_
                  refine r_idiv e_X11_sensor_140 (by decide) ?_
                  refine r_iload_n e_X11_sensor_141 rfl ?_
                  refine r_icmp_ne e_X11_sensor_142 (fun c9 => ?_) (fun c9 => ?_)
                  · rw [if_neg c9] at q7
                    refine r_iconst e_X11_sensor_149 ic_m1 ?_
                    refine d_4_0 ?_
                    refine d_4_1 ?_
                    refine d_4_2 ?_
                    refine d_4_3 ?_
                    subst q7; exact j7
                  · rw [if_pos c9] at q7
                    refine r_iconst e_X11_sensor_145 ic_1 ?_
                    refine r_goto e_X11_sensor_146 ?_
                    refine d_4_0 ?_
                    refine d_4_1 ?_
                    refine d_4_2 ?_
                    refine d_4_3 ?_
                    subst q7; exact j7
                · rw [if_pos c8] at q7
                  refine r_iconst e_X11_sensor_134 ic_2 ?_
                  refine r_goto e_X11_sensor_135 ?_
                  refine d_4_0 ?_
                  refine d_4_1 ?_
                  refine d_4_2 ?_
                  refine d_4_3 ?_
                  subst q7; exact j7
              · rw [if_neg c6] at q7
                refine r_iconst e_X11_sensor_122 ic_0 ?_
                refine r_goto e_X11_sensor_123 ?_
                refine d_4_0 ?_
                refine d_4_1 ?_
                refine d_4_2 ?_
                refine d_4_3 ?_
                subst q7; exact j7
            refine r_ireturn e_X11_sensor_150 rfl ⟨rfl, rfl⟩ ?_
            obtain rfl := Option.some.inj h; exact ⟨rfl, rfl, rfl⟩
          · rw [if_neg hs16_4] at h
            by_cases hs16_5 : x1 = 5
            · rw [if_pos hs16_5] at h
              refine r_tabIn (tgt := 151) (off := 135) e_X11_sensor_16 (by rw [hs16_5]; decide) (by rw [hs16_5]; decide) (by rw [hs16_5]; rfl) (by decide) ?_
              refine r_aload_n e_X11_sensor_151 rfl ?_
              refine r_getR e_X11_sensor_152 fl_X11_212 k0 k1 ?_
              refine r_iconst e_X11_sensor_155 ic_3 ?_
              refine r_ialoade (v := (M.1 mA 3)) e_X11_sensor_156 k2 (by unfold vp_in; decide) (show M.1 mA (3 : Int32).toNatClampNeg = M.1 mA 3 by rw [show (3 : Int32).toNatClampNeg = 3 from rfl]) ?_
              refine r_ireturn e_X11_sensor_157 rfl ⟨rfl, rfl⟩ ?_
              obtain rfl := Option.some.inj h; exact ⟨rfl, rfl, rfl⟩
            · rw [if_neg hs16_5] at h
              by_cases hs16_6 : x1 = 6
              · rw [if_pos hs16_6] at h
                refine r_tabIn (tgt := 158) (off := 142) e_X11_sensor_16 (by rw [hs16_6]; decide) (by rw [hs16_6]; decide) (by rw [hs16_6]; rfl) (by decide) ?_
                refine r_aload_n e_X11_sensor_158 rfl ?_
                refine r_getR e_X11_sensor_159 fl_X11_212 k0 k1 ?_
                refine r_iconst e_X11_sensor_162 ic_4 ?_
                refine r_iload_n e_X11_sensor_163 rfl ?_
                refine r_iadd e_X11_sensor_164 ?_
                obtain ⟨b10, h⟩ := ck_el h
                refine r_iaload e_X11_sensor_165 k2 b10 ?_
                refine r_aload_n e_X11_sensor_166 rfl ?_
                refine r_getR e_X11_sensor_167 fl_X11_212 k0 k1 ?_
                refine r_iconst e_X11_sensor_170 ic_5 ?_
                refine r_iload_n e_X11_sensor_171 rfl ?_
                refine r_isub e_X11_sensor_172 ?_
                obtain ⟨b11, h⟩ := ck_el h
                refine r_iaload e_X11_sensor_173 k2 b11 ?_
                refine r_isub e_X11_sensor_174 ?_
                refine r_ireturn e_X11_sensor_175 rfl ⟨rfl, rfl⟩ ?_
                obtain rfl := Option.some.inj h; exact ⟨rfl, rfl, rfl⟩
              · rw [if_neg hs16_6] at h
                refine r_tabOut (tgt := 176) e_X11_sensor_16 (by have q0 := lv_neT hs16_0 (show (0 : Int32).toInt = 0 from rfl); have q1 := lv_neT hs16_1 (show (1 : Int32).toInt = 1 from rfl); have q2 := lv_neT hs16_2 (show (2 : Int32).toInt = 2 from rfl); have q3 := lv_neT hs16_3 (show (3 : Int32).toInt = 3 from rfl); have q4 := lv_neT hs16_4 (show (4 : Int32).toInt = 4 from rfl); have q5 := lv_neT hs16_5 (show (5 : Int32).toInt = 5 from rfl); have q6 := lv_neT hs16_6 (show (6 : Int32).toInt = 6 from rfl); omega) (by decide) ?_
                refine r_aload_n e_X11_sensor_176 rfl ?_
                refine r_aload_n e_X11_sensor_177 rfl ?_
                refine r_getI e_X11_sensor_178 fl_X11_315 i0 k0 ?_
                refine r_iconst e_X11_sensor_181 ic_0 ?_
                obtain ⟨v12, w12, h⟩ := bnd1_el h
                refine cV2v e_X11_sensor_182 cl_X11_252 ⟨Nat.le_of_ble_eq_true rfl, Nat.le_of_ble_eq_true rfl⟩ ⟨rfl, rfl⟩ k0 (Nat.le_of_ble_eq_true rfl) (S_X11_of hb1 w12) ?_
                refine r_aload_n e_X11_sensor_185 rfl ?_
                refine r_aload_n e_X11_sensor_186 rfl ?_
                refine r_getI e_X11_sensor_187 fl_X11_315 i0 k0 ?_
                refine r_iconst e_X11_sensor_190 ic_1 ?_
                obtain ⟨v13, w13, h⟩ := bnd1_el h
                refine cV2v e_X11_sensor_191 cl_X11_252 ⟨Nat.le_of_ble_eq_true rfl, Nat.le_of_ble_eq_true rfl⟩ ⟨rfl, rfl⟩ k0 (Nat.le_of_ble_eq_true rfl) (S_X11_of hb1 w13) ?_
                refine r_aload_n e_X11_sensor_194 rfl ?_
                refine r_aload_n e_X11_sensor_195 rfl ?_
                refine r_getI e_X11_sensor_196 fl_X11_315 i0 k0 ?_
                refine r_bipush e_X11_sensor_199 bp_8 ?_
                obtain ⟨v14, w14, h⟩ := bnd1_el h
                refine cV2v e_X11_sensor_201 cl_X11_252 ⟨Nat.le_of_ble_eq_true rfl, Nat.le_of_ble_eq_true rfl⟩ ⟨rfl, rfl⟩ k0 (Nat.le_of_ble_eq_true rfl) (S_X11_of hb1 w14) ?_
                refine r_aload_n e_X11_sensor_204 rfl ?_
                refine r_aload_n e_X11_sensor_205 rfl ?_
                refine r_getI e_X11_sensor_206 fl_X11_315 i0 k0 ?_
                refine r_bipush e_X11_sensor_209 bp_9 ?_
                obtain ⟨v15, w15, h⟩ := bnd1_el h
                refine cV2v e_X11_sensor_211 cl_X11_252 ⟨Nat.le_of_ble_eq_true rfl, Nat.le_of_ble_eq_true rfl⟩ ⟨rfl, rfl⟩ k0 (Nat.le_of_ble_eq_true rfl) (S_X11_of hb1 w15) ?_
                refine cS4v e_X11_sensor_214 cl_X11_274 ⟨Nat.le_of_ble_eq_true rfl, Nat.le_of_ble_eq_true rfl⟩ ⟨rfl, rfl⟩  (Nat.le_of_ble_eq_true rfl) (S_X11_distance ) ?_
                refine r_ireturn e_X11_sensor_217 rfl ⟨rfl, rfl⟩ ?_
                obtain rfl := Option.some.inj h; exact ⟨rfl, rfl, rfl⟩
def R_X11_otherRobot (x1 : Int32) (x2 : Int32) (mA : Nat) (M : Mem) : Option (Int32) := bd1 (if (2 : Int32) ≤ x1 then ((1 : Int32) - ((M.1 242 33) / (5 : Int32))) else ((M.1 242 33) / (5 : Int32))) (fun v2_0 => bd1 (((5 : Int32) * v2_0) + x2) (fun v3 => bnd1 (if (x1 - x1 / (2 : Int32) * (2 : Int32)) = 0 then (bnd1 (R_X11_of v3 (0 : Int32) mA M) (fun v8 => (some (V_X11_seenX v8 M)))) else (bnd1 (R_X11_of v3 (1 : Int32) mA M) (fun v7 => (some (V_X11_seenY v7 M))))) (fun v6_0 => some v6_0)))
theorem S_X11_otherRobot {sh : List SC} {M : Mem} {x1 : Int32} {x2 : Int32} {mA : Nat} {oA : Nat} {v' : Int32} (hb1 : ModelAt sh mA oA)  (h : R_X11_otherRobot x1 x2 mA M = some v') : Gv m_X11_otherRobot [.ref 242, .int x1, .int x2] sh M (.int v') M := by
  refine Sp.of (ls := [some (.ref 242), some (.int x1), some (.int x2), none, none]) (by decide +kernel) (Nat.le_of_ble_eq_true rfl) rfl ?_
  have k0 : kd sh 242 = some (10 + 7, 0) := hb1.1
  unfold R_X11_otherRobot at h
  refine r_iload_n e_X11_otherRobot_0 rfl ?_
  refine r_iconst e_X11_otherRobot_1 ic_2 ?_
  obtain ⟨v2_0, q2, h⟩ := bd1_el h
  suffices j2 : WP m_X11_otherRobot _ 22 [some (.ref 242), some (.int x1), some (.int x2), none, none] [.int v2_0] sh M 0 0 by
    refine r_icmp_ge e_X11_otherRobot_2 (fun c1 => ?_) (fun c1 => ?_)
    · rw [if_pos c1] at q2
      refine r_iconst e_X11_otherRobot_14 ic_1 ?_
      refine r_aload_n e_X11_otherRobot_15 rfl ?_
      refine r_getI e_X11_otherRobot_16 fl_X11_315 i0 k0 ?_
      refine r_iconst e_X11_otherRobot_19 ic_5 ?_
      refine r_idiv e_X11_otherRobot_20 (by decide) ?_
      refine r_isub e_X11_otherRobot_21 ?_
      subst q2; exact j2
    · rw [if_neg c1] at q2
      refine r_aload_n e_X11_otherRobot_5 rfl ?_
      refine r_getI e_X11_otherRobot_6 fl_X11_315 i0 k0 ?_
      refine r_iconst e_X11_otherRobot_9 ic_5 ?_
      refine r_idiv e_X11_otherRobot_10 (by decide) ?_
      refine r_goto e_X11_otherRobot_11 ?_
      subst q2; exact j2
  refine p_istore_n_5_3 e_X11_otherRobot_22 rfl rfl ?_
  refine r_iconst e_X11_otherRobot_23 ic_5 ?_
  refine r_iload_n e_X11_otherRobot_24 rfl ?_
  refine r_imul e_X11_otherRobot_25 ?_
  refine r_iload_n e_X11_otherRobot_26 rfl ?_
  refine r_iadd e_X11_otherRobot_27 ?_
  obtain ⟨v3, e3, h⟩ := bd1_el h
  rw [e3]
  refine p_istore_5_4 e_X11_otherRobot_28 rfl rfl ?_
  refine r_iload_n e_X11_otherRobot_30 rfl ?_
  refine r_iconst e_X11_otherRobot_31 ic_2 ?_
  refine r_irem e_X11_otherRobot_32 (by decide) ?_
  obtain ⟨K6, hK6, h⟩ := bnd1_in h
  suffices j6 : ∀ v6_0, K6 v6_0 = some v' → WP m_X11_otherRobot _ 61 [none, none, none, none, none] [.int v6_0] sh M 0 0 by
    refine r_if_ne e_X11_otherRobot_33 (fun c4 => ?_) (fun c4 => ?_)
    · rw [if_neg c4] at h
      refine r_aload_n e_X11_otherRobot_50 rfl ?_
      refine r_aload_n e_X11_otherRobot_51 rfl ?_
      refine r_iload e_X11_otherRobot_52 rfl ?_
      refine r_iconst e_X11_otherRobot_54 ic_1 ?_
      obtain ⟨v7, w7, h⟩ := bnd1_elK h
      refine cV2v e_X11_otherRobot_55 cl_X11_252 ⟨Nat.le_of_ble_eq_true rfl, Nat.le_of_ble_eq_true rfl⟩ ⟨rfl, rfl⟩ k0 (Nat.le_of_ble_eq_true rfl) (S_X11_of hb1 w7) ?_
      refine cV1v e_X11_otherRobot_58 cl_X11_321 ⟨Nat.le_of_ble_eq_true rfl, Nat.le_of_ble_eq_true rfl⟩ ⟨rfl, rfl⟩ k0 (Nat.le_of_ble_eq_true rfl) (S_X11_seenY hb1) ?_
      refine d_5_0 ?_
      refine d_5_1 ?_
      refine d_5_2 ?_
      refine d_5_3 ?_
      refine d_5_4 ?_
      exact j6 _ h
    · rw [if_pos c4] at h
      refine r_aload_n e_X11_otherRobot_36 rfl ?_
      refine r_aload_n e_X11_otherRobot_37 rfl ?_
      refine r_iload e_X11_otherRobot_38 rfl ?_
      refine r_iconst e_X11_otherRobot_40 ic_0 ?_
      obtain ⟨v8, w8, h⟩ := bnd1_elK h
      refine cV2v e_X11_otherRobot_41 cl_X11_252 ⟨Nat.le_of_ble_eq_true rfl, Nat.le_of_ble_eq_true rfl⟩ ⟨rfl, rfl⟩ k0 (Nat.le_of_ble_eq_true rfl) (S_X11_of hb1 w8) ?_
      refine cV1v e_X11_otherRobot_44 cl_X11_318 ⟨Nat.le_of_ble_eq_true rfl, Nat.le_of_ble_eq_true rfl⟩ ⟨rfl, rfl⟩ k0 (Nat.le_of_ble_eq_true rfl) (S_X11_seenX hb1) ?_
      refine r_goto e_X11_otherRobot_47 ?_
      refine d_5_0 ?_
      refine d_5_1 ?_
      refine d_5_2 ?_
      refine d_5_3 ?_
      refine d_5_4 ?_
      exact j6 _ h
  intro v6_0 h
  rw [hK6] at h
  refine r_ireturn e_X11_otherRobot_61 rfl ⟨rfl, rfl⟩ ?_
  obtain rfl := Option.some.inj h; exact ⟨rfl, rfl, rfl⟩
def R_X11_hold (x1 : Int32) (mA : Nat) (M : Mem) : Option (Mem) := bnd1 (R_X11_of x1 (0 : Int32) mA (setI (setI M mA 16 x1) mA 20 (M.1 mA 3))) (fun v1 => bnd1 (R_X11_of x1 (1 : Int32) mA (setI (setI (setI M mA 16 x1) mA 20 (M.1 mA 3)) mA 14 v1)) (fun v2 => bd1 (U_X11_stopBall  mA (setI (setI (setI (setI M mA 16 x1) mA 20 (M.1 mA 3)) mA 14 v1) mA 15 v2)) (fun M3 => some M3)))
theorem S_X11_hold {sh : List SC} {M : Mem} {x1 : Int32} {mA : Nat} {oA : Nat} {M' : Mem} (hb1 : ModelAt sh mA oA)  (h : R_X11_hold x1 mA M = some M') : Gu m_X11_hold [.ref 242, .int x1] sh M M' := by
  refine Sp.of (ls := [some (.ref 242), some (.int x1)]) (by decide +kernel) (Nat.le_of_ble_eq_true rfl) rfl ?_
  have k0 : kd sh 242 = some (10 + 7, 0) := hb1.1
  have k1 : rf sh 242 27 = some mA := hb1.2.2.2.2.2.2.2.2.2.2.2.2.2.2.2.2.2.1
  have k2 : kd sh mA = some (0, 212) := hb1.2.2.2.2.2.2.2.2.2.2.2.2.2.2.2.2.2.2.2.2.2.2.2.2.2.2.2.2.2.2.2.2.2.2.2.2.2.2.2.2.2.2.2.2.2.2.2.2.2.2.2.1
  unfold R_X11_hold at h
  refine r_aload_n e_X11_hold_0 rfl ?_
  refine r_getR e_X11_hold_1 fl_X11_212 k0 k1 ?_
  refine r_bipush e_X11_hold_4 bp_16 ?_
  refine r_iload_n e_X11_hold_6 rfl ?_
  refine r_iastore e_X11_hold_7 k2 (by unfold vp_in; decide) ?_
  rw [show (16 : Int32).toNatClampNeg = 16 from rfl]
  refine r_aload_n e_X11_hold_8 rfl ?_
  refine r_getR e_X11_hold_9 fl_X11_212 k0 k1 ?_
  refine r_bipush e_X11_hold_12 bp_20 ?_
  refine r_aload_n e_X11_hold_14 rfl ?_
  refine r_getR e_X11_hold_15 fl_X11_212 k0 k1 ?_
  refine r_iconst e_X11_hold_18 ic_3 ?_
  refine r_ialoade (v := (M.1 mA 3)) e_X11_hold_19 k2 (by unfold vp_in; decide) ((show (setI M mA 16 x1).1 mA (3 : Int32).toNatClampNeg = (setI M mA 16 x1).1 mA 3 by rw [show (3 : Int32).toNatClampNeg = 3 from rfl]).trans (gs_nI (by decide))) ?_
  refine r_iastore e_X11_hold_20 k2 (by unfold vp_in; decide) ?_
  rw [show (20 : Int32).toNatClampNeg = 20 from rfl]
  refine r_aload_n e_X11_hold_21 rfl ?_
  refine r_getR e_X11_hold_22 fl_X11_212 k0 k1 ?_
  refine r_bipush e_X11_hold_25 bp_14 ?_
  refine r_aload_n e_X11_hold_27 rfl ?_
  refine r_iload_n e_X11_hold_28 rfl ?_
  refine r_iconst e_X11_hold_29 ic_0 ?_
  obtain ⟨v1, w1, h⟩ := bnd1_el h
  refine cV2v e_X11_hold_30 cl_X11_252 ⟨Nat.le_of_ble_eq_true rfl, Nat.le_of_ble_eq_true rfl⟩ ⟨rfl, rfl⟩ k0 (Nat.le_of_ble_eq_true rfl) (S_X11_of hb1 w1) ?_
  refine r_iastore e_X11_hold_33 k2 (by unfold vp_in; decide) ?_
  rw [show (14 : Int32).toNatClampNeg = 14 from rfl]
  refine r_aload_n e_X11_hold_34 rfl ?_
  refine r_getR e_X11_hold_35 fl_X11_212 k0 k1 ?_
  refine r_bipush e_X11_hold_38 bp_15 ?_
  refine r_aload_n e_X11_hold_40 rfl ?_
  refine r_iload_n e_X11_hold_41 rfl ?_
  refine r_iconst e_X11_hold_42 ic_1 ?_
  obtain ⟨v2, w2, h⟩ := bnd1_el h
  refine cV2v e_X11_hold_43 cl_X11_252 ⟨Nat.le_of_ble_eq_true rfl, Nat.le_of_ble_eq_true rfl⟩ ⟨rfl, rfl⟩ k0 (Nat.le_of_ble_eq_true rfl) (S_X11_of hb1 w2) ?_
  refine r_iastore e_X11_hold_46 k2 (by unfold vp_in; decide) ?_
  rw [show (15 : Int32).toNatClampNeg = 15 from rfl]
  refine r_aload_n e_X11_hold_47 rfl ?_
  refine cV0u e_X11_hold_48 cl_X11_285 ⟨Nat.le_of_ble_eq_true rfl, Nat.le_of_ble_eq_true rfl⟩ ⟨rfl, rfl⟩ k0 (Nat.le_of_ble_eq_true rfl) (S_X11_stopBall hb1) ?_
  obtain ⟨M3, e3, h⟩ := bd1_el h
  rw [e3]
  refine r_return e_X11_hold_51 rfl ⟨rfl, rfl⟩ ?_
  obtain rfl := Option.some.inj h; exact ⟨rfl, rfl, rfl⟩
def L_X11_roll_2 (mA : Nat) : Nat → Nat → Mem → Option ((Int32 × Mem) ⊕ (Mem))
  | 0, i2, M => some (.inr M)
  | n + 1, i2, M => if 0 ≤ (M.1 mA 16) then (some (.inr M)) else (if (M.1 mA 17) ≤ 0 then (some (.inr M)) else (bd1 ((M.1 mA 14) + (M.1 mA 18)) (fun v21 => bd1 ((M.1 mA 15) + (M.1 mA 19)) (fun v22 => bd1 (if (V_X11_in v21 (0 : Int32) (14 : Int32) (setI M mA 17 ((M.1 mA 17) - (1 : Int32)))) = 0 then (1 : Int32) else (0 : Int32)) (fun v24_0 => bd1 (if (V_X11_in v22 (0 : Int32) (8 : Int32) (setI M mA 17 ((M.1 mA 17) - (1 : Int32)))) = 0 then (1 : Int32) else (0 : Int32)) (fun v26_0 => bs1 (if v24_0 = 0 then (some (.inr ())) else (if (V_X11_in v22 (3 : Int32) (5 : Int32) (setI M mA 17 ((M.1 mA 17) - (1 : Int32)))) = 0 then (some (.inr ())) else (if 0 ≤ v21 then (some (.inl ((1 : Int32), setI M mA 17 ((M.1 mA 17) - (1 : Int32))))) else (some (.inl ((0 : Int32), setI M mA 17 ((M.1 mA 17) - (1 : Int32)))))))) (fun u34 => bnd1 (if v24_0 = 0 then (if v26_0 = 0 then (bnd1 (R_X11_robotAt v21 v22 (-1 : Int32) mA (setI (setI (setI M mA 17 ((M.1 mA 17) - (1 : Int32))) mA 14 v21) mA 15 v22)) (fun v50 => if v50 < 0 then (some (setI (setI (setI M mA 17 ((M.1 mA 17) - (1 : Int32))) mA 14 v21) mA 15 v22)) else (bnd1 (R_X11_hold v50 mA (setI (setI (setI M mA 17 ((M.1 mA 17) - (1 : Int32))) mA 14 v21) mA 15 v22)) (fun M52 => (some M52))))) else (bd1 (if v24_0 = 0 then (M.1 mA 18) else (-(M.1 mA 18))) (fun v54_0 => bd1 (if v26_0 = 0 then (M.1 mA 19) else (-(M.1 mA 19))) (fun v56_0 => (some (setI (setI (setI M mA 17 ((M.1 mA 17) - (1 : Int32))) mA 18 v54_0) mA 19 v56_0)))))) else (bd1 (if v24_0 = 0 then (M.1 mA 18) else (-(M.1 mA 18))) (fun v46_0 => bd1 (if v26_0 = 0 then (M.1 mA 19) else (-(M.1 mA 19))) (fun v48_0 => (some (setI (setI (setI M mA 17 ((M.1 mA 17) - (1 : Int32))) mA 18 v46_0) mA 19 v48_0)))))) (fun M44 => L_X11_roll_2 mA n (i2 + 1) M44))))))))
theorem LW_X11_roll_2 {sh : List SC} {Q : Po}  {mA : Nat} {oA : Nat}  (hb1 : ModelAt sh mA oA)  : ∀ (n i2 : Nat) (M : Mem) (q : (Int32 × Mem) ⊕ (Mem)), i2 + n = 3 → L_X11_roll_2 mA n i2 M = some q → (∀ x, q = .inl x → Q (some (.int x.1)) sh x.2) → (∀ Mz, q = .inr Mz → WP m_X11_roll Q 243 [none, none, none, none, none, none, none] [] sh Mz 0 0) → WP m_X11_roll Q 2 [some (.ref 242), some (.int (nI i2)), none, none, none, none, none] [] sh M 0 0 := by
  intro n
  induction n with
  | zero =>
    intro i2 M q hi h hR hE
    rw [L_X11_roll_2] at h
    have hz : (3 : Int32) ≤ nI i2 := by
      have q : i2 = 3 := by omega
      rw [q]; exact nI_le (Nat.le_refl _) (by decide)
    refine r_iload_n e_X11_roll_2 rfl ?_
    refine r_iconst e_X11_roll_3 ic_3 ?_
    refine r_icmp_ge e_X11_roll_4 (fun _ => ?_) (fun hh => absurd hz hh)
    refine d_7_0 ?_
    refine d_7_1 ?_
    exact hE _ (Option.some.inj h).symm
  | succ n ih =>
    intro i2 M q hi h hR hE
    rw [L_X11_roll_2] at h
    have hlt_i2 : i2 < 3 := by omega
    have hcl_i2 : (nI i2).toNatClampNeg = i2 := nI_clamp (by omega)
    have hs : ¬ (3 : Int32) ≤ nI i2 := nI_ge (b := 3) hlt_i2 (by decide)
    have k0 : kd sh 242 = some (10 + 7, 0) := hb1.1
    have k1 : rf sh 242 27 = some mA := hb1.2.2.2.2.2.2.2.2.2.2.2.2.2.2.2.2.2.1
    have k2 : kd sh mA = some (0, 212) := hb1.2.2.2.2.2.2.2.2.2.2.2.2.2.2.2.2.2.2.2.2.2.2.2.2.2.2.2.2.2.2.2.2.2.2.2.2.2.2.2.2.2.2.2.2.2.2.2.2.2.2.2.1
    refine r_iload_n e_X11_roll_2 rfl ?_
    refine r_iconst e_X11_roll_3 ic_3 ?_
    refine r_icmp_ge e_X11_roll_4 (fun hh => absurd hh hs) (fun _ => ?_)
    refine r_aload_n e_X11_roll_7 rfl ?_
    refine r_getR e_X11_roll_8 fl_X11_212 k0 k1 ?_
    refine r_bipush e_X11_roll_11 bp_16 ?_
    refine r_ialoade (v := (M.1 mA 16)) e_X11_roll_13 k2 (by unfold vp_in; decide) (show M.1 mA (16 : Int32).toNatClampNeg = M.1 mA 16 by rw [show (16 : Int32).toNatClampNeg = 16 from rfl]) ?_
    refine r_if_ge e_X11_roll_14 (fun c19 => ?_) (fun c19 => ?_)
    · rw [if_pos c19] at h
      refine d_7_0 ?_
      refine d_7_1 ?_
      exact hE _ (Option.some.inj h).symm
    · rw [if_neg c19] at h
      refine r_aload_n e_X11_roll_17 rfl ?_
      refine r_getR e_X11_roll_18 fl_X11_212 k0 k1 ?_
      refine r_bipush e_X11_roll_21 bp_17 ?_
      refine r_ialoade (v := (M.1 mA 17)) e_X11_roll_23 k2 (by unfold vp_in; decide) (show M.1 mA (17 : Int32).toNatClampNeg = M.1 mA 17 by rw [show (17 : Int32).toNatClampNeg = 17 from rfl]) ?_
      refine r_if_le e_X11_roll_24 (fun c20 => ?_) (fun c20 => ?_)
      · rw [if_pos c20] at h
        refine d_7_0 ?_
        refine d_7_1 ?_
        exact hE _ (Option.some.inj h).symm
      · rw [if_neg c20] at h
        refine r_aload_n e_X11_roll_27 rfl ?_
        refine r_getR e_X11_roll_28 fl_X11_212 k0 k1 ?_
        refine r_bipush e_X11_roll_31 bp_17 ?_
        refine r_dup2 e_X11_roll_33 rfl rfl ?_
        refine r_ialoade (v := (M.1 mA 17)) e_X11_roll_34 k2 (by unfold vp_in; decide) (show M.1 mA (17 : Int32).toNatClampNeg = M.1 mA 17 by rw [show (17 : Int32).toNatClampNeg = 17 from rfl]) ?_
        refine r_iconst e_X11_roll_35 ic_1 ?_
        refine r_isub e_X11_roll_36 ?_
        refine r_iastore e_X11_roll_37 k2 (by unfold vp_in; decide) ?_
        rw [show (17 : Int32).toNatClampNeg = 17 from rfl]
        refine r_aload_n e_X11_roll_38 rfl ?_
        refine r_getR e_X11_roll_39 fl_X11_212 k0 k1 ?_
        refine r_bipush e_X11_roll_42 bp_14 ?_
        refine r_ialoade (v := (M.1 mA 14)) e_X11_roll_44 k2 (by unfold vp_in; decide) ((show (setI M mA 17 ((M.1 mA 17) - (1 : Int32))).1 mA (14 : Int32).toNatClampNeg = (setI M mA 17 ((M.1 mA 17) - (1 : Int32))).1 mA 14 by rw [show (14 : Int32).toNatClampNeg = 14 from rfl]).trans (gs_nI (by decide))) ?_
        refine r_aload_n e_X11_roll_45 rfl ?_
        refine r_getR e_X11_roll_46 fl_X11_212 k0 k1 ?_
        refine r_bipush e_X11_roll_49 bp_18 ?_
        refine r_ialoade (v := (M.1 mA 18)) e_X11_roll_51 k2 (by unfold vp_in; decide) ((show (setI M mA 17 ((M.1 mA 17) - (1 : Int32))).1 mA (18 : Int32).toNatClampNeg = (setI M mA 17 ((M.1 mA 17) - (1 : Int32))).1 mA 18 by rw [show (18 : Int32).toNatClampNeg = 18 from rfl]).trans (gs_nI (by decide))) ?_
        refine r_iadd e_X11_roll_52 ?_
        obtain ⟨v21, e21, h⟩ := bd1_el h
        rw [e21]
        refine p_istore_n_7_2 e_X11_roll_53 rfl rfl ?_
        refine r_aload_n e_X11_roll_54 rfl ?_
        refine r_getR e_X11_roll_55 fl_X11_212 k0 k1 ?_
        refine r_bipush e_X11_roll_58 bp_15 ?_
        refine r_ialoade (v := (M.1 mA 15)) e_X11_roll_60 k2 (by unfold vp_in; decide) ((show (setI M mA 17 ((M.1 mA 17) - (1 : Int32))).1 mA (15 : Int32).toNatClampNeg = (setI M mA 17 ((M.1 mA 17) - (1 : Int32))).1 mA 15 by rw [show (15 : Int32).toNatClampNeg = 15 from rfl]).trans (gs_nI (by decide))) ?_
        refine r_aload_n e_X11_roll_61 rfl ?_
        refine r_getR e_X11_roll_62 fl_X11_212 k0 k1 ?_
        refine r_bipush e_X11_roll_65 bp_19 ?_
        refine r_ialoade (v := (M.1 mA 19)) e_X11_roll_67 k2 (by unfold vp_in; decide) ((show (setI M mA 17 ((M.1 mA 17) - (1 : Int32))).1 mA (19 : Int32).toNatClampNeg = (setI M mA 17 ((M.1 mA 17) - (1 : Int32))).1 mA 19 by rw [show (19 : Int32).toNatClampNeg = 19 from rfl]).trans (gs_nI (by decide))) ?_
        refine r_iadd e_X11_roll_68 ?_
        obtain ⟨v22, e22, h⟩ := bd1_el h
        rw [e22]
        refine p_istore_n_7_3 e_X11_roll_69 rfl rfl ?_
        refine r_iload_n e_X11_roll_70 rfl ?_
        refine r_iconst e_X11_roll_71 ic_0 ?_
        refine r_bipush e_X11_roll_72 bp_14 ?_
        refine cS3v e_X11_roll_74 cl_X11_245 ⟨Nat.le_of_ble_eq_true rfl, Nat.le_of_ble_eq_true rfl⟩ ⟨rfl, rfl⟩  (Nat.le_of_ble_eq_true rfl) (S_X11_in ) ?_
        obtain ⟨v24_0, q24, h⟩ := bd1_el h
        suffices j24 : WP m_X11_roll _ 85 [some (.ref 242), some (.int (nI i2)), some (.int v21), some (.int v22), none, none, none] [.int v24_0] sh (setI M mA 17 ((M.1 mA 17) - (1 : Int32))) 0 0 by
          refine r_if_ne e_X11_roll_77 (fun c23 => ?_) (fun c23 => ?_)
          · rw [if_neg c23] at q24
            refine r_iconst e_X11_roll_84 ic_0 ?_
            subst q24; exact j24
          · rw [if_pos c23] at q24
            refine r_iconst e_X11_roll_80 ic_1 ?_
            refine r_goto e_X11_roll_81 ?_
            subst q24; exact j24
        refine p_istore_7_4 e_X11_roll_85 rfl rfl ?_
        refine r_iload_n e_X11_roll_87 rfl ?_
        refine r_iconst e_X11_roll_88 ic_0 ?_
        refine r_bipush e_X11_roll_89 bp_8 ?_
        refine cS3v e_X11_roll_91 cl_X11_245 ⟨Nat.le_of_ble_eq_true rfl, Nat.le_of_ble_eq_true rfl⟩ ⟨rfl, rfl⟩  (Nat.le_of_ble_eq_true rfl) (S_X11_in ) ?_
        obtain ⟨v26_0, q26, h⟩ := bd1_el h
        suffices j26 : WP m_X11_roll _ 102 [some (.ref 242), some (.int (nI i2)), some (.int v21), some (.int v22), some (.int v24_0), none, none] [.int v26_0] sh (setI M mA 17 ((M.1 mA 17) - (1 : Int32))) 0 0 by
          refine r_if_ne e_X11_roll_94 (fun c25 => ?_) (fun c25 => ?_)
          · rw [if_neg c25] at q26
            refine r_iconst e_X11_roll_101 ic_0 ?_
            subst q26; exact j26
          · rw [if_pos c25] at q26
            refine r_iconst e_X11_roll_97 ic_1 ?_
            refine r_goto e_X11_roll_98 ?_
            subst q26; exact j26
        refine p_istore_7_5 e_X11_roll_102 rfl rfl ?_
        refine r_iload e_X11_roll_104 rfl ?_
        obtain ⟨K34, hK34, hL34, h⟩ := bs1_in h
        suffices j34 : ∀ u34, K34 (.inr u34) = some q → WP m_X11_roll _ 128 [some (.ref 242), some (.int (nI i2)), some (.int v21), some (.int v22), some (.int v24_0), some (.int v26_0), none] [] sh (setI M mA 17 ((M.1 mA 17) - (1 : Int32))) 0 0 by
          refine r_if_eq e_X11_roll_106 (fun c27 => ?_) (fun c27 => ?_)
          · rw [if_pos c27] at h
            exact j34 _ h
          · rw [if_neg c27] at h
            refine r_iload_n e_X11_roll_109 rfl ?_
            refine r_iconst e_X11_roll_110 ic_3 ?_
            refine r_iconst e_X11_roll_111 ic_5 ?_
            refine cS3v e_X11_roll_112 cl_X11_245 ⟨Nat.le_of_ble_eq_true rfl, Nat.le_of_ble_eq_true rfl⟩ ⟨rfl, rfl⟩  (Nat.le_of_ble_eq_true rfl) (S_X11_in ) ?_
            refine r_if_eq e_X11_roll_115 (fun c35 => ?_) (fun c35 => ?_)
            · rw [if_pos c35] at h
              exact j34 _ h
            · rw [if_neg c35] at h
              refine r_iload_n e_X11_roll_118 rfl ?_
              refine r_if_ge e_X11_roll_119 (fun c36 => ?_) (fun c36 => ?_)
              · rw [if_pos c36] at h
                refine r_iconst e_X11_roll_126 ic_1 ?_
                refine r_ireturn e_X11_roll_127 rfl ⟨rfl, rfl⟩ ?_
                have h := (hL34 _).symm.trans h
                exact hR _ (Option.some.inj h).symm
              · rw [if_neg c36] at h
                refine r_iconst e_X11_roll_122 ic_0 ?_
                refine r_goto e_X11_roll_123 ?_
                refine r_ireturn e_X11_roll_127 rfl ⟨rfl, rfl⟩ ?_
                have h := (hL34 _).symm.trans h
                exact hR _ (Option.some.inj h).symm
        intro u34 h
        rw [hK34] at h
        refine r_iload e_X11_roll_128 rfl ?_
        obtain ⟨K44, hK44, h⟩ := bnd1_in h
        suffices j44 : ∀ M44, K44 M44 = some q → WP m_X11_roll _ 237 [some (.ref 242), some (.int (nI i2)), none, none, none, none, none] [] sh M44 0 0 by
          refine r_if_ne e_X11_roll_130 (fun c37 => ?_) (fun c37 => ?_)
          · rw [if_neg c37] at h
            refine r_aload_n e_X11_roll_138 rfl ?_
            refine r_getR e_X11_roll_139 fl_X11_212 k0 k1 ?_
            refine r_bipush e_X11_roll_142 bp_18 ?_
            refine r_iload e_X11_roll_144 rfl ?_
            obtain ⟨v46_0, q46, h⟩ := bd1_elK h
            suffices j46 : WP m_X11_roll _ 167 [some (.ref 242), some (.int (nI i2)), none, none, none, some (.int v26_0), none] [.int v46_0, .int (18 : Int32), .ref mA] sh (setI M mA 17 ((M.1 mA 17) - (1 : Int32))) 0 0 by
              refine r_if_eq e_X11_roll_146 (fun c45 => ?_) (fun c45 => ?_)
              · rw [if_pos c45] at q46
                refine r_aload_n e_X11_roll_160 rfl ?_
                refine r_getR e_X11_roll_161 fl_X11_212 k0 k1 ?_
                refine r_bipush e_X11_roll_164 bp_18 ?_
                refine r_ialoade (v := (M.1 mA 18)) e_X11_roll_166 k2 (by unfold vp_in; decide) ((show (setI M mA 17 ((M.1 mA 17) - (1 : Int32))).1 mA (18 : Int32).toNatClampNeg = (setI M mA 17 ((M.1 mA 17) - (1 : Int32))).1 mA 18 by rw [show (18 : Int32).toNatClampNeg = 18 from rfl]).trans (gs_nI (by decide))) ?_
                refine d_7_2 ?_
                refine d_7_3 ?_
                refine d_7_4 ?_
                subst q46; exact j46
              · rw [if_neg c45] at q46
                refine r_aload_n e_X11_roll_149 rfl ?_
                refine r_getR e_X11_roll_150 fl_X11_212 k0 k1 ?_
                refine r_bipush e_X11_roll_153 bp_18 ?_
                refine r_ialoade (v := (M.1 mA 18)) e_X11_roll_155 k2 (by unfold vp_in; decide) ((show (setI M mA 17 ((M.1 mA 17) - (1 : Int32))).1 mA (18 : Int32).toNatClampNeg = (setI M mA 17 ((M.1 mA 17) - (1 : Int32))).1 mA 18 by rw [show (18 : Int32).toNatClampNeg = 18 from rfl]).trans (gs_nI (by decide))) ?_
                refine r_ineg e_X11_roll_156 ?_
                refine r_goto e_X11_roll_157 ?_
                refine d_7_2 ?_
                refine d_7_3 ?_
                refine d_7_4 ?_
                subst q46; exact j46
            refine r_iastore e_X11_roll_167 k2 (by unfold vp_in; decide) ?_
            rw [show (18 : Int32).toNatClampNeg = 18 from rfl]
            refine r_aload_n e_X11_roll_168 rfl ?_
            refine r_getR e_X11_roll_169 fl_X11_212 k0 k1 ?_
            refine r_bipush e_X11_roll_172 bp_19 ?_
            refine r_iload e_X11_roll_174 rfl ?_
            obtain ⟨v48_0, q48, h⟩ := bd1_elK h
            suffices j48 : WP m_X11_roll _ 197 [some (.ref 242), some (.int (nI i2)), none, none, none, none, none] [.int v48_0, .int (19 : Int32), .ref mA] sh (setI (setI M mA 17 ((M.1 mA 17) - (1 : Int32))) mA 18 v46_0) 0 0 by
              refine r_if_eq e_X11_roll_176 (fun c47 => ?_) (fun c47 => ?_)
              · rw [if_pos c47] at q48
                refine r_aload_n e_X11_roll_190 rfl ?_
                refine r_getR e_X11_roll_191 fl_X11_212 k0 k1 ?_
                refine r_bipush e_X11_roll_194 bp_19 ?_
                refine r_ialoade (v := (M.1 mA 19)) e_X11_roll_196 k2 (by unfold vp_in; decide) ((show (setI (setI M mA 17 ((M.1 mA 17) - (1 : Int32))) mA 18 v46_0).1 mA (19 : Int32).toNatClampNeg = (setI (setI M mA 17 ((M.1 mA 17) - (1 : Int32))) mA 18 v46_0).1 mA 19 by rw [show (19 : Int32).toNatClampNeg = 19 from rfl]).trans ((gs_nI (by decide)).trans (gs_nI (by decide)))) ?_
                refine d_7_5 ?_
                subst q48; exact j48
              · rw [if_neg c47] at q48
                refine r_aload_n e_X11_roll_179 rfl ?_
                refine r_getR e_X11_roll_180 fl_X11_212 k0 k1 ?_
                refine r_bipush e_X11_roll_183 bp_19 ?_
                refine r_ialoade (v := (M.1 mA 19)) e_X11_roll_185 k2 (by unfold vp_in; decide) ((show (setI (setI M mA 17 ((M.1 mA 17) - (1 : Int32))) mA 18 v46_0).1 mA (19 : Int32).toNatClampNeg = (setI (setI M mA 17 ((M.1 mA 17) - (1 : Int32))) mA 18 v46_0).1 mA 19 by rw [show (19 : Int32).toNatClampNeg = 19 from rfl]).trans ((gs_nI (by decide)).trans (gs_nI (by decide)))) ?_
                refine r_ineg e_X11_roll_186 ?_
                refine r_goto e_X11_roll_187 ?_
                refine d_7_5 ?_
                subst q48; exact j48
            refine r_iastore e_X11_roll_197 k2 (by unfold vp_in; decide) ?_
            rw [show (19 : Int32).toNatClampNeg = 19 from rfl]
            refine r_goto e_X11_roll_198 ?_
            exact j44 _ h
          · rw [if_pos c37] at h
            refine r_iload e_X11_roll_133 rfl ?_
            refine r_if_eq e_X11_roll_135 (fun c49 => ?_) (fun c49 => ?_)
            · rw [if_pos c49] at h
              refine r_aload_n e_X11_roll_201 rfl ?_
              refine r_getR e_X11_roll_202 fl_X11_212 k0 k1 ?_
              refine r_bipush e_X11_roll_205 bp_14 ?_
              refine r_iload_n e_X11_roll_207 rfl ?_
              refine r_iastore e_X11_roll_208 k2 (by unfold vp_in; decide) ?_
              rw [show (14 : Int32).toNatClampNeg = 14 from rfl]
              refine r_aload_n e_X11_roll_209 rfl ?_
              refine r_getR e_X11_roll_210 fl_X11_212 k0 k1 ?_
              refine r_bipush e_X11_roll_213 bp_15 ?_
              refine r_iload_n e_X11_roll_215 rfl ?_
              refine r_iastore e_X11_roll_216 k2 (by unfold vp_in; decide) ?_
              rw [show (15 : Int32).toNatClampNeg = 15 from rfl]
              refine r_aload_n e_X11_roll_217 rfl ?_
              refine r_iload_n e_X11_roll_218 rfl ?_
              refine r_iload_n e_X11_roll_219 rfl ?_
              refine r_iconst e_X11_roll_220 ic_m1 ?_
              obtain ⟨v50, w50, h⟩ := bnd1_elK h
              refine cV3v e_X11_roll_221 cl_X11_270 ⟨Nat.le_of_ble_eq_true rfl, Nat.le_of_ble_eq_true rfl⟩ ⟨rfl, rfl⟩ k0 (Nat.le_of_ble_eq_true rfl) (S_X11_robotAt hb1 w50) ?_
              refine p_istore_7_6 e_X11_roll_224 rfl rfl ?_
              refine r_iload e_X11_roll_226 rfl ?_
              refine r_if_lt e_X11_roll_228 (fun c51 => ?_) (fun c51 => ?_)
              · rw [if_pos c51] at h
                refine d_7_2 ?_
                refine d_7_3 ?_
                refine d_7_4 ?_
                refine d_7_5 ?_
                refine d_7_6 ?_
                exact j44 _ h
              · rw [if_neg c51] at h
                refine r_aload_n e_X11_roll_231 rfl ?_
                refine r_iload e_X11_roll_232 rfl ?_
                obtain ⟨M52, w52, h⟩ := bnd1_elK h
                refine cV1u e_X11_roll_234 cl_X11_367 ⟨Nat.le_of_ble_eq_true rfl, Nat.le_of_ble_eq_true rfl⟩ ⟨rfl, rfl⟩ k0 (Nat.le_of_ble_eq_true rfl) (S_X11_hold hb1 w52) ?_
                refine d_7_2 ?_
                refine d_7_3 ?_
                refine d_7_4 ?_
                refine d_7_5 ?_
                refine d_7_6 ?_
                exact j44 _ h
            · rw [if_neg c49] at h
              refine r_aload_n e_X11_roll_138 rfl ?_
              refine r_getR e_X11_roll_139 fl_X11_212 k0 k1 ?_
              refine r_bipush e_X11_roll_142 bp_18 ?_
              refine r_iload e_X11_roll_144 rfl ?_
              obtain ⟨v54_0, q54, h⟩ := bd1_elK h
              suffices j54 : WP m_X11_roll _ 167 [some (.ref 242), some (.int (nI i2)), none, none, none, some (.int v26_0), none] [.int v54_0, .int (18 : Int32), .ref mA] sh (setI M mA 17 ((M.1 mA 17) - (1 : Int32))) 0 0 by
                refine r_if_eq e_X11_roll_146 (fun c53 => ?_) (fun c53 => ?_)
                · rw [if_pos c53] at q54
                  refine r_aload_n e_X11_roll_160 rfl ?_
                  refine r_getR e_X11_roll_161 fl_X11_212 k0 k1 ?_
                  refine r_bipush e_X11_roll_164 bp_18 ?_
                  refine r_ialoade (v := (M.1 mA 18)) e_X11_roll_166 k2 (by unfold vp_in; decide) ((show (setI M mA 17 ((M.1 mA 17) - (1 : Int32))).1 mA (18 : Int32).toNatClampNeg = (setI M mA 17 ((M.1 mA 17) - (1 : Int32))).1 mA 18 by rw [show (18 : Int32).toNatClampNeg = 18 from rfl]).trans (gs_nI (by decide))) ?_
                  refine d_7_2 ?_
                  refine d_7_3 ?_
                  refine d_7_4 ?_
                  subst q54; exact j54
                · rw [if_neg c53] at q54
                  refine r_aload_n e_X11_roll_149 rfl ?_
                  refine r_getR e_X11_roll_150 fl_X11_212 k0 k1 ?_
                  refine r_bipush e_X11_roll_153 bp_18 ?_
                  refine r_ialoade (v := (M.1 mA 18)) e_X11_roll_155 k2 (by unfold vp_in; decide) ((show (setI M mA 17 ((M.1 mA 17) - (1 : Int32))).1 mA (18 : Int32).toNatClampNeg = (setI M mA 17 ((M.1 mA 17) - (1 : Int32))).1 mA 18 by rw [show (18 : Int32).toNatClampNeg = 18 from rfl]).trans (gs_nI (by decide))) ?_
                  refine r_ineg e_X11_roll_156 ?_
                  refine r_goto e_X11_roll_157 ?_
                  refine d_7_2 ?_
                  refine d_7_3 ?_
                  refine d_7_4 ?_
                  subst q54; exact j54
              refine r_iastore e_X11_roll_167 k2 (by unfold vp_in; decide) ?_
              rw [show (18 : Int32).toNatClampNeg = 18 from rfl]
              refine r_aload_n e_X11_roll_168 rfl ?_
              refine r_getR e_X11_roll_169 fl_X11_212 k0 k1 ?_
              refine r_bipush e_X11_roll_172 bp_19 ?_
              refine r_iload e_X11_roll_174 rfl ?_
              obtain ⟨v56_0, q56, h⟩ := bd1_elK h
              suffices j56 : WP m_X11_roll _ 197 [some (.ref 242), some (.int (nI i2)), none, none, none, none, none] [.int v56_0, .int (19 : Int32), .ref mA] sh (setI (setI M mA 17 ((M.1 mA 17) - (1 : Int32))) mA 18 v54_0) 0 0 by
                refine r_if_eq e_X11_roll_176 (fun c55 => ?_) (fun c55 => ?_)
                · rw [if_pos c55] at q56
                  refine r_aload_n e_X11_roll_190 rfl ?_
                  refine r_getR e_X11_roll_191 fl_X11_212 k0 k1 ?_
                  refine r_bipush e_X11_roll_194 bp_19 ?_
                  refine r_ialoade (v := (M.1 mA 19)) e_X11_roll_196 k2 (by unfold vp_in; decide) ((show (setI (setI M mA 17 ((M.1 mA 17) - (1 : Int32))) mA 18 v54_0).1 mA (19 : Int32).toNatClampNeg = (setI (setI M mA 17 ((M.1 mA 17) - (1 : Int32))) mA 18 v54_0).1 mA 19 by rw [show (19 : Int32).toNatClampNeg = 19 from rfl]).trans ((gs_nI (by decide)).trans (gs_nI (by decide)))) ?_
                  refine d_7_5 ?_
                  subst q56; exact j56
                · rw [if_neg c55] at q56
                  refine r_aload_n e_X11_roll_179 rfl ?_
                  refine r_getR e_X11_roll_180 fl_X11_212 k0 k1 ?_
                  refine r_bipush e_X11_roll_183 bp_19 ?_
                  refine r_ialoade (v := (M.1 mA 19)) e_X11_roll_185 k2 (by unfold vp_in; decide) ((show (setI (setI M mA 17 ((M.1 mA 17) - (1 : Int32))) mA 18 v54_0).1 mA (19 : Int32).toNatClampNeg = (setI (setI M mA 17 ((M.1 mA 17) - (1 : Int32))) mA 18 v54_0).1 mA 19 by rw [show (19 : Int32).toNatClampNeg = 19 from rfl]).trans ((gs_nI (by decide)).trans (gs_nI (by decide)))) ?_
                  refine r_ineg e_X11_roll_186 ?_
                  refine r_goto e_X11_roll_187 ?_
                  refine d_7_5 ?_
                  subst q56; exact j56
              refine r_iastore e_X11_roll_197 k2 (by unfold vp_in; decide) ?_
              rw [show (19 : Int32).toNatClampNeg = 19 from rfl]
              refine r_goto e_X11_roll_198 ?_
              exact j44 _ h
        intro M44 h
        rw [hK44] at h
        refine p_iinc_7_1 e_X11_roll_237 rfl ic_1 rfl ?_
        rw [nI_1 i2]
        refine r_goto e_X11_roll_240 ?_
        exact ih _  _ _ (by omega) h hR hE
def R_X11_roll (mA : Nat) (M : Mem) : Option (Int32 × Mem) := br1 (L_X11_roll_2 mA 3 0 M) (fun M57 => some ((-1 : Int32), M57))
theorem S_X11_roll {sh : List SC} {M : Mem}  {mA : Nat} {oA : Nat} {v' : Int32} {M' : Mem} (hb1 : ModelAt sh mA oA)  (h : R_X11_roll mA M = some (v', M')) : Gv m_X11_roll [.ref 242] sh M (.int v') M' := by
  refine Sp.of (ls := [some (.ref 242), none, none, none, none, none, none]) (by decide +kernel) (Nat.le_of_ble_eq_true rfl) rfl ?_
  unfold R_X11_roll at h
  refine r_iconst e_X11_roll_0 ic_0 ?_
  refine p_istore_n_7_1 e_X11_roll_1 rfl rfl ?_
  show WP m_X11_roll _ 2 [some (.ref 242), some (.int (nI 0)), none, none, none, none, none] [] sh M 0 0
  obtain ⟨q57, w57, l57, r57⟩ := br1_el h
  refine LW_X11_roll_2 hb1 3 0 _ _ (by omega) w57 (fun x57 y57 => ?_) (fun M57 y57 => ?_)
  · have h := l57 _ y57
    obtain ⟨rfl, rfl⟩ := ps2 h; exact ⟨rfl, rfl, rfl⟩
  have h := r57 _ y57
  refine r_iconst e_X11_roll_243 ic_m1 ?_
  refine r_ireturn e_X11_roll_244 rfl ⟨rfl, rfl⟩ ?_
  obtain ⟨rfl, rfl⟩ := ps2 h; exact ⟨rfl, rfl, rfl⟩
def L_X11_nearestFoe_13 (x1 : Int32) (mA : Nat) : Nat → Int32 → Int32 → Mem → Option (Int32)
  | 0, _, _, _ => none
  | n + 1, u2, u3, M => bd1 (if (5 : Int32) ≤ x1 then (5 : Int32) else (10 : Int32)) (fun v4_0 => if v4_0 ≤ u3 then (some u2) else (bnd1 (R_X11_of x1 (0 : Int32) mA M) (fun v6 => bnd1 (R_X11_of x1 (1 : Int32) mA M) (fun v7 => bnd1 (R_X11_of u3 (0 : Int32) mA M) (fun v8 => bnd1 (R_X11_of u3 (1 : Int32) mA M) (fun v9 => bd1 (V_X11_distance v6 v7 v8 v9 M) (fun v10 => bnd1 (if u2 < 0 then (some u3) else (bnd1 (R_X11_of x1 (0 : Int32) mA M) (fun v14 => bnd1 (R_X11_of x1 (1 : Int32) mA M) (fun v15 => bnd1 (R_X11_of u2 (0 : Int32) mA M) (fun v16 => bnd1 (R_X11_of u2 (1 : Int32) mA M) (fun v17 => if (V_X11_distance v14 v15 v16 v17 M) ≤ v10 then (some u2) else (some u3))))))) (fun v13_0 => L_X11_nearestFoe_13 x1 mA n v13_0 (u3 + 1) M))))))))
theorem LW_X11_nearestFoe_13 {sh : List SC} {Q : Po} {x1 : Int32} {mA : Nat} {oA : Nat}  (hb1 : ModelAt sh mA oA)  : ∀ (n : Nat) (u2 : Int32) (u3 : Int32) (M : Mem) (z2 : Int32), L_X11_nearestFoe_13 x1 mA n u2 u3 M = some z2 → WP m_X11_nearestFoe Q 105 [none, none, some (.int z2), none, none] [] sh M 0 0 → WP m_X11_nearestFoe Q 13 [some (.ref 242), some (.int x1), some (.int u2), some (.int u3), none] [] sh M 0 0 := by
  intro n
  induction n with
  | zero =>
    intro u2 u3 M z2 h hE
    rw [L_X11_nearestFoe_13] at h
    cases h
  | succ n ih =>
    intro u2 u3 M z2 h hE
    rw [L_X11_nearestFoe_13] at h
    have k0 : kd sh 242 = some (10 + 7, 0) := hb1.1
    refine r_iload_n e_X11_nearestFoe_13 rfl ?_
    refine r_iload_n e_X11_nearestFoe_14 rfl ?_
    refine r_iconst e_X11_nearestFoe_15 ic_5 ?_
    obtain ⟨v4_0, q4, h⟩ := bd1_el h
    suffices j4 : WP m_X11_nearestFoe _ 25 [some (.ref 242), some (.int x1), some (.int u2), some (.int u3), none] [.int v4_0, .int u3] sh M 0 0 by
      refine r_icmp_ge e_X11_nearestFoe_16 (fun c3 => ?_) (fun c3 => ?_)
      · rw [if_pos c3] at q4
        refine r_iconst e_X11_nearestFoe_24 ic_5 ?_
        subst q4; exact j4
      · rw [if_neg c3] at q4
        refine r_bipush e_X11_nearestFoe_19 bp_10 ?_
        refine r_goto e_X11_nearestFoe_21 ?_
        subst q4; exact j4
    refine r_icmp_ge e_X11_nearestFoe_25 (fun c5 => ?_) (fun c5 => ?_)
    · rw [if_pos c5] at h
      refine d_5_0 ?_
      refine d_5_1 ?_
      refine d_5_3 ?_
      obtain rfl := Option.some.inj h; exact hE
    · rw [if_neg c5] at h
      refine r_aload_n e_X11_nearestFoe_28 rfl ?_
      refine r_iload_n e_X11_nearestFoe_29 rfl ?_
      refine r_iconst e_X11_nearestFoe_30 ic_0 ?_
      obtain ⟨v6, w6, h⟩ := bnd1_el h
      refine cV2v e_X11_nearestFoe_31 cl_X11_252 ⟨Nat.le_of_ble_eq_true rfl, Nat.le_of_ble_eq_true rfl⟩ ⟨rfl, rfl⟩ k0 (Nat.le_of_ble_eq_true rfl) (S_X11_of hb1 w6) ?_
      refine r_aload_n e_X11_nearestFoe_34 rfl ?_
      refine r_iload_n e_X11_nearestFoe_35 rfl ?_
      refine r_iconst e_X11_nearestFoe_36 ic_1 ?_
      obtain ⟨v7, w7, h⟩ := bnd1_el h
      refine cV2v e_X11_nearestFoe_37 cl_X11_252 ⟨Nat.le_of_ble_eq_true rfl, Nat.le_of_ble_eq_true rfl⟩ ⟨rfl, rfl⟩ k0 (Nat.le_of_ble_eq_true rfl) (S_X11_of hb1 w7) ?_
      refine r_aload_n e_X11_nearestFoe_40 rfl ?_
      refine r_iload_n e_X11_nearestFoe_41 rfl ?_
      refine r_iconst e_X11_nearestFoe_42 ic_0 ?_
      obtain ⟨v8, w8, h⟩ := bnd1_el h
      refine cV2v e_X11_nearestFoe_43 cl_X11_252 ⟨Nat.le_of_ble_eq_true rfl, Nat.le_of_ble_eq_true rfl⟩ ⟨rfl, rfl⟩ k0 (Nat.le_of_ble_eq_true rfl) (S_X11_of hb1 w8) ?_
      refine r_aload_n e_X11_nearestFoe_46 rfl ?_
      refine r_iload_n e_X11_nearestFoe_47 rfl ?_
      refine r_iconst e_X11_nearestFoe_48 ic_1 ?_
      obtain ⟨v9, w9, h⟩ := bnd1_el h
      refine cV2v e_X11_nearestFoe_49 cl_X11_252 ⟨Nat.le_of_ble_eq_true rfl, Nat.le_of_ble_eq_true rfl⟩ ⟨rfl, rfl⟩ k0 (Nat.le_of_ble_eq_true rfl) (S_X11_of hb1 w9) ?_
      refine cS4v e_X11_nearestFoe_52 cl_X11_274 ⟨Nat.le_of_ble_eq_true rfl, Nat.le_of_ble_eq_true rfl⟩ ⟨rfl, rfl⟩  (Nat.le_of_ble_eq_true rfl) (S_X11_distance ) ?_
      obtain ⟨v10, e10, h⟩ := bd1_el h
      rw [e10]
      refine p_istore_5_4 e_X11_nearestFoe_55 rfl rfl ?_
      refine r_iload_n e_X11_nearestFoe_57 rfl ?_
      obtain ⟨K13, hK13, h⟩ := bnd1_in h
      suffices j13 : ∀ v13_0, K13 v13_0 = some z2 → WP m_X11_nearestFoe _ 98 [some (.ref 242), some (.int x1), none, some (.int u3), none] [.int v13_0] sh M 0 0 by
        refine r_if_lt e_X11_nearestFoe_58 (fun c11 => ?_) (fun c11 => ?_)
        · rw [if_pos c11] at h
          refine r_iload_n e_X11_nearestFoe_93 rfl ?_
          refine r_goto e_X11_nearestFoe_94 ?_
          refine d_5_2 ?_
          refine d_5_4 ?_
          exact j13 _ h
        · rw [if_neg c11] at h
          refine r_iload e_X11_nearestFoe_61 rfl ?_
          refine r_aload_n e_X11_nearestFoe_63 rfl ?_
          refine r_iload_n e_X11_nearestFoe_64 rfl ?_
          refine r_iconst e_X11_nearestFoe_65 ic_0 ?_
          obtain ⟨v14, w14, h⟩ := bnd1_elK h
          refine cV2v e_X11_nearestFoe_66 cl_X11_252 ⟨Nat.le_of_ble_eq_true rfl, Nat.le_of_ble_eq_true rfl⟩ ⟨rfl, rfl⟩ k0 (Nat.le_of_ble_eq_true rfl) (S_X11_of hb1 w14) ?_
          refine r_aload_n e_X11_nearestFoe_69 rfl ?_
          refine r_iload_n e_X11_nearestFoe_70 rfl ?_
          refine r_iconst e_X11_nearestFoe_71 ic_1 ?_
          obtain ⟨v15, w15, h⟩ := bnd1_elK h
          refine cV2v e_X11_nearestFoe_72 cl_X11_252 ⟨Nat.le_of_ble_eq_true rfl, Nat.le_of_ble_eq_true rfl⟩ ⟨rfl, rfl⟩ k0 (Nat.le_of_ble_eq_true rfl) (S_X11_of hb1 w15) ?_
          refine r_aload_n e_X11_nearestFoe_75 rfl ?_
          refine r_iload_n e_X11_nearestFoe_76 rfl ?_
          refine r_iconst e_X11_nearestFoe_77 ic_0 ?_
          obtain ⟨v16, w16, h⟩ := bnd1_elK h
          refine cV2v e_X11_nearestFoe_78 cl_X11_252 ⟨Nat.le_of_ble_eq_true rfl, Nat.le_of_ble_eq_true rfl⟩ ⟨rfl, rfl⟩ k0 (Nat.le_of_ble_eq_true rfl) (S_X11_of hb1 w16) ?_
          refine r_aload_n e_X11_nearestFoe_81 rfl ?_
          refine r_iload_n e_X11_nearestFoe_82 rfl ?_
          refine r_iconst e_X11_nearestFoe_83 ic_1 ?_
          obtain ⟨v17, w17, h⟩ := bnd1_elK h
          refine cV2v e_X11_nearestFoe_84 cl_X11_252 ⟨Nat.le_of_ble_eq_true rfl, Nat.le_of_ble_eq_true rfl⟩ ⟨rfl, rfl⟩ k0 (Nat.le_of_ble_eq_true rfl) (S_X11_of hb1 w17) ?_
          refine cS4v e_X11_nearestFoe_87 cl_X11_274 ⟨Nat.le_of_ble_eq_true rfl, Nat.le_of_ble_eq_true rfl⟩ ⟨rfl, rfl⟩  (Nat.le_of_ble_eq_true rfl) (S_X11_distance ) ?_
          refine r_icmp_ge e_X11_nearestFoe_90 (fun c18 => ?_) (fun c18 => ?_)
          · rw [if_pos c18] at h
            refine r_iload_n e_X11_nearestFoe_97 rfl ?_
            refine d_5_2 ?_
            refine d_5_4 ?_
            exact j13 _ h
          · rw [if_neg c18] at h
            refine r_iload_n e_X11_nearestFoe_93 rfl ?_
            refine r_goto e_X11_nearestFoe_94 ?_
            refine d_5_2 ?_
            refine d_5_4 ?_
            exact j13 _ h
      intro v13_0 h
      rw [hK13] at h
      refine p_istore_n_5_2 e_X11_nearestFoe_98 rfl rfl ?_
      refine p_iinc_5_3 e_X11_nearestFoe_99 rfl ic_1 rfl ?_
      refine r_goto e_X11_nearestFoe_102 ?_
      exact ih _ _ _ _ h hE
def R_X11_nearestFoe (x1 : Int32) (mA : Nat) (M : Mem) : Option (Int32) := bd1 (if (5 : Int32) ≤ x1 then (0 : Int32) else (5 : Int32)) (fun v2_0 => bnd1 (L_X11_nearestFoe_13 x1 mA FUEL (-1 : Int32) v2_0 M) (fun v19_0 => some v19_0))
theorem S_X11_nearestFoe {sh : List SC} {M : Mem} {x1 : Int32} {mA : Nat} {oA : Nat} {v' : Int32} (hb1 : ModelAt sh mA oA)  (h : R_X11_nearestFoe x1 mA M = some v') : Gv m_X11_nearestFoe [.ref 242, .int x1] sh M (.int v') M := by
  refine Sp.of (ls := [some (.ref 242), some (.int x1), none, none, none]) (by decide +kernel) (Nat.le_of_ble_eq_true rfl) rfl ?_
  unfold R_X11_nearestFoe at h
  refine r_iconst e_X11_nearestFoe_0 ic_m1 ?_
  refine p_istore_n_5_2 e_X11_nearestFoe_1 rfl rfl ?_
  refine r_iload_n e_X11_nearestFoe_2 rfl ?_
  refine r_iconst e_X11_nearestFoe_3 ic_5 ?_
  obtain ⟨v2_0, q2, h⟩ := bd1_el h
  suffices j2 : WP m_X11_nearestFoe _ 12 [some (.ref 242), some (.int x1), some (.int (-1 : Int32)), none, none] [.int v2_0] sh M 0 0 by
    refine r_icmp_ge e_X11_nearestFoe_4 (fun c1 => ?_) (fun c1 => ?_)
    · rw [if_pos c1] at q2
      refine r_iconst e_X11_nearestFoe_11 ic_0 ?_
      subst q2; exact j2
    · rw [if_neg c1] at q2
      refine r_iconst e_X11_nearestFoe_7 ic_5 ?_
      refine r_goto e_X11_nearestFoe_8 ?_
      subst q2; exact j2
  refine p_istore_n_5_3 e_X11_nearestFoe_12 rfl rfl ?_
  obtain ⟨v19_0, w19, h⟩ := bnd1_el h
  refine LW_X11_nearestFoe_13 hb1 _ _ _ _ _ w19 ?_
  refine r_iload_n e_X11_nearestFoe_105 rfl ?_
  refine r_ireturn e_X11_nearestFoe_106 rfl ⟨rfl, rfl⟩ ?_
  obtain rfl := Option.some.inj h; exact ⟨rfl, rfl, rfl⟩
