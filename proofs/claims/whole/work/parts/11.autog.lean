def U_X11_goes (x1 : Int32) (x2 : Int32) (x3 : Int32) (x4 : Int32) (mA : Nat) (M : Mem) : Mem := (let v0_0 : Int32 := if (5 : Int32) ≤ (M.1 242 33) then (-1 : Int32) else (1 : Int32); let v1_0 : Int32 := if (1 : Int32) ≤ x4 then (if x4 ≤ (9 : Int32) then x4 else (9 : Int32)) else (1 : Int32); setI (setI (setI (U_X11_set (M.1 242 33) (10 : Int32) x1 mA M) 262 ((U_X11_set (M.1 242 33) (10 : Int32) x1 mA M).1 242 33).toNatClampNeg (v0_0 * (V_X11_sign x2 (U_X11_set (M.1 242 33) (10 : Int32) x1 mA M)))) 263 ((U_X11_set (M.1 242 33) (10 : Int32) x1 mA M).1 242 33).toNatClampNeg (v0_0 * (V_X11_sign x3 (setI (U_X11_set (M.1 242 33) (10 : Int32) x1 mA M) 262 ((U_X11_set (M.1 242 33) (10 : Int32) x1 mA M).1 242 33).toNatClampNeg (v0_0 * (V_X11_sign x2 (U_X11_set (M.1 242 33) (10 : Int32) x1 mA M))))))) 264 ((U_X11_set (M.1 242 33) (10 : Int32) x1 mA M).1 242 33).toNatClampNeg v1_0)
theorem S_X11_goes {sh : List SC} {M : Mem} {x1 : Int32} {x2 : Int32} {x3 : Int32} {x4 : Int32} {mA : Nat} {oA : Nat} (hb1 : ModelAt sh mA oA) (g1 : vp_in (((44 : Int32) + ((16 : Int32) * (M.1 242 33))) + (10 : Int32)) 212) (g2 : vp_in ((U_X11_set (M.1 242 33) (10 : Int32) x1 mA M).1 242 33) 10) : Gu m_X11_goes [.ref 242, .int x1, .int x2, .int x3, .int x4] sh M (U_X11_goes x1 x2 x3 x4 mA M) := by
  refine Sp.of (ls := [some (.ref 242), some (.int x1), some (.int x2), some (.int x3), some (.int x4), none]) (by decide +kernel) (Nat.le_of_ble_eq_true rfl) rfl ?_
  have k0 : kd sh 242 = some (10 + 7, 0) := hb1.1
  have k1 : rf sh 242 38 = some 262 := hb1.2.2.2.2.2.2.2.2.2.2.2.2.2.2.2.2.2.2.2.2.1
  have k2 : kd sh 262 = some (0, 10) := hb1.2.2.2.2.2.2.2.2.2.2.2.2.2.2.2.2.2.2.2.2.2.2.2.2.2.2.2.2.2.2.2.2.2.2.2.2.2.2.2.2.2.2.2.2.1
  have k3 : rf sh 242 39 = some 263 := hb1.2.2.2.2.2.2.2.2.2.2.2.2.2.2.2.2.2.2.2.2.2.1
  have k4 : kd sh 263 = some (0, 10) := hb1.2.2.2.2.2.2.2.2.2.2.2.2.2.2.2.2.2.2.2.2.2.2.2.2.2.2.2.2.2.2.2.2.2.2.2.2.2.2.2.2.2.2.2.2.2.1
  have k5 : rf sh 242 40 = some 264 := hb1.2.2.2.2.2.2.2.2.2.2.2.2.2.2.2.2.2.2.2.2.2.2.1
  have k6 : kd sh 264 = some (0, 10) := hb1.2.2.2.2.2.2.2.2.2.2.2.2.2.2.2.2.2.2.2.2.2.2.2.2.2.2.2.2.2.2.2.2.2.2.2.2.2.2.2.2.2.2.2.2.2.2.1
  refine r_aload_n e_X11_goes_0 rfl ?_
  refine r_getI e_X11_goes_1 fl_X11_315 i0 k0 ?_
  refine r_iconst e_X11_goes_4 ic_5 ?_
  obtain ⟨v0_0, e_v0_0⟩ : ∃ z : Int32, z = (if (5 : Int32) ≤ (M.1 242 33) then (-1 : Int32) else (1 : Int32)) := ⟨_, rfl⟩
  suffices j13_0 : WP m_X11_goes (fun r sh' M'' => r = none ∧ sh' = sh ∧ M'' = (U_X11_goes x1 x2 x3 x4 mA M)) 13 [some (.ref 242), some (.int x1), some (.int x2), some (.int x3), some (.int x4), none] [.int v0_0] sh M 0 0 by
    refine r_icmp_ge e_X11_goes_5 (fun h5_0 => ?_) (fun h5_0 => ?_)
    · refine r_iconst e_X11_goes_12 ic_m1 ?_
      rw [show v0_0 = (-1 : Int32) from (e_v0_0.trans (if_pos h5_0))] at j13_0; exact j13_0
    · refine r_iconst e_X11_goes_8 ic_1 ?_
      refine r_goto e_X11_goes_9 ?_
      rw [show v0_0 = (1 : Int32) from (e_v0_0.trans (if_neg h5_0))] at j13_0; exact j13_0
  refine p_istore_6_5 e_X11_goes_13 rfl rfl ?_
  refine r_aload_n e_X11_goes_15 rfl ?_
  refine r_aload_n e_X11_goes_16 rfl ?_
  refine r_getI e_X11_goes_17 fl_X11_315 i0 k0 ?_
  refine r_bipush e_X11_goes_20 bp_10 ?_
  refine r_iload_n e_X11_goes_22 rfl ?_
  refine cV3u e_X11_goes_23 cl_X11_282 ⟨Nat.le_of_ble_eq_true rfl, Nat.le_of_ble_eq_true rfl⟩ ⟨rfl, rfl⟩ k0 (Nat.le_of_ble_eq_true rfl) (S_X11_set hb1 g1) ?_
  refine r_aload_n e_X11_goes_26 rfl ?_
  refine r_getR e_X11_goes_27 fl_X11_224 k0 k1 ?_
  refine r_aload_n e_X11_goes_30 rfl ?_
  refine r_getI e_X11_goes_31 fl_X11_315 i0 k0 ?_
  refine r_iload e_X11_goes_34 rfl ?_
  refine r_iload_n e_X11_goes_36 rfl ?_
  refine cS1v e_X11_goes_37 cl_X11_345 ⟨Nat.le_of_ble_eq_true rfl, Nat.le_of_ble_eq_true rfl⟩ ⟨rfl, rfl⟩  (Nat.le_of_ble_eq_true rfl) (S_X11_sign ) ?_
  refine r_imul e_X11_goes_40 ?_
  refine r_iastore e_X11_goes_41 k2 g2 ?_
  refine r_aload_n e_X11_goes_42 rfl ?_
  refine r_getR e_X11_goes_43 fl_X11_227 k0 k3 ?_
  refine r_aload_n e_X11_goes_46 rfl ?_
  refine r_getIe e_X11_goes_47 fl_X11_315 i0 k0 (gs_aI (by omega)) ?_
  refine r_iload e_X11_goes_50 rfl ?_
  refine r_iload_n e_X11_goes_52 rfl ?_
  refine cS1v e_X11_goes_53 cl_X11_345 ⟨Nat.le_of_ble_eq_true rfl, Nat.le_of_ble_eq_true rfl⟩ ⟨rfl, rfl⟩  (Nat.le_of_ble_eq_true rfl) (S_X11_sign ) ?_
  refine r_imul e_X11_goes_56 ?_
  refine r_iastore e_X11_goes_57 k4 g2 ?_
  refine r_aload_n e_X11_goes_58 rfl ?_
  refine r_getR e_X11_goes_59 fl_X11_230 k0 k5 ?_
  refine r_aload_n e_X11_goes_62 rfl ?_
  refine r_getIe e_X11_goes_63 fl_X11_315 i0 k0 ((gs_aI (by omega)).trans (gs_aI (by omega))) ?_
  refine r_iload e_X11_goes_66 rfl ?_
  refine r_iconst e_X11_goes_68 ic_1 ?_
  obtain ⟨v1_0, e_v1_0⟩ : ∃ z : Int32, z = (if (1 : Int32) ≤ x4 then (if x4 ≤ (9 : Int32) then x4 else (9 : Int32)) else (1 : Int32)) := ⟨_, rfl⟩
  suffices j90_1 : WP m_X11_goes (fun r sh' M'' => r = none ∧ sh' = sh ∧ M'' = (U_X11_goes x1 x2 x3 x4 mA M)) 90 [some (.ref 242), some (.int x1), some (.int x2), some (.int x3), some (.int x4), some (.int v0_0)] [.int v1_0, .int ((U_X11_set (M.1 242 33) (10 : Int32) x1 mA M).1 242 33), .ref 264] sh (setI (setI (U_X11_set (M.1 242 33) (10 : Int32) x1 mA M) 262 ((U_X11_set (M.1 242 33) (10 : Int32) x1 mA M).1 242 33).toNatClampNeg (v0_0 * (V_X11_sign x2 (U_X11_set (M.1 242 33) (10 : Int32) x1 mA M)))) 263 ((U_X11_set (M.1 242 33) (10 : Int32) x1 mA M).1 242 33).toNatClampNeg (v0_0 * (V_X11_sign x3 (setI (U_X11_set (M.1 242 33) (10 : Int32) x1 mA M) 262 ((U_X11_set (M.1 242 33) (10 : Int32) x1 mA M).1 242 33).toNatClampNeg (v0_0 * (V_X11_sign x2 (U_X11_set (M.1 242 33) (10 : Int32) x1 mA M))))))) 0 0 by
    refine r_icmp_ge e_X11_goes_69 (fun h69_1 => ?_) (fun h69_1 => ?_)
    · refine r_iload e_X11_goes_76 rfl ?_
      refine r_bipush e_X11_goes_78 bp_9 ?_
      refine r_icmp_le e_X11_goes_80 (fun h80_2 => ?_) (fun h80_2 => ?_)
      · refine r_iload e_X11_goes_88 rfl ?_
        rw [show v1_0 = x4 from ((e_v1_0.trans (if_pos h69_1)).trans (if_pos h80_2))] at j90_1; exact j90_1
      · refine r_bipush e_X11_goes_83 bp_9 ?_
        refine r_goto e_X11_goes_85 ?_
        rw [show v1_0 = (9 : Int32) from ((e_v1_0.trans (if_pos h69_1)).trans (if_neg h80_2))] at j90_1; exact j90_1
    · refine r_iconst e_X11_goes_72 ic_1 ?_
      refine r_goto e_X11_goes_73 ?_
      rw [show v1_0 = (1 : Int32) from (e_v1_0.trans (if_neg h69_1))] at j90_1; exact j90_1
  refine r_iastore e_X11_goes_90 k6 g2 ?_
  refine r_return e_X11_goes_91 rfl ⟨rfl, rfl⟩ ?_
  (subst e_v1_0 e_v0_0; refine ⟨?_, rfl, ?_⟩ <;> ((try unfold U_X11_goes); (try simp only []); (try rfl)))
def V_X11_sensor (x1 : Int32) (mA : Nat) (M : Mem) : Int32 := if x1 = 0 then (V_X11_seenX (V_X11_of (M.1 242 33) (8 : Int32) mA M) M) else (if x1 = 1 then (V_X11_seenY (V_X11_of (M.1 242 33) (9 : Int32) mA M) M) else (if x1 = 2 then (V_X11_seenX (V_X11_of (M.1 242 33) (0 : Int32) mA M) M) else (if x1 = 3 then (V_X11_seenY (V_X11_of (M.1 242 33) (1 : Int32) mA M) M) else (if x1 = 4 then (let v0_0 : Int32 := if 0 ≤ (M.1 mA (16 : Int32).toNatClampNeg) then (if (M.1 mA (16 : Int32).toNatClampNeg) = (M.1 242 33) then (2 : Int32) else (if ((M.1 mA (16 : Int32).toNatClampNeg) / (5 : Int32)) = ((M.1 242 33) / (5 : Int32)) then (1 : Int32) else (-1 : Int32))) else (0 : Int32); v0_0) else (if x1 = 5 then (M.1 mA (3 : Int32).toNatClampNeg) else (if x1 = 6 then ((M.1 mA ((4 : Int32) + ((M.1 242 33) / (5 : Int32))).toNatClampNeg) - (M.1 mA ((5 : Int32) - ((M.1 242 33) / (5 : Int32))).toNatClampNeg)) else (V_X11_distance (V_X11_of (M.1 242 33) (0 : Int32) mA M) (V_X11_of (M.1 242 33) (1 : Int32) mA M) (V_X11_of (M.1 242 33) (8 : Int32) mA M) (V_X11_of (M.1 242 33) (9 : Int32) mA M) M)))))))
theorem S_X11_sensor {sh : List SC} {M : Mem} {x1 : Int32} {mA : Nat} {oA : Nat} (hb1 : ModelAt sh mA oA) (g1 : x1 = 0 → vp_in (((44 : Int32) + ((16 : Int32) * (M.1 242 33))) + (8 : Int32)) 212) (g2 : x1 = 1 → vp_in (((44 : Int32) + ((16 : Int32) * (M.1 242 33))) + (9 : Int32)) 212) (g3 : x1 = 2 → vp_in (((44 : Int32) + ((16 : Int32) * (M.1 242 33))) + (0 : Int32)) 212) (g4 : x1 = 3 → vp_in (((44 : Int32) + ((16 : Int32) * (M.1 242 33))) + (1 : Int32)) 212) (g5 : x1 = 6 → vp_in ((4 : Int32) + ((M.1 242 33) / (5 : Int32))) 212) (g6 : x1 = 6 → vp_in ((5 : Int32) - ((M.1 242 33) / (5 : Int32))) 212) (g7 : vp_in (((44 : Int32) + ((16 : Int32) * (M.1 242 33))) + (0 : Int32)) 212) (g8 : vp_in (((44 : Int32) + ((16 : Int32) * (M.1 242 33))) + (1 : Int32)) 212) (g9 : vp_in (((44 : Int32) + ((16 : Int32) * (M.1 242 33))) + (8 : Int32)) 212) (g10 : vp_in (((44 : Int32) + ((16 : Int32) * (M.1 242 33))) + (9 : Int32)) 212) : Gv m_X11_sensor [.ref 242, .int x1] sh M (.int (V_X11_sensor x1 mA M)) M := by
  refine Sp.of (ls := [some (.ref 242), some (.int x1), none, none]) (by decide +kernel) (Nat.le_of_ble_eq_true rfl) rfl ?_
  have k0 : kd sh 242 = some (10 + 7, 0) := hb1.1
  have k1 : rf sh 242 27 = some mA := hb1.2.2.2.2.2.2.2.2.2.2.2.2.2.2.2.2.2.1
  have k2 : kd sh mA = some (0, 212) := hb1.2.2.2.2.2.2.2.2.2.2.2.2.2.2.2.2.2.2.2.2.2.2.2.2.2.2.2.2.2.2.2.2.2.2.2.2.2.2.2.2.2.2.2.2.2.2.2.2.2.2.2.1
  refine r_aload_n e_X11_sensor_0 rfl ?_
  refine r_getR e_X11_sensor_1 fl_X11_212 k0 k1 ?_
  refine r_bipush e_X11_sensor_4 bp_16 ?_
  refine r_iaload e_X11_sensor_6 k2 (by unfold vp_in; decide) ?_
  refine p_istore_n_4_2 e_X11_sensor_7 rfl rfl ?_
  refine r_aload_n e_X11_sensor_8 rfl ?_
  refine r_getI e_X11_sensor_9 fl_X11_315 i0 k0 ?_
  refine r_iconst e_X11_sensor_12 ic_5 ?_
  refine r_idiv e_X11_sensor_13 (by decide) ?_
  refine p_istore_n_4_3 e_X11_sensor_14 rfl rfl ?_
  refine r_iload_n e_X11_sensor_15 rfl ?_
  by_cases hs16_0 : x1 = 0
  · refine r_tabIn (tgt := 60) (off := 44) e_X11_sensor_16 (by rw [hs16_0]; decide) (by rw [hs16_0]; decide) (by rw [hs16_0]; rfl) (by decide) ?_
    refine r_aload_n e_X11_sensor_60 rfl ?_
    refine r_aload_n e_X11_sensor_61 rfl ?_
    refine r_aload_n e_X11_sensor_62 rfl ?_
    refine r_getI e_X11_sensor_63 fl_X11_315 i0 k0 ?_
    refine r_bipush e_X11_sensor_66 bp_8 ?_
    refine cV2v e_X11_sensor_68 cl_X11_252 ⟨Nat.le_of_ble_eq_true rfl, Nat.le_of_ble_eq_true rfl⟩ ⟨rfl, rfl⟩ k0 (Nat.le_of_ble_eq_true rfl) (S_X11_of hb1 (g1 hs16_0)) ?_
    refine cV1v e_X11_sensor_71 cl_X11_318 ⟨Nat.le_of_ble_eq_true rfl, Nat.le_of_ble_eq_true rfl⟩ ⟨rfl, rfl⟩ k0 (Nat.le_of_ble_eq_true rfl) (S_X11_seenX hb1) ?_
    refine r_ireturn e_X11_sensor_74 rfl ⟨rfl, rfl⟩ ?_
    (refine ⟨?_, rfl, ?_⟩ <;> ((try unfold V_X11_sensor); (try simp only [if_pos hs16_0]); (try rfl)))
  · by_cases hs16_1 : x1 = 1
    · refine r_tabIn (tgt := 75) (off := 59) e_X11_sensor_16 (by rw [hs16_1]; decide) (by rw [hs16_1]; decide) (by rw [hs16_1]; rfl) (by decide) ?_
      refine r_aload_n e_X11_sensor_75 rfl ?_
      refine r_aload_n e_X11_sensor_76 rfl ?_
      refine r_aload_n e_X11_sensor_77 rfl ?_
      refine r_getI e_X11_sensor_78 fl_X11_315 i0 k0 ?_
      refine r_bipush e_X11_sensor_81 bp_9 ?_
      refine cV2v e_X11_sensor_83 cl_X11_252 ⟨Nat.le_of_ble_eq_true rfl, Nat.le_of_ble_eq_true rfl⟩ ⟨rfl, rfl⟩ k0 (Nat.le_of_ble_eq_true rfl) (S_X11_of hb1 (g2 hs16_1)) ?_
      refine cV1v e_X11_sensor_86 cl_X11_321 ⟨Nat.le_of_ble_eq_true rfl, Nat.le_of_ble_eq_true rfl⟩ ⟨rfl, rfl⟩ k0 (Nat.le_of_ble_eq_true rfl) (S_X11_seenY hb1) ?_
      refine r_ireturn e_X11_sensor_89 rfl ⟨rfl, rfl⟩ ?_
      (refine ⟨?_, rfl, ?_⟩ <;> ((try unfold V_X11_sensor); (try simp only [if_neg hs16_0, if_pos hs16_1]); (try rfl)))
    · by_cases hs16_2 : x1 = 2
      · refine r_tabIn (tgt := 90) (off := 74) e_X11_sensor_16 (by rw [hs16_2]; decide) (by rw [hs16_2]; decide) (by rw [hs16_2]; rfl) (by decide) ?_
        refine r_aload_n e_X11_sensor_90 rfl ?_
        refine r_aload_n e_X11_sensor_91 rfl ?_
        refine r_aload_n e_X11_sensor_92 rfl ?_
        refine r_getI e_X11_sensor_93 fl_X11_315 i0 k0 ?_
        refine r_iconst e_X11_sensor_96 ic_0 ?_
        refine cV2v e_X11_sensor_97 cl_X11_252 ⟨Nat.le_of_ble_eq_true rfl, Nat.le_of_ble_eq_true rfl⟩ ⟨rfl, rfl⟩ k0 (Nat.le_of_ble_eq_true rfl) (S_X11_of hb1 (g3 hs16_2)) ?_
        refine cV1v e_X11_sensor_100 cl_X11_318 ⟨Nat.le_of_ble_eq_true rfl, Nat.le_of_ble_eq_true rfl⟩ ⟨rfl, rfl⟩ k0 (Nat.le_of_ble_eq_true rfl) (S_X11_seenX hb1) ?_
        refine r_ireturn e_X11_sensor_103 rfl ⟨rfl, rfl⟩ ?_
        (refine ⟨?_, rfl, ?_⟩ <;> ((try unfold V_X11_sensor); (try simp only [if_neg hs16_0, if_neg hs16_1, if_pos hs16_2]); (try rfl)))
      · by_cases hs16_3 : x1 = 3
        · refine r_tabIn (tgt := 104) (off := 88) e_X11_sensor_16 (by rw [hs16_3]; decide) (by rw [hs16_3]; decide) (by rw [hs16_3]; rfl) (by decide) ?_
          refine r_aload_n e_X11_sensor_104 rfl ?_
          refine r_aload_n e_X11_sensor_105 rfl ?_
          refine r_aload_n e_X11_sensor_106 rfl ?_
          refine r_getI e_X11_sensor_107 fl_X11_315 i0 k0 ?_
          refine r_iconst e_X11_sensor_110 ic_1 ?_
          refine cV2v e_X11_sensor_111 cl_X11_252 ⟨Nat.le_of_ble_eq_true rfl, Nat.le_of_ble_eq_true rfl⟩ ⟨rfl, rfl⟩ k0 (Nat.le_of_ble_eq_true rfl) (S_X11_of hb1 (g4 hs16_3)) ?_
          refine cV1v e_X11_sensor_114 cl_X11_321 ⟨Nat.le_of_ble_eq_true rfl, Nat.le_of_ble_eq_true rfl⟩ ⟨rfl, rfl⟩ k0 (Nat.le_of_ble_eq_true rfl) (S_X11_seenY hb1) ?_
          refine r_ireturn e_X11_sensor_117 rfl ⟨rfl, rfl⟩ ?_
          (refine ⟨?_, rfl, ?_⟩ <;> ((try unfold V_X11_sensor); (try simp only [if_neg hs16_0, if_neg hs16_1, if_neg hs16_2, if_pos hs16_3]); (try rfl)))
        · by_cases hs16_4 : x1 = 4
          · refine r_tabIn (tgt := 118) (off := 102) e_X11_sensor_16 (by rw [hs16_4]; decide) (by rw [hs16_4]; decide) (by rw [hs16_4]; rfl) (by decide) ?_
            refine r_iload_n e_X11_sensor_118 rfl ?_
            obtain ⟨v0_0, e_v0_0⟩ : ∃ z : Int32, z = (if 0 ≤ (M.1 mA (16 : Int32).toNatClampNeg) then (if (M.1 mA (16 : Int32).toNatClampNeg) = (M.1 242 33) then (2 : Int32) else (if ((M.1 mA (16 : Int32).toNatClampNeg) / (5 : Int32)) = ((M.1 242 33) / (5 : Int32)) then (1 : Int32) else (-1 : Int32))) else (0 : Int32)) := ⟨_, rfl⟩
            suffices j150_0 : WP m_X11_sensor (fun r sh' M'' => r = some (.int (V_X11_sensor x1 mA M)) ∧ sh' = sh ∧ M'' = M) 150 [some (.ref 242), some (.int x1), some (.int (M.1 mA (16 : Int32).toNatClampNeg)), some (.int ((M.1 242 33) / (5 : Int32)))] [.int v0_0] sh M 0 0 by
              refine r_if_ge e_X11_sensor_119 (fun h119_0 => ?_) (fun h119_0 => ?_)
              · refine r_iload_n e_X11_sensor_126 rfl ?_
                refine r_aload_n e_X11_sensor_127 rfl ?_
                refine r_getI e_X11_sensor_128 fl_X11_315 i0 k0 ?_
                refine r_icmp_ne e_X11_sensor_131 (fun h131_1 => ?_) (fun h131_1 => ?_)
                · refine r_iload_n e_X11_sensor_138 rfl ?_
                  refine r_iconst e_X11_sensor_139 ic_5 ?_
                  refine r_idiv e_X11_sensor_140 (by decide) ?_
                  refine r_iload_n e_X11_sensor_141 rfl ?_
                  refine r_icmp_ne e_X11_sensor_142 (fun h142_2 => ?_) (fun h142_2 => ?_)
                  · refine r_iconst e_X11_sensor_149 ic_m1 ?_
                    rw [show v0_0 = (-1 : Int32) from (((e_v0_0.trans (if_pos h119_0)).trans (if_neg h131_1)).trans (if_neg h142_2))] at j150_0; exact j150_0
                  · refine r_iconst e_X11_sensor_145 ic_1 ?_
                    refine r_goto e_X11_sensor_146 ?_
                    rw [show v0_0 = (1 : Int32) from (((e_v0_0.trans (if_pos h119_0)).trans (if_neg h131_1)).trans (if_pos h142_2))] at j150_0; exact j150_0
                · refine r_iconst e_X11_sensor_134 ic_2 ?_
                  refine r_goto e_X11_sensor_135 ?_
                  rw [show v0_0 = (2 : Int32) from ((e_v0_0.trans (if_pos h119_0)).trans (if_pos h131_1))] at j150_0; exact j150_0
              · refine r_iconst e_X11_sensor_122 ic_0 ?_
                refine r_goto e_X11_sensor_123 ?_
                rw [show v0_0 = (0 : Int32) from (e_v0_0.trans (if_neg h119_0))] at j150_0; exact j150_0
            refine r_ireturn e_X11_sensor_150 rfl ⟨rfl, rfl⟩ ?_
            (subst e_v0_0; refine ⟨?_, rfl, ?_⟩ <;> ((try unfold V_X11_sensor); (try simp only [if_neg hs16_0, if_neg hs16_1, if_neg hs16_2, if_neg hs16_3, if_pos hs16_4]); (try rfl)))
          · by_cases hs16_5 : x1 = 5
            · refine r_tabIn (tgt := 151) (off := 135) e_X11_sensor_16 (by rw [hs16_5]; decide) (by rw [hs16_5]; decide) (by rw [hs16_5]; rfl) (by decide) ?_
              refine r_aload_n e_X11_sensor_151 rfl ?_
              refine r_getR e_X11_sensor_152 fl_X11_212 k0 k1 ?_
              refine r_iconst e_X11_sensor_155 ic_3 ?_
              refine r_iaload e_X11_sensor_156 k2 (by unfold vp_in; decide) ?_
              refine r_ireturn e_X11_sensor_157 rfl ⟨rfl, rfl⟩ ?_
              (refine ⟨?_, rfl, ?_⟩ <;> ((try unfold V_X11_sensor); (try simp only [if_neg hs16_0, if_neg hs16_1, if_neg hs16_2, if_neg hs16_3, if_neg hs16_4, if_pos hs16_5]); (try rfl)))
            · by_cases hs16_6 : x1 = 6
              · refine r_tabIn (tgt := 158) (off := 142) e_X11_sensor_16 (by rw [hs16_6]; decide) (by rw [hs16_6]; decide) (by rw [hs16_6]; rfl) (by decide) ?_
                refine r_aload_n e_X11_sensor_158 rfl ?_
                refine r_getR e_X11_sensor_159 fl_X11_212 k0 k1 ?_
                refine r_iconst e_X11_sensor_162 ic_4 ?_
                refine r_iload_n e_X11_sensor_163 rfl ?_
                refine r_iadd e_X11_sensor_164 ?_
                refine r_iaload e_X11_sensor_165 k2 (g5 hs16_6) ?_
                refine r_aload_n e_X11_sensor_166 rfl ?_
                refine r_getR e_X11_sensor_167 fl_X11_212 k0 k1 ?_
                refine r_iconst e_X11_sensor_170 ic_5 ?_
                refine r_iload_n e_X11_sensor_171 rfl ?_
                refine r_isub e_X11_sensor_172 ?_
                refine r_iaload e_X11_sensor_173 k2 (g6 hs16_6) ?_
                refine r_isub e_X11_sensor_174 ?_
                refine r_ireturn e_X11_sensor_175 rfl ⟨rfl, rfl⟩ ?_
                (refine ⟨?_, rfl, ?_⟩ <;> ((try unfold V_X11_sensor); (try simp only [if_neg hs16_0, if_neg hs16_1, if_neg hs16_2, if_neg hs16_3, if_neg hs16_4, if_neg hs16_5, if_pos hs16_6]); (try rfl)))
              · refine r_tabOut (tgt := 176) e_X11_sensor_16 (by have q0 := lv_neT hs16_0 (show (0 : Int32).toInt = 0 from rfl); have q1 := lv_neT hs16_1 (show (1 : Int32).toInt = 1 from rfl); have q2 := lv_neT hs16_2 (show (2 : Int32).toInt = 2 from rfl); have q3 := lv_neT hs16_3 (show (3 : Int32).toInt = 3 from rfl); have q4 := lv_neT hs16_4 (show (4 : Int32).toInt = 4 from rfl); have q5 := lv_neT hs16_5 (show (5 : Int32).toInt = 5 from rfl); have q6 := lv_neT hs16_6 (show (6 : Int32).toInt = 6 from rfl); omega) (by decide) ?_
                refine r_aload_n e_X11_sensor_176 rfl ?_
                refine r_aload_n e_X11_sensor_177 rfl ?_
                refine r_getI e_X11_sensor_178 fl_X11_315 i0 k0 ?_
                refine r_iconst e_X11_sensor_181 ic_0 ?_
                refine cV2v e_X11_sensor_182 cl_X11_252 ⟨Nat.le_of_ble_eq_true rfl, Nat.le_of_ble_eq_true rfl⟩ ⟨rfl, rfl⟩ k0 (Nat.le_of_ble_eq_true rfl) (S_X11_of hb1 g7) ?_
                refine r_aload_n e_X11_sensor_185 rfl ?_
                refine r_aload_n e_X11_sensor_186 rfl ?_
                refine r_getI e_X11_sensor_187 fl_X11_315 i0 k0 ?_
                refine r_iconst e_X11_sensor_190 ic_1 ?_
                refine cV2v e_X11_sensor_191 cl_X11_252 ⟨Nat.le_of_ble_eq_true rfl, Nat.le_of_ble_eq_true rfl⟩ ⟨rfl, rfl⟩ k0 (Nat.le_of_ble_eq_true rfl) (S_X11_of hb1 g8) ?_
                refine r_aload_n e_X11_sensor_194 rfl ?_
                refine r_aload_n e_X11_sensor_195 rfl ?_
                refine r_getI e_X11_sensor_196 fl_X11_315 i0 k0 ?_
                refine r_bipush e_X11_sensor_199 bp_8 ?_
                refine cV2v e_X11_sensor_201 cl_X11_252 ⟨Nat.le_of_ble_eq_true rfl, Nat.le_of_ble_eq_true rfl⟩ ⟨rfl, rfl⟩ k0 (Nat.le_of_ble_eq_true rfl) (S_X11_of hb1 g9) ?_
                refine r_aload_n e_X11_sensor_204 rfl ?_
                refine r_aload_n e_X11_sensor_205 rfl ?_
                refine r_getI e_X11_sensor_206 fl_X11_315 i0 k0 ?_
                refine r_bipush e_X11_sensor_209 bp_9 ?_
                refine cV2v e_X11_sensor_211 cl_X11_252 ⟨Nat.le_of_ble_eq_true rfl, Nat.le_of_ble_eq_true rfl⟩ ⟨rfl, rfl⟩ k0 (Nat.le_of_ble_eq_true rfl) (S_X11_of hb1 g10) ?_
                refine cS4v e_X11_sensor_214 cl_X11_274 ⟨Nat.le_of_ble_eq_true rfl, Nat.le_of_ble_eq_true rfl⟩ ⟨rfl, rfl⟩  (Nat.le_of_ble_eq_true rfl) (S_X11_distance ) ?_
                refine r_ireturn e_X11_sensor_217 rfl ⟨rfl, rfl⟩ ?_
                (refine ⟨?_, rfl, ?_⟩ <;> ((try unfold V_X11_sensor); (try simp only [if_neg hs16_0, if_neg hs16_1, if_neg hs16_2, if_neg hs16_3, if_neg hs16_4, if_neg hs16_5, if_neg hs16_6]); (try rfl)))
def V_X11_ball (x1 : Int32) (mA : Nat) (M : Mem) : Int32 := if (V_X11_isMatch  mA M) = 0 then (V_X11_finding (-1003 : Int32) M) else (if (V_X11_in x1 (0 : Int32) (5 : Int32) M) = 0 then (V_X11_finding (-1001 : Int32) M) else (V_X11_ballOf mA (0 : Int32) x1 212 M))
def U_X11_ball (x1 : Int32) (mA : Nat) (M : Mem) : Mem := if (V_X11_isMatch  mA M) = 0 then (U_X11_finding (-1003 : Int32) M) else (if (V_X11_in x1 (0 : Int32) (5 : Int32) M) = 0 then (U_X11_finding (-1001 : Int32) M) else M)
theorem S_X11_ball {sh : List SC} {M : Mem} {x1 : Int32} {mA : Nat} {oA : Nat} (hb1 : ModelAt sh mA oA) (g1 : ¬ ((V_X11_isMatch  mA M) = 0) → ¬ ((V_X11_in x1 (0 : Int32) (5 : Int32) M) = 0) → (0 ≤ (M.1 mA ((0 : Int32) + (16 : Int32)).toNatClampNeg) → ¬ ((3 : Int32) ≤ x1) → vp_in (((0 : Int32) + (14 : Int32)) + x1) 212)) (g2 : ¬ ((V_X11_isMatch  mA M) = 0) → ¬ ((V_X11_in x1 (0 : Int32) (5 : Int32) M) = 0) → (¬ (0 ≤ (M.1 mA ((0 : Int32) + (16 : Int32)).toNatClampNeg)) → vp_in ((0 : Int32) + (17 : Int32)) 212)) (g3 : ¬ ((V_X11_isMatch  mA M) = 0) → ¬ ((V_X11_in x1 (0 : Int32) (5 : Int32) M) = 0) → (¬ (0 ≤ (M.1 mA ((0 : Int32) + (16 : Int32)).toNatClampNeg)) → (M.1 mA ((0 : Int32) + (17 : Int32)).toNatClampNeg) ≤ 0 → ¬ ((3 : Int32) ≤ x1) → vp_in (((0 : Int32) + (14 : Int32)) + x1) 212)) (g4 : ¬ ((V_X11_isMatch  mA M) = 0) → ¬ ((V_X11_in x1 (0 : Int32) (5 : Int32) M) = 0) → (¬ (0 ≤ (M.1 mA ((0 : Int32) + (16 : Int32)).toNatClampNeg)) → ¬ ((M.1 mA ((0 : Int32) + (17 : Int32)).toNatClampNeg) ≤ 0) → (3 : Int32) ≤ x1 → vp_in (((0 : Int32) + (14 : Int32)) + x1) 212)) (g5 : ¬ ((V_X11_isMatch  mA M) = 0) → ¬ ((V_X11_in x1 (0 : Int32) (5 : Int32) M) = 0) → (¬ (0 ≤ (M.1 mA ((0 : Int32) + (16 : Int32)).toNatClampNeg)) → ¬ ((M.1 mA ((0 : Int32) + (17 : Int32)).toNatClampNeg) ≤ 0) → ¬ ((3 : Int32) ≤ x1) → vp_in (((0 : Int32) + (14 : Int32)) + x1) 212)) : Gv m_X11_ball [.ref 242, .int x1] sh M (.int (V_X11_ball x1 mA M)) (U_X11_ball x1 mA M) := by
  refine Sp.of (ls := [some (.ref 242), some (.int x1)]) (by decide +kernel) (Nat.le_of_ble_eq_true rfl) rfl ?_
  have k0 : kd sh 242 = some (10 + 7, 0) := hb1.1
  have k1 : rf sh 242 27 = some mA := hb1.2.2.2.2.2.2.2.2.2.2.2.2.2.2.2.2.2.1
  have k2 : kd sh mA = some (0, 212) := hb1.2.2.2.2.2.2.2.2.2.2.2.2.2.2.2.2.2.2.2.2.2.2.2.2.2.2.2.2.2.2.2.2.2.2.2.2.2.2.2.2.2.2.2.2.2.2.2.2.2.2.2.1
  refine r_aload_n e_X11_ball_0 rfl ?_
  refine cV0v e_X11_ball_1 cl_X11_394 ⟨Nat.le_of_ble_eq_true rfl, Nat.le_of_ble_eq_true rfl⟩ ⟨rfl, rfl⟩ k0 (Nat.le_of_ble_eq_true rfl) (S_X11_isMatch hb1) ?_
  refine r_if_ne e_X11_ball_4 (fun h4_0 => ?_) (fun h4_0 => ?_)
  · refine r_iload_n e_X11_ball_15 rfl ?_
    refine r_iconst e_X11_ball_16 ic_0 ?_
    refine r_iconst e_X11_ball_17 ic_5 ?_
    refine cS3v e_X11_ball_18 cl_X11_245 ⟨Nat.le_of_ble_eq_true rfl, Nat.le_of_ble_eq_true rfl⟩ ⟨rfl, rfl⟩  (Nat.le_of_ble_eq_true rfl) (S_X11_in ) ?_
    refine r_if_ne e_X11_ball_21 (fun h21_1 => ?_) (fun h21_1 => ?_)
    · refine r_aload_n e_X11_ball_32 rfl ?_
      refine r_getR e_X11_ball_33 fl_X11_212 k0 k1 ?_
      refine r_iconst e_X11_ball_36 ic_0 ?_
      refine r_iload_n e_X11_ball_37 rfl ?_
      refine cS3v e_X11_ball_38 cl_X11_400 ⟨Nat.le_of_ble_eq_true rfl, Nat.le_of_ble_eq_true rfl⟩ ⟨rfl, rfl⟩  (Nat.le_of_ble_eq_true rfl) (S_X11_ballOf k2 (by first | decide | (unfold vp_in; decide) | exact Or.inl rfl | exact Or.inr rfl) (g1 h4_0 h21_1) (g2 h4_0 h21_1) (g3 h4_0 h21_1) (g4 h4_0 h21_1) (g5 h4_0 h21_1)) ?_
      refine r_ireturn e_X11_ball_41 rfl ⟨rfl, rfl⟩ ?_
      (refine ⟨?_, rfl, ?_⟩ <;> ((try unfold V_X11_ball); (try unfold U_X11_ball); (try simp only [if_neg h4_0, if_neg h21_1]); (try rfl)))
    · refine r_aload_n e_X11_ball_24 rfl ?_
      refine r_sipush e_X11_ball_25 sp_m1001 ?_
      refine cV1v e_X11_ball_28 cl_X11_178 ⟨Nat.le_of_ble_eq_true rfl, Nat.le_of_ble_eq_true rfl⟩ ⟨rfl, rfl⟩ k0 (Nat.le_of_ble_eq_true rfl) (S_X11_finding hb1 (by first | decide | (unfold vp_in; decide) | exact Or.inl rfl | exact Or.inr rfl)) ?_
      refine r_ireturn e_X11_ball_31 rfl ⟨rfl, rfl⟩ ?_
      (refine ⟨?_, rfl, ?_⟩ <;> ((try unfold V_X11_ball); (try unfold U_X11_ball); (try simp only [if_neg h4_0, if_pos h21_1]); (try rfl)))
  · refine r_aload_n e_X11_ball_7 rfl ?_
    refine r_sipush e_X11_ball_8 sp_m1003 ?_
    refine cV1v e_X11_ball_11 cl_X11_178 ⟨Nat.le_of_ble_eq_true rfl, Nat.le_of_ble_eq_true rfl⟩ ⟨rfl, rfl⟩ k0 (Nat.le_of_ble_eq_true rfl) (S_X11_finding hb1 (by first | decide | (unfold vp_in; decide) | exact Or.inl rfl | exact Or.inr rfl)) ?_
    refine r_ireturn e_X11_ball_14 rfl ⟨rfl, rfl⟩ ?_
    (refine ⟨?_, rfl, ?_⟩ <;> ((try unfold V_X11_ball); (try unfold U_X11_ball); (try simp only [if_pos h4_0]); (try rfl)))
def V_X11_table (x1 : Int32) (x2 : Int32) (M : Mem) : Int32 := if (V_X11_isTeam x1 M) = 0 then (V_X11_finding (-1001 : Int32) M) else (if (V_X11_in x2 (0 : Int32) (2 : Int32) M) = 0 then (V_X11_finding (-1001 : Int32) M) else (if (V_X11_hasPlayed x1 M) = 0 then (V_X11_finding (-1004 : Int32) M) else (let v3_0 : Int32 := if x2 = 0 then (M.1 265 x1.toNatClampNeg) else (if x2 = (1 : Int32) then (M.1 266 x1.toNatClampNeg) else (M.1 267 x1.toNatClampNeg)); v3_0)))
def U_X11_table (x1 : Int32) (x2 : Int32) (M : Mem) : Mem := if (V_X11_isTeam x1 M) = 0 then (U_X11_finding (-1001 : Int32) M) else (if (V_X11_in x2 (0 : Int32) (2 : Int32) M) = 0 then (U_X11_finding (-1001 : Int32) M) else (if (V_X11_hasPlayed x1 M) = 0 then (U_X11_finding (-1004 : Int32) M) else M))
theorem S_X11_table {sh : List SC} {M : Mem} {x1 : Int32} {x2 : Int32} {mA : Nat} {oA : Nat} (hb1 : ModelAt sh mA oA) (g1 : ¬ ((V_X11_isTeam x1 M) = 0) → ¬ ((V_X11_in x2 (0 : Int32) (2 : Int32) M) = 0) → ¬ ((V_X11_hasPlayed x1 M) = 0) → ¬ (x2 = 0) → ¬ (x2 = (1 : Int32)) → vp_in x1 4) (g2 : ¬ ((V_X11_isTeam x1 M) = 0) → ¬ ((V_X11_in x2 (0 : Int32) (2 : Int32) M) = 0) → ¬ ((V_X11_hasPlayed x1 M) = 0) → ¬ (x2 = 0) → x2 = (1 : Int32) → vp_in x1 4) (g3 : ¬ ((V_X11_isTeam x1 M) = 0) → ¬ ((V_X11_in x2 (0 : Int32) (2 : Int32) M) = 0) → ¬ ((V_X11_hasPlayed x1 M) = 0) → x2 = 0 → vp_in x1 4) : Gv m_X11_table [.ref 242, .int x1, .int x2] sh M (.int (V_X11_table x1 x2 M)) (U_X11_table x1 x2 M) := by
  refine Sp.of (ls := [some (.ref 242), some (.int x1), some (.int x2)]) (by decide +kernel) (Nat.le_of_ble_eq_true rfl) rfl ?_
  have k0 : kd sh 242 = some (10 + 7, 0) := hb1.1
  have k1 : rf sh 242 45 = some 267 := hb1.2.2.2.2.2.2.2.2.2.2.2.2.2.2.2.2.2.2.2.2.2.2.2.2.2.1
  have k2 : kd sh 267 = some (0, 4) := hb1.2.2.2.2.2.2.2.2.2.2.2.2.2.2.2.2.2.2.2.2.2.2.2.2.2.2.2.2.2.2.2.2.2.2.2.2.2.2.2.2.2.2.2.2.2.2.2.2.2.1
  have k3 : rf sh 242 44 = some 266 := hb1.2.2.2.2.2.2.2.2.2.2.2.2.2.2.2.2.2.2.2.2.2.2.2.2.1
  have k4 : kd sh 266 = some (0, 4) := hb1.2.2.2.2.2.2.2.2.2.2.2.2.2.2.2.2.2.2.2.2.2.2.2.2.2.2.2.2.2.2.2.2.2.2.2.2.2.2.2.2.2.2.2.2.2.2.2.2.1
  have k5 : rf sh 242 43 = some 265 := hb1.2.2.2.2.2.2.2.2.2.2.2.2.2.2.2.2.2.2.2.2.2.2.2.1
  have k6 : kd sh 265 = some (0, 4) := hb1.2.2.2.2.2.2.2.2.2.2.2.2.2.2.2.2.2.2.2.2.2.2.2.2.2.2.2.2.2.2.2.2.2.2.2.2.2.2.2.2.2.2.2.2.2.2.2.1
  refine r_iload_n e_X11_table_0 rfl ?_
  refine cS1v e_X11_table_1 cl_X11_249 ⟨Nat.le_of_ble_eq_true rfl, Nat.le_of_ble_eq_true rfl⟩ ⟨rfl, rfl⟩  (Nat.le_of_ble_eq_true rfl) (S_X11_isTeam ) ?_
  refine r_if_eq e_X11_table_4 (fun h4_0 => ?_) (fun h4_0 => ?_)
  · refine r_aload_n e_X11_table_16 rfl ?_
    refine r_sipush e_X11_table_17 sp_m1001 ?_
    refine cV1v e_X11_table_20 cl_X11_178 ⟨Nat.le_of_ble_eq_true rfl, Nat.le_of_ble_eq_true rfl⟩ ⟨rfl, rfl⟩ k0 (Nat.le_of_ble_eq_true rfl) (S_X11_finding hb1 (by first | decide | (unfold vp_in; decide) | exact Or.inl rfl | exact Or.inr rfl)) ?_
    refine r_ireturn e_X11_table_23 rfl ⟨rfl, rfl⟩ ?_
    (refine ⟨?_, rfl, ?_⟩ <;> ((try unfold V_X11_table); (try unfold U_X11_table); (try simp only [if_pos h4_0]); (try rfl)))
  · refine r_iload_n e_X11_table_7 rfl ?_
    refine r_iconst e_X11_table_8 ic_0 ?_
    refine r_iconst e_X11_table_9 ic_2 ?_
    refine cS3v e_X11_table_10 cl_X11_245 ⟨Nat.le_of_ble_eq_true rfl, Nat.le_of_ble_eq_true rfl⟩ ⟨rfl, rfl⟩  (Nat.le_of_ble_eq_true rfl) (S_X11_in ) ?_
    refine r_if_ne e_X11_table_13 (fun h13_1 => ?_) (fun h13_1 => ?_)
    · refine r_aload_n e_X11_table_24 rfl ?_
      refine r_iload_n e_X11_table_25 rfl ?_
      refine cV1v e_X11_table_26 cl_X11_414 ⟨Nat.le_of_ble_eq_true rfl, Nat.le_of_ble_eq_true rfl⟩ ⟨rfl, rfl⟩ k0 (Nat.le_of_ble_eq_true rfl) (S_X11_hasPlayed hb1) ?_
      refine r_if_ne e_X11_table_29 (fun h29_2 => ?_) (fun h29_2 => ?_)
      · refine r_iload_n e_X11_table_40 rfl ?_
        obtain ⟨v3_0, e_v3_0⟩ : ∃ z : Int32, z = (if x2 = 0 then (M.1 265 x1.toNatClampNeg) else (if x2 = (1 : Int32) then (M.1 266 x1.toNatClampNeg) else (M.1 267 x1.toNatClampNeg))) := ⟨_, rfl⟩
        suffices j73_3 : WP m_X11_table (fun r sh' M'' => r = some (.int (V_X11_table x1 x2 M)) ∧ sh' = sh ∧ M'' = (U_X11_table x1 x2 M)) 73 [some (.ref 242), some (.int x1), some (.int x2)] [.int v3_0] sh M 0 0 by
          refine r_if_ne e_X11_table_41 (fun h41_3 => ?_) (fun h41_3 => ?_)
          · refine r_iload_n e_X11_table_53 rfl ?_
            refine r_iconst e_X11_table_54 ic_1 ?_
            refine r_icmp_ne e_X11_table_55 (fun h55_4 => ?_) (fun h55_4 => ?_)
            · refine r_aload_n e_X11_table_67 rfl ?_
              refine r_getR e_X11_table_68 fl_X11_239 k0 k1 ?_
              refine r_iload_n e_X11_table_71 rfl ?_
              refine r_iaload e_X11_table_72 k2 (g1 h4_0 h13_1 h29_2 h41_3 h55_4) ?_
              rw [show v3_0 = (M.1 267 x1.toNatClampNeg) from ((e_v3_0.trans (if_neg h41_3)).trans (if_neg h55_4))] at j73_3; exact j73_3
            · refine r_aload_n e_X11_table_58 rfl ?_
              refine r_getR e_X11_table_59 fl_X11_236 k0 k3 ?_
              refine r_iload_n e_X11_table_62 rfl ?_
              refine r_iaload e_X11_table_63 k4 (g2 h4_0 h13_1 h29_2 h41_3 h55_4) ?_
              refine r_goto e_X11_table_64 ?_
              rw [show v3_0 = (M.1 266 x1.toNatClampNeg) from ((e_v3_0.trans (if_neg h41_3)).trans (if_pos h55_4))] at j73_3; exact j73_3
          · refine r_aload_n e_X11_table_44 rfl ?_
            refine r_getR e_X11_table_45 fl_X11_233 k0 k5 ?_
            refine r_iload_n e_X11_table_48 rfl ?_
            refine r_iaload e_X11_table_49 k6 (g3 h4_0 h13_1 h29_2 h41_3) ?_
            refine r_goto e_X11_table_50 ?_
            rw [show v3_0 = (M.1 265 x1.toNatClampNeg) from (e_v3_0.trans (if_pos h41_3))] at j73_3; exact j73_3
        refine r_ireturn e_X11_table_73 rfl ⟨rfl, rfl⟩ ?_
        (subst e_v3_0; refine ⟨?_, rfl, ?_⟩ <;> ((try unfold V_X11_table); (try unfold U_X11_table); (try simp only [if_neg h4_0, if_neg h13_1, if_neg h29_2]); (try rfl)))
      · refine r_aload_n e_X11_table_32 rfl ?_
        refine r_sipush e_X11_table_33 sp_m1004 ?_
        refine cV1v e_X11_table_36 cl_X11_178 ⟨Nat.le_of_ble_eq_true rfl, Nat.le_of_ble_eq_true rfl⟩ ⟨rfl, rfl⟩ k0 (Nat.le_of_ble_eq_true rfl) (S_X11_finding hb1 (by first | decide | (unfold vp_in; decide) | exact Or.inl rfl | exact Or.inr rfl)) ?_
        refine r_ireturn e_X11_table_39 rfl ⟨rfl, rfl⟩ ?_
        (refine ⟨?_, rfl, ?_⟩ <;> ((try unfold V_X11_table); (try unfold U_X11_table); (try simp only [if_neg h4_0, if_neg h13_1, if_pos h29_2]); (try rfl)))
    · refine r_aload_n e_X11_table_16 rfl ?_
      refine r_sipush e_X11_table_17 sp_m1001 ?_
      refine cV1v e_X11_table_20 cl_X11_178 ⟨Nat.le_of_ble_eq_true rfl, Nat.le_of_ble_eq_true rfl⟩ ⟨rfl, rfl⟩ k0 (Nat.le_of_ble_eq_true rfl) (S_X11_finding hb1 (by first | decide | (unfold vp_in; decide) | exact Or.inl rfl | exact Or.inr rfl)) ?_
      refine r_ireturn e_X11_table_23 rfl ⟨rfl, rfl⟩ ?_
      (refine ⟨?_, rfl, ?_⟩ <;> ((try unfold V_X11_table); (try unfold U_X11_table); (try simp only [if_neg h4_0, if_pos h13_1]); (try rfl)))
def U_X2_putAtStart (a : Nat) (x1 : Int32) (M : Mem) : Mem := if x1 < 0 then M else (if x1 < (10 : Int32) then (let M2_0 : Mem := if ((U_X5_leave (a + 10 + 2 * x1.toNatClampNeg) M).1 (a + 4) 2) = x1 then (U_X0_go (a + 4) ((V_X2_freeCell a ((U_X5_leave (a + 10 + 2 * x1.toNatClampNeg) M).1 (a + 10 + 2 * x1.toNatClampNeg) 4) ((U_X5_leave (a + 10 + 2 * x1.toNatClampNeg) M).1 (a + 10 + 2 * x1.toNatClampNeg) 5) (U_X5_leave (a + 10 + 2 * x1.toNatClampNeg) M)) - (V_X2_freeCell a ((U_X5_leave (a + 10 + 2 * x1.toNatClampNeg) M).1 (a + 10 + 2 * x1.toNatClampNeg) 4) ((U_X5_leave (a + 10 + 2 * x1.toNatClampNeg) M).1 (a + 10 + 2 * x1.toNatClampNeg) 5) (U_X5_leave (a + 10 + 2 * x1.toNatClampNeg) M)) / (15 : Int32) * (15 : Int32)) ((V_X2_freeCell a ((U_X5_leave (a + 10 + 2 * x1.toNatClampNeg) M).1 (a + 10 + 2 * x1.toNatClampNeg) 4) ((U_X5_leave (a + 10 + 2 * x1.toNatClampNeg) M).1 (a + 10 + 2 * x1.toNatClampNeg) 5) (U_X5_leave (a + 10 + 2 * x1.toNatClampNeg) M)) / (15 : Int32)) (setI (setI (U_X5_leave (a + 10 + 2 * x1.toNatClampNeg) M) (a + 10 + 2 * x1.toNatClampNeg) 2 ((V_X2_freeCell a ((U_X5_leave (a + 10 + 2 * x1.toNatClampNeg) M).1 (a + 10 + 2 * x1.toNatClampNeg) 4) ((U_X5_leave (a + 10 + 2 * x1.toNatClampNeg) M).1 (a + 10 + 2 * x1.toNatClampNeg) 5) (U_X5_leave (a + 10 + 2 * x1.toNatClampNeg) M)) - (V_X2_freeCell a ((U_X5_leave (a + 10 + 2 * x1.toNatClampNeg) M).1 (a + 10 + 2 * x1.toNatClampNeg) 4) ((U_X5_leave (a + 10 + 2 * x1.toNatClampNeg) M).1 (a + 10 + 2 * x1.toNatClampNeg) 5) (U_X5_leave (a + 10 + 2 * x1.toNatClampNeg) M)) / (15 : Int32) * (15 : Int32))) (a + 10 + 2 * x1.toNatClampNeg) 3 ((V_X2_freeCell a ((U_X5_leave (a + 10 + 2 * x1.toNatClampNeg) M).1 (a + 10 + 2 * x1.toNatClampNeg) 4) ((U_X5_leave (a + 10 + 2 * x1.toNatClampNeg) M).1 (a + 10 + 2 * x1.toNatClampNeg) 5) (U_X5_leave (a + 10 + 2 * x1.toNatClampNeg) M)) / (15 : Int32)))) else (setI (setI (U_X5_leave (a + 10 + 2 * x1.toNatClampNeg) M) (a + 10 + 2 * x1.toNatClampNeg) 2 ((V_X2_freeCell a ((U_X5_leave (a + 10 + 2 * x1.toNatClampNeg) M).1 (a + 10 + 2 * x1.toNatClampNeg) 4) ((U_X5_leave (a + 10 + 2 * x1.toNatClampNeg) M).1 (a + 10 + 2 * x1.toNatClampNeg) 5) (U_X5_leave (a + 10 + 2 * x1.toNatClampNeg) M)) - (V_X2_freeCell a ((U_X5_leave (a + 10 + 2 * x1.toNatClampNeg) M).1 (a + 10 + 2 * x1.toNatClampNeg) 4) ((U_X5_leave (a + 10 + 2 * x1.toNatClampNeg) M).1 (a + 10 + 2 * x1.toNatClampNeg) 5) (U_X5_leave (a + 10 + 2 * x1.toNatClampNeg) M)) / (15 : Int32) * (15 : Int32))) (a + 10 + 2 * x1.toNatClampNeg) 3 ((V_X2_freeCell a ((U_X5_leave (a + 10 + 2 * x1.toNatClampNeg) M).1 (a + 10 + 2 * x1.toNatClampNeg) 4) ((U_X5_leave (a + 10 + 2 * x1.toNatClampNeg) M).1 (a + 10 + 2 * x1.toNatClampNeg) 5) (U_X5_leave (a + 10 + 2 * x1.toNatClampNeg) M)) / (15 : Int32))); M2_0) else M)
theorem S_X2_putAtStart {sh : List SC} {M : Mem} {a : Nat} {x1 : Int32}  (hb1 : MatchAt sh a)  : Gu m_X2_putAtStart [.ref a, .int x1] sh M (U_X2_putAtStart a x1 M) := by
  refine Sp.of (ls := [some (.ref a), some (.int x1), none, none]) (by decide +kernel) (Nat.le_of_ble_eq_true rfl) rfl ?_
  have k0 : kd sh a = some (2 + 7, 0) := hb1.1
  have k1 : rf sh a 3 = some (a + 3) := hb1.2.2.2.2.1
  have k2 : kd sh (a + 3) = some (6, 10) := hb1.2.2.2.2.2.2.2.1
  have k3 : rf sh a 4 = some (a + 4) := hb1.2.2.2.2.2.1
  have k4 : kd sh (a + 4) = some (0 + 7, 0) := hb1.2.2.2.2.2.2.2.2.2.1.1
  refine r_iload_n e_X2_putAtStart_0 rfl ?_
  refine r_if_lt e_X2_putAtStart_1 (fun h1_0 => ?_) (fun h1_0 => ?_)
  · refine r_return e_X2_putAtStart_13 rfl ⟨rfl, rfl⟩ ?_
    (refine ⟨?_, rfl, ?_⟩ <;> ((try unfold U_X2_putAtStart); (try simp only [if_pos h1_0]); (try rfl)))
  · refine r_iload_n e_X2_putAtStart_4 rfl ?_
    refine r_aload_n e_X2_putAtStart_5 rfl ?_
    refine r_getR e_X2_putAtStart_6 fl_X2_20 k0 k1 ?_
    refine r_alen (v := (10 : Int32)) e_X2_putAtStart_9 k2 (by decide) rfl ?_
    refine r_icmp_lt e_X2_putAtStart_10 (fun h10_1 => ?_) (fun h10_1 => ?_)
    · refine r_aload_n e_X2_putAtStart_14 rfl ?_
      refine r_getR e_X2_putAtStart_15 fl_X2_20 k0 k1 ?_
      refine r_iload_n e_X2_putAtStart_18 rfl ?_
      refine r_aaload (b := (a + 10 + 2 * x1.toNatClampNeg)) e_X2_putAtStart_19 k2 ⟨by decide, by decide⟩ (vp_guard h1_0 (i_nle h10_1) (by decide)) (hb1.2.2.2.2.2.2.2.2.1 x1.toNatClampNeg (vp_lt (vp_guard h1_0 (i_nle h10_1) (by decide)))).1 ?_
      refine p_astore_n_4_2 e_X2_putAtStart_20 rfl rfl ?_
      refine r_aload_n e_X2_putAtStart_21 rfl ?_
      refine cV0u e_X2_putAtStart_22 cl_X2_94 ⟨Nat.le_of_ble_eq_true rfl, Nat.le_of_ble_eq_true rfl⟩ ⟨rfl, rfl⟩ (show kd sh (a + 10 + 2 * x1.toNatClampNeg) = some (5 + 7, 0) from (hb1.2.2.2.2.2.2.2.2.1 x1.toNatClampNeg (vp_lt (vp_guard h1_0 (i_nle h10_1) (by decide)))).2.1) (Nat.le_of_ble_eq_true rfl) (S_X5_leave (hb1.2.2.2.2.2.2.2.2.1 x1.toNatClampNeg (vp_lt (vp_guard h1_0 (i_nle h10_1) (by decide)))).2) ?_
      refine r_aload_n e_X2_putAtStart_25 rfl ?_
      refine r_aload_n e_X2_putAtStart_26 rfl ?_
      refine r_getI e_X2_putAtStart_27 fl_X2_120 i0 (show kd sh (a + 10 + 2 * x1.toNatClampNeg) = some (5 + 7, 0) from (hb1.2.2.2.2.2.2.2.2.1 x1.toNatClampNeg (vp_lt (vp_guard h1_0 (i_nle h10_1) (by decide)))).2.1) ?_
      refine r_aload_n e_X2_putAtStart_30 rfl ?_
      refine r_getI e_X2_putAtStart_31 fl_X2_123 i0 (show kd sh (a + 10 + 2 * x1.toNatClampNeg) = some (5 + 7, 0) from (hb1.2.2.2.2.2.2.2.2.1 x1.toNatClampNeg (vp_lt (vp_guard h1_0 (i_nle h10_1) (by decide)))).2.1) ?_
      refine cV2v e_X2_putAtStart_34 cl_X2_126 ⟨Nat.le_of_ble_eq_true rfl, Nat.le_of_ble_eq_true rfl⟩ ⟨rfl, rfl⟩ k0 (Nat.le_of_ble_eq_true rfl) (S_X2_freeCell hb1) ?_
      refine p_istore_n_4_3 e_X2_putAtStart_37 rfl rfl ?_
      refine r_aload_n e_X2_putAtStart_38 rfl ?_
      refine r_iload_n e_X2_putAtStart_39 rfl ?_
      refine r_bipush e_X2_putAtStart_40 bp_15 ?_
      refine r_irem e_X2_putAtStart_42 (by decide) ?_
      refine r_putI e_X2_putAtStart_43 fl_X2_130 (show kd sh (a + 10 + 2 * x1.toNatClampNeg) = some (5 + 7, 0) from (hb1.2.2.2.2.2.2.2.2.1 x1.toNatClampNeg (vp_lt (vp_guard h1_0 (i_nle h10_1) (by decide)))).2.1) ?_
      refine r_aload_n e_X2_putAtStart_46 rfl ?_
      refine r_iload_n e_X2_putAtStart_47 rfl ?_
      refine r_bipush e_X2_putAtStart_48 bp_15 ?_
      refine r_idiv e_X2_putAtStart_50 (by decide) ?_
      refine r_putI e_X2_putAtStart_51 fl_X2_131 (show kd sh (a + 10 + 2 * x1.toNatClampNeg) = some (5 + 7, 0) from (hb1.2.2.2.2.2.2.2.2.1 x1.toNatClampNeg (vp_lt (vp_guard h1_0 (i_nle h10_1) (by decide)))).2.1) ?_
      refine r_aload_n e_X2_putAtStart_54 rfl ?_
      refine r_getR e_X2_putAtStart_55 fl_X2_27 k0 k3 ?_
      refine r_getIe e_X2_putAtStart_58 fl_X2_132 i0 k4 ((gs_nI (by decide)).trans (gs_aI (by omega))) ?_
      refine r_iload_n e_X2_putAtStart_61 rfl ?_
      obtain ⟨M2_0, e_M2_0⟩ : ∃ z : Mem, z = (if ((U_X5_leave (a + 10 + 2 * x1.toNatClampNeg) M).1 (a + 4) 2) = x1 then (U_X0_go (a + 4) ((V_X2_freeCell a ((U_X5_leave (a + 10 + 2 * x1.toNatClampNeg) M).1 (a + 10 + 2 * x1.toNatClampNeg) 4) ((U_X5_leave (a + 10 + 2 * x1.toNatClampNeg) M).1 (a + 10 + 2 * x1.toNatClampNeg) 5) (U_X5_leave (a + 10 + 2 * x1.toNatClampNeg) M)) - (V_X2_freeCell a ((U_X5_leave (a + 10 + 2 * x1.toNatClampNeg) M).1 (a + 10 + 2 * x1.toNatClampNeg) 4) ((U_X5_leave (a + 10 + 2 * x1.toNatClampNeg) M).1 (a + 10 + 2 * x1.toNatClampNeg) 5) (U_X5_leave (a + 10 + 2 * x1.toNatClampNeg) M)) / (15 : Int32) * (15 : Int32)) ((V_X2_freeCell a ((U_X5_leave (a + 10 + 2 * x1.toNatClampNeg) M).1 (a + 10 + 2 * x1.toNatClampNeg) 4) ((U_X5_leave (a + 10 + 2 * x1.toNatClampNeg) M).1 (a + 10 + 2 * x1.toNatClampNeg) 5) (U_X5_leave (a + 10 + 2 * x1.toNatClampNeg) M)) / (15 : Int32)) (setI (setI (U_X5_leave (a + 10 + 2 * x1.toNatClampNeg) M) (a + 10 + 2 * x1.toNatClampNeg) 2 ((V_X2_freeCell a ((U_X5_leave (a + 10 + 2 * x1.toNatClampNeg) M).1 (a + 10 + 2 * x1.toNatClampNeg) 4) ((U_X5_leave (a + 10 + 2 * x1.toNatClampNeg) M).1 (a + 10 + 2 * x1.toNatClampNeg) 5) (U_X5_leave (a + 10 + 2 * x1.toNatClampNeg) M)) - (V_X2_freeCell a ((U_X5_leave (a + 10 + 2 * x1.toNatClampNeg) M).1 (a + 10 + 2 * x1.toNatClampNeg) 4) ((U_X5_leave (a + 10 + 2 * x1.toNatClampNeg) M).1 (a + 10 + 2 * x1.toNatClampNeg) 5) (U_X5_leave (a + 10 + 2 * x1.toNatClampNeg) M)) / (15 : Int32) * (15 : Int32))) (a + 10 + 2 * x1.toNatClampNeg) 3 ((V_X2_freeCell a ((U_X5_leave (a + 10 + 2 * x1.toNatClampNeg) M).1 (a + 10 + 2 * x1.toNatClampNeg) 4) ((U_X5_leave (a + 10 + 2 * x1.toNatClampNeg) M).1 (a + 10 + 2 * x1.toNatClampNeg) 5) (U_X5_leave (a + 10 + 2 * x1.toNatClampNeg) M)) / (15 : Int32)))) else (setI (setI (U_X5_leave (a + 10 + 2 * x1.toNatClampNeg) M) (a + 10 + 2 * x1.toNatClampNeg) 2 ((V_X2_freeCell a ((U_X5_leave (a + 10 + 2 * x1.toNatClampNeg) M).1 (a + 10 + 2 * x1.toNatClampNeg) 4) ((U_X5_leave (a + 10 + 2 * x1.toNatClampNeg) M).1 (a + 10 + 2 * x1.toNatClampNeg) 5) (U_X5_leave (a + 10 + 2 * x1.toNatClampNeg) M)) - (V_X2_freeCell a ((U_X5_leave (a + 10 + 2 * x1.toNatClampNeg) M).1 (a + 10 + 2 * x1.toNatClampNeg) 4) ((U_X5_leave (a + 10 + 2 * x1.toNatClampNeg) M).1 (a + 10 + 2 * x1.toNatClampNeg) 5) (U_X5_leave (a + 10 + 2 * x1.toNatClampNeg) M)) / (15 : Int32) * (15 : Int32))) (a + 10 + 2 * x1.toNatClampNeg) 3 ((V_X2_freeCell a ((U_X5_leave (a + 10 + 2 * x1.toNatClampNeg) M).1 (a + 10 + 2 * x1.toNatClampNeg) 4) ((U_X5_leave (a + 10 + 2 * x1.toNatClampNeg) M).1 (a + 10 + 2 * x1.toNatClampNeg) 5) (U_X5_leave (a + 10 + 2 * x1.toNatClampNeg) M)) / (15 : Int32)))) := ⟨_, rfl⟩
      suffices j80_2 : WP m_X2_putAtStart (fun r sh' M'' => r = none ∧ sh' = sh ∧ M'' = (U_X2_putAtStart a x1 M)) 80 [some (.ref a), some (.int x1), some (.ref (a + 10 + 2 * x1.toNatClampNeg)), some (.int (V_X2_freeCell a ((U_X5_leave (a + 10 + 2 * x1.toNatClampNeg) M).1 (a + 10 + 2 * x1.toNatClampNeg) 4) ((U_X5_leave (a + 10 + 2 * x1.toNatClampNeg) M).1 (a + 10 + 2 * x1.toNatClampNeg) 5) (U_X5_leave (a + 10 + 2 * x1.toNatClampNeg) M)))] [] sh M2_0 0 0 by
        refine r_icmp_ne e_X2_putAtStart_62 (fun h62_2 => ?_) (fun h62_2 => ?_)
        · rw [show M2_0 = setI (setI (U_X5_leave (a + 10 + 2 * x1.toNatClampNeg) M) (a + 10 + 2 * x1.toNatClampNeg) 2 ((V_X2_freeCell a ((U_X5_leave (a + 10 + 2 * x1.toNatClampNeg) M).1 (a + 10 + 2 * x1.toNatClampNeg) 4) ((U_X5_leave (a + 10 + 2 * x1.toNatClampNeg) M).1 (a + 10 + 2 * x1.toNatClampNeg) 5) (U_X5_leave (a + 10 + 2 * x1.toNatClampNeg) M)) - (V_X2_freeCell a ((U_X5_leave (a + 10 + 2 * x1.toNatClampNeg) M).1 (a + 10 + 2 * x1.toNatClampNeg) 4) ((U_X5_leave (a + 10 + 2 * x1.toNatClampNeg) M).1 (a + 10 + 2 * x1.toNatClampNeg) 5) (U_X5_leave (a + 10 + 2 * x1.toNatClampNeg) M)) / (15 : Int32) * (15 : Int32))) (a + 10 + 2 * x1.toNatClampNeg) 3 ((V_X2_freeCell a ((U_X5_leave (a + 10 + 2 * x1.toNatClampNeg) M).1 (a + 10 + 2 * x1.toNatClampNeg) 4) ((U_X5_leave (a + 10 + 2 * x1.toNatClampNeg) M).1 (a + 10 + 2 * x1.toNatClampNeg) 5) (U_X5_leave (a + 10 + 2 * x1.toNatClampNeg) M)) / (15 : Int32)) from (e_M2_0.trans (if_neg h62_2))] at j80_2; exact j80_2
        · refine r_aload_n e_X2_putAtStart_65 rfl ?_
          refine r_getR e_X2_putAtStart_66 fl_X2_27 k0 k3 ?_
          refine r_aload_n e_X2_putAtStart_69 rfl ?_
          refine r_getIe e_X2_putAtStart_70 fl_X2_130 i0 (show kd sh (a + 10 + 2 * x1.toNatClampNeg) = some (5 + 7, 0) from (hb1.2.2.2.2.2.2.2.2.1 x1.toNatClampNeg (vp_lt (vp_guard h1_0 (i_nle h10_1) (by decide)))).2.1) ((gs_nI (by decide)).trans gs_eI) ?_
          refine r_aload_n e_X2_putAtStart_73 rfl ?_
          refine r_getIe e_X2_putAtStart_74 fl_X2_131 i0 (show kd sh (a + 10 + 2 * x1.toNatClampNeg) = some (5 + 7, 0) from (hb1.2.2.2.2.2.2.2.2.1 x1.toNatClampNeg (vp_lt (vp_guard h1_0 (i_nle h10_1) (by decide)))).2.1) gs_eI ?_
          refine cV2u e_X2_putAtStart_77 cl_X2_135 ⟨Nat.le_of_ble_eq_true rfl, Nat.le_of_ble_eq_true rfl⟩ ⟨rfl, rfl⟩ k4 (Nat.le_of_ble_eq_true rfl) (S_X0_go hb1.2.2.2.2.2.2.2.2.2.1) ?_
          rw [show M2_0 = U_X0_go (a + 4) ((V_X2_freeCell a ((U_X5_leave (a + 10 + 2 * x1.toNatClampNeg) M).1 (a + 10 + 2 * x1.toNatClampNeg) 4) ((U_X5_leave (a + 10 + 2 * x1.toNatClampNeg) M).1 (a + 10 + 2 * x1.toNatClampNeg) 5) (U_X5_leave (a + 10 + 2 * x1.toNatClampNeg) M)) - (V_X2_freeCell a ((U_X5_leave (a + 10 + 2 * x1.toNatClampNeg) M).1 (a + 10 + 2 * x1.toNatClampNeg) 4) ((U_X5_leave (a + 10 + 2 * x1.toNatClampNeg) M).1 (a + 10 + 2 * x1.toNatClampNeg) 5) (U_X5_leave (a + 10 + 2 * x1.toNatClampNeg) M)) / (15 : Int32) * (15 : Int32)) ((V_X2_freeCell a ((U_X5_leave (a + 10 + 2 * x1.toNatClampNeg) M).1 (a + 10 + 2 * x1.toNatClampNeg) 4) ((U_X5_leave (a + 10 + 2 * x1.toNatClampNeg) M).1 (a + 10 + 2 * x1.toNatClampNeg) 5) (U_X5_leave (a + 10 + 2 * x1.toNatClampNeg) M)) / (15 : Int32)) (setI (setI (U_X5_leave (a + 10 + 2 * x1.toNatClampNeg) M) (a + 10 + 2 * x1.toNatClampNeg) 2 ((V_X2_freeCell a ((U_X5_leave (a + 10 + 2 * x1.toNatClampNeg) M).1 (a + 10 + 2 * x1.toNatClampNeg) 4) ((U_X5_leave (a + 10 + 2 * x1.toNatClampNeg) M).1 (a + 10 + 2 * x1.toNatClampNeg) 5) (U_X5_leave (a + 10 + 2 * x1.toNatClampNeg) M)) - (V_X2_freeCell a ((U_X5_leave (a + 10 + 2 * x1.toNatClampNeg) M).1 (a + 10 + 2 * x1.toNatClampNeg) 4) ((U_X5_leave (a + 10 + 2 * x1.toNatClampNeg) M).1 (a + 10 + 2 * x1.toNatClampNeg) 5) (U_X5_leave (a + 10 + 2 * x1.toNatClampNeg) M)) / (15 : Int32) * (15 : Int32))) (a + 10 + 2 * x1.toNatClampNeg) 3 ((V_X2_freeCell a ((U_X5_leave (a + 10 + 2 * x1.toNatClampNeg) M).1 (a + 10 + 2 * x1.toNatClampNeg) 4) ((U_X5_leave (a + 10 + 2 * x1.toNatClampNeg) M).1 (a + 10 + 2 * x1.toNatClampNeg) 5) (U_X5_leave (a + 10 + 2 * x1.toNatClampNeg) M)) / (15 : Int32))) from (e_M2_0.trans (if_pos h62_2))] at j80_2; exact j80_2
      refine r_return e_X2_putAtStart_80 rfl ⟨rfl, rfl⟩ ?_
      (subst e_M2_0; refine ⟨?_, rfl, ?_⟩ <;> ((try unfold U_X2_putAtStart); (try simp only [if_neg h1_0, if_pos h10_1]); (try rfl)))
    · refine r_return e_X2_putAtStart_13 rfl ⟨rfl, rfl⟩ ?_
      (refine ⟨?_, rfl, ?_⟩ <;> ((try unfold U_X2_putAtStart); (try simp only [if_neg h1_0, if_neg h10_1]); (try rfl)))
def U_X2_putBall (a : Nat) (M : Mem) : Mem := U_X0_lie (a + 4) ((V_X2_freeCell a (7 : Int32) (4 : Int32) M) - (V_X2_freeCell a (7 : Int32) (4 : Int32) M) / (15 : Int32) * (15 : Int32)) ((V_X2_freeCell a (7 : Int32) (4 : Int32) M) / (15 : Int32)) M
theorem S_X2_putBall {sh : List SC} {M : Mem} {a : Nat}  (hb1 : MatchAt sh a)  : Gu m_X2_putBall [.ref a] sh M (U_X2_putBall a M) := by
  refine Sp.of (ls := [some (.ref a), none]) (by decide +kernel) (Nat.le_of_ble_eq_true rfl) rfl ?_
  have k0 : kd sh a = some (2 + 7, 0) := hb1.1
  have k1 : rf sh a 4 = some (a + 4) := hb1.2.2.2.2.2.1
  have k2 : kd sh (a + 4) = some (0 + 7, 0) := hb1.2.2.2.2.2.2.2.2.2.1.1
  refine r_aload_n e_X2_putBall_0 rfl ?_
  refine r_bipush e_X2_putBall_1 bp_7 ?_
  refine r_iconst e_X2_putBall_3 ic_4 ?_
  refine cV2v e_X2_putBall_4 cl_X2_126 ⟨Nat.le_of_ble_eq_true rfl, Nat.le_of_ble_eq_true rfl⟩ ⟨rfl, rfl⟩ k0 (Nat.le_of_ble_eq_true rfl) (S_X2_freeCell hb1) ?_
  refine p_istore_n_2_1 e_X2_putBall_7 rfl rfl ?_
  refine r_aload_n e_X2_putBall_8 rfl ?_
  refine r_getR e_X2_putBall_9 fl_X2_27 k0 k1 ?_
  refine r_iload_n e_X2_putBall_12 rfl ?_
  refine r_bipush e_X2_putBall_13 bp_15 ?_
  refine r_irem e_X2_putBall_15 (by decide) ?_
  refine r_iload_n e_X2_putBall_16 rfl ?_
  refine r_bipush e_X2_putBall_17 bp_15 ?_
  refine r_idiv e_X2_putBall_19 (by decide) ?_
  refine cV2u e_X2_putBall_20 cl_X2_138 ⟨Nat.le_of_ble_eq_true rfl, Nat.le_of_ble_eq_true rfl⟩ ⟨rfl, rfl⟩ k2 (Nat.le_of_ble_eq_true rfl) (S_X0_lie hb1.2.2.2.2.2.2.2.2.2.1) ?_
  refine r_return e_X2_putBall_23 rfl ⟨rfl, rfl⟩ ?_
  (refine ⟨?_, rfl, ?_⟩ <;> ((try unfold U_X2_putBall); (try simp only []); (try rfl)))
def U_X2_doCommand (a : Nat) (x1 : Int32) (M : Mem) : Mem := if x1 < 0 then M else (if x1 < (10 : Int32) then (if (M.1 (a + 10 + 2 * x1.toNatClampNeg) 15) = 0 then (if (M.1 (a + 10 + 2 * x1.toNatClampNeg) 16) = 0 then M else (let M7_0 : Mem := if (M.1 (a + 10 + 2 * x1.toNatClampNeg) 14) = (1 : Int32) then (U_X2_move a (a + 10 + 2 * x1.toNatClampNeg) x1 M) else (if (M.1 (a + 10 + 2 * x1.toNatClampNeg) 14) = (2 : Int32) then (if (M.1 (a + 4) 2) = x1 then (U_X0_free (a + 4) (M.1 (a + 10 + 2 * x1.toNatClampNeg) 15) (M.1 (a + 10 + 2 * x1.toNatClampNeg) 16) (M.1 (a + 10 + 2 * x1.toNatClampNeg) 17) M) else M) else M); M7_0)) else (let M3_0 : Mem := if (M.1 (a + 10 + 2 * x1.toNatClampNeg) 14) = (1 : Int32) then (U_X2_move a (a + 10 + 2 * x1.toNatClampNeg) x1 M) else (if (M.1 (a + 10 + 2 * x1.toNatClampNeg) 14) = (2 : Int32) then (if (M.1 (a + 4) 2) = x1 then (U_X0_free (a + 4) (M.1 (a + 10 + 2 * x1.toNatClampNeg) 15) (M.1 (a + 10 + 2 * x1.toNatClampNeg) 16) (M.1 (a + 10 + 2 * x1.toNatClampNeg) 17) M) else M) else M); M3_0)) else M)
theorem S_X2_doCommand {sh : List SC} {M : Mem} {a : Nat} {x1 : Int32}  (hb1 : MatchAt sh a)  : Gu m_X2_doCommand [.ref a, .int x1] sh M (U_X2_doCommand a x1 M) := by
  refine Sp.of (ls := [some (.ref a), some (.int x1), none]) (by decide +kernel) (Nat.le_of_ble_eq_true rfl) rfl ?_
  have k0 : kd sh a = some (2 + 7, 0) := hb1.1
  have k1 : rf sh a 3 = some (a + 3) := hb1.2.2.2.2.1
  have k2 : kd sh (a + 3) = some (6, 10) := hb1.2.2.2.2.2.2.2.1
  have k3 : rf sh a 4 = some (a + 4) := hb1.2.2.2.2.2.1
  have k4 : kd sh (a + 4) = some (0 + 7, 0) := hb1.2.2.2.2.2.2.2.2.2.1.1
  refine r_iload_n e_X2_doCommand_0 rfl ?_
  refine r_if_lt e_X2_doCommand_1 (fun h1_0 => ?_) (fun h1_0 => ?_)
  · refine r_return e_X2_doCommand_13 rfl ⟨rfl, rfl⟩ ?_
    (refine ⟨?_, rfl, ?_⟩ <;> ((try unfold U_X2_doCommand); (try simp only [if_pos h1_0]); (try rfl)))
  · refine r_iload_n e_X2_doCommand_4 rfl ?_
    refine r_aload_n e_X2_doCommand_5 rfl ?_
    refine r_getR e_X2_doCommand_6 fl_X2_20 k0 k1 ?_
    refine r_alen (v := (10 : Int32)) e_X2_doCommand_9 k2 (by decide) rfl ?_
    refine r_icmp_lt e_X2_doCommand_10 (fun h10_1 => ?_) (fun h10_1 => ?_)
    · refine r_aload_n e_X2_doCommand_14 rfl ?_
      refine r_getR e_X2_doCommand_15 fl_X2_20 k0 k1 ?_
      refine r_iload_n e_X2_doCommand_18 rfl ?_
      refine r_aaload (b := (a + 10 + 2 * x1.toNatClampNeg)) e_X2_doCommand_19 k2 ⟨by decide, by decide⟩ (vp_guard h1_0 (i_nle h10_1) (by decide)) (hb1.2.2.2.2.2.2.2.2.1 x1.toNatClampNeg (vp_lt (vp_guard h1_0 (i_nle h10_1) (by decide)))).1 ?_
      refine p_astore_n_3_2 e_X2_doCommand_20 rfl rfl ?_
      refine r_aload_n e_X2_doCommand_21 rfl ?_
      refine r_getI e_X2_doCommand_22 fl_X2_213 i0 (show kd sh (a + 10 + 2 * x1.toNatClampNeg) = some (5 + 7, 0) from (hb1.2.2.2.2.2.2.2.2.1 x1.toNatClampNeg (vp_lt (vp_guard h1_0 (i_nle h10_1) (by decide)))).2.1) ?_
      refine r_if_ne e_X2_doCommand_25 (fun h25_2 => ?_) (fun h25_2 => ?_)
      · refine r_aload_n e_X2_doCommand_36 rfl ?_
        refine r_getI e_X2_doCommand_37 fl_X2_219 i0 (show kd sh (a + 10 + 2 * x1.toNatClampNeg) = some (5 + 7, 0) from (hb1.2.2.2.2.2.2.2.2.1 x1.toNatClampNeg (vp_lt (vp_guard h1_0 (i_nle h10_1) (by decide)))).2.1) ?_
        refine r_iconst e_X2_doCommand_40 ic_1 ?_
        obtain ⟨M3_0, e_M3_0⟩ : ∃ z : Mem, z = (if (M.1 (a + 10 + 2 * x1.toNatClampNeg) 14) = (1 : Int32) then (U_X2_move a (a + 10 + 2 * x1.toNatClampNeg) x1 M) else (if (M.1 (a + 10 + 2 * x1.toNatClampNeg) 14) = (2 : Int32) then (if (M.1 (a + 4) 2) = x1 then (U_X0_free (a + 4) (M.1 (a + 10 + 2 * x1.toNatClampNeg) 15) (M.1 (a + 10 + 2 * x1.toNatClampNeg) 16) (M.1 (a + 10 + 2 * x1.toNatClampNeg) 17) M) else M) else M)) := ⟨_, rfl⟩
        suffices j91_3 : WP m_X2_doCommand (fun r sh' M'' => r = none ∧ sh' = sh ∧ M'' = (U_X2_doCommand a x1 M)) 91 [some (.ref a), some (.int x1), some (.ref (a + 10 + 2 * x1.toNatClampNeg))] [] sh M3_0 0 0 by
          refine r_icmp_ne e_X2_doCommand_41 (fun h41_3 => ?_) (fun h41_3 => ?_)
          · refine r_aload_n e_X2_doCommand_53 rfl ?_
            refine r_getI e_X2_doCommand_54 fl_X2_219 i0 (show kd sh (a + 10 + 2 * x1.toNatClampNeg) = some (5 + 7, 0) from (hb1.2.2.2.2.2.2.2.2.1 x1.toNatClampNeg (vp_lt (vp_guard h1_0 (i_nle h10_1) (by decide)))).2.1) ?_
            refine r_iconst e_X2_doCommand_57 ic_2 ?_
            refine r_icmp_ne e_X2_doCommand_58 (fun h58_4 => ?_) (fun h58_4 => ?_)
            · rw [show M3_0 = M from ((e_M3_0.trans (if_neg h41_3)).trans (if_neg h58_4))] at j91_3; exact j91_3
            · refine r_aload_n e_X2_doCommand_61 rfl ?_
              refine r_getR e_X2_doCommand_62 fl_X2_27 k0 k3 ?_
              refine r_getI e_X2_doCommand_65 fl_X2_132 i0 k4 ?_
              refine r_iload_n e_X2_doCommand_68 rfl ?_
              refine r_icmp_ne e_X2_doCommand_69 (fun h69_5 => ?_) (fun h69_5 => ?_)
              · rw [show M3_0 = M from (((e_M3_0.trans (if_neg h41_3)).trans (if_pos h58_4)).trans (if_neg h69_5))] at j91_3; exact j91_3
              · refine r_aload_n e_X2_doCommand_72 rfl ?_
                refine r_getR e_X2_doCommand_73 fl_X2_27 k0 k3 ?_
                refine r_aload_n e_X2_doCommand_76 rfl ?_
                refine r_getI e_X2_doCommand_77 fl_X2_213 i0 (show kd sh (a + 10 + 2 * x1.toNatClampNeg) = some (5 + 7, 0) from (hb1.2.2.2.2.2.2.2.2.1 x1.toNatClampNeg (vp_lt (vp_guard h1_0 (i_nle h10_1) (by decide)))).2.1) ?_
                refine r_aload_n e_X2_doCommand_80 rfl ?_
                refine r_getI e_X2_doCommand_81 fl_X2_216 i0 (show kd sh (a + 10 + 2 * x1.toNatClampNeg) = some (5 + 7, 0) from (hb1.2.2.2.2.2.2.2.2.1 x1.toNatClampNeg (vp_lt (vp_guard h1_0 (i_nle h10_1) (by decide)))).2.1) ?_
                refine r_aload_n e_X2_doCommand_84 rfl ?_
                refine r_getI e_X2_doCommand_85 fl_X2_225 i0 (show kd sh (a + 10 + 2 * x1.toNatClampNeg) = some (5 + 7, 0) from (hb1.2.2.2.2.2.2.2.2.1 x1.toNatClampNeg (vp_lt (vp_guard h1_0 (i_nle h10_1) (by decide)))).2.1) ?_
                refine cV3u e_X2_doCommand_88 cl_X2_228 ⟨Nat.le_of_ble_eq_true rfl, Nat.le_of_ble_eq_true rfl⟩ ⟨rfl, rfl⟩ k4 (Nat.le_of_ble_eq_true rfl) (S_X0_free hb1.2.2.2.2.2.2.2.2.2.1) ?_
                rw [show M3_0 = U_X0_free (a + 4) (M.1 (a + 10 + 2 * x1.toNatClampNeg) 15) (M.1 (a + 10 + 2 * x1.toNatClampNeg) 16) (M.1 (a + 10 + 2 * x1.toNatClampNeg) 17) M from (((e_M3_0.trans (if_neg h41_3)).trans (if_pos h58_4)).trans (if_pos h69_5))] at j91_3; exact j91_3
          · refine r_aload_n e_X2_doCommand_44 rfl ?_
            refine r_aload_n e_X2_doCommand_45 rfl ?_
            refine r_iload_n e_X2_doCommand_46 rfl ?_
            refine cV2u e_X2_doCommand_47 cl_X2_222 ⟨Nat.le_of_ble_eq_true rfl, Nat.le_of_ble_eq_true rfl⟩ ⟨rfl, rfl⟩ k0 (Nat.le_of_ble_eq_true rfl) (S_X2_move hb1 (hb1.2.2.2.2.2.2.2.2.1 x1.toNatClampNeg (vp_lt (vp_guard h1_0 (i_nle h10_1) (by decide)))).2) ?_
            refine r_goto e_X2_doCommand_50 ?_
            rw [show M3_0 = U_X2_move a (a + 10 + 2 * x1.toNatClampNeg) x1 M from (e_M3_0.trans (if_pos h41_3))] at j91_3; exact j91_3
        refine r_return e_X2_doCommand_91 rfl ⟨rfl, rfl⟩ ?_
        (subst e_M3_0; refine ⟨?_, rfl, ?_⟩ <;> ((try unfold U_X2_doCommand); (try simp only [if_neg h1_0, if_pos h10_1, if_neg h25_2]); (try rfl)))
      · refine r_aload_n e_X2_doCommand_28 rfl ?_
        refine r_getI e_X2_doCommand_29 fl_X2_216 i0 (show kd sh (a + 10 + 2 * x1.toNatClampNeg) = some (5 + 7, 0) from (hb1.2.2.2.2.2.2.2.2.1 x1.toNatClampNeg (vp_lt (vp_guard h1_0 (i_nle h10_1) (by decide)))).2.1) ?_
        refine r_if_ne e_X2_doCommand_32 (fun h32_6 => ?_) (fun h32_6 => ?_)
        · refine r_aload_n e_X2_doCommand_36 rfl ?_
          refine r_getI e_X2_doCommand_37 fl_X2_219 i0 (show kd sh (a + 10 + 2 * x1.toNatClampNeg) = some (5 + 7, 0) from (hb1.2.2.2.2.2.2.2.2.1 x1.toNatClampNeg (vp_lt (vp_guard h1_0 (i_nle h10_1) (by decide)))).2.1) ?_
          refine r_iconst e_X2_doCommand_40 ic_1 ?_
          obtain ⟨M7_0, e_M7_0⟩ : ∃ z : Mem, z = (if (M.1 (a + 10 + 2 * x1.toNatClampNeg) 14) = (1 : Int32) then (U_X2_move a (a + 10 + 2 * x1.toNatClampNeg) x1 M) else (if (M.1 (a + 10 + 2 * x1.toNatClampNeg) 14) = (2 : Int32) then (if (M.1 (a + 4) 2) = x1 then (U_X0_free (a + 4) (M.1 (a + 10 + 2 * x1.toNatClampNeg) 15) (M.1 (a + 10 + 2 * x1.toNatClampNeg) 16) (M.1 (a + 10 + 2 * x1.toNatClampNeg) 17) M) else M) else M)) := ⟨_, rfl⟩
          suffices j91_7 : WP m_X2_doCommand (fun r sh' M'' => r = none ∧ sh' = sh ∧ M'' = (U_X2_doCommand a x1 M)) 91 [some (.ref a), some (.int x1), some (.ref (a + 10 + 2 * x1.toNatClampNeg))] [] sh M7_0 0 0 by
            refine r_icmp_ne e_X2_doCommand_41 (fun h41_7 => ?_) (fun h41_7 => ?_)
            · refine r_aload_n e_X2_doCommand_53 rfl ?_
              refine r_getI e_X2_doCommand_54 fl_X2_219 i0 (show kd sh (a + 10 + 2 * x1.toNatClampNeg) = some (5 + 7, 0) from (hb1.2.2.2.2.2.2.2.2.1 x1.toNatClampNeg (vp_lt (vp_guard h1_0 (i_nle h10_1) (by decide)))).2.1) ?_
              refine r_iconst e_X2_doCommand_57 ic_2 ?_
              refine r_icmp_ne e_X2_doCommand_58 (fun h58_8 => ?_) (fun h58_8 => ?_)
              · rw [show M7_0 = M from ((e_M7_0.trans (if_neg h41_7)).trans (if_neg h58_8))] at j91_7; exact j91_7
              · refine r_aload_n e_X2_doCommand_61 rfl ?_
                refine r_getR e_X2_doCommand_62 fl_X2_27 k0 k3 ?_
                refine r_getI e_X2_doCommand_65 fl_X2_132 i0 k4 ?_
                refine r_iload_n e_X2_doCommand_68 rfl ?_
                refine r_icmp_ne e_X2_doCommand_69 (fun h69_9 => ?_) (fun h69_9 => ?_)
                · rw [show M7_0 = M from (((e_M7_0.trans (if_neg h41_7)).trans (if_pos h58_8)).trans (if_neg h69_9))] at j91_7; exact j91_7
                · refine r_aload_n e_X2_doCommand_72 rfl ?_
                  refine r_getR e_X2_doCommand_73 fl_X2_27 k0 k3 ?_
                  refine r_aload_n e_X2_doCommand_76 rfl ?_
                  refine r_getI e_X2_doCommand_77 fl_X2_213 i0 (show kd sh (a + 10 + 2 * x1.toNatClampNeg) = some (5 + 7, 0) from (hb1.2.2.2.2.2.2.2.2.1 x1.toNatClampNeg (vp_lt (vp_guard h1_0 (i_nle h10_1) (by decide)))).2.1) ?_
                  refine r_aload_n e_X2_doCommand_80 rfl ?_
                  refine r_getI e_X2_doCommand_81 fl_X2_216 i0 (show kd sh (a + 10 + 2 * x1.toNatClampNeg) = some (5 + 7, 0) from (hb1.2.2.2.2.2.2.2.2.1 x1.toNatClampNeg (vp_lt (vp_guard h1_0 (i_nle h10_1) (by decide)))).2.1) ?_
                  refine r_aload_n e_X2_doCommand_84 rfl ?_
                  refine r_getI e_X2_doCommand_85 fl_X2_225 i0 (show kd sh (a + 10 + 2 * x1.toNatClampNeg) = some (5 + 7, 0) from (hb1.2.2.2.2.2.2.2.2.1 x1.toNatClampNeg (vp_lt (vp_guard h1_0 (i_nle h10_1) (by decide)))).2.1) ?_
                  refine cV3u e_X2_doCommand_88 cl_X2_228 ⟨Nat.le_of_ble_eq_true rfl, Nat.le_of_ble_eq_true rfl⟩ ⟨rfl, rfl⟩ k4 (Nat.le_of_ble_eq_true rfl) (S_X0_free hb1.2.2.2.2.2.2.2.2.2.1) ?_
                  rw [show M7_0 = U_X0_free (a + 4) (M.1 (a + 10 + 2 * x1.toNatClampNeg) 15) (M.1 (a + 10 + 2 * x1.toNatClampNeg) 16) (M.1 (a + 10 + 2 * x1.toNatClampNeg) 17) M from (((e_M7_0.trans (if_neg h41_7)).trans (if_pos h58_8)).trans (if_pos h69_9))] at j91_7; exact j91_7
            · refine r_aload_n e_X2_doCommand_44 rfl ?_
              refine r_aload_n e_X2_doCommand_45 rfl ?_
              refine r_iload_n e_X2_doCommand_46 rfl ?_
              refine cV2u e_X2_doCommand_47 cl_X2_222 ⟨Nat.le_of_ble_eq_true rfl, Nat.le_of_ble_eq_true rfl⟩ ⟨rfl, rfl⟩ k0 (Nat.le_of_ble_eq_true rfl) (S_X2_move hb1 (hb1.2.2.2.2.2.2.2.2.1 x1.toNatClampNeg (vp_lt (vp_guard h1_0 (i_nle h10_1) (by decide)))).2) ?_
              refine r_goto e_X2_doCommand_50 ?_
              rw [show M7_0 = U_X2_move a (a + 10 + 2 * x1.toNatClampNeg) x1 M from (e_M7_0.trans (if_pos h41_7))] at j91_7; exact j91_7
          refine r_return e_X2_doCommand_91 rfl ⟨rfl, rfl⟩ ?_
          (subst e_M7_0; refine ⟨?_, rfl, ?_⟩ <;> ((try unfold U_X2_doCommand); (try simp only [if_neg h1_0, if_pos h10_1, if_pos h25_2, if_neg h32_6]); (try rfl)))
        · refine r_return e_X2_doCommand_35 rfl ⟨rfl, rfl⟩ ?_
          (refine ⟨?_, rfl, ?_⟩ <;> ((try unfold U_X2_doCommand); (try simp only [if_neg h1_0, if_pos h10_1, if_pos h25_2, if_pos h32_6]); (try rfl)))
    · refine r_return e_X2_doCommand_13 rfl ⟨rfl, rfl⟩ ?_
      (refine ⟨?_, rfl, ?_⟩ <;> ((try unfold U_X2_doCommand); (try simp only [if_neg h1_0, if_neg h10_1]); (try rfl)))
def F_X2_thinsCrowd_7 (a : Nat) (x1 : Int32) : Nat → Nat → Int32 → Int32 → Mem → Int32 × Int32
  | 0, i7, u2, u3, M => (u2, u3)
  | n + 1, i7, u2, u3, M => (let v700_0 : Int32 := if (M.1 (a + 10 + 2 * i7) 1) = x1 then (if (2 : Int32) < (V_X5_seenX (a + 10 + 2 * i7) (M.1 (a + 10 + 2 * i7) 2) M) then u2 else (u2 + 1)) else u2; let v700_1 : Int32 := if (M.1 (a + 10 + 2 * i7) 1) = x1 then (if (2 : Int32) < (V_X5_seenX (a + 10 + 2 * i7) (M.1 (a + 10 + 2 * i7) 2) M) then u3 else (nI i7)) else u3; (F_X2_thinsCrowd_7 a x1 n (i7 + 1) v700_0 v700_1 M))
theorem L_X2_thinsCrowd_7 {sh : List SC} {Q : Po} {a : Nat} {x1 : Int32}    (hb1 : MatchAt sh a)   : ∀ (n i7 : Nat) (u2 : Int32) (u3 : Int32) (M : Mem), i7 + n = 10 → WP m_X2_thinsCrowd Q 67 [some (.ref a), some (.int x1), some (.int ((F_X2_thinsCrowd_7 a x1 n i7 u2 u3 M).1)), some (.int ((F_X2_thinsCrowd_7 a x1 n i7 u2 u3 M).2)), none] [] sh M 0 0 → WP m_X2_thinsCrowd Q 7 [some (.ref a), some (.int x1), some (.int u2), some (.int u3), some (.int (nI i7))] [] sh M 0 0 := by
  have k0 : kd sh a = some (2 + 7, 0) := hb1.1
  have k1 : rf sh a 3 = some (a + 3) := hb1.2.2.2.2.1
  have k2 : kd sh (a + 3) = some (6, 10) := hb1.2.2.2.2.2.2.2.1
  intro n
  induction n with
  | zero =>
    intro i7 u2 u3 M hi hq
    have hz : (10 : Int32) ≤ nI i7 := by
      have q : i7 = 10 := by omega
      rw [q]; exact nI_le (Nat.le_refl _) (by decide)
    refine r_iload e_X2_thinsCrowd_7 rfl ?_
    refine r_aload_n e_X2_thinsCrowd_9 rfl ?_
    refine r_getR e_X2_thinsCrowd_10 fl_X2_20 k0 k1 ?_
    refine r_alen (v := (10 : Int32)) e_X2_thinsCrowd_13 k2 (by decide) rfl ?_
    refine r_icmp_ge e_X2_thinsCrowd_14 (fun _ => ?_) (fun hh => absurd hz hh)
    refine d_5_4 ?_
    (simp only [F_X2_thinsCrowd_7] at hq; first | exact hq | (simp only []; exact hq))
  | succ n ih =>
    intro i7 u2 u3 M hi hq
    have hlt_i7 : i7 < 10 := by omega
    have hcl_i7 : (nI i7).toNatClampNeg = i7 := nI_clamp (by omega)
    have hs : ¬ (10 : Int32) ≤ nI i7 := nI_ge (b := 10) hlt_i7 (by decide)
    refine r_iload e_X2_thinsCrowd_7 rfl ?_
    refine r_aload_n e_X2_thinsCrowd_9 rfl ?_
    refine r_getR e_X2_thinsCrowd_10 fl_X2_20 k0 k1 ?_
    refine r_alen (v := (10 : Int32)) e_X2_thinsCrowd_13 k2 (by decide) rfl ?_
    refine r_icmp_ge e_X2_thinsCrowd_14 (fun hh => absurd hh hs) (fun _ => ?_)
    refine r_aload_n e_X2_thinsCrowd_17 rfl ?_
    refine r_getR e_X2_thinsCrowd_18 fl_X2_20 k0 k1 ?_
    refine r_iload e_X2_thinsCrowd_21 rfl ?_
    refine r_aaload (b := (a + 10 + 2 * i7)) e_X2_thinsCrowd_23 k2 ⟨by decide, by decide⟩ (vp_in_nI (Nat.lt_of_lt_of_le hlt_i7 (by decide)) (by decide)) (by rw [hcl_i7]; exact (hb1.2.2.2.2.2.2.2.2.1 i7 (Nat.lt_of_lt_of_le hlt_i7 (by decide))).1) ?_
    refine r_getI e_X2_thinsCrowd_24 fl_X2_207 i3 (show kd sh (a + 10 + 2 * i7) = some (5 + 7, 0) from (hb1.2.2.2.2.2.2.2.2.1 i7 (Nat.lt_of_lt_of_le hlt_i7 (by decide))).2.1) ?_
    refine r_iload_n e_X2_thinsCrowd_27 rfl ?_
    obtain ⟨v700_0, e_v700_0⟩ : ∃ z : Int32, z = (if (M.1 (a + 10 + 2 * i7) 1) = x1 then (if (2 : Int32) < (V_X5_seenX (a + 10 + 2 * i7) (M.1 (a + 10 + 2 * i7) 2) M) then u2 else (u2 + 1)) else u2) := ⟨_, rfl⟩
    obtain ⟨v700_1, e_v700_1⟩ : ∃ z : Int32, z = (if (M.1 (a + 10 + 2 * i7) 1) = x1 then (if (2 : Int32) < (V_X5_seenX (a + 10 + 2 * i7) (M.1 (a + 10 + 2 * i7) 2) M) then u3 else (nI i7)) else u3) := ⟨_, rfl⟩
    suffices j61_700 : WP m_X2_thinsCrowd Q 61 [some (.ref a), some (.int x1), some (.int v700_0), some (.int v700_1), some (.int (nI i7))] [] sh M 0 0 by
      refine r_icmp_ne e_X2_thinsCrowd_28 (fun h28_700 => ?_) (fun h28_700 => ?_)
      · rw [show v700_0 = u2 from (e_v700_0.trans (if_neg h28_700)), show v700_1 = u3 from (e_v700_1.trans (if_neg h28_700))] at j61_700; exact j61_700
      · refine r_aload_n e_X2_thinsCrowd_31 rfl ?_
        refine r_getR e_X2_thinsCrowd_32 fl_X2_20 k0 k1 ?_
        refine r_iload e_X2_thinsCrowd_35 rfl ?_
        refine r_aaload (b := (a + 10 + 2 * i7)) e_X2_thinsCrowd_37 k2 ⟨by decide, by decide⟩ (vp_in_nI (Nat.lt_of_lt_of_le hlt_i7 (by decide)) (by decide)) (by rw [hcl_i7]; exact (hb1.2.2.2.2.2.2.2.2.1 i7 (Nat.lt_of_lt_of_le hlt_i7 (by decide))).1) ?_
        refine r_aload_n e_X2_thinsCrowd_38 rfl ?_
        refine r_getR e_X2_thinsCrowd_39 fl_X2_20 k0 k1 ?_
        refine r_iload e_X2_thinsCrowd_42 rfl ?_
        refine r_aaload (b := (a + 10 + 2 * i7)) e_X2_thinsCrowd_44 k2 ⟨by decide, by decide⟩ (vp_in_nI (Nat.lt_of_lt_of_le hlt_i7 (by decide)) (by decide)) (by rw [hcl_i7]; exact (hb1.2.2.2.2.2.2.2.2.1 i7 (Nat.lt_of_lt_of_le hlt_i7 (by decide))).1) ?_
        refine r_getI e_X2_thinsCrowd_45 fl_X2_130 i0 (show kd sh (a + 10 + 2 * i7) = some (5 + 7, 0) from (hb1.2.2.2.2.2.2.2.2.1 i7 (Nat.lt_of_lt_of_le hlt_i7 (by decide))).2.1) ?_
        refine cV1v e_X2_thinsCrowd_48 cl_X2_185 ⟨Nat.le_of_ble_eq_true rfl, Nat.le_of_ble_eq_true rfl⟩ ⟨rfl, rfl⟩ (show kd sh (a + 10 + 2 * i7) = some (5 + 7, 0) from (hb1.2.2.2.2.2.2.2.2.1 i7 (Nat.lt_of_lt_of_le hlt_i7 (by decide))).2.1) (Nat.le_of_ble_eq_true rfl) (S_X5_seenX (hb1.2.2.2.2.2.2.2.2.1 i7 (Nat.lt_of_lt_of_le hlt_i7 (by decide))).2) ?_
        refine r_iconst e_X2_thinsCrowd_51 ic_2 ?_
        refine r_icmp_gt e_X2_thinsCrowd_52 (fun h52_701 => ?_) (fun h52_701 => ?_)
        · rw [show v700_0 = u2 from ((e_v700_0.trans (if_pos h28_700)).trans (if_pos h52_701)), show v700_1 = u3 from ((e_v700_1.trans (if_pos h28_700)).trans (if_pos h52_701))] at j61_700; exact j61_700
        · refine p_iinc_5_2 e_X2_thinsCrowd_55 rfl ic_1 rfl ?_
          refine r_iload e_X2_thinsCrowd_58 rfl ?_
          refine p_istore_n_5_3 e_X2_thinsCrowd_60 rfl rfl ?_
          rw [show v700_0 = (u2 + 1) from ((e_v700_0.trans (if_pos h28_700)).trans (if_neg h52_701)), show v700_1 = (nI i7) from ((e_v700_1.trans (if_pos h28_700)).trans (if_neg h52_701))] at j61_700; exact j61_700
    refine p_iinc_5_4 e_X2_thinsCrowd_61 rfl ic_1 rfl ?_
    rw [nI_1 i7]
    refine r_goto e_X2_thinsCrowd_64 ?_
    (subst e_v700_1 e_v700_0; simp only [F_X2_thinsCrowd_7] at hq; first | exact ih (i7 + 1) _ _ _ (by omega) hq | (simp only []; exact ih (i7 + 1) _ _ _ (by omega) hq))
def V_X2_thinsCrowd (a : Nat) (x1 : Int32) (M : Mem) : Int32 := if (4 : Int32) ≤ ((F_X2_thinsCrowd_7 a x1 10 0 (0 : Int32) (-1 : Int32) M).1) then (1 : Int32) else (0 : Int32)
theorem Z_X2_thinsCrowd {M : Mem} {a : Nat} {x1 : Int32}   : V_X2_thinsCrowd a x1 M = 0 ∨ V_X2_thinsCrowd a x1 M = 1 := (zi (Or.inr rfl) (Or.inl rfl))
def U_X2_thinsCrowd (a : Nat) (x1 : Int32) (M : Mem) : Mem := if (4 : Int32) ≤ ((F_X2_thinsCrowd_7 a x1 10 0 (0 : Int32) (-1 : Int32) M).1) then (U_X2_putAtStart a ((F_X2_thinsCrowd_7 a x1 10 0 (0 : Int32) (-1 : Int32) M).2) M) else M
theorem S_X2_thinsCrowd {sh : List SC} {M : Mem} {a : Nat} {x1 : Int32}  (hb1 : MatchAt sh a)  : Gv m_X2_thinsCrowd [.ref a, .int x1] sh M (.int (V_X2_thinsCrowd a x1 M)) (U_X2_thinsCrowd a x1 M) := by
  refine Sp.of (ls := [some (.ref a), some (.int x1), none, none, none]) (by decide +kernel) (Nat.le_of_ble_eq_true rfl) rfl ?_
  have k0 : kd sh a = some (2 + 7, 0) := hb1.1
  refine r_iconst e_X2_thinsCrowd_0 ic_0 ?_
  refine p_istore_n_5_2 e_X2_thinsCrowd_1 rfl rfl ?_
  refine r_iconst e_X2_thinsCrowd_2 ic_m1 ?_
  refine p_istore_n_5_3 e_X2_thinsCrowd_3 rfl rfl ?_
  refine r_iconst e_X2_thinsCrowd_4 ic_0 ?_
  refine p_istore_5_4 e_X2_thinsCrowd_5 rfl rfl ?_
  skip
  show WP m_X2_thinsCrowd _ 7 [some (.ref a), some (.int x1), some (.int (0 : Int32)), some (.int (-1 : Int32)), some (.int (nI 0))] [] sh M 0 0
  refine L_X2_thinsCrowd_7 hb1 10 0 (0 : Int32) (-1 : Int32) M (by omega) ?_
  refine r_iload_n e_X2_thinsCrowd_67 rfl ?_
  refine r_iconst e_X2_thinsCrowd_68 ic_4 ?_
  refine r_icmp_ge e_X2_thinsCrowd_69 (fun h69_0 => ?_) (fun h69_0 => ?_)
  · refine r_aload_n e_X2_thinsCrowd_74 rfl ?_
    refine r_iload_n e_X2_thinsCrowd_75 rfl ?_
    refine cV1u e_X2_thinsCrowd_76 cl_X2_101 ⟨Nat.le_of_ble_eq_true rfl, Nat.le_of_ble_eq_true rfl⟩ ⟨rfl, rfl⟩ k0 (Nat.le_of_ble_eq_true rfl) (S_X2_putAtStart hb1) ?_
    refine r_iconst e_X2_thinsCrowd_79 ic_1 ?_
    refine r_zreturn e_X2_thinsCrowd_80 rfl ⟨rfl, rfl⟩ (by first | exact Or.inl rfl | exact Or.inr rfl) ?_
    (refine ⟨?_, rfl, ?_⟩ <;> ((try unfold V_X2_thinsCrowd); (try unfold U_X2_thinsCrowd); (try simp only [if_pos h69_0]); (try rfl)))
  · refine r_iconst e_X2_thinsCrowd_72 ic_0 ?_
    refine r_zreturn e_X2_thinsCrowd_73 rfl ⟨rfl, rfl⟩ (by first | exact Or.inl rfl | exact Or.inr rfl) ?_
    (refine ⟨?_, rfl, ?_⟩ <;> ((try unfold V_X2_thinsCrowd); (try unfold U_X2_thinsCrowd); (try simp only [if_neg h69_0]); (try rfl)))
def V_X10_order (x1 : Int32) (M : Mem) : Int32 := if 0 ≤ x1 then (let v1_0 : Int32 := if 0 ≤ (V_X1_teamAt 11 x1 M) then (V_X1_teamAt 11 x1 M) else (V_X10_finding (-1004 : Int32) M); let M1_1 : Mem := if 0 ≤ (V_X1_teamAt 11 x1 M) then M else (U_X10_finding (-1004 : Int32) M); v1_0) else (V_X10_finding (-1001 : Int32) M)
def U_X10_order (x1 : Int32) (M : Mem) : Mem := if 0 ≤ x1 then (let v1_0 : Int32 := if 0 ≤ (V_X1_teamAt 11 x1 M) then (V_X1_teamAt 11 x1 M) else (V_X10_finding (-1004 : Int32) M); let M1_1 : Mem := if 0 ≤ (V_X1_teamAt 11 x1 M) then M else (U_X10_finding (-1004 : Int32) M); M1_1) else (U_X10_finding (-1001 : Int32) M)
theorem S_X10_order {sh : List SC} {M : Mem} {x1 : Int32}  (hb1 : PitchAt sh)  : Gv m_X10_order [.ref 0, .int x1] sh M (.int (V_X10_order x1 M)) (U_X10_order x1 M) := by
  refine Sp.of (ls := [some (.ref 0), some (.int x1), none]) (by decide +kernel) (Nat.le_of_ble_eq_true rfl) rfl ?_
  have k0 : kd sh 0 = some (9 + 7, 0) := hb1.1
  have k1 : rf sh 0 7 = some 11 := hb1.2.2.2.2.2.2.2.2.1
  have k2 : kd sh 11 = some (1 + 7, 0) := hb1.2.2.2.2.2.2.2.2.2.2.2.2.2.2.2.1.1
  refine r_iload_n e_X10_order_0 rfl ?_
  refine r_if_ge e_X10_order_1 (fun h1_0 => ?_) (fun h1_0 => ?_)
  · refine r_aload_n e_X10_order_12 rfl ?_
    refine r_getR e_X10_order_13 fl_X10_41 k0 k1 ?_
    refine r_iload_n e_X10_order_16 rfl ?_
    refine cV1v e_X10_order_17 cl_X10_189 ⟨Nat.le_of_ble_eq_true rfl, Nat.le_of_ble_eq_true rfl⟩ ⟨rfl, rfl⟩ k2 (Nat.le_of_ble_eq_true rfl) (S_X1_teamAt hb1.2.2.2.2.2.2.2.2.2.2.2.2.2.2.2.1) ?_
    refine p_istore_n_3_2 e_X10_order_20 rfl rfl ?_
    refine r_iload_n e_X10_order_21 rfl ?_
    obtain ⟨v1_0, e_v1_0⟩ : ∃ z : Int32, z = (if 0 ≤ (V_X1_teamAt 11 x1 M) then (V_X1_teamAt 11 x1 M) else (V_X10_finding (-1004 : Int32) M)) := ⟨_, rfl⟩
    obtain ⟨M1_1, e_M1_1⟩ : ∃ z : Mem, z = (if 0 ≤ (V_X1_teamAt 11 x1 M) then M else (U_X10_finding (-1004 : Int32) M)) := ⟨_, rfl⟩
    suffices j36_1 : WP m_X10_order (fun r sh' M'' => r = some (.int (V_X10_order x1 M)) ∧ sh' = sh ∧ M'' = (U_X10_order x1 M)) 36 [some (.ref 0), some (.int x1), some (.int (V_X1_teamAt 11 x1 M))] [.int v1_0] sh M1_1 0 0 by
      refine r_if_ge e_X10_order_22 (fun h22_1 => ?_) (fun h22_1 => ?_)
      · refine r_iload_n e_X10_order_35 rfl ?_
        rw [show v1_0 = (V_X1_teamAt 11 x1 M) from (e_v1_0.trans (if_pos h22_1)), show M1_1 = M from (e_M1_1.trans (if_pos h22_1))] at j36_1; exact j36_1
      · refine r_aload_n e_X10_order_25 rfl ?_
        refine r_sipush e_X10_order_26 sp_m1004 ?_
        refine cV1v e_X10_order_29 cl_X10_70 ⟨Nat.le_of_ble_eq_true rfl, Nat.le_of_ble_eq_true rfl⟩ ⟨rfl, rfl⟩ k0 (Nat.le_of_ble_eq_true rfl) (S_X10_finding hb1) ?_
        refine r_goto e_X10_order_32 ?_
        rw [show v1_0 = (V_X10_finding (-1004 : Int32) M) from (e_v1_0.trans (if_neg h22_1)), show M1_1 = U_X10_finding (-1004 : Int32) M from (e_M1_1.trans (if_neg h22_1))] at j36_1; exact j36_1
    refine r_ireturn e_X10_order_36 rfl ⟨rfl, rfl⟩ ?_
    (subst e_M1_1 e_v1_0; refine ⟨?_, rfl, ?_⟩ <;> ((try unfold V_X10_order); (try unfold U_X10_order); (try simp only [if_pos h1_0]); (try rfl)))
  · refine r_aload_n e_X10_order_4 rfl ?_
    refine r_sipush e_X10_order_5 sp_m1001 ?_
    refine cV1v e_X10_order_8 cl_X10_70 ⟨Nat.le_of_ble_eq_true rfl, Nat.le_of_ble_eq_true rfl⟩ ⟨rfl, rfl⟩ k0 (Nat.le_of_ble_eq_true rfl) (S_X10_finding hb1) ?_
    refine r_ireturn e_X10_order_11 rfl ⟨rfl, rfl⟩ ?_
    (refine ⟨?_, rfl, ?_⟩ <;> ((try unfold V_X10_order); (try unfold U_X10_order); (try simp only [if_neg h1_0]); (try rfl)))
def V_X11_program (x1 : Int32) (x2 : Int32) (x3 : Int32) (M : Mem) : Int32 := if (V_X11_isTeam x1 M) = 0 then (V_X11_finding (-1001 : Int32) M) else (if (V_X11_in x2 (0 : Int32) (4 : Int32) M) = 0 then (V_X11_finding (-1001 : Int32) M) else (if (V_X11_in x3 (-1 : Int32) ((M.1 242 8) - (1 : Int32)) M) = 0 then (V_X11_finding (-1001 : Int32) M) else (1 : Int32)))
def U_X11_program (x1 : Int32) (x2 : Int32) (x3 : Int32) (M : Mem) : Mem := if (V_X11_isTeam x1 M) = 0 then (U_X11_finding (-1001 : Int32) M) else (if (V_X11_in x2 (0 : Int32) (4 : Int32) M) = 0 then (U_X11_finding (-1001 : Int32) M) else (if (V_X11_in x3 (-1 : Int32) ((M.1 242 8) - (1 : Int32)) M) = 0 then (U_X11_finding (-1001 : Int32) M) else (setI M 254 (((5 : Int32) * x1) + x2).toNatClampNeg x3)))
theorem S_X11_program {sh : List SC} {M : Mem} {x1 : Int32} {x2 : Int32} {x3 : Int32} {mA : Nat} {oA : Nat} (hb1 : ModelAt sh mA oA) (g1 : ¬ ((V_X11_isTeam x1 M) = 0) → ¬ ((V_X11_in x2 (0 : Int32) (4 : Int32) M) = 0) → ¬ ((V_X11_in x3 (-1 : Int32) ((M.1 242 8) - (1 : Int32)) M) = 0) → vp_in (((5 : Int32) * x1) + x2) 20) : Gv m_X11_program [.ref 242, .int x1, .int x2, .int x3] sh M (.int (V_X11_program x1 x2 x3 M)) (U_X11_program x1 x2 x3 M) := by
  refine Sp.of (ls := [some (.ref 242), some (.int x1), some (.int x2), some (.int x3)]) (by decide +kernel) (Nat.le_of_ble_eq_true rfl) rfl ?_
  have k0 : kd sh 242 = some (10 + 7, 0) := hb1.1
  have k1 : rf sh 242 22 = some 254 := hb1.2.2.2.2.2.2.2.2.2.2.2.2.1
  have k2 : kd sh 254 = some (0, 20) := hb1.2.2.2.2.2.2.2.2.2.2.2.2.2.2.2.2.2.2.2.2.2.2.2.2.2.2.2.2.2.2.2.2.2.2.2.2.2.2.1
  refine r_iload_n e_X11_program_0 rfl ?_
  refine cS1v e_X11_program_1 cl_X11_249 ⟨Nat.le_of_ble_eq_true rfl, Nat.le_of_ble_eq_true rfl⟩ ⟨rfl, rfl⟩  (Nat.le_of_ble_eq_true rfl) (S_X11_isTeam ) ?_
  refine r_if_eq e_X11_program_4 (fun h4_0 => ?_) (fun h4_0 => ?_)
  · refine r_aload_n e_X11_program_30 rfl ?_
    refine r_sipush e_X11_program_31 sp_m1001 ?_
    refine cV1v e_X11_program_34 cl_X11_178 ⟨Nat.le_of_ble_eq_true rfl, Nat.le_of_ble_eq_true rfl⟩ ⟨rfl, rfl⟩ k0 (Nat.le_of_ble_eq_true rfl) (S_X11_finding hb1 (by first | decide | (unfold vp_in; decide) | exact Or.inl rfl | exact Or.inr rfl)) ?_
    refine r_ireturn e_X11_program_37 rfl ⟨rfl, rfl⟩ ?_
    (refine ⟨?_, rfl, ?_⟩ <;> ((try unfold V_X11_program); (try unfold U_X11_program); (try simp only [if_pos h4_0]); (try rfl)))
  · refine r_iload_n e_X11_program_7 rfl ?_
    refine r_iconst e_X11_program_8 ic_0 ?_
    refine r_iconst e_X11_program_9 ic_4 ?_
    refine cS3v e_X11_program_10 cl_X11_245 ⟨Nat.le_of_ble_eq_true rfl, Nat.le_of_ble_eq_true rfl⟩ ⟨rfl, rfl⟩  (Nat.le_of_ble_eq_true rfl) (S_X11_in ) ?_
    refine r_if_eq e_X11_program_13 (fun h13_1 => ?_) (fun h13_1 => ?_)
    · refine r_aload_n e_X11_program_30 rfl ?_
      refine r_sipush e_X11_program_31 sp_m1001 ?_
      refine cV1v e_X11_program_34 cl_X11_178 ⟨Nat.le_of_ble_eq_true rfl, Nat.le_of_ble_eq_true rfl⟩ ⟨rfl, rfl⟩ k0 (Nat.le_of_ble_eq_true rfl) (S_X11_finding hb1 (by first | decide | (unfold vp_in; decide) | exact Or.inl rfl | exact Or.inr rfl)) ?_
      refine r_ireturn e_X11_program_37 rfl ⟨rfl, rfl⟩ ?_
      (refine ⟨?_, rfl, ?_⟩ <;> ((try unfold V_X11_program); (try unfold U_X11_program); (try simp only [if_neg h4_0, if_pos h13_1]); (try rfl)))
    · refine r_iload_n e_X11_program_16 rfl ?_
      refine r_iconst e_X11_program_17 ic_m1 ?_
      refine r_aload_n e_X11_program_18 rfl ?_
      refine r_getI e_X11_program_19 fl_X11_105 i0 k0 ?_
      refine r_iconst e_X11_program_22 ic_1 ?_
      refine r_isub e_X11_program_23 ?_
      refine cS3v e_X11_program_24 cl_X11_245 ⟨Nat.le_of_ble_eq_true rfl, Nat.le_of_ble_eq_true rfl⟩ ⟨rfl, rfl⟩  (Nat.le_of_ble_eq_true rfl) (S_X11_in ) ?_
      refine r_if_ne e_X11_program_27 (fun h27_2 => ?_) (fun h27_2 => ?_)
      · refine r_aload_n e_X11_program_38 rfl ?_
        refine r_getR e_X11_program_39 fl_X11_197 k0 k1 ?_
        refine r_iconst e_X11_program_42 ic_5 ?_
        refine r_iload_n e_X11_program_43 rfl ?_
        refine r_imul e_X11_program_44 ?_
        refine r_iload_n e_X11_program_45 rfl ?_
        refine r_iadd e_X11_program_46 ?_
        refine r_iload_n e_X11_program_47 rfl ?_
        refine r_iastore e_X11_program_48 k2 (g1 h4_0 h13_1 h27_2) ?_
        refine r_iconst e_X11_program_49 ic_1 ?_
        refine r_ireturn e_X11_program_50 rfl ⟨rfl, rfl⟩ ?_
        (refine ⟨?_, rfl, ?_⟩ <;> ((try unfold V_X11_program); (try unfold U_X11_program); (try simp only [if_neg h4_0, if_neg h13_1, if_neg h27_2]); (try rfl)))
      · refine r_aload_n e_X11_program_30 rfl ?_
        refine r_sipush e_X11_program_31 sp_m1001 ?_
        refine cV1v e_X11_program_34 cl_X11_178 ⟨Nat.le_of_ble_eq_true rfl, Nat.le_of_ble_eq_true rfl⟩ ⟨rfl, rfl⟩ k0 (Nat.le_of_ble_eq_true rfl) (S_X11_finding hb1 (by first | decide | (unfold vp_in; decide) | exact Or.inl rfl | exact Or.inr rfl)) ?_
        refine r_ireturn e_X11_program_37 rfl ⟨rfl, rfl⟩ ?_
        (refine ⟨?_, rfl, ?_⟩ <;> ((try unfold V_X11_program); (try unfold U_X11_program); (try simp only [if_neg h4_0, if_neg h13_1, if_pos h27_2]); (try rfl)))
def F_X2_kickOff_2 (a : Nat) : Nat → Nat → Mem → Mem
  | 0, i2, M => M
  | n + 1, i2, M => (F_X2_kickOff_2 a n (i2 + 1) (U_X5_leave (a + 10 + 2 * i2) M))
theorem L_X2_kickOff_2 {sh : List SC} {Q : Po} {a : Nat}    (hb1 : MatchAt sh a)   : ∀ (n i2 : Nat) (M : Mem), i2 + n = 10 → WP m_X2_kickOff Q 26 [some (.ref a), none, none] [] sh (F_X2_kickOff_2 a n i2 M) 0 0 → WP m_X2_kickOff Q 2 [some (.ref a), some (.int (nI i2)), none] [] sh M 0 0 := by
  have k0 : kd sh a = some (2 + 7, 0) := hb1.1
  have k1 : rf sh a 3 = some (a + 3) := hb1.2.2.2.2.1
  have k2 : kd sh (a + 3) = some (6, 10) := hb1.2.2.2.2.2.2.2.1
  intro n
  induction n with
  | zero =>
    intro i2 M hi hq
    have hz : (10 : Int32) ≤ nI i2 := by
      have q : i2 = 10 := by omega
      rw [q]; exact nI_le (Nat.le_refl _) (by decide)
    refine r_iload_n e_X2_kickOff_2 rfl ?_
    refine r_aload_n e_X2_kickOff_3 rfl ?_
    refine r_getR e_X2_kickOff_4 fl_X2_20 k0 k1 ?_
    refine r_alen (v := (10 : Int32)) e_X2_kickOff_7 k2 (by decide) rfl ?_
    refine r_icmp_ge e_X2_kickOff_8 (fun _ => ?_) (fun hh => absurd hz hh)
    refine d_3_1 ?_
    (simp only [F_X2_kickOff_2] at hq; first | exact hq | (simp only []; exact hq))
  | succ n ih =>
    intro i2 M hi hq
    have hlt_i2 : i2 < 10 := by omega
    have hcl_i2 : (nI i2).toNatClampNeg = i2 := nI_clamp (by omega)
    have hs : ¬ (10 : Int32) ≤ nI i2 := nI_ge (b := 10) hlt_i2 (by decide)
    refine r_iload_n e_X2_kickOff_2 rfl ?_
    refine r_aload_n e_X2_kickOff_3 rfl ?_
    refine r_getR e_X2_kickOff_4 fl_X2_20 k0 k1 ?_
    refine r_alen (v := (10 : Int32)) e_X2_kickOff_7 k2 (by decide) rfl ?_
    refine r_icmp_ge e_X2_kickOff_8 (fun hh => absurd hh hs) (fun _ => ?_)
    refine r_aload_n e_X2_kickOff_11 rfl ?_
    refine r_getR e_X2_kickOff_12 fl_X2_20 k0 k1 ?_
    refine r_iload_n e_X2_kickOff_15 rfl ?_
    refine r_aaload (b := (a + 10 + 2 * i2)) e_X2_kickOff_16 k2 ⟨by decide, by decide⟩ (vp_in_nI (Nat.lt_of_lt_of_le hlt_i2 (by decide)) (by decide)) (by rw [hcl_i2]; exact (hb1.2.2.2.2.2.2.2.2.1 i2 (Nat.lt_of_lt_of_le hlt_i2 (by decide))).1) ?_
    refine cV0u e_X2_kickOff_17 cl_X2_94 ⟨Nat.le_of_ble_eq_true rfl, Nat.le_of_ble_eq_true rfl⟩ ⟨rfl, rfl⟩ (show kd sh (a + 10 + 2 * i2) = some (5 + 7, 0) from (hb1.2.2.2.2.2.2.2.2.1 i2 (Nat.lt_of_lt_of_le hlt_i2 (by decide))).2.1) (Nat.le_of_ble_eq_true rfl) (S_X5_leave (hb1.2.2.2.2.2.2.2.2.1 i2 (Nat.lt_of_lt_of_le hlt_i2 (by decide))).2) ?_
    refine p_iinc_3_1 e_X2_kickOff_20 rfl ic_1 rfl ?_
    rw [nI_1 i2]
    refine r_goto e_X2_kickOff_23 ?_
    (simp only [F_X2_kickOff_2] at hq; first | exact ih (i2 + 1) _ (by omega) hq | (simp only []; exact ih (i2 + 1) _ (by omega) hq))
def F_X2_kickOff_28 (a : Nat) : Nat → Nat → Mem → Mem
  | 0, i28, M => M
  | n + 1, i28, M => (let v2800_0 : Int32 := if (5 : Int32) ≤ (nI i28) then (M.1 a 9) else (M.1 a 8); let M2801_0 : Mem := if v2800_0 < 0 then M else (if (4 : Int32) ≤ v2800_0 then M else (U_X5_join (a + 10 + 2 * i28) (106 + 4 * v2800_0.toNatClampNeg) M)); (F_X2_kickOff_28 a n (i28 + 1) (U_X2_putAtStart a (nI i28) M2801_0)))
theorem L_X2_kickOff_28 {sh : List SC} {Q : Po} {a : Nat}    (hb1 : MatchAt sh a)   : ∀ (n i28 : Nat) (M : Mem), i28 + n = 10 → WP m_X2_kickOff Q 93 [some (.ref a), none, none] [] sh (F_X2_kickOff_28 a n i28 M) 0 0 → WP m_X2_kickOff Q 28 [some (.ref a), some (.int (nI i28)), none] [] sh M 0 0 := by
  have k0 : kd sh a = some (2 + 7, 0) := hb1.1
  have k1 : rf sh a 3 = some (a + 3) := hb1.2.2.2.2.1
  have k2 : kd sh (a + 3) = some (6, 10) := hb1.2.2.2.2.2.2.2.1
  have k3 : rf sh a 0 = some 9 := hb1.2.1
  have k4 : kd sh 9 = some (4, 4) := hb1.2.2.2.2.2.2.2.2.2.2.2.2.2.2.1
  intro n
  induction n with
  | zero =>
    intro i28 M hi hq
    have hz : (10 : Int32) ≤ nI i28 := by
      have q : i28 = 10 := by omega
      rw [q]; exact nI_le (Nat.le_refl _) (by decide)
    refine r_iload_n e_X2_kickOff_28 rfl ?_
    refine r_aload_n e_X2_kickOff_29 rfl ?_
    refine r_getR e_X2_kickOff_30 fl_X2_20 k0 k1 ?_
    refine r_alen (v := (10 : Int32)) e_X2_kickOff_33 k2 (by decide) rfl ?_
    refine r_icmp_ge e_X2_kickOff_34 (fun _ => ?_) (fun hh => absurd hz hh)
    refine d_3_1 ?_
    (simp only [F_X2_kickOff_28] at hq; first | exact hq | (simp only []; exact hq))
  | succ n ih =>
    intro i28 M hi hq
    have hlt_i28 : i28 < 10 := by omega
    have hcl_i28 : (nI i28).toNatClampNeg = i28 := nI_clamp (by omega)
    have hs : ¬ (10 : Int32) ≤ nI i28 := nI_ge (b := 10) hlt_i28 (by decide)
    refine r_iload_n e_X2_kickOff_28 rfl ?_
    refine r_aload_n e_X2_kickOff_29 rfl ?_
    refine r_getR e_X2_kickOff_30 fl_X2_20 k0 k1 ?_
    refine r_alen (v := (10 : Int32)) e_X2_kickOff_33 k2 (by decide) rfl ?_
    refine r_icmp_ge e_X2_kickOff_34 (fun hh => absurd hh hs) (fun _ => ?_)
    refine r_iload_n e_X2_kickOff_37 rfl ?_
    refine r_iconst e_X2_kickOff_38 ic_5 ?_
    obtain ⟨v2800_0, e_v2800_0⟩ : ∃ z : Int32, z = (if (5 : Int32) ≤ (nI i28) then (M.1 a 9) else (M.1 a 8)) := ⟨_, rfl⟩
    suffices j53_2800 : WP m_X2_kickOff Q 53 [some (.ref a), some (.int (nI i28)), none] [.int v2800_0] sh M 0 0 by
      refine r_icmp_ge e_X2_kickOff_39 (fun h39_2800 => ?_) (fun h39_2800 => ?_)
      · refine r_aload_n e_X2_kickOff_49 rfl ?_
        refine r_getI e_X2_kickOff_50 fl_X2_49 i0 k0 ?_
        rw [show v2800_0 = (M.1 a 9) from (e_v2800_0.trans (if_pos h39_2800))] at j53_2800; exact j53_2800
      · refine r_aload_n e_X2_kickOff_42 rfl ?_
        refine r_getI e_X2_kickOff_43 fl_X2_46 i0 k0 ?_
        refine r_goto e_X2_kickOff_46 ?_
        rw [show v2800_0 = (M.1 a 8) from (e_v2800_0.trans (if_neg h39_2800))] at j53_2800; exact j53_2800
    refine p_istore_n_3_2 e_X2_kickOff_53 rfl rfl ?_
    refine r_iload_n e_X2_kickOff_54 rfl ?_
    obtain ⟨M2801_0, e_M2801_0⟩ : ∃ z : Mem, z = (if v2800_0 < 0 then M else (if (4 : Int32) ≤ v2800_0 then M else (U_X5_join (a + 10 + 2 * i28) (106 + 4 * v2800_0.toNatClampNeg) M))) := ⟨_, rfl⟩
    suffices j82_2801 : WP m_X2_kickOff Q 82 [some (.ref a), some (.int (nI i28)), some (.int v2800_0)] [] sh M2801_0 0 0 by
      refine r_if_lt e_X2_kickOff_55 (fun h55_2801 => ?_) (fun h55_2801 => ?_)
      · rw [show M2801_0 = M from (e_M2801_0.trans (if_pos h55_2801))] at j82_2801; exact j82_2801
      · refine r_iload_n e_X2_kickOff_58 rfl ?_
        refine r_aload_n e_X2_kickOff_59 rfl ?_
        refine r_getR e_X2_kickOff_60 fl_X2_52 k0 k3 ?_
        refine r_alen (v := (4 : Int32)) e_X2_kickOff_63 k4 (by decide) rfl ?_
        refine r_icmp_ge e_X2_kickOff_64 (fun h64_2802 => ?_) (fun h64_2802 => ?_)
        · rw [show M2801_0 = M from ((e_M2801_0.trans (if_neg h55_2801)).trans (if_pos h64_2802))] at j82_2801; exact j82_2801
        · refine r_aload_n e_X2_kickOff_67 rfl ?_
          refine r_getR e_X2_kickOff_68 fl_X2_20 k0 k1 ?_
          refine r_iload_n e_X2_kickOff_71 rfl ?_
          refine r_aaload (b := (a + 10 + 2 * i28)) e_X2_kickOff_72 k2 ⟨by decide, by decide⟩ (vp_in_nI (Nat.lt_of_lt_of_le hlt_i28 (by decide)) (by decide)) (by rw [hcl_i28]; exact (hb1.2.2.2.2.2.2.2.2.1 i28 (Nat.lt_of_lt_of_le hlt_i28 (by decide))).1) ?_
          refine r_aload_n e_X2_kickOff_73 rfl ?_
          refine r_getR e_X2_kickOff_74 fl_X2_52 k0 k3 ?_
          refine r_iload_n e_X2_kickOff_77 rfl ?_
          refine r_aaload (b := (106 + 4 * v2800_0.toNatClampNeg)) e_X2_kickOff_78 k4 ⟨by decide, by decide⟩ (vp_guard h55_2801 h64_2802 (by decide)) (hb1.2.2.2.2.2.2.2.2.2.2.2.2.2.2.2 v2800_0.toNatClampNeg (vp_lt (vp_guard h55_2801 h64_2802 (by decide)))).1 ?_
          refine cV1u e_X2_kickOff_79 cl_X2_97 ⟨Nat.le_of_ble_eq_true rfl, Nat.le_of_ble_eq_true rfl⟩ ⟨rfl, rfl⟩ (show kd sh (a + 10 + 2 * i28) = some (5 + 7, 0) from (hb1.2.2.2.2.2.2.2.2.1 i28 (Nat.lt_of_lt_of_le hlt_i28 (by decide))).2.1) (Nat.le_of_ble_eq_true rfl) (S_X5_join (hb1.2.2.2.2.2.2.2.2.1 i28 (Nat.lt_of_lt_of_le hlt_i28 (by decide))).2 (hb1.2.2.2.2.2.2.2.2.2.2.2.2.2.2.2 v2800_0.toNatClampNeg (vp_lt (vp_guard h55_2801 h64_2802 (by decide)))).2) ?_
          rw [show M2801_0 = U_X5_join (a + 10 + 2 * i28) (106 + 4 * v2800_0.toNatClampNeg) M from ((e_M2801_0.trans (if_neg h55_2801)).trans (if_neg h64_2802))] at j82_2801; exact j82_2801
    refine r_aload_n e_X2_kickOff_82 rfl ?_
    refine r_iload_n e_X2_kickOff_83 rfl ?_
    refine cV1u e_X2_kickOff_84 cl_X2_101 ⟨Nat.le_of_ble_eq_true rfl, Nat.le_of_ble_eq_true rfl⟩ ⟨rfl, rfl⟩ k0 (Nat.le_of_ble_eq_true rfl) (S_X2_putAtStart hb1) ?_
    refine p_iinc_3_1 e_X2_kickOff_87 rfl ic_1 rfl ?_
    rw [nI_1 i28]
    refine r_goto e_X2_kickOff_90 ?_
    refine d_3_2 ?_
    (subst e_M2801_0 e_v2800_0; simp only [F_X2_kickOff_28] at hq; first | exact ih (i28 + 1) _ (by omega) hq | (simp only []; exact ih (i28 + 1) _ (by omega) hq))
def F_X2_kickOff_106 (a : Nat) : Nat → Nat → Mem → Mem
  | 0, i106, M => M
  | n + 1, i106, M => (F_X2_kickOff_106 a n (i106 + 1) (U_X5_see (a + 10 + 2 * i106) (M.1 (a + 4) 0) (M.1 (a + 4) 1) M))
theorem L_X2_kickOff_106 {sh : List SC} {Q : Po} {a : Nat}    (hb1 : MatchAt sh a)   : ∀ (n i106 : Nat) (M : Mem), i106 + n = 10 → WP m_X2_kickOff Q 144 [some (.ref a), none, none] [] sh (F_X2_kickOff_106 a n i106 M) 0 0 → WP m_X2_kickOff Q 106 [some (.ref a), some (.int (nI i106)), none] [] sh M 0 0 := by
  have k0 : kd sh a = some (2 + 7, 0) := hb1.1
  have k1 : rf sh a 3 = some (a + 3) := hb1.2.2.2.2.1
  have k2 : kd sh (a + 3) = some (6, 10) := hb1.2.2.2.2.2.2.2.1
  have k3 : rf sh a 4 = some (a + 4) := hb1.2.2.2.2.2.1
  have k4 : kd sh (a + 4) = some (0 + 7, 0) := hb1.2.2.2.2.2.2.2.2.2.1.1
  intro n
  induction n with
  | zero =>
    intro i106 M hi hq
    have hz : (10 : Int32) ≤ nI i106 := by
      have q : i106 = 10 := by omega
      rw [q]; exact nI_le (Nat.le_refl _) (by decide)
    refine r_iload_n e_X2_kickOff_106 rfl ?_
    refine r_aload_n e_X2_kickOff_107 rfl ?_
    refine r_getR e_X2_kickOff_108 fl_X2_20 k0 k1 ?_
    refine r_alen (v := (10 : Int32)) e_X2_kickOff_111 k2 (by decide) rfl ?_
    refine r_icmp_ge e_X2_kickOff_112 (fun _ => ?_) (fun hh => absurd hz hh)
    refine d_3_1 ?_
    (simp only [F_X2_kickOff_106] at hq; first | exact hq | (simp only []; exact hq))
  | succ n ih =>
    intro i106 M hi hq
    have hlt_i106 : i106 < 10 := by omega
    have hcl_i106 : (nI i106).toNatClampNeg = i106 := nI_clamp (by omega)
    have hs : ¬ (10 : Int32) ≤ nI i106 := nI_ge (b := 10) hlt_i106 (by decide)
    refine r_iload_n e_X2_kickOff_106 rfl ?_
    refine r_aload_n e_X2_kickOff_107 rfl ?_
    refine r_getR e_X2_kickOff_108 fl_X2_20 k0 k1 ?_
    refine r_alen (v := (10 : Int32)) e_X2_kickOff_111 k2 (by decide) rfl ?_
    refine r_icmp_ge e_X2_kickOff_112 (fun hh => absurd hh hs) (fun _ => ?_)
    refine r_aload_n e_X2_kickOff_115 rfl ?_
    refine r_getR e_X2_kickOff_116 fl_X2_20 k0 k1 ?_
    refine r_iload_n e_X2_kickOff_119 rfl ?_
    refine r_aaload (b := (a + 10 + 2 * i106)) e_X2_kickOff_120 k2 ⟨by decide, by decide⟩ (vp_in_nI (Nat.lt_of_lt_of_le hlt_i106 (by decide)) (by decide)) (by rw [hcl_i106]; exact (hb1.2.2.2.2.2.2.2.2.1 i106 (Nat.lt_of_lt_of_le hlt_i106 (by decide))).1) ?_
    refine r_aload_n e_X2_kickOff_121 rfl ?_
    refine r_getR e_X2_kickOff_122 fl_X2_27 k0 k3 ?_
    refine r_getI e_X2_kickOff_125 fl_X2_110 i0 k4 ?_
    refine r_aload_n e_X2_kickOff_128 rfl ?_
    refine r_getR e_X2_kickOff_129 fl_X2_27 k0 k3 ?_
    refine r_getI e_X2_kickOff_132 fl_X2_113 i0 k4 ?_
    refine cV2u e_X2_kickOff_135 cl_X2_116 ⟨Nat.le_of_ble_eq_true rfl, Nat.le_of_ble_eq_true rfl⟩ ⟨rfl, rfl⟩ (show kd sh (a + 10 + 2 * i106) = some (5 + 7, 0) from (hb1.2.2.2.2.2.2.2.2.1 i106 (Nat.lt_of_lt_of_le hlt_i106 (by decide))).2.1) (Nat.le_of_ble_eq_true rfl) (S_X5_see (hb1.2.2.2.2.2.2.2.2.1 i106 (Nat.lt_of_lt_of_le hlt_i106 (by decide))).2) ?_
    refine p_iinc_3_1 e_X2_kickOff_138 rfl ic_1 rfl ?_
    rw [nI_1 i106]
    refine r_goto e_X2_kickOff_141 ?_
    (simp only [F_X2_kickOff_106] at hq; first | exact ih (i106 + 1) _ (by omega) hq | (simp only []; exact ih (i106 + 1) _ (by omega) hq))
def U_X2_kickOff (a : Nat) (M : Mem) : Mem := (F_X2_kickOff_106 a 10 0 (U_X0_forget (a + 4) (U_X2_putBall a (F_X2_kickOff_28 a 10 0 (F_X2_kickOff_2 a 10 0 M)))))
theorem S_X2_kickOff {sh : List SC} {M : Mem} {a : Nat}  (hb1 : MatchAt sh a)  : Gu m_X2_kickOff [.ref a] sh M (U_X2_kickOff a M) := by
  refine Sp.of (ls := [some (.ref a), none, none]) (by decide +kernel) (Nat.le_of_ble_eq_true rfl) rfl ?_
  have k0 : kd sh a = some (2 + 7, 0) := hb1.1
  have k1 : rf sh a 4 = some (a + 4) := hb1.2.2.2.2.2.1
  have k2 : kd sh (a + 4) = some (0 + 7, 0) := hb1.2.2.2.2.2.2.2.2.2.1.1
  refine r_iconst e_X2_kickOff_0 ic_0 ?_
  refine p_istore_n_3_1 e_X2_kickOff_1 rfl rfl ?_
  skip
  show WP m_X2_kickOff _ 2 [some (.ref a), some (.int (nI 0)), none] [] sh M 0 0
  refine L_X2_kickOff_2 hb1 10 0  M (by omega) ?_
  refine r_iconst e_X2_kickOff_26 ic_0 ?_
  refine p_istore_n_3_1 e_X2_kickOff_27 rfl rfl ?_
  skip
  show WP m_X2_kickOff _ 28 [some (.ref a), some (.int (nI 0)), none] [] sh (F_X2_kickOff_2 a 10 0 M) 0 0
  refine L_X2_kickOff_28 hb1 10 0  (F_X2_kickOff_2 a 10 0 M) (by omega) ?_
  refine r_aload_n e_X2_kickOff_93 rfl ?_
  refine cV0u e_X2_kickOff_94 cl_X2_104 ⟨Nat.le_of_ble_eq_true rfl, Nat.le_of_ble_eq_true rfl⟩ ⟨rfl, rfl⟩ k0 (Nat.le_of_ble_eq_true rfl) (S_X2_putBall hb1) ?_
  refine r_aload_n e_X2_kickOff_97 rfl ?_
  refine r_getR e_X2_kickOff_98 fl_X2_27 k0 k1 ?_
  refine cV0u e_X2_kickOff_101 cl_X2_107 ⟨Nat.le_of_ble_eq_true rfl, Nat.le_of_ble_eq_true rfl⟩ ⟨rfl, rfl⟩ k2 (Nat.le_of_ble_eq_true rfl) (S_X0_forget hb1.2.2.2.2.2.2.2.2.2.1) ?_
  refine r_iconst e_X2_kickOff_104 ic_0 ?_
  refine p_istore_n_3_1 e_X2_kickOff_105 rfl rfl ?_
  skip
  show WP m_X2_kickOff _ 106 [some (.ref a), some (.int (nI 0)), none] [] sh (U_X0_forget (a + 4) (U_X2_putBall a (F_X2_kickOff_28 a 10 0 (F_X2_kickOff_2 a 10 0 M)))) 0 0
  refine L_X2_kickOff_106 hb1 10 0  (U_X0_forget (a + 4) (U_X2_putBall a (F_X2_kickOff_28 a 10 0 (F_X2_kickOff_2 a 10 0 M)))) (by omega) ?_
  refine r_return e_X2_kickOff_144 rfl ⟨rfl, rfl⟩ ?_
  (refine ⟨?_, rfl, ?_⟩ <;> ((try unfold U_X2_kickOff); (try simp only []); (try rfl)))
def V_X2_applyLaws (a : Nat) (x1 : Int32) (M : Mem) : Int32 := if x1 = 0 then (if (V_X0_hasSlept (a + 4) M) = 0 then (if ((U_X0_hasSlept (a + 4) M).1 (a + 4) 2) < 0 then (let v3_0 : Int32 := if (V_X2_thinsCrowd a (0 : Int32) (U_X0_hasSlept (a + 4) M)) = 0 then (if (V_X2_thinsCrowd a (1 : Int32) (U_X2_thinsCrowd a (0 : Int32) (U_X0_hasSlept (a + 4) M))) = 0 then (-1 : Int32) else (3 : Int32)) else (3 : Int32); let M3_1 : Mem := if (V_X2_thinsCrowd a (0 : Int32) (U_X0_hasSlept (a + 4) M)) = 0 then (U_X2_thinsCrowd a (1 : Int32) (U_X2_thinsCrowd a (0 : Int32) (U_X0_hasSlept (a + 4) M))) else (U_X2_thinsCrowd a (0 : Int32) (U_X0_hasSlept (a + 4) M)); v3_0) else (if (((U_X0_hasSlept (a + 4) M).1 a 7) - ((U_X0_hasSlept (a + 4) M).1 (a + 4) 3)) < (12 : Int32) then (let v6_0 : Int32 := if (V_X2_thinsCrowd a (0 : Int32) (U_X0_hasSlept (a + 4) M)) = 0 then (if (V_X2_thinsCrowd a (1 : Int32) (U_X2_thinsCrowd a (0 : Int32) (U_X0_hasSlept (a + 4) M))) = 0 then (-1 : Int32) else (3 : Int32)) else (3 : Int32); let M6_1 : Mem := if (V_X2_thinsCrowd a (0 : Int32) (U_X0_hasSlept (a + 4) M)) = 0 then (U_X2_thinsCrowd a (1 : Int32) (U_X2_thinsCrowd a (0 : Int32) (U_X0_hasSlept (a + 4) M))) else (U_X2_thinsCrowd a (0 : Int32) (U_X0_hasSlept (a + 4) M)); v6_0) else (2 : Int32))) else (1 : Int32)) else (let v8_0 : Int32 := if x1 = (2 : Int32) then (1 : Int32) else (0 : Int32); (0 : Int32))
def U_X2_applyLaws (a : Nat) (x1 : Int32) (M : Mem) : Mem := if x1 = 0 then (if (V_X0_hasSlept (a + 4) M) = 0 then (if ((U_X0_hasSlept (a + 4) M).1 (a + 4) 2) < 0 then (let v3_0 : Int32 := if (V_X2_thinsCrowd a (0 : Int32) (U_X0_hasSlept (a + 4) M)) = 0 then (if (V_X2_thinsCrowd a (1 : Int32) (U_X2_thinsCrowd a (0 : Int32) (U_X0_hasSlept (a + 4) M))) = 0 then (-1 : Int32) else (3 : Int32)) else (3 : Int32); let M3_1 : Mem := if (V_X2_thinsCrowd a (0 : Int32) (U_X0_hasSlept (a + 4) M)) = 0 then (U_X2_thinsCrowd a (1 : Int32) (U_X2_thinsCrowd a (0 : Int32) (U_X0_hasSlept (a + 4) M))) else (U_X2_thinsCrowd a (0 : Int32) (U_X0_hasSlept (a + 4) M)); M3_1) else (if (((U_X0_hasSlept (a + 4) M).1 a 7) - ((U_X0_hasSlept (a + 4) M).1 (a + 4) 3)) < (12 : Int32) then (let v6_0 : Int32 := if (V_X2_thinsCrowd a (0 : Int32) (U_X0_hasSlept (a + 4) M)) = 0 then (if (V_X2_thinsCrowd a (1 : Int32) (U_X2_thinsCrowd a (0 : Int32) (U_X0_hasSlept (a + 4) M))) = 0 then (-1 : Int32) else (3 : Int32)) else (3 : Int32); let M6_1 : Mem := if (V_X2_thinsCrowd a (0 : Int32) (U_X0_hasSlept (a + 4) M)) = 0 then (U_X2_thinsCrowd a (1 : Int32) (U_X2_thinsCrowd a (0 : Int32) (U_X0_hasSlept (a + 4) M))) else (U_X2_thinsCrowd a (0 : Int32) (U_X0_hasSlept (a + 4) M)); M6_1) else (U_X2_giveToFoe a (U_X0_hasSlept (a + 4) M)))) else (U_X2_putBall a (U_X0_hasSlept (a + 4) M))) else (let v8_0 : Int32 := if x1 = (2 : Int32) then (1 : Int32) else (0 : Int32); U_X2_kickOff a (U_X7_addGoal (a + 7) v8_0 (M.1 a 7) M))
theorem S_X2_applyLaws {sh : List SC} {M : Mem} {a : Nat} {x1 : Int32}  (hb1 : MatchAt sh a) (g1 : x1 = 0 → (V_X0_hasSlept (a + 4) M) = 0 → ¬ (((U_X0_hasSlept (a + 4) M).1 (a + 4) 2) < 0) → ¬ ((((U_X0_hasSlept (a + 4) M).1 a 7) - ((U_X0_hasSlept (a + 4) M).1 (a + 4) 3)) < (12 : Int32)) → (¬ (((F_X2_giveToFoe_7 a 10 0 (-1 : Int32) (15 : Int32) (U_X0_hasSlept (a + 4) M)).1) < 0) → vp_in ((F_X2_giveToFoe_7 a 10 0 (-1 : Int32) (15 : Int32) (U_X0_hasSlept (a + 4) M)).1) 10)) : Gv m_X2_applyLaws [.ref a, .int x1] sh M (.int (V_X2_applyLaws a x1 M)) (U_X2_applyLaws a x1 M) := by
  refine Sp.of (ls := [some (.ref a), some (.int x1)]) (by decide +kernel) (Nat.le_of_ble_eq_true rfl) rfl ?_
  have k0 : kd sh a = some (2 + 7, 0) := hb1.1
  have k1 : rf sh a 4 = some (a + 4) := hb1.2.2.2.2.2.1
  have k2 : kd sh (a + 4) = some (0 + 7, 0) := hb1.2.2.2.2.2.2.2.2.2.1.1
  have k3 : rf sh a 5 = some (a + 7) := hb1.2.2.2.2.2.2.1
  have k4 : kd sh (a + 7) = some (7 + 7, 0) := hb1.2.2.2.2.2.2.2.2.2.2.1.1
  refine r_iload_n e_X2_applyLaws_0 rfl ?_
  refine r_if_eq e_X2_applyLaws_1 (fun h1_0 => ?_) (fun h1_0 => ?_)
  · refine r_aload_n e_X2_applyLaws_31 rfl ?_
    refine r_getR e_X2_applyLaws_32 fl_X2_27 k0 k1 ?_
    refine cV0v e_X2_applyLaws_35 cl_X2_251 ⟨Nat.le_of_ble_eq_true rfl, Nat.le_of_ble_eq_true rfl⟩ ⟨rfl, rfl⟩ k2 (Nat.le_of_ble_eq_true rfl) (S_X0_hasSlept hb1.2.2.2.2.2.2.2.2.2.1) ?_
    refine r_if_eq e_X2_applyLaws_38 (fun h38_1 => ?_) (fun h38_1 => ?_)
    · refine r_aload_n e_X2_applyLaws_47 rfl ?_
      refine r_getR e_X2_applyLaws_48 fl_X2_27 k0 k1 ?_
      refine r_getI e_X2_applyLaws_51 fl_X2_132 i0 k2 ?_
      refine r_if_lt e_X2_applyLaws_54 (fun h54_2 => ?_) (fun h54_2 => ?_)
      · refine r_aload_n e_X2_applyLaws_80 rfl ?_
        refine r_iconst e_X2_applyLaws_81 ic_0 ?_
        refine cV1v e_X2_applyLaws_82 cl_X2_258 ⟨Nat.le_of_ble_eq_true rfl, Nat.le_of_ble_eq_true rfl⟩ ⟨rfl, rfl⟩ k0 (Nat.le_of_ble_eq_true rfl) (S_X2_thinsCrowd hb1) ?_
        obtain ⟨v3_0, e_v3_0⟩ : ∃ z : Int32, z = (if (V_X2_thinsCrowd a (0 : Int32) (U_X0_hasSlept (a + 4) M)) = 0 then (if (V_X2_thinsCrowd a (1 : Int32) (U_X2_thinsCrowd a (0 : Int32) (U_X0_hasSlept (a + 4) M))) = 0 then (-1 : Int32) else (3 : Int32)) else (3 : Int32)) := ⟨_, rfl⟩
        obtain ⟨M3_1, e_M3_1⟩ : ∃ z : Mem, z = (if (V_X2_thinsCrowd a (0 : Int32) (U_X0_hasSlept (a + 4) M)) = 0 then (U_X2_thinsCrowd a (1 : Int32) (U_X2_thinsCrowd a (0 : Int32) (U_X0_hasSlept (a + 4) M))) else (U_X2_thinsCrowd a (0 : Int32) (U_X0_hasSlept (a + 4) M))) := ⟨_, rfl⟩
        suffices j101_3 : WP m_X2_applyLaws (fun r sh' M'' => r = some (.int (V_X2_applyLaws a x1 M)) ∧ sh' = sh ∧ M'' = (U_X2_applyLaws a x1 M)) 101 [some (.ref a), some (.int x1)] [.int v3_0] sh M3_1 0 0 by
          refine r_if_ne e_X2_applyLaws_85 (fun h85_3 => ?_) (fun h85_3 => ?_)
          · refine r_iconst e_X2_applyLaws_96 ic_3 ?_
            refine r_goto e_X2_applyLaws_97 ?_
            rw [show v3_0 = (3 : Int32) from (e_v3_0.trans (if_neg h85_3)), show M3_1 = U_X2_thinsCrowd a (0 : Int32) (U_X0_hasSlept (a + 4) M) from (e_M3_1.trans (if_neg h85_3))] at j101_3; exact j101_3
          · refine r_aload_n e_X2_applyLaws_88 rfl ?_
            refine r_iconst e_X2_applyLaws_89 ic_1 ?_
            refine cV1v e_X2_applyLaws_90 cl_X2_258 ⟨Nat.le_of_ble_eq_true rfl, Nat.le_of_ble_eq_true rfl⟩ ⟨rfl, rfl⟩ k0 (Nat.le_of_ble_eq_true rfl) (S_X2_thinsCrowd hb1) ?_
            refine r_if_eq e_X2_applyLaws_93 (fun h93_4 => ?_) (fun h93_4 => ?_)
            · refine r_iconst e_X2_applyLaws_100 ic_m1 ?_
              rw [show v3_0 = (-1 : Int32) from ((e_v3_0.trans (if_pos h85_3)).trans (if_pos h93_4)), show M3_1 = U_X2_thinsCrowd a (1 : Int32) (U_X2_thinsCrowd a (0 : Int32) (U_X0_hasSlept (a + 4) M)) from (e_M3_1.trans (if_pos h85_3))] at j101_3; exact j101_3
            · refine r_iconst e_X2_applyLaws_96 ic_3 ?_
              refine r_goto e_X2_applyLaws_97 ?_
              rw [show v3_0 = (3 : Int32) from ((e_v3_0.trans (if_pos h85_3)).trans (if_neg h93_4)), show M3_1 = U_X2_thinsCrowd a (1 : Int32) (U_X2_thinsCrowd a (0 : Int32) (U_X0_hasSlept (a + 4) M)) from (e_M3_1.trans (if_pos h85_3))] at j101_3; exact j101_3
        refine r_ireturn e_X2_applyLaws_101 rfl ⟨rfl, rfl⟩ ?_
        (subst e_M3_1 e_v3_0; refine ⟨?_, rfl, ?_⟩ <;> ((try unfold V_X2_applyLaws); (try unfold U_X2_applyLaws); (try simp only [if_pos h1_0, if_pos h38_1, if_pos h54_2]); (try rfl)))
      · refine r_aload_n e_X2_applyLaws_57 rfl ?_
        refine r_getI e_X2_applyLaws_58 fl_X2_42 i0 k0 ?_
        refine r_aload_n e_X2_applyLaws_61 rfl ?_
        refine r_getR e_X2_applyLaws_62 fl_X2_27 k0 k1 ?_
        refine r_getI e_X2_applyLaws_65 fl_X2_232 i0 k2 ?_
        refine r_isub e_X2_applyLaws_68 ?_
        refine r_bipush e_X2_applyLaws_69 bp_12 ?_
        refine r_icmp_lt e_X2_applyLaws_71 (fun h71_5 => ?_) (fun h71_5 => ?_)
        · refine r_aload_n e_X2_applyLaws_80 rfl ?_
          refine r_iconst e_X2_applyLaws_81 ic_0 ?_
          refine cV1v e_X2_applyLaws_82 cl_X2_258 ⟨Nat.le_of_ble_eq_true rfl, Nat.le_of_ble_eq_true rfl⟩ ⟨rfl, rfl⟩ k0 (Nat.le_of_ble_eq_true rfl) (S_X2_thinsCrowd hb1) ?_
          obtain ⟨v6_0, e_v6_0⟩ : ∃ z : Int32, z = (if (V_X2_thinsCrowd a (0 : Int32) (U_X0_hasSlept (a + 4) M)) = 0 then (if (V_X2_thinsCrowd a (1 : Int32) (U_X2_thinsCrowd a (0 : Int32) (U_X0_hasSlept (a + 4) M))) = 0 then (-1 : Int32) else (3 : Int32)) else (3 : Int32)) := ⟨_, rfl⟩
          obtain ⟨M6_1, e_M6_1⟩ : ∃ z : Mem, z = (if (V_X2_thinsCrowd a (0 : Int32) (U_X0_hasSlept (a + 4) M)) = 0 then (U_X2_thinsCrowd a (1 : Int32) (U_X2_thinsCrowd a (0 : Int32) (U_X0_hasSlept (a + 4) M))) else (U_X2_thinsCrowd a (0 : Int32) (U_X0_hasSlept (a + 4) M))) := ⟨_, rfl⟩
          suffices j101_6 : WP m_X2_applyLaws (fun r sh' M'' => r = some (.int (V_X2_applyLaws a x1 M)) ∧ sh' = sh ∧ M'' = (U_X2_applyLaws a x1 M)) 101 [some (.ref a), some (.int x1)] [.int v6_0] sh M6_1 0 0 by
            refine r_if_ne e_X2_applyLaws_85 (fun h85_6 => ?_) (fun h85_6 => ?_)
            · refine r_iconst e_X2_applyLaws_96 ic_3 ?_
              refine r_goto e_X2_applyLaws_97 ?_
              rw [show v6_0 = (3 : Int32) from (e_v6_0.trans (if_neg h85_6)), show M6_1 = U_X2_thinsCrowd a (0 : Int32) (U_X0_hasSlept (a + 4) M) from (e_M6_1.trans (if_neg h85_6))] at j101_6; exact j101_6
            · refine r_aload_n e_X2_applyLaws_88 rfl ?_
              refine r_iconst e_X2_applyLaws_89 ic_1 ?_
              refine cV1v e_X2_applyLaws_90 cl_X2_258 ⟨Nat.le_of_ble_eq_true rfl, Nat.le_of_ble_eq_true rfl⟩ ⟨rfl, rfl⟩ k0 (Nat.le_of_ble_eq_true rfl) (S_X2_thinsCrowd hb1) ?_
              refine r_if_eq e_X2_applyLaws_93 (fun h93_7 => ?_) (fun h93_7 => ?_)
              · refine r_iconst e_X2_applyLaws_100 ic_m1 ?_
                rw [show v6_0 = (-1 : Int32) from ((e_v6_0.trans (if_pos h85_6)).trans (if_pos h93_7)), show M6_1 = U_X2_thinsCrowd a (1 : Int32) (U_X2_thinsCrowd a (0 : Int32) (U_X0_hasSlept (a + 4) M)) from (e_M6_1.trans (if_pos h85_6))] at j101_6; exact j101_6
              · refine r_iconst e_X2_applyLaws_96 ic_3 ?_
                refine r_goto e_X2_applyLaws_97 ?_
                rw [show v6_0 = (3 : Int32) from ((e_v6_0.trans (if_pos h85_6)).trans (if_neg h93_7)), show M6_1 = U_X2_thinsCrowd a (1 : Int32) (U_X2_thinsCrowd a (0 : Int32) (U_X0_hasSlept (a + 4) M)) from (e_M6_1.trans (if_pos h85_6))] at j101_6; exact j101_6
          refine r_ireturn e_X2_applyLaws_101 rfl ⟨rfl, rfl⟩ ?_
          (subst e_M6_1 e_v6_0; refine ⟨?_, rfl, ?_⟩ <;> ((try unfold V_X2_applyLaws); (try unfold U_X2_applyLaws); (try simp only [if_pos h1_0, if_pos h38_1, if_neg h54_2, if_pos h71_5]); (try rfl)))
        · refine r_aload_n e_X2_applyLaws_74 rfl ?_
          refine cV0u e_X2_applyLaws_75 cl_X2_255 ⟨Nat.le_of_ble_eq_true rfl, Nat.le_of_ble_eq_true rfl⟩ ⟨rfl, rfl⟩ k0 (Nat.le_of_ble_eq_true rfl) (S_X2_giveToFoe hb1 (g1 h1_0 h38_1 h54_2 h71_5)) ?_
          refine r_iconst e_X2_applyLaws_78 ic_2 ?_
          refine r_ireturn e_X2_applyLaws_79 rfl ⟨rfl, rfl⟩ ?_
          (refine ⟨?_, rfl, ?_⟩ <;> ((try unfold V_X2_applyLaws); (try unfold U_X2_applyLaws); (try simp only [if_pos h1_0, if_pos h38_1, if_neg h54_2, if_neg h71_5]); (try rfl)))
    · refine r_aload_n e_X2_applyLaws_41 rfl ?_
      refine cV0u e_X2_applyLaws_42 cl_X2_104 ⟨Nat.le_of_ble_eq_true rfl, Nat.le_of_ble_eq_true rfl⟩ ⟨rfl, rfl⟩ k0 (Nat.le_of_ble_eq_true rfl) (S_X2_putBall hb1) ?_
      refine r_iconst e_X2_applyLaws_45 ic_1 ?_
      refine r_ireturn e_X2_applyLaws_46 rfl ⟨rfl, rfl⟩ ?_
      (refine ⟨?_, rfl, ?_⟩ <;> ((try unfold V_X2_applyLaws); (try unfold U_X2_applyLaws); (try simp only [if_pos h1_0, if_neg h38_1]); (try rfl)))
  · refine r_aload_n e_X2_applyLaws_4 rfl ?_
    refine r_getR e_X2_applyLaws_5 fl_X2_34 k0 k3 ?_
    refine r_iload_n e_X2_applyLaws_8 rfl ?_
    refine r_iconst e_X2_applyLaws_9 ic_2 ?_
    obtain ⟨v8_0, e_v8_0⟩ : ∃ z : Int32, z = (if x1 = (2 : Int32) then (1 : Int32) else (0 : Int32)) := ⟨_, rfl⟩
    have z_v8_0 : v8_0 = 0 ∨ v8_0 = 1 := by rw [e_v8_0]; exact (zi (Or.inr rfl) (Or.inl rfl))
    suffices j18_8 : WP m_X2_applyLaws (fun r sh' M'' => r = some (.int (V_X2_applyLaws a x1 M)) ∧ sh' = sh ∧ M'' = (U_X2_applyLaws a x1 M)) 18 [some (.ref a), some (.int x1)] [.int v8_0, .ref (a + 7)] sh M 0 0 by
      refine r_icmp_ne e_X2_applyLaws_10 (fun h10_8 => ?_) (fun h10_8 => ?_)
      · refine r_iconst e_X2_applyLaws_17 ic_0 ?_
        rw [show v8_0 = (0 : Int32) from (e_v8_0.trans (if_neg h10_8))] at j18_8; exact j18_8
      · refine r_iconst e_X2_applyLaws_13 ic_1 ?_
        refine r_goto e_X2_applyLaws_14 ?_
        rw [show v8_0 = (1 : Int32) from (e_v8_0.trans (if_pos h10_8))] at j18_8; exact j18_8
    refine r_aload_n e_X2_applyLaws_18 rfl ?_
    refine r_getI e_X2_applyLaws_19 fl_X2_42 i0 k0 ?_
    refine cV2u e_X2_applyLaws_22 cl_X2_247 ⟨Nat.le_of_ble_eq_true rfl, Nat.le_of_ble_eq_true rfl⟩ ⟨rfl, rfl⟩ k4 (Nat.le_of_ble_eq_true rfl) (S_X7_addGoal hb1.2.2.2.2.2.2.2.2.2.2.1) ?_
    refine r_aload_n e_X2_applyLaws_25 rfl ?_
    refine cV0u e_X2_applyLaws_26 cl_X2_70 ⟨Nat.le_of_ble_eq_true rfl, Nat.le_of_ble_eq_true rfl⟩ ⟨rfl, rfl⟩ k0 (Nat.le_of_ble_eq_true rfl) (S_X2_kickOff hb1) ?_
    refine r_iconst e_X2_applyLaws_29 ic_0 ?_
    refine r_ireturn e_X2_applyLaws_30 rfl ⟨rfl, rfl⟩ ?_
    (subst e_v8_0; refine ⟨?_, rfl, ?_⟩ <;> ((try unfold V_X2_applyLaws); (try unfold U_X2_applyLaws); (try simp only [if_neg h1_0]); (try rfl)))
