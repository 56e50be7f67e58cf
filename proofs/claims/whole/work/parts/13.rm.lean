def L_X11_beginMatch_2 (x1 : Int32) (x2 : Int32) (mA : Nat) : Nat → Nat → Mem → Option (Mem)
  | 0, i2, M => some M
  | n + 1, i2, M => L_X11_beginMatch_2 x1 x2 mA n (i2 + 1) (setI M mA i2 (0 : Int32))
theorem LW_X11_beginMatch_2 {sh : List SC} {Q : Po} {x1 : Int32} {x2 : Int32} {mA : Nat} {oA : Nat}  (hb1 : ModelAt sh mA oA)  : ∀ (n i2 : Nat) (M : Mem) (Mz : Mem), i2 + n = 212 → L_X11_beginMatch_2 x1 x2 mA n i2 M = some Mz → WP m_X11_beginMatch Q 22 [some (.ref 242), some (.int x1), some (.int x2), none] [] sh Mz 0 0 → WP m_X11_beginMatch Q 2 [some (.ref 242), some (.int x1), some (.int x2), some (.int (nI i2))] [] sh M 0 0 := by
  intro n
  induction n with
  | zero =>
    intro i2 M Mz hi h hE
    rw [L_X11_beginMatch_2] at h
    have hz : (212 : Int32) ≤ nI i2 := by
      have q : i2 = 212 := by omega
      rw [q]; exact nI_le (Nat.le_refl _) (by decide)
    refine r_iload_n e_X11_beginMatch_2 rfl ?_
    refine r_sipush e_X11_beginMatch_3 sp_212 ?_
    refine r_icmp_ge e_X11_beginMatch_6 (fun _ => ?_) (fun hh => absurd hz hh)
    refine d_4_3 ?_
    obtain rfl := Option.some.inj h; exact hE
  | succ n ih =>
    intro i2 M Mz hi h hE
    rw [L_X11_beginMatch_2] at h
    have hlt_i2 : i2 < 212 := by omega
    have hcl_i2 : (nI i2).toNatClampNeg = i2 := nI_clamp (by omega)
    have hs : ¬ (212 : Int32) ≤ nI i2 := nI_ge (b := 212) hlt_i2 (by decide)
    have k0 : kd sh 242 = some (10 + 7, 0) := hb1.1
    have k1 : rf sh 242 27 = some mA := hb1.2.2.2.2.2.2.2.2.2.2.2.2.2.2.2.2.2.1
    have k2 : kd sh mA = some (0, 212) := hb1.2.2.2.2.2.2.2.2.2.2.2.2.2.2.2.2.2.2.2.2.2.2.2.2.2.2.2.2.2.2.2.2.2.2.2.2.2.2.2.2.2.2.2.2.2.2.2.2.2.2.2.1
    refine r_iload_n e_X11_beginMatch_2 rfl ?_
    refine r_sipush e_X11_beginMatch_3 sp_212 ?_
    refine r_icmp_ge e_X11_beginMatch_6 (fun hh => absurd hh hs) (fun _ => ?_)
    refine r_aload_n e_X11_beginMatch_9 rfl ?_
    refine r_getR e_X11_beginMatch_10 fl_X11_212 k0 k1 ?_
    refine r_iload_n e_X11_beginMatch_13 rfl ?_
    refine r_iconst e_X11_beginMatch_14 ic_0 ?_
    refine r_iastore e_X11_beginMatch_15 k2 (vp_in_nI (Nat.lt_of_lt_of_le hlt_i2 (by decide)) (by decide)) ?_
    rw [hcl_i2]
    refine p_iinc_4_3 e_X11_beginMatch_16 rfl ic_1 rfl ?_
    rw [nI_1 i2]
    refine r_goto e_X11_beginMatch_19 ?_
    exact ih _  _ _ (by omega) h hE
def R_X11_beginMatch (x1 : Int32) (x2 : Int32) (mA : Nat) (M : Mem) : Option (Mem) := bnd1 (L_X11_beginMatch_2 x1 x2 mA 212 0 M) (fun M1 => bnd1 (R_X11_kickOff (0 : Int32) mA (setI (setI (setI M1 mA 0 (1 : Int32)) mA 1 x1) mA 2 x2)) (fun M2 => some M2))
theorem S_X11_beginMatch {sh : List SC} {M : Mem} {x1 : Int32} {x2 : Int32} {mA : Nat} {oA : Nat} {M' : Mem} (hb1 : ModelAt sh mA oA)  (h : R_X11_beginMatch x1 x2 mA M = some M') : Gu m_X11_beginMatch [.ref 242, .int x1, .int x2] sh M M' := by
  refine Sp.of (ls := [some (.ref 242), some (.int x1), some (.int x2), none]) (by decide +kernel) (Nat.le_of_ble_eq_true rfl) rfl ?_
  have k0 : kd sh 242 = some (10 + 7, 0) := hb1.1
  have k1 : rf sh 242 27 = some mA := hb1.2.2.2.2.2.2.2.2.2.2.2.2.2.2.2.2.2.1
  have k2 : kd sh mA = some (0, 212) := hb1.2.2.2.2.2.2.2.2.2.2.2.2.2.2.2.2.2.2.2.2.2.2.2.2.2.2.2.2.2.2.2.2.2.2.2.2.2.2.2.2.2.2.2.2.2.2.2.2.2.2.2.1
  unfold R_X11_beginMatch at h
  refine r_iconst e_X11_beginMatch_0 ic_0 ?_
  refine p_istore_n_4_3 e_X11_beginMatch_1 rfl rfl ?_
  show WP m_X11_beginMatch _ 2 [some (.ref 242), some (.int x1), some (.int x2), some (.int (nI 0))] [] sh M 0 0
  obtain ⟨M1, w1, h⟩ := bnd1_el h
  refine LW_X11_beginMatch_2 hb1 212 0 _ _ (by omega) w1 ?_
  refine r_aload_n e_X11_beginMatch_22 rfl ?_
  refine r_getR e_X11_beginMatch_23 fl_X11_212 k0 k1 ?_
  refine r_iconst e_X11_beginMatch_26 ic_0 ?_
  refine r_iconst e_X11_beginMatch_27 ic_1 ?_
  refine r_iastore e_X11_beginMatch_28 k2 (by unfold vp_in; decide) ?_
  rw [show (0 : Int32).toNatClampNeg = 0 from rfl]
  refine r_aload_n e_X11_beginMatch_29 rfl ?_
  refine r_getR e_X11_beginMatch_30 fl_X11_212 k0 k1 ?_
  refine r_iconst e_X11_beginMatch_33 ic_1 ?_
  refine r_iload_n e_X11_beginMatch_34 rfl ?_
  refine r_iastore e_X11_beginMatch_35 k2 (by unfold vp_in; decide) ?_
  rw [show (1 : Int32).toNatClampNeg = 1 from rfl]
  refine r_aload_n e_X11_beginMatch_36 rfl ?_
  refine r_getR e_X11_beginMatch_37 fl_X11_212 k0 k1 ?_
  refine r_iconst e_X11_beginMatch_40 ic_2 ?_
  refine r_iload_n e_X11_beginMatch_41 rfl ?_
  refine r_iastore e_X11_beginMatch_42 k2 (by unfold vp_in; decide) ?_
  rw [show (2 : Int32).toNatClampNeg = 2 from rfl]
  refine r_aload_n e_X11_beginMatch_43 rfl ?_
  refine r_iconst e_X11_beginMatch_44 ic_0 ?_
  obtain ⟨M2, w2, h⟩ := bnd1_el h
  refine cV1u e_X11_beginMatch_45 cl_X11_295 ⟨Nat.le_of_ble_eq_true rfl, Nat.le_of_ble_eq_true rfl⟩ ⟨rfl, rfl⟩ k0 (Nat.le_of_ble_eq_true rfl) (S_X11_kickOff hb1 w2) ?_
  refine r_return e_X11_beginMatch_48 rfl ⟨rfl, rfl⟩ ?_
  obtain rfl := Option.some.inj h; exact ⟨rfl, rfl, rfl⟩
def R_X11_testHolds (mA : Nat) (M : Mem) : Option (Int32 × Mem) := bnd2 (R_X11_sumOf  mA (setI (U_X11_step  M) 242 35 (((U_X11_step  M).1 242 35) + (1 : Int32)))) (fun v1 M1 => bnd1 (R_X11_here  mA M1) (fun v2 => bnd2 (R_X11_sumOf  mA (setI M1 242 35 ((M1.1 242 35) + (1 : Int32)))) (fun v3 M3 => bd1 (if v2 = (60 : Int32) then (if v3 ≤ v1 then (0 : Int32) else (1 : Int32)) else (if v2 = (62 : Int32) then (if v1 ≤ v3 then (0 : Int32) else (1 : Int32)) else (if v1 = v3 then (1 : Int32) else (0 : Int32)))) (fun v5_0 => cz v5_0 (some (v5_0, M3))))))
theorem S_X11_testHolds {sh : List SC} {M : Mem}  {mA : Nat} {oA : Nat} {v' : Int32} {M' : Mem} (hb1 : ModelAt sh mA oA)  (h : R_X11_testHolds mA M = some (v', M')) : Gv m_X11_testHolds [.ref 242] sh M (.int v') M' := by
  refine Sp.of (ls := [some (.ref 242), none, none, none]) (by decide +kernel) (Nat.le_of_ble_eq_true rfl) rfl ?_
  have k0 : kd sh 242 = some (10 + 7, 0) := hb1.1
  unfold R_X11_testHolds at h
  refine r_aload_n e_X11_testHolds_0 rfl ?_
  refine cV0u e_X11_testHolds_1 cl_X11_324 ⟨Nat.le_of_ble_eq_true rfl, Nat.le_of_ble_eq_true rfl⟩ ⟨rfl, rfl⟩ k0 (Nat.le_of_ble_eq_true rfl) (S_X11_step hb1) ?_
  refine r_aload_n e_X11_testHolds_4 rfl ?_
  refine r_dup e_X11_testHolds_5 rfl ?_
  refine r_getI e_X11_testHolds_6 fl_X11_312 i0 k0 ?_
  refine r_iconst e_X11_testHolds_9 ic_1 ?_
  refine r_iadd e_X11_testHolds_10 ?_
  refine r_putI e_X11_testHolds_11 fl_X11_312 k0 ?_
  refine r_aload_n e_X11_testHolds_14 rfl ?_
  obtain ⟨v1, M1, w1, h⟩ := bnd2_el h
  refine cV0v e_X11_testHolds_15 cl_X11_342 ⟨Nat.le_of_ble_eq_true rfl, Nat.le_of_ble_eq_true rfl⟩ ⟨rfl, rfl⟩ k0 (Nat.le_of_ble_eq_true rfl) (S_X11_sumOf hb1 w1) ?_
  refine p_istore_n_4_1 e_X11_testHolds_18 rfl rfl ?_
  refine r_aload_n e_X11_testHolds_19 rfl ?_
  obtain ⟨v2, w2, h⟩ := bnd1_el h
  refine cV0v e_X11_testHolds_20 cl_X11_327 ⟨Nat.le_of_ble_eq_true rfl, Nat.le_of_ble_eq_true rfl⟩ ⟨rfl, rfl⟩ k0 (Nat.le_of_ble_eq_true rfl) (S_X11_here hb1 w2) ?_
  refine p_istore_n_4_2 e_X11_testHolds_23 rfl rfl ?_
  refine r_aload_n e_X11_testHolds_24 rfl ?_
  refine r_dup e_X11_testHolds_25 rfl ?_
  refine r_getI e_X11_testHolds_26 fl_X11_312 i0 k0 ?_
  refine r_iconst e_X11_testHolds_29 ic_1 ?_
  refine r_iadd e_X11_testHolds_30 ?_
  refine r_putI e_X11_testHolds_31 fl_X11_312 k0 ?_
  refine r_aload_n e_X11_testHolds_34 rfl ?_
  obtain ⟨v3, M3, w3, h⟩ := bnd2_el h
  refine cV0v e_X11_testHolds_35 cl_X11_342 ⟨Nat.le_of_ble_eq_true rfl, Nat.le_of_ble_eq_true rfl⟩ ⟨rfl, rfl⟩ k0 (Nat.le_of_ble_eq_true rfl) (S_X11_sumOf hb1 w3) ?_
  refine p_istore_n_4_3 e_X11_testHolds_38 rfl rfl ?_
  refine r_iload_n e_X11_testHolds_39 rfl ?_
  refine r_bipush e_X11_testHolds_40 bp_60 ?_
  obtain ⟨v5_0, q5, h⟩ := bd1_el h
  suffices j5 : WP m_X11_testHolds _ 87 [none, none, none, none] [.int v5_0] sh M3 0 0 by
    refine r_icmp_ne e_X11_testHolds_42 (fun c4 => ?_) (fun c4 => ?_)
    · rw [if_neg c4] at q5
      refine r_iload_n e_X11_testHolds_58 rfl ?_
      refine r_bipush e_X11_testHolds_59 bp_62 ?_
      refine r_icmp_ne e_X11_testHolds_61 (fun c6 => ?_) (fun c6 => ?_)
      · rw [if_neg c6] at q5
        refine r_iload_n e_X11_testHolds_77 rfl ?_
        refine r_iload_n e_X11_testHolds_78 rfl ?_
        refine r_icmp_ne e_X11_testHolds_79 (fun c7 => ?_) (fun c7 => ?_)
        · rw [if_neg c7] at q5
          refine r_iconst e_X11_testHolds_86 ic_0 ?_
          refine d_4_0 ?_
          refine d_4_1 ?_
          refine d_4_2 ?_
          refine d_4_3 ?_
          subst q5; exact j5
        · rw [if_pos c7] at q5
          refine r_iconst e_X11_testHolds_82 ic_1 ?_
          refine r_goto e_X11_testHolds_83 ?_
          refine d_4_0 ?_
          refine d_4_1 ?_
          refine d_4_2 ?_
          refine d_4_3 ?_
          subst q5; exact j5
      · rw [if_pos c6] at q5
        refine r_iload_n e_X11_testHolds_64 rfl ?_
        refine r_iload_n e_X11_testHolds_65 rfl ?_
        refine r_icmp_le e_X11_testHolds_66 (fun c8 => ?_) (fun c8 => ?_)
        · rw [if_pos c8] at q5
          refine r_iconst e_X11_testHolds_73 ic_0 ?_
          refine r_goto e_X11_testHolds_74 ?_
          refine d_4_0 ?_
          refine d_4_1 ?_
          refine d_4_2 ?_
          refine d_4_3 ?_
          subst q5; exact j5
        · rw [if_neg c8] at q5
          refine r_iconst e_X11_testHolds_69 ic_1 ?_
          refine r_goto e_X11_testHolds_70 ?_
          refine d_4_0 ?_
          refine d_4_1 ?_
          refine d_4_2 ?_
          refine d_4_3 ?_
          subst q5; exact j5
    · rw [if_pos c4] at q5
      refine r_iload_n e_X11_testHolds_45 rfl ?_
      refine r_iload_n e_X11_testHolds_46 rfl ?_
      refine r_icmp_ge e_X11_testHolds_47 (fun c9 => ?_) (fun c9 => ?_)
      · rw [if_pos c9] at q5
        refine r_iconst e_X11_testHolds_54 ic_0 ?_
        refine r_goto e_X11_testHolds_55 ?_
        refine d_4_0 ?_
        refine d_4_1 ?_
        refine d_4_2 ?_
        refine d_4_3 ?_
        subst q5; exact j5
      · rw [if_neg c9] at q5
        refine r_iconst e_X11_testHolds_50 ic_1 ?_
        refine r_goto e_X11_testHolds_51 ?_
        refine d_4_0 ?_
        refine d_4_1 ?_
        refine d_4_2 ?_
        refine d_4_3 ?_
        subst q5; exact j5
  obtain ⟨b10, h⟩ := cz_el h
  refine r_zreturn e_X11_testHolds_87 rfl ⟨rfl, rfl⟩ b10 ?_
  obtain ⟨rfl, rfl⟩ := ps2 h; exact ⟨rfl, rfl, rfl⟩
def R_X11_law (x1 : Int32) (mA : Nat) (M : Mem) : Option (Int32 × Mem) := if x1 < 0 then (if (V_X11_sleeps  mA M) < (10 : Int32) then (br1 (if ((U_X11_sleeps  mA M).1 mA 16) < 0 then (some (.inr ())) else (if (((U_X11_sleeps  mA M).1 mA 3) - ((U_X11_sleeps  mA M).1 mA 20)) < (12 : Int32) then (some (.inr ())) else (bnd1 (R_X11_nearestFoe ((U_X11_sleeps  mA M).1 mA 16) mA (U_X11_sleeps  mA M)) (fun v12 => bnd1 (R_X11_hold v12 mA (U_X11_sleeps  mA M)) (fun M13 => some (.inl ((2 : Int32), M13))))))) (fun u10 => bnd1 (R_X11_crowded (0 : Int32) mA (U_X11_sleeps  mA M)) (fun v14 => bnd1 (if v14 < 0 then (bnd1 (R_X11_crowded (1 : Int32) mA (U_X11_sleeps  mA M)) (fun v18 => (some v18))) else (bnd1 (R_X11_crowded (0 : Int32) mA (U_X11_sleeps  mA M)) (fun v19 => (some v19)))) (fun v17_0 => if 0 ≤ v17_0 then (bnd1 (R_X11_putAtStart v17_0 mA (U_X11_sleeps  mA M)) (fun M21 => bnd1 (if (M21.1 mA 16) = v17_0 then (bnd1 (R_X11_of v17_0 (0 : Int32) mA M21) (fun v25 => bnd1 (R_X11_of v17_0 (1 : Int32) mA (setI M21 mA 14 v25)) (fun v26 => (some (setI (setI M21 mA 14 v25) mA 15 v26))))) else (some M21)) (fun M24 => some ((3 : Int32), M24)))) else (some ((-1 : Int32), U_X11_sleeps  mA M)))))) else (bnd1 (R_X11_lay  mA (U_X11_sleeps  mA M)) (fun M27 => some ((1 : Int32), M27)))) else (bnd1 (R_X11_scored x1 mA M) (fun M28 => some ((0 : Int32), M28)))
theorem S_X11_law {sh : List SC} {M : Mem} {x1 : Int32} {mA : Nat} {oA : Nat} {v' : Int32} {M' : Mem} (hb1 : ModelAt sh mA oA)  (h : R_X11_law x1 mA M = some (v', M')) : Gv m_X11_law [.ref 242, .int x1] sh M (.int v') M' := by
  refine Sp.of (ls := [some (.ref 242), some (.int x1), none]) (by decide +kernel) (Nat.le_of_ble_eq_true rfl) rfl ?_
  have k0 : kd sh 242 = some (10 + 7, 0) := hb1.1
  have k1 : rf sh 242 27 = some mA := hb1.2.2.2.2.2.2.2.2.2.2.2.2.2.2.2.2.2.1
  have k2 : kd sh mA = some (0, 212) := hb1.2.2.2.2.2.2.2.2.2.2.2.2.2.2.2.2.2.2.2.2.2.2.2.2.2.2.2.2.2.2.2.2.2.2.2.2.2.2.2.2.2.2.2.2.2.2.2.2.2.2.2.1
  unfold R_X11_law at h
  refine r_iload_n e_X11_law_0 rfl ?_
  refine r_if_lt e_X11_law_1 (fun c1 => ?_) (fun c1 => ?_)
  · rw [if_pos c1] at h
    refine r_aload_n e_X11_law_11 rfl ?_
    refine cV0v e_X11_law_12 cl_X11_373 ⟨Nat.le_of_ble_eq_true rfl, Nat.le_of_ble_eq_true rfl⟩ ⟨rfl, rfl⟩ k0 (Nat.le_of_ble_eq_true rfl) (S_X11_sleeps hb1) ?_
    refine r_bipush e_X11_law_15 bp_10 ?_
    refine r_icmp_lt e_X11_law_17 (fun c2 => ?_) (fun c2 => ?_)
    · rw [if_pos c2] at h
      refine r_aload_n e_X11_law_26 rfl ?_
      refine r_getR e_X11_law_27 fl_X11_212 k0 k1 ?_
      refine r_bipush e_X11_law_30 bp_16 ?_
      refine r_ialoade (v := ((U_X11_sleeps  mA M).1 mA 16)) e_X11_law_32 k2 (by unfold vp_in; decide) (show (U_X11_sleeps  mA M).1 mA (16 : Int32).toNatClampNeg = (U_X11_sleeps  mA M).1 mA 16 by rw [show (16 : Int32).toNatClampNeg = 16 from rfl]) ?_
      obtain ⟨K10, hK10, hL10, h⟩ := br1_in h
      suffices j10 : ∀ u10, K10 (.inr u10) = some (v', M') → WP m_X11_law _ 72 [some (.ref 242), none, none] [] sh (U_X11_sleeps  mA M) 0 0 by
        refine r_if_lt e_X11_law_33 (fun c3 => ?_) (fun c3 => ?_)
        · rw [if_pos c3] at h
          refine d_3_1 ?_
          exact j10 _ h
        · rw [if_neg c3] at h
          refine r_aload_n e_X11_law_36 rfl ?_
          refine r_getR e_X11_law_37 fl_X11_212 k0 k1 ?_
          refine r_iconst e_X11_law_40 ic_3 ?_
          refine r_ialoade (v := ((U_X11_sleeps  mA M).1 mA 3)) e_X11_law_41 k2 (by unfold vp_in; decide) (show (U_X11_sleeps  mA M).1 mA (3 : Int32).toNatClampNeg = (U_X11_sleeps  mA M).1 mA 3 by rw [show (3 : Int32).toNatClampNeg = 3 from rfl]) ?_
          refine r_aload_n e_X11_law_42 rfl ?_
          refine r_getR e_X11_law_43 fl_X11_212 k0 k1 ?_
          refine r_bipush e_X11_law_46 bp_20 ?_
          refine r_ialoade (v := ((U_X11_sleeps  mA M).1 mA 20)) e_X11_law_48 k2 (by unfold vp_in; decide) (show (U_X11_sleeps  mA M).1 mA (20 : Int32).toNatClampNeg = (U_X11_sleeps  mA M).1 mA 20 by rw [show (20 : Int32).toNatClampNeg = 20 from rfl]) ?_
          refine r_isub e_X11_law_49 ?_
          refine r_bipush e_X11_law_50 bp_12 ?_
          refine r_icmp_lt e_X11_law_52 (fun c11 => ?_) (fun c11 => ?_)
          · rw [if_pos c11] at h
            refine d_3_1 ?_
            exact j10 _ h
          · rw [if_neg c11] at h
            refine r_aload_n e_X11_law_55 rfl ?_
            refine r_aload_n e_X11_law_56 rfl ?_
            refine r_aload_n e_X11_law_57 rfl ?_
            refine r_getR e_X11_law_58 fl_X11_212 k0 k1 ?_
            refine r_bipush e_X11_law_61 bp_16 ?_
            refine r_ialoade (v := ((U_X11_sleeps  mA M).1 mA 16)) e_X11_law_63 k2 (by unfold vp_in; decide) (show (U_X11_sleeps  mA M).1 mA (16 : Int32).toNatClampNeg = (U_X11_sleeps  mA M).1 mA 16 by rw [show (16 : Int32).toNatClampNeg = 16 from rfl]) ?_
            obtain ⟨v12, w12, h⟩ := bnd1_elK h
            refine cV1v e_X11_law_64 cl_X11_376 ⟨Nat.le_of_ble_eq_true rfl, Nat.le_of_ble_eq_true rfl⟩ ⟨rfl, rfl⟩ k0 (Nat.le_of_ble_eq_true rfl) (S_X11_nearestFoe hb1 w12) ?_
            obtain ⟨M13, w13, h⟩ := bnd1_elK h
            refine cV1u e_X11_law_67 cl_X11_367 ⟨Nat.le_of_ble_eq_true rfl, Nat.le_of_ble_eq_true rfl⟩ ⟨rfl, rfl⟩ k0 (Nat.le_of_ble_eq_true rfl) (S_X11_hold hb1 w13) ?_
            refine r_iconst e_X11_law_70 ic_2 ?_
            refine r_ireturn e_X11_law_71 rfl ⟨rfl, rfl⟩ ?_
            have h := (hL10 _).symm.trans h
            obtain ⟨rfl, rfl⟩ := ps2 h; exact ⟨rfl, rfl, rfl⟩
      intro u10 h
      rw [hK10] at h
      refine r_aload_n e_X11_law_72 rfl ?_
      refine r_iconst e_X11_law_73 ic_0 ?_
      obtain ⟨v14, w14, h⟩ := bnd1_el h
      refine cV1v e_X11_law_74 cl_X11_379 ⟨Nat.le_of_ble_eq_true rfl, Nat.le_of_ble_eq_true rfl⟩ ⟨rfl, rfl⟩ k0 (Nat.le_of_ble_eq_true rfl) (S_X11_crowded hb1 w14) ?_
      obtain ⟨K17, hK17, h⟩ := bnd1_in h
      suffices j17 : ∀ v17_0, K17 v17_0 = some (v', M') → WP m_X11_law _ 93 [some (.ref 242), none, none] [.int v17_0] sh (U_X11_sleeps  mA M) 0 0 by
        refine r_if_lt e_X11_law_77 (fun c15 => ?_) (fun c15 => ?_)
        · rw [if_pos c15] at h
          refine r_aload_n e_X11_law_88 rfl ?_
          refine r_iconst e_X11_law_89 ic_1 ?_
          obtain ⟨v18, w18, h⟩ := bnd1_elK h
          refine cV1v e_X11_law_90 cl_X11_379 ⟨Nat.le_of_ble_eq_true rfl, Nat.le_of_ble_eq_true rfl⟩ ⟨rfl, rfl⟩ k0 (Nat.le_of_ble_eq_true rfl) (S_X11_crowded hb1 w18) ?_
          exact j17 _ h
        · rw [if_neg c15] at h
          refine r_aload_n e_X11_law_80 rfl ?_
          refine r_iconst e_X11_law_81 ic_0 ?_
          obtain ⟨v19, w19, h⟩ := bnd1_elK h
          refine cV1v e_X11_law_82 cl_X11_379 ⟨Nat.le_of_ble_eq_true rfl, Nat.le_of_ble_eq_true rfl⟩ ⟨rfl, rfl⟩ k0 (Nat.le_of_ble_eq_true rfl) (S_X11_crowded hb1 w19) ?_
          refine r_goto e_X11_law_85 ?_
          exact j17 _ h
      intro v17_0 h
      rw [hK17] at h
      refine p_istore_n_3_2 e_X11_law_93 rfl rfl ?_
      refine r_iload_n e_X11_law_94 rfl ?_
      refine r_if_ge e_X11_law_95 (fun c20 => ?_) (fun c20 => ?_)
      · rw [if_pos c20] at h
        refine r_aload_n e_X11_law_100 rfl ?_
        refine r_iload_n e_X11_law_101 rfl ?_
        obtain ⟨M21, w21, h⟩ := bnd1_el h
        refine cV1u e_X11_law_102 cl_X11_288 ⟨Nat.le_of_ble_eq_true rfl, Nat.le_of_ble_eq_true rfl⟩ ⟨rfl, rfl⟩ k0 (Nat.le_of_ble_eq_true rfl) (S_X11_putAtStart hb1 w21) ?_
        refine r_aload_n e_X11_law_105 rfl ?_
        refine r_getR e_X11_law_106 fl_X11_212 k0 k1 ?_
        refine r_bipush e_X11_law_109 bp_16 ?_
        refine r_ialoade (v := (M21.1 mA 16)) e_X11_law_111 k2 (by unfold vp_in; decide) (show M21.1 mA (16 : Int32).toNatClampNeg = M21.1 mA 16 by rw [show (16 : Int32).toNatClampNeg = 16 from rfl]) ?_
        refine r_iload_n e_X11_law_112 rfl ?_
        obtain ⟨K24, hK24, h⟩ := bnd1_in h
        suffices j24 : ∀ M24, K24 M24 = some (v', M') → WP m_X11_law _ 142 [none, none, none] [] sh M24 0 0 by
          refine r_icmp_ne e_X11_law_113 (fun c22 => ?_) (fun c22 => ?_)
          · rw [if_neg c22] at h
            refine d_3_0 ?_
            refine d_3_2 ?_
            exact j24 _ h
          · rw [if_pos c22] at h
            refine r_aload_n e_X11_law_116 rfl ?_
            refine r_getR e_X11_law_117 fl_X11_212 k0 k1 ?_
            refine r_bipush e_X11_law_120 bp_14 ?_
            refine r_aload_n e_X11_law_122 rfl ?_
            refine r_iload_n e_X11_law_123 rfl ?_
            refine r_iconst e_X11_law_124 ic_0 ?_
            obtain ⟨v25, w25, h⟩ := bnd1_elK h
            refine cV2v e_X11_law_125 cl_X11_252 ⟨Nat.le_of_ble_eq_true rfl, Nat.le_of_ble_eq_true rfl⟩ ⟨rfl, rfl⟩ k0 (Nat.le_of_ble_eq_true rfl) (S_X11_of hb1 w25) ?_
            refine r_iastore e_X11_law_128 k2 (by unfold vp_in; decide) ?_
            rw [show (14 : Int32).toNatClampNeg = 14 from rfl]
            refine r_aload_n e_X11_law_129 rfl ?_
            refine r_getR e_X11_law_130 fl_X11_212 k0 k1 ?_
            refine r_bipush e_X11_law_133 bp_15 ?_
            refine r_aload_n e_X11_law_135 rfl ?_
            refine r_iload_n e_X11_law_136 rfl ?_
            refine r_iconst e_X11_law_137 ic_1 ?_
            obtain ⟨v26, w26, h⟩ := bnd1_elK h
            refine cV2v e_X11_law_138 cl_X11_252 ⟨Nat.le_of_ble_eq_true rfl, Nat.le_of_ble_eq_true rfl⟩ ⟨rfl, rfl⟩ k0 (Nat.le_of_ble_eq_true rfl) (S_X11_of hb1 w26) ?_
            refine r_iastore e_X11_law_141 k2 (by unfold vp_in; decide) ?_
            rw [show (15 : Int32).toNatClampNeg = 15 from rfl]
            refine d_3_0 ?_
            refine d_3_2 ?_
            exact j24 _ h
        intro M24 h
        rw [hK24] at h
        refine r_iconst e_X11_law_142 ic_3 ?_
        refine r_ireturn e_X11_law_143 rfl ⟨rfl, rfl⟩ ?_
        obtain ⟨rfl, rfl⟩ := ps2 h; exact ⟨rfl, rfl, rfl⟩
      · rw [if_neg c20] at h
        refine r_iconst e_X11_law_98 ic_m1 ?_
        refine r_ireturn e_X11_law_99 rfl ⟨rfl, rfl⟩ ?_
        obtain ⟨rfl, rfl⟩ := ps2 h; exact ⟨rfl, rfl, rfl⟩
    · rw [if_neg c2] at h
      refine r_aload_n e_X11_law_20 rfl ?_
      obtain ⟨M27, w27, h⟩ := bnd1_el h
      refine cV0u e_X11_law_21 cl_X11_292 ⟨Nat.le_of_ble_eq_true rfl, Nat.le_of_ble_eq_true rfl⟩ ⟨rfl, rfl⟩ k0 (Nat.le_of_ble_eq_true rfl) (S_X11_lay hb1 w27) ?_
      refine r_iconst e_X11_law_24 ic_1 ?_
      refine r_ireturn e_X11_law_25 rfl ⟨rfl, rfl⟩ ?_
      obtain ⟨rfl, rfl⟩ := ps2 h; exact ⟨rfl, rfl, rfl⟩
  · rw [if_neg c1] at h
    refine r_aload_n e_X11_law_4 rfl ?_
    refine r_iload_n e_X11_law_5 rfl ?_
    obtain ⟨M28, w28, h⟩ := bnd1_el h
    refine cV1u e_X11_law_6 cl_X11_370 ⟨Nat.le_of_ble_eq_true rfl, Nat.le_of_ble_eq_true rfl⟩ ⟨rfl, rfl⟩ k0 (Nat.le_of_ble_eq_true rfl) (S_X11_scored hb1 w28) ?_
    refine r_iconst e_X11_law_9 ic_0 ?_
    refine r_ireturn e_X11_law_10 rfl ⟨rfl, rfl⟩ ?_
    obtain ⟨rfl, rfl⟩ := ps2 h; exact ⟨rfl, rfl, rfl⟩
def R_X10_tick (x1 : Int32) (M : Mem) : Option (Int32 × Mem) := if (M.1 122 6) = 0 then (some ((V_X10_finding (-1003 : Int32) M), U_X10_finding (-1003 : Int32) M)) else (if x1 < (1 : Int32) then (some ((V_X10_finding (-1001 : Int32) M), U_X10_finding (-1001 : Int32) M)) else (if x1 ≤ (50 : Int32) then (bnd2 (R_X2_play 122 x1 M) (fun v4 M4 => some (v4, M4))) else (some ((V_X10_finding (-1001 : Int32) M), U_X10_finding (-1001 : Int32) M))))
theorem S_X10_tick {sh : List SC} {M : Mem} {x1 : Int32}  {v' : Int32} {M' : Mem} (hb1 : PitchAt sh)  (h : R_X10_tick x1 M = some (v', M')) : Gv m_X10_tick [.ref 0, .int x1] sh M (.int v') M' := by
  refine Sp.of (ls := [some (.ref 0), some (.int x1)]) (by decide +kernel) (Nat.le_of_ble_eq_true rfl) rfl ?_
  have k0 : kd sh 0 = some (9 + 7, 0) := hb1.1
  have k1 : rf sh 0 4 = some 122 := hb1.2.2.2.2.2.1
  have k2 : kd sh 122 = some (2 + 7, 0) := hb1.2.2.2.2.2.2.2.2.2.2.2.2.2.2.2.2.1.1
  unfold R_X10_tick at h
  refine r_aload_n e_X10_tick_0 rfl ?_
  refine r_getR e_X10_tick_1 fl_X10_63 k0 k1 ?_
  refine r_getI e_X10_tick_4 fl_X10_115 i3 k2 ?_
  refine r_if_ne e_X10_tick_7 (fun c1 => ?_) (fun c1 => ?_)
  · rw [if_neg c1] at h
    refine r_iload_n e_X10_tick_18 rfl ?_
    refine r_iconst e_X10_tick_19 ic_1 ?_
    refine r_icmp_lt e_X10_tick_20 (fun c2 => ?_) (fun c2 => ?_)
    · rw [if_pos c2] at h
      refine r_aload_n e_X10_tick_29 rfl ?_
      refine r_sipush e_X10_tick_30 sp_m1001 ?_
      refine cV1v e_X10_tick_33 cl_X10_70 ⟨Nat.le_of_ble_eq_true rfl, Nat.le_of_ble_eq_true rfl⟩ ⟨rfl, rfl⟩ k0 (Nat.le_of_ble_eq_true rfl) (S_X10_finding hb1) ?_
      refine r_ireturn e_X10_tick_36 rfl ⟨rfl, rfl⟩ ?_
      obtain ⟨rfl, rfl⟩ := ps2 h; exact ⟨rfl, rfl, rfl⟩
    · rw [if_neg c2] at h
      refine r_iload_n e_X10_tick_23 rfl ?_
      refine r_bipush e_X10_tick_24 bp_50 ?_
      refine r_icmp_le e_X10_tick_26 (fun c3 => ?_) (fun c3 => ?_)
      · rw [if_pos c3] at h
        refine r_aload_n e_X10_tick_37 rfl ?_
        refine r_getR e_X10_tick_38 fl_X10_63 k0 k1 ?_
        refine r_iload_n e_X10_tick_41 rfl ?_
        obtain ⟨v4, M4, w4, h⟩ := bnd2_el h
        refine cV1v e_X10_tick_42 cl_X10_119 ⟨Nat.le_of_ble_eq_true rfl, Nat.le_of_ble_eq_true rfl⟩ ⟨rfl, rfl⟩ k2 (Nat.le_of_ble_eq_true rfl) (S_X2_play hb1.2.2.2.2.2.2.2.2.2.2.2.2.2.2.2.2.1 w4) ?_
        refine r_ireturn e_X10_tick_45 rfl ⟨rfl, rfl⟩ ?_
        obtain ⟨rfl, rfl⟩ := ps2 h; exact ⟨rfl, rfl, rfl⟩
      · rw [if_neg c3] at h
        refine r_aload_n e_X10_tick_29 rfl ?_
        refine r_sipush e_X10_tick_30 sp_m1001 ?_
        refine cV1v e_X10_tick_33 cl_X10_70 ⟨Nat.le_of_ble_eq_true rfl, Nat.le_of_ble_eq_true rfl⟩ ⟨rfl, rfl⟩ k0 (Nat.le_of_ble_eq_true rfl) (S_X10_finding hb1) ?_
        refine r_ireturn e_X10_tick_36 rfl ⟨rfl, rfl⟩ ?_
        obtain ⟨rfl, rfl⟩ := ps2 h; exact ⟨rfl, rfl, rfl⟩
  · rw [if_pos c1] at h
    refine r_aload_n e_X10_tick_10 rfl ?_
    refine r_sipush e_X10_tick_11 sp_m1003 ?_
    refine cV1v e_X10_tick_14 cl_X10_70 ⟨Nat.le_of_ble_eq_true rfl, Nat.le_of_ble_eq_true rfl⟩ ⟨rfl, rfl⟩ k0 (Nat.le_of_ble_eq_true rfl) (S_X10_finding hb1) ?_
    refine r_ireturn e_X10_tick_17 rfl ⟨rfl, rfl⟩ ?_
    obtain ⟨rfl, rfl⟩ := ps2 h; exact ⟨rfl, rfl, rfl⟩
def R_X11_test (mA : Nat) (M : Mem) : Option (Int32 × Mem) := bnd2 (R_X11_sum  mA M) (fun v1 M1 => if v1 = 0 then (some ((0 : Int32), M1)) else (if (M1.1 242 5) = (60 : Int32) then (bnd2 (R_X11_keepWord  mA M1) (fun v4 M4 => bnd2 (R_X11_sum  mA M4) (fun v5 M5 => cz v5 (some (v5, M5))))) else (if (M1.1 242 5) = (61 : Int32) then (bnd2 (R_X11_keepWord  mA M1) (fun v8 M8 => bnd2 (R_X11_sum  mA M8) (fun v9 M9 => cz v9 (some (v9, M9))))) else (if (M1.1 242 5) = (62 : Int32) then (bnd2 (R_X11_keepWord  mA M1) (fun v12 M12 => bnd2 (R_X11_sum  mA M12) (fun v13 M13 => cz v13 (some (v13, M13))))) else (cz (V_X11_wrong  M1) (some ((V_X11_wrong  M1), U_X11_wrong  M1)))))))
theorem S_X11_test {sh : List SC} {M : Mem}  {mA : Nat} {oA : Nat} {v' : Int32} {M' : Mem} (hb1 : ModelAt sh mA oA)  (h : R_X11_test mA M = some (v', M')) : Gv m_X11_test [.ref 242] sh M (.int v') M' := by
  refine Sp.of (ls := [some (.ref 242)]) (by decide +kernel) (Nat.le_of_ble_eq_true rfl) rfl ?_
  have k0 : kd sh 242 = some (10 + 7, 0) := hb1.1
  unfold R_X11_test at h
  refine r_aload_n e_X11_test_0 rfl ?_
  obtain ⟨v1, M1, w1, h⟩ := bnd2_el h
  refine cV0v e_X11_test_1 cl_X11_150 ⟨Nat.le_of_ble_eq_true rfl, Nat.le_of_ble_eq_true rfl⟩ ⟨rfl, rfl⟩ k0 (Nat.le_of_ble_eq_true rfl) (S_X11_sum hb1 w1) ?_
  refine r_if_ne e_X11_test_4 (fun c2 => ?_) (fun c2 => ?_)
  · rw [if_neg c2] at h
    refine r_aload_n e_X11_test_9 rfl ?_
    refine r_getI e_X11_test_10 fl_X11_28 i0 k0 ?_
    refine r_bipush e_X11_test_13 bp_60 ?_
    refine r_icmp_eq e_X11_test_15 (fun c3 => ?_) (fun c3 => ?_)
    · rw [if_pos c3] at h
      refine r_aload_n e_X11_test_41 rfl ?_
      obtain ⟨v4, M4, w4, h⟩ := bnd2_el h
      refine cV0v e_X11_test_42 cl_X11_117 ⟨Nat.le_of_ble_eq_true rfl, Nat.le_of_ble_eq_true rfl⟩ ⟨rfl, rfl⟩ k0 (Nat.le_of_ble_eq_true rfl) (S_X11_keepWord hb1 w4) ?_
      refine r_pop e_X11_test_45 rfl ?_
      refine r_aload_n e_X11_test_46 rfl ?_
      obtain ⟨v5, M5, w5, h⟩ := bnd2_el h
      refine cV0v e_X11_test_47 cl_X11_150 ⟨Nat.le_of_ble_eq_true rfl, Nat.le_of_ble_eq_true rfl⟩ ⟨rfl, rfl⟩ k0 (Nat.le_of_ble_eq_true rfl) (S_X11_sum hb1 w5) ?_
      obtain ⟨b6, h⟩ := cz_el h
      refine r_zreturn e_X11_test_50 rfl ⟨rfl, rfl⟩ b6 ?_
      obtain ⟨rfl, rfl⟩ := ps2 h; exact ⟨rfl, rfl, rfl⟩
    · rw [if_neg c3] at h
      refine r_aload_n e_X11_test_18 rfl ?_
      refine r_getI e_X11_test_19 fl_X11_28 i0 k0 ?_
      refine r_bipush e_X11_test_22 bp_61 ?_
      refine r_icmp_eq e_X11_test_24 (fun c7 => ?_) (fun c7 => ?_)
      · rw [if_pos c7] at h
        refine r_aload_n e_X11_test_41 rfl ?_
        obtain ⟨v8, M8, w8, h⟩ := bnd2_el h
        refine cV0v e_X11_test_42 cl_X11_117 ⟨Nat.le_of_ble_eq_true rfl, Nat.le_of_ble_eq_true rfl⟩ ⟨rfl, rfl⟩ k0 (Nat.le_of_ble_eq_true rfl) (S_X11_keepWord hb1 w8) ?_
        refine r_pop e_X11_test_45 rfl ?_
        refine r_aload_n e_X11_test_46 rfl ?_
        obtain ⟨v9, M9, w9, h⟩ := bnd2_el h
        refine cV0v e_X11_test_47 cl_X11_150 ⟨Nat.le_of_ble_eq_true rfl, Nat.le_of_ble_eq_true rfl⟩ ⟨rfl, rfl⟩ k0 (Nat.le_of_ble_eq_true rfl) (S_X11_sum hb1 w9) ?_
        obtain ⟨b10, h⟩ := cz_el h
        refine r_zreturn e_X11_test_50 rfl ⟨rfl, rfl⟩ b10 ?_
        obtain ⟨rfl, rfl⟩ := ps2 h; exact ⟨rfl, rfl, rfl⟩
      · rw [if_neg c7] at h
        refine r_aload_n e_X11_test_27 rfl ?_
        refine r_getI e_X11_test_28 fl_X11_28 i0 k0 ?_
        refine r_bipush e_X11_test_31 bp_62 ?_
        refine r_icmp_eq e_X11_test_33 (fun c11 => ?_) (fun c11 => ?_)
        · rw [if_pos c11] at h
          refine r_aload_n e_X11_test_41 rfl ?_
          obtain ⟨v12, M12, w12, h⟩ := bnd2_el h
          refine cV0v e_X11_test_42 cl_X11_117 ⟨Nat.le_of_ble_eq_true rfl, Nat.le_of_ble_eq_true rfl⟩ ⟨rfl, rfl⟩ k0 (Nat.le_of_ble_eq_true rfl) (S_X11_keepWord hb1 w12) ?_
          refine r_pop e_X11_test_45 rfl ?_
          refine r_aload_n e_X11_test_46 rfl ?_
          obtain ⟨v13, M13, w13, h⟩ := bnd2_el h
          refine cV0v e_X11_test_47 cl_X11_150 ⟨Nat.le_of_ble_eq_true rfl, Nat.le_of_ble_eq_true rfl⟩ ⟨rfl, rfl⟩ k0 (Nat.le_of_ble_eq_true rfl) (S_X11_sum hb1 w13) ?_
          obtain ⟨b14, h⟩ := cz_el h
          refine r_zreturn e_X11_test_50 rfl ⟨rfl, rfl⟩ b14 ?_
          obtain ⟨rfl, rfl⟩ := ps2 h; exact ⟨rfl, rfl, rfl⟩
        · rw [if_neg c11] at h
          refine r_aload_n e_X11_test_36 rfl ?_
          refine cV0v e_X11_test_37 cl_X11_121 ⟨Nat.le_of_ble_eq_true rfl, Nat.le_of_ble_eq_true rfl⟩ ⟨rfl, rfl⟩ k0 (Nat.le_of_ble_eq_true rfl) (S_X11_wrong hb1) ?_
          obtain ⟨b15, h⟩ := cz_el h
          refine r_zreturn e_X11_test_40 rfl ⟨rfl, rfl⟩ b15 ?_
          obtain ⟨rfl, rfl⟩ := ps2 h; exact ⟨rfl, rfl, rfl⟩
  · rw [if_pos c2] at h
    refine r_iconst e_X11_test_7 ic_0 ?_
    refine r_zreturn e_X11_test_8 rfl ⟨rfl, rfl⟩ (by first | exact Or.inl rfl | exact Or.inr rfl) ?_
    obtain ⟨rfl, rfl⟩ := ps2 h; exact ⟨rfl, rfl, rfl⟩
def R_X11_begin (x1 : Int32) (x2 : Int32) (mA : Nat) (M : Mem) : Option (Int32 × Mem) := if (V_X11_isTeam x1 M) = 0 then (bnd2 (R_X11_finding (-1001 : Int32) mA M) (fun v2 M2 => some (v2, M2))) else (if (V_X11_isTeam x2 M) = 0 then (bnd2 (R_X11_finding (-1001 : Int32) mA M) (fun v5 M5 => some (v5, M5))) else (bnd1 (R_X11_beginMatch x1 x2 mA M) (fun M4 => some ((1 : Int32), M4))))
theorem S_X11_begin {sh : List SC} {M : Mem} {x1 : Int32} {x2 : Int32} {mA : Nat} {oA : Nat} {v' : Int32} {M' : Mem} (hb1 : ModelAt sh mA oA)  (h : R_X11_begin x1 x2 mA M = some (v', M')) : Gv m_X11_begin [.ref 242, .int x1, .int x2] sh M (.int v') M' := by
  refine Sp.of (ls := [some (.ref 242), some (.int x1), some (.int x2)]) (by decide +kernel) (Nat.le_of_ble_eq_true rfl) rfl ?_
  have k0 : kd sh 242 = some (10 + 7, 0) := hb1.1
  unfold R_X11_begin at h
  refine r_iload_n e_X11_begin_0 rfl ?_
  refine cS1v e_X11_begin_1 cl_X11_249 ⟨Nat.le_of_ble_eq_true rfl, Nat.le_of_ble_eq_true rfl⟩ ⟨rfl, rfl⟩  (Nat.le_of_ble_eq_true rfl) (S_X11_isTeam ) ?_
  refine r_if_eq e_X11_begin_4 (fun c1 => ?_) (fun c1 => ?_)
  · rw [if_pos c1] at h
    refine r_aload_n e_X11_begin_14 rfl ?_
    refine r_sipush e_X11_begin_15 sp_m1001 ?_
    obtain ⟨v2, M2, w2, h⟩ := bnd2_el h
    refine cV1v e_X11_begin_18 cl_X11_178 ⟨Nat.le_of_ble_eq_true rfl, Nat.le_of_ble_eq_true rfl⟩ ⟨rfl, rfl⟩ k0 (Nat.le_of_ble_eq_true rfl) (S_X11_finding hb1 w2) ?_
    refine r_ireturn e_X11_begin_21 rfl ⟨rfl, rfl⟩ ?_
    obtain ⟨rfl, rfl⟩ := ps2 h; exact ⟨rfl, rfl, rfl⟩
  · rw [if_neg c1] at h
    refine r_iload_n e_X11_begin_7 rfl ?_
    refine cS1v e_X11_begin_8 cl_X11_249 ⟨Nat.le_of_ble_eq_true rfl, Nat.le_of_ble_eq_true rfl⟩ ⟨rfl, rfl⟩  (Nat.le_of_ble_eq_true rfl) (S_X11_isTeam ) ?_
    refine r_if_ne e_X11_begin_11 (fun c3 => ?_) (fun c3 => ?_)
    · rw [if_neg c3] at h
      refine r_aload_n e_X11_begin_22 rfl ?_
      refine r_iload_n e_X11_begin_23 rfl ?_
      refine r_iload_n e_X11_begin_24 rfl ?_
      obtain ⟨M4, w4, h⟩ := bnd1_el h
      refine cV2u e_X11_begin_25 cl_X11_298 ⟨Nat.le_of_ble_eq_true rfl, Nat.le_of_ble_eq_true rfl⟩ ⟨rfl, rfl⟩ k0 (Nat.le_of_ble_eq_true rfl) (S_X11_beginMatch hb1 w4) ?_
      refine r_iconst e_X11_begin_28 ic_1 ?_
      refine r_ireturn e_X11_begin_29 rfl ⟨rfl, rfl⟩ ?_
      obtain ⟨rfl, rfl⟩ := ps2 h; exact ⟨rfl, rfl, rfl⟩
    · rw [if_pos c3] at h
      refine r_aload_n e_X11_begin_14 rfl ?_
      refine r_sipush e_X11_begin_15 sp_m1001 ?_
      obtain ⟨v5, M5, w5, h⟩ := bnd2_el h
      refine cV1v e_X11_begin_18 cl_X11_178 ⟨Nat.le_of_ble_eq_true rfl, Nat.le_of_ble_eq_true rfl⟩ ⟨rfl, rfl⟩ k0 (Nat.le_of_ble_eq_true rfl) (S_X11_finding hb1 w5) ?_
      refine r_ireturn e_X11_begin_21 rfl ⟨rfl, rfl⟩ ?_
      obtain ⟨rfl, rfl⟩ := ps2 h; exact ⟨rfl, rfl, rfl⟩
def L_X11_runRules_27 (mA : Nat) (w1 : Int32) : Nat → Int32 → Mem → Option (Int32 × Mem)
  | 0, _, _ => none
  | n + 1, u2, M => if u2 = 0 then (some (u2, M)) else (if (M.1 242 37) = 0 then (bnd1 (R_X11_here  mA M) (fun v33 => if v33 = (12 : Int32) then (bnd2 (R_X11_testHolds  mA M) (fun v35 M35 => L_X11_runRules_27 mA w1 n v35 M35)) else (some (u2, M)))) else (some (u2, M)))
theorem LW_X11_runRules_27 {sh : List SC} {Q : Po}  {mA : Nat} {oA : Nat} {w1 : Int32} (hb1 : ModelAt sh mA oA)  : ∀ (n : Nat) (u2 : Int32) (M : Mem) (z2 : Int32) (Mz : Mem), L_X11_runRules_27 mA w1 n u2 M = some (z2, Mz) → WP m_X11_runRules Q 55 [some (.ref 242), some (.int w1), some (.int z2)] [] sh Mz 0 0 → WP m_X11_runRules Q 27 [some (.ref 242), some (.int w1), some (.int u2)] [] sh M 0 0 := by
  intro n
  induction n with
  | zero =>
    intro u2 M z2 Mz h hE
    rw [L_X11_runRules_27] at h
    cases h
  | succ n ih =>
    intro u2 M z2 Mz h hE
    rw [L_X11_runRules_27] at h
    have k0 : kd sh 242 = some (10 + 7, 0) := hb1.1
    refine r_iload_n e_X11_runRules_27 rfl ?_
    refine r_if_eq e_X11_runRules_28 (fun c31 => ?_) (fun c31 => ?_)
    · rw [if_pos c31] at h
      obtain ⟨rfl, rfl⟩ := ps2 h; exact hE
    · rw [if_neg c31] at h
      refine r_aload_n e_X11_runRules_31 rfl ?_
      refine r_getI e_X11_runRules_32 fl_X11_305 i3 k0 ?_
      refine r_if_ne e_X11_runRules_35 (fun c32 => ?_) (fun c32 => ?_)
      · rw [if_neg c32] at h
        obtain ⟨rfl, rfl⟩ := ps2 h; exact hE
      · rw [if_pos c32] at h
        refine r_aload_n e_X11_runRules_38 rfl ?_
        obtain ⟨v33, w33, h⟩ := bnd1_el h
        refine cV0v e_X11_runRules_39 cl_X11_327 ⟨Nat.le_of_ble_eq_true rfl, Nat.le_of_ble_eq_true rfl⟩ ⟨rfl, rfl⟩ k0 (Nat.le_of_ble_eq_true rfl) (S_X11_here hb1 w33) ?_
        refine r_bipush e_X11_runRules_42 bp_12 ?_
        refine r_icmp_ne e_X11_runRules_44 (fun c34 => ?_) (fun c34 => ?_)
        · rw [if_neg c34] at h
          obtain ⟨rfl, rfl⟩ := ps2 h; exact hE
        · rw [if_pos c34] at h
          refine r_aload_n e_X11_runRules_47 rfl ?_
          obtain ⟨v35, M35, w35, h⟩ := bnd2_el h
          refine cV0v e_X11_runRules_48 cl_X11_355 ⟨Nat.le_of_ble_eq_true rfl, Nat.le_of_ble_eq_true rfl⟩ ⟨rfl, rfl⟩ k0 (Nat.le_of_ble_eq_true rfl) (S_X11_testHolds hb1 w35) ?_
          refine p_istore_n_3_2 e_X11_runRules_51 rfl rfl ?_
          refine r_goto e_X11_runRules_52 ?_
          exact ih _ _ _ _ h hE
def L_X11_runRules_63 (mA : Nat) (w1 : Int32) (w2 : Int32) : Nat → Mem → Option (Mem)
  | 0, _ => none
  | n + 1, M => bnd1 (R_X11_here  mA M) (fun v38 => if v38 = (123 : Int32) then (some M) else (L_X11_runRules_63 mA w1 w2 n (setI M 242 35 ((M.1 242 35) + (1 : Int32)))))
theorem LW_X11_runRules_63 {sh : List SC} {Q : Po}  {mA : Nat} {oA : Nat} {w1 : Int32} {w2 : Int32} (hb1 : ModelAt sh mA oA)  : ∀ (n : Nat) (M : Mem) (Mz : Mem), L_X11_runRules_63 mA w1 w2 n M = some Mz → WP m_X11_runRules Q 85 [some (.ref 242), some (.int w1), some (.int w2)] [] sh Mz 0 0 → WP m_X11_runRules Q 63 [some (.ref 242), some (.int w1), some (.int w2)] [] sh M 0 0 := by
  intro n
  induction n with
  | zero =>
    intro M Mz h hE
    rw [L_X11_runRules_63] at h
    cases h
  | succ n ih =>
    intro M Mz h hE
    rw [L_X11_runRules_63] at h
    have k0 : kd sh 242 = some (10 + 7, 0) := hb1.1
    refine r_aload_n e_X11_runRules_63 rfl ?_
    obtain ⟨v38, w38, h⟩ := bnd1_el h
    refine cV0v e_X11_runRules_64 cl_X11_327 ⟨Nat.le_of_ble_eq_true rfl, Nat.le_of_ble_eq_true rfl⟩ ⟨rfl, rfl⟩ k0 (Nat.le_of_ble_eq_true rfl) (S_X11_here hb1 w38) ?_
    refine r_bipush e_X11_runRules_67 bp_123 ?_
    refine r_icmp_eq e_X11_runRules_69 (fun c39 => ?_) (fun c39 => ?_)
    · rw [if_pos c39] at h
      obtain rfl := Option.some.inj h; exact hE
    · rw [if_neg c39] at h
      refine r_aload_n e_X11_runRules_72 rfl ?_
      refine r_dup e_X11_runRules_73 rfl ?_
      refine r_getI e_X11_runRules_74 fl_X11_312 i0 k0 ?_
      refine r_iconst e_X11_runRules_77 ic_1 ?_
      refine r_iadd e_X11_runRules_78 ?_
      refine r_putI e_X11_runRules_79 fl_X11_312 k0 ?_
      refine r_goto e_X11_runRules_82 ?_
      exact ih  _ _ h hE
def L_X11_runRules_95 (mA : Nat) (w2 : Int32) : Nat → Int32 → Mem → Option (Int32 × Mem)
  | 0, _, _ => none
  | n + 1, u1, M => if w2 = 0 then (some (u1, M)) else (if u1 = 0 then (if (M.1 242 37) = 0 then (bnd1 (R_X11_here  mA M) (fun v44 => if v44 = (125 : Int32) then (some (u1, M)) else (bnd2 (R_X11_actEnds  mA M) (fun v46 M46 => L_X11_runRules_95 mA w2 n v46 M46)))) else (some (u1, M))) else (some (u1, M)))
theorem LW_X11_runRules_95 {sh : List SC} {Q : Po}  {mA : Nat} {oA : Nat} {w2 : Int32} (hb1 : ModelAt sh mA oA)  : ∀ (n : Nat) (u1 : Int32) (M : Mem) (z1 : Int32) (Mz : Mem), L_X11_runRules_95 mA w2 n u1 M = some (z1, Mz) → WP m_X11_runRules Q 127 [some (.ref 242), some (.int z1), none] [] sh Mz 0 0 → WP m_X11_runRules Q 95 [some (.ref 242), some (.int u1), some (.int w2)] [] sh M 0 0 := by
  intro n
  induction n with
  | zero =>
    intro u1 M z1 Mz h hE
    rw [L_X11_runRules_95] at h
    cases h
  | succ n ih =>
    intro u1 M z1 Mz h hE
    rw [L_X11_runRules_95] at h
    have k0 : kd sh 242 = some (10 + 7, 0) := hb1.1
    refine r_iload_n e_X11_runRules_95 rfl ?_
    refine r_if_eq e_X11_runRules_96 (fun c41 => ?_) (fun c41 => ?_)
    · rw [if_pos c41] at h
      refine d_3_2 ?_
      obtain ⟨rfl, rfl⟩ := ps2 h; exact hE
    · rw [if_neg c41] at h
      refine r_iload_n e_X11_runRules_99 rfl ?_
      refine r_if_ne e_X11_runRules_100 (fun c42 => ?_) (fun c42 => ?_)
      · rw [if_neg c42] at h
        refine d_3_2 ?_
        obtain ⟨rfl, rfl⟩ := ps2 h; exact hE
      · rw [if_pos c42] at h
        refine r_aload_n e_X11_runRules_103 rfl ?_
        refine r_getI e_X11_runRules_104 fl_X11_305 i3 k0 ?_
        refine r_if_ne e_X11_runRules_107 (fun c43 => ?_) (fun c43 => ?_)
        · rw [if_neg c43] at h
          refine d_3_2 ?_
          obtain ⟨rfl, rfl⟩ := ps2 h; exact hE
        · rw [if_pos c43] at h
          refine r_aload_n e_X11_runRules_110 rfl ?_
          obtain ⟨v44, w44, h⟩ := bnd1_el h
          refine cV0v e_X11_runRules_111 cl_X11_327 ⟨Nat.le_of_ble_eq_true rfl, Nat.le_of_ble_eq_true rfl⟩ ⟨rfl, rfl⟩ k0 (Nat.le_of_ble_eq_true rfl) (S_X11_here hb1 w44) ?_
          refine r_bipush e_X11_runRules_114 bp_125 ?_
          refine r_icmp_eq e_X11_runRules_116 (fun c45 => ?_) (fun c45 => ?_)
          · rw [if_pos c45] at h
            refine d_3_2 ?_
            obtain ⟨rfl, rfl⟩ := ps2 h; exact hE
          · rw [if_neg c45] at h
            refine r_aload_n e_X11_runRules_119 rfl ?_
            obtain ⟨v46, M46, w46, h⟩ := bnd2_el h
            refine cV0v e_X11_runRules_120 cl_X11_358 ⟨Nat.le_of_ble_eq_true rfl, Nat.le_of_ble_eq_true rfl⟩ ⟨rfl, rfl⟩ k0 (Nat.le_of_ble_eq_true rfl) (S_X11_actEnds hb1 w46) ?_
            refine p_istore_n_3_1 e_X11_runRules_123 rfl rfl ?_
            refine r_goto e_X11_runRules_124 ?_
            exact ih _ _ _ _ h hE
def L_X11_runRules_127 (mA : Nat) (w1 : Int32) : Nat → Mem → Option (Mem)
  | 0, _ => none
  | n + 1, M => bnd1 (R_X11_here  mA M) (fun v48 => if v48 = (125 : Int32) then (some M) else (L_X11_runRules_127 mA w1 n (setI M 242 35 ((M.1 242 35) + (1 : Int32)))))
theorem LW_X11_runRules_127 {sh : List SC} {Q : Po}  {mA : Nat} {oA : Nat} {w1 : Int32} (hb1 : ModelAt sh mA oA)  : ∀ (n : Nat) (M : Mem) (Mz : Mem), L_X11_runRules_127 mA w1 n M = some Mz → WP m_X11_runRules Q 149 [some (.ref 242), some (.int w1), none] [] sh Mz 0 0 → WP m_X11_runRules Q 127 [some (.ref 242), some (.int w1), none] [] sh M 0 0 := by
  intro n
  induction n with
  | zero =>
    intro M Mz h hE
    rw [L_X11_runRules_127] at h
    cases h
  | succ n ih =>
    intro M Mz h hE
    rw [L_X11_runRules_127] at h
    have k0 : kd sh 242 = some (10 + 7, 0) := hb1.1
    refine r_aload_n e_X11_runRules_127 rfl ?_
    obtain ⟨v48, w48, h⟩ := bnd1_el h
    refine cV0v e_X11_runRules_128 cl_X11_327 ⟨Nat.le_of_ble_eq_true rfl, Nat.le_of_ble_eq_true rfl⟩ ⟨rfl, rfl⟩ k0 (Nat.le_of_ble_eq_true rfl) (S_X11_here hb1 w48) ?_
    refine r_bipush e_X11_runRules_131 bp_125 ?_
    refine r_icmp_eq e_X11_runRules_133 (fun c49 => ?_) (fun c49 => ?_)
    · rw [if_pos c49] at h
      obtain rfl := Option.some.inj h; exact hE
    · rw [if_neg c49] at h
      refine r_aload_n e_X11_runRules_136 rfl ?_
      refine r_dup e_X11_runRules_137 rfl ?_
      refine r_getI e_X11_runRules_138 fl_X11_312 i0 k0 ?_
      refine r_iconst e_X11_runRules_141 ic_1 ?_
      refine r_iadd e_X11_runRules_142 ?_
      refine r_putI e_X11_runRules_143 fl_X11_312 k0 ?_
      refine r_goto e_X11_runRules_146 ?_
      exact ih  _ _ h hE
def L_X11_runRules_2 (mA : Nat) : Nat → Int32 → Mem → Option ((Mem) ⊕ (Mem))
  | 0, _, _ => none
  | n + 1, u1, M => if u1 = 0 then (if (M.1 242 37) = 0 then (bnd1 (R_X11_here  mA M) (fun v28 => if v28 = (11 : Int32) then (bnd2 (R_X11_testHolds  mA M) (fun v30 M30 => bnd2 (L_X11_runRules_27 mA u1 FUEL v30 M30) (fun v36_0 M36 => if (M36.1 242 37) = 0 then (bnd1 (L_X11_runRules_63 mA u1 v36_0 FUEL M36) (fun M40 => bnd2 (L_X11_runRules_95 mA v36_0 FUEL u1 (setI M40 242 35 ((M40.1 242 35) + (1 : Int32)))) (fun v47_0 M47 => bnd1 (L_X11_runRules_127 mA v47_0 FUEL M47) (fun M50 => L_X11_runRules_2 mA n v47_0 (setI M50 242 35 ((M50.1 242 35) + (1 : Int32))))))) else (some (.inl M36))))) else (some (.inr M)))) else (some (.inr M))) else (some (.inr M))
theorem LW_X11_runRules_2 {sh : List SC} {Q : Po}  {mA : Nat} {oA : Nat}  (hb1 : ModelAt sh mA oA)  : ∀ (n : Nat) (u1 : Int32) (M : Mem) (q : (Mem) ⊕ (Mem)), L_X11_runRules_2 mA n u1 M = some q → (∀ x, q = .inl x → Q none sh x) → (∀ Mz, q = .inr Mz → WP m_X11_runRules Q 162 [none, none, none] [] sh Mz 0 0) → WP m_X11_runRules Q 2 [some (.ref 242), some (.int u1), none] [] sh M 0 0 := by
  intro n
  induction n with
  | zero =>
    intro u1 M q h hR hE
    rw [L_X11_runRules_2] at h
    cases h
  | succ n ih =>
    intro u1 M q h hR hE
    rw [L_X11_runRules_2] at h
    have k0 : kd sh 242 = some (10 + 7, 0) := hb1.1
    refine r_iload_n e_X11_runRules_2 rfl ?_
    refine r_if_ne e_X11_runRules_3 (fun c26 => ?_) (fun c26 => ?_)
    · rw [if_neg c26] at h
      refine d_3_0 ?_
      refine d_3_1 ?_
      exact hE _ (Option.some.inj h).symm
    · rw [if_pos c26] at h
      refine r_aload_n e_X11_runRules_6 rfl ?_
      refine r_getI e_X11_runRules_7 fl_X11_305 i3 k0 ?_
      refine r_if_ne e_X11_runRules_10 (fun c27 => ?_) (fun c27 => ?_)
      · rw [if_neg c27] at h
        refine d_3_0 ?_
        refine d_3_1 ?_
        exact hE _ (Option.some.inj h).symm
      · rw [if_pos c27] at h
        refine r_aload_n e_X11_runRules_13 rfl ?_
        obtain ⟨v28, w28, h⟩ := bnd1_el h
        refine cV0v e_X11_runRules_14 cl_X11_327 ⟨Nat.le_of_ble_eq_true rfl, Nat.le_of_ble_eq_true rfl⟩ ⟨rfl, rfl⟩ k0 (Nat.le_of_ble_eq_true rfl) (S_X11_here hb1 w28) ?_
        refine r_bipush e_X11_runRules_17 bp_11 ?_
        refine r_icmp_ne e_X11_runRules_19 (fun c29 => ?_) (fun c29 => ?_)
        · rw [if_neg c29] at h
          refine d_3_0 ?_
          refine d_3_1 ?_
          exact hE _ (Option.some.inj h).symm
        · rw [if_pos c29] at h
          refine r_aload_n e_X11_runRules_22 rfl ?_
          obtain ⟨v30, M30, w30, h⟩ := bnd2_el h
          refine cV0v e_X11_runRules_23 cl_X11_355 ⟨Nat.le_of_ble_eq_true rfl, Nat.le_of_ble_eq_true rfl⟩ ⟨rfl, rfl⟩ k0 (Nat.le_of_ble_eq_true rfl) (S_X11_testHolds hb1 w30) ?_
          refine p_istore_n_3_2 e_X11_runRules_26 rfl rfl ?_
          obtain ⟨v36_0, M36, w36, h⟩ := bnd2_el h
          refine LW_X11_runRules_27 hb1 _ _ _ _ _ w36 ?_
          refine r_aload_n e_X11_runRules_55 rfl ?_
          refine r_getI e_X11_runRules_56 fl_X11_305 i3 k0 ?_
          refine r_if_eq e_X11_runRules_59 (fun c37 => ?_) (fun c37 => ?_)
          · rw [if_pos c37] at h
            obtain ⟨M40, w40, h⟩ := bnd1_el h
            refine LW_X11_runRules_63 hb1 _ _ _ w40 ?_
            refine r_aload_n e_X11_runRules_85 rfl ?_
            refine r_dup e_X11_runRules_86 rfl ?_
            refine r_getI e_X11_runRules_87 fl_X11_312 i0 k0 ?_
            refine r_iconst e_X11_runRules_90 ic_1 ?_
            refine r_iadd e_X11_runRules_91 ?_
            refine r_putI e_X11_runRules_92 fl_X11_312 k0 ?_
            obtain ⟨v47_0, M47, w47, h⟩ := bnd2_el h
            refine LW_X11_runRules_95 hb1 _ _ _ _ _ w47 ?_
            obtain ⟨M50, w50, h⟩ := bnd1_el h
            refine LW_X11_runRules_127 hb1 _ _ _ w50 ?_
            refine r_aload_n e_X11_runRules_149 rfl ?_
            refine r_dup e_X11_runRules_150 rfl ?_
            refine r_getI e_X11_runRules_151 fl_X11_312 i0 k0 ?_
            refine r_iconst e_X11_runRules_154 ic_1 ?_
            refine r_iadd e_X11_runRules_155 ?_
            refine r_putI e_X11_runRules_156 fl_X11_312 k0 ?_
            refine r_goto e_X11_runRules_159 ?_
            exact ih _ _ _ h hR hE
          · rw [if_neg c37] at h
            refine r_return e_X11_runRules_62 rfl ⟨rfl, rfl⟩ ?_
            exact hR _ (Option.some.inj h).symm
def R_X11_runRules (mA : Nat) (M : Mem) : Option (Mem) := br1 (L_X11_runRules_2 mA FUEL (0 : Int32) M) (fun M51 => some M51)
theorem S_X11_runRules {sh : List SC} {M : Mem}  {mA : Nat} {oA : Nat} {M' : Mem} (hb1 : ModelAt sh mA oA)  (h : R_X11_runRules mA M = some M') : Gu m_X11_runRules [.ref 242] sh M M' := by
  refine Sp.of (ls := [some (.ref 242), none, none]) (by decide +kernel) (Nat.le_of_ble_eq_true rfl) rfl ?_
  unfold R_X11_runRules at h
  refine r_iconst e_X11_runRules_0 ic_0 ?_
  refine p_istore_n_3_1 e_X11_runRules_1 rfl rfl ?_
  obtain ⟨q51, w51, l51, r51⟩ := br1_el h
  refine LW_X11_runRules_2 hb1 _ _ _ _ w51 (fun x51 y51 => ?_) (fun M51 y51 => ?_)
  · have h := l51 _ y51
    obtain rfl := Option.some.inj h; exact ⟨rfl, rfl, rfl⟩
  have h := r51 _ y51
  refine r_return e_X11_runRules_162 rfl ⟨rfl, rfl⟩ ?_
  obtain rfl := Option.some.inj h; exact ⟨rfl, rfl, rfl⟩
def L_X11_rule_10 (mA : Nat) : Nat → Int32 → Mem → Option (Int32 × Mem)
  | 0, _, _ => none
  | n + 1, u1, M => if u1 = 0 then (some (u1, M)) else (if (M.1 242 5) = (12 : Int32) then (bnd2 (R_X11_keepWord  mA M) (fun v5 M5 => bnd2 (R_X11_test  mA M5) (fun v6 M6 => L_X11_rule_10 mA n v6 M6))) else (some (u1, M)))
theorem LW_X11_rule_10 {sh : List SC} {Q : Po}  {mA : Nat} {oA : Nat}  (hb1 : ModelAt sh mA oA)  : ∀ (n : Nat) (u1 : Int32) (M : Mem) (z1 : Int32) (Mz : Mem), L_X11_rule_10 mA n u1 M = some (z1, Mz) → WP m_X11_rule Q 36 [some (.ref 242), some (.int z1), none] [] sh Mz 0 0 → WP m_X11_rule Q 10 [some (.ref 242), some (.int u1), none] [] sh M 0 0 := by
  intro n
  induction n with
  | zero =>
    intro u1 M z1 Mz h hE
    rw [L_X11_rule_10] at h
    cases h
  | succ n ih =>
    intro u1 M z1 Mz h hE
    rw [L_X11_rule_10] at h
    have k0 : kd sh 242 = some (10 + 7, 0) := hb1.1
    refine r_iload_n e_X11_rule_10 rfl ?_
    refine r_if_eq e_X11_rule_11 (fun c3 => ?_) (fun c3 => ?_)
    · rw [if_pos c3] at h
      obtain ⟨rfl, rfl⟩ := ps2 h; exact hE
    · rw [if_neg c3] at h
      refine r_aload_n e_X11_rule_14 rfl ?_
      refine r_getI e_X11_rule_15 fl_X11_28 i0 k0 ?_
      refine r_bipush e_X11_rule_18 bp_12 ?_
      refine r_icmp_ne e_X11_rule_20 (fun c4 => ?_) (fun c4 => ?_)
      · rw [if_neg c4] at h
        obtain ⟨rfl, rfl⟩ := ps2 h; exact hE
      · rw [if_pos c4] at h
        refine r_aload_n e_X11_rule_23 rfl ?_
        obtain ⟨v5, M5, w5, h⟩ := bnd2_el h
        refine cV0v e_X11_rule_24 cl_X11_117 ⟨Nat.le_of_ble_eq_true rfl, Nat.le_of_ble_eq_true rfl⟩ ⟨rfl, rfl⟩ k0 (Nat.le_of_ble_eq_true rfl) (S_X11_keepWord hb1 w5) ?_
        refine r_pop e_X11_rule_27 rfl ?_
        refine r_aload_n e_X11_rule_28 rfl ?_
        obtain ⟨v6, M6, w6, h⟩ := bnd2_el h
        refine cV0v e_X11_rule_29 cl_X11_160 ⟨Nat.le_of_ble_eq_true rfl, Nat.le_of_ble_eq_true rfl⟩ ⟨rfl, rfl⟩ k0 (Nat.le_of_ble_eq_true rfl) (S_X11_test hb1 w6) ?_
        refine p_istore_n_3_1 e_X11_rule_32 rfl rfl ?_
        refine r_goto e_X11_rule_33 ?_
        exact ih _ _ _ _ h hE
def L_X11_rule_57 (mA : Nat) : Nat → Int32 → Int32 → Mem → Option (Int32 × Mem)
  | 0, _, _, _ => none
  | n + 1, u1, u2, M => if u1 = 0 then (some (u1, M)) else (if (M.1 242 5) < (13 : Int32) then (some (u1, M)) else (if (18 : Int32) < (M.1 242 5) then (some (u1, M)) else (bnd2 (if (8 : Int32) ≤ u2 then (some ((V_X11_wrong  M), U_X11_wrong  M)) else (bnd2 (R_X11_act  mA M) (fun v19 M19 => (some (v19, M19))))) (fun v18_0 M18 => L_X11_rule_57 mA n v18_0 (u2 + 1) M18))))
theorem LW_X11_rule_57 {sh : List SC} {Q : Po}  {mA : Nat} {oA : Nat}  (hb1 : ModelAt sh mA oA)  : ∀ (n : Nat) (u1 : Int32) (u2 : Int32) (M : Mem) (z1 : Int32) (Mz : Mem), L_X11_rule_57 mA n u1 u2 M = some (z1, Mz) → WP m_X11_rule Q 103 [some (.ref 242), some (.int z1), none] [] sh Mz 0 0 → WP m_X11_rule Q 57 [some (.ref 242), some (.int u1), some (.int u2)] [] sh M 0 0 := by
  intro n
  induction n with
  | zero =>
    intro u1 u2 M z1 Mz h hE
    rw [L_X11_rule_57] at h
    cases h
  | succ n ih =>
    intro u1 u2 M z1 Mz h hE
    rw [L_X11_rule_57] at h
    have k0 : kd sh 242 = some (10 + 7, 0) := hb1.1
    refine r_iload_n e_X11_rule_57 rfl ?_
    refine r_if_eq e_X11_rule_58 (fun c13 => ?_) (fun c13 => ?_)
    · rw [if_pos c13] at h
      refine d_3_2 ?_
      obtain ⟨rfl, rfl⟩ := ps2 h; exact hE
    · rw [if_neg c13] at h
      refine r_aload_n e_X11_rule_61 rfl ?_
      refine r_getI e_X11_rule_62 fl_X11_28 i0 k0 ?_
      refine r_bipush e_X11_rule_65 bp_13 ?_
      refine r_icmp_lt e_X11_rule_67 (fun c14 => ?_) (fun c14 => ?_)
      · rw [if_pos c14] at h
        refine d_3_2 ?_
        obtain ⟨rfl, rfl⟩ := ps2 h; exact hE
      · rw [if_neg c14] at h
        refine r_aload_n e_X11_rule_70 rfl ?_
        refine r_getI e_X11_rule_71 fl_X11_28 i0 k0 ?_
        refine r_bipush e_X11_rule_74 bp_18 ?_
        refine r_icmp_gt e_X11_rule_76 (fun c15 => ?_) (fun c15 => ?_)
        · rw [if_pos c15] at h
          refine d_3_2 ?_
          obtain ⟨rfl, rfl⟩ := ps2 h; exact hE
        · rw [if_neg c15] at h
          refine r_iload_n e_X11_rule_79 rfl ?_
          refine r_bipush e_X11_rule_80 bp_8 ?_
          obtain ⟨K18, hK18, h⟩ := bnd2_in h
          suffices j18 : ∀ v18_0 M18, K18 (v18_0, M18) = some (z1, Mz) → WP m_X11_rule _ 96 [some (.ref 242), none, some (.int u2)] [.int v18_0] sh M18 0 0 by
            refine r_icmp_ge e_X11_rule_82 (fun c16 => ?_) (fun c16 => ?_)
            · rw [if_pos c16] at h
              refine r_aload_n e_X11_rule_92 rfl ?_
              refine cV0v e_X11_rule_93 cl_X11_121 ⟨Nat.le_of_ble_eq_true rfl, Nat.le_of_ble_eq_true rfl⟩ ⟨rfl, rfl⟩ k0 (Nat.le_of_ble_eq_true rfl) (S_X11_wrong hb1) ?_
              refine d_3_1 ?_
              exact j18 _ _ h
            · rw [if_neg c16] at h
              refine r_aload_n e_X11_rule_85 rfl ?_
              obtain ⟨v19, M19, w19, h⟩ := bnd2_elK h
              refine cV0v e_X11_rule_86 cl_X11_163 ⟨Nat.le_of_ble_eq_true rfl, Nat.le_of_ble_eq_true rfl⟩ ⟨rfl, rfl⟩ k0 (Nat.le_of_ble_eq_true rfl) (S_X11_act hb1 w19) ?_
              refine r_goto e_X11_rule_89 ?_
              refine d_3_1 ?_
              exact j18 _ _ h
          intro v18_0 M18 h
          rw [hK18] at h
          refine p_istore_n_3_1 e_X11_rule_96 rfl rfl ?_
          refine p_iinc_3_2 e_X11_rule_97 rfl ic_1 rfl ?_
          refine r_goto e_X11_rule_100 ?_
          exact ih _ _ _ _ _ h hE
def R_X11_rule (mA : Nat) (M : Mem) : Option (Int32 × Mem) := bnd2 (R_X11_keepWord  mA M) (fun v1 M1 => bnd2 (R_X11_test  mA M1) (fun v2 M2 => bnd2 (L_X11_rule_10 mA FUEL v2 M2) (fun v7_0 M7 => bnd2 (if v7_0 = 0 then (some ((0 : Int32), M7)) else (bnd2 (R_X11_is (123 : Int32) mA M7) (fun v11 M11 => if v11 = 0 then (some ((0 : Int32), M11)) else (some ((1 : Int32), M11))))) (fun v10_0 M10 => bnd2 (L_X11_rule_57 mA FUEL v10_0 (0 : Int32) M10) (fun v20_0 M20 => bnd2 (if v20_0 = 0 then (some ((0 : Int32), M20)) else (bnd2 (R_X11_is (125 : Int32) mA M20) (fun v24 M24 => if v24 = 0 then (some ((0 : Int32), M24)) else (some ((1 : Int32), M24))))) (fun v23_0 M23 => cz v23_0 (some (v23_0, M23))))))))
theorem S_X11_rule {sh : List SC} {M : Mem}  {mA : Nat} {oA : Nat} {v' : Int32} {M' : Mem} (hb1 : ModelAt sh mA oA)  (h : R_X11_rule mA M = some (v', M')) : Gv m_X11_rule [.ref 242] sh M (.int v') M' := by
  refine Sp.of (ls := [some (.ref 242), none, none]) (by decide +kernel) (Nat.le_of_ble_eq_true rfl) rfl ?_
  have k0 : kd sh 242 = some (10 + 7, 0) := hb1.1
  unfold R_X11_rule at h
  refine r_aload_n e_X11_rule_0 rfl ?_
  obtain ⟨v1, M1, w1, h⟩ := bnd2_el h
  refine cV0v e_X11_rule_1 cl_X11_117 ⟨Nat.le_of_ble_eq_true rfl, Nat.le_of_ble_eq_true rfl⟩ ⟨rfl, rfl⟩ k0 (Nat.le_of_ble_eq_true rfl) (S_X11_keepWord hb1 w1) ?_
  refine r_pop e_X11_rule_4 rfl ?_
  refine r_aload_n e_X11_rule_5 rfl ?_
  obtain ⟨v2, M2, w2, h⟩ := bnd2_el h
  refine cV0v e_X11_rule_6 cl_X11_160 ⟨Nat.le_of_ble_eq_true rfl, Nat.le_of_ble_eq_true rfl⟩ ⟨rfl, rfl⟩ k0 (Nat.le_of_ble_eq_true rfl) (S_X11_test hb1 w2) ?_
  refine p_istore_n_3_1 e_X11_rule_9 rfl rfl ?_
  obtain ⟨v7_0, M7, w7, h⟩ := bnd2_el h
  refine LW_X11_rule_10 hb1 _ _ _ _ _ w7 ?_
  refine r_iload_n e_X11_rule_36 rfl ?_
  obtain ⟨K10, hK10, h⟩ := bnd2_in h
  suffices j10 : ∀ v10_0 M10, K10 (v10_0, M10) = some (v', M') → WP m_X11_rule _ 54 [some (.ref 242), none, none] [.int v10_0] sh M10 0 0 by
    refine r_if_eq e_X11_rule_37 (fun c8 => ?_) (fun c8 => ?_)
    · rw [if_pos c8] at h
      refine r_iconst e_X11_rule_53 ic_0 ?_
      refine d_3_1 ?_
      exact j10 _ _ h
    · rw [if_neg c8] at h
      refine r_aload_n e_X11_rule_40 rfl ?_
      refine r_bipush e_X11_rule_41 bp_123 ?_
      obtain ⟨v11, M11, w11, h⟩ := bnd2_elK h
      refine cV1v e_X11_rule_43 cl_X11_157 ⟨Nat.le_of_ble_eq_true rfl, Nat.le_of_ble_eq_true rfl⟩ ⟨rfl, rfl⟩ k0 (Nat.le_of_ble_eq_true rfl) (S_X11_is hb1 w11) ?_
      refine r_if_eq e_X11_rule_46 (fun c12 => ?_) (fun c12 => ?_)
      · rw [if_pos c12] at h
        refine r_iconst e_X11_rule_53 ic_0 ?_
        refine d_3_1 ?_
        exact j10 _ _ h
      · rw [if_neg c12] at h
        refine r_iconst e_X11_rule_49 ic_1 ?_
        refine r_goto e_X11_rule_50 ?_
        refine d_3_1 ?_
        exact j10 _ _ h
  intro v10_0 M10 h
  rw [hK10] at h
  refine p_istore_n_3_1 e_X11_rule_54 rfl rfl ?_
  refine r_iconst e_X11_rule_55 ic_0 ?_
  refine p_istore_n_3_2 e_X11_rule_56 rfl rfl ?_
  obtain ⟨v20_0, M20, w20, h⟩ := bnd2_el h
  refine LW_X11_rule_57 hb1 _ _ _ _ _ _ w20 ?_
  refine r_iload_n e_X11_rule_103 rfl ?_
  obtain ⟨K23, hK23, h⟩ := bnd2_in h
  suffices j23 : ∀ v23_0 M23, K23 (v23_0, M23) = some (v', M') → WP m_X11_rule _ 121 [none, none, none] [.int v23_0] sh M23 0 0 by
    refine r_if_eq e_X11_rule_104 (fun c21 => ?_) (fun c21 => ?_)
    · rw [if_pos c21] at h
      refine r_iconst e_X11_rule_120 ic_0 ?_
      refine d_3_0 ?_
      refine d_3_1 ?_
      exact j23 _ _ h
    · rw [if_neg c21] at h
      refine r_aload_n e_X11_rule_107 rfl ?_
      refine r_bipush e_X11_rule_108 bp_125 ?_
      obtain ⟨v24, M24, w24, h⟩ := bnd2_elK h
      refine cV1v e_X11_rule_110 cl_X11_157 ⟨Nat.le_of_ble_eq_true rfl, Nat.le_of_ble_eq_true rfl⟩ ⟨rfl, rfl⟩ k0 (Nat.le_of_ble_eq_true rfl) (S_X11_is hb1 w24) ?_
      refine r_if_eq e_X11_rule_113 (fun c25 => ?_) (fun c25 => ?_)
      · rw [if_pos c25] at h
        refine r_iconst e_X11_rule_120 ic_0 ?_
        refine d_3_0 ?_
        refine d_3_1 ?_
        exact j23 _ _ h
      · rw [if_neg c25] at h
        refine r_iconst e_X11_rule_116 ic_1 ?_
        refine r_goto e_X11_rule_117 ?_
        refine d_3_0 ?_
        refine d_3_1 ?_
        exact j23 _ _ h
  intro v23_0 M23 h
  rw [hK23] at h
  obtain ⟨b26, h⟩ := cz_el h
  refine r_zreturn e_X11_rule_121 rfl ⟨rfl, rfl⟩ b26 ?_
  obtain ⟨rfl, rfl⟩ := ps2 h; exact ⟨rfl, rfl, rfl⟩
def R_X11_run (x1 : Int32) (mA : Nat) (M : Mem) : Option (Mem) := bnd1 (R_X11_see x1 mA M) (fun M1 => bnd1 (R_X11_goes (0 : Int32) (0 : Int32) (0 : Int32) (0 : Int32) mA (setI M1 242 33 x1)) (fun M2 => bnd1 (R_X11_of x1 (11 : Int32) mA M2) (fun v3 => if v3 < 0 then (some M2) else (bnd1 (R_X11_of x1 (3 : Int32) mA M2) (fun v5 => if v5 = (1 : Int32) then (some M2) else (bnd1 (R_X11_of x1 (11 : Int32) mA M2) (fun v7 => bnd1 (R_X11_of x1 (11 : Int32) mA (setI M2 242 34 ((800 : Int32) * v7))) (fun v8 => bnd1 (R_X11_of x1 (2 : Int32) mA (setI M2 242 34 ((800 : Int32) * v7))) (fun v9 => ck (((8 : Int32) * v8) + v9) 48 (bnd1 (R_X11_of x1 (2 : Int32) mA (setI (setI (setI (setI M2 242 34 ((800 : Int32) * v7)) 242 35 (M2.1 247 (((8 : Int32) * v8) + v9).toNatClampNeg)) 242 36 (0 : Int32)) 242 37 (0 : Int32))) (fun v11 => bnd1 (R_X11_runRules  mA (setI (setI (setI (setI (setI M2 242 34 ((800 : Int32) * v7)) 242 35 (M2.1 247 (((8 : Int32) * v8) + v9).toNatClampNeg)) 242 36 (0 : Int32)) 242 37 (0 : Int32)) 242 41 v11)) (fun M12 => bnd1 (if (M12.1 242 37) = 0 then (bnd1 (R_X11_set x1 (2 : Int32) (M12.1 242 41) mA M12) (fun M16 => (some M16))) else (bnd1 (R_X11_goes (0 : Int32) (0 : Int32) (0 : Int32) (0 : Int32) mA M12) (fun M17 => bnd1 (R_X11_set x1 (3 : Int32) (1 : Int32) mA M17) (fun M18 => (some (setI M18 mA 11 ((M18.1 mA 11) + (1 : Int32)))))))) (fun M15 => some M15)))))))))))))
theorem S_X11_run {sh : List SC} {M : Mem} {x1 : Int32} {mA : Nat} {oA : Nat} {M' : Mem} (hb1 : ModelAt sh mA oA)  (h : R_X11_run x1 mA M = some M') : Gu m_X11_run [.ref 242, .int x1] sh M M' := by
  refine Sp.of (ls := [some (.ref 242), some (.int x1)]) (by decide +kernel) (Nat.le_of_ble_eq_true rfl) rfl ?_
  have k0 : kd sh 242 = some (10 + 7, 0) := hb1.1
  have k1 : rf sh 242 13 = some 247 := hb1.2.2.2.2.2.1
  have k2 : kd sh 247 = some (0, 48) := hb1.2.2.2.2.2.2.2.2.2.2.2.2.2.2.2.2.2.2.2.2.2.2.2.2.2.2.2.2.2.2.2.1
  have k3 : rf sh 242 27 = some mA := hb1.2.2.2.2.2.2.2.2.2.2.2.2.2.2.2.2.2.1
  have k4 : kd sh mA = some (0, 212) := hb1.2.2.2.2.2.2.2.2.2.2.2.2.2.2.2.2.2.2.2.2.2.2.2.2.2.2.2.2.2.2.2.2.2.2.2.2.2.2.2.2.2.2.2.2.2.2.2.2.2.2.2.1
  unfold R_X11_run at h
  refine r_aload_n e_X11_run_0 rfl ?_
  refine r_iload_n e_X11_run_1 rfl ?_
  obtain ⟨M1, w1, h⟩ := bnd1_el h
  refine cV1u e_X11_run_2 cl_X11_361 ⟨Nat.le_of_ble_eq_true rfl, Nat.le_of_ble_eq_true rfl⟩ ⟨rfl, rfl⟩ k0 (Nat.le_of_ble_eq_true rfl) (S_X11_see hb1 w1) ?_
  refine r_aload_n e_X11_run_5 rfl ?_
  refine r_iload_n e_X11_run_6 rfl ?_
  refine r_putI e_X11_run_7 fl_X11_315 k0 ?_
  refine r_aload_n e_X11_run_10 rfl ?_
  refine r_iconst e_X11_run_11 ic_0 ?_
  refine r_iconst e_X11_run_12 ic_0 ?_
  refine r_iconst e_X11_run_13 ic_0 ?_
  refine r_iconst e_X11_run_14 ic_0 ?_
  obtain ⟨M2, w2, h⟩ := bnd1_el h
  refine cV4u e_X11_run_15 cl_X11_351 ⟨Nat.le_of_ble_eq_true rfl, Nat.le_of_ble_eq_true rfl⟩ ⟨rfl, rfl⟩ k0 (Nat.le_of_ble_eq_true rfl) (S_X11_goes hb1 w2) ?_
  refine r_aload_n e_X11_run_18 rfl ?_
  refine r_iload_n e_X11_run_19 rfl ?_
  refine r_bipush e_X11_run_20 bp_11 ?_
  obtain ⟨v3, w3, h⟩ := bnd1_el h
  refine cV2v e_X11_run_22 cl_X11_252 ⟨Nat.le_of_ble_eq_true rfl, Nat.le_of_ble_eq_true rfl⟩ ⟨rfl, rfl⟩ k0 (Nat.le_of_ble_eq_true rfl) (S_X11_of hb1 w3) ?_
  refine r_if_lt e_X11_run_25 (fun c4 => ?_) (fun c4 => ?_)
  · rw [if_pos c4] at h
    refine r_return e_X11_run_38 rfl ⟨rfl, rfl⟩ ?_
    obtain rfl := Option.some.inj h; exact ⟨rfl, rfl, rfl⟩
  · rw [if_neg c4] at h
    refine r_aload_n e_X11_run_28 rfl ?_
    refine r_iload_n e_X11_run_29 rfl ?_
    refine r_iconst e_X11_run_30 ic_3 ?_
    obtain ⟨v5, w5, h⟩ := bnd1_el h
    refine cV2v e_X11_run_31 cl_X11_252 ⟨Nat.le_of_ble_eq_true rfl, Nat.le_of_ble_eq_true rfl⟩ ⟨rfl, rfl⟩ k0 (Nat.le_of_ble_eq_true rfl) (S_X11_of hb1 w5) ?_
    refine r_iconst e_X11_run_34 ic_1 ?_
    refine r_icmp_ne e_X11_run_35 (fun c6 => ?_) (fun c6 => ?_)
    · rw [if_neg c6] at h
      refine r_aload_n e_X11_run_39 rfl ?_
      refine r_sipush e_X11_run_40 sp_800 ?_
      refine r_aload_n e_X11_run_43 rfl ?_
      refine r_iload_n e_X11_run_44 rfl ?_
      refine r_bipush e_X11_run_45 bp_11 ?_
      obtain ⟨v7, w7, h⟩ := bnd1_el h
      refine cV2v e_X11_run_47 cl_X11_252 ⟨Nat.le_of_ble_eq_true rfl, Nat.le_of_ble_eq_true rfl⟩ ⟨rfl, rfl⟩ k0 (Nat.le_of_ble_eq_true rfl) (S_X11_of hb1 w7) ?_
      refine r_imul e_X11_run_50 ?_
      refine r_putI e_X11_run_51 fl_X11_309 k0 ?_
      refine r_aload_n e_X11_run_54 rfl ?_
      refine r_aload_n e_X11_run_55 rfl ?_
      refine r_getR e_X11_run_56 fl_X11_172 k0 k1 ?_
      refine r_bipush e_X11_run_59 bp_8 ?_
      refine r_aload_n e_X11_run_61 rfl ?_
      refine r_iload_n e_X11_run_62 rfl ?_
      refine r_bipush e_X11_run_63 bp_11 ?_
      obtain ⟨v8, w8, h⟩ := bnd1_el h
      refine cV2v e_X11_run_65 cl_X11_252 ⟨Nat.le_of_ble_eq_true rfl, Nat.le_of_ble_eq_true rfl⟩ ⟨rfl, rfl⟩ k0 (Nat.le_of_ble_eq_true rfl) (S_X11_of hb1 w8) ?_
      refine r_imul e_X11_run_68 ?_
      refine r_aload_n e_X11_run_69 rfl ?_
      refine r_iload_n e_X11_run_70 rfl ?_
      refine r_iconst e_X11_run_71 ic_2 ?_
      obtain ⟨v9, w9, h⟩ := bnd1_el h
      refine cV2v e_X11_run_72 cl_X11_252 ⟨Nat.le_of_ble_eq_true rfl, Nat.le_of_ble_eq_true rfl⟩ ⟨rfl, rfl⟩ k0 (Nat.le_of_ble_eq_true rfl) (S_X11_of hb1 w9) ?_
      refine r_iadd e_X11_run_75 ?_
      obtain ⟨b10, h⟩ := ck_el h
      refine r_ialoade (v := (M2.1 247 (((8 : Int32) * v8) + v9).toNatClampNeg)) e_X11_run_76 k2 b10 (gs_aI (by omega)) ?_
      refine r_putI e_X11_run_77 fl_X11_312 k0 ?_
      refine r_aload_n e_X11_run_80 rfl ?_
      refine r_iconst e_X11_run_81 ic_0 ?_
      refine r_putI e_X11_run_82 fl_X11_302 k0 ?_
      refine r_aload_n e_X11_run_85 rfl ?_
      refine r_iconst e_X11_run_86 ic_0 ?_
      refine r_putZ e_X11_run_87 fl_X11_305 (by first | exact Or.inl rfl | exact Or.inr rfl) k0 ?_
      refine r_aload_n e_X11_run_90 rfl ?_
      refine r_aload_n e_X11_run_91 rfl ?_
      refine r_iload_n e_X11_run_92 rfl ?_
      refine r_iconst e_X11_run_93 ic_2 ?_
      obtain ⟨v11, w11, h⟩ := bnd1_el h
      refine cV2v e_X11_run_94 cl_X11_252 ⟨Nat.le_of_ble_eq_true rfl, Nat.le_of_ble_eq_true rfl⟩ ⟨rfl, rfl⟩ k0 (Nat.le_of_ble_eq_true rfl) (S_X11_of hb1 w11) ?_
      refine r_putI e_X11_run_97 fl_X11_348 k0 ?_
      refine r_aload_n e_X11_run_100 rfl ?_
      obtain ⟨M12, w12, h⟩ := bnd1_el h
      refine cV0u e_X11_run_101 cl_X11_364 ⟨Nat.le_of_ble_eq_true rfl, Nat.le_of_ble_eq_true rfl⟩ ⟨rfl, rfl⟩ k0 (Nat.le_of_ble_eq_true rfl) (S_X11_runRules hb1 w12) ?_
      refine r_aload_n e_X11_run_104 rfl ?_
      refine r_getI e_X11_run_105 fl_X11_305 i3 k0 ?_
      obtain ⟨K15, hK15, h⟩ := bnd1_in h
      suffices j15 : ∀ M15, K15 M15 = some M' → WP m_X11_run _ 150 [none, none] [] sh M15 0 0 by
        refine r_if_eq e_X11_run_108 (fun c13 => ?_) (fun c13 => ?_)
        · rw [if_pos c13] at h
          refine r_aload_n e_X11_run_140 rfl ?_
          refine r_iload_n e_X11_run_141 rfl ?_
          refine r_iconst e_X11_run_142 ic_2 ?_
          refine r_aload_n e_X11_run_143 rfl ?_
          refine r_getI e_X11_run_144 fl_X11_348 i0 k0 ?_
          obtain ⟨M16, w16, h⟩ := bnd1_elK h
          refine cV3u e_X11_run_147 cl_X11_282 ⟨Nat.le_of_ble_eq_true rfl, Nat.le_of_ble_eq_true rfl⟩ ⟨rfl, rfl⟩ k0 (Nat.le_of_ble_eq_true rfl) (S_X11_set hb1 w16) ?_
          refine d_2_0 ?_
          refine d_2_1 ?_
          exact j15 _ h
        · rw [if_neg c13] at h
          refine r_aload_n e_X11_run_111 rfl ?_
          refine r_iconst e_X11_run_112 ic_0 ?_
          refine r_iconst e_X11_run_113 ic_0 ?_
          refine r_iconst e_X11_run_114 ic_0 ?_
          refine r_iconst e_X11_run_115 ic_0 ?_
          obtain ⟨M17, w17, h⟩ := bnd1_elK h
          refine cV4u e_X11_run_116 cl_X11_351 ⟨Nat.le_of_ble_eq_true rfl, Nat.le_of_ble_eq_true rfl⟩ ⟨rfl, rfl⟩ k0 (Nat.le_of_ble_eq_true rfl) (S_X11_goes hb1 w17) ?_
          refine r_aload_n e_X11_run_119 rfl ?_
          refine r_iload_n e_X11_run_120 rfl ?_
          refine r_iconst e_X11_run_121 ic_3 ?_
          refine r_iconst e_X11_run_122 ic_1 ?_
          obtain ⟨M18, w18, h⟩ := bnd1_elK h
          refine cV3u e_X11_run_123 cl_X11_282 ⟨Nat.le_of_ble_eq_true rfl, Nat.le_of_ble_eq_true rfl⟩ ⟨rfl, rfl⟩ k0 (Nat.le_of_ble_eq_true rfl) (S_X11_set hb1 w18) ?_
          refine r_aload_n e_X11_run_126 rfl ?_
          refine r_getR e_X11_run_127 fl_X11_212 k0 k3 ?_
          refine r_bipush e_X11_run_130 bp_11 ?_
          refine r_dup2 e_X11_run_132 rfl rfl ?_
          refine r_ialoade (v := (M18.1 mA 11)) e_X11_run_133 k4 (by unfold vp_in; decide) (show M18.1 mA (11 : Int32).toNatClampNeg = M18.1 mA 11 by rw [show (11 : Int32).toNatClampNeg = 11 from rfl]) ?_
          refine r_iconst e_X11_run_134 ic_1 ?_
          refine r_iadd e_X11_run_135 ?_
          refine r_iastore e_X11_run_136 k4 (by unfold vp_in; decide) ?_
          rw [show (11 : Int32).toNatClampNeg = 11 from rfl]
          refine r_goto e_X11_run_137 ?_
          refine d_2_0 ?_
          refine d_2_1 ?_
          exact j15 _ h
      intro M15 h
      rw [hK15] at h
      refine r_return e_X11_run_150 rfl ⟨rfl, rfl⟩ ?_
      obtain rfl := Option.some.inj h; exact ⟨rfl, rfl, rfl⟩
    · rw [if_pos c6] at h
      refine r_return e_X11_run_38 rfl ⟨rfl, rfl⟩ ?_
      obtain rfl := Option.some.inj h; exact ⟨rfl, rfl, rfl⟩
