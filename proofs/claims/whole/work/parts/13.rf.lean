def L_X11_crowded_7 (x1 : Int32) (mA : Nat) : Nat → Nat → Int32 → Int32 → Mem → Option (Int32 × Int32)
  | 0, i7, u2, u3, M => some (u2, u3)
  | n + 1, i7, u2, u3, M => bnd1 (R_X11_of (((5 : Int32) * x1) + (nI i7)) (0 : Int32) mA M) (fun v1 => bd1 (if x1 = 0 then v1 else ((14 : Int32) - v1)) (fun v3_0 => bd2 (if (2 : Int32) < v3_0 then (u2, u3) else (bd1 (((5 : Int32) * x1) + (nI i7)) (fun v6 => ((u2 + 1), v6)))) (fun v5_0 v5_1 => L_X11_crowded_7 x1 mA n (i7 + 1) v5_0 v5_1 M)))
theorem LW_X11_crowded_7 {sh : List SC} {Q : Po} {x1 : Int32} {mA : Nat} {oA : Nat}  (hb1 : ModelAt sh mA oA)  : ∀ (n i7 : Nat) (u2 : Int32) (u3 : Int32) (M : Mem) (z2 : Int32) (z3 : Int32), i7 + n = 5 → L_X11_crowded_7 x1 mA n i7 u2 u3 M = some (z2, z3) → WP m_X11_crowded Q 60 [none, none, some (.int z2), some (.int z3), none, none] [] sh M 0 0 → WP m_X11_crowded Q 7 [some (.ref 242), some (.int x1), some (.int u2), some (.int u3), some (.int (nI i7)), none] [] sh M 0 0 := by
  intro n
  induction n with
  | zero =>
    intro i7 u2 u3 M z2 z3 hi h hE
    rw [L_X11_crowded_7] at h
    have hz : (5 : Int32) ≤ nI i7 := by
      have q : i7 = 5 := by omega
      rw [q]; exact nI_le (Nat.le_refl _) (by decide)
    refine r_iload e_X11_crowded_7 rfl ?_
    refine r_iconst e_X11_crowded_9 ic_5 ?_
    refine r_icmp_ge e_X11_crowded_10 (fun _ => ?_) (fun hh => absurd hz hh)
    refine d_6_0 ?_
    refine d_6_1 ?_
    refine d_6_4 ?_
    obtain ⟨rfl, rfl⟩ := ps2 h; exact hE
  | succ n ih =>
    intro i7 u2 u3 M z2 z3 hi h hE
    rw [L_X11_crowded_7] at h
    have hlt_i7 : i7 < 5 := by omega
    have hcl_i7 : (nI i7).toNatClampNeg = i7 := nI_clamp (by omega)
    have hs : ¬ (5 : Int32) ≤ nI i7 := nI_ge (b := 5) hlt_i7 (by decide)
    have k0 : kd sh 242 = some (10 + 7, 0) := hb1.1
    refine r_iload e_X11_crowded_7 rfl ?_
    refine r_iconst e_X11_crowded_9 ic_5 ?_
    refine r_icmp_ge e_X11_crowded_10 (fun hh => absurd hh hs) (fun _ => ?_)
    refine r_aload_n e_X11_crowded_13 rfl ?_
    refine r_iconst e_X11_crowded_14 ic_5 ?_
    refine r_iload_n e_X11_crowded_15 rfl ?_
    refine r_imul e_X11_crowded_16 ?_
    refine r_iload e_X11_crowded_17 rfl ?_
    refine r_iadd e_X11_crowded_19 ?_
    refine r_iconst e_X11_crowded_20 ic_0 ?_
    obtain ⟨v1, w1, h⟩ := bnd1_el h
    refine cV2v e_X11_crowded_21 cl_X11_252 ⟨Nat.le_of_ble_eq_true rfl, Nat.le_of_ble_eq_true rfl⟩ ⟨rfl, rfl⟩ k0 (Nat.le_of_ble_eq_true rfl) (S_X11_of hb1 w1) ?_
    refine p_istore_6_5 e_X11_crowded_24 rfl rfl ?_
    refine r_iload_n e_X11_crowded_26 rfl ?_
    obtain ⟨v3_0, q3, h⟩ := bd1_el h
    suffices j3 : WP m_X11_crowded _ 40 [some (.ref 242), some (.int x1), some (.int u2), some (.int u3), some (.int (nI i7)), none] [.int v3_0] sh M 0 0 by
      refine r_if_ne e_X11_crowded_27 (fun c2 => ?_) (fun c2 => ?_)
      · rw [if_neg c2] at q3
        refine r_bipush e_X11_crowded_35 bp_14 ?_
        refine r_iload e_X11_crowded_37 rfl ?_
        refine r_isub e_X11_crowded_39 ?_
        refine d_6_5 ?_
        subst q3; exact j3
      · rw [if_pos c2] at q3
        refine r_iload e_X11_crowded_30 rfl ?_
        refine r_goto e_X11_crowded_32 ?_
        refine d_6_5 ?_
        subst q3; exact j3
    refine r_iconst e_X11_crowded_40 ic_2 ?_
    obtain ⟨v5_0, v5_1, q5, h⟩ := bd2_el h
    suffices j5 : WP m_X11_crowded _ 54 [some (.ref 242), some (.int x1), some (.int v5_0), some (.int v5_1), some (.int (nI i7)), none] [] sh M 0 0 by
      refine r_icmp_gt e_X11_crowded_41 (fun c4 => ?_) (fun c4 => ?_)
      · rw [if_pos c4] at q5
        obtain ⟨rfl, rfl⟩ := pe2 q5; exact j5
      · rw [if_neg c4] at q5
        refine p_iinc_6_2 e_X11_crowded_44 rfl ic_1 rfl ?_
        refine r_iconst e_X11_crowded_47 ic_5 ?_
        refine r_iload_n e_X11_crowded_48 rfl ?_
        refine r_imul e_X11_crowded_49 ?_
        refine r_iload e_X11_crowded_50 rfl ?_
        refine r_iadd e_X11_crowded_52 ?_
        obtain ⟨v6, e6, q5⟩ := bd1_el q5
        rw [e6]
        refine p_istore_n_6_3 e_X11_crowded_53 rfl rfl ?_
        obtain ⟨rfl, rfl⟩ := pe2 q5; exact j5
    refine p_iinc_6_4 e_X11_crowded_54 rfl ic_1 rfl ?_
    rw [nI_1 i7]
    refine r_goto e_X11_crowded_57 ?_
    exact ih _ _ _ _ _ _ (by omega) h hE
def R_X11_crowded (x1 : Int32) (mA : Nat) (M : Mem) : Option (Int32) := bnd2 (L_X11_crowded_7 x1 mA 5 0 (0 : Int32) (-1 : Int32) M) (fun v7_0 v7_1 => bd1 (if v7_0 < (4 : Int32) then (-1 : Int32) else v7_1) (fun v9_0 => some v9_0))
theorem S_X11_crowded {sh : List SC} {M : Mem} {x1 : Int32} {mA : Nat} {oA : Nat} {v' : Int32} (hb1 : ModelAt sh mA oA)  (h : R_X11_crowded x1 mA M = some v') : Gv m_X11_crowded [.ref 242, .int x1] sh M (.int v') M := by
  refine Sp.of (ls := [some (.ref 242), some (.int x1), none, none, none, none]) (by decide +kernel) (Nat.le_of_ble_eq_true rfl) rfl ?_
  unfold R_X11_crowded at h
  refine r_iconst e_X11_crowded_0 ic_0 ?_
  refine p_istore_n_6_2 e_X11_crowded_1 rfl rfl ?_
  refine r_iconst e_X11_crowded_2 ic_m1 ?_
  refine p_istore_n_6_3 e_X11_crowded_3 rfl rfl ?_
  refine r_iconst e_X11_crowded_4 ic_0 ?_
  refine p_istore_6_4 e_X11_crowded_5 rfl rfl ?_
  show WP m_X11_crowded _ 7 [some (.ref 242), some (.int x1), some (.int (0 : Int32)), some (.int (-1 : Int32)), some (.int (nI 0)), none] [] sh M 0 0
  obtain ⟨v7_0, v7_1, w7, h⟩ := bnd2_el h
  refine LW_X11_crowded_7 hb1 5 0 _ _ _ _ _ (by omega) w7 ?_
  refine r_iload_n e_X11_crowded_60 rfl ?_
  refine r_iconst e_X11_crowded_61 ic_4 ?_
  obtain ⟨v9_0, q9, h⟩ := bd1_el h
  suffices j9 : WP m_X11_crowded _ 70 [none, none, none, none, none, none] [.int v9_0] sh M 0 0 by
    refine r_icmp_lt e_X11_crowded_62 (fun c8 => ?_) (fun c8 => ?_)
    · rw [if_pos c8] at q9
      refine r_iconst e_X11_crowded_69 ic_m1 ?_
      refine d_6_2 ?_
      refine d_6_3 ?_
      subst q9; exact j9
    · rw [if_neg c8] at q9
      refine r_iload_n e_X11_crowded_65 rfl ?_
      refine r_goto e_X11_crowded_66 ?_
      refine d_6_2 ?_
      refine d_6_3 ?_
      subst q9; exact j9
  refine r_ireturn e_X11_crowded_70 rfl ⟨rfl, rfl⟩ ?_
  obtain rfl := Option.some.inj h; exact ⟨rfl, rfl, rfl⟩
def R_X11_ballOf (x1 : Nat) (x2 : Int32) (x3 : Int32) (n1 : Nat) (M : Mem) : Option (Int32) := ck (x2 + (16 : Int32)) n1 (bnd1 (if 0 ≤ (M.1 x1 (x2 + (16 : Int32)).toNatClampNeg) then (some (0 : Int32)) else (ck (x2 + (17 : Int32)) n1 (if (M.1 x1 (x2 + (17 : Int32)).toNatClampNeg) ≤ 0 then (some (0 : Int32)) else (some (1 : Int32))))) (fun v4_0 => bnd1 (if (3 : Int32) ≤ x3 then (if v4_0 = 0 then (some (0 : Int32)) else (ck ((x2 + (14 : Int32)) + x3) n1 (some (M.1 x1 ((x2 + (14 : Int32)) + x3).toNatClampNeg)))) else (ck ((x2 + (14 : Int32)) + x3) n1 (some (M.1 x1 ((x2 + (14 : Int32)) + x3).toNatClampNeg)))) (fun v10_0 => some v10_0)))
theorem S_X11_ballOf {sh : List SC} {M : Mem} {x1 : Nat} {x2 : Int32} {x3 : Int32} {n1 : Nat} {v' : Int32}  (g1 : kd sh x1 = some (0, n1)) (g2 : n1 < 2 ^ 31) (h : R_X11_ballOf x1 x2 x3 n1 M = some v') : Gv m_X11_ballOf [.ref x1, .int x2, .int x3] sh M (.int v') M := by
  refine Sp.of (ls := [some (.ref x1), some (.int x2), some (.int x3), none]) (by decide +kernel) (Nat.le_of_ble_eq_true rfl) rfl ?_
  unfold R_X11_ballOf at h
  refine r_aload_n e_X11_ballOf_0 rfl ?_
  refine r_iload_n e_X11_ballOf_1 rfl ?_
  refine r_bipush e_X11_ballOf_2 bp_16 ?_
  refine r_iadd e_X11_ballOf_4 ?_
  obtain ⟨b1, h⟩ := ck_el h
  refine r_iaload e_X11_ballOf_5 g1 b1 ?_
  obtain ⟨K4, hK4, h⟩ := bnd1_in h
  suffices j4 : ∀ v4_0, K4 v4_0 = some v' → WP m_X11_ballOf _ 23 [some (.ref x1), some (.int x2), some (.int x3), none] [.int v4_0] sh M 0 0 by
    refine r_if_ge e_X11_ballOf_6 (fun c2 => ?_) (fun c2 => ?_)
    · rw [if_pos c2] at h
      refine r_iconst e_X11_ballOf_22 ic_0 ?_
      exact j4 _ h
    · rw [if_neg c2] at h
      refine r_aload_n e_X11_ballOf_9 rfl ?_
      refine r_iload_n e_X11_ballOf_10 rfl ?_
      refine r_bipush e_X11_ballOf_11 bp_17 ?_
      refine r_iadd e_X11_ballOf_13 ?_
      obtain ⟨b5, h⟩ := ck_elK h
      refine r_iaload e_X11_ballOf_14 g1 b5 ?_
      refine r_if_le e_X11_ballOf_15 (fun c6 => ?_) (fun c6 => ?_)
      · rw [if_pos c6] at h
        refine r_iconst e_X11_ballOf_22 ic_0 ?_
        exact j4 _ h
      · rw [if_neg c6] at h
        refine r_iconst e_X11_ballOf_18 ic_1 ?_
        refine r_goto e_X11_ballOf_19 ?_
        exact j4 _ h
  intro v4_0 h
  rw [hK4] at h
  refine p_istore_n_4_3 e_X11_ballOf_23 rfl rfl ?_
  refine r_iload_n e_X11_ballOf_24 rfl ?_
  refine r_iconst e_X11_ballOf_25 ic_3 ?_
  obtain ⟨K10, hK10, h⟩ := bnd1_in h
  suffices j10 : ∀ v10_0, K10 v10_0 = some v' → WP m_X11_ballOf _ 56 [none, none, none, none] [.int v10_0] sh M 0 0 by
    refine r_icmp_ge e_X11_ballOf_26 (fun c7 => ?_) (fun c7 => ?_)
    · rw [if_pos c7] at h
      refine r_iload_n e_X11_ballOf_40 rfl ?_
      refine r_if_eq e_X11_ballOf_41 (fun c11 => ?_) (fun c11 => ?_)
      · rw [if_pos c11] at h
        refine r_iconst e_X11_ballOf_55 ic_0 ?_
        refine d_4_0 ?_
        refine d_4_1 ?_
        refine d_4_2 ?_
        refine d_4_3 ?_
        exact j10 _ h
      · rw [if_neg c11] at h
        refine r_aload_n e_X11_ballOf_44 rfl ?_
        refine r_iload_n e_X11_ballOf_45 rfl ?_
        refine r_bipush e_X11_ballOf_46 bp_14 ?_
        refine r_iadd e_X11_ballOf_48 ?_
        refine r_iload_n e_X11_ballOf_49 rfl ?_
        refine r_iadd e_X11_ballOf_50 ?_
        obtain ⟨b12, h⟩ := ck_elK h
        refine r_iaload e_X11_ballOf_51 g1 b12 ?_
        refine r_goto e_X11_ballOf_52 ?_
        refine d_4_0 ?_
        refine d_4_1 ?_
        refine d_4_2 ?_
        refine d_4_3 ?_
        exact j10 _ h
    · rw [if_neg c7] at h
      refine r_aload_n e_X11_ballOf_29 rfl ?_
      refine r_iload_n e_X11_ballOf_30 rfl ?_
      refine r_bipush e_X11_ballOf_31 bp_14 ?_
      refine r_iadd e_X11_ballOf_33 ?_
      refine r_iload_n e_X11_ballOf_34 rfl ?_
      refine r_iadd e_X11_ballOf_35 ?_
      obtain ⟨b13, h⟩ := ck_elK h
      refine r_iaload e_X11_ballOf_36 g1 b13 ?_
      refine r_goto e_X11_ballOf_37 ?_
      refine d_4_0 ?_
      refine d_4_1 ?_
      refine d_4_2 ?_
      refine d_4_3 ?_
      exact j10 _ h
  intro v10_0 h
  rw [hK10] at h
  refine r_ireturn e_X11_ballOf_56 rfl ⟨rfl, rfl⟩ ?_
  obtain rfl := Option.some.inj h; exact ⟨rfl, rfl, rfl⟩
def R_X11_robot (x1 : Int32) (x2 : Int32) (mA : Nat) (M : Mem) : Option (Int32 × Mem) := if (V_X11_isMatch  mA M) = 0 then (bnd2 (R_X11_finding (-1003 : Int32) mA M) (fun v7 M7 => some (v7, M7))) else (if (V_X11_in x1 (0 : Int32) (9 : Int32) M) = 0 then (bnd2 (R_X11_finding (-1001 : Int32) mA M) (fun v3 M3 => some (v3, M3))) else (if (V_X11_in x2 (0 : Int32) (10 : Int32) M) = 0 then (bnd2 (R_X11_finding (-1001 : Int32) mA M) (fun v6 M6 => some (v6, M6))) else (bnd1 (R_X11_of x1 x2 mA M) (fun v5 => some (v5, M)))))
theorem S_X11_robot {sh : List SC} {M : Mem} {x1 : Int32} {x2 : Int32} {mA : Nat} {oA : Nat} {v' : Int32} {M' : Mem} (hb1 : ModelAt sh mA oA)  (h : R_X11_robot x1 x2 mA M = some (v', M')) : Gv m_X11_robot [.ref 242, .int x1, .int x2] sh M (.int v') M' := by
  refine Sp.of (ls := [some (.ref 242), some (.int x1), some (.int x2)]) (by decide +kernel) (Nat.le_of_ble_eq_true rfl) rfl ?_
  have k0 : kd sh 242 = some (10 + 7, 0) := hb1.1
  unfold R_X11_robot at h
  refine r_aload_n e_X11_robot_0 rfl ?_
  refine cV0v e_X11_robot_1 cl_X11_394 ⟨Nat.le_of_ble_eq_true rfl, Nat.le_of_ble_eq_true rfl⟩ ⟨rfl, rfl⟩ k0 (Nat.le_of_ble_eq_true rfl) (S_X11_isMatch hb1) ?_
  refine r_if_ne e_X11_robot_4 (fun c1 => ?_) (fun c1 => ?_)
  · rw [if_neg c1] at h
    refine r_iload_n e_X11_robot_15 rfl ?_
    refine r_iconst e_X11_robot_16 ic_0 ?_
    refine r_bipush e_X11_robot_17 bp_9 ?_
    refine cS3v e_X11_robot_19 cl_X11_245 ⟨Nat.le_of_ble_eq_true rfl, Nat.le_of_ble_eq_true rfl⟩ ⟨rfl, rfl⟩  (Nat.le_of_ble_eq_true rfl) (S_X11_in ) ?_
    refine r_if_eq e_X11_robot_22 (fun c2 => ?_) (fun c2 => ?_)
    · rw [if_pos c2] at h
      refine r_aload_n e_X11_robot_35 rfl ?_
      refine r_sipush e_X11_robot_36 sp_m1001 ?_
      obtain ⟨v3, M3, w3, h⟩ := bnd2_el h
      refine cV1v e_X11_robot_39 cl_X11_178 ⟨Nat.le_of_ble_eq_true rfl, Nat.le_of_ble_eq_true rfl⟩ ⟨rfl, rfl⟩ k0 (Nat.le_of_ble_eq_true rfl) (S_X11_finding hb1 w3) ?_
      refine r_ireturn e_X11_robot_42 rfl ⟨rfl, rfl⟩ ?_
      obtain ⟨rfl, rfl⟩ := ps2 h; exact ⟨rfl, rfl, rfl⟩
    · rw [if_neg c2] at h
      refine r_iload_n e_X11_robot_25 rfl ?_
      refine r_iconst e_X11_robot_26 ic_0 ?_
      refine r_bipush e_X11_robot_27 bp_10 ?_
      refine cS3v e_X11_robot_29 cl_X11_245 ⟨Nat.le_of_ble_eq_true rfl, Nat.le_of_ble_eq_true rfl⟩ ⟨rfl, rfl⟩  (Nat.le_of_ble_eq_true rfl) (S_X11_in ) ?_
      refine r_if_ne e_X11_robot_32 (fun c4 => ?_) (fun c4 => ?_)
      · rw [if_neg c4] at h
        refine r_aload_n e_X11_robot_43 rfl ?_
        refine r_iload_n e_X11_robot_44 rfl ?_
        refine r_iload_n e_X11_robot_45 rfl ?_
        obtain ⟨v5, w5, h⟩ := bnd1_el h
        refine cV2v e_X11_robot_46 cl_X11_252 ⟨Nat.le_of_ble_eq_true rfl, Nat.le_of_ble_eq_true rfl⟩ ⟨rfl, rfl⟩ k0 (Nat.le_of_ble_eq_true rfl) (S_X11_of hb1 w5) ?_
        refine r_ireturn e_X11_robot_49 rfl ⟨rfl, rfl⟩ ?_
        obtain ⟨rfl, rfl⟩ := ps2 h; exact ⟨rfl, rfl, rfl⟩
      · rw [if_pos c4] at h
        refine r_aload_n e_X11_robot_35 rfl ?_
        refine r_sipush e_X11_robot_36 sp_m1001 ?_
        obtain ⟨v6, M6, w6, h⟩ := bnd2_el h
        refine cV1v e_X11_robot_39 cl_X11_178 ⟨Nat.le_of_ble_eq_true rfl, Nat.le_of_ble_eq_true rfl⟩ ⟨rfl, rfl⟩ k0 (Nat.le_of_ble_eq_true rfl) (S_X11_finding hb1 w6) ?_
        refine r_ireturn e_X11_robot_42 rfl ⟨rfl, rfl⟩ ?_
        obtain ⟨rfl, rfl⟩ := ps2 h; exact ⟨rfl, rfl, rfl⟩
  · rw [if_pos c1] at h
    refine r_aload_n e_X11_robot_7 rfl ?_
    refine r_sipush e_X11_robot_8 sp_m1003 ?_
    obtain ⟨v7, M7, w7, h⟩ := bnd2_el h
    refine cV1v e_X11_robot_11 cl_X11_178 ⟨Nat.le_of_ble_eq_true rfl, Nat.le_of_ble_eq_true rfl⟩ ⟨rfl, rfl⟩ k0 (Nat.le_of_ble_eq_true rfl) (S_X11_finding hb1 w7) ?_
    refine r_ireturn e_X11_robot_14 rfl ⟨rfl, rfl⟩ ?_
    obtain ⟨rfl, rfl⟩ := ps2 h; exact ⟨rfl, rfl, rfl⟩
def R_X11_score (x1 : Int32) (mA : Nat) (M : Mem) : Option (Int32 × Mem) := if (V_X11_isMatch  mA M) = 0 then (bnd2 (R_X11_finding (-1003 : Int32) mA M) (fun v7 M7 => some (v7, M7))) else (bnd2 (if (V_X11_in x1 (0 : Int32) (8 : Int32) M) = 0 then (bnd2 (R_X11_finding (-1001 : Int32) mA M) (fun v5 M5 => (some (v5, M5)))) else (ck ((3 : Int32) + x1) 212 (some ((M.1 mA ((3 : Int32) + x1).toNatClampNeg), M)))) (fun v4_0 M4 => some (v4_0, M4)))
theorem S_X11_score {sh : List SC} {M : Mem} {x1 : Int32} {mA : Nat} {oA : Nat} {v' : Int32} {M' : Mem} (hb1 : ModelAt sh mA oA)  (h : R_X11_score x1 mA M = some (v', M')) : Gv m_X11_score [.ref 242, .int x1] sh M (.int v') M' := by
  refine Sp.of (ls := [some (.ref 242), some (.int x1)]) (by decide +kernel) (Nat.le_of_ble_eq_true rfl) rfl ?_
  have k0 : kd sh 242 = some (10 + 7, 0) := hb1.1
  have k1 : rf sh 242 27 = some mA := hb1.2.2.2.2.2.2.2.2.2.2.2.2.2.2.2.2.2.1
  have k2 : kd sh mA = some (0, 212) := hb1.2.2.2.2.2.2.2.2.2.2.2.2.2.2.2.2.2.2.2.2.2.2.2.2.2.2.2.2.2.2.2.2.2.2.2.2.2.2.2.2.2.2.2.2.2.2.2.2.2.2.2.1
  unfold R_X11_score at h
  refine r_aload_n e_X11_score_0 rfl ?_
  refine cV0v e_X11_score_1 cl_X11_394 ⟨Nat.le_of_ble_eq_true rfl, Nat.le_of_ble_eq_true rfl⟩ ⟨rfl, rfl⟩ k0 (Nat.le_of_ble_eq_true rfl) (S_X11_isMatch hb1) ?_
  refine r_if_ne e_X11_score_4 (fun c1 => ?_) (fun c1 => ?_)
  · rw [if_neg c1] at h
    refine r_iload_n e_X11_score_15 rfl ?_
    refine r_iconst e_X11_score_16 ic_0 ?_
    refine r_bipush e_X11_score_17 bp_8 ?_
    refine cS3v e_X11_score_19 cl_X11_245 ⟨Nat.le_of_ble_eq_true rfl, Nat.le_of_ble_eq_true rfl⟩ ⟨rfl, rfl⟩  (Nat.le_of_ble_eq_true rfl) (S_X11_in ) ?_
    obtain ⟨K4, hK4, h⟩ := bnd2_in h
    suffices j4 : ∀ v4_0 M4, K4 (v4_0, M4) = some (v', M') → WP m_X11_score _ 43 [none, none] [.int v4_0] sh M4 0 0 by
      refine r_if_eq e_X11_score_22 (fun c2 => ?_) (fun c2 => ?_)
      · rw [if_pos c2] at h
        refine r_aload_n e_X11_score_36 rfl ?_
        refine r_sipush e_X11_score_37 sp_m1001 ?_
        obtain ⟨v5, M5, w5, h⟩ := bnd2_elK h
        refine cV1v e_X11_score_40 cl_X11_178 ⟨Nat.le_of_ble_eq_true rfl, Nat.le_of_ble_eq_true rfl⟩ ⟨rfl, rfl⟩ k0 (Nat.le_of_ble_eq_true rfl) (S_X11_finding hb1 w5) ?_
        refine d_2_0 ?_
        refine d_2_1 ?_
        exact j4 _ _ h
      · rw [if_neg c2] at h
        refine r_aload_n e_X11_score_25 rfl ?_
        refine r_getR e_X11_score_26 fl_X11_212 k0 k1 ?_
        refine r_iconst e_X11_score_29 ic_3 ?_
        refine r_iload_n e_X11_score_30 rfl ?_
        refine r_iadd e_X11_score_31 ?_
        obtain ⟨b6, h⟩ := ck_elK h
        refine r_iaload e_X11_score_32 k2 b6 ?_
        refine r_goto e_X11_score_33 ?_
        refine d_2_0 ?_
        refine d_2_1 ?_
        exact j4 _ _ h
    intro v4_0 M4 h
    rw [hK4] at h
    refine r_ireturn e_X11_score_43 rfl ⟨rfl, rfl⟩ ?_
    obtain ⟨rfl, rfl⟩ := ps2 h; exact ⟨rfl, rfl, rfl⟩
  · rw [if_pos c1] at h
    refine r_aload_n e_X11_score_7 rfl ?_
    refine r_sipush e_X11_score_8 sp_m1003 ?_
    obtain ⟨v7, M7, w7, h⟩ := bnd2_el h
    refine cV1v e_X11_score_11 cl_X11_178 ⟨Nat.le_of_ble_eq_true rfl, Nat.le_of_ble_eq_true rfl⟩ ⟨rfl, rfl⟩ k0 (Nat.le_of_ble_eq_true rfl) (S_X11_finding hb1 w7) ?_
    refine r_ireturn e_X11_score_14 rfl ⟨rfl, rfl⟩ ?_
    obtain ⟨rfl, rfl⟩ := ps2 h; exact ⟨rfl, rfl, rfl⟩
def R_X11_goal (x1 : Int32) (mA : Nat) (M : Mem) : Option (Int32 × Mem) := if (V_X11_isMatch  mA M) = 0 then (bnd2 (R_X11_finding (-1003 : Int32) mA M) (fun v7 M7 => some (v7, M7))) else (bnd2 (if (V_X11_in x1 (0 : Int32) ((M.1 mA 12) - (1 : Int32)) M) = 0 then (bnd2 (R_X11_finding (-1004 : Int32) mA M) (fun v5 M5 => (some (v5, M5)))) else (ck ((24 : Int32) + x1) 212 (some ((M.1 mA ((24 : Int32) + x1).toNatClampNeg), M)))) (fun v4_0 M4 => some (v4_0, M4)))
theorem S_X11_goal {sh : List SC} {M : Mem} {x1 : Int32} {mA : Nat} {oA : Nat} {v' : Int32} {M' : Mem} (hb1 : ModelAt sh mA oA)  (h : R_X11_goal x1 mA M = some (v', M')) : Gv m_X11_goal [.ref 242, .int x1] sh M (.int v') M' := by
  refine Sp.of (ls := [some (.ref 242), some (.int x1)]) (by decide +kernel) (Nat.le_of_ble_eq_true rfl) rfl ?_
  have k0 : kd sh 242 = some (10 + 7, 0) := hb1.1
  have k1 : rf sh 242 27 = some mA := hb1.2.2.2.2.2.2.2.2.2.2.2.2.2.2.2.2.2.1
  have k2 : kd sh mA = some (0, 212) := hb1.2.2.2.2.2.2.2.2.2.2.2.2.2.2.2.2.2.2.2.2.2.2.2.2.2.2.2.2.2.2.2.2.2.2.2.2.2.2.2.2.2.2.2.2.2.2.2.2.2.2.2.1
  unfold R_X11_goal at h
  refine r_aload_n e_X11_goal_0 rfl ?_
  refine cV0v e_X11_goal_1 cl_X11_394 ⟨Nat.le_of_ble_eq_true rfl, Nat.le_of_ble_eq_true rfl⟩ ⟨rfl, rfl⟩ k0 (Nat.le_of_ble_eq_true rfl) (S_X11_isMatch hb1) ?_
  refine r_if_ne e_X11_goal_4 (fun c1 => ?_) (fun c1 => ?_)
  · rw [if_neg c1] at h
    refine r_iload_n e_X11_goal_15 rfl ?_
    refine r_iconst e_X11_goal_16 ic_0 ?_
    refine r_aload_n e_X11_goal_17 rfl ?_
    refine r_getR e_X11_goal_18 fl_X11_212 k0 k1 ?_
    refine r_bipush e_X11_goal_21 bp_12 ?_
    refine r_ialoade (v := (M.1 mA 12)) e_X11_goal_23 k2 (by unfold vp_in; decide) (show M.1 mA (12 : Int32).toNatClampNeg = M.1 mA 12 by rw [show (12 : Int32).toNatClampNeg = 12 from rfl]) ?_
    refine r_iconst e_X11_goal_24 ic_1 ?_
    refine r_isub e_X11_goal_25 ?_
    refine cS3v e_X11_goal_26 cl_X11_245 ⟨Nat.le_of_ble_eq_true rfl, Nat.le_of_ble_eq_true rfl⟩ ⟨rfl, rfl⟩  (Nat.le_of_ble_eq_true rfl) (S_X11_in ) ?_
    obtain ⟨K4, hK4, h⟩ := bnd2_in h
    suffices j4 : ∀ v4_0 M4, K4 (v4_0, M4) = some (v', M') → WP m_X11_goal _ 51 [none, none] [.int v4_0] sh M4 0 0 by
      refine r_if_eq e_X11_goal_29 (fun c2 => ?_) (fun c2 => ?_)
      · rw [if_pos c2] at h
        refine r_aload_n e_X11_goal_44 rfl ?_
        refine r_sipush e_X11_goal_45 sp_m1004 ?_
        obtain ⟨v5, M5, w5, h⟩ := bnd2_elK h
        refine cV1v e_X11_goal_48 cl_X11_178 ⟨Nat.le_of_ble_eq_true rfl, Nat.le_of_ble_eq_true rfl⟩ ⟨rfl, rfl⟩ k0 (Nat.le_of_ble_eq_true rfl) (S_X11_finding hb1 w5) ?_
        refine d_2_0 ?_
        refine d_2_1 ?_
        exact j4 _ _ h
      · rw [if_neg c2] at h
        refine r_aload_n e_X11_goal_32 rfl ?_
        refine r_getR e_X11_goal_33 fl_X11_212 k0 k1 ?_
        refine r_bipush e_X11_goal_36 bp_24 ?_
        refine r_iload_n e_X11_goal_38 rfl ?_
        refine r_iadd e_X11_goal_39 ?_
        obtain ⟨b6, h⟩ := ck_elK h
        refine r_iaload e_X11_goal_40 k2 b6 ?_
        refine r_goto e_X11_goal_41 ?_
        refine d_2_0 ?_
        refine d_2_1 ?_
        exact j4 _ _ h
    intro v4_0 M4 h
    rw [hK4] at h
    refine r_ireturn e_X11_goal_51 rfl ⟨rfl, rfl⟩ ?_
    obtain ⟨rfl, rfl⟩ := ps2 h; exact ⟨rfl, rfl, rfl⟩
  · rw [if_pos c1] at h
    refine r_aload_n e_X11_goal_7 rfl ?_
    refine r_sipush e_X11_goal_8 sp_m1003 ?_
    obtain ⟨v7, M7, w7, h⟩ := bnd2_el h
    refine cV1v e_X11_goal_11 cl_X11_178 ⟨Nat.le_of_ble_eq_true rfl, Nat.le_of_ble_eq_true rfl⟩ ⟨rfl, rfl⟩ k0 (Nat.le_of_ble_eq_true rfl) (S_X11_finding hb1 w7) ?_
    refine r_ireturn e_X11_goal_14 rfl ⟨rfl, rfl⟩ ?_
    obtain ⟨rfl, rfl⟩ := ps2 h; exact ⟨rfl, rfl, rfl⟩
def L_X11_keep_34 (x1 : Int32) (mA : Nat) : Nat → Nat → Mem → Option (Mem)
  | 0, i34, M => some M
  | n + 1, i34, M => ck (((212 : Int32) * x1) + (nI i34)) 424 (L_X11_keep_34 x1 mA n (i34 + 1) (setI M 261 (((212 : Int32) * x1) + (nI i34)).toNatClampNeg (M.1 mA i34)))
theorem LW_X11_keep_34 {sh : List SC} {Q : Po} {x1 : Int32} {mA : Nat} {oA : Nat}  (hb1 : ModelAt sh mA oA)  : ∀ (n i34 : Nat) (M : Mem) (Mz : Mem), i34 + n = 212 → L_X11_keep_34 x1 mA n i34 M = some Mz → WP m_X11_keep Q 65 [none, none, none] [] sh Mz 0 0 → WP m_X11_keep Q 34 [some (.ref 242), some (.int x1), some (.int (nI i34))] [] sh M 0 0 := by
  intro n
  induction n with
  | zero =>
    intro i34 M Mz hi h hE
    rw [L_X11_keep_34] at h
    have hz : (212 : Int32) ≤ nI i34 := by
      have q : i34 = 212 := by omega
      rw [q]; exact nI_le (Nat.le_refl _) (by decide)
    refine r_iload_n e_X11_keep_34 rfl ?_
    refine r_sipush e_X11_keep_35 sp_212 ?_
    refine r_icmp_ge e_X11_keep_38 (fun _ => ?_) (fun hh => absurd hz hh)
    refine d_3_0 ?_
    refine d_3_1 ?_
    refine d_3_2 ?_
    obtain rfl := Option.some.inj h; exact hE
  | succ n ih =>
    intro i34 M Mz hi h hE
    rw [L_X11_keep_34] at h
    have hlt_i34 : i34 < 212 := by omega
    have hcl_i34 : (nI i34).toNatClampNeg = i34 := nI_clamp (by omega)
    have hs : ¬ (212 : Int32) ≤ nI i34 := nI_ge (b := 212) hlt_i34 (by decide)
    have k0 : kd sh 242 = some (10 + 7, 0) := hb1.1
    have k1 : rf sh 242 29 = some 261 := hb1.2.2.2.2.2.2.2.2.2.2.2.2.2.2.2.2.2.2.2.1
    have k2 : kd sh 261 = some (0, 424) := hb1.2.2.2.2.2.2.2.2.2.2.2.2.2.2.2.2.2.2.2.2.2.2.2.2.2.2.2.2.2.2.2.2.2.2.2.2.2.2.2.2.2.2.2.1
    have k3 : rf sh 242 27 = some mA := hb1.2.2.2.2.2.2.2.2.2.2.2.2.2.2.2.2.2.1
    have k4 : kd sh mA = some (0, 212) := hb1.2.2.2.2.2.2.2.2.2.2.2.2.2.2.2.2.2.2.2.2.2.2.2.2.2.2.2.2.2.2.2.2.2.2.2.2.2.2.2.2.2.2.2.2.2.2.2.2.2.2.2.1
    refine r_iload_n e_X11_keep_34 rfl ?_
    refine r_sipush e_X11_keep_35 sp_212 ?_
    refine r_icmp_ge e_X11_keep_38 (fun hh => absurd hh hs) (fun _ => ?_)
    refine r_aload_n e_X11_keep_41 rfl ?_
    refine r_getR e_X11_keep_42 fl_X11_218 k0 k1 ?_
    refine r_sipush e_X11_keep_45 sp_212 ?_
    refine r_iload_n e_X11_keep_48 rfl ?_
    refine r_imul e_X11_keep_49 ?_
    refine r_iload_n e_X11_keep_50 rfl ?_
    refine r_iadd e_X11_keep_51 ?_
    refine r_aload_n e_X11_keep_52 rfl ?_
    refine r_getR e_X11_keep_53 fl_X11_212 k0 k3 ?_
    refine r_iload_n e_X11_keep_56 rfl ?_
    refine r_ialoade (v := (M.1 mA i34)) e_X11_keep_57 k4 (vp_in_nI (Nat.lt_of_lt_of_le hlt_i34 (by decide)) (by decide)) (by rw [hcl_i34]) ?_
    obtain ⟨b3, h⟩ := ck_el h
    refine r_iastore e_X11_keep_58 k2 b3 ?_
    refine p_iinc_3_2 e_X11_keep_59 rfl ic_1 rfl ?_
    rw [nI_1 i34]
    refine r_goto e_X11_keep_62 ?_
    exact ih _  _ _ (by omega) h hE
def R_X11_keep (x1 : Int32) (mA : Nat) (M : Mem) : Option (Int32 × Mem) := if (V_X11_in x1 (0 : Int32) (1 : Int32) M) = 0 then (bnd2 (R_X11_finding (-1001 : Int32) mA M) (fun v6 M6 => some (v6, M6))) else (if (V_X11_isMatch  mA M) = 0 then (bnd2 (R_X11_finding (-1003 : Int32) mA M) (fun v5 M5 => some (v5, M5))) else (bnd1 (L_X11_keep_34 x1 mA 212 0 M) (fun M4 => some ((1 : Int32), M4))))
theorem S_X11_keep {sh : List SC} {M : Mem} {x1 : Int32} {mA : Nat} {oA : Nat} {v' : Int32} {M' : Mem} (hb1 : ModelAt sh mA oA)  (h : R_X11_keep x1 mA M = some (v', M')) : Gv m_X11_keep [.ref 242, .int x1] sh M (.int v') M' := by
  refine Sp.of (ls := [some (.ref 242), some (.int x1), none]) (by decide +kernel) (Nat.le_of_ble_eq_true rfl) rfl ?_
  have k0 : kd sh 242 = some (10 + 7, 0) := hb1.1
  unfold R_X11_keep at h
  refine r_iload_n e_X11_keep_0 rfl ?_
  refine r_iconst e_X11_keep_1 ic_0 ?_
  refine r_iconst e_X11_keep_2 ic_1 ?_
  refine cS3v e_X11_keep_3 cl_X11_245 ⟨Nat.le_of_ble_eq_true rfl, Nat.le_of_ble_eq_true rfl⟩ ⟨rfl, rfl⟩  (Nat.le_of_ble_eq_true rfl) (S_X11_in ) ?_
  refine r_if_ne e_X11_keep_6 (fun c1 => ?_) (fun c1 => ?_)
  · rw [if_neg c1] at h
    refine r_aload_n e_X11_keep_17 rfl ?_
    refine cV0v e_X11_keep_18 cl_X11_394 ⟨Nat.le_of_ble_eq_true rfl, Nat.le_of_ble_eq_true rfl⟩ ⟨rfl, rfl⟩ k0 (Nat.le_of_ble_eq_true rfl) (S_X11_isMatch hb1) ?_
    refine r_if_ne e_X11_keep_21 (fun c2 => ?_) (fun c2 => ?_)
    · rw [if_neg c2] at h
      refine r_iconst e_X11_keep_32 ic_0 ?_
      refine p_istore_n_3_2 e_X11_keep_33 rfl rfl ?_
      show WP m_X11_keep _ 34 [some (.ref 242), some (.int x1), some (.int (nI 0))] [] sh M 0 0
      obtain ⟨M4, w4, h⟩ := bnd1_el h
      refine LW_X11_keep_34 hb1 212 0 _ _ (by omega) w4 ?_
      refine r_iconst e_X11_keep_65 ic_1 ?_
      refine r_ireturn e_X11_keep_66 rfl ⟨rfl, rfl⟩ ?_
      obtain ⟨rfl, rfl⟩ := ps2 h; exact ⟨rfl, rfl, rfl⟩
    · rw [if_pos c2] at h
      refine r_aload_n e_X11_keep_24 rfl ?_
      refine r_sipush e_X11_keep_25 sp_m1003 ?_
      obtain ⟨v5, M5, w5, h⟩ := bnd2_el h
      refine cV1v e_X11_keep_28 cl_X11_178 ⟨Nat.le_of_ble_eq_true rfl, Nat.le_of_ble_eq_true rfl⟩ ⟨rfl, rfl⟩ k0 (Nat.le_of_ble_eq_true rfl) (S_X11_finding hb1 w5) ?_
      refine r_ireturn e_X11_keep_31 rfl ⟨rfl, rfl⟩ ?_
      obtain ⟨rfl, rfl⟩ := ps2 h; exact ⟨rfl, rfl, rfl⟩
  · rw [if_pos c1] at h
    refine r_aload_n e_X11_keep_9 rfl ?_
    refine r_sipush e_X11_keep_10 sp_m1001 ?_
    obtain ⟨v6, M6, w6, h⟩ := bnd2_el h
    refine cV1v e_X11_keep_13 cl_X11_178 ⟨Nat.le_of_ble_eq_true rfl, Nat.le_of_ble_eq_true rfl⟩ ⟨rfl, rfl⟩ k0 (Nat.le_of_ble_eq_true rfl) (S_X11_finding hb1 w6) ?_
    refine r_ireturn e_X11_keep_16 rfl ⟨rfl, rfl⟩ ?_
    obtain ⟨rfl, rfl⟩ := ps2 h; exact ⟨rfl, rfl, rfl⟩
def L_X11_back_40 (x1 : Int32) (mA : Nat) : Nat → Nat → Mem → Option (Mem)
  | 0, i40, M => some M
  | n + 1, i40, M => ck (((212 : Int32) * x1) + (nI i40)) 424 (L_X11_back_40 x1 mA n (i40 + 1) (setI M mA i40 (M.1 261 (((212 : Int32) * x1) + (nI i40)).toNatClampNeg)))
theorem LW_X11_back_40 {sh : List SC} {Q : Po} {x1 : Int32} {mA : Nat} {oA : Nat}  (hb1 : ModelAt sh mA oA)  : ∀ (n i40 : Nat) (M : Mem) (Mz : Mem), i40 + n = 212 → L_X11_back_40 x1 mA n i40 M = some Mz → WP m_X11_back Q 71 [some (.ref 242), none, none] [] sh Mz 0 0 → WP m_X11_back Q 40 [some (.ref 242), some (.int x1), some (.int (nI i40))] [] sh M 0 0 := by
  intro n
  induction n with
  | zero =>
    intro i40 M Mz hi h hE
    rw [L_X11_back_40] at h
    have hz : (212 : Int32) ≤ nI i40 := by
      have q : i40 = 212 := by omega
      rw [q]; exact nI_le (Nat.le_refl _) (by decide)
    refine r_iload_n e_X11_back_40 rfl ?_
    refine r_sipush e_X11_back_41 sp_212 ?_
    refine r_icmp_ge e_X11_back_44 (fun _ => ?_) (fun hh => absurd hz hh)
    refine d_3_1 ?_
    refine d_3_2 ?_
    obtain rfl := Option.some.inj h; exact hE
  | succ n ih =>
    intro i40 M Mz hi h hE
    rw [L_X11_back_40] at h
    have hlt_i40 : i40 < 212 := by omega
    have hcl_i40 : (nI i40).toNatClampNeg = i40 := nI_clamp (by omega)
    have hs : ¬ (212 : Int32) ≤ nI i40 := nI_ge (b := 212) hlt_i40 (by decide)
    have k0 : kd sh 242 = some (10 + 7, 0) := hb1.1
    have k1 : rf sh 242 27 = some mA := hb1.2.2.2.2.2.2.2.2.2.2.2.2.2.2.2.2.2.1
    have k2 : kd sh mA = some (0, 212) := hb1.2.2.2.2.2.2.2.2.2.2.2.2.2.2.2.2.2.2.2.2.2.2.2.2.2.2.2.2.2.2.2.2.2.2.2.2.2.2.2.2.2.2.2.2.2.2.2.2.2.2.2.1
    have k3 : rf sh 242 29 = some 261 := hb1.2.2.2.2.2.2.2.2.2.2.2.2.2.2.2.2.2.2.2.1
    have k4 : kd sh 261 = some (0, 424) := hb1.2.2.2.2.2.2.2.2.2.2.2.2.2.2.2.2.2.2.2.2.2.2.2.2.2.2.2.2.2.2.2.2.2.2.2.2.2.2.2.2.2.2.2.1
    refine r_iload_n e_X11_back_40 rfl ?_
    refine r_sipush e_X11_back_41 sp_212 ?_
    refine r_icmp_ge e_X11_back_44 (fun hh => absurd hh hs) (fun _ => ?_)
    refine r_aload_n e_X11_back_47 rfl ?_
    refine r_getR e_X11_back_48 fl_X11_212 k0 k1 ?_
    refine r_iload_n e_X11_back_51 rfl ?_
    refine r_aload_n e_X11_back_52 rfl ?_
    refine r_getR e_X11_back_53 fl_X11_218 k0 k3 ?_
    refine r_sipush e_X11_back_56 sp_212 ?_
    refine r_iload_n e_X11_back_59 rfl ?_
    refine r_imul e_X11_back_60 ?_
    refine r_iload_n e_X11_back_61 rfl ?_
    refine r_iadd e_X11_back_62 ?_
    obtain ⟨b4, h⟩ := ck_el h
    refine r_iaload e_X11_back_63 k4 b4 ?_
    refine r_iastore e_X11_back_64 k2 (vp_in_nI (Nat.lt_of_lt_of_le hlt_i40 (by decide)) (by decide)) ?_
    rw [hcl_i40]
    refine p_iinc_3_2 e_X11_back_65 rfl ic_1 rfl ?_
    rw [nI_1 i40]
    refine r_goto e_X11_back_68 ?_
    exact ih _  _ _ (by omega) h hE
def R_X11_back (x1 : Int32) (mA : Nat) (M : Mem) : Option (Int32 × Mem) := if (V_X11_in x1 (0 : Int32) (1 : Int32) M) = 0 then (bnd2 (R_X11_finding (-1001 : Int32) mA M) (fun v7 M7 => some (v7, M7))) else (ck ((212 : Int32) * x1) 424 (if (M.1 261 ((212 : Int32) * x1).toNatClampNeg) = 0 then (bnd2 (R_X11_finding (-1004 : Int32) mA M) (fun v6 M6 => some (v6, M6))) else (bnd1 (L_X11_back_40 x1 mA 212 0 M) (fun M5 => some ((M5.1 mA 3), M5)))))
theorem S_X11_back {sh : List SC} {M : Mem} {x1 : Int32} {mA : Nat} {oA : Nat} {v' : Int32} {M' : Mem} (hb1 : ModelAt sh mA oA)  (h : R_X11_back x1 mA M = some (v', M')) : Gv m_X11_back [.ref 242, .int x1] sh M (.int v') M' := by
  refine Sp.of (ls := [some (.ref 242), some (.int x1), none]) (by decide +kernel) (Nat.le_of_ble_eq_true rfl) rfl ?_
  have k0 : kd sh 242 = some (10 + 7, 0) := hb1.1
  have k1 : rf sh 242 29 = some 261 := hb1.2.2.2.2.2.2.2.2.2.2.2.2.2.2.2.2.2.2.2.1
  have k2 : kd sh 261 = some (0, 424) := hb1.2.2.2.2.2.2.2.2.2.2.2.2.2.2.2.2.2.2.2.2.2.2.2.2.2.2.2.2.2.2.2.2.2.2.2.2.2.2.2.2.2.2.2.1
  have k3 : rf sh 242 27 = some mA := hb1.2.2.2.2.2.2.2.2.2.2.2.2.2.2.2.2.2.1
  have k4 : kd sh mA = some (0, 212) := hb1.2.2.2.2.2.2.2.2.2.2.2.2.2.2.2.2.2.2.2.2.2.2.2.2.2.2.2.2.2.2.2.2.2.2.2.2.2.2.2.2.2.2.2.2.2.2.2.2.2.2.2.1
  unfold R_X11_back at h
  refine r_iload_n e_X11_back_0 rfl ?_
  refine r_iconst e_X11_back_1 ic_0 ?_
  refine r_iconst e_X11_back_2 ic_1 ?_
  refine cS3v e_X11_back_3 cl_X11_245 ⟨Nat.le_of_ble_eq_true rfl, Nat.le_of_ble_eq_true rfl⟩ ⟨rfl, rfl⟩  (Nat.le_of_ble_eq_true rfl) (S_X11_in ) ?_
  refine r_if_ne e_X11_back_6 (fun c1 => ?_) (fun c1 => ?_)
  · rw [if_neg c1] at h
    refine r_aload_n e_X11_back_17 rfl ?_
    refine r_getR e_X11_back_18 fl_X11_218 k0 k1 ?_
    refine r_sipush e_X11_back_21 sp_212 ?_
    refine r_iload_n e_X11_back_24 rfl ?_
    refine r_imul e_X11_back_25 ?_
    obtain ⟨b2, h⟩ := ck_el h
    refine r_iaload e_X11_back_26 k2 b2 ?_
    refine r_if_ne e_X11_back_27 (fun c3 => ?_) (fun c3 => ?_)
    · rw [if_neg c3] at h
      refine r_iconst e_X11_back_38 ic_0 ?_
      refine p_istore_n_3_2 e_X11_back_39 rfl rfl ?_
      show WP m_X11_back _ 40 [some (.ref 242), some (.int x1), some (.int (nI 0))] [] sh M 0 0
      obtain ⟨M5, w5, h⟩ := bnd1_el h
      refine LW_X11_back_40 hb1 212 0 _ _ (by omega) w5 ?_
      refine r_aload_n e_X11_back_71 rfl ?_
      refine r_getR e_X11_back_72 fl_X11_212 k0 k3 ?_
      refine r_iconst e_X11_back_75 ic_3 ?_
      refine r_ialoade (v := (M5.1 mA 3)) e_X11_back_76 k4 (by unfold vp_in; decide) (show M5.1 mA (3 : Int32).toNatClampNeg = M5.1 mA 3 by rw [show (3 : Int32).toNatClampNeg = 3 from rfl]) ?_
      refine r_ireturn e_X11_back_77 rfl ⟨rfl, rfl⟩ ?_
      obtain ⟨rfl, rfl⟩ := ps2 h; exact ⟨rfl, rfl, rfl⟩
    · rw [if_pos c3] at h
      refine r_aload_n e_X11_back_30 rfl ?_
      refine r_sipush e_X11_back_31 sp_m1004 ?_
      obtain ⟨v6, M6, w6, h⟩ := bnd2_el h
      refine cV1v e_X11_back_34 cl_X11_178 ⟨Nat.le_of_ble_eq_true rfl, Nat.le_of_ble_eq_true rfl⟩ ⟨rfl, rfl⟩ k0 (Nat.le_of_ble_eq_true rfl) (S_X11_finding hb1 w6) ?_
      refine r_ireturn e_X11_back_37 rfl ⟨rfl, rfl⟩ ?_
      obtain ⟨rfl, rfl⟩ := ps2 h; exact ⟨rfl, rfl, rfl⟩
  · rw [if_pos c1] at h
    refine r_aload_n e_X11_back_9 rfl ?_
    refine r_sipush e_X11_back_10 sp_m1001 ?_
    obtain ⟨v7, M7, w7, h⟩ := bnd2_el h
    refine cV1v e_X11_back_13 cl_X11_178 ⟨Nat.le_of_ble_eq_true rfl, Nat.le_of_ble_eq_true rfl⟩ ⟨rfl, rfl⟩ k0 (Nat.le_of_ble_eq_true rfl) (S_X11_finding hb1 w7) ?_
    refine r_ireturn e_X11_back_16 rfl ⟨rfl, rfl⟩ ?_
    obtain ⟨rfl, rfl⟩ := ps2 h; exact ⟨rfl, rfl, rfl⟩
def L_X11_robotIn_3 (x1 : Nat) (x2 : Int32) (x3 : Int32) (x4 : Int32) (n1 : Nat) : Nat → Nat → Mem → Option ((Int32) ⊕ (Unit))
  | 0, i3, M => some (.inr ())
  | n + 1, i3, M => ck (((x2 + (44 : Int32)) + ((16 : Int32) * (nI i3))) + (0 : Int32)) n1 (if (M.1 x1 (((x2 + (44 : Int32)) + ((16 : Int32) * (nI i3))) + (0 : Int32)).toNatClampNeg) = x3 then (ck (((x2 + (44 : Int32)) + ((16 : Int32) * (nI i3))) + (1 : Int32)) n1 (if (M.1 x1 (((x2 + (44 : Int32)) + ((16 : Int32) * (nI i3))) + (1 : Int32)).toNatClampNeg) = x4 then (some (.inl (nI i3))) else (L_X11_robotIn_3 x1 x2 x3 x4 n1 n (i3 + 1) M))) else (L_X11_robotIn_3 x1 x2 x3 x4 n1 n (i3 + 1) M))
theorem LW_X11_robotIn_3 {sh : List SC} {Q : Po} {x1 : Nat} {x2 : Int32} {x3 : Int32} {x4 : Int32} {n1 : Nat}   (g1 : kd sh x1 = some (0, n1)) (g2 : n1 < 2 ^ 31) : ∀ (n i3 : Nat) (M : Mem) (q : (Int32) ⊕ (Unit)), i3 + n = 10 → L_X11_robotIn_3 x1 x2 x3 x4 n1 n i3 M = some q → (∀ x, q = .inl x → Q (some (.int x)) sh M) → (∀ zu, q = .inr zu → WP m_X11_robotIn Q 55 [none, none, none, none, none] [] sh M 0 0) → WP m_X11_robotIn Q 3 [some (.ref x1), some (.int x2), some (.int x3), some (.int x4), some (.int (nI i3))] [] sh M 0 0 := by
  intro n
  induction n with
  | zero =>
    intro i3 M q hi h hR hE
    rw [L_X11_robotIn_3] at h
    have hz : (10 : Int32) ≤ nI i3 := by
      have q : i3 = 10 := by omega
      rw [q]; exact nI_le (Nat.le_refl _) (by decide)
    refine r_iload e_X11_robotIn_3 rfl ?_
    refine r_bipush e_X11_robotIn_5 bp_10 ?_
    refine r_icmp_ge e_X11_robotIn_7 (fun _ => ?_) (fun hh => absurd hz hh)
    refine d_5_0 ?_
    refine d_5_1 ?_
    refine d_5_2 ?_
    refine d_5_3 ?_
    refine d_5_4 ?_
    exact hE _ (Option.some.inj h).symm
  | succ n ih =>
    intro i3 M q hi h hR hE
    rw [L_X11_robotIn_3] at h
    have hlt_i3 : i3 < 10 := by omega
    have hcl_i3 : (nI i3).toNatClampNeg = i3 := nI_clamp (by omega)
    have hs : ¬ (10 : Int32) ≤ nI i3 := nI_ge (b := 10) hlt_i3 (by decide)
    refine r_iload e_X11_robotIn_3 rfl ?_
    refine r_bipush e_X11_robotIn_5 bp_10 ?_
    refine r_icmp_ge e_X11_robotIn_7 (fun hh => absurd hh hs) (fun _ => ?_)
    refine r_aload_n e_X11_robotIn_10 rfl ?_
    refine r_iload_n e_X11_robotIn_11 rfl ?_
    refine r_bipush e_X11_robotIn_12 bp_44 ?_
    refine r_iadd e_X11_robotIn_14 ?_
    refine r_bipush e_X11_robotIn_15 bp_16 ?_
    refine r_iload e_X11_robotIn_17 rfl ?_
    refine r_imul e_X11_robotIn_19 ?_
    refine r_iadd e_X11_robotIn_20 ?_
    refine r_iconst e_X11_robotIn_21 ic_0 ?_
    refine r_iadd e_X11_robotIn_22 ?_
    obtain ⟨b5, h⟩ := ck_el h
    refine r_iaload e_X11_robotIn_23 g1 b5 ?_
    refine r_iload_n e_X11_robotIn_24 rfl ?_
    refine r_icmp_ne e_X11_robotIn_25 (fun c6 => ?_) (fun c6 => ?_)
    · rw [if_neg c6] at h
      refine p_iinc_5_4 e_X11_robotIn_49 rfl ic_1 rfl ?_
      rw [nI_1 i3]
      refine r_goto e_X11_robotIn_52 ?_
      exact ih _  _ _ (by omega) h hR hE
    · rw [if_pos c6] at h
      refine r_aload_n e_X11_robotIn_28 rfl ?_
      refine r_iload_n e_X11_robotIn_29 rfl ?_
      refine r_bipush e_X11_robotIn_30 bp_44 ?_
      refine r_iadd e_X11_robotIn_32 ?_
      refine r_bipush e_X11_robotIn_33 bp_16 ?_
      refine r_iload e_X11_robotIn_35 rfl ?_
      refine r_imul e_X11_robotIn_37 ?_
      refine r_iadd e_X11_robotIn_38 ?_
      refine r_iconst e_X11_robotIn_39 ic_1 ?_
      refine r_iadd e_X11_robotIn_40 ?_
      obtain ⟨b7, h⟩ := ck_el h
      refine r_iaload e_X11_robotIn_41 g1 b7 ?_
      refine r_iload_n e_X11_robotIn_42 rfl ?_
      refine r_icmp_ne e_X11_robotIn_43 (fun c8 => ?_) (fun c8 => ?_)
      · rw [if_neg c8] at h
        refine p_iinc_5_4 e_X11_robotIn_49 rfl ic_1 rfl ?_
        rw [nI_1 i3]
        refine r_goto e_X11_robotIn_52 ?_
        exact ih _  _ _ (by omega) h hR hE
      · rw [if_pos c8] at h
        refine r_iload e_X11_robotIn_46 rfl ?_
        refine r_ireturn e_X11_robotIn_48 rfl ⟨rfl, rfl⟩ ?_
        exact hR _ (Option.some.inj h).symm
def R_X11_robotIn (x1 : Nat) (x2 : Int32) (x3 : Int32) (x4 : Int32) (n1 : Nat) (M : Mem) : Option (Int32) := br1 (L_X11_robotIn_3 x1 x2 x3 x4 n1 10 0 M) (fun u9 => some (-1 : Int32))
theorem S_X11_robotIn {sh : List SC} {M : Mem} {x1 : Nat} {x2 : Int32} {x3 : Int32} {x4 : Int32} {n1 : Nat} {v' : Int32}  (g1 : kd sh x1 = some (0, n1)) (g2 : n1 < 2 ^ 31) (h : R_X11_robotIn x1 x2 x3 x4 n1 M = some v') : Gv m_X11_robotIn [.ref x1, .int x2, .int x3, .int x4] sh M (.int v') M := by
  refine Sp.of (ls := [some (.ref x1), some (.int x2), some (.int x3), some (.int x4), none]) (by decide +kernel) (Nat.le_of_ble_eq_true rfl) rfl ?_
  unfold R_X11_robotIn at h
  refine r_iconst e_X11_robotIn_0 ic_0 ?_
  refine p_istore_5_4 e_X11_robotIn_1 rfl rfl ?_
  show WP m_X11_robotIn _ 3 [some (.ref x1), some (.int x2), some (.int x3), some (.int x4), some (.int (nI 0))] [] sh M 0 0
  obtain ⟨q9, w9, l9, r9⟩ := br1_el h
  refine LW_X11_robotIn_3 g1 g2 10 0 _ _ (by omega) w9 (fun x9 y9 => ?_) (fun u9 y9 => ?_)
  · have h := l9 _ y9
    obtain rfl := Option.some.inj h; exact ⟨rfl, rfl, rfl⟩
  have h := r9 _ y9
  refine r_iconst e_X11_robotIn_55 ic_m1 ?_
  refine r_ireturn e_X11_robotIn_56 rfl ⟨rfl, rfl⟩ ?_
  obtain rfl := Option.some.inj h; exact ⟨rfl, rfl, rfl⟩
def R_X11_table (x1 : Int32) (x2 : Int32) (mA : Nat) (M : Mem) : Option (Int32 × Mem) := if (V_X11_isTeam x1 M) = 0 then (bnd2 (R_X11_finding (-1001 : Int32) mA M) (fun v2 M2 => some (v2, M2))) else (if (V_X11_in x2 (0 : Int32) (2 : Int32) M) = 0 then (bnd2 (R_X11_finding (-1001 : Int32) mA M) (fun v14 M14 => some (v14, M14))) else (if (V_X11_hasPlayed x1 M) = 0 then (bnd2 (R_X11_finding (-1004 : Int32) mA M) (fun v13 M13 => some (v13, M13))) else (bnd1 (if x2 = 0 then (ck x1 4 (some (M.1 265 x1.toNatClampNeg))) else (if x2 = (1 : Int32) then (ck x1 4 (some (M.1 266 x1.toNatClampNeg))) else (ck x1 4 (some (M.1 267 x1.toNatClampNeg))))) (fun v8_0 => some (v8_0, M)))))
theorem S_X11_table {sh : List SC} {M : Mem} {x1 : Int32} {x2 : Int32} {mA : Nat} {oA : Nat} {v' : Int32} {M' : Mem} (hb1 : ModelAt sh mA oA)  (h : R_X11_table x1 x2 mA M = some (v', M')) : Gv m_X11_table [.ref 242, .int x1, .int x2] sh M (.int v') M' := by
  refine Sp.of (ls := [some (.ref 242), some (.int x1), some (.int x2)]) (by decide +kernel) (Nat.le_of_ble_eq_true rfl) rfl ?_
  have k0 : kd sh 242 = some (10 + 7, 0) := hb1.1
  have k1 : rf sh 242 45 = some 267 := hb1.2.2.2.2.2.2.2.2.2.2.2.2.2.2.2.2.2.2.2.2.2.2.2.2.2.1
  have k2 : kd sh 267 = some (0, 4) := hb1.2.2.2.2.2.2.2.2.2.2.2.2.2.2.2.2.2.2.2.2.2.2.2.2.2.2.2.2.2.2.2.2.2.2.2.2.2.2.2.2.2.2.2.2.2.2.2.2.2.1
  have k3 : rf sh 242 44 = some 266 := hb1.2.2.2.2.2.2.2.2.2.2.2.2.2.2.2.2.2.2.2.2.2.2.2.2.1
  have k4 : kd sh 266 = some (0, 4) := hb1.2.2.2.2.2.2.2.2.2.2.2.2.2.2.2.2.2.2.2.2.2.2.2.2.2.2.2.2.2.2.2.2.2.2.2.2.2.2.2.2.2.2.2.2.2.2.2.2.1
  have k5 : rf sh 242 43 = some 265 := hb1.2.2.2.2.2.2.2.2.2.2.2.2.2.2.2.2.2.2.2.2.2.2.2.1
  have k6 : kd sh 265 = some (0, 4) := hb1.2.2.2.2.2.2.2.2.2.2.2.2.2.2.2.2.2.2.2.2.2.2.2.2.2.2.2.2.2.2.2.2.2.2.2.2.2.2.2.2.2.2.2.2.2.2.2.1
  unfold R_X11_table at h
  refine r_iload_n e_X11_table_0 rfl ?_
  refine cS1v e_X11_table_1 cl_X11_249 ⟨Nat.le_of_ble_eq_true rfl, Nat.le_of_ble_eq_true rfl⟩ ⟨rfl, rfl⟩  (Nat.le_of_ble_eq_true rfl) (S_X11_isTeam ) ?_
  refine r_if_eq e_X11_table_4 (fun c1 => ?_) (fun c1 => ?_)
  · rw [if_pos c1] at h
    refine r_aload_n e_X11_table_16 rfl ?_
    refine r_sipush e_X11_table_17 sp_m1001 ?_
    obtain ⟨v2, M2, w2, h⟩ := bnd2_el h
    refine cV1v e_X11_table_20 cl_X11_178 ⟨Nat.le_of_ble_eq_true rfl, Nat.le_of_ble_eq_true rfl⟩ ⟨rfl, rfl⟩ k0 (Nat.le_of_ble_eq_true rfl) (S_X11_finding hb1 w2) ?_
    refine r_ireturn e_X11_table_23 rfl ⟨rfl, rfl⟩ ?_
    obtain ⟨rfl, rfl⟩ := ps2 h; exact ⟨rfl, rfl, rfl⟩
  · rw [if_neg c1] at h
    refine r_iload_n e_X11_table_7 rfl ?_
    refine r_iconst e_X11_table_8 ic_0 ?_
    refine r_iconst e_X11_table_9 ic_2 ?_
    refine cS3v e_X11_table_10 cl_X11_245 ⟨Nat.le_of_ble_eq_true rfl, Nat.le_of_ble_eq_true rfl⟩ ⟨rfl, rfl⟩  (Nat.le_of_ble_eq_true rfl) (S_X11_in ) ?_
    refine r_if_ne e_X11_table_13 (fun c3 => ?_) (fun c3 => ?_)
    · rw [if_neg c3] at h
      refine r_aload_n e_X11_table_24 rfl ?_
      refine r_iload_n e_X11_table_25 rfl ?_
      refine cV1v e_X11_table_26 cl_X11_414 ⟨Nat.le_of_ble_eq_true rfl, Nat.le_of_ble_eq_true rfl⟩ ⟨rfl, rfl⟩ k0 (Nat.le_of_ble_eq_true rfl) (S_X11_hasPlayed hb1) ?_
      refine r_if_ne e_X11_table_29 (fun c4 => ?_) (fun c4 => ?_)
      · rw [if_neg c4] at h
        refine r_iload_n e_X11_table_40 rfl ?_
        obtain ⟨K8, hK8, h⟩ := bnd1_in h
        suffices j8 : ∀ v8_0, K8 v8_0 = some (v', M') → WP m_X11_table _ 73 [none, none, none] [.int v8_0] sh M 0 0 by
          refine r_if_ne e_X11_table_41 (fun c5 => ?_) (fun c5 => ?_)
          · rw [if_neg c5] at h
            refine r_iload_n e_X11_table_53 rfl ?_
            refine r_iconst e_X11_table_54 ic_1 ?_
            refine r_icmp_ne e_X11_table_55 (fun c9 => ?_) (fun c9 => ?_)
            · rw [if_neg c9] at h
              refine r_aload_n e_X11_table_67 rfl ?_
              refine r_getR e_X11_table_68 fl_X11_239 k0 k1 ?_
              refine r_iload_n e_X11_table_71 rfl ?_
              obtain ⟨b10, h⟩ := ck_elK h
              refine r_iaload e_X11_table_72 k2 b10 ?_
              refine d_3_0 ?_
              refine d_3_1 ?_
              refine d_3_2 ?_
              exact j8 _ h
            · rw [if_pos c9] at h
              refine r_aload_n e_X11_table_58 rfl ?_
              refine r_getR e_X11_table_59 fl_X11_236 k0 k3 ?_
              refine r_iload_n e_X11_table_62 rfl ?_
              obtain ⟨b11, h⟩ := ck_elK h
              refine r_iaload e_X11_table_63 k4 b11 ?_
              refine r_goto e_X11_table_64 ?_
              refine d_3_0 ?_
              refine d_3_1 ?_
              refine d_3_2 ?_
              exact j8 _ h
          · rw [if_pos c5] at h
            refine r_aload_n e_X11_table_44 rfl ?_
            refine r_getR e_X11_table_45 fl_X11_233 k0 k5 ?_
            refine r_iload_n e_X11_table_48 rfl ?_
            obtain ⟨b12, h⟩ := ck_elK h
            refine r_iaload e_X11_table_49 k6 b12 ?_
            refine r_goto e_X11_table_50 ?_
            refine d_3_0 ?_
            refine d_3_1 ?_
            refine d_3_2 ?_
            exact j8 _ h
        intro v8_0 h
        rw [hK8] at h
        refine r_ireturn e_X11_table_73 rfl ⟨rfl, rfl⟩ ?_
        obtain ⟨rfl, rfl⟩ := ps2 h; exact ⟨rfl, rfl, rfl⟩
      · rw [if_pos c4] at h
        refine r_aload_n e_X11_table_32 rfl ?_
        refine r_sipush e_X11_table_33 sp_m1004 ?_
        obtain ⟨v13, M13, w13, h⟩ := bnd2_el h
        refine cV1v e_X11_table_36 cl_X11_178 ⟨Nat.le_of_ble_eq_true rfl, Nat.le_of_ble_eq_true rfl⟩ ⟨rfl, rfl⟩ k0 (Nat.le_of_ble_eq_true rfl) (S_X11_finding hb1 w13) ?_
        refine r_ireturn e_X11_table_39 rfl ⟨rfl, rfl⟩ ?_
        obtain ⟨rfl, rfl⟩ := ps2 h; exact ⟨rfl, rfl, rfl⟩
    · rw [if_pos c3] at h
      refine r_aload_n e_X11_table_16 rfl ?_
      refine r_sipush e_X11_table_17 sp_m1001 ?_
      obtain ⟨v14, M14, w14, h⟩ := bnd2_el h
      refine cV1v e_X11_table_20 cl_X11_178 ⟨Nat.le_of_ble_eq_true rfl, Nat.le_of_ble_eq_true rfl⟩ ⟨rfl, rfl⟩ k0 (Nat.le_of_ble_eq_true rfl) (S_X11_finding hb1 w14) ?_
      refine r_ireturn e_X11_table_23 rfl ⟨rfl, rfl⟩ ?_
      obtain ⟨rfl, rfl⟩ := ps2 h; exact ⟨rfl, rfl, rfl⟩
def R_X11_isAhead (x1 : Int32) (x2 : Int32) (mA : Nat) (M : Mem) : Option (Int32) := ck x1 4 (ck x2 4 (if (M.1 265 x1.toNatClampNeg) = (M.1 265 x2.toNatClampNeg) then (ck x1 4 (ck x1 4 (ck x2 4 (ck x2 4 (if ((M.1 266 x1.toNatClampNeg) - (M.1 267 x1.toNatClampNeg)) = ((M.1 266 x2.toNatClampNeg) - (M.1 267 x2.toNatClampNeg)) then (ck x1 4 (ck x2 4 (bnd1 (if (M.1 266 x1.toNatClampNeg) = (M.1 266 x2.toNatClampNeg) then (if x2 ≤ x1 then (some (0 : Int32)) else (some (1 : Int32))) else (ck x1 4 (ck x2 4 (if (M.1 266 x1.toNatClampNeg) ≤ (M.1 266 x2.toNatClampNeg) then (some (0 : Int32)) else (some (1 : Int32)))))) (fun v14_0 => cz v14_0 (some v14_0))))) else (ck x1 4 (ck x1 4 (ck x2 4 (ck x2 4 (bd1 (if ((M.1 266 x1.toNatClampNeg) - (M.1 267 x1.toNatClampNeg)) ≤ ((M.1 266 x2.toNatClampNeg) - (M.1 267 x2.toNatClampNeg)) then (0 : Int32) else (1 : Int32)) (fun v25_0 => cz v25_0 (some v25_0)))))))))))) else (ck x1 4 (ck x2 4 (bd1 (if (M.1 265 x1.toNatClampNeg) ≤ (M.1 265 x2.toNatClampNeg) then (0 : Int32) else (1 : Int32)) (fun v30_0 => cz v30_0 (some v30_0)))))))
theorem S_X11_isAhead {sh : List SC} {M : Mem} {x1 : Int32} {x2 : Int32} {mA : Nat} {oA : Nat} {v' : Int32} (hb1 : ModelAt sh mA oA)  (h : R_X11_isAhead x1 x2 mA M = some v') : Gv m_X11_isAhead [.ref 242, .int x1, .int x2] sh M (.int v') M := by
  refine Sp.of (ls := [some (.ref 242), some (.int x1), some (.int x2)]) (by decide +kernel) (Nat.le_of_ble_eq_true rfl) rfl ?_
  have k0 : kd sh 242 = some (10 + 7, 0) := hb1.1
  have k1 : rf sh 242 43 = some 265 := hb1.2.2.2.2.2.2.2.2.2.2.2.2.2.2.2.2.2.2.2.2.2.2.2.1
  have k2 : kd sh 265 = some (0, 4) := hb1.2.2.2.2.2.2.2.2.2.2.2.2.2.2.2.2.2.2.2.2.2.2.2.2.2.2.2.2.2.2.2.2.2.2.2.2.2.2.2.2.2.2.2.2.2.2.2.1
  have k3 : rf sh 242 44 = some 266 := hb1.2.2.2.2.2.2.2.2.2.2.2.2.2.2.2.2.2.2.2.2.2.2.2.2.1
  have k4 : kd sh 266 = some (0, 4) := hb1.2.2.2.2.2.2.2.2.2.2.2.2.2.2.2.2.2.2.2.2.2.2.2.2.2.2.2.2.2.2.2.2.2.2.2.2.2.2.2.2.2.2.2.2.2.2.2.2.1
  have k5 : rf sh 242 45 = some 267 := hb1.2.2.2.2.2.2.2.2.2.2.2.2.2.2.2.2.2.2.2.2.2.2.2.2.2.1
  have k6 : kd sh 267 = some (0, 4) := hb1.2.2.2.2.2.2.2.2.2.2.2.2.2.2.2.2.2.2.2.2.2.2.2.2.2.2.2.2.2.2.2.2.2.2.2.2.2.2.2.2.2.2.2.2.2.2.2.2.2.1
  unfold R_X11_isAhead at h
  refine r_aload_n e_X11_isAhead_0 rfl ?_
  refine r_getR e_X11_isAhead_1 fl_X11_233 k0 k1 ?_
  refine r_iload_n e_X11_isAhead_4 rfl ?_
  obtain ⟨b1, h⟩ := ck_el h
  refine r_iaload e_X11_isAhead_5 k2 b1 ?_
  refine r_aload_n e_X11_isAhead_6 rfl ?_
  refine r_getR e_X11_isAhead_7 fl_X11_233 k0 k1 ?_
  refine r_iload_n e_X11_isAhead_10 rfl ?_
  obtain ⟨b2, h⟩ := ck_el h
  refine r_iaload e_X11_isAhead_11 k2 b2 ?_
  refine r_icmp_eq e_X11_isAhead_12 (fun c3 => ?_) (fun c3 => ?_)
  · rw [if_pos c3] at h
    refine r_aload_n e_X11_isAhead_36 rfl ?_
    refine r_getR e_X11_isAhead_37 fl_X11_236 k0 k3 ?_
    refine r_iload_n e_X11_isAhead_40 rfl ?_
    obtain ⟨b4, h⟩ := ck_el h
    refine r_iaload e_X11_isAhead_41 k4 b4 ?_
    refine r_aload_n e_X11_isAhead_42 rfl ?_
    refine r_getR e_X11_isAhead_43 fl_X11_239 k0 k5 ?_
    refine r_iload_n e_X11_isAhead_46 rfl ?_
    obtain ⟨b5, h⟩ := ck_el h
    refine r_iaload e_X11_isAhead_47 k6 b5 ?_
    refine r_isub e_X11_isAhead_48 ?_
    refine r_aload_n e_X11_isAhead_49 rfl ?_
    refine r_getR e_X11_isAhead_50 fl_X11_236 k0 k3 ?_
    refine r_iload_n e_X11_isAhead_53 rfl ?_
    obtain ⟨b6, h⟩ := ck_el h
    refine r_iaload e_X11_isAhead_54 k4 b6 ?_
    refine r_aload_n e_X11_isAhead_55 rfl ?_
    refine r_getR e_X11_isAhead_56 fl_X11_239 k0 k5 ?_
    refine r_iload_n e_X11_isAhead_59 rfl ?_
    obtain ⟨b7, h⟩ := ck_el h
    refine r_iaload e_X11_isAhead_60 k6 b7 ?_
    refine r_isub e_X11_isAhead_61 ?_
    refine r_icmp_eq e_X11_isAhead_62 (fun c8 => ?_) (fun c8 => ?_)
    · rw [if_pos c8] at h
      refine r_aload_n e_X11_isAhead_100 rfl ?_
      refine r_getR e_X11_isAhead_101 fl_X11_236 k0 k3 ?_
      refine r_iload_n e_X11_isAhead_104 rfl ?_
      obtain ⟨b9, h⟩ := ck_el h
      refine r_iaload e_X11_isAhead_105 k4 b9 ?_
      refine r_aload_n e_X11_isAhead_106 rfl ?_
      refine r_getR e_X11_isAhead_107 fl_X11_236 k0 k3 ?_
      refine r_iload_n e_X11_isAhead_110 rfl ?_
      obtain ⟨b10, h⟩ := ck_el h
      refine r_iaload e_X11_isAhead_111 k4 b10 ?_
      obtain ⟨K14, hK14, h⟩ := bnd1_in h
      suffices j14 : ∀ v14_0, K14 v14_0 = some v' → WP m_X11_isAhead _ 148 [none, none, none] [.int v14_0] sh M 0 0 by
        refine r_icmp_eq e_X11_isAhead_112 (fun c11 => ?_) (fun c11 => ?_)
        · rw [if_pos c11] at h
          refine r_iload_n e_X11_isAhead_138 rfl ?_
          refine r_iload_n e_X11_isAhead_139 rfl ?_
          refine r_icmp_ge e_X11_isAhead_140 (fun c15 => ?_) (fun c15 => ?_)
          · rw [if_pos c15] at h
            refine r_iconst e_X11_isAhead_147 ic_0 ?_
            refine d_3_0 ?_
            refine d_3_1 ?_
            refine d_3_2 ?_
            exact j14 _ h
          · rw [if_neg c15] at h
            refine r_iconst e_X11_isAhead_143 ic_1 ?_
            refine r_goto e_X11_isAhead_144 ?_
            refine d_3_0 ?_
            refine d_3_1 ?_
            refine d_3_2 ?_
            exact j14 _ h
        · rw [if_neg c11] at h
          refine r_aload_n e_X11_isAhead_115 rfl ?_
          refine r_getR e_X11_isAhead_116 fl_X11_236 k0 k3 ?_
          refine r_iload_n e_X11_isAhead_119 rfl ?_
          obtain ⟨b16, h⟩ := ck_elK h
          refine r_iaload e_X11_isAhead_120 k4 b16 ?_
          refine r_aload_n e_X11_isAhead_121 rfl ?_
          refine r_getR e_X11_isAhead_122 fl_X11_236 k0 k3 ?_
          refine r_iload_n e_X11_isAhead_125 rfl ?_
          obtain ⟨b17, h⟩ := ck_elK h
          refine r_iaload e_X11_isAhead_126 k4 b17 ?_
          refine r_icmp_le e_X11_isAhead_127 (fun c18 => ?_) (fun c18 => ?_)
          · rw [if_pos c18] at h
            refine r_iconst e_X11_isAhead_134 ic_0 ?_
            refine r_goto e_X11_isAhead_135 ?_
            refine d_3_0 ?_
            refine d_3_1 ?_
            refine d_3_2 ?_
            exact j14 _ h
          · rw [if_neg c18] at h
            refine r_iconst e_X11_isAhead_130 ic_1 ?_
            refine r_goto e_X11_isAhead_131 ?_
            refine d_3_0 ?_
            refine d_3_1 ?_
            refine d_3_2 ?_
            exact j14 _ h
      intro v14_0 h
      rw [hK14] at h
      obtain ⟨b19, h⟩ := cz_el h
      refine r_zreturn e_X11_isAhead_148 rfl ⟨rfl, rfl⟩ b19 ?_
      obtain rfl := Option.some.inj h; exact ⟨rfl, rfl, rfl⟩
    · rw [if_neg c8] at h
      refine r_aload_n e_X11_isAhead_65 rfl ?_
      refine r_getR e_X11_isAhead_66 fl_X11_236 k0 k3 ?_
      refine r_iload_n e_X11_isAhead_69 rfl ?_
      obtain ⟨b20, h⟩ := ck_el h
      refine r_iaload e_X11_isAhead_70 k4 b20 ?_
      refine r_aload_n e_X11_isAhead_71 rfl ?_
      refine r_getR e_X11_isAhead_72 fl_X11_239 k0 k5 ?_
      refine r_iload_n e_X11_isAhead_75 rfl ?_
      obtain ⟨b21, h⟩ := ck_el h
      refine r_iaload e_X11_isAhead_76 k6 b21 ?_
      refine r_isub e_X11_isAhead_77 ?_
      refine r_aload_n e_X11_isAhead_78 rfl ?_
      refine r_getR e_X11_isAhead_79 fl_X11_236 k0 k3 ?_
      refine r_iload_n e_X11_isAhead_82 rfl ?_
      obtain ⟨b22, h⟩ := ck_el h
      refine r_iaload e_X11_isAhead_83 k4 b22 ?_
      refine r_aload_n e_X11_isAhead_84 rfl ?_
      refine r_getR e_X11_isAhead_85 fl_X11_239 k0 k5 ?_
      refine r_iload_n e_X11_isAhead_88 rfl ?_
      obtain ⟨b23, h⟩ := ck_el h
      refine r_iaload e_X11_isAhead_89 k6 b23 ?_
      refine r_isub e_X11_isAhead_90 ?_
      obtain ⟨v25_0, q25, h⟩ := bd1_el h
      suffices j25 : WP m_X11_isAhead _ 99 [none, none, none] [.int v25_0] sh M 0 0 by
        refine r_icmp_le e_X11_isAhead_91 (fun c24 => ?_) (fun c24 => ?_)
        · rw [if_pos c24] at q25
          refine r_iconst e_X11_isAhead_98 ic_0 ?_
          refine d_3_0 ?_
          refine d_3_1 ?_
          refine d_3_2 ?_
          subst q25; exact j25
        · rw [if_neg c24] at q25
          refine r_iconst e_X11_isAhead_94 ic_1 ?_
          refine r_goto e_X11_isAhead_95 ?_
          refine d_3_0 ?_
          refine d_3_1 ?_
          refine d_3_2 ?_
          subst q25; exact j25
      obtain ⟨b26, h⟩ := cz_el h
      refine r_zreturn e_X11_isAhead_99 rfl ⟨rfl, rfl⟩ b26 ?_
      obtain rfl := Option.some.inj h; exact ⟨rfl, rfl, rfl⟩
  · rw [if_neg c3] at h
    refine r_aload_n e_X11_isAhead_15 rfl ?_
    refine r_getR e_X11_isAhead_16 fl_X11_233 k0 k1 ?_
    refine r_iload_n e_X11_isAhead_19 rfl ?_
    obtain ⟨b27, h⟩ := ck_el h
    refine r_iaload e_X11_isAhead_20 k2 b27 ?_
    refine r_aload_n e_X11_isAhead_21 rfl ?_
    refine r_getR e_X11_isAhead_22 fl_X11_233 k0 k1 ?_
    refine r_iload_n e_X11_isAhead_25 rfl ?_
    obtain ⟨b28, h⟩ := ck_el h
    refine r_iaload e_X11_isAhead_26 k2 b28 ?_
    obtain ⟨v30_0, q30, h⟩ := bd1_el h
    suffices j30 : WP m_X11_isAhead _ 35 [none, none, none] [.int v30_0] sh M 0 0 by
      refine r_icmp_le e_X11_isAhead_27 (fun c29 => ?_) (fun c29 => ?_)
      · rw [if_pos c29] at q30
        refine r_iconst e_X11_isAhead_34 ic_0 ?_
        refine d_3_0 ?_
        refine d_3_1 ?_
        refine d_3_2 ?_
        subst q30; exact j30
      · rw [if_neg c29] at q30
        refine r_iconst e_X11_isAhead_30 ic_1 ?_
        refine r_goto e_X11_isAhead_31 ?_
        refine d_3_0 ?_
        refine d_3_1 ?_
        refine d_3_2 ?_
        subst q30; exact j30
    obtain ⟨b31, h⟩ := cz_el h
    refine r_zreturn e_X11_isAhead_35 rfl ⟨rfl, rfl⟩ b31 ?_
    obtain rfl := Option.some.inj h; exact ⟨rfl, rfl, rfl⟩
def R_X11_tell (x1 : Int32) (mA : Nat) (M : Mem) : Option (Int32 × Mem) := if (M.1 242 46) = (20 : Int32) then (bnd2 (R_X11_finding (-1002 : Int32) mA M) (fun v3 M3 => some (v3, M3))) else (ck (M.1 242 46) 20 (some (((M.1 242 46) + (1 : Int32)), setI (setI M 268 (M.1 242 46).toNatClampNeg x1) 242 46 ((M.1 242 46) + (1 : Int32)))))
theorem S_X11_tell {sh : List SC} {M : Mem} {x1 : Int32} {mA : Nat} {oA : Nat} {v' : Int32} {M' : Mem} (hb1 : ModelAt sh mA oA)  (h : R_X11_tell x1 mA M = some (v', M')) : Gv m_X11_tell [.ref 242, .int x1] sh M (.int v') M' := by
  refine Sp.of (ls := [some (.ref 242), some (.int x1)]) (by decide +kernel) (Nat.le_of_ble_eq_true rfl) rfl ?_
  have k0 : kd sh 242 = some (10 + 7, 0) := hb1.1
  have k1 : rf sh 242 47 = some 268 := hb1.2.2.2.2.2.2.2.2.2.2.2.2.2.2.2.2.2.2.2.2.2.2.2.2.2.2.1
  have k2 : kd sh 268 = some (0, 20) := hb1.2.2.2.2.2.2.2.2.2.2.2.2.2.2.2.2.2.2.2.2.2.2.2.2.2.2.2.2.2.2.2.2.2.2.2.2.2.2.2.2.2.2.2.2.2.2.2.2.2.2.1
  unfold R_X11_tell at h
  refine r_aload_n e_X11_tell_0 rfl ?_
  refine r_getI e_X11_tell_1 fl_X11_421 i0 k0 ?_
  refine r_bipush e_X11_tell_4 bp_20 ?_
  refine r_icmp_ne e_X11_tell_6 (fun c1 => ?_) (fun c1 => ?_)
  · rw [if_neg c1] at h
    refine r_aload_n e_X11_tell_17 rfl ?_
    refine r_getR e_X11_tell_18 fl_X11_242 k0 k1 ?_
    refine r_aload_n e_X11_tell_21 rfl ?_
    refine r_getI e_X11_tell_22 fl_X11_421 i0 k0 ?_
    refine r_iload_n e_X11_tell_25 rfl ?_
    obtain ⟨b2, h⟩ := ck_el h
    refine r_iastore e_X11_tell_26 k2 b2 ?_
    refine r_aload_n e_X11_tell_27 rfl ?_
    refine r_dup e_X11_tell_28 rfl ?_
    refine r_getIe e_X11_tell_29 fl_X11_421 i0 k0 (gs_aI (by omega)) ?_
    refine r_iconst e_X11_tell_32 ic_1 ?_
    refine r_iadd e_X11_tell_33 ?_
    refine r_putI e_X11_tell_34 fl_X11_421 k0 ?_
    refine r_aload_n e_X11_tell_37 rfl ?_
    refine r_getIe e_X11_tell_38 fl_X11_421 i0 k0 gs_eI ?_
    refine r_ireturn e_X11_tell_41 rfl ⟨rfl, rfl⟩ ?_
    obtain ⟨rfl, rfl⟩ := ps2 h; exact ⟨rfl, rfl, rfl⟩
  · rw [if_pos c1] at h
    refine r_aload_n e_X11_tell_9 rfl ?_
    refine r_sipush e_X11_tell_10 sp_m1002 ?_
    obtain ⟨v3, M3, w3, h⟩ := bnd2_el h
    refine cV1v e_X11_tell_13 cl_X11_178 ⟨Nat.le_of_ble_eq_true rfl, Nat.le_of_ble_eq_true rfl⟩ ⟨rfl, rfl⟩ k0 (Nat.le_of_ble_eq_true rfl) (S_X11_finding hb1 w3) ?_
    refine r_ireturn e_X11_tell_16 rfl ⟨rfl, rfl⟩ ?_
    obtain ⟨rfl, rfl⟩ := ps2 h; exact ⟨rfl, rfl, rfl⟩
