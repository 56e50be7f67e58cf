def F_X2_thinsCrowd_7 (a : Nat) (x1 : Int32) : Nat → Nat → Int32 → Int32 → Mem → Int32 × Int32
  | 0, i7, u2, u3, M => (u2, u3)
  | n + 1, i7, u2, u3, M => (let v700_0 : Int32 := if (M.1 (a + 10 + 2 * i7) 1) = x1 then (if (2 : Int32) < (V_X5_seenX (a + 10 + 2 * i7) (M.1 (a + 10 + 2 * i7) 2) M) then u2 else (u2 + 1)) else u2; let v700_1 : Int32 := if (M.1 (a + 10 + 2 * i7) 1) = x1 then (if (2 : Int32) < (V_X5_seenX (a + 10 + 2 * i7) (M.1 (a + 10 + 2 * i7) 2) M) then u3 else (nI i7)) else u3; (F_X2_thinsCrowd_7 a x1 n (i7 + 1) v700_0 v700_1 M))
theorem L_X2_thinsCrowd_7 {sh : List SC} {Q : Po} {a : Nat} {x1 : Int32}    (hb1 : MatchAt sh a)   : ∀ (n i7 : Nat) (u2 : Int32) (u3 : Int32) (M : Mem), i7 + n = 10 → WP m_X2_thinsCrowd Q 67 [some (.ref a), some (.int x1), some (.int ((F_X2_thinsCrowd_7 a x1 n i7 u2 u3 M).1)), some (.int ((F_X2_thinsCrowd_7 a x1 n i7 u2 u3 M).2)), none] [] sh M 0 0 → WP m_X2_thinsCrowd Q 7 [some (.ref a), some (.int x1), some (.int u2), some (.int u3), some (.int (nI i7))] [] sh M 0 0 := by
  have k0 : kd sh a = some (2 + 7, 0) := hb1.1
  have k1 : rf sh a 3 = some (a + 3) := hb1.2.2.2.2.1
  have k2 : kd sh (a + 3) = some (6, 10) := hb1.2.2.2.2.2.2.2.1
  intro n
  induction n with
  | zero =>
    intro i7 u2 u3 M hi hq
    have hz : (10 : Int32) ≤ nI i7 := by
      have q : i7 = 10 := by omega
      rw [q]; exact nI_le (Nat.le_refl _) (by decide)
    refine r_iload e_X2_thinsCrowd_7 rfl ?_
    refine r_aload_n e_X2_thinsCrowd_9 rfl ?_
    refine r_getR e_X2_thinsCrowd_10 fl_X2_20 k0 k1 ?_
    refine r_alen (v := (10 : Int32)) e_X2_thinsCrowd_13 k2 (by decide) rfl ?_
    refine r_icmp_ge e_X2_thinsCrowd_14 (fun _ => ?_) (fun hh => absurd hz hh)
    refine d_5_4 ?_
    (simp only [F_X2_thinsCrowd_7] at hq; first | exact hq | (simp only []; exact hq))
  | succ n ih =>
    intro i7 u2 u3 M hi hq
    have hlt_i7 : i7 < 10 := by omega
    have hcl_i7 : (nI i7).toNatClampNeg = i7 := nI_clamp (by omega)
    have hs : ¬ (10 : Int32) ≤ nI i7 := nI_ge (b := 10) hlt_i7 (by decide)
    refine r_iload e_X2_thinsCrowd_7 rfl ?_
    refine r_aload_n e_X2_thinsCrowd_9 rfl ?_
    refine r_getR e_X2_thinsCrowd_10 fl_X2_20 k0 k1 ?_
    refine r_alen (v := (10 : Int32)) e_X2_thinsCrowd_13 k2 (by decide) rfl ?_
    refine r_icmp_ge e_X2_thinsCrowd_14 (fun hh => absurd hh hs) (fun _ => ?_)
    refine r_aload_n e_X2_thinsCrowd_17 rfl ?_
    refine r_getR e_X2_thinsCrowd_18 fl_X2_20 k0 k1 ?_
    refine r_iload e_X2_thinsCrowd_21 rfl ?_
    refine r_aaload (b := (a + 10 + 2 * i7)) e_X2_thinsCrowd_23 k2 ⟨by decide, by decide⟩ (vp_in_nI (Nat.lt_of_lt_of_le hlt_i7 (by decide)) (by decide)) (by rw [hcl_i7]; exact (hb1.2.2.2.2.2.2.2.2.1 i7 (Nat.lt_of_lt_of_le hlt_i7 (by decide))).1) ?_
    refine r_getI e_X2_thinsCrowd_24 fl_X2_207 i3 (show kd sh (a + 10 + 2 * i7) = some (5 + 7, 0) from (hb1.2.2.2.2.2.2.2.2.1 i7 (Nat.lt_of_lt_of_le hlt_i7 (by decide))).2.1) ?_
    refine r_iload_n e_X2_thinsCrowd_27 rfl ?_
    obtain ⟨v700_0, e_v700_0⟩ : ∃ z : Int32, z = (if (M.1 (a + 10 + 2 * i7) 1) = x1 then (if (2 : Int32) < (V_X5_seenX (a + 10 + 2 * i7) (M.1 (a + 10 + 2 * i7) 2) M) then u2 else (u2 + 1)) else u2) := ⟨_, rfl⟩
    obtain ⟨v700_1, e_v700_1⟩ : ∃ z : Int32, z = (if (M.1 (a + 10 + 2 * i7) 1) = x1 then (if (2 : Int32) < (V_X5_seenX (a + 10 + 2 * i7) (M.1 (a + 10 + 2 * i7) 2) M) then u3 else (nI i7)) else u3) := ⟨_, rfl⟩
    suffices j61_700 : WP m_X2_thinsCrowd Q 61 [some (.ref a), some (.int x1), some (.int v700_0), some (.int v700_1), some (.int (nI i7))] [] sh M 0 0 by
      refine r_icmp_ne e_X2_thinsCrowd_28 (fun h28_700 => ?_) (fun h28_700 => ?_)
      · rw [show v700_0 = u2 from (e_v700_0.trans (if_neg h28_700)), show v700_1 = u3 from (e_v700_1.trans (if_neg h28_700))] at j61_700; exact j61_700
      · refine r_aload_n e_X2_thinsCrowd_31 rfl ?_
        refine r_getR e_X2_thinsCrowd_32 fl_X2_20 k0 k1 ?_
        refine r_iload e_X2_thinsCrowd_35 rfl ?_
        refine r_aaload (b := (a + 10 + 2 * i7)) e_X2_thinsCrowd_37 k2 ⟨by decide, by decide⟩ (vp_in_nI (Nat.lt_of_lt_of_le hlt_i7 (by decide)) (by decide)) (by rw [hcl_i7]; exact (hb1.2.2.2.2.2.2.2.2.1 i7 (Nat.lt_of_lt_of_le hlt_i7 (by decide))).1) ?_
        refine r_aload_n e_X2_thinsCrowd_38 rfl ?_
        refine r_getR e_X2_thinsCrowd_39 fl_X2_20 k0 k1 ?_
        refine r_iload e_X2_thinsCrowd_42 rfl ?_
        refine r_aaload (b := (a + 10 + 2 * i7)) e_X2_thinsCrowd_44 k2 ⟨by decide, by decide⟩ (vp_in_nI (Nat.lt_of_lt_of_le hlt_i7 (by decide)) (by decide)) (by rw [hcl_i7]; exact (hb1.2.2.2.2.2.2.2.2.1 i7 (Nat.lt_of_lt_of_le hlt_i7 (by decide))).1) ?_
        refine r_getI e_X2_thinsCrowd_45 fl_X2_130 i0 (show kd sh (a + 10 + 2 * i7) = some (5 + 7, 0) from (hb1.2.2.2.2.2.2.2.2.1 i7 (Nat.lt_of_lt_of_le hlt_i7 (by decide))).2.1) ?_
        refine cV1v e_X2_thinsCrowd_48 cl_X2_185 ⟨Nat.le_of_ble_eq_true rfl, Nat.le_of_ble_eq_true rfl⟩ ⟨rfl, rfl⟩ (show kd sh (a + 10 + 2 * i7) = some (5 + 7, 0) from (hb1.2.2.2.2.2.2.2.2.1 i7 (Nat.lt_of_lt_of_le hlt_i7 (by decide))).2.1) (Nat.le_of_ble_eq_true rfl) (S_X5_seenX (hb1.2.2.2.2.2.2.2.2.1 i7 (Nat.lt_of_lt_of_le hlt_i7 (by decide))).2) ?_
        refine r_iconst e_X2_thinsCrowd_51 ic_2 ?_
        refine r_icmp_gt e_X2_thinsCrowd_52 (fun h52_701 => ?_) (fun h52_701 => ?_)
        · rw [show v700_0 = u2 from ((e_v700_0.trans (if_pos h28_700)).trans (if_pos h52_701)), show v700_1 = u3 from ((e_v700_1.trans (if_pos h28_700)).trans (if_pos h52_701))] at j61_700; exact j61_700
        · refine p_iinc_5_2 e_X2_thinsCrowd_55 rfl ic_1 rfl ?_
          refine r_iload e_X2_thinsCrowd_58 rfl ?_
          refine p_istore_n_5_3 e_X2_thinsCrowd_60 rfl rfl ?_
          rw [show v700_0 = (u2 + 1) from ((e_v700_0.trans (if_pos h28_700)).trans (if_neg h52_701)), show v700_1 = (nI i7) from ((e_v700_1.trans (if_pos h28_700)).trans (if_neg h52_701))] at j61_700; exact j61_700
    refine p_iinc_5_4 e_X2_thinsCrowd_61 rfl ic_1 rfl ?_
    rw [nI_1 i7]
    refine r_goto e_X2_thinsCrowd_64 ?_
    (subst e_v700_1 e_v700_0; simp only [F_X2_thinsCrowd_7] at hq; first | exact ih (i7 + 1) _ _ _ (by omega) hq | (simp only []; exact ih (i7 + 1) _ _ _ (by omega) hq))
def V_X2_thinsCrowd (a : Nat) (x1 : Int32) (M : Mem) : Int32 := if (4 : Int32) ≤ ((F_X2_thinsCrowd_7 a x1 10 0 (0 : Int32) (-1 : Int32) M).1) then (1 : Int32) else (0 : Int32)
theorem Z_X2_thinsCrowd {M : Mem} {a : Nat} {x1 : Int32}   : V_X2_thinsCrowd a x1 M = 0 ∨ V_X2_thinsCrowd a x1 M = 1 := (zi (Or.inr rfl) (Or.inl rfl))
def U_X2_thinsCrowd (a : Nat) (x1 : Int32) (M : Mem) : Mem := if (4 : Int32) ≤ ((F_X2_thinsCrowd_7 a x1 10 0 (0 : Int32) (-1 : Int32) M).1) then (U_X2_putAtStart a ((F_X2_thinsCrowd_7 a x1 10 0 (0 : Int32) (-1 : Int32) M).2) M) else M
theorem S_X2_thinsCrowd {sh : List SC} {M : Mem} {a : Nat} {x1 : Int32}  (hb1 : MatchAt sh a)  : Gv m_X2_thinsCrowd [.ref a, .int x1] sh M (.int (V_X2_thinsCrowd a x1 M)) (U_X2_thinsCrowd a x1 M) := by
  refine Sp.of (ls := [some (.ref a), some (.int x1), none, none, none]) (by decide +kernel) (Nat.le_of_ble_eq_true rfl) rfl ?_
  have k0 : kd sh a = some (2 + 7, 0) := hb1.1
  refine r_iconst e_X2_thinsCrowd_0 ic_0 ?_
  refine p_istore_n_5_2 e_X2_thinsCrowd_1 rfl rfl ?_
  refine r_iconst e_X2_thinsCrowd_2 ic_m1 ?_
  refine p_istore_n_5_3 e_X2_thinsCrowd_3 rfl rfl ?_
  refine r_iconst e_X2_thinsCrowd_4 ic_0 ?_
  refine p_istore_5_4 e_X2_thinsCrowd_5 rfl rfl ?_
  skip
  show WP m_X2_thinsCrowd _ 7 [some (.ref a), some (.int x1), some (.int (0 : Int32)), some (.int (-1 : Int32)), some (.int (nI 0))] [] sh M 0 0
  refine L_X2_thinsCrowd_7 hb1 10 0 (0 : Int32) (-1 : Int32) M (by omega) ?_
  refine r_iload_n e_X2_thinsCrowd_67 rfl ?_
  refine r_iconst e_X2_thinsCrowd_68 ic_4 ?_
  refine r_icmp_ge e_X2_thinsCrowd_69 (fun h69_0 => ?_) (fun h69_0 => ?_)
  · refine r_aload_n e_X2_thinsCrowd_74 rfl ?_
    refine r_iload_n e_X2_thinsCrowd_75 rfl ?_
    refine cV1u e_X2_thinsCrowd_76 cl_X2_101 ⟨Nat.le_of_ble_eq_true rfl, Nat.le_of_ble_eq_true rfl⟩ ⟨rfl, rfl⟩ k0 (Nat.le_of_ble_eq_true rfl) (S_X2_putAtStart hb1) ?_
    refine r_iconst e_X2_thinsCrowd_79 ic_1 ?_
    refine r_zreturn e_X2_thinsCrowd_80 rfl ⟨rfl, rfl⟩ (by first | exact Or.inl rfl | exact Or.inr rfl) ?_
    (refine ⟨?_, rfl, ?_⟩ <;> ((try unfold V_X2_thinsCrowd); (try unfold U_X2_thinsCrowd); (try simp only [if_pos h69_0]); (try rfl)))
  · refine r_iconst e_X2_thinsCrowd_72 ic_0 ?_
    refine r_zreturn e_X2_thinsCrowd_73 rfl ⟨rfl, rfl⟩ (by first | exact Or.inl rfl | exact Or.inr rfl) ?_
    (refine ⟨?_, rfl, ?_⟩ <;> ((try unfold V_X2_thinsCrowd); (try unfold U_X2_thinsCrowd); (try simp only [if_neg h69_0]); (try rfl)))
def V_X10_keep (x1 : Int32) (M : Mem) : Int32 := if (V_X10_isPlace x1 M) = 0 then (V_X10_finding (-1001 : Int32) M) else (if (M.1 122 6) = 0 then (V_X10_finding (-1003 : Int32) M) else (1 : Int32))
def U_X10_keep (x1 : Int32) (M : Mem) : Mem := if (V_X10_isPlace x1 M) = 0 then (U_X10_finding (-1001 : Int32) M) else (if (M.1 122 6) = 0 then (U_X10_finding (-1003 : Int32) M) else (U_X2_copy (182 + 30 * x1.toNatClampNeg) 122 M))
def P_X10_keep (x1 : Int32) (M : Mem) : Prop := (¬ ((V_X10_isPlace x1 M) = 0) → ¬ ((M.1 122 6) = 0) → vp_in x1 2) ∧ (¬ ((V_X10_isPlace x1 M) = 0) → ¬ ((M.1 122 6) = 0) → P_X2_copy (182 + 30 * x1.toNatClampNeg) 122 M)
theorem S_X10_keep {sh : List SC} {M : Mem} {x1 : Int32}  (hb1 : PitchAt sh) (g2 : (M.1 122 6) = 0 ∨ (M.1 122 6) = 1) (hP : P_X10_keep x1 M) : Gv m_X10_keep [.ref 0, .int x1] sh M (.int (V_X10_keep x1 M)) (U_X10_keep x1 M) := by
  refine Sp.of (ls := [some (.ref 0), some (.int x1)]) (by decide +kernel) (Nat.le_of_ble_eq_true rfl) rfl ?_
  obtain ⟨g1, g3⟩ := hP
  have k0 : kd sh 0 = some (9 + 7, 0) := hb1.1
  have k1 : rf sh 0 4 = some 122 := hb1.2.2.2.2.2.1
  have k2 : kd sh 122 = some (2 + 7, 0) := hb1.2.2.2.2.2.2.2.2.2.2.2.2.2.2.2.2.1.1
  have k3 : rf sh 0 6 = some 10 := hb1.2.2.2.2.2.2.2.1
  have k4 : kd sh 10 = some (5, 2) := hb1.2.2.2.2.2.2.2.2.2.2.2.2.1
  refine r_iload_n e_X10_keep_0 rfl ?_
  refine cS1v e_X10_keep_1 cl_X10_154 ⟨Nat.le_of_ble_eq_true rfl, Nat.le_of_ble_eq_true rfl⟩ ⟨rfl, rfl⟩  (Nat.le_of_ble_eq_true rfl) (S_X10_isPlace ) ?_
  refine r_if_ne e_X10_keep_4 (fun h4_0 => ?_) (fun h4_0 => ?_)
  · refine r_aload_n e_X10_keep_15 rfl ?_
    refine r_getR e_X10_keep_16 fl_X10_63 k0 k1 ?_
    refine r_getI e_X10_keep_19 fl_X10_115 i3 k2 ?_
    refine r_if_ne e_X10_keep_22 (fun h22_1 => ?_) (fun h22_1 => ?_)
    · refine r_aload_n e_X10_keep_33 rfl ?_
      refine r_getR e_X10_keep_34 fl_X10_34 k0 k3 ?_
      refine r_iload_n e_X10_keep_37 rfl ?_
      refine r_aaload (b := (182 + 30 * x1.toNatClampNeg)) e_X10_keep_38 k4 ⟨by decide, by decide⟩ (g1 h4_0 h22_1) (hb1.2.2.2.2.2.2.2.2.2.2.2.2.2.1 x1.toNatClampNeg (vp_lt (g1 h4_0 h22_1))).1 ?_
      refine r_aload_n e_X10_keep_39 rfl ?_
      refine r_getR e_X10_keep_40 fl_X10_63 k0 k1 ?_
      refine cV1u e_X10_keep_43 cl_X10_157 ⟨Nat.le_of_ble_eq_true rfl, Nat.le_of_ble_eq_true rfl⟩ ⟨rfl, rfl⟩ (show kd sh (182 + 30 * x1.toNatClampNeg) = some (2 + 7, 0) from (hb1.2.2.2.2.2.2.2.2.2.2.2.2.2.1 x1.toNatClampNeg (vp_lt (g1 h4_0 h22_1))).2.1) (Nat.le_of_ble_eq_true rfl) (S_X2_copy (hb1.2.2.2.2.2.2.2.2.2.2.2.2.2.1 x1.toNatClampNeg (vp_lt (g1 h4_0 h22_1))).2 hb1.2.2.2.2.2.2.2.2.2.2.2.2.2.2.2.2.1 g2 (g3 h4_0 h22_1)) ?_
      refine r_iconst e_X10_keep_46 ic_1 ?_
      refine r_ireturn e_X10_keep_47 rfl ⟨rfl, rfl⟩ ?_
      (refine ⟨?_, rfl, ?_⟩ <;> ((try unfold V_X10_keep); (try unfold U_X10_keep); (try simp only [if_neg h4_0, if_neg h22_1]); (try rfl)))
    · refine r_aload_n e_X10_keep_25 rfl ?_
      refine r_sipush e_X10_keep_26 sp_m1003 ?_
      refine cV1v e_X10_keep_29 cl_X10_70 ⟨Nat.le_of_ble_eq_true rfl, Nat.le_of_ble_eq_true rfl⟩ ⟨rfl, rfl⟩ k0 (Nat.le_of_ble_eq_true rfl) (S_X10_finding hb1) ?_
      refine r_ireturn e_X10_keep_32 rfl ⟨rfl, rfl⟩ ?_
      (refine ⟨?_, rfl, ?_⟩ <;> ((try unfold V_X10_keep); (try unfold U_X10_keep); (try simp only [if_neg h4_0, if_pos h22_1]); (try rfl)))
  · refine r_aload_n e_X10_keep_7 rfl ?_
    refine r_sipush e_X10_keep_8 sp_m1001 ?_
    refine cV1v e_X10_keep_11 cl_X10_70 ⟨Nat.le_of_ble_eq_true rfl, Nat.le_of_ble_eq_true rfl⟩ ⟨rfl, rfl⟩ k0 (Nat.le_of_ble_eq_true rfl) (S_X10_finding hb1) ?_
    refine r_ireturn e_X10_keep_14 rfl ⟨rfl, rfl⟩ ?_
    (refine ⟨?_, rfl, ?_⟩ <;> ((try unfold V_X10_keep); (try unfold U_X10_keep); (try simp only [if_pos h4_0]); (try rfl)))
def V_X10_order (x1 : Int32) (M : Mem) : Int32 := if 0 ≤ x1 then (let v1_0 : Int32 := if 0 ≤ (V_X1_teamAt 11 x1 M) then (V_X1_teamAt 11 x1 M) else (V_X10_finding (-1004 : Int32) M); let M1_1 : Mem := if 0 ≤ (V_X1_teamAt 11 x1 M) then M else (U_X10_finding (-1004 : Int32) M); v1_0) else (V_X10_finding (-1001 : Int32) M)
def U_X10_order (x1 : Int32) (M : Mem) : Mem := if 0 ≤ x1 then (let v1_0 : Int32 := if 0 ≤ (V_X1_teamAt 11 x1 M) then (V_X1_teamAt 11 x1 M) else (V_X10_finding (-1004 : Int32) M); let M1_1 : Mem := if 0 ≤ (V_X1_teamAt 11 x1 M) then M else (U_X10_finding (-1004 : Int32) M); M1_1) else (U_X10_finding (-1001 : Int32) M)
theorem S_X10_order {sh : List SC} {M : Mem} {x1 : Int32}  (hb1 : PitchAt sh)  : Gv m_X10_order [.ref 0, .int x1] sh M (.int (V_X10_order x1 M)) (U_X10_order x1 M) := by
  refine Sp.of (ls := [some (.ref 0), some (.int x1), none]) (by decide +kernel) (Nat.le_of_ble_eq_true rfl) rfl ?_
  have k0 : kd sh 0 = some (9 + 7, 0) := hb1.1
  have k1 : rf sh 0 7 = some 11 := hb1.2.2.2.2.2.2.2.2.1
  have k2 : kd sh 11 = some (1 + 7, 0) := hb1.2.2.2.2.2.2.2.2.2.2.2.2.2.2.2.1.1
  refine r_iload_n e_X10_order_0 rfl ?_
  refine r_if_ge e_X10_order_1 (fun h1_0 => ?_) (fun h1_0 => ?_)
  · refine r_aload_n e_X10_order_12 rfl ?_
    refine r_getR e_X10_order_13 fl_X10_41 k0 k1 ?_
    refine r_iload_n e_X10_order_16 rfl ?_
    refine cV1v e_X10_order_17 cl_X10_189 ⟨Nat.le_of_ble_eq_true rfl, Nat.le_of_ble_eq_true rfl⟩ ⟨rfl, rfl⟩ k2 (Nat.le_of_ble_eq_true rfl) (S_X1_teamAt hb1.2.2.2.2.2.2.2.2.2.2.2.2.2.2.2.1) ?_
    refine p_istore_n_3_2 e_X10_order_20 rfl rfl ?_
    refine r_iload_n e_X10_order_21 rfl ?_
    obtain ⟨v1_0, e_v1_0⟩ : ∃ z : Int32, z = (if 0 ≤ (V_X1_teamAt 11 x1 M) then (V_X1_teamAt 11 x1 M) else (V_X10_finding (-1004 : Int32) M)) := ⟨_, rfl⟩
    obtain ⟨M1_1, e_M1_1⟩ : ∃ z : Mem, z = (if 0 ≤ (V_X1_teamAt 11 x1 M) then M else (U_X10_finding (-1004 : Int32) M)) := ⟨_, rfl⟩
    suffices j36_1 : WP m_X10_order (fun r sh' M'' => r = some (.int (V_X10_order x1 M)) ∧ sh' = sh ∧ M'' = (U_X10_order x1 M)) 36 [some (.ref 0), some (.int x1), some (.int (V_X1_teamAt 11 x1 M))] [.int v1_0] sh M1_1 0 0 by
      refine r_if_ge e_X10_order_22 (fun h22_1 => ?_) (fun h22_1 => ?_)
      · refine r_iload_n e_X10_order_35 rfl ?_
        rw [show v1_0 = (V_X1_teamAt 11 x1 M) from (e_v1_0.trans (if_pos h22_1)), show M1_1 = M from (e_M1_1.trans (if_pos h22_1))] at j36_1; exact j36_1
      · refine r_aload_n e_X10_order_25 rfl ?_
        refine r_sipush e_X10_order_26 sp_m1004 ?_
        refine cV1v e_X10_order_29 cl_X10_70 ⟨Nat.le_of_ble_eq_true rfl, Nat.le_of_ble_eq_true rfl⟩ ⟨rfl, rfl⟩ k0 (Nat.le_of_ble_eq_true rfl) (S_X10_finding hb1) ?_
        refine r_goto e_X10_order_32 ?_
        rw [show v1_0 = (V_X10_finding (-1004 : Int32) M) from (e_v1_0.trans (if_neg h22_1)), show M1_1 = U_X10_finding (-1004 : Int32) M from (e_M1_1.trans (if_neg h22_1))] at j36_1; exact j36_1
    refine r_ireturn e_X10_order_36 rfl ⟨rfl, rfl⟩ ?_
    (subst e_M1_1 e_v1_0; refine ⟨?_, rfl, ?_⟩ <;> ((try unfold V_X10_order); (try unfold U_X10_order); (try simp only [if_pos h1_0]); (try rfl)))
  · refine r_aload_n e_X10_order_4 rfl ?_
    refine r_sipush e_X10_order_5 sp_m1001 ?_
    refine cV1v e_X10_order_8 cl_X10_70 ⟨Nat.le_of_ble_eq_true rfl, Nat.le_of_ble_eq_true rfl⟩ ⟨rfl, rfl⟩ k0 (Nat.le_of_ble_eq_true rfl) (S_X10_finding hb1) ?_
    refine r_ireturn e_X10_order_11 rfl ⟨rfl, rfl⟩ ?_
    (refine ⟨?_, rfl, ?_⟩ <;> ((try unfold V_X10_order); (try unfold U_X10_order); (try simp only [if_neg h1_0]); (try rfl)))
def V_X11_program (x1 : Int32) (x2 : Int32) (x3 : Int32) (M : Mem) : Int32 := if (V_X11_isTeam x1 M) = 0 then (V_X11_finding (-1001 : Int32) M) else (if (V_X11_in x2 (0 : Int32) (4 : Int32) M) = 0 then (V_X11_finding (-1001 : Int32) M) else (if (V_X11_in x3 (-1 : Int32) ((M.1 242 8) - (1 : Int32)) M) = 0 then (V_X11_finding (-1001 : Int32) M) else (1 : Int32)))
def U_X11_program (x1 : Int32) (x2 : Int32) (x3 : Int32) (M : Mem) : Mem := if (V_X11_isTeam x1 M) = 0 then (U_X11_finding (-1001 : Int32) M) else (if (V_X11_in x2 (0 : Int32) (4 : Int32) M) = 0 then (U_X11_finding (-1001 : Int32) M) else (if (V_X11_in x3 (-1 : Int32) ((M.1 242 8) - (1 : Int32)) M) = 0 then (U_X11_finding (-1001 : Int32) M) else (setI M 254 (((5 : Int32) * x1) + x2).toNatClampNeg x3)))
def P_X11_program (x1 : Int32) (x2 : Int32) (x3 : Int32) (M : Mem) : Prop := (¬ ((V_X11_isTeam x1 M) = 0) → ¬ ((V_X11_in x2 (0 : Int32) (4 : Int32) M) = 0) → ¬ ((V_X11_in x3 (-1 : Int32) ((M.1 242 8) - (1 : Int32)) M) = 0) → vp_in (((5 : Int32) * x1) + x2) 20)
theorem S_X11_program {sh : List SC} {M : Mem} {x1 : Int32} {x2 : Int32} {x3 : Int32} {mA : Nat} {oA : Nat} (hb1 : ModelAt sh mA oA)  (hP : P_X11_program x1 x2 x3 M) : Gv m_X11_program [.ref 242, .int x1, .int x2, .int x3] sh M (.int (V_X11_program x1 x2 x3 M)) (U_X11_program x1 x2 x3 M) := by
  refine Sp.of (ls := [some (.ref 242), some (.int x1), some (.int x2), some (.int x3)]) (by decide +kernel) (Nat.le_of_ble_eq_true rfl) rfl ?_
  have g1 : ¬ ((V_X11_isTeam x1 M) = 0) → ¬ ((V_X11_in x2 (0 : Int32) (4 : Int32) M) = 0) → ¬ ((V_X11_in x3 (-1 : Int32) ((M.1 242 8) - (1 : Int32)) M) = 0) → vp_in (((5 : Int32) * x1) + x2) 20 := hP
  have k0 : kd sh 242 = some (10 + 7, 0) := hb1.1
  have k1 : rf sh 242 22 = some 254 := hb1.2.2.2.2.2.2.2.2.2.2.2.2.1
  have k2 : kd sh 254 = some (0, 20) := hb1.2.2.2.2.2.2.2.2.2.2.2.2.2.2.2.2.2.2.2.2.2.2.2.2.2.2.2.2.2.2.2.2.2.2.2.2.2.2.1
  refine r_iload_n e_X11_program_0 rfl ?_
  refine cS1v e_X11_program_1 cl_X11_249 ⟨Nat.le_of_ble_eq_true rfl, Nat.le_of_ble_eq_true rfl⟩ ⟨rfl, rfl⟩  (Nat.le_of_ble_eq_true rfl) (S_X11_isTeam ) ?_
  refine r_if_eq e_X11_program_4 (fun h4_0 => ?_) (fun h4_0 => ?_)
  · refine r_aload_n e_X11_program_30 rfl ?_
    refine r_sipush e_X11_program_31 sp_m1001 ?_
    refine cV1v e_X11_program_34 cl_X11_178 ⟨Nat.le_of_ble_eq_true rfl, Nat.le_of_ble_eq_true rfl⟩ ⟨rfl, rfl⟩ k0 (Nat.le_of_ble_eq_true rfl) (S_X11_finding hb1 (by first | decide | (unfold vp_in; decide) | exact Or.inl rfl | exact Or.inr rfl)) ?_
    refine r_ireturn e_X11_program_37 rfl ⟨rfl, rfl⟩ ?_
    (refine ⟨?_, rfl, ?_⟩ <;> ((try unfold V_X11_program); (try unfold U_X11_program); (try simp only [if_pos h4_0]); (try rfl)))
  · refine r_iload_n e_X11_program_7 rfl ?_
    refine r_iconst e_X11_program_8 ic_0 ?_
    refine r_iconst e_X11_program_9 ic_4 ?_
    refine cS3v e_X11_program_10 cl_X11_245 ⟨Nat.le_of_ble_eq_true rfl, Nat.le_of_ble_eq_true rfl⟩ ⟨rfl, rfl⟩  (Nat.le_of_ble_eq_true rfl) (S_X11_in ) ?_
    refine r_if_eq e_X11_program_13 (fun h13_1 => ?_) (fun h13_1 => ?_)
    · refine r_aload_n e_X11_program_30 rfl ?_
      refine r_sipush e_X11_program_31 sp_m1001 ?_
      refine cV1v e_X11_program_34 cl_X11_178 ⟨Nat.le_of_ble_eq_true rfl, Nat.le_of_ble_eq_true rfl⟩ ⟨rfl, rfl⟩ k0 (Nat.le_of_ble_eq_true rfl) (S_X11_finding hb1 (by first | decide | (unfold vp_in; decide) | exact Or.inl rfl | exact Or.inr rfl)) ?_
      refine r_ireturn e_X11_program_37 rfl ⟨rfl, rfl⟩ ?_
      (refine ⟨?_, rfl, ?_⟩ <;> ((try unfold V_X11_program); (try unfold U_X11_program); (try simp only [if_neg h4_0, if_pos h13_1]); (try rfl)))
    · refine r_iload_n e_X11_program_16 rfl ?_
      refine r_iconst e_X11_program_17 ic_m1 ?_
      refine r_aload_n e_X11_program_18 rfl ?_
      refine r_getI e_X11_program_19 fl_X11_105 i0 k0 ?_
      refine r_iconst e_X11_program_22 ic_1 ?_
      refine r_isub e_X11_program_23 ?_
      refine cS3v e_X11_program_24 cl_X11_245 ⟨Nat.le_of_ble_eq_true rfl, Nat.le_of_ble_eq_true rfl⟩ ⟨rfl, rfl⟩  (Nat.le_of_ble_eq_true rfl) (S_X11_in ) ?_
      refine r_if_ne e_X11_program_27 (fun h27_2 => ?_) (fun h27_2 => ?_)
      · refine r_aload_n e_X11_program_38 rfl ?_
        refine r_getR e_X11_program_39 fl_X11_197 k0 k1 ?_
        refine r_iconst e_X11_program_42 ic_5 ?_
        refine r_iload_n e_X11_program_43 rfl ?_
        refine r_imul e_X11_program_44 ?_
        refine r_iload_n e_X11_program_45 rfl ?_
        refine r_iadd e_X11_program_46 ?_
        refine r_iload_n e_X11_program_47 rfl ?_
        refine r_iastore e_X11_program_48 k2 (g1 h4_0 h13_1 h27_2) ?_
        refine r_iconst e_X11_program_49 ic_1 ?_
        refine r_ireturn e_X11_program_50 rfl ⟨rfl, rfl⟩ ?_
        (refine ⟨?_, rfl, ?_⟩ <;> ((try unfold V_X11_program); (try unfold U_X11_program); (try simp only [if_neg h4_0, if_neg h13_1, if_neg h27_2]); (try rfl)))
      · refine r_aload_n e_X11_program_30 rfl ?_
        refine r_sipush e_X11_program_31 sp_m1001 ?_
        refine cV1v e_X11_program_34 cl_X11_178 ⟨Nat.le_of_ble_eq_true rfl, Nat.le_of_ble_eq_true rfl⟩ ⟨rfl, rfl⟩ k0 (Nat.le_of_ble_eq_true rfl) (S_X11_finding hb1 (by first | decide | (unfold vp_in; decide) | exact Or.inl rfl | exact Or.inr rfl)) ?_
        refine r_ireturn e_X11_program_37 rfl ⟨rfl, rfl⟩ ?_
        (refine ⟨?_, rfl, ?_⟩ <;> ((try unfold V_X11_program); (try unfold U_X11_program); (try simp only [if_neg h4_0, if_neg h13_1, if_pos h27_2]); (try rfl)))
def F_X2_kickOff_2 (a : Nat) : Nat → Nat → Mem → Mem
  | 0, i2, M => M
  | n + 1, i2, M => (F_X2_kickOff_2 a n (i2 + 1) (U_X5_leave (a + 10 + 2 * i2) M))
theorem L_X2_kickOff_2 {sh : List SC} {Q : Po} {a : Nat}    (hb1 : MatchAt sh a)   : ∀ (n i2 : Nat) (M : Mem), i2 + n = 10 → WP m_X2_kickOff Q 26 [some (.ref a), none, none] [] sh (F_X2_kickOff_2 a n i2 M) 0 0 → WP m_X2_kickOff Q 2 [some (.ref a), some (.int (nI i2)), none] [] sh M 0 0 := by
  have k0 : kd sh a = some (2 + 7, 0) := hb1.1
  have k1 : rf sh a 3 = some (a + 3) := hb1.2.2.2.2.1
  have k2 : kd sh (a + 3) = some (6, 10) := hb1.2.2.2.2.2.2.2.1
  intro n
  induction n with
  | zero =>
    intro i2 M hi hq
    have hz : (10 : Int32) ≤ nI i2 := by
      have q : i2 = 10 := by omega
      rw [q]; exact nI_le (Nat.le_refl _) (by decide)
    refine r_iload_n e_X2_kickOff_2 rfl ?_
    refine r_aload_n e_X2_kickOff_3 rfl ?_
    refine r_getR e_X2_kickOff_4 fl_X2_20 k0 k1 ?_
    refine r_alen (v := (10 : Int32)) e_X2_kickOff_7 k2 (by decide) rfl ?_
    refine r_icmp_ge e_X2_kickOff_8 (fun _ => ?_) (fun hh => absurd hz hh)
    refine d_3_1 ?_
    (simp only [F_X2_kickOff_2] at hq; first | exact hq | (simp only []; exact hq))
  | succ n ih =>
    intro i2 M hi hq
    have hlt_i2 : i2 < 10 := by omega
    have hcl_i2 : (nI i2).toNatClampNeg = i2 := nI_clamp (by omega)
    have hs : ¬ (10 : Int32) ≤ nI i2 := nI_ge (b := 10) hlt_i2 (by decide)
    refine r_iload_n e_X2_kickOff_2 rfl ?_
    refine r_aload_n e_X2_kickOff_3 rfl ?_
    refine r_getR e_X2_kickOff_4 fl_X2_20 k0 k1 ?_
    refine r_alen (v := (10 : Int32)) e_X2_kickOff_7 k2 (by decide) rfl ?_
    refine r_icmp_ge e_X2_kickOff_8 (fun hh => absurd hh hs) (fun _ => ?_)
    refine r_aload_n e_X2_kickOff_11 rfl ?_
    refine r_getR e_X2_kickOff_12 fl_X2_20 k0 k1 ?_
    refine r_iload_n e_X2_kickOff_15 rfl ?_
    refine r_aaload (b := (a + 10 + 2 * i2)) e_X2_kickOff_16 k2 ⟨by decide, by decide⟩ (vp_in_nI (Nat.lt_of_lt_of_le hlt_i2 (by decide)) (by decide)) (by rw [hcl_i2]; exact (hb1.2.2.2.2.2.2.2.2.1 i2 (Nat.lt_of_lt_of_le hlt_i2 (by decide))).1) ?_
    refine cV0u e_X2_kickOff_17 cl_X2_94 ⟨Nat.le_of_ble_eq_true rfl, Nat.le_of_ble_eq_true rfl⟩ ⟨rfl, rfl⟩ (show kd sh (a + 10 + 2 * i2) = some (5 + 7, 0) from (hb1.2.2.2.2.2.2.2.2.1 i2 (Nat.lt_of_lt_of_le hlt_i2 (by decide))).2.1) (Nat.le_of_ble_eq_true rfl) (S_X5_leave (hb1.2.2.2.2.2.2.2.2.1 i2 (Nat.lt_of_lt_of_le hlt_i2 (by decide))).2) ?_
    refine p_iinc_3_1 e_X2_kickOff_20 rfl ic_1 rfl ?_
    rw [nI_1 i2]
    refine r_goto e_X2_kickOff_23 ?_
    (simp only [F_X2_kickOff_2] at hq; first | exact ih (i2 + 1) _ (by omega) hq | (simp only []; exact ih (i2 + 1) _ (by omega) hq))
def F_X2_kickOff_28 (a : Nat) : Nat → Nat → Mem → Mem
  | 0, i28, M => M
  | n + 1, i28, M => (let v2800_0 : Int32 := if (5 : Int32) ≤ (nI i28) then (M.1 a 9) else (M.1 a 8); let M2801_0 : Mem := if v2800_0 < 0 then M else (if (4 : Int32) ≤ v2800_0 then M else (U_X5_join (a + 10 + 2 * i28) (106 + 4 * v2800_0.toNatClampNeg) M)); (F_X2_kickOff_28 a n (i28 + 1) (U_X2_putAtStart a (nI i28) M2801_0)))
theorem L_X2_kickOff_28 {sh : List SC} {Q : Po} {a : Nat}    (hb1 : MatchAt sh a)   : ∀ (n i28 : Nat) (M : Mem), i28 + n = 10 → WP m_X2_kickOff Q 93 [some (.ref a), none, none] [] sh (F_X2_kickOff_28 a n i28 M) 0 0 → WP m_X2_kickOff Q 28 [some (.ref a), some (.int (nI i28)), none] [] sh M 0 0 := by
  have k0 : kd sh a = some (2 + 7, 0) := hb1.1
  have k1 : rf sh a 3 = some (a + 3) := hb1.2.2.2.2.1
  have k2 : kd sh (a + 3) = some (6, 10) := hb1.2.2.2.2.2.2.2.1
  have k3 : rf sh a 0 = some 9 := hb1.2.1
  have k4 : kd sh 9 = some (4, 4) := hb1.2.2.2.2.2.2.2.2.2.2.2.2.2.2.1
  intro n
  induction n with
  | zero =>
    intro i28 M hi hq
    have hz : (10 : Int32) ≤ nI i28 := by
      have q : i28 = 10 := by omega
      rw [q]; exact nI_le (Nat.le_refl _) (by decide)
    refine r_iload_n e_X2_kickOff_28 rfl ?_
    refine r_aload_n e_X2_kickOff_29 rfl ?_
    refine r_getR e_X2_kickOff_30 fl_X2_20 k0 k1 ?_
    refine r_alen (v := (10 : Int32)) e_X2_kickOff_33 k2 (by decide) rfl ?_
    refine r_icmp_ge e_X2_kickOff_34 (fun _ => ?_) (fun hh => absurd hz hh)
    refine d_3_1 ?_
    (simp only [F_X2_kickOff_28] at hq; first | exact hq | (simp only []; exact hq))
  | succ n ih =>
    intro i28 M hi hq
    have hlt_i28 : i28 < 10 := by omega
    have hcl_i28 : (nI i28).toNatClampNeg = i28 := nI_clamp (by omega)
    have hs : ¬ (10 : Int32) ≤ nI i28 := nI_ge (b := 10) hlt_i28 (by decide)
    refine r_iload_n e_X2_kickOff_28 rfl ?_
    refine r_aload_n e_X2_kickOff_29 rfl ?_
    refine r_getR e_X2_kickOff_30 fl_X2_20 k0 k1 ?_
    refine r_alen (v := (10 : Int32)) e_X2_kickOff_33 k2 (by decide) rfl ?_
    refine r_icmp_ge e_X2_kickOff_34 (fun hh => absurd hh hs) (fun _ => ?_)
    refine r_iload_n e_X2_kickOff_37 rfl ?_
    refine r_iconst e_X2_kickOff_38 ic_5 ?_
    obtain ⟨v2800_0, e_v2800_0⟩ : ∃ z : Int32, z = (if (5 : Int32) ≤ (nI i28) then (M.1 a 9) else (M.1 a 8)) := ⟨_, rfl⟩
    suffices j53_2800 : WP m_X2_kickOff Q 53 [some (.ref a), some (.int (nI i28)), none] [.int v2800_0] sh M 0 0 by
      refine r_icmp_ge e_X2_kickOff_39 (fun h39_2800 => ?_) (fun h39_2800 => ?_)
      · refine r_aload_n e_X2_kickOff_49 rfl ?_
        refine r_getI e_X2_kickOff_50 fl_X2_49 i0 k0 ?_
        rw [show v2800_0 = (M.1 a 9) from (e_v2800_0.trans (if_pos h39_2800))] at j53_2800; exact j53_2800
      · refine r_aload_n e_X2_kickOff_42 rfl ?_
        refine r_getI e_X2_kickOff_43 fl_X2_46 i0 k0 ?_
        refine r_goto e_X2_kickOff_46 ?_
        rw [show v2800_0 = (M.1 a 8) from (e_v2800_0.trans (if_neg h39_2800))] at j53_2800; exact j53_2800
    refine p_istore_n_3_2 e_X2_kickOff_53 rfl rfl ?_
    refine r_iload_n e_X2_kickOff_54 rfl ?_
    obtain ⟨M2801_0, e_M2801_0⟩ : ∃ z : Mem, z = (if v2800_0 < 0 then M else (if (4 : Int32) ≤ v2800_0 then M else (U_X5_join (a + 10 + 2 * i28) (106 + 4 * v2800_0.toNatClampNeg) M))) := ⟨_, rfl⟩
    suffices j82_2801 : WP m_X2_kickOff Q 82 [some (.ref a), some (.int (nI i28)), some (.int v2800_0)] [] sh M2801_0 0 0 by
      refine r_if_lt e_X2_kickOff_55 (fun h55_2801 => ?_) (fun h55_2801 => ?_)
      · rw [show M2801_0 = M from (e_M2801_0.trans (if_pos h55_2801))] at j82_2801; exact j82_2801
      · refine r_iload_n e_X2_kickOff_58 rfl ?_
        refine r_aload_n e_X2_kickOff_59 rfl ?_
        refine r_getR e_X2_kickOff_60 fl_X2_52 k0 k3 ?_
        refine r_alen (v := (4 : Int32)) e_X2_kickOff_63 k4 (by decide) rfl ?_
        refine r_icmp_ge e_X2_kickOff_64 (fun h64_2802 => ?_) (fun h64_2802 => ?_)
        · rw [show M2801_0 = M from ((e_M2801_0.trans (if_neg h55_2801)).trans (if_pos h64_2802))] at j82_2801; exact j82_2801
        · refine r_aload_n e_X2_kickOff_67 rfl ?_
          refine r_getR e_X2_kickOff_68 fl_X2_20 k0 k1 ?_
          refine r_iload_n e_X2_kickOff_71 rfl ?_
          refine r_aaload (b := (a + 10 + 2 * i28)) e_X2_kickOff_72 k2 ⟨by decide, by decide⟩ (vp_in_nI (Nat.lt_of_lt_of_le hlt_i28 (by decide)) (by decide)) (by rw [hcl_i28]; exact (hb1.2.2.2.2.2.2.2.2.1 i28 (Nat.lt_of_lt_of_le hlt_i28 (by decide))).1) ?_
          refine r_aload_n e_X2_kickOff_73 rfl ?_
          refine r_getR e_X2_kickOff_74 fl_X2_52 k0 k3 ?_
          refine r_iload_n e_X2_kickOff_77 rfl ?_
          refine r_aaload (b := (106 + 4 * v2800_0.toNatClampNeg)) e_X2_kickOff_78 k4 ⟨by decide, by decide⟩ (vp_guard h55_2801 h64_2802 (by decide)) (hb1.2.2.2.2.2.2.2.2.2.2.2.2.2.2.2 v2800_0.toNatClampNeg (vp_lt (vp_guard h55_2801 h64_2802 (by decide)))).1 ?_
          refine cV1u e_X2_kickOff_79 cl_X2_97 ⟨Nat.le_of_ble_eq_true rfl, Nat.le_of_ble_eq_true rfl⟩ ⟨rfl, rfl⟩ (show kd sh (a + 10 + 2 * i28) = some (5 + 7, 0) from (hb1.2.2.2.2.2.2.2.2.1 i28 (Nat.lt_of_lt_of_le hlt_i28 (by decide))).2.1) (Nat.le_of_ble_eq_true rfl) (S_X5_join (hb1.2.2.2.2.2.2.2.2.1 i28 (Nat.lt_of_lt_of_le hlt_i28 (by decide))).2 (hb1.2.2.2.2.2.2.2.2.2.2.2.2.2.2.2 v2800_0.toNatClampNeg (vp_lt (vp_guard h55_2801 h64_2802 (by decide)))).2) ?_
          rw [show M2801_0 = U_X5_join (a + 10 + 2 * i28) (106 + 4 * v2800_0.toNatClampNeg) M from ((e_M2801_0.trans (if_neg h55_2801)).trans (if_neg h64_2802))] at j82_2801; exact j82_2801
    refine r_aload_n e_X2_kickOff_82 rfl ?_
    refine r_iload_n e_X2_kickOff_83 rfl ?_
    refine cV1u e_X2_kickOff_84 cl_X2_101 ⟨Nat.le_of_ble_eq_true rfl, Nat.le_of_ble_eq_true rfl⟩ ⟨rfl, rfl⟩ k0 (Nat.le_of_ble_eq_true rfl) (S_X2_putAtStart hb1) ?_
    refine p_iinc_3_1 e_X2_kickOff_87 rfl ic_1 rfl ?_
    rw [nI_1 i28]
    refine r_goto e_X2_kickOff_90 ?_
    refine d_3_2 ?_
    (subst e_M2801_0 e_v2800_0; simp only [F_X2_kickOff_28] at hq; first | exact ih (i28 + 1) _ (by omega) hq | (simp only []; exact ih (i28 + 1) _ (by omega) hq))
def F_X2_kickOff_106 (a : Nat) : Nat → Nat → Mem → Mem
  | 0, i106, M => M
  | n + 1, i106, M => (F_X2_kickOff_106 a n (i106 + 1) (U_X5_see (a + 10 + 2 * i106) (M.1 (a + 4) 0) (M.1 (a + 4) 1) M))
theorem L_X2_kickOff_106 {sh : List SC} {Q : Po} {a : Nat}    (hb1 : MatchAt sh a)   : ∀ (n i106 : Nat) (M : Mem), i106 + n = 10 → WP m_X2_kickOff Q 144 [some (.ref a), none, none] [] sh (F_X2_kickOff_106 a n i106 M) 0 0 → WP m_X2_kickOff Q 106 [some (.ref a), some (.int (nI i106)), none] [] sh M 0 0 := by
  have k0 : kd sh a = some (2 + 7, 0) := hb1.1
  have k1 : rf sh a 3 = some (a + 3) := hb1.2.2.2.2.1
  have k2 : kd sh (a + 3) = some (6, 10) := hb1.2.2.2.2.2.2.2.1
  have k3 : rf sh a 4 = some (a + 4) := hb1.2.2.2.2.2.1
  have k4 : kd sh (a + 4) = some (0 + 7, 0) := hb1.2.2.2.2.2.2.2.2.2.1.1
  intro n
  induction n with
  | zero =>
    intro i106 M hi hq
    have hz : (10 : Int32) ≤ nI i106 := by
      have q : i106 = 10 := by omega
      rw [q]; exact nI_le (Nat.le_refl _) (by decide)
    refine r_iload_n e_X2_kickOff_106 rfl ?_
    refine r_aload_n e_X2_kickOff_107 rfl ?_
    refine r_getR e_X2_kickOff_108 fl_X2_20 k0 k1 ?_
    refine r_alen (v := (10 : Int32)) e_X2_kickOff_111 k2 (by decide) rfl ?_
    refine r_icmp_ge e_X2_kickOff_112 (fun _ => ?_) (fun hh => absurd hz hh)
    refine d_3_1 ?_
    (simp only [F_X2_kickOff_106] at hq; first | exact hq | (simp only []; exact hq))
  | succ n ih =>
    intro i106 M hi hq
    have hlt_i106 : i106 < 10 := by omega
    have hcl_i106 : (nI i106).toNatClampNeg = i106 := nI_clamp (by omega)
    have hs : ¬ (10 : Int32) ≤ nI i106 := nI_ge (b := 10) hlt_i106 (by decide)
    refine r_iload_n e_X2_kickOff_106 rfl ?_
    refine r_aload_n e_X2_kickOff_107 rfl ?_
    refine r_getR e_X2_kickOff_108 fl_X2_20 k0 k1 ?_
    refine r_alen (v := (10 : Int32)) e_X2_kickOff_111 k2 (by decide) rfl ?_
    refine r_icmp_ge e_X2_kickOff_112 (fun hh => absurd hh hs) (fun _ => ?_)
    refine r_aload_n e_X2_kickOff_115 rfl ?_
    refine r_getR e_X2_kickOff_116 fl_X2_20 k0 k1 ?_
    refine r_iload_n e_X2_kickOff_119 rfl ?_
    refine r_aaload (b := (a + 10 + 2 * i106)) e_X2_kickOff_120 k2 ⟨by decide, by decide⟩ (vp_in_nI (Nat.lt_of_lt_of_le hlt_i106 (by decide)) (by decide)) (by rw [hcl_i106]; exact (hb1.2.2.2.2.2.2.2.2.1 i106 (Nat.lt_of_lt_of_le hlt_i106 (by decide))).1) ?_
    refine r_aload_n e_X2_kickOff_121 rfl ?_
    refine r_getR e_X2_kickOff_122 fl_X2_27 k0 k3 ?_
    refine r_getI e_X2_kickOff_125 fl_X2_110 i0 k4 ?_
    refine r_aload_n e_X2_kickOff_128 rfl ?_
    refine r_getR e_X2_kickOff_129 fl_X2_27 k0 k3 ?_
    refine r_getI e_X2_kickOff_132 fl_X2_113 i0 k4 ?_
    refine cV2u e_X2_kickOff_135 cl_X2_116 ⟨Nat.le_of_ble_eq_true rfl, Nat.le_of_ble_eq_true rfl⟩ ⟨rfl, rfl⟩ (show kd sh (a + 10 + 2 * i106) = some (5 + 7, 0) from (hb1.2.2.2.2.2.2.2.2.1 i106 (Nat.lt_of_lt_of_le hlt_i106 (by decide))).2.1) (Nat.le_of_ble_eq_true rfl) (S_X5_see (hb1.2.2.2.2.2.2.2.2.1 i106 (Nat.lt_of_lt_of_le hlt_i106 (by decide))).2) ?_
    refine p_iinc_3_1 e_X2_kickOff_138 rfl ic_1 rfl ?_
    rw [nI_1 i106]
    refine r_goto e_X2_kickOff_141 ?_
    (simp only [F_X2_kickOff_106] at hq; first | exact ih (i106 + 1) _ (by omega) hq | (simp only []; exact ih (i106 + 1) _ (by omega) hq))
def U_X2_kickOff (a : Nat) (M : Mem) : Mem := (F_X2_kickOff_106 a 10 0 (U_X0_forget (a + 4) (U_X2_putBall a (F_X2_kickOff_28 a 10 0 (F_X2_kickOff_2 a 10 0 M)))))
theorem S_X2_kickOff {sh : List SC} {M : Mem} {a : Nat}  (hb1 : MatchAt sh a)  : Gu m_X2_kickOff [.ref a] sh M (U_X2_kickOff a M) := by
  refine Sp.of (ls := [some (.ref a), none, none]) (by decide +kernel) (Nat.le_of_ble_eq_true rfl) rfl ?_
  have k0 : kd sh a = some (2 + 7, 0) := hb1.1
  have k1 : rf sh a 4 = some (a + 4) := hb1.2.2.2.2.2.1
  have k2 : kd sh (a + 4) = some (0 + 7, 0) := hb1.2.2.2.2.2.2.2.2.2.1.1
  refine r_iconst e_X2_kickOff_0 ic_0 ?_
  refine p_istore_n_3_1 e_X2_kickOff_1 rfl rfl ?_
  skip
  show WP m_X2_kickOff _ 2 [some (.ref a), some (.int (nI 0)), none] [] sh M 0 0
  refine L_X2_kickOff_2 hb1 10 0  M (by omega) ?_
  refine r_iconst e_X2_kickOff_26 ic_0 ?_
  refine p_istore_n_3_1 e_X2_kickOff_27 rfl rfl ?_
  skip
  show WP m_X2_kickOff _ 28 [some (.ref a), some (.int (nI 0)), none] [] sh (F_X2_kickOff_2 a 10 0 M) 0 0
  refine L_X2_kickOff_28 hb1 10 0  (F_X2_kickOff_2 a 10 0 M) (by omega) ?_
  refine r_aload_n e_X2_kickOff_93 rfl ?_
  refine cV0u e_X2_kickOff_94 cl_X2_104 ⟨Nat.le_of_ble_eq_true rfl, Nat.le_of_ble_eq_true rfl⟩ ⟨rfl, rfl⟩ k0 (Nat.le_of_ble_eq_true rfl) (S_X2_putBall hb1) ?_
  refine r_aload_n e_X2_kickOff_97 rfl ?_
  refine r_getR e_X2_kickOff_98 fl_X2_27 k0 k1 ?_
  refine cV0u e_X2_kickOff_101 cl_X2_107 ⟨Nat.le_of_ble_eq_true rfl, Nat.le_of_ble_eq_true rfl⟩ ⟨rfl, rfl⟩ k2 (Nat.le_of_ble_eq_true rfl) (S_X0_forget hb1.2.2.2.2.2.2.2.2.2.1) ?_
  refine r_iconst e_X2_kickOff_104 ic_0 ?_
  refine p_istore_n_3_1 e_X2_kickOff_105 rfl rfl ?_
  skip
  show WP m_X2_kickOff _ 106 [some (.ref a), some (.int (nI 0)), none] [] sh (U_X0_forget (a + 4) (U_X2_putBall a (F_X2_kickOff_28 a 10 0 (F_X2_kickOff_2 a 10 0 M)))) 0 0
  refine L_X2_kickOff_106 hb1 10 0  (U_X0_forget (a + 4) (U_X2_putBall a (F_X2_kickOff_28 a 10 0 (F_X2_kickOff_2 a 10 0 M)))) (by omega) ?_
  refine r_return e_X2_kickOff_144 rfl ⟨rfl, rfl⟩ ?_
  (refine ⟨?_, rfl, ?_⟩ <;> ((try unfold U_X2_kickOff); (try simp only []); (try rfl)))
def V_X2_applyLaws (a : Nat) (x1 : Int32) (M : Mem) : Int32 := if x1 = 0 then (if (V_X0_hasSlept (a + 4) M) = 0 then (if ((U_X0_hasSlept (a + 4) M).1 (a + 4) 2) < 0 then (let v3_0 : Int32 := if (V_X2_thinsCrowd a (0 : Int32) (U_X0_hasSlept (a + 4) M)) = 0 then (if (V_X2_thinsCrowd a (1 : Int32) (U_X2_thinsCrowd a (0 : Int32) (U_X0_hasSlept (a + 4) M))) = 0 then (-1 : Int32) else (3 : Int32)) else (3 : Int32); let M3_1 : Mem := if (V_X2_thinsCrowd a (0 : Int32) (U_X0_hasSlept (a + 4) M)) = 0 then (U_X2_thinsCrowd a (1 : Int32) (U_X2_thinsCrowd a (0 : Int32) (U_X0_hasSlept (a + 4) M))) else (U_X2_thinsCrowd a (0 : Int32) (U_X0_hasSlept (a + 4) M)); v3_0) else (if (((U_X0_hasSlept (a + 4) M).1 a 7) - ((U_X0_hasSlept (a + 4) M).1 (a + 4) 3)) < (12 : Int32) then (let v6_0 : Int32 := if (V_X2_thinsCrowd a (0 : Int32) (U_X0_hasSlept (a + 4) M)) = 0 then (if (V_X2_thinsCrowd a (1 : Int32) (U_X2_thinsCrowd a (0 : Int32) (U_X0_hasSlept (a + 4) M))) = 0 then (-1 : Int32) else (3 : Int32)) else (3 : Int32); let M6_1 : Mem := if (V_X2_thinsCrowd a (0 : Int32) (U_X0_hasSlept (a + 4) M)) = 0 then (U_X2_thinsCrowd a (1 : Int32) (U_X2_thinsCrowd a (0 : Int32) (U_X0_hasSlept (a + 4) M))) else (U_X2_thinsCrowd a (0 : Int32) (U_X0_hasSlept (a + 4) M)); v6_0) else (2 : Int32))) else (1 : Int32)) else (let v8_0 : Int32 := if x1 = (2 : Int32) then (1 : Int32) else (0 : Int32); (0 : Int32))
def U_X2_applyLaws (a : Nat) (x1 : Int32) (M : Mem) : Mem := if x1 = 0 then (if (V_X0_hasSlept (a + 4) M) = 0 then (if ((U_X0_hasSlept (a + 4) M).1 (a + 4) 2) < 0 then (let v3_0 : Int32 := if (V_X2_thinsCrowd a (0 : Int32) (U_X0_hasSlept (a + 4) M)) = 0 then (if (V_X2_thinsCrowd a (1 : Int32) (U_X2_thinsCrowd a (0 : Int32) (U_X0_hasSlept (a + 4) M))) = 0 then (-1 : Int32) else (3 : Int32)) else (3 : Int32); let M3_1 : Mem := if (V_X2_thinsCrowd a (0 : Int32) (U_X0_hasSlept (a + 4) M)) = 0 then (U_X2_thinsCrowd a (1 : Int32) (U_X2_thinsCrowd a (0 : Int32) (U_X0_hasSlept (a + 4) M))) else (U_X2_thinsCrowd a (0 : Int32) (U_X0_hasSlept (a + 4) M)); M3_1) else (if (((U_X0_hasSlept (a + 4) M).1 a 7) - ((U_X0_hasSlept (a + 4) M).1 (a + 4) 3)) < (12 : Int32) then (let v6_0 : Int32 := if (V_X2_thinsCrowd a (0 : Int32) (U_X0_hasSlept (a + 4) M)) = 0 then (if (V_X2_thinsCrowd a (1 : Int32) (U_X2_thinsCrowd a (0 : Int32) (U_X0_hasSlept (a + 4) M))) = 0 then (-1 : Int32) else (3 : Int32)) else (3 : Int32); let M6_1 : Mem := if (V_X2_thinsCrowd a (0 : Int32) (U_X0_hasSlept (a + 4) M)) = 0 then (U_X2_thinsCrowd a (1 : Int32) (U_X2_thinsCrowd a (0 : Int32) (U_X0_hasSlept (a + 4) M))) else (U_X2_thinsCrowd a (0 : Int32) (U_X0_hasSlept (a + 4) M)); M6_1) else (U_X2_giveToFoe a (U_X0_hasSlept (a + 4) M)))) else (U_X2_putBall a (U_X0_hasSlept (a + 4) M))) else (let v8_0 : Int32 := if x1 = (2 : Int32) then (1 : Int32) else (0 : Int32); U_X2_kickOff a (U_X7_addGoal (a + 7) v8_0 (M.1 a 7) M))
def P_X2_applyLaws (a : Nat) (x1 : Int32) (M : Mem) : Prop := (x1 = 0 → (V_X0_hasSlept (a + 4) M) = 0 → ¬ (((U_X0_hasSlept (a + 4) M).1 (a + 4) 2) < 0) → ¬ ((((U_X0_hasSlept (a + 4) M).1 a 7) - ((U_X0_hasSlept (a + 4) M).1 (a + 4) 3)) < (12 : Int32)) → P_X2_giveToFoe a (U_X0_hasSlept (a + 4) M))
theorem S_X2_applyLaws {sh : List SC} {M : Mem} {a : Nat} {x1 : Int32}  (hb1 : MatchAt sh a)  (hP : P_X2_applyLaws a x1 M) : Gv m_X2_applyLaws [.ref a, .int x1] sh M (.int (V_X2_applyLaws a x1 M)) (U_X2_applyLaws a x1 M) := by
  refine Sp.of (ls := [some (.ref a), some (.int x1)]) (by decide +kernel) (Nat.le_of_ble_eq_true rfl) rfl ?_
  have g1 : x1 = 0 → (V_X0_hasSlept (a + 4) M) = 0 → ¬ (((U_X0_hasSlept (a + 4) M).1 (a + 4) 2) < 0) → ¬ ((((U_X0_hasSlept (a + 4) M).1 a 7) - ((U_X0_hasSlept (a + 4) M).1 (a + 4) 3)) < (12 : Int32)) → P_X2_giveToFoe a (U_X0_hasSlept (a + 4) M) := hP
  have k0 : kd sh a = some (2 + 7, 0) := hb1.1
  have k1 : rf sh a 4 = some (a + 4) := hb1.2.2.2.2.2.1
  have k2 : kd sh (a + 4) = some (0 + 7, 0) := hb1.2.2.2.2.2.2.2.2.2.1.1
  have k3 : rf sh a 5 = some (a + 7) := hb1.2.2.2.2.2.2.1
  have k4 : kd sh (a + 7) = some (7 + 7, 0) := hb1.2.2.2.2.2.2.2.2.2.2.1.1
  refine r_iload_n e_X2_applyLaws_0 rfl ?_
  refine r_if_eq e_X2_applyLaws_1 (fun h1_0 => ?_) (fun h1_0 => ?_)
  · refine r_aload_n e_X2_applyLaws_31 rfl ?_
    refine r_getR e_X2_applyLaws_32 fl_X2_27 k0 k1 ?_
    refine cV0v e_X2_applyLaws_35 cl_X2_251 ⟨Nat.le_of_ble_eq_true rfl, Nat.le_of_ble_eq_true rfl⟩ ⟨rfl, rfl⟩ k2 (Nat.le_of_ble_eq_true rfl) (S_X0_hasSlept hb1.2.2.2.2.2.2.2.2.2.1) ?_
    refine r_if_eq e_X2_applyLaws_38 (fun h38_1 => ?_) (fun h38_1 => ?_)
    · refine r_aload_n e_X2_applyLaws_47 rfl ?_
      refine r_getR e_X2_applyLaws_48 fl_X2_27 k0 k1 ?_
      refine r_getI e_X2_applyLaws_51 fl_X2_132 i0 k2 ?_
      refine r_if_lt e_X2_applyLaws_54 (fun h54_2 => ?_) (fun h54_2 => ?_)
      · refine r_aload_n e_X2_applyLaws_80 rfl ?_
        refine r_iconst e_X2_applyLaws_81 ic_0 ?_
        refine cV1v e_X2_applyLaws_82 cl_X2_258 ⟨Nat.le_of_ble_eq_true rfl, Nat.le_of_ble_eq_true rfl⟩ ⟨rfl, rfl⟩ k0 (Nat.le_of_ble_eq_true rfl) (S_X2_thinsCrowd hb1) ?_
        obtain ⟨v3_0, e_v3_0⟩ : ∃ z : Int32, z = (if (V_X2_thinsCrowd a (0 : Int32) (U_X0_hasSlept (a + 4) M)) = 0 then (if (V_X2_thinsCrowd a (1 : Int32) (U_X2_thinsCrowd a (0 : Int32) (U_X0_hasSlept (a + 4) M))) = 0 then (-1 : Int32) else (3 : Int32)) else (3 : Int32)) := ⟨_, rfl⟩
        obtain ⟨M3_1, e_M3_1⟩ : ∃ z : Mem, z = (if (V_X2_thinsCrowd a (0 : Int32) (U_X0_hasSlept (a + 4) M)) = 0 then (U_X2_thinsCrowd a (1 : Int32) (U_X2_thinsCrowd a (0 : Int32) (U_X0_hasSlept (a + 4) M))) else (U_X2_thinsCrowd a (0 : Int32) (U_X0_hasSlept (a + 4) M))) := ⟨_, rfl⟩
        suffices j101_3 : WP m_X2_applyLaws (fun r sh' M'' => r = some (.int (V_X2_applyLaws a x1 M)) ∧ sh' = sh ∧ M'' = (U_X2_applyLaws a x1 M)) 101 [some (.ref a), some (.int x1)] [.int v3_0] sh M3_1 0 0 by
          refine r_if_ne e_X2_applyLaws_85 (fun h85_3 => ?_) (fun h85_3 => ?_)
          · refine r_iconst e_X2_applyLaws_96 ic_3 ?_
            refine r_goto e_X2_applyLaws_97 ?_
            rw [show v3_0 = (3 : Int32) from (e_v3_0.trans (if_neg h85_3)), show M3_1 = U_X2_thinsCrowd a (0 : Int32) (U_X0_hasSlept (a + 4) M) from (e_M3_1.trans (if_neg h85_3))] at j101_3; exact j101_3
          · refine r_aload_n e_X2_applyLaws_88 rfl ?_
            refine r_iconst e_X2_applyLaws_89 ic_1 ?_
            refine cV1v e_X2_applyLaws_90 cl_X2_258 ⟨Nat.le_of_ble_eq_true rfl, Nat.le_of_ble_eq_true rfl⟩ ⟨rfl, rfl⟩ k0 (Nat.le_of_ble_eq_true rfl) (S_X2_thinsCrowd hb1) ?_
            refine r_if_eq e_X2_applyLaws_93 (fun h93_4 => ?_) (fun h93_4 => ?_)
            · refine r_iconst e_X2_applyLaws_100 ic_m1 ?_
              rw [show v3_0 = (-1 : Int32) from ((e_v3_0.trans (if_pos h85_3)).trans (if_pos h93_4)), show M3_1 = U_X2_thinsCrowd a (1 : Int32) (U_X2_thinsCrowd a (0 : Int32) (U_X0_hasSlept (a + 4) M)) from (e_M3_1.trans (if_pos h85_3))] at j101_3; exact j101_3
            · refine r_iconst e_X2_applyLaws_96 ic_3 ?_
              refine r_goto e_X2_applyLaws_97 ?_
              rw [show v3_0 = (3 : Int32) from ((e_v3_0.trans (if_pos h85_3)).trans (if_neg h93_4)), show M3_1 = U_X2_thinsCrowd a (1 : Int32) (U_X2_thinsCrowd a (0 : Int32) (U_X0_hasSlept (a + 4) M)) from (e_M3_1.trans (if_pos h85_3))] at j101_3; exact j101_3
        refine r_ireturn e_X2_applyLaws_101 rfl ⟨rfl, rfl⟩ ?_
        (subst e_M3_1 e_v3_0; refine ⟨?_, rfl, ?_⟩ <;> ((try unfold V_X2_applyLaws); (try unfold U_X2_applyLaws); (try simp only [if_pos h1_0, if_pos h38_1, if_pos h54_2]); (try rfl)))
      · refine r_aload_n e_X2_applyLaws_57 rfl ?_
        refine r_getI e_X2_applyLaws_58 fl_X2_42 i0 k0 ?_
        refine r_aload_n e_X2_applyLaws_61 rfl ?_
        refine r_getR e_X2_applyLaws_62 fl_X2_27 k0 k1 ?_
        refine r_getI e_X2_applyLaws_65 fl_X2_232 i0 k2 ?_
        refine r_isub e_X2_applyLaws_68 ?_
        refine r_bipush e_X2_applyLaws_69 bp_12 ?_
        refine r_icmp_lt e_X2_applyLaws_71 (fun h71_5 => ?_) (fun h71_5 => ?_)
        · refine r_aload_n e_X2_applyLaws_80 rfl ?_
          refine r_iconst e_X2_applyLaws_81 ic_0 ?_
          refine cV1v e_X2_applyLaws_82 cl_X2_258 ⟨Nat.le_of_ble_eq_true rfl, Nat.le_of_ble_eq_true rfl⟩ ⟨rfl, rfl⟩ k0 (Nat.le_of_ble_eq_true rfl) (S_X2_thinsCrowd hb1) ?_
          obtain ⟨v6_0, e_v6_0⟩ : ∃ z : Int32, z = (if (V_X2_thinsCrowd a (0 : Int32) (U_X0_hasSlept (a + 4) M)) = 0 then (if (V_X2_thinsCrowd a (1 : Int32) (U_X2_thinsCrowd a (0 : Int32) (U_X0_hasSlept (a + 4) M))) = 0 then (-1 : Int32) else (3 : Int32)) else (3 : Int32)) := ⟨_, rfl⟩
          obtain ⟨M6_1, e_M6_1⟩ : ∃ z : Mem, z = (if (V_X2_thinsCrowd a (0 : Int32) (U_X0_hasSlept (a + 4) M)) = 0 then (U_X2_thinsCrowd a (1 : Int32) (U_X2_thinsCrowd a (0 : Int32) (U_X0_hasSlept (a + 4) M))) else (U_X2_thinsCrowd a (0 : Int32) (U_X0_hasSlept (a + 4) M))) := ⟨_, rfl⟩
          suffices j101_6 : WP m_X2_applyLaws (fun r sh' M'' => r = some (.int (V_X2_applyLaws a x1 M)) ∧ sh' = sh ∧ M'' = (U_X2_applyLaws a x1 M)) 101 [some (.ref a), some (.int x1)] [.int v6_0] sh M6_1 0 0 by
            refine r_if_ne e_X2_applyLaws_85 (fun h85_6 => ?_) (fun h85_6 => ?_)
            · refine r_iconst e_X2_applyLaws_96 ic_3 ?_
              refine r_goto e_X2_applyLaws_97 ?_
              rw [show v6_0 = (3 : Int32) from (e_v6_0.trans (if_neg h85_6)), show M6_1 = U_X2_thinsCrowd a (0 : Int32) (U_X0_hasSlept (a + 4) M) from (e_M6_1.trans (if_neg h85_6))] at j101_6; exact j101_6
            · refine r_aload_n e_X2_applyLaws_88 rfl ?_
              refine r_iconst e_X2_applyLaws_89 ic_1 ?_
              refine cV1v e_X2_applyLaws_90 cl_X2_258 ⟨Nat.le_of_ble_eq_true rfl, Nat.le_of_ble_eq_true rfl⟩ ⟨rfl, rfl⟩ k0 (Nat.le_of_ble_eq_true rfl) (S_X2_thinsCrowd hb1) ?_
              refine r_if_eq e_X2_applyLaws_93 (fun h93_7 => ?_) (fun h93_7 => ?_)
              · refine r_iconst e_X2_applyLaws_100 ic_m1 ?_
                rw [show v6_0 = (-1 : Int32) from ((e_v6_0.trans (if_pos h85_6)).trans (if_pos h93_7)), show M6_1 = U_X2_thinsCrowd a (1 : Int32) (U_X2_thinsCrowd a (0 : Int32) (U_X0_hasSlept (a + 4) M)) from (e_M6_1.trans (if_pos h85_6))] at j101_6; exact j101_6
              · refine r_iconst e_X2_applyLaws_96 ic_3 ?_
                refine r_goto e_X2_applyLaws_97 ?_
                rw [show v6_0 = (3 : Int32) from ((e_v6_0.trans (if_pos h85_6)).trans (if_neg h93_7)), show M6_1 = U_X2_thinsCrowd a (1 : Int32) (U_X2_thinsCrowd a (0 : Int32) (U_X0_hasSlept (a + 4) M)) from (e_M6_1.trans (if_pos h85_6))] at j101_6; exact j101_6
          refine r_ireturn e_X2_applyLaws_101 rfl ⟨rfl, rfl⟩ ?_
          (subst e_M6_1 e_v6_0; refine ⟨?_, rfl, ?_⟩ <;> ((try unfold V_X2_applyLaws); (try unfold U_X2_applyLaws); (try simp only [if_pos h1_0, if_pos h38_1, if_neg h54_2, if_pos h71_5]); (try rfl)))
        · refine r_aload_n e_X2_applyLaws_74 rfl ?_
          refine cV0u e_X2_applyLaws_75 cl_X2_255 ⟨Nat.le_of_ble_eq_true rfl, Nat.le_of_ble_eq_true rfl⟩ ⟨rfl, rfl⟩ k0 (Nat.le_of_ble_eq_true rfl) (S_X2_giveToFoe hb1 (g1 h1_0 h38_1 h54_2 h71_5)) ?_
          refine r_iconst e_X2_applyLaws_78 ic_2 ?_
          refine r_ireturn e_X2_applyLaws_79 rfl ⟨rfl, rfl⟩ ?_
          (refine ⟨?_, rfl, ?_⟩ <;> ((try unfold V_X2_applyLaws); (try unfold U_X2_applyLaws); (try simp only [if_pos h1_0, if_pos h38_1, if_neg h54_2, if_neg h71_5]); (try rfl)))
    · refine r_aload_n e_X2_applyLaws_41 rfl ?_
      refine cV0u e_X2_applyLaws_42 cl_X2_104 ⟨Nat.le_of_ble_eq_true rfl, Nat.le_of_ble_eq_true rfl⟩ ⟨rfl, rfl⟩ k0 (Nat.le_of_ble_eq_true rfl) (S_X2_putBall hb1) ?_
      refine r_iconst e_X2_applyLaws_45 ic_1 ?_
      refine r_ireturn e_X2_applyLaws_46 rfl ⟨rfl, rfl⟩ ?_
      (refine ⟨?_, rfl, ?_⟩ <;> ((try unfold V_X2_applyLaws); (try unfold U_X2_applyLaws); (try simp only [if_pos h1_0, if_neg h38_1]); (try rfl)))
  · refine r_aload_n e_X2_applyLaws_4 rfl ?_
    refine r_getR e_X2_applyLaws_5 fl_X2_34 k0 k3 ?_
    refine r_iload_n e_X2_applyLaws_8 rfl ?_
    refine r_iconst e_X2_applyLaws_9 ic_2 ?_
    obtain ⟨v8_0, e_v8_0⟩ : ∃ z : Int32, z = (if x1 = (2 : Int32) then (1 : Int32) else (0 : Int32)) := ⟨_, rfl⟩
    have z_v8_0 : v8_0 = 0 ∨ v8_0 = 1 := by rw [e_v8_0]; exact (zi (Or.inr rfl) (Or.inl rfl))
    suffices j18_8 : WP m_X2_applyLaws (fun r sh' M'' => r = some (.int (V_X2_applyLaws a x1 M)) ∧ sh' = sh ∧ M'' = (U_X2_applyLaws a x1 M)) 18 [some (.ref a), some (.int x1)] [.int v8_0, .ref (a + 7)] sh M 0 0 by
      refine r_icmp_ne e_X2_applyLaws_10 (fun h10_8 => ?_) (fun h10_8 => ?_)
      · refine r_iconst e_X2_applyLaws_17 ic_0 ?_
        rw [show v8_0 = (0 : Int32) from (e_v8_0.trans (if_neg h10_8))] at j18_8; exact j18_8
      · refine r_iconst e_X2_applyLaws_13 ic_1 ?_
        refine r_goto e_X2_applyLaws_14 ?_
        rw [show v8_0 = (1 : Int32) from (e_v8_0.trans (if_pos h10_8))] at j18_8; exact j18_8
    refine r_aload_n e_X2_applyLaws_18 rfl ?_
    refine r_getI e_X2_applyLaws_19 fl_X2_42 i0 k0 ?_
    refine cV2u e_X2_applyLaws_22 cl_X2_247 ⟨Nat.le_of_ble_eq_true rfl, Nat.le_of_ble_eq_true rfl⟩ ⟨rfl, rfl⟩ k4 (Nat.le_of_ble_eq_true rfl) (S_X7_addGoal hb1.2.2.2.2.2.2.2.2.2.2.1) ?_
    refine r_aload_n e_X2_applyLaws_25 rfl ?_
    refine cV0u e_X2_applyLaws_26 cl_X2_70 ⟨Nat.le_of_ble_eq_true rfl, Nat.le_of_ble_eq_true rfl⟩ ⟨rfl, rfl⟩ k0 (Nat.le_of_ble_eq_true rfl) (S_X2_kickOff hb1) ?_
    refine r_iconst e_X2_applyLaws_29 ic_0 ?_
    refine r_ireturn e_X2_applyLaws_30 rfl ⟨rfl, rfl⟩ ?_
    (subst e_v8_0; refine ⟨?_, rfl, ?_⟩ <;> ((try unfold V_X2_applyLaws); (try unfold U_X2_applyLaws); (try simp only [if_neg h1_0]); (try rfl)))
def F_X2_open_29 (a : Nat) (x1 : Int32) (x2 : Int32) : Nat → Nat → Mem → Mem
  | 0, i29, M => M
  | n + 1, i29, M => (F_X2_open_29 a x1 x2 n (i29 + 1) (U_X5_decide (a + 10 + 2 * i29) (0 : Int32) (0 : Int32) (0 : Int32) (0 : Int32) M))
theorem L_X2_open_29 {sh : List SC} {Q : Po} {a : Nat} {x1 : Int32} {x2 : Int32}    (hb1 : MatchAt sh a)   : ∀ (n i29 : Nat) (M : Mem), i29 + n = 10 → WP m_X2_open Q 57 [some (.ref a), some (.int x1), some (.int x2), none] [] sh (F_X2_open_29 a x1 x2 n i29 M) 0 0 → WP m_X2_open Q 29 [some (.ref a), some (.int x1), some (.int x2), some (.int (nI i29))] [] sh M 0 0 := by
  have k0 : kd sh a = some (2 + 7, 0) := hb1.1
  have k1 : rf sh a 3 = some (a + 3) := hb1.2.2.2.2.1
  have k2 : kd sh (a + 3) = some (6, 10) := hb1.2.2.2.2.2.2.2.1
  intro n
  induction n with
  | zero =>
    intro i29 M hi hq
    have hz : (10 : Int32) ≤ nI i29 := by
      have q : i29 = 10 := by omega
      rw [q]; exact nI_le (Nat.le_refl _) (by decide)
    refine r_iload_n e_X2_open_29 rfl ?_
    refine r_aload_n e_X2_open_30 rfl ?_
    refine r_getR e_X2_open_31 fl_X2_20 k0 k1 ?_
    refine r_alen (v := (10 : Int32)) e_X2_open_34 k2 (by decide) rfl ?_
    refine r_icmp_ge e_X2_open_35 (fun _ => ?_) (fun hh => absurd hz hh)
    refine d_4_3 ?_
    (simp only [F_X2_open_29] at hq; first | exact hq | (simp only []; exact hq))
  | succ n ih =>
    intro i29 M hi hq
    have hlt_i29 : i29 < 10 := by omega
    have hcl_i29 : (nI i29).toNatClampNeg = i29 := nI_clamp (by omega)
    have hs : ¬ (10 : Int32) ≤ nI i29 := nI_ge (b := 10) hlt_i29 (by decide)
    refine r_iload_n e_X2_open_29 rfl ?_
    refine r_aload_n e_X2_open_30 rfl ?_
    refine r_getR e_X2_open_31 fl_X2_20 k0 k1 ?_
    refine r_alen (v := (10 : Int32)) e_X2_open_34 k2 (by decide) rfl ?_
    refine r_icmp_ge e_X2_open_35 (fun hh => absurd hh hs) (fun _ => ?_)
    refine r_aload_n e_X2_open_38 rfl ?_
    refine r_getR e_X2_open_39 fl_X2_20 k0 k1 ?_
    refine r_iload_n e_X2_open_42 rfl ?_
    refine r_aaload (b := (a + 10 + 2 * i29)) e_X2_open_43 k2 ⟨by decide, by decide⟩ (vp_in_nI (Nat.lt_of_lt_of_le hlt_i29 (by decide)) (by decide)) (by rw [hcl_i29]; exact (hb1.2.2.2.2.2.2.2.2.1 i29 (Nat.lt_of_lt_of_le hlt_i29 (by decide))).1) ?_
    refine r_iconst e_X2_open_44 ic_0 ?_
    refine r_iconst e_X2_open_45 ic_0 ?_
    refine r_iconst e_X2_open_46 ic_0 ?_
    refine r_iconst e_X2_open_47 ic_0 ?_
    refine cV4u e_X2_open_48 cl_X2_66 ⟨Nat.le_of_ble_eq_true rfl, Nat.le_of_ble_eq_true rfl⟩ ⟨rfl, rfl⟩ (show kd sh (a + 10 + 2 * i29) = some (5 + 7, 0) from (hb1.2.2.2.2.2.2.2.2.1 i29 (Nat.lt_of_lt_of_le hlt_i29 (by decide))).2.1) (Nat.le_of_ble_eq_true rfl) (S_X5_decide (hb1.2.2.2.2.2.2.2.2.1 i29 (Nat.lt_of_lt_of_le hlt_i29 (by decide))).2) ?_
    refine p_iinc_4_3 e_X2_open_51 rfl ic_1 rfl ?_
    rw [nI_1 i29]
    refine r_goto e_X2_open_54 ?_
    (simp only [F_X2_open_29] at hq; first | exact ih (i29 + 1) _ (by omega) hq | (simp only []; exact ih (i29 + 1) _ (by omega) hq))
def U_X2_open (a : Nat) (x1 : Int32) (x2 : Int32) (M : Mem) : Mem := (let Mc1 : Mem := U_X2_kickOff a (F_X2_open_29 a x1 x2 10 0 (U_X7_clear (a + 7) (setI (setI (setI (setI M a 6 (1 : Int32)) a 7 (0 : Int32)) a 8 x1) a 9 x2))); Mc1)
theorem S_X2_open {sh : List SC} {M : Mem} {a : Nat} {x1 : Int32} {x2 : Int32}  (hb1 : MatchAt sh a)  : Gu m_X2_open [.ref a, .int x1, .int x2] sh M (U_X2_open a x1 x2 M) := by
  refine Sp.of (ls := [some (.ref a), some (.int x1), some (.int x2), none]) (by decide +kernel) (Nat.le_of_ble_eq_true rfl) rfl ?_
  have k0 : kd sh a = some (2 + 7, 0) := hb1.1
  have k1 : rf sh a 5 = some (a + 7) := hb1.2.2.2.2.2.2.1
  have k2 : kd sh (a + 7) = some (7 + 7, 0) := hb1.2.2.2.2.2.2.2.2.2.2.1.1
  refine r_aload_n e_X2_open_0 rfl ?_
  refine r_iconst e_X2_open_1 ic_1 ?_
  refine r_putZ e_X2_open_2 fl_X2_38 (by first | exact Or.inl rfl | exact Or.inr rfl) k0 ?_
  refine r_aload_n e_X2_open_5 rfl ?_
  refine r_iconst e_X2_open_6 ic_0 ?_
  refine r_putI e_X2_open_7 fl_X2_42 k0 ?_
  refine r_aload_n e_X2_open_10 rfl ?_
  refine r_iload_n e_X2_open_11 rfl ?_
  refine r_putI e_X2_open_12 fl_X2_46 k0 ?_
  refine r_aload_n e_X2_open_15 rfl ?_
  refine r_iload_n e_X2_open_16 rfl ?_
  refine r_putI e_X2_open_17 fl_X2_49 k0 ?_
  refine r_aload_n e_X2_open_20 rfl ?_
  refine r_getR e_X2_open_21 fl_X2_34 k0 k1 ?_
  refine cV0u e_X2_open_24 cl_X2_63 ⟨Nat.le_of_ble_eq_true rfl, Nat.le_of_ble_eq_true rfl⟩ ⟨rfl, rfl⟩ k2 (Nat.le_of_ble_eq_true rfl) (S_X7_clear hb1.2.2.2.2.2.2.2.2.2.2.1) ?_
  refine r_iconst e_X2_open_27 ic_0 ?_
  refine p_istore_n_4_3 e_X2_open_28 rfl rfl ?_
  skip
  show WP m_X2_open _ 29 [some (.ref a), some (.int x1), some (.int x2), some (.int (nI 0))] [] sh (U_X7_clear (a + 7) (setI (setI (setI (setI M a 6 (1 : Int32)) a 7 (0 : Int32)) a 8 x1) a 9 x2)) 0 0
  refine L_X2_open_29 hb1 10 0  (U_X7_clear (a + 7) (setI (setI (setI (setI M a 6 (1 : Int32)) a 7 (0 : Int32)) a 8 x1) a 9 x2)) (by omega) ?_
  refine r_aload_n e_X2_open_57 rfl ?_
  refine cV0u e_X2_open_58 cl_X2_70 ⟨Nat.le_of_ble_eq_true rfl, Nat.le_of_ble_eq_true rfl⟩ ⟨rfl, rfl⟩ k0 (Nat.le_of_ble_eq_true rfl) (S_X2_kickOff hb1) ?_
  obtain ⟨Mc1, e_Mc1⟩ : ∃ z : Mem, z = (U_X2_kickOff a (F_X2_open_29 a x1 x2 10 0 (U_X7_clear (a + 7) (setI (setI (setI (setI M a 6 (1 : Int32)) a 7 (0 : Int32)) a 8 x1) a 9 x2)))) := ⟨_, rfl⟩
  rw [← e_Mc1]
  refine r_return e_X2_open_61 rfl ⟨rfl, rfl⟩ ?_
  (subst e_Mc1; refine ⟨?_, rfl, ?_⟩ <;> ((try unfold U_X2_open); (try simp only []); (try rfl)))
def V_X10_begin (x1 : Int32) (x2 : Int32) (M : Mem) : Int32 := if (V_X10_isTeam x1 M) = 0 then (V_X10_finding (-1001 : Int32) M) else (if (V_X10_isTeam x2 M) = 0 then (V_X10_finding (-1001 : Int32) M) else (1 : Int32))
def U_X10_begin (x1 : Int32) (x2 : Int32) (M : Mem) : Mem := if (V_X10_isTeam x1 M) = 0 then (U_X10_finding (-1001 : Int32) M) else (if (V_X10_isTeam x2 M) = 0 then (U_X10_finding (-1001 : Int32) M) else (U_X2_open 122 x1 x2 M))
theorem S_X10_begin {sh : List SC} {M : Mem} {x1 : Int32} {x2 : Int32}  (hb1 : PitchAt sh)  : Gv m_X10_begin [.ref 0, .int x1, .int x2] sh M (.int (V_X10_begin x1 x2 M)) (U_X10_begin x1 x2 M) := by
  refine Sp.of (ls := [some (.ref 0), some (.int x1), some (.int x2)]) (by decide +kernel) (Nat.le_of_ble_eq_true rfl) rfl ?_
  have k0 : kd sh 0 = some (9 + 7, 0) := hb1.1
  have k1 : rf sh 0 4 = some 122 := hb1.2.2.2.2.2.1
  have k2 : kd sh 122 = some (2 + 7, 0) := hb1.2.2.2.2.2.2.2.2.2.2.2.2.2.2.2.2.1.1
  refine r_iload_n e_X10_begin_0 rfl ?_
  refine cS1v e_X10_begin_1 cl_X10_89 ⟨Nat.le_of_ble_eq_true rfl, Nat.le_of_ble_eq_true rfl⟩ ⟨rfl, rfl⟩  (Nat.le_of_ble_eq_true rfl) (S_X10_isTeam ) ?_
  refine r_if_eq e_X10_begin_4 (fun h4_0 => ?_) (fun h4_0 => ?_)
  · refine r_aload_n e_X10_begin_14 rfl ?_
    refine r_sipush e_X10_begin_15 sp_m1001 ?_
    refine cV1v e_X10_begin_18 cl_X10_70 ⟨Nat.le_of_ble_eq_true rfl, Nat.le_of_ble_eq_true rfl⟩ ⟨rfl, rfl⟩ k0 (Nat.le_of_ble_eq_true rfl) (S_X10_finding hb1) ?_
    refine r_ireturn e_X10_begin_21 rfl ⟨rfl, rfl⟩ ?_
    (refine ⟨?_, rfl, ?_⟩ <;> ((try unfold V_X10_begin); (try unfold U_X10_begin); (try simp only [if_pos h4_0]); (try rfl)))
  · refine r_iload_n e_X10_begin_7 rfl ?_
    refine cS1v e_X10_begin_8 cl_X10_89 ⟨Nat.le_of_ble_eq_true rfl, Nat.le_of_ble_eq_true rfl⟩ ⟨rfl, rfl⟩  (Nat.le_of_ble_eq_true rfl) (S_X10_isTeam ) ?_
    refine r_if_ne e_X10_begin_11 (fun h11_1 => ?_) (fun h11_1 => ?_)
    · refine r_aload_n e_X10_begin_22 rfl ?_
      refine r_getR e_X10_begin_23 fl_X10_63 k0 k1 ?_
      refine r_iload_n e_X10_begin_26 rfl ?_
      refine r_iload_n e_X10_begin_27 rfl ?_
      refine cV2u e_X10_begin_28 cl_X10_111 ⟨Nat.le_of_ble_eq_true rfl, Nat.le_of_ble_eq_true rfl⟩ ⟨rfl, rfl⟩ k2 (Nat.le_of_ble_eq_true rfl) (S_X2_open hb1.2.2.2.2.2.2.2.2.2.2.2.2.2.2.2.2.1) ?_
      refine r_iconst e_X10_begin_31 ic_1 ?_
      refine r_ireturn e_X10_begin_32 rfl ⟨rfl, rfl⟩ ?_
      (refine ⟨?_, rfl, ?_⟩ <;> ((try unfold V_X10_begin); (try unfold U_X10_begin); (try simp only [if_neg h4_0, if_neg h11_1]); (try rfl)))
    · refine r_aload_n e_X10_begin_14 rfl ?_
      refine r_sipush e_X10_begin_15 sp_m1001 ?_
      refine cV1v e_X10_begin_18 cl_X10_70 ⟨Nat.le_of_ble_eq_true rfl, Nat.le_of_ble_eq_true rfl⟩ ⟨rfl, rfl⟩ k0 (Nat.le_of_ble_eq_true rfl) (S_X10_finding hb1) ?_
      refine r_ireturn e_X10_begin_21 rfl ⟨rfl, rfl⟩ ?_
      (refine ⟨?_, rfl, ?_⟩ <;> ((try unfold V_X10_begin); (try unfold U_X10_begin); (try simp only [if_neg h4_0, if_pos h11_1]); (try rfl)))
