def F_X11_keep_34 (x1 : Int32) (mA : Nat) : Nat → Nat → Mem → Mem
  | 0, i34, M => M
  | n + 1, i34, M => (F_X11_keep_34 x1 mA n (i34 + 1) (setI M 261 (((212 : Int32) * x1) + (nI i34)).toNatClampNeg (M.1 mA i34)))
theorem L_X11_keep_34 {sh : List SC} {Q : Po} {x1 : Int32} {mA : Nat} {oA : Nat}   (hb1 : ModelAt sh mA oA) (g1 : ∀ i34 : Nat, i34 < 212 → vp_in (((212 : Int32) * x1) + (nI i34)) 424)  : ∀ (n i34 : Nat) (M : Mem), i34 + n = 212 → WP m_X11_keep Q 65 [some (.ref 242), some (.int x1), none] [] sh (F_X11_keep_34 x1 mA n i34 M) 0 0 → WP m_X11_keep Q 34 [some (.ref 242), some (.int x1), some (.int (nI i34))] [] sh M 0 0 := by
  have k0 : kd sh 242 = some (10 + 7, 0) := hb1.1
  have k1 : rf sh 242 29 = some 261 := hb1.2.2.2.2.2.2.2.2.2.2.2.2.2.2.2.2.2.2.2.1
  have k2 : kd sh 261 = some (0, 424) := hb1.2.2.2.2.2.2.2.2.2.2.2.2.2.2.2.2.2.2.2.2.2.2.2.2.2.2.2.2.2.2.2.2.2.2.2.2.2.2.2.2.2.2.2.1
  have k3 : rf sh 242 27 = some mA := hb1.2.2.2.2.2.2.2.2.2.2.2.2.2.2.2.2.2.1
  have k4 : kd sh mA = some (0, 212) := hb1.2.2.2.2.2.2.2.2.2.2.2.2.2.2.2.2.2.2.2.2.2.2.2.2.2.2.2.2.2.2.2.2.2.2.2.2.2.2.2.2.2.2.2.2.2.2.2.2.2.2.2.1
  intro n
  induction n with
  | zero =>
    intro i34 M hi hq
    have hz : (212 : Int32) ≤ nI i34 := by
      have q : i34 = 212 := by omega
      rw [q]; exact nI_le (Nat.le_refl _) (by decide)
    refine r_iload_n e_X11_keep_34 rfl ?_
    refine r_sipush e_X11_keep_35 sp_212 ?_
    refine r_icmp_ge e_X11_keep_38 (fun _ => ?_) (fun hh => absurd hz hh)
    refine d_3_2 ?_
    (simp only [F_X11_keep_34] at hq; first | exact hq | (simp only []; exact hq))
  | succ n ih =>
    intro i34 M hi hq
    have hlt_i34 : i34 < 212 := by omega
    have hcl_i34 : (nI i34).toNatClampNeg = i34 := nI_clamp (by omega)
    have hs : ¬ (212 : Int32) ≤ nI i34 := nI_ge (b := 212) hlt_i34 (by decide)
    refine r_iload_n e_X11_keep_34 rfl ?_
    refine r_sipush e_X11_keep_35 sp_212 ?_
    refine r_icmp_ge e_X11_keep_38 (fun hh => absurd hh hs) (fun _ => ?_)
    refine r_aload_n e_X11_keep_41 rfl ?_
    refine r_getR e_X11_keep_42 fl_X11_218 k0 k1 ?_
    refine r_sipush e_X11_keep_45 sp_212 ?_
    refine r_iload_n e_X11_keep_48 rfl ?_
    refine r_imul e_X11_keep_49 ?_
    refine r_iload_n e_X11_keep_50 rfl ?_
    refine r_iadd e_X11_keep_51 ?_
    refine r_aload_n e_X11_keep_52 rfl ?_
    refine r_getR e_X11_keep_53 fl_X11_212 k0 k3 ?_
    refine r_iload_n e_X11_keep_56 rfl ?_
    refine r_ialoade (v := (M.1 mA i34)) e_X11_keep_57 k4 (vp_in_nI (Nat.lt_of_lt_of_le hlt_i34 (by decide)) (by decide)) (by rw [hcl_i34]) ?_
    refine r_iastore e_X11_keep_58 k2 (g1 i34 hlt_i34) ?_
    refine p_iinc_3_2 e_X11_keep_59 rfl ic_1 rfl ?_
    rw [nI_1 i34]
    refine r_goto e_X11_keep_62 ?_
    (simp only [F_X11_keep_34] at hq; first | exact ih (i34 + 1) _ (by omega) hq | (simp only []; exact ih (i34 + 1) _ (by omega) hq))
def V_X11_keep (x1 : Int32) (mA : Nat) (M : Mem) : Int32 := if (V_X11_in x1 (0 : Int32) (1 : Int32) M) = 0 then (V_X11_finding (-1001 : Int32) M) else (if (V_X11_isMatch  mA M) = 0 then (V_X11_finding (-1003 : Int32) M) else (1 : Int32))
def U_X11_keep (x1 : Int32) (mA : Nat) (M : Mem) : Mem := if (V_X11_in x1 (0 : Int32) (1 : Int32) M) = 0 then (U_X11_finding (-1001 : Int32) M) else (if (V_X11_isMatch  mA M) = 0 then (U_X11_finding (-1003 : Int32) M) else (F_X11_keep_34 x1 mA 212 0 M))
def P_X11_keep (x1 : Int32) (mA : Nat) (M : Mem) : Prop := (∀ i34 : Nat, i34 < 212 → vp_in (((212 : Int32) * x1) + (nI i34)) 424)
theorem S_X11_keep {sh : List SC} {M : Mem} {x1 : Int32} {mA : Nat} {oA : Nat} (hb1 : ModelAt sh mA oA)  (hP : P_X11_keep x1 mA M) : Gv m_X11_keep [.ref 242, .int x1] sh M (.int (V_X11_keep x1 mA M)) (U_X11_keep x1 mA M) := by
  refine Sp.of (ls := [some (.ref 242), some (.int x1), none]) (by decide +kernel) (Nat.le_of_ble_eq_true rfl) rfl ?_
  have g1 : ∀ i34 : Nat, i34 < 212 → vp_in (((212 : Int32) * x1) + (nI i34)) 424 := hP
  have k0 : kd sh 242 = some (10 + 7, 0) := hb1.1
  refine r_iload_n e_X11_keep_0 rfl ?_
  refine r_iconst e_X11_keep_1 ic_0 ?_
  refine r_iconst e_X11_keep_2 ic_1 ?_
  refine cS3v e_X11_keep_3 cl_X11_245 ⟨Nat.le_of_ble_eq_true rfl, Nat.le_of_ble_eq_true rfl⟩ ⟨rfl, rfl⟩  (Nat.le_of_ble_eq_true rfl) (S_X11_in ) ?_
  refine r_if_ne e_X11_keep_6 (fun h6_0 => ?_) (fun h6_0 => ?_)
  · refine r_aload_n e_X11_keep_17 rfl ?_
    refine cV0v e_X11_keep_18 cl_X11_394 ⟨Nat.le_of_ble_eq_true rfl, Nat.le_of_ble_eq_true rfl⟩ ⟨rfl, rfl⟩ k0 (Nat.le_of_ble_eq_true rfl) (S_X11_isMatch hb1) ?_
    refine r_if_ne e_X11_keep_21 (fun h21_1 => ?_) (fun h21_1 => ?_)
    · refine r_iconst e_X11_keep_32 ic_0 ?_
      refine p_istore_n_3_2 e_X11_keep_33 rfl rfl ?_
      skip
      show WP m_X11_keep _ 34 [some (.ref 242), some (.int x1), some (.int (nI 0))] [] sh M 0 0
      refine L_X11_keep_34 hb1 g1 212 0  M (by omega) ?_
      refine r_iconst e_X11_keep_65 ic_1 ?_
      refine r_ireturn e_X11_keep_66 rfl ⟨rfl, rfl⟩ ?_
      (refine ⟨?_, rfl, ?_⟩ <;> ((try unfold V_X11_keep); (try unfold U_X11_keep); (try simp only [if_neg h6_0, if_neg h21_1]); (try rfl)))
    · refine r_aload_n e_X11_keep_24 rfl ?_
      refine r_sipush e_X11_keep_25 sp_m1003 ?_
      refine cV1v e_X11_keep_28 cl_X11_178 ⟨Nat.le_of_ble_eq_true rfl, Nat.le_of_ble_eq_true rfl⟩ ⟨rfl, rfl⟩ k0 (Nat.le_of_ble_eq_true rfl) (S_X11_finding hb1 (by first | decide | (unfold vp_in; decide) | exact Or.inl rfl | exact Or.inr rfl)) ?_
      refine r_ireturn e_X11_keep_31 rfl ⟨rfl, rfl⟩ ?_
      (refine ⟨?_, rfl, ?_⟩ <;> ((try unfold V_X11_keep); (try unfold U_X11_keep); (try simp only [if_neg h6_0, if_pos h21_1]); (try rfl)))
  · refine r_aload_n e_X11_keep_9 rfl ?_
    refine r_sipush e_X11_keep_10 sp_m1001 ?_
    refine cV1v e_X11_keep_13 cl_X11_178 ⟨Nat.le_of_ble_eq_true rfl, Nat.le_of_ble_eq_true rfl⟩ ⟨rfl, rfl⟩ k0 (Nat.le_of_ble_eq_true rfl) (S_X11_finding hb1 (by first | decide | (unfold vp_in; decide) | exact Or.inl rfl | exact Or.inr rfl)) ?_
    refine r_ireturn e_X11_keep_16 rfl ⟨rfl, rfl⟩ ?_
    (refine ⟨?_, rfl, ?_⟩ <;> ((try unfold V_X11_keep); (try unfold U_X11_keep); (try simp only [if_pos h6_0]); (try rfl)))
def F_X11_back_40 (x1 : Int32) (mA : Nat) : Nat → Nat → Mem → Mem
  | 0, i40, M => M
  | n + 1, i40, M => (F_X11_back_40 x1 mA n (i40 + 1) (setI M mA i40 (M.1 261 (((212 : Int32) * x1) + (nI i40)).toNatClampNeg)))
theorem L_X11_back_40 {sh : List SC} {Q : Po} {x1 : Int32} {mA : Nat} {oA : Nat}   (hb1 : ModelAt sh mA oA) (g1 : ∀ i40 : Nat, i40 < 212 → vp_in (((212 : Int32) * x1) + (nI i40)) 424)  : ∀ (n i40 : Nat) (M : Mem), i40 + n = 212 → WP m_X11_back Q 71 [some (.ref 242), some (.int x1), none] [] sh (F_X11_back_40 x1 mA n i40 M) 0 0 → WP m_X11_back Q 40 [some (.ref 242), some (.int x1), some (.int (nI i40))] [] sh M 0 0 := by
  have k0 : kd sh 242 = some (10 + 7, 0) := hb1.1
  have k1 : rf sh 242 27 = some mA := hb1.2.2.2.2.2.2.2.2.2.2.2.2.2.2.2.2.2.1
  have k2 : kd sh mA = some (0, 212) := hb1.2.2.2.2.2.2.2.2.2.2.2.2.2.2.2.2.2.2.2.2.2.2.2.2.2.2.2.2.2.2.2.2.2.2.2.2.2.2.2.2.2.2.2.2.2.2.2.2.2.2.2.1
  have k3 : rf sh 242 29 = some 261 := hb1.2.2.2.2.2.2.2.2.2.2.2.2.2.2.2.2.2.2.2.1
  have k4 : kd sh 261 = some (0, 424) := hb1.2.2.2.2.2.2.2.2.2.2.2.2.2.2.2.2.2.2.2.2.2.2.2.2.2.2.2.2.2.2.2.2.2.2.2.2.2.2.2.2.2.2.2.1
  intro n
  induction n with
  | zero =>
    intro i40 M hi hq
    have hz : (212 : Int32) ≤ nI i40 := by
      have q : i40 = 212 := by omega
      rw [q]; exact nI_le (Nat.le_refl _) (by decide)
    refine r_iload_n e_X11_back_40 rfl ?_
    refine r_sipush e_X11_back_41 sp_212 ?_
    refine r_icmp_ge e_X11_back_44 (fun _ => ?_) (fun hh => absurd hz hh)
    refine d_3_2 ?_
    (simp only [F_X11_back_40] at hq; first | exact hq | (simp only []; exact hq))
  | succ n ih =>
    intro i40 M hi hq
    have hlt_i40 : i40 < 212 := by omega
    have hcl_i40 : (nI i40).toNatClampNeg = i40 := nI_clamp (by omega)
    have hs : ¬ (212 : Int32) ≤ nI i40 := nI_ge (b := 212) hlt_i40 (by decide)
    refine r_iload_n e_X11_back_40 rfl ?_
    refine r_sipush e_X11_back_41 sp_212 ?_
    refine r_icmp_ge e_X11_back_44 (fun hh => absurd hh hs) (fun _ => ?_)
    refine r_aload_n e_X11_back_47 rfl ?_
    refine r_getR e_X11_back_48 fl_X11_212 k0 k1 ?_
    refine r_iload_n e_X11_back_51 rfl ?_
    refine r_aload_n e_X11_back_52 rfl ?_
    refine r_getR e_X11_back_53 fl_X11_218 k0 k3 ?_
    refine r_sipush e_X11_back_56 sp_212 ?_
    refine r_iload_n e_X11_back_59 rfl ?_
    refine r_imul e_X11_back_60 ?_
    refine r_iload_n e_X11_back_61 rfl ?_
    refine r_iadd e_X11_back_62 ?_
    refine r_iaload e_X11_back_63 k4 (g1 i40 hlt_i40) ?_
    refine r_iastore e_X11_back_64 k2 (vp_in_nI (Nat.lt_of_lt_of_le hlt_i40 (by decide)) (by decide)) ?_
    rw [hcl_i40]
    refine p_iinc_3_2 e_X11_back_65 rfl ic_1 rfl ?_
    rw [nI_1 i40]
    refine r_goto e_X11_back_68 ?_
    (simp only [F_X11_back_40] at hq; first | exact ih (i40 + 1) _ (by omega) hq | (simp only []; exact ih (i40 + 1) _ (by omega) hq))
def V_X11_back (x1 : Int32) (mA : Nat) (M : Mem) : Int32 := if (V_X11_in x1 (0 : Int32) (1 : Int32) M) = 0 then (V_X11_finding (-1001 : Int32) M) else (if (M.1 261 ((212 : Int32) * x1).toNatClampNeg) = 0 then (V_X11_finding (-1004 : Int32) M) else ((F_X11_back_40 x1 mA 212 0 M).1 mA 3))
def U_X11_back (x1 : Int32) (mA : Nat) (M : Mem) : Mem := if (V_X11_in x1 (0 : Int32) (1 : Int32) M) = 0 then (U_X11_finding (-1001 : Int32) M) else (if (M.1 261 ((212 : Int32) * x1).toNatClampNeg) = 0 then (U_X11_finding (-1004 : Int32) M) else (F_X11_back_40 x1 mA 212 0 M))
def P_X11_back (x1 : Int32) (mA : Nat) (M : Mem) : Prop := (¬ ((V_X11_in x1 (0 : Int32) (1 : Int32) M) = 0) → vp_in ((212 : Int32) * x1) 424) ∧ (∀ i40 : Nat, i40 < 212 → vp_in (((212 : Int32) * x1) + (nI i40)) 424)
theorem S_X11_back {sh : List SC} {M : Mem} {x1 : Int32} {mA : Nat} {oA : Nat} (hb1 : ModelAt sh mA oA)  (hP : P_X11_back x1 mA M) : Gv m_X11_back [.ref 242, .int x1] sh M (.int (V_X11_back x1 mA M)) (U_X11_back x1 mA M) := by
  refine Sp.of (ls := [some (.ref 242), some (.int x1), none]) (by decide +kernel) (Nat.le_of_ble_eq_true rfl) rfl ?_
  obtain ⟨g1, g2⟩ := hP
  have k0 : kd sh 242 = some (10 + 7, 0) := hb1.1
  have k1 : rf sh 242 29 = some 261 := hb1.2.2.2.2.2.2.2.2.2.2.2.2.2.2.2.2.2.2.2.1
  have k2 : kd sh 261 = some (0, 424) := hb1.2.2.2.2.2.2.2.2.2.2.2.2.2.2.2.2.2.2.2.2.2.2.2.2.2.2.2.2.2.2.2.2.2.2.2.2.2.2.2.2.2.2.2.1
  have k3 : rf sh 242 27 = some mA := hb1.2.2.2.2.2.2.2.2.2.2.2.2.2.2.2.2.2.1
  have k4 : kd sh mA = some (0, 212) := hb1.2.2.2.2.2.2.2.2.2.2.2.2.2.2.2.2.2.2.2.2.2.2.2.2.2.2.2.2.2.2.2.2.2.2.2.2.2.2.2.2.2.2.2.2.2.2.2.2.2.2.2.1
  refine r_iload_n e_X11_back_0 rfl ?_
  refine r_iconst e_X11_back_1 ic_0 ?_
  refine r_iconst e_X11_back_2 ic_1 ?_
  refine cS3v e_X11_back_3 cl_X11_245 ⟨Nat.le_of_ble_eq_true rfl, Nat.le_of_ble_eq_true rfl⟩ ⟨rfl, rfl⟩  (Nat.le_of_ble_eq_true rfl) (S_X11_in ) ?_
  refine r_if_ne e_X11_back_6 (fun h6_0 => ?_) (fun h6_0 => ?_)
  · refine r_aload_n e_X11_back_17 rfl ?_
    refine r_getR e_X11_back_18 fl_X11_218 k0 k1 ?_
    refine r_sipush e_X11_back_21 sp_212 ?_
    refine r_iload_n e_X11_back_24 rfl ?_
    refine r_imul e_X11_back_25 ?_
    refine r_iaload e_X11_back_26 k2 (g1 h6_0) ?_
    refine r_if_ne e_X11_back_27 (fun h27_1 => ?_) (fun h27_1 => ?_)
    · refine r_iconst e_X11_back_38 ic_0 ?_
      refine p_istore_n_3_2 e_X11_back_39 rfl rfl ?_
      skip
      show WP m_X11_back _ 40 [some (.ref 242), some (.int x1), some (.int (nI 0))] [] sh M 0 0
      refine L_X11_back_40 hb1 g2 212 0  M (by omega) ?_
      refine r_aload_n e_X11_back_71 rfl ?_
      refine r_getR e_X11_back_72 fl_X11_212 k0 k3 ?_
      refine r_iconst e_X11_back_75 ic_3 ?_
      refine r_ialoade (v := ((F_X11_back_40 x1 mA 212 0 M).1 mA 3)) e_X11_back_76 k4 (by unfold vp_in; decide) (show (F_X11_back_40 x1 mA 212 0 M).1 mA (3 : Int32).toNatClampNeg = (F_X11_back_40 x1 mA 212 0 M).1 mA 3 by rw [show (3 : Int32).toNatClampNeg = 3 from rfl]) ?_
      refine r_ireturn e_X11_back_77 rfl ⟨rfl, rfl⟩ ?_
      (refine ⟨?_, rfl, ?_⟩ <;> ((try unfold V_X11_back); (try unfold U_X11_back); (try simp only [if_neg h6_0, if_neg h27_1]); (try rfl)))
    · refine r_aload_n e_X11_back_30 rfl ?_
      refine r_sipush e_X11_back_31 sp_m1004 ?_
      refine cV1v e_X11_back_34 cl_X11_178 ⟨Nat.le_of_ble_eq_true rfl, Nat.le_of_ble_eq_true rfl⟩ ⟨rfl, rfl⟩ k0 (Nat.le_of_ble_eq_true rfl) (S_X11_finding hb1 (by first | decide | (unfold vp_in; decide) | exact Or.inl rfl | exact Or.inr rfl)) ?_
      refine r_ireturn e_X11_back_37 rfl ⟨rfl, rfl⟩ ?_
      (refine ⟨?_, rfl, ?_⟩ <;> ((try unfold V_X11_back); (try unfold U_X11_back); (try simp only [if_neg h6_0, if_pos h27_1]); (try rfl)))
  · refine r_aload_n e_X11_back_9 rfl ?_
    refine r_sipush e_X11_back_10 sp_m1001 ?_
    refine cV1v e_X11_back_13 cl_X11_178 ⟨Nat.le_of_ble_eq_true rfl, Nat.le_of_ble_eq_true rfl⟩ ⟨rfl, rfl⟩ k0 (Nat.le_of_ble_eq_true rfl) (S_X11_finding hb1 (by first | decide | (unfold vp_in; decide) | exact Or.inl rfl | exact Or.inr rfl)) ?_
    refine r_ireturn e_X11_back_16 rfl ⟨rfl, rfl⟩ ?_
    (refine ⟨?_, rfl, ?_⟩ <;> ((try unfold V_X11_back); (try unfold U_X11_back); (try simp only [if_pos h6_0]); (try rfl)))
def FV_X11_robotIn_3 (x1 : Nat) (x2 : Int32) (x3 : Int32) (x4 : Int32) (n1 : Nat) : Nat → Nat → Mem → Int32
  | 0, i3, M => (-1 : Int32)
  | n + 1, i3, M => if (M.1 x1 (((x2 + (44 : Int32)) + ((16 : Int32) * (nI i3))) + (0 : Int32)).toNatClampNeg) = x3 then (if (M.1 x1 (((x2 + (44 : Int32)) + ((16 : Int32) * (nI i3))) + (1 : Int32)).toNatClampNeg) = x4 then (nI i3) else (FV_X11_robotIn_3 x1 x2 x3 x4 n1 n (i3 + 1) M)) else (FV_X11_robotIn_3 x1 x2 x3 x4 n1 n (i3 + 1) M)
theorem L_X11_robotIn_3 {sh : List SC} {Q : Po} {x1 : Nat} {x2 : Int32} {x3 : Int32} {x4 : Int32} {n1 : Nat}    (g1 : kd sh x1 = some (0, n1)) (g2 : ∀ i3 : Nat, i3 < 10 → vp_in (((x2 + (44 : Int32)) + ((16 : Int32) * (nI i3))) + (0 : Int32)) n1) (g3 : ∀ i3 : Nat, i3 < 10 → vp_in (((x2 + (44 : Int32)) + ((16 : Int32) * (nI i3))) + (1 : Int32)) n1)  : ∀ (n i3 : Nat) (M : Mem), i3 + n = 10 → Q (some (.int (FV_X11_robotIn_3 x1 x2 x3 x4 n1 n i3 M))) sh M → WP m_X11_robotIn Q 3 [some (.ref x1), some (.int x2), some (.int x3), some (.int x4), some (.int (nI i3))] [] sh M 0 0 := by
  intro n
  induction n with
  | zero =>
    intro i3 M hi hq
    have hz : (10 : Int32) ≤ nI i3 := by
      have q : i3 = 10 := by omega
      rw [q]; exact nI_le (Nat.le_refl _) (by decide)
    refine r_iload e_X11_robotIn_3 rfl ?_
    refine r_bipush e_X11_robotIn_5 bp_10 ?_
    refine r_icmp_ge e_X11_robotIn_7 (fun _ => ?_) (fun hh => absurd hz hh)
    refine r_iconst e_X11_robotIn_55 ic_m1 ?_
    refine r_ireturn e_X11_robotIn_56 rfl ⟨rfl, rfl⟩ ?_
    (simp only [FV_X11_robotIn_3] at hq; first | exact hq | (simp only []; exact hq))
  | succ n ih =>
    intro i3 M hi hq
    have hlt_i3 : i3 < 10 := by omega
    have hcl_i3 : (nI i3).toNatClampNeg = i3 := nI_clamp (by omega)
    have hs : ¬ (10 : Int32) ≤ nI i3 := nI_ge (b := 10) hlt_i3 (by decide)
    refine r_iload e_X11_robotIn_3 rfl ?_
    refine r_bipush e_X11_robotIn_5 bp_10 ?_
    refine r_icmp_ge e_X11_robotIn_7 (fun hh => absurd hh hs) (fun _ => ?_)
    refine r_aload_n e_X11_robotIn_10 rfl ?_
    refine r_iload_n e_X11_robotIn_11 rfl ?_
    refine r_bipush e_X11_robotIn_12 bp_44 ?_
    refine r_iadd e_X11_robotIn_14 ?_
    refine r_bipush e_X11_robotIn_15 bp_16 ?_
    refine r_iload e_X11_robotIn_17 rfl ?_
    refine r_imul e_X11_robotIn_19 ?_
    refine r_iadd e_X11_robotIn_20 ?_
    refine r_iconst e_X11_robotIn_21 ic_0 ?_
    refine r_iadd e_X11_robotIn_22 ?_
    refine r_iaload e_X11_robotIn_23 g1 (g2 i3 hlt_i3) ?_
    refine r_iload_n e_X11_robotIn_24 rfl ?_
    refine r_icmp_ne e_X11_robotIn_25 (fun h25_300 => ?_) (fun h25_300 => ?_)
    · refine p_iinc_5_4 e_X11_robotIn_49 rfl ic_1 rfl ?_
      rw [nI_1 i3]
      refine r_goto e_X11_robotIn_52 ?_
      (simp only [FV_X11_robotIn_3, if_neg h25_300] at hq; first | exact ih (i3 + 1) _ (by omega) hq | (simp only [if_neg h25_300]; exact ih (i3 + 1) _ (by omega) hq))
    · refine r_aload_n e_X11_robotIn_28 rfl ?_
      refine r_iload_n e_X11_robotIn_29 rfl ?_
      refine r_bipush e_X11_robotIn_30 bp_44 ?_
      refine r_iadd e_X11_robotIn_32 ?_
      refine r_bipush e_X11_robotIn_33 bp_16 ?_
      refine r_iload e_X11_robotIn_35 rfl ?_
      refine r_imul e_X11_robotIn_37 ?_
      refine r_iadd e_X11_robotIn_38 ?_
      refine r_iconst e_X11_robotIn_39 ic_1 ?_
      refine r_iadd e_X11_robotIn_40 ?_
      refine r_iaload e_X11_robotIn_41 g1 (g3 i3 hlt_i3) ?_
      refine r_iload_n e_X11_robotIn_42 rfl ?_
      refine r_icmp_ne e_X11_robotIn_43 (fun h43_301 => ?_) (fun h43_301 => ?_)
      · refine p_iinc_5_4 e_X11_robotIn_49 rfl ic_1 rfl ?_
        rw [nI_1 i3]
        refine r_goto e_X11_robotIn_52 ?_
        (simp only [FV_X11_robotIn_3, if_pos h25_300, if_neg h43_301] at hq; first | exact ih (i3 + 1) _ (by omega) hq | (simp only [if_pos h25_300, if_neg h43_301]; exact ih (i3 + 1) _ (by omega) hq))
      · refine r_iload e_X11_robotIn_46 rfl ?_
        refine r_ireturn e_X11_robotIn_48 rfl ⟨rfl, rfl⟩ ?_
        (simp only [FV_X11_robotIn_3, if_pos h25_300, if_pos h43_301] at hq; first | exact hq | (simp only [if_pos h25_300, if_pos h43_301]; exact hq))
def V_X11_robotIn (x1 : Nat) (x2 : Int32) (x3 : Int32) (x4 : Int32) (n1 : Nat) (M : Mem) : Int32 := (FV_X11_robotIn_3 x1 x2 x3 x4 n1 10 0 M)
def P_X11_robotIn (x1 : Nat) (x2 : Int32) (x3 : Int32) (x4 : Int32) (n1 : Nat) (M : Mem) : Prop := (∀ i3 : Nat, i3 < 10 → vp_in (((x2 + (44 : Int32)) + ((16 : Int32) * (nI i3))) + (0 : Int32)) n1) ∧ (∀ i3 : Nat, i3 < 10 → vp_in (((x2 + (44 : Int32)) + ((16 : Int32) * (nI i3))) + (1 : Int32)) n1)
theorem S_X11_robotIn {sh : List SC} {M : Mem} {x1 : Nat} {x2 : Int32} {x3 : Int32} {x4 : Int32} {n1 : Nat}  (g1 : kd sh x1 = some (0, n1)) (hP : P_X11_robotIn x1 x2 x3 x4 n1 M) : Gv m_X11_robotIn [.ref x1, .int x2, .int x3, .int x4] sh M (.int (V_X11_robotIn x1 x2 x3 x4 n1 M)) M := by
  refine Sp.of (ls := [some (.ref x1), some (.int x2), some (.int x3), some (.int x4), none]) (by decide +kernel) (Nat.le_of_ble_eq_true rfl) rfl ?_
  obtain ⟨g2, g3⟩ := hP
  refine r_iconst e_X11_robotIn_0 ic_0 ?_
  refine p_istore_5_4 e_X11_robotIn_1 rfl rfl ?_
  skip
  show WP m_X11_robotIn _ 3 [some (.ref x1), some (.int x2), some (.int x3), some (.int x4), some (.int (nI 0))] [] sh M 0 0
  refine L_X11_robotIn_3 g1 g2 g3 10 0  M (by omega) ?_
  (refine ⟨?_, rfl, ?_⟩ <;> ((try unfold V_X11_robotIn); (try simp only []); (try rfl)))
def V_X11_hasPlayed (x1 : Int32) (M : Mem) : Int32 := (let v0_0 : Int32 := if (((M.1 242 42) >>> (x1 &&& 31)) &&& (1 : Int32)) = (1 : Int32) then (1 : Int32) else (0 : Int32); v0_0)
theorem Z_X11_hasPlayed {M : Mem} {x1 : Int32}   : V_X11_hasPlayed x1 M = 0 ∨ V_X11_hasPlayed x1 M = 1 := (zi (Or.inr rfl) (Or.inl rfl))
theorem S_X11_hasPlayed {sh : List SC} {M : Mem} {x1 : Int32} {mA : Nat} {oA : Nat} (hb1 : ModelAt sh mA oA)  : Gv m_X11_hasPlayed [.ref 242, .int x1] sh M (.int (V_X11_hasPlayed x1 M)) M := by
  refine Sp.of (ls := [some (.ref 242), some (.int x1)]) (by decide +kernel) (Nat.le_of_ble_eq_true rfl) rfl ?_
  have k0 : kd sh 242 = some (10 + 7, 0) := hb1.1
  refine r_aload_n e_X11_hasPlayed_0 rfl ?_
  refine r_getI e_X11_hasPlayed_1 fl_X11_408 i0 k0 ?_
  refine r_iload_n e_X11_hasPlayed_4 rfl ?_
  refine r_ishr e_X11_hasPlayed_5 ?_
  refine r_iconst e_X11_hasPlayed_6 ic_1 ?_
  refine r_iand e_X11_hasPlayed_7 ?_
  refine r_iconst e_X11_hasPlayed_8 ic_1 ?_
  obtain ⟨v0_0, e_v0_0⟩ : ∃ z : Int32, z = (if (((M.1 242 42) >>> (x1 &&& 31)) &&& (1 : Int32)) = (1 : Int32) then (1 : Int32) else (0 : Int32)) := ⟨_, rfl⟩
  have z_v0_0 : v0_0 = 0 ∨ v0_0 = 1 := by rw [e_v0_0]; exact (zi (Or.inr rfl) (Or.inl rfl))
  suffices j17_0 : WP m_X11_hasPlayed (fun r sh' M'' => r = some (.int (V_X11_hasPlayed x1 M)) ∧ sh' = sh ∧ M'' = M) 17 [some (.ref 242), some (.int x1)] [.int v0_0] sh M 0 0 by
    refine r_icmp_ne e_X11_hasPlayed_9 (fun h9_0 => ?_) (fun h9_0 => ?_)
    · refine r_iconst e_X11_hasPlayed_16 ic_0 ?_
      (rw [show v0_0 = (0 : Int32) from (e_v0_0.trans (if_neg h9_0))] at j17_0; exact j17_0)
    · refine r_iconst e_X11_hasPlayed_12 ic_1 ?_
      refine r_goto e_X11_hasPlayed_13 ?_
      (rw [show v0_0 = (1 : Int32) from (e_v0_0.trans (if_pos h9_0))] at j17_0; exact j17_0)
  refine r_zreturn e_X11_hasPlayed_17 rfl ⟨rfl, rfl⟩ z_v0_0 ?_
  (subst e_v0_0; refine ⟨?_, rfl, ?_⟩ <;> ((try unfold V_X11_hasPlayed); (try simp only []); (try rfl)))
def V_X11_isAhead (x1 : Int32) (x2 : Int32) (M : Mem) : Int32 := if (M.1 265 x1.toNatClampNeg) = (M.1 265 x2.toNatClampNeg) then (if ((M.1 266 x1.toNatClampNeg) - (M.1 267 x1.toNatClampNeg)) = ((M.1 266 x2.toNatClampNeg) - (M.1 267 x2.toNatClampNeg)) then (let v2_0 : Int32 := if (M.1 266 x1.toNatClampNeg) = (M.1 266 x2.toNatClampNeg) then (if x2 ≤ x1 then (0 : Int32) else (1 : Int32)) else (if (M.1 266 x1.toNatClampNeg) ≤ (M.1 266 x2.toNatClampNeg) then (0 : Int32) else (1 : Int32)); v2_0) else (let v5_0 : Int32 := if ((M.1 266 x1.toNatClampNeg) - (M.1 267 x1.toNatClampNeg)) ≤ ((M.1 266 x2.toNatClampNeg) - (M.1 267 x2.toNatClampNeg)) then (0 : Int32) else (1 : Int32); v5_0)) else (let v6_0 : Int32 := if (M.1 265 x1.toNatClampNeg) ≤ (M.1 265 x2.toNatClampNeg) then (0 : Int32) else (1 : Int32); v6_0)
theorem Z_X11_isAhead {M : Mem} {x1 : Int32} {x2 : Int32}   : V_X11_isAhead x1 x2 M = 0 ∨ V_X11_isAhead x1 x2 M = 1 := (zi (zi (zi (zi (Or.inl rfl) (Or.inr rfl)) (zi (Or.inl rfl) (Or.inr rfl))) (zi (Or.inl rfl) (Or.inr rfl))) (zi (Or.inl rfl) (Or.inr rfl)))
def P_X11_isAhead (x1 : Int32) (x2 : Int32) (M : Mem) : Prop := ((M.1 265 x1.toNatClampNeg) = (M.1 265 x2.toNatClampNeg) → vp_in x1 4) ∧ ((M.1 265 x1.toNatClampNeg) = (M.1 265 x2.toNatClampNeg) → vp_in x2 4) ∧ ((M.1 265 x1.toNatClampNeg) = (M.1 265 x2.toNatClampNeg) → ((M.1 266 x1.toNatClampNeg) - (M.1 267 x1.toNatClampNeg)) = ((M.1 266 x2.toNatClampNeg) - (M.1 267 x2.toNatClampNeg)) → vp_in x1 4) ∧ ((M.1 265 x1.toNatClampNeg) = (M.1 265 x2.toNatClampNeg) → ((M.1 266 x1.toNatClampNeg) - (M.1 267 x1.toNatClampNeg)) = ((M.1 266 x2.toNatClampNeg) - (M.1 267 x2.toNatClampNeg)) → vp_in x2 4) ∧ ((M.1 265 x1.toNatClampNeg) = (M.1 265 x2.toNatClampNeg) → ((M.1 266 x1.toNatClampNeg) - (M.1 267 x1.toNatClampNeg)) = ((M.1 266 x2.toNatClampNeg) - (M.1 267 x2.toNatClampNeg)) → ¬ ((M.1 266 x1.toNatClampNeg) = (M.1 266 x2.toNatClampNeg)) → vp_in x1 4) ∧ ((M.1 265 x1.toNatClampNeg) = (M.1 265 x2.toNatClampNeg) → ((M.1 266 x1.toNatClampNeg) - (M.1 267 x1.toNatClampNeg)) = ((M.1 266 x2.toNatClampNeg) - (M.1 267 x2.toNatClampNeg)) → ¬ ((M.1 266 x1.toNatClampNeg) = (M.1 266 x2.toNatClampNeg)) → vp_in x2 4) ∧ ((M.1 265 x1.toNatClampNeg) = (M.1 265 x2.toNatClampNeg) → ¬ (((M.1 266 x1.toNatClampNeg) - (M.1 267 x1.toNatClampNeg)) = ((M.1 266 x2.toNatClampNeg) - (M.1 267 x2.toNatClampNeg))) → vp_in x1 4) ∧ ((M.1 265 x1.toNatClampNeg) = (M.1 265 x2.toNatClampNeg) → ¬ (((M.1 266 x1.toNatClampNeg) - (M.1 267 x1.toNatClampNeg)) = ((M.1 266 x2.toNatClampNeg) - (M.1 267 x2.toNatClampNeg))) → vp_in x2 4) ∧ (¬ ((M.1 265 x1.toNatClampNeg) = (M.1 265 x2.toNatClampNeg)) → vp_in x1 4) ∧ (¬ ((M.1 265 x1.toNatClampNeg) = (M.1 265 x2.toNatClampNeg)) → vp_in x2 4)
theorem S_X11_isAhead {sh : List SC} {M : Mem} {x1 : Int32} {x2 : Int32} {mA : Nat} {oA : Nat} (hb1 : ModelAt sh mA oA) (g1 : vp_in x1 4) (g2 : vp_in x2 4) (hP : P_X11_isAhead x1 x2 M) : Gv m_X11_isAhead [.ref 242, .int x1, .int x2] sh M (.int (V_X11_isAhead x1 x2 M)) M := by
  refine Sp.of (ls := [some (.ref 242), some (.int x1), some (.int x2)]) (by decide +kernel) (Nat.le_of_ble_eq_true rfl) rfl ?_
  obtain ⟨g3, g4, g5, g6, g7, g8, g9, g10, g11, g12⟩ := hP
  have k0 : kd sh 242 = some (10 + 7, 0) := hb1.1
  have k1 : rf sh 242 43 = some 265 := hb1.2.2.2.2.2.2.2.2.2.2.2.2.2.2.2.2.2.2.2.2.2.2.2.1
  have k2 : kd sh 265 = some (0, 4) := hb1.2.2.2.2.2.2.2.2.2.2.2.2.2.2.2.2.2.2.2.2.2.2.2.2.2.2.2.2.2.2.2.2.2.2.2.2.2.2.2.2.2.2.2.2.2.2.2.1
  have k3 : rf sh 242 44 = some 266 := hb1.2.2.2.2.2.2.2.2.2.2.2.2.2.2.2.2.2.2.2.2.2.2.2.2.1
  have k4 : kd sh 266 = some (0, 4) := hb1.2.2.2.2.2.2.2.2.2.2.2.2.2.2.2.2.2.2.2.2.2.2.2.2.2.2.2.2.2.2.2.2.2.2.2.2.2.2.2.2.2.2.2.2.2.2.2.2.1
  have k5 : rf sh 242 45 = some 267 := hb1.2.2.2.2.2.2.2.2.2.2.2.2.2.2.2.2.2.2.2.2.2.2.2.2.2.1
  have k6 : kd sh 267 = some (0, 4) := hb1.2.2.2.2.2.2.2.2.2.2.2.2.2.2.2.2.2.2.2.2.2.2.2.2.2.2.2.2.2.2.2.2.2.2.2.2.2.2.2.2.2.2.2.2.2.2.2.2.2.1
  refine r_aload_n e_X11_isAhead_0 rfl ?_
  refine r_getR e_X11_isAhead_1 fl_X11_233 k0 k1 ?_
  refine r_iload_n e_X11_isAhead_4 rfl ?_
  refine r_iaload e_X11_isAhead_5 k2 g1 ?_
  refine r_aload_n e_X11_isAhead_6 rfl ?_
  refine r_getR e_X11_isAhead_7 fl_X11_233 k0 k1 ?_
  refine r_iload_n e_X11_isAhead_10 rfl ?_
  refine r_iaload e_X11_isAhead_11 k2 g2 ?_
  refine r_icmp_eq e_X11_isAhead_12 (fun h12_0 => ?_) (fun h12_0 => ?_)
  · refine r_aload_n e_X11_isAhead_36 rfl ?_
    refine r_getR e_X11_isAhead_37 fl_X11_236 k0 k3 ?_
    refine r_iload_n e_X11_isAhead_40 rfl ?_
    refine r_iaload e_X11_isAhead_41 k4 (g3 h12_0) ?_
    refine r_aload_n e_X11_isAhead_42 rfl ?_
    refine r_getR e_X11_isAhead_43 fl_X11_239 k0 k5 ?_
    refine r_iload_n e_X11_isAhead_46 rfl ?_
    refine r_iaload e_X11_isAhead_47 k6 (g3 h12_0) ?_
    refine r_isub e_X11_isAhead_48 ?_
    refine r_aload_n e_X11_isAhead_49 rfl ?_
    refine r_getR e_X11_isAhead_50 fl_X11_236 k0 k3 ?_
    refine r_iload_n e_X11_isAhead_53 rfl ?_
    refine r_iaload e_X11_isAhead_54 k4 (g4 h12_0) ?_
    refine r_aload_n e_X11_isAhead_55 rfl ?_
    refine r_getR e_X11_isAhead_56 fl_X11_239 k0 k5 ?_
    refine r_iload_n e_X11_isAhead_59 rfl ?_
    refine r_iaload e_X11_isAhead_60 k6 (g4 h12_0) ?_
    refine r_isub e_X11_isAhead_61 ?_
    refine r_icmp_eq e_X11_isAhead_62 (fun h62_1 => ?_) (fun h62_1 => ?_)
    · refine r_aload_n e_X11_isAhead_100 rfl ?_
      refine r_getR e_X11_isAhead_101 fl_X11_236 k0 k3 ?_
      refine r_iload_n e_X11_isAhead_104 rfl ?_
      refine r_iaload e_X11_isAhead_105 k4 (g5 h12_0 h62_1) ?_
      refine r_aload_n e_X11_isAhead_106 rfl ?_
      refine r_getR e_X11_isAhead_107 fl_X11_236 k0 k3 ?_
      refine r_iload_n e_X11_isAhead_110 rfl ?_
      refine r_iaload e_X11_isAhead_111 k4 (g6 h12_0 h62_1) ?_
      obtain ⟨v2_0, e_v2_0⟩ : ∃ z : Int32, z = (if (M.1 266 x1.toNatClampNeg) = (M.1 266 x2.toNatClampNeg) then (if x2 ≤ x1 then (0 : Int32) else (1 : Int32)) else (if (M.1 266 x1.toNatClampNeg) ≤ (M.1 266 x2.toNatClampNeg) then (0 : Int32) else (1 : Int32))) := ⟨_, rfl⟩
      have z_v2_0 : v2_0 = 0 ∨ v2_0 = 1 := by rw [e_v2_0]; exact (zi (zi (Or.inl rfl) (Or.inr rfl)) (zi (Or.inl rfl) (Or.inr rfl)))
      suffices j148_2 : WP m_X11_isAhead (fun r sh' M'' => r = some (.int (V_X11_isAhead x1 x2 M)) ∧ sh' = sh ∧ M'' = M) 148 [some (.ref 242), some (.int x1), some (.int x2)] [.int v2_0] sh M 0 0 by
        refine r_icmp_eq e_X11_isAhead_112 (fun h112_2 => ?_) (fun h112_2 => ?_)
        · refine r_iload_n e_X11_isAhead_138 rfl ?_
          refine r_iload_n e_X11_isAhead_139 rfl ?_
          refine r_icmp_ge e_X11_isAhead_140 (fun h140_3 => ?_) (fun h140_3 => ?_)
          · refine r_iconst e_X11_isAhead_147 ic_0 ?_
            (rw [show v2_0 = (0 : Int32) from ((e_v2_0.trans (if_pos h112_2)).trans (if_pos h140_3))] at j148_2; exact j148_2)
          · refine r_iconst e_X11_isAhead_143 ic_1 ?_
            refine r_goto e_X11_isAhead_144 ?_
            (rw [show v2_0 = (1 : Int32) from ((e_v2_0.trans (if_pos h112_2)).trans (if_neg h140_3))] at j148_2; exact j148_2)
        · refine r_aload_n e_X11_isAhead_115 rfl ?_
          refine r_getR e_X11_isAhead_116 fl_X11_236 k0 k3 ?_
          refine r_iload_n e_X11_isAhead_119 rfl ?_
          refine r_iaload e_X11_isAhead_120 k4 (g7 h12_0 h62_1 h112_2) ?_
          refine r_aload_n e_X11_isAhead_121 rfl ?_
          refine r_getR e_X11_isAhead_122 fl_X11_236 k0 k3 ?_
          refine r_iload_n e_X11_isAhead_125 rfl ?_
          refine r_iaload e_X11_isAhead_126 k4 (g8 h12_0 h62_1 h112_2) ?_
          refine r_icmp_le e_X11_isAhead_127 (fun h127_4 => ?_) (fun h127_4 => ?_)
          · refine r_iconst e_X11_isAhead_134 ic_0 ?_
            refine r_goto e_X11_isAhead_135 ?_
            (rw [show v2_0 = (0 : Int32) from ((e_v2_0.trans (if_neg h112_2)).trans (if_pos h127_4))] at j148_2; exact j148_2)
          · refine r_iconst e_X11_isAhead_130 ic_1 ?_
            refine r_goto e_X11_isAhead_131 ?_
            (rw [show v2_0 = (1 : Int32) from ((e_v2_0.trans (if_neg h112_2)).trans (if_neg h127_4))] at j148_2; exact j148_2)
      refine r_zreturn e_X11_isAhead_148 rfl ⟨rfl, rfl⟩ z_v2_0 ?_
      (subst e_v2_0; refine ⟨?_, rfl, ?_⟩ <;> ((try unfold V_X11_isAhead); (try simp only [if_pos h12_0, if_pos h62_1]); (try rfl)))
    · refine r_aload_n e_X11_isAhead_65 rfl ?_
      refine r_getR e_X11_isAhead_66 fl_X11_236 k0 k3 ?_
      refine r_iload_n e_X11_isAhead_69 rfl ?_
      refine r_iaload e_X11_isAhead_70 k4 (g9 h12_0 h62_1) ?_
      refine r_aload_n e_X11_isAhead_71 rfl ?_
      refine r_getR e_X11_isAhead_72 fl_X11_239 k0 k5 ?_
      refine r_iload_n e_X11_isAhead_75 rfl ?_
      refine r_iaload e_X11_isAhead_76 k6 (g9 h12_0 h62_1) ?_
      refine r_isub e_X11_isAhead_77 ?_
      refine r_aload_n e_X11_isAhead_78 rfl ?_
      refine r_getR e_X11_isAhead_79 fl_X11_236 k0 k3 ?_
      refine r_iload_n e_X11_isAhead_82 rfl ?_
      refine r_iaload e_X11_isAhead_83 k4 (g10 h12_0 h62_1) ?_
      refine r_aload_n e_X11_isAhead_84 rfl ?_
      refine r_getR e_X11_isAhead_85 fl_X11_239 k0 k5 ?_
      refine r_iload_n e_X11_isAhead_88 rfl ?_
      refine r_iaload e_X11_isAhead_89 k6 (g10 h12_0 h62_1) ?_
      refine r_isub e_X11_isAhead_90 ?_
      obtain ⟨v5_0, e_v5_0⟩ : ∃ z : Int32, z = (if ((M.1 266 x1.toNatClampNeg) - (M.1 267 x1.toNatClampNeg)) ≤ ((M.1 266 x2.toNatClampNeg) - (M.1 267 x2.toNatClampNeg)) then (0 : Int32) else (1 : Int32)) := ⟨_, rfl⟩
      have z_v5_0 : v5_0 = 0 ∨ v5_0 = 1 := by rw [e_v5_0]; exact (zi (Or.inl rfl) (Or.inr rfl))
      suffices j99_5 : WP m_X11_isAhead (fun r sh' M'' => r = some (.int (V_X11_isAhead x1 x2 M)) ∧ sh' = sh ∧ M'' = M) 99 [some (.ref 242), some (.int x1), some (.int x2)] [.int v5_0] sh M 0 0 by
        refine r_icmp_le e_X11_isAhead_91 (fun h91_5 => ?_) (fun h91_5 => ?_)
        · refine r_iconst e_X11_isAhead_98 ic_0 ?_
          (rw [show v5_0 = (0 : Int32) from (e_v5_0.trans (if_pos h91_5))] at j99_5; exact j99_5)
        · refine r_iconst e_X11_isAhead_94 ic_1 ?_
          refine r_goto e_X11_isAhead_95 ?_
          (rw [show v5_0 = (1 : Int32) from (e_v5_0.trans (if_neg h91_5))] at j99_5; exact j99_5)
      refine r_zreturn e_X11_isAhead_99 rfl ⟨rfl, rfl⟩ z_v5_0 ?_
      (subst e_v5_0; refine ⟨?_, rfl, ?_⟩ <;> ((try unfold V_X11_isAhead); (try simp only [if_pos h12_0, if_neg h62_1]); (try rfl)))
  · refine r_aload_n e_X11_isAhead_15 rfl ?_
    refine r_getR e_X11_isAhead_16 fl_X11_233 k0 k1 ?_
    refine r_iload_n e_X11_isAhead_19 rfl ?_
    refine r_iaload e_X11_isAhead_20 k2 (g11 h12_0) ?_
    refine r_aload_n e_X11_isAhead_21 rfl ?_
    refine r_getR e_X11_isAhead_22 fl_X11_233 k0 k1 ?_
    refine r_iload_n e_X11_isAhead_25 rfl ?_
    refine r_iaload e_X11_isAhead_26 k2 (g12 h12_0) ?_
    obtain ⟨v6_0, e_v6_0⟩ : ∃ z : Int32, z = (if (M.1 265 x1.toNatClampNeg) ≤ (M.1 265 x2.toNatClampNeg) then (0 : Int32) else (1 : Int32)) := ⟨_, rfl⟩
    have z_v6_0 : v6_0 = 0 ∨ v6_0 = 1 := by rw [e_v6_0]; exact (zi (Or.inl rfl) (Or.inr rfl))
    suffices j35_6 : WP m_X11_isAhead (fun r sh' M'' => r = some (.int (V_X11_isAhead x1 x2 M)) ∧ sh' = sh ∧ M'' = M) 35 [some (.ref 242), some (.int x1), some (.int x2)] [.int v6_0] sh M 0 0 by
      refine r_icmp_le e_X11_isAhead_27 (fun h27_6 => ?_) (fun h27_6 => ?_)
      · refine r_iconst e_X11_isAhead_34 ic_0 ?_
        (rw [show v6_0 = (0 : Int32) from (e_v6_0.trans (if_pos h27_6))] at j35_6; exact j35_6)
      · refine r_iconst e_X11_isAhead_30 ic_1 ?_
        refine r_goto e_X11_isAhead_31 ?_
        (rw [show v6_0 = (1 : Int32) from (e_v6_0.trans (if_neg h27_6))] at j35_6; exact j35_6)
    refine r_zreturn e_X11_isAhead_35 rfl ⟨rfl, rfl⟩ z_v6_0 ?_
    (subst e_v6_0; refine ⟨?_, rfl, ?_⟩ <;> ((try unfold V_X11_isAhead); (try simp only [if_neg h12_0]); (try rfl)))
def V_X11_tell (x1 : Int32) (M : Mem) : Int32 := if (M.1 242 46) = (20 : Int32) then (V_X11_finding (-1002 : Int32) M) else ((M.1 242 46) + (1 : Int32))
def U_X11_tell (x1 : Int32) (M : Mem) : Mem := if (M.1 242 46) = (20 : Int32) then (U_X11_finding (-1002 : Int32) M) else (setI (setI M 268 (M.1 242 46).toNatClampNeg x1) 242 46 ((M.1 242 46) + (1 : Int32)))
def P_X11_tell (x1 : Int32) (M : Mem) : Prop := (¬ ((M.1 242 46) = (20 : Int32)) → vp_in (M.1 242 46) 20)
theorem S_X11_tell {sh : List SC} {M : Mem} {x1 : Int32} {mA : Nat} {oA : Nat} (hb1 : ModelAt sh mA oA)  (hP : P_X11_tell x1 M) : Gv m_X11_tell [.ref 242, .int x1] sh M (.int (V_X11_tell x1 M)) (U_X11_tell x1 M) := by
  refine Sp.of (ls := [some (.ref 242), some (.int x1)]) (by decide +kernel) (Nat.le_of_ble_eq_true rfl) rfl ?_
  have g1 : ¬ ((M.1 242 46) = (20 : Int32)) → vp_in (M.1 242 46) 20 := hP
  have k0 : kd sh 242 = some (10 + 7, 0) := hb1.1
  have k1 : rf sh 242 47 = some 268 := hb1.2.2.2.2.2.2.2.2.2.2.2.2.2.2.2.2.2.2.2.2.2.2.2.2.2.2.1
  have k2 : kd sh 268 = some (0, 20) := hb1.2.2.2.2.2.2.2.2.2.2.2.2.2.2.2.2.2.2.2.2.2.2.2.2.2.2.2.2.2.2.2.2.2.2.2.2.2.2.2.2.2.2.2.2.2.2.2.2.2.2.1
  refine r_aload_n e_X11_tell_0 rfl ?_
  refine r_getI e_X11_tell_1 fl_X11_421 i0 k0 ?_
  refine r_bipush e_X11_tell_4 bp_20 ?_
  refine r_icmp_ne e_X11_tell_6 (fun h6_0 => ?_) (fun h6_0 => ?_)
  · refine r_aload_n e_X11_tell_17 rfl ?_
    refine r_getR e_X11_tell_18 fl_X11_242 k0 k1 ?_
    refine r_aload_n e_X11_tell_21 rfl ?_
    refine r_getI e_X11_tell_22 fl_X11_421 i0 k0 ?_
    refine r_iload_n e_X11_tell_25 rfl ?_
    refine r_iastore e_X11_tell_26 k2 (g1 h6_0) ?_
    refine r_aload_n e_X11_tell_27 rfl ?_
    refine r_dup e_X11_tell_28 rfl ?_
    refine r_getIe e_X11_tell_29 fl_X11_421 i0 k0 (gs_aI (by omega)) ?_
    refine r_iconst e_X11_tell_32 ic_1 ?_
    refine r_iadd e_X11_tell_33 ?_
    refine r_putI e_X11_tell_34 fl_X11_421 k0 ?_
    refine r_aload_n e_X11_tell_37 rfl ?_
    refine r_getIe e_X11_tell_38 fl_X11_421 i0 k0 gs_eI ?_
    refine r_ireturn e_X11_tell_41 rfl ⟨rfl, rfl⟩ ?_
    (refine ⟨?_, rfl, ?_⟩ <;> ((try unfold V_X11_tell); (try unfold U_X11_tell); (try simp only [if_neg h6_0]); (try rfl)))
  · refine r_aload_n e_X11_tell_9 rfl ?_
    refine r_sipush e_X11_tell_10 sp_m1002 ?_
    refine cV1v e_X11_tell_13 cl_X11_178 ⟨Nat.le_of_ble_eq_true rfl, Nat.le_of_ble_eq_true rfl⟩ ⟨rfl, rfl⟩ k0 (Nat.le_of_ble_eq_true rfl) (S_X11_finding hb1 (by first | decide | (unfold vp_in; decide) | exact Or.inl rfl | exact Or.inr rfl)) ?_
    refine r_ireturn e_X11_tell_16 rfl ⟨rfl, rfl⟩ ?_
    (refine ⟨?_, rfl, ?_⟩ <;> ((try unfold V_X11_tell); (try unfold U_X11_tell); (try simp only [if_pos h6_0]); (try rfl)))
def FV_X11_check_27 (mA : Nat) (w1 : Int32) : Nat → Int32 → Mem → Int32
  | 0, u2, M => 0
  | n + 1, u2, M => if (M.1 mA 12) ≤ u2 then (if w1 ≤ (M.1 mA 12) then (0 : Int32) else (99 : Int32)) else (if w1 ≤ u2 then ((1 : Int32) + u2) else (if (M.1 268 u2.toNatClampNeg) = (M.1 mA ((24 : Int32) + u2).toNatClampNeg) then (FV_X11_check_27 mA w1 n (u2 + 1) M) else ((1 : Int32) + u2)))
def T_X11_check_27 (mA : Nat) (w1 : Int32) : Nat → Int32 → Mem → Prop
  | 0, u2, M => False
  | n + 1, u2, M => (vp_in u2 20) ∧ (vp_in ((24 : Int32) + u2) 212) ∧ ((if (M.1 mA 12) ≤ u2 then (if w1 ≤ (M.1 mA 12) then True else True) else (if w1 ≤ u2 then True else (if (M.1 268 u2.toNatClampNeg) = (M.1 mA ((24 : Int32) + u2).toNatClampNeg) then (T_X11_check_27 mA w1 n (u2 + 1) M) else True))))
theorem L_X11_check_27 {sh : List SC} {Q : Po}  {mA : Nat} {oA : Nat} {w1 : Int32}  (hb1 : ModelAt sh mA oA)   : ∀ (n : Nat) (u2 : Int32) (M : Mem), T_X11_check_27 mA w1 n u2 M → Q (some (.int (FV_X11_check_27 mA w1 n u2 M))) sh M → WP m_X11_check Q 27 [some (.ref 242), some (.int w1), some (.int u2)] [] sh M 0 0 := by
  have k0 : kd sh 242 = some (10 + 7, 0) := hb1.1
  have k1 : rf sh 242 27 = some mA := hb1.2.2.2.2.2.2.2.2.2.2.2.2.2.2.2.2.2.1
  have k2 : kd sh mA = some (0, 212) := hb1.2.2.2.2.2.2.2.2.2.2.2.2.2.2.2.2.2.2.2.2.2.2.2.2.2.2.2.2.2.2.2.2.2.2.2.2.2.2.2.2.2.2.2.2.2.2.2.2.2.2.2.1
  have k3 : rf sh 242 47 = some 268 := hb1.2.2.2.2.2.2.2.2.2.2.2.2.2.2.2.2.2.2.2.2.2.2.2.2.2.2.1
  have k4 : kd sh 268 = some (0, 20) := hb1.2.2.2.2.2.2.2.2.2.2.2.2.2.2.2.2.2.2.2.2.2.2.2.2.2.2.2.2.2.2.2.2.2.2.2.2.2.2.2.2.2.2.2.2.2.2.2.2.2.2.1
  intro n
  induction n with
  | zero =>
    intro u2 M hH hq
    exact hH.elim
  | succ n ih =>
    intro u2 M hH hq
    unfold T_X11_check_27 at hH
    obtain ⟨g1, g2, hH⟩ := hH
    refine r_iload_n e_X11_check_27 rfl ?_
    refine r_aload_n e_X11_check_28 rfl ?_
    refine r_getR e_X11_check_29 fl_X11_212 k0 k1 ?_
    refine r_bipush e_X11_check_32 bp_12 ?_
    refine r_ialoade (v := (M.1 mA 12)) e_X11_check_34 k2 (by unfold vp_in; decide) (show M.1 mA (12 : Int32).toNatClampNeg = M.1 mA 12 by rw [show (12 : Int32).toNatClampNeg = 12 from rfl]) ?_
    refine r_icmp_ge e_X11_check_35 (fun h35_2701 => ?_) (fun h35_2701 => ?_)
    · refine r_iload_n e_X11_check_71 rfl ?_
      refine r_aload_n e_X11_check_72 rfl ?_
      refine r_getR e_X11_check_73 fl_X11_212 k0 k1 ?_
      refine r_bipush e_X11_check_76 bp_12 ?_
      refine r_ialoade (v := (M.1 mA 12)) e_X11_check_78 k2 (by unfold vp_in; decide) (show M.1 mA (12 : Int32).toNatClampNeg = M.1 mA 12 by rw [show (12 : Int32).toNatClampNeg = 12 from rfl]) ?_
      refine r_icmp_le e_X11_check_79 (fun h79_2702 => ?_) (fun h79_2702 => ?_)
      · refine r_iconst e_X11_check_87 ic_0 ?_
        refine r_ireturn e_X11_check_88 rfl ⟨rfl, rfl⟩ ?_
        (simp only [FV_X11_check_27, if_pos h35_2701, if_pos h79_2702] at hq; first | exact hq | (simp only [if_pos h35_2701, if_pos h79_2702]; exact hq))
      · refine r_bipush e_X11_check_82 bp_99 ?_
        refine r_goto e_X11_check_84 ?_
        refine r_ireturn e_X11_check_88 rfl ⟨rfl, rfl⟩ ?_
        (simp only [FV_X11_check_27, if_pos h35_2701, if_neg h79_2702] at hq; first | exact hq | (simp only [if_pos h35_2701, if_neg h79_2702]; exact hq))
    · refine r_iload_n e_X11_check_38 rfl ?_
      refine r_iload_n e_X11_check_39 rfl ?_
      refine r_icmp_ge e_X11_check_40 (fun h40_2703 => ?_) (fun h40_2703 => ?_)
      · refine r_iconst e_X11_check_61 ic_1 ?_
        refine r_iload_n e_X11_check_62 rfl ?_
        refine r_iadd e_X11_check_63 ?_
        refine r_ireturn e_X11_check_64 rfl ⟨rfl, rfl⟩ ?_
        (simp only [FV_X11_check_27, if_neg h35_2701, if_pos h40_2703] at hq; first | exact hq | (simp only [if_neg h35_2701, if_pos h40_2703]; exact hq))
      · refine r_aload_n e_X11_check_43 rfl ?_
        refine r_getR e_X11_check_44 fl_X11_242 k0 k3 ?_
        refine r_iload_n e_X11_check_47 rfl ?_
        refine r_iaload e_X11_check_48 k4 g1 ?_
        refine r_aload_n e_X11_check_49 rfl ?_
        refine r_getR e_X11_check_50 fl_X11_212 k0 k1 ?_
        refine r_bipush e_X11_check_53 bp_24 ?_
        refine r_iload_n e_X11_check_55 rfl ?_
        refine r_iadd e_X11_check_56 ?_
        refine r_iaload e_X11_check_57 k2 g2 ?_
        refine r_icmp_eq e_X11_check_58 (fun h58_2704 => ?_) (fun h58_2704 => ?_)
        · refine p_iinc_3_2 e_X11_check_65 rfl ic_1 rfl ?_
          refine r_goto e_X11_check_68 ?_
          (simp only [FV_X11_check_27, if_neg h35_2701, if_neg h40_2703, if_pos h58_2704] at hq; (try simp only [if_neg h35_2701, if_neg h40_2703, if_pos h58_2704] at hH); first | exact ih _ _ hH hq | (simp only [if_neg h35_2701, if_neg h40_2703, if_pos h58_2704]; exact ih _ _ hH hq))
        · refine r_iconst e_X11_check_61 ic_1 ?_
          refine r_iload_n e_X11_check_62 rfl ?_
          refine r_iadd e_X11_check_63 ?_
          refine r_ireturn e_X11_check_64 rfl ⟨rfl, rfl⟩ ?_
          (simp only [FV_X11_check_27, if_neg h35_2701, if_neg h40_2703, if_neg h58_2704] at hq; first | exact hq | (simp only [if_neg h35_2701, if_neg h40_2703, if_neg h58_2704]; exact hq))
def V_X11_check (mA : Nat) (M : Mem) : Int32 := if (V_X11_isMatch  mA (setI M 242 46 (0 : Int32))) = 0 then (V_X11_finding (-1003 : Int32) (setI M 242 46 (0 : Int32))) else (FV_X11_check_27 mA (M.1 242 46) FUEL (0 : Int32) (setI M 242 46 (0 : Int32)))
def U_X11_check (mA : Nat) (M : Mem) : Mem := if (V_X11_isMatch  mA (setI M 242 46 (0 : Int32))) = 0 then (U_X11_finding (-1003 : Int32) (setI M 242 46 (0 : Int32))) else (setI M 242 46 (0 : Int32))
def P_X11_check (mA : Nat) (M : Mem) : Prop := (¬ ((V_X11_isMatch  mA (setI M 242 46 (0 : Int32))) = 0) → T_X11_check_27 mA (M.1 242 46) FUEL (0 : Int32) (setI M 242 46 (0 : Int32)))
theorem S_X11_check {sh : List SC} {M : Mem}  {mA : Nat} {oA : Nat} (hb1 : ModelAt sh mA oA)  (hP : P_X11_check mA M) : Gv m_X11_check [.ref 242] sh M (.int (V_X11_check mA M)) (U_X11_check mA M) := by
  refine Sp.of (ls := [some (.ref 242), none, none]) (by decide +kernel) (Nat.le_of_ble_eq_true rfl) rfl ?_
  have g1 : ¬ ((V_X11_isMatch  mA (setI M 242 46 (0 : Int32))) = 0) → T_X11_check_27 mA (M.1 242 46) FUEL (0 : Int32) (setI M 242 46 (0 : Int32)) := hP
  have k0 : kd sh 242 = some (10 + 7, 0) := hb1.1
  refine r_aload_n e_X11_check_0 rfl ?_
  refine r_getI e_X11_check_1 fl_X11_421 i0 k0 ?_
  refine p_istore_n_3_1 e_X11_check_4 rfl rfl ?_
  refine r_aload_n e_X11_check_5 rfl ?_
  refine r_iconst e_X11_check_6 ic_0 ?_
  refine r_putI e_X11_check_7 fl_X11_421 k0 ?_
  refine r_aload_n e_X11_check_10 rfl ?_
  refine cV0v e_X11_check_11 cl_X11_394 ⟨Nat.le_of_ble_eq_true rfl, Nat.le_of_ble_eq_true rfl⟩ ⟨rfl, rfl⟩ k0 (Nat.le_of_ble_eq_true rfl) (S_X11_isMatch hb1) ?_
  refine r_if_ne e_X11_check_14 (fun h14_0 => ?_) (fun h14_0 => ?_)
  · refine r_iconst e_X11_check_25 ic_0 ?_
    refine p_istore_n_3_2 e_X11_check_26 rfl rfl ?_
    refine L_X11_check_27 hb1 FUEL (0 : Int32) (setI M 242 46 (0 : Int32)) (g1 h14_0) ?_
    (refine ⟨?_, rfl, ?_⟩ <;> ((try unfold V_X11_check); (try unfold U_X11_check); (try simp only [if_neg h14_0]); (try rfl)))
  · refine r_aload_n e_X11_check_17 rfl ?_
    refine r_sipush e_X11_check_18 sp_m1003 ?_
    refine cV1v e_X11_check_21 cl_X11_178 ⟨Nat.le_of_ble_eq_true rfl, Nat.le_of_ble_eq_true rfl⟩ ⟨rfl, rfl⟩ k0 (Nat.le_of_ble_eq_true rfl) (S_X11_finding hb1 (by first | decide | (unfold vp_in; decide) | exact Or.inl rfl | exact Or.inr rfl)) ?_
    refine r_ireturn e_X11_check_24 rfl ⟨rfl, rfl⟩ ?_
    (refine ⟨?_, rfl, ?_⟩ <;> ((try unfold V_X11_check); (try unfold U_X11_check); (try simp only [if_pos h14_0]); (try rfl)))
def V_X11_count (x1 : Int32) (mA : Nat) (M : Mem) : Int32 := if x1 = 0 then (M.1 242 8) else (if x1 = 1 then (M.1 242 1) else (if x1 = 2 then (let v0_0 : Int32 := if (M.1 242 8) ≤ 0 then (0 : Int32) else (M.1 246 0); v0_0) else (if x1 = 3 then (M.1 242 46) else (if x1 = 4 then (let v1_0 : Int32 := if (V_X11_isMatch  mA M) = 0 then (0 : Int32) else (1 : Int32); v1_0) else (V_X11_finding (-1001 : Int32) M)))))
def U_X11_count (x1 : Int32) (mA : Nat) (M : Mem) : Mem := if x1 = 0 then M else (if x1 = 1 then M else (if x1 = 2 then M else (if x1 = 3 then M else (if x1 = 4 then M else (U_X11_finding (-1001 : Int32) M)))))
theorem S_X11_count {sh : List SC} {M : Mem} {x1 : Int32} {mA : Nat} {oA : Nat} (hb1 : ModelAt sh mA oA)  : Gv m_X11_count [.ref 242, .int x1] sh M (.int (V_X11_count x1 mA M)) (U_X11_count x1 mA M) := by
  refine Sp.of (ls := [some (.ref 242), some (.int x1)]) (by decide +kernel) (Nat.le_of_ble_eq_true rfl) rfl ?_
  have k0 : kd sh 242 = some (10 + 7, 0) := hb1.1
  have k1 : rf sh 242 12 = some 246 := hb1.2.2.2.2.1
  have k2 : kd sh 246 = some (0, 6) := hb1.2.2.2.2.2.2.2.2.2.2.2.2.2.2.2.2.2.2.2.2.2.2.2.2.2.2.2.2.2.2.1
  refine r_iload_n e_X11_count_0 rfl ?_
  by_cases hs1_0 : x1 = 0
  · refine r_tabIn (tgt := 36) (off := 35) e_X11_count_1 (by rw [hs1_0]; decide) (by rw [hs1_0]; decide) (by rw [hs1_0]; rfl) (by decide) ?_
    refine r_aload_n e_X11_count_36 rfl ?_
    refine r_getI e_X11_count_37 fl_X11_105 i0 k0 ?_
    refine r_ireturn e_X11_count_40 rfl ⟨rfl, rfl⟩ ?_
    (refine ⟨?_, rfl, ?_⟩ <;> ((try unfold V_X11_count); (try unfold U_X11_count); (try simp only [if_pos hs1_0]); (try rfl)))
  · by_cases hs1_1 : x1 = 1
    · refine r_tabIn (tgt := 41) (off := 40) e_X11_count_1 (by rw [hs1_1]; decide) (by rw [hs1_1]; decide) (by rw [hs1_1]; rfl) (by decide) ?_
      refine r_aload_n e_X11_count_41 rfl ?_
      refine r_getI e_X11_count_42 fl_X11_1 i0 k0 ?_
      refine r_ireturn e_X11_count_45 rfl ⟨rfl, rfl⟩ ?_
      (refine ⟨?_, rfl, ?_⟩ <;> ((try unfold V_X11_count); (try unfold U_X11_count); (try simp only [if_neg hs1_0, if_pos hs1_1]); (try rfl)))
    · by_cases hs1_2 : x1 = 2
      · refine r_tabIn (tgt := 46) (off := 45) e_X11_count_1 (by rw [hs1_2]; decide) (by rw [hs1_2]; decide) (by rw [hs1_2]; rfl) (by decide) ?_
        refine r_aload_n e_X11_count_46 rfl ?_
        refine r_getI e_X11_count_47 fl_X11_105 i0 k0 ?_
        obtain ⟨v0_0, e_v0_0⟩ : ∃ z : Int32, z = (if (M.1 242 8) ≤ 0 then (0 : Int32) else (M.1 246 0)) := ⟨_, rfl⟩
        suffices j63_0 : WP m_X11_count (fun r sh' M'' => r = some (.int (V_X11_count x1 mA M)) ∧ sh' = sh ∧ M'' = (U_X11_count x1 mA M)) 63 [some (.ref 242), some (.int x1)] [.int v0_0] sh M 0 0 by
          refine r_if_le e_X11_count_50 (fun h50_0 => ?_) (fun h50_0 => ?_)
          · refine r_iconst e_X11_count_62 ic_0 ?_
            (rw [show v0_0 = (0 : Int32) from (e_v0_0.trans (if_pos h50_0))] at j63_0; exact j63_0)
          · refine r_aload_n e_X11_count_53 rfl ?_
            refine r_getR e_X11_count_54 fl_X11_166 k0 k1 ?_
            refine r_iconst e_X11_count_57 ic_0 ?_
            refine r_ialoade (v := (M.1 246 0)) e_X11_count_58 k2 (by unfold vp_in; decide) (show M.1 246 (0 : Int32).toNatClampNeg = M.1 246 0 by rw [show (0 : Int32).toNatClampNeg = 0 from rfl]) ?_
            refine r_goto e_X11_count_59 ?_
            (rw [show v0_0 = (M.1 246 0) from (e_v0_0.trans (if_neg h50_0))] at j63_0; exact j63_0)
        refine r_ireturn e_X11_count_63 rfl ⟨rfl, rfl⟩ ?_
        (subst e_v0_0; refine ⟨?_, rfl, ?_⟩ <;> ((try unfold V_X11_count); (try unfold U_X11_count); (try simp only [if_neg hs1_0, if_neg hs1_1, if_pos hs1_2]); (try rfl)))
      · by_cases hs1_3 : x1 = 3
        · refine r_tabIn (tgt := 64) (off := 63) e_X11_count_1 (by rw [hs1_3]; decide) (by rw [hs1_3]; decide) (by rw [hs1_3]; rfl) (by decide) ?_
          refine r_aload_n e_X11_count_64 rfl ?_
          refine r_getI e_X11_count_65 fl_X11_421 i0 k0 ?_
          refine r_ireturn e_X11_count_68 rfl ⟨rfl, rfl⟩ ?_
          (refine ⟨?_, rfl, ?_⟩ <;> ((try unfold V_X11_count); (try unfold U_X11_count); (try simp only [if_neg hs1_0, if_neg hs1_1, if_neg hs1_2, if_pos hs1_3]); (try rfl)))
        · by_cases hs1_4 : x1 = 4
          · refine r_tabIn (tgt := 69) (off := 68) e_X11_count_1 (by rw [hs1_4]; decide) (by rw [hs1_4]; decide) (by rw [hs1_4]; rfl) (by decide) ?_
            refine r_aload_n e_X11_count_69 rfl ?_
            refine cV0v e_X11_count_70 cl_X11_394 ⟨Nat.le_of_ble_eq_true rfl, Nat.le_of_ble_eq_true rfl⟩ ⟨rfl, rfl⟩ k0 (Nat.le_of_ble_eq_true rfl) (S_X11_isMatch hb1) ?_
            obtain ⟨v1_0, e_v1_0⟩ : ∃ z : Int32, z = (if (V_X11_isMatch  mA M) = 0 then (0 : Int32) else (1 : Int32)) := ⟨_, rfl⟩
            have z_v1_0 : v1_0 = 0 ∨ v1_0 = 1 := by rw [e_v1_0]; exact (zi (Or.inl rfl) (Or.inr rfl))
            suffices j81_1 : WP m_X11_count (fun r sh' M'' => r = some (.int (V_X11_count x1 mA M)) ∧ sh' = sh ∧ M'' = (U_X11_count x1 mA M)) 81 [some (.ref 242), some (.int x1)] [.int v1_0] sh M 0 0 by
              refine r_if_eq e_X11_count_73 (fun h73_1 => ?_) (fun h73_1 => ?_)
              · refine r_iconst e_X11_count_80 ic_0 ?_
                (rw [show v1_0 = (0 : Int32) from (e_v1_0.trans (if_pos h73_1))] at j81_1; exact j81_1)
              · refine r_iconst e_X11_count_76 ic_1 ?_
                refine r_goto e_X11_count_77 ?_
                (rw [show v1_0 = (1 : Int32) from (e_v1_0.trans (if_neg h73_1))] at j81_1; exact j81_1)
            refine r_ireturn e_X11_count_81 rfl ⟨rfl, rfl⟩ ?_
            (subst e_v1_0; refine ⟨?_, rfl, ?_⟩ <;> ((try unfold V_X11_count); (try unfold U_X11_count); (try simp only [if_neg hs1_0, if_neg hs1_1, if_neg hs1_2, if_neg hs1_3, if_pos hs1_4]); (try rfl)))
          · refine r_tabOut (tgt := 82) e_X11_count_1 (by have q0 := lv_neT hs1_0 (show (0 : Int32).toInt = 0 from rfl); have q1 := lv_neT hs1_1 (show (1 : Int32).toInt = 1 from rfl); have q2 := lv_neT hs1_2 (show (2 : Int32).toInt = 2 from rfl); have q3 := lv_neT hs1_3 (show (3 : Int32).toInt = 3 from rfl); have q4 := lv_neT hs1_4 (show (4 : Int32).toInt = 4 from rfl); omega) (by decide) ?_
            refine r_aload_n e_X11_count_82 rfl ?_
            refine r_sipush e_X11_count_83 sp_m1001 ?_
            refine cV1v e_X11_count_86 cl_X11_178 ⟨Nat.le_of_ble_eq_true rfl, Nat.le_of_ble_eq_true rfl⟩ ⟨rfl, rfl⟩ k0 (Nat.le_of_ble_eq_true rfl) (S_X11_finding hb1 (by first | decide | (unfold vp_in; decide) | exact Or.inl rfl | exact Or.inr rfl)) ?_
            refine r_ireturn e_X11_count_89 rfl ⟨rfl, rfl⟩ ?_
            (refine ⟨?_, rfl, ?_⟩ <;> ((try unfold V_X11_count); (try unfold U_X11_count); (try simp only [if_neg hs1_0, if_neg hs1_1, if_neg hs1_2, if_neg hs1_3, if_neg hs1_4]); (try rfl)))
def V_X11_found (x1 : Int32) (M : Mem) : Int32 := (let v0_0 : Int32 := if (V_X11_in x1 (-1005 : Int32) (-1001 : Int32) M) = 0 then (V_X11_finding (-1001 : Int32) M) else (M.1 253 ((-1000 : Int32) - x1).toNatClampNeg); let M0_1 : Mem := if (V_X11_in x1 (-1005 : Int32) (-1001 : Int32) M) = 0 then (U_X11_finding (-1001 : Int32) M) else M; v0_0)
def U_X11_found (x1 : Int32) (M : Mem) : Mem := (let v0_0 : Int32 := if (V_X11_in x1 (-1005 : Int32) (-1001 : Int32) M) = 0 then (V_X11_finding (-1001 : Int32) M) else (M.1 253 ((-1000 : Int32) - x1).toNatClampNeg); let M0_1 : Mem := if (V_X11_in x1 (-1005 : Int32) (-1001 : Int32) M) = 0 then (U_X11_finding (-1001 : Int32) M) else M; M0_1)
def P_X11_found (x1 : Int32) (M : Mem) : Prop := (¬ ((V_X11_in x1 (-1005 : Int32) (-1001 : Int32) M) = 0) → vp_in ((-1000 : Int32) - x1) 6)
theorem S_X11_found {sh : List SC} {M : Mem} {x1 : Int32} {mA : Nat} {oA : Nat} (hb1 : ModelAt sh mA oA)  (hP : P_X11_found x1 M) : Gv m_X11_found [.ref 242, .int x1] sh M (.int (V_X11_found x1 M)) (U_X11_found x1 M) := by
  refine Sp.of (ls := [some (.ref 242), some (.int x1)]) (by decide +kernel) (Nat.le_of_ble_eq_true rfl) rfl ?_
  have g1 : ¬ ((V_X11_in x1 (-1005 : Int32) (-1001 : Int32) M) = 0) → vp_in ((-1000 : Int32) - x1) 6 := hP
  have k0 : kd sh 242 = some (10 + 7, 0) := hb1.1
  have k1 : rf sh 242 21 = some 253 := hb1.2.2.2.2.2.2.2.2.2.2.2.1
  have k2 : kd sh 253 = some (0, 6) := hb1.2.2.2.2.2.2.2.2.2.2.2.2.2.2.2.2.2.2.2.2.2.2.2.2.2.2.2.2.2.2.2.2.2.2.2.2.2.1
  refine r_iload_n e_X11_found_0 rfl ?_
  refine r_sipush e_X11_found_1 sp_m1005 ?_
  refine r_sipush e_X11_found_4 sp_m1001 ?_
  refine cS3v e_X11_found_7 cl_X11_245 ⟨Nat.le_of_ble_eq_true rfl, Nat.le_of_ble_eq_true rfl⟩ ⟨rfl, rfl⟩  (Nat.le_of_ble_eq_true rfl) (S_X11_in ) ?_
  obtain ⟨v0_0, e_v0_0⟩ : ∃ z : Int32, z = (if (V_X11_in x1 (-1005 : Int32) (-1001 : Int32) M) = 0 then (V_X11_finding (-1001 : Int32) M) else (M.1 253 ((-1000 : Int32) - x1).toNatClampNeg)) := ⟨_, rfl⟩
  obtain ⟨M0_1, e_M0_1⟩ : ∃ z : Mem, z = (if (V_X11_in x1 (-1005 : Int32) (-1001 : Int32) M) = 0 then (U_X11_finding (-1001 : Int32) M) else M) := ⟨_, rfl⟩
  suffices j33_0 : WP m_X11_found (fun r sh' M'' => r = some (.int (V_X11_found x1 M)) ∧ sh' = sh ∧ M'' = (U_X11_found x1 M)) 33 [some (.ref 242), some (.int x1)] [.int v0_0] sh M0_1 0 0 by
    refine r_if_eq e_X11_found_10 (fun h10_0 => ?_) (fun h10_0 => ?_)
    · refine r_aload_n e_X11_found_26 rfl ?_
      refine r_sipush e_X11_found_27 sp_m1001 ?_
      refine cV1v e_X11_found_30 cl_X11_178 ⟨Nat.le_of_ble_eq_true rfl, Nat.le_of_ble_eq_true rfl⟩ ⟨rfl, rfl⟩ k0 (Nat.le_of_ble_eq_true rfl) (S_X11_finding hb1 (by first | decide | (unfold vp_in; decide) | exact Or.inl rfl | exact Or.inr rfl)) ?_
      (rw [show v0_0 = (V_X11_finding (-1001 : Int32) M) from (e_v0_0.trans (if_pos h10_0)), show M0_1 = U_X11_finding (-1001 : Int32) M from (e_M0_1.trans (if_pos h10_0))] at j33_0; exact j33_0)
    · refine r_aload_n e_X11_found_13 rfl ?_
      refine r_getR e_X11_found_14 fl_X11_189 k0 k1 ?_
      refine r_sipush e_X11_found_17 sp_m1000 ?_
      refine r_iload_n e_X11_found_20 rfl ?_
      refine r_isub e_X11_found_21 ?_
      refine r_iaload e_X11_found_22 k2 (g1 h10_0) ?_
      refine r_goto e_X11_found_23 ?_
      (rw [show v0_0 = (M.1 253 ((-1000 : Int32) - x1).toNatClampNeg) from (e_v0_0.trans (if_neg h10_0)), show M0_1 = M from (e_M0_1.trans (if_neg h10_0))] at j33_0; exact j33_0)
  refine r_ireturn e_X11_found_33 rfl ⟨rfl, rfl⟩ ?_
  (subst e_M0_1 e_v0_0; refine ⟨?_, rfl, ?_⟩ <;> ((try unfold V_X11_found); (try unfold U_X11_found); (try simp only []); (try rfl)))
def F_X10_feed_45 (x1 : Int64) (nn : Nat) : Nat → Nat → Mem → Mem
  | 0, i45, M => M
  | n + 1, i45, M => (let Mc1001 : Mem := U_X4_append 2 ((x1.toUInt64 >>> (((8 : Int32) * (nI i45)).toInt64.toUInt64 &&& Int64.toUInt64 63)).toInt64.toInt32 &&& (255 : Int32)) M; (F_X10_feed_45 x1 nn n (i45 + 1) Mc1001))
def H_X10_feed_45 (x1 : Int64) (nn : Nat) : Nat → Nat → Mem → Prop
  | 0, i45, M => True
  | n + 1, i45, M => (¬ (M.1 2 5) < 0) ∧ ((let Mc1001 : Mem := U_X4_append 2 ((x1.toUInt64 >>> (((8 : Int32) * (nI i45)).toInt64.toUInt64 &&& Int64.toUInt64 63)).toInt64.toInt32 &&& (255 : Int32)) M; (H_X10_feed_45 x1 nn n (i45 + 1) Mc1001)))
theorem L_X10_feed_45 {sh : List SC} {Q : Po} {x1 : Int64} {nn : Nat}    (hb1 : PitchAt sh) (g1 : nn < 2 ^ 31)  : ∀ (n i45 : Nat) (M : Mem), i45 + n = nn → H_X10_feed_45 x1 nn n i45 M → WP m_X10_feed Q 76 [some (.ref 0), some (.long x1), none, some (.int (nI nn)), none] [] sh (F_X10_feed_45 x1 nn n i45 M) 0 0 → WP m_X10_feed Q 45 [some (.ref 0), some (.long x1), none, some (.int (nI nn)), some (.int (nI i45))] [] sh M 0 0 := by
  have k0 : kd sh 0 = some (9 + 7, 0) := hb1.1
  have k1 : rf sh 0 1 = some 2 := hb1.2.2.1
  have k2 : kd sh 2 = some (4 + 7, 0) := hb1.2.2.2.2.2.2.2.2.2.2.2.2.2.2.1.1
  intro n
  induction n with
  | zero =>
    intro i45 M hi _ hq
    have hz : (nI nn) ≤ nI i45 := by
      have q : i45 = nn := by omega
      rw [q]; exact nI_le (Nat.le_refl _) (by assumption)
    refine r_iload e_X10_feed_45 rfl ?_
    refine r_iload_n e_X10_feed_47 rfl ?_
    refine r_icmp_ge e_X10_feed_48 (fun _ => ?_) (fun hh => absurd hz hh)
    refine d_5_4 ?_
    (simp only [F_X10_feed_45] at hq; first | exact hq | (simp only []; exact hq))
  | succ n ih =>
    intro i45 M hi hH hq
    unfold H_X10_feed_45 at hH
    obtain ⟨g2, hH⟩ := hH
    have hlt_i45 : i45 < nn := by omega
    have hcl_i45 : (nI i45).toNatClampNeg = i45 := nI_clamp (by omega)
    have hs : ¬ (nI nn) ≤ nI i45 := nI_ge (b := nn) hlt_i45 (by assumption)
    refine r_iload e_X10_feed_45 rfl ?_
    refine r_iload_n e_X10_feed_47 rfl ?_
    refine r_icmp_ge e_X10_feed_48 (fun hh => absurd hh hs) (fun _ => ?_)
    refine r_aload_n e_X10_feed_51 rfl ?_
    refine r_getR e_X10_feed_52 fl_X10_16 k0 k1 ?_
    refine r_lload_n e_X10_feed_55 rfl ?_
    refine r_bipush e_X10_feed_56 bp_8 ?_
    refine r_iload e_X10_feed_58 rfl ?_
    refine r_imul e_X10_feed_60 ?_
    refine r_lushr e_X10_feed_61 ?_
    refine r_l2i e_X10_feed_62 ?_
    refine r_sipush e_X10_feed_63 sp_255 ?_
    refine r_iand e_X10_feed_66 ?_
    refine cV1u e_X10_feed_67 cl_X10_78 ⟨Nat.le_of_ble_eq_true rfl, Nat.le_of_ble_eq_true rfl⟩ ⟨rfl, rfl⟩ k2 (Nat.le_of_ble_eq_true rfl) (S_X4_append hb1.2.2.2.2.2.2.2.2.2.2.2.2.2.2.1 g2) ?_
    obtain ⟨Mc1001, e_Mc1001⟩ : ∃ z : Mem, z = (U_X4_append 2 ((x1.toUInt64 >>> (((8 : Int32) * (nI i45)).toInt64.toUInt64 &&& Int64.toUInt64 63)).toInt64.toInt32 &&& (255 : Int32)) M) := ⟨_, rfl⟩
    rw [← e_Mc1001]
    refine p_iinc_5_4 e_X10_feed_70 rfl ic_1 rfl ?_
    rw [nI_1 i45]
    refine r_goto e_X10_feed_73 ?_
    (subst e_Mc1001; simp only [F_X10_feed_45] at hq; (try simp only [] at hH); first | exact ih (i45 + 1) _ (by omega) hH hq | (simp only []; exact ih (i45 + 1) _ (by omega) hH hq))
def V_X10_feed (x1 : Int64) (nn : Nat) (M : Mem) : Int32 := if (nI nn) < (1 : Int32) then (V_X10_finding (-1001 : Int32) M) else (if (nI nn) ≤ (8 : Int32) then (if ((V_X4_length 2 M) + (nI nn)) ≤ (800 : Int32) then (V_X4_length 2 (F_X10_feed_45 x1 nn (nn - 0) 0 M)) else (V_X10_finding (-1002 : Int32) M)) else (V_X10_finding (-1001 : Int32) M))
def U_X10_feed (x1 : Int64) (nn : Nat) (M : Mem) : Mem := if (nI nn) < (1 : Int32) then (U_X10_finding (-1001 : Int32) M) else (if (nI nn) ≤ (8 : Int32) then (if ((V_X4_length 2 M) + (nI nn)) ≤ (800 : Int32) then (F_X10_feed_45 x1 nn (nn - 0) 0 M) else (U_X10_finding (-1002 : Int32) M)) else (U_X10_finding (-1001 : Int32) M))
def P_X10_feed (x1 : Int64) (nn : Nat) (M : Mem) : Prop := (¬ ((nI nn) < (1 : Int32)) → (nI nn) ≤ (8 : Int32) → ((V_X4_length 2 M) + (nI nn)) ≤ (800 : Int32) → H_X10_feed_45 x1 nn (nn - 0) 0 M)
theorem S_X10_feed {sh : List SC} {M : Mem} {x1 : Int64} {nn : Nat}  (hb1 : PitchAt sh) (g1 : nn < 2 ^ 31) (hP : P_X10_feed x1 nn M) : Gv m_X10_feed [.ref 0, .long x1, .int (nI nn)] sh M (.int (V_X10_feed x1 nn M)) (U_X10_feed x1 nn M) := by
  refine Sp.of (ls := [some (.ref 0), some (.long x1), none, some (.int (nI nn)), none]) (by decide +kernel) (Nat.le_of_ble_eq_true rfl) rfl ?_
  have g2 : ¬ ((nI nn) < (1 : Int32)) → (nI nn) ≤ (8 : Int32) → ((V_X4_length 2 M) + (nI nn)) ≤ (800 : Int32) → H_X10_feed_45 x1 nn (nn - 0) 0 M := hP
  have k0 : kd sh 0 = some (9 + 7, 0) := hb1.1
  have k1 : rf sh 0 1 = some 2 := hb1.2.2.1
  have k2 : kd sh 2 = some (4 + 7, 0) := hb1.2.2.2.2.2.2.2.2.2.2.2.2.2.2.1.1
  refine r_iload_n e_X10_feed_0 rfl ?_
  refine r_iconst e_X10_feed_1 ic_1 ?_
  refine r_icmp_lt e_X10_feed_2 (fun h2_0 => ?_) (fun h2_0 => ?_)
  · refine r_aload_n e_X10_feed_11 rfl ?_
    refine r_sipush e_X10_feed_12 sp_m1001 ?_
    refine cV1v e_X10_feed_15 cl_X10_70 ⟨Nat.le_of_ble_eq_true rfl, Nat.le_of_ble_eq_true rfl⟩ ⟨rfl, rfl⟩ k0 (Nat.le_of_ble_eq_true rfl) (S_X10_finding hb1) ?_
    refine r_ireturn e_X10_feed_18 rfl ⟨rfl, rfl⟩ ?_
    (refine ⟨?_, rfl, ?_⟩ <;> ((try unfold V_X10_feed); (try unfold U_X10_feed); (try simp only [if_pos h2_0]); (try rfl)))
  · refine r_iload_n e_X10_feed_5 rfl ?_
    refine r_bipush e_X10_feed_6 bp_8 ?_
    refine r_icmp_le e_X10_feed_8 (fun h8_1 => ?_) (fun h8_1 => ?_)
    · refine r_aload_n e_X10_feed_19 rfl ?_
      refine r_getR e_X10_feed_20 fl_X10_16 k0 k1 ?_
      refine cV0v e_X10_feed_23 cl_X10_74 ⟨Nat.le_of_ble_eq_true rfl, Nat.le_of_ble_eq_true rfl⟩ ⟨rfl, rfl⟩ k2 (Nat.le_of_ble_eq_true rfl) (S_X4_length hb1.2.2.2.2.2.2.2.2.2.2.2.2.2.2.1) ?_
      refine r_iload_n e_X10_feed_26 rfl ?_
      refine r_iadd e_X10_feed_27 ?_
      refine r_sipush e_X10_feed_28 sp_800 ?_
      refine r_icmp_le e_X10_feed_31 (fun h31_2 => ?_) (fun h31_2 => ?_)
      · refine r_iconst e_X10_feed_42 ic_0 ?_
        refine p_istore_5_4 e_X10_feed_43 rfl rfl ?_
        skip
        show WP m_X10_feed _ 45 [some (.ref 0), some (.long x1), none, some (.int (nI nn)), some (.int (nI 0))] [] sh M 0 0
        refine L_X10_feed_45 hb1 g1 (nn - 0) 0  M (by omega) (g2 h2_0 h8_1 h31_2) ?_
        refine r_aload_n e_X10_feed_76 rfl ?_
        refine r_getR e_X10_feed_77 fl_X10_16 k0 k1 ?_
        refine cV0v e_X10_feed_80 cl_X10_74 ⟨Nat.le_of_ble_eq_true rfl, Nat.le_of_ble_eq_true rfl⟩ ⟨rfl, rfl⟩ k2 (Nat.le_of_ble_eq_true rfl) (S_X4_length hb1.2.2.2.2.2.2.2.2.2.2.2.2.2.2.1) ?_
        refine r_ireturn e_X10_feed_83 rfl ⟨rfl, rfl⟩ ?_
        (refine ⟨?_, rfl, ?_⟩ <;> ((try unfold V_X10_feed); (try unfold U_X10_feed); (try simp only [if_neg h2_0, if_pos h8_1, if_pos h31_2]); (try rfl)))
      · refine r_aload_n e_X10_feed_34 rfl ?_
        refine r_sipush e_X10_feed_35 sp_m1002 ?_
        refine cV1v e_X10_feed_38 cl_X10_70 ⟨Nat.le_of_ble_eq_true rfl, Nat.le_of_ble_eq_true rfl⟩ ⟨rfl, rfl⟩ k0 (Nat.le_of_ble_eq_true rfl) (S_X10_finding hb1) ?_
        refine r_ireturn e_X10_feed_41 rfl ⟨rfl, rfl⟩ ?_
        (refine ⟨?_, rfl, ?_⟩ <;> ((try unfold V_X10_feed); (try unfold U_X10_feed); (try simp only [if_neg h2_0, if_pos h8_1, if_neg h31_2]); (try rfl)))
    · refine r_aload_n e_X10_feed_11 rfl ?_
      refine r_sipush e_X10_feed_12 sp_m1001 ?_
      refine cV1v e_X10_feed_15 cl_X10_70 ⟨Nat.le_of_ble_eq_true rfl, Nat.le_of_ble_eq_true rfl⟩ ⟨rfl, rfl⟩ k0 (Nat.le_of_ble_eq_true rfl) (S_X10_finding hb1) ?_
      refine r_ireturn e_X10_feed_18 rfl ⟨rfl, rfl⟩ ?_
      (refine ⟨?_, rfl, ?_⟩ <;> ((try unfold V_X10_feed); (try unfold U_X10_feed); (try simp only [if_neg h2_0, if_neg h8_1]); (try rfl)))
def F_X4_splitName_5 (a : Nat) (x1 : Int32) : Nat → Int64 → Int32 → Mem → Int64 × Int32
  | 0, u2, u4, M => (u2, u4)
  | n + 1, u2, u4, M => if (M.1 a 5) ≤ u4 then (u2, u4) else (if (V_X4_isLetter (V_X10_at (a + 1) u4 800 M) M) = 0 then (u2, u4) else (F_X4_splitName_5 a x1 n (V_X4_pack u2 (V_X10_at (a + 1) u4 800 M) M) (u4 + 1) M))
def T_X4_splitName_5 (a : Nat) (x1 : Int32) : Nat → Int64 → Int32 → Mem → Prop
  | 0, u2, u4, M => False
  | n + 1, u2, u4, M => (if (M.1 a 5) ≤ u4 then True else (if (V_X4_isLetter (V_X10_at (a + 1) u4 800 M) M) = 0 then True else (T_X4_splitName_5 a x1 n (V_X4_pack u2 (V_X10_at (a + 1) u4 800 M) M) (u4 + 1) M)))
theorem L_X4_splitName_5 {sh : List SC} {Q : Po} {a : Nat} {x1 : Int32}    (hb1 : ReaderAt sh a)   : ∀ (n : Nat) (u2 : Int64) (u4 : Int32) (M : Mem), T_X4_splitName_5 a x1 n u2 u4 M → WP m_X4_splitName Q 49 [some (.ref a), some (.int x1), some (.long ((F_X4_splitName_5 a x1 n u2 u4 M).1)), none, some (.int ((F_X4_splitName_5 a x1 n u2 u4 M).2))] [] sh M 0 0 → WP m_X4_splitName Q 5 [some (.ref a), some (.int x1), some (.long u2), none, some (.int u4)] [] sh M 0 0 := by
  have k0 : kd sh a = some (4 + 7, 0) := hb1.1
  have k1 : rf sh a 0 = some (a + 1) := hb1.2.1
  have k2 : kd sh (a + 1) = some (0, 800) := hb1.2.2.2.2.2.2.1
  intro n
  induction n with
  | zero =>
    intro u2 u4 M hH hq
    exact hH.elim
  | succ n ih =>
    intro u2 u4 M hH hq
    unfold T_X4_splitName_5 at hH
    refine r_iload e_X4_splitName_5 rfl ?_
    refine r_aload_n e_X4_splitName_7 rfl ?_
    refine r_getI e_X4_splitName_8 fl_X4_30 i0 k0 ?_
    refine r_icmp_ge e_X4_splitName_11 (fun h11_500 => ?_) (fun h11_500 => ?_)
    · (simp only [F_X4_splitName_5, if_pos h11_500] at hq; first | exact hq | (simp only [if_pos h11_500]; exact hq))
    · refine r_aload_n e_X4_splitName_14 rfl ?_
      refine r_getR e_X4_splitName_15 fl_X4_9 k0 k1 ?_
      refine r_iload e_X4_splitName_18 rfl ?_
      refine cSN2v e_X4_splitName_20 cl_X4_106 ⟨Nat.le_of_ble_eq_true rfl, Nat.le_of_ble_eq_true rfl⟩ ⟨rfl, rfl⟩  (Nat.le_of_ble_eq_true rfl) (S_X10_at k2 (by first | decide | (unfold vp_in; decide) | exact Or.inl rfl | exact Or.inr rfl)) ?_
      refine cS1v e_X4_splitName_23 cl_X4_110 ⟨Nat.le_of_ble_eq_true rfl, Nat.le_of_ble_eq_true rfl⟩ ⟨rfl, rfl⟩  (Nat.le_of_ble_eq_true rfl) (S_X4_isLetter ) ?_
      refine r_if_eq e_X4_splitName_26 (fun h26_501 => ?_) (fun h26_501 => ?_)
      · (simp only [F_X4_splitName_5, if_neg h11_500, if_pos h26_501] at hq; first | exact hq | (simp only [if_neg h11_500, if_pos h26_501]; exact hq))
      · refine r_lload_n e_X4_splitName_29 rfl ?_
        refine r_aload_n e_X4_splitName_30 rfl ?_
        refine r_getR e_X4_splitName_31 fl_X4_9 k0 k1 ?_
        refine r_iload e_X4_splitName_34 rfl ?_
        refine cSN2v e_X4_splitName_36 cl_X4_106 ⟨Nat.le_of_ble_eq_true rfl, Nat.le_of_ble_eq_true rfl⟩ ⟨rfl, rfl⟩  (Nat.le_of_ble_eq_true rfl) (S_X10_at k2 (by first | decide | (unfold vp_in; decide) | exact Or.inl rfl | exact Or.inr rfl)) ?_
        refine cS2v e_X4_splitName_39 cl_X4_65 ⟨Nat.le_of_ble_eq_true rfl, Nat.le_of_ble_eq_true rfl⟩ ⟨rfl, rfl⟩  (Nat.le_of_ble_eq_true rfl) (S_X4_pack ) ?_
        refine p_lstore_n_5_2 e_X4_splitName_42 rfl rfl ?_
        refine p_iinc_5_4 e_X4_splitName_43 rfl ic_1 rfl ?_
        refine r_goto e_X4_splitName_46 ?_
        (simp only [F_X4_splitName_5, if_neg h11_500, if_neg h26_501] at hq; (try simp only [if_neg h11_500, if_neg h26_501] at hH); first | exact ih _ _ _ hH hq | (simp only [if_neg h11_500, if_neg h26_501]; exact ih _ _ _ hH hq))
def V_X4_splitName (a : Nat) (x1 : Int32) (M : Mem) : Int32 := (let v0_0 : Int32 := if (((F_X4_splitName_5 a x1 FUEL (0 : Int64) x1 M).2) - x1) ≤ (12 : Int32) then (V_X4_kindOf a ((F_X4_splitName_5 a x1 FUEL (0 : Int64) x1 M).1) M) else (36 : Int32); ((F_X4_splitName_5 a x1 FUEL (0 : Int64) x1 M).2))
def U_X4_splitName (a : Nat) (x1 : Int32) (M : Mem) : Mem := (let v0_0 : Int32 := if (((F_X4_splitName_5 a x1 FUEL (0 : Int64) x1 M).2) - x1) ≤ (12 : Int32) then (V_X4_kindOf a ((F_X4_splitName_5 a x1 FUEL (0 : Int64) x1 M).1) M) else (36 : Int32); U_X4_addWord a v0_0 ((F_X4_splitName_5 a x1 FUEL (0 : Int64) x1 M).1) x1 M)
def P_X4_splitName (a : Nat) (x1 : Int32) (M : Mem) : Prop := (T_X4_splitName_5 a x1 FUEL (0 : Int64) x1 M)
theorem S_X4_splitName {sh : List SC} {M : Mem} {a : Nat} {x1 : Int32}  (hb1 : ReaderAt sh a) (g2 : ¬ (M.1 a 6) < 0) (hP : P_X4_splitName a x1 M) : Gv m_X4_splitName [.ref a, .int x1] sh M (.int (V_X4_splitName a x1 M)) (U_X4_splitName a x1 M) := by
  refine Sp.of (ls := [some (.ref a), some (.int x1), none, none, none]) (by decide +kernel) (Nat.le_of_ble_eq_true rfl) rfl ?_
  have g1 : T_X4_splitName_5 a x1 FUEL (0 : Int64) x1 M := hP
  have k0 : kd sh a = some (4 + 7, 0) := hb1.1
  refine r_lconst e_X4_splitName_0 lk_0 ?_
  refine p_lstore_n_5_2 e_X4_splitName_1 rfl rfl ?_
  refine r_iload_n e_X4_splitName_2 rfl ?_
  refine p_istore_5_4 e_X4_splitName_3 rfl rfl ?_
  refine L_X4_splitName_5 hb1 FUEL (0 : Int64) x1 M g1 ?_
  refine r_aload_n e_X4_splitName_49 rfl ?_
  refine r_iload e_X4_splitName_50 rfl ?_
  refine r_iload_n e_X4_splitName_52 rfl ?_
  refine r_isub e_X4_splitName_53 ?_
  refine r_bipush e_X4_splitName_54 bp_12 ?_
  obtain ⟨v0_0, e_v0_0⟩ : ∃ z : Int32, z = (if (((F_X4_splitName_5 a x1 FUEL (0 : Int64) x1 M).2) - x1) ≤ (12 : Int32) then (V_X4_kindOf a ((F_X4_splitName_5 a x1 FUEL (0 : Int64) x1 M).1) M) else (36 : Int32)) := ⟨_, rfl⟩
  suffices j69_0 : WP m_X4_splitName (fun r sh' M'' => r = some (.int (V_X4_splitName a x1 M)) ∧ sh' = sh ∧ M'' = (U_X4_splitName a x1 M)) 69 [some (.ref a), some (.int x1), some (.long ((F_X4_splitName_5 a x1 FUEL (0 : Int64) x1 M).1)), none, some (.int ((F_X4_splitName_5 a x1 FUEL (0 : Int64) x1 M).2))] [.int v0_0, .ref a] sh M 0 0 by
    refine r_icmp_le e_X4_splitName_56 (fun h56_0 => ?_) (fun h56_0 => ?_)
    · refine r_aload_n e_X4_splitName_64 rfl ?_
      refine r_lload_n e_X4_splitName_65 rfl ?_
      refine cV1v e_X4_splitName_66 cl_X4_140 ⟨Nat.le_of_ble_eq_true rfl, Nat.le_of_ble_eq_true rfl⟩ ⟨rfl, rfl⟩ k0 (Nat.le_of_ble_eq_true rfl) (S_X4_kindOf hb1) ?_
      (rw [show v0_0 = (V_X4_kindOf a ((F_X4_splitName_5 a x1 FUEL (0 : Int64) x1 M).1) M) from (e_v0_0.trans (if_pos h56_0))] at j69_0; exact j69_0)
    · refine r_bipush e_X4_splitName_59 bp_36 ?_
      refine r_goto e_X4_splitName_61 ?_
      (rw [show v0_0 = (36 : Int32) from (e_v0_0.trans (if_neg h56_0))] at j69_0; exact j69_0)
  refine r_lload_n e_X4_splitName_69 rfl ?_
  refine r_iload_n e_X4_splitName_70 rfl ?_
  refine cV3u e_X4_splitName_71 cl_X4_136 ⟨Nat.le_of_ble_eq_true rfl, Nat.le_of_ble_eq_true rfl⟩ ⟨rfl, rfl⟩ k0 (Nat.le_of_ble_eq_true rfl) (S_X4_addWord hb1 g2) ?_
  refine r_iload e_X4_splitName_74 rfl ?_
  refine r_ireturn e_X4_splitName_76 rfl ⟨rfl, rfl⟩ ?_
  (subst e_v0_0; refine ⟨?_, rfl, ?_⟩ <;> ((try unfold V_X4_splitName); (try unfold U_X4_splitName); (try simp only []); (try rfl)))
def U_X3_addTerm (a : Nat) (x1 : Int32) (x2 : Int32) (x3 : Int32) (x4 : Int32) (M : Mem) : Mem := (let Mc1 : Mem := U_X10_put (a + 13) ((U_X10_put (a + 12) ((U_X10_put (a + 11) (M.1 a 15) x1 400 M).1 a 15) x2 400 (U_X10_put (a + 11) (M.1 a 15) x1 400 M)).1 a 15) x3 400 (U_X10_put (a + 12) ((U_X10_put (a + 11) (M.1 a 15) x1 400 M).1 a 15) x2 400 (U_X10_put (a + 11) (M.1 a 15) x1 400 M)); setI (U_X10_put (a + 14) (Mc1.1 a 15) x4 400 Mc1) a 15 (((U_X10_put (a + 14) (Mc1.1 a 15) x4 400 Mc1).1 a 15) + (1 : Int32)))
theorem S_X3_addTerm {sh : List SC} {M : Mem} {a : Nat} {x1 : Int32} {x2 : Int32} {x3 : Int32} {x4 : Int32}  (hb1 : ProgramAt sh a)  : Gu m_X3_addTerm [.ref a, .int x1, .int x2, .int x3, .int x4] sh M (U_X3_addTerm a x1 x2 x3 x4 M) := by
  refine Sp.of (ls := [some (.ref a), some (.int x1), some (.int x2), some (.int x3), some (.int x4)]) (by decide +kernel) (Nat.le_of_ble_eq_true rfl) rfl ?_
  have k0 : kd sh a = some (3 + 7, 0) := hb1.1
  have k1 : rf sh a 16 = some (a + 11) := hb1.2.2.2.2.2.2.2.2.2.2.2.1
  have k2 : kd sh (a + 11) = some (0, 400) := hb1.2.2.2.2.2.2.2.2.2.2.2.2.2.2.2.2.2.2.2.2.2.2.2.2.2.1
  have k3 : rf sh a 17 = some (a + 12) := hb1.2.2.2.2.2.2.2.2.2.2.2.2.1
  have k4 : kd sh (a + 12) = some (0, 400) := hb1.2.2.2.2.2.2.2.2.2.2.2.2.2.2.2.2.2.2.2.2.2.2.2.2.2.2.1
  have k5 : rf sh a 18 = some (a + 13) := hb1.2.2.2.2.2.2.2.2.2.2.2.2.2.1
  have k6 : kd sh (a + 13) = some (0, 400) := hb1.2.2.2.2.2.2.2.2.2.2.2.2.2.2.2.2.2.2.2.2.2.2.2.2.2.2.2.1
  have k7 : rf sh a 19 = some (a + 14) := hb1.2.2.2.2.2.2.2.2.2.2.2.2.2.2.1
  have k8 : kd sh (a + 14) = some (0, 400) := hb1.2.2.2.2.2.2.2.2.2.2.2.2.2.2.2.2.2.2.2.2.2.2.2.2.2.2.2.2
  refine r_aload_n e_X3_addTerm_0 rfl ?_
  refine r_getR e_X3_addTerm_1 fl_X3_62 k0 k1 ?_
  refine r_aload_n e_X3_addTerm_4 rfl ?_
  refine r_getI e_X3_addTerm_5 fl_X3_59 i0 k0 ?_
  refine r_iload_n e_X3_addTerm_8 rfl ?_
  refine cSN3u e_X3_addTerm_9 cl_X3_74 ⟨Nat.le_of_ble_eq_true rfl, Nat.le_of_ble_eq_true rfl⟩ ⟨rfl, rfl⟩  (Nat.le_of_ble_eq_true rfl) (S_X10_put k2 (by first | decide | (unfold vp_in; decide) | exact Or.inl rfl | exact Or.inr rfl)) ?_
  refine r_aload_n e_X3_addTerm_12 rfl ?_
  refine r_getR e_X3_addTerm_13 fl_X3_65 k0 k3 ?_
  refine r_aload_n e_X3_addTerm_16 rfl ?_
  refine r_getI e_X3_addTerm_17 fl_X3_59 i0 k0 ?_
  refine r_iload_n e_X3_addTerm_20 rfl ?_
  refine cSN3u e_X3_addTerm_21 cl_X3_74 ⟨Nat.le_of_ble_eq_true rfl, Nat.le_of_ble_eq_true rfl⟩ ⟨rfl, rfl⟩  (Nat.le_of_ble_eq_true rfl) (S_X10_put k4 (by first | decide | (unfold vp_in; decide) | exact Or.inl rfl | exact Or.inr rfl)) ?_
  refine r_aload_n e_X3_addTerm_24 rfl ?_
  refine r_getR e_X3_addTerm_25 fl_X3_68 k0 k5 ?_
  refine r_aload_n e_X3_addTerm_28 rfl ?_
  refine r_getI e_X3_addTerm_29 fl_X3_59 i0 k0 ?_
  refine r_iload_n e_X3_addTerm_32 rfl ?_
  refine cSN3u e_X3_addTerm_33 cl_X3_74 ⟨Nat.le_of_ble_eq_true rfl, Nat.le_of_ble_eq_true rfl⟩ ⟨rfl, rfl⟩  (Nat.le_of_ble_eq_true rfl) (S_X10_put k6 (by first | decide | (unfold vp_in; decide) | exact Or.inl rfl | exact Or.inr rfl)) ?_
  obtain ⟨Mc1, e_Mc1⟩ : ∃ z : Mem, z = (U_X10_put (a + 13) ((U_X10_put (a + 12) ((U_X10_put (a + 11) (M.1 a 15) x1 400 M).1 a 15) x2 400 (U_X10_put (a + 11) (M.1 a 15) x1 400 M)).1 a 15) x3 400 (U_X10_put (a + 12) ((U_X10_put (a + 11) (M.1 a 15) x1 400 M).1 a 15) x2 400 (U_X10_put (a + 11) (M.1 a 15) x1 400 M))) := ⟨_, rfl⟩
  rw [← e_Mc1]
  refine r_aload_n e_X3_addTerm_36 rfl ?_
  refine r_getR e_X3_addTerm_37 fl_X3_71 k0 k7 ?_
  refine r_aload_n e_X3_addTerm_40 rfl ?_
  refine r_getI e_X3_addTerm_41 fl_X3_59 i0 k0 ?_
  refine r_iload e_X3_addTerm_44 rfl ?_
  refine cSN3u e_X3_addTerm_46 cl_X3_74 ⟨Nat.le_of_ble_eq_true rfl, Nat.le_of_ble_eq_true rfl⟩ ⟨rfl, rfl⟩  (Nat.le_of_ble_eq_true rfl) (S_X10_put k8 (by first | decide | (unfold vp_in; decide) | exact Or.inl rfl | exact Or.inr rfl)) ?_
  refine r_aload_n e_X3_addTerm_49 rfl ?_
  refine r_dup e_X3_addTerm_50 rfl ?_
  refine r_getI e_X3_addTerm_51 fl_X3_59 i0 k0 ?_
  refine r_iconst e_X3_addTerm_54 ic_1 ?_
  refine r_iadd e_X3_addTerm_55 ?_
  refine r_putI e_X3_addTerm_56 fl_X3_59 k0 ?_
  refine r_return e_X3_addTerm_59 rfl ⟨rfl, rfl⟩ ?_
  (subst e_Mc1; refine ⟨?_, rfl, ?_⟩ <;> ((try unfold U_X3_addTerm); (try simp only []); (try rfl)))
def F_X4_judgeNames_4 (a : Nat) (x1 : Nat) : Nat → Int32 → Int32 → Mem → Int32 × Int32 × Mem
  | 0, u2, u3, M => (u2, u3, M)
  | n + 1, u2, u3, M => if (M.1 a 6) ≤ u3 then (u2, u3, M) else (if (801 : Int32) ≤ u3 then (u2, u3, M) else (if 0 ≤ (M.1 a 9) then (u2, u3, M) else (if (M.1 (a + 3) u3.toNatClampNeg) = (26 : Int32) then (let v404_0 : Int32 := if 0 ≤ (V_X3_stateNamed x1 (M.2 (a + 4) u3.toNatClampNeg) M) then (0 : Int32) else (1 : Int32); let v405_0 : Int32 := if (M.1 (a + 3) (u3 - (1 : Int32)).toNatClampNeg) = 0 then (u2 + 1) else u2; let v405_1 : Int32 := if (M.1 (a + 3) (u3 - (1 : Int32)).toNatClampNeg) = 0 then (if u2 ≤ (V_X3_stateNamed x1 (M.2 (a + 4) u3.toNatClampNeg) M) then (0 : Int32) else (1 : Int32)) else v404_0; let M407_0 : Mem := if v405_1 = 0 then M else (setI M a 9 (M.1 (a + 5) u3.toNatClampNeg)); (F_X4_judgeNames_4 a x1 n v405_0 (u3 + 1) M407_0)) else (F_X4_judgeNames_4 a x1 n u2 (u3 + 1) M))))
def T_X4_judgeNames_4 (a : Nat) (x1 : Nat) : Nat → Int32 → Int32 → Mem → Prop
  | 0, u2, u3, M => False
  | n + 1, u2, u3, M => (¬ u3 < 0) ∧ (P_X3_stateNamed x1 (M.2 (a + 4) u3.toNatClampNeg) M) ∧ (vp_in (u3 - (1 : Int32)) 801) ∧ (if (M.1 a 6) ≤ u3 then True else (if (801 : Int32) ≤ u3 then True else (if 0 ≤ (M.1 a 9) then True else (if (M.1 (a + 3) u3.toNatClampNeg) = (26 : Int32) then (let v404_0 : Int32 := if 0 ≤ (V_X3_stateNamed x1 (M.2 (a + 4) u3.toNatClampNeg) M) then (0 : Int32) else (1 : Int32); let v405_0 : Int32 := if (M.1 (a + 3) (u3 - (1 : Int32)).toNatClampNeg) = 0 then (u2 + 1) else u2; let v405_1 : Int32 := if (M.1 (a + 3) (u3 - (1 : Int32)).toNatClampNeg) = 0 then (if u2 ≤ (V_X3_stateNamed x1 (M.2 (a + 4) u3.toNatClampNeg) M) then (0 : Int32) else (1 : Int32)) else v404_0; let M407_0 : Mem := if v405_1 = 0 then M else (setI M a 9 (M.1 (a + 5) u3.toNatClampNeg)); (T_X4_judgeNames_4 a x1 n v405_0 (u3 + 1) M407_0)) else (T_X4_judgeNames_4 a x1 n u2 (u3 + 1) M)))))
theorem L_X4_judgeNames_4 {sh : List SC} {Q : Po} {a : Nat} {x1 : Nat}    (hb1 : ReaderAt sh a) (hb2 : ProgramAt sh x1)   : ∀ (n : Nat) (u2 : Int32) (u3 : Int32) (M : Mem), T_X4_judgeNames_4 a x1 n u2 u3 M → WP m_X4_judgeNames Q 111 [some (.ref a), some (.ref x1), some (.int ((F_X4_judgeNames_4 a x1 n u2 u3 M).1)), some (.int ((F_X4_judgeNames_4 a x1 n u2 u3 M).2.1)), none, none] [] sh ((F_X4_judgeNames_4 a x1 n u2 u3 M).2.2) 0 0 → WP m_X4_judgeNames Q 4 [some (.ref a), some (.ref x1), some (.int u2), some (.int u3), none, none] [] sh M 0 0 := by
  have k0 : kd sh a = some (4 + 7, 0) := hb1.1
  have k1 : rf sh a 2 = some (a + 3) := hb1.2.2.2.1
  have k2 : kd sh (a + 3) = some (0, 801) := hb1.2.2.2.2.2.2.2.2.1
  have k3 : rf sh a 3 = some (a + 4) := hb1.2.2.2.2.1
  have k4 : kd sh (a + 4) = some (1, 801) := hb1.2.2.2.2.2.2.2.2.2.1
  have k5 : kd sh x1 = some (3 + 7, 0) := hb2.1
  have k6 : rf sh a 4 = some (a + 5) := hb1.2.2.2.2.2.1
  have k7 : kd sh (a + 5) = some (0, 801) := hb1.2.2.2.2.2.2.2.2.2.2
  intro n
  induction n with
  | zero =>
    intro u2 u3 M hH hq
    exact hH.elim
  | succ n ih =>
    intro u2 u3 M hH hq
    unfold T_X4_judgeNames_4 at hH
    obtain ⟨g1, g2, g3, hH⟩ := hH
    refine r_iload_n e_X4_judgeNames_4 rfl ?_
    refine r_aload_n e_X4_judgeNames_5 rfl ?_
    refine r_getI e_X4_judgeNames_6 fl_X4_34 i0 k0 ?_
    refine r_icmp_ge e_X4_judgeNames_9 (fun h9_400 => ?_) (fun h9_400 => ?_)
    · (simp only [F_X4_judgeNames_4, if_pos h9_400] at hq; first | exact hq | (simp only [if_pos h9_400]; exact hq))
    · refine r_iload_n e_X4_judgeNames_12 rfl ?_
      refine r_aload_n e_X4_judgeNames_13 rfl ?_
      refine r_getR e_X4_judgeNames_14 fl_X4_21 k0 k1 ?_
      refine r_alen (v := (801 : Int32)) e_X4_judgeNames_17 k2 (by decide) rfl ?_
      refine r_icmp_ge e_X4_judgeNames_18 (fun h18_401 => ?_) (fun h18_401 => ?_)
      · (simp only [F_X4_judgeNames_4, if_neg h9_400, if_pos h18_401] at hq; first | exact hq | (simp only [if_neg h9_400, if_pos h18_401]; exact hq))
      · refine r_aload_n e_X4_judgeNames_21 rfl ?_
        refine r_getI e_X4_judgeNames_22 fl_X4_44 i0 k0 ?_
        refine r_if_ge e_X4_judgeNames_25 (fun h25_402 => ?_) (fun h25_402 => ?_)
        · (simp only [F_X4_judgeNames_4, if_neg h9_400, if_neg h18_401, if_pos h25_402] at hq; first | exact hq | (simp only [if_neg h9_400, if_neg h18_401, if_pos h25_402]; exact hq))
        · refine r_aload_n e_X4_judgeNames_28 rfl ?_
          refine r_getR e_X4_judgeNames_29 fl_X4_21 k0 k1 ?_
          refine r_iload_n e_X4_judgeNames_32 rfl ?_
          refine r_iaload e_X4_judgeNames_33 k2 (vp_guard g1 h18_401 (by decide)) ?_
          refine r_bipush e_X4_judgeNames_34 bp_26 ?_
          refine r_icmp_ne e_X4_judgeNames_36 (fun h36_403 => ?_) (fun h36_403 => ?_)
          · refine p_iinc_6_3 e_X4_judgeNames_105 rfl ic_1 rfl ?_
            refine r_goto e_X4_judgeNames_108 ?_
            (simp only [F_X4_judgeNames_4, if_neg h9_400, if_neg h18_401, if_neg h25_402, if_neg h36_403] at hq; (try simp only [if_neg h9_400, if_neg h18_401, if_neg h25_402, if_neg h36_403] at hH); first | exact ih _ _ _ hH hq | (simp only [if_neg h9_400, if_neg h18_401, if_neg h25_402, if_neg h36_403]; exact ih _ _ _ hH hq))
          · refine r_aload_n e_X4_judgeNames_39 rfl ?_
            refine r_aload_n e_X4_judgeNames_40 rfl ?_
            refine r_getR e_X4_judgeNames_41 fl_X4_24 k0 k3 ?_
            refine r_iload_n e_X4_judgeNames_44 rfl ?_
            refine r_laload e_X4_judgeNames_45 k4 (vp_guard g1 h18_401 (by decide)) ?_
            refine cV1v e_X4_judgeNames_46 cl_X4_183 ⟨Nat.le_of_ble_eq_true rfl, Nat.le_of_ble_eq_true rfl⟩ ⟨rfl, rfl⟩ k5 (Nat.le_of_ble_eq_true rfl) (S_X3_stateNamed hb2 g2) ?_
            refine p_istore_6_4 e_X4_judgeNames_49 rfl rfl ?_
            refine r_iload e_X4_judgeNames_51 rfl ?_
            obtain ⟨v404_0, e_v404_0⟩ : ∃ z : Int32, z = (if 0 ≤ (V_X3_stateNamed x1 (M.2 (a + 4) u3.toNatClampNeg) M) then (0 : Int32) else (1 : Int32)) := ⟨_, rfl⟩
            have z_v404_0 : v404_0 = 0 ∨ v404_0 = 1 := by rw [e_v404_0]; exact (zi (Or.inl rfl) (Or.inr rfl))
            suffices j61_404 : WP m_X4_judgeNames Q 61 [some (.ref a), some (.ref x1), some (.int u2), some (.int u3), some (.int (V_X3_stateNamed x1 (M.2 (a + 4) u3.toNatClampNeg) M)), none] [.int v404_0] sh M 0 0 by
              refine r_if_ge e_X4_judgeNames_53 (fun h53_404 => ?_) (fun h53_404 => ?_)
              · refine r_iconst e_X4_judgeNames_60 ic_0 ?_
                (rw [show v404_0 = (0 : Int32) from (e_v404_0.trans (if_pos h53_404))] at j61_404; exact j61_404)
              · refine r_iconst e_X4_judgeNames_56 ic_1 ?_
                refine r_goto e_X4_judgeNames_57 ?_
                (rw [show v404_0 = (1 : Int32) from (e_v404_0.trans (if_neg h53_404))] at j61_404; exact j61_404)
            refine p_istore_6_5 e_X4_judgeNames_61 rfl rfl ?_
            refine r_aload_n e_X4_judgeNames_63 rfl ?_
            refine r_getR e_X4_judgeNames_64 fl_X4_21 k0 k1 ?_
            refine r_iload_n e_X4_judgeNames_67 rfl ?_
            refine r_iconst e_X4_judgeNames_68 ic_1 ?_
            refine r_isub e_X4_judgeNames_69 ?_
            refine r_iaload e_X4_judgeNames_70 k2 g3 ?_
            obtain ⟨v405_0, e_v405_0⟩ : ∃ z : Int32, z = (if (M.1 (a + 3) (u3 - (1 : Int32)).toNatClampNeg) = 0 then (u2 + 1) else u2) := ⟨_, rfl⟩
            obtain ⟨v405_1, e_v405_1⟩ : ∃ z : Int32, z = (if (M.1 (a + 3) (u3 - (1 : Int32)).toNatClampNeg) = 0 then (if u2 ≤ (V_X3_stateNamed x1 (M.2 (a + 4) u3.toNatClampNeg) M) then (0 : Int32) else (1 : Int32)) else v404_0) := ⟨_, rfl⟩
            suffices j90_405 : WP m_X4_judgeNames Q 90 [some (.ref a), some (.ref x1), some (.int v405_0), some (.int u3), some (.int (V_X3_stateNamed x1 (M.2 (a + 4) u3.toNatClampNeg) M)), some (.int v405_1)] [] sh M 0 0 by
              refine r_if_ne e_X4_judgeNames_71 (fun h71_405 => ?_) (fun h71_405 => ?_)
              · (rw [show v405_0 = u2 from (e_v405_0.trans (if_neg h71_405)), show v405_1 = v404_0 from (e_v405_1.trans (if_neg h71_405))] at j90_405; exact j90_405)
              · refine r_iload e_X4_judgeNames_74 rfl ?_
                refine r_iload_n e_X4_judgeNames_76 rfl ?_
                obtain ⟨v406_0, e_v406_0⟩ : ∃ z : Int32, z = (if u2 ≤ (V_X3_stateNamed x1 (M.2 (a + 4) u3.toNatClampNeg) M) then (0 : Int32) else (1 : Int32)) := ⟨_, rfl⟩
                have z_v406_0 : v406_0 = 0 ∨ v406_0 = 1 := by rw [e_v406_0]; exact (zi (Or.inl rfl) (Or.inr rfl))
                suffices j85_406 : WP m_X4_judgeNames Q 85 [some (.ref a), some (.ref x1), some (.int u2), some (.int u3), some (.int (V_X3_stateNamed x1 (M.2 (a + 4) u3.toNatClampNeg) M)), some (.int v404_0)] [.int v406_0] sh M 0 0 by
                  refine r_icmp_ge e_X4_judgeNames_77 (fun h77_406 => ?_) (fun h77_406 => ?_)
                  · refine r_iconst e_X4_judgeNames_84 ic_0 ?_
                    (rw [show v406_0 = (0 : Int32) from (e_v406_0.trans (if_pos h77_406))] at j85_406; exact j85_406)
                  · refine r_iconst e_X4_judgeNames_80 ic_1 ?_
                    refine r_goto e_X4_judgeNames_81 ?_
                    (rw [show v406_0 = (1 : Int32) from (e_v406_0.trans (if_neg h77_406))] at j85_406; exact j85_406)
                refine p_istore_6_5 e_X4_judgeNames_85 rfl rfl ?_
                refine p_iinc_6_2 e_X4_judgeNames_87 rfl ic_1 rfl ?_
                (subst e_v406_0; rw [show v405_0 = (u2 + 1) from (e_v405_0.trans (if_pos h71_405)), show v405_1 = (if u2 ≤ (V_X3_stateNamed x1 (M.2 (a + 4) u3.toNatClampNeg) M) then (0 : Int32) else (1 : Int32)) from (e_v405_1.trans (if_pos h71_405))] at j90_405; exact j90_405)
            refine r_iload e_X4_judgeNames_90 rfl ?_
            obtain ⟨M407_0, e_M407_0⟩ : ∃ z : Mem, z = (if v405_1 = 0 then M else (setI M a 9 (M.1 (a + 5) u3.toNatClampNeg))) := ⟨_, rfl⟩
            suffices j105_407 : WP m_X4_judgeNames Q 105 [some (.ref a), some (.ref x1), some (.int v405_0), some (.int u3), some (.int (V_X3_stateNamed x1 (M.2 (a + 4) u3.toNatClampNeg) M)), some (.int v405_1)] [] sh M407_0 0 0 by
              refine r_if_eq e_X4_judgeNames_92 (fun h92_407 => ?_) (fun h92_407 => ?_)
              · (rw [show M407_0 = M from (e_M407_0.trans (if_pos h92_407))] at j105_407; exact j105_407)
              · refine r_aload_n e_X4_judgeNames_95 rfl ?_
                refine r_aload_n e_X4_judgeNames_96 rfl ?_
                refine r_getR e_X4_judgeNames_97 fl_X4_27 k0 k6 ?_
                refine r_iload_n e_X4_judgeNames_100 rfl ?_
                refine r_iaload e_X4_judgeNames_101 k7 (vp_guard g1 h18_401 (by decide)) ?_
                refine r_putI e_X4_judgeNames_102 fl_X4_44 k0 ?_
                (rw [show M407_0 = setI M a 9 (M.1 (a + 5) u3.toNatClampNeg) from (e_M407_0.trans (if_neg h92_407))] at j105_407; exact j105_407)
            refine p_iinc_6_3 e_X4_judgeNames_105 rfl ic_1 rfl ?_
            refine r_goto e_X4_judgeNames_108 ?_
            refine d_6_4 ?_
            refine d_6_5 ?_
            (subst e_M407_0 e_v405_1 e_v405_0 e_v404_0; simp only [F_X4_judgeNames_4, if_neg h9_400, if_neg h18_401, if_neg h25_402, if_pos h36_403] at hq; (try simp only [if_neg h9_400, if_neg h18_401, if_neg h25_402, if_pos h36_403] at hH); first | exact ih _ _ _ hH hq | (simp only [if_neg h9_400, if_neg h18_401, if_neg h25_402, if_pos h36_403]; exact ih _ _ _ hH hq))
def U_X4_judgeNames (a : Nat) (x1 : Nat) (M : Mem) : Mem := ((F_X4_judgeNames_4 a x1 FUEL (0 : Int32) (1 : Int32) M).2.2)
def P_X4_judgeNames (a : Nat) (x1 : Nat) (M : Mem) : Prop := (T_X4_judgeNames_4 a x1 FUEL (0 : Int32) (1 : Int32) M)
theorem S_X4_judgeNames {sh : List SC} {M : Mem} {a : Nat} {x1 : Nat}  (hb1 : ReaderAt sh a) (hb2 : ProgramAt sh x1)  (hP : P_X4_judgeNames a x1 M) : Gu m_X4_judgeNames [.ref a, .ref x1] sh M (U_X4_judgeNames a x1 M) := by
  refine Sp.of (ls := [some (.ref a), some (.ref x1), none, none, none, none]) (by decide +kernel) (Nat.le_of_ble_eq_true rfl) rfl ?_
  have g1 : T_X4_judgeNames_4 a x1 FUEL (0 : Int32) (1 : Int32) M := hP
  refine r_iconst e_X4_judgeNames_0 ic_0 ?_
  refine p_istore_n_6_2 e_X4_judgeNames_1 rfl rfl ?_
  refine r_iconst e_X4_judgeNames_2 ic_1 ?_
  refine p_istore_n_6_3 e_X4_judgeNames_3 rfl rfl ?_
  refine L_X4_judgeNames_4 hb1 hb2 FUEL (0 : Int32) (1 : Int32) M g1 ?_
  refine r_return e_X4_judgeNames_111 rfl ⟨rfl, rfl⟩ ?_
  (refine ⟨?_, rfl, ?_⟩ <;> ((try unfold U_X4_judgeNames); (try simp only []); (try rfl)))
