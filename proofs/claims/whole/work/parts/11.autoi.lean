def V_X11_isTeam (x1 : Int32) (M : Mem) : Int32 := (V_X11_in x1 (0 : Int32) (3 : Int32) M)
theorem Z_X11_isTeam {M : Mem} {x1 : Int32}   : V_X11_isTeam x1 M = 0 ∨ V_X11_isTeam x1 M = 1 := Z_X11_in
theorem S_X11_isTeam {sh : List SC} {M : Mem} {x1 : Int32}    : Gv m_X11_isTeam [.int x1] sh M (.int (V_X11_isTeam x1 M)) M := by
  refine Sp.of (ls := [some (.int x1)]) (by decide +kernel) (Nat.le_of_ble_eq_true rfl) rfl ?_
  refine r_iload_n e_X11_isTeam_0 rfl ?_
  refine r_iconst e_X11_isTeam_1 ic_0 ?_
  refine r_iconst e_X11_isTeam_2 ic_3 ?_
  refine cS3v e_X11_isTeam_3 cl_X11_245 ⟨Nat.le_of_ble_eq_true rfl, Nat.le_of_ble_eq_true rfl⟩ ⟨rfl, rfl⟩  (Nat.le_of_ble_eq_true rfl) (S_X11_in ) ?_
  refine r_zreturn e_X11_isTeam_6 rfl ⟨rfl, rfl⟩ (Z_X11_in) ?_
  (refine ⟨?_, rfl, ?_⟩ <;> ((try unfold V_X11_isTeam); (try simp only []); (try rfl)))
def V_X11_start (x1 : Int32) (x2 : Int32) (x3 : Int32) (x4 : Int32) (M : Mem) : Int32 := if (V_X11_isTeam x1 M) = 0 then (V_X11_finding (-1001 : Int32) M) else (if (V_X11_in x2 (0 : Int32) (4 : Int32) M) = 0 then (V_X11_finding (-1001 : Int32) M) else (if (V_X11_in x3 (0 : Int32) (6 : Int32) M) = 0 then (V_X11_finding (-1001 : Int32) M) else (if (V_X11_in x4 (0 : Int32) (8 : Int32) M) = 0 then (V_X11_finding (-1001 : Int32) M) else (1 : Int32))))
def U_X11_start (x1 : Int32) (x2 : Int32) (x3 : Int32) (x4 : Int32) (M : Mem) : Mem := if (V_X11_isTeam x1 M) = 0 then (U_X11_finding (-1001 : Int32) M) else (if (V_X11_in x2 (0 : Int32) (4 : Int32) M) = 0 then (U_X11_finding (-1001 : Int32) M) else (if (V_X11_in x3 (0 : Int32) (6 : Int32) M) = 0 then (U_X11_finding (-1001 : Int32) M) else (if (V_X11_in x4 (0 : Int32) (8 : Int32) M) = 0 then (U_X11_finding (-1001 : Int32) M) else (setI (setI M 255 (((5 : Int32) * x1) + x2).toNatClampNeg x3) 256 (((5 : Int32) * x1) + x2).toNatClampNeg x4))))
def P_X11_start (x1 : Int32) (x2 : Int32) (x3 : Int32) (x4 : Int32) (M : Mem) : Prop := (¬ ((V_X11_isTeam x1 M) = 0) → ¬ ((V_X11_in x2 (0 : Int32) (4 : Int32) M) = 0) → ¬ ((V_X11_in x3 (0 : Int32) (6 : Int32) M) = 0) → ¬ ((V_X11_in x4 (0 : Int32) (8 : Int32) M) = 0) → vp_in (((5 : Int32) * x1) + x2) 20)
theorem S_X11_start {sh : List SC} {M : Mem} {x1 : Int32} {x2 : Int32} {x3 : Int32} {x4 : Int32} {mA : Nat} {oA : Nat} (hb1 : ModelAt sh mA oA)  (hP : P_X11_start x1 x2 x3 x4 M) : Gv m_X11_start [.ref 242, .int x1, .int x2, .int x3, .int x4] sh M (.int (V_X11_start x1 x2 x3 x4 M)) (U_X11_start x1 x2 x3 x4 M) := by
  refine Sp.of (ls := [some (.ref 242), some (.int x1), some (.int x2), some (.int x3), some (.int x4)]) (by decide +kernel) (Nat.le_of_ble_eq_true rfl) rfl ?_
  have g1 : ¬ ((V_X11_isTeam x1 M) = 0) → ¬ ((V_X11_in x2 (0 : Int32) (4 : Int32) M) = 0) → ¬ ((V_X11_in x3 (0 : Int32) (6 : Int32) M) = 0) → ¬ ((V_X11_in x4 (0 : Int32) (8 : Int32) M) = 0) → vp_in (((5 : Int32) * x1) + x2) 20 := hP
  have k0 : kd sh 242 = some (10 + 7, 0) := hb1.1
  have k1 : rf sh 242 23 = some 255 := hb1.2.2.2.2.2.2.2.2.2.2.2.2.2.1
  have k2 : kd sh 255 = some (0, 20) := hb1.2.2.2.2.2.2.2.2.2.2.2.2.2.2.2.2.2.2.2.2.2.2.2.2.2.2.2.2.2.2.2.2.2.2.2.2.2.2.2.1
  have k3 : rf sh 242 24 = some 256 := hb1.2.2.2.2.2.2.2.2.2.2.2.2.2.2.1
  have k4 : kd sh 256 = some (0, 20) := hb1.2.2.2.2.2.2.2.2.2.2.2.2.2.2.2.2.2.2.2.2.2.2.2.2.2.2.2.2.2.2.2.2.2.2.2.2.2.2.2.2.1
  refine r_iload_n e_X11_start_0 rfl ?_
  refine cS1v e_X11_start_1 cl_X11_249 ⟨Nat.le_of_ble_eq_true rfl, Nat.le_of_ble_eq_true rfl⟩ ⟨rfl, rfl⟩  (Nat.le_of_ble_eq_true rfl) (S_X11_isTeam ) ?_
  refine r_if_eq e_X11_start_4 (fun h4_0 => ?_) (fun h4_0 => ?_)
  · refine r_aload_n e_X11_start_37 rfl ?_
    refine r_sipush e_X11_start_38 sp_m1001 ?_
    refine cV1v e_X11_start_41 cl_X11_178 ⟨Nat.le_of_ble_eq_true rfl, Nat.le_of_ble_eq_true rfl⟩ ⟨rfl, rfl⟩ k0 (Nat.le_of_ble_eq_true rfl) (S_X11_finding hb1 (by first | decide | (unfold vp_in; decide) | exact Or.inl rfl | exact Or.inr rfl)) ?_
    refine r_ireturn e_X11_start_44 rfl ⟨rfl, rfl⟩ ?_
    (refine ⟨?_, rfl, ?_⟩ <;> ((try unfold V_X11_start); (try unfold U_X11_start); (try simp only [if_pos h4_0]); (try rfl)))
  · refine r_iload_n e_X11_start_7 rfl ?_
    refine r_iconst e_X11_start_8 ic_0 ?_
    refine r_iconst e_X11_start_9 ic_4 ?_
    refine cS3v e_X11_start_10 cl_X11_245 ⟨Nat.le_of_ble_eq_true rfl, Nat.le_of_ble_eq_true rfl⟩ ⟨rfl, rfl⟩  (Nat.le_of_ble_eq_true rfl) (S_X11_in ) ?_
    refine r_if_eq e_X11_start_13 (fun h13_1 => ?_) (fun h13_1 => ?_)
    · refine r_aload_n e_X11_start_37 rfl ?_
      refine r_sipush e_X11_start_38 sp_m1001 ?_
      refine cV1v e_X11_start_41 cl_X11_178 ⟨Nat.le_of_ble_eq_true rfl, Nat.le_of_ble_eq_true rfl⟩ ⟨rfl, rfl⟩ k0 (Nat.le_of_ble_eq_true rfl) (S_X11_finding hb1 (by first | decide | (unfold vp_in; decide) | exact Or.inl rfl | exact Or.inr rfl)) ?_
      refine r_ireturn e_X11_start_44 rfl ⟨rfl, rfl⟩ ?_
      (refine ⟨?_, rfl, ?_⟩ <;> ((try unfold V_X11_start); (try unfold U_X11_start); (try simp only [if_neg h4_0, if_pos h13_1]); (try rfl)))
    · refine r_iload_n e_X11_start_16 rfl ?_
      refine r_iconst e_X11_start_17 ic_0 ?_
      refine r_bipush e_X11_start_18 bp_6 ?_
      refine cS3v e_X11_start_20 cl_X11_245 ⟨Nat.le_of_ble_eq_true rfl, Nat.le_of_ble_eq_true rfl⟩ ⟨rfl, rfl⟩  (Nat.le_of_ble_eq_true rfl) (S_X11_in ) ?_
      refine r_if_eq e_X11_start_23 (fun h23_2 => ?_) (fun h23_2 => ?_)
      · refine r_aload_n e_X11_start_37 rfl ?_
        refine r_sipush e_X11_start_38 sp_m1001 ?_
        refine cV1v e_X11_start_41 cl_X11_178 ⟨Nat.le_of_ble_eq_true rfl, Nat.le_of_ble_eq_true rfl⟩ ⟨rfl, rfl⟩ k0 (Nat.le_of_ble_eq_true rfl) (S_X11_finding hb1 (by first | decide | (unfold vp_in; decide) | exact Or.inl rfl | exact Or.inr rfl)) ?_
        refine r_ireturn e_X11_start_44 rfl ⟨rfl, rfl⟩ ?_
        (refine ⟨?_, rfl, ?_⟩ <;> ((try unfold V_X11_start); (try unfold U_X11_start); (try simp only [if_neg h4_0, if_neg h13_1, if_pos h23_2]); (try rfl)))
      · refine r_iload e_X11_start_26 rfl ?_
        refine r_iconst e_X11_start_28 ic_0 ?_
        refine r_bipush e_X11_start_29 bp_8 ?_
        refine cS3v e_X11_start_31 cl_X11_245 ⟨Nat.le_of_ble_eq_true rfl, Nat.le_of_ble_eq_true rfl⟩ ⟨rfl, rfl⟩  (Nat.le_of_ble_eq_true rfl) (S_X11_in ) ?_
        refine r_if_ne e_X11_start_34 (fun h34_3 => ?_) (fun h34_3 => ?_)
        · refine r_aload_n e_X11_start_45 rfl ?_
          refine r_getR e_X11_start_46 fl_X11_200 k0 k1 ?_
          refine r_iconst e_X11_start_49 ic_5 ?_
          refine r_iload_n e_X11_start_50 rfl ?_
          refine r_imul e_X11_start_51 ?_
          refine r_iload_n e_X11_start_52 rfl ?_
          refine r_iadd e_X11_start_53 ?_
          refine r_iload_n e_X11_start_54 rfl ?_
          refine r_iastore e_X11_start_55 k2 (g1 h4_0 h13_1 h23_2 h34_3) ?_
          refine r_aload_n e_X11_start_56 rfl ?_
          refine r_getR e_X11_start_57 fl_X11_203 k0 k3 ?_
          refine r_iconst e_X11_start_60 ic_5 ?_
          refine r_iload_n e_X11_start_61 rfl ?_
          refine r_imul e_X11_start_62 ?_
          refine r_iload_n e_X11_start_63 rfl ?_
          refine r_iadd e_X11_start_64 ?_
          refine r_iload e_X11_start_65 rfl ?_
          refine r_iastore e_X11_start_67 k4 (g1 h4_0 h13_1 h23_2 h34_3) ?_
          refine r_iconst e_X11_start_68 ic_1 ?_
          refine r_ireturn e_X11_start_69 rfl ⟨rfl, rfl⟩ ?_
          (refine ⟨?_, rfl, ?_⟩ <;> ((try unfold V_X11_start); (try unfold U_X11_start); (try simp only [if_neg h4_0, if_neg h13_1, if_neg h23_2, if_neg h34_3]); (try rfl)))
        · refine r_aload_n e_X11_start_37 rfl ?_
          refine r_sipush e_X11_start_38 sp_m1001 ?_
          refine cV1v e_X11_start_41 cl_X11_178 ⟨Nat.le_of_ble_eq_true rfl, Nat.le_of_ble_eq_true rfl⟩ ⟨rfl, rfl⟩ k0 (Nat.le_of_ble_eq_true rfl) (S_X11_finding hb1 (by first | decide | (unfold vp_in; decide) | exact Or.inl rfl | exact Or.inr rfl)) ?_
          refine r_ireturn e_X11_start_44 rfl ⟨rfl, rfl⟩ ?_
          (refine ⟨?_, rfl, ?_⟩ <;> ((try unfold V_X11_start); (try unfold U_X11_start); (try simp only [if_neg h4_0, if_neg h13_1, if_neg h23_2, if_pos h34_3]); (try rfl)))
def V_X11_views (x1 : Int32) (x2 : Int32) (x3 : Int32) (M : Mem) : Int32 := if (V_X11_isTeam x1 M) = 0 then (V_X11_finding (-1001 : Int32) M) else (if (V_X11_in x2 (0 : Int32) (3 : Int32) M) = 0 then (V_X11_finding (-1001 : Int32) M) else (if x3 = 0 then (1 : Int32) else (if (V_X11_in x3 (2 : Int32) (9 : Int32) M) = 0 then (V_X11_finding (-1001 : Int32) M) else (1 : Int32))))
def U_X11_views (x1 : Int32) (x2 : Int32) (x3 : Int32) (M : Mem) : Mem := if (V_X11_isTeam x1 M) = 0 then (U_X11_finding (-1001 : Int32) M) else (if (V_X11_in x2 (0 : Int32) (3 : Int32) M) = 0 then (U_X11_finding (-1001 : Int32) M) else (if x3 = 0 then (setI (setI M 257 x1.toNatClampNeg x2) 258 x1.toNatClampNeg x3) else (if (V_X11_in x3 (2 : Int32) (9 : Int32) M) = 0 then (U_X11_finding (-1001 : Int32) M) else (setI (setI M 257 x1.toNatClampNeg x2) 258 x1.toNatClampNeg x3))))
def P_X11_views (x1 : Int32) (x2 : Int32) (x3 : Int32) (M : Mem) : Prop := (¬ ((V_X11_isTeam x1 M) = 0) → ¬ ((V_X11_in x2 (0 : Int32) (3 : Int32) M) = 0) → x3 = 0 → vp_in x1 4) ∧ (¬ ((V_X11_isTeam x1 M) = 0) → ¬ ((V_X11_in x2 (0 : Int32) (3 : Int32) M) = 0) → ¬ (x3 = 0) → ¬ ((V_X11_in x3 (2 : Int32) (9 : Int32) M) = 0) → vp_in x1 4)
theorem S_X11_views {sh : List SC} {M : Mem} {x1 : Int32} {x2 : Int32} {x3 : Int32} {mA : Nat} {oA : Nat} (hb1 : ModelAt sh mA oA)  (hP : P_X11_views x1 x2 x3 M) : Gv m_X11_views [.ref 242, .int x1, .int x2, .int x3] sh M (.int (V_X11_views x1 x2 x3 M)) (U_X11_views x1 x2 x3 M) := by
  refine Sp.of (ls := [some (.ref 242), some (.int x1), some (.int x2), some (.int x3)]) (by decide +kernel) (Nat.le_of_ble_eq_true rfl) rfl ?_
  obtain ⟨g1, g2⟩ := hP
  have k0 : kd sh 242 = some (10 + 7, 0) := hb1.1
  have k1 : rf sh 242 25 = some 257 := hb1.2.2.2.2.2.2.2.2.2.2.2.2.2.2.2.1
  have k2 : kd sh 257 = some (0, 4) := hb1.2.2.2.2.2.2.2.2.2.2.2.2.2.2.2.2.2.2.2.2.2.2.2.2.2.2.2.2.2.2.2.2.2.2.2.2.2.2.2.2.2.1
  have k3 : rf sh 242 26 = some 258 := hb1.2.2.2.2.2.2.2.2.2.2.2.2.2.2.2.2.1
  have k4 : kd sh 258 = some (0, 4) := hb1.2.2.2.2.2.2.2.2.2.2.2.2.2.2.2.2.2.2.2.2.2.2.2.2.2.2.2.2.2.2.2.2.2.2.2.2.2.2.2.2.2.2.1
  refine r_iload_n e_X11_views_0 rfl ?_
  refine cS1v e_X11_views_1 cl_X11_249 ⟨Nat.le_of_ble_eq_true rfl, Nat.le_of_ble_eq_true rfl⟩ ⟨rfl, rfl⟩  (Nat.le_of_ble_eq_true rfl) (S_X11_isTeam ) ?_
  refine r_if_eq e_X11_views_4 (fun h4_0 => ?_) (fun h4_0 => ?_)
  · refine r_aload_n e_X11_views_30 rfl ?_
    refine r_sipush e_X11_views_31 sp_m1001 ?_
    refine cV1v e_X11_views_34 cl_X11_178 ⟨Nat.le_of_ble_eq_true rfl, Nat.le_of_ble_eq_true rfl⟩ ⟨rfl, rfl⟩ k0 (Nat.le_of_ble_eq_true rfl) (S_X11_finding hb1 (by first | decide | (unfold vp_in; decide) | exact Or.inl rfl | exact Or.inr rfl)) ?_
    refine r_ireturn e_X11_views_37 rfl ⟨rfl, rfl⟩ ?_
    (refine ⟨?_, rfl, ?_⟩ <;> ((try unfold V_X11_views); (try unfold U_X11_views); (try simp only [if_pos h4_0]); (try rfl)))
  · refine r_iload_n e_X11_views_7 rfl ?_
    refine r_iconst e_X11_views_8 ic_0 ?_
    refine r_iconst e_X11_views_9 ic_3 ?_
    refine cS3v e_X11_views_10 cl_X11_245 ⟨Nat.le_of_ble_eq_true rfl, Nat.le_of_ble_eq_true rfl⟩ ⟨rfl, rfl⟩  (Nat.le_of_ble_eq_true rfl) (S_X11_in ) ?_
    refine r_if_eq e_X11_views_13 (fun h13_1 => ?_) (fun h13_1 => ?_)
    · refine r_aload_n e_X11_views_30 rfl ?_
      refine r_sipush e_X11_views_31 sp_m1001 ?_
      refine cV1v e_X11_views_34 cl_X11_178 ⟨Nat.le_of_ble_eq_true rfl, Nat.le_of_ble_eq_true rfl⟩ ⟨rfl, rfl⟩ k0 (Nat.le_of_ble_eq_true rfl) (S_X11_finding hb1 (by first | decide | (unfold vp_in; decide) | exact Or.inl rfl | exact Or.inr rfl)) ?_
      refine r_ireturn e_X11_views_37 rfl ⟨rfl, rfl⟩ ?_
      (refine ⟨?_, rfl, ?_⟩ <;> ((try unfold V_X11_views); (try unfold U_X11_views); (try simp only [if_neg h4_0, if_pos h13_1]); (try rfl)))
    · refine r_iload_n e_X11_views_16 rfl ?_
      refine r_if_eq e_X11_views_17 (fun h17_2 => ?_) (fun h17_2 => ?_)
      · refine r_aload_n e_X11_views_38 rfl ?_
        refine r_getR e_X11_views_39 fl_X11_206 k0 k1 ?_
        refine r_iload_n e_X11_views_42 rfl ?_
        refine r_iload_n e_X11_views_43 rfl ?_
        refine r_iastore e_X11_views_44 k2 (g1 h4_0 h13_1 h17_2) ?_
        refine r_aload_n e_X11_views_45 rfl ?_
        refine r_getR e_X11_views_46 fl_X11_209 k0 k3 ?_
        refine r_iload_n e_X11_views_49 rfl ?_
        refine r_iload_n e_X11_views_50 rfl ?_
        refine r_iastore e_X11_views_51 k4 (g1 h4_0 h13_1 h17_2) ?_
        refine r_iconst e_X11_views_52 ic_1 ?_
        refine r_ireturn e_X11_views_53 rfl ⟨rfl, rfl⟩ ?_
        (refine ⟨?_, rfl, ?_⟩ <;> ((try unfold V_X11_views); (try unfold U_X11_views); (try simp only [if_neg h4_0, if_neg h13_1, if_pos h17_2]); (try rfl)))
      · refine r_iload_n e_X11_views_20 rfl ?_
        refine r_iconst e_X11_views_21 ic_2 ?_
        refine r_bipush e_X11_views_22 bp_9 ?_
        refine cS3v e_X11_views_24 cl_X11_245 ⟨Nat.le_of_ble_eq_true rfl, Nat.le_of_ble_eq_true rfl⟩ ⟨rfl, rfl⟩  (Nat.le_of_ble_eq_true rfl) (S_X11_in ) ?_
        refine r_if_ne e_X11_views_27 (fun h27_3 => ?_) (fun h27_3 => ?_)
        · refine r_aload_n e_X11_views_38 rfl ?_
          refine r_getR e_X11_views_39 fl_X11_206 k0 k1 ?_
          refine r_iload_n e_X11_views_42 rfl ?_
          refine r_iload_n e_X11_views_43 rfl ?_
          refine r_iastore e_X11_views_44 k2 (g2 h4_0 h13_1 h17_2 h27_3) ?_
          refine r_aload_n e_X11_views_45 rfl ?_
          refine r_getR e_X11_views_46 fl_X11_209 k0 k3 ?_
          refine r_iload_n e_X11_views_49 rfl ?_
          refine r_iload_n e_X11_views_50 rfl ?_
          refine r_iastore e_X11_views_51 k4 (g2 h4_0 h13_1 h17_2 h27_3) ?_
          refine r_iconst e_X11_views_52 ic_1 ?_
          refine r_ireturn e_X11_views_53 rfl ⟨rfl, rfl⟩ ?_
          (refine ⟨?_, rfl, ?_⟩ <;> ((try unfold V_X11_views); (try unfold U_X11_views); (try simp only [if_neg h4_0, if_neg h13_1, if_neg h17_2, if_neg h27_3]); (try rfl)))
        · refine r_aload_n e_X11_views_30 rfl ?_
          refine r_sipush e_X11_views_31 sp_m1001 ?_
          refine cV1v e_X11_views_34 cl_X11_178 ⟨Nat.le_of_ble_eq_true rfl, Nat.le_of_ble_eq_true rfl⟩ ⟨rfl, rfl⟩ k0 (Nat.le_of_ble_eq_true rfl) (S_X11_finding hb1 (by first | decide | (unfold vp_in; decide) | exact Or.inl rfl | exact Or.inr rfl)) ?_
          refine r_ireturn e_X11_views_37 rfl ⟨rfl, rfl⟩ ?_
          (refine ⟨?_, rfl, ?_⟩ <;> ((try unfold V_X11_views); (try unfold U_X11_views); (try simp only [if_neg h4_0, if_neg h13_1, if_neg h17_2, if_pos h27_3]); (try rfl)))
def F_X11_findPut_38 (x1 : Int32) (x2 : Int32) (x3 : Int32) (mA : Nat) (i28 : Nat) : Nat → Nat → Int32 → Mem → Int32 × Mem
  | 0, i38, u4, M => (u4, M)
  | n + 1, i38, u4, M => (let v6601_0 : Int32 := if u4 ≤ (V_X11_distance x1 x2 (nI i28) (nI i38) M) then u4 else (if 0 ≤ (V_X11_robotAt (nI i28) (nI i38) x3 mA M) then u4 else (V_X11_distance x1 x2 (nI i28) (nI i38) M)); let M6601_1 : Mem := if u4 ≤ (V_X11_distance x1 x2 (nI i28) (nI i38) M) then M else (if 0 ≤ (V_X11_robotAt (nI i28) (nI i38) x3 mA M) then M else (setI (setI M 242 31 (nI i28)) 242 32 (nI i38))); (F_X11_findPut_38 x1 x2 x3 mA i28 n (i38 + 1) v6601_0 M6601_1))
def H_X11_findPut_38 (x1 : Int32) (x2 : Int32) (x3 : Int32) (mA : Nat) (i28 : Nat) : Nat → Nat → Int32 → Mem → Prop
  | 0, i38, u4, M => True
  | n + 1, i38, u4, M => (∀ i38 : Nat, i38 < 9 → ∀ i28 : Nat, i28 < 15 → P_X11_robotAt (nI i28) (nI i38) x3 mA M) ∧ ((let v6601_0 : Int32 := if u4 ≤ (V_X11_distance x1 x2 (nI i28) (nI i38) M) then u4 else (if 0 ≤ (V_X11_robotAt (nI i28) (nI i38) x3 mA M) then u4 else (V_X11_distance x1 x2 (nI i28) (nI i38) M)); let M6601_1 : Mem := if u4 ≤ (V_X11_distance x1 x2 (nI i28) (nI i38) M) then M else (if 0 ≤ (V_X11_robotAt (nI i28) (nI i38) x3 mA M) then M else (setI (setI M 242 31 (nI i28)) 242 32 (nI i38))); (H_X11_findPut_38 x1 x2 x3 mA i28 n (i38 + 1) v6601_0 M6601_1)))
theorem L_X11_findPut_38 {sh : List SC} {Q : Po} {x1 : Int32} {x2 : Int32} {x3 : Int32} {mA : Nat} {oA : Nat}  {i28 : Nat} (hb1 : ModelAt sh mA oA)  (hlt_i28 : i28 < 15) : ∀ (n i38 : Nat) (u4 : Int32) (M : Mem), i38 + n = 9 → H_X11_findPut_38 x1 x2 x3 mA i28 n i38 u4 M → WP m_X11_findPut Q 100 [some (.ref 242), some (.int x1), some (.int x2), some (.int x3), some (.int ((F_X11_findPut_38 x1 x2 x3 mA i28 n i38 u4 M).1)), some (.int (nI i28)), none] [] sh ((F_X11_findPut_38 x1 x2 x3 mA i28 n i38 u4 M).2) 0 0 → WP m_X11_findPut Q 38 [some (.ref 242), some (.int x1), some (.int x2), some (.int x3), some (.int u4), some (.int (nI i28)), some (.int (nI i38))] [] sh M 0 0 := by
  have k0 : kd sh 242 = some (10 + 7, 0) := hb1.1
  have hcl_i28 : (nI i28).toNatClampNeg = i28 := nI_clamp (by omega)
  intro n
  induction n with
  | zero =>
    intro i38 u4 M hi _ hq
    have hz : (9 : Int32) ≤ nI i38 := by
      have q : i38 = 9 := by omega
      rw [q]; exact nI_le (Nat.le_refl _) (by decide)
    refine r_iload e_X11_findPut_38 rfl ?_
    refine r_bipush e_X11_findPut_40 bp_9 ?_
    refine r_icmp_ge e_X11_findPut_42 (fun _ => ?_) (fun hh => absurd hz hh)
    refine d_7_6 ?_
    (simp only [F_X11_findPut_38] at hq; first | exact hq | (simp only []; exact hq))
  | succ n ih =>
    intro i38 u4 M hi hH hq
    unfold H_X11_findPut_38 at hH
    obtain ⟨g1, hH⟩ := hH
    have hlt_i38 : i38 < 9 := by omega
    have hcl_i38 : (nI i38).toNatClampNeg = i38 := nI_clamp (by omega)
    have hs : ¬ (9 : Int32) ≤ nI i38 := nI_ge (b := 9) hlt_i38 (by decide)
    refine r_iload e_X11_findPut_38 rfl ?_
    refine r_bipush e_X11_findPut_40 bp_9 ?_
    refine r_icmp_ge e_X11_findPut_42 (fun hh => absurd hh hs) (fun _ => ?_)
    refine r_iload_n e_X11_findPut_45 rfl ?_
    refine r_iload_n e_X11_findPut_46 rfl ?_
    refine r_iload e_X11_findPut_47 rfl ?_
    refine r_iload e_X11_findPut_49 rfl ?_
    refine cS4v e_X11_findPut_51 cl_X11_274 ⟨Nat.le_of_ble_eq_true rfl, Nat.le_of_ble_eq_true rfl⟩ ⟨rfl, rfl⟩  (Nat.le_of_ble_eq_true rfl) (S_X11_distance ) ?_
    refine r_iload e_X11_findPut_54 rfl ?_
    obtain ⟨v6601_0, e_v6601_0⟩ : ∃ z : Int32, z = (if u4 ≤ (V_X11_distance x1 x2 (nI i28) (nI i38) M) then u4 else (if 0 ≤ (V_X11_robotAt (nI i28) (nI i38) x3 mA M) then u4 else (V_X11_distance x1 x2 (nI i28) (nI i38) M))) := ⟨_, rfl⟩
    obtain ⟨M6601_1, e_M6601_1⟩ : ∃ z : Mem, z = (if u4 ≤ (V_X11_distance x1 x2 (nI i28) (nI i38) M) then M else (if 0 ≤ (V_X11_robotAt (nI i28) (nI i38) x3 mA M) then M else (setI (setI M 242 31 (nI i28)) 242 32 (nI i38)))) := ⟨_, rfl⟩
    suffices j94_6601 : WP m_X11_findPut Q 94 [some (.ref 242), some (.int x1), some (.int x2), some (.int x3), some (.int v6601_0), some (.int (nI i28)), some (.int (nI i38))] [] sh M6601_1 0 0 by
      refine r_icmp_ge e_X11_findPut_56 (fun h56_6601 => ?_) (fun h56_6601 => ?_)
      · (rw [show v6601_0 = u4 from (e_v6601_0.trans (if_pos h56_6601)), show M6601_1 = M from (e_M6601_1.trans (if_pos h56_6601))] at j94_6601; exact j94_6601)
      · refine r_aload_n e_X11_findPut_59 rfl ?_
        refine r_iload e_X11_findPut_60 rfl ?_
        refine r_iload e_X11_findPut_62 rfl ?_
        refine r_iload_n e_X11_findPut_64 rfl ?_
        refine cV3v e_X11_findPut_65 cl_X11_270 ⟨Nat.le_of_ble_eq_true rfl, Nat.le_of_ble_eq_true rfl⟩ ⟨rfl, rfl⟩ k0 (Nat.le_of_ble_eq_true rfl) (S_X11_robotAt hb1 (g1 i38 hlt_i38 i28 hlt_i28)) ?_
        refine r_if_ge e_X11_findPut_68 (fun h68_6602 => ?_) (fun h68_6602 => ?_)
        · (rw [show v6601_0 = u4 from ((e_v6601_0.trans (if_neg h56_6601)).trans (if_pos h68_6602)), show M6601_1 = M from ((e_M6601_1.trans (if_neg h56_6601)).trans (if_pos h68_6602))] at j94_6601; exact j94_6601)
        · refine r_iload_n e_X11_findPut_71 rfl ?_
          refine r_iload_n e_X11_findPut_72 rfl ?_
          refine r_iload e_X11_findPut_73 rfl ?_
          refine r_iload e_X11_findPut_75 rfl ?_
          refine cS4v e_X11_findPut_77 cl_X11_274 ⟨Nat.le_of_ble_eq_true rfl, Nat.le_of_ble_eq_true rfl⟩ ⟨rfl, rfl⟩  (Nat.le_of_ble_eq_true rfl) (S_X11_distance ) ?_
          refine p_istore_7_4 e_X11_findPut_80 rfl rfl ?_
          refine r_aload_n e_X11_findPut_82 rfl ?_
          refine r_iload e_X11_findPut_83 rfl ?_
          refine r_putI e_X11_findPut_85 fl_X11_264 k0 ?_
          refine r_aload_n e_X11_findPut_88 rfl ?_
          refine r_iload e_X11_findPut_89 rfl ?_
          refine r_putI e_X11_findPut_91 fl_X11_267 k0 ?_
          (rw [show v6601_0 = (V_X11_distance x1 x2 (nI i28) (nI i38) M) from ((e_v6601_0.trans (if_neg h56_6601)).trans (if_neg h68_6602)), show M6601_1 = setI (setI M 242 31 (nI i28)) 242 32 (nI i38) from ((e_M6601_1.trans (if_neg h56_6601)).trans (if_neg h68_6602))] at j94_6601; exact j94_6601)
    refine p_iinc_7_6 e_X11_findPut_94 rfl ic_1 rfl ?_
    rw [nI_1 i38]
    refine r_goto e_X11_findPut_97 ?_
    (subst e_M6601_1 e_v6601_0; simp only [F_X11_findPut_38] at hq; (try simp only [] at hH); first | exact ih (i38 + 1) _ _ (by omega) hH hq | (simp only []; exact ih (i38 + 1) _ _ (by omega) hH hq))
def F_X11_findPut_28 (x1 : Int32) (x2 : Int32) (x3 : Int32) (mA : Nat) : Nat → Nat → Int32 → Mem → Int32 × Mem
  | 0, i28, u4, M => (u4, M)
  | n + 1, i28, u4, M => (F_X11_findPut_28 x1 x2 x3 mA n (i28 + 1) ((F_X11_findPut_38 x1 x2 x3 mA i28 9 0 u4 M).1) ((F_X11_findPut_38 x1 x2 x3 mA i28 9 0 u4 M).2))
def H_X11_findPut_28 (x1 : Int32) (x2 : Int32) (x3 : Int32) (mA : Nat) : Nat → Nat → Int32 → Mem → Prop
  | 0, i28, u4, M => True
  | n + 1, i28, u4, M => (∀ i28 : Nat, i28 < 15 → H_X11_findPut_38 x1 x2 x3 mA i28 9 0 u4 M) ∧ ((H_X11_findPut_28 x1 x2 x3 mA n (i28 + 1) ((F_X11_findPut_38 x1 x2 x3 mA i28 9 0 u4 M).1) ((F_X11_findPut_38 x1 x2 x3 mA i28 9 0 u4 M).2)))
theorem L_X11_findPut_28 {sh : List SC} {Q : Po} {x1 : Int32} {x2 : Int32} {x3 : Int32} {mA : Nat} {oA : Nat}   (hb1 : ModelAt sh mA oA)   : ∀ (n i28 : Nat) (u4 : Int32) (M : Mem), i28 + n = 15 → H_X11_findPut_28 x1 x2 x3 mA n i28 u4 M → WP m_X11_findPut Q 106 [some (.ref 242), some (.int x1), some (.int x2), some (.int x3), some (.int ((F_X11_findPut_28 x1 x2 x3 mA n i28 u4 M).1)), none, none] [] sh ((F_X11_findPut_28 x1 x2 x3 mA n i28 u4 M).2) 0 0 → WP m_X11_findPut Q 28 [some (.ref 242), some (.int x1), some (.int x2), some (.int x3), some (.int u4), some (.int (nI i28)), none] [] sh M 0 0 := by
  intro n
  induction n with
  | zero =>
    intro i28 u4 M hi _ hq
    have hz : (15 : Int32) ≤ nI i28 := by
      have q : i28 = 15 := by omega
      rw [q]; exact nI_le (Nat.le_refl _) (by decide)
    refine r_iload e_X11_findPut_28 rfl ?_
    refine r_bipush e_X11_findPut_30 bp_15 ?_
    refine r_icmp_ge e_X11_findPut_32 (fun _ => ?_) (fun hh => absurd hz hh)
    refine d_7_5 ?_
    (simp only [F_X11_findPut_28] at hq; first | exact hq | (simp only []; exact hq))
  | succ n ih =>
    intro i28 u4 M hi hH hq
    unfold H_X11_findPut_28 at hH
    obtain ⟨g1, hH⟩ := hH
    have hlt_i28 : i28 < 15 := by omega
    have hcl_i28 : (nI i28).toNatClampNeg = i28 := nI_clamp (by omega)
    have hs : ¬ (15 : Int32) ≤ nI i28 := nI_ge (b := 15) hlt_i28 (by decide)
    refine r_iload e_X11_findPut_28 rfl ?_
    refine r_bipush e_X11_findPut_30 bp_15 ?_
    refine r_icmp_ge e_X11_findPut_32 (fun hh => absurd hh hs) (fun _ => ?_)
    refine r_iconst e_X11_findPut_35 ic_0 ?_
    refine p_istore_7_6 e_X11_findPut_36 rfl rfl ?_
    skip
    show WP m_X11_findPut _ 38 [some (.ref 242), some (.int x1), some (.int x2), some (.int x3), some (.int u4), some (.int (nI i28)), some (.int (nI 0))] [] sh M 0 0
    refine L_X11_findPut_38 hb1 hlt_i28 9 0 u4 M (by omega) (g1 i28 hlt_i28) ?_
    refine p_iinc_7_5 e_X11_findPut_100 rfl ic_1 rfl ?_
    rw [nI_1 i28]
    refine r_goto e_X11_findPut_103 ?_
    (simp only [F_X11_findPut_28] at hq; (try simp only [] at hH); first | exact ih (i28 + 1) _ _ (by omega) hH hq | (simp only []; exact ih (i28 + 1) _ _ (by omega) hH hq))
def U_X11_findPut (x1 : Int32) (x2 : Int32) (x3 : Int32) (mA : Nat) (M : Mem) : Mem := if 0 ≤ (V_X11_robotAt x1 x2 x3 mA (setI (setI M 242 31 x1) 242 32 x2)) then ((F_X11_findPut_28 x1 x2 x3 mA 15 0 (100 : Int32) (setI (setI M 242 31 x1) 242 32 x2)).2) else (setI (setI M 242 31 x1) 242 32 x2)
def P_X11_findPut (x1 : Int32) (x2 : Int32) (x3 : Int32) (mA : Nat) (M : Mem) : Prop := (P_X11_robotAt x1 x2 x3 mA (setI (setI M 242 31 x1) 242 32 x2)) ∧ (0 ≤ (V_X11_robotAt x1 x2 x3 mA (setI (setI M 242 31 x1) 242 32 x2)) → H_X11_findPut_28 x1 x2 x3 mA 15 0 (100 : Int32) (setI (setI M 242 31 x1) 242 32 x2))
theorem S_X11_findPut {sh : List SC} {M : Mem} {x1 : Int32} {x2 : Int32} {x3 : Int32} {mA : Nat} {oA : Nat} (hb1 : ModelAt sh mA oA)  (hP : P_X11_findPut x1 x2 x3 mA M) : Gu m_X11_findPut [.ref 242, .int x1, .int x2, .int x3] sh M (U_X11_findPut x1 x2 x3 mA M) := by
  refine Sp.of (ls := [some (.ref 242), some (.int x1), some (.int x2), some (.int x3), none, none, none]) (by decide +kernel) (Nat.le_of_ble_eq_true rfl) rfl ?_
  obtain ⟨g1, g2⟩ := hP
  have k0 : kd sh 242 = some (10 + 7, 0) := hb1.1
  refine r_aload_n e_X11_findPut_0 rfl ?_
  refine r_iload_n e_X11_findPut_1 rfl ?_
  refine r_putI e_X11_findPut_2 fl_X11_264 k0 ?_
  refine r_aload_n e_X11_findPut_5 rfl ?_
  refine r_iload_n e_X11_findPut_6 rfl ?_
  refine r_putI e_X11_findPut_7 fl_X11_267 k0 ?_
  refine r_aload_n e_X11_findPut_10 rfl ?_
  refine r_iload_n e_X11_findPut_11 rfl ?_
  refine r_iload_n e_X11_findPut_12 rfl ?_
  refine r_iload_n e_X11_findPut_13 rfl ?_
  refine cV3v e_X11_findPut_14 cl_X11_270 ⟨Nat.le_of_ble_eq_true rfl, Nat.le_of_ble_eq_true rfl⟩ ⟨rfl, rfl⟩ k0 (Nat.le_of_ble_eq_true rfl) (S_X11_robotAt hb1 g1) ?_
  refine r_if_ge e_X11_findPut_17 (fun h17_0 => ?_) (fun h17_0 => ?_)
  · refine r_bipush e_X11_findPut_21 bp_100 ?_
    refine p_istore_7_4 e_X11_findPut_23 rfl rfl ?_
    refine r_iconst e_X11_findPut_25 ic_0 ?_
    refine p_istore_7_5 e_X11_findPut_26 rfl rfl ?_
    skip
    show WP m_X11_findPut _ 28 [some (.ref 242), some (.int x1), some (.int x2), some (.int x3), some (.int (100 : Int32)), some (.int (nI 0)), none] [] sh (setI (setI M 242 31 x1) 242 32 x2) 0 0
    refine L_X11_findPut_28 hb1 15 0 (100 : Int32) (setI (setI M 242 31 x1) 242 32 x2) (by omega) (g2 h17_0) ?_
    refine r_return e_X11_findPut_106 rfl ⟨rfl, rfl⟩ ?_
    (refine ⟨?_, rfl, ?_⟩ <;> ((try unfold U_X11_findPut); (try simp only [if_pos h17_0]); (try rfl)))
  · refine r_return e_X11_findPut_20 rfl ⟨rfl, rfl⟩ ?_
    (refine ⟨?_, rfl, ?_⟩ <;> ((try unfold U_X11_findPut); (try simp only [if_neg h17_0]); (try rfl)))
def U_X11_lay (mA : Nat) (M : Mem) : Mem := (let Mc1 : Mem := U_X11_stopBall  mA (setI (setI (setI (U_X11_findPut (7 : Int32) (4 : Int32) (-1 : Int32) mA M) mA 14 ((U_X11_findPut (7 : Int32) (4 : Int32) (-1 : Int32) mA M).1 242 31)) mA 15 ((U_X11_findPut (7 : Int32) (4 : Int32) (-1 : Int32) mA M).1 242 32)) mA 16 (-1 : Int32)); setI Mc1 mA 21 (0 : Int32))
def P_X11_lay (mA : Nat) (M : Mem) : Prop := (P_X11_findPut (7 : Int32) (4 : Int32) (-1 : Int32) mA M)
theorem S_X11_lay {sh : List SC} {M : Mem}  {mA : Nat} {oA : Nat} (hb1 : ModelAt sh mA oA)  (hP : P_X11_lay mA M) : Gu m_X11_lay [.ref 242] sh M (U_X11_lay mA M) := by
  refine Sp.of (ls := [some (.ref 242)]) (by decide +kernel) (Nat.le_of_ble_eq_true rfl) rfl ?_
  have g1 : P_X11_findPut (7 : Int32) (4 : Int32) (-1 : Int32) mA M := hP
  have k0 : kd sh 242 = some (10 + 7, 0) := hb1.1
  have k1 : rf sh 242 27 = some mA := hb1.2.2.2.2.2.2.2.2.2.2.2.2.2.2.2.2.2.1
  have k2 : kd sh mA = some (0, 212) := hb1.2.2.2.2.2.2.2.2.2.2.2.2.2.2.2.2.2.2.2.2.2.2.2.2.2.2.2.2.2.2.2.2.2.2.2.2.2.2.2.2.2.2.2.2.2.2.2.2.2.2.2.1
  refine r_aload_n e_X11_lay_0 rfl ?_
  refine r_bipush e_X11_lay_1 bp_7 ?_
  refine r_iconst e_X11_lay_3 ic_4 ?_
  refine r_iconst e_X11_lay_4 ic_m1 ?_
  refine cV3u e_X11_lay_5 cl_X11_278 ⟨Nat.le_of_ble_eq_true rfl, Nat.le_of_ble_eq_true rfl⟩ ⟨rfl, rfl⟩ k0 (Nat.le_of_ble_eq_true rfl) (S_X11_findPut hb1 g1) ?_
  refine r_aload_n e_X11_lay_8 rfl ?_
  refine r_getR e_X11_lay_9 fl_X11_212 k0 k1 ?_
  refine r_bipush e_X11_lay_12 bp_14 ?_
  refine r_aload_n e_X11_lay_14 rfl ?_
  refine r_getI e_X11_lay_15 fl_X11_264 i0 k0 ?_
  refine r_iastore e_X11_lay_18 k2 (by unfold vp_in; decide) ?_
  rw [show (14 : Int32).toNatClampNeg = 14 from rfl]
  refine r_aload_n e_X11_lay_19 rfl ?_
  refine r_getR e_X11_lay_20 fl_X11_212 k0 k1 ?_
  refine r_bipush e_X11_lay_23 bp_15 ?_
  refine r_aload_n e_X11_lay_25 rfl ?_
  refine r_getIe e_X11_lay_26 fl_X11_267 i0 k0 (gs_nI (by decide)) ?_
  refine r_iastore e_X11_lay_29 k2 (by unfold vp_in; decide) ?_
  rw [show (15 : Int32).toNatClampNeg = 15 from rfl]
  refine r_aload_n e_X11_lay_30 rfl ?_
  refine r_getR e_X11_lay_31 fl_X11_212 k0 k1 ?_
  refine r_bipush e_X11_lay_34 bp_16 ?_
  refine r_iconst e_X11_lay_36 ic_m1 ?_
  refine r_iastore e_X11_lay_37 k2 (by unfold vp_in; decide) ?_
  rw [show (16 : Int32).toNatClampNeg = 16 from rfl]
  refine r_aload_n e_X11_lay_38 rfl ?_
  refine cV0u e_X11_lay_39 cl_X11_285 ⟨Nat.le_of_ble_eq_true rfl, Nat.le_of_ble_eq_true rfl⟩ ⟨rfl, rfl⟩ k0 (Nat.le_of_ble_eq_true rfl) (S_X11_stopBall hb1) ?_
  obtain ⟨Mc1, e_Mc1⟩ : ∃ z : Mem, z = (U_X11_stopBall  mA (setI (setI (setI (U_X11_findPut (7 : Int32) (4 : Int32) (-1 : Int32) mA M) mA 14 ((U_X11_findPut (7 : Int32) (4 : Int32) (-1 : Int32) mA M).1 242 31)) mA 15 ((U_X11_findPut (7 : Int32) (4 : Int32) (-1 : Int32) mA M).1 242 32)) mA 16 (-1 : Int32))) := ⟨_, rfl⟩
  rw [← e_Mc1]
  refine r_aload_n e_X11_lay_42 rfl ?_
  refine r_getR e_X11_lay_43 fl_X11_212 k0 k1 ?_
  refine r_bipush e_X11_lay_46 bp_21 ?_
  refine r_iconst e_X11_lay_48 ic_0 ?_
  refine r_iastore e_X11_lay_49 k2 (by unfold vp_in; decide) ?_
  rw [show (21 : Int32).toNatClampNeg = 21 from rfl]
  refine r_return e_X11_lay_50 rfl ⟨rfl, rfl⟩ ?_
  (subst e_Mc1; refine ⟨?_, rfl, ?_⟩ <;> ((try unfold U_X11_lay); (try simp only []); (try rfl)))
def U_X11_goes (x1 : Int32) (x2 : Int32) (x3 : Int32) (x4 : Int32) (mA : Nat) (M : Mem) : Mem := (let v0_0 : Int32 := if (5 : Int32) ≤ (M.1 242 33) then (-1 : Int32) else (1 : Int32); let v1_0 : Int32 := if (1 : Int32) ≤ x4 then (if x4 ≤ (9 : Int32) then x4 else (9 : Int32)) else (1 : Int32); setI (setI (setI (U_X11_set (M.1 242 33) (10 : Int32) x1 mA M) 262 ((U_X11_set (M.1 242 33) (10 : Int32) x1 mA M).1 242 33).toNatClampNeg (v0_0 * (V_X11_sign x2 (U_X11_set (M.1 242 33) (10 : Int32) x1 mA M)))) 263 ((U_X11_set (M.1 242 33) (10 : Int32) x1 mA M).1 242 33).toNatClampNeg (v0_0 * (V_X11_sign x3 (setI (U_X11_set (M.1 242 33) (10 : Int32) x1 mA M) 262 ((U_X11_set (M.1 242 33) (10 : Int32) x1 mA M).1 242 33).toNatClampNeg (v0_0 * (V_X11_sign x2 (U_X11_set (M.1 242 33) (10 : Int32) x1 mA M))))))) 264 ((U_X11_set (M.1 242 33) (10 : Int32) x1 mA M).1 242 33).toNatClampNeg v1_0)
theorem S_X11_goes {sh : List SC} {M : Mem} {x1 : Int32} {x2 : Int32} {x3 : Int32} {x4 : Int32} {mA : Nat} {oA : Nat} (hb1 : ModelAt sh mA oA) (g1 : vp_in (((44 : Int32) + ((16 : Int32) * (M.1 242 33))) + (10 : Int32)) 212) (g2 : vp_in ((U_X11_set (M.1 242 33) (10 : Int32) x1 mA M).1 242 33) 10) : Gu m_X11_goes [.ref 242, .int x1, .int x2, .int x3, .int x4] sh M (U_X11_goes x1 x2 x3 x4 mA M) := by
  refine Sp.of (ls := [some (.ref 242), some (.int x1), some (.int x2), some (.int x3), some (.int x4), none]) (by decide +kernel) (Nat.le_of_ble_eq_true rfl) rfl ?_
  have k0 : kd sh 242 = some (10 + 7, 0) := hb1.1
  have k1 : rf sh 242 38 = some 262 := hb1.2.2.2.2.2.2.2.2.2.2.2.2.2.2.2.2.2.2.2.2.1
  have k2 : kd sh 262 = some (0, 10) := hb1.2.2.2.2.2.2.2.2.2.2.2.2.2.2.2.2.2.2.2.2.2.2.2.2.2.2.2.2.2.2.2.2.2.2.2.2.2.2.2.2.2.2.2.2.1
  have k3 : rf sh 242 39 = some 263 := hb1.2.2.2.2.2.2.2.2.2.2.2.2.2.2.2.2.2.2.2.2.2.1
  have k4 : kd sh 263 = some (0, 10) := hb1.2.2.2.2.2.2.2.2.2.2.2.2.2.2.2.2.2.2.2.2.2.2.2.2.2.2.2.2.2.2.2.2.2.2.2.2.2.2.2.2.2.2.2.2.2.1
  have k5 : rf sh 242 40 = some 264 := hb1.2.2.2.2.2.2.2.2.2.2.2.2.2.2.2.2.2.2.2.2.2.2.1
  have k6 : kd sh 264 = some (0, 10) := hb1.2.2.2.2.2.2.2.2.2.2.2.2.2.2.2.2.2.2.2.2.2.2.2.2.2.2.2.2.2.2.2.2.2.2.2.2.2.2.2.2.2.2.2.2.2.2.1
  refine r_aload_n e_X11_goes_0 rfl ?_
  refine r_getI e_X11_goes_1 fl_X11_315 i0 k0 ?_
  refine r_iconst e_X11_goes_4 ic_5 ?_
  obtain ⟨v0_0, e_v0_0⟩ : ∃ z : Int32, z = (if (5 : Int32) ≤ (M.1 242 33) then (-1 : Int32) else (1 : Int32)) := ⟨_, rfl⟩
  suffices j13_0 : WP m_X11_goes (fun r sh' M'' => r = none ∧ sh' = sh ∧ M'' = (U_X11_goes x1 x2 x3 x4 mA M)) 13 [some (.ref 242), some (.int x1), some (.int x2), some (.int x3), some (.int x4), none] [.int v0_0] sh M 0 0 by
    refine r_icmp_ge e_X11_goes_5 (fun h5_0 => ?_) (fun h5_0 => ?_)
    · refine r_iconst e_X11_goes_12 ic_m1 ?_
      (rw [show v0_0 = (-1 : Int32) from (e_v0_0.trans (if_pos h5_0))] at j13_0; exact j13_0)
    · refine r_iconst e_X11_goes_8 ic_1 ?_
      refine r_goto e_X11_goes_9 ?_
      (rw [show v0_0 = (1 : Int32) from (e_v0_0.trans (if_neg h5_0))] at j13_0; exact j13_0)
  refine p_istore_6_5 e_X11_goes_13 rfl rfl ?_
  refine r_aload_n e_X11_goes_15 rfl ?_
  refine r_aload_n e_X11_goes_16 rfl ?_
  refine r_getI e_X11_goes_17 fl_X11_315 i0 k0 ?_
  refine r_bipush e_X11_goes_20 bp_10 ?_
  refine r_iload_n e_X11_goes_22 rfl ?_
  refine cV3u e_X11_goes_23 cl_X11_282 ⟨Nat.le_of_ble_eq_true rfl, Nat.le_of_ble_eq_true rfl⟩ ⟨rfl, rfl⟩ k0 (Nat.le_of_ble_eq_true rfl) (S_X11_set hb1 g1) ?_
  refine r_aload_n e_X11_goes_26 rfl ?_
  refine r_getR e_X11_goes_27 fl_X11_224 k0 k1 ?_
  refine r_aload_n e_X11_goes_30 rfl ?_
  refine r_getI e_X11_goes_31 fl_X11_315 i0 k0 ?_
  refine r_iload e_X11_goes_34 rfl ?_
  refine r_iload_n e_X11_goes_36 rfl ?_
  refine cS1v e_X11_goes_37 cl_X11_345 ⟨Nat.le_of_ble_eq_true rfl, Nat.le_of_ble_eq_true rfl⟩ ⟨rfl, rfl⟩  (Nat.le_of_ble_eq_true rfl) (S_X11_sign ) ?_
  refine r_imul e_X11_goes_40 ?_
  refine r_iastore e_X11_goes_41 k2 g2 ?_
  refine r_aload_n e_X11_goes_42 rfl ?_
  refine r_getR e_X11_goes_43 fl_X11_227 k0 k3 ?_
  refine r_aload_n e_X11_goes_46 rfl ?_
  refine r_getIe e_X11_goes_47 fl_X11_315 i0 k0 (gs_aI (by omega)) ?_
  refine r_iload e_X11_goes_50 rfl ?_
  refine r_iload_n e_X11_goes_52 rfl ?_
  refine cS1v e_X11_goes_53 cl_X11_345 ⟨Nat.le_of_ble_eq_true rfl, Nat.le_of_ble_eq_true rfl⟩ ⟨rfl, rfl⟩  (Nat.le_of_ble_eq_true rfl) (S_X11_sign ) ?_
  refine r_imul e_X11_goes_56 ?_
  refine r_iastore e_X11_goes_57 k4 g2 ?_
  refine r_aload_n e_X11_goes_58 rfl ?_
  refine r_getR e_X11_goes_59 fl_X11_230 k0 k5 ?_
  refine r_aload_n e_X11_goes_62 rfl ?_
  refine r_getIe e_X11_goes_63 fl_X11_315 i0 k0 ((gs_aI (by omega)).trans (gs_aI (by omega))) ?_
  refine r_iload e_X11_goes_66 rfl ?_
  refine r_iconst e_X11_goes_68 ic_1 ?_
  obtain ⟨v1_0, e_v1_0⟩ : ∃ z : Int32, z = (if (1 : Int32) ≤ x4 then (if x4 ≤ (9 : Int32) then x4 else (9 : Int32)) else (1 : Int32)) := ⟨_, rfl⟩
  suffices j90_1 : WP m_X11_goes (fun r sh' M'' => r = none ∧ sh' = sh ∧ M'' = (U_X11_goes x1 x2 x3 x4 mA M)) 90 [some (.ref 242), some (.int x1), some (.int x2), some (.int x3), some (.int x4), some (.int v0_0)] [.int v1_0, .int ((U_X11_set (M.1 242 33) (10 : Int32) x1 mA M).1 242 33), .ref 264] sh (setI (setI (U_X11_set (M.1 242 33) (10 : Int32) x1 mA M) 262 ((U_X11_set (M.1 242 33) (10 : Int32) x1 mA M).1 242 33).toNatClampNeg (v0_0 * (V_X11_sign x2 (U_X11_set (M.1 242 33) (10 : Int32) x1 mA M)))) 263 ((U_X11_set (M.1 242 33) (10 : Int32) x1 mA M).1 242 33).toNatClampNeg (v0_0 * (V_X11_sign x3 (setI (U_X11_set (M.1 242 33) (10 : Int32) x1 mA M) 262 ((U_X11_set (M.1 242 33) (10 : Int32) x1 mA M).1 242 33).toNatClampNeg (v0_0 * (V_X11_sign x2 (U_X11_set (M.1 242 33) (10 : Int32) x1 mA M))))))) 0 0 by
    refine r_icmp_ge e_X11_goes_69 (fun h69_1 => ?_) (fun h69_1 => ?_)
    · refine r_iload e_X11_goes_76 rfl ?_
      refine r_bipush e_X11_goes_78 bp_9 ?_
      refine r_icmp_le e_X11_goes_80 (fun h80_2 => ?_) (fun h80_2 => ?_)
      · refine r_iload e_X11_goes_88 rfl ?_
        (rw [show v1_0 = x4 from ((e_v1_0.trans (if_pos h69_1)).trans (if_pos h80_2))] at j90_1; exact j90_1)
      · refine r_bipush e_X11_goes_83 bp_9 ?_
        refine r_goto e_X11_goes_85 ?_
        (rw [show v1_0 = (9 : Int32) from ((e_v1_0.trans (if_pos h69_1)).trans (if_neg h80_2))] at j90_1; exact j90_1)
    · refine r_iconst e_X11_goes_72 ic_1 ?_
      refine r_goto e_X11_goes_73 ?_
      (rw [show v1_0 = (1 : Int32) from (e_v1_0.trans (if_neg h69_1))] at j90_1; exact j90_1)
  refine r_iastore e_X11_goes_90 k6 g2 ?_
  refine r_return e_X11_goes_91 rfl ⟨rfl, rfl⟩ ?_
  (subst e_v1_0 e_v0_0; refine ⟨?_, rfl, ?_⟩ <;> ((try unfold U_X11_goes); (try simp only []); (try rfl)))
def V_X11_sensor (x1 : Int32) (mA : Nat) (M : Mem) : Int32 := if x1 = 0 then (V_X11_seenX (V_X11_of (M.1 242 33) (8 : Int32) mA M) M) else (if x1 = 1 then (V_X11_seenY (V_X11_of (M.1 242 33) (9 : Int32) mA M) M) else (if x1 = 2 then (V_X11_seenX (V_X11_of (M.1 242 33) (0 : Int32) mA M) M) else (if x1 = 3 then (V_X11_seenY (V_X11_of (M.1 242 33) (1 : Int32) mA M) M) else (if x1 = 4 then (let v0_0 : Int32 := if 0 ≤ (M.1 mA 16) then (if (M.1 mA 16) = (M.1 242 33) then (2 : Int32) else (if ((M.1 mA 16) / (5 : Int32)) = ((M.1 242 33) / (5 : Int32)) then (1 : Int32) else (-1 : Int32))) else (0 : Int32); v0_0) else (if x1 = 5 then (M.1 mA 3) else (if x1 = 6 then ((M.1 mA ((4 : Int32) + ((M.1 242 33) / (5 : Int32))).toNatClampNeg) - (M.1 mA ((5 : Int32) - ((M.1 242 33) / (5 : Int32))).toNatClampNeg)) else (V_X11_distance (V_X11_of (M.1 242 33) (0 : Int32) mA M) (V_X11_of (M.1 242 33) (1 : Int32) mA M) (V_X11_of (M.1 242 33) (8 : Int32) mA M) (V_X11_of (M.1 242 33) (9 : Int32) mA M) M)))))))
def P_X11_sensor (x1 : Int32) (mA : Nat) (M : Mem) : Prop := (x1 = 0 → vp_in (((44 : Int32) + ((16 : Int32) * (M.1 242 33))) + (8 : Int32)) 212) ∧ (x1 = 1 → vp_in (((44 : Int32) + ((16 : Int32) * (M.1 242 33))) + (9 : Int32)) 212) ∧ (x1 = 2 → vp_in (((44 : Int32) + ((16 : Int32) * (M.1 242 33))) + (0 : Int32)) 212) ∧ (x1 = 3 → vp_in (((44 : Int32) + ((16 : Int32) * (M.1 242 33))) + (1 : Int32)) 212) ∧ (x1 = 6 → vp_in ((4 : Int32) + ((M.1 242 33) / (5 : Int32))) 212) ∧ (x1 = 6 → vp_in ((5 : Int32) - ((M.1 242 33) / (5 : Int32))) 212)
theorem S_X11_sensor {sh : List SC} {M : Mem} {x1 : Int32} {mA : Nat} {oA : Nat} (hb1 : ModelAt sh mA oA) (g7 : vp_in (((44 : Int32) + ((16 : Int32) * (M.1 242 33))) + (0 : Int32)) 212) (g8 : vp_in (((44 : Int32) + ((16 : Int32) * (M.1 242 33))) + (1 : Int32)) 212) (g9 : vp_in (((44 : Int32) + ((16 : Int32) * (M.1 242 33))) + (8 : Int32)) 212) (g10 : vp_in (((44 : Int32) + ((16 : Int32) * (M.1 242 33))) + (9 : Int32)) 212) (hP : P_X11_sensor x1 mA M) : Gv m_X11_sensor [.ref 242, .int x1] sh M (.int (V_X11_sensor x1 mA M)) M := by
  refine Sp.of (ls := [some (.ref 242), some (.int x1), none, none]) (by decide +kernel) (Nat.le_of_ble_eq_true rfl) rfl ?_
  obtain ⟨g1, g2, g3, g4, g5, g6⟩ := hP
  have k0 : kd sh 242 = some (10 + 7, 0) := hb1.1
  have k1 : rf sh 242 27 = some mA := hb1.2.2.2.2.2.2.2.2.2.2.2.2.2.2.2.2.2.1
  have k2 : kd sh mA = some (0, 212) := hb1.2.2.2.2.2.2.2.2.2.2.2.2.2.2.2.2.2.2.2.2.2.2.2.2.2.2.2.2.2.2.2.2.2.2.2.2.2.2.2.2.2.2.2.2.2.2.2.2.2.2.2.1
  refine r_aload_n e_X11_sensor_0 rfl ?_
  refine r_getR e_X11_sensor_1 fl_X11_212 k0 k1 ?_
  refine r_bipush e_X11_sensor_4 bp_16 ?_
  refine r_ialoade (v := (M.1 mA 16)) e_X11_sensor_6 k2 (by unfold vp_in; decide) (show M.1 mA (16 : Int32).toNatClampNeg = M.1 mA 16 by rw [show (16 : Int32).toNatClampNeg = 16 from rfl]) ?_
  refine p_istore_n_4_2 e_X11_sensor_7 rfl rfl ?_
  refine r_aload_n e_X11_sensor_8 rfl ?_
  refine r_getI e_X11_sensor_9 fl_X11_315 i0 k0 ?_
  refine r_iconst e_X11_sensor_12 ic_5 ?_
  refine r_idiv e_X11_sensor_13 (by decide) ?_
  refine p_istore_n_4_3 e_X11_sensor_14 rfl rfl ?_
  refine r_iload_n e_X11_sensor_15 rfl ?_
  by_cases hs16_0 : x1 = 0
  · refine r_tabIn (tgt := 60) (off := 44) e_X11_sensor_16 (by rw [hs16_0]; decide) (by rw [hs16_0]; decide) (by rw [hs16_0]; rfl) (by decide) ?_
    refine r_aload_n e_X11_sensor_60 rfl ?_
    refine r_aload_n e_X11_sensor_61 rfl ?_
    refine r_aload_n e_X11_sensor_62 rfl ?_
    refine r_getI e_X11_sensor_63 fl_X11_315 i0 k0 ?_
    refine r_bipush e_X11_sensor_66 bp_8 ?_
    refine cV2v e_X11_sensor_68 cl_X11_252 ⟨Nat.le_of_ble_eq_true rfl, Nat.le_of_ble_eq_true rfl⟩ ⟨rfl, rfl⟩ k0 (Nat.le_of_ble_eq_true rfl) (S_X11_of hb1 (g1 hs16_0)) ?_
    refine cV1v e_X11_sensor_71 cl_X11_318 ⟨Nat.le_of_ble_eq_true rfl, Nat.le_of_ble_eq_true rfl⟩ ⟨rfl, rfl⟩ k0 (Nat.le_of_ble_eq_true rfl) (S_X11_seenX hb1) ?_
    refine r_ireturn e_X11_sensor_74 rfl ⟨rfl, rfl⟩ ?_
    (refine ⟨?_, rfl, ?_⟩ <;> ((try unfold V_X11_sensor); (try simp only [if_pos hs16_0]); (try rfl)))
  · by_cases hs16_1 : x1 = 1
    · refine r_tabIn (tgt := 75) (off := 59) e_X11_sensor_16 (by rw [hs16_1]; decide) (by rw [hs16_1]; decide) (by rw [hs16_1]; rfl) (by decide) ?_
      refine r_aload_n e_X11_sensor_75 rfl ?_
      refine r_aload_n e_X11_sensor_76 rfl ?_
      refine r_aload_n e_X11_sensor_77 rfl ?_
      refine r_getI e_X11_sensor_78 fl_X11_315 i0 k0 ?_
      refine r_bipush e_X11_sensor_81 bp_9 ?_
      refine cV2v e_X11_sensor_83 cl_X11_252 ⟨Nat.le_of_ble_eq_true rfl, Nat.le_of_ble_eq_true rfl⟩ ⟨rfl, rfl⟩ k0 (Nat.le_of_ble_eq_true rfl) (S_X11_of hb1 (g2 hs16_1)) ?_
      refine cV1v e_X11_sensor_86 cl_X11_321 ⟨Nat.le_of_ble_eq_true rfl, Nat.le_of_ble_eq_true rfl⟩ ⟨rfl, rfl⟩ k0 (Nat.le_of_ble_eq_true rfl) (S_X11_seenY hb1) ?_
      refine r_ireturn e_X11_sensor_89 rfl ⟨rfl, rfl⟩ ?_
      (refine ⟨?_, rfl, ?_⟩ <;> ((try unfold V_X11_sensor); (try simp only [if_neg hs16_0, if_pos hs16_1]); (try rfl)))
    · by_cases hs16_2 : x1 = 2
      · refine r_tabIn (tgt := 90) (off := 74) e_X11_sensor_16 (by rw [hs16_2]; decide) (by rw [hs16_2]; decide) (by rw [hs16_2]; rfl) (by decide) ?_
        refine r_aload_n e_X11_sensor_90 rfl ?_
        refine r_aload_n e_X11_sensor_91 rfl ?_
        refine r_aload_n e_X11_sensor_92 rfl ?_
        refine r_getI e_X11_sensor_93 fl_X11_315 i0 k0 ?_
        refine r_iconst e_X11_sensor_96 ic_0 ?_
        refine cV2v e_X11_sensor_97 cl_X11_252 ⟨Nat.le_of_ble_eq_true rfl, Nat.le_of_ble_eq_true rfl⟩ ⟨rfl, rfl⟩ k0 (Nat.le_of_ble_eq_true rfl) (S_X11_of hb1 (g3 hs16_2)) ?_
        refine cV1v e_X11_sensor_100 cl_X11_318 ⟨Nat.le_of_ble_eq_true rfl, Nat.le_of_ble_eq_true rfl⟩ ⟨rfl, rfl⟩ k0 (Nat.le_of_ble_eq_true rfl) (S_X11_seenX hb1) ?_
        refine r_ireturn e_X11_sensor_103 rfl ⟨rfl, rfl⟩ ?_
        (refine ⟨?_, rfl, ?_⟩ <;> ((try unfold V_X11_sensor); (try simp only [if_neg hs16_0, if_neg hs16_1, if_pos hs16_2]); (try rfl)))
      · by_cases hs16_3 : x1 = 3
        · refine r_tabIn (tgt := 104) (off := 88) e_X11_sensor_16 (by rw [hs16_3]; decide) (by rw [hs16_3]; decide) (by rw [hs16_3]; rfl) (by decide) ?_
          refine r_aload_n e_X11_sensor_104 rfl ?_
          refine r_aload_n e_X11_sensor_105 rfl ?_
          refine r_aload_n e_X11_sensor_106 rfl ?_
          refine r_getI e_X11_sensor_107 fl_X11_315 i0 k0 ?_
          refine r_iconst e_X11_sensor_110 ic_1 ?_
          refine cV2v e_X11_sensor_111 cl_X11_252 ⟨Nat.le_of_ble_eq_true rfl, Nat.le_of_ble_eq_true rfl⟩ ⟨rfl, rfl⟩ k0 (Nat.le_of_ble_eq_true rfl) (S_X11_of hb1 (g4 hs16_3)) ?_
          refine cV1v e_X11_sensor_114 cl_X11_321 ⟨Nat.le_of_ble_eq_true rfl, Nat.le_of_ble_eq_true rfl⟩ ⟨rfl, rfl⟩ k0 (Nat.le_of_ble_eq_true rfl) (S_X11_seenY hb1) ?_
          refine r_ireturn e_X11_sensor_117 rfl ⟨rfl, rfl⟩ ?_
          (refine ⟨?_, rfl, ?_⟩ <;> ((try unfold V_X11_sensor); (try simp only [if_neg hs16_0, if_neg hs16_1, if_neg hs16_2, if_pos hs16_3]); (try rfl)))
        · by_cases hs16_4 : x1 = 4
          · refine r_tabIn (tgt := 118) (off := 102) e_X11_sensor_16 (by rw [hs16_4]; decide) (by rw [hs16_4]; decide) (by rw [hs16_4]; rfl) (by decide) ?_
            refine r_iload_n e_X11_sensor_118 rfl ?_
            obtain ⟨v0_0, e_v0_0⟩ : ∃ z : Int32, z = (if 0 ≤ (M.1 mA 16) then (if (M.1 mA 16) = (M.1 242 33) then (2 : Int32) else (if ((M.1 mA 16) / (5 : Int32)) = ((M.1 242 33) / (5 : Int32)) then (1 : Int32) else (-1 : Int32))) else (0 : Int32)) := ⟨_, rfl⟩
            suffices j150_0 : WP m_X11_sensor (fun r sh' M'' => r = some (.int (V_X11_sensor x1 mA M)) ∧ sh' = sh ∧ M'' = M) 150 [some (.ref 242), some (.int x1), some (.int (M.1 mA 16)), some (.int ((M.1 242 33) / (5 : Int32)))] [.int v0_0] sh M 0 0 by
              refine r_if_ge e_X11_sensor_119 (fun h119_0 => ?_) (fun h119_0 => ?_)
              · refine r_iload_n e_X11_sensor_126 rfl ?_
                refine r_aload_n e_X11_sensor_127 rfl ?_
                refine r_getI e_X11_sensor_128 fl_X11_315 i0 k0 ?_
                refine r_icmp_ne e_X11_sensor_131 (fun h131_1 => ?_) (fun h131_1 => ?_)
                · refine r_iload_n e_X11_sensor_138 rfl ?_
                  refine r_iconst e_X11_sensor_139 ic_5 ?_
                  refine r_idiv e_X11_sensor_140 (by decide) ?_
                  refine r_iload_n e_X11_sensor_141 rfl ?_
                  refine r_icmp_ne e_X11_sensor_142 (fun h142_2 => ?_) (fun h142_2 => ?_)
                  · refine r_iconst e_X11_sensor_149 ic_m1 ?_
                    (rw [show v0_0 = (-1 : Int32) from (((e_v0_0.trans (if_pos h119_0)).trans (if_neg h131_1)).trans (if_neg h142_2))] at j150_0; exact j150_0)
                  · refine r_iconst e_X11_sensor_145 ic_1 ?_
                    refine r_goto e_X11_sensor_146 ?_
                    (rw [show v0_0 = (1 : Int32) from (((e_v0_0.trans (if_pos h119_0)).trans (if_neg h131_1)).trans (if_pos h142_2))] at j150_0; exact j150_0)
                · refine r_iconst e_X11_sensor_134 ic_2 ?_
                  refine r_goto e_X11_sensor_135 ?_
                  (rw [show v0_0 = (2 : Int32) from ((e_v0_0.trans (if_pos h119_0)).trans (if_pos h131_1))] at j150_0; exact j150_0)
              · refine r_iconst e_X11_sensor_122 ic_0 ?_
                refine r_goto e_X11_sensor_123 ?_
                (rw [show v0_0 = (0 : Int32) from (e_v0_0.trans (if_neg h119_0))] at j150_0; exact j150_0)
            refine r_ireturn e_X11_sensor_150 rfl ⟨rfl, rfl⟩ ?_
            (subst e_v0_0; refine ⟨?_, rfl, ?_⟩ <;> ((try unfold V_X11_sensor); (try simp only [if_neg hs16_0, if_neg hs16_1, if_neg hs16_2, if_neg hs16_3, if_pos hs16_4]); (try rfl)))
          · by_cases hs16_5 : x1 = 5
            · refine r_tabIn (tgt := 151) (off := 135) e_X11_sensor_16 (by rw [hs16_5]; decide) (by rw [hs16_5]; decide) (by rw [hs16_5]; rfl) (by decide) ?_
              refine r_aload_n e_X11_sensor_151 rfl ?_
              refine r_getR e_X11_sensor_152 fl_X11_212 k0 k1 ?_
              refine r_iconst e_X11_sensor_155 ic_3 ?_
              refine r_ialoade (v := (M.1 mA 3)) e_X11_sensor_156 k2 (by unfold vp_in; decide) (show M.1 mA (3 : Int32).toNatClampNeg = M.1 mA 3 by rw [show (3 : Int32).toNatClampNeg = 3 from rfl]) ?_
              refine r_ireturn e_X11_sensor_157 rfl ⟨rfl, rfl⟩ ?_
              (refine ⟨?_, rfl, ?_⟩ <;> ((try unfold V_X11_sensor); (try simp only [if_neg hs16_0, if_neg hs16_1, if_neg hs16_2, if_neg hs16_3, if_neg hs16_4, if_pos hs16_5]); (try rfl)))
            · by_cases hs16_6 : x1 = 6
              · refine r_tabIn (tgt := 158) (off := 142) e_X11_sensor_16 (by rw [hs16_6]; decide) (by rw [hs16_6]; decide) (by rw [hs16_6]; rfl) (by decide) ?_
                refine r_aload_n e_X11_sensor_158 rfl ?_
                refine r_getR e_X11_sensor_159 fl_X11_212 k0 k1 ?_
                refine r_iconst e_X11_sensor_162 ic_4 ?_
                refine r_iload_n e_X11_sensor_163 rfl ?_
                refine r_iadd e_X11_sensor_164 ?_
                refine r_iaload e_X11_sensor_165 k2 (g5 hs16_6) ?_
                refine r_aload_n e_X11_sensor_166 rfl ?_
                refine r_getR e_X11_sensor_167 fl_X11_212 k0 k1 ?_
                refine r_iconst e_X11_sensor_170 ic_5 ?_
                refine r_iload_n e_X11_sensor_171 rfl ?_
                refine r_isub e_X11_sensor_172 ?_
                refine r_iaload e_X11_sensor_173 k2 (g6 hs16_6) ?_
                refine r_isub e_X11_sensor_174 ?_
                refine r_ireturn e_X11_sensor_175 rfl ⟨rfl, rfl⟩ ?_
                (refine ⟨?_, rfl, ?_⟩ <;> ((try unfold V_X11_sensor); (try simp only [if_neg hs16_0, if_neg hs16_1, if_neg hs16_2, if_neg hs16_3, if_neg hs16_4, if_neg hs16_5, if_pos hs16_6]); (try rfl)))
              · refine r_tabOut (tgt := 176) e_X11_sensor_16 (by have q0 := lv_neT hs16_0 (show (0 : Int32).toInt = 0 from rfl); have q1 := lv_neT hs16_1 (show (1 : Int32).toInt = 1 from rfl); have q2 := lv_neT hs16_2 (show (2 : Int32).toInt = 2 from rfl); have q3 := lv_neT hs16_3 (show (3 : Int32).toInt = 3 from rfl); have q4 := lv_neT hs16_4 (show (4 : Int32).toInt = 4 from rfl); have q5 := lv_neT hs16_5 (show (5 : Int32).toInt = 5 from rfl); have q6 := lv_neT hs16_6 (show (6 : Int32).toInt = 6 from rfl); omega) (by decide) ?_
                refine r_aload_n e_X11_sensor_176 rfl ?_
                refine r_aload_n e_X11_sensor_177 rfl ?_
                refine r_getI e_X11_sensor_178 fl_X11_315 i0 k0 ?_
                refine r_iconst e_X11_sensor_181 ic_0 ?_
                refine cV2v e_X11_sensor_182 cl_X11_252 ⟨Nat.le_of_ble_eq_true rfl, Nat.le_of_ble_eq_true rfl⟩ ⟨rfl, rfl⟩ k0 (Nat.le_of_ble_eq_true rfl) (S_X11_of hb1 g7) ?_
                refine r_aload_n e_X11_sensor_185 rfl ?_
                refine r_aload_n e_X11_sensor_186 rfl ?_
                refine r_getI e_X11_sensor_187 fl_X11_315 i0 k0 ?_
                refine r_iconst e_X11_sensor_190 ic_1 ?_
                refine cV2v e_X11_sensor_191 cl_X11_252 ⟨Nat.le_of_ble_eq_true rfl, Nat.le_of_ble_eq_true rfl⟩ ⟨rfl, rfl⟩ k0 (Nat.le_of_ble_eq_true rfl) (S_X11_of hb1 g8) ?_
                refine r_aload_n e_X11_sensor_194 rfl ?_
                refine r_aload_n e_X11_sensor_195 rfl ?_
                refine r_getI e_X11_sensor_196 fl_X11_315 i0 k0 ?_
                refine r_bipush e_X11_sensor_199 bp_8 ?_
                refine cV2v e_X11_sensor_201 cl_X11_252 ⟨Nat.le_of_ble_eq_true rfl, Nat.le_of_ble_eq_true rfl⟩ ⟨rfl, rfl⟩ k0 (Nat.le_of_ble_eq_true rfl) (S_X11_of hb1 g9) ?_
                refine r_aload_n e_X11_sensor_204 rfl ?_
                refine r_aload_n e_X11_sensor_205 rfl ?_
                refine r_getI e_X11_sensor_206 fl_X11_315 i0 k0 ?_
                refine r_bipush e_X11_sensor_209 bp_9 ?_
                refine cV2v e_X11_sensor_211 cl_X11_252 ⟨Nat.le_of_ble_eq_true rfl, Nat.le_of_ble_eq_true rfl⟩ ⟨rfl, rfl⟩ k0 (Nat.le_of_ble_eq_true rfl) (S_X11_of hb1 g10) ?_
                refine cS4v e_X11_sensor_214 cl_X11_274 ⟨Nat.le_of_ble_eq_true rfl, Nat.le_of_ble_eq_true rfl⟩ ⟨rfl, rfl⟩  (Nat.le_of_ble_eq_true rfl) (S_X11_distance ) ?_
                refine r_ireturn e_X11_sensor_217 rfl ⟨rfl, rfl⟩ ?_
                (refine ⟨?_, rfl, ?_⟩ <;> ((try unfold V_X11_sensor); (try simp only [if_neg hs16_0, if_neg hs16_1, if_neg hs16_2, if_neg hs16_3, if_neg hs16_4, if_neg hs16_5, if_neg hs16_6]); (try rfl)))
def U_X11_doCommand (x1 : Int32) (mA : Nat) (M : Mem) : Mem := if (V_X11_of x1 (10 : Int32) mA M) = 0 then M else (if (M.1 262 x1.toNatClampNeg) = 0 then (if (M.1 263 x1.toNatClampNeg) = 0 then M else (if (V_X11_of x1 (10 : Int32) mA M) = (2 : Int32) then (let M26_0 : Mem := if (M.1 mA 16) = x1 then (setI (setI (setI (setI M mA 16 (-1 : Int32)) mA 17 (M.1 264 x1.toNatClampNeg)) mA 18 (M.1 262 x1.toNatClampNeg)) mA 19 (M.1 263 x1.toNatClampNeg)) else M; M26_0) else (if (V_X11_in ((V_X11_of x1 (0 : Int32) mA M) + (M.1 262 x1.toNatClampNeg)) (0 : Int32) (14 : Int32) M) = 0 then M else (if (V_X11_in ((V_X11_of x1 (1 : Int32) mA M) + (M.1 263 x1.toNatClampNeg)) (0 : Int32) (8 : Int32) M) = 0 then M else (if (V_X11_robotAt ((V_X11_of x1 (0 : Int32) mA M) + (M.1 262 x1.toNatClampNeg)) ((V_X11_of x1 (1 : Int32) mA M) + (M.1 263 x1.toNatClampNeg)) (-1 : Int32) mA M) < 0 then (let Mc2 : Mem := U_X11_set x1 (1 : Int32) ((V_X11_of x1 (1 : Int32) mA M) + (M.1 263 x1.toNatClampNeg)) mA (U_X11_set x1 (0 : Int32) ((V_X11_of x1 (0 : Int32) mA M) + (M.1 262 x1.toNatClampNeg)) mA M); let M19_0 : Mem := if (Mc2.1 mA 16) = x1 then (setI (setI Mc2 mA 14 ((V_X11_of x1 (0 : Int32) mA M) + (M.1 262 x1.toNatClampNeg))) mA 15 ((V_X11_of x1 (1 : Int32) mA M) + (M.1 263 x1.toNatClampNeg))) else (if 0 ≤ (Mc2.1 mA 16) then Mc2 else (if (Mc2.1 mA 14) = ((V_X11_of x1 (0 : Int32) mA M) + (M.1 262 x1.toNatClampNeg)) then (if (Mc2.1 mA 15) = ((V_X11_of x1 (1 : Int32) mA M) + (M.1 263 x1.toNatClampNeg)) then (U_X11_hold x1 mA Mc2) else Mc2) else Mc2)); M19_0) else (let M23_0 : Mem := if (M.1 mA 16) = (V_X11_robotAt ((V_X11_of x1 (0 : Int32) mA M) + (M.1 262 x1.toNatClampNeg)) ((V_X11_of x1 (1 : Int32) mA M) + (M.1 263 x1.toNatClampNeg)) (-1 : Int32) mA M) then (if ((V_X11_robotAt ((V_X11_of x1 (0 : Int32) mA M) + (M.1 262 x1.toNatClampNeg)) ((V_X11_of x1 (1 : Int32) mA M) + (M.1 263 x1.toNatClampNeg)) (-1 : Int32) mA M) / (5 : Int32)) = (x1 / (5 : Int32)) then M else (if ((M.1 mA 3) - (M.1 mA 20)) < (2 : Int32) then M else (setI (U_X11_hold x1 mA M) mA 10 (((U_X11_hold x1 mA M).1 mA 10) + (1 : Int32))))) else M; M23_0)))))) else (if (V_X11_of x1 (10 : Int32) mA M) = (2 : Int32) then (let M13_0 : Mem := if (M.1 mA 16) = x1 then (setI (setI (setI (setI M mA 16 (-1 : Int32)) mA 17 (M.1 264 x1.toNatClampNeg)) mA 18 (M.1 262 x1.toNatClampNeg)) mA 19 (M.1 263 x1.toNatClampNeg)) else M; M13_0) else (if (V_X11_in ((V_X11_of x1 (0 : Int32) mA M) + (M.1 262 x1.toNatClampNeg)) (0 : Int32) (14 : Int32) M) = 0 then M else (if (V_X11_in ((V_X11_of x1 (1 : Int32) mA M) + (M.1 263 x1.toNatClampNeg)) (0 : Int32) (8 : Int32) M) = 0 then M else (if (V_X11_robotAt ((V_X11_of x1 (0 : Int32) mA M) + (M.1 262 x1.toNatClampNeg)) ((V_X11_of x1 (1 : Int32) mA M) + (M.1 263 x1.toNatClampNeg)) (-1 : Int32) mA M) < 0 then (let Mc1 : Mem := U_X11_set x1 (1 : Int32) ((V_X11_of x1 (1 : Int32) mA M) + (M.1 263 x1.toNatClampNeg)) mA (U_X11_set x1 (0 : Int32) ((V_X11_of x1 (0 : Int32) mA M) + (M.1 262 x1.toNatClampNeg)) mA M); let M6_0 : Mem := if (Mc1.1 mA 16) = x1 then (setI (setI Mc1 mA 14 ((V_X11_of x1 (0 : Int32) mA M) + (M.1 262 x1.toNatClampNeg))) mA 15 ((V_X11_of x1 (1 : Int32) mA M) + (M.1 263 x1.toNatClampNeg))) else (if 0 ≤ (Mc1.1 mA 16) then Mc1 else (if (Mc1.1 mA 14) = ((V_X11_of x1 (0 : Int32) mA M) + (M.1 262 x1.toNatClampNeg)) then (if (Mc1.1 mA 15) = ((V_X11_of x1 (1 : Int32) mA M) + (M.1 263 x1.toNatClampNeg)) then (U_X11_hold x1 mA Mc1) else Mc1) else Mc1)); M6_0) else (let M10_0 : Mem := if (M.1 mA 16) = (V_X11_robotAt ((V_X11_of x1 (0 : Int32) mA M) + (M.1 262 x1.toNatClampNeg)) ((V_X11_of x1 (1 : Int32) mA M) + (M.1 263 x1.toNatClampNeg)) (-1 : Int32) mA M) then (if ((V_X11_robotAt ((V_X11_of x1 (0 : Int32) mA M) + (M.1 262 x1.toNatClampNeg)) ((V_X11_of x1 (1 : Int32) mA M) + (M.1 263 x1.toNatClampNeg)) (-1 : Int32) mA M) / (5 : Int32)) = (x1 / (5 : Int32)) then M else (if ((M.1 mA 3) - (M.1 mA 20)) < (2 : Int32) then M else (setI (U_X11_hold x1 mA M) mA 10 (((U_X11_hold x1 mA M).1 mA 10) + (1 : Int32))))) else M; M10_0))))))
def P_X11_doCommand (x1 : Int32) (mA : Nat) (M : Mem) : Prop := (¬ ((V_X11_of x1 (10 : Int32) mA M) = 0) → ¬ ((M.1 262 x1.toNatClampNeg) = 0) → ¬ ((V_X11_of x1 (10 : Int32) mA M) = (2 : Int32)) → vp_in (((44 : Int32) + ((16 : Int32) * x1)) + (0 : Int32)) 212) ∧ (¬ ((V_X11_of x1 (10 : Int32) mA M) = 0) → ¬ ((M.1 262 x1.toNatClampNeg) = 0) → ¬ ((V_X11_of x1 (10 : Int32) mA M) = (2 : Int32)) → vp_in (((44 : Int32) + ((16 : Int32) * x1)) + (1 : Int32)) 212) ∧ (¬ ((V_X11_of x1 (10 : Int32) mA M) = 0) → ¬ ((M.1 262 x1.toNatClampNeg) = 0) → ¬ ((V_X11_of x1 (10 : Int32) mA M) = (2 : Int32)) → ¬ ((V_X11_in ((V_X11_of x1 (0 : Int32) mA M) + (M.1 262 x1.toNatClampNeg)) (0 : Int32) (14 : Int32) M) = 0) → ¬ ((V_X11_in ((V_X11_of x1 (1 : Int32) mA M) + (M.1 263 x1.toNatClampNeg)) (0 : Int32) (8 : Int32) M) = 0) → P_X11_robotAt ((V_X11_of x1 (0 : Int32) mA M) + (M.1 262 x1.toNatClampNeg)) ((V_X11_of x1 (1 : Int32) mA M) + (M.1 263 x1.toNatClampNeg)) (-1 : Int32) mA M) ∧ (¬ ((V_X11_of x1 (10 : Int32) mA M) = 0) → ¬ ((M.1 262 x1.toNatClampNeg) = 0) → ¬ ((V_X11_of x1 (10 : Int32) mA M) = (2 : Int32)) → ¬ ((V_X11_in ((V_X11_of x1 (0 : Int32) mA M) + (M.1 262 x1.toNatClampNeg)) (0 : Int32) (14 : Int32) M) = 0) → ¬ ((V_X11_in ((V_X11_of x1 (1 : Int32) mA M) + (M.1 263 x1.toNatClampNeg)) (0 : Int32) (8 : Int32) M) = 0) → (V_X11_robotAt ((V_X11_of x1 (0 : Int32) mA M) + (M.1 262 x1.toNatClampNeg)) ((V_X11_of x1 (1 : Int32) mA M) + (M.1 263 x1.toNatClampNeg)) (-1 : Int32) mA M) < 0 → vp_in (((44 : Int32) + ((16 : Int32) * x1)) + (0 : Int32)) 212) ∧ (¬ ((V_X11_of x1 (10 : Int32) mA M) = 0) → ¬ ((M.1 262 x1.toNatClampNeg) = 0) → ¬ ((V_X11_of x1 (10 : Int32) mA M) = (2 : Int32)) → ¬ ((V_X11_in ((V_X11_of x1 (0 : Int32) mA M) + (M.1 262 x1.toNatClampNeg)) (0 : Int32) (14 : Int32) M) = 0) → ¬ ((V_X11_in ((V_X11_of x1 (1 : Int32) mA M) + (M.1 263 x1.toNatClampNeg)) (0 : Int32) (8 : Int32) M) = 0) → (V_X11_robotAt ((V_X11_of x1 (0 : Int32) mA M) + (M.1 262 x1.toNatClampNeg)) ((V_X11_of x1 (1 : Int32) mA M) + (M.1 263 x1.toNatClampNeg)) (-1 : Int32) mA M) < 0 → vp_in (((44 : Int32) + ((16 : Int32) * x1)) + (1 : Int32)) 212) ∧ (¬ ((V_X11_of x1 (10 : Int32) mA M) = 0) → ¬ ((M.1 262 x1.toNatClampNeg) = 0) → ¬ ((V_X11_of x1 (10 : Int32) mA M) = (2 : Int32)) → ¬ ((V_X11_in ((V_X11_of x1 (0 : Int32) mA M) + (M.1 262 x1.toNatClampNeg)) (0 : Int32) (14 : Int32) M) = 0) → ¬ ((V_X11_in ((V_X11_of x1 (1 : Int32) mA M) + (M.1 263 x1.toNatClampNeg)) (0 : Int32) (8 : Int32) M) = 0) → (V_X11_robotAt ((V_X11_of x1 (0 : Int32) mA M) + (M.1 262 x1.toNatClampNeg)) ((V_X11_of x1 (1 : Int32) mA M) + (M.1 263 x1.toNatClampNeg)) (-1 : Int32) mA M) < 0 → ¬ (((U_X11_set x1 (1 : Int32) ((V_X11_of x1 (1 : Int32) mA M) + (M.1 263 x1.toNatClampNeg)) mA (U_X11_set x1 (0 : Int32) ((V_X11_of x1 (0 : Int32) mA M) + (M.1 262 x1.toNatClampNeg)) mA M)).1 mA 16) = x1) → ¬ (0 ≤ ((U_X11_set x1 (1 : Int32) ((V_X11_of x1 (1 : Int32) mA M) + (M.1 263 x1.toNatClampNeg)) mA (U_X11_set x1 (0 : Int32) ((V_X11_of x1 (0 : Int32) mA M) + (M.1 262 x1.toNatClampNeg)) mA M)).1 mA 16)) → ((U_X11_set x1 (1 : Int32) ((V_X11_of x1 (1 : Int32) mA M) + (M.1 263 x1.toNatClampNeg)) mA (U_X11_set x1 (0 : Int32) ((V_X11_of x1 (0 : Int32) mA M) + (M.1 262 x1.toNatClampNeg)) mA M)).1 mA 14) = ((V_X11_of x1 (0 : Int32) mA M) + (M.1 262 x1.toNatClampNeg)) → ((U_X11_set x1 (1 : Int32) ((V_X11_of x1 (1 : Int32) mA M) + (M.1 263 x1.toNatClampNeg)) mA (U_X11_set x1 (0 : Int32) ((V_X11_of x1 (0 : Int32) mA M) + (M.1 262 x1.toNatClampNeg)) mA M)).1 mA 15) = ((V_X11_of x1 (1 : Int32) mA M) + (M.1 263 x1.toNatClampNeg)) → vp_in (((44 : Int32) + ((16 : Int32) * x1)) + (0 : Int32)) 212) ∧ (¬ ((V_X11_of x1 (10 : Int32) mA M) = 0) → ¬ ((M.1 262 x1.toNatClampNeg) = 0) → ¬ ((V_X11_of x1 (10 : Int32) mA M) = (2 : Int32)) → ¬ ((V_X11_in ((V_X11_of x1 (0 : Int32) mA M) + (M.1 262 x1.toNatClampNeg)) (0 : Int32) (14 : Int32) M) = 0) → ¬ ((V_X11_in ((V_X11_of x1 (1 : Int32) mA M) + (M.1 263 x1.toNatClampNeg)) (0 : Int32) (8 : Int32) M) = 0) → (V_X11_robotAt ((V_X11_of x1 (0 : Int32) mA M) + (M.1 262 x1.toNatClampNeg)) ((V_X11_of x1 (1 : Int32) mA M) + (M.1 263 x1.toNatClampNeg)) (-1 : Int32) mA M) < 0 → ¬ (((U_X11_set x1 (1 : Int32) ((V_X11_of x1 (1 : Int32) mA M) + (M.1 263 x1.toNatClampNeg)) mA (U_X11_set x1 (0 : Int32) ((V_X11_of x1 (0 : Int32) mA M) + (M.1 262 x1.toNatClampNeg)) mA M)).1 mA 16) = x1) → ¬ (0 ≤ ((U_X11_set x1 (1 : Int32) ((V_X11_of x1 (1 : Int32) mA M) + (M.1 263 x1.toNatClampNeg)) mA (U_X11_set x1 (0 : Int32) ((V_X11_of x1 (0 : Int32) mA M) + (M.1 262 x1.toNatClampNeg)) mA M)).1 mA 16)) → ((U_X11_set x1 (1 : Int32) ((V_X11_of x1 (1 : Int32) mA M) + (M.1 263 x1.toNatClampNeg)) mA (U_X11_set x1 (0 : Int32) ((V_X11_of x1 (0 : Int32) mA M) + (M.1 262 x1.toNatClampNeg)) mA M)).1 mA 14) = ((V_X11_of x1 (0 : Int32) mA M) + (M.1 262 x1.toNatClampNeg)) → ((U_X11_set x1 (1 : Int32) ((V_X11_of x1 (1 : Int32) mA M) + (M.1 263 x1.toNatClampNeg)) mA (U_X11_set x1 (0 : Int32) ((V_X11_of x1 (0 : Int32) mA M) + (M.1 262 x1.toNatClampNeg)) mA M)).1 mA 15) = ((V_X11_of x1 (1 : Int32) mA M) + (M.1 263 x1.toNatClampNeg)) → vp_in (((44 : Int32) + ((16 : Int32) * x1)) + (1 : Int32)) 212) ∧ (¬ ((V_X11_of x1 (10 : Int32) mA M) = 0) → ¬ ((M.1 262 x1.toNatClampNeg) = 0) → ¬ ((V_X11_of x1 (10 : Int32) mA M) = (2 : Int32)) → ¬ ((V_X11_in ((V_X11_of x1 (0 : Int32) mA M) + (M.1 262 x1.toNatClampNeg)) (0 : Int32) (14 : Int32) M) = 0) → ¬ ((V_X11_in ((V_X11_of x1 (1 : Int32) mA M) + (M.1 263 x1.toNatClampNeg)) (0 : Int32) (8 : Int32) M) = 0) → ¬ ((V_X11_robotAt ((V_X11_of x1 (0 : Int32) mA M) + (M.1 262 x1.toNatClampNeg)) ((V_X11_of x1 (1 : Int32) mA M) + (M.1 263 x1.toNatClampNeg)) (-1 : Int32) mA M) < 0) → (M.1 mA 16) = (V_X11_robotAt ((V_X11_of x1 (0 : Int32) mA M) + (M.1 262 x1.toNatClampNeg)) ((V_X11_of x1 (1 : Int32) mA M) + (M.1 263 x1.toNatClampNeg)) (-1 : Int32) mA M) → ¬ (((V_X11_robotAt ((V_X11_of x1 (0 : Int32) mA M) + (M.1 262 x1.toNatClampNeg)) ((V_X11_of x1 (1 : Int32) mA M) + (M.1 263 x1.toNatClampNeg)) (-1 : Int32) mA M) / (5 : Int32)) = (x1 / (5 : Int32))) → ¬ (((M.1 mA 3) - (M.1 mA 20)) < (2 : Int32)) → vp_in (((44 : Int32) + ((16 : Int32) * x1)) + (0 : Int32)) 212) ∧ (¬ ((V_X11_of x1 (10 : Int32) mA M) = 0) → ¬ ((M.1 262 x1.toNatClampNeg) = 0) → ¬ ((V_X11_of x1 (10 : Int32) mA M) = (2 : Int32)) → ¬ ((V_X11_in ((V_X11_of x1 (0 : Int32) mA M) + (M.1 262 x1.toNatClampNeg)) (0 : Int32) (14 : Int32) M) = 0) → ¬ ((V_X11_in ((V_X11_of x1 (1 : Int32) mA M) + (M.1 263 x1.toNatClampNeg)) (0 : Int32) (8 : Int32) M) = 0) → ¬ ((V_X11_robotAt ((V_X11_of x1 (0 : Int32) mA M) + (M.1 262 x1.toNatClampNeg)) ((V_X11_of x1 (1 : Int32) mA M) + (M.1 263 x1.toNatClampNeg)) (-1 : Int32) mA M) < 0) → (M.1 mA 16) = (V_X11_robotAt ((V_X11_of x1 (0 : Int32) mA M) + (M.1 262 x1.toNatClampNeg)) ((V_X11_of x1 (1 : Int32) mA M) + (M.1 263 x1.toNatClampNeg)) (-1 : Int32) mA M) → ¬ (((V_X11_robotAt ((V_X11_of x1 (0 : Int32) mA M) + (M.1 262 x1.toNatClampNeg)) ((V_X11_of x1 (1 : Int32) mA M) + (M.1 263 x1.toNatClampNeg)) (-1 : Int32) mA M) / (5 : Int32)) = (x1 / (5 : Int32))) → ¬ (((M.1 mA 3) - (M.1 mA 20)) < (2 : Int32)) → vp_in (((44 : Int32) + ((16 : Int32) * x1)) + (1 : Int32)) 212) ∧ (¬ ((V_X11_of x1 (10 : Int32) mA M) = 0) → ¬ ((M.1 262 x1.toNatClampNeg) = 0) → (V_X11_of x1 (10 : Int32) mA M) = (2 : Int32) → (M.1 mA 16) = x1 → vp_in x1 10) ∧ (¬ ((V_X11_of x1 (10 : Int32) mA M) = 0) → (M.1 262 x1.toNatClampNeg) = 0 → ¬ ((M.1 263 x1.toNatClampNeg) = 0) → ¬ ((V_X11_of x1 (10 : Int32) mA M) = (2 : Int32)) → vp_in (((44 : Int32) + ((16 : Int32) * x1)) + (0 : Int32)) 212) ∧ (¬ ((V_X11_of x1 (10 : Int32) mA M) = 0) → (M.1 262 x1.toNatClampNeg) = 0 → ¬ ((M.1 263 x1.toNatClampNeg) = 0) → ¬ ((V_X11_of x1 (10 : Int32) mA M) = (2 : Int32)) → vp_in (((44 : Int32) + ((16 : Int32) * x1)) + (1 : Int32)) 212) ∧ (¬ ((V_X11_of x1 (10 : Int32) mA M) = 0) → (M.1 262 x1.toNatClampNeg) = 0 → ¬ ((M.1 263 x1.toNatClampNeg) = 0) → ¬ ((V_X11_of x1 (10 : Int32) mA M) = (2 : Int32)) → ¬ ((V_X11_in ((V_X11_of x1 (0 : Int32) mA M) + (M.1 262 x1.toNatClampNeg)) (0 : Int32) (14 : Int32) M) = 0) → ¬ ((V_X11_in ((V_X11_of x1 (1 : Int32) mA M) + (M.1 263 x1.toNatClampNeg)) (0 : Int32) (8 : Int32) M) = 0) → P_X11_robotAt ((V_X11_of x1 (0 : Int32) mA M) + (M.1 262 x1.toNatClampNeg)) ((V_X11_of x1 (1 : Int32) mA M) + (M.1 263 x1.toNatClampNeg)) (-1 : Int32) mA M) ∧ (¬ ((V_X11_of x1 (10 : Int32) mA M) = 0) → (M.1 262 x1.toNatClampNeg) = 0 → ¬ ((M.1 263 x1.toNatClampNeg) = 0) → ¬ ((V_X11_of x1 (10 : Int32) mA M) = (2 : Int32)) → ¬ ((V_X11_in ((V_X11_of x1 (0 : Int32) mA M) + (M.1 262 x1.toNatClampNeg)) (0 : Int32) (14 : Int32) M) = 0) → ¬ ((V_X11_in ((V_X11_of x1 (1 : Int32) mA M) + (M.1 263 x1.toNatClampNeg)) (0 : Int32) (8 : Int32) M) = 0) → (V_X11_robotAt ((V_X11_of x1 (0 : Int32) mA M) + (M.1 262 x1.toNatClampNeg)) ((V_X11_of x1 (1 : Int32) mA M) + (M.1 263 x1.toNatClampNeg)) (-1 : Int32) mA M) < 0 → vp_in (((44 : Int32) + ((16 : Int32) * x1)) + (0 : Int32)) 212) ∧ (¬ ((V_X11_of x1 (10 : Int32) mA M) = 0) → (M.1 262 x1.toNatClampNeg) = 0 → ¬ ((M.1 263 x1.toNatClampNeg) = 0) → ¬ ((V_X11_of x1 (10 : Int32) mA M) = (2 : Int32)) → ¬ ((V_X11_in ((V_X11_of x1 (0 : Int32) mA M) + (M.1 262 x1.toNatClampNeg)) (0 : Int32) (14 : Int32) M) = 0) → ¬ ((V_X11_in ((V_X11_of x1 (1 : Int32) mA M) + (M.1 263 x1.toNatClampNeg)) (0 : Int32) (8 : Int32) M) = 0) → (V_X11_robotAt ((V_X11_of x1 (0 : Int32) mA M) + (M.1 262 x1.toNatClampNeg)) ((V_X11_of x1 (1 : Int32) mA M) + (M.1 263 x1.toNatClampNeg)) (-1 : Int32) mA M) < 0 → vp_in (((44 : Int32) + ((16 : Int32) * x1)) + (1 : Int32)) 212) ∧ (¬ ((V_X11_of x1 (10 : Int32) mA M) = 0) → (M.1 262 x1.toNatClampNeg) = 0 → ¬ ((M.1 263 x1.toNatClampNeg) = 0) → ¬ ((V_X11_of x1 (10 : Int32) mA M) = (2 : Int32)) → ¬ ((V_X11_in ((V_X11_of x1 (0 : Int32) mA M) + (M.1 262 x1.toNatClampNeg)) (0 : Int32) (14 : Int32) M) = 0) → ¬ ((V_X11_in ((V_X11_of x1 (1 : Int32) mA M) + (M.1 263 x1.toNatClampNeg)) (0 : Int32) (8 : Int32) M) = 0) → (V_X11_robotAt ((V_X11_of x1 (0 : Int32) mA M) + (M.1 262 x1.toNatClampNeg)) ((V_X11_of x1 (1 : Int32) mA M) + (M.1 263 x1.toNatClampNeg)) (-1 : Int32) mA M) < 0 → ¬ (((U_X11_set x1 (1 : Int32) ((V_X11_of x1 (1 : Int32) mA M) + (M.1 263 x1.toNatClampNeg)) mA (U_X11_set x1 (0 : Int32) ((V_X11_of x1 (0 : Int32) mA M) + (M.1 262 x1.toNatClampNeg)) mA M)).1 mA 16) = x1) → ¬ (0 ≤ ((U_X11_set x1 (1 : Int32) ((V_X11_of x1 (1 : Int32) mA M) + (M.1 263 x1.toNatClampNeg)) mA (U_X11_set x1 (0 : Int32) ((V_X11_of x1 (0 : Int32) mA M) + (M.1 262 x1.toNatClampNeg)) mA M)).1 mA 16)) → ((U_X11_set x1 (1 : Int32) ((V_X11_of x1 (1 : Int32) mA M) + (M.1 263 x1.toNatClampNeg)) mA (U_X11_set x1 (0 : Int32) ((V_X11_of x1 (0 : Int32) mA M) + (M.1 262 x1.toNatClampNeg)) mA M)).1 mA 14) = ((V_X11_of x1 (0 : Int32) mA M) + (M.1 262 x1.toNatClampNeg)) → ((U_X11_set x1 (1 : Int32) ((V_X11_of x1 (1 : Int32) mA M) + (M.1 263 x1.toNatClampNeg)) mA (U_X11_set x1 (0 : Int32) ((V_X11_of x1 (0 : Int32) mA M) + (M.1 262 x1.toNatClampNeg)) mA M)).1 mA 15) = ((V_X11_of x1 (1 : Int32) mA M) + (M.1 263 x1.toNatClampNeg)) → vp_in (((44 : Int32) + ((16 : Int32) * x1)) + (0 : Int32)) 212) ∧ (¬ ((V_X11_of x1 (10 : Int32) mA M) = 0) → (M.1 262 x1.toNatClampNeg) = 0 → ¬ ((M.1 263 x1.toNatClampNeg) = 0) → ¬ ((V_X11_of x1 (10 : Int32) mA M) = (2 : Int32)) → ¬ ((V_X11_in ((V_X11_of x1 (0 : Int32) mA M) + (M.1 262 x1.toNatClampNeg)) (0 : Int32) (14 : Int32) M) = 0) → ¬ ((V_X11_in ((V_X11_of x1 (1 : Int32) mA M) + (M.1 263 x1.toNatClampNeg)) (0 : Int32) (8 : Int32) M) = 0) → (V_X11_robotAt ((V_X11_of x1 (0 : Int32) mA M) + (M.1 262 x1.toNatClampNeg)) ((V_X11_of x1 (1 : Int32) mA M) + (M.1 263 x1.toNatClampNeg)) (-1 : Int32) mA M) < 0 → ¬ (((U_X11_set x1 (1 : Int32) ((V_X11_of x1 (1 : Int32) mA M) + (M.1 263 x1.toNatClampNeg)) mA (U_X11_set x1 (0 : Int32) ((V_X11_of x1 (0 : Int32) mA M) + (M.1 262 x1.toNatClampNeg)) mA M)).1 mA 16) = x1) → ¬ (0 ≤ ((U_X11_set x1 (1 : Int32) ((V_X11_of x1 (1 : Int32) mA M) + (M.1 263 x1.toNatClampNeg)) mA (U_X11_set x1 (0 : Int32) ((V_X11_of x1 (0 : Int32) mA M) + (M.1 262 x1.toNatClampNeg)) mA M)).1 mA 16)) → ((U_X11_set x1 (1 : Int32) ((V_X11_of x1 (1 : Int32) mA M) + (M.1 263 x1.toNatClampNeg)) mA (U_X11_set x1 (0 : Int32) ((V_X11_of x1 (0 : Int32) mA M) + (M.1 262 x1.toNatClampNeg)) mA M)).1 mA 14) = ((V_X11_of x1 (0 : Int32) mA M) + (M.1 262 x1.toNatClampNeg)) → ((U_X11_set x1 (1 : Int32) ((V_X11_of x1 (1 : Int32) mA M) + (M.1 263 x1.toNatClampNeg)) mA (U_X11_set x1 (0 : Int32) ((V_X11_of x1 (0 : Int32) mA M) + (M.1 262 x1.toNatClampNeg)) mA M)).1 mA 15) = ((V_X11_of x1 (1 : Int32) mA M) + (M.1 263 x1.toNatClampNeg)) → vp_in (((44 : Int32) + ((16 : Int32) * x1)) + (1 : Int32)) 212) ∧ (¬ ((V_X11_of x1 (10 : Int32) mA M) = 0) → (M.1 262 x1.toNatClampNeg) = 0 → ¬ ((M.1 263 x1.toNatClampNeg) = 0) → ¬ ((V_X11_of x1 (10 : Int32) mA M) = (2 : Int32)) → ¬ ((V_X11_in ((V_X11_of x1 (0 : Int32) mA M) + (M.1 262 x1.toNatClampNeg)) (0 : Int32) (14 : Int32) M) = 0) → ¬ ((V_X11_in ((V_X11_of x1 (1 : Int32) mA M) + (M.1 263 x1.toNatClampNeg)) (0 : Int32) (8 : Int32) M) = 0) → ¬ ((V_X11_robotAt ((V_X11_of x1 (0 : Int32) mA M) + (M.1 262 x1.toNatClampNeg)) ((V_X11_of x1 (1 : Int32) mA M) + (M.1 263 x1.toNatClampNeg)) (-1 : Int32) mA M) < 0) → (M.1 mA 16) = (V_X11_robotAt ((V_X11_of x1 (0 : Int32) mA M) + (M.1 262 x1.toNatClampNeg)) ((V_X11_of x1 (1 : Int32) mA M) + (M.1 263 x1.toNatClampNeg)) (-1 : Int32) mA M) → ¬ (((V_X11_robotAt ((V_X11_of x1 (0 : Int32) mA M) + (M.1 262 x1.toNatClampNeg)) ((V_X11_of x1 (1 : Int32) mA M) + (M.1 263 x1.toNatClampNeg)) (-1 : Int32) mA M) / (5 : Int32)) = (x1 / (5 : Int32))) → ¬ (((M.1 mA 3) - (M.1 mA 20)) < (2 : Int32)) → vp_in (((44 : Int32) + ((16 : Int32) * x1)) + (0 : Int32)) 212) ∧ (¬ ((V_X11_of x1 (10 : Int32) mA M) = 0) → (M.1 262 x1.toNatClampNeg) = 0 → ¬ ((M.1 263 x1.toNatClampNeg) = 0) → ¬ ((V_X11_of x1 (10 : Int32) mA M) = (2 : Int32)) → ¬ ((V_X11_in ((V_X11_of x1 (0 : Int32) mA M) + (M.1 262 x1.toNatClampNeg)) (0 : Int32) (14 : Int32) M) = 0) → ¬ ((V_X11_in ((V_X11_of x1 (1 : Int32) mA M) + (M.1 263 x1.toNatClampNeg)) (0 : Int32) (8 : Int32) M) = 0) → ¬ ((V_X11_robotAt ((V_X11_of x1 (0 : Int32) mA M) + (M.1 262 x1.toNatClampNeg)) ((V_X11_of x1 (1 : Int32) mA M) + (M.1 263 x1.toNatClampNeg)) (-1 : Int32) mA M) < 0) → (M.1 mA 16) = (V_X11_robotAt ((V_X11_of x1 (0 : Int32) mA M) + (M.1 262 x1.toNatClampNeg)) ((V_X11_of x1 (1 : Int32) mA M) + (M.1 263 x1.toNatClampNeg)) (-1 : Int32) mA M) → ¬ (((V_X11_robotAt ((V_X11_of x1 (0 : Int32) mA M) + (M.1 262 x1.toNatClampNeg)) ((V_X11_of x1 (1 : Int32) mA M) + (M.1 263 x1.toNatClampNeg)) (-1 : Int32) mA M) / (5 : Int32)) = (x1 / (5 : Int32))) → ¬ (((M.1 mA 3) - (M.1 mA 20)) < (2 : Int32)) → vp_in (((44 : Int32) + ((16 : Int32) * x1)) + (1 : Int32)) 212) ∧ (¬ ((V_X11_of x1 (10 : Int32) mA M) = 0) → (M.1 262 x1.toNatClampNeg) = 0 → ¬ ((M.1 263 x1.toNatClampNeg) = 0) → (V_X11_of x1 (10 : Int32) mA M) = (2 : Int32) → (M.1 mA 16) = x1 → vp_in x1 10)
theorem S_X11_doCommand {sh : List SC} {M : Mem} {x1 : Int32} {mA : Nat} {oA : Nat} (hb1 : ModelAt sh mA oA) (g1 : vp_in x1 10) (g2 : vp_in (((44 : Int32) + ((16 : Int32) * x1)) + (10 : Int32)) 212) (hP : P_X11_doCommand x1 mA M) : Gu m_X11_doCommand [.ref 242, .int x1] sh M (U_X11_doCommand x1 mA M) := by
  refine Sp.of (ls := [some (.ref 242), some (.int x1), none, none, none, none, none, none]) (by decide +kernel) (Nat.le_of_ble_eq_true rfl) rfl ?_
  obtain ⟨g3, g4, g5, g6, g7, g8, g9, g10, g11, g12, g13, g14, g15, g16, g17, g18, g19, g20, g21, g22⟩ := hP
  have k0 : kd sh 242 = some (10 + 7, 0) := hb1.1
  have k1 : rf sh 242 38 = some 262 := hb1.2.2.2.2.2.2.2.2.2.2.2.2.2.2.2.2.2.2.2.2.1
  have k2 : kd sh 262 = some (0, 10) := hb1.2.2.2.2.2.2.2.2.2.2.2.2.2.2.2.2.2.2.2.2.2.2.2.2.2.2.2.2.2.2.2.2.2.2.2.2.2.2.2.2.2.2.2.2.1
  have k3 : rf sh 242 39 = some 263 := hb1.2.2.2.2.2.2.2.2.2.2.2.2.2.2.2.2.2.2.2.2.2.1
  have k4 : kd sh 263 = some (0, 10) := hb1.2.2.2.2.2.2.2.2.2.2.2.2.2.2.2.2.2.2.2.2.2.2.2.2.2.2.2.2.2.2.2.2.2.2.2.2.2.2.2.2.2.2.2.2.2.1
  have k5 : rf sh 242 27 = some mA := hb1.2.2.2.2.2.2.2.2.2.2.2.2.2.2.2.2.2.1
  have k6 : kd sh mA = some (0, 212) := hb1.2.2.2.2.2.2.2.2.2.2.2.2.2.2.2.2.2.2.2.2.2.2.2.2.2.2.2.2.2.2.2.2.2.2.2.2.2.2.2.2.2.2.2.2.2.2.2.2.2.2.2.1
  have k7 : rf sh 242 40 = some 264 := hb1.2.2.2.2.2.2.2.2.2.2.2.2.2.2.2.2.2.2.2.2.2.2.1
  have k8 : kd sh 264 = some (0, 10) := hb1.2.2.2.2.2.2.2.2.2.2.2.2.2.2.2.2.2.2.2.2.2.2.2.2.2.2.2.2.2.2.2.2.2.2.2.2.2.2.2.2.2.2.2.2.2.2.1
  refine r_aload_n e_X11_doCommand_0 rfl ?_
  refine r_getR e_X11_doCommand_1 fl_X11_224 k0 k1 ?_
  refine r_iload_n e_X11_doCommand_4 rfl ?_
  refine r_iaload e_X11_doCommand_5 k2 g1 ?_
  refine p_istore_n_8_2 e_X11_doCommand_6 rfl rfl ?_
  refine r_aload_n e_X11_doCommand_7 rfl ?_
  refine r_getR e_X11_doCommand_8 fl_X11_227 k0 k3 ?_
  refine r_iload_n e_X11_doCommand_11 rfl ?_
  refine r_iaload e_X11_doCommand_12 k4 g1 ?_
  refine p_istore_n_8_3 e_X11_doCommand_13 rfl rfl ?_
  refine r_aload_n e_X11_doCommand_14 rfl ?_
  refine r_iload_n e_X11_doCommand_15 rfl ?_
  refine r_bipush e_X11_doCommand_16 bp_10 ?_
  refine cV2v e_X11_doCommand_18 cl_X11_252 ⟨Nat.le_of_ble_eq_true rfl, Nat.le_of_ble_eq_true rfl⟩ ⟨rfl, rfl⟩ k0 (Nat.le_of_ble_eq_true rfl) (S_X11_of hb1 g2) ?_
  refine p_istore_8_4 e_X11_doCommand_21 rfl rfl ?_
  refine r_iload e_X11_doCommand_23 rfl ?_
  refine r_if_eq e_X11_doCommand_25 (fun h25_0 => ?_) (fun h25_0 => ?_)
  · refine r_return e_X11_doCommand_36 rfl ⟨rfl, rfl⟩ ?_
    (refine ⟨?_, rfl, ?_⟩ <;> ((try unfold U_X11_doCommand); (try simp only [if_pos h25_0]); (try rfl)))
  · refine r_iload_n e_X11_doCommand_28 rfl ?_
    refine r_if_ne e_X11_doCommand_29 (fun h29_1 => ?_) (fun h29_1 => ?_)
    · refine r_iload e_X11_doCommand_37 rfl ?_
      refine r_iconst e_X11_doCommand_39 ic_2 ?_
      refine r_icmp_ne e_X11_doCommand_40 (fun h40_2 => ?_) (fun h40_2 => ?_)
      · refine r_aload_n e_X11_doCommand_92 rfl ?_
        refine r_iload_n e_X11_doCommand_93 rfl ?_
        refine r_iconst e_X11_doCommand_94 ic_0 ?_
        refine cV2v e_X11_doCommand_95 cl_X11_252 ⟨Nat.le_of_ble_eq_true rfl, Nat.le_of_ble_eq_true rfl⟩ ⟨rfl, rfl⟩ k0 (Nat.le_of_ble_eq_true rfl) (S_X11_of hb1 (g3 h25_0 h29_1 h40_2)) ?_
        refine r_iload_n e_X11_doCommand_98 rfl ?_
        refine r_iadd e_X11_doCommand_99 ?_
        refine p_istore_8_5 e_X11_doCommand_100 rfl rfl ?_
        refine r_aload_n e_X11_doCommand_102 rfl ?_
        refine r_iload_n e_X11_doCommand_103 rfl ?_
        refine r_iconst e_X11_doCommand_104 ic_1 ?_
        refine cV2v e_X11_doCommand_105 cl_X11_252 ⟨Nat.le_of_ble_eq_true rfl, Nat.le_of_ble_eq_true rfl⟩ ⟨rfl, rfl⟩ k0 (Nat.le_of_ble_eq_true rfl) (S_X11_of hb1 (g4 h25_0 h29_1 h40_2)) ?_
        refine r_iload_n e_X11_doCommand_108 rfl ?_
        refine r_iadd e_X11_doCommand_109 ?_
        refine p_istore_8_6 e_X11_doCommand_110 rfl rfl ?_
        refine r_iload e_X11_doCommand_112 rfl ?_
        refine r_iconst e_X11_doCommand_114 ic_0 ?_
        refine r_bipush e_X11_doCommand_115 bp_14 ?_
        refine cS3v e_X11_doCommand_117 cl_X11_245 ⟨Nat.le_of_ble_eq_true rfl, Nat.le_of_ble_eq_true rfl⟩ ⟨rfl, rfl⟩  (Nat.le_of_ble_eq_true rfl) (S_X11_in ) ?_
        refine r_if_eq e_X11_doCommand_120 (fun h120_3 => ?_) (fun h120_3 => ?_)
        · refine r_return e_X11_doCommand_134 rfl ⟨rfl, rfl⟩ ?_
          (refine ⟨?_, rfl, ?_⟩ <;> ((try unfold U_X11_doCommand); (try simp only [if_neg h25_0, if_neg h29_1, if_neg h40_2, if_pos h120_3]); (try rfl)))
        · refine r_iload e_X11_doCommand_123 rfl ?_
          refine r_iconst e_X11_doCommand_125 ic_0 ?_
          refine r_bipush e_X11_doCommand_126 bp_8 ?_
          refine cS3v e_X11_doCommand_128 cl_X11_245 ⟨Nat.le_of_ble_eq_true rfl, Nat.le_of_ble_eq_true rfl⟩ ⟨rfl, rfl⟩  (Nat.le_of_ble_eq_true rfl) (S_X11_in ) ?_
          refine r_if_ne e_X11_doCommand_131 (fun h131_4 => ?_) (fun h131_4 => ?_)
          · refine r_aload_n e_X11_doCommand_135 rfl ?_
            refine r_iload e_X11_doCommand_136 rfl ?_
            refine r_iload e_X11_doCommand_138 rfl ?_
            refine r_iconst e_X11_doCommand_140 ic_m1 ?_
            refine cV3v e_X11_doCommand_141 cl_X11_270 ⟨Nat.le_of_ble_eq_true rfl, Nat.le_of_ble_eq_true rfl⟩ ⟨rfl, rfl⟩ k0 (Nat.le_of_ble_eq_true rfl) (S_X11_robotAt hb1 (g5 h25_0 h29_1 h40_2 h120_3 h131_4)) ?_
            refine p_istore_8_7 e_X11_doCommand_144 rfl rfl ?_
            refine r_iload e_X11_doCommand_146 rfl ?_
            refine r_if_lt e_X11_doCommand_148 (fun h148_5 => ?_) (fun h148_5 => ?_)
            · refine r_aload_n e_X11_doCommand_208 rfl ?_
              refine r_iload_n e_X11_doCommand_209 rfl ?_
              refine r_iconst e_X11_doCommand_210 ic_0 ?_
              refine r_iload e_X11_doCommand_211 rfl ?_
              refine cV3u e_X11_doCommand_213 cl_X11_282 ⟨Nat.le_of_ble_eq_true rfl, Nat.le_of_ble_eq_true rfl⟩ ⟨rfl, rfl⟩ k0 (Nat.le_of_ble_eq_true rfl) (S_X11_set hb1 (g6 h25_0 h29_1 h40_2 h120_3 h131_4 h148_5)) ?_
              refine r_aload_n e_X11_doCommand_216 rfl ?_
              refine r_iload_n e_X11_doCommand_217 rfl ?_
              refine r_iconst e_X11_doCommand_218 ic_1 ?_
              refine r_iload e_X11_doCommand_219 rfl ?_
              refine cV3u e_X11_doCommand_221 cl_X11_282 ⟨Nat.le_of_ble_eq_true rfl, Nat.le_of_ble_eq_true rfl⟩ ⟨rfl, rfl⟩ k0 (Nat.le_of_ble_eq_true rfl) (S_X11_set hb1 (g7 h25_0 h29_1 h40_2 h120_3 h131_4 h148_5)) ?_
              obtain ⟨Mc1, e_Mc1⟩ : ∃ z : Mem, z = (U_X11_set x1 (1 : Int32) ((V_X11_of x1 (1 : Int32) mA M) + (M.1 263 x1.toNatClampNeg)) mA (U_X11_set x1 (0 : Int32) ((V_X11_of x1 (0 : Int32) mA M) + (M.1 262 x1.toNatClampNeg)) mA M)) := ⟨_, rfl⟩
              rw [← e_Mc1]
              refine r_aload_n e_X11_doCommand_224 rfl ?_
              refine r_getR e_X11_doCommand_225 fl_X11_212 k0 k5 ?_
              refine r_bipush e_X11_doCommand_228 bp_16 ?_
              refine r_ialoade (v := (Mc1.1 mA 16)) e_X11_doCommand_230 k6 (by unfold vp_in; decide) (show Mc1.1 mA (16 : Int32).toNatClampNeg = Mc1.1 mA 16 by rw [show (16 : Int32).toNatClampNeg = 16 from rfl]) ?_
              refine r_iload_n e_X11_doCommand_231 rfl ?_
              obtain ⟨M6_0, e_M6_0⟩ : ∃ z : Mem, z = (if (Mc1.1 mA 16) = x1 then (setI (setI Mc1 mA 14 ((V_X11_of x1 (0 : Int32) mA M) + (M.1 262 x1.toNatClampNeg))) mA 15 ((V_X11_of x1 (1 : Int32) mA M) + (M.1 263 x1.toNatClampNeg))) else (if 0 ≤ (Mc1.1 mA 16) then Mc1 else (if (Mc1.1 mA 14) = ((V_X11_of x1 (0 : Int32) mA M) + (M.1 262 x1.toNatClampNeg)) then (if (Mc1.1 mA 15) = ((V_X11_of x1 (1 : Int32) mA M) + (M.1 263 x1.toNatClampNeg)) then (U_X11_hold x1 mA Mc1) else Mc1) else Mc1))) := ⟨_, rfl⟩
              suffices j295_6 : WP m_X11_doCommand (fun r sh' M'' => r = none ∧ sh' = sh ∧ M'' = (U_X11_doCommand x1 mA M)) 295 [some (.ref 242), some (.int x1), some (.int (M.1 262 x1.toNatClampNeg)), some (.int (M.1 263 x1.toNatClampNeg)), some (.int (V_X11_of x1 (10 : Int32) mA M)), some (.int ((V_X11_of x1 (0 : Int32) mA M) + (M.1 262 x1.toNatClampNeg))), some (.int ((V_X11_of x1 (1 : Int32) mA M) + (M.1 263 x1.toNatClampNeg))), some (.int (V_X11_robotAt ((V_X11_of x1 (0 : Int32) mA M) + (M.1 262 x1.toNatClampNeg)) ((V_X11_of x1 (1 : Int32) mA M) + (M.1 263 x1.toNatClampNeg)) (-1 : Int32) mA M))] [] sh M6_0 0 0 by
                refine r_icmp_ne e_X11_doCommand_232 (fun h232_6 => ?_) (fun h232_6 => ?_)
                · refine r_aload_n e_X11_doCommand_256 rfl ?_
                  refine r_getR e_X11_doCommand_257 fl_X11_212 k0 k5 ?_
                  refine r_bipush e_X11_doCommand_260 bp_16 ?_
                  refine r_ialoade (v := (Mc1.1 mA 16)) e_X11_doCommand_262 k6 (by unfold vp_in; decide) (show Mc1.1 mA (16 : Int32).toNatClampNeg = Mc1.1 mA 16 by rw [show (16 : Int32).toNatClampNeg = 16 from rfl]) ?_
                  refine r_if_ge e_X11_doCommand_263 (fun h263_7 => ?_) (fun h263_7 => ?_)
                  · (rw [show M6_0 = Mc1 from ((e_M6_0.trans (if_neg h232_6)).trans (if_pos h263_7))] at j295_6; exact j295_6)
                  · refine r_aload_n e_X11_doCommand_266 rfl ?_
                    refine r_getR e_X11_doCommand_267 fl_X11_212 k0 k5 ?_
                    refine r_bipush e_X11_doCommand_270 bp_14 ?_
                    refine r_ialoade (v := (Mc1.1 mA 14)) e_X11_doCommand_272 k6 (by unfold vp_in; decide) (show Mc1.1 mA (14 : Int32).toNatClampNeg = Mc1.1 mA 14 by rw [show (14 : Int32).toNatClampNeg = 14 from rfl]) ?_
                    refine r_iload e_X11_doCommand_273 rfl ?_
                    refine r_icmp_ne e_X11_doCommand_275 (fun h275_8 => ?_) (fun h275_8 => ?_)
                    · (rw [show M6_0 = Mc1 from (((e_M6_0.trans (if_neg h232_6)).trans (if_neg h263_7)).trans (if_neg h275_8))] at j295_6; exact j295_6)
                    · refine r_aload_n e_X11_doCommand_278 rfl ?_
                      refine r_getR e_X11_doCommand_279 fl_X11_212 k0 k5 ?_
                      refine r_bipush e_X11_doCommand_282 bp_15 ?_
                      refine r_ialoade (v := (Mc1.1 mA 15)) e_X11_doCommand_284 k6 (by unfold vp_in; decide) (show Mc1.1 mA (15 : Int32).toNatClampNeg = Mc1.1 mA 15 by rw [show (15 : Int32).toNatClampNeg = 15 from rfl]) ?_
                      refine r_iload e_X11_doCommand_285 rfl ?_
                      refine r_icmp_ne e_X11_doCommand_287 (fun h287_9 => ?_) (fun h287_9 => ?_)
                      · (rw [show M6_0 = Mc1 from ((((e_M6_0.trans (if_neg h232_6)).trans (if_neg h263_7)).trans (if_pos h275_8)).trans (if_neg h287_9))] at j295_6; exact j295_6)
                      · refine r_aload_n e_X11_doCommand_290 rfl ?_
                        refine r_iload_n e_X11_doCommand_291 rfl ?_
                        refine cV1u e_X11_doCommand_292 cl_X11_367 ⟨Nat.le_of_ble_eq_true rfl, Nat.le_of_ble_eq_true rfl⟩ ⟨rfl, rfl⟩ k0 (Nat.le_of_ble_eq_true rfl) (S_X11_hold hb1 (by subst e_Mc1; exact g8 h25_0 h29_1 h40_2 h120_3 h131_4 h148_5 h232_6 h263_7 h275_8 h287_9) (by subst e_Mc1; exact g9 h25_0 h29_1 h40_2 h120_3 h131_4 h148_5 h232_6 h263_7 h275_8 h287_9)) ?_
                        (rw [show M6_0 = U_X11_hold x1 mA Mc1 from ((((e_M6_0.trans (if_neg h232_6)).trans (if_neg h263_7)).trans (if_pos h275_8)).trans (if_pos h287_9))] at j295_6; exact j295_6)
                · refine r_aload_n e_X11_doCommand_235 rfl ?_
                  refine r_getR e_X11_doCommand_236 fl_X11_212 k0 k5 ?_
                  refine r_bipush e_X11_doCommand_239 bp_14 ?_
                  refine r_iload e_X11_doCommand_241 rfl ?_
                  refine r_iastore e_X11_doCommand_243 k6 (by unfold vp_in; decide) ?_
                  rw [show (14 : Int32).toNatClampNeg = 14 from rfl]
                  refine r_aload_n e_X11_doCommand_244 rfl ?_
                  refine r_getR e_X11_doCommand_245 fl_X11_212 k0 k5 ?_
                  refine r_bipush e_X11_doCommand_248 bp_15 ?_
                  refine r_iload e_X11_doCommand_250 rfl ?_
                  refine r_iastore e_X11_doCommand_252 k6 (by unfold vp_in; decide) ?_
                  rw [show (15 : Int32).toNatClampNeg = 15 from rfl]
                  refine r_goto e_X11_doCommand_253 ?_
                  (rw [show M6_0 = setI (setI Mc1 mA 14 ((V_X11_of x1 (0 : Int32) mA M) + (M.1 262 x1.toNatClampNeg))) mA 15 ((V_X11_of x1 (1 : Int32) mA M) + (M.1 263 x1.toNatClampNeg)) from (e_M6_0.trans (if_pos h232_6))] at j295_6; exact j295_6)
              refine r_return e_X11_doCommand_295 rfl ⟨rfl, rfl⟩ ?_
              (subst e_M6_0 e_Mc1; refine ⟨?_, rfl, ?_⟩ <;> ((try unfold U_X11_doCommand); (try simp only [if_neg h25_0, if_neg h29_1, if_neg h40_2, if_neg h120_3, if_neg h131_4, if_pos h148_5]); (try rfl)))
            · refine r_aload_n e_X11_doCommand_151 rfl ?_
              refine r_getR e_X11_doCommand_152 fl_X11_212 k0 k5 ?_
              refine r_bipush e_X11_doCommand_155 bp_16 ?_
              refine r_ialoade (v := (M.1 mA 16)) e_X11_doCommand_157 k6 (by unfold vp_in; decide) (show M.1 mA (16 : Int32).toNatClampNeg = M.1 mA 16 by rw [show (16 : Int32).toNatClampNeg = 16 from rfl]) ?_
              refine r_iload e_X11_doCommand_158 rfl ?_
              obtain ⟨M10_0, e_M10_0⟩ : ∃ z : Mem, z = (if (M.1 mA 16) = (V_X11_robotAt ((V_X11_of x1 (0 : Int32) mA M) + (M.1 262 x1.toNatClampNeg)) ((V_X11_of x1 (1 : Int32) mA M) + (M.1 263 x1.toNatClampNeg)) (-1 : Int32) mA M) then (if ((V_X11_robotAt ((V_X11_of x1 (0 : Int32) mA M) + (M.1 262 x1.toNatClampNeg)) ((V_X11_of x1 (1 : Int32) mA M) + (M.1 263 x1.toNatClampNeg)) (-1 : Int32) mA M) / (5 : Int32)) = (x1 / (5 : Int32)) then M else (if ((M.1 mA 3) - (M.1 mA 20)) < (2 : Int32) then M else (setI (U_X11_hold x1 mA M) mA 10 (((U_X11_hold x1 mA M).1 mA 10) + (1 : Int32))))) else M) := ⟨_, rfl⟩
              suffices j207_10 : WP m_X11_doCommand (fun r sh' M'' => r = none ∧ sh' = sh ∧ M'' = (U_X11_doCommand x1 mA M)) 207 [some (.ref 242), some (.int x1), some (.int (M.1 262 x1.toNatClampNeg)), some (.int (M.1 263 x1.toNatClampNeg)), some (.int (V_X11_of x1 (10 : Int32) mA M)), some (.int ((V_X11_of x1 (0 : Int32) mA M) + (M.1 262 x1.toNatClampNeg))), some (.int ((V_X11_of x1 (1 : Int32) mA M) + (M.1 263 x1.toNatClampNeg))), some (.int (V_X11_robotAt ((V_X11_of x1 (0 : Int32) mA M) + (M.1 262 x1.toNatClampNeg)) ((V_X11_of x1 (1 : Int32) mA M) + (M.1 263 x1.toNatClampNeg)) (-1 : Int32) mA M))] [] sh M10_0 0 0 by
                refine r_icmp_ne e_X11_doCommand_160 (fun h160_10 => ?_) (fun h160_10 => ?_)
                · (rw [show M10_0 = M from (e_M10_0.trans (if_neg h160_10))] at j207_10; exact j207_10)
                · refine r_iload e_X11_doCommand_163 rfl ?_
                  refine r_iconst e_X11_doCommand_165 ic_5 ?_
                  refine r_idiv e_X11_doCommand_166 (by decide) ?_
                  refine r_iload_n e_X11_doCommand_167 rfl ?_
                  refine r_iconst e_X11_doCommand_168 ic_5 ?_
                  refine r_idiv e_X11_doCommand_169 (by decide) ?_
                  refine r_icmp_eq e_X11_doCommand_170 (fun h170_11 => ?_) (fun h170_11 => ?_)
                  · (rw [show M10_0 = M from ((e_M10_0.trans (if_pos h160_10)).trans (if_pos h170_11))] at j207_10; exact j207_10)
                  · refine r_aload_n e_X11_doCommand_173 rfl ?_
                    refine r_getR e_X11_doCommand_174 fl_X11_212 k0 k5 ?_
                    refine r_iconst e_X11_doCommand_177 ic_3 ?_
                    refine r_ialoade (v := (M.1 mA 3)) e_X11_doCommand_178 k6 (by unfold vp_in; decide) (show M.1 mA (3 : Int32).toNatClampNeg = M.1 mA 3 by rw [show (3 : Int32).toNatClampNeg = 3 from rfl]) ?_
                    refine r_aload_n e_X11_doCommand_179 rfl ?_
                    refine r_getR e_X11_doCommand_180 fl_X11_212 k0 k5 ?_
                    refine r_bipush e_X11_doCommand_183 bp_20 ?_
                    refine r_ialoade (v := (M.1 mA 20)) e_X11_doCommand_185 k6 (by unfold vp_in; decide) (show M.1 mA (20 : Int32).toNatClampNeg = M.1 mA 20 by rw [show (20 : Int32).toNatClampNeg = 20 from rfl]) ?_
                    refine r_isub e_X11_doCommand_186 ?_
                    refine r_iconst e_X11_doCommand_187 ic_2 ?_
                    refine r_icmp_lt e_X11_doCommand_188 (fun h188_12 => ?_) (fun h188_12 => ?_)
                    · (rw [show M10_0 = M from (((e_M10_0.trans (if_pos h160_10)).trans (if_neg h170_11)).trans (if_pos h188_12))] at j207_10; exact j207_10)
                    · refine r_aload_n e_X11_doCommand_191 rfl ?_
                      refine r_iload_n e_X11_doCommand_192 rfl ?_
                      refine cV1u e_X11_doCommand_193 cl_X11_367 ⟨Nat.le_of_ble_eq_true rfl, Nat.le_of_ble_eq_true rfl⟩ ⟨rfl, rfl⟩ k0 (Nat.le_of_ble_eq_true rfl) (S_X11_hold hb1 (g10 h25_0 h29_1 h40_2 h120_3 h131_4 h148_5 h160_10 h170_11 h188_12) (g11 h25_0 h29_1 h40_2 h120_3 h131_4 h148_5 h160_10 h170_11 h188_12)) ?_
                      refine r_aload_n e_X11_doCommand_196 rfl ?_
                      refine r_getR e_X11_doCommand_197 fl_X11_212 k0 k5 ?_
                      refine r_bipush e_X11_doCommand_200 bp_10 ?_
                      refine r_dup2 e_X11_doCommand_202 rfl rfl ?_
                      refine r_ialoade (v := ((U_X11_hold x1 mA M).1 mA 10)) e_X11_doCommand_203 k6 (by unfold vp_in; decide) (show (U_X11_hold x1 mA M).1 mA (10 : Int32).toNatClampNeg = (U_X11_hold x1 mA M).1 mA 10 by rw [show (10 : Int32).toNatClampNeg = 10 from rfl]) ?_
                      refine r_iconst e_X11_doCommand_204 ic_1 ?_
                      refine r_iadd e_X11_doCommand_205 ?_
                      refine r_iastore e_X11_doCommand_206 k6 (by unfold vp_in; decide) ?_
                      rw [show (10 : Int32).toNatClampNeg = 10 from rfl]
                      (rw [show M10_0 = setI (U_X11_hold x1 mA M) mA 10 (((U_X11_hold x1 mA M).1 mA 10) + (1 : Int32)) from (((e_M10_0.trans (if_pos h160_10)).trans (if_neg h170_11)).trans (if_neg h188_12))] at j207_10; exact j207_10)
              refine r_return e_X11_doCommand_207 rfl ⟨rfl, rfl⟩ ?_
              (subst e_M10_0; refine ⟨?_, rfl, ?_⟩ <;> ((try unfold U_X11_doCommand); (try simp only [if_neg h25_0, if_neg h29_1, if_neg h40_2, if_neg h120_3, if_neg h131_4, if_neg h148_5]); (try rfl)))
          · refine r_return e_X11_doCommand_134 rfl ⟨rfl, rfl⟩ ?_
            (refine ⟨?_, rfl, ?_⟩ <;> ((try unfold U_X11_doCommand); (try simp only [if_neg h25_0, if_neg h29_1, if_neg h40_2, if_neg h120_3, if_pos h131_4]); (try rfl)))
      · refine r_aload_n e_X11_doCommand_43 rfl ?_
        refine r_getR e_X11_doCommand_44 fl_X11_212 k0 k5 ?_
        refine r_bipush e_X11_doCommand_47 bp_16 ?_
        refine r_ialoade (v := (M.1 mA 16)) e_X11_doCommand_49 k6 (by unfold vp_in; decide) (show M.1 mA (16 : Int32).toNatClampNeg = M.1 mA 16 by rw [show (16 : Int32).toNatClampNeg = 16 from rfl]) ?_
        refine r_iload_n e_X11_doCommand_50 rfl ?_
        obtain ⟨M13_0, e_M13_0⟩ : ∃ z : Mem, z = (if (M.1 mA 16) = x1 then (setI (setI (setI (setI M mA 16 (-1 : Int32)) mA 17 (M.1 264 x1.toNatClampNeg)) mA 18 (M.1 262 x1.toNatClampNeg)) mA 19 (M.1 263 x1.toNatClampNeg)) else M) := ⟨_, rfl⟩
        suffices j91_13 : WP m_X11_doCommand (fun r sh' M'' => r = none ∧ sh' = sh ∧ M'' = (U_X11_doCommand x1 mA M)) 91 [some (.ref 242), some (.int x1), some (.int (M.1 262 x1.toNatClampNeg)), some (.int (M.1 263 x1.toNatClampNeg)), some (.int (V_X11_of x1 (10 : Int32) mA M)), none, none, none] [] sh M13_0 0 0 by
          refine r_icmp_ne e_X11_doCommand_51 (fun h51_13 => ?_) (fun h51_13 => ?_)
          · (rw [show M13_0 = M from (e_M13_0.trans (if_neg h51_13))] at j91_13; exact j91_13)
          · refine r_aload_n e_X11_doCommand_54 rfl ?_
            refine r_getR e_X11_doCommand_55 fl_X11_212 k0 k5 ?_
            refine r_bipush e_X11_doCommand_58 bp_16 ?_
            refine r_iconst e_X11_doCommand_60 ic_m1 ?_
            refine r_iastore e_X11_doCommand_61 k6 (by unfold vp_in; decide) ?_
            rw [show (16 : Int32).toNatClampNeg = 16 from rfl]
            refine r_aload_n e_X11_doCommand_62 rfl ?_
            refine r_getR e_X11_doCommand_63 fl_X11_212 k0 k5 ?_
            refine r_bipush e_X11_doCommand_66 bp_17 ?_
            refine r_aload_n e_X11_doCommand_68 rfl ?_
            refine r_getR e_X11_doCommand_69 fl_X11_230 k0 k7 ?_
            refine r_iload_n e_X11_doCommand_72 rfl ?_
            refine r_ialoade (v := (M.1 264 x1.toNatClampNeg)) e_X11_doCommand_73 k8 (g12 h25_0 h29_1 h40_2 h51_13) (gs_aI (ne_kd k8 k6 (by decide))) ?_
            refine r_iastore e_X11_doCommand_74 k6 (by unfold vp_in; decide) ?_
            rw [show (17 : Int32).toNatClampNeg = 17 from rfl]
            refine r_aload_n e_X11_doCommand_75 rfl ?_
            refine r_getR e_X11_doCommand_76 fl_X11_212 k0 k5 ?_
            refine r_bipush e_X11_doCommand_79 bp_18 ?_
            refine r_iload_n e_X11_doCommand_81 rfl ?_
            refine r_iastore e_X11_doCommand_82 k6 (by unfold vp_in; decide) ?_
            rw [show (18 : Int32).toNatClampNeg = 18 from rfl]
            refine r_aload_n e_X11_doCommand_83 rfl ?_
            refine r_getR e_X11_doCommand_84 fl_X11_212 k0 k5 ?_
            refine r_bipush e_X11_doCommand_87 bp_19 ?_
            refine r_iload_n e_X11_doCommand_89 rfl ?_
            refine r_iastore e_X11_doCommand_90 k6 (by unfold vp_in; decide) ?_
            rw [show (19 : Int32).toNatClampNeg = 19 from rfl]
            (rw [show M13_0 = setI (setI (setI (setI M mA 16 (-1 : Int32)) mA 17 (M.1 264 x1.toNatClampNeg)) mA 18 (M.1 262 x1.toNatClampNeg)) mA 19 (M.1 263 x1.toNatClampNeg) from (e_M13_0.trans (if_pos h51_13))] at j91_13; exact j91_13)
        refine r_return e_X11_doCommand_91 rfl ⟨rfl, rfl⟩ ?_
        (subst e_M13_0; refine ⟨?_, rfl, ?_⟩ <;> ((try unfold U_X11_doCommand); (try simp only [if_neg h25_0, if_neg h29_1, if_pos h40_2]); (try rfl)))
    · refine r_iload_n e_X11_doCommand_32 rfl ?_
      refine r_if_ne e_X11_doCommand_33 (fun h33_14 => ?_) (fun h33_14 => ?_)
      · refine r_iload e_X11_doCommand_37 rfl ?_
        refine r_iconst e_X11_doCommand_39 ic_2 ?_
        refine r_icmp_ne e_X11_doCommand_40 (fun h40_15 => ?_) (fun h40_15 => ?_)
        · refine r_aload_n e_X11_doCommand_92 rfl ?_
          refine r_iload_n e_X11_doCommand_93 rfl ?_
          refine r_iconst e_X11_doCommand_94 ic_0 ?_
          refine cV2v e_X11_doCommand_95 cl_X11_252 ⟨Nat.le_of_ble_eq_true rfl, Nat.le_of_ble_eq_true rfl⟩ ⟨rfl, rfl⟩ k0 (Nat.le_of_ble_eq_true rfl) (S_X11_of hb1 (g13 h25_0 h29_1 h33_14 h40_15)) ?_
          refine r_iload_n e_X11_doCommand_98 rfl ?_
          refine r_iadd e_X11_doCommand_99 ?_
          refine p_istore_8_5 e_X11_doCommand_100 rfl rfl ?_
          refine r_aload_n e_X11_doCommand_102 rfl ?_
          refine r_iload_n e_X11_doCommand_103 rfl ?_
          refine r_iconst e_X11_doCommand_104 ic_1 ?_
          refine cV2v e_X11_doCommand_105 cl_X11_252 ⟨Nat.le_of_ble_eq_true rfl, Nat.le_of_ble_eq_true rfl⟩ ⟨rfl, rfl⟩ k0 (Nat.le_of_ble_eq_true rfl) (S_X11_of hb1 (g14 h25_0 h29_1 h33_14 h40_15)) ?_
          refine r_iload_n e_X11_doCommand_108 rfl ?_
          refine r_iadd e_X11_doCommand_109 ?_
          refine p_istore_8_6 e_X11_doCommand_110 rfl rfl ?_
          refine r_iload e_X11_doCommand_112 rfl ?_
          refine r_iconst e_X11_doCommand_114 ic_0 ?_
          refine r_bipush e_X11_doCommand_115 bp_14 ?_
          refine cS3v e_X11_doCommand_117 cl_X11_245 ⟨Nat.le_of_ble_eq_true rfl, Nat.le_of_ble_eq_true rfl⟩ ⟨rfl, rfl⟩  (Nat.le_of_ble_eq_true rfl) (S_X11_in ) ?_
          refine r_if_eq e_X11_doCommand_120 (fun h120_16 => ?_) (fun h120_16 => ?_)
          · refine r_return e_X11_doCommand_134 rfl ⟨rfl, rfl⟩ ?_
            (refine ⟨?_, rfl, ?_⟩ <;> ((try unfold U_X11_doCommand); (try simp only [if_neg h25_0, if_pos h29_1, if_neg h33_14, if_neg h40_15, if_pos h120_16]); (try rfl)))
          · refine r_iload e_X11_doCommand_123 rfl ?_
            refine r_iconst e_X11_doCommand_125 ic_0 ?_
            refine r_bipush e_X11_doCommand_126 bp_8 ?_
            refine cS3v e_X11_doCommand_128 cl_X11_245 ⟨Nat.le_of_ble_eq_true rfl, Nat.le_of_ble_eq_true rfl⟩ ⟨rfl, rfl⟩  (Nat.le_of_ble_eq_true rfl) (S_X11_in ) ?_
            refine r_if_ne e_X11_doCommand_131 (fun h131_17 => ?_) (fun h131_17 => ?_)
            · refine r_aload_n e_X11_doCommand_135 rfl ?_
              refine r_iload e_X11_doCommand_136 rfl ?_
              refine r_iload e_X11_doCommand_138 rfl ?_
              refine r_iconst e_X11_doCommand_140 ic_m1 ?_
              refine cV3v e_X11_doCommand_141 cl_X11_270 ⟨Nat.le_of_ble_eq_true rfl, Nat.le_of_ble_eq_true rfl⟩ ⟨rfl, rfl⟩ k0 (Nat.le_of_ble_eq_true rfl) (S_X11_robotAt hb1 (g15 h25_0 h29_1 h33_14 h40_15 h120_16 h131_17)) ?_
              refine p_istore_8_7 e_X11_doCommand_144 rfl rfl ?_
              refine r_iload e_X11_doCommand_146 rfl ?_
              refine r_if_lt e_X11_doCommand_148 (fun h148_18 => ?_) (fun h148_18 => ?_)
              · refine r_aload_n e_X11_doCommand_208 rfl ?_
                refine r_iload_n e_X11_doCommand_209 rfl ?_
                refine r_iconst e_X11_doCommand_210 ic_0 ?_
                refine r_iload e_X11_doCommand_211 rfl ?_
                refine cV3u e_X11_doCommand_213 cl_X11_282 ⟨Nat.le_of_ble_eq_true rfl, Nat.le_of_ble_eq_true rfl⟩ ⟨rfl, rfl⟩ k0 (Nat.le_of_ble_eq_true rfl) (S_X11_set hb1 (g16 h25_0 h29_1 h33_14 h40_15 h120_16 h131_17 h148_18)) ?_
                refine r_aload_n e_X11_doCommand_216 rfl ?_
                refine r_iload_n e_X11_doCommand_217 rfl ?_
                refine r_iconst e_X11_doCommand_218 ic_1 ?_
                refine r_iload e_X11_doCommand_219 rfl ?_
                refine cV3u e_X11_doCommand_221 cl_X11_282 ⟨Nat.le_of_ble_eq_true rfl, Nat.le_of_ble_eq_true rfl⟩ ⟨rfl, rfl⟩ k0 (Nat.le_of_ble_eq_true rfl) (S_X11_set hb1 (g17 h25_0 h29_1 h33_14 h40_15 h120_16 h131_17 h148_18)) ?_
                obtain ⟨Mc2, e_Mc2⟩ : ∃ z : Mem, z = (U_X11_set x1 (1 : Int32) ((V_X11_of x1 (1 : Int32) mA M) + (M.1 263 x1.toNatClampNeg)) mA (U_X11_set x1 (0 : Int32) ((V_X11_of x1 (0 : Int32) mA M) + (M.1 262 x1.toNatClampNeg)) mA M)) := ⟨_, rfl⟩
                rw [← e_Mc2]
                refine r_aload_n e_X11_doCommand_224 rfl ?_
                refine r_getR e_X11_doCommand_225 fl_X11_212 k0 k5 ?_
                refine r_bipush e_X11_doCommand_228 bp_16 ?_
                refine r_ialoade (v := (Mc2.1 mA 16)) e_X11_doCommand_230 k6 (by unfold vp_in; decide) (show Mc2.1 mA (16 : Int32).toNatClampNeg = Mc2.1 mA 16 by rw [show (16 : Int32).toNatClampNeg = 16 from rfl]) ?_
                refine r_iload_n e_X11_doCommand_231 rfl ?_
                obtain ⟨M19_0, e_M19_0⟩ : ∃ z : Mem, z = (if (Mc2.1 mA 16) = x1 then (setI (setI Mc2 mA 14 ((V_X11_of x1 (0 : Int32) mA M) + (M.1 262 x1.toNatClampNeg))) mA 15 ((V_X11_of x1 (1 : Int32) mA M) + (M.1 263 x1.toNatClampNeg))) else (if 0 ≤ (Mc2.1 mA 16) then Mc2 else (if (Mc2.1 mA 14) = ((V_X11_of x1 (0 : Int32) mA M) + (M.1 262 x1.toNatClampNeg)) then (if (Mc2.1 mA 15) = ((V_X11_of x1 (1 : Int32) mA M) + (M.1 263 x1.toNatClampNeg)) then (U_X11_hold x1 mA Mc2) else Mc2) else Mc2))) := ⟨_, rfl⟩
                suffices j295_19 : WP m_X11_doCommand (fun r sh' M'' => r = none ∧ sh' = sh ∧ M'' = (U_X11_doCommand x1 mA M)) 295 [some (.ref 242), some (.int x1), some (.int (M.1 262 x1.toNatClampNeg)), some (.int (M.1 263 x1.toNatClampNeg)), some (.int (V_X11_of x1 (10 : Int32) mA M)), some (.int ((V_X11_of x1 (0 : Int32) mA M) + (M.1 262 x1.toNatClampNeg))), some (.int ((V_X11_of x1 (1 : Int32) mA M) + (M.1 263 x1.toNatClampNeg))), some (.int (V_X11_robotAt ((V_X11_of x1 (0 : Int32) mA M) + (M.1 262 x1.toNatClampNeg)) ((V_X11_of x1 (1 : Int32) mA M) + (M.1 263 x1.toNatClampNeg)) (-1 : Int32) mA M))] [] sh M19_0 0 0 by
                  refine r_icmp_ne e_X11_doCommand_232 (fun h232_19 => ?_) (fun h232_19 => ?_)
                  · refine r_aload_n e_X11_doCommand_256 rfl ?_
                    refine r_getR e_X11_doCommand_257 fl_X11_212 k0 k5 ?_
                    refine r_bipush e_X11_doCommand_260 bp_16 ?_
                    refine r_ialoade (v := (Mc2.1 mA 16)) e_X11_doCommand_262 k6 (by unfold vp_in; decide) (show Mc2.1 mA (16 : Int32).toNatClampNeg = Mc2.1 mA 16 by rw [show (16 : Int32).toNatClampNeg = 16 from rfl]) ?_
                    refine r_if_ge e_X11_doCommand_263 (fun h263_20 => ?_) (fun h263_20 => ?_)
                    · (rw [show M19_0 = Mc2 from ((e_M19_0.trans (if_neg h232_19)).trans (if_pos h263_20))] at j295_19; exact j295_19)
                    · refine r_aload_n e_X11_doCommand_266 rfl ?_
                      refine r_getR e_X11_doCommand_267 fl_X11_212 k0 k5 ?_
                      refine r_bipush e_X11_doCommand_270 bp_14 ?_
                      refine r_ialoade (v := (Mc2.1 mA 14)) e_X11_doCommand_272 k6 (by unfold vp_in; decide) (show Mc2.1 mA (14 : Int32).toNatClampNeg = Mc2.1 mA 14 by rw [show (14 : Int32).toNatClampNeg = 14 from rfl]) ?_
                      refine r_iload e_X11_doCommand_273 rfl ?_
                      refine r_icmp_ne e_X11_doCommand_275 (fun h275_21 => ?_) (fun h275_21 => ?_)
                      · (rw [show M19_0 = Mc2 from (((e_M19_0.trans (if_neg h232_19)).trans (if_neg h263_20)).trans (if_neg h275_21))] at j295_19; exact j295_19)
                      · refine r_aload_n e_X11_doCommand_278 rfl ?_
                        refine r_getR e_X11_doCommand_279 fl_X11_212 k0 k5 ?_
                        refine r_bipush e_X11_doCommand_282 bp_15 ?_
                        refine r_ialoade (v := (Mc2.1 mA 15)) e_X11_doCommand_284 k6 (by unfold vp_in; decide) (show Mc2.1 mA (15 : Int32).toNatClampNeg = Mc2.1 mA 15 by rw [show (15 : Int32).toNatClampNeg = 15 from rfl]) ?_
                        refine r_iload e_X11_doCommand_285 rfl ?_
                        refine r_icmp_ne e_X11_doCommand_287 (fun h287_22 => ?_) (fun h287_22 => ?_)
                        · (rw [show M19_0 = Mc2 from ((((e_M19_0.trans (if_neg h232_19)).trans (if_neg h263_20)).trans (if_pos h275_21)).trans (if_neg h287_22))] at j295_19; exact j295_19)
                        · refine r_aload_n e_X11_doCommand_290 rfl ?_
                          refine r_iload_n e_X11_doCommand_291 rfl ?_
                          refine cV1u e_X11_doCommand_292 cl_X11_367 ⟨Nat.le_of_ble_eq_true rfl, Nat.le_of_ble_eq_true rfl⟩ ⟨rfl, rfl⟩ k0 (Nat.le_of_ble_eq_true rfl) (S_X11_hold hb1 (by subst e_Mc2; exact g18 h25_0 h29_1 h33_14 h40_15 h120_16 h131_17 h148_18 h232_19 h263_20 h275_21 h287_22) (by subst e_Mc2; exact g19 h25_0 h29_1 h33_14 h40_15 h120_16 h131_17 h148_18 h232_19 h263_20 h275_21 h287_22)) ?_
                          (rw [show M19_0 = U_X11_hold x1 mA Mc2 from ((((e_M19_0.trans (if_neg h232_19)).trans (if_neg h263_20)).trans (if_pos h275_21)).trans (if_pos h287_22))] at j295_19; exact j295_19)
                  · refine r_aload_n e_X11_doCommand_235 rfl ?_
                    refine r_getR e_X11_doCommand_236 fl_X11_212 k0 k5 ?_
                    refine r_bipush e_X11_doCommand_239 bp_14 ?_
                    refine r_iload e_X11_doCommand_241 rfl ?_
                    refine r_iastore e_X11_doCommand_243 k6 (by unfold vp_in; decide) ?_
                    rw [show (14 : Int32).toNatClampNeg = 14 from rfl]
                    refine r_aload_n e_X11_doCommand_244 rfl ?_
                    refine r_getR e_X11_doCommand_245 fl_X11_212 k0 k5 ?_
                    refine r_bipush e_X11_doCommand_248 bp_15 ?_
                    refine r_iload e_X11_doCommand_250 rfl ?_
                    refine r_iastore e_X11_doCommand_252 k6 (by unfold vp_in; decide) ?_
                    rw [show (15 : Int32).toNatClampNeg = 15 from rfl]
                    refine r_goto e_X11_doCommand_253 ?_
                    (rw [show M19_0 = setI (setI Mc2 mA 14 ((V_X11_of x1 (0 : Int32) mA M) + (M.1 262 x1.toNatClampNeg))) mA 15 ((V_X11_of x1 (1 : Int32) mA M) + (M.1 263 x1.toNatClampNeg)) from (e_M19_0.trans (if_pos h232_19))] at j295_19; exact j295_19)
                refine r_return e_X11_doCommand_295 rfl ⟨rfl, rfl⟩ ?_
                (subst e_M19_0 e_Mc2; refine ⟨?_, rfl, ?_⟩ <;> ((try unfold U_X11_doCommand); (try simp only [if_neg h25_0, if_pos h29_1, if_neg h33_14, if_neg h40_15, if_neg h120_16, if_neg h131_17, if_pos h148_18]); (try rfl)))
              · refine r_aload_n e_X11_doCommand_151 rfl ?_
                refine r_getR e_X11_doCommand_152 fl_X11_212 k0 k5 ?_
                refine r_bipush e_X11_doCommand_155 bp_16 ?_
                refine r_ialoade (v := (M.1 mA 16)) e_X11_doCommand_157 k6 (by unfold vp_in; decide) (show M.1 mA (16 : Int32).toNatClampNeg = M.1 mA 16 by rw [show (16 : Int32).toNatClampNeg = 16 from rfl]) ?_
                refine r_iload e_X11_doCommand_158 rfl ?_
                obtain ⟨M23_0, e_M23_0⟩ : ∃ z : Mem, z = (if (M.1 mA 16) = (V_X11_robotAt ((V_X11_of x1 (0 : Int32) mA M) + (M.1 262 x1.toNatClampNeg)) ((V_X11_of x1 (1 : Int32) mA M) + (M.1 263 x1.toNatClampNeg)) (-1 : Int32) mA M) then (if ((V_X11_robotAt ((V_X11_of x1 (0 : Int32) mA M) + (M.1 262 x1.toNatClampNeg)) ((V_X11_of x1 (1 : Int32) mA M) + (M.1 263 x1.toNatClampNeg)) (-1 : Int32) mA M) / (5 : Int32)) = (x1 / (5 : Int32)) then M else (if ((M.1 mA 3) - (M.1 mA 20)) < (2 : Int32) then M else (setI (U_X11_hold x1 mA M) mA 10 (((U_X11_hold x1 mA M).1 mA 10) + (1 : Int32))))) else M) := ⟨_, rfl⟩
                suffices j207_23 : WP m_X11_doCommand (fun r sh' M'' => r = none ∧ sh' = sh ∧ M'' = (U_X11_doCommand x1 mA M)) 207 [some (.ref 242), some (.int x1), some (.int (M.1 262 x1.toNatClampNeg)), some (.int (M.1 263 x1.toNatClampNeg)), some (.int (V_X11_of x1 (10 : Int32) mA M)), some (.int ((V_X11_of x1 (0 : Int32) mA M) + (M.1 262 x1.toNatClampNeg))), some (.int ((V_X11_of x1 (1 : Int32) mA M) + (M.1 263 x1.toNatClampNeg))), some (.int (V_X11_robotAt ((V_X11_of x1 (0 : Int32) mA M) + (M.1 262 x1.toNatClampNeg)) ((V_X11_of x1 (1 : Int32) mA M) + (M.1 263 x1.toNatClampNeg)) (-1 : Int32) mA M))] [] sh M23_0 0 0 by
                  refine r_icmp_ne e_X11_doCommand_160 (fun h160_23 => ?_) (fun h160_23 => ?_)
                  · (rw [show M23_0 = M from (e_M23_0.trans (if_neg h160_23))] at j207_23; exact j207_23)
                  · refine r_iload e_X11_doCommand_163 rfl ?_
                    refine r_iconst e_X11_doCommand_165 ic_5 ?_
                    refine r_idiv e_X11_doCommand_166 (by decide) ?_
                    refine r_iload_n e_X11_doCommand_167 rfl ?_
                    refine r_iconst e_X11_doCommand_168 ic_5 ?_
                    refine r_idiv e_X11_doCommand_169 (by decide) ?_
                    refine r_icmp_eq e_X11_doCommand_170 (fun h170_24 => ?_) (fun h170_24 => ?_)
                    · (rw [show M23_0 = M from ((e_M23_0.trans (if_pos h160_23)).trans (if_pos h170_24))] at j207_23; exact j207_23)
                    · refine r_aload_n e_X11_doCommand_173 rfl ?_
                      refine r_getR e_X11_doCommand_174 fl_X11_212 k0 k5 ?_
                      refine r_iconst e_X11_doCommand_177 ic_3 ?_
                      refine r_ialoade (v := (M.1 mA 3)) e_X11_doCommand_178 k6 (by unfold vp_in; decide) (show M.1 mA (3 : Int32).toNatClampNeg = M.1 mA 3 by rw [show (3 : Int32).toNatClampNeg = 3 from rfl]) ?_
                      refine r_aload_n e_X11_doCommand_179 rfl ?_
                      refine r_getR e_X11_doCommand_180 fl_X11_212 k0 k5 ?_
                      refine r_bipush e_X11_doCommand_183 bp_20 ?_
                      refine r_ialoade (v := (M.1 mA 20)) e_X11_doCommand_185 k6 (by unfold vp_in; decide) (show M.1 mA (20 : Int32).toNatClampNeg = M.1 mA 20 by rw [show (20 : Int32).toNatClampNeg = 20 from rfl]) ?_
                      refine r_isub e_X11_doCommand_186 ?_
                      refine r_iconst e_X11_doCommand_187 ic_2 ?_
                      refine r_icmp_lt e_X11_doCommand_188 (fun h188_25 => ?_) (fun h188_25 => ?_)
                      · (rw [show M23_0 = M from (((e_M23_0.trans (if_pos h160_23)).trans (if_neg h170_24)).trans (if_pos h188_25))] at j207_23; exact j207_23)
                      · refine r_aload_n e_X11_doCommand_191 rfl ?_
                        refine r_iload_n e_X11_doCommand_192 rfl ?_
                        refine cV1u e_X11_doCommand_193 cl_X11_367 ⟨Nat.le_of_ble_eq_true rfl, Nat.le_of_ble_eq_true rfl⟩ ⟨rfl, rfl⟩ k0 (Nat.le_of_ble_eq_true rfl) (S_X11_hold hb1 (g20 h25_0 h29_1 h33_14 h40_15 h120_16 h131_17 h148_18 h160_23 h170_24 h188_25) (g21 h25_0 h29_1 h33_14 h40_15 h120_16 h131_17 h148_18 h160_23 h170_24 h188_25)) ?_
                        refine r_aload_n e_X11_doCommand_196 rfl ?_
                        refine r_getR e_X11_doCommand_197 fl_X11_212 k0 k5 ?_
                        refine r_bipush e_X11_doCommand_200 bp_10 ?_
                        refine r_dup2 e_X11_doCommand_202 rfl rfl ?_
                        refine r_ialoade (v := ((U_X11_hold x1 mA M).1 mA 10)) e_X11_doCommand_203 k6 (by unfold vp_in; decide) (show (U_X11_hold x1 mA M).1 mA (10 : Int32).toNatClampNeg = (U_X11_hold x1 mA M).1 mA 10 by rw [show (10 : Int32).toNatClampNeg = 10 from rfl]) ?_
                        refine r_iconst e_X11_doCommand_204 ic_1 ?_
                        refine r_iadd e_X11_doCommand_205 ?_
                        refine r_iastore e_X11_doCommand_206 k6 (by unfold vp_in; decide) ?_
                        rw [show (10 : Int32).toNatClampNeg = 10 from rfl]
                        (rw [show M23_0 = setI (U_X11_hold x1 mA M) mA 10 (((U_X11_hold x1 mA M).1 mA 10) + (1 : Int32)) from (((e_M23_0.trans (if_pos h160_23)).trans (if_neg h170_24)).trans (if_neg h188_25))] at j207_23; exact j207_23)
                refine r_return e_X11_doCommand_207 rfl ⟨rfl, rfl⟩ ?_
                (subst e_M23_0; refine ⟨?_, rfl, ?_⟩ <;> ((try unfold U_X11_doCommand); (try simp only [if_neg h25_0, if_pos h29_1, if_neg h33_14, if_neg h40_15, if_neg h120_16, if_neg h131_17, if_neg h148_18]); (try rfl)))
            · refine r_return e_X11_doCommand_134 rfl ⟨rfl, rfl⟩ ?_
              (refine ⟨?_, rfl, ?_⟩ <;> ((try unfold U_X11_doCommand); (try simp only [if_neg h25_0, if_pos h29_1, if_neg h33_14, if_neg h40_15, if_neg h120_16, if_pos h131_17]); (try rfl)))
        · refine r_aload_n e_X11_doCommand_43 rfl ?_
          refine r_getR e_X11_doCommand_44 fl_X11_212 k0 k5 ?_
          refine r_bipush e_X11_doCommand_47 bp_16 ?_
          refine r_ialoade (v := (M.1 mA 16)) e_X11_doCommand_49 k6 (by unfold vp_in; decide) (show M.1 mA (16 : Int32).toNatClampNeg = M.1 mA 16 by rw [show (16 : Int32).toNatClampNeg = 16 from rfl]) ?_
          refine r_iload_n e_X11_doCommand_50 rfl ?_
          obtain ⟨M26_0, e_M26_0⟩ : ∃ z : Mem, z = (if (M.1 mA 16) = x1 then (setI (setI (setI (setI M mA 16 (-1 : Int32)) mA 17 (M.1 264 x1.toNatClampNeg)) mA 18 (M.1 262 x1.toNatClampNeg)) mA 19 (M.1 263 x1.toNatClampNeg)) else M) := ⟨_, rfl⟩
          suffices j91_26 : WP m_X11_doCommand (fun r sh' M'' => r = none ∧ sh' = sh ∧ M'' = (U_X11_doCommand x1 mA M)) 91 [some (.ref 242), some (.int x1), some (.int (M.1 262 x1.toNatClampNeg)), some (.int (M.1 263 x1.toNatClampNeg)), some (.int (V_X11_of x1 (10 : Int32) mA M)), none, none, none] [] sh M26_0 0 0 by
            refine r_icmp_ne e_X11_doCommand_51 (fun h51_26 => ?_) (fun h51_26 => ?_)
            · (rw [show M26_0 = M from (e_M26_0.trans (if_neg h51_26))] at j91_26; exact j91_26)
            · refine r_aload_n e_X11_doCommand_54 rfl ?_
              refine r_getR e_X11_doCommand_55 fl_X11_212 k0 k5 ?_
              refine r_bipush e_X11_doCommand_58 bp_16 ?_
              refine r_iconst e_X11_doCommand_60 ic_m1 ?_
              refine r_iastore e_X11_doCommand_61 k6 (by unfold vp_in; decide) ?_
              rw [show (16 : Int32).toNatClampNeg = 16 from rfl]
              refine r_aload_n e_X11_doCommand_62 rfl ?_
              refine r_getR e_X11_doCommand_63 fl_X11_212 k0 k5 ?_
              refine r_bipush e_X11_doCommand_66 bp_17 ?_
              refine r_aload_n e_X11_doCommand_68 rfl ?_
              refine r_getR e_X11_doCommand_69 fl_X11_230 k0 k7 ?_
              refine r_iload_n e_X11_doCommand_72 rfl ?_
              refine r_ialoade (v := (M.1 264 x1.toNatClampNeg)) e_X11_doCommand_73 k8 (g22 h25_0 h29_1 h33_14 h40_15 h51_26) (gs_aI (ne_kd k8 k6 (by decide))) ?_
              refine r_iastore e_X11_doCommand_74 k6 (by unfold vp_in; decide) ?_
              rw [show (17 : Int32).toNatClampNeg = 17 from rfl]
              refine r_aload_n e_X11_doCommand_75 rfl ?_
              refine r_getR e_X11_doCommand_76 fl_X11_212 k0 k5 ?_
              refine r_bipush e_X11_doCommand_79 bp_18 ?_
              refine r_iload_n e_X11_doCommand_81 rfl ?_
              refine r_iastore e_X11_doCommand_82 k6 (by unfold vp_in; decide) ?_
              rw [show (18 : Int32).toNatClampNeg = 18 from rfl]
              refine r_aload_n e_X11_doCommand_83 rfl ?_
              refine r_getR e_X11_doCommand_84 fl_X11_212 k0 k5 ?_
              refine r_bipush e_X11_doCommand_87 bp_19 ?_
              refine r_iload_n e_X11_doCommand_89 rfl ?_
              refine r_iastore e_X11_doCommand_90 k6 (by unfold vp_in; decide) ?_
              rw [show (19 : Int32).toNatClampNeg = 19 from rfl]
              (rw [show M26_0 = setI (setI (setI (setI M mA 16 (-1 : Int32)) mA 17 (M.1 264 x1.toNatClampNeg)) mA 18 (M.1 262 x1.toNatClampNeg)) mA 19 (M.1 263 x1.toNatClampNeg) from (e_M26_0.trans (if_pos h51_26))] at j91_26; exact j91_26)
          refine r_return e_X11_doCommand_91 rfl ⟨rfl, rfl⟩ ?_
          (subst e_M26_0; refine ⟨?_, rfl, ?_⟩ <;> ((try unfold U_X11_doCommand); (try simp only [if_neg h25_0, if_pos h29_1, if_neg h33_14, if_pos h40_15]); (try rfl)))
      · refine r_return e_X11_doCommand_36 rfl ⟨rfl, rfl⟩ ?_
        (refine ⟨?_, rfl, ?_⟩ <;> ((try unfold U_X11_doCommand); (try simp only [if_neg h25_0, if_pos h29_1, if_pos h33_14]); (try rfl)))
