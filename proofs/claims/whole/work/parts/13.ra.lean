def R_X4_append (a : Nat) (x1 : Int32) (M : Mem) : Option (Mem) := bnd1 (if (800 : Int32) ≤ (M.1 a 5) then (some M) else (ck (M.1 a 5) 800 (some (setI (setI M (a + 1) (M.1 a 5).toNatClampNeg x1) a 5 ((M.1 a 5) + (1 : Int32)))))) (fun M3 => some M3)
theorem S_X4_append {sh : List SC} {M : Mem} {a : Nat} {x1 : Int32}  {M' : Mem} (hb1 : ReaderAt sh a)  (h : R_X4_append a x1 M = some M') : Gu m_X4_append [.ref a, .int x1] sh M M' := by
  refine Sp.of (ls := [some (.ref a), some (.int x1)]) (by decide +kernel) (Nat.le_of_ble_eq_true rfl) rfl ?_
  have k0 : kd sh a = some (4 + 7, 0) := hb1.1
  have k1 : rf sh a 0 = some (a + 1) := hb1.2.1
  have k2 : kd sh (a + 1) = some (0, 800) := hb1.2.2.2.2.2.2.1
  unfold R_X4_append at h
  refine r_aload_n e_X4_append_0 rfl ?_
  refine r_getI e_X4_append_1 fl_X4_30 i0 k0 ?_
  refine r_aload_n e_X4_append_4 rfl ?_
  refine r_getR e_X4_append_5 fl_X4_9 k0 k1 ?_
  refine r_alen (v := (800 : Int32)) e_X4_append_8 k2 (by decide) rfl ?_
  obtain ⟨K3, hK3, h⟩ := bnd1_in h
  suffices j3 : ∀ M3, K3 M3 = some M' → WP m_X4_append _ 32 [none, none] [] sh M3 0 0 by
    refine r_icmp_ge e_X4_append_9 (fun c1 => ?_) (fun c1 => ?_)
    · rw [if_pos c1] at h
      refine d_2_0 ?_
      refine d_2_1 ?_
      exact j3 _ h
    · rw [if_neg c1] at h
      refine r_aload_n e_X4_append_12 rfl ?_
      refine r_getR e_X4_append_13 fl_X4_9 k0 k1 ?_
      refine r_aload_n e_X4_append_16 rfl ?_
      refine r_getI e_X4_append_17 fl_X4_30 i0 k0 ?_
      refine r_iload_n e_X4_append_20 rfl ?_
      obtain ⟨b4, h⟩ := ck_elK h
      refine r_iastore e_X4_append_21 k2 b4 ?_
      refine r_aload_n e_X4_append_22 rfl ?_
      refine r_dup e_X4_append_23 rfl ?_
      refine r_getIe e_X4_append_24 fl_X4_30 i0 k0 (gs_aI (by omega)) ?_
      refine r_iconst e_X4_append_27 ic_1 ?_
      refine r_iadd e_X4_append_28 ?_
      refine r_putI e_X4_append_29 fl_X4_30 k0 ?_
      refine d_2_0 ?_
      refine d_2_1 ?_
      exact j3 _ h
  intro M3 h
  rw [hK3] at h
  refine r_return e_X4_append_32 rfl ⟨rfl, rfl⟩ ?_
  obtain rfl := Option.some.inj h; exact ⟨rfl, rfl, rfl⟩
def R_X4_addWord (a : Nat) (x1 : Int32) (x2 : Int64) (x3 : Int32) (M : Mem) : Option (Mem) := bnd1 (if (801 : Int32) ≤ (M.1 a 6) then (some M) else (ck (M.1 a 6) 801 (ck (M.1 a 6) 801 (ck (M.1 a 6) 801 (some (setI (setI (setJ (setI M (a + 3) (M.1 a 6).toNatClampNeg x1) (a + 4) (M.1 a 6).toNatClampNeg x2) (a + 5) (M.1 a 6).toNatClampNeg x3) a 6 ((M.1 a 6) + (1 : Int32)))))))) (fun M3 => some M3)
theorem S_X4_addWord {sh : List SC} {M : Mem} {a : Nat} {x1 : Int32} {x2 : Int64} {x3 : Int32}  {M' : Mem} (hb1 : ReaderAt sh a)  (h : R_X4_addWord a x1 x2 x3 M = some M') : Gu m_X4_addWord [.ref a, .int x1, .long x2, .int x3] sh M M' := by
  refine Sp.of (ls := [some (.ref a), some (.int x1), some (.long x2), none, some (.int x3)]) (by decide +kernel) (Nat.le_of_ble_eq_true rfl) rfl ?_
  have k0 : kd sh a = some (4 + 7, 0) := hb1.1
  have k1 : rf sh a 2 = some (a + 3) := hb1.2.2.2.1
  have k2 : kd sh (a + 3) = some (0, 801) := hb1.2.2.2.2.2.2.2.2.1
  have k3 : rf sh a 3 = some (a + 4) := hb1.2.2.2.2.1
  have k4 : kd sh (a + 4) = some (1, 801) := hb1.2.2.2.2.2.2.2.2.2.1
  have k5 : rf sh a 4 = some (a + 5) := hb1.2.2.2.2.2.1
  have k6 : kd sh (a + 5) = some (0, 801) := hb1.2.2.2.2.2.2.2.2.2.2
  unfold R_X4_addWord at h
  refine r_aload_n e_X4_addWord_0 rfl ?_
  refine r_getI e_X4_addWord_1 fl_X4_34 i0 k0 ?_
  refine r_aload_n e_X4_addWord_4 rfl ?_
  refine r_getR e_X4_addWord_5 fl_X4_21 k0 k1 ?_
  refine r_alen (v := (801 : Int32)) e_X4_addWord_8 k2 (by decide) rfl ?_
  obtain ⟨K3, hK3, h⟩ := bnd1_in h
  suffices j3 : ∀ M3, K3 M3 = some M' → WP m_X4_addWord _ 53 [none, none, none, none, none] [] sh M3 0 0 by
    refine r_icmp_ge e_X4_addWord_9 (fun c1 => ?_) (fun c1 => ?_)
    · rw [if_pos c1] at h
      refine d_5_0 ?_
      refine d_5_1 ?_
      refine d_5_2 ?_
      refine d_5_4 ?_
      exact j3 _ h
    · rw [if_neg c1] at h
      refine r_aload_n e_X4_addWord_12 rfl ?_
      refine r_getR e_X4_addWord_13 fl_X4_21 k0 k1 ?_
      refine r_aload_n e_X4_addWord_16 rfl ?_
      refine r_getI e_X4_addWord_17 fl_X4_34 i0 k0 ?_
      refine r_iload_n e_X4_addWord_20 rfl ?_
      obtain ⟨b4, h⟩ := ck_elK h
      refine r_iastore e_X4_addWord_21 k2 b4 ?_
      refine r_aload_n e_X4_addWord_22 rfl ?_
      refine r_getR e_X4_addWord_23 fl_X4_24 k0 k3 ?_
      refine r_aload_n e_X4_addWord_26 rfl ?_
      refine r_getIe e_X4_addWord_27 fl_X4_34 i0 k0 (gs_aI (by omega)) ?_
      refine r_lload_n e_X4_addWord_30 rfl ?_
      obtain ⟨b5, h⟩ := ck_elK h
      refine r_lastore e_X4_addWord_31 k4 b5 ?_
      refine r_aload_n e_X4_addWord_32 rfl ?_
      refine r_getR e_X4_addWord_33 fl_X4_27 k0 k5 ?_
      refine r_aload_n e_X4_addWord_36 rfl ?_
      refine r_getIe e_X4_addWord_37 fl_X4_34 i0 k0 (gs_k.trans (gs_aI (by omega))) ?_
      refine r_iload e_X4_addWord_40 rfl ?_
      obtain ⟨b6, h⟩ := ck_elK h
      refine r_iastore e_X4_addWord_42 k6 b6 ?_
      refine r_aload_n e_X4_addWord_43 rfl ?_
      refine r_dup e_X4_addWord_44 rfl ?_
      refine r_getIe e_X4_addWord_45 fl_X4_34 i0 k0 ((gs_aI (by omega)).trans (gs_k.trans (gs_aI (by omega)))) ?_
      refine r_iconst e_X4_addWord_48 ic_1 ?_
      refine r_iadd e_X4_addWord_49 ?_
      refine r_putI e_X4_addWord_50 fl_X4_34 k0 ?_
      refine d_5_0 ?_
      refine d_5_1 ?_
      refine d_5_2 ?_
      refine d_5_4 ?_
      exact j3 _ h
  intro M3 h
  rw [hK3] at h
  refine r_return e_X4_addWord_53 rfl ⟨rfl, rfl⟩ ?_
  obtain rfl := Option.some.inj h; exact ⟨rfl, rfl, rfl⟩
def L_X4_splitNumber_4 (a : Nat) (x1 : Int32) : Nat → Int32 → Int32 → Mem → Option (Int32 × Int32)
  | 0, _, _, _ => none
  | n + 1, u2, u3, M => if (M.1 a 5) ≤ u3 then (some (u2, u3)) else (if (V_X4_isFigure (V_X10_at (a + 1) u3 800 M) M) = 0 then (some (u2, u3)) else (bd1 (if (((u2 * (10 : Int32)) + (V_X10_at (a + 1) u3 800 M)) - (48 : Int32)) < (1000 : Int32) then (((u2 * (10 : Int32)) + (V_X10_at (a + 1) u3 800 M)) - (48 : Int32)) else (1000 : Int32)) (fun v3 => L_X4_splitNumber_4 a x1 n v3 (u3 + 1) M)))
theorem LW_X4_splitNumber_4 {sh : List SC} {Q : Po} {a : Nat} {x1 : Int32}   (hb1 : ReaderAt sh a)  : ∀ (n : Nat) (u2 : Int32) (u3 : Int32) (M : Mem) (z2 : Int32) (z3 : Int32), L_X4_splitNumber_4 a x1 n u2 u3 M = some (z2, z3) → WP m_X4_splitNumber Q 55 [some (.ref a), some (.int x1), some (.int z2), some (.int z3)] [] sh M 0 0 → WP m_X4_splitNumber Q 4 [some (.ref a), some (.int x1), some (.int u2), some (.int u3)] [] sh M 0 0 := by
  intro n
  induction n with
  | zero =>
    intro u2 u3 M z2 z3 h hE
    rw [L_X4_splitNumber_4] at h
    cases h
  | succ n ih =>
    intro u2 u3 M z2 z3 h hE
    rw [L_X4_splitNumber_4] at h
    have k0 : kd sh a = some (4 + 7, 0) := hb1.1
    have k1 : rf sh a 0 = some (a + 1) := hb1.2.1
    have k2 : kd sh (a + 1) = some (0, 800) := hb1.2.2.2.2.2.2.1
    refine r_iload_n e_X4_splitNumber_4 rfl ?_
    refine r_aload_n e_X4_splitNumber_5 rfl ?_
    refine r_getI e_X4_splitNumber_6 fl_X4_30 i0 k0 ?_
    refine r_icmp_ge e_X4_splitNumber_9 (fun c1 => ?_) (fun c1 => ?_)
    · rw [if_pos c1] at h
      obtain ⟨rfl, rfl⟩ := ps2 h; exact hE
    · rw [if_neg c1] at h
      refine r_aload_n e_X4_splitNumber_12 rfl ?_
      refine r_getR e_X4_splitNumber_13 fl_X4_9 k0 k1 ?_
      refine r_iload_n e_X4_splitNumber_16 rfl ?_
      refine cSN2v e_X4_splitNumber_17 cl_X4_106 ⟨Nat.le_of_ble_eq_true rfl, Nat.le_of_ble_eq_true rfl⟩ ⟨rfl, rfl⟩  (Nat.le_of_ble_eq_true rfl) (S_X10_at k2 (by decide)) ?_
      refine cS1v e_X4_splitNumber_20 cl_X4_123 ⟨Nat.le_of_ble_eq_true rfl, Nat.le_of_ble_eq_true rfl⟩ ⟨rfl, rfl⟩  (Nat.le_of_ble_eq_true rfl) (S_X4_isFigure ) ?_
      refine r_if_eq e_X4_splitNumber_23 (fun c2 => ?_) (fun c2 => ?_)
      · rw [if_pos c2] at h
        obtain ⟨rfl, rfl⟩ := ps2 h; exact hE
      · rw [if_neg c2] at h
        refine r_sipush e_X4_splitNumber_26 sp_1000 ?_
        refine r_iload_n e_X4_splitNumber_29 rfl ?_
        refine r_bipush e_X4_splitNumber_30 bp_10 ?_
        refine r_imul e_X4_splitNumber_32 ?_
        refine r_aload_n e_X4_splitNumber_33 rfl ?_
        refine r_getR e_X4_splitNumber_34 fl_X4_9 k0 k1 ?_
        refine r_iload_n e_X4_splitNumber_37 rfl ?_
        refine cSN2v e_X4_splitNumber_38 cl_X4_106 ⟨Nat.le_of_ble_eq_true rfl, Nat.le_of_ble_eq_true rfl⟩ ⟨rfl, rfl⟩  (Nat.le_of_ble_eq_true rfl) (S_X10_at k2 (by decide)) ?_
        refine r_iadd e_X4_splitNumber_41 ?_
        refine r_bipush e_X4_splitNumber_42 bp_48 ?_
        refine r_isub e_X4_splitNumber_44 ?_
        refine r_mmin e_X4_splitNumber_45 cl_X4_144 ⟨Nat.le_of_ble_eq_true rfl, Nat.le_of_ble_eq_true rfl, Nat.zero_le _, Nat.zero_le _⟩ (Nat.le_of_ble_eq_true rfl) ?_
        obtain ⟨v3, e3, h⟩ := bd1_el h
        rw [e3]
        refine p_istore_n_4_2 e_X4_splitNumber_48 rfl rfl ?_
        refine p_iinc_4_3 e_X4_splitNumber_49 rfl ic_1 rfl ?_
        refine r_goto e_X4_splitNumber_52 ?_
        exact ih _ _ _ _ _ h hE
def R_X4_splitNumber (a : Nat) (x1 : Int32) (M : Mem) : Option (Int32 × Mem) := bnd2 (L_X4_splitNumber_4 a x1 FUEL (0 : Int32) x1 M) (fun v4_0 v4_1 => bd1 (if v4_0 ≤ (999 : Int32) then (25 : Int32) else (36 : Int32)) (fun v6_0 => bnd1 (R_X4_addWord a v6_0 v4_0.toInt64 x1 M) (fun M7 => some (v4_1, M7))))
theorem S_X4_splitNumber {sh : List SC} {M : Mem} {a : Nat} {x1 : Int32}  {v' : Int32} {M' : Mem} (hb1 : ReaderAt sh a)  (h : R_X4_splitNumber a x1 M = some (v', M')) : Gv m_X4_splitNumber [.ref a, .int x1] sh M (.int v') M' := by
  refine Sp.of (ls := [some (.ref a), some (.int x1), none, none]) (by decide +kernel) (Nat.le_of_ble_eq_true rfl) rfl ?_
  have k0 : kd sh a = some (4 + 7, 0) := hb1.1
  unfold R_X4_splitNumber at h
  refine r_iconst e_X4_splitNumber_0 ic_0 ?_
  refine p_istore_n_4_2 e_X4_splitNumber_1 rfl rfl ?_
  refine r_iload_n e_X4_splitNumber_2 rfl ?_
  refine p_istore_n_4_3 e_X4_splitNumber_3 rfl rfl ?_
  obtain ⟨v4_0, v4_1, w4, h⟩ := bnd2_el h
  refine LW_X4_splitNumber_4 hb1 _ _ _ _ _ _ w4 ?_
  refine r_aload_n e_X4_splitNumber_55 rfl ?_
  refine r_iload_n e_X4_splitNumber_56 rfl ?_
  refine r_sipush e_X4_splitNumber_57 sp_999 ?_
  obtain ⟨v6_0, q6, h⟩ := bd1_el h
  suffices j6 : WP m_X4_splitNumber _ 70 [none, some (.int x1), some (.int v4_0), some (.int v4_1)] [.int v6_0, .ref a] sh M 0 0 by
    refine r_icmp_le e_X4_splitNumber_60 (fun c5 => ?_) (fun c5 => ?_)
    · rw [if_pos c5] at q6
      refine r_bipush e_X4_splitNumber_68 bp_25 ?_
      refine d_4_0 ?_
      subst q6; exact j6
    · rw [if_neg c5] at q6
      refine r_bipush e_X4_splitNumber_63 bp_36 ?_
      refine r_goto e_X4_splitNumber_65 ?_
      refine d_4_0 ?_
      subst q6; exact j6
  refine r_iload_n e_X4_splitNumber_70 rfl ?_
  refine r_i2l e_X4_splitNumber_71 ?_
  refine r_iload_n e_X4_splitNumber_72 rfl ?_
  obtain ⟨M7, w7, h⟩ := bnd1_el h
  refine cV3u e_X4_splitNumber_73 cl_X4_136 ⟨Nat.le_of_ble_eq_true rfl, Nat.le_of_ble_eq_true rfl⟩ ⟨rfl, rfl⟩ k0 (Nat.le_of_ble_eq_true rfl) (S_X4_addWord hb1 w7) ?_
  refine r_iload_n e_X4_splitNumber_76 rfl ?_
  refine r_ireturn e_X4_splitNumber_77 rfl ⟨rfl, rfl⟩ ?_
  obtain ⟨rfl, rfl⟩ := ps2 h; exact ⟨rfl, rfl, rfl⟩
def R_X4_take (a : Nat) (x1 : Int32) (x2 : Int32) (M : Mem) : Option (Int32 × Mem) := bd1 (V_X4_kind a M) (fun v1 => if 0 ≤ (M.1 a 9) then (some ((36 : Int32), U_X4_refuse a M)) else (if v1 < x1 then (some ((36 : Int32), U_X4_refuse a M)) else (if x2 < v1 then (some ((36 : Int32), U_X4_refuse a M)) else (if (801 : Int32) ≤ (M.1 a 7) then (some ((36 : Int32), U_X4_refuse a M)) else (ck (M.1 a 7) 801 (some (v1, setI (setJ M a 8 (M.2 (a + 4) (M.1 a 7).toNatClampNeg)) a 7 ((M.1 a 7) + (1 : Int32)))))))))
theorem S_X4_take {sh : List SC} {M : Mem} {a : Nat} {x1 : Int32} {x2 : Int32}  {v' : Int32} {M' : Mem} (hb1 : ReaderAt sh a)  (h : R_X4_take a x1 x2 M = some (v', M')) : Gv m_X4_take [.ref a, .int x1, .int x2] sh M (.int v') M' := by
  refine Sp.of (ls := [some (.ref a), some (.int x1), some (.int x2), none]) (by decide +kernel) (Nat.le_of_ble_eq_true rfl) rfl ?_
  have k0 : kd sh a = some (4 + 7, 0) := hb1.1
  have k1 : rf sh a 3 = some (a + 4) := hb1.2.2.2.2.1
  have k2 : kd sh (a + 4) = some (1, 801) := hb1.2.2.2.2.2.2.2.2.2.1
  unfold R_X4_take at h
  refine r_aload_n e_X4_take_0 rfl ?_
  refine cV0v e_X4_take_1 cl_X4_77 ⟨Nat.le_of_ble_eq_true rfl, Nat.le_of_ble_eq_true rfl⟩ ⟨rfl, rfl⟩ k0 (Nat.le_of_ble_eq_true rfl) (S_X4_kind hb1) ?_
  obtain ⟨v1, e1, h⟩ := bd1_el h
  rw [e1]
  refine p_istore_n_4_3 e_X4_take_4 rfl rfl ?_
  refine r_aload_n e_X4_take_5 rfl ?_
  refine r_getI e_X4_take_6 fl_X4_44 i0 k0 ?_
  refine r_if_ge e_X4_take_9 (fun c2 => ?_) (fun c2 => ?_)
  · rw [if_pos c2] at h
    refine r_aload_n e_X4_take_59 rfl ?_
    refine cV0u e_X4_take_60 cl_X4_80 ⟨Nat.le_of_ble_eq_true rfl, Nat.le_of_ble_eq_true rfl⟩ ⟨rfl, rfl⟩ k0 (Nat.le_of_ble_eq_true rfl) (S_X4_refuse hb1) ?_
    refine r_bipush e_X4_take_63 bp_36 ?_
    refine r_ireturn e_X4_take_65 rfl ⟨rfl, rfl⟩ ?_
    obtain ⟨rfl, rfl⟩ := ps2 h; exact ⟨rfl, rfl, rfl⟩
  · rw [if_neg c2] at h
    refine r_iload_n e_X4_take_12 rfl ?_
    refine r_iload_n e_X4_take_13 rfl ?_
    refine r_icmp_lt e_X4_take_14 (fun c3 => ?_) (fun c3 => ?_)
    · rw [if_pos c3] at h
      refine r_aload_n e_X4_take_59 rfl ?_
      refine cV0u e_X4_take_60 cl_X4_80 ⟨Nat.le_of_ble_eq_true rfl, Nat.le_of_ble_eq_true rfl⟩ ⟨rfl, rfl⟩ k0 (Nat.le_of_ble_eq_true rfl) (S_X4_refuse hb1) ?_
      refine r_bipush e_X4_take_63 bp_36 ?_
      refine r_ireturn e_X4_take_65 rfl ⟨rfl, rfl⟩ ?_
      obtain ⟨rfl, rfl⟩ := ps2 h; exact ⟨rfl, rfl, rfl⟩
    · rw [if_neg c3] at h
      refine r_iload_n e_X4_take_17 rfl ?_
      refine r_iload_n e_X4_take_18 rfl ?_
      refine r_icmp_gt e_X4_take_19 (fun c4 => ?_) (fun c4 => ?_)
      · rw [if_pos c4] at h
        refine r_aload_n e_X4_take_59 rfl ?_
        refine cV0u e_X4_take_60 cl_X4_80 ⟨Nat.le_of_ble_eq_true rfl, Nat.le_of_ble_eq_true rfl⟩ ⟨rfl, rfl⟩ k0 (Nat.le_of_ble_eq_true rfl) (S_X4_refuse hb1) ?_
        refine r_bipush e_X4_take_63 bp_36 ?_
        refine r_ireturn e_X4_take_65 rfl ⟨rfl, rfl⟩ ?_
        obtain ⟨rfl, rfl⟩ := ps2 h; exact ⟨rfl, rfl, rfl⟩
      · rw [if_neg c4] at h
        refine r_aload_n e_X4_take_22 rfl ?_
        refine r_getI e_X4_take_23 fl_X4_37 i0 k0 ?_
        refine r_aload_n e_X4_take_26 rfl ?_
        refine r_getR e_X4_take_27 fl_X4_24 k0 k1 ?_
        refine r_alen (v := (801 : Int32)) e_X4_take_30 k2 (by decide) rfl ?_
        refine r_icmp_ge e_X4_take_31 (fun c5 => ?_) (fun c5 => ?_)
        · rw [if_pos c5] at h
          refine r_aload_n e_X4_take_59 rfl ?_
          refine cV0u e_X4_take_60 cl_X4_80 ⟨Nat.le_of_ble_eq_true rfl, Nat.le_of_ble_eq_true rfl⟩ ⟨rfl, rfl⟩ k0 (Nat.le_of_ble_eq_true rfl) (S_X4_refuse hb1) ?_
          refine r_bipush e_X4_take_63 bp_36 ?_
          refine r_ireturn e_X4_take_65 rfl ⟨rfl, rfl⟩ ?_
          obtain ⟨rfl, rfl⟩ := ps2 h; exact ⟨rfl, rfl, rfl⟩
        · rw [if_neg c5] at h
          refine r_aload_n e_X4_take_34 rfl ?_
          refine r_aload_n e_X4_take_35 rfl ?_
          refine r_getR e_X4_take_36 fl_X4_24 k0 k1 ?_
          refine r_aload_n e_X4_take_39 rfl ?_
          refine r_getI e_X4_take_40 fl_X4_37 i0 k0 ?_
          obtain ⟨b6, h⟩ := ck_el h
          refine r_laload e_X4_take_43 k2 b6 ?_
          refine r_putJ e_X4_take_44 fl_X4_40 k0 ?_
          refine r_aload_n e_X4_take_47 rfl ?_
          refine r_dup e_X4_take_48 rfl ?_
          refine r_getIe e_X4_take_49 fl_X4_37 i0 k0 gs_k ?_
          refine r_iconst e_X4_take_52 ic_1 ?_
          refine r_iadd e_X4_take_53 ?_
          refine r_putI e_X4_take_54 fl_X4_37 k0 ?_
          refine r_iload_n e_X4_take_57 rfl ?_
          refine r_ireturn e_X4_take_58 rfl ⟨rfl, rfl⟩ ?_
          obtain ⟨rfl, rfl⟩ := ps2 h; exact ⟨rfl, rfl, rfl⟩
def R_X3_openState (a : Nat) (x1 : Int64) (M : Mem) : Option (Mem) := bnd1 (if (8 : Int32) ≤ (M.1 a 0) then (some M) else (ck (M.1 a 0) 8 (some (setJ M (a + 1) (M.1 a 0).toNatClampNeg x1)))) (fun M3 => some M3)
theorem S_X3_openState {sh : List SC} {M : Mem} {a : Nat} {x1 : Int64}  {M' : Mem} (hb1 : ProgramAt sh a)  (h : R_X3_openState a x1 M = some M') : Gu m_X3_openState [.ref a, .long x1] sh M M' := by
  refine Sp.of (ls := [some (.ref a), some (.long x1), none]) (by decide +kernel) (Nat.le_of_ble_eq_true rfl) rfl ?_
  have k0 : kd sh a = some (3 + 7, 0) := hb1.1
  have k1 : rf sh a 1 = some (a + 1) := hb1.2.1
  have k2 : kd sh (a + 1) = some (1, 8) := hb1.2.2.2.2.2.2.2.2.2.2.2.2.2.2.2.1
  unfold R_X3_openState at h
  refine r_aload_n e_X3_openState_0 rfl ?_
  refine r_getI e_X3_openState_1 fl_X3_9 i0 k0 ?_
  refine r_aload_n e_X3_openState_4 rfl ?_
  refine r_getR e_X3_openState_5 fl_X3_15 k0 k1 ?_
  refine r_alen (v := (8 : Int32)) e_X3_openState_8 k2 (by decide) rfl ?_
  obtain ⟨K3, hK3, h⟩ := bnd1_in h
  suffices j3 : ∀ M3, K3 M3 = some M' → WP m_X3_openState _ 22 [none, none, none] [] sh M3 0 0 by
    refine r_icmp_ge e_X3_openState_9 (fun c1 => ?_) (fun c1 => ?_)
    · rw [if_pos c1] at h
      refine d_3_0 ?_
      refine d_3_1 ?_
      exact j3 _ h
    · rw [if_neg c1] at h
      refine r_aload_n e_X3_openState_12 rfl ?_
      refine r_getR e_X3_openState_13 fl_X3_15 k0 k1 ?_
      refine r_aload_n e_X3_openState_16 rfl ?_
      refine r_getI e_X3_openState_17 fl_X3_9 i0 k0 ?_
      refine r_lload_n e_X3_openState_20 rfl ?_
      obtain ⟨b4, h⟩ := ck_elK h
      refine r_lastore e_X3_openState_21 k2 b4 ?_
      refine d_3_0 ?_
      refine d_3_1 ?_
      exact j3 _ h
  intro M3 h
  rw [hK3] at h
  refine r_return e_X3_openState_22 rfl ⟨rfl, rfl⟩ ?_
  obtain rfl := Option.some.inj h; exact ⟨rfl, rfl, rfl⟩
def L_X4_readTerm_5 (a : Nat) (x1 : Nat) (x2 : Int32) : Nat → Int32 → Int32 → Mem → Option (Int32 × Mem)
  | 0, _, _, _ => none
  | n + 1, u3, u4, M => if (6 : Int32) < u4 then (some (u3, M)) else (if 0 ≤ (M.1 a 9) then (some (u3, M)) else (if (V_X4_kind a M) = (33 : Int32) then (bd1 (if u4 = (6 : Int32) then (U_X4_refuse a M) else M) (fun M5 => bnd2 (R_X4_take a (33 : Int32) (33 : Int32) M5) (fun v6 M6 => L_X4_readTerm_5 a x1 x2 n (-u3) (u4 + 1) M6))) else (some (u3, M))))
theorem LW_X4_readTerm_5 {sh : List SC} {Q : Po} {a : Nat} {x1 : Nat} {x2 : Int32}   (hb1 : ReaderAt sh a) (hb2 : ProgramAt sh x1)  : ∀ (n : Nat) (u3 : Int32) (u4 : Int32) (M : Mem) (z3 : Int32) (Mz : Mem), L_X4_readTerm_5 a x1 x2 n u3 u4 M = some (z3, Mz) → WP m_X4_readTerm Q 57 [some (.ref a), some (.ref x1), some (.int x2), some (.int z3), none] [] sh Mz 0 0 → WP m_X4_readTerm Q 5 [some (.ref a), some (.ref x1), some (.int x2), some (.int u3), some (.int u4)] [] sh M 0 0 := by
  intro n
  induction n with
  | zero =>
    intro u3 u4 M z3 Mz h hE
    rw [L_X4_readTerm_5] at h
    cases h
  | succ n ih =>
    intro u3 u4 M z3 Mz h hE
    rw [L_X4_readTerm_5] at h
    have k0 : kd sh a = some (4 + 7, 0) := hb1.1
    refine r_iload e_X4_readTerm_5 rfl ?_
    refine r_bipush e_X4_readTerm_7 bp_6 ?_
    refine r_icmp_gt e_X4_readTerm_9 (fun c1 => ?_) (fun c1 => ?_)
    · rw [if_pos c1] at h
      refine d_5_4 ?_
      obtain ⟨rfl, rfl⟩ := ps2 h; exact hE
    · rw [if_neg c1] at h
      refine r_aload_n e_X4_readTerm_12 rfl ?_
      refine r_getI e_X4_readTerm_13 fl_X4_44 i0 k0 ?_
      refine r_if_ge e_X4_readTerm_16 (fun c2 => ?_) (fun c2 => ?_)
      · rw [if_pos c2] at h
        refine d_5_4 ?_
        obtain ⟨rfl, rfl⟩ := ps2 h; exact hE
      · rw [if_neg c2] at h
        refine r_aload_n e_X4_readTerm_19 rfl ?_
        refine cV0v e_X4_readTerm_20 cl_X4_77 ⟨Nat.le_of_ble_eq_true rfl, Nat.le_of_ble_eq_true rfl⟩ ⟨rfl, rfl⟩ k0 (Nat.le_of_ble_eq_true rfl) (S_X4_kind hb1) ?_
        refine r_bipush e_X4_readTerm_23 bp_33 ?_
        refine r_icmp_ne e_X4_readTerm_25 (fun c3 => ?_) (fun c3 => ?_)
        · rw [if_neg c3] at h
          refine d_5_4 ?_
          obtain ⟨rfl, rfl⟩ := ps2 h; exact hE
        · rw [if_pos c3] at h
          refine r_iload e_X4_readTerm_28 rfl ?_
          refine r_bipush e_X4_readTerm_30 bp_6 ?_
          obtain ⟨M5, q5, h⟩ := bd1_el h
          suffices j5 : WP m_X4_readTerm _ 39 [some (.ref a), some (.ref x1), some (.int x2), some (.int u3), some (.int u4)] [] sh M5 0 0 by
            refine r_icmp_ne e_X4_readTerm_32 (fun c4 => ?_) (fun c4 => ?_)
            · rw [if_neg c4] at q5
              subst q5; exact j5
            · rw [if_pos c4] at q5
              refine r_aload_n e_X4_readTerm_35 rfl ?_
              refine cV0u e_X4_readTerm_36 cl_X4_80 ⟨Nat.le_of_ble_eq_true rfl, Nat.le_of_ble_eq_true rfl⟩ ⟨rfl, rfl⟩ k0 (Nat.le_of_ble_eq_true rfl) (S_X4_refuse hb1) ?_
              subst q5; exact j5
          refine r_aload_n e_X4_readTerm_39 rfl ?_
          refine r_bipush e_X4_readTerm_40 bp_33 ?_
          refine r_bipush e_X4_readTerm_42 bp_33 ?_
          obtain ⟨v6, M6, w6, h⟩ := bnd2_el h
          refine cV2v e_X4_readTerm_44 cl_X4_83 ⟨Nat.le_of_ble_eq_true rfl, Nat.le_of_ble_eq_true rfl⟩ ⟨rfl, rfl⟩ k0 (Nat.le_of_ble_eq_true rfl) (S_X4_take hb1 w6) ?_
          refine r_pop e_X4_readTerm_47 rfl ?_
          refine r_iload_n e_X4_readTerm_48 rfl ?_
          refine r_ineg e_X4_readTerm_49 ?_
          refine p_istore_n_5_3 e_X4_readTerm_50 rfl rfl ?_
          refine p_iinc_5_4 e_X4_readTerm_51 rfl ic_1 rfl ?_
          refine r_goto e_X4_readTerm_54 ?_
          exact ih _ _ _ _ _ h hE
def R_X4_readTerm (a : Nat) (x1 : Nat) (x2 : Int32) (M : Mem) : Option (Mem) := bnd2 (L_X4_readTerm_5 a x1 x2 FUEL (1 : Int32) (0 : Int32) M) (fun v7_0 M7 => bnd2 (R_X4_take a (9 : Int32) (25 : Int32) M7) (fun v8 M8 => bnd1 (if (13 : Int32) ≤ v8 then (if (16 : Int32) < v8 then (if (25 : Int32) ≤ v8 then (bd1 (U_X3_addTerm x1 x2 v7_0 (0 : Int32) ((M8.2 a 8).toInt32) M8) (fun M21 => (some M21))) else (bd1 (U_X3_addTerm x1 x2 v7_0 (2 : Int32) (v8 - (17 : Int32)) M8) (fun M22 => (some M22)))) else (bd1 (U_X3_addTerm x1 x2 v7_0 (1 : Int32) (v8 - (13 : Int32)) M8) (fun M23 => (some M23)))) else (bnd1 (if (801 : Int32) ≤ (M8.1 a 7) then (some M8) else (ck (M8.1 a 7) 801 (if (lg_cmp (M8.2 (a + 4) (M8.1 a 7).toNatClampNeg) (5 : Int64)) < 0 then (some M8) else (some (U_X4_refuse a M8))))) (fun M26 => bnd2 (R_X4_take a (25 : Int32) (25 : Int32) M26) (fun v29 M29 => bd1 (U_X3_addTerm x1 x2 v7_0 (2 : Int32) (((8 : Int32) + ((v8 - (9 : Int32)) * (5 : Int32))) + (M29.2 a 8).toInt32) M29) (fun M30 => (some M30)))))) (fun M18 => some M18)))
theorem S_X4_readTerm {sh : List SC} {M : Mem} {a : Nat} {x1 : Nat} {x2 : Int32}  {M' : Mem} (hb1 : ReaderAt sh a) (hb2 : ProgramAt sh x1)  (h : R_X4_readTerm a x1 x2 M = some M') : Gu m_X4_readTerm [.ref a, .ref x1, .int x2] sh M M' := by
  refine Sp.of (ls := [some (.ref a), some (.ref x1), some (.int x2), none, none]) (by decide +kernel) (Nat.le_of_ble_eq_true rfl) rfl ?_
  have k0 : kd sh a = some (4 + 7, 0) := hb1.1
  have k1 : kd sh x1 = some (3 + 7, 0) := hb2.1
  have k2 : rf sh a 3 = some (a + 4) := hb1.2.2.2.2.1
  have k3 : kd sh (a + 4) = some (1, 801) := hb1.2.2.2.2.2.2.2.2.2.1
  unfold R_X4_readTerm at h
  refine r_iconst e_X4_readTerm_0 ic_1 ?_
  refine p_istore_n_5_3 e_X4_readTerm_1 rfl rfl ?_
  refine r_iconst e_X4_readTerm_2 ic_0 ?_
  refine p_istore_5_4 e_X4_readTerm_3 rfl rfl ?_
  obtain ⟨v7_0, M7, w7, h⟩ := bnd2_el h
  refine LW_X4_readTerm_5 hb1 hb2 _ _ _ _ _ _ w7 ?_
  refine r_aload_n e_X4_readTerm_57 rfl ?_
  refine r_bipush e_X4_readTerm_58 bp_9 ?_
  refine r_bipush e_X4_readTerm_60 bp_25 ?_
  obtain ⟨v8, M8, w8, h⟩ := bnd2_el h
  refine cV2v e_X4_readTerm_62 cl_X4_83 ⟨Nat.le_of_ble_eq_true rfl, Nat.le_of_ble_eq_true rfl⟩ ⟨rfl, rfl⟩ k0 (Nat.le_of_ble_eq_true rfl) (S_X4_take hb1 w8) ?_
  refine p_istore_5_4 e_X4_readTerm_65 rfl rfl ?_
  refine r_iload e_X4_readTerm_67 rfl ?_
  refine r_bipush e_X4_readTerm_69 bp_13 ?_
  obtain ⟨K18, hK18, h⟩ := bnd1_in h
  suffices j18 : ∀ M18, K18 M18 = some M' → WP m_X4_readTerm _ 197 [none, none, none, none, none] [] sh M18 0 0 by
    refine r_icmp_ge e_X4_readTerm_71 (fun c9 => ?_) (fun c9 => ?_)
    · rw [if_pos c9] at h
      refine r_iload e_X4_readTerm_141 rfl ?_
      refine r_bipush e_X4_readTerm_143 bp_16 ?_
      refine r_icmp_gt e_X4_readTerm_145 (fun c19 => ?_) (fun c19 => ?_)
      · rw [if_pos c19] at h
        refine r_iload e_X4_readTerm_163 rfl ?_
        refine r_bipush e_X4_readTerm_165 bp_25 ?_
        refine r_icmp_ge e_X4_readTerm_167 (fun c20 => ?_) (fun c20 => ?_)
        · rw [if_pos c20] at h
          refine r_aload_n e_X4_readTerm_185 rfl ?_
          refine r_iload_n e_X4_readTerm_186 rfl ?_
          refine r_iload_n e_X4_readTerm_187 rfl ?_
          refine r_iconst e_X4_readTerm_188 ic_0 ?_
          refine r_aload_n e_X4_readTerm_189 rfl ?_
          refine r_getJ e_X4_readTerm_190 fl_X4_40 k0 ?_
          refine r_l2i e_X4_readTerm_193 ?_
          refine cV4u e_X4_readTerm_194 cl_X4_179 ⟨Nat.le_of_ble_eq_true rfl, Nat.le_of_ble_eq_true rfl⟩ ⟨rfl, rfl⟩ k1 (Nat.le_of_ble_eq_true rfl) (S_X3_addTerm hb2) ?_
          obtain ⟨M21, e21, h⟩ := bd1_elK h
          rw [e21]
          refine d_5_0 ?_
          refine d_5_1 ?_
          refine d_5_2 ?_
          refine d_5_3 ?_
          refine d_5_4 ?_
          exact j18 _ h
        · rw [if_neg c20] at h
          refine r_aload_n e_X4_readTerm_170 rfl ?_
          refine r_iload_n e_X4_readTerm_171 rfl ?_
          refine r_iload_n e_X4_readTerm_172 rfl ?_
          refine r_iconst e_X4_readTerm_173 ic_2 ?_
          refine r_iload e_X4_readTerm_174 rfl ?_
          refine r_bipush e_X4_readTerm_176 bp_17 ?_
          refine r_isub e_X4_readTerm_178 ?_
          refine cV4u e_X4_readTerm_179 cl_X4_179 ⟨Nat.le_of_ble_eq_true rfl, Nat.le_of_ble_eq_true rfl⟩ ⟨rfl, rfl⟩ k1 (Nat.le_of_ble_eq_true rfl) (S_X3_addTerm hb2) ?_
          obtain ⟨M22, e22, h⟩ := bd1_elK h
          rw [e22]
          refine r_goto e_X4_readTerm_182 ?_
          refine d_5_0 ?_
          refine d_5_1 ?_
          refine d_5_2 ?_
          refine d_5_3 ?_
          refine d_5_4 ?_
          exact j18 _ h
      · rw [if_neg c19] at h
        refine r_aload_n e_X4_readTerm_148 rfl ?_
        refine r_iload_n e_X4_readTerm_149 rfl ?_
        refine r_iload_n e_X4_readTerm_150 rfl ?_
        refine r_iconst e_X4_readTerm_151 ic_1 ?_
        refine r_iload e_X4_readTerm_152 rfl ?_
        refine r_bipush e_X4_readTerm_154 bp_13 ?_
        refine r_isub e_X4_readTerm_156 ?_
        refine cV4u e_X4_readTerm_157 cl_X4_179 ⟨Nat.le_of_ble_eq_true rfl, Nat.le_of_ble_eq_true rfl⟩ ⟨rfl, rfl⟩ k1 (Nat.le_of_ble_eq_true rfl) (S_X3_addTerm hb2) ?_
        obtain ⟨M23, e23, h⟩ := bd1_elK h
        rw [e23]
        refine r_goto e_X4_readTerm_160 ?_
        refine d_5_0 ?_
        refine d_5_1 ?_
        refine d_5_2 ?_
        refine d_5_3 ?_
        refine d_5_4 ?_
        exact j18 _ h
    · rw [if_neg c9] at h
      refine r_aload_n e_X4_readTerm_74 rfl ?_
      refine r_getI e_X4_readTerm_75 fl_X4_37 i0 k0 ?_
      refine r_aload_n e_X4_readTerm_78 rfl ?_
      refine r_getR e_X4_readTerm_79 fl_X4_24 k0 k2 ?_
      refine r_alen (v := (801 : Int32)) e_X4_readTerm_82 k3 (by decide) rfl ?_
      obtain ⟨K26, hK26, h⟩ := bnd1_inK h
      suffices j26 : ∀ M26, K26 M26 = some M' → WP m_X4_readTerm _ 106 [some (.ref a), some (.ref x1), some (.int x2), some (.int v7_0), some (.int v8)] [] sh M26 0 0 by
        refine r_icmp_ge e_X4_readTerm_83 (fun c24 => ?_) (fun c24 => ?_)
        · rw [if_pos c24] at h
          exact j26 _ h
        · rw [if_neg c24] at h
          refine r_aload_n e_X4_readTerm_86 rfl ?_
          refine r_getR e_X4_readTerm_87 fl_X4_24 k0 k2 ?_
          refine r_aload_n e_X4_readTerm_90 rfl ?_
          refine r_getI e_X4_readTerm_91 fl_X4_37 i0 k0 ?_
          obtain ⟨b27, h⟩ := ck_elK h
          refine r_laload e_X4_readTerm_94 k3 b27 ?_
          refine r_ldc2 e_X4_readTerm_95 lc_X4_175 ?_
          refine r_lcmp e_X4_readTerm_98 ?_
          refine r_if_lt e_X4_readTerm_99 (fun c28 => ?_) (fun c28 => ?_)
          · rw [if_pos c28] at h
            exact j26 _ h
          · rw [if_neg c28] at h
            refine r_aload_n e_X4_readTerm_102 rfl ?_
            refine cV0u e_X4_readTerm_103 cl_X4_80 ⟨Nat.le_of_ble_eq_true rfl, Nat.le_of_ble_eq_true rfl⟩ ⟨rfl, rfl⟩ k0 (Nat.le_of_ble_eq_true rfl) (S_X4_refuse hb1) ?_
            exact j26 _ h
      intro M26 h
      rw [hK26] at h
      refine r_aload_n e_X4_readTerm_106 rfl ?_
      refine r_bipush e_X4_readTerm_107 bp_25 ?_
      refine r_bipush e_X4_readTerm_109 bp_25 ?_
      obtain ⟨v29, M29, w29, h⟩ := bnd2_elK h
      refine cV2v e_X4_readTerm_111 cl_X4_83 ⟨Nat.le_of_ble_eq_true rfl, Nat.le_of_ble_eq_true rfl⟩ ⟨rfl, rfl⟩ k0 (Nat.le_of_ble_eq_true rfl) (S_X4_take hb1 w29) ?_
      refine r_pop e_X4_readTerm_114 rfl ?_
      refine r_aload_n e_X4_readTerm_115 rfl ?_
      refine r_iload_n e_X4_readTerm_116 rfl ?_
      refine r_iload_n e_X4_readTerm_117 rfl ?_
      refine r_iconst e_X4_readTerm_118 ic_2 ?_
      refine r_bipush e_X4_readTerm_119 bp_8 ?_
      refine r_iload e_X4_readTerm_121 rfl ?_
      refine r_bipush e_X4_readTerm_123 bp_9 ?_
      refine r_isub e_X4_readTerm_125 ?_
      refine r_iconst e_X4_readTerm_126 ic_5 ?_
      refine r_imul e_X4_readTerm_127 ?_
      refine r_iadd e_X4_readTerm_128 ?_
      refine r_aload_n e_X4_readTerm_129 rfl ?_
      refine r_getJ e_X4_readTerm_130 fl_X4_40 k0 ?_
      refine r_l2i e_X4_readTerm_133 ?_
      refine r_iadd e_X4_readTerm_134 ?_
      refine cV4u e_X4_readTerm_135 cl_X4_179 ⟨Nat.le_of_ble_eq_true rfl, Nat.le_of_ble_eq_true rfl⟩ ⟨rfl, rfl⟩ k1 (Nat.le_of_ble_eq_true rfl) (S_X3_addTerm hb2) ?_
      obtain ⟨M30, e30, h⟩ := bd1_elK h
      rw [e30]
      refine r_goto e_X4_readTerm_138 ?_
      refine d_5_0 ?_
      refine d_5_1 ?_
      refine d_5_2 ?_
      refine d_5_3 ?_
      refine d_5_4 ?_
      exact j18 _ h
  intro M18 h
  rw [hK18] at h
  refine r_return e_X4_readTerm_197 rfl ⟨rfl, rfl⟩ ?_
  obtain rfl := Option.some.inj h; exact ⟨rfl, rfl, rfl⟩
def R_X3_addAct (a : Nat) (x1 : Int32) (x2 : Int64) (x3 : Int32) (M : Mem) : Option (Mem) := bnd1 (if (400 : Int32) ≤ (M.1 a 9) then (some M) else (ck (M.1 a 9) 400 (ck (M.1 a 9) 400 (ck (M.1 a 9) 400 (some (setI (setI (setJ (setI M (a + 7) (M.1 a 9).toNatClampNeg x1) (a + 8) (M.1 a 9).toNatClampNeg x2) (a + 9) (M.1 a 9).toNatClampNeg ((M.1 a 13) - x3)) a 9 ((M.1 a 9) + (1 : Int32)))))))) (fun M3 => some M3)
theorem S_X3_addAct {sh : List SC} {M : Mem} {a : Nat} {x1 : Int32} {x2 : Int64} {x3 : Int32}  {M' : Mem} (hb1 : ProgramAt sh a)  (h : R_X3_addAct a x1 x2 x3 M = some M') : Gu m_X3_addAct [.ref a, .int x1, .long x2, .int x3] sh M M' := by
  refine Sp.of (ls := [some (.ref a), some (.int x1), some (.long x2), none, some (.int x3)]) (by decide +kernel) (Nat.le_of_ble_eq_true rfl) rfl ?_
  have k0 : kd sh a = some (3 + 7, 0) := hb1.1
  have k1 : rf sh a 11 = some (a + 8) := hb1.2.2.2.2.2.2.2.2.1
  have k2 : kd sh (a + 8) = some (1, 400) := hb1.2.2.2.2.2.2.2.2.2.2.2.2.2.2.2.2.2.2.2.2.2.2.1
  have k3 : rf sh a 10 = some (a + 7) := hb1.2.2.2.2.2.2.2.1
  have k4 : kd sh (a + 7) = some (0, 400) := hb1.2.2.2.2.2.2.2.2.2.2.2.2.2.2.2.2.2.2.2.2.2.1
  have k5 : rf sh a 12 = some (a + 9) := hb1.2.2.2.2.2.2.2.2.2.1
  have k6 : kd sh (a + 9) = some (0, 400) := hb1.2.2.2.2.2.2.2.2.2.2.2.2.2.2.2.2.2.2.2.2.2.2.2.1
  unfold R_X3_addAct at h
  refine r_aload_n e_X3_addAct_0 rfl ?_
  refine r_getI e_X3_addAct_1 fl_X3_41 i0 k0 ?_
  refine r_aload_n e_X3_addAct_4 rfl ?_
  refine r_getR e_X3_addAct_5 fl_X3_47 k0 k1 ?_
  refine r_alen (v := (400 : Int32)) e_X3_addAct_8 k2 (by decide) rfl ?_
  obtain ⟨K3, hK3, h⟩ := bnd1_in h
  suffices j3 : ∀ M3, K3 M3 = some M' → WP m_X3_addAct _ 58 [none, none, none, none, none] [] sh M3 0 0 by
    refine r_icmp_ge e_X3_addAct_9 (fun c1 => ?_) (fun c1 => ?_)
    · rw [if_pos c1] at h
      refine d_5_0 ?_
      refine d_5_1 ?_
      refine d_5_2 ?_
      refine d_5_4 ?_
      exact j3 _ h
    · rw [if_neg c1] at h
      refine r_aload_n e_X3_addAct_12 rfl ?_
      refine r_getR e_X3_addAct_13 fl_X3_44 k0 k3 ?_
      refine r_aload_n e_X3_addAct_16 rfl ?_
      refine r_getI e_X3_addAct_17 fl_X3_41 i0 k0 ?_
      refine r_iload_n e_X3_addAct_20 rfl ?_
      obtain ⟨b4, h⟩ := ck_elK h
      refine r_iastore e_X3_addAct_21 k4 b4 ?_
      refine r_aload_n e_X3_addAct_22 rfl ?_
      refine r_getR e_X3_addAct_23 fl_X3_47 k0 k1 ?_
      refine r_aload_n e_X3_addAct_26 rfl ?_
      refine r_getIe e_X3_addAct_27 fl_X3_41 i0 k0 (gs_aI (by omega)) ?_
      refine r_lload_n e_X3_addAct_30 rfl ?_
      obtain ⟨b5, h⟩ := ck_elK h
      refine r_lastore e_X3_addAct_31 k2 b5 ?_
      refine r_aload_n e_X3_addAct_32 rfl ?_
      refine r_getR e_X3_addAct_33 fl_X3_50 k0 k5 ?_
      refine r_aload_n e_X3_addAct_36 rfl ?_
      refine r_getIe e_X3_addAct_37 fl_X3_41 i0 k0 (gs_k.trans (gs_aI (by omega))) ?_
      refine r_aload_n e_X3_addAct_40 rfl ?_
      refine r_getIe e_X3_addAct_41 fl_X3_53 i0 k0 (gs_k.trans (gs_aI (by omega))) ?_
      refine r_iload e_X3_addAct_44 rfl ?_
      refine r_isub e_X3_addAct_46 ?_
      obtain ⟨b6, h⟩ := ck_elK h
      refine r_iastore e_X3_addAct_47 k6 b6 ?_
      refine r_aload_n e_X3_addAct_48 rfl ?_
      refine r_dup e_X3_addAct_49 rfl ?_
      refine r_getIe e_X3_addAct_50 fl_X3_41 i0 k0 ((gs_aI (by omega)).trans (gs_k.trans (gs_aI (by omega)))) ?_
      refine r_iconst e_X3_addAct_53 ic_1 ?_
      refine r_iadd e_X3_addAct_54 ?_
      refine r_putI e_X3_addAct_55 fl_X3_41 k0 ?_
      refine d_5_0 ?_
      refine d_5_1 ?_
      refine d_5_2 ?_
      refine d_5_4 ?_
      exact j3 _ h
  intro M3 h
  rw [hK3] at h
  refine r_return e_X3_addAct_58 rfl ⟨rfl, rfl⟩ ?_
  obtain rfl := Option.some.inj h; exact ⟨rfl, rfl, rfl⟩
def L_X3_stateNamed_2 (a : Nat) (x1 : Int64) : Nat → Int32 → Mem → Option ((Int32) ⊕ (Unit))
  | 0, _, _ => none
  | n + 1, u3, M => if (M.1 a 0) ≤ u3 then (some (.inr ())) else (if (8 : Int32) ≤ u3 then (some (.inr ())) else (ck u3 8 (if (lg_cmp (M.2 (a + 1) u3.toNatClampNeg) x1) = 0 then (some (.inl u3)) else (L_X3_stateNamed_2 a x1 n (u3 + 1) M))))
theorem LW_X3_stateNamed_2 {sh : List SC} {Q : Po} {a : Nat} {x1 : Int64}   (hb1 : ProgramAt sh a)  : ∀ (n : Nat) (u3 : Int32) (M : Mem) (q : (Int32) ⊕ (Unit)), L_X3_stateNamed_2 a x1 n u3 M = some q → (∀ x, q = .inl x → Q (some (.int x)) sh M) → (∀ zu, q = .inr zu → WP m_X3_stateNamed Q 38 [none, none, none, none] [] sh M 0 0) → WP m_X3_stateNamed Q 2 [some (.ref a), some (.long x1), none, some (.int u3)] [] sh M 0 0 := by
  intro n
  induction n with
  | zero =>
    intro u3 M q h hR hE
    rw [L_X3_stateNamed_2] at h
    cases h
  | succ n ih =>
    intro u3 M q h hR hE
    rw [L_X3_stateNamed_2] at h
    have k0 : kd sh a = some (3 + 7, 0) := hb1.1
    have k1 : rf sh a 1 = some (a + 1) := hb1.2.1
    have k2 : kd sh (a + 1) = some (1, 8) := hb1.2.2.2.2.2.2.2.2.2.2.2.2.2.2.2.1
    refine r_iload_n e_X3_stateNamed_2 rfl ?_
    refine r_aload_n e_X3_stateNamed_3 rfl ?_
    refine r_getI e_X3_stateNamed_4 fl_X3_9 i0 k0 ?_
    refine r_icmp_ge e_X3_stateNamed_7 (fun c5 => ?_) (fun c5 => ?_)
    · rw [if_pos c5] at h
      refine d_4_0 ?_
      refine d_4_1 ?_
      refine d_4_3 ?_
      exact hE _ (Option.some.inj h).symm
    · rw [if_neg c5] at h
      refine r_iload_n e_X3_stateNamed_10 rfl ?_
      refine r_aload_n e_X3_stateNamed_11 rfl ?_
      refine r_getR e_X3_stateNamed_12 fl_X3_15 k0 k1 ?_
      refine r_alen (v := (8 : Int32)) e_X3_stateNamed_15 k2 (by decide) rfl ?_
      refine r_icmp_ge e_X3_stateNamed_16 (fun c6 => ?_) (fun c6 => ?_)
      · rw [if_pos c6] at h
        refine d_4_0 ?_
        refine d_4_1 ?_
        refine d_4_3 ?_
        exact hE _ (Option.some.inj h).symm
      · rw [if_neg c6] at h
        refine r_aload_n e_X3_stateNamed_19 rfl ?_
        refine r_getR e_X3_stateNamed_20 fl_X3_15 k0 k1 ?_
        refine r_iload_n e_X3_stateNamed_23 rfl ?_
        obtain ⟨b7, h⟩ := ck_el h
        refine r_laload e_X3_stateNamed_24 k2 b7 ?_
        refine r_lload_n e_X3_stateNamed_25 rfl ?_
        refine r_lcmp e_X3_stateNamed_26 ?_
        refine r_if_ne e_X3_stateNamed_27 (fun c8 => ?_) (fun c8 => ?_)
        · rw [if_neg c8] at h
          refine p_iinc_4_3 e_X3_stateNamed_32 rfl ic_1 rfl ?_
          refine r_goto e_X3_stateNamed_35 ?_
          exact ih _ _ _ h hR hE
        · rw [if_pos c8] at h
          refine r_iload_n e_X3_stateNamed_30 rfl ?_
          refine r_ireturn e_X3_stateNamed_31 rfl ⟨rfl, rfl⟩ ?_
          exact hR _ (Option.some.inj h).symm
def R_X3_stateNamed (a : Nat) (x1 : Int64) (M : Mem) : Option (Int32) := br1 (L_X3_stateNamed_2 a x1 FUEL (0 : Int32) M) (fun u9 => some (-1 : Int32))
theorem S_X3_stateNamed {sh : List SC} {M : Mem} {a : Nat} {x1 : Int64}  {v' : Int32} (hb1 : ProgramAt sh a)  (h : R_X3_stateNamed a x1 M = some v') : Gv m_X3_stateNamed [.ref a, .long x1] sh M (.int v') M := by
  refine Sp.of (ls := [some (.ref a), some (.long x1), none, none]) (by decide +kernel) (Nat.le_of_ble_eq_true rfl) rfl ?_
  unfold R_X3_stateNamed at h
  refine r_iconst e_X3_stateNamed_0 ic_0 ?_
  refine p_istore_n_4_3 e_X3_stateNamed_1 rfl rfl ?_
  obtain ⟨q9, w9, l9, r9⟩ := br1_el h
  refine LW_X3_stateNamed_2 hb1 _ _ _ _ w9 (fun x9 y9 => ?_) (fun u9 y9 => ?_)
  · have h := l9 _ y9
    obtain rfl := Option.some.inj h; exact ⟨rfl, rfl, rfl⟩
  have h := r9 _ y9
  refine r_iconst e_X3_stateNamed_38 ic_m1 ?_
  refine r_ireturn e_X3_stateNamed_39 rfl ⟨rfl, rfl⟩ ?_
  obtain rfl := Option.some.inj h; exact ⟨rfl, rfl, rfl⟩
def L_X3_resolveGoes_2 (a : Nat) : Nat → Int32 → Mem → Option (Mem)
  | 0, _, _ => none
  | n + 1, u1, M => if (M.1 a 9) ≤ u1 then (some M) else (if (400 : Int32) ≤ u1 then (some M) else (ck u1 400 (bnd1 (if (M.1 (a + 7) u1.toNatClampNeg) = (3 : Int32) then (ck u1 400 (bnd1 (R_X3_stateNamed a (M.2 (a + 8) u1.toNatClampNeg) M) (fun v8 => ck u1 400 (some (setJ M (a + 8) u1.toNatClampNeg v8.toInt64))))) else (some M)) (fun M6 => L_X3_resolveGoes_2 a n (u1 + 1) M6))))
theorem LW_X3_resolveGoes_2 {sh : List SC} {Q : Po} {a : Nat}   (hb1 : ProgramAt sh a)  : ∀ (n : Nat) (u1 : Int32) (M : Mem) (Mz : Mem), L_X3_resolveGoes_2 a n u1 M = some Mz → WP m_X3_resolveGoes Q 52 [none, none] [] sh Mz 0 0 → WP m_X3_resolveGoes Q 2 [some (.ref a), some (.int u1)] [] sh M 0 0 := by
  intro n
  induction n with
  | zero =>
    intro u1 M Mz h hE
    rw [L_X3_resolveGoes_2] at h
    cases h
  | succ n ih =>
    intro u1 M Mz h hE
    rw [L_X3_resolveGoes_2] at h
    have k0 : kd sh a = some (3 + 7, 0) := hb1.1
    have k1 : rf sh a 11 = some (a + 8) := hb1.2.2.2.2.2.2.2.2.1
    have k2 : kd sh (a + 8) = some (1, 400) := hb1.2.2.2.2.2.2.2.2.2.2.2.2.2.2.2.2.2.2.2.2.2.2.1
    have k3 : rf sh a 10 = some (a + 7) := hb1.2.2.2.2.2.2.2.1
    have k4 : kd sh (a + 7) = some (0, 400) := hb1.2.2.2.2.2.2.2.2.2.2.2.2.2.2.2.2.2.2.2.2.2.1
    refine r_iload_n e_X3_resolveGoes_2 rfl ?_
    refine r_aload_n e_X3_resolveGoes_3 rfl ?_
    refine r_getI e_X3_resolveGoes_4 fl_X3_41 i0 k0 ?_
    refine r_icmp_ge e_X3_resolveGoes_7 (fun c1 => ?_) (fun c1 => ?_)
    · rw [if_pos c1] at h
      refine d_2_0 ?_
      refine d_2_1 ?_
      obtain rfl := Option.some.inj h; exact hE
    · rw [if_neg c1] at h
      refine r_iload_n e_X3_resolveGoes_10 rfl ?_
      refine r_aload_n e_X3_resolveGoes_11 rfl ?_
      refine r_getR e_X3_resolveGoes_12 fl_X3_47 k0 k1 ?_
      refine r_alen (v := (400 : Int32)) e_X3_resolveGoes_15 k2 (by decide) rfl ?_
      refine r_icmp_ge e_X3_resolveGoes_16 (fun c2 => ?_) (fun c2 => ?_)
      · rw [if_pos c2] at h
        refine d_2_0 ?_
        refine d_2_1 ?_
        obtain rfl := Option.some.inj h; exact hE
      · rw [if_neg c2] at h
        refine r_aload_n e_X3_resolveGoes_19 rfl ?_
        refine r_getR e_X3_resolveGoes_20 fl_X3_44 k0 k3 ?_
        refine r_iload_n e_X3_resolveGoes_23 rfl ?_
        obtain ⟨b3, h⟩ := ck_el h
        refine r_iaload e_X3_resolveGoes_24 k4 b3 ?_
        refine r_iconst e_X3_resolveGoes_25 ic_3 ?_
        obtain ⟨K6, hK6, h⟩ := bnd1_in h
        suffices j6 : ∀ M6, K6 M6 = some Mz → WP m_X3_resolveGoes _ 46 [some (.ref a), some (.int u1)] [] sh M6 0 0 by
          refine r_icmp_ne e_X3_resolveGoes_26 (fun c4 => ?_) (fun c4 => ?_)
          · rw [if_neg c4] at h
            exact j6 _ h
          · rw [if_pos c4] at h
            refine r_aload_n e_X3_resolveGoes_29 rfl ?_
            refine r_getR e_X3_resolveGoes_30 fl_X3_47 k0 k1 ?_
            refine r_iload_n e_X3_resolveGoes_33 rfl ?_
            refine r_aload_n e_X3_resolveGoes_34 rfl ?_
            refine r_aload_n e_X3_resolveGoes_35 rfl ?_
            refine r_getR e_X3_resolveGoes_36 fl_X3_47 k0 k1 ?_
            refine r_iload_n e_X3_resolveGoes_39 rfl ?_
            obtain ⟨b7, h⟩ := ck_elK h
            refine r_laload e_X3_resolveGoes_40 k2 b7 ?_
            obtain ⟨v8, w8, h⟩ := bnd1_elK h
            refine cV1v e_X3_resolveGoes_41 cl_X3_80 ⟨Nat.le_of_ble_eq_true rfl, Nat.le_of_ble_eq_true rfl⟩ ⟨rfl, rfl⟩ k0 (Nat.le_of_ble_eq_true rfl) (S_X3_stateNamed hb1 w8) ?_
            refine r_i2l e_X3_resolveGoes_44 ?_
            obtain ⟨b9, h⟩ := ck_elK h
            refine r_lastore e_X3_resolveGoes_45 k2 b9 ?_
            exact j6 _ h
        intro M6 h
        rw [hK6] at h
        refine p_iinc_2_1 e_X3_resolveGoes_46 rfl ic_1 rfl ?_
        refine r_goto e_X3_resolveGoes_49 ?_
        exact ih _ _ _ h hE
def R_X3_resolveGoes (a : Nat) (M : Mem) : Option (Mem) := bnd1 (L_X3_resolveGoes_2 a FUEL (0 : Int32) M) (fun M10 => some M10)
theorem S_X3_resolveGoes {sh : List SC} {M : Mem} {a : Nat}  {M' : Mem} (hb1 : ProgramAt sh a)  (h : R_X3_resolveGoes a M = some M') : Gu m_X3_resolveGoes [.ref a] sh M M' := by
  refine Sp.of (ls := [some (.ref a), none]) (by decide +kernel) (Nat.le_of_ble_eq_true rfl) rfl ?_
  unfold R_X3_resolveGoes at h
  refine r_iconst e_X3_resolveGoes_0 ic_0 ?_
  refine p_istore_n_2_1 e_X3_resolveGoes_1 rfl rfl ?_
  obtain ⟨M10, w10, h⟩ := bnd1_el h
  refine LW_X3_resolveGoes_2 hb1 _ _ _ _ w10 ?_
  refine r_return e_X3_resolveGoes_52 rfl ⟨rfl, rfl⟩ ?_
  obtain rfl := Option.some.inj h; exact ⟨rfl, rfl, rfl⟩
def R_X10_program (x1 : Int32) (x2 : Int32) (x3 : Int32) (M : Mem) : Option (Int32 × Mem) := if (V_X10_isTeam x1 M) = 0 then (some ((V_X10_finding (-1001 : Int32) M), U_X10_finding (-1001 : Int32) M)) else (if (V_X10_isMember x2 M) = 0 then (some ((V_X10_finding (-1001 : Int32) M), U_X10_finding (-1001 : Int32) M)) else (if x3 < (-1 : Int32) then (some ((V_X10_finding (-1001 : Int32) M), U_X10_finding (-1001 : Int32) M)) else (if x3 < (M.1 0 10) then (ck x1 4 (ck x2 5 (some ((1 : Int32), setI M ((106 + 4 * x1.toNatClampNeg) + 1) x2.toNatClampNeg x3)))) else (some ((V_X10_finding (-1001 : Int32) M), U_X10_finding (-1001 : Int32) M)))))
theorem S_X10_program {sh : List SC} {M : Mem} {x1 : Int32} {x2 : Int32} {x3 : Int32}  {v' : Int32} {M' : Mem} (hb1 : PitchAt sh)  (h : R_X10_program x1 x2 x3 M = some (v', M')) : Gv m_X10_program [.ref 0, .int x1, .int x2, .int x3] sh M (.int v') M' := by
  refine Sp.of (ls := [some (.ref 0), some (.int x1), some (.int x2), some (.int x3)]) (by decide +kernel) (Nat.le_of_ble_eq_true rfl) rfl ?_
  have k0 : kd sh 0 = some (9 + 7, 0) := hb1.1
  have k1 : rf sh 0 3 = some 9 := hb1.2.2.2.2.1
  have k2 : kd sh 9 = some (4, 4) := hb1.2.2.2.2.2.2.2.2.2.2.2.2.2.2.2.2.2.2.2.2.1
  unfold R_X10_program at h
  refine r_iload_n e_X10_program_0 rfl ?_
  refine cS1v e_X10_program_1 cl_X10_89 ⟨Nat.le_of_ble_eq_true rfl, Nat.le_of_ble_eq_true rfl⟩ ⟨rfl, rfl⟩  (Nat.le_of_ble_eq_true rfl) (S_X10_isTeam ) ?_
  refine r_if_eq e_X10_program_4 (fun c1 => ?_) (fun c1 => ?_)
  · rw [if_pos c1] at h
    refine r_aload_n e_X10_program_27 rfl ?_
    refine r_sipush e_X10_program_28 sp_m1001 ?_
    refine cV1v e_X10_program_31 cl_X10_70 ⟨Nat.le_of_ble_eq_true rfl, Nat.le_of_ble_eq_true rfl⟩ ⟨rfl, rfl⟩ k0 (Nat.le_of_ble_eq_true rfl) (S_X10_finding hb1) ?_
    refine r_ireturn e_X10_program_34 rfl ⟨rfl, rfl⟩ ?_
    obtain ⟨rfl, rfl⟩ := ps2 h; exact ⟨rfl, rfl, rfl⟩
  · rw [if_neg c1] at h
    refine r_iload_n e_X10_program_7 rfl ?_
    refine cS1v e_X10_program_8 cl_X10_93 ⟨Nat.le_of_ble_eq_true rfl, Nat.le_of_ble_eq_true rfl⟩ ⟨rfl, rfl⟩  (Nat.le_of_ble_eq_true rfl) (S_X10_isMember ) ?_
    refine r_if_eq e_X10_program_11 (fun c2 => ?_) (fun c2 => ?_)
    · rw [if_pos c2] at h
      refine r_aload_n e_X10_program_27 rfl ?_
      refine r_sipush e_X10_program_28 sp_m1001 ?_
      refine cV1v e_X10_program_31 cl_X10_70 ⟨Nat.le_of_ble_eq_true rfl, Nat.le_of_ble_eq_true rfl⟩ ⟨rfl, rfl⟩ k0 (Nat.le_of_ble_eq_true rfl) (S_X10_finding hb1) ?_
      refine r_ireturn e_X10_program_34 rfl ⟨rfl, rfl⟩ ?_
      obtain ⟨rfl, rfl⟩ := ps2 h; exact ⟨rfl, rfl, rfl⟩
    · rw [if_neg c2] at h
      refine r_iload_n e_X10_program_14 rfl ?_
      refine r_iconst e_X10_program_15 ic_m1 ?_
      refine r_icmp_lt e_X10_program_16 (fun c3 => ?_) (fun c3 => ?_)
      · rw [if_pos c3] at h
        refine r_aload_n e_X10_program_27 rfl ?_
        refine r_sipush e_X10_program_28 sp_m1001 ?_
        refine cV1v e_X10_program_31 cl_X10_70 ⟨Nat.le_of_ble_eq_true rfl, Nat.le_of_ble_eq_true rfl⟩ ⟨rfl, rfl⟩ k0 (Nat.le_of_ble_eq_true rfl) (S_X10_finding hb1) ?_
        refine r_ireturn e_X10_program_34 rfl ⟨rfl, rfl⟩ ?_
        obtain ⟨rfl, rfl⟩ := ps2 h; exact ⟨rfl, rfl, rfl⟩
      · rw [if_neg c3] at h
        refine r_iload_n e_X10_program_19 rfl ?_
        refine r_aload_n e_X10_program_20 rfl ?_
        refine r_getI e_X10_program_21 fl_X10_52 i0 k0 ?_
        refine r_icmp_lt e_X10_program_24 (fun c4 => ?_) (fun c4 => ?_)
        · rw [if_pos c4] at h
          refine r_aload_n e_X10_program_35 rfl ?_
          refine r_getR e_X10_program_36 fl_X10_28 k0 k1 ?_
          refine r_iload_n e_X10_program_39 rfl ?_
          obtain ⟨b5, h⟩ := ck_el h
          refine r_aaload (b := (106 + 4 * x1.toNatClampNeg)) e_X10_program_40 k2 ⟨by decide, by decide⟩ b5 (hb1.2.2.2.2.2.2.2.2.2.2.2.2.2.2.2.2.2.2.2.2.2 x1.toNatClampNeg (vp_lt b5)).1 ?_
          refine r_getR e_X10_program_41 fl_X10_96 (show kd sh (106 + 4 * x1.toNatClampNeg) = some (8 + 7, 0) from (hb1.2.2.2.2.2.2.2.2.2.2.2.2.2.2.2.2.2.2.2.2.2 x1.toNatClampNeg (vp_lt b5)).2.1) (show rf sh (106 + 4 * x1.toNatClampNeg) 0 = some ((106 + 4 * x1.toNatClampNeg) + 1) from (hb1.2.2.2.2.2.2.2.2.2.2.2.2.2.2.2.2.2.2.2.2.2 x1.toNatClampNeg (vp_lt b5)).2.2.1) ?_
          refine r_iload_n e_X10_program_44 rfl ?_
          refine r_iload_n e_X10_program_45 rfl ?_
          obtain ⟨b6, h⟩ := ck_el h
          refine r_iastore e_X10_program_46 (show kd sh ((106 + 4 * x1.toNatClampNeg) + 1) = some (0, 5) from (hb1.2.2.2.2.2.2.2.2.2.2.2.2.2.2.2.2.2.2.2.2.2 x1.toNatClampNeg (vp_lt b5)).2.2.2.2.2.1) b6 ?_
          refine r_iconst e_X10_program_47 ic_1 ?_
          refine r_ireturn e_X10_program_48 rfl ⟨rfl, rfl⟩ ?_
          obtain ⟨rfl, rfl⟩ := ps2 h; exact ⟨rfl, rfl, rfl⟩
        · rw [if_neg c4] at h
          refine r_aload_n e_X10_program_27 rfl ?_
          refine r_sipush e_X10_program_28 sp_m1001 ?_
          refine cV1v e_X10_program_31 cl_X10_70 ⟨Nat.le_of_ble_eq_true rfl, Nat.le_of_ble_eq_true rfl⟩ ⟨rfl, rfl⟩ k0 (Nat.le_of_ble_eq_true rfl) (S_X10_finding hb1) ?_
          refine r_ireturn e_X10_program_34 rfl ⟨rfl, rfl⟩ ?_
          obtain ⟨rfl, rfl⟩ := ps2 h; exact ⟨rfl, rfl, rfl⟩
def R_X10_start (x1 : Int32) (x2 : Int32) (x3 : Int32) (x4 : Int32) (M : Mem) : Option (Int32 × Mem) := bd1 (if x3 < 0 then (0 : Int32) else (if (7 : Int32) ≤ x3 then (0 : Int32) else (if x4 < 0 then (0 : Int32) else (if (9 : Int32) ≤ x4 then (0 : Int32) else (1 : Int32))))) (fun v2_0 => if (V_X10_isTeam x1 M) = 0 then (some ((V_X10_finding (-1001 : Int32) M), U_X10_finding (-1001 : Int32) M)) else (if (V_X10_isMember x2 M) = 0 then (some ((V_X10_finding (-1001 : Int32) M), U_X10_finding (-1001 : Int32) M)) else (if v2_0 = 0 then (some ((V_X10_finding (-1001 : Int32) M), U_X10_finding (-1001 : Int32) M)) else (ck x1 4 (ck x2 5 (ck x1 4 (ck x2 5 (some ((1 : Int32), setI (setI M ((106 + 4 * x1.toNatClampNeg) + 2) x2.toNatClampNeg x3) ((106 + 4 * x1.toNatClampNeg) + 3) x2.toNatClampNeg x4)))))))))
theorem S_X10_start {sh : List SC} {M : Mem} {x1 : Int32} {x2 : Int32} {x3 : Int32} {x4 : Int32}  {v' : Int32} {M' : Mem} (hb1 : PitchAt sh)  (h : R_X10_start x1 x2 x3 x4 M = some (v', M')) : Gv m_X10_start [.ref 0, .int x1, .int x2, .int x3, .int x4] sh M (.int v') M' := by
  refine Sp.of (ls := [some (.ref 0), some (.int x1), some (.int x2), some (.int x3), some (.int x4), none]) (by decide +kernel) (Nat.le_of_ble_eq_true rfl) rfl ?_
  have k0 : kd sh 0 = some (9 + 7, 0) := hb1.1
  have k1 : rf sh 0 3 = some 9 := hb1.2.2.2.2.1
  have k2 : kd sh 9 = some (4, 4) := hb1.2.2.2.2.2.2.2.2.2.2.2.2.2.2.2.2.2.2.2.2.1
  unfold R_X10_start at h
  refine r_iload_n e_X10_start_0 rfl ?_
  obtain ⟨v2_0, q2, h⟩ := bd1_el h
  suffices j2 : WP m_X10_start _ 27 [some (.ref 0), some (.int x1), some (.int x2), some (.int x3), some (.int x4), none] [.int v2_0] sh M 0 0 by
    refine r_if_lt e_X10_start_1 (fun c1 => ?_) (fun c1 => ?_)
    · rw [if_pos c1] at q2
      refine r_iconst e_X10_start_26 ic_0 ?_
      subst q2; exact j2
    · rw [if_neg c1] at q2
      refine r_iload_n e_X10_start_4 rfl ?_
      refine r_bipush e_X10_start_5 bp_7 ?_
      refine r_icmp_ge e_X10_start_7 (fun c3 => ?_) (fun c3 => ?_)
      · rw [if_pos c3] at q2
        refine r_iconst e_X10_start_26 ic_0 ?_
        subst q2; exact j2
      · rw [if_neg c3] at q2
        refine r_iload e_X10_start_10 rfl ?_
        refine r_if_lt e_X10_start_12 (fun c4 => ?_) (fun c4 => ?_)
        · rw [if_pos c4] at q2
          refine r_iconst e_X10_start_26 ic_0 ?_
          subst q2; exact j2
        · rw [if_neg c4] at q2
          refine r_iload e_X10_start_15 rfl ?_
          refine r_bipush e_X10_start_17 bp_9 ?_
          refine r_icmp_ge e_X10_start_19 (fun c5 => ?_) (fun c5 => ?_)
          · rw [if_pos c5] at q2
            refine r_iconst e_X10_start_26 ic_0 ?_
            subst q2; exact j2
          · rw [if_neg c5] at q2
            refine r_iconst e_X10_start_22 ic_1 ?_
            refine r_goto e_X10_start_23 ?_
            subst q2; exact j2
  refine p_istore_6_5 e_X10_start_27 rfl rfl ?_
  refine r_iload_n e_X10_start_29 rfl ?_
  refine cS1v e_X10_start_30 cl_X10_89 ⟨Nat.le_of_ble_eq_true rfl, Nat.le_of_ble_eq_true rfl⟩ ⟨rfl, rfl⟩  (Nat.le_of_ble_eq_true rfl) (S_X10_isTeam ) ?_
  refine r_if_eq e_X10_start_33 (fun c6 => ?_) (fun c6 => ?_)
  · rw [if_pos c6] at h
    refine r_aload_n e_X10_start_48 rfl ?_
    refine r_sipush e_X10_start_49 sp_m1001 ?_
    refine cV1v e_X10_start_52 cl_X10_70 ⟨Nat.le_of_ble_eq_true rfl, Nat.le_of_ble_eq_true rfl⟩ ⟨rfl, rfl⟩ k0 (Nat.le_of_ble_eq_true rfl) (S_X10_finding hb1) ?_
    refine r_ireturn e_X10_start_55 rfl ⟨rfl, rfl⟩ ?_
    obtain ⟨rfl, rfl⟩ := ps2 h; exact ⟨rfl, rfl, rfl⟩
  · rw [if_neg c6] at h
    refine r_iload_n e_X10_start_36 rfl ?_
    refine cS1v e_X10_start_37 cl_X10_93 ⟨Nat.le_of_ble_eq_true rfl, Nat.le_of_ble_eq_true rfl⟩ ⟨rfl, rfl⟩  (Nat.le_of_ble_eq_true rfl) (S_X10_isMember ) ?_
    refine r_if_eq e_X10_start_40 (fun c7 => ?_) (fun c7 => ?_)
    · rw [if_pos c7] at h
      refine r_aload_n e_X10_start_48 rfl ?_
      refine r_sipush e_X10_start_49 sp_m1001 ?_
      refine cV1v e_X10_start_52 cl_X10_70 ⟨Nat.le_of_ble_eq_true rfl, Nat.le_of_ble_eq_true rfl⟩ ⟨rfl, rfl⟩ k0 (Nat.le_of_ble_eq_true rfl) (S_X10_finding hb1) ?_
      refine r_ireturn e_X10_start_55 rfl ⟨rfl, rfl⟩ ?_
      obtain ⟨rfl, rfl⟩ := ps2 h; exact ⟨rfl, rfl, rfl⟩
    · rw [if_neg c7] at h
      refine r_iload e_X10_start_43 rfl ?_
      refine r_if_ne e_X10_start_45 (fun c8 => ?_) (fun c8 => ?_)
      · rw [if_neg c8] at h
        refine r_aload_n e_X10_start_56 rfl ?_
        refine r_getR e_X10_start_57 fl_X10_28 k0 k1 ?_
        refine r_iload_n e_X10_start_60 rfl ?_
        obtain ⟨b9, h⟩ := ck_el h
        refine r_aaload (b := (106 + 4 * x1.toNatClampNeg)) e_X10_start_61 k2 ⟨by decide, by decide⟩ b9 (hb1.2.2.2.2.2.2.2.2.2.2.2.2.2.2.2.2.2.2.2.2.2 x1.toNatClampNeg (vp_lt b9)).1 ?_
        refine r_getR e_X10_start_62 fl_X10_99 (show kd sh (106 + 4 * x1.toNatClampNeg) = some (8 + 7, 0) from (hb1.2.2.2.2.2.2.2.2.2.2.2.2.2.2.2.2.2.2.2.2.2 x1.toNatClampNeg (vp_lt b9)).2.1) (show rf sh (106 + 4 * x1.toNatClampNeg) 1 = some ((106 + 4 * x1.toNatClampNeg) + 2) from (hb1.2.2.2.2.2.2.2.2.2.2.2.2.2.2.2.2.2.2.2.2.2 x1.toNatClampNeg (vp_lt b9)).2.2.2.1) ?_
        refine r_iload_n e_X10_start_65 rfl ?_
        refine r_iload_n e_X10_start_66 rfl ?_
        obtain ⟨b10, h⟩ := ck_el h
        refine r_iastore e_X10_start_67 (show kd sh ((106 + 4 * x1.toNatClampNeg) + 2) = some (0, 5) from (hb1.2.2.2.2.2.2.2.2.2.2.2.2.2.2.2.2.2.2.2.2.2 x1.toNatClampNeg (vp_lt b9)).2.2.2.2.2.2.1) b10 ?_
        refine r_aload_n e_X10_start_68 rfl ?_
        refine r_getR e_X10_start_69 fl_X10_28 k0 k1 ?_
        refine r_iload_n e_X10_start_72 rfl ?_
        obtain ⟨b11, h⟩ := ck_el h
        refine r_aaload (b := (106 + 4 * x1.toNatClampNeg)) e_X10_start_73 k2 ⟨by decide, by decide⟩ b11 (hb1.2.2.2.2.2.2.2.2.2.2.2.2.2.2.2.2.2.2.2.2.2 x1.toNatClampNeg (vp_lt b11)).1 ?_
        refine r_getR e_X10_start_74 fl_X10_102 (show kd sh (106 + 4 * x1.toNatClampNeg) = some (8 + 7, 0) from (hb1.2.2.2.2.2.2.2.2.2.2.2.2.2.2.2.2.2.2.2.2.2 x1.toNatClampNeg (vp_lt b11)).2.1) (show rf sh (106 + 4 * x1.toNatClampNeg) 2 = some ((106 + 4 * x1.toNatClampNeg) + 3) from (hb1.2.2.2.2.2.2.2.2.2.2.2.2.2.2.2.2.2.2.2.2.2 x1.toNatClampNeg (vp_lt b11)).2.2.2.2.1) ?_
        refine r_iload_n e_X10_start_77 rfl ?_
        refine r_iload e_X10_start_78 rfl ?_
        obtain ⟨b12, h⟩ := ck_el h
        refine r_iastore e_X10_start_80 (show kd sh ((106 + 4 * x1.toNatClampNeg) + 3) = some (0, 5) from (hb1.2.2.2.2.2.2.2.2.2.2.2.2.2.2.2.2.2.2.2.2.2 x1.toNatClampNeg (vp_lt b11)).2.2.2.2.2.2.2) b12 ?_
        refine r_iconst e_X10_start_81 ic_1 ?_
        refine r_ireturn e_X10_start_82 rfl ⟨rfl, rfl⟩ ?_
        obtain ⟨rfl, rfl⟩ := ps2 h; exact ⟨rfl, rfl, rfl⟩
      · rw [if_pos c8] at h
        refine r_aload_n e_X10_start_48 rfl ?_
        refine r_sipush e_X10_start_49 sp_m1001 ?_
        refine cV1v e_X10_start_52 cl_X10_70 ⟨Nat.le_of_ble_eq_true rfl, Nat.le_of_ble_eq_true rfl⟩ ⟨rfl, rfl⟩ k0 (Nat.le_of_ble_eq_true rfl) (S_X10_finding hb1) ?_
        refine r_ireturn e_X10_start_55 rfl ⟨rfl, rfl⟩ ?_
        obtain ⟨rfl, rfl⟩ := ps2 h; exact ⟨rfl, rfl, rfl⟩
def R_X10_views (x1 : Int32) (x2 : Int32) (x3 : Int32) (M : Mem) : Option (Int32 × Mem) := bd1 (if x2 < 0 then (0 : Int32) else (if (3 : Int32) < x2 then (0 : Int32) else (1 : Int32))) (fun v2_0 => bd1 (if x3 = 0 then (1 : Int32) else (if x3 < (2 : Int32) then (0 : Int32) else (if (9 : Int32) < x3 then (0 : Int32) else (1 : Int32)))) (fun v5_0 => if (V_X10_isTeam x1 M) = 0 then (some ((V_X10_finding (-1001 : Int32) M), U_X10_finding (-1001 : Int32) M)) else (if v2_0 = 0 then (some ((V_X10_finding (-1001 : Int32) M), U_X10_finding (-1001 : Int32) M)) else (if v5_0 = 0 then (some ((V_X10_finding (-1001 : Int32) M), U_X10_finding (-1001 : Int32) M)) else (ck x1 4 (ck x1 4 (some ((1 : Int32), setI (setI M (106 + 4 * x1.toNatClampNeg) 3 x2) (106 + 4 * x1.toNatClampNeg) 4 x3))))))))
theorem S_X10_views {sh : List SC} {M : Mem} {x1 : Int32} {x2 : Int32} {x3 : Int32}  {v' : Int32} {M' : Mem} (hb1 : PitchAt sh)  (h : R_X10_views x1 x2 x3 M = some (v', M')) : Gv m_X10_views [.ref 0, .int x1, .int x2, .int x3] sh M (.int v') M' := by
  refine Sp.of (ls := [some (.ref 0), some (.int x1), some (.int x2), some (.int x3), none, none]) (by decide +kernel) (Nat.le_of_ble_eq_true rfl) rfl ?_
  have k0 : kd sh 0 = some (9 + 7, 0) := hb1.1
  have k1 : rf sh 0 3 = some 9 := hb1.2.2.2.2.1
  have k2 : kd sh 9 = some (4, 4) := hb1.2.2.2.2.2.2.2.2.2.2.2.2.2.2.2.2.2.2.2.2.1
  unfold R_X10_views at h
  refine r_iload_n e_X10_views_0 rfl ?_
  obtain ⟨v2_0, q2, h⟩ := bd1_el h
  suffices j2 : WP m_X10_views _ 14 [some (.ref 0), some (.int x1), some (.int x2), some (.int x3), none, none] [.int v2_0] sh M 0 0 by
    refine r_if_lt e_X10_views_1 (fun c1 => ?_) (fun c1 => ?_)
    · rw [if_pos c1] at q2
      refine r_iconst e_X10_views_13 ic_0 ?_
      subst q2; exact j2
    · rw [if_neg c1] at q2
      refine r_iload_n e_X10_views_4 rfl ?_
      refine r_iconst e_X10_views_5 ic_3 ?_
      refine r_icmp_gt e_X10_views_6 (fun c3 => ?_) (fun c3 => ?_)
      · rw [if_pos c3] at q2
        refine r_iconst e_X10_views_13 ic_0 ?_
        subst q2; exact j2
      · rw [if_neg c3] at q2
        refine r_iconst e_X10_views_9 ic_1 ?_
        refine r_goto e_X10_views_10 ?_
        subst q2; exact j2
  refine p_istore_6_4 e_X10_views_14 rfl rfl ?_
  refine r_iload_n e_X10_views_16 rfl ?_
  obtain ⟨v5_0, q5, h⟩ := bd1_el h
  suffices j5 : WP m_X10_views _ 36 [some (.ref 0), some (.int x1), some (.int x2), some (.int x3), some (.int v2_0), none] [.int v5_0] sh M 0 0 by
    refine r_if_eq e_X10_views_17 (fun c4 => ?_) (fun c4 => ?_)
    · rw [if_pos c4] at q5
      refine r_iconst e_X10_views_31 ic_1 ?_
      refine r_goto e_X10_views_32 ?_
      subst q5; exact j5
    · rw [if_neg c4] at q5
      refine r_iload_n e_X10_views_20 rfl ?_
      refine r_iconst e_X10_views_21 ic_2 ?_
      refine r_icmp_lt e_X10_views_22 (fun c6 => ?_) (fun c6 => ?_)
      · rw [if_pos c6] at q5
        refine r_iconst e_X10_views_35 ic_0 ?_
        subst q5; exact j5
      · rw [if_neg c6] at q5
        refine r_iload_n e_X10_views_25 rfl ?_
        refine r_bipush e_X10_views_26 bp_9 ?_
        refine r_icmp_gt e_X10_views_28 (fun c7 => ?_) (fun c7 => ?_)
        · rw [if_pos c7] at q5
          refine r_iconst e_X10_views_35 ic_0 ?_
          subst q5; exact j5
        · rw [if_neg c7] at q5
          refine r_iconst e_X10_views_31 ic_1 ?_
          refine r_goto e_X10_views_32 ?_
          subst q5; exact j5
  refine p_istore_6_5 e_X10_views_36 rfl rfl ?_
  refine r_iload_n e_X10_views_38 rfl ?_
  refine cS1v e_X10_views_39 cl_X10_89 ⟨Nat.le_of_ble_eq_true rfl, Nat.le_of_ble_eq_true rfl⟩ ⟨rfl, rfl⟩  (Nat.le_of_ble_eq_true rfl) (S_X10_isTeam ) ?_
  refine r_if_eq e_X10_views_42 (fun c8 => ?_) (fun c8 => ?_)
  · rw [if_pos c8] at h
    refine r_aload_n e_X10_views_55 rfl ?_
    refine r_sipush e_X10_views_56 sp_m1001 ?_
    refine cV1v e_X10_views_59 cl_X10_70 ⟨Nat.le_of_ble_eq_true rfl, Nat.le_of_ble_eq_true rfl⟩ ⟨rfl, rfl⟩ k0 (Nat.le_of_ble_eq_true rfl) (S_X10_finding hb1) ?_
    refine r_ireturn e_X10_views_62 rfl ⟨rfl, rfl⟩ ?_
    obtain ⟨rfl, rfl⟩ := ps2 h; exact ⟨rfl, rfl, rfl⟩
  · rw [if_neg c8] at h
    refine r_iload e_X10_views_45 rfl ?_
    refine r_if_eq e_X10_views_47 (fun c9 => ?_) (fun c9 => ?_)
    · rw [if_pos c9] at h
      refine r_aload_n e_X10_views_55 rfl ?_
      refine r_sipush e_X10_views_56 sp_m1001 ?_
      refine cV1v e_X10_views_59 cl_X10_70 ⟨Nat.le_of_ble_eq_true rfl, Nat.le_of_ble_eq_true rfl⟩ ⟨rfl, rfl⟩ k0 (Nat.le_of_ble_eq_true rfl) (S_X10_finding hb1) ?_
      refine r_ireturn e_X10_views_62 rfl ⟨rfl, rfl⟩ ?_
      obtain ⟨rfl, rfl⟩ := ps2 h; exact ⟨rfl, rfl, rfl⟩
    · rw [if_neg c9] at h
      refine r_iload e_X10_views_50 rfl ?_
      refine r_if_ne e_X10_views_52 (fun c10 => ?_) (fun c10 => ?_)
      · rw [if_neg c10] at h
        refine r_aload_n e_X10_views_63 rfl ?_
        refine r_getR e_X10_views_64 fl_X10_28 k0 k1 ?_
        refine r_iload_n e_X10_views_67 rfl ?_
        obtain ⟨b11, h⟩ := ck_el h
        refine r_aaload (b := (106 + 4 * x1.toNatClampNeg)) e_X10_views_68 k2 ⟨by decide, by decide⟩ b11 (hb1.2.2.2.2.2.2.2.2.2.2.2.2.2.2.2.2.2.2.2.2.2 x1.toNatClampNeg (vp_lt b11)).1 ?_
        refine r_iload_n e_X10_views_69 rfl ?_
        refine r_putI e_X10_views_70 fl_X10_105 (show kd sh (106 + 4 * x1.toNatClampNeg) = some (8 + 7, 0) from (hb1.2.2.2.2.2.2.2.2.2.2.2.2.2.2.2.2.2.2.2.2.2 x1.toNatClampNeg (vp_lt b11)).2.1) ?_
        refine r_aload_n e_X10_views_73 rfl ?_
        refine r_getR e_X10_views_74 fl_X10_28 k0 k1 ?_
        refine r_iload_n e_X10_views_77 rfl ?_
        obtain ⟨b12, h⟩ := ck_el h
        refine r_aaload (b := (106 + 4 * x1.toNatClampNeg)) e_X10_views_78 k2 ⟨by decide, by decide⟩ b12 (hb1.2.2.2.2.2.2.2.2.2.2.2.2.2.2.2.2.2.2.2.2.2 x1.toNatClampNeg (vp_lt b12)).1 ?_
        refine r_iload_n e_X10_views_79 rfl ?_
        refine r_putI e_X10_views_80 fl_X10_108 (show kd sh (106 + 4 * x1.toNatClampNeg) = some (8 + 7, 0) from (hb1.2.2.2.2.2.2.2.2.2.2.2.2.2.2.2.2.2.2.2.2.2 x1.toNatClampNeg (vp_lt b12)).2.1) ?_
        refine r_iconst e_X10_views_83 ic_1 ?_
        refine r_ireturn e_X10_views_84 rfl ⟨rfl, rfl⟩ ?_
        obtain ⟨rfl, rfl⟩ := ps2 h; exact ⟨rfl, rfl, rfl⟩
      · rw [if_pos c10] at h
        refine r_aload_n e_X10_views_55 rfl ?_
        refine r_sipush e_X10_views_56 sp_m1001 ?_
        refine cV1v e_X10_views_59 cl_X10_70 ⟨Nat.le_of_ble_eq_true rfl, Nat.le_of_ble_eq_true rfl⟩ ⟨rfl, rfl⟩ k0 (Nat.le_of_ble_eq_true rfl) (S_X10_finding hb1) ?_
        refine r_ireturn e_X10_views_62 rfl ⟨rfl, rfl⟩ ?_
        obtain ⟨rfl, rfl⟩ := ps2 h; exact ⟨rfl, rfl, rfl⟩
