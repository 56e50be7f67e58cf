def R_X11_keepWord (mA : Nat) (M : Mem) : Option (Int32 × Mem) := ck (((800 : Int32) * (M.1 242 8)) + (M.1 242 11)) 4800 (ck (((800 : Int32) * (M.1 242 8)) + (M.1 242 11)) 4800 (bnd1 (R_X11_word  mA (setI (setI (setI M 244 (((800 : Int32) * (M.1 242 8)) + (M.1 242 11)).toNatClampNeg (M.1 242 5)) 245 (((800 : Int32) * (M.1 242 8)) + (M.1 242 11)).toNatClampNeg (M.1 242 6)) 242 11 ((M.1 242 11) + (1 : Int32)))) (fun M3 => some ((1 : Int32), M3))))
theorem S_X11_keepWord {sh : List SC} {M : Mem}  {mA : Nat} {oA : Nat} {v' : Int32} {M' : Mem} (hb1 : ModelAt sh mA oA)  (h : R_X11_keepWord mA M = some (v', M')) : Gv m_X11_keepWord [.ref 242] sh M (.int v') M' := by
  refine Sp.of (ls := [some (.ref 242)]) (by decide +kernel) (Nat.le_of_ble_eq_true rfl) rfl ?_
  have k0 : kd sh 242 = some (10 + 7, 0) := hb1.1
  have k1 : rf sh 242 9 = some 244 := hb1.2.2.1
  have k2 : kd sh 244 = some (0, 4800) := hb1.2.2.2.2.2.2.2.2.2.2.2.2.2.2.2.2.2.2.2.2.2.2.2.2.2.2.2.2.1
  have k3 : rf sh 242 10 = some 245 := hb1.2.2.2.1
  have k4 : kd sh 245 = some (0, 4800) := hb1.2.2.2.2.2.2.2.2.2.2.2.2.2.2.2.2.2.2.2.2.2.2.2.2.2.2.2.2.2.1
  unfold R_X11_keepWord at h
  refine r_aload_n e_X11_keepWord_0 rfl ?_
  refine r_getR e_X11_keepWord_1 fl_X11_102 k0 k1 ?_
  refine r_sipush e_X11_keepWord_4 sp_800 ?_
  refine r_aload_n e_X11_keepWord_7 rfl ?_
  refine r_getI e_X11_keepWord_8 fl_X11_105 i0 k0 ?_
  refine r_imul e_X11_keepWord_11 ?_
  refine r_aload_n e_X11_keepWord_12 rfl ?_
  refine r_getI e_X11_keepWord_13 fl_X11_108 i0 k0 ?_
  refine r_iadd e_X11_keepWord_16 ?_
  refine r_aload_n e_X11_keepWord_17 rfl ?_
  refine r_getI e_X11_keepWord_18 fl_X11_28 i0 k0 ?_
  obtain ⟨b1, h⟩ := ck_el h
  refine r_iastore e_X11_keepWord_21 k2 b1 ?_
  refine r_aload_n e_X11_keepWord_22 rfl ?_
  refine r_getR e_X11_keepWord_23 fl_X11_111 k0 k3 ?_
  refine r_sipush e_X11_keepWord_26 sp_800 ?_
  refine r_aload_n e_X11_keepWord_29 rfl ?_
  refine r_getIe e_X11_keepWord_30 fl_X11_105 i0 k0 (gs_aI (by omega)) ?_
  refine r_imul e_X11_keepWord_33 ?_
  refine r_aload_n e_X11_keepWord_34 rfl ?_
  refine r_getIe e_X11_keepWord_35 fl_X11_108 i0 k0 (gs_aI (by omega)) ?_
  refine r_iadd e_X11_keepWord_38 ?_
  refine r_aload_n e_X11_keepWord_39 rfl ?_
  refine r_getIe e_X11_keepWord_40 fl_X11_21 i0 k0 (gs_aI (by omega)) ?_
  obtain ⟨b2, h⟩ := ck_el h
  refine r_iastore e_X11_keepWord_43 k4 b2 ?_
  refine r_aload_n e_X11_keepWord_44 rfl ?_
  refine r_dup e_X11_keepWord_45 rfl ?_
  refine r_getIe e_X11_keepWord_46 fl_X11_108 i0 k0 ((gs_aI (by omega)).trans (gs_aI (by omega))) ?_
  refine r_iconst e_X11_keepWord_49 ic_1 ?_
  refine r_iadd e_X11_keepWord_50 ?_
  refine r_putI e_X11_keepWord_51 fl_X11_108 k0 ?_
  refine r_aload_n e_X11_keepWord_54 rfl ?_
  obtain ⟨M3, w3, h⟩ := bnd1_el h
  refine cV0u e_X11_keepWord_55 cl_X11_114 ⟨Nat.le_of_ble_eq_true rfl, Nat.le_of_ble_eq_true rfl⟩ ⟨rfl, rfl⟩ k0 (Nat.le_of_ble_eq_true rfl) (S_X11_word hb1 w3) ?_
  refine r_iconst e_X11_keepWord_58 ic_1 ?_
  refine r_zreturn e_X11_keepWord_59 rfl ⟨rfl, rfl⟩ (by first | exact Or.inl rfl | exact Or.inr rfl) ?_
  obtain ⟨rfl, rfl⟩ := ps2 h; exact ⟨rfl, rfl, rfl⟩
def R_X11_name (x1 : Int32) (mA : Nat) (M : Mem) : Option (Int32 × Mem) := if (M.1 242 5) = (1 : Int32) then (ck (M.1 242 15) 800 (ck (M.1 242 15) 800 (ck (M.1 242 15) 800 (ck (M.1 242 15) 800 (cz x1 (bnd2 (R_X11_keepWord  mA (setI (setI (setI (setI (setJ M 249 (M.1 242 15).toNatClampNeg (M.2 242 7)) 250 (M.1 242 15).toNatClampNeg (M.1 242 3)) 251 (M.1 242 15).toNatClampNeg (M.1 242 11)) 252 (M.1 242 15).toNatClampNeg x1) 242 15 ((M.1 242 15) + (1 : Int32)))) (fun v7 M7 => cz v7 (some (v7, M7))))))))) else (cz (V_X11_wrong  M) (some ((V_X11_wrong  M), U_X11_wrong  M)))
theorem S_X11_name {sh : List SC} {M : Mem} {x1 : Int32} {mA : Nat} {oA : Nat} {v' : Int32} {M' : Mem} (hb1 : ModelAt sh mA oA)  (h : R_X11_name x1 mA M = some (v', M')) : Gv m_X11_name [.ref 242, .int x1] sh M (.int v') M' := by
  refine Sp.of (ls := [some (.ref 242), some (.int x1)]) (by decide +kernel) (Nat.le_of_ble_eq_true rfl) rfl ?_
  have k0 : kd sh 242 = some (10 + 7, 0) := hb1.1
  have k1 : rf sh 242 16 = some 249 := hb1.2.2.2.2.2.2.2.1
  have k2 : kd sh 249 = some (1, 800) := hb1.2.2.2.2.2.2.2.2.2.2.2.2.2.2.2.2.2.2.2.2.2.2.2.2.2.2.2.2.2.2.2.2.2.1
  have k3 : rf sh 242 17 = some 250 := hb1.2.2.2.2.2.2.2.2.1
  have k4 : kd sh 250 = some (0, 800) := hb1.2.2.2.2.2.2.2.2.2.2.2.2.2.2.2.2.2.2.2.2.2.2.2.2.2.2.2.2.2.2.2.2.2.2.1
  have k5 : rf sh 242 18 = some 251 := hb1.2.2.2.2.2.2.2.2.2.1
  have k6 : kd sh 251 = some (0, 800) := hb1.2.2.2.2.2.2.2.2.2.2.2.2.2.2.2.2.2.2.2.2.2.2.2.2.2.2.2.2.2.2.2.2.2.2.2.1
  have k7 : rf sh 242 19 = some 252 := hb1.2.2.2.2.2.2.2.2.2.2.1
  have k8 : kd sh 252 = some (2, 800) := hb1.2.2.2.2.2.2.2.2.2.2.2.2.2.2.2.2.2.2.2.2.2.2.2.2.2.2.2.2.2.2.2.2.2.2.2.2.1
  unfold R_X11_name at h
  refine r_aload_n e_X11_name_0 rfl ?_
  refine r_getI e_X11_name_1 fl_X11_28 i0 k0 ?_
  refine r_iconst e_X11_name_4 ic_1 ?_
  refine r_icmp_eq e_X11_name_5 (fun c1 => ?_) (fun c1 => ?_)
  · rw [if_pos c1] at h
    refine r_aload_n e_X11_name_13 rfl ?_
    refine r_getR e_X11_name_14 fl_X11_124 k0 k1 ?_
    refine r_aload_n e_X11_name_17 rfl ?_
    refine r_getI e_X11_name_18 fl_X11_128 i0 k0 ?_
    refine r_aload_n e_X11_name_21 rfl ?_
    refine r_getJ e_X11_name_22 fl_X11_24 k0 ?_
    obtain ⟨b2, h⟩ := ck_el h
    refine r_lastore e_X11_name_25 k2 b2 ?_
    refine r_aload_n e_X11_name_26 rfl ?_
    refine r_getR e_X11_name_27 fl_X11_131 k0 k3 ?_
    refine r_aload_n e_X11_name_30 rfl ?_
    refine r_getIe e_X11_name_31 fl_X11_128 i0 k0 gs_k ?_
    refine r_aload_n e_X11_name_34 rfl ?_
    refine r_getIe e_X11_name_35 fl_X11_18 i0 k0 gs_k ?_
    obtain ⟨b3, h⟩ := ck_el h
    refine r_iastore e_X11_name_38 k4 b3 ?_
    refine r_aload_n e_X11_name_39 rfl ?_
    refine r_getR e_X11_name_40 fl_X11_134 k0 k5 ?_
    refine r_aload_n e_X11_name_43 rfl ?_
    refine r_getIe e_X11_name_44 fl_X11_128 i0 k0 ((gs_aI (by omega)).trans gs_k) ?_
    refine r_aload_n e_X11_name_47 rfl ?_
    refine r_getIe e_X11_name_48 fl_X11_108 i0 k0 ((gs_aI (by omega)).trans gs_k) ?_
    obtain ⟨b4, h⟩ := ck_el h
    refine r_iastore e_X11_name_51 k6 b4 ?_
    refine r_aload_n e_X11_name_52 rfl ?_
    refine r_getR e_X11_name_53 fl_X11_137 k0 k7 ?_
    refine r_aload_n e_X11_name_56 rfl ?_
    refine r_getIe e_X11_name_57 fl_X11_128 i0 k0 ((gs_aI (by omega)).trans ((gs_aI (by omega)).trans gs_k)) ?_
    refine r_iload_n e_X11_name_60 rfl ?_
    obtain ⟨b5, h⟩ := ck_el h
    obtain ⟨b6, h⟩ := cz_el h
    refine r_zastore e_X11_name_61 k8 b5 b6 ?_
    refine r_aload_n e_X11_name_62 rfl ?_
    refine r_dup e_X11_name_63 rfl ?_
    refine r_getIe e_X11_name_64 fl_X11_128 i0 k0 ((gs_aI (by omega)).trans ((gs_aI (by omega)).trans ((gs_aI (by omega)).trans gs_k))) ?_
    refine r_iconst e_X11_name_67 ic_1 ?_
    refine r_iadd e_X11_name_68 ?_
    refine r_putI e_X11_name_69 fl_X11_128 k0 ?_
    refine r_aload_n e_X11_name_72 rfl ?_
    obtain ⟨v7, M7, w7, h⟩ := bnd2_el h
    refine cV0v e_X11_name_73 cl_X11_117 ⟨Nat.le_of_ble_eq_true rfl, Nat.le_of_ble_eq_true rfl⟩ ⟨rfl, rfl⟩ k0 (Nat.le_of_ble_eq_true rfl) (S_X11_keepWord hb1 w7) ?_
    obtain ⟨b8, h⟩ := cz_el h
    refine r_zreturn e_X11_name_76 rfl ⟨rfl, rfl⟩ b8 ?_
    obtain ⟨rfl, rfl⟩ := ps2 h; exact ⟨rfl, rfl, rfl⟩
  · rw [if_neg c1] at h
    refine r_aload_n e_X11_name_8 rfl ?_
    refine cV0v e_X11_name_9 cl_X11_121 ⟨Nat.le_of_ble_eq_true rfl, Nat.le_of_ble_eq_true rfl⟩ ⟨rfl, rfl⟩ k0 (Nat.le_of_ble_eq_true rfl) (S_X11_wrong hb1) ?_
    obtain ⟨b9, h⟩ := cz_el h
    refine r_zreturn e_X11_name_12 rfl ⟨rfl, rfl⟩ b9 ?_
    obtain ⟨rfl, rfl⟩ := ps2 h; exact ⟨rfl, rfl, rfl⟩
def R_X11_is (x1 : Int32) (mA : Nat) (M : Mem) : Option (Int32 × Mem) := bnd2 (if (M.1 242 5) = x1 then (bnd2 (R_X11_keepWord  mA M) (fun v4 M4 => (some (v4, M4)))) else (some ((V_X11_wrong  M), U_X11_wrong  M))) (fun v3_0 M3 => cz v3_0 (some (v3_0, M3)))
theorem S_X11_is {sh : List SC} {M : Mem} {x1 : Int32} {mA : Nat} {oA : Nat} {v' : Int32} {M' : Mem} (hb1 : ModelAt sh mA oA)  (h : R_X11_is x1 mA M = some (v', M')) : Gv m_X11_is [.ref 242, .int x1] sh M (.int v') M' := by
  refine Sp.of (ls := [some (.ref 242), some (.int x1)]) (by decide +kernel) (Nat.le_of_ble_eq_true rfl) rfl ?_
  have k0 : kd sh 242 = some (10 + 7, 0) := hb1.1
  unfold R_X11_is at h
  refine r_aload_n e_X11_is_0 rfl ?_
  refine r_getI e_X11_is_1 fl_X11_28 i0 k0 ?_
  refine r_iload_n e_X11_is_4 rfl ?_
  obtain ⟨K3, hK3, h⟩ := bnd2_in h
  suffices j3 : ∀ v3_0 M3, K3 (v3_0, M3) = some (v', M') → WP m_X11_is _ 19 [none, none] [.int v3_0] sh M3 0 0 by
    refine r_icmp_ne e_X11_is_5 (fun c1 => ?_) (fun c1 => ?_)
    · rw [if_neg c1] at h
      refine r_aload_n e_X11_is_15 rfl ?_
      refine cV0v e_X11_is_16 cl_X11_121 ⟨Nat.le_of_ble_eq_true rfl, Nat.le_of_ble_eq_true rfl⟩ ⟨rfl, rfl⟩ k0 (Nat.le_of_ble_eq_true rfl) (S_X11_wrong hb1) ?_
      refine d_2_0 ?_
      refine d_2_1 ?_
      exact j3 _ _ h
    · rw [if_pos c1] at h
      refine r_aload_n e_X11_is_8 rfl ?_
      obtain ⟨v4, M4, w4, h⟩ := bnd2_elK h
      refine cV0v e_X11_is_9 cl_X11_117 ⟨Nat.le_of_ble_eq_true rfl, Nat.le_of_ble_eq_true rfl⟩ ⟨rfl, rfl⟩ k0 (Nat.le_of_ble_eq_true rfl) (S_X11_keepWord hb1 w4) ?_
      refine r_goto e_X11_is_12 ?_
      refine d_2_0 ?_
      refine d_2_1 ?_
      exact j3 _ _ h
  intro v3_0 M3 h
  rw [hK3] at h
  obtain ⟨b5, h⟩ := cz_el h
  refine r_zreturn e_X11_is_19 rfl ⟨rfl, rfl⟩ b5 ?_
  obtain ⟨rfl, rfl⟩ := ps2 h; exact ⟨rfl, rfl, rfl⟩
def L_X11_term_26 (mA : Nat) : Nat → Int32 → Mem → Option ((Int32 × Mem) ⊕ (Mem))
  | 0, _, _ => none
  | n + 1, u1, M => if (M.1 242 5) = (45 : Int32) then (if u1 = (6 : Int32) then (cz (V_X11_wrong  M) (some (.inl ((V_X11_wrong  M), U_X11_wrong  M)))) else (bnd2 (R_X11_keepWord  mA M) (fun v8 M8 => L_X11_term_26 mA n (u1 + 1) M8))) else (some (.inr M))
theorem LW_X11_term_26 {sh : List SC} {Q : Po}  {mA : Nat} {oA : Nat}  (hb1 : ModelAt sh mA oA)  : ∀ (n : Nat) (u1 : Int32) (M : Mem) (q : (Int32 × Mem) ⊕ (Mem)), L_X11_term_26 mA n u1 M = some q → (∀ x, q = .inl x → Q (some (.int x.1)) sh x.2) → (∀ Mz, q = .inr Mz → WP m_X11_term Q 57 [some (.ref 242), none] [] sh Mz 0 0) → WP m_X11_term Q 26 [some (.ref 242), some (.int u1)] [] sh M 0 0 := by
  intro n
  induction n with
  | zero =>
    intro u1 M q h hR hE
    rw [L_X11_term_26] at h
    cases h
  | succ n ih =>
    intro u1 M q h hR hE
    rw [L_X11_term_26] at h
    have k0 : kd sh 242 = some (10 + 7, 0) := hb1.1
    refine r_aload_n e_X11_term_26 rfl ?_
    refine r_getI e_X11_term_27 fl_X11_28 i0 k0 ?_
    refine r_bipush e_X11_term_30 bp_45 ?_
    refine r_icmp_ne e_X11_term_32 (fun c6 => ?_) (fun c6 => ?_)
    · rw [if_neg c6] at h
      refine d_2_1 ?_
      exact hE _ (Option.some.inj h).symm
    · rw [if_pos c6] at h
      refine r_iload_n e_X11_term_35 rfl ?_
      refine r_bipush e_X11_term_36 bp_6 ?_
      refine r_icmp_ne e_X11_term_38 (fun c7 => ?_) (fun c7 => ?_)
      · rw [if_neg c7] at h
        refine r_aload_n e_X11_term_46 rfl ?_
        obtain ⟨v8, M8, w8, h⟩ := bnd2_el h
        refine cV0v e_X11_term_47 cl_X11_117 ⟨Nat.le_of_ble_eq_true rfl, Nat.le_of_ble_eq_true rfl⟩ ⟨rfl, rfl⟩ k0 (Nat.le_of_ble_eq_true rfl) (S_X11_keepWord hb1 w8) ?_
        refine r_pop e_X11_term_50 rfl ?_
        refine p_iinc_2_1 e_X11_term_51 rfl ic_1 rfl ?_
        refine r_goto e_X11_term_54 ?_
        exact ih _ _ _ h hR hE
      · rw [if_pos c7] at h
        refine r_aload_n e_X11_term_41 rfl ?_
        refine cV0v e_X11_term_42 cl_X11_121 ⟨Nat.le_of_ble_eq_true rfl, Nat.le_of_ble_eq_true rfl⟩ ⟨rfl, rfl⟩ k0 (Nat.le_of_ble_eq_true rfl) (S_X11_wrong hb1) ?_
        obtain ⟨b9, h⟩ := cz_el h
        refine r_zreturn e_X11_term_45 rfl ⟨rfl, rfl⟩ b9 ?_
        exact hR _ (Option.some.inj h).symm
def R_X11_term (mA : Nat) (M : Mem) : Option (Int32 × Mem) := if (M.1 242 20) = (12 : Int32) then (cz (V_X11_wrong  M) (some ((V_X11_wrong  M), U_X11_wrong  M))) else (br1 (L_X11_term_26 mA FUEL (0 : Int32) (setI M 242 20 ((M.1 242 20) + (1 : Int32)))) (fun M10 => if (M10.1 242 5) = (5 : Int32) then (bnd2 (R_X11_keepWord  mA M10) (fun v21 M21 => bnd2 (if (M21.1 242 5) = (2 : Int32) then (if (4 : Int32) < (M21.1 242 6) then (some ((V_X11_wrong  M21), U_X11_wrong  M21)) else (bnd2 (R_X11_keepWord  mA M21) (fun v27 M27 => (some (v27, M27))))) else (some ((V_X11_wrong  M21), U_X11_wrong  M21))) (fun v25_0 M25 => cz v25_0 (some (v25_0, M25))))) else (bnd2 (if (M10.1 242 5) = (2 : Int32) then (bnd2 (R_X11_keepWord  mA M10) (fun v15 M15 => (some (v15, M15)))) else (if (M10.1 242 5) = (3 : Int32) then (bnd2 (R_X11_keepWord  mA M10) (fun v17 M17 => (some (v17, M17)))) else (if (M10.1 242 5) = (4 : Int32) then (bnd2 (R_X11_keepWord  mA M10) (fun v19 M19 => (some (v19, M19)))) else (some ((V_X11_wrong  M10), U_X11_wrong  M10))))) (fun v14_0 M14 => cz v14_0 (some (v14_0, M14))))))
theorem S_X11_term {sh : List SC} {M : Mem}  {mA : Nat} {oA : Nat} {v' : Int32} {M' : Mem} (hb1 : ModelAt sh mA oA)  (h : R_X11_term mA M = some (v', M')) : Gv m_X11_term [.ref 242] sh M (.int v') M' := by
  refine Sp.of (ls := [some (.ref 242), none]) (by decide +kernel) (Nat.le_of_ble_eq_true rfl) rfl ?_
  have k0 : kd sh 242 = some (10 + 7, 0) := hb1.1
  unfold R_X11_term at h
  refine r_aload_n e_X11_term_0 rfl ?_
  refine r_getI e_X11_term_1 fl_X11_141 i0 k0 ?_
  refine r_bipush e_X11_term_4 bp_12 ?_
  refine r_icmp_ne e_X11_term_6 (fun c1 => ?_) (fun c1 => ?_)
  · rw [if_neg c1] at h
    refine r_aload_n e_X11_term_14 rfl ?_
    refine r_dup e_X11_term_15 rfl ?_
    refine r_getI e_X11_term_16 fl_X11_141 i0 k0 ?_
    refine r_iconst e_X11_term_19 ic_1 ?_
    refine r_iadd e_X11_term_20 ?_
    refine r_putI e_X11_term_21 fl_X11_141 k0 ?_
    refine r_iconst e_X11_term_24 ic_0 ?_
    refine p_istore_n_2_1 e_X11_term_25 rfl rfl ?_
    obtain ⟨q10, w10, l10, r10⟩ := br1_el h
    refine LW_X11_term_26 hb1 _ _ _ _ w10 (fun x10 y10 => ?_) (fun M10 y10 => ?_)
    · have h := l10 _ y10
      obtain ⟨rfl, rfl⟩ := ps2 h; exact ⟨rfl, rfl, rfl⟩
    have h := r10 _ y10
    refine r_aload_n e_X11_term_57 rfl ?_
    refine r_getI e_X11_term_58 fl_X11_28 i0 k0 ?_
    refine r_iconst e_X11_term_61 ic_5 ?_
    refine r_icmp_ne e_X11_term_62 (fun c11 => ?_) (fun c11 => ?_)
    · rw [if_neg c11] at h
      refine r_aload_n e_X11_term_98 rfl ?_
      refine r_getI e_X11_term_99 fl_X11_28 i0 k0 ?_
      refine r_iconst e_X11_term_102 ic_2 ?_
      obtain ⟨K14, hK14, h⟩ := bnd2_in h
      suffices j14 : ∀ v14_0 M14, K14 (v14_0, M14) = some (v', M') → WP m_X11_term _ 133 [none, none] [.int v14_0] sh M14 0 0 by
        refine r_icmp_eq e_X11_term_103 (fun c12 => ?_) (fun c12 => ?_)
        · rw [if_pos c12] at h
          refine r_aload_n e_X11_term_122 rfl ?_
          obtain ⟨v15, M15, w15, h⟩ := bnd2_elK h
          refine cV0v e_X11_term_123 cl_X11_117 ⟨Nat.le_of_ble_eq_true rfl, Nat.le_of_ble_eq_true rfl⟩ ⟨rfl, rfl⟩ k0 (Nat.le_of_ble_eq_true rfl) (S_X11_keepWord hb1 w15) ?_
          refine r_goto e_X11_term_126 ?_
          refine d_2_0 ?_
          exact j14 _ _ h
        · rw [if_neg c12] at h
          refine r_aload_n e_X11_term_106 rfl ?_
          refine r_getI e_X11_term_107 fl_X11_28 i0 k0 ?_
          refine r_iconst e_X11_term_110 ic_3 ?_
          refine r_icmp_eq e_X11_term_111 (fun c16 => ?_) (fun c16 => ?_)
          · rw [if_pos c16] at h
            refine r_aload_n e_X11_term_122 rfl ?_
            obtain ⟨v17, M17, w17, h⟩ := bnd2_elK h
            refine cV0v e_X11_term_123 cl_X11_117 ⟨Nat.le_of_ble_eq_true rfl, Nat.le_of_ble_eq_true rfl⟩ ⟨rfl, rfl⟩ k0 (Nat.le_of_ble_eq_true rfl) (S_X11_keepWord hb1 w17) ?_
            refine r_goto e_X11_term_126 ?_
            refine d_2_0 ?_
            exact j14 _ _ h
          · rw [if_neg c16] at h
            refine r_aload_n e_X11_term_114 rfl ?_
            refine r_getI e_X11_term_115 fl_X11_28 i0 k0 ?_
            refine r_iconst e_X11_term_118 ic_4 ?_
            refine r_icmp_ne e_X11_term_119 (fun c18 => ?_) (fun c18 => ?_)
            · rw [if_neg c18] at h
              refine r_aload_n e_X11_term_129 rfl ?_
              refine cV0v e_X11_term_130 cl_X11_121 ⟨Nat.le_of_ble_eq_true rfl, Nat.le_of_ble_eq_true rfl⟩ ⟨rfl, rfl⟩ k0 (Nat.le_of_ble_eq_true rfl) (S_X11_wrong hb1) ?_
              refine d_2_0 ?_
              exact j14 _ _ h
            · rw [if_pos c18] at h
              refine r_aload_n e_X11_term_122 rfl ?_
              obtain ⟨v19, M19, w19, h⟩ := bnd2_elK h
              refine cV0v e_X11_term_123 cl_X11_117 ⟨Nat.le_of_ble_eq_true rfl, Nat.le_of_ble_eq_true rfl⟩ ⟨rfl, rfl⟩ k0 (Nat.le_of_ble_eq_true rfl) (S_X11_keepWord hb1 w19) ?_
              refine r_goto e_X11_term_126 ?_
              refine d_2_0 ?_
              exact j14 _ _ h
      intro v14_0 M14 h
      rw [hK14] at h
      obtain ⟨b20, h⟩ := cz_el h
      refine r_zreturn e_X11_term_133 rfl ⟨rfl, rfl⟩ b20 ?_
      obtain ⟨rfl, rfl⟩ := ps2 h; exact ⟨rfl, rfl, rfl⟩
    · rw [if_pos c11] at h
      refine r_aload_n e_X11_term_65 rfl ?_
      obtain ⟨v21, M21, w21, h⟩ := bnd2_el h
      refine cV0v e_X11_term_66 cl_X11_117 ⟨Nat.le_of_ble_eq_true rfl, Nat.le_of_ble_eq_true rfl⟩ ⟨rfl, rfl⟩ k0 (Nat.le_of_ble_eq_true rfl) (S_X11_keepWord hb1 w21) ?_
      refine r_pop e_X11_term_69 rfl ?_
      refine r_aload_n e_X11_term_70 rfl ?_
      refine r_getI e_X11_term_71 fl_X11_28 i0 k0 ?_
      refine r_iconst e_X11_term_74 ic_2 ?_
      obtain ⟨K25, hK25, h⟩ := bnd2_in h
      suffices j25 : ∀ v25_0 M25, K25 (v25_0, M25) = some (v', M') → WP m_X11_term _ 97 [none, none] [.int v25_0] sh M25 0 0 by
        refine r_icmp_ne e_X11_term_75 (fun c22 => ?_) (fun c22 => ?_)
        · rw [if_neg c22] at h
          refine r_aload_n e_X11_term_93 rfl ?_
          refine cV0v e_X11_term_94 cl_X11_121 ⟨Nat.le_of_ble_eq_true rfl, Nat.le_of_ble_eq_true rfl⟩ ⟨rfl, rfl⟩ k0 (Nat.le_of_ble_eq_true rfl) (S_X11_wrong hb1) ?_
          refine d_2_0 ?_
          exact j25 _ _ h
        · rw [if_pos c22] at h
          refine r_aload_n e_X11_term_78 rfl ?_
          refine r_getI e_X11_term_79 fl_X11_21 i0 k0 ?_
          refine r_iconst e_X11_term_82 ic_4 ?_
          refine r_icmp_gt e_X11_term_83 (fun c26 => ?_) (fun c26 => ?_)
          · rw [if_pos c26] at h
            refine r_aload_n e_X11_term_93 rfl ?_
            refine cV0v e_X11_term_94 cl_X11_121 ⟨Nat.le_of_ble_eq_true rfl, Nat.le_of_ble_eq_true rfl⟩ ⟨rfl, rfl⟩ k0 (Nat.le_of_ble_eq_true rfl) (S_X11_wrong hb1) ?_
            refine d_2_0 ?_
            exact j25 _ _ h
          · rw [if_neg c26] at h
            refine r_aload_n e_X11_term_86 rfl ?_
            obtain ⟨v27, M27, w27, h⟩ := bnd2_elK h
            refine cV0v e_X11_term_87 cl_X11_117 ⟨Nat.le_of_ble_eq_true rfl, Nat.le_of_ble_eq_true rfl⟩ ⟨rfl, rfl⟩ k0 (Nat.le_of_ble_eq_true rfl) (S_X11_keepWord hb1 w27) ?_
            refine r_goto e_X11_term_90 ?_
            refine d_2_0 ?_
            exact j25 _ _ h
      intro v25_0 M25 h
      rw [hK25] at h
      obtain ⟨b28, h⟩ := cz_el h
      refine r_zreturn e_X11_term_97 rfl ⟨rfl, rfl⟩ b28 ?_
      obtain ⟨rfl, rfl⟩ := ps2 h; exact ⟨rfl, rfl, rfl⟩
  · rw [if_pos c1] at h
    refine r_aload_n e_X11_term_9 rfl ?_
    refine cV0v e_X11_term_10 cl_X11_121 ⟨Nat.le_of_ble_eq_true rfl, Nat.le_of_ble_eq_true rfl⟩ ⟨rfl, rfl⟩ k0 (Nat.le_of_ble_eq_true rfl) (S_X11_wrong hb1) ?_
    obtain ⟨b29, h⟩ := cz_el h
    refine r_zreturn e_X11_term_13 rfl ⟨rfl, rfl⟩ b29 ?_
    obtain ⟨rfl, rfl⟩ := ps2 h; exact ⟨rfl, rfl, rfl⟩
def R_X11_putAtStart (x1 : Int32) (mA : Nat) (M : Mem) : Option (Mem) := bd1 (if x1 < (5 : Int32) then (0 : Int32) else (1 : Int32)) (fun v2_0 => bnd1 (if v2_0 = 0 then (bnd1 (R_X11_of x1 (12 : Int32) mA M) (fun v6 => (some v6))) else (bnd1 (R_X11_of x1 (12 : Int32) mA M) (fun v7 => (some ((14 : Int32) - v7))))) (fun v5_0 => bnd1 (if v2_0 = 0 then (bnd1 (R_X11_of x1 (13 : Int32) mA M) (fun v11 => (some v11))) else (bnd1 (R_X11_of x1 (13 : Int32) mA M) (fun v12 => (some ((8 : Int32) - v12))))) (fun v10_0 => bnd1 (R_X11_findPut v5_0 v10_0 x1 mA M) (fun M13 => bnd1 (R_X11_set x1 (0 : Int32) (M13.1 242 31) mA M13) (fun M14 => bnd1 (R_X11_set x1 (1 : Int32) (M14.1 242 32) mA M14) (fun M15 => some M15))))))
theorem S_X11_putAtStart {sh : List SC} {M : Mem} {x1 : Int32} {mA : Nat} {oA : Nat} {M' : Mem} (hb1 : ModelAt sh mA oA)  (h : R_X11_putAtStart x1 mA M = some M') : Gu m_X11_putAtStart [.ref 242, .int x1] sh M M' := by
  refine Sp.of (ls := [some (.ref 242), some (.int x1), none]) (by decide +kernel) (Nat.le_of_ble_eq_true rfl) rfl ?_
  have k0 : kd sh 242 = some (10 + 7, 0) := hb1.1
  unfold R_X11_putAtStart at h
  refine r_iload_n e_X11_putAtStart_0 rfl ?_
  refine r_iconst e_X11_putAtStart_1 ic_5 ?_
  obtain ⟨v2_0, q2, h⟩ := bd1_el h
  suffices j2 : WP m_X11_putAtStart _ 10 [some (.ref 242), some (.int x1), none] [.int v2_0] sh M 0 0 by
    refine r_icmp_lt e_X11_putAtStart_2 (fun c1 => ?_) (fun c1 => ?_)
    · rw [if_pos c1] at q2
      refine r_iconst e_X11_putAtStart_9 ic_0 ?_
      subst q2; exact j2
    · rw [if_neg c1] at q2
      refine r_iconst e_X11_putAtStart_5 ic_1 ?_
      refine r_goto e_X11_putAtStart_6 ?_
      subst q2; exact j2
  refine p_istore_n_3_2 e_X11_putAtStart_10 rfl rfl ?_
  refine r_aload_n e_X11_putAtStart_11 rfl ?_
  refine r_iload_n e_X11_putAtStart_12 rfl ?_
  obtain ⟨K5, hK5, h⟩ := bnd1_in h
  suffices j5 : ∀ v5_0, K5 v5_0 = some M' → WP m_X11_putAtStart _ 36 [some (.ref 242), some (.int x1), some (.int v2_0)] [.int v5_0, .ref 242] sh M 0 0 by
    refine r_if_eq e_X11_putAtStart_13 (fun c3 => ?_) (fun c3 => ?_)
    · rw [if_pos c3] at h
      refine r_aload_n e_X11_putAtStart_29 rfl ?_
      refine r_iload_n e_X11_putAtStart_30 rfl ?_
      refine r_bipush e_X11_putAtStart_31 bp_12 ?_
      obtain ⟨v6, w6, h⟩ := bnd1_elK h
      refine cV2v e_X11_putAtStart_33 cl_X11_252 ⟨Nat.le_of_ble_eq_true rfl, Nat.le_of_ble_eq_true rfl⟩ ⟨rfl, rfl⟩ k0 (Nat.le_of_ble_eq_true rfl) (S_X11_of hb1 w6) ?_
      exact j5 _ h
    · rw [if_neg c3] at h
      refine r_bipush e_X11_putAtStart_16 bp_14 ?_
      refine r_aload_n e_X11_putAtStart_18 rfl ?_
      refine r_iload_n e_X11_putAtStart_19 rfl ?_
      refine r_bipush e_X11_putAtStart_20 bp_12 ?_
      obtain ⟨v7, w7, h⟩ := bnd1_elK h
      refine cV2v e_X11_putAtStart_22 cl_X11_252 ⟨Nat.le_of_ble_eq_true rfl, Nat.le_of_ble_eq_true rfl⟩ ⟨rfl, rfl⟩ k0 (Nat.le_of_ble_eq_true rfl) (S_X11_of hb1 w7) ?_
      refine r_isub e_X11_putAtStart_25 ?_
      refine r_goto e_X11_putAtStart_26 ?_
      exact j5 _ h
  intro v5_0 h
  rw [hK5] at h
  refine r_iload_n e_X11_putAtStart_36 rfl ?_
  obtain ⟨K10, hK10, h⟩ := bnd1_in h
  suffices j10 : ∀ v10_0, K10 v10_0 = some M' → WP m_X11_putAtStart _ 60 [some (.ref 242), some (.int x1), none] [.int v10_0, .int v5_0, .ref 242] sh M 0 0 by
    refine r_if_eq e_X11_putAtStart_37 (fun c8 => ?_) (fun c8 => ?_)
    · rw [if_pos c8] at h
      refine r_aload_n e_X11_putAtStart_53 rfl ?_
      refine r_iload_n e_X11_putAtStart_54 rfl ?_
      refine r_bipush e_X11_putAtStart_55 bp_13 ?_
      obtain ⟨v11, w11, h⟩ := bnd1_elK h
      refine cV2v e_X11_putAtStart_57 cl_X11_252 ⟨Nat.le_of_ble_eq_true rfl, Nat.le_of_ble_eq_true rfl⟩ ⟨rfl, rfl⟩ k0 (Nat.le_of_ble_eq_true rfl) (S_X11_of hb1 w11) ?_
      refine d_3_2 ?_
      exact j10 _ h
    · rw [if_neg c8] at h
      refine r_bipush e_X11_putAtStart_40 bp_8 ?_
      refine r_aload_n e_X11_putAtStart_42 rfl ?_
      refine r_iload_n e_X11_putAtStart_43 rfl ?_
      refine r_bipush e_X11_putAtStart_44 bp_13 ?_
      obtain ⟨v12, w12, h⟩ := bnd1_elK h
      refine cV2v e_X11_putAtStart_46 cl_X11_252 ⟨Nat.le_of_ble_eq_true rfl, Nat.le_of_ble_eq_true rfl⟩ ⟨rfl, rfl⟩ k0 (Nat.le_of_ble_eq_true rfl) (S_X11_of hb1 w12) ?_
      refine r_isub e_X11_putAtStart_49 ?_
      refine r_goto e_X11_putAtStart_50 ?_
      refine d_3_2 ?_
      exact j10 _ h
  intro v10_0 h
  rw [hK10] at h
  refine r_iload_n e_X11_putAtStart_60 rfl ?_
  obtain ⟨M13, w13, h⟩ := bnd1_el h
  refine cV3u e_X11_putAtStart_61 cl_X11_278 ⟨Nat.le_of_ble_eq_true rfl, Nat.le_of_ble_eq_true rfl⟩ ⟨rfl, rfl⟩ k0 (Nat.le_of_ble_eq_true rfl) (S_X11_findPut hb1 w13) ?_
  refine r_aload_n e_X11_putAtStart_64 rfl ?_
  refine r_iload_n e_X11_putAtStart_65 rfl ?_
  refine r_iconst e_X11_putAtStart_66 ic_0 ?_
  refine r_aload_n e_X11_putAtStart_67 rfl ?_
  refine r_getI e_X11_putAtStart_68 fl_X11_264 i0 k0 ?_
  obtain ⟨M14, w14, h⟩ := bnd1_el h
  refine cV3u e_X11_putAtStart_71 cl_X11_282 ⟨Nat.le_of_ble_eq_true rfl, Nat.le_of_ble_eq_true rfl⟩ ⟨rfl, rfl⟩ k0 (Nat.le_of_ble_eq_true rfl) (S_X11_set hb1 w14) ?_
  refine r_aload_n e_X11_putAtStart_74 rfl ?_
  refine r_iload_n e_X11_putAtStart_75 rfl ?_
  refine r_iconst e_X11_putAtStart_76 ic_1 ?_
  refine r_aload_n e_X11_putAtStart_77 rfl ?_
  refine r_getI e_X11_putAtStart_78 fl_X11_267 i0 k0 ?_
  obtain ⟨M15, w15, h⟩ := bnd1_el h
  refine cV3u e_X11_putAtStart_81 cl_X11_282 ⟨Nat.le_of_ble_eq_true rfl, Nat.le_of_ble_eq_true rfl⟩ ⟨rfl, rfl⟩ k0 (Nat.le_of_ble_eq_true rfl) (S_X11_set hb1 w15) ?_
  refine r_return e_X11_putAtStart_84 rfl ⟨rfl, rfl⟩ ?_
  obtain rfl := Option.some.inj h; exact ⟨rfl, rfl, rfl⟩
def L_X11_productOf_5 (mA : Nat) : Nat → Int32 → Mem → Option (Int32 × Mem)
  | 0, _, _ => none
  | n + 1, u1, M => bnd1 (R_X11_here  mA M) (fun v2 => if v2 = (42 : Int32) then (bnd2 (R_X11_termOf  mA (setI M 242 35 ((M.1 242 35) + (1 : Int32)))) (fun v4 M4 => L_X11_productOf_5 mA n (u1 * v4) M4)) else (some (u1, M)))
theorem LW_X11_productOf_5 {sh : List SC} {Q : Po}  {mA : Nat} {oA : Nat}  (hb1 : ModelAt sh mA oA)  : ∀ (n : Nat) (u1 : Int32) (M : Mem) (z1 : Int32) (Mz : Mem), L_X11_productOf_5 mA n u1 M = some (z1, Mz) → WP m_X11_productOf Q 34 [none, some (.int z1)] [] sh Mz 0 0 → WP m_X11_productOf Q 5 [some (.ref 242), some (.int u1)] [] sh M 0 0 := by
  intro n
  induction n with
  | zero =>
    intro u1 M z1 Mz h hE
    rw [L_X11_productOf_5] at h
    cases h
  | succ n ih =>
    intro u1 M z1 Mz h hE
    rw [L_X11_productOf_5] at h
    have k0 : kd sh 242 = some (10 + 7, 0) := hb1.1
    refine r_aload_n e_X11_productOf_5 rfl ?_
    obtain ⟨v2, w2, h⟩ := bnd1_el h
    refine cV0v e_X11_productOf_6 cl_X11_327 ⟨Nat.le_of_ble_eq_true rfl, Nat.le_of_ble_eq_true rfl⟩ ⟨rfl, rfl⟩ k0 (Nat.le_of_ble_eq_true rfl) (S_X11_here hb1 w2) ?_
    refine r_bipush e_X11_productOf_9 bp_42 ?_
    refine r_icmp_ne e_X11_productOf_11 (fun c3 => ?_) (fun c3 => ?_)
    · rw [if_neg c3] at h
      refine d_2_0 ?_
      obtain ⟨rfl, rfl⟩ := ps2 h; exact hE
    · rw [if_pos c3] at h
      refine r_aload_n e_X11_productOf_14 rfl ?_
      refine r_dup e_X11_productOf_15 rfl ?_
      refine r_getI e_X11_productOf_16 fl_X11_312 i0 k0 ?_
      refine r_iconst e_X11_productOf_19 ic_1 ?_
      refine r_iadd e_X11_productOf_20 ?_
      refine r_putI e_X11_productOf_21 fl_X11_312 k0 ?_
      refine r_iload_n e_X11_productOf_24 rfl ?_
      refine r_aload_n e_X11_productOf_25 rfl ?_
      obtain ⟨v4, M4, w4, h⟩ := bnd2_el h
      refine cV0v e_X11_productOf_26 cl_X11_336 ⟨Nat.le_of_ble_eq_true rfl, Nat.le_of_ble_eq_true rfl⟩ ⟨rfl, rfl⟩ k0 (Nat.le_of_ble_eq_true rfl) (S_X11_termOf hb1 w4) ?_
      refine r_imul e_X11_productOf_29 ?_
      refine p_istore_n_2_1 e_X11_productOf_30 rfl rfl ?_
      refine r_goto e_X11_productOf_31 ?_
      exact ih _ _ _ _ h hE
def R_X11_productOf (mA : Nat) (M : Mem) : Option (Int32 × Mem) := bnd2 (R_X11_termOf  mA M) (fun v1 M1 => bnd2 (L_X11_productOf_5 mA FUEL v1 M1) (fun v5_0 M5 => some (v5_0, M5)))
theorem S_X11_productOf {sh : List SC} {M : Mem}  {mA : Nat} {oA : Nat} {v' : Int32} {M' : Mem} (hb1 : ModelAt sh mA oA)  (h : R_X11_productOf mA M = some (v', M')) : Gv m_X11_productOf [.ref 242] sh M (.int v') M' := by
  refine Sp.of (ls := [some (.ref 242), none]) (by decide +kernel) (Nat.le_of_ble_eq_true rfl) rfl ?_
  have k0 : kd sh 242 = some (10 + 7, 0) := hb1.1
  unfold R_X11_productOf at h
  refine r_aload_n e_X11_productOf_0 rfl ?_
  obtain ⟨v1, M1, w1, h⟩ := bnd2_el h
  refine cV0v e_X11_productOf_1 cl_X11_336 ⟨Nat.le_of_ble_eq_true rfl, Nat.le_of_ble_eq_true rfl⟩ ⟨rfl, rfl⟩ k0 (Nat.le_of_ble_eq_true rfl) (S_X11_termOf hb1 w1) ?_
  refine p_istore_n_2_1 e_X11_productOf_4 rfl rfl ?_
  obtain ⟨v5_0, M5, w5, h⟩ := bnd2_el h
  refine LW_X11_productOf_5 hb1 _ _ _ _ _ w5 ?_
  refine r_iload_n e_X11_productOf_34 rfl ?_
  refine r_ireturn e_X11_productOf_35 rfl ⟨rfl, rfl⟩ ?_
  obtain ⟨rfl, rfl⟩ := ps2 h; exact ⟨rfl, rfl, rfl⟩
def L_X2_open_29 (a : Nat) (x1 : Int32) (x2 : Int32) : Nat → Nat → Mem → Option (Mem)
  | 0, i29, M => some M
  | n + 1, i29, M => bd1 (U_X5_decide (a + 10 + 2 * i29) (0 : Int32) (0 : Int32) (0 : Int32) (0 : Int32) M) (fun M2 => L_X2_open_29 a x1 x2 n (i29 + 1) M2)
theorem LW_X2_open_29 {sh : List SC} {Q : Po} {a : Nat} {x1 : Int32} {x2 : Int32}   (hb1 : MatchAt sh a)  : ∀ (n i29 : Nat) (M : Mem) (Mz : Mem), i29 + n = 10 → L_X2_open_29 a x1 x2 n i29 M = some Mz → WP m_X2_open Q 57 [some (.ref a), none, none, none] [] sh Mz 0 0 → WP m_X2_open Q 29 [some (.ref a), none, none, some (.int (nI i29))] [] sh M 0 0 := by
  intro n
  induction n with
  | zero =>
    intro i29 M Mz hi h hE
    rw [L_X2_open_29] at h
    have hz : (10 : Int32) ≤ nI i29 := by
      have q : i29 = 10 := by omega
      rw [q]; exact nI_le (Nat.le_refl _) (by decide)
    have k0 : kd sh a = some (2 + 7, 0) := hb1.1
    have k1 : rf sh a 3 = some (a + 3) := hb1.2.2.2.2.1
    have k2 : kd sh (a + 3) = some (6, 10) := hb1.2.2.2.2.2.2.2.1
    refine r_iload_n e_X2_open_29 rfl ?_
    refine r_aload_n e_X2_open_30 rfl ?_
    refine r_getR e_X2_open_31 fl_X2_20 k0 k1 ?_
    refine r_alen (v := (10 : Int32)) e_X2_open_34 k2 (by decide) rfl ?_
    refine r_icmp_ge e_X2_open_35 (fun _ => ?_) (fun hh => absurd hz hh)
    refine d_4_3 ?_
    obtain rfl := Option.some.inj h; exact hE
  | succ n ih =>
    intro i29 M Mz hi h hE
    rw [L_X2_open_29] at h
    have hlt_i29 : i29 < 10 := by omega
    have hcl_i29 : (nI i29).toNatClampNeg = i29 := nI_clamp (by omega)
    have hs : ¬ (10 : Int32) ≤ nI i29 := nI_ge (b := 10) hlt_i29 (by decide)
    have k0 : kd sh a = some (2 + 7, 0) := hb1.1
    have k1 : rf sh a 3 = some (a + 3) := hb1.2.2.2.2.1
    have k2 : kd sh (a + 3) = some (6, 10) := hb1.2.2.2.2.2.2.2.1
    refine r_iload_n e_X2_open_29 rfl ?_
    refine r_aload_n e_X2_open_30 rfl ?_
    refine r_getR e_X2_open_31 fl_X2_20 k0 k1 ?_
    refine r_alen (v := (10 : Int32)) e_X2_open_34 k2 (by decide) rfl ?_
    refine r_icmp_ge e_X2_open_35 (fun hh => absurd hh hs) (fun _ => ?_)
    refine r_aload_n e_X2_open_38 rfl ?_
    refine r_getR e_X2_open_39 fl_X2_20 k0 k1 ?_
    refine r_iload_n e_X2_open_42 rfl ?_
    refine r_aaload (b := (a + 10 + 2 * i29)) e_X2_open_43 k2 ⟨by decide, by decide⟩ (vp_in_nI (Nat.lt_of_lt_of_le hlt_i29 (by decide)) (by decide)) (by rw [hcl_i29]; exact (hb1.2.2.2.2.2.2.2.2.1 i29 (Nat.lt_of_lt_of_le hlt_i29 (by decide))).1) ?_
    refine r_iconst e_X2_open_44 ic_0 ?_
    refine r_iconst e_X2_open_45 ic_0 ?_
    refine r_iconst e_X2_open_46 ic_0 ?_
    refine r_iconst e_X2_open_47 ic_0 ?_
    refine cV4u e_X2_open_48 cl_X2_66 ⟨Nat.le_of_ble_eq_true rfl, Nat.le_of_ble_eq_true rfl⟩ ⟨rfl, rfl⟩ (show kd sh (a + 10 + 2 * i29) = some (5 + 7, 0) from (hb1.2.2.2.2.2.2.2.2.1 i29 (Nat.lt_of_lt_of_le hlt_i29 (by decide))).2.1) (Nat.le_of_ble_eq_true rfl) (S_X5_decide (hb1.2.2.2.2.2.2.2.2.1 i29 (Nat.lt_of_lt_of_le hlt_i29 (by decide))).2) ?_
    obtain ⟨M2, e2, h⟩ := bd1_el h
    rw [e2]
    refine p_iinc_4_3 e_X2_open_51 rfl ic_1 rfl ?_
    rw [nI_1 i29]
    refine r_goto e_X2_open_54 ?_
    exact ih _  _ _ (by omega) h hE
def R_X2_open (a : Nat) (x1 : Int32) (x2 : Int32) (M : Mem) : Option (Mem) := bd1 (U_X7_clear (a + 7) (setI (setI (setI (setI M a 6 (1 : Int32)) a 7 (0 : Int32)) a 8 x1) a 9 x2)) (fun M1 => bnd1 (L_X2_open_29 a x1 x2 10 0 M1) (fun M3 => bnd1 (R_X2_kickOff a M3) (fun M4 => some M4)))
theorem S_X2_open {sh : List SC} {M : Mem} {a : Nat} {x1 : Int32} {x2 : Int32}  {M' : Mem} (hb1 : MatchAt sh a)  (h : R_X2_open a x1 x2 M = some M') : Gu m_X2_open [.ref a, .int x1, .int x2] sh M M' := by
  refine Sp.of (ls := [some (.ref a), some (.int x1), some (.int x2), none]) (by decide +kernel) (Nat.le_of_ble_eq_true rfl) rfl ?_
  have k0 : kd sh a = some (2 + 7, 0) := hb1.1
  have k1 : rf sh a 5 = some (a + 7) := hb1.2.2.2.2.2.2.1
  have k2 : kd sh (a + 7) = some (7 + 7, 0) := hb1.2.2.2.2.2.2.2.2.2.2.1.1
  unfold R_X2_open at h
  refine r_aload_n e_X2_open_0 rfl ?_
  refine r_iconst e_X2_open_1 ic_1 ?_
  refine r_putZ e_X2_open_2 fl_X2_38 (by first | exact Or.inl rfl | exact Or.inr rfl) k0 ?_
  refine r_aload_n e_X2_open_5 rfl ?_
  refine r_iconst e_X2_open_6 ic_0 ?_
  refine r_putI e_X2_open_7 fl_X2_42 k0 ?_
  refine r_aload_n e_X2_open_10 rfl ?_
  refine r_iload_n e_X2_open_11 rfl ?_
  refine r_putI e_X2_open_12 fl_X2_46 k0 ?_
  refine r_aload_n e_X2_open_15 rfl ?_
  refine r_iload_n e_X2_open_16 rfl ?_
  refine r_putI e_X2_open_17 fl_X2_49 k0 ?_
  refine r_aload_n e_X2_open_20 rfl ?_
  refine r_getR e_X2_open_21 fl_X2_34 k0 k1 ?_
  refine cV0u e_X2_open_24 cl_X2_63 ⟨Nat.le_of_ble_eq_true rfl, Nat.le_of_ble_eq_true rfl⟩ ⟨rfl, rfl⟩ k2 (Nat.le_of_ble_eq_true rfl) (S_X7_clear hb1.2.2.2.2.2.2.2.2.2.2.1) ?_
  obtain ⟨M1, e1, h⟩ := bd1_el h
  rw [e1]
  refine r_iconst e_X2_open_27 ic_0 ?_
  refine p_istore_n_4_3 e_X2_open_28 rfl rfl ?_
  refine d_4_1 ?_
  refine d_4_2 ?_
  show WP m_X2_open _ 29 [some (.ref a), none, none, some (.int (nI 0))] [] sh M1 0 0
  obtain ⟨M3, w3, h⟩ := bnd1_el h
  refine LW_X2_open_29 hb1 10 0 _ _ (by omega) w3 ?_
  refine r_aload_n e_X2_open_57 rfl ?_
  obtain ⟨M4, w4, h⟩ := bnd1_el h
  refine cV0u e_X2_open_58 cl_X2_70 ⟨Nat.le_of_ble_eq_true rfl, Nat.le_of_ble_eq_true rfl⟩ ⟨rfl, rfl⟩ k0 (Nat.le_of_ble_eq_true rfl) (S_X2_kickOff hb1 w4) ?_
  refine r_return e_X2_open_61 rfl ⟨rfl, rfl⟩ ?_
  obtain rfl := Option.some.inj h; exact ⟨rfl, rfl, rfl⟩
def R_X2_think (a : Nat) (x1 : Int32) (M : Mem) : Option (Mem) := if x1 < 0 then (some M) else (if x1 < (10 : Int32) then (ck x1 10 (bd1 (if (V_X5_isLost (a + 10 + 2 * x1.toNatClampNeg) (M.1 a 7) M) = 0 then (bd1 (U_X5_see (a + 10 + 2 * x1.toNatClampNeg) (V_X0_pastX (a + 4) ((M.1 a 7) - (M.1 (a + 10 + 2 * x1.toNatClampNeg) 12)) M) (V_X0_pastY (a + 4) ((M.1 a 7) - (M.1 (a + 10 + 2 * x1.toNatClampNeg) 12)) M) M) (fun M6 => M6)) else M) (fun M5 => bd1 (U_X5_decide (a + 10 + 2 * x1.toNatClampNeg) (0 : Int32) (0 : Int32) (0 : Int32) (0 : Int32) M5) (fun M7 => bnd1 (if (M7.1 (a + 10 + 2 * x1.toNatClampNeg) 6) < 0 then (some M7) else (if (6 : Int32) ≤ (M7.1 (a + 10 + 2 * x1.toNatClampNeg) 6) then (some M7) else (if (M7.1 (a + 10 + 2 * x1.toNatClampNeg) 8) = 0 then (bnd1 (R_X2_sense a (a + 10 + 2 * x1.toNatClampNeg) x1 M7) (fun M15 => ck (M15.1 (a + 10 + 2 * x1.toNatClampNeg) 6) 6 (bnd2 (R_X6_run (a + 1) (16 + 15 * (M15.1 (a + 10 + 2 * x1.toNatClampNeg) 6).toNatClampNeg) (a + 10 + 2 * x1.toNatClampNeg) M15) (fun v17 M17 => if v17 = 0 then (some M17) else (some (setI M17 (a + 7) 3 ((M17.1 (a + 7) 3) + (1 : Int32)))))))) else (some M7)))) (fun M12 => some M12))))) else (some M))
theorem S_X2_think {sh : List SC} {M : Mem} {a : Nat} {x1 : Int32}  {M' : Mem} (hb1 : MatchAt sh a)  (h : R_X2_think a x1 M = some M') : Gu m_X2_think [.ref a, .int x1] sh M M' := by
  refine Sp.of (ls := [some (.ref a), some (.int x1), none]) (by decide +kernel) (Nat.le_of_ble_eq_true rfl) rfl ?_
  have k0 : kd sh a = some (2 + 7, 0) := hb1.1
  have k1 : rf sh a 3 = some (a + 3) := hb1.2.2.2.2.1
  have k2 : kd sh (a + 3) = some (6, 10) := hb1.2.2.2.2.2.2.2.1
  have k3 : rf sh a 4 = some (a + 4) := hb1.2.2.2.2.2.1
  have k4 : kd sh (a + 4) = some (0 + 7, 0) := hb1.2.2.2.2.2.2.2.2.2.1.1
  have k5 : rf sh a 1 = some 8 := hb1.2.2.1
  have k6 : kd sh 8 = some (3, 6) := hb1.2.2.2.2.2.2.2.2.2.2.2.2.1
  have k7 : rf sh a 2 = some (a + 1) := hb1.2.2.2.1
  have k8 : kd sh (a + 1) = some (6 + 7, 0) := hb1.2.2.2.2.2.2.2.2.2.2.2.1.1
  have k9 : rf sh a 5 = some (a + 7) := hb1.2.2.2.2.2.2.1
  have k10 : kd sh (a + 7) = some (7 + 7, 0) := hb1.2.2.2.2.2.2.2.2.2.2.1.1
  unfold R_X2_think at h
  refine r_iload_n e_X2_think_0 rfl ?_
  refine r_if_lt e_X2_think_1 (fun c1 => ?_) (fun c1 => ?_)
  · rw [if_pos c1] at h
    refine r_return e_X2_think_13 rfl ⟨rfl, rfl⟩ ?_
    obtain rfl := Option.some.inj h; exact ⟨rfl, rfl, rfl⟩
  · rw [if_neg c1] at h
    refine r_iload_n e_X2_think_4 rfl ?_
    refine r_aload_n e_X2_think_5 rfl ?_
    refine r_getR e_X2_think_6 fl_X2_20 k0 k1 ?_
    refine r_alen (v := (10 : Int32)) e_X2_think_9 k2 (by decide) rfl ?_
    refine r_icmp_lt e_X2_think_10 (fun c2 => ?_) (fun c2 => ?_)
    · rw [if_pos c2] at h
      refine r_aload_n e_X2_think_14 rfl ?_
      refine r_getR e_X2_think_15 fl_X2_20 k0 k1 ?_
      refine r_iload_n e_X2_think_18 rfl ?_
      obtain ⟨b3, h⟩ := ck_el h
      refine r_aaload (b := (a + 10 + 2 * x1.toNatClampNeg)) e_X2_think_19 k2 ⟨by decide, by decide⟩ b3 (hb1.2.2.2.2.2.2.2.2.1 x1.toNatClampNeg (vp_lt b3)).1 ?_
      refine p_astore_n_3_2 e_X2_think_20 rfl rfl ?_
      refine r_aload_n e_X2_think_21 rfl ?_
      refine r_aload_n e_X2_think_22 rfl ?_
      refine r_getI e_X2_think_23 fl_X2_42 i0 k0 ?_
      refine cV1v e_X2_think_26 cl_X2_148 ⟨Nat.le_of_ble_eq_true rfl, Nat.le_of_ble_eq_true rfl⟩ ⟨rfl, rfl⟩ (show kd sh (a + 10 + 2 * x1.toNatClampNeg) = some (5 + 7, 0) from (hb1.2.2.2.2.2.2.2.2.1 x1.toNatClampNeg (vp_lt b3)).2.1) (Nat.le_of_ble_eq_true rfl) (S_X5_isLost (hb1.2.2.2.2.2.2.2.2.1 x1.toNatClampNeg (vp_lt b3)).2) ?_
      obtain ⟨M5, q5, h⟩ := bd1_el h
      suffices j5 : WP m_X2_think _ 68 [some (.ref a), some (.int x1), some (.ref (a + 10 + 2 * x1.toNatClampNeg))] [] sh M5 0 0 by
        refine r_if_ne e_X2_think_29 (fun c4 => ?_) (fun c4 => ?_)
        · rw [if_neg c4] at q5
          subst q5; exact j5
        · rw [if_pos c4] at q5
          refine r_aload_n e_X2_think_32 rfl ?_
          refine r_aload_n e_X2_think_33 rfl ?_
          refine r_getR e_X2_think_34 fl_X2_27 k0 k3 ?_
          refine r_aload_n e_X2_think_37 rfl ?_
          refine r_getI e_X2_think_38 fl_X2_42 i0 k0 ?_
          refine r_aload_n e_X2_think_41 rfl ?_
          refine r_getI e_X2_think_42 fl_X2_152 i0 (show kd sh (a + 10 + 2 * x1.toNatClampNeg) = some (5 + 7, 0) from (hb1.2.2.2.2.2.2.2.2.1 x1.toNatClampNeg (vp_lt b3)).2.1) ?_
          refine r_isub e_X2_think_45 ?_
          refine cV1v e_X2_think_46 cl_X2_155 ⟨Nat.le_of_ble_eq_true rfl, Nat.le_of_ble_eq_true rfl⟩ ⟨rfl, rfl⟩ k4 (Nat.le_of_ble_eq_true rfl) (S_X0_pastX hb1.2.2.2.2.2.2.2.2.2.1) ?_
          refine r_aload_n e_X2_think_49 rfl ?_
          refine r_getR e_X2_think_50 fl_X2_27 k0 k3 ?_
          refine r_aload_n e_X2_think_53 rfl ?_
          refine r_getI e_X2_think_54 fl_X2_42 i0 k0 ?_
          refine r_aload_n e_X2_think_57 rfl ?_
          refine r_getI e_X2_think_58 fl_X2_152 i0 (show kd sh (a + 10 + 2 * x1.toNatClampNeg) = some (5 + 7, 0) from (hb1.2.2.2.2.2.2.2.2.1 x1.toNatClampNeg (vp_lt b3)).2.1) ?_
          refine r_isub e_X2_think_61 ?_
          refine cV1v e_X2_think_62 cl_X2_158 ⟨Nat.le_of_ble_eq_true rfl, Nat.le_of_ble_eq_true rfl⟩ ⟨rfl, rfl⟩ k4 (Nat.le_of_ble_eq_true rfl) (S_X0_pastY hb1.2.2.2.2.2.2.2.2.2.1) ?_
          refine cV2u e_X2_think_65 cl_X2_116 ⟨Nat.le_of_ble_eq_true rfl, Nat.le_of_ble_eq_true rfl⟩ ⟨rfl, rfl⟩ (show kd sh (a + 10 + 2 * x1.toNatClampNeg) = some (5 + 7, 0) from (hb1.2.2.2.2.2.2.2.2.1 x1.toNatClampNeg (vp_lt b3)).2.1) (Nat.le_of_ble_eq_true rfl) (S_X5_see (hb1.2.2.2.2.2.2.2.2.1 x1.toNatClampNeg (vp_lt b3)).2) ?_
          obtain ⟨M6, e6, q5⟩ := bd1_el q5
          rw [e6]
          subst q5; exact j5
      refine r_aload_n e_X2_think_68 rfl ?_
      refine r_iconst e_X2_think_69 ic_0 ?_
      refine r_iconst e_X2_think_70 ic_0 ?_
      refine r_iconst e_X2_think_71 ic_0 ?_
      refine r_iconst e_X2_think_72 ic_0 ?_
      refine cV4u e_X2_think_73 cl_X2_66 ⟨Nat.le_of_ble_eq_true rfl, Nat.le_of_ble_eq_true rfl⟩ ⟨rfl, rfl⟩ (show kd sh (a + 10 + 2 * x1.toNatClampNeg) = some (5 + 7, 0) from (hb1.2.2.2.2.2.2.2.2.1 x1.toNatClampNeg (vp_lt b3)).2.1) (Nat.le_of_ble_eq_true rfl) (S_X5_decide (hb1.2.2.2.2.2.2.2.2.1 x1.toNatClampNeg (vp_lt b3)).2) ?_
      obtain ⟨M7, e7, h⟩ := bd1_el h
      rw [e7]
      refine r_aload_n e_X2_think_76 rfl ?_
      refine r_getI e_X2_think_77 fl_X2_161 i0 (show kd sh (a + 10 + 2 * x1.toNatClampNeg) = some (5 + 7, 0) from (hb1.2.2.2.2.2.2.2.2.1 x1.toNatClampNeg (vp_lt b3)).2.1) ?_
      obtain ⟨K12, hK12, h⟩ := bnd1_in h
      suffices j12 : ∀ M12, K12 M12 = some M' → WP m_X2_think _ 141 [none, none, none] [] sh M12 0 0 by
        refine r_if_lt e_X2_think_80 (fun c8 => ?_) (fun c8 => ?_)
        · rw [if_pos c8] at h
          refine d_3_0 ?_
          refine d_3_1 ?_
          refine d_3_2 ?_
          exact j12 _ h
        · rw [if_neg c8] at h
          refine r_aload_n e_X2_think_83 rfl ?_
          refine r_getI e_X2_think_84 fl_X2_161 i0 (show kd sh (a + 10 + 2 * x1.toNatClampNeg) = some (5 + 7, 0) from (hb1.2.2.2.2.2.2.2.2.1 x1.toNatClampNeg (vp_lt b3)).2.1) ?_
          refine r_aload_n e_X2_think_87 rfl ?_
          refine r_getR e_X2_think_88 fl_X2_56 k0 k5 ?_
          refine r_alen (v := (6 : Int32)) e_X2_think_91 k6 (by decide) rfl ?_
          refine r_icmp_ge e_X2_think_92 (fun c13 => ?_) (fun c13 => ?_)
          · rw [if_pos c13] at h
            refine d_3_0 ?_
            refine d_3_1 ?_
            refine d_3_2 ?_
            exact j12 _ h
          · rw [if_neg c13] at h
            refine r_aload_n e_X2_think_95 rfl ?_
            refine r_getI e_X2_think_96 fl_X2_164 i3 (show kd sh (a + 10 + 2 * x1.toNatClampNeg) = some (5 + 7, 0) from (hb1.2.2.2.2.2.2.2.2.1 x1.toNatClampNeg (vp_lt b3)).2.1) ?_
            refine r_if_ne e_X2_think_99 (fun c14 => ?_) (fun c14 => ?_)
            · rw [if_neg c14] at h
              refine d_3_0 ?_
              refine d_3_1 ?_
              refine d_3_2 ?_
              exact j12 _ h
            · rw [if_pos c14] at h
              refine r_aload_n e_X2_think_102 rfl ?_
              refine r_aload_n e_X2_think_103 rfl ?_
              refine r_iload_n e_X2_think_104 rfl ?_
              obtain ⟨M15, w15, h⟩ := bnd1_elK h
              refine cV2u e_X2_think_105 cl_X2_167 ⟨Nat.le_of_ble_eq_true rfl, Nat.le_of_ble_eq_true rfl⟩ ⟨rfl, rfl⟩ k0 (Nat.le_of_ble_eq_true rfl) (S_X2_sense hb1 (hb1.2.2.2.2.2.2.2.2.1 x1.toNatClampNeg (vp_lt b3)).2 w15) ?_
              refine r_aload_n e_X2_think_108 rfl ?_
              refine r_getR e_X2_think_109 fl_X2_12 k0 k7 ?_
              refine r_aload_n e_X2_think_112 rfl ?_
              refine r_getR e_X2_think_113 fl_X2_56 k0 k5 ?_
              refine r_aload_n e_X2_think_116 rfl ?_
              refine r_getI e_X2_think_117 fl_X2_161 i0 (show kd sh (a + 10 + 2 * x1.toNatClampNeg) = some (5 + 7, 0) from (hb1.2.2.2.2.2.2.2.2.1 x1.toNatClampNeg (vp_lt b3)).2.1) ?_
              obtain ⟨b16, h⟩ := ck_elK h
              refine r_aaload (b := (16 + 15 * (M15.1 (a + 10 + 2 * x1.toNatClampNeg) 6).toNatClampNeg)) e_X2_think_120 k6 ⟨by decide, by decide⟩ b16 (hb1.2.2.2.2.2.2.2.2.2.2.2.2.2.1 ((M15.1 (a + 10 + 2 * x1.toNatClampNeg) 6).toNatClampNeg) (vp_lt b16)).1 ?_
              refine r_aload_n e_X2_think_121 rfl ?_
              obtain ⟨v17, M17, w17, h⟩ := bnd2_elK h
              refine cV2v e_X2_think_122 cl_X2_171 ⟨Nat.le_of_ble_eq_true rfl, Nat.le_of_ble_eq_true rfl⟩ ⟨rfl, rfl⟩ k8 (Nat.le_of_ble_eq_true rfl) (S_X6_run hb1.2.2.2.2.2.2.2.2.2.2.2.1 (hb1.2.2.2.2.2.2.2.2.2.2.2.2.2.1 ((M15.1 (a + 10 + 2 * x1.toNatClampNeg) 6).toNatClampNeg) (vp_lt b16)).2 (hb1.2.2.2.2.2.2.2.2.1 x1.toNatClampNeg (vp_lt b3)).2 w17) ?_
              refine r_if_eq e_X2_think_125 (fun c18 => ?_) (fun c18 => ?_)
              · rw [if_pos c18] at h
                refine d_3_0 ?_
                refine d_3_1 ?_
                refine d_3_2 ?_
                exact j12 _ h
              · rw [if_neg c18] at h
                refine r_aload_n e_X2_think_128 rfl ?_
                refine r_getR e_X2_think_129 fl_X2_34 k0 k9 ?_
                refine r_dup e_X2_think_132 rfl ?_
                refine r_getI e_X2_think_133 fl_X2_175 i0 k10 ?_
                refine r_iconst e_X2_think_136 ic_1 ?_
                refine r_iadd e_X2_think_137 ?_
                refine r_putI e_X2_think_138 fl_X2_175 k10 ?_
                refine d_3_0 ?_
                refine d_3_1 ?_
                refine d_3_2 ?_
                exact j12 _ h
      intro M12 h
      rw [hK12] at h
      refine r_return e_X2_think_141 rfl ⟨rfl, rfl⟩ ?_
      obtain rfl := Option.some.inj h; exact ⟨rfl, rfl, rfl⟩
    · rw [if_neg c2] at h
      refine r_return e_X2_think_13 rfl ⟨rfl, rfl⟩ ?_
      obtain rfl := Option.some.inj h; exact ⟨rfl, rfl, rfl⟩
def L_X11_product_5 (mA : Nat) : Nat → Int32 → Mem → Option (Int32 × Mem)
  | 0, _, _ => none
  | n + 1, u1, M => if u1 = 0 then (some (u1, M)) else (if (M.1 242 5) = (42 : Int32) then (bnd2 (R_X11_keepWord  mA M) (fun v4 M4 => bnd2 (R_X11_term  mA M4) (fun v5 M5 => L_X11_product_5 mA n v5 M5))) else (some (u1, M)))
theorem LW_X11_product_5 {sh : List SC} {Q : Po}  {mA : Nat} {oA : Nat}  (hb1 : ModelAt sh mA oA)  : ∀ (n : Nat) (u1 : Int32) (M : Mem) (z1 : Int32) (Mz : Mem), L_X11_product_5 mA n u1 M = some (z1, Mz) → WP m_X11_product Q 31 [none, some (.int z1)] [] sh Mz 0 0 → WP m_X11_product Q 5 [some (.ref 242), some (.int u1)] [] sh M 0 0 := by
  intro n
  induction n with
  | zero =>
    intro u1 M z1 Mz h hE
    rw [L_X11_product_5] at h
    cases h
  | succ n ih =>
    intro u1 M z1 Mz h hE
    rw [L_X11_product_5] at h
    have k0 : kd sh 242 = some (10 + 7, 0) := hb1.1
    refine r_iload_n e_X11_product_5 rfl ?_
    refine r_if_eq e_X11_product_6 (fun c2 => ?_) (fun c2 => ?_)
    · rw [if_pos c2] at h
      refine d_2_0 ?_
      obtain ⟨rfl, rfl⟩ := ps2 h; exact hE
    · rw [if_neg c2] at h
      refine r_aload_n e_X11_product_9 rfl ?_
      refine r_getI e_X11_product_10 fl_X11_28 i0 k0 ?_
      refine r_bipush e_X11_product_13 bp_42 ?_
      refine r_icmp_ne e_X11_product_15 (fun c3 => ?_) (fun c3 => ?_)
      · rw [if_neg c3] at h
        refine d_2_0 ?_
        obtain ⟨rfl, rfl⟩ := ps2 h; exact hE
      · rw [if_pos c3] at h
        refine r_aload_n e_X11_product_18 rfl ?_
        obtain ⟨v4, M4, w4, h⟩ := bnd2_el h
        refine cV0v e_X11_product_19 cl_X11_117 ⟨Nat.le_of_ble_eq_true rfl, Nat.le_of_ble_eq_true rfl⟩ ⟨rfl, rfl⟩ k0 (Nat.le_of_ble_eq_true rfl) (S_X11_keepWord hb1 w4) ?_
        refine r_pop e_X11_product_22 rfl ?_
        refine r_aload_n e_X11_product_23 rfl ?_
        obtain ⟨v5, M5, w5, h⟩ := bnd2_el h
        refine cV0v e_X11_product_24 cl_X11_144 ⟨Nat.le_of_ble_eq_true rfl, Nat.le_of_ble_eq_true rfl⟩ ⟨rfl, rfl⟩ k0 (Nat.le_of_ble_eq_true rfl) (S_X11_term hb1 w5) ?_
        refine p_istore_n_2_1 e_X11_product_27 rfl rfl ?_
        refine r_goto e_X11_product_28 ?_
        exact ih _ _ _ _ h hE
def R_X11_product (mA : Nat) (M : Mem) : Option (Int32 × Mem) := bnd2 (R_X11_term  mA M) (fun v1 M1 => bnd2 (L_X11_product_5 mA FUEL v1 M1) (fun v6_0 M6 => cz v6_0 (some (v6_0, M6))))
theorem S_X11_product {sh : List SC} {M : Mem}  {mA : Nat} {oA : Nat} {v' : Int32} {M' : Mem} (hb1 : ModelAt sh mA oA)  (h : R_X11_product mA M = some (v', M')) : Gv m_X11_product [.ref 242] sh M (.int v') M' := by
  refine Sp.of (ls := [some (.ref 242), none]) (by decide +kernel) (Nat.le_of_ble_eq_true rfl) rfl ?_
  have k0 : kd sh 242 = some (10 + 7, 0) := hb1.1
  unfold R_X11_product at h
  refine r_aload_n e_X11_product_0 rfl ?_
  obtain ⟨v1, M1, w1, h⟩ := bnd2_el h
  refine cV0v e_X11_product_1 cl_X11_144 ⟨Nat.le_of_ble_eq_true rfl, Nat.le_of_ble_eq_true rfl⟩ ⟨rfl, rfl⟩ k0 (Nat.le_of_ble_eq_true rfl) (S_X11_term hb1 w1) ?_
  refine p_istore_n_2_1 e_X11_product_4 rfl rfl ?_
  obtain ⟨v6_0, M6, w6, h⟩ := bnd2_el h
  refine LW_X11_product_5 hb1 _ _ _ _ _ w6 ?_
  refine r_iload_n e_X11_product_31 rfl ?_
  obtain ⟨b7, h⟩ := cz_el h
  refine r_zreturn e_X11_product_32 rfl ⟨rfl, rfl⟩ b7 ?_
  obtain ⟨rfl, rfl⟩ := ps2 h; exact ⟨rfl, rfl, rfl⟩
def L_X11_kickOff_127 (x1 : Int32) (mA : Nat) (w2 : Int32) : Nat → Nat → Mem → Option (Mem)
  | 0, i127, M => some M
  | n + 1, i127, M => bnd1 (R_X11_set w2 ((4 : Int32) + (nI i127)) (0 : Int32) mA M) (fun M19 => L_X11_kickOff_127 x1 mA w2 n (i127 + 1) M19)
theorem LW_X11_kickOff_127 {sh : List SC} {Q : Po} {x1 : Int32} {mA : Nat} {oA : Nat} {w2 : Int32} (hb1 : ModelAt sh mA oA)  : ∀ (n i127 : Nat) (M : Mem) (Mz : Mem), i127 + n = 4 → L_X11_kickOff_127 x1 mA w2 n i127 M = some Mz → WP m_X11_kickOff Q 149 [some (.ref 242), some (.int x1), some (.int w2), none, none, none] [] sh Mz 0 0 → WP m_X11_kickOff Q 127 [some (.ref 242), some (.int x1), some (.int w2), none, none, some (.int (nI i127))] [] sh M 0 0 := by
  intro n
  induction n with
  | zero =>
    intro i127 M Mz hi h hE
    rw [L_X11_kickOff_127] at h
    have hz : (4 : Int32) ≤ nI i127 := by
      have q : i127 = 4 := by omega
      rw [q]; exact nI_le (Nat.le_refl _) (by decide)
    refine r_iload e_X11_kickOff_127 rfl ?_
    refine r_iconst e_X11_kickOff_129 ic_4 ?_
    refine r_icmp_ge e_X11_kickOff_130 (fun _ => ?_) (fun hh => absurd hz hh)
    refine d_6_5 ?_
    obtain rfl := Option.some.inj h; exact hE
  | succ n ih =>
    intro i127 M Mz hi h hE
    rw [L_X11_kickOff_127] at h
    have hlt_i127 : i127 < 4 := by omega
    have hcl_i127 : (nI i127).toNatClampNeg = i127 := nI_clamp (by omega)
    have hs : ¬ (4 : Int32) ≤ nI i127 := nI_ge (b := 4) hlt_i127 (by decide)
    have k0 : kd sh 242 = some (10 + 7, 0) := hb1.1
    refine r_iload e_X11_kickOff_127 rfl ?_
    refine r_iconst e_X11_kickOff_129 ic_4 ?_
    refine r_icmp_ge e_X11_kickOff_130 (fun hh => absurd hh hs) (fun _ => ?_)
    refine r_aload_n e_X11_kickOff_133 rfl ?_
    refine r_iload_n e_X11_kickOff_134 rfl ?_
    refine r_iconst e_X11_kickOff_135 ic_4 ?_
    refine r_iload e_X11_kickOff_136 rfl ?_
    refine r_iadd e_X11_kickOff_138 ?_
    refine r_iconst e_X11_kickOff_139 ic_0 ?_
    obtain ⟨M19, w19, h⟩ := bnd1_el h
    refine cV3u e_X11_kickOff_140 cl_X11_282 ⟨Nat.le_of_ble_eq_true rfl, Nat.le_of_ble_eq_true rfl⟩ ⟨rfl, rfl⟩ k0 (Nat.le_of_ble_eq_true rfl) (S_X11_set hb1 w19) ?_
    refine p_iinc_6_5 e_X11_kickOff_143 rfl ic_1 rfl ?_
    rw [nI_1 i127]
    refine r_goto e_X11_kickOff_146 ?_
    exact ih _  _ _ (by omega) h hE
def L_X11_kickOff_2 (x1 : Int32) (mA : Nat) : Nat → Nat → Mem → Option (Mem)
  | 0, i2, M => some M
  | n + 1, i2, M => ck ((1 : Int32) + ((nI i2) / (5 : Int32))) 212 (bd1 (M.1 mA ((1 : Int32) + ((nI i2) / (5 : Int32))).toNatClampNeg) (fun v2 => bd1 (((5 : Int32) * v2) + ((nI i2) - (nI i2) / (5 : Int32) * (5 : Int32))) (fun v3 => ck v3 20 (bnd1 (R_X11_set (nI i2) (11 : Int32) (M.1 254 v3.toNatClampNeg) mA M) (fun M5 => ck v3 20 (bnd1 (R_X11_set (nI i2) (12 : Int32) (M5.1 255 v3.toNatClampNeg) mA M5) (fun M7 => ck v3 20 (bnd1 (R_X11_set (nI i2) (13 : Int32) (M7.1 256 v3.toNatClampNeg) mA M7) (fun M9 => ck v2 4 (bnd1 (R_X11_set (nI i2) (14 : Int32) (M9.1 257 v2.toNatClampNeg) mA M9) (fun M11 => ck v2 4 (bnd1 (R_X11_set (nI i2) (15 : Int32) (M11.1 258 v2.toNatClampNeg) mA M11) (fun M13 => ck v3 20 (bd1 (if 0 ≤ (M13.1 254 v3.toNatClampNeg) then (0 : Int32) else (-1 : Int32)) (fun v16_0 => bnd1 (R_X11_set (nI i2) (2 : Int32) v16_0 mA M13) (fun M17 => bnd1 (R_X11_set (nI i2) (3 : Int32) (0 : Int32) mA M17) (fun M18 => bnd1 (L_X11_kickOff_127 x1 mA (nI i2) 4 0 M18) (fun M20 => L_X11_kickOff_2 x1 mA n (i2 + 1) M20))))))))))))))))))
theorem LW_X11_kickOff_2 {sh : List SC} {Q : Po} {x1 : Int32} {mA : Nat} {oA : Nat}  (hb1 : ModelAt sh mA oA)  : ∀ (n i2 : Nat) (M : Mem) (Mz : Mem), i2 + n = 10 → L_X11_kickOff_2 x1 mA n i2 M = some Mz → WP m_X11_kickOff Q 155 [some (.ref 242), some (.int x1), none, none, none, none] [] sh Mz 0 0 → WP m_X11_kickOff Q 2 [some (.ref 242), some (.int x1), some (.int (nI i2)), none, none, none] [] sh M 0 0 := by
  intro n
  induction n with
  | zero =>
    intro i2 M Mz hi h hE
    rw [L_X11_kickOff_2] at h
    have hz : (10 : Int32) ≤ nI i2 := by
      have q : i2 = 10 := by omega
      rw [q]; exact nI_le (Nat.le_refl _) (by decide)
    refine r_iload_n e_X11_kickOff_2 rfl ?_
    refine r_bipush e_X11_kickOff_3 bp_10 ?_
    refine r_icmp_ge e_X11_kickOff_5 (fun _ => ?_) (fun hh => absurd hz hh)
    refine d_6_2 ?_
    obtain rfl := Option.some.inj h; exact hE
  | succ n ih =>
    intro i2 M Mz hi h hE
    rw [L_X11_kickOff_2] at h
    have hlt_i2 : i2 < 10 := by omega
    have hcl_i2 : (nI i2).toNatClampNeg = i2 := nI_clamp (by omega)
    have hs : ¬ (10 : Int32) ≤ nI i2 := nI_ge (b := 10) hlt_i2 (by decide)
    have k0 : kd sh 242 = some (10 + 7, 0) := hb1.1
    have k1 : rf sh 242 27 = some mA := hb1.2.2.2.2.2.2.2.2.2.2.2.2.2.2.2.2.2.1
    have k2 : kd sh mA = some (0, 212) := hb1.2.2.2.2.2.2.2.2.2.2.2.2.2.2.2.2.2.2.2.2.2.2.2.2.2.2.2.2.2.2.2.2.2.2.2.2.2.2.2.2.2.2.2.2.2.2.2.2.2.2.2.1
    have k3 : rf sh 242 22 = some 254 := hb1.2.2.2.2.2.2.2.2.2.2.2.2.1
    have k4 : kd sh 254 = some (0, 20) := hb1.2.2.2.2.2.2.2.2.2.2.2.2.2.2.2.2.2.2.2.2.2.2.2.2.2.2.2.2.2.2.2.2.2.2.2.2.2.2.1
    have k5 : rf sh 242 23 = some 255 := hb1.2.2.2.2.2.2.2.2.2.2.2.2.2.1
    have k6 : kd sh 255 = some (0, 20) := hb1.2.2.2.2.2.2.2.2.2.2.2.2.2.2.2.2.2.2.2.2.2.2.2.2.2.2.2.2.2.2.2.2.2.2.2.2.2.2.2.1
    have k7 : rf sh 242 24 = some 256 := hb1.2.2.2.2.2.2.2.2.2.2.2.2.2.2.1
    have k8 : kd sh 256 = some (0, 20) := hb1.2.2.2.2.2.2.2.2.2.2.2.2.2.2.2.2.2.2.2.2.2.2.2.2.2.2.2.2.2.2.2.2.2.2.2.2.2.2.2.2.1
    have k9 : rf sh 242 25 = some 257 := hb1.2.2.2.2.2.2.2.2.2.2.2.2.2.2.2.1
    have k10 : kd sh 257 = some (0, 4) := hb1.2.2.2.2.2.2.2.2.2.2.2.2.2.2.2.2.2.2.2.2.2.2.2.2.2.2.2.2.2.2.2.2.2.2.2.2.2.2.2.2.2.1
    have k11 : rf sh 242 26 = some 258 := hb1.2.2.2.2.2.2.2.2.2.2.2.2.2.2.2.2.1
    have k12 : kd sh 258 = some (0, 4) := hb1.2.2.2.2.2.2.2.2.2.2.2.2.2.2.2.2.2.2.2.2.2.2.2.2.2.2.2.2.2.2.2.2.2.2.2.2.2.2.2.2.2.2.1
    refine r_iload_n e_X11_kickOff_2 rfl ?_
    refine r_bipush e_X11_kickOff_3 bp_10 ?_
    refine r_icmp_ge e_X11_kickOff_5 (fun hh => absurd hh hs) (fun _ => ?_)
    refine r_aload_n e_X11_kickOff_8 rfl ?_
    refine r_getR e_X11_kickOff_9 fl_X11_212 k0 k1 ?_
    refine r_iconst e_X11_kickOff_12 ic_1 ?_
    refine r_iload_n e_X11_kickOff_13 rfl ?_
    refine r_iconst e_X11_kickOff_14 ic_5 ?_
    refine r_idiv e_X11_kickOff_15 (by decide) ?_
    refine r_iadd e_X11_kickOff_16 ?_
    obtain ⟨b1, h⟩ := ck_el h
    refine r_iaload e_X11_kickOff_17 k2 b1 ?_
    obtain ⟨v2, e2, h⟩ := bd1_el h
    rw [e2]
    refine p_istore_n_6_3 e_X11_kickOff_18 rfl rfl ?_
    refine r_iconst e_X11_kickOff_19 ic_5 ?_
    refine r_iload_n e_X11_kickOff_20 rfl ?_
    refine r_imul e_X11_kickOff_21 ?_
    refine r_iload_n e_X11_kickOff_22 rfl ?_
    refine r_iconst e_X11_kickOff_23 ic_5 ?_
    refine r_irem e_X11_kickOff_24 (by decide) ?_
    refine r_iadd e_X11_kickOff_25 ?_
    obtain ⟨v3, e3, h⟩ := bd1_el h
    rw [e3]
    refine p_istore_6_4 e_X11_kickOff_26 rfl rfl ?_
    refine r_aload_n e_X11_kickOff_28 rfl ?_
    refine r_iload_n e_X11_kickOff_29 rfl ?_
    refine r_bipush e_X11_kickOff_30 bp_11 ?_
    refine r_aload_n e_X11_kickOff_32 rfl ?_
    refine r_getR e_X11_kickOff_33 fl_X11_197 k0 k3 ?_
    refine r_iload e_X11_kickOff_36 rfl ?_
    obtain ⟨b4, h⟩ := ck_el h
    refine r_iaload e_X11_kickOff_38 k4 b4 ?_
    obtain ⟨M5, w5, h⟩ := bnd1_el h
    refine cV3u e_X11_kickOff_39 cl_X11_282 ⟨Nat.le_of_ble_eq_true rfl, Nat.le_of_ble_eq_true rfl⟩ ⟨rfl, rfl⟩ k0 (Nat.le_of_ble_eq_true rfl) (S_X11_set hb1 w5) ?_
    refine r_aload_n e_X11_kickOff_42 rfl ?_
    refine r_iload_n e_X11_kickOff_43 rfl ?_
    refine r_bipush e_X11_kickOff_44 bp_12 ?_
    refine r_aload_n e_X11_kickOff_46 rfl ?_
    refine r_getR e_X11_kickOff_47 fl_X11_200 k0 k5 ?_
    refine r_iload e_X11_kickOff_50 rfl ?_
    obtain ⟨b6, h⟩ := ck_el h
    refine r_iaload e_X11_kickOff_52 k6 b6 ?_
    obtain ⟨M7, w7, h⟩ := bnd1_el h
    refine cV3u e_X11_kickOff_53 cl_X11_282 ⟨Nat.le_of_ble_eq_true rfl, Nat.le_of_ble_eq_true rfl⟩ ⟨rfl, rfl⟩ k0 (Nat.le_of_ble_eq_true rfl) (S_X11_set hb1 w7) ?_
    refine r_aload_n e_X11_kickOff_56 rfl ?_
    refine r_iload_n e_X11_kickOff_57 rfl ?_
    refine r_bipush e_X11_kickOff_58 bp_13 ?_
    refine r_aload_n e_X11_kickOff_60 rfl ?_
    refine r_getR e_X11_kickOff_61 fl_X11_203 k0 k7 ?_
    refine r_iload e_X11_kickOff_64 rfl ?_
    obtain ⟨b8, h⟩ := ck_el h
    refine r_iaload e_X11_kickOff_66 k8 b8 ?_
    obtain ⟨M9, w9, h⟩ := bnd1_el h
    refine cV3u e_X11_kickOff_67 cl_X11_282 ⟨Nat.le_of_ble_eq_true rfl, Nat.le_of_ble_eq_true rfl⟩ ⟨rfl, rfl⟩ k0 (Nat.le_of_ble_eq_true rfl) (S_X11_set hb1 w9) ?_
    refine r_aload_n e_X11_kickOff_70 rfl ?_
    refine r_iload_n e_X11_kickOff_71 rfl ?_
    refine r_bipush e_X11_kickOff_72 bp_14 ?_
    refine r_aload_n e_X11_kickOff_74 rfl ?_
    refine r_getR e_X11_kickOff_75 fl_X11_206 k0 k9 ?_
    refine r_iload_n e_X11_kickOff_78 rfl ?_
    obtain ⟨b10, h⟩ := ck_el h
    refine r_iaload e_X11_kickOff_79 k10 b10 ?_
    obtain ⟨M11, w11, h⟩ := bnd1_el h
    refine cV3u e_X11_kickOff_80 cl_X11_282 ⟨Nat.le_of_ble_eq_true rfl, Nat.le_of_ble_eq_true rfl⟩ ⟨rfl, rfl⟩ k0 (Nat.le_of_ble_eq_true rfl) (S_X11_set hb1 w11) ?_
    refine r_aload_n e_X11_kickOff_83 rfl ?_
    refine r_iload_n e_X11_kickOff_84 rfl ?_
    refine r_bipush e_X11_kickOff_85 bp_15 ?_
    refine r_aload_n e_X11_kickOff_87 rfl ?_
    refine r_getR e_X11_kickOff_88 fl_X11_209 k0 k11 ?_
    refine r_iload_n e_X11_kickOff_91 rfl ?_
    obtain ⟨b12, h⟩ := ck_el h
    refine r_iaload e_X11_kickOff_92 k12 b12 ?_
    obtain ⟨M13, w13, h⟩ := bnd1_el h
    refine cV3u e_X11_kickOff_93 cl_X11_282 ⟨Nat.le_of_ble_eq_true rfl, Nat.le_of_ble_eq_true rfl⟩ ⟨rfl, rfl⟩ k0 (Nat.le_of_ble_eq_true rfl) (S_X11_set hb1 w13) ?_
    refine r_aload_n e_X11_kickOff_96 rfl ?_
    refine r_iload_n e_X11_kickOff_97 rfl ?_
    refine r_iconst e_X11_kickOff_98 ic_2 ?_
    refine r_aload_n e_X11_kickOff_99 rfl ?_
    refine r_getR e_X11_kickOff_100 fl_X11_197 k0 k3 ?_
    refine r_iload e_X11_kickOff_103 rfl ?_
    obtain ⟨b14, h⟩ := ck_el h
    refine r_iaload e_X11_kickOff_105 k4 b14 ?_
    obtain ⟨v16_0, q16, h⟩ := bd1_el h
    suffices j16 : WP m_X11_kickOff _ 114 [some (.ref 242), some (.int x1), some (.int (nI i2)), none, none, none] [.int v16_0, .int (2 : Int32), .int (nI i2), .ref 242] sh M13 0 0 by
      refine r_if_ge e_X11_kickOff_106 (fun c15 => ?_) (fun c15 => ?_)
      · rw [if_pos c15] at q16
        refine r_iconst e_X11_kickOff_113 ic_0 ?_
        refine d_6_3 ?_
        refine d_6_4 ?_
        subst q16; exact j16
      · rw [if_neg c15] at q16
        refine r_iconst e_X11_kickOff_109 ic_m1 ?_
        refine r_goto e_X11_kickOff_110 ?_
        refine d_6_3 ?_
        refine d_6_4 ?_
        subst q16; exact j16
    obtain ⟨M17, w17, h⟩ := bnd1_el h
    refine cV3u e_X11_kickOff_114 cl_X11_282 ⟨Nat.le_of_ble_eq_true rfl, Nat.le_of_ble_eq_true rfl⟩ ⟨rfl, rfl⟩ k0 (Nat.le_of_ble_eq_true rfl) (S_X11_set hb1 w17) ?_
    refine r_aload_n e_X11_kickOff_117 rfl ?_
    refine r_iload_n e_X11_kickOff_118 rfl ?_
    refine r_iconst e_X11_kickOff_119 ic_3 ?_
    refine r_iconst e_X11_kickOff_120 ic_0 ?_
    obtain ⟨M18, w18, h⟩ := bnd1_el h
    refine cV3u e_X11_kickOff_121 cl_X11_282 ⟨Nat.le_of_ble_eq_true rfl, Nat.le_of_ble_eq_true rfl⟩ ⟨rfl, rfl⟩ k0 (Nat.le_of_ble_eq_true rfl) (S_X11_set hb1 w18) ?_
    refine r_iconst e_X11_kickOff_124 ic_0 ?_
    refine p_istore_6_5 e_X11_kickOff_125 rfl rfl ?_
    show WP m_X11_kickOff _ 127 [some (.ref 242), some (.int x1), some (.int (nI i2)), none, none, some (.int (nI 0))] [] sh M18 0 0
    obtain ⟨M20, w20, h⟩ := bnd1_el h
    refine LW_X11_kickOff_127 hb1 4 0 _ _ (by omega) w20 ?_
    refine p_iinc_6_2 e_X11_kickOff_149 rfl ic_1 rfl ?_
    rw [nI_1 i2]
    refine r_goto e_X11_kickOff_152 ?_
    exact ih _  _ _ (by omega) h hE
def L_X11_kickOff_160 (x1 : Int32) (mA : Nat) : Nat → Mem → Option (Mem)
  | 0, _ => none
  | n + 1, M => if (10 : Int32) ≤ (M.1 242 30) then (some M) else (bnd1 (R_X11_putAtStart (M.1 242 30) mA M) (fun M23 => L_X11_kickOff_160 x1 mA n (setI M23 242 30 ((M23.1 242 30) + (1 : Int32)))))
theorem LW_X11_kickOff_160 {sh : List SC} {Q : Po} {x1 : Int32} {mA : Nat} {oA : Nat}  (hb1 : ModelAt sh mA oA)  : ∀ (n : Nat) (M : Mem) (Mz : Mem), L_X11_kickOff_160 x1 mA n M = some Mz → WP m_X11_kickOff Q 190 [some (.ref 242), some (.int x1), none, none, none, none] [] sh Mz 0 0 → WP m_X11_kickOff Q 160 [some (.ref 242), some (.int x1), none, none, none, none] [] sh M 0 0 := by
  intro n
  induction n with
  | zero =>
    intro M Mz h hE
    rw [L_X11_kickOff_160] at h
    cases h
  | succ n ih =>
    intro M Mz h hE
    rw [L_X11_kickOff_160] at h
    have k0 : kd sh 242 = some (10 + 7, 0) := hb1.1
    refine r_aload_n e_X11_kickOff_160 rfl ?_
    refine r_getI e_X11_kickOff_161 fl_X11_221 i0 k0 ?_
    refine r_bipush e_X11_kickOff_164 bp_10 ?_
    refine r_icmp_ge e_X11_kickOff_166 (fun c22 => ?_) (fun c22 => ?_)
    · rw [if_pos c22] at h
      obtain rfl := Option.some.inj h; exact hE
    · rw [if_neg c22] at h
      refine r_aload_n e_X11_kickOff_169 rfl ?_
      refine r_aload_n e_X11_kickOff_170 rfl ?_
      refine r_getI e_X11_kickOff_171 fl_X11_221 i0 k0 ?_
      obtain ⟨M23, w23, h⟩ := bnd1_el h
      refine cV1u e_X11_kickOff_174 cl_X11_288 ⟨Nat.le_of_ble_eq_true rfl, Nat.le_of_ble_eq_true rfl⟩ ⟨rfl, rfl⟩ k0 (Nat.le_of_ble_eq_true rfl) (S_X11_putAtStart hb1 w23) ?_
      refine r_aload_n e_X11_kickOff_177 rfl ?_
      refine r_dup e_X11_kickOff_178 rfl ?_
      refine r_getI e_X11_kickOff_179 fl_X11_221 i0 k0 ?_
      refine r_iconst e_X11_kickOff_182 ic_1 ?_
      refine r_iadd e_X11_kickOff_183 ?_
      refine r_putI e_X11_kickOff_184 fl_X11_221 k0 ?_
      refine r_goto e_X11_kickOff_187 ?_
      exact ih  _ _ h hE
def L_X11_kickOff_196 (x1 : Int32) (mA : Nat) : Nat → Nat → Mem → Option (Mem)
  | 0, i196, M => some M
  | n + 1, i196, M => bnd1 (R_X11_set (nI i196) (8 : Int32) (M.1 mA 14) mA M) (fun M26 => bnd1 (R_X11_set (nI i196) (9 : Int32) (M26.1 mA 15) mA M26) (fun M27 => L_X11_kickOff_196 x1 mA n (i196 + 1) M27))
theorem LW_X11_kickOff_196 {sh : List SC} {Q : Po} {x1 : Int32} {mA : Nat} {oA : Nat}  (hb1 : ModelAt sh mA oA)  : ∀ (n i196 : Nat) (M : Mem) (Mz : Mem), i196 + n = 10 → L_X11_kickOff_196 x1 mA n i196 M = some Mz → WP m_X11_kickOff Q 236 [some (.ref 242), some (.int x1), none, none, none, none] [] sh Mz 0 0 → WP m_X11_kickOff Q 196 [some (.ref 242), some (.int x1), some (.int (nI i196)), none, none, none] [] sh M 0 0 := by
  intro n
  induction n with
  | zero =>
    intro i196 M Mz hi h hE
    rw [L_X11_kickOff_196] at h
    have hz : (10 : Int32) ≤ nI i196 := by
      have q : i196 = 10 := by omega
      rw [q]; exact nI_le (Nat.le_refl _) (by decide)
    refine r_iload_n e_X11_kickOff_196 rfl ?_
    refine r_bipush e_X11_kickOff_197 bp_10 ?_
    refine r_icmp_ge e_X11_kickOff_199 (fun _ => ?_) (fun hh => absurd hz hh)
    refine d_6_2 ?_
    obtain rfl := Option.some.inj h; exact hE
  | succ n ih =>
    intro i196 M Mz hi h hE
    rw [L_X11_kickOff_196] at h
    have hlt_i196 : i196 < 10 := by omega
    have hcl_i196 : (nI i196).toNatClampNeg = i196 := nI_clamp (by omega)
    have hs : ¬ (10 : Int32) ≤ nI i196 := nI_ge (b := 10) hlt_i196 (by decide)
    have k0 : kd sh 242 = some (10 + 7, 0) := hb1.1
    have k1 : rf sh 242 27 = some mA := hb1.2.2.2.2.2.2.2.2.2.2.2.2.2.2.2.2.2.1
    have k2 : kd sh mA = some (0, 212) := hb1.2.2.2.2.2.2.2.2.2.2.2.2.2.2.2.2.2.2.2.2.2.2.2.2.2.2.2.2.2.2.2.2.2.2.2.2.2.2.2.2.2.2.2.2.2.2.2.2.2.2.2.1
    refine r_iload_n e_X11_kickOff_196 rfl ?_
    refine r_bipush e_X11_kickOff_197 bp_10 ?_
    refine r_icmp_ge e_X11_kickOff_199 (fun hh => absurd hh hs) (fun _ => ?_)
    refine r_aload_n e_X11_kickOff_202 rfl ?_
    refine r_iload_n e_X11_kickOff_203 rfl ?_
    refine r_bipush e_X11_kickOff_204 bp_8 ?_
    refine r_aload_n e_X11_kickOff_206 rfl ?_
    refine r_getR e_X11_kickOff_207 fl_X11_212 k0 k1 ?_
    refine r_bipush e_X11_kickOff_210 bp_14 ?_
    refine r_ialoade (v := (M.1 mA 14)) e_X11_kickOff_212 k2 (by unfold vp_in; decide) (show M.1 mA (14 : Int32).toNatClampNeg = M.1 mA 14 by rw [show (14 : Int32).toNatClampNeg = 14 from rfl]) ?_
    obtain ⟨M26, w26, h⟩ := bnd1_el h
    refine cV3u e_X11_kickOff_213 cl_X11_282 ⟨Nat.le_of_ble_eq_true rfl, Nat.le_of_ble_eq_true rfl⟩ ⟨rfl, rfl⟩ k0 (Nat.le_of_ble_eq_true rfl) (S_X11_set hb1 w26) ?_
    refine r_aload_n e_X11_kickOff_216 rfl ?_
    refine r_iload_n e_X11_kickOff_217 rfl ?_
    refine r_bipush e_X11_kickOff_218 bp_9 ?_
    refine r_aload_n e_X11_kickOff_220 rfl ?_
    refine r_getR e_X11_kickOff_221 fl_X11_212 k0 k1 ?_
    refine r_bipush e_X11_kickOff_224 bp_15 ?_
    refine r_ialoade (v := (M26.1 mA 15)) e_X11_kickOff_226 k2 (by unfold vp_in; decide) (show M26.1 mA (15 : Int32).toNatClampNeg = M26.1 mA 15 by rw [show (15 : Int32).toNatClampNeg = 15 from rfl]) ?_
    obtain ⟨M27, w27, h⟩ := bnd1_el h
    refine cV3u e_X11_kickOff_227 cl_X11_282 ⟨Nat.le_of_ble_eq_true rfl, Nat.le_of_ble_eq_true rfl⟩ ⟨rfl, rfl⟩ k0 (Nat.le_of_ble_eq_true rfl) (S_X11_set hb1 w27) ?_
    refine p_iinc_6_2 e_X11_kickOff_230 rfl ic_1 rfl ?_
    rw [nI_1 i196]
    refine r_goto e_X11_kickOff_233 ?_
    exact ih _  _ _ (by omega) h hE
def R_X11_kickOff (x1 : Int32) (mA : Nat) (M : Mem) : Option (Mem) := bnd1 (L_X11_kickOff_2 x1 mA 10 0 M) (fun M21 => bnd1 (L_X11_kickOff_160 x1 mA FUEL (setI M21 242 30 (0 : Int32))) (fun M24 => bnd1 (R_X11_lay  mA M24) (fun M25 => bnd1 (L_X11_kickOff_196 x1 mA 10 0 M25) (fun M28 => some (setI M28 mA 13 x1)))))
theorem S_X11_kickOff {sh : List SC} {M : Mem} {x1 : Int32} {mA : Nat} {oA : Nat} {M' : Mem} (hb1 : ModelAt sh mA oA)  (h : R_X11_kickOff x1 mA M = some M') : Gu m_X11_kickOff [.ref 242, .int x1] sh M M' := by
  refine Sp.of (ls := [some (.ref 242), some (.int x1), none, none, none, none]) (by decide +kernel) (Nat.le_of_ble_eq_true rfl) rfl ?_
  have k0 : kd sh 242 = some (10 + 7, 0) := hb1.1
  have k1 : rf sh 242 27 = some mA := hb1.2.2.2.2.2.2.2.2.2.2.2.2.2.2.2.2.2.1
  have k2 : kd sh mA = some (0, 212) := hb1.2.2.2.2.2.2.2.2.2.2.2.2.2.2.2.2.2.2.2.2.2.2.2.2.2.2.2.2.2.2.2.2.2.2.2.2.2.2.2.2.2.2.2.2.2.2.2.2.2.2.2.1
  unfold R_X11_kickOff at h
  refine r_iconst e_X11_kickOff_0 ic_0 ?_
  refine p_istore_n_6_2 e_X11_kickOff_1 rfl rfl ?_
  show WP m_X11_kickOff _ 2 [some (.ref 242), some (.int x1), some (.int (nI 0)), none, none, none] [] sh M 0 0
  obtain ⟨M21, w21, h⟩ := bnd1_el h
  refine LW_X11_kickOff_2 hb1 10 0 _ _ (by omega) w21 ?_
  refine r_aload_n e_X11_kickOff_155 rfl ?_
  refine r_iconst e_X11_kickOff_156 ic_0 ?_
  refine r_putI e_X11_kickOff_157 fl_X11_221 k0 ?_
  obtain ⟨M24, w24, h⟩ := bnd1_el h
  refine LW_X11_kickOff_160 hb1 _ _ _ w24 ?_
  refine r_aload_n e_X11_kickOff_190 rfl ?_
  obtain ⟨M25, w25, h⟩ := bnd1_el h
  refine cV0u e_X11_kickOff_191 cl_X11_292 ⟨Nat.le_of_ble_eq_true rfl, Nat.le_of_ble_eq_true rfl⟩ ⟨rfl, rfl⟩ k0 (Nat.le_of_ble_eq_true rfl) (S_X11_lay hb1 w25) ?_
  refine r_iconst e_X11_kickOff_194 ic_0 ?_
  refine p_istore_n_6_2 e_X11_kickOff_195 rfl rfl ?_
  show WP m_X11_kickOff _ 196 [some (.ref 242), some (.int x1), some (.int (nI 0)), none, none, none] [] sh M25 0 0
  obtain ⟨M28, w28, h⟩ := bnd1_el h
  refine LW_X11_kickOff_196 hb1 10 0 _ _ (by omega) w28 ?_
  refine r_aload_n e_X11_kickOff_236 rfl ?_
  refine r_getR e_X11_kickOff_237 fl_X11_212 k0 k1 ?_
  refine r_bipush e_X11_kickOff_240 bp_13 ?_
  refine r_iload_n e_X11_kickOff_242 rfl ?_
  refine r_iastore e_X11_kickOff_243 k2 (by unfold vp_in; decide) ?_
  rw [show (13 : Int32).toNatClampNeg = 13 from rfl]
  refine r_return e_X11_kickOff_244 rfl ⟨rfl, rfl⟩ ?_
  obtain rfl := Option.some.inj h; exact ⟨rfl, rfl, rfl⟩
