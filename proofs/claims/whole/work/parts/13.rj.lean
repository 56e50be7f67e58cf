def L_X11_order_24 (x1 : Int32) (mA : Nat) (w2 : Int32) : Nat → Nat → Int32 → Mem → Option (Int32)
  | 0, i24, u3, M => some u3
  | n + 1, i24, u3, M => bnd1 (if (nI i24) = w2 then (some (0 : Int32)) else (if (V_X11_hasPlayed (nI i24) M) = 0 then (some (0 : Int32)) else (bnd1 (R_X11_isAhead (nI i24) w2 mA M) (fun v17 => if v17 = 0 then (some (0 : Int32)) else (some (1 : Int32)))))) (fun v15_0 => L_X11_order_24 x1 mA w2 n (i24 + 1) (u3 + v15_0) M)
theorem LW_X11_order_24 {sh : List SC} {Q : Po} {x1 : Int32} {mA : Nat} {oA : Nat} {w2 : Int32} (hb1 : ModelAt sh mA oA)  : ∀ (n i24 : Nat) (u3 : Int32) (M : Mem) (z3 : Int32), i24 + n = 4 → L_X11_order_24 x1 mA w2 n i24 u3 M = some z3 → WP m_X11_order Q 69 [some (.ref 242), some (.int x1), some (.int w2), some (.int z3), none] [] sh M 0 0 → WP m_X11_order Q 24 [some (.ref 242), some (.int x1), some (.int w2), some (.int u3), some (.int (nI i24))] [] sh M 0 0 := by
  intro n
  induction n with
  | zero =>
    intro i24 u3 M z3 hi h hE
    rw [L_X11_order_24] at h
    have hz : (4 : Int32) ≤ nI i24 := by
      have q : i24 = 4 := by omega
      rw [q]; exact nI_le (Nat.le_refl _) (by decide)
    refine r_iload e_X11_order_24 rfl ?_
    refine r_iconst e_X11_order_26 ic_4 ?_
    refine r_icmp_ge e_X11_order_27 (fun _ => ?_) (fun hh => absurd hz hh)
    refine d_5_4 ?_
    obtain rfl := Option.some.inj h; exact hE
  | succ n ih =>
    intro i24 u3 M z3 hi h hE
    rw [L_X11_order_24] at h
    have hlt_i24 : i24 < 4 := by omega
    have hcl_i24 : (nI i24).toNatClampNeg = i24 := nI_clamp (by omega)
    have hs : ¬ (4 : Int32) ≤ nI i24 := nI_ge (b := 4) hlt_i24 (by decide)
    have k0 : kd sh 242 = some (10 + 7, 0) := hb1.1
    refine r_iload e_X11_order_24 rfl ?_
    refine r_iconst e_X11_order_26 ic_4 ?_
    refine r_icmp_ge e_X11_order_27 (fun hh => absurd hh hs) (fun _ => ?_)
    refine r_iload_n e_X11_order_30 rfl ?_
    refine r_iload e_X11_order_31 rfl ?_
    refine r_iload_n e_X11_order_33 rfl ?_
    obtain ⟨K15, hK15, h⟩ := bnd1_in h
    suffices j15 : ∀ v15_0, K15 v15_0 = some z3 → WP m_X11_order _ 61 [some (.ref 242), some (.int x1), some (.int w2), none, some (.int (nI i24))] [.int v15_0, .int u3] sh M 0 0 by
      refine r_icmp_eq e_X11_order_34 (fun c12 => ?_) (fun c12 => ?_)
      · rw [if_pos c12] at h
        refine r_iconst e_X11_order_60 ic_0 ?_
        refine d_5_3 ?_
        exact j15 _ h
      · rw [if_neg c12] at h
        refine r_aload_n e_X11_order_37 rfl ?_
        refine r_iload e_X11_order_38 rfl ?_
        refine cV1v e_X11_order_40 cl_X11_414 ⟨Nat.le_of_ble_eq_true rfl, Nat.le_of_ble_eq_true rfl⟩ ⟨rfl, rfl⟩ k0 (Nat.le_of_ble_eq_true rfl) (S_X11_hasPlayed hb1) ?_
        refine r_if_eq e_X11_order_43 (fun c16 => ?_) (fun c16 => ?_)
        · rw [if_pos c16] at h
          refine r_iconst e_X11_order_60 ic_0 ?_
          refine d_5_3 ?_
          exact j15 _ h
        · rw [if_neg c16] at h
          refine r_aload_n e_X11_order_46 rfl ?_
          refine r_iload e_X11_order_47 rfl ?_
          refine r_iload_n e_X11_order_49 rfl ?_
          obtain ⟨v17, w17, h⟩ := bnd1_elK h
          refine cV2v e_X11_order_50 cl_X11_417 ⟨Nat.le_of_ble_eq_true rfl, Nat.le_of_ble_eq_true rfl⟩ ⟨rfl, rfl⟩ k0 (Nat.le_of_ble_eq_true rfl) (S_X11_isAhead hb1 w17) ?_
          refine r_if_eq e_X11_order_53 (fun c18 => ?_) (fun c18 => ?_)
          · rw [if_pos c18] at h
            refine r_iconst e_X11_order_60 ic_0 ?_
            refine d_5_3 ?_
            exact j15 _ h
          · rw [if_neg c18] at h
            refine r_iconst e_X11_order_56 ic_1 ?_
            refine r_goto e_X11_order_57 ?_
            refine d_5_3 ?_
            exact j15 _ h
    intro v15_0 h
    rw [hK15] at h
    refine r_iadd e_X11_order_61 ?_
    refine p_istore_n_5_3 e_X11_order_62 rfl rfl ?_
    refine p_iinc_5_4 e_X11_order_63 rfl ic_1 rfl ?_
    rw [nI_1 i24]
    refine r_goto e_X11_order_66 ?_
    exact ih _ _ _ _ (by omega) h hE
def L_X11_order_14 (x1 : Int32) (mA : Nat) : Nat → Nat → Mem → Option ((Int32 × Mem) ⊕ (Unit))
  | 0, i14, M => some (.inr ())
  | n + 1, i14, M => bnd1 (L_X11_order_24 x1 mA (nI i14) 4 0 (0 : Int32) M) (fun v19_0 => if (V_X11_hasPlayed (nI i14) M) = 0 then (L_X11_order_14 x1 mA n (i14 + 1) M) else (if v19_0 = x1 then (some (.inl ((nI i14), M))) else (L_X11_order_14 x1 mA n (i14 + 1) M)))
theorem LW_X11_order_14 {sh : List SC} {Q : Po} {x1 : Int32} {mA : Nat} {oA : Nat}  (hb1 : ModelAt sh mA oA)  : ∀ (n i14 : Nat) (M : Mem) (q : (Int32 × Mem) ⊕ (Unit)), i14 + n = 4 → L_X11_order_14 x1 mA n i14 M = some q → (∀ x, q = .inl x → Q (some (.int x.1)) sh x.2) → (∀ zu, q = .inr zu → WP m_X11_order Q 90 [some (.ref 242), none, none, none, none] [] sh M 0 0) → WP m_X11_order Q 14 [some (.ref 242), some (.int x1), some (.int (nI i14)), none, none] [] sh M 0 0 := by
  intro n
  induction n with
  | zero =>
    intro i14 M q hi h hR hE
    rw [L_X11_order_14] at h
    have hz : (4 : Int32) ≤ nI i14 := by
      have q : i14 = 4 := by omega
      rw [q]; exact nI_le (Nat.le_refl _) (by decide)
    refine r_iload_n e_X11_order_14 rfl ?_
    refine r_iconst e_X11_order_15 ic_4 ?_
    refine r_icmp_ge e_X11_order_16 (fun _ => ?_) (fun hh => absurd hz hh)
    refine d_5_1 ?_
    refine d_5_2 ?_
    exact hE _ (Option.some.inj h).symm
  | succ n ih =>
    intro i14 M q hi h hR hE
    rw [L_X11_order_14] at h
    have hlt_i14 : i14 < 4 := by omega
    have hcl_i14 : (nI i14).toNatClampNeg = i14 := nI_clamp (by omega)
    have hs : ¬ (4 : Int32) ≤ nI i14 := nI_ge (b := 4) hlt_i14 (by decide)
    have k0 : kd sh 242 = some (10 + 7, 0) := hb1.1
    refine r_iload_n e_X11_order_14 rfl ?_
    refine r_iconst e_X11_order_15 ic_4 ?_
    refine r_icmp_ge e_X11_order_16 (fun hh => absurd hh hs) (fun _ => ?_)
    refine r_iconst e_X11_order_19 ic_0 ?_
    refine p_istore_n_5_3 e_X11_order_20 rfl rfl ?_
    refine r_iconst e_X11_order_21 ic_0 ?_
    refine p_istore_5_4 e_X11_order_22 rfl rfl ?_
    show WP m_X11_order _ 24 [some (.ref 242), some (.int x1), some (.int (nI i14)), some (.int (0 : Int32)), some (.int (nI 0))] [] sh M 0 0
    obtain ⟨v19_0, w19, h⟩ := bnd1_el h
    refine LW_X11_order_24 hb1 4 0 _ _ _ (by omega) w19 ?_
    refine r_aload_n e_X11_order_69 rfl ?_
    refine r_iload_n e_X11_order_70 rfl ?_
    refine cV1v e_X11_order_71 cl_X11_414 ⟨Nat.le_of_ble_eq_true rfl, Nat.le_of_ble_eq_true rfl⟩ ⟨rfl, rfl⟩ k0 (Nat.le_of_ble_eq_true rfl) (S_X11_hasPlayed hb1) ?_
    refine r_if_eq e_X11_order_74 (fun c20 => ?_) (fun c20 => ?_)
    · rw [if_pos c20] at h
      refine p_iinc_5_2 e_X11_order_84 rfl ic_1 rfl ?_
      rw [nI_1 i14]
      refine r_goto e_X11_order_87 ?_
      refine d_5_3 ?_
      exact ih _  _ _ (by omega) h hR hE
    · rw [if_neg c20] at h
      refine r_iload_n e_X11_order_77 rfl ?_
      refine r_iload_n e_X11_order_78 rfl ?_
      refine r_icmp_ne e_X11_order_79 (fun c21 => ?_) (fun c21 => ?_)
      · rw [if_neg c21] at h
        refine p_iinc_5_2 e_X11_order_84 rfl ic_1 rfl ?_
        rw [nI_1 i14]
        refine r_goto e_X11_order_87 ?_
        refine d_5_3 ?_
        exact ih _  _ _ (by omega) h hR hE
      · rw [if_pos c21] at h
        refine r_iload_n e_X11_order_82 rfl ?_
        refine r_ireturn e_X11_order_83 rfl ⟨rfl, rfl⟩ ?_
        exact hR _ (Option.some.inj h).symm
def R_X11_order (x1 : Int32) (mA : Nat) (M : Mem) : Option (Int32 × Mem) := if 0 ≤ x1 then (br1 (L_X11_order_14 x1 mA 4 0 M) (fun u22 => bnd2 (R_X11_finding (-1004 : Int32) mA M) (fun v23 M23 => some (v23, M23)))) else (bnd2 (R_X11_finding (-1001 : Int32) mA M) (fun v24 M24 => some (v24, M24)))
theorem S_X11_order {sh : List SC} {M : Mem} {x1 : Int32} {mA : Nat} {oA : Nat} {v' : Int32} {M' : Mem} (hb1 : ModelAt sh mA oA)  (h : R_X11_order x1 mA M = some (v', M')) : Gv m_X11_order [.ref 242, .int x1] sh M (.int v') M' := by
  refine Sp.of (ls := [some (.ref 242), some (.int x1), none, none, none]) (by decide +kernel) (Nat.le_of_ble_eq_true rfl) rfl ?_
  have k0 : kd sh 242 = some (10 + 7, 0) := hb1.1
  unfold R_X11_order at h
  refine r_iload_n e_X11_order_0 rfl ?_
  refine r_if_ge e_X11_order_1 (fun c1 => ?_) (fun c1 => ?_)
  · rw [if_pos c1] at h
    refine r_iconst e_X11_order_12 ic_0 ?_
    refine p_istore_n_5_2 e_X11_order_13 rfl rfl ?_
    show WP m_X11_order _ 14 [some (.ref 242), some (.int x1), some (.int (nI 0)), none, none] [] sh M 0 0
    obtain ⟨q22, w22, l22, r22⟩ := br1_el h
    refine LW_X11_order_14 hb1 4 0 _ _ (by omega) w22 (fun x22 y22 => ?_) (fun u22 y22 => ?_)
    · have h := l22 _ y22
      obtain ⟨rfl, rfl⟩ := ps2 h; exact ⟨rfl, rfl, rfl⟩
    have h := r22 _ y22
    refine r_aload_n e_X11_order_90 rfl ?_
    refine r_sipush e_X11_order_91 sp_m1004 ?_
    obtain ⟨v23, M23, w23, h⟩ := bnd2_el h
    refine cV1v e_X11_order_94 cl_X11_178 ⟨Nat.le_of_ble_eq_true rfl, Nat.le_of_ble_eq_true rfl⟩ ⟨rfl, rfl⟩ k0 (Nat.le_of_ble_eq_true rfl) (S_X11_finding hb1 w23) ?_
    refine r_ireturn e_X11_order_97 rfl ⟨rfl, rfl⟩ ?_
    obtain ⟨rfl, rfl⟩ := ps2 h; exact ⟨rfl, rfl, rfl⟩
  · rw [if_neg c1] at h
    refine r_aload_n e_X11_order_4 rfl ?_
    refine r_sipush e_X11_order_5 sp_m1001 ?_
    obtain ⟨v24, M24, w24, h⟩ := bnd2_el h
    refine cV1v e_X11_order_8 cl_X11_178 ⟨Nat.le_of_ble_eq_true rfl, Nat.le_of_ble_eq_true rfl⟩ ⟨rfl, rfl⟩ k0 (Nat.le_of_ble_eq_true rfl) (S_X11_finding hb1 w24) ?_
    refine r_ireturn e_X11_order_11 rfl ⟨rfl, rfl⟩ ?_
    obtain ⟨rfl, rfl⟩ := ps2 h; exact ⟨rfl, rfl, rfl⟩
def L_X4_readRule_11 (a : Nat) (x1 : Nat) : Nat → Nat → Int32 → Mem → Option (Mem)
  | 0, i11, u2, M => some M
  | n + 1, i11, u2, M => if 0 ≤ (M.1 a 9) then (some M) else (if u2 = 0 then (some M) else (bnd1 (R_X4_readSum a x1 M) (fun M4 => bnd2 (R_X4_take a (29 : Int32) (31 : Int32) M4) (fun v5 M5 => bnd1 (R_X4_readSum a x1 M5) (fun M6 => bd1 (if (V_X4_kind a (U_X3_addTest x1 v5 M6)) = (2 : Int32) then (1 : Int32) else (0 : Int32)) (fun v8_0 => bnd1 (if v8_0 = 0 then (some (U_X3_addTest x1 v5 M6)) else (bnd2 (R_X4_take a (2 : Int32) (2 : Int32) (U_X3_addTest x1 v5 M6)) (fun v12 M12 => (some M12)))) (fun M11 => L_X4_readRule_11 a x1 n (i11 + 1) v8_0 M11)))))))
theorem LW_X4_readRule_11 {sh : List SC} {Q : Po} {a : Nat} {x1 : Nat}   (hb1 : ReaderAt sh a) (hb2 : ProgramAt sh x1)  : ∀ (n i11 : Nat) (u2 : Int32) (M : Mem) (Mz : Mem), i11 + n = 800 → L_X4_readRule_11 a x1 n i11 u2 M = some Mz → WP m_X4_readRule Q 86 [some (.ref a), some (.ref x1), none, none, none] [] sh Mz 0 0 → WP m_X4_readRule Q 11 [some (.ref a), some (.ref x1), some (.int u2), some (.int (nI i11)), none] [] sh M 0 0 := by
  intro n
  induction n with
  | zero =>
    intro i11 u2 M Mz hi h hE
    rw [L_X4_readRule_11] at h
    have hz : (800 : Int32) ≤ nI i11 := by
      have q : i11 = 800 := by omega
      rw [q]; exact nI_le (Nat.le_refl _) (by decide)
    refine r_iload_n e_X4_readRule_11 rfl ?_
    refine r_sipush e_X4_readRule_12 sp_800 ?_
    refine r_icmp_ge e_X4_readRule_15 (fun _ => ?_) (fun hh => absurd hz hh)
    refine d_5_2 ?_
    refine d_5_3 ?_
    obtain rfl := Option.some.inj h; exact hE
  | succ n ih =>
    intro i11 u2 M Mz hi h hE
    rw [L_X4_readRule_11] at h
    have hlt_i11 : i11 < 800 := by omega
    have hcl_i11 : (nI i11).toNatClampNeg = i11 := nI_clamp (by omega)
    have hs : ¬ (800 : Int32) ≤ nI i11 := nI_ge (b := 800) hlt_i11 (by decide)
    have k0 : kd sh a = some (4 + 7, 0) := hb1.1
    have k1 : kd sh x1 = some (3 + 7, 0) := hb2.1
    refine r_iload_n e_X4_readRule_11 rfl ?_
    refine r_sipush e_X4_readRule_12 sp_800 ?_
    refine r_icmp_ge e_X4_readRule_15 (fun hh => absurd hh hs) (fun _ => ?_)
    refine r_aload_n e_X4_readRule_18 rfl ?_
    refine r_getI e_X4_readRule_19 fl_X4_44 i0 k0 ?_
    refine r_if_ge e_X4_readRule_22 (fun c2 => ?_) (fun c2 => ?_)
    · rw [if_pos c2] at h
      refine d_5_2 ?_
      refine d_5_3 ?_
      obtain rfl := Option.some.inj h; exact hE
    · rw [if_neg c2] at h
      refine r_iload_n e_X4_readRule_25 rfl ?_
      refine r_if_eq e_X4_readRule_26 (fun c3 => ?_) (fun c3 => ?_)
      · rw [if_pos c3] at h
        refine d_5_2 ?_
        refine d_5_3 ?_
        obtain rfl := Option.some.inj h; exact hE
      · rw [if_neg c3] at h
        refine r_aload_n e_X4_readRule_29 rfl ?_
        refine r_aload_n e_X4_readRule_30 rfl ?_
        obtain ⟨M4, w4, h⟩ := bnd1_el h
        refine cV1u e_X4_readRule_31 cl_X4_152 ⟨Nat.le_of_ble_eq_true rfl, Nat.le_of_ble_eq_true rfl⟩ ⟨rfl, rfl⟩ k0 (Nat.le_of_ble_eq_true rfl) (S_X4_readSum hb1 hb2 w4) ?_
        refine r_aload_n e_X4_readRule_34 rfl ?_
        refine r_bipush e_X4_readRule_35 bp_29 ?_
        refine r_bipush e_X4_readRule_37 bp_31 ?_
        obtain ⟨v5, M5, w5, h⟩ := bnd2_el h
        refine cV2v e_X4_readRule_39 cl_X4_83 ⟨Nat.le_of_ble_eq_true rfl, Nat.le_of_ble_eq_true rfl⟩ ⟨rfl, rfl⟩ k0 (Nat.le_of_ble_eq_true rfl) (S_X4_take hb1 w5) ?_
        refine p_istore_5_4 e_X4_readRule_42 rfl rfl ?_
        refine r_aload_n e_X4_readRule_44 rfl ?_
        refine r_aload_n e_X4_readRule_45 rfl ?_
        obtain ⟨M6, w6, h⟩ := bnd1_el h
        refine cV1u e_X4_readRule_46 cl_X4_152 ⟨Nat.le_of_ble_eq_true rfl, Nat.le_of_ble_eq_true rfl⟩ ⟨rfl, rfl⟩ k0 (Nat.le_of_ble_eq_true rfl) (S_X4_readSum hb1 hb2 w6) ?_
        refine r_aload_n e_X4_readRule_49 rfl ?_
        refine r_iload e_X4_readRule_50 rfl ?_
        refine cV1u e_X4_readRule_52 cl_X4_155 ⟨Nat.le_of_ble_eq_true rfl, Nat.le_of_ble_eq_true rfl⟩ ⟨rfl, rfl⟩ k1 (Nat.le_of_ble_eq_true rfl) (S_X3_addTest hb2) ?_
        refine r_aload_n e_X4_readRule_55 rfl ?_
        refine cV0v e_X4_readRule_56 cl_X4_77 ⟨Nat.le_of_ble_eq_true rfl, Nat.le_of_ble_eq_true rfl⟩ ⟨rfl, rfl⟩ k0 (Nat.le_of_ble_eq_true rfl) (S_X4_kind hb1) ?_
        refine r_iconst e_X4_readRule_59 ic_2 ?_
        obtain ⟨v8_0, q8, h⟩ := bd1_el h
        suffices j8 : WP m_X4_readRule _ 68 [some (.ref a), some (.ref x1), none, some (.int (nI i11)), none] [.int v8_0] sh (U_X3_addTest x1 v5 M6) 0 0 by
          refine r_icmp_ne e_X4_readRule_60 (fun c7 => ?_) (fun c7 => ?_)
          · rw [if_neg c7] at q8
            refine r_iconst e_X4_readRule_67 ic_0 ?_
            refine d_5_2 ?_
            refine d_5_4 ?_
            subst q8; exact j8
          · rw [if_pos c7] at q8
            refine r_iconst e_X4_readRule_63 ic_1 ?_
            refine r_goto e_X4_readRule_64 ?_
            refine d_5_2 ?_
            refine d_5_4 ?_
            subst q8; exact j8
        refine p_istore_n_5_2 e_X4_readRule_68 rfl rfl ?_
        refine r_iload_n e_X4_readRule_69 rfl ?_
        obtain ⟨K11, hK11, h⟩ := bnd1_in h
        suffices j11 : ∀ M11, K11 M11 = some Mz → WP m_X4_readRule _ 80 [some (.ref a), some (.ref x1), some (.int v8_0), some (.int (nI i11)), none] [] sh M11 0 0 by
          refine r_if_eq e_X4_readRule_70 (fun c9 => ?_) (fun c9 => ?_)
          · rw [if_pos c9] at h
            exact j11 _ h
          · rw [if_neg c9] at h
            refine r_aload_n e_X4_readRule_73 rfl ?_
            refine r_iconst e_X4_readRule_74 ic_2 ?_
            refine r_iconst e_X4_readRule_75 ic_2 ?_
            obtain ⟨v12, M12, w12, h⟩ := bnd2_elK h
            refine cV2v e_X4_readRule_76 cl_X4_83 ⟨Nat.le_of_ble_eq_true rfl, Nat.le_of_ble_eq_true rfl⟩ ⟨rfl, rfl⟩ k0 (Nat.le_of_ble_eq_true rfl) (S_X4_take hb1 w12) ?_
            refine r_pop e_X4_readRule_79 rfl ?_
            exact j11 _ h
        intro M11 h
        rw [hK11] at h
        refine p_iinc_5_3 e_X4_readRule_80 rfl ic_1 rfl ?_
        rw [nI_1 i11]
        refine r_goto e_X4_readRule_83 ?_
        exact ih _ _ _ _ (by omega) h hE
def L_X4_readRule_97 (a : Nat) (x1 : Nat) : Nat → Int32 → Mem → Option (Mem)
  | 0, _, _ => none
  | n + 1, u3, M => if (8 : Int32) < u3 then (some M) else (if 0 ≤ (M.1 a 9) then (some M) else (if (V_X4_kind a M) = (28 : Int32) then (some M) else (bd1 (if u3 = (8 : Int32) then (U_X4_refuse a M) else M) (fun M19 => bnd1 (R_X4_readAct a x1 M19) (fun M20 => L_X4_readRule_97 a x1 n (u3 + 1) M20)))))
theorem LW_X4_readRule_97 {sh : List SC} {Q : Po} {a : Nat} {x1 : Nat}   (hb1 : ReaderAt sh a) (hb2 : ProgramAt sh x1)  : ∀ (n : Nat) (u3 : Int32) (M : Mem) (Mz : Mem), L_X4_readRule_97 a x1 n u3 M = some Mz → WP m_X4_readRule Q 140 [some (.ref a), some (.ref x1), none, none, none] [] sh Mz 0 0 → WP m_X4_readRule Q 97 [some (.ref a), some (.ref x1), none, some (.int u3), none] [] sh M 0 0 := by
  intro n
  induction n with
  | zero =>
    intro u3 M Mz h hE
    rw [L_X4_readRule_97] at h
    cases h
  | succ n ih =>
    intro u3 M Mz h hE
    rw [L_X4_readRule_97] at h
    have k0 : kd sh a = some (4 + 7, 0) := hb1.1
    refine r_iload_n e_X4_readRule_97 rfl ?_
    refine r_bipush e_X4_readRule_98 bp_8 ?_
    refine r_icmp_gt e_X4_readRule_100 (fun c15 => ?_) (fun c15 => ?_)
    · rw [if_pos c15] at h
      refine d_5_3 ?_
      obtain rfl := Option.some.inj h; exact hE
    · rw [if_neg c15] at h
      refine r_aload_n e_X4_readRule_103 rfl ?_
      refine r_getI e_X4_readRule_104 fl_X4_44 i0 k0 ?_
      refine r_if_ge e_X4_readRule_107 (fun c16 => ?_) (fun c16 => ?_)
      · rw [if_pos c16] at h
        refine d_5_3 ?_
        obtain rfl := Option.some.inj h; exact hE
      · rw [if_neg c16] at h
        refine r_aload_n e_X4_readRule_110 rfl ?_
        refine cV0v e_X4_readRule_111 cl_X4_77 ⟨Nat.le_of_ble_eq_true rfl, Nat.le_of_ble_eq_true rfl⟩ ⟨rfl, rfl⟩ k0 (Nat.le_of_ble_eq_true rfl) (S_X4_kind hb1) ?_
        refine r_bipush e_X4_readRule_114 bp_28 ?_
        refine r_icmp_eq e_X4_readRule_116 (fun c17 => ?_) (fun c17 => ?_)
        · rw [if_pos c17] at h
          refine d_5_3 ?_
          obtain rfl := Option.some.inj h; exact hE
        · rw [if_neg c17] at h
          refine r_iload_n e_X4_readRule_119 rfl ?_
          refine r_bipush e_X4_readRule_120 bp_8 ?_
          obtain ⟨M19, q19, h⟩ := bd1_el h
          suffices j19 : WP m_X4_readRule _ 129 [some (.ref a), some (.ref x1), none, some (.int u3), none] [] sh M19 0 0 by
            refine r_icmp_ne e_X4_readRule_122 (fun c18 => ?_) (fun c18 => ?_)
            · rw [if_neg c18] at q19
              subst q19; exact j19
            · rw [if_pos c18] at q19
              refine r_aload_n e_X4_readRule_125 rfl ?_
              refine cV0u e_X4_readRule_126 cl_X4_80 ⟨Nat.le_of_ble_eq_true rfl, Nat.le_of_ble_eq_true rfl⟩ ⟨rfl, rfl⟩ k0 (Nat.le_of_ble_eq_true rfl) (S_X4_refuse hb1) ?_
              subst q19; exact j19
          refine r_aload_n e_X4_readRule_129 rfl ?_
          refine r_aload_n e_X4_readRule_130 rfl ?_
          obtain ⟨M20, w20, h⟩ := bnd1_el h
          refine cV1u e_X4_readRule_131 cl_X4_159 ⟨Nat.le_of_ble_eq_true rfl, Nat.le_of_ble_eq_true rfl⟩ ⟨rfl, rfl⟩ k0 (Nat.le_of_ble_eq_true rfl) (S_X4_readAct hb1 hb2 w20) ?_
          refine p_iinc_5_3 e_X4_readRule_134 rfl ic_1 rfl ?_
          refine r_goto e_X4_readRule_137 ?_
          exact ih _ _ _ h hE
def R_X4_readRule (a : Nat) (x1 : Nat) (M : Mem) : Option (Mem) := bnd2 (R_X4_take a (1 : Int32) (1 : Int32) M) (fun v1 M1 => bnd1 (L_X4_readRule_11 a x1 800 0 (1 : Int32) M1) (fun M13 => bnd2 (R_X4_take a (27 : Int32) (27 : Int32) M13) (fun v14 M14 => bnd1 (L_X4_readRule_97 a x1 FUEL (0 : Int32) M14) (fun M21 => bnd2 (R_X4_take a (28 : Int32) (28 : Int32) M21) (fun v22 M22 => some (U_X3_closeRule x1 M22))))))
theorem S_X4_readRule {sh : List SC} {M : Mem} {a : Nat} {x1 : Nat}  {M' : Mem} (hb1 : ReaderAt sh a) (hb2 : ProgramAt sh x1)  (h : R_X4_readRule a x1 M = some M') : Gu m_X4_readRule [.ref a, .ref x1] sh M M' := by
  refine Sp.of (ls := [some (.ref a), some (.ref x1), none, none, none]) (by decide +kernel) (Nat.le_of_ble_eq_true rfl) rfl ?_
  have k0 : kd sh a = some (4 + 7, 0) := hb1.1
  have k1 : kd sh x1 = some (3 + 7, 0) := hb2.1
  unfold R_X4_readRule at h
  refine r_aload_n e_X4_readRule_0 rfl ?_
  refine r_iconst e_X4_readRule_1 ic_1 ?_
  refine r_iconst e_X4_readRule_2 ic_1 ?_
  obtain ⟨v1, M1, w1, h⟩ := bnd2_el h
  refine cV2v e_X4_readRule_3 cl_X4_83 ⟨Nat.le_of_ble_eq_true rfl, Nat.le_of_ble_eq_true rfl⟩ ⟨rfl, rfl⟩ k0 (Nat.le_of_ble_eq_true rfl) (S_X4_take hb1 w1) ?_
  refine r_pop e_X4_readRule_6 rfl ?_
  refine r_iconst e_X4_readRule_7 ic_1 ?_
  refine p_istore_n_5_2 e_X4_readRule_8 rfl rfl ?_
  refine r_iconst e_X4_readRule_9 ic_0 ?_
  refine p_istore_n_5_3 e_X4_readRule_10 rfl rfl ?_
  show WP m_X4_readRule _ 11 [some (.ref a), some (.ref x1), some (.int (1 : Int32)), some (.int (nI 0)), none] [] sh M1 0 0
  obtain ⟨M13, w13, h⟩ := bnd1_el h
  refine LW_X4_readRule_11 hb1 hb2 800 0 _ _ _ (by omega) w13 ?_
  refine r_aload_n e_X4_readRule_86 rfl ?_
  refine r_bipush e_X4_readRule_87 bp_27 ?_
  refine r_bipush e_X4_readRule_89 bp_27 ?_
  obtain ⟨v14, M14, w14, h⟩ := bnd2_el h
  refine cV2v e_X4_readRule_91 cl_X4_83 ⟨Nat.le_of_ble_eq_true rfl, Nat.le_of_ble_eq_true rfl⟩ ⟨rfl, rfl⟩ k0 (Nat.le_of_ble_eq_true rfl) (S_X4_take hb1 w14) ?_
  refine r_pop e_X4_readRule_94 rfl ?_
  refine r_iconst e_X4_readRule_95 ic_0 ?_
  refine p_istore_n_5_3 e_X4_readRule_96 rfl rfl ?_
  obtain ⟨M21, w21, h⟩ := bnd1_el h
  refine LW_X4_readRule_97 hb1 hb2 _ _ _ _ w21 ?_
  refine r_aload_n e_X4_readRule_140 rfl ?_
  refine r_bipush e_X4_readRule_141 bp_28 ?_
  refine r_bipush e_X4_readRule_143 bp_28 ?_
  obtain ⟨v22, M22, w22, h⟩ := bnd2_el h
  refine cV2v e_X4_readRule_145 cl_X4_83 ⟨Nat.le_of_ble_eq_true rfl, Nat.le_of_ble_eq_true rfl⟩ ⟨rfl, rfl⟩ k0 (Nat.le_of_ble_eq_true rfl) (S_X4_take hb1 w22) ?_
  refine r_pop e_X4_readRule_148 rfl ?_
  refine r_aload_n e_X4_readRule_149 rfl ?_
  refine cV0u e_X4_readRule_150 cl_X4_162 ⟨Nat.le_of_ble_eq_true rfl, Nat.le_of_ble_eq_true rfl⟩ ⟨rfl, rfl⟩ k1 (Nat.le_of_ble_eq_true rfl) (S_X3_closeRule hb2) ?_
  refine r_return e_X4_readRule_153 rfl ⟨rfl, rfl⟩ ?_
  obtain rfl := Option.some.inj h; exact ⟨rfl, rfl, rfl⟩
def L_X2_kickOff_2 (a : Nat) : Nat → Nat → Mem → Option (Mem)
  | 0, i2, M => some M
  | n + 1, i2, M => L_X2_kickOff_2 a n (i2 + 1) (U_X5_leave (a + 10 + 2 * i2) M)
theorem LW_X2_kickOff_2 {sh : List SC} {Q : Po} {a : Nat}   (hb1 : MatchAt sh a)  : ∀ (n i2 : Nat) (M : Mem) (Mz : Mem), i2 + n = 10 → L_X2_kickOff_2 a n i2 M = some Mz → WP m_X2_kickOff Q 26 [some (.ref a), none, none] [] sh Mz 0 0 → WP m_X2_kickOff Q 2 [some (.ref a), some (.int (nI i2)), none] [] sh M 0 0 := by
  intro n
  induction n with
  | zero =>
    intro i2 M Mz hi h hE
    rw [L_X2_kickOff_2] at h
    have hz : (10 : Int32) ≤ nI i2 := by
      have q : i2 = 10 := by omega
      rw [q]; exact nI_le (Nat.le_refl _) (by decide)
    have k0 : kd sh a = some (2 + 7, 0) := hb1.1
    have k1 : rf sh a 3 = some (a + 3) := hb1.2.2.2.2.1
    have k2 : kd sh (a + 3) = some (6, 10) := hb1.2.2.2.2.2.2.2.1
    refine r_iload_n e_X2_kickOff_2 rfl ?_
    refine r_aload_n e_X2_kickOff_3 rfl ?_
    refine r_getR e_X2_kickOff_4 fl_X2_20 k0 k1 ?_
    refine r_alen (v := (10 : Int32)) e_X2_kickOff_7 k2 (by decide) rfl ?_
    refine r_icmp_ge e_X2_kickOff_8 (fun _ => ?_) (fun hh => absurd hz hh)
    refine d_3_1 ?_
    obtain rfl := Option.some.inj h; exact hE
  | succ n ih =>
    intro i2 M Mz hi h hE
    rw [L_X2_kickOff_2] at h
    have hlt_i2 : i2 < 10 := by omega
    have hcl_i2 : (nI i2).toNatClampNeg = i2 := nI_clamp (by omega)
    have hs : ¬ (10 : Int32) ≤ nI i2 := nI_ge (b := 10) hlt_i2 (by decide)
    have k0 : kd sh a = some (2 + 7, 0) := hb1.1
    have k1 : rf sh a 3 = some (a + 3) := hb1.2.2.2.2.1
    have k2 : kd sh (a + 3) = some (6, 10) := hb1.2.2.2.2.2.2.2.1
    refine r_iload_n e_X2_kickOff_2 rfl ?_
    refine r_aload_n e_X2_kickOff_3 rfl ?_
    refine r_getR e_X2_kickOff_4 fl_X2_20 k0 k1 ?_
    refine r_alen (v := (10 : Int32)) e_X2_kickOff_7 k2 (by decide) rfl ?_
    refine r_icmp_ge e_X2_kickOff_8 (fun hh => absurd hh hs) (fun _ => ?_)
    refine r_aload_n e_X2_kickOff_11 rfl ?_
    refine r_getR e_X2_kickOff_12 fl_X2_20 k0 k1 ?_
    refine r_iload_n e_X2_kickOff_15 rfl ?_
    refine r_aaload (b := (a + 10 + 2 * i2)) e_X2_kickOff_16 k2 ⟨by decide, by decide⟩ (vp_in_nI (Nat.lt_of_lt_of_le hlt_i2 (by decide)) (by decide)) (by rw [hcl_i2]; exact (hb1.2.2.2.2.2.2.2.2.1 i2 (Nat.lt_of_lt_of_le hlt_i2 (by decide))).1) ?_
    refine cV0u e_X2_kickOff_17 cl_X2_94 ⟨Nat.le_of_ble_eq_true rfl, Nat.le_of_ble_eq_true rfl⟩ ⟨rfl, rfl⟩ (show kd sh (a + 10 + 2 * i2) = some (5 + 7, 0) from (hb1.2.2.2.2.2.2.2.2.1 i2 (Nat.lt_of_lt_of_le hlt_i2 (by decide))).2.1) (Nat.le_of_ble_eq_true rfl) (S_X5_leave (hb1.2.2.2.2.2.2.2.2.1 i2 (Nat.lt_of_lt_of_le hlt_i2 (by decide))).2) ?_
    refine p_iinc_3_1 e_X2_kickOff_20 rfl ic_1 rfl ?_
    rw [nI_1 i2]
    refine r_goto e_X2_kickOff_23 ?_
    exact ih _  _ _ (by omega) h hE
def L_X2_kickOff_28 (a : Nat) : Nat → Nat → Mem → Option (Mem)
  | 0, i28, M => some M
  | n + 1, i28, M => bd1 (if (5 : Int32) ≤ (nI i28) then (M.1 a 9) else (M.1 a 8)) (fun v3_0 => bnd1 (if v3_0 < 0 then (some M) else (if (4 : Int32) ≤ v3_0 then (some M) else (ck v3_0 4 (bnd1 (R_X5_join (a + 10 + 2 * i28) (106 + 4 * v3_0.toNatClampNeg) M) (fun M10 => (some M10)))))) (fun M7 => bnd1 (R_X2_putAtStart a (nI i28) M7) (fun M11 => L_X2_kickOff_28 a n (i28 + 1) M11)))
theorem LW_X2_kickOff_28 {sh : List SC} {Q : Po} {a : Nat}   (hb1 : MatchAt sh a)  : ∀ (n i28 : Nat) (M : Mem) (Mz : Mem), i28 + n = 10 → L_X2_kickOff_28 a n i28 M = some Mz → WP m_X2_kickOff Q 93 [some (.ref a), none, none] [] sh Mz 0 0 → WP m_X2_kickOff Q 28 [some (.ref a), some (.int (nI i28)), none] [] sh M 0 0 := by
  intro n
  induction n with
  | zero =>
    intro i28 M Mz hi h hE
    rw [L_X2_kickOff_28] at h
    have hz : (10 : Int32) ≤ nI i28 := by
      have q : i28 = 10 := by omega
      rw [q]; exact nI_le (Nat.le_refl _) (by decide)
    have k0 : kd sh a = some (2 + 7, 0) := hb1.1
    have k1 : rf sh a 3 = some (a + 3) := hb1.2.2.2.2.1
    have k2 : kd sh (a + 3) = some (6, 10) := hb1.2.2.2.2.2.2.2.1
    refine r_iload_n e_X2_kickOff_28 rfl ?_
    refine r_aload_n e_X2_kickOff_29 rfl ?_
    refine r_getR e_X2_kickOff_30 fl_X2_20 k0 k1 ?_
    refine r_alen (v := (10 : Int32)) e_X2_kickOff_33 k2 (by decide) rfl ?_
    refine r_icmp_ge e_X2_kickOff_34 (fun _ => ?_) (fun hh => absurd hz hh)
    refine d_3_1 ?_
    obtain rfl := Option.some.inj h; exact hE
  | succ n ih =>
    intro i28 M Mz hi h hE
    rw [L_X2_kickOff_28] at h
    have hlt_i28 : i28 < 10 := by omega
    have hcl_i28 : (nI i28).toNatClampNeg = i28 := nI_clamp (by omega)
    have hs : ¬ (10 : Int32) ≤ nI i28 := nI_ge (b := 10) hlt_i28 (by decide)
    have k0 : kd sh a = some (2 + 7, 0) := hb1.1
    have k1 : rf sh a 3 = some (a + 3) := hb1.2.2.2.2.1
    have k2 : kd sh (a + 3) = some (6, 10) := hb1.2.2.2.2.2.2.2.1
    have k3 : rf sh a 0 = some 9 := hb1.2.1
    have k4 : kd sh 9 = some (4, 4) := hb1.2.2.2.2.2.2.2.2.2.2.2.2.2.2.1
    refine r_iload_n e_X2_kickOff_28 rfl ?_
    refine r_aload_n e_X2_kickOff_29 rfl ?_
    refine r_getR e_X2_kickOff_30 fl_X2_20 k0 k1 ?_
    refine r_alen (v := (10 : Int32)) e_X2_kickOff_33 k2 (by decide) rfl ?_
    refine r_icmp_ge e_X2_kickOff_34 (fun hh => absurd hh hs) (fun _ => ?_)
    refine r_iload_n e_X2_kickOff_37 rfl ?_
    refine r_iconst e_X2_kickOff_38 ic_5 ?_
    obtain ⟨v3_0, q3, h⟩ := bd1_el h
    suffices j3 : WP m_X2_kickOff _ 53 [some (.ref a), some (.int (nI i28)), none] [.int v3_0] sh M 0 0 by
      refine r_icmp_ge e_X2_kickOff_39 (fun c2 => ?_) (fun c2 => ?_)
      · rw [if_pos c2] at q3
        refine r_aload_n e_X2_kickOff_49 rfl ?_
        refine r_getI e_X2_kickOff_50 fl_X2_49 i0 k0 ?_
        subst q3; exact j3
      · rw [if_neg c2] at q3
        refine r_aload_n e_X2_kickOff_42 rfl ?_
        refine r_getI e_X2_kickOff_43 fl_X2_46 i0 k0 ?_
        refine r_goto e_X2_kickOff_46 ?_
        subst q3; exact j3
    refine p_istore_n_3_2 e_X2_kickOff_53 rfl rfl ?_
    refine r_iload_n e_X2_kickOff_54 rfl ?_
    obtain ⟨K7, hK7, h⟩ := bnd1_in h
    suffices j7 : ∀ M7, K7 M7 = some Mz → WP m_X2_kickOff _ 82 [some (.ref a), some (.int (nI i28)), none] [] sh M7 0 0 by
      refine r_if_lt e_X2_kickOff_55 (fun c4 => ?_) (fun c4 => ?_)
      · rw [if_pos c4] at h
        refine d_3_2 ?_
        exact j7 _ h
      · rw [if_neg c4] at h
        refine r_iload_n e_X2_kickOff_58 rfl ?_
        refine r_aload_n e_X2_kickOff_59 rfl ?_
        refine r_getR e_X2_kickOff_60 fl_X2_52 k0 k3 ?_
        refine r_alen (v := (4 : Int32)) e_X2_kickOff_63 k4 (by decide) rfl ?_
        refine r_icmp_ge e_X2_kickOff_64 (fun c8 => ?_) (fun c8 => ?_)
        · rw [if_pos c8] at h
          refine d_3_2 ?_
          exact j7 _ h
        · rw [if_neg c8] at h
          refine r_aload_n e_X2_kickOff_67 rfl ?_
          refine r_getR e_X2_kickOff_68 fl_X2_20 k0 k1 ?_
          refine r_iload_n e_X2_kickOff_71 rfl ?_
          refine r_aaload (b := (a + 10 + 2 * i28)) e_X2_kickOff_72 k2 ⟨by decide, by decide⟩ (vp_in_nI (Nat.lt_of_lt_of_le hlt_i28 (by decide)) (by decide)) (by rw [hcl_i28]; exact (hb1.2.2.2.2.2.2.2.2.1 i28 (Nat.lt_of_lt_of_le hlt_i28 (by decide))).1) ?_
          refine r_aload_n e_X2_kickOff_73 rfl ?_
          refine r_getR e_X2_kickOff_74 fl_X2_52 k0 k3 ?_
          refine r_iload_n e_X2_kickOff_77 rfl ?_
          obtain ⟨b9, h⟩ := ck_elK h
          refine r_aaload (b := (106 + 4 * v3_0.toNatClampNeg)) e_X2_kickOff_78 k4 ⟨by decide, by decide⟩ b9 (hb1.2.2.2.2.2.2.2.2.2.2.2.2.2.2.2 v3_0.toNatClampNeg (vp_lt b9)).1 ?_
          obtain ⟨M10, w10, h⟩ := bnd1_elK h
          refine cV1u e_X2_kickOff_79 cl_X2_97 ⟨Nat.le_of_ble_eq_true rfl, Nat.le_of_ble_eq_true rfl⟩ ⟨rfl, rfl⟩ (show kd sh (a + 10 + 2 * i28) = some (5 + 7, 0) from (hb1.2.2.2.2.2.2.2.2.1 i28 (Nat.lt_of_lt_of_le hlt_i28 (by decide))).2.1) (Nat.le_of_ble_eq_true rfl) (S_X5_join (hb1.2.2.2.2.2.2.2.2.1 i28 (Nat.lt_of_lt_of_le hlt_i28 (by decide))).2 (hb1.2.2.2.2.2.2.2.2.2.2.2.2.2.2.2 v3_0.toNatClampNeg (vp_lt b9)).2 w10) ?_
          refine d_3_2 ?_
          exact j7 _ h
    intro M7 h
    rw [hK7] at h
    refine r_aload_n e_X2_kickOff_82 rfl ?_
    refine r_iload_n e_X2_kickOff_83 rfl ?_
    obtain ⟨M11, w11, h⟩ := bnd1_el h
    refine cV1u e_X2_kickOff_84 cl_X2_101 ⟨Nat.le_of_ble_eq_true rfl, Nat.le_of_ble_eq_true rfl⟩ ⟨rfl, rfl⟩ k0 (Nat.le_of_ble_eq_true rfl) (S_X2_putAtStart hb1 w11) ?_
    refine p_iinc_3_1 e_X2_kickOff_87 rfl ic_1 rfl ?_
    rw [nI_1 i28]
    refine r_goto e_X2_kickOff_90 ?_
    exact ih _  _ _ (by omega) h hE
def L_X2_kickOff_106 (a : Nat) : Nat → Nat → Mem → Option (Mem)
  | 0, i106, M => some M
  | n + 1, i106, M => bd1 (U_X5_see (a + 10 + 2 * i106) (M.1 (a + 4) 0) (M.1 (a + 4) 1) M) (fun M14 => L_X2_kickOff_106 a n (i106 + 1) M14)
theorem LW_X2_kickOff_106 {sh : List SC} {Q : Po} {a : Nat}   (hb1 : MatchAt sh a)  : ∀ (n i106 : Nat) (M : Mem) (Mz : Mem), i106 + n = 10 → L_X2_kickOff_106 a n i106 M = some Mz → WP m_X2_kickOff Q 144 [none, none, none] [] sh Mz 0 0 → WP m_X2_kickOff Q 106 [some (.ref a), some (.int (nI i106)), none] [] sh M 0 0 := by
  intro n
  induction n with
  | zero =>
    intro i106 M Mz hi h hE
    rw [L_X2_kickOff_106] at h
    have hz : (10 : Int32) ≤ nI i106 := by
      have q : i106 = 10 := by omega
      rw [q]; exact nI_le (Nat.le_refl _) (by decide)
    have k0 : kd sh a = some (2 + 7, 0) := hb1.1
    have k1 : rf sh a 3 = some (a + 3) := hb1.2.2.2.2.1
    have k2 : kd sh (a + 3) = some (6, 10) := hb1.2.2.2.2.2.2.2.1
    refine r_iload_n e_X2_kickOff_106 rfl ?_
    refine r_aload_n e_X2_kickOff_107 rfl ?_
    refine r_getR e_X2_kickOff_108 fl_X2_20 k0 k1 ?_
    refine r_alen (v := (10 : Int32)) e_X2_kickOff_111 k2 (by decide) rfl ?_
    refine r_icmp_ge e_X2_kickOff_112 (fun _ => ?_) (fun hh => absurd hz hh)
    refine d_3_0 ?_
    refine d_3_1 ?_
    obtain rfl := Option.some.inj h; exact hE
  | succ n ih =>
    intro i106 M Mz hi h hE
    rw [L_X2_kickOff_106] at h
    have hlt_i106 : i106 < 10 := by omega
    have hcl_i106 : (nI i106).toNatClampNeg = i106 := nI_clamp (by omega)
    have hs : ¬ (10 : Int32) ≤ nI i106 := nI_ge (b := 10) hlt_i106 (by decide)
    have k0 : kd sh a = some (2 + 7, 0) := hb1.1
    have k1 : rf sh a 3 = some (a + 3) := hb1.2.2.2.2.1
    have k2 : kd sh (a + 3) = some (6, 10) := hb1.2.2.2.2.2.2.2.1
    have k3 : rf sh a 4 = some (a + 4) := hb1.2.2.2.2.2.1
    have k4 : kd sh (a + 4) = some (0 + 7, 0) := hb1.2.2.2.2.2.2.2.2.2.1.1
    refine r_iload_n e_X2_kickOff_106 rfl ?_
    refine r_aload_n e_X2_kickOff_107 rfl ?_
    refine r_getR e_X2_kickOff_108 fl_X2_20 k0 k1 ?_
    refine r_alen (v := (10 : Int32)) e_X2_kickOff_111 k2 (by decide) rfl ?_
    refine r_icmp_ge e_X2_kickOff_112 (fun hh => absurd hh hs) (fun _ => ?_)
    refine r_aload_n e_X2_kickOff_115 rfl ?_
    refine r_getR e_X2_kickOff_116 fl_X2_20 k0 k1 ?_
    refine r_iload_n e_X2_kickOff_119 rfl ?_
    refine r_aaload (b := (a + 10 + 2 * i106)) e_X2_kickOff_120 k2 ⟨by decide, by decide⟩ (vp_in_nI (Nat.lt_of_lt_of_le hlt_i106 (by decide)) (by decide)) (by rw [hcl_i106]; exact (hb1.2.2.2.2.2.2.2.2.1 i106 (Nat.lt_of_lt_of_le hlt_i106 (by decide))).1) ?_
    refine r_aload_n e_X2_kickOff_121 rfl ?_
    refine r_getR e_X2_kickOff_122 fl_X2_27 k0 k3 ?_
    refine r_getI e_X2_kickOff_125 fl_X2_110 i0 k4 ?_
    refine r_aload_n e_X2_kickOff_128 rfl ?_
    refine r_getR e_X2_kickOff_129 fl_X2_27 k0 k3 ?_
    refine r_getI e_X2_kickOff_132 fl_X2_113 i0 k4 ?_
    refine cV2u e_X2_kickOff_135 cl_X2_116 ⟨Nat.le_of_ble_eq_true rfl, Nat.le_of_ble_eq_true rfl⟩ ⟨rfl, rfl⟩ (show kd sh (a + 10 + 2 * i106) = some (5 + 7, 0) from (hb1.2.2.2.2.2.2.2.2.1 i106 (Nat.lt_of_lt_of_le hlt_i106 (by decide))).2.1) (Nat.le_of_ble_eq_true rfl) (S_X5_see (hb1.2.2.2.2.2.2.2.2.1 i106 (Nat.lt_of_lt_of_le hlt_i106 (by decide))).2) ?_
    obtain ⟨M14, e14, h⟩ := bd1_el h
    rw [e14]
    refine p_iinc_3_1 e_X2_kickOff_138 rfl ic_1 rfl ?_
    rw [nI_1 i106]
    refine r_goto e_X2_kickOff_141 ?_
    exact ih _  _ _ (by omega) h hE
def R_X2_kickOff (a : Nat) (M : Mem) : Option (Mem) := bnd1 (L_X2_kickOff_2 a 10 0 M) (fun M1 => bnd1 (L_X2_kickOff_28 a 10 0 M1) (fun M12 => bnd1 (R_X2_putBall a M12) (fun M13 => bnd1 (L_X2_kickOff_106 a 10 0 (U_X0_forget (a + 4) M13)) (fun M15 => some M15))))
theorem S_X2_kickOff {sh : List SC} {M : Mem} {a : Nat}  {M' : Mem} (hb1 : MatchAt sh a)  (h : R_X2_kickOff a M = some M') : Gu m_X2_kickOff [.ref a] sh M M' := by
  refine Sp.of (ls := [some (.ref a), none, none]) (by decide +kernel) (Nat.le_of_ble_eq_true rfl) rfl ?_
  have k0 : kd sh a = some (2 + 7, 0) := hb1.1
  have k1 : rf sh a 4 = some (a + 4) := hb1.2.2.2.2.2.1
  have k2 : kd sh (a + 4) = some (0 + 7, 0) := hb1.2.2.2.2.2.2.2.2.2.1.1
  unfold R_X2_kickOff at h
  refine r_iconst e_X2_kickOff_0 ic_0 ?_
  refine p_istore_n_3_1 e_X2_kickOff_1 rfl rfl ?_
  show WP m_X2_kickOff _ 2 [some (.ref a), some (.int (nI 0)), none] [] sh M 0 0
  obtain ⟨M1, w1, h⟩ := bnd1_el h
  refine LW_X2_kickOff_2 hb1 10 0 _ _ (by omega) w1 ?_
  refine r_iconst e_X2_kickOff_26 ic_0 ?_
  refine p_istore_n_3_1 e_X2_kickOff_27 rfl rfl ?_
  show WP m_X2_kickOff _ 28 [some (.ref a), some (.int (nI 0)), none] [] sh M1 0 0
  obtain ⟨M12, w12, h⟩ := bnd1_el h
  refine LW_X2_kickOff_28 hb1 10 0 _ _ (by omega) w12 ?_
  refine r_aload_n e_X2_kickOff_93 rfl ?_
  obtain ⟨M13, w13, h⟩ := bnd1_el h
  refine cV0u e_X2_kickOff_94 cl_X2_104 ⟨Nat.le_of_ble_eq_true rfl, Nat.le_of_ble_eq_true rfl⟩ ⟨rfl, rfl⟩ k0 (Nat.le_of_ble_eq_true rfl) (S_X2_putBall hb1 w13) ?_
  refine r_aload_n e_X2_kickOff_97 rfl ?_
  refine r_getR e_X2_kickOff_98 fl_X2_27 k0 k1 ?_
  refine cV0u e_X2_kickOff_101 cl_X2_107 ⟨Nat.le_of_ble_eq_true rfl, Nat.le_of_ble_eq_true rfl⟩ ⟨rfl, rfl⟩ k2 (Nat.le_of_ble_eq_true rfl) (S_X0_forget hb1.2.2.2.2.2.2.2.2.2.1) ?_
  refine r_iconst e_X2_kickOff_104 ic_0 ?_
  refine p_istore_n_3_1 e_X2_kickOff_105 rfl rfl ?_
  show WP m_X2_kickOff _ 106 [some (.ref a), some (.int (nI 0)), none] [] sh (U_X0_forget (a + 4) M13) 0 0
  obtain ⟨M15, w15, h⟩ := bnd1_el h
  refine LW_X2_kickOff_106 hb1 10 0 _ _ (by omega) w15 ?_
  refine r_return e_X2_kickOff_144 rfl ⟨rfl, rfl⟩ ?_
  obtain rfl := Option.some.inj h; exact ⟨rfl, rfl, rfl⟩
def L_X6_run_43 (a : Nat) (x1 : Nat) (x2 : Nat) (w4 : Int32) : Nat → Int32 → Int32 → Mem → Option (Mem)
  | 0, _, _, _ => none
  | n + 1, u3, u5, M => if w4 ≤ u5 then (some M) else (if (80 : Int32) < (M.1 a 1) then (some M) else (if u3 = 0 then (bnd2 (R_X6_allHold a x1 u5 (x2 + 1) 4 M) (fun v6 M6 => bnd2 (if v6 = 0 then (some (u3, M6)) else (bnd2 (R_X6_doActs a x1 u5 x2 M6) (fun v10 M10 => (some (v10, M10))))) (fun v9_0 M9 => L_X6_run_43 a x1 x2 w4 n v9_0 (u5 + 1) M9))) else (some M)))
theorem LW_X6_run_43 {sh : List SC} {Q : Po} {a : Nat} {x1 : Nat} {x2 : Nat}  {w4 : Int32} (hb1 : RunnerAt sh a) (hb2 : ProgramAt sh x1) (hb3 : RobotAt sh x2)  : ∀ (n : Nat) (u3 : Int32) (u5 : Int32) (M : Mem) (Mz : Mem), L_X6_run_43 a x1 x2 w4 n u3 u5 M = some Mz → WP m_X6_run Q 92 [some (.ref a), none, some (.ref x2), none, none, none] [] sh Mz 0 0 → WP m_X6_run Q 43 [some (.ref a), some (.ref x1), some (.ref x2), some (.int u3), some (.int w4), some (.int u5)] [] sh M 0 0 := by
  intro n
  induction n with
  | zero =>
    intro u3 u5 M Mz h hE
    rw [L_X6_run_43] at h
    cases h
  | succ n ih =>
    intro u3 u5 M Mz h hE
    rw [L_X6_run_43] at h
    have k0 : kd sh a = some (6 + 7, 0) := hb1.1
    have k1 : kd sh x2 = some (5 + 7, 0) := hb3.1
    have k2 : rf sh x2 9 = some (x2 + 1) := hb3.2.1
    have k3 : kd sh (x2 + 1) = some (0, 4) := hb3.2.2
    refine r_iload e_X6_run_43 rfl ?_
    refine r_iload e_X6_run_45 rfl ?_
    refine r_icmp_ge e_X6_run_47 (fun c3 => ?_) (fun c3 => ?_)
    · rw [if_pos c3] at h
      refine d_6_1 ?_
      refine d_6_3 ?_
      refine d_6_4 ?_
      refine d_6_5 ?_
      obtain rfl := Option.some.inj h; exact hE
    · rw [if_neg c3] at h
      refine r_aload_n e_X6_run_50 rfl ?_
      refine r_getI e_X6_run_51 fl_X6_15 i0 k0 ?_
      refine r_bipush e_X6_run_54 bp_80 ?_
      refine r_icmp_gt e_X6_run_56 (fun c4 => ?_) (fun c4 => ?_)
      · rw [if_pos c4] at h
        refine d_6_1 ?_
        refine d_6_3 ?_
        refine d_6_4 ?_
        refine d_6_5 ?_
        obtain rfl := Option.some.inj h; exact hE
      · rw [if_neg c4] at h
        refine r_iload_n e_X6_run_59 rfl ?_
        refine r_if_ne e_X6_run_60 (fun c5 => ?_) (fun c5 => ?_)
        · rw [if_neg c5] at h
          refine d_6_1 ?_
          refine d_6_3 ?_
          refine d_6_4 ?_
          refine d_6_5 ?_
          obtain rfl := Option.some.inj h; exact hE
        · rw [if_pos c5] at h
          refine r_aload_n e_X6_run_63 rfl ?_
          refine r_aload_n e_X6_run_64 rfl ?_
          refine r_iload e_X6_run_65 rfl ?_
          refine r_aload_n e_X6_run_67 rfl ?_
          refine r_getR e_X6_run_68 fl_X6_36 k1 k2 ?_
          obtain ⟨v6, M6, w6, h⟩ := bnd2_el h
          refine cV3v e_X6_run_71 cl_X6_39 ⟨Nat.le_of_ble_eq_true rfl, Nat.le_of_ble_eq_true rfl⟩ ⟨rfl, rfl⟩ k0 (Nat.le_of_ble_eq_true rfl) (S_X6_allHold hb1 hb2 k3 (by decide) w6) ?_
          obtain ⟨K9, hK9, h⟩ := bnd2_in h
          suffices j9 : ∀ v9_0 M9, K9 (v9_0, M9) = some Mz → WP m_X6_run _ 86 [some (.ref a), some (.ref x1), some (.ref x2), some (.int v9_0), some (.int w4), some (.int u5)] [] sh M9 0 0 by
            refine r_if_eq e_X6_run_74 (fun c7 => ?_) (fun c7 => ?_)
            · rw [if_pos c7] at h
              exact j9 _ _ h
            · rw [if_neg c7] at h
              refine r_aload_n e_X6_run_77 rfl ?_
              refine r_aload_n e_X6_run_78 rfl ?_
              refine r_iload e_X6_run_79 rfl ?_
              refine r_aload_n e_X6_run_81 rfl ?_
              obtain ⟨v10, M10, w10, h⟩ := bnd2_elK h
              refine cV3v e_X6_run_82 cl_X6_43 ⟨Nat.le_of_ble_eq_true rfl, Nat.le_of_ble_eq_true rfl⟩ ⟨rfl, rfl⟩ k0 (Nat.le_of_ble_eq_true rfl) (S_X6_doActs hb1 hb2 hb3 w10) ?_
              refine p_istore_n_6_3 e_X6_run_85 rfl rfl ?_
              exact j9 _ _ h
          intro v9_0 M9 h
          rw [hK9] at h
          refine p_iinc_6_5 e_X6_run_86 rfl ic_1 rfl ?_
          refine r_goto e_X6_run_89 ?_
          exact ih _ _ _ _ h hE
def R_X6_run (a : Nat) (x1 : Nat) (x2 : Nat) (M : Mem) : Option (Int32 × Mem) := bd1 (V_X10_at (x1 + 2) ((M.1 x2 7) + (1 : Int32)) 9 (setI (setI M a 1 (0 : Int32)) a 2 (M.1 x2 7))) (fun v1 => bd1 (V_X10_at (x1 + 2) (M.1 x2 7) 9 (setI (setI M a 1 (0 : Int32)) a 2 (M.1 x2 7))) (fun v2 => bnd1 (L_X6_run_43 a x1 x2 v1 FUEL (0 : Int32) v2 (setI (setI M a 1 (0 : Int32)) a 2 (M.1 x2 7))) (fun M11 => if (M11.1 a 1) ≤ (80 : Int32) then (some ((0 : Int32), setI M11 x2 7 (M11.1 a 2))) else (bd1 (U_X5_decide x2 (0 : Int32) (0 : Int32) (0 : Int32) (0 : Int32) M11) (fun M13 => some ((1 : Int32), setI M13 x2 8 (1 : Int32)))))))
theorem S_X6_run {sh : List SC} {M : Mem} {a : Nat} {x1 : Nat} {x2 : Nat}  {v' : Int32} {M' : Mem} (hb1 : RunnerAt sh a) (hb2 : ProgramAt sh x1) (hb3 : RobotAt sh x2)  (h : R_X6_run a x1 x2 M = some (v', M')) : Gv m_X6_run [.ref a, .ref x1, .ref x2] sh M (.int v') M' := by
  refine Sp.of (ls := [some (.ref a), some (.ref x1), some (.ref x2), none, none, none]) (by decide +kernel) (Nat.le_of_ble_eq_true rfl) rfl ?_
  have k0 : kd sh a = some (6 + 7, 0) := hb1.1
  have k1 : kd sh x2 = some (5 + 7, 0) := hb3.1
  have k2 : kd sh x1 = some (3 + 7, 0) := hb2.1
  have k3 : rf sh x1 2 = some (x1 + 2) := hb2.2.2.1
  have k4 : kd sh (x1 + 2) = some (0, 9) := hb2.2.2.2.2.2.2.2.2.2.2.2.2.2.2.2.2.1
  unfold R_X6_run at h
  refine r_aload_n e_X6_run_0 rfl ?_
  refine r_iconst e_X6_run_1 ic_0 ?_
  refine r_putI e_X6_run_2 fl_X6_15 k0 ?_
  refine r_aload_n e_X6_run_5 rfl ?_
  refine r_aload_n e_X6_run_6 rfl ?_
  refine r_getIe e_X6_run_7 fl_X6_22 i0 k1 (gs_nI (by decide)) ?_
  refine r_putI e_X6_run_10 fl_X6_19 k0 ?_
  refine r_iconst e_X6_run_13 ic_0 ?_
  refine p_istore_n_6_3 e_X6_run_14 rfl rfl ?_
  refine r_aload_n e_X6_run_15 rfl ?_
  refine r_getR e_X6_run_16 fl_X6_27 k2 k3 ?_
  refine r_aload_n e_X6_run_19 rfl ?_
  refine r_getIe e_X6_run_20 fl_X6_22 i0 k1 ((gs_nI (by decide)).trans (gs_nI (by decide))) ?_
  refine r_iconst e_X6_run_23 ic_1 ?_
  refine r_iadd e_X6_run_24 ?_
  refine cSN2v e_X6_run_25 cl_X6_32 ⟨Nat.le_of_ble_eq_true rfl, Nat.le_of_ble_eq_true rfl⟩ ⟨rfl, rfl⟩  (Nat.le_of_ble_eq_true rfl) (S_X10_at k4 (by decide)) ?_
  obtain ⟨v1, e1, h⟩ := bd1_el h
  rw [e1]
  refine p_istore_6_4 e_X6_run_28 rfl rfl ?_
  refine r_aload_n e_X6_run_30 rfl ?_
  refine r_getR e_X6_run_31 fl_X6_27 k2 k3 ?_
  refine r_aload_n e_X6_run_34 rfl ?_
  refine r_getIe e_X6_run_35 fl_X6_22 i0 k1 ((gs_nI (by decide)).trans (gs_nI (by decide))) ?_
  refine cSN2v e_X6_run_38 cl_X6_32 ⟨Nat.le_of_ble_eq_true rfl, Nat.le_of_ble_eq_true rfl⟩ ⟨rfl, rfl⟩  (Nat.le_of_ble_eq_true rfl) (S_X10_at k4 (by decide)) ?_
  obtain ⟨v2, e2, h⟩ := bd1_el h
  rw [e2]
  refine p_istore_6_5 e_X6_run_41 rfl rfl ?_
  obtain ⟨M11, w11, h⟩ := bnd1_el h
  refine LW_X6_run_43 hb1 hb2 hb3 _ _ _ _ _ w11 ?_
  refine r_aload_n e_X6_run_92 rfl ?_
  refine r_getI e_X6_run_93 fl_X6_15 i0 k0 ?_
  refine r_bipush e_X6_run_96 bp_80 ?_
  refine r_icmp_le e_X6_run_98 (fun c12 => ?_) (fun c12 => ?_)
  · rw [if_pos c12] at h
    refine r_aload_n e_X6_run_116 rfl ?_
    refine r_aload_n e_X6_run_117 rfl ?_
    refine r_getI e_X6_run_118 fl_X6_19 i0 k0 ?_
    refine r_putI e_X6_run_121 fl_X6_22 k1 ?_
    refine r_iconst e_X6_run_124 ic_0 ?_
    refine r_zreturn e_X6_run_125 rfl ⟨rfl, rfl⟩ (by first | exact Or.inl rfl | exact Or.inr rfl) ?_
    obtain ⟨rfl, rfl⟩ := ps2 h; exact ⟨rfl, rfl, rfl⟩
  · rw [if_neg c12] at h
    refine r_aload_n e_X6_run_101 rfl ?_
    refine r_iconst e_X6_run_102 ic_0 ?_
    refine r_iconst e_X6_run_103 ic_0 ?_
    refine r_iconst e_X6_run_104 ic_0 ?_
    refine r_iconst e_X6_run_105 ic_0 ?_
    refine cV4u e_X6_run_106 cl_X6_47 ⟨Nat.le_of_ble_eq_true rfl, Nat.le_of_ble_eq_true rfl⟩ ⟨rfl, rfl⟩ k1 (Nat.le_of_ble_eq_true rfl) (S_X5_decide hb3) ?_
    obtain ⟨M13, e13, h⟩ := bd1_el h
    rw [e13]
    refine r_aload_n e_X6_run_109 rfl ?_
    refine r_iconst e_X6_run_110 ic_1 ?_
    refine r_putZ e_X6_run_111 fl_X6_51 (by first | exact Or.inl rfl | exact Or.inr rfl) k1 ?_
    refine r_iconst e_X6_run_114 ic_1 ?_
    refine r_zreturn e_X6_run_115 rfl ⟨rfl, rfl⟩ (by first | exact Or.inl rfl | exact Or.inr rfl) ?_
    obtain ⟨rfl, rfl⟩ := ps2 h; exact ⟨rfl, rfl, rfl⟩
def R_X2_applyLaws (a : Nat) (x1 : Int32) (M : Mem) : Option (Int32 × Mem) := if x1 = 0 then (bnd2 (R_X0_hasSlept (a + 4) M) (fun v2 M2 => if v2 = 0 then (br1 (if (M2.1 (a + 4) 2) < 0 then (some (.inr ())) else (if ((M2.1 a 7) - (M2.1 (a + 4) 3)) < (12 : Int32) then (some (.inr ())) else (bnd1 (R_X2_giveToFoe a M2) (fun M12 => some (.inl ((2 : Int32), M12)))))) (fun u10 => bnd2 (R_X2_thinsCrowd a (0 : Int32) M2) (fun v13 M13 => bnd2 (if v13 = 0 then (bnd2 (R_X2_thinsCrowd a (1 : Int32) M13) (fun v17 M17 => if v17 = 0 then (some ((-1 : Int32), M17)) else (some ((3 : Int32), M17)))) else (some ((3 : Int32), M13))) (fun v16_0 M16 => some (v16_0, M16))))) else (bnd1 (R_X2_putBall a M2) (fun M19 => some ((1 : Int32), M19))))) else (bd1 (if x1 = (2 : Int32) then (1 : Int32) else (0 : Int32)) (fun v21_0 => bnd1 (R_X2_kickOff a (U_X7_addGoal (a + 7) v21_0 (M.1 a 7) M)) (fun M22 => some ((0 : Int32), M22))))
theorem S_X2_applyLaws {sh : List SC} {M : Mem} {a : Nat} {x1 : Int32}  {v' : Int32} {M' : Mem} (hb1 : MatchAt sh a)  (h : R_X2_applyLaws a x1 M = some (v', M')) : Gv m_X2_applyLaws [.ref a, .int x1] sh M (.int v') M' := by
  refine Sp.of (ls := [some (.ref a), some (.int x1)]) (by decide +kernel) (Nat.le_of_ble_eq_true rfl) rfl ?_
  have k0 : kd sh a = some (2 + 7, 0) := hb1.1
  have k1 : rf sh a 4 = some (a + 4) := hb1.2.2.2.2.2.1
  have k2 : kd sh (a + 4) = some (0 + 7, 0) := hb1.2.2.2.2.2.2.2.2.2.1.1
  have k3 : rf sh a 5 = some (a + 7) := hb1.2.2.2.2.2.2.1
  have k4 : kd sh (a + 7) = some (7 + 7, 0) := hb1.2.2.2.2.2.2.2.2.2.2.1.1
  unfold R_X2_applyLaws at h
  refine r_iload_n e_X2_applyLaws_0 rfl ?_
  refine r_if_eq e_X2_applyLaws_1 (fun c1 => ?_) (fun c1 => ?_)
  · rw [if_pos c1] at h
    refine r_aload_n e_X2_applyLaws_31 rfl ?_
    refine r_getR e_X2_applyLaws_32 fl_X2_27 k0 k1 ?_
    obtain ⟨v2, M2, w2, h⟩ := bnd2_el h
    refine cV0v e_X2_applyLaws_35 cl_X2_251 ⟨Nat.le_of_ble_eq_true rfl, Nat.le_of_ble_eq_true rfl⟩ ⟨rfl, rfl⟩ k2 (Nat.le_of_ble_eq_true rfl) (S_X0_hasSlept hb1.2.2.2.2.2.2.2.2.2.1 w2) ?_
    refine r_if_eq e_X2_applyLaws_38 (fun c3 => ?_) (fun c3 => ?_)
    · rw [if_pos c3] at h
      refine r_aload_n e_X2_applyLaws_47 rfl ?_
      refine r_getR e_X2_applyLaws_48 fl_X2_27 k0 k1 ?_
      refine r_getI e_X2_applyLaws_51 fl_X2_132 i0 k2 ?_
      obtain ⟨K10, hK10, hL10, h⟩ := br1_in h
      suffices j10 : ∀ u10, K10 (.inr u10) = some (v', M') → WP m_X2_applyLaws _ 80 [some (.ref a), none] [] sh M2 0 0 by
        refine r_if_lt e_X2_applyLaws_54 (fun c4 => ?_) (fun c4 => ?_)
        · rw [if_pos c4] at h
          refine d_2_1 ?_
          exact j10 _ h
        · rw [if_neg c4] at h
          refine r_aload_n e_X2_applyLaws_57 rfl ?_
          refine r_getI e_X2_applyLaws_58 fl_X2_42 i0 k0 ?_
          refine r_aload_n e_X2_applyLaws_61 rfl ?_
          refine r_getR e_X2_applyLaws_62 fl_X2_27 k0 k1 ?_
          refine r_getI e_X2_applyLaws_65 fl_X2_232 i0 k2 ?_
          refine r_isub e_X2_applyLaws_68 ?_
          refine r_bipush e_X2_applyLaws_69 bp_12 ?_
          refine r_icmp_lt e_X2_applyLaws_71 (fun c11 => ?_) (fun c11 => ?_)
          · rw [if_pos c11] at h
            refine d_2_1 ?_
            exact j10 _ h
          · rw [if_neg c11] at h
            refine r_aload_n e_X2_applyLaws_74 rfl ?_
            obtain ⟨M12, w12, h⟩ := bnd1_elK h
            refine cV0u e_X2_applyLaws_75 cl_X2_255 ⟨Nat.le_of_ble_eq_true rfl, Nat.le_of_ble_eq_true rfl⟩ ⟨rfl, rfl⟩ k0 (Nat.le_of_ble_eq_true rfl) (S_X2_giveToFoe hb1 w12) ?_
            refine r_iconst e_X2_applyLaws_78 ic_2 ?_
            refine r_ireturn e_X2_applyLaws_79 rfl ⟨rfl, rfl⟩ ?_
            have h := (hL10 _).symm.trans h
            obtain ⟨rfl, rfl⟩ := ps2 h; exact ⟨rfl, rfl, rfl⟩
      intro u10 h
      rw [hK10] at h
      refine r_aload_n e_X2_applyLaws_80 rfl ?_
      refine r_iconst e_X2_applyLaws_81 ic_0 ?_
      obtain ⟨v13, M13, w13, h⟩ := bnd2_el h
      refine cV1v e_X2_applyLaws_82 cl_X2_258 ⟨Nat.le_of_ble_eq_true rfl, Nat.le_of_ble_eq_true rfl⟩ ⟨rfl, rfl⟩ k0 (Nat.le_of_ble_eq_true rfl) (S_X2_thinsCrowd hb1 w13) ?_
      obtain ⟨K16, hK16, h⟩ := bnd2_in h
      suffices j16 : ∀ v16_0 M16, K16 (v16_0, M16) = some (v', M') → WP m_X2_applyLaws _ 101 [none, none] [.int v16_0] sh M16 0 0 by
        refine r_if_ne e_X2_applyLaws_85 (fun c14 => ?_) (fun c14 => ?_)
        · rw [if_neg c14] at h
          refine r_iconst e_X2_applyLaws_96 ic_3 ?_
          refine r_goto e_X2_applyLaws_97 ?_
          refine d_2_0 ?_
          exact j16 _ _ h
        · rw [if_pos c14] at h
          refine r_aload_n e_X2_applyLaws_88 rfl ?_
          refine r_iconst e_X2_applyLaws_89 ic_1 ?_
          obtain ⟨v17, M17, w17, h⟩ := bnd2_elK h
          refine cV1v e_X2_applyLaws_90 cl_X2_258 ⟨Nat.le_of_ble_eq_true rfl, Nat.le_of_ble_eq_true rfl⟩ ⟨rfl, rfl⟩ k0 (Nat.le_of_ble_eq_true rfl) (S_X2_thinsCrowd hb1 w17) ?_
          refine r_if_eq e_X2_applyLaws_93 (fun c18 => ?_) (fun c18 => ?_)
          · rw [if_pos c18] at h
            refine r_iconst e_X2_applyLaws_100 ic_m1 ?_
            refine d_2_0 ?_
            exact j16 _ _ h
          · rw [if_neg c18] at h
            refine r_iconst e_X2_applyLaws_96 ic_3 ?_
            refine r_goto e_X2_applyLaws_97 ?_
            refine d_2_0 ?_
            exact j16 _ _ h
      intro v16_0 M16 h
      rw [hK16] at h
      refine r_ireturn e_X2_applyLaws_101 rfl ⟨rfl, rfl⟩ ?_
      obtain ⟨rfl, rfl⟩ := ps2 h; exact ⟨rfl, rfl, rfl⟩
    · rw [if_neg c3] at h
      refine r_aload_n e_X2_applyLaws_41 rfl ?_
      obtain ⟨M19, w19, h⟩ := bnd1_el h
      refine cV0u e_X2_applyLaws_42 cl_X2_104 ⟨Nat.le_of_ble_eq_true rfl, Nat.le_of_ble_eq_true rfl⟩ ⟨rfl, rfl⟩ k0 (Nat.le_of_ble_eq_true rfl) (S_X2_putBall hb1 w19) ?_
      refine r_iconst e_X2_applyLaws_45 ic_1 ?_
      refine r_ireturn e_X2_applyLaws_46 rfl ⟨rfl, rfl⟩ ?_
      obtain ⟨rfl, rfl⟩ := ps2 h; exact ⟨rfl, rfl, rfl⟩
  · rw [if_neg c1] at h
    refine r_aload_n e_X2_applyLaws_4 rfl ?_
    refine r_getR e_X2_applyLaws_5 fl_X2_34 k0 k3 ?_
    refine r_iload_n e_X2_applyLaws_8 rfl ?_
    refine r_iconst e_X2_applyLaws_9 ic_2 ?_
    obtain ⟨v21_0, q21, h⟩ := bd1_el h
    suffices j21 : WP m_X2_applyLaws _ 18 [some (.ref a), none] [.int v21_0, .ref (a + 7)] sh M 0 0 by
      refine r_icmp_ne e_X2_applyLaws_10 (fun c20 => ?_) (fun c20 => ?_)
      · rw [if_neg c20] at q21
        refine r_iconst e_X2_applyLaws_17 ic_0 ?_
        refine d_2_1 ?_
        subst q21; exact j21
      · rw [if_pos c20] at q21
        refine r_iconst e_X2_applyLaws_13 ic_1 ?_
        refine r_goto e_X2_applyLaws_14 ?_
        refine d_2_1 ?_
        subst q21; exact j21
    refine r_aload_n e_X2_applyLaws_18 rfl ?_
    refine r_getI e_X2_applyLaws_19 fl_X2_42 i0 k0 ?_
    refine cV2u e_X2_applyLaws_22 cl_X2_247 ⟨Nat.le_of_ble_eq_true rfl, Nat.le_of_ble_eq_true rfl⟩ ⟨rfl, rfl⟩ k4 (Nat.le_of_ble_eq_true rfl) (S_X7_addGoal hb1.2.2.2.2.2.2.2.2.2.2.1) ?_
    refine r_aload_n e_X2_applyLaws_25 rfl ?_
    obtain ⟨M22, w22, h⟩ := bnd1_el h
    refine cV0u e_X2_applyLaws_26 cl_X2_70 ⟨Nat.le_of_ble_eq_true rfl, Nat.le_of_ble_eq_true rfl⟩ ⟨rfl, rfl⟩ k0 (Nat.le_of_ble_eq_true rfl) (S_X2_kickOff hb1 w22) ?_
    refine r_iconst e_X2_applyLaws_29 ic_0 ?_
    refine r_ireturn e_X2_applyLaws_30 rfl ⟨rfl, rfl⟩ ?_
    obtain ⟨rfl, rfl⟩ := ps2 h; exact ⟨rfl, rfl, rfl⟩
def R_X10_keep (x1 : Int32) (M : Mem) : Option (Int32 × Mem) := if (V_X10_isPlace x1 M) = 0 then (some ((V_X10_finding (-1001 : Int32) M), U_X10_finding (-1001 : Int32) M)) else (if (M.1 122 6) = 0 then (some ((V_X10_finding (-1003 : Int32) M), U_X10_finding (-1003 : Int32) M)) else (ck x1 2 (bnd1 (R_X2_copy (182 + 30 * x1.toNatClampNeg) 122 M) (fun M4 => some ((1 : Int32), M4)))))
theorem S_X10_keep {sh : List SC} {M : Mem} {x1 : Int32}  {v' : Int32} {M' : Mem} (hb1 : PitchAt sh)  (h : R_X10_keep x1 M = some (v', M')) : Gv m_X10_keep [.ref 0, .int x1] sh M (.int v') M' := by
  refine Sp.of (ls := [some (.ref 0), some (.int x1)]) (by decide +kernel) (Nat.le_of_ble_eq_true rfl) rfl ?_
  have k0 : kd sh 0 = some (9 + 7, 0) := hb1.1
  have k1 : rf sh 0 4 = some 122 := hb1.2.2.2.2.2.1
  have k2 : kd sh 122 = some (2 + 7, 0) := hb1.2.2.2.2.2.2.2.2.2.2.2.2.2.2.2.2.1.1
  have k3 : rf sh 0 6 = some 10 := hb1.2.2.2.2.2.2.2.1
  have k4 : kd sh 10 = some (5, 2) := hb1.2.2.2.2.2.2.2.2.2.2.2.2.1
  unfold R_X10_keep at h
  refine r_iload_n e_X10_keep_0 rfl ?_
  refine cS1v e_X10_keep_1 cl_X10_154 ⟨Nat.le_of_ble_eq_true rfl, Nat.le_of_ble_eq_true rfl⟩ ⟨rfl, rfl⟩  (Nat.le_of_ble_eq_true rfl) (S_X10_isPlace ) ?_
  refine r_if_ne e_X10_keep_4 (fun c1 => ?_) (fun c1 => ?_)
  · rw [if_neg c1] at h
    refine r_aload_n e_X10_keep_15 rfl ?_
    refine r_getR e_X10_keep_16 fl_X10_63 k0 k1 ?_
    refine r_getI e_X10_keep_19 fl_X10_115 i3 k2 ?_
    refine r_if_ne e_X10_keep_22 (fun c2 => ?_) (fun c2 => ?_)
    · rw [if_neg c2] at h
      refine r_aload_n e_X10_keep_33 rfl ?_
      refine r_getR e_X10_keep_34 fl_X10_34 k0 k3 ?_
      refine r_iload_n e_X10_keep_37 rfl ?_
      obtain ⟨b3, h⟩ := ck_el h
      refine r_aaload (b := (182 + 30 * x1.toNatClampNeg)) e_X10_keep_38 k4 ⟨by decide, by decide⟩ b3 (hb1.2.2.2.2.2.2.2.2.2.2.2.2.2.1 x1.toNatClampNeg (vp_lt b3)).1 ?_
      refine r_aload_n e_X10_keep_39 rfl ?_
      refine r_getR e_X10_keep_40 fl_X10_63 k0 k1 ?_
      obtain ⟨M4, w4, h⟩ := bnd1_el h
      refine cV1u e_X10_keep_43 cl_X10_157 ⟨Nat.le_of_ble_eq_true rfl, Nat.le_of_ble_eq_true rfl⟩ ⟨rfl, rfl⟩ (show kd sh (182 + 30 * x1.toNatClampNeg) = some (2 + 7, 0) from (hb1.2.2.2.2.2.2.2.2.2.2.2.2.2.1 x1.toNatClampNeg (vp_lt b3)).2.1) (Nat.le_of_ble_eq_true rfl) (S_X2_copy (hb1.2.2.2.2.2.2.2.2.2.2.2.2.2.1 x1.toNatClampNeg (vp_lt b3)).2 hb1.2.2.2.2.2.2.2.2.2.2.2.2.2.2.2.2.1 w4) ?_
      refine r_iconst e_X10_keep_46 ic_1 ?_
      refine r_ireturn e_X10_keep_47 rfl ⟨rfl, rfl⟩ ?_
      obtain ⟨rfl, rfl⟩ := ps2 h; exact ⟨rfl, rfl, rfl⟩
    · rw [if_pos c2] at h
      refine r_aload_n e_X10_keep_25 rfl ?_
      refine r_sipush e_X10_keep_26 sp_m1003 ?_
      refine cV1v e_X10_keep_29 cl_X10_70 ⟨Nat.le_of_ble_eq_true rfl, Nat.le_of_ble_eq_true rfl⟩ ⟨rfl, rfl⟩ k0 (Nat.le_of_ble_eq_true rfl) (S_X10_finding hb1) ?_
      refine r_ireturn e_X10_keep_32 rfl ⟨rfl, rfl⟩ ?_
      obtain ⟨rfl, rfl⟩ := ps2 h; exact ⟨rfl, rfl, rfl⟩
  · rw [if_pos c1] at h
    refine r_aload_n e_X10_keep_7 rfl ?_
    refine r_sipush e_X10_keep_8 sp_m1001 ?_
    refine cV1v e_X10_keep_11 cl_X10_70 ⟨Nat.le_of_ble_eq_true rfl, Nat.le_of_ble_eq_true rfl⟩ ⟨rfl, rfl⟩ k0 (Nat.le_of_ble_eq_true rfl) (S_X10_finding hb1) ?_
    refine r_ireturn e_X10_keep_14 rfl ⟨rfl, rfl⟩ ?_
    obtain ⟨rfl, rfl⟩ := ps2 h; exact ⟨rfl, rfl, rfl⟩
def L_X11_word_0 (mA : Nat) : Nat → Mem → Option (Mem)
  | 0, _ => none
  | n + 1, M => bnd1 (R_X11_at (M.1 242 4) mA M) (fun v1 => if v1 = (32 : Int32) then (L_X11_word_0 mA n (setI M 242 4 ((M.1 242 4) + (1 : Int32)))) else (bnd1 (R_X11_at (M.1 242 4) mA M) (fun v3 => if v3 = (10 : Int32) then (L_X11_word_0 mA n (setI M 242 4 ((M.1 242 4) + (1 : Int32)))) else (some M))))
theorem LW_X11_word_0 {sh : List SC} {Q : Po}  {mA : Nat} {oA : Nat}  (hb1 : ModelAt sh mA oA)  : ∀ (n : Nat) (M : Mem) (Mz : Mem), L_X11_word_0 mA n M = some Mz → WP m_X11_word Q 39 [some (.ref 242), none] [] sh Mz 0 0 → WP m_X11_word Q 0 [some (.ref 242), none] [] sh M 0 0 := by
  intro n
  induction n with
  | zero =>
    intro M Mz h hE
    rw [L_X11_word_0] at h
    cases h
  | succ n ih =>
    intro M Mz h hE
    rw [L_X11_word_0] at h
    have k0 : kd sh 242 = some (10 + 7, 0) := hb1.1
    refine r_aload_n e_X11_word_0 rfl ?_
    refine r_aload_n e_X11_word_1 rfl ?_
    refine r_getI e_X11_word_2 fl_X11_11 i0 k0 ?_
    obtain ⟨v1, w1, h⟩ := bnd1_el h
    refine cV1v e_X11_word_5 cl_X11_14 ⟨Nat.le_of_ble_eq_true rfl, Nat.le_of_ble_eq_true rfl⟩ ⟨rfl, rfl⟩ k0 (Nat.le_of_ble_eq_true rfl) (S_X11_at hb1 w1) ?_
    refine r_bipush e_X11_word_8 bp_32 ?_
    refine r_icmp_eq e_X11_word_10 (fun c2 => ?_) (fun c2 => ?_)
    · rw [if_pos c2] at h
      refine r_aload_n e_X11_word_26 rfl ?_
      refine r_dup e_X11_word_27 rfl ?_
      refine r_getI e_X11_word_28 fl_X11_11 i0 k0 ?_
      refine r_iconst e_X11_word_31 ic_1 ?_
      refine r_iadd e_X11_word_32 ?_
      refine r_putI e_X11_word_33 fl_X11_11 k0 ?_
      refine r_goto e_X11_word_36 ?_
      exact ih  _ _ h hE
    · rw [if_neg c2] at h
      refine r_aload_n e_X11_word_13 rfl ?_
      refine r_aload_n e_X11_word_14 rfl ?_
      refine r_getI e_X11_word_15 fl_X11_11 i0 k0 ?_
      obtain ⟨v3, w3, h⟩ := bnd1_el h
      refine cV1v e_X11_word_18 cl_X11_14 ⟨Nat.le_of_ble_eq_true rfl, Nat.le_of_ble_eq_true rfl⟩ ⟨rfl, rfl⟩ k0 (Nat.le_of_ble_eq_true rfl) (S_X11_at hb1 w3) ?_
      refine r_bipush e_X11_word_21 bp_10 ?_
      refine r_icmp_ne e_X11_word_23 (fun c4 => ?_) (fun c4 => ?_)
      · rw [if_neg c4] at h
        obtain rfl := Option.some.inj h; exact hE
      · rw [if_pos c4] at h
        refine r_aload_n e_X11_word_26 rfl ?_
        refine r_dup e_X11_word_27 rfl ?_
        refine r_getI e_X11_word_28 fl_X11_11 i0 k0 ?_
        refine r_iconst e_X11_word_31 ic_1 ?_
        refine r_iadd e_X11_word_32 ?_
        refine r_putI e_X11_word_33 fl_X11_11 k0 ?_
        refine r_goto e_X11_word_36 ?_
        exact ih  _ _ h hE
def R_X11_word (mA : Nat) (M : Mem) : Option (Mem) := bnd1 (L_X11_word_0 mA FUEL M) (fun M5 => bnd1 (R_X11_at (M5.1 242 4) mA (setI M5 242 3 (M5.1 242 4))) (fun v6 => bnd1 (if 0 ≤ v6 then (if (V_X11_isLetter v6 (setJ (setI (setI M5 242 3 (M5.1 242 4)) 242 6 (0 : Int32)) 242 7 (0 : Int64))) = 0 then (if (V_X11_isFigure v6 (setJ (setI (setI M5 242 3 (M5.1 242 4)) 242 6 (0 : Int32)) 242 7 (0 : Int64))) = 0 then (if (V_X11_isSign v6 (setJ (setI (setI M5 242 3 (M5.1 242 4)) 242 6 (0 : Int32)) 242 7 (0 : Int64))) = 0 then (some (setI (setJ (setI (setI M5 242 3 (M5.1 242 4)) 242 6 (0 : Int32)) 242 7 (0 : Int64)) 242 5 (6 : Int32))) else (some (setI (setI (setJ (setI (setI M5 242 3 (M5.1 242 4)) 242 6 (0 : Int32)) 242 7 (0 : Int64)) 242 5 v6) 242 4 ((M5.1 242 4) + (1 : Int32))))) else (bnd1 (R_X11_figures  mA (setJ (setI (setI M5 242 3 (M5.1 242 4)) 242 6 (0 : Int32)) 242 7 (0 : Int64))) (fun M16 => (some M16)))) else (bnd1 (R_X11_letters  mA (setJ (setI (setI M5 242 3 (M5.1 242 4)) 242 6 (0 : Int32)) 242 7 (0 : Int64))) (fun M17 => (some M17)))) else (some (setI (setJ (setI (setI M5 242 3 (M5.1 242 4)) 242 6 (0 : Int32)) 242 7 (0 : Int64)) 242 5 (0 : Int32)))) (fun M12 => some M12)))
theorem S_X11_word {sh : List SC} {M : Mem}  {mA : Nat} {oA : Nat} {M' : Mem} (hb1 : ModelAt sh mA oA)  (h : R_X11_word mA M = some M') : Gu m_X11_word [.ref 242] sh M M' := by
  refine Sp.of (ls := [some (.ref 242), none]) (by decide +kernel) (Nat.le_of_ble_eq_true rfl) rfl ?_
  have k0 : kd sh 242 = some (10 + 7, 0) := hb1.1
  unfold R_X11_word at h
  obtain ⟨M5, w5, h⟩ := bnd1_el h
  refine LW_X11_word_0 hb1 _ _ _ w5 ?_
  refine r_aload_n e_X11_word_39 rfl ?_
  refine r_aload_n e_X11_word_40 rfl ?_
  refine r_getI e_X11_word_41 fl_X11_11 i0 k0 ?_
  refine r_putI e_X11_word_44 fl_X11_18 k0 ?_
  refine r_aload_n e_X11_word_47 rfl ?_
  refine r_aload_n e_X11_word_48 rfl ?_
  refine r_getIe e_X11_word_49 fl_X11_11 i0 k0 (gs_nI (by decide)) ?_
  obtain ⟨v6, w6, h⟩ := bnd1_el h
  refine cV1v e_X11_word_52 cl_X11_14 ⟨Nat.le_of_ble_eq_true rfl, Nat.le_of_ble_eq_true rfl⟩ ⟨rfl, rfl⟩ k0 (Nat.le_of_ble_eq_true rfl) (S_X11_at hb1 w6) ?_
  refine p_istore_n_2_1 e_X11_word_55 rfl rfl ?_
  refine r_aload_n e_X11_word_56 rfl ?_
  refine r_iconst e_X11_word_57 ic_0 ?_
  refine r_putI e_X11_word_58 fl_X11_21 k0 ?_
  refine r_aload_n e_X11_word_61 rfl ?_
  refine r_lconst e_X11_word_62 lk_0 ?_
  refine r_putJ e_X11_word_63 fl_X11_24 k0 ?_
  refine r_iload_n e_X11_word_66 rfl ?_
  obtain ⟨K12, hK12, h⟩ := bnd1_in h
  suffices j12 : ∀ M12, K12 M12 = some M' → WP m_X11_word _ 137 [none, none] [] sh M12 0 0 by
    refine r_if_ge e_X11_word_67 (fun c7 => ?_) (fun c7 => ?_)
    · rw [if_pos c7] at h
      refine r_iload_n e_X11_word_78 rfl ?_
      refine cS1v e_X11_word_79 cl_X11_31 ⟨Nat.le_of_ble_eq_true rfl, Nat.le_of_ble_eq_true rfl⟩ ⟨rfl, rfl⟩  (Nat.le_of_ble_eq_true rfl) (S_X11_isLetter ) ?_
      refine r_if_eq e_X11_word_82 (fun c13 => ?_) (fun c13 => ?_)
      · rw [if_pos c13] at h
        refine r_iload_n e_X11_word_92 rfl ?_
        refine cS1v e_X11_word_93 cl_X11_39 ⟨Nat.le_of_ble_eq_true rfl, Nat.le_of_ble_eq_true rfl⟩ ⟨rfl, rfl⟩  (Nat.le_of_ble_eq_true rfl) (S_X11_isFigure ) ?_
        refine r_if_eq e_X11_word_96 (fun c14 => ?_) (fun c14 => ?_)
        · rw [if_pos c14] at h
          refine r_iload_n e_X11_word_106 rfl ?_
          refine cS1v e_X11_word_107 cl_X11_45 ⟨Nat.le_of_ble_eq_true rfl, Nat.le_of_ble_eq_true rfl⟩ ⟨rfl, rfl⟩  (Nat.le_of_ble_eq_true rfl) (S_X11_isSign ) ?_
          refine r_if_eq e_X11_word_110 (fun c15 => ?_) (fun c15 => ?_)
          · rw [if_pos c15] at h
            refine r_aload_n e_X11_word_131 rfl ?_
            refine r_bipush e_X11_word_132 bp_6 ?_
            refine r_putI e_X11_word_134 fl_X11_28 k0 ?_
            refine d_2_0 ?_
            refine d_2_1 ?_
            exact j12 _ h
          · rw [if_neg c15] at h
            refine r_aload_n e_X11_word_113 rfl ?_
            refine r_iload_n e_X11_word_114 rfl ?_
            refine r_putI e_X11_word_115 fl_X11_28 k0 ?_
            refine r_aload_n e_X11_word_118 rfl ?_
            refine r_dup e_X11_word_119 rfl ?_
            refine r_getIe e_X11_word_120 fl_X11_11 i0 k0 ((gs_nI (by decide)).trans (gs_k.trans ((gs_nI (by decide)).trans (gs_nI (by decide))))) ?_
            refine r_iconst e_X11_word_123 ic_1 ?_
            refine r_iadd e_X11_word_124 ?_
            refine r_putI e_X11_word_125 fl_X11_11 k0 ?_
            refine r_goto e_X11_word_128 ?_
            refine d_2_0 ?_
            refine d_2_1 ?_
            exact j12 _ h
        · rw [if_neg c14] at h
          refine r_aload_n e_X11_word_99 rfl ?_
          obtain ⟨M16, w16, h⟩ := bnd1_elK h
          refine cV0u e_X11_word_100 cl_X11_42 ⟨Nat.le_of_ble_eq_true rfl, Nat.le_of_ble_eq_true rfl⟩ ⟨rfl, rfl⟩ k0 (Nat.le_of_ble_eq_true rfl) (S_X11_figures hb1 w16) ?_
          refine r_goto e_X11_word_103 ?_
          refine d_2_0 ?_
          refine d_2_1 ?_
          exact j12 _ h
      · rw [if_neg c13] at h
        refine r_aload_n e_X11_word_85 rfl ?_
        obtain ⟨M17, w17, h⟩ := bnd1_elK h
        refine cV0u e_X11_word_86 cl_X11_35 ⟨Nat.le_of_ble_eq_true rfl, Nat.le_of_ble_eq_true rfl⟩ ⟨rfl, rfl⟩ k0 (Nat.le_of_ble_eq_true rfl) (S_X11_letters hb1 w17) ?_
        refine r_goto e_X11_word_89 ?_
        refine d_2_0 ?_
        refine d_2_1 ?_
        exact j12 _ h
    · rw [if_neg c7] at h
      refine r_aload_n e_X11_word_70 rfl ?_
      refine r_iconst e_X11_word_71 ic_0 ?_
      refine r_putI e_X11_word_72 fl_X11_28 k0 ?_
      refine r_goto e_X11_word_75 ?_
      refine d_2_0 ?_
      refine d_2_1 ?_
      exact j12 _ h
  intro M12 h
  rw [hK12] at h
  refine r_return e_X11_word_137 rfl ⟨rfl, rfl⟩ ?_
  obtain rfl := Option.some.inj h; exact ⟨rfl, rfl, rfl⟩
