def L_X11_check_27 (mA : Nat) (w1 : Int32) : Nat → Int32 → Mem → Option ((Int32 × Mem) ⊕ (Unit))
  | 0, _, _ => none
  | n + 1, u2, M => if (M.1 mA 12) ≤ u2 then (some (.inr ())) else (if w1 ≤ u2 then (some (.inl (((1 : Int32) + u2), M))) else (ck u2 20 (ck ((24 : Int32) + u2) 212 (if (M.1 268 u2.toNatClampNeg) = (M.1 mA ((24 : Int32) + u2).toNatClampNeg) then (L_X11_check_27 mA w1 n (u2 + 1) M) else (some (.inl (((1 : Int32) + u2), M)))))))
theorem LW_X11_check_27 {sh : List SC} {Q : Po}  {mA : Nat} {oA : Nat} {w1 : Int32} (hb1 : ModelAt sh mA oA)  : ∀ (n : Nat) (u2 : Int32) (M : Mem) (q : (Int32 × Mem) ⊕ (Unit)), L_X11_check_27 mA w1 n u2 M = some q → (∀ x, q = .inl x → Q (some (.int x.1)) sh x.2) → (∀ zu, q = .inr zu → WP m_X11_check Q 71 [some (.ref 242), some (.int w1), none] [] sh M 0 0) → WP m_X11_check Q 27 [some (.ref 242), some (.int w1), some (.int u2)] [] sh M 0 0 := by
  intro n
  induction n with
  | zero =>
    intro u2 M q h hR hE
    rw [L_X11_check_27] at h
    cases h
  | succ n ih =>
    intro u2 M q h hR hE
    rw [L_X11_check_27] at h
    have k0 : kd sh 242 = some (10 + 7, 0) := hb1.1
    have k1 : rf sh 242 27 = some mA := hb1.2.2.2.2.2.2.2.2.2.2.2.2.2.2.2.2.2.1
    have k2 : kd sh mA = some (0, 212) := hb1.2.2.2.2.2.2.2.2.2.2.2.2.2.2.2.2.2.2.2.2.2.2.2.2.2.2.2.2.2.2.2.2.2.2.2.2.2.2.2.2.2.2.2.2.2.2.2.2.2.2.2.1
    have k3 : rf sh 242 47 = some 268 := hb1.2.2.2.2.2.2.2.2.2.2.2.2.2.2.2.2.2.2.2.2.2.2.2.2.2.2.1
    have k4 : kd sh 268 = some (0, 20) := hb1.2.2.2.2.2.2.2.2.2.2.2.2.2.2.2.2.2.2.2.2.2.2.2.2.2.2.2.2.2.2.2.2.2.2.2.2.2.2.2.2.2.2.2.2.2.2.2.2.2.2.1
    refine r_iload_n e_X11_check_27 rfl ?_
    refine r_aload_n e_X11_check_28 rfl ?_
    refine r_getR e_X11_check_29 fl_X11_212 k0 k1 ?_
    refine r_bipush e_X11_check_32 bp_12 ?_
    refine r_ialoade (v := (M.1 mA 12)) e_X11_check_34 k2 (by unfold vp_in; decide) (show M.1 mA (12 : Int32).toNatClampNeg = M.1 mA 12 by rw [show (12 : Int32).toNatClampNeg = 12 from rfl]) ?_
    refine r_icmp_ge e_X11_check_35 (fun c4 => ?_) (fun c4 => ?_)
    · rw [if_pos c4] at h
      refine d_3_2 ?_
      exact hE _ (Option.some.inj h).symm
    · rw [if_neg c4] at h
      refine r_iload_n e_X11_check_38 rfl ?_
      refine r_iload_n e_X11_check_39 rfl ?_
      refine r_icmp_ge e_X11_check_40 (fun c5 => ?_) (fun c5 => ?_)
      · rw [if_pos c5] at h
        refine r_iconst e_X11_check_61 ic_1 ?_
        refine r_iload_n e_X11_check_62 rfl ?_
        refine r_iadd e_X11_check_63 ?_
        refine r_ireturn e_X11_check_64 rfl ⟨rfl, rfl⟩ ?_
        exact hR _ (Option.some.inj h).symm
      · rw [if_neg c5] at h
        refine r_aload_n e_X11_check_43 rfl ?_
        refine r_getR e_X11_check_44 fl_X11_242 k0 k3 ?_
        refine r_iload_n e_X11_check_47 rfl ?_
        obtain ⟨b6, h⟩ := ck_el h
        refine r_iaload e_X11_check_48 k4 b6 ?_
        refine r_aload_n e_X11_check_49 rfl ?_
        refine r_getR e_X11_check_50 fl_X11_212 k0 k1 ?_
        refine r_bipush e_X11_check_53 bp_24 ?_
        refine r_iload_n e_X11_check_55 rfl ?_
        refine r_iadd e_X11_check_56 ?_
        obtain ⟨b7, h⟩ := ck_el h
        refine r_iaload e_X11_check_57 k2 b7 ?_
        refine r_icmp_eq e_X11_check_58 (fun c8 => ?_) (fun c8 => ?_)
        · rw [if_pos c8] at h
          refine p_iinc_3_2 e_X11_check_65 rfl ic_1 rfl ?_
          refine r_goto e_X11_check_68 ?_
          exact ih _ _ _ h hR hE
        · rw [if_neg c8] at h
          refine r_iconst e_X11_check_61 ic_1 ?_
          refine r_iload_n e_X11_check_62 rfl ?_
          refine r_iadd e_X11_check_63 ?_
          refine r_ireturn e_X11_check_64 rfl ⟨rfl, rfl⟩ ?_
          exact hR _ (Option.some.inj h).symm
def R_X11_check (mA : Nat) (M : Mem) : Option (Int32 × Mem) := if (V_X11_isMatch  mA (setI M 242 46 (0 : Int32))) = 0 then (bnd2 (R_X11_finding (-1003 : Int32) mA (setI M 242 46 (0 : Int32))) (fun v12 M12 => some (v12, M12))) else (br1 (L_X11_check_27 mA (M.1 242 46) FUEL (0 : Int32) (setI M 242 46 (0 : Int32))) (fun u9 => bd1 (if (M.1 242 46) ≤ (M.1 mA 12) then (0 : Int32) else (99 : Int32)) (fun v11_0 => some (v11_0, setI M 242 46 (0 : Int32)))))
theorem S_X11_check {sh : List SC} {M : Mem}  {mA : Nat} {oA : Nat} {v' : Int32} {M' : Mem} (hb1 : ModelAt sh mA oA)  (h : R_X11_check mA M = some (v', M')) : Gv m_X11_check [.ref 242] sh M (.int v') M' := by
  refine Sp.of (ls := [some (.ref 242), none, none]) (by decide +kernel) (Nat.le_of_ble_eq_true rfl) rfl ?_
  have k0 : kd sh 242 = some (10 + 7, 0) := hb1.1
  have k1 : rf sh 242 27 = some mA := hb1.2.2.2.2.2.2.2.2.2.2.2.2.2.2.2.2.2.1
  have k2 : kd sh mA = some (0, 212) := hb1.2.2.2.2.2.2.2.2.2.2.2.2.2.2.2.2.2.2.2.2.2.2.2.2.2.2.2.2.2.2.2.2.2.2.2.2.2.2.2.2.2.2.2.2.2.2.2.2.2.2.2.1
  unfold R_X11_check at h
  refine r_aload_n e_X11_check_0 rfl ?_
  refine r_getI e_X11_check_1 fl_X11_421 i0 k0 ?_
  refine p_istore_n_3_1 e_X11_check_4 rfl rfl ?_
  refine r_aload_n e_X11_check_5 rfl ?_
  refine r_iconst e_X11_check_6 ic_0 ?_
  refine r_putI e_X11_check_7 fl_X11_421 k0 ?_
  refine r_aload_n e_X11_check_10 rfl ?_
  refine cV0v e_X11_check_11 cl_X11_394 ⟨Nat.le_of_ble_eq_true rfl, Nat.le_of_ble_eq_true rfl⟩ ⟨rfl, rfl⟩ k0 (Nat.le_of_ble_eq_true rfl) (S_X11_isMatch hb1) ?_
  refine r_if_ne e_X11_check_14 (fun c1 => ?_) (fun c1 => ?_)
  · rw [if_neg c1] at h
    refine r_iconst e_X11_check_25 ic_0 ?_
    refine p_istore_n_3_2 e_X11_check_26 rfl rfl ?_
    obtain ⟨q9, w9, l9, r9⟩ := br1_el h
    refine LW_X11_check_27 hb1 _ _ _ _ w9 (fun x9 y9 => ?_) (fun u9 y9 => ?_)
    · have h := l9 _ y9
      obtain ⟨rfl, rfl⟩ := ps2 h; exact ⟨rfl, rfl, rfl⟩
    have h := r9 _ y9
    refine r_iload_n e_X11_check_71 rfl ?_
    refine r_aload_n e_X11_check_72 rfl ?_
    refine r_getR e_X11_check_73 fl_X11_212 k0 k1 ?_
    refine r_bipush e_X11_check_76 bp_12 ?_
    refine r_ialoade (v := (M.1 mA 12)) e_X11_check_78 k2 (by unfold vp_in; decide) ((show (setI M 242 46 (0 : Int32)).1 mA (12 : Int32).toNatClampNeg = (setI M 242 46 (0 : Int32)).1 mA 12 by rw [show (12 : Int32).toNatClampNeg = 12 from rfl]).trans (gs_nI (by decide))) ?_
    obtain ⟨v11_0, q11, h⟩ := bd1_el h
    suffices j11 : WP m_X11_check _ 88 [none, none, none] [.int v11_0] sh (setI M 242 46 (0 : Int32)) 0 0 by
      refine r_icmp_le e_X11_check_79 (fun c10 => ?_) (fun c10 => ?_)
      · rw [if_pos c10] at q11
        refine r_iconst e_X11_check_87 ic_0 ?_
        refine d_3_0 ?_
        refine d_3_1 ?_
        subst q11; exact j11
      · rw [if_neg c10] at q11
        refine r_bipush e_X11_check_82 bp_99 ?_
        refine r_goto e_X11_check_84 ?_
        refine d_3_0 ?_
        refine d_3_1 ?_
        subst q11; exact j11
    refine r_ireturn e_X11_check_88 rfl ⟨rfl, rfl⟩ ?_
    obtain ⟨rfl, rfl⟩ := ps2 h; exact ⟨rfl, rfl, rfl⟩
  · rw [if_pos c1] at h
    refine r_aload_n e_X11_check_17 rfl ?_
    refine r_sipush e_X11_check_18 sp_m1003 ?_
    obtain ⟨v12, M12, w12, h⟩ := bnd2_el h
    refine cV1v e_X11_check_21 cl_X11_178 ⟨Nat.le_of_ble_eq_true rfl, Nat.le_of_ble_eq_true rfl⟩ ⟨rfl, rfl⟩ k0 (Nat.le_of_ble_eq_true rfl) (S_X11_finding hb1 w12) ?_
    refine r_ireturn e_X11_check_24 rfl ⟨rfl, rfl⟩ ?_
    obtain ⟨rfl, rfl⟩ := ps2 h; exact ⟨rfl, rfl, rfl⟩
def R_X11_count (x1 : Int32) (mA : Nat) (M : Mem) : Option (Int32 × Mem) := if x1 = 0 then (some ((M.1 242 8), M)) else (if x1 = 1 then (some ((M.1 242 1), M)) else (if x1 = 2 then (bd1 (if (M.1 242 8) ≤ 0 then (0 : Int32) else (M.1 246 0)) (fun v2_0 => some (v2_0, M))) else (if x1 = 3 then (some ((M.1 242 46), M)) else (if x1 = 4 then (bd1 (if (V_X11_isMatch  mA M) = 0 then (0 : Int32) else (1 : Int32)) (fun v4_0 => some (v4_0, M))) else (bnd2 (R_X11_finding (-1001 : Int32) mA M) (fun v5 M5 => some (v5, M5)))))))
theorem S_X11_count {sh : List SC} {M : Mem} {x1 : Int32} {mA : Nat} {oA : Nat} {v' : Int32} {M' : Mem} (hb1 : ModelAt sh mA oA)  (h : R_X11_count x1 mA M = some (v', M')) : Gv m_X11_count [.ref 242, .int x1] sh M (.int v') M' := by
  refine Sp.of (ls := [some (.ref 242), some (.int x1)]) (by decide +kernel) (Nat.le_of_ble_eq_true rfl) rfl ?_
  have k0 : kd sh 242 = some (10 + 7, 0) := hb1.1
  have k1 : rf sh 242 12 = some 246 := hb1.2.2.2.2.1
  have k2 : kd sh 246 = some (0, 6) := hb1.2.2.2.2.2.2.2.2.2.2.2.2.2.2.2.2.2.2.2.2.2.2.2.2.2.2.2.2.2.2.1
  unfold R_X11_count at h
  refine r_iload_n e_X11_count_0 rfl ?_
  by_cases hs1_0 : x1 = 0
  · rw [if_pos hs1_0] at h
    refine r_tabIn (tgt := 36) (off := 35) e_X11_count_1 (by rw [hs1_0]; decide) (by rw [hs1_0]; decide) (by rw [hs1_0]; rfl) (by decide) ?_
    refine r_aload_n e_X11_count_36 rfl ?_
    refine r_getI e_X11_count_37 fl_X11_105 i0 k0 ?_
    refine r_ireturn e_X11_count_40 rfl ⟨rfl, rfl⟩ ?_
    obtain ⟨rfl, rfl⟩ := ps2 h; exact ⟨rfl, rfl, rfl⟩
  · rw [if_neg hs1_0] at h
    by_cases hs1_1 : x1 = 1
    · rw [if_pos hs1_1] at h
      refine r_tabIn (tgt := 41) (off := 40) e_X11_count_1 (by rw [hs1_1]; decide) (by rw [hs1_1]; decide) (by rw [hs1_1]; rfl) (by decide) ?_
      refine r_aload_n e_X11_count_41 rfl ?_
      refine r_getI e_X11_count_42 fl_X11_1 i0 k0 ?_
      refine r_ireturn e_X11_count_45 rfl ⟨rfl, rfl⟩ ?_
      obtain ⟨rfl, rfl⟩ := ps2 h; exact ⟨rfl, rfl, rfl⟩
    · rw [if_neg hs1_1] at h
      by_cases hs1_2 : x1 = 2
      · rw [if_pos hs1_2] at h
        refine r_tabIn (tgt := 46) (off := 45) e_X11_count_1 (by rw [hs1_2]; decide) (by rw [hs1_2]; decide) (by rw [hs1_2]; rfl) (by decide) ?_
        refine r_aload_n e_X11_count_46 rfl ?_
        refine r_getI e_X11_count_47 fl_X11_105 i0 k0 ?_
        obtain ⟨v2_0, q2, h⟩ := bd1_el h
        suffices j2 : WP m_X11_count _ 63 [none, none] [.int v2_0] sh M 0 0 by
          refine r_if_le e_X11_count_50 (fun c1 => ?_) (fun c1 => ?_)
          · rw [if_pos c1] at q2
            refine r_iconst e_X11_count_62 ic_0 ?_
            refine d_2_0 ?_
            refine d_2_1 ?_
            subst q2; exact j2
          · rw [if_neg c1] at q2
            refine r_aload_n e_X11_count_53 rfl ?_
            refine r_getR e_X11_count_54 fl_X11_166 k0 k1 ?_
            refine r_iconst e_X11_count_57 ic_0 ?_
            refine r_ialoade (v := (M.1 246 0)) e_X11_count_58 k2 (by unfold vp_in; decide) (show M.1 246 (0 : Int32).toNatClampNeg = M.1 246 0 by rw [show (0 : Int32).toNatClampNeg = 0 from rfl]) ?_
            refine r_goto e_X11_count_59 ?_
            refine d_2_0 ?_
            refine d_2_1 ?_
            subst q2; exact j2
        refine r_ireturn e_X11_count_63 rfl ⟨rfl, rfl⟩ ?_
        obtain ⟨rfl, rfl⟩ := ps2 h; exact ⟨rfl, rfl, rfl⟩
      · rw [if_neg hs1_2] at h
        by_cases hs1_3 : x1 = 3
        · rw [if_pos hs1_3] at h
          refine r_tabIn (tgt := 64) (off := 63) e_X11_count_1 (by rw [hs1_3]; decide) (by rw [hs1_3]; decide) (by rw [hs1_3]; rfl) (by decide) ?_
          refine r_aload_n e_X11_count_64 rfl ?_
          refine r_getI e_X11_count_65 fl_X11_421 i0 k0 ?_
          refine r_ireturn e_X11_count_68 rfl ⟨rfl, rfl⟩ ?_
          obtain ⟨rfl, rfl⟩ := ps2 h; exact ⟨rfl, rfl, rfl⟩
        · rw [if_neg hs1_3] at h
          by_cases hs1_4 : x1 = 4
          · rw [if_pos hs1_4] at h
            refine r_tabIn (tgt := 69) (off := 68) e_X11_count_1 (by rw [hs1_4]; decide) (by rw [hs1_4]; decide) (by rw [hs1_4]; rfl) (by decide) ?_
            refine r_aload_n e_X11_count_69 rfl ?_
            refine cV0v e_X11_count_70 cl_X11_394 ⟨Nat.le_of_ble_eq_true rfl, Nat.le_of_ble_eq_true rfl⟩ ⟨rfl, rfl⟩ k0 (Nat.le_of_ble_eq_true rfl) (S_X11_isMatch hb1) ?_
            obtain ⟨v4_0, q4, h⟩ := bd1_el h
            suffices j4 : WP m_X11_count _ 81 [none, none] [.int v4_0] sh M 0 0 by
              refine r_if_eq e_X11_count_73 (fun c3 => ?_) (fun c3 => ?_)
              · rw [if_pos c3] at q4
                refine r_iconst e_X11_count_80 ic_0 ?_
                refine d_2_0 ?_
                refine d_2_1 ?_
                subst q4; exact j4
              · rw [if_neg c3] at q4
                refine r_iconst e_X11_count_76 ic_1 ?_
                refine r_goto e_X11_count_77 ?_
                refine d_2_0 ?_
                refine d_2_1 ?_
                subst q4; exact j4
            refine r_ireturn e_X11_count_81 rfl ⟨rfl, rfl⟩ ?_
            obtain ⟨rfl, rfl⟩ := ps2 h; exact ⟨rfl, rfl, rfl⟩
          · rw [if_neg hs1_4] at h
            refine r_tabOut (tgt := 82) e_X11_count_1 (by have q0 := lv_neT hs1_0 (show (0 : Int32).toInt = 0 from rfl); have q1 := lv_neT hs1_1 (show (1 : Int32).toInt = 1 from rfl); have q2 := lv_neT hs1_2 (show (2 : Int32).toInt = 2 from rfl); have q3 := lv_neT hs1_3 (show (3 : Int32).toInt = 3 from rfl); have q4 := lv_neT hs1_4 (show (4 : Int32).toInt = 4 from rfl); omega) (by decide) ?_
            refine r_aload_n e_X11_count_82 rfl ?_
            refine r_sipush e_X11_count_83 sp_m1001 ?_
            obtain ⟨v5, M5, w5, h⟩ := bnd2_el h
            refine cV1v e_X11_count_86 cl_X11_178 ⟨Nat.le_of_ble_eq_true rfl, Nat.le_of_ble_eq_true rfl⟩ ⟨rfl, rfl⟩ k0 (Nat.le_of_ble_eq_true rfl) (S_X11_finding hb1 w5) ?_
            refine r_ireturn e_X11_count_89 rfl ⟨rfl, rfl⟩ ?_
            obtain ⟨rfl, rfl⟩ := ps2 h; exact ⟨rfl, rfl, rfl⟩
def R_X11_found (x1 : Int32) (mA : Nat) (M : Mem) : Option (Int32 × Mem) := bnd2 (if (V_X11_in x1 (-1005 : Int32) (-1001 : Int32) M) = 0 then (bnd2 (R_X11_finding (-1001 : Int32) mA M) (fun v4 M4 => (some (v4, M4)))) else (ck ((-1000 : Int32) - x1) 6 (some ((M.1 253 ((-1000 : Int32) - x1).toNatClampNeg), M)))) (fun v3_0 M3 => some (v3_0, M3))
theorem S_X11_found {sh : List SC} {M : Mem} {x1 : Int32} {mA : Nat} {oA : Nat} {v' : Int32} {M' : Mem} (hb1 : ModelAt sh mA oA)  (h : R_X11_found x1 mA M = some (v', M')) : Gv m_X11_found [.ref 242, .int x1] sh M (.int v') M' := by
  refine Sp.of (ls := [some (.ref 242), some (.int x1)]) (by decide +kernel) (Nat.le_of_ble_eq_true rfl) rfl ?_
  have k0 : kd sh 242 = some (10 + 7, 0) := hb1.1
  have k1 : rf sh 242 21 = some 253 := hb1.2.2.2.2.2.2.2.2.2.2.2.1
  have k2 : kd sh 253 = some (0, 6) := hb1.2.2.2.2.2.2.2.2.2.2.2.2.2.2.2.2.2.2.2.2.2.2.2.2.2.2.2.2.2.2.2.2.2.2.2.2.2.1
  unfold R_X11_found at h
  refine r_iload_n e_X11_found_0 rfl ?_
  refine r_sipush e_X11_found_1 sp_m1005 ?_
  refine r_sipush e_X11_found_4 sp_m1001 ?_
  refine cS3v e_X11_found_7 cl_X11_245 ⟨Nat.le_of_ble_eq_true rfl, Nat.le_of_ble_eq_true rfl⟩ ⟨rfl, rfl⟩  (Nat.le_of_ble_eq_true rfl) (S_X11_in ) ?_
  obtain ⟨K3, hK3, h⟩ := bnd2_in h
  suffices j3 : ∀ v3_0 M3, K3 (v3_0, M3) = some (v', M') → WP m_X11_found _ 33 [none, none] [.int v3_0] sh M3 0 0 by
    refine r_if_eq e_X11_found_10 (fun c1 => ?_) (fun c1 => ?_)
    · rw [if_pos c1] at h
      refine r_aload_n e_X11_found_26 rfl ?_
      refine r_sipush e_X11_found_27 sp_m1001 ?_
      obtain ⟨v4, M4, w4, h⟩ := bnd2_elK h
      refine cV1v e_X11_found_30 cl_X11_178 ⟨Nat.le_of_ble_eq_true rfl, Nat.le_of_ble_eq_true rfl⟩ ⟨rfl, rfl⟩ k0 (Nat.le_of_ble_eq_true rfl) (S_X11_finding hb1 w4) ?_
      refine d_2_0 ?_
      refine d_2_1 ?_
      exact j3 _ _ h
    · rw [if_neg c1] at h
      refine r_aload_n e_X11_found_13 rfl ?_
      refine r_getR e_X11_found_14 fl_X11_189 k0 k1 ?_
      refine r_sipush e_X11_found_17 sp_m1000 ?_
      refine r_iload_n e_X11_found_20 rfl ?_
      refine r_isub e_X11_found_21 ?_
      obtain ⟨b5, h⟩ := ck_elK h
      refine r_iaload e_X11_found_22 k2 b5 ?_
      refine r_goto e_X11_found_23 ?_
      refine d_2_0 ?_
      refine d_2_1 ?_
      exact j3 _ _ h
  intro v3_0 M3 h
  rw [hK3] at h
  refine r_ireturn e_X11_found_33 rfl ⟨rfl, rfl⟩ ?_
  obtain ⟨rfl, rfl⟩ := ps2 h; exact ⟨rfl, rfl, rfl⟩
def L_X10_feed_45 (x1 : Int64) (x2 : Int32) : Nat → Int32 → Mem → Option (Mem)
  | 0, _, _ => none
  | n + 1, u4, M => if x2 ≤ u4 then (some M) else (bnd1 (R_X4_append 2 (((x1.toUInt64 >>> (((8 : Int32) * u4).toInt64.toUInt64 &&& Int64.toUInt64 63)).toInt64).toInt32 &&& (255 : Int32)) M) (fun M5 => L_X10_feed_45 x1 x2 n (u4 + 1) M5))
theorem LW_X10_feed_45 {sh : List SC} {Q : Po} {x1 : Int64} {x2 : Int32}   (hb1 : PitchAt sh)  : ∀ (n : Nat) (u4 : Int32) (M : Mem) (Mz : Mem), L_X10_feed_45 x1 x2 n u4 M = some Mz → WP m_X10_feed Q 76 [some (.ref 0), none, none, none, none] [] sh Mz 0 0 → WP m_X10_feed Q 45 [some (.ref 0), some (.long x1), none, some (.int x2), some (.int u4)] [] sh M 0 0 := by
  intro n
  induction n with
  | zero =>
    intro u4 M Mz h hE
    rw [L_X10_feed_45] at h
    cases h
  | succ n ih =>
    intro u4 M Mz h hE
    rw [L_X10_feed_45] at h
    have k0 : kd sh 0 = some (9 + 7, 0) := hb1.1
    have k1 : rf sh 0 1 = some 2 := hb1.2.2.1
    have k2 : kd sh 2 = some (4 + 7, 0) := hb1.2.2.2.2.2.2.2.2.2.2.2.2.2.2.1.1
    refine r_iload e_X10_feed_45 rfl ?_
    refine r_iload_n e_X10_feed_47 rfl ?_
    refine r_icmp_ge e_X10_feed_48 (fun c4 => ?_) (fun c4 => ?_)
    · rw [if_pos c4] at h
      refine d_5_1 ?_
      refine d_5_3 ?_
      refine d_5_4 ?_
      obtain rfl := Option.some.inj h; exact hE
    · rw [if_neg c4] at h
      refine r_aload_n e_X10_feed_51 rfl ?_
      refine r_getR e_X10_feed_52 fl_X10_16 k0 k1 ?_
      refine r_lload_n e_X10_feed_55 rfl ?_
      refine r_bipush e_X10_feed_56 bp_8 ?_
      refine r_iload e_X10_feed_58 rfl ?_
      refine r_imul e_X10_feed_60 ?_
      refine r_lushr e_X10_feed_61 ?_
      refine r_l2i e_X10_feed_62 ?_
      refine r_sipush e_X10_feed_63 sp_255 ?_
      refine r_iand e_X10_feed_66 ?_
      obtain ⟨M5, w5, h⟩ := bnd1_el h
      refine cV1u e_X10_feed_67 cl_X10_78 ⟨Nat.le_of_ble_eq_true rfl, Nat.le_of_ble_eq_true rfl⟩ ⟨rfl, rfl⟩ k2 (Nat.le_of_ble_eq_true rfl) (S_X4_append hb1.2.2.2.2.2.2.2.2.2.2.2.2.2.2.1 w5) ?_
      refine p_iinc_5_4 e_X10_feed_70 rfl ic_1 rfl ?_
      refine r_goto e_X10_feed_73 ?_
      exact ih _ _ _ h hE
def R_X10_feed (x1 : Int64) (x2 : Int32) (M : Mem) : Option (Int32 × Mem) := if x2 < (1 : Int32) then (some ((V_X10_finding (-1001 : Int32) M), U_X10_finding (-1001 : Int32) M)) else (if x2 ≤ (8 : Int32) then (if ((V_X4_length 2 M) + x2) ≤ (800 : Int32) then (bnd1 (L_X10_feed_45 x1 x2 FUEL (0 : Int32) M) (fun M6 => some ((V_X4_length 2 M6), M6))) else (some ((V_X10_finding (-1002 : Int32) M), U_X10_finding (-1002 : Int32) M))) else (some ((V_X10_finding (-1001 : Int32) M), U_X10_finding (-1001 : Int32) M)))
theorem S_X10_feed {sh : List SC} {M : Mem} {x1 : Int64} {x2 : Int32}  {v' : Int32} {M' : Mem} (hb1 : PitchAt sh)  (h : R_X10_feed x1 x2 M = some (v', M')) : Gv m_X10_feed [.ref 0, .long x1, .int x2] sh M (.int v') M' := by
  refine Sp.of (ls := [some (.ref 0), some (.long x1), none, some (.int x2), none]) (by decide +kernel) (Nat.le_of_ble_eq_true rfl) rfl ?_
  have k0 : kd sh 0 = some (9 + 7, 0) := hb1.1
  have k1 : rf sh 0 1 = some 2 := hb1.2.2.1
  have k2 : kd sh 2 = some (4 + 7, 0) := hb1.2.2.2.2.2.2.2.2.2.2.2.2.2.2.1.1
  unfold R_X10_feed at h
  refine r_iload_n e_X10_feed_0 rfl ?_
  refine r_iconst e_X10_feed_1 ic_1 ?_
  refine r_icmp_lt e_X10_feed_2 (fun c1 => ?_) (fun c1 => ?_)
  · rw [if_pos c1] at h
    refine r_aload_n e_X10_feed_11 rfl ?_
    refine r_sipush e_X10_feed_12 sp_m1001 ?_
    refine cV1v e_X10_feed_15 cl_X10_70 ⟨Nat.le_of_ble_eq_true rfl, Nat.le_of_ble_eq_true rfl⟩ ⟨rfl, rfl⟩ k0 (Nat.le_of_ble_eq_true rfl) (S_X10_finding hb1) ?_
    refine r_ireturn e_X10_feed_18 rfl ⟨rfl, rfl⟩ ?_
    obtain ⟨rfl, rfl⟩ := ps2 h; exact ⟨rfl, rfl, rfl⟩
  · rw [if_neg c1] at h
    refine r_iload_n e_X10_feed_5 rfl ?_
    refine r_bipush e_X10_feed_6 bp_8 ?_
    refine r_icmp_le e_X10_feed_8 (fun c2 => ?_) (fun c2 => ?_)
    · rw [if_pos c2] at h
      refine r_aload_n e_X10_feed_19 rfl ?_
      refine r_getR e_X10_feed_20 fl_X10_16 k0 k1 ?_
      refine cV0v e_X10_feed_23 cl_X10_74 ⟨Nat.le_of_ble_eq_true rfl, Nat.le_of_ble_eq_true rfl⟩ ⟨rfl, rfl⟩ k2 (Nat.le_of_ble_eq_true rfl) (S_X4_length hb1.2.2.2.2.2.2.2.2.2.2.2.2.2.2.1) ?_
      refine r_iload_n e_X10_feed_26 rfl ?_
      refine r_iadd e_X10_feed_27 ?_
      refine r_sipush e_X10_feed_28 sp_800 ?_
      refine r_icmp_le e_X10_feed_31 (fun c3 => ?_) (fun c3 => ?_)
      · rw [if_pos c3] at h
        refine r_iconst e_X10_feed_42 ic_0 ?_
        refine p_istore_5_4 e_X10_feed_43 rfl rfl ?_
        obtain ⟨M6, w6, h⟩ := bnd1_el h
        refine LW_X10_feed_45 hb1 _ _ _ _ w6 ?_
        refine r_aload_n e_X10_feed_76 rfl ?_
        refine r_getR e_X10_feed_77 fl_X10_16 k0 k1 ?_
        refine cV0v e_X10_feed_80 cl_X10_74 ⟨Nat.le_of_ble_eq_true rfl, Nat.le_of_ble_eq_true rfl⟩ ⟨rfl, rfl⟩ k2 (Nat.le_of_ble_eq_true rfl) (S_X4_length hb1.2.2.2.2.2.2.2.2.2.2.2.2.2.2.1) ?_
        refine r_ireturn e_X10_feed_83 rfl ⟨rfl, rfl⟩ ?_
        obtain ⟨rfl, rfl⟩ := ps2 h; exact ⟨rfl, rfl, rfl⟩
      · rw [if_neg c3] at h
        refine r_aload_n e_X10_feed_34 rfl ?_
        refine r_sipush e_X10_feed_35 sp_m1002 ?_
        refine cV1v e_X10_feed_38 cl_X10_70 ⟨Nat.le_of_ble_eq_true rfl, Nat.le_of_ble_eq_true rfl⟩ ⟨rfl, rfl⟩ k0 (Nat.le_of_ble_eq_true rfl) (S_X10_finding hb1) ?_
        refine r_ireturn e_X10_feed_41 rfl ⟨rfl, rfl⟩ ?_
        obtain ⟨rfl, rfl⟩ := ps2 h; exact ⟨rfl, rfl, rfl⟩
    · rw [if_neg c2] at h
      refine r_aload_n e_X10_feed_11 rfl ?_
      refine r_sipush e_X10_feed_12 sp_m1001 ?_
      refine cV1v e_X10_feed_15 cl_X10_70 ⟨Nat.le_of_ble_eq_true rfl, Nat.le_of_ble_eq_true rfl⟩ ⟨rfl, rfl⟩ k0 (Nat.le_of_ble_eq_true rfl) (S_X10_finding hb1) ?_
      refine r_ireturn e_X10_feed_18 rfl ⟨rfl, rfl⟩ ?_
      obtain ⟨rfl, rfl⟩ := ps2 h; exact ⟨rfl, rfl, rfl⟩
def L_X4_splitName_5 (a : Nat) (x1 : Int32) : Nat → Int64 → Int32 → Mem → Option (Int64 × Int32)
  | 0, _, _, _ => none
  | n + 1, u2, u4, M => if (M.1 a 5) ≤ u4 then (some (u2, u4)) else (if (V_X4_isLetter (V_X10_at (a + 1) u4 800 M) M) = 0 then (some (u2, u4)) else (bd1 (V_X4_pack u2 (V_X10_at (a + 1) u4 800 M) M) (fun v3 => L_X4_splitName_5 a x1 n v3 (u4 + 1) M)))
theorem LW_X4_splitName_5 {sh : List SC} {Q : Po} {a : Nat} {x1 : Int32}   (hb1 : ReaderAt sh a)  : ∀ (n : Nat) (u2 : Int64) (u4 : Int32) (M : Mem) (z2 : Int64) (z4 : Int32), L_X4_splitName_5 a x1 n u2 u4 M = some (z2, z4) → WP m_X4_splitName Q 49 [some (.ref a), some (.int x1), some (.long z2), none, some (.int z4)] [] sh M 0 0 → WP m_X4_splitName Q 5 [some (.ref a), some (.int x1), some (.long u2), none, some (.int u4)] [] sh M 0 0 := by
  intro n
  induction n with
  | zero =>
    intro u2 u4 M z2 z4 h hE
    rw [L_X4_splitName_5] at h
    cases h
  | succ n ih =>
    intro u2 u4 M z2 z4 h hE
    rw [L_X4_splitName_5] at h
    have k0 : kd sh a = some (4 + 7, 0) := hb1.1
    have k1 : rf sh a 0 = some (a + 1) := hb1.2.1
    have k2 : kd sh (a + 1) = some (0, 800) := hb1.2.2.2.2.2.2.1
    refine r_iload e_X4_splitName_5 rfl ?_
    refine r_aload_n e_X4_splitName_7 rfl ?_
    refine r_getI e_X4_splitName_8 fl_X4_30 i0 k0 ?_
    refine r_icmp_ge e_X4_splitName_11 (fun c1 => ?_) (fun c1 => ?_)
    · rw [if_pos c1] at h
      obtain ⟨rfl, rfl⟩ := ps2 h; exact hE
    · rw [if_neg c1] at h
      refine r_aload_n e_X4_splitName_14 rfl ?_
      refine r_getR e_X4_splitName_15 fl_X4_9 k0 k1 ?_
      refine r_iload e_X4_splitName_18 rfl ?_
      refine cSN2v e_X4_splitName_20 cl_X4_106 ⟨Nat.le_of_ble_eq_true rfl, Nat.le_of_ble_eq_true rfl⟩ ⟨rfl, rfl⟩  (Nat.le_of_ble_eq_true rfl) (S_X10_at k2 (by decide)) ?_
      refine cS1v e_X4_splitName_23 cl_X4_110 ⟨Nat.le_of_ble_eq_true rfl, Nat.le_of_ble_eq_true rfl⟩ ⟨rfl, rfl⟩  (Nat.le_of_ble_eq_true rfl) (S_X4_isLetter ) ?_
      refine r_if_eq e_X4_splitName_26 (fun c2 => ?_) (fun c2 => ?_)
      · rw [if_pos c2] at h
        obtain ⟨rfl, rfl⟩ := ps2 h; exact hE
      · rw [if_neg c2] at h
        refine r_lload_n e_X4_splitName_29 rfl ?_
        refine r_aload_n e_X4_splitName_30 rfl ?_
        refine r_getR e_X4_splitName_31 fl_X4_9 k0 k1 ?_
        refine r_iload e_X4_splitName_34 rfl ?_
        refine cSN2v e_X4_splitName_36 cl_X4_106 ⟨Nat.le_of_ble_eq_true rfl, Nat.le_of_ble_eq_true rfl⟩ ⟨rfl, rfl⟩  (Nat.le_of_ble_eq_true rfl) (S_X10_at k2 (by decide)) ?_
        refine cS2v e_X4_splitName_39 cl_X4_65 ⟨Nat.le_of_ble_eq_true rfl, Nat.le_of_ble_eq_true rfl⟩ ⟨rfl, rfl⟩  (Nat.le_of_ble_eq_true rfl) (S_X4_pack ) ?_
        obtain ⟨v3, e3, h⟩ := bd1_el h
        rw [e3]
        refine p_lstore_n_5_2 e_X4_splitName_42 rfl rfl ?_
        refine p_iinc_5_4 e_X4_splitName_43 rfl ic_1 rfl ?_
        refine r_goto e_X4_splitName_46 ?_
        exact ih _ _ _ _ _ h hE
def R_X4_splitName (a : Nat) (x1 : Int32) (M : Mem) : Option (Int32 × Mem) := bnd2 (L_X4_splitName_5 a x1 FUEL (0 : Int64) x1 M) (fun v4_0 v4_1 => bd1 (if (v4_1 - x1) ≤ (12 : Int32) then (V_X4_kindOf a v4_0 M) else (36 : Int32)) (fun v6_0 => bnd1 (R_X4_addWord a v6_0 v4_0 x1 M) (fun M7 => some (v4_1, M7))))
theorem S_X4_splitName {sh : List SC} {M : Mem} {a : Nat} {x1 : Int32}  {v' : Int32} {M' : Mem} (hb1 : ReaderAt sh a)  (h : R_X4_splitName a x1 M = some (v', M')) : Gv m_X4_splitName [.ref a, .int x1] sh M (.int v') M' := by
  refine Sp.of (ls := [some (.ref a), some (.int x1), none, none, none]) (by decide +kernel) (Nat.le_of_ble_eq_true rfl) rfl ?_
  have k0 : kd sh a = some (4 + 7, 0) := hb1.1
  unfold R_X4_splitName at h
  refine r_lconst e_X4_splitName_0 lk_0 ?_
  refine p_lstore_n_5_2 e_X4_splitName_1 rfl rfl ?_
  refine r_iload_n e_X4_splitName_2 rfl ?_
  refine p_istore_5_4 e_X4_splitName_3 rfl rfl ?_
  obtain ⟨v4_0, v4_1, w4, h⟩ := bnd2_el h
  refine LW_X4_splitName_5 hb1 _ _ _ _ _ _ w4 ?_
  refine r_aload_n e_X4_splitName_49 rfl ?_
  refine r_iload e_X4_splitName_50 rfl ?_
  refine r_iload_n e_X4_splitName_52 rfl ?_
  refine r_isub e_X4_splitName_53 ?_
  refine r_bipush e_X4_splitName_54 bp_12 ?_
  obtain ⟨v6_0, q6, h⟩ := bd1_el h
  suffices j6 : WP m_X4_splitName _ 69 [none, some (.int x1), some (.long v4_0), none, some (.int v4_1)] [.int v6_0, .ref a] sh M 0 0 by
    refine r_icmp_le e_X4_splitName_56 (fun c5 => ?_) (fun c5 => ?_)
    · rw [if_pos c5] at q6
      refine r_aload_n e_X4_splitName_64 rfl ?_
      refine r_lload_n e_X4_splitName_65 rfl ?_
      refine cV1v e_X4_splitName_66 cl_X4_140 ⟨Nat.le_of_ble_eq_true rfl, Nat.le_of_ble_eq_true rfl⟩ ⟨rfl, rfl⟩ k0 (Nat.le_of_ble_eq_true rfl) (S_X4_kindOf hb1) ?_
      refine d_5_0 ?_
      subst q6; exact j6
    · rw [if_neg c5] at q6
      refine r_bipush e_X4_splitName_59 bp_36 ?_
      refine r_goto e_X4_splitName_61 ?_
      refine d_5_0 ?_
      subst q6; exact j6
  refine r_lload_n e_X4_splitName_69 rfl ?_
  refine r_iload_n e_X4_splitName_70 rfl ?_
  obtain ⟨M7, w7, h⟩ := bnd1_el h
  refine cV3u e_X4_splitName_71 cl_X4_136 ⟨Nat.le_of_ble_eq_true rfl, Nat.le_of_ble_eq_true rfl⟩ ⟨rfl, rfl⟩ k0 (Nat.le_of_ble_eq_true rfl) (S_X4_addWord hb1 w7) ?_
  refine r_iload e_X4_splitName_74 rfl ?_
  refine r_ireturn e_X4_splitName_76 rfl ⟨rfl, rfl⟩ ?_
  obtain ⟨rfl, rfl⟩ := ps2 h; exact ⟨rfl, rfl, rfl⟩
def L_X4_readSum_8 (a : Nat) (x1 : Nat) : Nat → Int32 → Int32 → Int32 → Mem → Option (Mem)
  | 0, _, _, _, _ => none
  | n + 1, u2, u3, u4, M => if (12 : Int32) < u4 then (some M) else (if 0 ≤ (M.1 a 9) then (some M) else (if u3 = 0 then (some M) else (bd1 (if u4 = (12 : Int32) then (U_X4_refuse a M) else M) (fun M5 => bnd1 (R_X4_readTerm a x1 u2 M5) (fun M6 => bd1 (if (V_X4_kind a M6) < (32 : Int32) then (0 : Int32) else (if (34 : Int32) < (V_X4_kind a M6) then (0 : Int32) else (1 : Int32))) (fun v8_0 => bnd2 (if v8_0 = 0 then (some (u2, M6)) else (bnd2 (R_X4_take a (32 : Int32) (34 : Int32) M6) (fun v13 M13 => (some (v13, M13))))) (fun v12_0 M12 => L_X4_readSum_8 a x1 n v12_0 v8_0 (u4 + 1) M12)))))))
theorem LW_X4_readSum_8 {sh : List SC} {Q : Po} {a : Nat} {x1 : Nat}   (hb1 : ReaderAt sh a) (hb2 : ProgramAt sh x1)  : ∀ (n : Nat) (u2 : Int32) (u3 : Int32) (u4 : Int32) (M : Mem) (Mz : Mem), L_X4_readSum_8 a x1 n u2 u3 u4 M = some Mz → WP m_X4_readSum Q 86 [none, some (.ref x1), none, none, none] [] sh Mz 0 0 → WP m_X4_readSum Q 8 [some (.ref a), some (.ref x1), some (.int u2), some (.int u3), some (.int u4)] [] sh M 0 0 := by
  intro n
  induction n with
  | zero =>
    intro u2 u3 u4 M Mz h hE
    rw [L_X4_readSum_8] at h
    cases h
  | succ n ih =>
    intro u2 u3 u4 M Mz h hE
    rw [L_X4_readSum_8] at h
    have k0 : kd sh a = some (4 + 7, 0) := hb1.1
    refine r_iload e_X4_readSum_8 rfl ?_
    refine r_bipush e_X4_readSum_10 bp_12 ?_
    refine r_icmp_gt e_X4_readSum_12 (fun c1 => ?_) (fun c1 => ?_)
    · rw [if_pos c1] at h
      refine d_5_0 ?_
      refine d_5_2 ?_
      refine d_5_3 ?_
      refine d_5_4 ?_
      obtain rfl := Option.some.inj h; exact hE
    · rw [if_neg c1] at h
      refine r_aload_n e_X4_readSum_15 rfl ?_
      refine r_getI e_X4_readSum_16 fl_X4_44 i0 k0 ?_
      refine r_if_ge e_X4_readSum_19 (fun c2 => ?_) (fun c2 => ?_)
      · rw [if_pos c2] at h
        refine d_5_0 ?_
        refine d_5_2 ?_
        refine d_5_3 ?_
        refine d_5_4 ?_
        obtain rfl := Option.some.inj h; exact hE
      · rw [if_neg c2] at h
        refine r_iload_n e_X4_readSum_22 rfl ?_
        refine r_if_eq e_X4_readSum_23 (fun c3 => ?_) (fun c3 => ?_)
        · rw [if_pos c3] at h
          refine d_5_0 ?_
          refine d_5_2 ?_
          refine d_5_3 ?_
          refine d_5_4 ?_
          obtain rfl := Option.some.inj h; exact hE
        · rw [if_neg c3] at h
          refine r_iload e_X4_readSum_26 rfl ?_
          refine r_bipush e_X4_readSum_28 bp_12 ?_
          obtain ⟨M5, q5, h⟩ := bd1_el h
          suffices j5 : WP m_X4_readSum _ 37 [some (.ref a), some (.ref x1), some (.int u2), none, some (.int u4)] [] sh M5 0 0 by
            refine r_icmp_ne e_X4_readSum_30 (fun c4 => ?_) (fun c4 => ?_)
            · rw [if_neg c4] at q5
              refine d_5_3 ?_
              subst q5; exact j5
            · rw [if_pos c4] at q5
              refine r_aload_n e_X4_readSum_33 rfl ?_
              refine cV0u e_X4_readSum_34 cl_X4_80 ⟨Nat.le_of_ble_eq_true rfl, Nat.le_of_ble_eq_true rfl⟩ ⟨rfl, rfl⟩ k0 (Nat.le_of_ble_eq_true rfl) (S_X4_refuse hb1) ?_
              refine d_5_3 ?_
              subst q5; exact j5
          refine r_aload_n e_X4_readSum_37 rfl ?_
          refine r_aload_n e_X4_readSum_38 rfl ?_
          refine r_iload_n e_X4_readSum_39 rfl ?_
          obtain ⟨M6, w6, h⟩ := bnd1_el h
          refine cV2u e_X4_readSum_40 cl_X4_168 ⟨Nat.le_of_ble_eq_true rfl, Nat.le_of_ble_eq_true rfl⟩ ⟨rfl, rfl⟩ k0 (Nat.le_of_ble_eq_true rfl) (S_X4_readTerm hb1 hb2 w6) ?_
          refine r_aload_n e_X4_readSum_43 rfl ?_
          refine cV0v e_X4_readSum_44 cl_X4_77 ⟨Nat.le_of_ble_eq_true rfl, Nat.le_of_ble_eq_true rfl⟩ ⟨rfl, rfl⟩ k0 (Nat.le_of_ble_eq_true rfl) (S_X4_kind hb1) ?_
          refine r_bipush e_X4_readSum_47 bp_32 ?_
          obtain ⟨v8_0, q8, h⟩ := bd1_el h
          suffices j8 : WP m_X4_readSum _ 66 [some (.ref a), some (.ref x1), some (.int u2), none, some (.int u4)] [.int v8_0] sh M6 0 0 by
            refine r_icmp_lt e_X4_readSum_49 (fun c7 => ?_) (fun c7 => ?_)
            · rw [if_pos c7] at q8
              refine r_iconst e_X4_readSum_65 ic_0 ?_
              subst q8; exact j8
            · rw [if_neg c7] at q8
              refine r_aload_n e_X4_readSum_52 rfl ?_
              refine cV0v e_X4_readSum_53 cl_X4_77 ⟨Nat.le_of_ble_eq_true rfl, Nat.le_of_ble_eq_true rfl⟩ ⟨rfl, rfl⟩ k0 (Nat.le_of_ble_eq_true rfl) (S_X4_kind hb1) ?_
              refine r_bipush e_X4_readSum_56 bp_34 ?_
              refine r_icmp_gt e_X4_readSum_58 (fun c9 => ?_) (fun c9 => ?_)
              · rw [if_pos c9] at q8
                refine r_iconst e_X4_readSum_65 ic_0 ?_
                subst q8; exact j8
              · rw [if_neg c9] at q8
                refine r_iconst e_X4_readSum_61 ic_1 ?_
                refine r_goto e_X4_readSum_62 ?_
                subst q8; exact j8
          refine p_istore_n_5_3 e_X4_readSum_66 rfl rfl ?_
          refine r_iload_n e_X4_readSum_67 rfl ?_
          obtain ⟨K12, hK12, h⟩ := bnd2_in h
          suffices j12 : ∀ v12_0 M12, K12 (v12_0, M12) = some Mz → WP m_X4_readSum _ 80 [some (.ref a), some (.ref x1), some (.int v12_0), some (.int v8_0), some (.int u4)] [] sh M12 0 0 by
            refine r_if_eq e_X4_readSum_68 (fun c10 => ?_) (fun c10 => ?_)
            · rw [if_pos c10] at h
              exact j12 _ _ h
            · rw [if_neg c10] at h
              refine r_aload_n e_X4_readSum_71 rfl ?_
              refine r_bipush e_X4_readSum_72 bp_32 ?_
              refine r_bipush e_X4_readSum_74 bp_34 ?_
              obtain ⟨v13, M13, w13, h⟩ := bnd2_elK h
              refine cV2v e_X4_readSum_76 cl_X4_83 ⟨Nat.le_of_ble_eq_true rfl, Nat.le_of_ble_eq_true rfl⟩ ⟨rfl, rfl⟩ k0 (Nat.le_of_ble_eq_true rfl) (S_X4_take hb1 w13) ?_
              refine p_istore_n_5_2 e_X4_readSum_79 rfl rfl ?_
              exact j12 _ _ h
          intro v12_0 M12 h
          rw [hK12] at h
          refine p_iinc_5_4 e_X4_readSum_80 rfl ic_1 rfl ?_
          refine r_goto e_X4_readSum_83 ?_
          exact ih _ _ _ _ _ h hE
def R_X4_readSum (a : Nat) (x1 : Nat) (M : Mem) : Option (Mem) := bnd1 (L_X4_readSum_8 a x1 FUEL (32 : Int32) (1 : Int32) (0 : Int32) M) (fun M14 => some (U_X3_closeSum x1 M14))
theorem S_X4_readSum {sh : List SC} {M : Mem} {a : Nat} {x1 : Nat}  {M' : Mem} (hb1 : ReaderAt sh a) (hb2 : ProgramAt sh x1)  (h : R_X4_readSum a x1 M = some M') : Gu m_X4_readSum [.ref a, .ref x1] sh M M' := by
  refine Sp.of (ls := [some (.ref a), some (.ref x1), none, none, none]) (by decide +kernel) (Nat.le_of_ble_eq_true rfl) rfl ?_
  have k0 : kd sh x1 = some (3 + 7, 0) := hb2.1
  unfold R_X4_readSum at h
  refine r_bipush e_X4_readSum_0 bp_32 ?_
  refine p_istore_n_5_2 e_X4_readSum_2 rfl rfl ?_
  refine r_iconst e_X4_readSum_3 ic_1 ?_
  refine p_istore_n_5_3 e_X4_readSum_4 rfl rfl ?_
  refine r_iconst e_X4_readSum_5 ic_0 ?_
  refine p_istore_5_4 e_X4_readSum_6 rfl rfl ?_
  obtain ⟨M14, w14, h⟩ := bnd1_el h
  refine LW_X4_readSum_8 hb1 hb2 _ _ _ _ _ _ w14 ?_
  refine r_aload_n e_X4_readSum_86 rfl ?_
  refine cV0u e_X4_readSum_87 cl_X4_172 ⟨Nat.le_of_ble_eq_true rfl, Nat.le_of_ble_eq_true rfl⟩ ⟨rfl, rfl⟩ k0 (Nat.le_of_ble_eq_true rfl) (S_X3_closeSum hb2) ?_
  refine r_return e_X4_readSum_90 rfl ⟨rfl, rfl⟩ ?_
  obtain rfl := Option.some.inj h; exact ⟨rfl, rfl, rfl⟩
def L_X4_readAct_88 (a : Nat) (x1 : Nat) (w2 : Int32) (w3 : Int64) (w5 : Int32) : Nat → Int32 → Mem → Option (Mem)
  | 0, _, _ => none
  | n + 1, u6, M => if w5 ≤ u6 then (some M) else (bnd1 (R_X4_readSum a x1 M) (fun M17 => L_X4_readAct_88 a x1 w2 w3 w5 n (u6 + 1) M17))
theorem LW_X4_readAct_88 {sh : List SC} {Q : Po} {a : Nat} {x1 : Nat}  {w2 : Int32} {w3 : Int64} {w5 : Int32} (hb1 : ReaderAt sh a) (hb2 : ProgramAt sh x1)  : ∀ (n : Nat) (u6 : Int32) (M : Mem) (Mz : Mem), L_X4_readAct_88 a x1 w2 w3 w5 n u6 M = some Mz → WP m_X4_readAct Q 106 [some (.ref a), some (.ref x1), some (.int w2), some (.long w3), none, some (.int w5), none] [] sh Mz 0 0 → WP m_X4_readAct Q 88 [some (.ref a), some (.ref x1), some (.int w2), some (.long w3), none, some (.int w5), some (.int u6)] [] sh M 0 0 := by
  intro n
  induction n with
  | zero =>
    intro u6 M Mz h hE
    rw [L_X4_readAct_88] at h
    cases h
  | succ n ih =>
    intro u6 M Mz h hE
    rw [L_X4_readAct_88] at h
    have k0 : kd sh a = some (4 + 7, 0) := hb1.1
    refine r_iload e_X4_readAct_88 rfl ?_
    refine r_iload e_X4_readAct_90 rfl ?_
    refine r_icmp_ge e_X4_readAct_92 (fun c16 => ?_) (fun c16 => ?_)
    · rw [if_pos c16] at h
      refine d_7_6 ?_
      obtain rfl := Option.some.inj h; exact hE
    · rw [if_neg c16] at h
      refine r_aload_n e_X4_readAct_95 rfl ?_
      refine r_aload_n e_X4_readAct_96 rfl ?_
      obtain ⟨M17, w17, h⟩ := bnd1_el h
      refine cV1u e_X4_readAct_97 cl_X4_152 ⟨Nat.le_of_ble_eq_true rfl, Nat.le_of_ble_eq_true rfl⟩ ⟨rfl, rfl⟩ k0 (Nat.le_of_ble_eq_true rfl) (S_X4_readSum hb1 hb2 w17) ?_
      refine p_iinc_7_6 e_X4_readAct_100 rfl ic_1 rfl ?_
      refine r_goto e_X4_readAct_103 ?_
      exact ih _ _ _ h hE
def R_X4_readAct (a : Nat) (x1 : Nat) (M : Mem) : Option (Mem) := bnd2 (R_X4_take a (3 : Int32) (8 : Int32) M) (fun v1 M1 => bnd3 (if v1 = (3 : Int32) then (bnd2 (R_X4_take a (26 : Int32) (26 : Int32) M1) (fun v15 M15 => (some ((M15.2 a 8), (0 : Int32), M15)))) else (if v1 = (4 : Int32) then (bnd2 (R_X4_take a (13 : Int32) (16 : Int32) M1) (fun v13 M13 => bd1 ((v13 - (13 : Int32)).toInt64) (fun v14 => (some (v14, (1 : Int32), M13))))) else (if v1 = (5 : Int32) then (some ((0 : Int64), (2 : Int32), M1)) else (if v1 = (6 : Int32) then (some ((0 : Int64), (2 : Int32), M1)) else (if v1 = (7 : Int32) then (some ((0 : Int64), (3 : Int32), M1)) else (some ((0 : Int64), (0 : Int32), M1))))))) (fun v8_0 v8_1 M8 => bnd1 (L_X4_readAct_88 a x1 v1 v8_0 v8_1 FUEL (0 : Int32) M8) (fun M18 => bnd2 (R_X4_take a (35 : Int32) (35 : Int32) M18) (fun v19 M19 => bnd1 (R_X3_addAct x1 v1 v8_0 v8_1 M19) (fun M20 => some M20)))))
theorem S_X4_readAct {sh : List SC} {M : Mem} {a : Nat} {x1 : Nat}  {M' : Mem} (hb1 : ReaderAt sh a) (hb2 : ProgramAt sh x1)  (h : R_X4_readAct a x1 M = some M') : Gu m_X4_readAct [.ref a, .ref x1] sh M M' := by
  refine Sp.of (ls := [some (.ref a), some (.ref x1), none, none, none, none, none]) (by decide +kernel) (Nat.le_of_ble_eq_true rfl) rfl ?_
  have k0 : kd sh a = some (4 + 7, 0) := hb1.1
  have k1 : kd sh x1 = some (3 + 7, 0) := hb2.1
  unfold R_X4_readAct at h
  refine r_aload_n e_X4_readAct_0 rfl ?_
  refine r_iconst e_X4_readAct_1 ic_3 ?_
  refine r_bipush e_X4_readAct_2 bp_8 ?_
  obtain ⟨v1, M1, w1, h⟩ := bnd2_el h
  refine cV2v e_X4_readAct_4 cl_X4_83 ⟨Nat.le_of_ble_eq_true rfl, Nat.le_of_ble_eq_true rfl⟩ ⟨rfl, rfl⟩ k0 (Nat.le_of_ble_eq_true rfl) (S_X4_take hb1 w1) ?_
  refine p_istore_n_7_2 e_X4_readAct_7 rfl rfl ?_
  refine r_lconst e_X4_readAct_8 lk_0 ?_
  refine p_lstore_n_7_3 e_X4_readAct_9 rfl rfl ?_
  refine r_iconst e_X4_readAct_10 ic_0 ?_
  refine p_istore_7_5 e_X4_readAct_11 rfl rfl ?_
  refine r_iload_n e_X4_readAct_13 rfl ?_
  refine r_iconst e_X4_readAct_14 ic_3 ?_
  obtain ⟨K8, hK8, h⟩ := bnd3_in h
  suffices j8 : ∀ v8_0 v8_1 M8, K8 (v8_0, v8_1, M8) = some M' → WP m_X4_readAct _ 85 [some (.ref a), some (.ref x1), some (.int v1), some (.long v8_0), none, some (.int v8_1), none] [] sh M8 0 0 by
    refine r_icmp_ne e_X4_readAct_15 (fun c2 => ?_) (fun c2 => ?_)
    · rw [if_neg c2] at h
      refine r_iload_n e_X4_readAct_35 rfl ?_
      refine r_iconst e_X4_readAct_36 ic_4 ?_
      refine r_icmp_ne e_X4_readAct_37 (fun c9 => ?_) (fun c9 => ?_)
      · rw [if_neg c9] at h
        refine r_iload_n e_X4_readAct_59 rfl ?_
        refine r_iconst e_X4_readAct_60 ic_5 ?_
        refine r_icmp_eq e_X4_readAct_61 (fun c10 => ?_) (fun c10 => ?_)
        · rw [if_pos c10] at h
          refine r_iconst e_X4_readAct_70 ic_2 ?_
          refine p_istore_7_5 e_X4_readAct_71 rfl rfl ?_
          refine r_goto e_X4_readAct_73 ?_
          exact j8 _ _ _ h
        · rw [if_neg c10] at h
          refine r_iload_n e_X4_readAct_64 rfl ?_
          refine r_bipush e_X4_readAct_65 bp_6 ?_
          refine r_icmp_ne e_X4_readAct_67 (fun c11 => ?_) (fun c11 => ?_)
          · rw [if_neg c11] at h
            refine r_iload_n e_X4_readAct_76 rfl ?_
            refine r_bipush e_X4_readAct_77 bp_7 ?_
            refine r_icmp_ne e_X4_readAct_79 (fun c12 => ?_) (fun c12 => ?_)
            · rw [if_neg c12] at h
              exact j8 _ _ _ h
            · rw [if_pos c12] at h
              refine r_iconst e_X4_readAct_82 ic_3 ?_
              refine p_istore_7_5 e_X4_readAct_83 rfl rfl ?_
              exact j8 _ _ _ h
          · rw [if_pos c11] at h
            refine r_iconst e_X4_readAct_70 ic_2 ?_
            refine p_istore_7_5 e_X4_readAct_71 rfl rfl ?_
            refine r_goto e_X4_readAct_73 ?_
            exact j8 _ _ _ h
      · rw [if_pos c9] at h
        refine r_aload_n e_X4_readAct_40 rfl ?_
        refine r_bipush e_X4_readAct_41 bp_13 ?_
        refine r_bipush e_X4_readAct_43 bp_16 ?_
        obtain ⟨v13, M13, w13, h⟩ := bnd2_elK h
        refine cV2v e_X4_readAct_45 cl_X4_83 ⟨Nat.le_of_ble_eq_true rfl, Nat.le_of_ble_eq_true rfl⟩ ⟨rfl, rfl⟩ k0 (Nat.le_of_ble_eq_true rfl) (S_X4_take hb1 w13) ?_
        refine r_bipush e_X4_readAct_48 bp_13 ?_
        refine r_isub e_X4_readAct_50 ?_
        refine r_i2l e_X4_readAct_51 ?_
        obtain ⟨v14, e14, h⟩ := bd1_elK h
        rw [e14]
        refine p_lstore_n_7_3 e_X4_readAct_52 rfl rfl ?_
        refine r_iconst e_X4_readAct_53 ic_1 ?_
        refine p_istore_7_5 e_X4_readAct_54 rfl rfl ?_
        refine r_goto e_X4_readAct_56 ?_
        exact j8 _ _ _ h
    · rw [if_pos c2] at h
      refine r_aload_n e_X4_readAct_18 rfl ?_
      refine r_bipush e_X4_readAct_19 bp_26 ?_
      refine r_bipush e_X4_readAct_21 bp_26 ?_
      obtain ⟨v15, M15, w15, h⟩ := bnd2_elK h
      refine cV2v e_X4_readAct_23 cl_X4_83 ⟨Nat.le_of_ble_eq_true rfl, Nat.le_of_ble_eq_true rfl⟩ ⟨rfl, rfl⟩ k0 (Nat.le_of_ble_eq_true rfl) (S_X4_take hb1 w15) ?_
      refine r_pop e_X4_readAct_26 rfl ?_
      refine r_aload_n e_X4_readAct_27 rfl ?_
      refine r_getJ e_X4_readAct_28 fl_X4_40 k0 ?_
      refine p_lstore_n_7_3 e_X4_readAct_31 rfl rfl ?_
      refine r_goto e_X4_readAct_32 ?_
      exact j8 _ _ _ h
  intro v8_0 v8_1 M8 h
  rw [hK8] at h
  refine r_iconst e_X4_readAct_85 ic_0 ?_
  refine p_istore_7_6 e_X4_readAct_86 rfl rfl ?_
  obtain ⟨M18, w18, h⟩ := bnd1_el h
  refine LW_X4_readAct_88 hb1 hb2 _ _ _ _ w18 ?_
  refine r_aload_n e_X4_readAct_106 rfl ?_
  refine r_bipush e_X4_readAct_107 bp_35 ?_
  refine r_bipush e_X4_readAct_109 bp_35 ?_
  obtain ⟨v19, M19, w19, h⟩ := bnd2_el h
  refine cV2v e_X4_readAct_111 cl_X4_83 ⟨Nat.le_of_ble_eq_true rfl, Nat.le_of_ble_eq_true rfl⟩ ⟨rfl, rfl⟩ k0 (Nat.le_of_ble_eq_true rfl) (S_X4_take hb1 w19) ?_
  refine r_pop e_X4_readAct_114 rfl ?_
  refine r_aload_n e_X4_readAct_115 rfl ?_
  refine r_iload_n e_X4_readAct_116 rfl ?_
  refine r_lload_n e_X4_readAct_117 rfl ?_
  refine r_iload e_X4_readAct_118 rfl ?_
  obtain ⟨M20, w20, h⟩ := bnd1_el h
  refine cV3u e_X4_readAct_120 cl_X4_165 ⟨Nat.le_of_ble_eq_true rfl, Nat.le_of_ble_eq_true rfl⟩ ⟨rfl, rfl⟩ k1 (Nat.le_of_ble_eq_true rfl) (S_X3_addAct hb2 w20) ?_
  refine r_return e_X4_readAct_123 rfl ⟨rfl, rfl⟩ ?_
  obtain rfl := Option.some.inj h; exact ⟨rfl, rfl, rfl⟩
def L_X4_judgeNames_4 (a : Nat) (x1 : Nat) : Nat → Int32 → Int32 → Mem → Option (Mem)
  | 0, _, _, _ => none
  | n + 1, u2, u3, M => if (M.1 a 6) ≤ u3 then (some M) else (if (801 : Int32) ≤ u3 then (some M) else (if 0 ≤ (M.1 a 9) then (some M) else (ck u3 801 (bnd2 (if (M.1 (a + 3) u3.toNatClampNeg) = (26 : Int32) then (ck u3 801 (bnd1 (R_X3_stateNamed x1 (M.2 (a + 4) u3.toNatClampNeg) M) (fun v9 => bd1 (if 0 ≤ v9 then (0 : Int32) else (1 : Int32)) (fun v11_0 => ck (u3 - (1 : Int32)) 801 (bd2 (if (M.1 (a + 3) (u3 - (1 : Int32)).toNatClampNeg) = 0 then (bd1 (if u2 ≤ v9 then (0 : Int32) else (1 : Int32)) (fun v16_0 => ((u2 + 1), v16_0))) else (u2, v11_0)) (fun v14_0 v14_1 => if v14_1 = 0 then (some (v14_0, M)) else (ck u3 801 (some (v14_0, setI M a 9 (M.1 (a + 5) u3.toNatClampNeg)))))))))) else (some (u2, M))) (fun v7_0 M7 => L_X4_judgeNames_4 a x1 n v7_0 (u3 + 1) M7)))))
theorem LW_X4_judgeNames_4 {sh : List SC} {Q : Po} {a : Nat} {x1 : Nat}   (hb1 : ReaderAt sh a) (hb2 : ProgramAt sh x1)  : ∀ (n : Nat) (u2 : Int32) (u3 : Int32) (M : Mem) (Mz : Mem), L_X4_judgeNames_4 a x1 n u2 u3 M = some Mz → WP m_X4_judgeNames Q 111 [none, none, none, none, none, none] [] sh Mz 0 0 → WP m_X4_judgeNames Q 4 [some (.ref a), some (.ref x1), some (.int u2), some (.int u3), none, none] [] sh M 0 0 := by
  intro n
  induction n with
  | zero =>
    intro u2 u3 M Mz h hE
    rw [L_X4_judgeNames_4] at h
    cases h
  | succ n ih =>
    intro u2 u3 M Mz h hE
    rw [L_X4_judgeNames_4] at h
    have k0 : kd sh a = some (4 + 7, 0) := hb1.1
    have k1 : rf sh a 2 = some (a + 3) := hb1.2.2.2.1
    have k2 : kd sh (a + 3) = some (0, 801) := hb1.2.2.2.2.2.2.2.2.1
    have k3 : rf sh a 3 = some (a + 4) := hb1.2.2.2.2.1
    have k4 : kd sh (a + 4) = some (1, 801) := hb1.2.2.2.2.2.2.2.2.2.1
    have k5 : kd sh x1 = some (3 + 7, 0) := hb2.1
    have k6 : rf sh a 4 = some (a + 5) := hb1.2.2.2.2.2.1
    have k7 : kd sh (a + 5) = some (0, 801) := hb1.2.2.2.2.2.2.2.2.2.2
    refine r_iload_n e_X4_judgeNames_4 rfl ?_
    refine r_aload_n e_X4_judgeNames_5 rfl ?_
    refine r_getI e_X4_judgeNames_6 fl_X4_34 i0 k0 ?_
    refine r_icmp_ge e_X4_judgeNames_9 (fun c1 => ?_) (fun c1 => ?_)
    · rw [if_pos c1] at h
      refine d_6_0 ?_
      refine d_6_1 ?_
      refine d_6_2 ?_
      refine d_6_3 ?_
      obtain rfl := Option.some.inj h; exact hE
    · rw [if_neg c1] at h
      refine r_iload_n e_X4_judgeNames_12 rfl ?_
      refine r_aload_n e_X4_judgeNames_13 rfl ?_
      refine r_getR e_X4_judgeNames_14 fl_X4_21 k0 k1 ?_
      refine r_alen (v := (801 : Int32)) e_X4_judgeNames_17 k2 (by decide) rfl ?_
      refine r_icmp_ge e_X4_judgeNames_18 (fun c2 => ?_) (fun c2 => ?_)
      · rw [if_pos c2] at h
        refine d_6_0 ?_
        refine d_6_1 ?_
        refine d_6_2 ?_
        refine d_6_3 ?_
        obtain rfl := Option.some.inj h; exact hE
      · rw [if_neg c2] at h
        refine r_aload_n e_X4_judgeNames_21 rfl ?_
        refine r_getI e_X4_judgeNames_22 fl_X4_44 i0 k0 ?_
        refine r_if_ge e_X4_judgeNames_25 (fun c3 => ?_) (fun c3 => ?_)
        · rw [if_pos c3] at h
          refine d_6_0 ?_
          refine d_6_1 ?_
          refine d_6_2 ?_
          refine d_6_3 ?_
          obtain rfl := Option.some.inj h; exact hE
        · rw [if_neg c3] at h
          refine r_aload_n e_X4_judgeNames_28 rfl ?_
          refine r_getR e_X4_judgeNames_29 fl_X4_21 k0 k1 ?_
          refine r_iload_n e_X4_judgeNames_32 rfl ?_
          obtain ⟨b4, h⟩ := ck_el h
          refine r_iaload e_X4_judgeNames_33 k2 b4 ?_
          refine r_bipush e_X4_judgeNames_34 bp_26 ?_
          obtain ⟨K7, hK7, h⟩ := bnd2_in h
          suffices j7 : ∀ v7_0 M7, K7 (v7_0, M7) = some Mz → WP m_X4_judgeNames _ 105 [some (.ref a), some (.ref x1), some (.int v7_0), some (.int u3), none, none] [] sh M7 0 0 by
            refine r_icmp_ne e_X4_judgeNames_36 (fun c5 => ?_) (fun c5 => ?_)
            · rw [if_neg c5] at h
              exact j7 _ _ h
            · rw [if_pos c5] at h
              refine r_aload_n e_X4_judgeNames_39 rfl ?_
              refine r_aload_n e_X4_judgeNames_40 rfl ?_
              refine r_getR e_X4_judgeNames_41 fl_X4_24 k0 k3 ?_
              refine r_iload_n e_X4_judgeNames_44 rfl ?_
              obtain ⟨b8, h⟩ := ck_elK h
              refine r_laload e_X4_judgeNames_45 k4 b8 ?_
              obtain ⟨v9, w9, h⟩ := bnd1_elK h
              refine cV1v e_X4_judgeNames_46 cl_X4_183 ⟨Nat.le_of_ble_eq_true rfl, Nat.le_of_ble_eq_true rfl⟩ ⟨rfl, rfl⟩ k5 (Nat.le_of_ble_eq_true rfl) (S_X3_stateNamed hb2 w9) ?_
              refine p_istore_6_4 e_X4_judgeNames_49 rfl rfl ?_
              refine r_iload e_X4_judgeNames_51 rfl ?_
              obtain ⟨v11_0, q11, h⟩ := bd1_elK h
              suffices j11 : WP m_X4_judgeNames _ 61 [some (.ref a), some (.ref x1), some (.int u2), some (.int u3), some (.int v9), none] [.int v11_0] sh M 0 0 by
                refine r_if_ge e_X4_judgeNames_53 (fun c10 => ?_) (fun c10 => ?_)
                · rw [if_pos c10] at q11
                  refine r_iconst e_X4_judgeNames_60 ic_0 ?_
                  subst q11; exact j11
                · rw [if_neg c10] at q11
                  refine r_iconst e_X4_judgeNames_56 ic_1 ?_
                  refine r_goto e_X4_judgeNames_57 ?_
                  subst q11; exact j11
              refine p_istore_6_5 e_X4_judgeNames_61 rfl rfl ?_
              refine r_aload_n e_X4_judgeNames_63 rfl ?_
              refine r_getR e_X4_judgeNames_64 fl_X4_21 k0 k1 ?_
              refine r_iload_n e_X4_judgeNames_67 rfl ?_
              refine r_iconst e_X4_judgeNames_68 ic_1 ?_
              refine r_isub e_X4_judgeNames_69 ?_
              obtain ⟨b12, h⟩ := ck_elK h
              refine r_iaload e_X4_judgeNames_70 k2 b12 ?_
              obtain ⟨v14_0, v14_1, q14, h⟩ := bd2_elK h
              suffices j14 : WP m_X4_judgeNames _ 90 [some (.ref a), some (.ref x1), some (.int v14_0), some (.int u3), none, some (.int v14_1)] [] sh M 0 0 by
                refine r_if_ne e_X4_judgeNames_71 (fun c13 => ?_) (fun c13 => ?_)
                · rw [if_neg c13] at q14
                  refine d_6_4 ?_
                  obtain ⟨rfl, rfl⟩ := pe2 q14; exact j14
                · rw [if_pos c13] at q14
                  refine r_iload e_X4_judgeNames_74 rfl ?_
                  refine r_iload_n e_X4_judgeNames_76 rfl ?_
                  obtain ⟨v16_0, q16, q14⟩ := bd1_el q14
                  suffices j16 : WP m_X4_judgeNames _ 85 [some (.ref a), some (.ref x1), some (.int u2), some (.int u3), none, none] [.int v16_0] sh M 0 0 by
                    refine r_icmp_ge e_X4_judgeNames_77 (fun c15 => ?_) (fun c15 => ?_)
                    · rw [if_pos c15] at q16
                      refine r_iconst e_X4_judgeNames_84 ic_0 ?_
                      refine d_6_4 ?_
                      refine d_6_5 ?_
                      subst q16; exact j16
                    · rw [if_neg c15] at q16
                      refine r_iconst e_X4_judgeNames_80 ic_1 ?_
                      refine r_goto e_X4_judgeNames_81 ?_
                      refine d_6_4 ?_
                      refine d_6_5 ?_
                      subst q16; exact j16
                  refine p_istore_6_5 e_X4_judgeNames_85 rfl rfl ?_
                  refine p_iinc_6_2 e_X4_judgeNames_87 rfl ic_1 rfl ?_
                  obtain ⟨rfl, rfl⟩ := pe2 q14; exact j14
              refine r_iload e_X4_judgeNames_90 rfl ?_
              refine r_if_eq e_X4_judgeNames_92 (fun c17 => ?_) (fun c17 => ?_)
              · rw [if_pos c17] at h
                refine d_6_5 ?_
                exact j7 _ _ h
              · rw [if_neg c17] at h
                refine r_aload_n e_X4_judgeNames_95 rfl ?_
                refine r_aload_n e_X4_judgeNames_96 rfl ?_
                refine r_getR e_X4_judgeNames_97 fl_X4_27 k0 k6 ?_
                refine r_iload_n e_X4_judgeNames_100 rfl ?_
                obtain ⟨b18, h⟩ := ck_elK h
                refine r_iaload e_X4_judgeNames_101 k7 b18 ?_
                refine r_putI e_X4_judgeNames_102 fl_X4_44 k0 ?_
                refine d_6_5 ?_
                exact j7 _ _ h
          intro v7_0 M7 h
          rw [hK7] at h
          refine p_iinc_6_3 e_X4_judgeNames_105 rfl ic_1 rfl ?_
          refine r_goto e_X4_judgeNames_108 ?_
          exact ih _ _ _ _ h hE
def R_X4_judgeNames (a : Nat) (x1 : Nat) (M : Mem) : Option (Mem) := bnd1 (L_X4_judgeNames_4 a x1 FUEL (0 : Int32) (1 : Int32) M) (fun M19 => some M19)
theorem S_X4_judgeNames {sh : List SC} {M : Mem} {a : Nat} {x1 : Nat}  {M' : Mem} (hb1 : ReaderAt sh a) (hb2 : ProgramAt sh x1)  (h : R_X4_judgeNames a x1 M = some M') : Gu m_X4_judgeNames [.ref a, .ref x1] sh M M' := by
  refine Sp.of (ls := [some (.ref a), some (.ref x1), none, none, none, none]) (by decide +kernel) (Nat.le_of_ble_eq_true rfl) rfl ?_
  unfold R_X4_judgeNames at h
  refine r_iconst e_X4_judgeNames_0 ic_0 ?_
  refine p_istore_n_6_2 e_X4_judgeNames_1 rfl rfl ?_
  refine r_iconst e_X4_judgeNames_2 ic_1 ?_
  refine p_istore_n_6_3 e_X4_judgeNames_3 rfl rfl ?_
  obtain ⟨M19, w19, h⟩ := bnd1_el h
  refine LW_X4_judgeNames_4 hb1 hb2 _ _ _ _ _ w19 ?_
  refine r_return e_X4_judgeNames_111 rfl ⟨rfl, rfl⟩ ?_
  obtain rfl := Option.some.inj h; exact ⟨rfl, rfl, rfl⟩
def R_X2_putAtStart (a : Nat) (x1 : Int32) (M : Mem) : Option (Mem) := if x1 < 0 then (some M) else (if x1 < (10 : Int32) then (ck x1 10 (bd1 (U_X5_leave (a + 10 + 2 * x1.toNatClampNeg) M) (fun M4 => bnd1 (R_X2_freeCell a (M4.1 (a + 10 + 2 * x1.toNatClampNeg) 4) (M4.1 (a + 10 + 2 * x1.toNatClampNeg) 5) M4) (fun v5 => bd1 (if (M4.1 (a + 4) 2) = x1 then (bd1 (U_X0_go (a + 4) (v5 - v5 / (15 : Int32) * (15 : Int32)) (v5 / (15 : Int32)) (setI (setI M4 (a + 10 + 2 * x1.toNatClampNeg) 2 (v5 - v5 / (15 : Int32) * (15 : Int32))) (a + 10 + 2 * x1.toNatClampNeg) 3 (v5 / (15 : Int32)))) (fun M8 => M8)) else (setI (setI M4 (a + 10 + 2 * x1.toNatClampNeg) 2 (v5 - v5 / (15 : Int32) * (15 : Int32))) (a + 10 + 2 * x1.toNatClampNeg) 3 (v5 / (15 : Int32)))) (fun M7 => some M7))))) else (some M))
theorem S_X2_putAtStart {sh : List SC} {M : Mem} {a : Nat} {x1 : Int32}  {M' : Mem} (hb1 : MatchAt sh a)  (h : R_X2_putAtStart a x1 M = some M') : Gu m_X2_putAtStart [.ref a, .int x1] sh M M' := by
  refine Sp.of (ls := [some (.ref a), some (.int x1), none, none]) (by decide +kernel) (Nat.le_of_ble_eq_true rfl) rfl ?_
  have k0 : kd sh a = some (2 + 7, 0) := hb1.1
  have k1 : rf sh a 3 = some (a + 3) := hb1.2.2.2.2.1
  have k2 : kd sh (a + 3) = some (6, 10) := hb1.2.2.2.2.2.2.2.1
  have k3 : rf sh a 4 = some (a + 4) := hb1.2.2.2.2.2.1
  have k4 : kd sh (a + 4) = some (0 + 7, 0) := hb1.2.2.2.2.2.2.2.2.2.1.1
  unfold R_X2_putAtStart at h
  refine r_iload_n e_X2_putAtStart_0 rfl ?_
  refine r_if_lt e_X2_putAtStart_1 (fun c1 => ?_) (fun c1 => ?_)
  · rw [if_pos c1] at h
    refine r_return e_X2_putAtStart_13 rfl ⟨rfl, rfl⟩ ?_
    obtain rfl := Option.some.inj h; exact ⟨rfl, rfl, rfl⟩
  · rw [if_neg c1] at h
    refine r_iload_n e_X2_putAtStart_4 rfl ?_
    refine r_aload_n e_X2_putAtStart_5 rfl ?_
    refine r_getR e_X2_putAtStart_6 fl_X2_20 k0 k1 ?_
    refine r_alen (v := (10 : Int32)) e_X2_putAtStart_9 k2 (by decide) rfl ?_
    refine r_icmp_lt e_X2_putAtStart_10 (fun c2 => ?_) (fun c2 => ?_)
    · rw [if_pos c2] at h
      refine r_aload_n e_X2_putAtStart_14 rfl ?_
      refine r_getR e_X2_putAtStart_15 fl_X2_20 k0 k1 ?_
      refine r_iload_n e_X2_putAtStart_18 rfl ?_
      obtain ⟨b3, h⟩ := ck_el h
      refine r_aaload (b := (a + 10 + 2 * x1.toNatClampNeg)) e_X2_putAtStart_19 k2 ⟨by decide, by decide⟩ b3 (hb1.2.2.2.2.2.2.2.2.1 x1.toNatClampNeg (vp_lt b3)).1 ?_
      refine p_astore_n_4_2 e_X2_putAtStart_20 rfl rfl ?_
      refine r_aload_n e_X2_putAtStart_21 rfl ?_
      refine cV0u e_X2_putAtStart_22 cl_X2_94 ⟨Nat.le_of_ble_eq_true rfl, Nat.le_of_ble_eq_true rfl⟩ ⟨rfl, rfl⟩ (show kd sh (a + 10 + 2 * x1.toNatClampNeg) = some (5 + 7, 0) from (hb1.2.2.2.2.2.2.2.2.1 x1.toNatClampNeg (vp_lt b3)).2.1) (Nat.le_of_ble_eq_true rfl) (S_X5_leave (hb1.2.2.2.2.2.2.2.2.1 x1.toNatClampNeg (vp_lt b3)).2) ?_
      obtain ⟨M4, e4, h⟩ := bd1_el h
      rw [e4]
      refine r_aload_n e_X2_putAtStart_25 rfl ?_
      refine r_aload_n e_X2_putAtStart_26 rfl ?_
      refine r_getI e_X2_putAtStart_27 fl_X2_120 i0 (show kd sh (a + 10 + 2 * x1.toNatClampNeg) = some (5 + 7, 0) from (hb1.2.2.2.2.2.2.2.2.1 x1.toNatClampNeg (vp_lt b3)).2.1) ?_
      refine r_aload_n e_X2_putAtStart_30 rfl ?_
      refine r_getI e_X2_putAtStart_31 fl_X2_123 i0 (show kd sh (a + 10 + 2 * x1.toNatClampNeg) = some (5 + 7, 0) from (hb1.2.2.2.2.2.2.2.2.1 x1.toNatClampNeg (vp_lt b3)).2.1) ?_
      obtain ⟨v5, w5, h⟩ := bnd1_el h
      refine cV2v e_X2_putAtStart_34 cl_X2_126 ⟨Nat.le_of_ble_eq_true rfl, Nat.le_of_ble_eq_true rfl⟩ ⟨rfl, rfl⟩ k0 (Nat.le_of_ble_eq_true rfl) (S_X2_freeCell hb1 w5) ?_
      refine p_istore_n_4_3 e_X2_putAtStart_37 rfl rfl ?_
      refine r_aload_n e_X2_putAtStart_38 rfl ?_
      refine r_iload_n e_X2_putAtStart_39 rfl ?_
      refine r_bipush e_X2_putAtStart_40 bp_15 ?_
      refine r_irem e_X2_putAtStart_42 (by decide) ?_
      refine r_putI e_X2_putAtStart_43 fl_X2_130 (show kd sh (a + 10 + 2 * x1.toNatClampNeg) = some (5 + 7, 0) from (hb1.2.2.2.2.2.2.2.2.1 x1.toNatClampNeg (vp_lt b3)).2.1) ?_
      refine r_aload_n e_X2_putAtStart_46 rfl ?_
      refine r_iload_n e_X2_putAtStart_47 rfl ?_
      refine r_bipush e_X2_putAtStart_48 bp_15 ?_
      refine r_idiv e_X2_putAtStart_50 (by decide) ?_
      refine r_putI e_X2_putAtStart_51 fl_X2_131 (show kd sh (a + 10 + 2 * x1.toNatClampNeg) = some (5 + 7, 0) from (hb1.2.2.2.2.2.2.2.2.1 x1.toNatClampNeg (vp_lt b3)).2.1) ?_
      refine r_aload_n e_X2_putAtStart_54 rfl ?_
      refine r_getR e_X2_putAtStart_55 fl_X2_27 k0 k3 ?_
      refine r_getIe e_X2_putAtStart_58 fl_X2_132 i0 k4 ((gs_nI (by decide)).trans (gs_aI (by omega))) ?_
      refine r_iload_n e_X2_putAtStart_61 rfl ?_
      obtain ⟨M7, q7, h⟩ := bd1_el h
      suffices j7 : WP m_X2_putAtStart _ 80 [none, none, none, none] [] sh M7 0 0 by
        refine r_icmp_ne e_X2_putAtStart_62 (fun c6 => ?_) (fun c6 => ?_)
        · rw [if_neg c6] at q7
          refine d_4_0 ?_
          refine d_4_1 ?_
          refine d_4_2 ?_
          refine d_4_3 ?_
          subst q7; exact j7
        · rw [if_pos c6] at q7
          refine r_aload_n e_X2_putAtStart_65 rfl ?_
          refine r_getR e_X2_putAtStart_66 fl_X2_27 k0 k3 ?_
          refine r_aload_n e_X2_putAtStart_69 rfl ?_
          refine r_getIe e_X2_putAtStart_70 fl_X2_130 i0 (show kd sh (a + 10 + 2 * x1.toNatClampNeg) = some (5 + 7, 0) from (hb1.2.2.2.2.2.2.2.2.1 x1.toNatClampNeg (vp_lt b3)).2.1) ((gs_nI (by decide)).trans gs_eI) ?_
          refine r_aload_n e_X2_putAtStart_73 rfl ?_
          refine r_getIe e_X2_putAtStart_74 fl_X2_131 i0 (show kd sh (a + 10 + 2 * x1.toNatClampNeg) = some (5 + 7, 0) from (hb1.2.2.2.2.2.2.2.2.1 x1.toNatClampNeg (vp_lt b3)).2.1) gs_eI ?_
          refine cV2u e_X2_putAtStart_77 cl_X2_135 ⟨Nat.le_of_ble_eq_true rfl, Nat.le_of_ble_eq_true rfl⟩ ⟨rfl, rfl⟩ k4 (Nat.le_of_ble_eq_true rfl) (S_X0_go hb1.2.2.2.2.2.2.2.2.2.1) ?_
          obtain ⟨M8, e8, q7⟩ := bd1_el q7
          rw [e8]
          refine d_4_0 ?_
          refine d_4_1 ?_
          refine d_4_2 ?_
          refine d_4_3 ?_
          subst q7; exact j7
      refine r_return e_X2_putAtStart_80 rfl ⟨rfl, rfl⟩ ?_
      obtain rfl := Option.some.inj h; exact ⟨rfl, rfl, rfl⟩
    · rw [if_neg c2] at h
      refine r_return e_X2_putAtStart_13 rfl ⟨rfl, rfl⟩ ?_
      obtain rfl := Option.some.inj h; exact ⟨rfl, rfl, rfl⟩
def L_X6_allHold_25 (a : Nat) (x1 : Nat) (x2 : Int32) (x3 : Nat) (n1 : Nat) (w5 : Int32) : Nat → Int32 → Int32 → Mem → Option (Int32 × Mem)
  | 0, _, _, _ => none
  | n + 1, u4, u6, M => if w5 ≤ u6 then (some (u4, M)) else (if u4 = 0 then (some (u4, M)) else (bd1 (V_X10_at (x1 + 6) u6 400 (setI M a 1 ((M.1 a 1) + (1 : Int32)))) (fun v5 => bnd2 (R_X6_work a x1 v5 x3 n1 (setI M a 1 ((M.1 a 1) + (1 : Int32)))) (fun v6 M6 => bnd2 (R_X6_work a x1 (v5 + (1 : Int32)) x3 n1 M6) (fun v7 M7 => bd1 (V_X10_at (x1 + 5) u6 400 M7) (fun v8 => bd1 (if v8 = (29 : Int32) then (if v7 ≤ v6 then (0 : Int32) else (1 : Int32)) else (if v8 = (31 : Int32) then (if v6 ≤ v7 then (0 : Int32) else (1 : Int32)) else (if v6 = v7 then (1 : Int32) else (0 : Int32)))) (fun v10_0 => bd1 (if v10_0 = 0 then (0 : Int32) else (if (80 : Int32) < (M7.1 a 1) then (0 : Int32) else (1 : Int32))) (fun v16_0 => L_X6_allHold_25 a x1 x2 x3 n1 w5 n v16_0 (u6 + 1) M7))))))))
theorem LW_X6_allHold_25 {sh : List SC} {Q : Po} {a : Nat} {x1 : Nat} {x2 : Int32} {x3 : Nat} {n1 : Nat} {w5 : Int32} (hb1 : RunnerAt sh a) (hb2 : ProgramAt sh x1) (g1 : kd sh x3 = some (0, n1)) (g2 : n1 < 2 ^ 31) : ∀ (n : Nat) (u4 : Int32) (u6 : Int32) (M : Mem) (z4 : Int32) (Mz : Mem), L_X6_allHold_25 a x1 x2 x3 n1 w5 n u4 u6 M = some (z4, Mz) → WP m_X6_allHold Q 176 [none, none, none, none, some (.int z4), none, none, none, none, none, none] [] sh Mz 0 0 → WP m_X6_allHold Q 25 [some (.ref a), some (.ref x1), none, some (.ref x3), some (.int u4), some (.int w5), some (.int u6), none, none, none, none] [] sh M 0 0 := by
  intro n
  induction n with
  | zero =>
    intro u4 u6 M z4 Mz h hE
    rw [L_X6_allHold_25] at h
    cases h
  | succ n ih =>
    intro u4 u6 M z4 Mz h hE
    rw [L_X6_allHold_25] at h
    have k0 : kd sh a = some (6 + 7, 0) := hb1.1
    have k1 : kd sh x1 = some (3 + 7, 0) := hb2.1
    have k2 : rf sh x1 8 = some (x1 + 6) := hb2.2.2.2.2.2.2.1
    have k3 : kd sh (x1 + 6) = some (0, 400) := hb2.2.2.2.2.2.2.2.2.2.2.2.2.2.2.2.2.2.2.2.2.1
    have k4 : rf sh x1 7 = some (x1 + 5) := hb2.2.2.2.2.2.1
    have k5 : kd sh (x1 + 5) = some (0, 400) := hb2.2.2.2.2.2.2.2.2.2.2.2.2.2.2.2.2.2.2.2.1
    refine r_iload e_X6_allHold_25 rfl ?_
    refine r_iload e_X6_allHold_27 rfl ?_
    refine r_icmp_ge e_X6_allHold_29 (fun c3 => ?_) (fun c3 => ?_)
    · rw [if_pos c3] at h
      refine d_11_0 ?_
      refine d_11_1 ?_
      refine d_11_3 ?_
      refine d_11_5 ?_
      refine d_11_6 ?_
      obtain ⟨rfl, rfl⟩ := ps2 h; exact hE
    · rw [if_neg c3] at h
      refine r_iload e_X6_allHold_32 rfl ?_
      refine r_if_eq e_X6_allHold_34 (fun c4 => ?_) (fun c4 => ?_)
      · rw [if_pos c4] at h
        refine d_11_0 ?_
        refine d_11_1 ?_
        refine d_11_3 ?_
        refine d_11_5 ?_
        refine d_11_6 ?_
        obtain ⟨rfl, rfl⟩ := ps2 h; exact hE
      · rw [if_neg c4] at h
        refine r_aload_n e_X6_allHold_37 rfl ?_
        refine r_dup e_X6_allHold_38 rfl ?_
        refine r_getI e_X6_allHold_39 fl_X6_15 i0 k0 ?_
        refine r_iconst e_X6_allHold_42 ic_1 ?_
        refine r_iadd e_X6_allHold_43 ?_
        refine r_putI e_X6_allHold_44 fl_X6_15 k0 ?_
        refine r_aload_n e_X6_allHold_47 rfl ?_
        refine r_getR e_X6_allHold_48 fl_X6_58 k1 k2 ?_
        refine r_iload e_X6_allHold_51 rfl ?_
        refine cSN2v e_X6_allHold_53 cl_X6_32 ⟨Nat.le_of_ble_eq_true rfl, Nat.le_of_ble_eq_true rfl⟩ ⟨rfl, rfl⟩  (Nat.le_of_ble_eq_true rfl) (S_X10_at k3 (by decide)) ?_
        obtain ⟨v5, e5, h⟩ := bd1_el h
        rw [e5]
        refine p_istore_11_7 e_X6_allHold_56 rfl rfl ?_
        refine r_aload_n e_X6_allHold_58 rfl ?_
        refine r_aload_n e_X6_allHold_59 rfl ?_
        refine r_iload e_X6_allHold_60 rfl ?_
        refine r_aload_n e_X6_allHold_62 rfl ?_
        obtain ⟨v6, M6, w6, h⟩ := bnd2_el h
        refine cV3v e_X6_allHold_63 cl_X6_61 ⟨Nat.le_of_ble_eq_true rfl, Nat.le_of_ble_eq_true rfl⟩ ⟨rfl, rfl⟩ k0 (Nat.le_of_ble_eq_true rfl) (S_X6_work hb1 hb2 g1 (by with_reducible assumption) w6) ?_
        refine p_istore_11_8 e_X6_allHold_66 rfl rfl ?_
        refine r_aload_n e_X6_allHold_68 rfl ?_
        refine r_aload_n e_X6_allHold_69 rfl ?_
        refine r_iload e_X6_allHold_70 rfl ?_
        refine r_iconst e_X6_allHold_72 ic_1 ?_
        refine r_iadd e_X6_allHold_73 ?_
        refine r_aload_n e_X6_allHold_74 rfl ?_
        obtain ⟨v7, M7, w7, h⟩ := bnd2_el h
        refine cV3v e_X6_allHold_75 cl_X6_61 ⟨Nat.le_of_ble_eq_true rfl, Nat.le_of_ble_eq_true rfl⟩ ⟨rfl, rfl⟩ k0 (Nat.le_of_ble_eq_true rfl) (S_X6_work hb1 hb2 g1 (by with_reducible assumption) w7) ?_
        refine p_istore_11_9 e_X6_allHold_78 rfl rfl ?_
        refine r_aload_n e_X6_allHold_80 rfl ?_
        refine r_getR e_X6_allHold_81 fl_X6_65 k1 k4 ?_
        refine r_iload e_X6_allHold_84 rfl ?_
        refine cSN2v e_X6_allHold_86 cl_X6_32 ⟨Nat.le_of_ble_eq_true rfl, Nat.le_of_ble_eq_true rfl⟩ ⟨rfl, rfl⟩  (Nat.le_of_ble_eq_true rfl) (S_X10_at k5 (by decide)) ?_
        obtain ⟨v8, e8, h⟩ := bd1_el h
        rw [e8]
        refine p_istore_11_10 e_X6_allHold_89 rfl rfl ?_
        refine r_iload e_X6_allHold_91 rfl ?_
        refine r_bipush e_X6_allHold_93 bp_29 ?_
        obtain ⟨v10_0, q10, h⟩ := bd1_el h
        suffices j10 : WP m_X6_allHold _ 147 [some (.ref a), some (.ref x1), none, some (.ref x3), none, some (.int w5), some (.int u6), none, none, none, none] [.int v10_0] sh M7 0 0 by
          refine r_icmp_ne e_X6_allHold_95 (fun c9 => ?_) (fun c9 => ?_)
          · rw [if_neg c9] at q10
            refine r_iload e_X6_allHold_113 rfl ?_
            refine r_bipush e_X6_allHold_115 bp_31 ?_
            refine r_icmp_ne e_X6_allHold_117 (fun c11 => ?_) (fun c11 => ?_)
            · rw [if_neg c11] at q10
              refine r_iload e_X6_allHold_135 rfl ?_
              refine r_iload e_X6_allHold_137 rfl ?_
              refine r_icmp_ne e_X6_allHold_139 (fun c12 => ?_) (fun c12 => ?_)
              · rw [if_neg c12] at q10
                refine r_iconst e_X6_allHold_146 ic_0 ?_
                refine d_11_4 ?_
                refine d_11_7 ?_
                refine d_11_8 ?_
                refine d_11_9 ?_
                refine d_11_10 ?_
                subst q10; exact j10
              · rw [if_pos c12] at q10
                refine r_iconst e_X6_allHold_142 ic_1 ?_
                refine r_goto e_X6_allHold_143 ?_
                refine d_11_4 ?_
                refine d_11_7 ?_
                refine d_11_8 ?_
                refine d_11_9 ?_
                refine d_11_10 ?_
                subst q10; exact j10
            · rw [if_pos c11] at q10
              refine r_iload e_X6_allHold_120 rfl ?_
              refine r_iload e_X6_allHold_122 rfl ?_
              refine r_icmp_le e_X6_allHold_124 (fun c13 => ?_) (fun c13 => ?_)
              · rw [if_pos c13] at q10
                refine r_iconst e_X6_allHold_131 ic_0 ?_
                refine r_goto e_X6_allHold_132 ?_
                refine d_11_4 ?_
                refine d_11_7 ?_
                refine d_11_8 ?_
                refine d_11_9 ?_
                refine d_11_10 ?_
                subst q10; exact j10
              · rw [if_neg c13] at q10
                refine r_iconst e_X6_allHold_127 ic_1 ?_
                refine r_goto e_X6_allHold_128 ?_
                refine d_11_4 ?_
                refine d_11_7 ?_
                refine d_11_8 ?_
                refine d_11_9 ?_
                refine d_11_10 ?_
                subst q10; exact j10
          · rw [if_pos c9] at q10
            refine r_iload e_X6_allHold_98 rfl ?_
            refine r_iload e_X6_allHold_100 rfl ?_
            refine r_icmp_ge e_X6_allHold_102 (fun c14 => ?_) (fun c14 => ?_)
            · rw [if_pos c14] at q10
              refine r_iconst e_X6_allHold_109 ic_0 ?_
              refine r_goto e_X6_allHold_110 ?_
              refine d_11_4 ?_
              refine d_11_7 ?_
              refine d_11_8 ?_
              refine d_11_9 ?_
              refine d_11_10 ?_
              subst q10; exact j10
            · rw [if_neg c14] at q10
              refine r_iconst e_X6_allHold_105 ic_1 ?_
              refine r_goto e_X6_allHold_106 ?_
              refine d_11_4 ?_
              refine d_11_7 ?_
              refine d_11_8 ?_
              refine d_11_9 ?_
              refine d_11_10 ?_
              subst q10; exact j10
        refine p_istore_11_4 e_X6_allHold_147 rfl rfl ?_
        refine r_iload e_X6_allHold_149 rfl ?_
        obtain ⟨v16_0, q16, h⟩ := bd1_el h
        suffices j16 : WP m_X6_allHold _ 168 [some (.ref a), some (.ref x1), none, some (.ref x3), none, some (.int w5), some (.int u6), none, none, none, none] [.int v16_0] sh M7 0 0 by
          refine r_if_eq e_X6_allHold_151 (fun c15 => ?_) (fun c15 => ?_)
          · rw [if_pos c15] at q16
            refine r_iconst e_X6_allHold_167 ic_0 ?_
            refine d_11_4 ?_
            subst q16; exact j16
          · rw [if_neg c15] at q16
            refine r_aload_n e_X6_allHold_154 rfl ?_
            refine r_getI e_X6_allHold_155 fl_X6_15 i0 k0 ?_
            refine r_bipush e_X6_allHold_158 bp_80 ?_
            refine r_icmp_gt e_X6_allHold_160 (fun c17 => ?_) (fun c17 => ?_)
            · rw [if_pos c17] at q16
              refine r_iconst e_X6_allHold_167 ic_0 ?_
              refine d_11_4 ?_
              subst q16; exact j16
            · rw [if_neg c17] at q16
              refine r_iconst e_X6_allHold_163 ic_1 ?_
              refine r_goto e_X6_allHold_164 ?_
              refine d_11_4 ?_
              subst q16; exact j16
        refine p_istore_11_4 e_X6_allHold_168 rfl rfl ?_
        refine p_iinc_11_6 e_X6_allHold_170 rfl ic_1 rfl ?_
        refine r_goto e_X6_allHold_173 ?_
        exact ih _ _ _ _ _ h hE
def R_X6_allHold (a : Nat) (x1 : Nat) (x2 : Int32) (x3 : Nat) (n1 : Nat) (M : Mem) : Option (Int32 × Mem) := bd1 (V_X10_at (x1 + 3) (x2 + (1 : Int32)) 97 M) (fun v1 => bd1 (V_X10_at (x1 + 3) x2 97 M) (fun v2 => bnd2 (L_X6_allHold_25 a x1 x2 x3 n1 v1 FUEL (1 : Int32) v2 M) (fun v18_0 M18 => cz v18_0 (some (v18_0, M18)))))
theorem S_X6_allHold {sh : List SC} {M : Mem} {a : Nat} {x1 : Nat} {x2 : Int32} {x3 : Nat} {n1 : Nat} {v' : Int32} {M' : Mem} (hb1 : RunnerAt sh a) (hb2 : ProgramAt sh x1) (g1 : kd sh x3 = some (0, n1)) (g2 : n1 < 2 ^ 31) (h : R_X6_allHold a x1 x2 x3 n1 M = some (v', M')) : Gv m_X6_allHold [.ref a, .ref x1, .int x2, .ref x3] sh M (.int v') M' := by
  refine Sp.of (ls := [some (.ref a), some (.ref x1), some (.int x2), some (.ref x3), none, none, none, none, none, none, none]) (by decide +kernel) (Nat.le_of_ble_eq_true rfl) rfl ?_
  have k0 : kd sh x1 = some (3 + 7, 0) := hb2.1
  have k1 : rf sh x1 4 = some (x1 + 3) := hb2.2.2.2.1
  have k2 : kd sh (x1 + 3) = some (0, 97) := hb2.2.2.2.2.2.2.2.2.2.2.2.2.2.2.2.2.2.1
  unfold R_X6_allHold at h
  refine r_iconst e_X6_allHold_0 ic_1 ?_
  refine p_istore_11_4 e_X6_allHold_1 rfl rfl ?_
  refine r_aload_n e_X6_allHold_3 rfl ?_
  refine r_getR e_X6_allHold_4 fl_X6_55 k0 k1 ?_
  refine r_iload_n e_X6_allHold_7 rfl ?_
  refine r_iconst e_X6_allHold_8 ic_1 ?_
  refine r_iadd e_X6_allHold_9 ?_
  refine cSN2v e_X6_allHold_10 cl_X6_32 ⟨Nat.le_of_ble_eq_true rfl, Nat.le_of_ble_eq_true rfl⟩ ⟨rfl, rfl⟩  (Nat.le_of_ble_eq_true rfl) (S_X10_at k2 (by decide)) ?_
  obtain ⟨v1, e1, h⟩ := bd1_el h
  rw [e1]
  refine p_istore_11_5 e_X6_allHold_13 rfl rfl ?_
  refine r_aload_n e_X6_allHold_15 rfl ?_
  refine r_getR e_X6_allHold_16 fl_X6_55 k0 k1 ?_
  refine r_iload_n e_X6_allHold_19 rfl ?_
  refine cSN2v e_X6_allHold_20 cl_X6_32 ⟨Nat.le_of_ble_eq_true rfl, Nat.le_of_ble_eq_true rfl⟩ ⟨rfl, rfl⟩  (Nat.le_of_ble_eq_true rfl) (S_X10_at k2 (by decide)) ?_
  obtain ⟨v2, e2, h⟩ := bd1_el h
  rw [e2]
  refine p_istore_11_6 e_X6_allHold_23 rfl rfl ?_
  refine d_11_2 ?_
  obtain ⟨v18_0, M18, w18, h⟩ := bnd2_el h
  refine LW_X6_allHold_25 hb1 hb2 g1 g2 _ _ _ _ _ _ w18 ?_
  refine r_iload e_X6_allHold_176 rfl ?_
  obtain ⟨b19, h⟩ := cz_el h
  refine r_zreturn e_X6_allHold_178 rfl ⟨rfl, rfl⟩ b19 ?_
  obtain ⟨rfl, rfl⟩ := ps2 h; exact ⟨rfl, rfl, rfl⟩
