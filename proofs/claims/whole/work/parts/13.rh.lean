def L_X6_doActs_22 (a : Nat) (x1 : Nat) (x2 : Int32) (x3 : Nat) (w4 : Int32) : Nat → Int32 → Mem → Option ((Int32 × Mem) ⊕ (Mem))
  | 0, _, _ => none
  | n + 1, u5, M => if w4 ≤ u5 then (some (.inr M)) else (if (400 : Int32) ≤ u5 then (some (.inr M)) else (if (80 : Int32) < (M.1 a 1) then (some (.inr M)) else (ck u5 400 (bd1 (M.1 (x1 + 7) u5.toNatClampNeg) (fun v19 => ck u5 400 (bd1 (M.1 (x1 + 9) u5.toNatClampNeg) (fun v21 => ck u5 400 (bd1 ((M.2 (x1 + 8) u5.toNatClampNeg).toInt32) (fun v23 => if v19 = (3 : Int32) then (L_X6_doActs_22 a x1 x2 x3 w4 n (u5 + 1) (setI (setI M a 1 ((M.1 a 1) + (1 : Int32))) a 2 v23)) else (if v19 = (4 : Int32) then (bnd2 (R_X6_work a x1 v21 (x3 + 1) 4 (setI M a 1 ((M.1 a 1) + (1 : Int32)))) (fun v27 M27 => bd1 (if (80 : Int32) < (M27.1 a 1) then M27 else (U_X10_put (x3 + 1) v23 v27 4 M27)) (fun M29 => L_X6_doActs_22 a x1 x2 x3 w4 n (u5 + 1) M29))) else (bnd1 (R_X6_command a x1 v19 v21 x3 (setI M a 1 ((M.1 a 1) + (1 : Int32)))) (fun M26 => some (.inl ((1 : Int32), M26))))))))))))))
theorem LW_X6_doActs_22 {sh : List SC} {Q : Po} {a : Nat} {x1 : Nat} {x2 : Int32} {x3 : Nat}  {w4 : Int32} (hb1 : RunnerAt sh a) (hb2 : ProgramAt sh x1) (hb3 : RobotAt sh x3)  : ∀ (n : Nat) (u5 : Int32) (M : Mem) (q : (Int32 × Mem) ⊕ (Mem)), L_X6_doActs_22 a x1 x2 x3 w4 n u5 M = some q → (∀ x, q = .inl x → Q (some (.int x.1)) sh x.2) → (∀ Mz, q = .inr Mz → WP m_X6_doActs Q 161 [none, none, none, none, none, none, none, none, none, none] [] sh Mz 0 0) → WP m_X6_doActs Q 22 [some (.ref a), some (.ref x1), none, some (.ref x3), some (.int w4), some (.int u5), none, none, none, none] [] sh M 0 0 := by
  intro n
  induction n with
  | zero =>
    intro u5 M q h hR hE
    rw [L_X6_doActs_22] at h
    cases h
  | succ n ih =>
    intro u5 M q h hR hE
    rw [L_X6_doActs_22] at h
    have k0 : kd sh x1 = some (3 + 7, 0) := hb2.1
    have k1 : rf sh x1 11 = some (x1 + 8) := hb2.2.2.2.2.2.2.2.2.1
    have k2 : kd sh (x1 + 8) = some (1, 400) := hb2.2.2.2.2.2.2.2.2.2.2.2.2.2.2.2.2.2.2.2.2.2.2.1
    have k3 : kd sh a = some (6 + 7, 0) := hb1.1
    have k4 : rf sh x1 10 = some (x1 + 7) := hb2.2.2.2.2.2.2.2.1
    have k5 : kd sh (x1 + 7) = some (0, 400) := hb2.2.2.2.2.2.2.2.2.2.2.2.2.2.2.2.2.2.2.2.2.2.1
    have k6 : rf sh x1 12 = some (x1 + 9) := hb2.2.2.2.2.2.2.2.2.2.1
    have k7 : kd sh (x1 + 9) = some (0, 400) := hb2.2.2.2.2.2.2.2.2.2.2.2.2.2.2.2.2.2.2.2.2.2.2.2.1
    have k8 : kd sh x3 = some (5 + 7, 0) := hb3.1
    have k9 : rf sh x3 9 = some (x3 + 1) := hb3.2.1
    have k10 : kd sh (x3 + 1) = some (0, 4) := hb3.2.2
    refine r_iload e_X6_doActs_22 rfl ?_
    refine r_iload e_X6_doActs_24 rfl ?_
    refine r_icmp_ge e_X6_doActs_26 (fun c15 => ?_) (fun c15 => ?_)
    · rw [if_pos c15] at h
      refine d_10_0 ?_
      refine d_10_1 ?_
      refine d_10_3 ?_
      refine d_10_4 ?_
      refine d_10_5 ?_
      exact hE _ (Option.some.inj h).symm
    · rw [if_neg c15] at h
      refine r_iload e_X6_doActs_29 rfl ?_
      refine r_aload_n e_X6_doActs_31 rfl ?_
      refine r_getR e_X6_doActs_32 fl_X6_73 k0 k1 ?_
      refine r_alen (v := (400 : Int32)) e_X6_doActs_35 k2 (by decide) rfl ?_
      refine r_icmp_ge e_X6_doActs_36 (fun c16 => ?_) (fun c16 => ?_)
      · rw [if_pos c16] at h
        refine d_10_0 ?_
        refine d_10_1 ?_
        refine d_10_3 ?_
        refine d_10_4 ?_
        refine d_10_5 ?_
        exact hE _ (Option.some.inj h).symm
      · rw [if_neg c16] at h
        refine r_aload_n e_X6_doActs_39 rfl ?_
        refine r_getI e_X6_doActs_40 fl_X6_15 i0 k3 ?_
        refine r_bipush e_X6_doActs_43 bp_80 ?_
        refine r_icmp_gt e_X6_doActs_45 (fun c17 => ?_) (fun c17 => ?_)
        · rw [if_pos c17] at h
          refine d_10_0 ?_
          refine d_10_1 ?_
          refine d_10_3 ?_
          refine d_10_4 ?_
          refine d_10_5 ?_
          exact hE _ (Option.some.inj h).symm
        · rw [if_neg c17] at h
          refine r_aload_n e_X6_doActs_48 rfl ?_
          refine r_dup e_X6_doActs_49 rfl ?_
          refine r_getI e_X6_doActs_50 fl_X6_15 i0 k3 ?_
          refine r_iconst e_X6_doActs_53 ic_1 ?_
          refine r_iadd e_X6_doActs_54 ?_
          refine r_putI e_X6_doActs_55 fl_X6_15 k3 ?_
          refine r_aload_n e_X6_doActs_58 rfl ?_
          refine r_getR e_X6_doActs_59 fl_X6_77 k0 k4 ?_
          refine r_iload e_X6_doActs_62 rfl ?_
          obtain ⟨b18, h⟩ := ck_el h
          refine r_ialoade (v := (M.1 (x1 + 7) u5.toNatClampNeg)) e_X6_doActs_64 k5 b18 (gs_aI (ne_kd k5 k3 (by decide))) ?_
          obtain ⟨v19, e19, h⟩ := bd1_el h
          rw [e19]
          refine p_istore_10_6 e_X6_doActs_65 rfl rfl ?_
          refine r_aload_n e_X6_doActs_67 rfl ?_
          refine r_getR e_X6_doActs_68 fl_X6_80 k0 k6 ?_
          refine r_iload e_X6_doActs_71 rfl ?_
          obtain ⟨b20, h⟩ := ck_el h
          refine r_ialoade (v := (M.1 (x1 + 9) u5.toNatClampNeg)) e_X6_doActs_73 k7 b20 (gs_aI (ne_kd k7 k3 (by decide))) ?_
          obtain ⟨v21, e21, h⟩ := bd1_el h
          rw [e21]
          refine p_istore_10_7 e_X6_doActs_74 rfl rfl ?_
          refine r_aload_n e_X6_doActs_76 rfl ?_
          refine r_getR e_X6_doActs_77 fl_X6_73 k0 k1 ?_
          refine r_iload e_X6_doActs_80 rfl ?_
          obtain ⟨b22, h⟩ := ck_el h
          refine r_laloade (v := (M.2 (x1 + 8) u5.toNatClampNeg)) e_X6_doActs_82 k2 b22 gs_k2 ?_
          refine r_l2i e_X6_doActs_83 ?_
          obtain ⟨v23, e23, h⟩ := bd1_el h
          rw [e23]
          refine p_istore_10_8 e_X6_doActs_84 rfl rfl ?_
          refine r_iload e_X6_doActs_86 rfl ?_
          refine r_iconst e_X6_doActs_88 ic_3 ?_
          refine r_icmp_ne e_X6_doActs_89 (fun c24 => ?_) (fun c24 => ?_)
          · rw [if_neg c24] at h
            refine r_iload e_X6_doActs_101 rfl ?_
            refine r_iconst e_X6_doActs_103 ic_4 ?_
            refine r_icmp_ne e_X6_doActs_104 (fun c25 => ?_) (fun c25 => ?_)
            · rw [if_neg c25] at h
              refine r_aload_n e_X6_doActs_143 rfl ?_
              refine r_aload_n e_X6_doActs_144 rfl ?_
              refine r_iload e_X6_doActs_145 rfl ?_
              refine r_iload e_X6_doActs_147 rfl ?_
              refine r_aload_n e_X6_doActs_149 rfl ?_
              obtain ⟨M26, w26, h⟩ := bnd1_el h
              refine cV4u e_X6_doActs_150 cl_X6_87 ⟨Nat.le_of_ble_eq_true rfl, Nat.le_of_ble_eq_true rfl⟩ ⟨rfl, rfl⟩ k3 (Nat.le_of_ble_eq_true rfl) (S_X6_command hb1 hb2 hb3 w26) ?_
              refine r_iconst e_X6_doActs_153 ic_1 ?_
              refine r_zreturn e_X6_doActs_154 rfl ⟨rfl, rfl⟩ (by first | exact Or.inl rfl | exact Or.inr rfl) ?_
              exact hR _ (Option.some.inj h).symm
            · rw [if_pos c25] at h
              refine r_aload_n e_X6_doActs_107 rfl ?_
              refine r_aload_n e_X6_doActs_108 rfl ?_
              refine r_iload e_X6_doActs_109 rfl ?_
              refine r_aload_n e_X6_doActs_111 rfl ?_
              refine r_getR e_X6_doActs_112 fl_X6_36 k8 k9 ?_
              obtain ⟨v27, M27, w27, h⟩ := bnd2_el h
              refine cV3v e_X6_doActs_115 cl_X6_61 ⟨Nat.le_of_ble_eq_true rfl, Nat.le_of_ble_eq_true rfl⟩ ⟨rfl, rfl⟩ k3 (Nat.le_of_ble_eq_true rfl) (S_X6_work hb1 hb2 k10 (by decide) w27) ?_
              refine p_istore_10_9 e_X6_doActs_118 rfl rfl ?_
              refine r_aload_n e_X6_doActs_120 rfl ?_
              refine r_getI e_X6_doActs_121 fl_X6_15 i0 k3 ?_
              refine r_bipush e_X6_doActs_124 bp_80 ?_
              obtain ⟨M29, q29, h⟩ := bd1_el h
              suffices j29 : WP m_X6_doActs _ 140 [some (.ref a), some (.ref x1), none, some (.ref x3), some (.int w4), some (.int u5), none, none, none, none] [] sh M29 0 0 by
                refine r_icmp_gt e_X6_doActs_126 (fun c28 => ?_) (fun c28 => ?_)
                · rw [if_pos c28] at q29
                  refine d_10_6 ?_
                  refine d_10_7 ?_
                  refine d_10_8 ?_
                  refine d_10_9 ?_
                  subst q29; exact j29
                · rw [if_neg c28] at q29
                  refine r_aload_n e_X6_doActs_129 rfl ?_
                  refine r_getR e_X6_doActs_130 fl_X6_36 k8 k9 ?_
                  refine r_iload e_X6_doActs_133 rfl ?_
                  refine r_iload e_X6_doActs_135 rfl ?_
                  refine cSN3u e_X6_doActs_137 cl_X6_83 ⟨Nat.le_of_ble_eq_true rfl, Nat.le_of_ble_eq_true rfl⟩ ⟨rfl, rfl⟩  (Nat.le_of_ble_eq_true rfl) (S_X10_put k10 (by decide)) ?_
                  refine d_10_6 ?_
                  refine d_10_7 ?_
                  refine d_10_8 ?_
                  refine d_10_9 ?_
                  subst q29; exact j29
              refine r_goto e_X6_doActs_140 ?_
              refine p_iinc_10_5 e_X6_doActs_155 rfl ic_1 rfl ?_
              refine r_goto e_X6_doActs_158 ?_
              exact ih _ _ _ h hR hE
          · rw [if_pos c24] at h
            refine r_aload_n e_X6_doActs_92 rfl ?_
            refine r_iload e_X6_doActs_93 rfl ?_
            refine r_putI e_X6_doActs_95 fl_X6_19 k3 ?_
            refine r_goto e_X6_doActs_98 ?_
            refine p_iinc_10_5 e_X6_doActs_155 rfl ic_1 rfl ?_
            refine r_goto e_X6_doActs_158 ?_
            refine d_10_6 ?_
            refine d_10_7 ?_
            refine d_10_8 ?_
            exact ih _ _ _ h hR hE
def R_X6_doActs (a : Nat) (x1 : Nat) (x2 : Int32) (x3 : Nat) (M : Mem) : Option (Int32 × Mem) := bd1 (V_X10_at (x1 + 4) (x2 + (1 : Int32)) 97 M) (fun v1 => bd1 (V_X10_at (x1 + 4) x2 97 M) (fun v2 => br1 (L_X6_doActs_22 a x1 x2 x3 v1 FUEL v2 M) (fun M30 => some ((0 : Int32), M30))))
theorem S_X6_doActs {sh : List SC} {M : Mem} {a : Nat} {x1 : Nat} {x2 : Int32} {x3 : Nat}  {v' : Int32} {M' : Mem} (hb1 : RunnerAt sh a) (hb2 : ProgramAt sh x1) (hb3 : RobotAt sh x3)  (h : R_X6_doActs a x1 x2 x3 M = some (v', M')) : Gv m_X6_doActs [.ref a, .ref x1, .int x2, .ref x3] sh M (.int v') M' := by
  refine Sp.of (ls := [some (.ref a), some (.ref x1), some (.int x2), some (.ref x3), none, none, none, none, none, none]) (by decide +kernel) (Nat.le_of_ble_eq_true rfl) rfl ?_
  have k0 : kd sh x1 = some (3 + 7, 0) := hb2.1
  have k1 : rf sh x1 5 = some (x1 + 4) := hb2.2.2.2.2.1
  have k2 : kd sh (x1 + 4) = some (0, 97) := hb2.2.2.2.2.2.2.2.2.2.2.2.2.2.2.2.2.2.2.1
  unfold R_X6_doActs at h
  refine r_aload_n e_X6_doActs_0 rfl ?_
  refine r_getR e_X6_doActs_1 fl_X6_70 k0 k1 ?_
  refine r_iload_n e_X6_doActs_4 rfl ?_
  refine r_iconst e_X6_doActs_5 ic_1 ?_
  refine r_iadd e_X6_doActs_6 ?_
  refine cSN2v e_X6_doActs_7 cl_X6_32 ⟨Nat.le_of_ble_eq_true rfl, Nat.le_of_ble_eq_true rfl⟩ ⟨rfl, rfl⟩  (Nat.le_of_ble_eq_true rfl) (S_X10_at k2 (by decide)) ?_
  obtain ⟨v1, e1, h⟩ := bd1_el h
  rw [e1]
  refine p_istore_10_4 e_X6_doActs_10 rfl rfl ?_
  refine r_aload_n e_X6_doActs_12 rfl ?_
  refine r_getR e_X6_doActs_13 fl_X6_70 k0 k1 ?_
  refine r_iload_n e_X6_doActs_16 rfl ?_
  refine cSN2v e_X6_doActs_17 cl_X6_32 ⟨Nat.le_of_ble_eq_true rfl, Nat.le_of_ble_eq_true rfl⟩ ⟨rfl, rfl⟩  (Nat.le_of_ble_eq_true rfl) (S_X10_at k2 (by decide)) ?_
  obtain ⟨v2, e2, h⟩ := bd1_el h
  rw [e2]
  refine p_istore_10_5 e_X6_doActs_20 rfl rfl ?_
  refine d_10_2 ?_
  obtain ⟨q30, w30, l30, r30⟩ := br1_el h
  refine LW_X6_doActs_22 hb1 hb2 hb3 _ _ _ _ w30 (fun x30 y30 => ?_) (fun M30 y30 => ?_)
  · have h := l30 _ y30
    obtain ⟨rfl, rfl⟩ := ps2 h; exact ⟨rfl, rfl, rfl⟩
  have h := r30 _ y30
  refine r_iconst e_X6_doActs_161 ic_0 ?_
  refine r_zreturn e_X6_doActs_162 rfl ⟨rfl, rfl⟩ (by first | exact Or.inl rfl | exact Or.inr rfl) ?_
  obtain ⟨rfl, rfl⟩ := ps2 h; exact ⟨rfl, rfl, rfl⟩
def R_X2_doCommand (a : Nat) (x1 : Int32) (M : Mem) : Option (Mem) := if x1 < 0 then (some M) else (if x1 < (10 : Int32) then (ck x1 10 (br1 (if (M.1 (a + 10 + 2 * x1.toNatClampNeg) 15) = 0 then (if (M.1 (a + 10 + 2 * x1.toNatClampNeg) 16) = 0 then (some (.inl M)) else (some (.inr ()))) else (some (.inr ()))) (fun u9 => bnd1 (if (M.1 (a + 10 + 2 * x1.toNatClampNeg) 14) = (1 : Int32) then (bnd1 (R_X2_move a (a + 10 + 2 * x1.toNatClampNeg) x1 M) (fun M20 => (some M20))) else (if (M.1 (a + 10 + 2 * x1.toNatClampNeg) 14) = (2 : Int32) then (if (M.1 (a + 4) 2) = x1 then (bd1 (U_X0_free (a + 4) (M.1 (a + 10 + 2 * x1.toNatClampNeg) 15) (M.1 (a + 10 + 2 * x1.toNatClampNeg) 16) (M.1 (a + 10 + 2 * x1.toNatClampNeg) 17) M) (fun M19 => (some M19))) else (some M)) else (some M))) (fun M16 => some M16)))) else (some M))
theorem S_X2_doCommand {sh : List SC} {M : Mem} {a : Nat} {x1 : Int32}  {M' : Mem} (hb1 : MatchAt sh a)  (h : R_X2_doCommand a x1 M = some M') : Gu m_X2_doCommand [.ref a, .int x1] sh M M' := by
  refine Sp.of (ls := [some (.ref a), some (.int x1), none]) (by decide +kernel) (Nat.le_of_ble_eq_true rfl) rfl ?_
  have k0 : kd sh a = some (2 + 7, 0) := hb1.1
  have k1 : rf sh a 3 = some (a + 3) := hb1.2.2.2.2.1
  have k2 : kd sh (a + 3) = some (6, 10) := hb1.2.2.2.2.2.2.2.1
  have k3 : rf sh a 4 = some (a + 4) := hb1.2.2.2.2.2.1
  have k4 : kd sh (a + 4) = some (0 + 7, 0) := hb1.2.2.2.2.2.2.2.2.2.1.1
  unfold R_X2_doCommand at h
  refine r_iload_n e_X2_doCommand_0 rfl ?_
  refine r_if_lt e_X2_doCommand_1 (fun c1 => ?_) (fun c1 => ?_)
  · rw [if_pos c1] at h
    refine r_return e_X2_doCommand_13 rfl ⟨rfl, rfl⟩ ?_
    obtain rfl := Option.some.inj h; exact ⟨rfl, rfl, rfl⟩
  · rw [if_neg c1] at h
    refine r_iload_n e_X2_doCommand_4 rfl ?_
    refine r_aload_n e_X2_doCommand_5 rfl ?_
    refine r_getR e_X2_doCommand_6 fl_X2_20 k0 k1 ?_
    refine r_alen (v := (10 : Int32)) e_X2_doCommand_9 k2 (by decide) rfl ?_
    refine r_icmp_lt e_X2_doCommand_10 (fun c2 => ?_) (fun c2 => ?_)
    · rw [if_pos c2] at h
      refine r_aload_n e_X2_doCommand_14 rfl ?_
      refine r_getR e_X2_doCommand_15 fl_X2_20 k0 k1 ?_
      refine r_iload_n e_X2_doCommand_18 rfl ?_
      obtain ⟨b3, h⟩ := ck_el h
      refine r_aaload (b := (a + 10 + 2 * x1.toNatClampNeg)) e_X2_doCommand_19 k2 ⟨by decide, by decide⟩ b3 (hb1.2.2.2.2.2.2.2.2.1 x1.toNatClampNeg (vp_lt b3)).1 ?_
      refine p_astore_n_3_2 e_X2_doCommand_20 rfl rfl ?_
      refine r_aload_n e_X2_doCommand_21 rfl ?_
      refine r_getI e_X2_doCommand_22 fl_X2_213 i0 (show kd sh (a + 10 + 2 * x1.toNatClampNeg) = some (5 + 7, 0) from (hb1.2.2.2.2.2.2.2.2.1 x1.toNatClampNeg (vp_lt b3)).2.1) ?_
      obtain ⟨K9, hK9, hL9, h⟩ := br1_in h
      suffices j9 : ∀ u9, K9 (.inr u9) = some M' → WP m_X2_doCommand _ 36 [some (.ref a), some (.int x1), some (.ref (a + 10 + 2 * x1.toNatClampNeg))] [] sh M 0 0 by
        refine r_if_ne e_X2_doCommand_25 (fun c4 => ?_) (fun c4 => ?_)
        · rw [if_neg c4] at h
          exact j9 _ h
        · rw [if_pos c4] at h
          refine r_aload_n e_X2_doCommand_28 rfl ?_
          refine r_getI e_X2_doCommand_29 fl_X2_216 i0 (show kd sh (a + 10 + 2 * x1.toNatClampNeg) = some (5 + 7, 0) from (hb1.2.2.2.2.2.2.2.2.1 x1.toNatClampNeg (vp_lt b3)).2.1) ?_
          refine r_if_ne e_X2_doCommand_32 (fun c10 => ?_) (fun c10 => ?_)
          · rw [if_neg c10] at h
            exact j9 _ h
          · rw [if_pos c10] at h
            refine r_return e_X2_doCommand_35 rfl ⟨rfl, rfl⟩ ?_
            have h := (hL9 _).symm.trans h
            obtain rfl := Option.some.inj h; exact ⟨rfl, rfl, rfl⟩
      intro u9 h
      rw [hK9] at h
      refine r_aload_n e_X2_doCommand_36 rfl ?_
      refine r_getI e_X2_doCommand_37 fl_X2_219 i0 (show kd sh (a + 10 + 2 * x1.toNatClampNeg) = some (5 + 7, 0) from (hb1.2.2.2.2.2.2.2.2.1 x1.toNatClampNeg (vp_lt b3)).2.1) ?_
      refine r_iconst e_X2_doCommand_40 ic_1 ?_
      obtain ⟨K16, hK16, h⟩ := bnd1_in h
      suffices j16 : ∀ M16, K16 M16 = some M' → WP m_X2_doCommand _ 91 [none, none, none] [] sh M16 0 0 by
        refine r_icmp_ne e_X2_doCommand_41 (fun c11 => ?_) (fun c11 => ?_)
        · rw [if_neg c11] at h
          refine r_aload_n e_X2_doCommand_53 rfl ?_
          refine r_getI e_X2_doCommand_54 fl_X2_219 i0 (show kd sh (a + 10 + 2 * x1.toNatClampNeg) = some (5 + 7, 0) from (hb1.2.2.2.2.2.2.2.2.1 x1.toNatClampNeg (vp_lt b3)).2.1) ?_
          refine r_iconst e_X2_doCommand_57 ic_2 ?_
          refine r_icmp_ne e_X2_doCommand_58 (fun c17 => ?_) (fun c17 => ?_)
          · rw [if_neg c17] at h
            refine d_3_0 ?_
            refine d_3_1 ?_
            refine d_3_2 ?_
            exact j16 _ h
          · rw [if_pos c17] at h
            refine r_aload_n e_X2_doCommand_61 rfl ?_
            refine r_getR e_X2_doCommand_62 fl_X2_27 k0 k3 ?_
            refine r_getI e_X2_doCommand_65 fl_X2_132 i0 k4 ?_
            refine r_iload_n e_X2_doCommand_68 rfl ?_
            refine r_icmp_ne e_X2_doCommand_69 (fun c18 => ?_) (fun c18 => ?_)
            · rw [if_neg c18] at h
              refine d_3_0 ?_
              refine d_3_1 ?_
              refine d_3_2 ?_
              exact j16 _ h
            · rw [if_pos c18] at h
              refine r_aload_n e_X2_doCommand_72 rfl ?_
              refine r_getR e_X2_doCommand_73 fl_X2_27 k0 k3 ?_
              refine r_aload_n e_X2_doCommand_76 rfl ?_
              refine r_getI e_X2_doCommand_77 fl_X2_213 i0 (show kd sh (a + 10 + 2 * x1.toNatClampNeg) = some (5 + 7, 0) from (hb1.2.2.2.2.2.2.2.2.1 x1.toNatClampNeg (vp_lt b3)).2.1) ?_
              refine r_aload_n e_X2_doCommand_80 rfl ?_
              refine r_getI e_X2_doCommand_81 fl_X2_216 i0 (show kd sh (a + 10 + 2 * x1.toNatClampNeg) = some (5 + 7, 0) from (hb1.2.2.2.2.2.2.2.2.1 x1.toNatClampNeg (vp_lt b3)).2.1) ?_
              refine r_aload_n e_X2_doCommand_84 rfl ?_
              refine r_getI e_X2_doCommand_85 fl_X2_225 i0 (show kd sh (a + 10 + 2 * x1.toNatClampNeg) = some (5 + 7, 0) from (hb1.2.2.2.2.2.2.2.2.1 x1.toNatClampNeg (vp_lt b3)).2.1) ?_
              refine cV3u e_X2_doCommand_88 cl_X2_228 ⟨Nat.le_of_ble_eq_true rfl, Nat.le_of_ble_eq_true rfl⟩ ⟨rfl, rfl⟩ k4 (Nat.le_of_ble_eq_true rfl) (S_X0_free hb1.2.2.2.2.2.2.2.2.2.1) ?_
              obtain ⟨M19, e19, h⟩ := bd1_elK h
              rw [e19]
              refine d_3_0 ?_
              refine d_3_1 ?_
              refine d_3_2 ?_
              exact j16 _ h
        · rw [if_pos c11] at h
          refine r_aload_n e_X2_doCommand_44 rfl ?_
          refine r_aload_n e_X2_doCommand_45 rfl ?_
          refine r_iload_n e_X2_doCommand_46 rfl ?_
          obtain ⟨M20, w20, h⟩ := bnd1_elK h
          refine cV2u e_X2_doCommand_47 cl_X2_222 ⟨Nat.le_of_ble_eq_true rfl, Nat.le_of_ble_eq_true rfl⟩ ⟨rfl, rfl⟩ k0 (Nat.le_of_ble_eq_true rfl) (S_X2_move hb1 (hb1.2.2.2.2.2.2.2.2.1 x1.toNatClampNeg (vp_lt b3)).2 w20) ?_
          refine r_goto e_X2_doCommand_50 ?_
          refine d_3_0 ?_
          refine d_3_1 ?_
          refine d_3_2 ?_
          exact j16 _ h
      intro M16 h
      rw [hK16] at h
      refine r_return e_X2_doCommand_91 rfl ⟨rfl, rfl⟩ ?_
      obtain rfl := Option.some.inj h; exact ⟨rfl, rfl, rfl⟩
    · rw [if_neg c2] at h
      refine r_return e_X2_doCommand_13 rfl ⟨rfl, rfl⟩ ?_
      obtain rfl := Option.some.inj h; exact ⟨rfl, rfl, rfl⟩
def L_X2_thinsCrowd_7 (a : Nat) (x1 : Int32) : Nat → Nat → Int32 → Int32 → Mem → Option (Int32 × Int32)
  | 0, i7, u2, u3, M => some (u2, u3)
  | n + 1, i7, u2, u3, M => bd2 (if (M.1 (a + 10 + 2 * i7) 1) = x1 then (if (2 : Int32) < (V_X5_seenX (a + 10 + 2 * i7) (M.1 (a + 10 + 2 * i7) 2) M) then (u2, u3) else ((u2 + 1), (nI i7))) else (u2, u3)) (fun v2_0 v2_1 => L_X2_thinsCrowd_7 a x1 n (i7 + 1) v2_0 v2_1 M)
theorem LW_X2_thinsCrowd_7 {sh : List SC} {Q : Po} {a : Nat} {x1 : Int32}   (hb1 : MatchAt sh a)  : ∀ (n i7 : Nat) (u2 : Int32) (u3 : Int32) (M : Mem) (z2 : Int32) (z3 : Int32), i7 + n = 10 → L_X2_thinsCrowd_7 a x1 n i7 u2 u3 M = some (z2, z3) → WP m_X2_thinsCrowd Q 67 [some (.ref a), none, some (.int z2), some (.int z3), none] [] sh M 0 0 → WP m_X2_thinsCrowd Q 7 [some (.ref a), some (.int x1), some (.int u2), some (.int u3), some (.int (nI i7))] [] sh M 0 0 := by
  intro n
  induction n with
  | zero =>
    intro i7 u2 u3 M z2 z3 hi h hE
    rw [L_X2_thinsCrowd_7] at h
    have hz : (10 : Int32) ≤ nI i7 := by
      have q : i7 = 10 := by omega
      rw [q]; exact nI_le (Nat.le_refl _) (by decide)
    have k0 : kd sh a = some (2 + 7, 0) := hb1.1
    have k1 : rf sh a 3 = some (a + 3) := hb1.2.2.2.2.1
    have k2 : kd sh (a + 3) = some (6, 10) := hb1.2.2.2.2.2.2.2.1
    refine r_iload e_X2_thinsCrowd_7 rfl ?_
    refine r_aload_n e_X2_thinsCrowd_9 rfl ?_
    refine r_getR e_X2_thinsCrowd_10 fl_X2_20 k0 k1 ?_
    refine r_alen (v := (10 : Int32)) e_X2_thinsCrowd_13 k2 (by decide) rfl ?_
    refine r_icmp_ge e_X2_thinsCrowd_14 (fun _ => ?_) (fun hh => absurd hz hh)
    refine d_5_1 ?_
    refine d_5_4 ?_
    obtain ⟨rfl, rfl⟩ := ps2 h; exact hE
  | succ n ih =>
    intro i7 u2 u3 M z2 z3 hi h hE
    rw [L_X2_thinsCrowd_7] at h
    have hlt_i7 : i7 < 10 := by omega
    have hcl_i7 : (nI i7).toNatClampNeg = i7 := nI_clamp (by omega)
    have hs : ¬ (10 : Int32) ≤ nI i7 := nI_ge (b := 10) hlt_i7 (by decide)
    have k0 : kd sh a = some (2 + 7, 0) := hb1.1
    have k1 : rf sh a 3 = some (a + 3) := hb1.2.2.2.2.1
    have k2 : kd sh (a + 3) = some (6, 10) := hb1.2.2.2.2.2.2.2.1
    refine r_iload e_X2_thinsCrowd_7 rfl ?_
    refine r_aload_n e_X2_thinsCrowd_9 rfl ?_
    refine r_getR e_X2_thinsCrowd_10 fl_X2_20 k0 k1 ?_
    refine r_alen (v := (10 : Int32)) e_X2_thinsCrowd_13 k2 (by decide) rfl ?_
    refine r_icmp_ge e_X2_thinsCrowd_14 (fun hh => absurd hh hs) (fun _ => ?_)
    refine r_aload_n e_X2_thinsCrowd_17 rfl ?_
    refine r_getR e_X2_thinsCrowd_18 fl_X2_20 k0 k1 ?_
    refine r_iload e_X2_thinsCrowd_21 rfl ?_
    refine r_aaload (b := (a + 10 + 2 * i7)) e_X2_thinsCrowd_23 k2 ⟨by decide, by decide⟩ (vp_in_nI (Nat.lt_of_lt_of_le hlt_i7 (by decide)) (by decide)) (by rw [hcl_i7]; exact (hb1.2.2.2.2.2.2.2.2.1 i7 (Nat.lt_of_lt_of_le hlt_i7 (by decide))).1) ?_
    refine r_getI e_X2_thinsCrowd_24 fl_X2_207 i3 (show kd sh (a + 10 + 2 * i7) = some (5 + 7, 0) from (hb1.2.2.2.2.2.2.2.2.1 i7 (Nat.lt_of_lt_of_le hlt_i7 (by decide))).2.1) ?_
    refine r_iload_n e_X2_thinsCrowd_27 rfl ?_
    obtain ⟨v2_0, v2_1, q2, h⟩ := bd2_el h
    suffices j2 : WP m_X2_thinsCrowd _ 61 [some (.ref a), some (.int x1), some (.int v2_0), some (.int v2_1), some (.int (nI i7))] [] sh M 0 0 by
      refine r_icmp_ne e_X2_thinsCrowd_28 (fun c1 => ?_) (fun c1 => ?_)
      · rw [if_neg c1] at q2
        obtain ⟨rfl, rfl⟩ := pe2 q2; exact j2
      · rw [if_pos c1] at q2
        refine r_aload_n e_X2_thinsCrowd_31 rfl ?_
        refine r_getR e_X2_thinsCrowd_32 fl_X2_20 k0 k1 ?_
        refine r_iload e_X2_thinsCrowd_35 rfl ?_
        refine r_aaload (b := (a + 10 + 2 * i7)) e_X2_thinsCrowd_37 k2 ⟨by decide, by decide⟩ (vp_in_nI (Nat.lt_of_lt_of_le hlt_i7 (by decide)) (by decide)) (by rw [hcl_i7]; exact (hb1.2.2.2.2.2.2.2.2.1 i7 (Nat.lt_of_lt_of_le hlt_i7 (by decide))).1) ?_
        refine r_aload_n e_X2_thinsCrowd_38 rfl ?_
        refine r_getR e_X2_thinsCrowd_39 fl_X2_20 k0 k1 ?_
        refine r_iload e_X2_thinsCrowd_42 rfl ?_
        refine r_aaload (b := (a + 10 + 2 * i7)) e_X2_thinsCrowd_44 k2 ⟨by decide, by decide⟩ (vp_in_nI (Nat.lt_of_lt_of_le hlt_i7 (by decide)) (by decide)) (by rw [hcl_i7]; exact (hb1.2.2.2.2.2.2.2.2.1 i7 (Nat.lt_of_lt_of_le hlt_i7 (by decide))).1) ?_
        refine r_getI e_X2_thinsCrowd_45 fl_X2_130 i0 (show kd sh (a + 10 + 2 * i7) = some (5 + 7, 0) from (hb1.2.2.2.2.2.2.2.2.1 i7 (Nat.lt_of_lt_of_le hlt_i7 (by decide))).2.1) ?_
        refine cV1v e_X2_thinsCrowd_48 cl_X2_185 ⟨Nat.le_of_ble_eq_true rfl, Nat.le_of_ble_eq_true rfl⟩ ⟨rfl, rfl⟩ (show kd sh (a + 10 + 2 * i7) = some (5 + 7, 0) from (hb1.2.2.2.2.2.2.2.2.1 i7 (Nat.lt_of_lt_of_le hlt_i7 (by decide))).2.1) (Nat.le_of_ble_eq_true rfl) (S_X5_seenX (hb1.2.2.2.2.2.2.2.2.1 i7 (Nat.lt_of_lt_of_le hlt_i7 (by decide))).2) ?_
        refine r_iconst e_X2_thinsCrowd_51 ic_2 ?_
        refine r_icmp_gt e_X2_thinsCrowd_52 (fun c3 => ?_) (fun c3 => ?_)
        · rw [if_pos c3] at q2
          obtain ⟨rfl, rfl⟩ := pe2 q2; exact j2
        · rw [if_neg c3] at q2
          refine p_iinc_5_2 e_X2_thinsCrowd_55 rfl ic_1 rfl ?_
          refine r_iload e_X2_thinsCrowd_58 rfl ?_
          refine p_istore_n_5_3 e_X2_thinsCrowd_60 rfl rfl ?_
          obtain ⟨rfl, rfl⟩ := pe2 q2; exact j2
    refine p_iinc_5_4 e_X2_thinsCrowd_61 rfl ic_1 rfl ?_
    rw [nI_1 i7]
    refine r_goto e_X2_thinsCrowd_64 ?_
    exact ih _ _ _ _ _ _ (by omega) h hE
def R_X2_thinsCrowd (a : Nat) (x1 : Int32) (M : Mem) : Option (Int32 × Mem) := bnd2 (L_X2_thinsCrowd_7 a x1 10 0 (0 : Int32) (-1 : Int32) M) (fun v4_0 v4_1 => if (4 : Int32) ≤ v4_0 then (bnd1 (R_X2_putAtStart a v4_1 M) (fun M6 => some ((1 : Int32), M6))) else (some ((0 : Int32), M)))
theorem S_X2_thinsCrowd {sh : List SC} {M : Mem} {a : Nat} {x1 : Int32}  {v' : Int32} {M' : Mem} (hb1 : MatchAt sh a)  (h : R_X2_thinsCrowd a x1 M = some (v', M')) : Gv m_X2_thinsCrowd [.ref a, .int x1] sh M (.int v') M' := by
  refine Sp.of (ls := [some (.ref a), some (.int x1), none, none, none]) (by decide +kernel) (Nat.le_of_ble_eq_true rfl) rfl ?_
  have k0 : kd sh a = some (2 + 7, 0) := hb1.1
  unfold R_X2_thinsCrowd at h
  refine r_iconst e_X2_thinsCrowd_0 ic_0 ?_
  refine p_istore_n_5_2 e_X2_thinsCrowd_1 rfl rfl ?_
  refine r_iconst e_X2_thinsCrowd_2 ic_m1 ?_
  refine p_istore_n_5_3 e_X2_thinsCrowd_3 rfl rfl ?_
  refine r_iconst e_X2_thinsCrowd_4 ic_0 ?_
  refine p_istore_5_4 e_X2_thinsCrowd_5 rfl rfl ?_
  show WP m_X2_thinsCrowd _ 7 [some (.ref a), some (.int x1), some (.int (0 : Int32)), some (.int (-1 : Int32)), some (.int (nI 0))] [] sh M 0 0
  obtain ⟨v4_0, v4_1, w4, h⟩ := bnd2_el h
  refine LW_X2_thinsCrowd_7 hb1 10 0 _ _ _ _ _ (by omega) w4 ?_
  refine r_iload_n e_X2_thinsCrowd_67 rfl ?_
  refine r_iconst e_X2_thinsCrowd_68 ic_4 ?_
  refine r_icmp_ge e_X2_thinsCrowd_69 (fun c5 => ?_) (fun c5 => ?_)
  · rw [if_pos c5] at h
    refine r_aload_n e_X2_thinsCrowd_74 rfl ?_
    refine r_iload_n e_X2_thinsCrowd_75 rfl ?_
    obtain ⟨M6, w6, h⟩ := bnd1_el h
    refine cV1u e_X2_thinsCrowd_76 cl_X2_101 ⟨Nat.le_of_ble_eq_true rfl, Nat.le_of_ble_eq_true rfl⟩ ⟨rfl, rfl⟩ k0 (Nat.le_of_ble_eq_true rfl) (S_X2_putAtStart hb1 w6) ?_
    refine r_iconst e_X2_thinsCrowd_79 ic_1 ?_
    refine r_zreturn e_X2_thinsCrowd_80 rfl ⟨rfl, rfl⟩ (by first | exact Or.inl rfl | exact Or.inr rfl) ?_
    obtain ⟨rfl, rfl⟩ := ps2 h; exact ⟨rfl, rfl, rfl⟩
  · rw [if_neg c5] at h
    refine r_iconst e_X2_thinsCrowd_72 ic_0 ?_
    refine r_zreturn e_X2_thinsCrowd_73 rfl ⟨rfl, rfl⟩ (by first | exact Or.inl rfl | exact Or.inr rfl) ?_
    obtain ⟨rfl, rfl⟩ := ps2 h; exact ⟨rfl, rfl, rfl⟩
def L_X2_copy_56 (a : Nat) (x1 : Nat) : Nat → Nat → Mem → Option (Mem)
  | 0, i56, M => some M
  | n + 1, i56, M => bnd1 (R_X5_copy (a + 10 + 2 * i56) (x1 + 10 + 2 * i56) M) (fun M3 => L_X2_copy_56 a x1 n (i56 + 1) M3)
theorem LW_X2_copy_56 {sh : List SC} {Q : Po} {a : Nat} {x1 : Nat}   (hb1 : MatchAt sh a) (hb2 : MatchAt sh x1)  : ∀ (n i56 : Nat) (M : Mem) (Mz : Mem), i56 + n = 10 → L_X2_copy_56 a x1 n i56 M = some Mz → WP m_X2_copy Q 95 [none, none, none] [] sh Mz 0 0 → WP m_X2_copy Q 56 [some (.ref a), some (.ref x1), some (.int (nI i56))] [] sh M 0 0 := by
  intro n
  induction n with
  | zero =>
    intro i56 M Mz hi h hE
    rw [L_X2_copy_56] at h
    have hz : (10 : Int32) ≤ nI i56 := by
      have q : i56 = 10 := by omega
      rw [q]; exact nI_le (Nat.le_refl _) (by decide)
    have k0 : kd sh a = some (2 + 7, 0) := hb1.1
    have k1 : rf sh a 3 = some (a + 3) := hb1.2.2.2.2.1
    have k2 : kd sh (a + 3) = some (6, 10) := hb1.2.2.2.2.2.2.2.1
    refine r_iload_n e_X2_copy_56 rfl ?_
    refine r_aload_n e_X2_copy_57 rfl ?_
    refine r_getR e_X2_copy_58 fl_X2_20 k0 k1 ?_
    refine r_alen (v := (10 : Int32)) e_X2_copy_61 k2 (by decide) rfl ?_
    refine r_icmp_ge e_X2_copy_62 (fun _ => ?_) (fun hh => absurd hz hh)
    refine d_3_0 ?_
    refine d_3_1 ?_
    refine d_3_2 ?_
    obtain rfl := Option.some.inj h; exact hE
  | succ n ih =>
    intro i56 M Mz hi h hE
    rw [L_X2_copy_56] at h
    have hlt_i56 : i56 < 10 := by omega
    have hcl_i56 : (nI i56).toNatClampNeg = i56 := nI_clamp (by omega)
    have hs : ¬ (10 : Int32) ≤ nI i56 := nI_ge (b := 10) hlt_i56 (by decide)
    have k0 : kd sh a = some (2 + 7, 0) := hb1.1
    have k1 : rf sh a 3 = some (a + 3) := hb1.2.2.2.2.1
    have k2 : kd sh (a + 3) = some (6, 10) := hb1.2.2.2.2.2.2.2.1
    have k3 : kd sh x1 = some (2 + 7, 0) := hb2.1
    have k4 : rf sh x1 3 = some (x1 + 3) := hb2.2.2.2.2.1
    have k5 : kd sh (x1 + 3) = some (6, 10) := hb2.2.2.2.2.2.2.2.1
    refine r_iload_n e_X2_copy_56 rfl ?_
    refine r_aload_n e_X2_copy_57 rfl ?_
    refine r_getR e_X2_copy_58 fl_X2_20 k0 k1 ?_
    refine r_alen (v := (10 : Int32)) e_X2_copy_61 k2 (by decide) rfl ?_
    refine r_icmp_ge e_X2_copy_62 (fun hh => absurd hh hs) (fun _ => ?_)
    refine r_iload_n e_X2_copy_65 rfl ?_
    refine r_aload_n e_X2_copy_66 rfl ?_
    refine r_getR e_X2_copy_67 fl_X2_20 k3 k4 ?_
    refine r_alen (v := (10 : Int32)) e_X2_copy_70 k5 (by decide) rfl ?_
    refine r_icmp_ge e_X2_copy_71 (fun hh => absurd hh hs) (fun _ => ?_)
    refine r_aload_n e_X2_copy_74 rfl ?_
    refine r_getR e_X2_copy_75 fl_X2_20 k0 k1 ?_
    refine r_iload_n e_X2_copy_78 rfl ?_
    refine r_aaload (b := (a + 10 + 2 * i56)) e_X2_copy_79 k2 ⟨by decide, by decide⟩ (vp_in_nI (Nat.lt_of_lt_of_le hlt_i56 (by decide)) (by decide)) (by rw [hcl_i56]; exact (hb1.2.2.2.2.2.2.2.2.1 i56 (Nat.lt_of_lt_of_le hlt_i56 (by decide))).1) ?_
    refine r_aload_n e_X2_copy_80 rfl ?_
    refine r_getR e_X2_copy_81 fl_X2_20 k3 k4 ?_
    refine r_iload_n e_X2_copy_84 rfl ?_
    refine r_aaload (b := (x1 + 10 + 2 * i56)) e_X2_copy_85 k5 ⟨by decide, by decide⟩ (vp_in_nI (Nat.lt_of_lt_of_le hlt_i56 (by decide)) (by decide)) (by rw [hcl_i56]; exact (hb2.2.2.2.2.2.2.2.2.1 i56 (Nat.lt_of_lt_of_le hlt_i56 (by decide))).1) ?_
    obtain ⟨M3, w3, h⟩ := bnd1_el h
    refine cV1u e_X2_copy_86 cl_X2_269 ⟨Nat.le_of_ble_eq_true rfl, Nat.le_of_ble_eq_true rfl⟩ ⟨rfl, rfl⟩ (show kd sh (a + 10 + 2 * i56) = some (5 + 7, 0) from (hb1.2.2.2.2.2.2.2.2.1 i56 (Nat.lt_of_lt_of_le hlt_i56 (by decide))).2.1) (Nat.le_of_ble_eq_true rfl) (S_X5_copy (hb1.2.2.2.2.2.2.2.2.1 i56 (Nat.lt_of_lt_of_le hlt_i56 (by decide))).2 (hb2.2.2.2.2.2.2.2.2.1 i56 (Nat.lt_of_lt_of_le hlt_i56 (by decide))).2 w3) ?_
    refine p_iinc_3_2 e_X2_copy_89 rfl ic_1 rfl ?_
    rw [nI_1 i56]
    refine r_goto e_X2_copy_92 ?_
    exact ih _  _ _ (by omega) h hE
def R_X2_copy (a : Nat) (x1 : Nat) (M : Mem) : Option (Mem) := cz (M.1 x1 6) (bd1 (U_X0_copy (a + 4) (x1 + 4) (setI (setI (setI (setI M a 6 (M.1 x1 6)) a 7 (M.1 x1 7)) a 8 (M.1 x1 8)) a 9 (M.1 x1 9))) (fun M2 => bnd1 (L_X2_copy_56 a x1 10 0 (U_X7_copy (a + 7) (x1 + 7) M2)) (fun M4 => some M4)))
theorem S_X2_copy {sh : List SC} {M : Mem} {a : Nat} {x1 : Nat}  {M' : Mem} (hb1 : MatchAt sh a) (hb2 : MatchAt sh x1)  (h : R_X2_copy a x1 M = some M') : Gu m_X2_copy [.ref a, .ref x1] sh M M' := by
  refine Sp.of (ls := [some (.ref a), some (.ref x1), none]) (by decide +kernel) (Nat.le_of_ble_eq_true rfl) rfl ?_
  have k0 : kd sh x1 = some (2 + 7, 0) := hb2.1
  have k1 : kd sh a = some (2 + 7, 0) := hb1.1
  have k2 : rf sh a 4 = some (a + 4) := hb1.2.2.2.2.2.1
  have k3 : rf sh x1 4 = some (x1 + 4) := hb2.2.2.2.2.2.1
  have k4 : kd sh (a + 4) = some (0 + 7, 0) := hb1.2.2.2.2.2.2.2.2.2.1.1
  have k5 : rf sh a 5 = some (a + 7) := hb1.2.2.2.2.2.2.1
  have k6 : rf sh x1 5 = some (x1 + 7) := hb2.2.2.2.2.2.2.1
  have k7 : kd sh (a + 7) = some (7 + 7, 0) := hb1.2.2.2.2.2.2.2.2.2.2.1.1
  unfold R_X2_copy at h
  refine r_aload_n e_X2_copy_0 rfl ?_
  refine r_aload_n e_X2_copy_1 rfl ?_
  refine r_getI e_X2_copy_2 fl_X2_38 i3 k0 ?_
  obtain ⟨b1, h⟩ := cz_el h
  refine r_putZ e_X2_copy_5 fl_X2_38 b1 k1 ?_
  refine r_aload_n e_X2_copy_8 rfl ?_
  refine r_aload_n e_X2_copy_9 rfl ?_
  refine r_getIe e_X2_copy_10 fl_X2_42 i0 k0 (gs_nI (by decide)) ?_
  refine r_putI e_X2_copy_13 fl_X2_42 k1 ?_
  refine r_aload_n e_X2_copy_16 rfl ?_
  refine r_aload_n e_X2_copy_17 rfl ?_
  refine r_getIe e_X2_copy_18 fl_X2_46 i0 k0 ((gs_nI (by decide)).trans (gs_nI (by decide))) ?_
  refine r_putI e_X2_copy_21 fl_X2_46 k1 ?_
  refine r_aload_n e_X2_copy_24 rfl ?_
  refine r_aload_n e_X2_copy_25 rfl ?_
  refine r_getIe e_X2_copy_26 fl_X2_49 i0 k0 ((gs_nI (by decide)).trans ((gs_nI (by decide)).trans (gs_nI (by decide)))) ?_
  refine r_putI e_X2_copy_29 fl_X2_49 k1 ?_
  refine r_aload_n e_X2_copy_32 rfl ?_
  refine r_getR e_X2_copy_33 fl_X2_27 k1 k2 ?_
  refine r_aload_n e_X2_copy_36 rfl ?_
  refine r_getR e_X2_copy_37 fl_X2_27 k0 k3 ?_
  refine cV1u e_X2_copy_40 cl_X2_262 ⟨Nat.le_of_ble_eq_true rfl, Nat.le_of_ble_eq_true rfl⟩ ⟨rfl, rfl⟩ k4 (Nat.le_of_ble_eq_true rfl) (S_X0_copy hb1.2.2.2.2.2.2.2.2.2.1 hb2.2.2.2.2.2.2.2.2.2.1) ?_
  obtain ⟨M2, e2, h⟩ := bd1_el h
  rw [e2]
  refine r_aload_n e_X2_copy_43 rfl ?_
  refine r_getR e_X2_copy_44 fl_X2_34 k1 k5 ?_
  refine r_aload_n e_X2_copy_47 rfl ?_
  refine r_getR e_X2_copy_48 fl_X2_34 k0 k6 ?_
  refine cV1u e_X2_copy_51 cl_X2_266 ⟨Nat.le_of_ble_eq_true rfl, Nat.le_of_ble_eq_true rfl⟩ ⟨rfl, rfl⟩ k7 (Nat.le_of_ble_eq_true rfl) (S_X7_copy hb1.2.2.2.2.2.2.2.2.2.2.1 hb2.2.2.2.2.2.2.2.2.2.2.1) ?_
  refine r_iconst e_X2_copy_54 ic_0 ?_
  refine p_istore_n_3_2 e_X2_copy_55 rfl rfl ?_
  show WP m_X2_copy _ 56 [some (.ref a), some (.ref x1), some (.int (nI 0))] [] sh (U_X7_copy (a + 7) (x1 + 7) M2) 0 0
  obtain ⟨M4, w4, h⟩ := bnd1_el h
  refine LW_X2_copy_56 hb1 hb2 10 0 _ _ (by omega) w4 ?_
  refine r_return e_X2_copy_95 rfl ⟨rfl, rfl⟩ ?_
  obtain rfl := Option.some.inj h; exact ⟨rfl, rfl, rfl⟩
def R_X10_back (x1 : Int32) (M : Mem) : Option (Int32 × Mem) := if (V_X10_isPlace x1 M) = 0 then (some ((V_X10_finding (-1001 : Int32) M), U_X10_finding (-1001 : Int32) M)) else (ck x1 2 (if (M.1 (182 + 30 * x1.toNatClampNeg) 6) = 0 then (some ((V_X10_finding (-1004 : Int32) M), U_X10_finding (-1004 : Int32) M)) else (ck x1 2 (bnd1 (R_X2_copy 122 (182 + 30 * x1.toNatClampNeg) M) (fun M5 => some ((M5.1 122 7), M5))))))
theorem S_X10_back {sh : List SC} {M : Mem} {x1 : Int32}  {v' : Int32} {M' : Mem} (hb1 : PitchAt sh)  (h : R_X10_back x1 M = some (v', M')) : Gv m_X10_back [.ref 0, .int x1] sh M (.int v') M' := by
  refine Sp.of (ls := [some (.ref 0), some (.int x1)]) (by decide +kernel) (Nat.le_of_ble_eq_true rfl) rfl ?_
  have k0 : kd sh 0 = some (9 + 7, 0) := hb1.1
  have k1 : rf sh 0 6 = some 10 := hb1.2.2.2.2.2.2.2.1
  have k2 : kd sh 10 = some (5, 2) := hb1.2.2.2.2.2.2.2.2.2.2.2.2.1
  have k3 : rf sh 0 4 = some 122 := hb1.2.2.2.2.2.1
  have k4 : kd sh 122 = some (2 + 7, 0) := hb1.2.2.2.2.2.2.2.2.2.2.2.2.2.2.2.2.1.1
  unfold R_X10_back at h
  refine r_iload_n e_X10_back_0 rfl ?_
  refine cS1v e_X10_back_1 cl_X10_154 ⟨Nat.le_of_ble_eq_true rfl, Nat.le_of_ble_eq_true rfl⟩ ⟨rfl, rfl⟩  (Nat.le_of_ble_eq_true rfl) (S_X10_isPlace ) ?_
  refine r_if_ne e_X10_back_4 (fun c1 => ?_) (fun c1 => ?_)
  · rw [if_neg c1] at h
    refine r_aload_n e_X10_back_15 rfl ?_
    refine r_getR e_X10_back_16 fl_X10_34 k0 k1 ?_
    refine r_iload_n e_X10_back_19 rfl ?_
    obtain ⟨b2, h⟩ := ck_el h
    refine r_aaload (b := (182 + 30 * x1.toNatClampNeg)) e_X10_back_20 k2 ⟨by decide, by decide⟩ b2 (hb1.2.2.2.2.2.2.2.2.2.2.2.2.2.1 x1.toNatClampNeg (vp_lt b2)).1 ?_
    refine r_getI e_X10_back_21 fl_X10_115 i3 (show kd sh (182 + 30 * x1.toNatClampNeg) = some (2 + 7, 0) from (hb1.2.2.2.2.2.2.2.2.2.2.2.2.2.1 x1.toNatClampNeg (vp_lt b2)).2.1) ?_
    refine r_if_ne e_X10_back_24 (fun c3 => ?_) (fun c3 => ?_)
    · rw [if_neg c3] at h
      refine r_aload_n e_X10_back_35 rfl ?_
      refine r_getR e_X10_back_36 fl_X10_63 k0 k3 ?_
      refine r_aload_n e_X10_back_39 rfl ?_
      refine r_getR e_X10_back_40 fl_X10_34 k0 k1 ?_
      refine r_iload_n e_X10_back_43 rfl ?_
      obtain ⟨b4, h⟩ := ck_el h
      refine r_aaload (b := (182 + 30 * x1.toNatClampNeg)) e_X10_back_44 k2 ⟨by decide, by decide⟩ b4 (hb1.2.2.2.2.2.2.2.2.2.2.2.2.2.1 x1.toNatClampNeg (vp_lt b4)).1 ?_
      obtain ⟨M5, w5, h⟩ := bnd1_el h
      refine cV1u e_X10_back_45 cl_X10_157 ⟨Nat.le_of_ble_eq_true rfl, Nat.le_of_ble_eq_true rfl⟩ ⟨rfl, rfl⟩ k4 (Nat.le_of_ble_eq_true rfl) (S_X2_copy hb1.2.2.2.2.2.2.2.2.2.2.2.2.2.2.2.2.1 (hb1.2.2.2.2.2.2.2.2.2.2.2.2.2.1 x1.toNatClampNeg (vp_lt b4)).2 w5) ?_
      refine r_aload_n e_X10_back_48 rfl ?_
      refine r_getR e_X10_back_49 fl_X10_63 k0 k3 ?_
      refine r_getI e_X10_back_52 fl_X10_140 i0 k4 ?_
      refine r_ireturn e_X10_back_55 rfl ⟨rfl, rfl⟩ ?_
      obtain ⟨rfl, rfl⟩ := ps2 h; exact ⟨rfl, rfl, rfl⟩
    · rw [if_pos c3] at h
      refine r_aload_n e_X10_back_27 rfl ?_
      refine r_sipush e_X10_back_28 sp_m1004 ?_
      refine cV1v e_X10_back_31 cl_X10_70 ⟨Nat.le_of_ble_eq_true rfl, Nat.le_of_ble_eq_true rfl⟩ ⟨rfl, rfl⟩ k0 (Nat.le_of_ble_eq_true rfl) (S_X10_finding hb1) ?_
      refine r_ireturn e_X10_back_34 rfl ⟨rfl, rfl⟩ ?_
      obtain ⟨rfl, rfl⟩ := ps2 h; exact ⟨rfl, rfl, rfl⟩
  · rw [if_pos c1] at h
    refine r_aload_n e_X10_back_7 rfl ?_
    refine r_sipush e_X10_back_8 sp_m1001 ?_
    refine cV1v e_X10_back_11 cl_X10_70 ⟨Nat.le_of_ble_eq_true rfl, Nat.le_of_ble_eq_true rfl⟩ ⟨rfl, rfl⟩ k0 (Nat.le_of_ble_eq_true rfl) (S_X10_finding hb1) ?_
    refine r_ireturn e_X10_back_14 rfl ⟨rfl, rfl⟩ ?_
    obtain ⟨rfl, rfl⟩ := ps2 h; exact ⟨rfl, rfl, rfl⟩
def R_X10_differ (x1 : Int32) (M : Mem) : Option (Int32 × Mem) := if (V_X10_isPlace x1 M) = 0 then (some ((V_X10_finding (-1001 : Int32) M), U_X10_finding (-1001 : Int32) M)) else (if (M.1 122 6) = 0 then (some ((V_X10_finding (-1003 : Int32) M), U_X10_finding (-1003 : Int32) M)) else (ck x1 2 (if (M.1 (182 + 30 * x1.toNatClampNeg) 6) = 0 then (some ((V_X10_finding (-1004 : Int32) M), U_X10_finding (-1004 : Int32) M)) else (ck x1 2 (bnd1 (R_X2_difference 122 (182 + 30 * x1.toNatClampNeg) M) (fun v6 => some (v6, M)))))))
theorem S_X10_differ {sh : List SC} {M : Mem} {x1 : Int32}  {v' : Int32} {M' : Mem} (hb1 : PitchAt sh)  (h : R_X10_differ x1 M = some (v', M')) : Gv m_X10_differ [.ref 0, .int x1] sh M (.int v') M' := by
  refine Sp.of (ls := [some (.ref 0), some (.int x1)]) (by decide +kernel) (Nat.le_of_ble_eq_true rfl) rfl ?_
  have k0 : kd sh 0 = some (9 + 7, 0) := hb1.1
  have k1 : rf sh 0 4 = some 122 := hb1.2.2.2.2.2.1
  have k2 : kd sh 122 = some (2 + 7, 0) := hb1.2.2.2.2.2.2.2.2.2.2.2.2.2.2.2.2.1.1
  have k3 : rf sh 0 6 = some 10 := hb1.2.2.2.2.2.2.2.1
  have k4 : kd sh 10 = some (5, 2) := hb1.2.2.2.2.2.2.2.2.2.2.2.2.1
  unfold R_X10_differ at h
  refine r_iload_n e_X10_differ_0 rfl ?_
  refine cS1v e_X10_differ_1 cl_X10_154 ⟨Nat.le_of_ble_eq_true rfl, Nat.le_of_ble_eq_true rfl⟩ ⟨rfl, rfl⟩  (Nat.le_of_ble_eq_true rfl) (S_X10_isPlace ) ?_
  refine r_if_ne e_X10_differ_4 (fun c1 => ?_) (fun c1 => ?_)
  · rw [if_neg c1] at h
    refine r_aload_n e_X10_differ_15 rfl ?_
    refine r_getR e_X10_differ_16 fl_X10_63 k0 k1 ?_
    refine r_getI e_X10_differ_19 fl_X10_115 i3 k2 ?_
    refine r_if_ne e_X10_differ_22 (fun c2 => ?_) (fun c2 => ?_)
    · rw [if_neg c2] at h
      refine r_aload_n e_X10_differ_33 rfl ?_
      refine r_getR e_X10_differ_34 fl_X10_34 k0 k3 ?_
      refine r_iload_n e_X10_differ_37 rfl ?_
      obtain ⟨b3, h⟩ := ck_el h
      refine r_aaload (b := (182 + 30 * x1.toNatClampNeg)) e_X10_differ_38 k4 ⟨by decide, by decide⟩ b3 (hb1.2.2.2.2.2.2.2.2.2.2.2.2.2.1 x1.toNatClampNeg (vp_lt b3)).1 ?_
      refine r_getI e_X10_differ_39 fl_X10_115 i3 (show kd sh (182 + 30 * x1.toNatClampNeg) = some (2 + 7, 0) from (hb1.2.2.2.2.2.2.2.2.2.2.2.2.2.1 x1.toNatClampNeg (vp_lt b3)).2.1) ?_
      refine r_if_ne e_X10_differ_42 (fun c4 => ?_) (fun c4 => ?_)
      · rw [if_neg c4] at h
        refine r_aload_n e_X10_differ_53 rfl ?_
        refine r_getR e_X10_differ_54 fl_X10_63 k0 k1 ?_
        refine r_aload_n e_X10_differ_57 rfl ?_
        refine r_getR e_X10_differ_58 fl_X10_34 k0 k3 ?_
        refine r_iload_n e_X10_differ_61 rfl ?_
        obtain ⟨b5, h⟩ := ck_el h
        refine r_aaload (b := (182 + 30 * x1.toNatClampNeg)) e_X10_differ_62 k4 ⟨by decide, by decide⟩ b5 (hb1.2.2.2.2.2.2.2.2.2.2.2.2.2.1 x1.toNatClampNeg (vp_lt b5)).1 ?_
        obtain ⟨v6, w6, h⟩ := bnd1_el h
        refine cV1v e_X10_differ_63 cl_X10_161 ⟨Nat.le_of_ble_eq_true rfl, Nat.le_of_ble_eq_true rfl⟩ ⟨rfl, rfl⟩ k2 (Nat.le_of_ble_eq_true rfl) (S_X2_difference hb1.2.2.2.2.2.2.2.2.2.2.2.2.2.2.2.2.1 (hb1.2.2.2.2.2.2.2.2.2.2.2.2.2.1 x1.toNatClampNeg (vp_lt b5)).2 w6) ?_
        refine r_ireturn e_X10_differ_66 rfl ⟨rfl, rfl⟩ ?_
        obtain ⟨rfl, rfl⟩ := ps2 h; exact ⟨rfl, rfl, rfl⟩
      · rw [if_pos c4] at h
        refine r_aload_n e_X10_differ_45 rfl ?_
        refine r_sipush e_X10_differ_46 sp_m1004 ?_
        refine cV1v e_X10_differ_49 cl_X10_70 ⟨Nat.le_of_ble_eq_true rfl, Nat.le_of_ble_eq_true rfl⟩ ⟨rfl, rfl⟩ k0 (Nat.le_of_ble_eq_true rfl) (S_X10_finding hb1) ?_
        refine r_ireturn e_X10_differ_52 rfl ⟨rfl, rfl⟩ ?_
        obtain ⟨rfl, rfl⟩ := ps2 h; exact ⟨rfl, rfl, rfl⟩
    · rw [if_pos c2] at h
      refine r_aload_n e_X10_differ_25 rfl ?_
      refine r_sipush e_X10_differ_26 sp_m1003 ?_
      refine cV1v e_X10_differ_29 cl_X10_70 ⟨Nat.le_of_ble_eq_true rfl, Nat.le_of_ble_eq_true rfl⟩ ⟨rfl, rfl⟩ k0 (Nat.le_of_ble_eq_true rfl) (S_X10_finding hb1) ?_
      refine r_ireturn e_X10_differ_32 rfl ⟨rfl, rfl⟩ ?_
      obtain ⟨rfl, rfl⟩ := ps2 h; exact ⟨rfl, rfl, rfl⟩
  · rw [if_pos c1] at h
    refine r_aload_n e_X10_differ_7 rfl ?_
    refine r_sipush e_X10_differ_8 sp_m1001 ?_
    refine cV1v e_X10_differ_11 cl_X10_70 ⟨Nat.le_of_ble_eq_true rfl, Nat.le_of_ble_eq_true rfl⟩ ⟨rfl, rfl⟩ k0 (Nat.le_of_ble_eq_true rfl) (S_X10_finding hb1) ?_
    refine r_ireturn e_X10_differ_14 rfl ⟨rfl, rfl⟩ ?_
    obtain ⟨rfl, rfl⟩ := ps2 h; exact ⟨rfl, rfl, rfl⟩
def L_X11_feed_42 (x1 : Int64) (x2 : Int32) (mA : Nat) : Nat → Int32 → Mem → Option (Mem)
  | 0, _, _ => none
  | n + 1, u4, M => if x2 ≤ u4 then (some M) else (ck (M.1 242 1) 800 (L_X11_feed_42 x1 x2 mA n (u4 + 1) (setI (setI M 243 (M.1 242 1).toNatClampNeg (((x1 >>> (((8 : Int32) * u4).toInt64 &&& 63)) &&& (255 : Int64)).toInt32)) 242 1 ((M.1 242 1) + (1 : Int32)))))
theorem LW_X11_feed_42 {sh : List SC} {Q : Po} {x1 : Int64} {x2 : Int32} {mA : Nat} {oA : Nat}  (hb1 : ModelAt sh mA oA)  : ∀ (n : Nat) (u4 : Int32) (M : Mem) (Mz : Mem), L_X11_feed_42 x1 x2 mA n u4 M = some Mz → WP m_X11_feed Q 85 [some (.ref 242), none, none, none, none] [] sh Mz 0 0 → WP m_X11_feed Q 42 [some (.ref 242), some (.long x1), none, some (.int x2), some (.int u4)] [] sh M 0 0 := by
  intro n
  induction n with
  | zero =>
    intro u4 M Mz h hE
    rw [L_X11_feed_42] at h
    cases h
  | succ n ih =>
    intro u4 M Mz h hE
    rw [L_X11_feed_42] at h
    have k0 : kd sh 242 = some (10 + 7, 0) := hb1.1
    have k1 : rf sh 242 0 = some 243 := hb1.2.1
    have k2 : kd sh 243 = some (0, 800) := hb1.2.2.2.2.2.2.2.2.2.2.2.2.2.2.2.2.2.2.2.2.2.2.2.2.2.2.2.1
    refine r_iload e_X11_feed_42 rfl ?_
    refine r_iload_n e_X11_feed_44 rfl ?_
    refine r_icmp_ge e_X11_feed_45 (fun c5 => ?_) (fun c5 => ?_)
    · rw [if_pos c5] at h
      refine d_5_1 ?_
      refine d_5_3 ?_
      refine d_5_4 ?_
      obtain rfl := Option.some.inj h; exact hE
    · rw [if_neg c5] at h
      refine r_aload_n e_X11_feed_48 rfl ?_
      refine r_getR e_X11_feed_49 fl_X11_7 k0 k1 ?_
      refine r_aload_n e_X11_feed_52 rfl ?_
      refine r_getI e_X11_feed_53 fl_X11_1 i0 k0 ?_
      refine r_lload_n e_X11_feed_56 rfl ?_
      refine r_bipush e_X11_feed_57 bp_8 ?_
      refine r_iload e_X11_feed_59 rfl ?_
      refine r_imul e_X11_feed_61 ?_
      refine r_lshr e_X11_feed_62 ?_
      refine r_ldc2 e_X11_feed_63 lc_X11_181 ?_
      refine r_land e_X11_feed_66 ?_
      refine r_l2i e_X11_feed_67 ?_
      obtain ⟨b6, h⟩ := ck_el h
      refine r_iastore e_X11_feed_68 k2 b6 ?_
      refine r_aload_n e_X11_feed_69 rfl ?_
      refine r_dup e_X11_feed_70 rfl ?_
      refine r_getIe e_X11_feed_71 fl_X11_1 i0 k0 (gs_aI (by omega)) ?_
      refine r_iconst e_X11_feed_74 ic_1 ?_
      refine r_iadd e_X11_feed_75 ?_
      refine r_putI e_X11_feed_76 fl_X11_1 k0 ?_
      refine p_iinc_5_4 e_X11_feed_79 rfl ic_1 rfl ?_
      refine r_goto e_X11_feed_82 ?_
      exact ih _ _ _ h hE
def R_X11_feed (x1 : Int64) (x2 : Int32) (mA : Nat) (M : Mem) : Option (Int32 × Mem) := if x2 < (1 : Int32) then (bnd2 (R_X11_finding (-1001 : Int32) mA M) (fun v2 M2 => some (v2, M2))) else (if x2 ≤ (8 : Int32) then (if ((M.1 242 1) + x2) ≤ (800 : Int32) then (bnd1 (L_X11_feed_42 x1 x2 mA FUEL (0 : Int32) M) (fun M7 => some ((M7.1 242 1), M7))) else (bnd2 (R_X11_finding (-1002 : Int32) mA M) (fun v8 M8 => some (v8, M8)))) else (bnd2 (R_X11_finding (-1001 : Int32) mA M) (fun v9 M9 => some (v9, M9))))
theorem S_X11_feed {sh : List SC} {M : Mem} {x1 : Int64} {x2 : Int32} {mA : Nat} {oA : Nat} {v' : Int32} {M' : Mem} (hb1 : ModelAt sh mA oA)  (h : R_X11_feed x1 x2 mA M = some (v', M')) : Gv m_X11_feed [.ref 242, .long x1, .int x2] sh M (.int v') M' := by
  refine Sp.of (ls := [some (.ref 242), some (.long x1), none, some (.int x2), none]) (by decide +kernel) (Nat.le_of_ble_eq_true rfl) rfl ?_
  have k0 : kd sh 242 = some (10 + 7, 0) := hb1.1
  unfold R_X11_feed at h
  refine r_iload_n e_X11_feed_0 rfl ?_
  refine r_iconst e_X11_feed_1 ic_1 ?_
  refine r_icmp_lt e_X11_feed_2 (fun c1 => ?_) (fun c1 => ?_)
  · rw [if_pos c1] at h
    refine r_aload_n e_X11_feed_11 rfl ?_
    refine r_sipush e_X11_feed_12 sp_m1001 ?_
    obtain ⟨v2, M2, w2, h⟩ := bnd2_el h
    refine cV1v e_X11_feed_15 cl_X11_178 ⟨Nat.le_of_ble_eq_true rfl, Nat.le_of_ble_eq_true rfl⟩ ⟨rfl, rfl⟩ k0 (Nat.le_of_ble_eq_true rfl) (S_X11_finding hb1 w2) ?_
    refine r_ireturn e_X11_feed_18 rfl ⟨rfl, rfl⟩ ?_
    obtain ⟨rfl, rfl⟩ := ps2 h; exact ⟨rfl, rfl, rfl⟩
  · rw [if_neg c1] at h
    refine r_iload_n e_X11_feed_5 rfl ?_
    refine r_bipush e_X11_feed_6 bp_8 ?_
    refine r_icmp_le e_X11_feed_8 (fun c3 => ?_) (fun c3 => ?_)
    · rw [if_pos c3] at h
      refine r_aload_n e_X11_feed_19 rfl ?_
      refine r_getI e_X11_feed_20 fl_X11_1 i0 k0 ?_
      refine r_iload_n e_X11_feed_23 rfl ?_
      refine r_iadd e_X11_feed_24 ?_
      refine r_sipush e_X11_feed_25 sp_800 ?_
      refine r_icmp_le e_X11_feed_28 (fun c4 => ?_) (fun c4 => ?_)
      · rw [if_pos c4] at h
        refine r_iconst e_X11_feed_39 ic_0 ?_
        refine p_istore_5_4 e_X11_feed_40 rfl rfl ?_
        obtain ⟨M7, w7, h⟩ := bnd1_el h
        refine LW_X11_feed_42 hb1 _ _ _ _ w7 ?_
        refine r_aload_n e_X11_feed_85 rfl ?_
        refine r_getI e_X11_feed_86 fl_X11_1 i0 k0 ?_
        refine r_ireturn e_X11_feed_89 rfl ⟨rfl, rfl⟩ ?_
        obtain ⟨rfl, rfl⟩ := ps2 h; exact ⟨rfl, rfl, rfl⟩
      · rw [if_neg c4] at h
        refine r_aload_n e_X11_feed_31 rfl ?_
        refine r_sipush e_X11_feed_32 sp_m1002 ?_
        obtain ⟨v8, M8, w8, h⟩ := bnd2_el h
        refine cV1v e_X11_feed_35 cl_X11_178 ⟨Nat.le_of_ble_eq_true rfl, Nat.le_of_ble_eq_true rfl⟩ ⟨rfl, rfl⟩ k0 (Nat.le_of_ble_eq_true rfl) (S_X11_finding hb1 w8) ?_
        refine r_ireturn e_X11_feed_38 rfl ⟨rfl, rfl⟩ ?_
        obtain ⟨rfl, rfl⟩ := ps2 h; exact ⟨rfl, rfl, rfl⟩
    · rw [if_neg c3] at h
      refine r_aload_n e_X11_feed_11 rfl ?_
      refine r_sipush e_X11_feed_12 sp_m1001 ?_
      obtain ⟨v9, M9, w9, h⟩ := bnd2_el h
      refine cV1v e_X11_feed_15 cl_X11_178 ⟨Nat.le_of_ble_eq_true rfl, Nat.le_of_ble_eq_true rfl⟩ ⟨rfl, rfl⟩ k0 (Nat.le_of_ble_eq_true rfl) (S_X11_finding hb1 w9) ?_
      refine r_ireturn e_X11_feed_18 rfl ⟨rfl, rfl⟩ ?_
      obtain ⟨rfl, rfl⟩ := ps2 h; exact ⟨rfl, rfl, rfl⟩
def L_X11_letters_0 (mA : Nat) : Nat → Mem → Option (Mem)
  | 0, _ => none
  | n + 1, M => bnd1 (R_X11_at (M.1 242 4) mA M) (fun v1 => if (V_X11_isLetter v1 M) = 0 then (some M) else (bnd1 (if (12 : Int32) ≤ ((M.1 242 4) - (M.1 242 3)) then (some M) else (bnd1 (R_X11_at (M.1 242 4) mA M) (fun v6 => (some (setJ M 242 7 ((((M.2 242 7) * (27 : Int64)) + v6.toInt64) - (96 : Int64))))))) (fun M5 => L_X11_letters_0 mA n (setI M5 242 4 ((M5.1 242 4) + (1 : Int32))))))
theorem LW_X11_letters_0 {sh : List SC} {Q : Po}  {mA : Nat} {oA : Nat}  (hb1 : ModelAt sh mA oA)  : ∀ (n : Nat) (M : Mem) (Mz : Mem), L_X11_letters_0 mA n M = some Mz → WP m_X11_letters Q 67 [some (.ref 242)] [] sh Mz 0 0 → WP m_X11_letters Q 0 [some (.ref 242)] [] sh M 0 0 := by
  intro n
  induction n with
  | zero =>
    intro M Mz h hE
    rw [L_X11_letters_0] at h
    cases h
  | succ n ih =>
    intro M Mz h hE
    rw [L_X11_letters_0] at h
    have k0 : kd sh 242 = some (10 + 7, 0) := hb1.1
    refine r_aload_n e_X11_letters_0 rfl ?_
    refine r_aload_n e_X11_letters_1 rfl ?_
    refine r_getI e_X11_letters_2 fl_X11_11 i0 k0 ?_
    obtain ⟨v1, w1, h⟩ := bnd1_el h
    refine cV1v e_X11_letters_5 cl_X11_14 ⟨Nat.le_of_ble_eq_true rfl, Nat.le_of_ble_eq_true rfl⟩ ⟨rfl, rfl⟩ k0 (Nat.le_of_ble_eq_true rfl) (S_X11_at hb1 w1) ?_
    refine cS1v e_X11_letters_8 cl_X11_31 ⟨Nat.le_of_ble_eq_true rfl, Nat.le_of_ble_eq_true rfl⟩ ⟨rfl, rfl⟩  (Nat.le_of_ble_eq_true rfl) (S_X11_isLetter ) ?_
    refine r_if_eq e_X11_letters_11 (fun c2 => ?_) (fun c2 => ?_)
    · rw [if_pos c2] at h
      obtain rfl := Option.some.inj h; exact hE
    · rw [if_neg c2] at h
      refine r_aload_n e_X11_letters_14 rfl ?_
      refine r_getI e_X11_letters_15 fl_X11_11 i0 k0 ?_
      refine r_aload_n e_X11_letters_18 rfl ?_
      refine r_getI e_X11_letters_19 fl_X11_18 i0 k0 ?_
      refine r_isub e_X11_letters_22 ?_
      refine r_bipush e_X11_letters_23 bp_12 ?_
      obtain ⟨K5, hK5, h⟩ := bnd1_in h
      suffices j5 : ∀ M5, K5 M5 = some Mz → WP m_X11_letters _ 54 [some (.ref 242)] [] sh M5 0 0 by
        refine r_icmp_ge e_X11_letters_25 (fun c3 => ?_) (fun c3 => ?_)
        · rw [if_pos c3] at h
          exact j5 _ h
        · rw [if_neg c3] at h
          refine r_aload_n e_X11_letters_28 rfl ?_
          refine r_aload_n e_X11_letters_29 rfl ?_
          refine r_getJ e_X11_letters_30 fl_X11_24 k0 ?_
          refine r_ldc2 e_X11_letters_33 lc_X11_48 ?_
          refine r_lmul e_X11_letters_36 ?_
          refine r_aload_n e_X11_letters_37 rfl ?_
          refine r_aload_n e_X11_letters_38 rfl ?_
          refine r_getI e_X11_letters_39 fl_X11_11 i0 k0 ?_
          obtain ⟨v6, w6, h⟩ := bnd1_elK h
          refine cV1v e_X11_letters_42 cl_X11_14 ⟨Nat.le_of_ble_eq_true rfl, Nat.le_of_ble_eq_true rfl⟩ ⟨rfl, rfl⟩ k0 (Nat.le_of_ble_eq_true rfl) (S_X11_at hb1 w6) ?_
          refine r_i2l e_X11_letters_45 ?_
          refine r_ladd e_X11_letters_46 ?_
          refine r_ldc2 e_X11_letters_47 lc_X11_50 ?_
          refine r_lsub e_X11_letters_50 ?_
          refine r_putJ e_X11_letters_51 fl_X11_24 k0 ?_
          exact j5 _ h
      intro M5 h
      rw [hK5] at h
      refine r_aload_n e_X11_letters_54 rfl ?_
      refine r_dup e_X11_letters_55 rfl ?_
      refine r_getI e_X11_letters_56 fl_X11_11 i0 k0 ?_
      refine r_iconst e_X11_letters_59 ic_1 ?_
      refine r_iadd e_X11_letters_60 ?_
      refine r_putI e_X11_letters_61 fl_X11_11 k0 ?_
      refine r_goto e_X11_letters_64 ?_
      exact ih  _ _ h hE
def R_X11_letters (mA : Nat) (M : Mem) : Option (Mem) := bnd1 (L_X11_letters_0 mA FUEL M) (fun M7 => if ((M7.1 242 4) - (M7.1 242 3)) ≤ (12 : Int32) then (bnd1 (R_X11_findWord  mA M7) (fun M9 => some M9)) else (some (setI M7 242 5 (6 : Int32))))
theorem S_X11_letters {sh : List SC} {M : Mem}  {mA : Nat} {oA : Nat} {M' : Mem} (hb1 : ModelAt sh mA oA)  (h : R_X11_letters mA M = some M') : Gu m_X11_letters [.ref 242] sh M M' := by
  refine Sp.of (ls := [some (.ref 242)]) (by decide +kernel) (Nat.le_of_ble_eq_true rfl) rfl ?_
  have k0 : kd sh 242 = some (10 + 7, 0) := hb1.1
  unfold R_X11_letters at h
  obtain ⟨M7, w7, h⟩ := bnd1_el h
  refine LW_X11_letters_0 hb1 _ _ _ w7 ?_
  refine r_aload_n e_X11_letters_67 rfl ?_
  refine r_getI e_X11_letters_68 fl_X11_11 i0 k0 ?_
  refine r_aload_n e_X11_letters_71 rfl ?_
  refine r_getI e_X11_letters_72 fl_X11_18 i0 k0 ?_
  refine r_isub e_X11_letters_75 ?_
  refine r_bipush e_X11_letters_76 bp_12 ?_
  refine r_icmp_le e_X11_letters_78 (fun c8 => ?_) (fun c8 => ?_)
  · rw [if_pos c8] at h
    refine r_aload_n e_X11_letters_88 rfl ?_
    obtain ⟨M9, w9, h⟩ := bnd1_el h
    refine cV0u e_X11_letters_89 cl_X11_52 ⟨Nat.le_of_ble_eq_true rfl, Nat.le_of_ble_eq_true rfl⟩ ⟨rfl, rfl⟩ k0 (Nat.le_of_ble_eq_true rfl) (S_X11_findWord hb1 w9) ?_
    refine r_return e_X11_letters_92 rfl ⟨rfl, rfl⟩ ?_
    obtain rfl := Option.some.inj h; exact ⟨rfl, rfl, rfl⟩
  · rw [if_neg c8] at h
    refine r_aload_n e_X11_letters_81 rfl ?_
    refine r_bipush e_X11_letters_82 bp_6 ?_
    refine r_putI e_X11_letters_84 fl_X11_28 k0 ?_
    refine r_return e_X11_letters_87 rfl ⟨rfl, rfl⟩ ?_
    obtain rfl := Option.some.inj h; exact ⟨rfl, rfl, rfl⟩
def L_X11_findPut_38 (x1 : Int32) (x2 : Int32) (x3 : Int32) (mA : Nat) (w5 : Int32) : Nat → Nat → Int32 → Mem → Option (Int32 × Mem)
  | 0, i38, u4, M => some (u4, M)
  | n + 1, i38, u4, M => bnd2 (if u4 ≤ (V_X11_distance x1 x2 w5 (nI i38) M) then (some (u4, M)) else (bnd1 (R_X11_robotAt w5 (nI i38) x3 mA M) (fun v6 => if 0 ≤ v6 then (some (u4, M)) else (bd1 (V_X11_distance x1 x2 w5 (nI i38) M) (fun v8 => (some (v8, setI (setI M 242 31 w5) 242 32 (nI i38)))))))) (fun v5_0 M5 => L_X11_findPut_38 x1 x2 x3 mA w5 n (i38 + 1) v5_0 M5)
theorem LW_X11_findPut_38 {sh : List SC} {Q : Po} {x1 : Int32} {x2 : Int32} {x3 : Int32} {mA : Nat} {oA : Nat} {w5 : Int32} (hb1 : ModelAt sh mA oA)  : ∀ (n i38 : Nat) (u4 : Int32) (M : Mem) (z4 : Int32) (Mz : Mem), i38 + n = 9 → L_X11_findPut_38 x1 x2 x3 mA w5 n i38 u4 M = some (z4, Mz) → WP m_X11_findPut Q 100 [some (.ref 242), some (.int x1), some (.int x2), some (.int x3), some (.int z4), some (.int w5), none] [] sh Mz 0 0 → WP m_X11_findPut Q 38 [some (.ref 242), some (.int x1), some (.int x2), some (.int x3), some (.int u4), some (.int w5), some (.int (nI i38))] [] sh M 0 0 := by
  intro n
  induction n with
  | zero =>
    intro i38 u4 M z4 Mz hi h hE
    rw [L_X11_findPut_38] at h
    have hz : (9 : Int32) ≤ nI i38 := by
      have q : i38 = 9 := by omega
      rw [q]; exact nI_le (Nat.le_refl _) (by decide)
    refine r_iload e_X11_findPut_38 rfl ?_
    refine r_bipush e_X11_findPut_40 bp_9 ?_
    refine r_icmp_ge e_X11_findPut_42 (fun _ => ?_) (fun hh => absurd hz hh)
    refine d_7_6 ?_
    obtain ⟨rfl, rfl⟩ := ps2 h; exact hE
  | succ n ih =>
    intro i38 u4 M z4 Mz hi h hE
    rw [L_X11_findPut_38] at h
    have hlt_i38 : i38 < 9 := by omega
    have hcl_i38 : (nI i38).toNatClampNeg = i38 := nI_clamp (by omega)
    have hs : ¬ (9 : Int32) ≤ nI i38 := nI_ge (b := 9) hlt_i38 (by decide)
    have k0 : kd sh 242 = some (10 + 7, 0) := hb1.1
    refine r_iload e_X11_findPut_38 rfl ?_
    refine r_bipush e_X11_findPut_40 bp_9 ?_
    refine r_icmp_ge e_X11_findPut_42 (fun hh => absurd hh hs) (fun _ => ?_)
    refine r_iload_n e_X11_findPut_45 rfl ?_
    refine r_iload_n e_X11_findPut_46 rfl ?_
    refine r_iload e_X11_findPut_47 rfl ?_
    refine r_iload e_X11_findPut_49 rfl ?_
    refine cS4v e_X11_findPut_51 cl_X11_274 ⟨Nat.le_of_ble_eq_true rfl, Nat.le_of_ble_eq_true rfl⟩ ⟨rfl, rfl⟩  (Nat.le_of_ble_eq_true rfl) (S_X11_distance ) ?_
    refine r_iload e_X11_findPut_54 rfl ?_
    obtain ⟨K5, hK5, h⟩ := bnd2_in h
    suffices j5 : ∀ v5_0 M5, K5 (v5_0, M5) = some (z4, Mz) → WP m_X11_findPut _ 94 [some (.ref 242), some (.int x1), some (.int x2), some (.int x3), some (.int v5_0), some (.int w5), some (.int (nI i38))] [] sh M5 0 0 by
      refine r_icmp_ge e_X11_findPut_56 (fun c3 => ?_) (fun c3 => ?_)
      · rw [if_pos c3] at h
        exact j5 _ _ h
      · rw [if_neg c3] at h
        refine r_aload_n e_X11_findPut_59 rfl ?_
        refine r_iload e_X11_findPut_60 rfl ?_
        refine r_iload e_X11_findPut_62 rfl ?_
        refine r_iload_n e_X11_findPut_64 rfl ?_
        obtain ⟨v6, w6, h⟩ := bnd1_elK h
        refine cV3v e_X11_findPut_65 cl_X11_270 ⟨Nat.le_of_ble_eq_true rfl, Nat.le_of_ble_eq_true rfl⟩ ⟨rfl, rfl⟩ k0 (Nat.le_of_ble_eq_true rfl) (S_X11_robotAt hb1 w6) ?_
        refine r_if_ge e_X11_findPut_68 (fun c7 => ?_) (fun c7 => ?_)
        · rw [if_pos c7] at h
          exact j5 _ _ h
        · rw [if_neg c7] at h
          refine r_iload_n e_X11_findPut_71 rfl ?_
          refine r_iload_n e_X11_findPut_72 rfl ?_
          refine r_iload e_X11_findPut_73 rfl ?_
          refine r_iload e_X11_findPut_75 rfl ?_
          refine cS4v e_X11_findPut_77 cl_X11_274 ⟨Nat.le_of_ble_eq_true rfl, Nat.le_of_ble_eq_true rfl⟩ ⟨rfl, rfl⟩  (Nat.le_of_ble_eq_true rfl) (S_X11_distance ) ?_
          obtain ⟨v8, e8, h⟩ := bd1_elK h
          rw [e8]
          refine p_istore_7_4 e_X11_findPut_80 rfl rfl ?_
          refine r_aload_n e_X11_findPut_82 rfl ?_
          refine r_iload e_X11_findPut_83 rfl ?_
          refine r_putI e_X11_findPut_85 fl_X11_264 k0 ?_
          refine r_aload_n e_X11_findPut_88 rfl ?_
          refine r_iload e_X11_findPut_89 rfl ?_
          refine r_putI e_X11_findPut_91 fl_X11_267 k0 ?_
          exact j5 _ _ h
    intro v5_0 M5 h
    rw [hK5] at h
    refine p_iinc_7_6 e_X11_findPut_94 rfl ic_1 rfl ?_
    rw [nI_1 i38]
    refine r_goto e_X11_findPut_97 ?_
    exact ih _ _ _ _ _ (by omega) h hE
def L_X11_findPut_28 (x1 : Int32) (x2 : Int32) (x3 : Int32) (mA : Nat) : Nat → Nat → Int32 → Mem → Option (Mem)
  | 0, i28, u4, M => some M
  | n + 1, i28, u4, M => bnd2 (L_X11_findPut_38 x1 x2 x3 mA (nI i28) 9 0 u4 M) (fun v9_0 M9 => L_X11_findPut_28 x1 x2 x3 mA n (i28 + 1) v9_0 M9)
theorem LW_X11_findPut_28 {sh : List SC} {Q : Po} {x1 : Int32} {x2 : Int32} {x3 : Int32} {mA : Nat} {oA : Nat}  (hb1 : ModelAt sh mA oA)  : ∀ (n i28 : Nat) (u4 : Int32) (M : Mem) (Mz : Mem), i28 + n = 15 → L_X11_findPut_28 x1 x2 x3 mA n i28 u4 M = some Mz → WP m_X11_findPut Q 106 [none, none, none, none, none, none, none] [] sh Mz 0 0 → WP m_X11_findPut Q 28 [some (.ref 242), some (.int x1), some (.int x2), some (.int x3), some (.int u4), some (.int (nI i28)), none] [] sh M 0 0 := by
  intro n
  induction n with
  | zero =>
    intro i28 u4 M Mz hi h hE
    rw [L_X11_findPut_28] at h
    have hz : (15 : Int32) ≤ nI i28 := by
      have q : i28 = 15 := by omega
      rw [q]; exact nI_le (Nat.le_refl _) (by decide)
    refine r_iload e_X11_findPut_28 rfl ?_
    refine r_bipush e_X11_findPut_30 bp_15 ?_
    refine r_icmp_ge e_X11_findPut_32 (fun _ => ?_) (fun hh => absurd hz hh)
    refine d_7_0 ?_
    refine d_7_1 ?_
    refine d_7_2 ?_
    refine d_7_3 ?_
    refine d_7_4 ?_
    refine d_7_5 ?_
    obtain rfl := Option.some.inj h; exact hE
  | succ n ih =>
    intro i28 u4 M Mz hi h hE
    rw [L_X11_findPut_28] at h
    have hlt_i28 : i28 < 15 := by omega
    have hcl_i28 : (nI i28).toNatClampNeg = i28 := nI_clamp (by omega)
    have hs : ¬ (15 : Int32) ≤ nI i28 := nI_ge (b := 15) hlt_i28 (by decide)
    refine r_iload e_X11_findPut_28 rfl ?_
    refine r_bipush e_X11_findPut_30 bp_15 ?_
    refine r_icmp_ge e_X11_findPut_32 (fun hh => absurd hh hs) (fun _ => ?_)
    refine r_iconst e_X11_findPut_35 ic_0 ?_
    refine p_istore_7_6 e_X11_findPut_36 rfl rfl ?_
    show WP m_X11_findPut _ 38 [some (.ref 242), some (.int x1), some (.int x2), some (.int x3), some (.int u4), some (.int (nI i28)), some (.int (nI 0))] [] sh M 0 0
    obtain ⟨v9_0, M9, w9, h⟩ := bnd2_el h
    refine LW_X11_findPut_38 hb1 9 0 _ _ _ _ (by omega) w9 ?_
    refine p_iinc_7_5 e_X11_findPut_100 rfl ic_1 rfl ?_
    rw [nI_1 i28]
    refine r_goto e_X11_findPut_103 ?_
    exact ih _ _ _ _ (by omega) h hE
def R_X11_findPut (x1 : Int32) (x2 : Int32) (x3 : Int32) (mA : Nat) (M : Mem) : Option (Mem) := bnd1 (R_X11_robotAt x1 x2 x3 mA (setI (setI M 242 31 x1) 242 32 x2)) (fun v1 => if 0 ≤ v1 then (bnd1 (L_X11_findPut_28 x1 x2 x3 mA 15 0 (100 : Int32) (setI (setI M 242 31 x1) 242 32 x2)) (fun M10 => some M10)) else (some (setI (setI M 242 31 x1) 242 32 x2)))
theorem S_X11_findPut {sh : List SC} {M : Mem} {x1 : Int32} {x2 : Int32} {x3 : Int32} {mA : Nat} {oA : Nat} {M' : Mem} (hb1 : ModelAt sh mA oA)  (h : R_X11_findPut x1 x2 x3 mA M = some M') : Gu m_X11_findPut [.ref 242, .int x1, .int x2, .int x3] sh M M' := by
  refine Sp.of (ls := [some (.ref 242), some (.int x1), some (.int x2), some (.int x3), none, none, none]) (by decide +kernel) (Nat.le_of_ble_eq_true rfl) rfl ?_
  have k0 : kd sh 242 = some (10 + 7, 0) := hb1.1
  unfold R_X11_findPut at h
  refine r_aload_n e_X11_findPut_0 rfl ?_
  refine r_iload_n e_X11_findPut_1 rfl ?_
  refine r_putI e_X11_findPut_2 fl_X11_264 k0 ?_
  refine r_aload_n e_X11_findPut_5 rfl ?_
  refine r_iload_n e_X11_findPut_6 rfl ?_
  refine r_putI e_X11_findPut_7 fl_X11_267 k0 ?_
  refine r_aload_n e_X11_findPut_10 rfl ?_
  refine r_iload_n e_X11_findPut_11 rfl ?_
  refine r_iload_n e_X11_findPut_12 rfl ?_
  refine r_iload_n e_X11_findPut_13 rfl ?_
  obtain ⟨v1, w1, h⟩ := bnd1_el h
  refine cV3v e_X11_findPut_14 cl_X11_270 ⟨Nat.le_of_ble_eq_true rfl, Nat.le_of_ble_eq_true rfl⟩ ⟨rfl, rfl⟩ k0 (Nat.le_of_ble_eq_true rfl) (S_X11_robotAt hb1 w1) ?_
  refine r_if_ge e_X11_findPut_17 (fun c2 => ?_) (fun c2 => ?_)
  · rw [if_pos c2] at h
    refine r_bipush e_X11_findPut_21 bp_100 ?_
    refine p_istore_7_4 e_X11_findPut_23 rfl rfl ?_
    refine r_iconst e_X11_findPut_25 ic_0 ?_
    refine p_istore_7_5 e_X11_findPut_26 rfl rfl ?_
    show WP m_X11_findPut _ 28 [some (.ref 242), some (.int x1), some (.int x2), some (.int x3), some (.int (100 : Int32)), some (.int (nI 0)), none] [] sh (setI (setI M 242 31 x1) 242 32 x2) 0 0
    obtain ⟨M10, w10, h⟩ := bnd1_el h
    refine LW_X11_findPut_28 hb1 15 0 _ _ _ (by omega) w10 ?_
    refine r_return e_X11_findPut_106 rfl ⟨rfl, rfl⟩ ?_
    obtain rfl := Option.some.inj h; exact ⟨rfl, rfl, rfl⟩
  · rw [if_neg c2] at h
    refine r_return e_X11_findPut_20 rfl ⟨rfl, rfl⟩ ?_
    obtain rfl := Option.some.inj h; exact ⟨rfl, rfl, rfl⟩
