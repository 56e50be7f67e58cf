def V_X1_isAhead (a : Nat) (x1 : Int32) (x2 : Int32) (M : Mem) : Int32 := if ((V_X10_at (a + 1) x1 4 M) - (V_X10_at (a + 1) x2 4 M)) = 0 then (if ((((V_X10_at (a + 2) x1 4 M) - (V_X10_at (a + 2) x2 4 M)) - (V_X10_at (a + 3) x1 4 M)) + (V_X10_at (a + 3) x2 4 M)) = 0 then (let v2_0 : Int32 := if ((V_X10_at (a + 2) x1 4 M) - (V_X10_at (a + 2) x2 4 M)) = 0 then (if x2 ≤ x1 then (0 : Int32) else (1 : Int32)) else (if ((V_X10_at (a + 2) x1 4 M) - (V_X10_at (a + 2) x2 4 M)) ≤ 0 then (0 : Int32) else (1 : Int32)); v2_0) else (let v5_0 : Int32 := if ((((V_X10_at (a + 2) x1 4 M) - (V_X10_at (a + 2) x2 4 M)) - (V_X10_at (a + 3) x1 4 M)) + (V_X10_at (a + 3) x2 4 M)) ≤ 0 then (0 : Int32) else (1 : Int32); v5_0)) else (let v6_0 : Int32 := if ((V_X10_at (a + 1) x1 4 M) - (V_X10_at (a + 1) x2 4 M)) ≤ 0 then (0 : Int32) else (1 : Int32); v6_0)
theorem Z_X1_isAhead {M : Mem} {a : Nat} {x1 : Int32} {x2 : Int32}   : V_X1_isAhead a x1 x2 M = 0 ∨ V_X1_isAhead a x1 x2 M = 1 := (zi (zi (zi (zi (Or.inl rfl) (Or.inr rfl)) (zi (Or.inl rfl) (Or.inr rfl))) (zi (Or.inl rfl) (Or.inr rfl))) (zi (Or.inl rfl) (Or.inr rfl)))
theorem S_X1_isAhead {sh : List SC} {M : Mem} {a : Nat} {x1 : Int32} {x2 : Int32}  (hb1 : LeagueAt sh a)  : Gv m_X1_isAhead [.ref a, .int x1, .int x2] sh M (.int (V_X1_isAhead a x1 x2 M)) M := by
  refine Sp.of (ls := [some (.ref a), some (.int x1), some (.int x2), none, none, none]) (by decide +kernel) (Nat.le_of_ble_eq_true rfl) rfl ?_
  have k0 : kd sh a = some (1 + 7, 0) := hb1.1
  have k1 : rf sh a 1 = some (a + 1) := hb1.2.1
  have k2 : kd sh (a + 1) = some (0, 4) := hb1.2.2.2.2.1
  have k3 : rf sh a 2 = some (a + 2) := hb1.2.2.1
  have k4 : kd sh (a + 2) = some (0, 4) := hb1.2.2.2.2.2.1
  have k5 : rf sh a 3 = some (a + 3) := hb1.2.2.2.1
  have k6 : kd sh (a + 3) = some (0, 4) := hb1.2.2.2.2.2.2
  refine r_aload_n e_X1_isAhead_0 rfl ?_
  refine r_getR e_X1_isAhead_1 fl_X1_15 k0 k1 ?_
  refine r_iload_n e_X1_isAhead_4 rfl ?_
  refine cSN2v e_X1_isAhead_5 cl_X1_33 ⟨Nat.le_of_ble_eq_true rfl, Nat.le_of_ble_eq_true rfl⟩ ⟨rfl, rfl⟩  (Nat.le_of_ble_eq_true rfl) (S_X10_at k2 (by first | decide | (unfold vp_in; decide) | exact Or.inl rfl | exact Or.inr rfl)) ?_
  refine r_aload_n e_X1_isAhead_8 rfl ?_
  refine r_getR e_X1_isAhead_9 fl_X1_15 k0 k1 ?_
  refine r_iload_n e_X1_isAhead_12 rfl ?_
  refine cSN2v e_X1_isAhead_13 cl_X1_33 ⟨Nat.le_of_ble_eq_true rfl, Nat.le_of_ble_eq_true rfl⟩ ⟨rfl, rfl⟩  (Nat.le_of_ble_eq_true rfl) (S_X10_at k2 (by first | decide | (unfold vp_in; decide) | exact Or.inl rfl | exact Or.inr rfl)) ?_
  refine r_isub e_X1_isAhead_16 ?_
  refine p_istore_n_6_3 e_X1_isAhead_17 rfl rfl ?_
  refine r_aload_n e_X1_isAhead_18 rfl ?_
  refine r_getR e_X1_isAhead_19 fl_X1_19 k0 k3 ?_
  refine r_iload_n e_X1_isAhead_22 rfl ?_
  refine cSN2v e_X1_isAhead_23 cl_X1_33 ⟨Nat.le_of_ble_eq_true rfl, Nat.le_of_ble_eq_true rfl⟩ ⟨rfl, rfl⟩  (Nat.le_of_ble_eq_true rfl) (S_X10_at k4 (by first | decide | (unfold vp_in; decide) | exact Or.inl rfl | exact Or.inr rfl)) ?_
  refine r_aload_n e_X1_isAhead_26 rfl ?_
  refine r_getR e_X1_isAhead_27 fl_X1_19 k0 k3 ?_
  refine r_iload_n e_X1_isAhead_30 rfl ?_
  refine cSN2v e_X1_isAhead_31 cl_X1_33 ⟨Nat.le_of_ble_eq_true rfl, Nat.le_of_ble_eq_true rfl⟩ ⟨rfl, rfl⟩  (Nat.le_of_ble_eq_true rfl) (S_X10_at k4 (by first | decide | (unfold vp_in; decide) | exact Or.inl rfl | exact Or.inr rfl)) ?_
  refine r_isub e_X1_isAhead_34 ?_
  refine p_istore_6_4 e_X1_isAhead_35 rfl rfl ?_
  refine r_iload e_X1_isAhead_37 rfl ?_
  refine r_aload_n e_X1_isAhead_39 rfl ?_
  refine r_getR e_X1_isAhead_40 fl_X1_22 k0 k5 ?_
  refine r_iload_n e_X1_isAhead_43 rfl ?_
  refine cSN2v e_X1_isAhead_44 cl_X1_33 ⟨Nat.le_of_ble_eq_true rfl, Nat.le_of_ble_eq_true rfl⟩ ⟨rfl, rfl⟩  (Nat.le_of_ble_eq_true rfl) (S_X10_at k6 (by first | decide | (unfold vp_in; decide) | exact Or.inl rfl | exact Or.inr rfl)) ?_
  refine r_isub e_X1_isAhead_47 ?_
  refine r_aload_n e_X1_isAhead_48 rfl ?_
  refine r_getR e_X1_isAhead_49 fl_X1_22 k0 k5 ?_
  refine r_iload_n e_X1_isAhead_52 rfl ?_
  refine cSN2v e_X1_isAhead_53 cl_X1_33 ⟨Nat.le_of_ble_eq_true rfl, Nat.le_of_ble_eq_true rfl⟩ ⟨rfl, rfl⟩  (Nat.le_of_ble_eq_true rfl) (S_X10_at k6 (by first | decide | (unfold vp_in; decide) | exact Or.inl rfl | exact Or.inr rfl)) ?_
  refine r_iadd e_X1_isAhead_56 ?_
  refine p_istore_6_5 e_X1_isAhead_57 rfl rfl ?_
  refine r_iload_n e_X1_isAhead_59 rfl ?_
  refine r_if_eq e_X1_isAhead_60 (fun h60_0 => ?_) (fun h60_0 => ?_)
  · refine r_iload e_X1_isAhead_73 rfl ?_
    refine r_if_eq e_X1_isAhead_75 (fun h75_1 => ?_) (fun h75_1 => ?_)
    · refine r_iload e_X1_isAhead_89 rfl ?_
      obtain ⟨v2_0, e_v2_0⟩ : ∃ z : Int32, z = (if ((V_X10_at (a + 2) x1 4 M) - (V_X10_at (a + 2) x2 4 M)) = 0 then (if x2 ≤ x1 then (0 : Int32) else (1 : Int32)) else (if ((V_X10_at (a + 2) x1 4 M) - (V_X10_at (a + 2) x2 4 M)) ≤ 0 then (0 : Int32) else (1 : Int32))) := ⟨_, rfl⟩
      have z_v2_0 : v2_0 = 0 ∨ v2_0 = 1 := by rw [e_v2_0]; exact (zi (zi (Or.inl rfl) (Or.inr rfl)) (zi (Or.inl rfl) (Or.inr rfl)))
      suffices j117_2 : WP m_X1_isAhead (fun r sh' M'' => r = some (.int (V_X1_isAhead a x1 x2 M)) ∧ sh' = sh ∧ M'' = M) 117 [some (.ref a), some (.int x1), some (.int x2), some (.int ((V_X10_at (a + 1) x1 4 M) - (V_X10_at (a + 1) x2 4 M))), some (.int ((V_X10_at (a + 2) x1 4 M) - (V_X10_at (a + 2) x2 4 M))), some (.int ((((V_X10_at (a + 2) x1 4 M) - (V_X10_at (a + 2) x2 4 M)) - (V_X10_at (a + 3) x1 4 M)) + (V_X10_at (a + 3) x2 4 M)))] [.int v2_0] sh M 0 0 by
        refine r_if_eq e_X1_isAhead_91 (fun h91_2 => ?_) (fun h91_2 => ?_)
        · refine r_iload_n e_X1_isAhead_107 rfl ?_
          refine r_iload_n e_X1_isAhead_108 rfl ?_
          refine r_icmp_ge e_X1_isAhead_109 (fun h109_3 => ?_) (fun h109_3 => ?_)
          · refine r_iconst e_X1_isAhead_116 ic_0 ?_
            (rw [show v2_0 = (0 : Int32) from ((e_v2_0.trans (if_pos h91_2)).trans (if_pos h109_3))] at j117_2; exact j117_2)
          · refine r_iconst e_X1_isAhead_112 ic_1 ?_
            refine r_goto e_X1_isAhead_113 ?_
            (rw [show v2_0 = (1 : Int32) from ((e_v2_0.trans (if_pos h91_2)).trans (if_neg h109_3))] at j117_2; exact j117_2)
        · refine r_iload e_X1_isAhead_94 rfl ?_
          refine r_if_le e_X1_isAhead_96 (fun h96_4 => ?_) (fun h96_4 => ?_)
          · refine r_iconst e_X1_isAhead_103 ic_0 ?_
            refine r_goto e_X1_isAhead_104 ?_
            (rw [show v2_0 = (0 : Int32) from ((e_v2_0.trans (if_neg h91_2)).trans (if_pos h96_4))] at j117_2; exact j117_2)
          · refine r_iconst e_X1_isAhead_99 ic_1 ?_
            refine r_goto e_X1_isAhead_100 ?_
            (rw [show v2_0 = (1 : Int32) from ((e_v2_0.trans (if_neg h91_2)).trans (if_neg h96_4))] at j117_2; exact j117_2)
      refine r_zreturn e_X1_isAhead_117 rfl ⟨rfl, rfl⟩ z_v2_0 ?_
      (subst e_v2_0; refine ⟨?_, rfl, ?_⟩ <;> ((try unfold V_X1_isAhead); (try simp only [if_pos h60_0, if_pos h75_1]); (try rfl)))
    · refine r_iload e_X1_isAhead_78 rfl ?_
      obtain ⟨v5_0, e_v5_0⟩ : ∃ z : Int32, z = (if ((((V_X10_at (a + 2) x1 4 M) - (V_X10_at (a + 2) x2 4 M)) - (V_X10_at (a + 3) x1 4 M)) + (V_X10_at (a + 3) x2 4 M)) ≤ 0 then (0 : Int32) else (1 : Int32)) := ⟨_, rfl⟩
      have z_v5_0 : v5_0 = 0 ∨ v5_0 = 1 := by rw [e_v5_0]; exact (zi (Or.inl rfl) (Or.inr rfl))
      suffices j88_5 : WP m_X1_isAhead (fun r sh' M'' => r = some (.int (V_X1_isAhead a x1 x2 M)) ∧ sh' = sh ∧ M'' = M) 88 [some (.ref a), some (.int x1), some (.int x2), some (.int ((V_X10_at (a + 1) x1 4 M) - (V_X10_at (a + 1) x2 4 M))), some (.int ((V_X10_at (a + 2) x1 4 M) - (V_X10_at (a + 2) x2 4 M))), some (.int ((((V_X10_at (a + 2) x1 4 M) - (V_X10_at (a + 2) x2 4 M)) - (V_X10_at (a + 3) x1 4 M)) + (V_X10_at (a + 3) x2 4 M)))] [.int v5_0] sh M 0 0 by
        refine r_if_le e_X1_isAhead_80 (fun h80_5 => ?_) (fun h80_5 => ?_)
        · refine r_iconst e_X1_isAhead_87 ic_0 ?_
          (rw [show v5_0 = (0 : Int32) from (e_v5_0.trans (if_pos h80_5))] at j88_5; exact j88_5)
        · refine r_iconst e_X1_isAhead_83 ic_1 ?_
          refine r_goto e_X1_isAhead_84 ?_
          (rw [show v5_0 = (1 : Int32) from (e_v5_0.trans (if_neg h80_5))] at j88_5; exact j88_5)
      refine r_zreturn e_X1_isAhead_88 rfl ⟨rfl, rfl⟩ z_v5_0 ?_
      (subst e_v5_0; refine ⟨?_, rfl, ?_⟩ <;> ((try unfold V_X1_isAhead); (try simp only [if_pos h60_0, if_neg h75_1]); (try rfl)))
  · refine r_iload_n e_X1_isAhead_63 rfl ?_
    obtain ⟨v6_0, e_v6_0⟩ : ∃ z : Int32, z = (if ((V_X10_at (a + 1) x1 4 M) - (V_X10_at (a + 1) x2 4 M)) ≤ 0 then (0 : Int32) else (1 : Int32)) := ⟨_, rfl⟩
    have z_v6_0 : v6_0 = 0 ∨ v6_0 = 1 := by rw [e_v6_0]; exact (zi (Or.inl rfl) (Or.inr rfl))
    suffices j72_6 : WP m_X1_isAhead (fun r sh' M'' => r = some (.int (V_X1_isAhead a x1 x2 M)) ∧ sh' = sh ∧ M'' = M) 72 [some (.ref a), some (.int x1), some (.int x2), some (.int ((V_X10_at (a + 1) x1 4 M) - (V_X10_at (a + 1) x2 4 M))), some (.int ((V_X10_at (a + 2) x1 4 M) - (V_X10_at (a + 2) x2 4 M))), some (.int ((((V_X10_at (a + 2) x1 4 M) - (V_X10_at (a + 2) x2 4 M)) - (V_X10_at (a + 3) x1 4 M)) + (V_X10_at (a + 3) x2 4 M)))] [.int v6_0] sh M 0 0 by
      refine r_if_le e_X1_isAhead_64 (fun h64_6 => ?_) (fun h64_6 => ?_)
      · refine r_iconst e_X1_isAhead_71 ic_0 ?_
        (rw [show v6_0 = (0 : Int32) from (e_v6_0.trans (if_pos h64_6))] at j72_6; exact j72_6)
      · refine r_iconst e_X1_isAhead_67 ic_1 ?_
        refine r_goto e_X1_isAhead_68 ?_
        (rw [show v6_0 = (1 : Int32) from (e_v6_0.trans (if_neg h64_6))] at j72_6; exact j72_6)
    refine r_zreturn e_X1_isAhead_72 rfl ⟨rfl, rfl⟩ z_v6_0 ?_
    (subst e_v6_0; refine ⟨?_, rfl, ?_⟩ <;> ((try unfold V_X1_isAhead); (try simp only [if_neg h60_0]); (try rfl)))
def V_X10_count (x1 : Int32) (M : Mem) : Int32 := if x1 = 0 then (M.1 0 10) else (if x1 = 1 then (V_X4_length 2 M) else (if x1 = 2 then (let v0_0 : Int32 := if (M.1 0 10) = 0 then (0 : Int32) else (M.1 (16 + 15 * 0) 0); v0_0) else (if x1 = 3 then (M.1 0 9) else (if x1 = 4 then (let v1_0 : Int32 := if (M.1 122 6) = 0 then (0 : Int32) else (1 : Int32); v1_0) else (V_X10_finding (-1001 : Int32) M)))))
def U_X10_count (x1 : Int32) (M : Mem) : Mem := if x1 = 0 then M else (if x1 = 1 then M else (if x1 = 2 then M else (if x1 = 3 then M else (if x1 = 4 then M else (U_X10_finding (-1001 : Int32) M)))))
theorem S_X10_count {sh : List SC} {M : Mem} {x1 : Int32}  (hb1 : PitchAt sh)  : Gv m_X10_count [.ref 0, .int x1] sh M (.int (V_X10_count x1 M)) (U_X10_count x1 M) := by
  refine Sp.of (ls := [some (.ref 0), some (.int x1)]) (by decide +kernel) (Nat.le_of_ble_eq_true rfl) rfl ?_
  have k0 : kd sh 0 = some (9 + 7, 0) := hb1.1
  have k1 : rf sh 0 1 = some 2 := hb1.2.2.1
  have k2 : kd sh 2 = some (4 + 7, 0) := hb1.2.2.2.2.2.2.2.2.2.2.2.2.2.2.1.1
  have k3 : rf sh 0 2 = some 8 := hb1.2.2.2.1
  have k4 : kd sh 8 = some (3, 6) := hb1.2.2.2.2.2.2.2.2.2.2.2.2.2.2.2.2.2.2.1
  have k5 : kd sh (16 + 15 * 0) = some (3 + 7, 0) := (hb1.2.2.2.2.2.2.2.2.2.2.2.2.2.2.2.2.2.2.2.1 0 (by decide)).2.1
  have k6 : rf sh 0 4 = some 122 := hb1.2.2.2.2.2.1
  have k7 : kd sh 122 = some (2 + 7, 0) := hb1.2.2.2.2.2.2.2.2.2.2.2.2.2.2.2.2.1.1
  refine r_iload_n e_X10_count_0 rfl ?_
  by_cases hs1_0 : x1 = 0
  · refine r_tabIn (tgt := 36) (off := 35) e_X10_count_1 (by rw [hs1_0]; decide) (by rw [hs1_0]; decide) (by rw [hs1_0]; rfl) (by decide) ?_
    refine r_aload_n e_X10_count_36 rfl ?_
    refine r_getI e_X10_count_37 fl_X10_52 i0 k0 ?_
    refine r_ireturn e_X10_count_40 rfl ⟨rfl, rfl⟩ ?_
    (refine ⟨?_, rfl, ?_⟩ <;> ((try unfold V_X10_count); (try unfold U_X10_count); (try simp only [if_pos hs1_0]); (try rfl)))
  · by_cases hs1_1 : x1 = 1
    · refine r_tabIn (tgt := 41) (off := 40) e_X10_count_1 (by rw [hs1_1]; decide) (by rw [hs1_1]; decide) (by rw [hs1_1]; rfl) (by decide) ?_
      refine r_aload_n e_X10_count_41 rfl ?_
      refine r_getR e_X10_count_42 fl_X10_16 k0 k1 ?_
      refine cV0v e_X10_count_45 cl_X10_74 ⟨Nat.le_of_ble_eq_true rfl, Nat.le_of_ble_eq_true rfl⟩ ⟨rfl, rfl⟩ k2 (Nat.le_of_ble_eq_true rfl) (S_X4_length hb1.2.2.2.2.2.2.2.2.2.2.2.2.2.2.1) ?_
      refine r_ireturn e_X10_count_48 rfl ⟨rfl, rfl⟩ ?_
      (refine ⟨?_, rfl, ?_⟩ <;> ((try unfold V_X10_count); (try unfold U_X10_count); (try simp only [if_neg hs1_0, if_pos hs1_1]); (try rfl)))
    · by_cases hs1_2 : x1 = 2
      · refine r_tabIn (tgt := 49) (off := 48) e_X10_count_1 (by rw [hs1_2]; decide) (by rw [hs1_2]; decide) (by rw [hs1_2]; rfl) (by decide) ?_
        refine r_aload_n e_X10_count_49 rfl ?_
        refine r_getI e_X10_count_50 fl_X10_52 i0 k0 ?_
        obtain ⟨v0_0, e_v0_0⟩ : ∃ z : Int32, z = (if (M.1 0 10) = 0 then (0 : Int32) else (M.1 (16 + 15 * 0) 0)) := ⟨_, rfl⟩
        suffices j69_0 : WP m_X10_count (fun r sh' M'' => r = some (.int (V_X10_count x1 M)) ∧ sh' = sh ∧ M'' = (U_X10_count x1 M)) 69 [some (.ref 0), some (.int x1)] [.int v0_0] sh M 0 0 by
          refine r_if_ne e_X10_count_53 (fun h53_0 => ?_) (fun h53_0 => ?_)
          · refine r_aload_n e_X10_count_60 rfl ?_
            refine r_getR e_X10_count_61 fl_X10_22 k0 k3 ?_
            refine r_iconst e_X10_count_64 ic_0 ?_
            refine r_aaload (b := (16 + 15 * 0)) e_X10_count_65 k4 ⟨by decide, by decide⟩ (by unfold vp_in; decide) (show rf sh 8 (0 : Int32).toNatClampNeg = some (16 + 15 * 0) from (hb1.2.2.2.2.2.2.2.2.2.2.2.2.2.2.2.2.2.2.2.1 0 (by decide)).1) ?_
            refine r_getI e_X10_count_66 fl_X10_196 i0 k5 ?_
            (rw [show v0_0 = (M.1 (16 + 15 * 0) 0) from (e_v0_0.trans (if_neg h53_0))] at j69_0; exact j69_0)
          · refine r_iconst e_X10_count_56 ic_0 ?_
            refine r_goto e_X10_count_57 ?_
            (rw [show v0_0 = (0 : Int32) from (e_v0_0.trans (if_pos h53_0))] at j69_0; exact j69_0)
        refine r_ireturn e_X10_count_69 rfl ⟨rfl, rfl⟩ ?_
        (subst e_v0_0; refine ⟨?_, rfl, ?_⟩ <;> ((try unfold V_X10_count); (try unfold U_X10_count); (try simp only [if_neg hs1_0, if_neg hs1_1, if_pos hs1_2]); (try rfl)))
      · by_cases hs1_3 : x1 = 3
        · refine r_tabIn (tgt := 70) (off := 69) e_X10_count_1 (by rw [hs1_3]; decide) (by rw [hs1_3]; decide) (by rw [hs1_3]; rfl) (by decide) ?_
          refine r_aload_n e_X10_count_70 rfl ?_
          refine r_getI e_X10_count_71 fl_X10_48 i0 k0 ?_
          refine r_ireturn e_X10_count_74 rfl ⟨rfl, rfl⟩ ?_
          (refine ⟨?_, rfl, ?_⟩ <;> ((try unfold V_X10_count); (try unfold U_X10_count); (try simp only [if_neg hs1_0, if_neg hs1_1, if_neg hs1_2, if_pos hs1_3]); (try rfl)))
        · by_cases hs1_4 : x1 = 4
          · refine r_tabIn (tgt := 75) (off := 74) e_X10_count_1 (by rw [hs1_4]; decide) (by rw [hs1_4]; decide) (by rw [hs1_4]; rfl) (by decide) ?_
            refine r_aload_n e_X10_count_75 rfl ?_
            refine r_getR e_X10_count_76 fl_X10_63 k0 k6 ?_
            refine r_getI e_X10_count_79 fl_X10_115 i3 k7 ?_
            obtain ⟨v1_0, e_v1_0⟩ : ∃ z : Int32, z = (if (M.1 122 6) = 0 then (0 : Int32) else (1 : Int32)) := ⟨_, rfl⟩
            have z_v1_0 : v1_0 = 0 ∨ v1_0 = 1 := by rw [e_v1_0]; exact (zi (Or.inl rfl) (Or.inr rfl))
            suffices j90_1 : WP m_X10_count (fun r sh' M'' => r = some (.int (V_X10_count x1 M)) ∧ sh' = sh ∧ M'' = (U_X10_count x1 M)) 90 [some (.ref 0), some (.int x1)] [.int v1_0] sh M 0 0 by
              refine r_if_eq e_X10_count_82 (fun h82_1 => ?_) (fun h82_1 => ?_)
              · refine r_iconst e_X10_count_89 ic_0 ?_
                (rw [show v1_0 = (0 : Int32) from (e_v1_0.trans (if_pos h82_1))] at j90_1; exact j90_1)
              · refine r_iconst e_X10_count_85 ic_1 ?_
                refine r_goto e_X10_count_86 ?_
                (rw [show v1_0 = (1 : Int32) from (e_v1_0.trans (if_neg h82_1))] at j90_1; exact j90_1)
            refine r_ireturn e_X10_count_90 rfl ⟨rfl, rfl⟩ ?_
            (subst e_v1_0; refine ⟨?_, rfl, ?_⟩ <;> ((try unfold V_X10_count); (try unfold U_X10_count); (try simp only [if_neg hs1_0, if_neg hs1_1, if_neg hs1_2, if_neg hs1_3, if_pos hs1_4]); (try rfl)))
          · refine r_tabOut (tgt := 91) e_X10_count_1 (by have q0 := lv_neT hs1_0 (show (0 : Int32).toInt = 0 from rfl); have q1 := lv_neT hs1_1 (show (1 : Int32).toInt = 1 from rfl); have q2 := lv_neT hs1_2 (show (2 : Int32).toInt = 2 from rfl); have q3 := lv_neT hs1_3 (show (3 : Int32).toInt = 3 from rfl); have q4 := lv_neT hs1_4 (show (4 : Int32).toInt = 4 from rfl); omega) (by decide) ?_
            refine r_aload_n e_X10_count_91 rfl ?_
            refine r_sipush e_X10_count_92 sp_m1001 ?_
            refine cV1v e_X10_count_95 cl_X10_70 ⟨Nat.le_of_ble_eq_true rfl, Nat.le_of_ble_eq_true rfl⟩ ⟨rfl, rfl⟩ k0 (Nat.le_of_ble_eq_true rfl) (S_X10_finding hb1) ?_
            refine r_ireturn e_X10_count_98 rfl ⟨rfl, rfl⟩ ?_
            (refine ⟨?_, rfl, ?_⟩ <;> ((try unfold V_X10_count); (try unfold U_X10_count); (try simp only [if_neg hs1_0, if_neg hs1_1, if_neg hs1_2, if_neg hs1_3, if_neg hs1_4]); (try rfl)))
def V_X10_found (x1 : Int32) (M : Mem) : Int32 := if (-1001 : Int32) < x1 then (V_X10_finding (-1001 : Int32) M) else (if (-1006 : Int32) < x1 then (V_X10_at 1 ((-1001 : Int32) - x1) 5 M) else (V_X10_finding (-1001 : Int32) M))
def U_X10_found (x1 : Int32) (M : Mem) : Mem := if (-1001 : Int32) < x1 then (U_X10_finding (-1001 : Int32) M) else (if (-1006 : Int32) < x1 then M else (U_X10_finding (-1001 : Int32) M))
theorem S_X10_found {sh : List SC} {M : Mem} {x1 : Int32}  (hb1 : PitchAt sh)  : Gv m_X10_found [.ref 0, .int x1] sh M (.int (V_X10_found x1 M)) (U_X10_found x1 M) := by
  refine Sp.of (ls := [some (.ref 0), some (.int x1)]) (by decide +kernel) (Nat.le_of_ble_eq_true rfl) rfl ?_
  have k0 : kd sh 0 = some (9 + 7, 0) := hb1.1
  have k1 : rf sh 0 0 = some 1 := hb1.2.1
  have k2 : kd sh 1 = some (0, 5) := hb1.2.2.2.2.2.2.2.2.2.2.1
  refine r_iload_n e_X10_found_0 rfl ?_
  refine r_sipush e_X10_found_1 sp_m1001 ?_
  refine r_icmp_gt e_X10_found_4 (fun h4_0 => ?_) (fun h4_0 => ?_)
  · refine r_aload_n e_X10_found_14 rfl ?_
    refine r_sipush e_X10_found_15 sp_m1001 ?_
    refine cV1v e_X10_found_18 cl_X10_70 ⟨Nat.le_of_ble_eq_true rfl, Nat.le_of_ble_eq_true rfl⟩ ⟨rfl, rfl⟩ k0 (Nat.le_of_ble_eq_true rfl) (S_X10_finding hb1) ?_
    refine r_ireturn e_X10_found_21 rfl ⟨rfl, rfl⟩ ?_
    (refine ⟨?_, rfl, ?_⟩ <;> ((try unfold V_X10_found); (try unfold U_X10_found); (try simp only [if_pos h4_0]); (try rfl)))
  · refine r_iload_n e_X10_found_7 rfl ?_
    refine r_sipush e_X10_found_8 sp_m1006 ?_
    refine r_icmp_gt e_X10_found_11 (fun h11_1 => ?_) (fun h11_1 => ?_)
    · refine r_aload_n e_X10_found_22 rfl ?_
      refine r_getR e_X10_found_23 fl_X10_9 k0 k1 ?_
      refine r_sipush e_X10_found_26 sp_m1001 ?_
      refine r_iload_n e_X10_found_29 rfl ?_
      refine r_isub e_X10_found_30 ?_
      refine cS2v e_X10_found_31 cl_X10_192 ⟨Nat.le_of_ble_eq_true rfl, Nat.le_of_ble_eq_true rfl⟩ ⟨rfl, rfl⟩  (Nat.le_of_ble_eq_true rfl) (S_X10_at k2 (by first | decide | (unfold vp_in; decide) | exact Or.inl rfl | exact Or.inr rfl)) ?_
      refine r_ireturn e_X10_found_34 rfl ⟨rfl, rfl⟩ ?_
      (refine ⟨?_, rfl, ?_⟩ <;> ((try unfold V_X10_found); (try unfold U_X10_found); (try simp only [if_neg h4_0, if_pos h11_1]); (try rfl)))
    · refine r_aload_n e_X10_found_14 rfl ?_
      refine r_sipush e_X10_found_15 sp_m1001 ?_
      refine cV1v e_X10_found_18 cl_X10_70 ⟨Nat.le_of_ble_eq_true rfl, Nat.le_of_ble_eq_true rfl⟩ ⟨rfl, rfl⟩ k0 (Nat.le_of_ble_eq_true rfl) (S_X10_finding hb1) ?_
      refine r_ireturn e_X10_found_21 rfl ⟨rfl, rfl⟩ ?_
      (refine ⟨?_, rfl, ?_⟩ <;> ((try unfold V_X10_found); (try unfold U_X10_found); (try simp only [if_neg h4_0, if_neg h11_1]); (try rfl)))
def V_X11_isLetter (x1 : Int32) (M : Mem) : Int32 := (let v0_0 : Int32 := if x1 < (97 : Int32) then (0 : Int32) else (if (122 : Int32) < x1 then (0 : Int32) else (1 : Int32)); v0_0)
theorem Z_X11_isLetter {M : Mem} {x1 : Int32}   : V_X11_isLetter x1 M = 0 ∨ V_X11_isLetter x1 M = 1 := (zi (Or.inl rfl) (zi (Or.inl rfl) (Or.inr rfl)))
theorem S_X11_isLetter {sh : List SC} {M : Mem} {x1 : Int32}    : Gv m_X11_isLetter [.int x1] sh M (.int (V_X11_isLetter x1 M)) M := by
  refine Sp.of (ls := [some (.int x1)]) (by decide +kernel) (Nat.le_of_ble_eq_true rfl) rfl ?_
  refine r_iload_n e_X11_isLetter_0 rfl ?_
  refine r_bipush e_X11_isLetter_1 bp_97 ?_
  obtain ⟨v0_0, e_v0_0⟩ : ∃ z : Int32, z = (if x1 < (97 : Int32) then (0 : Int32) else (if (122 : Int32) < x1 then (0 : Int32) else (1 : Int32))) := ⟨_, rfl⟩
  have z_v0_0 : v0_0 = 0 ∨ v0_0 = 1 := by rw [e_v0_0]; exact (zi (Or.inl rfl) (zi (Or.inl rfl) (Or.inr rfl)))
  suffices j17_0 : WP m_X11_isLetter (fun r sh' M'' => r = some (.int (V_X11_isLetter x1 M)) ∧ sh' = sh ∧ M'' = M) 17 [some (.int x1)] [.int v0_0] sh M 0 0 by
    refine r_icmp_lt e_X11_isLetter_3 (fun h3_0 => ?_) (fun h3_0 => ?_)
    · refine r_iconst e_X11_isLetter_16 ic_0 ?_
      (rw [show v0_0 = (0 : Int32) from (e_v0_0.trans (if_pos h3_0))] at j17_0; exact j17_0)
    · refine r_iload_n e_X11_isLetter_6 rfl ?_
      refine r_bipush e_X11_isLetter_7 bp_122 ?_
      refine r_icmp_gt e_X11_isLetter_9 (fun h9_1 => ?_) (fun h9_1 => ?_)
      · refine r_iconst e_X11_isLetter_16 ic_0 ?_
        (rw [show v0_0 = (0 : Int32) from ((e_v0_0.trans (if_neg h3_0)).trans (if_pos h9_1))] at j17_0; exact j17_0)
      · refine r_iconst e_X11_isLetter_12 ic_1 ?_
        refine r_goto e_X11_isLetter_13 ?_
        (rw [show v0_0 = (1 : Int32) from ((e_v0_0.trans (if_neg h3_0)).trans (if_neg h9_1))] at j17_0; exact j17_0)
  refine r_zreturn e_X11_isLetter_17 rfl ⟨rfl, rfl⟩ z_v0_0 ?_
  (subst e_v0_0; refine ⟨?_, rfl, ?_⟩ <;> ((try unfold V_X11_isLetter); (try simp only []); (try rfl)))
def V_X11_isFigure (x1 : Int32) (M : Mem) : Int32 := (let v0_0 : Int32 := if x1 < (48 : Int32) then (0 : Int32) else (if (57 : Int32) < x1 then (0 : Int32) else (1 : Int32)); v0_0)
theorem Z_X11_isFigure {M : Mem} {x1 : Int32}   : V_X11_isFigure x1 M = 0 ∨ V_X11_isFigure x1 M = 1 := (zi (Or.inl rfl) (zi (Or.inl rfl) (Or.inr rfl)))
theorem S_X11_isFigure {sh : List SC} {M : Mem} {x1 : Int32}    : Gv m_X11_isFigure [.int x1] sh M (.int (V_X11_isFigure x1 M)) M := by
  refine Sp.of (ls := [some (.int x1)]) (by decide +kernel) (Nat.le_of_ble_eq_true rfl) rfl ?_
  refine r_iload_n e_X11_isFigure_0 rfl ?_
  refine r_bipush e_X11_isFigure_1 bp_48 ?_
  obtain ⟨v0_0, e_v0_0⟩ : ∃ z : Int32, z = (if x1 < (48 : Int32) then (0 : Int32) else (if (57 : Int32) < x1 then (0 : Int32) else (1 : Int32))) := ⟨_, rfl⟩
  have z_v0_0 : v0_0 = 0 ∨ v0_0 = 1 := by rw [e_v0_0]; exact (zi (Or.inl rfl) (zi (Or.inl rfl) (Or.inr rfl)))
  suffices j17_0 : WP m_X11_isFigure (fun r sh' M'' => r = some (.int (V_X11_isFigure x1 M)) ∧ sh' = sh ∧ M'' = M) 17 [some (.int x1)] [.int v0_0] sh M 0 0 by
    refine r_icmp_lt e_X11_isFigure_3 (fun h3_0 => ?_) (fun h3_0 => ?_)
    · refine r_iconst e_X11_isFigure_16 ic_0 ?_
      (rw [show v0_0 = (0 : Int32) from (e_v0_0.trans (if_pos h3_0))] at j17_0; exact j17_0)
    · refine r_iload_n e_X11_isFigure_6 rfl ?_
      refine r_bipush e_X11_isFigure_7 bp_57 ?_
      refine r_icmp_gt e_X11_isFigure_9 (fun h9_1 => ?_) (fun h9_1 => ?_)
      · refine r_iconst e_X11_isFigure_16 ic_0 ?_
        (rw [show v0_0 = (0 : Int32) from ((e_v0_0.trans (if_neg h3_0)).trans (if_pos h9_1))] at j17_0; exact j17_0)
      · refine r_iconst e_X11_isFigure_12 ic_1 ?_
        refine r_goto e_X11_isFigure_13 ?_
        (rw [show v0_0 = (1 : Int32) from ((e_v0_0.trans (if_neg h3_0)).trans (if_neg h9_1))] at j17_0; exact j17_0)
  refine r_zreturn e_X11_isFigure_17 rfl ⟨rfl, rfl⟩ z_v0_0 ?_
  (subst e_v0_0; refine ⟨?_, rfl, ?_⟩ <;> ((try unfold V_X11_isFigure); (try simp only []); (try rfl)))
def V_X11_isSign (x1 : Int32) (M : Mem) : Int32 := (let v0_0 : Int32 := if x1 = (123 : Int32) then (1 : Int32) else (if x1 = (125 : Int32) then (1 : Int32) else (if x1 = (60 : Int32) then (1 : Int32) else (if x1 = (61 : Int32) then (1 : Int32) else (if x1 = (62 : Int32) then (1 : Int32) else (if x1 = (43 : Int32) then (1 : Int32) else (if x1 = (45 : Int32) then (1 : Int32) else (if x1 = (42 : Int32) then (1 : Int32) else (if x1 = (59 : Int32) then (1 : Int32) else (0 : Int32))))))))); v0_0)
theorem Z_X11_isSign {M : Mem} {x1 : Int32}   : V_X11_isSign x1 M = 0 ∨ V_X11_isSign x1 M = 1 := (zi (Or.inr rfl) (zi (Or.inr rfl) (zi (Or.inr rfl) (zi (Or.inr rfl) (zi (Or.inr rfl) (zi (Or.inr rfl) (zi (Or.inr rfl) (zi (Or.inr rfl) (zi (Or.inr rfl) (Or.inl rfl))))))))))
theorem S_X11_isSign {sh : List SC} {M : Mem} {x1 : Int32}    : Gv m_X11_isSign [.int x1] sh M (.int (V_X11_isSign x1 M)) M := by
  refine Sp.of (ls := [some (.int x1)]) (by decide +kernel) (Nat.le_of_ble_eq_true rfl) rfl ?_
  refine r_iload_n e_X11_isSign_0 rfl ?_
  refine r_bipush e_X11_isSign_1 bp_123 ?_
  obtain ⟨v0_0, e_v0_0⟩ : ∃ z : Int32, z = (if x1 = (123 : Int32) then (1 : Int32) else (if x1 = (125 : Int32) then (1 : Int32) else (if x1 = (60 : Int32) then (1 : Int32) else (if x1 = (61 : Int32) then (1 : Int32) else (if x1 = (62 : Int32) then (1 : Int32) else (if x1 = (43 : Int32) then (1 : Int32) else (if x1 = (45 : Int32) then (1 : Int32) else (if x1 = (42 : Int32) then (1 : Int32) else (if x1 = (59 : Int32) then (1 : Int32) else (0 : Int32)))))))))) := ⟨_, rfl⟩
  have z_v0_0 : v0_0 = 0 ∨ v0_0 = 1 := by rw [e_v0_0]; exact (zi (Or.inr rfl) (zi (Or.inr rfl) (zi (Or.inr rfl) (zi (Or.inr rfl) (zi (Or.inr rfl) (zi (Or.inr rfl) (zi (Or.inr rfl) (zi (Or.inr rfl) (zi (Or.inr rfl) (Or.inl rfl))))))))))
  suffices j59_0 : WP m_X11_isSign (fun r sh' M'' => r = some (.int (V_X11_isSign x1 M)) ∧ sh' = sh ∧ M'' = M) 59 [some (.int x1)] [.int v0_0] sh M 0 0 by
    refine r_icmp_eq e_X11_isSign_3 (fun h3_0 => ?_) (fun h3_0 => ?_)
    · refine r_iconst e_X11_isSign_54 ic_1 ?_
      refine r_goto e_X11_isSign_55 ?_
      (rw [show v0_0 = (1 : Int32) from (e_v0_0.trans (if_pos h3_0))] at j59_0; exact j59_0)
    · refine r_iload_n e_X11_isSign_6 rfl ?_
      refine r_bipush e_X11_isSign_7 bp_125 ?_
      refine r_icmp_eq e_X11_isSign_9 (fun h9_1 => ?_) (fun h9_1 => ?_)
      · refine r_iconst e_X11_isSign_54 ic_1 ?_
        refine r_goto e_X11_isSign_55 ?_
        (rw [show v0_0 = (1 : Int32) from ((e_v0_0.trans (if_neg h3_0)).trans (if_pos h9_1))] at j59_0; exact j59_0)
      · refine r_iload_n e_X11_isSign_12 rfl ?_
        refine r_bipush e_X11_isSign_13 bp_60 ?_
        refine r_icmp_eq e_X11_isSign_15 (fun h15_2 => ?_) (fun h15_2 => ?_)
        · refine r_iconst e_X11_isSign_54 ic_1 ?_
          refine r_goto e_X11_isSign_55 ?_
          (rw [show v0_0 = (1 : Int32) from (((e_v0_0.trans (if_neg h3_0)).trans (if_neg h9_1)).trans (if_pos h15_2))] at j59_0; exact j59_0)
        · refine r_iload_n e_X11_isSign_18 rfl ?_
          refine r_bipush e_X11_isSign_19 bp_61 ?_
          refine r_icmp_eq e_X11_isSign_21 (fun h21_3 => ?_) (fun h21_3 => ?_)
          · refine r_iconst e_X11_isSign_54 ic_1 ?_
            refine r_goto e_X11_isSign_55 ?_
            (rw [show v0_0 = (1 : Int32) from ((((e_v0_0.trans (if_neg h3_0)).trans (if_neg h9_1)).trans (if_neg h15_2)).trans (if_pos h21_3))] at j59_0; exact j59_0)
          · refine r_iload_n e_X11_isSign_24 rfl ?_
            refine r_bipush e_X11_isSign_25 bp_62 ?_
            refine r_icmp_eq e_X11_isSign_27 (fun h27_4 => ?_) (fun h27_4 => ?_)
            · refine r_iconst e_X11_isSign_54 ic_1 ?_
              refine r_goto e_X11_isSign_55 ?_
              (rw [show v0_0 = (1 : Int32) from (((((e_v0_0.trans (if_neg h3_0)).trans (if_neg h9_1)).trans (if_neg h15_2)).trans (if_neg h21_3)).trans (if_pos h27_4))] at j59_0; exact j59_0)
            · refine r_iload_n e_X11_isSign_30 rfl ?_
              refine r_bipush e_X11_isSign_31 bp_43 ?_
              refine r_icmp_eq e_X11_isSign_33 (fun h33_5 => ?_) (fun h33_5 => ?_)
              · refine r_iconst e_X11_isSign_54 ic_1 ?_
                refine r_goto e_X11_isSign_55 ?_
                (rw [show v0_0 = (1 : Int32) from ((((((e_v0_0.trans (if_neg h3_0)).trans (if_neg h9_1)).trans (if_neg h15_2)).trans (if_neg h21_3)).trans (if_neg h27_4)).trans (if_pos h33_5))] at j59_0; exact j59_0)
              · refine r_iload_n e_X11_isSign_36 rfl ?_
                refine r_bipush e_X11_isSign_37 bp_45 ?_
                refine r_icmp_eq e_X11_isSign_39 (fun h39_6 => ?_) (fun h39_6 => ?_)
                · refine r_iconst e_X11_isSign_54 ic_1 ?_
                  refine r_goto e_X11_isSign_55 ?_
                  (rw [show v0_0 = (1 : Int32) from (((((((e_v0_0.trans (if_neg h3_0)).trans (if_neg h9_1)).trans (if_neg h15_2)).trans (if_neg h21_3)).trans (if_neg h27_4)).trans (if_neg h33_5)).trans (if_pos h39_6))] at j59_0; exact j59_0)
                · refine r_iload_n e_X11_isSign_42 rfl ?_
                  refine r_bipush e_X11_isSign_43 bp_42 ?_
                  refine r_icmp_eq e_X11_isSign_45 (fun h45_7 => ?_) (fun h45_7 => ?_)
                  · refine r_iconst e_X11_isSign_54 ic_1 ?_
                    refine r_goto e_X11_isSign_55 ?_
                    (rw [show v0_0 = (1 : Int32) from ((((((((e_v0_0.trans (if_neg h3_0)).trans (if_neg h9_1)).trans (if_neg h15_2)).trans (if_neg h21_3)).trans (if_neg h27_4)).trans (if_neg h33_5)).trans (if_neg h39_6)).trans (if_pos h45_7))] at j59_0; exact j59_0)
                  · refine r_iload_n e_X11_isSign_48 rfl ?_
                    refine r_bipush e_X11_isSign_49 bp_59 ?_
                    refine r_icmp_ne e_X11_isSign_51 (fun h51_8 => ?_) (fun h51_8 => ?_)
                    · refine r_iconst e_X11_isSign_58 ic_0 ?_
                      (rw [show v0_0 = (0 : Int32) from (((((((((e_v0_0.trans (if_neg h3_0)).trans (if_neg h9_1)).trans (if_neg h15_2)).trans (if_neg h21_3)).trans (if_neg h27_4)).trans (if_neg h33_5)).trans (if_neg h39_6)).trans (if_neg h45_7)).trans (if_neg h51_8))] at j59_0; exact j59_0)
                    · refine r_iconst e_X11_isSign_54 ic_1 ?_
                      refine r_goto e_X11_isSign_55 ?_
                      (rw [show v0_0 = (1 : Int32) from (((((((((e_v0_0.trans (if_neg h3_0)).trans (if_neg h9_1)).trans (if_neg h15_2)).trans (if_neg h21_3)).trans (if_neg h27_4)).trans (if_neg h33_5)).trans (if_neg h39_6)).trans (if_neg h45_7)).trans (if_pos h51_8))] at j59_0; exact j59_0)
  refine r_zreturn e_X11_isSign_59 rfl ⟨rfl, rfl⟩ z_v0_0 ?_
  (subst e_v0_0; refine ⟨?_, rfl, ?_⟩ <;> ((try unfold V_X11_isSign); (try simp only []); (try rfl)))
def V_X11_wrong (M : Mem) : Int32 := (0 : Int32)
theorem Z_X11_wrong {M : Mem}    : V_X11_wrong  M = 0 ∨ V_X11_wrong  M = 1 := (Or.inl rfl)
def U_X11_wrong (M : Mem) : Mem := setI M 242 2 (M.1 242 3)
theorem S_X11_wrong {sh : List SC} {M : Mem}  {mA : Nat} {oA : Nat} (hb1 : ModelAt sh mA oA)  : Gv m_X11_wrong [.ref 242] sh M (.int (V_X11_wrong  M)) (U_X11_wrong  M) := by
  refine Sp.of (ls := [some (.ref 242)]) (by decide +kernel) (Nat.le_of_ble_eq_true rfl) rfl ?_
  have k0 : kd sh 242 = some (10 + 7, 0) := hb1.1
  refine r_aload_n e_X11_wrong_0 rfl ?_
  refine r_aload_n e_X11_wrong_1 rfl ?_
  refine r_getI e_X11_wrong_2 fl_X11_18 i0 k0 ?_
  refine r_putI e_X11_wrong_5 fl_X11_99 k0 ?_
  refine r_iconst e_X11_wrong_8 ic_0 ?_
  refine r_zreturn e_X11_wrong_9 rfl ⟨rfl, rfl⟩ (by first | exact Or.inl rfl | exact Or.inr rfl) ?_
  (refine ⟨?_, rfl, ?_⟩ <;> ((try unfold V_X11_wrong); (try unfold U_X11_wrong); (try simp only []); (try rfl)))
def V_X11_fault (M : Mem) : Int32 := (M.1 242 2)
theorem S_X11_fault {sh : List SC} {M : Mem}  {mA : Nat} {oA : Nat} (hb1 : ModelAt sh mA oA)  : Gv m_X11_fault [.ref 242] sh M (.int (V_X11_fault  M)) M := by
  refine Sp.of (ls := [some (.ref 242)]) (by decide +kernel) (Nat.le_of_ble_eq_true rfl) rfl ?_
  have k0 : kd sh 242 = some (10 + 7, 0) := hb1.1
  refine r_aload_n e_X11_fault_0 rfl ?_
  refine r_getI e_X11_fault_1 fl_X11_99 i0 k0 ?_
  refine r_ireturn e_X11_fault_4 rfl ⟨rfl, rfl⟩ ?_
  (refine ⟨?_, rfl, ?_⟩ <;> ((try unfold V_X11_fault); (try simp only []); (try rfl)))
def V_X11_in (x1 : Int32) (x2 : Int32) (x3 : Int32) (M : Mem) : Int32 := (let v0_0 : Int32 := if x1 < x2 then (0 : Int32) else (if x3 < x1 then (0 : Int32) else (1 : Int32)); v0_0)
theorem Z_X11_in {M : Mem} {x1 : Int32} {x2 : Int32} {x3 : Int32}   : V_X11_in x1 x2 x3 M = 0 ∨ V_X11_in x1 x2 x3 M = 1 := (zi (Or.inl rfl) (zi (Or.inl rfl) (Or.inr rfl)))
theorem S_X11_in {sh : List SC} {M : Mem} {x1 : Int32} {x2 : Int32} {x3 : Int32}    : Gv m_X11_in [.int x1, .int x2, .int x3] sh M (.int (V_X11_in x1 x2 x3 M)) M := by
  refine Sp.of (ls := [some (.int x1), some (.int x2), some (.int x3)]) (by decide +kernel) (Nat.le_of_ble_eq_true rfl) rfl ?_
  refine r_iload_n e_X11_in_0 rfl ?_
  refine r_iload_n e_X11_in_1 rfl ?_
  obtain ⟨v0_0, e_v0_0⟩ : ∃ z : Int32, z = (if x1 < x2 then (0 : Int32) else (if x3 < x1 then (0 : Int32) else (1 : Int32))) := ⟨_, rfl⟩
  have z_v0_0 : v0_0 = 0 ∨ v0_0 = 1 := by rw [e_v0_0]; exact (zi (Or.inl rfl) (zi (Or.inl rfl) (Or.inr rfl)))
  suffices j15_0 : WP m_X11_in (fun r sh' M'' => r = some (.int (V_X11_in x1 x2 x3 M)) ∧ sh' = sh ∧ M'' = M) 15 [some (.int x1), some (.int x2), some (.int x3)] [.int v0_0] sh M 0 0 by
    refine r_icmp_lt e_X11_in_2 (fun h2_0 => ?_) (fun h2_0 => ?_)
    · refine r_iconst e_X11_in_14 ic_0 ?_
      (rw [show v0_0 = (0 : Int32) from (e_v0_0.trans (if_pos h2_0))] at j15_0; exact j15_0)
    · refine r_iload_n e_X11_in_5 rfl ?_
      refine r_iload_n e_X11_in_6 rfl ?_
      refine r_icmp_gt e_X11_in_7 (fun h7_1 => ?_) (fun h7_1 => ?_)
      · refine r_iconst e_X11_in_14 ic_0 ?_
        (rw [show v0_0 = (0 : Int32) from ((e_v0_0.trans (if_neg h2_0)).trans (if_pos h7_1))] at j15_0; exact j15_0)
      · refine r_iconst e_X11_in_10 ic_1 ?_
        refine r_goto e_X11_in_11 ?_
        (rw [show v0_0 = (1 : Int32) from ((e_v0_0.trans (if_neg h2_0)).trans (if_neg h7_1))] at j15_0; exact j15_0)
  refine r_zreturn e_X11_in_15 rfl ⟨rfl, rfl⟩ z_v0_0 ?_
  (subst e_v0_0; refine ⟨?_, rfl, ?_⟩ <;> ((try unfold V_X11_in); (try simp only []); (try rfl)))
def V_X11_distance (x1 : Int32) (x2 : Int32) (x3 : Int32) (x4 : Int32) (M : Mem) : Int32 := (if (if 0 ≤ (x1 - x3) then (x1 - x3) else 0 - (x1 - x3)) < (if 0 ≤ (x2 - x4) then (x2 - x4) else 0 - (x2 - x4)) then (if 0 ≤ (x2 - x4) then (x2 - x4) else 0 - (x2 - x4)) else (if 0 ≤ (x1 - x3) then (x1 - x3) else 0 - (x1 - x3)))
theorem S_X11_distance {sh : List SC} {M : Mem} {x1 : Int32} {x2 : Int32} {x3 : Int32} {x4 : Int32}    : Gv m_X11_distance [.int x1, .int x2, .int x3, .int x4] sh M (.int (V_X11_distance x1 x2 x3 x4 M)) M := by
  refine Sp.of (ls := [some (.int x1), some (.int x2), some (.int x3), some (.int x4)]) (by decide +kernel) (Nat.le_of_ble_eq_true rfl) rfl ?_
  refine r_iload_n e_X11_distance_0 rfl ?_
  refine r_iload_n e_X11_distance_1 rfl ?_
  refine r_isub e_X11_distance_2 ?_
  refine r_mabs e_X11_distance_3 cl_X11_256 ⟨Nat.le_of_ble_eq_true rfl, Nat.le_of_ble_eq_true rfl, Nat.zero_le _, Nat.zero_le _⟩ (Nat.le_of_ble_eq_true rfl) ?_
  refine r_iload_n e_X11_distance_6 rfl ?_
  refine r_iload_n e_X11_distance_7 rfl ?_
  refine r_isub e_X11_distance_8 ?_
  refine r_mabs e_X11_distance_9 cl_X11_256 ⟨Nat.le_of_ble_eq_true rfl, Nat.le_of_ble_eq_true rfl, Nat.zero_le _, Nat.zero_le _⟩ (Nat.le_of_ble_eq_true rfl) ?_
  refine r_mmax e_X11_distance_12 cl_X11_261 ⟨Nat.le_of_ble_eq_true rfl, Nat.le_of_ble_eq_true rfl, Nat.zero_le _, Nat.zero_le _⟩ (Nat.le_of_ble_eq_true rfl) ?_
  refine r_ireturn e_X11_distance_15 rfl ⟨rfl, rfl⟩ ?_
  (refine ⟨?_, rfl, ?_⟩ <;> ((try unfold V_X11_distance); (try simp only []); (try rfl)))
def U_X11_stopBall (mA : Nat) (M : Mem) : Mem := setI (setI (setI M mA 17 (0 : Int32)) mA 18 (0 : Int32)) mA 19 (0 : Int32)
theorem S_X11_stopBall {sh : List SC} {M : Mem}  {mA : Nat} {oA : Nat} (hb1 : ModelAt sh mA oA)  : Gu m_X11_stopBall [.ref 242] sh M (U_X11_stopBall mA M) := by
  refine Sp.of (ls := [some (.ref 242)]) (by decide +kernel) (Nat.le_of_ble_eq_true rfl) rfl ?_
  have k0 : kd sh 242 = some (10 + 7, 0) := hb1.1
  have k1 : rf sh 242 27 = some mA := hb1.2.2.2.2.2.2.2.2.2.2.2.2.2.2.2.2.2.1
  have k2 : kd sh mA = some (0, 212) := hb1.2.2.2.2.2.2.2.2.2.2.2.2.2.2.2.2.2.2.2.2.2.2.2.2.2.2.2.2.2.2.2.2.2.2.2.2.2.2.2.2.2.2.2.2.2.2.2.2.2.2.2.1
  refine r_aload_n e_X11_stopBall_0 rfl ?_
  refine r_getR e_X11_stopBall_1 fl_X11_212 k0 k1 ?_
  refine r_bipush e_X11_stopBall_4 bp_17 ?_
  refine r_iconst e_X11_stopBall_6 ic_0 ?_
  refine r_iastore e_X11_stopBall_7 k2 (by unfold vp_in; decide) ?_
  rw [show (17 : Int32).toNatClampNeg = 17 from rfl]
  refine r_aload_n e_X11_stopBall_8 rfl ?_
  refine r_getR e_X11_stopBall_9 fl_X11_212 k0 k1 ?_
  refine r_bipush e_X11_stopBall_12 bp_18 ?_
  refine r_iconst e_X11_stopBall_14 ic_0 ?_
  refine r_iastore e_X11_stopBall_15 k2 (by unfold vp_in; decide) ?_
  rw [show (18 : Int32).toNatClampNeg = 18 from rfl]
  refine r_aload_n e_X11_stopBall_16 rfl ?_
  refine r_getR e_X11_stopBall_17 fl_X11_212 k0 k1 ?_
  refine r_bipush e_X11_stopBall_20 bp_19 ?_
  refine r_iconst e_X11_stopBall_22 ic_0 ?_
  refine r_iastore e_X11_stopBall_23 k2 (by unfold vp_in; decide) ?_
  rw [show (19 : Int32).toNatClampNeg = 19 from rfl]
  refine r_return e_X11_stopBall_24 rfl ⟨rfl, rfl⟩ ?_
  (refine ⟨?_, rfl, ?_⟩ <;> ((try unfold U_X11_stopBall); (try simp only []); (try rfl)))
def V_X11_isMatch (mA : Nat) (M : Mem) : Int32 := (let v0_0 : Int32 := if (M.1 mA 0) = (1 : Int32) then (1 : Int32) else (0 : Int32); v0_0)
theorem Z_X11_isMatch {M : Mem}  {mA : Nat}  : V_X11_isMatch mA M = 0 ∨ V_X11_isMatch mA M = 1 := (zi (Or.inr rfl) (Or.inl rfl))
theorem S_X11_isMatch {sh : List SC} {M : Mem}  {mA : Nat} {oA : Nat} (hb1 : ModelAt sh mA oA)  : Gv m_X11_isMatch [.ref 242] sh M (.int (V_X11_isMatch mA M)) M := by
  refine Sp.of (ls := [some (.ref 242)]) (by decide +kernel) (Nat.le_of_ble_eq_true rfl) rfl ?_
  have k0 : kd sh 242 = some (10 + 7, 0) := hb1.1
  have k1 : rf sh 242 27 = some mA := hb1.2.2.2.2.2.2.2.2.2.2.2.2.2.2.2.2.2.1
  have k2 : kd sh mA = some (0, 212) := hb1.2.2.2.2.2.2.2.2.2.2.2.2.2.2.2.2.2.2.2.2.2.2.2.2.2.2.2.2.2.2.2.2.2.2.2.2.2.2.2.2.2.2.2.2.2.2.2.2.2.2.2.1
  refine r_aload_n e_X11_isMatch_0 rfl ?_
  refine r_getR e_X11_isMatch_1 fl_X11_212 k0 k1 ?_
  refine r_iconst e_X11_isMatch_4 ic_0 ?_
  refine r_ialoade (v := (M.1 mA 0)) e_X11_isMatch_5 k2 (by unfold vp_in; decide) (show M.1 mA (0 : Int32).toNatClampNeg = M.1 mA 0 by rw [show (0 : Int32).toNatClampNeg = 0 from rfl]) ?_
  refine r_iconst e_X11_isMatch_6 ic_1 ?_
  obtain ⟨v0_0, e_v0_0⟩ : ∃ z : Int32, z = (if (M.1 mA 0) = (1 : Int32) then (1 : Int32) else (0 : Int32)) := ⟨_, rfl⟩
  have z_v0_0 : v0_0 = 0 ∨ v0_0 = 1 := by rw [e_v0_0]; exact (zi (Or.inr rfl) (Or.inl rfl))
  suffices j15_0 : WP m_X11_isMatch (fun r sh' M'' => r = some (.int (V_X11_isMatch mA M)) ∧ sh' = sh ∧ M'' = M) 15 [some (.ref 242)] [.int v0_0] sh M 0 0 by
    refine r_icmp_ne e_X11_isMatch_7 (fun h7_0 => ?_) (fun h7_0 => ?_)
    · refine r_iconst e_X11_isMatch_14 ic_0 ?_
      (rw [show v0_0 = (0 : Int32) from (e_v0_0.trans (if_neg h7_0))] at j15_0; exact j15_0)
    · refine r_iconst e_X11_isMatch_10 ic_1 ?_
      refine r_goto e_X11_isMatch_11 ?_
      (rw [show v0_0 = (1 : Int32) from (e_v0_0.trans (if_pos h7_0))] at j15_0; exact j15_0)
  refine r_zreturn e_X11_isMatch_15 rfl ⟨rfl, rfl⟩ z_v0_0 ?_
  (subst e_v0_0; refine ⟨?_, rfl, ?_⟩ <;> ((try unfold V_X11_isMatch); (try simp only []); (try rfl)))
def V_X11_sign (x1 : Int32) (M : Mem) : Int32 := (let v0_0 : Int32 := if 0 ≤ x1 then (if x1 ≤ 0 then (0 : Int32) else (1 : Int32)) else (-1 : Int32); v0_0)
theorem S_X11_sign {sh : List SC} {M : Mem} {x1 : Int32}    : Gv m_X11_sign [.int x1] sh M (.int (V_X11_sign x1 M)) M := by
  refine Sp.of (ls := [some (.int x1)]) (by decide +kernel) (Nat.le_of_ble_eq_true rfl) rfl ?_
  refine r_iload_n e_X11_sign_0 rfl ?_
  obtain ⟨v0_0, e_v0_0⟩ : ∃ z : Int32, z = (if 0 ≤ x1 then (if x1 ≤ 0 then (0 : Int32) else (1 : Int32)) else (-1 : Int32)) := ⟨_, rfl⟩
  suffices j17_0 : WP m_X11_sign (fun r sh' M'' => r = some (.int (V_X11_sign x1 M)) ∧ sh' = sh ∧ M'' = M) 17 [some (.int x1)] [.int v0_0] sh M 0 0 by
    refine r_if_ge e_X11_sign_1 (fun h1_0 => ?_) (fun h1_0 => ?_)
    · refine r_iload_n e_X11_sign_8 rfl ?_
      refine r_if_le e_X11_sign_9 (fun h9_1 => ?_) (fun h9_1 => ?_)
      · refine r_iconst e_X11_sign_16 ic_0 ?_
        (rw [show v0_0 = (0 : Int32) from ((e_v0_0.trans (if_pos h1_0)).trans (if_pos h9_1))] at j17_0; exact j17_0)
      · refine r_iconst e_X11_sign_12 ic_1 ?_
        refine r_goto e_X11_sign_13 ?_
        (rw [show v0_0 = (1 : Int32) from ((e_v0_0.trans (if_pos h1_0)).trans (if_neg h9_1))] at j17_0; exact j17_0)
    · refine r_iconst e_X11_sign_4 ic_m1 ?_
      refine r_goto e_X11_sign_5 ?_
      (rw [show v0_0 = (-1 : Int32) from (e_v0_0.trans (if_neg h1_0))] at j17_0; exact j17_0)
  refine r_ireturn e_X11_sign_17 rfl ⟨rfl, rfl⟩ ?_
  (subst e_v0_0; refine ⟨?_, rfl, ?_⟩ <;> ((try unfold V_X11_sign); (try simp only []); (try rfl)))
def U_X11_step (M : Mem) : Mem := (let M0_0 : Mem := if (M.1 242 36) = (80 : Int32) then (setI M 242 37 (1 : Int32)) else (setI M 242 36 ((M.1 242 36) + (1 : Int32))); M0_0)
theorem S_X11_step {sh : List SC} {M : Mem}  {mA : Nat} {oA : Nat} (hb1 : ModelAt sh mA oA)  : Gu m_X11_step [.ref 242] sh M (U_X11_step  M) := by
  refine Sp.of (ls := [some (.ref 242)]) (by decide +kernel) (Nat.le_of_ble_eq_true rfl) rfl ?_
  have k0 : kd sh 242 = some (10 + 7, 0) := hb1.1
  refine r_aload_n e_X11_step_0 rfl ?_
  refine r_getI e_X11_step_1 fl_X11_302 i0 k0 ?_
  refine r_bipush e_X11_step_4 bp_80 ?_
  obtain ⟨M0_0, e_M0_0⟩ : ∃ z : Mem, z = (if (M.1 242 36) = (80 : Int32) then (setI M 242 37 (1 : Int32)) else (setI M 242 36 ((M.1 242 36) + (1 : Int32)))) := ⟨_, rfl⟩
  suffices j27_0 : WP m_X11_step (fun r sh' M'' => r = none ∧ sh' = sh ∧ M'' = (U_X11_step  M)) 27 [some (.ref 242)] [] sh M0_0 0 0 by
    refine r_icmp_ne e_X11_step_6 (fun h6_0 => ?_) (fun h6_0 => ?_)
    · refine r_aload_n e_X11_step_17 rfl ?_
      refine r_dup e_X11_step_18 rfl ?_
      refine r_getI e_X11_step_19 fl_X11_302 i0 k0 ?_
      refine r_iconst e_X11_step_22 ic_1 ?_
      refine r_iadd e_X11_step_23 ?_
      refine r_putI e_X11_step_24 fl_X11_302 k0 ?_
      (rw [show M0_0 = setI M 242 36 ((M.1 242 36) + (1 : Int32)) from (e_M0_0.trans (if_neg h6_0))] at j27_0; exact j27_0)
    · refine r_aload_n e_X11_step_9 rfl ?_
      refine r_iconst e_X11_step_10 ic_1 ?_
      refine r_putZ e_X11_step_11 fl_X11_305 (by first | exact Or.inl rfl | exact Or.inr rfl) k0 ?_
      refine r_goto e_X11_step_14 ?_
      (rw [show M0_0 = setI M 242 37 (1 : Int32) from (e_M0_0.trans (if_pos h6_0))] at j27_0; exact j27_0)
  refine r_return e_X11_step_27 rfl ⟨rfl, rfl⟩ ?_
  (subst e_M0_0; refine ⟨?_, rfl, ?_⟩ <;> ((try unfold U_X11_step); (try simp only []); (try rfl)))
def V_X11_seenX (x1 : Int32) (M : Mem) : Int32 := (let v0_0 : Int32 := if (5 : Int32) ≤ (M.1 242 33) then ((14 : Int32) - x1) else x1; v0_0)
theorem S_X11_seenX {sh : List SC} {M : Mem} {x1 : Int32} {mA : Nat} {oA : Nat} (hb1 : ModelAt sh mA oA)  : Gv m_X11_seenX [.ref 242, .int x1] sh M (.int (V_X11_seenX x1 M)) M := by
  refine Sp.of (ls := [some (.ref 242), some (.int x1)]) (by decide +kernel) (Nat.le_of_ble_eq_true rfl) rfl ?_
  have k0 : kd sh 242 = some (10 + 7, 0) := hb1.1
  refine r_aload_n e_X11_seenX_0 rfl ?_
  refine r_getI e_X11_seenX_1 fl_X11_315 i0 k0 ?_
  refine r_iconst e_X11_seenX_4 ic_5 ?_
  obtain ⟨v0_0, e_v0_0⟩ : ∃ z : Int32, z = (if (5 : Int32) ≤ (M.1 242 33) then ((14 : Int32) - x1) else x1) := ⟨_, rfl⟩
  suffices j16_0 : WP m_X11_seenX (fun r sh' M'' => r = some (.int (V_X11_seenX x1 M)) ∧ sh' = sh ∧ M'' = M) 16 [some (.ref 242), some (.int x1)] [.int v0_0] sh M 0 0 by
    refine r_icmp_ge e_X11_seenX_5 (fun h5_0 => ?_) (fun h5_0 => ?_)
    · refine r_bipush e_X11_seenX_12 bp_14 ?_
      refine r_iload_n e_X11_seenX_14 rfl ?_
      refine r_isub e_X11_seenX_15 ?_
      (rw [show v0_0 = ((14 : Int32) - x1) from (e_v0_0.trans (if_pos h5_0))] at j16_0; exact j16_0)
    · refine r_iload_n e_X11_seenX_8 rfl ?_
      refine r_goto e_X11_seenX_9 ?_
      (rw [show v0_0 = x1 from (e_v0_0.trans (if_neg h5_0))] at j16_0; exact j16_0)
  refine r_ireturn e_X11_seenX_16 rfl ⟨rfl, rfl⟩ ?_
  (subst e_v0_0; refine ⟨?_, rfl, ?_⟩ <;> ((try unfold V_X11_seenX); (try simp only []); (try rfl)))
def V_X11_seenY (x1 : Int32) (M : Mem) : Int32 := (let v0_0 : Int32 := if (5 : Int32) ≤ (M.1 242 33) then ((8 : Int32) - x1) else x1; v0_0)
theorem S_X11_seenY {sh : List SC} {M : Mem} {x1 : Int32} {mA : Nat} {oA : Nat} (hb1 : ModelAt sh mA oA)  : Gv m_X11_seenY [.ref 242, .int x1] sh M (.int (V_X11_seenY x1 M)) M := by
  refine Sp.of (ls := [some (.ref 242), some (.int x1)]) (by decide +kernel) (Nat.le_of_ble_eq_true rfl) rfl ?_
  have k0 : kd sh 242 = some (10 + 7, 0) := hb1.1
  refine r_aload_n e_X11_seenY_0 rfl ?_
  refine r_getI e_X11_seenY_1 fl_X11_315 i0 k0 ?_
  refine r_iconst e_X11_seenY_4 ic_5 ?_
  obtain ⟨v0_0, e_v0_0⟩ : ∃ z : Int32, z = (if (5 : Int32) ≤ (M.1 242 33) then ((8 : Int32) - x1) else x1) := ⟨_, rfl⟩
  suffices j16_0 : WP m_X11_seenY (fun r sh' M'' => r = some (.int (V_X11_seenY x1 M)) ∧ sh' = sh ∧ M'' = M) 16 [some (.ref 242), some (.int x1)] [.int v0_0] sh M 0 0 by
    refine r_icmp_ge e_X11_seenY_5 (fun h5_0 => ?_) (fun h5_0 => ?_)
    · refine r_bipush e_X11_seenY_12 bp_8 ?_
      refine r_iload_n e_X11_seenY_14 rfl ?_
      refine r_isub e_X11_seenY_15 ?_
      (rw [show v0_0 = ((8 : Int32) - x1) from (e_v0_0.trans (if_pos h5_0))] at j16_0; exact j16_0)
    · refine r_iload_n e_X11_seenY_8 rfl ?_
      refine r_goto e_X11_seenY_9 ?_
      (rw [show v0_0 = x1 from (e_v0_0.trans (if_neg h5_0))] at j16_0; exact j16_0)
  refine r_ireturn e_X11_seenY_16 rfl ⟨rfl, rfl⟩ ?_
  (subst e_v0_0; refine ⟨?_, rfl, ?_⟩ <;> ((try unfold V_X11_seenY); (try simp only []); (try rfl)))
def V_X11_sleeps (mA : Nat) (M : Mem) : Int32 := (let v0_0 : Int32 := if (M.1 mA 21) ≤ 0 then (0 : Int32) else (if (M.1 mA 22) = (M.1 mA 14) then (if (M.1 mA 23) = (M.1 mA 15) then (1 : Int32) else (0 : Int32)) else (0 : Int32)); let v3_0 : Int32 := if (M.1 mA 16) < 0 then (if v0_0 = 0 then (1 : Int32) else ((M.1 mA 21) + (1 : Int32))) else (0 : Int32); v3_0)
def U_X11_sleeps (mA : Nat) (M : Mem) : Mem := (let v0_0 : Int32 := if (M.1 mA 21) ≤ 0 then (0 : Int32) else (if (M.1 mA 22) = (M.1 mA 14) then (if (M.1 mA 23) = (M.1 mA 15) then (1 : Int32) else (0 : Int32)) else (0 : Int32)); let v3_0 : Int32 := if (M.1 mA 16) < 0 then (if v0_0 = 0 then (1 : Int32) else ((M.1 mA 21) + (1 : Int32))) else (0 : Int32); setI (setI (setI M mA 21 v3_0) mA 22 (M.1 mA 14)) mA 23 (M.1 mA 15))
theorem S_X11_sleeps {sh : List SC} {M : Mem}  {mA : Nat} {oA : Nat} (hb1 : ModelAt sh mA oA)  : Gv m_X11_sleeps [.ref 242] sh M (.int (V_X11_sleeps mA M)) (U_X11_sleeps mA M) := by
  refine Sp.of (ls := [some (.ref 242), none]) (by decide +kernel) (Nat.le_of_ble_eq_true rfl) rfl ?_
  have k0 : kd sh 242 = some (10 + 7, 0) := hb1.1
  have k1 : rf sh 242 27 = some mA := hb1.2.2.2.2.2.2.2.2.2.2.2.2.2.2.2.2.2.1
  have k2 : kd sh mA = some (0, 212) := hb1.2.2.2.2.2.2.2.2.2.2.2.2.2.2.2.2.2.2.2.2.2.2.2.2.2.2.2.2.2.2.2.2.2.2.2.2.2.2.2.2.2.2.2.2.2.2.2.2.2.2.2.1
  refine r_aload_n e_X11_sleeps_0 rfl ?_
  refine r_getR e_X11_sleeps_1 fl_X11_212 k0 k1 ?_
  refine r_bipush e_X11_sleeps_4 bp_21 ?_
  refine r_ialoade (v := (M.1 mA 21)) e_X11_sleeps_6 k2 (by unfold vp_in; decide) (show M.1 mA (21 : Int32).toNatClampNeg = M.1 mA 21 by rw [show (21 : Int32).toNatClampNeg = 21 from rfl]) ?_
  obtain ⟨v0_0, e_v0_0⟩ : ∃ z : Int32, z = (if (M.1 mA 21) ≤ 0 then (0 : Int32) else (if (M.1 mA 22) = (M.1 mA 14) then (if (M.1 mA 23) = (M.1 mA 15) then (1 : Int32) else (0 : Int32)) else (0 : Int32))) := ⟨_, rfl⟩
  have z_v0_0 : v0_0 = 0 ∨ v0_0 = 1 := by rw [e_v0_0]; exact (zi (Or.inl rfl) (zi (zi (Or.inr rfl) (Or.inl rfl)) (Or.inl rfl)))
  suffices j49_0 : WP m_X11_sleeps (fun r sh' M'' => r = some (.int (V_X11_sleeps mA M)) ∧ sh' = sh ∧ M'' = (U_X11_sleeps mA M)) 49 [some (.ref 242), none] [.int v0_0] sh M 0 0 by
    refine r_if_le e_X11_sleeps_7 (fun h7_0 => ?_) (fun h7_0 => ?_)
    · refine r_iconst e_X11_sleeps_48 ic_0 ?_
      (rw [show v0_0 = (0 : Int32) from (e_v0_0.trans (if_pos h7_0))] at j49_0; exact j49_0)
    · refine r_aload_n e_X11_sleeps_10 rfl ?_
      refine r_getR e_X11_sleeps_11 fl_X11_212 k0 k1 ?_
      refine r_bipush e_X11_sleeps_14 bp_22 ?_
      refine r_ialoade (v := (M.1 mA 22)) e_X11_sleeps_16 k2 (by unfold vp_in; decide) (show M.1 mA (22 : Int32).toNatClampNeg = M.1 mA 22 by rw [show (22 : Int32).toNatClampNeg = 22 from rfl]) ?_
      refine r_aload_n e_X11_sleeps_17 rfl ?_
      refine r_getR e_X11_sleeps_18 fl_X11_212 k0 k1 ?_
      refine r_bipush e_X11_sleeps_21 bp_14 ?_
      refine r_ialoade (v := (M.1 mA 14)) e_X11_sleeps_23 k2 (by unfold vp_in; decide) (show M.1 mA (14 : Int32).toNatClampNeg = M.1 mA 14 by rw [show (14 : Int32).toNatClampNeg = 14 from rfl]) ?_
      refine r_icmp_ne e_X11_sleeps_24 (fun h24_1 => ?_) (fun h24_1 => ?_)
      · refine r_iconst e_X11_sleeps_48 ic_0 ?_
        (rw [show v0_0 = (0 : Int32) from ((e_v0_0.trans (if_neg h7_0)).trans (if_neg h24_1))] at j49_0; exact j49_0)
      · refine r_aload_n e_X11_sleeps_27 rfl ?_
        refine r_getR e_X11_sleeps_28 fl_X11_212 k0 k1 ?_
        refine r_bipush e_X11_sleeps_31 bp_23 ?_
        refine r_ialoade (v := (M.1 mA 23)) e_X11_sleeps_33 k2 (by unfold vp_in; decide) (show M.1 mA (23 : Int32).toNatClampNeg = M.1 mA 23 by rw [show (23 : Int32).toNatClampNeg = 23 from rfl]) ?_
        refine r_aload_n e_X11_sleeps_34 rfl ?_
        refine r_getR e_X11_sleeps_35 fl_X11_212 k0 k1 ?_
        refine r_bipush e_X11_sleeps_38 bp_15 ?_
        refine r_ialoade (v := (M.1 mA 15)) e_X11_sleeps_40 k2 (by unfold vp_in; decide) (show M.1 mA (15 : Int32).toNatClampNeg = M.1 mA 15 by rw [show (15 : Int32).toNatClampNeg = 15 from rfl]) ?_
        refine r_icmp_ne e_X11_sleeps_41 (fun h41_2 => ?_) (fun h41_2 => ?_)
        · refine r_iconst e_X11_sleeps_48 ic_0 ?_
          (rw [show v0_0 = (0 : Int32) from (((e_v0_0.trans (if_neg h7_0)).trans (if_pos h24_1)).trans (if_neg h41_2))] at j49_0; exact j49_0)
        · refine r_iconst e_X11_sleeps_44 ic_1 ?_
          refine r_goto e_X11_sleeps_45 ?_
          (rw [show v0_0 = (1 : Int32) from (((e_v0_0.trans (if_neg h7_0)).trans (if_pos h24_1)).trans (if_pos h41_2))] at j49_0; exact j49_0)
  refine p_istore_n_2_1 e_X11_sleeps_49 rfl rfl ?_
  refine r_aload_n e_X11_sleeps_50 rfl ?_
  refine r_getR e_X11_sleeps_51 fl_X11_212 k0 k1 ?_
  refine r_bipush e_X11_sleeps_54 bp_21 ?_
  refine r_aload_n e_X11_sleeps_56 rfl ?_
  refine r_getR e_X11_sleeps_57 fl_X11_212 k0 k1 ?_
  refine r_bipush e_X11_sleeps_60 bp_16 ?_
  refine r_ialoade (v := (M.1 mA 16)) e_X11_sleeps_62 k2 (by unfold vp_in; decide) (show M.1 mA (16 : Int32).toNatClampNeg = M.1 mA 16 by rw [show (16 : Int32).toNatClampNeg = 16 from rfl]) ?_
  obtain ⟨v3_0, e_v3_0⟩ : ∃ z : Int32, z = (if (M.1 mA 16) < 0 then (if v0_0 = 0 then (1 : Int32) else ((M.1 mA 21) + (1 : Int32))) else (0 : Int32)) := ⟨_, rfl⟩
  suffices j87_3 : WP m_X11_sleeps (fun r sh' M'' => r = some (.int (V_X11_sleeps mA M)) ∧ sh' = sh ∧ M'' = (U_X11_sleeps mA M)) 87 [some (.ref 242), some (.int v0_0)] [.int v3_0, .int (21 : Int32), .ref mA] sh M 0 0 by
    refine r_if_lt e_X11_sleeps_63 (fun h63_3 => ?_) (fun h63_3 => ?_)
    · refine r_iload_n e_X11_sleeps_70 rfl ?_
      refine r_if_eq e_X11_sleeps_71 (fun h71_4 => ?_) (fun h71_4 => ?_)
      · refine r_iconst e_X11_sleeps_86 ic_1 ?_
        (rw [show v3_0 = (1 : Int32) from ((e_v3_0.trans (if_pos h63_3)).trans (if_pos h71_4))] at j87_3; exact j87_3)
      · refine r_aload_n e_X11_sleeps_74 rfl ?_
        refine r_getR e_X11_sleeps_75 fl_X11_212 k0 k1 ?_
        refine r_bipush e_X11_sleeps_78 bp_21 ?_
        refine r_ialoade (v := (M.1 mA 21)) e_X11_sleeps_80 k2 (by unfold vp_in; decide) (show M.1 mA (21 : Int32).toNatClampNeg = M.1 mA 21 by rw [show (21 : Int32).toNatClampNeg = 21 from rfl]) ?_
        refine r_iconst e_X11_sleeps_81 ic_1 ?_
        refine r_iadd e_X11_sleeps_82 ?_
        refine r_goto e_X11_sleeps_83 ?_
        (rw [show v3_0 = ((M.1 mA 21) + (1 : Int32)) from ((e_v3_0.trans (if_pos h63_3)).trans (if_neg h71_4))] at j87_3; exact j87_3)
    · refine r_iconst e_X11_sleeps_66 ic_0 ?_
      refine r_goto e_X11_sleeps_67 ?_
      (rw [show v3_0 = (0 : Int32) from (e_v3_0.trans (if_neg h63_3))] at j87_3; exact j87_3)
  refine r_iastore e_X11_sleeps_87 k2 (by unfold vp_in; decide) ?_
  rw [show (21 : Int32).toNatClampNeg = 21 from rfl]
  refine r_aload_n e_X11_sleeps_88 rfl ?_
  refine r_getR e_X11_sleeps_89 fl_X11_212 k0 k1 ?_
  refine r_bipush e_X11_sleeps_92 bp_22 ?_
  refine r_aload_n e_X11_sleeps_94 rfl ?_
  refine r_getR e_X11_sleeps_95 fl_X11_212 k0 k1 ?_
  refine r_bipush e_X11_sleeps_98 bp_14 ?_
  refine r_ialoade (v := (M.1 mA 14)) e_X11_sleeps_100 k2 (by unfold vp_in; decide) ((show (setI M mA 21 v3_0).1 mA (14 : Int32).toNatClampNeg = (setI M mA 21 v3_0).1 mA 14 by rw [show (14 : Int32).toNatClampNeg = 14 from rfl]).trans (gs_nI (by decide))) ?_
  refine r_iastore e_X11_sleeps_101 k2 (by unfold vp_in; decide) ?_
  rw [show (22 : Int32).toNatClampNeg = 22 from rfl]
  refine r_aload_n e_X11_sleeps_102 rfl ?_
  refine r_getR e_X11_sleeps_103 fl_X11_212 k0 k1 ?_
  refine r_bipush e_X11_sleeps_106 bp_23 ?_
  refine r_aload_n e_X11_sleeps_108 rfl ?_
  refine r_getR e_X11_sleeps_109 fl_X11_212 k0 k1 ?_
  refine r_bipush e_X11_sleeps_112 bp_15 ?_
  refine r_ialoade (v := (M.1 mA 15)) e_X11_sleeps_114 k2 (by unfold vp_in; decide) ((show (setI (setI M mA 21 v3_0) mA 22 (M.1 mA 14)).1 mA (15 : Int32).toNatClampNeg = (setI (setI M mA 21 v3_0) mA 22 (M.1 mA 14)).1 mA 15 by rw [show (15 : Int32).toNatClampNeg = 15 from rfl]).trans ((gs_nI (by decide)).trans (gs_nI (by decide)))) ?_
  refine r_iastore e_X11_sleeps_115 k2 (by unfold vp_in; decide) ?_
  rw [show (23 : Int32).toNatClampNeg = 23 from rfl]
  refine r_aload_n e_X11_sleeps_116 rfl ?_
  refine r_getR e_X11_sleeps_117 fl_X11_212 k0 k1 ?_
  refine r_bipush e_X11_sleeps_120 bp_21 ?_
  refine r_ialoade (v := v3_0) e_X11_sleeps_122 k2 (by unfold vp_in; decide) ((show (setI (setI (setI M mA 21 v3_0) mA 22 (M.1 mA 14)) mA 23 (M.1 mA 15)).1 mA (21 : Int32).toNatClampNeg = (setI (setI (setI M mA 21 v3_0) mA 22 (M.1 mA 14)) mA 23 (M.1 mA 15)).1 mA 21 by rw [show (21 : Int32).toNatClampNeg = 21 from rfl]).trans ((gs_nI (by decide)).trans ((gs_nI (by decide)).trans gs_eI))) ?_
  refine r_ireturn e_X11_sleeps_123 rfl ⟨rfl, rfl⟩ ?_
  (subst e_v3_0 e_v0_0; refine ⟨?_, rfl, ?_⟩ <;> ((try unfold V_X11_sleeps); (try unfold U_X11_sleeps); (try simp only []); (try rfl)))
def V_X11_hasPlayed (x1 : Int32) (M : Mem) : Int32 := (let v0_0 : Int32 := if (((M.1 242 42) >>> (x1 &&& 31)) &&& (1 : Int32)) = (1 : Int32) then (1 : Int32) else (0 : Int32); v0_0)
theorem Z_X11_hasPlayed {M : Mem} {x1 : Int32}   : V_X11_hasPlayed x1 M = 0 ∨ V_X11_hasPlayed x1 M = 1 := (zi (Or.inr rfl) (Or.inl rfl))
theorem S_X11_hasPlayed {sh : List SC} {M : Mem} {x1 : Int32} {mA : Nat} {oA : Nat} (hb1 : ModelAt sh mA oA)  : Gv m_X11_hasPlayed [.ref 242, .int x1] sh M (.int (V_X11_hasPlayed x1 M)) M := by
  refine Sp.of (ls := [some (.ref 242), some (.int x1)]) (by decide +kernel) (Nat.le_of_ble_eq_true rfl) rfl ?_
  have k0 : kd sh 242 = some (10 + 7, 0) := hb1.1
  refine r_aload_n e_X11_hasPlayed_0 rfl ?_
  refine r_getI e_X11_hasPlayed_1 fl_X11_408 i0 k0 ?_
  refine r_iload_n e_X11_hasPlayed_4 rfl ?_
  refine r_ishr e_X11_hasPlayed_5 ?_
  refine r_iconst e_X11_hasPlayed_6 ic_1 ?_
  refine r_iand e_X11_hasPlayed_7 ?_
  refine r_iconst e_X11_hasPlayed_8 ic_1 ?_
  obtain ⟨v0_0, e_v0_0⟩ : ∃ z : Int32, z = (if (((M.1 242 42) >>> (x1 &&& 31)) &&& (1 : Int32)) = (1 : Int32) then (1 : Int32) else (0 : Int32)) := ⟨_, rfl⟩
  have z_v0_0 : v0_0 = 0 ∨ v0_0 = 1 := by rw [e_v0_0]; exact (zi (Or.inr rfl) (Or.inl rfl))
  suffices j17_0 : WP m_X11_hasPlayed (fun r sh' M'' => r = some (.int (V_X11_hasPlayed x1 M)) ∧ sh' = sh ∧ M'' = M) 17 [some (.ref 242), some (.int x1)] [.int v0_0] sh M 0 0 by
    refine r_icmp_ne e_X11_hasPlayed_9 (fun h9_0 => ?_) (fun h9_0 => ?_)
    · refine r_iconst e_X11_hasPlayed_16 ic_0 ?_
      (rw [show v0_0 = (0 : Int32) from (e_v0_0.trans (if_neg h9_0))] at j17_0; exact j17_0)
    · refine r_iconst e_X11_hasPlayed_12 ic_1 ?_
      refine r_goto e_X11_hasPlayed_13 ?_
      (rw [show v0_0 = (1 : Int32) from (e_v0_0.trans (if_pos h9_0))] at j17_0; exact j17_0)
  refine r_zreturn e_X11_hasPlayed_17 rfl ⟨rfl, rfl⟩ z_v0_0 ?_
  (subst e_v0_0; refine ⟨?_, rfl, ?_⟩ <;> ((try unfold V_X11_hasPlayed); (try simp only []); (try rfl)))
def U_X3_addTerm (a : Nat) (x1 : Int32) (x2 : Int32) (x3 : Int32) (x4 : Int32) (M : Mem) : Mem := (let Mc1 : Mem := U_X10_put (a + 13) ((U_X10_put (a + 12) ((U_X10_put (a + 11) (M.1 a 15) x1 400 M).1 a 15) x2 400 (U_X10_put (a + 11) (M.1 a 15) x1 400 M)).1 a 15) x3 400 (U_X10_put (a + 12) ((U_X10_put (a + 11) (M.1 a 15) x1 400 M).1 a 15) x2 400 (U_X10_put (a + 11) (M.1 a 15) x1 400 M)); setI (U_X10_put (a + 14) (Mc1.1 a 15) x4 400 Mc1) a 15 (((U_X10_put (a + 14) (Mc1.1 a 15) x4 400 Mc1).1 a 15) + (1 : Int32)))
theorem S_X3_addTerm {sh : List SC} {M : Mem} {a : Nat} {x1 : Int32} {x2 : Int32} {x3 : Int32} {x4 : Int32}  (hb1 : ProgramAt sh a)  : Gu m_X3_addTerm [.ref a, .int x1, .int x2, .int x3, .int x4] sh M (U_X3_addTerm a x1 x2 x3 x4 M) := by
  refine Sp.of (ls := [some (.ref a), some (.int x1), some (.int x2), some (.int x3), some (.int x4)]) (by decide +kernel) (Nat.le_of_ble_eq_true rfl) rfl ?_
  have k0 : kd sh a = some (3 + 7, 0) := hb1.1
  have k1 : rf sh a 16 = some (a + 11) := hb1.2.2.2.2.2.2.2.2.2.2.2.1
  have k2 : kd sh (a + 11) = some (0, 400) := hb1.2.2.2.2.2.2.2.2.2.2.2.2.2.2.2.2.2.2.2.2.2.2.2.2.2.1
  have k3 : rf sh a 17 = some (a + 12) := hb1.2.2.2.2.2.2.2.2.2.2.2.2.1
  have k4 : kd sh (a + 12) = some (0, 400) := hb1.2.2.2.2.2.2.2.2.2.2.2.2.2.2.2.2.2.2.2.2.2.2.2.2.2.2.1
  have k5 : rf sh a 18 = some (a + 13) := hb1.2.2.2.2.2.2.2.2.2.2.2.2.2.1
  have k6 : kd sh (a + 13) = some (0, 400) := hb1.2.2.2.2.2.2.2.2.2.2.2.2.2.2.2.2.2.2.2.2.2.2.2.2.2.2.2.1
  have k7 : rf sh a 19 = some (a + 14) := hb1.2.2.2.2.2.2.2.2.2.2.2.2.2.2.1
  have k8 : kd sh (a + 14) = some (0, 400) := hb1.2.2.2.2.2.2.2.2.2.2.2.2.2.2.2.2.2.2.2.2.2.2.2.2.2.2.2.2
  refine r_aload_n e_X3_addTerm_0 rfl ?_
  refine r_getR e_X3_addTerm_1 fl_X3_62 k0 k1 ?_
  refine r_aload_n e_X3_addTerm_4 rfl ?_
  refine r_getI e_X3_addTerm_5 fl_X3_59 i0 k0 ?_
  refine r_iload_n e_X3_addTerm_8 rfl ?_
  refine cSN3u e_X3_addTerm_9 cl_X3_74 ⟨Nat.le_of_ble_eq_true rfl, Nat.le_of_ble_eq_true rfl⟩ ⟨rfl, rfl⟩  (Nat.le_of_ble_eq_true rfl) (S_X10_put k2 (by first | decide | (unfold vp_in; decide) | exact Or.inl rfl | exact Or.inr rfl)) ?_
  refine r_aload_n e_X3_addTerm_12 rfl ?_
  refine r_getR e_X3_addTerm_13 fl_X3_65 k0 k3 ?_
  refine r_aload_n e_X3_addTerm_16 rfl ?_
  refine r_getI e_X3_addTerm_17 fl_X3_59 i0 k0 ?_
  refine r_iload_n e_X3_addTerm_20 rfl ?_
  refine cSN3u e_X3_addTerm_21 cl_X3_74 ⟨Nat.le_of_ble_eq_true rfl, Nat.le_of_ble_eq_true rfl⟩ ⟨rfl, rfl⟩  (Nat.le_of_ble_eq_true rfl) (S_X10_put k4 (by first | decide | (unfold vp_in; decide) | exact Or.inl rfl | exact Or.inr rfl)) ?_
  refine r_aload_n e_X3_addTerm_24 rfl ?_
  refine r_getR e_X3_addTerm_25 fl_X3_68 k0 k5 ?_
  refine r_aload_n e_X3_addTerm_28 rfl ?_
  refine r_getI e_X3_addTerm_29 fl_X3_59 i0 k0 ?_
  refine r_iload_n e_X3_addTerm_32 rfl ?_
  refine cSN3u e_X3_addTerm_33 cl_X3_74 ⟨Nat.le_of_ble_eq_true rfl, Nat.le_of_ble_eq_true rfl⟩ ⟨rfl, rfl⟩  (Nat.le_of_ble_eq_true rfl) (S_X10_put k6 (by first | decide | (unfold vp_in; decide) | exact Or.inl rfl | exact Or.inr rfl)) ?_
  obtain ⟨Mc1, e_Mc1⟩ : ∃ z : Mem, z = (U_X10_put (a + 13) ((U_X10_put (a + 12) ((U_X10_put (a + 11) (M.1 a 15) x1 400 M).1 a 15) x2 400 (U_X10_put (a + 11) (M.1 a 15) x1 400 M)).1 a 15) x3 400 (U_X10_put (a + 12) ((U_X10_put (a + 11) (M.1 a 15) x1 400 M).1 a 15) x2 400 (U_X10_put (a + 11) (M.1 a 15) x1 400 M))) := ⟨_, rfl⟩
  rw [← e_Mc1]
  refine r_aload_n e_X3_addTerm_36 rfl ?_
  refine r_getR e_X3_addTerm_37 fl_X3_71 k0 k7 ?_
  refine r_aload_n e_X3_addTerm_40 rfl ?_
  refine r_getI e_X3_addTerm_41 fl_X3_59 i0 k0 ?_
  refine r_iload e_X3_addTerm_44 rfl ?_
  refine cSN3u e_X3_addTerm_46 cl_X3_74 ⟨Nat.le_of_ble_eq_true rfl, Nat.le_of_ble_eq_true rfl⟩ ⟨rfl, rfl⟩  (Nat.le_of_ble_eq_true rfl) (S_X10_put k8 (by first | decide | (unfold vp_in; decide) | exact Or.inl rfl | exact Or.inr rfl)) ?_
  refine r_aload_n e_X3_addTerm_49 rfl ?_
  refine r_dup e_X3_addTerm_50 rfl ?_
  refine r_getI e_X3_addTerm_51 fl_X3_59 i0 k0 ?_
  refine r_iconst e_X3_addTerm_54 ic_1 ?_
  refine r_iadd e_X3_addTerm_55 ?_
  refine r_putI e_X3_addTerm_56 fl_X3_59 k0 ?_
  refine r_return e_X3_addTerm_59 rfl ⟨rfl, rfl⟩ ?_
  (subst e_Mc1; refine ⟨?_, rfl, ?_⟩ <;> ((try unfold U_X3_addTerm); (try simp only []); (try rfl)))
def U_X0_lie (a : Nat) (x1 : Int32) (x2 : Int32) (M : Mem) : Mem := setI (U_X0_free a (0 : Int32) (0 : Int32) (0 : Int32) (U_X0_go a x1 x2 M)) a 9 (0 : Int32)
theorem S_X0_lie {sh : List SC} {M : Mem} {a : Nat} {x1 : Int32} {x2 : Int32}  (hb1 : BallAt sh a)  : Gu m_X0_lie [.ref a, .int x1, .int x2] sh M (U_X0_lie a x1 x2 M) := by
  refine Sp.of (ls := [some (.ref a), some (.int x1), some (.int x2)]) (by decide +kernel) (Nat.le_of_ble_eq_true rfl) rfl ?_
  have k0 : kd sh a = some (0 + 7, 0) := hb1.1
  refine r_aload_n e_X0_lie_0 rfl ?_
  refine r_iload_n e_X0_lie_1 rfl ?_
  refine r_iload_n e_X0_lie_2 rfl ?_
  refine cV2u e_X0_lie_3 cl_X0_47 ⟨Nat.le_of_ble_eq_true rfl, Nat.le_of_ble_eq_true rfl⟩ ⟨rfl, rfl⟩ k0 (Nat.le_of_ble_eq_true rfl) (S_X0_go hb1) ?_
  refine r_aload_n e_X0_lie_6 rfl ?_
  refine r_iconst e_X0_lie_7 ic_0 ?_
  refine r_iconst e_X0_lie_8 ic_0 ?_
  refine r_iconst e_X0_lie_9 ic_0 ?_
  refine cV3u e_X0_lie_10 cl_X0_51 ⟨Nat.le_of_ble_eq_true rfl, Nat.le_of_ble_eq_true rfl⟩ ⟨rfl, rfl⟩ k0 (Nat.le_of_ble_eq_true rfl) (S_X0_free hb1) ?_
  refine r_aload_n e_X0_lie_13 rfl ?_
  refine r_iconst e_X0_lie_14 ic_0 ?_
  refine r_putI e_X0_lie_15 fl_X0_37 k0 ?_
  refine r_return e_X0_lie_18 rfl ⟨rfl, rfl⟩ ?_
  (refine ⟨?_, rfl, ?_⟩ <;> ((try unfold U_X0_lie); (try simp only []); (try rfl)))
def F_X0_forget_2 (a : Nat) : Nat → Nat → Mem → Mem
  | 0, i2, M => M
  | n + 1, i2, M => (F_X0_forget_2 a n (i2 + 1) (U_X0_remember a (nI i2) M))
theorem L_X0_forget_2 {sh : List SC} {Q : Po} {a : Nat}    (hb1 : BallAt sh a)   : ∀ (n i2 : Nat) (M : Mem), i2 + n = 4 → WP m_X0_forget Q 18 [some (.ref a), none] [] sh (F_X0_forget_2 a n i2 M) 0 0 → WP m_X0_forget Q 2 [some (.ref a), some (.int (nI i2))] [] sh M 0 0 := by
  have k0 : kd sh a = some (0 + 7, 0) := hb1.1
  intro n
  induction n with
  | zero =>
    intro i2 M hi hq
    have hz : (4 : Int32) ≤ nI i2 := by
      have q : i2 = 4 := by omega
      rw [q]; exact nI_le (Nat.le_refl _) (by decide)
    refine r_iload_n e_X0_forget_2 rfl ?_
    refine r_iconst e_X0_forget_3 ic_4 ?_
    refine r_icmp_ge e_X0_forget_4 (fun _ => ?_) (fun hh => absurd hz hh)
    refine d_2_1 ?_
    (simp only [F_X0_forget_2] at hq; first | exact hq | (simp only []; exact hq))
  | succ n ih =>
    intro i2 M hi hq
    have hlt_i2 : i2 < 4 := by omega
    have hcl_i2 : (nI i2).toNatClampNeg = i2 := nI_clamp (by omega)
    have hs : ¬ (4 : Int32) ≤ nI i2 := nI_ge (b := 4) hlt_i2 (by decide)
    refine r_iload_n e_X0_forget_2 rfl ?_
    refine r_iconst e_X0_forget_3 ic_4 ?_
    refine r_icmp_ge e_X0_forget_4 (fun hh => absurd hh hs) (fun _ => ?_)
    refine r_aload_n e_X0_forget_7 rfl ?_
    refine r_iload_n e_X0_forget_8 rfl ?_
    refine cV1u e_X0_forget_9 cl_X0_61 ⟨Nat.le_of_ble_eq_true rfl, Nat.le_of_ble_eq_true rfl⟩ ⟨rfl, rfl⟩ k0 (Nat.le_of_ble_eq_true rfl) (S_X0_remember hb1) ?_
    refine p_iinc_2_1 e_X0_forget_12 rfl ic_1 rfl ?_
    rw [nI_1 i2]
    refine r_goto e_X0_forget_15 ?_
    (simp only [F_X0_forget_2] at hq; first | exact ih (i2 + 1) _ (by omega) hq | (simp only []; exact ih (i2 + 1) _ (by omega) hq))
def U_X0_forget (a : Nat) (M : Mem) : Mem := (F_X0_forget_2 a 4 0 M)
theorem S_X0_forget {sh : List SC} {M : Mem} {a : Nat}  (hb1 : BallAt sh a)  : Gu m_X0_forget [.ref a] sh M (U_X0_forget a M) := by
  refine Sp.of (ls := [some (.ref a), none]) (by decide +kernel) (Nat.le_of_ble_eq_true rfl) rfl ?_
  refine r_iconst e_X0_forget_0 ic_0 ?_
  refine p_istore_n_2_1 e_X0_forget_1 rfl rfl ?_
  skip
  show WP m_X0_forget _ 2 [some (.ref a), some (.int (nI 0))] [] sh M 0 0
  refine L_X0_forget_2 hb1 4 0  M (by omega) ?_
  refine r_return e_X0_forget_18 rfl ⟨rfl, rfl⟩ ?_
  (refine ⟨?_, rfl, ?_⟩ <;> ((try unfold U_X0_forget); (try simp only []); (try rfl)))
def V_X10_ball (x1 : Int32) (M : Mem) : Int32 := if (M.1 122 6) = 0 then (V_X10_finding (-1003 : Int32) M) else (if x1 < 0 then (V_X10_finding (-1001 : Int32) M) else (if x1 < (6 : Int32) then (V_X0_shown 126 x1 M) else (V_X10_finding (-1001 : Int32) M)))
def U_X10_ball (x1 : Int32) (M : Mem) : Mem := if (M.1 122 6) = 0 then (U_X10_finding (-1003 : Int32) M) else (if x1 < 0 then (U_X10_finding (-1001 : Int32) M) else (if x1 < (6 : Int32) then M else (U_X10_finding (-1001 : Int32) M)))
theorem S_X10_ball {sh : List SC} {M : Mem} {x1 : Int32}  (hb1 : PitchAt sh)  : Gv m_X10_ball [.ref 0, .int x1] sh M (.int (V_X10_ball x1 M)) (U_X10_ball x1 M) := by
  refine Sp.of (ls := [some (.ref 0), some (.int x1)]) (by decide +kernel) (Nat.le_of_ble_eq_true rfl) rfl ?_
  have k0 : kd sh 0 = some (9 + 7, 0) := hb1.1
  have k1 : rf sh 0 4 = some 122 := hb1.2.2.2.2.2.1
  have k2 : kd sh 122 = some (2 + 7, 0) := hb1.2.2.2.2.2.2.2.2.2.2.2.2.2.2.2.2.1.1
  have k3 : rf sh 122 4 = some 126 := hb1.2.2.2.2.2.2.2.2.2.2.2.2.2.2.2.2.1.2.2.2.2.2.1
  have k4 : kd sh 126 = some (0 + 7, 0) := hb1.2.2.2.2.2.2.2.2.2.2.2.2.2.2.2.2.1.2.2.2.2.2.2.2.2.2.1.1
  refine r_aload_n e_X10_ball_0 rfl ?_
  refine r_getR e_X10_ball_1 fl_X10_63 k0 k1 ?_
  refine r_getI e_X10_ball_4 fl_X10_115 i3 k2 ?_
  refine r_if_ne e_X10_ball_7 (fun h7_0 => ?_) (fun h7_0 => ?_)
  · refine r_iload_n e_X10_ball_18 rfl ?_
    refine r_if_lt e_X10_ball_19 (fun h19_1 => ?_) (fun h19_1 => ?_)
    · refine r_aload_n e_X10_ball_28 rfl ?_
      refine r_sipush e_X10_ball_29 sp_m1001 ?_
      refine cV1v e_X10_ball_32 cl_X10_70 ⟨Nat.le_of_ble_eq_true rfl, Nat.le_of_ble_eq_true rfl⟩ ⟨rfl, rfl⟩ k0 (Nat.le_of_ble_eq_true rfl) (S_X10_finding hb1) ?_
      refine r_ireturn e_X10_ball_35 rfl ⟨rfl, rfl⟩ ?_
      (refine ⟨?_, rfl, ?_⟩ <;> ((try unfold V_X10_ball); (try unfold U_X10_ball); (try simp only [if_neg h7_0, if_pos h19_1]); (try rfl)))
    · refine r_iload_n e_X10_ball_22 rfl ?_
      refine r_bipush e_X10_ball_23 bp_6 ?_
      refine r_icmp_lt e_X10_ball_25 (fun h25_2 => ?_) (fun h25_2 => ?_)
      · refine r_aload_n e_X10_ball_36 rfl ?_
        refine r_getR e_X10_ball_37 fl_X10_63 k0 k1 ?_
        refine r_getR e_X10_ball_40 fl_X10_124 k2 k3 ?_
        refine r_iload_n e_X10_ball_43 rfl ?_
        refine cV1v e_X10_ball_44 cl_X10_128 ⟨Nat.le_of_ble_eq_true rfl, Nat.le_of_ble_eq_true rfl⟩ ⟨rfl, rfl⟩ k4 (Nat.le_of_ble_eq_true rfl) (S_X0_shown hb1.2.2.2.2.2.2.2.2.2.2.2.2.2.2.2.2.1.2.2.2.2.2.2.2.2.2.1) ?_
        refine r_ireturn e_X10_ball_47 rfl ⟨rfl, rfl⟩ ?_
        (refine ⟨?_, rfl, ?_⟩ <;> ((try unfold V_X10_ball); (try unfold U_X10_ball); (try simp only [if_neg h7_0, if_neg h19_1, if_pos h25_2]); (try rfl)))
      · refine r_aload_n e_X10_ball_28 rfl ?_
        refine r_sipush e_X10_ball_29 sp_m1001 ?_
        refine cV1v e_X10_ball_32 cl_X10_70 ⟨Nat.le_of_ble_eq_true rfl, Nat.le_of_ble_eq_true rfl⟩ ⟨rfl, rfl⟩ k0 (Nat.le_of_ble_eq_true rfl) (S_X10_finding hb1) ?_
        refine r_ireturn e_X10_ball_35 rfl ⟨rfl, rfl⟩ ?_
        (refine ⟨?_, rfl, ?_⟩ <;> ((try unfold V_X10_ball); (try unfold U_X10_ball); (try simp only [if_neg h7_0, if_neg h19_1, if_neg h25_2]); (try rfl)))
  · refine r_aload_n e_X10_ball_10 rfl ?_
    refine r_sipush e_X10_ball_11 sp_m1003 ?_
    refine cV1v e_X10_ball_14 cl_X10_70 ⟨Nat.le_of_ble_eq_true rfl, Nat.le_of_ble_eq_true rfl⟩ ⟨rfl, rfl⟩ k0 (Nat.le_of_ble_eq_true rfl) (S_X10_finding hb1) ?_
    refine r_ireturn e_X10_ball_17 rfl ⟨rfl, rfl⟩ ?_
    (refine ⟨?_, rfl, ?_⟩ <;> ((try unfold V_X10_ball); (try unfold U_X10_ball); (try simp only [if_pos h7_0]); (try rfl)))
def V_X10_robot (x1 : Int32) (x2 : Int32) (M : Mem) : Int32 := if (M.1 122 6) = 0 then (V_X10_finding (-1003 : Int32) M) else (if x1 < 0 then (V_X10_finding (-1001 : Int32) M) else (if (10 : Int32) ≤ x1 then (V_X10_finding (-1001 : Int32) M) else (if x2 < 0 then (V_X10_finding (-1001 : Int32) M) else (if x2 < (11 : Int32) then (V_X5_shown (132 + 2 * x1.toNatClampNeg) x2 M) else (V_X10_finding (-1001 : Int32) M)))))
def U_X10_robot (x1 : Int32) (x2 : Int32) (M : Mem) : Mem := if (M.1 122 6) = 0 then (U_X10_finding (-1003 : Int32) M) else (if x1 < 0 then (U_X10_finding (-1001 : Int32) M) else (if (10 : Int32) ≤ x1 then (U_X10_finding (-1001 : Int32) M) else (if x2 < 0 then (U_X10_finding (-1001 : Int32) M) else (if x2 < (11 : Int32) then M else (U_X10_finding (-1001 : Int32) M)))))
theorem S_X10_robot {sh : List SC} {M : Mem} {x1 : Int32} {x2 : Int32}  (hb1 : PitchAt sh)  : Gv m_X10_robot [.ref 0, .int x1, .int x2] sh M (.int (V_X10_robot x1 x2 M)) (U_X10_robot x1 x2 M) := by
  refine Sp.of (ls := [some (.ref 0), some (.int x1), some (.int x2)]) (by decide +kernel) (Nat.le_of_ble_eq_true rfl) rfl ?_
  have k0 : kd sh 0 = some (9 + 7, 0) := hb1.1
  have k1 : rf sh 0 4 = some 122 := hb1.2.2.2.2.2.1
  have k2 : kd sh 122 = some (2 + 7, 0) := hb1.2.2.2.2.2.2.2.2.2.2.2.2.2.2.2.2.1.1
  have k3 : rf sh 122 3 = some 125 := hb1.2.2.2.2.2.2.2.2.2.2.2.2.2.2.2.2.1.2.2.2.2.1
  have k4 : kd sh 125 = some (6, 10) := hb1.2.2.2.2.2.2.2.2.2.2.2.2.2.2.2.2.1.2.2.2.2.2.2.2.1
  refine r_aload_n e_X10_robot_0 rfl ?_
  refine r_getR e_X10_robot_1 fl_X10_63 k0 k1 ?_
  refine r_getI e_X10_robot_4 fl_X10_115 i3 k2 ?_
  refine r_if_ne e_X10_robot_7 (fun h7_0 => ?_) (fun h7_0 => ?_)
  · refine r_iload_n e_X10_robot_18 rfl ?_
    refine r_if_lt e_X10_robot_19 (fun h19_1 => ?_) (fun h19_1 => ?_)
    · refine r_aload_n e_X10_robot_44 rfl ?_
      refine r_sipush e_X10_robot_45 sp_m1001 ?_
      refine cV1v e_X10_robot_48 cl_X10_70 ⟨Nat.le_of_ble_eq_true rfl, Nat.le_of_ble_eq_true rfl⟩ ⟨rfl, rfl⟩ k0 (Nat.le_of_ble_eq_true rfl) (S_X10_finding hb1) ?_
      refine r_ireturn e_X10_robot_51 rfl ⟨rfl, rfl⟩ ?_
      (refine ⟨?_, rfl, ?_⟩ <;> ((try unfold V_X10_robot); (try unfold U_X10_robot); (try simp only [if_neg h7_0, if_pos h19_1]); (try rfl)))
    · refine r_iload_n e_X10_robot_22 rfl ?_
      refine r_aload_n e_X10_robot_23 rfl ?_
      refine r_getR e_X10_robot_24 fl_X10_63 k0 k1 ?_
      refine r_getR e_X10_robot_27 fl_X10_131 k2 k3 ?_
      refine r_alen (v := (10 : Int32)) e_X10_robot_30 k4 (by decide) rfl ?_
      refine r_icmp_ge e_X10_robot_31 (fun h31_2 => ?_) (fun h31_2 => ?_)
      · refine r_aload_n e_X10_robot_44 rfl ?_
        refine r_sipush e_X10_robot_45 sp_m1001 ?_
        refine cV1v e_X10_robot_48 cl_X10_70 ⟨Nat.le_of_ble_eq_true rfl, Nat.le_of_ble_eq_true rfl⟩ ⟨rfl, rfl⟩ k0 (Nat.le_of_ble_eq_true rfl) (S_X10_finding hb1) ?_
        refine r_ireturn e_X10_robot_51 rfl ⟨rfl, rfl⟩ ?_
        (refine ⟨?_, rfl, ?_⟩ <;> ((try unfold V_X10_robot); (try unfold U_X10_robot); (try simp only [if_neg h7_0, if_neg h19_1, if_pos h31_2]); (try rfl)))
      · refine r_iload_n e_X10_robot_34 rfl ?_
        refine r_if_lt e_X10_robot_35 (fun h35_3 => ?_) (fun h35_3 => ?_)
        · refine r_aload_n e_X10_robot_44 rfl ?_
          refine r_sipush e_X10_robot_45 sp_m1001 ?_
          refine cV1v e_X10_robot_48 cl_X10_70 ⟨Nat.le_of_ble_eq_true rfl, Nat.le_of_ble_eq_true rfl⟩ ⟨rfl, rfl⟩ k0 (Nat.le_of_ble_eq_true rfl) (S_X10_finding hb1) ?_
          refine r_ireturn e_X10_robot_51 rfl ⟨rfl, rfl⟩ ?_
          (refine ⟨?_, rfl, ?_⟩ <;> ((try unfold V_X10_robot); (try unfold U_X10_robot); (try simp only [if_neg h7_0, if_neg h19_1, if_neg h31_2, if_pos h35_3]); (try rfl)))
        · refine r_iload_n e_X10_robot_38 rfl ?_
          refine r_bipush e_X10_robot_39 bp_11 ?_
          refine r_icmp_lt e_X10_robot_41 (fun h41_4 => ?_) (fun h41_4 => ?_)
          · refine r_aload_n e_X10_robot_52 rfl ?_
            refine r_getR e_X10_robot_53 fl_X10_63 k0 k1 ?_
            refine r_getR e_X10_robot_56 fl_X10_131 k2 k3 ?_
            refine r_iload_n e_X10_robot_59 rfl ?_
            refine r_aaload (b := (132 + 2 * x1.toNatClampNeg)) e_X10_robot_60 k4 ⟨by decide, by decide⟩ (vp_guard h19_1 h31_2 (by decide)) (hb1.2.2.2.2.2.2.2.2.2.2.2.2.2.2.2.2.1.2.2.2.2.2.2.2.2.1 x1.toNatClampNeg (vp_lt (vp_guard h19_1 h31_2 (by decide)))).1 ?_
            refine r_iload_n e_X10_robot_61 rfl ?_
            refine cV1v e_X10_robot_62 cl_X10_137 ⟨Nat.le_of_ble_eq_true rfl, Nat.le_of_ble_eq_true rfl⟩ ⟨rfl, rfl⟩ (show kd sh (132 + 2 * x1.toNatClampNeg) = some (5 + 7, 0) from (hb1.2.2.2.2.2.2.2.2.2.2.2.2.2.2.2.2.1.2.2.2.2.2.2.2.2.1 x1.toNatClampNeg (vp_lt (vp_guard h19_1 h31_2 (by decide)))).2.1) (Nat.le_of_ble_eq_true rfl) (S_X5_shown (hb1.2.2.2.2.2.2.2.2.2.2.2.2.2.2.2.2.1.2.2.2.2.2.2.2.2.1 x1.toNatClampNeg (vp_lt (vp_guard h19_1 h31_2 (by decide)))).2) ?_
            refine r_ireturn e_X10_robot_65 rfl ⟨rfl, rfl⟩ ?_
            (refine ⟨?_, rfl, ?_⟩ <;> ((try unfold V_X10_robot); (try unfold U_X10_robot); (try simp only [if_neg h7_0, if_neg h19_1, if_neg h31_2, if_neg h35_3, if_pos h41_4]); (try rfl)))
          · refine r_aload_n e_X10_robot_44 rfl ?_
            refine r_sipush e_X10_robot_45 sp_m1001 ?_
            refine cV1v e_X10_robot_48 cl_X10_70 ⟨Nat.le_of_ble_eq_true rfl, Nat.le_of_ble_eq_true rfl⟩ ⟨rfl, rfl⟩ k0 (Nat.le_of_ble_eq_true rfl) (S_X10_finding hb1) ?_
            refine r_ireturn e_X10_robot_51 rfl ⟨rfl, rfl⟩ ?_
            (refine ⟨?_, rfl, ?_⟩ <;> ((try unfold V_X10_robot); (try unfold U_X10_robot); (try simp only [if_neg h7_0, if_neg h19_1, if_neg h31_2, if_neg h35_3, if_neg h41_4]); (try rfl)))
  · refine r_aload_n e_X10_robot_10 rfl ?_
    refine r_sipush e_X10_robot_11 sp_m1003 ?_
    refine cV1v e_X10_robot_14 cl_X10_70 ⟨Nat.le_of_ble_eq_true rfl, Nat.le_of_ble_eq_true rfl⟩ ⟨rfl, rfl⟩ k0 (Nat.le_of_ble_eq_true rfl) (S_X10_finding hb1) ?_
    refine r_ireturn e_X10_robot_17 rfl ⟨rfl, rfl⟩ ?_
    (refine ⟨?_, rfl, ?_⟩ <;> ((try unfold V_X10_robot); (try unfold U_X10_robot); (try simp only [if_pos h7_0]); (try rfl)))
def V_X10_score (x1 : Int32) (M : Mem) : Int32 := if (M.1 122 6) = 0 then (V_X10_finding (-1003 : Int32) M) else (if x1 < 0 then (V_X10_finding (-1001 : Int32) M) else (if x1 < (9 : Int32) then (let v3_0 : Int32 := if x1 = 0 then (M.1 122 7) else (V_X7_shown 129 x1 M); v3_0) else (V_X10_finding (-1001 : Int32) M)))
def U_X10_score (x1 : Int32) (M : Mem) : Mem := if (M.1 122 6) = 0 then (U_X10_finding (-1003 : Int32) M) else (if x1 < 0 then (U_X10_finding (-1001 : Int32) M) else (if x1 < (9 : Int32) then M else (U_X10_finding (-1001 : Int32) M)))
theorem S_X10_score {sh : List SC} {M : Mem} {x1 : Int32}  (hb1 : PitchAt sh)  : Gv m_X10_score [.ref 0, .int x1] sh M (.int (V_X10_score x1 M)) (U_X10_score x1 M) := by
  refine Sp.of (ls := [some (.ref 0), some (.int x1)]) (by decide +kernel) (Nat.le_of_ble_eq_true rfl) rfl ?_
  have k0 : kd sh 0 = some (9 + 7, 0) := hb1.1
  have k1 : rf sh 0 4 = some 122 := hb1.2.2.2.2.2.1
  have k2 : kd sh 122 = some (2 + 7, 0) := hb1.2.2.2.2.2.2.2.2.2.2.2.2.2.2.2.2.1.1
  have k3 : rf sh 122 5 = some 129 := hb1.2.2.2.2.2.2.2.2.2.2.2.2.2.2.2.2.1.2.2.2.2.2.2.1
  have k4 : kd sh 129 = some (7 + 7, 0) := hb1.2.2.2.2.2.2.2.2.2.2.2.2.2.2.2.2.1.2.2.2.2.2.2.2.2.2.2.1.1
  refine r_aload_n e_X10_score_0 rfl ?_
  refine r_getR e_X10_score_1 fl_X10_63 k0 k1 ?_
  refine r_getI e_X10_score_4 fl_X10_115 i3 k2 ?_
  refine r_if_ne e_X10_score_7 (fun h7_0 => ?_) (fun h7_0 => ?_)
  · refine r_iload_n e_X10_score_18 rfl ?_
    refine r_if_lt e_X10_score_19 (fun h19_1 => ?_) (fun h19_1 => ?_)
    · refine r_aload_n e_X10_score_28 rfl ?_
      refine r_sipush e_X10_score_29 sp_m1001 ?_
      refine cV1v e_X10_score_32 cl_X10_70 ⟨Nat.le_of_ble_eq_true rfl, Nat.le_of_ble_eq_true rfl⟩ ⟨rfl, rfl⟩ k0 (Nat.le_of_ble_eq_true rfl) (S_X10_finding hb1) ?_
      refine r_ireturn e_X10_score_35 rfl ⟨rfl, rfl⟩ ?_
      (refine ⟨?_, rfl, ?_⟩ <;> ((try unfold V_X10_score); (try unfold U_X10_score); (try simp only [if_neg h7_0, if_pos h19_1]); (try rfl)))
    · refine r_iload_n e_X10_score_22 rfl ?_
      refine r_bipush e_X10_score_23 bp_9 ?_
      refine r_icmp_lt e_X10_score_25 (fun h25_2 => ?_) (fun h25_2 => ?_)
      · refine r_iload_n e_X10_score_36 rfl ?_
        obtain ⟨v3_0, e_v3_0⟩ : ∃ z : Int32, z = (if x1 = 0 then (M.1 122 7) else (V_X7_shown 129 x1 M)) := ⟨_, rfl⟩
        suffices j61_3 : WP m_X10_score (fun r sh' M'' => r = some (.int (V_X10_score x1 M)) ∧ sh' = sh ∧ M'' = (U_X10_score x1 M)) 61 [some (.ref 0), some (.int x1)] [.int v3_0] sh M 0 0 by
          refine r_if_ne e_X10_score_37 (fun h37_3 => ?_) (fun h37_3 => ?_)
          · refine r_aload_n e_X10_score_50 rfl ?_
            refine r_getR e_X10_score_51 fl_X10_63 k0 k1 ?_
            refine r_getR e_X10_score_54 fl_X10_143 k2 k3 ?_
            refine r_iload_n e_X10_score_57 rfl ?_
            refine cV1v e_X10_score_58 cl_X10_147 ⟨Nat.le_of_ble_eq_true rfl, Nat.le_of_ble_eq_true rfl⟩ ⟨rfl, rfl⟩ k4 (Nat.le_of_ble_eq_true rfl) (S_X7_shown hb1.2.2.2.2.2.2.2.2.2.2.2.2.2.2.2.2.1.2.2.2.2.2.2.2.2.2.2.1) ?_
            (rw [show v3_0 = (V_X7_shown 129 x1 M) from (e_v3_0.trans (if_neg h37_3))] at j61_3; exact j61_3)
          · refine r_aload_n e_X10_score_40 rfl ?_
            refine r_getR e_X10_score_41 fl_X10_63 k0 k1 ?_
            refine r_getI e_X10_score_44 fl_X10_140 i0 k2 ?_
            refine r_goto e_X10_score_47 ?_
            (rw [show v3_0 = (M.1 122 7) from (e_v3_0.trans (if_pos h37_3))] at j61_3; exact j61_3)
        refine r_ireturn e_X10_score_61 rfl ⟨rfl, rfl⟩ ?_
        (subst e_v3_0; refine ⟨?_, rfl, ?_⟩ <;> ((try unfold V_X10_score); (try unfold U_X10_score); (try simp only [if_neg h7_0, if_neg h19_1, if_pos h25_2]); (try rfl)))
      · refine r_aload_n e_X10_score_28 rfl ?_
        refine r_sipush e_X10_score_29 sp_m1001 ?_
        refine cV1v e_X10_score_32 cl_X10_70 ⟨Nat.le_of_ble_eq_true rfl, Nat.le_of_ble_eq_true rfl⟩ ⟨rfl, rfl⟩ k0 (Nat.le_of_ble_eq_true rfl) (S_X10_finding hb1) ?_
        refine r_ireturn e_X10_score_35 rfl ⟨rfl, rfl⟩ ?_
        (refine ⟨?_, rfl, ?_⟩ <;> ((try unfold V_X10_score); (try unfold U_X10_score); (try simp only [if_neg h7_0, if_neg h19_1, if_neg h25_2]); (try rfl)))
  · refine r_aload_n e_X10_score_10 rfl ?_
    refine r_sipush e_X10_score_11 sp_m1003 ?_
    refine cV1v e_X10_score_14 cl_X10_70 ⟨Nat.le_of_ble_eq_true rfl, Nat.le_of_ble_eq_true rfl⟩ ⟨rfl, rfl⟩ k0 (Nat.le_of_ble_eq_true rfl) (S_X10_finding hb1) ?_
    refine r_ireturn e_X10_score_17 rfl ⟨rfl, rfl⟩ ?_
    (refine ⟨?_, rfl, ?_⟩ <;> ((try unfold V_X10_score); (try unfold U_X10_score); (try simp only [if_pos h7_0]); (try rfl)))
def V_X10_goal (x1 : Int32) (M : Mem) : Int32 := if (M.1 122 6) = 0 then (V_X10_finding (-1003 : Int32) M) else (if x1 < 0 then (V_X10_finding (-1004 : Int32) M) else (if x1 < (V_X7_listed 129 M) then (V_X7_goalAt 129 x1 M) else (V_X10_finding (-1004 : Int32) M)))
def U_X10_goal (x1 : Int32) (M : Mem) : Mem := if (M.1 122 6) = 0 then (U_X10_finding (-1003 : Int32) M) else (if x1 < 0 then (U_X10_finding (-1004 : Int32) M) else (if x1 < (V_X7_listed 129 M) then M else (U_X10_finding (-1004 : Int32) M)))
theorem S_X10_goal {sh : List SC} {M : Mem} {x1 : Int32}  (hb1 : PitchAt sh)  : Gv m_X10_goal [.ref 0, .int x1] sh M (.int (V_X10_goal x1 M)) (U_X10_goal x1 M) := by
  refine Sp.of (ls := [some (.ref 0), some (.int x1)]) (by decide +kernel) (Nat.le_of_ble_eq_true rfl) rfl ?_
  have k0 : kd sh 0 = some (9 + 7, 0) := hb1.1
  have k1 : rf sh 0 4 = some 122 := hb1.2.2.2.2.2.1
  have k2 : kd sh 122 = some (2 + 7, 0) := hb1.2.2.2.2.2.2.2.2.2.2.2.2.2.2.2.2.1.1
  have k3 : rf sh 122 5 = some 129 := hb1.2.2.2.2.2.2.2.2.2.2.2.2.2.2.2.2.1.2.2.2.2.2.2.1
  have k4 : kd sh 129 = some (7 + 7, 0) := hb1.2.2.2.2.2.2.2.2.2.2.2.2.2.2.2.2.1.2.2.2.2.2.2.2.2.2.2.1.1
  refine r_aload_n e_X10_goal_0 rfl ?_
  refine r_getR e_X10_goal_1 fl_X10_63 k0 k1 ?_
  refine r_getI e_X10_goal_4 fl_X10_115 i3 k2 ?_
  refine r_if_ne e_X10_goal_7 (fun h7_0 => ?_) (fun h7_0 => ?_)
  · refine r_iload_n e_X10_goal_18 rfl ?_
    refine r_if_lt e_X10_goal_19 (fun h19_1 => ?_) (fun h19_1 => ?_)
    · refine r_aload_n e_X10_goal_36 rfl ?_
      refine r_sipush e_X10_goal_37 sp_m1004 ?_
      refine cV1v e_X10_goal_40 cl_X10_70 ⟨Nat.le_of_ble_eq_true rfl, Nat.le_of_ble_eq_true rfl⟩ ⟨rfl, rfl⟩ k0 (Nat.le_of_ble_eq_true rfl) (S_X10_finding hb1) ?_
      refine r_ireturn e_X10_goal_43 rfl ⟨rfl, rfl⟩ ?_
      (refine ⟨?_, rfl, ?_⟩ <;> ((try unfold V_X10_goal); (try unfold U_X10_goal); (try simp only [if_neg h7_0, if_pos h19_1]); (try rfl)))
    · refine r_iload_n e_X10_goal_22 rfl ?_
      refine r_aload_n e_X10_goal_23 rfl ?_
      refine r_getR e_X10_goal_24 fl_X10_63 k0 k1 ?_
      refine r_getR e_X10_goal_27 fl_X10_143 k2 k3 ?_
      refine cV0v e_X10_goal_30 cl_X10_148 ⟨Nat.le_of_ble_eq_true rfl, Nat.le_of_ble_eq_true rfl⟩ ⟨rfl, rfl⟩ k4 (Nat.le_of_ble_eq_true rfl) (S_X7_listed hb1.2.2.2.2.2.2.2.2.2.2.2.2.2.2.2.2.1.2.2.2.2.2.2.2.2.2.2.1) ?_
      refine r_icmp_lt e_X10_goal_33 (fun h33_2 => ?_) (fun h33_2 => ?_)
      · refine r_aload_n e_X10_goal_44 rfl ?_
        refine r_getR e_X10_goal_45 fl_X10_63 k0 k1 ?_
        refine r_getR e_X10_goal_48 fl_X10_143 k2 k3 ?_
        refine r_iload_n e_X10_goal_51 rfl ?_
        refine cV1v e_X10_goal_52 cl_X10_151 ⟨Nat.le_of_ble_eq_true rfl, Nat.le_of_ble_eq_true rfl⟩ ⟨rfl, rfl⟩ k4 (Nat.le_of_ble_eq_true rfl) (S_X7_goalAt hb1.2.2.2.2.2.2.2.2.2.2.2.2.2.2.2.2.1.2.2.2.2.2.2.2.2.2.2.1) ?_
        refine r_ireturn e_X10_goal_55 rfl ⟨rfl, rfl⟩ ?_
        (refine ⟨?_, rfl, ?_⟩ <;> ((try unfold V_X10_goal); (try unfold U_X10_goal); (try simp only [if_neg h7_0, if_neg h19_1, if_pos h33_2]); (try rfl)))
      · refine r_aload_n e_X10_goal_36 rfl ?_
        refine r_sipush e_X10_goal_37 sp_m1004 ?_
        refine cV1v e_X10_goal_40 cl_X10_70 ⟨Nat.le_of_ble_eq_true rfl, Nat.le_of_ble_eq_true rfl⟩ ⟨rfl, rfl⟩ k0 (Nat.le_of_ble_eq_true rfl) (S_X10_finding hb1) ?_
        refine r_ireturn e_X10_goal_43 rfl ⟨rfl, rfl⟩ ?_
        (refine ⟨?_, rfl, ?_⟩ <;> ((try unfold V_X10_goal); (try unfold U_X10_goal); (try simp only [if_neg h7_0, if_neg h19_1, if_neg h33_2]); (try rfl)))
  · refine r_aload_n e_X10_goal_10 rfl ?_
    refine r_sipush e_X10_goal_11 sp_m1003 ?_
    refine cV1v e_X10_goal_14 cl_X10_70 ⟨Nat.le_of_ble_eq_true rfl, Nat.le_of_ble_eq_true rfl⟩ ⟨rfl, rfl⟩ k0 (Nat.le_of_ble_eq_true rfl) (S_X10_finding hb1) ?_
    refine r_ireturn e_X10_goal_17 rfl ⟨rfl, rfl⟩ ?_
    (refine ⟨?_, rfl, ?_⟩ <;> ((try unfold V_X10_goal); (try unfold U_X10_goal); (try simp only [if_pos h7_0]); (try rfl)))
def U_X1_enter (a : Nat) (x1 : Int32) (x2 : Int32) (x3 : Int32) (x4 : Int32) (M : Mem) : Mem := U_X1_enterFor a x2 x4 x3 (U_X1_enterFor a x1 x3 x4 M)
theorem S_X1_enter {sh : List SC} {M : Mem} {a : Nat} {x1 : Int32} {x2 : Int32} {x3 : Int32} {x4 : Int32}  (hb1 : LeagueAt sh a)  : Gu m_X1_enter [.ref a, .int x1, .int x2, .int x3, .int x4] sh M (U_X1_enter a x1 x2 x3 x4 M) := by
  refine Sp.of (ls := [some (.ref a), some (.int x1), some (.int x2), some (.int x3), some (.int x4)]) (by decide +kernel) (Nat.le_of_ble_eq_true rfl) rfl ?_
  have k0 : kd sh a = some (1 + 7, 0) := hb1.1
  refine r_aload_n e_X1_enter_0 rfl ?_
  refine r_iload_n e_X1_enter_1 rfl ?_
  refine r_iload_n e_X1_enter_2 rfl ?_
  refine r_iload e_X1_enter_3 rfl ?_
  refine cV3u e_X1_enter_5 cl_X1_29 ⟨Nat.le_of_ble_eq_true rfl, Nat.le_of_ble_eq_true rfl⟩ ⟨rfl, rfl⟩ k0 (Nat.le_of_ble_eq_true rfl) (S_X1_enterFor hb1) ?_
  refine r_aload_n e_X1_enter_8 rfl ?_
  refine r_iload_n e_X1_enter_9 rfl ?_
  refine r_iload e_X1_enter_10 rfl ?_
  refine r_iload_n e_X1_enter_12 rfl ?_
  refine cV3u e_X1_enter_13 cl_X1_29 ⟨Nat.le_of_ble_eq_true rfl, Nat.le_of_ble_eq_true rfl⟩ ⟨rfl, rfl⟩ k0 (Nat.le_of_ble_eq_true rfl) (S_X1_enterFor hb1) ?_
  refine r_return e_X1_enter_16 rfl ⟨rfl, rfl⟩ ?_
  (refine ⟨?_, rfl, ?_⟩ <;> ((try unfold U_X1_enter); (try simp only []); (try rfl)))
def V_X10_table (x1 : Int32) (x2 : Int32) (M : Mem) : Int32 := if (V_X10_isTeam x1 M) = 0 then (V_X10_finding (-1001 : Int32) M) else (if x2 < 0 then (V_X10_finding (-1001 : Int32) M) else (if x2 ≤ (2 : Int32) then (if (V_X1_has 11 x1 M) = 0 then (V_X10_finding (-1004 : Int32) M) else (V_X1_shown 11 x1 x2 M)) else (V_X10_finding (-1001 : Int32) M)))
def U_X10_table (x1 : Int32) (x2 : Int32) (M : Mem) : Mem := if (V_X10_isTeam x1 M) = 0 then (U_X10_finding (-1001 : Int32) M) else (if x2 < 0 then (U_X10_finding (-1001 : Int32) M) else (if x2 ≤ (2 : Int32) then (if (V_X1_has 11 x1 M) = 0 then (U_X10_finding (-1004 : Int32) M) else M) else (U_X10_finding (-1001 : Int32) M)))
theorem S_X10_table {sh : List SC} {M : Mem} {x1 : Int32} {x2 : Int32}  (hb1 : PitchAt sh)  : Gv m_X10_table [.ref 0, .int x1, .int x2] sh M (.int (V_X10_table x1 x2 M)) (U_X10_table x1 x2 M) := by
  refine Sp.of (ls := [some (.ref 0), some (.int x1), some (.int x2)]) (by decide +kernel) (Nat.le_of_ble_eq_true rfl) rfl ?_
  have k0 : kd sh 0 = some (9 + 7, 0) := hb1.1
  have k1 : rf sh 0 7 = some 11 := hb1.2.2.2.2.2.2.2.2.1
  have k2 : kd sh 11 = some (1 + 7, 0) := hb1.2.2.2.2.2.2.2.2.2.2.2.2.2.2.2.1.1
  refine r_iload_n e_X10_table_0 rfl ?_
  refine cS1v e_X10_table_1 cl_X10_89 ⟨Nat.le_of_ble_eq_true rfl, Nat.le_of_ble_eq_true rfl⟩ ⟨rfl, rfl⟩  (Nat.le_of_ble_eq_true rfl) (S_X10_isTeam ) ?_
  refine r_if_eq e_X10_table_4 (fun h4_0 => ?_) (fun h4_0 => ?_)
  · refine r_aload_n e_X10_table_16 rfl ?_
    refine r_sipush e_X10_table_17 sp_m1001 ?_
    refine cV1v e_X10_table_20 cl_X10_70 ⟨Nat.le_of_ble_eq_true rfl, Nat.le_of_ble_eq_true rfl⟩ ⟨rfl, rfl⟩ k0 (Nat.le_of_ble_eq_true rfl) (S_X10_finding hb1) ?_
    refine r_ireturn e_X10_table_23 rfl ⟨rfl, rfl⟩ ?_
    (refine ⟨?_, rfl, ?_⟩ <;> ((try unfold V_X10_table); (try unfold U_X10_table); (try simp only [if_pos h4_0]); (try rfl)))
  · refine r_iload_n e_X10_table_7 rfl ?_
    refine r_if_lt e_X10_table_8 (fun h8_1 => ?_) (fun h8_1 => ?_)
    · refine r_aload_n e_X10_table_16 rfl ?_
      refine r_sipush e_X10_table_17 sp_m1001 ?_
      refine cV1v e_X10_table_20 cl_X10_70 ⟨Nat.le_of_ble_eq_true rfl, Nat.le_of_ble_eq_true rfl⟩ ⟨rfl, rfl⟩ k0 (Nat.le_of_ble_eq_true rfl) (S_X10_finding hb1) ?_
      refine r_ireturn e_X10_table_23 rfl ⟨rfl, rfl⟩ ?_
      (refine ⟨?_, rfl, ?_⟩ <;> ((try unfold V_X10_table); (try unfold U_X10_table); (try simp only [if_neg h4_0, if_pos h8_1]); (try rfl)))
    · refine r_iload_n e_X10_table_11 rfl ?_
      refine r_iconst e_X10_table_12 ic_2 ?_
      refine r_icmp_le e_X10_table_13 (fun h13_2 => ?_) (fun h13_2 => ?_)
      · refine r_aload_n e_X10_table_24 rfl ?_
        refine r_getR e_X10_table_25 fl_X10_41 k0 k1 ?_
        refine r_iload_n e_X10_table_28 rfl ?_
        refine cV1v e_X10_table_29 cl_X10_173 ⟨Nat.le_of_ble_eq_true rfl, Nat.le_of_ble_eq_true rfl⟩ ⟨rfl, rfl⟩ k2 (Nat.le_of_ble_eq_true rfl) (S_X1_has hb1.2.2.2.2.2.2.2.2.2.2.2.2.2.2.2.1) ?_
        refine r_if_ne e_X10_table_32 (fun h32_3 => ?_) (fun h32_3 => ?_)
        · refine r_aload_n e_X10_table_43 rfl ?_
          refine r_getR e_X10_table_44 fl_X10_41 k0 k1 ?_
          refine r_iload_n e_X10_table_47 rfl ?_
          refine r_iload_n e_X10_table_48 rfl ?_
          refine cV2v e_X10_table_49 cl_X10_186 ⟨Nat.le_of_ble_eq_true rfl, Nat.le_of_ble_eq_true rfl⟩ ⟨rfl, rfl⟩ k2 (Nat.le_of_ble_eq_true rfl) (S_X1_shown hb1.2.2.2.2.2.2.2.2.2.2.2.2.2.2.2.1) ?_
          refine r_ireturn e_X10_table_52 rfl ⟨rfl, rfl⟩ ?_
          (refine ⟨?_, rfl, ?_⟩ <;> ((try unfold V_X10_table); (try unfold U_X10_table); (try simp only [if_neg h4_0, if_neg h8_1, if_pos h13_2, if_neg h32_3]); (try rfl)))
        · refine r_aload_n e_X10_table_35 rfl ?_
          refine r_sipush e_X10_table_36 sp_m1004 ?_
          refine cV1v e_X10_table_39 cl_X10_70 ⟨Nat.le_of_ble_eq_true rfl, Nat.le_of_ble_eq_true rfl⟩ ⟨rfl, rfl⟩ k0 (Nat.le_of_ble_eq_true rfl) (S_X10_finding hb1) ?_
          refine r_ireturn e_X10_table_42 rfl ⟨rfl, rfl⟩ ?_
          (refine ⟨?_, rfl, ?_⟩ <;> ((try unfold V_X10_table); (try unfold U_X10_table); (try simp only [if_neg h4_0, if_neg h8_1, if_pos h13_2, if_pos h32_3]); (try rfl)))
      · refine r_aload_n e_X10_table_16 rfl ?_
        refine r_sipush e_X10_table_17 sp_m1001 ?_
        refine cV1v e_X10_table_20 cl_X10_70 ⟨Nat.le_of_ble_eq_true rfl, Nat.le_of_ble_eq_true rfl⟩ ⟨rfl, rfl⟩ k0 (Nat.le_of_ble_eq_true rfl) (S_X10_finding hb1) ?_
        refine r_ireturn e_X10_table_23 rfl ⟨rfl, rfl⟩ ?_
        (refine ⟨?_, rfl, ?_⟩ <;> ((try unfold V_X10_table); (try unfold U_X10_table); (try simp only [if_neg h4_0, if_neg h8_1, if_neg h13_2]); (try rfl)))
