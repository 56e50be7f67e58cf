def V_X11_ball (x1 : Int32) (mA : Nat) (M : Mem) : Int32 := if (V_X11_isMatch  mA M) = 0 then (V_X11_finding (-1003 : Int32) M) else (if (V_X11_in x1 (0 : Int32) (5 : Int32) M) = 0 then (V_X11_finding (-1001 : Int32) M) else (V_X11_ballOf mA (0 : Int32) x1 212 M))
def U_X11_ball (x1 : Int32) (mA : Nat) (M : Mem) : Mem := if (V_X11_isMatch  mA M) = 0 then (U_X11_finding (-1003 : Int32) M) else (if (V_X11_in x1 (0 : Int32) (5 : Int32) M) = 0 then (U_X11_finding (-1001 : Int32) M) else M)
def P_X11_ball (x1 : Int32) (mA : Nat) (M : Mem) : Prop := (¬ ((V_X11_isMatch  mA M) = 0) → ¬ ((V_X11_in x1 (0 : Int32) (5 : Int32) M) = 0) → P_X11_ballOf mA (0 : Int32) x1 212 M)
theorem S_X11_ball {sh : List SC} {M : Mem} {x1 : Int32} {mA : Nat} {oA : Nat} (hb1 : ModelAt sh mA oA)  (hP : P_X11_ball x1 mA M) : Gv m_X11_ball [.ref 242, .int x1] sh M (.int (V_X11_ball x1 mA M)) (U_X11_ball x1 mA M) := by
  refine Sp.of (ls := [some (.ref 242), some (.int x1)]) (by decide +kernel) (Nat.le_of_ble_eq_true rfl) rfl ?_
  have g1 : ¬ ((V_X11_isMatch  mA M) = 0) → ¬ ((V_X11_in x1 (0 : Int32) (5 : Int32) M) = 0) → P_X11_ballOf mA (0 : Int32) x1 212 M := hP
  have k0 : kd sh 242 = some (10 + 7, 0) := hb1.1
  have k1 : rf sh 242 27 = some mA := hb1.2.2.2.2.2.2.2.2.2.2.2.2.2.2.2.2.2.1
  have k2 : kd sh mA = some (0, 212) := hb1.2.2.2.2.2.2.2.2.2.2.2.2.2.2.2.2.2.2.2.2.2.2.2.2.2.2.2.2.2.2.2.2.2.2.2.2.2.2.2.2.2.2.2.2.2.2.2.2.2.2.2.1
  refine r_aload_n e_X11_ball_0 rfl ?_
  refine cV0v e_X11_ball_1 cl_X11_394 ⟨Nat.le_of_ble_eq_true rfl, Nat.le_of_ble_eq_true rfl⟩ ⟨rfl, rfl⟩ k0 (Nat.le_of_ble_eq_true rfl) (S_X11_isMatch hb1) ?_
  refine r_if_ne e_X11_ball_4 (fun h4_0 => ?_) (fun h4_0 => ?_)
  · refine r_iload_n e_X11_ball_15 rfl ?_
    refine r_iconst e_X11_ball_16 ic_0 ?_
    refine r_iconst e_X11_ball_17 ic_5 ?_
    refine cS3v e_X11_ball_18 cl_X11_245 ⟨Nat.le_of_ble_eq_true rfl, Nat.le_of_ble_eq_true rfl⟩ ⟨rfl, rfl⟩  (Nat.le_of_ble_eq_true rfl) (S_X11_in ) ?_
    refine r_if_ne e_X11_ball_21 (fun h21_1 => ?_) (fun h21_1 => ?_)
    · refine r_aload_n e_X11_ball_32 rfl ?_
      refine r_getR e_X11_ball_33 fl_X11_212 k0 k1 ?_
      refine r_iconst e_X11_ball_36 ic_0 ?_
      refine r_iload_n e_X11_ball_37 rfl ?_
      refine cS3v e_X11_ball_38 cl_X11_400 ⟨Nat.le_of_ble_eq_true rfl, Nat.le_of_ble_eq_true rfl⟩ ⟨rfl, rfl⟩  (Nat.le_of_ble_eq_true rfl) (S_X11_ballOf k2 (by first | decide | (unfold vp_in; decide) | exact Or.inl rfl | exact Or.inr rfl) (g1 h4_0 h21_1)) ?_
      refine r_ireturn e_X11_ball_41 rfl ⟨rfl, rfl⟩ ?_
      (refine ⟨?_, rfl, ?_⟩ <;> ((try unfold V_X11_ball); (try unfold U_X11_ball); (try simp only [if_neg h4_0, if_neg h21_1]); (try rfl)))
    · refine r_aload_n e_X11_ball_24 rfl ?_
      refine r_sipush e_X11_ball_25 sp_m1001 ?_
      refine cV1v e_X11_ball_28 cl_X11_178 ⟨Nat.le_of_ble_eq_true rfl, Nat.le_of_ble_eq_true rfl⟩ ⟨rfl, rfl⟩ k0 (Nat.le_of_ble_eq_true rfl) (S_X11_finding hb1 (by first | decide | (unfold vp_in; decide) | exact Or.inl rfl | exact Or.inr rfl)) ?_
      refine r_ireturn e_X11_ball_31 rfl ⟨rfl, rfl⟩ ?_
      (refine ⟨?_, rfl, ?_⟩ <;> ((try unfold V_X11_ball); (try unfold U_X11_ball); (try simp only [if_neg h4_0, if_pos h21_1]); (try rfl)))
  · refine r_aload_n e_X11_ball_7 rfl ?_
    refine r_sipush e_X11_ball_8 sp_m1003 ?_
    refine cV1v e_X11_ball_11 cl_X11_178 ⟨Nat.le_of_ble_eq_true rfl, Nat.le_of_ble_eq_true rfl⟩ ⟨rfl, rfl⟩ k0 (Nat.le_of_ble_eq_true rfl) (S_X11_finding hb1 (by first | decide | (unfold vp_in; decide) | exact Or.inl rfl | exact Or.inr rfl)) ?_
    refine r_ireturn e_X11_ball_14 rfl ⟨rfl, rfl⟩ ?_
    (refine ⟨?_, rfl, ?_⟩ <;> ((try unfold V_X11_ball); (try unfold U_X11_ball); (try simp only [if_pos h4_0]); (try rfl)))
def V_X11_table (x1 : Int32) (x2 : Int32) (M : Mem) : Int32 := if (V_X11_isTeam x1 M) = 0 then (V_X11_finding (-1001 : Int32) M) else (if (V_X11_in x2 (0 : Int32) (2 : Int32) M) = 0 then (V_X11_finding (-1001 : Int32) M) else (if (V_X11_hasPlayed x1 M) = 0 then (V_X11_finding (-1004 : Int32) M) else (let v3_0 : Int32 := if x2 = 0 then (M.1 265 x1.toNatClampNeg) else (if x2 = (1 : Int32) then (M.1 266 x1.toNatClampNeg) else (M.1 267 x1.toNatClampNeg)); v3_0)))
def U_X11_table (x1 : Int32) (x2 : Int32) (M : Mem) : Mem := if (V_X11_isTeam x1 M) = 0 then (U_X11_finding (-1001 : Int32) M) else (if (V_X11_in x2 (0 : Int32) (2 : Int32) M) = 0 then (U_X11_finding (-1001 : Int32) M) else (if (V_X11_hasPlayed x1 M) = 0 then (U_X11_finding (-1004 : Int32) M) else M))
def P_X11_table (x1 : Int32) (x2 : Int32) (M : Mem) : Prop := (¬ ((V_X11_isTeam x1 M) = 0) → ¬ ((V_X11_in x2 (0 : Int32) (2 : Int32) M) = 0) → ¬ ((V_X11_hasPlayed x1 M) = 0) → ¬ (x2 = 0) → ¬ (x2 = (1 : Int32)) → vp_in x1 4) ∧ (¬ ((V_X11_isTeam x1 M) = 0) → ¬ ((V_X11_in x2 (0 : Int32) (2 : Int32) M) = 0) → ¬ ((V_X11_hasPlayed x1 M) = 0) → ¬ (x2 = 0) → x2 = (1 : Int32) → vp_in x1 4) ∧ (¬ ((V_X11_isTeam x1 M) = 0) → ¬ ((V_X11_in x2 (0 : Int32) (2 : Int32) M) = 0) → ¬ ((V_X11_hasPlayed x1 M) = 0) → x2 = 0 → vp_in x1 4)
theorem S_X11_table {sh : List SC} {M : Mem} {x1 : Int32} {x2 : Int32} {mA : Nat} {oA : Nat} (hb1 : ModelAt sh mA oA)  (hP : P_X11_table x1 x2 M) : Gv m_X11_table [.ref 242, .int x1, .int x2] sh M (.int (V_X11_table x1 x2 M)) (U_X11_table x1 x2 M) := by
  refine Sp.of (ls := [some (.ref 242), some (.int x1), some (.int x2)]) (by decide +kernel) (Nat.le_of_ble_eq_true rfl) rfl ?_
  obtain ⟨g1, g2, g3⟩ := hP
  have k0 : kd sh 242 = some (10 + 7, 0) := hb1.1
  have k1 : rf sh 242 45 = some 267 := hb1.2.2.2.2.2.2.2.2.2.2.2.2.2.2.2.2.2.2.2.2.2.2.2.2.2.1
  have k2 : kd sh 267 = some (0, 4) := hb1.2.2.2.2.2.2.2.2.2.2.2.2.2.2.2.2.2.2.2.2.2.2.2.2.2.2.2.2.2.2.2.2.2.2.2.2.2.2.2.2.2.2.2.2.2.2.2.2.2.1
  have k3 : rf sh 242 44 = some 266 := hb1.2.2.2.2.2.2.2.2.2.2.2.2.2.2.2.2.2.2.2.2.2.2.2.2.1
  have k4 : kd sh 266 = some (0, 4) := hb1.2.2.2.2.2.2.2.2.2.2.2.2.2.2.2.2.2.2.2.2.2.2.2.2.2.2.2.2.2.2.2.2.2.2.2.2.2.2.2.2.2.2.2.2.2.2.2.2.1
  have k5 : rf sh 242 43 = some 265 := hb1.2.2.2.2.2.2.2.2.2.2.2.2.2.2.2.2.2.2.2.2.2.2.2.1
  have k6 : kd sh 265 = some (0, 4) := hb1.2.2.2.2.2.2.2.2.2.2.2.2.2.2.2.2.2.2.2.2.2.2.2.2.2.2.2.2.2.2.2.2.2.2.2.2.2.2.2.2.2.2.2.2.2.2.2.1
  refine r_iload_n e_X11_table_0 rfl ?_
  refine cS1v e_X11_table_1 cl_X11_249 ⟨Nat.le_of_ble_eq_true rfl, Nat.le_of_ble_eq_true rfl⟩ ⟨rfl, rfl⟩  (Nat.le_of_ble_eq_true rfl) (S_X11_isTeam ) ?_
  refine r_if_eq e_X11_table_4 (fun h4_0 => ?_) (fun h4_0 => ?_)
  · refine r_aload_n e_X11_table_16 rfl ?_
    refine r_sipush e_X11_table_17 sp_m1001 ?_
    refine cV1v e_X11_table_20 cl_X11_178 ⟨Nat.le_of_ble_eq_true rfl, Nat.le_of_ble_eq_true rfl⟩ ⟨rfl, rfl⟩ k0 (Nat.le_of_ble_eq_true rfl) (S_X11_finding hb1 (by first | decide | (unfold vp_in; decide) | exact Or.inl rfl | exact Or.inr rfl)) ?_
    refine r_ireturn e_X11_table_23 rfl ⟨rfl, rfl⟩ ?_
    (refine ⟨?_, rfl, ?_⟩ <;> ((try unfold V_X11_table); (try unfold U_X11_table); (try simp only [if_pos h4_0]); (try rfl)))
  · refine r_iload_n e_X11_table_7 rfl ?_
    refine r_iconst e_X11_table_8 ic_0 ?_
    refine r_iconst e_X11_table_9 ic_2 ?_
    refine cS3v e_X11_table_10 cl_X11_245 ⟨Nat.le_of_ble_eq_true rfl, Nat.le_of_ble_eq_true rfl⟩ ⟨rfl, rfl⟩  (Nat.le_of_ble_eq_true rfl) (S_X11_in ) ?_
    refine r_if_ne e_X11_table_13 (fun h13_1 => ?_) (fun h13_1 => ?_)
    · refine r_aload_n e_X11_table_24 rfl ?_
      refine r_iload_n e_X11_table_25 rfl ?_
      refine cV1v e_X11_table_26 cl_X11_414 ⟨Nat.le_of_ble_eq_true rfl, Nat.le_of_ble_eq_true rfl⟩ ⟨rfl, rfl⟩ k0 (Nat.le_of_ble_eq_true rfl) (S_X11_hasPlayed hb1) ?_
      refine r_if_ne e_X11_table_29 (fun h29_2 => ?_) (fun h29_2 => ?_)
      · refine r_iload_n e_X11_table_40 rfl ?_
        obtain ⟨v3_0, e_v3_0⟩ : ∃ z : Int32, z = (if x2 = 0 then (M.1 265 x1.toNatClampNeg) else (if x2 = (1 : Int32) then (M.1 266 x1.toNatClampNeg) else (M.1 267 x1.toNatClampNeg))) := ⟨_, rfl⟩
        suffices j73_3 : WP m_X11_table (fun r sh' M'' => r = some (.int (V_X11_table x1 x2 M)) ∧ sh' = sh ∧ M'' = (U_X11_table x1 x2 M)) 73 [some (.ref 242), some (.int x1), some (.int x2)] [.int v3_0] sh M 0 0 by
          refine r_if_ne e_X11_table_41 (fun h41_3 => ?_) (fun h41_3 => ?_)
          · refine r_iload_n e_X11_table_53 rfl ?_
            refine r_iconst e_X11_table_54 ic_1 ?_
            refine r_icmp_ne e_X11_table_55 (fun h55_4 => ?_) (fun h55_4 => ?_)
            · refine r_aload_n e_X11_table_67 rfl ?_
              refine r_getR e_X11_table_68 fl_X11_239 k0 k1 ?_
              refine r_iload_n e_X11_table_71 rfl ?_
              refine r_iaload e_X11_table_72 k2 (g1 h4_0 h13_1 h29_2 h41_3 h55_4) ?_
              (rw [show v3_0 = (M.1 267 x1.toNatClampNeg) from ((e_v3_0.trans (if_neg h41_3)).trans (if_neg h55_4))] at j73_3; exact j73_3)
            · refine r_aload_n e_X11_table_58 rfl ?_
              refine r_getR e_X11_table_59 fl_X11_236 k0 k3 ?_
              refine r_iload_n e_X11_table_62 rfl ?_
              refine r_iaload e_X11_table_63 k4 (g2 h4_0 h13_1 h29_2 h41_3 h55_4) ?_
              refine r_goto e_X11_table_64 ?_
              (rw [show v3_0 = (M.1 266 x1.toNatClampNeg) from ((e_v3_0.trans (if_neg h41_3)).trans (if_pos h55_4))] at j73_3; exact j73_3)
          · refine r_aload_n e_X11_table_44 rfl ?_
            refine r_getR e_X11_table_45 fl_X11_233 k0 k5 ?_
            refine r_iload_n e_X11_table_48 rfl ?_
            refine r_iaload e_X11_table_49 k6 (g3 h4_0 h13_1 h29_2 h41_3) ?_
            refine r_goto e_X11_table_50 ?_
            (rw [show v3_0 = (M.1 265 x1.toNatClampNeg) from (e_v3_0.trans (if_pos h41_3))] at j73_3; exact j73_3)
        refine r_ireturn e_X11_table_73 rfl ⟨rfl, rfl⟩ ?_
        (subst e_v3_0; refine ⟨?_, rfl, ?_⟩ <;> ((try unfold V_X11_table); (try unfold U_X11_table); (try simp only [if_neg h4_0, if_neg h13_1, if_neg h29_2]); (try rfl)))
      · refine r_aload_n e_X11_table_32 rfl ?_
        refine r_sipush e_X11_table_33 sp_m1004 ?_
        refine cV1v e_X11_table_36 cl_X11_178 ⟨Nat.le_of_ble_eq_true rfl, Nat.le_of_ble_eq_true rfl⟩ ⟨rfl, rfl⟩ k0 (Nat.le_of_ble_eq_true rfl) (S_X11_finding hb1 (by first | decide | (unfold vp_in; decide) | exact Or.inl rfl | exact Or.inr rfl)) ?_
        refine r_ireturn e_X11_table_39 rfl ⟨rfl, rfl⟩ ?_
        (refine ⟨?_, rfl, ?_⟩ <;> ((try unfold V_X11_table); (try unfold U_X11_table); (try simp only [if_neg h4_0, if_neg h13_1, if_pos h29_2]); (try rfl)))
    · refine r_aload_n e_X11_table_16 rfl ?_
      refine r_sipush e_X11_table_17 sp_m1001 ?_
      refine cV1v e_X11_table_20 cl_X11_178 ⟨Nat.le_of_ble_eq_true rfl, Nat.le_of_ble_eq_true rfl⟩ ⟨rfl, rfl⟩ k0 (Nat.le_of_ble_eq_true rfl) (S_X11_finding hb1 (by first | decide | (unfold vp_in; decide) | exact Or.inl rfl | exact Or.inr rfl)) ?_
      refine r_ireturn e_X11_table_23 rfl ⟨rfl, rfl⟩ ?_
      (refine ⟨?_, rfl, ?_⟩ <;> ((try unfold V_X11_table); (try unfold U_X11_table); (try simp only [if_neg h4_0, if_pos h13_1]); (try rfl)))
def F_X4_readTerm_5 (a : Nat) (x1 : Nat) (x2 : Int32) : Nat → Int32 → Int32 → Mem → Int32 × Int32 × Mem
  | 0, u3, u4, M => (u3, u4, M)
  | n + 1, u3, u4, M => if (6 : Int32) < u4 then (u3, u4, M) else (if 0 ≤ (M.1 a 9) then (u3, u4, M) else (if (V_X4_kind a M) = (33 : Int32) then (let M503_0 : Mem := if u4 = (6 : Int32) then (U_X4_refuse a M) else M; (F_X4_readTerm_5 a x1 x2 n (-u3) (u4 + 1) (U_X4_take a (33 : Int32) (33 : Int32) M503_0))) else (u3, u4, M)))
def T_X4_readTerm_5 (a : Nat) (x1 : Nat) (x2 : Int32) : Nat → Int32 → Int32 → Mem → Prop
  | 0, u3, u4, M => False
  | n + 1, u3, u4, M => (¬ ((if u4 = (6 : Int32) then (U_X4_refuse a M) else M).1 a 7) < 0) ∧ (if (6 : Int32) < u4 then True else (if 0 ≤ (M.1 a 9) then True else (if (V_X4_kind a M) = (33 : Int32) then (let M503_0 : Mem := if u4 = (6 : Int32) then (U_X4_refuse a M) else M; (T_X4_readTerm_5 a x1 x2 n (-u3) (u4 + 1) (U_X4_take a (33 : Int32) (33 : Int32) M503_0))) else True)))
theorem L_X4_readTerm_5 {sh : List SC} {Q : Po} {a : Nat} {x1 : Nat} {x2 : Int32}    (hb1 : ReaderAt sh a) (hb2 : ProgramAt sh x1)   : ∀ (n : Nat) (u3 : Int32) (u4 : Int32) (M : Mem), T_X4_readTerm_5 a x1 x2 n u3 u4 M → WP m_X4_readTerm Q 57 [some (.ref a), some (.ref x1), some (.int x2), some (.int ((F_X4_readTerm_5 a x1 x2 n u3 u4 M).1)), some (.int ((F_X4_readTerm_5 a x1 x2 n u3 u4 M).2.1))] [] sh ((F_X4_readTerm_5 a x1 x2 n u3 u4 M).2.2) 0 0 → WP m_X4_readTerm Q 5 [some (.ref a), some (.ref x1), some (.int x2), some (.int u3), some (.int u4)] [] sh M 0 0 := by
  have k0 : kd sh a = some (4 + 7, 0) := hb1.1
  intro n
  induction n with
  | zero =>
    intro u3 u4 M hH hq
    exact hH.elim
  | succ n ih =>
    intro u3 u4 M hH hq
    unfold T_X4_readTerm_5 at hH
    obtain ⟨g1, hH⟩ := hH
    refine r_iload e_X4_readTerm_5 rfl ?_
    refine r_bipush e_X4_readTerm_7 bp_6 ?_
    refine r_icmp_gt e_X4_readTerm_9 (fun h9_500 => ?_) (fun h9_500 => ?_)
    · (simp only [F_X4_readTerm_5, if_pos h9_500] at hq; first | exact hq | (simp only [if_pos h9_500]; exact hq))
    · refine r_aload_n e_X4_readTerm_12 rfl ?_
      refine r_getI e_X4_readTerm_13 fl_X4_44 i0 k0 ?_
      refine r_if_ge e_X4_readTerm_16 (fun h16_501 => ?_) (fun h16_501 => ?_)
      · (simp only [F_X4_readTerm_5, if_neg h9_500, if_pos h16_501] at hq; first | exact hq | (simp only [if_neg h9_500, if_pos h16_501]; exact hq))
      · refine r_aload_n e_X4_readTerm_19 rfl ?_
        refine cV0v e_X4_readTerm_20 cl_X4_77 ⟨Nat.le_of_ble_eq_true rfl, Nat.le_of_ble_eq_true rfl⟩ ⟨rfl, rfl⟩ k0 (Nat.le_of_ble_eq_true rfl) (S_X4_kind hb1) ?_
        refine r_bipush e_X4_readTerm_23 bp_33 ?_
        refine r_icmp_ne e_X4_readTerm_25 (fun h25_502 => ?_) (fun h25_502 => ?_)
        · (simp only [F_X4_readTerm_5, if_neg h9_500, if_neg h16_501, if_neg h25_502] at hq; first | exact hq | (simp only [if_neg h9_500, if_neg h16_501, if_neg h25_502]; exact hq))
        · refine r_iload e_X4_readTerm_28 rfl ?_
          refine r_bipush e_X4_readTerm_30 bp_6 ?_
          obtain ⟨M503_0, e_M503_0⟩ : ∃ z : Mem, z = (if u4 = (6 : Int32) then (U_X4_refuse a M) else M) := ⟨_, rfl⟩
          suffices j39_503 : WP m_X4_readTerm Q 39 [some (.ref a), some (.ref x1), some (.int x2), some (.int u3), some (.int u4)] [] sh M503_0 0 0 by
            refine r_icmp_ne e_X4_readTerm_32 (fun h32_503 => ?_) (fun h32_503 => ?_)
            · (rw [show M503_0 = M from (e_M503_0.trans (if_neg h32_503))] at j39_503; exact j39_503)
            · refine r_aload_n e_X4_readTerm_35 rfl ?_
              refine cV0u e_X4_readTerm_36 cl_X4_80 ⟨Nat.le_of_ble_eq_true rfl, Nat.le_of_ble_eq_true rfl⟩ ⟨rfl, rfl⟩ k0 (Nat.le_of_ble_eq_true rfl) (S_X4_refuse hb1) ?_
              (rw [show M503_0 = U_X4_refuse a M from (e_M503_0.trans (if_pos h32_503))] at j39_503; exact j39_503)
          refine r_aload_n e_X4_readTerm_39 rfl ?_
          refine r_bipush e_X4_readTerm_40 bp_33 ?_
          refine r_bipush e_X4_readTerm_42 bp_33 ?_
          refine cV2v e_X4_readTerm_44 cl_X4_83 ⟨Nat.le_of_ble_eq_true rfl, Nat.le_of_ble_eq_true rfl⟩ ⟨rfl, rfl⟩ k0 (Nat.le_of_ble_eq_true rfl) (S_X4_take hb1 (by subst e_M503_0; exact g1 )) ?_
          refine r_pop e_X4_readTerm_47 rfl ?_
          refine r_iload_n e_X4_readTerm_48 rfl ?_
          refine r_ineg e_X4_readTerm_49 ?_
          refine p_istore_n_5_3 e_X4_readTerm_50 rfl rfl ?_
          refine p_iinc_5_4 e_X4_readTerm_51 rfl ic_1 rfl ?_
          refine r_goto e_X4_readTerm_54 ?_
          (subst e_M503_0; simp only [F_X4_readTerm_5, if_neg h9_500, if_neg h16_501, if_pos h25_502] at hq; (try simp only [if_neg h9_500, if_neg h16_501, if_pos h25_502] at hH); first | exact ih _ _ _ hH hq | (simp only [if_neg h9_500, if_neg h16_501, if_pos h25_502]; exact ih _ _ _ hH hq))
def U_X4_readTerm (a : Nat) (x1 : Nat) (x2 : Int32) (M : Mem) : Mem := (let M0_0 : Mem := if (13 : Int32) ≤ (V_X4_take a (9 : Int32) (25 : Int32) ((F_X4_readTerm_5 a x1 x2 FUEL (1 : Int32) (0 : Int32) M).2.2)) then (if (16 : Int32) < (V_X4_take a (9 : Int32) (25 : Int32) ((F_X4_readTerm_5 a x1 x2 FUEL (1 : Int32) (0 : Int32) M).2.2)) then (if (25 : Int32) ≤ (V_X4_take a (9 : Int32) (25 : Int32) ((F_X4_readTerm_5 a x1 x2 FUEL (1 : Int32) (0 : Int32) M).2.2)) then (U_X3_addTerm x1 x2 ((F_X4_readTerm_5 a x1 x2 FUEL (1 : Int32) (0 : Int32) M).1) (0 : Int32) (((U_X4_take a (9 : Int32) (25 : Int32) ((F_X4_readTerm_5 a x1 x2 FUEL (1 : Int32) (0 : Int32) M).2.2)).2 a 8).toInt32) (U_X4_take a (9 : Int32) (25 : Int32) ((F_X4_readTerm_5 a x1 x2 FUEL (1 : Int32) (0 : Int32) M).2.2))) else (U_X3_addTerm x1 x2 ((F_X4_readTerm_5 a x1 x2 FUEL (1 : Int32) (0 : Int32) M).1) (2 : Int32) ((V_X4_take a (9 : Int32) (25 : Int32) ((F_X4_readTerm_5 a x1 x2 FUEL (1 : Int32) (0 : Int32) M).2.2)) - (17 : Int32)) (U_X4_take a (9 : Int32) (25 : Int32) ((F_X4_readTerm_5 a x1 x2 FUEL (1 : Int32) (0 : Int32) M).2.2)))) else (U_X3_addTerm x1 x2 ((F_X4_readTerm_5 a x1 x2 FUEL (1 : Int32) (0 : Int32) M).1) (1 : Int32) ((V_X4_take a (9 : Int32) (25 : Int32) ((F_X4_readTerm_5 a x1 x2 FUEL (1 : Int32) (0 : Int32) M).2.2)) - (13 : Int32)) (U_X4_take a (9 : Int32) (25 : Int32) ((F_X4_readTerm_5 a x1 x2 FUEL (1 : Int32) (0 : Int32) M).2.2)))) else (U_X3_addTerm x1 x2 ((F_X4_readTerm_5 a x1 x2 FUEL (1 : Int32) (0 : Int32) M).1) (2 : Int32) (((8 : Int32) + (((V_X4_take a (9 : Int32) (25 : Int32) ((F_X4_readTerm_5 a x1 x2 FUEL (1 : Int32) (0 : Int32) M).2.2)) - (9 : Int32)) * (5 : Int32))) + ((U_X4_take a (25 : Int32) (25 : Int32) (if (801 : Int32) ≤ ((U_X4_take a (9 : Int32) (25 : Int32) ((F_X4_readTerm_5 a x1 x2 FUEL (1 : Int32) (0 : Int32) M).2.2)).1 a 7) then (U_X4_take a (9 : Int32) (25 : Int32) ((F_X4_readTerm_5 a x1 x2 FUEL (1 : Int32) (0 : Int32) M).2.2)) else (if (lg_cmp ((U_X4_take a (9 : Int32) (25 : Int32) ((F_X4_readTerm_5 a x1 x2 FUEL (1 : Int32) (0 : Int32) M).2.2)).2 (a + 4) ((U_X4_take a (9 : Int32) (25 : Int32) ((F_X4_readTerm_5 a x1 x2 FUEL (1 : Int32) (0 : Int32) M).2.2)).1 a 7).toNatClampNeg) (5 : Int64)) < 0 then (U_X4_take a (9 : Int32) (25 : Int32) ((F_X4_readTerm_5 a x1 x2 FUEL (1 : Int32) (0 : Int32) M).2.2)) else (U_X4_refuse a (U_X4_take a (9 : Int32) (25 : Int32) ((F_X4_readTerm_5 a x1 x2 FUEL (1 : Int32) (0 : Int32) M).2.2)))))).2 a 8).toInt32) (U_X4_take a (25 : Int32) (25 : Int32) (if (801 : Int32) ≤ ((U_X4_take a (9 : Int32) (25 : Int32) ((F_X4_readTerm_5 a x1 x2 FUEL (1 : Int32) (0 : Int32) M).2.2)).1 a 7) then (U_X4_take a (9 : Int32) (25 : Int32) ((F_X4_readTerm_5 a x1 x2 FUEL (1 : Int32) (0 : Int32) M).2.2)) else (if (lg_cmp ((U_X4_take a (9 : Int32) (25 : Int32) ((F_X4_readTerm_5 a x1 x2 FUEL (1 : Int32) (0 : Int32) M).2.2)).2 (a + 4) ((U_X4_take a (9 : Int32) (25 : Int32) ((F_X4_readTerm_5 a x1 x2 FUEL (1 : Int32) (0 : Int32) M).2.2)).1 a 7).toNatClampNeg) (5 : Int64)) < 0 then (U_X4_take a (9 : Int32) (25 : Int32) ((F_X4_readTerm_5 a x1 x2 FUEL (1 : Int32) (0 : Int32) M).2.2)) else (U_X4_refuse a (U_X4_take a (9 : Int32) (25 : Int32) ((F_X4_readTerm_5 a x1 x2 FUEL (1 : Int32) (0 : Int32) M).2.2))))))); M0_0)
def P_X4_readTerm (a : Nat) (x1 : Nat) (x2 : Int32) (M : Mem) : Prop := (T_X4_readTerm_5 a x1 x2 FUEL (1 : Int32) (0 : Int32) M)
theorem S_X4_readTerm {sh : List SC} {M : Mem} {a : Nat} {x1 : Nat} {x2 : Int32}  (hb1 : ReaderAt sh a) (hb2 : ProgramAt sh x1) (g2 : ¬ (((F_X4_readTerm_5 a x1 x2 FUEL (1 : Int32) (0 : Int32) M).2.2).1 a 7) < 0) (g3 : ¬ ((U_X4_take a (9 : Int32) (25 : Int32) ((F_X4_readTerm_5 a x1 x2 FUEL (1 : Int32) (0 : Int32) M).2.2)).1 a 7) < 0) (g4 : ¬ ((if (801 : Int32) ≤ ((U_X4_take a (9 : Int32) (25 : Int32) ((F_X4_readTerm_5 a x1 x2 FUEL (1 : Int32) (0 : Int32) M).2.2)).1 a 7) then (U_X4_take a (9 : Int32) (25 : Int32) ((F_X4_readTerm_5 a x1 x2 FUEL (1 : Int32) (0 : Int32) M).2.2)) else (if (lg_cmp ((U_X4_take a (9 : Int32) (25 : Int32) ((F_X4_readTerm_5 a x1 x2 FUEL (1 : Int32) (0 : Int32) M).2.2)).2 (a + 4) ((U_X4_take a (9 : Int32) (25 : Int32) ((F_X4_readTerm_5 a x1 x2 FUEL (1 : Int32) (0 : Int32) M).2.2)).1 a 7).toNatClampNeg) (5 : Int64)) < 0 then (U_X4_take a (9 : Int32) (25 : Int32) ((F_X4_readTerm_5 a x1 x2 FUEL (1 : Int32) (0 : Int32) M).2.2)) else (U_X4_refuse a (U_X4_take a (9 : Int32) (25 : Int32) ((F_X4_readTerm_5 a x1 x2 FUEL (1 : Int32) (0 : Int32) M).2.2))))).1 a 7) < 0) (hP : P_X4_readTerm a x1 x2 M) : Gu m_X4_readTerm [.ref a, .ref x1, .int x2] sh M (U_X4_readTerm a x1 x2 M) := by
  refine Sp.of (ls := [some (.ref a), some (.ref x1), some (.int x2), none, none]) (by decide +kernel) (Nat.le_of_ble_eq_true rfl) rfl ?_
  have g1 : T_X4_readTerm_5 a x1 x2 FUEL (1 : Int32) (0 : Int32) M := hP
  have k0 : kd sh a = some (4 + 7, 0) := hb1.1
  have k1 : kd sh x1 = some (3 + 7, 0) := hb2.1
  have k2 : rf sh a 3 = some (a + 4) := hb1.2.2.2.2.1
  have k3 : kd sh (a + 4) = some (1, 801) := hb1.2.2.2.2.2.2.2.2.2.1
  refine r_iconst e_X4_readTerm_0 ic_1 ?_
  refine p_istore_n_5_3 e_X4_readTerm_1 rfl rfl ?_
  refine r_iconst e_X4_readTerm_2 ic_0 ?_
  refine p_istore_5_4 e_X4_readTerm_3 rfl rfl ?_
  refine L_X4_readTerm_5 hb1 hb2 FUEL (1 : Int32) (0 : Int32) M g1 ?_
  refine r_aload_n e_X4_readTerm_57 rfl ?_
  refine r_bipush e_X4_readTerm_58 bp_9 ?_
  refine r_bipush e_X4_readTerm_60 bp_25 ?_
  refine cV2v e_X4_readTerm_62 cl_X4_83 ⟨Nat.le_of_ble_eq_true rfl, Nat.le_of_ble_eq_true rfl⟩ ⟨rfl, rfl⟩ k0 (Nat.le_of_ble_eq_true rfl) (S_X4_take hb1 g2) ?_
  refine p_istore_5_4 e_X4_readTerm_65 rfl rfl ?_
  refine r_iload e_X4_readTerm_67 rfl ?_
  refine r_bipush e_X4_readTerm_69 bp_13 ?_
  obtain ⟨M0_0, e_M0_0⟩ : ∃ z : Mem, z = (if (13 : Int32) ≤ (V_X4_take a (9 : Int32) (25 : Int32) ((F_X4_readTerm_5 a x1 x2 FUEL (1 : Int32) (0 : Int32) M).2.2)) then (if (16 : Int32) < (V_X4_take a (9 : Int32) (25 : Int32) ((F_X4_readTerm_5 a x1 x2 FUEL (1 : Int32) (0 : Int32) M).2.2)) then (if (25 : Int32) ≤ (V_X4_take a (9 : Int32) (25 : Int32) ((F_X4_readTerm_5 a x1 x2 FUEL (1 : Int32) (0 : Int32) M).2.2)) then (U_X3_addTerm x1 x2 ((F_X4_readTerm_5 a x1 x2 FUEL (1 : Int32) (0 : Int32) M).1) (0 : Int32) (((U_X4_take a (9 : Int32) (25 : Int32) ((F_X4_readTerm_5 a x1 x2 FUEL (1 : Int32) (0 : Int32) M).2.2)).2 a 8).toInt32) (U_X4_take a (9 : Int32) (25 : Int32) ((F_X4_readTerm_5 a x1 x2 FUEL (1 : Int32) (0 : Int32) M).2.2))) else (U_X3_addTerm x1 x2 ((F_X4_readTerm_5 a x1 x2 FUEL (1 : Int32) (0 : Int32) M).1) (2 : Int32) ((V_X4_take a (9 : Int32) (25 : Int32) ((F_X4_readTerm_5 a x1 x2 FUEL (1 : Int32) (0 : Int32) M).2.2)) - (17 : Int32)) (U_X4_take a (9 : Int32) (25 : Int32) ((F_X4_readTerm_5 a x1 x2 FUEL (1 : Int32) (0 : Int32) M).2.2)))) else (U_X3_addTerm x1 x2 ((F_X4_readTerm_5 a x1 x2 FUEL (1 : Int32) (0 : Int32) M).1) (1 : Int32) ((V_X4_take a (9 : Int32) (25 : Int32) ((F_X4_readTerm_5 a x1 x2 FUEL (1 : Int32) (0 : Int32) M).2.2)) - (13 : Int32)) (U_X4_take a (9 : Int32) (25 : Int32) ((F_X4_readTerm_5 a x1 x2 FUEL (1 : Int32) (0 : Int32) M).2.2)))) else (U_X3_addTerm x1 x2 ((F_X4_readTerm_5 a x1 x2 FUEL (1 : Int32) (0 : Int32) M).1) (2 : Int32) (((8 : Int32) + (((V_X4_take a (9 : Int32) (25 : Int32) ((F_X4_readTerm_5 a x1 x2 FUEL (1 : Int32) (0 : Int32) M).2.2)) - (9 : Int32)) * (5 : Int32))) + ((U_X4_take a (25 : Int32) (25 : Int32) (if (801 : Int32) ≤ ((U_X4_take a (9 : Int32) (25 : Int32) ((F_X4_readTerm_5 a x1 x2 FUEL (1 : Int32) (0 : Int32) M).2.2)).1 a 7) then (U_X4_take a (9 : Int32) (25 : Int32) ((F_X4_readTerm_5 a x1 x2 FUEL (1 : Int32) (0 : Int32) M).2.2)) else (if (lg_cmp ((U_X4_take a (9 : Int32) (25 : Int32) ((F_X4_readTerm_5 a x1 x2 FUEL (1 : Int32) (0 : Int32) M).2.2)).2 (a + 4) ((U_X4_take a (9 : Int32) (25 : Int32) ((F_X4_readTerm_5 a x1 x2 FUEL (1 : Int32) (0 : Int32) M).2.2)).1 a 7).toNatClampNeg) (5 : Int64)) < 0 then (U_X4_take a (9 : Int32) (25 : Int32) ((F_X4_readTerm_5 a x1 x2 FUEL (1 : Int32) (0 : Int32) M).2.2)) else (U_X4_refuse a (U_X4_take a (9 : Int32) (25 : Int32) ((F_X4_readTerm_5 a x1 x2 FUEL (1 : Int32) (0 : Int32) M).2.2)))))).2 a 8).toInt32) (U_X4_take a (25 : Int32) (25 : Int32) (if (801 : Int32) ≤ ((U_X4_take a (9 : Int32) (25 : Int32) ((F_X4_readTerm_5 a x1 x2 FUEL (1 : Int32) (0 : Int32) M).2.2)).1 a 7) then (U_X4_take a (9 : Int32) (25 : Int32) ((F_X4_readTerm_5 a x1 x2 FUEL (1 : Int32) (0 : Int32) M).2.2)) else (if (lg_cmp ((U_X4_take a (9 : Int32) (25 : Int32) ((F_X4_readTerm_5 a x1 x2 FUEL (1 : Int32) (0 : Int32) M).2.2)).2 (a + 4) ((U_X4_take a (9 : Int32) (25 : Int32) ((F_X4_readTerm_5 a x1 x2 FUEL (1 : Int32) (0 : Int32) M).2.2)).1 a 7).toNatClampNeg) (5 : Int64)) < 0 then (U_X4_take a (9 : Int32) (25 : Int32) ((F_X4_readTerm_5 a x1 x2 FUEL (1 : Int32) (0 : Int32) M).2.2)) else (U_X4_refuse a (U_X4_take a (9 : Int32) (25 : Int32) ((F_X4_readTerm_5 a x1 x2 FUEL (1 : Int32) (0 : Int32) M).2.2)))))))) := ⟨_, rfl⟩
  suffices j197_0 : WP m_X4_readTerm (fun r sh' M'' => r = none ∧ sh' = sh ∧ M'' = (U_X4_readTerm a x1 x2 M)) 197 [some (.ref a), some (.ref x1), some (.int x2), some (.int ((F_X4_readTerm_5 a x1 x2 FUEL (1 : Int32) (0 : Int32) M).1)), some (.int (V_X4_take a (9 : Int32) (25 : Int32) ((F_X4_readTerm_5 a x1 x2 FUEL (1 : Int32) (0 : Int32) M).2.2)))] [] sh M0_0 0 0 by
    refine r_icmp_ge e_X4_readTerm_71 (fun h71_0 => ?_) (fun h71_0 => ?_)
    · refine r_iload e_X4_readTerm_141 rfl ?_
      refine r_bipush e_X4_readTerm_143 bp_16 ?_
      refine r_icmp_gt e_X4_readTerm_145 (fun h145_1 => ?_) (fun h145_1 => ?_)
      · refine r_iload e_X4_readTerm_163 rfl ?_
        refine r_bipush e_X4_readTerm_165 bp_25 ?_
        refine r_icmp_ge e_X4_readTerm_167 (fun h167_2 => ?_) (fun h167_2 => ?_)
        · refine r_aload_n e_X4_readTerm_185 rfl ?_
          refine r_iload_n e_X4_readTerm_186 rfl ?_
          refine r_iload_n e_X4_readTerm_187 rfl ?_
          refine r_iconst e_X4_readTerm_188 ic_0 ?_
          refine r_aload_n e_X4_readTerm_189 rfl ?_
          refine r_getJ e_X4_readTerm_190 fl_X4_40 k0 ?_
          refine r_l2i e_X4_readTerm_193 ?_
          refine cV4u e_X4_readTerm_194 cl_X4_179 ⟨Nat.le_of_ble_eq_true rfl, Nat.le_of_ble_eq_true rfl⟩ ⟨rfl, rfl⟩ k1 (Nat.le_of_ble_eq_true rfl) (S_X3_addTerm hb2) ?_
          (rw [show M0_0 = U_X3_addTerm x1 x2 ((F_X4_readTerm_5 a x1 x2 FUEL (1 : Int32) (0 : Int32) M).1) (0 : Int32) (((U_X4_take a (9 : Int32) (25 : Int32) ((F_X4_readTerm_5 a x1 x2 FUEL (1 : Int32) (0 : Int32) M).2.2)).2 a 8).toInt32) (U_X4_take a (9 : Int32) (25 : Int32) ((F_X4_readTerm_5 a x1 x2 FUEL (1 : Int32) (0 : Int32) M).2.2)) from (((e_M0_0.trans (if_pos h71_0)).trans (if_pos h145_1)).trans (if_pos h167_2))] at j197_0; exact j197_0)
        · refine r_aload_n e_X4_readTerm_170 rfl ?_
          refine r_iload_n e_X4_readTerm_171 rfl ?_
          refine r_iload_n e_X4_readTerm_172 rfl ?_
          refine r_iconst e_X4_readTerm_173 ic_2 ?_
          refine r_iload e_X4_readTerm_174 rfl ?_
          refine r_bipush e_X4_readTerm_176 bp_17 ?_
          refine r_isub e_X4_readTerm_178 ?_
          refine cV4u e_X4_readTerm_179 cl_X4_179 ⟨Nat.le_of_ble_eq_true rfl, Nat.le_of_ble_eq_true rfl⟩ ⟨rfl, rfl⟩ k1 (Nat.le_of_ble_eq_true rfl) (S_X3_addTerm hb2) ?_
          refine r_goto e_X4_readTerm_182 ?_
          (rw [show M0_0 = U_X3_addTerm x1 x2 ((F_X4_readTerm_5 a x1 x2 FUEL (1 : Int32) (0 : Int32) M).1) (2 : Int32) ((V_X4_take a (9 : Int32) (25 : Int32) ((F_X4_readTerm_5 a x1 x2 FUEL (1 : Int32) (0 : Int32) M).2.2)) - (17 : Int32)) (U_X4_take a (9 : Int32) (25 : Int32) ((F_X4_readTerm_5 a x1 x2 FUEL (1 : Int32) (0 : Int32) M).2.2)) from (((e_M0_0.trans (if_pos h71_0)).trans (if_pos h145_1)).trans (if_neg h167_2))] at j197_0; exact j197_0)
      · refine r_aload_n e_X4_readTerm_148 rfl ?_
        refine r_iload_n e_X4_readTerm_149 rfl ?_
        refine r_iload_n e_X4_readTerm_150 rfl ?_
        refine r_iconst e_X4_readTerm_151 ic_1 ?_
        refine r_iload e_X4_readTerm_152 rfl ?_
        refine r_bipush e_X4_readTerm_154 bp_13 ?_
        refine r_isub e_X4_readTerm_156 ?_
        refine cV4u e_X4_readTerm_157 cl_X4_179 ⟨Nat.le_of_ble_eq_true rfl, Nat.le_of_ble_eq_true rfl⟩ ⟨rfl, rfl⟩ k1 (Nat.le_of_ble_eq_true rfl) (S_X3_addTerm hb2) ?_
        refine r_goto e_X4_readTerm_160 ?_
        (rw [show M0_0 = U_X3_addTerm x1 x2 ((F_X4_readTerm_5 a x1 x2 FUEL (1 : Int32) (0 : Int32) M).1) (1 : Int32) ((V_X4_take a (9 : Int32) (25 : Int32) ((F_X4_readTerm_5 a x1 x2 FUEL (1 : Int32) (0 : Int32) M).2.2)) - (13 : Int32)) (U_X4_take a (9 : Int32) (25 : Int32) ((F_X4_readTerm_5 a x1 x2 FUEL (1 : Int32) (0 : Int32) M).2.2)) from ((e_M0_0.trans (if_pos h71_0)).trans (if_neg h145_1))] at j197_0; exact j197_0)
    · refine r_aload_n e_X4_readTerm_74 rfl ?_
      refine r_getI e_X4_readTerm_75 fl_X4_37 i0 k0 ?_
      refine r_aload_n e_X4_readTerm_78 rfl ?_
      refine r_getR e_X4_readTerm_79 fl_X4_24 k0 k2 ?_
      refine r_alen (v := (801 : Int32)) e_X4_readTerm_82 k3 (by decide) rfl ?_
      obtain ⟨M3_0, e_M3_0⟩ : ∃ z : Mem, z = (if (801 : Int32) ≤ ((U_X4_take a (9 : Int32) (25 : Int32) ((F_X4_readTerm_5 a x1 x2 FUEL (1 : Int32) (0 : Int32) M).2.2)).1 a 7) then (U_X4_take a (9 : Int32) (25 : Int32) ((F_X4_readTerm_5 a x1 x2 FUEL (1 : Int32) (0 : Int32) M).2.2)) else (if (lg_cmp ((U_X4_take a (9 : Int32) (25 : Int32) ((F_X4_readTerm_5 a x1 x2 FUEL (1 : Int32) (0 : Int32) M).2.2)).2 (a + 4) ((U_X4_take a (9 : Int32) (25 : Int32) ((F_X4_readTerm_5 a x1 x2 FUEL (1 : Int32) (0 : Int32) M).2.2)).1 a 7).toNatClampNeg) (5 : Int64)) < 0 then (U_X4_take a (9 : Int32) (25 : Int32) ((F_X4_readTerm_5 a x1 x2 FUEL (1 : Int32) (0 : Int32) M).2.2)) else (U_X4_refuse a (U_X4_take a (9 : Int32) (25 : Int32) ((F_X4_readTerm_5 a x1 x2 FUEL (1 : Int32) (0 : Int32) M).2.2))))) := ⟨_, rfl⟩
      suffices j106_3 : WP m_X4_readTerm (fun r sh' M'' => r = none ∧ sh' = sh ∧ M'' = (U_X4_readTerm a x1 x2 M)) 106 [some (.ref a), some (.ref x1), some (.int x2), some (.int ((F_X4_readTerm_5 a x1 x2 FUEL (1 : Int32) (0 : Int32) M).1)), some (.int (V_X4_take a (9 : Int32) (25 : Int32) ((F_X4_readTerm_5 a x1 x2 FUEL (1 : Int32) (0 : Int32) M).2.2)))] [] sh M3_0 0 0 by
        refine r_icmp_ge e_X4_readTerm_83 (fun h83_3 => ?_) (fun h83_3 => ?_)
        · (rw [show M3_0 = U_X4_take a (9 : Int32) (25 : Int32) ((F_X4_readTerm_5 a x1 x2 FUEL (1 : Int32) (0 : Int32) M).2.2) from (e_M3_0.trans (if_pos h83_3))] at j106_3; exact j106_3)
        · refine r_aload_n e_X4_readTerm_86 rfl ?_
          refine r_getR e_X4_readTerm_87 fl_X4_24 k0 k2 ?_
          refine r_aload_n e_X4_readTerm_90 rfl ?_
          refine r_getI e_X4_readTerm_91 fl_X4_37 i0 k0 ?_
          refine r_laload e_X4_readTerm_94 k3 (vp_guard g3 h83_3 (by decide)) ?_
          refine r_ldc2 e_X4_readTerm_95 lc_X4_175 ?_
          refine r_lcmp e_X4_readTerm_98 ?_
          refine r_if_lt e_X4_readTerm_99 (fun h99_4 => ?_) (fun h99_4 => ?_)
          · (rw [show M3_0 = U_X4_take a (9 : Int32) (25 : Int32) ((F_X4_readTerm_5 a x1 x2 FUEL (1 : Int32) (0 : Int32) M).2.2) from ((e_M3_0.trans (if_neg h83_3)).trans (if_pos h99_4))] at j106_3; exact j106_3)
          · refine r_aload_n e_X4_readTerm_102 rfl ?_
            refine cV0u e_X4_readTerm_103 cl_X4_80 ⟨Nat.le_of_ble_eq_true rfl, Nat.le_of_ble_eq_true rfl⟩ ⟨rfl, rfl⟩ k0 (Nat.le_of_ble_eq_true rfl) (S_X4_refuse hb1) ?_
            (rw [show M3_0 = U_X4_refuse a (U_X4_take a (9 : Int32) (25 : Int32) ((F_X4_readTerm_5 a x1 x2 FUEL (1 : Int32) (0 : Int32) M).2.2)) from ((e_M3_0.trans (if_neg h83_3)).trans (if_neg h99_4))] at j106_3; exact j106_3)
      refine r_aload_n e_X4_readTerm_106 rfl ?_
      refine r_bipush e_X4_readTerm_107 bp_25 ?_
      refine r_bipush e_X4_readTerm_109 bp_25 ?_
      refine cV2v e_X4_readTerm_111 cl_X4_83 ⟨Nat.le_of_ble_eq_true rfl, Nat.le_of_ble_eq_true rfl⟩ ⟨rfl, rfl⟩ k0 (Nat.le_of_ble_eq_true rfl) (S_X4_take hb1 (by subst e_M3_0; exact g4 )) ?_
      refine r_pop e_X4_readTerm_114 rfl ?_
      refine r_aload_n e_X4_readTerm_115 rfl ?_
      refine r_iload_n e_X4_readTerm_116 rfl ?_
      refine r_iload_n e_X4_readTerm_117 rfl ?_
      refine r_iconst e_X4_readTerm_118 ic_2 ?_
      refine r_bipush e_X4_readTerm_119 bp_8 ?_
      refine r_iload e_X4_readTerm_121 rfl ?_
      refine r_bipush e_X4_readTerm_123 bp_9 ?_
      refine r_isub e_X4_readTerm_125 ?_
      refine r_iconst e_X4_readTerm_126 ic_5 ?_
      refine r_imul e_X4_readTerm_127 ?_
      refine r_iadd e_X4_readTerm_128 ?_
      refine r_aload_n e_X4_readTerm_129 rfl ?_
      refine r_getJ e_X4_readTerm_130 fl_X4_40 k0 ?_
      refine r_l2i e_X4_readTerm_133 ?_
      refine r_iadd e_X4_readTerm_134 ?_
      refine cV4u e_X4_readTerm_135 cl_X4_179 ⟨Nat.le_of_ble_eq_true rfl, Nat.le_of_ble_eq_true rfl⟩ ⟨rfl, rfl⟩ k1 (Nat.le_of_ble_eq_true rfl) (S_X3_addTerm hb2) ?_
      refine r_goto e_X4_readTerm_138 ?_
      (subst e_M3_0; rw [show M0_0 = U_X3_addTerm x1 x2 ((F_X4_readTerm_5 a x1 x2 FUEL (1 : Int32) (0 : Int32) M).1) (2 : Int32) (((8 : Int32) + (((V_X4_take a (9 : Int32) (25 : Int32) ((F_X4_readTerm_5 a x1 x2 FUEL (1 : Int32) (0 : Int32) M).2.2)) - (9 : Int32)) * (5 : Int32))) + ((U_X4_take a (25 : Int32) (25 : Int32) (if (801 : Int32) ≤ ((U_X4_take a (9 : Int32) (25 : Int32) ((F_X4_readTerm_5 a x1 x2 FUEL (1 : Int32) (0 : Int32) M).2.2)).1 a 7) then (U_X4_take a (9 : Int32) (25 : Int32) ((F_X4_readTerm_5 a x1 x2 FUEL (1 : Int32) (0 : Int32) M).2.2)) else (if (lg_cmp ((U_X4_take a (9 : Int32) (25 : Int32) ((F_X4_readTerm_5 a x1 x2 FUEL (1 : Int32) (0 : Int32) M).2.2)).2 (a + 4) ((U_X4_take a (9 : Int32) (25 : Int32) ((F_X4_readTerm_5 a x1 x2 FUEL (1 : Int32) (0 : Int32) M).2.2)).1 a 7).toNatClampNeg) (5 : Int64)) < 0 then (U_X4_take a (9 : Int32) (25 : Int32) ((F_X4_readTerm_5 a x1 x2 FUEL (1 : Int32) (0 : Int32) M).2.2)) else (U_X4_refuse a (U_X4_take a (9 : Int32) (25 : Int32) ((F_X4_readTerm_5 a x1 x2 FUEL (1 : Int32) (0 : Int32) M).2.2)))))).2 a 8).toInt32) (U_X4_take a (25 : Int32) (25 : Int32) (if (801 : Int32) ≤ ((U_X4_take a (9 : Int32) (25 : Int32) ((F_X4_readTerm_5 a x1 x2 FUEL (1 : Int32) (0 : Int32) M).2.2)).1 a 7) then (U_X4_take a (9 : Int32) (25 : Int32) ((F_X4_readTerm_5 a x1 x2 FUEL (1 : Int32) (0 : Int32) M).2.2)) else (if (lg_cmp ((U_X4_take a (9 : Int32) (25 : Int32) ((F_X4_readTerm_5 a x1 x2 FUEL (1 : Int32) (0 : Int32) M).2.2)).2 (a + 4) ((U_X4_take a (9 : Int32) (25 : Int32) ((F_X4_readTerm_5 a x1 x2 FUEL (1 : Int32) (0 : Int32) M).2.2)).1 a 7).toNatClampNeg) (5 : Int64)) < 0 then (U_X4_take a (9 : Int32) (25 : Int32) ((F_X4_readTerm_5 a x1 x2 FUEL (1 : Int32) (0 : Int32) M).2.2)) else (U_X4_refuse a (U_X4_take a (9 : Int32) (25 : Int32) ((F_X4_readTerm_5 a x1 x2 FUEL (1 : Int32) (0 : Int32) M).2.2)))))) from (e_M0_0.trans (if_neg h71_0))] at j197_0; exact j197_0)
  refine r_return e_X4_readTerm_197 rfl ⟨rfl, rfl⟩ ?_
  (subst e_M0_0; refine ⟨?_, rfl, ?_⟩ <;> ((try unfold U_X4_readTerm); (try simp only []); (try rfl)))
def U_X2_putAtStart (a : Nat) (x1 : Int32) (M : Mem) : Mem := if x1 < 0 then M else (if x1 < (10 : Int32) then (let M2_0 : Mem := if ((U_X5_leave (a + 10 + 2 * x1.toNatClampNeg) M).1 (a + 4) 2) = x1 then (U_X0_go (a + 4) ((V_X2_freeCell a ((U_X5_leave (a + 10 + 2 * x1.toNatClampNeg) M).1 (a + 10 + 2 * x1.toNatClampNeg) 4) ((U_X5_leave (a + 10 + 2 * x1.toNatClampNeg) M).1 (a + 10 + 2 * x1.toNatClampNeg) 5) (U_X5_leave (a + 10 + 2 * x1.toNatClampNeg) M)) - (V_X2_freeCell a ((U_X5_leave (a + 10 + 2 * x1.toNatClampNeg) M).1 (a + 10 + 2 * x1.toNatClampNeg) 4) ((U_X5_leave (a + 10 + 2 * x1.toNatClampNeg) M).1 (a + 10 + 2 * x1.toNatClampNeg) 5) (U_X5_leave (a + 10 + 2 * x1.toNatClampNeg) M)) / (15 : Int32) * (15 : Int32)) ((V_X2_freeCell a ((U_X5_leave (a + 10 + 2 * x1.toNatClampNeg) M).1 (a + 10 + 2 * x1.toNatClampNeg) 4) ((U_X5_leave (a + 10 + 2 * x1.toNatClampNeg) M).1 (a + 10 + 2 * x1.toNatClampNeg) 5) (U_X5_leave (a + 10 + 2 * x1.toNatClampNeg) M)) / (15 : Int32)) (setI (setI (U_X5_leave (a + 10 + 2 * x1.toNatClampNeg) M) (a + 10 + 2 * x1.toNatClampNeg) 2 ((V_X2_freeCell a ((U_X5_leave (a + 10 + 2 * x1.toNatClampNeg) M).1 (a + 10 + 2 * x1.toNatClampNeg) 4) ((U_X5_leave (a + 10 + 2 * x1.toNatClampNeg) M).1 (a + 10 + 2 * x1.toNatClampNeg) 5) (U_X5_leave (a + 10 + 2 * x1.toNatClampNeg) M)) - (V_X2_freeCell a ((U_X5_leave (a + 10 + 2 * x1.toNatClampNeg) M).1 (a + 10 + 2 * x1.toNatClampNeg) 4) ((U_X5_leave (a + 10 + 2 * x1.toNatClampNeg) M).1 (a + 10 + 2 * x1.toNatClampNeg) 5) (U_X5_leave (a + 10 + 2 * x1.toNatClampNeg) M)) / (15 : Int32) * (15 : Int32))) (a + 10 + 2 * x1.toNatClampNeg) 3 ((V_X2_freeCell a ((U_X5_leave (a + 10 + 2 * x1.toNatClampNeg) M).1 (a + 10 + 2 * x1.toNatClampNeg) 4) ((U_X5_leave (a + 10 + 2 * x1.toNatClampNeg) M).1 (a + 10 + 2 * x1.toNatClampNeg) 5) (U_X5_leave (a + 10 + 2 * x1.toNatClampNeg) M)) / (15 : Int32)))) else (setI (setI (U_X5_leave (a + 10 + 2 * x1.toNatClampNeg) M) (a + 10 + 2 * x1.toNatClampNeg) 2 ((V_X2_freeCell a ((U_X5_leave (a + 10 + 2 * x1.toNatClampNeg) M).1 (a + 10 + 2 * x1.toNatClampNeg) 4) ((U_X5_leave (a + 10 + 2 * x1.toNatClampNeg) M).1 (a + 10 + 2 * x1.toNatClampNeg) 5) (U_X5_leave (a + 10 + 2 * x1.toNatClampNeg) M)) - (V_X2_freeCell a ((U_X5_leave (a + 10 + 2 * x1.toNatClampNeg) M).1 (a + 10 + 2 * x1.toNatClampNeg) 4) ((U_X5_leave (a + 10 + 2 * x1.toNatClampNeg) M).1 (a + 10 + 2 * x1.toNatClampNeg) 5) (U_X5_leave (a + 10 + 2 * x1.toNatClampNeg) M)) / (15 : Int32) * (15 : Int32))) (a + 10 + 2 * x1.toNatClampNeg) 3 ((V_X2_freeCell a ((U_X5_leave (a + 10 + 2 * x1.toNatClampNeg) M).1 (a + 10 + 2 * x1.toNatClampNeg) 4) ((U_X5_leave (a + 10 + 2 * x1.toNatClampNeg) M).1 (a + 10 + 2 * x1.toNatClampNeg) 5) (U_X5_leave (a + 10 + 2 * x1.toNatClampNeg) M)) / (15 : Int32))); M2_0) else M)
theorem S_X2_putAtStart {sh : List SC} {M : Mem} {a : Nat} {x1 : Int32}  (hb1 : MatchAt sh a)  : Gu m_X2_putAtStart [.ref a, .int x1] sh M (U_X2_putAtStart a x1 M) := by
  refine Sp.of (ls := [some (.ref a), some (.int x1), none, none]) (by decide +kernel) (Nat.le_of_ble_eq_true rfl) rfl ?_
  have k0 : kd sh a = some (2 + 7, 0) := hb1.1
  have k1 : rf sh a 3 = some (a + 3) := hb1.2.2.2.2.1
  have k2 : kd sh (a + 3) = some (6, 10) := hb1.2.2.2.2.2.2.2.1
  have k3 : rf sh a 4 = some (a + 4) := hb1.2.2.2.2.2.1
  have k4 : kd sh (a + 4) = some (0 + 7, 0) := hb1.2.2.2.2.2.2.2.2.2.1.1
  refine r_iload_n e_X2_putAtStart_0 rfl ?_
  refine r_if_lt e_X2_putAtStart_1 (fun h1_0 => ?_) (fun h1_0 => ?_)
  · refine r_return e_X2_putAtStart_13 rfl ⟨rfl, rfl⟩ ?_
    (refine ⟨?_, rfl, ?_⟩ <;> ((try unfold U_X2_putAtStart); (try simp only [if_pos h1_0]); (try rfl)))
  · refine r_iload_n e_X2_putAtStart_4 rfl ?_
    refine r_aload_n e_X2_putAtStart_5 rfl ?_
    refine r_getR e_X2_putAtStart_6 fl_X2_20 k0 k1 ?_
    refine r_alen (v := (10 : Int32)) e_X2_putAtStart_9 k2 (by decide) rfl ?_
    refine r_icmp_lt e_X2_putAtStart_10 (fun h10_1 => ?_) (fun h10_1 => ?_)
    · refine r_aload_n e_X2_putAtStart_14 rfl ?_
      refine r_getR e_X2_putAtStart_15 fl_X2_20 k0 k1 ?_
      refine r_iload_n e_X2_putAtStart_18 rfl ?_
      refine r_aaload (b := (a + 10 + 2 * x1.toNatClampNeg)) e_X2_putAtStart_19 k2 ⟨by decide, by decide⟩ (vp_guard h1_0 (i_nle h10_1) (by decide)) (hb1.2.2.2.2.2.2.2.2.1 x1.toNatClampNeg (vp_lt (vp_guard h1_0 (i_nle h10_1) (by decide)))).1 ?_
      refine p_astore_n_4_2 e_X2_putAtStart_20 rfl rfl ?_
      refine r_aload_n e_X2_putAtStart_21 rfl ?_
      refine cV0u e_X2_putAtStart_22 cl_X2_94 ⟨Nat.le_of_ble_eq_true rfl, Nat.le_of_ble_eq_true rfl⟩ ⟨rfl, rfl⟩ (show kd sh (a + 10 + 2 * x1.toNatClampNeg) = some (5 + 7, 0) from (hb1.2.2.2.2.2.2.2.2.1 x1.toNatClampNeg (vp_lt (vp_guard h1_0 (i_nle h10_1) (by decide)))).2.1) (Nat.le_of_ble_eq_true rfl) (S_X5_leave (hb1.2.2.2.2.2.2.2.2.1 x1.toNatClampNeg (vp_lt (vp_guard h1_0 (i_nle h10_1) (by decide)))).2) ?_
      refine r_aload_n e_X2_putAtStart_25 rfl ?_
      refine r_aload_n e_X2_putAtStart_26 rfl ?_
      refine r_getI e_X2_putAtStart_27 fl_X2_120 i0 (show kd sh (a + 10 + 2 * x1.toNatClampNeg) = some (5 + 7, 0) from (hb1.2.2.2.2.2.2.2.2.1 x1.toNatClampNeg (vp_lt (vp_guard h1_0 (i_nle h10_1) (by decide)))).2.1) ?_
      refine r_aload_n e_X2_putAtStart_30 rfl ?_
      refine r_getI e_X2_putAtStart_31 fl_X2_123 i0 (show kd sh (a + 10 + 2 * x1.toNatClampNeg) = some (5 + 7, 0) from (hb1.2.2.2.2.2.2.2.2.1 x1.toNatClampNeg (vp_lt (vp_guard h1_0 (i_nle h10_1) (by decide)))).2.1) ?_
      refine cV2v e_X2_putAtStart_34 cl_X2_126 ⟨Nat.le_of_ble_eq_true rfl, Nat.le_of_ble_eq_true rfl⟩ ⟨rfl, rfl⟩ k0 (Nat.le_of_ble_eq_true rfl) (S_X2_freeCell hb1) ?_
      refine p_istore_n_4_3 e_X2_putAtStart_37 rfl rfl ?_
      refine r_aload_n e_X2_putAtStart_38 rfl ?_
      refine r_iload_n e_X2_putAtStart_39 rfl ?_
      refine r_bipush e_X2_putAtStart_40 bp_15 ?_
      refine r_irem e_X2_putAtStart_42 (by decide) ?_
      refine r_putI e_X2_putAtStart_43 fl_X2_130 (show kd sh (a + 10 + 2 * x1.toNatClampNeg) = some (5 + 7, 0) from (hb1.2.2.2.2.2.2.2.2.1 x1.toNatClampNeg (vp_lt (vp_guard h1_0 (i_nle h10_1) (by decide)))).2.1) ?_
      refine r_aload_n e_X2_putAtStart_46 rfl ?_
      refine r_iload_n e_X2_putAtStart_47 rfl ?_
      refine r_bipush e_X2_putAtStart_48 bp_15 ?_
      refine r_idiv e_X2_putAtStart_50 (by decide) ?_
      refine r_putI e_X2_putAtStart_51 fl_X2_131 (show kd sh (a + 10 + 2 * x1.toNatClampNeg) = some (5 + 7, 0) from (hb1.2.2.2.2.2.2.2.2.1 x1.toNatClampNeg (vp_lt (vp_guard h1_0 (i_nle h10_1) (by decide)))).2.1) ?_
      refine r_aload_n e_X2_putAtStart_54 rfl ?_
      refine r_getR e_X2_putAtStart_55 fl_X2_27 k0 k3 ?_
      refine r_getIe e_X2_putAtStart_58 fl_X2_132 i0 k4 ((gs_nI (by decide)).trans (gs_aI (by omega))) ?_
      refine r_iload_n e_X2_putAtStart_61 rfl ?_
      obtain ⟨M2_0, e_M2_0⟩ : ∃ z : Mem, z = (if ((U_X5_leave (a + 10 + 2 * x1.toNatClampNeg) M).1 (a + 4) 2) = x1 then (U_X0_go (a + 4) ((V_X2_freeCell a ((U_X5_leave (a + 10 + 2 * x1.toNatClampNeg) M).1 (a + 10 + 2 * x1.toNatClampNeg) 4) ((U_X5_leave (a + 10 + 2 * x1.toNatClampNeg) M).1 (a + 10 + 2 * x1.toNatClampNeg) 5) (U_X5_leave (a + 10 + 2 * x1.toNatClampNeg) M)) - (V_X2_freeCell a ((U_X5_leave (a + 10 + 2 * x1.toNatClampNeg) M).1 (a + 10 + 2 * x1.toNatClampNeg) 4) ((U_X5_leave (a + 10 + 2 * x1.toNatClampNeg) M).1 (a + 10 + 2 * x1.toNatClampNeg) 5) (U_X5_leave (a + 10 + 2 * x1.toNatClampNeg) M)) / (15 : Int32) * (15 : Int32)) ((V_X2_freeCell a ((U_X5_leave (a + 10 + 2 * x1.toNatClampNeg) M).1 (a + 10 + 2 * x1.toNatClampNeg) 4) ((U_X5_leave (a + 10 + 2 * x1.toNatClampNeg) M).1 (a + 10 + 2 * x1.toNatClampNeg) 5) (U_X5_leave (a + 10 + 2 * x1.toNatClampNeg) M)) / (15 : Int32)) (setI (setI (U_X5_leave (a + 10 + 2 * x1.toNatClampNeg) M) (a + 10 + 2 * x1.toNatClampNeg) 2 ((V_X2_freeCell a ((U_X5_leave (a + 10 + 2 * x1.toNatClampNeg) M).1 (a + 10 + 2 * x1.toNatClampNeg) 4) ((U_X5_leave (a + 10 + 2 * x1.toNatClampNeg) M).1 (a + 10 + 2 * x1.toNatClampNeg) 5) (U_X5_leave (a + 10 + 2 * x1.toNatClampNeg) M)) - (V_X2_freeCell a ((U_X5_leave (a + 10 + 2 * x1.toNatClampNeg) M).1 (a + 10 + 2 * x1.toNatClampNeg) 4) ((U_X5_leave (a + 10 + 2 * x1.toNatClampNeg) M).1 (a + 10 + 2 * x1.toNatClampNeg) 5) (U_X5_leave (a + 10 + 2 * x1.toNatClampNeg) M)) / (15 : Int32) * (15 : Int32))) (a + 10 + 2 * x1.toNatClampNeg) 3 ((V_X2_freeCell a ((U_X5_leave (a + 10 + 2 * x1.toNatClampNeg) M).1 (a + 10 + 2 * x1.toNatClampNeg) 4) ((U_X5_leave (a + 10 + 2 * x1.toNatClampNeg) M).1 (a + 10 + 2 * x1.toNatClampNeg) 5) (U_X5_leave (a + 10 + 2 * x1.toNatClampNeg) M)) / (15 : Int32)))) else (setI (setI (U_X5_leave (a + 10 + 2 * x1.toNatClampNeg) M) (a + 10 + 2 * x1.toNatClampNeg) 2 ((V_X2_freeCell a ((U_X5_leave (a + 10 + 2 * x1.toNatClampNeg) M).1 (a + 10 + 2 * x1.toNatClampNeg) 4) ((U_X5_leave (a + 10 + 2 * x1.toNatClampNeg) M).1 (a + 10 + 2 * x1.toNatClampNeg) 5) (U_X5_leave (a + 10 + 2 * x1.toNatClampNeg) M)) - (V_X2_freeCell a ((U_X5_leave (a + 10 + 2 * x1.toNatClampNeg) M).1 (a + 10 + 2 * x1.toNatClampNeg) 4) ((U_X5_leave (a + 10 + 2 * x1.toNatClampNeg) M).1 (a + 10 + 2 * x1.toNatClampNeg) 5) (U_X5_leave (a + 10 + 2 * x1.toNatClampNeg) M)) / (15 : Int32) * (15 : Int32))) (a + 10 + 2 * x1.toNatClampNeg) 3 ((V_X2_freeCell a ((U_X5_leave (a + 10 + 2 * x1.toNatClampNeg) M).1 (a + 10 + 2 * x1.toNatClampNeg) 4) ((U_X5_leave (a + 10 + 2 * x1.toNatClampNeg) M).1 (a + 10 + 2 * x1.toNatClampNeg) 5) (U_X5_leave (a + 10 + 2 * x1.toNatClampNeg) M)) / (15 : Int32)))) := ⟨_, rfl⟩
      suffices j80_2 : WP m_X2_putAtStart (fun r sh' M'' => r = none ∧ sh' = sh ∧ M'' = (U_X2_putAtStart a x1 M)) 80 [some (.ref a), some (.int x1), some (.ref (a + 10 + 2 * x1.toNatClampNeg)), some (.int (V_X2_freeCell a ((U_X5_leave (a + 10 + 2 * x1.toNatClampNeg) M).1 (a + 10 + 2 * x1.toNatClampNeg) 4) ((U_X5_leave (a + 10 + 2 * x1.toNatClampNeg) M).1 (a + 10 + 2 * x1.toNatClampNeg) 5) (U_X5_leave (a + 10 + 2 * x1.toNatClampNeg) M)))] [] sh M2_0 0 0 by
        refine r_icmp_ne e_X2_putAtStart_62 (fun h62_2 => ?_) (fun h62_2 => ?_)
        · (rw [show M2_0 = setI (setI (U_X5_leave (a + 10 + 2 * x1.toNatClampNeg) M) (a + 10 + 2 * x1.toNatClampNeg) 2 ((V_X2_freeCell a ((U_X5_leave (a + 10 + 2 * x1.toNatClampNeg) M).1 (a + 10 + 2 * x1.toNatClampNeg) 4) ((U_X5_leave (a + 10 + 2 * x1.toNatClampNeg) M).1 (a + 10 + 2 * x1.toNatClampNeg) 5) (U_X5_leave (a + 10 + 2 * x1.toNatClampNeg) M)) - (V_X2_freeCell a ((U_X5_leave (a + 10 + 2 * x1.toNatClampNeg) M).1 (a + 10 + 2 * x1.toNatClampNeg) 4) ((U_X5_leave (a + 10 + 2 * x1.toNatClampNeg) M).1 (a + 10 + 2 * x1.toNatClampNeg) 5) (U_X5_leave (a + 10 + 2 * x1.toNatClampNeg) M)) / (15 : Int32) * (15 : Int32))) (a + 10 + 2 * x1.toNatClampNeg) 3 ((V_X2_freeCell a ((U_X5_leave (a + 10 + 2 * x1.toNatClampNeg) M).1 (a + 10 + 2 * x1.toNatClampNeg) 4) ((U_X5_leave (a + 10 + 2 * x1.toNatClampNeg) M).1 (a + 10 + 2 * x1.toNatClampNeg) 5) (U_X5_leave (a + 10 + 2 * x1.toNatClampNeg) M)) / (15 : Int32)) from (e_M2_0.trans (if_neg h62_2))] at j80_2; exact j80_2)
        · refine r_aload_n e_X2_putAtStart_65 rfl ?_
          refine r_getR e_X2_putAtStart_66 fl_X2_27 k0 k3 ?_
          refine r_aload_n e_X2_putAtStart_69 rfl ?_
          refine r_getIe e_X2_putAtStart_70 fl_X2_130 i0 (show kd sh (a + 10 + 2 * x1.toNatClampNeg) = some (5 + 7, 0) from (hb1.2.2.2.2.2.2.2.2.1 x1.toNatClampNeg (vp_lt (vp_guard h1_0 (i_nle h10_1) (by decide)))).2.1) ((gs_nI (by decide)).trans gs_eI) ?_
          refine r_aload_n e_X2_putAtStart_73 rfl ?_
          refine r_getIe e_X2_putAtStart_74 fl_X2_131 i0 (show kd sh (a + 10 + 2 * x1.toNatClampNeg) = some (5 + 7, 0) from (hb1.2.2.2.2.2.2.2.2.1 x1.toNatClampNeg (vp_lt (vp_guard h1_0 (i_nle h10_1) (by decide)))).2.1) gs_eI ?_
          refine cV2u e_X2_putAtStart_77 cl_X2_135 ⟨Nat.le_of_ble_eq_true rfl, Nat.le_of_ble_eq_true rfl⟩ ⟨rfl, rfl⟩ k4 (Nat.le_of_ble_eq_true rfl) (S_X0_go hb1.2.2.2.2.2.2.2.2.2.1) ?_
          (rw [show M2_0 = U_X0_go (a + 4) ((V_X2_freeCell a ((U_X5_leave (a + 10 + 2 * x1.toNatClampNeg) M).1 (a + 10 + 2 * x1.toNatClampNeg) 4) ((U_X5_leave (a + 10 + 2 * x1.toNatClampNeg) M).1 (a + 10 + 2 * x1.toNatClampNeg) 5) (U_X5_leave (a + 10 + 2 * x1.toNatClampNeg) M)) - (V_X2_freeCell a ((U_X5_leave (a + 10 + 2 * x1.toNatClampNeg) M).1 (a + 10 + 2 * x1.toNatClampNeg) 4) ((U_X5_leave (a + 10 + 2 * x1.toNatClampNeg) M).1 (a + 10 + 2 * x1.toNatClampNeg) 5) (U_X5_leave (a + 10 + 2 * x1.toNatClampNeg) M)) / (15 : Int32) * (15 : Int32)) ((V_X2_freeCell a ((U_X5_leave (a + 10 + 2 * x1.toNatClampNeg) M).1 (a + 10 + 2 * x1.toNatClampNeg) 4) ((U_X5_leave (a + 10 + 2 * x1.toNatClampNeg) M).1 (a + 10 + 2 * x1.toNatClampNeg) 5) (U_X5_leave (a + 10 + 2 * x1.toNatClampNeg) M)) / (15 : Int32)) (setI (setI (U_X5_leave (a + 10 + 2 * x1.toNatClampNeg) M) (a + 10 + 2 * x1.toNatClampNeg) 2 ((V_X2_freeCell a ((U_X5_leave (a + 10 + 2 * x1.toNatClampNeg) M).1 (a + 10 + 2 * x1.toNatClampNeg) 4) ((U_X5_leave (a + 10 + 2 * x1.toNatClampNeg) M).1 (a + 10 + 2 * x1.toNatClampNeg) 5) (U_X5_leave (a + 10 + 2 * x1.toNatClampNeg) M)) - (V_X2_freeCell a ((U_X5_leave (a + 10 + 2 * x1.toNatClampNeg) M).1 (a + 10 + 2 * x1.toNatClampNeg) 4) ((U_X5_leave (a + 10 + 2 * x1.toNatClampNeg) M).1 (a + 10 + 2 * x1.toNatClampNeg) 5) (U_X5_leave (a + 10 + 2 * x1.toNatClampNeg) M)) / (15 : Int32) * (15 : Int32))) (a + 10 + 2 * x1.toNatClampNeg) 3 ((V_X2_freeCell a ((U_X5_leave (a + 10 + 2 * x1.toNatClampNeg) M).1 (a + 10 + 2 * x1.toNatClampNeg) 4) ((U_X5_leave (a + 10 + 2 * x1.toNatClampNeg) M).1 (a + 10 + 2 * x1.toNatClampNeg) 5) (U_X5_leave (a + 10 + 2 * x1.toNatClampNeg) M)) / (15 : Int32))) from (e_M2_0.trans (if_pos h62_2))] at j80_2; exact j80_2)
      refine r_return e_X2_putAtStart_80 rfl ⟨rfl, rfl⟩ ?_
      (subst e_M2_0; refine ⟨?_, rfl, ?_⟩ <;> ((try unfold U_X2_putAtStart); (try simp only [if_neg h1_0, if_pos h10_1]); (try rfl)))
    · refine r_return e_X2_putAtStart_13 rfl ⟨rfl, rfl⟩ ?_
      (refine ⟨?_, rfl, ?_⟩ <;> ((try unfold U_X2_putAtStart); (try simp only [if_neg h1_0, if_neg h10_1]); (try rfl)))
def U_X2_putBall (a : Nat) (M : Mem) : Mem := (let Mc1 : Mem := U_X0_lie (a + 4) ((V_X2_freeCell a (7 : Int32) (4 : Int32) M) - (V_X2_freeCell a (7 : Int32) (4 : Int32) M) / (15 : Int32) * (15 : Int32)) ((V_X2_freeCell a (7 : Int32) (4 : Int32) M) / (15 : Int32)) M; Mc1)
theorem S_X2_putBall {sh : List SC} {M : Mem} {a : Nat}  (hb1 : MatchAt sh a)  : Gu m_X2_putBall [.ref a] sh M (U_X2_putBall a M) := by
  refine Sp.of (ls := [some (.ref a), none]) (by decide +kernel) (Nat.le_of_ble_eq_true rfl) rfl ?_
  have k0 : kd sh a = some (2 + 7, 0) := hb1.1
  have k1 : rf sh a 4 = some (a + 4) := hb1.2.2.2.2.2.1
  have k2 : kd sh (a + 4) = some (0 + 7, 0) := hb1.2.2.2.2.2.2.2.2.2.1.1
  refine r_aload_n e_X2_putBall_0 rfl ?_
  refine r_bipush e_X2_putBall_1 bp_7 ?_
  refine r_iconst e_X2_putBall_3 ic_4 ?_
  refine cV2v e_X2_putBall_4 cl_X2_126 ⟨Nat.le_of_ble_eq_true rfl, Nat.le_of_ble_eq_true rfl⟩ ⟨rfl, rfl⟩ k0 (Nat.le_of_ble_eq_true rfl) (S_X2_freeCell hb1) ?_
  refine p_istore_n_2_1 e_X2_putBall_7 rfl rfl ?_
  refine r_aload_n e_X2_putBall_8 rfl ?_
  refine r_getR e_X2_putBall_9 fl_X2_27 k0 k1 ?_
  refine r_iload_n e_X2_putBall_12 rfl ?_
  refine r_bipush e_X2_putBall_13 bp_15 ?_
  refine r_irem e_X2_putBall_15 (by decide) ?_
  refine r_iload_n e_X2_putBall_16 rfl ?_
  refine r_bipush e_X2_putBall_17 bp_15 ?_
  refine r_idiv e_X2_putBall_19 (by decide) ?_
  refine cV2u e_X2_putBall_20 cl_X2_138 ⟨Nat.le_of_ble_eq_true rfl, Nat.le_of_ble_eq_true rfl⟩ ⟨rfl, rfl⟩ k2 (Nat.le_of_ble_eq_true rfl) (S_X0_lie hb1.2.2.2.2.2.2.2.2.2.1) ?_
  obtain ⟨Mc1, e_Mc1⟩ : ∃ z : Mem, z = (U_X0_lie (a + 4) ((V_X2_freeCell a (7 : Int32) (4 : Int32) M) - (V_X2_freeCell a (7 : Int32) (4 : Int32) M) / (15 : Int32) * (15 : Int32)) ((V_X2_freeCell a (7 : Int32) (4 : Int32) M) / (15 : Int32)) M) := ⟨_, rfl⟩
  rw [← e_Mc1]
  refine r_return e_X2_putBall_23 rfl ⟨rfl, rfl⟩ ?_
  (subst e_Mc1; refine ⟨?_, rfl, ?_⟩ <;> ((try unfold U_X2_putBall); (try simp only []); (try rfl)))
def FV_X6_doActs_22 (a : Nat) (x1 : Nat) (x2 : Int32) (x3 : Nat) (w4 : Int32) : Nat → Int32 → Mem → Int32
  | 0, u5, M => 0
  | n + 1, u5, M => if w4 ≤ u5 then (0 : Int32) else (if (400 : Int32) ≤ u5 then (0 : Int32) else (if (80 : Int32) < (M.1 a 1) then (0 : Int32) else (if (M.1 (x1 + 7) u5.toNatClampNeg) = (3 : Int32) then (FV_X6_doActs_22 a x1 x2 x3 w4 n (u5 + 1) (setI (setI M a 1 ((M.1 a 1) + (1 : Int32))) a 2 ((M.2 (x1 + 8) u5.toNatClampNeg).toInt32))) else (if (M.1 (x1 + 7) u5.toNatClampNeg) = (4 : Int32) then (let M2205_0 : Mem := if (80 : Int32) < ((U_X6_work a x1 (M.1 (x1 + 9) u5.toNatClampNeg) (x3 + 1) 4 (setI M a 1 ((M.1 a 1) + (1 : Int32)))).1 a 1) then (U_X6_work a x1 (M.1 (x1 + 9) u5.toNatClampNeg) (x3 + 1) 4 (setI M a 1 ((M.1 a 1) + (1 : Int32)))) else (U_X10_put (x3 + 1) ((M.2 (x1 + 8) u5.toNatClampNeg).toInt32) (V_X6_work a x1 (M.1 (x1 + 9) u5.toNatClampNeg) (x3 + 1) 4 (setI M a 1 ((M.1 a 1) + (1 : Int32)))) 4 (U_X6_work a x1 (M.1 (x1 + 9) u5.toNatClampNeg) (x3 + 1) 4 (setI M a 1 ((M.1 a 1) + (1 : Int32))))); (FV_X6_doActs_22 a x1 x2 x3 w4 n (u5 + 1) M2205_0)) else (let Mc1001 : Mem := U_X6_command a x1 (M.1 (x1 + 7) u5.toNatClampNeg) (M.1 (x1 + 9) u5.toNatClampNeg) x3 (setI M a 1 ((M.1 a 1) + (1 : Int32))); (1 : Int32))))))
def FU_X6_doActs_22 (a : Nat) (x1 : Nat) (x2 : Int32) (x3 : Nat) (w4 : Int32) : Nat → Int32 → Mem → Mem
  | 0, u5, M => M
  | n + 1, u5, M => if w4 ≤ u5 then M else (if (400 : Int32) ≤ u5 then M else (if (80 : Int32) < (M.1 a 1) then M else (if (M.1 (x1 + 7) u5.toNatClampNeg) = (3 : Int32) then (FU_X6_doActs_22 a x1 x2 x3 w4 n (u5 + 1) (setI (setI M a 1 ((M.1 a 1) + (1 : Int32))) a 2 ((M.2 (x1 + 8) u5.toNatClampNeg).toInt32))) else (if (M.1 (x1 + 7) u5.toNatClampNeg) = (4 : Int32) then (let M2205_0 : Mem := if (80 : Int32) < ((U_X6_work a x1 (M.1 (x1 + 9) u5.toNatClampNeg) (x3 + 1) 4 (setI M a 1 ((M.1 a 1) + (1 : Int32)))).1 a 1) then (U_X6_work a x1 (M.1 (x1 + 9) u5.toNatClampNeg) (x3 + 1) 4 (setI M a 1 ((M.1 a 1) + (1 : Int32)))) else (U_X10_put (x3 + 1) ((M.2 (x1 + 8) u5.toNatClampNeg).toInt32) (V_X6_work a x1 (M.1 (x1 + 9) u5.toNatClampNeg) (x3 + 1) 4 (setI M a 1 ((M.1 a 1) + (1 : Int32)))) 4 (U_X6_work a x1 (M.1 (x1 + 9) u5.toNatClampNeg) (x3 + 1) 4 (setI M a 1 ((M.1 a 1) + (1 : Int32))))); (FU_X6_doActs_22 a x1 x2 x3 w4 n (u5 + 1) M2205_0)) else (let Mc1001 : Mem := U_X6_command a x1 (M.1 (x1 + 7) u5.toNatClampNeg) (M.1 (x1 + 9) u5.toNatClampNeg) x3 (setI M a 1 ((M.1 a 1) + (1 : Int32))); Mc1001)))))
def T_X6_doActs_22 (a : Nat) (x1 : Nat) (x2 : Int32) (x3 : Nat) (w4 : Int32) : Nat → Int32 → Mem → Prop
  | 0, u5, M => False
  | n + 1, u5, M => (¬ u5 < 0) ∧ (P_X6_command a x1 (M.1 (x1 + 7) u5.toNatClampNeg) (M.1 (x1 + 9) u5.toNatClampNeg) x3 (setI M a 1 ((M.1 a 1) + (1 : Int32)))) ∧ (P_X6_work a x1 (M.1 (x1 + 9) u5.toNatClampNeg) (x3 + 1) 4 (setI M a 1 ((M.1 a 1) + (1 : Int32)))) ∧ ((if w4 ≤ u5 then True else (if (400 : Int32) ≤ u5 then True else (if (80 : Int32) < (M.1 a 1) then True else (if (M.1 (x1 + 7) u5.toNatClampNeg) = (3 : Int32) then (T_X6_doActs_22 a x1 x2 x3 w4 n (u5 + 1) (setI (setI M a 1 ((M.1 a 1) + (1 : Int32))) a 2 ((M.2 (x1 + 8) u5.toNatClampNeg).toInt32))) else (if (M.1 (x1 + 7) u5.toNatClampNeg) = (4 : Int32) then (let M2205_0 : Mem := if (80 : Int32) < ((U_X6_work a x1 (M.1 (x1 + 9) u5.toNatClampNeg) (x3 + 1) 4 (setI M a 1 ((M.1 a 1) + (1 : Int32)))).1 a 1) then (U_X6_work a x1 (M.1 (x1 + 9) u5.toNatClampNeg) (x3 + 1) 4 (setI M a 1 ((M.1 a 1) + (1 : Int32)))) else (U_X10_put (x3 + 1) ((M.2 (x1 + 8) u5.toNatClampNeg).toInt32) (V_X6_work a x1 (M.1 (x1 + 9) u5.toNatClampNeg) (x3 + 1) 4 (setI M a 1 ((M.1 a 1) + (1 : Int32)))) 4 (U_X6_work a x1 (M.1 (x1 + 9) u5.toNatClampNeg) (x3 + 1) 4 (setI M a 1 ((M.1 a 1) + (1 : Int32))))); (T_X6_doActs_22 a x1 x2 x3 w4 n (u5 + 1) M2205_0)) else (let Mc1001 : Mem := U_X6_command a x1 (M.1 (x1 + 7) u5.toNatClampNeg) (M.1 (x1 + 9) u5.toNatClampNeg) x3 (setI M a 1 ((M.1 a 1) + (1 : Int32))); True)))))))
theorem L_X6_doActs_22 {sh : List SC} {Q : Po} {a : Nat} {x1 : Nat} {x2 : Int32} {x3 : Nat}  {w4 : Int32}  (hb1 : RunnerAt sh a) (hb2 : ProgramAt sh x1) (hb3 : RobotAt sh x3)   : ∀ (n : Nat) (u5 : Int32) (M : Mem), T_X6_doActs_22 a x1 x2 x3 w4 n u5 M → Q (some (.int (FV_X6_doActs_22 a x1 x2 x3 w4 n u5 M))) sh (FU_X6_doActs_22 a x1 x2 x3 w4 n u5 M) → WP m_X6_doActs Q 22 [some (.ref a), some (.ref x1), some (.int x2), some (.ref x3), some (.int w4), some (.int u5), none, none, none, none] [] sh M 0 0 := by
  have k0 : kd sh x1 = some (3 + 7, 0) := hb2.1
  have k1 : rf sh x1 11 = some (x1 + 8) := hb2.2.2.2.2.2.2.2.2.1
  have k2 : kd sh (x1 + 8) = some (1, 400) := hb2.2.2.2.2.2.2.2.2.2.2.2.2.2.2.2.2.2.2.2.2.2.2.1
  have k3 : kd sh a = some (6 + 7, 0) := hb1.1
  have k4 : rf sh x1 10 = some (x1 + 7) := hb2.2.2.2.2.2.2.2.1
  have k5 : kd sh (x1 + 7) = some (0, 400) := hb2.2.2.2.2.2.2.2.2.2.2.2.2.2.2.2.2.2.2.2.2.2.1
  have k6 : rf sh x1 12 = some (x1 + 9) := hb2.2.2.2.2.2.2.2.2.2.1
  have k7 : kd sh (x1 + 9) = some (0, 400) := hb2.2.2.2.2.2.2.2.2.2.2.2.2.2.2.2.2.2.2.2.2.2.2.2.1
  have k8 : kd sh x3 = some (5 + 7, 0) := hb3.1
  have k9 : rf sh x3 9 = some (x3 + 1) := hb3.2.1
  have k10 : kd sh (x3 + 1) = some (0, 4) := hb3.2.2
  intro n
  induction n with
  | zero =>
    intro u5 M hH hq
    exact hH.elim
  | succ n ih =>
    intro u5 M hH hq
    unfold T_X6_doActs_22 at hH
    obtain ⟨g1, g2, g3, hH⟩ := hH
    refine r_iload e_X6_doActs_22 rfl ?_
    refine r_iload e_X6_doActs_24 rfl ?_
    refine r_icmp_ge e_X6_doActs_26 (fun h26_2200 => ?_) (fun h26_2200 => ?_)
    · refine r_iconst e_X6_doActs_161 ic_0 ?_
      refine r_zreturn e_X6_doActs_162 rfl ⟨rfl, rfl⟩ (by first | exact Or.inl rfl | exact Or.inr rfl) ?_
      (simp only [FV_X6_doActs_22, FU_X6_doActs_22, if_pos h26_2200] at hq; first | exact hq | (simp only [if_pos h26_2200]; exact hq))
    · refine r_iload e_X6_doActs_29 rfl ?_
      refine r_aload_n e_X6_doActs_31 rfl ?_
      refine r_getR e_X6_doActs_32 fl_X6_73 k0 k1 ?_
      refine r_alen (v := (400 : Int32)) e_X6_doActs_35 k2 (by decide) rfl ?_
      refine r_icmp_ge e_X6_doActs_36 (fun h36_2201 => ?_) (fun h36_2201 => ?_)
      · refine r_iconst e_X6_doActs_161 ic_0 ?_
        refine r_zreturn e_X6_doActs_162 rfl ⟨rfl, rfl⟩ (by first | exact Or.inl rfl | exact Or.inr rfl) ?_
        (simp only [FV_X6_doActs_22, FU_X6_doActs_22, if_neg h26_2200, if_pos h36_2201] at hq; first | exact hq | (simp only [if_neg h26_2200, if_pos h36_2201]; exact hq))
      · refine r_aload_n e_X6_doActs_39 rfl ?_
        refine r_getI e_X6_doActs_40 fl_X6_15 i0 k3 ?_
        refine r_bipush e_X6_doActs_43 bp_80 ?_
        refine r_icmp_gt e_X6_doActs_45 (fun h45_2202 => ?_) (fun h45_2202 => ?_)
        · refine r_iconst e_X6_doActs_161 ic_0 ?_
          refine r_zreturn e_X6_doActs_162 rfl ⟨rfl, rfl⟩ (by first | exact Or.inl rfl | exact Or.inr rfl) ?_
          (simp only [FV_X6_doActs_22, FU_X6_doActs_22, if_neg h26_2200, if_neg h36_2201, if_pos h45_2202] at hq; first | exact hq | (simp only [if_neg h26_2200, if_neg h36_2201, if_pos h45_2202]; exact hq))
        · refine r_aload_n e_X6_doActs_48 rfl ?_
          refine r_dup e_X6_doActs_49 rfl ?_
          refine r_getI e_X6_doActs_50 fl_X6_15 i0 k3 ?_
          refine r_iconst e_X6_doActs_53 ic_1 ?_
          refine r_iadd e_X6_doActs_54 ?_
          refine r_putI e_X6_doActs_55 fl_X6_15 k3 ?_
          refine r_aload_n e_X6_doActs_58 rfl ?_
          refine r_getR e_X6_doActs_59 fl_X6_77 k0 k4 ?_
          refine r_iload e_X6_doActs_62 rfl ?_
          refine r_ialoade (v := (M.1 (x1 + 7) u5.toNatClampNeg)) e_X6_doActs_64 k5 (vp_guard g1 h36_2201 (by decide)) (gs_aI (ne_kd k5 k3 (by decide))) ?_
          refine p_istore_10_6 e_X6_doActs_65 rfl rfl ?_
          refine r_aload_n e_X6_doActs_67 rfl ?_
          refine r_getR e_X6_doActs_68 fl_X6_80 k0 k6 ?_
          refine r_iload e_X6_doActs_71 rfl ?_
          refine r_ialoade (v := (M.1 (x1 + 9) u5.toNatClampNeg)) e_X6_doActs_73 k7 (vp_guard g1 h36_2201 (by decide)) (gs_aI (ne_kd k7 k3 (by decide))) ?_
          refine p_istore_10_7 e_X6_doActs_74 rfl rfl ?_
          refine r_aload_n e_X6_doActs_76 rfl ?_
          refine r_getR e_X6_doActs_77 fl_X6_73 k0 k1 ?_
          refine r_iload e_X6_doActs_80 rfl ?_
          refine r_laloade (v := (M.2 (x1 + 8) u5.toNatClampNeg)) e_X6_doActs_82 k2 (vp_guard g1 h36_2201 (by decide)) gs_k2 ?_
          refine r_l2i e_X6_doActs_83 ?_
          refine p_istore_10_8 e_X6_doActs_84 rfl rfl ?_
          refine r_iload e_X6_doActs_86 rfl ?_
          refine r_iconst e_X6_doActs_88 ic_3 ?_
          refine r_icmp_ne e_X6_doActs_89 (fun h89_2203 => ?_) (fun h89_2203 => ?_)
          · refine r_iload e_X6_doActs_101 rfl ?_
            refine r_iconst e_X6_doActs_103 ic_4 ?_
            refine r_icmp_ne e_X6_doActs_104 (fun h104_2204 => ?_) (fun h104_2204 => ?_)
            · refine r_aload_n e_X6_doActs_143 rfl ?_
              refine r_aload_n e_X6_doActs_144 rfl ?_
              refine r_iload e_X6_doActs_145 rfl ?_
              refine r_iload e_X6_doActs_147 rfl ?_
              refine r_aload_n e_X6_doActs_149 rfl ?_
              refine cV4u e_X6_doActs_150 cl_X6_87 ⟨Nat.le_of_ble_eq_true rfl, Nat.le_of_ble_eq_true rfl⟩ ⟨rfl, rfl⟩ k3 (Nat.le_of_ble_eq_true rfl) (S_X6_command hb1 hb2 hb3 g2) ?_
              obtain ⟨Mc1001, e_Mc1001⟩ : ∃ z : Mem, z = (U_X6_command a x1 (M.1 (x1 + 7) u5.toNatClampNeg) (M.1 (x1 + 9) u5.toNatClampNeg) x3 (setI M a 1 ((M.1 a 1) + (1 : Int32)))) := ⟨_, rfl⟩
              rw [← e_Mc1001]
              refine r_iconst e_X6_doActs_153 ic_1 ?_
              refine r_zreturn e_X6_doActs_154 rfl ⟨rfl, rfl⟩ (by first | exact Or.inl rfl | exact Or.inr rfl) ?_
              (subst e_Mc1001; simp only [FV_X6_doActs_22, FU_X6_doActs_22, if_neg h26_2200, if_neg h36_2201, if_neg h45_2202, if_neg h89_2203, if_neg h104_2204] at hq; first | exact hq | (simp only [if_neg h26_2200, if_neg h36_2201, if_neg h45_2202, if_neg h89_2203, if_neg h104_2204]; exact hq))
            · refine r_aload_n e_X6_doActs_107 rfl ?_
              refine r_aload_n e_X6_doActs_108 rfl ?_
              refine r_iload e_X6_doActs_109 rfl ?_
              refine r_aload_n e_X6_doActs_111 rfl ?_
              refine r_getR e_X6_doActs_112 fl_X6_36 k8 k9 ?_
              refine cV3v e_X6_doActs_115 cl_X6_61 ⟨Nat.le_of_ble_eq_true rfl, Nat.le_of_ble_eq_true rfl⟩ ⟨rfl, rfl⟩ k3 (Nat.le_of_ble_eq_true rfl) (S_X6_work hb1 hb2 k10 g3) ?_
              refine p_istore_10_9 e_X6_doActs_118 rfl rfl ?_
              refine r_aload_n e_X6_doActs_120 rfl ?_
              refine r_getI e_X6_doActs_121 fl_X6_15 i0 k3 ?_
              refine r_bipush e_X6_doActs_124 bp_80 ?_
              obtain ⟨M2205_0, e_M2205_0⟩ : ∃ z : Mem, z = (if (80 : Int32) < ((U_X6_work a x1 (M.1 (x1 + 9) u5.toNatClampNeg) (x3 + 1) 4 (setI M a 1 ((M.1 a 1) + (1 : Int32)))).1 a 1) then (U_X6_work a x1 (M.1 (x1 + 9) u5.toNatClampNeg) (x3 + 1) 4 (setI M a 1 ((M.1 a 1) + (1 : Int32)))) else (U_X10_put (x3 + 1) ((M.2 (x1 + 8) u5.toNatClampNeg).toInt32) (V_X6_work a x1 (M.1 (x1 + 9) u5.toNatClampNeg) (x3 + 1) 4 (setI M a 1 ((M.1 a 1) + (1 : Int32)))) 4 (U_X6_work a x1 (M.1 (x1 + 9) u5.toNatClampNeg) (x3 + 1) 4 (setI M a 1 ((M.1 a 1) + (1 : Int32)))))) := ⟨_, rfl⟩
              suffices j140_2205 : WP m_X6_doActs Q 140 [some (.ref a), some (.ref x1), some (.int x2), some (.ref x3), some (.int w4), some (.int u5), some (.int (M.1 (x1 + 7) u5.toNatClampNeg)), some (.int (M.1 (x1 + 9) u5.toNatClampNeg)), some (.int ((M.2 (x1 + 8) u5.toNatClampNeg).toInt32)), some (.int (V_X6_work a x1 (M.1 (x1 + 9) u5.toNatClampNeg) (x3 + 1) 4 (setI M a 1 ((M.1 a 1) + (1 : Int32)))))] [] sh M2205_0 0 0 by
                refine r_icmp_gt e_X6_doActs_126 (fun h126_2205 => ?_) (fun h126_2205 => ?_)
                · (rw [show M2205_0 = U_X6_work a x1 (M.1 (x1 + 9) u5.toNatClampNeg) (x3 + 1) 4 (setI M a 1 ((M.1 a 1) + (1 : Int32))) from (e_M2205_0.trans (if_pos h126_2205))] at j140_2205; exact j140_2205)
                · refine r_aload_n e_X6_doActs_129 rfl ?_
                  refine r_getR e_X6_doActs_130 fl_X6_36 k8 k9 ?_
                  refine r_iload e_X6_doActs_133 rfl ?_
                  refine r_iload e_X6_doActs_135 rfl ?_
                  refine cSN3u e_X6_doActs_137 cl_X6_83 ⟨Nat.le_of_ble_eq_true rfl, Nat.le_of_ble_eq_true rfl⟩ ⟨rfl, rfl⟩  (Nat.le_of_ble_eq_true rfl) (S_X10_put k10 (by first | decide | (unfold vp_in; decide) | exact Or.inl rfl | exact Or.inr rfl)) ?_
                  (rw [show M2205_0 = U_X10_put (x3 + 1) ((M.2 (x1 + 8) u5.toNatClampNeg).toInt32) (V_X6_work a x1 (M.1 (x1 + 9) u5.toNatClampNeg) (x3 + 1) 4 (setI M a 1 ((M.1 a 1) + (1 : Int32)))) 4 (U_X6_work a x1 (M.1 (x1 + 9) u5.toNatClampNeg) (x3 + 1) 4 (setI M a 1 ((M.1 a 1) + (1 : Int32)))) from (e_M2205_0.trans (if_neg h126_2205))] at j140_2205; exact j140_2205)
              refine r_goto e_X6_doActs_140 ?_
              refine p_iinc_10_5 e_X6_doActs_155 rfl ic_1 rfl ?_
              refine r_goto e_X6_doActs_158 ?_
              refine d_10_6 ?_
              refine d_10_7 ?_
              refine d_10_8 ?_
              refine d_10_9 ?_
              (subst e_M2205_0; simp only [FV_X6_doActs_22, FU_X6_doActs_22, if_neg h26_2200, if_neg h36_2201, if_neg h45_2202, if_neg h89_2203, if_pos h104_2204] at hq; (try simp only [if_neg h26_2200, if_neg h36_2201, if_neg h45_2202, if_neg h89_2203, if_pos h104_2204] at hH); first | exact ih _ _ hH hq | (simp only [if_neg h26_2200, if_neg h36_2201, if_neg h45_2202, if_neg h89_2203, if_pos h104_2204]; exact ih _ _ hH hq))
          · refine r_aload_n e_X6_doActs_92 rfl ?_
            refine r_iload e_X6_doActs_93 rfl ?_
            refine r_putI e_X6_doActs_95 fl_X6_19 k3 ?_
            refine r_goto e_X6_doActs_98 ?_
            refine p_iinc_10_5 e_X6_doActs_155 rfl ic_1 rfl ?_
            refine r_goto e_X6_doActs_158 ?_
            refine d_10_6 ?_
            refine d_10_7 ?_
            refine d_10_8 ?_
            (simp only [FV_X6_doActs_22, FU_X6_doActs_22, if_neg h26_2200, if_neg h36_2201, if_neg h45_2202, if_pos h89_2203] at hq; (try simp only [if_neg h26_2200, if_neg h36_2201, if_neg h45_2202, if_pos h89_2203] at hH); first | exact ih _ _ hH hq | (simp only [if_neg h26_2200, if_neg h36_2201, if_neg h45_2202, if_pos h89_2203]; exact ih _ _ hH hq))
theorem ZV_X6_doActs_22 {a : Nat} {x1 : Nat} {x2 : Int32} {x3 : Nat} {w4 : Int32} : ∀ (n : Nat) (u5 : Int32) (M : Mem), FV_X6_doActs_22 a x1 x2 x3 w4 n u5 M = 0 ∨ FV_X6_doActs_22 a x1 x2 x3 w4 n u5 M = 1 := by
  intro n
  induction n with
  | zero => intro u5 M; exact Or.inl rfl
  | succ n ih => intro u5 M; exact (zi (Or.inl rfl) (zi (Or.inl rfl) (zi (Or.inl rfl) (zi (ih _ _) (zi (ih _ _) (Or.inr rfl))))))
def V_X6_doActs (a : Nat) (x1 : Nat) (x2 : Int32) (x3 : Nat) (M : Mem) : Int32 := (FV_X6_doActs_22 a x1 x2 x3 (V_X10_at (x1 + 4) (x2 + (1 : Int32)) 97 M) FUEL (V_X10_at (x1 + 4) x2 97 M) M)
theorem Z_X6_doActs {M : Mem} {a : Nat} {x1 : Nat} {x2 : Int32} {x3 : Nat}   : V_X6_doActs a x1 x2 x3 M = 0 ∨ V_X6_doActs a x1 x2 x3 M = 1 := (ZV_X6_doActs_22 _ _ _)
def U_X6_doActs (a : Nat) (x1 : Nat) (x2 : Int32) (x3 : Nat) (M : Mem) : Mem := (FU_X6_doActs_22 a x1 x2 x3 (V_X10_at (x1 + 4) (x2 + (1 : Int32)) 97 M) FUEL (V_X10_at (x1 + 4) x2 97 M) M)
def P_X6_doActs (a : Nat) (x1 : Nat) (x2 : Int32) (x3 : Nat) (M : Mem) : Prop := (T_X6_doActs_22 a x1 x2 x3 (V_X10_at (x1 + 4) (x2 + (1 : Int32)) 97 M) FUEL (V_X10_at (x1 + 4) x2 97 M) M)
theorem S_X6_doActs {sh : List SC} {M : Mem} {a : Nat} {x1 : Nat} {x2 : Int32} {x3 : Nat}  (hb1 : RunnerAt sh a) (hb2 : ProgramAt sh x1) (hb3 : RobotAt sh x3)  (hP : P_X6_doActs a x1 x2 x3 M) : Gv m_X6_doActs [.ref a, .ref x1, .int x2, .ref x3] sh M (.int (V_X6_doActs a x1 x2 x3 M)) (U_X6_doActs a x1 x2 x3 M) := by
  refine Sp.of (ls := [some (.ref a), some (.ref x1), some (.int x2), some (.ref x3), none, none, none, none, none, none]) (by decide +kernel) (Nat.le_of_ble_eq_true rfl) rfl ?_
  have g1 : T_X6_doActs_22 a x1 x2 x3 (V_X10_at (x1 + 4) (x2 + (1 : Int32)) 97 M) FUEL (V_X10_at (x1 + 4) x2 97 M) M := hP
  have k0 : kd sh x1 = some (3 + 7, 0) := hb2.1
  have k1 : rf sh x1 5 = some (x1 + 4) := hb2.2.2.2.2.1
  have k2 : kd sh (x1 + 4) = some (0, 97) := hb2.2.2.2.2.2.2.2.2.2.2.2.2.2.2.2.2.2.2.1
  refine r_aload_n e_X6_doActs_0 rfl ?_
  refine r_getR e_X6_doActs_1 fl_X6_70 k0 k1 ?_
  refine r_iload_n e_X6_doActs_4 rfl ?_
  refine r_iconst e_X6_doActs_5 ic_1 ?_
  refine r_iadd e_X6_doActs_6 ?_
  refine cSN2v e_X6_doActs_7 cl_X6_32 ⟨Nat.le_of_ble_eq_true rfl, Nat.le_of_ble_eq_true rfl⟩ ⟨rfl, rfl⟩  (Nat.le_of_ble_eq_true rfl) (S_X10_at k2 (by first | decide | (unfold vp_in; decide) | exact Or.inl rfl | exact Or.inr rfl)) ?_
  refine p_istore_10_4 e_X6_doActs_10 rfl rfl ?_
  refine r_aload_n e_X6_doActs_12 rfl ?_
  refine r_getR e_X6_doActs_13 fl_X6_70 k0 k1 ?_
  refine r_iload_n e_X6_doActs_16 rfl ?_
  refine cSN2v e_X6_doActs_17 cl_X6_32 ⟨Nat.le_of_ble_eq_true rfl, Nat.le_of_ble_eq_true rfl⟩ ⟨rfl, rfl⟩  (Nat.le_of_ble_eq_true rfl) (S_X10_at k2 (by first | decide | (unfold vp_in; decide) | exact Or.inl rfl | exact Or.inr rfl)) ?_
  refine p_istore_10_5 e_X6_doActs_20 rfl rfl ?_
  refine L_X6_doActs_22 hb1 hb2 hb3 FUEL (V_X10_at (x1 + 4) x2 97 M) M g1 ?_
  (refine ⟨?_, rfl, ?_⟩ <;> ((try unfold V_X6_doActs); (try unfold U_X6_doActs); (try simp only []); (try rfl)))
def U_X2_doCommand (a : Nat) (x1 : Int32) (M : Mem) : Mem := if x1 < 0 then M else (if x1 < (10 : Int32) then (if (M.1 (a + 10 + 2 * x1.toNatClampNeg) 15) = 0 then (if (M.1 (a + 10 + 2 * x1.toNatClampNeg) 16) = 0 then M else (let M7_0 : Mem := if (M.1 (a + 10 + 2 * x1.toNatClampNeg) 14) = (1 : Int32) then (U_X2_move a (a + 10 + 2 * x1.toNatClampNeg) x1 M) else (if (M.1 (a + 10 + 2 * x1.toNatClampNeg) 14) = (2 : Int32) then (if (M.1 (a + 4) 2) = x1 then (U_X0_free (a + 4) (M.1 (a + 10 + 2 * x1.toNatClampNeg) 15) (M.1 (a + 10 + 2 * x1.toNatClampNeg) 16) (M.1 (a + 10 + 2 * x1.toNatClampNeg) 17) M) else M) else M); M7_0)) else (let M3_0 : Mem := if (M.1 (a + 10 + 2 * x1.toNatClampNeg) 14) = (1 : Int32) then (U_X2_move a (a + 10 + 2 * x1.toNatClampNeg) x1 M) else (if (M.1 (a + 10 + 2 * x1.toNatClampNeg) 14) = (2 : Int32) then (if (M.1 (a + 4) 2) = x1 then (U_X0_free (a + 4) (M.1 (a + 10 + 2 * x1.toNatClampNeg) 15) (M.1 (a + 10 + 2 * x1.toNatClampNeg) 16) (M.1 (a + 10 + 2 * x1.toNatClampNeg) 17) M) else M) else M); M3_0)) else M)
theorem S_X2_doCommand {sh : List SC} {M : Mem} {a : Nat} {x1 : Int32}  (hb1 : MatchAt sh a)  : Gu m_X2_doCommand [.ref a, .int x1] sh M (U_X2_doCommand a x1 M) := by
  refine Sp.of (ls := [some (.ref a), some (.int x1), none]) (by decide +kernel) (Nat.le_of_ble_eq_true rfl) rfl ?_
  have k0 : kd sh a = some (2 + 7, 0) := hb1.1
  have k1 : rf sh a 3 = some (a + 3) := hb1.2.2.2.2.1
  have k2 : kd sh (a + 3) = some (6, 10) := hb1.2.2.2.2.2.2.2.1
  have k3 : rf sh a 4 = some (a + 4) := hb1.2.2.2.2.2.1
  have k4 : kd sh (a + 4) = some (0 + 7, 0) := hb1.2.2.2.2.2.2.2.2.2.1.1
  refine r_iload_n e_X2_doCommand_0 rfl ?_
  refine r_if_lt e_X2_doCommand_1 (fun h1_0 => ?_) (fun h1_0 => ?_)
  · refine r_return e_X2_doCommand_13 rfl ⟨rfl, rfl⟩ ?_
    (refine ⟨?_, rfl, ?_⟩ <;> ((try unfold U_X2_doCommand); (try simp only [if_pos h1_0]); (try rfl)))
  · refine r_iload_n e_X2_doCommand_4 rfl ?_
    refine r_aload_n e_X2_doCommand_5 rfl ?_
    refine r_getR e_X2_doCommand_6 fl_X2_20 k0 k1 ?_
    refine r_alen (v := (10 : Int32)) e_X2_doCommand_9 k2 (by decide) rfl ?_
    refine r_icmp_lt e_X2_doCommand_10 (fun h10_1 => ?_) (fun h10_1 => ?_)
    · refine r_aload_n e_X2_doCommand_14 rfl ?_
      refine r_getR e_X2_doCommand_15 fl_X2_20 k0 k1 ?_
      refine r_iload_n e_X2_doCommand_18 rfl ?_
      refine r_aaload (b := (a + 10 + 2 * x1.toNatClampNeg)) e_X2_doCommand_19 k2 ⟨by decide, by decide⟩ (vp_guard h1_0 (i_nle h10_1) (by decide)) (hb1.2.2.2.2.2.2.2.2.1 x1.toNatClampNeg (vp_lt (vp_guard h1_0 (i_nle h10_1) (by decide)))).1 ?_
      refine p_astore_n_3_2 e_X2_doCommand_20 rfl rfl ?_
      refine r_aload_n e_X2_doCommand_21 rfl ?_
      refine r_getI e_X2_doCommand_22 fl_X2_213 i0 (show kd sh (a + 10 + 2 * x1.toNatClampNeg) = some (5 + 7, 0) from (hb1.2.2.2.2.2.2.2.2.1 x1.toNatClampNeg (vp_lt (vp_guard h1_0 (i_nle h10_1) (by decide)))).2.1) ?_
      refine r_if_ne e_X2_doCommand_25 (fun h25_2 => ?_) (fun h25_2 => ?_)
      · refine r_aload_n e_X2_doCommand_36 rfl ?_
        refine r_getI e_X2_doCommand_37 fl_X2_219 i0 (show kd sh (a + 10 + 2 * x1.toNatClampNeg) = some (5 + 7, 0) from (hb1.2.2.2.2.2.2.2.2.1 x1.toNatClampNeg (vp_lt (vp_guard h1_0 (i_nle h10_1) (by decide)))).2.1) ?_
        refine r_iconst e_X2_doCommand_40 ic_1 ?_
        obtain ⟨M3_0, e_M3_0⟩ : ∃ z : Mem, z = (if (M.1 (a + 10 + 2 * x1.toNatClampNeg) 14) = (1 : Int32) then (U_X2_move a (a + 10 + 2 * x1.toNatClampNeg) x1 M) else (if (M.1 (a + 10 + 2 * x1.toNatClampNeg) 14) = (2 : Int32) then (if (M.1 (a + 4) 2) = x1 then (U_X0_free (a + 4) (M.1 (a + 10 + 2 * x1.toNatClampNeg) 15) (M.1 (a + 10 + 2 * x1.toNatClampNeg) 16) (M.1 (a + 10 + 2 * x1.toNatClampNeg) 17) M) else M) else M)) := ⟨_, rfl⟩
        suffices j91_3 : WP m_X2_doCommand (fun r sh' M'' => r = none ∧ sh' = sh ∧ M'' = (U_X2_doCommand a x1 M)) 91 [some (.ref a), some (.int x1), some (.ref (a + 10 + 2 * x1.toNatClampNeg))] [] sh M3_0 0 0 by
          refine r_icmp_ne e_X2_doCommand_41 (fun h41_3 => ?_) (fun h41_3 => ?_)
          · refine r_aload_n e_X2_doCommand_53 rfl ?_
            refine r_getI e_X2_doCommand_54 fl_X2_219 i0 (show kd sh (a + 10 + 2 * x1.toNatClampNeg) = some (5 + 7, 0) from (hb1.2.2.2.2.2.2.2.2.1 x1.toNatClampNeg (vp_lt (vp_guard h1_0 (i_nle h10_1) (by decide)))).2.1) ?_
            refine r_iconst e_X2_doCommand_57 ic_2 ?_
            refine r_icmp_ne e_X2_doCommand_58 (fun h58_4 => ?_) (fun h58_4 => ?_)
            · (rw [show M3_0 = M from ((e_M3_0.trans (if_neg h41_3)).trans (if_neg h58_4))] at j91_3; exact j91_3)
            · refine r_aload_n e_X2_doCommand_61 rfl ?_
              refine r_getR e_X2_doCommand_62 fl_X2_27 k0 k3 ?_
              refine r_getI e_X2_doCommand_65 fl_X2_132 i0 k4 ?_
              refine r_iload_n e_X2_doCommand_68 rfl ?_
              refine r_icmp_ne e_X2_doCommand_69 (fun h69_5 => ?_) (fun h69_5 => ?_)
              · (rw [show M3_0 = M from (((e_M3_0.trans (if_neg h41_3)).trans (if_pos h58_4)).trans (if_neg h69_5))] at j91_3; exact j91_3)
              · refine r_aload_n e_X2_doCommand_72 rfl ?_
                refine r_getR e_X2_doCommand_73 fl_X2_27 k0 k3 ?_
                refine r_aload_n e_X2_doCommand_76 rfl ?_
                refine r_getI e_X2_doCommand_77 fl_X2_213 i0 (show kd sh (a + 10 + 2 * x1.toNatClampNeg) = some (5 + 7, 0) from (hb1.2.2.2.2.2.2.2.2.1 x1.toNatClampNeg (vp_lt (vp_guard h1_0 (i_nle h10_1) (by decide)))).2.1) ?_
                refine r_aload_n e_X2_doCommand_80 rfl ?_
                refine r_getI e_X2_doCommand_81 fl_X2_216 i0 (show kd sh (a + 10 + 2 * x1.toNatClampNeg) = some (5 + 7, 0) from (hb1.2.2.2.2.2.2.2.2.1 x1.toNatClampNeg (vp_lt (vp_guard h1_0 (i_nle h10_1) (by decide)))).2.1) ?_
                refine r_aload_n e_X2_doCommand_84 rfl ?_
                refine r_getI e_X2_doCommand_85 fl_X2_225 i0 (show kd sh (a + 10 + 2 * x1.toNatClampNeg) = some (5 + 7, 0) from (hb1.2.2.2.2.2.2.2.2.1 x1.toNatClampNeg (vp_lt (vp_guard h1_0 (i_nle h10_1) (by decide)))).2.1) ?_
                refine cV3u e_X2_doCommand_88 cl_X2_228 ⟨Nat.le_of_ble_eq_true rfl, Nat.le_of_ble_eq_true rfl⟩ ⟨rfl, rfl⟩ k4 (Nat.le_of_ble_eq_true rfl) (S_X0_free hb1.2.2.2.2.2.2.2.2.2.1) ?_
                (rw [show M3_0 = U_X0_free (a + 4) (M.1 (a + 10 + 2 * x1.toNatClampNeg) 15) (M.1 (a + 10 + 2 * x1.toNatClampNeg) 16) (M.1 (a + 10 + 2 * x1.toNatClampNeg) 17) M from (((e_M3_0.trans (if_neg h41_3)).trans (if_pos h58_4)).trans (if_pos h69_5))] at j91_3; exact j91_3)
          · refine r_aload_n e_X2_doCommand_44 rfl ?_
            refine r_aload_n e_X2_doCommand_45 rfl ?_
            refine r_iload_n e_X2_doCommand_46 rfl ?_
            refine cV2u e_X2_doCommand_47 cl_X2_222 ⟨Nat.le_of_ble_eq_true rfl, Nat.le_of_ble_eq_true rfl⟩ ⟨rfl, rfl⟩ k0 (Nat.le_of_ble_eq_true rfl) (S_X2_move hb1 (hb1.2.2.2.2.2.2.2.2.1 x1.toNatClampNeg (vp_lt (vp_guard h1_0 (i_nle h10_1) (by decide)))).2) ?_
            refine r_goto e_X2_doCommand_50 ?_
            (rw [show M3_0 = U_X2_move a (a + 10 + 2 * x1.toNatClampNeg) x1 M from (e_M3_0.trans (if_pos h41_3))] at j91_3; exact j91_3)
        refine r_return e_X2_doCommand_91 rfl ⟨rfl, rfl⟩ ?_
        (subst e_M3_0; refine ⟨?_, rfl, ?_⟩ <;> ((try unfold U_X2_doCommand); (try simp only [if_neg h1_0, if_pos h10_1, if_neg h25_2]); (try rfl)))
      · refine r_aload_n e_X2_doCommand_28 rfl ?_
        refine r_getI e_X2_doCommand_29 fl_X2_216 i0 (show kd sh (a + 10 + 2 * x1.toNatClampNeg) = some (5 + 7, 0) from (hb1.2.2.2.2.2.2.2.2.1 x1.toNatClampNeg (vp_lt (vp_guard h1_0 (i_nle h10_1) (by decide)))).2.1) ?_
        refine r_if_ne e_X2_doCommand_32 (fun h32_6 => ?_) (fun h32_6 => ?_)
        · refine r_aload_n e_X2_doCommand_36 rfl ?_
          refine r_getI e_X2_doCommand_37 fl_X2_219 i0 (show kd sh (a + 10 + 2 * x1.toNatClampNeg) = some (5 + 7, 0) from (hb1.2.2.2.2.2.2.2.2.1 x1.toNatClampNeg (vp_lt (vp_guard h1_0 (i_nle h10_1) (by decide)))).2.1) ?_
          refine r_iconst e_X2_doCommand_40 ic_1 ?_
          obtain ⟨M7_0, e_M7_0⟩ : ∃ z : Mem, z = (if (M.1 (a + 10 + 2 * x1.toNatClampNeg) 14) = (1 : Int32) then (U_X2_move a (a + 10 + 2 * x1.toNatClampNeg) x1 M) else (if (M.1 (a + 10 + 2 * x1.toNatClampNeg) 14) = (2 : Int32) then (if (M.1 (a + 4) 2) = x1 then (U_X0_free (a + 4) (M.1 (a + 10 + 2 * x1.toNatClampNeg) 15) (M.1 (a + 10 + 2 * x1.toNatClampNeg) 16) (M.1 (a + 10 + 2 * x1.toNatClampNeg) 17) M) else M) else M)) := ⟨_, rfl⟩
          suffices j91_7 : WP m_X2_doCommand (fun r sh' M'' => r = none ∧ sh' = sh ∧ M'' = (U_X2_doCommand a x1 M)) 91 [some (.ref a), some (.int x1), some (.ref (a + 10 + 2 * x1.toNatClampNeg))] [] sh M7_0 0 0 by
            refine r_icmp_ne e_X2_doCommand_41 (fun h41_7 => ?_) (fun h41_7 => ?_)
            · refine r_aload_n e_X2_doCommand_53 rfl ?_
              refine r_getI e_X2_doCommand_54 fl_X2_219 i0 (show kd sh (a + 10 + 2 * x1.toNatClampNeg) = some (5 + 7, 0) from (hb1.2.2.2.2.2.2.2.2.1 x1.toNatClampNeg (vp_lt (vp_guard h1_0 (i_nle h10_1) (by decide)))).2.1) ?_
              refine r_iconst e_X2_doCommand_57 ic_2 ?_
              refine r_icmp_ne e_X2_doCommand_58 (fun h58_8 => ?_) (fun h58_8 => ?_)
              · (rw [show M7_0 = M from ((e_M7_0.trans (if_neg h41_7)).trans (if_neg h58_8))] at j91_7; exact j91_7)
              · refine r_aload_n e_X2_doCommand_61 rfl ?_
                refine r_getR e_X2_doCommand_62 fl_X2_27 k0 k3 ?_
                refine r_getI e_X2_doCommand_65 fl_X2_132 i0 k4 ?_
                refine r_iload_n e_X2_doCommand_68 rfl ?_
                refine r_icmp_ne e_X2_doCommand_69 (fun h69_9 => ?_) (fun h69_9 => ?_)
                · (rw [show M7_0 = M from (((e_M7_0.trans (if_neg h41_7)).trans (if_pos h58_8)).trans (if_neg h69_9))] at j91_7; exact j91_7)
                · refine r_aload_n e_X2_doCommand_72 rfl ?_
                  refine r_getR e_X2_doCommand_73 fl_X2_27 k0 k3 ?_
                  refine r_aload_n e_X2_doCommand_76 rfl ?_
                  refine r_getI e_X2_doCommand_77 fl_X2_213 i0 (show kd sh (a + 10 + 2 * x1.toNatClampNeg) = some (5 + 7, 0) from (hb1.2.2.2.2.2.2.2.2.1 x1.toNatClampNeg (vp_lt (vp_guard h1_0 (i_nle h10_1) (by decide)))).2.1) ?_
                  refine r_aload_n e_X2_doCommand_80 rfl ?_
                  refine r_getI e_X2_doCommand_81 fl_X2_216 i0 (show kd sh (a + 10 + 2 * x1.toNatClampNeg) = some (5 + 7, 0) from (hb1.2.2.2.2.2.2.2.2.1 x1.toNatClampNeg (vp_lt (vp_guard h1_0 (i_nle h10_1) (by decide)))).2.1) ?_
                  refine r_aload_n e_X2_doCommand_84 rfl ?_
                  refine r_getI e_X2_doCommand_85 fl_X2_225 i0 (show kd sh (a + 10 + 2 * x1.toNatClampNeg) = some (5 + 7, 0) from (hb1.2.2.2.2.2.2.2.2.1 x1.toNatClampNeg (vp_lt (vp_guard h1_0 (i_nle h10_1) (by decide)))).2.1) ?_
                  refine cV3u e_X2_doCommand_88 cl_X2_228 ⟨Nat.le_of_ble_eq_true rfl, Nat.le_of_ble_eq_true rfl⟩ ⟨rfl, rfl⟩ k4 (Nat.le_of_ble_eq_true rfl) (S_X0_free hb1.2.2.2.2.2.2.2.2.2.1) ?_
                  (rw [show M7_0 = U_X0_free (a + 4) (M.1 (a + 10 + 2 * x1.toNatClampNeg) 15) (M.1 (a + 10 + 2 * x1.toNatClampNeg) 16) (M.1 (a + 10 + 2 * x1.toNatClampNeg) 17) M from (((e_M7_0.trans (if_neg h41_7)).trans (if_pos h58_8)).trans (if_pos h69_9))] at j91_7; exact j91_7)
            · refine r_aload_n e_X2_doCommand_44 rfl ?_
              refine r_aload_n e_X2_doCommand_45 rfl ?_
              refine r_iload_n e_X2_doCommand_46 rfl ?_
              refine cV2u e_X2_doCommand_47 cl_X2_222 ⟨Nat.le_of_ble_eq_true rfl, Nat.le_of_ble_eq_true rfl⟩ ⟨rfl, rfl⟩ k0 (Nat.le_of_ble_eq_true rfl) (S_X2_move hb1 (hb1.2.2.2.2.2.2.2.2.1 x1.toNatClampNeg (vp_lt (vp_guard h1_0 (i_nle h10_1) (by decide)))).2) ?_
              refine r_goto e_X2_doCommand_50 ?_
              (rw [show M7_0 = U_X2_move a (a + 10 + 2 * x1.toNatClampNeg) x1 M from (e_M7_0.trans (if_pos h41_7))] at j91_7; exact j91_7)
          refine r_return e_X2_doCommand_91 rfl ⟨rfl, rfl⟩ ?_
          (subst e_M7_0; refine ⟨?_, rfl, ?_⟩ <;> ((try unfold U_X2_doCommand); (try simp only [if_neg h1_0, if_pos h10_1, if_pos h25_2, if_neg h32_6]); (try rfl)))
        · refine r_return e_X2_doCommand_35 rfl ⟨rfl, rfl⟩ ?_
          (refine ⟨?_, rfl, ?_⟩ <;> ((try unfold U_X2_doCommand); (try simp only [if_neg h1_0, if_pos h10_1, if_pos h25_2, if_pos h32_6]); (try rfl)))
    · refine r_return e_X2_doCommand_13 rfl ⟨rfl, rfl⟩ ?_
      (refine ⟨?_, rfl, ?_⟩ <;> ((try unfold U_X2_doCommand); (try simp only [if_neg h1_0, if_neg h10_1]); (try rfl)))
def F_X2_thinsCrowd_7 (a : Nat) (x1 : Int32) : Nat → Nat → Int32 → Int32 → Mem → Int32 × Int32
  | 0, i7, u2, u3, M => (u2, u3)
  | n + 1, i7, u2, u3, M => (let v700_0 : Int32 := if (M.1 (a + 10 + 2 * i7) 1) = x1 then (if (2 : Int32) < (V_X5_seenX (a + 10 + 2 * i7) (M.1 (a + 10 + 2 * i7) 2) M) then u2 else (u2 + 1)) else u2; let v700_1 : Int32 := if (M.1 (a + 10 + 2 * i7) 1) = x1 then (if (2 : Int32) < (V_X5_seenX (a + 10 + 2 * i7) (M.1 (a + 10 + 2 * i7) 2) M) then u3 else (nI i7)) else u3; (F_X2_thinsCrowd_7 a x1 n (i7 + 1) v700_0 v700_1 M))
theorem L_X2_thinsCrowd_7 {sh : List SC} {Q : Po} {a : Nat} {x1 : Int32}    (hb1 : MatchAt sh a)   : ∀ (n i7 : Nat) (u2 : Int32) (u3 : Int32) (M : Mem), i7 + n = 10 → WP m_X2_thinsCrowd Q 67 [some (.ref a), some (.int x1), some (.int ((F_X2_thinsCrowd_7 a x1 n i7 u2 u3 M).1)), some (.int ((F_X2_thinsCrowd_7 a x1 n i7 u2 u3 M).2)), none] [] sh M 0 0 → WP m_X2_thinsCrowd Q 7 [some (.ref a), some (.int x1), some (.int u2), some (.int u3), some (.int (nI i7))] [] sh M 0 0 := by
  have k0 : kd sh a = some (2 + 7, 0) := hb1.1
  have k1 : rf sh a 3 = some (a + 3) := hb1.2.2.2.2.1
  have k2 : kd sh (a + 3) = some (6, 10) := hb1.2.2.2.2.2.2.2.1
  intro n
  induction n with
  | zero =>
    intro i7 u2 u3 M hi hq
    have hz : (10 : Int32) ≤ nI i7 := by
      have q : i7 = 10 := by omega
      rw [q]; exact nI_le (Nat.le_refl _) (by decide)
    refine r_iload e_X2_thinsCrowd_7 rfl ?_
    refine r_aload_n e_X2_thinsCrowd_9 rfl ?_
    refine r_getR e_X2_thinsCrowd_10 fl_X2_20 k0 k1 ?_
    refine r_alen (v := (10 : Int32)) e_X2_thinsCrowd_13 k2 (by decide) rfl ?_
    refine r_icmp_ge e_X2_thinsCrowd_14 (fun _ => ?_) (fun hh => absurd hz hh)
    refine d_5_4 ?_
    (simp only [F_X2_thinsCrowd_7] at hq; first | exact hq | (simp only []; exact hq))
  | succ n ih =>
    intro i7 u2 u3 M hi hq
    have hlt_i7 : i7 < 10 := by omega
    have hcl_i7 : (nI i7).toNatClampNeg = i7 := nI_clamp (by omega)
    have hs : ¬ (10 : Int32) ≤ nI i7 := nI_ge (b := 10) hlt_i7 (by decide)
    refine r_iload e_X2_thinsCrowd_7 rfl ?_
    refine r_aload_n e_X2_thinsCrowd_9 rfl ?_
    refine r_getR e_X2_thinsCrowd_10 fl_X2_20 k0 k1 ?_
    refine r_alen (v := (10 : Int32)) e_X2_thinsCrowd_13 k2 (by decide) rfl ?_
    refine r_icmp_ge e_X2_thinsCrowd_14 (fun hh => absurd hh hs) (fun _ => ?_)
    refine r_aload_n e_X2_thinsCrowd_17 rfl ?_
    refine r_getR e_X2_thinsCrowd_18 fl_X2_20 k0 k1 ?_
    refine r_iload e_X2_thinsCrowd_21 rfl ?_
    refine r_aaload (b := (a + 10 + 2 * i7)) e_X2_thinsCrowd_23 k2 ⟨by decide, by decide⟩ (vp_in_nI (Nat.lt_of_lt_of_le hlt_i7 (by decide)) (by decide)) (by rw [hcl_i7]; exact (hb1.2.2.2.2.2.2.2.2.1 i7 (Nat.lt_of_lt_of_le hlt_i7 (by decide))).1) ?_
    refine r_getI e_X2_thinsCrowd_24 fl_X2_207 i3 (show kd sh (a + 10 + 2 * i7) = some (5 + 7, 0) from (hb1.2.2.2.2.2.2.2.2.1 i7 (Nat.lt_of_lt_of_le hlt_i7 (by decide))).2.1) ?_
    refine r_iload_n e_X2_thinsCrowd_27 rfl ?_
    obtain ⟨v700_0, e_v700_0⟩ : ∃ z : Int32, z = (if (M.1 (a + 10 + 2 * i7) 1) = x1 then (if (2 : Int32) < (V_X5_seenX (a + 10 + 2 * i7) (M.1 (a + 10 + 2 * i7) 2) M) then u2 else (u2 + 1)) else u2) := ⟨_, rfl⟩
    obtain ⟨v700_1, e_v700_1⟩ : ∃ z : Int32, z = (if (M.1 (a + 10 + 2 * i7) 1) = x1 then (if (2 : Int32) < (V_X5_seenX (a + 10 + 2 * i7) (M.1 (a + 10 + 2 * i7) 2) M) then u3 else (nI i7)) else u3) := ⟨_, rfl⟩
    suffices j61_700 : WP m_X2_thinsCrowd Q 61 [some (.ref a), some (.int x1), some (.int v700_0), some (.int v700_1), some (.int (nI i7))] [] sh M 0 0 by
      refine r_icmp_ne e_X2_thinsCrowd_28 (fun h28_700 => ?_) (fun h28_700 => ?_)
      · (rw [show v700_0 = u2 from (e_v700_0.trans (if_neg h28_700)), show v700_1 = u3 from (e_v700_1.trans (if_neg h28_700))] at j61_700; exact j61_700)
      · refine r_aload_n e_X2_thinsCrowd_31 rfl ?_
        refine r_getR e_X2_thinsCrowd_32 fl_X2_20 k0 k1 ?_
        refine r_iload e_X2_thinsCrowd_35 rfl ?_
        refine r_aaload (b := (a + 10 + 2 * i7)) e_X2_thinsCrowd_37 k2 ⟨by decide, by decide⟩ (vp_in_nI (Nat.lt_of_lt_of_le hlt_i7 (by decide)) (by decide)) (by rw [hcl_i7]; exact (hb1.2.2.2.2.2.2.2.2.1 i7 (Nat.lt_of_lt_of_le hlt_i7 (by decide))).1) ?_
        refine r_aload_n e_X2_thinsCrowd_38 rfl ?_
        refine r_getR e_X2_thinsCrowd_39 fl_X2_20 k0 k1 ?_
        refine r_iload e_X2_thinsCrowd_42 rfl ?_
        refine r_aaload (b := (a + 10 + 2 * i7)) e_X2_thinsCrowd_44 k2 ⟨by decide, by decide⟩ (vp_in_nI (Nat.lt_of_lt_of_le hlt_i7 (by decide)) (by decide)) (by rw [hcl_i7]; exact (hb1.2.2.2.2.2.2.2.2.1 i7 (Nat.lt_of_lt_of_le hlt_i7 (by decide))).1) ?_
        refine r_getI e_X2_thinsCrowd_45 fl_X2_130 i0 (show kd sh (a + 10 + 2 * i7) = some (5 + 7, 0) from (hb1.2.2.2.2.2.2.2.2.1 i7 (Nat.lt_of_lt_of_le hlt_i7 (by decide))).2.1) ?_
        refine cV1v e_X2_thinsCrowd_48 cl_X2_185 ⟨Nat.le_of_ble_eq_true rfl, Nat.le_of_ble_eq_true rfl⟩ ⟨rfl, rfl⟩ (show kd sh (a + 10 + 2 * i7) = some (5 + 7, 0) from (hb1.2.2.2.2.2.2.2.2.1 i7 (Nat.lt_of_lt_of_le hlt_i7 (by decide))).2.1) (Nat.le_of_ble_eq_true rfl) (S_X5_seenX (hb1.2.2.2.2.2.2.2.2.1 i7 (Nat.lt_of_lt_of_le hlt_i7 (by decide))).2) ?_
        refine r_iconst e_X2_thinsCrowd_51 ic_2 ?_
        refine r_icmp_gt e_X2_thinsCrowd_52 (fun h52_701 => ?_) (fun h52_701 => ?_)
        · (rw [show v700_0 = u2 from ((e_v700_0.trans (if_pos h28_700)).trans (if_pos h52_701)), show v700_1 = u3 from ((e_v700_1.trans (if_pos h28_700)).trans (if_pos h52_701))] at j61_700; exact j61_700)
        · refine p_iinc_5_2 e_X2_thinsCrowd_55 rfl ic_1 rfl ?_
          refine r_iload e_X2_thinsCrowd_58 rfl ?_
          refine p_istore_n_5_3 e_X2_thinsCrowd_60 rfl rfl ?_
          (rw [show v700_0 = (u2 + 1) from ((e_v700_0.trans (if_pos h28_700)).trans (if_neg h52_701)), show v700_1 = (nI i7) from ((e_v700_1.trans (if_pos h28_700)).trans (if_neg h52_701))] at j61_700; exact j61_700)
    refine p_iinc_5_4 e_X2_thinsCrowd_61 rfl ic_1 rfl ?_
    rw [nI_1 i7]
    refine r_goto e_X2_thinsCrowd_64 ?_
    (subst e_v700_1 e_v700_0; simp only [F_X2_thinsCrowd_7] at hq; first | exact ih (i7 + 1) _ _ _ (by omega) hq | (simp only []; exact ih (i7 + 1) _ _ _ (by omega) hq))
def V_X2_thinsCrowd (a : Nat) (x1 : Int32) (M : Mem) : Int32 := if (4 : Int32) ≤ ((F_X2_thinsCrowd_7 a x1 10 0 (0 : Int32) (-1 : Int32) M).1) then (1 : Int32) else (0 : Int32)
theorem Z_X2_thinsCrowd {M : Mem} {a : Nat} {x1 : Int32}   : V_X2_thinsCrowd a x1 M = 0 ∨ V_X2_thinsCrowd a x1 M = 1 := (zi (Or.inr rfl) (Or.inl rfl))
def U_X2_thinsCrowd (a : Nat) (x1 : Int32) (M : Mem) : Mem := if (4 : Int32) ≤ ((F_X2_thinsCrowd_7 a x1 10 0 (0 : Int32) (-1 : Int32) M).1) then (U_X2_putAtStart a ((F_X2_thinsCrowd_7 a x1 10 0 (0 : Int32) (-1 : Int32) M).2) M) else M
theorem S_X2_thinsCrowd {sh : List SC} {M : Mem} {a : Nat} {x1 : Int32}  (hb1 : MatchAt sh a)  : Gv m_X2_thinsCrowd [.ref a, .int x1] sh M (.int (V_X2_thinsCrowd a x1 M)) (U_X2_thinsCrowd a x1 M) := by
  refine Sp.of (ls := [some (.ref a), some (.int x1), none, none, none]) (by decide +kernel) (Nat.le_of_ble_eq_true rfl) rfl ?_
  have k0 : kd sh a = some (2 + 7, 0) := hb1.1
  refine r_iconst e_X2_thinsCrowd_0 ic_0 ?_
  refine p_istore_n_5_2 e_X2_thinsCrowd_1 rfl rfl ?_
  refine r_iconst e_X2_thinsCrowd_2 ic_m1 ?_
  refine p_istore_n_5_3 e_X2_thinsCrowd_3 rfl rfl ?_
  refine r_iconst e_X2_thinsCrowd_4 ic_0 ?_
  refine p_istore_5_4 e_X2_thinsCrowd_5 rfl rfl ?_
  skip
  show WP m_X2_thinsCrowd _ 7 [some (.ref a), some (.int x1), some (.int (0 : Int32)), some (.int (-1 : Int32)), some (.int (nI 0))] [] sh M 0 0
  refine L_X2_thinsCrowd_7 hb1 10 0 (0 : Int32) (-1 : Int32) M (by omega) ?_
  refine r_iload_n e_X2_thinsCrowd_67 rfl ?_
  refine r_iconst e_X2_thinsCrowd_68 ic_4 ?_
  refine r_icmp_ge e_X2_thinsCrowd_69 (fun h69_0 => ?_) (fun h69_0 => ?_)
  · refine r_aload_n e_X2_thinsCrowd_74 rfl ?_
    refine r_iload_n e_X2_thinsCrowd_75 rfl ?_
    refine cV1u e_X2_thinsCrowd_76 cl_X2_101 ⟨Nat.le_of_ble_eq_true rfl, Nat.le_of_ble_eq_true rfl⟩ ⟨rfl, rfl⟩ k0 (Nat.le_of_ble_eq_true rfl) (S_X2_putAtStart hb1) ?_
    refine r_iconst e_X2_thinsCrowd_79 ic_1 ?_
    refine r_zreturn e_X2_thinsCrowd_80 rfl ⟨rfl, rfl⟩ (by first | exact Or.inl rfl | exact Or.inr rfl) ?_
    (refine ⟨?_, rfl, ?_⟩ <;> ((try unfold V_X2_thinsCrowd); (try unfold U_X2_thinsCrowd); (try simp only [if_pos h69_0]); (try rfl)))
  · refine r_iconst e_X2_thinsCrowd_72 ic_0 ?_
    refine r_zreturn e_X2_thinsCrowd_73 rfl ⟨rfl, rfl⟩ (by first | exact Or.inl rfl | exact Or.inr rfl) ?_
    (refine ⟨?_, rfl, ?_⟩ <;> ((try unfold V_X2_thinsCrowd); (try unfold U_X2_thinsCrowd); (try simp only [if_neg h69_0]); (try rfl)))
def V_X10_keep (x1 : Int32) (M : Mem) : Int32 := if (V_X10_isPlace x1 M) = 0 then (V_X10_finding (-1001 : Int32) M) else (if (M.1 122 6) = 0 then (V_X10_finding (-1003 : Int32) M) else (1 : Int32))
def U_X10_keep (x1 : Int32) (M : Mem) : Mem := if (V_X10_isPlace x1 M) = 0 then (U_X10_finding (-1001 : Int32) M) else (if (M.1 122 6) = 0 then (U_X10_finding (-1003 : Int32) M) else (U_X2_copy (182 + 30 * x1.toNatClampNeg) 122 M))
def P_X10_keep (x1 : Int32) (M : Mem) : Prop := (¬ ((V_X10_isPlace x1 M) = 0) → ¬ ((M.1 122 6) = 0) → vp_in x1 2) ∧ (¬ ((V_X10_isPlace x1 M) = 0) → ¬ ((M.1 122 6) = 0) → P_X2_copy (182 + 30 * x1.toNatClampNeg) 122 M)
theorem S_X10_keep {sh : List SC} {M : Mem} {x1 : Int32}  (hb1 : PitchAt sh) (g2 : (M.1 122 6) = 0 ∨ (M.1 122 6) = 1) (hP : P_X10_keep x1 M) : Gv m_X10_keep [.ref 0, .int x1] sh M (.int (V_X10_keep x1 M)) (U_X10_keep x1 M) := by
  refine Sp.of (ls := [some (.ref 0), some (.int x1)]) (by decide +kernel) (Nat.le_of_ble_eq_true rfl) rfl ?_
  obtain ⟨g1, g3⟩ := hP
  have k0 : kd sh 0 = some (9 + 7, 0) := hb1.1
  have k1 : rf sh 0 4 = some 122 := hb1.2.2.2.2.2.1
  have k2 : kd sh 122 = some (2 + 7, 0) := hb1.2.2.2.2.2.2.2.2.2.2.2.2.2.2.2.2.1.1
  have k3 : rf sh 0 6 = some 10 := hb1.2.2.2.2.2.2.2.1
  have k4 : kd sh 10 = some (5, 2) := hb1.2.2.2.2.2.2.2.2.2.2.2.2.1
  refine r_iload_n e_X10_keep_0 rfl ?_
  refine cS1v e_X10_keep_1 cl_X10_154 ⟨Nat.le_of_ble_eq_true rfl, Nat.le_of_ble_eq_true rfl⟩ ⟨rfl, rfl⟩  (Nat.le_of_ble_eq_true rfl) (S_X10_isPlace ) ?_
  refine r_if_ne e_X10_keep_4 (fun h4_0 => ?_) (fun h4_0 => ?_)
  · refine r_aload_n e_X10_keep_15 rfl ?_
    refine r_getR e_X10_keep_16 fl_X10_63 k0 k1 ?_
    refine r_getI e_X10_keep_19 fl_X10_115 i3 k2 ?_
    refine r_if_ne e_X10_keep_22 (fun h22_1 => ?_) (fun h22_1 => ?_)
    · refine r_aload_n e_X10_keep_33 rfl ?_
      refine r_getR e_X10_keep_34 fl_X10_34 k0 k3 ?_
      refine r_iload_n e_X10_keep_37 rfl ?_
      refine r_aaload (b := (182 + 30 * x1.toNatClampNeg)) e_X10_keep_38 k4 ⟨by decide, by decide⟩ (g1 h4_0 h22_1) (hb1.2.2.2.2.2.2.2.2.2.2.2.2.2.1 x1.toNatClampNeg (vp_lt (g1 h4_0 h22_1))).1 ?_
      refine r_aload_n e_X10_keep_39 rfl ?_
      refine r_getR e_X10_keep_40 fl_X10_63 k0 k1 ?_
      refine cV1u e_X10_keep_43 cl_X10_157 ⟨Nat.le_of_ble_eq_true rfl, Nat.le_of_ble_eq_true rfl⟩ ⟨rfl, rfl⟩ (show kd sh (182 + 30 * x1.toNatClampNeg) = some (2 + 7, 0) from (hb1.2.2.2.2.2.2.2.2.2.2.2.2.2.1 x1.toNatClampNeg (vp_lt (g1 h4_0 h22_1))).2.1) (Nat.le_of_ble_eq_true rfl) (S_X2_copy (hb1.2.2.2.2.2.2.2.2.2.2.2.2.2.1 x1.toNatClampNeg (vp_lt (g1 h4_0 h22_1))).2 hb1.2.2.2.2.2.2.2.2.2.2.2.2.2.2.2.2.1 g2 (g3 h4_0 h22_1)) ?_
      refine r_iconst e_X10_keep_46 ic_1 ?_
      refine r_ireturn e_X10_keep_47 rfl ⟨rfl, rfl⟩ ?_
      (refine ⟨?_, rfl, ?_⟩ <;> ((try unfold V_X10_keep); (try unfold U_X10_keep); (try simp only [if_neg h4_0, if_neg h22_1]); (try rfl)))
    · refine r_aload_n e_X10_keep_25 rfl ?_
      refine r_sipush e_X10_keep_26 sp_m1003 ?_
      refine cV1v e_X10_keep_29 cl_X10_70 ⟨Nat.le_of_ble_eq_true rfl, Nat.le_of_ble_eq_true rfl⟩ ⟨rfl, rfl⟩ k0 (Nat.le_of_ble_eq_true rfl) (S_X10_finding hb1) ?_
      refine r_ireturn e_X10_keep_32 rfl ⟨rfl, rfl⟩ ?_
      (refine ⟨?_, rfl, ?_⟩ <;> ((try unfold V_X10_keep); (try unfold U_X10_keep); (try simp only [if_neg h4_0, if_pos h22_1]); (try rfl)))
  · refine r_aload_n e_X10_keep_7 rfl ?_
    refine r_sipush e_X10_keep_8 sp_m1001 ?_
    refine cV1v e_X10_keep_11 cl_X10_70 ⟨Nat.le_of_ble_eq_true rfl, Nat.le_of_ble_eq_true rfl⟩ ⟨rfl, rfl⟩ k0 (Nat.le_of_ble_eq_true rfl) (S_X10_finding hb1) ?_
    refine r_ireturn e_X10_keep_14 rfl ⟨rfl, rfl⟩ ?_
    (refine ⟨?_, rfl, ?_⟩ <;> ((try unfold V_X10_keep); (try unfold U_X10_keep); (try simp only [if_pos h4_0]); (try rfl)))
def V_X10_order (x1 : Int32) (M : Mem) : Int32 := if 0 ≤ x1 then (let v1_0 : Int32 := if 0 ≤ (V_X1_teamAt 11 x1 M) then (V_X1_teamAt 11 x1 M) else (V_X10_finding (-1004 : Int32) M); let M1_1 : Mem := if 0 ≤ (V_X1_teamAt 11 x1 M) then M else (U_X10_finding (-1004 : Int32) M); v1_0) else (V_X10_finding (-1001 : Int32) M)
def U_X10_order (x1 : Int32) (M : Mem) : Mem := if 0 ≤ x1 then (let v1_0 : Int32 := if 0 ≤ (V_X1_teamAt 11 x1 M) then (V_X1_teamAt 11 x1 M) else (V_X10_finding (-1004 : Int32) M); let M1_1 : Mem := if 0 ≤ (V_X1_teamAt 11 x1 M) then M else (U_X10_finding (-1004 : Int32) M); M1_1) else (U_X10_finding (-1001 : Int32) M)
theorem S_X10_order {sh : List SC} {M : Mem} {x1 : Int32}  (hb1 : PitchAt sh)  : Gv m_X10_order [.ref 0, .int x1] sh M (.int (V_X10_order x1 M)) (U_X10_order x1 M) := by
  refine Sp.of (ls := [some (.ref 0), some (.int x1), none]) (by decide +kernel) (Nat.le_of_ble_eq_true rfl) rfl ?_
  have k0 : kd sh 0 = some (9 + 7, 0) := hb1.1
  have k1 : rf sh 0 7 = some 11 := hb1.2.2.2.2.2.2.2.2.1
  have k2 : kd sh 11 = some (1 + 7, 0) := hb1.2.2.2.2.2.2.2.2.2.2.2.2.2.2.2.1.1
  refine r_iload_n e_X10_order_0 rfl ?_
  refine r_if_ge e_X10_order_1 (fun h1_0 => ?_) (fun h1_0 => ?_)
  · refine r_aload_n e_X10_order_12 rfl ?_
    refine r_getR e_X10_order_13 fl_X10_41 k0 k1 ?_
    refine r_iload_n e_X10_order_16 rfl ?_
    refine cV1v e_X10_order_17 cl_X10_189 ⟨Nat.le_of_ble_eq_true rfl, Nat.le_of_ble_eq_true rfl⟩ ⟨rfl, rfl⟩ k2 (Nat.le_of_ble_eq_true rfl) (S_X1_teamAt hb1.2.2.2.2.2.2.2.2.2.2.2.2.2.2.2.1) ?_
    refine p_istore_n_3_2 e_X10_order_20 rfl rfl ?_
    refine r_iload_n e_X10_order_21 rfl ?_
    obtain ⟨v1_0, e_v1_0⟩ : ∃ z : Int32, z = (if 0 ≤ (V_X1_teamAt 11 x1 M) then (V_X1_teamAt 11 x1 M) else (V_X10_finding (-1004 : Int32) M)) := ⟨_, rfl⟩
    obtain ⟨M1_1, e_M1_1⟩ : ∃ z : Mem, z = (if 0 ≤ (V_X1_teamAt 11 x1 M) then M else (U_X10_finding (-1004 : Int32) M)) := ⟨_, rfl⟩
    suffices j36_1 : WP m_X10_order (fun r sh' M'' => r = some (.int (V_X10_order x1 M)) ∧ sh' = sh ∧ M'' = (U_X10_order x1 M)) 36 [some (.ref 0), some (.int x1), some (.int (V_X1_teamAt 11 x1 M))] [.int v1_0] sh M1_1 0 0 by
      refine r_if_ge e_X10_order_22 (fun h22_1 => ?_) (fun h22_1 => ?_)
      · refine r_iload_n e_X10_order_35 rfl ?_
        (rw [show v1_0 = (V_X1_teamAt 11 x1 M) from (e_v1_0.trans (if_pos h22_1)), show M1_1 = M from (e_M1_1.trans (if_pos h22_1))] at j36_1; exact j36_1)
      · refine r_aload_n e_X10_order_25 rfl ?_
        refine r_sipush e_X10_order_26 sp_m1004 ?_
        refine cV1v e_X10_order_29 cl_X10_70 ⟨Nat.le_of_ble_eq_true rfl, Nat.le_of_ble_eq_true rfl⟩ ⟨rfl, rfl⟩ k0 (Nat.le_of_ble_eq_true rfl) (S_X10_finding hb1) ?_
        refine r_goto e_X10_order_32 ?_
        (rw [show v1_0 = (V_X10_finding (-1004 : Int32) M) from (e_v1_0.trans (if_neg h22_1)), show M1_1 = U_X10_finding (-1004 : Int32) M from (e_M1_1.trans (if_neg h22_1))] at j36_1; exact j36_1)
    refine r_ireturn e_X10_order_36 rfl ⟨rfl, rfl⟩ ?_
    (subst e_M1_1 e_v1_0; refine ⟨?_, rfl, ?_⟩ <;> ((try unfold V_X10_order); (try unfold U_X10_order); (try simp only [if_pos h1_0]); (try rfl)))
  · refine r_aload_n e_X10_order_4 rfl ?_
    refine r_sipush e_X10_order_5 sp_m1001 ?_
    refine cV1v e_X10_order_8 cl_X10_70 ⟨Nat.le_of_ble_eq_true rfl, Nat.le_of_ble_eq_true rfl⟩ ⟨rfl, rfl⟩ k0 (Nat.le_of_ble_eq_true rfl) (S_X10_finding hb1) ?_
    refine r_ireturn e_X10_order_11 rfl ⟨rfl, rfl⟩ ?_
    (refine ⟨?_, rfl, ?_⟩ <;> ((try unfold V_X10_order); (try unfold U_X10_order); (try simp only [if_neg h1_0]); (try rfl)))
def F_X11_word_0 : Nat → Mem → Mem
  | 0, M => M
  | n + 1, M => if (V_X11_at (M.1 242 4) M) = (32 : Int32) then (F_X11_word_0  n (setI M 242 4 ((M.1 242 4) + (1 : Int32)))) else (if (V_X11_at (M.1 242 4) M) = (10 : Int32) then (F_X11_word_0  n (setI M 242 4 ((M.1 242 4) + (1 : Int32)))) else M)
def T_X11_word_0 : Nat → Mem → Prop
  | 0, M => False
  | n + 1, M => (P_X11_at (M.1 242 4) M) ∧ (if (V_X11_at (M.1 242 4) M) = (32 : Int32) then (T_X11_word_0  n (setI M 242 4 ((M.1 242 4) + (1 : Int32)))) else (if (V_X11_at (M.1 242 4) M) = (10 : Int32) then (T_X11_word_0  n (setI M 242 4 ((M.1 242 4) + (1 : Int32)))) else True))
theorem L_X11_word_0 {sh : List SC} {Q : Po}  {mA : Nat} {oA : Nat}   (hb1 : ModelAt sh mA oA)   : ∀ (n : Nat) (M : Mem), T_X11_word_0  n M → WP m_X11_word Q 39 [some (.ref 242), none] [] sh (F_X11_word_0  n M) 0 0 → WP m_X11_word Q 0 [some (.ref 242), none] [] sh M 0 0 := by
  have k0 : kd sh 242 = some (10 + 7, 0) := hb1.1
  intro n
  induction n with
  | zero =>
    intro M hH hq
    exact hH.elim
  | succ n ih =>
    intro M hH hq
    unfold T_X11_word_0 at hH
    obtain ⟨g1, hH⟩ := hH
    refine r_aload_n e_X11_word_0 rfl ?_
    refine r_aload_n e_X11_word_1 rfl ?_
    refine r_getI e_X11_word_2 fl_X11_11 i0 k0 ?_
    refine cV1v e_X11_word_5 cl_X11_14 ⟨Nat.le_of_ble_eq_true rfl, Nat.le_of_ble_eq_true rfl⟩ ⟨rfl, rfl⟩ k0 (Nat.le_of_ble_eq_true rfl) (S_X11_at hb1 g1) ?_
    refine r_bipush e_X11_word_8 bp_32 ?_
    refine r_icmp_eq e_X11_word_10 (fun h10_0 => ?_) (fun h10_0 => ?_)
    · refine r_aload_n e_X11_word_26 rfl ?_
      refine r_dup e_X11_word_27 rfl ?_
      refine r_getI e_X11_word_28 fl_X11_11 i0 k0 ?_
      refine r_iconst e_X11_word_31 ic_1 ?_
      refine r_iadd e_X11_word_32 ?_
      refine r_putI e_X11_word_33 fl_X11_11 k0 ?_
      refine r_goto e_X11_word_36 ?_
      (simp only [F_X11_word_0, if_pos h10_0] at hq; (try simp only [if_pos h10_0] at hH); first | exact ih _ hH hq | (simp only [if_pos h10_0]; exact ih _ hH hq))
    · refine r_aload_n e_X11_word_13 rfl ?_
      refine r_aload_n e_X11_word_14 rfl ?_
      refine r_getI e_X11_word_15 fl_X11_11 i0 k0 ?_
      refine cV1v e_X11_word_18 cl_X11_14 ⟨Nat.le_of_ble_eq_true rfl, Nat.le_of_ble_eq_true rfl⟩ ⟨rfl, rfl⟩ k0 (Nat.le_of_ble_eq_true rfl) (S_X11_at hb1 g1) ?_
      refine r_bipush e_X11_word_21 bp_10 ?_
      refine r_icmp_ne e_X11_word_23 (fun h23_1 => ?_) (fun h23_1 => ?_)
      · (simp only [F_X11_word_0, if_neg h10_0, if_neg h23_1] at hq; first | exact hq | (simp only [if_neg h10_0, if_neg h23_1]; exact hq))
      · refine r_aload_n e_X11_word_26 rfl ?_
        refine r_dup e_X11_word_27 rfl ?_
        refine r_getI e_X11_word_28 fl_X11_11 i0 k0 ?_
        refine r_iconst e_X11_word_31 ic_1 ?_
        refine r_iadd e_X11_word_32 ?_
        refine r_putI e_X11_word_33 fl_X11_11 k0 ?_
        refine r_goto e_X11_word_36 ?_
        (simp only [F_X11_word_0, if_neg h10_0, if_pos h23_1] at hq; (try simp only [if_neg h10_0, if_pos h23_1] at hH); first | exact ih _ hH hq | (simp only [if_neg h10_0, if_pos h23_1]; exact ih _ hH hq))
def U_X11_word (M : Mem) : Mem := (let M0_0 : Mem := if 0 ≤ (V_X11_at ((F_X11_word_0  FUEL M).1 242 4) (setI (F_X11_word_0  FUEL M) 242 3 ((F_X11_word_0  FUEL M).1 242 4))) then (if (V_X11_isLetter (V_X11_at ((F_X11_word_0  FUEL M).1 242 4) (setI (F_X11_word_0  FUEL M) 242 3 ((F_X11_word_0  FUEL M).1 242 4))) (setJ (setI (setI (F_X11_word_0  FUEL M) 242 3 ((F_X11_word_0  FUEL M).1 242 4)) 242 6 (0 : Int32)) 242 7 (0 : Int64))) = 0 then (if (V_X11_isFigure (V_X11_at ((F_X11_word_0  FUEL M).1 242 4) (setI (F_X11_word_0  FUEL M) 242 3 ((F_X11_word_0  FUEL M).1 242 4))) (setJ (setI (setI (F_X11_word_0  FUEL M) 242 3 ((F_X11_word_0  FUEL M).1 242 4)) 242 6 (0 : Int32)) 242 7 (0 : Int64))) = 0 then (if (V_X11_isSign (V_X11_at ((F_X11_word_0  FUEL M).1 242 4) (setI (F_X11_word_0  FUEL M) 242 3 ((F_X11_word_0  FUEL M).1 242 4))) (setJ (setI (setI (F_X11_word_0  FUEL M) 242 3 ((F_X11_word_0  FUEL M).1 242 4)) 242 6 (0 : Int32)) 242 7 (0 : Int64))) = 0 then (setI (setJ (setI (setI (F_X11_word_0  FUEL M) 242 3 ((F_X11_word_0  FUEL M).1 242 4)) 242 6 (0 : Int32)) 242 7 (0 : Int64)) 242 5 (6 : Int32)) else (setI (setI (setJ (setI (setI (F_X11_word_0  FUEL M) 242 3 ((F_X11_word_0  FUEL M).1 242 4)) 242 6 (0 : Int32)) 242 7 (0 : Int64)) 242 5 (V_X11_at ((F_X11_word_0  FUEL M).1 242 4) (setI (F_X11_word_0  FUEL M) 242 3 ((F_X11_word_0  FUEL M).1 242 4)))) 242 4 (((F_X11_word_0  FUEL M).1 242 4) + (1 : Int32)))) else (U_X11_figures  (setJ (setI (setI (F_X11_word_0  FUEL M) 242 3 ((F_X11_word_0  FUEL M).1 242 4)) 242 6 (0 : Int32)) 242 7 (0 : Int64)))) else (U_X11_letters  (setJ (setI (setI (F_X11_word_0  FUEL M) 242 3 ((F_X11_word_0  FUEL M).1 242 4)) 242 6 (0 : Int32)) 242 7 (0 : Int64)))) else (setI (setJ (setI (setI (F_X11_word_0  FUEL M) 242 3 ((F_X11_word_0  FUEL M).1 242 4)) 242 6 (0 : Int32)) 242 7 (0 : Int64)) 242 5 (0 : Int32)); M0_0)
def P_X11_word (M : Mem) : Prop := (T_X11_word_0  FUEL M) ∧ (P_X11_at ((F_X11_word_0  FUEL M).1 242 4) (setI (F_X11_word_0  FUEL M) 242 3 ((F_X11_word_0  FUEL M).1 242 4))) ∧ (0 ≤ (V_X11_at ((F_X11_word_0  FUEL M).1 242 4) (setI (F_X11_word_0  FUEL M) 242 3 ((F_X11_word_0  FUEL M).1 242 4))) → (V_X11_isLetter (V_X11_at ((F_X11_word_0  FUEL M).1 242 4) (setI (F_X11_word_0  FUEL M) 242 3 ((F_X11_word_0  FUEL M).1 242 4))) (setJ (setI (setI (F_X11_word_0  FUEL M) 242 3 ((F_X11_word_0  FUEL M).1 242 4)) 242 6 (0 : Int32)) 242 7 (0 : Int64))) = 0 → ¬ ((V_X11_isFigure (V_X11_at ((F_X11_word_0  FUEL M).1 242 4) (setI (F_X11_word_0  FUEL M) 242 3 ((F_X11_word_0  FUEL M).1 242 4))) (setJ (setI (setI (F_X11_word_0  FUEL M) 242 3 ((F_X11_word_0  FUEL M).1 242 4)) 242 6 (0 : Int32)) 242 7 (0 : Int64))) = 0) → P_X11_figures  (setJ (setI (setI (F_X11_word_0  FUEL M) 242 3 ((F_X11_word_0  FUEL M).1 242 4)) 242 6 (0 : Int32)) 242 7 (0 : Int64))) ∧ (0 ≤ (V_X11_at ((F_X11_word_0  FUEL M).1 242 4) (setI (F_X11_word_0  FUEL M) 242 3 ((F_X11_word_0  FUEL M).1 242 4))) → ¬ ((V_X11_isLetter (V_X11_at ((F_X11_word_0  FUEL M).1 242 4) (setI (F_X11_word_0  FUEL M) 242 3 ((F_X11_word_0  FUEL M).1 242 4))) (setJ (setI (setI (F_X11_word_0  FUEL M) 242 3 ((F_X11_word_0  FUEL M).1 242 4)) 242 6 (0 : Int32)) 242 7 (0 : Int64))) = 0) → P_X11_letters  (setJ (setI (setI (F_X11_word_0  FUEL M) 242 3 ((F_X11_word_0  FUEL M).1 242 4)) 242 6 (0 : Int32)) 242 7 (0 : Int64)))
theorem S_X11_word {sh : List SC} {M : Mem}  {mA : Nat} {oA : Nat} (hb1 : ModelAt sh mA oA)  (hP : P_X11_word  M) : Gu m_X11_word [.ref 242] sh M (U_X11_word  M) := by
  refine Sp.of (ls := [some (.ref 242), none]) (by decide +kernel) (Nat.le_of_ble_eq_true rfl) rfl ?_
  obtain ⟨g1, g2, g3, g4⟩ := hP
  have k0 : kd sh 242 = some (10 + 7, 0) := hb1.1
  refine L_X11_word_0 hb1 FUEL  M g1 ?_
  refine r_aload_n e_X11_word_39 rfl ?_
  refine r_aload_n e_X11_word_40 rfl ?_
  refine r_getI e_X11_word_41 fl_X11_11 i0 k0 ?_
  refine r_putI e_X11_word_44 fl_X11_18 k0 ?_
  refine r_aload_n e_X11_word_47 rfl ?_
  refine r_aload_n e_X11_word_48 rfl ?_
  refine r_getIe e_X11_word_49 fl_X11_11 i0 k0 (gs_nI (by decide)) ?_
  refine cV1v e_X11_word_52 cl_X11_14 ⟨Nat.le_of_ble_eq_true rfl, Nat.le_of_ble_eq_true rfl⟩ ⟨rfl, rfl⟩ k0 (Nat.le_of_ble_eq_true rfl) (S_X11_at hb1 g2) ?_
  refine p_istore_n_2_1 e_X11_word_55 rfl rfl ?_
  refine r_aload_n e_X11_word_56 rfl ?_
  refine r_iconst e_X11_word_57 ic_0 ?_
  refine r_putI e_X11_word_58 fl_X11_21 k0 ?_
  refine r_aload_n e_X11_word_61 rfl ?_
  refine r_lconst e_X11_word_62 lk_0 ?_
  refine r_putJ e_X11_word_63 fl_X11_24 k0 ?_
  refine r_iload_n e_X11_word_66 rfl ?_
  obtain ⟨M0_0, e_M0_0⟩ : ∃ z : Mem, z = (if 0 ≤ (V_X11_at ((F_X11_word_0  FUEL M).1 242 4) (setI (F_X11_word_0  FUEL M) 242 3 ((F_X11_word_0  FUEL M).1 242 4))) then (if (V_X11_isLetter (V_X11_at ((F_X11_word_0  FUEL M).1 242 4) (setI (F_X11_word_0  FUEL M) 242 3 ((F_X11_word_0  FUEL M).1 242 4))) (setJ (setI (setI (F_X11_word_0  FUEL M) 242 3 ((F_X11_word_0  FUEL M).1 242 4)) 242 6 (0 : Int32)) 242 7 (0 : Int64))) = 0 then (if (V_X11_isFigure (V_X11_at ((F_X11_word_0  FUEL M).1 242 4) (setI (F_X11_word_0  FUEL M) 242 3 ((F_X11_word_0  FUEL M).1 242 4))) (setJ (setI (setI (F_X11_word_0  FUEL M) 242 3 ((F_X11_word_0  FUEL M).1 242 4)) 242 6 (0 : Int32)) 242 7 (0 : Int64))) = 0 then (if (V_X11_isSign (V_X11_at ((F_X11_word_0  FUEL M).1 242 4) (setI (F_X11_word_0  FUEL M) 242 3 ((F_X11_word_0  FUEL M).1 242 4))) (setJ (setI (setI (F_X11_word_0  FUEL M) 242 3 ((F_X11_word_0  FUEL M).1 242 4)) 242 6 (0 : Int32)) 242 7 (0 : Int64))) = 0 then (setI (setJ (setI (setI (F_X11_word_0  FUEL M) 242 3 ((F_X11_word_0  FUEL M).1 242 4)) 242 6 (0 : Int32)) 242 7 (0 : Int64)) 242 5 (6 : Int32)) else (setI (setI (setJ (setI (setI (F_X11_word_0  FUEL M) 242 3 ((F_X11_word_0  FUEL M).1 242 4)) 242 6 (0 : Int32)) 242 7 (0 : Int64)) 242 5 (V_X11_at ((F_X11_word_0  FUEL M).1 242 4) (setI (F_X11_word_0  FUEL M) 242 3 ((F_X11_word_0  FUEL M).1 242 4)))) 242 4 (((F_X11_word_0  FUEL M).1 242 4) + (1 : Int32)))) else (U_X11_figures  (setJ (setI (setI (F_X11_word_0  FUEL M) 242 3 ((F_X11_word_0  FUEL M).1 242 4)) 242 6 (0 : Int32)) 242 7 (0 : Int64)))) else (U_X11_letters  (setJ (setI (setI (F_X11_word_0  FUEL M) 242 3 ((F_X11_word_0  FUEL M).1 242 4)) 242 6 (0 : Int32)) 242 7 (0 : Int64)))) else (setI (setJ (setI (setI (F_X11_word_0  FUEL M) 242 3 ((F_X11_word_0  FUEL M).1 242 4)) 242 6 (0 : Int32)) 242 7 (0 : Int64)) 242 5 (0 : Int32))) := ⟨_, rfl⟩
  suffices j137_0 : WP m_X11_word (fun r sh' M'' => r = none ∧ sh' = sh ∧ M'' = (U_X11_word  M)) 137 [some (.ref 242), some (.int (V_X11_at ((F_X11_word_0  FUEL M).1 242 4) (setI (F_X11_word_0  FUEL M) 242 3 ((F_X11_word_0  FUEL M).1 242 4))))] [] sh M0_0 0 0 by
    refine r_if_ge e_X11_word_67 (fun h67_0 => ?_) (fun h67_0 => ?_)
    · refine r_iload_n e_X11_word_78 rfl ?_
      refine cS1v e_X11_word_79 cl_X11_31 ⟨Nat.le_of_ble_eq_true rfl, Nat.le_of_ble_eq_true rfl⟩ ⟨rfl, rfl⟩  (Nat.le_of_ble_eq_true rfl) (S_X11_isLetter ) ?_
      refine r_if_eq e_X11_word_82 (fun h82_1 => ?_) (fun h82_1 => ?_)
      · refine r_iload_n e_X11_word_92 rfl ?_
        refine cS1v e_X11_word_93 cl_X11_39 ⟨Nat.le_of_ble_eq_true rfl, Nat.le_of_ble_eq_true rfl⟩ ⟨rfl, rfl⟩  (Nat.le_of_ble_eq_true rfl) (S_X11_isFigure ) ?_
        refine r_if_eq e_X11_word_96 (fun h96_2 => ?_) (fun h96_2 => ?_)
        · refine r_iload_n e_X11_word_106 rfl ?_
          refine cS1v e_X11_word_107 cl_X11_45 ⟨Nat.le_of_ble_eq_true rfl, Nat.le_of_ble_eq_true rfl⟩ ⟨rfl, rfl⟩  (Nat.le_of_ble_eq_true rfl) (S_X11_isSign ) ?_
          refine r_if_eq e_X11_word_110 (fun h110_3 => ?_) (fun h110_3 => ?_)
          · refine r_aload_n e_X11_word_131 rfl ?_
            refine r_bipush e_X11_word_132 bp_6 ?_
            refine r_putI e_X11_word_134 fl_X11_28 k0 ?_
            (rw [show M0_0 = setI (setJ (setI (setI (F_X11_word_0  FUEL M) 242 3 ((F_X11_word_0  FUEL M).1 242 4)) 242 6 (0 : Int32)) 242 7 (0 : Int64)) 242 5 (6 : Int32) from ((((e_M0_0.trans (if_pos h67_0)).trans (if_pos h82_1)).trans (if_pos h96_2)).trans (if_pos h110_3))] at j137_0; exact j137_0)
          · refine r_aload_n e_X11_word_113 rfl ?_
            refine r_iload_n e_X11_word_114 rfl ?_
            refine r_putI e_X11_word_115 fl_X11_28 k0 ?_
            refine r_aload_n e_X11_word_118 rfl ?_
            refine r_dup e_X11_word_119 rfl ?_
            refine r_getIe e_X11_word_120 fl_X11_11 i0 k0 ((gs_nI (by decide)).trans (gs_k.trans ((gs_nI (by decide)).trans (gs_nI (by decide))))) ?_
            refine r_iconst e_X11_word_123 ic_1 ?_
            refine r_iadd e_X11_word_124 ?_
            refine r_putI e_X11_word_125 fl_X11_11 k0 ?_
            refine r_goto e_X11_word_128 ?_
            (rw [show M0_0 = setI (setI (setJ (setI (setI (F_X11_word_0  FUEL M) 242 3 ((F_X11_word_0  FUEL M).1 242 4)) 242 6 (0 : Int32)) 242 7 (0 : Int64)) 242 5 (V_X11_at ((F_X11_word_0  FUEL M).1 242 4) (setI (F_X11_word_0  FUEL M) 242 3 ((F_X11_word_0  FUEL M).1 242 4)))) 242 4 (((F_X11_word_0  FUEL M).1 242 4) + (1 : Int32)) from ((((e_M0_0.trans (if_pos h67_0)).trans (if_pos h82_1)).trans (if_pos h96_2)).trans (if_neg h110_3))] at j137_0; exact j137_0)
        · refine r_aload_n e_X11_word_99 rfl ?_
          refine cV0u e_X11_word_100 cl_X11_42 ⟨Nat.le_of_ble_eq_true rfl, Nat.le_of_ble_eq_true rfl⟩ ⟨rfl, rfl⟩ k0 (Nat.le_of_ble_eq_true rfl) (S_X11_figures hb1 (g3 h67_0 h82_1 h96_2)) ?_
          refine r_goto e_X11_word_103 ?_
          (rw [show M0_0 = U_X11_figures  (setJ (setI (setI (F_X11_word_0  FUEL M) 242 3 ((F_X11_word_0  FUEL M).1 242 4)) 242 6 (0 : Int32)) 242 7 (0 : Int64)) from (((e_M0_0.trans (if_pos h67_0)).trans (if_pos h82_1)).trans (if_neg h96_2))] at j137_0; exact j137_0)
      · refine r_aload_n e_X11_word_85 rfl ?_
        refine cV0u e_X11_word_86 cl_X11_35 ⟨Nat.le_of_ble_eq_true rfl, Nat.le_of_ble_eq_true rfl⟩ ⟨rfl, rfl⟩ k0 (Nat.le_of_ble_eq_true rfl) (S_X11_letters hb1 (g4 h67_0 h82_1)) ?_
        refine r_goto e_X11_word_89 ?_
        (rw [show M0_0 = U_X11_letters  (setJ (setI (setI (F_X11_word_0  FUEL M) 242 3 ((F_X11_word_0  FUEL M).1 242 4)) 242 6 (0 : Int32)) 242 7 (0 : Int64)) from ((e_M0_0.trans (if_pos h67_0)).trans (if_neg h82_1))] at j137_0; exact j137_0)
    · refine r_aload_n e_X11_word_70 rfl ?_
      refine r_iconst e_X11_word_71 ic_0 ?_
      refine r_putI e_X11_word_72 fl_X11_28 k0 ?_
      refine r_goto e_X11_word_75 ?_
      (rw [show M0_0 = setI (setJ (setI (setI (F_X11_word_0  FUEL M) 242 3 ((F_X11_word_0  FUEL M).1 242 4)) 242 6 (0 : Int32)) 242 7 (0 : Int64)) 242 5 (0 : Int32) from (e_M0_0.trans (if_neg h67_0))] at j137_0; exact j137_0)
  refine r_return e_X11_word_137 rfl ⟨rfl, rfl⟩ ?_
  (subst e_M0_0; refine ⟨?_, rfl, ?_⟩ <;> ((try unfold U_X11_word); (try simp only []); (try rfl)))
def V_X11_keepWord (M : Mem) : Int32 := (let Mc1 : Mem := U_X11_word  (setI (setI (setI M 244 (((800 : Int32) * (M.1 242 8)) + (M.1 242 11)).toNatClampNeg (M.1 242 5)) 245 (((800 : Int32) * (M.1 242 8)) + (M.1 242 11)).toNatClampNeg (M.1 242 6)) 242 11 ((M.1 242 11) + (1 : Int32))); (1 : Int32))
theorem Z_X11_keepWord {M : Mem}    : V_X11_keepWord  M = 0 ∨ V_X11_keepWord  M = 1 := (Or.inr rfl)
def U_X11_keepWord (M : Mem) : Mem := (let Mc1 : Mem := U_X11_word  (setI (setI (setI M 244 (((800 : Int32) * (M.1 242 8)) + (M.1 242 11)).toNatClampNeg (M.1 242 5)) 245 (((800 : Int32) * (M.1 242 8)) + (M.1 242 11)).toNatClampNeg (M.1 242 6)) 242 11 ((M.1 242 11) + (1 : Int32))); Mc1)
def P_X11_keepWord (M : Mem) : Prop := (P_X11_word  (setI (setI (setI M 244 (((800 : Int32) * (M.1 242 8)) + (M.1 242 11)).toNatClampNeg (M.1 242 5)) 245 (((800 : Int32) * (M.1 242 8)) + (M.1 242 11)).toNatClampNeg (M.1 242 6)) 242 11 ((M.1 242 11) + (1 : Int32))))
theorem S_X11_keepWord {sh : List SC} {M : Mem}  {mA : Nat} {oA : Nat} (hb1 : ModelAt sh mA oA) (g1 : vp_in (((800 : Int32) * (M.1 242 8)) + (M.1 242 11)) 4800) (hP : P_X11_keepWord  M) : Gv m_X11_keepWord [.ref 242] sh M (.int (V_X11_keepWord  M)) (U_X11_keepWord  M) := by
  refine Sp.of (ls := [some (.ref 242)]) (by decide +kernel) (Nat.le_of_ble_eq_true rfl) rfl ?_
  have g2 : P_X11_word  (setI (setI (setI M 244 (((800 : Int32) * (M.1 242 8)) + (M.1 242 11)).toNatClampNeg (M.1 242 5)) 245 (((800 : Int32) * (M.1 242 8)) + (M.1 242 11)).toNatClampNeg (M.1 242 6)) 242 11 ((M.1 242 11) + (1 : Int32))) := hP
  have k0 : kd sh 242 = some (10 + 7, 0) := hb1.1
  have k1 : rf sh 242 9 = some 244 := hb1.2.2.1
  have k2 : kd sh 244 = some (0, 4800) := hb1.2.2.2.2.2.2.2.2.2.2.2.2.2.2.2.2.2.2.2.2.2.2.2.2.2.2.2.2.1
  have k3 : rf sh 242 10 = some 245 := hb1.2.2.2.1
  have k4 : kd sh 245 = some (0, 4800) := hb1.2.2.2.2.2.2.2.2.2.2.2.2.2.2.2.2.2.2.2.2.2.2.2.2.2.2.2.2.2.1
  refine r_aload_n e_X11_keepWord_0 rfl ?_
  refine r_getR e_X11_keepWord_1 fl_X11_102 k0 k1 ?_
  refine r_sipush e_X11_keepWord_4 sp_800 ?_
  refine r_aload_n e_X11_keepWord_7 rfl ?_
  refine r_getI e_X11_keepWord_8 fl_X11_105 i0 k0 ?_
  refine r_imul e_X11_keepWord_11 ?_
  refine r_aload_n e_X11_keepWord_12 rfl ?_
  refine r_getI e_X11_keepWord_13 fl_X11_108 i0 k0 ?_
  refine r_iadd e_X11_keepWord_16 ?_
  refine r_aload_n e_X11_keepWord_17 rfl ?_
  refine r_getI e_X11_keepWord_18 fl_X11_28 i0 k0 ?_
  refine r_iastore e_X11_keepWord_21 k2 g1 ?_
  refine r_aload_n e_X11_keepWord_22 rfl ?_
  refine r_getR e_X11_keepWord_23 fl_X11_111 k0 k3 ?_
  refine r_sipush e_X11_keepWord_26 sp_800 ?_
  refine r_aload_n e_X11_keepWord_29 rfl ?_
  refine r_getIe e_X11_keepWord_30 fl_X11_105 i0 k0 (gs_aI (by omega)) ?_
  refine r_imul e_X11_keepWord_33 ?_
  refine r_aload_n e_X11_keepWord_34 rfl ?_
  refine r_getIe e_X11_keepWord_35 fl_X11_108 i0 k0 (gs_aI (by omega)) ?_
  refine r_iadd e_X11_keepWord_38 ?_
  refine r_aload_n e_X11_keepWord_39 rfl ?_
  refine r_getIe e_X11_keepWord_40 fl_X11_21 i0 k0 (gs_aI (by omega)) ?_
  refine r_iastore e_X11_keepWord_43 k4 g1 ?_
  refine r_aload_n e_X11_keepWord_44 rfl ?_
  refine r_dup e_X11_keepWord_45 rfl ?_
  refine r_getIe e_X11_keepWord_46 fl_X11_108 i0 k0 ((gs_aI (by omega)).trans (gs_aI (by omega))) ?_
  refine r_iconst e_X11_keepWord_49 ic_1 ?_
  refine r_iadd e_X11_keepWord_50 ?_
  refine r_putI e_X11_keepWord_51 fl_X11_108 k0 ?_
  refine r_aload_n e_X11_keepWord_54 rfl ?_
  refine cV0u e_X11_keepWord_55 cl_X11_114 ⟨Nat.le_of_ble_eq_true rfl, Nat.le_of_ble_eq_true rfl⟩ ⟨rfl, rfl⟩ k0 (Nat.le_of_ble_eq_true rfl) (S_X11_word hb1 g2) ?_
  obtain ⟨Mc1, e_Mc1⟩ : ∃ z : Mem, z = (U_X11_word  (setI (setI (setI M 244 (((800 : Int32) * (M.1 242 8)) + (M.1 242 11)).toNatClampNeg (M.1 242 5)) 245 (((800 : Int32) * (M.1 242 8)) + (M.1 242 11)).toNatClampNeg (M.1 242 6)) 242 11 ((M.1 242 11) + (1 : Int32)))) := ⟨_, rfl⟩
  rw [← e_Mc1]
  refine r_iconst e_X11_keepWord_58 ic_1 ?_
  refine r_zreturn e_X11_keepWord_59 rfl ⟨rfl, rfl⟩ (by first | exact Or.inl rfl | exact Or.inr rfl) ?_
  (subst e_Mc1; refine ⟨?_, rfl, ?_⟩ <;> ((try unfold V_X11_keepWord); (try unfold U_X11_keepWord); (try simp only []); (try rfl)))
