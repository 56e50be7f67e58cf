def F_X1_teamAt_12 (a : Nat) (x1 : Int32) (i2 : Nat) : Nat → Nat → Int32 → Mem → Int32
  | 0, i12, u3, M => u3
  | n + 1, i12, u3, M => (let v1400_0 : Int32 := if (V_X1_has a (nI i12) M) = 0 then u3 else (if (V_X1_isAhead a (nI i12) (nI i2) M) = 0 then u3 else (u3 + 1)); (F_X1_teamAt_12 a x1 i2 n (i12 + 1) v1400_0 M))
theorem L_X1_teamAt_12 {sh : List SC} {Q : Po} {a : Nat} {x1 : Int32}   {i2 : Nat} (hb1 : LeagueAt sh a)  (hlt_i2 : i2 < 4) : ∀ (n i12 : Nat) (u3 : Int32) (M : Mem), i12 + n = 4 → WP m_X1_teamAt Q 46 [some (.ref a), some (.int x1), some (.int (nI i2)), some (.int (F_X1_teamAt_12 a x1 i2 n i12 u3 M)), none] [] sh M 0 0 → WP m_X1_teamAt Q 12 [some (.ref a), some (.int x1), some (.int (nI i2)), some (.int u3), some (.int (nI i12))] [] sh M 0 0 := by
  have k0 : kd sh a = some (1 + 7, 0) := hb1.1
  have hcl_i2 : (nI i2).toNatClampNeg = i2 := nI_clamp (by omega)
  intro n
  induction n with
  | zero =>
    intro i12 u3 M hi hq
    have hz : (4 : Int32) ≤ nI i12 := by
      have q : i12 = 4 := by omega
      rw [q]; exact nI_le (Nat.le_refl _) (by decide)
    refine r_iload e_X1_teamAt_12 rfl ?_
    refine r_iconst e_X1_teamAt_14 ic_4 ?_
    refine r_icmp_ge e_X1_teamAt_15 (fun _ => ?_) (fun hh => absurd hz hh)
    refine d_5_4 ?_
    (simp only [F_X1_teamAt_12] at hq; first | exact hq | (simp only []; exact hq))
  | succ n ih =>
    intro i12 u3 M hi hq
    have hlt_i12 : i12 < 4 := by omega
    have hcl_i12 : (nI i12).toNatClampNeg = i12 := nI_clamp (by omega)
    have hs : ¬ (4 : Int32) ≤ nI i12 := nI_ge (b := 4) hlt_i12 (by decide)
    refine r_iload e_X1_teamAt_12 rfl ?_
    refine r_iconst e_X1_teamAt_14 ic_4 ?_
    refine r_icmp_ge e_X1_teamAt_15 (fun hh => absurd hh hs) (fun _ => ?_)
    refine r_aload_n e_X1_teamAt_18 rfl ?_
    refine r_iload e_X1_teamAt_19 rfl ?_
    refine cV1v e_X1_teamAt_21 cl_X1_37 ⟨Nat.le_of_ble_eq_true rfl, Nat.le_of_ble_eq_true rfl⟩ ⟨rfl, rfl⟩ k0 (Nat.le_of_ble_eq_true rfl) (S_X1_has hb1) ?_
    obtain ⟨v1400_0, e_v1400_0⟩ : ∃ z : Int32, z = (if (V_X1_has a (nI i12) M) = 0 then u3 else (if (V_X1_isAhead a (nI i12) (nI i2) M) = 0 then u3 else (u3 + 1))) := ⟨_, rfl⟩
    suffices j40_1400 : WP m_X1_teamAt Q 40 [some (.ref a), some (.int x1), some (.int (nI i2)), some (.int v1400_0), some (.int (nI i12))] [] sh M 0 0 by
      refine r_if_eq e_X1_teamAt_24 (fun h24_1400 => ?_) (fun h24_1400 => ?_)
      · (rw [show v1400_0 = u3 from (e_v1400_0.trans (if_pos h24_1400))] at j40_1400; exact j40_1400)
      · refine r_aload_n e_X1_teamAt_27 rfl ?_
        refine r_iload e_X1_teamAt_28 rfl ?_
        refine r_iload_n e_X1_teamAt_30 rfl ?_
        refine cV2v e_X1_teamAt_31 cl_X1_41 ⟨Nat.le_of_ble_eq_true rfl, Nat.le_of_ble_eq_true rfl⟩ ⟨rfl, rfl⟩ k0 (Nat.le_of_ble_eq_true rfl) (S_X1_isAhead hb1) ?_
        refine r_if_eq e_X1_teamAt_34 (fun h34_1401 => ?_) (fun h34_1401 => ?_)
        · (rw [show v1400_0 = u3 from ((e_v1400_0.trans (if_neg h24_1400)).trans (if_pos h34_1401))] at j40_1400; exact j40_1400)
        · refine p_iinc_5_3 e_X1_teamAt_37 rfl ic_1 rfl ?_
          (rw [show v1400_0 = (u3 + 1) from ((e_v1400_0.trans (if_neg h24_1400)).trans (if_neg h34_1401))] at j40_1400; exact j40_1400)
    refine p_iinc_5_4 e_X1_teamAt_40 rfl ic_1 rfl ?_
    rw [nI_1 i12]
    refine r_goto e_X1_teamAt_43 ?_
    (subst e_v1400_0; simp only [F_X1_teamAt_12] at hq; first | exact ih (i12 + 1) _ _ (by omega) hq | (simp only []; exact ih (i12 + 1) _ _ (by omega) hq))
def FV_X1_teamAt_2 (a : Nat) (x1 : Int32) : Nat → Nat → Mem → Int32
  | 0, i2, M => (-1 : Int32)
  | n + 1, i2, M => if (V_X1_has a (nI i2) M) = 0 then (FV_X1_teamAt_2 a x1 n (i2 + 1) M) else (if (F_X1_teamAt_12 a x1 i2 4 0 (0 : Int32) M) = x1 then (nI i2) else (FV_X1_teamAt_2 a x1 n (i2 + 1) M))
theorem L_X1_teamAt_2 {sh : List SC} {Q : Po} {a : Nat} {x1 : Int32}    (hb1 : LeagueAt sh a)   : ∀ (n i2 : Nat) (M : Mem), i2 + n = 4 → Q (some (.int (FV_X1_teamAt_2 a x1 n i2 M))) sh M → WP m_X1_teamAt Q 2 [some (.ref a), some (.int x1), some (.int (nI i2)), none, none] [] sh M 0 0 := by
  have k0 : kd sh a = some (1 + 7, 0) := hb1.1
  intro n
  induction n with
  | zero =>
    intro i2 M hi hq
    have hz : (4 : Int32) ≤ nI i2 := by
      have q : i2 = 4 := by omega
      rw [q]; exact nI_le (Nat.le_refl _) (by decide)
    refine r_iload_n e_X1_teamAt_2 rfl ?_
    refine r_iconst e_X1_teamAt_3 ic_4 ?_
    refine r_icmp_ge e_X1_teamAt_4 (fun _ => ?_) (fun hh => absurd hz hh)
    refine r_iconst e_X1_teamAt_67 ic_m1 ?_
    refine r_ireturn e_X1_teamAt_68 rfl ⟨rfl, rfl⟩ ?_
    (simp only [FV_X1_teamAt_2] at hq; first | exact hq | (simp only []; exact hq))
  | succ n ih =>
    intro i2 M hi hq
    have hlt_i2 : i2 < 4 := by omega
    have hcl_i2 : (nI i2).toNatClampNeg = i2 := nI_clamp (by omega)
    have hs : ¬ (4 : Int32) ≤ nI i2 := nI_ge (b := 4) hlt_i2 (by decide)
    refine r_iload_n e_X1_teamAt_2 rfl ?_
    refine r_iconst e_X1_teamAt_3 ic_4 ?_
    refine r_icmp_ge e_X1_teamAt_4 (fun hh => absurd hh hs) (fun _ => ?_)
    refine r_iconst e_X1_teamAt_7 ic_0 ?_
    refine p_istore_n_5_3 e_X1_teamAt_8 rfl rfl ?_
    refine r_iconst e_X1_teamAt_9 ic_0 ?_
    refine p_istore_5_4 e_X1_teamAt_10 rfl rfl ?_
    skip
    show WP m_X1_teamAt _ 12 [some (.ref a), some (.int x1), some (.int (nI i2)), some (.int (0 : Int32)), some (.int (nI 0))] [] sh M 0 0
    refine L_X1_teamAt_12 hb1 hlt_i2 4 0 (0 : Int32) M (by omega) ?_
    refine r_aload_n e_X1_teamAt_46 rfl ?_
    refine r_iload_n e_X1_teamAt_47 rfl ?_
    refine cV1v e_X1_teamAt_48 cl_X1_37 ⟨Nat.le_of_ble_eq_true rfl, Nat.le_of_ble_eq_true rfl⟩ ⟨rfl, rfl⟩ k0 (Nat.le_of_ble_eq_true rfl) (S_X1_has hb1) ?_
    refine r_if_eq e_X1_teamAt_51 (fun h51_200 => ?_) (fun h51_200 => ?_)
    · refine p_iinc_5_2 e_X1_teamAt_61 rfl ic_1 rfl ?_
      rw [nI_1 i2]
      refine r_goto e_X1_teamAt_64 ?_
      refine d_5_3 ?_
      (simp only [FV_X1_teamAt_2, if_pos h51_200] at hq; first | exact ih (i2 + 1) _ (by omega) hq | (simp only [if_pos h51_200]; exact ih (i2 + 1) _ (by omega) hq))
    · refine r_iload_n e_X1_teamAt_54 rfl ?_
      refine r_iload_n e_X1_teamAt_55 rfl ?_
      refine r_icmp_ne e_X1_teamAt_56 (fun h56_201 => ?_) (fun h56_201 => ?_)
      · refine p_iinc_5_2 e_X1_teamAt_61 rfl ic_1 rfl ?_
        rw [nI_1 i2]
        refine r_goto e_X1_teamAt_64 ?_
        refine d_5_3 ?_
        (simp only [FV_X1_teamAt_2, if_neg h51_200, if_neg h56_201] at hq; first | exact ih (i2 + 1) _ (by omega) hq | (simp only [if_neg h51_200, if_neg h56_201]; exact ih (i2 + 1) _ (by omega) hq))
      · refine r_iload_n e_X1_teamAt_59 rfl ?_
        refine r_ireturn e_X1_teamAt_60 rfl ⟨rfl, rfl⟩ ?_
        (simp only [FV_X1_teamAt_2, if_neg h51_200, if_pos h56_201] at hq; first | exact hq | (simp only [if_neg h51_200, if_pos h56_201]; exact hq))
def V_X1_teamAt (a : Nat) (x1 : Int32) (M : Mem) : Int32 := (FV_X1_teamAt_2 a x1 4 0 M)
theorem S_X1_teamAt {sh : List SC} {M : Mem} {a : Nat} {x1 : Int32}  (hb1 : LeagueAt sh a)  : Gv m_X1_teamAt [.ref a, .int x1] sh M (.int (V_X1_teamAt a x1 M)) M := by
  refine Sp.of (ls := [some (.ref a), some (.int x1), none, none, none]) (by decide +kernel) (Nat.le_of_ble_eq_true rfl) rfl ?_
  refine r_iconst e_X1_teamAt_0 ic_0 ?_
  refine p_istore_n_5_2 e_X1_teamAt_1 rfl rfl ?_
  skip
  show WP m_X1_teamAt _ 2 [some (.ref a), some (.int x1), some (.int (nI 0)), none, none] [] sh M 0 0
  refine L_X1_teamAt_2 hb1 4 0  M (by omega) ?_
  (refine ⟨?_, rfl, ?_⟩ <;> ((try unfold V_X1_teamAt); (try simp only []); (try rfl)))
def V_X11_isTeam (x1 : Int32) (M : Mem) : Int32 := (V_X11_in x1 (0 : Int32) (3 : Int32) M)
theorem Z_X11_isTeam {M : Mem} {x1 : Int32}   : V_X11_isTeam x1 M = 0 ∨ V_X11_isTeam x1 M = 1 := Z_X11_in
theorem S_X11_isTeam {sh : List SC} {M : Mem} {x1 : Int32}    : Gv m_X11_isTeam [.int x1] sh M (.int (V_X11_isTeam x1 M)) M := by
  refine Sp.of (ls := [some (.int x1)]) (by decide +kernel) (Nat.le_of_ble_eq_true rfl) rfl ?_
  refine r_iload_n e_X11_isTeam_0 rfl ?_
  refine r_iconst e_X11_isTeam_1 ic_0 ?_
  refine r_iconst e_X11_isTeam_2 ic_3 ?_
  refine cS3v e_X11_isTeam_3 cl_X11_245 ⟨Nat.le_of_ble_eq_true rfl, Nat.le_of_ble_eq_true rfl⟩ ⟨rfl, rfl⟩  (Nat.le_of_ble_eq_true rfl) (S_X11_in ) ?_
  refine r_zreturn e_X11_isTeam_6 rfl ⟨rfl, rfl⟩ (Z_X11_in) ?_
  (refine ⟨?_, rfl, ?_⟩ <;> ((try unfold V_X11_isTeam); (try simp only []); (try rfl)))
def V_X10_order (x1 : Int32) (M : Mem) : Int32 := if 0 ≤ x1 then (let v1_0 : Int32 := if 0 ≤ (V_X1_teamAt 11 x1 M) then (V_X1_teamAt 11 x1 M) else (V_X10_finding (-1004 : Int32) M); let M1_1 : Mem := if 0 ≤ (V_X1_teamAt 11 x1 M) then M else (U_X10_finding (-1004 : Int32) M); v1_0) else (V_X10_finding (-1001 : Int32) M)
def U_X10_order (x1 : Int32) (M : Mem) : Mem := if 0 ≤ x1 then (let v1_0 : Int32 := if 0 ≤ (V_X1_teamAt 11 x1 M) then (V_X1_teamAt 11 x1 M) else (V_X10_finding (-1004 : Int32) M); let M1_1 : Mem := if 0 ≤ (V_X1_teamAt 11 x1 M) then M else (U_X10_finding (-1004 : Int32) M); M1_1) else (U_X10_finding (-1001 : Int32) M)
theorem S_X10_order {sh : List SC} {M : Mem} {x1 : Int32}  (hb1 : PitchAt sh)  : Gv m_X10_order [.ref 0, .int x1] sh M (.int (V_X10_order x1 M)) (U_X10_order x1 M) := by
  refine Sp.of (ls := [some (.ref 0), some (.int x1), none]) (by decide +kernel) (Nat.le_of_ble_eq_true rfl) rfl ?_
  have k0 : kd sh 0 = some (9 + 7, 0) := hb1.1
  have k1 : rf sh 0 7 = some 11 := hb1.2.2.2.2.2.2.2.2.1
  have k2 : kd sh 11 = some (1 + 7, 0) := hb1.2.2.2.2.2.2.2.2.2.2.2.2.2.2.2.1.1
  refine r_iload_n e_X10_order_0 rfl ?_
  refine r_if_ge e_X10_order_1 (fun h1_0 => ?_) (fun h1_0 => ?_)
  · refine r_aload_n e_X10_order_12 rfl ?_
    refine r_getR e_X10_order_13 fl_X10_41 k0 k1 ?_
    refine r_iload_n e_X10_order_16 rfl ?_
    refine cV1v e_X10_order_17 cl_X10_189 ⟨Nat.le_of_ble_eq_true rfl, Nat.le_of_ble_eq_true rfl⟩ ⟨rfl, rfl⟩ k2 (Nat.le_of_ble_eq_true rfl) (S_X1_teamAt hb1.2.2.2.2.2.2.2.2.2.2.2.2.2.2.2.1) ?_
    refine p_istore_n_3_2 e_X10_order_20 rfl rfl ?_
    refine r_iload_n e_X10_order_21 rfl ?_
    obtain ⟨v1_0, e_v1_0⟩ : ∃ z : Int32, z = (if 0 ≤ (V_X1_teamAt 11 x1 M) then (V_X1_teamAt 11 x1 M) else (V_X10_finding (-1004 : Int32) M)) := ⟨_, rfl⟩
    obtain ⟨M1_1, e_M1_1⟩ : ∃ z : Mem, z = (if 0 ≤ (V_X1_teamAt 11 x1 M) then M else (U_X10_finding (-1004 : Int32) M)) := ⟨_, rfl⟩
    suffices j36_1 : WP m_X10_order (fun r sh' M'' => r = some (.int (V_X10_order x1 M)) ∧ sh' = sh ∧ M'' = (U_X10_order x1 M)) 36 [some (.ref 0), some (.int x1), some (.int (V_X1_teamAt 11 x1 M))] [.int v1_0] sh M1_1 0 0 by
      refine r_if_ge e_X10_order_22 (fun h22_1 => ?_) (fun h22_1 => ?_)
      · refine r_iload_n e_X10_order_35 rfl ?_
        (rw [show v1_0 = (V_X1_teamAt 11 x1 M) from (e_v1_0.trans (if_pos h22_1)), show M1_1 = M from (e_M1_1.trans (if_pos h22_1))] at j36_1; exact j36_1)
      · refine r_aload_n e_X10_order_25 rfl ?_
        refine r_sipush e_X10_order_26 sp_m1004 ?_
        refine cV1v e_X10_order_29 cl_X10_70 ⟨Nat.le_of_ble_eq_true rfl, Nat.le_of_ble_eq_true rfl⟩ ⟨rfl, rfl⟩ k0 (Nat.le_of_ble_eq_true rfl) (S_X10_finding hb1) ?_
        refine r_goto e_X10_order_32 ?_
        (rw [show v1_0 = (V_X10_finding (-1004 : Int32) M) from (e_v1_0.trans (if_neg h22_1)), show M1_1 = U_X10_finding (-1004 : Int32) M from (e_M1_1.trans (if_neg h22_1))] at j36_1; exact j36_1)
    refine r_ireturn e_X10_order_36 rfl ⟨rfl, rfl⟩ ?_
    (subst e_M1_1 e_v1_0; refine ⟨?_, rfl, ?_⟩ <;> ((try unfold V_X10_order); (try unfold U_X10_order); (try simp only [if_pos h1_0]); (try rfl)))
  · refine r_aload_n e_X10_order_4 rfl ?_
    refine r_sipush e_X10_order_5 sp_m1001 ?_
    refine cV1v e_X10_order_8 cl_X10_70 ⟨Nat.le_of_ble_eq_true rfl, Nat.le_of_ble_eq_true rfl⟩ ⟨rfl, rfl⟩ k0 (Nat.le_of_ble_eq_true rfl) (S_X10_finding hb1) ?_
    refine r_ireturn e_X10_order_11 rfl ⟨rfl, rfl⟩ ?_
    (refine ⟨?_, rfl, ?_⟩ <;> ((try unfold V_X10_order); (try unfold U_X10_order); (try simp only [if_neg h1_0]); (try rfl)))
