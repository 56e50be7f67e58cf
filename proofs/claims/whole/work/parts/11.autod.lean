def V_X11_isTeam (x1 : Int32) (M : Mem) : Int32 := (V_X11_in x1 (0 : Int32) (3 : Int32) M)
theorem Z_X11_isTeam {M : Mem} {x1 : Int32}   : V_X11_isTeam x1 M = 0 ∨ V_X11_isTeam x1 M = 1 := Z_X11_in
theorem S_X11_isTeam {sh : List SC} {M : Mem} {x1 : Int32}    : Gv m_X11_isTeam [.int x1] sh M (.int (V_X11_isTeam x1 M)) M := by
  refine Sp.of (ls := [some (.int x1)]) (by decide +kernel) (Nat.le_of_ble_eq_true rfl) rfl ?_
  refine r_iload_n e_X11_isTeam_0 rfl ?_
  refine r_iconst e_X11_isTeam_1 ic_0 ?_
  refine r_iconst e_X11_isTeam_2 ic_3 ?_
  refine cS3v e_X11_isTeam_3 cl_X11_245 ⟨Nat.le_of_ble_eq_true rfl, Nat.le_of_ble_eq_true rfl⟩ ⟨rfl, rfl⟩  (Nat.le_of_ble_eq_true rfl) (S_X11_in ) ?_
  refine r_zreturn e_X11_isTeam_6 rfl ⟨rfl, rfl⟩ (Z_X11_in) ?_
  (refine ⟨?_, rfl, ?_⟩ <;> ((try unfold V_X11_isTeam); (try simp only []); (try rfl)))
def V_X10_order (x1 : Int32) (M : Mem) : Int32 := if 0 ≤ x1 then (let v1_0 : Int32 := if 0 ≤ (V_X1_teamAt 11 x1 M) then (V_X1_teamAt 11 x1 M) else (V_X10_finding (-1004 : Int32) M); let M1_1 : Mem := if 0 ≤ (V_X1_teamAt 11 x1 M) then M else (U_X10_finding (-1004 : Int32) M); v1_0) else (V_X10_finding (-1001 : Int32) M)
def U_X10_order (x1 : Int32) (M : Mem) : Mem := if 0 ≤ x1 then (let v1_0 : Int32 := if 0 ≤ (V_X1_teamAt 11 x1 M) then (V_X1_teamAt 11 x1 M) else (V_X10_finding (-1004 : Int32) M); let M1_1 : Mem := if 0 ≤ (V_X1_teamAt 11 x1 M) then M else (U_X10_finding (-1004 : Int32) M); M1_1) else (U_X10_finding (-1001 : Int32) M)
theorem S_X10_order {sh : List SC} {M : Mem} {x1 : Int32}  (hb1 : PitchAt sh)  : Gv m_X10_order [.ref 0, .int x1] sh M (.int (V_X10_order x1 M)) (U_X10_order x1 M) := by
  refine Sp.of (ls := [some (.ref 0), some (.int x1), none]) (by decide +kernel) (Nat.le_of_ble_eq_true rfl) rfl ?_
  have k0 : kd sh 0 = some (9 + 7, 0) := hb1.1
  have k1 : rf sh 0 7 = some 11 := hb1.2.2.2.2.2.2.2.2.1
  have k2 : kd sh 11 = some (1 + 7, 0) := hb1.2.2.2.2.2.2.2.2.2.2.2.2.2.2.2.1.1
  refine r_iload_n e_X10_order_0 rfl ?_
  refine r_if_ge e_X10_order_1 (fun h1_0 => ?_) (fun h1_0 => ?_)
  · refine r_aload_n e_X10_order_12 rfl ?_
    refine r_getR e_X10_order_13 fl_X10_41 k0 k1 ?_
    refine r_iload_n e_X10_order_16 rfl ?_
    refine cV1v e_X10_order_17 cl_X10_189 ⟨Nat.le_of_ble_eq_true rfl, Nat.le_of_ble_eq_true rfl⟩ ⟨rfl, rfl⟩ k2 (Nat.le_of_ble_eq_true rfl) (S_X1_teamAt hb1.2.2.2.2.2.2.2.2.2.2.2.2.2.2.2.1) ?_
    refine p_istore_n_3_2 e_X10_order_20 rfl rfl ?_
    refine r_iload_n e_X10_order_21 rfl ?_
    obtain ⟨v1_0, e_v1_0⟩ : ∃ z : Int32, z = (if 0 ≤ (V_X1_teamAt 11 x1 M) then (V_X1_teamAt 11 x1 M) else (V_X10_finding (-1004 : Int32) M)) := ⟨_, rfl⟩
    obtain ⟨M1_1, e_M1_1⟩ : ∃ z : Mem, z = (if 0 ≤ (V_X1_teamAt 11 x1 M) then M else (U_X10_finding (-1004 : Int32) M)) := ⟨_, rfl⟩
    suffices j36_1 : WP m_X10_order (fun r sh' M'' => r = some (.int (V_X10_order x1 M)) ∧ sh' = sh ∧ M'' = (U_X10_order x1 M)) 36 [some (.ref 0), some (.int x1), some (.int (V_X1_teamAt 11 x1 M))] [.int v1_0] sh M1_1 0 0 by
      refine r_if_ge e_X10_order_22 (fun h22_1 => ?_) (fun h22_1 => ?_)
      · refine r_iload_n e_X10_order_35 rfl ?_
        (rw [show v1_0 = (V_X1_teamAt 11 x1 M) from (e_v1_0.trans (if_pos h22_1)), show M1_1 = M from (e_M1_1.trans (if_pos h22_1))] at j36_1; exact j36_1)
      · refine r_aload_n e_X10_order_25 rfl ?_
        refine r_sipush e_X10_order_26 sp_m1004 ?_
        refine cV1v e_X10_order_29 cl_X10_70 ⟨Nat.le_of_ble_eq_true rfl, Nat.le_of_ble_eq_true rfl⟩ ⟨rfl, rfl⟩ k0 (Nat.le_of_ble_eq_true rfl) (S_X10_finding hb1) ?_
        refine r_goto e_X10_order_32 ?_
        (rw [show v1_0 = (V_X10_finding (-1004 : Int32) M) from (e_v1_0.trans (if_neg h22_1)), show M1_1 = U_X10_finding (-1004 : Int32) M from (e_M1_1.trans (if_neg h22_1))] at j36_1; exact j36_1)
    refine r_ireturn e_X10_order_36 rfl ⟨rfl, rfl⟩ ?_
    (subst e_M1_1 e_v1_0; refine ⟨?_, rfl, ?_⟩ <;> ((try unfold V_X10_order); (try unfold U_X10_order); (try simp only [if_pos h1_0]); (try rfl)))
  · refine r_aload_n e_X10_order_4 rfl ?_
    refine r_sipush e_X10_order_5 sp_m1001 ?_
    refine cV1v e_X10_order_8 cl_X10_70 ⟨Nat.le_of_ble_eq_true rfl, Nat.le_of_ble_eq_true rfl⟩ ⟨rfl, rfl⟩ k0 (Nat.le_of_ble_eq_true rfl) (S_X10_finding hb1) ?_
    refine r_ireturn e_X10_order_11 rfl ⟨rfl, rfl⟩ ?_
    (refine ⟨?_, rfl, ?_⟩ <;> ((try unfold V_X10_order); (try unfold U_X10_order); (try simp only [if_neg h1_0]); (try rfl)))
