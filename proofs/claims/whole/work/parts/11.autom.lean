def F_X11_sumOf_5 (mA : Nat) : Nat → Int32 → Mem → Int32 × Mem
  | 0, u1, M => (u1, M)
  | n + 1, u1, M => if (V_X11_here  M) = (43 : Int32) then (let v501_0 : Int32 := if (V_X11_here  M) = (45 : Int32) then (1 : Int32) else (0 : Int32); let v502_0 : Int32 := if v501_0 = 0 then (u1 + (V_X11_productOf  mA (setI M 242 35 ((M.1 242 35) + (1 : Int32))))) else (u1 - (V_X11_productOf  mA (setI M 242 35 ((M.1 242 35) + (1 : Int32))))); (F_X11_sumOf_5 mA n v502_0 (U_X11_productOf  mA (setI M 242 35 ((M.1 242 35) + (1 : Int32)))))) else (if (V_X11_here  M) = (45 : Int32) then (let v504_0 : Int32 := if (V_X11_here  M) = (45 : Int32) then (1 : Int32) else (0 : Int32); let v505_0 : Int32 := if v504_0 = 0 then (u1 + (V_X11_productOf  mA (setI M 242 35 ((M.1 242 35) + (1 : Int32))))) else (u1 - (V_X11_productOf  mA (setI M 242 35 ((M.1 242 35) + (1 : Int32))))); (F_X11_sumOf_5 mA n v505_0 (U_X11_productOf  mA (setI M 242 35 ((M.1 242 35) + (1 : Int32)))))) else (u1, M))
def T_X11_sumOf_5 (mA : Nat) : Nat → Int32 → Mem → Prop
  | 0, u1, M => False
  | n + 1, u1, M => (vp_in ((M.1 242 34) + (M.1 242 35)) 4800) ∧ (vp_in ((((F_X11_termOf_6  FUEL (0 : Int32) (U_X11_step  (setI M 242 35 ((M.1 242 35) + (1 : Int32))))).2).1 242 34) + (((F_X11_termOf_6  FUEL (0 : Int32) (U_X11_step  (setI M 242 35 ((M.1 242 35) + (1 : Int32))))).2).1 242 35)) 4800) ∧ (P_X11_productOf mA (setI M 242 35 ((M.1 242 35) + (1 : Int32)))) ∧ (if (V_X11_here  M) = (43 : Int32) then (let v501_0 : Int32 := if (V_X11_here  M) = (45 : Int32) then (1 : Int32) else (0 : Int32); let v502_0 : Int32 := if v501_0 = 0 then (u1 + (V_X11_productOf  mA (setI M 242 35 ((M.1 242 35) + (1 : Int32))))) else (u1 - (V_X11_productOf  mA (setI M 242 35 ((M.1 242 35) + (1 : Int32))))); (T_X11_sumOf_5 mA n v502_0 (U_X11_productOf  mA (setI M 242 35 ((M.1 242 35) + (1 : Int32)))))) else (if (V_X11_here  M) = (45 : Int32) then (let v504_0 : Int32 := if (V_X11_here  M) = (45 : Int32) then (1 : Int32) else (0 : Int32); let v505_0 : Int32 := if v504_0 = 0 then (u1 + (V_X11_productOf  mA (setI M 242 35 ((M.1 242 35) + (1 : Int32))))) else (u1 - (V_X11_productOf  mA (setI M 242 35 ((M.1 242 35) + (1 : Int32))))); (T_X11_sumOf_5 mA n v505_0 (U_X11_productOf  mA (setI M 242 35 ((M.1 242 35) + (1 : Int32)))))) else True))
theorem L_X11_sumOf_5 {sh : List SC} {Q : Po}  {mA : Nat} {oA : Nat}   (hb1 : ModelAt sh mA oA)   : ∀ (n : Nat) (u1 : Int32) (M : Mem), T_X11_sumOf_5 mA n u1 M → WP m_X11_sumOf Q 70 [some (.ref 242), some (.int ((F_X11_sumOf_5 mA n u1 M).1)), none, none] [] sh ((F_X11_sumOf_5 mA n u1 M).2) 0 0 → WP m_X11_sumOf Q 5 [some (.ref 242), some (.int u1), none, none] [] sh M 0 0 := by
  have k0 : kd sh 242 = some (10 + 7, 0) := hb1.1
  intro n
  induction n with
  | zero =>
    intro u1 M hH hq
    exact hH.elim
  | succ n ih =>
    intro u1 M hH hq
    unfold T_X11_sumOf_5 at hH
    obtain ⟨g1, g2, g3, hH⟩ := hH
    refine r_aload_n e_X11_sumOf_5 rfl ?_
    refine cV0v e_X11_sumOf_6 cl_X11_327 ⟨Nat.le_of_ble_eq_true rfl, Nat.le_of_ble_eq_true rfl⟩ ⟨rfl, rfl⟩ k0 (Nat.le_of_ble_eq_true rfl) (S_X11_here hb1 g1) ?_
    refine r_bipush e_X11_sumOf_9 bp_43 ?_
    refine r_icmp_eq e_X11_sumOf_11 (fun h11_500 => ?_) (fun h11_500 => ?_)
    · refine r_aload_n e_X11_sumOf_23 rfl ?_
      refine cV0v e_X11_sumOf_24 cl_X11_327 ⟨Nat.le_of_ble_eq_true rfl, Nat.le_of_ble_eq_true rfl⟩ ⟨rfl, rfl⟩ k0 (Nat.le_of_ble_eq_true rfl) (S_X11_here hb1 g1) ?_
      refine r_bipush e_X11_sumOf_27 bp_45 ?_
      obtain ⟨v501_0, e_v501_0⟩ : ∃ z : Int32, z = (if (V_X11_here  M) = (45 : Int32) then (1 : Int32) else (0 : Int32)) := ⟨_, rfl⟩
      have z_v501_0 : v501_0 = 0 ∨ v501_0 = 1 := by rw [e_v501_0]; exact (zi (Or.inr rfl) (Or.inl rfl))
      suffices j37_501 : WP m_X11_sumOf Q 37 [some (.ref 242), some (.int u1), none, none] [.int v501_0] sh M 0 0 by
        refine r_icmp_ne e_X11_sumOf_29 (fun h29_501 => ?_) (fun h29_501 => ?_)
        · refine r_iconst e_X11_sumOf_36 ic_0 ?_
          (rw [show v501_0 = (0 : Int32) from (e_v501_0.trans (if_neg h29_501))] at j37_501; exact j37_501)
        · refine r_iconst e_X11_sumOf_32 ic_1 ?_
          refine r_goto e_X11_sumOf_33 ?_
          (rw [show v501_0 = (1 : Int32) from (e_v501_0.trans (if_pos h29_501))] at j37_501; exact j37_501)
      refine p_istore_n_4_2 e_X11_sumOf_37 rfl rfl ?_
      refine r_aload_n e_X11_sumOf_38 rfl ?_
      refine r_dup e_X11_sumOf_39 rfl ?_
      refine r_getI e_X11_sumOf_40 fl_X11_312 i0 k0 ?_
      refine r_iconst e_X11_sumOf_43 ic_1 ?_
      refine r_iadd e_X11_sumOf_44 ?_
      refine r_putI e_X11_sumOf_45 fl_X11_312 k0 ?_
      refine r_aload_n e_X11_sumOf_48 rfl ?_
      refine cV0v e_X11_sumOf_49 cl_X11_339 ⟨Nat.le_of_ble_eq_true rfl, Nat.le_of_ble_eq_true rfl⟩ ⟨rfl, rfl⟩ k0 (Nat.le_of_ble_eq_true rfl) (S_X11_productOf hb1 g2 g3) ?_
      refine p_istore_n_4_3 e_X11_sumOf_52 rfl rfl ?_
      refine r_iload_n e_X11_sumOf_53 rfl ?_
      obtain ⟨v502_0, e_v502_0⟩ : ∃ z : Int32, z = (if v501_0 = 0 then (u1 + (V_X11_productOf  mA (setI M 242 35 ((M.1 242 35) + (1 : Int32))))) else (u1 - (V_X11_productOf  mA (setI M 242 35 ((M.1 242 35) + (1 : Int32)))))) := ⟨_, rfl⟩
      suffices j66_502 : WP m_X11_sumOf Q 66 [some (.ref 242), some (.int u1), some (.int v501_0), some (.int (V_X11_productOf  mA (setI M 242 35 ((M.1 242 35) + (1 : Int32)))))] [.int v502_0] sh (U_X11_productOf  mA (setI M 242 35 ((M.1 242 35) + (1 : Int32)))) 0 0 by
        refine r_if_eq e_X11_sumOf_54 (fun h54_502 => ?_) (fun h54_502 => ?_)
        · refine r_iload_n e_X11_sumOf_63 rfl ?_
          refine r_iload_n e_X11_sumOf_64 rfl ?_
          refine r_iadd e_X11_sumOf_65 ?_
          (rw [show v502_0 = (u1 + (V_X11_productOf  mA (setI M 242 35 ((M.1 242 35) + (1 : Int32))))) from (e_v502_0.trans (if_pos h54_502))] at j66_502; exact j66_502)
        · refine r_iload_n e_X11_sumOf_57 rfl ?_
          refine r_iload_n e_X11_sumOf_58 rfl ?_
          refine r_isub e_X11_sumOf_59 ?_
          refine r_goto e_X11_sumOf_60 ?_
          (rw [show v502_0 = (u1 - (V_X11_productOf  mA (setI M 242 35 ((M.1 242 35) + (1 : Int32))))) from (e_v502_0.trans (if_neg h54_502))] at j66_502; exact j66_502)
      refine p_istore_n_4_1 e_X11_sumOf_66 rfl rfl ?_
      refine r_goto e_X11_sumOf_67 ?_
      refine d_4_2 ?_
      refine d_4_3 ?_
      (subst e_v502_0 e_v501_0; simp only [F_X11_sumOf_5, if_pos h11_500] at hq; (try simp only [if_pos h11_500] at hH); first | exact ih _ _ hH hq | (simp only [if_pos h11_500]; exact ih _ _ hH hq))
    · refine r_aload_n e_X11_sumOf_14 rfl ?_
      refine cV0v e_X11_sumOf_15 cl_X11_327 ⟨Nat.le_of_ble_eq_true rfl, Nat.le_of_ble_eq_true rfl⟩ ⟨rfl, rfl⟩ k0 (Nat.le_of_ble_eq_true rfl) (S_X11_here hb1 g1) ?_
      refine r_bipush e_X11_sumOf_18 bp_45 ?_
      refine r_icmp_ne e_X11_sumOf_20 (fun h20_503 => ?_) (fun h20_503 => ?_)
      · (simp only [F_X11_sumOf_5, if_neg h11_500, if_neg h20_503] at hq; first | exact hq | (simp only [if_neg h11_500, if_neg h20_503]; exact hq))
      · refine r_aload_n e_X11_sumOf_23 rfl ?_
        refine cV0v e_X11_sumOf_24 cl_X11_327 ⟨Nat.le_of_ble_eq_true rfl, Nat.le_of_ble_eq_true rfl⟩ ⟨rfl, rfl⟩ k0 (Nat.le_of_ble_eq_true rfl) (S_X11_here hb1 g1) ?_
        refine r_bipush e_X11_sumOf_27 bp_45 ?_
        obtain ⟨v504_0, e_v504_0⟩ : ∃ z : Int32, z = (if (V_X11_here  M) = (45 : Int32) then (1 : Int32) else (0 : Int32)) := ⟨_, rfl⟩
        have z_v504_0 : v504_0 = 0 ∨ v504_0 = 1 := by rw [e_v504_0]; exact (zi (Or.inr rfl) (Or.inl rfl))
        suffices j37_504 : WP m_X11_sumOf Q 37 [some (.ref 242), some (.int u1), none, none] [.int v504_0] sh M 0 0 by
          refine r_icmp_ne e_X11_sumOf_29 (fun h29_504 => ?_) (fun h29_504 => ?_)
          · refine r_iconst e_X11_sumOf_36 ic_0 ?_
            (rw [show v504_0 = (0 : Int32) from (e_v504_0.trans (if_neg h29_504))] at j37_504; exact j37_504)
          · refine r_iconst e_X11_sumOf_32 ic_1 ?_
            refine r_goto e_X11_sumOf_33 ?_
            (rw [show v504_0 = (1 : Int32) from (e_v504_0.trans (if_pos h29_504))] at j37_504; exact j37_504)
        refine p_istore_n_4_2 e_X11_sumOf_37 rfl rfl ?_
        refine r_aload_n e_X11_sumOf_38 rfl ?_
        refine r_dup e_X11_sumOf_39 rfl ?_
        refine r_getI e_X11_sumOf_40 fl_X11_312 i0 k0 ?_
        refine r_iconst e_X11_sumOf_43 ic_1 ?_
        refine r_iadd e_X11_sumOf_44 ?_
        refine r_putI e_X11_sumOf_45 fl_X11_312 k0 ?_
        refine r_aload_n e_X11_sumOf_48 rfl ?_
        refine cV0v e_X11_sumOf_49 cl_X11_339 ⟨Nat.le_of_ble_eq_true rfl, Nat.le_of_ble_eq_true rfl⟩ ⟨rfl, rfl⟩ k0 (Nat.le_of_ble_eq_true rfl) (S_X11_productOf hb1 g2 g3) ?_
        refine p_istore_n_4_3 e_X11_sumOf_52 rfl rfl ?_
        refine r_iload_n e_X11_sumOf_53 rfl ?_
        obtain ⟨v505_0, e_v505_0⟩ : ∃ z : Int32, z = (if v504_0 = 0 then (u1 + (V_X11_productOf  mA (setI M 242 35 ((M.1 242 35) + (1 : Int32))))) else (u1 - (V_X11_productOf  mA (setI M 242 35 ((M.1 242 35) + (1 : Int32)))))) := ⟨_, rfl⟩
        suffices j66_505 : WP m_X11_sumOf Q 66 [some (.ref 242), some (.int u1), some (.int v504_0), some (.int (V_X11_productOf  mA (setI M 242 35 ((M.1 242 35) + (1 : Int32)))))] [.int v505_0] sh (U_X11_productOf  mA (setI M 242 35 ((M.1 242 35) + (1 : Int32)))) 0 0 by
          refine r_if_eq e_X11_sumOf_54 (fun h54_505 => ?_) (fun h54_505 => ?_)
          · refine r_iload_n e_X11_sumOf_63 rfl ?_
            refine r_iload_n e_X11_sumOf_64 rfl ?_
            refine r_iadd e_X11_sumOf_65 ?_
            (rw [show v505_0 = (u1 + (V_X11_productOf  mA (setI M 242 35 ((M.1 242 35) + (1 : Int32))))) from (e_v505_0.trans (if_pos h54_505))] at j66_505; exact j66_505)
          · refine r_iload_n e_X11_sumOf_57 rfl ?_
            refine r_iload_n e_X11_sumOf_58 rfl ?_
            refine r_isub e_X11_sumOf_59 ?_
            refine r_goto e_X11_sumOf_60 ?_
            (rw [show v505_0 = (u1 - (V_X11_productOf  mA (setI M 242 35 ((M.1 242 35) + (1 : Int32))))) from (e_v505_0.trans (if_neg h54_505))] at j66_505; exact j66_505)
        refine p_istore_n_4_1 e_X11_sumOf_66 rfl rfl ?_
        refine r_goto e_X11_sumOf_67 ?_
        refine d_4_2 ?_
        refine d_4_3 ?_
        (subst e_v505_0 e_v504_0; simp only [F_X11_sumOf_5, if_neg h11_500, if_pos h20_503] at hq; (try simp only [if_neg h11_500, if_pos h20_503] at hH); first | exact ih _ _ hH hq | (simp only [if_neg h11_500, if_pos h20_503]; exact ih _ _ hH hq))
def V_X11_sumOf (mA : Nat) (M : Mem) : Int32 := ((F_X11_sumOf_5 mA FUEL (V_X11_productOf  mA M) (U_X11_productOf  mA M)).1)
def U_X11_sumOf (mA : Nat) (M : Mem) : Mem := ((F_X11_sumOf_5 mA FUEL (V_X11_productOf  mA M) (U_X11_productOf  mA M)).2)
def P_X11_sumOf (mA : Nat) (M : Mem) : Prop := (P_X11_productOf mA M) ∧ (T_X11_sumOf_5 mA FUEL (V_X11_productOf  mA M) (U_X11_productOf  mA M))
theorem S_X11_sumOf {sh : List SC} {M : Mem}  {mA : Nat} {oA : Nat} (hb1 : ModelAt sh mA oA) (g1 : vp_in ((((F_X11_termOf_6  FUEL (0 : Int32) (U_X11_step  M)).2).1 242 34) + (((F_X11_termOf_6  FUEL (0 : Int32) (U_X11_step  M)).2).1 242 35)) 4800) (hP : P_X11_sumOf mA M) : Gv m_X11_sumOf [.ref 242] sh M (.int (V_X11_sumOf mA M)) (U_X11_sumOf mA M) := by
  refine Sp.of (ls := [some (.ref 242), none, none, none]) (by decide +kernel) (Nat.le_of_ble_eq_true rfl) rfl ?_
  obtain ⟨g2, g3⟩ := hP
  have k0 : kd sh 242 = some (10 + 7, 0) := hb1.1
  refine r_aload_n e_X11_sumOf_0 rfl ?_
  refine cV0v e_X11_sumOf_1 cl_X11_339 ⟨Nat.le_of_ble_eq_true rfl, Nat.le_of_ble_eq_true rfl⟩ ⟨rfl, rfl⟩ k0 (Nat.le_of_ble_eq_true rfl) (S_X11_productOf hb1 g1 g2) ?_
  refine p_istore_n_4_1 e_X11_sumOf_4 rfl rfl ?_
  refine L_X11_sumOf_5 hb1 FUEL (V_X11_productOf  mA M) (U_X11_productOf  mA M) g3 ?_
  refine r_iload_n e_X11_sumOf_70 rfl ?_
  refine r_ireturn e_X11_sumOf_71 rfl ⟨rfl, rfl⟩ ?_
  (refine ⟨?_, rfl, ?_⟩ <;> ((try unfold V_X11_sumOf); (try unfold U_X11_sumOf); (try simp only []); (try rfl)))
def V_X11_law (x1 : Int32) (mA : Nat) (M : Mem) : Int32 := if x1 < 0 then (if (V_X11_sleeps  mA M) < (10 : Int32) then (if ((U_X11_sleeps  mA M).1 mA 16) < 0 then (let v3_0 : Int32 := if (V_X11_crowded (0 : Int32) mA (U_X11_sleeps  mA M)) < 0 then (V_X11_crowded (1 : Int32) mA (U_X11_sleeps  mA M)) else (V_X11_crowded (0 : Int32) mA (U_X11_sleeps  mA M)); if 0 ≤ v3_0 then (let M5_0 : Mem := if ((U_X11_putAtStart v3_0 mA (U_X11_sleeps  mA M)).1 mA 16) = v3_0 then (setI (setI (U_X11_putAtStart v3_0 mA (U_X11_sleeps  mA M)) mA 14 (V_X11_of v3_0 (0 : Int32) mA (U_X11_putAtStart v3_0 mA (U_X11_sleeps  mA M)))) mA 15 (V_X11_of v3_0 (1 : Int32) mA (setI (U_X11_putAtStart v3_0 mA (U_X11_sleeps  mA M)) mA 14 (V_X11_of v3_0 (0 : Int32) mA (U_X11_putAtStart v3_0 mA (U_X11_sleeps  mA M)))))) else (U_X11_putAtStart v3_0 mA (U_X11_sleeps  mA M)); (3 : Int32)) else (-1 : Int32)) else (if (((U_X11_sleeps  mA M).1 mA 3) - ((U_X11_sleeps  mA M).1 mA 20)) < (12 : Int32) then (let v7_0 : Int32 := if (V_X11_crowded (0 : Int32) mA (U_X11_sleeps  mA M)) < 0 then (V_X11_crowded (1 : Int32) mA (U_X11_sleeps  mA M)) else (V_X11_crowded (0 : Int32) mA (U_X11_sleeps  mA M)); if 0 ≤ v7_0 then (let M9_0 : Mem := if ((U_X11_putAtStart v7_0 mA (U_X11_sleeps  mA M)).1 mA 16) = v7_0 then (setI (setI (U_X11_putAtStart v7_0 mA (U_X11_sleeps  mA M)) mA 14 (V_X11_of v7_0 (0 : Int32) mA (U_X11_putAtStart v7_0 mA (U_X11_sleeps  mA M)))) mA 15 (V_X11_of v7_0 (1 : Int32) mA (setI (U_X11_putAtStart v7_0 mA (U_X11_sleeps  mA M)) mA 14 (V_X11_of v7_0 (0 : Int32) mA (U_X11_putAtStart v7_0 mA (U_X11_sleeps  mA M)))))) else (U_X11_putAtStart v7_0 mA (U_X11_sleeps  mA M)); (3 : Int32)) else (-1 : Int32)) else (2 : Int32))) else (1 : Int32)) else (0 : Int32)
def U_X11_law (x1 : Int32) (mA : Nat) (M : Mem) : Mem := if x1 < 0 then (if (V_X11_sleeps  mA M) < (10 : Int32) then (if ((U_X11_sleeps  mA M).1 mA 16) < 0 then (let v3_0 : Int32 := if (V_X11_crowded (0 : Int32) mA (U_X11_sleeps  mA M)) < 0 then (V_X11_crowded (1 : Int32) mA (U_X11_sleeps  mA M)) else (V_X11_crowded (0 : Int32) mA (U_X11_sleeps  mA M)); if 0 ≤ v3_0 then (let M5_0 : Mem := if ((U_X11_putAtStart v3_0 mA (U_X11_sleeps  mA M)).1 mA 16) = v3_0 then (setI (setI (U_X11_putAtStart v3_0 mA (U_X11_sleeps  mA M)) mA 14 (V_X11_of v3_0 (0 : Int32) mA (U_X11_putAtStart v3_0 mA (U_X11_sleeps  mA M)))) mA 15 (V_X11_of v3_0 (1 : Int32) mA (setI (U_X11_putAtStart v3_0 mA (U_X11_sleeps  mA M)) mA 14 (V_X11_of v3_0 (0 : Int32) mA (U_X11_putAtStart v3_0 mA (U_X11_sleeps  mA M)))))) else (U_X11_putAtStart v3_0 mA (U_X11_sleeps  mA M)); M5_0) else (U_X11_sleeps  mA M)) else (if (((U_X11_sleeps  mA M).1 mA 3) - ((U_X11_sleeps  mA M).1 mA 20)) < (12 : Int32) then (let v7_0 : Int32 := if (V_X11_crowded (0 : Int32) mA (U_X11_sleeps  mA M)) < 0 then (V_X11_crowded (1 : Int32) mA (U_X11_sleeps  mA M)) else (V_X11_crowded (0 : Int32) mA (U_X11_sleeps  mA M)); if 0 ≤ v7_0 then (let M9_0 : Mem := if ((U_X11_putAtStart v7_0 mA (U_X11_sleeps  mA M)).1 mA 16) = v7_0 then (setI (setI (U_X11_putAtStart v7_0 mA (U_X11_sleeps  mA M)) mA 14 (V_X11_of v7_0 (0 : Int32) mA (U_X11_putAtStart v7_0 mA (U_X11_sleeps  mA M)))) mA 15 (V_X11_of v7_0 (1 : Int32) mA (setI (U_X11_putAtStart v7_0 mA (U_X11_sleeps  mA M)) mA 14 (V_X11_of v7_0 (0 : Int32) mA (U_X11_putAtStart v7_0 mA (U_X11_sleeps  mA M)))))) else (U_X11_putAtStart v7_0 mA (U_X11_sleeps  mA M)); M9_0) else (U_X11_sleeps  mA M)) else (U_X11_hold (V_X11_nearestFoe ((U_X11_sleeps  mA M).1 mA 16) mA (U_X11_sleeps  mA M)) mA (U_X11_sleeps  mA M)))) else (U_X11_lay  mA (U_X11_sleeps  mA M))) else (U_X11_scored x1 mA M)
def P_X11_law (x1 : Int32) (mA : Nat) (M : Mem) : Prop := (x1 < 0 → (V_X11_sleeps  mA M) < (10 : Int32) → ((U_X11_sleeps  mA M).1 mA 16) < 0 → P_X11_crowded (0 : Int32) mA (U_X11_sleeps  mA M)) ∧ (x1 < 0 → (V_X11_sleeps  mA M) < (10 : Int32) → ((U_X11_sleeps  mA M).1 mA 16) < 0 → (V_X11_crowded (0 : Int32) mA (U_X11_sleeps  mA M)) < 0 → P_X11_crowded (1 : Int32) mA (U_X11_sleeps  mA M)) ∧ (x1 < 0 → (V_X11_sleeps  mA M) < (10 : Int32) → ((U_X11_sleeps  mA M).1 mA 16) < 0 → ¬ ((V_X11_crowded (0 : Int32) mA (U_X11_sleeps  mA M)) < 0) → P_X11_crowded (0 : Int32) mA (U_X11_sleeps  mA M)) ∧ (x1 < 0 → (V_X11_sleeps  mA M) < (10 : Int32) → ((U_X11_sleeps  mA M).1 mA 16) < 0 → 0 ≤ (if (V_X11_crowded (0 : Int32) mA (U_X11_sleeps  mA M)) < 0 then (V_X11_crowded (1 : Int32) mA (U_X11_sleeps  mA M)) else (V_X11_crowded (0 : Int32) mA (U_X11_sleeps  mA M))) → vp_in (((44 : Int32) + ((16 : Int32) * (if (V_X11_crowded (0 : Int32) mA (U_X11_sleeps  mA M)) < 0 then (V_X11_crowded (1 : Int32) mA (U_X11_sleeps  mA M)) else (V_X11_crowded (0 : Int32) mA (U_X11_sleeps  mA M))))) + (0 : Int32)) 212) ∧ (x1 < 0 → (V_X11_sleeps  mA M) < (10 : Int32) → ((U_X11_sleeps  mA M).1 mA 16) < 0 → 0 ≤ (if (V_X11_crowded (0 : Int32) mA (U_X11_sleeps  mA M)) < 0 then (V_X11_crowded (1 : Int32) mA (U_X11_sleeps  mA M)) else (V_X11_crowded (0 : Int32) mA (U_X11_sleeps  mA M))) → vp_in (((44 : Int32) + ((16 : Int32) * (if (V_X11_crowded (0 : Int32) mA (U_X11_sleeps  mA M)) < 0 then (V_X11_crowded (1 : Int32) mA (U_X11_sleeps  mA M)) else (V_X11_crowded (0 : Int32) mA (U_X11_sleeps  mA M))))) + (1 : Int32)) 212) ∧ (x1 < 0 → (V_X11_sleeps  mA M) < (10 : Int32) → ((U_X11_sleeps  mA M).1 mA 16) < 0 → 0 ≤ (if (V_X11_crowded (0 : Int32) mA (U_X11_sleeps  mA M)) < 0 then (V_X11_crowded (1 : Int32) mA (U_X11_sleeps  mA M)) else (V_X11_crowded (0 : Int32) mA (U_X11_sleeps  mA M))) → P_X11_putAtStart (if (V_X11_crowded (0 : Int32) mA (U_X11_sleeps  mA M)) < 0 then (V_X11_crowded (1 : Int32) mA (U_X11_sleeps  mA M)) else (V_X11_crowded (0 : Int32) mA (U_X11_sleeps  mA M))) mA (U_X11_sleeps  mA M)) ∧ (x1 < 0 → (V_X11_sleeps  mA M) < (10 : Int32) → ((U_X11_sleeps  mA M).1 mA 16) < 0 → 0 ≤ (if (V_X11_crowded (0 : Int32) mA (U_X11_sleeps  mA M)) < 0 then (V_X11_crowded (1 : Int32) mA (U_X11_sleeps  mA M)) else (V_X11_crowded (0 : Int32) mA (U_X11_sleeps  mA M))) → ((U_X11_putAtStart (if (V_X11_crowded (0 : Int32) mA (U_X11_sleeps  mA M)) < 0 then (V_X11_crowded (1 : Int32) mA (U_X11_sleeps  mA M)) else (V_X11_crowded (0 : Int32) mA (U_X11_sleeps  mA M))) mA (U_X11_sleeps  mA M)).1 mA 16) = (if (V_X11_crowded (0 : Int32) mA (U_X11_sleeps  mA M)) < 0 then (V_X11_crowded (1 : Int32) mA (U_X11_sleeps  mA M)) else (V_X11_crowded (0 : Int32) mA (U_X11_sleeps  mA M))) → vp_in (((44 : Int32) + ((16 : Int32) * (if (V_X11_crowded (0 : Int32) mA (U_X11_sleeps  mA M)) < 0 then (V_X11_crowded (1 : Int32) mA (U_X11_sleeps  mA M)) else (V_X11_crowded (0 : Int32) mA (U_X11_sleeps  mA M))))) + (0 : Int32)) 212) ∧ (x1 < 0 → (V_X11_sleeps  mA M) < (10 : Int32) → ((U_X11_sleeps  mA M).1 mA 16) < 0 → 0 ≤ (if (V_X11_crowded (0 : Int32) mA (U_X11_sleeps  mA M)) < 0 then (V_X11_crowded (1 : Int32) mA (U_X11_sleeps  mA M)) else (V_X11_crowded (0 : Int32) mA (U_X11_sleeps  mA M))) → ((U_X11_putAtStart (if (V_X11_crowded (0 : Int32) mA (U_X11_sleeps  mA M)) < 0 then (V_X11_crowded (1 : Int32) mA (U_X11_sleeps  mA M)) else (V_X11_crowded (0 : Int32) mA (U_X11_sleeps  mA M))) mA (U_X11_sleeps  mA M)).1 mA 16) = (if (V_X11_crowded (0 : Int32) mA (U_X11_sleeps  mA M)) < 0 then (V_X11_crowded (1 : Int32) mA (U_X11_sleeps  mA M)) else (V_X11_crowded (0 : Int32) mA (U_X11_sleeps  mA M))) → vp_in (((44 : Int32) + ((16 : Int32) * (if (V_X11_crowded (0 : Int32) mA (U_X11_sleeps  mA M)) < 0 then (V_X11_crowded (1 : Int32) mA (U_X11_sleeps  mA M)) else (V_X11_crowded (0 : Int32) mA (U_X11_sleeps  mA M))))) + (1 : Int32)) 212) ∧ (x1 < 0 → (V_X11_sleeps  mA M) < (10 : Int32) → ¬ (((U_X11_sleeps  mA M).1 mA 16) < 0) → (((U_X11_sleeps  mA M).1 mA 3) - ((U_X11_sleeps  mA M).1 mA 20)) < (12 : Int32) → P_X11_crowded (0 : Int32) mA (U_X11_sleeps  mA M)) ∧ (x1 < 0 → (V_X11_sleeps  mA M) < (10 : Int32) → ¬ (((U_X11_sleeps  mA M).1 mA 16) < 0) → (((U_X11_sleeps  mA M).1 mA 3) - ((U_X11_sleeps  mA M).1 mA 20)) < (12 : Int32) → (V_X11_crowded (0 : Int32) mA (U_X11_sleeps  mA M)) < 0 → P_X11_crowded (1 : Int32) mA (U_X11_sleeps  mA M)) ∧ (x1 < 0 → (V_X11_sleeps  mA M) < (10 : Int32) → ¬ (((U_X11_sleeps  mA M).1 mA 16) < 0) → (((U_X11_sleeps  mA M).1 mA 3) - ((U_X11_sleeps  mA M).1 mA 20)) < (12 : Int32) → ¬ ((V_X11_crowded (0 : Int32) mA (U_X11_sleeps  mA M)) < 0) → P_X11_crowded (0 : Int32) mA (U_X11_sleeps  mA M)) ∧ (x1 < 0 → (V_X11_sleeps  mA M) < (10 : Int32) → ¬ (((U_X11_sleeps  mA M).1 mA 16) < 0) → (((U_X11_sleeps  mA M).1 mA 3) - ((U_X11_sleeps  mA M).1 mA 20)) < (12 : Int32) → 0 ≤ (if (V_X11_crowded (0 : Int32) mA (U_X11_sleeps  mA M)) < 0 then (V_X11_crowded (1 : Int32) mA (U_X11_sleeps  mA M)) else (V_X11_crowded (0 : Int32) mA (U_X11_sleeps  mA M))) → vp_in (((44 : Int32) + ((16 : Int32) * (if (V_X11_crowded (0 : Int32) mA (U_X11_sleeps  mA M)) < 0 then (V_X11_crowded (1 : Int32) mA (U_X11_sleeps  mA M)) else (V_X11_crowded (0 : Int32) mA (U_X11_sleeps  mA M))))) + (0 : Int32)) 212) ∧ (x1 < 0 → (V_X11_sleeps  mA M) < (10 : Int32) → ¬ (((U_X11_sleeps  mA M).1 mA 16) < 0) → (((U_X11_sleeps  mA M).1 mA 3) - ((U_X11_sleeps  mA M).1 mA 20)) < (12 : Int32) → 0 ≤ (if (V_X11_crowded (0 : Int32) mA (U_X11_sleeps  mA M)) < 0 then (V_X11_crowded (1 : Int32) mA (U_X11_sleeps  mA M)) else (V_X11_crowded (0 : Int32) mA (U_X11_sleeps  mA M))) → vp_in (((44 : Int32) + ((16 : Int32) * (if (V_X11_crowded (0 : Int32) mA (U_X11_sleeps  mA M)) < 0 then (V_X11_crowded (1 : Int32) mA (U_X11_sleeps  mA M)) else (V_X11_crowded (0 : Int32) mA (U_X11_sleeps  mA M))))) + (1 : Int32)) 212) ∧ (x1 < 0 → (V_X11_sleeps  mA M) < (10 : Int32) → ¬ (((U_X11_sleeps  mA M).1 mA 16) < 0) → (((U_X11_sleeps  mA M).1 mA 3) - ((U_X11_sleeps  mA M).1 mA 20)) < (12 : Int32) → 0 ≤ (if (V_X11_crowded (0 : Int32) mA (U_X11_sleeps  mA M)) < 0 then (V_X11_crowded (1 : Int32) mA (U_X11_sleeps  mA M)) else (V_X11_crowded (0 : Int32) mA (U_X11_sleeps  mA M))) → P_X11_putAtStart (if (V_X11_crowded (0 : Int32) mA (U_X11_sleeps  mA M)) < 0 then (V_X11_crowded (1 : Int32) mA (U_X11_sleeps  mA M)) else (V_X11_crowded (0 : Int32) mA (U_X11_sleeps  mA M))) mA (U_X11_sleeps  mA M)) ∧ (x1 < 0 → (V_X11_sleeps  mA M) < (10 : Int32) → ¬ (((U_X11_sleeps  mA M).1 mA 16) < 0) → (((U_X11_sleeps  mA M).1 mA 3) - ((U_X11_sleeps  mA M).1 mA 20)) < (12 : Int32) → 0 ≤ (if (V_X11_crowded (0 : Int32) mA (U_X11_sleeps  mA M)) < 0 then (V_X11_crowded (1 : Int32) mA (U_X11_sleeps  mA M)) else (V_X11_crowded (0 : Int32) mA (U_X11_sleeps  mA M))) → ((U_X11_putAtStart (if (V_X11_crowded (0 : Int32) mA (U_X11_sleeps  mA M)) < 0 then (V_X11_crowded (1 : Int32) mA (U_X11_sleeps  mA M)) else (V_X11_crowded (0 : Int32) mA (U_X11_sleeps  mA M))) mA (U_X11_sleeps  mA M)).1 mA 16) = (if (V_X11_crowded (0 : Int32) mA (U_X11_sleeps  mA M)) < 0 then (V_X11_crowded (1 : Int32) mA (U_X11_sleeps  mA M)) else (V_X11_crowded (0 : Int32) mA (U_X11_sleeps  mA M))) → vp_in (((44 : Int32) + ((16 : Int32) * (if (V_X11_crowded (0 : Int32) mA (U_X11_sleeps  mA M)) < 0 then (V_X11_crowded (1 : Int32) mA (U_X11_sleeps  mA M)) else (V_X11_crowded (0 : Int32) mA (U_X11_sleeps  mA M))))) + (0 : Int32)) 212) ∧ (x1 < 0 → (V_X11_sleeps  mA M) < (10 : Int32) → ¬ (((U_X11_sleeps  mA M).1 mA 16) < 0) → (((U_X11_sleeps  mA M).1 mA 3) - ((U_X11_sleeps  mA M).1 mA 20)) < (12 : Int32) → 0 ≤ (if (V_X11_crowded (0 : Int32) mA (U_X11_sleeps  mA M)) < 0 then (V_X11_crowded (1 : Int32) mA (U_X11_sleeps  mA M)) else (V_X11_crowded (0 : Int32) mA (U_X11_sleeps  mA M))) → ((U_X11_putAtStart (if (V_X11_crowded (0 : Int32) mA (U_X11_sleeps  mA M)) < 0 then (V_X11_crowded (1 : Int32) mA (U_X11_sleeps  mA M)) else (V_X11_crowded (0 : Int32) mA (U_X11_sleeps  mA M))) mA (U_X11_sleeps  mA M)).1 mA 16) = (if (V_X11_crowded (0 : Int32) mA (U_X11_sleeps  mA M)) < 0 then (V_X11_crowded (1 : Int32) mA (U_X11_sleeps  mA M)) else (V_X11_crowded (0 : Int32) mA (U_X11_sleeps  mA M))) → vp_in (((44 : Int32) + ((16 : Int32) * (if (V_X11_crowded (0 : Int32) mA (U_X11_sleeps  mA M)) < 0 then (V_X11_crowded (1 : Int32) mA (U_X11_sleeps  mA M)) else (V_X11_crowded (0 : Int32) mA (U_X11_sleeps  mA M))))) + (1 : Int32)) 212) ∧ (x1 < 0 → (V_X11_sleeps  mA M) < (10 : Int32) → ¬ (((U_X11_sleeps  mA M).1 mA 16) < 0) → ¬ ((((U_X11_sleeps  mA M).1 mA 3) - ((U_X11_sleeps  mA M).1 mA 20)) < (12 : Int32)) → P_X11_nearestFoe ((U_X11_sleeps  mA M).1 mA 16) mA (U_X11_sleeps  mA M)) ∧ (x1 < 0 → (V_X11_sleeps  mA M) < (10 : Int32) → ¬ (((U_X11_sleeps  mA M).1 mA 16) < 0) → ¬ ((((U_X11_sleeps  mA M).1 mA 3) - ((U_X11_sleeps  mA M).1 mA 20)) < (12 : Int32)) → vp_in (((44 : Int32) + ((16 : Int32) * (V_X11_nearestFoe ((U_X11_sleeps  mA M).1 mA 16) mA (U_X11_sleeps  mA M)))) + (0 : Int32)) 212) ∧ (x1 < 0 → (V_X11_sleeps  mA M) < (10 : Int32) → ¬ (((U_X11_sleeps  mA M).1 mA 16) < 0) → ¬ ((((U_X11_sleeps  mA M).1 mA 3) - ((U_X11_sleeps  mA M).1 mA 20)) < (12 : Int32)) → vp_in (((44 : Int32) + ((16 : Int32) * (V_X11_nearestFoe ((U_X11_sleeps  mA M).1 mA 16) mA (U_X11_sleeps  mA M)))) + (1 : Int32)) 212) ∧ (x1 < 0 → ¬ ((V_X11_sleeps  mA M) < (10 : Int32)) → P_X11_lay mA (U_X11_sleeps  mA M)) ∧ (¬ (x1 < 0) → vp_in ((4 : Int32) + ((1 : Int32) - x1)) 212) ∧ (¬ (x1 < 0) → P_X11_scored x1 mA M)
theorem S_X11_law {sh : List SC} {M : Mem} {x1 : Int32} {mA : Nat} {oA : Nat} (hb1 : ModelAt sh mA oA)  (hP : P_X11_law x1 mA M) : Gv m_X11_law [.ref 242, .int x1] sh M (.int (V_X11_law x1 mA M)) (U_X11_law x1 mA M) := by
  refine Sp.of (ls := [some (.ref 242), some (.int x1), none]) (by decide +kernel) (Nat.le_of_ble_eq_true rfl) rfl ?_
  obtain ⟨g1, g2, g3, g4, g5, g6, g7, g8, g9, g10, g11, g12, g13, g14, g15, g16, g17, g18, g19, g20, g21, g22⟩ := hP
  have k0 : kd sh 242 = some (10 + 7, 0) := hb1.1
  have k1 : rf sh 242 27 = some mA := hb1.2.2.2.2.2.2.2.2.2.2.2.2.2.2.2.2.2.1
  have k2 : kd sh mA = some (0, 212) := hb1.2.2.2.2.2.2.2.2.2.2.2.2.2.2.2.2.2.2.2.2.2.2.2.2.2.2.2.2.2.2.2.2.2.2.2.2.2.2.2.2.2.2.2.2.2.2.2.2.2.2.2.1
  refine r_iload_n e_X11_law_0 rfl ?_
  refine r_if_lt e_X11_law_1 (fun h1_0 => ?_) (fun h1_0 => ?_)
  · refine r_aload_n e_X11_law_11 rfl ?_
    refine cV0v e_X11_law_12 cl_X11_373 ⟨Nat.le_of_ble_eq_true rfl, Nat.le_of_ble_eq_true rfl⟩ ⟨rfl, rfl⟩ k0 (Nat.le_of_ble_eq_true rfl) (S_X11_sleeps hb1) ?_
    refine r_bipush e_X11_law_15 bp_10 ?_
    refine r_icmp_lt e_X11_law_17 (fun h17_1 => ?_) (fun h17_1 => ?_)
    · refine r_aload_n e_X11_law_26 rfl ?_
      refine r_getR e_X11_law_27 fl_X11_212 k0 k1 ?_
      refine r_bipush e_X11_law_30 bp_16 ?_
      refine r_ialoade (v := ((U_X11_sleeps  mA M).1 mA 16)) e_X11_law_32 k2 (by unfold vp_in; decide) (show (U_X11_sleeps  mA M).1 mA (16 : Int32).toNatClampNeg = (U_X11_sleeps  mA M).1 mA 16 by rw [show (16 : Int32).toNatClampNeg = 16 from rfl]) ?_
      refine r_if_lt e_X11_law_33 (fun h33_2 => ?_) (fun h33_2 => ?_)
      · refine r_aload_n e_X11_law_72 rfl ?_
        refine r_iconst e_X11_law_73 ic_0 ?_
        refine cV1v e_X11_law_74 cl_X11_379 ⟨Nat.le_of_ble_eq_true rfl, Nat.le_of_ble_eq_true rfl⟩ ⟨rfl, rfl⟩ k0 (Nat.le_of_ble_eq_true rfl) (S_X11_crowded hb1 (g1 h1_0 h17_1 h33_2)) ?_
        obtain ⟨v3_0, e_v3_0⟩ : ∃ z : Int32, z = (if (V_X11_crowded (0 : Int32) mA (U_X11_sleeps  mA M)) < 0 then (V_X11_crowded (1 : Int32) mA (U_X11_sleeps  mA M)) else (V_X11_crowded (0 : Int32) mA (U_X11_sleeps  mA M))) := ⟨_, rfl⟩
        suffices j93_3 : WP m_X11_law (fun r sh' M'' => r = some (.int (V_X11_law x1 mA M)) ∧ sh' = sh ∧ M'' = (U_X11_law x1 mA M)) 93 [some (.ref 242), some (.int x1), none] [.int v3_0] sh (U_X11_sleeps  mA M) 0 0 by
          refine r_if_lt e_X11_law_77 (fun h77_3 => ?_) (fun h77_3 => ?_)
          · refine r_aload_n e_X11_law_88 rfl ?_
            refine r_iconst e_X11_law_89 ic_1 ?_
            refine cV1v e_X11_law_90 cl_X11_379 ⟨Nat.le_of_ble_eq_true rfl, Nat.le_of_ble_eq_true rfl⟩ ⟨rfl, rfl⟩ k0 (Nat.le_of_ble_eq_true rfl) (S_X11_crowded hb1 (g2 h1_0 h17_1 h33_2 h77_3)) ?_
            (rw [show v3_0 = (V_X11_crowded (1 : Int32) mA (U_X11_sleeps  mA M)) from (e_v3_0.trans (if_pos h77_3))] at j93_3; exact j93_3)
          · refine r_aload_n e_X11_law_80 rfl ?_
            refine r_iconst e_X11_law_81 ic_0 ?_
            refine cV1v e_X11_law_82 cl_X11_379 ⟨Nat.le_of_ble_eq_true rfl, Nat.le_of_ble_eq_true rfl⟩ ⟨rfl, rfl⟩ k0 (Nat.le_of_ble_eq_true rfl) (S_X11_crowded hb1 (g3 h1_0 h17_1 h33_2 h77_3)) ?_
            refine r_goto e_X11_law_85 ?_
            (rw [show v3_0 = (V_X11_crowded (0 : Int32) mA (U_X11_sleeps  mA M)) from (e_v3_0.trans (if_neg h77_3))] at j93_3; exact j93_3)
        refine p_istore_n_3_2 e_X11_law_93 rfl rfl ?_
        refine r_iload_n e_X11_law_94 rfl ?_
        refine r_if_ge e_X11_law_95 (fun h95_4 => ?_) (fun h95_4 => ?_)
        · refine r_aload_n e_X11_law_100 rfl ?_
          refine r_iload_n e_X11_law_101 rfl ?_
          refine cV1u e_X11_law_102 cl_X11_288 ⟨Nat.le_of_ble_eq_true rfl, Nat.le_of_ble_eq_true rfl⟩ ⟨rfl, rfl⟩ k0 (Nat.le_of_ble_eq_true rfl) (S_X11_putAtStart hb1 (by subst e_v3_0; exact g4 h1_0 h17_1 h33_2 h95_4) (by subst e_v3_0; exact g5 h1_0 h17_1 h33_2 h95_4) (by subst e_v3_0; exact g6 h1_0 h17_1 h33_2 h95_4)) ?_
          refine r_aload_n e_X11_law_105 rfl ?_
          refine r_getR e_X11_law_106 fl_X11_212 k0 k1 ?_
          refine r_bipush e_X11_law_109 bp_16 ?_
          refine r_ialoade (v := ((U_X11_putAtStart v3_0 mA (U_X11_sleeps  mA M)).1 mA 16)) e_X11_law_111 k2 (by unfold vp_in; decide) (show (U_X11_putAtStart v3_0 mA (U_X11_sleeps  mA M)).1 mA (16 : Int32).toNatClampNeg = (U_X11_putAtStart v3_0 mA (U_X11_sleeps  mA M)).1 mA 16 by rw [show (16 : Int32).toNatClampNeg = 16 from rfl]) ?_
          refine r_iload_n e_X11_law_112 rfl ?_
          obtain ⟨M5_0, e_M5_0⟩ : ∃ z : Mem, z = (if ((U_X11_putAtStart v3_0 mA (U_X11_sleeps  mA M)).1 mA 16) = v3_0 then (setI (setI (U_X11_putAtStart v3_0 mA (U_X11_sleeps  mA M)) mA 14 (V_X11_of v3_0 (0 : Int32) mA (U_X11_putAtStart v3_0 mA (U_X11_sleeps  mA M)))) mA 15 (V_X11_of v3_0 (1 : Int32) mA (setI (U_X11_putAtStart v3_0 mA (U_X11_sleeps  mA M)) mA 14 (V_X11_of v3_0 (0 : Int32) mA (U_X11_putAtStart v3_0 mA (U_X11_sleeps  mA M)))))) else (U_X11_putAtStart v3_0 mA (U_X11_sleeps  mA M))) := ⟨_, rfl⟩
          suffices j142_5 : WP m_X11_law (fun r sh' M'' => r = some (.int (V_X11_law x1 mA M)) ∧ sh' = sh ∧ M'' = (U_X11_law x1 mA M)) 142 [some (.ref 242), some (.int x1), some (.int v3_0)] [] sh M5_0 0 0 by
            refine r_icmp_ne e_X11_law_113 (fun h113_5 => ?_) (fun h113_5 => ?_)
            · (rw [show M5_0 = U_X11_putAtStart v3_0 mA (U_X11_sleeps  mA M) from (e_M5_0.trans (if_neg h113_5))] at j142_5; exact j142_5)
            · refine r_aload_n e_X11_law_116 rfl ?_
              refine r_getR e_X11_law_117 fl_X11_212 k0 k1 ?_
              refine r_bipush e_X11_law_120 bp_14 ?_
              refine r_aload_n e_X11_law_122 rfl ?_
              refine r_iload_n e_X11_law_123 rfl ?_
              refine r_iconst e_X11_law_124 ic_0 ?_
              refine cV2v e_X11_law_125 cl_X11_252 ⟨Nat.le_of_ble_eq_true rfl, Nat.le_of_ble_eq_true rfl⟩ ⟨rfl, rfl⟩ k0 (Nat.le_of_ble_eq_true rfl) (S_X11_of hb1 (by subst e_v3_0; exact g7 h1_0 h17_1 h33_2 h95_4 h113_5)) ?_
              refine r_iastore e_X11_law_128 k2 (by unfold vp_in; decide) ?_
              rw [show (14 : Int32).toNatClampNeg = 14 from rfl]
              refine r_aload_n e_X11_law_129 rfl ?_
              refine r_getR e_X11_law_130 fl_X11_212 k0 k1 ?_
              refine r_bipush e_X11_law_133 bp_15 ?_
              refine r_aload_n e_X11_law_135 rfl ?_
              refine r_iload_n e_X11_law_136 rfl ?_
              refine r_iconst e_X11_law_137 ic_1 ?_
              refine cV2v e_X11_law_138 cl_X11_252 ⟨Nat.le_of_ble_eq_true rfl, Nat.le_of_ble_eq_true rfl⟩ ⟨rfl, rfl⟩ k0 (Nat.le_of_ble_eq_true rfl) (S_X11_of hb1 (by subst e_v3_0; exact g8 h1_0 h17_1 h33_2 h95_4 h113_5)) ?_
              refine r_iastore e_X11_law_141 k2 (by unfold vp_in; decide) ?_
              rw [show (15 : Int32).toNatClampNeg = 15 from rfl]
              (rw [show M5_0 = setI (setI (U_X11_putAtStart v3_0 mA (U_X11_sleeps  mA M)) mA 14 (V_X11_of v3_0 (0 : Int32) mA (U_X11_putAtStart v3_0 mA (U_X11_sleeps  mA M)))) mA 15 (V_X11_of v3_0 (1 : Int32) mA (setI (U_X11_putAtStart v3_0 mA (U_X11_sleeps  mA M)) mA 14 (V_X11_of v3_0 (0 : Int32) mA (U_X11_putAtStart v3_0 mA (U_X11_sleeps  mA M))))) from (e_M5_0.trans (if_pos h113_5))] at j142_5; exact j142_5)
          refine r_iconst e_X11_law_142 ic_3 ?_
          refine r_ireturn e_X11_law_143 rfl ⟨rfl, rfl⟩ ?_
          (subst e_M5_0 e_v3_0; refine ⟨?_, rfl, ?_⟩ <;> ((try unfold V_X11_law); (try unfold U_X11_law); (try simp only [if_pos h1_0, if_pos h17_1, if_pos h33_2, if_pos h95_4]); (try rfl)))
        · refine r_iconst e_X11_law_98 ic_m1 ?_
          refine r_ireturn e_X11_law_99 rfl ⟨rfl, rfl⟩ ?_
          (subst e_v3_0; refine ⟨?_, rfl, ?_⟩ <;> ((try unfold V_X11_law); (try unfold U_X11_law); (try simp only [if_pos h1_0, if_pos h17_1, if_pos h33_2, if_neg h95_4]); (try rfl)))
      · refine r_aload_n e_X11_law_36 rfl ?_
        refine r_getR e_X11_law_37 fl_X11_212 k0 k1 ?_
        refine r_iconst e_X11_law_40 ic_3 ?_
        refine r_ialoade (v := ((U_X11_sleeps  mA M).1 mA 3)) e_X11_law_41 k2 (by unfold vp_in; decide) (show (U_X11_sleeps  mA M).1 mA (3 : Int32).toNatClampNeg = (U_X11_sleeps  mA M).1 mA 3 by rw [show (3 : Int32).toNatClampNeg = 3 from rfl]) ?_
        refine r_aload_n e_X11_law_42 rfl ?_
        refine r_getR e_X11_law_43 fl_X11_212 k0 k1 ?_
        refine r_bipush e_X11_law_46 bp_20 ?_
        refine r_ialoade (v := ((U_X11_sleeps  mA M).1 mA 20)) e_X11_law_48 k2 (by unfold vp_in; decide) (show (U_X11_sleeps  mA M).1 mA (20 : Int32).toNatClampNeg = (U_X11_sleeps  mA M).1 mA 20 by rw [show (20 : Int32).toNatClampNeg = 20 from rfl]) ?_
        refine r_isub e_X11_law_49 ?_
        refine r_bipush e_X11_law_50 bp_12 ?_
        refine r_icmp_lt e_X11_law_52 (fun h52_6 => ?_) (fun h52_6 => ?_)
        · refine r_aload_n e_X11_law_72 rfl ?_
          refine r_iconst e_X11_law_73 ic_0 ?_
          refine cV1v e_X11_law_74 cl_X11_379 ⟨Nat.le_of_ble_eq_true rfl, Nat.le_of_ble_eq_true rfl⟩ ⟨rfl, rfl⟩ k0 (Nat.le_of_ble_eq_true rfl) (S_X11_crowded hb1 (g9 h1_0 h17_1 h33_2 h52_6)) ?_
          obtain ⟨v7_0, e_v7_0⟩ : ∃ z : Int32, z = (if (V_X11_crowded (0 : Int32) mA (U_X11_sleeps  mA M)) < 0 then (V_X11_crowded (1 : Int32) mA (U_X11_sleeps  mA M)) else (V_X11_crowded (0 : Int32) mA (U_X11_sleeps  mA M))) := ⟨_, rfl⟩
          suffices j93_7 : WP m_X11_law (fun r sh' M'' => r = some (.int (V_X11_law x1 mA M)) ∧ sh' = sh ∧ M'' = (U_X11_law x1 mA M)) 93 [some (.ref 242), some (.int x1), none] [.int v7_0] sh (U_X11_sleeps  mA M) 0 0 by
            refine r_if_lt e_X11_law_77 (fun h77_7 => ?_) (fun h77_7 => ?_)
            · refine r_aload_n e_X11_law_88 rfl ?_
              refine r_iconst e_X11_law_89 ic_1 ?_
              refine cV1v e_X11_law_90 cl_X11_379 ⟨Nat.le_of_ble_eq_true rfl, Nat.le_of_ble_eq_true rfl⟩ ⟨rfl, rfl⟩ k0 (Nat.le_of_ble_eq_true rfl) (S_X11_crowded hb1 (g10 h1_0 h17_1 h33_2 h52_6 h77_7)) ?_
              (rw [show v7_0 = (V_X11_crowded (1 : Int32) mA (U_X11_sleeps  mA M)) from (e_v7_0.trans (if_pos h77_7))] at j93_7; exact j93_7)
            · refine r_aload_n e_X11_law_80 rfl ?_
              refine r_iconst e_X11_law_81 ic_0 ?_
              refine cV1v e_X11_law_82 cl_X11_379 ⟨Nat.le_of_ble_eq_true rfl, Nat.le_of_ble_eq_true rfl⟩ ⟨rfl, rfl⟩ k0 (Nat.le_of_ble_eq_true rfl) (S_X11_crowded hb1 (g11 h1_0 h17_1 h33_2 h52_6 h77_7)) ?_
              refine r_goto e_X11_law_85 ?_
              (rw [show v7_0 = (V_X11_crowded (0 : Int32) mA (U_X11_sleeps  mA M)) from (e_v7_0.trans (if_neg h77_7))] at j93_7; exact j93_7)
          refine p_istore_n_3_2 e_X11_law_93 rfl rfl ?_
          refine r_iload_n e_X11_law_94 rfl ?_
          refine r_if_ge e_X11_law_95 (fun h95_8 => ?_) (fun h95_8 => ?_)
          · refine r_aload_n e_X11_law_100 rfl ?_
            refine r_iload_n e_X11_law_101 rfl ?_
            refine cV1u e_X11_law_102 cl_X11_288 ⟨Nat.le_of_ble_eq_true rfl, Nat.le_of_ble_eq_true rfl⟩ ⟨rfl, rfl⟩ k0 (Nat.le_of_ble_eq_true rfl) (S_X11_putAtStart hb1 (by subst e_v7_0; exact g12 h1_0 h17_1 h33_2 h52_6 h95_8) (by subst e_v7_0; exact g13 h1_0 h17_1 h33_2 h52_6 h95_8) (by subst e_v7_0; exact g14 h1_0 h17_1 h33_2 h52_6 h95_8)) ?_
            refine r_aload_n e_X11_law_105 rfl ?_
            refine r_getR e_X11_law_106 fl_X11_212 k0 k1 ?_
            refine r_bipush e_X11_law_109 bp_16 ?_
            refine r_ialoade (v := ((U_X11_putAtStart v7_0 mA (U_X11_sleeps  mA M)).1 mA 16)) e_X11_law_111 k2 (by unfold vp_in; decide) (show (U_X11_putAtStart v7_0 mA (U_X11_sleeps  mA M)).1 mA (16 : Int32).toNatClampNeg = (U_X11_putAtStart v7_0 mA (U_X11_sleeps  mA M)).1 mA 16 by rw [show (16 : Int32).toNatClampNeg = 16 from rfl]) ?_
            refine r_iload_n e_X11_law_112 rfl ?_
            obtain ⟨M9_0, e_M9_0⟩ : ∃ z : Mem, z = (if ((U_X11_putAtStart v7_0 mA (U_X11_sleeps  mA M)).1 mA 16) = v7_0 then (setI (setI (U_X11_putAtStart v7_0 mA (U_X11_sleeps  mA M)) mA 14 (V_X11_of v7_0 (0 : Int32) mA (U_X11_putAtStart v7_0 mA (U_X11_sleeps  mA M)))) mA 15 (V_X11_of v7_0 (1 : Int32) mA (setI (U_X11_putAtStart v7_0 mA (U_X11_sleeps  mA M)) mA 14 (V_X11_of v7_0 (0 : Int32) mA (U_X11_putAtStart v7_0 mA (U_X11_sleeps  mA M)))))) else (U_X11_putAtStart v7_0 mA (U_X11_sleeps  mA M))) := ⟨_, rfl⟩
            suffices j142_9 : WP m_X11_law (fun r sh' M'' => r = some (.int (V_X11_law x1 mA M)) ∧ sh' = sh ∧ M'' = (U_X11_law x1 mA M)) 142 [some (.ref 242), some (.int x1), some (.int v7_0)] [] sh M9_0 0 0 by
              refine r_icmp_ne e_X11_law_113 (fun h113_9 => ?_) (fun h113_9 => ?_)
              · (rw [show M9_0 = U_X11_putAtStart v7_0 mA (U_X11_sleeps  mA M) from (e_M9_0.trans (if_neg h113_9))] at j142_9; exact j142_9)
              · refine r_aload_n e_X11_law_116 rfl ?_
                refine r_getR e_X11_law_117 fl_X11_212 k0 k1 ?_
                refine r_bipush e_X11_law_120 bp_14 ?_
                refine r_aload_n e_X11_law_122 rfl ?_
                refine r_iload_n e_X11_law_123 rfl ?_
                refine r_iconst e_X11_law_124 ic_0 ?_
                refine cV2v e_X11_law_125 cl_X11_252 ⟨Nat.le_of_ble_eq_true rfl, Nat.le_of_ble_eq_true rfl⟩ ⟨rfl, rfl⟩ k0 (Nat.le_of_ble_eq_true rfl) (S_X11_of hb1 (by subst e_v7_0; exact g15 h1_0 h17_1 h33_2 h52_6 h95_8 h113_9)) ?_
                refine r_iastore e_X11_law_128 k2 (by unfold vp_in; decide) ?_
                rw [show (14 : Int32).toNatClampNeg = 14 from rfl]
                refine r_aload_n e_X11_law_129 rfl ?_
                refine r_getR e_X11_law_130 fl_X11_212 k0 k1 ?_
                refine r_bipush e_X11_law_133 bp_15 ?_
                refine r_aload_n e_X11_law_135 rfl ?_
                refine r_iload_n e_X11_law_136 rfl ?_
                refine r_iconst e_X11_law_137 ic_1 ?_
                refine cV2v e_X11_law_138 cl_X11_252 ⟨Nat.le_of_ble_eq_true rfl, Nat.le_of_ble_eq_true rfl⟩ ⟨rfl, rfl⟩ k0 (Nat.le_of_ble_eq_true rfl) (S_X11_of hb1 (by subst e_v7_0; exact g16 h1_0 h17_1 h33_2 h52_6 h95_8 h113_9)) ?_
                refine r_iastore e_X11_law_141 k2 (by unfold vp_in; decide) ?_
                rw [show (15 : Int32).toNatClampNeg = 15 from rfl]
                (rw [show M9_0 = setI (setI (U_X11_putAtStart v7_0 mA (U_X11_sleeps  mA M)) mA 14 (V_X11_of v7_0 (0 : Int32) mA (U_X11_putAtStart v7_0 mA (U_X11_sleeps  mA M)))) mA 15 (V_X11_of v7_0 (1 : Int32) mA (setI (U_X11_putAtStart v7_0 mA (U_X11_sleeps  mA M)) mA 14 (V_X11_of v7_0 (0 : Int32) mA (U_X11_putAtStart v7_0 mA (U_X11_sleeps  mA M))))) from (e_M9_0.trans (if_pos h113_9))] at j142_9; exact j142_9)
            refine r_iconst e_X11_law_142 ic_3 ?_
            refine r_ireturn e_X11_law_143 rfl ⟨rfl, rfl⟩ ?_
            (subst e_M9_0 e_v7_0; refine ⟨?_, rfl, ?_⟩ <;> ((try unfold V_X11_law); (try unfold U_X11_law); (try simp only [if_pos h1_0, if_pos h17_1, if_neg h33_2, if_pos h52_6, if_pos h95_8]); (try rfl)))
          · refine r_iconst e_X11_law_98 ic_m1 ?_
            refine r_ireturn e_X11_law_99 rfl ⟨rfl, rfl⟩ ?_
            (subst e_v7_0; refine ⟨?_, rfl, ?_⟩ <;> ((try unfold V_X11_law); (try unfold U_X11_law); (try simp only [if_pos h1_0, if_pos h17_1, if_neg h33_2, if_pos h52_6, if_neg h95_8]); (try rfl)))
        · refine r_aload_n e_X11_law_55 rfl ?_
          refine r_aload_n e_X11_law_56 rfl ?_
          refine r_aload_n e_X11_law_57 rfl ?_
          refine r_getR e_X11_law_58 fl_X11_212 k0 k1 ?_
          refine r_bipush e_X11_law_61 bp_16 ?_
          refine r_ialoade (v := ((U_X11_sleeps  mA M).1 mA 16)) e_X11_law_63 k2 (by unfold vp_in; decide) (show (U_X11_sleeps  mA M).1 mA (16 : Int32).toNatClampNeg = (U_X11_sleeps  mA M).1 mA 16 by rw [show (16 : Int32).toNatClampNeg = 16 from rfl]) ?_
          refine cV1v e_X11_law_64 cl_X11_376 ⟨Nat.le_of_ble_eq_true rfl, Nat.le_of_ble_eq_true rfl⟩ ⟨rfl, rfl⟩ k0 (Nat.le_of_ble_eq_true rfl) (S_X11_nearestFoe hb1 (g17 h1_0 h17_1 h33_2 h52_6)) ?_
          refine cV1u e_X11_law_67 cl_X11_367 ⟨Nat.le_of_ble_eq_true rfl, Nat.le_of_ble_eq_true rfl⟩ ⟨rfl, rfl⟩ k0 (Nat.le_of_ble_eq_true rfl) (S_X11_hold hb1 (g18 h1_0 h17_1 h33_2 h52_6) (g19 h1_0 h17_1 h33_2 h52_6)) ?_
          refine r_iconst e_X11_law_70 ic_2 ?_
          refine r_ireturn e_X11_law_71 rfl ⟨rfl, rfl⟩ ?_
          (refine ⟨?_, rfl, ?_⟩ <;> ((try unfold V_X11_law); (try unfold U_X11_law); (try simp only [if_pos h1_0, if_pos h17_1, if_neg h33_2, if_neg h52_6]); (try rfl)))
    · refine r_aload_n e_X11_law_20 rfl ?_
      refine cV0u e_X11_law_21 cl_X11_292 ⟨Nat.le_of_ble_eq_true rfl, Nat.le_of_ble_eq_true rfl⟩ ⟨rfl, rfl⟩ k0 (Nat.le_of_ble_eq_true rfl) (S_X11_lay hb1 (g20 h1_0 h17_1)) ?_
      refine r_iconst e_X11_law_24 ic_1 ?_
      refine r_ireturn e_X11_law_25 rfl ⟨rfl, rfl⟩ ?_
      (refine ⟨?_, rfl, ?_⟩ <;> ((try unfold V_X11_law); (try unfold U_X11_law); (try simp only [if_pos h1_0, if_neg h17_1]); (try rfl)))
  · refine r_aload_n e_X11_law_4 rfl ?_
    refine r_iload_n e_X11_law_5 rfl ?_
    refine cV1u e_X11_law_6 cl_X11_370 ⟨Nat.le_of_ble_eq_true rfl, Nat.le_of_ble_eq_true rfl⟩ ⟨rfl, rfl⟩ k0 (Nat.le_of_ble_eq_true rfl) (S_X11_scored hb1 (g21 h1_0) (g22 h1_0)) ?_
    refine r_iconst e_X11_law_9 ic_0 ?_
    refine r_ireturn e_X11_law_10 rfl ⟨rfl, rfl⟩ ?_
    (refine ⟨?_, rfl, ?_⟩ <;> ((try unfold V_X11_law); (try unfold U_X11_law); (try simp only [if_neg h1_0]); (try rfl)))
def V_X10_begin (x1 : Int32) (x2 : Int32) (M : Mem) : Int32 := if (V_X10_isTeam x1 M) = 0 then (V_X10_finding (-1001 : Int32) M) else (if (V_X10_isTeam x2 M) = 0 then (V_X10_finding (-1001 : Int32) M) else (1 : Int32))
def U_X10_begin (x1 : Int32) (x2 : Int32) (M : Mem) : Mem := if (V_X10_isTeam x1 M) = 0 then (U_X10_finding (-1001 : Int32) M) else (if (V_X10_isTeam x2 M) = 0 then (U_X10_finding (-1001 : Int32) M) else (U_X2_open 122 x1 x2 M))
theorem S_X10_begin {sh : List SC} {M : Mem} {x1 : Int32} {x2 : Int32}  (hb1 : PitchAt sh)  : Gv m_X10_begin [.ref 0, .int x1, .int x2] sh M (.int (V_X10_begin x1 x2 M)) (U_X10_begin x1 x2 M) := by
  refine Sp.of (ls := [some (.ref 0), some (.int x1), some (.int x2)]) (by decide +kernel) (Nat.le_of_ble_eq_true rfl) rfl ?_
  have k0 : kd sh 0 = some (9 + 7, 0) := hb1.1
  have k1 : rf sh 0 4 = some 122 := hb1.2.2.2.2.2.1
  have k2 : kd sh 122 = some (2 + 7, 0) := hb1.2.2.2.2.2.2.2.2.2.2.2.2.2.2.2.2.1.1
  refine r_iload_n e_X10_begin_0 rfl ?_
  refine cS1v e_X10_begin_1 cl_X10_89 ⟨Nat.le_of_ble_eq_true rfl, Nat.le_of_ble_eq_true rfl⟩ ⟨rfl, rfl⟩  (Nat.le_of_ble_eq_true rfl) (S_X10_isTeam ) ?_
  refine r_if_eq e_X10_begin_4 (fun h4_0 => ?_) (fun h4_0 => ?_)
  · refine r_aload_n e_X10_begin_14 rfl ?_
    refine r_sipush e_X10_begin_15 sp_m1001 ?_
    refine cV1v e_X10_begin_18 cl_X10_70 ⟨Nat.le_of_ble_eq_true rfl, Nat.le_of_ble_eq_true rfl⟩ ⟨rfl, rfl⟩ k0 (Nat.le_of_ble_eq_true rfl) (S_X10_finding hb1) ?_
    refine r_ireturn e_X10_begin_21 rfl ⟨rfl, rfl⟩ ?_
    (refine ⟨?_, rfl, ?_⟩ <;> ((try unfold V_X10_begin); (try unfold U_X10_begin); (try simp only [if_pos h4_0]); (try rfl)))
  · refine r_iload_n e_X10_begin_7 rfl ?_
    refine cS1v e_X10_begin_8 cl_X10_89 ⟨Nat.le_of_ble_eq_true rfl, Nat.le_of_ble_eq_true rfl⟩ ⟨rfl, rfl⟩  (Nat.le_of_ble_eq_true rfl) (S_X10_isTeam ) ?_
    refine r_if_ne e_X10_begin_11 (fun h11_1 => ?_) (fun h11_1 => ?_)
    · refine r_aload_n e_X10_begin_22 rfl ?_
      refine r_getR e_X10_begin_23 fl_X10_63 k0 k1 ?_
      refine r_iload_n e_X10_begin_26 rfl ?_
      refine r_iload_n e_X10_begin_27 rfl ?_
      refine cV2u e_X10_begin_28 cl_X10_111 ⟨Nat.le_of_ble_eq_true rfl, Nat.le_of_ble_eq_true rfl⟩ ⟨rfl, rfl⟩ k2 (Nat.le_of_ble_eq_true rfl) (S_X2_open hb1.2.2.2.2.2.2.2.2.2.2.2.2.2.2.2.2.1) ?_
      refine r_iconst e_X10_begin_31 ic_1 ?_
      refine r_ireturn e_X10_begin_32 rfl ⟨rfl, rfl⟩ ?_
      (refine ⟨?_, rfl, ?_⟩ <;> ((try unfold V_X10_begin); (try unfold U_X10_begin); (try simp only [if_neg h4_0, if_neg h11_1]); (try rfl)))
    · refine r_aload_n e_X10_begin_14 rfl ?_
      refine r_sipush e_X10_begin_15 sp_m1001 ?_
      refine cV1v e_X10_begin_18 cl_X10_70 ⟨Nat.le_of_ble_eq_true rfl, Nat.le_of_ble_eq_true rfl⟩ ⟨rfl, rfl⟩ k0 (Nat.le_of_ble_eq_true rfl) (S_X10_finding hb1) ?_
      refine r_ireturn e_X10_begin_21 rfl ⟨rfl, rfl⟩ ?_
      (refine ⟨?_, rfl, ?_⟩ <;> ((try unfold V_X10_begin); (try unfold U_X10_begin); (try simp only [if_neg h4_0, if_pos h11_1]); (try rfl)))
def V_X11_test (M : Mem) : Int32 := if (V_X11_sum  M) = 0 then (0 : Int32) else (if ((U_X11_sum  M).1 242 5) = (60 : Int32) then (V_X11_sum  (U_X11_keepWord  (U_X11_sum  M))) else (if ((U_X11_sum  M).1 242 5) = (61 : Int32) then (V_X11_sum  (U_X11_keepWord  (U_X11_sum  M))) else (if ((U_X11_sum  M).1 242 5) = (62 : Int32) then (V_X11_sum  (U_X11_keepWord  (U_X11_sum  M))) else (V_X11_wrong  (U_X11_sum  M)))))
theorem Z_X11_test {M : Mem}    : V_X11_test  M = 0 ∨ V_X11_test  M = 1 := (zi (Or.inl rfl) (zi Z_X11_sum (zi Z_X11_sum (zi Z_X11_sum Z_X11_wrong))))
def U_X11_test (M : Mem) : Mem := if (V_X11_sum  M) = 0 then (U_X11_sum  M) else (if ((U_X11_sum  M).1 242 5) = (60 : Int32) then (U_X11_sum  (U_X11_keepWord  (U_X11_sum  M))) else (if ((U_X11_sum  M).1 242 5) = (61 : Int32) then (U_X11_sum  (U_X11_keepWord  (U_X11_sum  M))) else (if ((U_X11_sum  M).1 242 5) = (62 : Int32) then (U_X11_sum  (U_X11_keepWord  (U_X11_sum  M))) else (U_X11_wrong  (U_X11_sum  M)))))
def P_X11_test (M : Mem) : Prop := (P_X11_sum  M) ∧ (¬ ((V_X11_sum  M) = 0) → ((U_X11_sum  M).1 242 5) = (60 : Int32) → vp_in (((800 : Int32) * ((U_X11_sum  M).1 242 8)) + ((U_X11_sum  M).1 242 11)) 4800) ∧ (¬ ((V_X11_sum  M) = 0) → ((U_X11_sum  M).1 242 5) = (60 : Int32) → P_X11_keepWord  (U_X11_sum  M)) ∧ (¬ ((V_X11_sum  M) = 0) → ((U_X11_sum  M).1 242 5) = (60 : Int32) → P_X11_sum  (U_X11_keepWord  (U_X11_sum  M))) ∧ (¬ ((V_X11_sum  M) = 0) → ¬ (((U_X11_sum  M).1 242 5) = (60 : Int32)) → ((U_X11_sum  M).1 242 5) = (61 : Int32) → vp_in (((800 : Int32) * ((U_X11_sum  M).1 242 8)) + ((U_X11_sum  M).1 242 11)) 4800) ∧ (¬ ((V_X11_sum  M) = 0) → ¬ (((U_X11_sum  M).1 242 5) = (60 : Int32)) → ((U_X11_sum  M).1 242 5) = (61 : Int32) → P_X11_keepWord  (U_X11_sum  M)) ∧ (¬ ((V_X11_sum  M) = 0) → ¬ (((U_X11_sum  M).1 242 5) = (60 : Int32)) → ((U_X11_sum  M).1 242 5) = (61 : Int32) → P_X11_sum  (U_X11_keepWord  (U_X11_sum  M))) ∧ (¬ ((V_X11_sum  M) = 0) → ¬ (((U_X11_sum  M).1 242 5) = (60 : Int32)) → ¬ (((U_X11_sum  M).1 242 5) = (61 : Int32)) → ((U_X11_sum  M).1 242 5) = (62 : Int32) → vp_in (((800 : Int32) * ((U_X11_sum  M).1 242 8)) + ((U_X11_sum  M).1 242 11)) 4800) ∧ (¬ ((V_X11_sum  M) = 0) → ¬ (((U_X11_sum  M).1 242 5) = (60 : Int32)) → ¬ (((U_X11_sum  M).1 242 5) = (61 : Int32)) → ((U_X11_sum  M).1 242 5) = (62 : Int32) → P_X11_keepWord  (U_X11_sum  M)) ∧ (¬ ((V_X11_sum  M) = 0) → ¬ (((U_X11_sum  M).1 242 5) = (60 : Int32)) → ¬ (((U_X11_sum  M).1 242 5) = (61 : Int32)) → ((U_X11_sum  M).1 242 5) = (62 : Int32) → P_X11_sum  (U_X11_keepWord  (U_X11_sum  M)))
theorem S_X11_test {sh : List SC} {M : Mem}  {mA : Nat} {oA : Nat} (hb1 : ModelAt sh mA oA)  (hP : P_X11_test  M) : Gv m_X11_test [.ref 242] sh M (.int (V_X11_test  M)) (U_X11_test  M) := by
  refine Sp.of (ls := [some (.ref 242)]) (by decide +kernel) (Nat.le_of_ble_eq_true rfl) rfl ?_
  obtain ⟨g1, g2, g3, g4, g5, g6, g7, g8, g9, g10⟩ := hP
  have k0 : kd sh 242 = some (10 + 7, 0) := hb1.1
  refine r_aload_n e_X11_test_0 rfl ?_
  refine cV0v e_X11_test_1 cl_X11_150 ⟨Nat.le_of_ble_eq_true rfl, Nat.le_of_ble_eq_true rfl⟩ ⟨rfl, rfl⟩ k0 (Nat.le_of_ble_eq_true rfl) (S_X11_sum hb1 g1) ?_
  refine r_if_ne e_X11_test_4 (fun h4_0 => ?_) (fun h4_0 => ?_)
  · refine r_aload_n e_X11_test_9 rfl ?_
    refine r_getI e_X11_test_10 fl_X11_28 i0 k0 ?_
    refine r_bipush e_X11_test_13 bp_60 ?_
    refine r_icmp_eq e_X11_test_15 (fun h15_1 => ?_) (fun h15_1 => ?_)
    · refine r_aload_n e_X11_test_41 rfl ?_
      refine cV0v e_X11_test_42 cl_X11_117 ⟨Nat.le_of_ble_eq_true rfl, Nat.le_of_ble_eq_true rfl⟩ ⟨rfl, rfl⟩ k0 (Nat.le_of_ble_eq_true rfl) (S_X11_keepWord hb1 (g2 h4_0 h15_1) (g3 h4_0 h15_1)) ?_
      refine r_pop e_X11_test_45 rfl ?_
      refine r_aload_n e_X11_test_46 rfl ?_
      refine cV0v e_X11_test_47 cl_X11_150 ⟨Nat.le_of_ble_eq_true rfl, Nat.le_of_ble_eq_true rfl⟩ ⟨rfl, rfl⟩ k0 (Nat.le_of_ble_eq_true rfl) (S_X11_sum hb1 (g4 h4_0 h15_1)) ?_
      refine r_zreturn e_X11_test_50 rfl ⟨rfl, rfl⟩ (Z_X11_sum) ?_
      (refine ⟨?_, rfl, ?_⟩ <;> ((try unfold V_X11_test); (try unfold U_X11_test); (try simp only [if_neg h4_0, if_pos h15_1]); (try rfl)))
    · refine r_aload_n e_X11_test_18 rfl ?_
      refine r_getI e_X11_test_19 fl_X11_28 i0 k0 ?_
      refine r_bipush e_X11_test_22 bp_61 ?_
      refine r_icmp_eq e_X11_test_24 (fun h24_2 => ?_) (fun h24_2 => ?_)
      · refine r_aload_n e_X11_test_41 rfl ?_
        refine cV0v e_X11_test_42 cl_X11_117 ⟨Nat.le_of_ble_eq_true rfl, Nat.le_of_ble_eq_true rfl⟩ ⟨rfl, rfl⟩ k0 (Nat.le_of_ble_eq_true rfl) (S_X11_keepWord hb1 (g5 h4_0 h15_1 h24_2) (g6 h4_0 h15_1 h24_2)) ?_
        refine r_pop e_X11_test_45 rfl ?_
        refine r_aload_n e_X11_test_46 rfl ?_
        refine cV0v e_X11_test_47 cl_X11_150 ⟨Nat.le_of_ble_eq_true rfl, Nat.le_of_ble_eq_true rfl⟩ ⟨rfl, rfl⟩ k0 (Nat.le_of_ble_eq_true rfl) (S_X11_sum hb1 (g7 h4_0 h15_1 h24_2)) ?_
        refine r_zreturn e_X11_test_50 rfl ⟨rfl, rfl⟩ (Z_X11_sum) ?_
        (refine ⟨?_, rfl, ?_⟩ <;> ((try unfold V_X11_test); (try unfold U_X11_test); (try simp only [if_neg h4_0, if_neg h15_1, if_pos h24_2]); (try rfl)))
      · refine r_aload_n e_X11_test_27 rfl ?_
        refine r_getI e_X11_test_28 fl_X11_28 i0 k0 ?_
        refine r_bipush e_X11_test_31 bp_62 ?_
        refine r_icmp_eq e_X11_test_33 (fun h33_3 => ?_) (fun h33_3 => ?_)
        · refine r_aload_n e_X11_test_41 rfl ?_
          refine cV0v e_X11_test_42 cl_X11_117 ⟨Nat.le_of_ble_eq_true rfl, Nat.le_of_ble_eq_true rfl⟩ ⟨rfl, rfl⟩ k0 (Nat.le_of_ble_eq_true rfl) (S_X11_keepWord hb1 (g8 h4_0 h15_1 h24_2 h33_3) (g9 h4_0 h15_1 h24_2 h33_3)) ?_
          refine r_pop e_X11_test_45 rfl ?_
          refine r_aload_n e_X11_test_46 rfl ?_
          refine cV0v e_X11_test_47 cl_X11_150 ⟨Nat.le_of_ble_eq_true rfl, Nat.le_of_ble_eq_true rfl⟩ ⟨rfl, rfl⟩ k0 (Nat.le_of_ble_eq_true rfl) (S_X11_sum hb1 (g10 h4_0 h15_1 h24_2 h33_3)) ?_
          refine r_zreturn e_X11_test_50 rfl ⟨rfl, rfl⟩ (Z_X11_sum) ?_
          (refine ⟨?_, rfl, ?_⟩ <;> ((try unfold V_X11_test); (try unfold U_X11_test); (try simp only [if_neg h4_0, if_neg h15_1, if_neg h24_2, if_pos h33_3]); (try rfl)))
        · refine r_aload_n e_X11_test_36 rfl ?_
          refine cV0v e_X11_test_37 cl_X11_121 ⟨Nat.le_of_ble_eq_true rfl, Nat.le_of_ble_eq_true rfl⟩ ⟨rfl, rfl⟩ k0 (Nat.le_of_ble_eq_true rfl) (S_X11_wrong hb1) ?_
          refine r_zreturn e_X11_test_40 rfl ⟨rfl, rfl⟩ (Z_X11_wrong) ?_
          (refine ⟨?_, rfl, ?_⟩ <;> ((try unfold V_X11_test); (try unfold U_X11_test); (try simp only [if_neg h4_0, if_neg h15_1, if_neg h24_2, if_neg h33_3]); (try rfl)))
  · refine r_iconst e_X11_test_7 ic_0 ?_
    refine r_zreturn e_X11_test_8 rfl ⟨rfl, rfl⟩ (by first | exact Or.inl rfl | exact Or.inr rfl) ?_
    (refine ⟨?_, rfl, ?_⟩ <;> ((try unfold V_X11_test); (try unfold U_X11_test); (try simp only [if_pos h4_0]); (try rfl)))
def V_X11_begin (x1 : Int32) (x2 : Int32) (mA : Nat) (M : Mem) : Int32 := if (V_X11_isTeam x1 M) = 0 then (V_X11_finding (-1001 : Int32) M) else (if (V_X11_isTeam x2 M) = 0 then (V_X11_finding (-1001 : Int32) M) else (1 : Int32))
def U_X11_begin (x1 : Int32) (x2 : Int32) (mA : Nat) (M : Mem) : Mem := if (V_X11_isTeam x1 M) = 0 then (U_X11_finding (-1001 : Int32) M) else (if (V_X11_isTeam x2 M) = 0 then (U_X11_finding (-1001 : Int32) M) else (U_X11_beginMatch x1 x2 mA M))
def P_X11_begin (x1 : Int32) (x2 : Int32) (mA : Nat) (M : Mem) : Prop := (¬ ((V_X11_isTeam x1 M) = 0) → ¬ ((V_X11_isTeam x2 M) = 0) → P_X11_beginMatch x1 x2 mA M)
theorem S_X11_begin {sh : List SC} {M : Mem} {x1 : Int32} {x2 : Int32} {mA : Nat} {oA : Nat} (hb1 : ModelAt sh mA oA)  (hP : P_X11_begin x1 x2 mA M) : Gv m_X11_begin [.ref 242, .int x1, .int x2] sh M (.int (V_X11_begin x1 x2 mA M)) (U_X11_begin x1 x2 mA M) := by
  refine Sp.of (ls := [some (.ref 242), some (.int x1), some (.int x2)]) (by decide +kernel) (Nat.le_of_ble_eq_true rfl) rfl ?_
  have g1 : ¬ ((V_X11_isTeam x1 M) = 0) → ¬ ((V_X11_isTeam x2 M) = 0) → P_X11_beginMatch x1 x2 mA M := hP
  have k0 : kd sh 242 = some (10 + 7, 0) := hb1.1
  refine r_iload_n e_X11_begin_0 rfl ?_
  refine cS1v e_X11_begin_1 cl_X11_249 ⟨Nat.le_of_ble_eq_true rfl, Nat.le_of_ble_eq_true rfl⟩ ⟨rfl, rfl⟩  (Nat.le_of_ble_eq_true rfl) (S_X11_isTeam ) ?_
  refine r_if_eq e_X11_begin_4 (fun h4_0 => ?_) (fun h4_0 => ?_)
  · refine r_aload_n e_X11_begin_14 rfl ?_
    refine r_sipush e_X11_begin_15 sp_m1001 ?_
    refine cV1v e_X11_begin_18 cl_X11_178 ⟨Nat.le_of_ble_eq_true rfl, Nat.le_of_ble_eq_true rfl⟩ ⟨rfl, rfl⟩ k0 (Nat.le_of_ble_eq_true rfl) (S_X11_finding hb1 (by first | decide | (unfold vp_in; decide) | exact Or.inl rfl | exact Or.inr rfl)) ?_
    refine r_ireturn e_X11_begin_21 rfl ⟨rfl, rfl⟩ ?_
    (refine ⟨?_, rfl, ?_⟩ <;> ((try unfold V_X11_begin); (try unfold U_X11_begin); (try simp only [if_pos h4_0]); (try rfl)))
  · refine r_iload_n e_X11_begin_7 rfl ?_
    refine cS1v e_X11_begin_8 cl_X11_249 ⟨Nat.le_of_ble_eq_true rfl, Nat.le_of_ble_eq_true rfl⟩ ⟨rfl, rfl⟩  (Nat.le_of_ble_eq_true rfl) (S_X11_isTeam ) ?_
    refine r_if_ne e_X11_begin_11 (fun h11_1 => ?_) (fun h11_1 => ?_)
    · refine r_aload_n e_X11_begin_22 rfl ?_
      refine r_iload_n e_X11_begin_23 rfl ?_
      refine r_iload_n e_X11_begin_24 rfl ?_
      refine cV2u e_X11_begin_25 cl_X11_298 ⟨Nat.le_of_ble_eq_true rfl, Nat.le_of_ble_eq_true rfl⟩ ⟨rfl, rfl⟩ k0 (Nat.le_of_ble_eq_true rfl) (S_X11_beginMatch hb1 (g1 h4_0 h11_1)) ?_
      refine r_iconst e_X11_begin_28 ic_1 ?_
      refine r_ireturn e_X11_begin_29 rfl ⟨rfl, rfl⟩ ?_
      (refine ⟨?_, rfl, ?_⟩ <;> ((try unfold V_X11_begin); (try unfold U_X11_begin); (try simp only [if_neg h4_0, if_neg h11_1]); (try rfl)))
    · refine r_aload_n e_X11_begin_14 rfl ?_
      refine r_sipush e_X11_begin_15 sp_m1001 ?_
      refine cV1v e_X11_begin_18 cl_X11_178 ⟨Nat.le_of_ble_eq_true rfl, Nat.le_of_ble_eq_true rfl⟩ ⟨rfl, rfl⟩ k0 (Nat.le_of_ble_eq_true rfl) (S_X11_finding hb1 (by first | decide | (unfold vp_in; decide) | exact Or.inl rfl | exact Or.inr rfl)) ?_
      refine r_ireturn e_X11_begin_21 rfl ⟨rfl, rfl⟩ ?_
      (refine ⟨?_, rfl, ?_⟩ <;> ((try unfold V_X11_begin); (try unfold U_X11_begin); (try simp only [if_neg h4_0, if_pos h11_1]); (try rfl)))
