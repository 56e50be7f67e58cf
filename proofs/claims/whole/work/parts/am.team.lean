/-! ===== constructors: a team ===== -/
section CT4
variable {k : MT} {Q : Po} {pc pc' idx : Nat} {ls : List (Option Value)} {st : List Value} {sh : List SC} {M : Mem} {n1 n2 : Nat}
theorem cSN_v {k' : MT} {n : Nat} {As : List Value} {v : Value} {M' : Mem} {st0 : List Value} (hd : Inx k pc (.invokestatic idx) 3 pc') (hC : CSN k.1.cls idx k' n) (hR : Rm k k') (hr : k'.2.2.2.2.2.2.1 = 0 ∧ k'.2.2.2.2.2.2.2 = 0) (hn : As.length = n) (hst : stOk st) (hM : Gv k' As sh M v M') (hs : st0 = As.reverse ++ st) (hw : n1 ≤ k.2.2.2.2.2.2.1 ∧ n2 ≤ k.2.2.2.2.2.2.2) (h : WP k Q pc' ls (v :: st) sh M' n1 n2) : WP k Q pc ls st0 sh M n1 n2 :=
  r_callSN hd hC hR hr hn hst hM (Aft.keep (fun r sh' M'' hq => by obtain ⟨rfl, rfl, rfl⟩ := hq; exact ⟨rfl, h⟩)) hs hw
def fX (j : Nat) : Int32 := ([1, 3, 3, 5, 5] : List Int32).getD j 0
def fY (j : Nat) : Int32 := ([4, 2, 6, 3, 5] : List Int32).getD j 0
theorem xt_X : XT .int 0 5 fX := fun _ _ _ h => h.2.2.1.2.1
theorem xt_Y : XT .int 1 5 fY := fun _ _ _ h => h.2.2.1.2.2.2
theorem gl_X8_28 : Cond.fieldLink RX8 28 "ToyPitch$Team" "FIRST_X" "[I" ∈ lw_good := good_mem (tb_1 (List.mem_of_getElem? (i := 236) (rfl : tables_1_1[236]? = some (Cond.fieldLink RX8 28 "ToyPitch$Team" "FIRST_X" "[I")))) (by decide +kernel)
theorem gl_X8_35 : Cond.fieldLink RX8 35 "ToyPitch$Team" "FIRST_Y" "[I" ∈ lw_good := good_mem (tb_2 (List.mem_of_getElem? (i := 1) (rfl : tables_1_2[1]? = some (Cond.fieldLink RX8 35 "ToyPitch$Team" "FIRST_Y" "[I")))) (by decide +kernel)
def B_X8 (n : Nat) : List SC := [(8 + 7, 0, [some (n + 1), some (n + 2), some (n + 3), none, none]), (0, 5, []), (0, 5, []), (0, 5, [])]
def tMl (n : Nat) : Nat → Nat → Mem → Mem
  | 0, _, M => M
  | k + 1, i, M => tMl n k (i + 1) (setI (setI (setI M (n + 1) i (-1)) (n + 2) i (fX i)) (n + 3) i (fY i))
theorem X8_init_loop {sh0 : List SC} {n : Nat} (hn : sh0.length = n) : ∀ (k i : Nat) (M : Mem), i + k = 5 → WP m_X8_init Q 81 [some (.ref n), some (.int (nI 5))] [] (sh0 ++ B_X8 n) (tMl n k i M) 3 15 → WP m_X8_init Q 37 [some (.ref n), some (.int (nI i))] [] (sh0 ++ B_X8 n) M 3 15 := by
  intro k
  induction k with
  | zero =>
    intro i M hi hE
    obtain rfl : i = 5 := by omega
    refine r_iload_n e_X8_init_37 rfl ?_
    refine r_iconst e_X8_init_38 ic_5 ?_
    exact r_icmp_ge e_X8_init_39 (fun _ => hE) (fun hh => absurd (show (5 : Int32) ≤ nI 5 by decide) hh)
  | succ k ih =>
    intro i M hi hE
    have hlt : i < 5 := by omega
    have hcl : (nI i).toNatClampNeg = i := nI_clamp (by omega)
    have hin : vp_in (nI i) 5 := by unfold vp_in; rw [hcl]; intro q; rcases q with q | q; exact absurd q (nI_pos (by omega)); omega
    have k0 : kd (sh0 ++ B_X8 n) n = some (8 + 7, 0) := kd_app (i := 0) hn rfl rfl
    have k1 : kd (sh0 ++ B_X8 n) (n + 1) = some (0, 5) := kd_app (i := 1) hn rfl rfl
    have k2 : kd (sh0 ++ B_X8 n) (n + 2) = some (0, 5) := kd_app (i := 2) hn rfl rfl
    have k3 : kd (sh0 ++ B_X8 n) (n + 3) = some (0, 5) := kd_app (i := 3) hn rfl rfl
    refine r_iload_n e_X8_init_37 rfl ?_
    refine r_iconst e_X8_init_38 ic_5 ?_
    refine r_icmp_ge e_X8_init_39 (fun hh => absurd hh (nI_ge (b := 5) hlt (by decide))) (fun _ => ?_)
    refine r_aload_n e_X8_init_42 rfl ?_
    refine r_getR (b := n + 1) e_X8_init_43 fl_X8_9 k0 (rf_app (i := 0) hn rfl rfl rfl) ?_
    refine r_iload_n e_X8_init_46 rfl ?_
    refine r_iconst e_X8_init_47 ic_m1 ?_
    refine r_iastore e_X8_init_48 k1 hin ?_
    rw [hcl]
    refine r_aload_n e_X8_init_49 rfl ?_
    refine r_getR (b := n + 2) e_X8_init_50 fl_X8_15 k0 (rf_app (i := 0) hn rfl rfl rfl) ?_
    refine r_iload_n e_X8_init_53 rfl ?_
    refine r_getsX (x := 0) e_X8_init_54 (fun _ _ _ h => h.2.2.1.1) gl_X8_28 ?_
    refine r_iload_n e_X8_init_57 rfl ?_
    refine cSN_v (As := [.retAddr 0, .int (nI i)]) (st := [.int (nI i), .ref (n + 2)]) e_X8_init_58 cl_X8_31 ⟨Nat.le_of_ble_eq_true rfl, Nat.le_of_ble_eq_true rfl⟩ ⟨rfl, rfl⟩ rfl (Nat.le_of_ble_eq_true rfl) (S_atX xt_X (by decide) hlt) rfl ⟨Nat.le_of_ble_eq_true rfl, Nat.le_of_ble_eq_true rfl⟩ ?_
    refine r_iastore e_X8_init_61 k2 hin ?_
    rw [hcl]
    refine r_aload_n e_X8_init_62 rfl ?_
    refine r_getR (b := n + 3) e_X8_init_63 fl_X8_18 k0 (rf_app (i := 0) hn rfl rfl rfl) ?_
    refine r_iload_n e_X8_init_66 rfl ?_
    refine r_getsX (x := 1) e_X8_init_67 (fun _ _ _ h => h.2.2.1.2.2.1) gl_X8_35 ?_
    refine r_iload_n e_X8_init_70 rfl ?_
    refine cSN_v (As := [.retAddr 1, .int (nI i)]) (st := [.int (nI i), .ref (n + 3)]) e_X8_init_71 cl_X8_31 ⟨Nat.le_of_ble_eq_true rfl, Nat.le_of_ble_eq_true rfl⟩ ⟨rfl, rfl⟩ rfl (Nat.le_of_ble_eq_true rfl) (S_atX xt_Y (by decide) hlt) rfl ⟨Nat.le_of_ble_eq_true rfl, Nat.le_of_ble_eq_true rfl⟩ ?_
    refine r_iastore e_X8_init_74 k3 hin ?_
    rw [hcl]
    refine p_iinc_2_1 e_X8_init_75 rfl ic_1 rfl ?_
    rw [nI_1 i]
    refine r_goto e_X8_init_78 ?_
    exact ih (i + 1) _ (by omega) hE
theorem S_X8_init {sh0 : List SC} {n : Nat} {M : Mem} (hn : sh0.length = n) (hw : WfS sh0) (hz : Zm n M) : Sp m_X8_init [.ref n] (sh0 ++ [(8 + 7, 0, List.replicate 5 none)]) M (fun r sh' M' => r = none ∧ sh' = sh0 ++ B_X8 n ∧ M' = tMl n 5 0 M) := by
  refine Sp.of (ls := [some (.ref n), none]) (by decide +kernel) (Nat.le_of_ble_eq_true rfl) rfl ?_
  refine r_aload_n e_X8_init_0 rfl ?_
  refine r_objInit e_X8_init_1 ob_X8 ⟨Nat.le_of_ble_eq_true rfl, Nat.le_of_ble_eq_true rfl⟩ ?_
  refine r_aload_n e_X8_init_4 rfl ?_
  refine r_iconst e_X8_init_5 ic_5 ?_
  refine c_newarr (q := n + 1) (l' := [(8 + 7, 0, [none, none, none, none, none]), (0, 5, [])]) (t := 0) (N := 5) hn e_X8_init_6 (by decide) rfl aw_int (by decide) rfl (Nat.le_of_ble_eq_true rfl) hw ⟨trivial, trivial⟩ ⟨(show n < n + 1 by omega), trivial⟩ ⟨(show n < n + 1 by omega), trivial⟩ rfl ((show zq _ _ from hz (n + 1) (by omega))) ⟨Nat.le_of_ble_eq_true rfl, Nat.le_of_ble_eq_true rfl⟩ rfl ?_
  refine c_putRF (l' := [(8 + 7, 0, [some (n + 1), none, none, none, none]), (0, 5, [])]) (i := 0) hn e_X8_init_8 fl_X8_9 rfl rfl rfl rfl (show 0 < 5 from Nat.le_of_ble_eq_true rfl) rfl ?_
  refine r_aload_n e_X8_init_11 rfl ?_
  refine r_iconst e_X8_init_12 ic_5 ?_
  refine c_newarr (q := n + 2) (l' := [(8 + 7, 0, [some (n + 1), none, none, none, none]), (0, 5, []), (0, 5, [])]) (t := 0) (N := 5) hn e_X8_init_13 (by decide) rfl aw_int (by decide) rfl (Nat.le_of_ble_eq_true rfl) hw ⟨⟨(show n + 1 < n + 2 by omega), trivial⟩, ⟨trivial, trivial⟩⟩ ⟨(show n < n + 2 by omega), trivial⟩ ⟨(show n < n + 2 by omega), trivial⟩ rfl ((show zq _ _ from hz (n + 2) (by omega))) ⟨Nat.le_of_ble_eq_true rfl, Nat.le_of_ble_eq_true rfl⟩ rfl ?_
  refine c_putRF (l' := [(8 + 7, 0, [some (n + 1), some (n + 2), none, none, none]), (0, 5, []), (0, 5, [])]) (i := 0) hn e_X8_init_15 fl_X8_15 rfl rfl rfl rfl (show 1 < 5 from Nat.le_of_ble_eq_true rfl) rfl ?_
  refine r_aload_n e_X8_init_18 rfl ?_
  refine r_iconst e_X8_init_19 ic_5 ?_
  refine c_newarr (q := n + 3) (l' := [(8 + 7, 0, [some (n + 1), some (n + 2), none, none, none]), (0, 5, []), (0, 5, []), (0, 5, [])]) (t := 0) (N := 5) hn e_X8_init_20 (by decide) rfl aw_int (by decide) rfl (Nat.le_of_ble_eq_true rfl) hw ⟨⟨(show n + 1 < n + 3 by omega), ⟨(show n + 2 < n + 3 by omega), trivial⟩⟩, ⟨trivial, ⟨trivial, trivial⟩⟩⟩ ⟨(show n < n + 3 by omega), trivial⟩ ⟨(show n < n + 3 by omega), trivial⟩ rfl ((show zq _ _ from hz (n + 3) (by omega))) ⟨Nat.le_of_ble_eq_true rfl, Nat.le_of_ble_eq_true rfl⟩ rfl ?_
  refine c_putRF (l' := [(8 + 7, 0, [some (n + 1), some (n + 2), some (n + 3), none, none]), (0, 5, []), (0, 5, []), (0, 5, [])]) (i := 0) hn e_X8_init_22 fl_X8_18 rfl rfl rfl rfl (show 2 < 5 from Nat.le_of_ble_eq_true rfl) rfl ?_
  refine r_aload_n e_X8_init_25 rfl ?_
  refine r_iconst e_X8_init_26 ic_0 ?_
  refine c_put0 (i := 0) hn e_X8_init_27 fl_X8_21 rfl rfl ((hz n (by omega) 3).1) ?_
  refine r_aload_n e_X8_init_30 rfl ?_
  refine r_iconst e_X8_init_31 ic_0 ?_
  refine c_put0 (i := 0) hn e_X8_init_32 fl_X8_25 rfl rfl ((hz n (by omega) 4).1) ?_
  refine r_iconst e_X8_init_35 ic_0 ?_
  refine p_istore_n_2_1 e_X8_init_36 rfl rfl ?_
  exact X8_init_loop hn 5 0 _ rfl (r_return e_X8_init_81 rfl ⟨rfl, rfl⟩ ⟨rfl, rfl, rfl⟩)
end CT4
