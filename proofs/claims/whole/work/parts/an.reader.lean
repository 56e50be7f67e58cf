/-! ===== constructors: the reader, and the words that it knows ===== -/
section CT5
variable {Q : Po} {sh : List SC} {n : Nat}
/-- the words' codes: each word ends with a blank -/
def lnW : List Int32 → Int64 → List Int64
  | [], _ => []
  | c :: l, u => if c = 32 then u :: lnW l 0 else lnW l (u * 32 + (c - 97 + 1).toInt64)
def lnM (b : Nat) : List Int32 → Nat → Int64 → Mem → Mem
  | [], _, _, M => M
  | c :: l, w, u, M => if c = 32 then lnM b l (w + 1) 0 (setJ M b w u) else lnM b l w (u * 32 + (c - 97 + 1).toInt64) M
theorem getD_at {l : List Int32} {j : Nat} (hl : j < l.length) : l.getD j 0 = l[j] := by
  rw [List.getD_eq_getElem?_getD, List.getElem?_eq_getElem hl]
  rfl
theorem learn_loop {i a : Nat} {z : Int32} (hi : i < 3) (k0 : kd sh a = some (4 + 7, 0)) (k1 : rf sh a 1 = some (a + 2)) (k2 : kd sh (a + 2) = some (1, 25)) : ∀ (k j w : Nat) (u : Int64) (o7 : Option Value) (M : Mem), j + k = txN i → w + (lnW ((txByt.getD i []).drop j) u).length ≤ 25 → (∀ M', M' = lnM (a + 2) ((txByt.getD i []).drop j) w u M → Q none sh M') → WP m_X4_learn Q 8 [some (.ref a), some (.retAddr (i + 2)), some (.int z), some (.int (nI w)), some (.long u), none, some (.int (nI j)), o7] [] sh M 0 0 := by
  have hN := txN_lt hi
  have hlen : (txByt.getD i []).length = txN i := by
    rcases (show i = 0 ∨ i = 1 ∨ i = 2 by omega) with rfl | rfl | rfl <;> rfl
  intro k
  induction k with
  | zero =>
    intro j w u o7 M hj hw hE
    obtain rfl : j = txN i := by omega
    refine r_iload e_X4_learn_8 rfl ?_
    refine r_aloadX_n e_X4_learn_10 rfl ?_
    refine cVX_v (As := []) (st := [.int (nI (txN i))]) hi e_X4_learn_11 jl_X4_55 ⟨Nat.le_of_ble_eq_true rfl, Nat.le_of_ble_eq_true rfl⟩ ⟨rfl, rfl⟩ rfl (Nat.le_of_ble_eq_true rfl) (S_slen hi) rfl ⟨Nat.zero_le _, Nat.zero_le _⟩ ?_
    refine r_icmp_ge e_X4_learn_14 (fun _ => ?_) (fun q => absurd (Int32.le_refl _) q)
    refine r_return e_X4_learn_73 rfl ⟨rfl, rfl⟩ (hE M ?_)
    rw [List.drop_eq_nil_of_le (by rw [hlen]; exact Nat.le_refl _)]
    rfl
  | succ k ih =>
    intro j w u o7 M hj hw hE
    have hlt : j < txN i := by omega
    have hd : (txByt.getD i []).drop j = txB i j :: (txByt.getD i []).drop (j + 1) := by
      have hl : j < (txByt.getD i []).length := by rw [hlen]; exact hlt
      rw [List.drop_eq_getElem_cons hl]
      congr 1
      show _ = (txByt.getD i []).getD j 0
      exact (getD_at hl).symm
    rw [hd] at hw hE
    refine r_iload e_X4_learn_8 rfl ?_
    refine r_aloadX_n e_X4_learn_10 rfl ?_
    refine cVX_v (As := []) (st := [.int (nI j)]) hi e_X4_learn_11 jl_X4_55 ⟨Nat.le_of_ble_eq_true rfl, Nat.le_of_ble_eq_true rfl⟩ ⟨rfl, rfl⟩ rfl (Nat.le_of_ble_eq_true rfl) (S_slen hi) rfl ⟨Nat.zero_le _, Nat.zero_le _⟩ ?_
    refine r_icmp_ge e_X4_learn_14 (fun q => absurd q (nI_ge hlt (by omega))) (fun _ => ?_)
    refine r_aloadX_n e_X4_learn_17 rfl ?_
    refine r_iload e_X4_learn_18 rfl ?_
    refine cVX_v (As := [.int (nI j)]) (st := []) hi e_X4_learn_20 jl_X4_61 ⟨Nat.le_of_ble_eq_true rfl, Nat.le_of_ble_eq_true rfl⟩ ⟨rfl, rfl⟩ rfl (Nat.le_of_ble_eq_true rfl) (S_schar hi hlt) rfl ⟨Nat.zero_le _, Nat.zero_le _⟩ ?_
    refine p_istore_8_7 e_X4_learn_23 rfl rfl ?_
    refine r_iload e_X4_learn_25 rfl ?_
    refine r_bipush e_X4_learn_27 bp_32 ?_
    refine r_icmp_eq e_X4_learn_29 (fun c => ?_) (fun c => ?_)
    · rw [lnW, if_pos c] at hw
      rw [lnM, if_pos c] at hE
      have hw2 : w + 1 + (lnW ((txByt.getD i []).drop (j + 1)) 0).length ≤ 25 := by
        have := hw
        rw [List.length_cons] at this
        omega
      refine r_iload_n e_X4_learn_44 rfl ?_
      refine r_aload_n e_X4_learn_45 rfl ?_
      refine r_getR e_X4_learn_46 fl_X4_17 k0 k1 ?_
      refine r_alen (v := (25 : Int32)) e_X4_learn_49 k2 (by decide) rfl ?_
      refine r_icmp_ge e_X4_learn_50 (fun q => absurd q (nI_ge (b := 25) (by omega) (by decide))) (fun _ => ?_)
      refine r_aload_n e_X4_learn_53 rfl ?_
      refine r_getR e_X4_learn_54 fl_X4_17 k0 k1 ?_
      refine r_iload_n e_X4_learn_57 rfl ?_
      refine r_lload e_X4_learn_58 rfl ?_
      refine r_lastore e_X4_learn_60 k2 (in_nI (show w < 25 by omega) (by decide)) ?_
      rw [nI_clamp (show w < 2 ^ 31 by omega)]
      refine p_iinc_8_3 e_X4_learn_61 rfl ic_1 rfl ?_
      rw [nI_1 w]
      refine r_lconst e_X4_learn_64 rfl ?_
      refine p_lstore_8_4 e_X4_learn_65 rfl rfl ?_
      refine p_iinc_8_6 e_X4_learn_67 rfl ic_1 rfl ?_
      rw [nI_1 j]
      refine r_goto e_X4_learn_70 ?_
      exact ih (j + 1) (w + 1) 0 _ _ (by omega) hw2 hE
    · rw [lnW, if_neg c] at hw
      rw [lnM, if_neg c] at hE
      refine r_lload e_X4_learn_32 rfl ?_
      refine r_iload e_X4_learn_34 rfl ?_
      refine cS2v e_X4_learn_36 cl_X4_65 ⟨Nat.le_of_ble_eq_true rfl, Nat.le_of_ble_eq_true rfl⟩ ⟨rfl, rfl⟩ (Nat.le_of_ble_eq_true rfl) (S_X4_pack) ?_
      refine p_lstore_8_4 e_X4_learn_39 rfl rfl ?_
      refine r_goto e_X4_learn_41 ?_
      refine p_iinc_8_6 e_X4_learn_67 rfl ic_1 rfl ?_
      rw [nI_1 j]
      refine r_goto e_X4_learn_70 ?_
      exact ih (j + 1) w _ _ _ (by omega) hw hE
theorem S_learn {i a w : Nat} {M : Mem} (hi : i < 3) (k0 : kd sh a = some (4 + 7, 0)) (k1 : rf sh a 1 = some (a + 2)) (k2 : kd sh (a + 2) = some (1, 25)) (hw : w + (lnW (txByt.getD i []) 0).length ≤ 25) : Gu m_X4_learn [.ref a, .retAddr (i + 2), .int (nI w)] sh M (lnM (a + 2) (txByt.getD i []) w 0 M) := by
  refine Sp.of (ls := [some (.ref a), some (.retAddr (i + 2)), some (.int (nI w)), none, none, none, none, none]) (by decide +kernel) (Nat.le_of_ble_eq_true rfl) rfl ?_
  refine r_iload_n e_X4_learn_0 rfl ?_
  refine p_istore_n_8_3 e_X4_learn_1 rfl rfl ?_
  refine r_lconst e_X4_learn_2 rfl ?_
  refine p_lstore_8_4 e_X4_learn_3 rfl rfl ?_
  refine r_iconst e_X4_learn_5 ic_0 ?_
  refine p_istore_8_6 e_X4_learn_6 rfl rfl ?_
  exact learn_loop hi k0 k1 k2 (txN i) 0 w 0 none M (Nat.zero_add _) (by rw [List.drop_zero]; exact hw) (fun M' e => by rw [List.drop_zero] at e; exact ⟨rfl, rfl, e⟩)
def B_X4 (n : Nat) : List SC := [(4 + 7, 0, [some (n + 1), some (n + 2), some (n + 3), some (n + 4), some (n + 5), none, none, none, none, none]), (0, 800, []), (1, 25, []), (0, 801, []), (1, 801, []), (0, 801, [])]
def MB_X4 (n : Nat) (M : Mem) : Mem := lnM (n + 2) (txByt.getD 1 []) 13 0 (lnM (n + 2) (txByt.getD 0 []) 0 0 (setI M n 9 (-1 : Int32)))
theorem S_X4_init {sh0 : List SC} {M : Mem} (hn : sh0.length = n) (hw : WfS sh0) (hz : Zm n M) : Sp m_X4_init [.ref n] (sh0 ++ [(4 + 7, 0, List.replicate 10 none)]) M (fun r sh' M' => r = none ∧ sh' = sh0 ++ B_X4 n ∧ M' = MB_X4 n M) := by
  refine Sp.of (ls := [some (.ref n)]) (by decide +kernel) (Nat.le_of_ble_eq_true rfl) rfl ?_
  refine r_aload_n e_X4_init_0 rfl ?_
  refine r_objInit e_X4_init_1 ob_X4 ⟨Nat.le_of_ble_eq_true rfl, Nat.le_of_ble_eq_true rfl⟩ ?_
  refine r_aload_n e_X4_init_4 rfl ?_
  refine r_sipush (v := (800 : Int32)) e_X4_init_5 (by decide) ?_
  refine c_newarr (q := n + 1) (l' := [(4 + 7, 0, [none, none, none, none, none, none, none, none, none, none]), (0, 800, [])]) (t := 0) (N := 800) hn e_X4_init_8 (by decide) rfl aw_int (by decide) rfl (Nat.le_of_ble_eq_true rfl) hw ⟨trivial, trivial⟩ ⟨(show n < n + 1 by omega), trivial⟩ ⟨(show n < n + 1 by omega), trivial⟩ rfl ((show zq _ _ from hz (n + 1) (by omega))) ⟨Nat.le_of_ble_eq_true rfl, Nat.le_of_ble_eq_true rfl⟩ rfl ?_
  refine c_putRF (l' := [(4 + 7, 0, [some (n + 1), none, none, none, none, none, none, none, none, none]), (0, 800, [])]) (i := 0) hn e_X4_init_10 fl_X4_9 rfl rfl rfl rfl (show 0 < 10 from Nat.le_of_ble_eq_true rfl) rfl ?_
  refine r_aload_n e_X4_init_13 rfl ?_
  refine r_bipush (v := (25 : Int32)) e_X4_init_14 rfl ?_
  refine c_newarr (q := n + 2) (l' := [(4 + 7, 0, [some (n + 1), none, none, none, none, none, none, none, none, none]), (0, 800, []), (1, 25, [])]) (t := 1) (N := 25) hn e_X4_init_16 (by decide) rfl aw_long (by decide) rfl (Nat.le_of_ble_eq_true rfl) hw ⟨⟨(show n + 1 < n + 2 by omega), trivial⟩, ⟨trivial, trivial⟩⟩ ⟨(show n < n + 2 by omega), trivial⟩ ⟨(show n < n + 2 by omega), trivial⟩ rfl ((show zq _ _ from hz (n + 2) (by omega))) ⟨Nat.le_of_ble_eq_true rfl, Nat.le_of_ble_eq_true rfl⟩ rfl ?_
  refine c_putRF (l' := [(4 + 7, 0, [some (n + 1), some (n + 2), none, none, none, none, none, none, none, none]), (0, 800, []), (1, 25, [])]) (i := 0) hn e_X4_init_18 fl_X4_17 rfl rfl rfl rfl (show 1 < 10 from Nat.le_of_ble_eq_true rfl) rfl ?_
  refine r_aload_n e_X4_init_21 rfl ?_
  refine r_sipush (v := (801 : Int32)) e_X4_init_22 (by decide) ?_
  refine c_newarr (q := n + 3) (l' := [(4 + 7, 0, [some (n + 1), some (n + 2), none, none, none, none, none, none, none, none]), (0, 800, []), (1, 25, []), (0, 801, [])]) (t := 0) (N := 801) hn e_X4_init_25 (by decide) rfl aw_int (by decide) rfl (Nat.le_of_ble_eq_true rfl) hw ⟨⟨(show n + 1 < n + 3 by omega), ⟨(show n + 2 < n + 3 by omega), trivial⟩⟩, ⟨trivial, ⟨trivial, trivial⟩⟩⟩ ⟨(show n < n + 3 by omega), trivial⟩ ⟨(show n < n + 3 by omega), trivial⟩ rfl ((show zq _ _ from hz (n + 3) (by omega))) ⟨Nat.le_of_ble_eq_true rfl, Nat.le_of_ble_eq_true rfl⟩ rfl ?_
  refine c_putRF (l' := [(4 + 7, 0, [some (n + 1), some (n + 2), some (n + 3), none, none, none, none, none, none, none]), (0, 800, []), (1, 25, []), (0, 801, [])]) (i := 0) hn e_X4_init_27 fl_X4_21 rfl rfl rfl rfl (show 2 < 10 from Nat.le_of_ble_eq_true rfl) rfl ?_
  refine r_aload_n e_X4_init_30 rfl ?_
  refine r_sipush (v := (801 : Int32)) e_X4_init_31 (by decide) ?_
  refine c_newarr (q := n + 4) (l' := [(4 + 7, 0, [some (n + 1), some (n + 2), some (n + 3), none, none, none, none, none, none, none]), (0, 800, []), (1, 25, []), (0, 801, []), (1, 801, [])]) (t := 1) (N := 801) hn e_X4_init_34 (by decide) rfl aw_long (by decide) rfl (Nat.le_of_ble_eq_true rfl) hw ⟨⟨(show n + 1 < n + 4 by omega), ⟨(show n + 2 < n + 4 by omega), ⟨(show n + 3 < n + 4 by omega), trivial⟩⟩⟩, ⟨trivial, ⟨trivial, ⟨trivial, trivial⟩⟩⟩⟩ ⟨(show n < n + 4 by omega), trivial⟩ ⟨(show n < n + 4 by omega), trivial⟩ rfl ((show zq _ _ from hz (n + 4) (by omega))) ⟨Nat.le_of_ble_eq_true rfl, Nat.le_of_ble_eq_true rfl⟩ rfl ?_
  refine c_putRF (l' := [(4 + 7, 0, [some (n + 1), some (n + 2), some (n + 3), some (n + 4), none, none, none, none, none, none]), (0, 800, []), (1, 25, []), (0, 801, []), (1, 801, [])]) (i := 0) hn e_X4_init_36 fl_X4_24 rfl rfl rfl rfl (show 3 < 10 from Nat.le_of_ble_eq_true rfl) rfl ?_
  refine r_aload_n e_X4_init_39 rfl ?_
  refine r_sipush (v := (801 : Int32)) e_X4_init_40 (by decide) ?_
  refine c_newarr (q := n + 5) (l' := [(4 + 7, 0, [some (n + 1), some (n + 2), some (n + 3), some (n + 4), none, none, none, none, none, none]), (0, 800, []), (1, 25, []), (0, 801, []), (1, 801, []), (0, 801, [])]) (t := 0) (N := 801) hn e_X4_init_43 (by decide) rfl aw_int (by decide) rfl (Nat.le_of_ble_eq_true rfl) hw ⟨⟨(show n + 1 < n + 5 by omega), ⟨(show n + 2 < n + 5 by omega), ⟨(show n + 3 < n + 5 by omega), ⟨(show n + 4 < n + 5 by omega), trivial⟩⟩⟩⟩, ⟨trivial, ⟨trivial, ⟨trivial, ⟨trivial, trivial⟩⟩⟩⟩⟩ ⟨(show n < n + 5 by omega), trivial⟩ ⟨(show n < n + 5 by omega), trivial⟩ rfl ((show zq _ _ from hz (n + 5) (by omega))) ⟨Nat.le_of_ble_eq_true rfl, Nat.le_of_ble_eq_true rfl⟩ rfl ?_
  refine c_putRF (l' := [(4 + 7, 0, [some (n + 1), some (n + 2), some (n + 3), some (n + 4), some (n + 5), none, none, none, none, none]), (0, 800, []), (1, 25, []), (0, 801, []), (1, 801, []), (0, 801, [])]) (i := 0) hn e_X4_init_45 fl_X4_27 rfl rfl rfl rfl (show 4 < 10 from Nat.le_of_ble_eq_true rfl) rfl ?_
  refine r_aload_n e_X4_init_48 rfl ?_
  refine r_iconst e_X4_init_49 ic_0 ?_
  refine c_put0 (i := 0) hn e_X4_init_50 fl_X4_30 rfl rfl ((hz n (by omega) 5).1) ?_
  refine r_aload_n e_X4_init_53 rfl ?_
  refine r_iconst e_X4_init_54 ic_0 ?_
  refine c_put0 (i := 0) hn e_X4_init_55 fl_X4_34 rfl rfl ((hz n (by omega) 6).1) ?_
  refine r_aload_n e_X4_init_58 rfl ?_
  refine r_iconst e_X4_init_59 ic_0 ?_
  refine c_put0 (i := 0) hn e_X4_init_60 fl_X4_37 rfl rfl ((hz n (by omega) 7).1) ?_
  refine r_aload_n e_X4_init_63 rfl ?_
  refine r_lconst e_X4_init_64 rfl ?_
  refine c_putJ0 (i := 0) hn e_X4_init_65 fl_X4_40 rfl rfl ((hz n (by omega) 8).2) ?_
  refine r_aload_n e_X4_init_68 rfl ?_
  refine r_iconst e_X4_init_69 ic_m1 ?_
  refine r_putI e_X4_init_70 fl_X4_44 (kd_app (i := 0) hn rfl rfl) ?_
  show WP m_X4_init _ 73 [some (.ref n)] [] (sh0 ++ B_X4 n) _ _ _
  have k0 : kd (sh0 ++ B_X4 n) n = some (4 + 7, 0) := kd_app (i := 0) hn rfl rfl
  have k1 : rf (sh0 ++ B_X4 n) n 1 = some (n + 2) := rf_app (i := 0) hn rfl rfl rfl
  have k2 : kd (sh0 ++ B_X4 n) (n + 2) = some (1, 25) := kd_app (i := 2) hn rfl rfl
  refine r_aload_n e_X4_init_73 rfl ?_
  refine r_ldcX (x := 2) e_X4_init_74 (fun _ _ _ h => h.2.2.2.2.2.2.1) ?_
  refine r_iconst e_X4_init_76 ic_0 ?_
  refine r_callV (As := [.retAddr 2, .int (nI 0)]) (st := []) e_X4_init_77 cl_X4_49 ⟨Nat.le_of_ble_eq_true rfl, Nat.le_of_ble_eq_true rfl⟩ ⟨rfl, rfl⟩ k0 rfl (Nat.le_of_ble_eq_true rfl) (S_learn (i := 0) (w := 0) (by decide) k0 k1 k2 (by decide +kernel)) (Aft.keep (fun r sh' M'' hq => by
    obtain ⟨rfl, rfl, rfl⟩ := hq
    refine ⟨rfl, ?_⟩
    refine r_aload_n e_X4_init_80 rfl ?_
    refine r_ldcX (x := 3) e_X4_init_81 (fun _ _ _ h => h.2.2.2.2.2.2.2.1) ?_
    refine r_bipush (v := (13 : Int32)) e_X4_init_83 rfl ?_
    refine r_callV (As := [.retAddr 3, .int (nI 13)]) (st := []) e_X4_init_85 cl_X4_49 ⟨Nat.le_of_ble_eq_true rfl, Nat.le_of_ble_eq_true rfl⟩ ⟨rfl, rfl⟩ k0 rfl (Nat.le_of_ble_eq_true rfl) (S_learn (i := 1) (w := 13) (by decide) k0 k1 k2 (by decide +kernel)) (Aft.keep (fun r sh' M'' hq => by
      obtain ⟨rfl, rfl, rfl⟩ := hq
      refine ⟨rfl, ?_⟩
      exact r_return e_X4_init_88 rfl ⟨rfl, rfl⟩ ⟨rfl, rfl, rfl⟩)) rfl ⟨Nat.le_of_ble_eq_true rfl, Nat.le_of_ble_eq_true rfl⟩)) rfl ⟨Nat.le_of_ble_eq_true rfl, Nat.le_of_ble_eq_true rfl⟩
end CT5
