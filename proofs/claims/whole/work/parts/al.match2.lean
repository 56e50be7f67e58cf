section CT3
def rbs (n i : Nat) : List (Option Nat) := (List.range i).map (fun r => some (n + 10 + 2 * r)) ++ List.replicate (10 - i) none
def robL (n : Nat) : Nat → List SC
  | 0 => []
  | i + 1 => robL n i ++ B_X5 (n + 10 + 2 * i)
def mL (n i : Nat) : List SC := mBase n (rbs n i) ++ robL n i
def tnr (i : Nat) : Int32 := if i < 5 then 0 else 1
def mMl (n : Nat) : Nat → Nat → Mem → Mem
  | 0, _, M => M
  | k + 1, i, M => mMl n k (i + 1) (MB_X5 (n + 10 + 2 * i) (nI (i % 5)) (tnr i) M)
theorem robL_len {n : Nat} : ∀ i, (robL n i).length = 2 * i
  | 0 => rfl
  | i + 1 => by
    rw [robL, List.length_append, robL_len i]
    show 2 * i + 2 = _
    omega
theorem mL_len {n i : Nat} : (mL n i).length = 10 + 2 * i := by
  unfold mL
  rw [List.length_append, robL_len]
  rfl
theorem rbs_len {n i : Nat} (h : i ≤ 10) : (rbs n i).length = 10 := by
  unfold rbs
  rw [List.length_append, List.length_map, List.length_range, List.length_replicate]
  omega
theorem rbs_set {n i : Nat} (h : i < 10) : (rbs n i).set i (some (n + 10 + 2 * i)) = rbs n (i + 1) := by
  rcases (show i = 0 ∨ i = 1 ∨ i = 2 ∨ i = 3 ∨ i = 4 ∨ i = 5 ∨ i = 6 ∨ i = 7 ∨ i = 8 ∨ i = 9 by omega) with rfl | rfl | rfl | rfl | rfl | rfl | rfl | rfl | rfl | rfl <;> rfl
theorem wr_iff {m : Nat} : ∀ {r : List (Option Nat)}, (∀ b, some b ∈ r → b < m) → wr m r
  | [], _ => trivial
  | none :: r, h => wr_iff (r := r) (fun b hb => h b (List.mem_cons_of_mem _ hb))
  | some x :: r, h => ⟨h x List.mem_cons_self, wr_iff (r := r) (fun b hb => h b (List.mem_cons_of_mem _ hb))⟩
theorem wl_app {m : Nat} : ∀ {a b : List SC}, wl m a → wl m b → wl m (a ++ b)
  | [], _, _, h => h
  | _ :: a, b, h, g => ⟨h.1, wl_app (a := a) h.2 g⟩
theorem wr_rbs {n i m : Nat} (hm : n + 10 + 2 * i ≤ m) : wr m (rbs n i) := by
  apply wr_iff
  intro b hb
  unfold rbs at hb
  rcases List.mem_append.mp hb with q | q
  · obtain ⟨r, hr, e⟩ := List.mem_map.mp q
    have h1 := List.mem_range.mp hr
    have e : n + 10 + 2 * r = b := Option.some.inj e
    omega
  · have := List.eq_of_mem_replicate q
    cases this
theorem wl_rob {n m : Nat} : ∀ i, n + 10 + 2 * i ≤ m → wl m (robL n i)
  | 0, _ => trivial
  | i + 1, h => wl_app (wl_rob i (by omega)) ⟨⟨(show n + 10 + 2 * i + 1 < m by omega), trivial⟩, trivial, trivial⟩
theorem wl_mL {n i : Nat} (h9 : 9 < n) : wl (n + (mL n i).length) (mL n i) := by
  rw [mL_len]
  unfold mL
  refine wl_app ?_ (wl_rob i (by omega))
  have h : ∀ x, x < 10 → n + x < n + (10 + 2 * i) := fun x hx => by omega
  exact ⟨⟨(show 9 < n + (10 + 2 * i) by omega), (show 8 < n + (10 + 2 * i) by omega), h 1 (by decide), h 3 (by decide), h 4 (by decide), h 7 (by decide), trivial⟩, ⟨h 2 (by decide), trivial⟩, trivial, wr_rbs (by omega), ⟨h 5 (by decide), h 6 (by decide), trivial⟩, trivial, trivial, ⟨h 8 (by decide), h 9 (by decide), trivial⟩, trivial, trivial, trivial⟩
theorem rf_app {sh0 l : List SC} {n i q j t m b : Nat} {rs : List (Option Nat)} (hn : sh0.length = n) (hq : n + i = q) (h : l[i]? = some (t, m, rs)) (hb : rs.getD j none = some b) : rf (sh0 ++ l) q j = some b := by
  subst hq
  unfold rf
  rw [at_app hn, h]
  exact hb
theorem num_eq {i : Nat} (h : i < 10) : nI i - nI i / 5 * 5 = nI (i % 5) := by
  have key : ∀ x : Fin 10, nI x.val - nI x.val / 5 * 5 = nI (x.val % 5) := by decide
  exact key ⟨i, h⟩
theorem Zm.b5 {n i : Nat} {x y : Int32} {M : Mem} (h : Zm (n + 10 + 2 * i) M) : Zm (n + 10 + 2 * (i + 1)) (MB_X5 (n + 10 + 2 * i) x y M) := by
  have h := h.mono (show n + 10 + 2 * i ≤ n + 10 + 2 * (i + 1) by omega)
  have hl : n + 10 + 2 * i < n + 10 + 2 * (i + 1) := by omega
  unfold MB_X5
  exact (((((h.setI hl).setI hl).setI hl).setI hl).setI hl).setI hl
theorem X2_init_loop {Q : Po} {sh0 : List SC} {n : Nat} (hn : sh0.length = n) (hw : WfS sh0) (h9 : 9 < n) : ∀ (k i : Nat) (M : Mem), i + k = 10 → Zm (n + 10 + 2 * i) M → WP m_X2_init Q 119 [some (.ref n), some (.ref 9), some (.ref 8), some (.int (nI 10))] [] (sh0 ++ mL n 10) (mMl n k i M) 29 311 → WP m_X2_init Q 78 [some (.ref n), some (.ref 9), some (.ref 8), some (.int (nI i))] [] (sh0 ++ mL n i) M (9 + 2 * i) (91 + 22 * i) := by
  intro k
  induction k with
  | zero =>
    intro i M hi hz hE
    obtain rfl : i = 10 := by omega
    refine r_iload_n e_X2_init_78 rfl ?_
    refine r_aload_n e_X2_init_79 rfl ?_
    refine r_getR (b := n + 3) e_X2_init_80 fl_X2_20 (kd_app (i := 0) hn rfl rfl) (rf_app (i := 0) hn rfl rfl rfl) ?_
    refine r_alen (v := (10 : Int32)) (t := 6) e_X2_init_83 (kd_app (i := 3) hn rfl rfl) (by decide) rfl ?_
    exact r_icmp_ge e_X2_init_84 (fun _ => hE) (fun hh => absurd (show (10 : Int32) ≤ nI 10 by decide) hh)
  | succ k ih =>
    intro i M hi hz hE
    have hlt : i < 10 := by omega
    have hcl : (nI i).toNatClampNeg = i := nI_clamp (by omega)
    refine r_iload_n e_X2_init_78 rfl ?_
    refine r_aload_n e_X2_init_79 rfl ?_
    refine r_getR (b := n + 3) e_X2_init_80 fl_X2_20 (kd_app (i := 0) hn rfl rfl) (rf_app (i := 0) hn rfl rfl rfl) ?_
    refine r_alen (v := (10 : Int32)) (t := 6) e_X2_init_83 (kd_app (i := 3) hn rfl rfl) (by decide) rfl ?_
    refine r_icmp_ge e_X2_init_84 (fun hh => absurd hh (nI_ge (b := 10) hlt (by decide))) (fun _ => ?_)
    refine r_aload_n e_X2_init_87 rfl ?_
    refine r_getR (b := n + 3) e_X2_init_88 fl_X2_20 (kd_app (i := 0) hn rfl rfl) (rf_app (i := 0) hn rfl rfl rfl) ?_
    refine r_iload_n e_X2_init_91 rfl ?_
    have hq : n + (mL n i).length = n + 10 + 2 * i := by rw [mL_len]; omega
    have hx : ∀ x : Nat, x < n + 10 → x < n + (mL n i).length := fun x h => by rw [hq]; omega
    have w1 : lsP (n + (mL n i).length) [some (.ref n), some (.ref 9), some (.ref 8), some (.int (nI i))] := ⟨hx n (by omega), hx 9 (by omega), hx 8 (by omega), trivial, trivial⟩
    refine c_newobj (c := 5) (N := 18) (q := n + 10 + 2 * i) (l' := mL n i ++ [(5 + 7, 0, List.replicate 18 none)]) hn e_X2_init_92 nw_X2_18 hw (wl_mL h9) w1 ⟨trivial, hx (n + 3) (by omega), trivial⟩ hq (hz _ (Nat.le_refl _)) ⟨by show 9 + 2 * i + 1 ≤ 29; omega, by show 91 + 22 * i + 18 ≤ 311; omega⟩ rfl ?_
    refine r_dup e_X2_init_95 rfl ?_
    refine r_iload_n e_X2_init_96 rfl ?_
    refine r_iconst e_X2_init_97 ic_5 ?_
    refine r_irem e_X2_init_98 (by decide) ?_
    rw [num_eq hlt]
    refine r_iload_n e_X2_init_99 rfl ?_
    refine r_iconst e_X2_init_100 ic_5 ?_
    have key : WP m_X2_init Q 109 [some (.ref n), some (.ref 9), some (.ref 8), some (.int (nI i))] [.int (tnr i), .int (nI (i % 5)), .ref (n + 10 + 2 * i), .ref (n + 10 + 2 * i), .int (nI i), .ref (n + 3)] (sh0 ++ (mL n i ++ [(5 + 7, 0, List.replicate 18 none)])) M (9 + 2 * i + 1) (91 + 22 * i + 18) := by
      have hq2 : n + (mL n i ++ [((5 + 7, 0, List.replicate 18 none) : SC)]).length = n + 10 + 2 * i + 1 := by rw [List.length_append, mL_len]; show n + (10 + 2 * i + 1) = _; omega
      have hy : ∀ x : Nat, x < n + 10 + 2 * i + 1 → x < n + (mL n i ++ [((5 + 7, 0, List.replicate 18 none) : SC)]).length := fun x h => by rw [hq2]; exact h
      have hn2 : (sh0 ++ mL n i).length = n + 10 + 2 * i := by rw [List.length_append, hn, mL_len]; omega
      refine c_ctor (ls := [some (.ref n), some (.ref 9), some (.ref 8), some (.int (nI i))]) (st := [.ref (n + 10 + 2 * i), .int (nI i), .ref (n + 3)]) (l0 := mL n i) (o := (5 + 7, 0, List.replicate 18 none)) (B := B_X5 (n + 10 + 2 * i)) (l' := mL n i ++ B_X5 (n + 10 + 2 * i)) (M1 := MB_X5 (n + 10 + 2 * i) (nI (i % 5)) (tnr i) M) (As := [.int (nI (i % 5)), .int (tnr i)]) (m1 := 1) (m2 := 4) hn e_X2_init_109 cl_X2_60 ⟨Nat.le_of_ble_eq_true rfl, Nat.le_of_ble_eq_true rfl⟩ ⟨rfl, rfl⟩ rfl (Nat.le_of_ble_eq_true rfl) (S_X5_init hn2 (wf_app hw hn (wl_mL h9)) hz (by unfold tnr; split <;> first | exact Or.inl rfl | exact Or.inr rfl)) rfl rfl ⟨hy n (by omega), hy 9 (by omega), hy 8 (by omega), trivial, trivial⟩ ⟨hy (n + 10 + 2 * i) (by omega), trivial, hy (n + 3) (by omega), trivial⟩ rfl ⟨by show 9 + 2 * i + 1 + 1 ≤ 29; omega, by show 91 + 22 * i + 18 + 4 ≤ 311; omega⟩ ?_
      have ha : (sh0 ++ (mL n i ++ B_X5 (n + 10 + 2 * i)))[n + 3]? = some (6, 10, rbs n i) := (at_app hn).trans rfl
      have hb : (sh0 ++ (mL n i ++ B_X5 (n + 10 + 2 * i)))[n + 10 + 2 * i]? = some (5 + 7, 0, ((B_X5 (n + 10 + 2 * i)).getD 0 (0, 0, [])).2.2) := by
        rw [show n + 10 + 2 * i = n + (10 + 2 * i) by omega, at_app hn, List.getElem?_append_right (by rw [mL_len]; omega), mL_len, Nat.sub_self]
        rfl
      refine r_aastore (t := 6) (n := 10) (ci := 5) e_X2_init_112 ⟨by decide, by decide⟩ ha (rbs_len (by omega)) hb rfl rfl (by unfold vp_in; rw [hcl]; intro q; rcases q with q | q; exact absurd q (nI_pos (by omega)); omega) ?_
      rw [hcl, rbs_set hlt, set_app hn]
      have e1 : (mL n i ++ B_X5 (n + 10 + 2 * i)).set 3 (6, 10, rbs n (i + 1)) = mL n (i + 1) := by
        unfold mL
        rw [robL, List.append_assoc]
        rfl
      rw [e1]
      refine p_iinc_4_3 e_X2_init_113 rfl ic_1 rfl ?_
      rw [nI_1 i]
      refine r_goto e_X2_init_116 ?_
      have e2 : 9 + 2 * i + 1 + 1 = 9 + 2 * (i + 1) := by omega
      have e3 : 91 + 22 * i + 18 + 4 = 91 + 22 * (i + 1) := by omega
      rw [e2, e3]
      exact ih (i + 1) _ (by omega) hz.b5 hE
    refine r_icmp_lt e_X2_init_101 (fun c => ?_) (fun c => ?_)
    · refine r_iconst e_X2_init_108 ic_0 ?_
      have e : tnr i = 0 := by
        unfold tnr
        rw [if_pos (Nat.not_le.mp (fun q => absurd c (nltL (y := 5) 5 q rfl (by omega))))]
      rw [e] at key
      exact key
    · refine r_iconst e_X2_init_104 ic_1 ?_
      refine r_goto e_X2_init_105 ?_
      have e : tnr i = 1 := by
        unfold tnr
        rw [if_neg (fun q => c (nI_lt (b := 5) q (by decide)))]
      rw [e] at key
      exact key
def mM (n : Nat) (M : Mem) : Mem := mMl n 10 0 (setI M (n + 4) 2 (-1 : Int32))
theorem S_X2_init {sh0 : List SC} {n : Nat} {M : Mem} (hn : sh0.length = n) (hw : WfS sh0) (hz : Zm n M) (h9 : 9 < n) : Sp m_X2_init [.ref n, .ref 9, .ref 8] (sh0 ++ [(2 + 7, 0, List.replicate 10 none)]) M (fun r sh' M' => r = none ∧ sh' = sh0 ++ mL n 10 ∧ M' = mM n M) := by
  refine Sp.of (ls := [some (.ref n), some (.ref 9), some (.ref 8), none]) (by decide +kernel) (Nat.le_of_ble_eq_true rfl) rfl ?_
  refine X2_init_a hn hw hz h9 ?_
  refine r_iconst e_X2_init_76 ic_0 ?_
  refine p_istore_n_4_3 e_X2_init_77 rfl rfl ?_
  exact X2_init_loop hn hw h9 10 0 _ rfl ((show Zm (n + 10) M from hz.mono (by omega)).setI (by omega)) (r_return e_X2_init_119 rfl ⟨rfl, rfl⟩ ⟨rfl, rfl, rfl⟩)
end CT3
