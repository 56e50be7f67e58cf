theorem gs_nI {M : Mem} {a b i j : Nat} {v : Int32} (h : i ≠ j) : (setI M a j v).1 b i = M.1 b i := by simp [setI, h]
theorem gs_eI {M : Mem} {a j : Nat} {v : Int32} : (setI M a j v).1 a j = v := by simp [setI]
theorem gs_nJ {M : Mem} {a b i j : Nat} {v : Int64} (h : i ≠ j) : (setJ M a j v).2 b i = M.2 b i := by simp [setJ, h]
theorem gs_eJ {M : Mem} {a j : Nat} {v : Int64} : (setJ M a j v).2 a j = v := by simp [setJ]
theorem gs_aI {M : Mem} {a b i j : Nat} {v : Int32} (h : b ≠ a) : (setI M a j v).1 b i = M.1 b i := by simp [setI, h]
theorem gs_aJ {M : Mem} {a b i j : Nat} {v : Int64} (h : b ≠ a) : (setJ M a j v).2 b i = M.2 b i := by simp [setJ, h]
theorem zi {c : Prop} [Decidable c] {a b : Int32} (ha : a = 0 ∨ a = 1) (hb : b = 0 ∨ b = 1) : (if c then a else b) = 0 ∨ (if c then a else b) = 1 := by split <;> assumption
theorem gs_k2 {M : Mem} {a b i j : Nat} {v : Int32} : (setI M a j v).2 b i = M.2 b i := rfl
theorem ne_kd {sh : List SC} {a b : Nat} {p q : Nat × Nat} (h1 : kd sh a = some p) (h2 : kd sh b = some q) (h : p ≠ q) : a ≠ b := fun e => h (Option.some.inj (h1.symm.trans (e ▸ h2)))
theorem gs_k {M : Mem} {a b i j : Nat} {v : Int64} : (setJ M a j v).1 b i = M.1 b i := rfl
section GE
variable {k : MT} {Q : Po} {pc pc' : Nat} {ls : List (Option Value)} {st : List Value} {sh : List SC} {M : Mem} {n1 n2 : Nat} {idx c j t a n : Nat} {fin : Bool}
theorem r_getIe {v : Int32} (hd : Inx k pc (.getfield idx) 3 pc') (hl : FL k.1.cls idx c j t fin) (ht : t ≠ 1 ∧ t ≠ 2) (hk : kd sh a = some (c + 7, 0)) (hv : M.1 a j = v) (h : WP k Q pc' ls (.int v :: st) sh M n1 n2) : WP k Q pc ls (.ref a :: st) sh M n1 n2 := by
  subst hv; exact r_getI hd hl ht hk h
theorem r_getJe {v : Int64} (hd : Inx k pc (.getfield idx) 3 pc') (hl : FL k.1.cls idx c j 1 fin) (hk : kd sh a = some (c + 7, 0)) (hv : M.2 a j = v) (h : WP k Q pc' ls (.long v :: st) sh M n1 n2) : WP k Q pc ls (.ref a :: st) sh M n1 n2 := by
  subst hv; exact r_getJ hd hl hk h
theorem r_ialoade {i v : Int32} (hd : Inx k pc .iaload 1 pc') (ha : kd sh a = some (0, n)) (hi : vp_in i n) (hv : M.1 a i.toNatClampNeg = v) (h : WP k Q pc' ls (.int v :: st) sh M n1 n2) : WP k Q pc ls (.int i :: .ref a :: st) sh M n1 n2 := by
  subst hv; exact r_iaload hd ha hi h
theorem r_laloade {i : Int32} {v : Int64} (hd : Inx k pc .laload 1 pc') (ha : kd sh a = some (1, n)) (hi : vp_in i n) (hv : M.2 a i.toNatClampNeg = v) (h : WP k Q pc' ls (.long v :: st) sh M n1 n2) : WP k Q pc ls (.int i :: .ref a :: st) sh M n1 n2 := by
  subst hv; exact r_laload hd ha hi h
theorem i_nlt {x : Int32} (h : 0 ≤ x) : ¬ x < 0 := by
  rw [Int32.le_iff_toInt_le] at h; rw [Int32.lt_iff_toInt_lt]; omega
theorem i_nle {x y : Int32} (h : x < y) : ¬ y ≤ x := by
  rw [Int32.lt_iff_toInt_lt] at h; rw [Int32.le_iff_toInt_le]; omega
theorem vp_guard {i : Int32} {n : Nat} (h1 : ¬ i < 0) (h2 : ¬ Int32.ofNat n ≤ i) (hn : n < 2 ^ 31) : vp_in i n := by
  obtain ⟨j, hj, rfl⟩ := nI_of h1
  refine vp_in_nI ?_ hn
  rcases Nat.lt_or_ge j n with q | q
  · exact q
  · exact absurd (nI_le q hj) h2
end GE

def V_X4_pack (x1 : Int64) (x2 : Int32) (M : Mem) : Int64 := ((x1 * (32 : Int64)) + ((x2 - (97 : Int32)) + (1 : Int32)).toInt64)
theorem S_X4_pack {sh : List SC} {M : Mem} {x1 : Int64} {x2 : Int32}   : Gv m_X4_pack [.long x1, .int x2] sh M (.long (V_X4_pack x1 x2 M)) M := by
  refine Sp.of (ls := [some (.long x1), none, some (.int x2)]) (by decide +kernel) (Nat.le_of_ble_eq_true rfl) rfl ?_
  refine r_lload_n e_X4_pack_0 rfl ?_
  refine r_ldc2 e_X4_pack_1 lc_X4_104 ?_
  refine r_lmul e_X4_pack_4 ?_
  refine r_iload_n e_X4_pack_5 rfl ?_
  refine r_bipush e_X4_pack_6 bp_97 ?_
  refine r_isub e_X4_pack_8 ?_
  refine r_iconst e_X4_pack_9 ic_1 ?_
  refine r_iadd e_X4_pack_10 ?_
  refine r_i2l e_X4_pack_11 ?_
  refine r_ladd e_X4_pack_12 ?_
  refine r_lreturn e_X4_pack_13 rfl ⟨rfl, rfl⟩ ?_
  (refine ⟨?_, rfl, ?_⟩ <;> ((try unfold V_X4_pack); (try simp only []); (try rfl)))
def V_X10_at (x1 : Nat) (x2 : Int32) (n1 : Nat) (M : Mem) : Int32 := (let v0_0 : Int32 := if x2 < 0 then (0 : Int32) else (if (Int32.ofNat n1) ≤ x2 then (0 : Int32) else (M.1 x1 x2.toNatClampNeg)); v0_0)
theorem S_X10_at {sh : List SC} {M : Mem} {x1 : Nat} {x2 : Int32} {n1 : Nat} (g1 : kd sh x1 = some (0, n1)) (g2 : n1 < 2 ^ 31) : Gv m_X10_at [.ref x1, .int x2] sh M (.int (V_X10_at x1 x2 n1 M)) M := by
  refine Sp.of (ls := [some (.ref x1), some (.int x2)]) (by decide +kernel) (Nat.le_of_ble_eq_true rfl) rfl ?_
  refine r_iload_n e_X10_at_0 rfl ?_
  obtain ⟨v0_0, e_v0_0⟩ : ∃ z : Int32, z = (if x2 < 0 then (0 : Int32) else (if (Int32.ofNat n1) ≤ x2 then (0 : Int32) else (M.1 x1 x2.toNatClampNeg))) := ⟨_, rfl⟩
  suffices j17_0 : WP m_X10_at (fun r sh' M'' => r = some (.int (V_X10_at x1 x2 n1 M)) ∧ sh' = sh ∧ M'' = M) 17 [some (.ref x1), some (.int x2)] [.int v0_0] sh M 0 0 by
    refine r_if_lt e_X10_at_1 (fun h1_0 => ?_) (fun h1_0 => ?_)
    · refine r_iconst e_X10_at_16 ic_0 ?_
      rw [show v0_0 = (0 : Int32) from (e_v0_0.trans (if_pos h1_0))] at j17_0; exact j17_0
    · refine r_iload_n e_X10_at_4 rfl ?_
      refine r_aload_n e_X10_at_5 rfl ?_
      refine r_alen (v := (Int32.ofNat n1)) e_X10_at_6 (by with_reducible assumption) (by decide) rfl ?_
      refine r_icmp_ge e_X10_at_7 (fun h7_1 => ?_) (fun h7_1 => ?_)
      · refine r_iconst e_X10_at_16 ic_0 ?_
        rw [show v0_0 = (0 : Int32) from ((e_v0_0.trans (if_neg h1_0)).trans (if_pos h7_1))] at j17_0; exact j17_0
      · refine r_aload_n e_X10_at_10 rfl ?_
        refine r_iload_n e_X10_at_11 rfl ?_
        refine r_iaload e_X10_at_12 (by with_reducible assumption) (vp_guard h1_0 h7_1 (by with_reducible assumption)) ?_
        refine r_goto e_X10_at_13 ?_
        rw [show v0_0 = (M.1 x1 x2.toNatClampNeg) from ((e_v0_0.trans (if_neg h1_0)).trans (if_neg h7_1))] at j17_0; exact j17_0
  refine r_ireturn e_X10_at_17 rfl ⟨rfl, rfl⟩ ?_
  (subst e_v0_0; refine ⟨?_, rfl, ?_⟩ <;> ((try unfold V_X10_at); (try simp only []); (try rfl)))
def V_X10_finding (a : Nat) (x1 : Int32) (q1 : Nat) (M : Mem) : Int32 := (let M0_0 : Mem := if ((-1001 : Int32) - x1) < 0 then M else (if (5 : Int32) ≤ ((-1001 : Int32) - x1) then M else (setI M q1 ((-1001 : Int32) - x1).toNatClampNeg ((M.1 q1 ((-1001 : Int32) - x1).toNatClampNeg) + (1 : Int32)))); x1)
def U_X10_finding (a : Nat) (x1 : Int32) (q1 : Nat) (M : Mem) : Mem := (let M0_0 : Mem := if ((-1001 : Int32) - x1) < 0 then M else (if (5 : Int32) ≤ ((-1001 : Int32) - x1) then M else (setI M q1 ((-1001 : Int32) - x1).toNatClampNeg ((M.1 q1 ((-1001 : Int32) - x1).toNatClampNeg) + (1 : Int32)))); M0_0)
set_option maxRecDepth 100000 in
theorem S_X10_finding {sh : List SC} {M : Mem} {a : Nat} {x1 : Int32} {q1 : Nat} (g1 : kd sh a = some (9 + 7, 0)) (g2 : rf sh a 0 = some q1) (g3 : kd sh q1 = some (0, 5)) : Gv m_X10_finding [.ref a, .int x1] sh M (.int (V_X10_finding a x1 q1 M)) (U_X10_finding a x1 q1 M) := by
  refine Sp.of (ls := [some (.ref a), some (.int x1), none]) (by decide +kernel) (Nat.le_of_ble_eq_true rfl) rfl ?_
  refine r_sipush e_X10_finding_0 sp_m1001 ?_
  refine r_iload_n e_X10_finding_3 rfl ?_
  refine r_isub e_X10_finding_4 ?_
  refine p_istore_n_3_2 e_X10_finding_5 rfl rfl ?_
  refine r_iload_n e_X10_finding_6 rfl ?_
  obtain ⟨M0_0, e_M0_0⟩ : ∃ z : Mem, z = (if ((-1001 : Int32) - x1) < 0 then M else (if (5 : Int32) ≤ ((-1001 : Int32) - x1) then M else (setI M q1 ((-1001 : Int32) - x1).toNatClampNeg ((M.1 q1 ((-1001 : Int32) - x1).toNatClampNeg) + (1 : Int32))))) := ⟨_, rfl⟩
  suffices j29_0 : WP m_X10_finding (fun r sh' M'' => r = some (.int (V_X10_finding a x1 q1 M)) ∧ sh' = sh ∧ M'' = (U_X10_finding a x1 q1 M)) 29 [some (.ref a), some (.int x1), some (.int ((-1001 : Int32) - x1))] [] sh M0_0 0 0 by
    refine r_if_lt e_X10_finding_7 (fun h7_0 => ?_) (fun h7_0 => ?_)
    · rw [show M0_0 = M from (e_M0_0.trans (if_pos h7_0))] at j29_0; exact j29_0
    · refine r_iload_n e_X10_finding_10 rfl ?_
      refine r_aload_n e_X10_finding_11 rfl ?_
      refine r_getR e_X10_finding_12 fl_X10_9 (by with_reducible assumption) (by with_reducible assumption) ?_
      refine r_alen (v := (5 : Int32)) e_X10_finding_15 (by with_reducible assumption) (by decide) rfl ?_
      refine r_icmp_ge e_X10_finding_16 (fun h16_1 => ?_) (fun h16_1 => ?_)
      · rw [show M0_0 = M from ((e_M0_0.trans (if_neg h7_0)).trans (if_pos h16_1))] at j29_0; exact j29_0
      · refine r_aload_n e_X10_finding_19 rfl ?_
        refine r_getR e_X10_finding_20 fl_X10_9 (by with_reducible assumption) (by with_reducible assumption) ?_
        refine r_iload_n e_X10_finding_23 rfl ?_
        refine r_dup2 e_X10_finding_24 rfl rfl ?_
        refine r_iaload e_X10_finding_25 (by with_reducible assumption) (vp_guard h7_0 h16_1 (by decide)) ?_
        refine r_iconst e_X10_finding_26 ic_1 ?_
        refine r_iadd e_X10_finding_27 ?_
        refine r_iastore e_X10_finding_28 (by with_reducible assumption) (vp_guard h7_0 h16_1 (by decide)) ?_
        rw [show M0_0 = setI M q1 ((-1001 : Int32) - x1).toNatClampNeg ((M.1 q1 ((-1001 : Int32) - x1).toNatClampNeg) + (1 : Int32)) from ((e_M0_0.trans (if_neg h7_0)).trans (if_neg h16_1))] at j29_0; exact j29_0
  refine r_iload_n e_X10_finding_29 rfl ?_
  refine r_ireturn e_X10_finding_30 rfl ⟨rfl, rfl⟩ ?_
  (subst e_M0_0; refine ⟨?_, rfl, ?_⟩ <;> ((try unfold V_X10_finding); (try unfold U_X10_finding); (try simp only []); (try rfl)))
def V_X4_length (a : Nat) (M : Mem) : Int32 := (M.1 a 5)
theorem S_X4_length {sh : List SC} {M : Mem} {a : Nat}  (g1 : kd sh a = some (4 + 7, 0)) : Gv m_X4_length [.ref a] sh M (.int (V_X4_length a M)) M := by
  refine Sp.of (ls := [some (.ref a)]) (by decide +kernel) (Nat.le_of_ble_eq_true rfl) rfl ?_
  refine r_aload_n e_X4_length_0 rfl ?_
  refine r_getI e_X4_length_1 fl_X4_30 i0 (by with_reducible assumption) ?_
  refine r_ireturn e_X4_length_4 rfl ⟨rfl, rfl⟩ ?_
  (refine ⟨?_, rfl, ?_⟩ <;> ((try unfold V_X4_length); (try simp only []); (try rfl)))
def U_X4_append (a : Nat) (x1 : Int32) (q1 : Nat) (M : Mem) : Mem := (let M0_0 : Mem := if (800 : Int32) ≤ (M.1 a 5) then M else (setI (setI M q1 (M.1 a 5).toNatClampNeg x1) a 5 ((M.1 a 5) + (1 : Int32))); M0_0)
theorem S_X4_append {sh : List SC} {M : Mem} {a : Nat} {x1 : Int32} {q1 : Nat} (g1 : kd sh a = some (4 + 7, 0)) (g2 : rf sh a 0 = some q1) (g3 : kd sh q1 = some (0, 800)) (g4 : ¬ (M.1 a 5) < 0) : Gu m_X4_append [.ref a, .int x1] sh M (U_X4_append a x1 q1 M) := by
  refine Sp.of (ls := [some (.ref a), some (.int x1)]) (by decide +kernel) (Nat.le_of_ble_eq_true rfl) rfl ?_
  refine r_aload_n e_X4_append_0 rfl ?_
  refine r_getI e_X4_append_1 fl_X4_30 i0 (by with_reducible assumption) ?_
  refine r_aload_n e_X4_append_4 rfl ?_
  refine r_getR e_X4_append_5 fl_X4_9 (by with_reducible assumption) (by with_reducible assumption) ?_
  refine r_alen (v := (800 : Int32)) e_X4_append_8 (by with_reducible assumption) (by decide) rfl ?_
  obtain ⟨M0_0, e_M0_0⟩ : ∃ z : Mem, z = (if (800 : Int32) ≤ (M.1 a 5) then M else (setI (setI M q1 (M.1 a 5).toNatClampNeg x1) a 5 ((M.1 a 5) + (1 : Int32)))) := ⟨_, rfl⟩
  suffices j32_0 : WP m_X4_append (fun r sh' M'' => r = none ∧ sh' = sh ∧ M'' = (U_X4_append a x1 q1 M)) 32 [some (.ref a), some (.int x1)] [] sh M0_0 0 0 by
    refine r_icmp_ge e_X4_append_9 (fun h9_0 => ?_) (fun h9_0 => ?_)
    · rw [show M0_0 = M from (e_M0_0.trans (if_pos h9_0))] at j32_0; exact j32_0
    · refine r_aload_n e_X4_append_12 rfl ?_
      refine r_getR e_X4_append_13 fl_X4_9 (by with_reducible assumption) (by with_reducible assumption) ?_
      refine r_aload_n e_X4_append_16 rfl ?_
      refine r_getI e_X4_append_17 fl_X4_30 i0 (by with_reducible assumption) ?_
      refine r_iload_n e_X4_append_20 rfl ?_
      refine r_iastore e_X4_append_21 (by with_reducible assumption) (vp_guard (by with_reducible assumption) h9_0 (by decide)) ?_
      refine r_aload_n e_X4_append_22 rfl ?_
      refine r_dup e_X4_append_23 rfl ?_
      refine r_getIe e_X4_append_24 fl_X4_30 i0 (by with_reducible assumption) (gs_aI (ne_kd (show kd sh a = some (4 + 7, 0) by with_reducible assumption) (show kd sh q1 = some (0, 800) by with_reducible assumption) (by decide))) ?_
      refine r_iconst e_X4_append_27 ic_1 ?_
      refine r_iadd e_X4_append_28 ?_
      refine r_putI e_X4_append_29 fl_X4_30 (by with_reducible assumption) ?_
      rw [show M0_0 = setI (setI M q1 (M.1 a 5).toNatClampNeg x1) a 5 ((M.1 a 5) + (1 : Int32)) from (e_M0_0.trans (if_neg h9_0))] at j32_0; exact j32_0
  refine r_return e_X4_append_32 rfl ⟨rfl, rfl⟩ ?_
  (subst e_M0_0; refine ⟨?_, rfl, ?_⟩ <;> ((try unfold U_X4_append); (try simp only []); (try rfl)))
def U_X3_clear (a : Nat) (M : Mem) : Mem := setI (setI (setI (setI (setI (setI M a 0 (0 : Int32)) a 3 (0 : Int32)) a 6 (0 : Int32)) a 9 (0 : Int32)) a 13 (0 : Int32)) a 15 (0 : Int32)
theorem S_X3_clear {sh : List SC} {M : Mem} {a : Nat}  (g1 : kd sh a = some (3 + 7, 0)) : Gu m_X3_clear [.ref a] sh M (U_X3_clear a M) := by
  refine Sp.of (ls := [some (.ref a)]) (by decide +kernel) (Nat.le_of_ble_eq_true rfl) rfl ?_
  refine r_aload_n e_X3_clear_0 rfl ?_
  refine r_iconst e_X3_clear_1 ic_0 ?_
  refine r_putI e_X3_clear_2 fl_X3_9 (by with_reducible assumption) ?_
  refine r_aload_n e_X3_clear_5 rfl ?_
  refine r_iconst e_X3_clear_6 ic_0 ?_
  refine r_putI e_X3_clear_7 fl_X3_23 (by with_reducible assumption) ?_
  refine r_aload_n e_X3_clear_10 rfl ?_
  refine r_iconst e_X3_clear_11 ic_0 ?_
  refine r_putI e_X3_clear_12 fl_X3_32 (by with_reducible assumption) ?_
  refine r_aload_n e_X3_clear_15 rfl ?_
  refine r_iconst e_X3_clear_16 ic_0 ?_
  refine r_putI e_X3_clear_17 fl_X3_41 (by with_reducible assumption) ?_
  refine r_aload_n e_X3_clear_20 rfl ?_
  refine r_iconst e_X3_clear_21 ic_0 ?_
  refine r_putI e_X3_clear_22 fl_X3_53 (by with_reducible assumption) ?_
  refine r_aload_n e_X3_clear_25 rfl ?_
  refine r_iconst e_X3_clear_26 ic_0 ?_
  refine r_putI e_X3_clear_27 fl_X3_59 (by with_reducible assumption) ?_
  refine r_return e_X3_clear_30 rfl ⟨rfl, rfl⟩ ?_
  (refine ⟨?_, rfl, ?_⟩ <;> ((try unfold U_X3_clear); (try simp only []); (try rfl)))
def V_X4_isLetter (x1 : Int32) (M : Mem) : Int32 := (let v0_0 : Int32 := if x1 < (97 : Int32) then (0 : Int32) else (if (122 : Int32) < x1 then (0 : Int32) else (1 : Int32)); v0_0)
theorem Z_X4_isLetter {M : Mem} {x1 : Int32}   : V_X4_isLetter x1 M = 0 ∨ V_X4_isLetter x1 M = 1 := (zi (Or.inl rfl) (zi (Or.inl rfl) (Or.inr rfl)))
theorem S_X4_isLetter {sh : List SC} {M : Mem} {x1 : Int32}   : Gv m_X4_isLetter [.int x1] sh M (.int (V_X4_isLetter x1 M)) M := by
  refine Sp.of (ls := [some (.int x1)]) (by decide +kernel) (Nat.le_of_ble_eq_true rfl) rfl ?_
  refine r_iload_n e_X4_isLetter_0 rfl ?_
  refine r_bipush e_X4_isLetter_1 bp_97 ?_
  obtain ⟨v0_0, e_v0_0⟩ : ∃ z : Int32, z = (if x1 < (97 : Int32) then (0 : Int32) else (if (122 : Int32) < x1 then (0 : Int32) else (1 : Int32))) := ⟨_, rfl⟩
  have z_v0_0 : v0_0 = 0 ∨ v0_0 = 1 := by rw [e_v0_0]; exact (zi (Or.inl rfl) (zi (Or.inl rfl) (Or.inr rfl)))
  suffices j17_0 : WP m_X4_isLetter (fun r sh' M'' => r = some (.int (V_X4_isLetter x1 M)) ∧ sh' = sh ∧ M'' = M) 17 [some (.int x1)] [.int v0_0] sh M 0 0 by
    refine r_icmp_lt e_X4_isLetter_3 (fun h3_0 => ?_) (fun h3_0 => ?_)
    · refine r_iconst e_X4_isLetter_16 ic_0 ?_
      rw [show v0_0 = (0 : Int32) from (e_v0_0.trans (if_pos h3_0))] at j17_0; exact j17_0
    · refine r_iload_n e_X4_isLetter_6 rfl ?_
      refine r_bipush e_X4_isLetter_7 bp_122 ?_
      refine r_icmp_gt e_X4_isLetter_9 (fun h9_1 => ?_) (fun h9_1 => ?_)
      · refine r_iconst e_X4_isLetter_16 ic_0 ?_
        rw [show v0_0 = (0 : Int32) from ((e_v0_0.trans (if_neg h3_0)).trans (if_pos h9_1))] at j17_0; exact j17_0
      · refine r_iconst e_X4_isLetter_12 ic_1 ?_
        refine r_goto e_X4_isLetter_13 ?_
        rw [show v0_0 = (1 : Int32) from ((e_v0_0.trans (if_neg h3_0)).trans (if_neg h9_1))] at j17_0; exact j17_0
  refine r_zreturn e_X4_isLetter_17 rfl ⟨rfl, rfl⟩ z_v0_0 ?_
  (subst e_v0_0; refine ⟨?_, rfl, ?_⟩ <;> ((try unfold V_X4_isLetter); (try simp only []); (try rfl)))
def U_X4_addWord (a : Nat) (x1 : Int32) (x2 : Int64) (x3 : Int32) (q1 : Nat) (q2 : Nat) (q3 : Nat) (M : Mem) : Mem := (let M0_0 : Mem := if (801 : Int32) ≤ (M.1 a 6) then M else (setI (setI (setJ (setI M q1 (M.1 a 6).toNatClampNeg x1) q2 (M.1 a 6).toNatClampNeg x2) q3 (M.1 a 6).toNatClampNeg x3) a 6 ((M.1 a 6) + (1 : Int32))); M0_0)
theorem S_X4_addWord {sh : List SC} {M : Mem} {a : Nat} {x1 : Int32} {x2 : Int64} {x3 : Int32} {q1 : Nat} {q2 : Nat} {q3 : Nat} (g1 : kd sh a = some (4 + 7, 0)) (g2 : rf sh a 2 = some q1) (g3 : kd sh q1 = some (0, 801)) (g4 : ¬ (M.1 a 6) < 0) (g5 : rf sh a 3 = some q2) (g6 : kd sh q2 = some (1, 801)) (g7 : rf sh a 4 = some q3) (g8 : kd sh q3 = some (0, 801)) : Gu m_X4_addWord [.ref a, .int x1, .long x2, .int x3] sh M (U_X4_addWord a x1 x2 x3 q1 q2 q3 M) := by
  refine Sp.of (ls := [some (.ref a), some (.int x1), some (.long x2), none, some (.int x3)]) (by decide +kernel) (Nat.le_of_ble_eq_true rfl) rfl ?_
  refine r_aload_n e_X4_addWord_0 rfl ?_
  refine r_getI e_X4_addWord_1 fl_X4_34 i0 (by with_reducible assumption) ?_
  refine r_aload_n e_X4_addWord_4 rfl ?_
  refine r_getR e_X4_addWord_5 fl_X4_21 (by with_reducible assumption) (by with_reducible assumption) ?_
  refine r_alen (v := (801 : Int32)) e_X4_addWord_8 (by with_reducible assumption) (by decide) rfl ?_
  obtain ⟨M0_0, e_M0_0⟩ : ∃ z : Mem, z = (if (801 : Int32) ≤ (M.1 a 6) then M else (setI (setI (setJ (setI M q1 (M.1 a 6).toNatClampNeg x1) q2 (M.1 a 6).toNatClampNeg x2) q3 (M.1 a 6).toNatClampNeg x3) a 6 ((M.1 a 6) + (1 : Int32)))) := ⟨_, rfl⟩
  suffices j53_0 : WP m_X4_addWord (fun r sh' M'' => r = none ∧ sh' = sh ∧ M'' = (U_X4_addWord a x1 x2 x3 q1 q2 q3 M)) 53 [some (.ref a), some (.int x1), some (.long x2), none, some (.int x3)] [] sh M0_0 0 0 by
    refine r_icmp_ge e_X4_addWord_9 (fun h9_0 => ?_) (fun h9_0 => ?_)
    · rw [show M0_0 = M from (e_M0_0.trans (if_pos h9_0))] at j53_0; exact j53_0
    · refine r_aload_n e_X4_addWord_12 rfl ?_
      refine r_getR e_X4_addWord_13 fl_X4_21 (by with_reducible assumption) (by with_reducible assumption) ?_
      refine r_aload_n e_X4_addWord_16 rfl ?_
      refine r_getI e_X4_addWord_17 fl_X4_34 i0 (by with_reducible assumption) ?_
      refine r_iload_n e_X4_addWord_20 rfl ?_
      refine r_iastore e_X4_addWord_21 (by with_reducible assumption) (vp_guard (by with_reducible assumption) h9_0 (by decide)) ?_
      refine r_aload_n e_X4_addWord_22 rfl ?_
      refine r_getR e_X4_addWord_23 fl_X4_24 (by with_reducible assumption) (by with_reducible assumption) ?_
      refine r_aload_n e_X4_addWord_26 rfl ?_
      refine r_getIe e_X4_addWord_27 fl_X4_34 i0 (by with_reducible assumption) (gs_aI (ne_kd (show kd sh a = some (4 + 7, 0) by with_reducible assumption) (show kd sh q1 = some (0, 801) by with_reducible assumption) (by decide))) ?_
      refine r_lload_n e_X4_addWord_30 rfl ?_
      refine r_lastore e_X4_addWord_31 (by with_reducible assumption) (vp_guard (by with_reducible assumption) h9_0 (by decide)) ?_
      refine r_aload_n e_X4_addWord_32 rfl ?_
      refine r_getR e_X4_addWord_33 fl_X4_27 (by with_reducible assumption) (by with_reducible assumption) ?_
      refine r_aload_n e_X4_addWord_36 rfl ?_
      refine r_getIe e_X4_addWord_37 fl_X4_34 i0 (by with_reducible assumption) (gs_k.trans (gs_aI (ne_kd (show kd sh a = some (4 + 7, 0) by with_reducible assumption) (show kd sh q1 = some (0, 801) by with_reducible assumption) (by decide)))) ?_
      refine r_iload e_X4_addWord_40 rfl ?_
      refine r_iastore e_X4_addWord_42 (by with_reducible assumption) (vp_guard (by with_reducible assumption) h9_0 (by decide)) ?_
      refine r_aload_n e_X4_addWord_43 rfl ?_
      refine r_dup e_X4_addWord_44 rfl ?_
      refine r_getIe e_X4_addWord_45 fl_X4_34 i0 (by with_reducible assumption) ((gs_aI (ne_kd (show kd sh a = some (4 + 7, 0) by with_reducible assumption) (show kd sh q3 = some (0, 801) by with_reducible assumption) (by decide))).trans (gs_k.trans (gs_aI (ne_kd (show kd sh a = some (4 + 7, 0) by with_reducible assumption) (show kd sh q1 = some (0, 801) by with_reducible assumption) (by decide))))) ?_
      refine r_iconst e_X4_addWord_48 ic_1 ?_
      refine r_iadd e_X4_addWord_49 ?_
      refine r_putI e_X4_addWord_50 fl_X4_34 (by with_reducible assumption) ?_
      rw [show M0_0 = setI (setI (setJ (setI M q1 (M.1 a 6).toNatClampNeg x1) q2 (M.1 a 6).toNatClampNeg x2) q3 (M.1 a 6).toNatClampNeg x3) a 6 ((M.1 a 6) + (1 : Int32)) from (e_M0_0.trans (if_neg h9_0))] at j53_0; exact j53_0
  refine r_return e_X4_addWord_53 rfl ⟨rfl, rfl⟩ ?_
  (subst e_M0_0; refine ⟨?_, rfl, ?_⟩ <;> ((try unfold U_X4_addWord); (try simp only []); (try rfl)))
def V_X4_isFigure (x1 : Int32) (M : Mem) : Int32 := (let v0_0 : Int32 := if x1 < (48 : Int32) then (0 : Int32) else (if (57 : Int32) < x1 then (0 : Int32) else (1 : Int32)); v0_0)
theorem Z_X4_isFigure {M : Mem} {x1 : Int32}   : V_X4_isFigure x1 M = 0 ∨ V_X4_isFigure x1 M = 1 := (zi (Or.inl rfl) (zi (Or.inl rfl) (Or.inr rfl)))
theorem S_X4_isFigure {sh : List SC} {M : Mem} {x1 : Int32}   : Gv m_X4_isFigure [.int x1] sh M (.int (V_X4_isFigure x1 M)) M := by
  refine Sp.of (ls := [some (.int x1)]) (by decide +kernel) (Nat.le_of_ble_eq_true rfl) rfl ?_
  refine r_iload_n e_X4_isFigure_0 rfl ?_
  refine r_bipush e_X4_isFigure_1 bp_48 ?_
  obtain ⟨v0_0, e_v0_0⟩ : ∃ z : Int32, z = (if x1 < (48 : Int32) then (0 : Int32) else (if (57 : Int32) < x1 then (0 : Int32) else (1 : Int32))) := ⟨_, rfl⟩
  have z_v0_0 : v0_0 = 0 ∨ v0_0 = 1 := by rw [e_v0_0]; exact (zi (Or.inl rfl) (zi (Or.inl rfl) (Or.inr rfl)))
  suffices j17_0 : WP m_X4_isFigure (fun r sh' M'' => r = some (.int (V_X4_isFigure x1 M)) ∧ sh' = sh ∧ M'' = M) 17 [some (.int x1)] [.int v0_0] sh M 0 0 by
    refine r_icmp_lt e_X4_isFigure_3 (fun h3_0 => ?_) (fun h3_0 => ?_)
    · refine r_iconst e_X4_isFigure_16 ic_0 ?_
      rw [show v0_0 = (0 : Int32) from (e_v0_0.trans (if_pos h3_0))] at j17_0; exact j17_0
    · refine r_iload_n e_X4_isFigure_6 rfl ?_
      refine r_bipush e_X4_isFigure_7 bp_57 ?_
      refine r_icmp_gt e_X4_isFigure_9 (fun h9_1 => ?_) (fun h9_1 => ?_)
      · refine r_iconst e_X4_isFigure_16 ic_0 ?_
        rw [show v0_0 = (0 : Int32) from ((e_v0_0.trans (if_neg h3_0)).trans (if_pos h9_1))] at j17_0; exact j17_0
      · refine r_iconst e_X4_isFigure_12 ic_1 ?_
        refine r_goto e_X4_isFigure_13 ?_
        rw [show v0_0 = (1 : Int32) from ((e_v0_0.trans (if_neg h3_0)).trans (if_neg h9_1))] at j17_0; exact j17_0
  refine r_zreturn e_X4_isFigure_17 rfl ⟨rfl, rfl⟩ z_v0_0 ?_
  (subst e_v0_0; refine ⟨?_, rfl, ?_⟩ <;> ((try unfold V_X4_isFigure); (try simp only []); (try rfl)))
def V_X4_isBlank (x1 : Int32) (M : Mem) : Int32 := (let v0_0 : Int32 := if x1 = (32 : Int32) then (1 : Int32) else (if x1 = (10 : Int32) then (1 : Int32) else (0 : Int32)); v0_0)
theorem Z_X4_isBlank {M : Mem} {x1 : Int32}   : V_X4_isBlank x1 M = 0 ∨ V_X4_isBlank x1 M = 1 := (zi (Or.inr rfl) (zi (Or.inr rfl) (Or.inl rfl)))
theorem S_X4_isBlank {sh : List SC} {M : Mem} {x1 : Int32}   : Gv m_X4_isBlank [.int x1] sh M (.int (V_X4_isBlank x1 M)) M := by
  refine Sp.of (ls := [some (.int x1)]) (by decide +kernel) (Nat.le_of_ble_eq_true rfl) rfl ?_
  refine r_iload_n e_X4_isBlank_0 rfl ?_
  refine r_bipush e_X4_isBlank_1 bp_32 ?_
  obtain ⟨v0_0, e_v0_0⟩ : ∃ z : Int32, z = (if x1 = (32 : Int32) then (1 : Int32) else (if x1 = (10 : Int32) then (1 : Int32) else (0 : Int32))) := ⟨_, rfl⟩
  have z_v0_0 : v0_0 = 0 ∨ v0_0 = 1 := by rw [e_v0_0]; exact (zi (Or.inr rfl) (zi (Or.inr rfl) (Or.inl rfl)))
  suffices j17_0 : WP m_X4_isBlank (fun r sh' M'' => r = some (.int (V_X4_isBlank x1 M)) ∧ sh' = sh ∧ M'' = M) 17 [some (.int x1)] [.int v0_0] sh M 0 0 by
    refine r_icmp_eq e_X4_isBlank_3 (fun h3_0 => ?_) (fun h3_0 => ?_)
    · refine r_iconst e_X4_isBlank_12 ic_1 ?_
      refine r_goto e_X4_isBlank_13 ?_
      rw [show v0_0 = (1 : Int32) from (e_v0_0.trans (if_pos h3_0))] at j17_0; exact j17_0
    · refine r_iload_n e_X4_isBlank_6 rfl ?_
      refine r_bipush e_X4_isBlank_7 bp_10 ?_
      refine r_icmp_ne e_X4_isBlank_9 (fun h9_1 => ?_) (fun h9_1 => ?_)
      · refine r_iconst e_X4_isBlank_16 ic_0 ?_
        rw [show v0_0 = (0 : Int32) from ((e_v0_0.trans (if_neg h3_0)).trans (if_neg h9_1))] at j17_0; exact j17_0
      · refine r_iconst e_X4_isBlank_12 ic_1 ?_
        refine r_goto e_X4_isBlank_13 ?_
        rw [show v0_0 = (1 : Int32) from ((e_v0_0.trans (if_neg h3_0)).trans (if_pos h9_1))] at j17_0; exact j17_0
  refine r_zreturn e_X4_isBlank_17 rfl ⟨rfl, rfl⟩ z_v0_0 ?_
  (subst e_v0_0; refine ⟨?_, rfl, ?_⟩ <;> ((try unfold V_X4_isBlank); (try simp only []); (try rfl)))
def V_X4_kind (a : Nat) (q1 : Nat) (M : Mem) : Int32 := (let v0_0 : Int32 := if (M.1 a 7) < 0 then (37 : Int32) else (if (801 : Int32) ≤ (M.1 a 7) then (37 : Int32) else (M.1 q1 (M.1 a 7).toNatClampNeg)); v0_0)
theorem S_X4_kind {sh : List SC} {M : Mem} {a : Nat} {q1 : Nat} (g1 : kd sh a = some (4 + 7, 0)) (g2 : rf sh a 2 = some q1) (g3 : kd sh q1 = some (0, 801)) : Gv m_X4_kind [.ref a] sh M (.int (V_X4_kind a q1 M)) M := by
  refine Sp.of (ls := [some (.ref a)]) (by decide +kernel) (Nat.le_of_ble_eq_true rfl) rfl ?_
  refine r_aload_n e_X4_kind_0 rfl ?_
  refine r_getI e_X4_kind_1 fl_X4_37 i0 (by with_reducible assumption) ?_
  obtain ⟨v0_0, e_v0_0⟩ : ∃ z : Int32, z = (if (M.1 a 7) < 0 then (37 : Int32) else (if (801 : Int32) ≤ (M.1 a 7) then (37 : Int32) else (M.1 q1 (M.1 a 7).toNatClampNeg))) := ⟨_, rfl⟩
  suffices j33_0 : WP m_X4_kind (fun r sh' M'' => r = some (.int (V_X4_kind a q1 M)) ∧ sh' = sh ∧ M'' = M) 33 [some (.ref a)] [.int v0_0] sh M 0 0 by
    refine r_if_lt e_X4_kind_4 (fun h4_0 => ?_) (fun h4_0 => ?_)
    · refine r_bipush e_X4_kind_31 bp_37 ?_
      rw [show v0_0 = (37 : Int32) from (e_v0_0.trans (if_pos h4_0))] at j33_0; exact j33_0
    · refine r_aload_n e_X4_kind_7 rfl ?_
      refine r_getI e_X4_kind_8 fl_X4_37 i0 (by with_reducible assumption) ?_
      refine r_aload_n e_X4_kind_11 rfl ?_
      refine r_getR e_X4_kind_12 fl_X4_21 (by with_reducible assumption) (by with_reducible assumption) ?_
      refine r_alen (v := (801 : Int32)) e_X4_kind_15 (by with_reducible assumption) (by decide) rfl ?_
      refine r_icmp_ge e_X4_kind_16 (fun h16_1 => ?_) (fun h16_1 => ?_)
      · refine r_bipush e_X4_kind_31 bp_37 ?_
        rw [show v0_0 = (37 : Int32) from ((e_v0_0.trans (if_neg h4_0)).trans (if_pos h16_1))] at j33_0; exact j33_0
      · refine r_aload_n e_X4_kind_19 rfl ?_
        refine r_getR e_X4_kind_20 fl_X4_21 (by with_reducible assumption) (by with_reducible assumption) ?_
        refine r_aload_n e_X4_kind_23 rfl ?_
        refine r_getI e_X4_kind_24 fl_X4_37 i0 (by with_reducible assumption) ?_
        refine r_iaload e_X4_kind_27 (by with_reducible assumption) (vp_guard h4_0 h16_1 (by decide)) ?_
        refine r_goto e_X4_kind_28 ?_
        rw [show v0_0 = (M.1 q1 (M.1 a 7).toNatClampNeg) from ((e_v0_0.trans (if_neg h4_0)).trans (if_neg h16_1))] at j33_0; exact j33_0
  refine r_ireturn e_X4_kind_33 rfl ⟨rfl, rfl⟩ ?_
  (subst e_v0_0; refine ⟨?_, rfl, ?_⟩ <;> ((try unfold V_X4_kind); (try simp only []); (try rfl)))
def U_X4_refuse (a : Nat) (q1 : Nat) (M : Mem) : Mem := (let M0_0 : Mem := if 0 ≤ (M.1 a 9) then M else (if (M.1 a 7) < 0 then M else (if (801 : Int32) ≤ (M.1 a 7) then M else (setI M a 9 (M.1 q1 (M.1 a 7).toNatClampNeg)))); M0_0)
theorem S_X4_refuse {sh : List SC} {M : Mem} {a : Nat} {q1 : Nat} (g1 : kd sh a = some (4 + 7, 0)) (g2 : rf sh a 4 = some q1) (g3 : kd sh q1 = some (0, 801)) : Gu m_X4_refuse [.ref a] sh M (U_X4_refuse a q1 M) := by
  refine Sp.of (ls := [some (.ref a)]) (by decide +kernel) (Nat.le_of_ble_eq_true rfl) rfl ?_
  refine r_aload_n e_X4_refuse_0 rfl ?_
  refine r_getI e_X4_refuse_1 fl_X4_44 i0 (by with_reducible assumption) ?_
  obtain ⟨M0_0, e_M0_0⟩ : ∃ z : Mem, z = (if 0 ≤ (M.1 a 9) then M else (if (M.1 a 7) < 0 then M else (if (801 : Int32) ≤ (M.1 a 7) then M else (setI M a 9 (M.1 q1 (M.1 a 7).toNatClampNeg))))) := ⟨_, rfl⟩
  suffices j39_0 : WP m_X4_refuse (fun r sh' M'' => r = none ∧ sh' = sh ∧ M'' = (U_X4_refuse a q1 M)) 39 [some (.ref a)] [] sh M0_0 0 0 by
    refine r_if_ge e_X4_refuse_4 (fun h4_0 => ?_) (fun h4_0 => ?_)
    · rw [show M0_0 = M from (e_M0_0.trans (if_pos h4_0))] at j39_0; exact j39_0
    · refine r_aload_n e_X4_refuse_7 rfl ?_
      refine r_getI e_X4_refuse_8 fl_X4_37 i0 (by with_reducible assumption) ?_
      refine r_if_lt e_X4_refuse_11 (fun h11_1 => ?_) (fun h11_1 => ?_)
      · rw [show M0_0 = M from ((e_M0_0.trans (if_neg h4_0)).trans (if_pos h11_1))] at j39_0; exact j39_0
      · refine r_aload_n e_X4_refuse_14 rfl ?_
        refine r_getI e_X4_refuse_15 fl_X4_37 i0 (by with_reducible assumption) ?_
        refine r_aload_n e_X4_refuse_18 rfl ?_
        refine r_getR e_X4_refuse_19 fl_X4_27 (by with_reducible assumption) (by with_reducible assumption) ?_
        refine r_alen (v := (801 : Int32)) e_X4_refuse_22 (by with_reducible assumption) (by decide) rfl ?_
        refine r_icmp_ge e_X4_refuse_23 (fun h23_2 => ?_) (fun h23_2 => ?_)
        · rw [show M0_0 = M from (((e_M0_0.trans (if_neg h4_0)).trans (if_neg h11_1)).trans (if_pos h23_2))] at j39_0; exact j39_0
        · refine r_aload_n e_X4_refuse_26 rfl ?_
          refine r_aload_n e_X4_refuse_27 rfl ?_
          refine r_getR e_X4_refuse_28 fl_X4_27 (by with_reducible assumption) (by with_reducible assumption) ?_
          refine r_aload_n e_X4_refuse_31 rfl ?_
          refine r_getI e_X4_refuse_32 fl_X4_37 i0 (by with_reducible assumption) ?_
          refine r_iaload e_X4_refuse_35 (by with_reducible assumption) (vp_guard h11_1 h23_2 (by decide)) ?_
          refine r_putI e_X4_refuse_36 fl_X4_44 (by with_reducible assumption) ?_
          rw [show M0_0 = setI M a 9 (M.1 q1 (M.1 a 7).toNatClampNeg) from (((e_M0_0.trans (if_neg h4_0)).trans (if_neg h11_1)).trans (if_neg h23_2))] at j39_0; exact j39_0
  refine r_return e_X4_refuse_39 rfl ⟨rfl, rfl⟩ ?_
  (subst e_M0_0; refine ⟨?_, rfl, ?_⟩ <;> ((try unfold U_X4_refuse); (try simp only []); (try rfl)))
def V_X4_take (a : Nat) (x1 : Int32) (x2 : Int32) (q1 : Nat) (q2 : Nat) (q3 : Nat) (M : Mem) : Int32 := if 0 ≤ (M.1 a 9) then (36 : Int32) else (if (V_X4_kind a q1 M) < x1 then (36 : Int32) else (if x2 < (V_X4_kind a q1 M) then (36 : Int32) else (if (801 : Int32) ≤ (M.1 a 7) then (36 : Int32) else (V_X4_kind a q1 M))))
def U_X4_take (a : Nat) (x1 : Int32) (x2 : Int32) (q1 : Nat) (q2 : Nat) (q3 : Nat) (M : Mem) : Mem := if 0 ≤ (M.1 a 9) then (U_X4_refuse a q2 M) else (if (V_X4_kind a q1 M) < x1 then (U_X4_refuse a q2 M) else (if x2 < (V_X4_kind a q1 M) then (U_X4_refuse a q2 M) else (if (801 : Int32) ≤ (M.1 a 7) then (U_X4_refuse a q2 M) else (setI (setJ M a 8 (M.2 q3 (M.1 a 7).toNatClampNeg)) a 7 ((M.1 a 7) + (1 : Int32))))))
theorem S_X4_take {sh : List SC} {M : Mem} {a : Nat} {x1 : Int32} {x2 : Int32} {q1 : Nat} {q2 : Nat} {q3 : Nat} (g1 : kd sh a = some (4 + 7, 0)) (g2 : rf sh a 2 = some q1) (g3 : kd sh q1 = some (0, 801)) (g4 : rf sh a 4 = some q2) (g5 : kd sh q2 = some (0, 801)) (g6 : rf sh a 3 = some q3) (g7 : kd sh q3 = some (1, 801)) (g8 : ¬ (M.1 a 7) < 0) : Gv m_X4_take [.ref a, .int x1, .int x2] sh M (.int (V_X4_take a x1 x2 q1 q2 q3 M)) (U_X4_take a x1 x2 q1 q2 q3 M) := by
  refine Sp.of (ls := [some (.ref a), some (.int x1), some (.int x2), none]) (by decide +kernel) (Nat.le_of_ble_eq_true rfl) rfl ?_
  refine r_aload_n e_X4_take_0 rfl ?_
  refine cV0v e_X4_take_1 cl_X4_77 ⟨Nat.le_of_ble_eq_true rfl, Nat.le_of_ble_eq_true rfl⟩ ⟨rfl, rfl⟩ (by with_reducible assumption) (Nat.le_of_ble_eq_true rfl) (S_X4_kind (by with_reducible assumption) (by with_reducible assumption) (by with_reducible assumption)) ?_
  refine p_istore_n_4_3 e_X4_take_4 rfl rfl ?_
  refine r_aload_n e_X4_take_5 rfl ?_
  refine r_getI e_X4_take_6 fl_X4_44 i0 (by with_reducible assumption) ?_
  refine r_if_ge e_X4_take_9 (fun h9_0 => ?_) (fun h9_0 => ?_)
  · refine r_aload_n e_X4_take_59 rfl ?_
    refine cV0u e_X4_take_60 cl_X4_80 ⟨Nat.le_of_ble_eq_true rfl, Nat.le_of_ble_eq_true rfl⟩ ⟨rfl, rfl⟩ (by with_reducible assumption) (Nat.le_of_ble_eq_true rfl) (S_X4_refuse (by with_reducible assumption) (by with_reducible assumption) (by with_reducible assumption)) ?_
    refine r_bipush e_X4_take_63 bp_36 ?_
    refine r_ireturn e_X4_take_65 rfl ⟨rfl, rfl⟩ ?_
    (refine ⟨?_, rfl, ?_⟩ <;> ((try unfold V_X4_take); (try unfold U_X4_take); (try simp only [if_pos h9_0]); (try rfl)))
  · refine r_iload_n e_X4_take_12 rfl ?_
    refine r_iload_n e_X4_take_13 rfl ?_
    refine r_icmp_lt e_X4_take_14 (fun h14_1 => ?_) (fun h14_1 => ?_)
    · refine r_aload_n e_X4_take_59 rfl ?_
      refine cV0u e_X4_take_60 cl_X4_80 ⟨Nat.le_of_ble_eq_true rfl, Nat.le_of_ble_eq_true rfl⟩ ⟨rfl, rfl⟩ (by with_reducible assumption) (Nat.le_of_ble_eq_true rfl) (S_X4_refuse (by with_reducible assumption) (by with_reducible assumption) (by with_reducible assumption)) ?_
      refine r_bipush e_X4_take_63 bp_36 ?_
      refine r_ireturn e_X4_take_65 rfl ⟨rfl, rfl⟩ ?_
      (refine ⟨?_, rfl, ?_⟩ <;> ((try unfold V_X4_take); (try unfold U_X4_take); (try simp only [if_neg h9_0, if_pos h14_1]); (try rfl)))
    · refine r_iload_n e_X4_take_17 rfl ?_
      refine r_iload_n e_X4_take_18 rfl ?_
      refine r_icmp_gt e_X4_take_19 (fun h19_2 => ?_) (fun h19_2 => ?_)
      · refine r_aload_n e_X4_take_59 rfl ?_
        refine cV0u e_X4_take_60 cl_X4_80 ⟨Nat.le_of_ble_eq_true rfl, Nat.le_of_ble_eq_true rfl⟩ ⟨rfl, rfl⟩ (by with_reducible assumption) (Nat.le_of_ble_eq_true rfl) (S_X4_refuse (by with_reducible assumption) (by with_reducible assumption) (by with_reducible assumption)) ?_
        refine r_bipush e_X4_take_63 bp_36 ?_
        refine r_ireturn e_X4_take_65 rfl ⟨rfl, rfl⟩ ?_
        (refine ⟨?_, rfl, ?_⟩ <;> ((try unfold V_X4_take); (try unfold U_X4_take); (try simp only [if_neg h9_0, if_neg h14_1, if_pos h19_2]); (try rfl)))
      · refine r_aload_n e_X4_take_22 rfl ?_
        refine r_getI e_X4_take_23 fl_X4_37 i0 (by with_reducible assumption) ?_
        refine r_aload_n e_X4_take_26 rfl ?_
        refine r_getR e_X4_take_27 fl_X4_24 (by with_reducible assumption) (by with_reducible assumption) ?_
        refine r_alen (v := (801 : Int32)) e_X4_take_30 (by with_reducible assumption) (by decide) rfl ?_
        refine r_icmp_ge e_X4_take_31 (fun h31_3 => ?_) (fun h31_3 => ?_)
        · refine r_aload_n e_X4_take_59 rfl ?_
          refine cV0u e_X4_take_60 cl_X4_80 ⟨Nat.le_of_ble_eq_true rfl, Nat.le_of_ble_eq_true rfl⟩ ⟨rfl, rfl⟩ (by with_reducible assumption) (Nat.le_of_ble_eq_true rfl) (S_X4_refuse (by with_reducible assumption) (by with_reducible assumption) (by with_reducible assumption)) ?_
          refine r_bipush e_X4_take_63 bp_36 ?_
          refine r_ireturn e_X4_take_65 rfl ⟨rfl, rfl⟩ ?_
          (refine ⟨?_, rfl, ?_⟩ <;> ((try unfold V_X4_take); (try unfold U_X4_take); (try simp only [if_neg h9_0, if_neg h14_1, if_neg h19_2, if_pos h31_3]); (try rfl)))
        · refine r_aload_n e_X4_take_34 rfl ?_
          refine r_aload_n e_X4_take_35 rfl ?_
          refine r_getR e_X4_take_36 fl_X4_24 (by with_reducible assumption) (by with_reducible assumption) ?_
          refine r_aload_n e_X4_take_39 rfl ?_
          refine r_getI e_X4_take_40 fl_X4_37 i0 (by with_reducible assumption) ?_
          refine r_laload e_X4_take_43 (by with_reducible assumption) (vp_guard (by with_reducible assumption) h31_3 (by decide)) ?_
          refine r_putJ e_X4_take_44 fl_X4_40 (by with_reducible assumption) ?_
          refine r_aload_n e_X4_take_47 rfl ?_
          refine r_dup e_X4_take_48 rfl ?_
          refine r_getIe e_X4_take_49 fl_X4_37 i0 (by with_reducible assumption) gs_k ?_
          refine r_iconst e_X4_take_52 ic_1 ?_
          refine r_iadd e_X4_take_53 ?_
          refine r_putI e_X4_take_54 fl_X4_37 (by with_reducible assumption) ?_
          refine r_iload_n e_X4_take_57 rfl ?_
          refine r_ireturn e_X4_take_58 rfl ⟨rfl, rfl⟩ ?_
          (refine ⟨?_, rfl, ?_⟩ <;> ((try unfold V_X4_take); (try unfold U_X4_take); (try simp only [if_neg h9_0, if_neg h14_1, if_neg h19_2, if_neg h31_3]); (try rfl)))
def U_X3_openState (a : Nat) (x1 : Int64) (q1 : Nat) (M : Mem) : Mem := (let M0_0 : Mem := if (8 : Int32) ≤ (M.1 a 0) then M else (setJ M q1 (M.1 a 0).toNatClampNeg x1); M0_0)
theorem S_X3_openState {sh : List SC} {M : Mem} {a : Nat} {x1 : Int64} {q1 : Nat} (g1 : kd sh a = some (3 + 7, 0)) (g2 : rf sh a 1 = some q1) (g3 : kd sh q1 = some (1, 8)) (g4 : ¬ (M.1 a 0) < 0) : Gu m_X3_openState [.ref a, .long x1] sh M (U_X3_openState a x1 q1 M) := by
  refine Sp.of (ls := [some (.ref a), some (.long x1), none]) (by decide +kernel) (Nat.le_of_ble_eq_true rfl) rfl ?_
  refine r_aload_n e_X3_openState_0 rfl ?_
  refine r_getI e_X3_openState_1 fl_X3_9 i0 (by with_reducible assumption) ?_
  refine r_aload_n e_X3_openState_4 rfl ?_
  refine r_getR e_X3_openState_5 fl_X3_15 (by with_reducible assumption) (by with_reducible assumption) ?_
  refine r_alen (v := (8 : Int32)) e_X3_openState_8 (by with_reducible assumption) (by decide) rfl ?_
  obtain ⟨M0_0, e_M0_0⟩ : ∃ z : Mem, z = (if (8 : Int32) ≤ (M.1 a 0) then M else (setJ M q1 (M.1 a 0).toNatClampNeg x1)) := ⟨_, rfl⟩
  suffices j22_0 : WP m_X3_openState (fun r sh' M'' => r = none ∧ sh' = sh ∧ M'' = (U_X3_openState a x1 q1 M)) 22 [some (.ref a), some (.long x1), none] [] sh M0_0 0 0 by
    refine r_icmp_ge e_X3_openState_9 (fun h9_0 => ?_) (fun h9_0 => ?_)
    · rw [show M0_0 = M from (e_M0_0.trans (if_pos h9_0))] at j22_0; exact j22_0
    · refine r_aload_n e_X3_openState_12 rfl ?_
      refine r_getR e_X3_openState_13 fl_X3_15 (by with_reducible assumption) (by with_reducible assumption) ?_
      refine r_aload_n e_X3_openState_16 rfl ?_
      refine r_getI e_X3_openState_17 fl_X3_9 i0 (by with_reducible assumption) ?_
      refine r_lload_n e_X3_openState_20 rfl ?_
      refine r_lastore e_X3_openState_21 (by with_reducible assumption) (vp_guard (by with_reducible assumption) h9_0 (by decide)) ?_
      rw [show M0_0 = setJ M q1 (M.1 a 0).toNatClampNeg x1 from (e_M0_0.trans (if_neg h9_0))] at j22_0; exact j22_0
  refine r_return e_X3_openState_22 rfl ⟨rfl, rfl⟩ ?_
  (subst e_M0_0; refine ⟨?_, rfl, ?_⟩ <;> ((try unfold U_X3_openState); (try simp only []); (try rfl)))
def U_X10_put (x1 : Nat) (x2 : Int32) (x3 : Int32) (n1 : Nat) (M : Mem) : Mem := (let M0_0 : Mem := if x2 < 0 then M else (if (Int32.ofNat n1) ≤ x2 then M else (setI M x1 x2.toNatClampNeg x3)); M0_0)
theorem S_X10_put {sh : List SC} {M : Mem} {x1 : Nat} {x2 : Int32} {x3 : Int32} {n1 : Nat} (g1 : kd sh x1 = some (0, n1)) (g2 : n1 < 2 ^ 31) : Gu m_X10_put [.ref x1, .int x2, .int x3] sh M (U_X10_put x1 x2 x3 n1 M) := by
  refine Sp.of (ls := [some (.ref x1), some (.int x2), some (.int x3)]) (by decide +kernel) (Nat.le_of_ble_eq_true rfl) rfl ?_
  refine r_iload_n e_X10_put_0 rfl ?_
  obtain ⟨M0_0, e_M0_0⟩ : ∃ z : Mem, z = (if x2 < 0 then M else (if (Int32.ofNat n1) ≤ x2 then M else (setI M x1 x2.toNatClampNeg x3))) := ⟨_, rfl⟩
  suffices j14_0 : WP m_X10_put (fun r sh' M'' => r = none ∧ sh' = sh ∧ M'' = (U_X10_put x1 x2 x3 n1 M)) 14 [some (.ref x1), some (.int x2), some (.int x3)] [] sh M0_0 0 0 by
    refine r_if_lt e_X10_put_1 (fun h1_0 => ?_) (fun h1_0 => ?_)
    · rw [show M0_0 = M from (e_M0_0.trans (if_pos h1_0))] at j14_0; exact j14_0
    · refine r_iload_n e_X10_put_4 rfl ?_
      refine r_aload_n e_X10_put_5 rfl ?_
      refine r_alen (v := (Int32.ofNat n1)) e_X10_put_6 (by with_reducible assumption) (by decide) rfl ?_
      refine r_icmp_ge e_X10_put_7 (fun h7_1 => ?_) (fun h7_1 => ?_)
      · rw [show M0_0 = M from ((e_M0_0.trans (if_neg h1_0)).trans (if_pos h7_1))] at j14_0; exact j14_0
      · refine r_aload_n e_X10_put_10 rfl ?_
        refine r_iload_n e_X10_put_11 rfl ?_
        refine r_iload_n e_X10_put_12 rfl ?_
        refine r_iastore e_X10_put_13 (by with_reducible assumption) (vp_guard h1_0 h7_1 (by with_reducible assumption)) ?_
        rw [show M0_0 = setI M x1 x2.toNatClampNeg x3 from ((e_M0_0.trans (if_neg h1_0)).trans (if_neg h7_1))] at j14_0; exact j14_0
  refine r_return e_X10_put_14 rfl ⟨rfl, rfl⟩ ?_
  (subst e_M0_0; refine ⟨?_, rfl, ?_⟩ <;> ((try unfold U_X10_put); (try simp only []); (try rfl)))
def U_X3_closeSum (a : Nat) (q1 : Nat) (M : Mem) : Mem := U_X10_put q1 ((M.1 a 13) + (1 : Int32)) (M.1 a 15) 401 (setI M a 13 ((M.1 a 13) + (1 : Int32)))
theorem S_X3_closeSum {sh : List SC} {M : Mem} {a : Nat} {q1 : Nat} (g1 : kd sh a = some (3 + 7, 0)) (g2 : rf sh a 14 = some q1) (g3 : kd sh q1 = some (0, 401)) : Gu m_X3_closeSum [.ref a] sh M (U_X3_closeSum a q1 M) := by
  refine Sp.of (ls := [some (.ref a)]) (by decide +kernel) (Nat.le_of_ble_eq_true rfl) rfl ?_
  refine r_aload_n e_X3_closeSum_0 rfl ?_
  refine r_dup e_X3_closeSum_1 rfl ?_
  refine r_getI e_X3_closeSum_2 fl_X3_53 i0 (by with_reducible assumption) ?_
  refine r_iconst e_X3_closeSum_5 ic_1 ?_
  refine r_iadd e_X3_closeSum_6 ?_
  refine r_putI e_X3_closeSum_7 fl_X3_53 (by with_reducible assumption) ?_
  refine r_aload_n e_X3_closeSum_10 rfl ?_
  refine r_getR e_X3_closeSum_11 fl_X3_56 (by with_reducible assumption) (by with_reducible assumption) ?_
  refine r_aload_n e_X3_closeSum_14 rfl ?_
  refine r_getIe e_X3_closeSum_15 fl_X3_53 i0 (by with_reducible assumption) gs_eI ?_
  refine r_aload_n e_X3_closeSum_18 rfl ?_
  refine r_getIe e_X3_closeSum_19 fl_X3_59 i0 (by with_reducible assumption) (gs_nI (by decide)) ?_
  refine cSN3u e_X3_closeSum_22 cl_X3_74 ⟨Nat.le_of_ble_eq_true rfl, Nat.le_of_ble_eq_true rfl⟩ ⟨rfl, rfl⟩  (Nat.le_of_ble_eq_true rfl) (S_X10_put (by with_reducible assumption) (by first | decide | (unfold vp_in; decide) | exact Or.inl rfl | exact Or.inr rfl)) ?_
  refine r_return e_X3_closeSum_25 rfl ⟨rfl, rfl⟩ ?_
  (refine ⟨?_, rfl, ?_⟩ <;> ((try unfold U_X3_closeSum); (try simp only []); (try rfl)))
def U_X3_addTest (a : Nat) (x1 : Int32) (q1 : Nat) (q2 : Nat) (M : Mem) : Mem := setI (U_X10_put q2 ((U_X10_put q1 (M.1 a 6) x1 400 M).1 a 6) (((U_X10_put q1 (M.1 a 6) x1 400 M).1 a 13) - (2 : Int32)) 400 (U_X10_put q1 (M.1 a 6) x1 400 M)) a 6 (((U_X10_put q2 ((U_X10_put q1 (M.1 a 6) x1 400 M).1 a 6) (((U_X10_put q1 (M.1 a 6) x1 400 M).1 a 13) - (2 : Int32)) 400 (U_X10_put q1 (M.1 a 6) x1 400 M)).1 a 6) + (1 : Int32))
theorem S_X3_addTest {sh : List SC} {M : Mem} {a : Nat} {x1 : Int32} {q1 : Nat} {q2 : Nat} (g1 : kd sh a = some (3 + 7, 0)) (g2 : rf sh a 7 = some q1) (g3 : kd sh q1 = some (0, 400)) (g4 : rf sh a 8 = some q2) (g5 : kd sh q2 = some (0, 400)) : Gu m_X3_addTest [.ref a, .int x1] sh M (U_X3_addTest a x1 q1 q2 M) := by
  refine Sp.of (ls := [some (.ref a), some (.int x1)]) (by decide +kernel) (Nat.le_of_ble_eq_true rfl) rfl ?_
  refine r_aload_n e_X3_addTest_0 rfl ?_
  refine r_getR e_X3_addTest_1 fl_X3_35 (by with_reducible assumption) (by with_reducible assumption) ?_
  refine r_aload_n e_X3_addTest_4 rfl ?_
  refine r_getI e_X3_addTest_5 fl_X3_32 i0 (by with_reducible assumption) ?_
  refine r_iload_n e_X3_addTest_8 rfl ?_
  refine cSN3u e_X3_addTest_9 cl_X3_74 ⟨Nat.le_of_ble_eq_true rfl, Nat.le_of_ble_eq_true rfl⟩ ⟨rfl, rfl⟩  (Nat.le_of_ble_eq_true rfl) (S_X10_put (by with_reducible assumption) (by first | decide | (unfold vp_in; decide) | exact Or.inl rfl | exact Or.inr rfl)) ?_
  refine r_aload_n e_X3_addTest_12 rfl ?_
  refine r_getR e_X3_addTest_13 fl_X3_38 (by with_reducible assumption) (by with_reducible assumption) ?_
  refine r_aload_n e_X3_addTest_16 rfl ?_
  refine r_getI e_X3_addTest_17 fl_X3_32 i0 (by with_reducible assumption) ?_
  refine r_aload_n e_X3_addTest_20 rfl ?_
  refine r_getI e_X3_addTest_21 fl_X3_53 i0 (by with_reducible assumption) ?_
  refine r_iconst e_X3_addTest_24 ic_2 ?_
  refine r_isub e_X3_addTest_25 ?_
  refine cSN3u e_X3_addTest_26 cl_X3_74 ⟨Nat.le_of_ble_eq_true rfl, Nat.le_of_ble_eq_true rfl⟩ ⟨rfl, rfl⟩  (Nat.le_of_ble_eq_true rfl) (S_X10_put (by with_reducible assumption) (by first | decide | (unfold vp_in; decide) | exact Or.inl rfl | exact Or.inr rfl)) ?_
  refine r_aload_n e_X3_addTest_29 rfl ?_
  refine r_dup e_X3_addTest_30 rfl ?_
  refine r_getI e_X3_addTest_31 fl_X3_32 i0 (by with_reducible assumption) ?_
  refine r_iconst e_X3_addTest_34 ic_1 ?_
  refine r_iadd e_X3_addTest_35 ?_
  refine r_putI e_X3_addTest_36 fl_X3_32 (by with_reducible assumption) ?_
  refine r_return e_X3_addTest_39 rfl ⟨rfl, rfl⟩ ?_
  (refine ⟨?_, rfl, ?_⟩ <;> ((try unfold U_X3_addTest); (try simp only []); (try rfl)))
def U_X3_addAct (a : Nat) (x1 : Int32) (x2 : Int64) (x3 : Int32) (q1 : Nat) (q2 : Nat) (q3 : Nat) (M : Mem) : Mem := (let M0_0 : Mem := if (400 : Int32) ≤ (M.1 a 9) then M else (setI (setI (setJ (setI M q2 (M.1 a 9).toNatClampNeg x1) q1 (M.1 a 9).toNatClampNeg x2) q3 (M.1 a 9).toNatClampNeg ((M.1 a 13) - x3)) a 9 ((M.1 a 9) + (1 : Int32))); M0_0)
theorem S_X3_addAct {sh : List SC} {M : Mem} {a : Nat} {x1 : Int32} {x2 : Int64} {x3 : Int32} {q1 : Nat} {q2 : Nat} {q3 : Nat} (g1 : kd sh a = some (3 + 7, 0)) (g2 : rf sh a 11 = some q1) (g3 : kd sh q1 = some (1, 400)) (g4 : rf sh a 10 = some q2) (g5 : kd sh q2 = some (0, 400)) (g6 : ¬ (M.1 a 9) < 0) (g7 : rf sh a 12 = some q3) (g8 : kd sh q3 = some (0, 400)) : Gu m_X3_addAct [.ref a, .int x1, .long x2, .int x3] sh M (U_X3_addAct a x1 x2 x3 q1 q2 q3 M) := by
  refine Sp.of (ls := [some (.ref a), some (.int x1), some (.long x2), none, some (.int x3)]) (by decide +kernel) (Nat.le_of_ble_eq_true rfl) rfl ?_
  refine r_aload_n e_X3_addAct_0 rfl ?_
  refine r_getI e_X3_addAct_1 fl_X3_41 i0 (by with_reducible assumption) ?_
  refine r_aload_n e_X3_addAct_4 rfl ?_
  refine r_getR e_X3_addAct_5 fl_X3_47 (by with_reducible assumption) (by with_reducible assumption) ?_
  refine r_alen (v := (400 : Int32)) e_X3_addAct_8 (by with_reducible assumption) (by decide) rfl ?_
  obtain ⟨M0_0, e_M0_0⟩ : ∃ z : Mem, z = (if (400 : Int32) ≤ (M.1 a 9) then M else (setI (setI (setJ (setI M q2 (M.1 a 9).toNatClampNeg x1) q1 (M.1 a 9).toNatClampNeg x2) q3 (M.1 a 9).toNatClampNeg ((M.1 a 13) - x3)) a 9 ((M.1 a 9) + (1 : Int32)))) := ⟨_, rfl⟩
  suffices j58_0 : WP m_X3_addAct (fun r sh' M'' => r = none ∧ sh' = sh ∧ M'' = (U_X3_addAct a x1 x2 x3 q1 q2 q3 M)) 58 [some (.ref a), some (.int x1), some (.long x2), none, some (.int x3)] [] sh M0_0 0 0 by
    refine r_icmp_ge e_X3_addAct_9 (fun h9_0 => ?_) (fun h9_0 => ?_)
    · rw [show M0_0 = M from (e_M0_0.trans (if_pos h9_0))] at j58_0; exact j58_0
    · refine r_aload_n e_X3_addAct_12 rfl ?_
      refine r_getR e_X3_addAct_13 fl_X3_44 (by with_reducible assumption) (by with_reducible assumption) ?_
      refine r_aload_n e_X3_addAct_16 rfl ?_
      refine r_getI e_X3_addAct_17 fl_X3_41 i0 (by with_reducible assumption) ?_
      refine r_iload_n e_X3_addAct_20 rfl ?_
      refine r_iastore e_X3_addAct_21 (by with_reducible assumption) (vp_guard (by with_reducible assumption) h9_0 (by decide)) ?_
      refine r_aload_n e_X3_addAct_22 rfl ?_
      refine r_getR e_X3_addAct_23 fl_X3_47 (by with_reducible assumption) (by with_reducible assumption) ?_
      refine r_aload_n e_X3_addAct_26 rfl ?_
      refine r_getIe e_X3_addAct_27 fl_X3_41 i0 (by with_reducible assumption) (gs_aI (ne_kd (show kd sh a = some (3 + 7, 0) by with_reducible assumption) (show kd sh q2 = some (0, 400) by with_reducible assumption) (by decide))) ?_
      refine r_lload_n e_X3_addAct_30 rfl ?_
      refine r_lastore e_X3_addAct_31 (by with_reducible assumption) (vp_guard (by with_reducible assumption) h9_0 (by decide)) ?_
      refine r_aload_n e_X3_addAct_32 rfl ?_
      refine r_getR e_X3_addAct_33 fl_X3_50 (by with_reducible assumption) (by with_reducible assumption) ?_
      refine r_aload_n e_X3_addAct_36 rfl ?_
      refine r_getIe e_X3_addAct_37 fl_X3_41 i0 (by with_reducible assumption) (gs_k.trans (gs_aI (ne_kd (show kd sh a = some (3 + 7, 0) by with_reducible assumption) (show kd sh q2 = some (0, 400) by with_reducible assumption) (by decide)))) ?_
      refine r_aload_n e_X3_addAct_40 rfl ?_
      refine r_getIe e_X3_addAct_41 fl_X3_53 i0 (by with_reducible assumption) (gs_k.trans (gs_aI (ne_kd (show kd sh a = some (3 + 7, 0) by with_reducible assumption) (show kd sh q2 = some (0, 400) by with_reducible assumption) (by decide)))) ?_
      refine r_iload e_X3_addAct_44 rfl ?_
      refine r_isub e_X3_addAct_46 ?_
      refine r_iastore e_X3_addAct_47 (by with_reducible assumption) (vp_guard (by with_reducible assumption) h9_0 (by decide)) ?_
      refine r_aload_n e_X3_addAct_48 rfl ?_
      refine r_dup e_X3_addAct_49 rfl ?_
      refine r_getIe e_X3_addAct_50 fl_X3_41 i0 (by with_reducible assumption) ((gs_aI (ne_kd (show kd sh a = some (3 + 7, 0) by with_reducible assumption) (show kd sh q3 = some (0, 400) by with_reducible assumption) (by decide))).trans (gs_k.trans (gs_aI (ne_kd (show kd sh a = some (3 + 7, 0) by with_reducible assumption) (show kd sh q2 = some (0, 400) by with_reducible assumption) (by decide))))) ?_
      refine r_iconst e_X3_addAct_53 ic_1 ?_
      refine r_iadd e_X3_addAct_54 ?_
      refine r_putI e_X3_addAct_55 fl_X3_41 (by with_reducible assumption) ?_
      rw [show M0_0 = setI (setI (setJ (setI M q2 (M.1 a 9).toNatClampNeg x1) q1 (M.1 a 9).toNatClampNeg x2) q3 (M.1 a 9).toNatClampNeg ((M.1 a 13) - x3)) a 9 ((M.1 a 9) + (1 : Int32)) from (e_M0_0.trans (if_neg h9_0))] at j58_0; exact j58_0
  refine r_return e_X3_addAct_58 rfl ⟨rfl, rfl⟩ ?_
  (subst e_M0_0; refine ⟨?_, rfl, ?_⟩ <;> ((try unfold U_X3_addAct); (try simp only []); (try rfl)))
def U_X3_closeRule (a : Nat) (q1 : Nat) (q2 : Nat) (M : Mem) : Mem := U_X10_put q2 ((U_X10_put q1 ((M.1 a 3) + (1 : Int32)) (M.1 a 6) 97 (setI M a 3 ((M.1 a 3) + (1 : Int32)))).1 a 3) ((U_X10_put q1 ((M.1 a 3) + (1 : Int32)) (M.1 a 6) 97 (setI M a 3 ((M.1 a 3) + (1 : Int32)))).1 a 9) 97 (U_X10_put q1 ((M.1 a 3) + (1 : Int32)) (M.1 a 6) 97 (setI M a 3 ((M.1 a 3) + (1 : Int32))))
theorem S_X3_closeRule {sh : List SC} {M : Mem} {a : Nat} {q1 : Nat} {q2 : Nat} (g1 : kd sh a = some (3 + 7, 0)) (g2 : rf sh a 4 = some q1) (g3 : kd sh q1 = some (0, 97)) (g4 : rf sh a 5 = some q2) (g5 : kd sh q2 = some (0, 97)) : Gu m_X3_closeRule [.ref a] sh M (U_X3_closeRule a q1 q2 M) := by
  refine Sp.of (ls := [some (.ref a)]) (by decide +kernel) (Nat.le_of_ble_eq_true rfl) rfl ?_
  refine r_aload_n e_X3_closeRule_0 rfl ?_
  refine r_dup e_X3_closeRule_1 rfl ?_
  refine r_getI e_X3_closeRule_2 fl_X3_23 i0 (by with_reducible assumption) ?_
  refine r_iconst e_X3_closeRule_5 ic_1 ?_
  refine r_iadd e_X3_closeRule_6 ?_
  refine r_putI e_X3_closeRule_7 fl_X3_23 (by with_reducible assumption) ?_
  refine r_aload_n e_X3_closeRule_10 rfl ?_
  refine r_getR e_X3_closeRule_11 fl_X3_26 (by with_reducible assumption) (by with_reducible assumption) ?_
  refine r_aload_n e_X3_closeRule_14 rfl ?_
  refine r_getIe e_X3_closeRule_15 fl_X3_23 i0 (by with_reducible assumption) gs_eI ?_
  refine r_aload_n e_X3_closeRule_18 rfl ?_
  refine r_getIe e_X3_closeRule_19 fl_X3_32 i0 (by with_reducible assumption) (gs_nI (by decide)) ?_
  refine cSN3u e_X3_closeRule_22 cl_X3_74 ⟨Nat.le_of_ble_eq_true rfl, Nat.le_of_ble_eq_true rfl⟩ ⟨rfl, rfl⟩  (Nat.le_of_ble_eq_true rfl) (S_X10_put (by with_reducible assumption) (by first | decide | (unfold vp_in; decide) | exact Or.inl rfl | exact Or.inr rfl)) ?_
  refine r_aload_n e_X3_closeRule_25 rfl ?_
  refine r_getR e_X3_closeRule_26 fl_X3_29 (by with_reducible assumption) (by with_reducible assumption) ?_
  refine r_aload_n e_X3_closeRule_29 rfl ?_
  refine r_getI e_X3_closeRule_30 fl_X3_23 i0 (by with_reducible assumption) ?_
  refine r_aload_n e_X3_closeRule_33 rfl ?_
  refine r_getI e_X3_closeRule_34 fl_X3_41 i0 (by with_reducible assumption) ?_
  refine cSN3u e_X3_closeRule_37 cl_X3_74 ⟨Nat.le_of_ble_eq_true rfl, Nat.le_of_ble_eq_true rfl⟩ ⟨rfl, rfl⟩  (Nat.le_of_ble_eq_true rfl) (S_X10_put (by with_reducible assumption) (by first | decide | (unfold vp_in; decide) | exact Or.inl rfl | exact Or.inr rfl)) ?_
  refine r_return e_X3_closeRule_40 rfl ⟨rfl, rfl⟩ ?_
  (refine ⟨?_, rfl, ?_⟩ <;> ((try unfold U_X3_closeRule); (try simp only []); (try rfl)))
def U_X3_closeState (a : Nat) (q1 : Nat) (M : Mem) : Mem := U_X10_put q1 ((M.1 a 0) + (1 : Int32)) (M.1 a 3) 9 (setI M a 0 ((M.1 a 0) + (1 : Int32)))
theorem S_X3_closeState {sh : List SC} {M : Mem} {a : Nat} {q1 : Nat} (g1 : kd sh a = some (3 + 7, 0)) (g2 : rf sh a 2 = some q1) (g3 : kd sh q1 = some (0, 9)) : Gu m_X3_closeState [.ref a] sh M (U_X3_closeState a q1 M) := by
  refine Sp.of (ls := [some (.ref a)]) (by decide +kernel) (Nat.le_of_ble_eq_true rfl) rfl ?_
  refine r_aload_n e_X3_closeState_0 rfl ?_
  refine r_dup e_X3_closeState_1 rfl ?_
  refine r_getI e_X3_closeState_2 fl_X3_9 i0 (by with_reducible assumption) ?_
  refine r_iconst e_X3_closeState_5 ic_1 ?_
  refine r_iadd e_X3_closeState_6 ?_
  refine r_putI e_X3_closeState_7 fl_X3_9 (by with_reducible assumption) ?_
  refine r_aload_n e_X3_closeState_10 rfl ?_
  refine r_getR e_X3_closeState_11 fl_X3_19 (by with_reducible assumption) (by with_reducible assumption) ?_
  refine r_aload_n e_X3_closeState_14 rfl ?_
  refine r_getIe e_X3_closeState_15 fl_X3_9 i0 (by with_reducible assumption) gs_eI ?_
  refine r_aload_n e_X3_closeState_18 rfl ?_
  refine r_getIe e_X3_closeState_19 fl_X3_23 i0 (by with_reducible assumption) (gs_nI (by decide)) ?_
  refine cSN3u e_X3_closeState_22 cl_X3_74 ⟨Nat.le_of_ble_eq_true rfl, Nat.le_of_ble_eq_true rfl⟩ ⟨rfl, rfl⟩  (Nat.le_of_ble_eq_true rfl) (S_X10_put (by with_reducible assumption) (by first | decide | (unfold vp_in; decide) | exact Or.inl rfl | exact Or.inr rfl)) ?_
  refine r_return e_X3_closeState_25 rfl ⟨rfl, rfl⟩ ?_
  (refine ⟨?_, rfl, ?_⟩ <;> ((try unfold U_X3_closeState); (try simp only []); (try rfl)))
def U_X4_empty (a : Nat) (M : Mem) : Mem := setI M a 5 (0 : Int32)
theorem S_X4_empty {sh : List SC} {M : Mem} {a : Nat}  (g1 : kd sh a = some (4 + 7, 0)) : Gu m_X4_empty [.ref a] sh M (U_X4_empty a M) := by
  refine Sp.of (ls := [some (.ref a)]) (by decide +kernel) (Nat.le_of_ble_eq_true rfl) rfl ?_
  refine r_aload_n e_X4_empty_0 rfl ?_
  refine r_iconst e_X4_empty_1 ic_0 ?_
  refine r_putI e_X4_empty_2 fl_X4_30 (by with_reducible assumption) ?_
  refine r_return e_X4_empty_5 rfl ⟨rfl, rfl⟩ ?_
  (refine ⟨?_, rfl, ?_⟩ <;> ((try unfold U_X4_empty); (try simp only []); (try rfl)))
def V_X10_fault (a : Nat) (M : Mem) : Int32 := (M.1 a 11)
theorem S_X10_fault {sh : List SC} {M : Mem} {a : Nat}  (g1 : kd sh a = some (9 + 7, 0)) : Gv m_X10_fault [.ref a] sh M (.int (V_X10_fault a M)) M := by
  refine Sp.of (ls := [some (.ref a)]) (by decide +kernel) (Nat.le_of_ble_eq_true rfl) rfl ?_
  refine r_aload_n e_X10_fault_0 rfl ?_
  refine r_getI e_X10_fault_1 fl_X10_55 i0 (by with_reducible assumption) ?_
  refine r_ireturn e_X10_fault_4 rfl ⟨rfl, rfl⟩ ?_
  (refine ⟨?_, rfl, ?_⟩ <;> ((try unfold V_X10_fault); (try simp only []); (try rfl)))
def V_X10_isTeam (x1 : Int32) (M : Mem) : Int32 := (let v0_0 : Int32 := if x1 < 0 then (0 : Int32) else (if (4 : Int32) ≤ x1 then (0 : Int32) else (1 : Int32)); v0_0)
theorem Z_X10_isTeam {M : Mem} {x1 : Int32}   : V_X10_isTeam x1 M = 0 ∨ V_X10_isTeam x1 M = 1 := (zi (Or.inl rfl) (zi (Or.inl rfl) (Or.inr rfl)))
theorem S_X10_isTeam {sh : List SC} {M : Mem} {x1 : Int32}   : Gv m_X10_isTeam [.int x1] sh M (.int (V_X10_isTeam x1 M)) M := by
  refine Sp.of (ls := [some (.int x1)]) (by decide +kernel) (Nat.le_of_ble_eq_true rfl) rfl ?_
  refine r_iload_n e_X10_isTeam_0 rfl ?_
  obtain ⟨v0_0, e_v0_0⟩ : ∃ z : Int32, z = (if x1 < 0 then (0 : Int32) else (if (4 : Int32) ≤ x1 then (0 : Int32) else (1 : Int32))) := ⟨_, rfl⟩
  have z_v0_0 : v0_0 = 0 ∨ v0_0 = 1 := by rw [e_v0_0]; exact (zi (Or.inl rfl) (zi (Or.inl rfl) (Or.inr rfl)))
  suffices j14_0 : WP m_X10_isTeam (fun r sh' M'' => r = some (.int (V_X10_isTeam x1 M)) ∧ sh' = sh ∧ M'' = M) 14 [some (.int x1)] [.int v0_0] sh M 0 0 by
    refine r_if_lt e_X10_isTeam_1 (fun h1_0 => ?_) (fun h1_0 => ?_)
    · refine r_iconst e_X10_isTeam_13 ic_0 ?_
      rw [show v0_0 = (0 : Int32) from (e_v0_0.trans (if_pos h1_0))] at j14_0; exact j14_0
    · refine r_iload_n e_X10_isTeam_4 rfl ?_
      refine r_iconst e_X10_isTeam_5 ic_4 ?_
      refine r_icmp_ge e_X10_isTeam_6 (fun h6_1 => ?_) (fun h6_1 => ?_)
      · refine r_iconst e_X10_isTeam_13 ic_0 ?_
        rw [show v0_0 = (0 : Int32) from ((e_v0_0.trans (if_neg h1_0)).trans (if_pos h6_1))] at j14_0; exact j14_0
      · refine r_iconst e_X10_isTeam_9 ic_1 ?_
        refine r_goto e_X10_isTeam_10 ?_
        rw [show v0_0 = (1 : Int32) from ((e_v0_0.trans (if_neg h1_0)).trans (if_neg h6_1))] at j14_0; exact j14_0
  refine r_zreturn e_X10_isTeam_14 rfl ⟨rfl, rfl⟩ z_v0_0 ?_
  (subst e_v0_0; refine ⟨?_, rfl, ?_⟩ <;> ((try unfold V_X10_isTeam); (try simp only []); (try rfl)))
def V_X10_isMember (x1 : Int32) (M : Mem) : Int32 := (let v0_0 : Int32 := if x1 < 0 then (0 : Int32) else (if (5 : Int32) ≤ x1 then (0 : Int32) else (1 : Int32)); v0_0)
theorem Z_X10_isMember {M : Mem} {x1 : Int32}   : V_X10_isMember x1 M = 0 ∨ V_X10_isMember x1 M = 1 := (zi (Or.inl rfl) (zi (Or.inl rfl) (Or.inr rfl)))
theorem S_X10_isMember {sh : List SC} {M : Mem} {x1 : Int32}   : Gv m_X10_isMember [.int x1] sh M (.int (V_X10_isMember x1 M)) M := by
  refine Sp.of (ls := [some (.int x1)]) (by decide +kernel) (Nat.le_of_ble_eq_true rfl) rfl ?_
  refine r_iload_n e_X10_isMember_0 rfl ?_
  obtain ⟨v0_0, e_v0_0⟩ : ∃ z : Int32, z = (if x1 < 0 then (0 : Int32) else (if (5 : Int32) ≤ x1 then (0 : Int32) else (1 : Int32))) := ⟨_, rfl⟩
  have z_v0_0 : v0_0 = 0 ∨ v0_0 = 1 := by rw [e_v0_0]; exact (zi (Or.inl rfl) (zi (Or.inl rfl) (Or.inr rfl)))
  suffices j14_0 : WP m_X10_isMember (fun r sh' M'' => r = some (.int (V_X10_isMember x1 M)) ∧ sh' = sh ∧ M'' = M) 14 [some (.int x1)] [.int v0_0] sh M 0 0 by
    refine r_if_lt e_X10_isMember_1 (fun h1_0 => ?_) (fun h1_0 => ?_)
    · refine r_iconst e_X10_isMember_13 ic_0 ?_
      rw [show v0_0 = (0 : Int32) from (e_v0_0.trans (if_pos h1_0))] at j14_0; exact j14_0
    · refine r_iload_n e_X10_isMember_4 rfl ?_
      refine r_iconst e_X10_isMember_5 ic_5 ?_
      refine r_icmp_ge e_X10_isMember_6 (fun h6_1 => ?_) (fun h6_1 => ?_)
      · refine r_iconst e_X10_isMember_13 ic_0 ?_
        rw [show v0_0 = (0 : Int32) from ((e_v0_0.trans (if_neg h1_0)).trans (if_pos h6_1))] at j14_0; exact j14_0
      · refine r_iconst e_X10_isMember_9 ic_1 ?_
        refine r_goto e_X10_isMember_10 ?_
        rw [show v0_0 = (1 : Int32) from ((e_v0_0.trans (if_neg h1_0)).trans (if_neg h6_1))] at j14_0; exact j14_0
  refine r_zreturn e_X10_isMember_14 rfl ⟨rfl, rfl⟩ z_v0_0 ?_
  (subst e_v0_0; refine ⟨?_, rfl, ?_⟩ <;> ((try unfold V_X10_isMember); (try simp only []); (try rfl)))
def V_X10_start (a : Nat) (x1 : Int32) (x2 : Int32) (x3 : Int32) (x4 : Int32) (q1 : Nat) (q2 : Nat) (q3 : Nat) (q4 : Nat) (q5 : Nat) (M : Mem) : Int32 := (let v0_0 : Int32 := if x3 < 0 then (0 : Int32) else (if (7 : Int32) ≤ x3 then (0 : Int32) else (if x4 < 0 then (0 : Int32) else (if (9 : Int32) ≤ x4 then (0 : Int32) else (1 : Int32)))); if (V_X10_isTeam x1 M) = 0 then (V_X10_finding a (-1001 : Int32) q1 M) else (if (V_X10_isMember x2 M) = 0 then (V_X10_finding a (-1001 : Int32) q1 M) else (if v0_0 = 0 then (V_X10_finding a (-1001 : Int32) q1 M) else (1 : Int32))))
def U_X10_start (a : Nat) (x1 : Int32) (x2 : Int32) (x3 : Int32) (x4 : Int32) (q1 : Nat) (q2 : Nat) (q3 : Nat) (q4 : Nat) (q5 : Nat) (M : Mem) : Mem := (let v0_0 : Int32 := if x3 < 0 then (0 : Int32) else (if (7 : Int32) ≤ x3 then (0 : Int32) else (if x4 < 0 then (0 : Int32) else (if (9 : Int32) ≤ x4 then (0 : Int32) else (1 : Int32)))); if (V_X10_isTeam x1 M) = 0 then (U_X10_finding a (-1001 : Int32) q1 M) else (if (V_X10_isMember x2 M) = 0 then (U_X10_finding a (-1001 : Int32) q1 M) else (if v0_0 = 0 then (U_X10_finding a (-1001 : Int32) q1 M) else (setI (setI M q4 x2.toNatClampNeg x3) q5 x2.toNatClampNeg x4))))
theorem S_X10_start {sh : List SC} {M : Mem} {a : Nat} {x1 : Int32} {x2 : Int32} {x3 : Int32} {x4 : Int32} {q1 : Nat} {q2 : Nat} {q3 : Nat} {q4 : Nat} {q5 : Nat} (g1 : kd sh a = some (9 + 7, 0)) (g2 : rf sh a 0 = some q1) (g3 : kd sh q1 = some (0, 5)) (g4 : rf sh a 3 = some q2) (g5 : kd sh q2 = some (4, 4)) (g6 : vp_in x1 4) (g7 : rf sh q2 x1.toNatClampNeg = some q3) (g8 : kd sh q3 = some (8 + 7, 0)) (g9 : rf sh q3 1 = some q4) (g10 : kd sh q4 = some (0, 5)) (g11 : vp_in x2 5) (g12 : rf sh q3 2 = some q5) (g13 : kd sh q5 = some (0, 5)) : Gv m_X10_start [.ref a, .int x1, .int x2, .int x3, .int x4] sh M (.int (V_X10_start a x1 x2 x3 x4 q1 q2 q3 q4 q5 M)) (U_X10_start a x1 x2 x3 x4 q1 q2 q3 q4 q5 M) := by
  refine Sp.of (ls := [some (.ref a), some (.int x1), some (.int x2), some (.int x3), some (.int x4), none]) (by decide +kernel) (Nat.le_of_ble_eq_true rfl) rfl ?_
  refine r_iload_n e_X10_start_0 rfl ?_
  obtain ⟨v0_0, e_v0_0⟩ : ∃ z : Int32, z = (if x3 < 0 then (0 : Int32) else (if (7 : Int32) ≤ x3 then (0 : Int32) else (if x4 < 0 then (0 : Int32) else (if (9 : Int32) ≤ x4 then (0 : Int32) else (1 : Int32))))) := ⟨_, rfl⟩
  have z_v0_0 : v0_0 = 0 ∨ v0_0 = 1 := by rw [e_v0_0]; exact (zi (Or.inl rfl) (zi (Or.inl rfl) (zi (Or.inl rfl) (zi (Or.inl rfl) (Or.inr rfl)))))
  suffices j27_0 : WP m_X10_start (fun r sh' M'' => r = some (.int (V_X10_start a x1 x2 x3 x4 q1 q2 q3 q4 q5 M)) ∧ sh' = sh ∧ M'' = (U_X10_start a x1 x2 x3 x4 q1 q2 q3 q4 q5 M)) 27 [some (.ref a), some (.int x1), some (.int x2), some (.int x3), some (.int x4), none] [.int v0_0] sh M 0 0 by
    refine r_if_lt e_X10_start_1 (fun h1_0 => ?_) (fun h1_0 => ?_)
    · refine r_iconst e_X10_start_26 ic_0 ?_
      rw [show v0_0 = (0 : Int32) from (e_v0_0.trans (if_pos h1_0))] at j27_0; exact j27_0
    · refine r_iload_n e_X10_start_4 rfl ?_
      refine r_bipush e_X10_start_5 bp_7 ?_
      refine r_icmp_ge e_X10_start_7 (fun h7_1 => ?_) (fun h7_1 => ?_)
      · refine r_iconst e_X10_start_26 ic_0 ?_
        rw [show v0_0 = (0 : Int32) from ((e_v0_0.trans (if_neg h1_0)).trans (if_pos h7_1))] at j27_0; exact j27_0
      · refine r_iload e_X10_start_10 rfl ?_
        refine r_if_lt e_X10_start_12 (fun h12_2 => ?_) (fun h12_2 => ?_)
        · refine r_iconst e_X10_start_26 ic_0 ?_
          rw [show v0_0 = (0 : Int32) from (((e_v0_0.trans (if_neg h1_0)).trans (if_neg h7_1)).trans (if_pos h12_2))] at j27_0; exact j27_0
        · refine r_iload e_X10_start_15 rfl ?_
          refine r_bipush e_X10_start_17 bp_9 ?_
          refine r_icmp_ge e_X10_start_19 (fun h19_3 => ?_) (fun h19_3 => ?_)
          · refine r_iconst e_X10_start_26 ic_0 ?_
            rw [show v0_0 = (0 : Int32) from ((((e_v0_0.trans (if_neg h1_0)).trans (if_neg h7_1)).trans (if_neg h12_2)).trans (if_pos h19_3))] at j27_0; exact j27_0
          · refine r_iconst e_X10_start_22 ic_1 ?_
            refine r_goto e_X10_start_23 ?_
            rw [show v0_0 = (1 : Int32) from ((((e_v0_0.trans (if_neg h1_0)).trans (if_neg h7_1)).trans (if_neg h12_2)).trans (if_neg h19_3))] at j27_0; exact j27_0
  refine p_istore_6_5 e_X10_start_27 rfl rfl ?_
  refine r_iload_n e_X10_start_29 rfl ?_
  refine cS1v e_X10_start_30 cl_X10_89 ⟨Nat.le_of_ble_eq_true rfl, Nat.le_of_ble_eq_true rfl⟩ ⟨rfl, rfl⟩  (Nat.le_of_ble_eq_true rfl) (S_X10_isTeam ) ?_
  refine r_if_eq e_X10_start_33 (fun h33_4 => ?_) (fun h33_4 => ?_)
  · refine r_aload_n e_X10_start_48 rfl ?_
    refine r_sipush e_X10_start_49 sp_m1001 ?_
    refine cV1v e_X10_start_52 cl_X10_70 ⟨Nat.le_of_ble_eq_true rfl, Nat.le_of_ble_eq_true rfl⟩ ⟨rfl, rfl⟩ (by with_reducible assumption) (Nat.le_of_ble_eq_true rfl) (S_X10_finding (by with_reducible assumption) (by with_reducible assumption) (by with_reducible assumption)) ?_
    refine r_ireturn e_X10_start_55 rfl ⟨rfl, rfl⟩ ?_
    (subst e_v0_0; refine ⟨?_, rfl, ?_⟩ <;> ((try unfold V_X10_start); (try unfold U_X10_start); (try simp only [if_pos h33_4]); (try rfl)))
  · refine r_iload_n e_X10_start_36 rfl ?_
    refine cS1v e_X10_start_37 cl_X10_93 ⟨Nat.le_of_ble_eq_true rfl, Nat.le_of_ble_eq_true rfl⟩ ⟨rfl, rfl⟩  (Nat.le_of_ble_eq_true rfl) (S_X10_isMember ) ?_
    refine r_if_eq e_X10_start_40 (fun h40_5 => ?_) (fun h40_5 => ?_)
    · refine r_aload_n e_X10_start_48 rfl ?_
      refine r_sipush e_X10_start_49 sp_m1001 ?_
      refine cV1v e_X10_start_52 cl_X10_70 ⟨Nat.le_of_ble_eq_true rfl, Nat.le_of_ble_eq_true rfl⟩ ⟨rfl, rfl⟩ (by with_reducible assumption) (Nat.le_of_ble_eq_true rfl) (S_X10_finding (by with_reducible assumption) (by with_reducible assumption) (by with_reducible assumption)) ?_
      refine r_ireturn e_X10_start_55 rfl ⟨rfl, rfl⟩ ?_
      (subst e_v0_0; refine ⟨?_, rfl, ?_⟩ <;> ((try unfold V_X10_start); (try unfold U_X10_start); (try simp only [if_neg h33_4, if_pos h40_5]); (try rfl)))
    · refine r_iload e_X10_start_43 rfl ?_
      refine r_if_ne e_X10_start_45 (fun h45_6 => ?_) (fun h45_6 => ?_)
      · refine r_aload_n e_X10_start_56 rfl ?_
        refine r_getR e_X10_start_57 fl_X10_28 (by with_reducible assumption) (by with_reducible assumption) ?_
        refine r_iload_n e_X10_start_60 rfl ?_
        refine r_aaload e_X10_start_61 (by with_reducible assumption) ⟨by decide, by decide⟩ (by with_reducible assumption) (by with_reducible assumption) ?_
        refine r_getR e_X10_start_62 fl_X10_99 (by with_reducible assumption) (by with_reducible assumption) ?_
        refine r_iload_n e_X10_start_65 rfl ?_
        refine r_iload_n e_X10_start_66 rfl ?_
        refine r_iastore e_X10_start_67 (by with_reducible assumption) (by with_reducible assumption) ?_
        refine r_aload_n e_X10_start_68 rfl ?_
        refine r_getR e_X10_start_69 fl_X10_28 (by with_reducible assumption) (by with_reducible assumption) ?_
        refine r_iload_n e_X10_start_72 rfl ?_
        refine r_aaload e_X10_start_73 (by with_reducible assumption) ⟨by decide, by decide⟩ (by with_reducible assumption) (by with_reducible assumption) ?_
        refine r_getR e_X10_start_74 fl_X10_102 (by with_reducible assumption) (by with_reducible assumption) ?_
        refine r_iload_n e_X10_start_77 rfl ?_
        refine r_iload e_X10_start_78 rfl ?_
        refine r_iastore e_X10_start_80 (by with_reducible assumption) (by with_reducible assumption) ?_
        refine r_iconst e_X10_start_81 ic_1 ?_
        refine r_ireturn e_X10_start_82 rfl ⟨rfl, rfl⟩ ?_
        (subst e_v0_0; refine ⟨?_, rfl, ?_⟩ <;> ((try unfold V_X10_start); (try unfold U_X10_start); (try simp only [if_neg h33_4, if_neg h40_5, if_neg h45_6]); (try rfl)))
      · refine r_aload_n e_X10_start_48 rfl ?_
        refine r_sipush e_X10_start_49 sp_m1001 ?_
        refine cV1v e_X10_start_52 cl_X10_70 ⟨Nat.le_of_ble_eq_true rfl, Nat.le_of_ble_eq_true rfl⟩ ⟨rfl, rfl⟩ (by with_reducible assumption) (Nat.le_of_ble_eq_true rfl) (S_X10_finding (by with_reducible assumption) (by with_reducible assumption) (by with_reducible assumption)) ?_
        refine r_ireturn e_X10_start_55 rfl ⟨rfl, rfl⟩ ?_
        (subst e_v0_0; refine ⟨?_, rfl, ?_⟩ <;> ((try unfold V_X10_start); (try unfold U_X10_start); (try simp only [if_neg h33_4, if_neg h40_5, if_pos h45_6]); (try rfl)))
def V_X10_views (a : Nat) (x1 : Int32) (x2 : Int32) (x3 : Int32) (q1 : Nat) (q2 : Nat) (q3 : Nat) (M : Mem) : Int32 := (let v0_0 : Int32 := if x2 < 0 then (0 : Int32) else (if (3 : Int32) < x2 then (0 : Int32) else (1 : Int32)); let v2_0 : Int32 := if x3 = 0 then (1 : Int32) else (if x3 < (2 : Int32) then (0 : Int32) else (if (9 : Int32) < x3 then (0 : Int32) else (1 : Int32))); if (V_X10_isTeam x1 M) = 0 then (V_X10_finding a (-1001 : Int32) q1 M) else (if v0_0 = 0 then (V_X10_finding a (-1001 : Int32) q1 M) else (if v2_0 = 0 then (V_X10_finding a (-1001 : Int32) q1 M) else (1 : Int32))))
def U_X10_views (a : Nat) (x1 : Int32) (x2 : Int32) (x3 : Int32) (q1 : Nat) (q2 : Nat) (q3 : Nat) (M : Mem) : Mem := (let v0_0 : Int32 := if x2 < 0 then (0 : Int32) else (if (3 : Int32) < x2 then (0 : Int32) else (1 : Int32)); let v2_0 : Int32 := if x3 = 0 then (1 : Int32) else (if x3 < (2 : Int32) then (0 : Int32) else (if (9 : Int32) < x3 then (0 : Int32) else (1 : Int32))); if (V_X10_isTeam x1 M) = 0 then (U_X10_finding a (-1001 : Int32) q1 M) else (if v0_0 = 0 then (U_X10_finding a (-1001 : Int32) q1 M) else (if v2_0 = 0 then (U_X10_finding a (-1001 : Int32) q1 M) else (setI (setI M q3 3 x2) q3 4 x3))))
theorem S_X10_views {sh : List SC} {M : Mem} {a : Nat} {x1 : Int32} {x2 : Int32} {x3 : Int32} {q1 : Nat} {q2 : Nat} {q3 : Nat} (g1 : kd sh a = some (9 + 7, 0)) (g2 : rf sh a 0 = some q1) (g3 : kd sh q1 = some (0, 5)) (g4 : rf sh a 3 = some q2) (g5 : kd sh q2 = some (4, 4)) (g6 : vp_in x1 4) (g7 : rf sh q2 x1.toNatClampNeg = some q3) (g8 : kd sh q3 = some (8 + 7, 0)) : Gv m_X10_views [.ref a, .int x1, .int x2, .int x3] sh M (.int (V_X10_views a x1 x2 x3 q1 q2 q3 M)) (U_X10_views a x1 x2 x3 q1 q2 q3 M) := by
  refine Sp.of (ls := [some (.ref a), some (.int x1), some (.int x2), some (.int x3), none, none]) (by decide +kernel) (Nat.le_of_ble_eq_true rfl) rfl ?_
  refine r_iload_n e_X10_views_0 rfl ?_
  obtain ⟨v0_0, e_v0_0⟩ : ∃ z : Int32, z = (if x2 < 0 then (0 : Int32) else (if (3 : Int32) < x2 then (0 : Int32) else (1 : Int32))) := ⟨_, rfl⟩
  have z_v0_0 : v0_0 = 0 ∨ v0_0 = 1 := by rw [e_v0_0]; exact (zi (Or.inl rfl) (zi (Or.inl rfl) (Or.inr rfl)))
  suffices j14_0 : WP m_X10_views (fun r sh' M'' => r = some (.int (V_X10_views a x1 x2 x3 q1 q2 q3 M)) ∧ sh' = sh ∧ M'' = (U_X10_views a x1 x2 x3 q1 q2 q3 M)) 14 [some (.ref a), some (.int x1), some (.int x2), some (.int x3), none, none] [.int v0_0] sh M 0 0 by
    refine r_if_lt e_X10_views_1 (fun h1_0 => ?_) (fun h1_0 => ?_)
    · refine r_iconst e_X10_views_13 ic_0 ?_
      rw [show v0_0 = (0 : Int32) from (e_v0_0.trans (if_pos h1_0))] at j14_0; exact j14_0
    · refine r_iload_n e_X10_views_4 rfl ?_
      refine r_iconst e_X10_views_5 ic_3 ?_
      refine r_icmp_gt e_X10_views_6 (fun h6_1 => ?_) (fun h6_1 => ?_)
      · refine r_iconst e_X10_views_13 ic_0 ?_
        rw [show v0_0 = (0 : Int32) from ((e_v0_0.trans (if_neg h1_0)).trans (if_pos h6_1))] at j14_0; exact j14_0
      · refine r_iconst e_X10_views_9 ic_1 ?_
        refine r_goto e_X10_views_10 ?_
        rw [show v0_0 = (1 : Int32) from ((e_v0_0.trans (if_neg h1_0)).trans (if_neg h6_1))] at j14_0; exact j14_0
  refine p_istore_6_4 e_X10_views_14 rfl rfl ?_
  refine r_iload_n e_X10_views_16 rfl ?_
  obtain ⟨v2_0, e_v2_0⟩ : ∃ z : Int32, z = (if x3 = 0 then (1 : Int32) else (if x3 < (2 : Int32) then (0 : Int32) else (if (9 : Int32) < x3 then (0 : Int32) else (1 : Int32)))) := ⟨_, rfl⟩
  have z_v2_0 : v2_0 = 0 ∨ v2_0 = 1 := by rw [e_v2_0]; exact (zi (Or.inr rfl) (zi (Or.inl rfl) (zi (Or.inl rfl) (Or.inr rfl))))
  suffices j36_2 : WP m_X10_views (fun r sh' M'' => r = some (.int (V_X10_views a x1 x2 x3 q1 q2 q3 M)) ∧ sh' = sh ∧ M'' = (U_X10_views a x1 x2 x3 q1 q2 q3 M)) 36 [some (.ref a), some (.int x1), some (.int x2), some (.int x3), some (.int v0_0), none] [.int v2_0] sh M 0 0 by
    refine r_if_eq e_X10_views_17 (fun h17_2 => ?_) (fun h17_2 => ?_)
    · refine r_iconst e_X10_views_31 ic_1 ?_
      refine r_goto e_X10_views_32 ?_
      rw [show v2_0 = (1 : Int32) from (e_v2_0.trans (if_pos h17_2))] at j36_2; exact j36_2
    · refine r_iload_n e_X10_views_20 rfl ?_
      refine r_iconst e_X10_views_21 ic_2 ?_
      refine r_icmp_lt e_X10_views_22 (fun h22_3 => ?_) (fun h22_3 => ?_)
      · refine r_iconst e_X10_views_35 ic_0 ?_
        rw [show v2_0 = (0 : Int32) from ((e_v2_0.trans (if_neg h17_2)).trans (if_pos h22_3))] at j36_2; exact j36_2
      · refine r_iload_n e_X10_views_25 rfl ?_
        refine r_bipush e_X10_views_26 bp_9 ?_
        refine r_icmp_gt e_X10_views_28 (fun h28_4 => ?_) (fun h28_4 => ?_)
        · refine r_iconst e_X10_views_35 ic_0 ?_
          rw [show v2_0 = (0 : Int32) from (((e_v2_0.trans (if_neg h17_2)).trans (if_neg h22_3)).trans (if_pos h28_4))] at j36_2; exact j36_2
        · refine r_iconst e_X10_views_31 ic_1 ?_
          refine r_goto e_X10_views_32 ?_
          rw [show v2_0 = (1 : Int32) from (((e_v2_0.trans (if_neg h17_2)).trans (if_neg h22_3)).trans (if_neg h28_4))] at j36_2; exact j36_2
  refine p_istore_6_5 e_X10_views_36 rfl rfl ?_
  refine r_iload_n e_X10_views_38 rfl ?_
  refine cS1v e_X10_views_39 cl_X10_89 ⟨Nat.le_of_ble_eq_true rfl, Nat.le_of_ble_eq_true rfl⟩ ⟨rfl, rfl⟩  (Nat.le_of_ble_eq_true rfl) (S_X10_isTeam ) ?_
  refine r_if_eq e_X10_views_42 (fun h42_5 => ?_) (fun h42_5 => ?_)
  · refine r_aload_n e_X10_views_55 rfl ?_
    refine r_sipush e_X10_views_56 sp_m1001 ?_
    refine cV1v e_X10_views_59 cl_X10_70 ⟨Nat.le_of_ble_eq_true rfl, Nat.le_of_ble_eq_true rfl⟩ ⟨rfl, rfl⟩ (by with_reducible assumption) (Nat.le_of_ble_eq_true rfl) (S_X10_finding (by with_reducible assumption) (by with_reducible assumption) (by with_reducible assumption)) ?_
    refine r_ireturn e_X10_views_62 rfl ⟨rfl, rfl⟩ ?_
    (subst e_v2_0 e_v0_0; refine ⟨?_, rfl, ?_⟩ <;> ((try unfold V_X10_views); (try unfold U_X10_views); (try simp only [if_pos h42_5]); (try rfl)))
  · refine r_iload e_X10_views_45 rfl ?_
    refine r_if_eq e_X10_views_47 (fun h47_6 => ?_) (fun h47_6 => ?_)
    · refine r_aload_n e_X10_views_55 rfl ?_
      refine r_sipush e_X10_views_56 sp_m1001 ?_
      refine cV1v e_X10_views_59 cl_X10_70 ⟨Nat.le_of_ble_eq_true rfl, Nat.le_of_ble_eq_true rfl⟩ ⟨rfl, rfl⟩ (by with_reducible assumption) (Nat.le_of_ble_eq_true rfl) (S_X10_finding (by with_reducible assumption) (by with_reducible assumption) (by with_reducible assumption)) ?_
      refine r_ireturn e_X10_views_62 rfl ⟨rfl, rfl⟩ ?_
      (subst e_v2_0 e_v0_0; refine ⟨?_, rfl, ?_⟩ <;> ((try unfold V_X10_views); (try unfold U_X10_views); (try simp only [if_neg h42_5, if_pos h47_6]); (try rfl)))
    · refine r_iload e_X10_views_50 rfl ?_
      refine r_if_ne e_X10_views_52 (fun h52_7 => ?_) (fun h52_7 => ?_)
      · refine r_aload_n e_X10_views_63 rfl ?_
        refine r_getR e_X10_views_64 fl_X10_28 (by with_reducible assumption) (by with_reducible assumption) ?_
        refine r_iload_n e_X10_views_67 rfl ?_
        refine r_aaload e_X10_views_68 (by with_reducible assumption) ⟨by decide, by decide⟩ (by with_reducible assumption) (by with_reducible assumption) ?_
        refine r_iload_n e_X10_views_69 rfl ?_
        refine r_putI e_X10_views_70 fl_X10_105 (by with_reducible assumption) ?_
        refine r_aload_n e_X10_views_73 rfl ?_
        refine r_getR e_X10_views_74 fl_X10_28 (by with_reducible assumption) (by with_reducible assumption) ?_
        refine r_iload_n e_X10_views_77 rfl ?_
        refine r_aaload e_X10_views_78 (by with_reducible assumption) ⟨by decide, by decide⟩ (by with_reducible assumption) (by with_reducible assumption) ?_
        refine r_iload_n e_X10_views_79 rfl ?_
        refine r_putI e_X10_views_80 fl_X10_108 (by with_reducible assumption) ?_
        refine r_iconst e_X10_views_83 ic_1 ?_
        refine r_ireturn e_X10_views_84 rfl ⟨rfl, rfl⟩ ?_
        (subst e_v2_0 e_v0_0; refine ⟨?_, rfl, ?_⟩ <;> ((try unfold V_X10_views); (try unfold U_X10_views); (try simp only [if_neg h42_5, if_neg h47_6, if_neg h52_7]); (try rfl)))
      · refine r_aload_n e_X10_views_55 rfl ?_
        refine r_sipush e_X10_views_56 sp_m1001 ?_
        refine cV1v e_X10_views_59 cl_X10_70 ⟨Nat.le_of_ble_eq_true rfl, Nat.le_of_ble_eq_true rfl⟩ ⟨rfl, rfl⟩ (by with_reducible assumption) (Nat.le_of_ble_eq_true rfl) (S_X10_finding (by with_reducible assumption) (by with_reducible assumption) (by with_reducible assumption)) ?_
        refine r_ireturn e_X10_views_62 rfl ⟨rfl, rfl⟩ ?_
        (subst e_v2_0 e_v0_0; refine ⟨?_, rfl, ?_⟩ <;> ((try unfold V_X10_views); (try unfold U_X10_views); (try simp only [if_neg h42_5, if_neg h47_6, if_pos h52_7]); (try rfl)))
def U_X5_decide (a : Nat) (x1 : Int32) (x2 : Int32) (x3 : Int32) (x4 : Int32) (M : Mem) : Mem := (let v0_0 : Int32 := if (M.1 a 1) = 0 then x2 else (-x2); let v1_0 : Int32 := if (M.1 a 1) = 0 then x3 else (-x3); setI (setI (setI (setI M a 14 x1) a 15 v0_0) a 16 v1_0) a 17 x4)
theorem S_X5_decide {sh : List SC} {M : Mem} {a : Nat} {x1 : Int32} {x2 : Int32} {x3 : Int32} {x4 : Int32}  (g1 : kd sh a = some (5 + 7, 0)) : Gu m_X5_decide [.ref a, .int x1, .int x2, .int x3, .int x4] sh M (U_X5_decide a x1 x2 x3 x4 M) := by
  refine Sp.of (ls := [some (.ref a), some (.int x1), some (.int x2), some (.int x3), some (.int x4)]) (by decide +kernel) (Nat.le_of_ble_eq_true rfl) rfl ?_
  refine r_aload_n e_X5_decide_0 rfl ?_
  refine r_iload_n e_X5_decide_1 rfl ?_
  refine r_putI e_X5_decide_2 fl_X5_50 (by with_reducible assumption) ?_
  refine r_aload_n e_X5_decide_5 rfl ?_
  refine r_aload_n e_X5_decide_6 rfl ?_
  refine r_getIe e_X5_decide_7 fl_X5_65 i3 (by with_reducible assumption) (gs_nI (by decide)) ?_
  obtain ⟨v0_0, e_v0_0⟩ : ∃ z : Int32, z = (if (M.1 a 1) = 0 then x2 else (-x2)) := ⟨_, rfl⟩
  suffices j19_0 : WP m_X5_decide (fun r sh' M'' => r = none ∧ sh' = sh ∧ M'' = (U_X5_decide a x1 x2 x3 x4 M)) 19 [some (.ref a), some (.int x1), some (.int x2), some (.int x3), some (.int x4)] [.int v0_0, .ref a] sh (setI M a 14 x1) 0 0 by
    refine r_if_eq e_X5_decide_10 (fun h10_0 => ?_) (fun h10_0 => ?_)
    · refine r_iload_n e_X5_decide_18 rfl ?_
      rw [show v0_0 = x2 from (e_v0_0.trans (if_pos h10_0))] at j19_0; exact j19_0
    · refine r_iload_n e_X5_decide_13 rfl ?_
      refine r_ineg e_X5_decide_14 ?_
      refine r_goto e_X5_decide_15 ?_
      rw [show v0_0 = (-x2) from (e_v0_0.trans (if_neg h10_0))] at j19_0; exact j19_0
  refine r_putI e_X5_decide_19 fl_X5_53 (by with_reducible assumption) ?_
  refine r_aload_n e_X5_decide_22 rfl ?_
  refine r_aload_n e_X5_decide_23 rfl ?_
  refine r_getIe e_X5_decide_24 fl_X5_65 i3 (by with_reducible assumption) ((gs_nI (by decide)).trans (gs_nI (by decide))) ?_
  obtain ⟨v1_0, e_v1_0⟩ : ∃ z : Int32, z = (if (M.1 a 1) = 0 then x3 else (-x3)) := ⟨_, rfl⟩
  suffices j36_1 : WP m_X5_decide (fun r sh' M'' => r = none ∧ sh' = sh ∧ M'' = (U_X5_decide a x1 x2 x3 x4 M)) 36 [some (.ref a), some (.int x1), some (.int x2), some (.int x3), some (.int x4)] [.int v1_0, .ref a] sh (setI (setI M a 14 x1) a 15 v0_0) 0 0 by
    refine r_if_eq e_X5_decide_27 (fun h27_1 => ?_) (fun h27_1 => ?_)
    · refine r_iload_n e_X5_decide_35 rfl ?_
      rw [show v1_0 = x3 from (e_v1_0.trans (if_pos h27_1))] at j36_1; exact j36_1
    · refine r_iload_n e_X5_decide_30 rfl ?_
      refine r_ineg e_X5_decide_31 ?_
      refine r_goto e_X5_decide_32 ?_
      rw [show v1_0 = (-x3) from (e_v1_0.trans (if_neg h27_1))] at j36_1; exact j36_1
  refine r_putI e_X5_decide_36 fl_X5_56 (by with_reducible assumption) ?_
  refine r_aload_n e_X5_decide_39 rfl ?_
  refine r_iload e_X5_decide_40 rfl ?_
  refine r_putI e_X5_decide_42 fl_X5_59 (by with_reducible assumption) ?_
  refine r_return e_X5_decide_45 rfl ⟨rfl, rfl⟩ ?_
  (subst e_v1_0 e_v0_0; refine ⟨?_, rfl, ?_⟩ <;> ((try unfold U_X5_decide); (try simp only []); (try rfl)))
def U_X5_leave (a : Nat) (M : Mem) : Mem := setI (setI M a 2 (-1 : Int32)) a 3 (-1 : Int32)
theorem S_X5_leave {sh : List SC} {M : Mem} {a : Nat}  (g1 : kd sh a = some (5 + 7, 0)) : Gu m_X5_leave [.ref a] sh M (U_X5_leave a M) := by
  refine Sp.of (ls := [some (.ref a)]) (by decide +kernel) (Nat.le_of_ble_eq_true rfl) rfl ?_
  refine r_aload_n e_X5_leave_0 rfl ?_
  refine r_iconst e_X5_leave_1 ic_m1 ?_
  refine r_putI e_X5_leave_2 fl_X5_11 (by with_reducible assumption) ?_
  refine r_aload_n e_X5_leave_5 rfl ?_
  refine r_iconst e_X5_leave_6 ic_m1 ?_
  refine r_putI e_X5_leave_7 fl_X5_15 (by with_reducible assumption) ?_
  refine r_return e_X5_leave_10 rfl ⟨rfl, rfl⟩ ?_
  (refine ⟨?_, rfl, ?_⟩ <;> ((try unfold U_X5_leave); (try simp only []); (try rfl)))
def V_X5_seenX (a : Nat) (x1 : Int32) (M : Mem) : Int32 := (let v0_0 : Int32 := if (M.1 a 1) = 0 then x1 else ((14 : Int32) - x1); v0_0)
theorem S_X5_seenX {sh : List SC} {M : Mem} {a : Nat} {x1 : Int32}  (g1 : kd sh a = some (5 + 7, 0)) : Gv m_X5_seenX [.ref a, .int x1] sh M (.int (V_X5_seenX a x1 M)) M := by
  refine Sp.of (ls := [some (.ref a), some (.int x1)]) (by decide +kernel) (Nat.le_of_ble_eq_true rfl) rfl ?_
  refine r_aload_n e_X5_seenX_0 rfl ?_
  refine r_getI e_X5_seenX_1 fl_X5_65 i3 (by with_reducible assumption) ?_
  obtain ⟨v0_0, e_v0_0⟩ : ∃ z : Int32, z = (if (M.1 a 1) = 0 then x1 else ((14 : Int32) - x1)) := ⟨_, rfl⟩
  suffices j15_0 : WP m_X5_seenX (fun r sh' M'' => r = some (.int (V_X5_seenX a x1 M)) ∧ sh' = sh ∧ M'' = M) 15 [some (.ref a), some (.int x1)] [.int v0_0] sh M 0 0 by
    refine r_if_eq e_X5_seenX_4 (fun h4_0 => ?_) (fun h4_0 => ?_)
    · refine r_iload_n e_X5_seenX_14 rfl ?_
      rw [show v0_0 = x1 from (e_v0_0.trans (if_pos h4_0))] at j15_0; exact j15_0
    · refine r_bipush e_X5_seenX_7 bp_14 ?_
      refine r_iload_n e_X5_seenX_9 rfl ?_
      refine r_isub e_X5_seenX_10 ?_
      refine r_goto e_X5_seenX_11 ?_
      rw [show v0_0 = ((14 : Int32) - x1) from (e_v0_0.trans (if_neg h4_0))] at j15_0; exact j15_0
  refine r_ireturn e_X5_seenX_15 rfl ⟨rfl, rfl⟩ ?_
  (subst e_v0_0; refine ⟨?_, rfl, ?_⟩ <;> ((try unfold V_X5_seenX); (try simp only []); (try rfl)))
def V_X5_seenY (a : Nat) (x1 : Int32) (M : Mem) : Int32 := (let v0_0 : Int32 := if (M.1 a 1) = 0 then x1 else ((8 : Int32) - x1); v0_0)
theorem S_X5_seenY {sh : List SC} {M : Mem} {a : Nat} {x1 : Int32}  (g1 : kd sh a = some (5 + 7, 0)) : Gv m_X5_seenY [.ref a, .int x1] sh M (.int (V_X5_seenY a x1 M)) M := by
  refine Sp.of (ls := [some (.ref a), some (.int x1)]) (by decide +kernel) (Nat.le_of_ble_eq_true rfl) rfl ?_
  refine r_aload_n e_X5_seenY_0 rfl ?_
  refine r_getI e_X5_seenY_1 fl_X5_65 i3 (by with_reducible assumption) ?_
  obtain ⟨v0_0, e_v0_0⟩ : ∃ z : Int32, z = (if (M.1 a 1) = 0 then x1 else ((8 : Int32) - x1)) := ⟨_, rfl⟩
  suffices j15_0 : WP m_X5_seenY (fun r sh' M'' => r = some (.int (V_X5_seenY a x1 M)) ∧ sh' = sh ∧ M'' = M) 15 [some (.ref a), some (.int x1)] [.int v0_0] sh M 0 0 by
    refine r_if_eq e_X5_seenY_4 (fun h4_0 => ?_) (fun h4_0 => ?_)
    · refine r_iload_n e_X5_seenY_14 rfl ?_
      rw [show v0_0 = x1 from (e_v0_0.trans (if_pos h4_0))] at j15_0; exact j15_0
    · refine r_bipush e_X5_seenY_7 bp_8 ?_
      refine r_iload_n e_X5_seenY_9 rfl ?_
      refine r_isub e_X5_seenY_10 ?_
      refine r_goto e_X5_seenY_11 ?_
      rw [show v0_0 = ((8 : Int32) - x1) from (e_v0_0.trans (if_neg h4_0))] at j15_0; exact j15_0
  refine r_ireturn e_X5_seenY_15 rfl ⟨rfl, rfl⟩ ?_
  (subst e_v0_0; refine ⟨?_, rfl, ?_⟩ <;> ((try unfold V_X5_seenY); (try simp only []); (try rfl)))
def V_X10_distance (x1 : Int32) (x2 : Int32) (x3 : Int32) (x4 : Int32) (M : Mem) : Int32 := (if (if 0 ≤ (x1 - x3) then (x1 - x3) else 0 - (x1 - x3)) < (if 0 ≤ (x2 - x4) then (x2 - x4) else 0 - (x2 - x4)) then (if 0 ≤ (x2 - x4) then (x2 - x4) else 0 - (x2 - x4)) else (if 0 ≤ (x1 - x3) then (x1 - x3) else 0 - (x1 - x3)))
theorem S_X10_distance {sh : List SC} {M : Mem} {x1 : Int32} {x2 : Int32} {x3 : Int32} {x4 : Int32}   : Gv m_X10_distance [.int x1, .int x2, .int x3, .int x4] sh M (.int (V_X10_distance x1 x2 x3 x4 M)) M := by
  refine Sp.of (ls := [some (.int x1), some (.int x2), some (.int x3), some (.int x4)]) (by decide +kernel) (Nat.le_of_ble_eq_true rfl) rfl ?_
  refine r_iload_n e_X10_distance_0 rfl ?_
  refine r_iload_n e_X10_distance_1 rfl ?_
  refine r_isub e_X10_distance_2 ?_
  refine r_mabs e_X10_distance_3 cl_X10_207 ⟨Nat.le_of_ble_eq_true rfl, Nat.le_of_ble_eq_true rfl, Nat.zero_le _, Nat.zero_le _⟩ (Nat.le_of_ble_eq_true rfl) ?_
  refine r_iload_n e_X10_distance_6 rfl ?_
  refine r_iload_n e_X10_distance_7 rfl ?_
  refine r_isub e_X10_distance_8 ?_
  refine r_mabs e_X10_distance_9 cl_X10_207 ⟨Nat.le_of_ble_eq_true rfl, Nat.le_of_ble_eq_true rfl, Nat.zero_le _, Nat.zero_le _⟩ (Nat.le_of_ble_eq_true rfl) ?_
  refine r_mmax e_X10_distance_12 cl_X10_204 ⟨Nat.le_of_ble_eq_true rfl, Nat.le_of_ble_eq_true rfl, Nat.zero_le _, Nat.zero_le _⟩ (Nat.le_of_ble_eq_true rfl) ?_
  refine r_ireturn e_X10_distance_15 rfl ⟨rfl, rfl⟩ ?_
  (refine ⟨?_, rfl, ?_⟩ <;> ((try unfold V_X10_distance); (try simp only []); (try rfl)))
def U_X0_go (a : Nat) (x1 : Int32) (x2 : Int32) (M : Mem) : Mem := setI (setI M a 0 x1) a 1 x2
theorem S_X0_go {sh : List SC} {M : Mem} {a : Nat} {x1 : Int32} {x2 : Int32}  (g1 : kd sh a = some (0 + 7, 0)) : Gu m_X0_go [.ref a, .int x1, .int x2] sh M (U_X0_go a x1 x2 M) := by
  refine Sp.of (ls := [some (.ref a), some (.int x1), some (.int x2)]) (by decide +kernel) (Nat.le_of_ble_eq_true rfl) rfl ?_
  refine r_aload_n e_X0_go_0 rfl ?_
  refine r_iload_n e_X0_go_1 rfl ?_
  refine r_putI e_X0_go_2 fl_X0_7 (by with_reducible assumption) ?_
  refine r_aload_n e_X0_go_5 rfl ?_
  refine r_iload_n e_X0_go_6 rfl ?_
  refine r_putI e_X0_go_7 fl_X0_13 (by with_reducible assumption) ?_
  refine r_return e_X0_go_10 rfl ⟨rfl, rfl⟩ ?_
  (refine ⟨?_, rfl, ?_⟩ <;> ((try unfold U_X0_go); (try simp only []); (try rfl)))
def U_X0_free (a : Nat) (x1 : Int32) (x2 : Int32) (x3 : Int32) (M : Mem) : Mem := setI (setI (setI (setI M a 2 (-1 : Int32)) a 5 x1) a 6 x2) a 4 x3
theorem S_X0_free {sh : List SC} {M : Mem} {a : Nat} {x1 : Int32} {x2 : Int32} {x3 : Int32}  (g1 : kd sh a = some (0 + 7, 0)) : Gu m_X0_free [.ref a, .int x1, .int x2, .int x3] sh M (U_X0_free a x1 x2 x3 M) := by
  refine Sp.of (ls := [some (.ref a), some (.int x1), some (.int x2), some (.int x3)]) (by decide +kernel) (Nat.le_of_ble_eq_true rfl) rfl ?_
  refine r_aload_n e_X0_free_0 rfl ?_
  refine r_iconst e_X0_free_1 ic_m1 ?_
  refine r_putI e_X0_free_2 fl_X0_16 (by with_reducible assumption) ?_
  refine r_aload_n e_X0_free_5 rfl ?_
  refine r_iload_n e_X0_free_6 rfl ?_
  refine r_putI e_X0_free_7 fl_X0_25 (by with_reducible assumption) ?_
  refine r_aload_n e_X0_free_10 rfl ?_
  refine r_iload_n e_X0_free_11 rfl ?_
  refine r_putI e_X0_free_12 fl_X0_28 (by with_reducible assumption) ?_
  refine r_aload_n e_X0_free_15 rfl ?_
  refine r_iload_n e_X0_free_16 rfl ?_
  refine r_putI e_X0_free_17 fl_X0_22 (by with_reducible assumption) ?_
  refine r_return e_X0_free_20 rfl ⟨rfl, rfl⟩ ?_
  (refine ⟨?_, rfl, ?_⟩ <;> ((try unfold U_X0_free); (try simp only []); (try rfl)))
def U_X0_remember (a : Nat) (x1 : Int32) (q1 : Nat) (q2 : Nat) (M : Mem) : Mem := U_X10_put q2 (x1 &&& (3 : Int32)) ((U_X10_put q1 (x1 &&& (3 : Int32)) (M.1 a 0) 4 M).1 a 1) 4 (U_X10_put q1 (x1 &&& (3 : Int32)) (M.1 a 0) 4 M)
theorem S_X0_remember {sh : List SC} {M : Mem} {a : Nat} {x1 : Int32} {q1 : Nat} {q2 : Nat} (g1 : kd sh a = some (0 + 7, 0)) (g2 : rf sh a 10 = some q1) (g3 : kd sh q1 = some (0, 4)) (g4 : rf sh a 11 = some q2) (g5 : kd sh q2 = some (0, 4)) : Gu m_X0_remember [.ref a, .int x1] sh M (U_X0_remember a x1 q1 q2 M) := by
  refine Sp.of (ls := [some (.ref a), some (.int x1)]) (by decide +kernel) (Nat.le_of_ble_eq_true rfl) rfl ?_
  refine r_aload_n e_X0_remember_0 rfl ?_
  refine r_getR e_X0_remember_1 fl_X0_40 (by with_reducible assumption) (by with_reducible assumption) ?_
  refine r_iload_n e_X0_remember_4 rfl ?_
  refine r_iconst e_X0_remember_5 ic_3 ?_
  refine r_iand e_X0_remember_6 ?_
  refine r_aload_n e_X0_remember_7 rfl ?_
  refine r_getI e_X0_remember_8 fl_X0_7 i0 (by with_reducible assumption) ?_
  refine cSN3u e_X0_remember_11 cl_X0_55 ⟨Nat.le_of_ble_eq_true rfl, Nat.le_of_ble_eq_true rfl⟩ ⟨rfl, rfl⟩  (Nat.le_of_ble_eq_true rfl) (S_X10_put (by with_reducible assumption) (by first | decide | (unfold vp_in; decide) | exact Or.inl rfl | exact Or.inr rfl)) ?_
  refine r_aload_n e_X0_remember_14 rfl ?_
  refine r_getR e_X0_remember_15 fl_X0_44 (by with_reducible assumption) (by with_reducible assumption) ?_
  refine r_iload_n e_X0_remember_18 rfl ?_
  refine r_iconst e_X0_remember_19 ic_3 ?_
  refine r_iand e_X0_remember_20 ?_
  refine r_aload_n e_X0_remember_21 rfl ?_
  refine r_getI e_X0_remember_22 fl_X0_13 i0 (by with_reducible assumption) ?_
  refine cSN3u e_X0_remember_25 cl_X0_55 ⟨Nat.le_of_ble_eq_true rfl, Nat.le_of_ble_eq_true rfl⟩ ⟨rfl, rfl⟩  (Nat.le_of_ble_eq_true rfl) (S_X10_put (by with_reducible assumption) (by first | decide | (unfold vp_in; decide) | exact Or.inl rfl | exact Or.inr rfl)) ?_
  refine r_return e_X0_remember_28 rfl ⟨rfl, rfl⟩ ?_
  (refine ⟨?_, rfl, ?_⟩ <;> ((try unfold U_X0_remember); (try simp only []); (try rfl)))
def U_X5_see (a : Nat) (x1 : Int32) (x2 : Int32) (M : Mem) : Mem := setI (setI M a 10 x1) a 11 x2
theorem S_X5_see {sh : List SC} {M : Mem} {a : Nat} {x1 : Int32} {x2 : Int32}  (g1 : kd sh a = some (5 + 7, 0)) : Gu m_X5_see [.ref a, .int x1, .int x2] sh M (U_X5_see a x1 x2 M) := by
  refine Sp.of (ls := [some (.ref a), some (.int x1), some (.int x2)]) (by decide +kernel) (Nat.le_of_ble_eq_true rfl) rfl ?_
  refine r_aload_n e_X5_see_0 rfl ?_
  refine r_iload_n e_X5_see_1 rfl ?_
  refine r_putI e_X5_see_2 fl_X5_38 (by with_reducible assumption) ?_
  refine r_aload_n e_X5_see_5 rfl ?_
  refine r_iload_n e_X5_see_6 rfl ?_
  refine r_putI e_X5_see_7 fl_X5_41 (by with_reducible assumption) ?_
  refine r_return e_X5_see_10 rfl ⟨rfl, rfl⟩ ?_
  (refine ⟨?_, rfl, ?_⟩ <;> ((try unfold U_X5_see); (try simp only []); (try rfl)))
def V_X5_isLost (a : Nat) (x1 : Int32) (M : Mem) : Int32 := (let v0_0 : Int32 := if (M.1 a 13) ≤ 0 then (0 : Int32) else (if ((x1 + (M.1 a 0)) - (x1 + (M.1 a 0)) / (M.1 a 13) * (M.1 a 13)) = 0 then (1 : Int32) else (0 : Int32)); v0_0)
theorem Z_X5_isLost {M : Mem} {a : Nat} {x1 : Int32}   : V_X5_isLost a x1 M = 0 ∨ V_X5_isLost a x1 M = 1 := (zi (Or.inl rfl) (zi (Or.inr rfl) (Or.inl rfl)))
theorem S_X5_isLost {sh : List SC} {M : Mem} {a : Nat} {x1 : Int32}  (g1 : kd sh a = some (5 + 7, 0)) : Gv m_X5_isLost [.ref a, .int x1] sh M (.int (V_X5_isLost a x1 M)) M := by
  refine Sp.of (ls := [some (.ref a), some (.int x1)]) (by decide +kernel) (Nat.le_of_ble_eq_true rfl) rfl ?_
  refine r_aload_n e_X5_isLost_0 rfl ?_
  refine r_getI e_X5_isLost_1 fl_X5_47 i0 (by with_reducible assumption) ?_
  obtain ⟨v0_0, e_v0_0⟩ : ∃ z : Int32, z = (if (M.1 a 13) ≤ 0 then (0 : Int32) else (if ((x1 + (M.1 a 0)) - (x1 + (M.1 a 0)) / (M.1 a 13) * (M.1 a 13)) = 0 then (1 : Int32) else (0 : Int32))) := ⟨_, rfl⟩
  have z_v0_0 : v0_0 = 0 ∨ v0_0 = 1 := by rw [e_v0_0]; exact (zi (Or.inl rfl) (zi (Or.inr rfl) (Or.inl rfl)))
  suffices j26_0 : WP m_X5_isLost (fun r sh' M'' => r = some (.int (V_X5_isLost a x1 M)) ∧ sh' = sh ∧ M'' = M) 26 [some (.ref a), some (.int x1)] [.int v0_0] sh M 0 0 by
    refine r_if_le e_X5_isLost_4 (fun h4_0 => ?_) (fun h4_0 => ?_)
    · refine r_iconst e_X5_isLost_25 ic_0 ?_
      rw [show v0_0 = (0 : Int32) from (e_v0_0.trans (if_pos h4_0))] at j26_0; exact j26_0
    · refine r_iload_n e_X5_isLost_7 rfl ?_
      refine r_aload_n e_X5_isLost_8 rfl ?_
      refine r_getI e_X5_isLost_9 fl_X5_62 i0 (by with_reducible assumption) ?_
      refine r_iadd e_X5_isLost_12 ?_
      refine r_aload_n e_X5_isLost_13 rfl ?_
      refine r_getI e_X5_isLost_14 fl_X5_47 i0 (by with_reducible assumption) ?_
      refine r_irem e_X5_isLost_17 (fun q => h4_0 (by rw [q]; decide)) ?_
      refine r_if_ne e_X5_isLost_18 (fun h18_1 => ?_) (fun h18_1 => ?_)
      · refine r_iconst e_X5_isLost_25 ic_0 ?_
        rw [show v0_0 = (0 : Int32) from ((e_v0_0.trans (if_neg h4_0)).trans (if_neg h18_1))] at j26_0; exact j26_0
      · refine r_iconst e_X5_isLost_21 ic_1 ?_
        refine r_goto e_X5_isLost_22 ?_
        rw [show v0_0 = (1 : Int32) from ((e_v0_0.trans (if_neg h4_0)).trans (if_pos h18_1))] at j26_0; exact j26_0
  refine r_zreturn e_X5_isLost_26 rfl ⟨rfl, rfl⟩ z_v0_0 ?_
  (subst e_v0_0; refine ⟨?_, rfl, ?_⟩ <;> ((try unfold V_X5_isLost); (try simp only []); (try rfl)))
def V_X0_pastX (a : Nat) (x1 : Int32) (q1 : Nat) (M : Mem) : Int32 := (V_X10_at q1 (x1 &&& (3 : Int32)) 4 M)
theorem S_X0_pastX {sh : List SC} {M : Mem} {a : Nat} {x1 : Int32} {q1 : Nat} (g1 : kd sh a = some (0 + 7, 0)) (g2 : rf sh a 10 = some q1) (g3 : kd sh q1 = some (0, 4)) : Gv m_X0_pastX [.ref a, .int x1] sh M (.int (V_X0_pastX a x1 q1 M)) M := by
  refine Sp.of (ls := [some (.ref a), some (.int x1)]) (by decide +kernel) (Nat.le_of_ble_eq_true rfl) rfl ?_
  refine r_aload_n e_X0_pastX_0 rfl ?_
  refine r_getR e_X0_pastX_1 fl_X0_40 (by with_reducible assumption) (by with_reducible assumption) ?_
  refine r_iload_n e_X0_pastX_4 rfl ?_
  refine r_iconst e_X0_pastX_5 ic_3 ?_
  refine r_iand e_X0_pastX_6 ?_
  refine cSN2v e_X0_pastX_7 cl_X0_65 ⟨Nat.le_of_ble_eq_true rfl, Nat.le_of_ble_eq_true rfl⟩ ⟨rfl, rfl⟩  (Nat.le_of_ble_eq_true rfl) (S_X10_at (by with_reducible assumption) (by first | decide | (unfold vp_in; decide) | exact Or.inl rfl | exact Or.inr rfl)) ?_
  refine r_ireturn e_X0_pastX_10 rfl ⟨rfl, rfl⟩ ?_
  (refine ⟨?_, rfl, ?_⟩ <;> ((try unfold V_X0_pastX); (try simp only []); (try rfl)))
def V_X0_pastY (a : Nat) (x1 : Int32) (q1 : Nat) (M : Mem) : Int32 := (V_X10_at q1 (x1 &&& (3 : Int32)) 4 M)
theorem S_X0_pastY {sh : List SC} {M : Mem} {a : Nat} {x1 : Int32} {q1 : Nat} (g1 : kd sh a = some (0 + 7, 0)) (g2 : rf sh a 11 = some q1) (g3 : kd sh q1 = some (0, 4)) : Gv m_X0_pastY [.ref a, .int x1] sh M (.int (V_X0_pastY a x1 q1 M)) M := by
  refine Sp.of (ls := [some (.ref a), some (.int x1)]) (by decide +kernel) (Nat.le_of_ble_eq_true rfl) rfl ?_
  refine r_aload_n e_X0_pastY_0 rfl ?_
  refine r_getR e_X0_pastY_1 fl_X0_44 (by with_reducible assumption) (by with_reducible assumption) ?_
  refine r_iload_n e_X0_pastY_4 rfl ?_
  refine r_iconst e_X0_pastY_5 ic_3 ?_
  refine r_iand e_X0_pastY_6 ?_
  refine cSN2v e_X0_pastY_7 cl_X0_65 ⟨Nat.le_of_ble_eq_true rfl, Nat.le_of_ble_eq_true rfl⟩ ⟨rfl, rfl⟩  (Nat.le_of_ble_eq_true rfl) (S_X10_at (by with_reducible assumption) (by first | decide | (unfold vp_in; decide) | exact Or.inl rfl | exact Or.inr rfl)) ?_
  refine r_ireturn e_X0_pastY_10 rfl ⟨rfl, rfl⟩ ?_
  (refine ⟨?_, rfl, ?_⟩ <;> ((try unfold V_X0_pastY); (try simp only []); (try rfl)))
def V_X2_holding (a : Nat) (x1 : Int32) (q1 : Nat) (M : Mem) : Int32 := if 0 ≤ (M.1 q1 2) then (if (M.1 q1 2) = x1 then (2 : Int32) else (let v2_0 : Int32 := if ((M.1 q1 2) / (5 : Int32)) = (x1 / (5 : Int32)) then (1 : Int32) else (-1 : Int32); v2_0)) else (0 : Int32)
theorem S_X2_holding {sh : List SC} {M : Mem} {a : Nat} {x1 : Int32} {q1 : Nat} (g1 : kd sh a = some (2 + 7, 0)) (g2 : rf sh a 4 = some q1) (g3 : kd sh q1 = some (0 + 7, 0)) : Gv m_X2_holding [.ref a, .int x1] sh M (.int (V_X2_holding a x1 q1 M)) M := by
  refine Sp.of (ls := [some (.ref a), some (.int x1)]) (by decide +kernel) (Nat.le_of_ble_eq_true rfl) rfl ?_
  refine r_aload_n e_X2_holding_0 rfl ?_
  refine r_getR e_X2_holding_1 fl_X2_27 (by with_reducible assumption) (by with_reducible assumption) ?_
  refine r_getI e_X2_holding_4 fl_X2_132 i0 (by with_reducible assumption) ?_
  refine r_if_ge e_X2_holding_7 (fun h7_0 => ?_) (fun h7_0 => ?_)
  · refine r_aload_n e_X2_holding_12 rfl ?_
    refine r_getR e_X2_holding_13 fl_X2_27 (by with_reducible assumption) (by with_reducible assumption) ?_
    refine r_getI e_X2_holding_16 fl_X2_132 i0 (by with_reducible assumption) ?_
    refine r_iload_n e_X2_holding_19 rfl ?_
    refine r_icmp_ne e_X2_holding_20 (fun h20_1 => ?_) (fun h20_1 => ?_)
    · refine r_aload_n e_X2_holding_25 rfl ?_
      refine r_getR e_X2_holding_26 fl_X2_27 (by with_reducible assumption) (by with_reducible assumption) ?_
      refine r_getI e_X2_holding_29 fl_X2_132 i0 (by with_reducible assumption) ?_
      refine r_iconst e_X2_holding_32 ic_5 ?_
      refine r_idiv e_X2_holding_33 (by decide) ?_
      refine r_iload_n e_X2_holding_34 rfl ?_
      refine r_iconst e_X2_holding_35 ic_5 ?_
      refine r_idiv e_X2_holding_36 (by decide) ?_
      obtain ⟨v2_0, e_v2_0⟩ : ∃ z : Int32, z = (if ((M.1 q1 2) / (5 : Int32)) = (x1 / (5 : Int32)) then (1 : Int32) else (-1 : Int32)) := ⟨_, rfl⟩
      suffices j45_2 : WP m_X2_holding (fun r sh' M'' => r = some (.int (V_X2_holding a x1 q1 M)) ∧ sh' = sh ∧ M'' = M) 45 [some (.ref a), some (.int x1)] [.int v2_0] sh M 0 0 by
        refine r_icmp_ne e_X2_holding_37 (fun h37_2 => ?_) (fun h37_2 => ?_)
        · refine r_iconst e_X2_holding_44 ic_m1 ?_
          rw [show v2_0 = (-1 : Int32) from (e_v2_0.trans (if_neg h37_2))] at j45_2; exact j45_2
        · refine r_iconst e_X2_holding_40 ic_1 ?_
          refine r_goto e_X2_holding_41 ?_
          rw [show v2_0 = (1 : Int32) from (e_v2_0.trans (if_pos h37_2))] at j45_2; exact j45_2
      refine r_ireturn e_X2_holding_45 rfl ⟨rfl, rfl⟩ ?_
      (subst e_v2_0; refine ⟨?_, rfl, ?_⟩ <;> ((try unfold V_X2_holding); (try simp only [if_pos h7_0, if_neg h20_1]); (try rfl)))
    · refine r_iconst e_X2_holding_23 ic_2 ?_
      refine r_ireturn e_X2_holding_24 rfl ⟨rfl, rfl⟩ ?_
      (refine ⟨?_, rfl, ?_⟩ <;> ((try unfold V_X2_holding); (try simp only [if_pos h7_0, if_pos h20_1]); (try rfl)))
  · refine r_iconst e_X2_holding_10 ic_0 ?_
    refine r_ireturn e_X2_holding_11 rfl ⟨rfl, rfl⟩ ?_
    (refine ⟨?_, rfl, ?_⟩ <;> ((try unfold V_X2_holding); (try simp only [if_neg h7_0]); (try rfl)))
def V_X10_cut (x1 : Int32) (x2 : Int32) (x3 : Int32) (M : Mem) : Int32 := (if x2 < (if x1 < x3 then x1 else x3) then (if x1 < x3 then x1 else x3) else x2)
theorem S_X10_cut {sh : List SC} {M : Mem} {x1 : Int32} {x2 : Int32} {x3 : Int32}   : Gv m_X10_cut [.int x1, .int x2, .int x3] sh M (.int (V_X10_cut x1 x2 x3 M)) M := by
  refine Sp.of (ls := [some (.int x1), some (.int x2), some (.int x3)]) (by decide +kernel) (Nat.le_of_ble_eq_true rfl) rfl ?_
  refine r_iload_n e_X10_cut_0 rfl ?_
  refine r_iload_n e_X10_cut_1 rfl ?_
  refine r_iload_n e_X10_cut_2 rfl ?_
  refine r_mmin e_X10_cut_3 cl_X10_199 ⟨Nat.le_of_ble_eq_true rfl, Nat.le_of_ble_eq_true rfl, Nat.zero_le _, Nat.zero_le _⟩ (Nat.le_of_ble_eq_true rfl) ?_
  refine r_mmax e_X10_cut_6 cl_X10_204 ⟨Nat.le_of_ble_eq_true rfl, Nat.le_of_ble_eq_true rfl, Nat.zero_le _, Nat.zero_le _⟩ (Nat.le_of_ble_eq_true rfl) ?_
  refine r_ireturn e_X10_cut_9 rfl ⟨rfl, rfl⟩ ?_
  (refine ⟨?_, rfl, ?_⟩ <;> ((try unfold V_X10_cut); (try simp only []); (try rfl)))
def U_X0_hold (a : Nat) (x1 : Int32) (x2 : Int32) (x3 : Int32) (x4 : Int32) (M : Mem) : Mem := setI (setI (U_X0_go a x2 x3 (U_X0_free a (0 : Int32) (0 : Int32) (0 : Int32) M)) a 2 x1) a 3 x4
theorem S_X0_hold {sh : List SC} {M : Mem} {a : Nat} {x1 : Int32} {x2 : Int32} {x3 : Int32} {x4 : Int32}  (g1 : kd sh a = some (0 + 7, 0)) : Gu m_X0_hold [.ref a, .int x1, .int x2, .int x3, .int x4] sh M (U_X0_hold a x1 x2 x3 x4 M) := by
  refine Sp.of (ls := [some (.ref a), some (.int x1), some (.int x2), some (.int x3), some (.int x4)]) (by decide +kernel) (Nat.le_of_ble_eq_true rfl) rfl ?_
  refine r_aload_n e_X0_hold_0 rfl ?_
  refine r_iconst e_X0_hold_1 ic_0 ?_
  refine r_iconst e_X0_hold_2 ic_0 ?_
  refine r_iconst e_X0_hold_3 ic_0 ?_
  refine cV3u e_X0_hold_4 cl_X0_51 ⟨Nat.le_of_ble_eq_true rfl, Nat.le_of_ble_eq_true rfl⟩ ⟨rfl, rfl⟩ (by with_reducible assumption) (Nat.le_of_ble_eq_true rfl) (S_X0_free (by with_reducible assumption)) ?_
  refine r_aload_n e_X0_hold_7 rfl ?_
  refine r_iload_n e_X0_hold_8 rfl ?_
  refine r_iload_n e_X0_hold_9 rfl ?_
  refine cV2u e_X0_hold_10 cl_X0_47 ⟨Nat.le_of_ble_eq_true rfl, Nat.le_of_ble_eq_true rfl⟩ ⟨rfl, rfl⟩ (by with_reducible assumption) (Nat.le_of_ble_eq_true rfl) (S_X0_go (by with_reducible assumption)) ?_
  refine r_aload_n e_X0_hold_13 rfl ?_
  refine r_iload_n e_X0_hold_14 rfl ?_
  refine r_putI e_X0_hold_15 fl_X0_16 (by with_reducible assumption) ?_
  refine r_aload_n e_X0_hold_18 rfl ?_
  refine r_iload e_X0_hold_19 rfl ?_
  refine r_putI e_X0_hold_21 fl_X0_19 (by with_reducible assumption) ?_
  refine r_return e_X0_hold_24 rfl ⟨rfl, rfl⟩ ?_
  (refine ⟨?_, rfl, ?_⟩ <;> ((try unfold U_X0_hold); (try simp only []); (try rfl)))
def U_X7_addGoal (a : Nat) (x1 : Int32) (x2 : Int32) (q1 : Nat) (M : Mem) : Mem := (let v0_0 : Int32 := if x1 = 0 then x2 else (x2 + (1000 : Int32)); let M1_0 : Mem := if x1 = 0 then (setI (U_X10_put q1 ((M.1 a 0) + (M.1 a 1)) v0_0 20 M) a 0 (((U_X10_put q1 ((M.1 a 0) + (M.1 a 1)) v0_0 20 M).1 a 0) + (1 : Int32))) else (setI (U_X10_put q1 ((M.1 a 0) + (M.1 a 1)) v0_0 20 M) a 1 (((U_X10_put q1 ((M.1 a 0) + (M.1 a 1)) v0_0 20 M).1 a 1) + (1 : Int32))); M1_0)
theorem S_X7_addGoal {sh : List SC} {M : Mem} {a : Nat} {x1 : Int32} {x2 : Int32} {q1 : Nat} (g1 : kd sh a = some (7 + 7, 0)) (g2 : rf sh a 5 = some q1) (g3 : kd sh q1 = some (0, 20)) : Gu m_X7_addGoal [.ref a, .int x1, .int x2] sh M (U_X7_addGoal a x1 x2 q1 M) := by
  refine Sp.of (ls := [some (.ref a), some (.int x1), some (.int x2)]) (by decide +kernel) (Nat.le_of_ble_eq_true rfl) rfl ?_
  refine r_aload_n e_X7_addGoal_0 rfl ?_
  refine r_getR e_X7_addGoal_1 fl_X7_26 (by with_reducible assumption) (by with_reducible assumption) ?_
  refine r_aload_n e_X7_addGoal_4 rfl ?_
  refine r_getI e_X7_addGoal_5 fl_X7_7 i0 (by with_reducible assumption) ?_
  refine r_aload_n e_X7_addGoal_8 rfl ?_
  refine r_getI e_X7_addGoal_9 fl_X7_13 i0 (by with_reducible assumption) ?_
  refine r_iadd e_X7_addGoal_12 ?_
  refine r_iload_n e_X7_addGoal_13 rfl ?_
  obtain ⟨v0_0, e_v0_0⟩ : ∃ z : Int32, z = (if x1 = 0 then x2 else (x2 + (1000 : Int32))) := ⟨_, rfl⟩
  suffices j26_0 : WP m_X7_addGoal (fun r sh' M'' => r = none ∧ sh' = sh ∧ M'' = (U_X7_addGoal a x1 x2 q1 M)) 26 [some (.ref a), some (.int x1), some (.int x2)] [.int v0_0, .int ((M.1 a 0) + (M.1 a 1)), .ref q1] sh M 0 0 by
    refine r_if_eq e_X7_addGoal_14 (fun h14_0 => ?_) (fun h14_0 => ?_)
    · refine r_iload_n e_X7_addGoal_25 rfl ?_
      rw [show v0_0 = x2 from (e_v0_0.trans (if_pos h14_0))] at j26_0; exact j26_0
    · refine r_iload_n e_X7_addGoal_17 rfl ?_
      refine r_sipush e_X7_addGoal_18 sp_1000 ?_
      refine r_iadd e_X7_addGoal_21 ?_
      refine r_goto e_X7_addGoal_22 ?_
      rw [show v0_0 = (x2 + (1000 : Int32)) from (e_v0_0.trans (if_neg h14_0))] at j26_0; exact j26_0
  refine cSN3u e_X7_addGoal_26 cl_X7_41 ⟨Nat.le_of_ble_eq_true rfl, Nat.le_of_ble_eq_true rfl⟩ ⟨rfl, rfl⟩  (Nat.le_of_ble_eq_true rfl) (S_X10_put (by with_reducible assumption) (by first | decide | (unfold vp_in; decide) | exact Or.inl rfl | exact Or.inr rfl)) ?_
  refine r_iload_n e_X7_addGoal_29 rfl ?_
  obtain ⟨M1_0, e_M1_0⟩ : ∃ z : Mem, z = (if x1 = 0 then (setI (U_X10_put q1 ((M.1 a 0) + (M.1 a 1)) v0_0 20 M) a 0 (((U_X10_put q1 ((M.1 a 0) + (M.1 a 1)) v0_0 20 M).1 a 0) + (1 : Int32))) else (setI (U_X10_put q1 ((M.1 a 0) + (M.1 a 1)) v0_0 20 M) a 1 (((U_X10_put q1 ((M.1 a 0) + (M.1 a 1)) v0_0 20 M).1 a 1) + (1 : Int32)))) := ⟨_, rfl⟩
  suffices j56_1 : WP m_X7_addGoal (fun r sh' M'' => r = none ∧ sh' = sh ∧ M'' = (U_X7_addGoal a x1 x2 q1 M)) 56 [some (.ref a), some (.int x1), some (.int x2)] [] sh M1_0 0 0 by
    refine r_if_eq e_X7_addGoal_30 (fun h30_1 => ?_) (fun h30_1 => ?_)
    · refine r_aload_n e_X7_addGoal_46 rfl ?_
      refine r_dup e_X7_addGoal_47 rfl ?_
      refine r_getI e_X7_addGoal_48 fl_X7_7 i0 (by with_reducible assumption) ?_
      refine r_iconst e_X7_addGoal_51 ic_1 ?_
      refine r_iadd e_X7_addGoal_52 ?_
      refine r_putI e_X7_addGoal_53 fl_X7_7 (by with_reducible assumption) ?_
      rw [show M1_0 = setI (U_X10_put q1 ((M.1 a 0) + (M.1 a 1)) v0_0 20 M) a 0 (((U_X10_put q1 ((M.1 a 0) + (M.1 a 1)) v0_0 20 M).1 a 0) + (1 : Int32)) from (e_M1_0.trans (if_pos h30_1))] at j56_1; exact j56_1
    · refine r_aload_n e_X7_addGoal_33 rfl ?_
      refine r_dup e_X7_addGoal_34 rfl ?_
      refine r_getI e_X7_addGoal_35 fl_X7_13 i0 (by with_reducible assumption) ?_
      refine r_iconst e_X7_addGoal_38 ic_1 ?_
      refine r_iadd e_X7_addGoal_39 ?_
      refine r_putI e_X7_addGoal_40 fl_X7_13 (by with_reducible assumption) ?_
      refine r_goto e_X7_addGoal_43 ?_
      rw [show M1_0 = setI (U_X10_put q1 ((M.1 a 0) + (M.1 a 1)) v0_0 20 M) a 1 (((U_X10_put q1 ((M.1 a 0) + (M.1 a 1)) v0_0 20 M).1 a 1) + (1 : Int32)) from (e_M1_0.trans (if_neg h30_1))] at j56_1; exact j56_1
  refine r_return e_X7_addGoal_56 rfl ⟨rfl, rfl⟩ ?_
  (subst e_M1_0 e_v0_0; refine ⟨?_, rfl, ?_⟩ <;> ((try unfold U_X7_addGoal); (try simp only []); (try rfl)))
def V_X0_hasSlept (a : Nat) (M : Mem) : Int32 := (let v0_0 : Int32 := if (M.1 a 9) ≤ 0 then (0 : Int32) else (if (M.1 a 7) = (M.1 a 0) then (if (M.1 a 8) = (M.1 a 1) then (1 : Int32) else (0 : Int32)) else (0 : Int32)); let v3_0 : Int32 := if (M.1 a 2) < 0 then (if v0_0 = 0 then (1 : Int32) else ((M.1 a 9) + (1 : Int32))) else (0 : Int32); let v5_0 : Int32 := if v3_0 < (10 : Int32) then (0 : Int32) else (1 : Int32); v5_0)
theorem Z_X0_hasSlept {M : Mem} {a : Nat}   : V_X0_hasSlept a M = 0 ∨ V_X0_hasSlept a M = 1 := (zi (Or.inl rfl) (Or.inr rfl))
def U_X0_hasSlept (a : Nat) (M : Mem) : Mem := (let v0_0 : Int32 := if (M.1 a 9) ≤ 0 then (0 : Int32) else (if (M.1 a 7) = (M.1 a 0) then (if (M.1 a 8) = (M.1 a 1) then (1 : Int32) else (0 : Int32)) else (0 : Int32)); let v3_0 : Int32 := if (M.1 a 2) < 0 then (if v0_0 = 0 then (1 : Int32) else ((M.1 a 9) + (1 : Int32))) else (0 : Int32); let v5_0 : Int32 := if v3_0 < (10 : Int32) then (0 : Int32) else (1 : Int32); setI (setI (setI M a 9 v3_0) a 7 (M.1 a 0)) a 8 (M.1 a 1))
theorem S_X0_hasSlept {sh : List SC} {M : Mem} {a : Nat}  (g1 : kd sh a = some (0 + 7, 0)) : Gv m_X0_hasSlept [.ref a] sh M (.int (V_X0_hasSlept a M)) (U_X0_hasSlept a M) := by
  refine Sp.of (ls := [some (.ref a), none]) (by decide +kernel) (Nat.le_of_ble_eq_true rfl) rfl ?_
  refine r_aload_n e_X0_hasSlept_0 rfl ?_
  refine r_getI e_X0_hasSlept_1 fl_X0_37 i0 (by with_reducible assumption) ?_
  obtain ⟨v0_0, e_v0_0⟩ : ∃ z : Int32, z = (if (M.1 a 9) ≤ 0 then (0 : Int32) else (if (M.1 a 7) = (M.1 a 0) then (if (M.1 a 8) = (M.1 a 1) then (1 : Int32) else (0 : Int32)) else (0 : Int32))) := ⟨_, rfl⟩
  have z_v0_0 : v0_0 = 0 ∨ v0_0 = 1 := by rw [e_v0_0]; exact (zi (Or.inl rfl) (zi (zi (Or.inr rfl) (Or.inl rfl)) (Or.inl rfl)))
  suffices j34_0 : WP m_X0_hasSlept (fun r sh' M'' => r = some (.int (V_X0_hasSlept a M)) ∧ sh' = sh ∧ M'' = (U_X0_hasSlept a M)) 34 [some (.ref a), none] [.int v0_0] sh M 0 0 by
    refine r_if_le e_X0_hasSlept_4 (fun h4_0 => ?_) (fun h4_0 => ?_)
    · refine r_iconst e_X0_hasSlept_33 ic_0 ?_
      rw [show v0_0 = (0 : Int32) from (e_v0_0.trans (if_pos h4_0))] at j34_0; exact j34_0
    · refine r_aload_n e_X0_hasSlept_7 rfl ?_
      refine r_getI e_X0_hasSlept_8 fl_X0_31 i0 (by with_reducible assumption) ?_
      refine r_aload_n e_X0_hasSlept_11 rfl ?_
      refine r_getI e_X0_hasSlept_12 fl_X0_7 i0 (by with_reducible assumption) ?_
      refine r_icmp_ne e_X0_hasSlept_15 (fun h15_1 => ?_) (fun h15_1 => ?_)
      · refine r_iconst e_X0_hasSlept_33 ic_0 ?_
        rw [show v0_0 = (0 : Int32) from ((e_v0_0.trans (if_neg h4_0)).trans (if_neg h15_1))] at j34_0; exact j34_0
      · refine r_aload_n e_X0_hasSlept_18 rfl ?_
        refine r_getI e_X0_hasSlept_19 fl_X0_34 i0 (by with_reducible assumption) ?_
        refine r_aload_n e_X0_hasSlept_22 rfl ?_
        refine r_getI e_X0_hasSlept_23 fl_X0_13 i0 (by with_reducible assumption) ?_
        refine r_icmp_ne e_X0_hasSlept_26 (fun h26_2 => ?_) (fun h26_2 => ?_)
        · refine r_iconst e_X0_hasSlept_33 ic_0 ?_
          rw [show v0_0 = (0 : Int32) from (((e_v0_0.trans (if_neg h4_0)).trans (if_pos h15_1)).trans (if_neg h26_2))] at j34_0; exact j34_0
        · refine r_iconst e_X0_hasSlept_29 ic_1 ?_
          refine r_goto e_X0_hasSlept_30 ?_
          rw [show v0_0 = (1 : Int32) from (((e_v0_0.trans (if_neg h4_0)).trans (if_pos h15_1)).trans (if_pos h26_2))] at j34_0; exact j34_0
  refine p_istore_n_2_1 e_X0_hasSlept_34 rfl rfl ?_
  refine r_aload_n e_X0_hasSlept_35 rfl ?_
  refine r_aload_n e_X0_hasSlept_36 rfl ?_
  refine r_getI e_X0_hasSlept_37 fl_X0_16 i0 (by with_reducible assumption) ?_
  obtain ⟨v3_0, e_v3_0⟩ : ∃ z : Int32, z = (if (M.1 a 2) < 0 then (if v0_0 = 0 then (1 : Int32) else ((M.1 a 9) + (1 : Int32))) else (0 : Int32)) := ⟨_, rfl⟩
  suffices j61_3 : WP m_X0_hasSlept (fun r sh' M'' => r = some (.int (V_X0_hasSlept a M)) ∧ sh' = sh ∧ M'' = (U_X0_hasSlept a M)) 61 [some (.ref a), some (.int v0_0)] [.int v3_0, .ref a] sh M 0 0 by
    refine r_if_lt e_X0_hasSlept_40 (fun h40_3 => ?_) (fun h40_3 => ?_)
    · refine r_iload_n e_X0_hasSlept_47 rfl ?_
      refine r_if_eq e_X0_hasSlept_48 (fun h48_4 => ?_) (fun h48_4 => ?_)
      · refine r_iconst e_X0_hasSlept_60 ic_1 ?_
        rw [show v3_0 = (1 : Int32) from ((e_v3_0.trans (if_pos h40_3)).trans (if_pos h48_4))] at j61_3; exact j61_3
      · refine r_aload_n e_X0_hasSlept_51 rfl ?_
        refine r_getI e_X0_hasSlept_52 fl_X0_37 i0 (by with_reducible assumption) ?_
        refine r_iconst e_X0_hasSlept_55 ic_1 ?_
        refine r_iadd e_X0_hasSlept_56 ?_
        refine r_goto e_X0_hasSlept_57 ?_
        rw [show v3_0 = ((M.1 a 9) + (1 : Int32)) from ((e_v3_0.trans (if_pos h40_3)).trans (if_neg h48_4))] at j61_3; exact j61_3
    · refine r_iconst e_X0_hasSlept_43 ic_0 ?_
      refine r_goto e_X0_hasSlept_44 ?_
      rw [show v3_0 = (0 : Int32) from (e_v3_0.trans (if_neg h40_3))] at j61_3; exact j61_3
  refine r_putI e_X0_hasSlept_61 fl_X0_37 (by with_reducible assumption) ?_
  refine r_aload_n e_X0_hasSlept_64 rfl ?_
  refine r_aload_n e_X0_hasSlept_65 rfl ?_
  refine r_getIe e_X0_hasSlept_66 fl_X0_7 i0 (by with_reducible assumption) (gs_nI (by decide)) ?_
  refine r_putI e_X0_hasSlept_69 fl_X0_31 (by with_reducible assumption) ?_
  refine r_aload_n e_X0_hasSlept_72 rfl ?_
  refine r_aload_n e_X0_hasSlept_73 rfl ?_
  refine r_getIe e_X0_hasSlept_74 fl_X0_13 i0 (by with_reducible assumption) ((gs_nI (by decide)).trans (gs_nI (by decide))) ?_
  refine r_putI e_X0_hasSlept_77 fl_X0_34 (by with_reducible assumption) ?_
  refine r_aload_n e_X0_hasSlept_80 rfl ?_
  refine r_getIe e_X0_hasSlept_81 fl_X0_37 i0 (by with_reducible assumption) ((gs_nI (by decide)).trans ((gs_nI (by decide)).trans gs_eI)) ?_
  refine r_bipush e_X0_hasSlept_84 bp_10 ?_
  obtain ⟨v5_0, e_v5_0⟩ : ∃ z : Int32, z = (if v3_0 < (10 : Int32) then (0 : Int32) else (1 : Int32)) := ⟨_, rfl⟩
  have z_v5_0 : v5_0 = 0 ∨ v5_0 = 1 := by rw [e_v5_0]; exact (zi (Or.inl rfl) (Or.inr rfl))
  suffices j94_5 : WP m_X0_hasSlept (fun r sh' M'' => r = some (.int (V_X0_hasSlept a M)) ∧ sh' = sh ∧ M'' = (U_X0_hasSlept a M)) 94 [some (.ref a), some (.int v0_0)] [.int v5_0] sh (setI (setI (setI M a 9 v3_0) a 7 (M.1 a 0)) a 8 (M.1 a 1)) 0 0 by
    refine r_icmp_lt e_X0_hasSlept_86 (fun h86_5 => ?_) (fun h86_5 => ?_)
    · refine r_iconst e_X0_hasSlept_93 ic_0 ?_
      rw [show v5_0 = (0 : Int32) from (e_v5_0.trans (if_pos h86_5))] at j94_5; exact j94_5
    · refine r_iconst e_X0_hasSlept_89 ic_1 ?_
      refine r_goto e_X0_hasSlept_90 ?_
      rw [show v5_0 = (1 : Int32) from (e_v5_0.trans (if_neg h86_5))] at j94_5; exact j94_5
  refine r_zreturn e_X0_hasSlept_94 rfl ⟨rfl, rfl⟩ z_v5_0 ?_
  (subst e_v5_0 e_v3_0 e_v0_0; refine ⟨?_, rfl, ?_⟩ <;> ((try unfold V_X0_hasSlept); (try unfold U_X0_hasSlept); (try simp only []); (try rfl)))
def U_X7_addLaw (a : Nat) (x1 : Int32) (q1 : Nat) (M : Mem) : Mem := U_X10_put q1 x1 ((V_X10_at q1 x1 4 M) + (1 : Int32)) 4 M
theorem S_X7_addLaw {sh : List SC} {M : Mem} {a : Nat} {x1 : Int32} {q1 : Nat} (g1 : kd sh a = some (7 + 7, 0)) (g2 : rf sh a 4 = some q1) (g3 : kd sh q1 = some (0, 4)) : Gu m_X7_addLaw [.ref a, .int x1] sh M (U_X7_addLaw a x1 q1 M) := by
  refine Sp.of (ls := [some (.ref a), some (.int x1)]) (by decide +kernel) (Nat.le_of_ble_eq_true rfl) rfl ?_
  refine r_aload_n e_X7_addLaw_0 rfl ?_
  refine r_getR e_X7_addLaw_1 fl_X7_22 (by with_reducible assumption) (by with_reducible assumption) ?_
  refine r_iload_n e_X7_addLaw_4 rfl ?_
  refine r_aload_n e_X7_addLaw_5 rfl ?_
  refine r_getR e_X7_addLaw_6 fl_X7_22 (by with_reducible assumption) (by with_reducible assumption) ?_
  refine r_iload_n e_X7_addLaw_9 rfl ?_
  refine cSN2v e_X7_addLaw_10 cl_X7_35 ⟨Nat.le_of_ble_eq_true rfl, Nat.le_of_ble_eq_true rfl⟩ ⟨rfl, rfl⟩  (Nat.le_of_ble_eq_true rfl) (S_X10_at (by with_reducible assumption) (by first | decide | (unfold vp_in; decide) | exact Or.inl rfl | exact Or.inr rfl)) ?_
  refine r_iconst e_X7_addLaw_13 ic_1 ?_
  refine r_iadd e_X7_addLaw_14 ?_
  refine cSN3u e_X7_addLaw_15 cl_X7_41 ⟨Nat.le_of_ble_eq_true rfl, Nat.le_of_ble_eq_true rfl⟩ ⟨rfl, rfl⟩  (Nat.le_of_ble_eq_true rfl) (S_X10_put (by with_reducible assumption) (by first | decide | (unfold vp_in; decide) | exact Or.inl rfl | exact Or.inr rfl)) ?_
  refine r_return e_X7_addLaw_18 rfl ⟨rfl, rfl⟩ ?_
  (refine ⟨?_, rfl, ?_⟩ <;> ((try unfold U_X7_addLaw); (try simp only []); (try rfl)))
def V_X0_shown (a : Nat) (x1 : Int32) (M : Mem) : Int32 := if x1 = 0 then (M.1 a 0) else (if x1 = 1 then (M.1 a 1) else (if x1 = 2 then (M.1 a 2) else (if x1 = 3 then (M.1 a 4) else (if x1 = 4 then (let v0_0 : Int32 := if (M.1 a 4) ≤ 0 then (0 : Int32) else (M.1 a 5); v0_0) else (let v1_0 : Int32 := if (M.1 a 4) ≤ 0 then (0 : Int32) else (M.1 a 6); v1_0)))))
theorem S_X0_shown {sh : List SC} {M : Mem} {a : Nat} {x1 : Int32}  (g1 : kd sh a = some (0 + 7, 0)) : Gv m_X0_shown [.ref a, .int x1] sh M (.int (V_X0_shown a x1 M)) M := by
  refine Sp.of (ls := [some (.ref a), some (.int x1)]) (by decide +kernel) (Nat.le_of_ble_eq_true rfl) rfl ?_
  refine r_iload_n e_X0_shown_0 rfl ?_
  by_cases hs1_0 : x1 = 0
  · refine r_tabIn (tgt := 36) (off := 35) e_X0_shown_1 (by rw [hs1_0]; decide) (by rw [hs1_0]; decide) (by rw [hs1_0]; rfl) (by decide) ?_
    refine r_aload_n e_X0_shown_36 rfl ?_
    refine r_getI e_X0_shown_37 fl_X0_7 i0 (by with_reducible assumption) ?_
    refine r_ireturn e_X0_shown_40 rfl ⟨rfl, rfl⟩ ?_
    (refine ⟨?_, rfl, ?_⟩ <;> ((try unfold V_X0_shown); (try simp only [if_pos hs1_0]); (try rfl)))
  · by_cases hs1_1 : x1 = 1
    · refine r_tabIn (tgt := 41) (off := 40) e_X0_shown_1 (by rw [hs1_1]; decide) (by rw [hs1_1]; decide) (by rw [hs1_1]; rfl) (by decide) ?_
      refine r_aload_n e_X0_shown_41 rfl ?_
      refine r_getI e_X0_shown_42 fl_X0_13 i0 (by with_reducible assumption) ?_
      refine r_ireturn e_X0_shown_45 rfl ⟨rfl, rfl⟩ ?_
      (refine ⟨?_, rfl, ?_⟩ <;> ((try unfold V_X0_shown); (try simp only [if_neg hs1_0, if_pos hs1_1]); (try rfl)))
    · by_cases hs1_2 : x1 = 2
      · refine r_tabIn (tgt := 46) (off := 45) e_X0_shown_1 (by rw [hs1_2]; decide) (by rw [hs1_2]; decide) (by rw [hs1_2]; rfl) (by decide) ?_
        refine r_aload_n e_X0_shown_46 rfl ?_
        refine r_getI e_X0_shown_47 fl_X0_16 i0 (by with_reducible assumption) ?_
        refine r_ireturn e_X0_shown_50 rfl ⟨rfl, rfl⟩ ?_
        (refine ⟨?_, rfl, ?_⟩ <;> ((try unfold V_X0_shown); (try simp only [if_neg hs1_0, if_neg hs1_1, if_pos hs1_2]); (try rfl)))
      · by_cases hs1_3 : x1 = 3
        · refine r_tabIn (tgt := 51) (off := 50) e_X0_shown_1 (by rw [hs1_3]; decide) (by rw [hs1_3]; decide) (by rw [hs1_3]; rfl) (by decide) ?_
          refine r_aload_n e_X0_shown_51 rfl ?_
          refine r_getI e_X0_shown_52 fl_X0_22 i0 (by with_reducible assumption) ?_
          refine r_ireturn e_X0_shown_55 rfl ⟨rfl, rfl⟩ ?_
          (refine ⟨?_, rfl, ?_⟩ <;> ((try unfold V_X0_shown); (try simp only [if_neg hs1_0, if_neg hs1_1, if_neg hs1_2, if_pos hs1_3]); (try rfl)))
        · by_cases hs1_4 : x1 = 4
          · refine r_tabIn (tgt := 56) (off := 55) e_X0_shown_1 (by rw [hs1_4]; decide) (by rw [hs1_4]; decide) (by rw [hs1_4]; rfl) (by decide) ?_
            refine r_aload_n e_X0_shown_56 rfl ?_
            refine r_getI e_X0_shown_57 fl_X0_22 i0 (by with_reducible assumption) ?_
            obtain ⟨v0_0, e_v0_0⟩ : ∃ z : Int32, z = (if (M.1 a 4) ≤ 0 then (0 : Int32) else (M.1 a 5)) := ⟨_, rfl⟩
            suffices j71_0 : WP m_X0_shown (fun r sh' M'' => r = some (.int (V_X0_shown a x1 M)) ∧ sh' = sh ∧ M'' = M) 71 [some (.ref a), some (.int x1)] [.int v0_0] sh M 0 0 by
              refine r_if_le e_X0_shown_60 (fun h60_0 => ?_) (fun h60_0 => ?_)
              · refine r_iconst e_X0_shown_70 ic_0 ?_
                rw [show v0_0 = (0 : Int32) from (e_v0_0.trans (if_pos h60_0))] at j71_0; exact j71_0
              · refine r_aload_n e_X0_shown_63 rfl ?_
                refine r_getI e_X0_shown_64 fl_X0_25 i0 (by with_reducible assumption) ?_
                refine r_goto e_X0_shown_67 ?_
                rw [show v0_0 = (M.1 a 5) from (e_v0_0.trans (if_neg h60_0))] at j71_0; exact j71_0
            refine r_ireturn e_X0_shown_71 rfl ⟨rfl, rfl⟩ ?_
            (subst e_v0_0; refine ⟨?_, rfl, ?_⟩ <;> ((try unfold V_X0_shown); (try simp only [if_neg hs1_0, if_neg hs1_1, if_neg hs1_2, if_neg hs1_3, if_pos hs1_4]); (try rfl)))
          · refine r_tabOut (tgt := 72) e_X0_shown_1 (by have q0 := lv_neT hs1_0 (show (0 : Int32).toInt = 0 from rfl); have q1 := lv_neT hs1_1 (show (1 : Int32).toInt = 1 from rfl); have q2 := lv_neT hs1_2 (show (2 : Int32).toInt = 2 from rfl); have q3 := lv_neT hs1_3 (show (3 : Int32).toInt = 3 from rfl); have q4 := lv_neT hs1_4 (show (4 : Int32).toInt = 4 from rfl); omega) (by decide) ?_
            refine r_aload_n e_X0_shown_72 rfl ?_
            refine r_getI e_X0_shown_73 fl_X0_22 i0 (by with_reducible assumption) ?_
            obtain ⟨v1_0, e_v1_0⟩ : ∃ z : Int32, z = (if (M.1 a 4) ≤ 0 then (0 : Int32) else (M.1 a 6)) := ⟨_, rfl⟩
            suffices j87_1 : WP m_X0_shown (fun r sh' M'' => r = some (.int (V_X0_shown a x1 M)) ∧ sh' = sh ∧ M'' = M) 87 [some (.ref a), some (.int x1)] [.int v1_0] sh M 0 0 by
              refine r_if_le e_X0_shown_76 (fun h76_1 => ?_) (fun h76_1 => ?_)
              · refine r_iconst e_X0_shown_86 ic_0 ?_
                rw [show v1_0 = (0 : Int32) from (e_v1_0.trans (if_pos h76_1))] at j87_1; exact j87_1
              · refine r_aload_n e_X0_shown_79 rfl ?_
                refine r_getI e_X0_shown_80 fl_X0_28 i0 (by with_reducible assumption) ?_
                refine r_goto e_X0_shown_83 ?_
                rw [show v1_0 = (M.1 a 6) from (e_v1_0.trans (if_neg h76_1))] at j87_1; exact j87_1
            refine r_ireturn e_X0_shown_87 rfl ⟨rfl, rfl⟩ ?_
            (subst e_v1_0; refine ⟨?_, rfl, ?_⟩ <;> ((try unfold V_X0_shown); (try simp only [if_neg hs1_0, if_neg hs1_1, if_neg hs1_2, if_neg hs1_3, if_neg hs1_4]); (try rfl)))
def V_X5_shown (a : Nat) (x1 : Int32) (q1 : Nat) (M : Mem) : Int32 := if x1 = 0 then (M.1 a 2) else (if x1 = 1 then (M.1 a 3) else (if x1 = 2 then (M.1 a 7) else (if x1 = 3 then (let v0_0 : Int32 := if (M.1 a 8) = 0 then (0 : Int32) else (1 : Int32); v0_0) else (if x1 = 4 then (V_X10_at q1 (x1 - (4 : Int32)) 4 M) else (if x1 = 5 then (V_X10_at q1 (x1 - (4 : Int32)) 4 M) else (if x1 = 6 then (V_X10_at q1 (x1 - (4 : Int32)) 4 M) else (if x1 = 7 then (V_X10_at q1 (x1 - (4 : Int32)) 4 M) else (if x1 = 8 then (M.1 a 10) else (if x1 = 9 then (M.1 a 11) else (if x1 = 10 then (M.1 a 14) else (V_X10_at q1 (x1 - (4 : Int32)) 4 M)))))))))))
theorem S_X5_shown {sh : List SC} {M : Mem} {a : Nat} {x1 : Int32} {q1 : Nat} (g1 : kd sh a = some (5 + 7, 0)) (g2 : rf sh a 9 = some q1) (g3 : kd sh q1 = some (0, 4)) : Gv m_X5_shown [.ref a, .int x1] sh M (.int (V_X5_shown a x1 q1 M)) M := by
  refine Sp.of (ls := [some (.ref a), some (.int x1)]) (by decide +kernel) (Nat.le_of_ble_eq_true rfl) rfl ?_
  refine r_iload_n e_X5_shown_0 rfl ?_
  by_cases hs1_0 : x1 = 0
  · refine r_tabIn (tgt := 60) (off := 59) e_X5_shown_1 (by rw [hs1_0]; decide) (by rw [hs1_0]; decide) (by rw [hs1_0]; rfl) (by decide) ?_
    refine r_aload_n e_X5_shown_60 rfl ?_
    refine r_getI e_X5_shown_61 fl_X5_11 i0 (by with_reducible assumption) ?_
    refine r_ireturn e_X5_shown_64 rfl ⟨rfl, rfl⟩ ?_
    (refine ⟨?_, rfl, ?_⟩ <;> ((try unfold V_X5_shown); (try simp only [if_pos hs1_0]); (try rfl)))
  · by_cases hs1_1 : x1 = 1
    · refine r_tabIn (tgt := 65) (off := 64) e_X5_shown_1 (by rw [hs1_1]; decide) (by rw [hs1_1]; decide) (by rw [hs1_1]; rfl) (by decide) ?_
      refine r_aload_n e_X5_shown_65 rfl ?_
      refine r_getI e_X5_shown_66 fl_X5_15 i0 (by with_reducible assumption) ?_
      refine r_ireturn e_X5_shown_69 rfl ⟨rfl, rfl⟩ ?_
      (refine ⟨?_, rfl, ?_⟩ <;> ((try unfold V_X5_shown); (try simp only [if_neg hs1_0, if_pos hs1_1]); (try rfl)))
    · by_cases hs1_2 : x1 = 2
      · refine r_tabIn (tgt := 70) (off := 69) e_X5_shown_1 (by rw [hs1_2]; decide) (by rw [hs1_2]; decide) (by rw [hs1_2]; rfl) (by decide) ?_
        refine r_aload_n e_X5_shown_70 rfl ?_
        refine r_getI e_X5_shown_71 fl_X5_27 i0 (by with_reducible assumption) ?_
        refine r_ireturn e_X5_shown_74 rfl ⟨rfl, rfl⟩ ?_
        (refine ⟨?_, rfl, ?_⟩ <;> ((try unfold V_X5_shown); (try simp only [if_neg hs1_0, if_neg hs1_1, if_pos hs1_2]); (try rfl)))
      · by_cases hs1_3 : x1 = 3
        · refine r_tabIn (tgt := 75) (off := 74) e_X5_shown_1 (by rw [hs1_3]; decide) (by rw [hs1_3]; decide) (by rw [hs1_3]; rfl) (by decide) ?_
          refine r_aload_n e_X5_shown_75 rfl ?_
          refine r_getI e_X5_shown_76 fl_X5_30 i3 (by with_reducible assumption) ?_
          obtain ⟨v0_0, e_v0_0⟩ : ∃ z : Int32, z = (if (M.1 a 8) = 0 then (0 : Int32) else (1 : Int32)) := ⟨_, rfl⟩
          have z_v0_0 : v0_0 = 0 ∨ v0_0 = 1 := by rw [e_v0_0]; exact (zi (Or.inl rfl) (Or.inr rfl))
          suffices j87_0 : WP m_X5_shown (fun r sh' M'' => r = some (.int (V_X5_shown a x1 q1 M)) ∧ sh' = sh ∧ M'' = M) 87 [some (.ref a), some (.int x1)] [.int v0_0] sh M 0 0 by
            refine r_if_eq e_X5_shown_79 (fun h79_0 => ?_) (fun h79_0 => ?_)
            · refine r_iconst e_X5_shown_86 ic_0 ?_
              rw [show v0_0 = (0 : Int32) from (e_v0_0.trans (if_pos h79_0))] at j87_0; exact j87_0
            · refine r_iconst e_X5_shown_82 ic_1 ?_
              refine r_goto e_X5_shown_83 ?_
              rw [show v0_0 = (1 : Int32) from (e_v0_0.trans (if_neg h79_0))] at j87_0; exact j87_0
          refine r_ireturn e_X5_shown_87 rfl ⟨rfl, rfl⟩ ?_
          (subst e_v0_0; refine ⟨?_, rfl, ?_⟩ <;> ((try unfold V_X5_shown); (try simp only [if_neg hs1_0, if_neg hs1_1, if_neg hs1_2, if_pos hs1_3]); (try rfl)))
        · by_cases hs1_4 : x1 = 4
          · refine r_tabIn (tgt := 103) (off := 102) e_X5_shown_1 (by rw [hs1_4]; decide) (by rw [hs1_4]; decide) (by rw [hs1_4]; rfl) (by decide) ?_
            refine r_aload_n e_X5_shown_103 rfl ?_
            refine r_getR e_X5_shown_104 fl_X5_34 (by with_reducible assumption) (by with_reducible assumption) ?_
            refine r_iload_n e_X5_shown_107 rfl ?_
            refine r_iconst e_X5_shown_108 ic_4 ?_
            refine r_isub e_X5_shown_109 ?_
            refine cSN2v e_X5_shown_110 cl_X5_72 ⟨Nat.le_of_ble_eq_true rfl, Nat.le_of_ble_eq_true rfl⟩ ⟨rfl, rfl⟩  (Nat.le_of_ble_eq_true rfl) (S_X10_at (by with_reducible assumption) (by first | decide | (unfold vp_in; decide) | exact Or.inl rfl | exact Or.inr rfl)) ?_
            refine r_ireturn e_X5_shown_113 rfl ⟨rfl, rfl⟩ ?_
            (refine ⟨?_, rfl, ?_⟩ <;> ((try unfold V_X5_shown); (try simp only [if_neg hs1_0, if_neg hs1_1, if_neg hs1_2, if_neg hs1_3, if_pos hs1_4]); (try rfl)))
          · by_cases hs1_5 : x1 = 5
            · refine r_tabIn (tgt := 103) (off := 102) e_X5_shown_1 (by rw [hs1_5]; decide) (by rw [hs1_5]; decide) (by rw [hs1_5]; rfl) (by decide) ?_
              refine r_aload_n e_X5_shown_103 rfl ?_
              refine r_getR e_X5_shown_104 fl_X5_34 (by with_reducible assumption) (by with_reducible assumption) ?_
              refine r_iload_n e_X5_shown_107 rfl ?_
              refine r_iconst e_X5_shown_108 ic_4 ?_
              refine r_isub e_X5_shown_109 ?_
              refine cSN2v e_X5_shown_110 cl_X5_72 ⟨Nat.le_of_ble_eq_true rfl, Nat.le_of_ble_eq_true rfl⟩ ⟨rfl, rfl⟩  (Nat.le_of_ble_eq_true rfl) (S_X10_at (by with_reducible assumption) (by first | decide | (unfold vp_in; decide) | exact Or.inl rfl | exact Or.inr rfl)) ?_
              refine r_ireturn e_X5_shown_113 rfl ⟨rfl, rfl⟩ ?_
              (refine ⟨?_, rfl, ?_⟩ <;> ((try unfold V_X5_shown); (try simp only [if_neg hs1_0, if_neg hs1_1, if_neg hs1_2, if_neg hs1_3, if_neg hs1_4, if_pos hs1_5]); (try rfl)))
            · by_cases hs1_6 : x1 = 6
              · refine r_tabIn (tgt := 103) (off := 102) e_X5_shown_1 (by rw [hs1_6]; decide) (by rw [hs1_6]; decide) (by rw [hs1_6]; rfl) (by decide) ?_
                refine r_aload_n e_X5_shown_103 rfl ?_
                refine r_getR e_X5_shown_104 fl_X5_34 (by with_reducible assumption) (by with_reducible assumption) ?_
                refine r_iload_n e_X5_shown_107 rfl ?_
                refine r_iconst e_X5_shown_108 ic_4 ?_
                refine r_isub e_X5_shown_109 ?_
                refine cSN2v e_X5_shown_110 cl_X5_72 ⟨Nat.le_of_ble_eq_true rfl, Nat.le_of_ble_eq_true rfl⟩ ⟨rfl, rfl⟩  (Nat.le_of_ble_eq_true rfl) (S_X10_at (by with_reducible assumption) (by first | decide | (unfold vp_in; decide) | exact Or.inl rfl | exact Or.inr rfl)) ?_
                refine r_ireturn e_X5_shown_113 rfl ⟨rfl, rfl⟩ ?_
                (refine ⟨?_, rfl, ?_⟩ <;> ((try unfold V_X5_shown); (try simp only [if_neg hs1_0, if_neg hs1_1, if_neg hs1_2, if_neg hs1_3, if_neg hs1_4, if_neg hs1_5, if_pos hs1_6]); (try rfl)))
              · by_cases hs1_7 : x1 = 7
                · refine r_tabIn (tgt := 103) (off := 102) e_X5_shown_1 (by rw [hs1_7]; decide) (by rw [hs1_7]; decide) (by rw [hs1_7]; rfl) (by decide) ?_
                  refine r_aload_n e_X5_shown_103 rfl ?_
                  refine r_getR e_X5_shown_104 fl_X5_34 (by with_reducible assumption) (by with_reducible assumption) ?_
                  refine r_iload_n e_X5_shown_107 rfl ?_
                  refine r_iconst e_X5_shown_108 ic_4 ?_
                  refine r_isub e_X5_shown_109 ?_
                  refine cSN2v e_X5_shown_110 cl_X5_72 ⟨Nat.le_of_ble_eq_true rfl, Nat.le_of_ble_eq_true rfl⟩ ⟨rfl, rfl⟩  (Nat.le_of_ble_eq_true rfl) (S_X10_at (by with_reducible assumption) (by first | decide | (unfold vp_in; decide) | exact Or.inl rfl | exact Or.inr rfl)) ?_
                  refine r_ireturn e_X5_shown_113 rfl ⟨rfl, rfl⟩ ?_
                  (refine ⟨?_, rfl, ?_⟩ <;> ((try unfold V_X5_shown); (try simp only [if_neg hs1_0, if_neg hs1_1, if_neg hs1_2, if_neg hs1_3, if_neg hs1_4, if_neg hs1_5, if_neg hs1_6, if_pos hs1_7]); (try rfl)))
                · by_cases hs1_8 : x1 = 8
                  · refine r_tabIn (tgt := 88) (off := 87) e_X5_shown_1 (by rw [hs1_8]; decide) (by rw [hs1_8]; decide) (by rw [hs1_8]; rfl) (by decide) ?_
                    refine r_aload_n e_X5_shown_88 rfl ?_
                    refine r_getI e_X5_shown_89 fl_X5_38 i0 (by with_reducible assumption) ?_
                    refine r_ireturn e_X5_shown_92 rfl ⟨rfl, rfl⟩ ?_
                    (refine ⟨?_, rfl, ?_⟩ <;> ((try unfold V_X5_shown); (try simp only [if_neg hs1_0, if_neg hs1_1, if_neg hs1_2, if_neg hs1_3, if_neg hs1_4, if_neg hs1_5, if_neg hs1_6, if_neg hs1_7, if_pos hs1_8]); (try rfl)))
                  · by_cases hs1_9 : x1 = 9
                    · refine r_tabIn (tgt := 93) (off := 92) e_X5_shown_1 (by rw [hs1_9]; decide) (by rw [hs1_9]; decide) (by rw [hs1_9]; rfl) (by decide) ?_
                      refine r_aload_n e_X5_shown_93 rfl ?_
                      refine r_getI e_X5_shown_94 fl_X5_41 i0 (by with_reducible assumption) ?_
                      refine r_ireturn e_X5_shown_97 rfl ⟨rfl, rfl⟩ ?_
                      (refine ⟨?_, rfl, ?_⟩ <;> ((try unfold V_X5_shown); (try simp only [if_neg hs1_0, if_neg hs1_1, if_neg hs1_2, if_neg hs1_3, if_neg hs1_4, if_neg hs1_5, if_neg hs1_6, if_neg hs1_7, if_neg hs1_8, if_pos hs1_9]); (try rfl)))
                    · by_cases hs1_10 : x1 = 10
                      · refine r_tabIn (tgt := 98) (off := 97) e_X5_shown_1 (by rw [hs1_10]; decide) (by rw [hs1_10]; decide) (by rw [hs1_10]; rfl) (by decide) ?_
                        refine r_aload_n e_X5_shown_98 rfl ?_
                        refine r_getI e_X5_shown_99 fl_X5_50 i0 (by with_reducible assumption) ?_
                        refine r_ireturn e_X5_shown_102 rfl ⟨rfl, rfl⟩ ?_
                        (refine ⟨?_, rfl, ?_⟩ <;> ((try unfold V_X5_shown); (try simp only [if_neg hs1_0, if_neg hs1_1, if_neg hs1_2, if_neg hs1_3, if_neg hs1_4, if_neg hs1_5, if_neg hs1_6, if_neg hs1_7, if_neg hs1_8, if_neg hs1_9, if_pos hs1_10]); (try rfl)))
                      · refine r_tabOut (tgt := 103) e_X5_shown_1 (by have q0 := lv_neT hs1_0 (show (0 : Int32).toInt = 0 from rfl); have q1 := lv_neT hs1_1 (show (1 : Int32).toInt = 1 from rfl); have q2 := lv_neT hs1_2 (show (2 : Int32).toInt = 2 from rfl); have q3 := lv_neT hs1_3 (show (3 : Int32).toInt = 3 from rfl); have q4 := lv_neT hs1_4 (show (4 : Int32).toInt = 4 from rfl); have q5 := lv_neT hs1_5 (show (5 : Int32).toInt = 5 from rfl); have q6 := lv_neT hs1_6 (show (6 : Int32).toInt = 6 from rfl); have q7 := lv_neT hs1_7 (show (7 : Int32).toInt = 7 from rfl); have q8 := lv_neT hs1_8 (show (8 : Int32).toInt = 8 from rfl); have q9 := lv_neT hs1_9 (show (9 : Int32).toInt = 9 from rfl); have q10 := lv_neT hs1_10 (show (10 : Int32).toInt = 10 from rfl); omega) (by decide) ?_
                        refine r_aload_n e_X5_shown_103 rfl ?_
                        refine r_getR e_X5_shown_104 fl_X5_34 (by with_reducible assumption) (by with_reducible assumption) ?_
                        refine r_iload_n e_X5_shown_107 rfl ?_
                        refine r_iconst e_X5_shown_108 ic_4 ?_
                        refine r_isub e_X5_shown_109 ?_
                        refine cSN2v e_X5_shown_110 cl_X5_72 ⟨Nat.le_of_ble_eq_true rfl, Nat.le_of_ble_eq_true rfl⟩ ⟨rfl, rfl⟩  (Nat.le_of_ble_eq_true rfl) (S_X10_at (by with_reducible assumption) (by first | decide | (unfold vp_in; decide) | exact Or.inl rfl | exact Or.inr rfl)) ?_
                        refine r_ireturn e_X5_shown_113 rfl ⟨rfl, rfl⟩ ?_
                        (refine ⟨?_, rfl, ?_⟩ <;> ((try unfold V_X5_shown); (try simp only [if_neg hs1_0, if_neg hs1_1, if_neg hs1_2, if_neg hs1_3, if_neg hs1_4, if_neg hs1_5, if_neg hs1_6, if_neg hs1_7, if_neg hs1_8, if_neg hs1_9, if_neg hs1_10]); (try rfl)))
def V_X7_shown (a : Nat) (x1 : Int32) (q1 : Nat) (M : Mem) : Int32 := if x1 = 1 then (M.1 a 0) else (if x1 = 2 then (M.1 a 1) else (if x1 = 3 then (V_X10_at q1 (x1 - (3 : Int32)) 4 M) else (if x1 = 4 then (V_X10_at q1 (x1 - (3 : Int32)) 4 M) else (if x1 = 5 then (V_X10_at q1 (x1 - (3 : Int32)) 4 M) else (if x1 = 6 then (V_X10_at q1 (x1 - (3 : Int32)) 4 M) else (if x1 = 7 then (M.1 a 2) else (if x1 = 8 then (M.1 a 3) else (V_X10_at q1 (x1 - (3 : Int32)) 4 M))))))))
theorem S_X7_shown {sh : List SC} {M : Mem} {a : Nat} {x1 : Int32} {q1 : Nat} (g1 : kd sh a = some (7 + 7, 0)) (g2 : rf sh a 4 = some q1) (g3 : kd sh q1 = some (0, 4)) : Gv m_X7_shown [.ref a, .int x1] sh M (.int (V_X7_shown a x1 q1 M)) M := by
  refine Sp.of (ls := [some (.ref a), some (.int x1)]) (by decide +kernel) (Nat.le_of_ble_eq_true rfl) rfl ?_
  refine r_iload_n e_X7_shown_0 rfl ?_
  by_cases hs1_1 : x1 = 1
  · refine r_tabIn (tgt := 48) (off := 47) e_X7_shown_1 (by rw [hs1_1]; decide) (by rw [hs1_1]; decide) (by rw [hs1_1]; rfl) (by decide) ?_
    refine r_aload_n e_X7_shown_48 rfl ?_
    refine r_getI e_X7_shown_49 fl_X7_7 i0 (by with_reducible assumption) ?_
    refine r_ireturn e_X7_shown_52 rfl ⟨rfl, rfl⟩ ?_
    (refine ⟨?_, rfl, ?_⟩ <;> ((try unfold V_X7_shown); (try simp only [if_pos hs1_1]); (try rfl)))
  · by_cases hs1_2 : x1 = 2
    · refine r_tabIn (tgt := 53) (off := 52) e_X7_shown_1 (by rw [hs1_2]; decide) (by rw [hs1_2]; decide) (by rw [hs1_2]; rfl) (by decide) ?_
      refine r_aload_n e_X7_shown_53 rfl ?_
      refine r_getI e_X7_shown_54 fl_X7_13 i0 (by with_reducible assumption) ?_
      refine r_ireturn e_X7_shown_57 rfl ⟨rfl, rfl⟩ ?_
      (refine ⟨?_, rfl, ?_⟩ <;> ((try unfold V_X7_shown); (try simp only [if_neg hs1_1, if_pos hs1_2]); (try rfl)))
    · by_cases hs1_3 : x1 = 3
      · refine r_tabIn (tgt := 68) (off := 67) e_X7_shown_1 (by rw [hs1_3]; decide) (by rw [hs1_3]; decide) (by rw [hs1_3]; rfl) (by decide) ?_
        refine r_aload_n e_X7_shown_68 rfl ?_
        refine r_getR e_X7_shown_69 fl_X7_22 (by with_reducible assumption) (by with_reducible assumption) ?_
        refine r_iload_n e_X7_shown_72 rfl ?_
        refine r_iconst e_X7_shown_73 ic_3 ?_
        refine r_isub e_X7_shown_74 ?_
        refine cSN2v e_X7_shown_75 cl_X7_35 ⟨Nat.le_of_ble_eq_true rfl, Nat.le_of_ble_eq_true rfl⟩ ⟨rfl, rfl⟩  (Nat.le_of_ble_eq_true rfl) (S_X10_at (by with_reducible assumption) (by first | decide | (unfold vp_in; decide) | exact Or.inl rfl | exact Or.inr rfl)) ?_
        refine r_ireturn e_X7_shown_78 rfl ⟨rfl, rfl⟩ ?_
        (refine ⟨?_, rfl, ?_⟩ <;> ((try unfold V_X7_shown); (try simp only [if_neg hs1_1, if_neg hs1_2, if_pos hs1_3]); (try rfl)))
      · by_cases hs1_4 : x1 = 4
        · refine r_tabIn (tgt := 68) (off := 67) e_X7_shown_1 (by rw [hs1_4]; decide) (by rw [hs1_4]; decide) (by rw [hs1_4]; rfl) (by decide) ?_
          refine r_aload_n e_X7_shown_68 rfl ?_
          refine r_getR e_X7_shown_69 fl_X7_22 (by with_reducible assumption) (by with_reducible assumption) ?_
          refine r_iload_n e_X7_shown_72 rfl ?_
          refine r_iconst e_X7_shown_73 ic_3 ?_
          refine r_isub e_X7_shown_74 ?_
          refine cSN2v e_X7_shown_75 cl_X7_35 ⟨Nat.le_of_ble_eq_true rfl, Nat.le_of_ble_eq_true rfl⟩ ⟨rfl, rfl⟩  (Nat.le_of_ble_eq_true rfl) (S_X10_at (by with_reducible assumption) (by first | decide | (unfold vp_in; decide) | exact Or.inl rfl | exact Or.inr rfl)) ?_
          refine r_ireturn e_X7_shown_78 rfl ⟨rfl, rfl⟩ ?_
          (refine ⟨?_, rfl, ?_⟩ <;> ((try unfold V_X7_shown); (try simp only [if_neg hs1_1, if_neg hs1_2, if_neg hs1_3, if_pos hs1_4]); (try rfl)))
        · by_cases hs1_5 : x1 = 5
          · refine r_tabIn (tgt := 68) (off := 67) e_X7_shown_1 (by rw [hs1_5]; decide) (by rw [hs1_5]; decide) (by rw [hs1_5]; rfl) (by decide) ?_
            refine r_aload_n e_X7_shown_68 rfl ?_
            refine r_getR e_X7_shown_69 fl_X7_22 (by with_reducible assumption) (by with_reducible assumption) ?_
            refine r_iload_n e_X7_shown_72 rfl ?_
            refine r_iconst e_X7_shown_73 ic_3 ?_
            refine r_isub e_X7_shown_74 ?_
            refine cSN2v e_X7_shown_75 cl_X7_35 ⟨Nat.le_of_ble_eq_true rfl, Nat.le_of_ble_eq_true rfl⟩ ⟨rfl, rfl⟩  (Nat.le_of_ble_eq_true rfl) (S_X10_at (by with_reducible assumption) (by first | decide | (unfold vp_in; decide) | exact Or.inl rfl | exact Or.inr rfl)) ?_
            refine r_ireturn e_X7_shown_78 rfl ⟨rfl, rfl⟩ ?_
            (refine ⟨?_, rfl, ?_⟩ <;> ((try unfold V_X7_shown); (try simp only [if_neg hs1_1, if_neg hs1_2, if_neg hs1_3, if_neg hs1_4, if_pos hs1_5]); (try rfl)))
          · by_cases hs1_6 : x1 = 6
            · refine r_tabIn (tgt := 68) (off := 67) e_X7_shown_1 (by rw [hs1_6]; decide) (by rw [hs1_6]; decide) (by rw [hs1_6]; rfl) (by decide) ?_
              refine r_aload_n e_X7_shown_68 rfl ?_
              refine r_getR e_X7_shown_69 fl_X7_22 (by with_reducible assumption) (by with_reducible assumption) ?_
              refine r_iload_n e_X7_shown_72 rfl ?_
              refine r_iconst e_X7_shown_73 ic_3 ?_
              refine r_isub e_X7_shown_74 ?_
              refine cSN2v e_X7_shown_75 cl_X7_35 ⟨Nat.le_of_ble_eq_true rfl, Nat.le_of_ble_eq_true rfl⟩ ⟨rfl, rfl⟩  (Nat.le_of_ble_eq_true rfl) (S_X10_at (by with_reducible assumption) (by first | decide | (unfold vp_in; decide) | exact Or.inl rfl | exact Or.inr rfl)) ?_
              refine r_ireturn e_X7_shown_78 rfl ⟨rfl, rfl⟩ ?_
              (refine ⟨?_, rfl, ?_⟩ <;> ((try unfold V_X7_shown); (try simp only [if_neg hs1_1, if_neg hs1_2, if_neg hs1_3, if_neg hs1_4, if_neg hs1_5, if_pos hs1_6]); (try rfl)))
            · by_cases hs1_7 : x1 = 7
              · refine r_tabIn (tgt := 58) (off := 57) e_X7_shown_1 (by rw [hs1_7]; decide) (by rw [hs1_7]; decide) (by rw [hs1_7]; rfl) (by decide) ?_
                refine r_aload_n e_X7_shown_58 rfl ?_
                refine r_getI e_X7_shown_59 fl_X7_16 i0 (by with_reducible assumption) ?_
                refine r_ireturn e_X7_shown_62 rfl ⟨rfl, rfl⟩ ?_
                (refine ⟨?_, rfl, ?_⟩ <;> ((try unfold V_X7_shown); (try simp only [if_neg hs1_1, if_neg hs1_2, if_neg hs1_3, if_neg hs1_4, if_neg hs1_5, if_neg hs1_6, if_pos hs1_7]); (try rfl)))
              · by_cases hs1_8 : x1 = 8
                · refine r_tabIn (tgt := 63) (off := 62) e_X7_shown_1 (by rw [hs1_8]; decide) (by rw [hs1_8]; decide) (by rw [hs1_8]; rfl) (by decide) ?_
                  refine r_aload_n e_X7_shown_63 rfl ?_
                  refine r_getI e_X7_shown_64 fl_X7_19 i0 (by with_reducible assumption) ?_
                  refine r_ireturn e_X7_shown_67 rfl ⟨rfl, rfl⟩ ?_
                  (refine ⟨?_, rfl, ?_⟩ <;> ((try unfold V_X7_shown); (try simp only [if_neg hs1_1, if_neg hs1_2, if_neg hs1_3, if_neg hs1_4, if_neg hs1_5, if_neg hs1_6, if_neg hs1_7, if_pos hs1_8]); (try rfl)))
                · refine r_tabOut (tgt := 68) e_X7_shown_1 (by have q0 := lv_neT hs1_1 (show (1 : Int32).toInt = 1 from rfl); have q1 := lv_neT hs1_2 (show (2 : Int32).toInt = 2 from rfl); have q2 := lv_neT hs1_3 (show (3 : Int32).toInt = 3 from rfl); have q3 := lv_neT hs1_4 (show (4 : Int32).toInt = 4 from rfl); have q4 := lv_neT hs1_5 (show (5 : Int32).toInt = 5 from rfl); have q5 := lv_neT hs1_6 (show (6 : Int32).toInt = 6 from rfl); have q6 := lv_neT hs1_7 (show (7 : Int32).toInt = 7 from rfl); have q7 := lv_neT hs1_8 (show (8 : Int32).toInt = 8 from rfl); omega) (by decide) ?_
                  refine r_aload_n e_X7_shown_68 rfl ?_
                  refine r_getR e_X7_shown_69 fl_X7_22 (by with_reducible assumption) (by with_reducible assumption) ?_
                  refine r_iload_n e_X7_shown_72 rfl ?_
                  refine r_iconst e_X7_shown_73 ic_3 ?_
                  refine r_isub e_X7_shown_74 ?_
                  refine cSN2v e_X7_shown_75 cl_X7_35 ⟨Nat.le_of_ble_eq_true rfl, Nat.le_of_ble_eq_true rfl⟩ ⟨rfl, rfl⟩  (Nat.le_of_ble_eq_true rfl) (S_X10_at (by with_reducible assumption) (by first | decide | (unfold vp_in; decide) | exact Or.inl rfl | exact Or.inr rfl)) ?_
                  refine r_ireturn e_X7_shown_78 rfl ⟨rfl, rfl⟩ ?_
                  (refine ⟨?_, rfl, ?_⟩ <;> ((try unfold V_X7_shown); (try simp only [if_neg hs1_1, if_neg hs1_2, if_neg hs1_3, if_neg hs1_4, if_neg hs1_5, if_neg hs1_6, if_neg hs1_7, if_neg hs1_8]); (try rfl)))
def V_X7_listed (a : Nat) (M : Mem) : Int32 := (if ((M.1 a 0) + (M.1 a 1)) < (20 : Int32) then ((M.1 a 0) + (M.1 a 1)) else (20 : Int32))
theorem S_X7_listed {sh : List SC} {M : Mem} {a : Nat}  (g1 : kd sh a = some (7 + 7, 0)) : Gv m_X7_listed [.ref a] sh M (.int (V_X7_listed a M)) M := by
  refine Sp.of (ls := [some (.ref a)]) (by decide +kernel) (Nat.le_of_ble_eq_true rfl) rfl ?_
  refine r_bipush e_X7_listed_0 bp_20 ?_
  refine r_aload_n e_X7_listed_2 rfl ?_
  refine r_getI e_X7_listed_3 fl_X7_7 i0 (by with_reducible assumption) ?_
  refine r_aload_n e_X7_listed_6 rfl ?_
  refine r_getI e_X7_listed_7 fl_X7_13 i0 (by with_reducible assumption) ?_
  refine r_iadd e_X7_listed_10 ?_
  refine r_mmin e_X7_listed_11 cl_X7_29 ⟨Nat.le_of_ble_eq_true rfl, Nat.le_of_ble_eq_true rfl, Nat.zero_le _, Nat.zero_le _⟩ (Nat.le_of_ble_eq_true rfl) ?_
  refine r_ireturn e_X7_listed_14 rfl ⟨rfl, rfl⟩ ?_
  (refine ⟨?_, rfl, ?_⟩ <;> ((try unfold V_X7_listed); (try simp only []); (try rfl)))
def V_X7_goalAt (a : Nat) (x1 : Int32) (q1 : Nat) (M : Mem) : Int32 := (V_X10_at q1 x1 20 M)
theorem S_X7_goalAt {sh : List SC} {M : Mem} {a : Nat} {x1 : Int32} {q1 : Nat} (g1 : kd sh a = some (7 + 7, 0)) (g2 : rf sh a 5 = some q1) (g3 : kd sh q1 = some (0, 20)) : Gv m_X7_goalAt [.ref a, .int x1] sh M (.int (V_X7_goalAt a x1 q1 M)) M := by
  refine Sp.of (ls := [some (.ref a), some (.int x1)]) (by decide +kernel) (Nat.le_of_ble_eq_true rfl) rfl ?_
  refine r_aload_n e_X7_goalAt_0 rfl ?_
  refine r_getR e_X7_goalAt_1 fl_X7_26 (by with_reducible assumption) (by with_reducible assumption) ?_
  refine r_iload_n e_X7_goalAt_4 rfl ?_
  refine cSN2v e_X7_goalAt_5 cl_X7_35 ⟨Nat.le_of_ble_eq_true rfl, Nat.le_of_ble_eq_true rfl⟩ ⟨rfl, rfl⟩  (Nat.le_of_ble_eq_true rfl) (S_X10_at (by with_reducible assumption) (by first | decide | (unfold vp_in; decide) | exact Or.inl rfl | exact Or.inr rfl)) ?_
  refine r_ireturn e_X7_goalAt_8 rfl ⟨rfl, rfl⟩ ?_
  (refine ⟨?_, rfl, ?_⟩ <;> ((try unfold V_X7_goalAt); (try simp only []); (try rfl)))
def V_X10_isPlace (x1 : Int32) (M : Mem) : Int32 := (let v0_0 : Int32 := if x1 < 0 then (0 : Int32) else (if (2 : Int32) ≤ x1 then (0 : Int32) else (1 : Int32)); v0_0)
theorem Z_X10_isPlace {M : Mem} {x1 : Int32}   : V_X10_isPlace x1 M = 0 ∨ V_X10_isPlace x1 M = 1 := (zi (Or.inl rfl) (zi (Or.inl rfl) (Or.inr rfl)))
theorem S_X10_isPlace {sh : List SC} {M : Mem} {x1 : Int32}   : Gv m_X10_isPlace [.int x1] sh M (.int (V_X10_isPlace x1 M)) M := by
  refine Sp.of (ls := [some (.int x1)]) (by decide +kernel) (Nat.le_of_ble_eq_true rfl) rfl ?_
  refine r_iload_n e_X10_isPlace_0 rfl ?_
  obtain ⟨v0_0, e_v0_0⟩ : ∃ z : Int32, z = (if x1 < 0 then (0 : Int32) else (if (2 : Int32) ≤ x1 then (0 : Int32) else (1 : Int32))) := ⟨_, rfl⟩
  have z_v0_0 : v0_0 = 0 ∨ v0_0 = 1 := by rw [e_v0_0]; exact (zi (Or.inl rfl) (zi (Or.inl rfl) (Or.inr rfl)))
  suffices j14_0 : WP m_X10_isPlace (fun r sh' M'' => r = some (.int (V_X10_isPlace x1 M)) ∧ sh' = sh ∧ M'' = M) 14 [some (.int x1)] [.int v0_0] sh M 0 0 by
    refine r_if_lt e_X10_isPlace_1 (fun h1_0 => ?_) (fun h1_0 => ?_)
    · refine r_iconst e_X10_isPlace_13 ic_0 ?_
      rw [show v0_0 = (0 : Int32) from (e_v0_0.trans (if_pos h1_0))] at j14_0; exact j14_0
    · refine r_iload_n e_X10_isPlace_4 rfl ?_
      refine r_iconst e_X10_isPlace_5 ic_2 ?_
      refine r_icmp_ge e_X10_isPlace_6 (fun h6_1 => ?_) (fun h6_1 => ?_)
      · refine r_iconst e_X10_isPlace_13 ic_0 ?_
        rw [show v0_0 = (0 : Int32) from ((e_v0_0.trans (if_neg h1_0)).trans (if_pos h6_1))] at j14_0; exact j14_0
      · refine r_iconst e_X10_isPlace_9 ic_1 ?_
        refine r_goto e_X10_isPlace_10 ?_
        rw [show v0_0 = (1 : Int32) from ((e_v0_0.trans (if_neg h1_0)).trans (if_neg h6_1))] at j14_0; exact j14_0
  refine r_zreturn e_X10_isPlace_14 rfl ⟨rfl, rfl⟩ z_v0_0 ?_
  (subst e_v0_0; refine ⟨?_, rfl, ?_⟩ <;> ((try unfold V_X10_isPlace); (try simp only []); (try rfl)))
def V_X1_has (a : Nat) (x1 : Int32) (M : Mem) : Int32 := (let v0_0 : Int32 := if x1 < 0 then (0 : Int32) else (if (4 : Int32) ≤ x1 then (0 : Int32) else (if (((M.1 a 0) >>> (x1 &&& 31)) &&& (1 : Int32)) = (1 : Int32) then (1 : Int32) else (0 : Int32))); v0_0)
theorem Z_X1_has {M : Mem} {a : Nat} {x1 : Int32}   : V_X1_has a x1 M = 0 ∨ V_X1_has a x1 M = 1 := (zi (Or.inl rfl) (zi (Or.inl rfl) (zi (Or.inr rfl) (Or.inl rfl))))
theorem S_X1_has {sh : List SC} {M : Mem} {a : Nat} {x1 : Int32}  (g1 : kd sh a = some (1 + 7, 0)) : Gv m_X1_has [.ref a, .int x1] sh M (.int (V_X1_has a x1 M)) M := by
  refine Sp.of (ls := [some (.ref a), some (.int x1)]) (by decide +kernel) (Nat.le_of_ble_eq_true rfl) rfl ?_
  refine r_iload_n e_X1_has_0 rfl ?_
  obtain ⟨v0_0, e_v0_0⟩ : ∃ z : Int32, z = (if x1 < 0 then (0 : Int32) else (if (4 : Int32) ≤ x1 then (0 : Int32) else (if (((M.1 a 0) >>> (x1 &&& 31)) &&& (1 : Int32)) = (1 : Int32) then (1 : Int32) else (0 : Int32)))) := ⟨_, rfl⟩
  have z_v0_0 : v0_0 = 0 ∨ v0_0 = 1 := by rw [e_v0_0]; exact (zi (Or.inl rfl) (zi (Or.inl rfl) (zi (Or.inr rfl) (Or.inl rfl))))
  suffices j26_0 : WP m_X1_has (fun r sh' M'' => r = some (.int (V_X1_has a x1 M)) ∧ sh' = sh ∧ M'' = M) 26 [some (.ref a), some (.int x1)] [.int v0_0] sh M 0 0 by
    refine r_if_lt e_X1_has_1 (fun h1_0 => ?_) (fun h1_0 => ?_)
    · refine r_iconst e_X1_has_25 ic_0 ?_
      rw [show v0_0 = (0 : Int32) from (e_v0_0.trans (if_pos h1_0))] at j26_0; exact j26_0
    · refine r_iload_n e_X1_has_4 rfl ?_
      refine r_iconst e_X1_has_5 ic_4 ?_
      refine r_icmp_ge e_X1_has_6 (fun h6_1 => ?_) (fun h6_1 => ?_)
      · refine r_iconst e_X1_has_25 ic_0 ?_
        rw [show v0_0 = (0 : Int32) from ((e_v0_0.trans (if_neg h1_0)).trans (if_pos h6_1))] at j26_0; exact j26_0
      · refine r_aload_n e_X1_has_9 rfl ?_
        refine r_getI e_X1_has_10 fl_X1_9 i0 (by with_reducible assumption) ?_
        refine r_iload_n e_X1_has_13 rfl ?_
        refine r_ishr e_X1_has_14 ?_
        refine r_iconst e_X1_has_15 ic_1 ?_
        refine r_iand e_X1_has_16 ?_
        refine r_iconst e_X1_has_17 ic_1 ?_
        refine r_icmp_ne e_X1_has_18 (fun h18_2 => ?_) (fun h18_2 => ?_)
        · refine r_iconst e_X1_has_25 ic_0 ?_
          rw [show v0_0 = (0 : Int32) from (((e_v0_0.trans (if_neg h1_0)).trans (if_neg h6_1)).trans (if_neg h18_2))] at j26_0; exact j26_0
        · refine r_iconst e_X1_has_21 ic_1 ?_
          refine r_goto e_X1_has_22 ?_
          rw [show v0_0 = (1 : Int32) from (((e_v0_0.trans (if_neg h1_0)).trans (if_neg h6_1)).trans (if_pos h18_2))] at j26_0; exact j26_0
  refine r_zreturn e_X1_has_26 rfl ⟨rfl, rfl⟩ z_v0_0 ?_
  (subst e_v0_0; refine ⟨?_, rfl, ?_⟩ <;> ((try unfold V_X1_has); (try simp only []); (try rfl)))
def U_X1_enterFor (a : Nat) (x1 : Int32) (x2 : Int32) (x3 : Int32) (q1 : Nat) (q2 : Nat) (q3 : Nat) (M : Mem) : Mem := (let v0_0 : Int32 := if x2 ≤ x3 then (if x2 = x3 then (1 : Int32) else (0 : Int32)) else (3 : Int32); U_X10_put q3 x1 ((V_X10_at q3 x1 4 (U_X10_put q2 x1 ((V_X10_at q2 x1 4 (U_X10_put q1 x1 ((V_X10_at q1 x1 4 M) + v0_0) 4 M)) + x2) 4 (U_X10_put q1 x1 ((V_X10_at q1 x1 4 M) + v0_0) 4 M))) + x3) 4 (U_X10_put q2 x1 ((V_X10_at q2 x1 4 (U_X10_put q1 x1 ((V_X10_at q1 x1 4 M) + v0_0) 4 M)) + x2) 4 (U_X10_put q1 x1 ((V_X10_at q1 x1 4 M) + v0_0) 4 M)))
theorem S_X1_enterFor {sh : List SC} {M : Mem} {a : Nat} {x1 : Int32} {x2 : Int32} {x3 : Int32} {q1 : Nat} {q2 : Nat} {q3 : Nat} (g1 : kd sh a = some (1 + 7, 0)) (g2 : rf sh a 1 = some q1) (g3 : kd sh q1 = some (0, 4)) (g4 : rf sh a 2 = some q2) (g5 : kd sh q2 = some (0, 4)) (g6 : rf sh a 3 = some q3) (g7 : kd sh q3 = some (0, 4)) : Gu m_X1_enterFor [.ref a, .int x1, .int x2, .int x3] sh M (U_X1_enterFor a x1 x2 x3 q1 q2 q3 M) := by
  refine Sp.of (ls := [some (.ref a), some (.int x1), some (.int x2), some (.int x3), none]) (by decide +kernel) (Nat.le_of_ble_eq_true rfl) rfl ?_
  refine r_iload_n e_X1_enterFor_0 rfl ?_
  refine r_iload_n e_X1_enterFor_1 rfl ?_
  obtain ⟨v0_0, e_v0_0⟩ : ∃ z : Int32, z = (if x2 ≤ x3 then (if x2 = x3 then (1 : Int32) else (0 : Int32)) else (3 : Int32)) := ⟨_, rfl⟩
  suffices j19_0 : WP m_X1_enterFor (fun r sh' M'' => r = none ∧ sh' = sh ∧ M'' = (U_X1_enterFor a x1 x2 x3 q1 q2 q3 M)) 19 [some (.ref a), some (.int x1), some (.int x2), some (.int x3), none] [.int v0_0] sh M 0 0 by
    refine r_icmp_le e_X1_enterFor_2 (fun h2_0 => ?_) (fun h2_0 => ?_)
    · refine r_iload_n e_X1_enterFor_9 rfl ?_
      refine r_iload_n e_X1_enterFor_10 rfl ?_
      refine r_icmp_ne e_X1_enterFor_11 (fun h11_1 => ?_) (fun h11_1 => ?_)
      · refine r_iconst e_X1_enterFor_18 ic_0 ?_
        rw [show v0_0 = (0 : Int32) from ((e_v0_0.trans (if_pos h2_0)).trans (if_neg h11_1))] at j19_0; exact j19_0
      · refine r_iconst e_X1_enterFor_14 ic_1 ?_
        refine r_goto e_X1_enterFor_15 ?_
        rw [show v0_0 = (1 : Int32) from ((e_v0_0.trans (if_pos h2_0)).trans (if_pos h11_1))] at j19_0; exact j19_0
    · refine r_iconst e_X1_enterFor_5 ic_3 ?_
      refine r_goto e_X1_enterFor_6 ?_
      rw [show v0_0 = (3 : Int32) from (e_v0_0.trans (if_neg h2_0))] at j19_0; exact j19_0
  refine p_istore_5_4 e_X1_enterFor_19 rfl rfl ?_
  refine r_aload_n e_X1_enterFor_21 rfl ?_
  refine r_getR e_X1_enterFor_22 fl_X1_15 (by with_reducible assumption) (by with_reducible assumption) ?_
  refine r_iload_n e_X1_enterFor_25 rfl ?_
  refine r_aload_n e_X1_enterFor_26 rfl ?_
  refine r_getR e_X1_enterFor_27 fl_X1_15 (by with_reducible assumption) (by with_reducible assumption) ?_
  refine r_iload_n e_X1_enterFor_30 rfl ?_
  refine cSN2v e_X1_enterFor_31 cl_X1_33 ⟨Nat.le_of_ble_eq_true rfl, Nat.le_of_ble_eq_true rfl⟩ ⟨rfl, rfl⟩  (Nat.le_of_ble_eq_true rfl) (S_X10_at (by with_reducible assumption) (by first | decide | (unfold vp_in; decide) | exact Or.inl rfl | exact Or.inr rfl)) ?_
  refine r_iload e_X1_enterFor_34 rfl ?_
  refine r_iadd e_X1_enterFor_36 ?_
  refine cSN3u e_X1_enterFor_37 cl_X1_25 ⟨Nat.le_of_ble_eq_true rfl, Nat.le_of_ble_eq_true rfl⟩ ⟨rfl, rfl⟩  (Nat.le_of_ble_eq_true rfl) (S_X10_put (by with_reducible assumption) (by first | decide | (unfold vp_in; decide) | exact Or.inl rfl | exact Or.inr rfl)) ?_
  refine r_aload_n e_X1_enterFor_40 rfl ?_
  refine r_getR e_X1_enterFor_41 fl_X1_19 (by with_reducible assumption) (by with_reducible assumption) ?_
  refine r_iload_n e_X1_enterFor_44 rfl ?_
  refine r_aload_n e_X1_enterFor_45 rfl ?_
  refine r_getR e_X1_enterFor_46 fl_X1_19 (by with_reducible assumption) (by with_reducible assumption) ?_
  refine r_iload_n e_X1_enterFor_49 rfl ?_
  refine cSN2v e_X1_enterFor_50 cl_X1_33 ⟨Nat.le_of_ble_eq_true rfl, Nat.le_of_ble_eq_true rfl⟩ ⟨rfl, rfl⟩  (Nat.le_of_ble_eq_true rfl) (S_X10_at (by with_reducible assumption) (by first | decide | (unfold vp_in; decide) | exact Or.inl rfl | exact Or.inr rfl)) ?_
  refine r_iload_n e_X1_enterFor_53 rfl ?_
  refine r_iadd e_X1_enterFor_54 ?_
  refine cSN3u e_X1_enterFor_55 cl_X1_25 ⟨Nat.le_of_ble_eq_true rfl, Nat.le_of_ble_eq_true rfl⟩ ⟨rfl, rfl⟩  (Nat.le_of_ble_eq_true rfl) (S_X10_put (by with_reducible assumption) (by first | decide | (unfold vp_in; decide) | exact Or.inl rfl | exact Or.inr rfl)) ?_
  refine r_aload_n e_X1_enterFor_58 rfl ?_
  refine r_getR e_X1_enterFor_59 fl_X1_22 (by with_reducible assumption) (by with_reducible assumption) ?_
  refine r_iload_n e_X1_enterFor_62 rfl ?_
  refine r_aload_n e_X1_enterFor_63 rfl ?_
  refine r_getR e_X1_enterFor_64 fl_X1_22 (by with_reducible assumption) (by with_reducible assumption) ?_
  refine r_iload_n e_X1_enterFor_67 rfl ?_
  refine cSN2v e_X1_enterFor_68 cl_X1_33 ⟨Nat.le_of_ble_eq_true rfl, Nat.le_of_ble_eq_true rfl⟩ ⟨rfl, rfl⟩  (Nat.le_of_ble_eq_true rfl) (S_X10_at (by with_reducible assumption) (by first | decide | (unfold vp_in; decide) | exact Or.inl rfl | exact Or.inr rfl)) ?_
  refine r_iload_n e_X1_enterFor_71 rfl ?_
  refine r_iadd e_X1_enterFor_72 ?_
  refine cSN3u e_X1_enterFor_73 cl_X1_25 ⟨Nat.le_of_ble_eq_true rfl, Nat.le_of_ble_eq_true rfl⟩ ⟨rfl, rfl⟩  (Nat.le_of_ble_eq_true rfl) (S_X10_put (by with_reducible assumption) (by first | decide | (unfold vp_in; decide) | exact Or.inl rfl | exact Or.inr rfl)) ?_
  refine r_return e_X1_enterFor_76 rfl ⟨rfl, rfl⟩ ?_
  (subst e_v0_0; refine ⟨?_, rfl, ?_⟩ <;> ((try unfold U_X1_enterFor); (try simp only []); (try rfl)))
def V_X1_shown (a : Nat) (x1 : Int32) (x2 : Int32) (q1 : Nat) (q2 : Nat) (q3 : Nat) (M : Mem) : Int32 := if x2 = 0 then (V_X10_at q3 x1 4 M) else (if x2 = (1 : Int32) then (V_X10_at q2 x1 4 M) else (V_X10_at q1 x1 4 M))
theorem S_X1_shown {sh : List SC} {M : Mem} {a : Nat} {x1 : Int32} {x2 : Int32} {q1 : Nat} {q2 : Nat} {q3 : Nat} (g1 : kd sh a = some (1 + 7, 0)) (g2 : rf sh a 3 = some q1) (g3 : kd sh q1 = some (0, 4)) (g4 : rf sh a 2 = some q2) (g5 : kd sh q2 = some (0, 4)) (g6 : rf sh a 1 = some q3) (g7 : kd sh q3 = some (0, 4)) : Gv m_X1_shown [.ref a, .int x1, .int x2] sh M (.int (V_X1_shown a x1 x2 q1 q2 q3 M)) M := by
  refine Sp.of (ls := [some (.ref a), some (.int x1), some (.int x2)]) (by decide +kernel) (Nat.le_of_ble_eq_true rfl) rfl ?_
  refine r_iload_n e_X1_shown_0 rfl ?_
  refine r_if_ne e_X1_shown_1 (fun h1_0 => ?_) (fun h1_0 => ?_)
  · refine r_iload_n e_X1_shown_11 rfl ?_
    refine r_iconst e_X1_shown_12 ic_1 ?_
    refine r_icmp_ne e_X1_shown_13 (fun h13_1 => ?_) (fun h13_1 => ?_)
    · refine r_aload_n e_X1_shown_23 rfl ?_
      refine r_getR e_X1_shown_24 fl_X1_22 (by with_reducible assumption) (by with_reducible assumption) ?_
      refine r_iload_n e_X1_shown_27 rfl ?_
      refine cSN2v e_X1_shown_28 cl_X1_33 ⟨Nat.le_of_ble_eq_true rfl, Nat.le_of_ble_eq_true rfl⟩ ⟨rfl, rfl⟩  (Nat.le_of_ble_eq_true rfl) (S_X10_at (by with_reducible assumption) (by first | decide | (unfold vp_in; decide) | exact Or.inl rfl | exact Or.inr rfl)) ?_
      refine r_ireturn e_X1_shown_31 rfl ⟨rfl, rfl⟩ ?_
      (refine ⟨?_, rfl, ?_⟩ <;> ((try unfold V_X1_shown); (try simp only [if_neg h1_0, if_neg h13_1]); (try rfl)))
    · refine r_aload_n e_X1_shown_16 rfl ?_
      refine r_getR e_X1_shown_17 fl_X1_19 (by with_reducible assumption) (by with_reducible assumption) ?_
      refine r_goto e_X1_shown_20 ?_
      refine r_iload_n e_X1_shown_27 rfl ?_
      refine cSN2v e_X1_shown_28 cl_X1_33 ⟨Nat.le_of_ble_eq_true rfl, Nat.le_of_ble_eq_true rfl⟩ ⟨rfl, rfl⟩  (Nat.le_of_ble_eq_true rfl) (S_X10_at (by with_reducible assumption) (by first | decide | (unfold vp_in; decide) | exact Or.inl rfl | exact Or.inr rfl)) ?_
      refine r_ireturn e_X1_shown_31 rfl ⟨rfl, rfl⟩ ?_
      (refine ⟨?_, rfl, ?_⟩ <;> ((try unfold V_X1_shown); (try simp only [if_neg h1_0, if_pos h13_1]); (try rfl)))
  · refine r_aload_n e_X1_shown_4 rfl ?_
    refine r_getR e_X1_shown_5 fl_X1_15 (by with_reducible assumption) (by with_reducible assumption) ?_
    refine r_goto e_X1_shown_8 ?_
    refine r_iload_n e_X1_shown_27 rfl ?_
    refine cSN2v e_X1_shown_28 cl_X1_33 ⟨Nat.le_of_ble_eq_true rfl, Nat.le_of_ble_eq_true rfl⟩ ⟨rfl, rfl⟩  (Nat.le_of_ble_eq_true rfl) (S_X10_at (by with_reducible assumption) (by first | decide | (unfold vp_in; decide) | exact Or.inl rfl | exact Or.inr rfl)) ?_
    refine r_ireturn e_X1_shown_31 rfl ⟨rfl, rfl⟩ ?_
    (refine ⟨?_, rfl, ?_⟩ <;> ((try unfold V_X1_shown); (try simp only [if_pos h1_0]); (try rfl)))
def V_X1_isAhead (a : Nat) (x1 : Int32) (x2 : Int32) (q1 : Nat) (q2 : Nat) (q3 : Nat) (M : Mem) : Int32 := if ((V_X10_at q1 x1 4 M) - (V_X10_at q1 x2 4 M)) = 0 then (if ((((V_X10_at q2 x1 4 M) - (V_X10_at q2 x2 4 M)) - (V_X10_at q3 x1 4 M)) + (V_X10_at q3 x2 4 M)) = 0 then (let v2_0 : Int32 := if ((V_X10_at q2 x1 4 M) - (V_X10_at q2 x2 4 M)) = 0 then (if x2 ≤ x1 then (0 : Int32) else (1 : Int32)) else (if ((V_X10_at q2 x1 4 M) - (V_X10_at q2 x2 4 M)) ≤ 0 then (0 : Int32) else (1 : Int32)); v2_0) else (let v5_0 : Int32 := if ((((V_X10_at q2 x1 4 M) - (V_X10_at q2 x2 4 M)) - (V_X10_at q3 x1 4 M)) + (V_X10_at q3 x2 4 M)) ≤ 0 then (0 : Int32) else (1 : Int32); v5_0)) else (let v6_0 : Int32 := if ((V_X10_at q1 x1 4 M) - (V_X10_at q1 x2 4 M)) ≤ 0 then (0 : Int32) else (1 : Int32); v6_0)
theorem Z_X1_isAhead {M : Mem} {a : Nat} {x1 : Int32} {x2 : Int32} {q1 : Nat} {q2 : Nat} {q3 : Nat}  : V_X1_isAhead a x1 x2 q1 q2 q3 M = 0 ∨ V_X1_isAhead a x1 x2 q1 q2 q3 M = 1 := (zi (zi (zi (zi (Or.inl rfl) (Or.inr rfl)) (zi (Or.inl rfl) (Or.inr rfl))) (zi (Or.inl rfl) (Or.inr rfl))) (zi (Or.inl rfl) (Or.inr rfl)))
theorem S_X1_isAhead {sh : List SC} {M : Mem} {a : Nat} {x1 : Int32} {x2 : Int32} {q1 : Nat} {q2 : Nat} {q3 : Nat} (g1 : kd sh a = some (1 + 7, 0)) (g2 : rf sh a 1 = some q1) (g3 : kd sh q1 = some (0, 4)) (g4 : rf sh a 2 = some q2) (g5 : kd sh q2 = some (0, 4)) (g6 : rf sh a 3 = some q3) (g7 : kd sh q3 = some (0, 4)) : Gv m_X1_isAhead [.ref a, .int x1, .int x2] sh M (.int (V_X1_isAhead a x1 x2 q1 q2 q3 M)) M := by
  refine Sp.of (ls := [some (.ref a), some (.int x1), some (.int x2), none, none, none]) (by decide +kernel) (Nat.le_of_ble_eq_true rfl) rfl ?_
  refine r_aload_n e_X1_isAhead_0 rfl ?_
  refine r_getR e_X1_isAhead_1 fl_X1_15 (by with_reducible assumption) (by with_reducible assumption) ?_
  refine r_iload_n e_X1_isAhead_4 rfl ?_
  refine cSN2v e_X1_isAhead_5 cl_X1_33 ⟨Nat.le_of_ble_eq_true rfl, Nat.le_of_ble_eq_true rfl⟩ ⟨rfl, rfl⟩  (Nat.le_of_ble_eq_true rfl) (S_X10_at (by with_reducible assumption) (by first | decide | (unfold vp_in; decide) | exact Or.inl rfl | exact Or.inr rfl)) ?_
  refine r_aload_n e_X1_isAhead_8 rfl ?_
  refine r_getR e_X1_isAhead_9 fl_X1_15 (by with_reducible assumption) (by with_reducible assumption) ?_
  refine r_iload_n e_X1_isAhead_12 rfl ?_
  refine cSN2v e_X1_isAhead_13 cl_X1_33 ⟨Nat.le_of_ble_eq_true rfl, Nat.le_of_ble_eq_true rfl⟩ ⟨rfl, rfl⟩  (Nat.le_of_ble_eq_true rfl) (S_X10_at (by with_reducible assumption) (by first | decide | (unfold vp_in; decide) | exact Or.inl rfl | exact Or.inr rfl)) ?_
  refine r_isub e_X1_isAhead_16 ?_
  refine p_istore_n_6_3 e_X1_isAhead_17 rfl rfl ?_
  refine r_aload_n e_X1_isAhead_18 rfl ?_
  refine r_getR e_X1_isAhead_19 fl_X1_19 (by with_reducible assumption) (by with_reducible assumption) ?_
  refine r_iload_n e_X1_isAhead_22 rfl ?_
  refine cSN2v e_X1_isAhead_23 cl_X1_33 ⟨Nat.le_of_ble_eq_true rfl, Nat.le_of_ble_eq_true rfl⟩ ⟨rfl, rfl⟩  (Nat.le_of_ble_eq_true rfl) (S_X10_at (by with_reducible assumption) (by first | decide | (unfold vp_in; decide) | exact Or.inl rfl | exact Or.inr rfl)) ?_
  refine r_aload_n e_X1_isAhead_26 rfl ?_
  refine r_getR e_X1_isAhead_27 fl_X1_19 (by with_reducible assumption) (by with_reducible assumption) ?_
  refine r_iload_n e_X1_isAhead_30 rfl ?_
  refine cSN2v e_X1_isAhead_31 cl_X1_33 ⟨Nat.le_of_ble_eq_true rfl, Nat.le_of_ble_eq_true rfl⟩ ⟨rfl, rfl⟩  (Nat.le_of_ble_eq_true rfl) (S_X10_at (by with_reducible assumption) (by first | decide | (unfold vp_in; decide) | exact Or.inl rfl | exact Or.inr rfl)) ?_
  refine r_isub e_X1_isAhead_34 ?_
  refine p_istore_6_4 e_X1_isAhead_35 rfl rfl ?_
  refine r_iload e_X1_isAhead_37 rfl ?_
  refine r_aload_n e_X1_isAhead_39 rfl ?_
  refine r_getR e_X1_isAhead_40 fl_X1_22 (by with_reducible assumption) (by with_reducible assumption) ?_
  refine r_iload_n e_X1_isAhead_43 rfl ?_
  refine cSN2v e_X1_isAhead_44 cl_X1_33 ⟨Nat.le_of_ble_eq_true rfl, Nat.le_of_ble_eq_true rfl⟩ ⟨rfl, rfl⟩  (Nat.le_of_ble_eq_true rfl) (S_X10_at (by with_reducible assumption) (by first | decide | (unfold vp_in; decide) | exact Or.inl rfl | exact Or.inr rfl)) ?_
  refine r_isub e_X1_isAhead_47 ?_
  refine r_aload_n e_X1_isAhead_48 rfl ?_
  refine r_getR e_X1_isAhead_49 fl_X1_22 (by with_reducible assumption) (by with_reducible assumption) ?_
  refine r_iload_n e_X1_isAhead_52 rfl ?_
  refine cSN2v e_X1_isAhead_53 cl_X1_33 ⟨Nat.le_of_ble_eq_true rfl, Nat.le_of_ble_eq_true rfl⟩ ⟨rfl, rfl⟩  (Nat.le_of_ble_eq_true rfl) (S_X10_at (by with_reducible assumption) (by first | decide | (unfold vp_in; decide) | exact Or.inl rfl | exact Or.inr rfl)) ?_
  refine r_iadd e_X1_isAhead_56 ?_
  refine p_istore_6_5 e_X1_isAhead_57 rfl rfl ?_
  refine r_iload_n e_X1_isAhead_59 rfl ?_
  refine r_if_eq e_X1_isAhead_60 (fun h60_0 => ?_) (fun h60_0 => ?_)
  · refine r_iload e_X1_isAhead_73 rfl ?_
    refine r_if_eq e_X1_isAhead_75 (fun h75_1 => ?_) (fun h75_1 => ?_)
    · refine r_iload e_X1_isAhead_89 rfl ?_
      obtain ⟨v2_0, e_v2_0⟩ : ∃ z : Int32, z = (if ((V_X10_at q2 x1 4 M) - (V_X10_at q2 x2 4 M)) = 0 then (if x2 ≤ x1 then (0 : Int32) else (1 : Int32)) else (if ((V_X10_at q2 x1 4 M) - (V_X10_at q2 x2 4 M)) ≤ 0 then (0 : Int32) else (1 : Int32))) := ⟨_, rfl⟩
      have z_v2_0 : v2_0 = 0 ∨ v2_0 = 1 := by rw [e_v2_0]; exact (zi (zi (Or.inl rfl) (Or.inr rfl)) (zi (Or.inl rfl) (Or.inr rfl)))
      suffices j117_2 : WP m_X1_isAhead (fun r sh' M'' => r = some (.int (V_X1_isAhead a x1 x2 q1 q2 q3 M)) ∧ sh' = sh ∧ M'' = M) 117 [some (.ref a), some (.int x1), some (.int x2), some (.int ((V_X10_at q1 x1 4 M) - (V_X10_at q1 x2 4 M))), some (.int ((V_X10_at q2 x1 4 M) - (V_X10_at q2 x2 4 M))), some (.int ((((V_X10_at q2 x1 4 M) - (V_X10_at q2 x2 4 M)) - (V_X10_at q3 x1 4 M)) + (V_X10_at q3 x2 4 M)))] [.int v2_0] sh M 0 0 by
        refine r_if_eq e_X1_isAhead_91 (fun h91_2 => ?_) (fun h91_2 => ?_)
        · refine r_iload_n e_X1_isAhead_107 rfl ?_
          refine r_iload_n e_X1_isAhead_108 rfl ?_
          refine r_icmp_ge e_X1_isAhead_109 (fun h109_3 => ?_) (fun h109_3 => ?_)
          · refine r_iconst e_X1_isAhead_116 ic_0 ?_
            rw [show v2_0 = (0 : Int32) from ((e_v2_0.trans (if_pos h91_2)).trans (if_pos h109_3))] at j117_2; exact j117_2
          · refine r_iconst e_X1_isAhead_112 ic_1 ?_
            refine r_goto e_X1_isAhead_113 ?_
            rw [show v2_0 = (1 : Int32) from ((e_v2_0.trans (if_pos h91_2)).trans (if_neg h109_3))] at j117_2; exact j117_2
        · refine r_iload e_X1_isAhead_94 rfl ?_
          refine r_if_le e_X1_isAhead_96 (fun h96_4 => ?_) (fun h96_4 => ?_)
          · refine r_iconst e_X1_isAhead_103 ic_0 ?_
            refine r_goto e_X1_isAhead_104 ?_
            rw [show v2_0 = (0 : Int32) from ((e_v2_0.trans (if_neg h91_2)).trans (if_pos h96_4))] at j117_2; exact j117_2
          · refine r_iconst e_X1_isAhead_99 ic_1 ?_
            refine r_goto e_X1_isAhead_100 ?_
            rw [show v2_0 = (1 : Int32) from ((e_v2_0.trans (if_neg h91_2)).trans (if_neg h96_4))] at j117_2; exact j117_2
      refine r_zreturn e_X1_isAhead_117 rfl ⟨rfl, rfl⟩ z_v2_0 ?_
      (subst e_v2_0; refine ⟨?_, rfl, ?_⟩ <;> ((try unfold V_X1_isAhead); (try simp only [if_pos h60_0, if_pos h75_1]); (try rfl)))
    · refine r_iload e_X1_isAhead_78 rfl ?_
      obtain ⟨v5_0, e_v5_0⟩ : ∃ z : Int32, z = (if ((((V_X10_at q2 x1 4 M) - (V_X10_at q2 x2 4 M)) - (V_X10_at q3 x1 4 M)) + (V_X10_at q3 x2 4 M)) ≤ 0 then (0 : Int32) else (1 : Int32)) := ⟨_, rfl⟩
      have z_v5_0 : v5_0 = 0 ∨ v5_0 = 1 := by rw [e_v5_0]; exact (zi (Or.inl rfl) (Or.inr rfl))
      suffices j88_5 : WP m_X1_isAhead (fun r sh' M'' => r = some (.int (V_X1_isAhead a x1 x2 q1 q2 q3 M)) ∧ sh' = sh ∧ M'' = M) 88 [some (.ref a), some (.int x1), some (.int x2), some (.int ((V_X10_at q1 x1 4 M) - (V_X10_at q1 x2 4 M))), some (.int ((V_X10_at q2 x1 4 M) - (V_X10_at q2 x2 4 M))), some (.int ((((V_X10_at q2 x1 4 M) - (V_X10_at q2 x2 4 M)) - (V_X10_at q3 x1 4 M)) + (V_X10_at q3 x2 4 M)))] [.int v5_0] sh M 0 0 by
        refine r_if_le e_X1_isAhead_80 (fun h80_5 => ?_) (fun h80_5 => ?_)
        · refine r_iconst e_X1_isAhead_87 ic_0 ?_
          rw [show v5_0 = (0 : Int32) from (e_v5_0.trans (if_pos h80_5))] at j88_5; exact j88_5
        · refine r_iconst e_X1_isAhead_83 ic_1 ?_
          refine r_goto e_X1_isAhead_84 ?_
          rw [show v5_0 = (1 : Int32) from (e_v5_0.trans (if_neg h80_5))] at j88_5; exact j88_5
      refine r_zreturn e_X1_isAhead_88 rfl ⟨rfl, rfl⟩ z_v5_0 ?_
      (subst e_v5_0; refine ⟨?_, rfl, ?_⟩ <;> ((try unfold V_X1_isAhead); (try simp only [if_pos h60_0, if_neg h75_1]); (try rfl)))
  · refine r_iload_n e_X1_isAhead_63 rfl ?_
    obtain ⟨v6_0, e_v6_0⟩ : ∃ z : Int32, z = (if ((V_X10_at q1 x1 4 M) - (V_X10_at q1 x2 4 M)) ≤ 0 then (0 : Int32) else (1 : Int32)) := ⟨_, rfl⟩
    have z_v6_0 : v6_0 = 0 ∨ v6_0 = 1 := by rw [e_v6_0]; exact (zi (Or.inl rfl) (Or.inr rfl))
    suffices j72_6 : WP m_X1_isAhead (fun r sh' M'' => r = some (.int (V_X1_isAhead a x1 x2 q1 q2 q3 M)) ∧ sh' = sh ∧ M'' = M) 72 [some (.ref a), some (.int x1), some (.int x2), some (.int ((V_X10_at q1 x1 4 M) - (V_X10_at q1 x2 4 M))), some (.int ((V_X10_at q2 x1 4 M) - (V_X10_at q2 x2 4 M))), some (.int ((((V_X10_at q2 x1 4 M) - (V_X10_at q2 x2 4 M)) - (V_X10_at q3 x1 4 M)) + (V_X10_at q3 x2 4 M)))] [.int v6_0] sh M 0 0 by
      refine r_if_le e_X1_isAhead_64 (fun h64_6 => ?_) (fun h64_6 => ?_)
      · refine r_iconst e_X1_isAhead_71 ic_0 ?_
        rw [show v6_0 = (0 : Int32) from (e_v6_0.trans (if_pos h64_6))] at j72_6; exact j72_6
      · refine r_iconst e_X1_isAhead_67 ic_1 ?_
        refine r_goto e_X1_isAhead_68 ?_
        rw [show v6_0 = (1 : Int32) from (e_v6_0.trans (if_neg h64_6))] at j72_6; exact j72_6
    refine r_zreturn e_X1_isAhead_72 rfl ⟨rfl, rfl⟩ z_v6_0 ?_
    (subst e_v6_0; refine ⟨?_, rfl, ?_⟩ <;> ((try unfold V_X1_isAhead); (try simp only [if_neg h60_0]); (try rfl)))
def V_X10_tell (a : Nat) (x1 : Int32) (q1 : Nat) (q2 : Nat) (M : Mem) : Int32 := if (M.1 a 9) < (20 : Int32) then ((M.1 a 9) + (1 : Int32)) else (V_X10_finding a (-1002 : Int32) q2 M)
def U_X10_tell (a : Nat) (x1 : Int32) (q1 : Nat) (q2 : Nat) (M : Mem) : Mem := if (M.1 a 9) < (20 : Int32) then (setI (setI M q1 (M.1 a 9).toNatClampNeg x1) a 9 ((M.1 a 9) + (1 : Int32))) else (U_X10_finding a (-1002 : Int32) q2 M)
theorem S_X10_tell {sh : List SC} {M : Mem} {a : Nat} {x1 : Int32} {q1 : Nat} {q2 : Nat} (g1 : kd sh a = some (9 + 7, 0)) (g2 : rf sh a 8 = some q1) (g3 : kd sh q1 = some (0, 20)) (g4 : ¬ (M.1 a 9) < 0) (g5 : rf sh a 0 = some q2) (g6 : kd sh q2 = some (0, 5)) : Gv m_X10_tell [.ref a, .int x1] sh M (.int (V_X10_tell a x1 q1 q2 M)) (U_X10_tell a x1 q1 q2 M) := by
  refine Sp.of (ls := [some (.ref a), some (.int x1)]) (by decide +kernel) (Nat.le_of_ble_eq_true rfl) rfl ?_
  refine r_aload_n e_X10_tell_0 rfl ?_
  refine r_getI e_X10_tell_1 fl_X10_48 i0 (by with_reducible assumption) ?_
  refine r_aload_n e_X10_tell_4 rfl ?_
  refine r_getR e_X10_tell_5 fl_X10_45 (by with_reducible assumption) (by with_reducible assumption) ?_
  refine r_alen (v := (20 : Int32)) e_X10_tell_8 (by with_reducible assumption) (by decide) rfl ?_
  refine r_icmp_lt e_X10_tell_9 (fun h9_0 => ?_) (fun h9_0 => ?_)
  · refine r_aload_n e_X10_tell_20 rfl ?_
    refine r_getR e_X10_tell_21 fl_X10_45 (by with_reducible assumption) (by with_reducible assumption) ?_
    refine r_aload_n e_X10_tell_24 rfl ?_
    refine r_getI e_X10_tell_25 fl_X10_48 i0 (by with_reducible assumption) ?_
    refine r_iload_n e_X10_tell_28 rfl ?_
    refine r_iastore e_X10_tell_29 (by with_reducible assumption) (vp_guard (by with_reducible assumption) (i_nle h9_0) (by decide)) ?_
    refine r_aload_n e_X10_tell_30 rfl ?_
    refine r_dup e_X10_tell_31 rfl ?_
    refine r_getIe e_X10_tell_32 fl_X10_48 i0 (by with_reducible assumption) (gs_aI (ne_kd (show kd sh a = some (9 + 7, 0) by with_reducible assumption) (show kd sh q1 = some (0, 20) by with_reducible assumption) (by decide))) ?_
    refine r_iconst e_X10_tell_35 ic_1 ?_
    refine r_iadd e_X10_tell_36 ?_
    refine r_putI e_X10_tell_37 fl_X10_48 (by with_reducible assumption) ?_
    refine r_aload_n e_X10_tell_40 rfl ?_
    refine r_getIe e_X10_tell_41 fl_X10_48 i0 (by with_reducible assumption) gs_eI ?_
    refine r_ireturn e_X10_tell_44 rfl ⟨rfl, rfl⟩ ?_
    (refine ⟨?_, rfl, ?_⟩ <;> ((try unfold V_X10_tell); (try unfold U_X10_tell); (try simp only [if_pos h9_0]); (try rfl)))
  · refine r_aload_n e_X10_tell_12 rfl ?_
    refine r_sipush e_X10_tell_13 sp_m1002 ?_
    refine cV1v e_X10_tell_16 cl_X10_70 ⟨Nat.le_of_ble_eq_true rfl, Nat.le_of_ble_eq_true rfl⟩ ⟨rfl, rfl⟩ (by with_reducible assumption) (Nat.le_of_ble_eq_true rfl) (S_X10_finding (by with_reducible assumption) (by with_reducible assumption) (by with_reducible assumption)) ?_
    refine r_ireturn e_X10_tell_19 rfl ⟨rfl, rfl⟩ ?_
    (refine ⟨?_, rfl, ?_⟩ <;> ((try unfold V_X10_tell); (try unfold U_X10_tell); (try simp only [if_neg h9_0]); (try rfl)))
def V_X10_count (a : Nat) (x1 : Int32) (q1 : Nat) (q2 : Nat) (q3 : Nat) (q4 : Nat) (q5 : Nat) (M : Mem) : Int32 := if x1 = 0 then (M.1 a 10) else (if x1 = 1 then (V_X4_length q1 M) else (if x1 = 2 then (let v0_0 : Int32 := if (M.1 a 10) = 0 then (0 : Int32) else (M.1 q3 0); v0_0) else (if x1 = 3 then (M.1 a 9) else (if x1 = 4 then (let v1_0 : Int32 := if (M.1 q4 6) = 0 then (0 : Int32) else (1 : Int32); v1_0) else (V_X10_finding a (-1001 : Int32) q5 M)))))
def U_X10_count (a : Nat) (x1 : Int32) (q1 : Nat) (q2 : Nat) (q3 : Nat) (q4 : Nat) (q5 : Nat) (M : Mem) : Mem := if x1 = 0 then M else (if x1 = 1 then M else (if x1 = 2 then M else (if x1 = 3 then M else (if x1 = 4 then M else (U_X10_finding a (-1001 : Int32) q5 M)))))
theorem S_X10_count {sh : List SC} {M : Mem} {a : Nat} {x1 : Int32} {q1 : Nat} {q2 : Nat} {q3 : Nat} {q4 : Nat} {q5 : Nat} (g1 : kd sh a = some (9 + 7, 0)) (g2 : rf sh a 1 = some q1) (g3 : kd sh q1 = some (4 + 7, 0)) (g4 : rf sh a 2 = some q2) (g5 : kd sh q2 = some (3, 6)) (g6 : rf sh q2 (0 : Int32).toNatClampNeg = some q3) (g7 : kd sh q3 = some (3 + 7, 0)) (g8 : rf sh a 4 = some q4) (g9 : kd sh q4 = some (2 + 7, 0)) (g10 : rf sh a 0 = some q5) (g11 : kd sh q5 = some (0, 5)) : Gv m_X10_count [.ref a, .int x1] sh M (.int (V_X10_count a x1 q1 q2 q3 q4 q5 M)) (U_X10_count a x1 q1 q2 q3 q4 q5 M) := by
  refine Sp.of (ls := [some (.ref a), some (.int x1)]) (by decide +kernel) (Nat.le_of_ble_eq_true rfl) rfl ?_
  refine r_iload_n e_X10_count_0 rfl ?_
  by_cases hs1_0 : x1 = 0
  · refine r_tabIn (tgt := 36) (off := 35) e_X10_count_1 (by rw [hs1_0]; decide) (by rw [hs1_0]; decide) (by rw [hs1_0]; rfl) (by decide) ?_
    refine r_aload_n e_X10_count_36 rfl ?_
    refine r_getI e_X10_count_37 fl_X10_52 i0 (by with_reducible assumption) ?_
    refine r_ireturn e_X10_count_40 rfl ⟨rfl, rfl⟩ ?_
    (refine ⟨?_, rfl, ?_⟩ <;> ((try unfold V_X10_count); (try unfold U_X10_count); (try simp only [if_pos hs1_0]); (try rfl)))
  · by_cases hs1_1 : x1 = 1
    · refine r_tabIn (tgt := 41) (off := 40) e_X10_count_1 (by rw [hs1_1]; decide) (by rw [hs1_1]; decide) (by rw [hs1_1]; rfl) (by decide) ?_
      refine r_aload_n e_X10_count_41 rfl ?_
      refine r_getR e_X10_count_42 fl_X10_16 (by with_reducible assumption) (by with_reducible assumption) ?_
      refine cV0v e_X10_count_45 cl_X10_74 ⟨Nat.le_of_ble_eq_true rfl, Nat.le_of_ble_eq_true rfl⟩ ⟨rfl, rfl⟩ (by with_reducible assumption) (Nat.le_of_ble_eq_true rfl) (S_X4_length (by with_reducible assumption)) ?_
      refine r_ireturn e_X10_count_48 rfl ⟨rfl, rfl⟩ ?_
      (refine ⟨?_, rfl, ?_⟩ <;> ((try unfold V_X10_count); (try unfold U_X10_count); (try simp only [if_neg hs1_0, if_pos hs1_1]); (try rfl)))
    · by_cases hs1_2 : x1 = 2
      · refine r_tabIn (tgt := 49) (off := 48) e_X10_count_1 (by rw [hs1_2]; decide) (by rw [hs1_2]; decide) (by rw [hs1_2]; rfl) (by decide) ?_
        refine r_aload_n e_X10_count_49 rfl ?_
        refine r_getI e_X10_count_50 fl_X10_52 i0 (by with_reducible assumption) ?_
        obtain ⟨v0_0, e_v0_0⟩ : ∃ z : Int32, z = (if (M.1 a 10) = 0 then (0 : Int32) else (M.1 q3 0)) := ⟨_, rfl⟩
        suffices j69_0 : WP m_X10_count (fun r sh' M'' => r = some (.int (V_X10_count a x1 q1 q2 q3 q4 q5 M)) ∧ sh' = sh ∧ M'' = (U_X10_count a x1 q1 q2 q3 q4 q5 M)) 69 [some (.ref a), some (.int x1)] [.int v0_0] sh M 0 0 by
          refine r_if_ne e_X10_count_53 (fun h53_0 => ?_) (fun h53_0 => ?_)
          · refine r_aload_n e_X10_count_60 rfl ?_
            refine r_getR e_X10_count_61 fl_X10_22 (by with_reducible assumption) (by with_reducible assumption) ?_
            refine r_iconst e_X10_count_64 ic_0 ?_
            refine r_aaload e_X10_count_65 (by with_reducible assumption) ⟨by decide, by decide⟩ (by unfold vp_in; decide) (by with_reducible assumption) ?_
            refine r_getI e_X10_count_66 fl_X10_196 i0 (by with_reducible assumption) ?_
            rw [show v0_0 = (M.1 q3 0) from (e_v0_0.trans (if_neg h53_0))] at j69_0; exact j69_0
          · refine r_iconst e_X10_count_56 ic_0 ?_
            refine r_goto e_X10_count_57 ?_
            rw [show v0_0 = (0 : Int32) from (e_v0_0.trans (if_pos h53_0))] at j69_0; exact j69_0
        refine r_ireturn e_X10_count_69 rfl ⟨rfl, rfl⟩ ?_
        (subst e_v0_0; refine ⟨?_, rfl, ?_⟩ <;> ((try unfold V_X10_count); (try unfold U_X10_count); (try simp only [if_neg hs1_0, if_neg hs1_1, if_pos hs1_2]); (try rfl)))
      · by_cases hs1_3 : x1 = 3
        · refine r_tabIn (tgt := 70) (off := 69) e_X10_count_1 (by rw [hs1_3]; decide) (by rw [hs1_3]; decide) (by rw [hs1_3]; rfl) (by decide) ?_
          refine r_aload_n e_X10_count_70 rfl ?_
          refine r_getI e_X10_count_71 fl_X10_48 i0 (by with_reducible assumption) ?_
          refine r_ireturn e_X10_count_74 rfl ⟨rfl, rfl⟩ ?_
          (refine ⟨?_, rfl, ?_⟩ <;> ((try unfold V_X10_count); (try unfold U_X10_count); (try simp only [if_neg hs1_0, if_neg hs1_1, if_neg hs1_2, if_pos hs1_3]); (try rfl)))
        · by_cases hs1_4 : x1 = 4
          · refine r_tabIn (tgt := 75) (off := 74) e_X10_count_1 (by rw [hs1_4]; decide) (by rw [hs1_4]; decide) (by rw [hs1_4]; rfl) (by decide) ?_
            refine r_aload_n e_X10_count_75 rfl ?_
            refine r_getR e_X10_count_76 fl_X10_63 (by with_reducible assumption) (by with_reducible assumption) ?_
            refine r_getI e_X10_count_79 fl_X10_115 i3 (by with_reducible assumption) ?_
            obtain ⟨v1_0, e_v1_0⟩ : ∃ z : Int32, z = (if (M.1 q4 6) = 0 then (0 : Int32) else (1 : Int32)) := ⟨_, rfl⟩
            have z_v1_0 : v1_0 = 0 ∨ v1_0 = 1 := by rw [e_v1_0]; exact (zi (Or.inl rfl) (Or.inr rfl))
            suffices j90_1 : WP m_X10_count (fun r sh' M'' => r = some (.int (V_X10_count a x1 q1 q2 q3 q4 q5 M)) ∧ sh' = sh ∧ M'' = (U_X10_count a x1 q1 q2 q3 q4 q5 M)) 90 [some (.ref a), some (.int x1)] [.int v1_0] sh M 0 0 by
              refine r_if_eq e_X10_count_82 (fun h82_1 => ?_) (fun h82_1 => ?_)
              · refine r_iconst e_X10_count_89 ic_0 ?_
                rw [show v1_0 = (0 : Int32) from (e_v1_0.trans (if_pos h82_1))] at j90_1; exact j90_1
              · refine r_iconst e_X10_count_85 ic_1 ?_
                refine r_goto e_X10_count_86 ?_
                rw [show v1_0 = (1 : Int32) from (e_v1_0.trans (if_neg h82_1))] at j90_1; exact j90_1
            refine r_ireturn e_X10_count_90 rfl ⟨rfl, rfl⟩ ?_
            (subst e_v1_0; refine ⟨?_, rfl, ?_⟩ <;> ((try unfold V_X10_count); (try unfold U_X10_count); (try simp only [if_neg hs1_0, if_neg hs1_1, if_neg hs1_2, if_neg hs1_3, if_pos hs1_4]); (try rfl)))
          · refine r_tabOut (tgt := 91) e_X10_count_1 (by have q0 := lv_neT hs1_0 (show (0 : Int32).toInt = 0 from rfl); have q1 := lv_neT hs1_1 (show (1 : Int32).toInt = 1 from rfl); have q2 := lv_neT hs1_2 (show (2 : Int32).toInt = 2 from rfl); have q3 := lv_neT hs1_3 (show (3 : Int32).toInt = 3 from rfl); have q4 := lv_neT hs1_4 (show (4 : Int32).toInt = 4 from rfl); omega) (by decide) ?_
            refine r_aload_n e_X10_count_91 rfl ?_
            refine r_sipush e_X10_count_92 sp_m1001 ?_
            refine cV1v e_X10_count_95 cl_X10_70 ⟨Nat.le_of_ble_eq_true rfl, Nat.le_of_ble_eq_true rfl⟩ ⟨rfl, rfl⟩ (by with_reducible assumption) (Nat.le_of_ble_eq_true rfl) (S_X10_finding (by with_reducible assumption) (by with_reducible assumption) (by with_reducible assumption)) ?_
            refine r_ireturn e_X10_count_98 rfl ⟨rfl, rfl⟩ ?_
            (refine ⟨?_, rfl, ?_⟩ <;> ((try unfold V_X10_count); (try unfold U_X10_count); (try simp only [if_neg hs1_0, if_neg hs1_1, if_neg hs1_2, if_neg hs1_3, if_neg hs1_4]); (try rfl)))
def V_X10_found (a : Nat) (x1 : Int32) (q1 : Nat) (M : Mem) : Int32 := if (-1001 : Int32) < x1 then (V_X10_finding a (-1001 : Int32) q1 M) else (if (-1006 : Int32) < x1 then (V_X10_at q1 ((-1001 : Int32) - x1) 5 M) else (V_X10_finding a (-1001 : Int32) q1 M))
def U_X10_found (a : Nat) (x1 : Int32) (q1 : Nat) (M : Mem) : Mem := if (-1001 : Int32) < x1 then (U_X10_finding a (-1001 : Int32) q1 M) else (if (-1006 : Int32) < x1 then M else (U_X10_finding a (-1001 : Int32) q1 M))
theorem S_X10_found {sh : List SC} {M : Mem} {a : Nat} {x1 : Int32} {q1 : Nat} (g1 : kd sh a = some (9 + 7, 0)) (g2 : rf sh a 0 = some q1) (g3 : kd sh q1 = some (0, 5)) : Gv m_X10_found [.ref a, .int x1] sh M (.int (V_X10_found a x1 q1 M)) (U_X10_found a x1 q1 M) := by
  refine Sp.of (ls := [some (.ref a), some (.int x1)]) (by decide +kernel) (Nat.le_of_ble_eq_true rfl) rfl ?_
  refine r_iload_n e_X10_found_0 rfl ?_
  refine r_sipush e_X10_found_1 sp_m1001 ?_
  refine r_icmp_gt e_X10_found_4 (fun h4_0 => ?_) (fun h4_0 => ?_)
  · refine r_aload_n e_X10_found_14 rfl ?_
    refine r_sipush e_X10_found_15 sp_m1001 ?_
    refine cV1v e_X10_found_18 cl_X10_70 ⟨Nat.le_of_ble_eq_true rfl, Nat.le_of_ble_eq_true rfl⟩ ⟨rfl, rfl⟩ (by with_reducible assumption) (Nat.le_of_ble_eq_true rfl) (S_X10_finding (by with_reducible assumption) (by with_reducible assumption) (by with_reducible assumption)) ?_
    refine r_ireturn e_X10_found_21 rfl ⟨rfl, rfl⟩ ?_
    (refine ⟨?_, rfl, ?_⟩ <;> ((try unfold V_X10_found); (try unfold U_X10_found); (try simp only [if_pos h4_0]); (try rfl)))
  · refine r_iload_n e_X10_found_7 rfl ?_
    refine r_sipush e_X10_found_8 sp_m1006 ?_
    refine r_icmp_gt e_X10_found_11 (fun h11_1 => ?_) (fun h11_1 => ?_)
    · refine r_aload_n e_X10_found_22 rfl ?_
      refine r_getR e_X10_found_23 fl_X10_9 (by with_reducible assumption) (by with_reducible assumption) ?_
      refine r_sipush e_X10_found_26 sp_m1001 ?_
      refine r_iload_n e_X10_found_29 rfl ?_
      refine r_isub e_X10_found_30 ?_
      refine cS2v e_X10_found_31 cl_X10_192 ⟨Nat.le_of_ble_eq_true rfl, Nat.le_of_ble_eq_true rfl⟩ ⟨rfl, rfl⟩  (Nat.le_of_ble_eq_true rfl) (S_X10_at (by with_reducible assumption) (by first | decide | (unfold vp_in; decide) | exact Or.inl rfl | exact Or.inr rfl)) ?_
      refine r_ireturn e_X10_found_34 rfl ⟨rfl, rfl⟩ ?_
      (refine ⟨?_, rfl, ?_⟩ <;> ((try unfold V_X10_found); (try unfold U_X10_found); (try simp only [if_neg h4_0, if_pos h11_1]); (try rfl)))
    · refine r_aload_n e_X10_found_14 rfl ?_
      refine r_sipush e_X10_found_15 sp_m1001 ?_
      refine cV1v e_X10_found_18 cl_X10_70 ⟨Nat.le_of_ble_eq_true rfl, Nat.le_of_ble_eq_true rfl⟩ ⟨rfl, rfl⟩ (by with_reducible assumption) (Nat.le_of_ble_eq_true rfl) (S_X10_finding (by with_reducible assumption) (by with_reducible assumption) (by with_reducible assumption)) ?_
      refine r_ireturn e_X10_found_21 rfl ⟨rfl, rfl⟩ ?_
      (refine ⟨?_, rfl, ?_⟩ <;> ((try unfold V_X10_found); (try unfold U_X10_found); (try simp only [if_neg h4_0, if_neg h11_1]); (try rfl)))
def V_X11_finding (a : Nat) (x1 : Int32) (q1 : Nat) (M : Mem) : Int32 := x1
def U_X11_finding (a : Nat) (x1 : Int32) (q1 : Nat) (M : Mem) : Mem := setI M q1 ((-1000 : Int32) - x1).toNatClampNeg ((M.1 q1 ((-1000 : Int32) - x1).toNatClampNeg) + (1 : Int32))
theorem S_X11_finding {sh : List SC} {M : Mem} {a : Nat} {x1 : Int32} {q1 : Nat} (g1 : kd sh a = some (10 + 7, 0)) (g2 : rf sh a 21 = some q1) (g3 : kd sh q1 = some (0, 6)) (g4 : vp_in ((-1000 : Int32) - x1) 6) : Gv m_X11_finding [.ref a, .int x1] sh M (.int (V_X11_finding a x1 q1 M)) (U_X11_finding a x1 q1 M) := by
  refine Sp.of (ls := [some (.ref a), some (.int x1)]) (by decide +kernel) (Nat.le_of_ble_eq_true rfl) rfl ?_
  refine r_aload_n e_X11_finding_0 rfl ?_
  refine r_getR e_X11_finding_1 fl_X11_189 (by with_reducible assumption) (by with_reducible assumption) ?_
  refine r_sipush e_X11_finding_4 sp_m1000 ?_
  refine r_iload_n e_X11_finding_7 rfl ?_
  refine r_isub e_X11_finding_8 ?_
  refine r_dup2 e_X11_finding_9 rfl rfl ?_
  refine r_iaload e_X11_finding_10 (by with_reducible assumption) (by with_reducible assumption) ?_
  refine r_iconst e_X11_finding_11 ic_1 ?_
  refine r_iadd e_X11_finding_12 ?_
  refine r_iastore e_X11_finding_13 (by with_reducible assumption) (by with_reducible assumption) ?_
  refine r_iload_n e_X11_finding_14 rfl ?_
  refine r_ireturn e_X11_finding_15 rfl ⟨rfl, rfl⟩ ?_
  (refine ⟨?_, rfl, ?_⟩ <;> ((try unfold V_X11_finding); (try unfold U_X11_finding); (try simp only []); (try rfl)))
def V_X11_at (a : Nat) (x1 : Int32) (q1 : Nat) (M : Mem) : Int32 := (let v0_0 : Int32 := if (M.1 a 1) ≤ x1 then (-1 : Int32) else (M.1 q1 x1.toNatClampNeg); v0_0)
theorem S_X11_at {sh : List SC} {M : Mem} {a : Nat} {x1 : Int32} {q1 : Nat} (g1 : kd sh a = some (10 + 7, 0)) (g2 : rf sh a 0 = some q1) (g3 : kd sh q1 = some (0, 800)) (g4 : vp_in x1 800) : Gv m_X11_at [.ref a, .int x1] sh M (.int (V_X11_at a x1 q1 M)) M := by
  refine Sp.of (ls := [some (.ref a), some (.int x1)]) (by decide +kernel) (Nat.le_of_ble_eq_true rfl) rfl ?_
  refine r_iload_n e_X11_at_0 rfl ?_
  refine r_aload_n e_X11_at_1 rfl ?_
  refine r_getI e_X11_at_2 fl_X11_1 i0 (by with_reducible assumption) ?_
  obtain ⟨v0_0, e_v0_0⟩ : ∃ z : Int32, z = (if (M.1 a 1) ≤ x1 then (-1 : Int32) else (M.1 q1 x1.toNatClampNeg)) := ⟨_, rfl⟩
  suffices j18_0 : WP m_X11_at (fun r sh' M'' => r = some (.int (V_X11_at a x1 q1 M)) ∧ sh' = sh ∧ M'' = M) 18 [some (.ref a), some (.int x1)] [.int v0_0] sh M 0 0 by
    refine r_icmp_ge e_X11_at_5 (fun h5_0 => ?_) (fun h5_0 => ?_)
    · refine r_iconst e_X11_at_17 ic_m1 ?_
      rw [show v0_0 = (-1 : Int32) from (e_v0_0.trans (if_pos h5_0))] at j18_0; exact j18_0
    · refine r_aload_n e_X11_at_8 rfl ?_
      refine r_getR e_X11_at_9 fl_X11_7 (by with_reducible assumption) (by with_reducible assumption) ?_
      refine r_iload_n e_X11_at_12 rfl ?_
      refine r_iaload e_X11_at_13 (by with_reducible assumption) (by with_reducible assumption) ?_
      refine r_goto e_X11_at_14 ?_
      rw [show v0_0 = (M.1 q1 x1.toNatClampNeg) from (e_v0_0.trans (if_neg h5_0))] at j18_0; exact j18_0
  refine r_ireturn e_X11_at_18 rfl ⟨rfl, rfl⟩ ?_
  (subst e_v0_0; refine ⟨?_, rfl, ?_⟩ <;> ((try unfold V_X11_at); (try simp only []); (try rfl)))
def V_X11_isLetter (x1 : Int32) (M : Mem) : Int32 := (let v0_0 : Int32 := if x1 < (97 : Int32) then (0 : Int32) else (if (122 : Int32) < x1 then (0 : Int32) else (1 : Int32)); v0_0)
theorem Z_X11_isLetter {M : Mem} {x1 : Int32}   : V_X11_isLetter x1 M = 0 ∨ V_X11_isLetter x1 M = 1 := (zi (Or.inl rfl) (zi (Or.inl rfl) (Or.inr rfl)))
theorem S_X11_isLetter {sh : List SC} {M : Mem} {x1 : Int32}   : Gv m_X11_isLetter [.int x1] sh M (.int (V_X11_isLetter x1 M)) M := by
  refine Sp.of (ls := [some (.int x1)]) (by decide +kernel) (Nat.le_of_ble_eq_true rfl) rfl ?_
  refine r_iload_n e_X11_isLetter_0 rfl ?_
  refine r_bipush e_X11_isLetter_1 bp_97 ?_
  obtain ⟨v0_0, e_v0_0⟩ : ∃ z : Int32, z = (if x1 < (97 : Int32) then (0 : Int32) else (if (122 : Int32) < x1 then (0 : Int32) else (1 : Int32))) := ⟨_, rfl⟩
  have z_v0_0 : v0_0 = 0 ∨ v0_0 = 1 := by rw [e_v0_0]; exact (zi (Or.inl rfl) (zi (Or.inl rfl) (Or.inr rfl)))
  suffices j17_0 : WP m_X11_isLetter (fun r sh' M'' => r = some (.int (V_X11_isLetter x1 M)) ∧ sh' = sh ∧ M'' = M) 17 [some (.int x1)] [.int v0_0] sh M 0 0 by
    refine r_icmp_lt e_X11_isLetter_3 (fun h3_0 => ?_) (fun h3_0 => ?_)
    · refine r_iconst e_X11_isLetter_16 ic_0 ?_
      rw [show v0_0 = (0 : Int32) from (e_v0_0.trans (if_pos h3_0))] at j17_0; exact j17_0
    · refine r_iload_n e_X11_isLetter_6 rfl ?_
      refine r_bipush e_X11_isLetter_7 bp_122 ?_
      refine r_icmp_gt e_X11_isLetter_9 (fun h9_1 => ?_) (fun h9_1 => ?_)
      · refine r_iconst e_X11_isLetter_16 ic_0 ?_
        rw [show v0_0 = (0 : Int32) from ((e_v0_0.trans (if_neg h3_0)).trans (if_pos h9_1))] at j17_0; exact j17_0
      · refine r_iconst e_X11_isLetter_12 ic_1 ?_
        refine r_goto e_X11_isLetter_13 ?_
        rw [show v0_0 = (1 : Int32) from ((e_v0_0.trans (if_neg h3_0)).trans (if_neg h9_1))] at j17_0; exact j17_0
  refine r_zreturn e_X11_isLetter_17 rfl ⟨rfl, rfl⟩ z_v0_0 ?_
  (subst e_v0_0; refine ⟨?_, rfl, ?_⟩ <;> ((try unfold V_X11_isLetter); (try simp only []); (try rfl)))
def U_X11_findWord (a : Nat) (M : Mem) : Mem := if (lg_cmp (M.2 a 7) (10492313 : Int64)) = 0 then (setI M a 5 (10 : Int32)) else (if (lg_cmp (M.2 a 7) (458690 : Int64)) = 0 then (setI M a 5 (11 : Int32)) else (if (lg_cmp (M.2 a 7) (1111 : Int64)) = 0 then (setI M a 5 (12 : Int32)) else (if (lg_cmp (M.2 a 7) (204 : Int64)) = 0 then (setI M a 5 (13 : Int32)) else (if (lg_cmp (M.2 a 7) (14006 : Int64)) = 0 then (setI M a 5 (14 : Int32)) else (if (lg_cmp (M.2 a 7) (267413 : Int64)) = 0 then (setI M a 5 (15 : Int32)) else (if (lg_cmp (M.2 a 7) (555 : Int64)) = 0 then (setI M a 5 (16 : Int32)) else (if (lg_cmp (M.2 a 7) (223166 : Int64)) = 0 then (setI M a 5 (17 : Int32)) else (if (lg_cmp (M.2 a 7) (388609 : Int64)) = 0 then (setI M a 5 (18 : Int32)) else (if 0 ≤ (lg_cmp (M.2 a 7) (5 : Int64)) then (if (lg_cmp (M.2 a 7) (6943155 : Int64)) = 0 then (setI (setI M a 5 (5 : Int32)) a 6 (0 : Int32)) else (if (lg_cmp (M.2 a 7) (6943156 : Int64)) = 0 then (setI (setI M a 5 (5 : Int32)) a 6 (1 : Int32)) else (if (lg_cmp (M.2 a 7) (129192 : Int64)) = 0 then (setI (setI M a 5 (5 : Int32)) a 6 (2 : Int32)) else (if (lg_cmp (M.2 a 7) (129193 : Int64)) = 0 then (setI (setI M a 5 (5 : Int32)) a 6 (3 : Int32)) else (if (lg_cmp (M.2 a 7) (1091661 : Int64)) = 0 then (setI (setI M a 5 (4 : Int32)) a 6 (0 : Int32)) else (if (lg_cmp (M.2 a 7) (1091662 : Int64)) = 0 then (setI (setI M a 5 (4 : Int32)) a 6 (1 : Int32)) else (if (lg_cmp (M.2 a 7) (10176 : Int64)) = 0 then (setI (setI M a 5 (4 : Int32)) a 6 (2 : Int32)) else (if (lg_cmp (M.2 a 7) (10177 : Int64)) = 0 then (setI (setI M a 5 (4 : Int32)) a 6 (3 : Int32)) else (if (lg_cmp (M.2 a 7) (161437 : Int64)) = 0 then (setI (setI M a 5 (4 : Int32)) a 6 (4 : Int32)) else (if (lg_cmp (M.2 a 7) (400313 : Int64)) = 0 then (setI (setI M a 5 (4 : Int32)) a 6 (5 : Int32)) else (if (lg_cmp (M.2 a 7) (239872 : Int64)) = 0 then (setI (setI M a 5 (4 : Int32)) a 6 (6 : Int32)) else (if (lg_cmp (M.2 a 7) (279252 : Int64)) = 0 then (setI (setI M a 5 (4 : Int32)) a 6 (7 : Int32)) else (setI M a 5 (1 : Int32)))))))))))))) else (setI (setI M a 5 (3 : Int32)) a 6 ((M.2 a 7).toInt32 - (1 : Int32))))))))))))
theorem S_X11_findWord {sh : List SC} {M : Mem} {a : Nat}  (g1 : kd sh a = some (10 + 7, 0)) : Gu m_X11_findWord [.ref a] sh M (U_X11_findWord a M) := by
  refine Sp.of (ls := [some (.ref a), none, none]) (by decide +kernel) (Nat.le_of_ble_eq_true rfl) rfl ?_
  refine r_aload_n e_X11_findWord_0 rfl ?_
  refine r_getJ e_X11_findWord_1 fl_X11_24 (by with_reducible assumption) ?_
  refine p_lstore_n_3_1 e_X11_findWord_4 rfl rfl ?_
  refine r_lload_n e_X11_findWord_5 rfl ?_
  refine r_ldc2 e_X11_findWord_6 lc_X11_55 ?_
  refine r_lcmp e_X11_findWord_9 ?_
  refine r_if_ne e_X11_findWord_10 (fun h10_0 => ?_) (fun h10_0 => ?_)
  · refine r_lload_n e_X11_findWord_20 rfl ?_
    refine r_ldc2 e_X11_findWord_21 lc_X11_57 ?_
    refine r_lcmp e_X11_findWord_24 ?_
    refine r_if_ne e_X11_findWord_25 (fun h25_1 => ?_) (fun h25_1 => ?_)
    · refine r_lload_n e_X11_findWord_35 rfl ?_
      refine r_ldc2 e_X11_findWord_36 lc_X11_59 ?_
      refine r_lcmp e_X11_findWord_39 ?_
      refine r_if_ne e_X11_findWord_40 (fun h40_2 => ?_) (fun h40_2 => ?_)
      · refine r_lload_n e_X11_findWord_50 rfl ?_
        refine r_ldc2 e_X11_findWord_51 lc_X11_61 ?_
        refine r_lcmp e_X11_findWord_54 ?_
        refine r_if_ne e_X11_findWord_55 (fun h55_3 => ?_) (fun h55_3 => ?_)
        · refine r_lload_n e_X11_findWord_65 rfl ?_
          refine r_ldc2 e_X11_findWord_66 lc_X11_63 ?_
          refine r_lcmp e_X11_findWord_69 ?_
          refine r_if_ne e_X11_findWord_70 (fun h70_4 => ?_) (fun h70_4 => ?_)
          · refine r_lload_n e_X11_findWord_80 rfl ?_
            refine r_ldc2 e_X11_findWord_81 lc_X11_65 ?_
            refine r_lcmp e_X11_findWord_84 ?_
            refine r_if_ne e_X11_findWord_85 (fun h85_5 => ?_) (fun h85_5 => ?_)
            · refine r_lload_n e_X11_findWord_95 rfl ?_
              refine r_ldc2 e_X11_findWord_96 lc_X11_67 ?_
              refine r_lcmp e_X11_findWord_99 ?_
              refine r_if_ne e_X11_findWord_100 (fun h100_6 => ?_) (fun h100_6 => ?_)
              · refine r_lload_n e_X11_findWord_110 rfl ?_
                refine r_ldc2 e_X11_findWord_111 lc_X11_69 ?_
                refine r_lcmp e_X11_findWord_114 ?_
                refine r_if_ne e_X11_findWord_115 (fun h115_7 => ?_) (fun h115_7 => ?_)
                · refine r_lload_n e_X11_findWord_125 rfl ?_
                  refine r_ldc2 e_X11_findWord_126 lc_X11_71 ?_
                  refine r_lcmp e_X11_findWord_129 ?_
                  refine r_if_ne e_X11_findWord_130 (fun h130_8 => ?_) (fun h130_8 => ?_)
                  · refine r_lload_n e_X11_findWord_140 rfl ?_
                    refine r_ldc2 e_X11_findWord_141 lc_X11_73 ?_
                    refine r_lcmp e_X11_findWord_144 ?_
                    refine r_if_ge e_X11_findWord_145 (fun h145_9 => ?_) (fun h145_9 => ?_)
                    · refine r_lload_n e_X11_findWord_162 rfl ?_
                      refine r_ldc2 e_X11_findWord_163 lc_X11_75 ?_
                      refine r_lcmp e_X11_findWord_166 ?_
                      refine r_if_ne e_X11_findWord_167 (fun h167_10 => ?_) (fun h167_10 => ?_)
                      · refine r_lload_n e_X11_findWord_181 rfl ?_
                        refine r_ldc2 e_X11_findWord_182 lc_X11_77 ?_
                        refine r_lcmp e_X11_findWord_185 ?_
                        refine r_if_ne e_X11_findWord_186 (fun h186_11 => ?_) (fun h186_11 => ?_)
                        · refine r_lload_n e_X11_findWord_200 rfl ?_
                          refine r_ldc2 e_X11_findWord_201 lc_X11_79 ?_
                          refine r_lcmp e_X11_findWord_204 ?_
                          refine r_if_ne e_X11_findWord_205 (fun h205_12 => ?_) (fun h205_12 => ?_)
                          · refine r_lload_n e_X11_findWord_219 rfl ?_
                            refine r_ldc2 e_X11_findWord_220 lc_X11_81 ?_
                            refine r_lcmp e_X11_findWord_223 ?_
                            refine r_if_ne e_X11_findWord_224 (fun h224_13 => ?_) (fun h224_13 => ?_)
                            · refine r_lload_n e_X11_findWord_238 rfl ?_
                              refine r_ldc2 e_X11_findWord_239 lc_X11_83 ?_
                              refine r_lcmp e_X11_findWord_242 ?_
                              refine r_if_ne e_X11_findWord_243 (fun h243_14 => ?_) (fun h243_14 => ?_)
                              · refine r_lload_n e_X11_findWord_257 rfl ?_
                                refine r_ldc2 e_X11_findWord_258 lc_X11_85 ?_
                                refine r_lcmp e_X11_findWord_261 ?_
                                refine r_if_ne e_X11_findWord_262 (fun h262_15 => ?_) (fun h262_15 => ?_)
                                · refine r_lload_n e_X11_findWord_276 rfl ?_
                                  refine r_ldc2 e_X11_findWord_277 lc_X11_87 ?_
                                  refine r_lcmp e_X11_findWord_280 ?_
                                  refine r_if_ne e_X11_findWord_281 (fun h281_16 => ?_) (fun h281_16 => ?_)
                                  · refine r_lload_n e_X11_findWord_295 rfl ?_
                                    refine r_ldc2 e_X11_findWord_296 lc_X11_89 ?_
                                    refine r_lcmp e_X11_findWord_299 ?_
                                    refine r_if_ne e_X11_findWord_300 (fun h300_17 => ?_) (fun h300_17 => ?_)
                                    · refine r_lload_n e_X11_findWord_314 rfl ?_
                                      refine r_ldc2 e_X11_findWord_315 lc_X11_91 ?_
                                      refine r_lcmp e_X11_findWord_318 ?_
                                      refine r_if_ne e_X11_findWord_319 (fun h319_18 => ?_) (fun h319_18 => ?_)
                                      · refine r_lload_n e_X11_findWord_333 rfl ?_
                                        refine r_ldc2 e_X11_findWord_334 lc_X11_93 ?_
                                        refine r_lcmp e_X11_findWord_337 ?_
                                        refine r_if_ne e_X11_findWord_338 (fun h338_19 => ?_) (fun h338_19 => ?_)
                                        · refine r_lload_n e_X11_findWord_352 rfl ?_
                                          refine r_ldc2 e_X11_findWord_353 lc_X11_95 ?_
                                          refine r_lcmp e_X11_findWord_356 ?_
                                          refine r_if_ne e_X11_findWord_357 (fun h357_20 => ?_) (fun h357_20 => ?_)
                                          · refine r_lload_n e_X11_findWord_372 rfl ?_
                                            refine r_ldc2 e_X11_findWord_373 lc_X11_97 ?_
                                            refine r_lcmp e_X11_findWord_376 ?_
                                            refine r_if_ne e_X11_findWord_377 (fun h377_21 => ?_) (fun h377_21 => ?_)
                                            · refine r_aload_n e_X11_findWord_392 rfl ?_
                                              refine r_iconst e_X11_findWord_393 ic_1 ?_
                                              refine r_putI e_X11_findWord_394 fl_X11_28 (by with_reducible assumption) ?_
                                              refine r_return e_X11_findWord_397 rfl ⟨rfl, rfl⟩ ?_
                                              (refine ⟨?_, rfl, ?_⟩ <;> ((try unfold U_X11_findWord); (try simp only [if_neg h10_0, if_neg h25_1, if_neg h40_2, if_neg h55_3, if_neg h70_4, if_neg h85_5, if_neg h100_6, if_neg h115_7, if_neg h130_8, if_pos h145_9, if_neg h167_10, if_neg h186_11, if_neg h205_12, if_neg h224_13, if_neg h243_14, if_neg h262_15, if_neg h281_16, if_neg h300_17, if_neg h319_18, if_neg h338_19, if_neg h357_20, if_neg h377_21]); (try rfl)))
                                            · refine r_aload_n e_X11_findWord_380 rfl ?_
                                              refine r_iconst e_X11_findWord_381 ic_4 ?_
                                              refine r_putI e_X11_findWord_382 fl_X11_28 (by with_reducible assumption) ?_
                                              refine r_aload_n e_X11_findWord_385 rfl ?_
                                              refine r_bipush e_X11_findWord_386 bp_7 ?_
                                              refine r_putI e_X11_findWord_388 fl_X11_21 (by with_reducible assumption) ?_
                                              refine r_return e_X11_findWord_391 rfl ⟨rfl, rfl⟩ ?_
                                              (refine ⟨?_, rfl, ?_⟩ <;> ((try unfold U_X11_findWord); (try simp only [if_neg h10_0, if_neg h25_1, if_neg h40_2, if_neg h55_3, if_neg h70_4, if_neg h85_5, if_neg h100_6, if_neg h115_7, if_neg h130_8, if_pos h145_9, if_neg h167_10, if_neg h186_11, if_neg h205_12, if_neg h224_13, if_neg h243_14, if_neg h262_15, if_neg h281_16, if_neg h300_17, if_neg h319_18, if_neg h338_19, if_neg h357_20, if_pos h377_21]); (try rfl)))
                                          · refine r_aload_n e_X11_findWord_360 rfl ?_
                                            refine r_iconst e_X11_findWord_361 ic_4 ?_
                                            refine r_putI e_X11_findWord_362 fl_X11_28 (by with_reducible assumption) ?_
                                            refine r_aload_n e_X11_findWord_365 rfl ?_
                                            refine r_bipush e_X11_findWord_366 bp_6 ?_
                                            refine r_putI e_X11_findWord_368 fl_X11_21 (by with_reducible assumption) ?_
                                            refine r_return e_X11_findWord_371 rfl ⟨rfl, rfl⟩ ?_
                                            (refine ⟨?_, rfl, ?_⟩ <;> ((try unfold U_X11_findWord); (try simp only [if_neg h10_0, if_neg h25_1, if_neg h40_2, if_neg h55_3, if_neg h70_4, if_neg h85_5, if_neg h100_6, if_neg h115_7, if_neg h130_8, if_pos h145_9, if_neg h167_10, if_neg h186_11, if_neg h205_12, if_neg h224_13, if_neg h243_14, if_neg h262_15, if_neg h281_16, if_neg h300_17, if_neg h319_18, if_neg h338_19, if_pos h357_20]); (try rfl)))
                                        · refine r_aload_n e_X11_findWord_341 rfl ?_
                                          refine r_iconst e_X11_findWord_342 ic_4 ?_
                                          refine r_putI e_X11_findWord_343 fl_X11_28 (by with_reducible assumption) ?_
                                          refine r_aload_n e_X11_findWord_346 rfl ?_
                                          refine r_iconst e_X11_findWord_347 ic_5 ?_
                                          refine r_putI e_X11_findWord_348 fl_X11_21 (by with_reducible assumption) ?_
                                          refine r_return e_X11_findWord_351 rfl ⟨rfl, rfl⟩ ?_
                                          (refine ⟨?_, rfl, ?_⟩ <;> ((try unfold U_X11_findWord); (try simp only [if_neg h10_0, if_neg h25_1, if_neg h40_2, if_neg h55_3, if_neg h70_4, if_neg h85_5, if_neg h100_6, if_neg h115_7, if_neg h130_8, if_pos h145_9, if_neg h167_10, if_neg h186_11, if_neg h205_12, if_neg h224_13, if_neg h243_14, if_neg h262_15, if_neg h281_16, if_neg h300_17, if_neg h319_18, if_pos h338_19]); (try rfl)))
                                      · refine r_aload_n e_X11_findWord_322 rfl ?_
                                        refine r_iconst e_X11_findWord_323 ic_4 ?_
                                        refine r_putI e_X11_findWord_324 fl_X11_28 (by with_reducible assumption) ?_
                                        refine r_aload_n e_X11_findWord_327 rfl ?_
                                        refine r_iconst e_X11_findWord_328 ic_4 ?_
                                        refine r_putI e_X11_findWord_329 fl_X11_21 (by with_reducible assumption) ?_
                                        refine r_return e_X11_findWord_332 rfl ⟨rfl, rfl⟩ ?_
                                        (refine ⟨?_, rfl, ?_⟩ <;> ((try unfold U_X11_findWord); (try simp only [if_neg h10_0, if_neg h25_1, if_neg h40_2, if_neg h55_3, if_neg h70_4, if_neg h85_5, if_neg h100_6, if_neg h115_7, if_neg h130_8, if_pos h145_9, if_neg h167_10, if_neg h186_11, if_neg h205_12, if_neg h224_13, if_neg h243_14, if_neg h262_15, if_neg h281_16, if_neg h300_17, if_pos h319_18]); (try rfl)))
                                    · refine r_aload_n e_X11_findWord_303 rfl ?_
                                      refine r_iconst e_X11_findWord_304 ic_4 ?_
                                      refine r_putI e_X11_findWord_305 fl_X11_28 (by with_reducible assumption) ?_
                                      refine r_aload_n e_X11_findWord_308 rfl ?_
                                      refine r_iconst e_X11_findWord_309 ic_3 ?_
                                      refine r_putI e_X11_findWord_310 fl_X11_21 (by with_reducible assumption) ?_
                                      refine r_return e_X11_findWord_313 rfl ⟨rfl, rfl⟩ ?_
                                      (refine ⟨?_, rfl, ?_⟩ <;> ((try unfold U_X11_findWord); (try simp only [if_neg h10_0, if_neg h25_1, if_neg h40_2, if_neg h55_3, if_neg h70_4, if_neg h85_5, if_neg h100_6, if_neg h115_7, if_neg h130_8, if_pos h145_9, if_neg h167_10, if_neg h186_11, if_neg h205_12, if_neg h224_13, if_neg h243_14, if_neg h262_15, if_neg h281_16, if_pos h300_17]); (try rfl)))
                                  · refine r_aload_n e_X11_findWord_284 rfl ?_
                                    refine r_iconst e_X11_findWord_285 ic_4 ?_
                                    refine r_putI e_X11_findWord_286 fl_X11_28 (by with_reducible assumption) ?_
                                    refine r_aload_n e_X11_findWord_289 rfl ?_
                                    refine r_iconst e_X11_findWord_290 ic_2 ?_
                                    refine r_putI e_X11_findWord_291 fl_X11_21 (by with_reducible assumption) ?_
                                    refine r_return e_X11_findWord_294 rfl ⟨rfl, rfl⟩ ?_
                                    (refine ⟨?_, rfl, ?_⟩ <;> ((try unfold U_X11_findWord); (try simp only [if_neg h10_0, if_neg h25_1, if_neg h40_2, if_neg h55_3, if_neg h70_4, if_neg h85_5, if_neg h100_6, if_neg h115_7, if_neg h130_8, if_pos h145_9, if_neg h167_10, if_neg h186_11, if_neg h205_12, if_neg h224_13, if_neg h243_14, if_neg h262_15, if_pos h281_16]); (try rfl)))
                                · refine r_aload_n e_X11_findWord_265 rfl ?_
                                  refine r_iconst e_X11_findWord_266 ic_4 ?_
                                  refine r_putI e_X11_findWord_267 fl_X11_28 (by with_reducible assumption) ?_
                                  refine r_aload_n e_X11_findWord_270 rfl ?_
                                  refine r_iconst e_X11_findWord_271 ic_1 ?_
                                  refine r_putI e_X11_findWord_272 fl_X11_21 (by with_reducible assumption) ?_
                                  refine r_return e_X11_findWord_275 rfl ⟨rfl, rfl⟩ ?_
                                  (refine ⟨?_, rfl, ?_⟩ <;> ((try unfold U_X11_findWord); (try simp only [if_neg h10_0, if_neg h25_1, if_neg h40_2, if_neg h55_3, if_neg h70_4, if_neg h85_5, if_neg h100_6, if_neg h115_7, if_neg h130_8, if_pos h145_9, if_neg h167_10, if_neg h186_11, if_neg h205_12, if_neg h224_13, if_neg h243_14, if_pos h262_15]); (try rfl)))
                              · refine r_aload_n e_X11_findWord_246 rfl ?_
                                refine r_iconst e_X11_findWord_247 ic_4 ?_
                                refine r_putI e_X11_findWord_248 fl_X11_28 (by with_reducible assumption) ?_
                                refine r_aload_n e_X11_findWord_251 rfl ?_
                                refine r_iconst e_X11_findWord_252 ic_0 ?_
                                refine r_putI e_X11_findWord_253 fl_X11_21 (by with_reducible assumption) ?_
                                refine r_return e_X11_findWord_256 rfl ⟨rfl, rfl⟩ ?_
                                (refine ⟨?_, rfl, ?_⟩ <;> ((try unfold U_X11_findWord); (try simp only [if_neg h10_0, if_neg h25_1, if_neg h40_2, if_neg h55_3, if_neg h70_4, if_neg h85_5, if_neg h100_6, if_neg h115_7, if_neg h130_8, if_pos h145_9, if_neg h167_10, if_neg h186_11, if_neg h205_12, if_neg h224_13, if_pos h243_14]); (try rfl)))
                            · refine r_aload_n e_X11_findWord_227 rfl ?_
                              refine r_iconst e_X11_findWord_228 ic_5 ?_
                              refine r_putI e_X11_findWord_229 fl_X11_28 (by with_reducible assumption) ?_
                              refine r_aload_n e_X11_findWord_232 rfl ?_
                              refine r_iconst e_X11_findWord_233 ic_3 ?_
                              refine r_putI e_X11_findWord_234 fl_X11_21 (by with_reducible assumption) ?_
                              refine r_return e_X11_findWord_237 rfl ⟨rfl, rfl⟩ ?_
                              (refine ⟨?_, rfl, ?_⟩ <;> ((try unfold U_X11_findWord); (try simp only [if_neg h10_0, if_neg h25_1, if_neg h40_2, if_neg h55_3, if_neg h70_4, if_neg h85_5, if_neg h100_6, if_neg h115_7, if_neg h130_8, if_pos h145_9, if_neg h167_10, if_neg h186_11, if_neg h205_12, if_pos h224_13]); (try rfl)))
                          · refine r_aload_n e_X11_findWord_208 rfl ?_
                            refine r_iconst e_X11_findWord_209 ic_5 ?_
                            refine r_putI e_X11_findWord_210 fl_X11_28 (by with_reducible assumption) ?_
                            refine r_aload_n e_X11_findWord_213 rfl ?_
                            refine r_iconst e_X11_findWord_214 ic_2 ?_
                            refine r_putI e_X11_findWord_215 fl_X11_21 (by with_reducible assumption) ?_
                            refine r_return e_X11_findWord_218 rfl ⟨rfl, rfl⟩ ?_
                            (refine ⟨?_, rfl, ?_⟩ <;> ((try unfold U_X11_findWord); (try simp only [if_neg h10_0, if_neg h25_1, if_neg h40_2, if_neg h55_3, if_neg h70_4, if_neg h85_5, if_neg h100_6, if_neg h115_7, if_neg h130_8, if_pos h145_9, if_neg h167_10, if_neg h186_11, if_pos h205_12]); (try rfl)))
                        · refine r_aload_n e_X11_findWord_189 rfl ?_
                          refine r_iconst e_X11_findWord_190 ic_5 ?_
                          refine r_putI e_X11_findWord_191 fl_X11_28 (by with_reducible assumption) ?_
                          refine r_aload_n e_X11_findWord_194 rfl ?_
                          refine r_iconst e_X11_findWord_195 ic_1 ?_
                          refine r_putI e_X11_findWord_196 fl_X11_21 (by with_reducible assumption) ?_
                          refine r_return e_X11_findWord_199 rfl ⟨rfl, rfl⟩ ?_
                          (refine ⟨?_, rfl, ?_⟩ <;> ((try unfold U_X11_findWord); (try simp only [if_neg h10_0, if_neg h25_1, if_neg h40_2, if_neg h55_3, if_neg h70_4, if_neg h85_5, if_neg h100_6, if_neg h115_7, if_neg h130_8, if_pos h145_9, if_neg h167_10, if_pos h186_11]); (try rfl)))
                      · refine r_aload_n e_X11_findWord_170 rfl ?_
                        refine r_iconst e_X11_findWord_171 ic_5 ?_
                        refine r_putI e_X11_findWord_172 fl_X11_28 (by with_reducible assumption) ?_
                        refine r_aload_n e_X11_findWord_175 rfl ?_
                        refine r_iconst e_X11_findWord_176 ic_0 ?_
                        refine r_putI e_X11_findWord_177 fl_X11_21 (by with_reducible assumption) ?_
                        refine r_return e_X11_findWord_180 rfl ⟨rfl, rfl⟩ ?_
                        (refine ⟨?_, rfl, ?_⟩ <;> ((try unfold U_X11_findWord); (try simp only [if_neg h10_0, if_neg h25_1, if_neg h40_2, if_neg h55_3, if_neg h70_4, if_neg h85_5, if_neg h100_6, if_neg h115_7, if_neg h130_8, if_pos h145_9, if_pos h167_10]); (try rfl)))
                    · refine r_aload_n e_X11_findWord_148 rfl ?_
                      refine r_iconst e_X11_findWord_149 ic_3 ?_
                      refine r_putI e_X11_findWord_150 fl_X11_28 (by with_reducible assumption) ?_
                      refine r_aload_n e_X11_findWord_153 rfl ?_
                      refine r_lload_n e_X11_findWord_154 rfl ?_
                      refine r_l2i e_X11_findWord_155 ?_
                      refine r_iconst e_X11_findWord_156 ic_1 ?_
                      refine r_isub e_X11_findWord_157 ?_
                      refine r_putI e_X11_findWord_158 fl_X11_21 (by with_reducible assumption) ?_
                      refine r_return e_X11_findWord_161 rfl ⟨rfl, rfl⟩ ?_
                      (refine ⟨?_, rfl, ?_⟩ <;> ((try unfold U_X11_findWord); (try simp only [if_neg h10_0, if_neg h25_1, if_neg h40_2, if_neg h55_3, if_neg h70_4, if_neg h85_5, if_neg h100_6, if_neg h115_7, if_neg h130_8, if_neg h145_9]); (try rfl)))
                  · refine r_aload_n e_X11_findWord_133 rfl ?_
                    refine r_bipush e_X11_findWord_134 bp_18 ?_
                    refine r_putI e_X11_findWord_136 fl_X11_28 (by with_reducible assumption) ?_
                    refine r_return e_X11_findWord_139 rfl ⟨rfl, rfl⟩ ?_
                    (refine ⟨?_, rfl, ?_⟩ <;> ((try unfold U_X11_findWord); (try simp only [if_neg h10_0, if_neg h25_1, if_neg h40_2, if_neg h55_3, if_neg h70_4, if_neg h85_5, if_neg h100_6, if_neg h115_7, if_pos h130_8]); (try rfl)))
                · refine r_aload_n e_X11_findWord_118 rfl ?_
                  refine r_bipush e_X11_findWord_119 bp_17 ?_
                  refine r_putI e_X11_findWord_121 fl_X11_28 (by with_reducible assumption) ?_
                  refine r_return e_X11_findWord_124 rfl ⟨rfl, rfl⟩ ?_
                  (refine ⟨?_, rfl, ?_⟩ <;> ((try unfold U_X11_findWord); (try simp only [if_neg h10_0, if_neg h25_1, if_neg h40_2, if_neg h55_3, if_neg h70_4, if_neg h85_5, if_neg h100_6, if_pos h115_7]); (try rfl)))
              · refine r_aload_n e_X11_findWord_103 rfl ?_
                refine r_bipush e_X11_findWord_104 bp_16 ?_
                refine r_putI e_X11_findWord_106 fl_X11_28 (by with_reducible assumption) ?_
                refine r_return e_X11_findWord_109 rfl ⟨rfl, rfl⟩ ?_
                (refine ⟨?_, rfl, ?_⟩ <;> ((try unfold U_X11_findWord); (try simp only [if_neg h10_0, if_neg h25_1, if_neg h40_2, if_neg h55_3, if_neg h70_4, if_neg h85_5, if_pos h100_6]); (try rfl)))
            · refine r_aload_n e_X11_findWord_88 rfl ?_
              refine r_bipush e_X11_findWord_89 bp_15 ?_
              refine r_putI e_X11_findWord_91 fl_X11_28 (by with_reducible assumption) ?_
              refine r_return e_X11_findWord_94 rfl ⟨rfl, rfl⟩ ?_
              (refine ⟨?_, rfl, ?_⟩ <;> ((try unfold U_X11_findWord); (try simp only [if_neg h10_0, if_neg h25_1, if_neg h40_2, if_neg h55_3, if_neg h70_4, if_pos h85_5]); (try rfl)))
          · refine r_aload_n e_X11_findWord_73 rfl ?_
            refine r_bipush e_X11_findWord_74 bp_14 ?_
            refine r_putI e_X11_findWord_76 fl_X11_28 (by with_reducible assumption) ?_
            refine r_return e_X11_findWord_79 rfl ⟨rfl, rfl⟩ ?_
            (refine ⟨?_, rfl, ?_⟩ <;> ((try unfold U_X11_findWord); (try simp only [if_neg h10_0, if_neg h25_1, if_neg h40_2, if_neg h55_3, if_pos h70_4]); (try rfl)))
        · refine r_aload_n e_X11_findWord_58 rfl ?_
          refine r_bipush e_X11_findWord_59 bp_13 ?_
          refine r_putI e_X11_findWord_61 fl_X11_28 (by with_reducible assumption) ?_
          refine r_return e_X11_findWord_64 rfl ⟨rfl, rfl⟩ ?_
          (refine ⟨?_, rfl, ?_⟩ <;> ((try unfold U_X11_findWord); (try simp only [if_neg h10_0, if_neg h25_1, if_neg h40_2, if_pos h55_3]); (try rfl)))
      · refine r_aload_n e_X11_findWord_43 rfl ?_
        refine r_bipush e_X11_findWord_44 bp_12 ?_
        refine r_putI e_X11_findWord_46 fl_X11_28 (by with_reducible assumption) ?_
        refine r_return e_X11_findWord_49 rfl ⟨rfl, rfl⟩ ?_
        (refine ⟨?_, rfl, ?_⟩ <;> ((try unfold U_X11_findWord); (try simp only [if_neg h10_0, if_neg h25_1, if_pos h40_2]); (try rfl)))
    · refine r_aload_n e_X11_findWord_28 rfl ?_
      refine r_bipush e_X11_findWord_29 bp_11 ?_
      refine r_putI e_X11_findWord_31 fl_X11_28 (by with_reducible assumption) ?_
      refine r_return e_X11_findWord_34 rfl ⟨rfl, rfl⟩ ?_
      (refine ⟨?_, rfl, ?_⟩ <;> ((try unfold U_X11_findWord); (try simp only [if_neg h10_0, if_pos h25_1]); (try rfl)))
  · refine r_aload_n e_X11_findWord_13 rfl ?_
    refine r_bipush e_X11_findWord_14 bp_10 ?_
    refine r_putI e_X11_findWord_16 fl_X11_28 (by with_reducible assumption) ?_
    refine r_return e_X11_findWord_19 rfl ⟨rfl, rfl⟩ ?_
    (refine ⟨?_, rfl, ?_⟩ <;> ((try unfold U_X11_findWord); (try simp only [if_pos h10_0]); (try rfl)))
def V_X11_isFigure (x1 : Int32) (M : Mem) : Int32 := (let v0_0 : Int32 := if x1 < (48 : Int32) then (0 : Int32) else (if (57 : Int32) < x1 then (0 : Int32) else (1 : Int32)); v0_0)
theorem Z_X11_isFigure {M : Mem} {x1 : Int32}   : V_X11_isFigure x1 M = 0 ∨ V_X11_isFigure x1 M = 1 := (zi (Or.inl rfl) (zi (Or.inl rfl) (Or.inr rfl)))
theorem S_X11_isFigure {sh : List SC} {M : Mem} {x1 : Int32}   : Gv m_X11_isFigure [.int x1] sh M (.int (V_X11_isFigure x1 M)) M := by
  refine Sp.of (ls := [some (.int x1)]) (by decide +kernel) (Nat.le_of_ble_eq_true rfl) rfl ?_
  refine r_iload_n e_X11_isFigure_0 rfl ?_
  refine r_bipush e_X11_isFigure_1 bp_48 ?_
  obtain ⟨v0_0, e_v0_0⟩ : ∃ z : Int32, z = (if x1 < (48 : Int32) then (0 : Int32) else (if (57 : Int32) < x1 then (0 : Int32) else (1 : Int32))) := ⟨_, rfl⟩
  have z_v0_0 : v0_0 = 0 ∨ v0_0 = 1 := by rw [e_v0_0]; exact (zi (Or.inl rfl) (zi (Or.inl rfl) (Or.inr rfl)))
  suffices j17_0 : WP m_X11_isFigure (fun r sh' M'' => r = some (.int (V_X11_isFigure x1 M)) ∧ sh' = sh ∧ M'' = M) 17 [some (.int x1)] [.int v0_0] sh M 0 0 by
    refine r_icmp_lt e_X11_isFigure_3 (fun h3_0 => ?_) (fun h3_0 => ?_)
    · refine r_iconst e_X11_isFigure_16 ic_0 ?_
      rw [show v0_0 = (0 : Int32) from (e_v0_0.trans (if_pos h3_0))] at j17_0; exact j17_0
    · refine r_iload_n e_X11_isFigure_6 rfl ?_
      refine r_bipush e_X11_isFigure_7 bp_57 ?_
      refine r_icmp_gt e_X11_isFigure_9 (fun h9_1 => ?_) (fun h9_1 => ?_)
      · refine r_iconst e_X11_isFigure_16 ic_0 ?_
        rw [show v0_0 = (0 : Int32) from ((e_v0_0.trans (if_neg h3_0)).trans (if_pos h9_1))] at j17_0; exact j17_0
      · refine r_iconst e_X11_isFigure_12 ic_1 ?_
        refine r_goto e_X11_isFigure_13 ?_
        rw [show v0_0 = (1 : Int32) from ((e_v0_0.trans (if_neg h3_0)).trans (if_neg h9_1))] at j17_0; exact j17_0
  refine r_zreturn e_X11_isFigure_17 rfl ⟨rfl, rfl⟩ z_v0_0 ?_
  (subst e_v0_0; refine ⟨?_, rfl, ?_⟩ <;> ((try unfold V_X11_isFigure); (try simp only []); (try rfl)))
def V_X11_isSign (x1 : Int32) (M : Mem) : Int32 := (let v0_0 : Int32 := if x1 = (123 : Int32) then (1 : Int32) else (if x1 = (125 : Int32) then (1 : Int32) else (if x1 = (60 : Int32) then (1 : Int32) else (if x1 = (61 : Int32) then (1 : Int32) else (if x1 = (62 : Int32) then (1 : Int32) else (if x1 = (43 : Int32) then (1 : Int32) else (if x1 = (45 : Int32) then (1 : Int32) else (if x1 = (42 : Int32) then (1 : Int32) else (if x1 = (59 : Int32) then (1 : Int32) else (0 : Int32))))))))); v0_0)
theorem Z_X11_isSign {M : Mem} {x1 : Int32}   : V_X11_isSign x1 M = 0 ∨ V_X11_isSign x1 M = 1 := (zi (Or.inr rfl) (zi (Or.inr rfl) (zi (Or.inr rfl) (zi (Or.inr rfl) (zi (Or.inr rfl) (zi (Or.inr rfl) (zi (Or.inr rfl) (zi (Or.inr rfl) (zi (Or.inr rfl) (Or.inl rfl))))))))))
theorem S_X11_isSign {sh : List SC} {M : Mem} {x1 : Int32}   : Gv m_X11_isSign [.int x1] sh M (.int (V_X11_isSign x1 M)) M := by
  refine Sp.of (ls := [some (.int x1)]) (by decide +kernel) (Nat.le_of_ble_eq_true rfl) rfl ?_
  refine r_iload_n e_X11_isSign_0 rfl ?_
  refine r_bipush e_X11_isSign_1 bp_123 ?_
  obtain ⟨v0_0, e_v0_0⟩ : ∃ z : Int32, z = (if x1 = (123 : Int32) then (1 : Int32) else (if x1 = (125 : Int32) then (1 : Int32) else (if x1 = (60 : Int32) then (1 : Int32) else (if x1 = (61 : Int32) then (1 : Int32) else (if x1 = (62 : Int32) then (1 : Int32) else (if x1 = (43 : Int32) then (1 : Int32) else (if x1 = (45 : Int32) then (1 : Int32) else (if x1 = (42 : Int32) then (1 : Int32) else (if x1 = (59 : Int32) then (1 : Int32) else (0 : Int32)))))))))) := ⟨_, rfl⟩
  have z_v0_0 : v0_0 = 0 ∨ v0_0 = 1 := by rw [e_v0_0]; exact (zi (Or.inr rfl) (zi (Or.inr rfl) (zi (Or.inr rfl) (zi (Or.inr rfl) (zi (Or.inr rfl) (zi (Or.inr rfl) (zi (Or.inr rfl) (zi (Or.inr rfl) (zi (Or.inr rfl) (Or.inl rfl))))))))))
  suffices j59_0 : WP m_X11_isSign (fun r sh' M'' => r = some (.int (V_X11_isSign x1 M)) ∧ sh' = sh ∧ M'' = M) 59 [some (.int x1)] [.int v0_0] sh M 0 0 by
    refine r_icmp_eq e_X11_isSign_3 (fun h3_0 => ?_) (fun h3_0 => ?_)
    · refine r_iconst e_X11_isSign_54 ic_1 ?_
      refine r_goto e_X11_isSign_55 ?_
      rw [show v0_0 = (1 : Int32) from (e_v0_0.trans (if_pos h3_0))] at j59_0; exact j59_0
    · refine r_iload_n e_X11_isSign_6 rfl ?_
      refine r_bipush e_X11_isSign_7 bp_125 ?_
      refine r_icmp_eq e_X11_isSign_9 (fun h9_1 => ?_) (fun h9_1 => ?_)
      · refine r_iconst e_X11_isSign_54 ic_1 ?_
        refine r_goto e_X11_isSign_55 ?_
        rw [show v0_0 = (1 : Int32) from ((e_v0_0.trans (if_neg h3_0)).trans (if_pos h9_1))] at j59_0; exact j59_0
      · refine r_iload_n e_X11_isSign_12 rfl ?_
        refine r_bipush e_X11_isSign_13 bp_60 ?_
        refine r_icmp_eq e_X11_isSign_15 (fun h15_2 => ?_) (fun h15_2 => ?_)
        · refine r_iconst e_X11_isSign_54 ic_1 ?_
          refine r_goto e_X11_isSign_55 ?_
          rw [show v0_0 = (1 : Int32) from (((e_v0_0.trans (if_neg h3_0)).trans (if_neg h9_1)).trans (if_pos h15_2))] at j59_0; exact j59_0
        · refine r_iload_n e_X11_isSign_18 rfl ?_
          refine r_bipush e_X11_isSign_19 bp_61 ?_
          refine r_icmp_eq e_X11_isSign_21 (fun h21_3 => ?_) (fun h21_3 => ?_)
          · refine r_iconst e_X11_isSign_54 ic_1 ?_
            refine r_goto e_X11_isSign_55 ?_
            rw [show v0_0 = (1 : Int32) from ((((e_v0_0.trans (if_neg h3_0)).trans (if_neg h9_1)).trans (if_neg h15_2)).trans (if_pos h21_3))] at j59_0; exact j59_0
          · refine r_iload_n e_X11_isSign_24 rfl ?_
            refine r_bipush e_X11_isSign_25 bp_62 ?_
            refine r_icmp_eq e_X11_isSign_27 (fun h27_4 => ?_) (fun h27_4 => ?_)
            · refine r_iconst e_X11_isSign_54 ic_1 ?_
              refine r_goto e_X11_isSign_55 ?_
              rw [show v0_0 = (1 : Int32) from (((((e_v0_0.trans (if_neg h3_0)).trans (if_neg h9_1)).trans (if_neg h15_2)).trans (if_neg h21_3)).trans (if_pos h27_4))] at j59_0; exact j59_0
            · refine r_iload_n e_X11_isSign_30 rfl ?_
              refine r_bipush e_X11_isSign_31 bp_43 ?_
              refine r_icmp_eq e_X11_isSign_33 (fun h33_5 => ?_) (fun h33_5 => ?_)
              · refine r_iconst e_X11_isSign_54 ic_1 ?_
                refine r_goto e_X11_isSign_55 ?_
                rw [show v0_0 = (1 : Int32) from ((((((e_v0_0.trans (if_neg h3_0)).trans (if_neg h9_1)).trans (if_neg h15_2)).trans (if_neg h21_3)).trans (if_neg h27_4)).trans (if_pos h33_5))] at j59_0; exact j59_0
              · refine r_iload_n e_X11_isSign_36 rfl ?_
                refine r_bipush e_X11_isSign_37 bp_45 ?_
                refine r_icmp_eq e_X11_isSign_39 (fun h39_6 => ?_) (fun h39_6 => ?_)
                · refine r_iconst e_X11_isSign_54 ic_1 ?_
                  refine r_goto e_X11_isSign_55 ?_
                  rw [show v0_0 = (1 : Int32) from (((((((e_v0_0.trans (if_neg h3_0)).trans (if_neg h9_1)).trans (if_neg h15_2)).trans (if_neg h21_3)).trans (if_neg h27_4)).trans (if_neg h33_5)).trans (if_pos h39_6))] at j59_0; exact j59_0
                · refine r_iload_n e_X11_isSign_42 rfl ?_
                  refine r_bipush e_X11_isSign_43 bp_42 ?_
                  refine r_icmp_eq e_X11_isSign_45 (fun h45_7 => ?_) (fun h45_7 => ?_)
                  · refine r_iconst e_X11_isSign_54 ic_1 ?_
                    refine r_goto e_X11_isSign_55 ?_
                    rw [show v0_0 = (1 : Int32) from ((((((((e_v0_0.trans (if_neg h3_0)).trans (if_neg h9_1)).trans (if_neg h15_2)).trans (if_neg h21_3)).trans (if_neg h27_4)).trans (if_neg h33_5)).trans (if_neg h39_6)).trans (if_pos h45_7))] at j59_0; exact j59_0
                  · refine r_iload_n e_X11_isSign_48 rfl ?_
                    refine r_bipush e_X11_isSign_49 bp_59 ?_
                    refine r_icmp_ne e_X11_isSign_51 (fun h51_8 => ?_) (fun h51_8 => ?_)
                    · refine r_iconst e_X11_isSign_58 ic_0 ?_
                      rw [show v0_0 = (0 : Int32) from (((((((((e_v0_0.trans (if_neg h3_0)).trans (if_neg h9_1)).trans (if_neg h15_2)).trans (if_neg h21_3)).trans (if_neg h27_4)).trans (if_neg h33_5)).trans (if_neg h39_6)).trans (if_neg h45_7)).trans (if_neg h51_8))] at j59_0; exact j59_0
                    · refine r_iconst e_X11_isSign_54 ic_1 ?_
                      refine r_goto e_X11_isSign_55 ?_
                      rw [show v0_0 = (1 : Int32) from (((((((((e_v0_0.trans (if_neg h3_0)).trans (if_neg h9_1)).trans (if_neg h15_2)).trans (if_neg h21_3)).trans (if_neg h27_4)).trans (if_neg h33_5)).trans (if_neg h39_6)).trans (if_neg h45_7)).trans (if_pos h51_8))] at j59_0; exact j59_0
  refine r_zreturn e_X11_isSign_59 rfl ⟨rfl, rfl⟩ z_v0_0 ?_
  (subst e_v0_0; refine ⟨?_, rfl, ?_⟩ <;> ((try unfold V_X11_isSign); (try simp only []); (try rfl)))
def V_X11_wrong (a : Nat) (M : Mem) : Int32 := (0 : Int32)
theorem Z_X11_wrong {M : Mem} {a : Nat}   : V_X11_wrong a M = 0 ∨ V_X11_wrong a M = 1 := (Or.inl rfl)
def U_X11_wrong (a : Nat) (M : Mem) : Mem := setI M a 2 (M.1 a 3)
theorem S_X11_wrong {sh : List SC} {M : Mem} {a : Nat}  (g1 : kd sh a = some (10 + 7, 0)) : Gv m_X11_wrong [.ref a] sh M (.int (V_X11_wrong a M)) (U_X11_wrong a M) := by
  refine Sp.of (ls := [some (.ref a)]) (by decide +kernel) (Nat.le_of_ble_eq_true rfl) rfl ?_
  refine r_aload_n e_X11_wrong_0 rfl ?_
  refine r_aload_n e_X11_wrong_1 rfl ?_
  refine r_getI e_X11_wrong_2 fl_X11_18 i0 (by with_reducible assumption) ?_
  refine r_putI e_X11_wrong_5 fl_X11_99 (by with_reducible assumption) ?_
  refine r_iconst e_X11_wrong_8 ic_0 ?_
  refine r_zreturn e_X11_wrong_9 rfl ⟨rfl, rfl⟩ (by first | exact Or.inl rfl | exact Or.inr rfl) ?_
  (refine ⟨?_, rfl, ?_⟩ <;> ((try unfold V_X11_wrong); (try unfold U_X11_wrong); (try simp only []); (try rfl)))
def V_X11_fault (a : Nat) (M : Mem) : Int32 := (M.1 a 2)
theorem S_X11_fault {sh : List SC} {M : Mem} {a : Nat}  (g1 : kd sh a = some (10 + 7, 0)) : Gv m_X11_fault [.ref a] sh M (.int (V_X11_fault a M)) M := by
  refine Sp.of (ls := [some (.ref a)]) (by decide +kernel) (Nat.le_of_ble_eq_true rfl) rfl ?_
  refine r_aload_n e_X11_fault_0 rfl ?_
  refine r_getI e_X11_fault_1 fl_X11_99 i0 (by with_reducible assumption) ?_
  refine r_ireturn e_X11_fault_4 rfl ⟨rfl, rfl⟩ ?_
  (refine ⟨?_, rfl, ?_⟩ <;> ((try unfold V_X11_fault); (try simp only []); (try rfl)))
def V_X11_in (x1 : Int32) (x2 : Int32) (x3 : Int32) (M : Mem) : Int32 := (let v0_0 : Int32 := if x1 < x2 then (0 : Int32) else (if x3 < x1 then (0 : Int32) else (1 : Int32)); v0_0)
theorem Z_X11_in {M : Mem} {x1 : Int32} {x2 : Int32} {x3 : Int32}   : V_X11_in x1 x2 x3 M = 0 ∨ V_X11_in x1 x2 x3 M = 1 := (zi (Or.inl rfl) (zi (Or.inl rfl) (Or.inr rfl)))
theorem S_X11_in {sh : List SC} {M : Mem} {x1 : Int32} {x2 : Int32} {x3 : Int32}   : Gv m_X11_in [.int x1, .int x2, .int x3] sh M (.int (V_X11_in x1 x2 x3 M)) M := by
  refine Sp.of (ls := [some (.int x1), some (.int x2), some (.int x3)]) (by decide +kernel) (Nat.le_of_ble_eq_true rfl) rfl ?_
  refine r_iload_n e_X11_in_0 rfl ?_
  refine r_iload_n e_X11_in_1 rfl ?_
  obtain ⟨v0_0, e_v0_0⟩ : ∃ z : Int32, z = (if x1 < x2 then (0 : Int32) else (if x3 < x1 then (0 : Int32) else (1 : Int32))) := ⟨_, rfl⟩
  have z_v0_0 : v0_0 = 0 ∨ v0_0 = 1 := by rw [e_v0_0]; exact (zi (Or.inl rfl) (zi (Or.inl rfl) (Or.inr rfl)))
  suffices j15_0 : WP m_X11_in (fun r sh' M'' => r = some (.int (V_X11_in x1 x2 x3 M)) ∧ sh' = sh ∧ M'' = M) 15 [some (.int x1), some (.int x2), some (.int x3)] [.int v0_0] sh M 0 0 by
    refine r_icmp_lt e_X11_in_2 (fun h2_0 => ?_) (fun h2_0 => ?_)
    · refine r_iconst e_X11_in_14 ic_0 ?_
      rw [show v0_0 = (0 : Int32) from (e_v0_0.trans (if_pos h2_0))] at j15_0; exact j15_0
    · refine r_iload_n e_X11_in_5 rfl ?_
      refine r_iload_n e_X11_in_6 rfl ?_
      refine r_icmp_gt e_X11_in_7 (fun h7_1 => ?_) (fun h7_1 => ?_)
      · refine r_iconst e_X11_in_14 ic_0 ?_
        rw [show v0_0 = (0 : Int32) from ((e_v0_0.trans (if_neg h2_0)).trans (if_pos h7_1))] at j15_0; exact j15_0
      · refine r_iconst e_X11_in_10 ic_1 ?_
        refine r_goto e_X11_in_11 ?_
        rw [show v0_0 = (1 : Int32) from ((e_v0_0.trans (if_neg h2_0)).trans (if_neg h7_1))] at j15_0; exact j15_0
  refine r_zreturn e_X11_in_15 rfl ⟨rfl, rfl⟩ z_v0_0 ?_
  (subst e_v0_0; refine ⟨?_, rfl, ?_⟩ <;> ((try unfold V_X11_in); (try simp only []); (try rfl)))
def U_X11_set (a : Nat) (x1 : Int32) (x2 : Int32) (x3 : Int32) (q1 : Nat) (M : Mem) : Mem := setI M q1 (((44 : Int32) + ((16 : Int32) * x1)) + x2).toNatClampNeg x3
theorem S_X11_set {sh : List SC} {M : Mem} {a : Nat} {x1 : Int32} {x2 : Int32} {x3 : Int32} {q1 : Nat} (g1 : kd sh a = some (10 + 7, 0)) (g2 : rf sh a 27 = some q1) (g3 : kd sh q1 = some (0, 212)) (g4 : vp_in (((44 : Int32) + ((16 : Int32) * x1)) + x2) 212) : Gu m_X11_set [.ref a, .int x1, .int x2, .int x3] sh M (U_X11_set a x1 x2 x3 q1 M) := by
  refine Sp.of (ls := [some (.ref a), some (.int x1), some (.int x2), some (.int x3)]) (by decide +kernel) (Nat.le_of_ble_eq_true rfl) rfl ?_
  refine r_aload_n e_X11_set_0 rfl ?_
  refine r_getR e_X11_set_1 fl_X11_212 (by with_reducible assumption) (by with_reducible assumption) ?_
  refine r_bipush e_X11_set_4 bp_44 ?_
  refine r_bipush e_X11_set_6 bp_16 ?_
  refine r_iload_n e_X11_set_8 rfl ?_
  refine r_imul e_X11_set_9 ?_
  refine r_iadd e_X11_set_10 ?_
  refine r_iload_n e_X11_set_11 rfl ?_
  refine r_iadd e_X11_set_12 ?_
  refine r_iload_n e_X11_set_13 rfl ?_
  refine r_iastore e_X11_set_14 (by with_reducible assumption) (by with_reducible assumption) ?_
  refine r_return e_X11_set_15 rfl ⟨rfl, rfl⟩ ?_
  (refine ⟨?_, rfl, ?_⟩ <;> ((try unfold U_X11_set); (try simp only []); (try rfl)))
def V_X11_of (a : Nat) (x1 : Int32) (x2 : Int32) (q1 : Nat) (M : Mem) : Int32 := (M.1 q1 (((44 : Int32) + ((16 : Int32) * x1)) + x2).toNatClampNeg)
theorem S_X11_of {sh : List SC} {M : Mem} {a : Nat} {x1 : Int32} {x2 : Int32} {q1 : Nat} (g1 : kd sh a = some (10 + 7, 0)) (g2 : rf sh a 27 = some q1) (g3 : kd sh q1 = some (0, 212)) (g4 : vp_in (((44 : Int32) + ((16 : Int32) * x1)) + x2) 212) : Gv m_X11_of [.ref a, .int x1, .int x2] sh M (.int (V_X11_of a x1 x2 q1 M)) M := by
  refine Sp.of (ls := [some (.ref a), some (.int x1), some (.int x2)]) (by decide +kernel) (Nat.le_of_ble_eq_true rfl) rfl ?_
  refine r_aload_n e_X11_of_0 rfl ?_
  refine r_getR e_X11_of_1 fl_X11_212 (by with_reducible assumption) (by with_reducible assumption) ?_
  refine r_bipush e_X11_of_4 bp_44 ?_
  refine r_bipush e_X11_of_6 bp_16 ?_
  refine r_iload_n e_X11_of_8 rfl ?_
  refine r_imul e_X11_of_9 ?_
  refine r_iadd e_X11_of_10 ?_
  refine r_iload_n e_X11_of_11 rfl ?_
  refine r_iadd e_X11_of_12 ?_
  refine r_iaload e_X11_of_13 (by with_reducible assumption) (by with_reducible assumption) ?_
  refine r_ireturn e_X11_of_14 rfl ⟨rfl, rfl⟩ ?_
  (refine ⟨?_, rfl, ?_⟩ <;> ((try unfold V_X11_of); (try simp only []); (try rfl)))
def V_X11_distance (x1 : Int32) (x2 : Int32) (x3 : Int32) (x4 : Int32) (M : Mem) : Int32 := (if (if 0 ≤ (x1 - x3) then (x1 - x3) else 0 - (x1 - x3)) < (if 0 ≤ (x2 - x4) then (x2 - x4) else 0 - (x2 - x4)) then (if 0 ≤ (x2 - x4) then (x2 - x4) else 0 - (x2 - x4)) else (if 0 ≤ (x1 - x3) then (x1 - x3) else 0 - (x1 - x3)))
theorem S_X11_distance {sh : List SC} {M : Mem} {x1 : Int32} {x2 : Int32} {x3 : Int32} {x4 : Int32}   : Gv m_X11_distance [.int x1, .int x2, .int x3, .int x4] sh M (.int (V_X11_distance x1 x2 x3 x4 M)) M := by
  refine Sp.of (ls := [some (.int x1), some (.int x2), some (.int x3), some (.int x4)]) (by decide +kernel) (Nat.le_of_ble_eq_true rfl) rfl ?_
  refine r_iload_n e_X11_distance_0 rfl ?_
  refine r_iload_n e_X11_distance_1 rfl ?_
  refine r_isub e_X11_distance_2 ?_
  refine r_mabs e_X11_distance_3 cl_X11_256 ⟨Nat.le_of_ble_eq_true rfl, Nat.le_of_ble_eq_true rfl, Nat.zero_le _, Nat.zero_le _⟩ (Nat.le_of_ble_eq_true rfl) ?_
  refine r_iload_n e_X11_distance_6 rfl ?_
  refine r_iload_n e_X11_distance_7 rfl ?_
  refine r_isub e_X11_distance_8 ?_
  refine r_mabs e_X11_distance_9 cl_X11_256 ⟨Nat.le_of_ble_eq_true rfl, Nat.le_of_ble_eq_true rfl, Nat.zero_le _, Nat.zero_le _⟩ (Nat.le_of_ble_eq_true rfl) ?_
  refine r_mmax e_X11_distance_12 cl_X11_261 ⟨Nat.le_of_ble_eq_true rfl, Nat.le_of_ble_eq_true rfl, Nat.zero_le _, Nat.zero_le _⟩ (Nat.le_of_ble_eq_true rfl) ?_
  refine r_ireturn e_X11_distance_15 rfl ⟨rfl, rfl⟩ ?_
  (refine ⟨?_, rfl, ?_⟩ <;> ((try unfold V_X11_distance); (try simp only []); (try rfl)))
def U_X11_stopBall (a : Nat) (q1 : Nat) (M : Mem) : Mem := setI (setI (setI M q1 (17 : Int32).toNatClampNeg (0 : Int32)) q1 (18 : Int32).toNatClampNeg (0 : Int32)) q1 (19 : Int32).toNatClampNeg (0 : Int32)
theorem S_X11_stopBall {sh : List SC} {M : Mem} {a : Nat} {q1 : Nat} (g1 : kd sh a = some (10 + 7, 0)) (g2 : rf sh a 27 = some q1) (g3 : kd sh q1 = some (0, 212)) : Gu m_X11_stopBall [.ref a] sh M (U_X11_stopBall a q1 M) := by
  refine Sp.of (ls := [some (.ref a)]) (by decide +kernel) (Nat.le_of_ble_eq_true rfl) rfl ?_
  refine r_aload_n e_X11_stopBall_0 rfl ?_
  refine r_getR e_X11_stopBall_1 fl_X11_212 (by with_reducible assumption) (by with_reducible assumption) ?_
  refine r_bipush e_X11_stopBall_4 bp_17 ?_
  refine r_iconst e_X11_stopBall_6 ic_0 ?_
  refine r_iastore e_X11_stopBall_7 (by with_reducible assumption) (by unfold vp_in; decide) ?_
  refine r_aload_n e_X11_stopBall_8 rfl ?_
  refine r_getR e_X11_stopBall_9 fl_X11_212 (by with_reducible assumption) (by with_reducible assumption) ?_
  refine r_bipush e_X11_stopBall_12 bp_18 ?_
  refine r_iconst e_X11_stopBall_14 ic_0 ?_
  refine r_iastore e_X11_stopBall_15 (by with_reducible assumption) (by unfold vp_in; decide) ?_
  refine r_aload_n e_X11_stopBall_16 rfl ?_
  refine r_getR e_X11_stopBall_17 fl_X11_212 (by with_reducible assumption) (by with_reducible assumption) ?_
  refine r_bipush e_X11_stopBall_20 bp_19 ?_
  refine r_iconst e_X11_stopBall_22 ic_0 ?_
  refine r_iastore e_X11_stopBall_23 (by with_reducible assumption) (by unfold vp_in; decide) ?_
  refine r_return e_X11_stopBall_24 rfl ⟨rfl, rfl⟩ ?_
  (refine ⟨?_, rfl, ?_⟩ <;> ((try unfold U_X11_stopBall); (try simp only []); (try rfl)))
def V_X11_isMatch (a : Nat) (q1 : Nat) (M : Mem) : Int32 := (let v0_0 : Int32 := if (M.1 q1 (0 : Int32).toNatClampNeg) = (1 : Int32) then (1 : Int32) else (0 : Int32); v0_0)
theorem Z_X11_isMatch {M : Mem} {a : Nat} {q1 : Nat}  : V_X11_isMatch a q1 M = 0 ∨ V_X11_isMatch a q1 M = 1 := (zi (Or.inr rfl) (Or.inl rfl))
theorem S_X11_isMatch {sh : List SC} {M : Mem} {a : Nat} {q1 : Nat} (g1 : kd sh a = some (10 + 7, 0)) (g2 : rf sh a 27 = some q1) (g3 : kd sh q1 = some (0, 212)) : Gv m_X11_isMatch [.ref a] sh M (.int (V_X11_isMatch a q1 M)) M := by
  refine Sp.of (ls := [some (.ref a)]) (by decide +kernel) (Nat.le_of_ble_eq_true rfl) rfl ?_
  refine r_aload_n e_X11_isMatch_0 rfl ?_
  refine r_getR e_X11_isMatch_1 fl_X11_212 (by with_reducible assumption) (by with_reducible assumption) ?_
  refine r_iconst e_X11_isMatch_4 ic_0 ?_
  refine r_iaload e_X11_isMatch_5 (by with_reducible assumption) (by unfold vp_in; decide) ?_
  refine r_iconst e_X11_isMatch_6 ic_1 ?_
  obtain ⟨v0_0, e_v0_0⟩ : ∃ z : Int32, z = (if (M.1 q1 (0 : Int32).toNatClampNeg) = (1 : Int32) then (1 : Int32) else (0 : Int32)) := ⟨_, rfl⟩
  have z_v0_0 : v0_0 = 0 ∨ v0_0 = 1 := by rw [e_v0_0]; exact (zi (Or.inr rfl) (Or.inl rfl))
  suffices j15_0 : WP m_X11_isMatch (fun r sh' M'' => r = some (.int (V_X11_isMatch a q1 M)) ∧ sh' = sh ∧ M'' = M) 15 [some (.ref a)] [.int v0_0] sh M 0 0 by
    refine r_icmp_ne e_X11_isMatch_7 (fun h7_0 => ?_) (fun h7_0 => ?_)
    · refine r_iconst e_X11_isMatch_14 ic_0 ?_
      rw [show v0_0 = (0 : Int32) from (e_v0_0.trans (if_neg h7_0))] at j15_0; exact j15_0
    · refine r_iconst e_X11_isMatch_10 ic_1 ?_
      refine r_goto e_X11_isMatch_11 ?_
      rw [show v0_0 = (1 : Int32) from (e_v0_0.trans (if_pos h7_0))] at j15_0; exact j15_0
  refine r_zreturn e_X11_isMatch_15 rfl ⟨rfl, rfl⟩ z_v0_0 ?_
  (subst e_v0_0; refine ⟨?_, rfl, ?_⟩ <;> ((try unfold V_X11_isMatch); (try simp only []); (try rfl)))
def U_X11_see (a : Nat) (x1 : Int32) (q1 : Nat) (M : Mem) : Mem := if (V_X11_of a x1 (15 : Int32) q1 M) ≤ 0 then (U_X11_set a x1 (9 : Int32) ((U_X11_set a x1 (8 : Int32) (M.1 q1 ((204 : Int32) + ((if ((M.1 q1 (3 : Int32).toNatClampNeg) - (V_X11_of a x1 (14 : Int32) q1 M)) < (M.1 q1 (13 : Int32).toNatClampNeg) then (M.1 q1 (13 : Int32).toNatClampNeg) else ((M.1 q1 (3 : Int32).toNatClampNeg) - (V_X11_of a x1 (14 : Int32) q1 M))) - (if ((M.1 q1 (3 : Int32).toNatClampNeg) - (V_X11_of a x1 (14 : Int32) q1 M)) < (M.1 q1 (13 : Int32).toNatClampNeg) then (M.1 q1 (13 : Int32).toNatClampNeg) else ((M.1 q1 (3 : Int32).toNatClampNeg) - (V_X11_of a x1 (14 : Int32) q1 M))) / (4 : Int32) * (4 : Int32))).toNatClampNeg) q1 M).1 q1 ((208 : Int32) + ((if ((M.1 q1 (3 : Int32).toNatClampNeg) - (V_X11_of a x1 (14 : Int32) q1 M)) < (M.1 q1 (13 : Int32).toNatClampNeg) then (M.1 q1 (13 : Int32).toNatClampNeg) else ((M.1 q1 (3 : Int32).toNatClampNeg) - (V_X11_of a x1 (14 : Int32) q1 M))) - (if ((M.1 q1 (3 : Int32).toNatClampNeg) - (V_X11_of a x1 (14 : Int32) q1 M)) < (M.1 q1 (13 : Int32).toNatClampNeg) then (M.1 q1 (13 : Int32).toNatClampNeg) else ((M.1 q1 (3 : Int32).toNatClampNeg) - (V_X11_of a x1 (14 : Int32) q1 M))) / (4 : Int32) * (4 : Int32))).toNatClampNeg) q1 (U_X11_set a x1 (8 : Int32) (M.1 q1 ((204 : Int32) + ((if ((M.1 q1 (3 : Int32).toNatClampNeg) - (V_X11_of a x1 (14 : Int32) q1 M)) < (M.1 q1 (13 : Int32).toNatClampNeg) then (M.1 q1 (13 : Int32).toNatClampNeg) else ((M.1 q1 (3 : Int32).toNatClampNeg) - (V_X11_of a x1 (14 : Int32) q1 M))) - (if ((M.1 q1 (3 : Int32).toNatClampNeg) - (V_X11_of a x1 (14 : Int32) q1 M)) < (M.1 q1 (13 : Int32).toNatClampNeg) then (M.1 q1 (13 : Int32).toNatClampNeg) else ((M.1 q1 (3 : Int32).toNatClampNeg) - (V_X11_of a x1 (14 : Int32) q1 M))) / (4 : Int32) * (4 : Int32))).toNatClampNeg) q1 M)) else (if (((M.1 q1 (3 : Int32).toNatClampNeg) + (x1 - x1 / (5 : Int32) * (5 : Int32))) - ((M.1 q1 (3 : Int32).toNatClampNeg) + (x1 - x1 / (5 : Int32) * (5 : Int32))) / (V_X11_of a x1 (15 : Int32) q1 M) * (V_X11_of a x1 (15 : Int32) q1 M)) = 0 then M else (U_X11_set a x1 (9 : Int32) ((U_X11_set a x1 (8 : Int32) (M.1 q1 ((204 : Int32) + ((if ((M.1 q1 (3 : Int32).toNatClampNeg) - (V_X11_of a x1 (14 : Int32) q1 M)) < (M.1 q1 (13 : Int32).toNatClampNeg) then (M.1 q1 (13 : Int32).toNatClampNeg) else ((M.1 q1 (3 : Int32).toNatClampNeg) - (V_X11_of a x1 (14 : Int32) q1 M))) - (if ((M.1 q1 (3 : Int32).toNatClampNeg) - (V_X11_of a x1 (14 : Int32) q1 M)) < (M.1 q1 (13 : Int32).toNatClampNeg) then (M.1 q1 (13 : Int32).toNatClampNeg) else ((M.1 q1 (3 : Int32).toNatClampNeg) - (V_X11_of a x1 (14 : Int32) q1 M))) / (4 : Int32) * (4 : Int32))).toNatClampNeg) q1 M).1 q1 ((208 : Int32) + ((if ((M.1 q1 (3 : Int32).toNatClampNeg) - (V_X11_of a x1 (14 : Int32) q1 M)) < (M.1 q1 (13 : Int32).toNatClampNeg) then (M.1 q1 (13 : Int32).toNatClampNeg) else ((M.1 q1 (3 : Int32).toNatClampNeg) - (V_X11_of a x1 (14 : Int32) q1 M))) - (if ((M.1 q1 (3 : Int32).toNatClampNeg) - (V_X11_of a x1 (14 : Int32) q1 M)) < (M.1 q1 (13 : Int32).toNatClampNeg) then (M.1 q1 (13 : Int32).toNatClampNeg) else ((M.1 q1 (3 : Int32).toNatClampNeg) - (V_X11_of a x1 (14 : Int32) q1 M))) / (4 : Int32) * (4 : Int32))).toNatClampNeg) q1 (U_X11_set a x1 (8 : Int32) (M.1 q1 ((204 : Int32) + ((if ((M.1 q1 (3 : Int32).toNatClampNeg) - (V_X11_of a x1 (14 : Int32) q1 M)) < (M.1 q1 (13 : Int32).toNatClampNeg) then (M.1 q1 (13 : Int32).toNatClampNeg) else ((M.1 q1 (3 : Int32).toNatClampNeg) - (V_X11_of a x1 (14 : Int32) q1 M))) - (if ((M.1 q1 (3 : Int32).toNatClampNeg) - (V_X11_of a x1 (14 : Int32) q1 M)) < (M.1 q1 (13 : Int32).toNatClampNeg) then (M.1 q1 (13 : Int32).toNatClampNeg) else ((M.1 q1 (3 : Int32).toNatClampNeg) - (V_X11_of a x1 (14 : Int32) q1 M))) / (4 : Int32) * (4 : Int32))).toNatClampNeg) q1 M)))
theorem S_X11_see {sh : List SC} {M : Mem} {a : Nat} {x1 : Int32} {q1 : Nat} (g1 : kd sh a = some (10 + 7, 0)) (g2 : rf sh a 27 = some q1) (g3 : kd sh q1 = some (0, 212)) (g4 : vp_in (((44 : Int32) + ((16 : Int32) * x1)) + (15 : Int32)) 212) (g5 : vp_in (((44 : Int32) + ((16 : Int32) * x1)) + (14 : Int32)) 212) (g6 : vp_in ((204 : Int32) + ((if ((M.1 q1 (3 : Int32).toNatClampNeg) - (V_X11_of a x1 (14 : Int32) q1 M)) < (M.1 q1 (13 : Int32).toNatClampNeg) then (M.1 q1 (13 : Int32).toNatClampNeg) else ((M.1 q1 (3 : Int32).toNatClampNeg) - (V_X11_of a x1 (14 : Int32) q1 M))) - (if ((M.1 q1 (3 : Int32).toNatClampNeg) - (V_X11_of a x1 (14 : Int32) q1 M)) < (M.1 q1 (13 : Int32).toNatClampNeg) then (M.1 q1 (13 : Int32).toNatClampNeg) else ((M.1 q1 (3 : Int32).toNatClampNeg) - (V_X11_of a x1 (14 : Int32) q1 M))) / (4 : Int32) * (4 : Int32))) 212) (g7 : vp_in (((44 : Int32) + ((16 : Int32) * x1)) + (8 : Int32)) 212) (g8 : vp_in ((208 : Int32) + ((if ((M.1 q1 (3 : Int32).toNatClampNeg) - (V_X11_of a x1 (14 : Int32) q1 M)) < (M.1 q1 (13 : Int32).toNatClampNeg) then (M.1 q1 (13 : Int32).toNatClampNeg) else ((M.1 q1 (3 : Int32).toNatClampNeg) - (V_X11_of a x1 (14 : Int32) q1 M))) - (if ((M.1 q1 (3 : Int32).toNatClampNeg) - (V_X11_of a x1 (14 : Int32) q1 M)) < (M.1 q1 (13 : Int32).toNatClampNeg) then (M.1 q1 (13 : Int32).toNatClampNeg) else ((M.1 q1 (3 : Int32).toNatClampNeg) - (V_X11_of a x1 (14 : Int32) q1 M))) / (4 : Int32) * (4 : Int32))) 212) (g9 : vp_in (((44 : Int32) + ((16 : Int32) * x1)) + (9 : Int32)) 212) : Gu m_X11_see [.ref a, .int x1] sh M (U_X11_see a x1 q1 M) := by
  refine Sp.of (ls := [some (.ref a), some (.int x1), none, none, none]) (by decide +kernel) (Nat.le_of_ble_eq_true rfl) rfl ?_
  refine r_aload_n e_X11_see_0 rfl ?_
  refine r_iload_n e_X11_see_1 rfl ?_
  refine r_bipush e_X11_see_2 bp_15 ?_
  refine cV2v e_X11_see_4 cl_X11_252 ⟨Nat.le_of_ble_eq_true rfl, Nat.le_of_ble_eq_true rfl⟩ ⟨rfl, rfl⟩ (by with_reducible assumption) (Nat.le_of_ble_eq_true rfl) (S_X11_of (by with_reducible assumption) (by with_reducible assumption) (by with_reducible assumption) (by with_reducible assumption)) ?_
  refine p_istore_n_5_2 e_X11_see_7 rfl rfl ?_
  refine r_aload_n e_X11_see_8 rfl ?_
  refine r_getR e_X11_see_9 fl_X11_212 (by with_reducible assumption) (by with_reducible assumption) ?_
  refine r_iconst e_X11_see_12 ic_3 ?_
  refine r_iaload e_X11_see_13 (by with_reducible assumption) (by unfold vp_in; decide) ?_
  refine p_istore_n_5_3 e_X11_see_14 rfl rfl ?_
  refine r_iload_n e_X11_see_15 rfl ?_
  refine r_if_le e_X11_see_16 (fun h16_0 => ?_) (fun h16_0 => ?_)
  · refine r_iload_n e_X11_see_30 rfl ?_
    refine r_aload_n e_X11_see_31 rfl ?_
    refine r_iload_n e_X11_see_32 rfl ?_
    refine r_bipush e_X11_see_33 bp_14 ?_
    refine cV2v e_X11_see_35 cl_X11_252 ⟨Nat.le_of_ble_eq_true rfl, Nat.le_of_ble_eq_true rfl⟩ ⟨rfl, rfl⟩ (by with_reducible assumption) (Nat.le_of_ble_eq_true rfl) (S_X11_of (by with_reducible assumption) (by with_reducible assumption) (by with_reducible assumption) (by with_reducible assumption)) ?_
    refine r_isub e_X11_see_38 ?_
    refine r_aload_n e_X11_see_39 rfl ?_
    refine r_getR e_X11_see_40 fl_X11_212 (by with_reducible assumption) (by with_reducible assumption) ?_
    refine r_bipush e_X11_see_43 bp_13 ?_
    refine r_iaload e_X11_see_45 (by with_reducible assumption) (by unfold vp_in; decide) ?_
    refine r_mmax e_X11_see_46 cl_X11_261 ⟨Nat.le_of_ble_eq_true rfl, Nat.le_of_ble_eq_true rfl, Nat.zero_le _, Nat.zero_le _⟩ (Nat.le_of_ble_eq_true rfl) ?_
    refine p_istore_5_4 e_X11_see_49 rfl rfl ?_
    refine r_aload_n e_X11_see_51 rfl ?_
    refine r_iload_n e_X11_see_52 rfl ?_
    refine r_bipush e_X11_see_53 bp_8 ?_
    refine r_aload_n e_X11_see_55 rfl ?_
    refine r_getR e_X11_see_56 fl_X11_212 (by with_reducible assumption) (by with_reducible assumption) ?_
    refine r_sipush e_X11_see_59 sp_204 ?_
    refine r_iload e_X11_see_62 rfl ?_
    refine r_iconst e_X11_see_64 ic_4 ?_
    refine r_irem e_X11_see_65 (by decide) ?_
    refine r_iadd e_X11_see_66 ?_
    refine r_iaload e_X11_see_67 (by with_reducible assumption) (by with_reducible assumption) ?_
    refine cV3u e_X11_see_68 cl_X11_282 ⟨Nat.le_of_ble_eq_true rfl, Nat.le_of_ble_eq_true rfl⟩ ⟨rfl, rfl⟩ (by with_reducible assumption) (Nat.le_of_ble_eq_true rfl) (S_X11_set (by with_reducible assumption) (by with_reducible assumption) (by with_reducible assumption) (by with_reducible assumption)) ?_
    refine r_aload_n e_X11_see_71 rfl ?_
    refine r_iload_n e_X11_see_72 rfl ?_
    refine r_bipush e_X11_see_73 bp_9 ?_
    refine r_aload_n e_X11_see_75 rfl ?_
    refine r_getR e_X11_see_76 fl_X11_212 (by with_reducible assumption) (by with_reducible assumption) ?_
    refine r_sipush e_X11_see_79 sp_208 ?_
    refine r_iload e_X11_see_82 rfl ?_
    refine r_iconst e_X11_see_84 ic_4 ?_
    refine r_irem e_X11_see_85 (by decide) ?_
    refine r_iadd e_X11_see_86 ?_
    refine r_iaload e_X11_see_87 (by with_reducible assumption) (by with_reducible assumption) ?_
    refine cV3u e_X11_see_88 cl_X11_282 ⟨Nat.le_of_ble_eq_true rfl, Nat.le_of_ble_eq_true rfl⟩ ⟨rfl, rfl⟩ (by with_reducible assumption) (Nat.le_of_ble_eq_true rfl) (S_X11_set (by with_reducible assumption) (by with_reducible assumption) (by with_reducible assumption) (by with_reducible assumption)) ?_
    refine r_return e_X11_see_91 rfl ⟨rfl, rfl⟩ ?_
    (refine ⟨?_, rfl, ?_⟩ <;> ((try unfold U_X11_see); (try simp only [if_pos h16_0]); (try rfl)))
  · refine r_iload_n e_X11_see_19 rfl ?_
    refine r_iload_n e_X11_see_20 rfl ?_
    refine r_iconst e_X11_see_21 ic_5 ?_
    refine r_irem e_X11_see_22 (by decide) ?_
    refine r_iadd e_X11_see_23 ?_
    refine r_iload_n e_X11_see_24 rfl ?_
    refine r_irem e_X11_see_25 (fun q => h16_0 (by rw [q]; decide)) ?_
    refine r_if_ne e_X11_see_26 (fun h26_1 => ?_) (fun h26_1 => ?_)
    · refine r_iload_n e_X11_see_30 rfl ?_
      refine r_aload_n e_X11_see_31 rfl ?_
      refine r_iload_n e_X11_see_32 rfl ?_
      refine r_bipush e_X11_see_33 bp_14 ?_
      refine cV2v e_X11_see_35 cl_X11_252 ⟨Nat.le_of_ble_eq_true rfl, Nat.le_of_ble_eq_true rfl⟩ ⟨rfl, rfl⟩ (by with_reducible assumption) (Nat.le_of_ble_eq_true rfl) (S_X11_of (by with_reducible assumption) (by with_reducible assumption) (by with_reducible assumption) (by with_reducible assumption)) ?_
      refine r_isub e_X11_see_38 ?_
      refine r_aload_n e_X11_see_39 rfl ?_
      refine r_getR e_X11_see_40 fl_X11_212 (by with_reducible assumption) (by with_reducible assumption) ?_
      refine r_bipush e_X11_see_43 bp_13 ?_
      refine r_iaload e_X11_see_45 (by with_reducible assumption) (by unfold vp_in; decide) ?_
      refine r_mmax e_X11_see_46 cl_X11_261 ⟨Nat.le_of_ble_eq_true rfl, Nat.le_of_ble_eq_true rfl, Nat.zero_le _, Nat.zero_le _⟩ (Nat.le_of_ble_eq_true rfl) ?_
      refine p_istore_5_4 e_X11_see_49 rfl rfl ?_
      refine r_aload_n e_X11_see_51 rfl ?_
      refine r_iload_n e_X11_see_52 rfl ?_
      refine r_bipush e_X11_see_53 bp_8 ?_
      refine r_aload_n e_X11_see_55 rfl ?_
      refine r_getR e_X11_see_56 fl_X11_212 (by with_reducible assumption) (by with_reducible assumption) ?_
      refine r_sipush e_X11_see_59 sp_204 ?_
      refine r_iload e_X11_see_62 rfl ?_
      refine r_iconst e_X11_see_64 ic_4 ?_
      refine r_irem e_X11_see_65 (by decide) ?_
      refine r_iadd e_X11_see_66 ?_
      refine r_iaload e_X11_see_67 (by with_reducible assumption) (by with_reducible assumption) ?_
      refine cV3u e_X11_see_68 cl_X11_282 ⟨Nat.le_of_ble_eq_true rfl, Nat.le_of_ble_eq_true rfl⟩ ⟨rfl, rfl⟩ (by with_reducible assumption) (Nat.le_of_ble_eq_true rfl) (S_X11_set (by with_reducible assumption) (by with_reducible assumption) (by with_reducible assumption) (by with_reducible assumption)) ?_
      refine r_aload_n e_X11_see_71 rfl ?_
      refine r_iload_n e_X11_see_72 rfl ?_
      refine r_bipush e_X11_see_73 bp_9 ?_
      refine r_aload_n e_X11_see_75 rfl ?_
      refine r_getR e_X11_see_76 fl_X11_212 (by with_reducible assumption) (by with_reducible assumption) ?_
      refine r_sipush e_X11_see_79 sp_208 ?_
      refine r_iload e_X11_see_82 rfl ?_
      refine r_iconst e_X11_see_84 ic_4 ?_
      refine r_irem e_X11_see_85 (by decide) ?_
      refine r_iadd e_X11_see_86 ?_
      refine r_iaload e_X11_see_87 (by with_reducible assumption) (by with_reducible assumption) ?_
      refine cV3u e_X11_see_88 cl_X11_282 ⟨Nat.le_of_ble_eq_true rfl, Nat.le_of_ble_eq_true rfl⟩ ⟨rfl, rfl⟩ (by with_reducible assumption) (Nat.le_of_ble_eq_true rfl) (S_X11_set (by with_reducible assumption) (by with_reducible assumption) (by with_reducible assumption) (by with_reducible assumption)) ?_
      refine r_return e_X11_see_91 rfl ⟨rfl, rfl⟩ ?_
      (refine ⟨?_, rfl, ?_⟩ <;> ((try unfold U_X11_see); (try simp only [if_neg h16_0, if_neg h26_1]); (try rfl)))
    · refine r_return e_X11_see_29 rfl ⟨rfl, rfl⟩ ?_
      (refine ⟨?_, rfl, ?_⟩ <;> ((try unfold U_X11_see); (try simp only [if_neg h16_0, if_pos h26_1]); (try rfl)))
def V_X11_sign (x1 : Int32) (M : Mem) : Int32 := (let v0_0 : Int32 := if 0 ≤ x1 then (if x1 ≤ 0 then (0 : Int32) else (1 : Int32)) else (-1 : Int32); v0_0)
theorem S_X11_sign {sh : List SC} {M : Mem} {x1 : Int32}   : Gv m_X11_sign [.int x1] sh M (.int (V_X11_sign x1 M)) M := by
  refine Sp.of (ls := [some (.int x1)]) (by decide +kernel) (Nat.le_of_ble_eq_true rfl) rfl ?_
  refine r_iload_n e_X11_sign_0 rfl ?_
  obtain ⟨v0_0, e_v0_0⟩ : ∃ z : Int32, z = (if 0 ≤ x1 then (if x1 ≤ 0 then (0 : Int32) else (1 : Int32)) else (-1 : Int32)) := ⟨_, rfl⟩
  suffices j17_0 : WP m_X11_sign (fun r sh' M'' => r = some (.int (V_X11_sign x1 M)) ∧ sh' = sh ∧ M'' = M) 17 [some (.int x1)] [.int v0_0] sh M 0 0 by
    refine r_if_ge e_X11_sign_1 (fun h1_0 => ?_) (fun h1_0 => ?_)
    · refine r_iload_n e_X11_sign_8 rfl ?_
      refine r_if_le e_X11_sign_9 (fun h9_1 => ?_) (fun h9_1 => ?_)
      · refine r_iconst e_X11_sign_16 ic_0 ?_
        rw [show v0_0 = (0 : Int32) from ((e_v0_0.trans (if_pos h1_0)).trans (if_pos h9_1))] at j17_0; exact j17_0
      · refine r_iconst e_X11_sign_12 ic_1 ?_
        refine r_goto e_X11_sign_13 ?_
        rw [show v0_0 = (1 : Int32) from ((e_v0_0.trans (if_pos h1_0)).trans (if_neg h9_1))] at j17_0; exact j17_0
    · refine r_iconst e_X11_sign_4 ic_m1 ?_
      refine r_goto e_X11_sign_5 ?_
      rw [show v0_0 = (-1 : Int32) from (e_v0_0.trans (if_neg h1_0))] at j17_0; exact j17_0
  refine r_ireturn e_X11_sign_17 rfl ⟨rfl, rfl⟩ ?_
  (subst e_v0_0; refine ⟨?_, rfl, ?_⟩ <;> ((try unfold V_X11_sign); (try simp only []); (try rfl)))
def V_X11_here (a : Nat) (q1 : Nat) (M : Mem) : Int32 := (M.1 q1 ((M.1 a 34) + (M.1 a 35)).toNatClampNeg)
theorem S_X11_here {sh : List SC} {M : Mem} {a : Nat} {q1 : Nat} (g1 : kd sh a = some (10 + 7, 0)) (g2 : rf sh a 9 = some q1) (g3 : kd sh q1 = some (0, 4800)) (g4 : vp_in ((M.1 a 34) + (M.1 a 35)) 4800) : Gv m_X11_here [.ref a] sh M (.int (V_X11_here a q1 M)) M := by
  refine Sp.of (ls := [some (.ref a)]) (by decide +kernel) (Nat.le_of_ble_eq_true rfl) rfl ?_
  refine r_aload_n e_X11_here_0 rfl ?_
  refine r_getR e_X11_here_1 fl_X11_102 (by with_reducible assumption) (by with_reducible assumption) ?_
  refine r_aload_n e_X11_here_4 rfl ?_
  refine r_getI e_X11_here_5 fl_X11_309 i0 (by with_reducible assumption) ?_
  refine r_aload_n e_X11_here_8 rfl ?_
  refine r_getI e_X11_here_9 fl_X11_312 i0 (by with_reducible assumption) ?_
  refine r_iadd e_X11_here_12 ?_
  refine r_iaload e_X11_here_13 (by with_reducible assumption) (by with_reducible assumption) ?_
  refine r_ireturn e_X11_here_14 rfl ⟨rfl, rfl⟩ ?_
  (refine ⟨?_, rfl, ?_⟩ <;> ((try unfold V_X11_here); (try simp only []); (try rfl)))
def U_X11_step (a : Nat) (M : Mem) : Mem := (let M0_0 : Mem := if (M.1 a 36) = (80 : Int32) then (setI M a 37 (1 : Int32)) else (setI M a 36 ((M.1 a 36) + (1 : Int32))); M0_0)
theorem S_X11_step {sh : List SC} {M : Mem} {a : Nat}  (g1 : kd sh a = some (10 + 7, 0)) : Gu m_X11_step [.ref a] sh M (U_X11_step a M) := by
  refine Sp.of (ls := [some (.ref a)]) (by decide +kernel) (Nat.le_of_ble_eq_true rfl) rfl ?_
  refine r_aload_n e_X11_step_0 rfl ?_
  refine r_getI e_X11_step_1 fl_X11_302 i0 (by with_reducible assumption) ?_
  refine r_bipush e_X11_step_4 bp_80 ?_
  obtain ⟨M0_0, e_M0_0⟩ : ∃ z : Mem, z = (if (M.1 a 36) = (80 : Int32) then (setI M a 37 (1 : Int32)) else (setI M a 36 ((M.1 a 36) + (1 : Int32)))) := ⟨_, rfl⟩
  suffices j27_0 : WP m_X11_step (fun r sh' M'' => r = none ∧ sh' = sh ∧ M'' = (U_X11_step a M)) 27 [some (.ref a)] [] sh M0_0 0 0 by
    refine r_icmp_ne e_X11_step_6 (fun h6_0 => ?_) (fun h6_0 => ?_)
    · refine r_aload_n e_X11_step_17 rfl ?_
      refine r_dup e_X11_step_18 rfl ?_
      refine r_getI e_X11_step_19 fl_X11_302 i0 (by with_reducible assumption) ?_
      refine r_iconst e_X11_step_22 ic_1 ?_
      refine r_iadd e_X11_step_23 ?_
      refine r_putI e_X11_step_24 fl_X11_302 (by with_reducible assumption) ?_
      rw [show M0_0 = setI M a 36 ((M.1 a 36) + (1 : Int32)) from (e_M0_0.trans (if_neg h6_0))] at j27_0; exact j27_0
    · refine r_aload_n e_X11_step_9 rfl ?_
      refine r_iconst e_X11_step_10 ic_1 ?_
      refine r_putZ e_X11_step_11 fl_X11_305 (by first | exact Or.inl rfl | exact Or.inr rfl) (by with_reducible assumption) ?_
      refine r_goto e_X11_step_14 ?_
      rw [show M0_0 = setI M a 37 (1 : Int32) from (e_M0_0.trans (if_pos h6_0))] at j27_0; exact j27_0
  refine r_return e_X11_step_27 rfl ⟨rfl, rfl⟩ ?_
  (subst e_M0_0; refine ⟨?_, rfl, ?_⟩ <;> ((try unfold U_X11_step); (try simp only []); (try rfl)))
def V_X11_seenX (a : Nat) (x1 : Int32) (M : Mem) : Int32 := (let v0_0 : Int32 := if (5 : Int32) ≤ (M.1 a 33) then ((14 : Int32) - x1) else x1; v0_0)
theorem S_X11_seenX {sh : List SC} {M : Mem} {a : Nat} {x1 : Int32}  (g1 : kd sh a = some (10 + 7, 0)) : Gv m_X11_seenX [.ref a, .int x1] sh M (.int (V_X11_seenX a x1 M)) M := by
  refine Sp.of (ls := [some (.ref a), some (.int x1)]) (by decide +kernel) (Nat.le_of_ble_eq_true rfl) rfl ?_
  refine r_aload_n e_X11_seenX_0 rfl ?_
  refine r_getI e_X11_seenX_1 fl_X11_315 i0 (by with_reducible assumption) ?_
  refine r_iconst e_X11_seenX_4 ic_5 ?_
  obtain ⟨v0_0, e_v0_0⟩ : ∃ z : Int32, z = (if (5 : Int32) ≤ (M.1 a 33) then ((14 : Int32) - x1) else x1) := ⟨_, rfl⟩
  suffices j16_0 : WP m_X11_seenX (fun r sh' M'' => r = some (.int (V_X11_seenX a x1 M)) ∧ sh' = sh ∧ M'' = M) 16 [some (.ref a), some (.int x1)] [.int v0_0] sh M 0 0 by
    refine r_icmp_ge e_X11_seenX_5 (fun h5_0 => ?_) (fun h5_0 => ?_)
    · refine r_bipush e_X11_seenX_12 bp_14 ?_
      refine r_iload_n e_X11_seenX_14 rfl ?_
      refine r_isub e_X11_seenX_15 ?_
      rw [show v0_0 = ((14 : Int32) - x1) from (e_v0_0.trans (if_pos h5_0))] at j16_0; exact j16_0
    · refine r_iload_n e_X11_seenX_8 rfl ?_
      refine r_goto e_X11_seenX_9 ?_
      rw [show v0_0 = x1 from (e_v0_0.trans (if_neg h5_0))] at j16_0; exact j16_0
  refine r_ireturn e_X11_seenX_16 rfl ⟨rfl, rfl⟩ ?_
  (subst e_v0_0; refine ⟨?_, rfl, ?_⟩ <;> ((try unfold V_X11_seenX); (try simp only []); (try rfl)))
def V_X11_seenY (a : Nat) (x1 : Int32) (M : Mem) : Int32 := (let v0_0 : Int32 := if (5 : Int32) ≤ (M.1 a 33) then ((8 : Int32) - x1) else x1; v0_0)
theorem S_X11_seenY {sh : List SC} {M : Mem} {a : Nat} {x1 : Int32}  (g1 : kd sh a = some (10 + 7, 0)) : Gv m_X11_seenY [.ref a, .int x1] sh M (.int (V_X11_seenY a x1 M)) M := by
  refine Sp.of (ls := [some (.ref a), some (.int x1)]) (by decide +kernel) (Nat.le_of_ble_eq_true rfl) rfl ?_
  refine r_aload_n e_X11_seenY_0 rfl ?_
  refine r_getI e_X11_seenY_1 fl_X11_315 i0 (by with_reducible assumption) ?_
  refine r_iconst e_X11_seenY_4 ic_5 ?_
  obtain ⟨v0_0, e_v0_0⟩ : ∃ z : Int32, z = (if (5 : Int32) ≤ (M.1 a 33) then ((8 : Int32) - x1) else x1) := ⟨_, rfl⟩
  suffices j16_0 : WP m_X11_seenY (fun r sh' M'' => r = some (.int (V_X11_seenY a x1 M)) ∧ sh' = sh ∧ M'' = M) 16 [some (.ref a), some (.int x1)] [.int v0_0] sh M 0 0 by
    refine r_icmp_ge e_X11_seenY_5 (fun h5_0 => ?_) (fun h5_0 => ?_)
    · refine r_bipush e_X11_seenY_12 bp_8 ?_
      refine r_iload_n e_X11_seenY_14 rfl ?_
      refine r_isub e_X11_seenY_15 ?_
      rw [show v0_0 = ((8 : Int32) - x1) from (e_v0_0.trans (if_pos h5_0))] at j16_0; exact j16_0
    · refine r_iload_n e_X11_seenY_8 rfl ?_
      refine r_goto e_X11_seenY_9 ?_
      rw [show v0_0 = x1 from (e_v0_0.trans (if_neg h5_0))] at j16_0; exact j16_0
  refine r_ireturn e_X11_seenY_16 rfl ⟨rfl, rfl⟩ ?_
  (subst e_v0_0; refine ⟨?_, rfl, ?_⟩ <;> ((try unfold V_X11_seenY); (try simp only []); (try rfl)))
def V_X11_otherRobot (a : Nat) (x1 : Int32) (x2 : Int32) (q1 : Nat) (M : Mem) : Int32 := if (2 : Int32) ≤ x1 then (if (x1 - x1 / (2 : Int32) * (2 : Int32)) = 0 then (V_X11_seenX a (V_X11_of a (((5 : Int32) * ((1 : Int32) - ((M.1 a 33) / (5 : Int32)))) + x2) (0 : Int32) q1 M) M) else (V_X11_seenY a (V_X11_of a (((5 : Int32) * ((1 : Int32) - ((M.1 a 33) / (5 : Int32)))) + x2) (1 : Int32) q1 M) M)) else (if (x1 - x1 / (2 : Int32) * (2 : Int32)) = 0 then (V_X11_seenX a (V_X11_of a (((5 : Int32) * ((M.1 a 33) / (5 : Int32))) + x2) (0 : Int32) q1 M) M) else (V_X11_seenY a (V_X11_of a (((5 : Int32) * ((M.1 a 33) / (5 : Int32))) + x2) (1 : Int32) q1 M) M))
theorem S_X11_otherRobot {sh : List SC} {M : Mem} {a : Nat} {x1 : Int32} {x2 : Int32} {q1 : Nat} (g1 : kd sh a = some (10 + 7, 0)) (g2 : rf sh a 27 = some q1) (g3 : kd sh q1 = some (0, 212)) (g4 : vp_in (((44 : Int32) + ((16 : Int32) * (((5 : Int32) * ((1 : Int32) - ((M.1 a 33) / (5 : Int32)))) + x2))) + (1 : Int32)) 212) (g5 : vp_in (((44 : Int32) + ((16 : Int32) * (((5 : Int32) * ((1 : Int32) - ((M.1 a 33) / (5 : Int32)))) + x2))) + (0 : Int32)) 212) (g6 : vp_in (((44 : Int32) + ((16 : Int32) * (((5 : Int32) * ((M.1 a 33) / (5 : Int32))) + x2))) + (1 : Int32)) 212) (g7 : vp_in (((44 : Int32) + ((16 : Int32) * (((5 : Int32) * ((M.1 a 33) / (5 : Int32))) + x2))) + (0 : Int32)) 212) : Gv m_X11_otherRobot [.ref a, .int x1, .int x2] sh M (.int (V_X11_otherRobot a x1 x2 q1 M)) M := by
  refine Sp.of (ls := [some (.ref a), some (.int x1), some (.int x2), none, none]) (by decide +kernel) (Nat.le_of_ble_eq_true rfl) rfl ?_
  refine r_iload_n e_X11_otherRobot_0 rfl ?_
  refine r_iconst e_X11_otherRobot_1 ic_2 ?_
  refine r_icmp_ge e_X11_otherRobot_2 (fun h2_0 => ?_) (fun h2_0 => ?_)
  · refine r_iconst e_X11_otherRobot_14 ic_1 ?_
    refine r_aload_n e_X11_otherRobot_15 rfl ?_
    refine r_getI e_X11_otherRobot_16 fl_X11_315 i0 (by with_reducible assumption) ?_
    refine r_iconst e_X11_otherRobot_19 ic_5 ?_
    refine r_idiv e_X11_otherRobot_20 (by decide) ?_
    refine r_isub e_X11_otherRobot_21 ?_
    refine p_istore_n_5_3 e_X11_otherRobot_22 rfl rfl ?_
    refine r_iconst e_X11_otherRobot_23 ic_5 ?_
    refine r_iload_n e_X11_otherRobot_24 rfl ?_
    refine r_imul e_X11_otherRobot_25 ?_
    refine r_iload_n e_X11_otherRobot_26 rfl ?_
    refine r_iadd e_X11_otherRobot_27 ?_
    refine p_istore_5_4 e_X11_otherRobot_28 rfl rfl ?_
    refine r_iload_n e_X11_otherRobot_30 rfl ?_
    refine r_iconst e_X11_otherRobot_31 ic_2 ?_
    refine r_irem e_X11_otherRobot_32 (by decide) ?_
    refine r_if_ne e_X11_otherRobot_33 (fun h33_1 => ?_) (fun h33_1 => ?_)
    · refine r_aload_n e_X11_otherRobot_50 rfl ?_
      refine r_aload_n e_X11_otherRobot_51 rfl ?_
      refine r_iload e_X11_otherRobot_52 rfl ?_
      refine r_iconst e_X11_otherRobot_54 ic_1 ?_
      refine cV2v e_X11_otherRobot_55 cl_X11_252 ⟨Nat.le_of_ble_eq_true rfl, Nat.le_of_ble_eq_true rfl⟩ ⟨rfl, rfl⟩ (by with_reducible assumption) (Nat.le_of_ble_eq_true rfl) (S_X11_of (by with_reducible assumption) (by with_reducible assumption) (by with_reducible assumption) (by with_reducible assumption)) ?_
      refine cV1v e_X11_otherRobot_58 cl_X11_321 ⟨Nat.le_of_ble_eq_true rfl, Nat.le_of_ble_eq_true rfl⟩ ⟨rfl, rfl⟩ (by with_reducible assumption) (Nat.le_of_ble_eq_true rfl) (S_X11_seenY (by with_reducible assumption)) ?_
      refine r_ireturn e_X11_otherRobot_61 rfl ⟨rfl, rfl⟩ ?_
      (refine ⟨?_, rfl, ?_⟩ <;> ((try unfold V_X11_otherRobot); (try simp only [if_pos h2_0, if_neg h33_1]); (try rfl)))
    · refine r_aload_n e_X11_otherRobot_36 rfl ?_
      refine r_aload_n e_X11_otherRobot_37 rfl ?_
      refine r_iload e_X11_otherRobot_38 rfl ?_
      refine r_iconst e_X11_otherRobot_40 ic_0 ?_
      refine cV2v e_X11_otherRobot_41 cl_X11_252 ⟨Nat.le_of_ble_eq_true rfl, Nat.le_of_ble_eq_true rfl⟩ ⟨rfl, rfl⟩ (by with_reducible assumption) (Nat.le_of_ble_eq_true rfl) (S_X11_of (by with_reducible assumption) (by with_reducible assumption) (by with_reducible assumption) (by with_reducible assumption)) ?_
      refine cV1v e_X11_otherRobot_44 cl_X11_318 ⟨Nat.le_of_ble_eq_true rfl, Nat.le_of_ble_eq_true rfl⟩ ⟨rfl, rfl⟩ (by with_reducible assumption) (Nat.le_of_ble_eq_true rfl) (S_X11_seenX (by with_reducible assumption)) ?_
      refine r_goto e_X11_otherRobot_47 ?_
      refine r_ireturn e_X11_otherRobot_61 rfl ⟨rfl, rfl⟩ ?_
      (refine ⟨?_, rfl, ?_⟩ <;> ((try unfold V_X11_otherRobot); (try simp only [if_pos h2_0, if_pos h33_1]); (try rfl)))
  · refine r_aload_n e_X11_otherRobot_5 rfl ?_
    refine r_getI e_X11_otherRobot_6 fl_X11_315 i0 (by with_reducible assumption) ?_
    refine r_iconst e_X11_otherRobot_9 ic_5 ?_
    refine r_idiv e_X11_otherRobot_10 (by decide) ?_
    refine r_goto e_X11_otherRobot_11 ?_
    refine p_istore_n_5_3 e_X11_otherRobot_22 rfl rfl ?_
    refine r_iconst e_X11_otherRobot_23 ic_5 ?_
    refine r_iload_n e_X11_otherRobot_24 rfl ?_
    refine r_imul e_X11_otherRobot_25 ?_
    refine r_iload_n e_X11_otherRobot_26 rfl ?_
    refine r_iadd e_X11_otherRobot_27 ?_
    refine p_istore_5_4 e_X11_otherRobot_28 rfl rfl ?_
    refine r_iload_n e_X11_otherRobot_30 rfl ?_
    refine r_iconst e_X11_otherRobot_31 ic_2 ?_
    refine r_irem e_X11_otherRobot_32 (by decide) ?_
    refine r_if_ne e_X11_otherRobot_33 (fun h33_2 => ?_) (fun h33_2 => ?_)
    · refine r_aload_n e_X11_otherRobot_50 rfl ?_
      refine r_aload_n e_X11_otherRobot_51 rfl ?_
      refine r_iload e_X11_otherRobot_52 rfl ?_
      refine r_iconst e_X11_otherRobot_54 ic_1 ?_
      refine cV2v e_X11_otherRobot_55 cl_X11_252 ⟨Nat.le_of_ble_eq_true rfl, Nat.le_of_ble_eq_true rfl⟩ ⟨rfl, rfl⟩ (by with_reducible assumption) (Nat.le_of_ble_eq_true rfl) (S_X11_of (by with_reducible assumption) (by with_reducible assumption) (by with_reducible assumption) (by with_reducible assumption)) ?_
      refine cV1v e_X11_otherRobot_58 cl_X11_321 ⟨Nat.le_of_ble_eq_true rfl, Nat.le_of_ble_eq_true rfl⟩ ⟨rfl, rfl⟩ (by with_reducible assumption) (Nat.le_of_ble_eq_true rfl) (S_X11_seenY (by with_reducible assumption)) ?_
      refine r_ireturn e_X11_otherRobot_61 rfl ⟨rfl, rfl⟩ ?_
      (refine ⟨?_, rfl, ?_⟩ <;> ((try unfold V_X11_otherRobot); (try simp only [if_neg h2_0, if_neg h33_2]); (try rfl)))
    · refine r_aload_n e_X11_otherRobot_36 rfl ?_
      refine r_aload_n e_X11_otherRobot_37 rfl ?_
      refine r_iload e_X11_otherRobot_38 rfl ?_
      refine r_iconst e_X11_otherRobot_40 ic_0 ?_
      refine cV2v e_X11_otherRobot_41 cl_X11_252 ⟨Nat.le_of_ble_eq_true rfl, Nat.le_of_ble_eq_true rfl⟩ ⟨rfl, rfl⟩ (by with_reducible assumption) (Nat.le_of_ble_eq_true rfl) (S_X11_of (by with_reducible assumption) (by with_reducible assumption) (by with_reducible assumption) (by with_reducible assumption)) ?_
      refine cV1v e_X11_otherRobot_44 cl_X11_318 ⟨Nat.le_of_ble_eq_true rfl, Nat.le_of_ble_eq_true rfl⟩ ⟨rfl, rfl⟩ (by with_reducible assumption) (Nat.le_of_ble_eq_true rfl) (S_X11_seenX (by with_reducible assumption)) ?_
      refine r_goto e_X11_otherRobot_47 ?_
      refine r_ireturn e_X11_otherRobot_61 rfl ⟨rfl, rfl⟩ ?_
      (refine ⟨?_, rfl, ?_⟩ <;> ((try unfold V_X11_otherRobot); (try simp only [if_neg h2_0, if_pos h33_2]); (try rfl)))
def U_X11_hold (a : Nat) (x1 : Int32) (q1 : Nat) (M : Mem) : Mem := U_X11_stopBall a q1 (setI (setI (setI (setI M q1 (16 : Int32).toNatClampNeg x1) q1 (20 : Int32).toNatClampNeg ((setI M q1 (16 : Int32).toNatClampNeg x1).1 q1 (3 : Int32).toNatClampNeg)) q1 (14 : Int32).toNatClampNeg (V_X11_of a x1 (0 : Int32) q1 (setI (setI M q1 (16 : Int32).toNatClampNeg x1) q1 (20 : Int32).toNatClampNeg ((setI M q1 (16 : Int32).toNatClampNeg x1).1 q1 (3 : Int32).toNatClampNeg)))) q1 (15 : Int32).toNatClampNeg (V_X11_of a x1 (1 : Int32) q1 (setI (setI (setI M q1 (16 : Int32).toNatClampNeg x1) q1 (20 : Int32).toNatClampNeg ((setI M q1 (16 : Int32).toNatClampNeg x1).1 q1 (3 : Int32).toNatClampNeg)) q1 (14 : Int32).toNatClampNeg (V_X11_of a x1 (0 : Int32) q1 (setI (setI M q1 (16 : Int32).toNatClampNeg x1) q1 (20 : Int32).toNatClampNeg ((setI M q1 (16 : Int32).toNatClampNeg x1).1 q1 (3 : Int32).toNatClampNeg))))))
theorem S_X11_hold {sh : List SC} {M : Mem} {a : Nat} {x1 : Int32} {q1 : Nat} (g1 : kd sh a = some (10 + 7, 0)) (g2 : rf sh a 27 = some q1) (g3 : kd sh q1 = some (0, 212)) (g4 : vp_in (((44 : Int32) + ((16 : Int32) * x1)) + (0 : Int32)) 212) (g5 : vp_in (((44 : Int32) + ((16 : Int32) * x1)) + (1 : Int32)) 212) : Gu m_X11_hold [.ref a, .int x1] sh M (U_X11_hold a x1 q1 M) := by
  refine Sp.of (ls := [some (.ref a), some (.int x1)]) (by decide +kernel) (Nat.le_of_ble_eq_true rfl) rfl ?_
  refine r_aload_n e_X11_hold_0 rfl ?_
  refine r_getR e_X11_hold_1 fl_X11_212 (by with_reducible assumption) (by with_reducible assumption) ?_
  refine r_bipush e_X11_hold_4 bp_16 ?_
  refine r_iload_n e_X11_hold_6 rfl ?_
  refine r_iastore e_X11_hold_7 (by with_reducible assumption) (by unfold vp_in; decide) ?_
  refine r_aload_n e_X11_hold_8 rfl ?_
  refine r_getR e_X11_hold_9 fl_X11_212 (by with_reducible assumption) (by with_reducible assumption) ?_
  refine r_bipush e_X11_hold_12 bp_20 ?_
  refine r_aload_n e_X11_hold_14 rfl ?_
  refine r_getR e_X11_hold_15 fl_X11_212 (by with_reducible assumption) (by with_reducible assumption) ?_
  refine r_iconst e_X11_hold_18 ic_3 ?_
  refine r_iaload e_X11_hold_19 (by with_reducible assumption) (by unfold vp_in; decide) ?_
  refine r_iastore e_X11_hold_20 (by with_reducible assumption) (by unfold vp_in; decide) ?_
  refine r_aload_n e_X11_hold_21 rfl ?_
  refine r_getR e_X11_hold_22 fl_X11_212 (by with_reducible assumption) (by with_reducible assumption) ?_
  refine r_bipush e_X11_hold_25 bp_14 ?_
  refine r_aload_n e_X11_hold_27 rfl ?_
  refine r_iload_n e_X11_hold_28 rfl ?_
  refine r_iconst e_X11_hold_29 ic_0 ?_
  refine cV2v e_X11_hold_30 cl_X11_252 ⟨Nat.le_of_ble_eq_true rfl, Nat.le_of_ble_eq_true rfl⟩ ⟨rfl, rfl⟩ (by with_reducible assumption) (Nat.le_of_ble_eq_true rfl) (S_X11_of (by with_reducible assumption) (by with_reducible assumption) (by with_reducible assumption) (by with_reducible assumption)) ?_
  refine r_iastore e_X11_hold_33 (by with_reducible assumption) (by unfold vp_in; decide) ?_
  refine r_aload_n e_X11_hold_34 rfl ?_
  refine r_getR e_X11_hold_35 fl_X11_212 (by with_reducible assumption) (by with_reducible assumption) ?_
  refine r_bipush e_X11_hold_38 bp_15 ?_
  refine r_aload_n e_X11_hold_40 rfl ?_
  refine r_iload_n e_X11_hold_41 rfl ?_
  refine r_iconst e_X11_hold_42 ic_1 ?_
  refine cV2v e_X11_hold_43 cl_X11_252 ⟨Nat.le_of_ble_eq_true rfl, Nat.le_of_ble_eq_true rfl⟩ ⟨rfl, rfl⟩ (by with_reducible assumption) (Nat.le_of_ble_eq_true rfl) (S_X11_of (by with_reducible assumption) (by with_reducible assumption) (by with_reducible assumption) (by with_reducible assumption)) ?_
  refine r_iastore e_X11_hold_46 (by with_reducible assumption) (by unfold vp_in; decide) ?_
  refine r_aload_n e_X11_hold_47 rfl ?_
  refine cV0u e_X11_hold_48 cl_X11_285 ⟨Nat.le_of_ble_eq_true rfl, Nat.le_of_ble_eq_true rfl⟩ ⟨rfl, rfl⟩ (by with_reducible assumption) (Nat.le_of_ble_eq_true rfl) (S_X11_stopBall (by with_reducible assumption) (by with_reducible assumption) (by with_reducible assumption)) ?_
  refine r_return e_X11_hold_51 rfl ⟨rfl, rfl⟩ ?_
  (refine ⟨?_, rfl, ?_⟩ <;> ((try unfold U_X11_hold); (try simp only []); (try rfl)))
def V_X11_sleeps (a : Nat) (q1 : Nat) (M : Mem) : Int32 := (let v0_0 : Int32 := if (M.1 q1 (21 : Int32).toNatClampNeg) ≤ 0 then (0 : Int32) else (if (M.1 q1 (22 : Int32).toNatClampNeg) = (M.1 q1 (14 : Int32).toNatClampNeg) then (if (M.1 q1 (23 : Int32).toNatClampNeg) = (M.1 q1 (15 : Int32).toNatClampNeg) then (1 : Int32) else (0 : Int32)) else (0 : Int32)); let v3_0 : Int32 := if (M.1 q1 (16 : Int32).toNatClampNeg) < 0 then (if v0_0 = 0 then (1 : Int32) else ((M.1 q1 (21 : Int32).toNatClampNeg) + (1 : Int32))) else (0 : Int32); ((setI (setI (setI M q1 (21 : Int32).toNatClampNeg v3_0) q1 (22 : Int32).toNatClampNeg ((setI M q1 (21 : Int32).toNatClampNeg v3_0).1 q1 (14 : Int32).toNatClampNeg)) q1 (23 : Int32).toNatClampNeg ((setI (setI M q1 (21 : Int32).toNatClampNeg v3_0) q1 (22 : Int32).toNatClampNeg ((setI M q1 (21 : Int32).toNatClampNeg v3_0).1 q1 (14 : Int32).toNatClampNeg)).1 q1 (15 : Int32).toNatClampNeg)).1 q1 (21 : Int32).toNatClampNeg))
def U_X11_sleeps (a : Nat) (q1 : Nat) (M : Mem) : Mem := (let v0_0 : Int32 := if (M.1 q1 (21 : Int32).toNatClampNeg) ≤ 0 then (0 : Int32) else (if (M.1 q1 (22 : Int32).toNatClampNeg) = (M.1 q1 (14 : Int32).toNatClampNeg) then (if (M.1 q1 (23 : Int32).toNatClampNeg) = (M.1 q1 (15 : Int32).toNatClampNeg) then (1 : Int32) else (0 : Int32)) else (0 : Int32)); let v3_0 : Int32 := if (M.1 q1 (16 : Int32).toNatClampNeg) < 0 then (if v0_0 = 0 then (1 : Int32) else ((M.1 q1 (21 : Int32).toNatClampNeg) + (1 : Int32))) else (0 : Int32); setI (setI (setI M q1 (21 : Int32).toNatClampNeg v3_0) q1 (22 : Int32).toNatClampNeg ((setI M q1 (21 : Int32).toNatClampNeg v3_0).1 q1 (14 : Int32).toNatClampNeg)) q1 (23 : Int32).toNatClampNeg ((setI (setI M q1 (21 : Int32).toNatClampNeg v3_0) q1 (22 : Int32).toNatClampNeg ((setI M q1 (21 : Int32).toNatClampNeg v3_0).1 q1 (14 : Int32).toNatClampNeg)).1 q1 (15 : Int32).toNatClampNeg))
theorem S_X11_sleeps {sh : List SC} {M : Mem} {a : Nat} {q1 : Nat} (g1 : kd sh a = some (10 + 7, 0)) (g2 : rf sh a 27 = some q1) (g3 : kd sh q1 = some (0, 212)) : Gv m_X11_sleeps [.ref a] sh M (.int (V_X11_sleeps a q1 M)) (U_X11_sleeps a q1 M) := by
  refine Sp.of (ls := [some (.ref a), none]) (by decide +kernel) (Nat.le_of_ble_eq_true rfl) rfl ?_
  refine r_aload_n e_X11_sleeps_0 rfl ?_
  refine r_getR e_X11_sleeps_1 fl_X11_212 (by with_reducible assumption) (by with_reducible assumption) ?_
  refine r_bipush e_X11_sleeps_4 bp_21 ?_
  refine r_iaload e_X11_sleeps_6 (by with_reducible assumption) (by unfold vp_in; decide) ?_
  obtain ⟨v0_0, e_v0_0⟩ : ∃ z : Int32, z = (if (M.1 q1 (21 : Int32).toNatClampNeg) ≤ 0 then (0 : Int32) else (if (M.1 q1 (22 : Int32).toNatClampNeg) = (M.1 q1 (14 : Int32).toNatClampNeg) then (if (M.1 q1 (23 : Int32).toNatClampNeg) = (M.1 q1 (15 : Int32).toNatClampNeg) then (1 : Int32) else (0 : Int32)) else (0 : Int32))) := ⟨_, rfl⟩
  have z_v0_0 : v0_0 = 0 ∨ v0_0 = 1 := by rw [e_v0_0]; exact (zi (Or.inl rfl) (zi (zi (Or.inr rfl) (Or.inl rfl)) (Or.inl rfl)))
  suffices j49_0 : WP m_X11_sleeps (fun r sh' M'' => r = some (.int (V_X11_sleeps a q1 M)) ∧ sh' = sh ∧ M'' = (U_X11_sleeps a q1 M)) 49 [some (.ref a), none] [.int v0_0] sh M 0 0 by
    refine r_if_le e_X11_sleeps_7 (fun h7_0 => ?_) (fun h7_0 => ?_)
    · refine r_iconst e_X11_sleeps_48 ic_0 ?_
      rw [show v0_0 = (0 : Int32) from (e_v0_0.trans (if_pos h7_0))] at j49_0; exact j49_0
    · refine r_aload_n e_X11_sleeps_10 rfl ?_
      refine r_getR e_X11_sleeps_11 fl_X11_212 (by with_reducible assumption) (by with_reducible assumption) ?_
      refine r_bipush e_X11_sleeps_14 bp_22 ?_
      refine r_iaload e_X11_sleeps_16 (by with_reducible assumption) (by unfold vp_in; decide) ?_
      refine r_aload_n e_X11_sleeps_17 rfl ?_
      refine r_getR e_X11_sleeps_18 fl_X11_212 (by with_reducible assumption) (by with_reducible assumption) ?_
      refine r_bipush e_X11_sleeps_21 bp_14 ?_
      refine r_iaload e_X11_sleeps_23 (by with_reducible assumption) (by unfold vp_in; decide) ?_
      refine r_icmp_ne e_X11_sleeps_24 (fun h24_1 => ?_) (fun h24_1 => ?_)
      · refine r_iconst e_X11_sleeps_48 ic_0 ?_
        rw [show v0_0 = (0 : Int32) from ((e_v0_0.trans (if_neg h7_0)).trans (if_neg h24_1))] at j49_0; exact j49_0
      · refine r_aload_n e_X11_sleeps_27 rfl ?_
        refine r_getR e_X11_sleeps_28 fl_X11_212 (by with_reducible assumption) (by with_reducible assumption) ?_
        refine r_bipush e_X11_sleeps_31 bp_23 ?_
        refine r_iaload e_X11_sleeps_33 (by with_reducible assumption) (by unfold vp_in; decide) ?_
        refine r_aload_n e_X11_sleeps_34 rfl ?_
        refine r_getR e_X11_sleeps_35 fl_X11_212 (by with_reducible assumption) (by with_reducible assumption) ?_
        refine r_bipush e_X11_sleeps_38 bp_15 ?_
        refine r_iaload e_X11_sleeps_40 (by with_reducible assumption) (by unfold vp_in; decide) ?_
        refine r_icmp_ne e_X11_sleeps_41 (fun h41_2 => ?_) (fun h41_2 => ?_)
        · refine r_iconst e_X11_sleeps_48 ic_0 ?_
          rw [show v0_0 = (0 : Int32) from (((e_v0_0.trans (if_neg h7_0)).trans (if_pos h24_1)).trans (if_neg h41_2))] at j49_0; exact j49_0
        · refine r_iconst e_X11_sleeps_44 ic_1 ?_
          refine r_goto e_X11_sleeps_45 ?_
          rw [show v0_0 = (1 : Int32) from (((e_v0_0.trans (if_neg h7_0)).trans (if_pos h24_1)).trans (if_pos h41_2))] at j49_0; exact j49_0
  refine p_istore_n_2_1 e_X11_sleeps_49 rfl rfl ?_
  refine r_aload_n e_X11_sleeps_50 rfl ?_
  refine r_getR e_X11_sleeps_51 fl_X11_212 (by with_reducible assumption) (by with_reducible assumption) ?_
  refine r_bipush e_X11_sleeps_54 bp_21 ?_
  refine r_aload_n e_X11_sleeps_56 rfl ?_
  refine r_getR e_X11_sleeps_57 fl_X11_212 (by with_reducible assumption) (by with_reducible assumption) ?_
  refine r_bipush e_X11_sleeps_60 bp_16 ?_
  refine r_iaload e_X11_sleeps_62 (by with_reducible assumption) (by unfold vp_in; decide) ?_
  obtain ⟨v3_0, e_v3_0⟩ : ∃ z : Int32, z = (if (M.1 q1 (16 : Int32).toNatClampNeg) < 0 then (if v0_0 = 0 then (1 : Int32) else ((M.1 q1 (21 : Int32).toNatClampNeg) + (1 : Int32))) else (0 : Int32)) := ⟨_, rfl⟩
  suffices j87_3 : WP m_X11_sleeps (fun r sh' M'' => r = some (.int (V_X11_sleeps a q1 M)) ∧ sh' = sh ∧ M'' = (U_X11_sleeps a q1 M)) 87 [some (.ref a), some (.int v0_0)] [.int v3_0, .int (21 : Int32), .ref q1] sh M 0 0 by
    refine r_if_lt e_X11_sleeps_63 (fun h63_3 => ?_) (fun h63_3 => ?_)
    · refine r_iload_n e_X11_sleeps_70 rfl ?_
      refine r_if_eq e_X11_sleeps_71 (fun h71_4 => ?_) (fun h71_4 => ?_)
      · refine r_iconst e_X11_sleeps_86 ic_1 ?_
        rw [show v3_0 = (1 : Int32) from ((e_v3_0.trans (if_pos h63_3)).trans (if_pos h71_4))] at j87_3; exact j87_3
      · refine r_aload_n e_X11_sleeps_74 rfl ?_
        refine r_getR e_X11_sleeps_75 fl_X11_212 (by with_reducible assumption) (by with_reducible assumption) ?_
        refine r_bipush e_X11_sleeps_78 bp_21 ?_
        refine r_iaload e_X11_sleeps_80 (by with_reducible assumption) (by unfold vp_in; decide) ?_
        refine r_iconst e_X11_sleeps_81 ic_1 ?_
        refine r_iadd e_X11_sleeps_82 ?_
        refine r_goto e_X11_sleeps_83 ?_
        rw [show v3_0 = ((M.1 q1 (21 : Int32).toNatClampNeg) + (1 : Int32)) from ((e_v3_0.trans (if_pos h63_3)).trans (if_neg h71_4))] at j87_3; exact j87_3
    · refine r_iconst e_X11_sleeps_66 ic_0 ?_
      refine r_goto e_X11_sleeps_67 ?_
      rw [show v3_0 = (0 : Int32) from (e_v3_0.trans (if_neg h63_3))] at j87_3; exact j87_3
  refine r_iastore e_X11_sleeps_87 (by with_reducible assumption) (by unfold vp_in; decide) ?_
  refine r_aload_n e_X11_sleeps_88 rfl ?_
  refine r_getR e_X11_sleeps_89 fl_X11_212 (by with_reducible assumption) (by with_reducible assumption) ?_
  refine r_bipush e_X11_sleeps_92 bp_22 ?_
  refine r_aload_n e_X11_sleeps_94 rfl ?_
  refine r_getR e_X11_sleeps_95 fl_X11_212 (by with_reducible assumption) (by with_reducible assumption) ?_
  refine r_bipush e_X11_sleeps_98 bp_14 ?_
  refine r_iaload e_X11_sleeps_100 (by with_reducible assumption) (by unfold vp_in; decide) ?_
  refine r_iastore e_X11_sleeps_101 (by with_reducible assumption) (by unfold vp_in; decide) ?_
  refine r_aload_n e_X11_sleeps_102 rfl ?_
  refine r_getR e_X11_sleeps_103 fl_X11_212 (by with_reducible assumption) (by with_reducible assumption) ?_
  refine r_bipush e_X11_sleeps_106 bp_23 ?_
  refine r_aload_n e_X11_sleeps_108 rfl ?_
  refine r_getR e_X11_sleeps_109 fl_X11_212 (by with_reducible assumption) (by with_reducible assumption) ?_
  refine r_bipush e_X11_sleeps_112 bp_15 ?_
  refine r_iaload e_X11_sleeps_114 (by with_reducible assumption) (by unfold vp_in; decide) ?_
  refine r_iastore e_X11_sleeps_115 (by with_reducible assumption) (by unfold vp_in; decide) ?_
  refine r_aload_n e_X11_sleeps_116 rfl ?_
  refine r_getR e_X11_sleeps_117 fl_X11_212 (by with_reducible assumption) (by with_reducible assumption) ?_
  refine r_bipush e_X11_sleeps_120 bp_21 ?_
  refine r_iaload e_X11_sleeps_122 (by with_reducible assumption) (by unfold vp_in; decide) ?_
  refine r_ireturn e_X11_sleeps_123 rfl ⟨rfl, rfl⟩ ?_
  (subst e_v3_0 e_v0_0; refine ⟨?_, rfl, ?_⟩ <;> ((try unfold V_X11_sleeps); (try unfold U_X11_sleeps); (try simp only []); (try rfl)))
def V_X11_ballOf (x1 : Nat) (x2 : Int32) (x3 : Int32) (n1 : Nat) (M : Mem) : Int32 := (let v0_0 : Int32 := if 0 ≤ (M.1 x1 (x2 + (16 : Int32)).toNatClampNeg) then (0 : Int32) else (if (M.1 x1 (x2 + (17 : Int32)).toNatClampNeg) ≤ 0 then (0 : Int32) else (1 : Int32)); let v2_0 : Int32 := if (3 : Int32) ≤ x3 then (if v0_0 = 0 then (0 : Int32) else (M.1 x1 ((x2 + (14 : Int32)) + x3).toNatClampNeg)) else (M.1 x1 ((x2 + (14 : Int32)) + x3).toNatClampNeg); v2_0)
theorem S_X11_ballOf {sh : List SC} {M : Mem} {x1 : Nat} {x2 : Int32} {x3 : Int32} {n1 : Nat} (g1 : kd sh x1 = some (0, n1)) (g2 : vp_in (x2 + (16 : Int32)) n1) (g3 : vp_in (x2 + (17 : Int32)) n1) (g4 : vp_in ((x2 + (14 : Int32)) + x3) n1) : Gv m_X11_ballOf [.ref x1, .int x2, .int x3] sh M (.int (V_X11_ballOf x1 x2 x3 n1 M)) M := by
  refine Sp.of (ls := [some (.ref x1), some (.int x2), some (.int x3), none]) (by decide +kernel) (Nat.le_of_ble_eq_true rfl) rfl ?_
  refine r_aload_n e_X11_ballOf_0 rfl ?_
  refine r_iload_n e_X11_ballOf_1 rfl ?_
  refine r_bipush e_X11_ballOf_2 bp_16 ?_
  refine r_iadd e_X11_ballOf_4 ?_
  refine r_iaload e_X11_ballOf_5 (by with_reducible assumption) (by with_reducible assumption) ?_
  obtain ⟨v0_0, e_v0_0⟩ : ∃ z : Int32, z = (if 0 ≤ (M.1 x1 (x2 + (16 : Int32)).toNatClampNeg) then (0 : Int32) else (if (M.1 x1 (x2 + (17 : Int32)).toNatClampNeg) ≤ 0 then (0 : Int32) else (1 : Int32))) := ⟨_, rfl⟩
  have z_v0_0 : v0_0 = 0 ∨ v0_0 = 1 := by rw [e_v0_0]; exact (zi (Or.inl rfl) (zi (Or.inl rfl) (Or.inr rfl)))
  suffices j23_0 : WP m_X11_ballOf (fun r sh' M'' => r = some (.int (V_X11_ballOf x1 x2 x3 n1 M)) ∧ sh' = sh ∧ M'' = M) 23 [some (.ref x1), some (.int x2), some (.int x3), none] [.int v0_0] sh M 0 0 by
    refine r_if_ge e_X11_ballOf_6 (fun h6_0 => ?_) (fun h6_0 => ?_)
    · refine r_iconst e_X11_ballOf_22 ic_0 ?_
      rw [show v0_0 = (0 : Int32) from (e_v0_0.trans (if_pos h6_0))] at j23_0; exact j23_0
    · refine r_aload_n e_X11_ballOf_9 rfl ?_
      refine r_iload_n e_X11_ballOf_10 rfl ?_
      refine r_bipush e_X11_ballOf_11 bp_17 ?_
      refine r_iadd e_X11_ballOf_13 ?_
      refine r_iaload e_X11_ballOf_14 (by with_reducible assumption) (by with_reducible assumption) ?_
      refine r_if_le e_X11_ballOf_15 (fun h15_1 => ?_) (fun h15_1 => ?_)
      · refine r_iconst e_X11_ballOf_22 ic_0 ?_
        rw [show v0_0 = (0 : Int32) from ((e_v0_0.trans (if_neg h6_0)).trans (if_pos h15_1))] at j23_0; exact j23_0
      · refine r_iconst e_X11_ballOf_18 ic_1 ?_
        refine r_goto e_X11_ballOf_19 ?_
        rw [show v0_0 = (1 : Int32) from ((e_v0_0.trans (if_neg h6_0)).trans (if_neg h15_1))] at j23_0; exact j23_0
  refine p_istore_n_4_3 e_X11_ballOf_23 rfl rfl ?_
  refine r_iload_n e_X11_ballOf_24 rfl ?_
  refine r_iconst e_X11_ballOf_25 ic_3 ?_
  obtain ⟨v2_0, e_v2_0⟩ : ∃ z : Int32, z = (if (3 : Int32) ≤ x3 then (if v0_0 = 0 then (0 : Int32) else (M.1 x1 ((x2 + (14 : Int32)) + x3).toNatClampNeg)) else (M.1 x1 ((x2 + (14 : Int32)) + x3).toNatClampNeg)) := ⟨_, rfl⟩
  suffices j56_2 : WP m_X11_ballOf (fun r sh' M'' => r = some (.int (V_X11_ballOf x1 x2 x3 n1 M)) ∧ sh' = sh ∧ M'' = M) 56 [some (.ref x1), some (.int x2), some (.int x3), some (.int v0_0)] [.int v2_0] sh M 0 0 by
    refine r_icmp_ge e_X11_ballOf_26 (fun h26_2 => ?_) (fun h26_2 => ?_)
    · refine r_iload_n e_X11_ballOf_40 rfl ?_
      refine r_if_eq e_X11_ballOf_41 (fun h41_3 => ?_) (fun h41_3 => ?_)
      · refine r_iconst e_X11_ballOf_55 ic_0 ?_
        rw [show v2_0 = (0 : Int32) from ((e_v2_0.trans (if_pos h26_2)).trans (if_pos h41_3))] at j56_2; exact j56_2
      · refine r_aload_n e_X11_ballOf_44 rfl ?_
        refine r_iload_n e_X11_ballOf_45 rfl ?_
        refine r_bipush e_X11_ballOf_46 bp_14 ?_
        refine r_iadd e_X11_ballOf_48 ?_
        refine r_iload_n e_X11_ballOf_49 rfl ?_
        refine r_iadd e_X11_ballOf_50 ?_
        refine r_iaload e_X11_ballOf_51 (by with_reducible assumption) (by with_reducible assumption) ?_
        refine r_goto e_X11_ballOf_52 ?_
        rw [show v2_0 = (M.1 x1 ((x2 + (14 : Int32)) + x3).toNatClampNeg) from ((e_v2_0.trans (if_pos h26_2)).trans (if_neg h41_3))] at j56_2; exact j56_2
    · refine r_aload_n e_X11_ballOf_29 rfl ?_
      refine r_iload_n e_X11_ballOf_30 rfl ?_
      refine r_bipush e_X11_ballOf_31 bp_14 ?_
      refine r_iadd e_X11_ballOf_33 ?_
      refine r_iload_n e_X11_ballOf_34 rfl ?_
      refine r_iadd e_X11_ballOf_35 ?_
      refine r_iaload e_X11_ballOf_36 (by with_reducible assumption) (by with_reducible assumption) ?_
      refine r_goto e_X11_ballOf_37 ?_
      rw [show v2_0 = (M.1 x1 ((x2 + (14 : Int32)) + x3).toNatClampNeg) from (e_v2_0.trans (if_neg h26_2))] at j56_2; exact j56_2
  refine r_ireturn e_X11_ballOf_56 rfl ⟨rfl, rfl⟩ ?_
  (subst e_v2_0 e_v0_0; refine ⟨?_, rfl, ?_⟩ <;> ((try unfold V_X11_ballOf); (try simp only []); (try rfl)))
def V_X11_robot (a : Nat) (x1 : Int32) (x2 : Int32) (q1 : Nat) (q2 : Nat) (M : Mem) : Int32 := if (V_X11_isMatch a q1 M) = 0 then (V_X11_finding a (-1003 : Int32) q2 M) else (if (V_X11_in x1 (0 : Int32) (9 : Int32) M) = 0 then (V_X11_finding a (-1001 : Int32) q2 M) else (if (V_X11_in x2 (0 : Int32) (10 : Int32) M) = 0 then (V_X11_finding a (-1001 : Int32) q2 M) else (V_X11_of a x1 x2 q1 M)))
def U_X11_robot (a : Nat) (x1 : Int32) (x2 : Int32) (q1 : Nat) (q2 : Nat) (M : Mem) : Mem := if (V_X11_isMatch a q1 M) = 0 then (U_X11_finding a (-1003 : Int32) q2 M) else (if (V_X11_in x1 (0 : Int32) (9 : Int32) M) = 0 then (U_X11_finding a (-1001 : Int32) q2 M) else (if (V_X11_in x2 (0 : Int32) (10 : Int32) M) = 0 then (U_X11_finding a (-1001 : Int32) q2 M) else M))
theorem S_X11_robot {sh : List SC} {M : Mem} {a : Nat} {x1 : Int32} {x2 : Int32} {q1 : Nat} {q2 : Nat} (g1 : kd sh a = some (10 + 7, 0)) (g2 : rf sh a 27 = some q1) (g3 : kd sh q1 = some (0, 212)) (g4 : rf sh a 21 = some q2) (g5 : kd sh q2 = some (0, 6)) (g6 : vp_in (((44 : Int32) + ((16 : Int32) * x1)) + x2) 212) : Gv m_X11_robot [.ref a, .int x1, .int x2] sh M (.int (V_X11_robot a x1 x2 q1 q2 M)) (U_X11_robot a x1 x2 q1 q2 M) := by
  refine Sp.of (ls := [some (.ref a), some (.int x1), some (.int x2)]) (by decide +kernel) (Nat.le_of_ble_eq_true rfl) rfl ?_
  refine r_aload_n e_X11_robot_0 rfl ?_
  refine cV0v e_X11_robot_1 cl_X11_394 ⟨Nat.le_of_ble_eq_true rfl, Nat.le_of_ble_eq_true rfl⟩ ⟨rfl, rfl⟩ (by with_reducible assumption) (Nat.le_of_ble_eq_true rfl) (S_X11_isMatch (by with_reducible assumption) (by with_reducible assumption) (by with_reducible assumption)) ?_
  refine r_if_ne e_X11_robot_4 (fun h4_0 => ?_) (fun h4_0 => ?_)
  · refine r_iload_n e_X11_robot_15 rfl ?_
    refine r_iconst e_X11_robot_16 ic_0 ?_
    refine r_bipush e_X11_robot_17 bp_9 ?_
    refine cS3v e_X11_robot_19 cl_X11_245 ⟨Nat.le_of_ble_eq_true rfl, Nat.le_of_ble_eq_true rfl⟩ ⟨rfl, rfl⟩  (Nat.le_of_ble_eq_true rfl) (S_X11_in ) ?_
    refine r_if_eq e_X11_robot_22 (fun h22_1 => ?_) (fun h22_1 => ?_)
    · refine r_aload_n e_X11_robot_35 rfl ?_
      refine r_sipush e_X11_robot_36 sp_m1001 ?_
      refine cV1v e_X11_robot_39 cl_X11_178 ⟨Nat.le_of_ble_eq_true rfl, Nat.le_of_ble_eq_true rfl⟩ ⟨rfl, rfl⟩ (by with_reducible assumption) (Nat.le_of_ble_eq_true rfl) (S_X11_finding (by with_reducible assumption) (by with_reducible assumption) (by with_reducible assumption) (by first | decide | (unfold vp_in; decide) | exact Or.inl rfl | exact Or.inr rfl)) ?_
      refine r_ireturn e_X11_robot_42 rfl ⟨rfl, rfl⟩ ?_
      (refine ⟨?_, rfl, ?_⟩ <;> ((try unfold V_X11_robot); (try unfold U_X11_robot); (try simp only [if_neg h4_0, if_pos h22_1]); (try rfl)))
    · refine r_iload_n e_X11_robot_25 rfl ?_
      refine r_iconst e_X11_robot_26 ic_0 ?_
      refine r_bipush e_X11_robot_27 bp_10 ?_
      refine cS3v e_X11_robot_29 cl_X11_245 ⟨Nat.le_of_ble_eq_true rfl, Nat.le_of_ble_eq_true rfl⟩ ⟨rfl, rfl⟩  (Nat.le_of_ble_eq_true rfl) (S_X11_in ) ?_
      refine r_if_ne e_X11_robot_32 (fun h32_2 => ?_) (fun h32_2 => ?_)
      · refine r_aload_n e_X11_robot_43 rfl ?_
        refine r_iload_n e_X11_robot_44 rfl ?_
        refine r_iload_n e_X11_robot_45 rfl ?_
        refine cV2v e_X11_robot_46 cl_X11_252 ⟨Nat.le_of_ble_eq_true rfl, Nat.le_of_ble_eq_true rfl⟩ ⟨rfl, rfl⟩ (by with_reducible assumption) (Nat.le_of_ble_eq_true rfl) (S_X11_of (by with_reducible assumption) (by with_reducible assumption) (by with_reducible assumption) (by with_reducible assumption)) ?_
        refine r_ireturn e_X11_robot_49 rfl ⟨rfl, rfl⟩ ?_
        (refine ⟨?_, rfl, ?_⟩ <;> ((try unfold V_X11_robot); (try unfold U_X11_robot); (try simp only [if_neg h4_0, if_neg h22_1, if_neg h32_2]); (try rfl)))
      · refine r_aload_n e_X11_robot_35 rfl ?_
        refine r_sipush e_X11_robot_36 sp_m1001 ?_
        refine cV1v e_X11_robot_39 cl_X11_178 ⟨Nat.le_of_ble_eq_true rfl, Nat.le_of_ble_eq_true rfl⟩ ⟨rfl, rfl⟩ (by with_reducible assumption) (Nat.le_of_ble_eq_true rfl) (S_X11_finding (by with_reducible assumption) (by with_reducible assumption) (by with_reducible assumption) (by first | decide | (unfold vp_in; decide) | exact Or.inl rfl | exact Or.inr rfl)) ?_
        refine r_ireturn e_X11_robot_42 rfl ⟨rfl, rfl⟩ ?_
        (refine ⟨?_, rfl, ?_⟩ <;> ((try unfold V_X11_robot); (try unfold U_X11_robot); (try simp only [if_neg h4_0, if_neg h22_1, if_pos h32_2]); (try rfl)))
  · refine r_aload_n e_X11_robot_7 rfl ?_
    refine r_sipush e_X11_robot_8 sp_m1003 ?_
    refine cV1v e_X11_robot_11 cl_X11_178 ⟨Nat.le_of_ble_eq_true rfl, Nat.le_of_ble_eq_true rfl⟩ ⟨rfl, rfl⟩ (by with_reducible assumption) (Nat.le_of_ble_eq_true rfl) (S_X11_finding (by with_reducible assumption) (by with_reducible assumption) (by with_reducible assumption) (by first | decide | (unfold vp_in; decide) | exact Or.inl rfl | exact Or.inr rfl)) ?_
    refine r_ireturn e_X11_robot_14 rfl ⟨rfl, rfl⟩ ?_
    (refine ⟨?_, rfl, ?_⟩ <;> ((try unfold V_X11_robot); (try unfold U_X11_robot); (try simp only [if_pos h4_0]); (try rfl)))
def V_X11_score (a : Nat) (x1 : Int32) (q1 : Nat) (q2 : Nat) (M : Mem) : Int32 := if (V_X11_isMatch a q1 M) = 0 then (V_X11_finding a (-1003 : Int32) q2 M) else (let v1_0 : Int32 := if (V_X11_in x1 (0 : Int32) (8 : Int32) M) = 0 then (V_X11_finding a (-1001 : Int32) q2 M) else (M.1 q1 ((3 : Int32) + x1).toNatClampNeg); let M1_1 : Mem := if (V_X11_in x1 (0 : Int32) (8 : Int32) M) = 0 then (U_X11_finding a (-1001 : Int32) q2 M) else M; v1_0)
def U_X11_score (a : Nat) (x1 : Int32) (q1 : Nat) (q2 : Nat) (M : Mem) : Mem := if (V_X11_isMatch a q1 M) = 0 then (U_X11_finding a (-1003 : Int32) q2 M) else (let v1_0 : Int32 := if (V_X11_in x1 (0 : Int32) (8 : Int32) M) = 0 then (V_X11_finding a (-1001 : Int32) q2 M) else (M.1 q1 ((3 : Int32) + x1).toNatClampNeg); let M1_1 : Mem := if (V_X11_in x1 (0 : Int32) (8 : Int32) M) = 0 then (U_X11_finding a (-1001 : Int32) q2 M) else M; M1_1)
theorem S_X11_score {sh : List SC} {M : Mem} {a : Nat} {x1 : Int32} {q1 : Nat} {q2 : Nat} (g1 : kd sh a = some (10 + 7, 0)) (g2 : rf sh a 27 = some q1) (g3 : kd sh q1 = some (0, 212)) (g4 : rf sh a 21 = some q2) (g5 : kd sh q2 = some (0, 6)) (g6 : vp_in ((3 : Int32) + x1) 212) : Gv m_X11_score [.ref a, .int x1] sh M (.int (V_X11_score a x1 q1 q2 M)) (U_X11_score a x1 q1 q2 M) := by
  refine Sp.of (ls := [some (.ref a), some (.int x1)]) (by decide +kernel) (Nat.le_of_ble_eq_true rfl) rfl ?_
  refine r_aload_n e_X11_score_0 rfl ?_
  refine cV0v e_X11_score_1 cl_X11_394 ⟨Nat.le_of_ble_eq_true rfl, Nat.le_of_ble_eq_true rfl⟩ ⟨rfl, rfl⟩ (by with_reducible assumption) (Nat.le_of_ble_eq_true rfl) (S_X11_isMatch (by with_reducible assumption) (by with_reducible assumption) (by with_reducible assumption)) ?_
  refine r_if_ne e_X11_score_4 (fun h4_0 => ?_) (fun h4_0 => ?_)
  · refine r_iload_n e_X11_score_15 rfl ?_
    refine r_iconst e_X11_score_16 ic_0 ?_
    refine r_bipush e_X11_score_17 bp_8 ?_
    refine cS3v e_X11_score_19 cl_X11_245 ⟨Nat.le_of_ble_eq_true rfl, Nat.le_of_ble_eq_true rfl⟩ ⟨rfl, rfl⟩  (Nat.le_of_ble_eq_true rfl) (S_X11_in ) ?_
    obtain ⟨v1_0, e_v1_0⟩ : ∃ z : Int32, z = (if (V_X11_in x1 (0 : Int32) (8 : Int32) M) = 0 then (V_X11_finding a (-1001 : Int32) q2 M) else (M.1 q1 ((3 : Int32) + x1).toNatClampNeg)) := ⟨_, rfl⟩
    obtain ⟨M1_1, e_M1_1⟩ : ∃ z : Mem, z = (if (V_X11_in x1 (0 : Int32) (8 : Int32) M) = 0 then (U_X11_finding a (-1001 : Int32) q2 M) else M) := ⟨_, rfl⟩
    suffices j43_1 : WP m_X11_score (fun r sh' M'' => r = some (.int (V_X11_score a x1 q1 q2 M)) ∧ sh' = sh ∧ M'' = (U_X11_score a x1 q1 q2 M)) 43 [some (.ref a), some (.int x1)] [.int v1_0] sh M1_1 0 0 by
      refine r_if_eq e_X11_score_22 (fun h22_1 => ?_) (fun h22_1 => ?_)
      · refine r_aload_n e_X11_score_36 rfl ?_
        refine r_sipush e_X11_score_37 sp_m1001 ?_
        refine cV1v e_X11_score_40 cl_X11_178 ⟨Nat.le_of_ble_eq_true rfl, Nat.le_of_ble_eq_true rfl⟩ ⟨rfl, rfl⟩ (by with_reducible assumption) (Nat.le_of_ble_eq_true rfl) (S_X11_finding (by with_reducible assumption) (by with_reducible assumption) (by with_reducible assumption) (by first | decide | (unfold vp_in; decide) | exact Or.inl rfl | exact Or.inr rfl)) ?_
        rw [show v1_0 = (V_X11_finding a (-1001 : Int32) q2 M) from (e_v1_0.trans (if_pos h22_1)), show M1_1 = U_X11_finding a (-1001 : Int32) q2 M from (e_M1_1.trans (if_pos h22_1))] at j43_1; exact j43_1
      · refine r_aload_n e_X11_score_25 rfl ?_
        refine r_getR e_X11_score_26 fl_X11_212 (by with_reducible assumption) (by with_reducible assumption) ?_
        refine r_iconst e_X11_score_29 ic_3 ?_
        refine r_iload_n e_X11_score_30 rfl ?_
        refine r_iadd e_X11_score_31 ?_
        refine r_iaload e_X11_score_32 (by with_reducible assumption) (by with_reducible assumption) ?_
        refine r_goto e_X11_score_33 ?_
        rw [show v1_0 = (M.1 q1 ((3 : Int32) + x1).toNatClampNeg) from (e_v1_0.trans (if_neg h22_1)), show M1_1 = M from (e_M1_1.trans (if_neg h22_1))] at j43_1; exact j43_1
    refine r_ireturn e_X11_score_43 rfl ⟨rfl, rfl⟩ ?_
    (subst e_M1_1 e_v1_0; refine ⟨?_, rfl, ?_⟩ <;> ((try unfold V_X11_score); (try unfold U_X11_score); (try simp only [if_neg h4_0]); (try rfl)))
  · refine r_aload_n e_X11_score_7 rfl ?_
    refine r_sipush e_X11_score_8 sp_m1003 ?_
    refine cV1v e_X11_score_11 cl_X11_178 ⟨Nat.le_of_ble_eq_true rfl, Nat.le_of_ble_eq_true rfl⟩ ⟨rfl, rfl⟩ (by with_reducible assumption) (Nat.le_of_ble_eq_true rfl) (S_X11_finding (by with_reducible assumption) (by with_reducible assumption) (by with_reducible assumption) (by first | decide | (unfold vp_in; decide) | exact Or.inl rfl | exact Or.inr rfl)) ?_
    refine r_ireturn e_X11_score_14 rfl ⟨rfl, rfl⟩ ?_
    (refine ⟨?_, rfl, ?_⟩ <;> ((try unfold V_X11_score); (try unfold U_X11_score); (try simp only [if_pos h4_0]); (try rfl)))
def V_X11_goal (a : Nat) (x1 : Int32) (q1 : Nat) (q2 : Nat) (M : Mem) : Int32 := if (V_X11_isMatch a q1 M) = 0 then (V_X11_finding a (-1003 : Int32) q2 M) else (let v1_0 : Int32 := if (V_X11_in x1 (0 : Int32) ((M.1 q1 (12 : Int32).toNatClampNeg) - (1 : Int32)) M) = 0 then (V_X11_finding a (-1004 : Int32) q2 M) else (M.1 q1 ((24 : Int32) + x1).toNatClampNeg); let M1_1 : Mem := if (V_X11_in x1 (0 : Int32) ((M.1 q1 (12 : Int32).toNatClampNeg) - (1 : Int32)) M) = 0 then (U_X11_finding a (-1004 : Int32) q2 M) else M; v1_0)
def U_X11_goal (a : Nat) (x1 : Int32) (q1 : Nat) (q2 : Nat) (M : Mem) : Mem := if (V_X11_isMatch a q1 M) = 0 then (U_X11_finding a (-1003 : Int32) q2 M) else (let v1_0 : Int32 := if (V_X11_in x1 (0 : Int32) ((M.1 q1 (12 : Int32).toNatClampNeg) - (1 : Int32)) M) = 0 then (V_X11_finding a (-1004 : Int32) q2 M) else (M.1 q1 ((24 : Int32) + x1).toNatClampNeg); let M1_1 : Mem := if (V_X11_in x1 (0 : Int32) ((M.1 q1 (12 : Int32).toNatClampNeg) - (1 : Int32)) M) = 0 then (U_X11_finding a (-1004 : Int32) q2 M) else M; M1_1)
theorem S_X11_goal {sh : List SC} {M : Mem} {a : Nat} {x1 : Int32} {q1 : Nat} {q2 : Nat} (g1 : kd sh a = some (10 + 7, 0)) (g2 : rf sh a 27 = some q1) (g3 : kd sh q1 = some (0, 212)) (g4 : rf sh a 21 = some q2) (g5 : kd sh q2 = some (0, 6)) (g6 : vp_in ((24 : Int32) + x1) 212) : Gv m_X11_goal [.ref a, .int x1] sh M (.int (V_X11_goal a x1 q1 q2 M)) (U_X11_goal a x1 q1 q2 M) := by
  refine Sp.of (ls := [some (.ref a), some (.int x1)]) (by decide +kernel) (Nat.le_of_ble_eq_true rfl) rfl ?_
  refine r_aload_n e_X11_goal_0 rfl ?_
  refine cV0v e_X11_goal_1 cl_X11_394 ⟨Nat.le_of_ble_eq_true rfl, Nat.le_of_ble_eq_true rfl⟩ ⟨rfl, rfl⟩ (by with_reducible assumption) (Nat.le_of_ble_eq_true rfl) (S_X11_isMatch (by with_reducible assumption) (by with_reducible assumption) (by with_reducible assumption)) ?_
  refine r_if_ne e_X11_goal_4 (fun h4_0 => ?_) (fun h4_0 => ?_)
  · refine r_iload_n e_X11_goal_15 rfl ?_
    refine r_iconst e_X11_goal_16 ic_0 ?_
    refine r_aload_n e_X11_goal_17 rfl ?_
    refine r_getR e_X11_goal_18 fl_X11_212 (by with_reducible assumption) (by with_reducible assumption) ?_
    refine r_bipush e_X11_goal_21 bp_12 ?_
    refine r_iaload e_X11_goal_23 (by with_reducible assumption) (by unfold vp_in; decide) ?_
    refine r_iconst e_X11_goal_24 ic_1 ?_
    refine r_isub e_X11_goal_25 ?_
    refine cS3v e_X11_goal_26 cl_X11_245 ⟨Nat.le_of_ble_eq_true rfl, Nat.le_of_ble_eq_true rfl⟩ ⟨rfl, rfl⟩  (Nat.le_of_ble_eq_true rfl) (S_X11_in ) ?_
    obtain ⟨v1_0, e_v1_0⟩ : ∃ z : Int32, z = (if (V_X11_in x1 (0 : Int32) ((M.1 q1 (12 : Int32).toNatClampNeg) - (1 : Int32)) M) = 0 then (V_X11_finding a (-1004 : Int32) q2 M) else (M.1 q1 ((24 : Int32) + x1).toNatClampNeg)) := ⟨_, rfl⟩
    obtain ⟨M1_1, e_M1_1⟩ : ∃ z : Mem, z = (if (V_X11_in x1 (0 : Int32) ((M.1 q1 (12 : Int32).toNatClampNeg) - (1 : Int32)) M) = 0 then (U_X11_finding a (-1004 : Int32) q2 M) else M) := ⟨_, rfl⟩
    suffices j51_1 : WP m_X11_goal (fun r sh' M'' => r = some (.int (V_X11_goal a x1 q1 q2 M)) ∧ sh' = sh ∧ M'' = (U_X11_goal a x1 q1 q2 M)) 51 [some (.ref a), some (.int x1)] [.int v1_0] sh M1_1 0 0 by
      refine r_if_eq e_X11_goal_29 (fun h29_1 => ?_) (fun h29_1 => ?_)
      · refine r_aload_n e_X11_goal_44 rfl ?_
        refine r_sipush e_X11_goal_45 sp_m1004 ?_
        refine cV1v e_X11_goal_48 cl_X11_178 ⟨Nat.le_of_ble_eq_true rfl, Nat.le_of_ble_eq_true rfl⟩ ⟨rfl, rfl⟩ (by with_reducible assumption) (Nat.le_of_ble_eq_true rfl) (S_X11_finding (by with_reducible assumption) (by with_reducible assumption) (by with_reducible assumption) (by first | decide | (unfold vp_in; decide) | exact Or.inl rfl | exact Or.inr rfl)) ?_
        rw [show v1_0 = (V_X11_finding a (-1004 : Int32) q2 M) from (e_v1_0.trans (if_pos h29_1)), show M1_1 = U_X11_finding a (-1004 : Int32) q2 M from (e_M1_1.trans (if_pos h29_1))] at j51_1; exact j51_1
      · refine r_aload_n e_X11_goal_32 rfl ?_
        refine r_getR e_X11_goal_33 fl_X11_212 (by with_reducible assumption) (by with_reducible assumption) ?_
        refine r_bipush e_X11_goal_36 bp_24 ?_
        refine r_iload_n e_X11_goal_38 rfl ?_
        refine r_iadd e_X11_goal_39 ?_
        refine r_iaload e_X11_goal_40 (by with_reducible assumption) (by with_reducible assumption) ?_
        refine r_goto e_X11_goal_41 ?_
        rw [show v1_0 = (M.1 q1 ((24 : Int32) + x1).toNatClampNeg) from (e_v1_0.trans (if_neg h29_1)), show M1_1 = M from (e_M1_1.trans (if_neg h29_1))] at j51_1; exact j51_1
    refine r_ireturn e_X11_goal_51 rfl ⟨rfl, rfl⟩ ?_
    (subst e_M1_1 e_v1_0; refine ⟨?_, rfl, ?_⟩ <;> ((try unfold V_X11_goal); (try unfold U_X11_goal); (try simp only [if_neg h4_0]); (try rfl)))
  · refine r_aload_n e_X11_goal_7 rfl ?_
    refine r_sipush e_X11_goal_8 sp_m1003 ?_
    refine cV1v e_X11_goal_11 cl_X11_178 ⟨Nat.le_of_ble_eq_true rfl, Nat.le_of_ble_eq_true rfl⟩ ⟨rfl, rfl⟩ (by with_reducible assumption) (Nat.le_of_ble_eq_true rfl) (S_X11_finding (by with_reducible assumption) (by with_reducible assumption) (by with_reducible assumption) (by first | decide | (unfold vp_in; decide) | exact Or.inl rfl | exact Or.inr rfl)) ?_
    refine r_ireturn e_X11_goal_14 rfl ⟨rfl, rfl⟩ ?_
    (refine ⟨?_, rfl, ?_⟩ <;> ((try unfold V_X11_goal); (try unfold U_X11_goal); (try simp only [if_pos h4_0]); (try rfl)))
def V_X11_hasPlayed (a : Nat) (x1 : Int32) (M : Mem) : Int32 := (let v0_0 : Int32 := if (((M.1 a 42) >>> (x1 &&& 31)) &&& (1 : Int32)) = (1 : Int32) then (1 : Int32) else (0 : Int32); v0_0)
theorem Z_X11_hasPlayed {M : Mem} {a : Nat} {x1 : Int32}   : V_X11_hasPlayed a x1 M = 0 ∨ V_X11_hasPlayed a x1 M = 1 := (zi (Or.inr rfl) (Or.inl rfl))
theorem S_X11_hasPlayed {sh : List SC} {M : Mem} {a : Nat} {x1 : Int32}  (g1 : kd sh a = some (10 + 7, 0)) : Gv m_X11_hasPlayed [.ref a, .int x1] sh M (.int (V_X11_hasPlayed a x1 M)) M := by
  refine Sp.of (ls := [some (.ref a), some (.int x1)]) (by decide +kernel) (Nat.le_of_ble_eq_true rfl) rfl ?_
  refine r_aload_n e_X11_hasPlayed_0 rfl ?_
  refine r_getI e_X11_hasPlayed_1 fl_X11_408 i0 (by with_reducible assumption) ?_
  refine r_iload_n e_X11_hasPlayed_4 rfl ?_
  refine r_ishr e_X11_hasPlayed_5 ?_
  refine r_iconst e_X11_hasPlayed_6 ic_1 ?_
  refine r_iand e_X11_hasPlayed_7 ?_
  refine r_iconst e_X11_hasPlayed_8 ic_1 ?_
  obtain ⟨v0_0, e_v0_0⟩ : ∃ z : Int32, z = (if (((M.1 a 42) >>> (x1 &&& 31)) &&& (1 : Int32)) = (1 : Int32) then (1 : Int32) else (0 : Int32)) := ⟨_, rfl⟩
  have z_v0_0 : v0_0 = 0 ∨ v0_0 = 1 := by rw [e_v0_0]; exact (zi (Or.inr rfl) (Or.inl rfl))
  suffices j17_0 : WP m_X11_hasPlayed (fun r sh' M'' => r = some (.int (V_X11_hasPlayed a x1 M)) ∧ sh' = sh ∧ M'' = M) 17 [some (.ref a), some (.int x1)] [.int v0_0] sh M 0 0 by
    refine r_icmp_ne e_X11_hasPlayed_9 (fun h9_0 => ?_) (fun h9_0 => ?_)
    · refine r_iconst e_X11_hasPlayed_16 ic_0 ?_
      rw [show v0_0 = (0 : Int32) from (e_v0_0.trans (if_neg h9_0))] at j17_0; exact j17_0
    · refine r_iconst e_X11_hasPlayed_12 ic_1 ?_
      refine r_goto e_X11_hasPlayed_13 ?_
      rw [show v0_0 = (1 : Int32) from (e_v0_0.trans (if_pos h9_0))] at j17_0; exact j17_0
  refine r_zreturn e_X11_hasPlayed_17 rfl ⟨rfl, rfl⟩ z_v0_0 ?_
  (subst e_v0_0; refine ⟨?_, rfl, ?_⟩ <;> ((try unfold V_X11_hasPlayed); (try simp only []); (try rfl)))
def V_X11_isAhead (a : Nat) (x1 : Int32) (x2 : Int32) (q1 : Nat) (q2 : Nat) (q3 : Nat) (M : Mem) : Int32 := if (M.1 q1 x1.toNatClampNeg) = (M.1 q1 x2.toNatClampNeg) then (if ((M.1 q2 x1.toNatClampNeg) - (M.1 q3 x1.toNatClampNeg)) = ((M.1 q2 x2.toNatClampNeg) - (M.1 q3 x2.toNatClampNeg)) then (let v2_0 : Int32 := if (M.1 q2 x1.toNatClampNeg) = (M.1 q2 x2.toNatClampNeg) then (if x2 ≤ x1 then (0 : Int32) else (1 : Int32)) else (if (M.1 q2 x1.toNatClampNeg) ≤ (M.1 q2 x2.toNatClampNeg) then (0 : Int32) else (1 : Int32)); v2_0) else (let v5_0 : Int32 := if ((M.1 q2 x1.toNatClampNeg) - (M.1 q3 x1.toNatClampNeg)) ≤ ((M.1 q2 x2.toNatClampNeg) - (M.1 q3 x2.toNatClampNeg)) then (0 : Int32) else (1 : Int32); v5_0)) else (let v6_0 : Int32 := if (M.1 q1 x1.toNatClampNeg) ≤ (M.1 q1 x2.toNatClampNeg) then (0 : Int32) else (1 : Int32); v6_0)
theorem Z_X11_isAhead {M : Mem} {a : Nat} {x1 : Int32} {x2 : Int32} {q1 : Nat} {q2 : Nat} {q3 : Nat}  : V_X11_isAhead a x1 x2 q1 q2 q3 M = 0 ∨ V_X11_isAhead a x1 x2 q1 q2 q3 M = 1 := (zi (zi (zi (zi (Or.inl rfl) (Or.inr rfl)) (zi (Or.inl rfl) (Or.inr rfl))) (zi (Or.inl rfl) (Or.inr rfl))) (zi (Or.inl rfl) (Or.inr rfl)))
theorem S_X11_isAhead {sh : List SC} {M : Mem} {a : Nat} {x1 : Int32} {x2 : Int32} {q1 : Nat} {q2 : Nat} {q3 : Nat} (g1 : kd sh a = some (10 + 7, 0)) (g2 : rf sh a 43 = some q1) (g3 : kd sh q1 = some (0, 4)) (g4 : vp_in x1 4) (g5 : vp_in x2 4) (g6 : rf sh a 44 = some q2) (g7 : kd sh q2 = some (0, 4)) (g8 : rf sh a 45 = some q3) (g9 : kd sh q3 = some (0, 4)) : Gv m_X11_isAhead [.ref a, .int x1, .int x2] sh M (.int (V_X11_isAhead a x1 x2 q1 q2 q3 M)) M := by
  refine Sp.of (ls := [some (.ref a), some (.int x1), some (.int x2)]) (by decide +kernel) (Nat.le_of_ble_eq_true rfl) rfl ?_
  refine r_aload_n e_X11_isAhead_0 rfl ?_
  refine r_getR e_X11_isAhead_1 fl_X11_233 (by with_reducible assumption) (by with_reducible assumption) ?_
  refine r_iload_n e_X11_isAhead_4 rfl ?_
  refine r_iaload e_X11_isAhead_5 (by with_reducible assumption) (by with_reducible assumption) ?_
  refine r_aload_n e_X11_isAhead_6 rfl ?_
  refine r_getR e_X11_isAhead_7 fl_X11_233 (by with_reducible assumption) (by with_reducible assumption) ?_
  refine r_iload_n e_X11_isAhead_10 rfl ?_
  refine r_iaload e_X11_isAhead_11 (by with_reducible assumption) (by with_reducible assumption) ?_
  refine r_icmp_eq e_X11_isAhead_12 (fun h12_0 => ?_) (fun h12_0 => ?_)
  · refine r_aload_n e_X11_isAhead_36 rfl ?_
    refine r_getR e_X11_isAhead_37 fl_X11_236 (by with_reducible assumption) (by with_reducible assumption) ?_
    refine r_iload_n e_X11_isAhead_40 rfl ?_
    refine r_iaload e_X11_isAhead_41 (by with_reducible assumption) (by with_reducible assumption) ?_
    refine r_aload_n e_X11_isAhead_42 rfl ?_
    refine r_getR e_X11_isAhead_43 fl_X11_239 (by with_reducible assumption) (by with_reducible assumption) ?_
    refine r_iload_n e_X11_isAhead_46 rfl ?_
    refine r_iaload e_X11_isAhead_47 (by with_reducible assumption) (by with_reducible assumption) ?_
    refine r_isub e_X11_isAhead_48 ?_
    refine r_aload_n e_X11_isAhead_49 rfl ?_
    refine r_getR e_X11_isAhead_50 fl_X11_236 (by with_reducible assumption) (by with_reducible assumption) ?_
    refine r_iload_n e_X11_isAhead_53 rfl ?_
    refine r_iaload e_X11_isAhead_54 (by with_reducible assumption) (by with_reducible assumption) ?_
    refine r_aload_n e_X11_isAhead_55 rfl ?_
    refine r_getR e_X11_isAhead_56 fl_X11_239 (by with_reducible assumption) (by with_reducible assumption) ?_
    refine r_iload_n e_X11_isAhead_59 rfl ?_
    refine r_iaload e_X11_isAhead_60 (by with_reducible assumption) (by with_reducible assumption) ?_
    refine r_isub e_X11_isAhead_61 ?_
    refine r_icmp_eq e_X11_isAhead_62 (fun h62_1 => ?_) (fun h62_1 => ?_)
    · refine r_aload_n e_X11_isAhead_100 rfl ?_
      refine r_getR e_X11_isAhead_101 fl_X11_236 (by with_reducible assumption) (by with_reducible assumption) ?_
      refine r_iload_n e_X11_isAhead_104 rfl ?_
      refine r_iaload e_X11_isAhead_105 (by with_reducible assumption) (by with_reducible assumption) ?_
      refine r_aload_n e_X11_isAhead_106 rfl ?_
      refine r_getR e_X11_isAhead_107 fl_X11_236 (by with_reducible assumption) (by with_reducible assumption) ?_
      refine r_iload_n e_X11_isAhead_110 rfl ?_
      refine r_iaload e_X11_isAhead_111 (by with_reducible assumption) (by with_reducible assumption) ?_
      obtain ⟨v2_0, e_v2_0⟩ : ∃ z : Int32, z = (if (M.1 q2 x1.toNatClampNeg) = (M.1 q2 x2.toNatClampNeg) then (if x2 ≤ x1 then (0 : Int32) else (1 : Int32)) else (if (M.1 q2 x1.toNatClampNeg) ≤ (M.1 q2 x2.toNatClampNeg) then (0 : Int32) else (1 : Int32))) := ⟨_, rfl⟩
      have z_v2_0 : v2_0 = 0 ∨ v2_0 = 1 := by rw [e_v2_0]; exact (zi (zi (Or.inl rfl) (Or.inr rfl)) (zi (Or.inl rfl) (Or.inr rfl)))
      suffices j148_2 : WP m_X11_isAhead (fun r sh' M'' => r = some (.int (V_X11_isAhead a x1 x2 q1 q2 q3 M)) ∧ sh' = sh ∧ M'' = M) 148 [some (.ref a), some (.int x1), some (.int x2)] [.int v2_0] sh M 0 0 by
        refine r_icmp_eq e_X11_isAhead_112 (fun h112_2 => ?_) (fun h112_2 => ?_)
        · refine r_iload_n e_X11_isAhead_138 rfl ?_
          refine r_iload_n e_X11_isAhead_139 rfl ?_
          refine r_icmp_ge e_X11_isAhead_140 (fun h140_3 => ?_) (fun h140_3 => ?_)
          · refine r_iconst e_X11_isAhead_147 ic_0 ?_
            rw [show v2_0 = (0 : Int32) from ((e_v2_0.trans (if_pos h112_2)).trans (if_pos h140_3))] at j148_2; exact j148_2
          · refine r_iconst e_X11_isAhead_143 ic_1 ?_
            refine r_goto e_X11_isAhead_144 ?_
            rw [show v2_0 = (1 : Int32) from ((e_v2_0.trans (if_pos h112_2)).trans (if_neg h140_3))] at j148_2; exact j148_2
        · refine r_aload_n e_X11_isAhead_115 rfl ?_
          refine r_getR e_X11_isAhead_116 fl_X11_236 (by with_reducible assumption) (by with_reducible assumption) ?_
          refine r_iload_n e_X11_isAhead_119 rfl ?_
          refine r_iaload e_X11_isAhead_120 (by with_reducible assumption) (by with_reducible assumption) ?_
          refine r_aload_n e_X11_isAhead_121 rfl ?_
          refine r_getR e_X11_isAhead_122 fl_X11_236 (by with_reducible assumption) (by with_reducible assumption) ?_
          refine r_iload_n e_X11_isAhead_125 rfl ?_
          refine r_iaload e_X11_isAhead_126 (by with_reducible assumption) (by with_reducible assumption) ?_
          refine r_icmp_le e_X11_isAhead_127 (fun h127_4 => ?_) (fun h127_4 => ?_)
          · refine r_iconst e_X11_isAhead_134 ic_0 ?_
            refine r_goto e_X11_isAhead_135 ?_
            rw [show v2_0 = (0 : Int32) from ((e_v2_0.trans (if_neg h112_2)).trans (if_pos h127_4))] at j148_2; exact j148_2
          · refine r_iconst e_X11_isAhead_130 ic_1 ?_
            refine r_goto e_X11_isAhead_131 ?_
            rw [show v2_0 = (1 : Int32) from ((e_v2_0.trans (if_neg h112_2)).trans (if_neg h127_4))] at j148_2; exact j148_2
      refine r_zreturn e_X11_isAhead_148 rfl ⟨rfl, rfl⟩ z_v2_0 ?_
      (subst e_v2_0; refine ⟨?_, rfl, ?_⟩ <;> ((try unfold V_X11_isAhead); (try simp only [if_pos h12_0, if_pos h62_1]); (try rfl)))
    · refine r_aload_n e_X11_isAhead_65 rfl ?_
      refine r_getR e_X11_isAhead_66 fl_X11_236 (by with_reducible assumption) (by with_reducible assumption) ?_
      refine r_iload_n e_X11_isAhead_69 rfl ?_
      refine r_iaload e_X11_isAhead_70 (by with_reducible assumption) (by with_reducible assumption) ?_
      refine r_aload_n e_X11_isAhead_71 rfl ?_
      refine r_getR e_X11_isAhead_72 fl_X11_239 (by with_reducible assumption) (by with_reducible assumption) ?_
      refine r_iload_n e_X11_isAhead_75 rfl ?_
      refine r_iaload e_X11_isAhead_76 (by with_reducible assumption) (by with_reducible assumption) ?_
      refine r_isub e_X11_isAhead_77 ?_
      refine r_aload_n e_X11_isAhead_78 rfl ?_
      refine r_getR e_X11_isAhead_79 fl_X11_236 (by with_reducible assumption) (by with_reducible assumption) ?_
      refine r_iload_n e_X11_isAhead_82 rfl ?_
      refine r_iaload e_X11_isAhead_83 (by with_reducible assumption) (by with_reducible assumption) ?_
      refine r_aload_n e_X11_isAhead_84 rfl ?_
      refine r_getR e_X11_isAhead_85 fl_X11_239 (by with_reducible assumption) (by with_reducible assumption) ?_
      refine r_iload_n e_X11_isAhead_88 rfl ?_
      refine r_iaload e_X11_isAhead_89 (by with_reducible assumption) (by with_reducible assumption) ?_
      refine r_isub e_X11_isAhead_90 ?_
      obtain ⟨v5_0, e_v5_0⟩ : ∃ z : Int32, z = (if ((M.1 q2 x1.toNatClampNeg) - (M.1 q3 x1.toNatClampNeg)) ≤ ((M.1 q2 x2.toNatClampNeg) - (M.1 q3 x2.toNatClampNeg)) then (0 : Int32) else (1 : Int32)) := ⟨_, rfl⟩
      have z_v5_0 : v5_0 = 0 ∨ v5_0 = 1 := by rw [e_v5_0]; exact (zi (Or.inl rfl) (Or.inr rfl))
      suffices j99_5 : WP m_X11_isAhead (fun r sh' M'' => r = some (.int (V_X11_isAhead a x1 x2 q1 q2 q3 M)) ∧ sh' = sh ∧ M'' = M) 99 [some (.ref a), some (.int x1), some (.int x2)] [.int v5_0] sh M 0 0 by
        refine r_icmp_le e_X11_isAhead_91 (fun h91_5 => ?_) (fun h91_5 => ?_)
        · refine r_iconst e_X11_isAhead_98 ic_0 ?_
          rw [show v5_0 = (0 : Int32) from (e_v5_0.trans (if_pos h91_5))] at j99_5; exact j99_5
        · refine r_iconst e_X11_isAhead_94 ic_1 ?_
          refine r_goto e_X11_isAhead_95 ?_
          rw [show v5_0 = (1 : Int32) from (e_v5_0.trans (if_neg h91_5))] at j99_5; exact j99_5
      refine r_zreturn e_X11_isAhead_99 rfl ⟨rfl, rfl⟩ z_v5_0 ?_
      (subst e_v5_0; refine ⟨?_, rfl, ?_⟩ <;> ((try unfold V_X11_isAhead); (try simp only [if_pos h12_0, if_neg h62_1]); (try rfl)))
  · refine r_aload_n e_X11_isAhead_15 rfl ?_
    refine r_getR e_X11_isAhead_16 fl_X11_233 (by with_reducible assumption) (by with_reducible assumption) ?_
    refine r_iload_n e_X11_isAhead_19 rfl ?_
    refine r_iaload e_X11_isAhead_20 (by with_reducible assumption) (by with_reducible assumption) ?_
    refine r_aload_n e_X11_isAhead_21 rfl ?_
    refine r_getR e_X11_isAhead_22 fl_X11_233 (by with_reducible assumption) (by with_reducible assumption) ?_
    refine r_iload_n e_X11_isAhead_25 rfl ?_
    refine r_iaload e_X11_isAhead_26 (by with_reducible assumption) (by with_reducible assumption) ?_
    obtain ⟨v6_0, e_v6_0⟩ : ∃ z : Int32, z = (if (M.1 q1 x1.toNatClampNeg) ≤ (M.1 q1 x2.toNatClampNeg) then (0 : Int32) else (1 : Int32)) := ⟨_, rfl⟩
    have z_v6_0 : v6_0 = 0 ∨ v6_0 = 1 := by rw [e_v6_0]; exact (zi (Or.inl rfl) (Or.inr rfl))
    suffices j35_6 : WP m_X11_isAhead (fun r sh' M'' => r = some (.int (V_X11_isAhead a x1 x2 q1 q2 q3 M)) ∧ sh' = sh ∧ M'' = M) 35 [some (.ref a), some (.int x1), some (.int x2)] [.int v6_0] sh M 0 0 by
      refine r_icmp_le e_X11_isAhead_27 (fun h27_6 => ?_) (fun h27_6 => ?_)
      · refine r_iconst e_X11_isAhead_34 ic_0 ?_
        rw [show v6_0 = (0 : Int32) from (e_v6_0.trans (if_pos h27_6))] at j35_6; exact j35_6
      · refine r_iconst e_X11_isAhead_30 ic_1 ?_
        refine r_goto e_X11_isAhead_31 ?_
        rw [show v6_0 = (1 : Int32) from (e_v6_0.trans (if_neg h27_6))] at j35_6; exact j35_6
    refine r_zreturn e_X11_isAhead_35 rfl ⟨rfl, rfl⟩ z_v6_0 ?_
    (subst e_v6_0; refine ⟨?_, rfl, ?_⟩ <;> ((try unfold V_X11_isAhead); (try simp only [if_neg h12_0]); (try rfl)))
def V_X11_tell (a : Nat) (x1 : Int32) (q1 : Nat) (q2 : Nat) (M : Mem) : Int32 := if (M.1 a 46) = (20 : Int32) then (V_X11_finding a (-1002 : Int32) q2 M) else ((M.1 a 46) + (1 : Int32))
def U_X11_tell (a : Nat) (x1 : Int32) (q1 : Nat) (q2 : Nat) (M : Mem) : Mem := if (M.1 a 46) = (20 : Int32) then (U_X11_finding a (-1002 : Int32) q2 M) else (setI (setI M q1 (M.1 a 46).toNatClampNeg x1) a 46 ((M.1 a 46) + (1 : Int32)))
theorem S_X11_tell {sh : List SC} {M : Mem} {a : Nat} {x1 : Int32} {q1 : Nat} {q2 : Nat} (g1 : kd sh a = some (10 + 7, 0)) (g2 : rf sh a 47 = some q1) (g3 : kd sh q1 = some (0, 20)) (g4 : vp_in (M.1 a 46) 20) (g5 : rf sh a 21 = some q2) (g6 : kd sh q2 = some (0, 6)) : Gv m_X11_tell [.ref a, .int x1] sh M (.int (V_X11_tell a x1 q1 q2 M)) (U_X11_tell a x1 q1 q2 M) := by
  refine Sp.of (ls := [some (.ref a), some (.int x1)]) (by decide +kernel) (Nat.le_of_ble_eq_true rfl) rfl ?_
  refine r_aload_n e_X11_tell_0 rfl ?_
  refine r_getI e_X11_tell_1 fl_X11_421 i0 (by with_reducible assumption) ?_
  refine r_bipush e_X11_tell_4 bp_20 ?_
  refine r_icmp_ne e_X11_tell_6 (fun h6_0 => ?_) (fun h6_0 => ?_)
  · refine r_aload_n e_X11_tell_17 rfl ?_
    refine r_getR e_X11_tell_18 fl_X11_242 (by with_reducible assumption) (by with_reducible assumption) ?_
    refine r_aload_n e_X11_tell_21 rfl ?_
    refine r_getI e_X11_tell_22 fl_X11_421 i0 (by with_reducible assumption) ?_
    refine r_iload_n e_X11_tell_25 rfl ?_
    refine r_iastore e_X11_tell_26 (by with_reducible assumption) (by with_reducible assumption) ?_
    refine r_aload_n e_X11_tell_27 rfl ?_
    refine r_dup e_X11_tell_28 rfl ?_
    refine r_getIe e_X11_tell_29 fl_X11_421 i0 (by with_reducible assumption) (gs_aI (ne_kd (show kd sh a = some (10 + 7, 0) by with_reducible assumption) (show kd sh q1 = some (0, 20) by with_reducible assumption) (by decide))) ?_
    refine r_iconst e_X11_tell_32 ic_1 ?_
    refine r_iadd e_X11_tell_33 ?_
    refine r_putI e_X11_tell_34 fl_X11_421 (by with_reducible assumption) ?_
    refine r_aload_n e_X11_tell_37 rfl ?_
    refine r_getIe e_X11_tell_38 fl_X11_421 i0 (by with_reducible assumption) gs_eI ?_
    refine r_ireturn e_X11_tell_41 rfl ⟨rfl, rfl⟩ ?_
    (refine ⟨?_, rfl, ?_⟩ <;> ((try unfold V_X11_tell); (try unfold U_X11_tell); (try simp only [if_neg h6_0]); (try rfl)))
  · refine r_aload_n e_X11_tell_9 rfl ?_
    refine r_sipush e_X11_tell_10 sp_m1002 ?_
    refine cV1v e_X11_tell_13 cl_X11_178 ⟨Nat.le_of_ble_eq_true rfl, Nat.le_of_ble_eq_true rfl⟩ ⟨rfl, rfl⟩ (by with_reducible assumption) (Nat.le_of_ble_eq_true rfl) (S_X11_finding (by with_reducible assumption) (by with_reducible assumption) (by with_reducible assumption) (by first | decide | (unfold vp_in; decide) | exact Or.inl rfl | exact Or.inr rfl)) ?_
    refine r_ireturn e_X11_tell_16 rfl ⟨rfl, rfl⟩ ?_
    (refine ⟨?_, rfl, ?_⟩ <;> ((try unfold V_X11_tell); (try unfold U_X11_tell); (try simp only [if_pos h6_0]); (try rfl)))
def V_X11_count (a : Nat) (x1 : Int32) (q1 : Nat) (q2 : Nat) (q3 : Nat) (M : Mem) : Int32 := if x1 = 0 then (M.1 a 8) else (if x1 = 1 then (M.1 a 1) else (if x1 = 2 then (let v0_0 : Int32 := if (M.1 a 8) ≤ 0 then (0 : Int32) else (M.1 q1 (0 : Int32).toNatClampNeg); v0_0) else (if x1 = 3 then (M.1 a 46) else (if x1 = 4 then (let v1_0 : Int32 := if (V_X11_isMatch a q2 M) = 0 then (0 : Int32) else (1 : Int32); v1_0) else (V_X11_finding a (-1001 : Int32) q3 M)))))
def U_X11_count (a : Nat) (x1 : Int32) (q1 : Nat) (q2 : Nat) (q3 : Nat) (M : Mem) : Mem := if x1 = 0 then M else (if x1 = 1 then M else (if x1 = 2 then M else (if x1 = 3 then M else (if x1 = 4 then M else (U_X11_finding a (-1001 : Int32) q3 M)))))
theorem S_X11_count {sh : List SC} {M : Mem} {a : Nat} {x1 : Int32} {q1 : Nat} {q2 : Nat} {q3 : Nat} (g1 : kd sh a = some (10 + 7, 0)) (g2 : rf sh a 12 = some q1) (g3 : kd sh q1 = some (0, 6)) (g4 : rf sh a 27 = some q2) (g5 : kd sh q2 = some (0, 212)) (g6 : rf sh a 21 = some q3) (g7 : kd sh q3 = some (0, 6)) : Gv m_X11_count [.ref a, .int x1] sh M (.int (V_X11_count a x1 q1 q2 q3 M)) (U_X11_count a x1 q1 q2 q3 M) := by
  refine Sp.of (ls := [some (.ref a), some (.int x1)]) (by decide +kernel) (Nat.le_of_ble_eq_true rfl) rfl ?_
  refine r_iload_n e_X11_count_0 rfl ?_
  by_cases hs1_0 : x1 = 0
  · refine r_tabIn (tgt := 36) (off := 35) e_X11_count_1 (by rw [hs1_0]; decide) (by rw [hs1_0]; decide) (by rw [hs1_0]; rfl) (by decide) ?_
    refine r_aload_n e_X11_count_36 rfl ?_
    refine r_getI e_X11_count_37 fl_X11_105 i0 (by with_reducible assumption) ?_
    refine r_ireturn e_X11_count_40 rfl ⟨rfl, rfl⟩ ?_
    (refine ⟨?_, rfl, ?_⟩ <;> ((try unfold V_X11_count); (try unfold U_X11_count); (try simp only [if_pos hs1_0]); (try rfl)))
  · by_cases hs1_1 : x1 = 1
    · refine r_tabIn (tgt := 41) (off := 40) e_X11_count_1 (by rw [hs1_1]; decide) (by rw [hs1_1]; decide) (by rw [hs1_1]; rfl) (by decide) ?_
      refine r_aload_n e_X11_count_41 rfl ?_
      refine r_getI e_X11_count_42 fl_X11_1 i0 (by with_reducible assumption) ?_
      refine r_ireturn e_X11_count_45 rfl ⟨rfl, rfl⟩ ?_
      (refine ⟨?_, rfl, ?_⟩ <;> ((try unfold V_X11_count); (try unfold U_X11_count); (try simp only [if_neg hs1_0, if_pos hs1_1]); (try rfl)))
    · by_cases hs1_2 : x1 = 2
      · refine r_tabIn (tgt := 46) (off := 45) e_X11_count_1 (by rw [hs1_2]; decide) (by rw [hs1_2]; decide) (by rw [hs1_2]; rfl) (by decide) ?_
        refine r_aload_n e_X11_count_46 rfl ?_
        refine r_getI e_X11_count_47 fl_X11_105 i0 (by with_reducible assumption) ?_
        obtain ⟨v0_0, e_v0_0⟩ : ∃ z : Int32, z = (if (M.1 a 8) ≤ 0 then (0 : Int32) else (M.1 q1 (0 : Int32).toNatClampNeg)) := ⟨_, rfl⟩
        suffices j63_0 : WP m_X11_count (fun r sh' M'' => r = some (.int (V_X11_count a x1 q1 q2 q3 M)) ∧ sh' = sh ∧ M'' = (U_X11_count a x1 q1 q2 q3 M)) 63 [some (.ref a), some (.int x1)] [.int v0_0] sh M 0 0 by
          refine r_if_le e_X11_count_50 (fun h50_0 => ?_) (fun h50_0 => ?_)
          · refine r_iconst e_X11_count_62 ic_0 ?_
            rw [show v0_0 = (0 : Int32) from (e_v0_0.trans (if_pos h50_0))] at j63_0; exact j63_0
          · refine r_aload_n e_X11_count_53 rfl ?_
            refine r_getR e_X11_count_54 fl_X11_166 (by with_reducible assumption) (by with_reducible assumption) ?_
            refine r_iconst e_X11_count_57 ic_0 ?_
            refine r_iaload e_X11_count_58 (by with_reducible assumption) (by unfold vp_in; decide) ?_
            refine r_goto e_X11_count_59 ?_
            rw [show v0_0 = (M.1 q1 (0 : Int32).toNatClampNeg) from (e_v0_0.trans (if_neg h50_0))] at j63_0; exact j63_0
        refine r_ireturn e_X11_count_63 rfl ⟨rfl, rfl⟩ ?_
        (subst e_v0_0; refine ⟨?_, rfl, ?_⟩ <;> ((try unfold V_X11_count); (try unfold U_X11_count); (try simp only [if_neg hs1_0, if_neg hs1_1, if_pos hs1_2]); (try rfl)))
      · by_cases hs1_3 : x1 = 3
        · refine r_tabIn (tgt := 64) (off := 63) e_X11_count_1 (by rw [hs1_3]; decide) (by rw [hs1_3]; decide) (by rw [hs1_3]; rfl) (by decide) ?_
          refine r_aload_n e_X11_count_64 rfl ?_
          refine r_getI e_X11_count_65 fl_X11_421 i0 (by with_reducible assumption) ?_
          refine r_ireturn e_X11_count_68 rfl ⟨rfl, rfl⟩ ?_
          (refine ⟨?_, rfl, ?_⟩ <;> ((try unfold V_X11_count); (try unfold U_X11_count); (try simp only [if_neg hs1_0, if_neg hs1_1, if_neg hs1_2, if_pos hs1_3]); (try rfl)))
        · by_cases hs1_4 : x1 = 4
          · refine r_tabIn (tgt := 69) (off := 68) e_X11_count_1 (by rw [hs1_4]; decide) (by rw [hs1_4]; decide) (by rw [hs1_4]; rfl) (by decide) ?_
            refine r_aload_n e_X11_count_69 rfl ?_
            refine cV0v e_X11_count_70 cl_X11_394 ⟨Nat.le_of_ble_eq_true rfl, Nat.le_of_ble_eq_true rfl⟩ ⟨rfl, rfl⟩ (by with_reducible assumption) (Nat.le_of_ble_eq_true rfl) (S_X11_isMatch (by with_reducible assumption) (by with_reducible assumption) (by with_reducible assumption)) ?_
            obtain ⟨v1_0, e_v1_0⟩ : ∃ z : Int32, z = (if (V_X11_isMatch a q2 M) = 0 then (0 : Int32) else (1 : Int32)) := ⟨_, rfl⟩
            have z_v1_0 : v1_0 = 0 ∨ v1_0 = 1 := by rw [e_v1_0]; exact (zi (Or.inl rfl) (Or.inr rfl))
            suffices j81_1 : WP m_X11_count (fun r sh' M'' => r = some (.int (V_X11_count a x1 q1 q2 q3 M)) ∧ sh' = sh ∧ M'' = (U_X11_count a x1 q1 q2 q3 M)) 81 [some (.ref a), some (.int x1)] [.int v1_0] sh M 0 0 by
              refine r_if_eq e_X11_count_73 (fun h73_1 => ?_) (fun h73_1 => ?_)
              · refine r_iconst e_X11_count_80 ic_0 ?_
                rw [show v1_0 = (0 : Int32) from (e_v1_0.trans (if_pos h73_1))] at j81_1; exact j81_1
              · refine r_iconst e_X11_count_76 ic_1 ?_
                refine r_goto e_X11_count_77 ?_
                rw [show v1_0 = (1 : Int32) from (e_v1_0.trans (if_neg h73_1))] at j81_1; exact j81_1
            refine r_ireturn e_X11_count_81 rfl ⟨rfl, rfl⟩ ?_
            (subst e_v1_0; refine ⟨?_, rfl, ?_⟩ <;> ((try unfold V_X11_count); (try unfold U_X11_count); (try simp only [if_neg hs1_0, if_neg hs1_1, if_neg hs1_2, if_neg hs1_3, if_pos hs1_4]); (try rfl)))
          · refine r_tabOut (tgt := 82) e_X11_count_1 (by have q0 := lv_neT hs1_0 (show (0 : Int32).toInt = 0 from rfl); have q1 := lv_neT hs1_1 (show (1 : Int32).toInt = 1 from rfl); have q2 := lv_neT hs1_2 (show (2 : Int32).toInt = 2 from rfl); have q3 := lv_neT hs1_3 (show (3 : Int32).toInt = 3 from rfl); have q4 := lv_neT hs1_4 (show (4 : Int32).toInt = 4 from rfl); omega) (by decide) ?_
            refine r_aload_n e_X11_count_82 rfl ?_
            refine r_sipush e_X11_count_83 sp_m1001 ?_
            refine cV1v e_X11_count_86 cl_X11_178 ⟨Nat.le_of_ble_eq_true rfl, Nat.le_of_ble_eq_true rfl⟩ ⟨rfl, rfl⟩ (by with_reducible assumption) (Nat.le_of_ble_eq_true rfl) (S_X11_finding (by with_reducible assumption) (by with_reducible assumption) (by with_reducible assumption) (by first | decide | (unfold vp_in; decide) | exact Or.inl rfl | exact Or.inr rfl)) ?_
            refine r_ireturn e_X11_count_89 rfl ⟨rfl, rfl⟩ ?_
            (refine ⟨?_, rfl, ?_⟩ <;> ((try unfold V_X11_count); (try unfold U_X11_count); (try simp only [if_neg hs1_0, if_neg hs1_1, if_neg hs1_2, if_neg hs1_3, if_neg hs1_4]); (try rfl)))
def V_X11_found (a : Nat) (x1 : Int32) (q1 : Nat) (M : Mem) : Int32 := (let v0_0 : Int32 := if (V_X11_in x1 (-1005 : Int32) (-1001 : Int32) M) = 0 then (V_X11_finding a (-1001 : Int32) q1 M) else (M.1 q1 ((-1000 : Int32) - x1).toNatClampNeg); let M0_1 : Mem := if (V_X11_in x1 (-1005 : Int32) (-1001 : Int32) M) = 0 then (U_X11_finding a (-1001 : Int32) q1 M) else M; v0_0)
def U_X11_found (a : Nat) (x1 : Int32) (q1 : Nat) (M : Mem) : Mem := (let v0_0 : Int32 := if (V_X11_in x1 (-1005 : Int32) (-1001 : Int32) M) = 0 then (V_X11_finding a (-1001 : Int32) q1 M) else (M.1 q1 ((-1000 : Int32) - x1).toNatClampNeg); let M0_1 : Mem := if (V_X11_in x1 (-1005 : Int32) (-1001 : Int32) M) = 0 then (U_X11_finding a (-1001 : Int32) q1 M) else M; M0_1)
theorem S_X11_found {sh : List SC} {M : Mem} {a : Nat} {x1 : Int32} {q1 : Nat} (g1 : kd sh a = some (10 + 7, 0)) (g2 : rf sh a 21 = some q1) (g3 : kd sh q1 = some (0, 6)) (g4 : vp_in ((-1000 : Int32) - x1) 6) : Gv m_X11_found [.ref a, .int x1] sh M (.int (V_X11_found a x1 q1 M)) (U_X11_found a x1 q1 M) := by
  refine Sp.of (ls := [some (.ref a), some (.int x1)]) (by decide +kernel) (Nat.le_of_ble_eq_true rfl) rfl ?_
  refine r_iload_n e_X11_found_0 rfl ?_
  refine r_sipush e_X11_found_1 sp_m1005 ?_
  refine r_sipush e_X11_found_4 sp_m1001 ?_
  refine cS3v e_X11_found_7 cl_X11_245 ⟨Nat.le_of_ble_eq_true rfl, Nat.le_of_ble_eq_true rfl⟩ ⟨rfl, rfl⟩  (Nat.le_of_ble_eq_true rfl) (S_X11_in ) ?_
  obtain ⟨v0_0, e_v0_0⟩ : ∃ z : Int32, z = (if (V_X11_in x1 (-1005 : Int32) (-1001 : Int32) M) = 0 then (V_X11_finding a (-1001 : Int32) q1 M) else (M.1 q1 ((-1000 : Int32) - x1).toNatClampNeg)) := ⟨_, rfl⟩
  obtain ⟨M0_1, e_M0_1⟩ : ∃ z : Mem, z = (if (V_X11_in x1 (-1005 : Int32) (-1001 : Int32) M) = 0 then (U_X11_finding a (-1001 : Int32) q1 M) else M) := ⟨_, rfl⟩
  suffices j33_0 : WP m_X11_found (fun r sh' M'' => r = some (.int (V_X11_found a x1 q1 M)) ∧ sh' = sh ∧ M'' = (U_X11_found a x1 q1 M)) 33 [some (.ref a), some (.int x1)] [.int v0_0] sh M0_1 0 0 by
    refine r_if_eq e_X11_found_10 (fun h10_0 => ?_) (fun h10_0 => ?_)
    · refine r_aload_n e_X11_found_26 rfl ?_
      refine r_sipush e_X11_found_27 sp_m1001 ?_
      refine cV1v e_X11_found_30 cl_X11_178 ⟨Nat.le_of_ble_eq_true rfl, Nat.le_of_ble_eq_true rfl⟩ ⟨rfl, rfl⟩ (by with_reducible assumption) (Nat.le_of_ble_eq_true rfl) (S_X11_finding (by with_reducible assumption) (by with_reducible assumption) (by with_reducible assumption) (by first | decide | (unfold vp_in; decide) | exact Or.inl rfl | exact Or.inr rfl)) ?_
      rw [show v0_0 = (V_X11_finding a (-1001 : Int32) q1 M) from (e_v0_0.trans (if_pos h10_0)), show M0_1 = U_X11_finding a (-1001 : Int32) q1 M from (e_M0_1.trans (if_pos h10_0))] at j33_0; exact j33_0
    · refine r_aload_n e_X11_found_13 rfl ?_
      refine r_getR e_X11_found_14 fl_X11_189 (by with_reducible assumption) (by with_reducible assumption) ?_
      refine r_sipush e_X11_found_17 sp_m1000 ?_
      refine r_iload_n e_X11_found_20 rfl ?_
      refine r_isub e_X11_found_21 ?_
      refine r_iaload e_X11_found_22 (by with_reducible assumption) (by with_reducible assumption) ?_
      refine r_goto e_X11_found_23 ?_
      rw [show v0_0 = (M.1 q1 ((-1000 : Int32) - x1).toNatClampNeg) from (e_v0_0.trans (if_neg h10_0)), show M0_1 = M from (e_M0_1.trans (if_neg h10_0))] at j33_0; exact j33_0
  refine r_ireturn e_X11_found_33 rfl ⟨rfl, rfl⟩ ?_
  (subst e_M0_1 e_v0_0; refine ⟨?_, rfl, ?_⟩ <;> ((try unfold V_X11_found); (try unfold U_X11_found); (try simp only []); (try rfl)))
def U_X3_addTerm (a : Nat) (x1 : Int32) (x2 : Int32) (x3 : Int32) (x4 : Int32) (q1 : Nat) (q2 : Nat) (q3 : Nat) (q4 : Nat) (M : Mem) : Mem := setI (U_X10_put q4 ((U_X10_put q3 ((U_X10_put q2 ((U_X10_put q1 (M.1 a 15) x1 400 M).1 a 15) x2 400 (U_X10_put q1 (M.1 a 15) x1 400 M)).1 a 15) x3 400 (U_X10_put q2 ((U_X10_put q1 (M.1 a 15) x1 400 M).1 a 15) x2 400 (U_X10_put q1 (M.1 a 15) x1 400 M))).1 a 15) x4 400 (U_X10_put q3 ((U_X10_put q2 ((U_X10_put q1 (M.1 a 15) x1 400 M).1 a 15) x2 400 (U_X10_put q1 (M.1 a 15) x1 400 M)).1 a 15) x3 400 (U_X10_put q2 ((U_X10_put q1 (M.1 a 15) x1 400 M).1 a 15) x2 400 (U_X10_put q1 (M.1 a 15) x1 400 M)))) a 15 (((U_X10_put q4 ((U_X10_put q3 ((U_X10_put q2 ((U_X10_put q1 (M.1 a 15) x1 400 M).1 a 15) x2 400 (U_X10_put q1 (M.1 a 15) x1 400 M)).1 a 15) x3 400 (U_X10_put q2 ((U_X10_put q1 (M.1 a 15) x1 400 M).1 a 15) x2 400 (U_X10_put q1 (M.1 a 15) x1 400 M))).1 a 15) x4 400 (U_X10_put q3 ((U_X10_put q2 ((U_X10_put q1 (M.1 a 15) x1 400 M).1 a 15) x2 400 (U_X10_put q1 (M.1 a 15) x1 400 M)).1 a 15) x3 400 (U_X10_put q2 ((U_X10_put q1 (M.1 a 15) x1 400 M).1 a 15) x2 400 (U_X10_put q1 (M.1 a 15) x1 400 M)))).1 a 15) + (1 : Int32))
theorem S_X3_addTerm {sh : List SC} {M : Mem} {a : Nat} {x1 : Int32} {x2 : Int32} {x3 : Int32} {x4 : Int32} {q1 : Nat} {q2 : Nat} {q3 : Nat} {q4 : Nat} (g1 : kd sh a = some (3 + 7, 0)) (g2 : rf sh a 16 = some q1) (g3 : kd sh q1 = some (0, 400)) (g4 : rf sh a 17 = some q2) (g5 : kd sh q2 = some (0, 400)) (g6 : rf sh a 18 = some q3) (g7 : kd sh q3 = some (0, 400)) (g8 : rf sh a 19 = some q4) (g9 : kd sh q4 = some (0, 400)) : Gu m_X3_addTerm [.ref a, .int x1, .int x2, .int x3, .int x4] sh M (U_X3_addTerm a x1 x2 x3 x4 q1 q2 q3 q4 M) := by
  refine Sp.of (ls := [some (.ref a), some (.int x1), some (.int x2), some (.int x3), some (.int x4)]) (by decide +kernel) (Nat.le_of_ble_eq_true rfl) rfl ?_
  refine r_aload_n e_X3_addTerm_0 rfl ?_
  refine r_getR e_X3_addTerm_1 fl_X3_62 (by with_reducible assumption) (by with_reducible assumption) ?_
  refine r_aload_n e_X3_addTerm_4 rfl ?_
  refine r_getI e_X3_addTerm_5 fl_X3_59 i0 (by with_reducible assumption) ?_
  refine r_iload_n e_X3_addTerm_8 rfl ?_
  refine cSN3u e_X3_addTerm_9 cl_X3_74 ⟨Nat.le_of_ble_eq_true rfl, Nat.le_of_ble_eq_true rfl⟩ ⟨rfl, rfl⟩  (Nat.le_of_ble_eq_true rfl) (S_X10_put (by with_reducible assumption) (by first | decide | (unfold vp_in; decide) | exact Or.inl rfl | exact Or.inr rfl)) ?_
  refine r_aload_n e_X3_addTerm_12 rfl ?_
  refine r_getR e_X3_addTerm_13 fl_X3_65 (by with_reducible assumption) (by with_reducible assumption) ?_
  refine r_aload_n e_X3_addTerm_16 rfl ?_
  refine r_getI e_X3_addTerm_17 fl_X3_59 i0 (by with_reducible assumption) ?_
  refine r_iload_n e_X3_addTerm_20 rfl ?_
  refine cSN3u e_X3_addTerm_21 cl_X3_74 ⟨Nat.le_of_ble_eq_true rfl, Nat.le_of_ble_eq_true rfl⟩ ⟨rfl, rfl⟩  (Nat.le_of_ble_eq_true rfl) (S_X10_put (by with_reducible assumption) (by first | decide | (unfold vp_in; decide) | exact Or.inl rfl | exact Or.inr rfl)) ?_
  refine r_aload_n e_X3_addTerm_24 rfl ?_
  refine r_getR e_X3_addTerm_25 fl_X3_68 (by with_reducible assumption) (by with_reducible assumption) ?_
  refine r_aload_n e_X3_addTerm_28 rfl ?_
  refine r_getI e_X3_addTerm_29 fl_X3_59 i0 (by with_reducible assumption) ?_
  refine r_iload_n e_X3_addTerm_32 rfl ?_
  refine cSN3u e_X3_addTerm_33 cl_X3_74 ⟨Nat.le_of_ble_eq_true rfl, Nat.le_of_ble_eq_true rfl⟩ ⟨rfl, rfl⟩  (Nat.le_of_ble_eq_true rfl) (S_X10_put (by with_reducible assumption) (by first | decide | (unfold vp_in; decide) | exact Or.inl rfl | exact Or.inr rfl)) ?_
  refine r_aload_n e_X3_addTerm_36 rfl ?_
  refine r_getR e_X3_addTerm_37 fl_X3_71 (by with_reducible assumption) (by with_reducible assumption) ?_
  refine r_aload_n e_X3_addTerm_40 rfl ?_
  refine r_getI e_X3_addTerm_41 fl_X3_59 i0 (by with_reducible assumption) ?_
  refine r_iload e_X3_addTerm_44 rfl ?_
  refine cSN3u e_X3_addTerm_46 cl_X3_74 ⟨Nat.le_of_ble_eq_true rfl, Nat.le_of_ble_eq_true rfl⟩ ⟨rfl, rfl⟩  (Nat.le_of_ble_eq_true rfl) (S_X10_put (by with_reducible assumption) (by first | decide | (unfold vp_in; decide) | exact Or.inl rfl | exact Or.inr rfl)) ?_
  refine r_aload_n e_X3_addTerm_49 rfl ?_
  refine r_dup e_X3_addTerm_50 rfl ?_
  refine r_getI e_X3_addTerm_51 fl_X3_59 i0 (by with_reducible assumption) ?_
  refine r_iconst e_X3_addTerm_54 ic_1 ?_
  refine r_iadd e_X3_addTerm_55 ?_
  refine r_putI e_X3_addTerm_56 fl_X3_59 (by with_reducible assumption) ?_
  refine r_return e_X3_addTerm_59 rfl ⟨rfl, rfl⟩ ?_
  (refine ⟨?_, rfl, ?_⟩ <;> ((try unfold U_X3_addTerm); (try simp only []); (try rfl)))
def V_X10_program (a : Nat) (x1 : Int32) (x2 : Int32) (x3 : Int32) (q1 : Nat) (q2 : Nat) (q3 : Nat) (q4 : Nat) (M : Mem) : Int32 := if (V_X10_isTeam x1 M) = 0 then (V_X10_finding a (-1001 : Int32) q1 M) else (if (V_X10_isMember x2 M) = 0 then (V_X10_finding a (-1001 : Int32) q1 M) else (if x3 < (-1 : Int32) then (V_X10_finding a (-1001 : Int32) q1 M) else (if x3 < (M.1 a 10) then (1 : Int32) else (V_X10_finding a (-1001 : Int32) q1 M))))
def U_X10_program (a : Nat) (x1 : Int32) (x2 : Int32) (x3 : Int32) (q1 : Nat) (q2 : Nat) (q3 : Nat) (q4 : Nat) (M : Mem) : Mem := if (V_X10_isTeam x1 M) = 0 then (U_X10_finding a (-1001 : Int32) q1 M) else (if (V_X10_isMember x2 M) = 0 then (U_X10_finding a (-1001 : Int32) q1 M) else (if x3 < (-1 : Int32) then (U_X10_finding a (-1001 : Int32) q1 M) else (if x3 < (M.1 a 10) then (setI M q4 x2.toNatClampNeg x3) else (U_X10_finding a (-1001 : Int32) q1 M))))
theorem S_X10_program {sh : List SC} {M : Mem} {a : Nat} {x1 : Int32} {x2 : Int32} {x3 : Int32} {q1 : Nat} {q2 : Nat} {q3 : Nat} {q4 : Nat} (g1 : kd sh a = some (9 + 7, 0)) (g2 : rf sh a 0 = some q1) (g3 : kd sh q1 = some (0, 5)) (g4 : rf sh a 3 = some q2) (g5 : kd sh q2 = some (4, 4)) (g6 : vp_in x1 4) (g7 : rf sh q2 x1.toNatClampNeg = some q3) (g8 : kd sh q3 = some (8 + 7, 0)) (g9 : rf sh q3 0 = some q4) (g10 : kd sh q4 = some (0, 5)) (g11 : vp_in x2 5) : Gv m_X10_program [.ref a, .int x1, .int x2, .int x3] sh M (.int (V_X10_program a x1 x2 x3 q1 q2 q3 q4 M)) (U_X10_program a x1 x2 x3 q1 q2 q3 q4 M) := by
  refine Sp.of (ls := [some (.ref a), some (.int x1), some (.int x2), some (.int x3)]) (by decide +kernel) (Nat.le_of_ble_eq_true rfl) rfl ?_
  refine r_iload_n e_X10_program_0 rfl ?_
  refine cS1v e_X10_program_1 cl_X10_89 ⟨Nat.le_of_ble_eq_true rfl, Nat.le_of_ble_eq_true rfl⟩ ⟨rfl, rfl⟩  (Nat.le_of_ble_eq_true rfl) (S_X10_isTeam ) ?_
  refine r_if_eq e_X10_program_4 (fun h4_0 => ?_) (fun h4_0 => ?_)
  · refine r_aload_n e_X10_program_27 rfl ?_
    refine r_sipush e_X10_program_28 sp_m1001 ?_
    refine cV1v e_X10_program_31 cl_X10_70 ⟨Nat.le_of_ble_eq_true rfl, Nat.le_of_ble_eq_true rfl⟩ ⟨rfl, rfl⟩ (by with_reducible assumption) (Nat.le_of_ble_eq_true rfl) (S_X10_finding (by with_reducible assumption) (by with_reducible assumption) (by with_reducible assumption)) ?_
    refine r_ireturn e_X10_program_34 rfl ⟨rfl, rfl⟩ ?_
    (refine ⟨?_, rfl, ?_⟩ <;> ((try unfold V_X10_program); (try unfold U_X10_program); (try simp only [if_pos h4_0]); (try rfl)))
  · refine r_iload_n e_X10_program_7 rfl ?_
    refine cS1v e_X10_program_8 cl_X10_93 ⟨Nat.le_of_ble_eq_true rfl, Nat.le_of_ble_eq_true rfl⟩ ⟨rfl, rfl⟩  (Nat.le_of_ble_eq_true rfl) (S_X10_isMember ) ?_
    refine r_if_eq e_X10_program_11 (fun h11_1 => ?_) (fun h11_1 => ?_)
    · refine r_aload_n e_X10_program_27 rfl ?_
      refine r_sipush e_X10_program_28 sp_m1001 ?_
      refine cV1v e_X10_program_31 cl_X10_70 ⟨Nat.le_of_ble_eq_true rfl, Nat.le_of_ble_eq_true rfl⟩ ⟨rfl, rfl⟩ (by with_reducible assumption) (Nat.le_of_ble_eq_true rfl) (S_X10_finding (by with_reducible assumption) (by with_reducible assumption) (by with_reducible assumption)) ?_
      refine r_ireturn e_X10_program_34 rfl ⟨rfl, rfl⟩ ?_
      (refine ⟨?_, rfl, ?_⟩ <;> ((try unfold V_X10_program); (try unfold U_X10_program); (try simp only [if_neg h4_0, if_pos h11_1]); (try rfl)))
    · refine r_iload_n e_X10_program_14 rfl ?_
      refine r_iconst e_X10_program_15 ic_m1 ?_
      refine r_icmp_lt e_X10_program_16 (fun h16_2 => ?_) (fun h16_2 => ?_)
      · refine r_aload_n e_X10_program_27 rfl ?_
        refine r_sipush e_X10_program_28 sp_m1001 ?_
        refine cV1v e_X10_program_31 cl_X10_70 ⟨Nat.le_of_ble_eq_true rfl, Nat.le_of_ble_eq_true rfl⟩ ⟨rfl, rfl⟩ (by with_reducible assumption) (Nat.le_of_ble_eq_true rfl) (S_X10_finding (by with_reducible assumption) (by with_reducible assumption) (by with_reducible assumption)) ?_
        refine r_ireturn e_X10_program_34 rfl ⟨rfl, rfl⟩ ?_
        (refine ⟨?_, rfl, ?_⟩ <;> ((try unfold V_X10_program); (try unfold U_X10_program); (try simp only [if_neg h4_0, if_neg h11_1, if_pos h16_2]); (try rfl)))
      · refine r_iload_n e_X10_program_19 rfl ?_
        refine r_aload_n e_X10_program_20 rfl ?_
        refine r_getI e_X10_program_21 fl_X10_52 i0 (by with_reducible assumption) ?_
        refine r_icmp_lt e_X10_program_24 (fun h24_3 => ?_) (fun h24_3 => ?_)
        · refine r_aload_n e_X10_program_35 rfl ?_
          refine r_getR e_X10_program_36 fl_X10_28 (by with_reducible assumption) (by with_reducible assumption) ?_
          refine r_iload_n e_X10_program_39 rfl ?_
          refine r_aaload e_X10_program_40 (by with_reducible assumption) ⟨by decide, by decide⟩ (by with_reducible assumption) (by with_reducible assumption) ?_
          refine r_getR e_X10_program_41 fl_X10_96 (by with_reducible assumption) (by with_reducible assumption) ?_
          refine r_iload_n e_X10_program_44 rfl ?_
          refine r_iload_n e_X10_program_45 rfl ?_
          refine r_iastore e_X10_program_46 (by with_reducible assumption) (by with_reducible assumption) ?_
          refine r_iconst e_X10_program_47 ic_1 ?_
          refine r_ireturn e_X10_program_48 rfl ⟨rfl, rfl⟩ ?_
          (refine ⟨?_, rfl, ?_⟩ <;> ((try unfold V_X10_program); (try unfold U_X10_program); (try simp only [if_neg h4_0, if_neg h11_1, if_neg h16_2, if_pos h24_3]); (try rfl)))
        · refine r_aload_n e_X10_program_27 rfl ?_
          refine r_sipush e_X10_program_28 sp_m1001 ?_
          refine cV1v e_X10_program_31 cl_X10_70 ⟨Nat.le_of_ble_eq_true rfl, Nat.le_of_ble_eq_true rfl⟩ ⟨rfl, rfl⟩ (by with_reducible assumption) (Nat.le_of_ble_eq_true rfl) (S_X10_finding (by with_reducible assumption) (by with_reducible assumption) (by with_reducible assumption)) ?_
          refine r_ireturn e_X10_program_34 rfl ⟨rfl, rfl⟩ ?_
          (refine ⟨?_, rfl, ?_⟩ <;> ((try unfold V_X10_program); (try unfold U_X10_program); (try simp only [if_neg h4_0, if_neg h11_1, if_neg h16_2, if_neg h24_3]); (try rfl)))
def U_X0_lie (a : Nat) (x1 : Int32) (x2 : Int32) (M : Mem) : Mem := setI (U_X0_free a (0 : Int32) (0 : Int32) (0 : Int32) (U_X0_go a x1 x2 M)) a 9 (0 : Int32)
theorem S_X0_lie {sh : List SC} {M : Mem} {a : Nat} {x1 : Int32} {x2 : Int32}  (g1 : kd sh a = some (0 + 7, 0)) : Gu m_X0_lie [.ref a, .int x1, .int x2] sh M (U_X0_lie a x1 x2 M) := by
  refine Sp.of (ls := [some (.ref a), some (.int x1), some (.int x2)]) (by decide +kernel) (Nat.le_of_ble_eq_true rfl) rfl ?_
  refine r_aload_n e_X0_lie_0 rfl ?_
  refine r_iload_n e_X0_lie_1 rfl ?_
  refine r_iload_n e_X0_lie_2 rfl ?_
  refine cV2u e_X0_lie_3 cl_X0_47 ⟨Nat.le_of_ble_eq_true rfl, Nat.le_of_ble_eq_true rfl⟩ ⟨rfl, rfl⟩ (by with_reducible assumption) (Nat.le_of_ble_eq_true rfl) (S_X0_go (by with_reducible assumption)) ?_
  refine r_aload_n e_X0_lie_6 rfl ?_
  refine r_iconst e_X0_lie_7 ic_0 ?_
  refine r_iconst e_X0_lie_8 ic_0 ?_
  refine r_iconst e_X0_lie_9 ic_0 ?_
  refine cV3u e_X0_lie_10 cl_X0_51 ⟨Nat.le_of_ble_eq_true rfl, Nat.le_of_ble_eq_true rfl⟩ ⟨rfl, rfl⟩ (by with_reducible assumption) (Nat.le_of_ble_eq_true rfl) (S_X0_free (by with_reducible assumption)) ?_
  refine r_aload_n e_X0_lie_13 rfl ?_
  refine r_iconst e_X0_lie_14 ic_0 ?_
  refine r_putI e_X0_lie_15 fl_X0_37 (by with_reducible assumption) ?_
  refine r_return e_X0_lie_18 rfl ⟨rfl, rfl⟩ ?_
  (refine ⟨?_, rfl, ?_⟩ <;> ((try unfold U_X0_lie); (try simp only []); (try rfl)))
def V_X10_ball (a : Nat) (x1 : Int32) (q1 : Nat) (q2 : Nat) (q3 : Nat) (M : Mem) : Int32 := if (M.1 q1 6) = 0 then (V_X10_finding a (-1003 : Int32) q2 M) else (if x1 < 0 then (V_X10_finding a (-1001 : Int32) q2 M) else (if x1 < (6 : Int32) then (V_X0_shown q3 x1 M) else (V_X10_finding a (-1001 : Int32) q2 M)))
def U_X10_ball (a : Nat) (x1 : Int32) (q1 : Nat) (q2 : Nat) (q3 : Nat) (M : Mem) : Mem := if (M.1 q1 6) = 0 then (U_X10_finding a (-1003 : Int32) q2 M) else (if x1 < 0 then (U_X10_finding a (-1001 : Int32) q2 M) else (if x1 < (6 : Int32) then M else (U_X10_finding a (-1001 : Int32) q2 M)))
theorem S_X10_ball {sh : List SC} {M : Mem} {a : Nat} {x1 : Int32} {q1 : Nat} {q2 : Nat} {q3 : Nat} (g1 : kd sh a = some (9 + 7, 0)) (g2 : rf sh a 4 = some q1) (g3 : kd sh q1 = some (2 + 7, 0)) (g4 : rf sh a 0 = some q2) (g5 : kd sh q2 = some (0, 5)) (g6 : rf sh q1 4 = some q3) (g7 : kd sh q3 = some (0 + 7, 0)) : Gv m_X10_ball [.ref a, .int x1] sh M (.int (V_X10_ball a x1 q1 q2 q3 M)) (U_X10_ball a x1 q1 q2 q3 M) := by
  refine Sp.of (ls := [some (.ref a), some (.int x1)]) (by decide +kernel) (Nat.le_of_ble_eq_true rfl) rfl ?_
  refine r_aload_n e_X10_ball_0 rfl ?_
  refine r_getR e_X10_ball_1 fl_X10_63 (by with_reducible assumption) (by with_reducible assumption) ?_
  refine r_getI e_X10_ball_4 fl_X10_115 i3 (by with_reducible assumption) ?_
  refine r_if_ne e_X10_ball_7 (fun h7_0 => ?_) (fun h7_0 => ?_)
  · refine r_iload_n e_X10_ball_18 rfl ?_
    refine r_if_lt e_X10_ball_19 (fun h19_1 => ?_) (fun h19_1 => ?_)
    · refine r_aload_n e_X10_ball_28 rfl ?_
      refine r_sipush e_X10_ball_29 sp_m1001 ?_
      refine cV1v e_X10_ball_32 cl_X10_70 ⟨Nat.le_of_ble_eq_true rfl, Nat.le_of_ble_eq_true rfl⟩ ⟨rfl, rfl⟩ (by with_reducible assumption) (Nat.le_of_ble_eq_true rfl) (S_X10_finding (by with_reducible assumption) (by with_reducible assumption) (by with_reducible assumption)) ?_
      refine r_ireturn e_X10_ball_35 rfl ⟨rfl, rfl⟩ ?_
      (refine ⟨?_, rfl, ?_⟩ <;> ((try unfold V_X10_ball); (try unfold U_X10_ball); (try simp only [if_neg h7_0, if_pos h19_1]); (try rfl)))
    · refine r_iload_n e_X10_ball_22 rfl ?_
      refine r_bipush e_X10_ball_23 bp_6 ?_
      refine r_icmp_lt e_X10_ball_25 (fun h25_2 => ?_) (fun h25_2 => ?_)
      · refine r_aload_n e_X10_ball_36 rfl ?_
        refine r_getR e_X10_ball_37 fl_X10_63 (by with_reducible assumption) (by with_reducible assumption) ?_
        refine r_getR e_X10_ball_40 fl_X10_124 (by with_reducible assumption) (by with_reducible assumption) ?_
        refine r_iload_n e_X10_ball_43 rfl ?_
        refine cV1v e_X10_ball_44 cl_X10_128 ⟨Nat.le_of_ble_eq_true rfl, Nat.le_of_ble_eq_true rfl⟩ ⟨rfl, rfl⟩ (by with_reducible assumption) (Nat.le_of_ble_eq_true rfl) (S_X0_shown (by with_reducible assumption)) ?_
        refine r_ireturn e_X10_ball_47 rfl ⟨rfl, rfl⟩ ?_
        (refine ⟨?_, rfl, ?_⟩ <;> ((try unfold V_X10_ball); (try unfold U_X10_ball); (try simp only [if_neg h7_0, if_neg h19_1, if_pos h25_2]); (try rfl)))
      · refine r_aload_n e_X10_ball_28 rfl ?_
        refine r_sipush e_X10_ball_29 sp_m1001 ?_
        refine cV1v e_X10_ball_32 cl_X10_70 ⟨Nat.le_of_ble_eq_true rfl, Nat.le_of_ble_eq_true rfl⟩ ⟨rfl, rfl⟩ (by with_reducible assumption) (Nat.le_of_ble_eq_true rfl) (S_X10_finding (by with_reducible assumption) (by with_reducible assumption) (by with_reducible assumption)) ?_
        refine r_ireturn e_X10_ball_35 rfl ⟨rfl, rfl⟩ ?_
        (refine ⟨?_, rfl, ?_⟩ <;> ((try unfold V_X10_ball); (try unfold U_X10_ball); (try simp only [if_neg h7_0, if_neg h19_1, if_neg h25_2]); (try rfl)))
  · refine r_aload_n e_X10_ball_10 rfl ?_
    refine r_sipush e_X10_ball_11 sp_m1003 ?_
    refine cV1v e_X10_ball_14 cl_X10_70 ⟨Nat.le_of_ble_eq_true rfl, Nat.le_of_ble_eq_true rfl⟩ ⟨rfl, rfl⟩ (by with_reducible assumption) (Nat.le_of_ble_eq_true rfl) (S_X10_finding (by with_reducible assumption) (by with_reducible assumption) (by with_reducible assumption)) ?_
    refine r_ireturn e_X10_ball_17 rfl ⟨rfl, rfl⟩ ?_
    (refine ⟨?_, rfl, ?_⟩ <;> ((try unfold V_X10_ball); (try unfold U_X10_ball); (try simp only [if_pos h7_0]); (try rfl)))
def V_X10_robot (a : Nat) (x1 : Int32) (x2 : Int32) (q1 : Nat) (q2 : Nat) (q3 : Nat) (q4 : Nat) (q5 : Nat) (M : Mem) : Int32 := if (M.1 q1 6) = 0 then (V_X10_finding a (-1003 : Int32) q2 M) else (if x1 < 0 then (V_X10_finding a (-1001 : Int32) q2 M) else (if (10 : Int32) ≤ x1 then (V_X10_finding a (-1001 : Int32) q2 M) else (if x2 < 0 then (V_X10_finding a (-1001 : Int32) q2 M) else (if x2 < (11 : Int32) then (V_X5_shown q4 x2 q5 M) else (V_X10_finding a (-1001 : Int32) q2 M)))))
def U_X10_robot (a : Nat) (x1 : Int32) (x2 : Int32) (q1 : Nat) (q2 : Nat) (q3 : Nat) (q4 : Nat) (q5 : Nat) (M : Mem) : Mem := if (M.1 q1 6) = 0 then (U_X10_finding a (-1003 : Int32) q2 M) else (if x1 < 0 then (U_X10_finding a (-1001 : Int32) q2 M) else (if (10 : Int32) ≤ x1 then (U_X10_finding a (-1001 : Int32) q2 M) else (if x2 < 0 then (U_X10_finding a (-1001 : Int32) q2 M) else (if x2 < (11 : Int32) then M else (U_X10_finding a (-1001 : Int32) q2 M)))))
theorem S_X10_robot {sh : List SC} {M : Mem} {a : Nat} {x1 : Int32} {x2 : Int32} {q1 : Nat} {q2 : Nat} {q3 : Nat} {q4 : Nat} {q5 : Nat} (g1 : kd sh a = some (9 + 7, 0)) (g2 : rf sh a 4 = some q1) (g3 : kd sh q1 = some (2 + 7, 0)) (g4 : rf sh a 0 = some q2) (g5 : kd sh q2 = some (0, 5)) (g6 : rf sh q1 3 = some q3) (g7 : kd sh q3 = some (6, 10)) (g8 : rf sh q3 x1.toNatClampNeg = some q4) (g9 : kd sh q4 = some (5 + 7, 0)) (g10 : rf sh q4 9 = some q5) (g11 : kd sh q5 = some (0, 4)) : Gv m_X10_robot [.ref a, .int x1, .int x2] sh M (.int (V_X10_robot a x1 x2 q1 q2 q3 q4 q5 M)) (U_X10_robot a x1 x2 q1 q2 q3 q4 q5 M) := by
  refine Sp.of (ls := [some (.ref a), some (.int x1), some (.int x2)]) (by decide +kernel) (Nat.le_of_ble_eq_true rfl) rfl ?_
  refine r_aload_n e_X10_robot_0 rfl ?_
  refine r_getR e_X10_robot_1 fl_X10_63 (by with_reducible assumption) (by with_reducible assumption) ?_
  refine r_getI e_X10_robot_4 fl_X10_115 i3 (by with_reducible assumption) ?_
  refine r_if_ne e_X10_robot_7 (fun h7_0 => ?_) (fun h7_0 => ?_)
  · refine r_iload_n e_X10_robot_18 rfl ?_
    refine r_if_lt e_X10_robot_19 (fun h19_1 => ?_) (fun h19_1 => ?_)
    · refine r_aload_n e_X10_robot_44 rfl ?_
      refine r_sipush e_X10_robot_45 sp_m1001 ?_
      refine cV1v e_X10_robot_48 cl_X10_70 ⟨Nat.le_of_ble_eq_true rfl, Nat.le_of_ble_eq_true rfl⟩ ⟨rfl, rfl⟩ (by with_reducible assumption) (Nat.le_of_ble_eq_true rfl) (S_X10_finding (by with_reducible assumption) (by with_reducible assumption) (by with_reducible assumption)) ?_
      refine r_ireturn e_X10_robot_51 rfl ⟨rfl, rfl⟩ ?_
      (refine ⟨?_, rfl, ?_⟩ <;> ((try unfold V_X10_robot); (try unfold U_X10_robot); (try simp only [if_neg h7_0, if_pos h19_1]); (try rfl)))
    · refine r_iload_n e_X10_robot_22 rfl ?_
      refine r_aload_n e_X10_robot_23 rfl ?_
      refine r_getR e_X10_robot_24 fl_X10_63 (by with_reducible assumption) (by with_reducible assumption) ?_
      refine r_getR e_X10_robot_27 fl_X10_131 (by with_reducible assumption) (by with_reducible assumption) ?_
      refine r_alen (v := (10 : Int32)) e_X10_robot_30 (by with_reducible assumption) (by decide) rfl ?_
      refine r_icmp_ge e_X10_robot_31 (fun h31_2 => ?_) (fun h31_2 => ?_)
      · refine r_aload_n e_X10_robot_44 rfl ?_
        refine r_sipush e_X10_robot_45 sp_m1001 ?_
        refine cV1v e_X10_robot_48 cl_X10_70 ⟨Nat.le_of_ble_eq_true rfl, Nat.le_of_ble_eq_true rfl⟩ ⟨rfl, rfl⟩ (by with_reducible assumption) (Nat.le_of_ble_eq_true rfl) (S_X10_finding (by with_reducible assumption) (by with_reducible assumption) (by with_reducible assumption)) ?_
        refine r_ireturn e_X10_robot_51 rfl ⟨rfl, rfl⟩ ?_
        (refine ⟨?_, rfl, ?_⟩ <;> ((try unfold V_X10_robot); (try unfold U_X10_robot); (try simp only [if_neg h7_0, if_neg h19_1, if_pos h31_2]); (try rfl)))
      · refine r_iload_n e_X10_robot_34 rfl ?_
        refine r_if_lt e_X10_robot_35 (fun h35_3 => ?_) (fun h35_3 => ?_)
        · refine r_aload_n e_X10_robot_44 rfl ?_
          refine r_sipush e_X10_robot_45 sp_m1001 ?_
          refine cV1v e_X10_robot_48 cl_X10_70 ⟨Nat.le_of_ble_eq_true rfl, Nat.le_of_ble_eq_true rfl⟩ ⟨rfl, rfl⟩ (by with_reducible assumption) (Nat.le_of_ble_eq_true rfl) (S_X10_finding (by with_reducible assumption) (by with_reducible assumption) (by with_reducible assumption)) ?_
          refine r_ireturn e_X10_robot_51 rfl ⟨rfl, rfl⟩ ?_
          (refine ⟨?_, rfl, ?_⟩ <;> ((try unfold V_X10_robot); (try unfold U_X10_robot); (try simp only [if_neg h7_0, if_neg h19_1, if_neg h31_2, if_pos h35_3]); (try rfl)))
        · refine r_iload_n e_X10_robot_38 rfl ?_
          refine r_bipush e_X10_robot_39 bp_11 ?_
          refine r_icmp_lt e_X10_robot_41 (fun h41_4 => ?_) (fun h41_4 => ?_)
          · refine r_aload_n e_X10_robot_52 rfl ?_
            refine r_getR e_X10_robot_53 fl_X10_63 (by with_reducible assumption) (by with_reducible assumption) ?_
            refine r_getR e_X10_robot_56 fl_X10_131 (by with_reducible assumption) (by with_reducible assumption) ?_
            refine r_iload_n e_X10_robot_59 rfl ?_
            refine r_aaload e_X10_robot_60 (by with_reducible assumption) ⟨by decide, by decide⟩ (vp_guard h19_1 h31_2 (by decide)) (by with_reducible assumption) ?_
            refine r_iload_n e_X10_robot_61 rfl ?_
            refine cV1v e_X10_robot_62 cl_X10_137 ⟨Nat.le_of_ble_eq_true rfl, Nat.le_of_ble_eq_true rfl⟩ ⟨rfl, rfl⟩ (by with_reducible assumption) (Nat.le_of_ble_eq_true rfl) (S_X5_shown (by with_reducible assumption) (by with_reducible assumption) (by with_reducible assumption)) ?_
            refine r_ireturn e_X10_robot_65 rfl ⟨rfl, rfl⟩ ?_
            (refine ⟨?_, rfl, ?_⟩ <;> ((try unfold V_X10_robot); (try unfold U_X10_robot); (try simp only [if_neg h7_0, if_neg h19_1, if_neg h31_2, if_neg h35_3, if_pos h41_4]); (try rfl)))
          · refine r_aload_n e_X10_robot_44 rfl ?_
            refine r_sipush e_X10_robot_45 sp_m1001 ?_
            refine cV1v e_X10_robot_48 cl_X10_70 ⟨Nat.le_of_ble_eq_true rfl, Nat.le_of_ble_eq_true rfl⟩ ⟨rfl, rfl⟩ (by with_reducible assumption) (Nat.le_of_ble_eq_true rfl) (S_X10_finding (by with_reducible assumption) (by with_reducible assumption) (by with_reducible assumption)) ?_
            refine r_ireturn e_X10_robot_51 rfl ⟨rfl, rfl⟩ ?_
            (refine ⟨?_, rfl, ?_⟩ <;> ((try unfold V_X10_robot); (try unfold U_X10_robot); (try simp only [if_neg h7_0, if_neg h19_1, if_neg h31_2, if_neg h35_3, if_neg h41_4]); (try rfl)))
  · refine r_aload_n e_X10_robot_10 rfl ?_
    refine r_sipush e_X10_robot_11 sp_m1003 ?_
    refine cV1v e_X10_robot_14 cl_X10_70 ⟨Nat.le_of_ble_eq_true rfl, Nat.le_of_ble_eq_true rfl⟩ ⟨rfl, rfl⟩ (by with_reducible assumption) (Nat.le_of_ble_eq_true rfl) (S_X10_finding (by with_reducible assumption) (by with_reducible assumption) (by with_reducible assumption)) ?_
    refine r_ireturn e_X10_robot_17 rfl ⟨rfl, rfl⟩ ?_
    (refine ⟨?_, rfl, ?_⟩ <;> ((try unfold V_X10_robot); (try unfold U_X10_robot); (try simp only [if_pos h7_0]); (try rfl)))
def V_X10_score (a : Nat) (x1 : Int32) (q1 : Nat) (q2 : Nat) (q3 : Nat) (q4 : Nat) (M : Mem) : Int32 := if (M.1 q1 6) = 0 then (V_X10_finding a (-1003 : Int32) q2 M) else (if x1 < 0 then (V_X10_finding a (-1001 : Int32) q2 M) else (if x1 < (9 : Int32) then (let v3_0 : Int32 := if x1 = 0 then (M.1 q1 7) else (V_X7_shown q3 x1 q4 M); v3_0) else (V_X10_finding a (-1001 : Int32) q2 M)))
def U_X10_score (a : Nat) (x1 : Int32) (q1 : Nat) (q2 : Nat) (q3 : Nat) (q4 : Nat) (M : Mem) : Mem := if (M.1 q1 6) = 0 then (U_X10_finding a (-1003 : Int32) q2 M) else (if x1 < 0 then (U_X10_finding a (-1001 : Int32) q2 M) else (if x1 < (9 : Int32) then M else (U_X10_finding a (-1001 : Int32) q2 M)))
theorem S_X10_score {sh : List SC} {M : Mem} {a : Nat} {x1 : Int32} {q1 : Nat} {q2 : Nat} {q3 : Nat} {q4 : Nat} (g1 : kd sh a = some (9 + 7, 0)) (g2 : rf sh a 4 = some q1) (g3 : kd sh q1 = some (2 + 7, 0)) (g4 : rf sh a 0 = some q2) (g5 : kd sh q2 = some (0, 5)) (g6 : rf sh q1 5 = some q3) (g7 : kd sh q3 = some (7 + 7, 0)) (g8 : rf sh q3 4 = some q4) (g9 : kd sh q4 = some (0, 4)) : Gv m_X10_score [.ref a, .int x1] sh M (.int (V_X10_score a x1 q1 q2 q3 q4 M)) (U_X10_score a x1 q1 q2 q3 q4 M) := by
  refine Sp.of (ls := [some (.ref a), some (.int x1)]) (by decide +kernel) (Nat.le_of_ble_eq_true rfl) rfl ?_
  refine r_aload_n e_X10_score_0 rfl ?_
  refine r_getR e_X10_score_1 fl_X10_63 (by with_reducible assumption) (by with_reducible assumption) ?_
  refine r_getI e_X10_score_4 fl_X10_115 i3 (by with_reducible assumption) ?_
  refine r_if_ne e_X10_score_7 (fun h7_0 => ?_) (fun h7_0 => ?_)
  · refine r_iload_n e_X10_score_18 rfl ?_
    refine r_if_lt e_X10_score_19 (fun h19_1 => ?_) (fun h19_1 => ?_)
    · refine r_aload_n e_X10_score_28 rfl ?_
      refine r_sipush e_X10_score_29 sp_m1001 ?_
      refine cV1v e_X10_score_32 cl_X10_70 ⟨Nat.le_of_ble_eq_true rfl, Nat.le_of_ble_eq_true rfl⟩ ⟨rfl, rfl⟩ (by with_reducible assumption) (Nat.le_of_ble_eq_true rfl) (S_X10_finding (by with_reducible assumption) (by with_reducible assumption) (by with_reducible assumption)) ?_
      refine r_ireturn e_X10_score_35 rfl ⟨rfl, rfl⟩ ?_
      (refine ⟨?_, rfl, ?_⟩ <;> ((try unfold V_X10_score); (try unfold U_X10_score); (try simp only [if_neg h7_0, if_pos h19_1]); (try rfl)))
    · refine r_iload_n e_X10_score_22 rfl ?_
      refine r_bipush e_X10_score_23 bp_9 ?_
      refine r_icmp_lt e_X10_score_25 (fun h25_2 => ?_) (fun h25_2 => ?_)
      · refine r_iload_n e_X10_score_36 rfl ?_
        obtain ⟨v3_0, e_v3_0⟩ : ∃ z : Int32, z = (if x1 = 0 then (M.1 q1 7) else (V_X7_shown q3 x1 q4 M)) := ⟨_, rfl⟩
        suffices j61_3 : WP m_X10_score (fun r sh' M'' => r = some (.int (V_X10_score a x1 q1 q2 q3 q4 M)) ∧ sh' = sh ∧ M'' = (U_X10_score a x1 q1 q2 q3 q4 M)) 61 [some (.ref a), some (.int x1)] [.int v3_0] sh M 0 0 by
          refine r_if_ne e_X10_score_37 (fun h37_3 => ?_) (fun h37_3 => ?_)
          · refine r_aload_n e_X10_score_50 rfl ?_
            refine r_getR e_X10_score_51 fl_X10_63 (by with_reducible assumption) (by with_reducible assumption) ?_
            refine r_getR e_X10_score_54 fl_X10_143 (by with_reducible assumption) (by with_reducible assumption) ?_
            refine r_iload_n e_X10_score_57 rfl ?_
            refine cV1v e_X10_score_58 cl_X10_147 ⟨Nat.le_of_ble_eq_true rfl, Nat.le_of_ble_eq_true rfl⟩ ⟨rfl, rfl⟩ (by with_reducible assumption) (Nat.le_of_ble_eq_true rfl) (S_X7_shown (by with_reducible assumption) (by with_reducible assumption) (by with_reducible assumption)) ?_
            rw [show v3_0 = (V_X7_shown q3 x1 q4 M) from (e_v3_0.trans (if_neg h37_3))] at j61_3; exact j61_3
          · refine r_aload_n e_X10_score_40 rfl ?_
            refine r_getR e_X10_score_41 fl_X10_63 (by with_reducible assumption) (by with_reducible assumption) ?_
            refine r_getI e_X10_score_44 fl_X10_140 i0 (by with_reducible assumption) ?_
            refine r_goto e_X10_score_47 ?_
            rw [show v3_0 = (M.1 q1 7) from (e_v3_0.trans (if_pos h37_3))] at j61_3; exact j61_3
        refine r_ireturn e_X10_score_61 rfl ⟨rfl, rfl⟩ ?_
        (subst e_v3_0; refine ⟨?_, rfl, ?_⟩ <;> ((try unfold V_X10_score); (try unfold U_X10_score); (try simp only [if_neg h7_0, if_neg h19_1, if_pos h25_2]); (try rfl)))
      · refine r_aload_n e_X10_score_28 rfl ?_
        refine r_sipush e_X10_score_29 sp_m1001 ?_
        refine cV1v e_X10_score_32 cl_X10_70 ⟨Nat.le_of_ble_eq_true rfl, Nat.le_of_ble_eq_true rfl⟩ ⟨rfl, rfl⟩ (by with_reducible assumption) (Nat.le_of_ble_eq_true rfl) (S_X10_finding (by with_reducible assumption) (by with_reducible assumption) (by with_reducible assumption)) ?_
        refine r_ireturn e_X10_score_35 rfl ⟨rfl, rfl⟩ ?_
        (refine ⟨?_, rfl, ?_⟩ <;> ((try unfold V_X10_score); (try unfold U_X10_score); (try simp only [if_neg h7_0, if_neg h19_1, if_neg h25_2]); (try rfl)))
  · refine r_aload_n e_X10_score_10 rfl ?_
    refine r_sipush e_X10_score_11 sp_m1003 ?_
    refine cV1v e_X10_score_14 cl_X10_70 ⟨Nat.le_of_ble_eq_true rfl, Nat.le_of_ble_eq_true rfl⟩ ⟨rfl, rfl⟩ (by with_reducible assumption) (Nat.le_of_ble_eq_true rfl) (S_X10_finding (by with_reducible assumption) (by with_reducible assumption) (by with_reducible assumption)) ?_
    refine r_ireturn e_X10_score_17 rfl ⟨rfl, rfl⟩ ?_
    (refine ⟨?_, rfl, ?_⟩ <;> ((try unfold V_X10_score); (try unfold U_X10_score); (try simp only [if_pos h7_0]); (try rfl)))
def V_X10_goal (a : Nat) (x1 : Int32) (q1 : Nat) (q2 : Nat) (q3 : Nat) (q4 : Nat) (M : Mem) : Int32 := if (M.1 q1 6) = 0 then (V_X10_finding a (-1003 : Int32) q2 M) else (if x1 < 0 then (V_X10_finding a (-1004 : Int32) q2 M) else (if x1 < (V_X7_listed q3 M) then (V_X7_goalAt q3 x1 q4 M) else (V_X10_finding a (-1004 : Int32) q2 M)))
def U_X10_goal (a : Nat) (x1 : Int32) (q1 : Nat) (q2 : Nat) (q3 : Nat) (q4 : Nat) (M : Mem) : Mem := if (M.1 q1 6) = 0 then (U_X10_finding a (-1003 : Int32) q2 M) else (if x1 < 0 then (U_X10_finding a (-1004 : Int32) q2 M) else (if x1 < (V_X7_listed q3 M) then M else (U_X10_finding a (-1004 : Int32) q2 M)))
theorem S_X10_goal {sh : List SC} {M : Mem} {a : Nat} {x1 : Int32} {q1 : Nat} {q2 : Nat} {q3 : Nat} {q4 : Nat} (g1 : kd sh a = some (9 + 7, 0)) (g2 : rf sh a 4 = some q1) (g3 : kd sh q1 = some (2 + 7, 0)) (g4 : rf sh a 0 = some q2) (g5 : kd sh q2 = some (0, 5)) (g6 : rf sh q1 5 = some q3) (g7 : kd sh q3 = some (7 + 7, 0)) (g8 : rf sh q3 5 = some q4) (g9 : kd sh q4 = some (0, 20)) : Gv m_X10_goal [.ref a, .int x1] sh M (.int (V_X10_goal a x1 q1 q2 q3 q4 M)) (U_X10_goal a x1 q1 q2 q3 q4 M) := by
  refine Sp.of (ls := [some (.ref a), some (.int x1)]) (by decide +kernel) (Nat.le_of_ble_eq_true rfl) rfl ?_
  refine r_aload_n e_X10_goal_0 rfl ?_
  refine r_getR e_X10_goal_1 fl_X10_63 (by with_reducible assumption) (by with_reducible assumption) ?_
  refine r_getI e_X10_goal_4 fl_X10_115 i3 (by with_reducible assumption) ?_
  refine r_if_ne e_X10_goal_7 (fun h7_0 => ?_) (fun h7_0 => ?_)
  · refine r_iload_n e_X10_goal_18 rfl ?_
    refine r_if_lt e_X10_goal_19 (fun h19_1 => ?_) (fun h19_1 => ?_)
    · refine r_aload_n e_X10_goal_36 rfl ?_
      refine r_sipush e_X10_goal_37 sp_m1004 ?_
      refine cV1v e_X10_goal_40 cl_X10_70 ⟨Nat.le_of_ble_eq_true rfl, Nat.le_of_ble_eq_true rfl⟩ ⟨rfl, rfl⟩ (by with_reducible assumption) (Nat.le_of_ble_eq_true rfl) (S_X10_finding (by with_reducible assumption) (by with_reducible assumption) (by with_reducible assumption)) ?_
      refine r_ireturn e_X10_goal_43 rfl ⟨rfl, rfl⟩ ?_
      (refine ⟨?_, rfl, ?_⟩ <;> ((try unfold V_X10_goal); (try unfold U_X10_goal); (try simp only [if_neg h7_0, if_pos h19_1]); (try rfl)))
    · refine r_iload_n e_X10_goal_22 rfl ?_
      refine r_aload_n e_X10_goal_23 rfl ?_
      refine r_getR e_X10_goal_24 fl_X10_63 (by with_reducible assumption) (by with_reducible assumption) ?_
      refine r_getR e_X10_goal_27 fl_X10_143 (by with_reducible assumption) (by with_reducible assumption) ?_
      refine cV0v e_X10_goal_30 cl_X10_148 ⟨Nat.le_of_ble_eq_true rfl, Nat.le_of_ble_eq_true rfl⟩ ⟨rfl, rfl⟩ (by with_reducible assumption) (Nat.le_of_ble_eq_true rfl) (S_X7_listed (by with_reducible assumption)) ?_
      refine r_icmp_lt e_X10_goal_33 (fun h33_2 => ?_) (fun h33_2 => ?_)
      · refine r_aload_n e_X10_goal_44 rfl ?_
        refine r_getR e_X10_goal_45 fl_X10_63 (by with_reducible assumption) (by with_reducible assumption) ?_
        refine r_getR e_X10_goal_48 fl_X10_143 (by with_reducible assumption) (by with_reducible assumption) ?_
        refine r_iload_n e_X10_goal_51 rfl ?_
        refine cV1v e_X10_goal_52 cl_X10_151 ⟨Nat.le_of_ble_eq_true rfl, Nat.le_of_ble_eq_true rfl⟩ ⟨rfl, rfl⟩ (by with_reducible assumption) (Nat.le_of_ble_eq_true rfl) (S_X7_goalAt (by with_reducible assumption) (by with_reducible assumption) (by with_reducible assumption)) ?_
        refine r_ireturn e_X10_goal_55 rfl ⟨rfl, rfl⟩ ?_
        (refine ⟨?_, rfl, ?_⟩ <;> ((try unfold V_X10_goal); (try unfold U_X10_goal); (try simp only [if_neg h7_0, if_neg h19_1, if_pos h33_2]); (try rfl)))
      · refine r_aload_n e_X10_goal_36 rfl ?_
        refine r_sipush e_X10_goal_37 sp_m1004 ?_
        refine cV1v e_X10_goal_40 cl_X10_70 ⟨Nat.le_of_ble_eq_true rfl, Nat.le_of_ble_eq_true rfl⟩ ⟨rfl, rfl⟩ (by with_reducible assumption) (Nat.le_of_ble_eq_true rfl) (S_X10_finding (by with_reducible assumption) (by with_reducible assumption) (by with_reducible assumption)) ?_
        refine r_ireturn e_X10_goal_43 rfl ⟨rfl, rfl⟩ ?_
        (refine ⟨?_, rfl, ?_⟩ <;> ((try unfold V_X10_goal); (try unfold U_X10_goal); (try simp only [if_neg h7_0, if_neg h19_1, if_neg h33_2]); (try rfl)))
  · refine r_aload_n e_X10_goal_10 rfl ?_
    refine r_sipush e_X10_goal_11 sp_m1003 ?_
    refine cV1v e_X10_goal_14 cl_X10_70 ⟨Nat.le_of_ble_eq_true rfl, Nat.le_of_ble_eq_true rfl⟩ ⟨rfl, rfl⟩ (by with_reducible assumption) (Nat.le_of_ble_eq_true rfl) (S_X10_finding (by with_reducible assumption) (by with_reducible assumption) (by with_reducible assumption)) ?_
    refine r_ireturn e_X10_goal_17 rfl ⟨rfl, rfl⟩ ?_
    (refine ⟨?_, rfl, ?_⟩ <;> ((try unfold V_X10_goal); (try unfold U_X10_goal); (try simp only [if_pos h7_0]); (try rfl)))
def U_X1_enter (a : Nat) (x1 : Int32) (x2 : Int32) (x3 : Int32) (x4 : Int32) (q1 : Nat) (q2 : Nat) (q3 : Nat) (M : Mem) : Mem := U_X1_enterFor a x2 x4 x3 q1 q2 q3 (U_X1_enterFor a x1 x3 x4 q1 q2 q3 M)
theorem S_X1_enter {sh : List SC} {M : Mem} {a : Nat} {x1 : Int32} {x2 : Int32} {x3 : Int32} {x4 : Int32} {q1 : Nat} {q2 : Nat} {q3 : Nat} (g1 : kd sh a = some (1 + 7, 0)) (g2 : rf sh a 1 = some q1) (g3 : kd sh q1 = some (0, 4)) (g4 : rf sh a 2 = some q2) (g5 : kd sh q2 = some (0, 4)) (g6 : rf sh a 3 = some q3) (g7 : kd sh q3 = some (0, 4)) : Gu m_X1_enter [.ref a, .int x1, .int x2, .int x3, .int x4] sh M (U_X1_enter a x1 x2 x3 x4 q1 q2 q3 M) := by
  refine Sp.of (ls := [some (.ref a), some (.int x1), some (.int x2), some (.int x3), some (.int x4)]) (by decide +kernel) (Nat.le_of_ble_eq_true rfl) rfl ?_
  refine r_aload_n e_X1_enter_0 rfl ?_
  refine r_iload_n e_X1_enter_1 rfl ?_
  refine r_iload_n e_X1_enter_2 rfl ?_
  refine r_iload e_X1_enter_3 rfl ?_
  refine cV3u e_X1_enter_5 cl_X1_29 ⟨Nat.le_of_ble_eq_true rfl, Nat.le_of_ble_eq_true rfl⟩ ⟨rfl, rfl⟩ (by with_reducible assumption) (Nat.le_of_ble_eq_true rfl) (S_X1_enterFor (by with_reducible assumption) (by with_reducible assumption) (by with_reducible assumption) (by with_reducible assumption) (by with_reducible assumption) (by with_reducible assumption) (by with_reducible assumption)) ?_
  refine r_aload_n e_X1_enter_8 rfl ?_
  refine r_iload_n e_X1_enter_9 rfl ?_
  refine r_iload e_X1_enter_10 rfl ?_
  refine r_iload_n e_X1_enter_12 rfl ?_
  refine cV3u e_X1_enter_13 cl_X1_29 ⟨Nat.le_of_ble_eq_true rfl, Nat.le_of_ble_eq_true rfl⟩ ⟨rfl, rfl⟩ (by with_reducible assumption) (Nat.le_of_ble_eq_true rfl) (S_X1_enterFor (by with_reducible assumption) (by with_reducible assumption) (by with_reducible assumption) (by with_reducible assumption) (by with_reducible assumption) (by with_reducible assumption) (by with_reducible assumption)) ?_
  refine r_return e_X1_enter_16 rfl ⟨rfl, rfl⟩ ?_
  (refine ⟨?_, rfl, ?_⟩ <;> ((try unfold U_X1_enter); (try simp only []); (try rfl)))
def V_X10_table (a : Nat) (x1 : Int32) (x2 : Int32) (q1 : Nat) (q2 : Nat) (q3 : Nat) (q4 : Nat) (q5 : Nat) (M : Mem) : Int32 := if (V_X10_isTeam x1 M) = 0 then (V_X10_finding a (-1001 : Int32) q1 M) else (if x2 < 0 then (V_X10_finding a (-1001 : Int32) q1 M) else (if x2 ≤ (2 : Int32) then (if (V_X1_has q2 x1 M) = 0 then (V_X10_finding a (-1004 : Int32) q1 M) else (V_X1_shown q2 x1 x2 q3 q4 q5 M)) else (V_X10_finding a (-1001 : Int32) q1 M)))
def U_X10_table (a : Nat) (x1 : Int32) (x2 : Int32) (q1 : Nat) (q2 : Nat) (q3 : Nat) (q4 : Nat) (q5 : Nat) (M : Mem) : Mem := if (V_X10_isTeam x1 M) = 0 then (U_X10_finding a (-1001 : Int32) q1 M) else (if x2 < 0 then (U_X10_finding a (-1001 : Int32) q1 M) else (if x2 ≤ (2 : Int32) then (if (V_X1_has q2 x1 M) = 0 then (U_X10_finding a (-1004 : Int32) q1 M) else M) else (U_X10_finding a (-1001 : Int32) q1 M)))
theorem S_X10_table {sh : List SC} {M : Mem} {a : Nat} {x1 : Int32} {x2 : Int32} {q1 : Nat} {q2 : Nat} {q3 : Nat} {q4 : Nat} {q5 : Nat} (g1 : kd sh a = some (9 + 7, 0)) (g2 : rf sh a 0 = some q1) (g3 : kd sh q1 = some (0, 5)) (g4 : rf sh a 7 = some q2) (g5 : kd sh q2 = some (1 + 7, 0)) (g6 : rf sh q2 3 = some q3) (g7 : kd sh q3 = some (0, 4)) (g8 : rf sh q2 2 = some q4) (g9 : kd sh q4 = some (0, 4)) (g10 : rf sh q2 1 = some q5) (g11 : kd sh q5 = some (0, 4)) : Gv m_X10_table [.ref a, .int x1, .int x2] sh M (.int (V_X10_table a x1 x2 q1 q2 q3 q4 q5 M)) (U_X10_table a x1 x2 q1 q2 q3 q4 q5 M) := by
  refine Sp.of (ls := [some (.ref a), some (.int x1), some (.int x2)]) (by decide +kernel) (Nat.le_of_ble_eq_true rfl) rfl ?_
  refine r_iload_n e_X10_table_0 rfl ?_
  refine cS1v e_X10_table_1 cl_X10_89 ⟨Nat.le_of_ble_eq_true rfl, Nat.le_of_ble_eq_true rfl⟩ ⟨rfl, rfl⟩  (Nat.le_of_ble_eq_true rfl) (S_X10_isTeam ) ?_
  refine r_if_eq e_X10_table_4 (fun h4_0 => ?_) (fun h4_0 => ?_)
  · refine r_aload_n e_X10_table_16 rfl ?_
    refine r_sipush e_X10_table_17 sp_m1001 ?_
    refine cV1v e_X10_table_20 cl_X10_70 ⟨Nat.le_of_ble_eq_true rfl, Nat.le_of_ble_eq_true rfl⟩ ⟨rfl, rfl⟩ (by with_reducible assumption) (Nat.le_of_ble_eq_true rfl) (S_X10_finding (by with_reducible assumption) (by with_reducible assumption) (by with_reducible assumption)) ?_
    refine r_ireturn e_X10_table_23 rfl ⟨rfl, rfl⟩ ?_
    (refine ⟨?_, rfl, ?_⟩ <;> ((try unfold V_X10_table); (try unfold U_X10_table); (try simp only [if_pos h4_0]); (try rfl)))
  · refine r_iload_n e_X10_table_7 rfl ?_
    refine r_if_lt e_X10_table_8 (fun h8_1 => ?_) (fun h8_1 => ?_)
    · refine r_aload_n e_X10_table_16 rfl ?_
      refine r_sipush e_X10_table_17 sp_m1001 ?_
      refine cV1v e_X10_table_20 cl_X10_70 ⟨Nat.le_of_ble_eq_true rfl, Nat.le_of_ble_eq_true rfl⟩ ⟨rfl, rfl⟩ (by with_reducible assumption) (Nat.le_of_ble_eq_true rfl) (S_X10_finding (by with_reducible assumption) (by with_reducible assumption) (by with_reducible assumption)) ?_
      refine r_ireturn e_X10_table_23 rfl ⟨rfl, rfl⟩ ?_
      (refine ⟨?_, rfl, ?_⟩ <;> ((try unfold V_X10_table); (try unfold U_X10_table); (try simp only [if_neg h4_0, if_pos h8_1]); (try rfl)))
    · refine r_iload_n e_X10_table_11 rfl ?_
      refine r_iconst e_X10_table_12 ic_2 ?_
      refine r_icmp_le e_X10_table_13 (fun h13_2 => ?_) (fun h13_2 => ?_)
      · refine r_aload_n e_X10_table_24 rfl ?_
        refine r_getR e_X10_table_25 fl_X10_41 (by with_reducible assumption) (by with_reducible assumption) ?_
        refine r_iload_n e_X10_table_28 rfl ?_
        refine cV1v e_X10_table_29 cl_X10_173 ⟨Nat.le_of_ble_eq_true rfl, Nat.le_of_ble_eq_true rfl⟩ ⟨rfl, rfl⟩ (by with_reducible assumption) (Nat.le_of_ble_eq_true rfl) (S_X1_has (by with_reducible assumption)) ?_
        refine r_if_ne e_X10_table_32 (fun h32_3 => ?_) (fun h32_3 => ?_)
        · refine r_aload_n e_X10_table_43 rfl ?_
          refine r_getR e_X10_table_44 fl_X10_41 (by with_reducible assumption) (by with_reducible assumption) ?_
          refine r_iload_n e_X10_table_47 rfl ?_
          refine r_iload_n e_X10_table_48 rfl ?_
          refine cV2v e_X10_table_49 cl_X10_186 ⟨Nat.le_of_ble_eq_true rfl, Nat.le_of_ble_eq_true rfl⟩ ⟨rfl, rfl⟩ (by with_reducible assumption) (Nat.le_of_ble_eq_true rfl) (S_X1_shown (by with_reducible assumption) (by with_reducible assumption) (by with_reducible assumption) (by with_reducible assumption) (by with_reducible assumption) (by with_reducible assumption) (by with_reducible assumption)) ?_
          refine r_ireturn e_X10_table_52 rfl ⟨rfl, rfl⟩ ?_
          (refine ⟨?_, rfl, ?_⟩ <;> ((try unfold V_X10_table); (try unfold U_X10_table); (try simp only [if_neg h4_0, if_neg h8_1, if_pos h13_2, if_neg h32_3]); (try rfl)))
        · refine r_aload_n e_X10_table_35 rfl ?_
          refine r_sipush e_X10_table_36 sp_m1004 ?_
          refine cV1v e_X10_table_39 cl_X10_70 ⟨Nat.le_of_ble_eq_true rfl, Nat.le_of_ble_eq_true rfl⟩ ⟨rfl, rfl⟩ (by with_reducible assumption) (Nat.le_of_ble_eq_true rfl) (S_X10_finding (by with_reducible assumption) (by with_reducible assumption) (by with_reducible assumption)) ?_
          refine r_ireturn e_X10_table_42 rfl ⟨rfl, rfl⟩ ?_
          (refine ⟨?_, rfl, ?_⟩ <;> ((try unfold V_X10_table); (try unfold U_X10_table); (try simp only [if_neg h4_0, if_neg h8_1, if_pos h13_2, if_pos h32_3]); (try rfl)))
      · refine r_aload_n e_X10_table_16 rfl ?_
        refine r_sipush e_X10_table_17 sp_m1001 ?_
        refine cV1v e_X10_table_20 cl_X10_70 ⟨Nat.le_of_ble_eq_true rfl, Nat.le_of_ble_eq_true rfl⟩ ⟨rfl, rfl⟩ (by with_reducible assumption) (Nat.le_of_ble_eq_true rfl) (S_X10_finding (by with_reducible assumption) (by with_reducible assumption) (by with_reducible assumption)) ?_
        refine r_ireturn e_X10_table_23 rfl ⟨rfl, rfl⟩ ?_
        (refine ⟨?_, rfl, ?_⟩ <;> ((try unfold V_X10_table); (try unfold U_X10_table); (try simp only [if_neg h4_0, if_neg h8_1, if_neg h13_2]); (try rfl)))
def V_X11_isTeam (x1 : Int32) (M : Mem) : Int32 := (V_X11_in x1 (0 : Int32) (3 : Int32) M)
theorem Z_X11_isTeam {M : Mem} {x1 : Int32}   : V_X11_isTeam x1 M = 0 ∨ V_X11_isTeam x1 M = 1 := Z_X11_in
theorem S_X11_isTeam {sh : List SC} {M : Mem} {x1 : Int32}   : Gv m_X11_isTeam [.int x1] sh M (.int (V_X11_isTeam x1 M)) M := by
  refine Sp.of (ls := [some (.int x1)]) (by decide +kernel) (Nat.le_of_ble_eq_true rfl) rfl ?_
  refine r_iload_n e_X11_isTeam_0 rfl ?_
  refine r_iconst e_X11_isTeam_1 ic_0 ?_
  refine r_iconst e_X11_isTeam_2 ic_3 ?_
  refine cS3v e_X11_isTeam_3 cl_X11_245 ⟨Nat.le_of_ble_eq_true rfl, Nat.le_of_ble_eq_true rfl⟩ ⟨rfl, rfl⟩  (Nat.le_of_ble_eq_true rfl) (S_X11_in ) ?_
  refine r_zreturn e_X11_isTeam_6 rfl ⟨rfl, rfl⟩ (Z_X11_in) ?_
  (refine ⟨?_, rfl, ?_⟩ <;> ((try unfold V_X11_isTeam); (try simp only []); (try rfl)))
def V_X11_start (a : Nat) (x1 : Int32) (x2 : Int32) (x3 : Int32) (x4 : Int32) (q1 : Nat) (q2 : Nat) (q3 : Nat) (M : Mem) : Int32 := if (V_X11_isTeam x1 M) = 0 then (V_X11_finding a (-1001 : Int32) q1 M) else (if (V_X11_in x2 (0 : Int32) (4 : Int32) M) = 0 then (V_X11_finding a (-1001 : Int32) q1 M) else (if (V_X11_in x3 (0 : Int32) (6 : Int32) M) = 0 then (V_X11_finding a (-1001 : Int32) q1 M) else (if (V_X11_in x4 (0 : Int32) (8 : Int32) M) = 0 then (V_X11_finding a (-1001 : Int32) q1 M) else (1 : Int32))))
def U_X11_start (a : Nat) (x1 : Int32) (x2 : Int32) (x3 : Int32) (x4 : Int32) (q1 : Nat) (q2 : Nat) (q3 : Nat) (M : Mem) : Mem := if (V_X11_isTeam x1 M) = 0 then (U_X11_finding a (-1001 : Int32) q1 M) else (if (V_X11_in x2 (0 : Int32) (4 : Int32) M) = 0 then (U_X11_finding a (-1001 : Int32) q1 M) else (if (V_X11_in x3 (0 : Int32) (6 : Int32) M) = 0 then (U_X11_finding a (-1001 : Int32) q1 M) else (if (V_X11_in x4 (0 : Int32) (8 : Int32) M) = 0 then (U_X11_finding a (-1001 : Int32) q1 M) else (setI (setI M q2 (((5 : Int32) * x1) + x2).toNatClampNeg x3) q3 (((5 : Int32) * x1) + x2).toNatClampNeg x4))))
theorem S_X11_start {sh : List SC} {M : Mem} {a : Nat} {x1 : Int32} {x2 : Int32} {x3 : Int32} {x4 : Int32} {q1 : Nat} {q2 : Nat} {q3 : Nat} (g1 : kd sh a = some (10 + 7, 0)) (g2 : rf sh a 21 = some q1) (g3 : kd sh q1 = some (0, 6)) (g4 : rf sh a 23 = some q2) (g5 : kd sh q2 = some (0, 20)) (g6 : vp_in (((5 : Int32) * x1) + x2) 20) (g7 : rf sh a 24 = some q3) (g8 : kd sh q3 = some (0, 20)) : Gv m_X11_start [.ref a, .int x1, .int x2, .int x3, .int x4] sh M (.int (V_X11_start a x1 x2 x3 x4 q1 q2 q3 M)) (U_X11_start a x1 x2 x3 x4 q1 q2 q3 M) := by
  refine Sp.of (ls := [some (.ref a), some (.int x1), some (.int x2), some (.int x3), some (.int x4)]) (by decide +kernel) (Nat.le_of_ble_eq_true rfl) rfl ?_
  refine r_iload_n e_X11_start_0 rfl ?_
  refine cS1v e_X11_start_1 cl_X11_249 ⟨Nat.le_of_ble_eq_true rfl, Nat.le_of_ble_eq_true rfl⟩ ⟨rfl, rfl⟩  (Nat.le_of_ble_eq_true rfl) (S_X11_isTeam ) ?_
  refine r_if_eq e_X11_start_4 (fun h4_0 => ?_) (fun h4_0 => ?_)
  · refine r_aload_n e_X11_start_37 rfl ?_
    refine r_sipush e_X11_start_38 sp_m1001 ?_
    refine cV1v e_X11_start_41 cl_X11_178 ⟨Nat.le_of_ble_eq_true rfl, Nat.le_of_ble_eq_true rfl⟩ ⟨rfl, rfl⟩ (by with_reducible assumption) (Nat.le_of_ble_eq_true rfl) (S_X11_finding (by with_reducible assumption) (by with_reducible assumption) (by with_reducible assumption) (by first | decide | (unfold vp_in; decide) | exact Or.inl rfl | exact Or.inr rfl)) ?_
    refine r_ireturn e_X11_start_44 rfl ⟨rfl, rfl⟩ ?_
    (refine ⟨?_, rfl, ?_⟩ <;> ((try unfold V_X11_start); (try unfold U_X11_start); (try simp only [if_pos h4_0]); (try rfl)))
  · refine r_iload_n e_X11_start_7 rfl ?_
    refine r_iconst e_X11_start_8 ic_0 ?_
    refine r_iconst e_X11_start_9 ic_4 ?_
    refine cS3v e_X11_start_10 cl_X11_245 ⟨Nat.le_of_ble_eq_true rfl, Nat.le_of_ble_eq_true rfl⟩ ⟨rfl, rfl⟩  (Nat.le_of_ble_eq_true rfl) (S_X11_in ) ?_
    refine r_if_eq e_X11_start_13 (fun h13_1 => ?_) (fun h13_1 => ?_)
    · refine r_aload_n e_X11_start_37 rfl ?_
      refine r_sipush e_X11_start_38 sp_m1001 ?_
      refine cV1v e_X11_start_41 cl_X11_178 ⟨Nat.le_of_ble_eq_true rfl, Nat.le_of_ble_eq_true rfl⟩ ⟨rfl, rfl⟩ (by with_reducible assumption) (Nat.le_of_ble_eq_true rfl) (S_X11_finding (by with_reducible assumption) (by with_reducible assumption) (by with_reducible assumption) (by first | decide | (unfold vp_in; decide) | exact Or.inl rfl | exact Or.inr rfl)) ?_
      refine r_ireturn e_X11_start_44 rfl ⟨rfl, rfl⟩ ?_
      (refine ⟨?_, rfl, ?_⟩ <;> ((try unfold V_X11_start); (try unfold U_X11_start); (try simp only [if_neg h4_0, if_pos h13_1]); (try rfl)))
    · refine r_iload_n e_X11_start_16 rfl ?_
      refine r_iconst e_X11_start_17 ic_0 ?_
      refine r_bipush e_X11_start_18 bp_6 ?_
      refine cS3v e_X11_start_20 cl_X11_245 ⟨Nat.le_of_ble_eq_true rfl, Nat.le_of_ble_eq_true rfl⟩ ⟨rfl, rfl⟩  (Nat.le_of_ble_eq_true rfl) (S_X11_in ) ?_
      refine r_if_eq e_X11_start_23 (fun h23_2 => ?_) (fun h23_2 => ?_)
      · refine r_aload_n e_X11_start_37 rfl ?_
        refine r_sipush e_X11_start_38 sp_m1001 ?_
        refine cV1v e_X11_start_41 cl_X11_178 ⟨Nat.le_of_ble_eq_true rfl, Nat.le_of_ble_eq_true rfl⟩ ⟨rfl, rfl⟩ (by with_reducible assumption) (Nat.le_of_ble_eq_true rfl) (S_X11_finding (by with_reducible assumption) (by with_reducible assumption) (by with_reducible assumption) (by first | decide | (unfold vp_in; decide) | exact Or.inl rfl | exact Or.inr rfl)) ?_
        refine r_ireturn e_X11_start_44 rfl ⟨rfl, rfl⟩ ?_
        (refine ⟨?_, rfl, ?_⟩ <;> ((try unfold V_X11_start); (try unfold U_X11_start); (try simp only [if_neg h4_0, if_neg h13_1, if_pos h23_2]); (try rfl)))
      · refine r_iload e_X11_start_26 rfl ?_
        refine r_iconst e_X11_start_28 ic_0 ?_
        refine r_bipush e_X11_start_29 bp_8 ?_
        refine cS3v e_X11_start_31 cl_X11_245 ⟨Nat.le_of_ble_eq_true rfl, Nat.le_of_ble_eq_true rfl⟩ ⟨rfl, rfl⟩  (Nat.le_of_ble_eq_true rfl) (S_X11_in ) ?_
        refine r_if_ne e_X11_start_34 (fun h34_3 => ?_) (fun h34_3 => ?_)
        · refine r_aload_n e_X11_start_45 rfl ?_
          refine r_getR e_X11_start_46 fl_X11_200 (by with_reducible assumption) (by with_reducible assumption) ?_
          refine r_iconst e_X11_start_49 ic_5 ?_
          refine r_iload_n e_X11_start_50 rfl ?_
          refine r_imul e_X11_start_51 ?_
          refine r_iload_n e_X11_start_52 rfl ?_
          refine r_iadd e_X11_start_53 ?_
          refine r_iload_n e_X11_start_54 rfl ?_
          refine r_iastore e_X11_start_55 (by with_reducible assumption) (by with_reducible assumption) ?_
          refine r_aload_n e_X11_start_56 rfl ?_
          refine r_getR e_X11_start_57 fl_X11_203 (by with_reducible assumption) (by with_reducible assumption) ?_
          refine r_iconst e_X11_start_60 ic_5 ?_
          refine r_iload_n e_X11_start_61 rfl ?_
          refine r_imul e_X11_start_62 ?_
          refine r_iload_n e_X11_start_63 rfl ?_
          refine r_iadd e_X11_start_64 ?_
          refine r_iload e_X11_start_65 rfl ?_
          refine r_iastore e_X11_start_67 (by with_reducible assumption) (by with_reducible assumption) ?_
          refine r_iconst e_X11_start_68 ic_1 ?_
          refine r_ireturn e_X11_start_69 rfl ⟨rfl, rfl⟩ ?_
          (refine ⟨?_, rfl, ?_⟩ <;> ((try unfold V_X11_start); (try unfold U_X11_start); (try simp only [if_neg h4_0, if_neg h13_1, if_neg h23_2, if_neg h34_3]); (try rfl)))
        · refine r_aload_n e_X11_start_37 rfl ?_
          refine r_sipush e_X11_start_38 sp_m1001 ?_
          refine cV1v e_X11_start_41 cl_X11_178 ⟨Nat.le_of_ble_eq_true rfl, Nat.le_of_ble_eq_true rfl⟩ ⟨rfl, rfl⟩ (by with_reducible assumption) (Nat.le_of_ble_eq_true rfl) (S_X11_finding (by with_reducible assumption) (by with_reducible assumption) (by with_reducible assumption) (by first | decide | (unfold vp_in; decide) | exact Or.inl rfl | exact Or.inr rfl)) ?_
          refine r_ireturn e_X11_start_44 rfl ⟨rfl, rfl⟩ ?_
          (refine ⟨?_, rfl, ?_⟩ <;> ((try unfold V_X11_start); (try unfold U_X11_start); (try simp only [if_neg h4_0, if_neg h13_1, if_neg h23_2, if_pos h34_3]); (try rfl)))
def V_X11_views (a : Nat) (x1 : Int32) (x2 : Int32) (x3 : Int32) (q1 : Nat) (q2 : Nat) (q3 : Nat) (M : Mem) : Int32 := if (V_X11_isTeam x1 M) = 0 then (V_X11_finding a (-1001 : Int32) q1 M) else (if (V_X11_in x2 (0 : Int32) (3 : Int32) M) = 0 then (V_X11_finding a (-1001 : Int32) q1 M) else (if x3 = 0 then (1 : Int32) else (if (V_X11_in x3 (2 : Int32) (9 : Int32) M) = 0 then (V_X11_finding a (-1001 : Int32) q1 M) else (1 : Int32))))
def U_X11_views (a : Nat) (x1 : Int32) (x2 : Int32) (x3 : Int32) (q1 : Nat) (q2 : Nat) (q3 : Nat) (M : Mem) : Mem := if (V_X11_isTeam x1 M) = 0 then (U_X11_finding a (-1001 : Int32) q1 M) else (if (V_X11_in x2 (0 : Int32) (3 : Int32) M) = 0 then (U_X11_finding a (-1001 : Int32) q1 M) else (if x3 = 0 then (setI (setI M q2 x1.toNatClampNeg x2) q3 x1.toNatClampNeg x3) else (if (V_X11_in x3 (2 : Int32) (9 : Int32) M) = 0 then (U_X11_finding a (-1001 : Int32) q1 M) else (setI (setI M q2 x1.toNatClampNeg x2) q3 x1.toNatClampNeg x3))))
theorem S_X11_views {sh : List SC} {M : Mem} {a : Nat} {x1 : Int32} {x2 : Int32} {x3 : Int32} {q1 : Nat} {q2 : Nat} {q3 : Nat} (g1 : kd sh a = some (10 + 7, 0)) (g2 : rf sh a 21 = some q1) (g3 : kd sh q1 = some (0, 6)) (g4 : rf sh a 25 = some q2) (g5 : kd sh q2 = some (0, 4)) (g6 : vp_in x1 4) (g7 : rf sh a 26 = some q3) (g8 : kd sh q3 = some (0, 4)) : Gv m_X11_views [.ref a, .int x1, .int x2, .int x3] sh M (.int (V_X11_views a x1 x2 x3 q1 q2 q3 M)) (U_X11_views a x1 x2 x3 q1 q2 q3 M) := by
  refine Sp.of (ls := [some (.ref a), some (.int x1), some (.int x2), some (.int x3)]) (by decide +kernel) (Nat.le_of_ble_eq_true rfl) rfl ?_
  refine r_iload_n e_X11_views_0 rfl ?_
  refine cS1v e_X11_views_1 cl_X11_249 ⟨Nat.le_of_ble_eq_true rfl, Nat.le_of_ble_eq_true rfl⟩ ⟨rfl, rfl⟩  (Nat.le_of_ble_eq_true rfl) (S_X11_isTeam ) ?_
  refine r_if_eq e_X11_views_4 (fun h4_0 => ?_) (fun h4_0 => ?_)
  · refine r_aload_n e_X11_views_30 rfl ?_
    refine r_sipush e_X11_views_31 sp_m1001 ?_
    refine cV1v e_X11_views_34 cl_X11_178 ⟨Nat.le_of_ble_eq_true rfl, Nat.le_of_ble_eq_true rfl⟩ ⟨rfl, rfl⟩ (by with_reducible assumption) (Nat.le_of_ble_eq_true rfl) (S_X11_finding (by with_reducible assumption) (by with_reducible assumption) (by with_reducible assumption) (by first | decide | (unfold vp_in; decide) | exact Or.inl rfl | exact Or.inr rfl)) ?_
    refine r_ireturn e_X11_views_37 rfl ⟨rfl, rfl⟩ ?_
    (refine ⟨?_, rfl, ?_⟩ <;> ((try unfold V_X11_views); (try unfold U_X11_views); (try simp only [if_pos h4_0]); (try rfl)))
  · refine r_iload_n e_X11_views_7 rfl ?_
    refine r_iconst e_X11_views_8 ic_0 ?_
    refine r_iconst e_X11_views_9 ic_3 ?_
    refine cS3v e_X11_views_10 cl_X11_245 ⟨Nat.le_of_ble_eq_true rfl, Nat.le_of_ble_eq_true rfl⟩ ⟨rfl, rfl⟩  (Nat.le_of_ble_eq_true rfl) (S_X11_in ) ?_
    refine r_if_eq e_X11_views_13 (fun h13_1 => ?_) (fun h13_1 => ?_)
    · refine r_aload_n e_X11_views_30 rfl ?_
      refine r_sipush e_X11_views_31 sp_m1001 ?_
      refine cV1v e_X11_views_34 cl_X11_178 ⟨Nat.le_of_ble_eq_true rfl, Nat.le_of_ble_eq_true rfl⟩ ⟨rfl, rfl⟩ (by with_reducible assumption) (Nat.le_of_ble_eq_true rfl) (S_X11_finding (by with_reducible assumption) (by with_reducible assumption) (by with_reducible assumption) (by first | decide | (unfold vp_in; decide) | exact Or.inl rfl | exact Or.inr rfl)) ?_
      refine r_ireturn e_X11_views_37 rfl ⟨rfl, rfl⟩ ?_
      (refine ⟨?_, rfl, ?_⟩ <;> ((try unfold V_X11_views); (try unfold U_X11_views); (try simp only [if_neg h4_0, if_pos h13_1]); (try rfl)))
    · refine r_iload_n e_X11_views_16 rfl ?_
      refine r_if_eq e_X11_views_17 (fun h17_2 => ?_) (fun h17_2 => ?_)
      · refine r_aload_n e_X11_views_38 rfl ?_
        refine r_getR e_X11_views_39 fl_X11_206 (by with_reducible assumption) (by with_reducible assumption) ?_
        refine r_iload_n e_X11_views_42 rfl ?_
        refine r_iload_n e_X11_views_43 rfl ?_
        refine r_iastore e_X11_views_44 (by with_reducible assumption) (by with_reducible assumption) ?_
        refine r_aload_n e_X11_views_45 rfl ?_
        refine r_getR e_X11_views_46 fl_X11_209 (by with_reducible assumption) (by with_reducible assumption) ?_
        refine r_iload_n e_X11_views_49 rfl ?_
        refine r_iload_n e_X11_views_50 rfl ?_
        refine r_iastore e_X11_views_51 (by with_reducible assumption) (by with_reducible assumption) ?_
        refine r_iconst e_X11_views_52 ic_1 ?_
        refine r_ireturn e_X11_views_53 rfl ⟨rfl, rfl⟩ ?_
        (refine ⟨?_, rfl, ?_⟩ <;> ((try unfold V_X11_views); (try unfold U_X11_views); (try simp only [if_neg h4_0, if_neg h13_1, if_pos h17_2]); (try rfl)))
      · refine r_iload_n e_X11_views_20 rfl ?_
        refine r_iconst e_X11_views_21 ic_2 ?_
        refine r_bipush e_X11_views_22 bp_9 ?_
        refine cS3v e_X11_views_24 cl_X11_245 ⟨Nat.le_of_ble_eq_true rfl, Nat.le_of_ble_eq_true rfl⟩ ⟨rfl, rfl⟩  (Nat.le_of_ble_eq_true rfl) (S_X11_in ) ?_
        refine r_if_ne e_X11_views_27 (fun h27_3 => ?_) (fun h27_3 => ?_)
        · refine r_aload_n e_X11_views_38 rfl ?_
          refine r_getR e_X11_views_39 fl_X11_206 (by with_reducible assumption) (by with_reducible assumption) ?_
          refine r_iload_n e_X11_views_42 rfl ?_
          refine r_iload_n e_X11_views_43 rfl ?_
          refine r_iastore e_X11_views_44 (by with_reducible assumption) (by with_reducible assumption) ?_
          refine r_aload_n e_X11_views_45 rfl ?_
          refine r_getR e_X11_views_46 fl_X11_209 (by with_reducible assumption) (by with_reducible assumption) ?_
          refine r_iload_n e_X11_views_49 rfl ?_
          refine r_iload_n e_X11_views_50 rfl ?_
          refine r_iastore e_X11_views_51 (by with_reducible assumption) (by with_reducible assumption) ?_
          refine r_iconst e_X11_views_52 ic_1 ?_
          refine r_ireturn e_X11_views_53 rfl ⟨rfl, rfl⟩ ?_
          (refine ⟨?_, rfl, ?_⟩ <;> ((try unfold V_X11_views); (try unfold U_X11_views); (try simp only [if_neg h4_0, if_neg h13_1, if_neg h17_2, if_neg h27_3]); (try rfl)))
        · refine r_aload_n e_X11_views_30 rfl ?_
          refine r_sipush e_X11_views_31 sp_m1001 ?_
          refine cV1v e_X11_views_34 cl_X11_178 ⟨Nat.le_of_ble_eq_true rfl, Nat.le_of_ble_eq_true rfl⟩ ⟨rfl, rfl⟩ (by with_reducible assumption) (Nat.le_of_ble_eq_true rfl) (S_X11_finding (by with_reducible assumption) (by with_reducible assumption) (by with_reducible assumption) (by first | decide | (unfold vp_in; decide) | exact Or.inl rfl | exact Or.inr rfl)) ?_
          refine r_ireturn e_X11_views_37 rfl ⟨rfl, rfl⟩ ?_
          (refine ⟨?_, rfl, ?_⟩ <;> ((try unfold V_X11_views); (try unfold U_X11_views); (try simp only [if_neg h4_0, if_neg h13_1, if_neg h17_2, if_pos h27_3]); (try rfl)))
def U_X11_goes (a : Nat) (x1 : Int32) (x2 : Int32) (x3 : Int32) (x4 : Int32) (q1 : Nat) (q2 : Nat) (q3 : Nat) (q4 : Nat) (M : Mem) : Mem := (let v0_0 : Int32 := if (5 : Int32) ≤ (M.1 a 33) then (-1 : Int32) else (1 : Int32); let v1_0 : Int32 := if (1 : Int32) ≤ x4 then (if x4 ≤ (9 : Int32) then x4 else (9 : Int32)) else (1 : Int32); setI (setI (setI (U_X11_set a (M.1 a 33) (10 : Int32) x1 q1 M) q2 ((U_X11_set a (M.1 a 33) (10 : Int32) x1 q1 M).1 a 33).toNatClampNeg (v0_0 * (V_X11_sign x2 (U_X11_set a (M.1 a 33) (10 : Int32) x1 q1 M)))) q3 ((U_X11_set a (M.1 a 33) (10 : Int32) x1 q1 M).1 a 33).toNatClampNeg (v0_0 * (V_X11_sign x3 (setI (U_X11_set a (M.1 a 33) (10 : Int32) x1 q1 M) q2 ((U_X11_set a (M.1 a 33) (10 : Int32) x1 q1 M).1 a 33).toNatClampNeg (v0_0 * (V_X11_sign x2 (U_X11_set a (M.1 a 33) (10 : Int32) x1 q1 M))))))) q4 ((U_X11_set a (M.1 a 33) (10 : Int32) x1 q1 M).1 a 33).toNatClampNeg v1_0)
theorem S_X11_goes {sh : List SC} {M : Mem} {a : Nat} {x1 : Int32} {x2 : Int32} {x3 : Int32} {x4 : Int32} {q1 : Nat} {q2 : Nat} {q3 : Nat} {q4 : Nat} (g1 : kd sh a = some (10 + 7, 0)) (g2 : rf sh a 27 = some q1) (g3 : kd sh q1 = some (0, 212)) (g4 : vp_in (((44 : Int32) + ((16 : Int32) * (M.1 a 33))) + (10 : Int32)) 212) (g5 : rf sh a 38 = some q2) (g6 : kd sh q2 = some (0, 10)) (g7 : vp_in ((U_X11_set a (M.1 a 33) (10 : Int32) x1 q1 M).1 a 33) 10) (g8 : rf sh a 39 = some q3) (g9 : kd sh q3 = some (0, 10)) (g10 : rf sh a 40 = some q4) (g11 : kd sh q4 = some (0, 10)) : Gu m_X11_goes [.ref a, .int x1, .int x2, .int x3, .int x4] sh M (U_X11_goes a x1 x2 x3 x4 q1 q2 q3 q4 M) := by
  refine Sp.of (ls := [some (.ref a), some (.int x1), some (.int x2), some (.int x3), some (.int x4), none]) (by decide +kernel) (Nat.le_of_ble_eq_true rfl) rfl ?_
  refine r_aload_n e_X11_goes_0 rfl ?_
  refine r_getI e_X11_goes_1 fl_X11_315 i0 (by with_reducible assumption) ?_
  refine r_iconst e_X11_goes_4 ic_5 ?_
  obtain ⟨v0_0, e_v0_0⟩ : ∃ z : Int32, z = (if (5 : Int32) ≤ (M.1 a 33) then (-1 : Int32) else (1 : Int32)) := ⟨_, rfl⟩
  suffices j13_0 : WP m_X11_goes (fun r sh' M'' => r = none ∧ sh' = sh ∧ M'' = (U_X11_goes a x1 x2 x3 x4 q1 q2 q3 q4 M)) 13 [some (.ref a), some (.int x1), some (.int x2), some (.int x3), some (.int x4), none] [.int v0_0] sh M 0 0 by
    refine r_icmp_ge e_X11_goes_5 (fun h5_0 => ?_) (fun h5_0 => ?_)
    · refine r_iconst e_X11_goes_12 ic_m1 ?_
      rw [show v0_0 = (-1 : Int32) from (e_v0_0.trans (if_pos h5_0))] at j13_0; exact j13_0
    · refine r_iconst e_X11_goes_8 ic_1 ?_
      refine r_goto e_X11_goes_9 ?_
      rw [show v0_0 = (1 : Int32) from (e_v0_0.trans (if_neg h5_0))] at j13_0; exact j13_0
  refine p_istore_6_5 e_X11_goes_13 rfl rfl ?_
  refine r_aload_n e_X11_goes_15 rfl ?_
  refine r_aload_n e_X11_goes_16 rfl ?_
  refine r_getI e_X11_goes_17 fl_X11_315 i0 (by with_reducible assumption) ?_
  refine r_bipush e_X11_goes_20 bp_10 ?_
  refine r_iload_n e_X11_goes_22 rfl ?_
  refine cV3u e_X11_goes_23 cl_X11_282 ⟨Nat.le_of_ble_eq_true rfl, Nat.le_of_ble_eq_true rfl⟩ ⟨rfl, rfl⟩ (by with_reducible assumption) (Nat.le_of_ble_eq_true rfl) (S_X11_set (by with_reducible assumption) (by with_reducible assumption) (by with_reducible assumption) (by with_reducible assumption)) ?_
  refine r_aload_n e_X11_goes_26 rfl ?_
  refine r_getR e_X11_goes_27 fl_X11_224 (by with_reducible assumption) (by with_reducible assumption) ?_
  refine r_aload_n e_X11_goes_30 rfl ?_
  refine r_getI e_X11_goes_31 fl_X11_315 i0 (by with_reducible assumption) ?_
  refine r_iload e_X11_goes_34 rfl ?_
  refine r_iload_n e_X11_goes_36 rfl ?_
  refine cS1v e_X11_goes_37 cl_X11_345 ⟨Nat.le_of_ble_eq_true rfl, Nat.le_of_ble_eq_true rfl⟩ ⟨rfl, rfl⟩  (Nat.le_of_ble_eq_true rfl) (S_X11_sign ) ?_
  refine r_imul e_X11_goes_40 ?_
  refine r_iastore e_X11_goes_41 (by with_reducible assumption) (by with_reducible assumption) ?_
  refine r_aload_n e_X11_goes_42 rfl ?_
  refine r_getR e_X11_goes_43 fl_X11_227 (by with_reducible assumption) (by with_reducible assumption) ?_
  refine r_aload_n e_X11_goes_46 rfl ?_
  refine r_getIe e_X11_goes_47 fl_X11_315 i0 (by with_reducible assumption) (gs_aI (ne_kd (show kd sh a = some (10 + 7, 0) by with_reducible assumption) (show kd sh q2 = some (0, 10) by with_reducible assumption) (by decide))) ?_
  refine r_iload e_X11_goes_50 rfl ?_
  refine r_iload_n e_X11_goes_52 rfl ?_
  refine cS1v e_X11_goes_53 cl_X11_345 ⟨Nat.le_of_ble_eq_true rfl, Nat.le_of_ble_eq_true rfl⟩ ⟨rfl, rfl⟩  (Nat.le_of_ble_eq_true rfl) (S_X11_sign ) ?_
  refine r_imul e_X11_goes_56 ?_
  refine r_iastore e_X11_goes_57 (by with_reducible assumption) (by with_reducible assumption) ?_
  refine r_aload_n e_X11_goes_58 rfl ?_
  refine r_getR e_X11_goes_59 fl_X11_230 (by with_reducible assumption) (by with_reducible assumption) ?_
  refine r_aload_n e_X11_goes_62 rfl ?_
  refine r_getIe e_X11_goes_63 fl_X11_315 i0 (by with_reducible assumption) ((gs_aI (ne_kd (show kd sh a = some (10 + 7, 0) by with_reducible assumption) (show kd sh q3 = some (0, 10) by with_reducible assumption) (by decide))).trans (gs_aI (ne_kd (show kd sh a = some (10 + 7, 0) by with_reducible assumption) (show kd sh q2 = some (0, 10) by with_reducible assumption) (by decide)))) ?_
  refine r_iload e_X11_goes_66 rfl ?_
  refine r_iconst e_X11_goes_68 ic_1 ?_
  obtain ⟨v1_0, e_v1_0⟩ : ∃ z : Int32, z = (if (1 : Int32) ≤ x4 then (if x4 ≤ (9 : Int32) then x4 else (9 : Int32)) else (1 : Int32)) := ⟨_, rfl⟩
  suffices j90_1 : WP m_X11_goes (fun r sh' M'' => r = none ∧ sh' = sh ∧ M'' = (U_X11_goes a x1 x2 x3 x4 q1 q2 q3 q4 M)) 90 [some (.ref a), some (.int x1), some (.int x2), some (.int x3), some (.int x4), some (.int v0_0)] [.int v1_0, .int ((U_X11_set a (M.1 a 33) (10 : Int32) x1 q1 M).1 a 33), .ref q4] sh (setI (setI (U_X11_set a (M.1 a 33) (10 : Int32) x1 q1 M) q2 ((U_X11_set a (M.1 a 33) (10 : Int32) x1 q1 M).1 a 33).toNatClampNeg (v0_0 * (V_X11_sign x2 (U_X11_set a (M.1 a 33) (10 : Int32) x1 q1 M)))) q3 ((U_X11_set a (M.1 a 33) (10 : Int32) x1 q1 M).1 a 33).toNatClampNeg (v0_0 * (V_X11_sign x3 (setI (U_X11_set a (M.1 a 33) (10 : Int32) x1 q1 M) q2 ((U_X11_set a (M.1 a 33) (10 : Int32) x1 q1 M).1 a 33).toNatClampNeg (v0_0 * (V_X11_sign x2 (U_X11_set a (M.1 a 33) (10 : Int32) x1 q1 M))))))) 0 0 by
    refine r_icmp_ge e_X11_goes_69 (fun h69_1 => ?_) (fun h69_1 => ?_)
    · refine r_iload e_X11_goes_76 rfl ?_
      refine r_bipush e_X11_goes_78 bp_9 ?_
      refine r_icmp_le e_X11_goes_80 (fun h80_2 => ?_) (fun h80_2 => ?_)
      · refine r_iload e_X11_goes_88 rfl ?_
        rw [show v1_0 = x4 from ((e_v1_0.trans (if_pos h69_1)).trans (if_pos h80_2))] at j90_1; exact j90_1
      · refine r_bipush e_X11_goes_83 bp_9 ?_
        refine r_goto e_X11_goes_85 ?_
        rw [show v1_0 = (9 : Int32) from ((e_v1_0.trans (if_pos h69_1)).trans (if_neg h80_2))] at j90_1; exact j90_1
    · refine r_iconst e_X11_goes_72 ic_1 ?_
      refine r_goto e_X11_goes_73 ?_
      rw [show v1_0 = (1 : Int32) from (e_v1_0.trans (if_neg h69_1))] at j90_1; exact j90_1
  refine r_iastore e_X11_goes_90 (by with_reducible assumption) (by with_reducible assumption) ?_
  refine r_return e_X11_goes_91 rfl ⟨rfl, rfl⟩ ?_
  (subst e_v1_0 e_v0_0; refine ⟨?_, rfl, ?_⟩ <;> ((try unfold U_X11_goes); (try simp only []); (try rfl)))
def V_X11_sensor (a : Nat) (x1 : Int32) (q1 : Nat) (M : Mem) : Int32 := if x1 = 0 then (V_X11_seenX a (V_X11_of a (M.1 a 33) (8 : Int32) q1 M) M) else (if x1 = 1 then (V_X11_seenY a (V_X11_of a (M.1 a 33) (9 : Int32) q1 M) M) else (if x1 = 2 then (V_X11_seenX a (V_X11_of a (M.1 a 33) (0 : Int32) q1 M) M) else (if x1 = 3 then (V_X11_seenY a (V_X11_of a (M.1 a 33) (1 : Int32) q1 M) M) else (if x1 = 4 then (let v0_0 : Int32 := if 0 ≤ (M.1 q1 (16 : Int32).toNatClampNeg) then (if (M.1 q1 (16 : Int32).toNatClampNeg) = (M.1 a 33) then (2 : Int32) else (if ((M.1 q1 (16 : Int32).toNatClampNeg) / (5 : Int32)) = ((M.1 a 33) / (5 : Int32)) then (1 : Int32) else (-1 : Int32))) else (0 : Int32); v0_0) else (if x1 = 5 then (M.1 q1 (3 : Int32).toNatClampNeg) else (if x1 = 6 then ((M.1 q1 ((4 : Int32) + ((M.1 a 33) / (5 : Int32))).toNatClampNeg) - (M.1 q1 ((5 : Int32) - ((M.1 a 33) / (5 : Int32))).toNatClampNeg)) else (V_X11_distance (V_X11_of a (M.1 a 33) (0 : Int32) q1 M) (V_X11_of a (M.1 a 33) (1 : Int32) q1 M) (V_X11_of a (M.1 a 33) (8 : Int32) q1 M) (V_X11_of a (M.1 a 33) (9 : Int32) q1 M) M)))))))
theorem S_X11_sensor {sh : List SC} {M : Mem} {a : Nat} {x1 : Int32} {q1 : Nat} (g1 : kd sh a = some (10 + 7, 0)) (g2 : rf sh a 27 = some q1) (g3 : kd sh q1 = some (0, 212)) (g4 : vp_in (((44 : Int32) + ((16 : Int32) * (M.1 a 33))) + (8 : Int32)) 212) (g5 : vp_in (((44 : Int32) + ((16 : Int32) * (M.1 a 33))) + (9 : Int32)) 212) (g6 : vp_in (((44 : Int32) + ((16 : Int32) * (M.1 a 33))) + (0 : Int32)) 212) (g7 : vp_in (((44 : Int32) + ((16 : Int32) * (M.1 a 33))) + (1 : Int32)) 212) (g8 : vp_in ((4 : Int32) + ((M.1 a 33) / (5 : Int32))) 212) (g9 : vp_in ((5 : Int32) - ((M.1 a 33) / (5 : Int32))) 212) : Gv m_X11_sensor [.ref a, .int x1] sh M (.int (V_X11_sensor a x1 q1 M)) M := by
  refine Sp.of (ls := [some (.ref a), some (.int x1), none, none]) (by decide +kernel) (Nat.le_of_ble_eq_true rfl) rfl ?_
  refine r_aload_n e_X11_sensor_0 rfl ?_
  refine r_getR e_X11_sensor_1 fl_X11_212 (by with_reducible assumption) (by with_reducible assumption) ?_
  refine r_bipush e_X11_sensor_4 bp_16 ?_
  refine r_iaload e_X11_sensor_6 (by with_reducible assumption) (by unfold vp_in; decide) ?_
  refine p_istore_n_4_2 e_X11_sensor_7 rfl rfl ?_
  refine r_aload_n e_X11_sensor_8 rfl ?_
  refine r_getI e_X11_sensor_9 fl_X11_315 i0 (by with_reducible assumption) ?_
  refine r_iconst e_X11_sensor_12 ic_5 ?_
  refine r_idiv e_X11_sensor_13 (by decide) ?_
  refine p_istore_n_4_3 e_X11_sensor_14 rfl rfl ?_
  refine r_iload_n e_X11_sensor_15 rfl ?_
  by_cases hs16_0 : x1 = 0
  · refine r_tabIn (tgt := 60) (off := 44) e_X11_sensor_16 (by rw [hs16_0]; decide) (by rw [hs16_0]; decide) (by rw [hs16_0]; rfl) (by decide) ?_
    refine r_aload_n e_X11_sensor_60 rfl ?_
    refine r_aload_n e_X11_sensor_61 rfl ?_
    refine r_aload_n e_X11_sensor_62 rfl ?_
    refine r_getI e_X11_sensor_63 fl_X11_315 i0 (by with_reducible assumption) ?_
    refine r_bipush e_X11_sensor_66 bp_8 ?_
    refine cV2v e_X11_sensor_68 cl_X11_252 ⟨Nat.le_of_ble_eq_true rfl, Nat.le_of_ble_eq_true rfl⟩ ⟨rfl, rfl⟩ (by with_reducible assumption) (Nat.le_of_ble_eq_true rfl) (S_X11_of (by with_reducible assumption) (by with_reducible assumption) (by with_reducible assumption) (by with_reducible assumption)) ?_
    refine cV1v e_X11_sensor_71 cl_X11_318 ⟨Nat.le_of_ble_eq_true rfl, Nat.le_of_ble_eq_true rfl⟩ ⟨rfl, rfl⟩ (by with_reducible assumption) (Nat.le_of_ble_eq_true rfl) (S_X11_seenX (by with_reducible assumption)) ?_
    refine r_ireturn e_X11_sensor_74 rfl ⟨rfl, rfl⟩ ?_
    (refine ⟨?_, rfl, ?_⟩ <;> ((try unfold V_X11_sensor); (try simp only [if_pos hs16_0]); (try rfl)))
  · by_cases hs16_1 : x1 = 1
    · refine r_tabIn (tgt := 75) (off := 59) e_X11_sensor_16 (by rw [hs16_1]; decide) (by rw [hs16_1]; decide) (by rw [hs16_1]; rfl) (by decide) ?_
      refine r_aload_n e_X11_sensor_75 rfl ?_
      refine r_aload_n e_X11_sensor_76 rfl ?_
      refine r_aload_n e_X11_sensor_77 rfl ?_
      refine r_getI e_X11_sensor_78 fl_X11_315 i0 (by with_reducible assumption) ?_
      refine r_bipush e_X11_sensor_81 bp_9 ?_
      refine cV2v e_X11_sensor_83 cl_X11_252 ⟨Nat.le_of_ble_eq_true rfl, Nat.le_of_ble_eq_true rfl⟩ ⟨rfl, rfl⟩ (by with_reducible assumption) (Nat.le_of_ble_eq_true rfl) (S_X11_of (by with_reducible assumption) (by with_reducible assumption) (by with_reducible assumption) (by with_reducible assumption)) ?_
      refine cV1v e_X11_sensor_86 cl_X11_321 ⟨Nat.le_of_ble_eq_true rfl, Nat.le_of_ble_eq_true rfl⟩ ⟨rfl, rfl⟩ (by with_reducible assumption) (Nat.le_of_ble_eq_true rfl) (S_X11_seenY (by with_reducible assumption)) ?_
      refine r_ireturn e_X11_sensor_89 rfl ⟨rfl, rfl⟩ ?_
      (refine ⟨?_, rfl, ?_⟩ <;> ((try unfold V_X11_sensor); (try simp only [if_neg hs16_0, if_pos hs16_1]); (try rfl)))
    · by_cases hs16_2 : x1 = 2
      · refine r_tabIn (tgt := 90) (off := 74) e_X11_sensor_16 (by rw [hs16_2]; decide) (by rw [hs16_2]; decide) (by rw [hs16_2]; rfl) (by decide) ?_
        refine r_aload_n e_X11_sensor_90 rfl ?_
        refine r_aload_n e_X11_sensor_91 rfl ?_
        refine r_aload_n e_X11_sensor_92 rfl ?_
        refine r_getI e_X11_sensor_93 fl_X11_315 i0 (by with_reducible assumption) ?_
        refine r_iconst e_X11_sensor_96 ic_0 ?_
        refine cV2v e_X11_sensor_97 cl_X11_252 ⟨Nat.le_of_ble_eq_true rfl, Nat.le_of_ble_eq_true rfl⟩ ⟨rfl, rfl⟩ (by with_reducible assumption) (Nat.le_of_ble_eq_true rfl) (S_X11_of (by with_reducible assumption) (by with_reducible assumption) (by with_reducible assumption) (by with_reducible assumption)) ?_
        refine cV1v e_X11_sensor_100 cl_X11_318 ⟨Nat.le_of_ble_eq_true rfl, Nat.le_of_ble_eq_true rfl⟩ ⟨rfl, rfl⟩ (by with_reducible assumption) (Nat.le_of_ble_eq_true rfl) (S_X11_seenX (by with_reducible assumption)) ?_
        refine r_ireturn e_X11_sensor_103 rfl ⟨rfl, rfl⟩ ?_
        (refine ⟨?_, rfl, ?_⟩ <;> ((try unfold V_X11_sensor); (try simp only [if_neg hs16_0, if_neg hs16_1, if_pos hs16_2]); (try rfl)))
      · by_cases hs16_3 : x1 = 3
        · refine r_tabIn (tgt := 104) (off := 88) e_X11_sensor_16 (by rw [hs16_3]; decide) (by rw [hs16_3]; decide) (by rw [hs16_3]; rfl) (by decide) ?_
          refine r_aload_n e_X11_sensor_104 rfl ?_
          refine r_aload_n e_X11_sensor_105 rfl ?_
          refine r_aload_n e_X11_sensor_106 rfl ?_
          refine r_getI e_X11_sensor_107 fl_X11_315 i0 (by with_reducible assumption) ?_
          refine r_iconst e_X11_sensor_110 ic_1 ?_
          refine cV2v e_X11_sensor_111 cl_X11_252 ⟨Nat.le_of_ble_eq_true rfl, Nat.le_of_ble_eq_true rfl⟩ ⟨rfl, rfl⟩ (by with_reducible assumption) (Nat.le_of_ble_eq_true rfl) (S_X11_of (by with_reducible assumption) (by with_reducible assumption) (by with_reducible assumption) (by with_reducible assumption)) ?_
          refine cV1v e_X11_sensor_114 cl_X11_321 ⟨Nat.le_of_ble_eq_true rfl, Nat.le_of_ble_eq_true rfl⟩ ⟨rfl, rfl⟩ (by with_reducible assumption) (Nat.le_of_ble_eq_true rfl) (S_X11_seenY (by with_reducible assumption)) ?_
          refine r_ireturn e_X11_sensor_117 rfl ⟨rfl, rfl⟩ ?_
          (refine ⟨?_, rfl, ?_⟩ <;> ((try unfold V_X11_sensor); (try simp only [if_neg hs16_0, if_neg hs16_1, if_neg hs16_2, if_pos hs16_3]); (try rfl)))
        · by_cases hs16_4 : x1 = 4
          · refine r_tabIn (tgt := 118) (off := 102) e_X11_sensor_16 (by rw [hs16_4]; decide) (by rw [hs16_4]; decide) (by rw [hs16_4]; rfl) (by decide) ?_
            refine r_iload_n e_X11_sensor_118 rfl ?_
            obtain ⟨v0_0, e_v0_0⟩ : ∃ z : Int32, z = (if 0 ≤ (M.1 q1 (16 : Int32).toNatClampNeg) then (if (M.1 q1 (16 : Int32).toNatClampNeg) = (M.1 a 33) then (2 : Int32) else (if ((M.1 q1 (16 : Int32).toNatClampNeg) / (5 : Int32)) = ((M.1 a 33) / (5 : Int32)) then (1 : Int32) else (-1 : Int32))) else (0 : Int32)) := ⟨_, rfl⟩
            suffices j150_0 : WP m_X11_sensor (fun r sh' M'' => r = some (.int (V_X11_sensor a x1 q1 M)) ∧ sh' = sh ∧ M'' = M) 150 [some (.ref a), some (.int x1), some (.int (M.1 q1 (16 : Int32).toNatClampNeg)), some (.int ((M.1 a 33) / (5 : Int32)))] [.int v0_0] sh M 0 0 by
              refine r_if_ge e_X11_sensor_119 (fun h119_0 => ?_) (fun h119_0 => ?_)
              · refine r_iload_n e_X11_sensor_126 rfl ?_
                refine r_aload_n e_X11_sensor_127 rfl ?_
                refine r_getI e_X11_sensor_128 fl_X11_315 i0 (by with_reducible assumption) ?_
                refine r_icmp_ne e_X11_sensor_131 (fun h131_1 => ?_) (fun h131_1 => ?_)
                · refine r_iload_n e_X11_sensor_138 rfl ?_
                  refine r_iconst e_X11_sensor_139 ic_5 ?_
                  refine r_idiv e_X11_sensor_140 (by decide) ?_
                  refine r_iload_n e_X11_sensor_141 rfl ?_
                  refine r_icmp_ne e_X11_sensor_142 (fun h142_2 => ?_) (fun h142_2 => ?_)
                  · refine r_iconst e_X11_sensor_149 ic_m1 ?_
                    rw [show v0_0 = (-1 : Int32) from (((e_v0_0.trans (if_pos h119_0)).trans (if_neg h131_1)).trans (if_neg h142_2))] at j150_0; exact j150_0
                  · refine r_iconst e_X11_sensor_145 ic_1 ?_
                    refine r_goto e_X11_sensor_146 ?_
                    rw [show v0_0 = (1 : Int32) from (((e_v0_0.trans (if_pos h119_0)).trans (if_neg h131_1)).trans (if_pos h142_2))] at j150_0; exact j150_0
                · refine r_iconst e_X11_sensor_134 ic_2 ?_
                  refine r_goto e_X11_sensor_135 ?_
                  rw [show v0_0 = (2 : Int32) from ((e_v0_0.trans (if_pos h119_0)).trans (if_pos h131_1))] at j150_0; exact j150_0
              · refine r_iconst e_X11_sensor_122 ic_0 ?_
                refine r_goto e_X11_sensor_123 ?_
                rw [show v0_0 = (0 : Int32) from (e_v0_0.trans (if_neg h119_0))] at j150_0; exact j150_0
            refine r_ireturn e_X11_sensor_150 rfl ⟨rfl, rfl⟩ ?_
            (subst e_v0_0; refine ⟨?_, rfl, ?_⟩ <;> ((try unfold V_X11_sensor); (try simp only [if_neg hs16_0, if_neg hs16_1, if_neg hs16_2, if_neg hs16_3, if_pos hs16_4]); (try rfl)))
          · by_cases hs16_5 : x1 = 5
            · refine r_tabIn (tgt := 151) (off := 135) e_X11_sensor_16 (by rw [hs16_5]; decide) (by rw [hs16_5]; decide) (by rw [hs16_5]; rfl) (by decide) ?_
              refine r_aload_n e_X11_sensor_151 rfl ?_
              refine r_getR e_X11_sensor_152 fl_X11_212 (by with_reducible assumption) (by with_reducible assumption) ?_
              refine r_iconst e_X11_sensor_155 ic_3 ?_
              refine r_iaload e_X11_sensor_156 (by with_reducible assumption) (by unfold vp_in; decide) ?_
              refine r_ireturn e_X11_sensor_157 rfl ⟨rfl, rfl⟩ ?_
              (refine ⟨?_, rfl, ?_⟩ <;> ((try unfold V_X11_sensor); (try simp only [if_neg hs16_0, if_neg hs16_1, if_neg hs16_2, if_neg hs16_3, if_neg hs16_4, if_pos hs16_5]); (try rfl)))
            · by_cases hs16_6 : x1 = 6
              · refine r_tabIn (tgt := 158) (off := 142) e_X11_sensor_16 (by rw [hs16_6]; decide) (by rw [hs16_6]; decide) (by rw [hs16_6]; rfl) (by decide) ?_
                refine r_aload_n e_X11_sensor_158 rfl ?_
                refine r_getR e_X11_sensor_159 fl_X11_212 (by with_reducible assumption) (by with_reducible assumption) ?_
                refine r_iconst e_X11_sensor_162 ic_4 ?_
                refine r_iload_n e_X11_sensor_163 rfl ?_
                refine r_iadd e_X11_sensor_164 ?_
                refine r_iaload e_X11_sensor_165 (by with_reducible assumption) (by with_reducible assumption) ?_
                refine r_aload_n e_X11_sensor_166 rfl ?_
                refine r_getR e_X11_sensor_167 fl_X11_212 (by with_reducible assumption) (by with_reducible assumption) ?_
                refine r_iconst e_X11_sensor_170 ic_5 ?_
                refine r_iload_n e_X11_sensor_171 rfl ?_
                refine r_isub e_X11_sensor_172 ?_
                refine r_iaload e_X11_sensor_173 (by with_reducible assumption) (by with_reducible assumption) ?_
                refine r_isub e_X11_sensor_174 ?_
                refine r_ireturn e_X11_sensor_175 rfl ⟨rfl, rfl⟩ ?_
                (refine ⟨?_, rfl, ?_⟩ <;> ((try unfold V_X11_sensor); (try simp only [if_neg hs16_0, if_neg hs16_1, if_neg hs16_2, if_neg hs16_3, if_neg hs16_4, if_neg hs16_5, if_pos hs16_6]); (try rfl)))
              · refine r_tabOut (tgt := 176) e_X11_sensor_16 (by have q0 := lv_neT hs16_0 (show (0 : Int32).toInt = 0 from rfl); have q1 := lv_neT hs16_1 (show (1 : Int32).toInt = 1 from rfl); have q2 := lv_neT hs16_2 (show (2 : Int32).toInt = 2 from rfl); have q3 := lv_neT hs16_3 (show (3 : Int32).toInt = 3 from rfl); have q4 := lv_neT hs16_4 (show (4 : Int32).toInt = 4 from rfl); have q5 := lv_neT hs16_5 (show (5 : Int32).toInt = 5 from rfl); have q6 := lv_neT hs16_6 (show (6 : Int32).toInt = 6 from rfl); omega) (by decide) ?_
                refine r_aload_n e_X11_sensor_176 rfl ?_
                refine r_aload_n e_X11_sensor_177 rfl ?_
                refine r_getI e_X11_sensor_178 fl_X11_315 i0 (by with_reducible assumption) ?_
                refine r_iconst e_X11_sensor_181 ic_0 ?_
                refine cV2v e_X11_sensor_182 cl_X11_252 ⟨Nat.le_of_ble_eq_true rfl, Nat.le_of_ble_eq_true rfl⟩ ⟨rfl, rfl⟩ (by with_reducible assumption) (Nat.le_of_ble_eq_true rfl) (S_X11_of (by with_reducible assumption) (by with_reducible assumption) (by with_reducible assumption) (by with_reducible assumption)) ?_
                refine r_aload_n e_X11_sensor_185 rfl ?_
                refine r_aload_n e_X11_sensor_186 rfl ?_
                refine r_getI e_X11_sensor_187 fl_X11_315 i0 (by with_reducible assumption) ?_
                refine r_iconst e_X11_sensor_190 ic_1 ?_
                refine cV2v e_X11_sensor_191 cl_X11_252 ⟨Nat.le_of_ble_eq_true rfl, Nat.le_of_ble_eq_true rfl⟩ ⟨rfl, rfl⟩ (by with_reducible assumption) (Nat.le_of_ble_eq_true rfl) (S_X11_of (by with_reducible assumption) (by with_reducible assumption) (by with_reducible assumption) (by with_reducible assumption)) ?_
                refine r_aload_n e_X11_sensor_194 rfl ?_
                refine r_aload_n e_X11_sensor_195 rfl ?_
                refine r_getI e_X11_sensor_196 fl_X11_315 i0 (by with_reducible assumption) ?_
                refine r_bipush e_X11_sensor_199 bp_8 ?_
                refine cV2v e_X11_sensor_201 cl_X11_252 ⟨Nat.le_of_ble_eq_true rfl, Nat.le_of_ble_eq_true rfl⟩ ⟨rfl, rfl⟩ (by with_reducible assumption) (Nat.le_of_ble_eq_true rfl) (S_X11_of (by with_reducible assumption) (by with_reducible assumption) (by with_reducible assumption) (by with_reducible assumption)) ?_
                refine r_aload_n e_X11_sensor_204 rfl ?_
                refine r_aload_n e_X11_sensor_205 rfl ?_
                refine r_getI e_X11_sensor_206 fl_X11_315 i0 (by with_reducible assumption) ?_
                refine r_bipush e_X11_sensor_209 bp_9 ?_
                refine cV2v e_X11_sensor_211 cl_X11_252 ⟨Nat.le_of_ble_eq_true rfl, Nat.le_of_ble_eq_true rfl⟩ ⟨rfl, rfl⟩ (by with_reducible assumption) (Nat.le_of_ble_eq_true rfl) (S_X11_of (by with_reducible assumption) (by with_reducible assumption) (by with_reducible assumption) (by with_reducible assumption)) ?_
                refine cS4v e_X11_sensor_214 cl_X11_274 ⟨Nat.le_of_ble_eq_true rfl, Nat.le_of_ble_eq_true rfl⟩ ⟨rfl, rfl⟩  (Nat.le_of_ble_eq_true rfl) (S_X11_distance ) ?_
                refine r_ireturn e_X11_sensor_217 rfl ⟨rfl, rfl⟩ ?_
                (refine ⟨?_, rfl, ?_⟩ <;> ((try unfold V_X11_sensor); (try simp only [if_neg hs16_0, if_neg hs16_1, if_neg hs16_2, if_neg hs16_3, if_neg hs16_4, if_neg hs16_5, if_neg hs16_6]); (try rfl)))
def V_X11_ball (a : Nat) (x1 : Int32) (q1 : Nat) (q2 : Nat) (M : Mem) : Int32 := if (V_X11_isMatch a q1 M) = 0 then (V_X11_finding a (-1003 : Int32) q2 M) else (if (V_X11_in x1 (0 : Int32) (5 : Int32) M) = 0 then (V_X11_finding a (-1001 : Int32) q2 M) else (V_X11_ballOf q1 (0 : Int32) x1 212 M))
def U_X11_ball (a : Nat) (x1 : Int32) (q1 : Nat) (q2 : Nat) (M : Mem) : Mem := if (V_X11_isMatch a q1 M) = 0 then (U_X11_finding a (-1003 : Int32) q2 M) else (if (V_X11_in x1 (0 : Int32) (5 : Int32) M) = 0 then (U_X11_finding a (-1001 : Int32) q2 M) else M)
theorem S_X11_ball {sh : List SC} {M : Mem} {a : Nat} {x1 : Int32} {q1 : Nat} {q2 : Nat} (g1 : kd sh a = some (10 + 7, 0)) (g2 : rf sh a 27 = some q1) (g3 : kd sh q1 = some (0, 212)) (g4 : vp_in (((0 : Int32) + (14 : Int32)) + x1) 212) (g5 : rf sh a 21 = some q2) (g6 : kd sh q2 = some (0, 6)) : Gv m_X11_ball [.ref a, .int x1] sh M (.int (V_X11_ball a x1 q1 q2 M)) (U_X11_ball a x1 q1 q2 M) := by
  refine Sp.of (ls := [some (.ref a), some (.int x1)]) (by decide +kernel) (Nat.le_of_ble_eq_true rfl) rfl ?_
  refine r_aload_n e_X11_ball_0 rfl ?_
  refine cV0v e_X11_ball_1 cl_X11_394 ⟨Nat.le_of_ble_eq_true rfl, Nat.le_of_ble_eq_true rfl⟩ ⟨rfl, rfl⟩ (by with_reducible assumption) (Nat.le_of_ble_eq_true rfl) (S_X11_isMatch (by with_reducible assumption) (by with_reducible assumption) (by with_reducible assumption)) ?_
  refine r_if_ne e_X11_ball_4 (fun h4_0 => ?_) (fun h4_0 => ?_)
  · refine r_iload_n e_X11_ball_15 rfl ?_
    refine r_iconst e_X11_ball_16 ic_0 ?_
    refine r_iconst e_X11_ball_17 ic_5 ?_
    refine cS3v e_X11_ball_18 cl_X11_245 ⟨Nat.le_of_ble_eq_true rfl, Nat.le_of_ble_eq_true rfl⟩ ⟨rfl, rfl⟩  (Nat.le_of_ble_eq_true rfl) (S_X11_in ) ?_
    refine r_if_ne e_X11_ball_21 (fun h21_1 => ?_) (fun h21_1 => ?_)
    · refine r_aload_n e_X11_ball_32 rfl ?_
      refine r_getR e_X11_ball_33 fl_X11_212 (by with_reducible assumption) (by with_reducible assumption) ?_
      refine r_iconst e_X11_ball_36 ic_0 ?_
      refine r_iload_n e_X11_ball_37 rfl ?_
      refine cS3v e_X11_ball_38 cl_X11_400 ⟨Nat.le_of_ble_eq_true rfl, Nat.le_of_ble_eq_true rfl⟩ ⟨rfl, rfl⟩  (Nat.le_of_ble_eq_true rfl) (S_X11_ballOf (by with_reducible assumption) (by first | decide | (unfold vp_in; decide) | exact Or.inl rfl | exact Or.inr rfl) (by first | decide | (unfold vp_in; decide) | exact Or.inl rfl | exact Or.inr rfl) (by with_reducible assumption)) ?_
      refine r_ireturn e_X11_ball_41 rfl ⟨rfl, rfl⟩ ?_
      (refine ⟨?_, rfl, ?_⟩ <;> ((try unfold V_X11_ball); (try unfold U_X11_ball); (try simp only [if_neg h4_0, if_neg h21_1]); (try rfl)))
    · refine r_aload_n e_X11_ball_24 rfl ?_
      refine r_sipush e_X11_ball_25 sp_m1001 ?_
      refine cV1v e_X11_ball_28 cl_X11_178 ⟨Nat.le_of_ble_eq_true rfl, Nat.le_of_ble_eq_true rfl⟩ ⟨rfl, rfl⟩ (by with_reducible assumption) (Nat.le_of_ble_eq_true rfl) (S_X11_finding (by with_reducible assumption) (by with_reducible assumption) (by with_reducible assumption) (by first | decide | (unfold vp_in; decide) | exact Or.inl rfl | exact Or.inr rfl)) ?_
      refine r_ireturn e_X11_ball_31 rfl ⟨rfl, rfl⟩ ?_
      (refine ⟨?_, rfl, ?_⟩ <;> ((try unfold V_X11_ball); (try unfold U_X11_ball); (try simp only [if_neg h4_0, if_pos h21_1]); (try rfl)))
  · refine r_aload_n e_X11_ball_7 rfl ?_
    refine r_sipush e_X11_ball_8 sp_m1003 ?_
    refine cV1v e_X11_ball_11 cl_X11_178 ⟨Nat.le_of_ble_eq_true rfl, Nat.le_of_ble_eq_true rfl⟩ ⟨rfl, rfl⟩ (by with_reducible assumption) (Nat.le_of_ble_eq_true rfl) (S_X11_finding (by with_reducible assumption) (by with_reducible assumption) (by with_reducible assumption) (by first | decide | (unfold vp_in; decide) | exact Or.inl rfl | exact Or.inr rfl)) ?_
    refine r_ireturn e_X11_ball_14 rfl ⟨rfl, rfl⟩ ?_
    (refine ⟨?_, rfl, ?_⟩ <;> ((try unfold V_X11_ball); (try unfold U_X11_ball); (try simp only [if_pos h4_0]); (try rfl)))
def V_X11_table (a : Nat) (x1 : Int32) (x2 : Int32) (q1 : Nat) (q2 : Nat) (q3 : Nat) (q4 : Nat) (M : Mem) : Int32 := if (V_X11_isTeam x1 M) = 0 then (V_X11_finding a (-1001 : Int32) q1 M) else (if (V_X11_in x2 (0 : Int32) (2 : Int32) M) = 0 then (V_X11_finding a (-1001 : Int32) q1 M) else (if (V_X11_hasPlayed a x1 M) = 0 then (V_X11_finding a (-1004 : Int32) q1 M) else (let v3_0 : Int32 := if x2 = 0 then (M.1 q4 x1.toNatClampNeg) else (if x2 = (1 : Int32) then (M.1 q3 x1.toNatClampNeg) else (M.1 q2 x1.toNatClampNeg)); v3_0)))
def U_X11_table (a : Nat) (x1 : Int32) (x2 : Int32) (q1 : Nat) (q2 : Nat) (q3 : Nat) (q4 : Nat) (M : Mem) : Mem := if (V_X11_isTeam x1 M) = 0 then (U_X11_finding a (-1001 : Int32) q1 M) else (if (V_X11_in x2 (0 : Int32) (2 : Int32) M) = 0 then (U_X11_finding a (-1001 : Int32) q1 M) else (if (V_X11_hasPlayed a x1 M) = 0 then (U_X11_finding a (-1004 : Int32) q1 M) else M))
theorem S_X11_table {sh : List SC} {M : Mem} {a : Nat} {x1 : Int32} {x2 : Int32} {q1 : Nat} {q2 : Nat} {q3 : Nat} {q4 : Nat} (g1 : kd sh a = some (10 + 7, 0)) (g2 : rf sh a 21 = some q1) (g3 : kd sh q1 = some (0, 6)) (g4 : rf sh a 45 = some q2) (g5 : kd sh q2 = some (0, 4)) (g6 : vp_in x1 4) (g7 : rf sh a 44 = some q3) (g8 : kd sh q3 = some (0, 4)) (g9 : rf sh a 43 = some q4) (g10 : kd sh q4 = some (0, 4)) : Gv m_X11_table [.ref a, .int x1, .int x2] sh M (.int (V_X11_table a x1 x2 q1 q2 q3 q4 M)) (U_X11_table a x1 x2 q1 q2 q3 q4 M) := by
  refine Sp.of (ls := [some (.ref a), some (.int x1), some (.int x2)]) (by decide +kernel) (Nat.le_of_ble_eq_true rfl) rfl ?_
  refine r_iload_n e_X11_table_0 rfl ?_
  refine cS1v e_X11_table_1 cl_X11_249 ⟨Nat.le_of_ble_eq_true rfl, Nat.le_of_ble_eq_true rfl⟩ ⟨rfl, rfl⟩  (Nat.le_of_ble_eq_true rfl) (S_X11_isTeam ) ?_
  refine r_if_eq e_X11_table_4 (fun h4_0 => ?_) (fun h4_0 => ?_)
  · refine r_aload_n e_X11_table_16 rfl ?_
    refine r_sipush e_X11_table_17 sp_m1001 ?_
    refine cV1v e_X11_table_20 cl_X11_178 ⟨Nat.le_of_ble_eq_true rfl, Nat.le_of_ble_eq_true rfl⟩ ⟨rfl, rfl⟩ (by with_reducible assumption) (Nat.le_of_ble_eq_true rfl) (S_X11_finding (by with_reducible assumption) (by with_reducible assumption) (by with_reducible assumption) (by first | decide | (unfold vp_in; decide) | exact Or.inl rfl | exact Or.inr rfl)) ?_
    refine r_ireturn e_X11_table_23 rfl ⟨rfl, rfl⟩ ?_
    (refine ⟨?_, rfl, ?_⟩ <;> ((try unfold V_X11_table); (try unfold U_X11_table); (try simp only [if_pos h4_0]); (try rfl)))
  · refine r_iload_n e_X11_table_7 rfl ?_
    refine r_iconst e_X11_table_8 ic_0 ?_
    refine r_iconst e_X11_table_9 ic_2 ?_
    refine cS3v e_X11_table_10 cl_X11_245 ⟨Nat.le_of_ble_eq_true rfl, Nat.le_of_ble_eq_true rfl⟩ ⟨rfl, rfl⟩  (Nat.le_of_ble_eq_true rfl) (S_X11_in ) ?_
    refine r_if_ne e_X11_table_13 (fun h13_1 => ?_) (fun h13_1 => ?_)
    · refine r_aload_n e_X11_table_24 rfl ?_
      refine r_iload_n e_X11_table_25 rfl ?_
      refine cV1v e_X11_table_26 cl_X11_414 ⟨Nat.le_of_ble_eq_true rfl, Nat.le_of_ble_eq_true rfl⟩ ⟨rfl, rfl⟩ (by with_reducible assumption) (Nat.le_of_ble_eq_true rfl) (S_X11_hasPlayed (by with_reducible assumption)) ?_
      refine r_if_ne e_X11_table_29 (fun h29_2 => ?_) (fun h29_2 => ?_)
      · refine r_iload_n e_X11_table_40 rfl ?_
        obtain ⟨v3_0, e_v3_0⟩ : ∃ z : Int32, z = (if x2 = 0 then (M.1 q4 x1.toNatClampNeg) else (if x2 = (1 : Int32) then (M.1 q3 x1.toNatClampNeg) else (M.1 q2 x1.toNatClampNeg))) := ⟨_, rfl⟩
        suffices j73_3 : WP m_X11_table (fun r sh' M'' => r = some (.int (V_X11_table a x1 x2 q1 q2 q3 q4 M)) ∧ sh' = sh ∧ M'' = (U_X11_table a x1 x2 q1 q2 q3 q4 M)) 73 [some (.ref a), some (.int x1), some (.int x2)] [.int v3_0] sh M 0 0 by
          refine r_if_ne e_X11_table_41 (fun h41_3 => ?_) (fun h41_3 => ?_)
          · refine r_iload_n e_X11_table_53 rfl ?_
            refine r_iconst e_X11_table_54 ic_1 ?_
            refine r_icmp_ne e_X11_table_55 (fun h55_4 => ?_) (fun h55_4 => ?_)
            · refine r_aload_n e_X11_table_67 rfl ?_
              refine r_getR e_X11_table_68 fl_X11_239 (by with_reducible assumption) (by with_reducible assumption) ?_
              refine r_iload_n e_X11_table_71 rfl ?_
              refine r_iaload e_X11_table_72 (by with_reducible assumption) (by with_reducible assumption) ?_
              rw [show v3_0 = (M.1 q2 x1.toNatClampNeg) from ((e_v3_0.trans (if_neg h41_3)).trans (if_neg h55_4))] at j73_3; exact j73_3
            · refine r_aload_n e_X11_table_58 rfl ?_
              refine r_getR e_X11_table_59 fl_X11_236 (by with_reducible assumption) (by with_reducible assumption) ?_
              refine r_iload_n e_X11_table_62 rfl ?_
              refine r_iaload e_X11_table_63 (by with_reducible assumption) (by with_reducible assumption) ?_
              refine r_goto e_X11_table_64 ?_
              rw [show v3_0 = (M.1 q3 x1.toNatClampNeg) from ((e_v3_0.trans (if_neg h41_3)).trans (if_pos h55_4))] at j73_3; exact j73_3
          · refine r_aload_n e_X11_table_44 rfl ?_
            refine r_getR e_X11_table_45 fl_X11_233 (by with_reducible assumption) (by with_reducible assumption) ?_
            refine r_iload_n e_X11_table_48 rfl ?_
            refine r_iaload e_X11_table_49 (by with_reducible assumption) (by with_reducible assumption) ?_
            refine r_goto e_X11_table_50 ?_
            rw [show v3_0 = (M.1 q4 x1.toNatClampNeg) from (e_v3_0.trans (if_pos h41_3))] at j73_3; exact j73_3
        refine r_ireturn e_X11_table_73 rfl ⟨rfl, rfl⟩ ?_
        (subst e_v3_0; refine ⟨?_, rfl, ?_⟩ <;> ((try unfold V_X11_table); (try unfold U_X11_table); (try simp only [if_neg h4_0, if_neg h13_1, if_neg h29_2]); (try rfl)))
      · refine r_aload_n e_X11_table_32 rfl ?_
        refine r_sipush e_X11_table_33 sp_m1004 ?_
        refine cV1v e_X11_table_36 cl_X11_178 ⟨Nat.le_of_ble_eq_true rfl, Nat.le_of_ble_eq_true rfl⟩ ⟨rfl, rfl⟩ (by with_reducible assumption) (Nat.le_of_ble_eq_true rfl) (S_X11_finding (by with_reducible assumption) (by with_reducible assumption) (by with_reducible assumption) (by first | decide | (unfold vp_in; decide) | exact Or.inl rfl | exact Or.inr rfl)) ?_
        refine r_ireturn e_X11_table_39 rfl ⟨rfl, rfl⟩ ?_
        (refine ⟨?_, rfl, ?_⟩ <;> ((try unfold V_X11_table); (try unfold U_X11_table); (try simp only [if_neg h4_0, if_neg h13_1, if_pos h29_2]); (try rfl)))
    · refine r_aload_n e_X11_table_16 rfl ?_
      refine r_sipush e_X11_table_17 sp_m1001 ?_
      refine cV1v e_X11_table_20 cl_X11_178 ⟨Nat.le_of_ble_eq_true rfl, Nat.le_of_ble_eq_true rfl⟩ ⟨rfl, rfl⟩ (by with_reducible assumption) (Nat.le_of_ble_eq_true rfl) (S_X11_finding (by with_reducible assumption) (by with_reducible assumption) (by with_reducible assumption) (by first | decide | (unfold vp_in; decide) | exact Or.inl rfl | exact Or.inr rfl)) ?_
      refine r_ireturn e_X11_table_23 rfl ⟨rfl, rfl⟩ ?_
      (refine ⟨?_, rfl, ?_⟩ <;> ((try unfold V_X11_table); (try unfold U_X11_table); (try simp only [if_neg h4_0, if_pos h13_1]); (try rfl)))
def V_X11_program (a : Nat) (x1 : Int32) (x2 : Int32) (x3 : Int32) (q1 : Nat) (q2 : Nat) (M : Mem) : Int32 := if (V_X11_isTeam x1 M) = 0 then (V_X11_finding a (-1001 : Int32) q1 M) else (if (V_X11_in x2 (0 : Int32) (4 : Int32) M) = 0 then (V_X11_finding a (-1001 : Int32) q1 M) else (if (V_X11_in x3 (-1 : Int32) ((M.1 a 8) - (1 : Int32)) M) = 0 then (V_X11_finding a (-1001 : Int32) q1 M) else (1 : Int32)))
def U_X11_program (a : Nat) (x1 : Int32) (x2 : Int32) (x3 : Int32) (q1 : Nat) (q2 : Nat) (M : Mem) : Mem := if (V_X11_isTeam x1 M) = 0 then (U_X11_finding a (-1001 : Int32) q1 M) else (if (V_X11_in x2 (0 : Int32) (4 : Int32) M) = 0 then (U_X11_finding a (-1001 : Int32) q1 M) else (if (V_X11_in x3 (-1 : Int32) ((M.1 a 8) - (1 : Int32)) M) = 0 then (U_X11_finding a (-1001 : Int32) q1 M) else (setI M q2 (((5 : Int32) * x1) + x2).toNatClampNeg x3)))
theorem S_X11_program {sh : List SC} {M : Mem} {a : Nat} {x1 : Int32} {x2 : Int32} {x3 : Int32} {q1 : Nat} {q2 : Nat} (g1 : kd sh a = some (10 + 7, 0)) (g2 : rf sh a 21 = some q1) (g3 : kd sh q1 = some (0, 6)) (g4 : rf sh a 22 = some q2) (g5 : kd sh q2 = some (0, 20)) (g6 : vp_in (((5 : Int32) * x1) + x2) 20) : Gv m_X11_program [.ref a, .int x1, .int x2, .int x3] sh M (.int (V_X11_program a x1 x2 x3 q1 q2 M)) (U_X11_program a x1 x2 x3 q1 q2 M) := by
  refine Sp.of (ls := [some (.ref a), some (.int x1), some (.int x2), some (.int x3)]) (by decide +kernel) (Nat.le_of_ble_eq_true rfl) rfl ?_
  refine r_iload_n e_X11_program_0 rfl ?_
  refine cS1v e_X11_program_1 cl_X11_249 ⟨Nat.le_of_ble_eq_true rfl, Nat.le_of_ble_eq_true rfl⟩ ⟨rfl, rfl⟩  (Nat.le_of_ble_eq_true rfl) (S_X11_isTeam ) ?_
  refine r_if_eq e_X11_program_4 (fun h4_0 => ?_) (fun h4_0 => ?_)
  · refine r_aload_n e_X11_program_30 rfl ?_
    refine r_sipush e_X11_program_31 sp_m1001 ?_
    refine cV1v e_X11_program_34 cl_X11_178 ⟨Nat.le_of_ble_eq_true rfl, Nat.le_of_ble_eq_true rfl⟩ ⟨rfl, rfl⟩ (by with_reducible assumption) (Nat.le_of_ble_eq_true rfl) (S_X11_finding (by with_reducible assumption) (by with_reducible assumption) (by with_reducible assumption) (by first | decide | (unfold vp_in; decide) | exact Or.inl rfl | exact Or.inr rfl)) ?_
    refine r_ireturn e_X11_program_37 rfl ⟨rfl, rfl⟩ ?_
    (refine ⟨?_, rfl, ?_⟩ <;> ((try unfold V_X11_program); (try unfold U_X11_program); (try simp only [if_pos h4_0]); (try rfl)))
  · refine r_iload_n e_X11_program_7 rfl ?_
    refine r_iconst e_X11_program_8 ic_0 ?_
    refine r_iconst e_X11_program_9 ic_4 ?_
    refine cS3v e_X11_program_10 cl_X11_245 ⟨Nat.le_of_ble_eq_true rfl, Nat.le_of_ble_eq_true rfl⟩ ⟨rfl, rfl⟩  (Nat.le_of_ble_eq_true rfl) (S_X11_in ) ?_
    refine r_if_eq e_X11_program_13 (fun h13_1 => ?_) (fun h13_1 => ?_)
    · refine r_aload_n e_X11_program_30 rfl ?_
      refine r_sipush e_X11_program_31 sp_m1001 ?_
      refine cV1v e_X11_program_34 cl_X11_178 ⟨Nat.le_of_ble_eq_true rfl, Nat.le_of_ble_eq_true rfl⟩ ⟨rfl, rfl⟩ (by with_reducible assumption) (Nat.le_of_ble_eq_true rfl) (S_X11_finding (by with_reducible assumption) (by with_reducible assumption) (by with_reducible assumption) (by first | decide | (unfold vp_in; decide) | exact Or.inl rfl | exact Or.inr rfl)) ?_
      refine r_ireturn e_X11_program_37 rfl ⟨rfl, rfl⟩ ?_
      (refine ⟨?_, rfl, ?_⟩ <;> ((try unfold V_X11_program); (try unfold U_X11_program); (try simp only [if_neg h4_0, if_pos h13_1]); (try rfl)))
    · refine r_iload_n e_X11_program_16 rfl ?_
      refine r_iconst e_X11_program_17 ic_m1 ?_
      refine r_aload_n e_X11_program_18 rfl ?_
      refine r_getI e_X11_program_19 fl_X11_105 i0 (by with_reducible assumption) ?_
      refine r_iconst e_X11_program_22 ic_1 ?_
      refine r_isub e_X11_program_23 ?_
      refine cS3v e_X11_program_24 cl_X11_245 ⟨Nat.le_of_ble_eq_true rfl, Nat.le_of_ble_eq_true rfl⟩ ⟨rfl, rfl⟩  (Nat.le_of_ble_eq_true rfl) (S_X11_in ) ?_
      refine r_if_ne e_X11_program_27 (fun h27_2 => ?_) (fun h27_2 => ?_)
      · refine r_aload_n e_X11_program_38 rfl ?_
        refine r_getR e_X11_program_39 fl_X11_197 (by with_reducible assumption) (by with_reducible assumption) ?_
        refine r_iconst e_X11_program_42 ic_5 ?_
        refine r_iload_n e_X11_program_43 rfl ?_
        refine r_imul e_X11_program_44 ?_
        refine r_iload_n e_X11_program_45 rfl ?_
        refine r_iadd e_X11_program_46 ?_
        refine r_iload_n e_X11_program_47 rfl ?_
        refine r_iastore e_X11_program_48 (by with_reducible assumption) (by with_reducible assumption) ?_
        refine r_iconst e_X11_program_49 ic_1 ?_
        refine r_ireturn e_X11_program_50 rfl ⟨rfl, rfl⟩ ?_
        (refine ⟨?_, rfl, ?_⟩ <;> ((try unfold V_X11_program); (try unfold U_X11_program); (try simp only [if_neg h4_0, if_neg h13_1, if_neg h27_2]); (try rfl)))
      · refine r_aload_n e_X11_program_30 rfl ?_
        refine r_sipush e_X11_program_31 sp_m1001 ?_
        refine cV1v e_X11_program_34 cl_X11_178 ⟨Nat.le_of_ble_eq_true rfl, Nat.le_of_ble_eq_true rfl⟩ ⟨rfl, rfl⟩ (by with_reducible assumption) (Nat.le_of_ble_eq_true rfl) (S_X11_finding (by with_reducible assumption) (by with_reducible assumption) (by with_reducible assumption) (by first | decide | (unfold vp_in; decide) | exact Or.inl rfl | exact Or.inr rfl)) ?_
        refine r_ireturn e_X11_program_37 rfl ⟨rfl, rfl⟩ ?_
        (refine ⟨?_, rfl, ?_⟩ <;> ((try unfold V_X11_program); (try unfold U_X11_program); (try simp only [if_neg h4_0, if_neg h13_1, if_pos h27_2]); (try rfl)))
