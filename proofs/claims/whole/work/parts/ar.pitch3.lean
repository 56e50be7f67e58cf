/-! ===== constructors: ToyPitch, the whole ===== -/
section CT9
variable {Q : Po} {M : Mem}
theorem lsP2 {m : Nat} {x : Int32} (h : 0 < m) : lsP m [some (.ref 0), some (.int x)] := ⟨h, trivial, trivial⟩
theorem vsP2 {m q : Nat} (hq : q < m) (h : 0 < m) : vsP m [.ref q, .ref 0] := ⟨hq, h, trivial⟩
theorem Zm.ln {b n : Nat} (hb : b < n) : ∀ (l : List Int32) (w : Nat) (u : Int64) (M : Mem), Zm n M → Zm n (lnM b l w u M)
  | [], _, _, _, h => h
  | c :: l, w, u, M, h => by
    rw [lnM]
    split
    · exact Zm.ln hb l _ _ _ (fun d hd j => ⟨(h d hd j).1, by
        show (if d = b ∧ j = w then u else M.2 d j) = 0
        rw [if_neg (by omega)]
        exact (h d hd j).2⟩)
    · exact Zm.ln hb l _ _ _ h
theorem lnM_1 {b : Nat} : ∀ (l : List Int32) (w : Nat) (u : Int64) (M : Mem), (lnM b l w u M).1 = M.1
  | [], _, _, _ => rfl
  | c :: l, w, u, M => by
    rw [lnM]
    split
    · exact lnM_1 l _ _ _
    · exact lnM_1 l _ _ _
theorem Zm.tM {q m : Nat} (hq : q + 3 < m) : ∀ (k i : Nat) (M : Mem), Zm m M → Zm m (tMl q k i M)
  | 0, _, _, h => h
  | k + 1, i, M, h => Zm.tM hq k (i + 1) _ (((h.setI (by omega)).setI (by omega)).setI (by omega))
theorem Zm.mMl {n m : Nat} (hm : n + 30 ≤ m) : ∀ (k i : Nat) (M : Mem), i + k ≤ 10 → Zm m M → Zm m (mMl n k i M)
  | 0, _, _, _, h => h
  | k + 1, i, M, hk, h => by
    have hl : n + 10 + 2 * i < m := by omega
    refine Zm.mMl hm k (i + 1) _ (by omega) ?_
    unfold MB_X5
    exact (((((h.setI hl).setI hl).setI hl).setI hl).setI hl).setI hl
theorem Zm.mM {n : Nat} {M : Mem} (h : Zm n M) : Zm (n + 30) (mM n M) := Zm.mMl (Nat.le_refl _) 10 0 _ (Nat.le_refl _) ((h.mono (show n ≤ n + 30 by omega)).setI (by omega))
def pm0 (M : Mem) : Mem := setI (MB_X4 2 M) 0 11 (-1)
def pt (M : Mem) : Nat → Mem
  | 0 => pm0 M
  | i + 1 => tMl (106 + 4 * i) 5 0 (pt M i)
def pu (M : Mem) : Nat → Mem
  | 0 => pt M 4
  | i + 1 => mM (122 + 30 * i) (pu M i)
theorem Zm.x4 (h : Zm 0 M) : Zm 8 (MB_X4 2 M) := by
  unfold MB_X4
  exact Zm.ln (by decide) _ _ _ _ (Zm.ln (by decide) _ _ _ _ ((h.mono (Nat.zero_le 8)).setI (by decide)))
theorem Zm.p0 (h : Zm 0 M) : Zm 16 (pm0 M) := (h.x4.mono (by decide)).setI (by decide)
theorem Zm.pt (h : Zm 0 M) : ∀ i, Zm (106 + 4 * i) (pt M i)
  | 0 => h.p0.mono (by decide)
  | i + 1 => Zm.tM (by omega) 5 0 _ ((Zm.pt h i).mono (by omega))
theorem Zm.pu (h : Zm 0 M) : ∀ i, Zm (122 + 30 * i) (pu M i)
  | 0 => h.pt 4
  | i + 1 => (Zm.pu h i).mM
def P0 : List SC := pA2 0
def P1 : List SC := (P0 ++ B_X3 16).set 8 (3, 6, ([none, none, none, none, none, none] : List (Option Nat)).set 0 (some 16))
def P2 : List SC := (P1 ++ B_X3 31).set 8 (3, 6, ([some 16, none, none, none, none, none] : List (Option Nat)).set 1 (some 31))
def P3 : List SC := (P2 ++ B_X3 46).set 8 (3, 6, ([some 16, some 31, none, none, none, none] : List (Option Nat)).set 2 (some 46))
def P4 : List SC := (P3 ++ B_X3 61).set 8 (3, 6, ([some 16, some 31, some 46, none, none, none] : List (Option Nat)).set 3 (some 61))
def P5 : List SC := (P4 ++ B_X3 76).set 8 (3, 6, ([some 16, some 31, some 46, some 61, none, none] : List (Option Nat)).set 4 (some 76))
def P6 : List SC := (P5 ++ B_X3 91).set 8 (3, 6, ([some 16, some 31, some 46, some 61, some 76, none] : List (Option Nat)).set 5 (some 91))
def T0 : List SC := P6
def T1 : List SC := (T0 ++ B_X8 106).set 9 (4, 4, ([none, none, none, none] : List (Option Nat)).set 0 (some 106))
def T2 : List SC := (T1 ++ B_X8 110).set 9 (4, 4, ([some 106, none, none, none] : List (Option Nat)).set 1 (some 110))
def T3 : List SC := (T2 ++ B_X8 114).set 9 (4, 4, ([some 106, some 110, none, none] : List (Option Nat)).set 2 (some 114))
def T4 : List SC := (T3 ++ B_X8 118).set 9 (4, 4, ([some 106, some 110, some 114, none] : List (Option Nat)).set 3 (some 118))
def U1 : List SC := (T4 ++ mL 122 10).set 0 (9 + 7, 0, ([some 1, some 2, some 8, some 9, none, none, some 10, some 11, some 15, none, none, none] : List (Option Nat)).set 4 (some 122))
def K0 : List SC := (U1 ++ mL 152 10).set 0 (9 + 7, 0, ([some 1, some 2, some 8, some 9, some 122, none, some 10, some 11, some 15, none, none, none] : List (Option Nat)).set 5 (some 152))
def K1 : List SC := (K0 ++ mL 182 10).set 10 (5, 2, ([none, none] : List (Option Nat)).set 0 (some 182))
def K2 : List SC := (K1 ++ mL 212 10).set 10 (5, 2, ([some 182, none] : List (Option Nat)).set 1 (some 212))
theorem X10_init_f (hz : Zm 0 M) (hE : WP m_X10_init Q 217 [some (.ref 0), some (.int (nI 2))] [] ([] ++ K2) (pu M 4) 241 30047) : WP m_X10_init Q 181 [some (.ref 0), some (.int (nI 0))] [] ([] ++ K0) (pu M 2) 181 29405 := by
  refine kept_it (l := K0) (rs0 := [some 1, some 2, some 8, some 9, some 122, some 152, some 10, some 11, some 15, none, none, none]) (rs8 := [none, none]) (i := 0) (q := 182) (by decide +kernel) rfl (by decide +kernel) rfl (by decide) (by decide +kernel) (by decide) (wlB_ok (by decide +kernel)) (hz.pu 2) rfl rfl ⟨by decide, by decide⟩ ?_
  show WP m_X10_init Q 181 [some (.ref 0), some (.int (nI 1))] [] ([] ++ K1) (pu M 3) 211 29726
  refine kept_it (l := K1) (rs0 := [some 1, some 2, some 8, some 9, some 122, some 152, some 10, some 11, some 15, none, none, none]) (rs8 := [some 182, none]) (i := 1) (q := 212) (by decide +kernel) rfl (by decide +kernel) rfl (by decide) (by decide +kernel) (by decide) (wlB_ok (by decide +kernel)) (hz.pu 3) rfl rfl ⟨by decide, by decide⟩ ?_
  show WP m_X10_init Q 181 [some (.ref 0), some (.int (nI 2))] [] ([] ++ K2) (pu M 4) 241 30047
  have k0 : kd ([] ++ K2) 0 = some (9 + 7, 0) := kd_app (i := 0) (rs := [some 1, some 2, some 8, some 9, some 122, some 152, some 10, some 11, some 15, none, none, none]) n0 rfl (by decide +kernel)
  have f0 : rf ([] ++ K2) 0 6 = some 10 := rf_app (i := 0) (t := 9 + 7) (m := 0) (rs := [some 1, some 2, some 8, some 9, some 122, some 152, some 10, some 11, some 15, none, none, none]) n0 rfl (by decide +kernel) rfl
  have k8 : kd ([] ++ K2) 10 = some (5, 2) := kd_app (i := 10) (rs := [some 182, some 212]) n0 (Nat.zero_add _) (by decide +kernel)
  refine r_iload_n e_X10_init_181 rfl ?_
  refine r_aload_n e_X10_init_182 rfl ?_
  refine r_getR e_X10_init_183 fl_X10_34 k0 f0 ?_
  refine r_alen (v := (2 : Int32)) (t := 5) e_X10_init_186 k8 (by decide) rfl ?_
  exact r_icmp_ge e_X10_init_187 (fun _ => hE) (fun hh => absurd (show (2 : Int32) ≤ nI 2 by decide) hh)
theorem X10_init_e (hz : Zm 0 M) (hE : WP m_X10_init Q 217 [some (.ref 0), some (.int (nI 2))] [] ([] ++ K2) (pu M 4) 241 30047) : WP m_X10_init Q 141 [some (.ref 0), some (.int (nI 4))] [] ([] ++ T4) (pu M 0) 121 28763 := by
  refine r_aload_n e_X10_init_141 rfl ?_
  have hlA0 : ∀ x : Nat, x < 122 → x < 0 + T4.length := fun x hx => Nat.lt_of_lt_of_le hx (by decide +kernel)
  have hlB0 : ∀ x : Nat, x < 123 → x < 0 + (T4 ++ [((2 + 7, 0, List.replicate 10 none) : SC)]).length := fun x hx => Nat.lt_of_lt_of_le hx (by decide +kernel)
  have w0 : wl (0 + T4.length) T4 := wlB_ok (by decide +kernel)
  refine c_newobj (c := 2) (N := 10) (q := 122) (l' := T4 ++ [(2 + 7, 0, List.replicate 10 none)]) n0 e_X10_init_142 nw_X10_32 wf0 w0 (lsP2 (hlA0 0 (by decide))) ⟨hlA0 0 (by decide), trivial⟩ (by decide +kernel) (zq_of (hz.pu 0)) ⟨by decide, by decide⟩ rfl ?_
  refine r_dup e_X10_init_145 rfl ?_
  have k0a : kd ([] ++ (T4 ++ [(2 + 7, 0, List.replicate 10 none)])) 0 = some (9 + 7, 0) := kd_app (i := 0) (rs := [some 1, some 2, some 8, some 9, none, none, some 10, some 11, some 15, none, none, none]) n0 rfl (by decide +kernel)
  refine r_aload_n e_X10_init_146 rfl ?_
  refine r_getR (b := 9) e_X10_init_147 fl_X10_28 k0a (rf_app (i := 0) (t := 9 + 7) (m := 0) (rs := [some 1, some 2, some 8, some 9, none, none, some 10, some 11, some 15, none, none, none]) n0 rfl (by decide +kernel) rfl) ?_
  refine r_aload_n e_X10_init_150 rfl ?_
  refine r_getR (b := 8) e_X10_init_151 fl_X10_22 k0a (rf_app (i := 0) (t := 9 + 7) (m := 0) (rs := [some 1, some 2, some 8, some 9, none, none, some 10, some 11, some 15, none, none, none]) n0 rfl (by decide +kernel) rfl) ?_
  have a0 : lsP (0 + (T4 ++ [((2 + 7, 0, List.replicate 10 none) : SC)]).length) [some (.ref 0), some (.int (nI 4))] := lsP2 (hlB0 0 (by decide))
  have b0 : vsP (0 + (T4 ++ [((2 + 7, 0, List.replicate 10 none) : SC)]).length) [.ref 122, .ref 0] := vsP2 (hlB0 122 (by decide)) (hlB0 0 (by decide))
  refine c_ctor (ls := [some (.ref 0), some (.int (nI 4))]) (st := [.ref 122, .ref 0]) (n := 0) (sh0 := []) (l0 := T4) (o := (2 + 7, 0, List.replicate 10 none)) (l := T4 ++ [(2 + 7, 0, List.replicate 10 none)]) (B := mL 122 10) (l' := T4 ++ mL 122 10) (M1 := mM 122 (pu M 0)) (As := [.ref 9, .ref 8]) (m1 := 29) (m2 := 311) n0 e_X10_init_154 cl_X10_60 ⟨Nat.le_of_ble_eq_true rfl, Nat.le_of_ble_eq_true rfl⟩ ⟨rfl, rfl⟩ rfl (Nat.le_of_ble_eq_true rfl) (S_X2_init (n := 122) (by decide +kernel) (wf_app wf0 n0 w0) (hz.pu 0) (by decide)) rfl rfl a0 b0 rfl ⟨by decide, by decide⟩ ?_
  refine c_putRF (l' := U1) (i := 0) (rs := [some 1, some 2, some 8, some 9, none, none, some 10, some 11, some 15, none, none, none]) n0 e_X10_init_157 fl_X10_63 rfl rfl rfl (by decide +kernel) (by decide) rfl ?_
  show WP m_X10_init Q 160 [some (.ref 0), some (.int (nI 4))] [] ([] ++ U1) (pu M 1) 151 29084
  refine r_aload_n e_X10_init_160 rfl ?_
  have hlA1 : ∀ x : Nat, x < 152 → x < 0 + U1.length := fun x hx => Nat.lt_of_lt_of_le hx (by decide +kernel)
  have hlB1 : ∀ x : Nat, x < 153 → x < 0 + (U1 ++ [((2 + 7, 0, List.replicate 10 none) : SC)]).length := fun x hx => Nat.lt_of_lt_of_le hx (by decide +kernel)
  have w1 : wl (0 + U1.length) U1 := wlB_ok (by decide +kernel)
  refine c_newobj (c := 2) (N := 10) (q := 152) (l' := U1 ++ [(2 + 7, 0, List.replicate 10 none)]) n0 e_X10_init_161 nw_X10_32 wf0 w1 (lsP2 (hlA1 0 (by decide))) ⟨hlA1 0 (by decide), trivial⟩ (by decide +kernel) (zq_of (hz.pu 1)) ⟨by decide, by decide⟩ rfl ?_
  refine r_dup e_X10_init_164 rfl ?_
  have k1a : kd ([] ++ (U1 ++ [(2 + 7, 0, List.replicate 10 none)])) 0 = some (9 + 7, 0) := kd_app (i := 0) (rs := [some 1, some 2, some 8, some 9, some 122, none, some 10, some 11, some 15, none, none, none]) n0 rfl (by decide +kernel)
  refine r_aload_n e_X10_init_165 rfl ?_
  refine r_getR (b := 9) e_X10_init_166 fl_X10_28 k1a (rf_app (i := 0) (t := 9 + 7) (m := 0) (rs := [some 1, some 2, some 8, some 9, some 122, none, some 10, some 11, some 15, none, none, none]) n0 rfl (by decide +kernel) rfl) ?_
  refine r_aload_n e_X10_init_169 rfl ?_
  refine r_getR (b := 8) e_X10_init_170 fl_X10_22 k1a (rf_app (i := 0) (t := 9 + 7) (m := 0) (rs := [some 1, some 2, some 8, some 9, some 122, none, some 10, some 11, some 15, none, none, none]) n0 rfl (by decide +kernel) rfl) ?_
  have a1 : lsP (0 + (U1 ++ [((2 + 7, 0, List.replicate 10 none) : SC)]).length) [some (.ref 0), some (.int (nI 4))] := lsP2 (hlB1 0 (by decide))
  have b1 : vsP (0 + (U1 ++ [((2 + 7, 0, List.replicate 10 none) : SC)]).length) [.ref 152, .ref 0] := vsP2 (hlB1 152 (by decide)) (hlB1 0 (by decide))
  refine c_ctor (ls := [some (.ref 0), some (.int (nI 4))]) (st := [.ref 152, .ref 0]) (n := 0) (sh0 := []) (l0 := U1) (o := (2 + 7, 0, List.replicate 10 none)) (l := U1 ++ [(2 + 7, 0, List.replicate 10 none)]) (B := mL 152 10) (l' := U1 ++ mL 152 10) (M1 := mM 152 (pu M 1)) (As := [.ref 9, .ref 8]) (m1 := 29) (m2 := 311) n0 e_X10_init_173 cl_X10_60 ⟨Nat.le_of_ble_eq_true rfl, Nat.le_of_ble_eq_true rfl⟩ ⟨rfl, rfl⟩ rfl (Nat.le_of_ble_eq_true rfl) (S_X2_init (n := 152) (by decide +kernel) (wf_app wf0 n0 w1) (hz.pu 1) (by decide)) rfl rfl a1 b1 rfl ⟨by decide, by decide⟩ ?_
  refine c_putRF (l' := K0) (i := 0) (rs := [some 1, some 2, some 8, some 9, some 122, none, some 10, some 11, some 15, none, none, none]) n0 e_X10_init_176 fl_X10_67 rfl rfl rfl (by decide +kernel) (by decide) rfl ?_
  show WP m_X10_init Q 179 [some (.ref 0), some (.int (nI 4))] [] ([] ++ K0) (pu M 2) 181 29405
  refine r_iconst e_X10_init_179 ic_0 ?_
  refine p_istore_n_2_1 e_X10_init_180 rfl rfl ?_
  exact X10_init_f hz hE
theorem X10_init_d (hz : Zm 0 M) (hE : WP m_X10_init Q 217 [some (.ref 0), some (.int (nI 2))] [] ([] ++ K2) (pu M 4) 241 30047) : WP m_X10_init Q 113 [some (.ref 0), some (.int (nI 0))] [] ([] ++ T0) (pt M 0) 105 28683 := by
  refine team_it (l := T0) (rs0 := [some 1, some 2, some 8, some 9, none, none, some 10, some 11, some 15, none, none, none]) (rs8 := [none, none, none, none]) (i := 0) (q := 106) (by decide +kernel) rfl (by decide +kernel) rfl (by decide) (by decide +kernel) (by decide) (wlB_ok (by decide +kernel)) (hz.pt 0) ⟨by decide, by decide⟩ ?_
  show WP m_X10_init Q 113 [some (.ref 0), some (.int (nI 1))] [] ([] ++ T1) (pt M 1) 109 28703
  refine team_it (l := T1) (rs0 := [some 1, some 2, some 8, some 9, none, none, some 10, some 11, some 15, none, none, none]) (rs8 := [some 106, none, none, none]) (i := 1) (q := 110) (by decide +kernel) rfl (by decide +kernel) rfl (by decide) (by decide +kernel) (by decide) (wlB_ok (by decide +kernel)) (hz.pt 1) ⟨by decide, by decide⟩ ?_
  show WP m_X10_init Q 113 [some (.ref 0), some (.int (nI 2))] [] ([] ++ T2) (pt M 2) 113 28723
  refine team_it (l := T2) (rs0 := [some 1, some 2, some 8, some 9, none, none, some 10, some 11, some 15, none, none, none]) (rs8 := [some 106, some 110, none, none]) (i := 2) (q := 114) (by decide +kernel) rfl (by decide +kernel) rfl (by decide) (by decide +kernel) (by decide) (wlB_ok (by decide +kernel)) (hz.pt 2) ⟨by decide, by decide⟩ ?_
  show WP m_X10_init Q 113 [some (.ref 0), some (.int (nI 3))] [] ([] ++ T3) (pt M 3) 117 28743
  refine team_it (l := T3) (rs0 := [some 1, some 2, some 8, some 9, none, none, some 10, some 11, some 15, none, none, none]) (rs8 := [some 106, some 110, some 114, none]) (i := 3) (q := 118) (by decide +kernel) rfl (by decide +kernel) rfl (by decide) (by decide +kernel) (by decide) (wlB_ok (by decide +kernel)) (hz.pt 3) ⟨by decide, by decide⟩ ?_
  show WP m_X10_init Q 113 [some (.ref 0), some (.int (nI 4))] [] ([] ++ T4) (pt M 4) 121 28763
  have k0 : kd ([] ++ T4) 0 = some (9 + 7, 0) := kd_app (i := 0) (rs := [some 1, some 2, some 8, some 9, none, none, some 10, some 11, some 15, none, none, none]) n0 rfl (by decide +kernel)
  have f0 : rf ([] ++ T4) 0 3 = some 9 := rf_app (i := 0) (t := 9 + 7) (m := 0) (rs := [some 1, some 2, some 8, some 9, none, none, some 10, some 11, some 15, none, none, none]) n0 rfl (by decide +kernel) rfl
  have k8 : kd ([] ++ T4) 9 = some (4, 4) := kd_app (i := 9) (rs := [some 106, some 110, some 114, some 118]) n0 (Nat.zero_add _) (by decide +kernel)
  refine r_iload_n e_X10_init_113 rfl ?_
  refine r_aload_n e_X10_init_114 rfl ?_
  refine r_getR e_X10_init_115 fl_X10_28 k0 f0 ?_
  refine r_alen (v := (4 : Int32)) (t := 4) e_X10_init_118 k8 (by decide) rfl ?_
  exact r_icmp_ge e_X10_init_119 (fun _ => X10_init_e hz hE) (fun hh => absurd (show (4 : Int32) ≤ nI 4 by decide) hh)
theorem X10_init_c (hz : Zm 0 M) (hE : WP m_X10_init Q 217 [some (.ref 0), some (.int (nI 2))] [] ([] ++ K2) (pu M 4) 241 30047) : WP m_X10_init Q 83 [some (.ref 0), some (.int (nI 0))] [] ([] ++ P0) (pm0 M) 15 3291 := by
  refine prog_it (l := P0) (rs0 := [some 1, some 2, some 8, some 9, none, none, some 10, some 11, some 15, none, none, none]) (rs8 := [none, none, none, none, none, none]) (i := 0) (q := 16) (by decide +kernel) rfl (by decide +kernel) rfl (by decide) (by decide +kernel) (by decide) (wlB_ok (by decide +kernel)) (hz.p0.mono (by decide)) ⟨by decide, by decide⟩ ?_
  show WP m_X10_init Q 83 [some (.ref 0), some (.int (nI 1))] [] ([] ++ P1) (pm0 M) 30 7523
  refine prog_it (l := P1) (rs0 := [some 1, some 2, some 8, some 9, none, none, some 10, some 11, some 15, none, none, none]) (rs8 := [some 16, none, none, none, none, none]) (i := 1) (q := 31) (by decide +kernel) rfl (by decide +kernel) rfl (by decide) (by decide +kernel) (by decide) (wlB_ok (by decide +kernel)) (hz.p0.mono (by decide)) ⟨by decide, by decide⟩ ?_
  show WP m_X10_init Q 83 [some (.ref 0), some (.int (nI 2))] [] ([] ++ P2) (pm0 M) 45 11755
  refine prog_it (l := P2) (rs0 := [some 1, some 2, some 8, some 9, none, none, some 10, some 11, some 15, none, none, none]) (rs8 := [some 16, some 31, none, none, none, none]) (i := 2) (q := 46) (by decide +kernel) rfl (by decide +kernel) rfl (by decide) (by decide +kernel) (by decide) (wlB_ok (by decide +kernel)) (hz.p0.mono (by decide)) ⟨by decide, by decide⟩ ?_
  show WP m_X10_init Q 83 [some (.ref 0), some (.int (nI 3))] [] ([] ++ P3) (pm0 M) 60 15987
  refine prog_it (l := P3) (rs0 := [some 1, some 2, some 8, some 9, none, none, some 10, some 11, some 15, none, none, none]) (rs8 := [some 16, some 31, some 46, none, none, none]) (i := 3) (q := 61) (by decide +kernel) rfl (by decide +kernel) rfl (by decide) (by decide +kernel) (by decide) (wlB_ok (by decide +kernel)) (hz.p0.mono (by decide)) ⟨by decide, by decide⟩ ?_
  show WP m_X10_init Q 83 [some (.ref 0), some (.int (nI 4))] [] ([] ++ P4) (pm0 M) 75 20219
  refine prog_it (l := P4) (rs0 := [some 1, some 2, some 8, some 9, none, none, some 10, some 11, some 15, none, none, none]) (rs8 := [some 16, some 31, some 46, some 61, none, none]) (i := 4) (q := 76) (by decide +kernel) rfl (by decide +kernel) rfl (by decide) (by decide +kernel) (by decide) (wlB_ok (by decide +kernel)) (hz.p0.mono (by decide)) ⟨by decide, by decide⟩ ?_
  show WP m_X10_init Q 83 [some (.ref 0), some (.int (nI 5))] [] ([] ++ P5) (pm0 M) 90 24451
  refine prog_it (l := P5) (rs0 := [some 1, some 2, some 8, some 9, none, none, some 10, some 11, some 15, none, none, none]) (rs8 := [some 16, some 31, some 46, some 61, some 76, none]) (i := 5) (q := 91) (by decide +kernel) rfl (by decide +kernel) rfl (by decide) (by decide +kernel) (by decide) (wlB_ok (by decide +kernel)) (hz.p0.mono (by decide)) ⟨by decide, by decide⟩ ?_
  show WP m_X10_init Q 83 [some (.ref 0), some (.int (nI 6))] [] ([] ++ P6) (pm0 M) 105 28683
  have k0 : kd ([] ++ P6) 0 = some (9 + 7, 0) := kd_app (i := 0) (rs := [some 1, some 2, some 8, some 9, none, none, some 10, some 11, some 15, none, none, none]) n0 rfl (by decide +kernel)
  have f0 : rf ([] ++ P6) 0 2 = some 8 := rf_app (i := 0) (t := 9 + 7) (m := 0) (rs := [some 1, some 2, some 8, some 9, none, none, some 10, some 11, some 15, none, none, none]) n0 rfl (by decide +kernel) rfl
  have k8 : kd ([] ++ P6) 8 = some (3, 6) := kd_app (i := 8) (rs := [some 16, some 31, some 46, some 61, some 76, some 91]) n0 (Nat.zero_add _) (by decide +kernel)
  refine r_iload_n e_X10_init_83 rfl ?_
  refine r_aload_n e_X10_init_84 rfl ?_
  refine r_getR e_X10_init_85 fl_X10_22 k0 f0 ?_
  refine r_alen (v := (6 : Int32)) (t := 3) e_X10_init_88 k8 (by decide) rfl ?_
  refine r_icmp_ge e_X10_init_89 (fun _ => ?_) (fun hh => absurd (show (6 : Int32) ≤ nI 6 by decide) hh)
  refine r_iconst e_X10_init_111 ic_0 ?_
  refine p_istore_n_2_1 e_X10_init_112 rfl rfl ?_
  exact X10_init_d hz hE
theorem S_X10_init (hz : Zm 0 M) : Sp m_X10_init [.ref 0] [(9 + 7, 0, List.replicate 12 none)] M (fun r sh' M' => r = none ∧ sh' = K2 ∧ M' = pu M 4) := by
  refine Sp.of (ls := [some (.ref 0), none]) (by decide +kernel) (Nat.le_of_ble_eq_true rfl) rfl ?_
  refine X10_init_a (sh0 := []) (n := 0) n0 wf0 hz rfl ?_
  refine X10_init_b n0 wf0 (fun j => ?_) hz.x4 ?_
  · unfold MB_X4
    rw [lnM_1, lnM_1, gI (Or.inl (by decide))]
    exact (hz 0 (Nat.le_refl _) j).1
  · refine r_iconst e_X10_init_81 ic_0 ?_
    refine p_istore_n_2_1 e_X10_init_82 rfl rfl ?_
    exact X10_init_c hz (r_return e_X10_init_217 rfl ⟨rfl, rfl⟩ ⟨rfl, rfl, rfl⟩)
end CT9
