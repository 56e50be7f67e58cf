def U_X0_lie (a : Nat) (x1 : Int32) (x2 : Int32) (M : Mem) : Mem := setI (U_X0_free a (0 : Int32) (0 : Int32) (0 : Int32) (U_X0_go a x1 x2 M)) a 9 (0 : Int32)
theorem S_X0_lie {sh : List SC} {M : Mem} {a : Nat} {x1 : Int32} {x2 : Int32}  (hb1 : BallAt sh a)  : Gu m_X0_lie [.ref a, .int x1, .int x2] sh M (U_X0_lie a x1 x2 M) := by
  refine Sp.of (ls := [some (.ref a), some (.int x1), some (.int x2)]) (by decide +kernel) (Nat.le_of_ble_eq_true rfl) rfl ?_
  have k0 : kd sh a = some (0 + 7, 0) := hb1.1
  refine r_aload_n e_X0_lie_0 rfl ?_
  refine r_iload_n e_X0_lie_1 rfl ?_
  refine r_iload_n e_X0_lie_2 rfl ?_
  refine cV2u e_X0_lie_3 cl_X0_47 ⟨Nat.le_of_ble_eq_true rfl, Nat.le_of_ble_eq_true rfl⟩ ⟨rfl, rfl⟩ k0 (Nat.le_of_ble_eq_true rfl) (S_X0_go hb1) ?_
  refine r_aload_n e_X0_lie_6 rfl ?_
  refine r_iconst e_X0_lie_7 ic_0 ?_
  refine r_iconst e_X0_lie_8 ic_0 ?_
  refine r_iconst e_X0_lie_9 ic_0 ?_
  refine cV3u e_X0_lie_10 cl_X0_51 ⟨Nat.le_of_ble_eq_true rfl, Nat.le_of_ble_eq_true rfl⟩ ⟨rfl, rfl⟩ k0 (Nat.le_of_ble_eq_true rfl) (S_X0_free hb1) ?_
  refine r_aload_n e_X0_lie_13 rfl ?_
  refine r_iconst e_X0_lie_14 ic_0 ?_
  refine r_putI e_X0_lie_15 fl_X0_37 k0 ?_
  refine r_return e_X0_lie_18 rfl ⟨rfl, rfl⟩ ?_
  (refine ⟨?_, rfl, ?_⟩ <;> ((try unfold U_X0_lie); (try simp only []); (try rfl)))
def F_X0_forget_2 (a : Nat) : Nat → Nat → Mem → Mem
  | 0, i2, M => M
  | n + 1, i2, M => (F_X0_forget_2 a n (i2 + 1) (U_X0_remember a (nI i2) M))
theorem L_X0_forget_2 {sh : List SC} {Q : Po} {a : Nat}    (hb1 : BallAt sh a)   : ∀ (n i2 : Nat) (M : Mem), i2 + n = 4 → WP m_X0_forget Q 18 [some (.ref a), none] [] sh (F_X0_forget_2 a n i2 M) 0 0 → WP m_X0_forget Q 2 [some (.ref a), some (.int (nI i2))] [] sh M 0 0 := by
  have k0 : kd sh a = some (0 + 7, 0) := hb1.1
  intro n
  induction n with
  | zero =>
    intro i2 M hi hq
    have hz : (4 : Int32) ≤ nI i2 := by
      have q : i2 = 4 := by omega
      rw [q]; exact nI_le (Nat.le_refl _) (by decide)
    refine r_iload_n e_X0_forget_2 rfl ?_
    refine r_iconst e_X0_forget_3 ic_4 ?_
    refine r_icmp_ge e_X0_forget_4 (fun _ => ?_) (fun hh => absurd hz hh)
    refine d_2_1 ?_
    (simp only [F_X0_forget_2] at hq; first | exact hq | (simp only []; exact hq))
  | succ n ih =>
    intro i2 M hi hq
    have hlt_i2 : i2 < 4 := by omega
    have hcl_i2 : (nI i2).toNatClampNeg = i2 := nI_clamp (by omega)
    have hs : ¬ (4 : Int32) ≤ nI i2 := nI_ge (b := 4) hlt_i2 (by decide)
    refine r_iload_n e_X0_forget_2 rfl ?_
    refine r_iconst e_X0_forget_3 ic_4 ?_
    refine r_icmp_ge e_X0_forget_4 (fun hh => absurd hh hs) (fun _ => ?_)
    refine r_aload_n e_X0_forget_7 rfl ?_
    refine r_iload_n e_X0_forget_8 rfl ?_
    refine cV1u e_X0_forget_9 cl_X0_61 ⟨Nat.le_of_ble_eq_true rfl, Nat.le_of_ble_eq_true rfl⟩ ⟨rfl, rfl⟩ k0 (Nat.le_of_ble_eq_true rfl) (S_X0_remember hb1) ?_
    refine p_iinc_2_1 e_X0_forget_12 rfl ic_1 rfl ?_
    rw [nI_1 i2]
    refine r_goto e_X0_forget_15 ?_
    (simp only [F_X0_forget_2] at hq; first | exact ih (i2 + 1) _ (by omega) hq | (simp only []; exact ih (i2 + 1) _ (by omega) hq))
def U_X0_forget (a : Nat) (M : Mem) : Mem := (F_X0_forget_2 a 4 0 M)
theorem S_X0_forget {sh : List SC} {M : Mem} {a : Nat}  (hb1 : BallAt sh a)  : Gu m_X0_forget [.ref a] sh M (U_X0_forget a M) := by
  refine Sp.of (ls := [some (.ref a), none]) (by decide +kernel) (Nat.le_of_ble_eq_true rfl) rfl ?_
  refine r_iconst e_X0_forget_0 ic_0 ?_
  refine p_istore_n_2_1 e_X0_forget_1 rfl rfl ?_
  skip
  show WP m_X0_forget _ 2 [some (.ref a), some (.int (nI 0))] [] sh M 0 0
  refine L_X0_forget_2 hb1 4 0  M (by omega) ?_
  refine r_return e_X0_forget_18 rfl ⟨rfl, rfl⟩ ?_
  (refine ⟨?_, rfl, ?_⟩ <;> ((try unfold U_X0_forget); (try simp only []); (try rfl)))
def F_X2_sense_145 (a : Nat) (x1 : Nat) (x2 : Int32) (w4 : Int32) : Nat → Nat → Mem → Mem
  | 0, i145, M => M
  | n + 1, i145, M => (let v14501_0 : Int32 := if (M.1 (a + 10 + 2 * i145) 1) = (M.1 x1 1) then (1 : Int32) else (0 : Int32); let v14502_0 : Int32 := if v14501_0 = 0 then (10 : Int32) else (0 : Int32); let Mc1005 : Mem := U_X10_put (a + 2) (((8 : Int32) + v14502_0) + (M.1 (a + 10 + 2 * i145) 0)) (V_X5_seenX x1 (M.1 (a + 10 + 2 * i145) 2) M) 28 M; let Mc1006 : Mem := U_X10_put (a + 2) ((((8 : Int32) + v14502_0) + (M.1 (a + 10 + 2 * i145) 0)) + (5 : Int32)) (V_X5_seenY x1 (Mc1005.1 (a + 10 + 2 * i145) 3) Mc1005) 28 Mc1005; (F_X2_sense_145 a x1 x2 w4 n (i145 + 1) Mc1006))
theorem L_X2_sense_145 {sh : List SC} {Q : Po} {a : Nat} {x1 : Nat} {x2 : Int32}  {w4 : Int32}  (hb1 : MatchAt sh a) (hb2 : RobotAt sh x1)   : ∀ (n i145 : Nat) (M : Mem), i145 + n = 10 → WP m_X2_sense Q 254 [some (.ref a), some (.ref x1), some (.int x2), some (.ref (a + 2)), some (.int w4), none, none, none] [] sh (F_X2_sense_145 a x1 x2 w4 n i145 M) 0 0 → WP m_X2_sense Q 145 [some (.ref a), some (.ref x1), some (.int x2), some (.ref (a + 2)), some (.int w4), some (.int (nI i145)), none, none] [] sh M 0 0 := by
  have k0 : rf sh (a + 1) 0 = some (a + 2) := hb1.2.2.2.2.2.2.2.2.2.2.2.1.2.1
  have k1 : kd sh (a + 2) = some (0, 28) := hb1.2.2.2.2.2.2.2.2.2.2.2.1.2.2
  have k2 : kd sh a = some (2 + 7, 0) := hb1.1
  have k3 : rf sh a 3 = some (a + 3) := hb1.2.2.2.2.1
  have k4 : kd sh (a + 3) = some (6, 10) := hb1.2.2.2.2.2.2.2.1
  have k5 : kd sh x1 = some (5 + 7, 0) := hb2.1
  intro n
  induction n with
  | zero =>
    intro i145 M hi hq
    have hz : (10 : Int32) ≤ nI i145 := by
      have q : i145 = 10 := by omega
      rw [q]; exact nI_le (Nat.le_refl _) (by decide)
    refine r_iload e_X2_sense_145 rfl ?_
    refine r_aload_n e_X2_sense_147 rfl ?_
    refine r_getR e_X2_sense_148 fl_X2_20 k2 k3 ?_
    refine r_alen (v := (10 : Int32)) e_X2_sense_151 k4 (by decide) rfl ?_
    refine r_icmp_ge e_X2_sense_152 (fun _ => ?_) (fun hh => absurd hz hh)
    refine d_8_5 ?_
    (simp only [F_X2_sense_145] at hq; first | exact hq | (simp only []; exact hq))
  | succ n ih =>
    intro i145 M hi hq
    have hlt_i145 : i145 < 10 := by omega
    have hcl_i145 : (nI i145).toNatClampNeg = i145 := nI_clamp (by omega)
    have hs : ¬ (10 : Int32) ≤ nI i145 := nI_ge (b := 10) hlt_i145 (by decide)
    refine r_iload e_X2_sense_145 rfl ?_
    refine r_aload_n e_X2_sense_147 rfl ?_
    refine r_getR e_X2_sense_148 fl_X2_20 k2 k3 ?_
    refine r_alen (v := (10 : Int32)) e_X2_sense_151 k4 (by decide) rfl ?_
    refine r_icmp_ge e_X2_sense_152 (fun hh => absurd hh hs) (fun _ => ?_)
    refine r_aload_n e_X2_sense_155 rfl ?_
    refine r_getR e_X2_sense_156 fl_X2_20 k2 k3 ?_
    refine r_iload e_X2_sense_159 rfl ?_
    refine r_aaload (b := (a + 10 + 2 * i145)) e_X2_sense_161 k4 ⟨by decide, by decide⟩ (vp_in_nI (Nat.lt_of_lt_of_le hlt_i145 (by decide)) (by decide)) (by rw [hcl_i145]; exact (hb1.2.2.2.2.2.2.2.2.1 i145 (Nat.lt_of_lt_of_le hlt_i145 (by decide))).1) ?_
    refine r_getI e_X2_sense_162 fl_X2_207 i3 (show kd sh (a + 10 + 2 * i145) = some (5 + 7, 0) from (hb1.2.2.2.2.2.2.2.2.1 i145 (Nat.lt_of_lt_of_le hlt_i145 (by decide))).2.1) ?_
    refine r_aload_n e_X2_sense_165 rfl ?_
    refine r_getI e_X2_sense_166 fl_X2_207 i3 k5 ?_
    obtain ⟨v14501_0, e_v14501_0⟩ : ∃ z : Int32, z = (if (M.1 (a + 10 + 2 * i145) 1) = (M.1 x1 1) then (1 : Int32) else (0 : Int32)) := ⟨_, rfl⟩
    have z_v14501_0 : v14501_0 = 0 ∨ v14501_0 = 1 := by rw [e_v14501_0]; exact (zi (Or.inr rfl) (Or.inl rfl))
    suffices j177_14501 : WP m_X2_sense Q 177 [some (.ref a), some (.ref x1), some (.int x2), some (.ref (a + 2)), some (.int w4), some (.int (nI i145)), none, none] [.int v14501_0] sh M 0 0 by
      refine r_icmp_ne e_X2_sense_169 (fun h169_14501 => ?_) (fun h169_14501 => ?_)
      · refine r_iconst e_X2_sense_176 ic_0 ?_
        rw [show v14501_0 = (0 : Int32) from (e_v14501_0.trans (if_neg h169_14501))] at j177_14501; exact j177_14501
      · refine r_iconst e_X2_sense_172 ic_1 ?_
        refine r_goto e_X2_sense_173 ?_
        rw [show v14501_0 = (1 : Int32) from (e_v14501_0.trans (if_pos h169_14501))] at j177_14501; exact j177_14501
    refine p_istore_8_6 e_X2_sense_177 rfl rfl ?_
    refine r_bipush e_X2_sense_179 bp_8 ?_
    refine r_iload e_X2_sense_181 rfl ?_
    obtain ⟨v14502_0, e_v14502_0⟩ : ∃ z : Int32, z = (if v14501_0 = 0 then (10 : Int32) else (0 : Int32)) := ⟨_, rfl⟩
    suffices j192_14502 : WP m_X2_sense Q 192 [some (.ref a), some (.ref x1), some (.int x2), some (.ref (a + 2)), some (.int w4), some (.int (nI i145)), some (.int v14501_0), none] [.int v14502_0, .int (8 : Int32)] sh M 0 0 by
      refine r_if_eq e_X2_sense_183 (fun h183_14502 => ?_) (fun h183_14502 => ?_)
      · refine r_bipush e_X2_sense_190 bp_10 ?_
        rw [show v14502_0 = (10 : Int32) from (e_v14502_0.trans (if_pos h183_14502))] at j192_14502; exact j192_14502
      · refine r_iconst e_X2_sense_186 ic_0 ?_
        refine r_goto e_X2_sense_187 ?_
        rw [show v14502_0 = (0 : Int32) from (e_v14502_0.trans (if_neg h183_14502))] at j192_14502; exact j192_14502
    refine r_iadd e_X2_sense_192 ?_
    refine r_aload_n e_X2_sense_193 rfl ?_
    refine r_getR e_X2_sense_194 fl_X2_20 k2 k3 ?_
    refine r_iload e_X2_sense_197 rfl ?_
    refine r_aaload (b := (a + 10 + 2 * i145)) e_X2_sense_199 k4 ⟨by decide, by decide⟩ (vp_in_nI (Nat.lt_of_lt_of_le hlt_i145 (by decide)) (by decide)) (by rw [hcl_i145]; exact (hb1.2.2.2.2.2.2.2.2.1 i145 (Nat.lt_of_lt_of_le hlt_i145 (by decide))).1) ?_
    refine r_getI e_X2_sense_200 fl_X2_210 i0 (show kd sh (a + 10 + 2 * i145) = some (5 + 7, 0) from (hb1.2.2.2.2.2.2.2.2.1 i145 (Nat.lt_of_lt_of_le hlt_i145 (by decide))).2.1) ?_
    refine r_iadd e_X2_sense_203 ?_
    refine p_istore_8_7 e_X2_sense_204 rfl rfl ?_
    refine r_aload_n e_X2_sense_206 rfl ?_
    refine r_iload e_X2_sense_207 rfl ?_
    refine r_aload_n e_X2_sense_209 rfl ?_
    refine r_aload_n e_X2_sense_210 rfl ?_
    refine r_getR e_X2_sense_211 fl_X2_20 k2 k3 ?_
    refine r_iload e_X2_sense_214 rfl ?_
    refine r_aaload (b := (a + 10 + 2 * i145)) e_X2_sense_216 k4 ⟨by decide, by decide⟩ (vp_in_nI (Nat.lt_of_lt_of_le hlt_i145 (by decide)) (by decide)) (by rw [hcl_i145]; exact (hb1.2.2.2.2.2.2.2.2.1 i145 (Nat.lt_of_lt_of_le hlt_i145 (by decide))).1) ?_
    refine r_getI e_X2_sense_217 fl_X2_130 i0 (show kd sh (a + 10 + 2 * i145) = some (5 + 7, 0) from (hb1.2.2.2.2.2.2.2.2.1 i145 (Nat.lt_of_lt_of_le hlt_i145 (by decide))).2.1) ?_
    refine cV1v e_X2_sense_220 cl_X2_185 ⟨Nat.le_of_ble_eq_true rfl, Nat.le_of_ble_eq_true rfl⟩ ⟨rfl, rfl⟩ k5 (Nat.le_of_ble_eq_true rfl) (S_X5_seenX hb2) ?_
    refine cSN3u e_X2_sense_223 cl_X2_188 ⟨Nat.le_of_ble_eq_true rfl, Nat.le_of_ble_eq_true rfl⟩ ⟨rfl, rfl⟩  (Nat.le_of_ble_eq_true rfl) (S_X10_put k1 (by first | decide | (unfold vp_in; decide) | exact Or.inl rfl | exact Or.inr rfl)) ?_
    obtain ⟨Mc1005, e_Mc1005⟩ : ∃ z : Mem, z = (U_X10_put (a + 2) (((8 : Int32) + v14502_0) + (M.1 (a + 10 + 2 * i145) 0)) (V_X5_seenX x1 (M.1 (a + 10 + 2 * i145) 2) M) 28 M) := ⟨_, rfl⟩
    rw [← e_Mc1005]
    refine r_aload_n e_X2_sense_226 rfl ?_
    refine r_iload e_X2_sense_227 rfl ?_
    refine r_iconst e_X2_sense_229 ic_5 ?_
    refine r_iadd e_X2_sense_230 ?_
    refine r_aload_n e_X2_sense_231 rfl ?_
    refine r_aload_n e_X2_sense_232 rfl ?_
    refine r_getR e_X2_sense_233 fl_X2_20 k2 k3 ?_
    refine r_iload e_X2_sense_236 rfl ?_
    refine r_aaload (b := (a + 10 + 2 * i145)) e_X2_sense_238 k4 ⟨by decide, by decide⟩ (vp_in_nI (Nat.lt_of_lt_of_le hlt_i145 (by decide)) (by decide)) (by rw [hcl_i145]; exact (hb1.2.2.2.2.2.2.2.2.1 i145 (Nat.lt_of_lt_of_le hlt_i145 (by decide))).1) ?_
    refine r_getI e_X2_sense_239 fl_X2_131 i0 (show kd sh (a + 10 + 2 * i145) = some (5 + 7, 0) from (hb1.2.2.2.2.2.2.2.2.1 i145 (Nat.lt_of_lt_of_le hlt_i145 (by decide))).2.1) ?_
    refine cV1v e_X2_sense_242 cl_X2_195 ⟨Nat.le_of_ble_eq_true rfl, Nat.le_of_ble_eq_true rfl⟩ ⟨rfl, rfl⟩ k5 (Nat.le_of_ble_eq_true rfl) (S_X5_seenY hb2) ?_
    refine cSN3u e_X2_sense_245 cl_X2_188 ⟨Nat.le_of_ble_eq_true rfl, Nat.le_of_ble_eq_true rfl⟩ ⟨rfl, rfl⟩  (Nat.le_of_ble_eq_true rfl) (S_X10_put k1 (by first | decide | (unfold vp_in; decide) | exact Or.inl rfl | exact Or.inr rfl)) ?_
    obtain ⟨Mc1006, e_Mc1006⟩ : ∃ z : Mem, z = (U_X10_put (a + 2) ((((8 : Int32) + v14502_0) + (M.1 (a + 10 + 2 * i145) 0)) + (5 : Int32)) (V_X5_seenY x1 (Mc1005.1 (a + 10 + 2 * i145) 3) Mc1005) 28 Mc1005) := ⟨_, rfl⟩
    rw [← e_Mc1006]
    refine p_iinc_8_5 e_X2_sense_248 rfl ic_1 rfl ?_
    rw [nI_1 i145]
    refine r_goto e_X2_sense_251 ?_
    refine d_8_6 ?_
    refine d_8_7 ?_
    (subst e_Mc1006 e_Mc1005 e_v14502_0 e_v14501_0; simp only [F_X2_sense_145] at hq; first | exact ih (i145 + 1) _ (by omega) hq | (simp only []; exact ih (i145 + 1) _ (by omega) hq))
def U_X2_sense (a : Nat) (x1 : Nat) (x2 : Int32) (M : Mem) : Mem := (let Mc1 : Mem := U_X10_put (a + 2) (1 : Int32) (V_X5_seenY x1 ((U_X10_put (a + 2) (0 : Int32) (V_X5_seenX x1 (M.1 x1 10) M) 28 M).1 x1 11) (U_X10_put (a + 2) (0 : Int32) (V_X5_seenX x1 (M.1 x1 10) M) 28 M)) 28 (U_X10_put (a + 2) (0 : Int32) (V_X5_seenX x1 (M.1 x1 10) M) 28 M); let Mc2 : Mem := U_X10_put (a + 2) (3 : Int32) (V_X5_seenY x1 ((U_X10_put (a + 2) (2 : Int32) (V_X5_seenX x1 (Mc1.1 x1 2) Mc1) 28 Mc1).1 x1 3) (U_X10_put (a + 2) (2 : Int32) (V_X5_seenX x1 (Mc1.1 x1 2) Mc1) 28 Mc1)) 28 (U_X10_put (a + 2) (2 : Int32) (V_X5_seenX x1 (Mc1.1 x1 2) Mc1) 28 Mc1); let Mc3 : Mem := U_X10_put (a + 2) (5 : Int32) ((U_X10_put (a + 2) (4 : Int32) (V_X2_holding a x2 Mc2) 28 Mc2).1 a 7) 28 (U_X10_put (a + 2) (4 : Int32) (V_X2_holding a x2 Mc2) 28 Mc2); let v0_0 : Int32 := if (Mc3.1 x1 1) = 0 then ((Mc3.1 (a + 7) 0) - (Mc3.1 (a + 7) 1)) else (-((Mc3.1 (a + 7) 0) - (Mc3.1 (a + 7) 1))); let Mc4 : Mem := U_X10_put (a + 2) (7 : Int32) (V_X10_distance ((U_X10_put (a + 2) (6 : Int32) v0_0 28 Mc3).1 x1 2) ((U_X10_put (a + 2) (6 : Int32) v0_0 28 Mc3).1 x1 3) ((U_X10_put (a + 2) (6 : Int32) v0_0 28 Mc3).1 x1 10) ((U_X10_put (a + 2) (6 : Int32) v0_0 28 Mc3).1 x1 11) (U_X10_put (a + 2) (6 : Int32) v0_0 28 Mc3)) 28 (U_X10_put (a + 2) (6 : Int32) v0_0 28 Mc3); (F_X2_sense_145 a x1 x2 ((Mc3.1 (a + 7) 0) - (Mc3.1 (a + 7) 1)) 10 0 Mc4))
theorem S_X2_sense {sh : List SC} {M : Mem} {a : Nat} {x1 : Nat} {x2 : Int32}  (hb1 : MatchAt sh a) (hb2 : RobotAt sh x1)  : Gu m_X2_sense [.ref a, .ref x1, .int x2] sh M (U_X2_sense a x1 x2 M) := by
  refine Sp.of (ls := [some (.ref a), some (.ref x1), some (.int x2), none, none, none, none, none]) (by decide +kernel) (Nat.le_of_ble_eq_true rfl) rfl ?_
  have k0 : kd sh a = some (2 + 7, 0) := hb1.1
  have k1 : rf sh a 2 = some (a + 1) := hb1.2.2.2.1
  have k2 : kd sh (a + 1) = some (6 + 7, 0) := hb1.2.2.2.2.2.2.2.2.2.2.2.1.1
  have k3 : rf sh (a + 1) 0 = some (a + 2) := hb1.2.2.2.2.2.2.2.2.2.2.2.1.2.1
  have k4 : kd sh (a + 2) = some (0, 28) := hb1.2.2.2.2.2.2.2.2.2.2.2.1.2.2
  have k5 : kd sh x1 = some (5 + 7, 0) := hb2.1
  have k6 : rf sh a 5 = some (a + 7) := hb1.2.2.2.2.2.2.1
  have k7 : kd sh (a + 7) = some (7 + 7, 0) := hb1.2.2.2.2.2.2.2.2.2.2.1.1
  refine r_aload_n e_X2_sense_0 rfl ?_
  refine r_getR e_X2_sense_1 fl_X2_12 k0 k1 ?_
  refine r_getR e_X2_sense_4 fl_X2_178 k2 k3 ?_
  refine p_astore_n_8_3 e_X2_sense_7 rfl rfl ?_
  refine r_aload_n e_X2_sense_8 rfl ?_
  refine r_iconst e_X2_sense_9 ic_0 ?_
  refine r_aload_n e_X2_sense_10 rfl ?_
  refine r_aload_n e_X2_sense_11 rfl ?_
  refine r_getI e_X2_sense_12 fl_X2_182 i0 k5 ?_
  refine cV1v e_X2_sense_15 cl_X2_185 ⟨Nat.le_of_ble_eq_true rfl, Nat.le_of_ble_eq_true rfl⟩ ⟨rfl, rfl⟩ k5 (Nat.le_of_ble_eq_true rfl) (S_X5_seenX hb2) ?_
  refine cSN3u e_X2_sense_18 cl_X2_188 ⟨Nat.le_of_ble_eq_true rfl, Nat.le_of_ble_eq_true rfl⟩ ⟨rfl, rfl⟩  (Nat.le_of_ble_eq_true rfl) (S_X10_put k4 (by first | decide | (unfold vp_in; decide) | exact Or.inl rfl | exact Or.inr rfl)) ?_
  refine r_aload_n e_X2_sense_21 rfl ?_
  refine r_iconst e_X2_sense_22 ic_1 ?_
  refine r_aload_n e_X2_sense_23 rfl ?_
  refine r_aload_n e_X2_sense_24 rfl ?_
  refine r_getI e_X2_sense_25 fl_X2_192 i0 k5 ?_
  refine cV1v e_X2_sense_28 cl_X2_195 ⟨Nat.le_of_ble_eq_true rfl, Nat.le_of_ble_eq_true rfl⟩ ⟨rfl, rfl⟩ k5 (Nat.le_of_ble_eq_true rfl) (S_X5_seenY hb2) ?_
  refine cSN3u e_X2_sense_31 cl_X2_188 ⟨Nat.le_of_ble_eq_true rfl, Nat.le_of_ble_eq_true rfl⟩ ⟨rfl, rfl⟩  (Nat.le_of_ble_eq_true rfl) (S_X10_put k4 (by first | decide | (unfold vp_in; decide) | exact Or.inl rfl | exact Or.inr rfl)) ?_
  obtain ⟨Mc1, e_Mc1⟩ : ∃ z : Mem, z = (U_X10_put (a + 2) (1 : Int32) (V_X5_seenY x1 ((U_X10_put (a + 2) (0 : Int32) (V_X5_seenX x1 (M.1 x1 10) M) 28 M).1 x1 11) (U_X10_put (a + 2) (0 : Int32) (V_X5_seenX x1 (M.1 x1 10) M) 28 M)) 28 (U_X10_put (a + 2) (0 : Int32) (V_X5_seenX x1 (M.1 x1 10) M) 28 M)) := ⟨_, rfl⟩
  rw [← e_Mc1]
  refine r_aload_n e_X2_sense_34 rfl ?_
  refine r_iconst e_X2_sense_35 ic_2 ?_
  refine r_aload_n e_X2_sense_36 rfl ?_
  refine r_aload_n e_X2_sense_37 rfl ?_
  refine r_getI e_X2_sense_38 fl_X2_130 i0 k5 ?_
  refine cV1v e_X2_sense_41 cl_X2_185 ⟨Nat.le_of_ble_eq_true rfl, Nat.le_of_ble_eq_true rfl⟩ ⟨rfl, rfl⟩ k5 (Nat.le_of_ble_eq_true rfl) (S_X5_seenX hb2) ?_
  refine cSN3u e_X2_sense_44 cl_X2_188 ⟨Nat.le_of_ble_eq_true rfl, Nat.le_of_ble_eq_true rfl⟩ ⟨rfl, rfl⟩  (Nat.le_of_ble_eq_true rfl) (S_X10_put k4 (by first | decide | (unfold vp_in; decide) | exact Or.inl rfl | exact Or.inr rfl)) ?_
  refine r_aload_n e_X2_sense_47 rfl ?_
  refine r_iconst e_X2_sense_48 ic_3 ?_
  refine r_aload_n e_X2_sense_49 rfl ?_
  refine r_aload_n e_X2_sense_50 rfl ?_
  refine r_getI e_X2_sense_51 fl_X2_131 i0 k5 ?_
  refine cV1v e_X2_sense_54 cl_X2_195 ⟨Nat.le_of_ble_eq_true rfl, Nat.le_of_ble_eq_true rfl⟩ ⟨rfl, rfl⟩ k5 (Nat.le_of_ble_eq_true rfl) (S_X5_seenY hb2) ?_
  refine cSN3u e_X2_sense_57 cl_X2_188 ⟨Nat.le_of_ble_eq_true rfl, Nat.le_of_ble_eq_true rfl⟩ ⟨rfl, rfl⟩  (Nat.le_of_ble_eq_true rfl) (S_X10_put k4 (by first | decide | (unfold vp_in; decide) | exact Or.inl rfl | exact Or.inr rfl)) ?_
  obtain ⟨Mc2, e_Mc2⟩ : ∃ z : Mem, z = (U_X10_put (a + 2) (3 : Int32) (V_X5_seenY x1 ((U_X10_put (a + 2) (2 : Int32) (V_X5_seenX x1 (Mc1.1 x1 2) Mc1) 28 Mc1).1 x1 3) (U_X10_put (a + 2) (2 : Int32) (V_X5_seenX x1 (Mc1.1 x1 2) Mc1) 28 Mc1)) 28 (U_X10_put (a + 2) (2 : Int32) (V_X5_seenX x1 (Mc1.1 x1 2) Mc1) 28 Mc1)) := ⟨_, rfl⟩
  rw [← e_Mc2]
  refine r_aload_n e_X2_sense_60 rfl ?_
  refine r_iconst e_X2_sense_61 ic_4 ?_
  refine r_aload_n e_X2_sense_62 rfl ?_
  refine r_iload_n e_X2_sense_63 rfl ?_
  refine cV1v e_X2_sense_64 cl_X2_198 ⟨Nat.le_of_ble_eq_true rfl, Nat.le_of_ble_eq_true rfl⟩ ⟨rfl, rfl⟩ k0 (Nat.le_of_ble_eq_true rfl) (S_X2_holding hb1) ?_
  refine cSN3u e_X2_sense_67 cl_X2_188 ⟨Nat.le_of_ble_eq_true rfl, Nat.le_of_ble_eq_true rfl⟩ ⟨rfl, rfl⟩  (Nat.le_of_ble_eq_true rfl) (S_X10_put k4 (by first | decide | (unfold vp_in; decide) | exact Or.inl rfl | exact Or.inr rfl)) ?_
  refine r_aload_n e_X2_sense_70 rfl ?_
  refine r_iconst e_X2_sense_71 ic_5 ?_
  refine r_aload_n e_X2_sense_72 rfl ?_
  refine r_getI e_X2_sense_73 fl_X2_42 i0 k0 ?_
  refine cSN3u e_X2_sense_76 cl_X2_188 ⟨Nat.le_of_ble_eq_true rfl, Nat.le_of_ble_eq_true rfl⟩ ⟨rfl, rfl⟩  (Nat.le_of_ble_eq_true rfl) (S_X10_put k4 (by first | decide | (unfold vp_in; decide) | exact Or.inl rfl | exact Or.inr rfl)) ?_
  obtain ⟨Mc3, e_Mc3⟩ : ∃ z : Mem, z = (U_X10_put (a + 2) (5 : Int32) ((U_X10_put (a + 2) (4 : Int32) (V_X2_holding a x2 Mc2) 28 Mc2).1 a 7) 28 (U_X10_put (a + 2) (4 : Int32) (V_X2_holding a x2 Mc2) 28 Mc2)) := ⟨_, rfl⟩
  rw [← e_Mc3]
  refine r_aload_n e_X2_sense_79 rfl ?_
  refine r_getR e_X2_sense_80 fl_X2_34 k0 k6 ?_
  refine r_getI e_X2_sense_83 fl_X2_201 i0 k7 ?_
  refine r_aload_n e_X2_sense_86 rfl ?_
  refine r_getR e_X2_sense_87 fl_X2_34 k0 k6 ?_
  refine r_getI e_X2_sense_90 fl_X2_204 i0 k7 ?_
  refine r_isub e_X2_sense_93 ?_
  refine p_istore_8_4 e_X2_sense_94 rfl rfl ?_
  refine r_aload_n e_X2_sense_96 rfl ?_
  refine r_bipush e_X2_sense_97 bp_6 ?_
  refine r_aload_n e_X2_sense_99 rfl ?_
  refine r_getI e_X2_sense_100 fl_X2_207 i3 k5 ?_
  obtain ⟨v0_0, e_v0_0⟩ : ∃ z : Int32, z = (if (Mc3.1 x1 1) = 0 then ((Mc3.1 (a + 7) 0) - (Mc3.1 (a + 7) 1)) else (-((Mc3.1 (a + 7) 0) - (Mc3.1 (a + 7) 1)))) := ⟨_, rfl⟩
  suffices j114_0 : WP m_X2_sense (fun r sh' M'' => r = none ∧ sh' = sh ∧ M'' = (U_X2_sense a x1 x2 M)) 114 [some (.ref a), some (.ref x1), some (.int x2), some (.ref (a + 2)), some (.int ((Mc3.1 (a + 7) 0) - (Mc3.1 (a + 7) 1))), none, none, none] [.int v0_0, .int (6 : Int32), .ref (a + 2)] sh Mc3 0 0 by
    refine r_if_eq e_X2_sense_103 (fun h103_0 => ?_) (fun h103_0 => ?_)
    · refine r_iload e_X2_sense_112 rfl ?_
      rw [show v0_0 = ((Mc3.1 (a + 7) 0) - (Mc3.1 (a + 7) 1)) from (e_v0_0.trans (if_pos h103_0))] at j114_0; exact j114_0
    · refine r_iload e_X2_sense_106 rfl ?_
      refine r_ineg e_X2_sense_108 ?_
      refine r_goto e_X2_sense_109 ?_
      rw [show v0_0 = (-((Mc3.1 (a + 7) 0) - (Mc3.1 (a + 7) 1))) from (e_v0_0.trans (if_neg h103_0))] at j114_0; exact j114_0
  refine cSN3u e_X2_sense_114 cl_X2_188 ⟨Nat.le_of_ble_eq_true rfl, Nat.le_of_ble_eq_true rfl⟩ ⟨rfl, rfl⟩  (Nat.le_of_ble_eq_true rfl) (S_X10_put k4 (by first | decide | (unfold vp_in; decide) | exact Or.inl rfl | exact Or.inr rfl)) ?_
  refine r_aload_n e_X2_sense_117 rfl ?_
  refine r_bipush e_X2_sense_118 bp_7 ?_
  refine r_aload_n e_X2_sense_120 rfl ?_
  refine r_getI e_X2_sense_121 fl_X2_130 i0 k5 ?_
  refine r_aload_n e_X2_sense_124 rfl ?_
  refine r_getI e_X2_sense_125 fl_X2_131 i0 k5 ?_
  refine r_aload_n e_X2_sense_128 rfl ?_
  refine r_getI e_X2_sense_129 fl_X2_182 i0 k5 ?_
  refine r_aload_n e_X2_sense_132 rfl ?_
  refine r_getI e_X2_sense_133 fl_X2_192 i0 k5 ?_
  refine cSN4v e_X2_sense_136 cl_X2_144 ⟨Nat.le_of_ble_eq_true rfl, Nat.le_of_ble_eq_true rfl⟩ ⟨rfl, rfl⟩  (Nat.le_of_ble_eq_true rfl) (S_X10_distance ) ?_
  refine cSN3u e_X2_sense_139 cl_X2_188 ⟨Nat.le_of_ble_eq_true rfl, Nat.le_of_ble_eq_true rfl⟩ ⟨rfl, rfl⟩  (Nat.le_of_ble_eq_true rfl) (S_X10_put k4 (by first | decide | (unfold vp_in; decide) | exact Or.inl rfl | exact Or.inr rfl)) ?_
  obtain ⟨Mc4, e_Mc4⟩ : ∃ z : Mem, z = (U_X10_put (a + 2) (7 : Int32) (V_X10_distance ((U_X10_put (a + 2) (6 : Int32) v0_0 28 Mc3).1 x1 2) ((U_X10_put (a + 2) (6 : Int32) v0_0 28 Mc3).1 x1 3) ((U_X10_put (a + 2) (6 : Int32) v0_0 28 Mc3).1 x1 10) ((U_X10_put (a + 2) (6 : Int32) v0_0 28 Mc3).1 x1 11) (U_X10_put (a + 2) (6 : Int32) v0_0 28 Mc3)) 28 (U_X10_put (a + 2) (6 : Int32) v0_0 28 Mc3)) := ⟨_, rfl⟩
  rw [← e_Mc4]
  refine r_iconst e_X2_sense_142 ic_0 ?_
  refine p_istore_8_5 e_X2_sense_143 rfl rfl ?_
  skip
  show WP m_X2_sense _ 145 [some (.ref a), some (.ref x1), some (.int x2), some (.ref (a + 2)), some (.int ((Mc3.1 (a + 7) 0) - (Mc3.1 (a + 7) 1))), some (.int (nI 0)), none, none] [] sh Mc4 0 0
  refine L_X2_sense_145 hb1 hb2 10 0  Mc4 (by omega) ?_
  refine r_return e_X2_sense_254 rfl ⟨rfl, rfl⟩ ?_
  (subst e_Mc4 e_v0_0 e_Mc3 e_Mc2 e_Mc1; refine ⟨?_, rfl, ?_⟩ <;> ((try unfold U_X2_sense); (try simp only []); (try rfl)))
def U_X2_move (a : Nat) (x1 : Nat) (x2 : Int32) (M : Mem) : Mem := if ((M.1 x1 2) + (M.1 x1 15)) < 0 then M else (if (15 : Int32) ≤ ((M.1 x1 2) + (M.1 x1 15)) then M else (if ((M.1 x1 3) + (M.1 x1 16)) < 0 then M else (if ((M.1 x1 3) + (M.1 x1 16)) < (9 : Int32) then (if (V_X2_robotIn a ((M.1 x1 2) + (M.1 x1 15)) ((M.1 x1 3) + (M.1 x1 16)) M) < 0 then (let M5_0 : Mem := if (M.1 (a + 4) 2) = x2 then (U_X0_go (a + 4) ((M.1 x1 2) + (M.1 x1 15)) ((M.1 x1 3) + (M.1 x1 16)) (setI (setI M x1 2 ((M.1 x1 2) + (M.1 x1 15))) x1 3 ((M.1 x1 3) + (M.1 x1 16)))) else (if 0 ≤ (M.1 (a + 4) 2) then (setI (setI M x1 2 ((M.1 x1 2) + (M.1 x1 15))) x1 3 ((M.1 x1 3) + (M.1 x1 16))) else (if (M.1 (a + 4) 0) = ((M.1 x1 2) + (M.1 x1 15)) then (if (M.1 (a + 4) 1) = ((M.1 x1 3) + (M.1 x1 16)) then (U_X0_hold (a + 4) x2 ((M.1 x1 2) + (M.1 x1 15)) ((M.1 x1 3) + (M.1 x1 16)) (M.1 a 7) (setI (setI M x1 2 ((M.1 x1 2) + (M.1 x1 15))) x1 3 ((M.1 x1 3) + (M.1 x1 16)))) else (setI (setI M x1 2 ((M.1 x1 2) + (M.1 x1 15))) x1 3 ((M.1 x1 3) + (M.1 x1 16)))) else (setI (setI M x1 2 ((M.1 x1 2) + (M.1 x1 15))) x1 3 ((M.1 x1 3) + (M.1 x1 16))))); M5_0) else (let v9_0 : Int32 := if (V_X2_robotIn a ((M.1 x1 2) + (M.1 x1 15)) ((M.1 x1 3) + (M.1 x1 16)) M) = (M.1 (a + 4) 2) then (if ((V_X2_robotIn a ((M.1 x1 2) + (M.1 x1 15)) ((M.1 x1 3) + (M.1 x1 16)) M) / (5 : Int32)) = (x2 / (5 : Int32)) then (0 : Int32) else (1 : Int32)) else (0 : Int32); let M11_0 : Mem := if v9_0 = 0 then M else (if ((M.1 a 7) - (M.1 (a + 4) 3)) < (2 : Int32) then M else (setI (U_X0_hold (a + 4) x2 (M.1 x1 2) (M.1 x1 3) (M.1 a 7) M) (a + 7) 2 (((U_X0_hold (a + 4) x2 (M.1 x1 2) (M.1 x1 3) (M.1 a 7) M).1 (a + 7) 2) + (1 : Int32)))); M11_0)) else M)))
theorem S_X2_move {sh : List SC} {M : Mem} {a : Nat} {x1 : Nat} {x2 : Int32}  (hb1 : MatchAt sh a) (hb2 : RobotAt sh x1)  : Gu m_X2_move [.ref a, .ref x1, .int x2] sh M (U_X2_move a x1 x2 M) := by
  refine Sp.of (ls := [some (.ref a), some (.ref x1), some (.int x2), none, none, none, none]) (by decide +kernel) (Nat.le_of_ble_eq_true rfl) rfl ?_
  have k0 : kd sh x1 = some (5 + 7, 0) := hb2.1
  have k1 : kd sh a = some (2 + 7, 0) := hb1.1
  have k2 : rf sh a 4 = some (a + 4) := hb1.2.2.2.2.2.1
  have k3 : kd sh (a + 4) = some (0 + 7, 0) := hb1.2.2.2.2.2.2.2.2.2.1.1
  have k4 : rf sh a 5 = some (a + 7) := hb1.2.2.2.2.2.2.1
  have k5 : kd sh (a + 7) = some (7 + 7, 0) := hb1.2.2.2.2.2.2.2.2.2.2.1.1
  refine r_aload_n e_X2_move_0 rfl ?_
  refine r_getI e_X2_move_1 fl_X2_130 i0 k0 ?_
  refine r_aload_n e_X2_move_4 rfl ?_
  refine r_getI e_X2_move_5 fl_X2_213 i0 k0 ?_
  refine r_iadd e_X2_move_8 ?_
  refine p_istore_n_7_3 e_X2_move_9 rfl rfl ?_
  refine r_aload_n e_X2_move_10 rfl ?_
  refine r_getI e_X2_move_11 fl_X2_131 i0 k0 ?_
  refine r_aload_n e_X2_move_14 rfl ?_
  refine r_getI e_X2_move_15 fl_X2_216 i0 k0 ?_
  refine r_iadd e_X2_move_18 ?_
  refine p_istore_7_4 e_X2_move_19 rfl rfl ?_
  refine r_iload_n e_X2_move_21 rfl ?_
  refine r_if_lt e_X2_move_22 (fun h22_0 => ?_) (fun h22_0 => ?_)
  · refine r_return e_X2_move_43 rfl ⟨rfl, rfl⟩ ?_
    (refine ⟨?_, rfl, ?_⟩ <;> ((try unfold U_X2_move); (try simp only [if_pos h22_0]); (try rfl)))
  · refine r_iload_n e_X2_move_25 rfl ?_
    refine r_bipush e_X2_move_26 bp_15 ?_
    refine r_icmp_ge e_X2_move_28 (fun h28_1 => ?_) (fun h28_1 => ?_)
    · refine r_return e_X2_move_43 rfl ⟨rfl, rfl⟩ ?_
      (refine ⟨?_, rfl, ?_⟩ <;> ((try unfold U_X2_move); (try simp only [if_neg h22_0, if_pos h28_1]); (try rfl)))
    · refine r_iload e_X2_move_31 rfl ?_
      refine r_if_lt e_X2_move_33 (fun h33_2 => ?_) (fun h33_2 => ?_)
      · refine r_return e_X2_move_43 rfl ⟨rfl, rfl⟩ ?_
        (refine ⟨?_, rfl, ?_⟩ <;> ((try unfold U_X2_move); (try simp only [if_neg h22_0, if_neg h28_1, if_pos h33_2]); (try rfl)))
      · refine r_iload e_X2_move_36 rfl ?_
        refine r_bipush e_X2_move_38 bp_9 ?_
        refine r_icmp_lt e_X2_move_40 (fun h40_3 => ?_) (fun h40_3 => ?_)
        · refine r_aload_n e_X2_move_44 rfl ?_
          refine r_iload_n e_X2_move_45 rfl ?_
          refine r_iload e_X2_move_46 rfl ?_
          refine cV2v e_X2_move_48 cl_X2_141 ⟨Nat.le_of_ble_eq_true rfl, Nat.le_of_ble_eq_true rfl⟩ ⟨rfl, rfl⟩ k1 (Nat.le_of_ble_eq_true rfl) (S_X2_robotIn hb1) ?_
          refine p_istore_7_5 e_X2_move_51 rfl rfl ?_
          refine r_iload e_X2_move_53 rfl ?_
          refine r_if_lt e_X2_move_55 (fun h55_4 => ?_) (fun h55_4 => ?_)
          · refine r_aload_n e_X2_move_142 rfl ?_
            refine r_iload_n e_X2_move_143 rfl ?_
            refine r_putI e_X2_move_144 fl_X2_130 k0 ?_
            refine r_aload_n e_X2_move_147 rfl ?_
            refine r_iload e_X2_move_148 rfl ?_
            refine r_putI e_X2_move_150 fl_X2_131 k0 ?_
            refine r_aload_n e_X2_move_153 rfl ?_
            refine r_getR e_X2_move_154 fl_X2_27 k1 k2 ?_
            refine r_getIe e_X2_move_157 fl_X2_132 i0 k3 ((gs_nI (by decide)).trans (gs_aI (ne_kd k3 k0 (by decide)))) ?_
            refine r_iload_n e_X2_move_160 rfl ?_
            obtain ⟨M5_0, e_M5_0⟩ : ∃ z : Mem, z = (if (M.1 (a + 4) 2) = x2 then (U_X0_go (a + 4) ((M.1 x1 2) + (M.1 x1 15)) ((M.1 x1 3) + (M.1 x1 16)) (setI (setI M x1 2 ((M.1 x1 2) + (M.1 x1 15))) x1 3 ((M.1 x1 3) + (M.1 x1 16)))) else (if 0 ≤ (M.1 (a + 4) 2) then (setI (setI M x1 2 ((M.1 x1 2) + (M.1 x1 15))) x1 3 ((M.1 x1 3) + (M.1 x1 16))) else (if (M.1 (a + 4) 0) = ((M.1 x1 2) + (M.1 x1 15)) then (if (M.1 (a + 4) 1) = ((M.1 x1 3) + (M.1 x1 16)) then (U_X0_hold (a + 4) x2 ((M.1 x1 2) + (M.1 x1 15)) ((M.1 x1 3) + (M.1 x1 16)) (M.1 a 7) (setI (setI M x1 2 ((M.1 x1 2) + (M.1 x1 15))) x1 3 ((M.1 x1 3) + (M.1 x1 16)))) else (setI (setI M x1 2 ((M.1 x1 2) + (M.1 x1 15))) x1 3 ((M.1 x1 3) + (M.1 x1 16)))) else (setI (setI M x1 2 ((M.1 x1 2) + (M.1 x1 15))) x1 3 ((M.1 x1 3) + (M.1 x1 16)))))) := ⟨_, rfl⟩
            suffices j225_5 : WP m_X2_move (fun r sh' M'' => r = none ∧ sh' = sh ∧ M'' = (U_X2_move a x1 x2 M)) 225 [some (.ref a), some (.ref x1), some (.int x2), some (.int ((M.1 x1 2) + (M.1 x1 15))), some (.int ((M.1 x1 3) + (M.1 x1 16))), some (.int (V_X2_robotIn a ((M.1 x1 2) + (M.1 x1 15)) ((M.1 x1 3) + (M.1 x1 16)) M)), none] [] sh M5_0 0 0 by
              refine r_icmp_ne e_X2_move_161 (fun h161_5 => ?_) (fun h161_5 => ?_)
              · refine r_aload_n e_X2_move_177 rfl ?_
                refine r_getR e_X2_move_178 fl_X2_27 k1 k2 ?_
                refine r_getIe e_X2_move_181 fl_X2_132 i0 k3 ((gs_nI (by decide)).trans (gs_aI (ne_kd k3 k0 (by decide)))) ?_
                refine r_if_ge e_X2_move_184 (fun h184_6 => ?_) (fun h184_6 => ?_)
                · rw [show M5_0 = setI (setI M x1 2 ((M.1 x1 2) + (M.1 x1 15))) x1 3 ((M.1 x1 3) + (M.1 x1 16)) from ((e_M5_0.trans (if_neg h161_5)).trans (if_pos h184_6))] at j225_5; exact j225_5
                · refine r_aload_n e_X2_move_187 rfl ?_
                  refine r_getR e_X2_move_188 fl_X2_27 k1 k2 ?_
                  refine r_getIe e_X2_move_191 fl_X2_110 i0 k3 ((gs_nI (by decide)).trans (gs_nI (by decide))) ?_
                  refine r_iload_n e_X2_move_194 rfl ?_
                  refine r_icmp_ne e_X2_move_195 (fun h195_7 => ?_) (fun h195_7 => ?_)
                  · rw [show M5_0 = setI (setI M x1 2 ((M.1 x1 2) + (M.1 x1 15))) x1 3 ((M.1 x1 3) + (M.1 x1 16)) from (((e_M5_0.trans (if_neg h161_5)).trans (if_neg h184_6)).trans (if_neg h195_7))] at j225_5; exact j225_5
                  · refine r_aload_n e_X2_move_198 rfl ?_
                    refine r_getR e_X2_move_199 fl_X2_27 k1 k2 ?_
                    refine r_getIe e_X2_move_202 fl_X2_113 i0 k3 ((gs_nI (by decide)).trans (gs_nI (by decide))) ?_
                    refine r_iload e_X2_move_205 rfl ?_
                    refine r_icmp_ne e_X2_move_207 (fun h207_8 => ?_) (fun h207_8 => ?_)
                    · rw [show M5_0 = setI (setI M x1 2 ((M.1 x1 2) + (M.1 x1 15))) x1 3 ((M.1 x1 3) + (M.1 x1 16)) from ((((e_M5_0.trans (if_neg h161_5)).trans (if_neg h184_6)).trans (if_pos h195_7)).trans (if_neg h207_8))] at j225_5; exact j225_5
                    · refine r_aload_n e_X2_move_210 rfl ?_
                      refine r_getR e_X2_move_211 fl_X2_27 k1 k2 ?_
                      refine r_iload_n e_X2_move_214 rfl ?_
                      refine r_iload_n e_X2_move_215 rfl ?_
                      refine r_iload e_X2_move_216 rfl ?_
                      refine r_aload_n e_X2_move_218 rfl ?_
                      refine r_getIe e_X2_move_219 fl_X2_42 i0 k1 ((gs_nI (by decide)).trans (gs_nI (by decide))) ?_
                      refine cV4u e_X2_move_222 cl_X2_235 ⟨Nat.le_of_ble_eq_true rfl, Nat.le_of_ble_eq_true rfl⟩ ⟨rfl, rfl⟩ k3 (Nat.le_of_ble_eq_true rfl) (S_X0_hold hb1.2.2.2.2.2.2.2.2.2.1) ?_
                      rw [show M5_0 = U_X0_hold (a + 4) x2 ((M.1 x1 2) + (M.1 x1 15)) ((M.1 x1 3) + (M.1 x1 16)) (M.1 a 7) (setI (setI M x1 2 ((M.1 x1 2) + (M.1 x1 15))) x1 3 ((M.1 x1 3) + (M.1 x1 16))) from ((((e_M5_0.trans (if_neg h161_5)).trans (if_neg h184_6)).trans (if_pos h195_7)).trans (if_pos h207_8))] at j225_5; exact j225_5
              · refine r_aload_n e_X2_move_164 rfl ?_
                refine r_getR e_X2_move_165 fl_X2_27 k1 k2 ?_
                refine r_iload_n e_X2_move_168 rfl ?_
                refine r_iload e_X2_move_169 rfl ?_
                refine cV2u e_X2_move_171 cl_X2_135 ⟨Nat.le_of_ble_eq_true rfl, Nat.le_of_ble_eq_true rfl⟩ ⟨rfl, rfl⟩ k3 (Nat.le_of_ble_eq_true rfl) (S_X0_go hb1.2.2.2.2.2.2.2.2.2.1) ?_
                refine r_goto e_X2_move_174 ?_
                rw [show M5_0 = U_X0_go (a + 4) ((M.1 x1 2) + (M.1 x1 15)) ((M.1 x1 3) + (M.1 x1 16)) (setI (setI M x1 2 ((M.1 x1 2) + (M.1 x1 15))) x1 3 ((M.1 x1 3) + (M.1 x1 16))) from (e_M5_0.trans (if_pos h161_5))] at j225_5; exact j225_5
            refine r_return e_X2_move_225 rfl ⟨rfl, rfl⟩ ?_
            (subst e_M5_0; refine ⟨?_, rfl, ?_⟩ <;> ((try unfold U_X2_move); (try simp only [if_neg h22_0, if_neg h28_1, if_neg h33_2, if_pos h40_3, if_pos h55_4]); (try rfl)))
          · refine r_iload e_X2_move_58 rfl ?_
            refine r_aload_n e_X2_move_60 rfl ?_
            refine r_getR e_X2_move_61 fl_X2_27 k1 k2 ?_
            refine r_getI e_X2_move_64 fl_X2_132 i0 k3 ?_
            obtain ⟨v9_0, e_v9_0⟩ : ∃ z : Int32, z = (if (V_X2_robotIn a ((M.1 x1 2) + (M.1 x1 15)) ((M.1 x1 3) + (M.1 x1 16)) M) = (M.1 (a + 4) 2) then (if ((V_X2_robotIn a ((M.1 x1 2) + (M.1 x1 15)) ((M.1 x1 3) + (M.1 x1 16)) M) / (5 : Int32)) = (x2 / (5 : Int32)) then (0 : Int32) else (1 : Int32)) else (0 : Int32)) := ⟨_, rfl⟩
            have z_v9_0 : v9_0 = 0 ∨ v9_0 = 1 := by rw [e_v9_0]; exact (zi (zi (Or.inl rfl) (Or.inr rfl)) (Or.inl rfl))
            suffices j85_9 : WP m_X2_move (fun r sh' M'' => r = none ∧ sh' = sh ∧ M'' = (U_X2_move a x1 x2 M)) 85 [some (.ref a), some (.ref x1), some (.int x2), some (.int ((M.1 x1 2) + (M.1 x1 15))), some (.int ((M.1 x1 3) + (M.1 x1 16))), some (.int (V_X2_robotIn a ((M.1 x1 2) + (M.1 x1 15)) ((M.1 x1 3) + (M.1 x1 16)) M)), none] [.int v9_0] sh M 0 0 by
              refine r_icmp_ne e_X2_move_67 (fun h67_9 => ?_) (fun h67_9 => ?_)
              · refine r_iconst e_X2_move_84 ic_0 ?_
                rw [show v9_0 = (0 : Int32) from (e_v9_0.trans (if_neg h67_9))] at j85_9; exact j85_9
              · refine r_iload e_X2_move_70 rfl ?_
                refine r_iconst e_X2_move_72 ic_5 ?_
                refine r_idiv e_X2_move_73 (by decide) ?_
                refine r_iload_n e_X2_move_74 rfl ?_
                refine r_iconst e_X2_move_75 ic_5 ?_
                refine r_idiv e_X2_move_76 (by decide) ?_
                refine r_icmp_eq e_X2_move_77 (fun h77_10 => ?_) (fun h77_10 => ?_)
                · refine r_iconst e_X2_move_84 ic_0 ?_
                  rw [show v9_0 = (0 : Int32) from ((e_v9_0.trans (if_pos h67_9)).trans (if_pos h77_10))] at j85_9; exact j85_9
                · refine r_iconst e_X2_move_80 ic_1 ?_
                  refine r_goto e_X2_move_81 ?_
                  rw [show v9_0 = (1 : Int32) from ((e_v9_0.trans (if_pos h67_9)).trans (if_neg h77_10))] at j85_9; exact j85_9
            refine p_istore_7_6 e_X2_move_85 rfl rfl ?_
            refine r_iload e_X2_move_87 rfl ?_
            obtain ⟨M11_0, e_M11_0⟩ : ∃ z : Mem, z = (if v9_0 = 0 then M else (if ((M.1 a 7) - (M.1 (a + 4) 3)) < (2 : Int32) then M else (setI (U_X0_hold (a + 4) x2 (M.1 x1 2) (M.1 x1 3) (M.1 a 7) M) (a + 7) 2 (((U_X0_hold (a + 4) x2 (M.1 x1 2) (M.1 x1 3) (M.1 a 7) M).1 (a + 7) 2) + (1 : Int32))))) := ⟨_, rfl⟩
            suffices j141_11 : WP m_X2_move (fun r sh' M'' => r = none ∧ sh' = sh ∧ M'' = (U_X2_move a x1 x2 M)) 141 [some (.ref a), some (.ref x1), some (.int x2), some (.int ((M.1 x1 2) + (M.1 x1 15))), some (.int ((M.1 x1 3) + (M.1 x1 16))), some (.int (V_X2_robotIn a ((M.1 x1 2) + (M.1 x1 15)) ((M.1 x1 3) + (M.1 x1 16)) M)), some (.int v9_0)] [] sh M11_0 0 0 by
              refine r_if_eq e_X2_move_89 (fun h89_11 => ?_) (fun h89_11 => ?_)
              · rw [show M11_0 = M from (e_M11_0.trans (if_pos h89_11))] at j141_11; exact j141_11
              · refine r_aload_n e_X2_move_92 rfl ?_
                refine r_getI e_X2_move_93 fl_X2_42 i0 k1 ?_
                refine r_aload_n e_X2_move_96 rfl ?_
                refine r_getR e_X2_move_97 fl_X2_27 k1 k2 ?_
                refine r_getI e_X2_move_100 fl_X2_232 i0 k3 ?_
                refine r_isub e_X2_move_103 ?_
                refine r_iconst e_X2_move_104 ic_2 ?_
                refine r_icmp_lt e_X2_move_105 (fun h105_12 => ?_) (fun h105_12 => ?_)
                · rw [show M11_0 = M from ((e_M11_0.trans (if_neg h89_11)).trans (if_pos h105_12))] at j141_11; exact j141_11
                · refine r_aload_n e_X2_move_108 rfl ?_
                  refine r_getR e_X2_move_109 fl_X2_27 k1 k2 ?_
                  refine r_iload_n e_X2_move_112 rfl ?_
                  refine r_aload_n e_X2_move_113 rfl ?_
                  refine r_getI e_X2_move_114 fl_X2_130 i0 k0 ?_
                  refine r_aload_n e_X2_move_117 rfl ?_
                  refine r_getI e_X2_move_118 fl_X2_131 i0 k0 ?_
                  refine r_aload_n e_X2_move_121 rfl ?_
                  refine r_getI e_X2_move_122 fl_X2_42 i0 k1 ?_
                  refine cV4u e_X2_move_125 cl_X2_235 ⟨Nat.le_of_ble_eq_true rfl, Nat.le_of_ble_eq_true rfl⟩ ⟨rfl, rfl⟩ k3 (Nat.le_of_ble_eq_true rfl) (S_X0_hold hb1.2.2.2.2.2.2.2.2.2.1) ?_
                  refine r_aload_n e_X2_move_128 rfl ?_
                  refine r_getR e_X2_move_129 fl_X2_34 k1 k4 ?_
                  refine r_dup e_X2_move_132 rfl ?_
                  refine r_getI e_X2_move_133 fl_X2_238 i0 k5 ?_
                  refine r_iconst e_X2_move_136 ic_1 ?_
                  refine r_iadd e_X2_move_137 ?_
                  refine r_putI e_X2_move_138 fl_X2_238 k5 ?_
                  rw [show M11_0 = setI (U_X0_hold (a + 4) x2 (M.1 x1 2) (M.1 x1 3) (M.1 a 7) M) (a + 7) 2 (((U_X0_hold (a + 4) x2 (M.1 x1 2) (M.1 x1 3) (M.1 a 7) M).1 (a + 7) 2) + (1 : Int32)) from ((e_M11_0.trans (if_neg h89_11)).trans (if_neg h105_12))] at j141_11; exact j141_11
            refine r_return e_X2_move_141 rfl ⟨rfl, rfl⟩ ?_
            (subst e_M11_0 e_v9_0; refine ⟨?_, rfl, ?_⟩ <;> ((try unfold U_X2_move); (try simp only [if_neg h22_0, if_neg h28_1, if_neg h33_2, if_pos h40_3, if_neg h55_4]); (try rfl)))
        · refine r_return e_X2_move_43 rfl ⟨rfl, rfl⟩ ?_
          (refine ⟨?_, rfl, ?_⟩ <;> ((try unfold U_X2_move); (try simp only [if_neg h22_0, if_neg h28_1, if_neg h33_2, if_neg h40_3]); (try rfl)))
def FV_X2_roll_2 (a : Nat) : Nat → Nat → Mem → Int32
  | 0, i2, M => (0 : Int32)
  | n + 1, i2, M => if 0 ≤ (M.1 (a + 4) 2) then (0 : Int32) else (if (M.1 (a + 4) 4) ≤ 0 then (0 : Int32) else (let v202_0 : Int32 := if ((M.1 (a + 4) 0) + (M.1 (a + 4) 5)) < 0 then (1 : Int32) else (if ((M.1 (a + 4) 0) + (M.1 (a + 4) 5)) < (15 : Int32) then (0 : Int32) else (1 : Int32)); let v204_0 : Int32 := if ((M.1 (a + 4) 1) + (M.1 (a + 4) 6)) < 0 then (1 : Int32) else (if ((M.1 (a + 4) 1) + (M.1 (a + 4) 6)) < (9 : Int32) then (0 : Int32) else (1 : Int32)); if v202_0 = 0 then (let M207_0 : Mem := if v202_0 = 0 then (setI M (a + 4) 4 ((M.1 (a + 4) 4) - (1 : Int32))) else (setI (setI M (a + 4) 4 ((M.1 (a + 4) 4) - (1 : Int32))) (a + 4) 5 (-(M.1 (a + 4) 5))); let M208_0 : Mem := if v204_0 = 0 then M207_0 else (setI M207_0 (a + 4) 6 (-(M207_0.1 (a + 4) 6))); let M209_0 : Mem := if v202_0 = 0 then (if v204_0 = 0 then (U_X2_arrive a ((M.1 (a + 4) 0) + (M.1 (a + 4) 5)) ((M.1 (a + 4) 1) + (M.1 (a + 4) 6)) M208_0) else M208_0) else M208_0; (FV_X2_roll_2 a n (i2 + 1) M209_0)) else (if ((M.1 (a + 4) 1) + (M.1 (a + 4) 6)) < (3 : Int32) then (let M212_0 : Mem := if v202_0 = 0 then (setI M (a + 4) 4 ((M.1 (a + 4) 4) - (1 : Int32))) else (setI (setI M (a + 4) 4 ((M.1 (a + 4) 4) - (1 : Int32))) (a + 4) 5 (-(M.1 (a + 4) 5))); let M213_0 : Mem := if v204_0 = 0 then M212_0 else (setI M212_0 (a + 4) 6 (-(M212_0.1 (a + 4) 6))); let M214_0 : Mem := if v202_0 = 0 then (if v204_0 = 0 then (U_X2_arrive a ((M.1 (a + 4) 0) + (M.1 (a + 4) 5)) ((M.1 (a + 4) 1) + (M.1 (a + 4) 6)) M213_0) else M213_0) else M213_0; (FV_X2_roll_2 a n (i2 + 1) M214_0)) else (if (5 : Int32) < ((M.1 (a + 4) 1) + (M.1 (a + 4) 6)) then (let M217_0 : Mem := if v202_0 = 0 then (setI M (a + 4) 4 ((M.1 (a + 4) 4) - (1 : Int32))) else (setI (setI M (a + 4) 4 ((M.1 (a + 4) 4) - (1 : Int32))) (a + 4) 5 (-(M.1 (a + 4) 5))); let M218_0 : Mem := if v204_0 = 0 then M217_0 else (setI M217_0 (a + 4) 6 (-(M217_0.1 (a + 4) 6))); let M219_0 : Mem := if v202_0 = 0 then (if v204_0 = 0 then (U_X2_arrive a ((M.1 (a + 4) 0) + (M.1 (a + 4) 5)) ((M.1 (a + 4) 1) + (M.1 (a + 4) 6)) M218_0) else M218_0) else M218_0; (FV_X2_roll_2 a n (i2 + 1) M219_0)) else (if 0 ≤ ((M.1 (a + 4) 0) + (M.1 (a + 4) 5)) then (1 : Int32) else (2 : Int32))))))
def FU_X2_roll_2 (a : Nat) : Nat → Nat → Mem → Mem
  | 0, i2, M => M
  | n + 1, i2, M => if 0 ≤ (M.1 (a + 4) 2) then M else (if (M.1 (a + 4) 4) ≤ 0 then M else (let v202_0 : Int32 := if ((M.1 (a + 4) 0) + (M.1 (a + 4) 5)) < 0 then (1 : Int32) else (if ((M.1 (a + 4) 0) + (M.1 (a + 4) 5)) < (15 : Int32) then (0 : Int32) else (1 : Int32)); let v204_0 : Int32 := if ((M.1 (a + 4) 1) + (M.1 (a + 4) 6)) < 0 then (1 : Int32) else (if ((M.1 (a + 4) 1) + (M.1 (a + 4) 6)) < (9 : Int32) then (0 : Int32) else (1 : Int32)); if v202_0 = 0 then (let M207_0 : Mem := if v202_0 = 0 then (setI M (a + 4) 4 ((M.1 (a + 4) 4) - (1 : Int32))) else (setI (setI M (a + 4) 4 ((M.1 (a + 4) 4) - (1 : Int32))) (a + 4) 5 (-(M.1 (a + 4) 5))); let M208_0 : Mem := if v204_0 = 0 then M207_0 else (setI M207_0 (a + 4) 6 (-(M207_0.1 (a + 4) 6))); let M209_0 : Mem := if v202_0 = 0 then (if v204_0 = 0 then (U_X2_arrive a ((M.1 (a + 4) 0) + (M.1 (a + 4) 5)) ((M.1 (a + 4) 1) + (M.1 (a + 4) 6)) M208_0) else M208_0) else M208_0; (FU_X2_roll_2 a n (i2 + 1) M209_0)) else (if ((M.1 (a + 4) 1) + (M.1 (a + 4) 6)) < (3 : Int32) then (let M212_0 : Mem := if v202_0 = 0 then (setI M (a + 4) 4 ((M.1 (a + 4) 4) - (1 : Int32))) else (setI (setI M (a + 4) 4 ((M.1 (a + 4) 4) - (1 : Int32))) (a + 4) 5 (-(M.1 (a + 4) 5))); let M213_0 : Mem := if v204_0 = 0 then M212_0 else (setI M212_0 (a + 4) 6 (-(M212_0.1 (a + 4) 6))); let M214_0 : Mem := if v202_0 = 0 then (if v204_0 = 0 then (U_X2_arrive a ((M.1 (a + 4) 0) + (M.1 (a + 4) 5)) ((M.1 (a + 4) 1) + (M.1 (a + 4) 6)) M213_0) else M213_0) else M213_0; (FU_X2_roll_2 a n (i2 + 1) M214_0)) else (if (5 : Int32) < ((M.1 (a + 4) 1) + (M.1 (a + 4) 6)) then (let M217_0 : Mem := if v202_0 = 0 then (setI M (a + 4) 4 ((M.1 (a + 4) 4) - (1 : Int32))) else (setI (setI M (a + 4) 4 ((M.1 (a + 4) 4) - (1 : Int32))) (a + 4) 5 (-(M.1 (a + 4) 5))); let M218_0 : Mem := if v204_0 = 0 then M217_0 else (setI M217_0 (a + 4) 6 (-(M217_0.1 (a + 4) 6))); let M219_0 : Mem := if v202_0 = 0 then (if v204_0 = 0 then (U_X2_arrive a ((M.1 (a + 4) 0) + (M.1 (a + 4) 5)) ((M.1 (a + 4) 1) + (M.1 (a + 4) 6)) M218_0) else M218_0) else M218_0; (FU_X2_roll_2 a n (i2 + 1) M219_0)) else (if 0 ≤ ((M.1 (a + 4) 0) + (M.1 (a + 4) 5)) then (setI M (a + 4) 4 ((M.1 (a + 4) 4) - (1 : Int32))) else (setI M (a + 4) 4 ((M.1 (a + 4) 4) - (1 : Int32))))))))
theorem L_X2_roll_2 {sh : List SC} {Q : Po} {a : Nat}    (hb1 : MatchAt sh a)   : ∀ (n i2 : Nat) (M : Mem), i2 + n = 3 → Q (some (.int (FV_X2_roll_2 a n i2 M))) sh (FU_X2_roll_2 a n i2 M) → WP m_X2_roll Q 2 [some (.ref a), some (.int (nI i2)), none, none, none, none] [] sh M 0 0 := by
  have k0 : kd sh a = some (2 + 7, 0) := hb1.1
  have k1 : rf sh a 4 = some (a + 4) := hb1.2.2.2.2.2.1
  have k2 : kd sh (a + 4) = some (0 + 7, 0) := hb1.2.2.2.2.2.2.2.2.2.1.1
  intro n
  induction n with
  | zero =>
    intro i2 M hi hq
    have hz : (3 : Int32) ≤ nI i2 := by
      have q : i2 = 3 := by omega
      rw [q]; exact nI_le (Nat.le_refl _) (by decide)
    refine r_iload_n e_X2_roll_2 rfl ?_
    refine r_iconst e_X2_roll_3 ic_3 ?_
    refine r_icmp_ge e_X2_roll_4 (fun _ => ?_) (fun hh => absurd hz hh)
    refine r_iconst e_X2_roll_193 ic_0 ?_
    refine r_ireturn e_X2_roll_194 rfl ⟨rfl, rfl⟩ ?_
    (simp only [FV_X2_roll_2, FU_X2_roll_2] at hq; first | exact hq | (simp only []; exact hq))
  | succ n ih =>
    intro i2 M hi hq
    have hlt_i2 : i2 < 3 := by omega
    have hcl_i2 : (nI i2).toNatClampNeg = i2 := nI_clamp (by omega)
    have hs : ¬ (3 : Int32) ≤ nI i2 := nI_ge (b := 3) hlt_i2 (by decide)
    refine r_iload_n e_X2_roll_2 rfl ?_
    refine r_iconst e_X2_roll_3 ic_3 ?_
    refine r_icmp_ge e_X2_roll_4 (fun hh => absurd hh hs) (fun _ => ?_)
    refine r_aload_n e_X2_roll_7 rfl ?_
    refine r_getR e_X2_roll_8 fl_X2_27 k0 k1 ?_
    refine r_getI e_X2_roll_11 fl_X2_132 i0 k2 ?_
    refine r_if_ge e_X2_roll_14 (fun h14_200 => ?_) (fun h14_200 => ?_)
    · refine r_iconst e_X2_roll_193 ic_0 ?_
      refine r_ireturn e_X2_roll_194 rfl ⟨rfl, rfl⟩ ?_
      (simp only [FV_X2_roll_2, FU_X2_roll_2, if_pos h14_200] at hq; first | exact hq | (simp only [if_pos h14_200]; exact hq))
    · refine r_aload_n e_X2_roll_17 rfl ?_
      refine r_getR e_X2_roll_18 fl_X2_27 k0 k1 ?_
      refine r_getI e_X2_roll_21 fl_X2_241 i0 k2 ?_
      refine r_if_le e_X2_roll_24 (fun h24_201 => ?_) (fun h24_201 => ?_)
      · refine r_iconst e_X2_roll_193 ic_0 ?_
        refine r_ireturn e_X2_roll_194 rfl ⟨rfl, rfl⟩ ?_
        (simp only [FV_X2_roll_2, FU_X2_roll_2, if_neg h14_200, if_pos h24_201] at hq; first | exact hq | (simp only [if_neg h14_200, if_pos h24_201]; exact hq))
      · refine r_aload_n e_X2_roll_27 rfl ?_
        refine r_getR e_X2_roll_28 fl_X2_27 k0 k1 ?_
        refine r_dup e_X2_roll_31 rfl ?_
        refine r_getI e_X2_roll_32 fl_X2_241 i0 k2 ?_
        refine r_iconst e_X2_roll_35 ic_1 ?_
        refine r_isub e_X2_roll_36 ?_
        refine r_putI e_X2_roll_37 fl_X2_241 k2 ?_
        refine r_aload_n e_X2_roll_40 rfl ?_
        refine r_getR e_X2_roll_41 fl_X2_27 k0 k1 ?_
        refine r_getIe e_X2_roll_44 fl_X2_110 i0 k2 (gs_nI (by decide)) ?_
        refine r_aload_n e_X2_roll_47 rfl ?_
        refine r_getR e_X2_roll_48 fl_X2_27 k0 k1 ?_
        refine r_getIe e_X2_roll_51 fl_X2_242 i0 k2 (gs_nI (by decide)) ?_
        refine r_iadd e_X2_roll_54 ?_
        refine p_istore_n_6_2 e_X2_roll_55 rfl rfl ?_
        refine r_aload_n e_X2_roll_56 rfl ?_
        refine r_getR e_X2_roll_57 fl_X2_27 k0 k1 ?_
        refine r_getIe e_X2_roll_60 fl_X2_113 i0 k2 (gs_nI (by decide)) ?_
        refine r_aload_n e_X2_roll_63 rfl ?_
        refine r_getR e_X2_roll_64 fl_X2_27 k0 k1 ?_
        refine r_getIe e_X2_roll_67 fl_X2_243 i0 k2 (gs_nI (by decide)) ?_
        refine r_iadd e_X2_roll_70 ?_
        refine p_istore_n_6_3 e_X2_roll_71 rfl rfl ?_
        refine r_iload_n e_X2_roll_72 rfl ?_
        obtain ⟨v202_0, e_v202_0⟩ : ∃ z : Int32, z = (if ((M.1 (a + 4) 0) + (M.1 (a + 4) 5)) < 0 then (1 : Int32) else (if ((M.1 (a + 4) 0) + (M.1 (a + 4) 5)) < (15 : Int32) then (0 : Int32) else (1 : Int32))) := ⟨_, rfl⟩
        have z_v202_0 : v202_0 = 0 ∨ v202_0 = 1 := by rw [e_v202_0]; exact (zi (Or.inr rfl) (zi (Or.inl rfl) (Or.inr rfl)))
        suffices j87_202 : WP m_X2_roll Q 87 [some (.ref a), some (.int (nI i2)), some (.int ((M.1 (a + 4) 0) + (M.1 (a + 4) 5))), some (.int ((M.1 (a + 4) 1) + (M.1 (a + 4) 6))), none, none] [.int v202_0] sh (setI M (a + 4) 4 ((M.1 (a + 4) 4) - (1 : Int32))) 0 0 by
          refine r_if_lt e_X2_roll_73 (fun h73_202 => ?_) (fun h73_202 => ?_)
          · refine r_iconst e_X2_roll_82 ic_1 ?_
            refine r_goto e_X2_roll_83 ?_
            rw [show v202_0 = (1 : Int32) from (e_v202_0.trans (if_pos h73_202))] at j87_202; exact j87_202
          · refine r_iload_n e_X2_roll_76 rfl ?_
            refine r_bipush e_X2_roll_77 bp_15 ?_
            refine r_icmp_lt e_X2_roll_79 (fun h79_203 => ?_) (fun h79_203 => ?_)
            · refine r_iconst e_X2_roll_86 ic_0 ?_
              rw [show v202_0 = (0 : Int32) from ((e_v202_0.trans (if_neg h73_202)).trans (if_pos h79_203))] at j87_202; exact j87_202
            · refine r_iconst e_X2_roll_82 ic_1 ?_
              refine r_goto e_X2_roll_83 ?_
              rw [show v202_0 = (1 : Int32) from ((e_v202_0.trans (if_neg h73_202)).trans (if_neg h79_203))] at j87_202; exact j87_202
        refine p_istore_6_4 e_X2_roll_87 rfl rfl ?_
        refine r_iload_n e_X2_roll_89 rfl ?_
        obtain ⟨v204_0, e_v204_0⟩ : ∃ z : Int32, z = (if ((M.1 (a + 4) 1) + (M.1 (a + 4) 6)) < 0 then (1 : Int32) else (if ((M.1 (a + 4) 1) + (M.1 (a + 4) 6)) < (9 : Int32) then (0 : Int32) else (1 : Int32))) := ⟨_, rfl⟩
        have z_v204_0 : v204_0 = 0 ∨ v204_0 = 1 := by rw [e_v204_0]; exact (zi (Or.inr rfl) (zi (Or.inl rfl) (Or.inr rfl)))
        suffices j104_204 : WP m_X2_roll Q 104 [some (.ref a), some (.int (nI i2)), some (.int ((M.1 (a + 4) 0) + (M.1 (a + 4) 5))), some (.int ((M.1 (a + 4) 1) + (M.1 (a + 4) 6))), some (.int v202_0), none] [.int v204_0] sh (setI M (a + 4) 4 ((M.1 (a + 4) 4) - (1 : Int32))) 0 0 by
          refine r_if_lt e_X2_roll_90 (fun h90_204 => ?_) (fun h90_204 => ?_)
          · refine r_iconst e_X2_roll_99 ic_1 ?_
            refine r_goto e_X2_roll_100 ?_
            rw [show v204_0 = (1 : Int32) from (e_v204_0.trans (if_pos h90_204))] at j104_204; exact j104_204
          · refine r_iload_n e_X2_roll_93 rfl ?_
            refine r_bipush e_X2_roll_94 bp_9 ?_
            refine r_icmp_lt e_X2_roll_96 (fun h96_205 => ?_) (fun h96_205 => ?_)
            · refine r_iconst e_X2_roll_103 ic_0 ?_
              rw [show v204_0 = (0 : Int32) from ((e_v204_0.trans (if_neg h90_204)).trans (if_pos h96_205))] at j104_204; exact j104_204
            · refine r_iconst e_X2_roll_99 ic_1 ?_
              refine r_goto e_X2_roll_100 ?_
              rw [show v204_0 = (1 : Int32) from ((e_v204_0.trans (if_neg h90_204)).trans (if_neg h96_205))] at j104_204; exact j104_204
        refine p_istore_6_5 e_X2_roll_104 rfl rfl ?_
        refine r_iload e_X2_roll_106 rfl ?_
        refine r_if_eq e_X2_roll_108 (fun h108_206 => ?_) (fun h108_206 => ?_)
        · refine r_iload e_X2_roll_131 rfl ?_
          obtain ⟨M207_0, e_M207_0⟩ : ∃ z : Mem, z = (if v202_0 = 0 then (setI M (a + 4) 4 ((M.1 (a + 4) 4) - (1 : Int32))) else (setI (setI M (a + 4) 4 ((M.1 (a + 4) 4) - (1 : Int32))) (a + 4) 5 (-(M.1 (a + 4) 5)))) := ⟨_, rfl⟩
          suffices j151_207 : WP m_X2_roll Q 151 [some (.ref a), some (.int (nI i2)), some (.int ((M.1 (a + 4) 0) + (M.1 (a + 4) 5))), some (.int ((M.1 (a + 4) 1) + (M.1 (a + 4) 6))), some (.int v202_0), some (.int v204_0)] [] sh M207_0 0 0 by
            refine r_if_eq e_X2_roll_133 (fun h133_207 => ?_) (fun h133_207 => ?_)
            · rw [show M207_0 = setI M (a + 4) 4 ((M.1 (a + 4) 4) - (1 : Int32)) from (e_M207_0.trans (if_pos h133_207))] at j151_207; exact j151_207
            · refine r_aload_n e_X2_roll_136 rfl ?_
              refine r_getR e_X2_roll_137 fl_X2_27 k0 k1 ?_
              refine r_aload_n e_X2_roll_140 rfl ?_
              refine r_getR e_X2_roll_141 fl_X2_27 k0 k1 ?_
              refine r_getIe e_X2_roll_144 fl_X2_242 i0 k2 (gs_nI (by decide)) ?_
              refine r_ineg e_X2_roll_147 ?_
              refine r_putI e_X2_roll_148 fl_X2_242 k2 ?_
              rw [show M207_0 = setI (setI M (a + 4) 4 ((M.1 (a + 4) 4) - (1 : Int32))) (a + 4) 5 (-(M.1 (a + 4) 5)) from (e_M207_0.trans (if_neg h133_207))] at j151_207; exact j151_207
          refine r_iload e_X2_roll_151 rfl ?_
          obtain ⟨M208_0, e_M208_0⟩ : ∃ z : Mem, z = (if v204_0 = 0 then M207_0 else (setI M207_0 (a + 4) 6 (-(M207_0.1 (a + 4) 6)))) := ⟨_, rfl⟩
          suffices j171_208 : WP m_X2_roll Q 171 [some (.ref a), some (.int (nI i2)), some (.int ((M.1 (a + 4) 0) + (M.1 (a + 4) 5))), some (.int ((M.1 (a + 4) 1) + (M.1 (a + 4) 6))), some (.int v202_0), some (.int v204_0)] [] sh M208_0 0 0 by
            refine r_if_eq e_X2_roll_153 (fun h153_208 => ?_) (fun h153_208 => ?_)
            · rw [show M208_0 = M207_0 from (e_M208_0.trans (if_pos h153_208))] at j171_208; exact j171_208
            · refine r_aload_n e_X2_roll_156 rfl ?_
              refine r_getR e_X2_roll_157 fl_X2_27 k0 k1 ?_
              refine r_aload_n e_X2_roll_160 rfl ?_
              refine r_getR e_X2_roll_161 fl_X2_27 k0 k1 ?_
              refine r_getI e_X2_roll_164 fl_X2_243 i0 k2 ?_
              refine r_ineg e_X2_roll_167 ?_
              refine r_putI e_X2_roll_168 fl_X2_243 k2 ?_
              rw [show M208_0 = setI M207_0 (a + 4) 6 (-(M207_0.1 (a + 4) 6)) from (e_M208_0.trans (if_neg h153_208))] at j171_208; exact j171_208
          refine r_iload e_X2_roll_171 rfl ?_
          obtain ⟨M209_0, e_M209_0⟩ : ∃ z : Mem, z = (if v202_0 = 0 then (if v204_0 = 0 then (U_X2_arrive a ((M.1 (a + 4) 0) + (M.1 (a + 4) 5)) ((M.1 (a + 4) 1) + (M.1 (a + 4) 6)) M208_0) else M208_0) else M208_0) := ⟨_, rfl⟩
          suffices j187_209 : WP m_X2_roll Q 187 [some (.ref a), some (.int (nI i2)), some (.int ((M.1 (a + 4) 0) + (M.1 (a + 4) 5))), some (.int ((M.1 (a + 4) 1) + (M.1 (a + 4) 6))), some (.int v202_0), some (.int v204_0)] [] sh M209_0 0 0 by
            refine r_if_ne e_X2_roll_173 (fun h173_209 => ?_) (fun h173_209 => ?_)
            · rw [show M209_0 = M208_0 from (e_M209_0.trans (if_neg h173_209))] at j187_209; exact j187_209
            · refine r_iload e_X2_roll_176 rfl ?_
              refine r_if_ne e_X2_roll_178 (fun h178_210 => ?_) (fun h178_210 => ?_)
              · rw [show M209_0 = M208_0 from ((e_M209_0.trans (if_pos h173_209)).trans (if_neg h178_210))] at j187_209; exact j187_209
              · refine r_aload_n e_X2_roll_181 rfl ?_
                refine r_iload_n e_X2_roll_182 rfl ?_
                refine r_iload_n e_X2_roll_183 rfl ?_
                refine cV2u e_X2_roll_184 cl_X2_244 ⟨Nat.le_of_ble_eq_true rfl, Nat.le_of_ble_eq_true rfl⟩ ⟨rfl, rfl⟩ k0 (Nat.le_of_ble_eq_true rfl) (S_X2_arrive hb1) ?_
                rw [show M209_0 = U_X2_arrive a ((M.1 (a + 4) 0) + (M.1 (a + 4) 5)) ((M.1 (a + 4) 1) + (M.1 (a + 4) 6)) M208_0 from ((e_M209_0.trans (if_pos h173_209)).trans (if_pos h178_210))] at j187_209; exact j187_209
          refine p_iinc_6_1 e_X2_roll_187 rfl ic_1 rfl ?_
          rw [nI_1 i2]
          refine r_goto e_X2_roll_190 ?_
          refine d_6_2 ?_
          refine d_6_3 ?_
          refine d_6_4 ?_
          refine d_6_5 ?_
          (subst e_M209_0 e_M208_0 e_M207_0 e_v204_0 e_v202_0; simp only [FV_X2_roll_2, FU_X2_roll_2, if_neg h14_200, if_neg h24_201, if_pos h108_206] at hq; first | exact ih (i2 + 1) _ (by omega) hq | (simp only [if_neg h14_200, if_neg h24_201, if_pos h108_206]; exact ih (i2 + 1) _ (by omega) hq))
        · refine r_iload_n e_X2_roll_111 rfl ?_
          refine r_iconst e_X2_roll_112 ic_3 ?_
          refine r_icmp_lt e_X2_roll_113 (fun h113_211 => ?_) (fun h113_211 => ?_)
          · refine r_iload e_X2_roll_131 rfl ?_
            obtain ⟨M212_0, e_M212_0⟩ : ∃ z : Mem, z = (if v202_0 = 0 then (setI M (a + 4) 4 ((M.1 (a + 4) 4) - (1 : Int32))) else (setI (setI M (a + 4) 4 ((M.1 (a + 4) 4) - (1 : Int32))) (a + 4) 5 (-(M.1 (a + 4) 5)))) := ⟨_, rfl⟩
            suffices j151_212 : WP m_X2_roll Q 151 [some (.ref a), some (.int (nI i2)), some (.int ((M.1 (a + 4) 0) + (M.1 (a + 4) 5))), some (.int ((M.1 (a + 4) 1) + (M.1 (a + 4) 6))), some (.int v202_0), some (.int v204_0)] [] sh M212_0 0 0 by
              refine r_if_eq e_X2_roll_133 (fun h133_212 => ?_) (fun h133_212 => ?_)
              · rw [show M212_0 = setI M (a + 4) 4 ((M.1 (a + 4) 4) - (1 : Int32)) from (e_M212_0.trans (if_pos h133_212))] at j151_212; exact j151_212
              · refine r_aload_n e_X2_roll_136 rfl ?_
                refine r_getR e_X2_roll_137 fl_X2_27 k0 k1 ?_
                refine r_aload_n e_X2_roll_140 rfl ?_
                refine r_getR e_X2_roll_141 fl_X2_27 k0 k1 ?_
                refine r_getIe e_X2_roll_144 fl_X2_242 i0 k2 (gs_nI (by decide)) ?_
                refine r_ineg e_X2_roll_147 ?_
                refine r_putI e_X2_roll_148 fl_X2_242 k2 ?_
                rw [show M212_0 = setI (setI M (a + 4) 4 ((M.1 (a + 4) 4) - (1 : Int32))) (a + 4) 5 (-(M.1 (a + 4) 5)) from (e_M212_0.trans (if_neg h133_212))] at j151_212; exact j151_212
            refine r_iload e_X2_roll_151 rfl ?_
            obtain ⟨M213_0, e_M213_0⟩ : ∃ z : Mem, z = (if v204_0 = 0 then M212_0 else (setI M212_0 (a + 4) 6 (-(M212_0.1 (a + 4) 6)))) := ⟨_, rfl⟩
            suffices j171_213 : WP m_X2_roll Q 171 [some (.ref a), some (.int (nI i2)), some (.int ((M.1 (a + 4) 0) + (M.1 (a + 4) 5))), some (.int ((M.1 (a + 4) 1) + (M.1 (a + 4) 6))), some (.int v202_0), some (.int v204_0)] [] sh M213_0 0 0 by
              refine r_if_eq e_X2_roll_153 (fun h153_213 => ?_) (fun h153_213 => ?_)
              · rw [show M213_0 = M212_0 from (e_M213_0.trans (if_pos h153_213))] at j171_213; exact j171_213
              · refine r_aload_n e_X2_roll_156 rfl ?_
                refine r_getR e_X2_roll_157 fl_X2_27 k0 k1 ?_
                refine r_aload_n e_X2_roll_160 rfl ?_
                refine r_getR e_X2_roll_161 fl_X2_27 k0 k1 ?_
                refine r_getI e_X2_roll_164 fl_X2_243 i0 k2 ?_
                refine r_ineg e_X2_roll_167 ?_
                refine r_putI e_X2_roll_168 fl_X2_243 k2 ?_
                rw [show M213_0 = setI M212_0 (a + 4) 6 (-(M212_0.1 (a + 4) 6)) from (e_M213_0.trans (if_neg h153_213))] at j171_213; exact j171_213
            refine r_iload e_X2_roll_171 rfl ?_
            obtain ⟨M214_0, e_M214_0⟩ : ∃ z : Mem, z = (if v202_0 = 0 then (if v204_0 = 0 then (U_X2_arrive a ((M.1 (a + 4) 0) + (M.1 (a + 4) 5)) ((M.1 (a + 4) 1) + (M.1 (a + 4) 6)) M213_0) else M213_0) else M213_0) := ⟨_, rfl⟩
            suffices j187_214 : WP m_X2_roll Q 187 [some (.ref a), some (.int (nI i2)), some (.int ((M.1 (a + 4) 0) + (M.1 (a + 4) 5))), some (.int ((M.1 (a + 4) 1) + (M.1 (a + 4) 6))), some (.int v202_0), some (.int v204_0)] [] sh M214_0 0 0 by
              refine r_if_ne e_X2_roll_173 (fun h173_214 => ?_) (fun h173_214 => ?_)
              · rw [show M214_0 = M213_0 from (e_M214_0.trans (if_neg h173_214))] at j187_214; exact j187_214
              · refine r_iload e_X2_roll_176 rfl ?_
                refine r_if_ne e_X2_roll_178 (fun h178_215 => ?_) (fun h178_215 => ?_)
                · rw [show M214_0 = M213_0 from ((e_M214_0.trans (if_pos h173_214)).trans (if_neg h178_215))] at j187_214; exact j187_214
                · refine r_aload_n e_X2_roll_181 rfl ?_
                  refine r_iload_n e_X2_roll_182 rfl ?_
                  refine r_iload_n e_X2_roll_183 rfl ?_
                  refine cV2u e_X2_roll_184 cl_X2_244 ⟨Nat.le_of_ble_eq_true rfl, Nat.le_of_ble_eq_true rfl⟩ ⟨rfl, rfl⟩ k0 (Nat.le_of_ble_eq_true rfl) (S_X2_arrive hb1) ?_
                  rw [show M214_0 = U_X2_arrive a ((M.1 (a + 4) 0) + (M.1 (a + 4) 5)) ((M.1 (a + 4) 1) + (M.1 (a + 4) 6)) M213_0 from ((e_M214_0.trans (if_pos h173_214)).trans (if_pos h178_215))] at j187_214; exact j187_214
            refine p_iinc_6_1 e_X2_roll_187 rfl ic_1 rfl ?_
            rw [nI_1 i2]
            refine r_goto e_X2_roll_190 ?_
            refine d_6_2 ?_
            refine d_6_3 ?_
            refine d_6_4 ?_
            refine d_6_5 ?_
            (subst e_M214_0 e_M213_0 e_M212_0 e_v204_0 e_v202_0; simp only [FV_X2_roll_2, FU_X2_roll_2, if_neg h14_200, if_neg h24_201, if_neg h108_206, if_pos h113_211] at hq; first | exact ih (i2 + 1) _ (by omega) hq | (simp only [if_neg h14_200, if_neg h24_201, if_neg h108_206, if_pos h113_211]; exact ih (i2 + 1) _ (by omega) hq))
          · refine r_iload_n e_X2_roll_116 rfl ?_
            refine r_iconst e_X2_roll_117 ic_5 ?_
            refine r_icmp_gt e_X2_roll_118 (fun h118_216 => ?_) (fun h118_216 => ?_)
            · refine r_iload e_X2_roll_131 rfl ?_
              obtain ⟨M217_0, e_M217_0⟩ : ∃ z : Mem, z = (if v202_0 = 0 then (setI M (a + 4) 4 ((M.1 (a + 4) 4) - (1 : Int32))) else (setI (setI M (a + 4) 4 ((M.1 (a + 4) 4) - (1 : Int32))) (a + 4) 5 (-(M.1 (a + 4) 5)))) := ⟨_, rfl⟩
              suffices j151_217 : WP m_X2_roll Q 151 [some (.ref a), some (.int (nI i2)), some (.int ((M.1 (a + 4) 0) + (M.1 (a + 4) 5))), some (.int ((M.1 (a + 4) 1) + (M.1 (a + 4) 6))), some (.int v202_0), some (.int v204_0)] [] sh M217_0 0 0 by
                refine r_if_eq e_X2_roll_133 (fun h133_217 => ?_) (fun h133_217 => ?_)
                · rw [show M217_0 = setI M (a + 4) 4 ((M.1 (a + 4) 4) - (1 : Int32)) from (e_M217_0.trans (if_pos h133_217))] at j151_217; exact j151_217
                · refine r_aload_n e_X2_roll_136 rfl ?_
                  refine r_getR e_X2_roll_137 fl_X2_27 k0 k1 ?_
                  refine r_aload_n e_X2_roll_140 rfl ?_
                  refine r_getR e_X2_roll_141 fl_X2_27 k0 k1 ?_
                  refine r_getIe e_X2_roll_144 fl_X2_242 i0 k2 (gs_nI (by decide)) ?_
                  refine r_ineg e_X2_roll_147 ?_
                  refine r_putI e_X2_roll_148 fl_X2_242 k2 ?_
                  rw [show M217_0 = setI (setI M (a + 4) 4 ((M.1 (a + 4) 4) - (1 : Int32))) (a + 4) 5 (-(M.1 (a + 4) 5)) from (e_M217_0.trans (if_neg h133_217))] at j151_217; exact j151_217
              refine r_iload e_X2_roll_151 rfl ?_
              obtain ⟨M218_0, e_M218_0⟩ : ∃ z : Mem, z = (if v204_0 = 0 then M217_0 else (setI M217_0 (a + 4) 6 (-(M217_0.1 (a + 4) 6)))) := ⟨_, rfl⟩
              suffices j171_218 : WP m_X2_roll Q 171 [some (.ref a), some (.int (nI i2)), some (.int ((M.1 (a + 4) 0) + (M.1 (a + 4) 5))), some (.int ((M.1 (a + 4) 1) + (M.1 (a + 4) 6))), some (.int v202_0), some (.int v204_0)] [] sh M218_0 0 0 by
                refine r_if_eq e_X2_roll_153 (fun h153_218 => ?_) (fun h153_218 => ?_)
                · rw [show M218_0 = M217_0 from (e_M218_0.trans (if_pos h153_218))] at j171_218; exact j171_218
                · refine r_aload_n e_X2_roll_156 rfl ?_
                  refine r_getR e_X2_roll_157 fl_X2_27 k0 k1 ?_
                  refine r_aload_n e_X2_roll_160 rfl ?_
                  refine r_getR e_X2_roll_161 fl_X2_27 k0 k1 ?_
                  refine r_getI e_X2_roll_164 fl_X2_243 i0 k2 ?_
                  refine r_ineg e_X2_roll_167 ?_
                  refine r_putI e_X2_roll_168 fl_X2_243 k2 ?_
                  rw [show M218_0 = setI M217_0 (a + 4) 6 (-(M217_0.1 (a + 4) 6)) from (e_M218_0.trans (if_neg h153_218))] at j171_218; exact j171_218
              refine r_iload e_X2_roll_171 rfl ?_
              obtain ⟨M219_0, e_M219_0⟩ : ∃ z : Mem, z = (if v202_0 = 0 then (if v204_0 = 0 then (U_X2_arrive a ((M.1 (a + 4) 0) + (M.1 (a + 4) 5)) ((M.1 (a + 4) 1) + (M.1 (a + 4) 6)) M218_0) else M218_0) else M218_0) := ⟨_, rfl⟩
              suffices j187_219 : WP m_X2_roll Q 187 [some (.ref a), some (.int (nI i2)), some (.int ((M.1 (a + 4) 0) + (M.1 (a + 4) 5))), some (.int ((M.1 (a + 4) 1) + (M.1 (a + 4) 6))), some (.int v202_0), some (.int v204_0)] [] sh M219_0 0 0 by
                refine r_if_ne e_X2_roll_173 (fun h173_219 => ?_) (fun h173_219 => ?_)
                · rw [show M219_0 = M218_0 from (e_M219_0.trans (if_neg h173_219))] at j187_219; exact j187_219
                · refine r_iload e_X2_roll_176 rfl ?_
                  refine r_if_ne e_X2_roll_178 (fun h178_220 => ?_) (fun h178_220 => ?_)
                  · rw [show M219_0 = M218_0 from ((e_M219_0.trans (if_pos h173_219)).trans (if_neg h178_220))] at j187_219; exact j187_219
                  · refine r_aload_n e_X2_roll_181 rfl ?_
                    refine r_iload_n e_X2_roll_182 rfl ?_
                    refine r_iload_n e_X2_roll_183 rfl ?_
                    refine cV2u e_X2_roll_184 cl_X2_244 ⟨Nat.le_of_ble_eq_true rfl, Nat.le_of_ble_eq_true rfl⟩ ⟨rfl, rfl⟩ k0 (Nat.le_of_ble_eq_true rfl) (S_X2_arrive hb1) ?_
                    rw [show M219_0 = U_X2_arrive a ((M.1 (a + 4) 0) + (M.1 (a + 4) 5)) ((M.1 (a + 4) 1) + (M.1 (a + 4) 6)) M218_0 from ((e_M219_0.trans (if_pos h173_219)).trans (if_pos h178_220))] at j187_219; exact j187_219
              refine p_iinc_6_1 e_X2_roll_187 rfl ic_1 rfl ?_
              rw [nI_1 i2]
              refine r_goto e_X2_roll_190 ?_
              refine d_6_2 ?_
              refine d_6_3 ?_
              refine d_6_4 ?_
              refine d_6_5 ?_
              (subst e_M219_0 e_M218_0 e_M217_0 e_v204_0 e_v202_0; simp only [FV_X2_roll_2, FU_X2_roll_2, if_neg h14_200, if_neg h24_201, if_neg h108_206, if_neg h113_211, if_pos h118_216] at hq; first | exact ih (i2 + 1) _ (by omega) hq | (simp only [if_neg h14_200, if_neg h24_201, if_neg h108_206, if_neg h113_211, if_pos h118_216]; exact ih (i2 + 1) _ (by omega) hq))
            · refine r_iload_n e_X2_roll_121 rfl ?_
              refine r_if_ge e_X2_roll_122 (fun h122_221 => ?_) (fun h122_221 => ?_)
              · refine r_iconst e_X2_roll_129 ic_1 ?_
                refine r_ireturn e_X2_roll_130 rfl ⟨rfl, rfl⟩ ?_
                (subst e_v204_0 e_v202_0; simp only [FV_X2_roll_2, FU_X2_roll_2, if_neg h14_200, if_neg h24_201, if_neg h108_206, if_neg h113_211, if_neg h118_216, if_pos h122_221] at hq; first | exact hq | (simp only [if_neg h14_200, if_neg h24_201, if_neg h108_206, if_neg h113_211, if_neg h118_216, if_pos h122_221]; exact hq))
              · refine r_iconst e_X2_roll_125 ic_2 ?_
                refine r_goto e_X2_roll_126 ?_
                refine r_ireturn e_X2_roll_130 rfl ⟨rfl, rfl⟩ ?_
                (subst e_v204_0 e_v202_0; simp only [FV_X2_roll_2, FU_X2_roll_2, if_neg h14_200, if_neg h24_201, if_neg h108_206, if_neg h113_211, if_neg h118_216, if_neg h122_221] at hq; first | exact hq | (simp only [if_neg h14_200, if_neg h24_201, if_neg h108_206, if_neg h113_211, if_neg h118_216, if_neg h122_221]; exact hq))
def V_X2_roll (a : Nat) (M : Mem) : Int32 := (FV_X2_roll_2 a 3 0 M)
def U_X2_roll (a : Nat) (M : Mem) : Mem := (FU_X2_roll_2 a 3 0 M)
theorem S_X2_roll {sh : List SC} {M : Mem} {a : Nat}  (hb1 : MatchAt sh a)  : Gv m_X2_roll [.ref a] sh M (.int (V_X2_roll a M)) (U_X2_roll a M) := by
  refine Sp.of (ls := [some (.ref a), none, none, none, none, none]) (by decide +kernel) (Nat.le_of_ble_eq_true rfl) rfl ?_
  refine r_iconst e_X2_roll_0 ic_0 ?_
  refine p_istore_n_6_1 e_X2_roll_1 rfl rfl ?_
  skip
  show WP m_X2_roll _ 2 [some (.ref a), some (.int (nI 0)), none, none, none, none] [] sh M 0 0
  refine L_X2_roll_2 hb1 3 0  M (by omega) ?_
  (refine ⟨?_, rfl, ?_⟩ <;> ((try unfold V_X2_roll); (try unfold U_X2_roll); (try simp only []); (try rfl)))
def V_X10_ball (x1 : Int32) (M : Mem) : Int32 := if (M.1 122 6) = 0 then (V_X10_finding (-1003 : Int32) M) else (if x1 < 0 then (V_X10_finding (-1001 : Int32) M) else (if x1 < (6 : Int32) then (V_X0_shown 126 x1 M) else (V_X10_finding (-1001 : Int32) M)))
def U_X10_ball (x1 : Int32) (M : Mem) : Mem := if (M.1 122 6) = 0 then (U_X10_finding (-1003 : Int32) M) else (if x1 < 0 then (U_X10_finding (-1001 : Int32) M) else (if x1 < (6 : Int32) then M else (U_X10_finding (-1001 : Int32) M)))
theorem S_X10_ball {sh : List SC} {M : Mem} {x1 : Int32}  (hb1 : PitchAt sh)  : Gv m_X10_ball [.ref 0, .int x1] sh M (.int (V_X10_ball x1 M)) (U_X10_ball x1 M) := by
  refine Sp.of (ls := [some (.ref 0), some (.int x1)]) (by decide +kernel) (Nat.le_of_ble_eq_true rfl) rfl ?_
  have k0 : kd sh 0 = some (9 + 7, 0) := hb1.1
  have k1 : rf sh 0 4 = some 122 := hb1.2.2.2.2.2.1
  have k2 : kd sh 122 = some (2 + 7, 0) := hb1.2.2.2.2.2.2.2.2.2.2.2.2.2.2.2.2.1.1
  have k3 : rf sh 122 4 = some 126 := hb1.2.2.2.2.2.2.2.2.2.2.2.2.2.2.2.2.1.2.2.2.2.2.1
  have k4 : kd sh 126 = some (0 + 7, 0) := hb1.2.2.2.2.2.2.2.2.2.2.2.2.2.2.2.2.1.2.2.2.2.2.2.2.2.2.1.1
  refine r_aload_n e_X10_ball_0 rfl ?_
  refine r_getR e_X10_ball_1 fl_X10_63 k0 k1 ?_
  refine r_getI e_X10_ball_4 fl_X10_115 i3 k2 ?_
  refine r_if_ne e_X10_ball_7 (fun h7_0 => ?_) (fun h7_0 => ?_)
  · refine r_iload_n e_X10_ball_18 rfl ?_
    refine r_if_lt e_X10_ball_19 (fun h19_1 => ?_) (fun h19_1 => ?_)
    · refine r_aload_n e_X10_ball_28 rfl ?_
      refine r_sipush e_X10_ball_29 sp_m1001 ?_
      refine cV1v e_X10_ball_32 cl_X10_70 ⟨Nat.le_of_ble_eq_true rfl, Nat.le_of_ble_eq_true rfl⟩ ⟨rfl, rfl⟩ k0 (Nat.le_of_ble_eq_true rfl) (S_X10_finding hb1) ?_
      refine r_ireturn e_X10_ball_35 rfl ⟨rfl, rfl⟩ ?_
      (refine ⟨?_, rfl, ?_⟩ <;> ((try unfold V_X10_ball); (try unfold U_X10_ball); (try simp only [if_neg h7_0, if_pos h19_1]); (try rfl)))
    · refine r_iload_n e_X10_ball_22 rfl ?_
      refine r_bipush e_X10_ball_23 bp_6 ?_
      refine r_icmp_lt e_X10_ball_25 (fun h25_2 => ?_) (fun h25_2 => ?_)
      · refine r_aload_n e_X10_ball_36 rfl ?_
        refine r_getR e_X10_ball_37 fl_X10_63 k0 k1 ?_
        refine r_getR e_X10_ball_40 fl_X10_124 k2 k3 ?_
        refine r_iload_n e_X10_ball_43 rfl ?_
        refine cV1v e_X10_ball_44 cl_X10_128 ⟨Nat.le_of_ble_eq_true rfl, Nat.le_of_ble_eq_true rfl⟩ ⟨rfl, rfl⟩ k4 (Nat.le_of_ble_eq_true rfl) (S_X0_shown hb1.2.2.2.2.2.2.2.2.2.2.2.2.2.2.2.2.1.2.2.2.2.2.2.2.2.2.1) ?_
        refine r_ireturn e_X10_ball_47 rfl ⟨rfl, rfl⟩ ?_
        (refine ⟨?_, rfl, ?_⟩ <;> ((try unfold V_X10_ball); (try unfold U_X10_ball); (try simp only [if_neg h7_0, if_neg h19_1, if_pos h25_2]); (try rfl)))
      · refine r_aload_n e_X10_ball_28 rfl ?_
        refine r_sipush e_X10_ball_29 sp_m1001 ?_
        refine cV1v e_X10_ball_32 cl_X10_70 ⟨Nat.le_of_ble_eq_true rfl, Nat.le_of_ble_eq_true rfl⟩ ⟨rfl, rfl⟩ k0 (Nat.le_of_ble_eq_true rfl) (S_X10_finding hb1) ?_
        refine r_ireturn e_X10_ball_35 rfl ⟨rfl, rfl⟩ ?_
        (refine ⟨?_, rfl, ?_⟩ <;> ((try unfold V_X10_ball); (try unfold U_X10_ball); (try simp only [if_neg h7_0, if_neg h19_1, if_neg h25_2]); (try rfl)))
  · refine r_aload_n e_X10_ball_10 rfl ?_
    refine r_sipush e_X10_ball_11 sp_m1003 ?_
    refine cV1v e_X10_ball_14 cl_X10_70 ⟨Nat.le_of_ble_eq_true rfl, Nat.le_of_ble_eq_true rfl⟩ ⟨rfl, rfl⟩ k0 (Nat.le_of_ble_eq_true rfl) (S_X10_finding hb1) ?_
    refine r_ireturn e_X10_ball_17 rfl ⟨rfl, rfl⟩ ?_
    (refine ⟨?_, rfl, ?_⟩ <;> ((try unfold V_X10_ball); (try unfold U_X10_ball); (try simp only [if_pos h7_0]); (try rfl)))
def V_X10_robot (x1 : Int32) (x2 : Int32) (M : Mem) : Int32 := if (M.1 122 6) = 0 then (V_X10_finding (-1003 : Int32) M) else (if x1 < 0 then (V_X10_finding (-1001 : Int32) M) else (if (10 : Int32) ≤ x1 then (V_X10_finding (-1001 : Int32) M) else (if x2 < 0 then (V_X10_finding (-1001 : Int32) M) else (if x2 < (11 : Int32) then (V_X5_shown (132 + 2 * x1.toNatClampNeg) x2 M) else (V_X10_finding (-1001 : Int32) M)))))
def U_X10_robot (x1 : Int32) (x2 : Int32) (M : Mem) : Mem := if (M.1 122 6) = 0 then (U_X10_finding (-1003 : Int32) M) else (if x1 < 0 then (U_X10_finding (-1001 : Int32) M) else (if (10 : Int32) ≤ x1 then (U_X10_finding (-1001 : Int32) M) else (if x2 < 0 then (U_X10_finding (-1001 : Int32) M) else (if x2 < (11 : Int32) then M else (U_X10_finding (-1001 : Int32) M)))))
theorem S_X10_robot {sh : List SC} {M : Mem} {x1 : Int32} {x2 : Int32}  (hb1 : PitchAt sh)  : Gv m_X10_robot [.ref 0, .int x1, .int x2] sh M (.int (V_X10_robot x1 x2 M)) (U_X10_robot x1 x2 M) := by
  refine Sp.of (ls := [some (.ref 0), some (.int x1), some (.int x2)]) (by decide +kernel) (Nat.le_of_ble_eq_true rfl) rfl ?_
  have k0 : kd sh 0 = some (9 + 7, 0) := hb1.1
  have k1 : rf sh 0 4 = some 122 := hb1.2.2.2.2.2.1
  have k2 : kd sh 122 = some (2 + 7, 0) := hb1.2.2.2.2.2.2.2.2.2.2.2.2.2.2.2.2.1.1
  have k3 : rf sh 122 3 = some 125 := hb1.2.2.2.2.2.2.2.2.2.2.2.2.2.2.2.2.1.2.2.2.2.1
  have k4 : kd sh 125 = some (6, 10) := hb1.2.2.2.2.2.2.2.2.2.2.2.2.2.2.2.2.1.2.2.2.2.2.2.2.1
  refine r_aload_n e_X10_robot_0 rfl ?_
  refine r_getR e_X10_robot_1 fl_X10_63 k0 k1 ?_
  refine r_getI e_X10_robot_4 fl_X10_115 i3 k2 ?_
  refine r_if_ne e_X10_robot_7 (fun h7_0 => ?_) (fun h7_0 => ?_)
  · refine r_iload_n e_X10_robot_18 rfl ?_
    refine r_if_lt e_X10_robot_19 (fun h19_1 => ?_) (fun h19_1 => ?_)
    · refine r_aload_n e_X10_robot_44 rfl ?_
      refine r_sipush e_X10_robot_45 sp_m1001 ?_
      refine cV1v e_X10_robot_48 cl_X10_70 ⟨Nat.le_of_ble_eq_true rfl, Nat.le_of_ble_eq_true rfl⟩ ⟨rfl, rfl⟩ k0 (Nat.le_of_ble_eq_true rfl) (S_X10_finding hb1) ?_
      refine r_ireturn e_X10_robot_51 rfl ⟨rfl, rfl⟩ ?_
      (refine ⟨?_, rfl, ?_⟩ <;> ((try unfold V_X10_robot); (try unfold U_X10_robot); (try simp only [if_neg h7_0, if_pos h19_1]); (try rfl)))
    · refine r_iload_n e_X10_robot_22 rfl ?_
      refine r_aload_n e_X10_robot_23 rfl ?_
      refine r_getR e_X10_robot_24 fl_X10_63 k0 k1 ?_
      refine r_getR e_X10_robot_27 fl_X10_131 k2 k3 ?_
      refine r_alen (v := (10 : Int32)) e_X10_robot_30 k4 (by decide) rfl ?_
      refine r_icmp_ge e_X10_robot_31 (fun h31_2 => ?_) (fun h31_2 => ?_)
      · refine r_aload_n e_X10_robot_44 rfl ?_
        refine r_sipush e_X10_robot_45 sp_m1001 ?_
        refine cV1v e_X10_robot_48 cl_X10_70 ⟨Nat.le_of_ble_eq_true rfl, Nat.le_of_ble_eq_true rfl⟩ ⟨rfl, rfl⟩ k0 (Nat.le_of_ble_eq_true rfl) (S_X10_finding hb1) ?_
        refine r_ireturn e_X10_robot_51 rfl ⟨rfl, rfl⟩ ?_
        (refine ⟨?_, rfl, ?_⟩ <;> ((try unfold V_X10_robot); (try unfold U_X10_robot); (try simp only [if_neg h7_0, if_neg h19_1, if_pos h31_2]); (try rfl)))
      · refine r_iload_n e_X10_robot_34 rfl ?_
        refine r_if_lt e_X10_robot_35 (fun h35_3 => ?_) (fun h35_3 => ?_)
        · refine r_aload_n e_X10_robot_44 rfl ?_
          refine r_sipush e_X10_robot_45 sp_m1001 ?_
          refine cV1v e_X10_robot_48 cl_X10_70 ⟨Nat.le_of_ble_eq_true rfl, Nat.le_of_ble_eq_true rfl⟩ ⟨rfl, rfl⟩ k0 (Nat.le_of_ble_eq_true rfl) (S_X10_finding hb1) ?_
          refine r_ireturn e_X10_robot_51 rfl ⟨rfl, rfl⟩ ?_
          (refine ⟨?_, rfl, ?_⟩ <;> ((try unfold V_X10_robot); (try unfold U_X10_robot); (try simp only [if_neg h7_0, if_neg h19_1, if_neg h31_2, if_pos h35_3]); (try rfl)))
        · refine r_iload_n e_X10_robot_38 rfl ?_
          refine r_bipush e_X10_robot_39 bp_11 ?_
          refine r_icmp_lt e_X10_robot_41 (fun h41_4 => ?_) (fun h41_4 => ?_)
          · refine r_aload_n e_X10_robot_52 rfl ?_
            refine r_getR e_X10_robot_53 fl_X10_63 k0 k1 ?_
            refine r_getR e_X10_robot_56 fl_X10_131 k2 k3 ?_
            refine r_iload_n e_X10_robot_59 rfl ?_
            refine r_aaload (b := (132 + 2 * x1.toNatClampNeg)) e_X10_robot_60 k4 ⟨by decide, by decide⟩ (vp_guard h19_1 h31_2 (by decide)) (hb1.2.2.2.2.2.2.2.2.2.2.2.2.2.2.2.2.1.2.2.2.2.2.2.2.2.1 x1.toNatClampNeg (vp_lt (vp_guard h19_1 h31_2 (by decide)))).1 ?_
            refine r_iload_n e_X10_robot_61 rfl ?_
            refine cV1v e_X10_robot_62 cl_X10_137 ⟨Nat.le_of_ble_eq_true rfl, Nat.le_of_ble_eq_true rfl⟩ ⟨rfl, rfl⟩ (show kd sh (132 + 2 * x1.toNatClampNeg) = some (5 + 7, 0) from (hb1.2.2.2.2.2.2.2.2.2.2.2.2.2.2.2.2.1.2.2.2.2.2.2.2.2.1 x1.toNatClampNeg (vp_lt (vp_guard h19_1 h31_2 (by decide)))).2.1) (Nat.le_of_ble_eq_true rfl) (S_X5_shown (hb1.2.2.2.2.2.2.2.2.2.2.2.2.2.2.2.2.1.2.2.2.2.2.2.2.2.1 x1.toNatClampNeg (vp_lt (vp_guard h19_1 h31_2 (by decide)))).2) ?_
            refine r_ireturn e_X10_robot_65 rfl ⟨rfl, rfl⟩ ?_
            (refine ⟨?_, rfl, ?_⟩ <;> ((try unfold V_X10_robot); (try unfold U_X10_robot); (try simp only [if_neg h7_0, if_neg h19_1, if_neg h31_2, if_neg h35_3, if_pos h41_4]); (try rfl)))
          · refine r_aload_n e_X10_robot_44 rfl ?_
            refine r_sipush e_X10_robot_45 sp_m1001 ?_
            refine cV1v e_X10_robot_48 cl_X10_70 ⟨Nat.le_of_ble_eq_true rfl, Nat.le_of_ble_eq_true rfl⟩ ⟨rfl, rfl⟩ k0 (Nat.le_of_ble_eq_true rfl) (S_X10_finding hb1) ?_
            refine r_ireturn e_X10_robot_51 rfl ⟨rfl, rfl⟩ ?_
            (refine ⟨?_, rfl, ?_⟩ <;> ((try unfold V_X10_robot); (try unfold U_X10_robot); (try simp only [if_neg h7_0, if_neg h19_1, if_neg h31_2, if_neg h35_3, if_neg h41_4]); (try rfl)))
  · refine r_aload_n e_X10_robot_10 rfl ?_
    refine r_sipush e_X10_robot_11 sp_m1003 ?_
    refine cV1v e_X10_robot_14 cl_X10_70 ⟨Nat.le_of_ble_eq_true rfl, Nat.le_of_ble_eq_true rfl⟩ ⟨rfl, rfl⟩ k0 (Nat.le_of_ble_eq_true rfl) (S_X10_finding hb1) ?_
    refine r_ireturn e_X10_robot_17 rfl ⟨rfl, rfl⟩ ?_
    (refine ⟨?_, rfl, ?_⟩ <;> ((try unfold V_X10_robot); (try unfold U_X10_robot); (try simp only [if_pos h7_0]); (try rfl)))
def V_X10_score (x1 : Int32) (M : Mem) : Int32 := if (M.1 122 6) = 0 then (V_X10_finding (-1003 : Int32) M) else (if x1 < 0 then (V_X10_finding (-1001 : Int32) M) else (if x1 < (9 : Int32) then (let v3_0 : Int32 := if x1 = 0 then (M.1 122 7) else (V_X7_shown 129 x1 M); v3_0) else (V_X10_finding (-1001 : Int32) M)))
def U_X10_score (x1 : Int32) (M : Mem) : Mem := if (M.1 122 6) = 0 then (U_X10_finding (-1003 : Int32) M) else (if x1 < 0 then (U_X10_finding (-1001 : Int32) M) else (if x1 < (9 : Int32) then M else (U_X10_finding (-1001 : Int32) M)))
theorem S_X10_score {sh : List SC} {M : Mem} {x1 : Int32}  (hb1 : PitchAt sh)  : Gv m_X10_score [.ref 0, .int x1] sh M (.int (V_X10_score x1 M)) (U_X10_score x1 M) := by
  refine Sp.of (ls := [some (.ref 0), some (.int x1)]) (by decide +kernel) (Nat.le_of_ble_eq_true rfl) rfl ?_
  have k0 : kd sh 0 = some (9 + 7, 0) := hb1.1
  have k1 : rf sh 0 4 = some 122 := hb1.2.2.2.2.2.1
  have k2 : kd sh 122 = some (2 + 7, 0) := hb1.2.2.2.2.2.2.2.2.2.2.2.2.2.2.2.2.1.1
  have k3 : rf sh 122 5 = some 129 := hb1.2.2.2.2.2.2.2.2.2.2.2.2.2.2.2.2.1.2.2.2.2.2.2.1
  have k4 : kd sh 129 = some (7 + 7, 0) := hb1.2.2.2.2.2.2.2.2.2.2.2.2.2.2.2.2.1.2.2.2.2.2.2.2.2.2.2.1.1
  refine r_aload_n e_X10_score_0 rfl ?_
  refine r_getR e_X10_score_1 fl_X10_63 k0 k1 ?_
  refine r_getI e_X10_score_4 fl_X10_115 i3 k2 ?_
  refine r_if_ne e_X10_score_7 (fun h7_0 => ?_) (fun h7_0 => ?_)
  · refine r_iload_n e_X10_score_18 rfl ?_
    refine r_if_lt e_X10_score_19 (fun h19_1 => ?_) (fun h19_1 => ?_)
    · refine r_aload_n e_X10_score_28 rfl ?_
      refine r_sipush e_X10_score_29 sp_m1001 ?_
      refine cV1v e_X10_score_32 cl_X10_70 ⟨Nat.le_of_ble_eq_true rfl, Nat.le_of_ble_eq_true rfl⟩ ⟨rfl, rfl⟩ k0 (Nat.le_of_ble_eq_true rfl) (S_X10_finding hb1) ?_
      refine r_ireturn e_X10_score_35 rfl ⟨rfl, rfl⟩ ?_
      (refine ⟨?_, rfl, ?_⟩ <;> ((try unfold V_X10_score); (try unfold U_X10_score); (try simp only [if_neg h7_0, if_pos h19_1]); (try rfl)))
    · refine r_iload_n e_X10_score_22 rfl ?_
      refine r_bipush e_X10_score_23 bp_9 ?_
      refine r_icmp_lt e_X10_score_25 (fun h25_2 => ?_) (fun h25_2 => ?_)
      · refine r_iload_n e_X10_score_36 rfl ?_
        obtain ⟨v3_0, e_v3_0⟩ : ∃ z : Int32, z = (if x1 = 0 then (M.1 122 7) else (V_X7_shown 129 x1 M)) := ⟨_, rfl⟩
        suffices j61_3 : WP m_X10_score (fun r sh' M'' => r = some (.int (V_X10_score x1 M)) ∧ sh' = sh ∧ M'' = (U_X10_score x1 M)) 61 [some (.ref 0), some (.int x1)] [.int v3_0] sh M 0 0 by
          refine r_if_ne e_X10_score_37 (fun h37_3 => ?_) (fun h37_3 => ?_)
          · refine r_aload_n e_X10_score_50 rfl ?_
            refine r_getR e_X10_score_51 fl_X10_63 k0 k1 ?_
            refine r_getR e_X10_score_54 fl_X10_143 k2 k3 ?_
            refine r_iload_n e_X10_score_57 rfl ?_
            refine cV1v e_X10_score_58 cl_X10_147 ⟨Nat.le_of_ble_eq_true rfl, Nat.le_of_ble_eq_true rfl⟩ ⟨rfl, rfl⟩ k4 (Nat.le_of_ble_eq_true rfl) (S_X7_shown hb1.2.2.2.2.2.2.2.2.2.2.2.2.2.2.2.2.1.2.2.2.2.2.2.2.2.2.2.1) ?_
            rw [show v3_0 = (V_X7_shown 129 x1 M) from (e_v3_0.trans (if_neg h37_3))] at j61_3; exact j61_3
          · refine r_aload_n e_X10_score_40 rfl ?_
            refine r_getR e_X10_score_41 fl_X10_63 k0 k1 ?_
            refine r_getI e_X10_score_44 fl_X10_140 i0 k2 ?_
            refine r_goto e_X10_score_47 ?_
            rw [show v3_0 = (M.1 122 7) from (e_v3_0.trans (if_pos h37_3))] at j61_3; exact j61_3
        refine r_ireturn e_X10_score_61 rfl ⟨rfl, rfl⟩ ?_
        (subst e_v3_0; refine ⟨?_, rfl, ?_⟩ <;> ((try unfold V_X10_score); (try unfold U_X10_score); (try simp only [if_neg h7_0, if_neg h19_1, if_pos h25_2]); (try rfl)))
      · refine r_aload_n e_X10_score_28 rfl ?_
        refine r_sipush e_X10_score_29 sp_m1001 ?_
        refine cV1v e_X10_score_32 cl_X10_70 ⟨Nat.le_of_ble_eq_true rfl, Nat.le_of_ble_eq_true rfl⟩ ⟨rfl, rfl⟩ k0 (Nat.le_of_ble_eq_true rfl) (S_X10_finding hb1) ?_
        refine r_ireturn e_X10_score_35 rfl ⟨rfl, rfl⟩ ?_
        (refine ⟨?_, rfl, ?_⟩ <;> ((try unfold V_X10_score); (try unfold U_X10_score); (try simp only [if_neg h7_0, if_neg h19_1, if_neg h25_2]); (try rfl)))
  · refine r_aload_n e_X10_score_10 rfl ?_
    refine r_sipush e_X10_score_11 sp_m1003 ?_
    refine cV1v e_X10_score_14 cl_X10_70 ⟨Nat.le_of_ble_eq_true rfl, Nat.le_of_ble_eq_true rfl⟩ ⟨rfl, rfl⟩ k0 (Nat.le_of_ble_eq_true rfl) (S_X10_finding hb1) ?_
    refine r_ireturn e_X10_score_17 rfl ⟨rfl, rfl⟩ ?_
    (refine ⟨?_, rfl, ?_⟩ <;> ((try unfold V_X10_score); (try unfold U_X10_score); (try simp only [if_pos h7_0]); (try rfl)))
def V_X10_goal (x1 : Int32) (M : Mem) : Int32 := if (M.1 122 6) = 0 then (V_X10_finding (-1003 : Int32) M) else (if x1 < 0 then (V_X10_finding (-1004 : Int32) M) else (if x1 < (V_X7_listed 129 M) then (V_X7_goalAt 129 x1 M) else (V_X10_finding (-1004 : Int32) M)))
def U_X10_goal (x1 : Int32) (M : Mem) : Mem := if (M.1 122 6) = 0 then (U_X10_finding (-1003 : Int32) M) else (if x1 < 0 then (U_X10_finding (-1004 : Int32) M) else (if x1 < (V_X7_listed 129 M) then M else (U_X10_finding (-1004 : Int32) M)))
theorem S_X10_goal {sh : List SC} {M : Mem} {x1 : Int32}  (hb1 : PitchAt sh)  : Gv m_X10_goal [.ref 0, .int x1] sh M (.int (V_X10_goal x1 M)) (U_X10_goal x1 M) := by
  refine Sp.of (ls := [some (.ref 0), some (.int x1)]) (by decide +kernel) (Nat.le_of_ble_eq_true rfl) rfl ?_
  have k0 : kd sh 0 = some (9 + 7, 0) := hb1.1
  have k1 : rf sh 0 4 = some 122 := hb1.2.2.2.2.2.1
  have k2 : kd sh 122 = some (2 + 7, 0) := hb1.2.2.2.2.2.2.2.2.2.2.2.2.2.2.2.2.1.1
  have k3 : rf sh 122 5 = some 129 := hb1.2.2.2.2.2.2.2.2.2.2.2.2.2.2.2.2.1.2.2.2.2.2.2.1
  have k4 : kd sh 129 = some (7 + 7, 0) := hb1.2.2.2.2.2.2.2.2.2.2.2.2.2.2.2.2.1.2.2.2.2.2.2.2.2.2.2.1.1
  refine r_aload_n e_X10_goal_0 rfl ?_
  refine r_getR e_X10_goal_1 fl_X10_63 k0 k1 ?_
  refine r_getI e_X10_goal_4 fl_X10_115 i3 k2 ?_
  refine r_if_ne e_X10_goal_7 (fun h7_0 => ?_) (fun h7_0 => ?_)
  · refine r_iload_n e_X10_goal_18 rfl ?_
    refine r_if_lt e_X10_goal_19 (fun h19_1 => ?_) (fun h19_1 => ?_)
    · refine r_aload_n e_X10_goal_36 rfl ?_
      refine r_sipush e_X10_goal_37 sp_m1004 ?_
      refine cV1v e_X10_goal_40 cl_X10_70 ⟨Nat.le_of_ble_eq_true rfl, Nat.le_of_ble_eq_true rfl⟩ ⟨rfl, rfl⟩ k0 (Nat.le_of_ble_eq_true rfl) (S_X10_finding hb1) ?_
      refine r_ireturn e_X10_goal_43 rfl ⟨rfl, rfl⟩ ?_
      (refine ⟨?_, rfl, ?_⟩ <;> ((try unfold V_X10_goal); (try unfold U_X10_goal); (try simp only [if_neg h7_0, if_pos h19_1]); (try rfl)))
    · refine r_iload_n e_X10_goal_22 rfl ?_
      refine r_aload_n e_X10_goal_23 rfl ?_
      refine r_getR e_X10_goal_24 fl_X10_63 k0 k1 ?_
      refine r_getR e_X10_goal_27 fl_X10_143 k2 k3 ?_
      refine cV0v e_X10_goal_30 cl_X10_148 ⟨Nat.le_of_ble_eq_true rfl, Nat.le_of_ble_eq_true rfl⟩ ⟨rfl, rfl⟩ k4 (Nat.le_of_ble_eq_true rfl) (S_X7_listed hb1.2.2.2.2.2.2.2.2.2.2.2.2.2.2.2.2.1.2.2.2.2.2.2.2.2.2.2.1) ?_
      refine r_icmp_lt e_X10_goal_33 (fun h33_2 => ?_) (fun h33_2 => ?_)
      · refine r_aload_n e_X10_goal_44 rfl ?_
        refine r_getR e_X10_goal_45 fl_X10_63 k0 k1 ?_
        refine r_getR e_X10_goal_48 fl_X10_143 k2 k3 ?_
        refine r_iload_n e_X10_goal_51 rfl ?_
        refine cV1v e_X10_goal_52 cl_X10_151 ⟨Nat.le_of_ble_eq_true rfl, Nat.le_of_ble_eq_true rfl⟩ ⟨rfl, rfl⟩ k4 (Nat.le_of_ble_eq_true rfl) (S_X7_goalAt hb1.2.2.2.2.2.2.2.2.2.2.2.2.2.2.2.2.1.2.2.2.2.2.2.2.2.2.2.1) ?_
        refine r_ireturn e_X10_goal_55 rfl ⟨rfl, rfl⟩ ?_
        (refine ⟨?_, rfl, ?_⟩ <;> ((try unfold V_X10_goal); (try unfold U_X10_goal); (try simp only [if_neg h7_0, if_neg h19_1, if_pos h33_2]); (try rfl)))
      · refine r_aload_n e_X10_goal_36 rfl ?_
        refine r_sipush e_X10_goal_37 sp_m1004 ?_
        refine cV1v e_X10_goal_40 cl_X10_70 ⟨Nat.le_of_ble_eq_true rfl, Nat.le_of_ble_eq_true rfl⟩ ⟨rfl, rfl⟩ k0 (Nat.le_of_ble_eq_true rfl) (S_X10_finding hb1) ?_
        refine r_ireturn e_X10_goal_43 rfl ⟨rfl, rfl⟩ ?_
        (refine ⟨?_, rfl, ?_⟩ <;> ((try unfold V_X10_goal); (try unfold U_X10_goal); (try simp only [if_neg h7_0, if_neg h19_1, if_neg h33_2]); (try rfl)))
  · refine r_aload_n e_X10_goal_10 rfl ?_
    refine r_sipush e_X10_goal_11 sp_m1003 ?_
    refine cV1v e_X10_goal_14 cl_X10_70 ⟨Nat.le_of_ble_eq_true rfl, Nat.le_of_ble_eq_true rfl⟩ ⟨rfl, rfl⟩ k0 (Nat.le_of_ble_eq_true rfl) (S_X10_finding hb1) ?_
    refine r_ireturn e_X10_goal_17 rfl ⟨rfl, rfl⟩ ?_
    (refine ⟨?_, rfl, ?_⟩ <;> ((try unfold V_X10_goal); (try unfold U_X10_goal); (try simp only [if_pos h7_0]); (try rfl)))
def F_X2_copy_56 (a : Nat) (x1 : Nat) : Nat → Nat → Mem → Mem
  | 0, i56, M => M
  | n + 1, i56, M => (F_X2_copy_56 a x1 n (i56 + 1) (U_X5_copy (a + 10 + 2 * i56) (x1 + 10 + 2 * i56) M))
def H_X2_copy_56 (a : Nat) (x1 : Nat) : Nat → Nat → Mem → Prop
  | 0, i56, M => True
  | n + 1, i56, M => (∀ i56 : Nat, i56 < 10 → (M.1 (x1 + 10 + 2 * i56) 8) = 0 ∨ (M.1 (x1 + 10 + 2 * i56) 8) = 1) ∧ ((H_X2_copy_56 a x1 n (i56 + 1) (U_X5_copy (a + 10 + 2 * i56) (x1 + 10 + 2 * i56) M)))
theorem L_X2_copy_56 {sh : List SC} {Q : Po} {a : Nat} {x1 : Nat}    (hb1 : MatchAt sh a) (hb2 : MatchAt sh x1)   : ∀ (n i56 : Nat) (M : Mem), i56 + n = 10 → H_X2_copy_56 a x1 n i56 M → WP m_X2_copy Q 95 [some (.ref a), some (.ref x1), none] [] sh (F_X2_copy_56 a x1 n i56 M) 0 0 → WP m_X2_copy Q 56 [some (.ref a), some (.ref x1), some (.int (nI i56))] [] sh M 0 0 := by
  have k0 : kd sh a = some (2 + 7, 0) := hb1.1
  have k1 : rf sh a 3 = some (a + 3) := hb1.2.2.2.2.1
  have k2 : kd sh (a + 3) = some (6, 10) := hb1.2.2.2.2.2.2.2.1
  have k3 : kd sh x1 = some (2 + 7, 0) := hb2.1
  have k4 : rf sh x1 3 = some (x1 + 3) := hb2.2.2.2.2.1
  have k5 : kd sh (x1 + 3) = some (6, 10) := hb2.2.2.2.2.2.2.2.1
  intro n
  induction n with
  | zero =>
    intro i56 M hi _ hq
    have hz : (10 : Int32) ≤ nI i56 := by
      have q : i56 = 10 := by omega
      rw [q]; exact nI_le (Nat.le_refl _) (by decide)
    refine r_iload_n e_X2_copy_56 rfl ?_
    refine r_aload_n e_X2_copy_57 rfl ?_
    refine r_getR e_X2_copy_58 fl_X2_20 k0 k1 ?_
    refine r_alen (v := (10 : Int32)) e_X2_copy_61 k2 (by decide) rfl ?_
    refine r_icmp_ge e_X2_copy_62 (fun _ => ?_) (fun hh => absurd hz hh)
    refine d_3_2 ?_
    (simp only [F_X2_copy_56] at hq; first | exact hq | (simp only []; exact hq))
  | succ n ih =>
    intro i56 M hi hH hq
    unfold H_X2_copy_56 at hH
    obtain ⟨g1, hH⟩ := hH
    have hlt_i56 : i56 < 10 := by omega
    have hcl_i56 : (nI i56).toNatClampNeg = i56 := nI_clamp (by omega)
    have hs : ¬ (10 : Int32) ≤ nI i56 := nI_ge (b := 10) hlt_i56 (by decide)
    refine r_iload_n e_X2_copy_56 rfl ?_
    refine r_aload_n e_X2_copy_57 rfl ?_
    refine r_getR e_X2_copy_58 fl_X2_20 k0 k1 ?_
    refine r_alen (v := (10 : Int32)) e_X2_copy_61 k2 (by decide) rfl ?_
    refine r_icmp_ge e_X2_copy_62 (fun hh => absurd hh hs) (fun _ => ?_)
    refine r_iload_n e_X2_copy_65 rfl ?_
    refine r_aload_n e_X2_copy_66 rfl ?_
    refine r_getR e_X2_copy_67 fl_X2_20 k3 k4 ?_
    refine r_alen (v := (10 : Int32)) e_X2_copy_70 k5 (by decide) rfl ?_
    refine r_icmp_ge e_X2_copy_71 (fun hh => absurd hh hs) (fun _ => ?_)
    refine r_aload_n e_X2_copy_74 rfl ?_
    refine r_getR e_X2_copy_75 fl_X2_20 k0 k1 ?_
    refine r_iload_n e_X2_copy_78 rfl ?_
    refine r_aaload (b := (a + 10 + 2 * i56)) e_X2_copy_79 k2 ⟨by decide, by decide⟩ (vp_in_nI (Nat.lt_of_lt_of_le hlt_i56 (by decide)) (by decide)) (by rw [hcl_i56]; exact (hb1.2.2.2.2.2.2.2.2.1 i56 (Nat.lt_of_lt_of_le hlt_i56 (by decide))).1) ?_
    refine r_aload_n e_X2_copy_80 rfl ?_
    refine r_getR e_X2_copy_81 fl_X2_20 k3 k4 ?_
    refine r_iload_n e_X2_copy_84 rfl ?_
    refine r_aaload (b := (x1 + 10 + 2 * i56)) e_X2_copy_85 k5 ⟨by decide, by decide⟩ (vp_in_nI (Nat.lt_of_lt_of_le hlt_i56 (by decide)) (by decide)) (by rw [hcl_i56]; exact (hb2.2.2.2.2.2.2.2.2.1 i56 (Nat.lt_of_lt_of_le hlt_i56 (by decide))).1) ?_
    refine cV1u e_X2_copy_86 cl_X2_269 ⟨Nat.le_of_ble_eq_true rfl, Nat.le_of_ble_eq_true rfl⟩ ⟨rfl, rfl⟩ (show kd sh (a + 10 + 2 * i56) = some (5 + 7, 0) from (hb1.2.2.2.2.2.2.2.2.1 i56 (Nat.lt_of_lt_of_le hlt_i56 (by decide))).2.1) (Nat.le_of_ble_eq_true rfl) (S_X5_copy (hb1.2.2.2.2.2.2.2.2.1 i56 (Nat.lt_of_lt_of_le hlt_i56 (by decide))).2 (hb2.2.2.2.2.2.2.2.2.1 i56 (Nat.lt_of_lt_of_le hlt_i56 (by decide))).2 (g1 i56 hlt_i56)) ?_
    refine p_iinc_3_2 e_X2_copy_89 rfl ic_1 rfl ?_
    rw [nI_1 i56]
    refine r_goto e_X2_copy_92 ?_
    (simp only [F_X2_copy_56] at hq; (try simp only [] at hH); first | exact ih (i56 + 1) _ (by omega) hH hq | (simp only []; exact ih (i56 + 1) _ (by omega) hH hq))
def U_X2_copy (a : Nat) (x1 : Nat) (M : Mem) : Mem := (let Mc1 : Mem := U_X7_copy (a + 7) (x1 + 7) (U_X0_copy (a + 4) (x1 + 4) (setI (setI (setI (setI M a 6 (M.1 x1 6)) a 7 (M.1 x1 7)) a 8 (M.1 x1 8)) a 9 (M.1 x1 9))); (F_X2_copy_56 a x1 10 0 Mc1))
def P_X2_copy (a : Nat) (x1 : Nat) (M : Mem) : Prop := (H_X2_copy_56 a x1 10 0 (U_X7_copy (a + 7) (x1 + 7) (U_X0_copy (a + 4) (x1 + 4) (setI (setI (setI (setI M a 6 (M.1 x1 6)) a 7 (M.1 x1 7)) a 8 (M.1 x1 8)) a 9 (M.1 x1 9)))))
theorem S_X2_copy {sh : List SC} {M : Mem} {a : Nat} {x1 : Nat}  (hb1 : MatchAt sh a) (hb2 : MatchAt sh x1) (g1 : (M.1 x1 6) = 0 ∨ (M.1 x1 6) = 1) (hP : P_X2_copy a x1 M) : Gu m_X2_copy [.ref a, .ref x1] sh M (U_X2_copy a x1 M) := by
  refine Sp.of (ls := [some (.ref a), some (.ref x1), none]) (by decide +kernel) (Nat.le_of_ble_eq_true rfl) rfl ?_
  have g2 : H_X2_copy_56 a x1 10 0 (U_X7_copy (a + 7) (x1 + 7) (U_X0_copy (a + 4) (x1 + 4) (setI (setI (setI (setI M a 6 (M.1 x1 6)) a 7 (M.1 x1 7)) a 8 (M.1 x1 8)) a 9 (M.1 x1 9)))) := hP
  have k0 : kd sh x1 = some (2 + 7, 0) := hb2.1
  have k1 : kd sh a = some (2 + 7, 0) := hb1.1
  have k2 : rf sh a 4 = some (a + 4) := hb1.2.2.2.2.2.1
  have k3 : rf sh x1 4 = some (x1 + 4) := hb2.2.2.2.2.2.1
  have k4 : kd sh (a + 4) = some (0 + 7, 0) := hb1.2.2.2.2.2.2.2.2.2.1.1
  have k5 : rf sh a 5 = some (a + 7) := hb1.2.2.2.2.2.2.1
  have k6 : rf sh x1 5 = some (x1 + 7) := hb2.2.2.2.2.2.2.1
  have k7 : kd sh (a + 7) = some (7 + 7, 0) := hb1.2.2.2.2.2.2.2.2.2.2.1.1
  refine r_aload_n e_X2_copy_0 rfl ?_
  refine r_aload_n e_X2_copy_1 rfl ?_
  refine r_getI e_X2_copy_2 fl_X2_38 i3 k0 ?_
  refine r_putZ e_X2_copy_5 fl_X2_38 g1 k1 ?_
  refine r_aload_n e_X2_copy_8 rfl ?_
  refine r_aload_n e_X2_copy_9 rfl ?_
  refine r_getIe e_X2_copy_10 fl_X2_42 i0 k0 (gs_nI (by decide)) ?_
  refine r_putI e_X2_copy_13 fl_X2_42 k1 ?_
  refine r_aload_n e_X2_copy_16 rfl ?_
  refine r_aload_n e_X2_copy_17 rfl ?_
  refine r_getIe e_X2_copy_18 fl_X2_46 i0 k0 ((gs_nI (by decide)).trans (gs_nI (by decide))) ?_
  refine r_putI e_X2_copy_21 fl_X2_46 k1 ?_
  refine r_aload_n e_X2_copy_24 rfl ?_
  refine r_aload_n e_X2_copy_25 rfl ?_
  refine r_getIe e_X2_copy_26 fl_X2_49 i0 k0 ((gs_nI (by decide)).trans ((gs_nI (by decide)).trans (gs_nI (by decide)))) ?_
  refine r_putI e_X2_copy_29 fl_X2_49 k1 ?_
  refine r_aload_n e_X2_copy_32 rfl ?_
  refine r_getR e_X2_copy_33 fl_X2_27 k1 k2 ?_
  refine r_aload_n e_X2_copy_36 rfl ?_
  refine r_getR e_X2_copy_37 fl_X2_27 k0 k3 ?_
  refine cV1u e_X2_copy_40 cl_X2_262 ⟨Nat.le_of_ble_eq_true rfl, Nat.le_of_ble_eq_true rfl⟩ ⟨rfl, rfl⟩ k4 (Nat.le_of_ble_eq_true rfl) (S_X0_copy hb1.2.2.2.2.2.2.2.2.2.1 hb2.2.2.2.2.2.2.2.2.2.1) ?_
  refine r_aload_n e_X2_copy_43 rfl ?_
  refine r_getR e_X2_copy_44 fl_X2_34 k1 k5 ?_
  refine r_aload_n e_X2_copy_47 rfl ?_
  refine r_getR e_X2_copy_48 fl_X2_34 k0 k6 ?_
  refine cV1u e_X2_copy_51 cl_X2_266 ⟨Nat.le_of_ble_eq_true rfl, Nat.le_of_ble_eq_true rfl⟩ ⟨rfl, rfl⟩ k7 (Nat.le_of_ble_eq_true rfl) (S_X7_copy hb1.2.2.2.2.2.2.2.2.2.2.1 hb2.2.2.2.2.2.2.2.2.2.2.1) ?_
  obtain ⟨Mc1, e_Mc1⟩ : ∃ z : Mem, z = (U_X7_copy (a + 7) (x1 + 7) (U_X0_copy (a + 4) (x1 + 4) (setI (setI (setI (setI M a 6 (M.1 x1 6)) a 7 (M.1 x1 7)) a 8 (M.1 x1 8)) a 9 (M.1 x1 9)))) := ⟨_, rfl⟩
  rw [← e_Mc1]
  refine r_iconst e_X2_copy_54 ic_0 ?_
  refine p_istore_n_3_2 e_X2_copy_55 rfl rfl ?_
  skip
  show WP m_X2_copy _ 56 [some (.ref a), some (.ref x1), some (.int (nI 0))] [] sh Mc1 0 0
  refine L_X2_copy_56 hb1 hb2 10 0  Mc1 (by omega) (by subst e_Mc1; exact g2 ) ?_
  refine r_return e_X2_copy_95 rfl ⟨rfl, rfl⟩ ?_
  (subst e_Mc1; refine ⟨?_, rfl, ?_⟩ <;> ((try unfold U_X2_copy); (try simp only []); (try rfl)))
