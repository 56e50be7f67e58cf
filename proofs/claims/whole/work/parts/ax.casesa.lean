/-! ===== the law's cases: one call on the class, the same on the model ===== -/
section LWC
variable {p : Program} {l : Launch} {e : Env} {s : State} {m : MethodId} {below : List Frame} {meth : Method} {c : Code} {b L : Nat} {xs : Nat → Int32} {Z : State → Prop}
variable {pc : Nat} {st : List Value} {sh : List SC} {M : Mem} {n1 n2 : Nat}
theorem gv_cast {k : MT} {as : List Value} {v v' : Int32} {M' M'' : Mem} (h : Gv k as sh M (.int v) M') (e : some (v, M') = some (v', M'')) : Gv k as sh M (.int v') M'' := by
  cases e
  exact h
/-- the law's locals: the script, the class's object, the model's, the place -/
def LL (t : Nat) : List (Option Value) := [some (.retAddr 9), some (.ref 0), some (.ref 242), some (.int (nI t))]
def Ar (xs : Nat → Int32) (t j : Nat) : Int32 := xs (nI (t + j)).toNatClampNeg
def Lg (a b : Int32) : Int64 := (a.toInt64 <<< ((32 : Int32).toInt64 &&& 63)) ||| (b.toInt64 &&& 4294967295)
def DA (pc : Nat) (n : Int) : Prop := decode code pc = .ok (.aload_n 0, 1) ∧ decode code (pc + 1) = .ok (.iload_n 3, 1) ∧ decode code (pc + 2) = .ok (.iconst n, 1) ∧ decode code (pc + 3) = .ok (.iadd, 1) ∧ decode code (pc + 4) = .ok (.iaload, 1)
theorem ll_in {t : Nat} (h : t < L) (hL : L ≤ 2560) : vp_in (nI t) L := by
  intro q
  rcases q with q | q
  · exact absurd q (Int32.not_lt.mpr (nI_pos' (by omega)))
  · rw [nI_clamp (by omega)] at q
    omega
theorem l_arg {t j : Nat} {n : Int} (C : LwC p s m c b L xs) (d : DA pc n) (hn : Int32.ofInt n = nI j) (ht : t + j < L) (hL : L ≤ 2560) (h : LWP p l e s m below meth c b Z (pc + 5) (LL t) (.int (Ar xs t j) :: st) sh M n1 n2) : LWP p l e s m below meth c b Z pc (LL t) st sh M n1 n2 := by
  obtain ⟨d1, d2, d3, d4, d5⟩ := d
  refine l_aloadX_n C d1 (x := 9) rfl ?_
  refine l_iload_n C d2 (x := nI t) rfl ?_
  refine l_iconst C d3 hn ?_
  refine l_iadd C d4 ?_
  have e1 : nI t + nI j = nI (t + j) := (Int32.ofNat_add t j).symm
  rw [e1]
  exact l_sld C (ll_in ht hL) d5 h
theorem l_call {k' : MT} {idx n ci a : Nat} {As : List Value} {st0 : List Value} {ls : List (Option Value)} {v : Int32} {M' : Mem} (C : LwC p s m c b L xs) (hml : c.maxLocals = 4) (hd : decode code pc = .ok (.invokevirtual idx, 3)) (hC : CV R_law idx k' n ci) (hR : Rm m_law k') (hr : k'.2.2.2.2.2.2.1 = 0 ∧ k'.2.2.2.2.2.2.2 = 0) (hk : kd sh a = some (ci + 7, 0)) (hn : As.length = n) (hst : stOk st) (hM : Gv k' (.ref a :: As) sh M (.int v) M') (hs : st0 = As.reverse ++ .ref a :: st) (hw : n1 ≤ room_1.cells ∧ n2 ≤ room_1.slots) (h : LWP p l e s m below meth c b Z (pc + 3) ls (.int v :: st) sh M' n1 n2) : LWP p l e s m below meth c b Z pc ls st0 sh M n1 n2 := by
  refine l_callV C hml hd hC hR hr hk hn hst hM hs hw ?_
  intro r sh' M'' q
  obtain ⟨rfl, rfl, rfl⟩ := q
  exact ⟨rfl, h⟩
theorem kd0F : kd SHF 0 = some (9 + 7, 0) := by decide +kernel
theorem kd1F : kd SHF 242 = some (10 + 7, 0) := by decide +kernel
theorem case_feed {K t : Nat} (C : LwC p s m c b L xs) (hml : c.maxLocals = 4) (ht : t + 4 < L) (hL : L ≤ 2560) (hK : K < 2 ^ 29) (hG : GR K M M) (hw : n1 ≤ room_1.cells ∧ n2 ≤ room_1.slots) (h : ∀ M2, GR (K + 50) M2 M2 → LWP p l e s m below meth c b Z 762 (LL t) [] SHF M2 n1 n2) : LWP p l e s m below meth c b Z 136 (LL t) [] SHF M n1 n2 := by
  obtain ⟨v, M1, M2, e1, e2, e3⟩ := (feed_S (K := K) (x := Lg (Ar xs t 1) (Ar xs t 2)) (y := Ar xs t 3)).run hG
  refine l_aload_n C d_law_136 (x := 0) rfl ?_
  refine l_arg (j := 1) C ⟨d_law_137, d_law_138, d_law_139, d_law_140, d_law_141⟩ (by decide) (by omega) hL ?_
  refine l_i2l C d_law_142 ?_
  refine l_bipush (v := 32) C d_law_143 (by decide) ?_
  refine l_lshl C d_law_145 ?_
  refine l_arg (j := 2) C ⟨d_law_146, d_law_147, d_law_148, d_law_149, d_law_150⟩ (by decide) (by omega) hL ?_
  refine l_i2l C d_law_151 ?_
  refine l_ldc2 C d_law_152 kl_law_13 ?_
  refine l_land C d_law_155 ?_
  refine l_lor C d_law_156 ?_
  refine l_arg (j := 3) C ⟨d_law_157, d_law_158, d_law_159, d_law_160, d_law_161⟩ (by decide) (by omega) hL ?_
  refine l_call (As := [.long (Lg (Ar xs t 1) (Ar xs t 2)), .int (Ar xs t 3)]) (st := []) (v := v) (M' := M1) C hml d_law_162 cl_law_15 ⟨Nat.le_of_ble_eq_true rfl, Nat.le_of_ble_eq_true rfl⟩ ⟨rfl, rfl⟩ kd0F rfl (Nat.le_of_ble_eq_true rfl) (S_X10_feed (x1 := Lg (Ar xs t 1) (Ar xs t 2)) (x2 := Ar xs t 3) pitchF e1) rfl hw ?_
  refine l_aload_n C d_law_165 (x := 242) rfl ?_
  refine l_arg (j := 1) C ⟨d_law_166, d_law_167, d_law_168, d_law_169, d_law_170⟩ (by decide) (by omega) hL ?_
  refine l_i2l C d_law_171 ?_
  refine l_bipush (v := 32) C d_law_172 (by decide) ?_
  refine l_lshl C d_law_174 ?_
  refine l_arg (j := 2) C ⟨d_law_175, d_law_176, d_law_177, d_law_178, d_law_179⟩ (by decide) (by omega) hL ?_
  refine l_i2l C d_law_180 ?_
  refine l_ldc2 C d_law_181 kl_law_13 ?_
  refine l_land C d_law_184 ?_
  refine l_lor C d_law_185 ?_
  refine l_arg (j := 3) C ⟨d_law_186, d_law_187, d_law_188, d_law_189, d_law_190⟩ (by decide) (by omega) hL ?_
  refine l_call (As := [.long (Lg (Ar xs t 1) (Ar xs t 2)), .int (Ar xs t 3)]) (st := [.int v]) (v := v) (M' := M2) C hml d_law_191 cl_law_19 ⟨Nat.le_of_ble_eq_true rfl, Nat.le_of_ble_eq_true rfl⟩ ⟨rfl, rfl⟩ kd1F rfl (Nat.le_of_ble_eq_true rfl) (S_X11_feed (x1 := Lg (Ar xs t 1) (Ar xs t 2)) (x2 := Ar xs t 3) modelF e2) rfl hw ?_
  exact l_icmp_eq (tgt := 762) C d_law_194 (by decide) (fun _ => h M2 e3) (fun q => absurd rfl q)
theorem case_read {K t : Nat} (C : LwC p s m c b L xs) (hml : c.maxLocals = 4) (ht : t + 4 < L) (hL : L ≤ 2560) (hK : K < 2 ^ 29) (hG : GR K M M) (hw : n1 ≤ room_1.cells ∧ n2 ≤ room_1.slots) (h : ∀ M2, GR (K + 50) M2 M2 → LWP p l e s m below meth c b Z 762 (LL t) [] SHF M2 n1 n2) : LWP p l e s m below meth c b Z 199 (LL t) [] SHF M n1 n2 := by
  obtain ⟨v, M1, M2, e1, e2, e3⟩ := (read_S (K := K) ).run hG
  refine l_aload_n C d_law_199 (x := 0) rfl ?_
  refine l_call (As := []) (st := []) (v := v) (M' := M1) C hml d_law_200 cl_law_20 ⟨Nat.le_of_ble_eq_true rfl, Nat.le_of_ble_eq_true rfl⟩ ⟨rfl, rfl⟩ kd0F rfl (Nat.le_of_ble_eq_true rfl) (S_X10_read  pitchF e1) rfl hw ?_
  refine l_aload_n C d_law_203 (x := 242) rfl ?_
  refine l_call (As := []) (st := [.int v]) (v := v) (M' := M2) C hml d_law_204 cl_law_24 ⟨Nat.le_of_ble_eq_true rfl, Nat.le_of_ble_eq_true rfl⟩ ⟨rfl, rfl⟩ kd1F rfl (Nat.le_of_ble_eq_true rfl) (S_X11_read  modelF e2) rfl hw ?_
  exact l_icmp_eq (tgt := 762) C d_law_207 (by decide) (fun _ => h M2 e3) (fun q => absurd rfl q)
theorem case_fault {K t : Nat} (C : LwC p s m c b L xs) (hml : c.maxLocals = 4) (ht : t + 4 < L) (hL : L ≤ 2560) (hK : K < 2 ^ 29) (hG : GR K M M) (hw : n1 ≤ room_1.cells ∧ n2 ≤ room_1.slots) (h : ∀ M2, GR (K + 50) M2 M2 → LWP p l e s m below meth c b Z 762 (LL t) [] SHF M2 n1 n2) : LWP p l e s m below meth c b Z 212 (LL t) [] SHF M n1 n2 := by
  obtain ⟨v, M1, M2, e1, e2, e3⟩ := (fault_sim (K := K) ).run hG
  refine l_aload_n C d_law_212 (x := 0) rfl ?_
  refine l_call (As := []) (st := []) (v := v) (M' := M1) C hml d_law_213 cl_law_25 ⟨Nat.le_of_ble_eq_true rfl, Nat.le_of_ble_eq_true rfl⟩ ⟨rfl, rfl⟩ kd0F rfl (Nat.le_of_ble_eq_true rfl) (gv_cast (S_X10_fault  pitchF) e1) rfl hw ?_
  refine l_aload_n C d_law_216 (x := 242) rfl ?_
  refine l_call (As := []) (st := [.int v]) (v := v) (M' := M2) C hml d_law_217 cl_law_28 ⟨Nat.le_of_ble_eq_true rfl, Nat.le_of_ble_eq_true rfl⟩ ⟨rfl, rfl⟩ kd1F rfl (Nat.le_of_ble_eq_true rfl) (gv_cast (S_X11_fault  modelF) e2) rfl hw ?_
  exact l_icmp_eq (tgt := 762) C d_law_220 (by decide) (fun _ => h M2 e3) (fun q => absurd rfl q)
theorem case_program {K t : Nat} (C : LwC p s m c b L xs) (hml : c.maxLocals = 4) (ht : t + 4 < L) (hL : L ≤ 2560) (hK : K < 2 ^ 29) (hG : GR K M M) (hw : n1 ≤ room_1.cells ∧ n2 ≤ room_1.slots) (h : ∀ M2, GR (K + 50) M2 M2 → LWP p l e s m below meth c b Z 762 (LL t) [] SHF M2 n1 n2) : LWP p l e s m below meth c b Z 225 (LL t) [] SHF M n1 n2 := by
  obtain ⟨v, M1, M2, e1, e2, e3⟩ := (program_sim (K := K) (x := Ar xs t 1) (y := Ar xs t 2) (z := Ar xs t 3)).run hG
  refine l_aload_n C d_law_225 (x := 0) rfl ?_
  refine l_arg (j := 1) C ⟨d_law_226, d_law_227, d_law_228, d_law_229, d_law_230⟩ (by decide) (by omega) hL ?_
  refine l_arg (j := 2) C ⟨d_law_231, d_law_232, d_law_233, d_law_234, d_law_235⟩ (by decide) (by omega) hL ?_
  refine l_arg (j := 3) C ⟨d_law_236, d_law_237, d_law_238, d_law_239, d_law_240⟩ (by decide) (by omega) hL ?_
  refine l_call (As := [.int (Ar xs t 1), .int (Ar xs t 2), .int (Ar xs t 3)]) (st := []) (v := v) (M' := M1) C hml d_law_241 cl_law_29 ⟨Nat.le_of_ble_eq_true rfl, Nat.le_of_ble_eq_true rfl⟩ ⟨rfl, rfl⟩ kd0F rfl (Nat.le_of_ble_eq_true rfl) (S_X10_program (x1 := Ar xs t 1) (x2 := Ar xs t 2) (x3 := Ar xs t 3) pitchF e1) rfl hw ?_
  refine l_aload_n C d_law_244 (x := 242) rfl ?_
  refine l_arg (j := 1) C ⟨d_law_245, d_law_246, d_law_247, d_law_248, d_law_249⟩ (by decide) (by omega) hL ?_
  refine l_arg (j := 2) C ⟨d_law_250, d_law_251, d_law_252, d_law_253, d_law_254⟩ (by decide) (by omega) hL ?_
  refine l_arg (j := 3) C ⟨d_law_255, d_law_256, d_law_257, d_law_258, d_law_259⟩ (by decide) (by omega) hL ?_
  refine l_call (As := [.int (Ar xs t 1), .int (Ar xs t 2), .int (Ar xs t 3)]) (st := [.int v]) (v := v) (M' := M2) C hml d_law_260 cl_law_33 ⟨Nat.le_of_ble_eq_true rfl, Nat.le_of_ble_eq_true rfl⟩ ⟨rfl, rfl⟩ kd1F rfl (Nat.le_of_ble_eq_true rfl) (S_X11_program (x1 := Ar xs t 1) (x2 := Ar xs t 2) (x3 := Ar xs t 3) modelF e2) rfl hw ?_
  exact l_icmp_eq (tgt := 762) C d_law_263 (by decide) (fun _ => h M2 e3) (fun q => absurd rfl q)
theorem case_start {K t : Nat} (C : LwC p s m c b L xs) (hml : c.maxLocals = 4) (ht : t + 4 < L) (hL : L ≤ 2560) (hK : K < 2 ^ 29) (hG : GR K M M) (hw : n1 ≤ room_1.cells ∧ n2 ≤ room_1.slots) (h : ∀ M2, GR (K + 50) M2 M2 → LWP p l e s m below meth c b Z 762 (LL t) [] SHF M2 n1 n2) : LWP p l e s m below meth c b Z 268 (LL t) [] SHF M n1 n2 := by
  obtain ⟨v, M1, M2, e1, e2, e3⟩ := (start_S (K := K) (x := Ar xs t 1) (y := Ar xs t 2) (z := Ar xs t 3) (w := Ar xs t 4)).run hG
  refine l_aload_n C d_law_268 (x := 0) rfl ?_
  refine l_arg (j := 1) C ⟨d_law_269, d_law_270, d_law_271, d_law_272, d_law_273⟩ (by decide) (by omega) hL ?_
  refine l_arg (j := 2) C ⟨d_law_274, d_law_275, d_law_276, d_law_277, d_law_278⟩ (by decide) (by omega) hL ?_
  refine l_arg (j := 3) C ⟨d_law_279, d_law_280, d_law_281, d_law_282, d_law_283⟩ (by decide) (by omega) hL ?_
  refine l_arg (j := 4) C ⟨d_law_284, d_law_285, d_law_286, d_law_287, d_law_288⟩ (by decide) (by omega) hL ?_
  refine l_call (As := [.int (Ar xs t 1), .int (Ar xs t 2), .int (Ar xs t 3), .int (Ar xs t 4)]) (st := []) (v := v) (M' := M1) C hml d_law_289 cl_law_34 ⟨Nat.le_of_ble_eq_true rfl, Nat.le_of_ble_eq_true rfl⟩ ⟨rfl, rfl⟩ kd0F rfl (Nat.le_of_ble_eq_true rfl) (S_X10_start (x1 := Ar xs t 1) (x2 := Ar xs t 2) (x3 := Ar xs t 3) (x4 := Ar xs t 4) pitchF e1) rfl hw ?_
  refine l_aload_n C d_law_292 (x := 242) rfl ?_
  refine l_arg (j := 1) C ⟨d_law_293, d_law_294, d_law_295, d_law_296, d_law_297⟩ (by decide) (by omega) hL ?_
  refine l_arg (j := 2) C ⟨d_law_298, d_law_299, d_law_300, d_law_301, d_law_302⟩ (by decide) (by omega) hL ?_
  refine l_arg (j := 3) C ⟨d_law_303, d_law_304, d_law_305, d_law_306, d_law_307⟩ (by decide) (by omega) hL ?_
  refine l_arg (j := 4) C ⟨d_law_308, d_law_309, d_law_310, d_law_311, d_law_312⟩ (by decide) (by omega) hL ?_
  refine l_call (As := [.int (Ar xs t 1), .int (Ar xs t 2), .int (Ar xs t 3), .int (Ar xs t 4)]) (st := [.int v]) (v := v) (M' := M2) C hml d_law_313 cl_law_38 ⟨Nat.le_of_ble_eq_true rfl, Nat.le_of_ble_eq_true rfl⟩ ⟨rfl, rfl⟩ kd1F rfl (Nat.le_of_ble_eq_true rfl) (S_X11_start (x1 := Ar xs t 1) (x2 := Ar xs t 2) (x3 := Ar xs t 3) (x4 := Ar xs t 4) modelF e2) rfl hw ?_
  exact l_icmp_eq (tgt := 762) C d_law_316 (by decide) (fun _ => h M2 e3) (fun q => absurd rfl q)
theorem case_views {K t : Nat} (C : LwC p s m c b L xs) (hml : c.maxLocals = 4) (ht : t + 4 < L) (hL : L ≤ 2560) (hK : K < 2 ^ 29) (hG : GR K M M) (hw : n1 ≤ room_1.cells ∧ n2 ≤ room_1.slots) (h : ∀ M2, GR (K + 50) M2 M2 → LWP p l e s m below meth c b Z 762 (LL t) [] SHF M2 n1 n2) : LWP p l e s m below meth c b Z 321 (LL t) [] SHF M n1 n2 := by
  obtain ⟨v, M1, M2, e1, e2, e3⟩ := (views_S (K := K) (x := Ar xs t 1) (y := Ar xs t 2) (z := Ar xs t 3)).run hG
  refine l_aload_n C d_law_321 (x := 0) rfl ?_
  refine l_arg (j := 1) C ⟨d_law_322, d_law_323, d_law_324, d_law_325, d_law_326⟩ (by decide) (by omega) hL ?_
  refine l_arg (j := 2) C ⟨d_law_327, d_law_328, d_law_329, d_law_330, d_law_331⟩ (by decide) (by omega) hL ?_
  refine l_arg (j := 3) C ⟨d_law_332, d_law_333, d_law_334, d_law_335, d_law_336⟩ (by decide) (by omega) hL ?_
  refine l_call (As := [.int (Ar xs t 1), .int (Ar xs t 2), .int (Ar xs t 3)]) (st := []) (v := v) (M' := M1) C hml d_law_337 cl_law_39 ⟨Nat.le_of_ble_eq_true rfl, Nat.le_of_ble_eq_true rfl⟩ ⟨rfl, rfl⟩ kd0F rfl (Nat.le_of_ble_eq_true rfl) (S_X10_views (x1 := Ar xs t 1) (x2 := Ar xs t 2) (x3 := Ar xs t 3) pitchF e1) rfl hw ?_
  refine l_aload_n C d_law_340 (x := 242) rfl ?_
  refine l_arg (j := 1) C ⟨d_law_341, d_law_342, d_law_343, d_law_344, d_law_345⟩ (by decide) (by omega) hL ?_
  refine l_arg (j := 2) C ⟨d_law_346, d_law_347, d_law_348, d_law_349, d_law_350⟩ (by decide) (by omega) hL ?_
  refine l_arg (j := 3) C ⟨d_law_351, d_law_352, d_law_353, d_law_354, d_law_355⟩ (by decide) (by omega) hL ?_
  refine l_call (As := [.int (Ar xs t 1), .int (Ar xs t 2), .int (Ar xs t 3)]) (st := [.int v]) (v := v) (M' := M2) C hml d_law_356 cl_law_42 ⟨Nat.le_of_ble_eq_true rfl, Nat.le_of_ble_eq_true rfl⟩ ⟨rfl, rfl⟩ kd1F rfl (Nat.le_of_ble_eq_true rfl) (S_X11_views (x1 := Ar xs t 1) (x2 := Ar xs t 2) (x3 := Ar xs t 3) modelF e2) rfl hw ?_
  exact l_icmp_eq (tgt := 762) C d_law_359 (by decide) (fun _ => h M2 e3) (fun q => absurd rfl q)
theorem case_begin {K t : Nat} (C : LwC p s m c b L xs) (hml : c.maxLocals = 4) (ht : t + 4 < L) (hL : L ≤ 2560) (hK : K < 2 ^ 29) (hG : GR K M M) (hw : n1 ≤ room_1.cells ∧ n2 ≤ room_1.slots) (h : ∀ M2, GR (K + 50) M2 M2 → LWP p l e s m below meth c b Z 762 (LL t) [] SHF M2 n1 n2) : LWP p l e s m below meth c b Z 364 (LL t) [] SHF M n1 n2 := by
  obtain ⟨v, M1, M2, e1, e2, e3⟩ := (begin_S (K := K) (x := Ar xs t 1) (y := Ar xs t 2)).run hG
  refine l_aload_n C d_law_364 (x := 0) rfl ?_
  refine l_arg (j := 1) C ⟨d_law_365, d_law_366, d_law_367, d_law_368, d_law_369⟩ (by decide) (by omega) hL ?_
  refine l_arg (j := 2) C ⟨d_law_370, d_law_371, d_law_372, d_law_373, d_law_374⟩ (by decide) (by omega) hL ?_
  refine l_call (As := [.int (Ar xs t 1), .int (Ar xs t 2)]) (st := []) (v := v) (M' := M1) C hml d_law_375 cl_law_43 ⟨Nat.le_of_ble_eq_true rfl, Nat.le_of_ble_eq_true rfl⟩ ⟨rfl, rfl⟩ kd0F rfl (Nat.le_of_ble_eq_true rfl) (S_X10_begin (x1 := Ar xs t 1) (x2 := Ar xs t 2) pitchF e1) rfl hw ?_
  refine l_aload_n C d_law_378 (x := 242) rfl ?_
  refine l_arg (j := 1) C ⟨d_law_379, d_law_380, d_law_381, d_law_382, d_law_383⟩ (by decide) (by omega) hL ?_
  refine l_arg (j := 2) C ⟨d_law_384, d_law_385, d_law_386, d_law_387, d_law_388⟩ (by decide) (by omega) hL ?_
  refine l_call (As := [.int (Ar xs t 1), .int (Ar xs t 2)]) (st := [.int v]) (v := v) (M' := M2) C hml d_law_389 cl_law_47 ⟨Nat.le_of_ble_eq_true rfl, Nat.le_of_ble_eq_true rfl⟩ ⟨rfl, rfl⟩ kd1F rfl (Nat.le_of_ble_eq_true rfl) (S_X11_begin (x1 := Ar xs t 1) (x2 := Ar xs t 2) modelF e2) rfl hw ?_
  exact l_icmp_eq (tgt := 762) C d_law_392 (by decide) (fun _ => h M2 e3) (fun q => absurd rfl q)
theorem case_tick {K t : Nat} (C : LwC p s m c b L xs) (hml : c.maxLocals = 4) (ht : t + 4 < L) (hL : L ≤ 2560) (hK : K < 2 ^ 29) (hG : GR K M M) (hw : n1 ≤ room_1.cells ∧ n2 ≤ room_1.slots) (h : ∀ M2, GR (K + 50) M2 M2 → LWP p l e s m below meth c b Z 762 (LL t) [] SHF M2 n1 n2) : LWP p l e s m below meth c b Z 397 (LL t) [] SHF M n1 n2 := by
  obtain ⟨v, M1, M2, e1, e2, e3⟩ := (tick_S (K := K) (x := Ar xs t 1) hK).run hG
  refine l_aload_n C d_law_397 (x := 0) rfl ?_
  refine l_arg (j := 1) C ⟨d_law_398, d_law_399, d_law_400, d_law_401, d_law_402⟩ (by decide) (by omega) hL ?_
  refine l_call (As := [.int (Ar xs t 1)]) (st := []) (v := v) (M' := M1) C hml d_law_403 cl_law_48 ⟨Nat.le_of_ble_eq_true rfl, Nat.le_of_ble_eq_true rfl⟩ ⟨rfl, rfl⟩ kd0F rfl (Nat.le_of_ble_eq_true rfl) (S_X10_tick (x1 := Ar xs t 1) pitchF e1) rfl hw ?_
  refine l_aload_n C d_law_406 (x := 242) rfl ?_
  refine l_arg (j := 1) C ⟨d_law_407, d_law_408, d_law_409, d_law_410, d_law_411⟩ (by decide) (by omega) hL ?_
  refine l_call (As := [.int (Ar xs t 1)]) (st := [.int v]) (v := v) (M' := M2) C hml d_law_412 cl_law_52 ⟨Nat.le_of_ble_eq_true rfl, Nat.le_of_ble_eq_true rfl⟩ ⟨rfl, rfl⟩ kd1F rfl (Nat.le_of_ble_eq_true rfl) (S_X11_tick (x1 := Ar xs t 1) modelF e2) rfl hw ?_
  exact l_icmp_eq (tgt := 762) C d_law_415 (by decide) (fun _ => h M2 e3) (fun q => absurd rfl q)
theorem case_ball {K t : Nat} (C : LwC p s m c b L xs) (hml : c.maxLocals = 4) (ht : t + 4 < L) (hL : L ≤ 2560) (hK : K < 2 ^ 29) (hG : GR K M M) (hw : n1 ≤ room_1.cells ∧ n2 ≤ room_1.slots) (h : ∀ M2, GR (K + 50) M2 M2 → LWP p l e s m below meth c b Z 762 (LL t) [] SHF M2 n1 n2) : LWP p l e s m below meth c b Z 420 (LL t) [] SHF M n1 n2 := by
  obtain ⟨v, M1, M2, e1, e2, e3⟩ := (ball_sim (K := K) (x := Ar xs t 1)).run hG
  refine l_aload_n C d_law_420 (x := 0) rfl ?_
  refine l_arg (j := 1) C ⟨d_law_421, d_law_422, d_law_423, d_law_424, d_law_425⟩ (by decide) (by omega) hL ?_
  refine l_call (As := [.int (Ar xs t 1)]) (st := []) (v := v) (M' := M1) C hml d_law_426 cl_law_53 ⟨Nat.le_of_ble_eq_true rfl, Nat.le_of_ble_eq_true rfl⟩ ⟨rfl, rfl⟩ kd0F rfl (Nat.le_of_ble_eq_true rfl) (gv_cast (S_X10_ball (x1 := Ar xs t 1) pitchF) e1) rfl hw ?_
  refine l_aload_n C d_law_429 (x := 242) rfl ?_
  refine l_arg (j := 1) C ⟨d_law_430, d_law_431, d_law_432, d_law_433, d_law_434⟩ (by decide) (by omega) hL ?_
  refine l_call (As := [.int (Ar xs t 1)]) (st := [.int v]) (v := v) (M' := M2) C hml d_law_435 cl_law_56 ⟨Nat.le_of_ble_eq_true rfl, Nat.le_of_ble_eq_true rfl⟩ ⟨rfl, rfl⟩ kd1F rfl (Nat.le_of_ble_eq_true rfl) (S_X11_ball (x1 := Ar xs t 1) modelF e2) rfl hw ?_
  exact l_icmp_eq (tgt := 762) C d_law_438 (by decide) (fun _ => h M2 e3) (fun q => absurd rfl q)
theorem case_robot {K t : Nat} (C : LwC p s m c b L xs) (hml : c.maxLocals = 4) (ht : t + 4 < L) (hL : L ≤ 2560) (hK : K < 2 ^ 29) (hG : GR K M M) (hw : n1 ≤ room_1.cells ∧ n2 ≤ room_1.slots) (h : ∀ M2, GR (K + 50) M2 M2 → LWP p l e s m below meth c b Z 762 (LL t) [] SHF M2 n1 n2) : LWP p l e s m below meth c b Z 443 (LL t) [] SHF M n1 n2 := by
  obtain ⟨v, M1, M2, e1, e2, e3⟩ := (robot_sim (K := K) (x := Ar xs t 1) (y := Ar xs t 2)).run hG
  refine l_aload_n C d_law_443 (x := 0) rfl ?_
  refine l_arg (j := 1) C ⟨d_law_444, d_law_445, d_law_446, d_law_447, d_law_448⟩ (by decide) (by omega) hL ?_
  refine l_arg (j := 2) C ⟨d_law_449, d_law_450, d_law_451, d_law_452, d_law_453⟩ (by decide) (by omega) hL ?_
  refine l_call (As := [.int (Ar xs t 1), .int (Ar xs t 2)]) (st := []) (v := v) (M' := M1) C hml d_law_454 cl_law_57 ⟨Nat.le_of_ble_eq_true rfl, Nat.le_of_ble_eq_true rfl⟩ ⟨rfl, rfl⟩ kd0F rfl (Nat.le_of_ble_eq_true rfl) (gv_cast (S_X10_robot (x1 := Ar xs t 1) (x2 := Ar xs t 2) pitchF) e1) rfl hw ?_
  refine l_aload_n C d_law_457 (x := 242) rfl ?_
  refine l_arg (j := 1) C ⟨d_law_458, d_law_459, d_law_460, d_law_461, d_law_462⟩ (by decide) (by omega) hL ?_
  refine l_arg (j := 2) C ⟨d_law_463, d_law_464, d_law_465, d_law_466, d_law_467⟩ (by decide) (by omega) hL ?_
  refine l_call (As := [.int (Ar xs t 1), .int (Ar xs t 2)]) (st := [.int v]) (v := v) (M' := M2) C hml d_law_468 cl_law_60 ⟨Nat.le_of_ble_eq_true rfl, Nat.le_of_ble_eq_true rfl⟩ ⟨rfl, rfl⟩ kd1F rfl (Nat.le_of_ble_eq_true rfl) (S_X11_robot (x1 := Ar xs t 1) (x2 := Ar xs t 2) modelF e2) rfl hw ?_
  exact l_icmp_eq (tgt := 762) C d_law_471 (by decide) (fun _ => h M2 e3) (fun q => absurd rfl q)
theorem case_score {K t : Nat} (C : LwC p s m c b L xs) (hml : c.maxLocals = 4) (ht : t + 4 < L) (hL : L ≤ 2560) (hK : K < 2 ^ 29) (hG : GR K M M) (hw : n1 ≤ room_1.cells ∧ n2 ≤ room_1.slots) (h : ∀ M2, GR (K + 50) M2 M2 → LWP p l e s m below meth c b Z 762 (LL t) [] SHF M2 n1 n2) : LWP p l e s m below meth c b Z 476 (LL t) [] SHF M n1 n2 := by
  obtain ⟨v, M1, M2, e1, e2, e3⟩ := (score_sim (K := K) (x := Ar xs t 1)).run hG
  refine l_aload_n C d_law_476 (x := 0) rfl ?_
  refine l_arg (j := 1) C ⟨d_law_477, d_law_478, d_law_479, d_law_480, d_law_481⟩ (by decide) (by omega) hL ?_
  refine l_call (As := [.int (Ar xs t 1)]) (st := []) (v := v) (M' := M1) C hml d_law_482 cl_law_61 ⟨Nat.le_of_ble_eq_true rfl, Nat.le_of_ble_eq_true rfl⟩ ⟨rfl, rfl⟩ kd0F rfl (Nat.le_of_ble_eq_true rfl) (gv_cast (S_X10_score (x1 := Ar xs t 1) pitchF) e1) rfl hw ?_
  refine l_aload_n C d_law_485 (x := 242) rfl ?_
  refine l_arg (j := 1) C ⟨d_law_486, d_law_487, d_law_488, d_law_489, d_law_490⟩ (by decide) (by omega) hL ?_
  refine l_call (As := [.int (Ar xs t 1)]) (st := [.int v]) (v := v) (M' := M2) C hml d_law_491 cl_law_64 ⟨Nat.le_of_ble_eq_true rfl, Nat.le_of_ble_eq_true rfl⟩ ⟨rfl, rfl⟩ kd1F rfl (Nat.le_of_ble_eq_true rfl) (S_X11_score (x1 := Ar xs t 1) modelF e2) rfl hw ?_
  exact l_icmp_eq (tgt := 762) C d_law_494 (by decide) (fun _ => h M2 e3) (fun q => absurd rfl q)
end LWC
