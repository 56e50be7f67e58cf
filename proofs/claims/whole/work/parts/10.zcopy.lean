/-! ===== arraycopy of ints, from the start; the library's bitCount ===== -/
def cpyI (M : Mem) (s d n : Nat) : Mem := (fun b i => if b = d ∧ i < n then M.1 s i else M.1 b i, M.2)
def copyOk (own : String) (idx : Nat) : Prop := Cond.methodLink own idx arraycopyName ∈ lw_good ∧ Cond.native arraycopyName ∈ lw_good ∧ Cond.static arraycopyName ∈ lw_good ∧ Cond.initialized "java/lang/System" ∈ lw_good
theorem r_copyi {k : MT} {Q : Po} {pc pc' : Nat} {ls : List (Option Value)} {st : List Value} {sh : List SC} {M : Mem} {n1 n2 idx a b na nb : Nat} {n : Int32} (hd : Inx k pc (.invokestatic idx) 3 pc') (hC : copyOk k.1.cls idx) (hf : 1 ≤ k.2.2.2.2.1) (hl : 8 + (nativeFrameWords "java/lang/System" "arraycopy" 5 + 11) ≤ k.2.2.2.2.2.1) (hst : stOk st) (ha : kd sh a = some (0, na)) (hb : kd sh b = some (0, nb)) (hn : ¬ n < 0) (h1 : n.toNatClampNeg ≤ na) (h2 : n.toNatClampNeg ≤ nb)
    (h : WP k Q pc' ls st sh (cpyI M a b n.toNatClampNeg) n1 n2) : WP k Q pc ls (.int n :: .int 0 :: .ref b :: .int 0 :: .ref a :: st) sh M n1 n2 := by
  obtain ⟨ra, ha⟩ := kd_at ha
  obtain ⟨rb, hb⟩ := kd_at hb
  intro p l e s m args below meth c ad0 ad dC dI dA sz0 H locs la C h0 g1 g2 g3 g4 g5
  obtain ⟨hd, rfl⟩ := hd
  have ht := C.2.2.2.2.2.2.1
  have z0 : (0 : Int32).toNatClampNeg = 0 := rfl
  refine va_copyi C.1 C.2.1 (C.2.2.1.trans g5.1.symm) C.2.2.2.2.2.1 (ht _ hC.1) (ht _ hC.2.1) (ht _ hC.2.2.1) (ht _ hC.2.2.2) C.2.2.2.2.2.2.2.1 g2 g3 g4 a b 0 0 (wsW_at ha) (wsW_at hb) (tysW_at (t := 0) (by decide)) (tysW_at (t := 0) (by decide)) rfl (by decide) (by decide) hn (by rw [z0]; show 0 + n.toNatClampNeg ≤ na; omega) (by rw [z0]; show 0 + n.toNatClampNeg ≤ nb; omega) (fun i _ => rfl) hf (Nat.le_trans (Nat.add_le_add_right (stOk_cv hst) _) hl) hd (fun H1 locs1 q2 q3 q4 => ?_)
  have er : va_cpy (M.1 a) (M.1 b) (0 : Int32).toNatClampNeg (0 : Int32).toNatClampNeg n.toNatClampNeg = (cpyI M a b n.toNatClampNeg).1 b := by
    funext i
    simp [va_cpy, cpyI, z0]
  have ee : ∀ M' : Mem, (Sum.inl (dA 0, nb, Sum.inl (M'.1 b)) : va_E) = cellW ad dA M' b (0, nb, rb) := fun _ => rfl
  rw [er, ee, wsW_setM hb (fun x hx => by constructor <;> first | rfl | (funext i; simp [cpyI, hx]))] at q2 q3
  exact h p l e s m args below meth c ad0 ad dC dI dA sz0 H1 locs1 la C h0 g1 q2 q3 q4 g5
theorem cl_X0_69 : copyOk RX0 69 := ⟨good_mem (tb_5 (List.mem_of_getElem? (i := 41) (rfl : tables_1_5[41]? = some (Cond.methodLink RX0 69 arraycopyName)))) (by decide +kernel), good_mem (tb_5 (List.mem_of_getElem? (i := 43) (rfl : tables_1_5[43]? = some (Cond.native arraycopyName)))) (by decide +kernel), good_mem (tb_5 (List.mem_of_getElem? (i := 42) (rfl : tables_1_5[42]? = some (Cond.static arraycopyName)))) (by decide +kernel), good_mem (tb_1 (List.mem_of_getElem? (i := 18) (rfl : tables_1_1[18]? = some (Cond.initialized "java/lang/System")))) (by decide +kernel)⟩
theorem cl_X7_45 : copyOk RX7 45 := ⟨good_mem (tb_5 (List.mem_of_getElem? (i := 48) (rfl : tables_1_5[48]? = some (Cond.methodLink RX7 45 arraycopyName)))) (by decide +kernel), good_mem (tb_5 (List.mem_of_getElem? (i := 43) (rfl : tables_1_5[43]? = some (Cond.native arraycopyName)))) (by decide +kernel), good_mem (tb_5 (List.mem_of_getElem? (i := 42) (rfl : tables_1_5[42]? = some (Cond.static arraycopyName)))) (by decide +kernel), good_mem (tb_1 (List.mem_of_getElem? (i := 18) (rfl : tables_1_1[18]? = some (Cond.initialized "java/lang/System")))) (by decide +kernel)⟩
theorem cl_X5_89 : copyOk RX5 89 := ⟨good_mem (tb_5 (List.mem_of_getElem? (i := 53) (rfl : tables_1_5[53]? = some (Cond.methodLink RX5 89 arraycopyName)))) (by decide +kernel), good_mem (tb_5 (List.mem_of_getElem? (i := 43) (rfl : tables_1_5[43]? = some (Cond.native arraycopyName)))) (by decide +kernel), good_mem (tb_5 (List.mem_of_getElem? (i := 42) (rfl : tables_1_5[42]? = some (Cond.static arraycopyName)))) (by decide +kernel), good_mem (tb_1 (List.mem_of_getElem? (i := 18) (rfl : tables_1_1[18]? = some (Cond.initialized "java/lang/System")))) (by decide +kernel)⟩
