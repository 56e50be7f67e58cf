theorem r_iadd {k : MT} {Q : Po} {pc pc' : Nat} {ls : List (Option Value)} {st : List Value} {sh : List SC} {M : Mem} {n1 n2 : Nat} {x y : Int32} (hd : Inx k pc (.iadd) 1 pc') (h : WP k Q pc' ls (.int (x + y) :: st) sh M n1 n2) : WP k Q pc ls (.int y :: .int x :: st) sh M n1 n2 := by
  intro p l e s m args below meth c ad0 ad dC dI dA sz0 H locs la C h0 h1 h2 h3 h4 h5
  obtain ⟨hd, rfl⟩ := hd
  exact lv_iadd C.1 C.2.1 hd (h p l e s m args below meth c ad0 ad dC dI dA sz0 H locs la C h0 h1 h2 h3 h4 h5)

theorem r_isub {k : MT} {Q : Po} {pc pc' : Nat} {ls : List (Option Value)} {st : List Value} {sh : List SC} {M : Mem} {n1 n2 : Nat} {x y : Int32} (hd : Inx k pc (.isub) 1 pc') (h : WP k Q pc' ls (.int (x - y) :: st) sh M n1 n2) : WP k Q pc ls (.int y :: .int x :: st) sh M n1 n2 := by
  intro p l e s m args below meth c ad0 ad dC dI dA sz0 H locs la C h0 h1 h2 h3 h4 h5
  obtain ⟨hd, rfl⟩ := hd
  exact lv_isub C.1 C.2.1 hd (h p l e s m args below meth c ad0 ad dC dI dA sz0 H locs la C h0 h1 h2 h3 h4 h5)

theorem r_imul {k : MT} {Q : Po} {pc pc' : Nat} {ls : List (Option Value)} {st : List Value} {sh : List SC} {M : Mem} {n1 n2 : Nat} {x y : Int32} (hd : Inx k pc (.imul) 1 pc') (h : WP k Q pc' ls (.int (x * y) :: st) sh M n1 n2) : WP k Q pc ls (.int y :: .int x :: st) sh M n1 n2 := by
  intro p l e s m args below meth c ad0 ad dC dI dA sz0 H locs la C h0 h1 h2 h3 h4 h5
  obtain ⟨hd, rfl⟩ := hd
  exact lv_imul C.1 C.2.1 hd (h p l e s m args below meth c ad0 ad dC dI dA sz0 H locs la C h0 h1 h2 h3 h4 h5)

theorem r_iand {k : MT} {Q : Po} {pc pc' : Nat} {ls : List (Option Value)} {st : List Value} {sh : List SC} {M : Mem} {n1 n2 : Nat} {x y : Int32} (hd : Inx k pc (.iand) 1 pc') (h : WP k Q pc' ls (.int (x &&& y) :: st) sh M n1 n2) : WP k Q pc ls (.int y :: .int x :: st) sh M n1 n2 := by
  intro p l e s m args below meth c ad0 ad dC dI dA sz0 H locs la C h0 h1 h2 h3 h4 h5
  obtain ⟨hd, rfl⟩ := hd
  exact lv_iand C.1 C.2.1 hd (h p l e s m args below meth c ad0 ad dC dI dA sz0 H locs la C h0 h1 h2 h3 h4 h5)

theorem r_ior {k : MT} {Q : Po} {pc pc' : Nat} {ls : List (Option Value)} {st : List Value} {sh : List SC} {M : Mem} {n1 n2 : Nat} {x y : Int32} (hd : Inx k pc (.ior) 1 pc') (h : WP k Q pc' ls (.int (x ||| y) :: st) sh M n1 n2) : WP k Q pc ls (.int y :: .int x :: st) sh M n1 n2 := by
  intro p l e s m args below meth c ad0 ad dC dI dA sz0 H locs la C h0 h1 h2 h3 h4 h5
  obtain ⟨hd, rfl⟩ := hd
  exact lv_ior C.1 C.2.1 hd (h p l e s m args below meth c ad0 ad dC dI dA sz0 H locs la C h0 h1 h2 h3 h4 h5)

theorem r_ishr {k : MT} {Q : Po} {pc pc' : Nat} {ls : List (Option Value)} {st : List Value} {sh : List SC} {M : Mem} {n1 n2 : Nat} {x y : Int32} (hd : Inx k pc (.ishr) 1 pc') (h : WP k Q pc' ls (.int (x >>> (y &&& 31)) :: st) sh M n1 n2) : WP k Q pc ls (.int y :: .int x :: st) sh M n1 n2 := by
  intro p l e s m args below meth c ad0 ad dC dI dA sz0 H locs la C h0 h1 h2 h3 h4 h5
  obtain ⟨hd, rfl⟩ := hd
  exact lv_ishr C.1 C.2.1 hd (h p l e s m args below meth c ad0 ad dC dI dA sz0 H locs la C h0 h1 h2 h3 h4 h5)

theorem r_ishl {k : MT} {Q : Po} {pc pc' : Nat} {ls : List (Option Value)} {st : List Value} {sh : List SC} {M : Mem} {n1 n2 : Nat} {x y : Int32} (hd : Inx k pc (.ishl) 1 pc') (h : WP k Q pc' ls (.int (x <<< (y &&& 31)) :: st) sh M n1 n2) : WP k Q pc ls (.int y :: .int x :: st) sh M n1 n2 := by
  intro p l e s m args below meth c ad0 ad dC dI dA sz0 H locs la C h0 h1 h2 h3 h4 h5
  obtain ⟨hd, rfl⟩ := hd
  exact lv_ishl C.1 C.2.1 hd (h p l e s m args below meth c ad0 ad dC dI dA sz0 H locs la C h0 h1 h2 h3 h4 h5)

theorem r_idiv {k : MT} {Q : Po} {pc pc' : Nat} {ls : List (Option Value)} {st : List Value} {sh : List SC} {M : Mem} {n1 n2 : Nat} {x y : Int32} (hd : Inx k pc (.idiv) 1 pc') (hne : ¬ y = 0) (h : WP k Q pc' ls (.int (x / y) :: st) sh M n1 n2) : WP k Q pc ls (.int y :: .int x :: st) sh M n1 n2 := by
  intro p l e s m args below meth c ad0 ad dC dI dA sz0 H locs la C h0 h1 h2 h3 h4 h5
  obtain ⟨hd, rfl⟩ := hd
  exact lv_idiv C.1 C.2.1 hd hne (h p l e s m args below meth c ad0 ad dC dI dA sz0 H locs la C h0 h1 h2 h3 h4 h5)

theorem r_irem {k : MT} {Q : Po} {pc pc' : Nat} {ls : List (Option Value)} {st : List Value} {sh : List SC} {M : Mem} {n1 n2 : Nat} {x y : Int32} (hd : Inx k pc (.irem) 1 pc') (hne : ¬ y = 0) (h : WP k Q pc' ls (.int (x - x / y * y) :: st) sh M n1 n2) : WP k Q pc ls (.int y :: .int x :: st) sh M n1 n2 := by
  intro p l e s m args below meth c ad0 ad dC dI dA sz0 H locs la C h0 h1 h2 h3 h4 h5
  obtain ⟨hd, rfl⟩ := hd
  exact lv_irem C.1 C.2.1 hd hne (h p l e s m args below meth c ad0 ad dC dI dA sz0 H locs la C h0 h1 h2 h3 h4 h5)

theorem r_ineg {k : MT} {Q : Po} {pc pc' : Nat} {ls : List (Option Value)} {st : List Value} {sh : List SC} {M : Mem} {n1 n2 : Nat} {x : Int32} (hd : Inx k pc (.ineg) 1 pc') (h : WP k Q pc' ls (.int (-x) :: st) sh M n1 n2) : WP k Q pc ls (.int x :: st) sh M n1 n2 := by
  intro p l e s m args below meth c ad0 ad dC dI dA sz0 H locs la C h0 h1 h2 h3 h4 h5
  obtain ⟨hd, rfl⟩ := hd
  exact lv_ineg C.1 C.2.1 hd (h p l e s m args below meth c ad0 ad dC dI dA sz0 H locs la C h0 h1 h2 h3 h4 h5)

theorem r_ladd {k : MT} {Q : Po} {pc pc' : Nat} {ls : List (Option Value)} {st : List Value} {sh : List SC} {M : Mem} {n1 n2 : Nat} {x y : Int64} (hd : Inx k pc (.ladd) 1 pc') (h : WP k Q pc' ls (.long (x + y) :: st) sh M n1 n2) : WP k Q pc ls (.long y :: .long x :: st) sh M n1 n2 := by
  intro p l e s m args below meth c ad0 ad dC dI dA sz0 H locs la C h0 h1 h2 h3 h4 h5
  obtain ⟨hd, rfl⟩ := hd
  exact lv_ladd C.1 C.2.1 hd (h p l e s m args below meth c ad0 ad dC dI dA sz0 H locs la C h0 h1 h2 h3 h4 h5)

theorem r_lsub {k : MT} {Q : Po} {pc pc' : Nat} {ls : List (Option Value)} {st : List Value} {sh : List SC} {M : Mem} {n1 n2 : Nat} {x y : Int64} (hd : Inx k pc (.lsub) 1 pc') (h : WP k Q pc' ls (.long (x - y) :: st) sh M n1 n2) : WP k Q pc ls (.long y :: .long x :: st) sh M n1 n2 := by
  intro p l e s m args below meth c ad0 ad dC dI dA sz0 H locs la C h0 h1 h2 h3 h4 h5
  obtain ⟨hd, rfl⟩ := hd
  exact lv_lsub C.1 C.2.1 hd (h p l e s m args below meth c ad0 ad dC dI dA sz0 H locs la C h0 h1 h2 h3 h4 h5)

theorem r_lmul {k : MT} {Q : Po} {pc pc' : Nat} {ls : List (Option Value)} {st : List Value} {sh : List SC} {M : Mem} {n1 n2 : Nat} {x y : Int64} (hd : Inx k pc (.lmul) 1 pc') (h : WP k Q pc' ls (.long (x * y) :: st) sh M n1 n2) : WP k Q pc ls (.long y :: .long x :: st) sh M n1 n2 := by
  intro p l e s m args below meth c ad0 ad dC dI dA sz0 H locs la C h0 h1 h2 h3 h4 h5
  obtain ⟨hd, rfl⟩ := hd
  exact lv_lmul C.1 C.2.1 hd (h p l e s m args below meth c ad0 ad dC dI dA sz0 H locs la C h0 h1 h2 h3 h4 h5)

theorem r_land {k : MT} {Q : Po} {pc pc' : Nat} {ls : List (Option Value)} {st : List Value} {sh : List SC} {M : Mem} {n1 n2 : Nat} {x y : Int64} (hd : Inx k pc (.land) 1 pc') (h : WP k Q pc' ls (.long (x &&& y) :: st) sh M n1 n2) : WP k Q pc ls (.long y :: .long x :: st) sh M n1 n2 := by
  intro p l e s m args below meth c ad0 ad dC dI dA sz0 H locs la C h0 h1 h2 h3 h4 h5
  obtain ⟨hd, rfl⟩ := hd
  exact lv_land C.1 C.2.1 hd (h p l e s m args below meth c ad0 ad dC dI dA sz0 H locs la C h0 h1 h2 h3 h4 h5)

theorem r_lor {k : MT} {Q : Po} {pc pc' : Nat} {ls : List (Option Value)} {st : List Value} {sh : List SC} {M : Mem} {n1 n2 : Nat} {x y : Int64} (hd : Inx k pc (.lor) 1 pc') (h : WP k Q pc' ls (.long (x ||| y) :: st) sh M n1 n2) : WP k Q pc ls (.long y :: .long x :: st) sh M n1 n2 := by
  intro p l e s m args below meth c ad0 ad dC dI dA sz0 H locs la C h0 h1 h2 h3 h4 h5
  obtain ⟨hd, rfl⟩ := hd
  exact lv_lor C.1 C.2.1 hd (h p l e s m args below meth c ad0 ad dC dI dA sz0 H locs la C h0 h1 h2 h3 h4 h5)

theorem r_lushr {k : MT} {Q : Po} {pc pc' : Nat} {ls : List (Option Value)} {st : List Value} {sh : List SC} {M : Mem} {n1 n2 : Nat} {x : Int64} {y : Int32} (hd : Inx k pc (.lushr) 1 pc') (h : WP k Q pc' ls (.long (x.toUInt64 >>> (y.toInt64.toUInt64 &&& Int64.toUInt64 63)).toInt64 :: st) sh M n1 n2) : WP k Q pc ls (.int y :: .long x :: st) sh M n1 n2 := by
  intro p l e s m args below meth c ad0 ad dC dI dA sz0 H locs la C h0 h1 h2 h3 h4 h5
  obtain ⟨hd, rfl⟩ := hd
  exact lv_lushr C.1 C.2.1 hd rfl (h p l e s m args below meth c ad0 ad dC dI dA sz0 H locs la C h0 h1 h2 h3 h4 h5)

theorem r_lshl {k : MT} {Q : Po} {pc pc' : Nat} {ls : List (Option Value)} {st : List Value} {sh : List SC} {M : Mem} {n1 n2 : Nat} {x : Int64} {y : Int32} (hd : Inx k pc (.lshl) 1 pc') (h : WP k Q pc' ls (.long (x <<< (y.toInt64 &&& 63)) :: st) sh M n1 n2) : WP k Q pc ls (.int y :: .long x :: st) sh M n1 n2 := by
  intro p l e s m args below meth c ad0 ad dC dI dA sz0 H locs la C h0 h1 h2 h3 h4 h5
  obtain ⟨hd, rfl⟩ := hd
  exact lv_lshl C.1 C.2.1 hd rfl (h p l e s m args below meth c ad0 ad dC dI dA sz0 H locs la C h0 h1 h2 h3 h4 h5)

theorem r_lshr {k : MT} {Q : Po} {pc pc' : Nat} {ls : List (Option Value)} {st : List Value} {sh : List SC} {M : Mem} {n1 n2 : Nat} {x : Int64} {y : Int32} (hd : Inx k pc (.lshr) 1 pc') (h : WP k Q pc' ls (.long (x >>> (y.toInt64 &&& 63)) :: st) sh M n1 n2) : WP k Q pc ls (.int y :: .long x :: st) sh M n1 n2 := by
  intro p l e s m args below meth c ad0 ad dC dI dA sz0 H locs la C h0 h1 h2 h3 h4 h5
  obtain ⟨hd, rfl⟩ := hd
  exact lv_lshr C.1 C.2.1 hd rfl (h p l e s m args below meth c ad0 ad dC dI dA sz0 H locs la C h0 h1 h2 h3 h4 h5)

theorem r_lcmp {k : MT} {Q : Po} {pc pc' : Nat} {ls : List (Option Value)} {st : List Value} {sh : List SC} {M : Mem} {n1 n2 : Nat} {x y : Int64} (hd : Inx k pc (.lcmp) 1 pc') (h : WP k Q pc' ls (.int (lg_cmp x y) :: st) sh M n1 n2) : WP k Q pc ls (.long y :: .long x :: st) sh M n1 n2 := by
  intro p l e s m args below meth c ad0 ad dC dI dA sz0 H locs la C h0 h1 h2 h3 h4 h5
  obtain ⟨hd, rfl⟩ := hd
  exact W.lcmp C.1 C.2.1 hd (h p l e s m args below meth c ad0 ad dC dI dA sz0 H locs la C h0 h1 h2 h3 h4 h5)

theorem r_i2l {k : MT} {Q : Po} {pc pc' : Nat} {ls : List (Option Value)} {st : List Value} {sh : List SC} {M : Mem} {n1 n2 : Nat} {x : Int32} (hd : Inx k pc (.i2l) 1 pc') (h : WP k Q pc' ls (.long x.toInt64 :: st) sh M n1 n2) : WP k Q pc ls (.int x :: st) sh M n1 n2 := by
  intro p l e s m args below meth c ad0 ad dC dI dA sz0 H locs la C h0 h1 h2 h3 h4 h5
  obtain ⟨hd, rfl⟩ := hd
  exact lv_i2l C.1 C.2.1 hd rfl (h p l e s m args below meth c ad0 ad dC dI dA sz0 H locs la C h0 h1 h2 h3 h4 h5)

theorem r_l2i {k : MT} {Q : Po} {pc pc' : Nat} {ls : List (Option Value)} {st : List Value} {sh : List SC} {M : Mem} {n1 n2 : Nat} {x : Int64} (hd : Inx k pc (.l2i) 1 pc') (h : WP k Q pc' ls (.int x.toInt32 :: st) sh M n1 n2) : WP k Q pc ls (.long x :: st) sh M n1 n2 := by
  intro p l e s m args below meth c ad0 ad dC dI dA sz0 H locs la C h0 h1 h2 h3 h4 h5
  obtain ⟨hd, rfl⟩ := hd
  exact lv_l2i C.1 C.2.1 hd rfl (h p l e s m args below meth c ad0 ad dC dI dA sz0 H locs la C h0 h1 h2 h3 h4 h5)

theorem r_i2c {k : MT} {Q : Po} {pc pc' : Nat} {ls : List (Option Value)} {st : List Value} {sh : List SC} {M : Mem} {n1 n2 : Nat} {x : Int32} (hd : Inx k pc (.i2c) 1 pc') (h : WP k Q pc' ls (.int (x.toUInt32 % 65536).toInt32 :: st) sh M n1 n2) : WP k Q pc ls (.int x :: st) sh M n1 n2 := by
  intro p l e s m args below meth c ad0 ad dC dI dA sz0 H locs la C h0 h1 h2 h3 h4 h5
  obtain ⟨hd, rfl⟩ := hd
  exact lv_i2c C.1 C.2.1 hd rfl (h p l e s m args below meth c ad0 ad dC dI dA sz0 H locs la C h0 h1 h2 h3 h4 h5)

theorem r_iconst {k : MT} {Q : Po} {pc pc' : Nat} {ls : List (Option Value)} {st : List Value} {sh : List SC} {M : Mem} {n1 n2 : Nat} {n : Int} {v : Int32} (hd : Inx k pc (.iconst n) 1 pc') (hv : Int32.ofInt n = v) (h : WP k Q pc' ls (.int v :: st) sh M n1 n2) : WP k Q pc ls (st) sh M n1 n2 := by
  intro p l e s m args below meth c ad0 ad dC dI dA sz0 H locs la C h0 h1 h2 h3 h4 h5
  obtain ⟨hd, rfl⟩ := hd
  exact lv_iconst C.1 C.2.1 hd hv (h p l e s m args below meth c ad0 ad dC dI dA sz0 H locs la C h0 h1 h2 h3 h4 h5)

theorem r_bipush {k : MT} {Q : Po} {pc pc' : Nat} {ls : List (Option Value)} {st : List Value} {sh : List SC} {M : Mem} {n1 n2 : Nat} {n : Int} {v : Int32} (hd : Inx k pc (.bipush n) 2 pc') (hv : (Int8.ofInt n).toInt32 = v) (h : WP k Q pc' ls (.int v :: st) sh M n1 n2) : WP k Q pc ls (st) sh M n1 n2 := by
  intro p l e s m args below meth c ad0 ad dC dI dA sz0 H locs la C h0 h1 h2 h3 h4 h5
  obtain ⟨hd, rfl⟩ := hd
  exact lv_bipush C.1 C.2.1 hd hv (h p l e s m args below meth c ad0 ad dC dI dA sz0 H locs la C h0 h1 h2 h3 h4 h5)

theorem r_sipush {k : MT} {Q : Po} {pc pc' : Nat} {ls : List (Option Value)} {st : List Value} {sh : List SC} {M : Mem} {n1 n2 : Nat} {n : Int} {v : Int32} (hd : Inx k pc (.sipush n) 3 pc') (hv : (Int16.ofInt n).toInt32 = v) (h : WP k Q pc' ls (.int v :: st) sh M n1 n2) : WP k Q pc ls (st) sh M n1 n2 := by
  intro p l e s m args below meth c ad0 ad dC dI dA sz0 H locs la C h0 h1 h2 h3 h4 h5
  obtain ⟨hd, rfl⟩ := hd
  exact lv_sipush C.1 C.2.1 hd hv (h p l e s m args below meth c ad0 ad dC dI dA sz0 H locs la C h0 h1 h2 h3 h4 h5)

theorem r_lconst {k : MT} {Q : Po} {pc pc' : Nat} {ls : List (Option Value)} {st : List Value} {sh : List SC} {M : Mem} {n1 n2 : Nat} {n : Fin 2} {v : Int64} (hd : Inx k pc (.lconst n) 1 pc') (hv : Int64.ofNat (n : Nat) = v) (h : WP k Q pc' ls (.long v :: st) sh M n1 n2) : WP k Q pc ls (st) sh M n1 n2 := by
  intro p l e s m args below meth c ad0 ad dC dI dA sz0 H locs la C h0 h1 h2 h3 h4 h5
  obtain ⟨hd, rfl⟩ := hd
  exact lv_lconst C.1 C.2.1 hd hv (h p l e s m args below meth c ad0 ad dC dI dA sz0 H locs la C h0 h1 h2 h3 h4 h5)

theorem r_ldc2 {k : MT} {Q : Po} {pc pc' : Nat} {ls : List (Option Value)} {st : List Value} {sh : List SC} {M : Mem} {n1 n2 : Nat} {idx : Nat} {v : Int64} (hd : Inx k pc (.ldc2_w idx) 3 pc') (hc : Cond.constantLong k.1.cls idx v ∈ lw_good) (h : WP k Q pc' ls (.long v :: st) sh M n1 n2) : WP k Q pc ls (st) sh M n1 n2 := by
  intro p l e s m args below meth c ad0 ad dC dI dA sz0 H locs la C h0 h1 h2 h3 h4 h5
  obtain ⟨hd, rfl⟩ := hd
  exact lv_ldc2 C.1 C.2.1 C.2.2.2.2.2.1 (C.2.2.2.2.2.2.1 _ hc) hd (h p l e s m args below meth c ad0 ad dC dI dA sz0 H locs la C h0 h1 h2 h3 h4 h5)

theorem r_iload {k : MT} {Q : Po} {pc pc' : Nat} {ls : List (Option Value)} {st : List Value} {sh : List SC} {M : Mem} {n1 n2 : Nat} {i : Nat} {x : Int32} (hd : Inx k pc (.iload i) 2 pc') (hl : lget ls i = some (.int x)) (h : WP k Q pc' ls (.int x :: st) sh M n1 n2) : WP k Q pc ls (st) sh M n1 n2 := by
  intro p l e s m args below meth c ad0 ad dC dI dA sz0 H locs la C h0 h1 h2 h3 h4 h5
  obtain ⟨hd, rfl⟩ := hd
  exact lv_iload C.1 C.2.1 hd (h5.2.2 _ (lget_mem hl)) (h p l e s m args below meth c ad0 ad dC dI dA sz0 H locs la C h0 h1 h2 h3 h4 h5)

theorem r_iload_n {k : MT} {Q : Po} {pc pc' : Nat} {ls : List (Option Value)} {st : List Value} {sh : List SC} {M : Mem} {n1 n2 : Nat} {i : Fin 4} {x : Int32} (hd : Inx k pc (.iload_n i) 1 pc') (hl : lget ls (i : Nat) = some (.int x)) (h : WP k Q pc' ls (.int x :: st) sh M n1 n2) : WP k Q pc ls (st) sh M n1 n2 := by
  intro p l e s m args below meth c ad0 ad dC dI dA sz0 H locs la C h0 h1 h2 h3 h4 h5
  obtain ⟨hd, rfl⟩ := hd
  exact lv_iload_n C.1 C.2.1 hd rfl (h5.2.2 _ (lget_mem hl)) (h p l e s m args below meth c ad0 ad dC dI dA sz0 H locs la C h0 h1 h2 h3 h4 h5)

theorem r_lload {k : MT} {Q : Po} {pc pc' : Nat} {ls : List (Option Value)} {st : List Value} {sh : List SC} {M : Mem} {n1 n2 : Nat} {i : Nat} {x : Int64} (hd : Inx k pc (.lload i) 2 pc') (hl : lget ls i = some (.long x)) (h : WP k Q pc' ls (.long x :: st) sh M n1 n2) : WP k Q pc ls (st) sh M n1 n2 := by
  intro p l e s m args below meth c ad0 ad dC dI dA sz0 H locs la C h0 h1 h2 h3 h4 h5
  obtain ⟨hd, rfl⟩ := hd
  exact lv_lload C.1 C.2.1 hd (h5.2.2 _ (lget_mem hl)) (h p l e s m args below meth c ad0 ad dC dI dA sz0 H locs la C h0 h1 h2 h3 h4 h5)

theorem r_lload_n {k : MT} {Q : Po} {pc pc' : Nat} {ls : List (Option Value)} {st : List Value} {sh : List SC} {M : Mem} {n1 n2 : Nat} {i : Fin 4} {x : Int64} (hd : Inx k pc (.lload_n i) 1 pc') (hl : lget ls (i : Nat) = some (.long x)) (h : WP k Q pc' ls (.long x :: st) sh M n1 n2) : WP k Q pc ls (st) sh M n1 n2 := by
  intro p l e s m args below meth c ad0 ad dC dI dA sz0 H locs la C h0 h1 h2 h3 h4 h5
  obtain ⟨hd, rfl⟩ := hd
  exact lv_lload_n C.1 C.2.1 hd rfl (h5.2.2 _ (lget_mem hl)) (h p l e s m args below meth c ad0 ad dC dI dA sz0 H locs la C h0 h1 h2 h3 h4 h5)

theorem r_aload {k : MT} {Q : Po} {pc pc' : Nat} {ls : List (Option Value)} {st : List Value} {sh : List SC} {M : Mem} {n1 n2 : Nat} {i : Nat} {x : Nat} (hd : Inx k pc (.aload i) 2 pc') (hl : lget ls i = some (.ref x)) (h : WP k Q pc' ls (.ref x :: st) sh M n1 n2) : WP k Q pc ls (st) sh M n1 n2 := by
  intro p l e s m args below meth c ad0 ad dC dI dA sz0 H locs la C h0 h1 h2 h3 h4 h5
  obtain ⟨hd, rfl⟩ := hd
  exact lv_aload C.1 C.2.1 hd (h5.2.2 _ (lget_mem hl)) (h p l e s m args below meth c ad0 ad dC dI dA sz0 H locs la C h0 h1 h2 h3 h4 h5)

theorem r_aload_n {k : MT} {Q : Po} {pc pc' : Nat} {ls : List (Option Value)} {st : List Value} {sh : List SC} {M : Mem} {n1 n2 : Nat} {i : Fin 4} {x : Nat} (hd : Inx k pc (.aload_n i) 1 pc') (hl : lget ls (i : Nat) = some (.ref x)) (h : WP k Q pc' ls (.ref x :: st) sh M n1 n2) : WP k Q pc ls (st) sh M n1 n2 := by
  intro p l e s m args below meth c ad0 ad dC dI dA sz0 H locs la C h0 h1 h2 h3 h4 h5
  obtain ⟨hd, rfl⟩ := hd
  exact lv_aload_n C.1 C.2.1 hd rfl (h5.2.2 _ (lget_mem hl)) (h p l e s m args below meth c ad0 ad dC dI dA sz0 H locs la C h0 h1 h2 h3 h4 h5)

theorem r_istore {k : MT} {Q : Po} {pc pc' : Nat} {ls : List (Option Value)} {st : List Value} {sh : List SC} {M : Mem} {n1 n2 : Nat} {i : Nat} {x : Int32} {ls' : List (Option Value)} (hd : Inx k pc (.istore i) 2 pc') (hn : i < k.2.2.1) (hs : lset ls i (.int x) = ls') (h : WP k Q pc' ls' st sh M n1 n2) : WP k Q pc ls (.int x :: st) sh M n1 n2 := by
  intro p l e s m args below meth c ad0 ad dC dI dA sz0 H locs la C h0 h1 h2 h3 h4 h5
  obtain ⟨hd, rfl⟩ := hd
  subst hs
  exact lv_istore C.1 C.2.1 hd h5 hn rfl (fun la h5 => h p l e s m args below meth c ad0 ad dC dI dA sz0 H locs la C h0 h1 h2 h3 h4 (lv_mono h5 lset_sub))

theorem r_istore_n {k : MT} {Q : Po} {pc pc' : Nat} {ls : List (Option Value)} {st : List Value} {sh : List SC} {M : Mem} {n1 n2 : Nat} {i : Fin 4} {x : Int32} {ls' : List (Option Value)} (hd : Inx k pc (.istore_n i) 1 pc') (hn : (i : Nat) < k.2.2.1) (hs : lset ls (i : Nat) (.int x) = ls') (h : WP k Q pc' ls' st sh M n1 n2) : WP k Q pc ls (.int x :: st) sh M n1 n2 := by
  intro p l e s m args below meth c ad0 ad dC dI dA sz0 H locs la C h0 h1 h2 h3 h4 h5
  obtain ⟨hd, rfl⟩ := hd
  subst hs
  exact lv_istore_n C.1 C.2.1 hd rfl h5 hn rfl (fun la h5 => h p l e s m args below meth c ad0 ad dC dI dA sz0 H locs la C h0 h1 h2 h3 h4 (lv_mono h5 lset_sub))

theorem r_astore {k : MT} {Q : Po} {pc pc' : Nat} {ls : List (Option Value)} {st : List Value} {sh : List SC} {M : Mem} {n1 n2 : Nat} {i : Nat} {x : Nat} {ls' : List (Option Value)} (hd : Inx k pc (.astore i) 2 pc') (hn : i < k.2.2.1) (hs : lset ls i (.ref x) = ls') (h : WP k Q pc' ls' st sh M n1 n2) : WP k Q pc ls (.ref x :: st) sh M n1 n2 := by
  intro p l e s m args below meth c ad0 ad dC dI dA sz0 H locs la C h0 h1 h2 h3 h4 h5
  obtain ⟨hd, rfl⟩ := hd
  subst hs
  exact lv_astore C.1 C.2.1 hd h5 hn rfl (fun la h5 => h p l e s m args below meth c ad0 ad dC dI dA sz0 H locs la C h0 h1 h2 h3 h4 (lv_mono h5 lset_sub))

theorem r_astore_n {k : MT} {Q : Po} {pc pc' : Nat} {ls : List (Option Value)} {st : List Value} {sh : List SC} {M : Mem} {n1 n2 : Nat} {i : Fin 4} {x : Nat} {ls' : List (Option Value)} (hd : Inx k pc (.astore_n i) 1 pc') (hn : (i : Nat) < k.2.2.1) (hs : lset ls (i : Nat) (.ref x) = ls') (h : WP k Q pc' ls' st sh M n1 n2) : WP k Q pc ls (.ref x :: st) sh M n1 n2 := by
  intro p l e s m args below meth c ad0 ad dC dI dA sz0 H locs la C h0 h1 h2 h3 h4 h5
  obtain ⟨hd, rfl⟩ := hd
  subst hs
  exact lv_astore_n C.1 C.2.1 hd rfl h5 hn rfl (fun la h5 => h p l e s m args below meth c ad0 ad dC dI dA sz0 H locs la C h0 h1 h2 h3 h4 (lv_mono h5 lset_sub))

theorem r_lstore {k : MT} {Q : Po} {pc pc' : Nat} {ls : List (Option Value)} {st : List Value} {sh : List SC} {M : Mem} {n1 n2 : Nat} {i : Nat} {x : Int64} {ls' : List (Option Value)} (hd : Inx k pc (.lstore i) 2 pc') (hn : i + 1 < k.2.2.1) (hs : lsetJ ls i (.long x) = ls') (h : WP k Q pc' ls' st sh M n1 n2) : WP k Q pc ls (.long x :: st) sh M n1 n2 := by
  intro p l e s m args below meth c ad0 ad dC dI dA sz0 H locs la C h0 h1 h2 h3 h4 h5
  obtain ⟨hd, rfl⟩ := hd
  subst hs
  exact lv_lstore C.1 C.2.1 hd h5 hn rfl (fun la h5 => h p l e s m args below meth c ad0 ad dC dI dA sz0 H locs la C h0 h1 h2 h3 h4 (lv_mono h5 lsetJ_sub))

theorem r_lstore_n {k : MT} {Q : Po} {pc pc' : Nat} {ls : List (Option Value)} {st : List Value} {sh : List SC} {M : Mem} {n1 n2 : Nat} {i : Fin 4} {x : Int64} {ls' : List (Option Value)} (hd : Inx k pc (.lstore_n i) 1 pc') (hn : (i : Nat) + 1 < k.2.2.1) (hs : lsetJ ls (i : Nat) (.long x) = ls') (h : WP k Q pc' ls' st sh M n1 n2) : WP k Q pc ls (.long x :: st) sh M n1 n2 := by
  intro p l e s m args below meth c ad0 ad dC dI dA sz0 H locs la C h0 h1 h2 h3 h4 h5
  obtain ⟨hd, rfl⟩ := hd
  subst hs
  exact lv_lstore_n C.1 C.2.1 hd rfl h5 hn rfl (fun la h5 => h p l e s m args below meth c ad0 ad dC dI dA sz0 H locs la C h0 h1 h2 h3 h4 (lv_mono h5 lsetJ_sub))

theorem r_iinc {k : MT} {Q : Po} {pc pc' : Nat} {ls : List (Option Value)} {st : List Value} {sh : List SC} {M : Mem} {n1 n2 : Nat} {i : Nat} {n : Int} {x v : Int32} {ls' : List (Option Value)} (hd : Inx k pc (.iinc i n) 3 pc') (hn : i < k.2.2.1) (hl : lget ls i = some (.int x)) (hv : Int32.ofInt n = v) (hs : lset ls i (.int (x + v)) = ls') (h : WP k Q pc' ls' st sh M n1 n2) : WP k Q pc ls st sh M n1 n2 := by
  intro p l e s m args below meth c ad0 ad dC dI dA sz0 H locs la C h0 h1 h2 h3 h4 h5
  obtain ⟨hd, rfl⟩ := hd
  subst hs
  subst hv
  obtain ⟨kk, hk⟩ := List.getElem?_of_mem (lget_mem (ad := ad) hl)
  exact lv_iinc C.1 C.2.1 hd h5 hk rfl hn rfl (fun la h5 => h p l e s m args below meth c ad0 ad dC dI dA sz0 H locs la C h0 h1 h2 h3 h4 (lv_mono h5 (lset_sub (v := .int (x + Int32.ofInt n)))))

theorem r_dup {k : MT} {Q : Po} {pc pc' : Nat} {ls : List (Option Value)} {st : List Value} {sh : List SC} {M : Mem} {n1 n2 : Nat} {v : Value} (hd : Inx k pc (.dup) 1 pc') (hc : v.category = 1) (h : WP k Q pc' ls (v :: v :: st) sh M n1 n2) : WP k Q pc ls (v :: st) sh M n1 n2 := by
  intro p l e s m args below meth c ad0 ad dC dI dA sz0 H locs la C h0 h1 h2 h3 h4 h5
  obtain ⟨hd, rfl⟩ := hd
  exact lv_dup C.1 C.2.1 hd ((cv_cat ad v).trans hc) (h p l e s m args below meth c ad0 ad dC dI dA sz0 H locs la C h0 h1 h2 h3 h4 h5)

theorem r_pop {k : MT} {Q : Po} {pc pc' : Nat} {ls : List (Option Value)} {st : List Value} {sh : List SC} {M : Mem} {n1 n2 : Nat} {v : Value} (hd : Inx k pc (.pop) 1 pc') (hc : v.category = 1) (h : WP k Q pc' ls (st) sh M n1 n2) : WP k Q pc ls (v :: st) sh M n1 n2 := by
  intro p l e s m args below meth c ad0 ad dC dI dA sz0 H locs la C h0 h1 h2 h3 h4 h5
  obtain ⟨hd, rfl⟩ := hd
  exact lv_pop C.1 C.2.1 hd ((cv_cat ad v).trans hc) (h p l e s m args below meth c ad0 ad dC dI dA sz0 H locs la C h0 h1 h2 h3 h4 h5)

theorem r_dup2 {k : MT} {Q : Po} {pc pc' : Nat} {ls : List (Option Value)} {st : List Value} {sh : List SC} {M : Mem} {n1 n2 : Nat} {v w : Value} (hd : Inx k pc (.dup2) 1 pc') (hc : v.category = 1) (hw : w.category = 1) (h : WP k Q pc' ls (v :: w :: v :: w :: st) sh M n1 n2) : WP k Q pc ls (v :: w :: st) sh M n1 n2 := by
  intro p l e s m args below meth c ad0 ad dC dI dA sz0 H locs la C h0 h1 h2 h3 h4 h5
  obtain ⟨hd, rfl⟩ := hd
  exact lv_dup2_11 C.1 C.2.1 hd ((cv_cat ad v).trans hc) ((cv_cat ad w).trans hw) (h p l e s m args below meth c ad0 ad dC dI dA sz0 H locs la C h0 h1 h2 h3 h4 h5)

theorem r_icmp_eq {k : MT} {Q : Po} {pc pc' : Nat} {ls : List (Option Value)} {st : List Value} {sh : List SC} {M : Mem} {n1 n2 : Nat} {tgt : Nat} {x y : Int32} (hd : BrI k pc .eq tgt pc') (ht : x = y → WP k Q tgt ls st sh M n1 n2) (hf : ¬ (x = y) → WP k Q pc' ls st sh M n1 n2) : WP k Q pc ls (.int y :: .int x :: st) sh M n1 n2 := by
  intro p l e s m args below meth c ad0 ad dC dI dA sz0 H locs la C h0 h1 h2 h3 h4 h5
  obtain ⟨off, hd, rfl, hg⟩ := hd
  exact lv_icmp_eq C.1 C.2.1 hd hg (fun q => ht q p l e s m args below meth c ad0 ad dC dI dA sz0 H locs la C h0 h1 h2 h3 h4 h5) (fun q => hf q p l e s m args below meth c ad0 ad dC dI dA sz0 H locs la C h0 h1 h2 h3 h4 h5)

theorem r_if_eq {k : MT} {Q : Po} {pc pc' : Nat} {ls : List (Option Value)} {st : List Value} {sh : List SC} {M : Mem} {n1 n2 : Nat} {tgt : Nat} {x : Int32} (hd : BrZ k pc .eq tgt pc') (ht : x = 0 → WP k Q tgt ls st sh M n1 n2) (hf : ¬ (x = 0) → WP k Q pc' ls st sh M n1 n2) : WP k Q pc ls (.int x :: st) sh M n1 n2 := by
  intro p l e s m args below meth c ad0 ad dC dI dA sz0 H locs la C h0 h1 h2 h3 h4 h5
  obtain ⟨off, hd, rfl, hg⟩ := hd
  exact lv_if_eq C.1 C.2.1 hd hg (fun q => ht q p l e s m args below meth c ad0 ad dC dI dA sz0 H locs la C h0 h1 h2 h3 h4 h5) (fun q => hf q p l e s m args below meth c ad0 ad dC dI dA sz0 H locs la C h0 h1 h2 h3 h4 h5)

theorem r_icmp_ne {k : MT} {Q : Po} {pc pc' : Nat} {ls : List (Option Value)} {st : List Value} {sh : List SC} {M : Mem} {n1 n2 : Nat} {tgt : Nat} {x y : Int32} (hd : BrI k pc .ne tgt pc') (ht : x ≠ y → WP k Q tgt ls st sh M n1 n2) (hf : x = y → WP k Q pc' ls st sh M n1 n2) : WP k Q pc ls (.int y :: .int x :: st) sh M n1 n2 := by
  intro p l e s m args below meth c ad0 ad dC dI dA sz0 H locs la C h0 h1 h2 h3 h4 h5
  obtain ⟨off, hd, rfl, hg⟩ := hd
  exact lv_icmp_ne C.1 C.2.1 hd hg (fun q => ht q p l e s m args below meth c ad0 ad dC dI dA sz0 H locs la C h0 h1 h2 h3 h4 h5) (fun q => hf q p l e s m args below meth c ad0 ad dC dI dA sz0 H locs la C h0 h1 h2 h3 h4 h5)

theorem r_if_ne {k : MT} {Q : Po} {pc pc' : Nat} {ls : List (Option Value)} {st : List Value} {sh : List SC} {M : Mem} {n1 n2 : Nat} {tgt : Nat} {x : Int32} (hd : BrZ k pc .ne tgt pc') (ht : x ≠ 0 → WP k Q tgt ls st sh M n1 n2) (hf : x = 0 → WP k Q pc' ls st sh M n1 n2) : WP k Q pc ls (.int x :: st) sh M n1 n2 := by
  intro p l e s m args below meth c ad0 ad dC dI dA sz0 H locs la C h0 h1 h2 h3 h4 h5
  obtain ⟨off, hd, rfl, hg⟩ := hd
  exact lv_if_ne C.1 C.2.1 hd hg (fun q => ht q p l e s m args below meth c ad0 ad dC dI dA sz0 H locs la C h0 h1 h2 h3 h4 h5) (fun q => hf q p l e s m args below meth c ad0 ad dC dI dA sz0 H locs la C h0 h1 h2 h3 h4 h5)

theorem r_icmp_lt {k : MT} {Q : Po} {pc pc' : Nat} {ls : List (Option Value)} {st : List Value} {sh : List SC} {M : Mem} {n1 n2 : Nat} {tgt : Nat} {x y : Int32} (hd : BrI k pc .lt tgt pc') (ht : x < y → WP k Q tgt ls st sh M n1 n2) (hf : ¬ (x < y) → WP k Q pc' ls st sh M n1 n2) : WP k Q pc ls (.int y :: .int x :: st) sh M n1 n2 := by
  intro p l e s m args below meth c ad0 ad dC dI dA sz0 H locs la C h0 h1 h2 h3 h4 h5
  obtain ⟨off, hd, rfl, hg⟩ := hd
  exact lv_icmp_lt C.1 C.2.1 hd hg (fun q => ht q p l e s m args below meth c ad0 ad dC dI dA sz0 H locs la C h0 h1 h2 h3 h4 h5) (fun q => hf q p l e s m args below meth c ad0 ad dC dI dA sz0 H locs la C h0 h1 h2 h3 h4 h5)

theorem r_if_lt {k : MT} {Q : Po} {pc pc' : Nat} {ls : List (Option Value)} {st : List Value} {sh : List SC} {M : Mem} {n1 n2 : Nat} {tgt : Nat} {x : Int32} (hd : BrZ k pc .lt tgt pc') (ht : x < 0 → WP k Q tgt ls st sh M n1 n2) (hf : ¬ (x < 0) → WP k Q pc' ls st sh M n1 n2) : WP k Q pc ls (.int x :: st) sh M n1 n2 := by
  intro p l e s m args below meth c ad0 ad dC dI dA sz0 H locs la C h0 h1 h2 h3 h4 h5
  obtain ⟨off, hd, rfl, hg⟩ := hd
  exact lv_if_lt C.1 C.2.1 hd hg (fun q => ht q p l e s m args below meth c ad0 ad dC dI dA sz0 H locs la C h0 h1 h2 h3 h4 h5) (fun q => hf q p l e s m args below meth c ad0 ad dC dI dA sz0 H locs la C h0 h1 h2 h3 h4 h5)

theorem r_icmp_ge {k : MT} {Q : Po} {pc pc' : Nat} {ls : List (Option Value)} {st : List Value} {sh : List SC} {M : Mem} {n1 n2 : Nat} {tgt : Nat} {x y : Int32} (hd : BrI k pc .ge tgt pc') (ht : y ≤ x → WP k Q tgt ls st sh M n1 n2) (hf : ¬ (y ≤ x) → WP k Q pc' ls st sh M n1 n2) : WP k Q pc ls (.int y :: .int x :: st) sh M n1 n2 := by
  intro p l e s m args below meth c ad0 ad dC dI dA sz0 H locs la C h0 h1 h2 h3 h4 h5
  obtain ⟨off, hd, rfl, hg⟩ := hd
  exact lv_icmp_ge C.1 C.2.1 hd hg (fun q => ht q p l e s m args below meth c ad0 ad dC dI dA sz0 H locs la C h0 h1 h2 h3 h4 h5) (fun q => hf q p l e s m args below meth c ad0 ad dC dI dA sz0 H locs la C h0 h1 h2 h3 h4 h5)

theorem r_if_ge {k : MT} {Q : Po} {pc pc' : Nat} {ls : List (Option Value)} {st : List Value} {sh : List SC} {M : Mem} {n1 n2 : Nat} {tgt : Nat} {x : Int32} (hd : BrZ k pc .ge tgt pc') (ht : 0 ≤ x → WP k Q tgt ls st sh M n1 n2) (hf : ¬ (0 ≤ x) → WP k Q pc' ls st sh M n1 n2) : WP k Q pc ls (.int x :: st) sh M n1 n2 := by
  intro p l e s m args below meth c ad0 ad dC dI dA sz0 H locs la C h0 h1 h2 h3 h4 h5
  obtain ⟨off, hd, rfl, hg⟩ := hd
  exact lv_if_ge C.1 C.2.1 hd hg (fun q => ht q p l e s m args below meth c ad0 ad dC dI dA sz0 H locs la C h0 h1 h2 h3 h4 h5) (fun q => hf q p l e s m args below meth c ad0 ad dC dI dA sz0 H locs la C h0 h1 h2 h3 h4 h5)

theorem r_icmp_gt {k : MT} {Q : Po} {pc pc' : Nat} {ls : List (Option Value)} {st : List Value} {sh : List SC} {M : Mem} {n1 n2 : Nat} {tgt : Nat} {x y : Int32} (hd : BrI k pc .gt tgt pc') (ht : y < x → WP k Q tgt ls st sh M n1 n2) (hf : ¬ (y < x) → WP k Q pc' ls st sh M n1 n2) : WP k Q pc ls (.int y :: .int x :: st) sh M n1 n2 := by
  intro p l e s m args below meth c ad0 ad dC dI dA sz0 H locs la C h0 h1 h2 h3 h4 h5
  obtain ⟨off, hd, rfl, hg⟩ := hd
  exact lv_icmp_gt C.1 C.2.1 hd hg (fun q => ht q p l e s m args below meth c ad0 ad dC dI dA sz0 H locs la C h0 h1 h2 h3 h4 h5) (fun q => hf q p l e s m args below meth c ad0 ad dC dI dA sz0 H locs la C h0 h1 h2 h3 h4 h5)

theorem r_if_gt {k : MT} {Q : Po} {pc pc' : Nat} {ls : List (Option Value)} {st : List Value} {sh : List SC} {M : Mem} {n1 n2 : Nat} {tgt : Nat} {x : Int32} (hd : BrZ k pc .gt tgt pc') (ht : 0 < x → WP k Q tgt ls st sh M n1 n2) (hf : ¬ (0 < x) → WP k Q pc' ls st sh M n1 n2) : WP k Q pc ls (.int x :: st) sh M n1 n2 := by
  intro p l e s m args below meth c ad0 ad dC dI dA sz0 H locs la C h0 h1 h2 h3 h4 h5
  obtain ⟨off, hd, rfl, hg⟩ := hd
  exact lv_if_gt C.1 C.2.1 hd hg (fun q => ht q p l e s m args below meth c ad0 ad dC dI dA sz0 H locs la C h0 h1 h2 h3 h4 h5) (fun q => hf q p l e s m args below meth c ad0 ad dC dI dA sz0 H locs la C h0 h1 h2 h3 h4 h5)

theorem r_icmp_le {k : MT} {Q : Po} {pc pc' : Nat} {ls : List (Option Value)} {st : List Value} {sh : List SC} {M : Mem} {n1 n2 : Nat} {tgt : Nat} {x y : Int32} (hd : BrI k pc .le tgt pc') (ht : x ≤ y → WP k Q tgt ls st sh M n1 n2) (hf : ¬ (x ≤ y) → WP k Q pc' ls st sh M n1 n2) : WP k Q pc ls (.int y :: .int x :: st) sh M n1 n2 := by
  intro p l e s m args below meth c ad0 ad dC dI dA sz0 H locs la C h0 h1 h2 h3 h4 h5
  obtain ⟨off, hd, rfl, hg⟩ := hd
  exact lv_icmp_le C.1 C.2.1 hd hg (fun q => ht q p l e s m args below meth c ad0 ad dC dI dA sz0 H locs la C h0 h1 h2 h3 h4 h5) (fun q => hf q p l e s m args below meth c ad0 ad dC dI dA sz0 H locs la C h0 h1 h2 h3 h4 h5)

theorem r_if_le {k : MT} {Q : Po} {pc pc' : Nat} {ls : List (Option Value)} {st : List Value} {sh : List SC} {M : Mem} {n1 n2 : Nat} {tgt : Nat} {x : Int32} (hd : BrZ k pc .le tgt pc') (ht : x ≤ 0 → WP k Q tgt ls st sh M n1 n2) (hf : ¬ (x ≤ 0) → WP k Q pc' ls st sh M n1 n2) : WP k Q pc ls (.int x :: st) sh M n1 n2 := by
  intro p l e s m args below meth c ad0 ad dC dI dA sz0 H locs la C h0 h1 h2 h3 h4 h5
  obtain ⟨off, hd, rfl, hg⟩ := hd
  exact lv_if_le C.1 C.2.1 hd hg (fun q => ht q p l e s m args below meth c ad0 ad dC dI dA sz0 H locs la C h0 h1 h2 h3 h4 h5) (fun q => hf q p l e s m args below meth c ad0 ad dC dI dA sz0 H locs la C h0 h1 h2 h3 h4 h5)

theorem r_goto {k : MT} {Q : Po} {pc : Nat} {ls : List (Option Value)} {st : List Value} {sh : List SC} {M : Mem} {n1 n2 : Nat} {tgt : Nat} (hd : Gto k pc tgt) (h : WP k Q tgt ls st sh M n1 n2) : WP k Q pc ls st sh M n1 n2 := by
  intro p l e s m args below meth c ad0 ad dC dI dA sz0 H locs la C h0 h1 h2 h3 h4 h5
  obtain ⟨off, hd, hg⟩ := hd
  exact lv_goto C.1 C.2.1 hd hg (h p l e s m args below meth c ad0 ad dC dI dA sz0 H locs la C h0 h1 h2 h3 h4 h5)

theorem r_tabOut {k : MT} {Q : Po} {pc : Nat} {ls : List (Option Value)} {st : List Value} {sh : List SC} {M : Mem} {n1 n2 : Nat} {tgt : Nat} {x : Int32} {dflt lo hi : Int} {offs : Array Int} {len : Nat} (hd : decode k.2.1 pc = .ok (.tableswitch dflt lo hi offs, len)) (ho : x.toInt < lo ∨ hi < x.toInt) (hg : (pc : Int) + dflt = (tgt : Int)) (h : WP k Q tgt ls st sh M n1 n2) : WP k Q pc ls (.int x :: st) sh M n1 n2 := by
  intro p l e s m args below meth c ad0 ad dC dI dA sz0 H locs la C h0 h1 h2 h3 h4 h5
  exact lv_tableOut C.1 C.2.1 hd ho hg (h p l e s m args below meth c ad0 ad dC dI dA sz0 H locs la C h0 h1 h2 h3 h4 h5)

theorem r_tabIn {k : MT} {Q : Po} {pc : Nat} {ls : List (Option Value)} {st : List Value} {sh : List SC} {M : Mem} {n1 n2 : Nat} {tgt : Nat} {x : Int32} {dflt lo hi off : Int} {offs : Array Int} {len : Nat} (hd : decode k.2.1 pc = .ok (.tableswitch dflt lo hi offs, len)) (g1 : ¬ x.toInt < lo) (g2 : ¬ hi < x.toInt) (ho : offs[(x.toInt - lo).toNat]? = some off) (hg : (pc : Int) + off = (tgt : Int)) (h : WP k Q tgt ls st sh M n1 n2) : WP k Q pc ls (.int x :: st) sh M n1 n2 := by
  intro p l e s m args below meth c ad0 ad dC dI dA sz0 H locs la C h0 h1 h2 h3 h4 h5
  exact lv_tableIn C.1 C.2.1 hd g1 g2 ho hg (h p l e s m args below meth c ad0 ad dC dI dA sz0 H locs la C h0 h1 h2 h3 h4 h5)
