/-! ===== the law's own walk ===== -/
section LAW
def R_law : String := "ToyPitchLaw"
/-- what stands still during the law -/
def LwC (p : Program) (s : State) (m : MethodId) (c : Code) (b L : Nat) (xs : Nat → Int32) : Prop := p.tables.exec = Jvm.exec ∧ c.code = code ∧ s.vm.findClass R_law = some m.cls ∧ (∀ w ∈ lw_good, w.before #[Value.ref b] s = true) ∧ va_X b L xs s s.heap ∧ b < s.heap.size
theorem LwC.hx {p : Program} {s : State} {m : MethodId} {c : Code} {b L : Nat} {xs : Nat → Int32} (h : LwC p s m c b L xs) : p.tables.exec = Jvm.exec := h.1
theorem LwC.hb {p : Program} {s : State} {m : MethodId} {c : Code} {b L : Nat} {xs : Nat → Int32} (h : LwC p s m c b L xs) : c.code = code := h.2.1
theorem LwC.hX {p : Program} {s : State} {m : MethodId} {c : Code} {b L : Nat} {xs : Nat → Int32} (h : LwC p s m c b L xs) : va_X b L xs s s.heap := h.2.2.2.2.1
theorem LwC.hbl {p : Program} {s : State} {m : MethodId} {c : Code} {b L : Nat} {xs : Nat → Int32} (h : LwC p s m c b L xs) : b < s.heap.size := h.2.2.2.2.2
variable {p : Program} {l : Launch} {e : Env} {s : State} {m : MethodId} {below : List Frame} {meth : Method} {c : Code} {b L : Nat} {xs : Nat → Int32} {Z : State → Prop}
def LWP (p : Program) (l : Launch) (e : Env) (s : State) (m : MethodId) (below : List Frame) (meth : Method) (c : Code) (b : Nat) (Z : State → Prop) (pc : Nat) (ls : List (Option Value)) (st : List Value) (sh : List SC) (M : Mem) (n1 n2 : Nat) : Prop :=
  ∀ (ad : AD) (dC : Nat → ClassId) (dI : Nat → Nat → Nat) (dA : Nat → ClassId) (H : Heap) (locs : List Loc) (la : Array Slot),
    ad.1.length = sh.length → ad.2 9 = b → Ext s.heap.size ad.2 s → va_K (dC, dI) clW (tysW dA) s → va_P (dC, dI) clW (wsW ad dA sh M) H → va_D (Aw s.heap.size) (wsW ad dA sh M) → va_S (Aw s.heap.size) s.heap H locs → lv_has la 4 (lvW ad ls) →
    W p l e room_1 s m #[Value.ref b] below meth c H locs n1 n2 Z (F0 m pc la (st.map (cv ad)))
variable {pc : Nat} {ls : List (Option Value)} {st : List Value} {sh : List SC} {M : Mem} {n1 n2 : Nat}
theorem l_iadd {x y : Int32} (C : LwC p s m c b L xs) (hd : decode code pc = .ok (.iadd, 1)) (h : LWP p l e s m below meth c b Z (pc + 1) ls (.int (x + y) :: st) sh M n1 n2) : LWP p l e s m below meth c b Z pc ls (.int y :: .int x :: st) sh M n1 n2 :=
  fun ad dC dI dA H locs la h1 h9 hE hK h2 h3 h4 h5 => lv_iadd C.hx C.hb hd (h ad dC dI dA H locs la h1 h9 hE hK h2 h3 h4 h5)
theorem l_sld {i : Int32} (C : LwC p s m c b L xs) (hi : vp_in i L) (hd : decode code pc = .ok (.iaload, 1)) (h : LWP p l e s m below meth c b Z (pc + 1) ls (.int (xs i.toNatClampNeg) :: st) sh M n1 n2) : LWP p l e s m below meth c b Z pc ls (.int i :: .retAddr 9 :: st) sh M n1 n2 :=
  fun ad dC dI dA H locs la h1 h9 hE hK h2 h3 h4 h5 => by
    show W _ _ _ _ _ _ _ _ _ _ _ _ _ _ _ (F0 m pc la (.int i :: .ref (ad.2 9) :: st.map (cv ad)))
    rw [h9]
    exact va_sld C.hx C.hb C.hX C.hbl (Nat.not_le.mpr C.hbl) h4 hi hd (h ad dC dI dA H locs la h1 h9 hE hK h2 h3 h4 h5)
theorem l_isub {x y : Int32} (C : LwC p s m c b L xs) (hd : decode code pc = .ok (.isub, 1)) (h : LWP p l e s m below meth c b Z (pc + 1) ls (.int (x - y) :: st) sh M n1 n2) : LWP p l e s m below meth c b Z pc ls (.int y :: .int x :: st) sh M n1 n2 :=
  fun ad dC dI dA H locs la h1 h9 hE hK h2 h3 h4 h5 => lv_isub C.hx C.hb hd (h ad dC dI dA H locs la h1 h9 hE hK h2 h3 h4 h5)
theorem l_iand {x y : Int32} (C : LwC p s m c b L xs) (hd : decode code pc = .ok (.iand, 1)) (h : LWP p l e s m below meth c b Z (pc + 1) ls (.int (x &&& y) :: st) sh M n1 n2) : LWP p l e s m below meth c b Z pc ls (.int y :: .int x :: st) sh M n1 n2 :=
  fun ad dC dI dA H locs la h1 h9 hE hK h2 h3 h4 h5 => lv_iand C.hx C.hb hd (h ad dC dI dA H locs la h1 h9 hE hK h2 h3 h4 h5)
theorem l_i2l {x : Int32} (C : LwC p s m c b L xs) (hd : decode code pc = .ok (.i2l, 1)) (h : LWP p l e s m below meth c b Z (pc + 1) ls (.long x.toInt64 :: st) sh M n1 n2) : LWP p l e s m below meth c b Z pc ls (.int x :: st) sh M n1 n2 :=
  fun ad dC dI dA H locs la h1 h9 hE hK h2 h3 h4 h5 => lv_i2l C.hx C.hb hd rfl (h ad dC dI dA H locs la h1 h9 hE hK h2 h3 h4 h5)
theorem l_land {x y : Int64} (C : LwC p s m c b L xs) (hd : decode code pc = .ok (.land, 1)) (h : LWP p l e s m below meth c b Z (pc + 1) ls (.long (x &&& y) :: st) sh M n1 n2) : LWP p l e s m below meth c b Z pc ls (.long y :: .long x :: st) sh M n1 n2 :=
  fun ad dC dI dA H locs la h1 h9 hE hK h2 h3 h4 h5 => lv_land C.hx C.hb hd (h ad dC dI dA H locs la h1 h9 hE hK h2 h3 h4 h5)
theorem l_lor {x y : Int64} (C : LwC p s m c b L xs) (hd : decode code pc = .ok (.lor, 1)) (h : LWP p l e s m below meth c b Z (pc + 1) ls (.long (x ||| y) :: st) sh M n1 n2) : LWP p l e s m below meth c b Z pc ls (.long y :: .long x :: st) sh M n1 n2 :=
  fun ad dC dI dA H locs la h1 h9 hE hK h2 h3 h4 h5 => lv_lor C.hx C.hb hd (h ad dC dI dA H locs la h1 h9 hE hK h2 h3 h4 h5)
theorem l_lshl {x : Int64} {y : Int32} (C : LwC p s m c b L xs) (hd : decode code pc = .ok (.lshl, 1)) (h : LWP p l e s m below meth c b Z (pc + 1) ls (.long (x <<< (y.toInt64 &&& 63)) :: st) sh M n1 n2) : LWP p l e s m below meth c b Z pc ls (.int y :: .long x :: st) sh M n1 n2 :=
  fun ad dC dI dA H locs la h1 h9 hE hK h2 h3 h4 h5 => lv_lshl C.hx C.hb hd rfl (h ad dC dI dA H locs la h1 h9 hE hK h2 h3 h4 h5)
theorem l_iconst {n : Int} {v : Int32} (C : LwC p s m c b L xs) (hd : decode code pc = .ok (.iconst n, 1)) (hv : Int32.ofInt n = v) (h : LWP p l e s m below meth c b Z (pc + 1) ls (.int v :: st) sh M n1 n2) : LWP p l e s m below meth c b Z pc ls (st) sh M n1 n2 :=
  fun ad dC dI dA H locs la h1 h9 hE hK h2 h3 h4 h5 => lv_iconst C.hx C.hb hd hv (h ad dC dI dA H locs la h1 h9 hE hK h2 h3 h4 h5)
theorem l_bipush {n : Int} {v : Int32} (C : LwC p s m c b L xs) (hd : decode code pc = .ok (.bipush n, 2)) (hv : (Int8.ofInt n).toInt32 = v) (h : LWP p l e s m below meth c b Z (pc + 2) ls (.int v :: st) sh M n1 n2) : LWP p l e s m below meth c b Z pc ls (st) sh M n1 n2 :=
  fun ad dC dI dA H locs la h1 h9 hE hK h2 h3 h4 h5 => lv_bipush C.hx C.hb hd hv (h ad dC dI dA H locs la h1 h9 hE hK h2 h3 h4 h5)
theorem l_iload_n {i : Fin 4} {x : Int32} (C : LwC p s m c b L xs) (hd : decode code pc = .ok (.iload_n i, 1)) (hl : lget ls (i : Nat) = some (.int x)) (h : LWP p l e s m below meth c b Z (pc + 1) ls (.int x :: st) sh M n1 n2) : LWP p l e s m below meth c b Z pc ls st sh M n1 n2 :=
  fun ad dC dI dA H locs la h1 h9 hE hK h2 h3 h4 h5 => lv_iload_n C.hx C.hb hd rfl (h5.2.2 _ (lget_mem hl)) (h ad dC dI dA H locs la h1 h9 hE hK h2 h3 h4 h5)
theorem l_aload_n {i : Fin 4} {x : Nat} (C : LwC p s m c b L xs) (hd : decode code pc = .ok (.aload_n i, 1)) (hl : lget ls (i : Nat) = some (.ref x)) (h : LWP p l e s m below meth c b Z (pc + 1) ls (.ref x :: st) sh M n1 n2) : LWP p l e s m below meth c b Z pc ls st sh M n1 n2 :=
  fun ad dC dI dA H locs la h1 h9 hE hK h2 h3 h4 h5 => lv_aload_n C.hx C.hb hd rfl (h5.2.2 _ (lget_mem hl)) (h ad dC dI dA H locs la h1 h9 hE hK h2 h3 h4 h5)
theorem l_aloadX_n {i : Fin 4} {x : Nat} (C : LwC p s m c b L xs) (hd : decode code pc = .ok (.aload_n i, 1)) (hl : lget ls (i : Nat) = some (.retAddr x)) (h : LWP p l e s m below meth c b Z (pc + 1) ls (.retAddr x :: st) sh M n1 n2) : LWP p l e s m below meth c b Z pc ls st sh M n1 n2 :=
  fun ad dC dI dA H locs la h1 h9 hE hK h2 h3 h4 h5 => lv_aload_n C.hx C.hb hd rfl (h5.2.2 _ (lget_mem hl)) (h ad dC dI dA H locs la h1 h9 hE hK h2 h3 h4 h5)
theorem l_istore_n {i : Fin 4} {x : Int32} {ls' : List (Option Value)} (C : LwC p s m c b L xs) (hd : decode code pc = .ok (.istore_n i, 1)) (hs : lset ls (i : Nat) (.int x) = ls') (h : LWP p l e s m below meth c b Z (pc + 1) ls' st sh M n1 n2) : LWP p l e s m below meth c b Z pc ls (.int x :: st) sh M n1 n2 :=
  fun ad dC dI dA H locs la h1 h9 hE hK h2 h3 h4 h5 => by
    subst hs
    exact lv_istore_n C.hx C.hb hd rfl h5 i.isLt rfl (fun la h5 => h ad dC dI dA H locs la h1 h9 hE hK h2 h3 h4 (lv_mono h5 lset_sub))
theorem l_astore_n {i : Fin 4} {x : Nat} {ls' : List (Option Value)} (C : LwC p s m c b L xs) (hd : decode code pc = .ok (.astore_n i, 1)) (hs : lset ls (i : Nat) (.ref x) = ls') (h : LWP p l e s m below meth c b Z (pc + 1) ls' st sh M n1 n2) : LWP p l e s m below meth c b Z pc ls (.ref x :: st) sh M n1 n2 :=
  fun ad dC dI dA H locs la h1 h9 hE hK h2 h3 h4 h5 => by
    subst hs
    exact lv_astore_n C.hx C.hb hd rfl h5 i.isLt rfl (fun la h5 => h ad dC dI dA H locs la h1 h9 hE hK h2 h3 h4 (lv_mono h5 lset_sub))
theorem l_iinc {i : Nat} {n : Int} {x v : Int32} {ls' : List (Option Value)} (C : LwC p s m c b L xs) (hd : decode code pc = .ok (.iinc i n, 3)) (hn : i < 4) (hl : lget ls i = some (.int x)) (hv : Int32.ofInt n = v) (hs : lset ls i (.int (x + v)) = ls') (h : LWP p l e s m below meth c b Z (pc + 3) ls' st sh M n1 n2) : LWP p l e s m below meth c b Z pc ls st sh M n1 n2 :=
  fun ad dC dI dA H locs la h1 h9 hE hK h2 h3 h4 h5 => by
    subst hs
    subst hv
    obtain ⟨kk, hk⟩ := List.getElem?_of_mem (lget_mem (ad := ad) hl)
    exact lv_iinc C.hx C.hb hd h5 hk rfl hn rfl (fun la h5 => h ad dC dI dA H locs la h1 h9 hE hK h2 h3 h4 (lv_mono h5 (lset_sub (v := .int (x + Int32.ofInt n)))))
theorem l_goto {tgt : Nat} {off : Int} (C : LwC p s m c b L xs) (hd : decode code pc = .ok (.goto off, 3)) (hg : (pc : Int) + off = (tgt : Int)) (h : LWP p l e s m below meth c b Z tgt ls st sh M n1 n2) : LWP p l e s m below meth c b Z pc ls st sh M n1 n2 :=
  fun ad dC dI dA H locs la h1 h9 hE hK h2 h3 h4 h5 => lv_goto C.hx C.hb hd hg (h ad dC dI dA H locs la h1 h9 hE hK h2 h3 h4 h5)
theorem l_icmp_gt {tgt : Nat} {off : Int} {x y : Int32} (C : LwC p s m c b L xs) (hd : decode code pc = .ok (.if_icmp .gt off, 3)) (hg : (pc : Int) + off = (tgt : Int)) (ht : y < x → LWP p l e s m below meth c b Z tgt ls st sh M n1 n2) (hf : ¬ (y < x) → LWP p l e s m below meth c b Z (pc + 3) ls st sh M n1 n2) : LWP p l e s m below meth c b Z pc ls (.int y :: .int x :: st) sh M n1 n2 :=
  fun ad dC dI dA H locs la h1 h9 hE hK h2 h3 h4 h5 => lv_icmp_gt C.hx C.hb hd hg (fun q => ht q ad dC dI dA H locs la h1 h9 hE hK h2 h3 h4 h5) (fun q => hf q ad dC dI dA H locs la h1 h9 hE hK h2 h3 h4 h5)
theorem l_icmp_eq {tgt : Nat} {off : Int} {x y : Int32} (C : LwC p s m c b L xs) (hd : decode code pc = .ok (.if_icmp .eq off, 3)) (hg : (pc : Int) + off = (tgt : Int)) (ht : x = y → LWP p l e s m below meth c b Z tgt ls st sh M n1 n2) (hf : ¬ (x = y) → LWP p l e s m below meth c b Z (pc + 3) ls st sh M n1 n2) : LWP p l e s m below meth c b Z pc ls (.int y :: .int x :: st) sh M n1 n2 :=
  fun ad dC dI dA H locs la h1 h9 hE hK h2 h3 h4 h5 => lv_icmp_eq C.hx C.hb hd hg (fun q => ht q ad dC dI dA H locs la h1 h9 hE hK h2 h3 h4 h5) (fun q => hf q ad dC dI dA H locs la h1 h9 hE hK h2 h3 h4 h5)
theorem l_tabOut {tgt : Nat} {x : Int32} {dflt lo hi : Int} {offs : Array Int} {len : Nat} (C : LwC p s m c b L xs) (hd : decode code pc = .ok (.tableswitch dflt lo hi offs, len)) (ho : x.toInt < lo ∨ hi < x.toInt) (hg : (pc : Int) + dflt = (tgt : Int)) (h : LWP p l e s m below meth c b Z tgt ls st sh M n1 n2) : LWP p l e s m below meth c b Z pc ls (.int x :: st) sh M n1 n2 :=
  fun ad dC dI dA H locs la h1 h9 hE hK h2 h3 h4 h5 => lv_tableOut C.hx C.hb hd ho hg (h ad dC dI dA H locs la h1 h9 hE hK h2 h3 h4 h5)
theorem l_tabIn {tgt : Nat} {x : Int32} {dflt lo hi off : Int} {offs : Array Int} {len : Nat} (C : LwC p s m c b L xs) (hd : decode code pc = .ok (.tableswitch dflt lo hi offs, len)) (g1 : ¬ x.toInt < lo) (g2 : ¬ hi < x.toInt) (ho : offs[(x.toInt - lo).toNat]? = some off) (hg : (pc : Int) + off = (tgt : Int)) (h : LWP p l e s m below meth c b Z tgt ls st sh M n1 n2) : LWP p l e s m below meth c b Z pc ls (.int x :: st) sh M n1 n2 :=
  fun ad dC dI dA H locs la h1 h9 hE hK h2 h3 h4 h5 => lv_tableIn C.hx C.hb hd g1 g2 ho hg (h ad dC dI dA H locs la h1 h9 hE hK h2 h3 h4 h5)
theorem l_ldc2 {idx : Nat} {v : Int64} (C : LwC p s m c b L xs) (hd : decode code pc = .ok (.ldc2_w idx, 3)) (hc : Cond.constantLong R_law idx v ∈ lw_good) (h : LWP p l e s m below meth c b Z (pc + 3) ls (.long v :: st) sh M n1 n2) : LWP p l e s m below meth c b Z pc ls st sh M n1 n2 :=
  fun ad dC dI dA H locs la h1 h9 hE hK h2 h3 h4 h5 => lv_ldc2 C.hx C.hb C.2.2.1 (C.2.2.2.1 _ hc) hd (h ad dC dI dA H locs la h1 h9 hE hK h2 h3 h4 h5)
theorem l_slen  (C : LwC p s m c b L xs) (hd : decode code pc = .ok (.arraylength, 1)) (h : LWP p l e s m below meth c b Z (pc + 1) ls (.int (Int32.ofNat L) :: st) sh M n1 n2) : LWP p l e s m below meth c b Z pc ls (.retAddr 9 :: st) sh M n1 n2 :=
  fun ad dC dI dA H locs la h1 h9 hE hK h2 h3 h4 h5 => by
    show W _ _ _ _ _ _ _ _ _ _ _ _ _ _ _ (F0 m pc la (.ref (ad.2 9) :: st.map (cv ad)))
    rw [h9]
    exact va_slen C.hx C.hb C.hX C.hbl (Nat.not_le.mpr C.hbl) h4 hd (h ad dC dI dA H locs la h1 h9 hE hK h2 h3 h4 h5)
theorem l_dup {v : Value} (C : LwC p s m c b L xs) (hd : decode code pc = .ok (.dup, 1)) (hc : v.category = 1) (h : LWP p l e s m below meth c b Z (pc + 1) ls (v :: v :: st) sh M n1 n2) : LWP p l e s m below meth c b Z pc ls (v :: st) sh M n1 n2 :=
  fun ad dC dI dA H locs la h1 h9 hE hK h2 h3 h4 h5 => lv_dup C.hx C.hb hd ((cv_cat ad v).trans hc) (h ad dC dI dA H locs la h1 h9 hE hK h2 h3 h4 h5)
def m_law : MT := (x, code, 4, ret, room_1.frames, room_1.locals, room_1.cells, room_1.slots)
theorem room_law : roomW m_law = room_1 := rfl
theorem pre_law {As : List Value} {ad : AD} {dC : Nat → ClassId} {dI : Nat → Nat → Nat} {dA : Nat → ClassId} {H : Heap} {locs : List Loc} (h1 : ad.1.length = sh.length) (hE : Ext s.heap.size ad.2 s) (hK : va_K (dC, dI) clW (tysW dA) s) (h2 : va_P (dC, dI) clW (wsW ad dA sh M) H) (h3 : va_D (Aw s.heap.size) (wsW ad dA sh M)) (h4 : va_S (Aw s.heap.size) s.heap H locs) : ∀ U : State, U.heap = H → s.WarmedH U.vm → PcW As sh M ad dC dI dA s.heap.size (As.map (cv ad)).toArray U := by
  intro U hU hW
  subst hU
  exact ⟨rfl, h4.1, h1, h2, h3, va_K.moved hW.alike hK, hE.call hW h4.2.1⟩
theorem l_callV {k' : MT} {Qc : Po} {idx n ci a : Nat} {As : List Value} {st0 : List Value} (C : LwC p s m c b L xs) (hml : c.maxLocals = 4) (hd : decode code pc = .ok (.invokevirtual idx, 3)) (hC : CV R_law idx k' n ci) (hR : Rm m_law k') (hr : k'.2.2.2.2.2.2.1 = 0 ∧ k'.2.2.2.2.2.2.2 = 0) (hk : kd sh a = some (ci + 7, 0)) (hn : As.length = n) (hst : stOk st) (hM : Sp k' (.ref a :: As) sh M Qc) (hs : st0 = As.reverse ++ .ref a :: st) (hw : n1 ≤ room_1.cells ∧ n2 ≤ room_1.slots)
    (h : ∀ r sh' M', Qc r sh' M' → sh'.length = sh.length ∧ LWP p l e s m below meth c b Z (pc + 3) ls (r.toList ++ st) sh' M' n1 n2) : LWP p l e s m below meth c b Z pc ls st0 sh M n1 n2 := by
  subst hs
  obtain ⟨rs, hk⟩ := kd_at hk
  intro ad dC dI dA H locs la h1 h9 hE hK h2 h3 h4 h5
  obtain ⟨hC, hl, hi, hse, T, N, hcl⟩ := hC
  have ht := C.2.2.2.1
  have hw2 := wsW_at (ad := ad) (dA := dA) (M := M) hk
  rw [cellW_obj] at hw2
  have hrun := va_runV (As := As.map (cv ad)) (rest := st.map (cv ad)) (b := adr ad a) (g := F0 m pc la ((As.reverse ++ .ref a :: st).map (cv ad))) ⟨C.hx, C.hb, hml, C.2.2.1, ht⟩ (hM l ad dC dI dA s.heap.size) ⟨callB_ok (k := m_law) hC hR ht hl, ht _ hi, ht _ hse⟩ ⟨PcW_blind _ _ _ _ _ _ _ _, va_recv hK h2 hcl hw2, pre_law (As := .ref a :: As) h1 hE hK h2 h3 h4⟩ rfl (by rw [List.length_map]; exact hn) h5.1 (by simp [cv]) (lv_room (stOk_cv hst)) hd ⟨by rw [hr.1]; exact hw.1, by rw [hr.2]; exact hw.2⟩ (below := below) (e := e) (meth := meth) (p := p) (locs := locs) (cells := n1) (slots := n2)
  refine call_on (free := Aw s.heap.size) hrun h4 ?_
  intro r sh' M' ad' H1 locs1 g1 g2 g3 g4 g5 g6
  rw [hr.1, hr.2]
  obtain ⟨hlen, hw3⟩ := h r sh' M' g1
  have e1 : ad' = ad := Prod.ext (g2.1.eq_of_length (by omega)).symm g2.2
  subst e1
  have w := hw3 ad' dC dI dA H1 locs1 la g3 h9 hE hK g4 g5 g6 h5
  have e2 : (r.map (cv ad')).toList ++ st.map (cv ad') = (r.toList ++ st).map (cv ad') := by cases r <;> simp
  rw [e2]
  exact w
/-- more cells: values that name cells that were there stay -/
theorem LWP.ext {st' : List Value} {sh' : List SC} {M' : Mem} {ad ad' : AD} {dC : Nat → ClassId} {dI : Nat → Nat → Nat} {dA : Nat → ClassId} {H1 : Heap} {locs1 : List Loc} {la : Array Slot} (h : LWP p l e s m below meth c b Z pc ls (st' ++ st) sh' M' n1 n2) (h1 : ad.1.length = sh.length) (h9 : ad.2 9 = b) (hE : Ext s.heap.size ad.2 s) (hK : va_K (dC, dI) clW (tysW dA) s) (h5 : lv_has la 4 (lvW ad ls)) (hls : ∀ o ∈ ls, ∀ v, o = some v → vOk sh.length v = true) (hst : ∀ v ∈ st, vOk sh.length v = true) (g2 : Pre ad ad') (g3 : ad'.1.length = sh'.length) (g4 : va_P (dC, dI) clW (wsW ad' dA sh' M') H1) (g5 : va_D (Aw s.heap.size) (wsW ad' dA sh' M')) (g6 : va_S (Aw s.heap.size) s.heap H1 locs1) : W p l e room_1 s m #[Value.ref b] below meth c H1 locs1 n1 n2 Z (F0 m pc la (st'.map (cv ad') ++ st.map (cv ad))) := by
  have w := h ad' dC dI dA H1 locs1 la g3 (by rw [g2.2]; exact h9) (by rw [g2.2]; exact hE) hK g4 g5 g6 (lv_mono h5 (fun q hq => by
    obtain ⟨v, h6, h7⟩ := lvW_mem hq
    have h8 := hls (some v) (List.mem_of_getElem? h6) v rfl
    rw [cv_ext g2 (by rw [h1]; exact h8)] at h7
    have h9 := lvW_of (ad := ad) h6
    rw [← h7] at h9
    exact h9))
  have e3 : st.map (cv ad) = st.map (cv ad') := List.map_congr_left (fun v hv => (cv_ext g2 (by rw [h1]; exact hst v hv)).symm)
  rw [e3, ← List.map_append]
  exact w
theorem fsW_new {ad ad' : AD} {M : Mem} {N a c : Nat} (hz : ∀ j, M.1 a j = 0 ∧ M.2 a j = 0) : fsW ad M (List.replicate N none) a c = fsW ad' M (List.replicate N none) a c := by
  apply List.ext_getElem?
  intro i
  unfold fsW
  rw [List.getElem?_mapIdx, List.getElem?_mapIdx]
  cases (fty c)[i]? with
  | none => rfl
  | some u =>
    show some (fv ad M (List.replicate N none) a i u) = some (fv ad' M (List.replicate N none) a i u)
    rw [fv_new hz, fv_new hz]
theorem l_newobj {idx ci N : Nat} (C : LwC p s m c b L xs) (hd : decode code pc = .ok (.new idx, 3)) (hC : NW R_law idx ci N) (hw : WfS sh) (hls : ∀ o ∈ ls, ∀ v, o = some v → vOk sh.length v = true) (hst : ∀ v ∈ st, vOk sh.length v = true) (hz : ∀ j, M.1 sh.length j = 0 ∧ M.2 sh.length j = 0) (hr : n1 + 1 ≤ room_1.cells ∧ n2 + N ≤ room_1.slots)
    (h : LWP p l e s m below meth c b Z (pc + 3) ls (.ref sh.length :: st) (sh ++ [(ci + 7, 0, List.replicate N none)]) M (n1 + 1) (n2 + N)) : LWP p l e s m below meth c b Z pc ls st sh M n1 n2 := by
  intro ad dC dI dA H locs la h1 h9 hE hK h2 h3 h4 h5
  obtain ⟨R, T, ty, q1, q2, q3, q4, q5, q6, q7, q8⟩ := hC
  have ht := C.2.2.2.1
  refine va_new C.hx C.hb ht q2 ty q3 C.2.2.1 (ht _ q4) (ht _ q5) (ht _ q6) hK h2 h3 h4 (fun q hq => hq) q1 (fs := fsW ad M (List.replicate N none) sh.length ci) (fun j hj => ?_) hr.1 hr.2 hd (fun q H1 g2 g3 g4 => ?_)
  · have hl : j < (fty ci).length := by rw [q7]; exact hj
    have e1 : (fty ci)[j]? = some ((fty ci)[j]'hl) := List.getElem?_eq_getElem hl
    rw [q8 j hj]
    unfold vp_V
    simp only [List.getD_eq_getElem?_getD]
    rw [fsW_at e1, e1]
    exact (fv_new hz).symm
  · have e : ∀ ad' : AD, cellW ad' dA M sh.length (ci + 7, 0, List.replicate N none) = .inr (ci, fsW ad M (List.replicate N none) sh.length ci) := fun ad' => by
      rw [cellW_obj]
      rw [fsW_new (ad := ad') (ad' := ad) hz]
    rw [← e (ad.1 ++ [q], ad.2), ← wsW_app h1 hw] at g2 g3
    have w := LWP.ext (st' := [.ref sh.length]) (ad' := (ad.1 ++ [q], ad.2)) h h1 h9 hE hK h5 hls hst ⟨List.prefix_append _ _, rfl⟩ (by rw [List.length_append, List.length_append, h1]; rfl) g2 g3 g4
    have e4 : [Value.ref sh.length].map (cv (ad.1 ++ [q], ad.2)) ++ st.map (cv ad) = .ref q :: st.map (cv ad) := by
      show Value.ref (adr (ad.1 ++ [q], ad.2) sh.length) :: st.map (cv ad) = _
      rw [adr_new h1]
    rw [e4] at w
    exact w
theorem l_callI {k' : MT} {Qc : Po} {idx n a m1 m2 : Nat} {As : List Value} {st0 : List Value} (C : LwC p s m c b L xs) (hml : c.maxLocals = 4) (hd : decode code pc = .ok (.invokespecial idx, 3)) (hC : CI R_law idx k' n) (hR : Rm m_law k') (hr : k'.2.2.2.2.2.2.1 = m1 ∧ k'.2.2.2.2.2.2.2 = m2) (hn : As.length = n) (hst0 : stOk st) (hM : Sp k' (.ref a :: As) sh M Qc) (hls : ∀ o ∈ ls, ∀ v, o = some v → vOk sh.length v = true) (hst : ∀ v ∈ st, vOk sh.length v = true) (hs : st0 = As.reverse ++ .ref a :: st) (hw : n1 + m1 ≤ room_1.cells ∧ n2 + m2 ≤ room_1.slots)
    (h : ∀ r sh' M', Qc r sh' M' → LWP p l e s m below meth c b Z (pc + 3) ls (r.toList ++ st) sh' M' (n1 + m1) (n2 + m2)) : LWP p l e s m below meth c b Z pc ls st0 sh M n1 n2 := by
  subst hs
  obtain ⟨rfl, rfl⟩ := hr
  intro ad dC dI dA H locs la h1 h9 hE hK h2 h3 h4 h5
  obtain ⟨hC, hl, hnm, hi, hret⟩ := hC
  have ht := C.2.2.2.1
  have hM' := hM l ad dC dI dA s.heap.size
  have hcb := callB_ok (k := m_law) (s := s) (args := #[Value.ref b]) (idx := idx) hC hR ht hl
  rw [hret] at hM' hcb
  have hrun := va_runI (As := As.map (cv ad)) (rest := st.map (cv ad)) (b := adr ad a) (g := F0 m pc la ((As.reverse ++ .ref a :: st).map (cv ad))) ⟨C.hx, C.hb, hml, C.2.2.1, ht⟩ hM' ⟨hcb, hnm, ht _ hi⟩ ⟨PcW_blind _ _ _ _ _ _ _ _, pre_law (As := .ref a :: As) h1 hE hK h2 h3 h4⟩ rfl (by rw [List.length_map]; exact hn) h5.1 (by simp [cv]) (lv_room (stOk_cv hst0)) hd hw (below := below) (e := e) (meth := meth) (p := p) (locs := locs) (cells := n1) (slots := n2)
  refine call_on (free := Aw s.heap.size) hrun h4 ?_
  intro r sh' M' ad' H1 locs1 g1 g2 g3 g4 g5 g6
  have w := LWP.ext (st' := r.toList) (ad' := ad') (h r sh' M' g1) h1 h9 hE hK h5 hls hst g2 g3 g4 g5 g6
  have e2 : (r.map (cv ad')).toList = r.toList.map (cv ad') := by cases r <;> rfl
  rw [e2]
  exact w
end LAW
