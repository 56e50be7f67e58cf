/-! ===== the law's own walk ===== -/
section LAW
def R_law : String := "ToyPitchLaw"
/-- what stands still during the law -/
def LwC (p : Program) (s : State) (m : MethodId) (c : Code) (b L : Nat) (xs : Nat → Int32) : Prop := p.tables.exec = Jvm.exec ∧ c.code = code ∧ s.vm.findClass R_law = some m.cls ∧ (∀ w ∈ lw_good, w.before #[Value.ref b] s = true) ∧ va_X b L xs s s.heap ∧ b < s.heap.size
theorem LwC.hx {p : Program} {s : State} {m : MethodId} {c : Code} {b L : Nat} {xs : Nat → Int32} (h : LwC p s m c b L xs) : p.tables.exec = Jvm.exec := h.1
theorem LwC.hb {p : Program} {s : State} {m : MethodId} {c : Code} {b L : Nat} {xs : Nat → Int32} (h : LwC p s m c b L xs) : c.code = code := h.2.1
theorem LwC.hX {p : Program} {s : State} {m : MethodId} {c : Code} {b L : Nat} {xs : Nat → Int32} (h : LwC p s m c b L xs) : va_X b L xs s s.heap := h.2.2.2.2.1
theorem LwC.hbl {p : Program} {s : State} {m : MethodId} {c : Code} {b L : Nat} {xs : Nat → Int32} (h : LwC p s m c b L xs) : b < s.heap.size := h.2.2.2.2.2
variable {p : Program} {l : Launch} {e : Env} {s : State} {m : MethodId} {below : List Frame} {meth : Method} {c : Code} {b L : Nat} {xs : Nat → Int32} {Z : State → Prop}
def LWP (p : Program) (l : Launch) (e : Env) (s : State) (m : MethodId) (below : List Frame) (meth : Method) (c : Code) (b : Nat) (Z : State → Prop) (pc : Nat) (ls : List (Option Value)) (st : List Value) (sh : List SC) (M : Mem) (n1 n2 : Nat) : Prop :=
  ∀ (ad : AD) (dC : Nat → ClassId) (dI : Nat → Nat → Nat) (dA : Nat → ClassId) (H : Heap) (locs : List Loc) (la : Array Slot),
    ad.1.length = sh.length → ad.2 9 = b → Ext s.heap.size ad.2 s → va_K (dC, dI) clW (tysW dA) s → va_P (dC, dI) clW (wsW ad dA sh M) H → va_D (Aw s.heap.size) (wsW ad dA sh M) → va_S (Aw s.heap.size) s.heap H locs → lv_has la 4 (lvW ad ls) →
    W p l e room_1 s m #[Value.ref b] below meth c H locs n1 n2 Z (F0 m pc la (st.map (cv ad)))
variable {pc : Nat} {ls : List (Option Value)} {st : List Value} {sh : List SC} {M : Mem} {n1 n2 : Nat}
theorem l_iadd {x y : Int32} (C : LwC p s m c b L xs) (hd : decode code pc = .ok (.iadd, 1)) (h : LWP p l e s m below meth c b Z (pc + 1) ls (.int (x + y) :: st) sh M n1 n2) : LWP p l e s m below meth c b Z pc ls (.int y :: .int x :: st) sh M n1 n2 :=
  fun ad dC dI dA H locs la h1 h9 hE hK h2 h3 h4 h5 => lv_iadd C.hx C.hb hd (h ad dC dI dA H locs la h1 h9 hE hK h2 h3 h4 h5)
theorem l_sld {i : Int32} (C : LwC p s m c b L xs) (hi : vp_in i L) (hd : decode code pc = .ok (.iaload, 1)) (h : LWP p l e s m below meth c b Z (pc + 1) ls (.int (xs i.toNatClampNeg) :: st) sh M n1 n2) : LWP p l e s m below meth c b Z pc ls (.int i :: .retAddr 9 :: st) sh M n1 n2 :=
  fun ad dC dI dA H locs la h1 h9 hE hK h2 h3 h4 h5 => by
    show W _ _ _ _ _ _ _ _ _ _ _ _ _ _ _ (F0 m pc la (.int i :: .ref (ad.2 9) :: st.map (cv ad)))
    rw [h9]
    exact va_sld C.hx C.hb C.hX C.hbl (Nat.not_le.mpr C.hbl) h4 hi hd (h ad dC dI dA H locs la h1 h9 hE hK h2 h3 h4 h5)
theorem l_isub {x y : Int32} (C : LwC p s m c b L xs) (hd : decode code pc = .ok (.isub, 1)) (h : LWP p l e s m below meth c b Z (pc + 1) ls (.int (x - y) :: st) sh M n1 n2) : LWP p l e s m below meth c b Z pc ls (.int y :: .int x :: st) sh M n1 n2 :=
  fun ad dC dI dA H locs la h1 h9 hE hK h2 h3 h4 h5 => lv_isub C.hx C.hb hd (h ad dC dI dA H locs la h1 h9 hE hK h2 h3 h4 h5)
theorem l_iand {x y : Int32} (C : LwC p s m c b L xs) (hd : decode code pc = .ok (.iand, 1)) (h : LWP p l e s m below meth c b Z (pc + 1) ls (.int (x &&& y) :: st) sh M n1 n2) : LWP p l e s m below meth c b Z pc ls (.int y :: .int x :: st) sh M n1 n2 :=
  fun ad dC dI dA H locs la h1 h9 hE hK h2 h3 h4 h5 => lv_iand C.hx C.hb hd (h ad dC dI dA H locs la h1 h9 hE hK h2 h3 h4 h5)
theorem l_i2l {x : Int32} (C : LwC p s m c b L xs) (hd : decode code pc = .ok (.i2l, 1)) (h : LWP p l e s m below meth c b Z (pc + 1) ls (.long x.toInt64 :: st) sh M n1 n2) : LWP p l e s m below meth c b Z pc ls (.int x :: st) sh M n1 n2 :=
  fun ad dC dI dA H locs la h1 h9 hE hK h2 h3 h4 h5 => lv_i2l C.hx C.hb hd rfl (h ad dC dI dA H locs la h1 h9 hE hK h2 h3 h4 h5)
theorem l_land {x y : Int64} (C : LwC p s m c b L xs) (hd : decode code pc = .ok (.land, 1)) (h : LWP p l e s m below meth c b Z (pc + 1) ls (.long (x &&& y) :: st) sh M n1 n2) : LWP p l e s m below meth c b Z pc ls (.long y :: .long x :: st) sh M n1 n2 :=
  fun ad dC dI dA H locs la h1 h9 hE hK h2 h3 h4 h5 => lv_land C.hx C.hb hd (h ad dC dI dA H locs la h1 h9 hE hK h2 h3 h4 h5)
theorem l_lor {x y : Int64} (C : LwC p s m c b L xs) (hd : decode code pc = .ok (.lor, 1)) (h : LWP p l e s m below meth c b Z (pc + 1) ls (.long (x ||| y) :: st) sh M n1 n2) : LWP p l e s m below meth c b Z pc ls (.long y :: .long x :: st) sh M n1 n2 :=
  fun ad dC dI dA H locs la h1 h9 hE hK h2 h3 h4 h5 => lv_lor C.hx C.hb hd (h ad dC dI dA H locs la h1 h9 hE hK h2 h3 h4 h5)
theorem l_lshl {x : Int64} {y : Int32} (C : LwC p s m c b L xs) (hd : decode code pc = .ok (.lshl, 1)) (h : LWP p l e s m below meth c b Z (pc + 1) ls (.long (x <<< (y.toInt64 &&& 63)) :: st) sh M n1 n2) : LWP p l e s m below meth c b Z pc ls (.int y :: .long x :: st) sh M n1 n2 :=
  fun ad dC dI dA H locs la h1 h9 hE hK h2 h3 h4 h5 => lv_lshl C.hx C.hb hd rfl (h ad dC dI dA H locs la h1 h9 hE hK h2 h3 h4 h5)
theorem l_iconst {n : Int} {v : Int32} (C : LwC p s m c b L xs) (hd : decode code pc = .ok (.iconst n, 1)) (hv : Int32.ofInt n = v) (h : LWP p l e s m below meth c b Z (pc + 1) ls (.int v :: st) sh M n1 n2) : LWP p l e s m below meth c b Z pc ls (st) sh M n1 n2 :=
  fun ad dC dI dA H locs la h1 h9 hE hK h2 h3 h4 h5 => lv_iconst C.hx C.hb hd hv (h ad dC dI dA H locs la h1 h9 hE hK h2 h3 h4 h5)
theorem l_bipush {n : Int} {v : Int32} (C : LwC p s m c b L xs) (hd : decode code pc = .ok (.bipush n, 2)) (hv : (Int8.ofInt n).toInt32 = v) (h : LWP p l e s m below meth c b Z (pc + 2) ls (.int v :: st) sh M n1 n2) : LWP p l e s m below meth c b Z pc ls (st) sh M n1 n2 :=
  fun ad dC dI dA H locs la h1 h9 hE hK h2 h3 h4 h5 => lv_bipush C.hx C.hb hd hv (h ad dC dI dA H locs la h1 h9 hE hK h2 h3 h4 h5)
end LAW
