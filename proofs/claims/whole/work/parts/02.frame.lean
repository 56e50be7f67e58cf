/-! ===== a plain calculus over the kit's walks: abstract addresses, a shape of cells, a memory of ints and longs ===== -/
/-- a cell's shape: its kind (0 int[], 1 long[], 2 boolean[], 3 .. 6 arrays of references, c + 7 an object of class c), an array's length, the references that it holds -/
abbrev SC : Type := Nat × Nat × List (Option Nat)
abbrev Mem : Type := (Nat → Nat → Int32) × (Nat → Nat → Int64)
/-- a method: name, bytes, locals, what it returns; its frames, its locals' room, its new cells and slots -/
abbrev MT : Type := MethodName × ByteArray × Nat × Option FieldType × Nat × Nat × Nat × Nat
abbrev Po : Type := Option Value → List SC → Mem → Prop
def setI (M : Mem) (a j : Nat) (v : Int32) : Mem := (fun b i => if b = a ∧ i = j then v else M.1 b i, M.2)
def setJ (M : Mem) (a j : Nat) (v : Int64) : Mem := (M.1, fun b i => if b = a ∧ i = j then v else M.2 b i)
/-- where the cells are (.1), and the launch's own cells that the class reads (.2) -/
abbrev AD : Type := List Nat × (Nat → Nat)
def adr (ad : AD) (a : Nat) : Nat := ad.1.getD a 0
def Pre (a b : AD) : Prop := a.1 <+: b.1 ∧ b.2 = a.2
def cv (ad : AD) (v : Value) : Value := match v with
  | .ref a => .ref (adr ad a)
  | .int x => .int x
  | .long x => .long x
  | .float x => .float x
  | .double x => .double x
  | .null => .null
  | .retAddr x => .ref (ad.2 x)
theorem cv_cat (ad : AD) (v : Value) : (cv ad v).category = v.category := by cases v <;> rfl
theorem Pre.rf {a : AD} : Pre a a := ⟨List.prefix_refl _, rfl⟩
theorem Pre.tr {a b c : AD} (h : Pre a b) (g : Pre b c) : Pre a c := ⟨h.1.trans g.1, g.2.trans h.2⟩
abbrev clW : List vw_C := [(RX0, TX0, 12), (RX1, TX1, 4), (RX2, TX2, 10), (RX3, TX3, 20), (RX4, TX4, 10), (RX5, TX5, 18), (RX6, TX6, 3), (RX7, TX7, 6), (RX8, TX8, 5), (RX10, TX10, 12), (RX11, TX11, 48)]
/-- the kinds of a class's fields: 0 int, 1 long, 2 a reference, 3 boolean -/
def fty (c : Nat) : List Nat := match c with
  | 0 => [0, 0, 0, 0, 0, 0, 0, 0, 0, 0, 2, 2]
  | 1 => [0, 2, 2, 2]
  | 2 => [2, 2, 2, 2, 2, 2, 3, 0, 0, 0]
  | 3 => [0, 2, 2, 0, 2, 2, 0, 2, 2, 0, 2, 2, 2, 0, 2, 0, 2, 2, 2, 2]
  | 4 => [2, 2, 2, 2, 2, 0, 0, 0, 1, 0]
  | 5 => [0, 3, 0, 0, 0, 0, 0, 0, 3, 2, 0, 0, 0, 0, 0, 0, 0, 0]
  | 6 => [2, 0, 0]
  | 7 => [0, 0, 0, 0, 2, 2]
  | 8 => [2, 2, 2, 0, 0]
  | 9 => [2, 2, 2, 2, 2, 2, 2, 2, 2, 0, 0, 0]
  | 10 => [2, 0, 0, 0, 0, 0, 0, 1, 0, 2, 2, 0, 2, 2, 2, 0, 2, 2, 2, 2, 0, 2, 2, 2, 2, 2, 2, 2, 2, 2, 0, 0, 0, 0, 0, 0, 0, 3, 2, 2, 2, 0, 0, 2, 2, 2, 0, 2]
  | _ => []
def fv (ad : AD) (M : Mem) (rs : List (Option Nat)) (a k t : Nat) : Value := match t with
  | 1 => .long (M.2 a k)
  | 2 => va_rf ((rs.getD k none).map (adr ad))
  | _ => .int (M.1 a k)
def fsW (ad : AD) (M : Mem) (rs : List (Option Nat)) (a c : Nat) : List Value := (fty c).mapIdx (fun k t => fv ad M rs a k t)
def cellW (ad : AD) (dA : Nat → ClassId) (M : Mem) (a : Nat) (c : SC) : va_E := match c.1 with
  | 0 => .inl (dA 0, c.2.1, .inl (M.1 a))
  | 1 => .inl (dA 1, c.2.1, .inr (.inl (M.2 a)))
  | 2 => .inl (dA 2, c.2.1, .inl (M.1 a))
  | n + 3 => if n < 4 then .inl (dA (n + 3), c.2.1, .inr (.inr (.inr (.inr (fun k => (c.2.2.getD k none).map (adr ad)))))) else .inr (n - 4, fsW ad M c.2.2 a (n - 4))
def wsW (ad : AD) (dA : Nat → ClassId) (sh : List SC) (M : Mem) : va_W := sh.mapIdx (fun a c => (adr ad a, cellW ad dA M a c))
def tyA (t : Nat) : FieldType := match t with
  | 0 => .int
  | 1 => .long
  | 2 => .boolean
  | 3 => .object "ToyPitch$Program"
  | 4 => .object "ToyPitch$Team"
  | 5 => .object "ToyPitch$Match"
  | _ => .object "ToyPitch$Robot"
def tysW (dA : Nat → ClassId) : List (ClassId × FieldType) := [(dA 0, tyA 0), (dA 1, tyA 1), (dA 2, tyA 2), (dA 3, tyA 3), (dA 4, tyA 4), (dA 5, tyA 5), (dA 6, tyA 6)]
theorem tysW_at {dA : Nat → ClassId} {t : Nat} (h : t < 7) : (tysW dA)[t]? = some (dA t, tyA t) := by
  rcases (show t = 0 ∨ t = 1 ∨ t = 2 ∨ t = 3 ∨ t = 4 ∨ t = 5 ∨ t = 6 by omega) with rfl | rfl | rfl | rfl | rfl | rfl | rfl <;> rfl
def Aw (sz0 : Nat) : Nat → Prop := fun q => sz0 ≤ q
def lw_good : List Cond := lw_tbl.filter goodWord
theorem good_mem {w : Cond} (h : w ∈ lw_tbl) (hg : goodWord w = true) : w ∈ lw_good := List.mem_filter.mpr ⟨h, hg⟩
theorem lw_goodIn {y : MethodName} {b : ByteArray} {n : Nat} {r : Option FieldType} (hc : Cond.code y b n r ∈ lw_good) : GoodIn lw_good (Cond.code y b n r :: lw_good) := by
  intro w hw
  have h1 : w ∈ lw_good := by
    rcases List.mem_cons.mp hw with h | h
    · rw [h]; exact hc
    · exact h
  exact ⟨h1, good_of_word (List.mem_filter.mp h1).2⟩
def isNest : Cond → Bool
  | .methodLinkNest _ _ _ _ => true
  | _ => false
/-- what a run needs of the launch's own cells: Team's two rows, the three texts, two statics of the library; and the words that 'lw_good' can't hold -/
def txLen : List Nat := [62, 48, 9]
def txByt : List (List Int32) := [[115, 116, 97, 116, 101, 32, 119, 104, 101, 110, 32, 97, 110, 100, 32, 103, 111, 32, 115, 101, 116, 32, 109, 111, 118, 101, 32, 116, 111, 32, 107, 105, 99, 107, 32, 115, 116, 97, 121, 32, 109, 97, 116, 101, 120, 32, 109, 97, 116, 101, 121, 32, 102, 111, 101, 120, 32, 102, 111, 101, 121, 32], [97, 32, 98, 32, 99, 32, 100, 32, 98, 97, 108, 108, 120, 32, 98, 97, 108, 108, 121, 32, 109, 121, 120, 32, 109, 121, 121, 32, 104, 101, 108, 100, 32, 116, 105, 99, 107, 32, 108, 101, 97, 100, 32, 110, 101, 97, 114, 32], [123, 125, 60, 61, 62, 43, 45, 42, 59]]
def Ext (sz0 : Nat) (X : Nat → Nat) (U : State) : Prop :=
  (∀ w ∈ lw_tbl, isNest w = true → va_Nw w U) ∧ (va_AO "ToyPitch$Program" U ∧ va_AO "ToyPitch$Team" U ∧ va_AO "ToyPitch$Match" U ∧ va_AO "ToyPitch$Robot" U) ∧
  (va_Z "ToyPitch$Team" "FIRST_X" "[I" (.ref (X 0)) (Aw sz0) U U.heap ∧ va_T .int (X 0) 5 (fun j => .int (([1, 3, 3, 5, 5] : List Int32).getD j 0)) (Aw sz0) U U.heap ∧
   va_Z "ToyPitch$Team" "FIRST_Y" "[I" (.ref (X 1)) (Aw sz0) U U.heap ∧ va_T .int (X 1) 5 (fun j => .int (([4, 2, 6, 3, 5] : List Int32).getD j 0)) (Aw sz0) U U.heap) ∧
  (va_Z "java/lang/String" "COMPACT_STRINGS" "Z" (.int 1) (Aw sz0) U U.heap ∧ (va_Z "jdk/internal/util/Preconditions" "SIOOBE_FORMATTER" "Ljava/util/function/BiFunction;" .null (Aw sz0) U U.heap ∨ va_Z "jdk/internal/util/Preconditions" "SIOOBE_FORMATTER" "Ljava/util/function/BiFunction;" (.ref (X 8)) (Aw sz0) U U.heap) ∧
   vk_S 3 txLen txByt (fun i => X (i + 2)) (fun i => X (i + 5)) (Aw sz0) U U.heap ∧
   vk_R "ToyPitch$Reader" 47 "state when and go set move to kick stay matex matey foex foey " (X 2) U ∧ vk_R "ToyPitch$Reader" 53 "a b c d ballx bally myx myy held tick lead near " (X 3) U ∧ vk_R "ToyPitch$Reader" 147 "{}<=>+-*;" (X 4) U)
theorem Ext.call {sz0 : Nat} {X : Nat → Nat} {s U : State} (h : Ext sz0 X s) (hW : s.WarmedH U.vm) (hq : ∀ a : Nat, a < s.heap.size → ¬ Aw sz0 a → U.heap[a]? = s.heap[a]?) : Ext sz0 X U := by
  obtain ⟨h1, ⟨a1, a2, a3, a4⟩, ⟨b1, b2, b3, b4⟩, c1, c2, c3, c4, c5, c6⟩ := h
  have hv := hW.alike
  refine ⟨fun w hw hn => ?_, ⟨a1.moved hv, a2.moved hv, a3.moved hv, a4.moved hv⟩, ⟨(b1.moved hv).kept hq, (b2.moved hv).kept hq, (b3.moved hv).kept hq, (b4.moved hv).kept hq⟩, (c1.moved hv).kept hq, ?_, (c3.moved hv).kept hq, c4.warm hW, c5.warm hW, c6.warm hW⟩
  · have h2 := h1 w hw hn
    cases w <;> first | exact va_Nw.warmM hW h2 | (exact absurd hn (by intro q; cases q))
  · rcases c2 with c2 | c2
    · exact Or.inl ((c2.moved hv).kept hq)
    · exact Or.inr ((c2.moved hv).kept hq)
def roomW (k : MT) : Room := { frames := k.2.2.2.2.1, cells := k.2.2.2.2.2.2.1, slots := k.2.2.2.2.2.2.2, locals := k.2.2.2.2.2.1 }
def PcW (as : List Value) (sh : List SC) (M : Mem) (ad : AD) (dC : Nat → ClassId) (dI : Nat → Nat → Nat) (dA : Nat → ClassId) (sz0 : Nat) : Array Value → State → Prop := fun v U =>
  v = (as.map (cv ad)).toArray ∧ sz0 ≤ U.heap.size ∧ ad.1.length = sh.length ∧ va_P (dC, dI) clW (wsW ad dA sh M) U.heap ∧ va_D (Aw sz0) (wsW ad dA sh M) ∧ va_K (dC, dI) clW (tysW dA) U ∧ Ext sz0 ad.2 U
def QcW (Q : Po) (ad : AD) (dC : Nat → ClassId) (dI : Nat → Nat → Nat) (dA : Nat → ClassId) (sz0 : Nat) : Array Value → State → Outcome → State → Prop := fun _ st oc t =>
  (∃ (r : Option Value) (sh' : List SC) (M' : Mem) (ad' : AD), oc = .returned (r.map (cv ad')) ∧ Q r sh' M' ∧ Pre ad ad' ∧ ad'.1.length = sh'.length ∧ va_P (dC, dI) clW (wsW ad' dA sh' M') t.heap ∧ va_D (Aw sz0) (wsW ad' dA sh' M')) ∧ va_F (Aw sz0) st t
/-- a method's CONTRACT: called with these values in this shape and memory it returns, and Q holds of its answer, shape and memory -/
def Sp (k : MT) (as : List Value) (sh : List SC) (M : Mem) (Q : Po) : Prop :=
  ∀ (l : Launch) (ad : AD) (dC : Nat → ClassId) (dI : Nat → Nat → Nat) (dA : Nat → ClassId) (sz0 : Nat), Met l k.1 (Cond.code k.1 k.2.1 k.2.2.1 k.2.2.2.1 :: lw_good) (roomW k) (PcW as sh M ad dC dI dA sz0) (QcW Q ad dC dI dA sz0) k.2.2.2.2.2.2.1 k.2.2.2.2.2.2.2 (Aw sz0)
def Cx (k : MT) (p : Program) (s : State) (m : MethodId) (args : Array Value) (meth : Method) (c : Code) (dC : Nat → ClassId) (dI : Nat → Nat → Nat) (dA : Nat → ClassId) (sz0 : Nat) (X : Nat → Nat) : Prop :=
  p.tables.exec = Jvm.exec ∧ c.code = k.2.1 ∧ c.maxLocals = k.2.2.1 ∧ meth.sig.returnType = k.2.2.2.1 ∧ meth.locks = false ∧ s.vm.findClass k.1.cls = some m.cls ∧ (∀ w ∈ lw_good, w.before args s = true) ∧ va_K (dC, dI) clW (tysW dA) s ∧ Ext sz0 X s ∧ sz0 ≤ s.heap.size ∧ meth.name = k.1.name
def lvW (ad : AD) (ls : List (Option Value)) : List (Nat × Value) := ls.zipIdx.filterMap (fun q => q.1.map fun v => (q.2, cv ad v))
/-- at pc, with these locals, stack, shape and memory, n1 cells and n2 slots made: the method comes to its end, and Q holds there -/
def WP (k : MT) (Q : Po) (pc : Nat) (ls : List (Option Value)) (st : List Value) (sh : List SC) (M : Mem) (n1 n2 : Nat) : Prop :=
  ∀ (p : Program) (l : Launch) (e : Env) (s : State) (m : MethodId) (args : Array Value) (below : List Frame) (meth : Method) (c : Code) (ad0 ad : AD) (dC : Nat → ClassId) (dI : Nat → Nat → Nat) (dA : Nat → ClassId) (sz0 : Nat) (H : Heap) (locs : List Loc) (la : Array Slot),
    Cx k p s m args meth c dC dI dA sz0 ad.2 → Pre ad0 ad → ad.1.length = sh.length → va_P (dC, dI) clW (wsW ad dA sh M) H → va_D (Aw sz0) (wsW ad dA sh M) → va_S (Aw sz0) s.heap H locs → lv_has la k.2.2.1 (lvW ad ls) →
    W p l e (roomW k) s m args below meth c H locs n1 n2 (MQ below (QcW Q ad0 dC dI dA sz0) args s k.2.2.2.2.2.2.1 k.2.2.2.2.2.2.2 (Aw sz0)) (F0 m pc la (st.map (cv ad)))
/-- the instruction at pc, and the place behind it -/
def Inx (k : MT) (pc : Nat) (i : Instr) (n pc' : Nat) : Prop := decode k.2.1 pc = .ok (i, n) ∧ pc' = pc + n
def BrI (k : MT) (pc : Nat) (c : ClassFile.Cond) (tgt pc' : Nat) : Prop := ∃ off : Int, decode k.2.1 pc = .ok (.if_icmp c off, 3) ∧ pc' = pc + 3 ∧ (pc : Int) + off = (tgt : Int)
def BrZ (k : MT) (pc : Nat) (c : ClassFile.Cond) (tgt pc' : Nat) : Prop := ∃ off : Int, decode k.2.1 pc = .ok (.ifCond c off, 3) ∧ pc' = pc + 3 ∧ (pc : Int) + off = (tgt : Int)
def Gto (k : MT) (pc tgt : Nat) : Prop := ∃ off : Int, decode k.2.1 pc = .ok (.goto off, 3) ∧ (pc : Int) + off = (tgt : Int)
/-! the locals -/
def lget : List (Option Value) → Nat → Option Value
  | [], _ => none
  | v :: _, 0 => v
  | _ :: l, n + 1 => lget l n
theorem lget_mem {ad : AD} {ls : List (Option Value)} {i : Nat} {v : Value} (h : lget ls i = some v) : (i, cv ad v) ∈ lvW ad ls := by
  have key : ∀ (ls : List (Option Value)) (i : Nat), lget ls i = (ls[i]?).join := by
    intro ls
    induction ls with
    | nil => intro i; rfl
    | cons a l ih =>
      intro i
      cases i with
      | zero => simp [lget]
      | succ n => simp [lget, ih n]
  rw [key] at h
  unfold lvW
  refine List.mem_filterMap.mpr ⟨(some v, i), ?_, rfl⟩
  rw [List.mem_zipIdx_iff_getElem?]
  cases hq : ls[i]? with
  | none => rw [hq] at h; cases h
  | some x => rw [hq] at h; simpa using h
theorem lvW_mem {ad : AD} {ls : List (Option Value)} {q : Nat × Value} (h : q ∈ lvW ad ls) : ∃ v, ls[q.1]? = some (some v) ∧ q.2 = cv ad v := by
  unfold lvW at h
  obtain ⟨⟨o, i⟩, h1, h2⟩ := List.mem_filterMap.mp h
  rw [List.mem_zipIdx_iff_getElem?] at h1
  cases o with
  | none => simp at h2
  | some v =>
    simp at h2
    subst h2
    exact ⟨v, h1, rfl⟩
theorem lvW_of {ad : AD} {ls : List (Option Value)} {i : Nat} {v : Value} (h : ls[i]? = some (some v)) : (i, cv ad v) ∈ lvW ad ls := by
  unfold lvW
  exact List.mem_filterMap.mpr ⟨(some v, i), by rw [List.mem_zipIdx_iff_getElem?]; exact h, rfl⟩
theorem lv_mono {la : Array Slot} {n : Nat} {l l' : List (Nat × Value)} (h : lv_has la n l) (hs : ∀ q ∈ l', q ∈ l) : lv_has la n l' := ⟨h.1, h.2.1, fun q hq => h.2.2 q (hs q hq)⟩
def isJ (o : Option Value) : Bool := match o with
  | some v => v.category == 2
  | none => false
/-- ls with slot i set to v, a value of category 1 -/
def lset (ls : List (Option Value)) (i : Nat) (v : Value) : List (Option Value) := ls.mapIdx fun j o => if j = i then some v else if j + 1 = i && isJ o then none else o
def lsetJ (ls : List (Option Value)) (i : Nat) (v : Value) : List (Option Value) := ls.mapIdx fun j o => if j = i then some v else if j = i + 1 then none else if j + 1 = i && isJ o then none else o
theorem lset_sub {ad : AD} {ls : List (Option Value)} {i : Nat} {v : Value} : ∀ q ∈ lvW ad (lset ls i v), q ∈ (i, cv ad v) :: (lvW ad ls).filter (fun q => !(q.1 == i) && !(q.1 + 1 == i && q.2.category == 2)) := by
  intro q hq
  obtain ⟨w, h1, h2⟩ := lvW_mem hq
  obtain ⟨j, x⟩ := q
  dsimp only at h1 h2
  subst h2
  simp only [lset, List.getElem?_mapIdx] at h1
  cases ho : ls[j]? with
  | none => rw [ho] at h1; simp at h1
  | some o =>
    rw [ho] at h1
    simp only [Option.map_some, Option.some.injEq] at h1
    by_cases e : j = i
    · subst e
      simp at h1
      subst h1
      exact List.mem_cons_self
    · rw [if_neg e] at h1
      refine List.mem_cons_of_mem _ (List.mem_filter.mpr ⟨?_, ?_⟩)
      · by_cases e2 : (j + 1 = i && isJ o) = true
        · rw [if_pos e2] at h1; cases h1
        · rw [if_neg e2] at h1
          subst h1
          exact lvW_of ho
      · by_cases e2 : (j + 1 = i && isJ o) = true
        · rw [if_pos e2] at h1; cases h1
        · rw [if_neg e2] at h1
          subst h1
          simp [isJ] at e2
          simp [e, cv_cat]
          exact Decidable.or_iff_not_imp_left.mpr (fun h => e2 (Decidable.not_not.mp h))
theorem lsetJ_sub {ad : AD} {ls : List (Option Value)} {i : Nat} {v : Value} : ∀ q ∈ lvW ad (lsetJ ls i v), q ∈ (i, cv ad v) :: (lvW ad ls).filter (fun q => !(q.1 == i) && (!(q.1 == i + 1) && !(q.1 + 1 == i && q.2.category == 2))) := by
  intro q hq
  obtain ⟨w, h1, h2⟩ := lvW_mem hq
  obtain ⟨j, x⟩ := q
  dsimp only at h1 h2
  subst h2
  simp only [lsetJ, List.getElem?_mapIdx] at h1
  cases ho : ls[j]? with
  | none => rw [ho] at h1; simp at h1
  | some o =>
    rw [ho] at h1
    simp only [Option.map_some, Option.some.injEq] at h1
    by_cases e : j = i
    · subst e
      simp at h1
      subst h1
      exact List.mem_cons_self
    · rw [if_neg e] at h1
      by_cases e3 : j = i + 1
      · rw [if_pos e3] at h1; cases h1
      rw [if_neg e3] at h1
      refine List.mem_cons_of_mem _ (List.mem_filter.mpr ⟨?_, ?_⟩)
      · by_cases e2 : (j + 1 = i && isJ o) = true
        · rw [if_pos e2] at h1; cases h1
        · rw [if_neg e2] at h1
          subst h1
          exact lvW_of ho
      · by_cases e2 : (j + 1 = i && isJ o) = true
        · rw [if_pos e2] at h1; cases h1
        · rw [if_neg e2] at h1
          subst h1
          simp [isJ] at e2
          simp [e, e3, cv_cat]
          exact Decidable.or_iff_not_imp_left.mpr (fun h => e2 (Decidable.not_not.mp h))
