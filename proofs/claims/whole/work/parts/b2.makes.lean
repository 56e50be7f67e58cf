/-! ===== from the entry to the loop ===== -/
section LST
variable {p : Program} {l : Launch} {e : Env} {s : State} {m : MethodId} {below : List Frame} {meth : Method} {c : Code} {b L : Nat} {xs : Nat → Int32}
variable {pc : Nat} {st : List Value} {ls : List (Option Value)} {sh : List SC} {M : Mem} {n1 n2 : Nat}
theorem k2len : K2.length = 242 := by decide +kernel
theorem wfK2 : WfS K2 := wf_app (sh0 := []) (l := K2) (n := 0) wf0 rfl (wlB_ok (by decide +kernel))
def M0 : Mem := (fun _ _ => 0, fun _ _ => 0)
theorem zm0 : Zm 0 M0 := fun _ _ _ => ⟨rfl, rfl⟩
theorem lsOkA {n a : Nat} {ls : List (Option Value)} (hl : ls = [some (.retAddr 9), some (.ref a), none, none]) (h : a < n) : ∀ o ∈ ls, ∀ v, o = some v → vOk n v = true := by
  subst hl
  intro o ho v hv
  subst hv
  simp only [List.mem_cons, Option.some.injEq, List.not_mem_nil, or_false] at ho
  rcases ho with rfl | rfl | ho | ho
  · rfl
  · exact decide_eq_true h
  · cases ho
  · cases ho
theorem lsOkB {n : Nat} : ∀ o ∈ ([some (.retAddr 9), none, none, none] : List (Option Value)), ∀ v, o = some v → vOk n v = true := by
  intro o ho v hv
  subst hv
  simp only [List.mem_cons, Option.some.injEq, List.not_mem_nil, or_false] at ho
  rcases ho with rfl | ho | ho | ho
  · rfl
  · cases ho
  · cases ho
  · cases ho
theorem vsOk1 {n a : Nat} (h : a < n) : ∀ v ∈ [Value.ref a], vOk n v = true := by
  intro v hv
  rw [List.mem_singleton] at hv
  subst hv
  exact decide_eq_true h
theorem vsOk0 {n : Nat} : ∀ v ∈ ([] : List Value), vOk n v = true := fun v hv => absurd hv List.not_mem_nil
theorem l_newobjQ {Z : State → Prop} {idx ci N q : Nat} (C : LwC p s m c b L xs) (hq : sh.length = q) (hd : decode code pc = .ok (.new idx, 3)) (hC : NW R_law idx ci N) (hw : WfS sh) (hls : ∀ o ∈ ls, ∀ v, o = some v → vOk q v = true) (hst : ∀ v ∈ st, vOk q v = true) (hz : ∀ j, M.1 q j = 0 ∧ M.2 q j = 0) (hr : n1 + 1 ≤ room_1.cells ∧ n2 + N ≤ room_1.slots)
    (h : LWP p l e s m below meth c b Z (pc + 3) ls (.ref q :: st) (sh ++ [(ci + 7, 0, List.replicate N none)]) M (n1 + 1) (n2 + N)) : LWP p l e s m below meth c b Z pc ls st sh M n1 n2 := by
  subst hq
  exact l_newobj C hd hC hw hls hst hz hr h
theorem law_makes {Z : State → Prop} (C : LwC p s m c b L xs) (hml : c.maxLocals = 4) (h : LWP p l e s m below meth c b Z 18 (LL 0) [] SHF ME 269 44753) : LWP p l e s m below meth c b Z 0 [some (.retAddr 9), none, none, none] [] [] M0 0 0 := by
  refine l_newobjQ (q := 0) (ci := 9) (N := 12) C rfl d_law_0 nw_law_7 wf0 lsOkB vsOk0 (fun j => ⟨rfl, rfl⟩) ⟨Nat.le_of_ble_eq_true rfl, Nat.le_of_ble_eq_true rfl⟩ ?_
  refine l_dup C d_law_3 rfl ?_
  refine l_callI (a := 0) (As := []) (st := [.ref 0]) (m1 := 241) (m2 := 30047) C hml d_law_4 cl_law_9 ⟨Nat.le_of_ble_eq_true rfl, Nat.le_of_ble_eq_true rfl⟩ ⟨rfl, rfl⟩ rfl (Nat.le_of_ble_eq_true rfl) (S_X10_init zm0) lsOkB (vsOk1 (Nat.le_of_ble_eq_true rfl)) rfl ⟨Nat.le_of_ble_eq_true rfl, Nat.le_of_ble_eq_true rfl⟩ ?_
  intro r sh' M' q
  obtain ⟨rfl, rfl, rfl⟩ := q
  refine l_astore_n (x := 0) (ls' := [some (.retAddr 9), some (.ref 0), none, none]) C d_law_7 rfl ?_
  refine l_newobjQ (q := 242) (ci := 10) (N := 48) C k2len d_law_8 nw_law_10 wfK2 (lsOkA rfl (by decide)) vsOk0 (fun j => zm0.pu 4 242 (by decide) j) ⟨Nat.le_of_ble_eq_true rfl, Nat.le_of_ble_eq_true rfl⟩ ?_
  refine l_dup C d_law_11 rfl ?_
  have hlen : (K2 ++ [(10 + 7, 0, List.replicate 48 none)]).length = 243 := by rw [List.length_append, k2len]; rfl
  refine l_callI (a := 242) (As := []) (st := [.ref 242]) (m1 := 26) (m2 := 14646) C hml d_law_12 cl_law_12 ⟨Nat.le_of_ble_eq_true rfl, Nat.le_of_ble_eq_true rfl⟩ ⟨rfl, rfl⟩ rfl (Nat.le_of_ble_eq_true rfl) (S_X11_init k2len wfK2 (zm0.pu 4)) (by rw [hlen]; exact lsOkA rfl (by decide)) (by rw [hlen]; exact vsOk1 (by decide)) rfl ⟨Nat.le_of_ble_eq_true rfl, Nat.le_of_ble_eq_true rfl⟩ ?_
  intro r sh' M' q
  obtain ⟨rfl, rfl, rfl⟩ := q
  refine l_astore_n (x := 242) (ls' := [some (.retAddr 9), some (.ref 0), some (.ref 242), none]) C d_law_15 rfl ?_
  refine l_iconst (v := 0) C d_law_16 (by decide) ?_
  refine l_istore_n (x := 0) (ls' := LL 0) C d_law_17 rfl ?_
  exact h
end LST
