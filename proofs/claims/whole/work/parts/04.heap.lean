/-! ===== the heap: fields and arrays ===== -/
def kd (sh : List SC) (a : Nat) : Option (Nat × Nat) := match sh[a]? with
  | some c => some (c.1, c.2.1)
  | none => none
def rf (sh : List SC) (a j : Nat) : Option Nat := match sh[a]? with
  | some c => c.2.2.getD j none
  | none => none
def setR (sh : List SC) (a j : Nat) (r : Option Nat) : List SC := match sh[a]? with
  | some c => sh.set a (c.1, c.2.1, c.2.2.set j r)
  | none => sh
theorem kd_at {sh : List SC} {a t n : Nat} (h : kd sh a = some (t, n)) : ∃ rs, sh[a]? = some (t, n, rs) := by
  unfold kd at h
  split at h
  · rename_i c hc
    obtain ⟨x, y, z⟩ := c
    simp at h
    obtain ⟨rfl, rfl⟩ := h
    exact ⟨z, hc⟩
  · cases h
theorem wsW_at {ad : AD} {dA : Nat → ClassId} {sh : List SC} {M : Mem} {a : Nat} {c : SC} (h : sh[a]? = some c) : (wsW ad dA sh M)[a]? = some (adr ad a, cellW ad dA M a c) := by
  simp [wsW, List.getElem?_mapIdx, h]
theorem wsW_len {ad : AD} {dA : Nat → ClassId} {sh : List SC} {M : Mem} : (wsW ad dA sh M).length = sh.length := by simp [wsW]
theorem cellW_congr {ad : AD} {dA : Nat → ClassId} {M M' : Mem} {b : Nat} (c : SC) (h1 : M'.1 b = M.1 b) (h2 : M'.2 b = M.2 b) : cellW ad dA M' b c = cellW ad dA M b c := by
  have hf : ∀ rs ci, fsW ad M' rs b ci = fsW ad M rs b ci := by
    intro rs ci
    unfold fsW
    congr 1
    funext k t
    unfold fv
    rw [h1, h2]
  unfold cellW
  rw [h1, h2]
  simp only [hf]
theorem wsW_setM {ad : AD} {dA : Nat → ClassId} {sh : List SC} {M M' : Mem} {a : Nat} {c : SC} (h : sh[a]? = some c) (hne : ∀ b, b ≠ a → M'.1 b = M.1 b ∧ M'.2 b = M.2 b) : (wsW ad dA sh M).set a (adr ad a, cellW ad dA M' a c) = wsW ad dA sh M' := by
  apply List.ext_getElem?
  intro i
  by_cases hi : i = a
  · subst hi
    rw [wsW_at h, List.getElem?_set_self (by rw [wsW_len]; exact (List.getElem?_eq_some_iff.mp h).1)]
  · rw [List.getElem?_set_ne (fun q => hi q.symm)]
    simp only [wsW, List.getElem?_mapIdx]
    cases sh[i]? with
    | none => rfl
    | some x => simp only [Option.map_some]; rw [cellW_congr x (hne i hi).1 (hne i hi).2]
theorem wsW_setC {ad : AD} {dA : Nat → ClassId} {sh : List SC} {M : Mem} {a : Nat} {c c' : SC} (h : sh[a]? = some c) : (wsW ad dA sh M).set a (adr ad a, cellW ad dA M a c') = wsW ad dA (sh.set a c') M := by
  have hlt : a < sh.length := (List.getElem?_eq_some_iff.mp h).1
  apply List.ext_getElem?
  intro i
  by_cases hi : i = a
  · subst hi
    rw [wsW_at (List.getElem?_set_self hlt), List.getElem?_set_self (by rw [wsW_len]; exact hlt)]
  · rw [List.getElem?_set_ne (fun q => hi q.symm)]
    simp only [wsW, List.getElem?_mapIdx]
    rw [List.getElem?_set_ne (fun q => hi q.symm)]
theorem cellW_obj {ad : AD} {dA : Nat → ClassId} {M : Mem} {a c n : Nat} {rs : List (Option Nat)} : cellW ad dA M a (c + 7, n, rs) = .inr (c, fsW ad M rs a c) := by
  simp only [cellW]
  rw [if_neg (by omega)]
  simp
theorem cellW_q {ad : AD} {dA : Nat → ClassId} {M : Mem} {a t n : Nat} {rs : List (Option Nat)} (h : 3 ≤ t) (h7 : t < 7) : cellW ad dA M a (t, n, rs) = .inl (dA t, n, .inr (.inr (.inr (.inr (fun k => (rs.getD k none).map (adr ad)))))) := by
  obtain ⟨q, rfl⟩ : ∃ q, t = q + 3 := ⟨t - 3, by omega⟩
  simp only [cellW]
  rw [if_pos (by omega)]
theorem fsW_at {ad : AD} {M : Mem} {rs : List (Option Nat)} {a c j t : Nat} (h : (fty c)[j]? = some t) : (fsW ad M rs a c)[j]? = some (fv ad M rs a j t) := by
  simp [fsW, List.getElem?_mapIdx, h]
theorem fsW_len {ad : AD} {M : Mem} {rs : List (Option Nat)} {a c : Nat} : (fsW ad M rs a c).length = (fty c).length := by simp [fsW]
theorem fsW_setI {ad : AD} {M : Mem} {rs : List (Option Nat)} {a c j t : Nat} {v : Int32} (h : (fty c)[j]? = some t) (ht : t ≠ 1 ∧ t ≠ 2) : (fsW ad M rs a c).set j (.int v) = fsW ad (setI M a j v) rs a c := by
  have hlt : j < (fty c).length := (List.getElem?_eq_some_iff.mp h).1
  apply List.ext_getElem?
  intro i
  by_cases hi : i = j
  · subst hi
    rw [fsW_at h, List.getElem?_set_self (by rw [fsW_len]; exact hlt)]
    unfold fv
    split
    · exact absurd rfl ht.1
    · exact absurd rfl ht.2
    · simp [setI]
  · rw [List.getElem?_set_ne (fun q => hi q.symm)]
    simp only [fsW, List.getElem?_mapIdx]
    cases (fty c)[i]? with
    | none => rfl
    | some x =>
      simp only [Option.map_some]
      unfold fv
      simp [setI, hi]
theorem fsW_setJ {ad : AD} {M : Mem} {rs : List (Option Nat)} {a c j : Nat} {v : Int64} (h : (fty c)[j]? = some 1) : (fsW ad M rs a c).set j (.long v) = fsW ad (setJ M a j v) rs a c := by
  have hlt : j < (fty c).length := (List.getElem?_eq_some_iff.mp h).1
  apply List.ext_getElem?
  intro i
  by_cases hi : i = j
  · subst hi
    rw [fsW_at h, List.getElem?_set_self (by rw [fsW_len]; exact hlt)]
    simp [fv, setJ]
  · rw [List.getElem?_set_ne (fun q => hi q.symm)]
    simp only [fsW, List.getElem?_mapIdx]
    cases (fty c)[i]? with
    | none => rfl
    | some x =>
      simp only [Option.map_some]
      unfold fv
      simp [setJ, hi]
theorem fsW_setR {ad : AD} {M : Mem} {rs : List (Option Nat)} {a c j : Nat} {r : Option Nat} (h : (fty c)[j]? = some 2) (hj : j < rs.length) : (fsW ad M rs a c).set j (va_rf (r.map (adr ad))) = fsW ad M (rs.set j r) a c := by
  have hlt : j < (fty c).length := (List.getElem?_eq_some_iff.mp h).1
  apply List.ext_getElem?
  intro i
  by_cases hi : i = j
  · subst hi
    rw [fsW_at h, List.getElem?_set_self (by rw [fsW_len]; exact hlt)]
    simp [fv, hj]
  · rw [List.getElem?_set_ne (fun q => hi q.symm)]
    simp only [fsW, List.getElem?_mapIdx]
    cases (fty c)[i]? with
    | none => rfl
    | some x =>
      simp only [Option.map_some]
      unfold fv
      have e : (rs.set j r).getD i none = rs.getD i none := by simp [List.getD, List.getElem?_set_ne (fun q => hi q.symm)]
      rw [e]
def tyOk (t : Nat) (ty : FieldType) : Prop := match t with
  | 0 => ty = .int
  | 1 => ty = .long
  | 2 => (∀ v : Option Nat, narrow ty (va_rf v) = va_rf v ∧ fits ty (va_rf v) = true) ∧ defaultValue ty = .null
  | _ => ty = .boolean
/-- field 'idx' of class own is the field j of class c, of kind t -/
def FL (own : String) (idx c j t : Nat) (fin : Bool) : Prop := ∃ (R : String) (T : u_T) (N : Nat) (ty : Nat → FieldType), clW[c]? = some (R, T, N) ∧ (∀ w ∈ u_ws R T N, w ∈ lw_good) ∧ (∀ i, i < N → parseFieldDescriptor (T i).2.2.1 = some (ty i)) ∧ (∀ a, a < N → ∀ b, b < N → a ≠ b → (T a).2.1 ≠ (T b).2.1) ∧ j < N ∧ (fty c).length = N ∧ (fty c)[j]? = some t ∧ (T j).2.2.2 = fin ∧ tyOk t (ty j) ∧ (T j).1 = R ∧ Cond.fieldLink own idx (T j).1 (T j).2.1 (T j).2.2.1 ∈ lw_good
section HP
variable {k : MT} {Q : Po} {pc pc' : Nat} {ls : List (Option Value)} {st : List Value} {sh : List SC} {M : Mem} {n1 n2 : Nat} {idx c j t a : Nat} {fin : Bool}
theorem r_getV {v : Value} (hd : Inx k pc (.getfield idx) 3 pc') (hl : FL k.1.cls idx c j t fin) {rs : List (Option Nat)} (hk : sh[a]? = some (c + 7, 0, rs)) (hv : ∀ ad, fv ad M rs a j t = cv ad v) (h : WP k Q pc' ls (v :: st) sh M n1 n2) : WP k Q pc ls (.ref a :: st) sh M n1 n2 := by
  intro p l e s m args below meth c ad0 ad dC dI dA sz0 H locs la C h0 h1 h2 h3 h4 h5
  obtain ⟨hd, rfl⟩ := hd
  obtain ⟨R, T, N, ty, hc, hin, hty, hnm, hj, hlen, htj, hfin, hok, hR, hlink⟩ := hl
  have hw := wsW_at (ad := ad) (dA := dA) (M := M) hk
  rw [cellW_obj] at hw
  refine va_get C.1 C.2.1 C.2.2.2.2.2.2.1 hin C.2.2.2.2.2.1 C.2.2.2.2.2.2.2.1 h2 a hw hc j hj (C.2.2.2.2.2.2.1 _ hlink) (fun _ q => q) (v := cv ad v) ?_ hd (h p l e s m args below meth _ ad0 ad dC dI dA sz0 H locs la C h0 h1 h2 h3 h4 h5)
  rw [fsW_at htj, hv]
theorem r_getI (hd : Inx k pc (.getfield idx) 3 pc') (hl : FL k.1.cls idx c j t fin) (ht : t ≠ 1 ∧ t ≠ 2) (hk : kd sh a = some (c + 7, 0)) (h : WP k Q pc' ls (.int (M.1 a j) :: st) sh M n1 n2) : WP k Q pc ls (.ref a :: st) sh M n1 n2 := by
  obtain ⟨rs, hk⟩ := kd_at hk
  refine r_getV hd hl hk (fun ad => ?_) h
  unfold fv
  split
  · exact absurd rfl ht.1
  · exact absurd rfl ht.2
  · rfl
theorem r_getJ (hd : Inx k pc (.getfield idx) 3 pc') (hl : FL k.1.cls idx c j 1 fin) (hk : kd sh a = some (c + 7, 0)) (h : WP k Q pc' ls (.long (M.2 a j) :: st) sh M n1 n2) : WP k Q pc ls (.ref a :: st) sh M n1 n2 := by
  obtain ⟨rs, hk⟩ := kd_at hk
  exact r_getV hd hl hk (fun ad => rfl) h
theorem r_getR {b : Nat} (hd : Inx k pc (.getfield idx) 3 pc') (hl : FL k.1.cls idx c j 2 fin) (hk : kd sh a = some (c + 7, 0)) (hr : rf sh a j = some b) (h : WP k Q pc' ls (.ref b :: st) sh M n1 n2) : WP k Q pc ls (.ref a :: st) sh M n1 n2 := by
  obtain ⟨rs, hk⟩ := kd_at hk
  refine r_getV hd hl hk (fun ad => ?_) h
  simp only [rf, hk] at hr
  simp only [fv, hr]
  rfl
theorem r_putI0 {v : Int32} (hd : Inx k pc (.putfield idx) 3 pc') (hl : FL k.1.cls idx c j t false) (ht : t ≠ 1 ∧ t ≠ 2) (hv : ∀ ty, tyOk t ty → narrow ty (.int v) = .int v ∧ fits ty (.int v) = true) (hk : kd sh a = some (c + 7, 0)) (h : WP k Q pc' ls st sh (setI M a j v) n1 n2) : WP k Q pc ls (.int v :: .ref a :: st) sh M n1 n2 := by
  obtain ⟨rs, hk⟩ := kd_at hk
  intro p l e s m args below meth c ad0 ad dC dI dA sz0 H locs la C h0 h1 h2 h3 h4 h5
  obtain ⟨hd, rfl⟩ := hd
  obtain ⟨R, T, N, ty, hc, hin, hty, hnm, hj, hlen, htj, hfin, hok, hR, hlink⟩ := hl
  have hw := wsW_at (ad := ad) (dA := dA) (M := M) hk
  rw [cellW_obj] at hw
  refine va_put C.1 C.2.1 C.2.2.2.2.2.2.1 hin ty hty hnm C.2.2.2.2.2.1 C.2.2.2.2.2.2.2.1 h2 h3 h4 a hw hc j hj (C.2.2.2.2.2.2.1 _ hlink) (fun _ q => q) hfin (hty j hj) (v := .int v) (hv _ hok).1 (hv _ hok).2 (by rw [fsW_len, hlen]; exact hj) hd (fun H1 locs1 g2 g3 g4 => ?_)
  rw [fsW_setI htj ht, ← cellW_obj (dA := dA) (n := 0), wsW_setM hk (fun b hb => by constructor <;> first | rfl | (funext i; simp [setI, hb]))] at g2 g3
  exact h p l e s m args below meth _ ad0 ad dC dI dA sz0 H1 locs1 la C h0 h1 g2 g3 g4 h5
theorem r_putI {v : Int32} (hd : Inx k pc (.putfield idx) 3 pc') (hl : FL k.1.cls idx c j 0 false) (hk : kd sh a = some (c + 7, 0)) (h : WP k Q pc' ls st sh (setI M a j v) n1 n2) : WP k Q pc ls (.int v :: .ref a :: st) sh M n1 n2 :=
  r_putI0 hd hl ⟨by decide, by decide⟩ (fun ty hy => by cases hy; exact ⟨rfl, rfl⟩) hk h
theorem r_putZ {v : Int32} (hd : Inx k pc (.putfield idx) 3 pc') (hl : FL k.1.cls idx c j 3 false) (hv : v = 0 ∨ v = 1) (hk : kd sh a = some (c + 7, 0)) (h : WP k Q pc' ls st sh (setI M a j v) n1 n2) : WP k Q pc ls (.int v :: .ref a :: st) sh M n1 n2 :=
  r_putI0 hd hl ⟨by decide, by decide⟩ (fun ty hy => by cases hy; rcases hv with rfl | rfl <;> exact ⟨rfl, rfl⟩) hk h
theorem r_putJ {v : Int64} (hd : Inx k pc (.putfield idx) 3 pc') (hl : FL k.1.cls idx c j 1 false) (hk : kd sh a = some (c + 7, 0)) (h : WP k Q pc' ls st sh (setJ M a j v) n1 n2) : WP k Q pc ls (.long v :: .ref a :: st) sh M n1 n2 := by
  obtain ⟨rs, hk⟩ := kd_at hk
  intro p l e s m args below meth c ad0 ad dC dI dA sz0 H locs la C h0 h1 h2 h3 h4 h5
  obtain ⟨hd, rfl⟩ := hd
  obtain ⟨R, T, N, ty, hc, hin, hty, hnm, hj, hlen, htj, hfin, hok, hR, hlink⟩ := hl
  have hw := wsW_at (ad := ad) (dA := dA) (M := M) hk
  rw [cellW_obj] at hw
  have hy : ty j = .long := hok
  refine va_put C.1 C.2.1 C.2.2.2.2.2.2.1 hin ty hty hnm C.2.2.2.2.2.1 C.2.2.2.2.2.2.2.1 h2 h3 h4 a hw hc j hj (C.2.2.2.2.2.2.1 _ hlink) (fun _ q => q) hfin (hty j hj) (v := .long v) (by rw [hy]; rfl) (by rw [hy]; rfl) (by rw [fsW_len, hlen]; exact hj) hd (fun H1 locs1 g2 g3 g4 => ?_)
  rw [fsW_setJ htj, ← cellW_obj (dA := dA) (n := 0), wsW_setM hk (fun b hb => by constructor <;> first | rfl | (funext i; simp [setJ, hb]))] at g2 g3
  exact h p l e s m args below meth _ ad0 ad dC dI dA sz0 H1 locs1 la C h0 h1 g2 g3 g4 h5
theorem r_putR {b : Nat} (hd : Inx k pc (.putfield idx) 3 pc') (hl : FL k.1.cls idx c j 2 false) {rs : List (Option Nat)} (hk : sh[a]? = some (c + 7, 0, rs)) (hr : j < rs.length) (h : WP k Q pc' ls st (sh.set a (c + 7, 0, rs.set j (some b))) M n1 n2) : WP k Q pc ls (.ref b :: .ref a :: st) sh M n1 n2 := by
  intro p l e s m args below meth c ad0 ad dC dI dA sz0 H locs la C h0 h1 h2 h3 h4 h5
  obtain ⟨hd, rfl⟩ := hd
  obtain ⟨R, T, N, ty, hc, hin, hty, hnm, hj, hlen, htj, hfin, hok, hR, hlink⟩ := hl
  have hw := wsW_at (ad := ad) (dA := dA) (M := M) hk
  rw [cellW_obj] at hw
  refine va_put C.1 C.2.1 C.2.2.2.2.2.2.1 hin ty hty hnm C.2.2.2.2.2.1 C.2.2.2.2.2.2.2.1 h2 h3 h4 a hw hc j hj (C.2.2.2.2.2.2.1 _ hlink) (fun _ q => q) hfin (hty j hj) (v := .ref (adr ad b)) (hok.1 (some (adr ad b))).1 (hok.1 (some (adr ad b))).2 (by rw [fsW_len, hlen]; exact hj) hd (fun H1 locs1 g2 g3 g4 => ?_)
  have ee : (Value.ref (adr ad b)) = va_rf ((some b).map (adr ad)) := rfl
  rw [ee, fsW_setR htj hr, ← cellW_obj (dA := dA) (n := 0), wsW_setC hk] at g2 g3
  exact h p l e s m args below meth _ ad0 ad dC dI dA sz0 H1 locs1 la C h0 (by rw [List.length_set]; exact h1) g2 g3 g4 h5
theorem r_iaload {n : Nat} {i : Int32} (hd : Inx k pc .iaload 1 pc') (ha : kd sh a = some (0, n)) (hi : vp_in i n) (h : WP k Q pc' ls (.int (M.1 a i.toNatClampNeg) :: st) sh M n1 n2) : WP k Q pc ls (.int i :: .ref a :: st) sh M n1 n2 := by
  obtain ⟨rs, ha⟩ := kd_at ha
  intro p l e s m args below meth c ad0 ad dC dI dA sz0 H locs la C h0 h1 h2 h3 h4 h5
  obtain ⟨hd, rfl⟩ := hd
  exact va_iald C.1 C.2.1 C.2.2.2.2.2.2.2.1 h2 a 0 (wsW_at ha) (tysW_at (t := 0) (by decide)) hi hd (h p l e s m args below meth c ad0 ad dC dI dA sz0 H locs la C h0 h1 h2 h3 h4 h5)
theorem r_zaload {n : Nat} {i : Int32} (hd : Inx k pc .baload 1 pc') (ha : kd sh a = some (2, n)) (hi : vp_in i n) (h : WP k Q pc' ls (.int (M.1 a i.toNatClampNeg) :: st) sh M n1 n2) : WP k Q pc ls (.int i :: .ref a :: st) sh M n1 n2 := by
  obtain ⟨rs, ha⟩ := kd_at ha
  intro p l e s m args below meth c ad0 ad dC dI dA sz0 H locs la C h0 h1 h2 h3 h4 h5
  obtain ⟨hd, rfl⟩ := hd
  exact va_zald C.1 C.2.1 C.2.2.2.2.2.2.2.1 h2 a 2 (wsW_at ha) (tysW_at (t := 2) (by decide)) hi hd (h p l e s m args below meth c ad0 ad dC dI dA sz0 H locs la C h0 h1 h2 h3 h4 h5)
theorem r_laload {n : Nat} {i : Int32} (hd : Inx k pc .laload 1 pc') (ha : kd sh a = some (1, n)) (hi : vp_in i n) (h : WP k Q pc' ls (.long (M.2 a i.toNatClampNeg) :: st) sh M n1 n2) : WP k Q pc ls (.int i :: .ref a :: st) sh M n1 n2 := by
  obtain ⟨rs, ha⟩ := kd_at ha
  intro p l e s m args below meth c ad0 ad dC dI dA sz0 H locs la C h0 h1 h2 h3 h4 h5
  obtain ⟨hd, rfl⟩ := hd
  exact va_lald C.1 C.2.1 C.2.2.2.2.2.2.2.1 h2 a 1 (wsW_at ha) (tysW_at (t := 1) (by decide)) hi hd (h p l e s m args below meth c ad0 ad dC dI dA sz0 H locs la C h0 h1 h2 h3 h4 h5)
theorem r_aaload {n b : Nat} {i : Int32} (hd : Inx k pc .aaload 1 pc') (ha : kd sh a = some (t, n)) (ht : 3 ≤ t ∧ t < 7) (hi : vp_in i n) (hr : rf sh a i.toNatClampNeg = some b) (h : WP k Q pc' ls (.ref b :: st) sh M n1 n2) : WP k Q pc ls (.int i :: .ref a :: st) sh M n1 n2 := by
  obtain ⟨rs, ha⟩ := kd_at ha
  intro p l e s m args below meth c ad0 ad dC dI dA sz0 H locs la C h0 h1 h2 h3 h4 h5
  obtain ⟨hd, rfl⟩ := hd
  simp only [rf, ha] at hr
  have hw := wsW_at (ad := ad) (dA := dA) (M := M) ha
  rw [cellW_q ht.1 ht.2] at hw
  have hO : ∃ C, tyA t = .object C := by
    obtain ⟨q, rfl⟩ : ∃ q, t = q + 3 := ⟨t - 3, by omega⟩
    match q with
    | 0 => exact ⟨_, rfl⟩
    | 1 => exact ⟨_, rfl⟩
    | 2 => exact ⟨_, rfl⟩
    | q + 3 => exact ⟨_, rfl⟩
  obtain ⟨C0, hC0⟩ := hO
  refine va_aldq C.1 C.2.1 C.2.2.2.2.2.2.2.1 h2 a t hw (C := C0) (by rw [← hC0]; exact tysW_at ht.2) hi hd ?_
  rw [hr]
  exact h p l e s m args below meth c ad0 ad dC dI dA sz0 H locs la C h0 h1 h2 h3 h4 h5
theorem r_alen {n : Nat} {v : Int32} (hd : Inx k pc .arraylength 1 pc') (ha : kd sh a = some (t, n)) (ht : t < 7) (hv : Int32.ofNat n = v) (h : WP k Q pc' ls (.int v :: st) sh M n1 n2) : WP k Q pc ls (.ref a :: st) sh M n1 n2 := by
  obtain ⟨rs, ha⟩ := kd_at ha
  intro p l e s m args below meth c ad0 ad dC dI dA sz0 H locs la C h0 h1 h2 h3 h4 h5
  obtain ⟨hd, rfl⟩ := hd
  have hw := wsW_at (ad := ad) (dA := dA) (M := M) ha
  have hx : ∃ x : vp_A, cellW ad dA M a (t, n, rs) = .inl (dA t, x) ∧ x.1 = n := by
    match t, ht with
    | 0, _ => exact ⟨_, rfl, rfl⟩
    | 1, _ => exact ⟨_, rfl, rfl⟩
    | 2, _ => exact ⟨_, rfl, rfl⟩
    | q + 3, ht => exact ⟨_, cellW_q (by omega) ht, rfl⟩
  obtain ⟨x, hx, hn⟩ := hx
  rw [hx] at hw
  subst hn
  exact va_alen C.1 C.2.1 C.2.2.2.2.2.2.2.1 h2 a t hw (tysW_at ht) hv hd (h p l e s m args below meth c ad0 ad dC dI dA sz0 H locs la C h0 h1 h2 h3 h4 h5)
theorem setI_row (M : Mem) (a j : Nat) (v : Int32) : upd (M.1 a) j v = (setI M a j v).1 a := by
  funext i; simp [upd, setI]
theorem setJ_row (M : Mem) (a j : Nat) (v : Int64) : vp_updL (M.2 a) j v = (setJ M a j v).2 a := by
  funext i; simp [vp_updL, setJ]
theorem r_iastore {n : Nat} {i v : Int32} (hd : Inx k pc .iastore 1 pc') (ha : kd sh a = some (0, n)) (hi : vp_in i n) (h : WP k Q pc' ls st sh (setI M a i.toNatClampNeg v) n1 n2) : WP k Q pc ls (.int v :: .int i :: .ref a :: st) sh M n1 n2 := by
  obtain ⟨rs, ha⟩ := kd_at ha
  intro p l e s m args below meth c ad0 ad dC dI dA sz0 H locs la C h0 h1 h2 h3 h4 h5
  obtain ⟨hd, rfl⟩ := hd
  refine va_iast C.1 C.2.1 C.2.2.2.2.2.2.2.1 h2 h3 h4 a 0 (wsW_at ha) (tysW_at (t := 0) (by decide)) hi hd (fun H1 locs1 g2 g3 g4 => ?_)
  have ee : ∀ M' : Mem, (Sum.inl (dA 0, n, Sum.inl (M'.1 a)) : va_E) = cellW ad dA M' a (0, n, rs) := fun _ => rfl
  rw [setI_row, ee, wsW_setM ha (fun b hb => by constructor <;> first | rfl | (funext i; simp [setI, hb]))] at g2 g3
  exact h p l e s m args below meth c ad0 ad dC dI dA sz0 H1 locs1 la C h0 h1 g2 g3 g4 h5
theorem r_zastore {n : Nat} {i v : Int32} (hd : Inx k pc .bastore 1 pc') (ha : kd sh a = some (2, n)) (hi : vp_in i n) (hv : v = 0 ∨ v = 1) (h : WP k Q pc' ls st sh (setI M a i.toNatClampNeg v) n1 n2) : WP k Q pc ls (.int v :: .int i :: .ref a :: st) sh M n1 n2 := by
  obtain ⟨rs, ha⟩ := kd_at ha
  intro p l e s m args below meth c ad0 ad dC dI dA sz0 H locs la C h0 h1 h2 h3 h4 h5
  obtain ⟨hd, rfl⟩ := hd
  refine va_zast C.1 C.2.1 C.2.2.2.2.2.2.2.1 h2 h3 h4 a 2 (wsW_at ha) (tysW_at (t := 2) (by decide)) hi hd (fun H1 locs1 g2 g3 g4 => ?_)
  have ee : ∀ M' : Mem, (Sum.inl (dA 2, n, Sum.inl (M'.1 a)) : va_E) = cellW ad dA M' a (2, n, rs) := fun _ => rfl
  have ev : vp_nar .boolean v = v := by rcases hv with rfl | rfl <;> rfl
  rw [ev, setI_row, ee, wsW_setM ha (fun b hb => by constructor <;> first | rfl | (funext i; simp [setI, hb]))] at g2 g3
  exact h p l e s m args below meth c ad0 ad dC dI dA sz0 H1 locs1 la C h0 h1 g2 g3 g4 h5
theorem r_lastore {n : Nat} {i : Int32} {v : Int64} (hd : Inx k pc .lastore 1 pc') (ha : kd sh a = some (1, n)) (hi : vp_in i n) (h : WP k Q pc' ls st sh (setJ M a i.toNatClampNeg v) n1 n2) : WP k Q pc ls (.long v :: .int i :: .ref a :: st) sh M n1 n2 := by
  obtain ⟨rs, ha⟩ := kd_at ha
  intro p l e s m args below meth c ad0 ad dC dI dA sz0 H locs la C h0 h1 h2 h3 h4 h5
  obtain ⟨hd, rfl⟩ := hd
  refine va_last C.1 C.2.1 C.2.2.2.2.2.2.2.1 h2 h3 h4 a 1 (wsW_at ha) (tysW_at (t := 1) (by decide)) hi hd (fun H1 locs1 g2 g3 g4 => ?_)
  have ee : ∀ M' : Mem, (Sum.inl (dA 1, n, Sum.inr (Sum.inl (M'.2 a))) : va_E) = cellW ad dA M' a (1, n, rs) := fun _ => rfl
  rw [setJ_row, ee, wsW_setM ha (fun b hb => by constructor <;> first | rfl | (funext i; simp [setJ, hb]))] at g2 g3
  exact h p l e s m args below meth c ad0 ad dC dI dA sz0 H1 locs1 la C h0 h1 g2 g3 g4 h5
/-! ===== ends ===== -/
theorem QcW_end {k : MT} {Q : Po} {s t : State} {args : Array Value} {ad0 ad : AD} {dC : Nat → ClassId} {dI : Nat → Nat → Nat} {dA : Nat → ClassId} {sz0 : Nat} {H : Heap} {locs : List Loc} {r : Option Value} (hq : Q r sh M) (h0 : Pre ad0 ad) (h1 : ad.1.length = sh.length) (h2 : va_P (dC, dI) clW (wsW ad dA sh M) H) (h3 : va_D (Aw sz0) (wsW ad dA sh M)) (h4 : va_S (Aw sz0) s.heap H locs) (ht : t.heap = H) : QcW Q ad0 dC dI dA sz0 args s (.returned (r.map (cv ad))) t :=
  ⟨⟨r, sh, M, ad, rfl, hq, h0, h1, by rw [ht]; exact h2, h3⟩, h4.F ht⟩
theorem r_ireturn {v : Int32} (hd : Inx k pc .ireturn 1 pc') (hr : k.2.2.2.1 = some .int) (hn : n1 = k.2.2.2.2.2.2.1 ∧ n2 = k.2.2.2.2.2.2.2) (hq : Q (some (.int v)) sh M) : WP k Q pc ls [.int v] sh M n1 n2 := by
  intro p l e s m args below meth c ad0 ad dC dI dA sz0 H locs la C h0 h1 h2 h3 h4 h5
  obtain ⟨hd, rfl⟩ := hd
  obtain ⟨rfl, rfl⟩ := hn
  exact W.iret C.1 C.2.1 (C.2.2.2.1.trans hr) (fun t ht hW => QcW_end (k := k) (r := some (.int v)) hq h0 h1 h2 h3 h4 ht) h4.2.2 hd (hlocks := C.2.2.2.2.1)
theorem r_zreturn {v : Int32} (hd : Inx k pc .ireturn 1 pc') (hr : k.2.2.2.1 = some .boolean) (hn : n1 = k.2.2.2.2.2.2.1 ∧ n2 = k.2.2.2.2.2.2.2) (hv : v = 0 ∨ v = 1) (hq : Q (some (.int v)) sh M) : WP k Q pc ls [.int v] sh M n1 n2 := by
  intro p l e s m args below meth c ad0 ad dC dI dA sz0 H locs la C h0 h1 h2 h3 h4 h5
  obtain ⟨hd, rfl⟩ := hd
  obtain ⟨rfl, rfl⟩ := hn
  exact W.zret (ty := .boolean) C.1 C.2.1 (C.2.2.2.1.trans hr) (by rcases hv with rfl | rfl <;> rfl) (fun t ht hW => QcW_end (k := k) (r := some (.int v)) hq h0 h1 h2 h3 h4 ht) h4.2.2 hd (hlocks := C.2.2.2.2.1)
theorem r_lreturn {v : Int64} (hd : Inx k pc .lreturn 1 pc') (hr : k.2.2.2.1 = some .long) (hn : n1 = k.2.2.2.2.2.2.1 ∧ n2 = k.2.2.2.2.2.2.2) (hq : Q (some (.long v)) sh M) : WP k Q pc ls [.long v] sh M n1 n2 := by
  intro p l e s m args below meth c ad0 ad dC dI dA sz0 H locs la C h0 h1 h2 h3 h4 h5
  obtain ⟨hd, rfl⟩ := hd
  obtain ⟨rfl, rfl⟩ := hn
  exact W.lret C.1 C.2.1 (C.2.2.2.1.trans hr) (fun t ht hW => QcW_end (k := k) (r := some (.long v)) hq h0 h1 h2 h3 h4 ht) h4.2.2 hd (hlocks := C.2.2.2.2.1)
theorem r_return (hd : Inx k pc .return_ 1 pc') (hr : k.2.2.2.1 = none) (hn : n1 = k.2.2.2.2.2.2.1 ∧ n2 = k.2.2.2.2.2.2.2) (hq : Q none sh M) : WP k Q pc ls [] sh M n1 n2 := by
  intro p l e s m args below meth c ad0 ad dC dI dA sz0 H locs la C h0 h1 h2 h3 h4 h5
  obtain ⟨hd, rfl⟩ := hd
  obtain ⟨rfl, rfl⟩ := hn
  exact W.vret C.1 C.2.1 (C.2.2.2.1.trans hr) (fun t ht hW => QcW_end (k := k) (r := none) hq h0 h1 h2 h3 h4 ht) h4.2.2 hd (hlocks := C.2.2.2.2.1)
end HP
