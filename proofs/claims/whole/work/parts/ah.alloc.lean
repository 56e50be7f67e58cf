/-! ===== new cells ===== -/
section ALC
/-- every reference in the shape names a cell that is there -/
def WfS (sh : List SC) : Prop := ∀ c ∈ sh, ∀ b, some b ∈ c.2.2 → b < sh.length
theorem adr_ext {ad ad' : AD} (h : Pre ad ad') {b : Nat} (hb : b < ad.1.length) : adr ad' b = adr ad b := by
  obtain ⟨⟨t, ht⟩, -⟩ := h
  simp only [adr, ← ht, List.getD, List.getElem?_append_left hb]
theorem getD_mem {rs : List (Option Nat)} {k b : Nat} (h : rs.getD k none = some b) : some b ∈ rs := by
  rw [List.getD_eq_getElem?_getD] at h
  cases e : rs[k]? with
  | none => rw [e] at h; cases h
  | some x =>
    rw [e] at h
    have h : x = some b := h
    subst h
    exact List.mem_of_getElem? e
theorem ref_ext {ad ad' : AD} (h : Pre ad ad') {rs : List (Option Nat)} (hr : ∀ b, some b ∈ rs → b < ad.1.length) (k : Nat) : (rs.getD k none).map (adr ad') = (rs.getD k none).map (adr ad) := by
  cases e : rs.getD k none with
  | none => rfl
  | some b => exact congrArg some (adr_ext h (hr b (getD_mem e)))
theorem cellW_ext {ad ad' : AD} (h : Pre ad ad') {dA : Nat → ClassId} {M : Mem} {a : Nat} {c : SC} (hr : ∀ b, some b ∈ c.2.2 → b < ad.1.length) : cellW ad' dA M a c = cellW ad dA M a c := by
  obtain ⟨t, n, rs⟩ := c
  have hf : (fun k => (rs.getD k none).map (adr ad')) = (fun k => (rs.getD k none).map (adr ad)) := funext (ref_ext h hr)
  match t with
  | 0 => rfl
  | 1 => rfl
  | 2 => rfl
  | t + 3 =>
    show (if t < 4 then _ else _) = (if t < 4 then _ else _)
    by_cases q : t < 4
    · rw [if_pos q, if_pos q]
      show (Sum.inl (dA (t + 3), n, .inr (.inr (.inr (.inr (fun k => (rs.getD k none).map (adr ad')))))) : va_E) = .inl (dA (t + 3), n, .inr (.inr (.inr (.inr (fun k => (rs.getD k none).map (adr ad))))))
      rw [hf]
    · rw [if_neg q, if_neg q]
      have e : fsW ad' M rs a (t - 4) = fsW ad M rs a (t - 4) := by
        unfold fsW
        apply List.ext_getElem?
        intro i
        rw [List.getElem?_mapIdx, List.getElem?_mapIdx]
        cases (fty (t - 4))[i]? with
        | none => rfl
        | some u =>
          show some (fv ad' M rs a i u) = some (fv ad M rs a i u)
          congr 1
          unfold fv
          split
          · rfl
          · rw [ref_ext h hr]
          · rfl
      show (Sum.inr (t - 4, fsW ad' M rs a (t - 4)) : va_E) = .inr (t - 4, fsW ad M rs a (t - 4))
      rw [e]
theorem wsW_app {ad : AD} {dA : Nat → ClassId} {sh : List SC} {M : Mem} {q : Nat} {c : SC} (hl : ad.1.length = sh.length) (hw : WfS sh) : wsW (ad.1 ++ [q], ad.2) dA (sh ++ [c]) M = wsW ad dA sh M ++ [(q, cellW (ad.1 ++ [q], ad.2) dA M sh.length c)] := by
  have hp : Pre ad (ad.1 ++ [q], ad.2) := ⟨List.prefix_append _ _, rfl⟩
  unfold wsW
  rw [List.mapIdx_concat]
  congr 1
  · apply List.ext_getElem?
    intro i
    rw [List.getElem?_mapIdx, List.getElem?_mapIdx]
    cases e : sh[i]? with
    | none => rfl
    | some x =>
      have hi : i < sh.length := (List.getElem?_eq_some_iff.mp e).1
      show some (adr (ad.1 ++ [q], ad.2) i, cellW (ad.1 ++ [q], ad.2) dA M i x) = some (adr ad i, cellW ad dA M i x)
      rw [adr_ext hp (by omega), cellW_ext hp (fun b hb => by rw [hl]; exact hw x (List.mem_of_getElem? e) b hb)]
  · have e : adr (ad.1 ++ [q], ad.2) sh.length = q := by
      simp only [adr, List.getD, ← hl]
      rw [List.getElem?_append_right (Nat.le_refl _), Nat.sub_self]
      rfl
    rw [e]
variable {k : MT} {Q : Po} {pc pc' : Nat} {ls : List (Option Value)} {st : List Value} {sh : List SC} {M : Mem} {n1 n2 : Nat}
theorem r_newarr {t : Nat} {aty : ArrayType} {n : Int32} {N : Nat} (hd : Inx k pc (.newarray aty) 2 pc') (ht : t < 3) (hty : newarray.typeOf aty = tyA t) (harr : Cond.arrayClass (newarray.typeOf aty) ∈ lw_good) (hn : ¬ n < 0) (hN : n.toNatClampNeg = N) (hb : N ≤ 10000) (hw : WfS sh) (hls : ∀ o ∈ ls, ∀ v, o = some v → vOk sh.length v = true) (hst : ∀ v ∈ st, vOk sh.length v = true) (hz : ∀ j, M.1 sh.length j = 0 ∧ M.2 sh.length j = 0) (hr : n1 + 1 ≤ k.2.2.2.2.2.2.1 ∧ n2 + N ≤ k.2.2.2.2.2.2.2)
    (h : WP k Q pc' ls (.ref sh.length :: st) (sh ++ [(t, N, [])]) M (n1 + 1) (n2 + N)) : WP k Q pc ls (.int n :: st) sh M n1 n2 := by
  intro p l e s m args below meth c ad0 ad dC dI dA sz0 H locs la C h0 h1 h2 h3 h4 h5
  obtain ⟨hd, rfl⟩ := hd
  have hK := C.2.2.2.2.2.2.2.1
  have e1 : M.1 sh.length = fun _ => 0 := funext fun j => (hz j).1
  have e2 : M.2 sh.length = fun _ => 0 := funext fun j => (hz j).2
  obtain ⟨a0, ha1, ha2⟩ : ∃ a0 : vp_A, (∀ cA : ClassId, vp_cell cA a0 = arrV cA N (fun _ => defaultValue (tyA t))) ∧ ∀ ad' : AD, cellW ad' dA M sh.length (t, N, []) = .inl (dA t, a0) := by
    rcases (show t = 0 ∨ t = 1 ∨ t = 2 by omega) with rfl | rfl | rfl
    · exact ⟨(N, .inl (fun _ => 0)), fun _ => rfl, fun _ => by show (Sum.inl (dA 0, N, .inl (M.1 sh.length)) : va_E) = _; rw [e1]⟩
    · exact ⟨(N, .inr (.inl (fun _ => 0))), fun _ => rfl, fun _ => by show (Sum.inl (dA 1, N, .inr (.inl (M.2 sh.length))) : va_E) = _; rw [e2]⟩
    · exact ⟨(N, .inl (fun _ => 0)), fun _ => rfl, fun _ => by show (Sum.inl (dA 2, N, .inl (M.1 sh.length)) : va_E) = _; rw [e1]⟩
  have hby : N * componentBytes (tyA t) ≤ 536870912 := by
    rcases (show t = 0 ∨ t = 1 ∨ t = 2 by omega) with rfl | rfl | rfl
    · show N * 4 ≤ _; omega
    · show N * 8 ≤ _; omega
    · show N * 1 ≤ _; omega
  refine va_newa C.1 C.2.1 (C.2.2.2.2.2.2.1 _ harr) hty hK h2 h3 h4 (fun q hq => Nat.le_trans C.2.2.2.2.2.2.2.2.2.1 hq) ha1 hn hN hby hr.1 hr.2 hd (fun q cA H1 g1 g2 g3 g4 => ?_)
  have hcA : cA = dA t := by
    have q1 := (g1.2 7 (cA, tyA t) (by rw [List.getElem?_append_right (by show 7 ≤ 7; decide)]; rfl)).2
    have q2 := (hK.2 t (dA t, tyA t) (tysW_at (by omega))).2
    rcases (show t = 0 ∨ t = 1 ∨ t = 2 by omega) with rfl | rfl | rfl
    all_goals exact Option.some.inj (Eq.trans (Eq.symm q1) q2)
  subst hcA
  rw [← ha2 (ad.1 ++ [q], ad.2), ← wsW_app h1 hw] at g2 g3
  have hp : Pre ad (ad.1 ++ [q], ad.2) := ⟨List.prefix_append _ _, rfl⟩
  have w := (Aft.grow (k := k) (Q := Q) (Qc := fun r sh' M' => r = some (.ref sh.length) ∧ sh' = sh ++ [(t, N, [])] ∧ M' = M) (pc' := pc + 2) (n1 := n1 + 1) (n2 := n2 + N) hls hst (fun r sh' M' hq => by obtain ⟨rfl, rfl, rfl⟩ := hq; exact h)) p l e s m args below meth c ad0 ad dC dI dA sz0 la C h0 h1 h5 (some (.ref sh.length)) (sh ++ [(t, N, [])]) M (ad.1 ++ [q], ad.2) H1 locs ⟨rfl, rfl, rfl⟩ hp (by rw [List.length_append, List.length_append, h1]; rfl) g2 g3 g4
  have e3 : adr (ad.1 ++ [q], ad.2) sh.length = q := by
    simp only [adr, List.getD, ← h1]
    rw [List.getElem?_append_right (Nat.le_refl _), Nat.sub_self]
    rfl
  have e4 : ((some (Value.ref sh.length)).map (cv (ad.1 ++ [q], ad.2))).toList ++ st.map (cv ad) = .ref q :: st.map (cv ad) := by
    show Value.ref (adr (ad.1 ++ [q], ad.2) sh.length) :: st.map (cv ad) = _
    rw [e3]
  rw [e4] at w
  exact w
theorem adr_new {ad : AD} {q : Nat} (h1 : ad.1.length = sh.length) : adr (ad.1 ++ [q], ad.2) sh.length = q := by
  simp only [adr, List.getD, ← h1]
  rw [List.getElem?_append_right (Nat.le_refl _), Nat.sub_self]
  rfl
/-- behind an instruction that makes one cell -/
theorem W_grow {p : Program} {l : Launch} {e : Env} {s : State} {m : MethodId} {args : Array Value} {below : List Frame} {meth : Method} {c : Code} {ad0 ad : AD} {dC : Nat → ClassId} {dI : Nat → Nat → Nat} {dA : Nat → ClassId} {sz0 q : Nat} {la : Array Slot} {x : SC} {H1 : Heap} {locs : List Loc}
    (hls : ∀ o ∈ ls, ∀ v, o = some v → vOk sh.length v = true) (hst : ∀ v ∈ st, vOk sh.length v = true) (hw : WfS sh) (h : WP k Q pc' ls (.ref sh.length :: st) (sh ++ [x]) M n1 n2) (C : Cx k p s m args meth c dC dI dA sz0 ad.2) (h0 : Pre ad0 ad) (h1 : ad.1.length = sh.length) (h5 : lv_has la k.2.2.1 (lvW ad ls))
    (g2 : va_P (dC, dI) clW (wsW ad dA sh M ++ [(q, cellW (ad.1 ++ [q], ad.2) dA M sh.length x)]) H1) (g3 : va_D (Aw sz0) (wsW ad dA sh M ++ [(q, cellW (ad.1 ++ [q], ad.2) dA M sh.length x)])) (g4 : va_S (Aw sz0) s.heap H1 locs) :
    W p l e (roomW k) s m args below meth c H1 locs n1 n2 (MQ below (QcW Q ad0 dC dI dA sz0) args s k.2.2.2.2.2.2.1 k.2.2.2.2.2.2.2 (Aw sz0)) (F0 m pc' la (.ref q :: st.map (cv ad))) := by
  rw [← wsW_app h1 hw] at g2 g3
  have hp : Pre ad (ad.1 ++ [q], ad.2) := ⟨List.prefix_append _ _, rfl⟩
  have w := (Aft.grow (k := k) (Q := Q) (Qc := fun r sh' M' => r = some (.ref sh.length) ∧ sh' = sh ++ [x] ∧ M' = M) (pc' := pc') (n1 := n1) (n2 := n2) hls hst (fun r sh' M' hq => by obtain ⟨rfl, rfl, rfl⟩ := hq; exact h)) p l e s m args below meth c ad0 ad dC dI dA sz0 la C h0 h1 h5 (some (.ref sh.length)) (sh ++ [x]) M (ad.1 ++ [q], ad.2) H1 locs ⟨rfl, rfl, rfl⟩ hp (by rw [List.length_append, List.length_append, h1]; rfl) g2 g3 g4
  have e4 : ((some (Value.ref sh.length)).map (cv (ad.1 ++ [q], ad.2))).toList ++ st.map (cv ad) = .ref q :: st.map (cv ad) := by
    show Value.ref (adr (ad.1 ++ [q], ad.2) sh.length) :: st.map (cv ad) = _
    rw [adr_new h1]
  rw [e4] at w
  exact w
def dv (t : Nat) : Value := match t with
  | 1 => .long 0
  | 2 => .null
  | _ => .int 0
/-- what the tables say of a class that is made -/
def NW (own : String) (idx c N : Nat) : Prop := ∃ (R : String) (T : u_T) (ty : Nat → FieldType), clW[c]? = some (R, T, N) ∧ (∀ w ∈ u_ws R T N, w ∈ lw_good) ∧ (∀ i, i < N → parseFieldDescriptor (T i).2.2.1 = some (ty i)) ∧ Cond.classLink own idx R ∈ lw_good ∧ Cond.instantiable R N ∈ lw_good ∧ Cond.initialized R ∈ lw_good ∧ (fty c).length = N ∧ ∀ j, j < N → defaultValue (ty j) = dv ((fty c).getD j 0)
theorem fv_new {ad : AD} {N a j t : Nat} (hz : ∀ j, M.1 a j = 0 ∧ M.2 a j = 0) : fv ad M (List.replicate N none) a j t = dv t := by
  match t with
  | 0 => show Value.int (M.1 a j) = .int 0; rw [(hz j).1]
  | 1 => show Value.long (M.2 a j) = .long 0; rw [(hz j).2]
  | 2 =>
    show va_rf (((List.replicate N (none : Option Nat)).getD j none).map (adr ad)) = .null
    have e : (List.replicate N (none : Option Nat)).getD j none = none := by
      rw [List.getD_eq_getElem?_getD, List.getElem?_replicate]
      split <;> rfl
    rw [e]; rfl
  | t + 3 => show Value.int (M.1 a j) = .int 0; rw [(hz j).1]
theorem r_newobj {idx c N : Nat} (hd : Inx k pc (.new idx) 3 pc') (hC : NW k.1.cls idx c N) (hw : WfS sh) (hls : ∀ o ∈ ls, ∀ v, o = some v → vOk sh.length v = true) (hst : ∀ v ∈ st, vOk sh.length v = true) (hz : ∀ j, M.1 sh.length j = 0 ∧ M.2 sh.length j = 0) (hr : n1 + 1 ≤ k.2.2.2.2.2.2.1 ∧ n2 + N ≤ k.2.2.2.2.2.2.2)
    (h : WP k Q pc' ls (.ref sh.length :: st) (sh ++ [(c + 7, 0, List.replicate N none)]) M (n1 + 1) (n2 + N)) : WP k Q pc ls st sh M n1 n2 := by
  intro p l e s m args below meth cd ad0 ad dC dI dA sz0 H locs la C h0 h1 h2 h3 h4 h5
  obtain ⟨hd, rfl⟩ := hd
  obtain ⟨R, T, ty, q1, q2, q3, q4, q5, q6, q7, q8⟩ := hC
  have ht := C.2.2.2.2.2.2.1
  refine va_new C.1 C.2.1 ht q2 ty q3 C.2.2.2.2.2.1 (ht _ q4) (ht _ q5) (ht _ q6) C.2.2.2.2.2.2.2.1 h2 h3 h4 (fun q hq => Nat.le_trans C.2.2.2.2.2.2.2.2.2.1 hq) q1 (fs := fsW ad M (List.replicate N none) sh.length c) (fun j hj => ?_) hr.1 hr.2 hd (fun q H1 g2 g3 g4 => ?_)
  · have hl : j < (fty c).length := by rw [q7]; exact hj
    have e1 : (fty c)[j]? = some ((fty c)[j]'hl) := List.getElem?_eq_getElem hl
    rw [q8 j hj]
    unfold vp_V
    simp only [List.getD_eq_getElem?_getD]
    rw [fsW_at e1, e1]
    exact (fv_new hz).symm
  · have e : ∀ ad' : AD, cellW ad' dA M sh.length (c + 7, 0, List.replicate N none) = .inr (c, fsW ad M (List.replicate N none) sh.length c) := fun ad' => by
      rw [cellW_obj]
      have e2 : fsW ad' M (List.replicate N none) sh.length c = fsW ad M (List.replicate N none) sh.length c := by
        unfold fsW
        congr 1
        funext j t
        rw [fv_new hz, fv_new hz]
      rw [e2]
    exact W_grow hls hst hw h C h0 h1 h5 (by rw [e]; exact g2) (by rw [e]; exact g3) g4
/-- an array of references is made -/
theorem r_anewarr {idx t N : Nat} {R : String} {n : Int32} (hd : Inx k pc (.anewarray idx) 3 pc') (ht : 3 ≤ t ∧ t < 7) (hty : tyA t = .object R) (hlk : Cond.classLink k.1.cls idx R ∈ lw_good) (hn : ¬ n < 0) (hN : n.toNatClampNeg = N) (hb : N ≤ 10000) (hw : WfS sh) (hls : ∀ o ∈ ls, ∀ v, o = some v → vOk sh.length v = true) (hst : ∀ v ∈ st, vOk sh.length v = true) (hr : n1 + 1 ≤ k.2.2.2.2.2.2.1 ∧ n2 + N ≤ k.2.2.2.2.2.2.2)
    (h : WP k Q pc' ls (.ref sh.length :: st) (sh ++ [(t, N, List.replicate N none)]) M (n1 + 1) (n2 + N)) : WP k Q pc ls (.int n :: st) sh M n1 n2 := by
  intro p l e s m args below meth cd ad0 ad dC dI dA sz0 H locs la C h0 h1 h2 h3 h4 h5
  obtain ⟨hd, rfl⟩ := hd
  have hts := C.2.2.2.2.2.2.1
  have hK := C.2.2.2.2.2.2.2.1
  have hX := C.2.2.2.2.2.2.2.2.1.2.1
  have hAO : va_AO R s := by
    rcases (show t = 3 ∨ t = 4 ∨ t = 5 ∨ t = 6 by omega) with rfl | rfl | rfl | rfl
    · cases hty; exact hX.1
    · cases hty; exact hX.2.1
    · cases hty; exact hX.2.2.1
    · cases hty; exact hX.2.2.2
  refine va_newq C.1 C.2.1 C.2.2.2.2.2.1 (hts _ hlk) hAO hK h2 h3 h4 (fun q hq => Nat.le_trans C.2.2.2.2.2.2.2.2.2.1 hq) hn hN (by omega) hr.1 hr.2 hd (fun q cA H1 g1 g2 g3 g4 => ?_)
  have hcA : cA = dA t := by
    have q1 := (g1.2 7 (cA, .object R) (by rw [List.getElem?_append_right (by show 7 ≤ 7; decide)]; rfl)).2
    have q2 := (hK.2 t (dA t, tyA t) (tysW_at (by omega))).2
    rw [hty] at q2
    obtain ⟨_, _, _, _, _, w1⟩ := q1
    obtain ⟨_, _, _, _, _, w2⟩ := q2
    exact Option.some.inj (w1.symm.trans w2)
  subst hcA
  have e : ∀ ad' : AD, cellW ad' dA M sh.length (t, N, List.replicate N none) = .inl (dA t, N, .inr (.inr (.inr (.inr (fun _ => none))))) := fun ad' => by
    rw [cellW_q ht.1 ht.2]
    have e2 : (fun k => ((List.replicate N (none : Option Nat)).getD k none).map (adr ad')) = fun _ => none := by
      funext j
      have e : (List.replicate N (none : Option Nat)).getD j none = none := by
        rw [List.getD_eq_getElem?_getD, List.getElem?_replicate]
        split <;> rfl
      rw [e]; rfl
    rw [e2]
  exact W_grow hls hst hw h C h0 h1 h5 (by rw [e]; exact g2) (by rw [e]; exact g3) g4
/-- a reference is put into an array of references -/
theorem r_aastore {t n a b ci : Nat} {r : vw_C} {i : Int32} {rs rsb : List (Option Nat)} (hd : Inx k pc .aastore 1 pc') (ht : 3 ≤ t ∧ t < 7) (ha : sh[a]? = some (t, n, rs)) (hrs : rs.length = n) (hb : sh[b]? = some (ci + 7, 0, rsb)) (hc : clW[ci]? = some r) (hty : tyA t = .object r.1) (hi : vp_in i n)
    (h : WP k Q pc' ls st (sh.set a (t, n, rs.set i.toNatClampNeg (some b))) M n1 n2) : WP k Q pc ls (.ref b :: .int i :: .ref a :: st) sh M n1 n2 := by
  intro p l e s m args below meth cd ad0 ad dC dI dA sz0 H locs la C h0 h1 h2 h3 h4 h5
  obtain ⟨hd, rfl⟩ := hd
  have hw := wsW_at (ad := ad) (dA := dA) (M := M) ha
  rw [cellW_q ht.1 ht.2] at hw
  have hv := wsW_at (ad := ad) (dA := dA) (M := M) hb
  rw [cellW_obj] at hv
  have hy : (tysW dA)[t]? = some (dA t, .object r.1) := by rw [← hty]; exact tysW_at ht.2
  refine va_astq C.1 C.2.1 C.2.2.2.2.2.2.2.1 h2 h3 h4 a t b ci hw hy hv hc hi hd (fun H1 locs1 g2 g3 g4 => ?_)
  have eu : va_up (fun k => (rs.getD k none).map (adr ad)) i.toNatClampNeg (some (adr ad b)) = fun k => ((rs.set i.toNatClampNeg (some b)).getD k none).map (adr ad) := by
    funext j
    by_cases q : j = i.toNatClampNeg
    · subst q
      have hl : i.toNatClampNeg < rs.length := by rw [hrs]; exact vp_lt hi
      rw [va_up_self, List.getD_eq_getElem?_getD, List.getElem?_set_self hl]; rfl
    · rw [va_up_ne _ _ q, List.getD_eq_getElem?_getD, List.getD_eq_getElem?_getD, List.getElem?_set_ne (fun z => q z.symm)]
  rw [eu, ← cellW_q (ad := ad) (M := M) (a := a) ht.1 ht.2, wsW_setC ha] at g2 g3
  exact h p l e s m args below meth cd ad0 ad dC dI dA sz0 H1 locs1 la C h0 (by rw [List.length_set]; exact h1) g2 g3 g4 h5
/-- final fields, in a constructor -/
theorem r_putRF {idx c j a b : Nat} (hd : Inx k pc (.putfield idx) 3 pc') (hl : FL k.1.cls idx c j 2 true) (hn : k.1.name = "<init>") (ho : (clW[c]?).map (fun q => q.1) = some k.1.cls) {rs : List (Option Nat)} (hk : sh[a]? = some (c + 7, 0, rs)) (hr : j < rs.length) (h : WP k Q pc' ls st (sh.set a (c + 7, 0, rs.set j (some b))) M n1 n2) : WP k Q pc ls (.ref b :: .ref a :: st) sh M n1 n2 := by
  intro p l e s m args below meth cd ad0 ad dC dI dA sz0 H locs la C h0 h1 h2 h3 h4 h5
  obtain ⟨hd, rfl⟩ := hd
  obtain ⟨R, T, N, ty, hc, hin, hty, hnm, hj, hlen, htj, hfin, hok, hR, hlink⟩ := hl
  have hw := wsW_at (ad := ad) (dA := dA) (M := M) hk
  rw [cellW_obj] at hw
  rw [hc] at ho
  have ho : R = k.1.cls := Option.some.inj ho
  refine va_putF C.1 C.2.1 C.2.2.2.2.2.2.1 hin ty hty hnm C.2.2.2.2.2.1 C.2.2.2.2.2.2.2.1 h2 h3 h4 a hw hc j hj (C.2.2.2.2.2.2.1 _ hlink) (fun _ q => q) hfin (C.2.2.2.2.2.2.2.2.2.2.trans hn) (hR.trans ho) (hty j hj) (v := .ref (adr ad b)) (hok.1 (some (adr ad b))).1 (hok.1 (some (adr ad b))).2 (by rw [fsW_len, hlen]; exact hj) hd (fun H1 locs1 g2 g3 g4 => ?_)
  have ee : (Value.ref (adr ad b)) = va_rf ((some b).map (adr ad)) := rfl
  rw [ee, fsW_setR htj hr, ← cellW_obj (dA := dA) (n := 0), wsW_setC hk] at g2 g3
  exact h p l e s m args below meth cd ad0 ad dC dI dA sz0 H1 locs1 la C h0 (by rw [List.length_set]; exact h1) g2 g3 g4 h5
theorem r_putIF0 {idx c j t a : Nat} {v : Int32} (hd : Inx k pc (.putfield idx) 3 pc') (hl : FL k.1.cls idx c j t true) (hn : k.1.name = "<init>") (ho : (clW[c]?).map (fun q => q.1) = some k.1.cls) (ht : t ≠ 1 ∧ t ≠ 2) (hv : ∀ ty, tyOk t ty → narrow ty (.int v) = .int v ∧ fits ty (.int v) = true) (hk : kd sh a = some (c + 7, 0)) (h : WP k Q pc' ls st sh (setI M a j v) n1 n2) : WP k Q pc ls (.int v :: .ref a :: st) sh M n1 n2 := by
  obtain ⟨rs, hk⟩ := kd_at hk
  intro p l e s m args below meth cd ad0 ad dC dI dA sz0 H locs la C h0 h1 h2 h3 h4 h5
  obtain ⟨hd, rfl⟩ := hd
  obtain ⟨R, T, N, ty, hc, hin, hty, hnm, hj, hlen, htj, hfin, hok, hR, hlink⟩ := hl
  have hw := wsW_at (ad := ad) (dA := dA) (M := M) hk
  rw [cellW_obj] at hw
  rw [hc] at ho
  have ho : R = k.1.cls := Option.some.inj ho
  refine va_putF C.1 C.2.1 C.2.2.2.2.2.2.1 hin ty hty hnm C.2.2.2.2.2.1 C.2.2.2.2.2.2.2.1 h2 h3 h4 a hw hc j hj (C.2.2.2.2.2.2.1 _ hlink) (fun _ q => q) hfin (C.2.2.2.2.2.2.2.2.2.2.trans hn) (hR.trans ho) (hty j hj) (v := .int v) (hv _ hok).1 (hv _ hok).2 (by rw [fsW_len, hlen]; exact hj) hd (fun H1 locs1 g2 g3 g4 => ?_)
  rw [fsW_setI htj ht, ← cellW_obj (dA := dA) (n := 0), wsW_setM hk (fun b hb => by constructor <;> first | rfl | (funext i; simp [setI, hb]))] at g2 g3
  exact h p l e s m args below meth cd ad0 ad dC dI dA sz0 H1 locs1 la C h0 h1 g2 g3 g4 h5
def ObjOk (own : String) (idx : Nat) : Prop := Cond.methodLink own idx Lib.objectInit ∈ lw_good ∧ Cond.instanceMethod Lib.objectInit ∈ lw_good ∧ Cond.code Lib.objectInit { data := #[177] } 1 none ∈ lw_good
theorem r_objInit {idx a : Nat} (hd : Inx k pc (.invokespecial idx) 3 pc') (hC : ObjOk k.1.cls idx) (hR : 1 ≤ k.2.2.2.2.1 ∧ 12 ≤ k.2.2.2.2.2.1) (h : WP k Q pc' ls [] sh M n1 n2) : WP k Q pc ls [.ref a] sh M n1 n2 := by
  intro p l e s m args below meth cd ad0 ad dC dI dA sz0 H locs la C h0 h1 h2 h3 h4 h5
  obtain ⟨hd, rfl⟩ := hd
  have ht := C.2.2.2.2.2.2.1
  exact W.objInit (g := F0 m pc la [.ref (adr ad a)]) C.1 C.2.1 C.2.2.2.2.2.1 (ht _ hC.1) (ht _ hC.2.1) (ht _ hC.2.2) rfl (h5.1.trans C.2.2.1.symm) rfl hd hR.1 hR.2 (h p l e s m args below meth cd ad0 ad dC dI dA sz0 H locs la C h0 h1 h2 h3 h4 h5)
end ALC
