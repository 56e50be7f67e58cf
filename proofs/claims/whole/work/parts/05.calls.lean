/-! ===== entry and calls ===== -/
def argsL (as : List Value) : List (Option Value) := as.flatMap fun v => if v.category = 2 then [some v, none] else [some v]
theorem argsL_len (as : List Value) : (argsL as).length = (lg_sl as).length := by
  induction as with
  | nil => rfl
  | cons v l ih =>
    simp only [argsL, lg_sl, List.flatMap_cons, List.length_append] at ih ⊢
    rw [ih]
    split <;> rfl
theorem entry_sub {ad : AD} (as : List Value) (m : Nat) : ∀ (i : Nat) (q : Nat) (v : Value), (argsL as ++ List.replicate m none)[q]? = some (some v) → (i + q, cv ad v) ∈ lv_args i (as.map (cv ad)) := by
  induction as with
  | nil =>
    intro i q v h
    simp only [argsL, List.flatMap_nil, List.nil_append, List.getElem?_replicate] at h
    split at h <;> simp at h
  | cons w l ih =>
    intro i q v h
    simp only [List.map_cons, lv_args, cv_cat]
    by_cases hc : w.category = 2
    · simp only [argsL, List.flatMap_cons, if_pos hc] at h
      rw [if_pos hc]
      match q, h with
      | 0, h =>
        simp at h
        subst h
        exact List.mem_cons_self
      | 1, h => simp at h
      | q + 2, h =>
        have h2 := ih (i + 2) q v (by simpa [argsL] using h)
        rw [show i + (q + 2) = i + 2 + q by omega]
        exact List.mem_cons_of_mem _ h2
    · simp only [argsL, List.flatMap_cons, if_neg hc] at h
      rw [if_neg hc]
      match q, h with
      | 0, h =>
        simp at h
        subst h
        exact List.mem_cons_self
      | q + 1, h =>
        have h2 := ih (i + 1) q v (by simpa [argsL] using h)
        rw [show i + (q + 1) = i + 1 + q by omega]
        exact List.mem_cons_of_mem _ h2
theorem lg_sl_cv (ad : AD) (as : List Value) : (lg_sl (as.map (cv ad))).length = (lg_sl as).length := by
  induction as with
  | nil => rfl
  | cons v l ih =>
    simp only [lg_sl, List.map_cons, List.flatMap_cons, List.length_append, cv_cat] at ih ⊢
    rw [ih]
    split <;> rfl
/-- a contract out of the walk of its body -/
theorem Sp.of {k : MT} {as : List Value} {sh : List SC} {M : Mem} {Q : Po} {ls : List (Option Value)} (hy : plainName k.1.cls = true) (hlen : (argsL as).length ≤ k.2.2.1) (hls : argsL as ++ List.replicate (k.2.2.1 - (argsL as).length) none = ls) (h : WP k Q 0 ls [] sh M 0 0) : Sp k as sh M Q := by
  intro l ad dC dI dA sz0
  refine Met.ofW (cc := k.2.1) (maxL := k.2.2.1) (ret := k.2.2.2.1) hy rfl ?_
  intro p e s m args below meth c s₁ B hml hv
  obtain ⟨rfl, hsz, hlad, hP, hD, hK, hE⟩ := hv
  have hts := atoms_spec (ws := Cond.code k.1 k.2.1 k.2.2.1 k.2.2.2.1 :: lw_good) B.pre
  have hl := lv_entry (as.map (cv ad)) (n := k.2.2.1) (by rw [lg_sl_cv, ← argsL_len]; exact hlen)
  rw [lg_entry_eq]
  subst hls
  refine h p l e s m _ below meth c ad ad dC dI dA sz0 s.heap [] _ ⟨B.exec, B.bytes, hml, B.returns, B.notSynchronized, findClass_of_methodNamed B.named, fun w hw => hts w (List.mem_cons_of_mem _ hw), hK, hE, hsz, (name_of_methodNamed B.named B.method).1⟩ Pre.rf hlad hP hD va_S.rf (lv_mono hl (fun q hq => ?_))
  obtain ⟨v, h1, h2⟩ := lvW_mem hq
  have h3 := entry_sub (ad := ad) as _ 0 q.1 v h1
  rw [Nat.zero_add] at h3
  rw [← h2] at h3
  exact h3
theorem Sp.mono {k : MT} {as : List Value} {sh : List SC} {M : Mem} {Q Q' : Po} (h : Sp k as sh M Q) (hq : ∀ r sh' M', Q r sh' M' → Q' r sh' M') : Sp k as sh M Q' := by
  intro l ad dC dI dA sz0
  refine MetFree.mono (h l ad dC dI dA sz0) (fun _ _ q => q) (fun _ _ _ _ _ q => q) (fun a s o s' _ q => ?_)
  obtain ⟨⟨⟨r, sh', M', ad', g1, g2, g3⟩, g4⟩, g5⟩ := q
  exact ⟨⟨⟨r, sh', M', ad', g1, hq _ _ _ g2, g3⟩, g4⟩, g5⟩
theorem Ext.same {sz0 : Nat} {X : Nat → Nat} {s U : State} (h : Ext sz0 X s) (hv : U.vm = s.vm) (hh : U.heap = s.heap) : Ext sz0 X U := by
  obtain ⟨h1, ⟨a1, a2, a3, a4⟩, ⟨b1, b2, b3, b4⟩, c1, c2, c3, c4, c5, c6⟩ := h
  have hA : s.vm.Alike U.vm := by rw [hv]; exact Vm.Alike.refl _
  refine ⟨fun w hw hn => ?_, ⟨a1.moved hA, a2.moved hA, a3.moved hA, a4.moved hA⟩, by rw [hh]; exact ⟨b1.moved hA, b2.moved hA, b3.moved hA, b4.moved hA⟩, by rw [hh]; exact c1.moved hA, ?_, by rw [hh]; exact c3.moved hA, c4.same hv, c5.same hv, c6.same hv⟩
  · have h2 := h1 w hw hn
    cases w <;> first | exact va_Nw.same rfl hv.symm h2 | (exact absurd hn (by intro q; cases q))
  · rw [hh]
    rcases c2 with c2 | c2
    · exact Or.inl (c2.moved hA)
    · exact Or.inr (c2.moved hA)
theorem PcW_blind (as : List Value) (sh : List SC) (M : Mem) (ad : AD) (dC : Nat → ClassId) (dI : Nat → Nat → Nat) (dA : Nat → ClassId) (sz0 : Nat) : FrameBlind (PcW as sh M ad dC dI dA sz0) := by
  intro a U g mk q
  obtain ⟨h1, h2, h3, h4, h5, h6, h7⟩ := q
  exact ⟨h1, h2, h3, h4, h5, va_K.moved (u := U) (U := U.calling g mk a) (Vm.Alike.refl U.vm) h6, h7.same (U := U.calling g mk a) rfl rfl⟩
def CLk (k' : MT) (n : Nat) : Prop := Cond.code k'.1 k'.2.1 k'.2.2.1 k'.2.2.2.1 ∈ lw_good ∧ Cond.initialized k'.1.cls ∈ lw_good ∧ (k'.1.cls ≠ "java/lang/invoke/MethodHandle" ∧ k'.1.cls ≠ "java/lang/invoke/VarHandle" ∧ (parseMethodDescriptor k'.1.desc).map (fun d => d.parameters.length) = some n)
def CV (own : String) (idx : Nat) (k' : MT) (n c : Nat) : Prop := CLk k' n ∧ Cond.methodLink own idx k'.1 ∈ lw_good ∧ Cond.instanceMethod k'.1 ∈ lw_good ∧ Cond.selects k'.1.cls k'.1 k'.1 ∈ lw_good ∧ ∃ (T : u_T) (N : Nat), clW[c]? = some (k'.1.cls, T, N)
def CS (own : String) (idx : Nat) (k' : MT) (n : Nat) : Prop := CLk k' n ∧ Cond.methodLink own idx k'.1 ∈ lw_good ∧ Cond.static k'.1 ∈ lw_good
def CI (own : String) (idx : Nat) (k' : MT) (n : Nat) : Prop := CLk k' n ∧ Cond.methodLink own idx k'.1 ∈ lw_good ∧ k'.1.name = "<init>" ∧ Cond.instanceMethod k'.1 ∈ lw_good ∧ k'.2.2.2.1 = none
def CSN (own : String) (idx : Nat) (k' : MT) (n : Nat) : Prop := CLk k' n ∧ (∃ host, Cond.methodLinkNest own idx k'.1 host ∈ lw_tbl) ∧ Cond.static k'.1 ∈ lw_good
def CIN (own : String) (idx : Nat) (k' : MT) (n : Nat) : Prop := CLk k' n ∧ (∃ host, Cond.methodLinkNest own idx k'.1 host ∈ lw_tbl) ∧ k'.1.name = "<init>" ∧ Cond.instanceMethod k'.1 ∈ lw_good ∧ k'.2.2.2.1 = none
/-- the callee's room fits the caller's -/
abbrev Rm (k k' : MT) : Prop := k'.2.2.2.2.1 + 1 ≤ k.2.2.2.2.1 ∧ 8 + (k'.2.2.1 + 11) + k'.2.2.2.2.2.1 ≤ k.2.2.2.2.2.1
section CL
variable {k k' : MT} {Q Qc : Po} {pc pc' : Nat} {ls : List (Option Value)} {st As : List Value} {sh : List SC} {M : Mem} {n1 n2 idx n c a : Nat}
variable {p : Program} {l : Launch} {e : Env} {R : Room} {s : State} {m : MethodId} {args : Array Value} {below : List Frame} {meth : Method} {cd : Code} {H : Heap} {locs : List Loc} {Qs : State → Prop}
theorem call_on {mc ms : Nat} {la : Array Slot} {st0 rest : List Value} {ad : AD} {dC : Nat → ClassId} {dI : Nat → Nat → Nat} {dA : Nat → ClassId} {sz0 : Nat} {av : Array Value} {free : Addr → Prop}
    (hr : va_Run p l e R s m args below meth cd H locs n1 n2 mc ms (F0 m pc la st0) rest (QcW Qc ad dC dI dA sz0 av) (Aw sz0)) (hS : va_S (Aw sz0) s.heap H locs)
    (kk : ∀ (r : Option Value) (sh' : List SC) (M' : Mem) (ad' : AD) (H1 : Heap) (locs1 : List Loc), Qc r sh' M' → Pre ad ad' → ad'.1.length = sh'.length → va_P (dC, dI) clW (wsW ad' dA sh' M') H1 → va_D (Aw sz0) (wsW ad' dA sh' M') → va_S (Aw sz0) s.heap H1 locs1 → W p l e R s m args below meth cd H1 locs1 (n1 + mc) (n2 + ms) Qs (F0 m (pc + 3) la ((r.map (cv ad')).toList ++ rest))) : W p l e R s m args below meth cd H locs n1 n2 Qs (F0 m pc la st0) := by
  intro T hT X
  obtain ⟨v, st₀, t, T', L, h0, X', hL, e1, e2, ⟨⟨r, sh', M', ad', hv, hq, hpre, hlen, hP, hD⟩, hz, hk⟩, st⟩ := hr T hT X
  cases hv
  rw [h0] at hz hk
  obtain ⟨t2, a1, b1⟩ := kk r sh' M' ad' T'.heap (locs ++ L) hq hpre hlen (by rw [e1]; exact hP) hD
    ⟨Nat.le_trans hS.1 (by rw [e1]; exact hz), fun q h1 h2 => by rw [e1, hk q (Nat.lt_of_lt_of_le h1 hS.1) h2]; exact hS.2.1 q h1 h2, fun q hq => by
      rcases List.mem_append.mp hq with h | h
      · exact hS.2.2 q h
      · exact hL q h⟩ T' rfl X'
  exact ⟨t2, st t2 a1, b1⟩
theorem callB_ok (hC : CLk k' n) (hR : Rm k k') (ht : ∀ w ∈ lw_good, w.before args s = true) (hl : Cond.methodLink k.1.cls idx k'.1 ∈ lw_good) : CallB (roomW k) s args k.1.cls idx k'.1 k'.2.1 k'.2.2.1 k'.2.2.2.1 (Cond.code k'.1 k'.2.1 k'.2.2.1 k'.2.2.2.1 :: lw_good) (roomW k') k'.2.2.2.2.2.2.1 k'.2.2.2.2.2.2.2 n :=
  callB_of n ht (lw_goodIn hC.1) rfl rfl rfl (ht _ hC.2.1) (ht _ hl) hC.2.2 hR
theorem pre_ok {ad : AD} {dC : Nat → ClassId} {dI : Nat → Nat → Nat} {dA : Nat → ClassId} {sz0 : Nat} (C : Cx k p s m args meth cd dC dI dA sz0 ad.2) (h1 : ad.1.length = sh.length) (h2 : va_P (dC, dI) clW (wsW ad dA sh M) H) (h3 : va_D (Aw sz0) (wsW ad dA sh M)) (h4 : va_S (Aw sz0) s.heap H locs) : ∀ U : State, U.heap = H → s.WarmedH U.vm → PcW As sh M ad dC dI dA sz0 (As.map (cv ad)).toArray U := by
  intro U hU hW
  subst hU
  exact ⟨rfl, Nat.le_trans C.2.2.2.2.2.2.2.2.2.1 h4.1, h1, h2, h3, va_K.moved hW.alike C.2.2.2.2.2.2.2.1, C.2.2.2.2.2.2.2.2.1.call hW h4.2.1⟩
/-- room on the stack below the arguments -/
abbrev stOk (st : List Value) : Prop := (st.map fun v => v.category).sum ≤ 8
theorem stOk_cv {ad : AD} {st : List Value} (h : stOk st) : ((st.map (cv ad)).map fun v => v.category).sum ≤ 8 := by
  have e : (st.map (cv ad)).map (fun v => v.category) = st.map fun v => v.category := by
    rw [List.map_map]
    apply List.map_congr_left
    intro v _
    exact cv_cat ad v
  rw [e]; exact h
/-- what stands behind a call, in the caller's terms -/
def Aft (k : MT) (Q Qc : Po) (pc' : Nat) (ls : List (Option Value)) (st : List Value) (sh : List SC) (n1 n2 : Nat) : Prop :=
  ∀ (p : Program) (l : Launch) (e : Env) (s : State) (m : MethodId) (args : Array Value) (below : List Frame) (meth : Method) (c : Code) (ad0 ad : AD) (dC : Nat → ClassId) (dI : Nat → Nat → Nat) (dA : Nat → ClassId) (sz0 : Nat) (la : Array Slot),
    Cx k p s m args meth c dC dI dA sz0 ad.2 → Pre ad0 ad → ad.1.length = sh.length → lv_has la k.2.2.1 (lvW ad ls) →
    ∀ (r : Option Value) (sh' : List SC) (M' : Mem) (ad' : AD) (H1 : Heap) (locs1 : List Loc), Qc r sh' M' → Pre ad ad' → ad'.1.length = sh'.length → va_P (dC, dI) clW (wsW ad' dA sh' M') H1 → va_D (Aw sz0) (wsW ad' dA sh' M') → va_S (Aw sz0) s.heap H1 locs1 →
    W p l e (roomW k) s m args below meth c H1 locs1 n1 n2 (MQ below (QcW Q ad0 dC dI dA sz0) args s k.2.2.2.2.2.2.1 k.2.2.2.2.2.2.2 (Aw sz0)) (F0 m pc' la ((r.map (cv ad')).toList ++ st.map (cv ad)))
/-- a callee that makes nothing -/
theorem Aft.keep (hq : ∀ r sh' M', Qc r sh' M' → sh'.length = sh.length ∧ WP k Q pc' ls (r.toList ++ st) sh' M' n1 n2) : Aft k Q Qc pc' ls st sh n1 n2 := by
  intro p l e s m args below meth c ad0 ad dC dI dA sz0 la C h0 h1 h5 r sh' M' ad' H1 locs1 g1 g2 g3 g4 g5 g6
  obtain ⟨hl, hw⟩ := hq r sh' M' g1
  have e1 : ad' = ad := Prod.ext (g2.1.eq_of_length (by omega)).symm g2.2
  subst e1
  have h := hw p l e s m args below meth c ad0 ad' dC dI dA sz0 H1 locs1 la C h0 g3 g4 g5 g6 h5
  have e2 : (r.map (cv ad')).toList ++ st.map (cv ad') = (r.toList ++ st).map (cv ad') := by cases r <;> simp
  rw [e2]; exact h
/-- values that name cells that are there -/
def vOk (n : Nat) (v : Value) : Bool := match v with
  | .ref a => decide (a < n)
  | _ => true
theorem cv_ext {ad ad' : AD} (h : Pre ad ad') {v : Value} (hv : vOk ad.1.length v = true) : cv ad' v = cv ad v := by
  cases v with
  | ref a =>
    have ha : a < ad.1.length := by simpa [vOk] using hv
    obtain ⟨⟨t, ht⟩, -⟩ := h
    simp only [cv, adr, ← ht, List.getD, List.getElem?_append_left ha]
  | retAddr x => simp only [cv, h.2]
  | _ => rfl
/-- a callee that may make cells: locals and stack name only cells that are there -/
theorem Aft.grow (hls : ∀ o ∈ ls, ∀ v, o = some v → vOk sh.length v = true) (hst : ∀ v ∈ st, vOk sh.length v = true) (hq : ∀ r sh' M', Qc r sh' M' → WP k Q pc' ls (r.toList ++ st) sh' M' n1 n2) : Aft k Q Qc pc' ls st sh n1 n2 := by
  intro p l e s m args below meth c ad0 ad dC dI dA sz0 la C h0 h1 h5 r sh' M' ad' H1 locs1 g1 g2 g3 g4 g5 g6
  have h := hq r sh' M' g1 p l e s m args below meth c ad0 ad' dC dI dA sz0 H1 locs1 la (by rw [g2.2]; exact C) (h0.tr g2) g3 g4 g5 g6 (lv_mono h5 (fun q hq => by
    obtain ⟨v, h6, h7⟩ := lvW_mem hq
    have h8 := hls (some v) (List.mem_of_getElem? h6) v rfl
    rw [cv_ext g2 (by rw [h1]; exact h8)] at h7
    have h9 := lvW_of (ad := ad) h6
    rw [← h7] at h9
    exact h9))
  have e2 : (r.map (cv ad')).toList ++ st.map (cv ad) = (r.toList ++ st).map (cv ad') := by
    have e3 : st.map (cv ad) = st.map (cv ad') := List.map_congr_left (fun v hv => (cv_ext g2 (by rw [h1]; exact hst v hv)).symm)
    rw [e3]
    cases r <;> simp
  rw [e2]; exact h
theorem r_callV (hd : Inx k pc (.invokevirtual idx) 3 pc') (hC : CV k.1.cls idx k' n c) (hR : Rm k k') (hr : k'.2.2.2.2.2.2.1 = 0 ∧ k'.2.2.2.2.2.2.2 = 0) (hk : kd sh a = some (c + 7, 0)) (hn : As.length = n) (hst : stOk st) (hM : Sp k' (.ref a :: As) sh M Qc) (hA : Aft k Q Qc pc' ls st sh n1 n2) {st0 : List Value} (hs : st0 = As.reverse ++ .ref a :: st) (hw : n1 ≤ k.2.2.2.2.2.2.1 ∧ n2 ≤ k.2.2.2.2.2.2.2) : WP k Q pc ls st0 sh M n1 n2 := by
  subst hs
  obtain ⟨rs, hk⟩ := kd_at hk
  intro p l e s m args below meth cd ad0 ad dC dI dA sz0 H locs la C h0 h1 h2 h3 h4 h5
  obtain ⟨hd, rfl⟩ := hd
  obtain ⟨hC, hl, hi, hse, T, N, hcl⟩ := hC
  have ht := C.2.2.2.2.2.2.1
  have hw2 := wsW_at (ad := ad) (dA := dA) (M := M) hk
  rw [cellW_obj] at hw2
  have hrun := va_runV (As := As.map (cv ad)) (rest := st.map (cv ad)) (b := adr ad a) (g := F0 m pc la ((As.reverse ++ .ref a :: st).map (cv ad))) ⟨C.1, C.2.1, C.2.2.1, C.2.2.2.2.2.1, ht⟩ (hM l ad dC dI dA sz0) ⟨callB_ok hC hR ht hl, ht _ hi, ht _ hse⟩ ⟨PcW_blind _ _ _ _ _ _ _ _, va_recv C.2.2.2.2.2.2.2.1 h2 hcl hw2, pre_ok (As := .ref a :: As) C h1 h2 h3 h4⟩ rfl (by rw [List.length_map]; exact hn) h5.1 (by simp [cv]) (lv_room (stOk_cv hst)) hd ⟨by rw [hr.1]; exact hw.1, by rw [hr.2]; exact hw.2⟩ (below := below) (e := e) (meth := meth) (p := p) (locs := locs) (cells := n1) (slots := n2)
  refine call_on (free := Aw sz0) hrun h4 ?_
  intro r sh' M' ad' H1 locs1 g1 g2 g3 g4 g5 g6
  rw [hr.1, hr.2]
  exact hA p l e s m args below meth cd ad0 ad dC dI dA sz0 la C h0 h1 h5 r sh' M' ad' H1 locs1 g1 g2 g3 g4 g5 g6
theorem r_callS (hd : Inx k pc (.invokestatic idx) 3 pc') (hC : CS k.1.cls idx k' n) (hR : Rm k k') (hr : k'.2.2.2.2.2.2.1 = 0 ∧ k'.2.2.2.2.2.2.2 = 0) (hn : As.length = n) (hst : stOk st) (hM : Sp k' As sh M Qc) (hA : Aft k Q Qc pc' ls st sh n1 n2) {st0 : List Value} (hs : st0 = As.reverse ++ st) (hw : n1 ≤ k.2.2.2.2.2.2.1 ∧ n2 ≤ k.2.2.2.2.2.2.2) : WP k Q pc ls st0 sh M n1 n2 := by
  subst hs
  intro p l e s m args below meth cd ad0 ad dC dI dA sz0 H locs la C h0 h1 h2 h3 h4 h5
  obtain ⟨hd, rfl⟩ := hd
  obtain ⟨hC, hl, hi⟩ := hC
  have ht := C.2.2.2.2.2.2.1
  have hrun := va_runS (As := As.map (cv ad)) (rest := st.map (cv ad)) (g := F0 m pc la ((As.reverse ++ st).map (cv ad))) ⟨C.1, C.2.1, C.2.2.1, C.2.2.2.2.2.1, ht⟩ (hM l ad dC dI dA sz0) ⟨callB_ok hC hR ht hl, ht _ hi⟩ ⟨PcW_blind _ _ _ _ _ _ _ _, pre_ok (As := As) C h1 h2 h3 h4⟩ rfl (by rw [List.length_map]; exact hn) h5.1 (by simp) (lv_room (stOk_cv hst)) hd ⟨by rw [hr.1]; exact hw.1, by rw [hr.2]; exact hw.2⟩ (below := below) (e := e) (meth := meth) (p := p) (locs := locs) (cells := n1) (slots := n2)
  refine call_on (free := Aw sz0) hrun h4 ?_
  intro r sh' M' ad' H1 locs1 g1 g2 g3 g4 g5 g6
  rw [hr.1, hr.2]
  exact hA p l e s m args below meth cd ad0 ad dC dI dA sz0 la C h0 h1 h5 r sh' M' ad' H1 locs1 g1 g2 g3 g4 g5 g6
end CL
