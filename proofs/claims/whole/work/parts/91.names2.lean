def GoN (ts : List Tk) (pa : PA) : Prop := pa.1 = 3 → ∃ t ∈ ts, t.1 = 26 ∧ pa.2.1 = t.2.1
theorem GoN.mo {us ts : List Tk} {pa : PA} (h : GoN us pa) (g : Sub us ts) : GoN ts pa := fun e => by
  obtain ⟨t, h1, h2⟩ := h e
  exact ⟨t, g t h1, h2⟩
theorem pHead_s {a : Nat} {ts us : List Tk} {h : List Nat × Nat × Nat} (e : pHead a ts = .inl (h, us)) : Sub us ts ∧ (a = 3 → ∃ t ∈ ts, t.1 = 26 ∧ h.1 = t.2.1) := by
  unfold pHead at e
  split at e
  · obtain ⟨n, t1, e1, e⟩ := pthen_el e
    cases e
    have := pWord_s e1
    exact ⟨this.2.2, fun _ => ⟨n, this.1, by omega, rfl⟩⟩
  · rename_i c
    split at e
    · obtain ⟨n, t1, e1, e⟩ := pthen_el e
      cases e
      exact ⟨(pWord_s e1).2.2, fun q => absurd q c⟩
    · cases e
      exact ⟨Sub.rf, fun q => absurd q c⟩
theorem pAct_s {ts us : List Tk} {pa : PA} (h : pAct ts = .inl (pa, us)) : Sub us ts ∧ GoN ts pa := by
  unfold pAct at h
  obtain ⟨a, t1, e1, h⟩ := pthen_el h
  obtain ⟨b, t2, e2, h⟩ := pthen_el h
  obtain ⟨c, t3, e3, h⟩ := pthen_el h
  obtain ⟨d, t4, e4, h⟩ := pthen_el h
  cases h
  have s1 := (pWord_s e1).2.2
  have s2 := pHead_s e2
  refine ⟨(((pWord_s e4).2.2.tr (pSums_s _ _ _ _ e3)).tr s2.1).tr s1, fun q => ?_⟩
  obtain ⟨t, h1, h2⟩ := s2.2 q
  exact ⟨t, s1 t h1, h2⟩
theorem pActs_s : ∀ (f : Nat) (ts us : List Tk) (l : List PA), pActs f ts = .inl (l, us) → Sub us ts ∧ ∀ pa ∈ l, GoN ts pa := by
  intro f
  induction f with
  | zero =>
    intro ts us l h
    rw [pActs] at h
    split at h
    · cases h; exact ⟨Sub.rf, fun pa hp => by cases hp⟩
    · cases h
  | succ f ih =>
    intro ts us l h
    rw [pActs] at h
    split at h
    · cases h; exact ⟨Sub.rf, fun pa hp => by cases hp⟩
    · obtain ⟨a, t1, e1, h⟩ := pthen_el h
      obtain ⟨b, t2, e2, h⟩ := pthen_el h
      cases h
      have s1 := pAct_s e1
      have s2 := ih _ _ _ e2
      refine ⟨s2.1.tr s1.1, fun pa hp => ?_⟩
      rcases List.mem_cons.mp hp with e | e
      · rw [e]; exact s1.2
      · exact (s2.2 pa e).mo s1.1
theorem pRule_s {ts us : List Tk} {pl : PL} (h : pRule ts = .inl (pl, us)) : Sub us ts ∧ ∀ pa ∈ pl.2, GoN ts pa := by
  unfold pRule at h
  obtain ⟨a, t1, e1, h⟩ := pthen_el h
  obtain ⟨b, t2, e2, h⟩ := pthen_el h
  obtain ⟨c, t3, e3, h⟩ := pthen_el h
  obtain ⟨d, t4, e4, h⟩ := pthen_el h
  obtain ⟨e, t5, e5, h⟩ := pthen_el h
  cases h
  have s3 := ((pWord_s e3).2.2.tr (pTests_s _ _ _ _ e2)).tr (pWord_s e1).2.2
  have s4 := pActs_s _ _ _ _ e4
  exact ⟨((pWord_s e5).2.2.tr s4.1).tr s3, fun pa hp => (s4.2 pa hp).mo s3⟩
theorem pRules_s : ∀ (f : Nat) (ts us : List Tk) (l : List PL), pRules f ts = .inl (l, us) → Sub us ts ∧ ∀ pl ∈ l, ∀ pa ∈ pl.2, GoN ts pa := by
  intro f
  induction f with
  | zero =>
    intro ts us l h
    rw [pRules] at h
    split at h
    · cases h
    · cases h; exact ⟨Sub.rf, fun pa hp => by cases hp⟩
  | succ f ih =>
    intro ts us l h
    rw [pRules] at h
    split at h
    · obtain ⟨a, t1, e1, h⟩ := pthen_el h
      obtain ⟨b, t2, e2, h⟩ := pthen_el h
      cases h
      have s1 := pRule_s e1
      have s2 := ih _ _ _ e2
      refine ⟨s2.1.tr s1.1, fun pl hp => ?_⟩
      rcases List.mem_cons.mp hp with e | e
      · rw [e]; exact s1.2
      · exact fun pa ha => (s2.2 pl e pa ha).mo s1.1
    · cases h; exact ⟨Sub.rf, fun pa hp => by cases hp⟩
/-- a state's name and the names that its acts go to are words of the text -/
def PsN (ts : List Tk) (ps : PS) : Prop := (∃ t ∈ ts, t.1 = 26 ∧ ps.1 = t.2.1) ∧ ∀ pl ∈ ps.2, ∀ pa ∈ pl.2, GoN ts pa
theorem PsN.mo {us ts : List Tk} {ps : PS} (h : PsN us ps) (g : Sub us ts) : PsN ts ps := by
  obtain ⟨⟨t, h1, h2⟩, h3⟩ := h
  exact ⟨⟨t, g t h1, h2⟩, fun pl hl pa ha => (h3 pl hl pa ha).mo g⟩
theorem pState_s {ts us : List Tk} {ps : PS} (h : pState ts = .inl (ps, us)) : Sub us ts ∧ PsN ts ps := by
  unfold pState at h
  obtain ⟨a, t1, e1, h⟩ := pthen_el h
  obtain ⟨b, t2, e2, h⟩ := pthen_el h
  obtain ⟨c, t3, e3, h⟩ := pthen_el h
  obtain ⟨d, t4, e4, h⟩ := pthen_el h
  obtain ⟨e, t5, e5, h⟩ := pthen_el h
  cases h
  have s1 := (pWord_s e1).2.2
  have s2 := pWord_s e2
  have s3 := ((pWord_s e3).2.2.tr s2.2.2).tr s1
  have s4 := pRules_s _ _ _ _ e4
  exact ⟨((pWord_s e5).2.2.tr s4.1).tr s3, ⟨b, s1 b s2.1, by omega, rfl⟩, fun pl hl pa hp => (s4.2 pl hl pa hp).mo s3⟩
theorem pStates_s : ∀ (f : Nat) (ts us : List Tk) (l : List PS), pStates f ts = .inl (l, us) → Sub us ts ∧ ∀ ps ∈ l, PsN ts ps := by
  intro f
  induction f with
  | zero =>
    intro ts us l h
    rw [pStates] at h
    split at h
    · cases h; exact ⟨Sub.rf, fun pa hp => by cases hp⟩
    · cases h
  | succ f ih =>
    intro ts us l h
    rw [pStates] at h
    split at h
    · cases h; exact ⟨Sub.rf, fun pa hp => by cases hp⟩
    · obtain ⟨a, t1, e1, h⟩ := pthen_el h
      obtain ⟨b, t2, e2, h⟩ := pthen_el h
      cases h
      have s1 := pState_s e1
      have s2 := ih _ _ _ e2
      refine ⟨s2.1.tr s1.1, fun ps hp => ?_⟩
      rcases List.mem_cons.mp hp with e | e
      · rw [e]; exact s1.2
      · exact (s2.2 ps e).mo s1.1
theorem pProg_s {ts us : List Tk} {l : List PS} (h : pProg ts = .inl (l, us)) : Sub us ts ∧ ∀ ps ∈ l, PsN ts ps := by
  unfold pProg at h
  obtain ⟨a, t1, e1, h⟩ := pthen_el h
  obtain ⟨b, t2, e2, h⟩ := pthen_el h
  cases h
  have s1 := pState_s e1
  have s2 := pStates_s _ _ _ _ e2
  refine ⟨s2.1.tr s1.1, fun ps hp => ?_⟩
  rcases List.mem_cons.mp hp with e | e
  · rw [e]; exact s1.2
  · exact (s2.2 ps e).mo s1.1
def NmW (ws : List Tk) : Prop := ∀ t ∈ ws, t.1 = 26 → NmO t.2.1
theorem tokAt_nm {T : Nat → Nat} {n p : Nat} (h : (tokAt T n p).1.1 = 26) : NmO (tokAt T n p).1.2.1 := by
  unfold tokAt at h ⊢
  by_cases c : isL (T p) = true
  · rw [if_pos c] at h ⊢
    dsimp only at h ⊢
    split at h
    · rename_i c2
      exact ⟨lets_dg, by rw [lets_len]; exact c2⟩
    · cases h
  · rw [if_neg c] at h ⊢
    by_cases c2 : isF (T p) = true
    · rw [if_pos c2] at h
      dsimp only at h
      split at h <;> cases h
    · rw [if_neg c2] at h
      have := sgK_in (c := T p)
      dsimp only at h
      omega
theorem scan_nm {T : Nat → Nat} {n : Nat} : ∀ (k p : Nat), NmW (scan T n k p) := by
  intro k
  induction k with
  | zero =>
    intro p t ht h
    rw [scan, List.mem_singleton] at ht
    rw [ht] at h; cases h
  | succ k ih =>
    intro p t ht h
    rw [scan] at ht
    split at ht
    · rw [List.mem_singleton] at ht
      rw [ht] at h; cases h
    · split at ht
      · rw [List.mem_singleton] at ht
        rw [ht] at h ⊢; exact tokAt_nm h
      · rcases List.mem_cons.mp ht with e | e
        · rw [e] at h ⊢; exact tokAt_nm h
        · exact ih _ t e h
/-! the names are judged: where the first fault is -/
def badN (o : Option Nat) (c : Nat) : Bool := match o with
  | some i => decide (i < c)
  | none => true
def jdg (nm : List (List Nat)) : List Tk → Nat → Nat → Option Nat
  | [], _, _ => none
  | t :: ts, pk, c =>
    if t.1 = 26 then
      (if pk = 0 then (if badN (fnd nm t.2.1 0) c = true then some t.2.2.2 else jdg nm ts t.1 (c + 1))
       else (if fnd nm t.2.1 0 = none then some t.2.2.2 else jdg nm ts t.1 c))
    else jdg nm ts t.1 c
/-- the states' names in the class's rows -/
def NmC (A : Mem) (P : Nat) (nm : List (List Nat)) : Prop := A.1 P 0 = nI nm.length ∧ nm.length ≤ 8 ∧ (∀ w ∈ nm, NmO w) ∧ ∀ j w, nm[j]? = some w → A.2 (P + 1) j = Int64.ofNat (pkN 32 w)
theorem NmC.st {A : Mem} {P : Nat} {nm : List (List Nat)} {x : List Nat} (h : NmC A P nm) (hx : NmO x) : R_X3_stateNamed P (Int64.ofNat (pkN 32 x)) A = some (oI (fnd nm x 0)) := by
  obtain ⟨h1, h2, h3, h4⟩ := h
  rw [stateNamed_C (nj := nm.map (fun w => Int64.ofNat (pkN 32 w))) (by rw [List.length_map]; exact h1) (by rw [List.length_map]; exact h2) (fun j v e => ?_), fndJ_32 hx nm 0 h3]
  rw [List.getElem?_map] at e
  cases hw : nm[j]? with
  | none => rw [hw] at e; cases e
  | some w =>
    rw [hw] at e
    have : Int64.ofNat (pkN 32 w) = v := Option.some.inj e
    rw [← this]; exact h4 j w hw
theorem oI_neg {o : Option Nat} (h : ∀ i, o = some i → i < 2 ^ 31) : (if 0 ≤ oI o then (0 : Int32) else (1 : Int32)) = if o = none then 1 else 0 := by
  cases o with
  | none => rfl
  | some i => rw [if_neg (show ¬ (some i = none) from fun q => by cases q)]; exact if_pos (nI_pos' (h i rfl))
theorem oI_bad {o : Option Nat} {c : Nat} (hc : c < 2 ^ 31) (h : ∀ i, o = some i → i < 2 ^ 31) : (if nI c ≤ oI o then (0 : Int32) else (1 : Int32)) = if badN o c = true then 1 else 0 := by
  cases o with
  | none =>
    rw [if_pos (show badN none c = true from rfl)]
    refine if_neg (fun q => ?_)
    have h1 : nI c ≤ -1 := q
    rw [Int32.le_iff_toInt_le, nI_toInt hc] at h1
    have h2 : (-1 : Int32).toInt = -1 := by decide
    omega
  | some i =>
    unfold badN
    by_cases c1 : i < c
    · rw [if_pos (decide_eq_true c1)]; exact if_neg (nI_ge c1 hc)
    · rw [if_neg (fun q => c1 (of_decide_eq_true q))]; exact if_pos (nI_le (by omega) (h i rfl))
