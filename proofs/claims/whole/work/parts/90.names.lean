/-! ===== names: where they come from, and whose they are ===== -/
def fndJ : List Int64 → Int64 → Nat → Option Nat
  | [], _, _ => none
  | w :: ws, x, i => if w = x then some i else fndJ ws x (i + 1)
def fnd : List (List Nat) → List Nat → Nat → Option Nat
  | [], _, _ => none
  | w :: ws, x, i => if w = x then some i else fnd ws x (i + 1)
def oI (o : Option Nat) : Int32 := match o with
  | some i => nI i
  | none => -1
/-- letters of a name -/
def NmO (l : List Nat) : Prop := dgs 27 l ∧ l.length ≤ 12
theorem fnd_lt {x : List Nat} : ∀ (nm : List (List Nat)) (i j : Nat), fnd nm x i = some j → i ≤ j ∧ j < i + nm.length ∧ nm[j - i]? = some x := by
  intro nm
  induction nm with
  | nil => intro i j h; cases h
  | cons w ws ih =>
    intro i j h
    rw [fnd] at h
    split at h
    · rename_i c
      cases h
      rw [Nat.sub_self, List.length_cons]
      exact ⟨Nat.le_refl _, by omega, by rw [c]; rfl⟩
    · have := ih (i + 1) j h
      rw [List.length_cons]
      refine ⟨by omega, by omega, ?_⟩
      rw [show j - i = (j - (i + 1)) + 1 by omega, List.getElem?_cons_succ]
      exact this.2.2
theorem fndJ_32 {x : List Nat} (hx : NmO x) : ∀ (nm : List (List Nat)) (i : Nat), (∀ w ∈ nm, NmO w) → fndJ (nm.map (fun w => Int64.ofNat (pkN 32 w))) (Int64.ofNat (pkN 32 x)) i = fnd nm x i := by
  intro nm
  induction nm with
  | nil => intro i _; rfl
  | cons w ws ih =>
    intro i h
    have hw := h w List.mem_cons_self
    rw [List.map_cons, fndJ, fnd, ih (i + 1) (fun w hw => h w (List.mem_cons_of_mem _ hw))]
    by_cases c : w = x
    · rw [if_pos c, if_pos (by rw [c])]
    · rw [if_neg c, if_neg (fun q => c ((pk32_eq hw.1 hw.2 hx.1 hx.2).mp q))]
theorem fndJ_27 {x : List Nat} (hx : NmO x) : ∀ (nm : List (List Nat)) (i : Nat), (∀ w ∈ nm, NmO w) → fndJ (nm.map (fun w => Int64.ofNat (pkN 27 w))) (Int64.ofNat (pkN 27 x)) i = fnd nm x i := by
  intro nm
  induction nm with
  | nil => intro i _; rfl
  | cons w ws ih =>
    intro i h
    have hw := h w List.mem_cons_self
    rw [List.map_cons, fndJ, fnd, ih (i + 1) (fun w hw => h w (List.mem_cons_of_mem _ hw))]
    by_cases c : w = x
    · rw [if_pos c, if_pos (by rw [c])]
    · rw [if_neg c, if_neg (fun q => c ((pk27_eq hw.1 hw.2 hx.1 hx.2).mp q))]
theorem stateNamed_C {P : Nat} {x : Int64} {A : Mem} {nj : List Int64} (h0 : A.1 P 0 = nI nj.length) (h8 : nj.length ≤ 8) (hn : ∀ j v, nj[j]? = some v → A.2 (P + 1) j = v) : R_X3_stateNamed P x A = some (oI (fndJ nj x 0)) := by
  have key : ∀ (k i f : Nat), i + k = nj.length → k < f → L_X3_stateNamed_2 P x f (nI i) A = some (match fndJ (nj.drop i) x i with | some j => .inl (nI j) | none => .inr ()) := by
    intro k
    induction k with
    | zero =>
      intro i f hi hf
      obtain ⟨f, rfl⟩ : ∃ m, f = m + 1 := ⟨f - 1, by omega⟩
      rw [L_X3_stateNamed_2, h0, if_pos (nI_le (by omega) (by omega)), List.drop_eq_nil_of_le (by omega)]
      rfl
    | succ k ih =>
      intro i f hi hf
      obtain ⟨f, rfl⟩ : ∃ m, f = m + 1 := ⟨f - 1, by omega⟩
      have hl : i < nj.length := by omega
      have e : nj[i]? = some nj[i] := List.getElem?_eq_getElem hl
      rw [L_X3_stateNamed_2, h0, if_neg (nI_ge hl (by omega)), if_neg (nleL (y := 8) 8 (by omega) rfl (by decide)), ck_nI (by omega) (by omega), nI_clamp (by omega), hn i _ e, List.drop_eq_getElem_cons hl, fndJ, nI_1]
      by_cases c : nj[i] = x
      · rw [if_pos c, if_pos ((lg_cmp_eq _ _).mpr c)]
      · rw [if_neg c, if_neg (fun q => c ((lg_cmp_eq _ _).mp q))]
        exact ih (i + 1) f (by omega) (by omega)
  unfold R_X3_stateNamed
  have := key nj.length 0 FUEL (by omega) (by unfold FUEL; omega)
  rw [show nI 0 = (0 : Int32) from rfl, List.drop_zero] at this
  rw [this]
  cases fndJ nj x 0 <;> rfl
/-! what a reading takes comes from the words -/
def Sub (us ts : List Tk) : Prop := ∀ t ∈ us, t ∈ ts
theorem Sub.tr {a b c : List Tk} (h : Sub a b) (g : Sub b c) : Sub a c := fun t ht => g t (h t ht)
theorem Sub.rf {a : List Tk} : Sub a a := fun _ h => h
theorem Sub.tl {a : List Tk} : Sub a.tail a := fun _ h => List.mem_of_mem_tail h
theorem pthen_el {α β : Type} {x : PR α} {f : α → List Tk → PR β} {r : β × List Tk} (h : pthen x f = .inl r) : ∃ a ts, x = .inl (a, ts) ∧ f a ts = .inl r := by
  cases x with
  | inl q => exact ⟨q.1, q.2, rfl, h⟩
  | inr p => cases h
theorem pWord_s {k1 k2 : Nat} {ts us : List Tk} {t : Tk} (h : pWord k1 k2 ts = .inl (t, us)) : t ∈ ts ∧ (k1 ≤ t.1 ∧ t.1 ≤ k2) ∧ Sub us ts := by
  cases ts with
  | nil => cases h
  | cons u l =>
    rw [pWord] at h
    split at h
    · rename_i c
      cases h
      exact ⟨List.mem_cons_self, c, fun t ht => List.mem_cons_of_mem _ ht⟩
    · cases h
theorem pMin_s : ∀ (ts : List Tk) (k : Nat) (s s' : Int32) (us : List Tk), pMin ts k s = .inl (s', us) → Sub us ts := by
  intro ts
  induction ts with
  | nil => intro k s s' us h; cases h
  | cons t ts ih =>
    intro k s s' us h
    rw [pMin] at h
    split at h
    · split at h
      · cases h
      · exact (ih _ _ _ _ h).tr (fun t ht => List.mem_cons_of_mem _ ht)
    · cases h; exact Sub.rf
theorem pTerm_s {j : Nat} {ts us : List Tk} {a : Tm} (h : pTerm j ts = .inl (a, us)) : Sub us ts := by
  unfold pTerm at h
  obtain ⟨s, t1, e1, h⟩ := pthen_el h
  obtain ⟨t, t2, e2, h⟩ := pthen_el h
  have s1 := (pWord_s e2).2.2.tr (pMin_s _ _ _ _ _ e1)
  split at h
  · cases h; exact s1
  · split at h
    · cases h; exact s1
    · split at h
      · cases h; exact s1
      · obtain ⟨u, t3, e3, h⟩ := pthen_el h
        split at h
        · cases h; exact (pWord_s e3).2.2.tr s1
        · cases h
theorem pSum_s : ∀ (f j : Nat) (ts us : List Tk) (a : Sm), pSum f j ts = .inl (a, us) → Sub us ts := by
  intro f
  induction f with
  | zero => intro j ts us a h; cases h
  | succ f ih =>
    intro j ts us a h
    rw [pSum] at h
    obtain ⟨t, t1, e1, h⟩ := pthen_el h
    split at h
    · obtain ⟨l, t2, e2, h⟩ := pthen_el h
      cases h
      exact ((ih _ _ _ _ e2).tr Sub.tl).tr (pTerm_s e1)
    · cases h; exact pTerm_s e1
theorem pTest_s {ts us : List Tk} {a : Ts} (h : pTest ts = .inl (a, us)) : Sub us ts := by
  unfold pTest at h
  obtain ⟨s, t1, e1, h⟩ := pthen_el h
  obtain ⟨t, t2, e2, h⟩ := pthen_el h
  obtain ⟨u, t3, e3, h⟩ := pthen_el h
  cases h
  exact ((pSum_s _ _ _ _ _ e3).tr (pWord_s e2).2.2).tr (pSum_s _ _ _ _ _ e1)
theorem pTests_s : ∀ (f : Nat) (ts us : List Tk) (a : List Ts), pTests f ts = .inl (a, us) → Sub us ts := by
  intro f
  induction f with
  | zero => intro ts us a h; cases h; exact Sub.rf
  | succ f ih =>
    intro ts us a h
    rw [pTests] at h
    obtain ⟨t, t1, e1, h⟩ := pthen_el h
    split at h
    · obtain ⟨l, t2, e2, h⟩ := pthen_el h
      cases h
      exact ((ih _ _ _ e2).tr Sub.tl).tr (pTest_s e1)
    · cases h; exact pTest_s e1
theorem pSums_s : ∀ (f : Nat) (ts us : List Tk) (a : List Sm), pSums f ts = .inl (a, us) → Sub us ts := by
  intro f
  induction f with
  | zero => intro ts us a h; cases h; exact Sub.rf
  | succ f ih =>
    intro ts us a h
    rw [pSums] at h
    obtain ⟨t, t1, e1, h⟩ := pthen_el h
    obtain ⟨l, t2, e2, h⟩ := pthen_el h
    cases h
    exact (ih _ _ _ e2).tr (pSum_s _ _ _ _ _ e1)
