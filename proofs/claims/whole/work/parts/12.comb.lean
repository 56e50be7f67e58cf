def ck {β : Type} (i : Int32) (n : Nat) (x : Option β) : Option β := if 0 ≤ i ∧ i.toNatClampNeg < n then x else none
def cz {β : Type} (v : Int32) (x : Option β) : Option β := if v = 0 ∨ v = 1 then x else none
def cd {β : Type} (v : Int32) (x : Option β) : Option β := if v = 0 then none else x
theorem ck_in {i : Int32} {n : Nat} (h : 0 ≤ i ∧ i.toNatClampNeg < n) : vp_in i n := fun q => q.elim (fun a => i_nlt h.1 a) (fun a => Nat.not_lt.mpr a h.2)
theorem ck_el {β : Type} {i : Int32} {n : Nat} {x : Option β} {r : β} (h : ck i n x = some r) : vp_in i n ∧ x = some r := by
  unfold ck at h
  by_cases c : 0 ≤ i ∧ i.toNatClampNeg < n
  · rw [if_pos c] at h; exact ⟨ck_in c, h⟩
  · rw [if_neg c] at h; cases h
theorem ck_elK {β γ : Type} {i : Int32} {n : Nat} {x : Option β} {K : β → Option γ} {r : γ} (h : (ck i n x).bind K = some r) : vp_in i n ∧ x.bind K = some r := by
  unfold ck at h
  by_cases c : 0 ≤ i ∧ i.toNatClampNeg < n
  · rw [if_pos c] at h; exact ⟨ck_in c, h⟩
  · rw [if_neg c] at h; cases h
theorem cz_el {β : Type} {v : Int32} {x : Option β} {r : β} (h : cz v x = some r) : (v = 0 ∨ v = 1) ∧ x = some r := by
  unfold cz at h
  by_cases c : v = 0 ∨ v = 1
  · rw [if_pos c] at h; exact ⟨c, h⟩
  · rw [if_neg c] at h; cases h
theorem cz_elK {β γ : Type} {v : Int32} {x : Option β} {K : β → Option γ} {r : γ} (h : (cz v x).bind K = some r) : (v = 0 ∨ v = 1) ∧ x.bind K = some r := by
  unfold cz at h
  by_cases c : v = 0 ∨ v = 1
  · rw [if_pos c] at h; exact ⟨c, h⟩
  · rw [if_neg c] at h; cases h
theorem cd_el {β : Type} {v : Int32} {x : Option β} {r : β} (h : cd v x = some r) : (¬ v = 0) ∧ x = some r := by
  unfold cd at h
  by_cases c : v = 0
  · rw [if_pos c] at h; cases h
  · rw [if_neg c] at h; exact ⟨c, h⟩
theorem cd_elK {β γ : Type} {v : Int32} {x : Option β} {K : β → Option γ} {r : γ} (h : (cd v x).bind K = some r) : (¬ v = 0) ∧ x.bind K = some r := by
  unfold cd at h
  by_cases c : v = 0
  · rw [if_pos c] at h; cases h
  · rw [if_neg c] at h; exact ⟨c, h⟩
def bd1 {α0 β : Type} (q : α0) (f : α0 → β) : β := f q
def bnd1 {α0 β : Type} (x : Option α0) (f : α0 → Option β) : Option β := x.bind (fun q => f q)
def br1 {ρ α0 : Type} (x : Option (ρ ⊕ α0)) (f : α0 → Option ρ) : Option ρ := x.bind (fun z => z.elim some (fun q => f q))
def bs1 {ρ σ α0 : Type} (x : Option (ρ ⊕ α0)) (f : α0 → Option (ρ ⊕ σ)) : Option (ρ ⊕ σ) := x.bind (fun z => z.elim (fun r => some (.inl r)) (fun q => f q))
theorem bd1_el {α0 β : Type} {q : α0} {f : α0 → β} {r : β} (h : bd1 q f = r) : ∃ a0, q = a0 ∧ f a0 = r := ⟨q, rfl, h⟩
theorem bd1_elK {α0 β γ : Type} {q : α0} {f : α0 → Option β} {K : β → Option γ} {r : γ} (h : (bd1 q f).bind K = some r) : ∃ a0, q = a0 ∧ (f a0).bind K = some r := ⟨q, rfl, h⟩
theorem bnd1_el {α0 β : Type} {x : Option α0} {f : α0 → Option β} {r : β} (h : bnd1 x f = some r) : ∃ a0, x = some a0 ∧ f a0 = some r := by
  cases x with
  | none => cases h
  | some q => exact ⟨q, rfl, h⟩
theorem bnd1_elK {α0 β γ : Type} {x : Option α0} {f : α0 → Option β} {K : β → Option γ} {r : γ} (h : (bnd1 x f).bind K = some r) : ∃ a0, x = some a0 ∧ (f a0).bind K = some r := by
  cases x with
  | none => cases h
  | some q => exact ⟨q, rfl, h⟩
theorem bnd1_in {α0 β : Type} {x : Option α0} {f : α0 → Option β} {r : β} (h : bnd1 x f = some r) : ∃ K : α0 → Option β, (∀ a0, K a0 = f a0) ∧ x.bind K = some r := ⟨fun q => f q, fun _ => rfl, h⟩
theorem bnd1_inK {α0 β γ : Type} {x : Option α0} {f : α0 → Option β} {K : β → Option γ} {r : γ} (h : (bnd1 x f).bind K = some r) : ∃ K1 : α0 → Option γ, (∀ a0, K1 a0 = (f a0).bind K) ∧ x.bind K1 = some r := ⟨fun q => (f q).bind K, fun _ => rfl, by cases x <;> exact h⟩
theorem br1_in {ρ α0 : Type} {x : Option (ρ ⊕ α0)} {f : α0 → Option ρ} {r : ρ} (h : br1 x f = some r) : ∃ K : ρ ⊕ α0 → Option ρ, (∀ a0, K (.inr a0) = f a0) ∧ (∀ z, K (.inl z) = some z) ∧ x.bind K = some r := ⟨fun z => z.elim some (fun (q : α0) => f q), fun _ => rfl, fun _ => rfl, h⟩
theorem bs1_in {ρ σ α0 : Type} {x : Option (ρ ⊕ α0)} {f : α0 → Option (ρ ⊕ σ)} {r : ρ ⊕ σ} (h : bs1 x f = some r) : ∃ K : ρ ⊕ α0 → Option (ρ ⊕ σ), (∀ a0, K (.inr a0) = f a0) ∧ (∀ z, K (.inl z) = some (.inl z)) ∧ x.bind K = some r := ⟨fun z => z.elim (fun r => some (.inl r)) (fun (q : α0) => f q), fun _ => rfl, fun _ => rfl, h⟩
theorem bs1_inK {ρ σ γ α0 : Type} {x : Option (ρ ⊕ α0)} {f : α0 → Option (ρ ⊕ σ)} {K : ρ ⊕ σ → Option γ} {r : γ} (h : (bs1 x f).bind K = some r) : ∃ K1 : ρ ⊕ α0 → Option γ, (∀ a0, K1 (.inr a0) = (f a0).bind K) ∧ (∀ z, K1 (.inl z) = K (.inl z)) ∧ x.bind K1 = some r := ⟨fun z => z.elim (fun r => K (.inl r)) (fun q => (f q).bind K), fun _ => rfl, fun _ => rfl, by cases x with
  | none => exact h
  | some z => cases z <;> exact h⟩
theorem br1_el {ρ α0 : Type} {x : Option (ρ ⊕ α0)} {f : α0 → Option ρ} {r : ρ} (h : br1 x f = some r) : ∃ q, x = some q ∧ (∀ z, q = .inl z → some z = some r) ∧ (∀ a0, q = .inr a0 → f a0 = some r) := by
  cases x with
  | none => cases h
  | some z =>
    refine ⟨z, rfl, ?_, ?_⟩
    · intro w e; subst e; exact h
    · intro a0 e; subst e; exact h
theorem bs1_el {ρ σ α0 : Type} {x : Option (ρ ⊕ α0)} {f : α0 → Option (ρ ⊕ σ)} {r : ρ ⊕ σ} (h : bs1 x f = some r) : ∃ q, x = some q ∧ (∀ z, q = .inl z → some (Sum.inl z) = some r) ∧ (∀ a0, q = .inr a0 → f a0 = some r) := by
  cases x with
  | none => cases h
  | some z =>
    refine ⟨z, rfl, ?_, ?_⟩
    · intro w e; subst e; exact h
    · intro a0 e; subst e; exact h
theorem bs1_elK {ρ σ γ α0 : Type} {x : Option (ρ ⊕ α0)} {f : α0 → Option (ρ ⊕ σ)} {K : ρ ⊕ σ → Option γ} {r : γ} (h : (bs1 x f).bind K = some r) : ∃ q, x = some q ∧ (∀ z, q = .inl z → K (.inl z) = some r) ∧ (∀ a0, q = .inr a0 → (f a0).bind K = some r) := by
  cases x with
  | none => cases h
  | some z =>
    refine ⟨z, rfl, ?_, ?_⟩
    · intro w e; subst e; exact h
    · intro a0 e; subst e; exact h
def bd2 {α0 α1 β : Type} (q : (α0 × α1)) (f : α0 → α1 → β) : β := f q.1 q.2
def bnd2 {α0 α1 β : Type} (x : Option (α0 × α1)) (f : α0 → α1 → Option β) : Option β := x.bind (fun q => f q.1 q.2)
def br2 {ρ α0 α1 : Type} (x : Option (ρ ⊕ (α0 × α1))) (f : α0 → α1 → Option ρ) : Option ρ := x.bind (fun z => z.elim some (fun q => f q.1 q.2))
def bs2 {ρ σ α0 α1 : Type} (x : Option (ρ ⊕ (α0 × α1))) (f : α0 → α1 → Option (ρ ⊕ σ)) : Option (ρ ⊕ σ) := x.bind (fun z => z.elim (fun r => some (.inl r)) (fun q => f q.1 q.2))
theorem bd2_el {α0 α1 β : Type} {q : (α0 × α1)} {f : α0 → α1 → β} {r : β} (h : bd2 q f = r) : ∃ a0 a1, q = (a0, a1) ∧ f a0 a1 = r := ⟨q.1, q.2, rfl, h⟩
theorem bd2_elK {α0 α1 β γ : Type} {q : (α0 × α1)} {f : α0 → α1 → Option β} {K : β → Option γ} {r : γ} (h : (bd2 q f).bind K = some r) : ∃ a0 a1, q = (a0, a1) ∧ (f a0 a1).bind K = some r := ⟨q.1, q.2, rfl, h⟩
theorem bnd2_el {α0 α1 β : Type} {x : Option (α0 × α1)} {f : α0 → α1 → Option β} {r : β} (h : bnd2 x f = some r) : ∃ a0 a1, x = some (a0, a1) ∧ f a0 a1 = some r := by
  cases x with
  | none => cases h
  | some q => exact ⟨q.1, q.2, rfl, h⟩
theorem bnd2_elK {α0 α1 β γ : Type} {x : Option (α0 × α1)} {f : α0 → α1 → Option β} {K : β → Option γ} {r : γ} (h : (bnd2 x f).bind K = some r) : ∃ a0 a1, x = some (a0, a1) ∧ (f a0 a1).bind K = some r := by
  cases x with
  | none => cases h
  | some q => exact ⟨q.1, q.2, rfl, h⟩
theorem bnd2_in {α0 α1 β : Type} {x : Option (α0 × α1)} {f : α0 → α1 → Option β} {r : β} (h : bnd2 x f = some r) : ∃ K : (α0 × α1) → Option β, (∀ a0 a1, K (a0, a1) = f a0 a1) ∧ x.bind K = some r := ⟨fun q => f q.1 q.2, fun _ _ => rfl, h⟩
theorem bnd2_inK {α0 α1 β γ : Type} {x : Option (α0 × α1)} {f : α0 → α1 → Option β} {K : β → Option γ} {r : γ} (h : (bnd2 x f).bind K = some r) : ∃ K1 : (α0 × α1) → Option γ, (∀ a0 a1, K1 (a0, a1) = (f a0 a1).bind K) ∧ x.bind K1 = some r := ⟨fun q => (f q.1 q.2).bind K, fun _ _ => rfl, by cases x <;> exact h⟩
theorem br2_in {ρ α0 α1 : Type} {x : Option (ρ ⊕ (α0 × α1))} {f : α0 → α1 → Option ρ} {r : ρ} (h : br2 x f = some r) : ∃ K : ρ ⊕ (α0 × α1) → Option ρ, (∀ a0 a1, K (.inr (a0, a1)) = f a0 a1) ∧ (∀ z, K (.inl z) = some z) ∧ x.bind K = some r := ⟨fun z => z.elim some (fun (q : (α0 × α1)) => f q.1 q.2), fun _ _ => rfl, fun _ => rfl, h⟩
theorem bs2_in {ρ σ α0 α1 : Type} {x : Option (ρ ⊕ (α0 × α1))} {f : α0 → α1 → Option (ρ ⊕ σ)} {r : ρ ⊕ σ} (h : bs2 x f = some r) : ∃ K : ρ ⊕ (α0 × α1) → Option (ρ ⊕ σ), (∀ a0 a1, K (.inr (a0, a1)) = f a0 a1) ∧ (∀ z, K (.inl z) = some (.inl z)) ∧ x.bind K = some r := ⟨fun z => z.elim (fun r => some (.inl r)) (fun (q : (α0 × α1)) => f q.1 q.2), fun _ _ => rfl, fun _ => rfl, h⟩
theorem bs2_inK {ρ σ γ α0 α1 : Type} {x : Option (ρ ⊕ (α0 × α1))} {f : α0 → α1 → Option (ρ ⊕ σ)} {K : ρ ⊕ σ → Option γ} {r : γ} (h : (bs2 x f).bind K = some r) : ∃ K1 : ρ ⊕ (α0 × α1) → Option γ, (∀ a0 a1, K1 (.inr (a0, a1)) = (f a0 a1).bind K) ∧ (∀ z, K1 (.inl z) = K (.inl z)) ∧ x.bind K1 = some r := ⟨fun z => z.elim (fun r => K (.inl r)) (fun q => (f q.1 q.2).bind K), fun _ _ => rfl, fun _ => rfl, by cases x with
  | none => exact h
  | some z => cases z <;> exact h⟩
theorem br2_el {ρ α0 α1 : Type} {x : Option (ρ ⊕ (α0 × α1))} {f : α0 → α1 → Option ρ} {r : ρ} (h : br2 x f = some r) : ∃ q, x = some q ∧ (∀ z, q = .inl z → some z = some r) ∧ (∀ a0 a1, q = .inr (a0, a1) → f a0 a1 = some r) := by
  cases x with
  | none => cases h
  | some z =>
    refine ⟨z, rfl, ?_, ?_⟩
    · intro w e; subst e; exact h
    · intro a0 a1 e; subst e; exact h
theorem bs2_el {ρ σ α0 α1 : Type} {x : Option (ρ ⊕ (α0 × α1))} {f : α0 → α1 → Option (ρ ⊕ σ)} {r : ρ ⊕ σ} (h : bs2 x f = some r) : ∃ q, x = some q ∧ (∀ z, q = .inl z → some (Sum.inl z) = some r) ∧ (∀ a0 a1, q = .inr (a0, a1) → f a0 a1 = some r) := by
  cases x with
  | none => cases h
  | some z =>
    refine ⟨z, rfl, ?_, ?_⟩
    · intro w e; subst e; exact h
    · intro a0 a1 e; subst e; exact h
theorem bs2_elK {ρ σ γ α0 α1 : Type} {x : Option (ρ ⊕ (α0 × α1))} {f : α0 → α1 → Option (ρ ⊕ σ)} {K : ρ ⊕ σ → Option γ} {r : γ} (h : (bs2 x f).bind K = some r) : ∃ q, x = some q ∧ (∀ z, q = .inl z → K (.inl z) = some r) ∧ (∀ a0 a1, q = .inr (a0, a1) → (f a0 a1).bind K = some r) := by
  cases x with
  | none => cases h
  | some z =>
    refine ⟨z, rfl, ?_, ?_⟩
    · intro w e; subst e; exact h
    · intro a0 a1 e; subst e; exact h
theorem pe2 {α0 α1 : Type} {a0 b0 : α0} {a1 b1 : α1} (h : (a0, a1) = (b0, b1)) : a0 = b0 ∧ a1 = b1 := by cases h; exact ⟨rfl, rfl⟩
theorem ps2 {α0 α1 : Type} {a0 b0 : α0} {a1 b1 : α1} (h : some (a0, a1) = some (b0, b1)) : a0 = b0 ∧ a1 = b1 := by cases h; exact ⟨rfl, rfl⟩
def bd3 {α0 α1 α2 β : Type} (q : (α0 × α1 × α2)) (f : α0 → α1 → α2 → β) : β := f q.1 q.2.1 q.2.2
def bnd3 {α0 α1 α2 β : Type} (x : Option (α0 × α1 × α2)) (f : α0 → α1 → α2 → Option β) : Option β := x.bind (fun q => f q.1 q.2.1 q.2.2)
def br3 {ρ α0 α1 α2 : Type} (x : Option (ρ ⊕ (α0 × α1 × α2))) (f : α0 → α1 → α2 → Option ρ) : Option ρ := x.bind (fun z => z.elim some (fun q => f q.1 q.2.1 q.2.2))
def bs3 {ρ σ α0 α1 α2 : Type} (x : Option (ρ ⊕ (α0 × α1 × α2))) (f : α0 → α1 → α2 → Option (ρ ⊕ σ)) : Option (ρ ⊕ σ) := x.bind (fun z => z.elim (fun r => some (.inl r)) (fun q => f q.1 q.2.1 q.2.2))
theorem bd3_el {α0 α1 α2 β : Type} {q : (α0 × α1 × α2)} {f : α0 → α1 → α2 → β} {r : β} (h : bd3 q f = r) : ∃ a0 a1 a2, q = (a0, a1, a2) ∧ f a0 a1 a2 = r := ⟨q.1, q.2.1, q.2.2, rfl, h⟩
theorem bd3_elK {α0 α1 α2 β γ : Type} {q : (α0 × α1 × α2)} {f : α0 → α1 → α2 → Option β} {K : β → Option γ} {r : γ} (h : (bd3 q f).bind K = some r) : ∃ a0 a1 a2, q = (a0, a1, a2) ∧ (f a0 a1 a2).bind K = some r := ⟨q.1, q.2.1, q.2.2, rfl, h⟩
theorem bnd3_el {α0 α1 α2 β : Type} {x : Option (α0 × α1 × α2)} {f : α0 → α1 → α2 → Option β} {r : β} (h : bnd3 x f = some r) : ∃ a0 a1 a2, x = some (a0, a1, a2) ∧ f a0 a1 a2 = some r := by
  cases x with
  | none => cases h
  | some q => exact ⟨q.1, q.2.1, q.2.2, rfl, h⟩
theorem bnd3_elK {α0 α1 α2 β γ : Type} {x : Option (α0 × α1 × α2)} {f : α0 → α1 → α2 → Option β} {K : β → Option γ} {r : γ} (h : (bnd3 x f).bind K = some r) : ∃ a0 a1 a2, x = some (a0, a1, a2) ∧ (f a0 a1 a2).bind K = some r := by
  cases x with
  | none => cases h
  | some q => exact ⟨q.1, q.2.1, q.2.2, rfl, h⟩
theorem bnd3_in {α0 α1 α2 β : Type} {x : Option (α0 × α1 × α2)} {f : α0 → α1 → α2 → Option β} {r : β} (h : bnd3 x f = some r) : ∃ K : (α0 × α1 × α2) → Option β, (∀ a0 a1 a2, K (a0, a1, a2) = f a0 a1 a2) ∧ x.bind K = some r := ⟨fun q => f q.1 q.2.1 q.2.2, fun _ _ _ => rfl, h⟩
theorem bnd3_inK {α0 α1 α2 β γ : Type} {x : Option (α0 × α1 × α2)} {f : α0 → α1 → α2 → Option β} {K : β → Option γ} {r : γ} (h : (bnd3 x f).bind K = some r) : ∃ K1 : (α0 × α1 × α2) → Option γ, (∀ a0 a1 a2, K1 (a0, a1, a2) = (f a0 a1 a2).bind K) ∧ x.bind K1 = some r := ⟨fun q => (f q.1 q.2.1 q.2.2).bind K, fun _ _ _ => rfl, by cases x <;> exact h⟩
theorem br3_in {ρ α0 α1 α2 : Type} {x : Option (ρ ⊕ (α0 × α1 × α2))} {f : α0 → α1 → α2 → Option ρ} {r : ρ} (h : br3 x f = some r) : ∃ K : ρ ⊕ (α0 × α1 × α2) → Option ρ, (∀ a0 a1 a2, K (.inr (a0, a1, a2)) = f a0 a1 a2) ∧ (∀ z, K (.inl z) = some z) ∧ x.bind K = some r := ⟨fun z => z.elim some (fun (q : (α0 × α1 × α2)) => f q.1 q.2.1 q.2.2), fun _ _ _ => rfl, fun _ => rfl, h⟩
theorem bs3_in {ρ σ α0 α1 α2 : Type} {x : Option (ρ ⊕ (α0 × α1 × α2))} {f : α0 → α1 → α2 → Option (ρ ⊕ σ)} {r : ρ ⊕ σ} (h : bs3 x f = some r) : ∃ K : ρ ⊕ (α0 × α1 × α2) → Option (ρ ⊕ σ), (∀ a0 a1 a2, K (.inr (a0, a1, a2)) = f a0 a1 a2) ∧ (∀ z, K (.inl z) = some (.inl z)) ∧ x.bind K = some r := ⟨fun z => z.elim (fun r => some (.inl r)) (fun (q : (α0 × α1 × α2)) => f q.1 q.2.1 q.2.2), fun _ _ _ => rfl, fun _ => rfl, h⟩
theorem bs3_inK {ρ σ γ α0 α1 α2 : Type} {x : Option (ρ ⊕ (α0 × α1 × α2))} {f : α0 → α1 → α2 → Option (ρ ⊕ σ)} {K : ρ ⊕ σ → Option γ} {r : γ} (h : (bs3 x f).bind K = some r) : ∃ K1 : ρ ⊕ (α0 × α1 × α2) → Option γ, (∀ a0 a1 a2, K1 (.inr (a0, a1, a2)) = (f a0 a1 a2).bind K) ∧ (∀ z, K1 (.inl z) = K (.inl z)) ∧ x.bind K1 = some r := ⟨fun z => z.elim (fun r => K (.inl r)) (fun q => (f q.1 q.2.1 q.2.2).bind K), fun _ _ _ => rfl, fun _ => rfl, by cases x with
  | none => exact h
  | some z => cases z <;> exact h⟩
theorem br3_el {ρ α0 α1 α2 : Type} {x : Option (ρ ⊕ (α0 × α1 × α2))} {f : α0 → α1 → α2 → Option ρ} {r : ρ} (h : br3 x f = some r) : ∃ q, x = some q ∧ (∀ z, q = .inl z → some z = some r) ∧ (∀ a0 a1 a2, q = .inr (a0, a1, a2) → f a0 a1 a2 = some r) := by
  cases x with
  | none => cases h
  | some z =>
    refine ⟨z, rfl, ?_, ?_⟩
    · intro w e; subst e; exact h
    · intro a0 a1 a2 e; subst e; exact h
theorem bs3_el {ρ σ α0 α1 α2 : Type} {x : Option (ρ ⊕ (α0 × α1 × α2))} {f : α0 → α1 → α2 → Option (ρ ⊕ σ)} {r : ρ ⊕ σ} (h : bs3 x f = some r) : ∃ q, x = some q ∧ (∀ z, q = .inl z → some (Sum.inl z) = some r) ∧ (∀ a0 a1 a2, q = .inr (a0, a1, a2) → f a0 a1 a2 = some r) := by
  cases x with
  | none => cases h
  | some z =>
    refine ⟨z, rfl, ?_, ?_⟩
    · intro w e; subst e; exact h
    · intro a0 a1 a2 e; subst e; exact h
theorem bs3_elK {ρ σ γ α0 α1 α2 : Type} {x : Option (ρ ⊕ (α0 × α1 × α2))} {f : α0 → α1 → α2 → Option (ρ ⊕ σ)} {K : ρ ⊕ σ → Option γ} {r : γ} (h : (bs3 x f).bind K = some r) : ∃ q, x = some q ∧ (∀ z, q = .inl z → K (.inl z) = some r) ∧ (∀ a0 a1 a2, q = .inr (a0, a1, a2) → (f a0 a1 a2).bind K = some r) := by
  cases x with
  | none => cases h
  | some z =>
    refine ⟨z, rfl, ?_, ?_⟩
    · intro w e; subst e; exact h
    · intro a0 a1 a2 e; subst e; exact h
theorem pe3 {α0 α1 α2 : Type} {a0 b0 : α0} {a1 b1 : α1} {a2 b2 : α2} (h : (a0, a1, a2) = (b0, b1, b2)) : a0 = b0 ∧ a1 = b1 ∧ a2 = b2 := by cases h; exact ⟨rfl, rfl, rfl⟩
theorem ps3 {α0 α1 α2 : Type} {a0 b0 : α0} {a1 b1 : α1} {a2 b2 : α2} (h : some (a0, a1, a2) = some (b0, b1, b2)) : a0 = b0 ∧ a1 = b1 ∧ a2 = b2 := by cases h; exact ⟨rfl, rfl, rfl⟩
def bd4 {α0 α1 α2 α3 β : Type} (q : (α0 × α1 × α2 × α3)) (f : α0 → α1 → α2 → α3 → β) : β := f q.1 q.2.1 q.2.2.1 q.2.2.2
def bnd4 {α0 α1 α2 α3 β : Type} (x : Option (α0 × α1 × α2 × α3)) (f : α0 → α1 → α2 → α3 → Option β) : Option β := x.bind (fun q => f q.1 q.2.1 q.2.2.1 q.2.2.2)
def br4 {ρ α0 α1 α2 α3 : Type} (x : Option (ρ ⊕ (α0 × α1 × α2 × α3))) (f : α0 → α1 → α2 → α3 → Option ρ) : Option ρ := x.bind (fun z => z.elim some (fun q => f q.1 q.2.1 q.2.2.1 q.2.2.2))
def bs4 {ρ σ α0 α1 α2 α3 : Type} (x : Option (ρ ⊕ (α0 × α1 × α2 × α3))) (f : α0 → α1 → α2 → α3 → Option (ρ ⊕ σ)) : Option (ρ ⊕ σ) := x.bind (fun z => z.elim (fun r => some (.inl r)) (fun q => f q.1 q.2.1 q.2.2.1 q.2.2.2))
theorem bd4_el {α0 α1 α2 α3 β : Type} {q : (α0 × α1 × α2 × α3)} {f : α0 → α1 → α2 → α3 → β} {r : β} (h : bd4 q f = r) : ∃ a0 a1 a2 a3, q = (a0, a1, a2, a3) ∧ f a0 a1 a2 a3 = r := ⟨q.1, q.2.1, q.2.2.1, q.2.2.2, rfl, h⟩
theorem bd4_elK {α0 α1 α2 α3 β γ : Type} {q : (α0 × α1 × α2 × α3)} {f : α0 → α1 → α2 → α3 → Option β} {K : β → Option γ} {r : γ} (h : (bd4 q f).bind K = some r) : ∃ a0 a1 a2 a3, q = (a0, a1, a2, a3) ∧ (f a0 a1 a2 a3).bind K = some r := ⟨q.1, q.2.1, q.2.2.1, q.2.2.2, rfl, h⟩
theorem bnd4_el {α0 α1 α2 α3 β : Type} {x : Option (α0 × α1 × α2 × α3)} {f : α0 → α1 → α2 → α3 → Option β} {r : β} (h : bnd4 x f = some r) : ∃ a0 a1 a2 a3, x = some (a0, a1, a2, a3) ∧ f a0 a1 a2 a3 = some r := by
  cases x with
  | none => cases h
  | some q => exact ⟨q.1, q.2.1, q.2.2.1, q.2.2.2, rfl, h⟩
theorem bnd4_elK {α0 α1 α2 α3 β γ : Type} {x : Option (α0 × α1 × α2 × α3)} {f : α0 → α1 → α2 → α3 → Option β} {K : β → Option γ} {r : γ} (h : (bnd4 x f).bind K = some r) : ∃ a0 a1 a2 a3, x = some (a0, a1, a2, a3) ∧ (f a0 a1 a2 a3).bind K = some r := by
  cases x with
  | none => cases h
  | some q => exact ⟨q.1, q.2.1, q.2.2.1, q.2.2.2, rfl, h⟩
theorem bnd4_in {α0 α1 α2 α3 β : Type} {x : Option (α0 × α1 × α2 × α3)} {f : α0 → α1 → α2 → α3 → Option β} {r : β} (h : bnd4 x f = some r) : ∃ K : (α0 × α1 × α2 × α3) → Option β, (∀ a0 a1 a2 a3, K (a0, a1, a2, a3) = f a0 a1 a2 a3) ∧ x.bind K = some r := ⟨fun q => f q.1 q.2.1 q.2.2.1 q.2.2.2, fun _ _ _ _ => rfl, h⟩
theorem bnd4_inK {α0 α1 α2 α3 β γ : Type} {x : Option (α0 × α1 × α2 × α3)} {f : α0 → α1 → α2 → α3 → Option β} {K : β → Option γ} {r : γ} (h : (bnd4 x f).bind K = some r) : ∃ K1 : (α0 × α1 × α2 × α3) → Option γ, (∀ a0 a1 a2 a3, K1 (a0, a1, a2, a3) = (f a0 a1 a2 a3).bind K) ∧ x.bind K1 = some r := ⟨fun q => (f q.1 q.2.1 q.2.2.1 q.2.2.2).bind K, fun _ _ _ _ => rfl, by cases x <;> exact h⟩
theorem br4_in {ρ α0 α1 α2 α3 : Type} {x : Option (ρ ⊕ (α0 × α1 × α2 × α3))} {f : α0 → α1 → α2 → α3 → Option ρ} {r : ρ} (h : br4 x f = some r) : ∃ K : ρ ⊕ (α0 × α1 × α2 × α3) → Option ρ, (∀ a0 a1 a2 a3, K (.inr (a0, a1, a2, a3)) = f a0 a1 a2 a3) ∧ (∀ z, K (.inl z) = some z) ∧ x.bind K = some r := ⟨fun z => z.elim some (fun (q : (α0 × α1 × α2 × α3)) => f q.1 q.2.1 q.2.2.1 q.2.2.2), fun _ _ _ _ => rfl, fun _ => rfl, h⟩
theorem bs4_in {ρ σ α0 α1 α2 α3 : Type} {x : Option (ρ ⊕ (α0 × α1 × α2 × α3))} {f : α0 → α1 → α2 → α3 → Option (ρ ⊕ σ)} {r : ρ ⊕ σ} (h : bs4 x f = some r) : ∃ K : ρ ⊕ (α0 × α1 × α2 × α3) → Option (ρ ⊕ σ), (∀ a0 a1 a2 a3, K (.inr (a0, a1, a2, a3)) = f a0 a1 a2 a3) ∧ (∀ z, K (.inl z) = some (.inl z)) ∧ x.bind K = some r := ⟨fun z => z.elim (fun r => some (.inl r)) (fun (q : (α0 × α1 × α2 × α3)) => f q.1 q.2.1 q.2.2.1 q.2.2.2), fun _ _ _ _ => rfl, fun _ => rfl, h⟩
theorem bs4_inK {ρ σ γ α0 α1 α2 α3 : Type} {x : Option (ρ ⊕ (α0 × α1 × α2 × α3))} {f : α0 → α1 → α2 → α3 → Option (ρ ⊕ σ)} {K : ρ ⊕ σ → Option γ} {r : γ} (h : (bs4 x f).bind K = some r) : ∃ K1 : ρ ⊕ (α0 × α1 × α2 × α3) → Option γ, (∀ a0 a1 a2 a3, K1 (.inr (a0, a1, a2, a3)) = (f a0 a1 a2 a3).bind K) ∧ (∀ z, K1 (.inl z) = K (.inl z)) ∧ x.bind K1 = some r := ⟨fun z => z.elim (fun r => K (.inl r)) (fun q => (f q.1 q.2.1 q.2.2.1 q.2.2.2).bind K), fun _ _ _ _ => rfl, fun _ => rfl, by cases x with
  | none => exact h
  | some z => cases z <;> exact h⟩
theorem br4_el {ρ α0 α1 α2 α3 : Type} {x : Option (ρ ⊕ (α0 × α1 × α2 × α3))} {f : α0 → α1 → α2 → α3 → Option ρ} {r : ρ} (h : br4 x f = some r) : ∃ q, x = some q ∧ (∀ z, q = .inl z → some z = some r) ∧ (∀ a0 a1 a2 a3, q = .inr (a0, a1, a2, a3) → f a0 a1 a2 a3 = some r) := by
  cases x with
  | none => cases h
  | some z =>
    refine ⟨z, rfl, ?_, ?_⟩
    · intro w e; subst e; exact h
    · intro a0 a1 a2 a3 e; subst e; exact h
theorem bs4_el {ρ σ α0 α1 α2 α3 : Type} {x : Option (ρ ⊕ (α0 × α1 × α2 × α3))} {f : α0 → α1 → α2 → α3 → Option (ρ ⊕ σ)} {r : ρ ⊕ σ} (h : bs4 x f = some r) : ∃ q, x = some q ∧ (∀ z, q = .inl z → some (Sum.inl z) = some r) ∧ (∀ a0 a1 a2 a3, q = .inr (a0, a1, a2, a3) → f a0 a1 a2 a3 = some r) := by
  cases x with
  | none => cases h
  | some z =>
    refine ⟨z, rfl, ?_, ?_⟩
    · intro w e; subst e; exact h
    · intro a0 a1 a2 a3 e; subst e; exact h
theorem bs4_elK {ρ σ γ α0 α1 α2 α3 : Type} {x : Option (ρ ⊕ (α0 × α1 × α2 × α3))} {f : α0 → α1 → α2 → α3 → Option (ρ ⊕ σ)} {K : ρ ⊕ σ → Option γ} {r : γ} (h : (bs4 x f).bind K = some r) : ∃ q, x = some q ∧ (∀ z, q = .inl z → K (.inl z) = some r) ∧ (∀ a0 a1 a2 a3, q = .inr (a0, a1, a2, a3) → (f a0 a1 a2 a3).bind K = some r) := by
  cases x with
  | none => cases h
  | some z =>
    refine ⟨z, rfl, ?_, ?_⟩
    · intro w e; subst e; exact h
    · intro a0 a1 a2 a3 e; subst e; exact h
theorem pe4 {α0 α1 α2 α3 : Type} {a0 b0 : α0} {a1 b1 : α1} {a2 b2 : α2} {a3 b3 : α3} (h : (a0, a1, a2, a3) = (b0, b1, b2, b3)) : a0 = b0 ∧ a1 = b1 ∧ a2 = b2 ∧ a3 = b3 := by cases h; exact ⟨rfl, rfl, rfl, rfl⟩
theorem ps4 {α0 α1 α2 α3 : Type} {a0 b0 : α0} {a1 b1 : α1} {a2 b2 : α2} {a3 b3 : α3} (h : some (a0, a1, a2, a3) = some (b0, b1, b2, b3)) : a0 = b0 ∧ a1 = b1 ∧ a2 = b2 ∧ a3 = b3 := by cases h; exact ⟨rfl, rfl, rfl, rfl⟩
def bd5 {α0 α1 α2 α3 α4 β : Type} (q : (α0 × α1 × α2 × α3 × α4)) (f : α0 → α1 → α2 → α3 → α4 → β) : β := f q.1 q.2.1 q.2.2.1 q.2.2.2.1 q.2.2.2.2
def bnd5 {α0 α1 α2 α3 α4 β : Type} (x : Option (α0 × α1 × α2 × α3 × α4)) (f : α0 → α1 → α2 → α3 → α4 → Option β) : Option β := x.bind (fun q => f q.1 q.2.1 q.2.2.1 q.2.2.2.1 q.2.2.2.2)
def br5 {ρ α0 α1 α2 α3 α4 : Type} (x : Option (ρ ⊕ (α0 × α1 × α2 × α3 × α4))) (f : α0 → α1 → α2 → α3 → α4 → Option ρ) : Option ρ := x.bind (fun z => z.elim some (fun q => f q.1 q.2.1 q.2.2.1 q.2.2.2.1 q.2.2.2.2))
def bs5 {ρ σ α0 α1 α2 α3 α4 : Type} (x : Option (ρ ⊕ (α0 × α1 × α2 × α3 × α4))) (f : α0 → α1 → α2 → α3 → α4 → Option (ρ ⊕ σ)) : Option (ρ ⊕ σ) := x.bind (fun z => z.elim (fun r => some (.inl r)) (fun q => f q.1 q.2.1 q.2.2.1 q.2.2.2.1 q.2.2.2.2))
theorem bd5_el {α0 α1 α2 α3 α4 β : Type} {q : (α0 × α1 × α2 × α3 × α4)} {f : α0 → α1 → α2 → α3 → α4 → β} {r : β} (h : bd5 q f = r) : ∃ a0 a1 a2 a3 a4, q = (a0, a1, a2, a3, a4) ∧ f a0 a1 a2 a3 a4 = r := ⟨q.1, q.2.1, q.2.2.1, q.2.2.2.1, q.2.2.2.2, rfl, h⟩
theorem bd5_elK {α0 α1 α2 α3 α4 β γ : Type} {q : (α0 × α1 × α2 × α3 × α4)} {f : α0 → α1 → α2 → α3 → α4 → Option β} {K : β → Option γ} {r : γ} (h : (bd5 q f).bind K = some r) : ∃ a0 a1 a2 a3 a4, q = (a0, a1, a2, a3, a4) ∧ (f a0 a1 a2 a3 a4).bind K = some r := ⟨q.1, q.2.1, q.2.2.1, q.2.2.2.1, q.2.2.2.2, rfl, h⟩
theorem bnd5_el {α0 α1 α2 α3 α4 β : Type} {x : Option (α0 × α1 × α2 × α3 × α4)} {f : α0 → α1 → α2 → α3 → α4 → Option β} {r : β} (h : bnd5 x f = some r) : ∃ a0 a1 a2 a3 a4, x = some (a0, a1, a2, a3, a4) ∧ f a0 a1 a2 a3 a4 = some r := by
  cases x with
  | none => cases h
  | some q => exact ⟨q.1, q.2.1, q.2.2.1, q.2.2.2.1, q.2.2.2.2, rfl, h⟩
theorem bnd5_elK {α0 α1 α2 α3 α4 β γ : Type} {x : Option (α0 × α1 × α2 × α3 × α4)} {f : α0 → α1 → α2 → α3 → α4 → Option β} {K : β → Option γ} {r : γ} (h : (bnd5 x f).bind K = some r) : ∃ a0 a1 a2 a3 a4, x = some (a0, a1, a2, a3, a4) ∧ (f a0 a1 a2 a3 a4).bind K = some r := by
  cases x with
  | none => cases h
  | some q => exact ⟨q.1, q.2.1, q.2.2.1, q.2.2.2.1, q.2.2.2.2, rfl, h⟩
theorem bnd5_in {α0 α1 α2 α3 α4 β : Type} {x : Option (α0 × α1 × α2 × α3 × α4)} {f : α0 → α1 → α2 → α3 → α4 → Option β} {r : β} (h : bnd5 x f = some r) : ∃ K : (α0 × α1 × α2 × α3 × α4) → Option β, (∀ a0 a1 a2 a3 a4, K (a0, a1, a2, a3, a4) = f a0 a1 a2 a3 a4) ∧ x.bind K = some r := ⟨fun q => f q.1 q.2.1 q.2.2.1 q.2.2.2.1 q.2.2.2.2, fun _ _ _ _ _ => rfl, h⟩
theorem bnd5_inK {α0 α1 α2 α3 α4 β γ : Type} {x : Option (α0 × α1 × α2 × α3 × α4)} {f : α0 → α1 → α2 → α3 → α4 → Option β} {K : β → Option γ} {r : γ} (h : (bnd5 x f).bind K = some r) : ∃ K1 : (α0 × α1 × α2 × α3 × α4) → Option γ, (∀ a0 a1 a2 a3 a4, K1 (a0, a1, a2, a3, a4) = (f a0 a1 a2 a3 a4).bind K) ∧ x.bind K1 = some r := ⟨fun q => (f q.1 q.2.1 q.2.2.1 q.2.2.2.1 q.2.2.2.2).bind K, fun _ _ _ _ _ => rfl, by cases x <;> exact h⟩
theorem br5_in {ρ α0 α1 α2 α3 α4 : Type} {x : Option (ρ ⊕ (α0 × α1 × α2 × α3 × α4))} {f : α0 → α1 → α2 → α3 → α4 → Option ρ} {r : ρ} (h : br5 x f = some r) : ∃ K : ρ ⊕ (α0 × α1 × α2 × α3 × α4) → Option ρ, (∀ a0 a1 a2 a3 a4, K (.inr (a0, a1, a2, a3, a4)) = f a0 a1 a2 a3 a4) ∧ (∀ z, K (.inl z) = some z) ∧ x.bind K = some r := ⟨fun z => z.elim some (fun (q : (α0 × α1 × α2 × α3 × α4)) => f q.1 q.2.1 q.2.2.1 q.2.2.2.1 q.2.2.2.2), fun _ _ _ _ _ => rfl, fun _ => rfl, h⟩
theorem bs5_in {ρ σ α0 α1 α2 α3 α4 : Type} {x : Option (ρ ⊕ (α0 × α1 × α2 × α3 × α4))} {f : α0 → α1 → α2 → α3 → α4 → Option (ρ ⊕ σ)} {r : ρ ⊕ σ} (h : bs5 x f = some r) : ∃ K : ρ ⊕ (α0 × α1 × α2 × α3 × α4) → Option (ρ ⊕ σ), (∀ a0 a1 a2 a3 a4, K (.inr (a0, a1, a2, a3, a4)) = f a0 a1 a2 a3 a4) ∧ (∀ z, K (.inl z) = some (.inl z)) ∧ x.bind K = some r := ⟨fun z => z.elim (fun r => some (.inl r)) (fun (q : (α0 × α1 × α2 × α3 × α4)) => f q.1 q.2.1 q.2.2.1 q.2.2.2.1 q.2.2.2.2), fun _ _ _ _ _ => rfl, fun _ => rfl, h⟩
theorem bs5_inK {ρ σ γ α0 α1 α2 α3 α4 : Type} {x : Option (ρ ⊕ (α0 × α1 × α2 × α3 × α4))} {f : α0 → α1 → α2 → α3 → α4 → Option (ρ ⊕ σ)} {K : ρ ⊕ σ → Option γ} {r : γ} (h : (bs5 x f).bind K = some r) : ∃ K1 : ρ ⊕ (α0 × α1 × α2 × α3 × α4) → Option γ, (∀ a0 a1 a2 a3 a4, K1 (.inr (a0, a1, a2, a3, a4)) = (f a0 a1 a2 a3 a4).bind K) ∧ (∀ z, K1 (.inl z) = K (.inl z)) ∧ x.bind K1 = some r := ⟨fun z => z.elim (fun r => K (.inl r)) (fun q => (f q.1 q.2.1 q.2.2.1 q.2.2.2.1 q.2.2.2.2).bind K), fun _ _ _ _ _ => rfl, fun _ => rfl, by cases x with
  | none => exact h
  | some z => cases z <;> exact h⟩
theorem br5_el {ρ α0 α1 α2 α3 α4 : Type} {x : Option (ρ ⊕ (α0 × α1 × α2 × α3 × α4))} {f : α0 → α1 → α2 → α3 → α4 → Option ρ} {r : ρ} (h : br5 x f = some r) : ∃ q, x = some q ∧ (∀ z, q = .inl z → some z = some r) ∧ (∀ a0 a1 a2 a3 a4, q = .inr (a0, a1, a2, a3, a4) → f a0 a1 a2 a3 a4 = some r) := by
  cases x with
  | none => cases h
  | some z =>
    refine ⟨z, rfl, ?_, ?_⟩
    · intro w e; subst e; exact h
    · intro a0 a1 a2 a3 a4 e; subst e; exact h
theorem bs5_el {ρ σ α0 α1 α2 α3 α4 : Type} {x : Option (ρ ⊕ (α0 × α1 × α2 × α3 × α4))} {f : α0 → α1 → α2 → α3 → α4 → Option (ρ ⊕ σ)} {r : ρ ⊕ σ} (h : bs5 x f = some r) : ∃ q, x = some q ∧ (∀ z, q = .inl z → some (Sum.inl z) = some r) ∧ (∀ a0 a1 a2 a3 a4, q = .inr (a0, a1, a2, a3, a4) → f a0 a1 a2 a3 a4 = some r) := by
  cases x with
  | none => cases h
  | some z =>
    refine ⟨z, rfl, ?_, ?_⟩
    · intro w e; subst e; exact h
    · intro a0 a1 a2 a3 a4 e; subst e; exact h
theorem bs5_elK {ρ σ γ α0 α1 α2 α3 α4 : Type} {x : Option (ρ ⊕ (α0 × α1 × α2 × α3 × α4))} {f : α0 → α1 → α2 → α3 → α4 → Option (ρ ⊕ σ)} {K : ρ ⊕ σ → Option γ} {r : γ} (h : (bs5 x f).bind K = some r) : ∃ q, x = some q ∧ (∀ z, q = .inl z → K (.inl z) = some r) ∧ (∀ a0 a1 a2 a3 a4, q = .inr (a0, a1, a2, a3, a4) → (f a0 a1 a2 a3 a4).bind K = some r) := by
  cases x with
  | none => cases h
  | some z =>
    refine ⟨z, rfl, ?_, ?_⟩
    · intro w e; subst e; exact h
    · intro a0 a1 a2 a3 a4 e; subst e; exact h
theorem pe5 {α0 α1 α2 α3 α4 : Type} {a0 b0 : α0} {a1 b1 : α1} {a2 b2 : α2} {a3 b3 : α3} {a4 b4 : α4} (h : (a0, a1, a2, a3, a4) = (b0, b1, b2, b3, b4)) : a0 = b0 ∧ a1 = b1 ∧ a2 = b2 ∧ a3 = b3 ∧ a4 = b4 := by cases h; exact ⟨rfl, rfl, rfl, rfl, rfl⟩
theorem ps5 {α0 α1 α2 α3 α4 : Type} {a0 b0 : α0} {a1 b1 : α1} {a2 b2 : α2} {a3 b3 : α3} {a4 b4 : α4} (h : some (a0, a1, a2, a3, a4) = some (b0, b1, b2, b3, b4)) : a0 = b0 ∧ a1 = b1 ∧ a2 = b2 ∧ a3 = b3 ∧ a4 = b4 := by cases h; exact ⟨rfl, rfl, rfl, rfl, rfl⟩
def bd6 {α0 α1 α2 α3 α4 α5 β : Type} (q : (α0 × α1 × α2 × α3 × α4 × α5)) (f : α0 → α1 → α2 → α3 → α4 → α5 → β) : β := f q.1 q.2.1 q.2.2.1 q.2.2.2.1 q.2.2.2.2.1 q.2.2.2.2.2
def bnd6 {α0 α1 α2 α3 α4 α5 β : Type} (x : Option (α0 × α1 × α2 × α3 × α4 × α5)) (f : α0 → α1 → α2 → α3 → α4 → α5 → Option β) : Option β := x.bind (fun q => f q.1 q.2.1 q.2.2.1 q.2.2.2.1 q.2.2.2.2.1 q.2.2.2.2.2)
def br6 {ρ α0 α1 α2 α3 α4 α5 : Type} (x : Option (ρ ⊕ (α0 × α1 × α2 × α3 × α4 × α5))) (f : α0 → α1 → α2 → α3 → α4 → α5 → Option ρ) : Option ρ := x.bind (fun z => z.elim some (fun q => f q.1 q.2.1 q.2.2.1 q.2.2.2.1 q.2.2.2.2.1 q.2.2.2.2.2))
def bs6 {ρ σ α0 α1 α2 α3 α4 α5 : Type} (x : Option (ρ ⊕ (α0 × α1 × α2 × α3 × α4 × α5))) (f : α0 → α1 → α2 → α3 → α4 → α5 → Option (ρ ⊕ σ)) : Option (ρ ⊕ σ) := x.bind (fun z => z.elim (fun r => some (.inl r)) (fun q => f q.1 q.2.1 q.2.2.1 q.2.2.2.1 q.2.2.2.2.1 q.2.2.2.2.2))
theorem bd6_el {α0 α1 α2 α3 α4 α5 β : Type} {q : (α0 × α1 × α2 × α3 × α4 × α5)} {f : α0 → α1 → α2 → α3 → α4 → α5 → β} {r : β} (h : bd6 q f = r) : ∃ a0 a1 a2 a3 a4 a5, q = (a0, a1, a2, a3, a4, a5) ∧ f a0 a1 a2 a3 a4 a5 = r := ⟨q.1, q.2.1, q.2.2.1, q.2.2.2.1, q.2.2.2.2.1, q.2.2.2.2.2, rfl, h⟩
theorem bd6_elK {α0 α1 α2 α3 α4 α5 β γ : Type} {q : (α0 × α1 × α2 × α3 × α4 × α5)} {f : α0 → α1 → α2 → α3 → α4 → α5 → Option β} {K : β → Option γ} {r : γ} (h : (bd6 q f).bind K = some r) : ∃ a0 a1 a2 a3 a4 a5, q = (a0, a1, a2, a3, a4, a5) ∧ (f a0 a1 a2 a3 a4 a5).bind K = some r := ⟨q.1, q.2.1, q.2.2.1, q.2.2.2.1, q.2.2.2.2.1, q.2.2.2.2.2, rfl, h⟩
theorem bnd6_el {α0 α1 α2 α3 α4 α5 β : Type} {x : Option (α0 × α1 × α2 × α3 × α4 × α5)} {f : α0 → α1 → α2 → α3 → α4 → α5 → Option β} {r : β} (h : bnd6 x f = some r) : ∃ a0 a1 a2 a3 a4 a5, x = some (a0, a1, a2, a3, a4, a5) ∧ f a0 a1 a2 a3 a4 a5 = some r := by
  cases x with
  | none => cases h
  | some q => exact ⟨q.1, q.2.1, q.2.2.1, q.2.2.2.1, q.2.2.2.2.1, q.2.2.2.2.2, rfl, h⟩
theorem bnd6_elK {α0 α1 α2 α3 α4 α5 β γ : Type} {x : Option (α0 × α1 × α2 × α3 × α4 × α5)} {f : α0 → α1 → α2 → α3 → α4 → α5 → Option β} {K : β → Option γ} {r : γ} (h : (bnd6 x f).bind K = some r) : ∃ a0 a1 a2 a3 a4 a5, x = some (a0, a1, a2, a3, a4, a5) ∧ (f a0 a1 a2 a3 a4 a5).bind K = some r := by
  cases x with
  | none => cases h
  | some q => exact ⟨q.1, q.2.1, q.2.2.1, q.2.2.2.1, q.2.2.2.2.1, q.2.2.2.2.2, rfl, h⟩
theorem bnd6_in {α0 α1 α2 α3 α4 α5 β : Type} {x : Option (α0 × α1 × α2 × α3 × α4 × α5)} {f : α0 → α1 → α2 → α3 → α4 → α5 → Option β} {r : β} (h : bnd6 x f = some r) : ∃ K : (α0 × α1 × α2 × α3 × α4 × α5) → Option β, (∀ a0 a1 a2 a3 a4 a5, K (a0, a1, a2, a3, a4, a5) = f a0 a1 a2 a3 a4 a5) ∧ x.bind K = some r := ⟨fun q => f q.1 q.2.1 q.2.2.1 q.2.2.2.1 q.2.2.2.2.1 q.2.2.2.2.2, fun _ _ _ _ _ _ => rfl, h⟩
theorem bnd6_inK {α0 α1 α2 α3 α4 α5 β γ : Type} {x : Option (α0 × α1 × α2 × α3 × α4 × α5)} {f : α0 → α1 → α2 → α3 → α4 → α5 → Option β} {K : β → Option γ} {r : γ} (h : (bnd6 x f).bind K = some r) : ∃ K1 : (α0 × α1 × α2 × α3 × α4 × α5) → Option γ, (∀ a0 a1 a2 a3 a4 a5, K1 (a0, a1, a2, a3, a4, a5) = (f a0 a1 a2 a3 a4 a5).bind K) ∧ x.bind K1 = some r := ⟨fun q => (f q.1 q.2.1 q.2.2.1 q.2.2.2.1 q.2.2.2.2.1 q.2.2.2.2.2).bind K, fun _ _ _ _ _ _ => rfl, by cases x <;> exact h⟩
theorem br6_in {ρ α0 α1 α2 α3 α4 α5 : Type} {x : Option (ρ ⊕ (α0 × α1 × α2 × α3 × α4 × α5))} {f : α0 → α1 → α2 → α3 → α4 → α5 → Option ρ} {r : ρ} (h : br6 x f = some r) : ∃ K : ρ ⊕ (α0 × α1 × α2 × α3 × α4 × α5) → Option ρ, (∀ a0 a1 a2 a3 a4 a5, K (.inr (a0, a1, a2, a3, a4, a5)) = f a0 a1 a2 a3 a4 a5) ∧ (∀ z, K (.inl z) = some z) ∧ x.bind K = some r := ⟨fun z => z.elim some (fun (q : (α0 × α1 × α2 × α3 × α4 × α5)) => f q.1 q.2.1 q.2.2.1 q.2.2.2.1 q.2.2.2.2.1 q.2.2.2.2.2), fun _ _ _ _ _ _ => rfl, fun _ => rfl, h⟩
theorem bs6_in {ρ σ α0 α1 α2 α3 α4 α5 : Type} {x : Option (ρ ⊕ (α0 × α1 × α2 × α3 × α4 × α5))} {f : α0 → α1 → α2 → α3 → α4 → α5 → Option (ρ ⊕ σ)} {r : ρ ⊕ σ} (h : bs6 x f = some r) : ∃ K : ρ ⊕ (α0 × α1 × α2 × α3 × α4 × α5) → Option (ρ ⊕ σ), (∀ a0 a1 a2 a3 a4 a5, K (.inr (a0, a1, a2, a3, a4, a5)) = f a0 a1 a2 a3 a4 a5) ∧ (∀ z, K (.inl z) = some (.inl z)) ∧ x.bind K = some r := ⟨fun z => z.elim (fun r => some (.inl r)) (fun (q : (α0 × α1 × α2 × α3 × α4 × α5)) => f q.1 q.2.1 q.2.2.1 q.2.2.2.1 q.2.2.2.2.1 q.2.2.2.2.2), fun _ _ _ _ _ _ => rfl, fun _ => rfl, h⟩
theorem bs6_inK {ρ σ γ α0 α1 α2 α3 α4 α5 : Type} {x : Option (ρ ⊕ (α0 × α1 × α2 × α3 × α4 × α5))} {f : α0 → α1 → α2 → α3 → α4 → α5 → Option (ρ ⊕ σ)} {K : ρ ⊕ σ → Option γ} {r : γ} (h : (bs6 x f).bind K = some r) : ∃ K1 : ρ ⊕ (α0 × α1 × α2 × α3 × α4 × α5) → Option γ, (∀ a0 a1 a2 a3 a4 a5, K1 (.inr (a0, a1, a2, a3, a4, a5)) = (f a0 a1 a2 a3 a4 a5).bind K) ∧ (∀ z, K1 (.inl z) = K (.inl z)) ∧ x.bind K1 = some r := ⟨fun z => z.elim (fun r => K (.inl r)) (fun q => (f q.1 q.2.1 q.2.2.1 q.2.2.2.1 q.2.2.2.2.1 q.2.2.2.2.2).bind K), fun _ _ _ _ _ _ => rfl, fun _ => rfl, by cases x with
  | none => exact h
  | some z => cases z <;> exact h⟩
theorem br6_el {ρ α0 α1 α2 α3 α4 α5 : Type} {x : Option (ρ ⊕ (α0 × α1 × α2 × α3 × α4 × α5))} {f : α0 → α1 → α2 → α3 → α4 → α5 → Option ρ} {r : ρ} (h : br6 x f = some r) : ∃ q, x = some q ∧ (∀ z, q = .inl z → some z = some r) ∧ (∀ a0 a1 a2 a3 a4 a5, q = .inr (a0, a1, a2, a3, a4, a5) → f a0 a1 a2 a3 a4 a5 = some r) := by
  cases x with
  | none => cases h
  | some z =>
    refine ⟨z, rfl, ?_, ?_⟩
    · intro w e; subst e; exact h
    · intro a0 a1 a2 a3 a4 a5 e; subst e; exact h
theorem bs6_el {ρ σ α0 α1 α2 α3 α4 α5 : Type} {x : Option (ρ ⊕ (α0 × α1 × α2 × α3 × α4 × α5))} {f : α0 → α1 → α2 → α3 → α4 → α5 → Option (ρ ⊕ σ)} {r : ρ ⊕ σ} (h : bs6 x f = some r) : ∃ q, x = some q ∧ (∀ z, q = .inl z → some (Sum.inl z) = some r) ∧ (∀ a0 a1 a2 a3 a4 a5, q = .inr (a0, a1, a2, a3, a4, a5) → f a0 a1 a2 a3 a4 a5 = some r) := by
  cases x with
  | none => cases h
  | some z =>
    refine ⟨z, rfl, ?_, ?_⟩
    · intro w e; subst e; exact h
    · intro a0 a1 a2 a3 a4 a5 e; subst e; exact h
theorem bs6_elK {ρ σ γ α0 α1 α2 α3 α4 α5 : Type} {x : Option (ρ ⊕ (α0 × α1 × α2 × α3 × α4 × α5))} {f : α0 → α1 → α2 → α3 → α4 → α5 → Option (ρ ⊕ σ)} {K : ρ ⊕ σ → Option γ} {r : γ} (h : (bs6 x f).bind K = some r) : ∃ q, x = some q ∧ (∀ z, q = .inl z → K (.inl z) = some r) ∧ (∀ a0 a1 a2 a3 a4 a5, q = .inr (a0, a1, a2, a3, a4, a5) → (f a0 a1 a2 a3 a4 a5).bind K = some r) := by
  cases x with
  | none => cases h
  | some z =>
    refine ⟨z, rfl, ?_, ?_⟩
    · intro w e; subst e; exact h
    · intro a0 a1 a2 a3 a4 a5 e; subst e; exact h
theorem pe6 {α0 α1 α2 α3 α4 α5 : Type} {a0 b0 : α0} {a1 b1 : α1} {a2 b2 : α2} {a3 b3 : α3} {a4 b4 : α4} {a5 b5 : α5} (h : (a0, a1, a2, a3, a4, a5) = (b0, b1, b2, b3, b4, b5)) : a0 = b0 ∧ a1 = b1 ∧ a2 = b2 ∧ a3 = b3 ∧ a4 = b4 ∧ a5 = b5 := by cases h; exact ⟨rfl, rfl, rfl, rfl, rfl, rfl⟩
theorem ps6 {α0 α1 α2 α3 α4 α5 : Type} {a0 b0 : α0} {a1 b1 : α1} {a2 b2 : α2} {a3 b3 : α3} {a4 b4 : α4} {a5 b5 : α5} (h : some (a0, a1, a2, a3, a4, a5) = some (b0, b1, b2, b3, b4, b5)) : a0 = b0 ∧ a1 = b1 ∧ a2 = b2 ∧ a3 = b3 ∧ a4 = b4 ∧ a5 = b5 := by cases h; exact ⟨rfl, rfl, rfl, rfl, rfl, rfl⟩
def bd7 {α0 α1 α2 α3 α4 α5 α6 β : Type} (q : (α0 × α1 × α2 × α3 × α4 × α5 × α6)) (f : α0 → α1 → α2 → α3 → α4 → α5 → α6 → β) : β := f q.1 q.2.1 q.2.2.1 q.2.2.2.1 q.2.2.2.2.1 q.2.2.2.2.2.1 q.2.2.2.2.2.2
def bnd7 {α0 α1 α2 α3 α4 α5 α6 β : Type} (x : Option (α0 × α1 × α2 × α3 × α4 × α5 × α6)) (f : α0 → α1 → α2 → α3 → α4 → α5 → α6 → Option β) : Option β := x.bind (fun q => f q.1 q.2.1 q.2.2.1 q.2.2.2.1 q.2.2.2.2.1 q.2.2.2.2.2.1 q.2.2.2.2.2.2)
def br7 {ρ α0 α1 α2 α3 α4 α5 α6 : Type} (x : Option (ρ ⊕ (α0 × α1 × α2 × α3 × α4 × α5 × α6))) (f : α0 → α1 → α2 → α3 → α4 → α5 → α6 → Option ρ) : Option ρ := x.bind (fun z => z.elim some (fun q => f q.1 q.2.1 q.2.2.1 q.2.2.2.1 q.2.2.2.2.1 q.2.2.2.2.2.1 q.2.2.2.2.2.2))
def bs7 {ρ σ α0 α1 α2 α3 α4 α5 α6 : Type} (x : Option (ρ ⊕ (α0 × α1 × α2 × α3 × α4 × α5 × α6))) (f : α0 → α1 → α2 → α3 → α4 → α5 → α6 → Option (ρ ⊕ σ)) : Option (ρ ⊕ σ) := x.bind (fun z => z.elim (fun r => some (.inl r)) (fun q => f q.1 q.2.1 q.2.2.1 q.2.2.2.1 q.2.2.2.2.1 q.2.2.2.2.2.1 q.2.2.2.2.2.2))
theorem bd7_el {α0 α1 α2 α3 α4 α5 α6 β : Type} {q : (α0 × α1 × α2 × α3 × α4 × α5 × α6)} {f : α0 → α1 → α2 → α3 → α4 → α5 → α6 → β} {r : β} (h : bd7 q f = r) : ∃ a0 a1 a2 a3 a4 a5 a6, q = (a0, a1, a2, a3, a4, a5, a6) ∧ f a0 a1 a2 a3 a4 a5 a6 = r := ⟨q.1, q.2.1, q.2.2.1, q.2.2.2.1, q.2.2.2.2.1, q.2.2.2.2.2.1, q.2.2.2.2.2.2, rfl, h⟩
theorem bd7_elK {α0 α1 α2 α3 α4 α5 α6 β γ : Type} {q : (α0 × α1 × α2 × α3 × α4 × α5 × α6)} {f : α0 → α1 → α2 → α3 → α4 → α5 → α6 → Option β} {K : β → Option γ} {r : γ} (h : (bd7 q f).bind K = some r) : ∃ a0 a1 a2 a3 a4 a5 a6, q = (a0, a1, a2, a3, a4, a5, a6) ∧ (f a0 a1 a2 a3 a4 a5 a6).bind K = some r := ⟨q.1, q.2.1, q.2.2.1, q.2.2.2.1, q.2.2.2.2.1, q.2.2.2.2.2.1, q.2.2.2.2.2.2, rfl, h⟩
theorem bnd7_el {α0 α1 α2 α3 α4 α5 α6 β : Type} {x : Option (α0 × α1 × α2 × α3 × α4 × α5 × α6)} {f : α0 → α1 → α2 → α3 → α4 → α5 → α6 → Option β} {r : β} (h : bnd7 x f = some r) : ∃ a0 a1 a2 a3 a4 a5 a6, x = some (a0, a1, a2, a3, a4, a5, a6) ∧ f a0 a1 a2 a3 a4 a5 a6 = some r := by
  cases x with
  | none => cases h
  | some q => exact ⟨q.1, q.2.1, q.2.2.1, q.2.2.2.1, q.2.2.2.2.1, q.2.2.2.2.2.1, q.2.2.2.2.2.2, rfl, h⟩
theorem bnd7_elK {α0 α1 α2 α3 α4 α5 α6 β γ : Type} {x : Option (α0 × α1 × α2 × α3 × α4 × α5 × α6)} {f : α0 → α1 → α2 → α3 → α4 → α5 → α6 → Option β} {K : β → Option γ} {r : γ} (h : (bnd7 x f).bind K = some r) : ∃ a0 a1 a2 a3 a4 a5 a6, x = some (a0, a1, a2, a3, a4, a5, a6) ∧ (f a0 a1 a2 a3 a4 a5 a6).bind K = some r := by
  cases x with
  | none => cases h
  | some q => exact ⟨q.1, q.2.1, q.2.2.1, q.2.2.2.1, q.2.2.2.2.1, q.2.2.2.2.2.1, q.2.2.2.2.2.2, rfl, h⟩
theorem bnd7_in {α0 α1 α2 α3 α4 α5 α6 β : Type} {x : Option (α0 × α1 × α2 × α3 × α4 × α5 × α6)} {f : α0 → α1 → α2 → α3 → α4 → α5 → α6 → Option β} {r : β} (h : bnd7 x f = some r) : ∃ K : (α0 × α1 × α2 × α3 × α4 × α5 × α6) → Option β, (∀ a0 a1 a2 a3 a4 a5 a6, K (a0, a1, a2, a3, a4, a5, a6) = f a0 a1 a2 a3 a4 a5 a6) ∧ x.bind K = some r := ⟨fun q => f q.1 q.2.1 q.2.2.1 q.2.2.2.1 q.2.2.2.2.1 q.2.2.2.2.2.1 q.2.2.2.2.2.2, fun _ _ _ _ _ _ _ => rfl, h⟩
theorem bnd7_inK {α0 α1 α2 α3 α4 α5 α6 β γ : Type} {x : Option (α0 × α1 × α2 × α3 × α4 × α5 × α6)} {f : α0 → α1 → α2 → α3 → α4 → α5 → α6 → Option β} {K : β → Option γ} {r : γ} (h : (bnd7 x f).bind K = some r) : ∃ K1 : (α0 × α1 × α2 × α3 × α4 × α5 × α6) → Option γ, (∀ a0 a1 a2 a3 a4 a5 a6, K1 (a0, a1, a2, a3, a4, a5, a6) = (f a0 a1 a2 a3 a4 a5 a6).bind K) ∧ x.bind K1 = some r := ⟨fun q => (f q.1 q.2.1 q.2.2.1 q.2.2.2.1 q.2.2.2.2.1 q.2.2.2.2.2.1 q.2.2.2.2.2.2).bind K, fun _ _ _ _ _ _ _ => rfl, by cases x <;> exact h⟩
theorem br7_in {ρ α0 α1 α2 α3 α4 α5 α6 : Type} {x : Option (ρ ⊕ (α0 × α1 × α2 × α3 × α4 × α5 × α6))} {f : α0 → α1 → α2 → α3 → α4 → α5 → α6 → Option ρ} {r : ρ} (h : br7 x f = some r) : ∃ K : ρ ⊕ (α0 × α1 × α2 × α3 × α4 × α5 × α6) → Option ρ, (∀ a0 a1 a2 a3 a4 a5 a6, K (.inr (a0, a1, a2, a3, a4, a5, a6)) = f a0 a1 a2 a3 a4 a5 a6) ∧ (∀ z, K (.inl z) = some z) ∧ x.bind K = some r := ⟨fun z => z.elim some (fun (q : (α0 × α1 × α2 × α3 × α4 × α5 × α6)) => f q.1 q.2.1 q.2.2.1 q.2.2.2.1 q.2.2.2.2.1 q.2.2.2.2.2.1 q.2.2.2.2.2.2), fun _ _ _ _ _ _ _ => rfl, fun _ => rfl, h⟩
theorem bs7_in {ρ σ α0 α1 α2 α3 α4 α5 α6 : Type} {x : Option (ρ ⊕ (α0 × α1 × α2 × α3 × α4 × α5 × α6))} {f : α0 → α1 → α2 → α3 → α4 → α5 → α6 → Option (ρ ⊕ σ)} {r : ρ ⊕ σ} (h : bs7 x f = some r) : ∃ K : ρ ⊕ (α0 × α1 × α2 × α3 × α4 × α5 × α6) → Option (ρ ⊕ σ), (∀ a0 a1 a2 a3 a4 a5 a6, K (.inr (a0, a1, a2, a3, a4, a5, a6)) = f a0 a1 a2 a3 a4 a5 a6) ∧ (∀ z, K (.inl z) = some (.inl z)) ∧ x.bind K = some r := ⟨fun z => z.elim (fun r => some (.inl r)) (fun (q : (α0 × α1 × α2 × α3 × α4 × α5 × α6)) => f q.1 q.2.1 q.2.2.1 q.2.2.2.1 q.2.2.2.2.1 q.2.2.2.2.2.1 q.2.2.2.2.2.2), fun _ _ _ _ _ _ _ => rfl, fun _ => rfl, h⟩
theorem bs7_inK {ρ σ γ α0 α1 α2 α3 α4 α5 α6 : Type} {x : Option (ρ ⊕ (α0 × α1 × α2 × α3 × α4 × α5 × α6))} {f : α0 → α1 → α2 → α3 → α4 → α5 → α6 → Option (ρ ⊕ σ)} {K : ρ ⊕ σ → Option γ} {r : γ} (h : (bs7 x f).bind K = some r) : ∃ K1 : ρ ⊕ (α0 × α1 × α2 × α3 × α4 × α5 × α6) → Option γ, (∀ a0 a1 a2 a3 a4 a5 a6, K1 (.inr (a0, a1, a2, a3, a4, a5, a6)) = (f a0 a1 a2 a3 a4 a5 a6).bind K) ∧ (∀ z, K1 (.inl z) = K (.inl z)) ∧ x.bind K1 = some r := ⟨fun z => z.elim (fun r => K (.inl r)) (fun q => (f q.1 q.2.1 q.2.2.1 q.2.2.2.1 q.2.2.2.2.1 q.2.2.2.2.2.1 q.2.2.2.2.2.2).bind K), fun _ _ _ _ _ _ _ => rfl, fun _ => rfl, by cases x with
  | none => exact h
  | some z => cases z <;> exact h⟩
theorem br7_el {ρ α0 α1 α2 α3 α4 α5 α6 : Type} {x : Option (ρ ⊕ (α0 × α1 × α2 × α3 × α4 × α5 × α6))} {f : α0 → α1 → α2 → α3 → α4 → α5 → α6 → Option ρ} {r : ρ} (h : br7 x f = some r) : ∃ q, x = some q ∧ (∀ z, q = .inl z → some z = some r) ∧ (∀ a0 a1 a2 a3 a4 a5 a6, q = .inr (a0, a1, a2, a3, a4, a5, a6) → f a0 a1 a2 a3 a4 a5 a6 = some r) := by
  cases x with
  | none => cases h
  | some z =>
    refine ⟨z, rfl, ?_, ?_⟩
    · intro w e; subst e; exact h
    · intro a0 a1 a2 a3 a4 a5 a6 e; subst e; exact h
theorem bs7_el {ρ σ α0 α1 α2 α3 α4 α5 α6 : Type} {x : Option (ρ ⊕ (α0 × α1 × α2 × α3 × α4 × α5 × α6))} {f : α0 → α1 → α2 → α3 → α4 → α5 → α6 → Option (ρ ⊕ σ)} {r : ρ ⊕ σ} (h : bs7 x f = some r) : ∃ q, x = some q ∧ (∀ z, q = .inl z → some (Sum.inl z) = some r) ∧ (∀ a0 a1 a2 a3 a4 a5 a6, q = .inr (a0, a1, a2, a3, a4, a5, a6) → f a0 a1 a2 a3 a4 a5 a6 = some r) := by
  cases x with
  | none => cases h
  | some z =>
    refine ⟨z, rfl, ?_, ?_⟩
    · intro w e; subst e; exact h
    · intro a0 a1 a2 a3 a4 a5 a6 e; subst e; exact h
theorem bs7_elK {ρ σ γ α0 α1 α2 α3 α4 α5 α6 : Type} {x : Option (ρ ⊕ (α0 × α1 × α2 × α3 × α4 × α5 × α6))} {f : α0 → α1 → α2 → α3 → α4 → α5 → α6 → Option (ρ ⊕ σ)} {K : ρ ⊕ σ → Option γ} {r : γ} (h : (bs7 x f).bind K = some r) : ∃ q, x = some q ∧ (∀ z, q = .inl z → K (.inl z) = some r) ∧ (∀ a0 a1 a2 a3 a4 a5 a6, q = .inr (a0, a1, a2, a3, a4, a5, a6) → (f a0 a1 a2 a3 a4 a5 a6).bind K = some r) := by
  cases x with
  | none => cases h
  | some z =>
    refine ⟨z, rfl, ?_, ?_⟩
    · intro w e; subst e; exact h
    · intro a0 a1 a2 a3 a4 a5 a6 e; subst e; exact h
theorem pe7 {α0 α1 α2 α3 α4 α5 α6 : Type} {a0 b0 : α0} {a1 b1 : α1} {a2 b2 : α2} {a3 b3 : α3} {a4 b4 : α4} {a5 b5 : α5} {a6 b6 : α6} (h : (a0, a1, a2, a3, a4, a5, a6) = (b0, b1, b2, b3, b4, b5, b6)) : a0 = b0 ∧ a1 = b1 ∧ a2 = b2 ∧ a3 = b3 ∧ a4 = b4 ∧ a5 = b5 ∧ a6 = b6 := by cases h; exact ⟨rfl, rfl, rfl, rfl, rfl, rfl, rfl⟩
theorem ps7 {α0 α1 α2 α3 α4 α5 α6 : Type} {a0 b0 : α0} {a1 b1 : α1} {a2 b2 : α2} {a3 b3 : α3} {a4 b4 : α4} {a5 b5 : α5} {a6 b6 : α6} (h : some (a0, a1, a2, a3, a4, a5, a6) = some (b0, b1, b2, b3, b4, b5, b6)) : a0 = b0 ∧ a1 = b1 ∧ a2 = b2 ∧ a3 = b3 ∧ a4 = b4 ∧ a5 = b5 ∧ a6 = b6 := by cases h; exact ⟨rfl, rfl, rfl, rfl, rfl, rfl, rfl⟩
