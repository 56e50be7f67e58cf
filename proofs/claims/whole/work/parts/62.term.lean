/-! ===== the class reads a term ===== -/
/-- what a term or a sum leaves alone -/
def FrT (P : Nat) (A A' : Mem) : Prop := (∀ d, d ≠ 2 → d ≠ P → ¬ (P + 10 ≤ d ∧ d < P + 15) → A'.1 d = A.1 d) ∧ (∀ j, j ≠ 7 → j ≠ 9 → A'.1 2 j = A.1 2 j) ∧ (∀ j, j ≠ 13 → j ≠ 15 → A'.1 P j = A.1 P j) ∧ (∀ d, d ≠ 2 → A'.2 d = A.2 d) ∧ (∀ j, j ≠ 8 → A'.2 2 j = A.2 2 j)
theorem FrT.rf {P : Nat} {A : Mem} : FrT P A A := ⟨fun _ _ _ _ => rfl, fun _ _ _ => rfl, fun _ _ _ => rfl, fun _ _ => rfl, fun _ _ => rfl⟩
theorem FrT.tr {P : Nat} {A A' A'' : Mem} (h : FrT P A A') (g : FrT P A' A'') : FrT P A A'' := ⟨fun d p1 p2 p3 => (g.1 d p1 p2 p3).trans (h.1 d p1 p2 p3), fun j p1 p2 => (g.2.1 j p1 p2).trans (h.2.1 j p1 p2), fun j p1 p2 => (g.2.2.1 j p1 p2).trans (h.2.2.1 j p1 p2), fun d p => (g.2.2.2.1 d p).trans (h.2.2.2.1 d p), fun j p => (g.2.2.2.2 j p).trans (h.2.2.2.2 j p)⟩
theorem FrT.rd {P j : Nat} {v : Int32} {A : Mem} (hP : 16 ≤ P) (hj : j = 7 ∨ j = 9) : FrT P A (setI A 2 j v) := ⟨fun d p1 p2 p3 => fI p1, fun k p1 p2 => gI (Or.inr (by omega)), fun k p1 p2 => gI (Or.inl (by omega)), fun _ _ => rfl, fun _ _ => rfl⟩
theorem FrT.tk {P i : Nat} {A : Mem} (hP : 16 ≤ P) : FrT P A (tkC A i) := by
  unfold tkC
  exact FrT.tr (A' := setJ A 2 8 (A.2 6 i)) ⟨fun _ _ _ _ => rfl, fun _ _ _ => rfl, fun _ _ _ => rfl, fun d p => fJ p, fun j p => gJ (Or.inr p)⟩ (FrT.rd hP (Or.inl rfl))
theorem FrT.row {P d j : Nat} {v : Int32} {A : Mem} (hP : 16 ≤ P) (hd : P + 10 ≤ d ∧ d < P + 15) : FrT P A (setI A d j v) := ⟨fun e p1 p2 p3 => fI (fun q => p3 (by rw [q]; exact hd)), fun k p1 p2 => gI (Or.inl (by omega)), fun k p1 p2 => gI (Or.inl (by omega)), fun _ _ => rfl, fun _ _ => rfl⟩
theorem FrT.ct {P j : Nat} {v : Int32} {A : Mem} (hP : 16 ≤ P) (hj : j = 13 ∨ j = 15) : FrT P A (setI A P j v) := ⟨fun e p1 p2 p3 => fI p2, fun k p1 p2 => gI (Or.inl (by omega)), fun k p1 p2 => gI (Or.inr (by omega)), fun _ _ => rfl, fun _ _ => rfl⟩
theorem FrT.put {P d n : Nat} {i v : Int32} {A : Mem} (hP : 16 ≤ P) (hd : P + 10 ≤ d ∧ d < P + 15) : FrT P A (U_X10_put d i v n A) := by
  unfold U_X10_put
  dsimp only
  split
  · exact FrT.rf
  · split
    · exact FrT.rf
    · exact FrT.row hP hd
theorem WRow.cg {P : Nat} {A A' : Mem} {ts : List Tk} (h : WRow A ts) (hP : 16 ≤ P) (hF : FrT P A A') : WRow A' ts := by
  refine ⟨h.1, fun i t e => ?_⟩
  rw [hF.1 5 (by decide) (by omega) (by omega), hF.1 7 (by decide) (by omega) (by omega), hF.2.2.2.1 6 (by decide)]
  exact h.2 i t e
/-- the rows of terms below k, and of sums, are as they were -/
def RwT (P k : Nat) (A A' : Mem) : Prop := (∀ d, P + 11 ≤ d → d < P + 15 → ∀ x, x < k → A'.1 d x = A.1 d x) ∧ A'.1 (P + 10) = A.1 (P + 10) ∧ A'.1 P 13 = A.1 P 13
theorem addTerm_F {P : Nat} {x1 x2 x3 x4 : Int32} {A : Mem} (hP : 16 ≤ P) : FrT P A (U_X3_addTerm P x1 x2 x3 x4 A) := by
  unfold U_X3_addTerm
  dsimp only
  exact (((FrT.put hP (by omega)).tr (FrT.put hP (by omega))).tr (FrT.put hP (by omega))).tr ((FrT.put hP (by omega)).tr (FrT.ct hP (Or.inr rfl)))
theorem addTerm_C {P k : Nat} {x1 x2 x3 x4 : Int32} {A : Mem} (hk : k < 400) (h15 : A.1 P 15 = nI k) : U_X3_addTerm P x1 x2 x3 x4 A = setI (setI (setI (setI (setI A (P + 11) k x1) (P + 12) k x2) (P + 13) k x3) (P + 14) k x4) P 15 (nI (k + 1)) := by
  unfold U_X3_addTerm
  dsimp only
  rw [put_eq (x := P + 11) h15 hk (by decide), gI (Or.inl (by omega)), put_eq (x := P + 12) h15 hk (by decide), gI (Or.inl (by omega)), gI (Or.inl (by omega)), put_eq (x := P + 13) h15 hk (by decide), gI (Or.inl (by omega)), gI (Or.inl (by omega)), gI (Or.inl (by omega)), put_eq (x := P + 14) h15 hk (by decide), gI (Or.inl (by omega)), gI (Or.inl (by omega)), gI (Or.inl (by omega)), gI (Or.inl (by omega)), h15, nI_1]
