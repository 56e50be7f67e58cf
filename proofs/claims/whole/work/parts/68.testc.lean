/-! ===== the class reads a test ===== -/
/-- what a test leaves alone: as FrT, and the rows of tests may grow -/
def FrQ (P : Nat) (A A' : Mem) : Prop := (∀ d, d ≠ 2 → d ≠ P → d ≠ P + 5 → d ≠ P + 6 → ¬ (P + 10 ≤ d ∧ d < P + 15) → A'.1 d = A.1 d) ∧ (∀ j, j ≠ 7 → j ≠ 9 → A'.1 2 j = A.1 2 j) ∧ (∀ j, j ≠ 6 → j ≠ 13 → j ≠ 15 → A'.1 P j = A.1 P j) ∧ (∀ d, d ≠ 2 → A'.2 d = A.2 d) ∧ (∀ j, j ≠ 8 → A'.2 2 j = A.2 2 j)
theorem FrQ.rf {P : Nat} {A : Mem} : FrQ P A A := ⟨fun _ _ _ _ _ _ => rfl, fun _ _ _ => rfl, fun _ _ _ _ => rfl, fun _ _ => rfl, fun _ _ => rfl⟩
theorem FrQ.tr {P : Nat} {A A' A'' : Mem} (h : FrQ P A A') (g : FrQ P A' A'') : FrQ P A A'' := ⟨fun d p1 p2 p3 p4 p5 => (g.1 d p1 p2 p3 p4 p5).trans (h.1 d p1 p2 p3 p4 p5), fun j p1 p2 => (g.2.1 j p1 p2).trans (h.2.1 j p1 p2), fun j p1 p2 p3 => (g.2.2.1 j p1 p2 p3).trans (h.2.2.1 j p1 p2 p3), fun d p => (g.2.2.2.1 d p).trans (h.2.2.2.1 d p), fun j p => (g.2.2.2.2 j p).trans (h.2.2.2.2 j p)⟩
theorem FrT.q {P : Nat} {A A' : Mem} (h : FrT P A A') : FrQ P A A' := ⟨fun d p1 p2 _ _ p5 => h.1 d p1 p2 p5, h.2.1, fun j _ p2 p3 => h.2.2.1 j p2 p3, h.2.2.2.1, h.2.2.2.2⟩
theorem WRow.cq {P : Nat} {A A' : Mem} {ts : List Tk} (h : WRow A ts) (hP : 16 ≤ P) (hF : FrQ P A A') : WRow A' ts := by
  refine ⟨h.1, fun i t e => ?_⟩
  rw [hF.1 5 (by decide) (by omega) (by omega) (by omega) (by omega), hF.1 7 (by decide) (by omega) (by omega) (by omega) (by omega), hF.2.2.2.1 6 (by decide)]
  exact h.2 i t e
theorem FrQ.put {P d n : Nat} {i v : Int32} {A : Mem} (hP : 16 ≤ P) (hd : d = P + 5 ∨ d = P + 6) : FrQ P A (U_X10_put d i v n A) := by
  unfold U_X10_put
  dsimp only
  split
  · exact FrQ.rf
  · split
    · exact FrQ.rf
    · exact ⟨fun e p1 p2 p3 p4 p5 => fI (by omega), fun k p1 p2 => gI (Or.inl (by omega)), fun k p1 p2 p3 => gI (Or.inl (by omega)), fun _ _ => rfl, fun _ _ => rfl⟩
theorem addTest_F {P : Nat} {x : Int32} {A : Mem} (hP : 16 ≤ P) : FrQ P A (U_X3_addTest P x A) ∧ (U_X3_addTest P x A).1 2 = A.1 2 := by
  unfold U_X3_addTest
  dsimp only
  refine ⟨((FrQ.put hP (Or.inl rfl)).tr (FrQ.put hP (Or.inr rfl))).tr ⟨fun e p1 p2 p3 p4 p5 => fI p2, fun k p1 p2 => gI (Or.inl (by omega)), fun k p1 p2 p3 => gI (Or.inr p1), fun _ _ => rfl, fun _ _ => rfl⟩, ?_⟩
  rw [fI (by omega), put_d (by omega), put_d (by omega)]
theorem addTest_C {P q s : Nat} {x : Int32} {A : Mem} (hq : q < 400) (h6 : A.1 P 6 = nI q) (h13 : A.1 P 13 = nI (s + 2)) : U_X3_addTest P x A = setI (setI (setI A (P + 5) q x) (P + 6) q (nI s)) P 6 (nI (q + 1)) := by
  unfold U_X3_addTest
  dsimp only
  rw [put_eq (x := P + 5) h6 hq (by decide), gI (Or.inl (by omega)), gI (Or.inl (by omega)), h13, show (2 : Int32) = nI 2 from rfl, pk_sub (by omega), show s + 2 - 2 = s by omega, put_eq (x := P + 6) h6 hq (by decide), gI (Or.inl (by omega)), gI (Or.inl (by omega)), h6, nI_1]
/-- test i lies in the rows -/
def TsK (A : Mem) (P s k i : Nat) (ts : Ts) : Prop := A.1 (P + 5) i = ts.1 ∧ ∃ n, A.1 (P + 6) i = nI n ∧ SmK A P s k n ts.2.1 ∧ SmK A P s k (n + 1) ts.2.2
/-- what lay in the rows of tests lies there still -/
def RwQ (P q : Nat) (A A' : Mem) : Prop := ∀ x, x < q → A'.1 (P + 5) x = A.1 (P + 5) x ∧ A'.1 (P + 6) x = A.1 (P + 6) x
theorem TsK.rw {P s k s' k' q i : Nat} {ts : Ts} {A A' : Mem} (h : TsK A P s k i ts) (hi : i < q) (g : RwS P s k A A') (gq : RwQ P q A A') (hs : s ≤ s') (hk : k ≤ k') : TsK A' P s' k' i ts := by
  obtain ⟨h1, n, h2, h3, h4⟩ := h
  exact ⟨by rw [(gq i hi).1]; exact h1, n, by rw [(gq i hi).2]; exact h2, h3.rw g hs hk, h4.rw g hs hk⟩
theorem FrT.rq {P q : Nat} {A A' : Mem} (h : FrT P A A') (hP : 16 ≤ P) : RwQ P q A A' := fun x _ => ⟨by rw [h.1 _ (by omega) (by omega) (by omega)], by rw [h.1 _ (by omega) (by omega) (by omega)]⟩
