/-! ===== the class reads a rule ===== -/
abbrev PL : Type := List Ts × List PA
def pRule (ts : List Tk) : PR PL :=
  pthen (pWord 1 1 ts) fun _ ts => pthen (pTests 800 ts) fun tl ts => pthen (pWord 27 27 ts) fun _ ts => pthen (pActs 8 ts) fun al ts => pthen (pWord 28 28 ts) fun _ ts => .inl ((tl, al), ts)
/-- what a rule leaves alone -/
def FrL (P : Nat) (A A' : Mem) : Prop := (∀ d, d ≠ 2 → d ≠ P → ¬ (P + 3 ≤ d ∧ d < P + 15) → A'.1 d = A.1 d) ∧ (∀ j, j ≠ 7 → j ≠ 9 → A'.1 2 j = A.1 2 j) ∧ (∀ j, j ≠ 3 → j ≠ 6 → j ≠ 9 → j ≠ 13 → j ≠ 15 → A'.1 P j = A.1 P j) ∧ (∀ d, d ≠ 2 → d ≠ P + 8 → A'.2 d = A.2 d) ∧ (∀ j, j ≠ 8 → A'.2 2 j = A.2 2 j)
theorem FrL.tr {P : Nat} {A A' A'' : Mem} (h : FrL P A A') (g : FrL P A' A'') : FrL P A A'' := ⟨fun d p1 p2 p3 => (g.1 d p1 p2 p3).trans (h.1 d p1 p2 p3), fun j p1 p2 => (g.2.1 j p1 p2).trans (h.2.1 j p1 p2), fun j p1 p2 p3 p4 p5 => (g.2.2.1 j p1 p2 p3 p4 p5).trans (h.2.2.1 j p1 p2 p3 p4 p5), fun d p q => (g.2.2.2.1 d p q).trans (h.2.2.2.1 d p q), fun j p => (g.2.2.2.2 j p).trans (h.2.2.2.2 j p)⟩
theorem FrC.l {P : Nat} {A A' : Mem} (h : FrC P A A') : FrL P A A' := ⟨fun d p1 p2 p3 => h.1 d p1 p2 (by omega), h.2.1, fun j _ p2 p3 p4 p5 => h.2.2.1 j p2 p3 p4 p5, h.2.2.2.1, h.2.2.2.2⟩
theorem FrL.rf {P : Nat} {A : Mem} : FrL P A A := FrC.rf.l
theorem WRow.cl {P : Nat} {A A' : Mem} {ts : List Tk} (h : WRow A ts) (hP : 16 ≤ P) (hF : FrL P A A') : WRow A' ts := by
  refine ⟨h.1, fun i t e => ?_⟩
  rw [hF.1 5 (by decide) (by omega) (by omega), hF.1 7 (by decide) (by omega) (by omega), hF.2.2.2.1 6 (by decide) (by omega)]
  exact h.2 i t e
theorem FrL.put {P d n : Nat} {i v : Int32} {A : Mem} (hP : 16 ≤ P) (hd : d = P + 3 ∨ d = P + 4) : FrL P A (U_X10_put d i v n A) := by
  unfold U_X10_put
  dsimp only
  split
  · exact FrL.rf
  · split
    · exact FrL.rf
    · exact ⟨fun e p1 p2 p3 => fI (by omega), fun k p1 p2 => gI (Or.inl (by omega)), fun k p1 p2 p3 p4 p5 => gI (Or.inl (by omega)), fun _ _ _ => rfl, fun _ _ => rfl⟩
theorem closeRule_F {P : Nat} {A : Mem} (hP : 16 ≤ P) : FrL P A (U_X3_closeRule P A) ∧ (U_X3_closeRule P A).1 2 = A.1 2 ∧ (U_X3_closeRule P A).1 P 9 = A.1 P 9 := by
  unfold U_X3_closeRule
  dsimp only
  refine ⟨(FrL.tr (A' := setI A P 3 (A.1 P 3 + 1)) ⟨fun e p1 p2 p3 => fI p2, fun k p1 p2 => gI (Or.inl (by omega)), fun k p1 p2 p3 p4 p5 => gI (Or.inr p1), fun _ _ _ => rfl, fun _ _ => rfl⟩ (FrL.put hP (Or.inl rfl))).tr (FrL.put hP (Or.inr rfl)), ?_, ?_⟩
  · rw [put_d (by omega), put_d (by omega), fI (by omega)]
  · rw [put_d (by omega), put_d (by omega), gI (Or.inr (by decide))]
theorem closeRule_C {P r : Nat} {A : Mem} (hr : r < 96) (h3 : A.1 P 3 = nI r) : U_X3_closeRule P A = setI (setI (setI A P 3 (nI (r + 1))) (P + 3) (r + 1) (A.1 P 6)) (P + 4) (r + 1) (A.1 P 9) := by
  unfold U_X3_closeRule
  dsimp only
  rw [h3, nI_1, put_eq (x := P + 3) (k := r + 1) rfl (by omega) (by decide), gI (Or.inl (by omega)), gs_eI, gI (Or.inl (by omega)), gI (Or.inr (by decide)), put_eq (x := P + 4) (k := r + 1) rfl (by omega) (by decide)]
/-- the rule's end, when there is a fault -/
theorem rt3_F {P p : Nat} {A : Mem} (hp : p ≤ 800) (h : RdF A p) : bnd2 (R_X4_take 2 27 27 A) (fun v14 M14 => bnd1 (L_X4_readRule_97 2 P FUEL 0 M14) (fun M21 => bnd2 (R_X4_take 2 28 28 M21) (fun v22 M22 => some (U_X3_closeRule P M22)))) = some (U_X3_closeRule P A) := by
  obtain ⟨f, hf⟩ : ∃ f, FUEL = f + 1 := ⟨FUEL - 1, by unfold FUEL; omega⟩
  rw [hf, bnd2_e (take_F hp h), bnd1_e (acts_F hp h), bnd2_e (take_F hp h)]
theorem rule_F {P p : Nat} {A : Mem} (hp : p ≤ 800) (h : RdF A p) : R_X4_readRule 2 P A = some (U_X3_closeRule P A) := by
  unfold R_X4_readRule
  rw [bnd2_e (take_F hp h), bnd1_e (tests_F hp h)]
  exact rt3_F hp h
