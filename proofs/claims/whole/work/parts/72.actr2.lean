/-- what an act leaves alone -/
def FrC (P : Nat) (A A' : Mem) : Prop := (∀ d, d ≠ 2 → d ≠ P → ¬ (P + 5 ≤ d ∧ d < P + 15) → A'.1 d = A.1 d) ∧ (∀ j, j ≠ 7 → j ≠ 9 → A'.1 2 j = A.1 2 j) ∧ (∀ j, j ≠ 6 → j ≠ 9 → j ≠ 13 → j ≠ 15 → A'.1 P j = A.1 P j) ∧ (∀ d, d ≠ 2 → d ≠ P + 8 → A'.2 d = A.2 d) ∧ (∀ j, j ≠ 8 → A'.2 2 j = A.2 2 j)
theorem FrC.rf {P : Nat} {A : Mem} : FrC P A A := ⟨fun _ _ _ _ => rfl, fun _ _ _ => rfl, fun _ _ _ _ _ => rfl, fun _ _ _ => rfl, fun _ _ => rfl⟩
theorem FrC.tr {P : Nat} {A A' A'' : Mem} (h : FrC P A A') (g : FrC P A' A'') : FrC P A A'' := ⟨fun d p1 p2 p3 => (g.1 d p1 p2 p3).trans (h.1 d p1 p2 p3), fun j p1 p2 => (g.2.1 j p1 p2).trans (h.2.1 j p1 p2), fun j p1 p2 p3 p4 => (g.2.2.1 j p1 p2 p3 p4).trans (h.2.2.1 j p1 p2 p3 p4), fun d p q => (g.2.2.2.1 d p q).trans (h.2.2.2.1 d p q), fun j p => (g.2.2.2.2 j p).trans (h.2.2.2.2 j p)⟩
theorem FrQ.c {P : Nat} {A A' : Mem} (h : FrQ P A A') : FrC P A A' := ⟨fun d p1 p2 p3 => h.1 d p1 p2 (by omega) (by omega) (by omega), h.2.1, fun j p1 _ p3 p4 => h.2.2.1 j p1 p3 p4, fun d p _ => h.2.2.2.1 d p, h.2.2.2.2⟩
theorem WRow.cc {P : Nat} {A A' : Mem} {ts : List Tk} (h : WRow A ts) (hP : 16 ≤ P) (hF : FrC P A A') : WRow A' ts := by
  refine ⟨h.1, fun i t e => ?_⟩
  rw [hF.1 5 (by decide) (by omega) (by omega), hF.1 7 (by decide) (by omega) (by omega), hF.2.2.2.1 6 (by decide) (by omega)]
  exact h.2 i t e
/-- an act is put into the rows -/
def acA (P a : Nat) (x1 : Int32) (x2 : Int64) (v : Int32) (A : Mem) : Mem := setI (setI (setJ (setI A (P + 7) a x1) (P + 8) a x2) (P + 9) a v) P 9 (nI (a + 1))
theorem acA_d {P a d : Nat} {x1 v : Int32} {x2 : Int64} {A : Mem} (h1 : d ≠ P + 7) (h2 : d ≠ P + 9) (h3 : d ≠ P) : (acA P a x1 x2 v A).1 d = A.1 d := by
  unfold acA
  rw [fI h3, fI h2]
  show (setI A (P + 7) a x1).1 d = A.1 d
  rw [fI h1]
theorem acA_P {P a j : Nat} {x1 v : Int32} {x2 : Int64} {A : Mem} (h : j ≠ 9) : (acA P a x1 x2 v A).1 P j = A.1 P j := by
  unfold acA
  rw [gI (Or.inr h), gI (Or.inl (by omega))]
  show (setI A (P + 7) a x1).1 P j = A.1 P j
  rw [gI (Or.inl (by omega))]
theorem acA_F {P a : Nat} {x1 v : Int32} {x2 : Int64} {A : Mem} (hP : 16 ≤ P) : FrC P A (acA P a x1 x2 v A) ∧ (acA P a x1 x2 v A).1 2 = A.1 2 := by
  refine ⟨⟨fun d p1 p2 p3 => acA_d (by omega) (by omega) p2, fun j p1 p2 => by rw [acA_d (by omega) (by omega) (by omega)], fun j p1 p2 p3 p4 => acA_P p2, fun d p q => ?_, fun j p => ?_⟩, acA_d (by omega) (by omega) (by omega)⟩
  · show (setJ (setI A (P + 7) a x1) (P + 8) a x2).2 d = A.2 d
    rw [fJ q]; rfl
  · show (setJ (setI A (P + 7) a x1) (P + 8) a x2).2 2 j = A.2 2 j
    rw [gJ (Or.inl (by omega))]; rfl
theorem addAct_C {P a : Nat} {x1 x3 : Int32} {x2 : Int64} {A : Mem} (ha : a < 400) (h9 : A.1 P 9 = nI a) : R_X3_addAct P x1 x2 x3 A = some (acA P a x1 x2 (A.1 P 13 - x3) A) := by
  unfold R_X3_addAct
  rw [h9, if_neg (nleL (y := 400) 400 ha rfl (by decide)), ck_nI ha (by omega), ck_nI ha (by omega), ck_nI ha (by omega), nI_clamp (by omega), nI_1, bnd1_s]
  rfl
theorem addAct_F {P a : Nat} {x1 x3 : Int32} {x2 : Int64} {A : Mem} (hP : 16 ≤ P) (ha : a < 1000) (h9 : A.1 P 9 = nI a) : ∃ A', R_X3_addAct P x1 x2 x3 A = some A' ∧ FrC P A A' ∧ A'.1 2 = A.1 2 ∧ ∃ a', a' ≤ a + 1 ∧ A'.1 P 9 = nI a' := by
  by_cases c : a < 400
  · refine ⟨_, addAct_C c h9, (acA_F hP).1, (acA_F hP).2, a + 1, Nat.le_refl _, ?_⟩
    unfold acA; exact gs_eI
  · refine ⟨A, ?_, FrC.rf, rfl, a, by omega, h9⟩
    unfold R_X3_addAct
    rw [h9, if_pos (leL (y := 400) 400 (by omega) rfl (by omega)), bnd1_s]
/-- the act's end, when there is a fault -/
theorem actEnd_F {P p a w5 : Nat} {v1 : Int32} {w3 : Int64} {A : Mem} (hP : 16 ≤ P) (hp : p ≤ 800) (h5 : w5 < 10) (ha : a < 1000) (h9 : A.1 P 9 = nI a) (h : RdF A p) : ∃ A', bnd1 (L_X4_readAct_88 2 P v1 w3 (nI w5) FUEL 0 A) (fun M18 => bnd2 (R_X4_take 2 35 35 M18) (fun v19 M19 => bnd1 (R_X3_addAct P v1 w3 (nI w5) M19) (fun M20 => some M20))) = some A' ∧ RdF A' p ∧ FrC P A A' ∧ ∃ a', a' ≤ a + 1 ∧ A'.1 P 9 = nI a' := by
  obtain ⟨A1, q1, q2, q3⟩ := sums_F (w2 := v1) (w3 := w3) hP hp h5 w5 0 FUEL A (by omega) (by unfold FUEL; omega) h
  have h9' : A1.1 P 9 = nI a := (q3.2.2.1 9 (by decide) (by decide)).trans h9
  obtain ⟨A', y1, y2, y3, y4⟩ := addAct_F (x1 := v1) (x2 := w3) (x3 := nI w5) hP ha h9'
  refine ⟨A', ?_, q2.c y3, q3.q.c.tr y2, y4⟩
  rw [show (0 : Int32) = nI 0 from rfl, bnd1_e q1, bnd2_e (take_F hp q2), bnd1_e y1]
