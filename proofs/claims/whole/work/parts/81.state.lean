/-! ===== the class reads states ===== -/
abbrev PS : Type := List Nat × List PL
def pState (ts : List Tk) : PR PS :=
  pthen (pWord 0 0 ts) fun _ ts => pthen (pWord 26 26 ts) fun n ts => pthen (pWord 27 27 ts) fun _ ts => pthen (pRules 12 ts) fun l ts => pthen (pWord 28 28 ts) fun _ ts => .inl ((n.2.1, l), ts)
/-- states up to the end: at most g more -/
def pStates : Nat → List Tk → PR (List PS)
  | 0, ts => if kd0 ts = 37 then .inl ([], ts) else .inr (ps0 ts)
  | g + 1, ts => if kd0 ts = 37 then .inl ([], ts) else pthen (pState ts) fun a ts => pthen (pStates g ts) fun l us => .inl (a :: l, us)
/-- a program: one state at least, eight at most -/
def pProg (ts : List Tk) : PR (List PS) := pthen (pState ts) fun a ts => pthen (pStates 7 ts) fun l us => .inl (a :: l, us)
theorem openState_C {P n : Nat} {x : Int64} {A : Mem} (hn : n < 8) (h0 : A.1 P 0 = nI n) : R_X3_openState P x A = some (setJ A (P + 1) n x) := by
  unfold R_X3_openState
  rw [h0, if_neg (nleL (y := 8) 8 hn rfl (by decide)), ck_nI hn (by omega), nI_clamp (by omega), bnd1_s]
theorem openState_F {P n : Nat} {x : Int64} {A : Mem} (hn : n ≤ 8) (h0 : A.1 P 0 = nI n) : ∃ A', R_X3_openState P x A = some A' ∧ A'.1 = A.1 ∧ ∀ d, d ≠ P + 1 → A'.2 d = A.2 d := by
  by_cases c : n < 8
  · exact ⟨_, openState_C c h0, rfl, fun d hd => fJ hd⟩
  · refine ⟨A, ?_, rfl, fun _ _ => rfl⟩
    unfold R_X3_openState
    rw [h0, if_pos (leL (y := 8) 8 (by omega) rfl (by omega)), bnd1_s]
theorem closeState_C {P n : Nat} {A : Mem} (hn : n < 8) (h0 : A.1 P 0 = nI n) : U_X3_closeState P A = setI (setI A P 0 (nI (n + 1))) (P + 2) (n + 1) (A.1 P 3) := by
  unfold U_X3_closeState
  rw [h0, nI_1, put_eq (x := P + 2) (k := n + 1) rfl (by omega) (by decide)]
