/-! ===== the class reads words ===== -/
/-- the class's rows of words hold ts -/
def WRow (A : Mem) (ts : List Tk) : Prop := ts.length ≤ 801 ∧ ∀ i t, ts[i]? = some t → A.1 5 i = nI t.1 ∧ A.1 7 i = nI t.2.2.2 ∧ t.1 < 38 ∧ t.2.2.2 ≤ 800 ∧ (t.1 = 25 → A.2 6 i = Int64.ofNat t.2.2.1 ∧ t.2.2.1 ≤ 999) ∧ (t.1 = 26 → A.2 6 i = Int64.ofNat (pkN 32 t.2.1))
/-- the reader is ahead of word i, and no fault was found -/
def RdI (A : Mem) (i : Nat) : Prop := A.1 2 7 = nI i ∧ A.1 2 9 = -1
/-- a fault was found -/
def RdF (A : Mem) (p : Nat) : Prop := A.1 2 9 = nI p
theorem WRow.lt {A : Mem} {ts : List Tk} {i : Nat} {t : Tk} (_h : WRow A ts) (e : ts[i]? = some t) : i < ts.length := by
  obtain ⟨h, _⟩ := List.getElem?_eq_some_iff.mp e
  exact h
theorem kind_C {A : Mem} {ts : List Tk} {i : Nat} {t : Tk} (h : WRow A ts) (e : ts[i]? = some t) (hi : A.1 2 7 = nI i) : V_X4_kind 2 A = nI t.1 := by
  have hl := h.lt e
  have h1 := h.1
  unfold V_X4_kind
  dsimp only
  rw [hi, if_neg (nI_pos (by omega)), if_neg (nleL (y := 801) 801 (by omega) rfl (by decide)), nI_clamp (by omega)]
  exact (h.2 i t e).1
theorem refuse_C {A : Mem} {ts : List Tk} {i : Nat} {t : Tk} (h : WRow A ts) (e : ts[i]? = some t) (hi : RdI A i) : U_X4_refuse 2 A = setI A 2 9 (nI t.2.2.2) := by
  have hl := h.lt e
  have h1 := h.1
  unfold U_X4_refuse
  dsimp only
  rw [hi.2, if_neg m1_nle, hi.1, if_neg (nI_pos (by omega)), if_neg (nleL (y := 801) 801 (by omega) rfl (by decide)), nI_clamp (by omega)]
  rw [(h.2 i t e).2.1]
theorem refuse_F {A : Mem} {p : Nat} (hp : p ≤ 800) (h : RdF A p) : U_X4_refuse 2 A = A := by
  unfold U_X4_refuse
  dsimp only
  rw [h, if_pos (nI_pos' (by omega))]
/-- a word is taken -/
def tkC (A : Mem) (i : Nat) : Mem := setI (setJ A 2 8 (A.2 6 i)) 2 7 (nI (i + 1))
theorem take_C {A : Mem} {ts : List Tk} {i k1 k2 : Nat} {t : Tk} {x1 x2 : Int32} (h : WRow A ts) (e : ts[i]? = some t) (hi : RdI A i) (h1 : x1 = nI k1) (h2 : x2 = nI k2) (hk1 : k1 < 40) (hk2 : k2 < 40) : R_X4_take 2 x1 x2 A = some (if k1 ≤ t.1 ∧ t.1 ≤ k2 then (nI t.1, tkC A i) else (36, setI A 2 9 (nI t.2.2.2))) := by
  subst h1 h2
  have hl := h.lt e
  have hl1 := h.1
  have h38 := (h.2 i t e).2.2.1
  unfold R_X4_take
  rw [kind_C h e hi.1, bd1_s, hi.2, if_neg m1_nle, refuse_C h e hi]
  by_cases c1 : k1 ≤ t.1
  · rw [if_neg (show ¬ nI t.1 < nI k1 from nltL (y := nI k1) k1 c1 rfl (by omega))]
    by_cases c2 : t.1 ≤ k2
    · rw [if_neg (show ¬ nI k2 < nI t.1 from nltL (y := nI t.1) t.1 c2 rfl (by omega)), if_pos (show k1 ≤ t.1 ∧ t.1 ≤ k2 from ⟨c1, c2⟩), hi.1, if_neg (nleL (y := 801) 801 (by omega) rfl (by decide)), ck_nI (by omega) (by omega), nI_clamp (by omega), nI_1]
      rfl
    · rw [if_pos (show nI k2 < nI t.1 from ltL (y := nI t.1) t.1 (by omega) rfl (by omega)), if_neg (show ¬ (k1 ≤ t.1 ∧ t.1 ≤ k2) from fun q => c2 q.2)]
  · rw [if_pos (show nI t.1 < nI k1 from ltL (y := nI k1) k1 (by omega) rfl (by omega)), if_neg (show ¬ (k1 ≤ t.1 ∧ t.1 ≤ k2) from fun q => c1 q.1)]
theorem take_F {A : Mem} {p : Nat} {x1 x2 : Int32} (hp : p ≤ 800) (h : RdF A p) : R_X4_take 2 x1 x2 A = some (36, A) := by
  unfold R_X4_take
  rw [bd1_s, refuse_F hp h, h, if_pos (nI_pos' (by omega))]
