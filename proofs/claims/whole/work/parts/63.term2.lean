/-- the words end with one that no rule takes -/
def EndW (ws : List Tk) : Prop := ∀ i t, ws[i]? = some t → t.1 ≤ 35 → i + 1 < ws.length
theorem get_lt {ws : List Tk} {i : Nat} (h : i < ws.length) : ∃ t, ws[i]? = some t := ⟨ws[i], List.getElem?_eq_getElem h⟩
theorem drop_c {ws : List Tk} {i : Nat} {t : Tk} (e : ws[i]? = some t) : ws.drop i = t :: ws.drop (i + 1) := by
  obtain ⟨h, rfl⟩ := List.getElem?_eq_some_iff.mp e
  exact List.drop_eq_getElem_cons h
theorem RdI.t {A : Mem} {i : Nat} (h : RdI A i) : RdI (tkC A i) (i + 1) := by
  refine ⟨?_, ?_⟩
  · unfold tkC; exact gs_eI
  · unfold tkC; rw [gI (Or.inr (by decide))]; exact h.2
theorem RdF.s {A : Mem} {p : Nat} : RdF (setI A 2 9 (nI p)) p := gs_eI
theorem tkC_d {A : Mem} {i d : Nat} (h : d ≠ 2) : (tkC A i).1 d = A.1 d := by unfold tkC; rw [fI h]; rfl
theorem tkC_v {A : Mem} {i : Nat} : (tkC A i).2 2 8 = A.2 6 i := by
  show (if 2 = 2 ∧ 8 = 8 then A.2 6 i else A.2 2 8) = A.2 6 i
  exact if_pos (show 2 = 2 ∧ 8 = 8 from ⟨rfl, rfl⟩)
theorem n33 : ∀ {k : Nat}, k < 38 → k ≠ 33 → ¬ nI k = (33 : Int32) := fun h1 h2 q => h2 ((nI_eq (by omega) (by decide)).mp (q.trans (show (33 : Int32) = nI 33 from rfl)))
/-- the minus signs -/
theorem min_C {P : Nat} {x2 : Int32} {ws : List Tk} (hP : 16 ≤ P) (hE : EndW ws) : ∀ (j i k f : Nat) (s : Int32) (A : Mem), k + j = 6 → j + 1 < f → WRow A ws → RdI A i → i < ws.length →
    (∃ s' i' A', pMin (ws.drop i) k s = .inl (s', ws.drop i') ∧ i' < ws.length ∧ i ≤ i' ∧ L_X4_readTerm_5 2 P x2 f s (nI k) A = some (s', A') ∧ RdI A' i' ∧ FrT P A A' ∧ ∀ d, d ≠ 2 → A'.1 d = A.1 d) ∨
    (∃ p s' A', pMin (ws.drop i) k s = .inr p ∧ p ≤ 800 ∧ L_X4_readTerm_5 2 P x2 f s (nI k) A = some (s', A') ∧ RdF A' p ∧ FrT P A A') := by
  intro j
  induction j with
  | zero =>
    intro i k f s A hk hf hW hR hi
    obtain ⟨f, rfl⟩ : ∃ m, f = m + 1 := ⟨f - 1, by omega⟩
    obtain ⟨f, rfl⟩ : ∃ m, f = m + 1 := ⟨f - 1, by omega⟩
    have hk6 : k = 6 := by omega
    subst hk6
    obtain ⟨t, e⟩ := get_lt hi
    obtain ⟨w1, w2, w3, w4, w5⟩ := hW.2 i t e
    rw [drop_c e, pMin]
    have L1 : L_X4_readTerm_5 2 P x2 (f + 1 + 1) s (nI 6) A = (if nI t.1 = (33 : Int32) then (bd1 (if nI 6 = (6 : Int32) then (U_X4_refuse 2 A) else A) (fun M5 => bnd2 (R_X4_take 2 (33 : Int32) (33 : Int32) M5) (fun v6 M6 => L_X4_readTerm_5 2 P x2 (f + 1) (-s) (nI 6 + 1) M6))) else (some (s, A))) := by
      rw [L_X4_readTerm_5, if_neg (show ¬ (6 : Int32) < nI 6 by decide), hR.2, if_neg m1_nle, kind_C hW e hR.1]
    by_cases c : t.1 = 33
    · right
      rw [if_pos c, if_pos rfl]
      have F := RdF.s (A := A) (p := t.2.2.2)
      refine ⟨t.2.2.2, -s, setI A 2 9 (nI t.2.2.2), rfl, w4, ?_, F, FrT.rd hP (Or.inr rfl)⟩
      rw [L1, c, if_pos (show nI 33 = (33 : Int32) from rfl), if_pos (show nI 6 = (6 : Int32) from rfl), bd1_s, refuse_C hW e hR, bnd2_e (take_F w4 F), L_X4_readTerm_5, if_pos (by decide)]
    · left
      rw [if_neg c]
      exact ⟨s, i, A, by rw [drop_c e], hi, Nat.le_refl _, by rw [L1, if_neg (n33 w3 c)], hR, FrT.rf, fun _ _ => rfl⟩
  | succ j ih =>
    intro i k f s A hk hf hW hR hi
    obtain ⟨f, rfl⟩ : ∃ m, f = m + 1 := ⟨f - 1, by omega⟩
    obtain ⟨t, e⟩ := get_lt hi
    obtain ⟨w1, w2, w3, w4, w5⟩ := hW.2 i t e
    rw [drop_c e, pMin]
    have hk6 : ¬ nI k = (6 : Int32) := fun q => by
      have := (nI_eq (by omega) (by decide)).mp (q.trans (show (6 : Int32) = nI 6 from rfl))
      omega
    have L1 : L_X4_readTerm_5 2 P x2 (f + 1) s (nI k) A = (if nI t.1 = (33 : Int32) then (bnd2 (R_X4_take 2 (33 : Int32) (33 : Int32) A) (fun v6 M6 => L_X4_readTerm_5 2 P x2 f (-s) (nI (k + 1)) M6)) else (some (s, A))) := by
      rw [L_X4_readTerm_5, if_neg (show ¬ (6 : Int32) < nI k from nI_nlt (a := 6) (b := k) (by omega) (by decide)), hR.2, if_neg m1_nle, kind_C hW e hR.1, if_neg hk6, bd1_s, nI_1]
    by_cases c : t.1 = 33
    · rw [if_pos c, if_neg (by omega)]
      have T := take_C (x1 := 33) (x2 := 33) (k1 := 33) (k2 := 33) hW e hR rfl rfl (by decide) (by decide)
      rw [if_pos (by omega)] at T
      rw [L1, c, if_pos (show nI 33 = (33 : Int32) from rfl), bnd2_e T]
      have FT := FrT.tk (A := A) (i := i) hP
      have hn := hE i t e (by omega)
      rcases ih (i + 1) (k + 1) f (-s) (tkC A i) (by omega) (by omega) (hW.cg hP FT) hR.t hn with ⟨s', i', A', g1, g2, g3, g4, g5, g6, g7⟩ | ⟨p, s', A', g1, g2, g3, g4, g5⟩
      · exact Or.inl ⟨s', i', A', g1, g2, by omega, g4, g5, FT.tr g6, fun d hd => (g7 d hd).trans (tkC_d hd)⟩
      · exact Or.inr ⟨p, s', A', g1, g2, g3, g4, FT.tr g5⟩
    · left
      rw [if_neg c]
      exact ⟨s, i, A, by rw [drop_c e], hi, Nat.le_refl _, by rw [L1, if_neg (n33 w3 c)], hR, FrT.rf, fun _ _ => rfl⟩
