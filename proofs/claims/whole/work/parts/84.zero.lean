/-! ===== the first places of a program's rows stay 0, in fault or not ===== -/
def Za (P : Nat) (A A' : Mem) : Prop := (∀ j, j = 0 ∨ j = 3 ∨ j = 13 → A'.1 P j = A.1 P j) ∧ (∀ d, d = P + 2 ∨ d = P + 3 ∨ d = P + 4 ∨ d = P + 10 → A'.1 d 0 = A.1 d 0)
def Z0 (P : Nat) (A : Mem) : Prop := ∀ d, d = P + 2 ∨ d = P + 3 ∨ d = P + 4 ∨ d = P + 10 → A.1 d 0 = 0
def Zr (P N : Nat) (A : Mem) : Prop := Z0 P A ∧ (∃ s, s ≤ N ∧ A.1 P 13 = nI s) ∧ (∃ r, r ≤ N ∧ A.1 P 3 = nI r) ∧ (∃ n, n ≤ N ∧ A.1 P 0 = nI n)
theorem Za.rf {P : Nat} {A : Mem} : Za P A A := ⟨fun _ _ => rfl, fun _ _ => rfl⟩
theorem Za.tr {P : Nat} {A A1 A' : Mem} (h : Za P A A1) (g : Za P A1 A') : Za P A A' := ⟨fun j p => (g.1 j p).trans (h.1 j p), fun d p => (g.2 d p).trans (h.2 d p)⟩
theorem Za.o {P : Nat} {A A' : Mem} (hP : 16 ≤ P) (h : ∀ d, d ≠ 2 → A'.1 d = A.1 d) : Za P A A' := ⟨fun j _ => by rw [h P (by omega)], fun d p => by rw [h d (by omega)]⟩
theorem Zr.a {P N : Nat} {A A' : Mem} (h : Zr P N A) (g : Za P A A') : Zr P N A' := by
  obtain ⟨h0, ⟨s, h1, h2⟩, ⟨r, h3, h4⟩, n, h5, h6⟩ := h
  exact ⟨fun d p => (g.2 d p).trans (h0 d p), ⟨s, h1, by rw [g.1 13 (by omega)]; exact h2⟩, ⟨r, h3, by rw [g.1 3 (by omega)]; exact h4⟩, n, h5, by rw [g.1 0 (by omega)]; exact h6⟩
theorem Zr.le {P N N' : Nat} {A : Mem} (h : Zr P N A) (hN : N ≤ N') : Zr P N' A := by
  obtain ⟨h0, ⟨s, h1, h2⟩, ⟨r, h3, h4⟩, n, h5, h6⟩ := h
  exact ⟨h0, ⟨s, by omega, h2⟩, ⟨r, by omega, h4⟩, n, by omega, h6⟩
theorem refuse_o {M : Mem} {d : Nat} (hd : d ≠ 2) : (U_X4_refuse 2 M).1 d = M.1 d := by
  unfold U_X4_refuse
  dsimp only
  split
  · rfl
  · split
    · rfl
    · split
      · rfl
      · exact fI hd
theorem take_o {x1 x2 v : Int32} {M M' : Mem} (h : R_X4_take 2 x1 x2 M = some (v, M')) {d : Nat} (hd : d ≠ 2) : M'.1 d = M.1 d := by
  unfold R_X4_take at h
  rw [bd1_s] at h
  split at h
  · cases h; exact refuse_o hd
  · split at h
    · cases h; exact refuse_o hd
    · split at h
      · cases h; exact refuse_o hd
      · split at h
        · cases h; exact refuse_o hd
        · have h2 := (ck_el h).2
          cases h2
          rw [fI hd]
          rfl
theorem rif_o {c : Prop} [Decidable c] {M : Mem} {d : Nat} (hd : d ≠ 2) : (if c then U_X4_refuse 2 M else M).1 d = M.1 d := by
  split
  · exact refuse_o hd
  · rfl
theorem addTerm_a {P : Nat} {x1 x2 x3 x4 : Int32} {A : Mem} : Za P A (U_X3_addTerm P x1 x2 x3 x4 A) := by
  unfold U_X3_addTerm
  dsimp only
  refine ⟨fun j p => ?_, fun d p => ?_⟩
  · rw [gI (Or.inr (by omega)), put_d (by omega), put_d (by omega), put_d (by omega), put_d (by omega)]
  · rw [fI (by omega), put_d (by omega), put_d (by omega), put_d (by omega), put_d (by omega)]
theorem rT5_o {P : Nat} {x2 : Int32} : ∀ (n : Nat) (u3 u4 : Int32) (M : Mem) (v : Int32) (M' : Mem), L_X4_readTerm_5 2 P x2 n u3 u4 M = some (v, M') → ∀ d, d ≠ 2 → M'.1 d = M.1 d := by
  intro n
  induction n with
  | zero => intro u3 u4 M v M' h; cases h
  | succ n ih =>
    intro u3 u4 M v M' h d hd
    rw [L_X4_readTerm_5] at h
    split at h
    · cases h; rfl
    · split at h
      · cases h; rfl
      · split at h
        · rw [bd1_s] at h
          obtain ⟨v6, M6, e, h⟩ := bnd2_el h
          rw [ih _ _ _ _ _ h d hd, take_o e hd, rif_o hd]
        · cases h; rfl
theorem readTerm_a {P : Nat} {x2 : Int32} {M M' : Mem} (hP : 16 ≤ P) (h : R_X4_readTerm 2 P x2 M = some M') : Za P M M' := by
  unfold R_X4_readTerm at h
  obtain ⟨v7, M7, e7, h⟩ := bnd2_el h
  obtain ⟨v8, M8, e8, h⟩ := bnd2_el h
  obtain ⟨M18, e18, h⟩ := bnd1_el h
  cases h
  have o8 : Za P M M8 := Za.o hP (fun d hd => by rw [take_o e8 hd, rT5_o _ _ _ _ _ _ e7 d hd])
  split at e18
  · split at e18
    · split at e18
      · cases e18; exact o8.tr addTerm_a
      · cases e18; exact o8.tr addTerm_a
    · cases e18; exact o8.tr addTerm_a
  · obtain ⟨M26, e26, e18⟩ := bnd1_el e18
    obtain ⟨v29, M29, e29, e18⟩ := bnd2_el e18
    cases e18
    have o26 : ∀ d, d ≠ 2 → M26.1 d = M8.1 d := by
      split at e26
      · cases e26; exact fun _ _ => rfl
      · have e26 := (ck_el e26).2
        split at e26
        · cases e26; exact fun _ _ => rfl
        · cases e26; exact fun d hd => refuse_o hd
    exact (o8.tr (Za.o hP (fun d hd => by rw [take_o e29 hd, o26 d hd]))).tr addTerm_a
theorem rS8_a {P : Nat} (hP : 16 ≤ P) : ∀ (n : Nat) (u2 u3 u4 : Int32) (M M' : Mem), L_X4_readSum_8 2 P n u2 u3 u4 M = some M' → Za P M M' := by
  intro n
  induction n with
  | zero => intro u2 u3 u4 M M' h; cases h
  | succ n ih =>
    intro u2 u3 u4 M M' h
    rw [L_X4_readSum_8] at h
    split at h
    · cases h; exact Za.rf
    · split at h
      · cases h; exact Za.rf
      · split at h
        · cases h; exact Za.rf
        · rw [bd1_s] at h
          obtain ⟨M6, e6, h⟩ := bnd1_el h
          obtain ⟨v8, _, h⟩ := bd1_el h
          obtain ⟨v12, M12, e12, h⟩ := bnd2_el h
          have o6 := (Za.o (A := M) hP (fun d hd => rif_o hd)).tr (readTerm_a hP e6)
          have o12 : Za P M6 M12 := by
            split at e12
            · cases e12; exact Za.rf
            · obtain ⟨v13, M13, e13, e12⟩ := bnd2_el e12
              cases e12
              exact Za.o hP (fun d hd => take_o e13 hd)
          exact (o6.tr o12).tr (ih _ _ _ _ _ h)
theorem put_0 {x n k : Nat} {v : Int32} {A : Mem} (hk : k + 1 < 2 ^ 31) : (U_X10_put x (nI (k + 1)) v n A).1 x 0 = A.1 x 0 := by
  unfold U_X10_put
  dsimp only
  split
  · rfl
  · split
    · rfl
    · exact gI (Or.inr (by rw [nI_clamp hk]; omega))
theorem closeSum_z {P N : Nat} {A : Mem} (hN : N < 2 ^ 30) (h : Zr P N A) : Zr P (N + 1) (U_X3_closeSum P A) := by
  obtain ⟨h0, ⟨s, h1, h2⟩, ⟨r, h3, h4⟩, n, h5, h6⟩ := h
  unfold U_X3_closeSum
  rw [h2, nI_1]
  have e : ∀ j, (U_X10_put (P + 10) (nI (s + 1)) (A.1 P 15) 401 (setI A P 13 (nI (s + 1)))).1 P j = (setI A P 13 (nI (s + 1))).1 P j := fun j => by rw [put_d (by omega)]
  refine ⟨fun d p => ?_, ⟨s + 1, by omega, ?_⟩, ⟨r, by omega, ?_⟩, n, by omega, ?_⟩
  · by_cases c : d = P + 10
    · subst c; rw [put_0 (by omega), gI (Or.inl (by omega))]; exact h0 _ p
    · rw [put_d c, gI (Or.inl (by omega))]; exact h0 d p
  · rw [e, gs_eI]
  · rw [e, gI (Or.inr (by omega))]; exact h4
  · rw [e, gI (Or.inr (by omega))]; exact h6
theorem readSum_z {P N : Nat} {M M' : Mem} (hP : 16 ≤ P) (hN : N < 2 ^ 30) (h : R_X4_readSum 2 P M = some M') (hz : Zr P N M) : Zr P (N + 1) M' := by
  unfold R_X4_readSum at h
  obtain ⟨M14, e, h⟩ := bnd1_el h
  cases h
  exact closeSum_z hN (hz.a (rS8_a hP _ _ _ _ _ _ e))
theorem addTest_a {P : Nat} {x : Int32} {A : Mem} : Za P A (U_X3_addTest P x A) := by
  unfold U_X3_addTest
  dsimp only
  refine ⟨fun j p => ?_, fun d p => ?_⟩
  · rw [gI (Or.inr (by omega)), put_d (by omega), put_d (by omega)]
  · rw [fI (by omega), put_d (by omega), put_d (by omega)]
theorem rR11_z {P : Nat} (hP : 16 ≤ P) : ∀ (n i11 N : Nat) (u2 : Int32) (M M' : Mem), N + 2 * n < 2 ^ 30 → L_X4_readRule_11 2 P n i11 u2 M = some M' → Zr P N M → Zr P (N + 2 * n) M' := by
  intro n
  induction n with
  | zero => intro i11 N u2 M M' _ h hz; cases h; exact hz
  | succ n ih =>
    intro i11 N u2 M M' hN h hz
    rw [L_X4_readRule_11] at h
    split at h
    · cases h; exact hz.le (by omega)
    · split at h
      · cases h; exact hz.le (by omega)
      · obtain ⟨M4, e4, h⟩ := bnd1_el h
        obtain ⟨v5, M5, e5, h⟩ := bnd2_el h
        obtain ⟨M6, e6, h⟩ := bnd1_el h
        obtain ⟨v8, _, h⟩ := bd1_el h
        obtain ⟨M11, e11, h⟩ := bnd1_el h
        have z4 := readSum_z hP (by omega) e4 hz
        have z5 := z4.a (Za.o hP (fun d hd => take_o e5 hd))
        have z6 := readSum_z hP (by omega) e6 z5
        have z7 := z6.a (addTest_a (x := v5))
        have z11 : Zr P (N + 1 + 1) M11 := by
          split at e11
          · cases e11; exact z7
          · obtain ⟨v12, M12, e12, e11⟩ := bnd2_el e11
            cases e11
            exact z7.a (Za.o hP (fun d hd => take_o e12 hd))
        exact (ih _ (N + 1 + 1) _ _ _ (by omega) h z11).le (by omega)
theorem rA88_z {P : Nat} {w2 : Int32} {w3 : Int64} {w : Nat} (hP : 16 ≤ P) (hw : w ≤ 3) : ∀ (n u N : Nat) (M M' : Mem), u ≤ w → N + (w - u) < 2 ^ 30 → L_X4_readAct_88 2 P w2 w3 (nI w) n (nI u) M = some M' → Zr P N M → Zr P (N + (w - u)) M' := by
  intro n
  induction n with
  | zero => intro u N M M' _ _ h; cases h
  | succ n ih =>
    intro u N M M' hu hN h hz
    rw [L_X4_readAct_88] at h
    split at h
    · cases h; exact hz.le (by omega)
    · rename_i c
      obtain ⟨M17, e, h⟩ := bnd1_el h
      have hlt : u < w := Nat.lt_of_not_le (fun q => c (nI_le q (by omega)))
      rw [nI_1] at h
      exact (ih (u + 1) (N + 1) _ _ (by omega) (by omega) h (readSum_z hP (by omega) e hz)).le (by omega)
theorem addAct_z {P : Nat} {x1 x3 : Int32} {x2 : Int64} {M M' : Mem} (h : R_X3_addAct P x1 x2 x3 M = some M') : Za P M M' := by
  unfold R_X3_addAct at h
  obtain ⟨M3, e, h⟩ := bnd1_el h
  cases h
  split at e
  · cases e; exact Za.rf
  · have e := (ck_el (ck_el (ck_el e).2).2).2
    cases e
    refine ⟨fun j p => ?_, fun d p => ?_⟩
    · rw [gI (Or.inr (by omega)), gI (Or.inl (by omega))]
      exact gI (Or.inl (by omega))
    · rw [gI (Or.inl (by omega)), gI (Or.inl (by omega))]
      exact gI (Or.inl (by omega))
theorem readAct_z {P N : Nat} {M M' : Mem} (hP : 16 ≤ P) (hN : N + 3 < 2 ^ 30) (h : R_X4_readAct 2 P M = some M') (hz : Zr P N M) : Zr P (N + 3) M' := by
  unfold R_X4_readAct at h
  obtain ⟨v1, M1, e1, h⟩ := bnd2_el h
  obtain ⟨v80, v81, M8, e8, h⟩ := bnd3_el h
  obtain ⟨M18, e18, h⟩ := bnd1_el h
  obtain ⟨v19, M19, e19, h⟩ := bnd2_el h
  obtain ⟨M20, e20, h⟩ := bnd1_el h
  cases h
  have z1 := hz.a (Za.o hP (fun d hd => take_o e1 hd))
  have z8 : Zr P N M8 ∧ ∃ w, w ≤ 3 ∧ v81 = nI w := by
    split at e8
    · obtain ⟨v, M15, e15, e8⟩ := bnd2_el e8
      cases e8
      exact ⟨z1.a (Za.o hP (fun d hd => take_o e15 hd)), 0, by omega, rfl⟩
    · split at e8
      · obtain ⟨v, M15, e15, e8⟩ := bnd2_el e8
        cases e8
        exact ⟨z1.a (Za.o hP (fun d hd => take_o e15 hd)), 1, by omega, rfl⟩
      · split at e8
        · cases e8; exact ⟨z1, 2, by omega, rfl⟩
        · split at e8
          · cases e8; exact ⟨z1, 2, by omega, rfl⟩
          · split at e8
            · cases e8; exact ⟨z1, 3, by omega, rfl⟩
            · cases e8; exact ⟨z1, 0, by omega, rfl⟩
  obtain ⟨z8, w, hw, rfl⟩ := z8
  have z18 := rA88_z hP hw _ 0 N _ _ (by omega) (by omega) e18 z8
  exact (((z18.a (Za.o hP (fun d hd => take_o e19 hd))).a (addAct_z e20))).le (by omega)
theorem rR97_z {P : Nat} (hP : 16 ≤ P) : ∀ (n u N : Nat) (M M' : Mem), u ≤ 9 → N + 3 * (9 - u) < 2 ^ 30 → L_X4_readRule_97 2 P n (nI u) M = some M' → Zr P N M → Zr P (N + 3 * (9 - u)) M' := by
  intro n
  induction n with
  | zero => intro u N M M' _ _ h; cases h
  | succ n ih =>
    intro u N M M' hu hN h hz
    rw [L_X4_readRule_97] at h
    split at h
    · cases h; exact hz.le (by omega)
    · rename_i c
      have hlt : u < 9 := Nat.lt_of_not_le (fun q => c (nI_lt (a := 8) (b := u) (by omega) (by omega)))
      split at h
      · cases h; exact hz.le (by omega)
      · split at h
        · cases h; exact hz.le (by omega)
        · rw [bd1_s] at h
          obtain ⟨M20, e, h⟩ := bnd1_el h
          rw [nI_1] at h
          have z := readAct_z hP (by omega) e (hz.a (Za.o hP (fun d hd => rif_o hd)))
          exact (ih (u + 1) (N + 3) _ _ (by omega) (by omega) h z).le (by omega)
theorem closeRule_z {P N : Nat} {A : Mem} (hN : N < 2 ^ 30) (h : Zr P N A) : Zr P (N + 1) (U_X3_closeRule P A) := by
  obtain ⟨h0, ⟨s, h1, h2⟩, ⟨r, h3, h4⟩, n, h5, h6⟩ := h
  unfold U_X3_closeRule
  dsimp only
  rw [h4, nI_1]
  have e3 : (U_X10_put (P + 3) (nI (r + 1)) (A.1 P 6) 97 (setI A P 3 (nI (r + 1)))).1 P 3 = nI (r + 1) := by rw [put_d (by omega), gs_eI]
  rw [e3]
  refine ⟨fun d p => ?_, ⟨s, by omega, ?_⟩, ⟨r + 1, by omega, ?_⟩, n, by omega, ?_⟩
  · by_cases c : d = P + 4
    · subst c; rw [put_0 (by omega), put_d (by omega), gI (Or.inl (by omega))]; exact h0 _ p
    · rw [put_d c]
      by_cases c3 : d = P + 3
      · subst c3; rw [put_0 (by omega), gI (Or.inl (by omega))]; exact h0 _ p
      · rw [put_d c3, gI (Or.inl (by omega))]; exact h0 d p
  · rw [put_d (by omega), put_d (by omega), gI (Or.inr (by omega))]; exact h2
  · rw [put_d (by omega)]; exact e3
  · rw [put_d (by omega), put_d (by omega), gI (Or.inr (by omega))]; exact h6
theorem readRule_z {P N : Nat} {M M' : Mem} (hP : 16 ≤ P) (hN : N + 1700 < 2 ^ 30) (h : R_X4_readRule 2 P M = some M') (hz : Zr P N M) : Zr P (N + 1700) M' := by
  unfold R_X4_readRule at h
  obtain ⟨v1, M1, e1, h⟩ := bnd2_el h
  obtain ⟨M13, e13, h⟩ := bnd1_el h
  obtain ⟨v14, M14, e14, h⟩ := bnd2_el h
  obtain ⟨M21, e21, h⟩ := bnd1_el h
  obtain ⟨v22, M22, e22, h⟩ := bnd2_el h
  cases h
  have z1 := hz.a (Za.o hP (fun d hd => take_o e1 hd))
  have z13 := rR11_z hP 800 0 N _ _ _ (by omega) e13 z1
  have z14 := z13.a (Za.o hP (fun d hd => take_o e14 hd))
  have z21 := rR97_z hP _ 0 _ _ _ (by omega) (by omega) e21 z14
  exact (closeRule_z (by omega) (z21.a (Za.o hP (fun d hd => take_o e22 hd)))).le (by omega)
theorem c91_z {P : Nat} {w2 : Int32} (hP : 16 ≤ P) : ∀ (n u N : Nat) (M M' : Mem), u ≤ 13 → N + 1700 * (13 - u) < 2 ^ 30 → L_X4_compile_91 2 P w2 n (nI u) M = some M' → Zr P N M → Zr P (N + 1700 * (13 - u)) M' := by
  intro n
  induction n with
  | zero => intro u N M M' _ _ h; cases h
  | succ n ih =>
    intro u N M M' hu hN h hz
    rw [L_X4_compile_91] at h
    split at h
    · cases h; exact hz.le (by omega)
    · rename_i c
      have hlt : u < 13 := Nat.lt_of_not_le (fun q => c (nI_lt (a := 12) (b := u) (by omega) (by omega)))
      split at h
      · cases h; exact hz.le (by omega)
      · split at h
        · rw [bd1_s] at h
          obtain ⟨M20, e, h⟩ := bnd1_el h
          rw [nI_1] at h
          have z := readRule_z hP (by omega) e (hz.a (Za.o hP (fun d hd => rif_o hd)))
          exact (ih (u + 1) (N + 1700) _ _ (by omega) (by omega) h z).le (by omega)
        · cases h; exact hz.le (by omega)
theorem openState_z {P : Nat} {x : Int64} {M M' : Mem} (h : R_X3_openState P x M = some M') : Za P M M' := by
  unfold R_X3_openState at h
  obtain ⟨M3, e, h⟩ := bnd1_el h
  cases h
  split at e
  · cases e; exact Za.rf
  · have e := (ck_el e).2
    cases e
    exact Za.rf
theorem closeState_z {P N : Nat} {A : Mem} (hN : N < 2 ^ 30) (h : Zr P N A) : Zr P (N + 1) (U_X3_closeState P A) := by
  obtain ⟨h0, ⟨s, h1, h2⟩, ⟨r, h3, h4⟩, n, h5, h6⟩ := h
  unfold U_X3_closeState
  rw [h6, nI_1]
  refine ⟨fun d p => ?_, ⟨s, by omega, ?_⟩, ⟨r, by omega, ?_⟩, n + 1, by omega, ?_⟩
  · by_cases c : d = P + 2
    · subst c; rw [put_0 (by omega), gI (Or.inl (by omega))]; exact h0 _ p
    · rw [put_d c, gI (Or.inl (by omega))]; exact h0 d p
  · rw [put_d (by omega), gI (Or.inr (by omega))]; exact h2
  · rw [put_d (by omega), gI (Or.inr (by omega))]; exact h4
  · rw [put_d (by omega), gs_eI]
theorem stB_z {P N : Nat} {u2 : Int32} {M M' : Mem} (hP : 16 ≤ P) (hN : N + 23000 < 2 ^ 30) (h : stB P u2 M = some M') (hz : Zr P N M) : Zr P (N + 23000) M' := by
  unfold stB stE at h
  obtain ⟨v1, M1, e1, h⟩ := bnd2_el h
  obtain ⟨v2, M2, e2, h⟩ := bnd2_el h
  obtain ⟨M3, e3, h⟩ := bnd1_el h
  obtain ⟨v4, M4, e4, h⟩ := bnd2_el h
  obtain ⟨M5, e5, h⟩ := bnd1_el h
  obtain ⟨v6, M6, e6, h⟩ := bnd2_el h
  cases h
  have z2 := (hz.a (Za.o hP (fun d hd => take_o e1 hd))).a (Za.o hP (fun d hd => take_o e2 hd))
  have z4 := (z2.a (openState_z e3)).a (Za.o hP (fun d hd => take_o e4 hd))
  have z5 := c91_z hP _ 0 N _ _ (by omega) (by omega) e5 z4
  exact (closeState_z (by omega) (z5.a (Za.o hP (fun d hd => take_o e6 hd)))).le (by omega)
theorem c20_z {P : Nat} (hP : 16 ≤ P) : ∀ (n u N : Nat) (M M' : Mem), u ≤ 9 → N + 23000 * (9 - u) < 2 ^ 30 → L_X4_compile_20 2 P n (nI u) M = some M' → Zr P N M → Zr P (N + 23000 * (9 - u)) M' := by
  intro n
  induction n with
  | zero => intro u N M M' _ _ h; cases h
  | succ n ih =>
    intro u N M M' hu hN h hz
    rw [comp20] at h
    split at h
    · cases h; exact hz.le (by omega)
    · rename_i c
      have hlt : u < 9 := Nat.lt_of_not_le (fun q => c (nI_lt (a := 8) (b := u) (by omega) (by omega)))
      have key : ∀ Q : Prop, ∀ [Decidable Q], bnd1 (stB P (nI u) (if Q then (U_X4_refuse 2 M) else M)) (fun M' => L_X4_compile_20 2 P n (nI u + 1) M') = some M' → Zr P (N + 23000 * (9 - u)) M' := by
        intro Q _ h
        obtain ⟨M20, e, h⟩ := bnd1_el h
        rw [nI_1] at h
        have z := stB_z hP (by omega) e (hz.a (Za.o hP (fun d hd => rif_o hd)))
        exact (ih (u + 1) (N + 23000) _ _ (by omega) (by omega) h z).le (by omega)
      split at h
      · cases h; exact hz.le (by omega)
      · split at h
        · exact key _ h
        · split at h
          · cases h; exact hz.le (by omega)
          · exact key _ h
