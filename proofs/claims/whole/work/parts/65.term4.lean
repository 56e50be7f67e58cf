theorem cmp5 {v : Nat} (h : v < 2 ^ 60) : lg_cmp (Int64.ofNat v) (5 : Int64) < 0 ↔ v < 5 := by
  rw [lg_cmp_lt, Int64.lt_iff_toInt_lt, Int64.toInt_ofNat_of_lt (by omega), show (5 : Int64).toInt = 5 from rfl]
  omega
theorem i32v {v : Nat} : (Int64.ofNat v).toInt32 = nI v := Int64.toInt32_ofNat'
/-- the class reads a term -/
theorem term_C {P i j k : Nat} {x2 : Int32} {ws : List Tk} {A : Mem} (hP : 16 ≤ P) (hE : EndW ws) (hW : WRow A ws) (hR : RdI A i) (hi : i < ws.length) (h15 : A.1 P 15 = nI k) (hk : ∀ t, ws[i]? = some t → t.1 ≤ 35 → k < 400) (hj : x2 = nI j) :
    (∃ t i' A', pTerm j (ws.drop i) = .inl (t, ws.drop i') ∧ i < i' ∧ i' < ws.length ∧ R_X4_readTerm 2 P x2 A = some A' ∧ RdI A' i' ∧ FrT P A A' ∧ TmC A' P k t ∧ A'.1 P 15 = nI (k + 1) ∧ RwT P k A A') ∨
    (∃ p A', pTerm j (ws.drop i) = .inr p ∧ p ≤ 800 ∧ R_X4_readTerm 2 P x2 A = some A' ∧ RdF A' p ∧ FrT P A A') := by
  subst hj
  unfold R_X4_readTerm pTerm
  have hmin := min_C (x2 := nI j) hP hE 6 i 0 FUEL 1 A rfl (by unfold FUEL; omega) hW hR hi
  rw [show nI 0 = (0 : Int32) from rfl] at hmin
  rcases hmin with ⟨s, i1, A1, g1, g2, g3, g4, g5, g6, g7⟩ | ⟨p, s, A1, g1, g2, g3, g4, g5⟩
  · rw [bnd2_e g4, g1]
    dsimp only [pthen]
    have hW1 := hW.cg hP g6
    obtain ⟨t, e⟩ := get_lt g2
    obtain ⟨w1, w2, w3, w4, w5, w6⟩ := hW1.2 i1 t e
    have T := take_C (x1 := 9) (x2 := 25) (k1 := 9) (k2 := 25) hW1 e g5 rfl rfl (by decide) (by decide)
    rw [drop_c e]
    dsimp only [pWord]
    by_cases c : 9 ≤ t.1 ∧ t.1 ≤ 25
    · rw [if_pos c] at T ⊢
      dsimp only [pthen]
      have hn := hE i1 t e (by omega)
      have FT := g6.tr (FrT.tk (A := A1) (i := i1) hP)
      have R2 := g5.t
      have W2 := hW.cg hP FT
      have k15 : (tkC A1 i1).1 P 15 = nI k := by rw [tkC_d (by omega), g7 P (by omega)]; exact h15
      have k400 : k < 400 := by
        obtain ⟨t0, e0⟩ := get_lt hi
        by_cases c0 : t0.1 ≤ 35
        · exact hk t0 e0 c0
        · exfalso
          rw [drop_c e0, pMin, if_neg (by omega)] at g1
          injection g1 with g1
          injection g1 with _ g1
          rw [drop_c e] at g1
          injection g1 with g1 _
          rw [g1] at c0
          omega
      have rw0 : ∀ (x1 x2 x3 x4 : Int32) (M : Mem), FrT P A M → M.1 P 15 = nI k → (∀ d, d ≠ 2 → M.1 d = A.1 d) → RwT P k A (U_X3_addTerm P x1 x2 x3 x4 M) := by
        intro x1 x2 x3 x4 M _ h15 hM
        obtain ⟨q1, q2, q3⟩ := (addTerm_R (x1 := x1) (x2 := x2) (x3 := x3) (x4 := x4) hP k400 h15).2.2
        exact ⟨fun d p1 p2 x hx => (q1 d p1 p2 x hx).trans (by rw [hM d (by omega)]), q2.trans (hM _ (by omega)), q3.trans (by rw [hM P (by omega)])⟩
      have dk : ∀ d, d ≠ 2 → (tkC A1 i1).1 d = A.1 d := fun d hd => (tkC_d hd).trans (g7 d hd)
      have fin : ∀ (x3 x4 : Int32) (M : Mem) (i' : Nat), FrT P A M → M.1 P 15 = nI k → (∀ d, d ≠ 2 → M.1 d = A.1 d) → RdI M i' → RdI (U_X3_addTerm P (nI j) s x3 x4 M) i' ∧ FrT P A (U_X3_addTerm P (nI j) s x3 x4 M) ∧ TmC (U_X3_addTerm P (nI j) s x3 x4 M) P k (nI j, s, x3, x4) ∧ (U_X3_addTerm P (nI j) s x3 x4 M).1 P 15 = nI (k + 1) ∧ RwT P k A (U_X3_addTerm P (nI j) s x3 x4 M) := by
        intro x3 x4 M i' f1 f2 f3 f4
        have q := addTerm_R (x1 := nI j) (x2 := s) (x3 := x3) (x4 := x4) hP k400 f2
        exact ⟨⟨by rw [addTerm_2 hP]; exact f4.1, by rw [addTerm_2 hP]; exact f4.2⟩, f1.tr (addTerm_F hP), q.1, q.2.1, rw0 _ _ _ _ M f1 f2 f3⟩
      rw [bnd2_e T]
      by_cases c25 : t.1 = 25
      · left
        have v := (w5 c25).1
        rw [if_pos c25, if_pos (ge_k (k := t.1) (n := 13) (x := 13) rfl (by decide) (by omega) (by omega)), if_pos (show (16 : Int32) < nI t.1 from nI_lt (a := 16) (by omega) (by omega)), if_pos (ge_k (k := t.1) (n := 25) (x := 25) rfl (by decide) (by omega) (by omega)), bd1_s, bnd1_s, tkC_v, v, i32v]
        obtain ⟨f1, f2, f3, f4, f5⟩ := fin 0 (nI t.2.2.1) (tkC A1 i1) (i1 + 1) FT k15 dk R2
        exact ⟨_, i1 + 1, _, rfl, by omega, hn, rfl, f1, f2, f3, f4, f5⟩
      · rw [if_neg c25]
        by_cases c17 : 17 ≤ t.1
        · left
          rw [if_pos c17, if_pos (ge_k (k := t.1) (n := 13) (x := 13) rfl (by decide) (by omega) (by omega)), if_pos (show (16 : Int32) < nI t.1 from nI_lt (a := 16) (by omega) (by omega)), if_neg (nge_k (k := t.1) (n := 25) (x := 25) rfl (by decide) (by omega)), bd1_s, bnd1_s, show (17 : Int32) = nI 17 from rfl, pk_sub c17]
          obtain ⟨f1, f2, f3, f4, f5⟩ := fin 2 (nI (t.1 - 17)) (tkC A1 i1) (i1 + 1) FT k15 dk R2
          exact ⟨_, i1 + 1, _, rfl, by omega, hn, rfl, f1, f2, f3, f4, f5⟩
        · rw [if_neg c17]
          by_cases c13 : 13 ≤ t.1
          · left
            rw [if_pos c13, if_pos (ge_k (k := t.1) (n := 13) (x := 13) rfl (by decide) (by omega) (by omega)), if_neg (show ¬ (16 : Int32) < nI t.1 from nI_nlt (a := 16) (by omega) (by decide)), bd1_s, bnd1_s, show (13 : Int32) = nI 13 from rfl, pk_sub c13]
            obtain ⟨f1, f2, f3, f4, f5⟩ := fin 1 (nI (t.1 - 13)) (tkC A1 i1) (i1 + 1) FT k15 dk R2
            exact ⟨_, i1 + 1, _, rfl, by omega, hn, rfl, f1, f2, f3, f4, f5⟩
          · rw [if_neg c13, if_neg (nge_k (k := t.1) (n := 13) (x := 13) rfl (by decide) (by omega))]
            obtain ⟨u, eu⟩ := get_lt hn
            obtain ⟨y1, y2, y3, y4, y5, y6⟩ := W2.2 (i1 + 1) u eu
            have hl1 := hW.1
            rw [drop_c eu, R2.1, if_neg (nleL (y := 801) 801 (by omega) rfl (by decide)), ck_nI (by omega) (by omega), nI_clamp (by omega)]
            dsimp only
            have T2 := take_C (x1 := 25) (x2 := 25) (k1 := 25) (k2 := 25) W2 eu R2 rfl rfl (by decide) (by decide)
            have refF := RdF.s (A := tkC A1 i1) (p := u.2.2.2)
            have frF : FrT P A (setI (tkC A1 i1) 2 9 (nI u.2.2.2)) := FT.tr (FrT.rd hP (Or.inr rfl))
            have eR := refuse_C W2 eu R2
            by_cases cu : 25 ≤ u.1 ∧ u.1 ≤ 25
            · rw [if_pos cu]
              rw [if_pos cu] at T2
              obtain ⟨v1, v2⟩ := y5 (by omega)
              dsimp only
              have hc := cmp5 (v := u.2.2.1) (by omega)
              by_cases c5 : u.2.2.1 < 5
              · left
                have hnu := hE (i1 + 1) u eu (by omega)
                have FT2 := FT.tr (FrT.tk (A := tkC A1 i1) (i := i1 + 1) hP)
                rw [if_pos c5, v1, if_pos (hc.mpr c5), bnd1_s, bnd2_e T2, bd1_s, bnd1_s, tkC_v, v1, i32v, show (9 : Int32) = nI 9 from rfl, pk_sub c.1, show (5 : Int32) = nI 5 from rfl, pk_mul, show (8 : Int32) = nI 8 from rfl, nI_add, nI_add]
                obtain ⟨f1, f2, f3, f4, f5⟩ := fin 2 (nI (8 + (t.1 - 9) * 5 + u.2.2.1)) (tkC (tkC A1 i1) (i1 + 1)) (i1 + 1 + 1) FT2 (by rw [tkC_d (by omega)]; exact k15) (fun d hd => (tkC_d hd).trans (dk d hd)) R2.t
                exact ⟨_, i1 + 1 + 1, _, rfl, by omega, hnu, rfl, f1, f2, f3, f4, f5⟩
              · right
                rw [if_neg c5, v1, if_neg (fun q => c5 (hc.mp q)), bnd1_s, eR, bnd2_e (take_F y4 refF), bd1_s, bnd1_s]
                exact ⟨_, _, rfl, y4, rfl, by unfold RdF; rw [addTerm_2 hP]; exact refF, frF.tr (addTerm_F hP)⟩
            · right
              rw [if_neg cu]
              rw [if_neg cu] at T2
              dsimp only
              by_cases cc : lg_cmp ((tkC A1 i1).2 (2 + 4) (i1 + 1)) 5 < 0
              · rw [if_pos cc, bnd1_s, bnd2_e T2, bd1_s, bnd1_s]
                exact ⟨_, _, rfl, y4, rfl, by unfold RdF; rw [addTerm_2 hP]; exact refF, frF.tr (addTerm_F hP)⟩
              · rw [if_neg cc, bnd1_s, eR, bnd2_e (take_F y4 refF), bd1_s, bnd1_s]
                exact ⟨_, _, rfl, y4, rfl, by unfold RdF; rw [addTerm_2 hP]; exact refF, frF.tr (addTerm_F hP)⟩
    · right
      rw [if_neg c] at T ⊢
      dsimp only [pthen]
      obtain ⟨A', q1, q2, q3⟩ := rtC_36 (x2 := nI j) (s := s) hP T RdF.s (FrT.rd hP (Or.inr rfl))
      exact ⟨_, A', rfl, w4, q1, q2, g6.tr q3⟩
  · right
    rw [bnd2_e g3, g1]
    dsimp only [pthen]
    obtain ⟨A', q1, q2, q3⟩ := rtC_36 (x2 := nI j) (s := s) hP (take_F g2 g4) g4 FrT.rf
    exact ⟨p, A', rfl, g2, q1, q2, g5.tr q3⟩
