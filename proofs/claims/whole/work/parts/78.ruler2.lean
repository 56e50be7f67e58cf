def RlK (A : Mem) (P s k q a r : Nat) (pl : PL) : Prop := (∃ q0, A.1 (P + 3) r = nI q0 ∧ A.1 (P + 3) (r + 1) = nI (q0 + pl.1.length) ∧ q0 + pl.1.length ≤ q ∧ ∀ m t, pl.1[m]? = some t → TsK A P s k (q0 + m) t) ∧ (∃ a0, A.1 (P + 4) r = nI a0 ∧ A.1 (P + 4) (r + 1) = nI (a0 + pl.2.length) ∧ a0 + pl.2.length ≤ a ∧ ∀ m pa, pl.2[m]? = some pa → AcK A P s k (a0 + m) pa ∧ PAW pa)
def RSt (P : Nat) (A : Mem) (s k q a r : Nat) : Prop := Cnt P A s k ∧ A.1 P 6 = nI q ∧ A.1 P 9 = nI a ∧ A.1 P 3 = nI r ∧ A.1 (P + 3) r = nI q ∧ A.1 (P + 4) r = nI a ∧ 2 * q ≤ s
theorem rule_C {P i s k q a r x : Nat} {ws : List Tk} {A : Mem} (hP : 16 ≤ P) (hE : EndW ws) (hI : Inc ws) (hL : KwL ws) (hW : WRow A ws) (hR : RdI A i) (hi : i < ws.length) (hS : RSt P A s k q a r) (hr : r < 96) (ha : a < 900) (hB : Bd ws i x) (hx : 2 * k ≤ x) (hxa : 2 * a ≤ x) :
    (∃ pl i' A' s' k' q' a' x', pRule (ws.drop i) = .inl (pl, ws.drop i') ∧ i < i' ∧ i' < ws.length ∧ R_X4_readRule 2 P A = some A' ∧ RdI A' i' ∧ FrL P A A' ∧ RlK A' P s' k' q' a' r pl ∧ RSt P A' s' k' q' a' (r + 1) ∧ RwS P s k A A' ∧ RwQ P q A A' ∧ RwC P a A A' ∧ (∀ z, z ≤ r → A'.1 (P + 3) z = A.1 (P + 3) z ∧ A'.1 (P + 4) z = A.1 (P + 4) z) ∧ s ≤ s' ∧ k ≤ k' ∧ q ≤ q' ∧ a ≤ a' ∧ Bd ws i' x' ∧ 2 * k' ≤ x' ∧ 2 * a' ≤ x') ∨
    (∃ p A', pRule (ws.drop i) = .inr p ∧ p ≤ 800 ∧ R_X4_readRule 2 P A = some A' ∧ RdF A' p ∧ FrL P A A') := by
  obtain ⟨hC, h6, h9, h3, h33, h34, hq⟩ := hS
  obtain ⟨t, e⟩ := get_lt hi
  have w4 := (hW.2 i t e).2.2.2.1
  have T := take_C (x1 := 1) (x2 := 1) (k1 := 1) (k2 := 1) hW e hR rfl rfl (by decide) (by decide)
  unfold pRule R_X4_readRule
  rw [drop_c e]
  dsimp only [pWord]
  by_cases c : 1 ≤ t.1 ∧ t.1 ≤ 1
  · rw [if_pos c] at T ⊢
    rw [bnd2_e T]
    have hn := hE i t e (by omega)
    have FT := FrT.tk (A := A) (i := i) hP
    have l1 := ln_pos (t := t)
    rcases tests_C hP hE hI 800 (i + 1) 0 s k q (x + ln t) (tkC A i) (hW.cg hP FT) hR.t hn (hC.t hP) (by rw [tkC_d (by omega)]; exact h6) hq (hB.st hI e) (by omega) with ⟨tl, i1, A1, s1, k1, g1, g2, g3, g4, g5, g6, g7, g8, g9, g10, g11, g12, g13, g14, g15⟩ | ⟨p, A1, g1, g2, g3, g4, g5⟩
    · rw [bnd1_e g4]
      have F1 := FT.q.tr g6
      have W1 := hW.cq hP F1
      obtain ⟨u, eu⟩ := get_lt g3
      have v4 := (W1.2 i1 u eu).2.2.2.1
      have T1 := take_C (x1 := 27) (x2 := 27) (k1 := 27) (k2 := 27) W1 eu g5 rfl rfl (by decide) (by decide)
      have e9 : A1.1 P 9 = nI a := (F1.2.2.1 9 (by decide) (by decide) (by decide)).trans h9
      by_cases c1 : 27 ≤ u.1 ∧ u.1 ≤ 27
      · rw [if_pos c1] at T1
        rw [bnd2_e T1]
        have hn1 := hE i1 u eu (by omega)
        have FT1 := FrT.tk (A := A1) (i := i1) hP
        have l2 := ln_pos (t := u)
        have H := acts_C hP hE hI hL 8 0 FUEL (i1 + 1) s1 k1 (q + tl.length) a _ (tkC A1 i1) rfl (by unfold FUEL; omega) (W1.cg hP FT1) g5.t hn1 (g8.t hP) ha (by rw [tkC_d (by omega)]; exact e9) (g15.st hI eu) (by omega) (by omega)
        rw [show nI 0 = (0 : Int32) from rfl] at H
        rcases H with ⟨al, i2, A2, s2, k2, x2, y1, y2, y3, y4, y5, y6, y7, y8, y9, y10, y11, y12, y13, y14, y15, y16, y17, y18⟩ | ⟨p, A2, y1, y2, y3, y4, y5, a', y6, y7⟩
        · rw [bnd1_e y4]
          have F2 := (F1.c.tr FT1.q.c).tr y6
          have W2 := hW.cc hP F2
          obtain ⟨z, ez⟩ := get_lt y3
          have z4 := (W2.2 i2 z ez).2.2.2.1
          have T2 := take_C (x1 := 28) (x2 := 28) (k1 := 28) (k2 := 28) W2 ez y5 rfl rfl (by decide) (by decide)
          by_cases c2 : 28 ≤ z.1 ∧ z.1 ≤ 28
          · left
            rw [if_pos c2] at T2
            rw [bnd2_e T2]
            have hn2 := hE i2 z ez (by omega)
            have FT2 := FrT.tk (A := A2) (i := i2) hP
            have F3 := F2.tr FT2.q.c
            have d2 : ∀ d, d ≠ 2 → (tkC A2 i2).1 d = A2.1 d := fun d hd => tkC_d hd
            have q6 : (tkC A2 i2).1 P 6 = nI (q + tl.length) := by rw [d2 P (by omega), y10, tkC_d (by omega)]; exact g9
            have q9 : (tkC A2 i2).1 P 9 = nI (a + al.length) := by rw [d2 P (by omega)]; exact y9
            have q3 : (tkC A2 i2).1 P 3 = nI r := (F3.2.2.1 3 (by decide) (by decide) (by decide) (by decide)).trans h3
            have eC := closeRule_C hr q3
            rw [q6, q9] at eC
            have cF := closeRule_F (A := tkC A2 i2) hP
            obtain ⟨A', hA'⟩ : ∃ X, X = U_X3_closeRule P (tkC A2 i2) := ⟨_, rfl⟩
            rw [← hA'] at eC cF ⊢
            have dA : ∀ d, d ≠ 2 → d ≠ P → d ≠ P + 3 → d ≠ P + 4 → A'.1 d = A2.1 d := fun d p1 p2 p3 p4 => by rw [eC, fI p4, fI p3, fI p2, d2 d p1]
            have dP : ∀ j, j ≠ 3 → A'.1 P j = A2.1 P j := fun j hj => by rw [eC, gI (Or.inl (by omega)), gI (Or.inl (by omega)), gI (Or.inr hj), d2 P (by omega)]
            have o3 : ∀ w, w ≤ r → A'.1 (P + 3) w = A.1 (P + 3) w := fun w hw => by rw [eC, gI (Or.inl (by omega)), gI (Or.inr (by omega)), gI (Or.inl (by omega)), F3.1 _ (by omega) (by omega) (by omega)]
            have o4 : ∀ w, w ≤ r → A'.1 (P + 4) w = A.1 (P + 4) w := fun w hw => by rw [eC, gI (Or.inr (by omega)), gI (Or.inl (by omega)), gI (Or.inl (by omega)), F3.1 _ (by omega) (by omega) (by omega)]
            have n3 : A'.1 (P + 3) (r + 1) = nI (q + tl.length) := by rw [eC, gI (Or.inl (by omega)), gs_eI]
            have n4 : A'.1 (P + 4) (r + 1) = nI (a + al.length) := by rw [eC, gs_eI]
            have rS : ∀ s k, RwS P s k A2 A' := fun s k => RwS.d (fun d p1 p2 => dA d (by omega) (by omega) (by omega) (by omega))
            have rQ : ∀ q, RwQ P q A2 A' := fun q w _ => ⟨by rw [dA _ (by omega) (by omega) (by omega) (by omega)], by rw [dA _ (by omega) (by omega) (by omega) (by omega)]⟩
            have dJ : A'.2 = (tkC A2 i2).2 := by rw [eC]; rfl
            have rC : ∀ a, RwC P a A2 A' := fun a w _ => ⟨by rw [dA _ (by omega) (by omega) (by omega) (by omega)], by rw [dJ, FT2.2.2.2.1 _ (by omega)], by rw [dA _ (by omega) (by omega) (by omega) (by omega)]⟩
            have t1S : RwS P s1 k1 A1 (tkC A1 i1) := RwS.d (fun d p1 p2 => tkC_d (by omega))
            have t0S : RwS P s k A (tkC A i) := RwS.d (fun d p1 p2 => tkC_d (by omega))
            have S12 := (t1S.tr y11 (Nat.le_refl _) (Nat.le_refl _)).tr (rS s1 k1) (Nat.le_refl _) (Nat.le_refl _)
            have Q12 := ((FT1.rq (q := q + tl.length) hP).tr y12 (Nat.le_refl _)).tr (rQ (q + tl.length)) (Nat.le_refl _)
            have l3 := ln_pos (t := z)
            refine ⟨(tl, al), i2 + 1, A', s2, k2, q + tl.length, a + al.length, x2 + ln z, ?_, by omega, hn2, rfl, y5.t.c cF.2.1, F3.l.tr cF.1, ⟨⟨q, by rw [o3 r (Nat.le_refl _)]; exact h33, n3, Nat.le_refl _, fun m t' em => ?_⟩, a, by rw [o4 r (Nat.le_refl _)]; exact h34, n4, Nat.le_refl _, fun m pa em => ?_⟩, ⟨y8.c (dP 13 (by decide)) (dP 15 (by decide)) (dA _ (by omega) (by omega) (by omega) (by omega)), ?_, ?_, ?_, n3, n4, by omega⟩, ?_, ?_, ?_, fun w hw => ⟨o3 w hw, o4 w hw⟩, by omega, by omega, by omega, by omega, y16.st hI ez, by omega, by omega⟩
            · dsimp only [pthen]
              rw [g1]
              dsimp only
              rw [drop_c eu]
              dsimp only
              rw [if_pos c1]
              dsimp only
              rw [y1]
              dsimp only
              rw [drop_c ez]
              dsimp only
              rw [if_pos c2]
            · have hm : m < tl.length := by
                obtain ⟨w, _⟩ := List.getElem?_eq_some_iff.mp em
                exact w
              exact (g7 m t' em).rw (q := q + tl.length) (by omega) S12 Q12 y14 y15
            · have hm : m < al.length := by
                obtain ⟨w, _⟩ := List.getElem?_eq_some_iff.mp em
                exact w
              exact ⟨(y7 m pa em).1.rw (a := a + al.length) (by omega) (rS _ _) (rC _) (Nat.le_refl _) (Nat.le_refl _), (y7 m pa em).2⟩
            · rw [dP 6 (by decide), ← d2 P (by omega)]; exact q6
            · rw [dP 9 (by decide)]; exact y9
            · rw [eC, gI (Or.inl (by omega)), gI (Or.inl (by omega)), gs_eI]
            · exact ((t0S.tr g11 (Nat.le_refl _) (Nat.le_refl _)).tr S12 g13 g14)
            · exact ((FT.rq (q := q) hP).tr g12 (Nat.le_refl _)).tr Q12 (by omega)
            · exact (((F1.rc (a := a) hP).tr (FT1.q.rc (a := a) hP) (Nat.le_refl _)).tr y13 (Nat.le_refl _)).tr (rC a) (Nat.le_refl _)
          · right
            rw [if_neg c2] at T2
            rw [bnd2_e T2]
            have F := RdF.s (A := A2) (p := z.2.2.2)
            have cF := closeRule_F (A := setI A2 2 9 (nI z.2.2.2)) hP
            refine ⟨z.2.2.2, _, ?_, z4, rfl, F.c cF.2.1, (F2.tr (FrT.rd hP (Or.inr rfl)).q.c).l.tr cF.1⟩
            · dsimp only [pthen]
              rw [g1]
              dsimp only
              rw [drop_c eu]
              dsimp only
              rw [if_pos c1]
              dsimp only
              rw [y1]
              dsimp only
              rw [drop_c ez]
              dsimp only
              rw [if_neg c2]
        · right
          rw [bnd1_e y3, bnd2_e (take_F y2 y4)]
          have cF := closeRule_F (A := A2) hP
          refine ⟨p, _, ?_, y2, rfl, y4.c cF.2.1, ((F1.c.tr FT1.q.c).tr y5).l.tr cF.1⟩
          dsimp only [pthen]
          rw [g1]
          dsimp only
          rw [drop_c eu]
          dsimp only
          rw [if_pos c1]
          dsimp only
          rw [y1]
      · right
        rw [if_neg c1] at T1
        have F := RdF.s (A := A1) (p := u.2.2.2)
        obtain ⟨f, hf⟩ : ∃ f, FUEL = f + 1 := ⟨FUEL - 1, by unfold FUEL; omega⟩
        have cF := closeRule_F (A := setI A1 2 9 (nI u.2.2.2)) hP
        rw [hf, bnd2_e T1, bnd1_e (acts_F v4 F), bnd2_e (take_F v4 F)]
        refine ⟨u.2.2.2, _, ?_, v4, rfl, F.c cF.2.1, (F1.c.tr (FrT.rd hP (Or.inr rfl)).q.c).l.tr cF.1⟩
        dsimp only [pthen]
        rw [g1]
        dsimp only
        rw [drop_c eu]
        dsimp only
        rw [if_neg c1]
    · right
      have cF := closeRule_F (A := A1) hP
      refine ⟨p, _, ?_, g2, by rw [bnd1_e g3]; exact rt3_F g2 g4, g4.c cF.2.1, (FT.q.tr g5).c.l.tr cF.1⟩
      dsimp only [pthen]
      rw [g1]
  · right
    rw [if_neg c] at T ⊢
    have F := RdF.s (A := A) (p := t.2.2.2)
    have cF := closeRule_F (A := setI A 2 9 (nI t.2.2.2)) hP
    exact ⟨t.2.2.2, _, rfl, w4, by rw [bnd2_e T, bnd1_e (tests_F w4 F)]; exact rt3_F w4 F, F.c cF.2.1, (FrT.rd hP (Or.inr rfl)).q.c.l.tr cF.1⟩
