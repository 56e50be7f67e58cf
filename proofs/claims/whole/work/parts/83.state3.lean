theorem state_C {P i n s k q a r x : Nat} {u2 : Int32} {ws : List Tk} {A : Mem} (hP : 16 ≤ P) (hE : EndW ws) (hI : Inc ws) (hL : KwL ws) (hW : WRow A ws) (hR : RdI A i) (hi : i < ws.length) (hn : n < 8) (h0 : A.1 P 0 = nI n) (h2 : A.1 (P + 2) n = nI r) (hS : RSt P A s k q a r) (hr : r ≤ 12 * n) (ha : a < 900) (hB : Bd ws i x) (hx : 2 * k ≤ x) (hxa : 2 * a ≤ x) :
    (∃ ps i' A' s' k' q' a' r' x', pState (ws.drop i) = .inl (ps, ws.drop i') ∧ i < i' ∧ i' < ws.length ∧ stB P u2 A = some A' ∧ RdI A' i' ∧ FrS P A A' ∧ StK A' P s' k' q' a' r' n ps ∧ RSt P A' s' k' q' a' r' ∧ A'.1 P 0 = nI (n + 1) ∧ A'.1 (P + 2) (n + 1) = nI r' ∧ r' ≤ r + 12 ∧ RwS P s k A A' ∧ RwQ P q A A' ∧ RwC P a A A' ∧ RwL P r A A' ∧ RwN P n A A' ∧ s ≤ s' ∧ k ≤ k' ∧ q ≤ q' ∧ a ≤ a' ∧ r ≤ r' ∧ a' < 900 ∧ Bd ws i' x' ∧ 2 * k' ≤ x' ∧ 2 * a' ≤ x') ∨
    (∃ p A', pState (ws.drop i) = .inr p ∧ p ≤ 800 ∧ stB P u2 A = some A' ∧ RdF A' p ∧ FrS P A A') := by
  obtain ⟨t, e⟩ := get_lt hi
  have w4 := (hW.2 i t e).2.2.2.1
  have T := take_C (x1 := 0) (x2 := 0) (k1 := 0) (k2 := 0) hW e hR rfl rfl (by decide) (by decide)
  unfold pState stB
  rw [drop_c e]
  dsimp only [pWord]
  by_cases c : 0 ≤ t.1 ∧ t.1 ≤ 0
  · rw [if_pos c] at T ⊢
    rw [bnd2_e T]
    dsimp only [pthen]
    have hn1 := hE i t e (by omega)
    have FT := FrT.tk (A := A) (i := i) hP
    have l1 := ln_pos (t := t)
    have W1 := hW.cg hP FT
    obtain ⟨u, eu⟩ := get_lt hn1
    obtain ⟨_, _, _, v4, _, v6⟩ := W1.2 _ u eu
    have T1 := take_C (x1 := 26) (x2 := 26) (k1 := 26) (k2 := 26) W1 eu hR.t rfl rfl (by decide) (by decide)
    rw [drop_c eu]
    dsimp only
    by_cases c1 : 26 ≤ u.1 ∧ u.1 ≤ 26
    · rw [if_pos c1] at T1 ⊢
      rw [bnd2_e T1]
      dsimp only
      have hn2 := hE _ u eu (by omega)
      have FT1 := FrT.tk (A := tkC A i) (i := i + 1) hP
      have l2 := ln_pos (t := u)
      have B1 := hB.st hI e
      have B2 := B1.st hI eu
      obtain ⟨A2, hA2⟩ : ∃ X, X = tkC (tkC A i) (i + 1) := ⟨_, rfl⟩
      have d2 : ∀ d, d ≠ 2 → A2.1 d = A.1 d := fun d hd => by rw [hA2, tkC_d hd, tkC_d hd]
      have nm : A2.2 2 8 = Int64.ofNat (pkN 32 u.2.1) := by rw [hA2, tkC_v]; exact v6 (by omega)
      have F2 : FrS P A A2 := by rw [hA2]; exact FT.s.tr FT1.s
      have R2 : RdI A2 (i + 1 + 1) := by rw [hA2]; exact hR.t.t
      rw [← hA2]
      have h02 : A2.1 P 0 = nI n := by rw [d2 P (by omega)]; exact h0
      rw [bnd1_e (openState_C hn h02)]
      have F3 := F2.tr (FrS.op (n := n) (x := A2.2 2 8) hP)
      have R3 : RdI (setJ A2 (P + 1) n (A2.2 2 8)) (i + 1 + 1) := R2
      have W3 := hW.cs hP F3
      obtain ⟨z, ez⟩ := get_lt hn2
      have z4 := (W3.2 _ z ez).2.2.2.1
      have T2 := take_C (x1 := 27) (x2 := 27) (k1 := 27) (k2 := 27) W3 ez R3 rfl rfl (by decide) (by decide)
      rw [drop_c ez]
      dsimp only
      by_cases c2 : 27 ≤ z.1 ∧ z.1 ≤ 27
      · rw [if_pos c2] at T2 ⊢
        unfold stE
        rw [bnd2_e T2]
        dsimp only
        have hn3 := hE _ z ez (by omega)
        have l3 := ln_pos (t := z)
        obtain ⟨A4, hA4⟩ : ∃ X, X = tkC (setJ A2 (P + 1) n (A2.2 2 8)) (i + 1 + 1) := ⟨_, rfl⟩
        have d4 : ∀ d, d ≠ 2 → A4.1 d = A.1 d := fun d hd => by rw [hA4, tkC_d hd]; exact d2 d hd
        have F4 : FrS P A A4 := by rw [hA4]; exact F3.tr (FrT.tk hP).s
        have R4 : RdI A4 (i + 1 + 1 + 1) := by rw [hA4]; exact R3.t
        have W4 := hW.cs hP F4
        have J4 : ∀ d, d ≠ 2 → A4.2 d = (setJ A2 (P + 1) n (A2.2 2 8)).2 d := fun d hd => by rw [hA4]; exact (FrT.tk (P := P) hP).2.2.2.1 d hd
        have J2 : ∀ d, d ≠ 2 → A2.2 d = A.2 d := fun d hd => by rw [hA2, FT1.2.2.2.1 d hd, FT.2.2.2.1 d hd]
        have J4' : ∀ d, d ≠ 2 → d ≠ P + 1 → A4.2 d = A.2 d := fun d hd h1 => by rw [J4 d hd, fJ h1, J2 d hd]
        rw [← hA4]
        obtain ⟨hC, h6, h9, h3, h33, h34, hq⟩ := hS
        have S4 : RSt P A4 s k q a r := by
          refine ⟨hC.c (by rw [d4 P (by omega)]) (by rw [d4 P (by omega)]) (by rw [d4 _ (by omega)]), ?_, ?_, ?_, ?_, ?_, hq⟩
          · rw [d4 P (by omega)]; exact h6
          · rw [d4 P (by omega)]; exact h9
          · rw [d4 P (by omega)]; exact h3
          · rw [d4 _ (by omega)]; exact h33
          · rw [d4 _ (by omega)]; exact h34
        have H := rules_C (w2 := u2) hP hE hI hL 12 0 FUEL (i + 1 + 1 + 1) s k q a r _ A4 rfl (by unfold FUEL; omega) W4 R4 hn3 S4 (by omega) ha (B2.st hI ez) (by omega) (by omega)
        rw [show nI 0 = (0 : Int32) from rfl] at H
        rcases H with ⟨l, i5, A5, s5, k5, q5, a5, x5, y1, y2, y3, y4, y5, y6, y7, y8, y9, y10, y11, y12, y13, y14, y15, y16, y17, y18, y19, y20, y21⟩ | ⟨p, A5, y1, y2, y3, y4, y5⟩
        · rw [y1, bnd1_e y4]
          dsimp only
          have F5 := F4.tr y6.s
          have W5 := hW.cs hP F5
          obtain ⟨v, ev⟩ := get_lt y3
          have v4' := (W5.2 _ v ev).2.2.2.1
          have T3 := take_C (x1 := 28) (x2 := 28) (k1 := 28) (k2 := 28) W5 ev y5 rfl rfl (by decide) (by decide)
          rw [drop_c ev]
          dsimp only
          by_cases c3 : 28 ≤ v.1 ∧ v.1 ≤ 28
          · left
            rw [if_pos c3] at T3 ⊢
            rw [bnd2_e T3]
            dsimp only
            have hn4 := hE _ v ev (by omega)
            have l4 := ln_pos (t := v)
            have e0 : A5.1 P 0 = nI n := by rw [y6.2.2.1 0 (by decide) (by decide) (by decide) (by decide) (by decide), d4 P (by omega)]; exact h0
            have e2 : A5.1 (P + 2) = A.1 (P + 2) := by rw [y6.1 _ (by omega) (by omega) (by omega), d4 _ (by omega)]
            obtain ⟨hC5, h65, h95, h35, h335, h345, hq5⟩ := y8
            obtain ⟨A6, hA6⟩ : ∃ X, X = tkC A5 i5 := ⟨_, rfl⟩
            have d6 : ∀ d, d ≠ 2 → A6.1 d = A5.1 d := fun d hd => by rw [hA6, tkC_d hd]
            have F6 : FrS P A A6 := by rw [hA6]; exact F5.tr (FrT.tk hP).s
            have R6 : RdI A6 (i5 + 1) := by rw [hA6]; exact y5.t
            have J6 : ∀ d, d ≠ 2 → A6.2 d = A5.2 d := fun d hd => by rw [hA6]; exact (FrT.tk (P := P) hP).2.2.2.1 d hd
            rw [← hA6]
            have e06 : A6.1 P 0 = nI n := by rw [d6 P (by omega)]; exact e0
            have eC := closeState_C hn e06
            have e36 : A6.1 P 3 = nI (r + l.length) := by rw [d6 P (by omega)]; exact h35
            rw [e36] at eC
            have cF := closeState_F (A := A6) hP
            obtain ⟨A', hA'⟩ : ∃ X, X = U_X3_closeState P A6 := ⟨_, rfl⟩
            rw [← hA'] at eC cF ⊢
            have dA : ∀ d, d ≠ 2 → d ≠ P → d ≠ P + 2 → A'.1 d = A5.1 d := fun d p1 p2 p3 => by rw [eC, fI p3, fI p2, d6 d p1]
            have dP : ∀ j, j ≠ 0 → A'.1 P j = A5.1 P j := fun j hj => by rw [eC, gI (Or.inl (by omega)), gI (Or.inr hj), d6 P (by omega)]
            have dJ : ∀ d, d ≠ 2 → A'.2 d = A5.2 d := fun d hd => by rw [eC]; exact J6 d hd
            have o2 : ∀ w, w ≤ n → A'.1 (P + 2) w = A.1 (P + 2) w := fun w hw => by rw [eC, gI (Or.inr (by omega)), gI (Or.inl (by omega)), d6 _ (by omega), e2]
            have rS : ∀ s k, RwS P s k A5 A' := fun s k => RwS.d (fun d p1 p2 => dA d (by omega) (by omega) (by omega))
            have rQ : ∀ q, RwQ P q A5 A' := fun q w _ => ⟨by rw [dA _ (by omega) (by omega) (by omega)], by rw [dA _ (by omega) (by omega) (by omega)]⟩
            have rC : ∀ a, RwC P a A5 A' := fun a w _ => ⟨by rw [dA _ (by omega) (by omega) (by omega)], by rw [dJ _ (by omega)], by rw [dA _ (by omega) (by omega) (by omega)]⟩
            have rL : ∀ r, RwL P r A5 A' := fun a w _ => ⟨by rw [dA _ (by omega) (by omega) (by omega)], by rw [dA _ (by omega) (by omega) (by omega)]⟩
            have n1 : A5.2 (P + 1) = A4.2 (P + 1) := y6.2.2.2.1 _ (by omega) (by omega)
            refine ⟨(u.2.1, l), i5 + 1, A', s5, k5, q5, a5, r + l.length, x5 + ln v, rfl, by omega, hn4, rfl, ⟨by rw [cF.2]; exact R6.1, by rw [cF.2]; exact R6.2⟩, F6.tr cF.1, ⟨?_, r, by rw [o2 n (Nat.le_refl _)]; exact h2, ?_, Nat.le_refl _, fun m pl em => ?_⟩, ⟨hC5.c (dP 13 (by decide)) (dP 15 (by decide)) (dA _ (by omega) (by omega) (by omega)), ?_, ?_, ?_, ?_, ?_, hq5⟩, ?_, ?_, by omega, ?_, ?_, ?_, ?_, ⟨o2, fun z hz => ?_⟩, y13, y14, y15, y16, by omega, y17, y19.st hI ev, by omega, by omega⟩
            · rw [dJ _ (by omega), n1, J4 _ (by omega)]
              rw [nm]
              exact gs_eJ
            · rw [eC, gs_eI]
            · have hm : m < l.length := by
                obtain ⟨w, _⟩ := List.getElem?_eq_some_iff.mp em
                exact w
              exact (y7 m pl em).rw (R := r + l.length) (by omega) (rS _ _) (rQ _) (rC _) (rL _) (Nat.le_refl _) (Nat.le_refl _) (Nat.le_refl _) (Nat.le_refl _)
            · rw [dP 6 (by decide)]; exact h65
            · rw [dP 9 (by decide)]; exact h95
            · rw [dP 3 (by decide)]; exact h35
            · rw [dA _ (by omega) (by omega) (by omega)]; exact h335
            · rw [dA _ (by omega) (by omega) (by omega)]; exact h345
            · rw [eC, gI (Or.inl (by omega)), gs_eI]
            · rw [eC, gs_eI]
            · exact ((RwS.d (fun d p1 p2 => d4 d (by omega))).tr y9 (Nat.le_refl _) (Nat.le_refl _)).tr (rS s k) (Nat.le_refl _) (Nat.le_refl _)
            · exact (RwQ.tr (A1 := A4) (fun w _ => ⟨by rw [d4 _ (by omega)], by rw [d4 _ (by omega)]⟩) y10 (Nat.le_refl _)).tr (rQ q) (Nat.le_refl _)
            · exact (RwC.tr (A1 := A4) (fun w _ => ⟨by rw [d4 _ (by omega)], by rw [J4' _ (by omega) (by omega)], by rw [d4 _ (by omega)]⟩) y11 (Nat.le_refl _)).tr (rC a) (Nat.le_refl _)
            · exact (RwL.tr (A1 := A4) (r' := r) (fun w _ => ⟨by rw [d4 _ (by omega)], by rw [d4 _ (by omega)]⟩) y12 (Nat.le_refl _)).tr (rL r) (Nat.le_refl _)
            · rw [dJ _ (by omega), n1, J4 _ (by omega), gJ (Or.inr (by omega)), J2 _ (by omega)]
          · right
            rw [if_neg c3] at T3 ⊢
            rw [bnd2_e T3]
            have F := RdF.s (A := A5) (p := v.2.2.2)
            have cF := closeState_F (A := setI A5 2 9 (nI v.2.2.2)) hP
            exact ⟨v.2.2.2, _, rfl, v4', rfl, F.c cF.2, (F5.tr (FrT.rd hP (Or.inr rfl)).s).tr cF.1⟩
        · right
          rw [y1, bnd1_e y3, bnd2_e (take_F y2 y4)]
          have cF := closeState_F (A := A5) hP
          exact ⟨p, _, rfl, y2, rfl, y4.c cF.2, (F4.tr y5.s).tr cF.1⟩
      · right
        rw [if_neg c2] at T2 ⊢
        have F := RdF.s (A := setJ A2 (P + 1) n (A2.2 2 8)) (p := z.2.2.2)
        have cF := closeState_F (A := setI (setJ A2 (P + 1) n (A2.2 2 8)) 2 9 (nI z.2.2.2)) hP
        obtain ⟨f, hf⟩ : ∃ f, FUEL = f + 1 := ⟨FUEL - 1, by unfold FUEL; omega⟩
        refine ⟨z.2.2.2, _, rfl, z4, ?_, F.c cF.2, (F3.tr (FrT.rd hP (Or.inr rfl)).s).tr cF.1⟩
        unfold stE
        rw [hf, bnd2_e T2, bnd1_e (rules_F z4 F), bnd2_e (take_F z4 F)]
    · right
      rw [if_neg c1] at T1 ⊢
      rw [bnd2_e T1]
      have F := RdF.s (A := tkC A i) (p := u.2.2.2)
      obtain ⟨A', g1, g2, g3⟩ := stO_F (u2 := u2) (x := (setI (tkC A i) 2 9 (nI u.2.2.2)).2 2 8) hP v4 (show n ≤ 8 by omega) (by rw [fI (by omega), tkC_d (by omega)]; exact h0) F
      exact ⟨u.2.2.2, A', rfl, v4, g1, g2, (FT.s.tr (FrT.rd hP (Or.inr rfl)).s).tr g3⟩
  · right
    rw [if_neg c] at T ⊢
    have F := RdF.s (A := A) (p := t.2.2.2)
    obtain ⟨A', g1, g2, g3⟩ := stO_F (u2 := u2) (x := (setI A 2 9 (nI t.2.2.2)).2 2 8) hP w4 (show n ≤ 8 by omega) (by rw [fI (by omega)]; exact h0) F
    exact ⟨t.2.2.2, A', rfl, w4, by rw [bnd2_e T, bnd2_e (take_F w4 F)]; exact g1, g2, (FrT.rd hP (Or.inr rfl)).s.tr g3⟩
