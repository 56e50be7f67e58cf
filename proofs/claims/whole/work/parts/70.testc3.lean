theorem RwQ.tr {P q q' : Nat} {A A1 A' : Mem} (h : RwQ P q A A1) (g : RwQ P q' A1 A') (hq : q ≤ q') : RwQ P q A A' := fun x hx => ⟨(g x (by omega)).1.trans (h x hx).1, (g x (by omega)).2.trans (h x hx).2⟩
theorem tests_F {P p g i11 : Nat} {u2 : Int32} {A : Mem} (hp : p ≤ 800) (h : RdF A p) : L_X4_readRule_11 2 P g i11 u2 A = some A := by
  cases g with
  | zero => rfl
  | succ g => rw [L_X4_readRule_11, h, if_pos (nI_pos' (by omega))]
/-- tests, with `and` between them -/
theorem tests_C {P : Nat} {ws : List Tk} (hP : 16 ≤ P) (hE : EndW ws) (hI : Inc ws) : ∀ (g i i11 s k q x : Nat) (A : Mem), WRow A ws → RdI A i → i < ws.length → Cnt P A s k → A.1 P 6 = nI q → 2 * q ≤ s → Bd ws i x → 2 * k ≤ x →
    (∃ l i' A' s' k', pTests g (ws.drop i) = .inl (l, ws.drop i') ∧ i ≤ i' ∧ i' < ws.length ∧ L_X4_readRule_11 2 P g i11 1 A = some A' ∧ RdI A' i' ∧ FrQ P A A' ∧ (∀ m t, l[m]? = some t → TsK A' P s' k' (q + m) t) ∧ Cnt P A' s' k' ∧ A'.1 P 6 = nI (q + l.length) ∧ 2 * (q + l.length) ≤ s' ∧ RwS P s k A A' ∧ RwQ P q A A' ∧ s ≤ s' ∧ k ≤ k' ∧ Bd ws i' (x + 2 * (k' - k) - 1)) ∨
    (∃ p A', pTests g (ws.drop i) = .inr p ∧ p ≤ 800 ∧ L_X4_readRule_11 2 P g i11 1 A = some A' ∧ RdF A' p ∧ FrQ P A A') := by
  intro g
  induction g with
  | zero =>
    intro i i11 s k q x A hW hR hi hC h6 hq hB hx
    left
    exact ⟨[], i, A, s, k, rfl, Nat.le_refl _, hi, rfl, hR, FrQ.rf, (fun m t e => by cases e), hC, h6, hq, RwS.rf, fun _ _ => ⟨rfl, rfl⟩, Nat.le_refl _, Nat.le_refl _, hB.le (by omega)⟩
  | succ g ih =>
    intro i i11 s k q x A hW hR hi hC h6 hq hB hx
    have L1 : L_X4_readRule_11 2 P (g + 1) i11 1 A = bnd1 (R_X4_readSum 2 P A) (fun M4 => bnd2 (R_X4_take 2 (29 : Int32) (31 : Int32) M4) (fun v5 M5 => bnd1 (R_X4_readSum 2 P M5) (fun M6 => (fun v5 M6 => bd1 (if (V_X4_kind 2 (U_X3_addTest P v5 M6)) = (2 : Int32) then (1 : Int32) else (0 : Int32)) (fun v8_0 => bnd1 (if v8_0 = 0 then (some (U_X3_addTest P v5 M6)) else (bnd2 (R_X4_take 2 (2 : Int32) (2 : Int32) (U_X3_addTest P v5 M6)) (fun v12 M12 => (some M12)))) (fun M11 => L_X4_readRule_11 2 P g (i11 + 1) v8_0 M11))) v5 M6))) := by
      rw [L_X4_readRule_11, hR.2, if_neg m1_nle, if_neg n10]
    rw [L1, pTests]
    rcases test_C hP hE hI hW hR hi hC h6 hq hB hx with ⟨t, i1, A6, v, k1, g1, g2, g3, g4, g5, g6, g7, g8, g9, g10, g11, g12, g13⟩ | ⟨p, A6, v, g1, g2, g3, g4, g5⟩
    · rw [g4, g1]
      dsimp only [pthen]
      obtain ⟨A1, hA1⟩ : ∃ X, X = U_X3_addTest P v A6 := ⟨_, rfl⟩
      rw [← hA1] at g5 g6 g7 g8 g9 g10 g11 ⊢
      have W1 := hW.cq hP g6
      obtain ⟨u, eu⟩ := get_lt g3
      obtain ⟨w1, w2, w3, w4, w5, w6⟩ := W1.2 i1 u eu
      have hd : kd0 (ws.drop i1) = u.1 := by rw [drop_c eu]; rfl
      rw [hd, kind_C W1 eu g5.1]
      by_cases c : u.1 = 2
      · rw [if_pos c, c, if_pos (show nI 2 = (2 : Int32) from rfl), bd1_s, if_neg n10]
        have T := take_C (x1 := 2) (x2 := 2) (k1 := 2) (k2 := 2) W1 eu g5 rfl rfl (by decide) (by decide)
        rw [if_pos (by omega)] at T
        have hn := hE i1 u eu (by omega)
        have FT := FrT.tk (A := A1) (i := i1) hP
        rw [bnd2_e T, bnd1_s, show (ws.drop i1).tail = ws.drop (i1 + 1) by rw [drop_c eu]; rfl]
        have l1 := ln_pos (t := u)
        have rT : RwS P (s + 2) k1 A1 (tkC A1 i1) := RwS.d (fun d p1 p2 => tkC_d (by omega))
        rcases ih (i1 + 1) (i11 + 1) (s + 2) k1 (q + 1) _ (tkC A1 i1) (W1.cg hP FT) g5.t hn (g8.t hP) (by rw [tkC_d (by omega)]; exact g9) (by omega) (g13.st hI eu) (by omega) with ⟨l, i', A', s', k', y1, y2, y3, y4, y5, y6, y7, y8, y9, y10, y11, y12, y13, y14, y15⟩ | ⟨p, A', y1, y2, y3, y4, y5⟩
        · left
          rw [y1]
          have rr := rT.tr y11 (Nat.le_refl _) (Nat.le_refl _)
          have rq := (FT.rq (q := q + 1) hP).tr y12 (Nat.le_refl _)
          refine ⟨t :: l, i', A', s', k', rfl, by omega, y3, y4, y5, (g6.tr FT.q).tr y6, ?_, y8, ?_, ?_, g10.tr rr (by omega) (by omega), g11.tr rq (by omega), by omega, by omega, y15.le (by omega)⟩
          · intro m t' em
            cases m with
            | zero =>
              have : t = t' := Option.some.inj em
              subst this
              exact g7.rw (q := q + 1) (Nat.lt_succ_self q) rr rq y13 y14
            | succ m =>
              have := y7 m t' em
              rw [show q + 1 + m = q + (m + 1) by omega] at this
              exact this
          · rw [y9, List.length_cons, show q + 1 + l.length = q + (l.length + 1) by omega]
          · rw [List.length_cons]; omega
        · right
          rw [y1]
          exact ⟨p, A', rfl, y2, y3, y4, (g6.tr FT.q).tr y5⟩
      · left
        have n2 : ¬ nI u.1 = (2 : Int32) := fun z => c ((nI_eq (by omega) (by decide)).mp (z.trans (show (2 : Int32) = nI 2 from rfl)))
        rw [if_neg c, if_neg n2, bd1_s, if_pos rfl, bnd1_s]
        have L2 : L_X4_readRule_11 2 P g (i11 + 1) 0 A1 = some A1 := by
          cases g with
          | zero => rfl
          | succ g => rw [L_X4_readRule_11, g5.2, if_neg m1_nle, if_pos rfl]
        refine ⟨[t], i1, A1, s + 2, k1, rfl, by omega, g3, L2, g5, g6, ?_, g8, g9, by rw [List.length_singleton]; omega, g10, g11, by omega, by omega, g13⟩
        intro m t' em
        cases m with
        | zero =>
          have : t = t' := Option.some.inj em
          subst this
          exact g7
        | succ m => cases em
    · right
      rw [g3, g1]
      dsimp only [pthen]
      have aF := addTest_F (x := v) (A := A6) hP
      have F := g4.c aF.2
      refine ⟨p, U_X3_addTest P v A6, rfl, g2, ?_, F, g5.tr aF.1⟩
      rw [bd1_s]
      generalize (if (V_X4_kind 2 (U_X3_addTest P v A6)) = (2 : Int32) then (1 : Int32) else (0 : Int32)) = z
      by_cases c : z = 0
      · rw [if_pos c, bnd1_s]; exact tests_F g2 F
      · rw [if_neg c, bnd2_e (take_F g2 F), bnd1_s]; exact tests_F g2 F
