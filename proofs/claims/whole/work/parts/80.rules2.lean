theorem rules_C {P : Nat} {ws : List Tk} {w2 : Int32} (hP : 16 ≤ P) (hE : EndW ws) (hI : Inc ws) (hL : KwL ws) : ∀ (g c f i s k q a r x : Nat) (A : Mem), g + c = 12 → g + 1 < f → WRow A ws → RdI A i → i < ws.length → RSt P A s k q a r → r + g ≤ 96 → a < 900 → Bd ws i x → 2 * k ≤ x → 2 * a ≤ x →
    (∃ l i' A' s' k' q' a' x', pRules g (ws.drop i) = .inl (l, ws.drop i') ∧ i ≤ i' ∧ i' < ws.length ∧ L_X4_compile_91 2 P w2 f (nI c) A = some A' ∧ RdI A' i' ∧ FrL P A A' ∧ (∀ m pl, l[m]? = some pl → RlK A' P s' k' q' a' (r + m) pl) ∧ RSt P A' s' k' q' a' (r + l.length) ∧ RwS P s k A A' ∧ RwQ P q A A' ∧ RwC P a A A' ∧ RwL P r A A' ∧ s ≤ s' ∧ k ≤ k' ∧ q ≤ q' ∧ a ≤ a' ∧ a' < 900 ∧ l.length ≤ g ∧ Bd ws i' x' ∧ 2 * k' ≤ x' ∧ 2 * a' ≤ x') ∨
    (∃ p A', pRules g (ws.drop i) = .inr p ∧ p ≤ 800 ∧ L_X4_compile_91 2 P w2 f (nI c) A = some A' ∧ RdF A' p ∧ FrL P A A') := by
  intro g
  induction g with
  | zero =>
    intro c f i s k q a r x A hc hf hW hR hi hS hr ha hB hx hxa
    obtain ⟨f, rfl⟩ : ∃ m, f = m + 1 := ⟨f - 1, by omega⟩
    obtain ⟨f, rfl⟩ : ∃ m, f = m + 1 := ⟨f - 1, by omega⟩
    have hc12 : c = 12 := by omega
    subst hc12
    obtain ⟨t, e⟩ := get_lt hi
    obtain ⟨_, _, w3, w4, _, _⟩ := hW.2 i t e
    have hd : kd0 (ws.drop i) = t.1 := by rw [drop_c e]; rfl
    have hp : ps0 (ws.drop i) = t.2.2.2 := by rw [drop_c e]; rfl
    rw [L_X4_compile_91, if_neg (show ¬ (12 : Int32) < nI 12 by decide), hR.2, if_neg m1_nle, kind_C hW e hR.1, pRules, hd, hp]
    by_cases c1 : t.1 = 1
    · right
      have F := RdF.s (A := A) (p := t.2.2.2)
      have cF := closeRule_F (A := setI A 2 9 (nI t.2.2.2)) hP
      refine ⟨t.2.2.2, _, by rw [if_pos c1], w4, ?_, F.c cF.2.1, (FrT.rd hP (Or.inr rfl)).q.c.l.tr cF.1⟩
      rw [if_pos (show nI t.1 = (1 : Int32) by rw [c1]; rfl), if_pos (show nI 12 = (12 : Int32) from rfl), bd1_s, refuse_C hW e hR, bnd1_e (rule_F w4 F)]
      exact rules_F w4 (F.c cF.2.1)
    · left
      have n1 : ¬ nI t.1 = (1 : Int32) := fun z => c1 ((nI_eq (by omega) (by decide)).mp (z.trans (show (1 : Int32) = nI 1 from rfl)))
      rw [if_neg c1, if_neg n1]
      exact ⟨[], i, A, s, k, q, a, x, rfl, Nat.le_refl _, hi, rfl, hR, FrL.rf, (fun m t e => by cases e), hS, RwS.rf, (fun _ _ => ⟨rfl, rfl⟩), (fun _ _ => ⟨rfl, rfl, rfl⟩), (fun _ _ => ⟨rfl, rfl⟩), Nat.le_refl _, Nat.le_refl _, Nat.le_refl _, Nat.le_refl _, ha, Nat.le_refl _, hB, hx, hxa⟩
  | succ g ih =>
    intro c f i s k q a r x A hc hf hW hR hi hS hr ha hB hx hxa
    obtain ⟨f, rfl⟩ : ∃ m, f = m + 1 := ⟨f - 1, by omega⟩
    obtain ⟨f, rfl⟩ : ∃ m, f = m + 1 := ⟨f - 1, by omega⟩
    obtain ⟨t, e⟩ := get_lt hi
    obtain ⟨_, _, w3, w4, _, _⟩ := hW.2 i t e
    have hd : kd0 (ws.drop i) = t.1 := by rw [drop_c e]; rfl
    have n12 : ¬ nI c = (12 : Int32) := fun z => by
      have := (nI_eq (by omega) (by decide)).mp (z.trans (show (12 : Int32) = nI 12 from rfl))
      omega
    rw [L_X4_compile_91, if_neg (show ¬ (12 : Int32) < nI c from nI_nlt (a := 12) (b := c) (by omega) (by decide)), hR.2, if_neg m1_nle, kind_C hW e hR.1, if_neg n12, bd1_s, nI_1, pRules, hd]
    by_cases c1 : t.1 = 1
    · rw [if_pos c1, if_pos (show nI t.1 = (1 : Int32) by rw [c1]; rfl)]
      rcases rule_C hP hE hI hL hW hR hi hS (by omega) ha hB hx hxa with ⟨pl, i1, A1, s1, k1, q1, a1, x1, g1, g2, g3, g4, g5, g6, g7, g8, g9, g10, g11, g12, g13, g14, g15, g16, g17, g18, g19⟩ | ⟨p, A1, g1, g2, g3, g4, g5⟩
      · rw [g1, bnd1_e g4]
        dsimp only [pthen]
        have a9 : a1 < 900 := by
          obtain ⟨u, eu⟩ := get_lt g3
          have h1 := g17 u eu
          have h2 := (hW.2 i1 u eu).2.2.2.1
          omega
        rcases ih (c + 1) (f + 1) i1 s1 k1 q1 a1 (r + 1) x1 A1 (by omega) (by omega) (hW.cl hP g6) g5 g3 g8 (by omega) a9 g17 g18 g19 with ⟨l, i', A', s', k', q', a', x', y1, y2, y3, y4, y5, y6, y7, y8, y9, y10, y11, y12, y13, y14, y15, y16, y17, y18, y19, y20, y21⟩ | ⟨p, A', y1, y2, y3, y4, y5⟩
        · left
          rw [y1]
          refine ⟨pl :: l, i', A', s', k', q', a', x', rfl, by omega, y3, y4, y5, g6.tr y6, ?_, ?_, g9.tr y9 g13 g14, g10.tr y10 g15, g11.tr y11 g16, RwL.tr g12 y12 (by omega), by omega, by omega, by omega, by omega, y17, by rw [List.length_cons]; omega, y19, y20, y21⟩
          · intro m pl' em
            cases m with
            | zero =>
              have : pl = pl' := Option.some.inj em
              subst this
              exact g7.rw (Nat.le_refl _) y9 y10 y11 y12 y13 y14 y15 y16
            | succ m =>
              have := y7 m pl' em
              rw [show r + 1 + m = r + (m + 1) by omega] at this
              exact this
          · rw [List.length_cons, show r + (l.length + 1) = r + 1 + l.length by omega]; exact y8
        · right
          rw [y1]
          exact ⟨p, A', rfl, y2, y3, y4, g6.tr y5⟩
      · right
        rw [g1, bnd1_e g3]
        exact ⟨p, A1, rfl, g2, rules_F g2 g4, g4, g5⟩
    · left
      have n1 : ¬ nI t.1 = (1 : Int32) := fun z => c1 ((nI_eq (by omega) (by decide)).mp (z.trans (show (1 : Int32) = nI 1 from rfl)))
      rw [if_neg c1, if_neg n1]
      exact ⟨[], i, A, s, k, q, a, x, rfl, Nat.le_refl _, hi, rfl, hR, FrL.rf, (fun m t e => by cases e), hS, RwS.rf, (fun _ _ => ⟨rfl, rfl⟩), (fun _ _ => ⟨rfl, rfl, rfl⟩), (fun _ _ => ⟨rfl, rfl⟩), Nat.le_refl _, Nat.le_refl _, Nat.le_refl _, Nat.le_refl _, ha, Nat.zero_le _, hB, hx, hxa⟩
