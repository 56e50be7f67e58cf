theorem nI_ne {a b : Nat} {y : Int32} (hy : y = nI b) (h : a ≠ b) (ha : a < 2 ^ 31) (hb : b < 2 ^ 31) : ¬ nI a = y := fun q => h ((nI_eq ha hb).mp (q.trans hy))
/-- the counts at the end of a reading -/
def StE (P : Nat) (A : Mem) (k q a r : Nat) : Prop := k ≤ 400 ∧ q ≤ 400 ∧ a ≤ 400 ∧ r ≤ 96 ∧ A.1 P 9 = nI a
theorem states_C {P : Nat} {ws : List Tk} (hP : 16 ≤ P) (hE : EndW ws) (hI : Inc ws) (hL : KwL ws) : ∀ (g c f i s k q a r x : Nat) (A : Mem), g + c = 8 → 0 < c → g + 1 < f → WRow A ws → RdI A i → i < ws.length → A.1 P 0 = nI c → A.1 (P + 2) c = nI r → RSt P A s k q a r → r ≤ 12 * c → a < 900 → Bd ws i x → 2 * k ≤ x → 2 * a ≤ x →
    (∃ l i' A' s' k' q' a' r', pStates g (ws.drop i) = .inl (l, ws.drop i') ∧ i ≤ i' ∧ (∃ t, ws[i']? = some t ∧ t.1 = 37) ∧ L_X4_compile_20 2 P f (nI c) A = some A' ∧ RdI A' i' ∧ FrS P A A' ∧ (∀ m ps, l[m]? = some ps → StK A' P s' k' q' a' r' (c + m) ps) ∧ A'.1 P 0 = nI (c + l.length) ∧ c + l.length ≤ 8 ∧ StE P A' k' q' a' r' ∧ RwS P s k A A' ∧ RwQ P q A A' ∧ RwC P a A A' ∧ RwL P r A A' ∧ RwN P c A A' ∧ s ≤ s' ∧ k ≤ k' ∧ q ≤ q' ∧ a ≤ a' ∧ r ≤ r') ∨
    (∃ p A', pStates g (ws.drop i) = .inr p ∧ p ≤ 800 ∧ L_X4_compile_20 2 P f (nI c) A = some A' ∧ RdF A' p ∧ FrS P A A') := by
  intro g
  induction g with
  | zero =>
    intro c f i s k q a r x A hc hc0 hf hW hR hi h0 h2 hS hr ha hB hx hxa
    obtain ⟨f, rfl⟩ : ∃ m, f = m + 1 := ⟨f - 1, by omega⟩
    obtain ⟨f, rfl⟩ : ∃ m, f = m + 1 := ⟨f - 1, by omega⟩
    have hc8 : c = 8 := by omega
    subst hc8
    obtain ⟨t, e⟩ := get_lt hi
    obtain ⟨_, _, w3, w4, _, _⟩ := hW.2 i t e
    have hd : kd0 (ws.drop i) = t.1 := by rw [drop_c e]; rfl
    have hp : ps0 (ws.drop i) = t.2.2.2 := by rw [drop_c e]; rfl
    rw [comp20, if_neg (show ¬ (8 : Int32) < nI 8 by decide), hR.2, if_neg m1_nle, if_neg (show ¬ nI 8 = (0 : Int32) by decide), kind_C hW e hR.1, pStates, hd, hp]
    by_cases c1 : t.1 = 37
    · left
      rw [if_pos c1, if_pos (show nI t.1 = (37 : Int32) by rw [c1]; rfl)]
      have hBt := hB t e
      have hCk := hS.1
      refine ⟨[], i, A, s, k, q, a, r, rfl, Nat.le_refl _, ⟨t, e, c1⟩, rfl, hR, FrS.rf, (fun m t e => by cases e), h0, Nat.le_refl _, ⟨by omega, by have := hS.2.2.2.2.2.2; have := hCk.2.2.2.1; omega, by omega, by omega, hS.2.2.1⟩, RwS.rf, (fun _ _ => ⟨rfl, rfl⟩), (fun _ _ => ⟨rfl, rfl, rfl⟩), (fun _ _ => ⟨rfl, rfl⟩), ⟨fun _ _ => rfl, fun _ _ => rfl⟩, Nat.le_refl _, Nat.le_refl _, Nat.le_refl _, Nat.le_refl _, Nat.le_refl _⟩
    · right
      have n1 : ¬ nI t.1 = (37 : Int32) := nI_ne (y := 37) (b := 37) rfl c1 (by omega) (by decide)
      have F := RdF.s (A := A) (p := t.2.2.2)
      obtain ⟨A', g1, g2, g3⟩ := state_F (u2 := nI 8) (A := setI A 2 9 (nI t.2.2.2)) hP w4 (Nat.le_refl 8) (by rw [fI (by omega)]; exact h0) F
      refine ⟨t.2.2.2, A', by rw [if_neg c1], w4, ?_, g2, (FrT.rd hP (Or.inr rfl)).s.tr g3⟩
      rw [if_neg n1, if_pos (show nI 8 = (8 : Int32) from rfl), refuse_C hW e hR, bnd1_e g1, comp20, if_pos (by decide)]
  | succ g ih =>
    intro c f i s k q a r x A hc hc0 hf hW hR hi h0 h2 hS hr ha hB hx hxa
    obtain ⟨f, rfl⟩ : ∃ m, f = m + 1 := ⟨f - 1, by omega⟩
    obtain ⟨f, rfl⟩ : ∃ m, f = m + 1 := ⟨f - 1, by omega⟩
    obtain ⟨t, e⟩ := get_lt hi
    obtain ⟨_, _, w3, w4, _, _⟩ := hW.2 i t e
    have hd : kd0 (ws.drop i) = t.1 := by rw [drop_c e]; rfl
    rw [comp20, if_neg (show ¬ (8 : Int32) < nI c from nI_nlt (a := 8) (b := c) (by omega) (by decide)), hR.2, if_neg m1_nle, if_neg (nI_ne (y := 0) (a := c) (b := 0) rfl (by omega) (by omega) (by decide)), kind_C hW e hR.1, if_neg (nI_ne (y := 8) (a := c) (b := 8) rfl (by omega) (by omega) (by decide)), nI_1, pStates, hd]
    by_cases c1 : t.1 = 37
    · left
      rw [if_pos c1, if_pos (show nI t.1 = (37 : Int32) by rw [c1]; rfl)]
      have hBt := hB t e
      have hCk := hS.1
      refine ⟨[], i, A, s, k, q, a, r, rfl, Nat.le_refl _, ⟨t, e, c1⟩, rfl, hR, FrS.rf, (fun m t e => by cases e), h0, by rw [List.length_nil]; omega, ⟨by omega, by have := hS.2.2.2.2.2.2; have := hCk.2.2.2.1; omega, by omega, by omega, hS.2.2.1⟩, RwS.rf, (fun _ _ => ⟨rfl, rfl⟩), (fun _ _ => ⟨rfl, rfl, rfl⟩), (fun _ _ => ⟨rfl, rfl⟩), ⟨fun _ _ => rfl, fun _ _ => rfl⟩, Nat.le_refl _, Nat.le_refl _, Nat.le_refl _, Nat.le_refl _, Nat.le_refl _⟩
    · have n1 : ¬ nI t.1 = (37 : Int32) := nI_ne (y := 37) (b := 37) rfl c1 (by omega) (by decide)
      rw [if_neg c1, if_neg n1]
      rcases state_C (u2 := nI c) hP hE hI hL hW hR hi (show c < 8 by omega) h0 h2 hS hr ha hB hx hxa with ⟨ps, i1, A1, s1, k1, q1, a1, r1, x1, g1, g2, g3, g4, g5, g6, g7, g8, g9, g10, g11, g12, g13, g14, g15, g16, g17, g18, g19, g20, g21, g22, g23, g24, g25⟩ | ⟨p, A1, g1, g2, g3, g4, g5⟩
      · rw [g1, bnd1_e g4]
        dsimp only [pthen]
        rcases ih (c + 1) (f + 1) i1 s1 k1 q1 a1 r1 x1 A1 (by omega) (by omega) (by omega) (hW.cs hP g6) g5 g3 g9 g10 g8 (by omega) g22 g23 g24 g25 with ⟨l, i', A', s', k', q', a', r', y1, y2, y3, y4, y5, y6, y7, y8, y9, y10, y11, y12, y13, y14, y15, y16, y17, y18, y19, y20⟩ | ⟨p, A', y1, y2, y3, y4, y5⟩
        · left
          rw [y1]
          refine ⟨ps :: l, i', A', s', k', q', a', r', rfl, by omega, y3, y4, y5, g6.tr y6, ?_, ?_, ?_, y10, g12.tr y11 g17 g18, g13.tr y12 g19, g14.tr y13 g20, g15.tr y14 g21, g16.tr y15 (by omega), by omega, by omega, by omega, by omega, by omega⟩
          · intro m ps' em
            cases m with
            | zero =>
              have : ps = ps' := Option.some.inj em
              subst this
              exact g7.rw (Nat.le_refl _) y11 y12 y13 y14 y15 y16 y17 y18 y19 y20
            | succ m =>
              have := y7 m ps' em
              rw [show c + 1 + m = c + (m + 1) by omega] at this
              exact this
          · rw [List.length_cons, show c + (l.length + 1) = c + 1 + l.length by omega]; exact y8
          · rw [List.length_cons]; omega
        · right
          rw [y1]
          exact ⟨p, A', rfl, y2, y3, y4, g6.tr y5⟩
      · right
        rw [g1, bnd1_e g3]
        refine ⟨p, A1, rfl, g2, ?_, g4, g5⟩
        rw [comp20, g4, if_pos (nI_pos' (show p < 2 ^ 31 by omega))]
        split <;> rfl
/-- the whole text, from the first word on -/
theorem prog_C {P : Nat} {ws : List Tk} {A : Mem} (hP : 16 ≤ P) (hE : EndW ws) (hI : Inc ws) (hL : KwL ws) (hW : WRow A ws) (hR : RdI A 0) (hi : 0 < ws.length) (h0 : A.1 P 0 = 0) (h3 : A.1 P 3 = 0) (h6 : A.1 P 6 = 0) (h9 : A.1 P 9 = 0) (h13 : A.1 P 13 = 0) (h15 : A.1 P 15 = 0) (hZ : Z0 P A) :
    (∃ l i' A' s' k' q' a' r', pProg ws = .inl (l, ws.drop i') ∧ (∃ t, ws[i']? = some t ∧ t.1 = 37) ∧ L_X4_compile_20 2 P FUEL 0 A = some A' ∧ RdI A' i' ∧ FrS P A A' ∧ (∀ m ps, l[m]? = some ps → StK A' P s' k' q' a' r' m ps) ∧ A'.1 P 0 = nI l.length ∧ 0 < l.length ∧ l.length ≤ 8 ∧ StE P A' k' q' a' r') ∨
    (∃ p A', pProg ws = .inr p ∧ p ≤ 800 ∧ L_X4_compile_20 2 P FUEL 0 A = some A' ∧ RdF A' p ∧ FrS P A A') := by
  obtain ⟨f, hf⟩ : ∃ f, FUEL = f + 1 := ⟨FUEL - 1, by unfold FUEL; omega⟩
  have hfb : 10 < f := by unfold FUEL at hf; omega
  have hS : RSt P A 0 0 0 0 0 := ⟨⟨h13, h15, hZ _ (by omega), Nat.le_refl _, by omega⟩, h6, h9, h3, hZ _ (by omega), hZ _ (by omega), Nat.le_refl _⟩
  rw [hf, comp20, if_neg (by decide), hR.2, if_neg m1_nle, if_pos rfl, if_neg (by decide)]
  have hd0 : ws.drop 0 = ws := rfl
  have H := state_C (u2 := 0) (x := 0) (i := 0) (n := 0) (s := 0) (k := 0) (q := 0) (a := 0) (r := 0) hP hE hI hL hW hR hi (show 0 < 8 by omega) h0 (hZ (P + 2) (by omega)) hS (by omega) (by omega) (fun _ _ => Nat.zero_le _) (by omega) (by omega)
  rw [hd0] at H
  unfold pProg
  rcases H with ⟨ps, i1, A1, s1, k1, q1, a1, r1, x1, g1, g2, g3, g4, g5, g6, g7, g8, g9, g10, g11, g12, g13, g14, g15, g16, g17, g18, g19, g20, g21, g22, g23, g24, g25⟩ | ⟨p, A1, g1, g2, g3, g4, g5⟩
  · rw [g1, bnd1_e g4]
    dsimp only [pthen]
    rcases states_C hP hE hI hL 7 1 f i1 s1 k1 q1 a1 r1 x1 A1 (by omega) (by omega) (by omega) (hW.cs hP g6) g5 g3 g9 g10 g8 (by omega) g22 g23 g24 g25 with ⟨l, i', A', s', k', q', a', r', y1, y2, y3, y4, y5, y6, y7, y8, y9, y10, y11, y12, y13, y14, y15, y16, y17, y18, y19, y20⟩ | ⟨p, A', y1, y2, y3, y4, y5⟩
    · left
      rw [y1]
      refine ⟨ps :: l, i', A', s', k', q', a', r', rfl, y3, y4, y5, g6.tr y6, ?_, ?_, by rw [List.length_cons]; omega, ?_, y10⟩
      · intro m ps' em
        cases m with
        | zero =>
          have : ps = ps' := Option.some.inj em
          subst this
          exact g7.rw (Nat.le_refl _) y11 y12 y13 y14 y15 y16 y17 y18 y19 y20
        | succ m =>
          have := y7 m ps' em
          rw [show 1 + m = m + 1 by omega] at this
          exact this
      · rw [List.length_cons, show l.length + 1 = 1 + l.length by omega]; exact y8
      · rw [List.length_cons]; omega
    · right
      rw [y1]
      exact ⟨p, A', rfl, y2, y3, y4, g6.tr y5⟩
  · right
    rw [g1, bnd1_e g3]
    refine ⟨p, A1, rfl, g2, ?_, g4, g5⟩
    obtain ⟨f2, hf2⟩ : ∃ f2, f = f2 + 1 := ⟨f - 1, by omega⟩
    rw [hf2, comp20, g4, if_pos (nI_pos' (show p < 2 ^ 31 by omega))]
    split <;> rfl
