/-- the acts of a rule, up to its `}`: at most g more -/
def pActs : Nat → List Tk → PR (List PA)
  | 0, ts => if kd0 ts = 28 then .inl ([], ts) else .inr (ps0 ts)
  | g + 1, ts => if kd0 ts = 28 then .inl ([], ts) else pthen (pAct ts) fun a ts => pthen (pActs g ts) fun l us => .inl (a :: l, us)
theorem acts_F {P p f : Nat} {u3 : Int32} {A : Mem} (hp : p ≤ 800) (h : RdF A p) : L_X4_readRule_97 2 P (f + 1) u3 A = some A := by
  rw [L_X4_readRule_97, h, if_pos (nI_pos' (by omega))]
  split <;> rfl
theorem acts_C {P : Nat} {ws : List Tk} (hP : 16 ≤ P) (hE : EndW ws) (hI : Inc ws) (hL : KwL ws) : ∀ (g c f i s k q a x : Nat) (A : Mem), g + c = 8 → g + 1 < f → WRow A ws → RdI A i → i < ws.length → Cnt P A s k → a < 900 → A.1 P 9 = nI a → Bd ws i x → 2 * k ≤ x → 2 * a ≤ x →
    (∃ l i' A' s' k' x', pActs g (ws.drop i) = .inl (l, ws.drop i') ∧ i ≤ i' ∧ i' < ws.length ∧ L_X4_readRule_97 2 P f (nI c) A = some A' ∧ RdI A' i' ∧ FrC P A A' ∧ (∀ m pa, l[m]? = some pa → AcK A' P s' k' (a + m) pa ∧ PAW pa) ∧ Cnt P A' s' k' ∧ A'.1 P 9 = nI (a + l.length) ∧ A'.1 P 6 = A.1 P 6 ∧ RwS P s k A A' ∧ RwQ P q A A' ∧ RwC P a A A' ∧ s ≤ s' ∧ k ≤ k' ∧ Bd ws i' x' ∧ 2 * k' ≤ x' ∧ 2 * (a + l.length) ≤ x') ∨
    (∃ p A', pActs g (ws.drop i) = .inr p ∧ p ≤ 800 ∧ L_X4_readRule_97 2 P f (nI c) A = some A' ∧ RdF A' p ∧ FrC P A A' ∧ ∃ a', a' ≤ a + g + 1 ∧ A'.1 P 9 = nI a') := by
  intro g
  induction g with
  | zero =>
    intro c f i s k q a x A hc hf hW hR hi hC ha h9 hB hx hxa
    obtain ⟨f, rfl⟩ : ∃ m, f = m + 1 := ⟨f - 1, by omega⟩
    obtain ⟨f, rfl⟩ : ∃ m, f = m + 1 := ⟨f - 1, by omega⟩
    have hc8 : c = 8 := by omega
    subst hc8
    obtain ⟨t, e⟩ := get_lt hi
    obtain ⟨_, _, w3, w4, _, _⟩ := hW.2 i t e
    have hd : kd0 (ws.drop i) = t.1 := by rw [drop_c e]; rfl
    have hp : ps0 (ws.drop i) = t.2.2.2 := by rw [drop_c e]; rfl
    rw [L_X4_readRule_97, if_neg (show ¬ (8 : Int32) < nI 8 by decide), hR.2, if_neg m1_nle, kind_C hW e hR.1, pActs, hd, hp]
    by_cases c28 : t.1 = 28
    · left
      rw [if_pos c28, if_pos (show nI t.1 = (28 : Int32) by rw [c28]; rfl)]
      exact ⟨[], i, A, s, k, x, rfl, Nat.le_refl _, hi, rfl, hR, FrC.rf, (fun m t e => by cases e), hC, h9, rfl, RwS.rf, (fun _ _ => ⟨rfl, rfl⟩), (fun _ _ => ⟨rfl, rfl, rfl⟩), Nat.le_refl _, Nat.le_refl _, hB, hx, hxa⟩
    · right
      have n28 : ¬ nI t.1 = (28 : Int32) := fun z => c28 ((nI_eq (by omega) (by decide)).mp (z.trans (show (28 : Int32) = nI 28 from rfl)))
      have F := RdF.s (A := A) (p := t.2.2.2)
      obtain ⟨A', y1, y2, y3, a', y4, y5⟩ := act_F (a := a) hP w4 (by omega) (by rw [gI (Or.inl (by omega))]; exact h9) F
      refine ⟨t.2.2.2, A', by rw [if_neg c28], w4, ?_, y2, (FrT.rd hP (Or.inr rfl)).q.c.tr y3, a', by omega, y5⟩
      rw [if_neg n28, if_pos (show nI 8 = (8 : Int32) from rfl), bd1_s, refuse_C hW e hR, bnd1_e y1]
      exact acts_F w4 y2
  | succ g ih =>
    intro c f i s k q a x A hc hf hW hR hi hC ha h9 hB hx hxa
    obtain ⟨f, rfl⟩ : ∃ m, f = m + 1 := ⟨f - 1, by omega⟩
    obtain ⟨t, e⟩ := get_lt hi
    obtain ⟨_, _, w3, w4, _, _⟩ := hW.2 i t e
    have hd : kd0 (ws.drop i) = t.1 := by rw [drop_c e]; rfl
    have n8 : ¬ nI c = (8 : Int32) := fun z => by
      have := (nI_eq (by omega) (by decide)).mp (z.trans (show (8 : Int32) = nI 8 from rfl))
      omega
    rw [L_X4_readRule_97, if_neg (show ¬ (8 : Int32) < nI c from nI_nlt (a := 8) (b := c) (by omega) (by decide)), hR.2, if_neg m1_nle, kind_C hW e hR.1, if_neg n8, bd1_s, nI_1, pActs, hd]
    by_cases c28 : t.1 = 28
    · left
      rw [if_pos c28, if_pos (show nI t.1 = (28 : Int32) by rw [c28]; rfl)]
      exact ⟨[], i, A, s, k, x, rfl, Nat.le_refl _, hi, rfl, hR, FrC.rf, (fun m t e => by cases e), hC, h9, rfl, RwS.rf, (fun _ _ => ⟨rfl, rfl⟩), (fun _ _ => ⟨rfl, rfl, rfl⟩), Nat.le_refl _, Nat.le_refl _, hB, hx, hxa⟩
    · have n28 : ¬ nI t.1 = (28 : Int32) := fun z => c28 ((nI_eq (by omega) (by decide)).mp (z.trans (show (28 : Int32) = nI 28 from rfl)))
      rw [if_neg c28, if_neg n28]
      obtain ⟨f, rfl⟩ : ∃ m, f = m + 1 := ⟨f - 1, by omega⟩
      rcases act_C (q := q) hP hE hI hL hW hR hi hC (by omega) h9 hB hx hxa with ⟨pa, i1, A1, s1, k1, g1, g2, g3, g4, g5, g6, g7, g8, g9, g10, g11, g12, g13, g14, g15, g16, g17, g18⟩ | ⟨p, A1, g1, g2, g3, g4, g5, a', g6, g7⟩
      · rw [g1, bnd1_e g4]
        dsimp only [pthen]
        have B1 : Bd ws i1 (if x + 2 * (k1 - k) ≤ x + 3 then x + 3 else x + 2 * (k1 - k)) := by
          split
          · exact g18
          · exact g17
        have a399 : a + 1 < 900 := by
          obtain ⟨u, eu⟩ := get_lt g3
          have h1 := g18 u eu
          have h2 := (hW.2 i1 u eu).2.2.2.1
          omega
        have bx1 : 2 * k1 ≤ (if x + 2 * (k1 - k) ≤ x + 3 then x + 3 else x + 2 * (k1 - k)) := by split <;> omega
        have bx2 : 2 * (a + 1) ≤ (if x + 2 * (k1 - k) ≤ x + 3 then x + 3 else x + 2 * (k1 - k)) := by split <;> omega
        rcases ih (c + 1) (f + 1) i1 s1 k1 q (a + 1) _ A1 (by omega) (by omega) (hW.cc hP g6) g5 g3 g9 a399 g10 B1 bx1 bx2 with ⟨l, i', A', s', k', x', y1, y2, y3, y4, y5, y6, y7, y8, y9, y10, y11, y12, y13, y14, y15, y16, y17, y18⟩ | ⟨p, A', y1, y2, y3, y4, y5, a', y6, y7⟩
        · left
          rw [y1]
          refine ⟨pa :: l, i', A', s', k', x', rfl, by omega, y3, y4, y5, g6.tr y6, ?_, y8, ?_, y10.trans g11, g12.tr y11 g15 g16, g13.tr y12 (Nat.le_refl _), g14.tr y13 (by omega), by omega, by omega, y16, y17, ?_⟩
          · intro m pa' em
            cases m with
            | zero =>
              have : pa = pa' := Option.some.inj em
              subst this
              exact ⟨g7.rw (a := a + 1) (Nat.lt_succ_self a) y11 y13 y14 y15, g8⟩
            | succ m =>
              have := y7 m pa' em
              rw [show a + 1 + m = a + (m + 1) by omega] at this
              exact this
          · rw [y9, List.length_cons, show a + 1 + l.length = a + (l.length + 1) by omega]
          · rw [List.length_cons]; omega
        · right
          rw [y1]
          have l800 := y6
          exact ⟨p, A', rfl, y2, y3, y4, g6.tr y5, a', by omega, y7⟩
      · right
        rw [g1, bnd1_e g3]
        exact ⟨p, A1, rfl, g2, acts_F g2 g4, g4, g5, a', by omega, g7⟩
