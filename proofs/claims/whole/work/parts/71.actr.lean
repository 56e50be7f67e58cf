/-! ===== the class reads an act ===== -/
def pSums : Nat → List Tk → PR (List Sm)
  | 0, ts => .inl ([], ts)
  | n + 1, ts => pthen (pSum 12 32 ts) fun a ts => pthen (pSums n ts) fun l us => .inl (a :: l, us)
def nsum (k : Nat) : Nat := if k = 5 then 2 else if k = 6 then 2 else if k = 7 then 3 else 0
/-- what follows an act's first word: a name, a target, how many sums -/
def pHead (a : Nat) (ts : List Tk) : PR (List Nat × Nat × Nat) :=
  if a = 3 then pthen (pWord 26 26 ts) fun n ts => .inl ((n.2.1, 0, 0), ts)
  else if a = 4 then pthen (pWord 13 16 ts) fun o ts => .inl (([], o.1 - 13, 1), ts)
  else .inl (([], 0, nsum a), ts)
/-- an act as it is read: kind, the name that it goes to, its target, its sums -/
abbrev PA : Type := Nat × List Nat × Nat × List Sm
def pAct (ts : List Tk) : PR PA :=
  pthen (pWord 3 8 ts) fun a ts => pthen (pHead a.1 ts) fun h ts => pthen (pSums h.2.2 ts) fun l ts => pthen (pWord 35 35 ts) fun _ ts => .inl ((a.1, h.1, h.2.1, l), ts)
theorem sums_F {P p : Nat} {w2 : Int32} {w3 : Int64} {w5 : Nat} (hP : 16 ≤ P) (hp : p ≤ 800) (h5 : w5 < 10) : ∀ (n u f : Nat) (A : Mem), u + n = w5 → n < f → RdF A p → ∃ A', L_X4_readAct_88 2 P w2 w3 (nI w5) f (nI u) A = some A' ∧ RdF A' p ∧ FrT P A A' := by
  intro n
  induction n with
  | zero =>
    intro u f A hu hf h
    obtain ⟨f, rfl⟩ : ∃ m, f = m + 1 := ⟨f - 1, by omega⟩
    exact ⟨A, by rw [L_X4_readAct_88, if_pos (nI_le (by omega) (by omega))], h, FrT.rf⟩
  | succ n ih =>
    intro u f A hu hf h
    obtain ⟨f, rfl⟩ : ∃ m, f = m + 1 := ⟨f - 1, by omega⟩
    obtain ⟨A1, q1, q2, q3⟩ := sum_F hP hp h
    obtain ⟨A', y1, y2, y3⟩ := ih (u + 1) f A1 (by omega) (by omega) q2
    refine ⟨A', ?_, y2, q3.tr y3⟩
    rw [L_X4_readAct_88, if_neg (nI_ge (by omega) (by omega)), bnd1_e q1, nI_1]
    exact y1
theorem sums_C {P : Nat} {ws : List Tk} {w2 : Int32} {w3 : Int64} {w5 : Nat} (hP : 16 ≤ P) (hE : EndW ws) (hI : Inc ws) (h5 : w5 < 10) : ∀ (n u f i s k x : Nat) (A : Mem), u + n = w5 → n < f → WRow A ws → RdI A i → i < ws.length → Cnt P A s k → Bd ws i x → 2 * k + n ≤ x + 1 →
    (∃ l i' A' k', pSums n (ws.drop i) = .inl (l, ws.drop i') ∧ i ≤ i' ∧ i' < ws.length ∧ L_X4_readAct_88 2 P w2 w3 (nI w5) f (nI u) A = some A' ∧ RdI A' i' ∧ FrT P A A' ∧ l.length = n ∧ (∀ m sm, l[m]? = some sm → SmK A' P (s + n) k' (s + m) sm) ∧ Cnt P A' (s + n) k' ∧ RwS P s k A A' ∧ k ≤ k' ∧ Bd ws i' (x + 2 * (k' - k) - n)) ∨
    (∃ p A', pSums n (ws.drop i) = .inr p ∧ p ≤ 800 ∧ L_X4_readAct_88 2 P w2 w3 (nI w5) f (nI u) A = some A' ∧ RdF A' p ∧ FrT P A A') := by
  intro n
  induction n with
  | zero =>
    intro u f i s k x A hu hf hW hR hi hC hB hx
    obtain ⟨f, rfl⟩ : ∃ m, f = m + 1 := ⟨f - 1, by omega⟩
    left
    exact ⟨[], i, A, k, rfl, Nat.le_refl _, hi, by rw [L_X4_readAct_88, if_pos (nI_le (by omega) (by omega))], hR, FrT.rf, rfl, (fun m t e => by cases e), hC, RwS.rf, Nat.le_refl _, hB.le (by omega)⟩
  | succ n ih =>
    intro u f i s k x A hu hf hW hR hi hC hB hx
    obtain ⟨f, rfl⟩ : ∃ m, f = m + 1 := ⟨f - 1, by omega⟩
    rw [L_X4_readAct_88, if_neg (nI_ge (by omega) (by omega)), nI_1, pSums]
    rcases sum_C hP hE hI hW hR hi hC hB (by omega) with ⟨a, i1, A1, k1, g1, g2, g3, g4, g5, g6, g7, g8, g9, g10, g11, g12⟩ | ⟨p, A1, g1, g2, g3, g4, g5⟩
    · rw [g1, bnd1_e g4]
      dsimp only [pthen]
      rcases ih (u + 1) f i1 (s + 1) k1 _ A1 (by omega) (by omega) (hW.cg hP g6) g5 g3 g8 g11 (by omega) with ⟨l, i', A', k', y1, y2, y3, y4, y5, y6, y7, y8, y9, y10, y11, y12⟩ | ⟨p, A', y1, y2, y3, y4, y5⟩
      · left
        rw [y1]
        refine ⟨a :: l, i', A', k', rfl, by omega, y3, y4, y5, g6.tr y6, by rw [List.length_cons, y7], ?_, ?_, g10.tr y10 (by omega) g9, by omega, y12.le (by omega)⟩
        · intro m sm em
          cases m with
          | zero =>
            have : a = sm := Option.some.inj em
            subst this
            exact g7.rw y10 (by omega) y11
          | succ m =>
            have := y8 m sm em
            rw [show s + 1 + n = s + (n + 1) by omega, show s + 1 + m = s + (m + 1) by omega] at this
            exact this
        · rw [show s + 1 + n = s + (n + 1) by omega] at y9; exact y9
      · right
        rw [y1]
        exact ⟨p, A', rfl, y2, y3, y4, g6.tr y5⟩
    · right
      rw [g1, bnd1_e g3]
      obtain ⟨A', y1, y2, y3⟩ := sums_F (w2 := w2) (w3 := w3) hP g2 h5 n (u + 1) f A1 (by omega) (by omega) g4
      exact ⟨p, A', rfl, g2, y1, y2, g5.tr y3⟩
