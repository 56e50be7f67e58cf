/-- the words that begin acts have two letters at least -/
def KwL (ws : List Tk) : Prop := ∀ (i : Nat) t, ws[i]? = some t → 3 ≤ t.1 → t.1 ≤ 8 → 2 ≤ ln t
def PAW (pa : PA) : Prop := 3 ≤ pa.1 ∧ pa.1 ≤ 8 ∧ (pa.1 = 4 → pa.2.2.1 < 4 ∧ pa.2.2.2.length = 1) ∧ (pa.1 ≠ 4 → pa.2.2.2.length = nsum pa.1)
theorem act_F {P p a : Nat} {A : Mem} (hP : 16 ≤ P) (hp : p ≤ 800) (ha : a < 1000) (h9 : A.1 P 9 = nI a) (h : RdF A p) : ∃ A', R_X4_readAct 2 P A = some A' ∧ RdF A' p ∧ FrC P A A' ∧ ∃ a', a' ≤ a + 1 ∧ A'.1 P 9 = nI a' := by
  obtain ⟨A', y1, y2, y3, y4⟩ := actEnd_F (v1 := 36) (w3 := 0) (w5 := 0) hP hp (by decide) ha h9 h
  refine ⟨A', ?_, y2, y3, y4⟩
  unfold R_X4_readAct
  rw [bnd2_e (take_F hp h)]
  exact y1
/-- the class reads an act -/
theorem act_C {P i s k q a x : Nat} {ws : List Tk} {A : Mem} (hP : 16 ≤ P) (hE : EndW ws) (hI : Inc ws) (hL : KwL ws) (hW : WRow A ws) (hR : RdI A i) (hi : i < ws.length) (hC : Cnt P A s k) (ha : a < 1000) (h9 : A.1 P 9 = nI a) (hB : Bd ws i x) (hx : 2 * k ≤ x) (hxa : 2 * a ≤ x) :
    (∃ pa i' A' s' k', pAct (ws.drop i) = .inl (pa, ws.drop i') ∧ i < i' ∧ i' < ws.length ∧ R_X4_readAct 2 P A = some A' ∧ RdI A' i' ∧ FrC P A A' ∧ AcK A' P s' k' a pa ∧ PAW pa ∧ Cnt P A' s' k' ∧ A'.1 P 9 = nI (a + 1) ∧ A'.1 P 6 = A.1 P 6 ∧ RwS P s k A A' ∧ RwQ P q A A' ∧ RwC P a A A' ∧ s ≤ s' ∧ k ≤ k' ∧ Bd ws i' (x + 2 * (k' - k)) ∧ Bd ws i' (x + 3)) ∨
    (∃ p A', pAct (ws.drop i) = .inr p ∧ p ≤ 800 ∧ R_X4_readAct 2 P A = some A' ∧ RdF A' p ∧ FrC P A A' ∧ ∃ a', a' ≤ a + 1 ∧ A'.1 P 9 = nI a') := by
  obtain ⟨t, e⟩ := get_lt hi
  obtain ⟨w1, w2, w3, w4, w5, w6⟩ := hW.2 i t e
  have T := take_C (x1 := 3) (x2 := 8) (k1 := 3) (k2 := 8) hW e hR rfl rfl (by decide) (by decide)
  unfold pAct R_X4_readAct
  rw [drop_c e]
  dsimp only [pWord]
  by_cases c : 3 ≤ t.1 ∧ t.1 ≤ 8
  · rw [if_pos c] at T ⊢
    have a400 := hB.k hI hE hW hxa t e (by omega)
    have hn := hE i t e (by omega)
    have FT := FrT.tk (A := A) (i := i) hP
    have l2 := hL i t e c.1 c.2
    have W1 := hW.cg hP FT
    have t9 : (tkC A i).1 P 9 = nI a := by rw [tkC_d (by omega)]; exact h9
    rw [bnd2_e T]
    rcases head_C hP hE c W1 hR.t hn with ⟨nm, tg, n5, v3, i2, A2, g1, g2, g3, g4, g5, g6, g7, g8, g9, g10, g11⟩ | ⟨p, A2, v3, n5, g1, g2, g3, g4, g5, g6⟩
    · rw [g4]
      have B1 := hB.st hI e
      have B2 : Bd ws i2 (x + ln t + (i2 - (i + 1))) := by
        have := B1.mono hI (i2 - (i + 1)) (by omega)
        rw [show i + 1 + (i2 - (i + 1)) = i2 by omega] at this
        exact this
      have W2 := W1.cg hP g7
      have n3 : n5 ≤ 3 := by
        by_cases c4 : t.1 = 4
        · have := (g10 c4).1; omega
        · have := g11 c4
          rw [this]; unfold nsum; split
          · decide
          · split
            · decide
            · split <;> decide
      have e9 : A2.1 P 9 = nI a := by rw [g8 P (by omega)]; exact t9
      have rT : RwS P s k A A2 := RwS.d (fun d p1 p2 => (g8 d (by omega)).trans (tkC_d (by omega)))
      have hC2 : Cnt P A2 s k := hC.c (by rw [g8 P (by omega), tkC_d (by omega)]) (by rw [g8 P (by omega), tkC_d (by omega)]) (by rw [g8 _ (by omega), tkC_d (by omega)])
      rcases actEnd_C (q := q) (kd := t.1) (nm := nm) (tg := tg) (w5 := n5) hP hE hI (by omega) g5 W2 g6 g3 hC2 a400 e9 B2 (by omega) with ⟨pa, i', A', k', y1, y2, y3, y4, y5, y6, y7, z1, z2, z3, z4, y8, y9, y10, y11, y12, y13, y14, y15⟩ | ⟨p, A', y1, y2, y3, y4, y5, y6⟩
      · left
        have FF := FT.tr g7
        refine ⟨pa, i', A', s + n5, k', ?_, by omega, y3, y4, y5, FF.q.c.tr y6, y7, ⟨by omega, by omega, fun h => ?_, fun h => ?_⟩, y8, y9, ?_, rT.tr y11 (Nat.le_refl _) (Nat.le_refl _), (FF.rq hP).tr y12 (Nat.le_refl _), (FF.q.rc hP).tr y13 (Nat.le_refl _), by omega, y14, y15.le (by omega), ?_⟩
        · dsimp only [pthen]
          rw [g1]
          exact y1
        · rw [z3, z4]; exact ⟨(g10 (by omega)).2, (g10 (by omega)).1⟩
        · rw [z4, z1]; exact g11 (by omega)
        · rw [y10, g8 P (by omega), tkC_d (by omega)]
        · have := B2.lt hI y2 y3
          exact this.le (by omega)
      · right
        refine ⟨p, A', ?_, y2, y3, y4, (FT.tr g7).q.c.tr y5, y6⟩
        dsimp only [pthen]
        rw [g1]
        exact y1
    · right
      rw [g3]
      have e9 : A2.1 P 9 = nI a := (g5.2.2.1 9 (by decide) (by decide)).trans t9
      obtain ⟨A', y1, y2, y3, y4⟩ := actEnd_F (v1 := nI t.1) (w3 := v3) (w5 := n5) hP g2 g6 ha e9 g4
      refine ⟨p, A', ?_, g2, y1, y2, (FT.tr g5).q.c.tr y3, y4⟩
      dsimp only [pthen]
      rw [g1]
  · right
    rw [if_neg c] at T ⊢
    have F := RdF.s (A := A) (p := t.2.2.2)
    obtain ⟨A', y1, y2, y3, y4⟩ := actEnd_F (a := a) (v1 := 36) (w3 := 0) (w5 := 0) hP w4 (by decide) ha (by rw [gI (Or.inl (by omega))]; exact h9) F
    refine ⟨_, A', rfl, w4, ?_, y2, (FrT.rd hP (Or.inr rfl)).q.c.tr y3, y4⟩
    rw [bnd2_e T]
    exact y1
