theorem RdI.c {A A' : Mem} {i : Nat} (h : RdI A i) (e : A'.1 2 = A.1 2) : RdI A' i := ⟨by rw [e]; exact h.1, by rw [e]; exact h.2⟩
theorem RdF.c {A A' : Mem} {p : Nat} (h : RdF A p) (e : A'.1 2 = A.1 2) : RdF A' p := by unfold RdF; rw [e]; exact h
theorem Cnt.c {P s k : Nat} {A A' : Mem} (h : Cnt P A s k) (e1 : A'.1 P 13 = A.1 P 13) (e2 : A'.1 P 15 = A.1 P 15) (e3 : A'.1 (P + 10) = A.1 (P + 10)) : Cnt P A' s k := by
  unfold Cnt at h ⊢
  rw [e1, e2, e3]; exact h
theorem Cnt.t {P s k i : Nat} {A : Mem} (hP : 16 ≤ P) (h : Cnt P A s k) : Cnt P (tkC A i) s k := h.c (by rw [tkC_d (by omega)]) (by rw [tkC_d (by omega)]) (by rw [tkC_d (by omega)])
theorem RwS.d {P s k : Nat} {A A' : Mem} (h : ∀ d, P + 10 ≤ d → d < P + 15 → A'.1 d = A.1 d) : RwS P s k A A' := ⟨fun d p1 p2 x _ => by rw [h d (by omega) p2], fun x _ => by rw [h _ (by omega) (by omega)]⟩
/-- a test -/
theorem test_C {P i s k q x : Nat} {ws : List Tk} {A : Mem} (hP : 16 ≤ P) (hE : EndW ws) (hI : Inc ws) (hW : WRow A ws) (hR : RdI A i) (hi : i < ws.length) (hC : Cnt P A s k) (h6 : A.1 P 6 = nI q) (hq : 2 * q ≤ s) (hB : Bd ws i x) (hx : 2 * k ≤ x) :
    (∃ t i' A6 v k', pTest (ws.drop i) = .inl (t, ws.drop i') ∧ i < i' ∧ i' < ws.length ∧ (∀ K : Int32 → Mem → Option Mem, bnd1 (R_X4_readSum 2 P A) (fun M4 => bnd2 (R_X4_take 2 29 31 M4) (fun v5 M5 => bnd1 (R_X4_readSum 2 P M5) (fun M6 => K v5 M6))) = K v A6) ∧ RdI (U_X3_addTest P v A6) i' ∧ FrQ P A (U_X3_addTest P v A6) ∧ TsK (U_X3_addTest P v A6) P (s + 2) k' q t ∧ Cnt P (U_X3_addTest P v A6) (s + 2) k' ∧ (U_X3_addTest P v A6).1 P 6 = nI (q + 1) ∧ RwS P s k A (U_X3_addTest P v A6) ∧ RwQ P q A (U_X3_addTest P v A6) ∧ k < k' ∧ Bd ws i' (x + 2 * (k' - k) - 1)) ∨
    (∃ p A6 v, pTest (ws.drop i) = .inr p ∧ p ≤ 800 ∧ (∀ K : Int32 → Mem → Option Mem, bnd1 (R_X4_readSum 2 P A) (fun M4 => bnd2 (R_X4_take 2 29 31 M4) (fun v5 M5 => bnd1 (R_X4_readSum 2 P M5) (fun M6 => K v5 M6))) = K v A6) ∧ RdF A6 p ∧ FrQ P A A6) := by
  unfold pTest
  rcases sum_C hP hE hI hW hR hi hC hB hx with ⟨l, i1, A1, k1, g1, g2, g3, g4, g5, g6, g7, g8, g9, g10, g11, g12⟩ | ⟨p, A1, g1, g2, g3, g4, g5⟩
  · rw [g1]
    dsimp only [pthen]
    have W1 := hW.cg hP g6
    obtain ⟨o, eo⟩ := get_lt g3
    obtain ⟨w1, w2, w3, w4, w5, w6⟩ := W1.2 i1 o eo
    have T := take_C (x1 := 29) (x2 := 31) (k1 := 29) (k2 := 31) W1 eo g5 rfl rfl (by decide) (by decide)
    rw [drop_c eo]
    dsimp only [pWord]
    by_cases c : 29 ≤ o.1 ∧ o.1 ≤ 31
    · rw [if_pos c] at T ⊢
      dsimp only
      have hn := hE i1 o eo (by omega)
      have FT := FrT.tk (A := A1) (i := i1) hP
      have B1 := g11.st hI eo
      have l1 := ln_pos (t := o)
      rcases sum_C hP hE hI (W1.cg hP FT) g5.t hn (g8.t hP) B1 (by omega) with ⟨l2, i2, A2, k2, y1, y2, y3, y4, y5, y6, y7, y8, y9, y10, y11, y12⟩ | ⟨p, A2, y1, y2, y3, y4, y5⟩
      · left
        rw [y1]
        dsimp only
        have FA := (g6.tr FT).tr y6
        have h6' : A2.1 P 6 = nI q := (FA.2.2.1 6 (by decide) (by decide)).trans h6
        have hk4 := y8.2.2.2.2
        have hs4 := y8.2.2.2.1
        have eC := addTest_C (x := nI o.1) (s := s) (by omega) h6' y8.1
        have aF := addTest_F (x := nI o.1) (A := A2) hP
        have dS : ∀ d, P + 10 ≤ d → d < P + 15 → (U_X3_addTest P (nI o.1) A2).1 d = A2.1 d := fun d p1 p2 => by rw [eC, fI (by omega), fI (by omega), fI (by omega)]
        have rS : ∀ s k, RwS P s k A2 (U_X3_addTest P (nI o.1) A2) := fun s k => RwS.d dS
        have rT : RwS P (s + 1) k1 A1 (tkC A1 i1) := RwS.d (fun d p1 p2 => tkC_d (by omega))
        refine ⟨_, i2, A2, nI o.1, k2, rfl, by omega, y3, fun K => by rw [bnd1_e g4, bnd2_e T, bnd1_e y4], y5.c aF.2, FA.q.tr aF.1, ⟨?_, s, ?_, ?_, ?_⟩, y8.c ?_ ?_ (dS _ (by omega) (by omega)), ?_, ?_, ?_, by omega, y11.le (by omega)⟩
        · rw [eC, gI (Or.inl (by omega)), gI (Or.inl (by omega)), gs_eI]
        · rw [eC, gI (Or.inl (by omega)), gs_eI]
        · exact ((g7.rw (rT.tr y10 (Nat.le_refl _) (Nat.le_refl _)) (Nat.le_succ _) y9).rw (rS _ _) (Nat.le_refl _) (Nat.le_refl _))
        · exact y7.rw (rS _ _) (Nat.le_refl _) (Nat.le_refl _)
        · rw [eC, gI (Or.inr (by decide)), gI (Or.inl (by omega)), gI (Or.inl (by omega))]
        · rw [eC, gI (Or.inr (by decide)), gI (Or.inl (by omega)), gI (Or.inl (by omega))]
        · rw [eC, gs_eI]
        · exact (g10.tr (rT.tr y10 (Nat.le_refl _) (Nat.le_refl _)) (by omega) g9).tr (rS s k) (Nat.le_refl _) (Nat.le_refl _)
        · intro z hz
          have := FA.rq (q := q) hP z hz
          rw [eC, gI (Or.inl (by omega)), gI (Or.inl (by omega)), gI (Or.inr (by omega)), gI (Or.inl (by omega)), gI (Or.inr (by omega)), gI (Or.inl (by omega))]
          exact this
      · right
        rw [y1]
        exact ⟨p, A2, nI o.1, rfl, y2, fun K => by rw [bnd1_e g4, bnd2_e T, bnd1_e y3], y4, ((g6.tr FT).tr y5).q⟩
    · right
      rw [if_neg c] at T ⊢
      have F := RdF.s (A := A1) (p := o.2.2.2)
      obtain ⟨A2, q1, q2, q3⟩ := sum_F hP w4 F
      exact ⟨o.2.2.2, A2, 36, rfl, w4, fun K => by rw [bnd1_e g4, bnd2_e T, bnd1_e q1], q2, ((g6.tr (FrT.rd hP (Or.inr rfl))).tr q3).q⟩
  · right
    rw [g1]
    obtain ⟨A2, q1, q2, q3⟩ := sum_F hP g2 g4
    exact ⟨p, A2, 36, rfl, g2, fun K => by rw [bnd1_e g3, bnd2_e (take_F g2 g4), bnd1_e q1], q2, (g5.tr q3).q⟩
