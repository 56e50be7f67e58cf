section CPY
variable {K : Nat} {A B : Mem}
theorem cp_d {M : Mem} {s d n b : Nat} (h : b ≠ d) : (cpyI M s d n).1 b = M.1 b := by
  funext i
  unfold cpyI
  exact if_neg (fun q => h q.1)
theorem cp_i {M : Mem} {s d n i : Nat} (h : i < n) : (cpyI M s d n).1 d i = M.1 s i := by
  unfold cpyI
  exact if_pos (show d = d ∧ i < n from ⟨rfl, h⟩)
theorem ballcp {a x : Nat} {M : Mem} (h : a + 3 ≤ x ∨ x + 3 ≤ a) : (U_X0_copy a x M).2 = M.2 ∧ (∀ c, c < a ∨ a + 3 ≤ c → (U_X0_copy a x M).1 c = M.1 c) ∧ (∀ j, j < 10 → (U_X0_copy a x M).1 a j = M.1 x j) ∧ (∀ i, i < 4 → (U_X0_copy a x M).1 (a + 1) i = M.1 (x + 1) i ∧ (U_X0_copy a x M).1 (a + 2) i = M.1 (x + 2) i) := by
  unfold U_X0_copy
  refine ⟨rfl, fun c hc => ?_, fun j hj => ?_, fun i hi => ⟨?_, ?_⟩⟩
  · rw [cp_d (by omega), cp_d (by omega)]
    simp (disch := omega) only [fI]
  · rw [cp_d (by omega), cp_d (by omega)]
    rcases (show j = 0 ∨ j = 1 ∨ j = 2 ∨ j = 3 ∨ j = 4 ∨ j = 5 ∨ j = 6 ∨ j = 7 ∨ j = 8 ∨ j = 9 by omega) with rfl | rfl | rfl | rfl | rfl | rfl | rfl | rfl | rfl | rfl <;> simp (disch := omega) only [gI, gs_eI]
  · rw [cp_d (by omega), cp_i hi]
    simp (disch := omega) only [fI]
  · rw [cp_i hi, cp_d (by omega)]
    simp (disch := omega) only [fI]
theorem talcp {a x : Nat} {M : Mem} (h : a + 3 ≤ x ∨ x + 3 ≤ a) : (U_X7_copy a x M).2 = M.2 ∧ (∀ c, c < a ∨ a + 3 ≤ c → (U_X7_copy a x M).1 c = M.1 c) ∧ (∀ j, j < 4 → (U_X7_copy a x M).1 a j = M.1 x j) ∧ (∀ i, i < 4 → (U_X7_copy a x M).1 (a + 1) i = M.1 (x + 1) i) ∧ (∀ i, i < 20 → (U_X7_copy a x M).1 (a + 2) i = M.1 (x + 2) i) := by
  unfold U_X7_copy
  refine ⟨rfl, fun c hc => ?_, fun j hj => ?_, fun i hi => ?_, fun i hi => ?_⟩
  · rw [cp_d (by omega), cp_d (by omega)]
    simp (disch := omega) only [fI]
  · rw [cp_d (by omega), cp_d (by omega)]
    rcases (show j = 0 ∨ j = 1 ∨ j = 2 ∨ j = 3 by omega) with rfl | rfl | rfl | rfl <;> simp (disch := omega) only [gI, gs_eI]
  · rw [cp_d (by omega), cp_i hi]
    simp (disch := omega) only [fI]
  · rw [cp_i hi, cp_d (by omega)]
    simp (disch := omega) only [fI]
theorem robcp {a x : Nat} {M : Mem} (h : a + 2 ≤ x ∨ x + 2 ≤ a) (h8 : M.1 x 8 = 0 ∨ M.1 x 8 = 1) : ∃ M', R_X5_copy a x M = some M' ∧ M'.2 = M.2 ∧ (∀ c, c < a ∨ a + 2 ≤ c → M'.1 c = M.1 c) ∧ (∀ j, (2 ≤ j ∧ j ≤ 8) ∨ (10 ≤ j ∧ j ≤ 14) → M'.1 a j = M.1 x j) ∧ (∀ j, j < 2 → M'.1 a j = M.1 a j) ∧ (∀ i, i < 4 → M'.1 (a + 1) i = M.1 (x + 1) i) := by
  unfold R_X5_copy
  rw [cz_v h8, bd1_s]
  obtain ⟨S, hS⟩ : ∃ S, S = cpyI (setI (setI (setI (setI (setI (setI (setI M a 2 (M.1 x 2)) a 3 (M.1 x 3)) a 4 (M.1 x 4)) a 5 (M.1 x 5)) a 6 (M.1 x 6)) a 7 (M.1 x 7)) a 8 (M.1 x 8)) (x + 1) (a + 1) 4 := ⟨_, rfl⟩
  have s2 : S.2 = M.2 := by rw [hS]; rfl
  have sc : ∀ c, c < a ∨ a + 2 ≤ c → S.1 c = M.1 c := fun c hc => by
    rw [hS, cp_d (by omega)]
    simp (disch := omega) only [fI]
  have sj : ∀ j, 2 ≤ j → j ≤ 8 → S.1 a j = M.1 x j := fun j p1 p2 => by
    rw [hS, cp_d (by omega)]
    rcases (show j = 2 ∨ j = 3 ∨ j = 4 ∨ j = 5 ∨ j = 6 ∨ j = 7 ∨ j = 8 by omega) with rfl | rfl | rfl | rfl | rfl | rfl | rfl <;> simp (disch := omega) only [gI, gs_eI]
  have s0 : ∀ j, j < 2 → S.1 a j = M.1 a j := fun j hj => by
    rw [hS, cp_d (by omega)]
    simp (disch := omega) only [gI]
  have si : ∀ i, i < 4 → S.1 (a + 1) i = M.1 (x + 1) i := fun i hi => by
    rw [hS, cp_i hi]
    simp (disch := omega) only [fI]
  rw [← hS]
  have xx : ∀ v, (setI S a 10 v).1 x = M.1 x := fun v => by rw [fI (by omega)]; exact sc x (by omega)
  rw [xx, sc x (by omega)]
  refine ⟨_, rfl, s2, fun c hc => ?_, fun j hj => ?_, fun j hj => ?_, fun i hi => ?_⟩
  · rw [fI (by omega), fI (by omega), fI (by omega), fI (by omega), fI (by omega)]; exact sc c hc
  · rcases hj with hj | hj
    · rw [gI (Or.inr (by omega)), gI (Or.inr (by omega)), gI (Or.inr (by omega)), gI (Or.inr (by omega)), gI (Or.inr (by omega))]; exact sj j hj.1 hj.2
    · rcases (show j = 10 ∨ j = 11 ∨ j = 12 ∨ j = 13 ∨ j = 14 by omega) with rfl | rfl | rfl | rfl | rfl <;> simp (disch := omega) only [gI, gs_eI]
  · rw [gI (Or.inr (by omega)), gI (Or.inr (by omega)), gI (Or.inr (by omega)), gI (Or.inr (by omega)), gI (Or.inr (by omega))]; exact s0 j hj
  · rw [fI (by omega), fI (by omega), fI (by omega), fI (by omega), fI (by omega)]; exact si i hi
/-- a is now as x was -/
def CpE (a x : Nat) (A A' : Mem) : Prop := (∀ j, 6 ≤ j → j < 10 → A'.1 a j = A.1 x j) ∧ (∀ j, j < 10 → A'.1 (a + 4) j = A.1 (x + 4) j) ∧ (∀ i, i < 4 → A'.1 (a + 5) i = A.1 (x + 5) i ∧ A'.1 (a + 6) i = A.1 (x + 6) i) ∧ (∀ j, j < 4 → A'.1 (a + 7) j = A.1 (x + 7) j) ∧ (∀ i, i < 4 → A'.1 (a + 8) i = A.1 (x + 8) i) ∧ (∀ i, i < 20 → A'.1 (a + 9) i = A.1 (x + 9) i) ∧ (∀ r, r < 10 → (∀ j, (2 ≤ j ∧ j ≤ 8) ∨ (10 ≤ j ∧ j ≤ 14) → A'.1 (a + 10 + 2 * r) j = A.1 (x + 10 + 2 * r) j) ∧ (∀ j, j < 2 → A'.1 (a + 10 + 2 * r) j = A.1 (a + 10 + 2 * r) j) ∧ (∀ i, i < 4 → A'.1 (a + 10 + 2 * r + 1) i = A.1 (x + 10 + 2 * r + 1) i))
theorem rob_loop {a x : Nat} {A0 : Mem} (h : a + 30 ≤ x ∨ x + 30 ≤ a) (h8 : ∀ r, r < 10 → A0.1 (x + 10 + 2 * r) 8 = 0 ∨ A0.1 (x + 10 + 2 * r) 8 = 1) : ∀ (n i : Nat) (M : Mem), i + n = 10 → M.2 = A0.2 → (∀ c, c < a + 10 ∨ a + 30 ≤ c → c < a ∨ a + 10 ≤ c → M.1 c = A0.1 c) → (∀ r, i ≤ r → r < 10 → M.1 (a + 10 + 2 * r) = A0.1 (a + 10 + 2 * r) ∧ M.1 (a + 10 + 2 * r + 1) = A0.1 (a + 10 + 2 * r + 1)) → (∀ r, r < i → (∀ j, (2 ≤ j ∧ j ≤ 8) ∨ (10 ≤ j ∧ j ≤ 14) → M.1 (a + 10 + 2 * r) j = A0.1 (x + 10 + 2 * r) j) ∧ (∀ j, j < 2 → M.1 (a + 10 + 2 * r) j = A0.1 (a + 10 + 2 * r) j) ∧ (∀ k, k < 4 → M.1 (a + 10 + 2 * r + 1) k = A0.1 (x + 10 + 2 * r + 1) k)) →
    ∃ M', L_X2_copy_56 a x n i M = some M' ∧ M'.2 = A0.2 ∧ (∀ c, c < a + 10 ∨ a + 30 ≤ c → M'.1 c = M.1 c) ∧ (∀ r, r < 10 → (∀ j, (2 ≤ j ∧ j ≤ 8) ∨ (10 ≤ j ∧ j ≤ 14) → M'.1 (a + 10 + 2 * r) j = A0.1 (x + 10 + 2 * r) j) ∧ (∀ j, j < 2 → M'.1 (a + 10 + 2 * r) j = A0.1 (a + 10 + 2 * r) j) ∧ (∀ k, k < 4 → M'.1 (a + 10 + 2 * r + 1) k = A0.1 (x + 10 + 2 * r + 1) k)) := by
  intro n
  induction n with
  | zero =>
    intro i M hi m2 mc mr md
    exact ⟨M, rfl, m2, fun _ _ => rfl, fun r hr => md r (by omega)⟩
  | succ n ih =>
    intro i M hi m2 mc mr md
    have ex : ∀ c, x + 10 ≤ c → c < x + 30 → M.1 c = A0.1 c := fun c p1 p2 => mc c (by omega) (by omega)
    obtain ⟨M1, g1, g2, g3, g4, g5, g6⟩ := robcp (a := a + 10 + 2 * i) (x := x + 10 + 2 * i) (M := M) (by omega) (by rw [ex _ (by omega) (by omega)]; exact h8 i (by omega))
    rw [L_X2_copy_56, bnd1_e g1]
    obtain ⟨M', y1, y2, y3, y4⟩ := ih (i + 1) M1 (by omega) (g2.trans m2) (fun c p1 p2 => by rw [g3 c (by omega)]; exact mc c p1 p2) (fun r p1 p2 => by rw [g3 _ (by omega), g3 _ (by omega)]; exact mr r (by omega) p2) (fun r hr => by
      by_cases e : r = i
      · subst e
        refine ⟨fun j hj => by rw [g4 j hj, ex _ (by omega) (by omega)], fun j hj => by rw [g5 j hj, (mr r (Nat.le_refl _) (by omega)).1], fun k hk => by rw [g6 k hk, ex _ (by omega) (by omega)]⟩
      · rw [g3 (a + 10 + 2 * r) (by omega), g3 (a + 10 + 2 * r + 1) (by omega)]; exact md r (by omega))
    exact ⟨M', y1, y2, fun c hc => (y3 c hc).trans (g3 c (by omega)), y4⟩
theorem copyC {a x : Nat} (h : a + 30 ≤ x ∨ x + 30 ≤ a) (h6 : A.1 x 6 = 0 ∨ A.1 x 6 = 1) (h8 : ∀ r, r < 10 → A.1 (x + 10 + 2 * r) 8 = 0 ∨ A.1 (x + 10 + 2 * r) 8 = 1) : ∃ A', R_X2_copy a x A = some A' ∧ A'.2 = A.2 ∧ (∀ c, c < a ∨ a + 30 ≤ c → A'.1 c = A.1 c) ∧ CpE a x A A' := by
  unfold R_X2_copy
  rw [cz_v h6, bd1_s]
  obtain ⟨A1, hA1⟩ : ∃ X, X = setI (setI (setI (setI A a 6 (A.1 x 6)) a 7 (A.1 x 7)) a 8 (A.1 x 8)) a 9 (A.1 x 9) := ⟨_, rfl⟩
  have e1 : ∀ c, c ≠ a → A1.1 c = A.1 c := fun c hc => by rw [hA1, fI hc, fI hc, fI hc, fI hc]
  have e1j : ∀ j, 6 ≤ j → j < 10 → A1.1 a j = A.1 x j := fun j p1 p2 => by
    rw [hA1]
    rcases (show j = 6 ∨ j = 7 ∨ j = 8 ∨ j = 9 by omega) with rfl | rfl | rfl | rfl <;> simp (disch := omega) only [gI, gs_eI]
  obtain ⟨b2, bc, bj, bi⟩ := ballcp (a := a + 4) (x := x + 4) (M := A1) (by omega)
  obtain ⟨A2, hA2⟩ : ∃ X, X = U_X0_copy (a + 4) (x + 4) A1 := ⟨_, rfl⟩
  rw [← hA2] at b2 bc bj bi
  obtain ⟨t2, tc, tj, ti, tg⟩ := talcp (a := a + 7) (x := x + 7) (M := A2) (by omega)
  obtain ⟨A3, hA3⟩ : ∃ X, X = U_X7_copy (a + 7) (x + 7) A2 := ⟨_, rfl⟩
  rw [← hA3] at t2 tc tj ti tg
  rw [← hA1, ← hA2, ← hA3]
  have q2 : A3.2 = A.2 := by rw [t2, b2, hA1]; rfl
  have out : ∀ c, c < a ∨ a + 10 ≤ c → A3.1 c = A.1 c := fun c hc => by rw [tc c (by omega), bc c (by omega), e1 c (by omega)]
  obtain ⟨A', r1, r2, r3, r4⟩ := rob_loop (a := a) (x := x) (A0 := A) h h8 10 0 A3 rfl q2 (fun c _ p => out c p) (fun r _ _ => ⟨out _ (by omega), out _ (by omega)⟩) (fun r hr => by omega)
  rw [bnd1_e r1]
  refine ⟨A', rfl, r2, fun c hc => by rw [r3 c (by omega)]; exact out c (by omega), fun j p1 p2 => ?_, fun j hj => ?_, fun i hi => ⟨?_, ?_⟩, fun j hj => ?_, fun i hi => ?_, fun i hi => ?_, r4⟩
  · rw [r3 a (by omega), tc a (by omega), bc a (by omega)]; exact e1j j p1 p2
  · rw [r3 (a + 4) (by omega), tc (a + 4) (by omega), bj j hj, e1 _ (by omega)]
  · rw [r3 (a + 5) (by omega), tc (a + 5) (by omega)]; exact (bi i hi).1.trans (by rw [e1 _ (by omega)])
  · rw [r3 (a + 6) (by omega), tc (a + 6) (by omega)]; exact (bi i hi).2.trans (by rw [e1 _ (by omega)])
  · rw [r3 (a + 7) (by omega), tj j hj, bc (x + 7) (by omega), e1 _ (by omega)]
  · rw [r3 (a + 8) (by omega)]; exact (ti i hi).trans (by rw [bc _ (by omega), e1 _ (by omega)])
  · rw [r3 (a + 9) (by omega)]; exact (tg i hi).trans (by rw [bc _ (by omega), e1 _ (by omega)])
theorem KP.cp {a x t : Nat} {SV SV' : Nat → Nat → Prop} {A A' : Mem} {ρ σ : Nat → Int32} (h : KP x t SV A ρ) (hC : CpE a x A A') (hRK : ∀ r, r < 10 → RK a A r) (hρ : ∀ k, k < 212 → σ k = ρ k) (hs : ∀ q s, SV q s → SV' q s) : KP a t SV' A' σ := by
  obtain ⟨c1, c2, c3, c4, c5, c6, c7⟩ := hC
  obtain ⟨⟨k1, k2, k3, k4, th, ta, k5, k6, k7, k8, k9, k10⟩, ⟨g0, g1, l1, l2, l3, l4, l5, l6, l7, l8, l9, l10⟩, ⟨⟨⟨bx, byy, p1, p2, p3, p4⟩, p5, p6, p7, p8, p9, p10⟩, hF, s1, hS⟩, hRob, ⟨kk, w1, w2, w3, w4⟩⟩ := h
  refine ⟨⟨by rw [c1 6 (by decide) (by decide)]; exact k1, by rw [hρ 0 (by decide)]; exact k2, by rw [c1 7 (by decide) (by decide)]; exact k3, by rw [hρ 3 (by decide)]; exact k4, th, ta, k5, k6, by rw [c1 8 (by decide) (by decide)]; exact k7, by rw [hρ 1 (by decide)]; exact k8, by rw [c1 9 (by decide) (by decide)]; exact k9, by rw [hρ 2 (by decide)]; exact k10⟩, ⟨g0, g1, l1, by rw [c4 0 (by decide)]; exact l2, by rw [hρ 4 (by decide)]; exact l3, by rw [c4 1 (by decide)]; exact l4, by rw [hρ 5 (by decide)]; exact l5, by rw [c4 2 (by decide), hρ 10 (by decide)]; exact l6, by rw [c4 3 (by decide), hρ 11 (by decide)]; exact l7, fun i hi => by rw [c5 i hi, hρ _ (by omega)]; exact l8 i hi, by rw [hρ 12 (by decide)]; exact l9, fun i hi => by have := mn20_le (n := g0 + g1); rw [c6 i (by omega), hρ _ (by omega)]; exact l10 i hi⟩, ⟨⟨⟨bx, byy, p1, p2, by rw [hρ 14 (by decide)]; exact p3, by rw [hρ 15 (by decide)]; exact p4⟩, by rw [c2 0 (by decide), hρ 14 (by decide)]; exact p5, by rw [c2 1 (by decide), hρ 15 (by decide)]; exact p6, by rw [c2 2 (by decide), hρ 16 (by decide)]; exact p7, by rw [c2 4 (by decide), hρ 17 (by decide)]; exact p8, by rw [c2 5 (by decide), hρ 18 (by decide)]; exact p9, by rw [c2 6 (by decide), hρ 19 (by decide)]; exact p10⟩, ?_, by rw [c2 9 (by decide), hρ 21 (by decide)]; exact s1, ?_⟩, fun r hr => ?_, ⟨kk, w1, by rw [hρ 13 (by decide)]; exact w2, fun hk l q1 q2 => ?_, fun hk i hi => ?_⟩⟩
  · rcases hF with ⟨f1, f2, f3, f4⟩ | ⟨x1, f1, f2, f3, f4, f5, f6, f7, f8, f9⟩
    · left
      unfold FreeB
      rw [hρ 16 (by decide), hρ 17 (by decide), hρ 18 (by decide), hρ 19 (by decide)]
      exact ⟨f1, f2, f3, f4⟩
    · right
      refine ⟨x1, f1, by rw [hρ 16 (by decide)]; exact f2, by rw [c2 3 (by decide), hρ 20 (by decide)]; exact f3, by rw [hρ 20 (by decide)]; exact f4, by rw [hρ 17 (by decide)]; exact f5, by rw [hρ 18 (by decide)]; exact f6, by rw [hρ 19 (by decide)]; exact f7, by rw [hρ 14 (by decide), hρ _ (by omega)]; exact f8, by rw [hρ 15 (by decide), hρ _ (by omega)]; exact f9⟩
  · rw [hρ 21 (by decide), hρ 22 (by decide), hρ 23 (by decide), c2 7 (by decide), c2 8 (by decide)]; exact hS
  · obtain ⟨d1, d2, d3⟩ := c7 r hr
    obtain ⟨x1, x2, x3, x4, x5, x6, _⟩ := hRob r hr
    have hr16 : ∀ k, k < 16 → σ (44 + 16 * r + k) = ρ (44 + 16 * r + k) := fun k hk => hρ _ (by omega)
    have R1 : RobR a SV A' σ r := by
      refine ⟨⟨by rw [d1 2 (by omega)]; exact x1.1.trans (hr16 0 (by decide)).symm, by rw [d1 3 (by omega), hr16 1 (by decide)]; exact x1.2⟩, x2.cg (fun k hk => hr16 k (by omega)), ?_, x4.cg (fun k hk => hr16 k (by omega)), ⟨by rw [d1 10 (by omega), hr16 8 (by decide)]; exact x5.1, by rw [d1 11 (by omega), hr16 9 (by decide)]; exact x5.2⟩, ?_, ?_⟩
      · obtain ⟨y1, y2, y3, y4, y5, y6, y7, y8⟩ := x3
        exact ⟨by rw [d1 7 (by omega), hr16 2 (by decide)]; exact y1, by rw [d1 8 (by omega), hr16 3 (by decide)]; exact y2, fun i hi => by rw [d3 i hi, hρ _ (by omega)]; exact y3 i hi, by rw [d1 6 (by omega), hr16 11 (by decide)]; exact y4, by rw [d1 4 (by omega), hr16 12 (by decide)]; exact y5, by rw [d1 5 (by omega), hr16 13 (by decide)]; exact y6, by rw [d1 12 (by omega), hr16 14 (by decide)]; exact y7, by rw [d1 13 (by omega), hr16 15 (by decide)]; exact y8⟩
      · unfold CMR; rw [d1 14 (by omega), hr16 10 (by decide)]; exact x6
      · exact (hRK r hr).cg (fun j hj => d2 j hj)
    exact R1.sv hs
  · rw [(c3 _ (by omega)).1, (c3 _ (by omega)).2, hρ _ (by omega), hρ _ (by omega)]; exact w3 hk l q1 q2
  · rw [(c3 i hi).1, (c3 i hi).2, hρ 14 (by decide), hρ 15 (by decide)]; exact w4 hk i hi
theorem keep_M1 {k : Nat} (hk : k < 2) : ∀ (n i : Nat) (M : Mem), i + n = 212 → ∃ M', L_X11_keep_34 (nI k) 259 n i M = some M' ∧ M'.2 = M.2 ∧ (∀ c, c ≠ 261 → M'.1 c = M.1 c) ∧ (∀ x, ¬ (212 * k + i ≤ x ∧ x < 212 * k + 212) → M'.1 261 x = M.1 261 x) ∧ ∀ y, i ≤ y → y < 212 → M'.1 261 (212 * k + y) = M.1 259 y := by
  intro n
  induction n with
  | zero => intro i M hi; exact ⟨M, rfl, rfl, fun _ _ => rfl, fun _ _ => rfl, fun y p1 p2 => by omega⟩
  | succ n ih =>
    intro i M hi
    rw [L_X11_keep_34, show (212 : Int32) = nI 212 from rfl, pk_mul, nI_add, ck_nI (by omega) (by omega), nI_clamp (by omega)]
    obtain ⟨M', g1, g2, g3, g4, g5⟩ := ih (i + 1) (setI M 261 (212 * k + i) (M.1 259 i)) (by omega)
    refine ⟨M', g1, g2, fun c hc => by rw [g3 c hc, fI hc], fun x hx => by rw [g4 x (by omega), gI (Or.inr (by omega))], fun y p1 p2 => ?_⟩
    by_cases e : y = i
    · subst e
      rw [g4 _ (by omega), gs_eI]
    · rw [g5 y (by omega) p2, gI (Or.inl (by decide))]
theorem back_M1 {k : Nat} (hk : k < 2) : ∀ (n i : Nat) (M : Mem), i + n = 212 → ∃ M', L_X11_back_40 (nI k) 259 n i M = some M' ∧ M'.2 = M.2 ∧ (∀ c, c ≠ 259 → M'.1 c = M.1 c) ∧ (∀ x, x < i → M'.1 259 x = M.1 259 x) ∧ ∀ y, i ≤ y → y < 212 → M'.1 259 y = M.1 261 (212 * k + y) := by
  intro n
  induction n with
  | zero => intro i M hi; exact ⟨M, rfl, rfl, fun _ _ => rfl, fun _ _ => rfl, fun y p1 p2 => by omega⟩
  | succ n ih =>
    intro i M hi
    rw [L_X11_back_40, show (212 : Int32) = nI 212 from rfl, pk_mul, nI_add, ck_nI (by omega) (by omega), nI_clamp (by omega)]
    obtain ⟨M', g1, g2, g3, g4, g5⟩ := ih (i + 1) (setI M 259 i (M.1 261 (212 * k + i))) (by omega)
    refine ⟨M', g1, g2, fun c hc => by rw [g3 c hc, fI hc], fun x hx => by rw [g4 x (by omega), gI (Or.inr (by omega))], fun y p1 p2 => ?_⟩
    by_cases e : y = i
    · subst e
      rw [g4 _ (by omega), gs_eI]
    · rw [g5 y (by omega) p2, gI (Or.inl (by decide))]
end CPY
