/-! ===== a match begins ===== -/
theorem KD.sk {b mA : Nat} {SV : Nat → Nat → Prop} {A0 B0 A1 B1 A B : Mem} (h : KD b mA SV (nI 0) A1 B1 A B) (hA : FrA b A0 A1) (hB : FrB mA B0 B1) (hH : HeadR b 0 A1 (B1.1 mA)) (hT : TalR b 0 A1 (B1.1 mA)) (hC : ∀ r, r < 10 → CMR b A1 (B1.1 mA) r ∧ RK b A1 r) : SK b mA 0 SV A0 B0 A B := by
  obtain ⟨k1, k2, k3, k4, k5, k6, k7⟩ := h
  obtain ⟨bx, b0, b1, b2, b4, b5, b6, b9⟩ := k5
  refine ⟨hA.tr (FrA.ofKp k1), hB.tr (FrB.ofKp k2), k3, hH.cg (fun j => by rw [k1.2.2.1]) (fun k hk => k2.2.2.2.1 k (by omega)), hT.cg (fun c j a1 a2 => ?_) (fun k hk => k2.2.2.2.1 k (by omega)), ⟨⟨bx, b0, b1, ?_, ?_, ?_, ?_⟩, Or.inl ⟨b2.2, ⟨0, by decide, b4.2⟩, ?_, ?_⟩, ?_, Or.inl b9.2⟩, fun r hr => ?_, ⟨0, Nat.le_refl _, k7, fun e => by omega, fun _ i hi => ?_⟩⟩
  · obtain ⟨d, rfl⟩ : ∃ d, c = b + 7 + d := ⟨c - (b + 7), by omega⟩
    rw [k1.2.2.2.1 d (by omega)]
  · rw [b2.1, b2.2]
  · rw [b4.1, b4.2]
  · rw [b5.1, b5.2]
  · rw [b6.1, b6.2]
  · rw [b5.2]; exact Or.inr (Or.inl rfl)
  · rw [b6.2]; exact Or.inr (Or.inl rfl)
  · rw [b9.1, b9.2]
  · obtain ⟨p1, p2, p3, p4, p5⟩ := k4 r hr
    obtain ⟨c1, c2⟩ := hC r hr
    obtain ⟨q0, q1, q14⟩ := k1.2.2.2.2 r hr
    refine ⟨p1, p2, p3, p4, p5, ?_, ?_⟩
    · unfold CMR at c1 ⊢
      rw [q14, k2.2.2.2.2 r hr]; exact c1
    · unfold RK at c2 ⊢
      rw [q0, q1]; exact c2
  · rw [(k6 i hi).1, (k6 i hi).2]; exact ⟨b0, b1⟩
theorem open_loop {b : Nat} {x1 x2 : Int32} {A0 : Mem} : ∀ (n i : Nat) (A : Mem), i + n = 10 → FrA b A0 A → ∃ A', L_X2_open_29 b x1 x2 n i A = some A' ∧ FrA b A0 A' ∧ (∀ d, d < b + 10 → A'.1 d = A.1 d) ∧ (∀ s, s < 10 → ∀ j, j < 14 → A'.1 (b + 10 + 2 * s) j = A.1 (b + 10 + 2 * s) j) ∧ (∀ s, i ≤ s → s < 10 → A'.1 (b + 10 + 2 * s) 14 = 0) ∧ (∀ s, s < i → A'.1 (b + 10 + 2 * s) 14 = A.1 (b + 10 + 2 * s) 14) := by
  intro n
  induction n with
  | zero => intro i A hi hF; exact ⟨A, rfl, hF, fun _ _ => rfl, fun _ _ _ _ => rfl, fun s h1 h2 => by omega, fun _ _ => rfl⟩
  | succ n ih =>
    intro i A hi hF
    have F1 : FrA b A0 (decC (b + 10 + 2 * i) 0 0 0 0 A) := by
      unfold decC
      exact (((hF.set (by omega) (by omega)).set (by omega) (by omega)).set (by omega) (by omega)).set (by omega) (by omega)
    obtain ⟨A', g1, g2, g3, g4, g5, g6⟩ := ih (i + 1) _ (by omega) F1
    have dR : ∀ s j, s ≠ i ∨ j < 14 → (decC (b + 10 + 2 * i) 0 0 0 0 A).1 (b + 10 + 2 * s) j = A.1 (b + 10 + 2 * s) j := fun s j h => by
      unfold decC; simp (disch := omega) only [gI]
    refine ⟨A', by rw [L_X2_open_29, bd1_s, dec_eq]; exact g1, g2, fun d hd => (g3 d hd).trans (decC_f (by omega)), fun s hs j hj => (g4 s hs j hj).trans (dR s j (Or.inr hj)), fun s p1 p2 => ?_, fun s hs => (g6 s (by omega)).trans (dR s 14 (Or.inl (by omega)))⟩
    by_cases c : s = i
    · rw [c, g6 i (by omega)]; exact decC_x.1
    · exact g5 s (by omega) p2
theorem clear_loop {a : Nat} : ∀ (n i : Nat) (A : Mem), (F_X7_clear_22 a n i A).2 = A.2 ∧ (∀ d, d ≠ a + 1 → (F_X7_clear_22 a n i A).1 d = A.1 d) ∧ (∀ j, j < i → (F_X7_clear_22 a n i A).1 (a + 1) j = A.1 (a + 1) j) ∧ ∀ j, i ≤ j → j < i + n → (F_X7_clear_22 a n i A).1 (a + 1) j = 0 := by
  intro n
  induction n with
  | zero => intro i A; exact ⟨rfl, fun _ _ => rfl, fun _ _ => rfl, fun j h1 h2 => by omega⟩
  | succ n ih =>
    intro i A
    obtain ⟨g1, g2, g3, g4⟩ := ih (i + 1) (setI A (a + 1) i 0)
    rw [F_X7_clear_22]
    refine ⟨g1, fun d hd => (g2 d hd).trans (fI hd), fun j hj => (g3 j (by omega)).trans (gI (Or.inr (by omega))), fun j p1 p2 => ?_⟩
    by_cases c : j = i
    · rw [c, g3 i (by omega)]; exact gs_eI
    · exact g4 j (by omega) (by omega)
theorem zero_loop {mA : Nat} {x1 x2 : Int32} : ∀ (n i : Nat) (B : Mem), ∃ B', L_X11_beginMatch_2 x1 x2 mA n i B = some B' ∧ B'.2 = B.2 ∧ (∀ d, d ≠ mA → B'.1 d = B.1 d) ∧ (∀ j, j < i → B'.1 mA j = B.1 mA j) ∧ ∀ j, i ≤ j → j < i + n → B'.1 mA j = 0 := by
  intro n
  induction n with
  | zero => intro i B; exact ⟨B, rfl, rfl, fun _ _ => rfl, fun _ _ => rfl, fun j h1 h2 => by omega⟩
  | succ n ih =>
    intro i B
    obtain ⟨B', g0, g1, g2, g3, g4⟩ := ih (i + 1) (setI B mA i 0)
    refine ⟨B', by rw [L_X11_beginMatch_2]; exact g0, g1, fun d hd => (g2 d hd).trans (fI hd), fun j hj => (g3 j (by omega)).trans (gI (Or.inr (by omega))), fun j p1 p2 => ?_⟩
    by_cases c : j = i
    · rw [c, g3 i (by omega)]; exact gs_eI
    · exact g4 j (by omega) (by omega)
theorem open_sim {b mA th ta : Nat} {SV : Nat → Nat → Prop} {A0 B0 : Mem} (hb : 122 ≤ b) (hm : mA = 259 ∨ mA = 260) (hth : th < 4) (hta : ta < 4) (hT : TmR A0 B0) (hTI : TmI SV B0) (hRK : ∀ j, j < 10 → RK b A0 j) : ∃ A' B', R_X2_open b (nI th) (nI ta) A0 = some A' ∧ R_X11_beginMatch (nI th) (nI ta) mA B0 = some B' ∧ SK b mA 0 SV A0 B0 A' B' := by
  have hm2 : mA ≠ 242 := by omega
  obtain ⟨A1, hA1⟩ : ∃ X, X = setI (setI (setI (setI A0 b 6 1) b 7 0) b 8 (nI th)) b 9 (nI ta) := ⟨_, rfl⟩
  have F1 : FrA b A0 A1 := by
    rw [hA1]
    exact (((FrA.rf.set (by omega) (by omega)).set (by omega) (by omega)).set (by omega) (by omega)).set (by omega) (by omega)
  have c1 : ∀ d, d ≠ b → A1.1 d = A0.1 d := fun d hd => by rw [hA1, fI hd, fI hd, fI hd, fI hd]
  have r1 : A1.1 b 6 = 1 ∧ A1.1 b 7 = 0 ∧ A1.1 b 8 = nI th ∧ A1.1 b 9 = nI ta := by
    rw [hA1]; simp (disch := omega) only [gI, gs_eI, and_self]
  obtain ⟨q1, q2, q3, q4⟩ := clear_loop (a := b + 7) 4 0 (setI (setI (setI (setI A1 (b + 7) 0 0) (b + 7) 1 0) (b + 7) 2 0) (b + 7) 3 0)
  obtain ⟨A2, hA2⟩ : ∃ X, X = U_X7_clear (b + 7) A1 := ⟨_, rfl⟩
  have eA2 : A2 = F_X7_clear_22 (b + 7) 4 0 (setI (setI (setI (setI A1 (b + 7) 0 0) (b + 7) 1 0) (b + 7) 2 0) (b + 7) 3 0) := hA2
  rw [← eA2] at q1 q2 q3 q4
  have c2 : ∀ d, d ≠ b + 7 → d ≠ b + 8 → A2.1 d = A1.1 d := fun d p1 p2 => by rw [q2 d p2, fI p1, fI p1, fI p1, fI p1]
  have F2 : FrA b A0 A2 := ⟨q1.trans F1.1, fun c hc => (c2 c (by omega) (by omega)).trans (F1.2 c hc)⟩
  have t2 : ∀ j, j < 4 → A2.1 (b + 7) j = 0 := fun j hj => by
    rw [q2 _ (by omega)]
    rcases (by omega : j = 0 ∨ j = 1 ∨ j = 2 ∨ j = 3) with rfl | rfl | rfl | rfl
    all_goals (simp (disch := omega) only [gI, gs_eI])
  obtain ⟨A3, g1, g2, g3, g4, g5, _⟩ := open_loop (x1 := nI th) (x2 := nI ta) 10 0 A2 rfl F2
  obtain ⟨B1, z0, z1, z2, _, z4⟩ := zero_loop (mA := mA) (x1 := nI th) (x2 := nI ta) 212 0 B0
  obtain ⟨B2, hB2⟩ : ∃ X, X = setI (setI (setI B1 mA 0 1) mA 1 (nI th)) mA 2 (nI ta) := ⟨_, rfl⟩
  have FB : FrB mA B0 B2 := by
    rw [hB2]
    exact (((show FrB mA B0 B1 from ⟨z1, fun c p _ _ _ _ => z2 c p, fun j _ => by rw [z2 242 (Ne.symm hm2)]⟩).row hm2).row hm2).row hm2
  have rB : B2.1 mA 0 = 1 ∧ B2.1 mA 1 = nI th ∧ B2.1 mA 2 = nI ta := by
    rw [hB2]; simp (disch := omega) only [gI, gs_eI, and_self]
  have zB : ∀ k, 3 ≤ k → k < 212 → B2.1 mA k = 0 := fun k p1 p2 => by
    rw [hB2, gI (Or.inr (by omega)), gI (Or.inr (by omega)), gI (Or.inr (by omega))]; exact z4 k (by omega) (by omega)
  have hb3 : A3.1 b = A1.1 b := (g3 b (by omega)).trans (c2 b (by omega) (by omega))
  have hRK3 : ∀ j, j < 10 → RK b A3 j := fun j hj => (hRK j hj).cg (fun i hi => by rw [g4 j hj i (by omega), c2 _ (by omega) (by omega), c1 _ (by omega)])
  have hT3 : TmR A3 B2 := hT.cg (fun c p1 => g2.2 c (by omega)) (fun c p1 p2 => FB.2.1 c (by omega) (by omega) (by omega) (by omega) (by omega))
  have hTI3 : TmI SV B2 := hTI.cg (fun c p1 p2 => FB.2.1 c (by omega) (by omega) (by omega) (by omega) (by omega))
  obtain ⟨A', B', k1, k2, k3⟩ := kick_sim (x1 := nI 0) hb hm hth hta (by rw [hb3]; exact r1.2.2.1) (by rw [hb3]; exact r1.2.2.2) rB.2.1 rB.2.2 hT3 hTI3 hRK3
  refine ⟨A', B', ?_, ?_, k3.sk g2 FB ?_ ?_ (fun r hr => ⟨?_, hRK3 r hr⟩)⟩
  · unfold R_X2_open
    rw [← hA1, ← hA2, bd1_s, bnd1_e g1, bnd1_e k1]
  · unfold R_X11_beginMatch
    rw [bnd1_e z0, ← hB2, show (0 : Int32) = nI 0 from rfl, bnd1_e k2]
  · refine ⟨by rw [hb3]; exact r1.1, rB.1, by rw [hb3]; exact r1.2.1, zB 3 (by decide) (by decide), th, ta, hth, hta, by rw [hb3]; exact r1.2.2.1, rB.2.1, by rw [hb3]; exact r1.2.2.2, rB.2.2⟩
  · have t7 : ∀ j, j < 4 → A3.1 (b + 7) j = 0 := fun j hj => by rw [g3 _ (by omega)]; exact t2 j hj
    refine ⟨0, 0, by decide, t7 0 (by decide), zB 4 (by decide) (by decide), t7 1 (by decide), zB 5 (by decide) (by decide), by rw [t7 2 (by decide), zB 10 (by decide) (by decide)], by rw [t7 3 (by decide), zB 11 (by decide) (by decide)], fun i hi => ?_, zB 12 (by decide) (by decide), fun i hi => ?_⟩
    · rw [g3 _ (by omega), zB _ (by omega) (by omega)]; exact q4 i (by omega) (by omega)
    · have : i < 0 := hi
      omega
  · unfold CMR
    rw [g5 r (by omega) hr, zB _ (by omega) (by omega)]
