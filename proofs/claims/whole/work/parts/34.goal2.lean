theorem FrA.ofKp {b : Nat} {A0 A : Mem} (h : Kp b A0 A) : FrA b A0 A := ⟨h.1, h.2.1⟩
theorem FrB.ofKp {mA : Nat} {B0 B : Mem} (h : KpM mA B0 B) : FrB mA B0 B := ⟨h.1, fun c h1 h2 _ _ _ => h.2.1 c h1 h2, fun j hj => h.2.2.1 j (fun e => hj (scr_of (by omega))) (fun e => hj (scr_of (by omega))) (fun e => hj (scr_of (by omega)))⟩
/-- the relation behind a kick-off that comes at the end of tick t -/
theorem KD.ek {b mA t : Nat} {SV : Nat → Nat → Prop} {A0 B0 A1 B1 A B : Mem} (hm : mA ≠ 242) (h : KD b mA SV (nI (t + 1)) A1 B1 A B) (hA : FrA b A0 A1) (hB : FrB mA B0 B1) (hH : HeadR b t A1 (B1.1 mA)) (hT : TalR b (t + 1) A1 (B1.1 mA)) (hC : ∀ r, r < 10 → CMR b A1 (B1.1 mA) r ∧ RK b A1 r) : EK b mA t SV A0 B0 A B := by
  obtain ⟨k1, k2, k3, k4, k5, k6, k7⟩ := h
  obtain ⟨bx, b0, b1, b2, b4, b5, b6, b9⟩ := k5
  refine ⟨hA.tr (FrA.ofKp k1), hB.tr (FrB.ofKp k2), k3, hH.cg (fun j => by rw [k1.2.2.1]) (fun k hk => k2.2.2.2.1 k (by omega)), hT.cg (fun c j a1 a2 => ?_) (fun k hk => k2.2.2.2.1 k (by omega)), ⟨⟨bx, b0, b1, ?_, ?_, ?_, ?_⟩, Or.inl ⟨b2.2, ⟨0, by decide, b4.2⟩, ?_, ?_⟩, ?_, Or.inl b9.2⟩, fun r hr => ?_, ⟨t + 1, Nat.le_refl _, k7, fun e => by omega, fun _ i hi => ?_⟩⟩
  · obtain ⟨d, rfl⟩ : ∃ d, c = b + 7 + d := ⟨c - (b + 7), by omega⟩
    rw [k1.2.2.2.1 d (by omega)]
  · rw [b2.1, b2.2]
  · rw [b4.1, b4.2]
  · rw [b5.1, b5.2]
  · rw [b6.1, b6.2]
  · rw [b5.2]; exact Or.inr (Or.inl rfl)
  · rw [b6.2]; exact Or.inr (Or.inl rfl)
  · rw [b9.1, b9.2]
  · obtain ⟨p1, p2, p3, p4, p5⟩ := k4 r hr
    obtain ⟨c1, c2⟩ := hC r hr
    obtain ⟨q0, q1, q14⟩ := k1.2.2.2.2 r hr
    refine ⟨p1, p2, p3, p4, p5, ?_, ?_⟩
    · unfold CMR at c1 ⊢
      rw [q14, k2.2.2.2.2 r hr]; exact c1
    · unfold RK at c2 ⊢
      rw [q0, q1]; exact c2
  · rw [(k6 i hi).1, (k6 i hi).2]; exact ⟨b0, b1⟩
theorem scored_M {mA t g team : Nat} {B : Mem} {gm : Int32} (hg : (gm = 1 ∧ team = 0) ∨ (gm = 0 ∧ team = 1)) (h12 : B.1 mA 12 = nI (mn20 g)) (ht : B.1 mA 3 = nI t) (hgl : g < 2 ^ 30) (htl : t < 2 ^ 30) : R_X11_scored gm mA B = bnd1 (R_X11_kickOff (nI (t + 1)) mA (goalM mA t g team (B.1 mA (4 + team)) B)) some := by
  have e0 : (1 : Int32) - gm = nI team := by rcases hg with ⟨rfl, rfl⟩ | ⟨rfl, rfl⟩ <;> rfl
  have ht2 : team < 2 := by omega
  have e1 : (4 : Int32) + nI team = nI (4 + team) := by rw [show (4 : Int32) = nI 4 from rfl, nI_add]
  have e3 : (1000 : Int32) * nI team = nI (1000 * team) := by rw [show (1000 : Int32) = nI 1000 from rfl, pk_mul]
  unfold R_X11_scored goalM
  rw [e0]
  simp only [bd1_s]
  rw [e1, ck_nI (by omega) (by omega), ck_nI (by omega) (by omega), nI_clamp (by omega)]
  rw [gI (Or.inr (by omega)), gI (Or.inr (by omega)), h12, ht, e3, nI_add]
  by_cases c : g < 20
  · have em : mn20 g = g := by unfold mn20; rw [if_pos c]
    have e4 : (24 : Int32) + nI g = nI (24 + g) := by rw [show (24 : Int32) = nI 24 from rfl, nI_add]
    rw [em, if_neg (nleL (y := 20) 20 c rfl (by decide)), if_pos c, e4, ck_nI (by omega) (by omega), nI_clamp (by omega), bnd1_s]
    have e5 : (setI (setI B mA (4 + team) (B.1 mA (4 + team) + 1)) mA (24 + g) (nI (t + 1000 * team))).1 mA 12 + 1 = nI (g + 1) := by
      rw [gI (Or.inr (by omega)), gI (Or.inr (by omega)), h12, em, nI_1]
    rw [e5]
    have e6 : (setI (setI (setI B mA (4 + team) (B.1 mA (4 + team) + 1)) mA (24 + g) (nI (t + 1000 * team))) mA 12 (nI (g + 1))).1 mA 3 + 1 = nI (t + 1) := by
      rw [gI (Or.inr (by omega)), gI (Or.inr (by omega)), gI (Or.inr (by omega)), ht, nI_1]
    rw [e6]
  · have em : mn20 g = 20 := by unfold mn20; rw [if_neg c]
    rw [em, if_pos (leL (y := 20) 20 (Nat.le_refl _) rfl (by decide)), if_neg c, bnd1_s]
    have e6 : (setI B mA (4 + team) (B.1 mA (4 + team) + 1)).1 mA 3 + 1 = nI (t + 1) := by
      rw [gI (Or.inr (by omega)), ht, nI_1]
    rw [e6]
theorem TmR.cg {A A' B B' : Mem} (h : TmR A B) (hA : ∀ c, c < 122 → A'.1 c = A.1 c) (hB : ∀ c, 254 ≤ c → c ≤ 258 → B'.1 c = B.1 c) : TmR A' B' := by
  intro t ht
  obtain ⟨h1, h2, h3⟩ := h t ht
  refine ⟨fun k hk => ?_, ?_, ?_⟩
  · rw [hA _ (by omega), hA _ (by omega), hA _ (by omega), hB 254 (by decide) (by decide), hB 255 (by decide) (by decide), hB 256 (by decide) (by decide)]; exact h1 k hk
  · rw [hA _ (by omega), hB 257 (by decide) (by decide)]; exact h2
  · rw [hA _ (by omega), hB 258 (by decide) (by decide)]; exact h3
theorem TmI.cg {SV : Nat → Nat → Prop} {B B' : Mem} (h : TmI SV B) (hB : ∀ c, 254 ≤ c → c ≤ 258 → B'.1 c = B.1 c) : TmI SV B' := by
  unfold TmI at h ⊢
  rw [hB 254 (by decide) (by decide), hB 255 (by decide) (by decide), hB 256 (by decide) (by decide), hB 257 (by decide) (by decide), hB 258 (by decide) (by decide)]
  exact h
theorem goal_sim {b mA t : Nat} {gc gm : Int32} {SV : Nat → Nat → Prop} {A0 B0 A B : Mem} (hb : 122 ≤ b) (hm : mA = 259 ∨ mA = 260) (ht : t < 2 ^ 30 - 1) (hg : Gl gc gm) (hT : TmR A0 B0) (hTI : TmI SV B0) (hK : TK b mA t SV A0 B0 A B) : ∃ A' B', R_X2_applyLaws b gc A = some (0, A') ∧ R_X11_law gm mA B = some (0, B') ∧ EK b mA t SV A0 B0 A' B' := by
  have hm2 : mA ≠ 242 := by omega
  obtain ⟨h1, h2, h3, h4, h5, h6, h7, h8⟩ := id hK
  obtain ⟨g0, g1, q1, q2, q3, q4, q5, q6, q7, q8, q9, q10⟩ := id h5
  obtain ⟨p1, p2, p3, p4, th, ta, hth, hta, p5, p6, p7, p8⟩ := id h4
  obtain ⟨team, htm, hgm, hgc, hne, hgm0⟩ : ∃ team, team < 2 ∧ ((gm = 1 ∧ team = 0) ∨ (gm = 0 ∧ team = 1)) ∧ ((team = 0 ∧ (if gc = (2 : Int32) then (1 : Int32) else (0 : Int32)) = 0) ∨ (team = 1 ∧ (if gc = (2 : Int32) then (1 : Int32) else (0 : Int32)) = 1)) ∧ ¬ gc = 0 ∧ ¬ gm < 0 := by
    rcases hg with ⟨rfl, rfl⟩ | ⟨rfl, rfl⟩
    · exact ⟨0, by decide, Or.inl ⟨rfl, rfl⟩, Or.inl ⟨rfl, by decide⟩, by decide, by decide⟩
    · exact ⟨1, by decide, Or.inr ⟨rfl, rfl⟩, Or.inr ⟨rfl, by decide⟩, by decide, by decide⟩
  have hTal := goal_Tal (mA := mA) htm h5 q2 q4 q1 (by omega)
  have hC1 := addGoal_C (b := b) (t := t) (team := team) hgc q2 q4 (by omega) (by omega)
  have hM1 := scored_M (mA := mA) (t := t) (g := g0 + g1) hgm q9 p4 (by omega) (by omega)
  have oC : ∀ c j, c ≠ b + 7 ∧ c ≠ b + 9 → (goalC b t (g0 + g1) team (A.1 (b + 7) team) A).1 c j = A.1 c j := fun c j h => goalC_o h
  have oM : ∀ k, k < 4 ∨ (6 ≤ k ∧ k < 12) ∨ (13 ≤ k ∧ k < 24) ∨ 44 ≤ k → (goalM mA t (g0 + g1) team (B.1 mA (4 + team)) B).1 mA k = B.1 mA k := fun k h => goalM_o htm h
  have hFA : FrA b A0 (goalC b t (g0 + g1) team (A.1 (b + 7) team) A) := by
    unfold goalC
    refine FrA.set ?_ (by omega) (by omega)
    split
    · exact h1.set (by omega) (by omega)
    · exact h1
  have hFB : FrB mA B0 (goalM mA t (g0 + g1) team (B.1 mA (4 + team)) B) := by
    unfold goalM
    split
    · exact ((h2.row hm2).row hm2).row hm2
    · exact h2.row hm2
  have hHd : HeadR b t (goalC b t (g0 + g1) team (A.1 (b + 7) team) A) ((goalM mA t (g0 + g1) team (B.1 mA (4 + team)) B).1 mA) := h4.cg (fun j => oC _ _ (by omega)) (fun k hk => oM k (by omega))
  obtain ⟨_, _, _, _, th', ta', hth', hta', r5, r6, r7, r8⟩ := id hHd
  obtain ⟨A', B', k1, k2, k3⟩ := kick_sim (x1 := nI (t + 1)) (SV := SV) hb hm hth' hta' r5 r7 r6 r8 (hT.cg (fun c hc => by rw [hFA.2 c (by omega)]) (fun c a1 a2 => hFB.2.1 c (by omega) (by omega) (by omega) (by omega) (by omega))) (hTI.cg (fun c a1 a2 => hFB.2.1 c (by omega) (by omega) (by omega) (by omega) (by omega))) (fun j hj => (h7 j hj).2.2.2.2.2.2.cg (fun k _ => oC _ _ (by omega)))
  refine ⟨A', B', ?_, ?_, k3.ek hm2 hFA hFB hHd hTal (fun r hr => ⟨?_, (h7 r hr).2.2.2.2.2.2.cg (fun k _ => oC _ _ (by omega))⟩)⟩
  · unfold R_X2_applyLaws
    rw [if_neg hne, bd1_s, p3, hC1, bnd1_e k1]
  · unfold R_X11_law
    rw [if_neg hgm0, hM1, k2]
    rfl
  · have := (h7 r hr).2.2.2.2.2.1
    unfold CMR at this ⊢
    rw [oC _ _ (by omega), oM _ (by omega)]; exact this
