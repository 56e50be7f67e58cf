/-! ===== the laws ===== -/
theorem crowdC_eq {b side : Nat} {A : Mem} {ρ : Nat → Int32} {px py : Nat → Nat} (hP : PosN ρ px py) (hX : ∀ r, r < 10 → XYR b A ρ r) (hR : ∀ r, r < 10 → RK b A r) (hs : side < 2) : L_X2_thinsCrowd_7 b (nI side) 10 0 (0 : Int32) (-1 : Int32) A = some (nI (cr px 5 (5 * side) (0, none)).1, enc (cr px 5 (5 * side) (0, none)).2) := by
  rcases (show side = 0 ∨ side = 1 by omega) with rfl | rfl
  · have h1 := crowd_loop (b := b) hP hX hR hs true 5 5 0 (0, none) (fun k a1 a2 => by rw [eq_self]; exact eq_true (by omega)) (by omega)
    have h2 := crowd_loop (b := b) hP hX hR hs false 5 0 5 (cr px 5 0 (0, none)) (fun k a1 a2 => by rw [show (false = true) = False by simp]; exact eq_false (by omega)) (by omega)
    rw [if_pos rfl] at h1
    rw [if_neg (by decide)] at h2
    exact h1.trans (h2.trans rfl)
  · have h1 := crowd_loop (b := b) hP hX hR hs false 5 5 0 (0, none) (fun k a1 a2 => by rw [show (false = true) = False by simp]; exact eq_false (by omega)) (by omega)
    have h2 := crowd_loop (b := b) hP hX hR hs true 5 0 5 (0, none) (fun k a1 a2 => by rw [eq_self]; exact eq_true (by omega)) (by omega)
    rw [if_neg (by decide)] at h1
    rw [if_pos rfl] at h2
    exact h1.trans (h2.trans rfl)
/-- a side's crowd: the class and the model see the same -/
theorem crowd_both {b mA side t : Nat} {SV : Nat → Nat → Prop} {A0 B0 A B : Mem} (hm : mA ≠ 242) (hs : side < 2) (hK : TK b mA t SV A0 B0 A B) : (R_X2_thinsCrowd b (nI side) A = some (0, A) ∧ R_X11_crowded (nI side) mA B = some (-1)) ∨ ∃ r A' B', r < 10 ∧ R_X2_thinsCrowd b (nI side) A = some (1, A') ∧ R_X11_crowded (nI side) mA B = some (nI r) ∧ crM r mA B = some (3, B') ∧ TK b mA t SV A0 B0 A' B' := by
  have h7 := hK.2.2.2.2.2.2.1
  obtain ⟨px, py, hP⟩ := PosN_ex (ρ := B.1 mA) (fun r hr => (h7 r hr).2.1)
  have hC := crowdC_eq (b := b) (A := A) hP (XYR_all h7) (fun r hr => (h7 r hr).2.2.2.2.2.2) hs
  have hM := crowd_M (mA := mA) (B := B) hP hs 5 0 (0, none) rfl
  have hok := cr_ok (px := px) 5 (5 * side) (0, none) 0 (by omega) ⟨Nat.le_refl _, fun q => by simp at q⟩
  rw [show 5 * side + 0 = 5 * side from rfl] at hM
  generalize cr px 5 (5 * side) (0, none) = s at hC hM hok
  obtain ⟨n, l⟩ := s
  dsimp only at hC hM hok
  have hM' : R_X11_crowded (nI side) mA B = some (if nI n < (4 : Int32) then (-1 : Int32) else enc l) := by
    unfold R_X11_crowded
    exact bnd2_e hM
  unfold R_X2_thinsCrowd
  rw [bnd2_e hC, hM']
  have hn : n ≤ 5 := by have := hok.1; omega
  by_cases c : n < 4
  · left
    rw [if_neg (nleL (y := 4) 4 c rfl (by decide)), if_pos (ltL (y := 4) 4 c rfl (by decide))]
    exact ⟨rfl, rfl⟩
  · right
    obtain ⟨r, hr, el⟩ := hok.2 (by dsimp only; omega)
    dsimp only at el
    subst el
    obtain ⟨A', B', g1, g2, g3⟩ := start_TK (r := r) hm hr hK
    rw [if_pos (leL (y := 4) 4 (by omega) rfl (by omega)), if_neg (nltL (y := 4) 4 (by omega) rfl (by omega))]
    refine ⟨r, A', B', hr, ?_, rfl, g2, g3⟩
    rw [show enc (some r) = nI r from rfl, bnd1_e g1]
theorem n30 : ¬ (3 : Int32) = 0 := by decide
theorem law_sim {b mA t : Nat} {gc gm : Int32} {SV : Nat → Nat → Prop} {A0 B0 A B : Mem} (hb : 122 ≤ b) (hm : mA = 259 ∨ mA = 260) (ht : t < 2 ^ 30 - 1) (hg : Gl gc gm ∨ (gc = 0 ∧ gm = -1)) (hT : TmR A0 B0) (hTI : TmI SV B0) (hK : TK b mA t SV A0 B0 A B) : ∃ A' B' v, R_X2_applyLaws b gc A = some (v, A') ∧ R_X11_law gm mA B = some (v, B') ∧ (v = -1 ∨ ∃ k : Nat, k < 4 ∧ v = nI k) ∧ EK b mA t SV A0 B0 A' B' := by
  rcases hg with hg | ⟨rfl, rfl⟩
  · obtain ⟨A', B', g1, g2, g3⟩ := goal_sim hb hm ht hg hT hTI hK
    exact ⟨A', B', 0, g1, g2, Or.inr ⟨0, by decide, rfl⟩, g3⟩
  have hm2 : mA ≠ 242 := by omega
  obtain ⟨s, hs, hs2, q1, q2, q3⟩ := slp_eq (mA := mA) hK.2.2.2.2.2.1
  unfold R_X2_applyLaws R_X11_law
  rw [if_pos rfl, if_pos m1_lt, bnd2_e q1, q2, q3]
  by_cases c : s < 10
  · have hK2 := slp_TK hm2 c hK
    rw [if_pos (ltL (y := 10) 10 c rfl (by decide)), if_pos (ltL (y := 10) 10 c rfl (by decide)), if_pos rfl]
    obtain ⟨A2, hA2⟩ : ∃ X, X = slpC b (nI s) (B.1 mA 14) (B.1 mA 15) A := ⟨_, rfl⟩
    obtain ⟨B2, hB2⟩ : ∃ X, X = slpM mA (nI s) (B.1 mA 14) (B.1 mA 15) B := ⟨_, rfl⟩
    rw [← hA2, ← hB2] at hK2 ⊢
    obtain ⟨h1, h2, h3, h4, h5, ⟨hE, hF, hS⟩, h7, h8⟩ := id hK2
    have e16 : A2.1 (b + 4) 2 = B2.1 mA 16 := hE.2.2.2.1
    rw [e16]
    -- the crowd, once the keeping is out of the way
    have crowd : ∃ A' B' v, (bnd2 (R_X2_thinsCrowd b (0 : Int32) A2) (fun v13 M13 => bnd2 (if v13 = 0 then (bnd2 (R_X2_thinsCrowd b (1 : Int32) M13) (fun v17 M17 => if v17 = 0 then (some ((-1 : Int32), M17)) else (some ((3 : Int32), M17)))) else (some ((3 : Int32), M13))) (fun v16_0 M16 => some (v16_0, M16)))) = some (v, A') ∧ (bnd1 (R_X11_crowded (0 : Int32) mA B2) (fun v14 => bnd1 (if v14 < 0 then (bnd1 (R_X11_crowded (1 : Int32) mA B2) (fun v18 => (some v18))) else (bnd1 (R_X11_crowded (0 : Int32) mA B2) (fun v19 => (some v19)))) (fun v17_0 => if 0 ≤ v17_0 then (bnd1 (R_X11_putAtStart v17_0 mA B2) (fun M21 => bnd1 (if (M21.1 mA 16) = v17_0 then (bnd1 (R_X11_of v17_0 (0 : Int32) mA M21) (fun v25 => bnd1 (R_X11_of v17_0 (1 : Int32) mA (setI M21 mA 14 v25)) (fun v26 => (some (setI (setI M21 mA 14 v25) mA 15 v26))))) else (some M21)) (fun M24 => some ((3 : Int32), M24)))) else (some ((-1 : Int32), B2))))) = some (v, B') ∧ (v = -1 ∨ ∃ k : Nat, k < 4 ∧ v = nI k) ∧ EK b mA t SV A0 B0 A' B' := by
      rcases crowd_both (side := 0) hm2 (by decide) hK2 with ⟨c1, c2⟩ | ⟨r, A', B', hr, c1, c2, c3, c4⟩
      · rcases crowd_both (side := 1) hm2 (by decide) hK2 with ⟨d1, d2⟩ | ⟨r, A', B', hr, d1, d2, d3, d4⟩
        · refine ⟨A2, B2, -1, ?_, ?_, Or.inl rfl, hK2.ek⟩
          · rw [bnd2_e (show R_X2_thinsCrowd b 0 A2 = _ from c1), if_pos rfl, bnd2_e (show R_X2_thinsCrowd b 1 A2 = _ from d1), if_pos rfl]; rfl
          · rw [bnd1_e (show R_X11_crowded 0 mA B2 = _ from c2), if_pos m1_lt, bnd1_e (show R_X11_crowded 1 mA B2 = _ from d2), bnd1_s, if_neg m1_nle]
        · refine ⟨A', B', 3, ?_, ?_, Or.inr ⟨3, by decide, rfl⟩, d4.ek⟩
          · rw [bnd2_e (show R_X2_thinsCrowd b 0 A2 = _ from c1), if_pos rfl, bnd2_e (show R_X2_thinsCrowd b 1 A2 = _ from d1), if_neg n10]; rfl
          · rw [bnd1_e (show R_X11_crowded 0 mA B2 = _ from c2), if_pos m1_lt, bnd1_e (show R_X11_crowded 1 mA B2 = _ from d2), bnd1_s, if_pos (nI_pos' (by omega))]
            exact d3
      · refine ⟨A', B', 3, ?_, ?_, Or.inr ⟨3, by decide, rfl⟩, c4.ek⟩
        · rw [bnd2_e (show R_X2_thinsCrowd b 0 A2 = _ from c1), if_neg n10]; rfl
        · rw [bnd1_e (show R_X11_crowded 0 mA B2 = _ from c2), if_neg (nI_pos (by omega)), bnd1_e (show R_X11_crowded 0 mA B2 = _ from c2), bnd1_s, if_pos (nI_pos' (by omega))]
          exact c3
    by_cases c2 : B2.1 mA 16 < 0
    · rw [if_pos c2, if_pos c2, br1_r, br1_r]
      exact crowd
    · rw [if_neg c2, if_neg c2]
      rcases hF with hF | ⟨h, a1, a2, a3, a4, _⟩
      · rw [hF.1] at c2; exact absurd m1_lt c2
      · rw [h4.2.2.1, h4.2.2.2.1, a3]
        by_cases c3 : (nI t - B2.1 mA 20) < (12 : Int32)
        · rw [if_pos c3, if_pos c3, br1_r, br1_r]
          exact crowd
        · rw [if_neg c3, if_neg c3, a2]
          obtain ⟨A', B', j, f1, f2, f3, f4⟩ := foe_sim hm2 a1 a2 hK2
          rw [bnd1_e f1, bnd1_e f2, bnd1_e f3, br1_l, br1_l]
          exact ⟨A', B', 2, rfl, rfl, Or.inr ⟨2, by decide, rfl⟩, f4.ek⟩
  · rw [if_neg (nltL (y := 10) 10 (by omega) rfl (by omega)), if_neg (nltL (y := 10) 10 (by omega) rfl (by omega)), if_neg n10]
    obtain ⟨p1, p2, p3, p4, p5, p7, p8⟩ := slp_pre (v := nI s) (x := B.1 mA 14) (y := B.1 mA 15) hm2 hK
    obtain ⟨A', B', g1, g2, g3⟩ := lay_TK hm2 p1 p2 p3 p4 p5 p7 p8
    rw [bnd1_e g1, bnd1_e g2]
    exact ⟨A', B', 1, rfl, rfl, Or.inr ⟨1, by decide, rfl⟩, g3.ek⟩
