/-! ===== a move ===== -/
/-- the part of the model's doCommand that is a move -/
def mvM (r mA : Nat) (v2 v4 : Int32) (M : Mem) : Option Mem := bnd1 (R_X11_of (nI r) (0 : Int32) mA M) (fun v15 => bnd1 (R_X11_of (nI r) (1 : Int32) mA M) (fun v16 => if (V_X11_in (v15 + v2) (0 : Int32) (14 : Int32) M) = 0 then (some M) else (if (V_X11_in (v16 + v4) (0 : Int32) (8 : Int32) M) = 0 then (some M) else (bnd1 (R_X11_robotAt (v15 + v2) (v16 + v4) (-1 : Int32) mA M) (fun v19 => if v19 < 0 then (bnd1 (R_X11_set (nI r) (0 : Int32) (v15 + v2) mA M) (fun M21 => bnd1 (R_X11_set (nI r) (1 : Int32) (v16 + v4) mA M21) (fun M22 => bnd1 (if (M22.1 mA 16) = (nI r) then (some (setI (setI M22 mA 14 (v15 + v2)) mA 15 (v16 + v4))) else (if 0 ≤ (M22.1 mA 16) then (some M22) else (if (M22.1 mA 14) = (v15 + v2) then (if (M22.1 mA 15) = (v16 + v4) then (bnd1 (R_X11_hold (nI r) mA M22) (fun M32 => (some M32))) else (some M22)) else (some M22)))) (fun M28 => some M28)))) else (bnd1 (if (M.1 mA 16) = v19 then (if (v19 / (5 : Int32)) = ((nI r) / (5 : Int32)) then (some M) else (if ((M.1 mA 3) - (M.1 mA 20)) < (2 : Int32) then (some M) else (bnd1 (R_X11_hold (nI r) mA M) (fun M40 => (some (setI M40 mA 10 ((M40.1 mA 10) + (1 : Int32)))))))) else (some M)) (fun M37 => some M37)))))))
theorem mv_sim {b mA t r : Nat} {SV : Nat → Nat → Prop} {A0 B0 A B : Mem} (hm : mA = 259 ∨ mA = 260) (ht : t < 2 ^ 30) (hr : r < 10) (hK : TK b mA t SV A0 B0 A B) (hC : ∀ s, s < 10 → CW b A B (B.1 mA) s) :
    ∃ A' B', R_X2_move b (b + 10 + 2 * r) (nI r) A = some A' ∧ mvM r mA (B.1 262 r) (B.1 263 r) B = some B' ∧ TK b mA t SV A0 B0 A' B' ∧ ∀ s, s < 10 → CW b A' B' (B'.1 mA) s := by
  obtain ⟨h1, h2, h3, h4, h5, h6, h7, h8⟩ := id hK
  have hm2 : mA ≠ 242 := by omega
  obtain ⟨c15, c16, cw1, cw2, _⟩ := hC r hr
  obtain ⟨hXY, ⟨x, y, hx, hy, ex, ey⟩, _⟩ := h7 r hr
  have eA2 : A.1 (b + 10 + 2 * r) 2 = nI x := hXY.1.trans ex
  have eA3 : A.1 (b + 10 + 2 * r) 3 = nI y := hXY.2.trans ey
  have o0 := of_eq (r := r) (c := 0) (w := 0) (mA := mA) (M := B) hr (by decide) rfl
  have o1 := of_eq (r := r) (c := 1) (w := 1) (mA := mA) (M := B) hr (by decide) rfl
  rw [Nat.add_zero, ex] at o0
  rw [ey] at o1
  unfold R_X2_move mvM
  rw [eA2, eA3, c15, c16, bd1_s, bd1_s, bnd1_e o0, bnd1_e o1]
  rcases step1 (w := 0) cw1 hx (by decide) rfl with a1 | ⟨a1, a2⟩ | ⟨x', hx', a1⟩
  · rw [if_pos a1, in_lt a1, if_pos rfl]
    exact ⟨A, B, rfl, rfl, hK, hC⟩
  · rw [if_neg a2, if_pos (show (15 : Int32) ≤ _ from a1), in_gt (show (14 : Int32) < _ from lt_of_le1 (n := 14) a1 (by decide)), if_pos rfl]
    exact ⟨A, B, rfl, rfl, hK, hC⟩
  rw [a1, if_neg (nI_pos (by omega)), if_neg (nleL (y := 15) 15 hx' rfl (by decide)), inN (n := 14) (hi := 14) (by omega) rfl (by decide), if_neg n10]
  rcases step1 (w := 0) cw2 hy (by decide) rfl with d1 | ⟨d1, d2⟩ | ⟨y', hy', d1⟩
  · rw [if_pos d1, in_lt d1, if_pos rfl]
    exact ⟨A, B, rfl, rfl, hK, hC⟩
  · rw [if_neg d2, if_neg (fun q : _ < (9 : Int32) => i_nle q d1), in_gt (show (8 : Int32) < _ from lt_of_le1 (n := 8) d1 (by decide)), if_pos rfl]
    exact ⟨A, B, rfl, rfl, hK, hC⟩
  rw [d1, if_neg (nI_pos (by omega)), if_pos (ltL (y := 9) 9 hy' rfl (by decide)), inN (n := 8) (hi := 8) (by omega) rfl (by decide), if_neg n10, bd1_s, rob_same (XYR_all h7), bnd1_e (robotAt_eq (p := 10) (by decide) h3)]
  obtain ⟨hE, hF, hS⟩ := id h6
  obtain ⟨hE0, hE1, hE2, hE3, hE4, hE5, hE6⟩ := id hE
  have hnow : A.1 b 7 = nI t := h4.2.2.1
  have hnow' : B.1 mA 3 = nI t := h4.2.2.2.1
  rcases srch_two (ρ := B.1 mA) (x := nI x') (y := nI y') with s1 | ⟨j, hj, s1, s2, s3⟩
  · -- nobody there
    rw [s1, if_pos m1_lt, if_pos m1_lt]
    have w0 := set_eq (r := r) (c := 0) (w := 0) (mA := mA) (M := B) (v := nI x') hr (by decide) rfl
    have w1 := set_eq (r := r) (c := 1) (w := 1) (mA := mA) (M := setI B mA (44 + 16 * r + 0) (nI x')) (v := nI y') hr (by decide) rfl
    rw [bnd1_e w0, bnd1_e w1]
    have eM : setI (setI B mA (44 + 16 * r + 0) (nI x')) mA (44 + 16 * r + 1) (nI y') = goM mA r (nI x') (nI y') B := rfl
    have eC : setI (setI A (b + 10 + 2 * r) 2 (nI x')) (b + 10 + 2 * r) 3 (nI y') = goC b r (nI x') (nI y') A := rfl
    rw [eM, eC, goM_o (by omega), goM_o (by omega), goM_o (by omega), hE3, hE1, hE2]
    obtain ⟨k1, k2, k3, k4, k5, k7, k8⟩ := go_TK (x := x') (y := y') hm2 hr hx' hy' h1 h2 h3 h4 h5 h7 h8
    have hC' : ∀ s, s < 10 → CW b (goC b r (nI x') (nI y') A) (goM mA r (nI x') (nI y') B) ((goM mA r (nI x') (nI y') B).1 mA) s := fun s hs => go_CW hm (hC s hs)
    have hS' : StilB b (goC b r (nI x') (nI y') A) ((goM mA r (nI x') (nI y') B).1 mA) := hS.cg (fun j _ => goC_o (Or.inl (by omega))) (fun k hk => goM_o (by omega))
    by_cases c1 : B.1 mA 16 = nI r
    · -- with the ball
      rw [if_pos c1, if_pos c1]
      refine ⟨U_X0_go (b + 4) (nI x') (nI y') (goC b r (nI x') (nI y') A), setI (setI (goM mA r (nI x') (nI y') B) mA 14 (nI x')) mA 15 (nI y'), rfl, rfl, ?_, ?_⟩
      · unfold U_X0_go
        have qC : ∀ c j, (c ≠ b + 4 ∨ 2 ≤ j) → (setI (setI (goC b r (nI x') (nI y') A) (b + 4) 0 (nI x')) (b + 4) 1 (nI y')).1 c j = (goC b r (nI x') (nI y') A).1 c j := fun c j h => by
          rw [gI (by omega), gI (by omega)]
        have qM : ∀ k, k ≠ 14 → k ≠ 15 → (setI (setI (goM mA r (nI x') (nI y') B) mA 14 (nI x')) mA 15 (nI y')).1 mA k = (goM mA r (nI x') (nI y') B).1 mA k := fun k a b => by
          rw [gI (Or.inr b), gI (Or.inr a)]
        refine ⟨(k1.set (by omega) (by omega)).set (by omega) (by omega), (k2.row hm2).row hm2, ?_, k4.cg (fun j => qC _ _ (Or.inl (by omega))) (fun k hk => qM k (by omega) (by omega)), k5.cg (fun c j a1 a2 => qC _ _ (Or.inl (by omega))) (fun k hk => qM k (by omega) (by omega)), ⟨⟨⟨x', y', hx', hy', ?_, ?_⟩, ?_, ?_, ?_, ?_, ?_, ?_⟩, ?_, hS'.cg (fun j hj => qC _ _ (Or.inr (by omega))) (fun k hk => qM k (by omega) (by omega))⟩, fun s hs => (k7 s hs).cg (fun j _ => qC _ _ (Or.inl (by omega))) (fun i _ => qC _ _ (Or.inl (by omega))) (fun k _ => qM _ (by omega) (by omega)), k8.cg (fun c j hc => qC _ _ (Or.inl (by omega))) (fun k hk => qM k (by omega) (by omega))⟩
        · rw [gI (Or.inl (Ne.symm hm2)), gI (Or.inl (Ne.symm hm2))]; exact k3
        · rw [gI (Or.inr (by decide)), gs_eI]
        · rw [gs_eI]
        · rw [gI (Or.inr (by decide)), gs_eI, gI (Or.inr (by decide)), gs_eI]
        · rw [gs_eI, gs_eI]
        · rw [qC _ _ (Or.inr (by omega)), qM 16 (by decide) (by decide), goC_o (Or.inl (by omega)), goM_o (by omega)]; exact hE3
        · rw [qC _ _ (Or.inr (by omega)), qM 17 (by decide) (by decide), goC_o (Or.inl (by omega)), goM_o (by omega)]; exact hE4
        · rw [qC _ _ (Or.inr (by omega)), qM 18 (by decide) (by decide), goC_o (Or.inl (by omega)), goM_o (by omega)]; exact hE5
        · rw [qC _ _ (Or.inr (by omega)), qM 19 (by decide) (by decide), goC_o (Or.inl (by omega)), goM_o (by omega)]; exact hE6
        · right
          rcases hF with hF | ⟨h, g1, g2, g3, g4, g5, g6, g7, g8, g9⟩
          · rw [hF.1] at c1
            exact absurd (c1 ▸ nI_pos' (by omega)) m1_nle
          · have : h = r := (nI_eq (by omega) (by omega)).mp (g2.symm.trans c1)
            subst this
            refine ⟨h, hr, ?_, ?_, ?_, ?_, ?_, ?_, ?_, ?_⟩
            · rw [qM 16 (by decide) (by decide), goM_o (by omega)]; exact g2
            · rw [qC _ _ (Or.inr (by omega)), qM 20 (by decide) (by decide), goC_o (Or.inl (by omega)), goM_o (by omega)]; exact g3
            · rw [qM 20 (by decide) (by decide), goM_o (by omega)]; exact g4
            · rw [qM 17 (by decide) (by decide), goM_o (by omega)]; exact g5
            · rw [qM 18 (by decide) (by decide), goM_o (by omega)]; exact g6
            · rw [qM 19 (by decide) (by decide), goM_o (by omega)]; exact g7
            · rw [qM (44 + 16 * h) (by omega) (by omega), goM_x.1, gI (Or.inr (by decide)), gs_eI]
            · rw [qM (44 + 16 * h + 1) (by omega) (by omega), goM_x.2, gs_eI]
      · intro s hs
        refine (hC' s hs).cg (fun j _ => ?_) (fun c hc => ?_) ?_
        · unfold U_X0_go; rw [gI (Or.inl (by omega)), gI (Or.inl (by omega))]
        · rw [fI (by omega), fI (by omega)]
        · rw [gI (Or.inr (by omega)), gI (Or.inr (by omega))]
    · rw [if_neg c1, if_neg c1]
      have hB' : BallR b t (goC b r (nI x') (nI y') A) ((goM mA r (nI x') (nI y') B).1 mA) := by
        refine h6.cg (fun j => goC_o (Or.inl (by omega))) (fun k a1 a2 => goM_o (by omega)) (fun s hs e => ?_)
        have : s ≠ r := fun q => c1 (q ▸ e)
        exact ⟨goM_o (by omega), goM_o (by omega)⟩
      by_cases c2 : 0 ≤ B.1 mA 16
      · rw [if_pos c2, if_pos c2]
        exact ⟨_, _, rfl, rfl, ⟨k1, k2, k3, k4, k5, hB', k7, k8⟩, hC'⟩
      · rw [if_neg c2, if_neg c2]
        by_cases c3 : B.1 mA 14 = nI x'
        · rw [if_pos c3, if_pos c3]
          by_cases c4 : B.1 mA 15 = nI y'
          · rw [if_pos c4, if_pos c4, hnow, bnd1_e (hold_M hr)]
            have := hold_TK (r := r) hm2 hr k1 k2 k3 k4 k5 hS' k7 k8
            rw [goM_x.1, goM_x.2] at this
            exact ⟨_, _, rfl, rfl, this, fun s hs => hold_CW hm (hC' s hs)⟩
          · rw [if_neg c4, if_neg c4]
            exact ⟨_, _, rfl, rfl, ⟨k1, k2, k3, k4, k5, hB', k7, k8⟩, hC'⟩
        · rw [if_neg c3, if_neg c3]
          exact ⟨_, _, rfl, rfl, ⟨k1, k2, k3, k4, k5, hB', k7, k8⟩, hC'⟩
  · -- robot j is there
    rw [s1, if_neg (nI_pos (by omega)), if_neg (nI_pos (by omega)), hE3]
    by_cases c1 : B.1 mA 16 = nI j
    · rw [if_pos c1.symm, if_pos c1]
      by_cases c2 : (nI j) / (5 : Int32) = (nI r) / (5 : Int32)
      · rw [if_pos c2, if_pos c2, bd1_s, if_pos rfl]
        exact ⟨A, B, rfl, rfl, hK, hC⟩
      · rw [if_neg c2, if_neg c2, bd1_s, if_neg n10, hnow, hnow']
        have hgot : A.1 (b + 4) 3 = B.1 mA 20 := by
          rcases hF with hF | ⟨h, g1, g2, g3, _⟩
          · rw [hF.1] at c1
            exact absurd (c1 ▸ nI_pos' (by omega)) m1_nle
          · exact g3
        rw [hgot]
        by_cases c3 : (nI t - B.1 mA 20) < (2 : Int32)
        · rw [if_pos c3, if_pos c3]
          exact ⟨A, B, rfl, rfl, hK, hC⟩
        · rw [if_neg c3, if_neg c3, bnd1_e (hold_M hr), bd1_s]
          have hT := hold_TK (r := r) hm2 hr h1 h2 h3 h4 h5 hS h7 h8
          rw [ex, ey] at hT
          obtain ⟨t1, t2, t3, t4, t5, t6, t7, t8⟩ := hT
          refine ⟨setI (holdC b r (nI x) (nI y) (nI t) A) (b + 7) 2 (((holdC b r (nI x) (nI y) (nI t) A).1 (b + 7) 2) + (1 : Int32)), setI (holdM mA r B) mA 10 ((holdM mA r B).1 mA 10 + 1), rfl, rfl, ?_, ?_⟩
          · refine ⟨t1.set (by omega) (by omega), t2.row hm2, by rw [gI (Or.inl (Ne.symm hm2))]; exact t3, t4.cg (fun j => gI (Or.inl (by omega))) (fun k hk => gI (Or.inr (by omega))), ?_, t6.cg (fun j => gI (Or.inl (by omega))) (fun k a1 a2 => gI (Or.inr (by omega))) (fun s hs _ => ⟨gI (Or.inr (by omega)), gI (Or.inr (by omega))⟩), fun s hs => (t7 s hs).cg (fun j _ => gI (Or.inl (by omega))) (fun i _ => gI (Or.inl (by omega))) (fun k _ => gI (Or.inr (by omega))), t8.cg (fun c j hc => gI (Or.inl (by omega))) (fun k hk => gI (Or.inr (by omega)))⟩
            obtain ⟨g0, g1, q1, q2, q3, q4, q5, q6, q7, q8, q9, q10⟩ := t5
            refine ⟨g0, g1, q1, ?_, ?_, ?_, ?_, ?_, ?_, fun i hi => ?_, ?_, fun i hi => ?_⟩
            · rw [gI (Or.inr (by decide))]; exact q2
            · rw [gI (Or.inr (by decide))]; exact q3
            · rw [gI (Or.inr (by decide))]; exact q4
            · rw [gI (Or.inr (by decide))]; exact q5
            · rw [gs_eI, gs_eI, q6]
            · rw [gI (Or.inr (by decide)), gI (Or.inr (by decide))]; exact q7
            · rw [gI (Or.inl (by omega)), gI (Or.inr (by omega))]; exact q8 i hi
            · rw [gI (Or.inr (by decide))]; exact q9
            · rw [gI (Or.inl (by omega)), gI (Or.inr (by omega))]; exact q10 i hi
          · intro s hs
            refine (hold_CW (r := r) (x := nI x) (y := nI y) (w := nI t) hm (hC s hs)).cg (fun j _ => ?_) (fun c hc => ?_) ?_
            · exact gI (Or.inl (by omega))
            · exact fI (by omega)
            · exact gI (Or.inr (by omega))
    · rw [if_neg (fun q => c1 q.symm), if_neg c1, bd1_s, if_pos rfl]
      exact ⟨A, B, rfl, rfl, hK, hC⟩
