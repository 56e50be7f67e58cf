theorem work_sim {b mA t r q s : Nat} {A0 B0 A B : Mem} (hm : mA = 259 ∨ mA = 260) (hb : 122 ≤ b) (hr : r < 10) (hK : TK b mA t (SVp A0 B0) A0 B0 A B) (h33 : B.1 242 33 = nI r) (hq : q < 6) (hs : s < 8) (hSV : SVp A0 B0 q s) (ep : B.1 mA (44 + 16 * r + 11) = nI q) (es : B.1 mA (44 + 16 * r + 2) = nI s) (ez : B.1 mA (44 + 16 * r + 3) = 0) (hst : STm mA r B) (hsc : A.1 (b + 10 + 2 * r) 14 = 0 ∧ A.1 (b + 10 + 2 * r) 15 = 0 ∧ A.1 (b + 10 + 2 * r) 16 = 0) :
    ∃ A' B', wkC b (nI r) A = some A' ∧ wkM (nI r) mA B = some B' ∧ TK b mA t (SVp A0 B0) A0 B0 A' B' ∧ CW b A' B' (B'.1 mA) r ∧ (∀ d, d ≠ b + 1 → d ≠ b + 2 → d ≠ b + 10 + 2 * r → d ≠ b + 10 + 2 * r + 1 → d ≠ b + 7 → A'.1 d = A.1 d) ∧ (∀ d, d = 262 ∨ d = 263 ∨ d = 264 → ∀ i, i ≠ r → B'.1 d i = B.1 d i) ∧ (∀ i, i ≠ r → B'.1 mA (44 + 16 * i + 10) = B.1 mA (44 + 16 * i + 10)) := by
  have hm2 : mA ≠ 242 := by omega
  obtain ⟨pg, ⟨hPC, hPM, hpos, hPW, hQL⟩, hsl⟩ := id hSV
  have hrs : pg[s]? = some pg[s] := List.getElem?_eq_getElem hsl
  generalize pg[s] = rs at hrs
  obtain ⟨h, h', e247, HR, hh⟩ := hPM.2 s rs hrs
  obtain ⟨k1, k2, k3, k4, k5, k6, k7, k8⟩ := id hK
  obtain ⟨hX, hXI, hPR, hPI, hVW, hCM, hRK⟩ := k7 r hr
  have fB : ∀ d, d = 244 ∨ d = 245 ∨ d = 247 → B.1 d = B0.1 d := fun d hd => k2.2.1 d (by omega) (by omega) (by omega) (by omega) (by omega)
  have HR' : RulesM (wF B q) (vF B q) rs h h' := by
    have e1 : wF B q = wF B0 q := by unfold wF; rw [fB 244 (by decide)]
    have e2 : vF B q = vF B0 q := by unfold vF; rw [fB 245 (by decide)]
    rw [e1, e2]; exact HR
  obtain ⟨B', h2, bu, hMA, eM⟩ := wkM_run hm hr h33 hq hs ep es hst (by rw [fB 247 (by decide)]; exact e247) HR' hh
  obtain ⟨M15, g1, gF, gs⟩ := sense_C hr k4 k5 k6.1 k7
  have e6 : M15.1 (b + 10 + 2 * r) 6 = nI q := by rw [gF.2 _ (by omega), hPR.2.2.2.1]; exact ep
  have e7 : M15.1 (b + 10 + 2 * r) 7 = nI s := by rw [gF.2 _ (by omega), hPR.1]; exact es
  have e1 : M15.1 (b + 10 + 2 * r) 1 = (if r < 5 then 0 else 1) := by rw [gF.2 _ (by omega)]; exact hRK.2
  have ex : tX r (B.1 mA (44 + 16 * r)) = V_X5_seenX (b + 10 + 2 * r) (M15.1 (b + 10 + 2 * r) 2) M15 := by rw [seenX_eq (r := r) e1, gF.2 _ (by omega), hX.1]
  have ey : tY r (B.1 mA (44 + 16 * r + 1)) = V_X5_seenY (b + 10 + 2 * r) (M15.1 (b + 10 + 2 * r) 3) M15 := by rw [seenY_eq (r := r) e1, gF.2 _ (by omega), hX.2]
  have hPC' : PgC M15 (16 + 15 * q) pg := hPC.cg (fun c p1 p2 => (gF.2 c (by omega)).trans (k1.2 c (by omega))) (gF.1.trans k1.1)
  obtain ⟨M1, cm, hCA, eC⟩ := run_C (a := b + 1) (p := 16 + 15 * q) (x3 := b + 10 + 2 * r) (sen := M15.1 (b + 2)) (by omega) (by omega) ⟨by omega, by omega, by omega, by omega⟩ rfl ex ey e7 hs hPC' hrs (HR.w rs h h')
  have hRE := evRules_cg (mx := tX r (B.1 mA (44 + 16 * r))) (my := tY r (B.1 mA (44 + 16 * r + 1))) (s := M15.1 (b + 2)) (s' := senF (B.1 mA) r) (fun k hk => gs k hk) rs 0 (M15.1 (b + 10 + 2 * r + 1)) (ownF (B.1 mA) r) (nI s) (fun k hk => by unfold ownF; rw [if_pos hk, gF.2 _ (by omega)]; exact hPR.2.2.1 k hk)
  have hVN := evRules_nx (s := senF (B.1 mA) r) (mx := tX r (B.1 mA (44 + 16 * r))) (my := tY r (B.1 mA (44 + 16 * r + 1))) (n := pg.length) rs (0, ownF (B.1 mA) r, nI s) (fun rl hl ac ha e => hPW rs (List.mem_of_getElem? hrs) rl hl ac ha e) ⟨s, hsl, rfl⟩
  generalize evRules (senF (B.1 mA) r) (tX r (B.1 mA (44 + 16 * r))) (tY r (B.1 mA (44 + 16 * r + 1))) rs (0, ownF (B.1 mA) r, nI s) = res' at hMA eM hRE hVN
  generalize evRules (M15.1 (b + 2)) (tX r (B.1 mA (44 + 16 * r))) (tY r (B.1 mA (44 + 16 * r + 1))) rs (0, M15.1 (b + 10 + 2 * r + 1), nI s) = res at hCA eC hRE
  obtain ⟨xr, c, f, nx⟩ := res
  obtain ⟨xr', c', f', nx'⟩ := res'
  obtain ⟨r1, r2, r3, r4⟩ := hRE
  dsimp only at r1 r2 r3 r4 hVN eM eC
  subst r1 r2 r4
  obtain ⟨⟨a1, a2, a3⟩, a4, a5, a6⟩ := hCA
  obtain ⟨⟨b1, b2, b3, b4, b5⟩, b6, b7⟩ := hMA
  dsimp only at a5 a6 b6 b7
  have uC : wkC b (nI r) A = bnd2 (R_X6_run (b + 1) (16 + 15 * q) (b + 10 + 2 * r) M15) (fun v17 M17 => if v17 = 0 then (some M17) else (some (setI M17 (b + 7) 3 ((M17.1 (b + 7) 3) + (1 : Int32))))) := by
    unfold wkC
    rw [nI_clamp (show r < 2 ^ 31 by omega), bnd1_e g1, e6, ck_nI (by omega) (by omega), nI_clamp (show q < 2 ^ 31 by omega)]
  -- what the class's run keeps
  have cD : ∀ d, d ≠ b + 1 → d ≠ b + 2 → d ≠ b + 10 + 2 * r → d ≠ b + 10 + 2 * r + 1 → M1.1 d = A.1 d := fun d p1 p2 p3 p4 => (a2 d p1 p3 p4).trans (gF.2 d p2)
  have cR : ∀ j, j < 14 → M1.1 (b + 10 + 2 * r) j = A.1 (b + 10 + 2 * r) j := fun j hj => (a3 j hj).trans (by rw [gF.2 _ (by omega)])
  -- what the model's keeps
  have mD : ∀ d, d ≠ mA → d ≠ 242 → d ≠ 262 → d ≠ 263 → d ≠ 264 → (mst B' h2 c).1 d = B.1 d := fun d p1 p2 p3 p4 p5 => by rw [mst_d p2, b2 d p1 p2 p3 p4 p5, fI p2, fI p2]
  have mS : ∀ j, ¬ (33 ≤ j ∧ j ≤ 37) → j ≠ 41 → (mst B' h2 c).1 242 j = B.1 242 j := fun j p1 p2 => by rw [mst_j (by omega), b3 j p2, gI (Or.inr p2), gI (Or.inr (by omega))]
  have mR : ∀ k, ¬ (44 + 16 * r + 4 ≤ k ∧ k < 44 + 16 * r + 8) → k ≠ 44 + 16 * r + 10 → (mst B' h2 c).1 mA k = B.1 mA k := fun k p1 p2 => by rw [mst_d hm2, b4 k p1 p2, fI hm2, fI hm2]
  have mW : ∀ d, d = 262 ∨ d = 263 ∨ d = 264 → ∀ i, i ≠ r → (mst B' h2 c).1 d i = B.1 d i := fun d hd i hi => by rw [mst_d (by omega), b5 d hd i hi, fI (by omega), fI (by omega)]
  have mO : ∀ i, i < 4 → (mst B' h2 c).1 mA (44 + 16 * r + 4 + i) = f' i := fun i hi => by
    rw [mst_d hm2, ← b6]; unfold ownF; rw [if_pos hi]
  have m2 : (mst B' h2 c).2 = B.2 := by unfold mst; exact b1
  have tal3 : A.1 (b + 7) 3 = B.1 mA 11 := by
    obtain ⟨_, _, _, _, _, _, _, _, w, _⟩ := k5
    exact w
  obtain ⟨k, hk, ek⟩ := hVN
  by_cases hc : c ≤ 80
  · rw [if_pos hc] at eC eM
    obtain ⟨a7, a8⟩ := a6 hc
    obtain ⟨b7, b8⟩ := b7 hc
    rw [a7] at eC
    rw [b7] at eM
    refine ⟨_, _, by rw [uC, bnd2_e eC]; exact if_pos rfl, eM, ?_⟩
    have hT : A.1 (b + 10 + 2 * r) 8 = 0 := hPR.2.1.trans ez
    -- the command
    have hcmd : ∃ w, M1.1 (b + 10 + 2 * r) 14 = w ∧ B'.1 mA (44 + 16 * r + 10) = w ∧ M1.1 (b + 10 + 2 * r) 15 = B'.1 262 r ∧ M1.1 (b + 10 + 2 * r) 16 = B'.1 263 r ∧ sg3 (B'.1 262 r) ∧ sg3 (B'.1 263 r) ∧ (w = 0 ∨ w = 1 ∨ (w = 2 ∧ M1.1 (b + 10 + 2 * r) 17 = B'.1 264 r ∧ ∃ p : Nat, p < 10 ∧ B'.1 264 r = nI p)) := by
      rcases a8 with ⟨_, rfl, a9⟩ | ⟨_, w, x, y, p, rfl, a9, a10, a11, a12, a13⟩
      · rcases b8 with ⟨_, _, b9, b10, b11⟩ | ⟨_, _, _, _, _, b9, _⟩
        · have aj : ∀ j, M1.1 (b + 10 + 2 * r) j = A.1 (b + 10 + 2 * r) j := fun j => by rw [a9, gI (Or.inl (by omega)), gI (Or.inl (by omega)), gF.2 _ (by omega)]
          refine ⟨0, (aj 14).trans hsc.1, b9, ?_, ?_, ?_, ?_, Or.inl rfl⟩
          · rw [aj, b10]; exact hsc.2.1
          · rw [aj, b11]; exact hsc.2.2
          · rw [b10]; exact Or.inr (Or.inl rfl)
          · rw [b11]; exact Or.inr (Or.inl rfl)
        · cases b9
      · rcases b8 with ⟨_, b9, _⟩ | ⟨_, w', x', y', p', b9, b10, b11, b12, b13, b14⟩
        · cases b9
        · injection b9 with b9
          injection b9 with u1 b9
          injection b9 with u2 b9
          injection b9 with u3 u4
          subst u1 u2 u3 u4
          rw [e1, trn_trF] at a10 a11
          refine ⟨w, a9, b10, a10.trans b11.symm, a11.trans b12.symm, by rw [b11]; exact trF_sg cut3_sg, by rw [b12]; exact trF_sg cut3_sg, ?_⟩
          rcases a13 with z | z | z
          · exact Or.inl z
          · exact Or.inr (Or.inl z)
          · refine Or.inr (Or.inr ⟨z, (a12 z).trans (b13 z).symm, ?_⟩)
            rw [b13 z]; exact cut9_in
    obtain ⟨w, w1, w2, w3, w4, w5, w6, w7⟩ := hcmd
    have hp8 : pg.length ≤ 8 := hPC.2.1
    have oB : ∀ d, d ≠ mA → (setI (mst B' h2 c) mA (44 + 16 * r + 2) nx).1 d = (mst B' h2 c).1 d := fun d hd => fI hd
    have oR : ∀ k, k ≠ 44 + 16 * r + 2 → (setI (mst B' h2 c) mA (44 + 16 * r + 2) nx).1 mA k = (mst B' h2 c).1 mA k := fun k hk => gI (Or.inr hk)
    have oA : ∀ d j, d ≠ b + 10 + 2 * r ∨ j ≠ 7 → (setI M1 (b + 10 + 2 * r) 7 nx).1 d j = M1.1 d j := fun d j hd => gI (by omega)
    refine ⟨robot_TK hm hr hK (a1.trans gF.1) (fun d p1 p2 p3 p4 p5 => by rw [fI p3]; exact cD d p1 p2 p3 p4) (fun j p1 p2 p3 => by rw [oA _ _ (Or.inr p2)]; exact cR j p1) (fun j p1 => by rw [oA _ _ (Or.inl (by omega)), cD _ (by omega) (by omega) (by omega) (by omega)]) m2 (fun d p1 p2 p3 p4 p5 => by rw [oB d p1]; exact mD d p1 p2 p3 p4 p5) (fun j p1 p2 => by rw [oB 242 (Ne.symm hm2)]; exact mS j p1 p2) (fun k p1 p2 p3 p4 p5 => by rw [oR k p2]; exact mR k p4 p5) ?_ ?_ (fun i hi => ?_) ?_ ?_ ?_ ?_, ?_, fun d p1 p2 p3 p4 p5 => by rw [fI p3]; exact cD d p1 p2 p3 p4, fun d hd i hi => by rw [oB d (by omega)]; exact mW d hd i hi, fun i hi => by rw [oR _ (by omega)]; exact mR _ (by omega) (by omega)⟩
    · rw [gs_eI, gs_eI]
    · rw [oA _ _ (Or.inr (by decide)), cR 8 (by decide), oR _ (by omega), mR _ (by omega) (by omega), hT, ez]
    · rw [oA _ _ (Or.inl (by omega)), oR _ (by omega), mO i hi, a5]; exact r3 i hi
    · rw [oA _ _ (Or.inr (by decide)), oR _ (by omega), mst_d hm2, w1, w2]
    · rw [oA _ _ (Or.inl (by omega)), cD _ (by omega) (by omega) (by omega) (by omega), oR _ (by omega), mR _ (by omega) (by omega)]; exact tal3
    · rw [oR _ (by omega), mR _ (by omega) (by omega), gs_eI]
      exact Or.inr ⟨q, k, hq, by omega, ⟨pg, ⟨hPC, hPM, hpos, hPW, hQL⟩, hk⟩, ep, ek⟩
    · rw [oR _ (by omega), mR _ (by omega) (by omega)]; exact Or.inl ez
    · unfold CW
      rw [oA _ _ (Or.inr (by decide)), oA _ _ (Or.inr (by decide)), oA _ _ (Or.inr (by decide)), oB 262 (by omega), oB 263 (by omega), oB 264 (by omega), oR _ (by omega), mst_d (d := 262) (by decide), mst_d (d := 263) (by decide), mst_d (d := 264) (by decide), mst_d hm2, w2]
      exact ⟨w3, w4, w5, w6, w7⟩
  · rw [if_neg hc] at eC eM
    refine ⟨_, _, by rw [uC, bnd2_e eC]; exact if_neg n10, eM, ?_⟩
    obtain ⟨c14, c15, c16, _⟩ := decC_x (x3 := b + 10 + 2 * r) (k := 0) (x := 0) (y := 0) (p := 0) (M := M1)
    rw [trn_0] at c15 c16
    have dR : ∀ j, j < 14 → (decC (b + 10 + 2 * r) 0 0 0 0 M1).1 (b + 10 + 2 * r) j = M1.1 (b + 10 + 2 * r) j := fun j hj => by
      unfold decC; simp (disch := omega) only [gI]
    have d7 : ∀ j, (setI (decC (b + 10 + 2 * r) 0 0 0 0 M1) (b + 10 + 2 * r) 8 1).1 (b + 7) j = A.1 (b + 7) j := fun j => by rw [gI (Or.inl (by omega)), decC_o (by omega), cD _ (by omega) (by omega) (by omega) (by omega)]
    rw [d7 3]
    obtain ⟨A', hA'⟩ : ∃ X, X = setI (setI (decC (b + 10 + 2 * r) 0 0 0 0 M1) (b + 10 + 2 * r) 8 1) (b + 7) 3 (A.1 (b + 7) 3 + 1) := ⟨_, rfl⟩
    obtain ⟨Bn, hBn⟩ : ∃ X, X = setI (setI (goesM mA r 0 0 0 0 (mst B' h2 c)) mA (44 + 16 * r + 3) 1) mA 11 (B.1 mA 11 + 1) := ⟨_, rfl⟩
    rw [← hA', ← hBn]
    have nD : ∀ d, d ≠ b + 1 → d ≠ b + 2 → d ≠ b + 10 + 2 * r → d ≠ b + 10 + 2 * r + 1 → d ≠ b + 7 → A'.1 d = A.1 d := fun d p1 p2 p3 p4 p5 => by rw [hA', fI p5, fI p3, decC_f p3]; exact cD d p1 p2 p3 p4
    have nR : ∀ j, j ≠ 8 → A'.1 (b + 10 + 2 * r) j = (decC (b + 10 + 2 * r) 0 0 0 0 M1).1 (b + 10 + 2 * r) j := fun j hj => by rw [hA', gI (Or.inl (by omega)), gI (Or.inr hj)]
    have gD : ∀ d, d ≠ mA → d ≠ 262 → d ≠ 263 → d ≠ 264 → Bn.1 d = (mst B' h2 c).1 d := fun d p1 p3 p4 p5 => by
      rw [hBn]; unfold goesM; simp (disch := omega) only [fI]
    have gR : ∀ k, k ≠ 11 → k ≠ 44 + 16 * r + 3 → k ≠ 44 + 16 * r + 10 → Bn.1 mA k = (mst B' h2 c).1 mA k := fun k p1 p2 p3 => by
      rw [hBn]; unfold goesM; simp (disch := omega) only [gI]
    obtain ⟨q1, q2, q3, _⟩ := goesCM (mA := mA) (r := r) (w := 0) (x := 0) (y := 0) (p := 0) (B := mst B' h2 c) hm (Or.inl rfl)
    rw [cut3_0, trF_0] at q2 q3
    have n10' : Bn.1 mA (44 + 16 * r + 10) = 0 := by rw [hBn, gI (Or.inr (by omega)), gI (Or.inr (by omega))]; exact q1
    have n262 : Bn.1 262 r = 0 := by rw [hBn, gI (Or.inl (by omega)), gI (Or.inl (by omega))]; exact q2
    have n263 : Bn.1 263 r = 0 := by rw [hBn, gI (Or.inl (by omega)), gI (Or.inl (by omega))]; exact q3
    have gW : ∀ d, d = 262 ∨ d = 263 ∨ d = 264 → ∀ i, i ≠ r → Bn.1 d i = B.1 d i := fun d hd i hi => by
      rw [← mW d hd i hi, hBn]; unfold goesM; simp (disch := omega) only [gI]
    have g3 : Bn.1 mA (44 + 16 * r + 3) = 1 := by rw [hBn, gI (Or.inr (by omega)), gs_eI]
    have g11 : Bn.1 mA 11 = B.1 mA 11 + 1 := by rw [hBn, gs_eI]
    refine ⟨robot_TK hm hr hK (by rw [hA']; exact a1.trans gF.1) nD (fun j p1 p2 p3 => by rw [nR j p3, dR j p1]; exact cR j p1) (fun j p1 => by rw [hA', gI (Or.inr p1)]; exact d7 j) (by rw [hBn]; exact m2) (fun d p1 p2 p3 p4 p5 => by rw [gD d p1 p3 p4 p5]; exact mD d p1 p2 p3 p4 p5) (fun j p1 p2 => by rw [gD 242 (Ne.symm hm2) (by decide) (by decide) (by decide)]; exact mS j p1 p2) (fun k p1 p2 p3 p4 p5 => by rw [gR k p1 p3 p5]; exact mR k p4 p5) ?_ ?_ (fun i hi => ?_) ?_ ?_ ?_ ?_, ?_, nD, gW, fun i hi => by rw [gR _ (by omega) (by omega) (by omega)]; exact mR _ (by omega) (by omega)⟩
    · rw [nR 7 (by decide), dR 7 (by decide), cR 7 (by decide), gR _ (by omega) (by omega) (by omega), mR _ (by omega) (by omega)]; exact hPR.1
    · rw [g3, hA', gI (Or.inl (by omega)), gs_eI]
    · rw [hA', gI (Or.inl (by omega)), gI (Or.inl (by omega)), decC_o (by omega), a5, gR _ (by omega) (by omega) (by omega), mO i hi]; exact r3 i hi
    · rw [nR 14 (by decide), c14, n10']
    · rw [g11, hA', gs_eI, tal3]
    · rw [gR _ (by omega) (by omega) (by omega), gR _ (by omega) (by omega) (by omega), mR _ (by omega) (by omega), mR _ (by omega) (by omega)]; exact hPI.1
    · exact Or.inr g3
    · exact ⟨by rw [nR 15 (by decide), c15, n262], by rw [nR 16 (by decide), c16, n263], by rw [n262]; exact Or.inr (Or.inl rfl), by rw [n263]; exact Or.inr (Or.inl rfl), Or.inl n10'⟩
/-- a robot's turn to think -/
theorem think_sim {b mA t r : Nat} {A0 B0 A B : Mem} (hm : mA = 259 ∨ mA = 260) (hb : 122 ≤ b) (ht : t < 2 ^ 30) (hr : r < 10) (hK : TK b mA t (SVp A0 B0) A0 B0 A B) :
    ∃ A' B', R_X2_think b (nI r) A = some A' ∧ R_X11_run (nI r) mA B = some B' ∧ TK b mA t (SVp A0 B0) A0 B0 A' B' ∧ CW b A' B' (B'.1 mA) r ∧ ∀ s, s < 10 → s ≠ r → CW b A B (B.1 mA) s → CW b A' B' (B'.1 mA) s := by
  have hm2 : mA ≠ 242 := by omega
  obtain ⟨A1, B1, e1, e2, K1, f1, f2, f3⟩ := see_sim hm ht hr hK
  obtain ⟨K2, W2⟩ := begin_TK hm hr K1
  have g33 : (setI B1 242 33 (nI r)).1 242 33 = nI r := gs_eI
  have eg := goes_eq (w := 0) (x := 0) (y := 0) (p := 0) hm hr g33
  obtain ⟨A2, hA2⟩ : ∃ X, X = decC (b + 10 + 2 * r) 0 0 0 0 A1 := ⟨_, rfl⟩
  obtain ⟨B2, hB2⟩ : ∃ X, X = goesM mA r 0 0 0 0 (setI B1 242 33 (nI r)) := ⟨_, rfl⟩
  have W3 : ∀ s, s < 10 → s ≠ r → CW b A B (B.1 mA) s → CW b A2 B2 (B2.1 mA) s := by
    intro s hs hsr hw
    have q1 : ∀ j, 14 ≤ j → A2.1 (b + 10 + 2 * s) j = A.1 (b + 10 + 2 * s) j := fun j hj => by rw [hA2, decC_o (by omega)]; exact f1 s j hj
    have q2 : ∀ d, d = 262 ∨ d = 263 ∨ d = 264 → B2.1 d s = B.1 d s := fun d hd => by
      rw [hB2, ← f2 d (by omega)]; unfold goesM; simp (disch := omega) only [gI]
    have q3 : B2.1 mA (44 + 16 * s + 10) = B.1 mA (44 + 16 * s + 10) := by
      rw [← f3 _ (fun s => ⟨by omega, by omega⟩), hB2]; unfold goesM; simp (disch := omega) only [gI]
    unfold CW at hw ⊢
    rw [q1 15 (by decide), q1 16 (by decide), q1 17 (by decide), q2 262 (by decide), q2 263 (by decide), q2 264 (by decide), q3]
    exact hw
  have c1 : R_X2_think b (nI r) A = bnd1 (if (A2.1 (b + 10 + 2 * r) 6) < 0 then (some A2) else (if (6 : Int32) ≤ (A2.1 (b + 10 + 2 * r) 6) then (some A2) else (if (A2.1 (b + 10 + 2 * r) 8) = 0 then wkC b (nI r) A2 else (some A2)))) (fun M12 => some M12) := by
    unfold R_X2_think
    rw [if_neg (nI_pos (by omega)), if_pos (ltL (y := 10) 10 (by omega) rfl (by decide)), ck_nI hr (by omega), nI_clamp (by omega), e1, bd1_s, bd1_s, dec_eq, ← hA2]
    unfold wkC
    rw [nI_clamp (by omega)]
  have d1 : R_X11_run (nI r) mA B = bnd1 (R_X11_of (nI r) (11 : Int32) mA B2) (fun v3 => if v3 < 0 then (some B2) else (bnd1 (R_X11_of (nI r) (3 : Int32) mA B2) (fun v5 => if v5 = (1 : Int32) then (some B2) else wkM (nI r) mA B2))) := by
    unfold R_X11_run
    rw [bnd1_e e2, bnd1_e eg, ← hB2]
    rfl
  rw [← hA2, ← hB2] at K2 W2
  obtain ⟨_, _, hPR, hPI, _, _, _⟩ := K2.2.2.2.2.2.2.1 r hr
  rw [bnd1_e (of_eq (c := 11) (w := 11) hr (by decide) rfl), bnd1_e (of_eq (c := 3) (w := 3) hr (by decide) rfl)] at d1
  rw [hPR.2.2.2.1, hPR.2.1] at c1
  rcases hPI.1 with ⟨p1, p2⟩ | ⟨q, s, hq, hs, hSV, p1, p2⟩
  · rw [p1, if_pos m1_lt] at c1 d1
    exact ⟨A2, B2, c1, d1, K2, W2, W3⟩
  · rw [p1, if_neg (nI_pos (by omega))] at c1 d1
    rw [if_neg (nleL (y := 6) 6 hq rfl (by decide))] at c1
    rcases hPI.2.1 with z | z
    · rw [z, if_pos rfl] at c1
      rw [z, if_neg n01] at d1
      have x14 := decC_x (x3 := b + 10 + 2 * r) (k := 0) (x := 0) (y := 0) (p := 0) (M := A1)
      rw [← hA2, trn_0] at x14
      have y := goesCM (mA := mA) (r := r) (w := 0) (x := 0) (y := 0) (p := 0) (B := setI B1 242 33 (nI r)) hm (Or.inl rfl)
      rw [← hB2] at y
      obtain ⟨y1, y2, y3, _⟩ := y
      rw [cut3_0, trF_0] at y2 y3
      have h33 : B2.1 242 33 = nI r := by
        rw [hB2]; unfold goesM; simp (disch := omega) only [gI]; exact gs_eI
      obtain ⟨A', B', u1, u2, u3, u4, u5, u6, u7⟩ := work_sim hm hb hr K2 h33 hq hs hSV p1 p2 z ⟨y1, y2, y3⟩ ⟨x14.1, x14.2.1, x14.2.2.1⟩
      refine ⟨A', B', by rw [c1, u1]; rfl, by rw [d1, u2], u3, u4, fun i hi hir hw => ?_⟩
      have w := W3 i hi hir hw
      unfold CW at w ⊢
      rw [u5 (b + 10 + 2 * i) (by omega) (by omega) (by omega) (by omega) (by omega), u6 262 (by decide) i hir, u6 263 (by decide) i hir, u6 264 (by decide) i hir, u7 i hir]
      exact w
    · rw [z, if_neg n10] at c1
      rw [z, if_pos rfl] at d1
      exact ⟨A2, B2, c1, d1, K2, W2, W3⟩
