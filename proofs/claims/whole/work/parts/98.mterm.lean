/-! ===== the model reads terms and sums ===== -/
theorem MI.v {T : Nat → Nat} {n q i : Nat} {ws : List Tk} {B : Mem} {t : Tk} (hI : MI T n q ws B i) (e : ws[i]? = some t) (h : t.1 ≤ 35) : B.1 242 6 = nI (vM t) := by
  obtain ⟨_, _, _, _, ⟨u, eu, hH⟩, _⟩ := hI
  have : u = t := Option.some.inj (eu.symm.trans e)
  subst this
  exact hH.2.2.2.1 h
theorem MI.s {T : Nat → Nat} {n q i : Nat} {ws : List Tk} {B : Mem} {v : Int32} (hI : MI T n q ws B i) : MI T n q ws (setI B 242 20 v) i := by
  have g : ∀ j, j ≠ 20 → (setI B 242 20 v).1 242 j = B.1 242 j := fun j hj => gI (Or.inr hj)
  have d : ∀ c, c ≠ 242 → (setI B 242 20 v).1 c = B.1 c := fun c hc => fI hc
  obtain ⟨hT, h8, h2, h11, ⟨u, eu, a1, a2, a3, a4, a5, a6⟩, hR, hN⟩ := hI
  refine ⟨⟨by rw [g 1 (by decide)]; exact hT.1, hT.2.1, fun x hx => by rw [d 243 (by decide)]; exact hT.2.2 x hx⟩, by rw [g 8 (by decide)]; exact h8, by rw [g 2 (by decide)]; exact h2, by rw [g 11 (by decide)]; exact h11, ⟨u, eu, by rw [g 5 (by decide)]; exact a1, by rw [g 3 (by decide)]; exact a2, a3, fun h => by rw [g 6 (by decide)]; exact a4 h, a5, fun h => by rw [g 4 (by decide)]; exact a6 h⟩, fun j t hj ej => by rw [d 244 (by decide), d 245 (by decide)]; exact hR j t hj ej, ?_⟩
  unfold NmR
  rw [g 15 (by decide), d 250 (by decide), d 251 (by decide), d 252 (by decide)]
  exact hN
theorem kM_ran {k1 k2 D : Nat} (h : ∀ k, k < 38 → (kM k = D ↔ k1 ≤ k ∧ k ≤ k2)) {t : Tk} {x : Int32} (h38 : t.1 < 38) (hx : x = nI D) (hD : D < 128) : nI (kM t.1) = x ↔ k1 ≤ t.1 ∧ t.1 ≤ k2 := (kM_eq h38 hx hD).trans (h t.1 h38)
theorem r45 : ∀ k, k < 38 → (kM k = 45 ↔ 33 ≤ k ∧ k ≤ 33) := by decide
theorem r42 : ∀ k, k < 38 → (kM k = 42 ↔ 34 ≤ k ∧ k ≤ 34) := by decide
theorem r43 : ∀ k, k < 38 → (kM k = 43 ↔ 32 ≤ k ∧ k ≤ 32) := by decide
theorem r5 : ∀ k, k < 38 → (kM k = 5 ↔ 9 ≤ k ∧ k ≤ 12) := by decide
theorem r3 : ∀ k, k < 38 → (kM k = 3 ↔ 13 ≤ k ∧ k ≤ 16) := by decide
theorem r4 : ∀ k, k < 38 → (kM k = 4 ↔ 17 ≤ k ∧ k ≤ 24) := by decide
theorem r2 : ∀ k, k < 38 → (kM k = 2 ↔ 25 ≤ k ∧ k ≤ 25) := by decide
theorem r1 : ∀ k, k < 38 → (kM k = 1 ↔ 26 ≤ k ∧ k ≤ 26) := by decide
theorem q45 {t : Tk} (h : t.1 < 38) : nI (kM t.1) = (45 : Int32) ↔ 33 ≤ t.1 ∧ t.1 ≤ 33 := kM_ran r45 h rfl (by decide)
theorem q42 {t : Tk} (h : t.1 < 38) : nI (kM t.1) = (42 : Int32) ↔ 34 ≤ t.1 ∧ t.1 ≤ 34 := kM_ran r42 h rfl (by decide)
theorem q43 {t : Tk} (h : t.1 < 38) : nI (kM t.1) = (43 : Int32) ↔ 32 ≤ t.1 ∧ t.1 ≤ 32 := kM_ran r43 h rfl (by decide)
theorem q5 {t : Tk} (h : t.1 < 38) : nI (kM t.1) = (5 : Int32) ↔ 9 ≤ t.1 ∧ t.1 ≤ 12 := kM_ran r5 h rfl (by decide)
theorem q3 {t : Tk} (h : t.1 < 38) : nI (kM t.1) = (3 : Int32) ↔ 13 ≤ t.1 ∧ t.1 ≤ 16 := kM_ran r3 h rfl (by decide)
theorem q4 {t : Tk} (h : t.1 < 38) : nI (kM t.1) = (4 : Int32) ↔ 17 ≤ t.1 ∧ t.1 ≤ 24 := kM_ran r4 h rfl (by decide)
theorem q2 {t : Tk} (h : t.1 < 38) : nI (kM t.1) = (2 : Int32) ↔ 25 ≤ t.1 ∧ t.1 ≤ 25 := kM_ran r2 h rfl (by decide)
theorem q1 {t : Tk} (h : t.1 < 38) : nI (kM t.1) = (1 : Int32) ↔ 26 ≤ t.1 ∧ t.1 ≤ 26 := kM_ran r1 h rfl (by decide)
theorem min_M {T : Nat → Nat} {n q mA : Nat} {ws : List Tk} (hG : WsG q ws) : ∀ (j i k f : Nat) (s : Int32) (B : Mem), k + j = 6 → j < f → MI T n q ws B i → i < ws.length →
    (∃ s' i' B', pMin (ws.drop i) k s = .inl (s', ws.drop i') ∧ i ≤ i' ∧ i' < ws.length ∧ L_X11_term_26 mA f (nI k) B = some (.inr B') ∧ MI T n q ws B' i' ∧ FrY q B B' ∧ B'.1 242 20 = B.1 242 20) ∨
    (∃ p B', pMin (ws.drop i) k s = .inr p ∧ p ≤ 800 ∧ L_X11_term_26 mA f (nI k) B = some (.inl (0, B')) ∧ FrY q B B' ∧ B'.1 242 2 = nI p) := by
  intro j
  induction j with
  | zero =>
    intro i k f s B hk hf hI hi
    obtain ⟨f, rfl⟩ : ∃ m, f = m + 1 := ⟨f - 1, by omega⟩
    have hk6 : k = 6 := by omega
    subst hk6
    obtain ⟨t, e⟩ := get_lt hi
    have h38 := (hG.2.2.2.2 i t e).2.1
    rw [drop_c e, pMin, L_X11_term_26, hI.k e]
    by_cases c : t.1 = 33
    · right
      rw [if_pos c, if_pos rfl, if_pos ((q45 h38).mpr (by omega)), if_pos (show nI 6 = (6 : Int32) from rfl)]
      have W := MR.wrong (α := Int32) hG hI e
      rcases W.2 with ⟨_, _, z, _⟩ | ⟨p, z1, z2, z3, z4⟩
      · cases z
      · cases z1
        rw [cz_v (Or.inl z2), z2]
        exact ⟨_, _, rfl, z3, rfl, W.1, z4⟩
    · left
      rw [if_neg c, if_neg (fun z => by have := (q45 h38).mp z; omega)]
      exact ⟨s, i, B, by rw [drop_c e], Nat.le_refl _, hi, rfl, hI, FrY.rf, rfl⟩
  | succ j ih =>
    intro i k f s B hk hf hI hi
    obtain ⟨f, rfl⟩ : ∃ m, f = m + 1 := ⟨f - 1, by omega⟩
    obtain ⟨t, e⟩ := get_lt hi
    have h38 := (hG.2.2.2.2 i t e).2.1
    rw [drop_c e, pMin, L_X11_term_26, hI.k e]
    by_cases c : t.1 = 33
    · rw [if_pos c, if_neg (show ¬ k = 6 by omega), if_pos ((q45 h38).mpr (by omega)), if_neg (nI_ne (y := 6) (b := 6) rfl (by omega) (by omega) (by decide))]
      obtain ⟨B1, g1, g2, g3, g4⟩ := keep_M (mA := mA) hG hI e (by omega) (by omega)
      rw [bnd2_e g1, nI_1]
      rcases ih (i + 1) (k + 1) f (-s) B1 (by omega) (by omega) g2 (hG.i8 e (by omega)).2 with ⟨s', i', B', y1, y2, y3, y4, y5, y6, y7⟩ | ⟨p, B', y1, y2, y3, y4, y5⟩
      · exact Or.inl ⟨s', i', B', y1, by omega, y3, y4, y5, g3.tr y6, y7.trans g4⟩
      · exact Or.inr ⟨p, B', y1, y2, y3, g3.tr y4, y5⟩
    · left
      rw [if_neg c, if_neg (fun z => by have := (q45 h38).mp z; omega)]
      exact ⟨s, i, B, by rw [drop_c e], Nat.le_refl _, hi, rfl, hI, FrY.rf, rfl⟩
theorem wrong_20 {B : Mem} : (U_X11_wrong B).1 242 20 = B.1 242 20 := by unfold U_X11_wrong; exact gI (Or.inr (by decide))
theorem V_wrong {B : Mem} : V_X11_wrong B = 0 := rfl
theorem term_R {T : Nat → Nat} {n q mA i c j : Nat} {ws : List Tk} {B : Mem} (hG : WsG q ws) (hI : MI T n q ws B i) (hi : i < ws.length) (h20 : B.1 242 20 = nI c) (hc : c < 12) : ∃ v B', R_X11_term mA B = some (v, B') ∧ MR T n q ws B B' v (pTerm j (ws.drop i)) i ∧ (v = 1 → B'.1 242 20 = nI (c + 1)) := by
  have E20 : (setI B 242 20 (nI (c + 1))).1 242 20 = nI (c + 1) := gs_eI
  unfold R_X11_term pTerm
  rw [h20, if_neg (nI_ne (y := 12) (b := 12) rfl (by omega) (by omega) (by decide)), nI_1]
  rcases min_M (mA := mA) hG 6 i 0 FUEL 1 (setI B 242 20 (nI (c + 1))) rfl (by unfold FUEL; omega) hI.s hi with ⟨s', i1, B1, y1, y2, y3, y4, y5, y6, y7⟩ | ⟨p, B1, y1, y2, y3, y4, y5⟩
  · rw [show nI 0 = (0 : Int32) from rfl] at y4
    rw [y4, y1, br1_r]
    dsimp only [pthen]
    have F1 := (FrY.i (q := q) (B := B) (v := nI (c + 1)) (Or.inr rfl)).tr y6
    obtain ⟨t, e⟩ := get_lt y3
    obtain ⟨hp8, h38, _⟩ := hG.2.2.2.2 i1 t e
    have k5 := y5.k e
    have W := MR.wrong (α := Tm) hG y5 e
    have W20 : (U_X11_wrong B1).1 242 20 = nI (c + 1) := wrong_20.trans (y7.trans E20)
    rw [drop_c e, pWord, k5]
    -- a keep ends the term
    have kp : ∀ (r : Tm), t.1 ≤ 35 → t.1 ≠ 26 → ∃ v B', bnd2 (bnd2 (R_X11_keepWord mA B1) (fun v15 M15 => (some (v15, M15)))) (fun v14_0 M14 => cz v14_0 (some (v14_0, M14))) = some (v, B') ∧ MR T n q ws B B' v (.inl (r, ws.drop (i1 + 1)) : PR Tm) i ∧ (v = 1 → B'.1 242 20 = nI (c + 1)) := by
      intro r h35 h26
      obtain ⟨B2, g1, g2, g3, g4⟩ := keep_M (mA := mA) hG y5 e h35 h26
      rw [bnd2_e g1, bnd2_s, cz_1]
      exact ⟨1, B2, rfl, ⟨F1.tr g3, Or.inl ⟨r, i1 + 1, rfl, by omega, (hG.i8 e h35).2, rfl, g2⟩⟩, fun _ => g4.trans (y7.trans E20)⟩
    by_cases c0 : 9 ≤ t.1 ∧ t.1 ≤ 25
    · rw [if_pos c0]
      dsimp only
      by_cases c1 : t.1 = 25
      · rw [if_pos c1, if_neg (fun z => by have := (q5 h38).mp z; omega), if_pos ((q2 h38).mpr (by omega))]
        exact kp _ (by omega) (by omega)
      · rw [if_neg c1]
        by_cases c2 : 17 ≤ t.1
        · rw [if_pos c2, if_neg (fun z => by have := (q5 h38).mp z; omega), if_neg (fun z => by have := (q2 h38).mp z; omega), if_neg (fun z => by have := (q3 h38).mp z; omega), if_pos ((q4 h38).mpr (by omega))]
          exact kp _ (by omega) (by omega)
        · rw [if_neg c2]
          by_cases c3 : 13 ≤ t.1
          · rw [if_pos c3, if_neg (fun z => by have := (q5 h38).mp z; omega), if_neg (fun z => by have := (q2 h38).mp z; omega), if_pos ((q3 h38).mpr (by omega))]
            exact kp _ (by omega) (by omega)
          · rw [if_neg c3, if_pos ((q5 h38).mpr (by omega))]
            obtain ⟨B2, g1, g2, g3, g4⟩ := keep_M (mA := mA) hG y5 e (by omega) (by omega)
            rw [bnd2_e g1]
            have F2 := F1.tr g3
            have hi2 := (hG.i8 e (by omega)).2
            obtain ⟨u, eu⟩ := get_lt hi2
            obtain ⟨_, u38, u9⟩ := hG.2.2.2.2 _ u eu
            have k5' := g2.k eu
            have W2 := MR.wrong (α := Tm) hG g2 eu
            have W20' : (U_X11_wrong B2).1 242 20 = nI (c + 1) := wrong_20.trans (g4.trans (y7.trans E20))
            have wr : ∃ v B', bnd2 (some ((V_X11_wrong B2), U_X11_wrong B2)) (fun v25_0 M25 => cz v25_0 (some (v25_0, M25))) = some (v, B') ∧ MR T n q ws B B' v (.inr u.2.2.2 : PR Tm) i ∧ (v = 1 → B'.1 242 20 = nI (c + 1)) := by
              rw [bnd2_s, cz_v W2.v]
              refine ⟨_, _, rfl, ⟨F2.tr W2.1, ?_⟩, fun _ => W20'⟩
              rcases W2.2 with ⟨_, _, z, _⟩ | z
              · cases z
              · exact Or.inr z
            rw [drop_c eu, pWord, k5']
            by_cases c4 : 25 ≤ u.1 ∧ u.1 ≤ 25
            · rw [if_pos c4, if_pos ((q2 u38).mpr (by omega))]
              have hv := g2.v eu (by omega)
              have e25 : vM u = u.2.2.1 := by unfold vM; rw [if_pos (by omega)]
              have u999 := u9 (by omega)
              rw [hv, e25]
              dsimp only
              by_cases c5 : u.2.2.1 < 5
              · rw [if_pos c5, if_neg (show ¬ (4 : Int32) < nI u.2.2.1 from nI_nlt (a := 4) (by omega) (by decide))]
                obtain ⟨B3, z1, z2, z3, z4⟩ := keep_M (mA := mA) hG g2 eu (by omega) (by omega)
                rw [bnd2_e z1, bnd2_s, cz_1]
                exact ⟨1, B3, rfl, ⟨F2.tr z3, Or.inl ⟨_, i1 + 1 + 1, rfl, by omega, (hG.i8 eu (by omega)).2, rfl, z2⟩⟩, fun _ => z4.trans (g4.trans (y7.trans E20))⟩
              · rw [if_neg c5, if_pos (show (4 : Int32) < nI u.2.2.1 from nI_lt (a := 4) (by omega) (by omega))]
                exact wr
            · rw [if_neg c4, if_neg (fun z => c4 ((q2 u38).mp z))]
              exact wr
    · rw [if_neg c0, if_neg (fun z => by have := (q5 h38).mp z; omega), if_neg (fun z => by have := (q2 h38).mp z; omega), if_neg (fun z => by have := (q3 h38).mp z; omega), if_neg (fun z => by have := (q4 h38).mp z; omega), bnd2_s, cz_v W.v]
      refine ⟨_, _, rfl, ⟨F1.tr W.1, ?_⟩, fun _ => W20⟩
      rcases W.2 with ⟨_, _, z, _⟩ | z
      · cases z
      · exact Or.inr z
  · rw [show nI 0 = (0 : Int32) from rfl] at y3
    rw [y3, y1, br1_l]
    exact ⟨0, B1, rfl, ⟨(FrY.i (q := q) (B := B) (v := nI (c + 1)) (Or.inr rfl)).tr y4, Or.inr ⟨p, rfl, rfl, y2, y5⟩⟩, fun h => absurd h (by decide)⟩
