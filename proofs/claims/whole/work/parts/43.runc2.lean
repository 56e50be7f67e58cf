/-! ===== the class runs rules ===== -/
/-- what is known of the class's memory behind acts or rules: res is what evActs, evRules say -/
def CAf (a x3 : Nat) (M0 M M' : Mem) (res : XR × XS) (cm : Bool) : Prop := CRf a x3 M0 M' ∧ M'.1 a 1 = nI (cap res.2.1) ∧ M'.1 (x3 + 1) = res.2.2.1 ∧ (res.2.1 ≤ 80 → M'.1 a 2 = res.2.2.2 ∧ ((cm = false ∧ res.1 = none ∧ (∀ j, M'.1 x3 j = M.1 x3 j)) ∨ (cm = true ∧ ∃ w x y pw, res.1 = some (w, x, y, pw) ∧ M'.1 x3 14 = w ∧ M'.1 x3 15 = trn (M0.1 x3 1) (cut3 x) ∧ M'.1 x3 16 = trn (M0.1 x3 1) (cut3 y) ∧ (w = 2 → M'.1 x3 17 = cut9 pw) ∧ (w = 0 ∨ w = 1 ∨ w = 2))))
theorem own_set {M : Mem} {a k : Nat} {v : Int32} (hk : k < 2 ^ 31) : (setI M a k v).1 a = uO (M.1 a) (nI k) v := by
  funext j
  unfold uO setI
  dsimp only
  rw [nI_clamp hk]
  by_cases c : j = k
  · rw [if_pos ⟨rfl, c⟩, if_pos c]
  · rw [if_neg (fun q => c q.2), if_neg c]
theorem acts_loop {a p x3 : Nat} {x2 : Int32} {sen : Nat → Int32} {mx my : Int32} {M0 : Mem} (ha : p + 15 ≤ a) (hx : p + 15 ≤ x3) (h3 : x3 ≠ a ∧ x3 ≠ a + 1 ∧ x3 + 1 ≠ a ∧ x3 + 1 ≠ a + 1) (hsen : M0.1 (a + 1) = sen) (hmx : mx = V_X5_seenX x3 (M0.1 x3 2) M0) (hmy : my = V_X5_seenY x3 (M0.1 x3 3) M0) (e : Nat) (he : e ≤ 400) : ∀ (as : List Ac) (i c f : Nat) (M : Mem), i + as.length = e → as.length < f → c ≤ 80 → CRf a x3 M0 M → M.1 a 1 = nI c → (∀ j ac, as[j]? = some ac → AcC M0 p (i + j) ac ∧ AcW ac) → ∃ q M' cm, L_X6_doActs_22 a p x2 x3 (nI e) f (nI i) M = some q ∧ ((q = .inr M' ∧ (cm = false ∨ 80 < (evActs sen mx my as (c, M.1 (x3 + 1), M.1 a 2)).2.1)) ∨ (q = .inl (1, M') ∧ (cm = true ∨ 80 < (evActs sen mx my as (c, M.1 (x3 + 1), M.1 a 2)).2.1))) ∧ CAf a x3 M0 M M' (evActs sen mx my as (c, M.1 (x3 + 1), M.1 a 2)) cm := by
  intro as
  induction as with
  | nil =>
    intro i c f M hi hf hc hF h1 _
    obtain ⟨f, rfl⟩ : ∃ m, f = m + 1 := ⟨f - 1, by omega⟩
    refine ⟨.inr M, M, false, ?_, Or.inl ⟨rfl, Or.inl rfl⟩, hF, by show M.1 a 1 = nI (cap c); rw [cap_id hc]; exact h1, rfl, fun _ => ⟨rfl, Or.inl ⟨rfl, rfl, fun _ => rfl⟩⟩⟩
    rw [L_X6_doActs_22, if_pos (nI_le (by simp at hi; omega) (by omega))]
  | cons ac as ih =>
    intro i c f M hi hf hc hF h1 hA
    obtain ⟨f, rfl⟩ : ∃ m, f = m + 1 := ⟨f - 1, by omega⟩
    simp only [List.length_cons] at hi hf
    obtain ⟨⟨q1, q2, s, q3, q4⟩, hW⟩ : AcC M0 p i ac ∧ AcW ac := hA 0 ac rfl
    have hi4 : i < 400 := by omega
    have rd : ∀ d, p ≤ d → d < p + 15 → M.1 d = M0.1 d := fun d g1 g2 => hF.2.1 d (by omega) (by omega) (by omega)
    rw [L_X6_doActs_22, if_neg (nI_ge (by omega) (by omega)), if_neg (nleL (y := 400) 400 hi4 rfl (by decide)), h1, if_neg (show ¬ (80 : Int32) < nI c from nI_nlt (b := c) (a := 80) hc (by decide)), ck_nI hi4 (by omega), bd1_s, ck_nI hi4 (by omega), bd1_s, ck_nI hi4 (by omega), bd1_s, nI_clamp (by omega), rd (p + 7) (by omega) (by omega), rd (p + 9) (by omega) (by omega), hF.1, q1, q2, q3]
    have e1 : cap (c + 1) = c + 1 := by unfold cap; split <;> omega
    rw [nI_1 c, nI_1 i]
    have hA' : ∀ j ac', as[j]? = some ac' → AcC M0 p (i + 1 + j) ac' ∧ AcW ac' := fun j ac' e => by
      have := hA (j + 1) ac' e
      rw [show i + 1 + j = i + (j + 1) by omega]; exact this
    by_cases k3 : ac.1 = 3
    · rw [if_pos k3]
      by_cases c80 : 80 < c + 1
      · -- overrun at the act itself
        have hev : evActs sen mx my (ac :: as) (c, M.1 (x3 + 1), M.1 a 2) = (none, (c + 1, M.1 (x3 + 1), M.1 a 2)) := by
          rw [evActs, if_pos k3, if_pos c80]
        rw [hev]
        have F1 := (hF.a (j := 1) (v := nI (c + 1)) h3.1).a (j := 2) (v := ac.2.1) h3.1
        refine ⟨.inr _, _, false, ?_, Or.inl ⟨rfl, Or.inl rfl⟩, F1, ?_, ?_, fun q => absurd q (by dsimp only; omega)⟩
        · obtain ⟨f, rfl⟩ : ∃ m, f = m + 1 := ⟨f - 1, by omega⟩
          rw [L_X6_doActs_22, gI (Or.inr (by decide)), gs_eI]
          split
          · rfl
          · split
            · rfl
            · rw [if_pos (show (80 : Int32) < nI (c + 1) from by rw [show c + 1 = 81 by omega]; decide)]
        · rw [gI (Or.inr (by decide)), gs_eI, e1]
        · rw [fI (by omega), fI (by omega)]
      · have F1 := (hF.a (j := 1) (v := nI (c + 1)) h3.1).a (j := 2) (v := ac.2.1) h3.1
        obtain ⟨q, M', cm, g1, g2, g3⟩ := ih (i + 1) (c + 1) f _ (by omega) (by omega) (by omega) F1 (by rw [gI (Or.inr (by decide)), gs_eI]) hA'
        rw [fI (by omega), fI (by omega), gs_eI] at g2 g3
        have hev : evActs sen mx my (ac :: as) (c, M.1 (x3 + 1), M.1 a 2) = evActs sen mx my as (c + 1, M.1 (x3 + 1), ac.2.1) := by
          rw [evActs, if_pos k3, if_neg c80]
        rw [hev]
        obtain ⟨w1, w2, w3, w4⟩ := g3
        refine ⟨q, M', cm, g1, g2, w1, w2, w3, fun hl => ⟨(w4 hl).1, ?_⟩⟩
        rcases (w4 hl).2 with ⟨z1, z2, z3⟩ | z
        · exact Or.inl ⟨z1, z2, fun j => by rw [z3 j, gI (Or.inl h3.1), gI (Or.inl h3.1)]⟩
        · exact Or.inr z
    · rw [if_neg k3]
      by_cases k4 : ac.1 = 4
      · rw [if_pos k4]
        obtain ⟨hl1, k, hk4, ek⟩ : ac.2.2.length = 1 ∧ ∃ k : Nat, k < 4 ∧ ac.2.1 = nI k := by
          rcases hW with h | h | h | h | h | h
          · exact absurd h.1 k3
          · exact h.2
          · rw [k4] at h; exact absurd h.1 (by decide)
          · rw [k4] at h; exact absurd h.1 (by decide)
          · rw [k4] at h; exact absurd h.1 (by decide)
          · rw [k4] at h; exact absurd h.1 (by decide)
        have g0 : ac.2.2[0]? = some (sm0 ac 0) := by unfold sm0; rw [List.getD_eq_getElem?_getD, List.getElem?_eq_getElem (by omega)]; rfl
        have F1 := hF.a (j := 1) (v := nI (c + 1)) h3.1
        have hS := (q4 0 _ g0).cg (A' := setI M a 1 (nI (c + 1))) (fun d g1 g2 => F1.2.1 d (by omega) (by omega) (by omega))
        obtain ⟨v, w1, w2⟩ := work_C (a := a) (p := p) (s := s) (x3 := x3 + 1) (c := c + 1) (M := setI M a 1 (nI (c + 1))) ha (by omega) (by rw [gs_eI, e1]) hS
        rw [setI2] at w1
        rw [fI (by omega), F1.2.1 (a + 1) (by omega) (by omega) (by omega), hsen] at w2
        rw [bnd2_e w1, gs_eI, bd1_s]
        have F2 := hF.a (j := 1) (v := nI (cap (c + 1 + (sm0 ac 0).length))) h3.1
        by_cases c80 : 80 < c + 1 + (sm0 ac 0).length
        · have hev : evActs sen mx my (ac :: as) (c, M.1 (x3 + 1), M.1 a 2) = (none, (c + 1 + (sm0 ac 0).length, M.1 (x3 + 1), M.1 a 2)) := by
            rw [evActs, if_neg k3, if_pos k4, if_pos c80]
          rw [hev, if_pos (lt80.mpr (by omega))]
          refine ⟨.inr _, _, false, ?_, Or.inl ⟨rfl, Or.inl rfl⟩, F2, gs_eI, by rw [fI (by omega)], fun q => absurd q (by dsimp only; omega)⟩
          obtain ⟨f, rfl⟩ : ∃ m, f = m + 1 := ⟨f - 1, by omega⟩
          rw [L_X6_doActs_22, gs_eI]
          split
          · rfl
          · split
            · rfl
            · rw [if_pos (lt80.mpr (by omega))]
        · rw [if_neg (fun q => (lt80.mp q) (by omega)), cap_id (by omega), ek, put_eq (x := x3 + 1) (k := k) rfl hk4 (by decide)]
          rw [cap_id (by omega)] at F2
          have F3 := F2.own (j := k) (v := v)
          obtain ⟨q, M', cm, g1, g2, g3⟩ := ih (i + 1) (c + 1 + (sm0 ac 0).length) f _ (by omega) (by omega) (by omega) F3 (by rw [gI (Or.inl (by omega)), gs_eI]) hA'
          rw [own_set (by omega), fI (by omega), gI (Or.inl (by omega)), gI (Or.inr (by decide)), w2 (by omega)] at g2 g3
          have hev : evActs sen mx my (ac :: as) (c, M.1 (x3 + 1), M.1 a 2) = evActs sen mx my as (c + 1 + (sm0 ac 0).length, uO (M.1 (x3 + 1)) (nI k) (valS (M.1 (x3 + 1)) sen (sm0 ac 0)), M.1 a 2) := by
            rw [evActs, if_neg k3, if_pos k4, if_neg c80, ek]
          rw [hev]
          obtain ⟨y1, y2, y3, y4⟩ := g3
          refine ⟨q, M', cm, ?_, g2, y1, y2, y3, fun hl => ⟨(y4 hl).1, ?_⟩⟩
          · rw [w2 (by omega)] at g1 ⊢; exact g1
          · rcases (y4 hl).2 with ⟨z1, z2, z3⟩ | z
            · exact Or.inl ⟨z1, z2, fun j => by rw [z3 j, gI (Or.inl (by omega)), gI (Or.inl h3.1)]⟩
            · exact Or.inr z
      · rw [if_neg k4]
        have F1 := hF.a (j := 1) (v := nI (c + 1)) h3.1
        obtain ⟨M', w, x, y, pw, g1, g2, g3, g4, g5, g6, g7, g8⟩ := cmd_C (c := c + 1) (M := setI M a 1 (nI (c + 1))) ha hx ⟨h3.1, h3.2.1, h3.2.2.1⟩ F1 (by rw [gs_eI, e1]) hsen hmx hmy hW k3 k4 q4 as (M.1 a 2) c rfl
        rw [fI (by omega)] at g3 g5 g6 g7 g8
        rw [bnd1_e g1]
        refine ⟨.inl (1, M'), M', true, rfl, Or.inr ⟨rfl, Or.inl rfl⟩, g2, g7, ?_, fun hl => ⟨?_, Or.inr ⟨rfl, w, x, y, pw, g5, ?_⟩⟩⟩
        · rw [g3, g6]
        · rw [g4, gI (Or.inr (by decide)), g6]
        · exact g8 hl
theorem doActs_C {a p x3 r c : Nat} {rl : Rl} {sen : Nat → Int32} {mx my : Int32} {M0 M : Mem} (ha : p + 15 ≤ a) (hx : p + 15 ≤ x3) (h3 : x3 ≠ a ∧ x3 ≠ a + 1 ∧ x3 + 1 ≠ a ∧ x3 + 1 ≠ a + 1) (hsen : M0.1 (a + 1) = sen) (hmx : mx = V_X5_seenX x3 (M0.1 x3 2) M0) (hmy : my = V_X5_seenY x3 (M0.1 x3 3) M0) (hr : r < 96) (hc : c ≤ 80) (hF : CRf a x3 M0 M) (h1 : M.1 a 1 = nI c) (hR : RlC M0 p r rl) (hW : ∀ ac ∈ rl.2, AcW ac) : ∃ v M' cm, R_X6_doActs a p (nI r) x3 M = some (v, M') ∧ ((v = 0 ∧ (cm = false ∨ 80 < (evActs sen mx my rl.2 (c, M.1 (x3 + 1), M.1 a 2)).2.1)) ∨ (v = 1 ∧ (cm = true ∨ 80 < (evActs sen mx my rl.2 (c, M.1 (x3 + 1), M.1 a 2)).2.1))) ∧ CAf a x3 M0 M M' (evActs sen mx my rl.2 (c, M.1 (x3 + 1), M.1 a 2)) cm := by
  obtain ⟨_, i, q1, q2, q4, q5⟩ := hR
  have rd : ∀ d, p ≤ d → d < p + 15 → M.1 d = M0.1 d := fun d g1 g2 => hF.2.1 d (by omega) (by omega) (by omega)
  unfold R_X6_doActs
  rw [nI_1, at_eq (x := p + 4) (k := r + 1) rfl (by omega) (by decide), at_eq (x := p + 4) (k := r) rfl (by omega) (by decide), rd (p + 4) (by omega) (by omega), q1, q2, bd1_s, bd1_s]
  obtain ⟨q, M', cm, g1, g2, g3⟩ := acts_loop (x2 := nI r) ha hx h3 hsen hmx hmy (i + rl.2.length) q4 rl.2 i c FUEL M rfl (by unfold FUEL; omega) hc hF h1 (fun j ac e => ⟨q5 j ac e, hW ac (List.mem_of_getElem? e)⟩)
  rw [g1]
  rcases g2 with ⟨rfl, g2⟩ | ⟨rfl, g2⟩
  · exact ⟨0, M', cm, rfl, Or.inl ⟨rfl, g2⟩, g3⟩
  · exact ⟨1, M', cm, rfl, Or.inr ⟨rfl, g2⟩, g3⟩
