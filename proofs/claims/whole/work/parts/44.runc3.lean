theorem ff : ¬ (false = true) := by decide
theorem evTests_over {own sen : Nat → Int32} : ∀ (ts : List Ts) (c : Nat), c ≤ 80 → 80 < (evTests own sen ts c).2 → (evTests own sen ts c).1 = false := by
  intro ts
  induction ts with
  | nil => intro c h1 h2; simp only [evTests] at h2; omega
  | cons t ts ih =>
    intro c h1 h2
    unfold evTests at h2 ⊢
    by_cases a : 80 < c + 1 + t.2.1.length + t.2.2.length
    · rw [if_pos a]
    · rw [if_neg a] at h2 ⊢
      by_cases b : cmpT t.1 (valS own sen t.2.1) (valS own sen t.2.2) = true
      · rw [if_pos b] at h2 ⊢; exact ih _ (by omega) h2
      · rw [if_neg b]
theorem rules_loop {a p x3 : Nat} {sen : Nat → Int32} {mx my : Int32} {M0 : Mem} (ha : p + 15 ≤ a) (hx : p + 15 ≤ x3) (h3 : x3 ≠ a ∧ x3 ≠ a + 1 ∧ x3 + 1 ≠ a ∧ x3 + 1 ≠ a + 1) (hsen : M0.1 (a + 1) = sen) (hmx : mx = V_X5_seenX x3 (M0.1 x3 2) M0) (hmy : my = V_X5_seenY x3 (M0.1 x3 3) M0) (e : Nat) (he : e ≤ 96) : ∀ (rs : List Rl) (r c f : Nat) (M : Mem), r + rs.length = e → rs.length < f → c ≤ 80 → CRf a x3 M0 M → M.1 a 1 = nI c → (∀ j rl, rs[j]? = some rl → RlC M0 p (r + j) rl ∧ ∀ ac ∈ rl.2, AcW ac) → ∃ M' cm, L_X6_run_43 a p x3 (nI e) f 0 (nI r) M = some M' ∧ CAf a x3 M0 M M' (evRules sen mx my rs (c, M.1 (x3 + 1), M.1 a 2)) cm := by
  intro rs
  induction rs with
  | nil =>
    intro r c f M hi hf hc hF h1 _
    obtain ⟨f, rfl⟩ : ∃ m, f = m + 1 := ⟨f - 1, by omega⟩
    refine ⟨M, false, ?_, hF, by show M.1 a 1 = nI (cap c); rw [cap_id hc]; exact h1, rfl, fun _ => ⟨rfl, Or.inl ⟨rfl, rfl, fun _ => rfl⟩⟩⟩
    rw [L_X6_run_43, if_pos (nI_le (by simp at hi; omega) (by omega))]
  | cons rl rs ih =>
    intro r c f M hi hf hc hF h1 hA
    obtain ⟨f, rfl⟩ : ∃ m, f = m + 1 := ⟨f - 1, by omega⟩
    simp only [List.length_cons] at hi hf
    obtain ⟨hR, hW⟩ : RlC M0 p r rl ∧ ∀ ac ∈ rl.2, AcW ac := hA 0 rl rfl
    have hA' : ∀ j rl', rs[j]? = some rl' → RlC M0 p (r + 1 + j) rl' ∧ ∀ ac ∈ rl'.2, AcW ac := fun j rl' e => by
      have := hA (j + 1) rl' e
      rw [show r + 1 + j = r + (j + 1) by omega]; exact this
    have exitO : ∀ (M : Mem) (u : Int32), (80 : Int32) < M.1 a 1 → L_X6_run_43 a p x3 (nI e) f u (nI (r + 1)) M = some M := by
      intro M u hM
      obtain ⟨f, rfl⟩ : ∃ m, f = m + 1 := ⟨f - 1, by omega⟩
      rw [L_X6_run_43]
      split
      · rfl
      · first | rfl | rw [if_pos hM]
    have exit1 : ∀ (M : Mem), L_X6_run_43 a p x3 (nI e) f 1 (nI (r + 1)) M = some M := by
      intro M
      obtain ⟨f, rfl⟩ : ∃ m, f = m + 1 := ⟨f - 1, by omega⟩
      rw [L_X6_run_43]
      split
      · rfl
      · split
        · rfl
        · rw [if_neg n10]
    have hsM : M.1 (a + 1) = sen := by rw [hF.2.1 (a + 1) (by omega) (by omega) (by omega)]; exact hsen
    have hall := allHold_C (a := a) (x3 := x3 + 1) (c := c) (M := M) ha (by omega) (show r < 96 by omega) (by rw [cap_id hc]; exact h1) hc (hR.cg (fun d q1 q2 => hF.2.1 d (by omega) (by omega) (by omega)) hF.1)
    rw [hsM] at hall
    have hov := evTests_over (own := M.1 (x3 + 1)) (sen := sen) rl.1 c hc
    obtain ⟨b, c1⟩ : ∃ z, z = evTests (M.1 (x3 + 1)) sen rl.1 c := ⟨_, rfl⟩
    rw [L_X6_run_43, if_neg (nI_ge (by omega) (by omega)), h1, if_neg (show ¬ (80 : Int32) < nI c from nI_nlt (b := c) (a := 80) hc (by decide)), if_pos rfl, bnd2_e hall, nI_1]
    unfold evRules
    dsimp only
    generalize hz : evTests (M.1 (x3 + 1)) sen rl.1 c = z at hall hov
    obtain ⟨tb, c1⟩ := z
    dsimp only at hall hov ⊢
    have F6 := hF.a (j := 1) (v := nI (cap c1)) h3.1
    have o6 : (setI M a 1 (nI (cap c1))).1 (x3 + 1) = M.1 (x3 + 1) := fI (by omega)
    have a6 : (setI M a 1 (nI (cap c1))).1 a 2 = M.1 a 2 := gI (Or.inr (by decide))
    by_cases c80 : 80 < c1
    · rw [hov c80, if_neg ff, if_pos rfl, bnd2_s, if_pos c80, exitO _ _ (by rw [gs_eI]; exact lt80.mpr (by omega))]
      exact ⟨_, false, rfl, F6, gs_eI, o6, fun q => absurd q (by dsimp only; omega)⟩
    · rw [if_neg c80]
      cases tb with
      | false =>
        rw [if_neg ff, if_pos rfl, bnd2_s, if_neg ff]
        obtain ⟨M', cm, g1, g2⟩ := ih (r + 1) c1 f _ (by omega) (by omega) (by omega) F6 (by rw [gs_eI, cap_id (by omega)]) hA'
        rw [o6, a6] at g2
        obtain ⟨w1, w2, w3, w4⟩ := g2
        refine ⟨M', cm, g1, w1, w2, w3, fun hl => ⟨(w4 hl).1, ?_⟩⟩
        rcases (w4 hl).2 with ⟨z1, z2, z3⟩ | z
        · exact Or.inl ⟨z1, z2, fun j => by rw [z3 j, gI (Or.inl h3.1)]⟩
        · exact Or.inr z
      | true =>
        rw [if_pos rfl, if_neg n10, if_pos rfl]
        obtain ⟨v, M2, cm, g1, g2, g3⟩ := doActs_C (c := c1) (M := setI M a 1 (nI (cap c1))) ha hx h3 hsen hmx hmy (show r < 96 by omega) (by omega) F6 (by rw [gs_eI, cap_id (by omega)]) hR hW
        rw [o6, a6] at g2 g3
        rw [bnd2_e g1, bnd2_s]
        generalize evActs sen mx my rl.2 (c1, M.1 (x3 + 1), M.1 a 2) = res at g2 g3
        obtain ⟨rr, c2, own2, nx2⟩ := res
        obtain ⟨w1, w2, w3, w4⟩ := g3
        dsimp only at w2 w3 w4 g2 ⊢
        by_cases d80 : 80 < c2
        · rw [if_pos d80, exitO _ _ (by rw [w2]; exact lt80.mpr (by omega))]
          exact ⟨M2, cm, rfl, w1, w2, w3, fun q => absurd q (by dsimp only; omega)⟩
        · rw [if_neg d80]
          obtain ⟨n2, hcm⟩ := w4 (by omega)
          rcases hcm with ⟨rfl, rfl, hsame⟩ | ⟨rfl, w, x, y, pw, rfl, hcmd⟩
          · have hv : v = 0 := by
              rcases g2 with ⟨hv, _⟩ | ⟨_, q | q⟩
              · exact hv
              · cases q
              · omega
            rw [hv]
            obtain ⟨M', cm', y1, y2⟩ := ih (r + 1) c2 f M2 (by omega) (by omega) (by omega) w1 (by rw [w2, cap_id (by omega)]) hA'
            rw [w3, n2] at y2
            obtain ⟨u1, u2, u3, u4⟩ := y2
            refine ⟨M', cm', y1, u1, u2, u3, fun hl => ⟨(u4 hl).1, ?_⟩⟩
            rcases (u4 hl).2 with ⟨z1, z2, z3⟩ | z
            · exact Or.inl ⟨z1, z2, fun j => by rw [z3 j, hsame j, gI (Or.inl h3.1)]⟩
            · exact Or.inr z
          · have hv : v = 1 := by
              rcases g2 with ⟨_, q | q⟩ | ⟨hv, _⟩
              · cases q
              · omega
              · exact hv
            rw [hv, exit1]
            exact ⟨M2, true, rfl, w1, w2, w3, fun _ => ⟨n2, Or.inr ⟨rfl, w, x, y, pw, rfl, hcmd⟩⟩⟩
/-- the class's run of a robot's program: its memory behind it -/
theorem run_C {a p x3 st : Nat} {pg : Pg} {rs : List Rl} {sen : Nat → Int32} {mx my : Int32} {M : Mem} (ha : p + 15 ≤ a) (hx : p + 15 ≤ x3) (h3 : x3 ≠ a ∧ x3 ≠ a + 1 ∧ x3 + 1 ≠ a ∧ x3 + 1 ≠ a + 1) (hsen : M.1 (a + 1) = sen) (hmx : mx = V_X5_seenX x3 (M.1 x3 2) M) (hmy : my = V_X5_seenY x3 (M.1 x3 3) M) (hst : M.1 x3 7 = nI st) (hst8 : st < 8) (hP : PgC M p pg) (hrs : pg[st]? = some rs) (hW : ∀ rl ∈ rs, ∀ ac ∈ rl.2, AcW ac) :
    ∃ M1 cm, CAf a x3 M (setI (setI M a 1 0) a 2 (nI st)) M1 (evRules sen mx my rs (0, M.1 (x3 + 1), nI st)) cm ∧ R_X6_run a p x3 M = (if (evRules sen mx my rs (0, M.1 (x3 + 1), nI st)).2.1 ≤ 80 then some (0, setI M1 x3 7 (M1.1 a 2)) else some (1, setI (decC x3 0 0 0 0 M1) x3 8 1)) := by
  obtain ⟨_, _, hS⟩ := hP
  obtain ⟨r0, q1, q2, q3, q4⟩ := hS st rs hrs
  unfold R_X6_run
  rw [hst, nI_1, at_eq (x := p + 2) (k := st + 1) rfl (by omega) (by decide), at_eq (x := p + 2) (k := st) rfl (by omega) (by decide), gI (Or.inl (by omega)), gI (Or.inl (by omega)), gI (Or.inl (by omega)), gI (Or.inl (by omega)), q1, q2, bd1_s, bd1_s]
  have F0 : CRf a x3 M (setI (setI M a 1 0) a 2 (nI st)) := (CRf.rf.a h3.1).a h3.1
  obtain ⟨M1, cm, g1, g2⟩ := rules_loop (M0 := M) ha hx h3 hsen hmx hmy (r0 + rs.length) q3 rs r0 0 FUEL _ rfl (by unfold FUEL; omega) (by decide) F0 (by rw [gI (Or.inr (by decide)), gs_eI]; rfl) (fun j rl e => ⟨q4 j rl e, hW rl (List.mem_of_getElem? e)⟩)
  rw [fI (by omega), fI (by omega), gs_eI] at g2
  refine ⟨M1, cm, g2, ?_⟩
  rw [bnd1_e g1, g2.2.1]
  have nle : ∀ {x y : Int32}, x ≤ y ↔ ¬ y < x := fun {x y} => by
    rw [Int32.le_iff_toInt_le, Int32.lt_iff_toInt_lt]; omega
  by_cases c : (evRules sen mx my rs (0, M.1 (x3 + 1), nI st)).2.1 ≤ 80
  · rw [if_pos c, if_pos (nle.mpr (fun q => (lt80.mp q) c))]
  · rw [if_neg c, if_neg (fun q => (nle.mp q) (lt80.mpr c)), dec_eq, bd1_s]
