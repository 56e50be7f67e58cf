/-! ===== the class runs a program ===== -/
theorem setI2 {M : Mem} {a j : Nat} {v w : Int32} : setI (setI M a j v) a j w = setI M a j w := by
  refine Prod.ext ?_ rfl
  funext x k
  unfold setI; dsimp only
  by_cases q : x = a ∧ k = j
  · rw [if_pos q, if_pos q]
  · rw [if_neg q, if_neg q, if_neg q]
theorem cap_id {c : Nat} (h : c ≤ 80) : cap c = c := by unfold cap; rw [if_pos h]
theorem cap_81 {c : Nat} (h : ¬ c ≤ 80) : cap c = 81 := by unfold cap; rw [if_neg h]
theorem lt80 {c : Nat} : (80 : Int32) < nI (cap c) ↔ ¬ c ≤ 80 := by
  by_cases h : c ≤ 80
  · rw [cap_id h]; exact ⟨fun q => absurd q (nI_nlt (b := c) (a := 80) h (by decide)), fun q => absurd h q⟩
  · rw [cap_81 h]; exact ⟨fun _ => h, fun _ => by decide⟩
theorem cmpV {sg x y : Int32} : (if sg = (29 : Int32) then (if y ≤ x then (0 : Int32) else (1 : Int32)) else (if sg = (31 : Int32) then (if x ≤ y then (0 : Int32) else (1 : Int32)) else (if x = y then (1 : Int32) else (0 : Int32)))) = if cmpT sg x y = true then 1 else 0 := by
  have nle : ∀ {a b : Int32}, ¬ a ≤ b ↔ b < a := fun {a b} => by
    rw [Int32.le_iff_toInt_le, Int32.lt_iff_toInt_lt]; omega
  unfold cmpT
  by_cases c1 : sg = 29
  · rw [if_pos c1, if_pos c1]
    by_cases c2 : y ≤ x
    · rw [if_pos c2, if_neg (by rw [decide_eq_true_eq]; exact fun q => (nle.mpr q) c2)]
    · rw [if_neg c2, if_pos (by rw [decide_eq_true_eq]; exact nle.mp c2)]
  · rw [if_neg c1, if_neg c1]
    by_cases c3 : sg = 31
    · rw [if_pos c3, if_pos c3]
      by_cases c2 : x ≤ y
      · rw [if_pos c2, if_neg (by rw [decide_eq_true_eq]; exact fun q => (nle.mpr q) c2)]
      · rw [if_neg c2, if_pos (by rw [decide_eq_true_eq]; exact nle.mp c2)]
    · rw [if_neg c3, if_neg c3]
      by_cases c2 : x = y
      · rw [if_pos c2, if_pos (decide_eq_true c2)]
      · rw [if_neg c2, if_neg (by rw [decide_eq_true_eq]; exact c2)]
theorem hold_loop {a p x3 : Nat} {x2 : Int32} {M0 : Mem} (ha : p + 15 ≤ a) (h3 : x3 ≠ a) (e : Nat) (he : e ≤ 400) : ∀ (ts : List Ts) (i c f : Nat), i + ts.length = e → ts.length < f → c ≤ 80 → (∀ j t, ts[j]? = some t → TsC M0 p (i + j) t) → L_X6_allHold_25 a p x2 x3 4 (nI e) f 1 (nI i) (setI M0 a 1 (nI (cap c))) = some (if (evTests (M0.1 x3) (M0.1 (a + 1)) ts c).1 = true then 1 else 0, setI M0 a 1 (nI (cap (evTests (M0.1 x3) (M0.1 (a + 1)) ts c).2))) := by
  intro ts
  induction ts with
  | nil =>
    intro i c f hi hf hc _
    obtain ⟨f, rfl⟩ : ∃ m, f = m + 1 := ⟨f - 1, by omega⟩
    rw [L_X6_allHold_25, if_pos (nI_le (by simp at hi; omega) (by omega))]
    rfl
  | cons t ts ih =>
    intro i c f hi hf hc hT
    obtain ⟨f, rfl⟩ : ∃ m, f = m + 1 := ⟨f - 1, by omega⟩
    simp only [List.length_cons] at hi hf
    have hT0 := hT 0 t rfl
    rw [Nat.add_zero] at hT0
    obtain ⟨q1, s, q2, q3, q4⟩ := hT0
    have fr : ∀ v d, p < d → d < p + 15 → (setI M0 a 1 v).1 d = M0.1 d := fun v d h1 h2 => fI (by omega)
    have e2 : nI c + 1 = nI (cap (c + 1)) := by
      rw [nI_1]; have : cap (c + 1) = c + 1 := by unfold cap; split <;> omega
      rw [this]
    rw [L_X6_allHold_25, if_neg (nI_ge (by omega) (by omega)), if_neg n10, gs_eI, cap_id hc, e2, setI2, at_eq (x := p + 6) (k := i) rfl (by omega) (by decide), fr _ (p + 6) (by omega) (by omega), q2, bd1_s]
    obtain ⟨v6, w1, w2⟩ := work_C (a := a) (x3 := x3) (c := c + 1) (M := setI M0 a 1 (nI (cap (c + 1)))) ha h3 gs_eI (q3.cg (fr _))
    rw [setI2] at w1
    obtain ⟨v7, w3, w4⟩ := work_C (a := a) (x3 := x3) (c := c + 1 + t.2.1.length) (M := setI M0 a 1 (nI (cap (c + 1 + t.2.1.length)))) ha h3 gs_eI (q4.cg (fr _))
    rw [setI2] at w3
    rw [fI h3, fI (by omega)] at w2 w4
    rw [bnd2_e w1, nI_1, bnd2_e w3, at_eq (x := p + 5) (k := i) rfl (by omega) (by decide), fr _ (p + 5) (by omega) (by omega), q1]
    simp only [bd1_s]
    rw [gs_eI, cmpV]
    obtain ⟨c', hc'⟩ : ∃ c', c' = c + 1 + t.2.1.length + t.2.2.length := ⟨_, rfl⟩
    rw [← hc'] at w3 w4 ⊢
    have stop : ∀ (M : Mem) (k : Nat), L_X6_allHold_25 a p x2 x3 4 (nI e) f 0 (nI k) M = some (0, M) := by
      intro M k
      obtain ⟨f, rfl⟩ : ∃ m, f = m + 1 := ⟨f - 1, by omega⟩
      rw [L_X6_allHold_25, if_pos rfl]
      split <;> rfl
    rw [nI_1]
    unfold evTests
    rw [← hc']
    by_cases c80 : 80 < c'
    · rw [if_pos c80, if_pos (lt80.mpr (by omega))]
      rw [show (if (if cmpT t.1 v6 v7 = true then (1 : Int32) else 0) = 0 then (0 : Int32) else 0) = 0 by split <;> rfl, stop]
      rfl
    · rw [if_neg c80, if_neg (fun q => (lt80.mp q) (by omega)), w2 (by omega), w4 (by omega)]
      by_cases cc : cmpT t.1 (valS (M0.1 x3) (M0.1 (a + 1)) t.2.1) (valS (M0.1 x3) (M0.1 (a + 1)) t.2.2) = true
      · rw [if_pos cc, if_neg n10, if_pos cc]
        exact ih (i + 1) c' f (by omega) (by omega) (by omega) (fun j t' e => by
          have := hT (j + 1) t' e
          rw [show i + 1 + j = i + (j + 1) by omega]; exact this)
      · rw [if_neg cc, if_pos rfl, if_neg cc, stop]
        rfl
theorem allHold_C {a p r x3 c : Nat} {rl : Rl} {M : Mem} (ha : p + 15 ≤ a) (h3 : x3 ≠ a) (hr : r < 96) (hc : M.1 a 1 = nI (cap c)) (hc80 : c ≤ 80) (hR : RlC M p r rl) : R_X6_allHold a p (nI r) x3 4 M = some (if (evTests (M.1 x3) (M.1 (a + 1)) rl.1 c).1 = true then 1 else 0, setI M a 1 (nI (cap (evTests (M.1 x3) (M.1 (a + 1)) rl.1 c).2))) := by
  obtain ⟨⟨i, h1, h2, h4, h5⟩, _⟩ := hR
  unfold R_X6_allHold
  rw [nI_1, at_eq (x := p + 3) (k := r + 1) rfl (by omega) (by decide), at_eq (x := p + 3) (k := r) rfl (by omega) (by decide), h1, h2, bd1_s, bd1_s]
  have g1 := hold_loop (a := a) (p := p) (x3 := x3) (x2 := nI r) (M0 := M) ha h3 (i + rl.1.length) h4 rl.1 i c FUEL rfl (by unfold FUEL; omega) hc80 h5
  rw [setI_self hc] at g1
  rw [bnd2_e g1]
  by_cases b : (evTests (M.1 x3) (M.1 (a + 1)) rl.1 c).1 = true
  · rw [if_pos b, cz_1]
  · rw [if_neg b, cz_0]
