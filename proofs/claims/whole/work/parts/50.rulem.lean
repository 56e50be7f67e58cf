/-! ===== the model's rules ===== -/
def RulesM (W V : Nat → Int32) : List Rl → Nat → Nat → Prop
  | [], h, h' => h = h' ∧ W h = 125
  | rl :: rs, h, h' => ∃ h1 h2, TestsM W V rl.1 h h1 ∧ ActsM W V rl.2 (h1 + 1) h2 ∧ RulesM W V rs (h2 + 1) h'
theorem TestsM.le {W V : Nat → Int32} {ts : List Ts} {h h' : Nat} (H : TestsM W V ts h h') : h + ts.length ≤ h' := by
  obtain ⟨t, l, h1, rfl, _, H1, H2⟩ := H
  have := H1.lt
  have := AndsM.le _ _ _ H2
  simp only [List.length_cons]; omega
theorem RulesM.le {W V : Nat → Int32} : ∀ (rs : List Rl) (h h' : Nat), RulesM W V rs h h' → h + rs.length ≤ h' := by
  intro rs
  induction rs with
  | nil => intro h h' H; obtain ⟨rfl, _⟩ := H; exact Nat.le_refl _
  | cons t ts ih =>
    intro h h' H
    obtain ⟨h1, h2, H1, H2, H3⟩ := H
    have := H1.le; have := ActsM.le _ _ _ H2; have := ih _ _ H3
    simp only [List.length_cons]; omega
theorem skipTo {B : Mem} {q r mA c : Nat} {w1 : Int32} (hB : MB B q r) : ∀ (n h f : Nat), h + n < 800 → n < f → wF B q (h + n) = 125 → ∃ e, h ≤ e ∧ e ≤ h + n ∧ L_X11_runRules_127 mA w1 f (mst B h c) = some (mst B e c) := by
  intro n
  induction n with
  | zero =>
    intro h f hh hf e
    obtain ⟨f, rfl⟩ : ∃ m, f = m + 1 := ⟨f - 1, by omega⟩
    have e' : B.1 244 (800 * q + h) = 125 := e
    refine ⟨h, Nat.le_refl _, Nat.le_refl _, ?_⟩
    rw [L_X11_runRules_127, bnd1_e (here_eq hB (by omega)), e', if_pos rfl]
  | succ n ih =>
    intro h f hh hf e
    obtain ⟨f, rfl⟩ : ∃ m, f = m + 1 := ⟨f - 1, by omega⟩
    by_cases k : B.1 244 (800 * q + h) = 125
    · refine ⟨h, Nat.le_refl _, by omega, ?_⟩
      rw [L_X11_runRules_127, bnd1_e (here_eq hB (by omega)), k, if_pos rfl]
    · obtain ⟨e', g1, g2, g3⟩ := ih (h + 1) f (by omega) (by omega) (by rw [show h + 1 + n = h + (n + 1) by omega]; exact e)
      refine ⟨e', by omega, by omega, ?_⟩
      rw [L_X11_runRules_127, bnd1_e (here_eq hB (by omega)), if_neg k, mst_inc]; exact g3
/-- a rule's tests, all of them -/
theorem tests_M {B : Mem} {q r mA h h' c : Nat} {ts : List Ts} {w1 : Int32} (hB : MB B q r) (hm : mA = 259 ∨ mA = 260) (H : TestsM (wF B q) (vF B q) ts h h') (hh : h' < 800) (hc : c ≤ 80) : ∃ v h1 c1 u h2, R_X11_testHolds mA (mst B h c) = some (v, mst B h1 c1) ∧ L_X11_runRules_27 mA w1 FUEL v (mst B h1 c1) = some (u, mst B h2 (evTests (ownF (B.1 mA) r) (senF (B.1 mA) r) ts c).2) ∧ h < h2 ∧ h2 ≤ h' ∧ ((evTests (ownF (B.1 mA) r) (senF (B.1 mA) r) ts c).2 ≤ 80 → u = (if (evTests (ownF (B.1 mA) r) (senF (B.1 mA) r) ts c).1 = true then 1 else 0) ∧ NB (wF B q) h2 h') := by
  obtain ⟨t, l, h1, rfl, hw, H1, H2⟩ := H
  have hl := AndsM.le _ _ _ H2
  have hlt := H1.lt
  have hF : FUEL = 4999 + 1 := rfl
  have stopO : ∀ (u : Int32) (M : Mem), M.1 242 37 = 1 → L_X11_runRules_27 mA w1 FUEL u M = some (u, M) := by
    intro u M hM
    rw [hF, L_X11_runRules_27]
    split
    · rfl
    · rw [hM, if_neg n10]
  have stop0 : ∀ (M : Mem), L_X11_runRules_27 mA w1 FUEL 0 M = some (0, M) := by
    intro M
    rw [hF, L_X11_runRules_27, if_pos rfl]
  unfold evTests
  by_cases c80 : 80 < c + 1 + t.2.1.length + t.2.2.length
  · rw [if_pos c80]
    refine ⟨_, h1, _, _, h1, test_M hB hm H1 (by omega), stopO _ _ (by rw [mst_37, if_neg (by omega)]), hlt, by omega, fun z => absurd z (by dsimp only; omega)⟩
  · rw [if_neg c80]
    by_cases b : cmpT t.1 (valS (ownF (B.1 mA) r) (senF (B.1 mA) r) t.2.1) (valS (ownF (B.1 mA) r) (senF (B.1 mA) r) t.2.2) = true
    · rw [if_pos b]
      obtain ⟨u, h2, g1, g2, g3, g4⟩ := ands_loop (w1 := w1) hB hm l h1 h' (c + 1 + t.2.1.length + t.2.2.length) FUEL H2 hh (by unfold FUEL; omega) (by omega)
      have ht := test_M (c := c) hB hm H1 (by omega)
      rw [if_pos b] at ht
      exact ⟨_, h1, _, u, h2, ht, g1, by omega, g3, g4⟩
    · rw [if_neg b]
      have ht := test_M (c := c) hB hm H1 (by omega)
      rw [if_neg b] at ht
      exact ⟨_, h1, _, 0, h1, ht, stop0 _, hlt, by omega, fun _ => ⟨rfl, AndsM.nb _ _ _ H2⟩⟩
theorem rules_M {mA q r : Nat} {B0 : Mem} {mx my : Int32} (hm : mA = 259 ∨ mA = 260) (hB0 : MB B0 q r) (hmx : mx = tX r (B0.1 mA (44 + 16 * r))) (hmy : my = tY r (B0.1 mA (44 + 16 * r + 1))) : ∀ (rs : List Rl) (h h' c f : Nat) (B : Mem), MRf mA r B0 B → STm mA r B → RulesM (wF B0 q) (vF B0 q) rs h h' → h' < 800 → rs.length + 1 < f → c ≤ 80 → ∃ z B' h2 bu, L_X11_runRules_2 mA f 0 (mst B h c) = some z ∧ (z = .inl (mst B' h2 (evRules (senF (B0.1 mA) r) mx my rs (c, ownF (B.1 mA) r, B.1 242 41)).2.1) ∨ z = .inr (mst B' h2 (evRules (senF (B0.1 mA) r) mx my rs (c, ownF (B.1 mA) r, B.1 242 41)).2.1)) ∧ MAf mA r B0 B' (evRules (senF (B0.1 mA) r) mx my rs (c, ownF (B.1 mA) r, B.1 242 41)) bu := by
  intro rs
  induction rs with
  | nil =>
    intro h h' c f B hF hST H hh hf hc
    obtain ⟨f, rfl⟩ : ∃ m, f = m + 1 := ⟨f - 1, by omega⟩
    obtain ⟨hB, hw, hv, hs⟩ := hF.b hm hB0
    obtain ⟨rfl, e⟩ := H
    have e' : B.1 244 (800 * q + h) = 125 := by have := congrFun hw h; unfold wF at this; rw [this]; exact e
    refine ⟨.inr (mst B h c), B, h, false, ?_, Or.inr rfl, ⟨hF, rfl, fun _ => ⟨rfl, Or.inl ⟨rfl, rfl, hST⟩⟩⟩⟩
    rw [L_X11_runRules_2, if_pos rfl, mst_37, if_pos hc, if_pos rfl, bnd1_e (here_eq hB (by omega)), e', if_neg (by decide)]
  | cons rl rs ih =>
    intro h h' c f B hF hST H hh hf hc
    obtain ⟨f, rfl⟩ : ∃ m, f = m + 1 := ⟨f - 1, by omega⟩
    simp only [List.length_cons] at hf
    obtain ⟨hB, hw, hv, hs⟩ := hF.b hm hB0
    obtain ⟨h1, h2, H1, H2, H3⟩ := H
    have l1 := H1.le
    have l2 := ActsM.le _ _ _ H2
    have l3 := RulesM.le _ _ _ H3
    have w11 : wF B0 q h = 11 := by obtain ⟨t, l, h1, _, hw, _⟩ := H1; exact hw
    have w123 : wF B0 q h1 = 123 := by obtain ⟨t, l, h1, _, hw, _, H⟩ := H1; exact AndsM.end _ _ _ H
    have w125 : wF B0 q h2 = 125 := ActsM.end _ _ _ H2
    have n2 := ActsM.nb _ _ _ H2
    have lt1 : h < h1 := by obtain ⟨t, l, h1, _, _, Ht, Ha⟩ := H1; have := Ht.lt; have := AndsM.le _ _ _ Ha; omega
    have w11' : B.1 244 (800 * q + h) = 11 := by have := congrFun hw h; unfold wF at this; rw [this]; exact w11
    rw [← hw, ← hv] at H1
    obtain ⟨v, ha, ca, u, hb, t1, t2, t3, t4, t5⟩ := tests_M (w1 := 0) hB hm H1 (by omega) hc
    rw [hs] at t2 t5
    have stopO : ∀ (u : Int32) (M : Mem), M.1 242 37 = 1 → L_X11_runRules_2 mA f u M = some (.inr M) := by
      intro u M hM
      obtain ⟨f, rfl⟩ : ∃ m, f = m + 1 := ⟨f - 1, by omega⟩
      rw [L_X11_runRules_2]
      split
      · rw [hM, if_neg n10]
      · rfl
    have stop1 : ∀ (M : Mem), L_X11_runRules_2 mA f 1 M = some (.inr M) := by
      intro M
      obtain ⟨f, rfl⟩ : ∃ m, f = m + 1 := ⟨f - 1, by omega⟩
      rw [L_X11_runRules_2, if_neg n10]
    rw [L_X11_runRules_2, if_pos rfl, mst_37, if_pos hc, if_pos rfl, bnd1_e (here_eq hB (by omega)), w11', if_pos rfl, bnd2_e t1, bnd2_e t2, mst_37]
    unfold evRules
    dsimp only
    generalize evTests (ownF (B.1 mA) r) (senF (B0.1 mA) r) rl.1 c = tc at t2 t5
    obtain ⟨tb, c1⟩ := tc
    dsimp only at t2 t5 ⊢
    by_cases c80 : 80 < c1
    · rw [if_neg (show ¬ c1 ≤ 80 by omega), if_neg n10, if_pos c80]
      exact ⟨_, B, hb, false, rfl, Or.inl rfl, ⟨hF, rfl, fun z => absurd z (by dsimp only; omega)⟩⟩
    · have hc1 : c1 ≤ 80 := by omega
      obtain ⟨hu, hnb⟩ := t5 hc1
      rw [hw] at hnb
      rw [if_pos hc1, if_pos rfl, if_neg c80]
      have sk := skip123 (c := c1) (mA := mA) (w1 := 0) (w2 := u) hB (h1 - hb) hb FUEL (by omega) (by unfold FUEL; omega) (by rw [hw, show hb + (h1 - hb) = h1 by omega]; exact hnb) (by rw [hw, show hb + (h1 - hb) = h1 by omega]; exact w123)
      rw [show hb + (h1 - hb) = h1 by omega] at sk
      rw [bnd1_e sk, mst_inc]
      cases tb with
      | false =>
        rw [if_neg ff] at hu
        subst hu
        have z0 : L_X11_runRules_95 mA 0 FUEL 0 (mst B (h1 + 1) c1) = some (0, mst B (h1 + 1) c1) := by
          rw [show FUEL = 4999 + 1 from rfl, L_X11_runRules_95, if_pos rfl]
        have s1 := skip125 (c := c1) (mA := mA) (w1 := 0) hB (h2 - (h1 + 1)) (h1 + 1) FUEL (by omega) (by unfold FUEL; omega) (by rw [hw, show h1 + 1 + (h2 - (h1 + 1)) = h2 by omega]; exact n2) (by rw [hw, show h1 + 1 + (h2 - (h1 + 1)) = h2 by omega]; exact w125)
        rw [show h1 + 1 + (h2 - (h1 + 1)) = h2 by omega] at s1
        rw [bnd2_e z0, bnd1_e s1, mst_inc, if_neg ff]
        exact ih (h2 + 1) h' c1 f B hF hST H3 hh (by omega) hc1
      | true =>
        rw [if_pos rfl] at hu
        subst hu
        obtain ⟨u2, B2, h3, bu, a1, a2, a3, a4, a5⟩ := acts_M hm hB0 hmx hmy rl.2 (h1 + 1) h2 c1 FUEL B hF hST H2 (by omega) (by unfold FUEL; omega) hc1
        rw [bnd2_e a1, if_pos rfl]
        generalize evActs (senF (B0.1 mA) r) mx my rl.2 (c1, ownF (B.1 mA) r, B.1 242 41) = res at a1 a4 a5
        obtain ⟨rr, c2, own2, nx2⟩ := res
        obtain ⟨m1, m2, m3⟩ := a4
        dsimp only at m2 m3 a5 ⊢
        obtain ⟨hB2, hw2, hv2, hs2⟩ := m1.b hm hB0
        by_cases d80 : 80 < c2
        · obtain ⟨e, e1, e2, e3⟩ := skipTo (c := c2) (mA := mA) (w1 := u2) hB2 (h2 - h3) h3 FUEL (by omega) (by unfold FUEL; omega) (by rw [hw2, show h3 + (h2 - h3) = h2 by omega]; exact w125)
          rw [bnd1_e e3, mst_inc, if_pos d80, stopO _ _ (by rw [mst_37, if_neg (by omega)])]
          exact ⟨_, B2, e + 1, bu, rfl, Or.inr rfl, ⟨m1, m2, fun z => absurd z (by dsimp only; omega)⟩⟩
        · obtain ⟨hu2, hnb2⟩ := a5 (by omega)
          have s1 := skip125 (c := c2) (mA := mA) (w1 := u2) hB2 (h2 - h3) h3 FUEL (by omega) (by unfold FUEL; omega) (by rw [hw2, show h3 + (h2 - h3) = h2 by omega]; exact hnb2) (by rw [hw2, show h3 + (h2 - h3) = h2 by omega]; exact w125)
          rw [show h3 + (h2 - h3) = h2 by omega] at s1
          rw [bnd1_e s1, mst_inc, if_neg d80]
          obtain ⟨g41, hcm⟩ := m3 (by omega)
          rcases hcm with ⟨rfl, rfl, hST2⟩ | ⟨rfl, w, x, y, p, rfl, hCM⟩
          · rw [if_neg ff] at hu2
            subst hu2
            obtain ⟨z, B', h4, bu', y1, y2, y3⟩ := ih (h2 + 1) h' c2 f B2 m1 hST2 H3 hh (by omega) (by omega)
            rw [m2, g41] at y2 y3
            exact ⟨z, B', h4, bu', y1, y2, y3⟩
          · rw [if_pos rfl] at hu2
            subst hu2
            rw [stop1]
            exact ⟨_, B2, h2 + 1, true, rfl, Or.inr rfl, ⟨m1, m2, fun _ => ⟨g41, Or.inr ⟨rfl, w, x, y, p, rfl, hCM⟩⟩⟩⟩
