/-! ===== the model's tests ===== -/
def sgW (s : Int32) : Int32 := if s = 29 then 60 else if s = 31 then 62 else 61
def TestM (W V : Nat → Int32) (t : Ts) (h h' : Nat) : Prop := (t.1 = 29 ∨ t.1 = 30 ∨ t.1 = 31) ∧ ∃ h1, SumM W V t.2.1 (h + 1) h1 ∧ W h1 = sgW t.1 ∧ SumM W V t.2.2 (h1 + 1) h'
def AndsM (W V : Nat → Int32) : List Ts → Nat → Nat → Prop
  | [], h, h' => h = h' ∧ W h = 123
  | t :: ts, h, h' => W h = 12 ∧ ∃ h1, TestM W V t h h1 ∧ AndsM W V ts h1 h'
def TestsM (W V : Nat → Int32) (ts : List Ts) (h h' : Nat) : Prop := ∃ t l h1, ts = t :: l ∧ W h = 11 ∧ TestM W V t h h1 ∧ AndsM W V l h1 h'
/-- no brace between -/
def NB (W : Nat → Int32) (h h' : Nat) : Prop := ∀ i, h ≤ i → i < h' → ¬ W i = 123 ∧ ¬ W i = 125
theorem NB.app {W : Nat → Int32} {a b c : Nat} (h1 : NB W a b) (h2 : NB W b c) : NB W a c := fun i p q => by
  rcases Nat.lt_or_ge i b with z | z
  · exact h1 i p z
  · exact h2 i z q
theorem NB.one {W : Nat → Int32} {a : Nat} (h : ¬ W a = 123 ∧ ¬ W a = 125) : NB W a (a + 1) := fun i p q => by rw [show i = a by omega]; exact h
theorem TermM.nb {W V : Nat → Int32} {h h' : Nat} {t : Tm} (H : TermM W V h t h') : NB W h h' := by
  obtain ⟨k, hk, h45, _, hcase⟩ := H
  have h1 : NB W h (h + k) := fun i p q => by
    have := h45 (i - h) (by omega)
    rw [show h + (i - h) = i by omega] at this
    rw [this]; exact ⟨by decide, by decide⟩
  rcases hcase with ⟨_, e, _, rfl⟩ | ⟨_, e, _, _, rfl⟩ | ⟨_, e, _, rfl⟩ | ⟨_, e, _, e2, rfl⟩
  · exact h1.app (NB.one (by rw [e]; exact ⟨by decide, by decide⟩))
  · exact h1.app (NB.one (by rw [e]; exact ⟨by decide, by decide⟩))
  · exact h1.app (NB.one (by rw [e]; exact ⟨by decide, by decide⟩))
  · exact (h1.app (NB.one (by rw [e]; exact ⟨by decide, by decide⟩))).app (NB.one (by rw [e2]; exact ⟨by decide, by decide⟩))
theorem TailM.nb {W V : Nat → Int32} : ∀ (ts : Sm) (h h' : Nat), TailM W V ts h h' → NB W h h' := by
  intro ts
  induction ts with
  | nil => intro h h' H; obtain ⟨rfl, _⟩ := H; exact fun i p q => by omega
  | cons t ts ih =>
    intro h h' H
    obtain ⟨hj, hw, h1, H1, H2⟩ := H
    refine (NB.one ?_).app (H1.nb.app (ih _ _ H2))
    rw [hw]
    rcases hj with e | e | e <;> rw [e] <;> exact ⟨by decide, by decide⟩
theorem SumM.nb {W V : Nat → Int32} {sm : Sm} {h h' : Nat} (H : SumM W V sm h h') : NB W h h' := by
  obtain ⟨t, ts, h1, rfl, _, H1, H2⟩ := H
  exact H1.nb.app (TailM.nb _ _ _ H2)
theorem TestM.nb {W V : Nat → Int32} {t : Ts} {h h' : Nat} (H : TestM W V t h h') (hw : W h = 11 ∨ W h = 12) : NB W h h' := by
  obtain ⟨hs, h1, H1, e, H2⟩ := H
  have a1 : NB W h (h + 1) := NB.one (by rcases hw with q | q <;> rw [q] <;> exact ⟨by decide, by decide⟩)
  have a2 : NB W h1 (h1 + 1) := NB.one (by rw [e]; rcases hs with q | q | q <;> rw [q] <;> exact ⟨by decide, by decide⟩)
  exact a1.app (H1.nb.app (a2.app H2.nb))
theorem TestM.lt {W V : Nat → Int32} {t : Ts} {h h' : Nat} (H : TestM W V t h h') : h < h' := by
  obtain ⟨_, h1, H1, _, H2⟩ := H
  have := H1.lt
  have := H2.lt
  omega
theorem AndsM.le {W V : Nat → Int32} : ∀ (ts : List Ts) (h h' : Nat), AndsM W V ts h h' → h + ts.length ≤ h' := by
  intro ts
  induction ts with
  | nil => intro h h' H; obtain ⟨rfl, _⟩ := H; exact Nat.le_refl _
  | cons t ts ih => intro h h' H; obtain ⟨_, h1, H1, H2⟩ := H; have := H1.lt; have := ih _ _ H2; simp only [List.length_cons]; omega
theorem AndsM.nb {W V : Nat → Int32} : ∀ (ts : List Ts) (h h' : Nat), AndsM W V ts h h' → NB W h h' := by
  intro ts
  induction ts with
  | nil => intro h h' H; obtain ⟨rfl, _⟩ := H; exact fun i p q => by omega
  | cons t ts ih => intro h h' H; obtain ⟨hw, h1, H1, H2⟩ := H; exact (H1.nb (Or.inr hw)).app (ih _ _ H2)
theorem AndsM.end {W V : Nat → Int32} : ∀ (ts : List Ts) (h h' : Nat), AndsM W V ts h h' → W h' = 123 := by
  intro ts
  induction ts with
  | nil => intro h h' H; obtain ⟨rfl, e⟩ := H; exact e
  | cons t ts ih => intro h h' H; obtain ⟨hw, h1, H1, H2⟩ := H; exact ih _ _ H2
theorem test_M {B : Mem} {q r mA c h h' : Nat} {t : Ts} (hB : MB B q r) (hm : mA = 259 ∨ mA = 260) (H : TestM (wF B q) (vF B q) t h h') (hh : h' < 800) : R_X11_testHolds mA (mst B h c) = some (if cmpT t.1 (valS (ownF (B.1 mA) r) (senF (B.1 mA) r) t.2.1) (valS (ownF (B.1 mA) r) (senF (B.1 mA) r) t.2.2) = true then 1 else 0, mst B h' (c + 1 + t.2.1.length + t.2.2.length)) := by
  obtain ⟨hs, h1, H1, e, H2⟩ := H
  have l2 := H2.lt
  have e' : B.1 244 (800 * q + h1) = sgW t.1 := e
  unfold R_X11_testHolds
  rw [mst_step, mst_inc, bnd2_e (sum_M hB hm H1 (by omega)), bnd1_e (here_eq hB (by omega)), mst_inc, bnd2_e (sum_M hB hm H2 hh), e', bd1_s]
  have key : ∀ x y : Int32, (if sgW t.1 = (60 : Int32) then (if y ≤ x then (0 : Int32) else (1 : Int32)) else (if sgW t.1 = (62 : Int32) then (if x ≤ y then (0 : Int32) else (1 : Int32)) else (if x = y then (1 : Int32) else (0 : Int32)))) = if cmpT t.1 x y = true then 1 else 0 := by
    intro x y
    rw [← cmpV]
    rcases hs with q | q | q <;> rw [q]
    · rw [if_pos (show sgW 29 = 60 by decide), if_pos rfl]
    · rw [if_neg (show ¬ sgW 30 = 60 by decide), if_neg (show ¬ sgW 30 = 62 by decide), if_neg (show ¬ (30 : Int32) = 29 by decide), if_neg (show ¬ (30 : Int32) = 31 by decide)]
    · rw [if_neg (show ¬ sgW 31 = 60 by decide), if_pos (show sgW 31 = 62 by decide), if_neg (show ¬ (31 : Int32) = 29 by decide), if_pos rfl]
  rw [key]
  split
  · rw [cz_1]
  · rw [cz_0]
theorem ands_loop {B : Mem} {q r mA : Nat} {w1 : Int32} (hB : MB B q r) (hm : mA = 259 ∨ mA = 260) : ∀ (ts : List Ts) (h h' c f : Nat), AndsM (wF B q) (vF B q) ts h h' → h' < 800 → ts.length < f → c ≤ 80 → ∃ u h2, L_X11_runRules_27 mA w1 f 1 (mst B h c) = some (u, mst B h2 (evTests (ownF (B.1 mA) r) (senF (B.1 mA) r) ts c).2) ∧ h ≤ h2 ∧ h2 ≤ h' ∧ ((evTests (ownF (B.1 mA) r) (senF (B.1 mA) r) ts c).2 ≤ 80 → u = (if (evTests (ownF (B.1 mA) r) (senF (B.1 mA) r) ts c).1 = true then 1 else 0) ∧ NB (wF B q) h2 h') := by
  intro ts
  induction ts with
  | nil =>
    intro h h' c f H hh hf hc
    obtain ⟨f, rfl⟩ : ∃ m, f = m + 1 := ⟨f - 1, by omega⟩
    obtain ⟨rfl, e⟩ := H
    have e' : B.1 244 (800 * q + h) = 123 := e
    refine ⟨1, h, ?_, Nat.le_refl _, Nat.le_refl _, fun _ => ⟨rfl, fun i p q => by omega⟩⟩
    rw [L_X11_runRules_27, if_neg n10, mst_37, if_pos hc, if_pos rfl, bnd1_e (here_eq hB (by omega)), e', if_neg (by decide)]
    rfl
  | cons t ts ih =>
    intro h h' c f H hh hf hc
    obtain ⟨f, rfl⟩ : ∃ m, f = m + 1 := ⟨f - 1, by omega⟩
    simp only [List.length_cons] at hf
    obtain ⟨hw, h1, H1, H2⟩ := H
    have hl := AndsM.le _ _ _ H2
    have hlt := H1.lt
    have hw' : B.1 244 (800 * q + h) = 12 := hw
    rw [L_X11_runRules_27, if_neg n10, mst_37, if_pos hc, if_pos rfl, bnd1_e (here_eq hB (by omega)), hw', if_pos rfl, bnd2_e (test_M hB hm H1 (by omega))]
    unfold evTests
    have stopO : ∀ (u : Int32) (M : Mem), M.1 242 37 = 1 → L_X11_runRules_27 mA w1 f u M = some (u, M) := by
      intro u M hM
      obtain ⟨f, rfl⟩ : ∃ m, f = m + 1 := ⟨f - 1, by omega⟩
      rw [L_X11_runRules_27]
      split
      · rfl
      · rw [hM, if_neg n10]
    have stop0 : ∀ (M : Mem), L_X11_runRules_27 mA w1 f 0 M = some (0, M) := by
      intro M
      obtain ⟨f, rfl⟩ : ∃ m, f = m + 1 := ⟨f - 1, by omega⟩
      rw [L_X11_runRules_27, if_pos rfl]
    by_cases c80 : 80 < c + 1 + t.2.1.length + t.2.2.length
    · rw [if_pos c80, stopO _ _ (by rw [mst_37, if_neg (by omega)])]
      exact ⟨_, h1, rfl, by omega, by omega, fun z => absurd z (by dsimp only; omega)⟩
    · rw [if_neg c80]
      by_cases b : cmpT t.1 (valS (ownF (B.1 mA) r) (senF (B.1 mA) r) t.2.1) (valS (ownF (B.1 mA) r) (senF (B.1 mA) r) t.2.2) = true
      · rw [if_pos b, if_pos b]
        obtain ⟨u, h2, g1, g2, g3, g4⟩ := ih h1 h' (c + 1 + t.2.1.length + t.2.2.length) f H2 hh (by omega) (by omega)
        exact ⟨u, h2, g1, by omega, g3, g4⟩
      · rw [if_neg b, if_neg b, stop0]
        exact ⟨0, h1, rfl, by omega, by omega, fun _ => ⟨rfl, AndsM.nb _ _ _ H2⟩⟩
/-! from a place to the next brace -/
theorem skip123 {B : Mem} {q r mA c : Nat} {w1 w2 : Int32} (hB : MB B q r) : ∀ (n h f : Nat), h + n < 800 → n < f → NB (wF B q) h (h + n) → wF B q (h + n) = 123 → L_X11_runRules_63 mA w1 w2 f (mst B h c) = some (mst B (h + n) c) := by
  intro n
  induction n with
  | zero =>
    intro h f hh hf _ e
    obtain ⟨f, rfl⟩ : ∃ m, f = m + 1 := ⟨f - 1, by omega⟩
    have e' : B.1 244 (800 * q + h) = 123 := e
    rw [L_X11_runRules_63, bnd1_e (here_eq hB (by omega)), e', if_pos rfl]; rfl
  | succ n ih =>
    intro h f hh hf hn e
    obtain ⟨f, rfl⟩ : ∃ m, f = m + 1 := ⟨f - 1, by omega⟩
    have e' : ¬ B.1 244 (800 * q + h) = 123 := (hn h (Nat.le_refl _) (by omega)).1
    rw [L_X11_runRules_63, bnd1_e (here_eq hB (by omega)), if_neg e', mst_inc, show h + (n + 1) = h + 1 + n by omega]
    exact ih (h + 1) f (by omega) (by omega) (fun i p q => hn i (by omega) (by omega)) (by rw [show h + 1 + n = h + (n + 1) by omega]; exact e)
theorem skip125 {B : Mem} {q r mA c : Nat} {w1 : Int32} (hB : MB B q r) : ∀ (n h f : Nat), h + n < 800 → n < f → NB (wF B q) h (h + n) → wF B q (h + n) = 125 → L_X11_runRules_127 mA w1 f (mst B h c) = some (mst B (h + n) c) := by
  intro n
  induction n with
  | zero =>
    intro h f hh hf _ e
    obtain ⟨f, rfl⟩ : ∃ m, f = m + 1 := ⟨f - 1, by omega⟩
    have e' : B.1 244 (800 * q + h) = 125 := e
    rw [L_X11_runRules_127, bnd1_e (here_eq hB (by omega)), e', if_pos rfl]; rfl
  | succ n ih =>
    intro h f hh hf hn e
    obtain ⟨f, rfl⟩ : ∃ m, f = m + 1 := ⟨f - 1, by omega⟩
    have e' : ¬ B.1 244 (800 * q + h) = 125 := (hn h (Nat.le_refl _) (by omega)).2
    rw [L_X11_runRules_127, bnd1_e (here_eq hB (by omega)), if_neg e', mst_inc, show h + (n + 1) = h + 1 + n by omega]
    exact ih (h + 1) f (by omega) (by omega) (fun i p q => hn i (by omega) (by omega)) (by rw [show h + 1 + n = h + (n + 1) by omega]; exact e)
