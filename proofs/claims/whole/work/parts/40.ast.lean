/-! ===== programs as lists, and what a run of one does ===== -/
/-- a term: how it is joined (32 +, 33 -, 34 *), its sign, its source (0 a number, 1 own, 2 sensed), its value -/
abbrev Tm : Type := Int32 × Int32 × Int32 × Int32
abbrev Sm : Type := List Tm
/-- a test: its sign (29 <, 30 =, 31 >), left, right -/
abbrev Ts : Type := Int32 × Sm × Sm
/-- an act: its kind, its target, its sums -/
abbrev Ac : Type := Int32 × Int32 × List Sm
abbrev Rl : Type := List Ts × List Ac
abbrev Pg : Type := List (List Rl)
/-- an array read as the class reads it -/
def rdA (f : Nat → Int32) (n : Nat) (i : Int32) : Int32 := if i < 0 then 0 else if nI n ≤ i then 0 else f i.toNatClampNeg
def valT (own sen : Nat → Int32) (t : Tm) : Int32 := (if t.2.2.1 = 1 then rdA own 4 t.2.2.2 else if t.2.2.1 = 2 then rdA sen 28 t.2.2.2 else t.2.2.2) * t.2.1
def vs (own sen : Nat → Int32) : Sm → Int32 → Int32 → Int32 × Int32
  | [], u, w => (u, w)
  | t :: ts, u, w => if t.1 = 34 then vs own sen ts u (w * valT own sen t) else vs own sen ts (u + w) (if t.1 = 33 then -(valT own sen t) else valT own sen t)
def valS (own sen : Nat → Int32) (s : Sm) : Int32 := (vs own sen s 0 0).1 + (vs own sen s 0 0).2
def cmpT (sg x y : Int32) : Bool := if sg = 29 then decide (x < y) else if sg = 31 then decide (y < x) else decide (x = y)
def evTests (own sen : Nat → Int32) : List Ts → Nat → Bool × Nat
  | [], c => (true, c)
  | t :: ts, c => if 80 < c + 1 + t.2.1.length + t.2.2.length then (false, c + 1 + t.2.1.length + t.2.2.length) else if cmpT t.1 (valS own sen t.2.1) (valS own sen t.2.2) = true then evTests own sen ts (c + 1 + t.2.1.length + t.2.2.length) else (false, c + 1 + t.2.1.length + t.2.2.length)
/-- steps, own numbers, the state from the next tick on -/
abbrev XS : Type := Nat × (Nat → Int32) × Int32
/-- a command: kind, way, power -/
abbrev XR : Type := Option (Int32 × Int32 × Int32 × Int32)
def uO (f : Nat → Int32) (i v : Int32) : Nat → Int32 := fun k => if k = i.toNatClampNeg then v else f k
def sm0 (a : Ac) (k : Nat) : Sm := a.2.2.getD k []
def evActs (sen : Nat → Int32) (mx my : Int32) : List Ac → XS → XR × XS
  | [], s => (none, s)
  | a :: as, s =>
    if a.1 = 3 then (if 80 < s.1 + 1 then (none, (s.1 + 1, s.2)) else evActs sen mx my as (s.1 + 1, s.2.1, a.2.1))
    else if a.1 = 4 then (if 80 < s.1 + 1 + (sm0 a 0).length then (none, (s.1 + 1 + (sm0 a 0).length, s.2)) else evActs sen mx my as (s.1 + 1 + (sm0 a 0).length, uO s.2.1 a.2.1 (valS s.2.1 sen (sm0 a 0)), s.2.2))
    else if a.1 = 8 then (some (0, 0, 0, 0), (s.1 + 1, s.2))
    else if a.1 = 7 then (some (2, valS s.2.1 sen (sm0 a 0), valS s.2.1 sen (sm0 a 1), valS s.2.1 sen (sm0 a 2)), (s.1 + 1 + (sm0 a 0).length + (sm0 a 1).length + (sm0 a 2).length, s.2))
    else if a.1 = 6 then (some (1, valS s.2.1 sen (sm0 a 0) - mx, valS s.2.1 sen (sm0 a 1) - my, 1), (s.1 + 1 + (sm0 a 0).length + (sm0 a 1).length, s.2))
    else (some (1, valS s.2.1 sen (sm0 a 0), valS s.2.1 sen (sm0 a 1), 1), (s.1 + 1 + (sm0 a 0).length + (sm0 a 1).length, s.2))
def evRules (sen : Nat → Int32) (mx my : Int32) : List Rl → XS → XR × XS
  | [], s => (none, s)
  | rl :: rs, s =>
    if 80 < (evTests s.2.1 sen rl.1 s.1).2 then (none, ((evTests s.2.1 sen rl.1 s.1).2, s.2))
    else if (evTests s.2.1 sen rl.1 s.1).1 = true then
      (if 80 < (evActs sen mx my rl.2 ((evTests s.2.1 sen rl.1 s.1).2, s.2)).2.1 then (none, (evActs sen mx my rl.2 ((evTests s.2.1 sen rl.1 s.1).2, s.2)).2)
       else match (evActs sen mx my rl.2 ((evTests s.2.1 sen rl.1 s.1).2, s.2)).1 with
        | some x => (some x, (evActs sen mx my rl.2 ((evTests s.2.1 sen rl.1 s.1).2, s.2)).2)
        | none => evRules sen mx my rs (evActs sen mx my rl.2 ((evTests s.2.1 sen rl.1 s.1).2, s.2)).2)
    else evRules sen mx my rs ((evTests s.2.1 sen rl.1 s.1).2, s.2)
/-! the class's rows hold a program -/
def TmC (A : Mem) (p i : Nat) (t : Tm) : Prop := A.1 (p + 11) i = t.1 ∧ A.1 (p + 12) i = t.2.1 ∧ A.1 (p + 13) i = t.2.2.1 ∧ A.1 (p + 14) i = t.2.2.2
def SmC (A : Mem) (p s : Nat) (sm : Sm) : Prop := s < 400 ∧ ∃ i0, A.1 (p + 10) s = nI i0 ∧ A.1 (p + 10) (s + 1) = nI (i0 + sm.length) ∧ i0 + sm.length ≤ 400 ∧ ∀ j t, sm[j]? = some t → TmC A p (i0 + j) t
def TsC (A : Mem) (p i : Nat) (ts : Ts) : Prop := A.1 (p + 5) i = ts.1 ∧ ∃ s, A.1 (p + 6) i = nI s ∧ SmC A p s ts.2.1 ∧ SmC A p (s + 1) ts.2.2
def AcC (A : Mem) (p i : Nat) (ac : Ac) : Prop := A.1 (p + 7) i = ac.1 ∧ (A.2 (p + 8) i).toInt32 = ac.2.1 ∧ ∃ s, A.1 (p + 9) i = nI s ∧ ∀ j sm, ac.2.2[j]? = some sm → SmC A p (s + j) sm
def RlC (A : Mem) (p r : Nat) (rl : Rl) : Prop := (∃ i, A.1 (p + 3) r = nI i ∧ A.1 (p + 3) (r + 1) = nI (i + rl.1.length) ∧ i + rl.1.length ≤ 400 ∧ ∀ j ts, rl.1[j]? = some ts → TsC A p (i + j) ts) ∧ (∃ i, A.1 (p + 4) r = nI i ∧ A.1 (p + 4) (r + 1) = nI (i + rl.2.length) ∧ i + rl.2.length ≤ 400 ∧ ∀ j ac, rl.2[j]? = some ac → AcC A p (i + j) ac)
def StC (A : Mem) (p s : Nat) (rs : List Rl) : Prop := ∃ r0, A.1 (p + 2) s = nI r0 ∧ A.1 (p + 2) (s + 1) = nI (r0 + rs.length) ∧ r0 + rs.length ≤ 96 ∧ ∀ j rl, rs[j]? = some rl → RlC A p (r0 + j) rl
def PgC (A : Mem) (p : Nat) (pg : Pg) : Prop := A.1 p 0 = nI pg.length ∧ pg.length ≤ 8 ∧ ∀ s rs, pg[s]? = some rs → StC A p s rs
/-- acts have as many sums as their kinds ask for -/
def AcW (a : Ac) : Prop := (a.1 = 3 ∧ a.2.2 = []) ∨ (a.1 = 4 ∧ a.2.2.length = 1 ∧ ∃ k : Nat, k < 4 ∧ a.2.1 = nI k) ∨ (a.1 = 5 ∧ a.2.2.length = 2) ∨ (a.1 = 6 ∧ a.2.2.length = 2) ∨ (a.1 = 7 ∧ a.2.2.length = 3) ∨ (a.1 = 8 ∧ a.2.2 = [])
/-! what of the class's memory a program's rows are in -/
theorem SmC.cg {A A' : Mem} {p s : Nat} {sm : Sm} (h : SmC A p s sm) (hA : ∀ c, p < c → c < p + 15 → A'.1 c = A.1 c) : SmC A' p s sm := by
  obtain ⟨h0, i0, h1, h2, h3, h4⟩ := h
  refine ⟨h0, i0, by rw [hA _ (by omega) (by omega)]; exact h1, by rw [hA _ (by omega) (by omega)]; exact h2, h3, fun j t e => ?_⟩
  have := h4 j t e
  unfold TmC at this ⊢
  rw [hA _ (by omega) (by omega), hA _ (by omega) (by omega), hA _ (by omega) (by omega), hA _ (by omega) (by omega)]; exact this
theorem TsC.cg {A A' : Mem} {p i : Nat} {ts : Ts} (h : TsC A p i ts) (hA : ∀ c, p < c → c < p + 15 → A'.1 c = A.1 c) : TsC A' p i ts := by
  obtain ⟨h1, s, h2, h3, h4⟩ := h
  exact ⟨by rw [hA _ (by omega) (by omega)]; exact h1, s, by rw [hA _ (by omega) (by omega)]; exact h2, h3.cg hA, h4.cg hA⟩
theorem AcC.cg {A A' : Mem} {p i : Nat} {ac : Ac} (h : AcC A p i ac) (hA : ∀ c, p < c → c < p + 15 → A'.1 c = A.1 c) (h2 : A'.2 = A.2) : AcC A' p i ac := by
  obtain ⟨h1, h3, s, h4, h5⟩ := h
  exact ⟨by rw [hA _ (by omega) (by omega)]; exact h1, by rw [h2]; exact h3, s, by rw [hA _ (by omega) (by omega)]; exact h4, fun j sm e => (h5 j sm e).cg hA⟩
theorem RlC.cg {A A' : Mem} {p r : Nat} {rl : Rl} (h : RlC A p r rl) (hA : ∀ c, p < c → c < p + 15 → A'.1 c = A.1 c) (h2 : A'.2 = A.2) : RlC A' p r rl := by
  obtain ⟨⟨i, a1, a2, a3, a4⟩, k, b1, b2, b3, b4⟩ := h
  refine ⟨⟨i, ?_, ?_, a3, fun j ts e => (a4 j ts e).cg hA⟩, k, ?_, ?_, b3, fun j ac e => (b4 j ac e).cg hA h2⟩ <;> (rw [hA _ (by omega) (by omega)]; assumption)
theorem StC.cg {A A' : Mem} {p s : Nat} {rs : List Rl} (h : StC A p s rs) (hA : ∀ c, p < c → c < p + 15 → A'.1 c = A.1 c) (h2 : A'.2 = A.2) : StC A' p s rs := by
  obtain ⟨r0, a1, a2, a3, a4⟩ := h
  refine ⟨r0, ?_, ?_, a3, fun j rl e => (a4 j rl e).cg hA h2⟩ <;> (rw [hA _ (by omega) (by omega)]; assumption)
theorem PgC.cg {A A' : Mem} {p : Nat} {pg : Pg} (h : PgC A p pg) (hA : ∀ c, p ≤ c → c < p + 15 → A'.1 c = A.1 c) (h2 : A'.2 = A.2) : PgC A' p pg := by
  obtain ⟨a1, a2, a3⟩ := h
  exact ⟨by rw [hA _ (by omega) (by omega)]; exact a1, a2, fun s rs e => (a3 s rs e).cg (fun c h1 h2 => hA c (by omega) h2) h2⟩
/-! the class works out a sum -/
def cap (c : Nat) : Nat := if c ≤ 80 then c else 81
theorem at_rdA {x n : Nat} {i : Int32} {M : Mem} : V_X10_at x i n M = rdA (M.1 x) n i := by
  unfold V_X10_at rdA; rfl
theorem cap_le {c : Nat} : cap c ≤ 81 := by unfold cap; split <;> omega
theorem work_loop {a p s : Nat} {x2 : Int32} {x3 : Nat} {M0 : Mem} {own sen : Nat → Int32} (ha : p + 15 ≤ a) (h3 : x3 ≠ a) (hown : M0.1 x3 = own) (hsen : M0.1 (a + 1) = sen) (e : Nat) (he : e ≤ 400) : ∀ (sm : Sm) (i c f : Nat) (u w : Int32), i + sm.length = e → sm.length < f → (∀ j t, sm[j]? = some t → TmC M0 p (i + j) t) → ∃ u' w', L_X6_work_28 a p x2 x3 4 (nI e) f u w (nI i) (setI M0 a 1 (nI (cap c))) = some (u', w', setI M0 a 1 (nI (cap (c + sm.length)))) ∧ (c + sm.length ≤ 80 → (u', w') = vs own sen sm u w) := by
  intro sm
  induction sm with
  | nil =>
    intro i c f u w hi hf _
    obtain ⟨f, rfl⟩ : ∃ m, f = m + 1 := ⟨f - 1, by omega⟩
    refine ⟨u, w, ?_, fun _ => rfl⟩
    rw [L_X6_work_28, if_pos (nI_le (by simp at hi; omega) (by omega))]
    rfl
  | cons t ts ih =>
    intro i c f u w hi hf hT
    obtain ⟨f, rfl⟩ : ∃ m, f = m + 1 := ⟨f - 1, by omega⟩
    simp only [List.length_cons] at hi hf ⊢
    rw [L_X6_work_28, if_neg (nI_ge (by omega) (by omega)), gs_eI]
    by_cases c80 : c ≤ 80
    · have e1 : cap c = c := by unfold cap; rw [if_pos c80]
      rw [e1, if_neg (show ¬ (80 : Int32) < nI c from nI_nlt (b := c) (a := 80) c80 (by decide)), nI_1]
      have e2 : setI (setI M0 a 1 (nI c)) a 1 (nI (c + 1)) = setI M0 a 1 (nI (cap (c + 1))) := by
        have : cap (c + 1) = c + 1 := by unfold cap; split <;> omega
        rw [this]
        refine Prod.ext ?_ rfl
        funext x j
        unfold setI; dsimp only
        by_cases q : x = a ∧ j = 1
        · rw [if_pos q, if_pos q]
        · rw [if_neg q, if_neg q, if_neg q]
      rw [e2]
      have hT0 := hT 0 t rfl
      rw [Nat.add_zero] at hT0
      obtain ⟨t1, t2, t3, t4⟩ := hT0
      have rd : ∀ k, k < 15 → ∀ j, j < 400 → V_X10_at (p + k) (nI j) 400 (setI M0 a 1 (nI (cap (c + 1)))) = M0.1 (p + k) j := fun k hk j hj => by
        rw [at_eq rfl hj (by decide), gI (Or.inl (by omega))]
      have hi400 : i < 400 := by omega
      rw [rd 13 (by decide) i hi400, rd 14 (by decide) i hi400, rd 12 (by decide) i hi400, rd 11 (by decide) i hi400, t1, t2, t3, t4, nI_1]
      simp only [bd1_s]
      rw [at_rdA, at_rdA, fI h3, hown, fI (by omega), hsen]
      have hv : (if t.2.2.1 = (1 : Int32) then rdA own 4 t.2.2.2 else (if t.2.2.1 = (2 : Int32) then rdA sen 28 t.2.2.2 else t.2.2.2)) * t.2.1 = valT own sen t := rfl
      rw [hv]
      have hT' : ∀ j t', ts[j]? = some t' → TmC M0 p (i + 1 + j) t' := fun j t' e => by
        have := hT (j + 1) t' e
        rw [show i + 1 + j = i + (j + 1) by omega]; exact this
      by_cases c34 : t.1 = 34
      · rw [if_pos c34, bd2_s]
        obtain ⟨u', w', g1, g2⟩ := ih (i + 1) (c + 1) f u (w * valT own sen t) (by omega) (by omega) hT'
        refine ⟨u', w', ?_, fun hc => ?_⟩
        · rw [show c + (ts.length + 1) = c + 1 + ts.length by omega]; exact g1
        · rw [vs, if_pos c34]; exact g2 (by omega)
      · rw [if_neg c34, bd2_s]
        obtain ⟨u', w', g1, g2⟩ := ih (i + 1) (c + 1) f (u + w) (if t.1 = 33 then -(valT own sen t) else valT own sen t) (by omega) (by omega) hT'
        refine ⟨u', w', ?_, fun hc => ?_⟩
        · rw [show c + (ts.length + 1) = c + 1 + ts.length by omega]; exact g1
        · rw [vs, if_neg c34]; exact g2 (by omega)
    · have e1 : cap c = 81 := by unfold cap; rw [if_neg c80]
      have e2 : cap (c + (ts.length + 1)) = 81 := by unfold cap; rw [if_neg (by omega)]
      rw [e1, e2, if_pos (show (80 : Int32) < nI 81 by decide)]
      exact ⟨u, w, rfl, fun hc => by omega⟩
theorem work_C {a p s x3 c : Nat} {sm : Sm} {M : Mem} (ha : p + 15 ≤ a) (h3 : x3 ≠ a) (hc : M.1 a 1 = nI (cap c)) (hS : SmC M p s sm) : ∃ v, R_X6_work a p (nI s) x3 4 M = some (v, setI M a 1 (nI (cap (c + sm.length)))) ∧ (c + sm.length ≤ 80 → v = valS (M.1 x3) (M.1 (a + 1)) sm) := by
  obtain ⟨h0, i0, h1, h2, h4, h5⟩ := hS
  unfold R_X6_work
  rw [nI_1, at_eq (x := p + 10) (k := s + 1) rfl (by omega) (by decide), at_eq (x := p + 10) (k := s) rfl (by omega) (by decide), h1, h2, bd1_s, bd1_s]
  obtain ⟨u', w', g1, g2⟩ := work_loop (a := a) (p := p) (s := s) (x2 := nI s) (x3 := x3) (M0 := M) ha h3 rfl rfl (i0 + sm.length) h4 sm i0 c FUEL 0 0 rfl (by unfold FUEL; omega) h5
  rw [setI_self hc] at g1
  rw [g1]
  refine ⟨u' + w', rfl, fun hc => ?_⟩
  have := g2 hc
  unfold valS
  rw [← this]
