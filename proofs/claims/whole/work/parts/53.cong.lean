/-! ===== what a run depends on ===== -/
def OE (f g : Nat → Int32) : Prop := ∀ k, k < 4 → f k = g k
def SE (f g : Nat → Int32) : Prop := ∀ k, k < 28 → f k = g k
theorem rdA_cg {f g : Nat → Int32} {n : Nat} {i : Int32} (hn : n < 2 ^ 31) (h : ∀ k, k < n → f k = g k) : rdA f n i = rdA g n i := by
  rcases pk_ix i hn with q | q | ⟨j, hj, rfl⟩
  · unfold rdA; rw [if_pos q, if_pos q]
  · unfold rdA; rw [if_pos q, if_pos q]
  · rw [rdA_nI hj hn, rdA_nI hj hn, h j hj]
theorem valT_cg {f g s s' : Nat → Int32} {t : Tm} (hf : OE f g) (hs : SE s s') : valT f s t = valT g s' t := by
  unfold valT
  rw [rdA_cg (by decide) hf, rdA_cg (by decide) hs]
theorem vs_cg {f g s s' : Nat → Int32} (hf : OE f g) (hs : SE s s') : ∀ (ts : Sm) (u w : Int32), vs f s ts u w = vs g s' ts u w := by
  intro ts
  induction ts with
  | nil => intro u w; rfl
  | cons t ts ih => intro u w; unfold vs; rw [valT_cg hf hs, ih, ih]
theorem valS_cg {f g s s' : Nat → Int32} {sm : Sm} (hf : OE f g) (hs : SE s s') : valS f s sm = valS g s' sm := by
  unfold valS; rw [vs_cg hf hs]
theorem evTests_cg {f g s s' : Nat → Int32} (hf : OE f g) (hs : SE s s') : ∀ (ts : List Ts) (c : Nat), evTests f s ts c = evTests g s' ts c := by
  intro ts
  induction ts with
  | nil => intro c; rfl
  | cons t ts ih => intro c; unfold evTests; rw [valS_cg hf hs, valS_cg hf hs, ih]
theorem uO_cg {f g : Nat → Int32} {i v : Int32} (h : OE f g) : OE (uO f i v) (uO g i v) := by
  intro k hk
  unfold uO
  split
  · rfl
  · exact h k hk
def RE (x y : XR × XS) : Prop := x.1 = y.1 ∧ x.2.1 = y.2.1 ∧ OE x.2.2.1 y.2.2.1 ∧ x.2.2.2 = y.2.2.2
theorem evActs_cg {s s' : Nat → Int32} {mx my : Int32} (hs : SE s s') : ∀ (as : List Ac) (c : Nat) (f g : Nat → Int32) (nx : Int32), OE f g → RE (evActs s mx my as (c, f, nx)) (evActs s' mx my as (c, g, nx)) := by
  intro as
  induction as with
  | nil => intro c f g nx h; exact ⟨rfl, rfl, h, rfl⟩
  | cons a as ih =>
    intro c f g nx h
    unfold evActs
    dsimp only
    rw [valS_cg h hs, valS_cg h hs, valS_cg h hs]
    split
    · split
      · exact ⟨rfl, rfl, h, rfl⟩
      · exact ih _ _ _ _ h
    · split
      · split
        · exact ⟨rfl, rfl, h, rfl⟩
        · exact ih _ _ _ _ (uO_cg h)
      · split
        · exact ⟨rfl, rfl, h, rfl⟩
        · split
          · exact ⟨rfl, rfl, h, rfl⟩
          · split
            · exact ⟨rfl, rfl, h, rfl⟩
            · exact ⟨rfl, rfl, h, rfl⟩
theorem evRules_cg {s s' : Nat → Int32} {mx my : Int32} (hs : SE s s') : ∀ (rs : List Rl) (c : Nat) (f g : Nat → Int32) (nx : Int32), OE f g → RE (evRules s mx my rs (c, f, nx)) (evRules s' mx my rs (c, g, nx)) := by
  intro rs
  induction rs with
  | nil => intro c f g nx h; exact ⟨rfl, rfl, h, rfl⟩
  | cons rl rs ih =>
    intro c f g nx h
    unfold evRules
    dsimp only
    rw [evTests_cg h hs]
    generalize evTests g s' rl.1 c = tc
    obtain ⟨tb, c1⟩ := tc
    dsimp only
    have ha := evActs_cg (mx := mx) (my := my) hs rl.2 c1 f g nx h
    generalize evActs s mx my rl.2 (c1, f, nx) = x at ha
    generalize evActs s' mx my rl.2 (c1, g, nx) = y at ha
    obtain ⟨xr, xc, xf, xn⟩ := x
    obtain ⟨yr, yc, yf, yn⟩ := y
    obtain ⟨e1, e2, e3, e4⟩ := ha
    dsimp only at e1 e2 e3 e4
    subst e1 e2 e4
    by_cases k1 : 80 < c1
    · rw [if_pos k1, if_pos k1]; exact ⟨rfl, rfl, h, rfl⟩
    · rw [if_neg k1, if_neg k1]
      by_cases k2 : tb = true
      · rw [if_pos k2, if_pos k2]
        dsimp only
        by_cases k3 : 80 < xc
        · rw [if_pos k3, if_pos k3]; exact ⟨rfl, rfl, e3, rfl⟩
        · rw [if_neg k3, if_neg k3]
          cases xr with
          | some z => exact ⟨rfl, rfl, e3, rfl⟩
          | none => exact ih _ _ _ _ e3
      · rw [if_neg k2, if_neg k2]
        exact ih _ _ _ _ h
/-! the state that a run names is there -/
def VN (n : Nat) (x : Int32) : Prop := ∃ k : Nat, k < n ∧ x = nI k
theorem evActs_nx {s : Nat → Int32} {mx my : Int32} {n : Nat} : ∀ (as : List Ac) (x : XS), (∀ ac ∈ as, ac.1 = 3 → VN n ac.2.1) → VN n x.2.2 → VN n (evActs s mx my as x).2.2.2 := by
  intro as
  induction as with
  | nil => intro x _ h; exact h
  | cons a as ih =>
    intro x ha h
    have ha' : ∀ ac ∈ as, ac.1 = 3 → VN n ac.2.1 := fun ac hm => ha ac (List.mem_cons_of_mem _ hm)
    unfold evActs
    split
    · rename_i e
      split
      · exact h
      · exact ih _ ha' (ha a List.mem_cons_self e)
    · split
      · split
        · exact h
        · exact ih _ ha' h
      · split
        · exact h
        · split
          · exact h
          · split
            · exact h
            · exact h
theorem evRules_nx {s : Nat → Int32} {mx my : Int32} {n : Nat} : ∀ (rs : List Rl) (x : XS), (∀ rl ∈ rs, ∀ ac ∈ rl.2, ac.1 = 3 → VN n ac.2.1) → VN n x.2.2 → VN n (evRules s mx my rs x).2.2.2 := by
  intro rs
  induction rs with
  | nil => intro x _ h; exact h
  | cons rl rs ih =>
    intro x ha h
    have ha' : ∀ rl ∈ rs, ∀ ac ∈ rl.2, ac.1 = 3 → VN n ac.2.1 := fun r hm => ha r (List.mem_cons_of_mem _ hm)
    have hact := evActs_nx (s := s) (mx := mx) (my := my) rl.2 ((evTests x.2.1 s rl.1 x.1).2, x.2) (ha rl List.mem_cons_self) h
    unfold evRules
    split
    · exact h
    · split
      · split
        · exact hact
        · split
          · exact hact
          · exact ih _ ha' hact
      · exact ih _ ha' h
/-! a program on both sides -/
def PgW (pg : Pg) : Prop := ∀ rs ∈ pg, ∀ rl ∈ rs, ∀ ac ∈ rl.2, ac.1 = 3 → VN pg.length ac.2.1
def PgM (B : Mem) (q : Nat) (pg : Pg) : Prop := B.1 246 q = nI pg.length ∧ ∀ s rs, pg[s]? = some rs → ∃ h h' : Nat, B.1 247 (8 * q + s) = nI h ∧ RulesM (wF B q) (vF B q) rs h h' ∧ h' < 800
/-- program q is one of those that were read -/
def QL (A : Mem) (q : Nat) : Prop := ∃ n : Nat, A.1 0 10 = nI n ∧ q < n ∧ n ≤ 6
def PRel (A B : Mem) (q : Nat) (pg : Pg) : Prop := PgC A (16 + 15 * q) pg ∧ PgM B q pg ∧ 0 < pg.length ∧ PgW pg ∧ QL A q
def SVp (A B : Mem) (q s : Nat) : Prop := ∃ pg, PRel A B q pg ∧ s < pg.length
theorem ActsM.w {W V : Nat → Int32} : ∀ (as : List Ac) (h h' : Nat), ActsM W V as h h' → ∀ ac ∈ as, AcW ac := by
  intro as
  induction as with
  | nil => intro h h' _ ac hm; cases hm
  | cons t ts ih =>
    intro h h' H ac hm
    obtain ⟨h1, H1, H2⟩ := H
    rcases List.mem_cons.mp hm with e | e
    · rw [e]; exact H1.w
    · exact ih _ _ H2 ac e
theorem RulesM.w {W V : Nat → Int32} : ∀ (rs : List Rl) (h h' : Nat), RulesM W V rs h h' → ∀ rl ∈ rs, ∀ ac ∈ rl.2, AcW ac := by
  intro rs
  induction rs with
  | nil => intro h h' _ rl hm; cases hm
  | cons t ts ih =>
    intro h h' H rl hm
    obtain ⟨h1, h2, H1, H2, H3⟩ := H
    rcases List.mem_cons.mp hm with e | e
    · rw [e]; exact ActsM.w _ _ _ H2
    · exact ih _ _ H3 rl e
/-! robot r has changed, and what it told -/
theorem robot_TK {b mA t r : Nat} {SV : Nat → Nat → Prop} {A0 B0 A B A' B' : Mem} (hm : mA = 259 ∨ mA = 260) (hr : r < 10) (hK : TK b mA t SV A0 B0 A B)
    (a2 : A'.2 = A.2) (aD : ∀ d, d ≠ b + 1 → d ≠ b + 2 → d ≠ b + 10 + 2 * r → d ≠ b + 10 + 2 * r + 1 → d ≠ b + 7 → A'.1 d = A.1 d) (aR : ∀ j, j < 14 → j ≠ 7 → j ≠ 8 → A'.1 (b + 10 + 2 * r) j = A.1 (b + 10 + 2 * r) j) (aT : ∀ j, j ≠ 3 → A'.1 (b + 7) j = A.1 (b + 7) j)
    (b2 : B'.2 = B.2) (bD : ∀ d, d ≠ mA → d ≠ 242 → d ≠ 262 → d ≠ 263 → d ≠ 264 → B'.1 d = B.1 d) (bS : ∀ j, ¬ (33 ≤ j ∧ j ≤ 37) → j ≠ 41 → B'.1 242 j = B.1 242 j) (bR : ∀ k, k ≠ 11 → k ≠ 44 + 16 * r + 2 → k ≠ 44 + 16 * r + 3 → ¬ (44 + 16 * r + 4 ≤ k ∧ k < 44 + 16 * r + 8) → k ≠ 44 + 16 * r + 10 → B'.1 mA k = B.1 mA k)
    (e7 : A'.1 (b + 10 + 2 * r) 7 = B'.1 mA (44 + 16 * r + 2)) (e8 : A'.1 (b + 10 + 2 * r) 8 = B'.1 mA (44 + 16 * r + 3)) (eo : ∀ i, i < 4 → A'.1 (b + 10 + 2 * r + 1) i = B'.1 mA (44 + 16 * r + 4 + i)) (e14 : A'.1 (b + 10 + 2 * r) 14 = B'.1 mA (44 + 16 * r + 10)) (e3 : A'.1 (b + 7) 3 = B'.1 mA 11) (hPS : PSI SV (B'.1 mA (44 + 16 * r + 11)) (B'.1 mA (44 + 16 * r + 2))) (hSt : B'.1 mA (44 + 16 * r + 3) = 0 ∨ B'.1 mA (44 + 16 * r + 3) = 1) : TK b mA t SV A0 B0 A' B' := by
  obtain ⟨h1, h2, h3, h4, h5, h6, h7, h8⟩ := hK
  have dA : ∀ d, d ≠ b + 1 → d ≠ b + 2 → d ≠ b + 10 + 2 * r → d ≠ b + 10 + 2 * r + 1 → d ≠ b + 7 → ∀ j, A'.1 d j = A.1 d j := fun d p1 p2 p3 p4 p5 j => by rw [aD d p1 p2 p3 p4 p5]
  refine ⟨⟨a2.trans h1.1, fun c hc => (aD c (by omega) (by omega) (by omega) (by omega) (by omega)).trans (h1.2 c hc)⟩, ⟨b2.trans h2.1, fun c p1 p2 p3 p4 p5 => (bD c p1 p2 p3 p4 p5).trans (h2.2.1 c p1 p2 p3 p4 p5), fun j hj => (bS j (fun q => hj (scr_of (by omega))) (fun q => hj (scr_of (by omega)))).trans (h2.2.2 j hj)⟩, (bS 30 (by omega) (by omega)).trans h3, h4.cg (fun j => dA b (by omega) (by omega) (by omega) (by omega) (by omega) j) (fun k hk => bR k (by omega) (by omega) (by omega) (by omega) (by omega)), ?_, h6.cg (fun j => dA (b + 4) (by omega) (by omega) (by omega) (by omega) (by omega) j) (fun k p1 p2 => bR k (by omega) (by omega) (by omega) (by omega) (by omega)) (fun s hs _ => ⟨bR _ (by omega) (by omega) (by omega) (by omega) (by omega), bR _ (by omega) (by omega) (by omega) (by omega) (by omega)⟩), fun s hs => ?_, h8.cg (fun c j hc => dA c (by omega) (by omega) (by omega) (by omega) (by omega) j) (fun k hk => bR k (by omega) (by omega) (by omega) (by omega) (by omega))⟩
  · obtain ⟨g0, g1, q1, q2, q3, q4, q5, q6, q7, q8, q9, q10⟩ := h5
    have m20 : mn20 (g0 + g1) ≤ 20 := by unfold mn20; split <;> omega
    have rB : ∀ k, (4 ≤ k ∧ k < 13 ∧ k ≠ 11) ∨ (24 ≤ k ∧ k < 44) → B'.1 mA k = B.1 mA k := fun k hk => bR k (by omega) (by omega) (by omega) (by omega) (by omega)
    refine ⟨g0, g1, q1, ?_, ?_, ?_, ?_, ?_, e3, fun i hi => ?_, ?_, fun i hi => ?_⟩
    · rw [aT 0 (by decide)]; exact q2
    · rw [rB 4 (by decide)]; exact q3
    · rw [aT 1 (by decide)]; exact q4
    · rw [rB 5 (by decide)]; exact q5
    · rw [aT 2 (by decide), rB 10 (by decide)]; exact q6
    · rw [dA (b + 8) (by omega) (by omega) (by omega) (by omega) (by omega), rB _ (by omega)]; exact q8 i hi
    · rw [rB 12 (by decide)]; exact q9
    · rw [dA (b + 9) (by omega) (by omega) (by omega) (by omega) (by omega), rB _ (by omega)]; exact q10 i hi
  · by_cases e : s = r
    · subst e
      obtain ⟨p1, p2, p3, p4, p5, p6, p7⟩ := h7 s hs
      have rB : ∀ k, k < 16 → k ≠ 2 → k ≠ 3 → ¬ (4 ≤ k ∧ k < 8) → k ≠ 10 → B'.1 mA (44 + 16 * s + k) = B.1 mA (44 + 16 * s + k) := fun k c1 c2 c3 c4 c5 => bR _ (by omega) (by omega) (by omega) (by omega) (by omega)
      refine ⟨p1.cg (fun j hj => aR j (by omega) (by omega) (by omega)) (fun k hk => rB k (by omega) (by omega) (by omega) (by omega) (by omega)), p2.cg (fun k hk => rB k (by omega) (by omega) (by omega) (by omega) (by omega)), ⟨e7, e8, eo, ?_, ?_, ?_, ?_, ?_⟩, ⟨hPS, hSt, ?_, ?_, ?_⟩, p5.cg (fun j hj => aR j (by omega) (by omega) (by omega)) (fun k hk => rB k (by omega) (by omega) (by omega) (by omega) (by omega)), e14, p7.cg (fun j hj => aR j (by omega) (by omega) (by omega))⟩
      · rw [aR 6 (by decide) (by decide) (by decide), rB 11 (by decide) (by decide) (by decide) (by decide) (by decide)]; exact p3.2.2.2.1
      · rw [aR 4 (by decide) (by decide) (by decide), rB 12 (by decide) (by decide) (by decide) (by decide) (by decide)]; exact p3.2.2.2.2.1
      · rw [aR 5 (by decide) (by decide) (by decide), rB 13 (by decide) (by decide) (by decide) (by decide) (by decide)]; exact p3.2.2.2.2.2.1
      · rw [aR 12 (by decide) (by decide) (by decide), rB 14 (by decide) (by decide) (by decide) (by decide) (by decide)]; exact p3.2.2.2.2.2.2.1
      · rw [aR 13 (by decide) (by decide) (by decide), rB 15 (by decide) (by decide) (by decide) (by decide) (by decide)]; exact p3.2.2.2.2.2.2.2
      · rw [rB 12 (by decide) (by decide) (by decide) (by decide) (by decide), rB 13 (by decide) (by decide) (by decide) (by decide) (by decide)]; exact p4.2.2.1
      · rw [rB 14 (by decide) (by decide) (by decide) (by decide) (by decide)]; exact p4.2.2.2.1
      · rw [rB 15 (by decide) (by decide) (by decide) (by decide) (by decide)]; exact p4.2.2.2.2
    · exact (h7 s hs).cg (fun j _ => dA _ (by omega) (by omega) (by omega) (by omega) (by omega) j) (fun i _ => dA _ (by omega) (by omega) (by omega) (by omega) (by omega) i) (fun k _ => bR _ (by omega) (by omega) (by omega) (by omega) (by omega))
