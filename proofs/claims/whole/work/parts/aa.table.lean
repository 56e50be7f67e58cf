/-! ===== the league's table, shown ===== -/
section TBL
variable {K : Nat} {A B : Mem}
theorem t2 {a b : Nat} (ha : a ≤ 1000) (hb : b ≤ 1000) : (nI a - nI b).toInt = (a : Int) - b := pk_sub_toInt (by omega) (by omega)
theorem tsub {x y : Int32} (h1 : -1000000 ≤ x.toInt ∧ x.toInt ≤ 1000000) (h2 : -1000000 ≤ y.toInt ∧ y.toInt ≤ 1000000) : (x - y).toInt = x.toInt - y.toInt := by
  rw [Int32.toInt_sub]
  exact Int.bmod_eq_of_le (by omega) (by omega)
theorem tadd {x y : Int32} (h1 : -1000000 ≤ x.toInt ∧ x.toInt ≤ 1000000) (h2 : -1000000 ≤ y.toInt ∧ y.toInt ≤ 1000000) : (x + y).toInt = x.toInt + y.toInt := by
  rw [Int32.toInt_add]
  exact Int.bmod_eq_of_le (by omega) (by omega)
theorem z_eq {x : Int32} : x = 0 ↔ x.toInt = 0 := ⟨fun h => by rw [h]; rfl, fun h => Int32.toInt_inj.mp (h.trans rfl)⟩
theorem z_le {x : Int32} : x ≤ 0 ↔ x.toInt ≤ 0 := by rw [Int32.le_iff_toInt_le]; exact Iff.rfl
theorem e_eq {x y : Int32} : x = y ↔ x.toInt = y.toInt := Int32.toInt_inj.symm
/-- team i is ahead of team t -/
def ahF (p s g p' s' g' : Int) (i t : Nat) : Int32 := if p = p' then (if s - g = s' - g' then (if s = s' then (if t ≤ i then 0 else 1) else (if s ≤ s' then 0 else 1)) else (if s - g ≤ s' - g' then 0 else 1)) else (if p ≤ p' then 0 else 1)
theorem ahd_C {p s g p' s' g' i t : Nat} (hi : i < 4) (ht : t < 4) (b1 : p ≤ 1000) (b2 : s ≤ 1000) (b3 : g ≤ 1000) (b4 : p' ≤ 1000) (b5 : s' ≤ 1000) (b6 : g' ≤ 1000) (e1 : A.1 12 i = nI p) (e2 : A.1 13 i = nI s) (e3 : A.1 14 i = nI g) (e4 : A.1 12 t = nI p') (e5 : A.1 13 t = nI s') (e6 : A.1 14 t = nI g') : V_X1_isAhead 11 (nI i) (nI t) A = ahF p s g p' s' g' i t := by
  have n1 : ∀ {x : Nat}, x ≤ 1000 → (nI x).toInt = x := fun h => nI_toInt (by omega)
  have d1 : (nI p - nI p').toInt = (p : Int) - p' := t2 b1 b4
  have d2 : (nI s - nI s').toInt = (s : Int) - s' := t2 b2 b5
  have d3 : ((nI s - nI s') - nI g).toInt = (s : Int) - s' - g := by rw [tsub (by rw [d2]; omega) (by rw [n1 b3]; omega), d2, n1 b3]
  have d4 : (((nI s - nI s') - nI g) + nI g').toInt = (s : Int) - s' - g + g' := by rw [tadd (by rw [d3]; omega) (by rw [n1 b6]; omega), d3, n1 b6]
  unfold V_X1_isAhead ahF
  rw [at_eq (x := 11 + 1) rfl hi (by decide), at_eq (x := 11 + 1) rfl ht (by decide), at_eq (x := 11 + 2) rfl hi (by decide), at_eq (x := 11 + 2) rfl ht (by decide), at_eq (x := 11 + 3) rfl hi (by decide), at_eq (x := 11 + 3) rfl ht (by decide), show (11 : Nat) + 1 = 12 from rfl, show (11 : Nat) + 2 = 13 from rfl, show (11 : Nat) + 3 = 14 from rfl, e1, e2, e3, e4, e5, e6]
  dsimp only
  by_cases c1 : (p : Int) = p'
  · rw [if_pos c1, if_pos (z_eq.mpr (by rw [d1]; omega))]
    by_cases c2 : (s : Int) - g = s' - g'
    · rw [if_pos c2, if_pos (z_eq.mpr (by rw [d4]; omega))]
      by_cases c3 : (s : Int) = s'
      · rw [if_pos c3, if_pos (z_eq.mpr (by rw [d2]; omega))]
        by_cases c4 : t ≤ i
        · rw [if_pos c4, if_pos (nI_le c4 (by omega))]
        · rw [if_neg c4, if_neg (nI_ge (by omega) (by omega))]
      · rw [if_neg c3, if_neg (fun z => c3 (by have := z_eq.mp z; rw [d2] at this; omega))]
        by_cases c4 : (s : Int) ≤ s'
        · rw [if_pos c4, if_pos (z_le.mpr (by rw [d2]; omega))]
        · rw [if_neg c4, if_neg (fun z => c4 (by have := z_le.mp z; rw [d2] at this; omega))]
    · rw [if_neg c2, if_neg (fun z => c2 (by have := z_eq.mp z; rw [d4] at this; omega))]
      by_cases c4 : (s : Int) - g ≤ s' - g'
      · rw [if_pos c4, if_pos (z_le.mpr (by rw [d4]; omega))]
      · rw [if_neg c4, if_neg (fun z => c4 (by have := z_le.mp z; rw [d4] at this; omega))]
  · rw [if_neg c1, if_neg (fun z => c1 (by have := z_eq.mp z; rw [d1] at this; omega))]
    by_cases c4 : (p : Int) ≤ p'
    · rw [if_pos c4, if_pos (z_le.mpr (by rw [d1]; omega))]
    · rw [if_neg c4, if_neg (fun z => c4 (by have := z_le.mp z; rw [d1] at this; omega))]
theorem ahd_M {p s g p' s' g' i t : Nat} (hi : i < 4) (ht : t < 4) (b1 : p ≤ 1000) (b2 : s ≤ 1000) (b3 : g ≤ 1000) (b4 : p' ≤ 1000) (b5 : s' ≤ 1000) (b6 : g' ≤ 1000) (e1 : B.1 265 i = nI p) (e2 : B.1 266 i = nI s) (e3 : B.1 267 i = nI g) (e4 : B.1 265 t = nI p') (e5 : B.1 266 t = nI s') (e6 : B.1 267 t = nI g') : R_X11_isAhead (nI i) (nI t) 259 B = some (ahF p s g p' s' g' i t) := by
  have n1 : ∀ {x : Nat}, x ≤ 1000 → (nI x).toInt = x := fun h => nI_toInt (by omega)
  have d1 : (nI s - nI g).toInt = (s : Int) - g := t2 b2 b3
  have d2 : (nI s' - nI g').toInt = (s' : Int) - g' := t2 b5 b6
  unfold R_X11_isAhead ahF
  simp only [ck_nI hi (show i < 2 ^ 31 by omega), ck_nI ht (show t < 2 ^ 31 by omega), nI_clamp (show i < 2 ^ 31 by omega), nI_clamp (show t < 2 ^ 31 by omega), e1, e2, e3, e4, e5, e6]
  have eqI : ∀ {x y : Nat}, x ≤ 1000 → y ≤ 1000 → (nI x = nI y ↔ (x : Int) = y) := fun h1 h2 => by rw [nI_eq (by omega) (by omega)]; omega
  have leI : ∀ {x y : Nat}, x ≤ 1000 → y ≤ 1000 → (nI x ≤ nI y ↔ (x : Int) ≤ y) := fun h1 h2 => by rw [nI_leI (by omega) (by omega)]; omega
  by_cases c1 : (p : Int) = p'
  · rw [if_pos c1, if_pos ((eqI b1 b4).mpr c1)]
    by_cases c2 : (s : Int) - g = s' - g'
    · rw [if_pos c2, if_pos (e_eq.mpr (by rw [d1, d2]; exact c2))]
      by_cases c3 : (s : Int) = s'
      · rw [if_pos c3, if_pos ((eqI b2 b5).mpr c3)]
        by_cases c4 : t ≤ i
        · rw [if_pos c4, if_pos (nI_le c4 (by omega)), bnd1_s, cz_0]
        · rw [if_neg c4, if_neg (nI_ge (by omega) (by omega)), bnd1_s, cz_1]
      · rw [if_neg c3, if_neg (fun z => c3 ((eqI b2 b5).mp z))]
        by_cases c4 : (s : Int) ≤ s'
        · rw [if_pos c4, if_pos ((leI b2 b5).mpr c4), bnd1_s, cz_0]
        · rw [if_neg c4, if_neg (fun z => c4 ((leI b2 b5).mp z)), bnd1_s, cz_1]
    · rw [if_neg c2, if_neg (fun z => c2 (by have := e_eq.mp z; rw [d1, d2] at this; exact this))]
      by_cases c4 : (s : Int) - g ≤ s' - g'
      · rw [if_pos c4, if_pos (Int32.le_iff_toInt_le.mpr (by rw [d1, d2]; exact c4)), bd1_s, cz_0]
      · rw [if_neg c4, if_neg (fun z => c4 (by have := Int32.le_iff_toInt_le.mp z; rw [d1, d2] at this; exact this)), bd1_s, cz_1]
  · rw [if_neg c1, if_neg (fun z => c1 ((eqI b1 b4).mp z))]
    by_cases c4 : (p : Int) ≤ p'
    · rw [if_pos c4, if_pos ((leI b1 b4).mpr c4), bd1_s, cz_0]
    · rw [if_neg c4, if_neg (fun z => c4 ((leI b1 b4).mp z)), bd1_s, cz_1]
theorem GL.ah (h : GL A B) {i t : Nat} (hi : i < 4) (ht : t < 4) : ∃ v, V_X1_isAhead 11 (nI i) (nI t) A = v ∧ R_X11_isAhead (nI i) (nI t) 259 B = some v ∧ (v = 0 ∨ v = 1) ∧ (i = t → v = 0) := by
  obtain ⟨⟨p, s, g, b1, b2, b3, e1, e2, e3⟩, m1, m2, m3⟩ := h.2.2 i hi
  obtain ⟨⟨p', s', g', b4, b5, b6, e4, e5, e6⟩, m4, m5, m6⟩ := h.2.2 t ht
  refine ⟨ahF p s g p' s' g' i t, ahd_C hi ht b1 b2 b3 b4 b5 b6 e1 e2 e3 e4 e5 e6, ahd_M hi ht b1 b2 b3 b4 b5 b6 (m1.symm.trans e1) (m2.symm.trans e2) (m3.symm.trans e3) (m4.symm.trans e4) (m5.symm.trans e5) (m6.symm.trans e6), ?_, fun e => ?_⟩
  · unfold ahF
    repeat' split
    all_goals first | exact Or.inl rfl | exact Or.inr rfl
  · subst e
    have q1 : p' = p := (nI_eq (by omega) (by omega)).mp (e4.symm.trans e1)
    have q2 : s' = s := (nI_eq (by omega) (by omega)).mp (e5.symm.trans e2)
    have q3 : g' = g := (nI_eq (by omega) (by omega)).mp (e6.symm.trans e3)
    subst q1 q2 q3
    unfold ahF
    rw [if_pos rfl, if_pos rfl, if_pos rfl, if_pos (Nat.le_refl _)]
theorem GL.has (h : GL A B) {t : Nat} (ht : t < 4) : V_X1_has 11 (nI t) A = V_X11_hasPlayed (nI t) B := by
  obtain ⟨_, ⟨s, _, e1, e2⟩, _⟩ := h
  unfold V_X1_has V_X11_hasPlayed
  dsimp only
  rw [if_neg (nI_pos (by omega)), if_neg (nleL (y := 4) 4 (by omega) rfl (by decide)), e1, e2]
theorem table_S {x y : Int32} : Sim K (fun M => some (V_X10_table x y M, U_X10_table x y M)) (fun M => R_X11_table x y 259 M) := fun A B h => by
  show Out K A B (some (V_X10_table x y A, U_X10_table x y A)) (R_X11_table x y 259 B)
  have hL := h.2.2.2.2.2.2
  unfold V_X10_table U_X10_table R_X11_table
  rcases isTeam_c (A := A) (B := B) (x := x) with ⟨c1, c2⟩ | ⟨t, ht, rfl, c1, c2⟩
  · rw [if_pos c1, if_pos c1, if_pos c2]; exact finB h
  rw [c1, c2, if_neg (show ¬ (1 : Int32) = 0 by decide), if_neg (show ¬ (1 : Int32) = 0 by decide), if_neg (show ¬ (1 : Int32) = 0 by decide)]
  rcases in_c (B := B) (x := y) (hi := 2) (n := 2) (by decide) rfl with ⟨d1, d2⟩ | ⟨d1, d2, d3⟩ | ⟨w, hw, rfl, d3⟩
  · rw [if_pos d1, if_pos d1, if_pos d2]; exact finB h
  · have d4 : ¬ y ≤ (2 : Int32) := fun z => by
      rw [Int32.le_iff_toInt_le] at d1 z
      have e1 : (nI 3).toInt = 3 := rfl
      have e2 : (2 : Int32).toInt = 2 := rfl
      have d1 : (nI 3).toInt ≤ y.toInt := d1
      omega
    rw [if_neg d2, if_neg d2, if_neg d4, if_neg d4, if_pos d3]; exact finB h
  rw [if_neg (nI_pos (by omega)), if_neg (nI_pos (by omega)), if_pos (show nI w ≤ (2 : Int32) from nI_le (b := 2) hw (by decide)), if_pos (show nI w ≤ (2 : Int32) from nI_le (b := 2) hw (by decide)), d3, if_neg (show ¬ (1 : Int32) = 0 by decide), hL.has ht]
  by_cases ch : V_X11_hasPlayed (nI t) B = 0
  · rw [if_pos ch, if_pos ch, if_pos ch]; exact finN h
  · obtain ⟨_, m1, m2, m3⟩ := hL.2.2 t ht
    rw [if_neg ch, if_neg ch, if_neg ch, ck_nI ht (by omega), ck_nI ht (by omega), ck_nI ht (by omega), nI_clamp (by omega)]
    unfold V_X1_shown
    rcases (show w = 0 ∨ w = 1 ∨ w = 2 by omega) with rfl | rfl | rfl
    · rw [if_pos (show nI 0 = 0 from rfl), if_pos (show nI 0 = 0 from rfl), bnd1_s, at_eq (x := 11 + 1) rfl ht (by decide)]
      exact same_out' h m1
    · rw [if_neg (show ¬ nI 1 = 0 by decide), if_pos (show nI 1 = (1 : Int32) from rfl), if_neg (show ¬ nI 1 = 0 by decide), if_pos (show nI 1 = (1 : Int32) from rfl), bnd1_s, at_eq (x := 11 + 2) rfl ht (by decide)]
      exact same_out' h m2
    · rw [if_neg (show ¬ nI 2 = 0 by decide), if_neg (show ¬ nI 2 = (1 : Int32) by decide), if_neg (show ¬ nI 2 = 0 by decide), if_neg (show ¬ nI 2 = (1 : Int32) by decide), bnd1_s, at_eq (x := 11 + 3) rfl ht (by decide)]
      exact same_out' h m3
theorem ahead_n (h : GL A B) {x : Int32} {t : Nat} (ht : t < 4) : ∀ (n i : Nat) (u : Int32), i + n = 4 → L_X11_order_24 x 259 (nI t) n i u B = some (F_X1_teamAt_12 11 x t n i u A) := by
  intro n
  induction n with
  | zero => intro i u _; rw [L_X11_order_24, F_X1_teamAt_12]
  | succ n ih =>
    intro i u hi
    obtain ⟨v, e1, e2, e3, e4⟩ := h.ah (show i < 4 by omega) ht
    rw [L_X11_order_24, F_X1_teamAt_12, e1, h.has (show i < 4 by omega), bnd1_e e2]
    have u0 : u + (0 : Int32) = u := Int32.add_zero u
    by_cases ci : i = t
    · have ev := e4 ci
      rw [if_pos (show nI i = nI t by rw [ci]), bnd1_s, ih (i + 1) _ (by omega), u0, ev, if_pos rfl]
      congr 2
      split <;> rfl
    · rw [if_neg (fun z => ci ((nI_eq (by omega) (by omega)).mp z))]
      by_cases ch : V_X11_hasPlayed (nI i) B = 0
      · rw [if_pos ch, if_pos ch, bnd1_s, ih (i + 1) _ (by omega), u0]
      · rw [if_neg ch, if_neg ch]
        rcases e3 with e | e
        · rw [e, if_pos rfl, if_pos rfl, bnd1_s, ih (i + 1) _ (by omega), u0]
        · rw [e, if_neg (show ¬ (1 : Int32) = 0 by decide), if_neg (show ¬ (1 : Int32) = 0 by decide), bnd1_s, ih (i + 1) _ (by omega)]
theorem order_n (h : GL A B) {x : Int32} : ∀ (n i : Nat), i + n = 4 → L_X11_order_14 x 259 n i B = some (if FV_X1_teamAt_2 11 x n i A = -1 then .inr () else .inl (FV_X1_teamAt_2 11 x n i A, B)) ∧ (FV_X1_teamAt_2 11 x n i A = -1 ∨ 0 ≤ FV_X1_teamAt_2 11 x n i A) := by
  intro n
  induction n with
  | zero => intro i _; exact ⟨rfl, Or.inl rfl⟩
  | succ n ih =>
    intro i hi
    obtain ⟨i1, i2⟩ := ih (i + 1) (by omega)
    rw [L_X11_order_14, FV_X1_teamAt_2, bnd1_e (ahead_n h (show i < 4 by omega) 4 0 0 rfl), h.has (show i < 4 by omega), i1]
    by_cases ch : V_X11_hasPlayed (nI i) B = 0
    · rw [if_pos ch, if_pos ch]; exact ⟨rfl, i2⟩
    · rw [if_neg ch, if_neg ch]
      by_cases ce : F_X1_teamAt_12 11 x i 4 0 0 A = x
      · rw [if_pos ce, if_pos ce, if_neg (show ¬ nI i = -1 from fun z => m1_nle (z ▸ nI_pos' (by omega)))]
        exact ⟨rfl, Or.inr (nI_pos' (by omega))⟩
      · rw [if_neg ce, if_neg ce]; exact ⟨rfl, i2⟩
theorem order_S {x : Int32} : Sim K (fun M => some (V_X10_order x M, U_X10_order x M)) (fun M => R_X11_order x 259 M) := fun A B h => by
  show Out K A B (some (V_X10_order x A, U_X10_order x A)) (R_X11_order x 259 B)
  obtain ⟨e1, e2⟩ := order_n h.2.2.2.2.2.2 (x := x) 4 0 rfl
  unfold V_X10_order U_X10_order R_X11_order V_X1_teamAt
  dsimp only
  by_cases c : 0 ≤ x
  · rw [if_pos c, if_pos c, if_pos c, e1]
    rcases e2 with e | e
    · rw [if_pos e, br1_r, e, if_neg m1_nle, if_neg m1_nle]
      exact finN h
    · have en : ¬ FV_X1_teamAt_2 11 x 4 0 A = -1 := fun z => m1_nle (z ▸ e)
      rw [if_neg en, br1_l, if_pos e, if_pos e]
      exact same_out h
  · rw [if_neg c, if_neg c, if_neg c]; exact finB h
end TBL
