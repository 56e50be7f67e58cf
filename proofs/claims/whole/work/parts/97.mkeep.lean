/-! ===== the model keeps words ===== -/
def nmL (ws : List Tk) : Nat → List Nat
  | 0 => []
  | i + 1 => match ws[i]? with
    | some t => if t.1 = 26 then nmL ws i ++ [i] else nmL ws i
    | none => nmL ws i
def isSt (ws : List Tk) (j : Nat) : Int32 := match ws[j - 1]? with
  | some u => if u.1 = 0 then 1 else 0
  | none => 0
theorem nmL_len {ws : List Tk} : ∀ i, (nmL ws i).length ≤ i := by
  intro i
  induction i with
  | zero => exact Nat.le_refl _
  | succ i ih =>
    rw [nmL]
    split
    · split
      · rw [List.length_append, List.length_singleton]; omega
      · omega
    · omega
theorem nmL_n {ws : List Tk} {i : Nat} {t : Tk} (e : ws[i]? = some t) (h : t.1 ≠ 26) : nmL ws (i + 1) = nmL ws i := by
  rw [nmL, e]
  exact if_neg h
theorem nmL_y {ws : List Tk} {i : Nat} {t : Tk} (e : ws[i]? = some t) (h : t.1 = 26) : nmL ws (i + 1) = nmL ws i ++ [i] := by
  rw [nmL, e]
  exact if_pos h
def NmR (B : Mem) (ws : List Tk) (i : Nat) : Prop := B.1 242 15 = nI (nmL ws i).length ∧ ∀ m j, (nmL ws i)[m]? = some j → ∃ t, ws[j]? = some t ∧ B.2 249 m = Int64.ofNat (pkN 27 t.2.1) ∧ B.1 250 m = nI t.2.2.2 ∧ B.1 251 m = nI j ∧ B.1 252 m = isSt ws j
/-- the model is at word i of the text, no fault so far -/
def MI (T : Nat → Nat) (n q : Nat) (ws : List Tk) (B : Mem) (i : Nat) : Prop := TapeM B T n ∧ B.1 242 8 = nI q ∧ B.1 242 2 = -1 ∧ B.1 242 11 = nI i ∧ (∃ t, ws[i]? = some t ∧ HandT B T n t (ws.drop (i + 1))) ∧ (∀ j t, j < i → ws[j]? = some t → B.1 244 (800 * q + j) = nI (kM t.1) ∧ B.1 245 (800 * q + j) = nI (vM t)) ∧ NmR B ws i
/-- what is known of the words -/
def WsG (q : Nat) (ws : List Tk) : Prop := q < 6 ∧ EndW ws ∧ Inc ws ∧ NmW ws ∧ ∀ (i : Nat) (t : Tk), ws[i]? = some t → t.2.2.2 ≤ 800 ∧ t.1 < 38 ∧ (t.1 = 25 → t.2.2.1 ≤ 999)
def FrY (q : Nat) (B B' : Mem) : Prop := (∀ d, d ≠ 242 → d ≠ 244 → d ≠ 245 → d ≠ 250 → d ≠ 251 → d ≠ 252 → B'.1 d = B.1 d) ∧ (∀ j, j ≠ 2 → j ≠ 3 → j ≠ 4 → j ≠ 5 → j ≠ 6 → j ≠ 11 → j ≠ 15 → j ≠ 20 → B'.1 242 j = B.1 242 j) ∧ (∀ d, d = 244 ∨ d = 245 → ∀ x, x < 800 * q → B'.1 d x = B.1 d x) ∧ (∀ d, d ≠ 242 → d ≠ 249 → B'.2 d = B.2 d) ∧ (∀ j, j ≠ 7 → B'.2 242 j = B.2 242 j)
theorem FrY.rf {q : Nat} {B : Mem} : FrY q B B := ⟨fun _ _ _ _ _ _ _ => rfl, fun _ _ _ _ _ _ _ _ _ => rfl, fun _ _ _ _ => rfl, fun _ _ _ => rfl, fun _ _ => rfl⟩
theorem FrY.tr {q : Nat} {B B1 B' : Mem} (h : FrY q B B1) (g : FrY q B1 B') : FrY q B B' := ⟨fun d p1 p2 p3 p4 p5 p6 => (g.1 d p1 p2 p3 p4 p5 p6).trans (h.1 d p1 p2 p3 p4 p5 p6), fun j p1 p2 p3 p4 p5 p6 p7 p8 => (g.2.1 j p1 p2 p3 p4 p5 p6 p7 p8).trans (h.2.1 j p1 p2 p3 p4 p5 p6 p7 p8), fun d p x hx => (g.2.2.1 d p x hx).trans (h.2.2.1 d p x hx), fun d p1 p2 => (g.2.2.2.1 d p1 p2).trans (h.2.2.2.1 d p1 p2), fun j p => (g.2.2.2.2 j p).trans (h.2.2.2.2 j p)⟩
theorem FrY.i {q j : Nat} {B : Mem} {v : Int32} (h : j = 2 ∨ j = 20) : FrY q B (setI B 242 j v) := ⟨fun d p1 _ _ _ _ _ => fI p1, fun k p1 _ _ _ _ _ _ p8 => gI (Or.inr (by omega)), fun d p x _ => gI (Or.inl (by omega)), fun _ _ _ => rfl, fun _ _ => rfl⟩
theorem drop_u {ws rest : List Tk} {i : Nat} {t : Tk} (h : ws.drop i = t :: rest) : ws[i]? = some t ∧ rest = ws.drop (i + 1) := by
  have hl : i < ws.length := by
    refine Nat.lt_of_not_le (fun q => ?_)
    rw [List.drop_eq_nil_of_le q] at h; cases h
  rw [List.drop_eq_getElem_cons hl] at h
  cases h
  exact ⟨List.getElem?_eq_getElem hl, rfl⟩
theorem WsG.i8 {q i : Nat} {ws : List Tk} {t : Tk} (h : WsG q ws) (e : ws[i]? = some t) (h35 : t.1 ≤ 35) : i < 800 ∧ i + 1 < ws.length := by
  have h1 := h.2.1 i t e h35
  have hb : Bd ws 0 0 := fun _ _ => Nat.zero_le _
  have := hb.mono h.2.2.1 (i + 1) (by omega)
  obtain ⟨u, eu⟩ := get_lt h1
  have h2 := this u (by rw [Nat.zero_add]; exact eu)
  have h3 := (h.2.2.2.2 _ u eu).1
  exact ⟨by omega, h1⟩
/-- what keeping a word changes -/
def FrK (k : Nat) (B B' : Mem) : Prop := (∀ d, d ≠ 242 → d ≠ 244 → d ≠ 245 → B'.1 d = B.1 d) ∧ (∀ j, j ≠ 3 → j ≠ 4 → j ≠ 5 → j ≠ 6 → j ≠ 11 → B'.1 242 j = B.1 242 j) ∧ (∀ d, d = 244 ∨ d = 245 → ∀ x, x ≠ k → B'.1 d x = B.1 d x) ∧ (∀ d, d ≠ 242 → B'.2 d = B.2 d) ∧ (∀ j, j ≠ 7 → B'.2 242 j = B.2 242 j)
theorem FrK.y {q i : Nat} {B B' : Mem} (h : FrK (800 * q + i) B B') : FrY q B B' := ⟨fun d p1 p2 p3 _ _ _ => h.1 d p1 p2 p3, fun j _ p2 p3 p4 p5 p6 _ _ => h.2.1 j p2 p3 p4 p5 p6, fun d p x hx => h.2.2.1 d p x (by omega), fun d p1 _ => h.2.2.2.1 d p1, fun j p => h.2.2.2.2 j p⟩
theorem keep_core {T : Nat → Nat} {n q i mA : Nat} {ws : List Tk} {B : Mem} {t : Tk} (hq : q < 6) (hi : i < 800) (hT : TapeM B T n) (h8 : B.1 242 8 = nI q) (h11 : B.1 242 11 = nI i) (hH : HandT B T n t (ws.drop (i + 1))) (h35 : t.1 ≤ 35) : ∃ B', R_X11_keepWord mA B = some (1, B') ∧ (∃ t', ws[i + 1]? = some t' ∧ HandT B' T n t' (ws.drop (i + 1 + 1))) ∧ B'.1 244 (800 * q + i) = nI (kM t.1) ∧ B'.1 245 (800 * q + i) = nI (vM t) ∧ B'.1 242 11 = nI (i + 1) ∧ FrK (800 * q + i) B B' := by
  obtain ⟨h5, _, _, h6, _, hr⟩ := hH
  obtain ⟨e, k, er, he, hk, h4⟩ := hr h35
  obtain ⟨B1, hB1⟩ : ∃ X, X = setI (setI (setI B 244 (800 * q + i) (nI (kM t.1))) 245 (800 * q + i) (nI (vM t))) 242 11 (nI (i + 1)) := ⟨_, rfl⟩
  have F1 : FrK (800 * q + i) B B1 := by
    rw [hB1]
    refine ⟨fun d p1 p2 p3 => by rw [fI p1, fI p3, fI p2], fun j _ _ _ _ p5 => by rw [gI (Or.inr p5), gI (Or.inl (by decide)), gI (Or.inl (by decide))], fun d p x hx => ?_, fun _ _ => rfl, fun _ _ => rfl⟩
    rw [gI (Or.inl (by omega)), gI (Or.inr hx), gI (Or.inr hx)]
  have T1 : TapeM B1 T n := ⟨by rw [F1.2.1 1 (by decide) (by decide) (by decide) (by decide) (by decide)]; exact hT.1, hT.2.1, fun x hx => by rw [F1.1 243 (by decide) (by decide) (by decide)]; exact hT.2.2 x hx⟩
  have e4 : B1.1 242 4 = nI e := by rw [hB1, gI (Or.inr (by decide)), gI (Or.inl (by decide)), gI (Or.inl (by decide))]; exact h4
  obtain ⟨B', w1, ⟨t', rest, w2, w3⟩, w4⟩ := word_M (mA := mA) T1 e4 he hk
  rw [← er] at w2
  obtain ⟨u1, u2⟩ := drop_u w2
  refine ⟨B', ?_, ⟨t', u1, by rw [← u2]; exact w3⟩, ?_, ?_, ?_, ?_⟩
  · unfold R_X11_keepWord
    rw [h8, h11, show (800 : Int32) = nI 800 from rfl, pk_mul, nI_add, ck_nI (by omega) (by omega), ck_nI (by omega) (by omega), nI_clamp (by omega), h5, h6 h35, nI_1, ← hB1, bnd1_e w1]
  · rw [w4.1 244 (by decide), hB1, gI (Or.inl (by decide)), gI (Or.inl (by decide)), gs_eI]
  · rw [w4.1 245 (by decide), hB1, gI (Or.inl (by decide)), gs_eI]
  · rw [w4.2.1 11 (by decide) (by decide) (by decide) (by decide), hB1, gs_eI]
  · exact ⟨fun d p1 p2 p3 => (w4.1 d p1).trans (F1.1 d p1 p2 p3), fun j p1 p2 p3 p4 p5 => (w4.2.1 j p1 p2 p3 p4).trans (F1.2.1 j p1 p2 p3 p4 p5), fun d p x hx => by rw [w4.1 d (by omega)]; exact F1.2.2.1 d p x hx, fun d p => (w4.2.2.1 d p).trans (F1.2.2.2.1 d p), fun j p => (w4.2.2.2 j p).trans (F1.2.2.2.2 j p)⟩
theorem keep_M {T : Nat → Nat} {n q i mA : Nat} {ws : List Tk} {B : Mem} {t : Tk} (hG : WsG q ws) (hI : MI T n q ws B i) (e : ws[i]? = some t) (h35 : t.1 ≤ 35) (h26 : t.1 ≠ 26) : ∃ B', R_X11_keepWord mA B = some (1, B') ∧ MI T n q ws B' (i + 1) ∧ FrY q B B' ∧ B'.1 242 20 = B.1 242 20 := by
  obtain ⟨hT, h8, h2, h11, ⟨u, eu, hH⟩, hR, hN⟩ := hI
  have : u = t := Option.some.inj (eu.symm.trans e)
  subst this
  have hi := (hG.i8 e h35).1
  obtain ⟨B', g1, g2, g3, g4, g5, g6⟩ := keep_core (mA := mA) (ws := ws) hG.1 hi hT h8 h11 hH h35
  refine ⟨B', g1, ⟨⟨by rw [g6.2.1 1 (by decide) (by decide) (by decide) (by decide) (by decide)]; exact hT.1, hT.2.1, fun x hx => by rw [g6.1 243 (by decide) (by decide) (by decide)]; exact hT.2.2 x hx⟩, ?_, ?_, g5, g2, fun j t' hj ej => ?_, ?_⟩, g6.y, ?_⟩
  · rw [g6.2.1 8 (by decide) (by decide) (by decide) (by decide) (by decide)]; exact h8
  · rw [g6.2.1 2 (by decide) (by decide) (by decide) (by decide) (by decide)]; exact h2
  · by_cases c : j = i
    · subst c
      have : u = t' := Option.some.inj (e.symm.trans ej)
      subst this
      exact ⟨g3, g4⟩
    · rw [g6.2.2.1 244 (Or.inl rfl) _ (by omega), g6.2.2.1 245 (Or.inr rfl) _ (by omega)]
      exact hR j t' (by omega) ej
  · unfold NmR
    rw [nmL_n e h26, g6.2.1 15 (by decide) (by decide) (by decide) (by decide) (by decide), g6.1 250 (by decide) (by decide) (by decide), g6.1 251 (by decide) (by decide) (by decide), g6.1 252 (by decide) (by decide) (by decide), g6.2.2.2.1 249 (by decide)]
    exact hN
  · exact g6.2.1 20 (by decide) (by decide) (by decide) (by decide) (by decide)
/-- what a reading of the model's comes to -/
def MR {α : Type} (T : Nat → Nat) (n q : Nat) (ws : List Tk) (B B' : Mem) (v : Int32) (r : PR α) (i : Nat) : Prop := FrY q B B' ∧ ((∃ a i', r = .inl (a, ws.drop i') ∧ i ≤ i' ∧ i' < ws.length ∧ v = 1 ∧ MI T n q ws B' i') ∨ (∃ p, r = .inr p ∧ v = 0 ∧ p ≤ 800 ∧ B'.1 242 2 = nI p))
theorem MR.v {α : Type} {T : Nat → Nat} {n q i : Nat} {ws : List Tk} {B B' : Mem} {v : Int32} {r : PR α} (h : MR T n q ws B B' v r i) : v = 0 ∨ v = 1 := by
  rcases h.2 with ⟨_, _, _, _, _, h, _⟩ | ⟨_, _, h, _⟩
  · exact Or.inr h
  · exact Or.inl h
theorem MR.wrong {α : Type} {T : Nat → Nat} {n q i : Nat} {ws : List Tk} {B : Mem} {t : Tk} (hG : WsG q ws) (hI : MI T n q ws B i) (e : ws[i]? = some t) : MR (α := α) T n q ws B (U_X11_wrong B) (V_X11_wrong B) (.inr t.2.2.2) i := by
  obtain ⟨_, _, _, _, ⟨u, eu, hH⟩, _⟩ := hI
  have : u = t := Option.some.inj (eu.symm.trans e)
  subst this
  unfold U_X11_wrong
  rw [hH.2.1]
  exact ⟨FrY.i (Or.inl rfl), Or.inr ⟨_, rfl, rfl, (hG.2.2.2.2 i u e).1, gs_eI⟩⟩
theorem cz_v {β : Type} {v : Int32} {x : Option β} (h : v = 0 ∨ v = 1) : cz v x = x := if_pos h
theorem if_v {M : Mem} {v : Int32} (h : v = 0 ∨ v = 1) : (if v = 0 then some ((0 : Int32), M) else some ((1 : Int32), M)) = some (v, M) := by
  rcases h with rfl | rfl <;> rfl
/-- one reading behind another -/
theorem MR.seq {α β : Type} {T : Nat → Nat} {n q i : Nat} {ws : List Tk} {B : Mem} {f : Option (Int32 × Mem)} {g : Mem → Option (Int32 × Mem)} {r : PR α} {k : α → List Tk → PR β} (h : ∃ v B1, f = some (v, B1) ∧ MR T n q ws B B1 v r i) (hg : ∀ a i1 B1, r = .inl (a, ws.drop i1) → i ≤ i1 → i1 < ws.length → MI T n q ws B1 i1 → FrY q B B1 → ∃ v B2, g B1 = some (v, B2) ∧ MR T n q ws B1 B2 v (k a (ws.drop i1)) i1) : ∃ v B2, bnd2 f (fun v M => if v = 0 then some ((0 : Int32), M) else g M) = some (v, B2) ∧ MR T n q ws B B2 v (pthen r k) i := by
  obtain ⟨v, B1, e1, F1, H⟩ := h
  rw [bnd2_e e1]
  rcases H with ⟨a, i1, e2, e3, e4, e5, e6⟩ | ⟨p, e2, e3, e4, e5⟩
  · obtain ⟨v2, B2, y1, F2, y2⟩ := hg a i1 B1 e2 e3 e4 e6 F1
    rw [e5, if_neg (show ¬ (1 : Int32) = 0 by decide), e2]
    refine ⟨v2, B2, y1, F1.tr F2, ?_⟩
    rcases y2 with ⟨b, i2, z1, z2, z3, z4, z5⟩ | z
    · exact Or.inl ⟨b, i2, z1, by omega, z3, z4, z5⟩
    · exact Or.inr z
  · rw [e3, if_pos rfl, e2]
    exact ⟨0, B1, rfl, F1, Or.inr ⟨p, rfl, rfl, e4, e5⟩⟩
/-- the word at hand, as the model numbers kinds -/
theorem MI.k {T : Nat → Nat} {n q i : Nat} {ws : List Tk} {B : Mem} {t : Tk} (hI : MI T n q ws B i) (e : ws[i]? = some t) : B.1 242 5 = nI (kM t.1) := by
  obtain ⟨_, _, _, _, ⟨u, eu, hH⟩, _⟩ := hI
  have : u = t := Option.some.inj (eu.symm.trans e)
  subst this
  exact hH.1
theorem kM_lt {k : Nat} : k < 38 → kM k < 128 := by
  have : ∀ k, k < 38 → kM k < 128 := by decide
  exact this k
theorem kM_eq {k D : Nat} {x : Int32} (hk : k < 38) (hx : x = nI D) (hD : D < 128) : nI (kM k) = x ↔ kM k = D := by
  rw [hx]
  exact nI_eq (by have := kM_lt hk; omega) (by omega)
theorem is_M {T : Nat → Nat} {n q i k1 k2 D mA : Nat} {x : Int32} {ws : List Tk} {B : Mem} (hG : WsG q ws) (hI : MI T n q ws B i) (hi : i < ws.length) (hx : x = nI D) (hD : D < 128) (hd : ∀ k, k < 38 → (kM k = D ↔ k1 ≤ k ∧ k ≤ k2)) (h35 : k2 ≤ 35) (h26 : ¬ (k1 ≤ 26 ∧ 26 ≤ k2)) : ∃ v B', R_X11_is x mA B = some (v, B') ∧ MR T n q ws B B' v (pWord k1 k2 (ws.drop i)) i ∧ B'.1 242 20 = B.1 242 20 := by
  obtain ⟨t, e⟩ := get_lt hi
  have h38 := (hG.2.2.2.2 i t e).2.1
  unfold R_X11_is
  rw [hI.k e, drop_c e, pWord]
  by_cases c : k1 ≤ t.1 ∧ t.1 ≤ k2
  · obtain ⟨B', g1, g2, g3, g4⟩ := keep_M (mA := mA) hG hI e (by omega) (by omega)
    rw [if_pos c, if_pos ((kM_eq h38 hx hD).mpr ((hd _ h38).mpr c)), bnd2_e g1, bnd2_s, cz_1]
    exact ⟨1, B', rfl, ⟨g3, Or.inl ⟨t, i + 1, rfl, by omega, (hG.i8 e (by omega)).2, rfl, g2⟩⟩, g4⟩
  · rw [if_neg c, if_neg (fun z => c ((hd _ h38).mp ((kM_eq h38 hx hD).mp z))), bnd2_s]
    have := MR.wrong (α := Tk) hG hI e
    rw [cz_v this.v]
    refine ⟨_, _, rfl, this, ?_⟩
    unfold U_X11_wrong
    exact gI (Or.inr (by decide))
