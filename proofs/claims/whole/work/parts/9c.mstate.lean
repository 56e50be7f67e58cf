section RD
variable {α β γ : Type} {T : Nat → Nat} {n q mA : Nat} {ws : List Tk}
theorem b22 {α β γ δ ε : Type} {x : Option (α × β)} {f : α → β → Option (γ × δ)} {g : γ → δ → Option ε} : bnd2 (bnd2 x f) g = bnd2 x (fun a b => bnd2 (f a b) g) := by cases x <;> rfl
/-- from the tests' end on -/
def rlK (mA : Nat) (v7 : Int32) (M7 : Mem) : Option (Int32 × Mem) := bnd2 (if v7 = 0 then (some ((0 : Int32), M7)) else (bnd2 (R_X11_is (123 : Int32) mA M7) (fun v11 M11 => if v11 = 0 then (some ((0 : Int32), M11)) else (some ((1 : Int32), M11))))) (fun v10_0 M10 => bnd2 (L_X11_rule_57 mA FUEL v10_0 (0 : Int32) M10) (fun v20 M20 => fin mA 125 v20 M20))
theorem rule_e {M : Mem} : R_X11_rule mA M = bnd2 (R_X11_keepWord mA M) (fun _ M1 => bnd2 (bnd2 (R_X11_test mA M1) (fun v2 M2 => L_X11_rule_10 mA FUEL v2 M2)) (fun v7 M7 => rlK mA v7 M7)) := by
  unfold R_X11_rule rlK fin
  simp only [b22]
theorem rlK_0 {M : Mem} : rlK mA 0 M = some (0, M) := by
  obtain ⟨F0, hF0⟩ : ∃ m, FUEL = m + 1 := ⟨FUEL - 1, by unfold FUEL; omega⟩
  unfold rlK
  rw [if_pos rfl, bnd2_s, hF0, L_X11_rule_57, if_pos rfl, bnd2_s, fin_0]
theorem rlK_R {i : Nat} {B : Mem} (hG : WsG q ws) (hI : MI T n q ws B i) (hi : i < ws.length) : ∃ v B', rlK mA 1 B = some (v, B') ∧ MR T n q ws B B' v (pthen (pWord 27 27 (ws.drop i)) fun _ ts => pthen (pActs 8 ts) fun al ts => pthen (pWord 28 28 ts) fun _ ts => .inl (al, ts)) i := by
  obtain ⟨F0, hF0⟩ : ∃ m, FUEL = m + 1 := ⟨FUEL - 1, by unfold FUEL; omega⟩
  unfold rlK
  rw [if_neg (show ¬ (1 : Int32) = 0 by decide)]
  obtain ⟨v, B1, y1, y2⟩ := ifv_R (is_R (mA := mA) (x := 123) (D := 123) hG hI hi rfl (by decide) r123 (by decide) (by decide))
  rw [y1, bnd2_s]
  rcases y2.2 with ⟨a, i1, w1, w2, w3, w4, w5⟩ | ⟨p, w1, w2, w3, w4⟩
  · subst w4
    rw [w1]
    obtain ⟨v', B', x1, x2⟩ := acts_R (mA := mA) hG 8 0 FUEL i1 B1 rfl (by unfold FUEL; omega) w5 w3
    exact ⟨v', B', x1, MR.fr x2 y2.1 w2⟩
  · subst w2
    rw [w1, hF0, L_X11_rule_57, if_pos rfl, bnd2_s, fin_0]
    exact ⟨0, B1, rfl, y2.1, Or.inr ⟨p, rfl, rfl, w3, w4⟩⟩
theorem rule_R {i : Nat} {t : Tk} {B : Mem} (hG : WsG q ws) (hI : MI T n q ws B i) (e : ws[i]? = some t) (h : t.1 = 1) : ∃ v B', R_X11_rule mA B = some (v, B') ∧ MR T n q ws B B' v (pRule (ws.drop i)) i := by
  obtain ⟨B1, y1, y2, y3, y4⟩ := keep_M (mA := mA) hG hI e (by omega) (by omega)
  have hi1 := (hG.i8 e (by omega)).2
  obtain ⟨v, B2, z1, z2⟩ := tests_R (mA := mA) hG 800 (i + 1) FUEL B1 (by omega) (by unfold FUEL; omega) y2 hi1
  rw [rule_e, bnd2_e y1, bnd2_e z1, drop_c e]
  unfold pRule
  rw [pWord, if_pos (by omega)]
  show ∃ v_1 B', rlK mA v B2 = some (v_1, B') ∧ MR T n q ws B B' v_1 (pthen (pTests 800 (ws.drop (i + 1))) fun tl ts => pthen (pWord 27 27 ts) fun _ ts => pthen (pActs 8 ts) fun al ts => pthen (pWord 28 28 ts) fun _ ts => .inl ((tl, al), ts)) i
  rcases z2.2 with ⟨a, i1, w1, w2, w3, w4, w5⟩ | ⟨p, w1, w2, w3, w4⟩
  · subst w4
    rw [w1]
    obtain ⟨v', B', x1, x2⟩ := rlK_R (mA := mA) hG w5 w3
    refine ⟨v', B', x1, ?_⟩
    have := MR.fr (MR.map (fun al => (a, al)) x2) (y3.tr z2.1) (show i ≤ i1 by omega)
    simp only [pthen_as] at this
    exact this
  · subst w2
    rw [w1, rlK_0]
    exact ⟨0, B2, rfl, y3.tr z2.1, Or.inr ⟨p, rfl, rfl, w3, w4⟩⟩
theorem pRules_c {g : Nat} {t : Tk} {l : List Tk} : pRules (g + 1) (t :: l) = if t.1 = 1 then pthen (pRule (t :: l)) fun a ts => pthen (pRules g ts) fun l us => .inl (a :: l, us) else .inl ([], t :: l) := by
  rw [pRules]
  rfl
theorem pRules_0 {t : Tk} {l : List Tk} : pRules 0 (t :: l) = if t.1 = 1 then .inr t.2.2.2 else .inl ([], t :: l) := by
  rw [pRules]
  rfl
theorem rules_R (hG : WsG q ws) : ∀ (g c f i : Nat) (B : Mem), g + c = 12 → g + 1 < f → MI T n q ws B i → i < ws.length → ∃ v B', L_X11_state_113 mA f 1 (nI c) B = some (v, B') ∧ MR T n q ws B B' v (pRules g (ws.drop i)) i := by
  intro g
  induction g with
  | zero =>
    intro c f i B hc hf hI hi
    obtain ⟨f, rfl⟩ : ∃ m, f = m + 1 := ⟨f - 1, by omega⟩
    obtain ⟨f, rfl⟩ : ∃ m, f = m + 1 := ⟨f - 1, by omega⟩
    have hc8 : c = 12 := by omega
    subst hc8
    obtain ⟨t, e⟩ := get_lt hi
    have h38 := (hG.2.2.2.2 i t e).2.1
    rw [drop_c e, pRules_0, L_X11_state_113, if_neg (show ¬ (1 : Int32) = 0 by decide), hI.k e]
    by_cases c1 : t.1 = 1
    · have W := MR.wrong (α := List PL) hG hI e
      rw [if_pos c1, if_pos ((q11 h38).mpr (by omega)), if_pos (show (12 : Int32) ≤ nI 12 from by decide), bnd2_s, L_X11_state_113, if_pos V_wrong]
      exact ⟨_, _, rfl, W⟩
    · rw [if_neg c1, if_neg (fun z => by have := (q11 h38).mp z; omega)]
      exact ⟨1, B, rfl, FrY.rf, Or.inl ⟨_, i, by rw [drop_c e], Nat.le_refl _, hi, rfl, hI⟩⟩
  | succ g ih =>
    intro c f i B hc hf hI hi
    obtain ⟨f, rfl⟩ : ∃ m, f = m + 1 := ⟨f - 1, by omega⟩
    obtain ⟨t, e⟩ := get_lt hi
    have h38 := (hG.2.2.2.2 i t e).2.1
    have eP : pRules (g + 1) (ws.drop i) = if t.1 = 1 then pthen (pRule (ws.drop i)) fun a ts => pthen (pRules g ts) fun l us => .inl (a :: l, us) else .inl ([], ws.drop i) := by
      rw [drop_c e, pRules_c]
    rw [eP, L_X11_state_113, if_neg (show ¬ (1 : Int32) = 0 by decide), hI.k e]
    by_cases c1 : t.1 = 1
    · obtain ⟨v, B1, y1, y2⟩ := rule_R (mA := mA) hG hI e c1
      rw [if_pos c1, if_pos ((q11 h38).mpr (by omega)), if_neg (show ¬ (12 : Int32) ≤ nI c from nI_ge (b := 12) (by omega) (by decide)), bnd2_id, bnd2_e y1, nI_1]
      rcases y2.2 with ⟨a, i1, w1, w2, w3, w4, w5⟩ | ⟨p, w1, w2, w3, w4⟩
      · subst w4
        obtain ⟨v', B', x1, x2⟩ := ih (c + 1) f i1 B1 (by omega) (by omega) w5 w3
        rw [w1]
        exact ⟨v', B', x1, MR.fr (MR.map (fun l => a :: l) x2) y2.1 w2⟩
      · subst w2
        obtain ⟨f, rfl⟩ : ∃ m, f = m + 1 := ⟨f - 1, by omega⟩
        rw [w1, L_X11_state_113, if_pos rfl]
        exact ⟨0, B1, rfl, y2.1, Or.inr ⟨p, rfl, rfl, w3, w4⟩⟩
    · rw [if_neg c1, if_neg (fun z => by have := (q11 h38).mp z; omega)]
      exact ⟨1, B, rfl, FrY.rf, Or.inl ⟨_, i, rfl, Nat.le_refl _, hi, rfl, hI⟩⟩
/-- what a reading changes in the model -/
def FrX (q : Nat) (B B' : Mem) : Prop := (∀ d, d ≠ 242 → d ≠ 244 → d ≠ 245 → d ≠ 246 → d ≠ 247 → d ≠ 250 → d ≠ 251 → d ≠ 252 → B'.1 d = B.1 d) ∧ (∀ j, j ≠ 2 → j ≠ 3 → j ≠ 4 → j ≠ 5 → j ≠ 6 → j ≠ 11 → j ≠ 15 → j ≠ 20 → B'.1 242 j = B.1 242 j) ∧ (∀ d, d = 244 ∨ d = 245 → ∀ x, x < 800 * q → B'.1 d x = B.1 d x) ∧ (∀ x, x ≠ q → B'.1 246 x = B.1 246 x) ∧ (∀ x, x < 8 * q → B'.1 247 x = B.1 247 x) ∧ (∀ d, d ≠ 242 → d ≠ 248 → d ≠ 249 → B'.2 d = B.2 d) ∧ (∀ j, j ≠ 7 → B'.2 242 j = B.2 242 j)
theorem FrX.tr {q : Nat} {B B1 B' : Mem} (h : FrX q B B1) (g : FrX q B1 B') : FrX q B B' := ⟨fun d p1 p2 p3 p4 p5 p6 p7 p8 => (g.1 d p1 p2 p3 p4 p5 p6 p7 p8).trans (h.1 d p1 p2 p3 p4 p5 p6 p7 p8), fun j p1 p2 p3 p4 p5 p6 p7 p8 => (g.2.1 j p1 p2 p3 p4 p5 p6 p7 p8).trans (h.2.1 j p1 p2 p3 p4 p5 p6 p7 p8), fun d p x hx => (g.2.2.1 d p x hx).trans (h.2.2.1 d p x hx), fun x hx => (g.2.2.2.1 x hx).trans (h.2.2.2.1 x hx), fun x hx => (g.2.2.2.2.1 x hx).trans (h.2.2.2.2.1 x hx), fun d p1 p2 p3 => (g.2.2.2.2.2.1 d p1 p2 p3).trans (h.2.2.2.2.2.1 d p1 p2 p3), fun j p => (g.2.2.2.2.2.2 j p).trans (h.2.2.2.2.2.2 j p)⟩
theorem FrY.x {q : Nat} {B B' : Mem} (h : FrY q B B') : FrX q B B' := ⟨fun d p1 p2 p3 _ _ p6 p7 p8 => h.1 d p1 p2 p3 p6 p7 p8, h.2.1, h.2.2.1, fun x _ => by rw [h.1 246 (by decide) (by decide) (by decide) (by decide) (by decide) (by decide)], fun x _ => by rw [h.1 247 (by decide) (by decide) (by decide) (by decide) (by decide) (by decide)], fun d p1 _ p3 => h.2.2.2.1 d p1 p3, h.2.2.2.2⟩
theorem MI.o {i : Nat} {B B' : Mem} (hI : MI T n q ws B i) (h1 : ∀ d, d ≠ 246 → d ≠ 247 → B'.1 d = B.1 d) (h2 : ∀ d, d ≠ 248 → B'.2 d = B.2 d) : MI T n q ws B' i := by
  obtain ⟨hT, h8, h2', h11, ⟨u, eu, a1, a2, a3, a4, a5, a6⟩, hR, hN⟩ := hI
  have d242 := h1 242 (by decide) (by decide)
  refine ⟨⟨by rw [d242]; exact hT.1, hT.2.1, fun x hx => by rw [h1 243 (by decide) (by decide)]; exact hT.2.2 x hx⟩, by rw [d242]; exact h8, by rw [d242]; exact h2', by rw [d242]; exact h11, ⟨u, eu, by rw [d242]; exact a1, by rw [d242]; exact a2, a3, fun h => by rw [d242]; exact a4 h, fun h => by rw [h2 242 (by decide)]; exact a5 h, fun h => by rw [d242]; exact a6 h⟩, fun j t hj ej => by rw [h1 244 (by decide) (by decide), h1 245 (by decide) (by decide)]; exact hR j t hj ej, ?_⟩
  unfold NmR
  rw [d242, h1 250 (by decide) (by decide), h1 251 (by decide) (by decide), h1 252 (by decide) (by decide), h2 249 (by decide)]
  exact hN
/-- the state's end: its rules, and `}` -/
def stK (mA : Nat) (M : Mem) : Option (Int32 × Mem) := bnd2 (L_X11_state_113 mA FUEL (1 : Int32) (0 : Int32) M) (fun v22 M22 => fin mA 125 v22 M22)
theorem stK_R {i : Nat} {B : Mem} (hG : WsG q ws) (hI : MI T n q ws B i) (hi : i < ws.length) : ∃ v B', stK mA B = some (v, B') ∧ MR T n q ws B B' v (pthen (pRules 12 (ws.drop i)) fun l ts => pthen (pWord 28 28 ts) fun _ ts => .inl (l, ts)) i := by
  unfold stK
  have := rules_R (mA := mA) hG 12 0 FUEL i B rfl (by unfold FUEL; omega) hI hi
  rw [show nI 0 = (0 : Int32) from rfl] at this
  exact fin_R hG this rfl (by decide) r125 (by decide) (by decide) (fun l => l)
theorem state_e {M : Mem} : R_X11_state mA M = if (M.1 242 5) = (10 : Int32) then (ck (M.1 242 8) 6 (if (M.1 246 (M.1 242 8).toNatClampNeg) = (8 : Int32) then (cz (V_X11_wrong  M) (some ((V_X11_wrong  M), U_X11_wrong  M))) else (bnd2 (R_X11_keepWord  mA M) (fun _ M5 => ck (M5.1 242 8) 6 (ck (M5.1 246 (M5.1 242 8).toNatClampNeg) 8 (bnd2 (R_X11_name (1 : Int32) mA (setJ M5 248 (M5.1 246 (M5.1 242 8).toNatClampNeg).toNatClampNeg (M5.2 242 7))) (fun v8 M8 => if v8 = 0 then (some ((0 : Int32), M8)) else (bnd2 (R_X11_is (123 : Int32) mA M8) (fun v10 M10 => if v10 = 0 then (some ((0 : Int32), M10)) else (ck (M10.1 242 8) 6 (ck (((8 : Int32) * (M10.1 242 8)) + (M10.1 246 (M10.1 242 8).toNatClampNeg)) 48 (ck (M10.1 242 8) 6 (ck (M10.1 242 8) 6 (stK mA (setI (setI M10 247 (((8 : Int32) * (M10.1 242 8)) + (M10.1 246 (M10.1 242 8).toNatClampNeg)).toNatClampNeg (M10.1 242 11)) 246 (M10.1 242 8).toNatClampNeg ((M10.1 246 (M10.1 242 8).toNatClampNeg) + (1 : Int32))))))))))))))))) else (cz (V_X11_wrong  M) (some ((V_X11_wrong  M), U_X11_wrong  M))) := by
  unfold R_X11_state stK fin
  rfl
end RD
