section RD
variable {T : Nat → Nat} {n q mA : Nat} {ws : List Tk}
def StM (B : Mem) (q : Nat) (ws : List Tk) (c : Nat) (l : List PS) : Prop := ∀ s ps, l[s]? = some ps → ∃ h h' u, B.1 247 (8 * q + (c + s)) = nI h ∧ pRules 12 (ws.drop h) = .inl (ps.2, ws.drop h') ∧ ws[h']? = some u ∧ u.1 = 28 ∧ B.2 248 (c + s) = Int64.ofNat (pkN 27 ps.1)
theorem pStates_c {g : Nat} {t : Tk} {l : List Tk} : pStates (g + 1) (t :: l) = if t.1 = 37 then .inl ([], t :: l) else pthen (pState (t :: l)) fun a ts => pthen (pStates g ts) fun l us => .inl (a :: l, us) := by
  rw [pStates]
  rfl
theorem pStates_0 {t : Tk} {l : List Tk} : pStates 0 (t :: l) = if t.1 = 37 then .inl ([], t :: l) else .inr t.2.2.2 := by
  rw [pStates]
  rfl
theorem states_R (hG : WsG q ws) : ∀ (g c f i : Nat) (B : Mem), g + c = 8 → g + 1 < f → MI T n q ws B i → i < ws.length → B.1 246 q = nI c → ∃ v B', L_X11_read_56 mA f 1 B = some (v, B') ∧ FrX q B B' ∧
    ((∃ l i', pStates g (ws.drop i) = .inl (l, ws.drop i') ∧ i ≤ i' ∧ (∃ t, ws[i']? = some t ∧ t.1 = 37) ∧ v = 1 ∧ MI T n q ws B' i' ∧ B'.1 246 q = nI (c + l.length) ∧ StM B' q ws c l ∧ (∀ x, x < c → B'.1 247 (8 * q + x) = B.1 247 (8 * q + x)) ∧ (∀ x, x < c → B'.2 248 x = B.2 248 x)) ∨ (∃ p, pStates g (ws.drop i) = .inr p ∧ v = 0 ∧ p ≤ 800 ∧ B'.1 242 2 = nI p)) := by
  have endC : ∀ (f c i : Nat) (B : Mem) (t : Tk) (r : PR (List PS)), MI T n q ws B i → ws[i]? = some t → t.1 = 37 → B.1 246 q = nI c → r = .inl ([], ws.drop i) → ∃ v B', L_X11_read_56 mA (f + 1) 1 B = some (v, B') ∧ FrX q B B' ∧
    ((∃ l i', r = .inl (l, ws.drop i') ∧ i ≤ i' ∧ (∃ t, ws[i']? = some t ∧ t.1 = 37) ∧ v = 1 ∧ MI T n q ws B' i' ∧ B'.1 246 q = nI (c + l.length) ∧ StM B' q ws c l ∧ (∀ x, x < c → B'.1 247 (8 * q + x) = B.1 247 (8 * q + x)) ∧ (∀ x, x < c → B'.2 248 x = B.2 248 x)) ∨ (∃ p, r = .inr p ∧ v = 0 ∧ p ≤ 800 ∧ B'.1 242 2 = nI p)) := by
    intro f c i B t r hI e h37 h246 hr
    have h38 := (hG.2.2.2.2 i t e).2.1
    refine ⟨1, B, ?_, FrY.rf.x, Or.inl ⟨[], i, hr, Nat.le_refl _, ⟨t, e, h37⟩, rfl, hI, h246, (fun s ps es => by cases es), fun _ _ => rfl, fun _ _ => rfl⟩⟩
    rw [L_X11_read_56, if_neg (show ¬ (1 : Int32) = 0 by decide), hI.k e, if_pos ((q0 h38).mpr (by omega))]
  intro g
  induction g with
  | zero =>
    intro c f i B hc hf hI hi h246
    obtain ⟨f, rfl⟩ : ∃ m, f = m + 1 := ⟨f - 1, by omega⟩
    have hc8 : c = 8 := by omega
    subst hc8
    obtain ⟨t, e⟩ := get_lt hi
    have h38 := (hG.2.2.2.2 i t e).2.1
    by_cases c37 : t.1 = 37
    · exact endC f 8 i B t _ hI e c37 h246 (by rw [drop_c e, pStates_0, if_pos c37])
    · obtain ⟨B', y1, y2, y3, y4⟩ := state_8 (mA := mA) hG hI e h246
      obtain ⟨f, rfl⟩ : ∃ m, f = m + 1 := ⟨f - 1, by omega⟩
      refine ⟨0, B', ?_, y2, Or.inr ⟨t.2.2.2, by rw [drop_c e, pStates_0, if_neg c37], rfl, y3, y4⟩⟩
      rw [L_X11_read_56, if_neg (show ¬ (1 : Int32) = 0 by decide), hI.k e, if_neg (fun z => by have := (q0 h38).mp z; omega), bnd2_e y1, L_X11_read_56, if_pos rfl]
  | succ g ih =>
    intro c f i B hc hf hI hi h246
    obtain ⟨f, rfl⟩ : ∃ m, f = m + 1 := ⟨f - 1, by omega⟩
    obtain ⟨t, e⟩ := get_lt hi
    have h38 := (hG.2.2.2.2 i t e).2.1
    by_cases c37 : t.1 = 37
    · exact endC f c i B t _ hI e c37 h246 (by rw [drop_c e, pStates_c, if_pos c37])
    · have eP : pStates (g + 1) (ws.drop i) = pthen (pState (ws.drop i)) fun a ts => pthen (pStates g ts) fun l us => .inl (a :: l, us) := by
        rw [drop_c e, pStates_c, if_neg c37]
      obtain ⟨v, B1, y1, F1, y2⟩ := state_R (mA := mA) hG hI hi (show c < 8 by omega) h246
      rw [eP, L_X11_read_56, if_neg (show ¬ (1 : Int32) = 0 by decide), hI.k e, if_neg (fun z => by have := (q0 h38).mp z; omega), bnd2_e y1]
      rcases y2 with ⟨ps, i1, w1, w2, w3, w4, w5, w6, w7, w8, w9, w10, h', u, w11, w12, w13⟩ | ⟨p, w1, w2, w3, w4⟩
      · subst w4
        rw [w1]
        dsimp only [pthen]
        obtain ⟨v', B', x1, F2, x2⟩ := ih (c + 1) f i1 B1 (by omega) (by omega) w5 w3 w6
        refine ⟨v', B', x1, F1.tr F2, ?_⟩
        rcases x2 with ⟨l, i', z1, z2, z3, z4, z5, z6, z7, z8, z9⟩ | ⟨p, z1, z2, z3, z4⟩
        · left
          rw [z1]
          refine ⟨ps :: l, i', rfl, by omega, z3, z4, z5, ?_, ?_, fun x hx => (z8 x (by omega)).trans (w8 x hx), fun x hx => (z9 x (by omega)).trans (w10 x hx)⟩
          · rw [List.length_cons, show c + (l.length + 1) = c + 1 + l.length by omega]; exact z6
          · intro s ps' es
            cases s with
            | zero =>
              have : ps = ps' := Option.some.inj es
              subst this
              exact ⟨i + 3, h', u, by rw [Nat.add_zero, z8 c (by omega)]; exact w7, w11, w12, w13, by rw [Nat.add_zero, z9 c (by omega)]; exact w9⟩
            | succ s =>
              have := z7 s ps' es
              rw [show c + 1 + s = c + (s + 1) by omega] at this
              exact this
        · right
          rw [z1]
          exact ⟨p, rfl, z2, z3, z4⟩
      · subst w2
        obtain ⟨f, rfl⟩ : ∃ m, f = m + 1 := ⟨f - 1, by omega⟩
        rw [w1, L_X11_read_56, if_pos rfl]
        exact ⟨0, B1, rfl, F1, Or.inr ⟨p, rfl, rfl, w3, w4⟩⟩
theorem prog_R {B : Mem} (hG : WsG q ws) (hI : MI T n q ws B 0) (hi : 0 < ws.length) (h246 : B.1 246 q = 0) : ∃ v B', bnd2 (R_X11_state mA B) (fun v4 M4 => L_X11_read_56 mA FUEL v4 M4) = some (v, B') ∧ FrX q B B' ∧
    ((∃ l i', pProg ws = .inl (l, ws.drop i') ∧ (∃ t, ws[i']? = some t ∧ t.1 = 37) ∧ v = 1 ∧ MI T n q ws B' i' ∧ B'.1 246 q = nI l.length ∧ StM B' q ws 0 l) ∨ (∃ p, pProg ws = .inr p ∧ v = 0 ∧ p ≤ 800 ∧ B'.1 242 2 = nI p)) := by
  obtain ⟨F0, hF0⟩ : ∃ m, FUEL = m + 1 := ⟨FUEL - 1, by unfold FUEL; omega⟩
  obtain ⟨v, B1, y1, F1, y2⟩ := state_R (mA := mA) (c := 0) hG hI hi (by omega) h246
  rw [List.drop_zero] at y2
  rw [bnd2_e y1]
  unfold pProg
  rcases y2 with ⟨ps, i1, w1, w2, w3, w4, w5, w6, w7, w8, w9, w10, h', u, w11, w12, w13⟩ | ⟨p, w1, w2, w3, w4⟩
  · subst w4
    rw [w1]
    dsimp only [pthen]
    obtain ⟨v', B', x1, F2, x2⟩ := states_R (mA := mA) hG 7 1 FUEL i1 B1 rfl (by unfold FUEL; omega) w5 w3 w6
    refine ⟨v', B', x1, F1.tr F2, ?_⟩
    rcases x2 with ⟨l, i', z1, z2, z3, z4, z5, z6, z7, z8, z9⟩ | ⟨p, z1, z2, z3, z4⟩
    · left
      rw [z1]
      refine ⟨ps :: l, i', rfl, z3, z4, z5, ?_, ?_⟩
      · rw [List.length_cons, show l.length + 1 = 1 + l.length by omega]; exact z6
      · intro s ps' es
        cases s with
        | zero =>
          have : ps = ps' := Option.some.inj es
          subst this
          exact ⟨0 + 3, h', u, (z8 0 (by omega)).trans w7, w11, w12, w13, (z9 0 (by omega)).trans w9⟩
        | succ s =>
          have := z7 s ps' es
          rw [show 1 + s = 0 + (s + 1) by omega] at this
          exact this
    · right
      rw [z1]
      exact ⟨p, rfl, z2, z3, z4⟩
  · subst w2
    rw [w1, hF0, L_X11_read_56, if_pos rfl]
    exact ⟨0, B1, rfl, F1, Or.inr ⟨p, rfl, rfl, w3, w4⟩⟩
end RD
