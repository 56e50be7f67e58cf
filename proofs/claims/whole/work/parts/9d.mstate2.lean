section RD
variable {T : Nat → Nat} {n q mA : Nat} {ws : List Tk}
theorem drop_inj {i j : Nat} (hi : i < ws.length) (hj : j < ws.length) (h : ws.drop i = ws.drop j) : i = j := by
  have := congrArg List.length h
  rw [List.length_drop, List.length_drop] at this
  omega
/-- a state was read by the model, or a fault found -/
def SR (T : Nat → Nat) (n q : Nat) (ws : List Tk) (B B' : Mem) (v : Int32) (i c : Nat) : Prop := FrX q B B' ∧ ((∃ ps i', pState (ws.drop i) = .inl (ps, ws.drop i') ∧ i + 3 ≤ i' ∧ i' < ws.length ∧ v = 1 ∧ MI T n q ws B' i' ∧ B'.1 246 q = nI (c + 1) ∧ B'.1 247 (8 * q + c) = nI (i + 3) ∧ (∀ x, x < c → B'.1 247 (8 * q + x) = B.1 247 (8 * q + x)) ∧ B'.2 248 c = Int64.ofNat (pkN 27 ps.1) ∧ (∀ x, x < c → B'.2 248 x = B.2 248 x) ∧ ∃ h' u, pRules 12 (ws.drop (i + 3)) = .inl (ps.2, ws.drop h') ∧ ws[h']? = some u ∧ u.1 = 28) ∨ (∃ p, pState (ws.drop i) = .inr p ∧ v = 0 ∧ p ≤ 800 ∧ B'.1 242 2 = nI p))
theorem state_8 {i : Nat} {t : Tk} {B : Mem} (hG : WsG q ws) (hI : MI T n q ws B i) (e : ws[i]? = some t) (h246 : B.1 246 q = nI 8) : ∃ B', R_X11_state mA B = some (0, B') ∧ FrX q B B' ∧ t.2.2.2 ≤ 800 ∧ B'.1 242 2 = nI t.2.2.2 := by
  have W := MR.wrong (α := Tk) hG hI e
  have hq := hG.1
  have W2 : FrX q B (U_X11_wrong B) ∧ t.2.2.2 ≤ 800 ∧ (U_X11_wrong B).1 242 2 = nI t.2.2.2 := by
    rcases W.2 with ⟨_, _, z, _⟩ | ⟨p, z1, z2, z3, z4⟩
    · cases z
    · cases z1; exact ⟨W.1.x, z3, z4⟩
  refine ⟨U_X11_wrong B, ?_, W2⟩
  rw [state_e, hI.2.1, ck_nI (by omega) (by omega), nI_clamp (by omega), h246, if_pos (show nI 8 = (8 : Int32) from rfl), cz_v W.v]
  split <;> rfl
theorem state_R {i c : Nat} {B : Mem} (hG : WsG q ws) (hI : MI T n q ws B i) (hi : i < ws.length) (hc : c < 8) (h246 : B.1 246 q = nI c) : ∃ v B', R_X11_state mA B = some (v, B') ∧ SR T n q ws B B' v i c := by
  have hq := hG.1
  obtain ⟨t, e⟩ := get_lt hi
  have h38 := (hG.2.2.2.2 i t e).2.1
  rw [state_e, hI.2.1, ck_nI (by omega) (by omega), nI_clamp (by omega), h246, if_neg (nI_ne (y := 8) (b := 8) rfl (by omega) (by omega) (by decide)), hI.k e]
  unfold SR pState
  rw [drop_c e, pWord]
  by_cases c0 : 0 ≤ t.1 ∧ t.1 ≤ 0
  · rw [if_pos c0, if_pos ((q10 h38).mpr c0)]
    dsimp only [pthen]
    obtain ⟨B1, y1, y2, y3, _⟩ := keep_M (mA := mA) hG hI e (by omega) (by omega)
    have hi1 := (hG.i8 e (by omega)).2
    have a246 : ∀ {X Y : Mem}, FrY q X Y → Y.1 246 = X.1 246 := fun F => F.1 246 (by decide) (by decide) (by decide) (by decide) (by decide) (by decide)
    have a247 : ∀ {X Y : Mem}, FrY q X Y → Y.1 247 = X.1 247 := fun F => F.1 247 (by decide) (by decide) (by decide) (by decide) (by decide) (by decide)
    have a248 : ∀ {X Y : Mem}, FrY q X Y → Y.2 248 = X.2 248 := fun F => F.2.2.2.1 248 (by decide) (by decide)
    rw [bnd2_e y1, y2.2.1, ck_nI (by omega) (by omega), nI_clamp (by omega), a246 y3, h246, ck_nI (by omega) (by omega), nI_clamp (by omega)]
    obtain ⟨B2, hB2⟩ : ∃ X, X = setJ B1 248 c (B1.2 242 7) := ⟨_, rfl⟩
    have I2 : MI T n q ws B2 (i + 1) := y2.o (fun d _ _ => by rw [hB2]; rfl) (fun d hd => by rw [hB2]; exact fJ hd)
    have F2 : FrX q B1 B2 := by
      rw [hB2]
      exact ⟨fun _ _ _ _ _ _ _ _ _ => rfl, fun _ _ _ _ _ _ _ _ _ => rfl, fun _ _ _ _ => rfl, fun _ _ => rfl, fun _ _ => rfl, fun d _ p2 _ => fJ p2, fun j _ => gJ (Or.inl (by decide))⟩
    rw [← hB2]
    obtain ⟨u, eu⟩ := get_lt hi1
    obtain ⟨v, B3, z1, z2⟩ := name_R (mA := mA) (x := 1) hG I2 hi1 (by rw [isSt_e e, if_pos (show t.1 = 0 by omega)]) (Or.inr rfl)
    rw [bnd2_e z1]
    rcases z2.2 with ⟨a, i3, w1, w2, w3, w4, w5⟩ | ⟨p, w1, w2, w3, w4⟩
    · subst w4
      rw [if_neg (show ¬ (1 : Int32) = 0 by decide)]
      have w1' := w1
      rw [drop_c eu, pWord] at w1'
      have c26 : 26 ≤ u.1 ∧ u.1 ≤ 26 := by
        refine Decidable.by_contra (fun hh => ?_)
        rw [if_neg hh] at w1'; cases w1'
      rw [if_pos c26] at w1'
      have ea : u = a ∧ ws.drop (i + 1 + 1) = ws.drop i3 := by
        have := Sum.inl.inj w1'
        exact ⟨(Prod.mk.inj this).1, (Prod.mk.inj this).2⟩
      have hi2 := (hG.i8 eu (by omega)).2
      have ei3 := drop_inj hi2 w3 ea.2
      obtain ⟨ea1, _⟩ := ea
      subst ea1 ei3
      rw [w1]
      dsimp only
      obtain ⟨v4, B4, x1, x2⟩ := is_R (mA := mA) (x := 123) (D := 123) hG w5 w3 rfl (by decide) r123 (by decide) (by decide)
      rw [bnd2_e x1]
      rcases x2.2 with ⟨o, i4, o1, o2, o3, o4, o5⟩ | ⟨p, o1, o2, o3, o4⟩
      · subst o4
        rw [if_neg (show ¬ (1 : Int32) = 0 by decide)]
        obtain ⟨r, er⟩ := get_lt w3
        have o1' := o1
        rw [drop_c er, pWord] at o1'
        have c27 : 27 ≤ r.1 ∧ r.1 ≤ 27 := by
          refine Decidable.by_contra (fun hh => ?_)
          rw [if_neg hh] at o1'; cases o1'
        rw [if_pos c27] at o1'
        have eo : ws.drop (i + 1 + 1 + 1) = ws.drop i4 := (Prod.mk.inj (Sum.inl.inj o1')).2
        have hi3 := (hG.i8 er (by omega)).2
        have ei4 := drop_inj hi3 o3 eo
        subst ei4
        rw [o1]
        dsimp only
        have F4 := z2.1.tr x2.1
        have m246 : B4.1 246 q = nI c := by rw [a246 F4, hB2]; show B1.1 246 q = nI c; rw [a246 y3]; exact h246
        have e82 : (8 : Int32) * nI q + nI c = nI (8 * q + c) := by rw [show (8 : Int32) = nI 8 from rfl, pk_mul, nI_add]
        rw [o5.2.1, ck_nI (by omega) (by omega), nI_clamp (by omega), m246, e82, ck_nI (by omega) (by omega), ck_nI (by omega) (by omega), ck_nI (by omega) (by omega), nI_clamp (by omega), o5.2.2.2.1, nI_1]
        obtain ⟨B5, hB5⟩ : ∃ X, X = setI (setI B4 247 (8 * q + c) (nI (i + 1 + 1 + 1))) 246 q (nI (c + 1)) := ⟨_, rfl⟩
        have I5 : MI T n q ws B5 (i + 1 + 1 + 1) := o5.o (fun d p1 p2 => by rw [hB5, fI p1, fI p2]) (fun d _ => by rw [hB5]; rfl)
        have F5 : FrX q B4 B5 := by
          rw [hB5]
          exact ⟨fun d _ _ _ p4 p5 _ _ _ => by rw [fI p4, fI p5], fun j _ _ _ _ _ _ _ _ => by rw [gI (Or.inl (by decide)), gI (Or.inl (by decide))], fun d p x _ => by rw [gI (Or.inl (by omega)), gI (Or.inl (by omega))], fun x hx => by rw [gI (Or.inr hx), gI (Or.inl (by decide))], fun x hx => by rw [gI (Or.inl (by decide)), gI (Or.inr (by omega))], fun _ _ _ _ => rfl, fun _ _ => rfl⟩
        rw [← hB5]
        obtain ⟨v6, B6, k1, k2⟩ := stK_R (mA := mA) hG I5 hi3
        have FX : FrX q B B5 := ((y3.x.tr F2).tr F4.x).tr F5
        refine ⟨v6, B6, k1, FX.tr k2.1.x, ?_⟩
        have j248 : B6.2 248 = B2.2 248 := by rw [a248 k2.1, hB5]; show B4.2 248 = B2.2 248; exact a248 F4
        have hc8 : B2.2 248 c = Int64.ofNat (pkN 27 u.2.1) := by
          rw [hB2, gs_eJ]
          obtain ⟨_, _, _, _, ⟨u', eu', hH⟩, _⟩ := y2
          have : u' = u := Option.some.inj (eu'.symm.trans eu)
          subst this
          exact hH.2.2.2.2.1 (by omega)
        rcases k2.2 with ⟨l, i6, l1, l2, l3, l4, l5⟩ | ⟨p, l1, l2, l3, l4⟩
        · left
          refine ⟨(u.2.1, l), i6, ?_, by omega, l3, l4, l5, ?_, ?_, fun x hx => ?_, ?_, fun x hx => ?_, ?_⟩
          · have := congrArg (fun r => pthen r (fun l ts => (.inl ((u.2.1, l), ts) : PR PS))) l1
            simp only [pthen_as] at this
            exact this
          · rw [a246 k2.1, hB5, gs_eI]
          · rw [a247 k2.1, hB5, gI (Or.inl (by decide)), gs_eI]
          · rw [a247 k2.1, hB5, gI (Or.inl (by decide)), gI (Or.inr (by omega)), a247 F4, hB2]
            show B1.1 247 _ = _
            rw [a247 y3]
          · rw [j248]; exact hc8
          · rw [j248, hB2, gJ (Or.inr (by omega)), a248 y3]
          · obtain ⟨vr, Br, r1, r2⟩ := rules_R (mA := mA) hG 12 0 FUEL (i + 1 + 1 + 1) B5 rfl (by unfold FUEL; omega) I5 hi3
            rcases r2.2 with ⟨l', h', r3, r4, r5, r6, r7⟩ | ⟨p, r3, _⟩
            · rw [r3] at l1
              obtain ⟨w, ts, q1, q2⟩ := pthen_el l1
              obtain ⟨q3, q4⟩ := Prod.mk.inj (Sum.inl.inj q1)
              subst q3
              obtain ⟨w2, ts2, q5, q6⟩ := pthen_el q2
              cases q6
              obtain ⟨z, ez⟩ := get_lt r5
              rw [← q4, drop_c ez, pWord] at q5
              refine ⟨h', z, r3, ez, ?_⟩
              split at q5
              · omega
              · cases q5
            · rw [r3] at l1; cases l1
        · right
          refine ⟨p, ?_, l2, l3, l4⟩
          have := congrArg (fun r => pthen r (fun l ts => (.inl ((u.2.1, l), ts) : PR PS))) l1
          simp only [pthen_as] at this
          exact this
      · subst o2
        rw [if_pos rfl, o1]
        exact ⟨0, B4, rfl, ((y3.x.tr F2).tr z2.1.x).tr x2.1.x, Or.inr ⟨p, rfl, rfl, o3, o4⟩⟩
    · subst w2
      rw [if_pos rfl, w1]
      exact ⟨0, B3, rfl, (y3.x.tr F2).tr z2.1.x, Or.inr ⟨p, rfl, rfl, w3, w4⟩⟩
  · have W := MR.wrong (α := Tk) hG hI e
    rw [if_neg c0, if_neg (fun z => c0 ((q10 h38).mp z)), cz_v W.v]
    refine ⟨_, _, rfl, W.1.x, Or.inr ?_⟩
    rcases W.2 with ⟨_, _, z, _⟩ | ⟨p, z1, z2, z3, z4⟩
    · cases z
    · cases z1; exact ⟨_, rfl, z2, z3, z4⟩
end RD
