/-! ===== the class judges the names, resolves the goes ===== -/
theorem nm_b {nm : List (List Nat)} {x : List Nat} (h8 : nm.length ≤ 8) : ∀ i, fnd nm x 0 = some i → i < 2 ^ 31 := fun i e => by
  have := (fnd_lt nm 0 i e).2.1
  omega
theorem judge_C {P : Nat} {ws : List Tk} {A : Mem} {nm : List (List Nat)} (hW : WRow A ws) (h6 : A.1 2 6 = nI ws.length) (h9 : A.1 2 9 = -1) (hN : NmC A P nm) (hNm : NmW ws) : ∀ (k j f c pk : Nat), j + k = ws.length → 1 ≤ j → k + 1 < f → c + k < 2 ^ 30 → (∃ t, ws[j - 1]? = some t ∧ t.1 = pk) → L_X4_judgeNames_4 2 P f (nI c) (nI j) A = some (match jdg nm (ws.drop j) pk c with | none => A | some p => setI A 2 9 (nI p)) := by
  have hl := hW.1
  intro k
  induction k with
  | zero =>
    intro j f c pk hj h1 hf hc hpk
    obtain ⟨f, rfl⟩ : ∃ m, f = m + 1 := ⟨f - 1, by omega⟩
    rw [L_X4_judgeNames_4, h6, if_pos (nI_le (by omega) (by omega)), List.drop_eq_nil_of_le (by omega)]
    rfl
  | succ k ih =>
    intro j f c pk hj h1 hf hc hpk
    obtain ⟨f, rfl⟩ : ∃ m, f = m + 1 := ⟨f - 1, by omega⟩
    have hjl : j < ws.length := by omega
    obtain ⟨t, e⟩ := get_lt hjl
    obtain ⟨w1, w2, w3, w4, w5, w6⟩ := hW.2 j t e
    obtain ⟨u, eu, hu⟩ := hpk
    obtain ⟨v1, v2, v3, _⟩ := hW.2 (j - 1) u eu
    have nx : ∃ v : Tk, ws[j + 1 - 1]? = some v ∧ v.1 = t.1 := ⟨t, by rw [Nat.add_sub_cancel]; exact e, rfl⟩
    have eJ : nI j - (1 : Int32) = nI (j - 1) := by rw [show (1 : Int32) = nI 1 from rfl, pk_sub h1]
    rw [L_X4_judgeNames_4, h6, if_neg (nI_ge hjl (by omega)), if_neg (nleL (y := 801) 801 (by omega) rfl (by decide)), h9, if_neg m1_nle, ck_nI (by omega) (by omega), nI_clamp (by omega), show (2 : Nat) + 3 = 5 from rfl, w1, drop_c e, jdg, nI_1 j]
    by_cases c26 : t.1 = 26
    · have hx := hNm t (List.mem_of_getElem? e) c26
      have hb := nm_b (x := t.2.1) hN.2.1
      rw [if_pos c26, if_pos (show nI t.1 = (26 : Int32) by rw [c26]; rfl), ck_nI (by omega) (by omega), show (2 : Nat) + 4 = 6 from rfl, w6 c26, bnd1_e (hN.st hx), bd1_s, eJ, ck_nI (by omega) (by omega), nI_clamp (by omega), v1, oI_neg hb, oI_bad (by omega) hb]
      have fl : ∀ x : Int32, L_X4_judgeNames_4 2 P f x (nI (j + 1)) (setI A 2 9 (nI t.2.2.2)) = some (setI A 2 9 (nI t.2.2.2)) := by
        intro x
        obtain ⟨f, rfl⟩ : ∃ m, f = m + 1 := ⟨f - 1, by omega⟩
        rw [L_X4_judgeNames_4]
        split
        · rfl
        · split
          · rfl
          · rw [gs_eI, if_pos (nI_pos' (by omega))]
      by_cases c0 : pk = 0
      · rw [if_pos c0, if_pos (show nI u.1 = 0 by rw [hu, c0]; rfl), bd1_s, bd2_s]
        by_cases cb : badN (fnd nm t.2.1 0) c = true
        · rw [if_pos cb, if_pos cb, if_neg (show ¬ (1 : Int32) = 0 by decide), ck_nI (by omega) (by omega), show (2 : Nat) + 5 = 7 from rfl, w2, bnd2_s]
          exact fl _
        · rw [if_neg cb, if_neg cb, if_pos (rfl : (0 : Int32) = 0), bnd2_s, nI_1 c]
          exact ih (j + 1) f (c + 1) t.1 (by omega) (by omega) (by omega) (by omega) nx
      · rw [if_neg c0, if_neg (show ¬ nI u.1 = 0 from nI_ne (y := 0) (b := 0) rfl (by omega) (by omega) (by decide)), bd2_s]
        by_cases cb : fnd nm t.2.1 0 = none
        · rw [if_pos cb, if_pos cb, if_neg (show ¬ (1 : Int32) = 0 by decide), ck_nI (by omega) (by omega), show (2 : Nat) + 5 = 7 from rfl, w2, bnd2_s]
          exact fl _
        · rw [if_neg cb, if_neg cb, if_pos (rfl : (0 : Int32) = 0), bnd2_s]
          exact ih (j + 1) f c t.1 (by omega) (by omega) (by omega) (by omega) nx
    · rw [if_neg c26, if_neg (show ¬ nI t.1 = (26 : Int32) from nI_ne (y := 26) (b := 26) rfl c26 (by omega) (by decide)), bnd2_s]
      exact ih (j + 1) f c t.1 (by omega) (by omega) (by omega) (by omega) nx
def rsJ (A : Mem) (P : Nat) (nj : List Int64) (x : Nat) : Int64 := if A.1 (P + 7) x = 3 then (oI (fndJ nj (A.2 (P + 8) x) 0)).toInt64 else A.2 (P + 8) x
theorem resolve_loop {P a : Nat} {A : Mem} {nj : List Int64} (h0 : A.1 P 0 = nI nj.length) (h8 : nj.length ≤ 8) (hn : ∀ j v, nj[j]? = some v → A.2 (P + 1) j = v) (h9 : A.1 P 9 = nI a) (ha : a ≤ 400) : ∀ (k i f : Nat) (A1 : Mem), i + k = a → k < f → A1.1 = A.1 → (∀ d, d ≠ P + 8 → A1.2 d = A.2 d) → (∀ x, i ≤ x → A1.2 (P + 8) x = A.2 (P + 8) x) → (∀ x, x < i → A1.2 (P + 8) x = rsJ A P nj x) → ∃ A', L_X3_resolveGoes_2 P f (nI i) A1 = some A' ∧ A'.1 = A.1 ∧ (∀ d, d ≠ P + 8 → A'.2 d = A.2 d) ∧ ∀ x, x < a → A'.2 (P + 8) x = rsJ A P nj x := by
  intro k
  induction k with
  | zero =>
    intro i f A1 hi hf e1 e2 e3 e4
    obtain ⟨f, rfl⟩ : ∃ m, f = m + 1 := ⟨f - 1, by omega⟩
    refine ⟨A1, ?_, e1, e2, fun x hx => e4 x (by omega)⟩
    rw [L_X3_resolveGoes_2, e1, h9, if_pos (nI_le (by omega) (by omega))]
  | succ k ih =>
    intro i f A1 hi hf e1 e2 e3 e4
    obtain ⟨f, rfl⟩ : ∃ m, f = m + 1 := ⟨f - 1, by omega⟩
    rw [L_X3_resolveGoes_2, e1, h9, if_neg (nI_ge (by omega) (by omega)), if_neg (nleL (y := 400) 400 (by omega) rfl (by decide)), ck_nI (by omega) (by omega), nI_clamp (by omega), ck_nI (by omega) (by omega), nI_1, e3 i (Nat.le_refl _)]
    by_cases c : A.1 (P + 7) i = 3
    · have hs := stateNamed_C (P := P) (x := A.2 (P + 8) i) (A := A1) (nj := nj) (by rw [e1]; exact h0) h8 (fun j v e => by rw [e2 _ (by omega)]; exact hn j v e)
      rw [if_pos c, bnd1_e hs, ck_nI (by omega) (by omega), bnd1_s]
      refine ih (i + 1) f _ (by omega) (by omega) e1 (fun d hd => by rw [fJ hd]; exact e2 d hd) (fun x hx => by rw [gJ (Or.inr (by omega))]; exact e3 x (by omega)) (fun x hx => ?_)
      by_cases cx : x = i
      · subst cx
        rw [gs_eJ]
        unfold rsJ
        rw [if_pos c]
      · rw [gJ (Or.inr cx)]; exact e4 x (by omega)
    · rw [if_neg c, bnd1_s]
      refine ih (i + 1) f _ (by omega) (by omega) e1 e2 (fun x hx => e3 x (by omega)) (fun x hx => ?_)
      by_cases cx : x = i
      · subst cx
        rw [e3 x (Nat.le_refl _)]
        unfold rsJ
        rw [if_neg c]
      · exact e4 x (by omega)
theorem resolve_C {P a : Nat} {A : Mem} {nj : List Int64} (h0 : A.1 P 0 = nI nj.length) (h8 : nj.length ≤ 8) (hn : ∀ j v, nj[j]? = some v → A.2 (P + 1) j = v) (h9 : A.1 P 9 = nI a) (ha : a ≤ 400) : ∃ A', R_X3_resolveGoes P A = some A' ∧ A'.1 = A.1 ∧ (∀ d, d ≠ P + 8 → A'.2 d = A.2 d) ∧ ∀ x, x < a → A'.2 (P + 8) x = rsJ A P nj x := by
  obtain ⟨A', g1, g2⟩ := resolve_loop h0 h8 hn h9 ha a 0 FUEL A (by omega) (by unfold FUEL; omega) rfl (fun _ _ => rfl) (fun _ _ => rfl) (fun x hx => by omega)
  refine ⟨A', ?_, g2⟩
  unfold R_X3_resolveGoes
  rw [show (0 : Int32) = nI 0 from rfl, bnd1_e g1]
/-! a program with its goes resolved -/
def rsv (nm : List (List Nat)) (pa : PA) : Ac := (nI pa.1, if pa.1 = 3 then oI (fnd nm pa.2.1 0) else nI pa.2.2.1, pa.2.2.2)
def rsL (nm : List (List Nat)) (pl : PL) : Rl := (pl.1, pl.2.map (rsv nm))
def rsP (l : List PS) : Pg := l.map (fun ps => ps.2.map (rsL (l.map (fun ps => ps.1))))
theorem SmK.cc {A A' : Mem} {P s k n : Nat} {sm : Sm} (h : SmK A P s k n sm) (hk : k ≤ 400) (e : A'.1 = A.1) : SmC A' P n sm := by
  obtain ⟨_, h2, i0, h3, h4, h5, h6⟩ := h
  refine ⟨h2, i0, by rw [e]; exact h3, by rw [e]; exact h4, by omega, fun j t ej => ?_⟩
  have := h6 j t ej
  unfold TmC at this ⊢
  rw [e]; exact this
theorem map_at {α β : Type} {f : α → β} {l : List α} {j : Nat} {b : β} (h : (l.map f)[j]? = some b) : ∃ a, l[j]? = some a ∧ f a = b := by
  rw [List.getElem?_map] at h
  cases hw : l[j]? with
  | none => rw [hw] at h; cases h
  | some w =>
    rw [hw] at h
    exact ⟨w, rfl, Option.some.inj h⟩
theorem len_at {α : Type} {l : List α} {j : Nat} {a : α} (h : l[j]? = some a) : j < l.length := by
  obtain ⟨w, _⟩ := List.getElem?_eq_some_iff.mp h
  exact w
theorem acV_i {pa : PA} (h : pa.1 ≠ 3) : (acV pa).toInt32 = nI pa.2.2.1 := by
  unfold acV
  rw [if_neg h]
  exact lN_i pa.2.2.1
theorem i64_32 (x : Int32) : x.toInt64.toInt32 = x := by simp
theorem RlK.c {A A' : Mem} {P s k q a r : Nat} {pl : PL} {ts : List Tk} {nm : List (List Nat)} (h : RlK A P s k q a r pl) (hk : k ≤ 400) (hq : q ≤ 400) (ha : a ≤ 400) (e1 : A'.1 = A.1) (hN : ∀ w ∈ nm, NmO w) (hJ : ∀ x, x < a → A'.2 (P + 8) x = rsJ A P (nm.map (fun w => Int64.ofNat (pkN 32 w))) x) (hts : NmW ts) (hG : ∀ pa ∈ pl.2, GoN ts pa) : RlC A' P r (rsL nm pl) := by
  obtain ⟨⟨q0, a1, a2, a3, a4⟩, a0, b1, b2, b3, b4⟩ := h
  refine ⟨⟨q0, by rw [e1]; exact a1, by rw [e1]; exact a2, by show q0 + pl.1.length ≤ 400; omega, fun j t ej => ?_⟩, a0, by rw [e1]; exact b1, ?_, ?_, fun j ac ej => ?_⟩
  · obtain ⟨c1, n, c2, c3, c4⟩ := a4 j t ej
    exact ⟨by rw [e1]; exact c1, n, by rw [e1]; exact c2, c3.cc hk e1, c4.cc hk e1⟩
  · show A'.1 (P + 4) (r + 1) = nI (a0 + (pl.2.map (rsv nm)).length)
    rw [List.length_map, e1]; exact b2
  · show a0 + (pl.2.map (rsv nm)).length ≤ 400
    rw [List.length_map]; omega
  · obtain ⟨pa, ep, rfl⟩ := map_at ej
    have hj := len_at ep
    obtain ⟨⟨c1, c2, n, c3, c4⟩, c5⟩ := b4 j pa ep
    refine ⟨by rw [e1]; exact c1, ?_, n, by rw [e1]; exact c3, fun m sm em => (c4 m sm em).cc hk e1⟩
    rw [hJ _ (by omega)]
    unfold rsJ rsv
    dsimp only
    have p8 := c5.2.1
    by_cases c : pa.1 = 3
    · obtain ⟨t, ht1, ht2, ht3⟩ := hG pa (List.mem_of_getElem? ep) c
      have hx := hts t ht1 ht2
      rw [← ht3] at hx
      rw [if_pos c, if_pos (by rw [c1, c]; rfl), c2]
      unfold acV
      rw [if_pos c, fndJ_32 hx nm 0 hN, i64_32]
    · rw [if_neg c, if_neg (by rw [c1]; exact nI_ne (y := 3) (b := 3) rfl c (by omega) (by decide)), c2, acV_i c]
