/-! ===== words that were read are laid out as the model runs them ===== -/
section LY
variable {W V : Nat → Int32} {ws : List Tk} {nm : List (List Nat)} {N : Nat}
def vR (nm : List (List Nat)) (t : Tk) : Int32 := if t.1 = 26 then oI (fnd nm t.2.1 0) else nI (vM t)
/-- the words before N lie in the model's rows, names as numbers of states -/
def WL (W V : Nat → Int32) (ws : List Tk) (nm : List (List Nat)) (N : Nat) : Prop := (∀ (i : Nat) (t : Tk), i < N → ws[i]? = some t → W i = nI (kM t.1) ∧ V i = vR nm t) ∧ (∀ (i : Nat) (t : Tk), ws[i]? = some t → t.1 < 38 ∧ (t.1 = 25 → t.2.2.1 ≤ 999)) ∧ N ≤ ws.length
theorem drop_s {i : Nat} {t : Tk} {l : List Tk} (h : ws.drop i = t :: l) : ws[i]? = some t ∧ l = ws.drop (i + 1) := drop_u h
theorem pWord_L {k1 k2 i : Nat} {t : Tk} {us : List Tk} (h : pWord k1 k2 (ws.drop i) = .inl (t, us)) : ws[i]? = some t ∧ us = ws.drop (i + 1) ∧ k1 ≤ t.1 ∧ t.1 ≤ k2 := by
  cases hd : ws.drop i with
  | nil => rw [hd] at h; cases h
  | cons u l =>
    obtain ⟨e, el⟩ := drop_u hd
    rw [hd, pWord] at h
    split at h
    · rename_i c
      cases h
      exact ⟨e, el, c⟩
    · cases h
theorem WL.w (h : WL W V ws nm N) {i : Nat} {t : Tk} (hi : i < N) (e : ws[i]? = some t) : W i = nI (kM t.1) := (h.1 i t hi e).1
theorem pMin_L : ∀ (ts : List Tk) (i k : Nat) (s s' : Int32) (us : List Tk), ts = ws.drop i → k ≤ 6 → pMin ts k s = .inl (s', us) → ∃ m, k + m ≤ 6 ∧ us = ws.drop (i + m) ∧ (∀ x, x < m → ∃ t, ws[i + x]? = some t ∧ t.1 = 33) ∧ s' = (if m % 2 = 0 then s else -s) := by
  intro ts
  induction ts with
  | nil => intro i k s s' us _ _ h; cases h
  | cons t ts ih =>
    intro i k s s' us hts hk h
    obtain ⟨e, el⟩ := drop_u hts.symm
    rw [pMin] at h
    split at h
    · rename_i c
      split at h
      · cases h
      · obtain ⟨m, h1, h2, h3, h4⟩ := ih (i + 1) (k + 1) (-s) s' us el (by omega) h
        refine ⟨m + 1, by omega, by rw [h2]; congr 1; omega, fun x hx => ?_, ?_⟩
        · cases x with
          | zero => exact ⟨t, e, c⟩
          | succ x =>
            have := h3 x (by omega)
            rw [show i + 1 + x = i + (x + 1) by omega] at this
            exact this
        · rw [h4]
          by_cases c2 : m % 2 = 0
          · rw [if_pos c2, if_neg (by omega)]
          · rw [if_neg c2, if_pos (by omega), Int32.neg_neg]
    · cases h
      exact ⟨0, by omega, hts, fun x hx => by omega, rfl⟩
theorem vM_25 {t : Tk} (h : t.1 = 25) : vM t = t.2.2.1 := by unfold vM; rw [if_pos h]
theorem vR_n {t : Tk} (h : t.1 ≠ 26) : vR nm t = nI (vM t) := by unfold vR; rw [if_neg h]
theorem pTerm_L {i j : Nat} {us : List Tk} {a : Tm} (hL : WL W V ws nm N) (h : pTerm j (ws.drop i) = .inl (a, us)) : ∃ i', us = ws.drop i' ∧ i < i' ∧ a.1 = nI j ∧ (i' ≤ N → TermM W V i a i') := by
  unfold pTerm at h
  obtain ⟨s, t1, e1, h⟩ := pthen_el h
  obtain ⟨m, m1, m2, m3, m4⟩ := pMin_L _ i 0 1 s t1 rfl (by omega) e1
  obtain ⟨t, t2, e2, h⟩ := pthen_el h
  rw [m2] at e2
  obtain ⟨et, e3, k1, k2⟩ := pWord_L e2
  have h38 := hL.2.1 _ t et
  have minus : i + m + 1 ≤ N → ∀ x, x < m → W (i + x) = 45 := fun hN x hx => by
    obtain ⟨u, eu, hu⟩ := m3 x hx
    rw [hL.w (by omega) eu, hu]; rfl
  split at h
  · rename_i c
    cases h
    refine ⟨i + m + 1, e3, by omega, rfl, fun hN => ⟨m, by omega, minus hN, m4, Or.inl ⟨rfl, ?_, ?_, rfl⟩⟩⟩
    · rw [hL.w (by omega) et, c]; rfl
    · rw [(hL.1 _ t (by omega) et).2, vR_n (by omega), vM_25 c]
  · rename_i c
    split at h
    · rename_i c2
      cases h
      refine ⟨i + m + 1, e3, by omega, rfl, fun hN => ⟨m, by omega, minus hN, m4, Or.inr (Or.inr (Or.inl ⟨rfl, ?_, ⟨t.1 - 17, by omega, rfl, ?_⟩, rfl⟩))⟩⟩
      · rw [hL.w (by omega) et]
        exact (q4 h38.1).mpr (by omega)
      · rw [(hL.1 _ t (by omega) et).2, vR_n (by omega)]
        unfold vM vK
        rw [if_neg c, if_neg (by omega), if_neg (by omega), if_neg (by omega), if_pos (by omega)]
    · split at h
      · cases h
        refine ⟨i + m + 1, e3, by omega, rfl, fun hN => ⟨m, by omega, minus hN, m4, Or.inr (Or.inl ⟨rfl, ?_, ?_, ⟨t.1 - 13, by omega, rfl⟩, rfl⟩)⟩⟩
        · rw [hL.w (by omega) et]
          exact (q3 h38.1).mpr (by omega)
        · rw [(hL.1 _ t (by omega) et).2, vR_n (by omega)]
          unfold vM vK
          rw [if_neg c, if_neg (by omega), if_neg (by omega), if_pos (by omega)]
      · obtain ⟨u, t3, e4, h⟩ := pthen_el h
        rw [e3] at e4
        obtain ⟨eu, e5, l1, l2⟩ := pWord_L e4
        split at h
        · rename_i c5
          cases h
          refine ⟨i + m + 1 + 1, e5, by omega, rfl, fun hN => ⟨m, by omega, minus (by omega), m4, Or.inr (Or.inr (Or.inr ⟨rfl, ?_, ⟨t.1 - 9, u.2.2.1, by omega, c5, ?_, ?_, ?_⟩, ?_, rfl⟩))⟩⟩
          · rw [hL.w (by omega) et]
            exact (q5 h38.1).mpr (by omega)
          · rw [(hL.1 _ t (by omega) et).2, vR_n (by omega)]
            unfold vM vK
            rw [if_neg c, if_neg (by omega), if_pos (by omega)]
          · rw [(hL.1 _ u (by omega) eu).2, vR_n (by omega), vM_25 (by omega)]
          · dsimp only
            congr 1
            omega
          · rw [hL.w (by omega) eu]
            exact (q2 (hL.2.1 _ u eu).1).mpr (by omega)
        · cases h
theorem pSum_L (hL : WL W V ws nm N) : ∀ (f j i : Nat) (us : List Tk) (a : Sm), pSum f j (ws.drop i) = .inl (a, us) → ∃ i', us = ws.drop i' ∧ i < i' ∧ ∃ t l i1, a = t :: l ∧ t.1 = nI j ∧ (i' < N → TermM W V i t i1 ∧ TailM W V l i1 i') := by
  intro f
  induction f with
  | zero => intro j i us a h; cases h
  | succ f ih =>
    intro j i us a h
    rw [pSum_tl] at h
    obtain ⟨t, t1, e1, h⟩ := pthen_el h
    obtain ⟨i1, r1, r2, r3, r4⟩ := pTerm_L hL e1
    obtain ⟨l, t2, e2, h⟩ := pthen_el h
    cases h
    subst r1
    unfold pTl at e2
    split at e2
    · rename_i c
      cases hd : ws.drop i1 with
      | nil => rw [hd] at c; exact absurd c (by decide)
      | cons u rest =>
        obtain ⟨eu, er⟩ := drop_u hd
        rw [hd] at e2 c
        have c : 32 ≤ u.1 ∧ u.1 ≤ 34 := c
        have e2 : pSum f u.1 rest = .inl (l, us) := e2
        rw [er] at e2
        obtain ⟨i', s1, s2, t', l', i2, s3, s4, s5⟩ := ih u.1 (i1 + 1) us l e2
        refine ⟨i', s1, by omega, t, l, i1, rfl, r3, fun hN => ⟨r4 (by omega), ?_⟩⟩
        obtain ⟨q1, q2⟩ := s5 hN
        rw [s3]
        refine ⟨?_, ?_, i2, q1, q2⟩
        · rw [s4]
          rcases (show u.1 = 32 ∨ u.1 = 33 ∨ u.1 = 34 by omega) with k | k | k <;> rw [k]
          · exact Or.inl rfl
          · exact Or.inr (Or.inl rfl)
          · exact Or.inr (Or.inr rfl)
        · rw [s4, hL.w (show i1 < N by omega) eu]
          rcases (show u.1 = 32 ∨ u.1 = 33 ∨ u.1 = 34 by omega) with k | k | k <;> rw [k] <;> rfl
    · rename_i c
      cases e2
      refine ⟨i1, rfl, r2, t, [], i1, rfl, r3, fun hN => ⟨r4 (by omega), rfl, ?_⟩⟩
      have hx : ∀ u : Tk, ws[i1]? = some u → ¬ W i1 = 43 ∧ ¬ W i1 = 45 ∧ ¬ W i1 = 42 := by
        intro u eu
        have c : ¬ (32 ≤ u.1 ∧ u.1 ≤ 34) := by rw [drop_c eu] at c; exact c
        have h38 := (hL.2.1 _ u eu).1
        rw [hL.w hN eu]
        exact ⟨fun z => by have := (q43 h38).mp z; omega, fun z => by have := (q45 h38).mp z; omega, fun z => by have := (q42 h38).mp z; omega⟩
      cases hd : ws.drop i1 with
      | nil =>
        have h1 := List.drop_eq_nil_iff.mp hd
        have h2 := hL.2.2
        omega
      | cons u rest => exact hx u (drop_u hd).1
theorem pSum_S (hL : WL W V ws nm N) {i : Nat} {us : List Tk} {a : Sm} (h : pSum 12 32 (ws.drop i) = .inl (a, us)) : ∃ i', us = ws.drop i' ∧ i < i' ∧ (i' < N → SumM W V a i i') := by
  obtain ⟨i', h1, h2, t, l, i1, h3, h4, h5⟩ := pSum_L hL 12 32 i us a h
  exact ⟨i', h1, h2, fun hN => ⟨t, l, i1, h3, h4, (h5 hN).1, (h5 hN).2⟩⟩
theorem pTest_L (hL : WL W V ws nm N) {i : Nat} {us : List Tk} {a : Ts} (h : pTest (ws.drop i) = .inl (a, us)) : ∃ i', us = ws.drop i' ∧ i < i' ∧ (i' < N → ∀ h, i = h + 1 → TestM W V a h i') := by
  unfold pTest at h
  obtain ⟨s, t1, e1, h⟩ := pthen_el h
  obtain ⟨i1, r1, r2, r3⟩ := pSum_S hL e1
  subst r1
  obtain ⟨o, t2, e2, h⟩ := pthen_el h
  obtain ⟨eo, e3, k1, k2⟩ := pWord_L e2
  subst e3
  obtain ⟨b, t3, e4, h⟩ := pthen_el h
  obtain ⟨i', r4, r5, r6⟩ := pSum_S hL e4
  subst r4
  cases h
  refine ⟨i', rfl, by omega, fun hN h0 eh => ?_⟩
  subst eh
  have key : nI o.1 = 29 ∧ W i1 = 60 ∨ nI o.1 = 30 ∧ W i1 = 61 ∨ nI o.1 = 31 ∧ W i1 = 62 := by
    rw [hL.w (show i1 < N by omega) eo]
    rcases (show o.1 = 29 ∨ o.1 = 30 ∨ o.1 = 31 by omega) with k | k | k <;> rw [k]
    · exact Or.inl ⟨rfl, rfl⟩
    · exact Or.inr (Or.inl ⟨rfl, rfl⟩)
    · exact Or.inr (Or.inr ⟨rfl, rfl⟩)
  refine ⟨?_, i1, r3 (by omega), ?_, r6 hN⟩
  · rcases key with ⟨k, _⟩ | ⟨k, _⟩ | ⟨k, _⟩
    · exact Or.inl k
    · exact Or.inr (Or.inl k)
    · exact Or.inr (Or.inr k)
  · rcases key with ⟨k, w⟩ | ⟨k, w⟩ | ⟨k, w⟩ <;> (rw [w]; show _ = sgW (nI o.1); rw [k]; rfl)
theorem pTests_L (hL : WL W V ws nm N) (hw : ws.length ≤ 801) : ∀ (f i : Nat) (us : List Tk) (a : List Ts), 801 ≤ f + i → i < ws.length → pTests f (ws.drop i) = .inl (a, us) → ∃ i' t l, us = ws.drop i' ∧ i < i' ∧ a = t :: l ∧ (i' < N → W i' = 123 → ∀ h, i = h + 1 → ∃ h1, TestM W V t h h1 ∧ AndsM W V l h1 i') := by
  intro f
  induction f with
  | zero => intro i us a h1 h2; omega
  | succ f ih =>
    intro i us a hf hi h
    rw [pTests] at h
    obtain ⟨t, t1, e1, h⟩ := pthen_el h
    obtain ⟨i1, r1, r2, r3⟩ := pTest_L hL e1
    subst r1
    split at h
    · rename_i c
      obtain ⟨l, t2, e2, h⟩ := pthen_el h
      cases h
      cases hd : ws.drop i1 with
      | nil => rw [hd] at c; exact absurd c (by decide)
      | cons u rest =>
        obtain ⟨eu, er⟩ := drop_u hd
        rw [hd] at e2 c
        have c : u.1 = 2 := c
        have e2 : pTests f rest = .inl (l, us) := e2
        rw [er] at e2
        have hi1 : i1 + 1 < ws.length ∨ ws.length ≤ i1 + 1 := by omega
        rcases hi1 with hi1 | hi1
        · obtain ⟨i', t', l', s1, s2, s3, s4⟩ := ih (i1 + 1) us l (by omega) hi1 e2
          refine ⟨i', t, l, s1, by omega, rfl, fun hN h123 h0 eh => ⟨i1, r3 (by omega) h0 eh, ?_⟩⟩
          obtain ⟨h2, q1, q2⟩ := s4 hN h123 i1 rfl
          rw [s3]
          refine ⟨?_, h2, q1, q2⟩
          rw [hL.w (show i1 < N by omega) eu, c]; rfl
        · exfalso
          rw [List.drop_eq_nil_of_le hi1] at e2
          have hlt := len_at eu
          cases f with
          | zero => omega
          | succ f =>
            rw [pTests] at e2
            obtain ⟨_, _, e5, _⟩ := pthen_el e2
            unfold pTest at e5
            obtain ⟨_, _, e6, _⟩ := pthen_el e5
            cases e6
    · rename_i c
      cases h
      exact ⟨i1, t, [], rfl, r2, rfl, fun hN h123 h0 eh => ⟨i1, r3 hN h0 eh, rfl, h123⟩⟩
theorem pAct_L (hL : WL W V ws nm N) {i : Nat} {us : List Tk} {a : PA} (h : pAct (ws.drop i) = .inl (a, us)) : ∃ i', us = ws.drop i' ∧ i < i' ∧ (i' ≤ N → ActM W V (rsv nm a) i i') := by
  unfold pAct at h
  obtain ⟨t, t1, e1, h⟩ := pthen_el h
  obtain ⟨et, e2, k1, k2⟩ := pWord_L e1
  subst e2
  obtain ⟨hd, t2, e3, h⟩ := pthen_el h
  obtain ⟨l, t3, e4, h⟩ := pthen_el h
  obtain ⟨z, t4, e5, h⟩ := pthen_el h
  cases h
  unfold pHead at e3
  -- the `;` behind the act
  have semi : ∀ x, t3 = ws.drop x → us = ws.drop (x + 1) ∧ (x < N → W x = 59) := by
    intro x hx
    subst hx
    obtain ⟨ez, e6, k3, k4⟩ := pWord_L e5
    refine ⟨e6, fun hN => ?_⟩
    rw [hL.w hN ez, show z.1 = 35 by omega]; rfl
  rcases (show t.1 = 3 ∨ t.1 = 4 ∨ t.1 = 5 ∨ t.1 = 6 ∨ t.1 = 7 ∨ t.1 = 8 by omega) with c | c | c | c | c | c
  · rw [if_pos c] at e3
    obtain ⟨o, t5, e6, e3⟩ := pthen_el e3
    obtain ⟨eo, e7, k5, k6⟩ := pWord_L e6
    subst e7
    cases e3
    cases e4
    obtain ⟨s1, s2⟩ := semi (i + 1 + 1) rfl
    refine ⟨i + 1 + 1 + 1, s1, by omega, fun hN => Or.inl ⟨by show nI t.1 = 3; rw [c]; rfl, rfl, ?_, ?_, ?_, s2 (by omega), rfl⟩⟩
    · rw [hL.w (by omega) et, c]; rfl
    · rw [hL.w (by omega) eo, show o.1 = 26 by omega]; rfl
    · rw [(hL.1 _ o (by omega) eo).2]
      unfold vR rsv
      dsimp only
      rw [if_pos (by omega), if_pos c]
  · rw [if_neg (by omega), if_pos c] at e3
    obtain ⟨o, t5, e6, e3⟩ := pthen_el e3
    obtain ⟨eo, e7, k5, k6⟩ := pWord_L e6
    subst e7
    cases e3
    obtain ⟨s, t6, e8, e4⟩ := pthen_el e4
    obtain ⟨i1, r1, r2, r3⟩ := pSum_S hL e8
    subst r1
    cases e4
    obtain ⟨s1, s2⟩ := semi i1 rfl
    refine ⟨i1 + 1, s1, by omega, fun hN => Or.inr (Or.inl ⟨by show nI t.1 = 4; rw [c]; rfl, s, i1, rfl, ⟨o.1 - 13, by omega, ?_⟩, ?_, ?_, ?_, r3 (by omega), s2 (by omega), rfl⟩)⟩
    · unfold rsv; dsimp only; rw [if_neg (by omega)]
    · rw [hL.w (by omega) et, c]; rfl
    · rw [hL.w (by omega) eo]
      exact (q3 (hL.2.1 _ o eo).1).mpr (by omega)
    · rw [(hL.1 _ o (by omega) eo).2, vR_n (by omega)]
      unfold vM vK rsv
      dsimp only
      rw [if_neg (by omega), if_neg (by omega), if_neg (by omega), if_pos (by omega), if_neg (by omega)]
  · rw [if_neg (by omega), if_neg (by omega)] at e3
    cases e3
    rw [c] at e4
    obtain ⟨s, t6, e8, e4⟩ := pthen_el e4
    obtain ⟨i1, r1, r2, r3⟩ := pSum_S hL e8
    subst r1
    obtain ⟨l2, t7, e9, e4⟩ := pthen_el e4
    obtain ⟨s', t8, e10, e9⟩ := pthen_el e9
    obtain ⟨i2, r4, r5, r6⟩ := pSum_S hL e10
    subst r4
    cases e9
    cases e4
    obtain ⟨s1, s2⟩ := semi i2 rfl
    refine ⟨i2 + 1, s1, by omega, fun hN => Or.inr (Or.inr (Or.inl ⟨Or.inl (by show nI t.1 = 5; rw [c]; rfl), s, s', i1, i2, rfl, ?_, r3 (by omega), r6 (by omega), s2 (by omega), rfl⟩))⟩
    rw [hL.w (by omega) et]
    show nI (kM t.1) = nI t.1 + 10
    rw [c]; rfl
  · rw [if_neg (by omega), if_neg (by omega)] at e3
    cases e3
    rw [c] at e4
    obtain ⟨s, t6, e8, e4⟩ := pthen_el e4
    obtain ⟨i1, r1, r2, r3⟩ := pSum_S hL e8
    subst r1
    obtain ⟨l2, t7, e9, e4⟩ := pthen_el e4
    obtain ⟨s', t8, e10, e9⟩ := pthen_el e9
    obtain ⟨i2, r4, r5, r6⟩ := pSum_S hL e10
    subst r4
    cases e9
    cases e4
    obtain ⟨s1, s2⟩ := semi i2 rfl
    refine ⟨i2 + 1, s1, by omega, fun hN => Or.inr (Or.inr (Or.inl ⟨Or.inr (by show nI t.1 = 6; rw [c]; rfl), s, s', i1, i2, rfl, ?_, r3 (by omega), r6 (by omega), s2 (by omega), rfl⟩))⟩
    rw [hL.w (by omega) et]
    show nI (kM t.1) = nI t.1 + 10
    rw [c]; rfl
  · rw [if_neg (by omega), if_neg (by omega)] at e3
    cases e3
    rw [c] at e4
    obtain ⟨s, t6, e8, e4⟩ := pthen_el e4
    obtain ⟨i1, r1, r2, r3⟩ := pSum_S hL e8
    subst r1
    obtain ⟨l2, t7, e9, e4⟩ := pthen_el e4
    obtain ⟨s', t8, e10, e9⟩ := pthen_el e9
    obtain ⟨i2, r4, r5, r6⟩ := pSum_S hL e10
    subst r4
    obtain ⟨l3, t9, e11, e9⟩ := pthen_el e9
    obtain ⟨s'', t10, e12, e11⟩ := pthen_el e11
    obtain ⟨i3, r7, r8, r9⟩ := pSum_S hL e12
    subst r7
    cases e11
    cases e9
    cases e4
    obtain ⟨s1, s2⟩ := semi i3 rfl
    refine ⟨i3 + 1, s1, by omega, fun hN => Or.inr (Or.inr (Or.inr (Or.inl ⟨by show nI t.1 = 7; rw [c]; rfl, s, s', s'', i1, i2, i3, rfl, ?_, r3 (by omega), r6 (by omega), r9 (by omega), s2 (by omega), rfl⟩)))⟩
    rw [hL.w (by omega) et, c]; rfl
  · rw [if_neg (by omega), if_neg (by omega)] at e3
    cases e3
    rw [c] at e4
    cases e4
    obtain ⟨s1, s2⟩ := semi (i + 1) rfl
    refine ⟨i + 1 + 1, s1, by omega, fun hN => Or.inr (Or.inr (Or.inr (Or.inr ⟨by show nI t.1 = 8; rw [c]; rfl, rfl, ?_, s2 (by omega), rfl⟩)))⟩
    rw [hL.w (by omega) et, c]; rfl
theorem pActs_L (hL : WL W V ws nm N) : ∀ (g i : Nat) (us : List Tk) (l : List PA), pActs g (ws.drop i) = .inl (l, us) → ∃ i', us = ws.drop i' ∧ i ≤ i' ∧ (i' < N → ActsM W V (l.map (rsv nm)) i i') := by
  have stop : ∀ i, kd0 (ws.drop i) = 28 → i < N → W i = 125 := by
    intro i c hN
    cases hd : ws.drop i with
    | nil => rw [hd] at c; exact absurd c (by decide)
    | cons u rest =>
      have eu := (drop_u hd).1
      rw [hd] at c
      have c : u.1 = 28 := c
      rw [hL.w hN eu, c]; rfl
  intro g
  induction g with
  | zero =>
    intro i us l h
    rw [pActs] at h
    split at h
    · rename_i c
      cases h
      exact ⟨i, rfl, Nat.le_refl _, fun hN => ⟨rfl, stop i c hN⟩⟩
    · cases h
  | succ g ih =>
    intro i us l h
    rw [pActs] at h
    split at h
    · rename_i c
      cases h
      exact ⟨i, rfl, Nat.le_refl _, fun hN => ⟨rfl, stop i c hN⟩⟩
    · obtain ⟨a, t1, e1, h⟩ := pthen_el h
      obtain ⟨i1, r1, r2, r3⟩ := pAct_L hL e1
      subst r1
      obtain ⟨l', t2, e2, h⟩ := pthen_el h
      cases h
      obtain ⟨i', s1, s2, s3⟩ := ih i1 _ l' e2
      exact ⟨i', s1, by omega, fun hN => ⟨i1, r3 (by omega), s3 hN⟩⟩
theorem pRule_L (hL : WL W V ws nm N) (hw : ws.length ≤ 801) {i : Nat} {us : List Tk} {pl : PL} (h : pRule (ws.drop i) = .inl (pl, us)) : ∃ i', us = ws.drop i' ∧ i < i' ∧ (i' ≤ N → ∃ h1 h2, TestsM W V pl.1 i h1 ∧ ActsM W V (pl.2.map (rsv nm)) (h1 + 1) h2 ∧ i' = h2 + 1) := by
  unfold pRule at h
  obtain ⟨t, t1, e1, h⟩ := pthen_el h
  obtain ⟨et, e2, k1, k2⟩ := pWord_L e1
  subst e2
  obtain ⟨tl, t2, e3, h⟩ := pthen_el h
  have hi1 : i + 1 < ws.length ∨ ws.length ≤ i + 1 := by omega
  rcases hi1 with hi1 | hi1
  · obtain ⟨i1, a, l, r1, r2, r3, r4⟩ := pTests_L hL hw 800 (i + 1) t2 tl (by omega) hi1 e3
    subst r1
    obtain ⟨o, t3, e4, h⟩ := pthen_el h
    obtain ⟨eo, e5, k3, k4⟩ := pWord_L e4
    subst e5
    obtain ⟨al, t4, e6, h⟩ := pthen_el h
    obtain ⟨i2, r5, r6, r7⟩ := pActs_L hL 8 (i1 + 1) t4 al e6
    subst r5
    obtain ⟨z, t5, e7, h⟩ := pthen_el h
    obtain ⟨ez, e8, k5, k6⟩ := pWord_L e7
    subst e8
    cases h
    refine ⟨i2 + 1, rfl, by omega, fun hN => ⟨i1, i2, ?_, r7 (by omega), rfl⟩⟩
    have h123 : W i1 = 123 := by rw [hL.w (show i1 < N by omega) eo, show o.1 = 27 by omega]; rfl
    obtain ⟨h1, q1, q2⟩ := r4 (by omega) h123 i rfl
    refine ⟨a, l, h1, r3, ?_, q1, q2⟩
    rw [hL.w (show i < N by omega) et, show t.1 = 1 by omega]; rfl
  · exfalso
    rw [List.drop_eq_nil_of_le hi1, pTests] at e3
    obtain ⟨_, _, e5, _⟩ := pthen_el e3
    unfold pTest at e5
    obtain ⟨_, _, e6, _⟩ := pthen_el e5
    cases e6
theorem pRules_L (hL : WL W V ws nm N) (hw : ws.length ≤ 801) : ∀ (g i : Nat) (us : List Tk) (l : List PL), pRules g (ws.drop i) = .inl (l, us) → ∃ i', us = ws.drop i' ∧ i ≤ i' ∧ (i' < N → W i' = 125 → RulesM W V (l.map (rsL nm)) i i') := by
  intro g
  induction g with
  | zero =>
    intro i us l h
    rw [pRules] at h
    split at h
    · cases h
    · cases h
      exact ⟨i, rfl, Nat.le_refl _, fun hN h125 => ⟨rfl, h125⟩⟩
  | succ g ih =>
    intro i us l h
    rw [pRules] at h
    split at h
    · obtain ⟨a, t1, e1, h⟩ := pthen_el h
      obtain ⟨i1, r1, r2, r3⟩ := pRule_L hL hw e1
      subst r1
      obtain ⟨l', t2, e2, h⟩ := pthen_el h
      cases h
      obtain ⟨i', s1, s2, s3⟩ := ih i1 _ l' e2
      refine ⟨i', s1, by omega, fun hN h125 => ?_⟩
      obtain ⟨h1, h2, q1, q2, q3⟩ := r3 (by omega)
      subst q3
      exact ⟨h1, h2, q1, q2, s3 hN h125⟩
    · cases h
      exact ⟨i, rfl, Nat.le_refl _, fun hN h125 => ⟨rfl, h125⟩⟩
end LY
