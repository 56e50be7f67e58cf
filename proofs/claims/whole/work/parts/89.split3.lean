theorem scan_end {T : Nat → Nat} {n k p : Nat} (h : n ≤ p) : scan T n k p = [(37, [], 0, n)] := by
  cases k with
  | zero => rfl
  | succ k =>
    have e : upto isB T (n - p) p = p := by rw [show n - p = 0 by omega]; rfl
    rw [scan, e, if_pos h]
theorem upto_b {T : Nat → Nat} {n p : Nat} (h : p < n) (hb : isB (T p) = true) : upto isB T (n - p) p = upto isB T (n - (p + 1)) (p + 1) := by
  rw [show n - p = (n - (p + 1)) + 1 by omega, upto, if_pos hb]
theorem upto_nb {T : Nat → Nat} {n p : Nat} (h : p < n) (hb : isB (T p) = false) : upto isB T (n - p) p = p := by
  rw [show n - p = (n - (p + 1)) + 1 by omega, upto, if_neg (by rw [hb]; decide)]
theorem scan_b {T : Nat → Nat} {n k p : Nat} (h : p < n) (hb : isB (T p) = true) : scan T n (k + 1) p = scan T n (k + 1) (p + 1) := by
  rw [scan, scan, upto_b h hb]
theorem scan_t {T : Nat → Nat} {n k p : Nat} (h : p < n) (hb : isB (T p) = false) : scan T n (k + 1) p = if (tokAt T n p).1.1 = 36 then [(tokAt T n p).1] else (tokAt T n p).1 :: scan T n k (tokAt T n p).2 := by
  rw [scan, upto_nb h hb, if_neg (by omega)]
theorem good_1 {A : Mem} {ws : List Tk} (h : RowW A ws) (h6 : A.1 2 6 = nI ws.length) (hl : ws.length ≤ 801) (h36 : ∀ t, ws[ws.length - 1]? = some t → t.1 ≠ 36) : (if (A.1 2 6) = 0 then (1 : Int32) else (if (V_X10_at (2 + 3) ((A.1 2 6) - (1 : Int32)) 801 A) = (36 : Int32) then (0 : Int32) else (1 : Int32))) = 1 := by
  rw [h6]
  by_cases c : ws.length = 0
  · rw [if_pos (by rw [c]; rfl)]
  · rw [if_neg (nI_ne (y := 0) (b := 0) rfl c (by omega) (by decide)), show (1 : Int32) = nI 1 from rfl, pk_sub (by omega), at_eq (x := 2 + 3) rfl (show ws.length - 1 < 801 by omega) (by decide)]
    obtain ⟨t, e⟩ := get_lt (ws := ws) (i := ws.length - 1) (by omega)
    obtain ⟨w1, _, w3, _⟩ := h _ t e
    rw [show (2 : Nat) + 3 = 5 from rfl, w1, if_neg (nI_ne (y := 36) (b := 36) rfl (h36 t e) (by omega) (by decide))]
theorem good_0 {A : Mem} {ws : List Tk} {t : Tk} (h : RowW A (ws ++ [t])) (h6 : A.1 2 6 = nI (ws.length + 1)) (hl : ws.length < 801) (h36 : t.1 = 36) : (if (A.1 2 6) = 0 then (1 : Int32) else (if (V_X10_at (2 + 3) ((A.1 2 6) - (1 : Int32)) 801 A) = (36 : Int32) then (0 : Int32) else (1 : Int32))) = 0 := by
  have e : (ws ++ [t])[ws.length]? = some t := by rw [List.getElem?_append_right (Nat.le_refl _), Nat.sub_self]; rfl
  obtain ⟨w1, _, w3, _⟩ := h _ t e
  rw [h6, if_neg (nI_ne (y := 0) (b := 0) rfl (by omega) (by omega) (by decide)), nI_pred, at_eq (x := 2 + 3) rfl (show ws.length < 801 by omega) (by decide), show (2 : Nat) + 3 = 5 from rfl, w1, h36, if_pos (show nI 36 = (36 : Int32) from rfl)]
theorem split9 {f : Nat} {u1 u2 : Int32} {M : Mem} : L_X4_split_9 2 (f + 1) u1 u2 M = if (M.1 2 5) ≤ u1 then (some M) else (if u2 = 0 then (some M) else bnd2 (stp u1 (V_X10_at (2 + 1) u1 800 M) M) (fun v9_0 M9 => L_X4_split_9 2 f v9_0 (if (M9.1 2 6) = 0 then (1 : Int32) else (if (V_X10_at (2 + 3) ((M9.1 2 6) - (1 : Int32)) 801 M9) = (36 : Int32) then (0 : Int32) else (1 : Int32))) M9)) := by
  rw [L_X4_split_9]
  rfl
theorem isB_n {c : Nat} (h : isB c = true) : isL c = false ∧ isF c = false := by
  have := of_decide_eq_true h
  refine ⟨decide_eq_false ?_, decide_eq_false ?_⟩ <;> omega
theorem split_loop {T : Nat → Nat} {n : Nat} : ∀ (m p f k : Nat) (A : Mem) (ws0 : List Tk), n - p ≤ m → p ≤ n → m < f → n ≤ p + k → Tape A T n → Knw A → RowW A ws0 → A.1 2 6 = nI ws0.length → ws0.length ≤ p → (∀ t, ws0[ws0.length - 1]? = some t → t.1 ≠ 36) →
    ∃ A' body, L_X4_split_9 2 f (nI p) 1 A = some A' ∧ FrW A A' ∧ RowW A' (ws0 ++ body) ∧ A'.1 2 6 = nI (ws0 ++ body).length ∧ (ws0 ++ body).length ≤ n ∧ (∀ t ∈ body, t.1 ≤ 36) ∧ (scan T n k p = body ++ [(37, [], 0, n)] ∨ scan T n k p = body) := by
  intro m
  induction m with
  | zero =>
    intro p f k A ws0 hm hp hf hk hT hK hR h6 hl h36
    obtain ⟨f, rfl⟩ : ∃ m, f = m + 1 := ⟨f - 1, by omega⟩
    have hn := hT.2.1
    refine ⟨A, [], ?_, FrW.rf, by rw [List.append_nil]; exact hR, by rw [List.append_nil]; exact h6, by rw [List.append_nil]; omega, (fun t ht => by cases ht), Or.inl (by rw [scan_end (by omega)]; rfl)⟩
    rw [split9, hT.1, if_pos (nI_le (by omega) (by omega))]
  | succ m ih =>
    intro p f k A ws0 hm hp hf hk hT hK hR h6 hl h36
    obtain ⟨f, rfl⟩ : ∃ m, f = m + 1 := ⟨f - 1, by omega⟩
    have hn := hT.2.1
    by_cases c : n ≤ p
    · refine ⟨A, [], ?_, FrW.rf, by rw [List.append_nil]; exact hR, by rw [List.append_nil]; exact h6, by rw [List.append_nil]; omega, (fun t ht => by cases ht), Or.inl (by rw [scan_end c]; rfl)⟩
      rw [split9, hT.1, if_pos (nI_le c (by omega))]
    · have hpn : p < n := by omega
      obtain ⟨k, rfl⟩ : ∃ m, k = m + 1 := ⟨k - 1, by omega⟩
      obtain ⟨_, hc⟩ := hT.2.2 p hpn
      rw [split9, hT.1, if_neg (nI_ge hpn (by omega)), if_neg (show ¬ (1 : Int32) = 0 by decide), tape_at hT hpn]
      by_cases cb : isB (T p) = true
      · have hB := isB_n cb
        have e : stp (nI p) (nI (T p)) A = some (nI (p + 1), A) := by
          unfold stp
          rw [isL_C hc, isF_C hc, isB_C hc, hB.1, hB.2, cb, if_neg (show ¬ false = true by decide), if_pos (rfl : true = true), if_pos (rfl : (0 : Int32) = 0), if_pos (rfl : (0 : Int32) = 0), if_neg (show ¬ (1 : Int32) = 0 by decide), nI_1]
          rfl
        rw [bnd2_e e, good_1 hR h6 (by omega) h36, scan_b hpn cb]
        exact ih (p + 1) f (k + 1) A ws0 (by omega) (by omega) (by omega) (by omega) hT hK hR h6 (by omega) h36
      · have cb' : isB (T p) = false := by cases hh : isB (T p) with
          | false => rfl
          | true => exact absurd hh cb
        obtain ⟨x2, e, h25, h26⟩ := stp_C hT hK hpn cb' h6 (by omega)
        rw [bnd2_e e, scan_t hpn cb']
        have hk36 := tokAt_k (T := T) (n := n) (p := p)
        have hpos := tokAt_pos (T := T) (n := n) (p := p)
        have hgt := tokAt_gt (T := T) hpn
        obtain ⟨tok, htok⟩ : ∃ t, t = tokAt T n p := ⟨_, rfl⟩
        rw [← htok] at e h25 h26 hk36 hpos hgt ⊢
        have FA := adW_fr (A := A) (w := ws0.length) (x1 := nI tok.1.1) (x2 := x2) (x3 := nI p)
        have R1 : RowW (adW A ws0.length (nI tok.1.1) x2 (nI p)) (ws0 ++ [tok.1]) := by
          have := adW_row (t := tok.1) (x2 := x2) hR (by omega) (by omega) h25 h26
          rw [hpos] at this
          exact this
        have n1 := adW_n (A := A) (w := ws0.length) (x1 := nI tok.1.1) (x2 := x2) (x3 := nI p)
        by_cases c36 : tok.1.1 = 36
        · rw [if_pos c36, good_0 R1 n1 (by omega) c36]
          refine ⟨_, [tok.1], ?_, FA, R1, by rw [n1, List.length_append]; rfl, by rw [List.length_append, List.length_singleton]; omega, fun t ht => by rw [List.mem_singleton] at ht; rw [ht]; exact hk36, Or.inr rfl⟩
          obtain ⟨f, rfl⟩ : ∃ m, f = m + 1 := ⟨f - 1, by omega⟩
          rw [split9]
          split
          · rfl
          · rw [if_pos rfl]
        · have hl36 : ∀ t, (ws0 ++ [tok.1])[(ws0 ++ [tok.1]).length - 1]? = some t → t.1 ≠ 36 := by
            intro t et
            rw [List.length_append, List.length_singleton, Nat.add_sub_cancel, List.getElem?_append_right (Nat.le_refl _), Nat.sub_self] at et
            have : tok.1 = t := Option.some.inj et
            rw [← this]; exact c36
          have n1' : (adW A ws0.length (nI tok.1.1) x2 (nI p)).1 2 6 = nI (ws0 ++ [tok.1]).length := by rw [n1, List.length_append]; rfl
          rw [if_neg c36, good_1 R1 n1' (by rw [List.length_append, List.length_singleton]; omega) hl36]
          obtain ⟨A', body, g1, g2, g3, g4, g5, g6, g7⟩ := ih tok.2 f k _ (ws0 ++ [tok.1]) (by omega) (by omega) (by omega) (by omega) (hT.w FA) (hK.w FA) R1 n1' (by rw [List.length_append, List.length_singleton]; omega) hl36
          rw [List.append_assoc] at g3 g4 g5
          refine ⟨A', [tok.1] ++ body, g1, FA.tr g2, g3, g4, g5, fun t ht => ?_, ?_⟩
          · rcases List.mem_append.mp ht with h | h
            · rw [List.mem_singleton] at h; rw [h]; exact hk36
            · exact g6 t h
          · rcases g7 with g7 | g7
            · exact Or.inl (by rw [g7]; rfl)
            · exact Or.inr (by rw [g7]; rfl)
theorem split_C {A : Mem} {T : Nat → Nat} {n : Nat} (hT : Tape A T n) (hK : Knw A) : ∃ A', R_X4_split 2 A = some A' ∧ FrW A A' ∧ WRow A' (scan T n n 0) ∧ ∀ i t, (scan T n n 0)[i]? = some t → t.1 = 37 → A'.1 2 6 = nI (i + 1) := by
  have hn := hT.2.1
  have F0 : FrW A (setI A 2 6 0) := ⟨fun d p1 _ _ => fI p1, fun j p => gI (Or.inr p), fun _ _ => rfl⟩
  obtain ⟨A', body, g1, g2, g3, g4, g5, g6, g7⟩ := split_loop n 0 FUEL n (setI A 2 6 0) [] (by omega) (by omega) (by unfold FUEL; omega) (by omega) (hT.w F0) (hK.w F0) (fun i t e => by cases e) gs_eI (Nat.zero_le _) (fun t e => by cases e)
  rw [List.nil_append] at g3 g4 g5
  have hT' := (hT.w F0).w g2
  have e1 : R_X4_split 2 A = some (adW A' body.length 37 0 (nI n)) := by
    unfold R_X4_split
    rw [show (0 : Int32) = nI 0 from rfl] at g1 ⊢
    rw [bnd1_e g1, hT'.1, bnd1_e (addWord_C g4 (by omega))]
  have R1 : RowW (adW A' body.length 37 0 (nI n)) (body ++ [(37, [], 0, n)]) := adW_row (t := (37, [], 0, n)) g3 (show 37 < 38 by decide) hn (fun h => by cases h) (fun h => by cases h)
  refine ⟨_, e1, (F0.tr g2).tr adW_fr, ?_, ?_⟩
  · rcases g7 with g7 | g7
    · rw [g7]
      exact ⟨by rw [List.length_append, List.length_singleton]; omega, R1⟩
    · rw [g7]
      refine ⟨by omega, fun i t e => R1 i t ?_⟩
      obtain ⟨w, _⟩ := List.getElem?_eq_some_iff.mp e
      rw [List.getElem?_append_left w]; exact e
  · intro i t e h37
    rcases g7 with g7 | g7
    · rw [g7] at e
      by_cases c : i < body.length
      · rw [List.getElem?_append_left c] at e
        have := g6 t (List.mem_of_getElem? e)
        omega
      · have hi : i < (body ++ [((37, [], 0, n) : Tk)]).length := by
          obtain ⟨w, _⟩ := List.getElem?_eq_some_iff.mp e
          exact w
        rw [List.length_append, List.length_singleton] at hi
        rw [adW_n, show body.length = i by omega]
    · rw [g7] at e
      have := g6 t (List.mem_of_getElem? e)
      omega
theorem scan_F {T : Nat → Nat} {n : Nat} : ∀ (k p : Nat), p ≤ n → EndW (scan T n k p) ∧ Inc (scan T n k p) ∧ KwL (scan T n k p) ∧ 0 < (scan T n k p).length ∧ (∀ t, (scan T n k p)[0]? = some t → p ≤ t.2.2.2) := by
  have hEnd : ∀ p, p ≤ n → EndW [((37, [], 0, n) : Tk)] ∧ Inc [((37, [], 0, n) : Tk)] ∧ KwL [((37, [], 0, n) : Tk)] ∧ 0 < [((37, [], 0, n) : Tk)].length ∧ (∀ t, [((37, [], 0, n) : Tk)][0]? = some t → p ≤ t.2.2.2) := by
    intro p hp
    have one : ∀ i t, [((37, [], 0, n) : Tk)][i]? = some t → i = 0 ∧ t = (37, [], 0, n) := by
      intro i t e
      cases i with
      | zero => exact ⟨rfl, (Option.some.inj e).symm⟩
      | succ i => cases e
    refine ⟨fun i t e h => ?_, fun i t u _ e2 => ?_, fun i t e h h8 => ?_, Nat.one_pos, fun t e => ?_⟩
    · rw [(one i t e).2] at h; exact absurd h (show ¬ 37 ≤ 35 by decide)
    · have := (one _ u e2).1; omega
    · rw [(one i t e).2] at h8; exact absurd h8 (show ¬ 37 ≤ 8 by decide)
    · rw [(one 0 t e).2]; exact hp
  intro k
  induction k with
  | zero => intro p hp; exact hEnd p hp
  | succ k ih =>
    intro p hp
    rw [scan]
    have hq := upto_le (P := isB) (T := T) (n - p) p
    obtain ⟨q, eq⟩ : ∃ q, q = upto isB T (n - p) p := ⟨_, rfl⟩
    rw [← eq] at hq ⊢
    by_cases c : n ≤ q
    · rw [if_pos c]; exact hEnd p hp
    · rw [if_neg c]
      have hqn : q < n := by omega
      have hpos := tokAt_pos (T := T) (n := n) (p := q)
      have hgt := tokAt_gt (T := T) hqn
      have hln := tokAt_ln (T := T) hqn
      have hkw := tokAt_kw (T := T) (n := n) (p := q)
      obtain ⟨tok, htok⟩ : ∃ t, t = tokAt T n q := ⟨_, rfl⟩
      rw [← htok] at hpos hgt hln hkw ⊢
      by_cases c36 : tok.1.1 = 36
      · rw [if_pos c36]
        have one : ∀ i t, [tok.1][i]? = some t → i = 0 ∧ t = tok.1 := by
          intro i t e
          cases i with
          | zero => exact ⟨rfl, (Option.some.inj e).symm⟩
          | succ i => cases e
        refine ⟨fun i t e h => ?_, fun i t u _ e2 => ?_, fun i t e h h8 => ?_, Nat.one_pos, fun t e => ?_⟩
        · rw [(one i t e).2] at h; omega
        · have := (one _ u e2).1; omega
        · rw [(one i t e).2] at h8; omega
        · rw [(one 0 t e).2]; omega
      · rw [if_neg c36]
        obtain ⟨i1, i2, i3, i4, i5⟩ := ih tok.2 (by omega)
        refine ⟨fun i t e h => ?_, fun i t u e e2 => ?_, fun i t e h h8 => ?_, by rw [List.length_cons]; omega, fun t e => ?_⟩
        · rw [List.length_cons]
          cases i with
          | zero => omega
          | succ i => have := i1 i t e h; omega
        · cases i with
          | zero =>
            have : tok.1 = t := Option.some.inj e
            rw [← this, hpos]
            have := i5 u e2
            omega
          | succ i => exact i2 i t u e e2
        · cases i with
          | zero =>
            have : tok.1 = t := Option.some.inj e
            rw [← this] at h h8 ⊢
            exact hkw h h8
          | succ i => exact i3 i t e h h8
        · have : tok.1 = t := Option.some.inj e
          rw [← this, hpos]; exact hq.1
