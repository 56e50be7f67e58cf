/-! ===== the class splits a tape ===== -/
/-- n bytes T lie on the class's tape -/
def Tape (A : Mem) (T : Nat → Nat) (n : Nat) : Prop := A.1 2 5 = nI n ∧ n ≤ 800 ∧ ∀ i, i < n → A.1 3 i = nI (T i) ∧ T i < 256
theorem tape_at {A : Mem} {T : Nat → Nat} {n p : Nat} (h : Tape A T n) (hp : p < n) : V_X10_at (2 + 1) (nI p) 800 A = nI (T p) := by
  have h1 := h.2.1
  rw [at_eq (x := 2 + 1) rfl (show p < 800 by omega) (by decide)]
  exact (h.2.2 p hp).1
theorem isL_C {c : Nat} {A : Mem} (hc : c < 256) : V_X4_isLetter (nI c) A = if isL c = true then 1 else 0 := by
  unfold V_X4_isLetter isL
  dsimp only
  by_cases h1 : 97 ≤ c
  · rw [if_neg (nltL (y := 97) 97 h1 rfl (by omega))]
    by_cases h2 : c ≤ 122
    · rw [if_neg (show ¬ (122 : Int32) < nI c from nI_nlt (a := 122) (b := c) h2 (by decide)), if_pos (decide_eq_true (show 97 ≤ c ∧ c ≤ 122 from ⟨h1, h2⟩))]
    · rw [if_pos (show (122 : Int32) < nI c from nI_lt (a := 122) (b := c) (by omega) (by omega)), if_neg (fun q => h2 (of_decide_eq_true q).2)]
  · rw [if_pos (ltL (y := 97) 97 (by omega) rfl (by decide)), if_neg (fun q => h1 (of_decide_eq_true q).1)]
theorem isF_C {c : Nat} {A : Mem} (hc : c < 256) : V_X4_isFigure (nI c) A = if isF c = true then 1 else 0 := by
  unfold V_X4_isFigure isF
  dsimp only
  by_cases h1 : 48 ≤ c
  · rw [if_neg (nltL (y := 48) 48 h1 rfl (by omega))]
    by_cases h2 : c ≤ 57
    · rw [if_neg (show ¬ (57 : Int32) < nI c from nI_nlt (a := 57) (b := c) h2 (by decide)), if_pos (decide_eq_true (show 48 ≤ c ∧ c ≤ 57 from ⟨h1, h2⟩))]
    · rw [if_pos (show (57 : Int32) < nI c from nI_lt (a := 57) (b := c) (by omega) (by omega)), if_neg (fun q => h2 (of_decide_eq_true q).2)]
  · rw [if_pos (ltL (y := 48) 48 (by omega) rfl (by decide)), if_neg (fun q => h1 (of_decide_eq_true q).1)]
theorem isB_C {c : Nat} {A : Mem} (hc : c < 256) : V_X4_isBlank (nI c) A = if isB c = true then 1 else 0 := by
  unfold V_X4_isBlank isB
  dsimp only
  by_cases h1 : c = 32
  · rw [if_pos (show nI c = (32 : Int32) by rw [h1]; rfl), if_pos (decide_eq_true (Or.inl h1))]
  · rw [if_neg (nI_ne (y := 32) (b := 32) rfl h1 (by omega) (by decide))]
    by_cases h2 : c = 10
    · rw [if_pos (show nI c = (10 : Int32) by rw [h2]; rfl), if_pos (decide_eq_true (Or.inr h2))]
    · rw [if_neg (nI_ne (y := 10) (b := 10) rfl h2 (by omega) (by decide)), if_neg (fun q => (of_decide_eq_true q).elim h1 h2)]
theorem pack_C {a c : Nat} {A : Mem} (h : 97 ≤ c) (hc : c < 256) : V_X4_pack (Int64.ofNat a) (nI c) A = Int64.ofNat (a * 32 + (c - 96)) := by
  unfold V_X4_pack
  have e : (nI c - (97 : Int32)) + (1 : Int32) = nI (c - 96) := by
    rw [show (97 : Int32) = nI 97 from rfl, pk_sub h, show (1 : Int32) = nI 1 from rfl, nI_add]
    congr 1
    omega
  rw [e, nI_l (by omega)]
  show lN a * lN 32 + lN (c - 96) = lN (a * 32 + (c - 96))
  rw [lN_mul, lN_add]
theorem name_loop {A : Mem} {T : Nat → Nat} {n : Nat} {x1 : Int32} (h : Tape A T n) : ∀ (k p f a : Nat), p + k = n → k < f → L_X4_splitName_5 2 x1 f (Int64.ofNat a) (nI p) A = some (Int64.ofNat ((lets T p (upto isL T k p)).foldl (fun a d => a * 32 + d) a), nI (upto isL T k p)) := by
  intro k
  induction k with
  | zero =>
    intro p f a hp hf
    obtain ⟨f, rfl⟩ : ∃ m, f = m + 1 := ⟨f - 1, by omega⟩
    have h1 := h.2.1
    rw [L_X4_splitName_5, h.1, if_pos (nI_le (by omega) (by omega)), upto, lets_n]
    rfl
  | succ k ih =>
    intro p f a hp hf
    obtain ⟨f, rfl⟩ : ∃ m, f = m + 1 := ⟨f - 1, by omega⟩
    have h1 := h.2.1
    obtain ⟨_, hc⟩ := h.2.2 p (by omega)
    rw [L_X4_splitName_5, h.1, if_neg (nI_ge (by omega) (by omega)), tape_at h (by omega), isL_C hc, upto]
    by_cases c : isL (T p) = true
    · have c97 : 97 ≤ T p := (of_decide_eq_true c).1
      rw [if_pos c, if_neg (show ¬ (1 : Int32) = 0 by decide), if_pos c, bd1_s, pack_C c97 hc, nI_1, ih (p + 1) f _ (by omega) (by omega)]
      have := (upto_le (P := isL) (T := T) k (p + 1)).1
      rw [lets_c (p := p) (by omega)]
      rfl
    · rw [if_neg c, if_pos (rfl : (0 : Int32) = 0), if_neg c, lets_n]
      rfl
theorem nums_c {T : Nat → Nat} {p q a : Nat} (h : p < q) : (List.range (q - p)).foldl (fun a i => cap1 (a * 10 + (T (p + i) - 48))) a = (List.range (q - (p + 1))).foldl (fun a i => cap1 (a * 10 + (T (p + 1 + i) - 48))) (cap1 (a * 10 + (T p - 48))) := by
  rw [show q - p = (q - (p + 1)) + 1 by omega, List.range_succ_eq_map, List.foldl_cons, List.foldl_map, Nat.add_zero]
  congr 1
  funext b i
  show cap1 (b * 10 + (T (p + (i + 1)) - 48)) = cap1 (b * 10 + (T (p + 1 + i) - 48))
  rw [show p + (i + 1) = p + 1 + i by omega]
theorem cap1_le {x : Nat} : cap1 x ≤ 1000 := by unfold cap1; split <;> omega
theorem num_loop {A : Mem} {T : Nat → Nat} {n : Nat} {x1 : Int32} (h : Tape A T n) : ∀ (k p f a : Nat), p + k = n → k < f → a ≤ 1000 → L_X4_splitNumber_4 2 x1 f (nI a) (nI p) A = some (nI ((List.range (upto isF T k p - p)).foldl (fun a i => cap1 (a * 10 + (T (p + i) - 48))) a), nI (upto isF T k p)) := by
  intro k
  induction k with
  | zero =>
    intro p f a hp hf ha
    obtain ⟨f, rfl⟩ : ∃ m, f = m + 1 := ⟨f - 1, by omega⟩
    have h1 := h.2.1
    rw [L_X4_splitNumber_4, h.1, if_pos (nI_le (by omega) (by omega)), upto, Nat.sub_self]
    rfl
  | succ k ih =>
    intro p f a hp hf ha
    obtain ⟨f, rfl⟩ : ∃ m, f = m + 1 := ⟨f - 1, by omega⟩
    have h1 := h.2.1
    obtain ⟨_, hc⟩ := h.2.2 p (by omega)
    rw [L_X4_splitNumber_4, h.1, if_neg (nI_ge (by omega) (by omega)), tape_at h (by omega), isF_C hc, upto]
    by_cases c : isF (T p) = true
    · have c48 : 48 ≤ T p := (of_decide_eq_true c).1
      have e : ((nI a * (10 : Int32)) + nI (T p)) - (48 : Int32) = nI (a * 10 + (T p - 48)) := by
        rw [show (10 : Int32) = nI 10 from rfl, pk_mul, nI_add, show (48 : Int32) = nI 48 from rfl, pk_sub (by omega)]
        congr 1
        omega
      have e2 : (if nI (a * 10 + (T p - 48)) < (1000 : Int32) then nI (a * 10 + (T p - 48)) else (1000 : Int32)) = nI (cap1 (a * 10 + (T p - 48))) := by
        unfold cap1
        by_cases c2 : a * 10 + (T p - 48) < 1000
        · rw [if_pos c2, if_pos (ltL (y := 1000) 1000 c2 rfl (by decide))]
        · rw [if_neg c2, if_neg (nltL (y := 1000) 1000 (by omega) rfl (by omega))]
          rfl
      rw [if_pos c, if_neg (show ¬ (1 : Int32) = 0 by decide), if_pos c, e, e2, bd1_s, nI_1, ih (p + 1) f _ (by omega) (by omega) cap1_le]
      have := (upto_le (P := isF) (T := T) k (p + 1)).1
      rw [nums_c (p := p) (by omega)]
    · rw [if_neg c, if_pos (rfl : (0 : Int32) = 0), if_neg c, Nat.sub_self]
      rfl
theorem sign_C {c : Nat} {x1 : Int32} {A : Mem} (hc : c < 256) : R_X4_splitSign 2 x1 (nI c) A = R_X4_addWord 2 (nI (sgK c)) 0 x1 A := by
  have key : ∀ c, c < 256 → (if 0 ≤ (sgIx (nI c)) then ((27 : Int32) + (sgIx (nI c))) else (36 : Int32)) = nI (sgK c) := by decide +kernel
  unfold R_X4_splitSign
  rw [ck_nI hc (by omega), key c hc, bd1_s]
/-! the rows of words -/
def RowW (A : Mem) (ts : List Tk) : Prop := ∀ i t, ts[i]? = some t → A.1 5 i = nI t.1 ∧ A.1 7 i = nI t.2.2.2 ∧ t.1 < 38 ∧ t.2.2.2 ≤ 800 ∧ (t.1 = 25 → A.2 6 i = Int64.ofNat t.2.2.1 ∧ t.2.2.1 ≤ 999) ∧ (t.1 = 26 → A.2 6 i = Int64.ofNat (pkN 32 t.2.1))
/-- what splitting leaves alone -/
def FrW (A A' : Mem) : Prop := (∀ d, d ≠ 2 → d ≠ 5 → d ≠ 7 → A'.1 d = A.1 d) ∧ (∀ j, j ≠ 6 → A'.1 2 j = A.1 2 j) ∧ ∀ d, d ≠ 6 → A'.2 d = A.2 d
theorem FrW.rf {A : Mem} : FrW A A := ⟨fun _ _ _ _ => rfl, fun _ _ => rfl, fun _ _ => rfl⟩
theorem FrW.tr {A A1 A' : Mem} (h : FrW A A1) (g : FrW A1 A') : FrW A A' := ⟨fun d p1 p2 p3 => (g.1 d p1 p2 p3).trans (h.1 d p1 p2 p3), fun j p => (g.2.1 j p).trans (h.2.1 j p), fun d p => (g.2.2 d p).trans (h.2.2 d p)⟩
theorem Tape.w {A A' : Mem} {T : Nat → Nat} {n : Nat} (h : Tape A T n) (g : FrW A A') : Tape A' T n := ⟨by rw [g.2.1 5 (by decide)]; exact h.1, h.2.1, fun i hi => by rw [g.1 3 (by decide) (by decide) (by decide)]; exact h.2.2 i hi⟩
theorem Knw.w {A A' : Mem} (h : Knw A) (g : FrW A A') : Knw A' := fun i w e => by rw [g.2.2 4 (by decide)]; exact h i w e
def adW (A : Mem) (w : Nat) (x1 : Int32) (x2 : Int64) (x3 : Int32) : Mem := setI (setI (setJ (setI A 5 w x1) 6 w x2) 7 w x3) 2 6 (nI (w + 1))
theorem addWord_C {A : Mem} {w : Nat} {x1 x3 : Int32} {x2 : Int64} (h : A.1 2 6 = nI w) (hw : w < 801) : R_X4_addWord 2 x1 x2 x3 A = some (adW A w x1 x2 x3) := by
  unfold R_X4_addWord adW
  rw [h, if_neg (nleL (y := 801) 801 hw rfl (by decide)), ck_nI hw (by omega), ck_nI hw (by omega), ck_nI hw (by omega), nI_clamp (by omega), nI_1]
  rfl
theorem adW_fr {A : Mem} {w : Nat} {x1 x3 : Int32} {x2 : Int64} : FrW A (adW A w x1 x2 x3) := by
  unfold adW
  refine ⟨fun d p1 p2 p3 => ?_, fun j p => ?_, fun d p => ?_⟩
  · rw [fI p1, fI p3]; exact fI p2
  · rw [gI (Or.inr p), gI (Or.inl (by decide)), sJ1, gI (Or.inl (by decide))]
  · exact fJ p
theorem adW_row {A : Mem} {ws : List Tk} {t : Tk} {x2 : Int64} (h : RowW A ws) (h1 : t.1 < 38) (h2 : t.2.2.2 ≤ 800) (h3 : t.1 = 25 → x2 = Int64.ofNat t.2.2.1 ∧ t.2.2.1 ≤ 999) (h4 : t.1 = 26 → x2 = Int64.ofNat (pkN 32 t.2.1)) : RowW (adW A ws.length (nI t.1) x2 (nI t.2.2.2)) (ws ++ [t]) := by
  have e5 : ∀ i, (adW A ws.length (nI t.1) x2 (nI t.2.2.2)).1 5 i = if i = ws.length then nI t.1 else A.1 5 i := fun i => by
    unfold adW
    rw [gI (Or.inl (by decide)), gI (Or.inl (by decide))]
    show (if 5 = 5 ∧ i = ws.length then nI t.1 else A.1 5 i) = _
    by_cases c : i = ws.length
    · rw [if_pos c, if_pos (show 5 = 5 ∧ i = ws.length from ⟨rfl, c⟩)]
    · rw [if_neg c, if_neg (fun q => c q.2)]
  have e7 : ∀ i, (adW A ws.length (nI t.1) x2 (nI t.2.2.2)).1 7 i = if i = ws.length then nI t.2.2.2 else A.1 7 i := fun i => by
    unfold adW
    rw [gI (Or.inl (by decide))]
    by_cases c : i = ws.length
    · rw [if_pos c, c, gs_eI]
    · rw [if_neg c, gI (Or.inr c), sJ1, gI (Or.inl (by decide))]
  have e6 : ∀ i, (adW A ws.length (nI t.1) x2 (nI t.2.2.2)).2 6 i = if i = ws.length then x2 else A.2 6 i := fun i => by
    show (if 6 = 6 ∧ i = ws.length then x2 else A.2 6 i) = _
    by_cases c : i = ws.length
    · rw [if_pos c, if_pos (show 6 = 6 ∧ i = ws.length from ⟨rfl, c⟩)]
    · rw [if_neg c, if_neg (fun q => c q.2)]
  intro i u e
  rw [e5, e6, e7]
  by_cases c : i < ws.length
  · rw [List.getElem?_append_left c] at e
    rw [if_neg (by omega), if_neg (by omega), if_neg (by omega)]
    exact h i u e
  · have hi : i = ws.length := by
      have : i < (ws ++ [t]).length := by
        obtain ⟨w, _⟩ := List.getElem?_eq_some_iff.mp e
        exact w
      rw [List.length_append, List.length_singleton] at this
      omega
    subst hi
    rw [List.getElem?_append_right (Nat.le_refl _), Nat.sub_self] at e
    have : t = u := Option.some.inj e
    subst this
    rw [if_pos rfl, if_pos rfl, if_pos rfl]
    exact ⟨rfl, rfl, h1, h2, h3, h4⟩
theorem adW_n {A : Mem} {w : Nat} {x1 x3 : Int32} {x2 : Int64} : (adW A w x1 x2 x3).1 2 6 = nI (w + 1) := by unfold adW; exact gs_eI
