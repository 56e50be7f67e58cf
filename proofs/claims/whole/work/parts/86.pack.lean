/-! ===== names as numbers ===== -/
theorem nil_or (l : List Nat) : l = [] ∨ ∃ m d, l = m ++ [d] := by
  rcases List.eq_nil_or_concat l with e | ⟨m, d, e⟩
  · exact Or.inl e
  · exact Or.inr ⟨m, d, by rw [e, List.concat_eq_append]⟩
def dgs (b : Nat) (l : List Nat) : Prop := ∀ d ∈ l, 0 < d ∧ d < b
theorem pk_app {b d : Nat} {l : List Nat} : pkN b (l ++ [d]) = pkN b l * b + d := by
  unfold pkN
  rw [List.foldl_append]
  rfl
theorem pkN_lt {b : Nat} (hb : 0 < b) : ∀ (n : Nat) (l : List Nat), l.length = n → dgs b l → pkN b l < b ^ n := by
  intro n
  induction n with
  | zero =>
    intro l h _
    have : l = [] := List.length_eq_zero_iff.mp h
    subst this
    exact Nat.one_pos
  | succ n ih =>
    intro l h hd
    rcases nil_or l with e | ⟨m, d, e⟩
    · subst e; cases h
    · subst e
      rw [List.length_append] at h
      have h1 := ih m (by simpa using h) (fun x hx => hd x (List.mem_append_left _ hx))
      have h2 := (hd d (List.mem_append_right _ List.mem_cons_self)).2
      rw [pk_app, Nat.pow_succ]
      calc pkN b m * b + d < pkN b m * b + b := Nat.add_lt_add_left h2 _
        _ = (pkN b m + 1) * b := by rw [Nat.succ_mul]
        _ ≤ b ^ n * b := Nat.mul_le_mul_right b h1
theorem pkN_inj {b : Nat} : ∀ (n : Nat) (l l' : List Nat), l.length ≤ n → dgs b l → dgs b l' → pkN b l = pkN b l' → l = l' := by
  intro n
  induction n with
  | zero =>
    intro l l' h _ hd' e
    have : l = [] := List.length_eq_zero_iff.mp (by omega)
    subst this
    rcases nil_or l' with e' | ⟨m', d', e'⟩
    · exact e'.symm
    · subst e'
      rw [pk_app] at e
      have h2 := (hd' d' (List.mem_append_right _ List.mem_cons_self)).1
      have e0 : pkN b [] = 0 := rfl
      omega
  | succ n ih =>
    intro l l' h hd hd' e
    rcases nil_or l with e1 | ⟨m, d, e1⟩
    · subst e1
      rcases nil_or l' with e' | ⟨m', d', e'⟩
      · exact e'.symm
      · subst e'
        rw [pk_app] at e
        have h2 := (hd' d' (List.mem_append_right _ List.mem_cons_self)).1
        have e0 : pkN b [] = 0 := rfl
        omega
    · subst e1
      have h1 := hd d (List.mem_append_right _ List.mem_cons_self)
      rcases nil_or l' with e' | ⟨m', d', e'⟩
      · subst e'
        rw [pk_app] at e
        have e0 : pkN b [] = 0 := rfl
        omega
      · subst e'
        have h2 := hd' d' (List.mem_append_right _ List.mem_cons_self)
        rw [pk_app, pk_app] at e
        have e3 : d = d' := by
          have := congrArg (· % b) e
          simp only [Nat.mul_add_mod'] at this
          rw [Nat.mod_eq_of_lt h1.2, Nat.mod_eq_of_lt h2.2] at this
          exact this
        subst e3
        have e4 : pkN b m = pkN b m' := Nat.eq_of_mul_eq_mul_right (show 0 < b by omega) (Nat.add_right_cancel e)
        rw [List.length_append] at h
        rw [ih m m' (by simp at h; omega) (fun x hx => hd x (List.mem_append_left _ hx)) (fun x hx => hd' x (List.mem_append_left _ hx)) e4]
theorem lets_c {T : Nat → Nat} {p q : Nat} (h : p < q) : lets T p q = (T p - 96) :: lets T (p + 1) q := by
  unfold lets
  rw [show q - p = (q - (p + 1)) + 1 by omega, List.range_succ_eq_map, List.map_cons, List.map_map]
  congr 1
  apply List.map_congr_left
  intro i _
  show T (p + (i + 1)) - 96 = T (p + 1 + i) - 96
  rw [show p + (i + 1) = p + 1 + i by omega]
theorem lets_n {T : Nat → Nat} {p : Nat} : lets T p p = [] := by
  unfold lets
  rw [Nat.sub_self]
  rfl
theorem lets_len {T : Nat → Nat} {p q : Nat} : (lets T p q).length = q - p := by
  unfold lets
  rw [List.length_map, List.length_range]
theorem upto_p {P : Nat → Bool} {T : Nat → Nat} : ∀ (k p : Nat), ∀ i, p ≤ i → i < upto P T k p → P (T i) = true := by
  intro k
  induction k with
  | zero => intro p i h1 h2; unfold upto at h2; omega
  | succ k ih =>
    intro p i h1 h2
    unfold upto at h2
    split at h2
    · rename_i c
      rcases Nat.eq_or_lt_of_le h1 with e | e
      · rw [← e]; exact c
      · exact ih (p + 1) i e h2
    · omega
theorem lets_dg {T : Nat → Nat} {k p : Nat} : ∀ d ∈ lets T p (upto isL T k p), 0 < d ∧ d < 27 := by
  intro d hd
  unfold lets at hd
  obtain ⟨i, hi, rfl⟩ := List.mem_map.mp hd
  rw [List.mem_range] at hi
  have := upto_p (P := isL) (T := T) k p (p + i) (by omega) (by omega)
  unfold isL at this
  have := of_decide_eq_true this
  omega
theorem dgs_m {b b' : Nat} {l : List Nat} (h : dgs b l) (hb : b ≤ b') : dgs b' l := fun d hd => ⟨(h d hd).1, by have := (h d hd).2; omega⟩
theorem kn_dg : ∀ w ∈ kn, (∀ d ∈ w, 0 < d ∧ d < 27) ∧ w.length ≤ 5 ∧ 0 < w.length := by decide
theorem lN_inj {a b : Nat} (ha : a < 2 ^ 63) (hb : b < 2 ^ 63) : Int64.ofNat a = Int64.ofNat b ↔ a = b := pk_lEQ ha hb
theorem pk32_lt {l : List Nat} (h : dgs 27 l) (hl : l.length ≤ 12) : pkN 32 l < 2 ^ 63 := by
  have h1 := pkN_lt (b := 32) (by omega) l.length l rfl (dgs_m h (by omega))
  have h2 : 32 ^ l.length ≤ 32 ^ 12 := Nat.pow_le_pow_right (by omega) hl
  have h3 : (32 : Nat) ^ 12 < 2 ^ 63 := by decide
  omega
theorem pk27_lt {l : List Nat} (h : dgs 27 l) (hl : l.length ≤ 12) : pkN 27 l < 2 ^ 63 := by
  have h1 := pkN_lt (b := 27) (by omega) l.length l rfl h
  have h2 : 27 ^ l.length ≤ 27 ^ 12 := Nat.pow_le_pow_right (by omega) hl
  have h3 : (27 : Nat) ^ 12 < 2 ^ 63 := by decide
  omega
theorem pk32_eq {l l' : List Nat} (h : dgs 27 l) (hl : l.length ≤ 12) (h' : dgs 27 l') (hl' : l'.length ≤ 12) : Int64.ofNat (pkN 32 l) = Int64.ofNat (pkN 32 l') ↔ l = l' := by
  rw [lN_inj (pk32_lt h hl) (pk32_lt h' hl')]
  exact ⟨pkN_inj 12 l l' hl (dgs_m h (by omega)) (dgs_m h' (by omega)), fun e => by rw [e]⟩
theorem pk27_eq {l l' : List Nat} (h : dgs 27 l) (hl : l.length ≤ 12) (h' : dgs 27 l') (hl' : l'.length ≤ 12) : Int64.ofNat (pkN 27 l) = Int64.ofNat (pkN 27 l') ↔ l = l' := by
  rw [lN_inj (pk27_lt h hl) (pk27_lt h' hl')]
  exact ⟨pkN_inj 12 l l' hl h h', fun e => by rw [e]⟩
/-- the words that the class knows -/
def Knw (A : Mem) : Prop := ∀ i w, kn[i]? = some w → A.2 4 i = Int64.ofNat (pkN 32 w)
theorem kindOf_C {A : Mem} {l : List Nat} (h : dgs 27 l) (hl : l.length ≤ 12) (hK : Knw A) : V_X4_kindOf 2 (Int64.ofNat (pkN 32 l)) A = nI (kw l) := by
  have key : ∀ (ws : List (List Nat)) (i : Nat), (∀ w ∈ ws, dgs 27 w ∧ w.length ≤ 5) → (∀ j w, ws[j]? = some w → A.2 4 (i + j) = Int64.ofNat (pkN 32 w)) → FV_X4_kindOf_2 2 (Int64.ofNat (pkN 32 l)) ws.length i A = nI (kwI l ws i) := by
    intro ws
    induction ws with
    | nil => intro i _ _; rfl
    | cons w ws ih =>
      intro i h1 h2
      have hw := h1 w List.mem_cons_self
      rw [List.length_cons, FV_X4_kindOf_2, kwI, show (2 : Nat) + 2 = 4 from rfl]
      have e := h2 0 w rfl
      rw [Nat.add_zero] at e
      rw [e]
      by_cases c : w = l
      · rw [if_pos c, if_pos (by rw [lg_cmp_eq, c])]
      · rw [if_neg c, if_neg (fun q => c ((pk32_eq hw.1 (by omega) h hl).mp ((lg_cmp_eq _ _).mp q)))]
        exact ih (i + 1) (fun w hw => h1 w (List.mem_cons_of_mem _ hw)) (fun j w e => by
          have := h2 (j + 1) w e
          rw [show i + 1 + j = i + (j + 1) by omega]; exact this)
  unfold V_X4_kindOf kw
  exact key kn 0 (fun w hw => ⟨(kn_dg w hw).1, (kn_dg w hw).2.1⟩) (fun j w e => by rw [Nat.zero_add]; exact hK j w e)
