/-! ===== numbers, memory, the combinators: what the mathematics needs ===== -/
theorem gI {M : Mem} {a j b i : Nat} {v : Int32} (h : b ≠ a ∨ i ≠ j) : (setI M a j v).1 b i = M.1 b i := by
  unfold setI
  exact if_neg (fun q => h.elim (fun e => e q.1) (fun e => e q.2))
theorem fI {M : Mem} {a j b : Nat} {v : Int32} (h : b ≠ a) : (setI M a j v).1 b = M.1 b := funext fun _ => gI (Or.inl h)
theorem gJ {M : Mem} {a j b i : Nat} {v : Int64} (h : b ≠ a ∨ i ≠ j) : (setJ M a j v).2 b i = M.2 b i := by
  unfold setJ
  exact if_neg (fun q => h.elim (fun e => e q.1) (fun e => e q.2))
theorem fJ {M : Mem} {a j b : Nat} {v : Int64} (h : b ≠ a) : (setJ M a j v).2 b = M.2 b := funext fun _ => gJ (Or.inl h)
theorem setI_self {M : Mem} {a j : Nat} {v : Int32} (h : M.1 a j = v) : setI M a j v = M := by
  refine Prod.ext ?_ rfl
  funext c i
  unfold setI
  dsimp only
  by_cases q : c = a ∧ i = j
  · rw [if_pos q, q.1, q.2]; exact h.symm
  · rw [if_neg q]
theorem sI2 {M : Mem} {a j : Nat} {v : Int32} : (setI M a j v).2 = M.2 := rfl
theorem sJ1 {M : Mem} {a j : Nat} {v : Int64} : (setJ M a j v).1 = M.1 := rfl
theorem ck_yes {β : Type} {i : Int32} {n : Nat} {x : Option β} (h : 0 ≤ i ∧ i.toNatClampNeg < n) : ck i n x = x := if_pos h
theorem ck_nI {β : Type} {r n : Nat} {x : Option β} (h : r < n) (h2 : r < 2 ^ 31) : ck (nI r) n x = x := ck_yes ⟨nI_pos' h2, by rw [nI_clamp h2]; exact h⟩
theorem cz_0 {β : Type} {x : Option β} : cz 0 x = x := if_pos (Or.inl rfl)
theorem cz_1 {β : Type} {x : Option β} : cz 1 x = x := if_pos (Or.inr rfl)
theorem bnd1_s {α β : Type} {a : α} {f : α → Option β} : bnd1 (some a) f = f a := rfl
theorem bnd2_s {α β γ : Type} {a : α} {b : β} {f : α → β → Option γ} : bnd2 (some (a, b)) f = f a b := rfl
theorem bnd3_s {α β γ δ : Type} {a : α} {b : β} {c : γ} {f : α → β → γ → Option δ} : bnd3 (some (a, b, c)) f = f a b c := rfl
theorem bd1_s {α β : Type} {a : α} {f : α → β} : bd1 a f = f a := rfl
theorem bd2_s {α β γ : Type} {a : α} {b : β} {f : α → β → γ} : bd2 (a, b) f = f a b := rfl
theorem br1_r {ρ α : Type} {a : α} {f : α → Option ρ} : br1 (some (.inr a)) f = f a := rfl
theorem br1_l {ρ α : Type} {x : ρ} {f : α → Option ρ} : br1 (some (.inl x)) f = some x := rfl
theorem bs1_r {ρ σ α : Type} {a : α} {f : α → Option (ρ ⊕ σ)} : bs1 (some (.inr a)) f = f a := rfl
theorem bs1_l {ρ σ α : Type} {x : ρ} {f : α → Option (ρ ⊕ σ)} : bs1 (some (.inl x)) f = some (.inl x) := rfl
theorem bnd1_e {α β : Type} {x : Option α} {a : α} {f : α → Option β} (h : x = some a) : bnd1 x f = f a := by rw [h]; rfl
theorem bnd2_e {α β γ : Type} {x : Option (α × β)} {a : α} {b : β} {f : α → β → Option γ} (h : x = some (a, b)) : bnd2 x f = f a b := by rw [h]; rfl
/-! the model's cells of a robot -/
theorem ix_r {r c : Nat} : ((44 : Int32) + ((16 : Int32) * (nI r))) + nI c = nI (44 + 16 * r + c) := by
  rw [show (44 : Int32) = nI 44 from rfl, show (16 : Int32) = nI 16 from rfl, pk_mul, nI_add, nI_add]
theorem of_eq {r c mA : Nat} {M : Mem} {w : Int32} (hr : r < 10) (hc : c < 16) (hw : w = nI c) : R_X11_of (nI r) w mA M = some (M.1 mA (44 + 16 * r + c)) := by
  subst hw
  unfold R_X11_of
  rw [ix_r, ck_nI (by omega) (by omega), nI_clamp (by omega)]
theorem set_eq {r c mA : Nat} {M : Mem} {w v : Int32} (hr : r < 10) (hc : c < 16) (hw : w = nI c) : R_X11_set (nI r) w v mA M = some (setI M mA (44 + 16 * r + c) v) := by
  subst hw
  unfold R_X11_set
  rw [ix_r, ck_nI (by omega) (by omega), nI_clamp (by omega)]
/-! a search in a row -/
def srch (f : Nat → Bool) : Nat → Nat → Int32
  | 0, _ => -1
  | n + 1, i => if f i = true then nI i else srch f n (i + 1)
theorem srch_cg {f g : Nat → Bool} : ∀ (n i : Nat), (∀ k, i ≤ k → k < i + n → f k = g k) → srch f n i = srch g n i := by
  intro n
  induction n with
  | zero => intro i _; rfl
  | succ n ih =>
    intro i h
    simp only [srch]
    rw [h i (Nat.le_refl _) (by omega), ih (i + 1) (fun k h1 h2 => h k (by omega) (by omega))]
theorem srch_cut {f : Nat → Bool} : ∀ (n i m : Nat), (∀ k, i + n ≤ k → k < i + n + m → f k = false) → srch f (n + m) i = srch f n i := by
  intro n
  induction n with
  | zero =>
    intro i m
    induction m generalizing i with
    | zero => intro _; rfl
    | succ m ih =>
      intro h
      rw [show 0 + (m + 1) = (0 + m) + 1 by omega]
      simp only [srch]
      rw [if_neg (by rw [h i (by omega) (by omega)]; exact Bool.false_ne_true)]
      have h2 := ih (i + 1) (fun k h1 h2 => h k (by omega) (by omega))
      rw [h2]
      rfl
  | succ n ih =>
    intro i m h
    rw [show n + 1 + m = (n + m) + 1 by omega]
    simp only [srch]
    rw [ih (i + 1) m (fun k h1 h2 => h k (by omega) (by omega))]
theorem srch_none {f : Nat → Bool} (n i : Nat) (h : ∀ k, i ≤ k → k < i + n → f k = false) : srch f n i = -1 := by
  have := srch_cut (f := f) 0 i n (fun k h1 h2 => h k (by omega) (by omega))
  rw [Nat.zero_add] at this
  rw [this]; rfl
theorem srch_spec {f : Nat → Bool} : ∀ (n i : Nat), (srch f n i = -1 ∧ ∀ k, i ≤ k → k < i + n → f k = false) ∨ ∃ j, i ≤ j ∧ j < i + n ∧ srch f n i = nI j ∧ f j = true ∧ ∀ k, i ≤ k → k < j → f k = false := by
  intro n
  induction n with
  | zero => intro i; exact Or.inl ⟨rfl, fun k h1 h2 => by omega⟩
  | succ n ih =>
    intro i
    simp only [srch]
    by_cases c : f i = true
    · rw [if_pos c]; exact Or.inr ⟨i, Nat.le_refl _, by omega, rfl, c, fun k h1 h2 => by omega⟩
    · rw [if_neg c]
      have c' : f i = false := by cases hf : f i with
        | false => rfl
        | true => exact absurd hf c
      rcases ih (i + 1) with ⟨h1, h2⟩ | ⟨j, h1, h2, h3, h4, h5⟩
      · refine Or.inl ⟨h1, fun k a b => ?_⟩
        rcases Nat.eq_or_lt_of_le a with e | e
        · rw [← e]; exact c'
        · exact h2 k e (by omega)
      · refine Or.inr ⟨j, by omega, by omega, h3, h4, fun k a b => ?_⟩
        rcases Nat.eq_or_lt_of_le a with e | e
        · rw [← e]; exact c'
        · exact h5 k e b
theorem m1_lt : (-1 : Int32) < 0 := by decide
theorem m1_nle : ¬ (0 : Int32) ≤ -1 := by decide
def eqB (x y : Int32) : Bool := decide (x = y)
/-- which robot is in a cell, in the class's match -/
def inC (b : Nat) (x y : Int32) (M : Mem) (i : Nat) : Bool := decide (M.1 (b + 10 + 2 * i) 2 = x ∧ M.1 (b + 10 + 2 * i) 3 = y)
theorem inC_t {b : Nat} {x y : Int32} {M : Mem} {i : Nat} (h1 : M.1 (b + 10 + 2 * i) 2 = x) (h2 : M.1 (b + 10 + 2 * i) 3 = y) : inC b x y M i = true := decide_eq_true ⟨h1, h2⟩
theorem inC_f {b : Nat} {x y : Int32} {M : Mem} {i : Nat} (h : ¬ (M.1 (b + 10 + 2 * i) 2 = x ∧ M.1 (b + 10 + 2 * i) 3 = y)) : ¬ inC b x y M i = true := fun q => h (of_decide_eq_true q)
theorem robotIn_eq {b : Nat} {x y : Int32} {M : Mem} : V_X2_robotIn b x y M = srch (inC b x y M) 10 0 := by
  have key : ∀ (n i : Nat), FV_X2_robotIn_2 b x y n i M = srch (inC b x y M) n i := by
    intro n
    induction n with
    | zero => intro i; rfl
    | succ n ih =>
      intro i
      simp only [FV_X2_robotIn_2, srch, ih]
      by_cases c1 : M.1 (b + 10 + 2 * i) 2 = x
      · by_cases c2 : M.1 (b + 10 + 2 * i) 3 = y
        · rw [if_pos c1, if_pos c2, if_pos (inC_t c1 c2)]
        · rw [if_pos c1, if_neg c2, if_neg (inC_f (fun q => c2 q.2))]
      · rw [if_neg c1, if_neg (inC_f (fun q => c1 q.1))]
  exact key 10 0
/-- which robot is in a cell, in a row of the model, one not counted -/
def inM (ρ : Nat → Int32) (x y but : Int32) (i : Nat) : Bool := decide (¬ nI i = but ∧ ρ (44 + 16 * i) = x ∧ ρ (44 + 16 * i + 1) = y)
theorem inM_t {ρ : Nat → Int32} {x y but : Int32} {i : Nat} (h0 : ¬ nI i = but) (h1 : ρ (44 + 16 * i) = x) (h2 : ρ (44 + 16 * i + 1) = y) : inM ρ x y but i = true := decide_eq_true ⟨h0, h1, h2⟩
theorem inM_f {ρ : Nat → Int32} {x y but : Int32} {i : Nat} (h : ¬ (¬ nI i = but ∧ ρ (44 + 16 * i) = x ∧ ρ (44 + 16 * i + 1) = y)) : ¬ inM ρ x y but i = true := fun q => h (of_decide_eq_true q)
def srS (v : Int32) : Int32 ⊕ Unit := if v = -1 then .inr () else .inl v
theorem robotAt_eq {x y but : Int32} {mA p : Nat} {M : Mem} (hp : p ≤ 10) (h30 : M.1 242 30 = nI p) : R_X11_robotAt x y but mA M = some (srch (inM (M.1 mA) x y but) p 0) := by
  have key : ∀ (k n i : Nat), i + k = p → k < n → L_X11_robotAt_3 x y but mA n (nI i) M = some (srS (srch (inM (M.1 mA) x y but) k i)) := by
    intro k
    induction k with
    | zero =>
      intro n i hi hn
      obtain ⟨n, rfl⟩ : ∃ m, n = m + 1 := ⟨n - 1, by omega⟩
      rw [L_X11_robotAt_3, h30, show i = p by omega, if_pos (nI_le (Nat.le_refl _) (by omega))]
      rfl
    | succ k ih =>
      intro n i hi hn
      obtain ⟨n, rfl⟩ : ∃ m, n = m + 1 := ⟨n - 1, by omega⟩
      have h1 := ih n (i + 1) (by omega) (by omega)
      rw [L_X11_robotAt_3, h30, if_neg (nI_ge (by omega) (by omega)), nI_1, h1]
      simp only [srch]
      by_cases c0 : nI i = but
      · rw [if_pos c0, if_neg (inM_f (fun q => q.1 c0))]
      · rw [if_neg c0, bnd1_e (of_eq (r := i) (c := 0) (w := 0) (by omega) (by omega) rfl)]
        by_cases c1 : M.1 mA (44 + 16 * i + 0) = x
        · rw [if_pos c1, bnd1_e (of_eq (r := i) (c := 1) (w := 1) (by omega) (by omega) rfl)]
          by_cases c2 : M.1 mA (44 + 16 * i + 1) = y
          · rw [if_pos c2, if_pos (inM_t c0 c1 c2)]
            unfold srS
            rw [if_neg (show ¬ nI i = -1 from fun q => m1_nle (q ▸ nI_pos' (by omega)))]
          · rw [if_neg c2, if_neg (inM_f (fun q => c2 q.2.2))]
        · rw [if_neg c1, if_neg (inM_f (fun q => c1 q.2.1))]
  unfold R_X11_robotAt
  rw [show (0 : Int32) = nI 0 from rfl, key p FUEL 0 (by omega) (by unfold FUEL; omega)]
  unfold srS
  by_cases c : srch (inM (M.1 mA) x y but) p 0 = -1
  · rw [if_pos c, c]; rfl
  · rw [if_neg c]; rfl
