/-! ===== commands are done ===== -/
theorem n10 : ¬ (1 : Int32) = 0 := by decide
theorem step1 {x w N : Nat} {d : Int32} (hw : sg3 d) (hx : x < N) (hN : N < 100) (_ : w = w) : (nI x + d < 0) ∨ (nI N ≤ nI x + d ∧ ¬ nI x + d < 0) ∨ ∃ y, y < N ∧ nI x + d = nI y := by
  rcases hw with e | e | e <;> subst e
  · cases x with
    | zero => left; decide
    | succ k => right; right; exact ⟨k, by omega, pk_m1 k⟩
  · right; right
    exact ⟨x, hx, by rw [show (0 : Int32) = nI 0 from rfl, nI_add, Nat.add_zero]⟩
  · rw [nI_1]
    by_cases c : x + 1 < N
    · right; right; exact ⟨x + 1, c, rfl⟩
    · right; left; exact ⟨nI_le (by omega) (by omega), nI_pos (by omega)⟩
theorem in_lt {a lo hi : Int32} {M : Mem} (h : a < lo) : V_X11_in a lo hi M = 0 := by
  unfold V_X11_in; dsimp only; rw [if_pos h]
theorem in_gt {a lo hi : Int32} {M : Mem} (h : hi < a) : V_X11_in a lo hi M = 0 := by
  unfold V_X11_in; dsimp only; rw [if_pos h]; split <;> rfl
theorem in_ok {a lo hi : Int32} {M : Mem} (h1 : ¬ a < lo) (h2 : ¬ hi < a) : V_X11_in a lo hi M = 1 := by
  unfold V_X11_in; dsimp only; rw [if_neg h1, if_neg h2]
theorem lt_of_le1 {n : Nat} {a : Int32} (h : nI (n + 1) ≤ a) (hn : n + 1 < 2 ^ 31) : nI n < a := by
  rw [Int32.le_iff_toInt_le, nI_toInt hn] at h
  rw [Int32.lt_iff_toInt_lt, nI_toInt (by omega)]
  omega
theorem inN {x n : Nat} {hi : Int32} {M : Mem} (hx : x ≤ n) (hh : hi = nI n) (hn : n < 2 ^ 31) : V_X11_in (nI x) 0 hi M = 1 := by
  subst hh
  exact in_ok (nI_pos (by omega)) (nI_nlt hx hn)
theorem rob_same {b : Nat} {A : Mem} {ρ : Nat → Int32} {x y : Int32} (h : ∀ r, r < 10 → XYR b A ρ r) : V_X2_robotIn b x y A = srch (inM ρ x y (-1)) 10 0 := by
  rw [robotIn_eq]
  refine srch_cg 10 0 (fun k _ hk => ?_)
  have e : inC b x y A k = true ↔ inM ρ x y (-1) k = true := by
    rw [inC_iff, inM_iff, (h k (by omega)).1, (h k (by omega)).2]
    exact ⟨fun q => ⟨fun z => m1_nle (z ▸ nI_pos' (by omega)), q⟩, fun q => q.2⟩
  cases h1 : inC b x y A k with
  | true => exact (e.mp h1).symm
  | false =>
    cases h2 : inM ρ x y (-1) k with
    | false => rfl
    | true => rw [e.mpr h2] at h1; cases h1
theorem srch_two {ρ : Nat → Int32} {x y : Int32} : srch (inM ρ x y (-1)) 10 0 = -1 ∨ ∃ j, j < 10 ∧ srch (inM ρ x y (-1)) 10 0 = nI j ∧ ρ (44 + 16 * j) = x ∧ ρ (44 + 16 * j + 1) = y := by
  rcases srch_spec (f := inM ρ x y (-1)) 10 0 with ⟨h, _⟩ | ⟨j, _, h1, h2, h3, _⟩
  · exact Or.inl h
  · exact Or.inr ⟨j, by omega, h2, (inM_iff.mp h3).2.1, (inM_iff.mp h3).2.2⟩
theorem XYR_all {b : Nat} {SV : Nat → Nat → Prop} {A : Mem} {ρ : Nat → Int32} (h : ∀ r, r < 10 → RobR b SV A ρ r) : ∀ r, r < 10 → XYR b A ρ r := fun r hr => (h r hr).1
/-- a robot goes to a cell, without the ball's part -/
def goC (b r : Nat) (x y : Int32) (A : Mem) : Mem := setI (setI A (b + 10 + 2 * r) 2 x) (b + 10 + 2 * r) 3 y
def goM (mA r : Nat) (x y : Int32) (B : Mem) : Mem := setI (setI B mA (44 + 16 * r) x) mA (44 + 16 * r + 1) y
theorem goC_o {b r c j : Nat} {x y : Int32} {A : Mem} (h : c ≠ b + 10 + 2 * r ∨ (j ≠ 2 ∧ j ≠ 3)) : (goC b r x y A).1 c j = A.1 c j := by
  unfold goC; simp (disch := omega) only [gI]
theorem goM_o {mA r k : Nat} {x y : Int32} {B : Mem} (h : k ≠ 44 + 16 * r ∧ k ≠ 44 + 16 * r + 1) : (goM mA r x y B).1 mA k = B.1 mA k := by
  unfold goM; simp (disch := omega) only [gI]
theorem goM_c {mA r c : Nat} {x y : Int32} {B : Mem} (h : c ≠ mA) : (goM mA r x y B).1 c = B.1 c := by
  unfold goM; rw [fI h, fI h]
theorem goM_x {mA r : Nat} {x y : Int32} {B : Mem} : (goM mA r x y B).1 mA (44 + 16 * r) = x ∧ (goM mA r x y B).1 mA (44 + 16 * r + 1) = y := by
  unfold goM; constructor <;> simp (disch := omega) only [gI, gs_eI]
theorem goC_x {b r : Nat} {x y : Int32} {A : Mem} : (goC b r x y A).1 (b + 10 + 2 * r) 2 = x ∧ (goC b r x y A).1 (b + 10 + 2 * r) 3 = y := by
  unfold goC; constructor <;> simp (disch := omega) only [gI, gs_eI]
theorem go_Rob {b mA r s x y : Nat} {SV : Nat → Nat → Prop} {A B : Mem} (hx : x < 15) (hy : y < 9) (h : RobR b SV A (B.1 mA) s) : RobR b SV (goC b r (nI x) (nI y) A) ((goM mA r (nI x) (nI y) B).1 mA) s := by
  by_cases e : s = r
  · subst e
    obtain ⟨h1, h2, h3, h4, h5, h6, h7⟩ := h
    refine ⟨⟨?_, ?_⟩, ⟨x, y, hx, hy, goM_x.1, goM_x.2⟩, h3.cg (fun j hj => goC_o (Or.inr (by omega))) (fun i _ => goC_o (Or.inl (by omega))) (fun k hk => goM_o (by omega)), h4.cg (fun k hk => goM_o (by omega)), h5.cg (fun j hj => goC_o (Or.inr (by omega))) (fun k hk => goM_o (by omega)), ?_, h7.cg (fun j hj => goC_o (Or.inr (by omega)))⟩
    · rw [goC_x.1, goM_x.1]
    · rw [goC_x.2, goM_x.2]
    · unfold CMR at h6 ⊢
      rw [goC_o (Or.inr (by omega)), goM_o (by omega)]; exact h6
  · exact h.cg (fun j _ => goC_o (Or.inl (by omega))) (fun i _ => goC_o (Or.inl (by omega))) (fun k _ => goM_o (by omega))
theorem go_CW {b mA r s : Nat} {x y : Int32} {A B : Mem} (hm : mA = 259 ∨ mA = 260) (h : CW b A B (B.1 mA) s) : CW b (goC b r x y A) (goM mA r x y B) ((goM mA r x y B).1 mA) s := h.cg (fun j _ => goC_o (Or.inr (by omega))) (fun c hc => goM_c (by omega)) (goM_o (by omega))
theorem hold_CW {b mA r s : Nat} {x y w : Int32} {A B : Mem} (hm : mA = 259 ∨ mA = 260) (h : CW b A B (B.1 mA) s) : CW b (holdC b r x y w A) (holdM mA r B) ((holdM mA r B).1 mA) s := h.cg (fun j _ => holdC_o (Or.inl (by omega))) (fun c hc => holdM_c (by omega)) (holdM_o (by omega))
/-- a robot goes, all but the ball -/
theorem go_TK {b mA t r x y : Nat} {SV : Nat → Nat → Prop} {A0 B0 A B : Mem} (hm : mA ≠ 242) (hr : r < 10) (hx : x < 15) (hy : y < 9) (h1 : FrA b A0 A) (h2 : FrB mA B0 B) (h3 : B.1 242 30 = nI 10) (h4 : HeadR b t A (B.1 mA)) (h5 : TalR b t A (B.1 mA)) (h7 : ∀ r, r < 10 → RobR b SV A (B.1 mA) r) (h8 : PastT b t A (B.1 mA)) :
    FrA b A0 (goC b r (nI x) (nI y) A) ∧ FrB mA B0 (goM mA r (nI x) (nI y) B) ∧ (goM mA r (nI x) (nI y) B).1 242 30 = nI 10 ∧ HeadR b t (goC b r (nI x) (nI y) A) ((goM mA r (nI x) (nI y) B).1 mA) ∧ TalR b t (goC b r (nI x) (nI y) A) ((goM mA r (nI x) (nI y) B).1 mA) ∧ (∀ s, s < 10 → RobR b SV (goC b r (nI x) (nI y) A) ((goM mA r (nI x) (nI y) B).1 mA) s) ∧ PastT b t (goC b r (nI x) (nI y) A) ((goM mA r (nI x) (nI y) B).1 mA) := by
  refine ⟨(h1.set (by omega) (by omega)).set (by omega) (by omega), (h2.row hm).row hm, by rw [goM_c (Ne.symm hm)]; exact h3, ?_, ?_, fun s hs => go_Rob hx hy (h7 s hs), ?_⟩
  · exact h4.cg (fun j => goC_o (Or.inl (by omega))) (fun k hk => goM_o (by omega))
  · exact h5.cg (fun c j a1 a2 => goC_o (Or.inl (by omega))) (fun k hk => goM_o (by omega))
  · refine h8.cg (fun c j hc => goC_o (Or.inl (by omega))) (fun k hk => goM_o (by omega))
