theorem ltL {r : Nat} (n : Nat) {y : Int32} (h : r < n) (hy : y = nI n) (hn : n < 2 ^ 31) : nI r < y := hy ▸ nI_lt h hn
theorem nltL {r : Nat} (n : Nat) {y : Int32} (h : n ≤ r) (hy : y = nI n) (hr : r < 2 ^ 31) : ¬ nI r < y := hy ▸ nI_nlt h hr
theorem leL {r : Nat} (n : Nat) {y : Int32} (h : n ≤ r) (hy : y = nI n) (hr : r < 2 ^ 31) : y ≤ nI r := hy ▸ nI_le h hr
theorem nleL {r : Nat} (n : Nat) {y : Int32} (h : r < n) (hy : y = nI n) (hn : n < 2 ^ 31) : ¬ y ≤ nI r := hy ▸ nI_ge h hn
/-! ===== a robot is put at its start; the ball is laid ===== -/
theorem srch_pos {f : Nat → Bool} {n i : Nat} (hn : i + n < 2 ^ 31) : 0 ≤ srch f n i ↔ ∃ j, i ≤ j ∧ j < i + n ∧ f j = true := by
  rcases srch_spec (f := f) n i with ⟨h1, h2⟩ | ⟨j, h1, h2, h3, h4, h5⟩
  · rw [h1]
    refine ⟨fun q => absurd q m1_nle, fun q => ?_⟩
    obtain ⟨j, a, b, c⟩ := q
    rw [h2 j a b] at c; cases c
  · rw [h3]
    exact ⟨fun _ => ⟨j, h1, h2, h4⟩, fun _ => nI_pos' (by omega)⟩
theorem inC_iff {b : Nat} {x y : Int32} {M : Mem} {i : Nat} : inC b x y M i = true ↔ M.1 (b + 10 + 2 * i) 2 = x ∧ M.1 (b + 10 + 2 * i) 3 = y := ⟨fun q => of_decide_eq_true q, fun q => inC_t q.1 q.2⟩
theorem inM_iff {ρ : Nat → Int32} {x y but : Int32} {i : Nat} : inM ρ x y but i = true ↔ ¬ nI i = but ∧ ρ (44 + 16 * i) = x ∧ ρ (44 + 16 * i + 1) = y := ⟨fun q => of_decide_eq_true q, fun q => inM_t q.1 q.2.1 q.2.2⟩
/-- occupied, by the model's row, one robot not counted, the first p alone -/
def occM (ρ : Nat → Int32) (but : Int32) (p : Nat) (c i : Nat) : Bool := decide (0 ≤ srch (inM ρ (nI c) (nI i) but) p 0)
theorem occM_iff {ρ : Nat → Int32} {but : Int32} {p c i : Nat} : 0 ≤ srch (inM ρ (nI c) (nI i) but) p 0 ↔ occM ρ but p c i = true := ⟨fun q => decide_eq_true q, fun q => of_decide_eq_true q⟩
theorem occM_free {ρ : Nat → Int32} {but : Int32} {p : Nat} (hp : p ≤ 10) : ∃ k, k < 15 ∧ occM ρ but p k 0 = false := by
  refine free_col (f := fun c i => (srch (inM ρ (nI c) (nI i) but) p 0).toNatClampNeg) (fun j => ρ (44 + 16 * j)) ?_
  intro c hc h
  have h1 := occM_iff.mpr h
  rcases srch_spec (f := inM ρ (nI c) (nI 0) but) p 0 with ⟨h2, _⟩ | ⟨j, _, h2, h3, h4, _⟩
  · rw [h2] at h1; exact absurd h1 m1_nle
  · have h5 := inM_iff.mp h4
    rw [h3, nI_clamp (by omega)]
    exact ⟨by omega, h5.2.1⟩
/-- the class's search sees the same robots as the model's -/
theorem occ_CM {b : Nat} {A : Mem} {ρ : Nat → Int32} {but : Int32} {p : Nat} (hp : p ≤ 10) (h : ∀ j, j < 10 → ∀ c i, c < 15 → i < 9 → ((A.1 (b + 10 + 2 * j) 2 = nI c ∧ A.1 (b + 10 + 2 * j) 3 = nI i) ↔ (j < p ∧ ¬ nI j = but ∧ ρ (44 + 16 * j) = nI c ∧ ρ (44 + 16 * j + 1) = nI i))) : ∀ c, c < 15 → ∀ i, i < 9 → (0 ≤ V_X2_robotIn b (nI c) (nI i) A ↔ occM ρ but p c i = true) := by
  intro c hc i hi
  rw [robotIn_eq, ← occM_iff, srch_pos (by decide), srch_pos (by omega)]
  constructor
  · intro q
    obtain ⟨j, _, h2, h3⟩ := q
    have h4 := (h j (by omega) c i hc hi).mp (inC_iff.mp h3)
    exact ⟨j, by omega, by omega, inM_iff.mpr h4.2⟩
  · intro q
    obtain ⟨j, _, h2, h3⟩ := q
    have h4 := (h j (by omega) c i hc hi).mpr ⟨by omega, inM_iff.mp h3⟩
    exact ⟨j, by omega, by omega, inC_iff.mpr h4⟩
theorem rem15 {px py : Nat} (hx : px < 15) (hy : py < 9) : nI (px + 15 * py) - nI (px + 15 * py) / (15 : Int32) * (15 : Int32) = nI px := by
  rw [show (15 : Int32) = nI 15 from rfl, pk_rem (by omega) (by decide) (by decide), show (px + 15 * py) % 15 = px by omega]
theorem div15 {px py : Nat} (hx : px < 15) (hy : py < 9) : nI (px + 15 * py) / (15 : Int32) = nI py := by
  rw [show (15 : Int32) = nI 15 from rfl, pk_div (by omega) (by decide) (by decide), show (px + 15 * py) / 15 = py by omega]
/-- the class's memory behind putAtStart -/
def putC (b r : Nat) (px py : Int32) (A : Mem) : Mem := if A.1 (b + 4) 2 = nI r then U_X0_go (b + 4) px py (setI (setI (U_X5_leave (b + 10 + 2 * r) A) (b + 10 + 2 * r) 2 px) (b + 10 + 2 * r) 3 py) else setI (setI (U_X5_leave (b + 10 + 2 * r) A) (b + 10 + 2 * r) 2 px) (b + 10 + 2 * r) 3 py
theorem leave_ball {b r j : Nat} {A : Mem} : (U_X5_leave (b + 10 + 2 * r) A).1 (b + 4) j = A.1 (b + 4) j := by
  unfold U_X5_leave
  rw [gI (Or.inl (by omega)), gI (Or.inl (by omega))]
theorem putAtStart_C {b r sx sy p : Nat} {A : Mem} {ρ : Nat → Int32} (hr : r < 10) (hsx : sx < 15) (hsy : sy < 9) (h4 : A.1 (b + 10 + 2 * r) 4 = nI sx) (h5 : A.1 (b + 10 + 2 * r) 5 = nI sy) (hp : p ≤ 10)
    (h : ∀ j, j < 10 → ¬ j = r → ∀ c i, c < 15 → i < 9 → ((A.1 (b + 10 + 2 * j) 2 = nI c ∧ A.1 (b + 10 + 2 * j) 3 = nI i) ↔ (j < p ∧ ρ (44 + 16 * j) = nI c ∧ ρ (44 + 16 * j + 1) = nI i))) :
    R_X2_putAtStart b (nI r) A = some (putC b r (nI (FP (occM ρ (nI r) p) sx sy).1) (nI (FP (occM ρ (nI r) p) sx sy).2) A) ∧ (FP (occM ρ (nI r) p) sx sy).1 < 15 ∧ (FP (occM ρ (nI r) p) sx sy).2 < 9 := by
  have ho : ∀ c, c < 15 → ∀ i, i < 9 → (0 ≤ V_X2_robotIn b (nI c) (nI i) (U_X5_leave (b + 10 + 2 * r) A) ↔ occM ρ (nI r) p c i = true) := by
    refine occ_CM hp ?_
    intro j hj c i hc hi
    by_cases e : j = r
    · subst e
      unfold U_X5_leave
      rw [gI (Or.inr (by decide)), gs_eI, gs_eI]
      refine ⟨fun q => ?_, fun q => absurd rfl q.2.1⟩
      have := nI_pos' (n := c) (by omega)
      rw [← q.1] at this
      exact absurd this m1_nle
    · have e1 : ∀ k, (U_X5_leave (b + 10 + 2 * r) A).1 (b + 10 + 2 * j) k = A.1 (b + 10 + 2 * j) k := by
        intro k; unfold U_X5_leave; rw [gI (Or.inl (by omega)), gI (Or.inl (by omega))]
      rw [e1, e1, h j hj e c i hc hi]
      have e2 : ¬ nI j = nI r := fun q => e ((nI_eq (by omega) (by omega)).mp q)
      exact ⟨fun q => ⟨q.1, e2, q.2⟩, fun q => ⟨q.1, q.2.2⟩⟩
  have hf := free_C hsx hsy ho (occM_free hp)
  obtain ⟨hf1, hf2, hf3⟩ := hf
  refine ⟨?_, hf2, hf3⟩
  generalize FP (occM ρ (nI r) p) sx sy = q at hf1 hf2 hf3
  obtain ⟨px, py⟩ := q
  dsimp only at hf1 hf2 hf3 ⊢
  unfold R_X2_putAtStart
  rw [if_neg (nI_pos (by omega)), if_pos (ltL (y := 10) 10 hr rfl (by decide)), ck_nI hr (by omega), nI_clamp (by omega), bd1_s]
  have e4 : (U_X5_leave (b + 10 + 2 * r) A).1 (b + 10 + 2 * r) 4 = nI sx := by
    unfold U_X5_leave; rw [gI (Or.inr (by decide)), gI (Or.inr (by decide))]; exact h4
  have e5 : (U_X5_leave (b + 10 + 2 * r) A).1 (b + 10 + 2 * r) 5 = nI sy := by
    unfold U_X5_leave; rw [gI (Or.inr (by decide)), gI (Or.inr (by decide))]; exact h5
  rw [e4, e5, bnd1_e hf1, rem15 hf2 hf3, div15 hf2 hf3, leave_ball]
  unfold putC
  by_cases c : A.1 (b + 4) 2 = nI r
  · rw [if_pos c, if_pos c]; rfl
  · rw [if_neg c, if_neg c]; rfl
/-- the model's memory behind putAtStart -/
def putM (mA r : Nat) (px py : Int32) (B : Mem) : Mem := setI (setI (putB B px py) mA (44 + 16 * r) px) mA (44 + 16 * r + 1) py
def tX (r : Nat) (v : Int32) : Int32 := if r < 5 then v else 14 - v
def tY (r : Nat) (v : Int32) : Int32 := if r < 5 then v else 8 - v
theorem putAtStart_M {mA r sx sy p : Nat} {B : Mem} (hr : r < 10) (hmA : mA ≠ 242) (hsx : sx < 15) (hsy : sy < 9) (h4 : tX r (B.1 mA (44 + 16 * r + 12)) = nI sx) (h5 : tY r (B.1 mA (44 + 16 * r + 13)) = nI sy) (hp : p ≤ 10) (h30 : B.1 242 30 = nI p) :
    R_X11_putAtStart (nI r) mA B = some (putM mA r (nI (FP (occM (B.1 mA) (nI r) p) sx sy).1) (nI (FP (occM (B.1 mA) (nI r) p) sx sy).2) B) := by
  have hf := put_M (but := nI r) hsx hsy hmA hp h30 (fun c _ i _ => occM_iff (ρ := B.1 mA) (but := nI r) (p := p) (c := c) (i := i))
  generalize FP (occM (B.1 mA) (nI r) p) sx sy = q at hf
  obtain ⟨px, py⟩ := q
  dsimp only at hf ⊢
  have o1 := of_eq (r := r) (c := 12) (w := 12) (mA := mA) (M := B) hr (by decide) rfl
  have o2 := of_eq (r := r) (c := 13) (w := 13) (mA := mA) (M := B) hr (by decide) rfl
  have e1 : (putB B (nI px) (nI py)).1 242 31 = nI px := by
    unfold putB; rw [gI (Or.inr (by decide)), gs_eI]
  have e2 : (setI (putB B (nI px) (nI py)) mA (44 + 16 * r + 0) (nI px)).1 242 32 = nI py := by
    rw [gI (Or.inl (fun q => hmA q.symm))]; unfold putB; rw [gs_eI]
  have s1 := set_eq (r := r) (c := 0) (w := 0) (mA := mA) (M := putB B (nI px) (nI py)) (v := nI px) hr (by decide) rfl
  have s2 := set_eq (r := r) (c := 1) (w := 1) (mA := mA) (M := setI (putB B (nI px) (nI py)) mA (44 + 16 * r + 0) (nI px)) (v := nI py) hr (by decide) rfl
  unfold R_X11_putAtStart
  by_cases c : r < 5
  · rw [if_pos (ltL (y := 5) 5 c rfl (by decide)), bd1_s, if_pos rfl, if_pos rfl, bnd1_e o1, bnd1_s, bnd1_e o2, bnd1_s]
    unfold tX at h4; unfold tY at h5
    rw [if_pos c] at h4 h5
    rw [h4, h5, bnd1_e hf, e1, bnd1_e s1, e2, bnd1_e s2]
    rfl
  · rw [if_neg (nltL (y := 5) 5 (by omega) rfl (by omega)), bd1_s, if_neg (by decide), if_neg (by decide), bnd1_e o1, bnd1_s, bnd1_e o2, bnd1_s]
    unfold tX at h4; unfold tY at h5
    rw [if_neg c] at h4 h5
    rw [h4, h5, bnd1_e hf, e1, bnd1_e s1, e2, bnd1_e s2]
    rfl
