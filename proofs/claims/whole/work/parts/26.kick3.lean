/-! ===== the kick-off, whole ===== -/
theorem and3 {t : Nat} (h : t < 2 ^ 31) : nI t &&& (3 : Int32) = nI (t % 4) := pk_andN (by omega) 2 rfl
theorem remember_eq {a t : Nat} {w : Int32} {M : Mem} (h : w &&& (3 : Int32) = nI (t % 4)) : U_X0_remember a w M = setI (setI M (a + 1) (t % 4) (M.1 a 0)) (a + 2) (t % 4) (M.1 a 1) := by
  unfold U_X0_remember
  dsimp only
  rw [put_eq h (by omega) (by decide), put_eq h (by omega) (by decide), gI (Or.inl (by omega))]
theorem forget_eq {a : Nat} {M : Mem} : U_X0_forget a M = setI (setI (setI (setI (setI (setI (setI (setI M (a + 1) 0 (M.1 a 0)) (a + 2) 0 (M.1 a 1)) (a + 1) 1 (M.1 a 0)) (a + 2) 1 (M.1 a 1)) (a + 1) 2 (M.1 a 0)) (a + 2) 2 (M.1 a 1)) (a + 1) 3 (M.1 a 0)) (a + 2) 3 (M.1 a 1) := by
  unfold U_X0_forget
  rw [F_X0_forget_2, remember_eq (t := 0) rfl, F_X0_forget_2, remember_eq (t := 1) rfl, F_X0_forget_2, remember_eq (t := 2) rfl, F_X0_forget_2, remember_eq (t := 3) rfl, F_X0_forget_2]
  simp (disch := omega) only [gI, Nat.reduceMod]
/-- the ball as a kick-off leaves it -/
def BallK (b : Nat) (A : Mem) (ρ : Nat → Int32) : Prop := (∃ x y : Nat, x < 15 ∧ y < 9 ∧ ρ 14 = nI x ∧ ρ 15 = nI y) ∧ A.1 (b + 4) 0 = ρ 14 ∧ A.1 (b + 4) 1 = ρ 15 ∧ (A.1 (b + 4) 2 = -1 ∧ ρ 16 = -1) ∧ (A.1 (b + 4) 4 = 0 ∧ ρ 17 = 0) ∧ (A.1 (b + 4) 5 = 0 ∧ ρ 18 = 0) ∧ (A.1 (b + 4) 6 = 0 ∧ ρ 19 = 0) ∧ (A.1 (b + 4) 9 = 0 ∧ ρ 21 = 0)
theorem BallK.cg {b : Nat} {A A' : Mem} {ρ σ : Nat → Int32} (h : BallK b A ρ) (hA : ∀ j, A'.1 (b + 4) j = A.1 (b + 4) j) (hρ : ∀ k, 14 ≤ k → k < 22 → σ k = ρ k) : BallK b A' σ := by
  unfold BallK at h ⊢
  rw [hA, hA, hA, hA, hA, hA, hA, hρ 14 (by decide) (by decide), hρ 15 (by decide) (by decide), hρ 16 (by decide) (by decide), hρ 17 (by decide) (by decide), hρ 18 (by decide) (by decide), hρ 19 (by decide) (by decide), hρ 21 (by decide) (by decide)]
  exact h
def lieC (b : Nat) (x y : Int32) (A : Mem) : Mem := U_X0_lie (b + 4) x y A
def layM (mA : Nat) (x y : Int32) (B : Mem) : Mem := setI (U_X11_stopBall mA (setI (setI (setI (putB B x y) mA 14 x) mA 15 y) mA 16 (-1))) mA 21 0
theorem putBall_C {b p : Nat} {A : Mem} {ρ : Nat → Int32} (hp : p ≤ 10) (h : ∀ j, j < 10 → ∀ c i, c < 15 → i < 9 → ((A.1 (b + 10 + 2 * j) 2 = nI c ∧ A.1 (b + 10 + 2 * j) 3 = nI i) ↔ (j < p ∧ ¬ nI j = -1 ∧ ρ (44 + 16 * j) = nI c ∧ ρ (44 + 16 * j + 1) = nI i))) : R_X2_putBall b A = some (lieC b (nI (FP (occM ρ (-1) p) 7 4).1) (nI (FP (occM ρ (-1) p) 7 4).2) A) ∧ (FP (occM ρ (-1) p) 7 4).1 < 15 ∧ (FP (occM ρ (-1) p) 7 4).2 < 9 := by
  obtain ⟨hf1, hf2, hf3⟩ := free_C (x := 7) (y := 4) (by decide) (by decide) (occ_CM hp h) (occM_free hp)
  refine ⟨?_, hf2, hf3⟩
  generalize FP (occM ρ (-1) p) 7 4 = q at hf1 hf2 hf3
  obtain ⟨px, py⟩ := q
  dsimp only at hf1 hf2 hf3 ⊢
  unfold R_X2_putBall
  rw [show (7 : Int32) = nI 7 from rfl, show (4 : Int32) = nI 4 from rfl, bnd1_e hf1, rem15 hf2 hf3, div15 hf2 hf3]
  rfl
theorem lay_M {mA p : Nat} {B : Mem} (hm : mA ≠ 242) (hp : p ≤ 10) (h30 : B.1 242 30 = nI p) : R_X11_lay mA B = some (layM mA (nI (FP (occM (B.1 mA) (-1) p) 7 4).1) (nI (FP (occM (B.1 mA) (-1) p) 7 4).2) B) := by
  have hf := put_M (but := -1) (x := 7) (y := 4) (by decide) (by decide) hm hp h30 (fun c _ i _ => occM_iff (ρ := B.1 mA) (but := -1) (p := p) (c := c) (i := i))
  generalize FP (occM (B.1 mA) (-1) p) 7 4 = q at hf
  obtain ⟨px, py⟩ := q
  dsimp only at hf ⊢
  unfold R_X11_lay
  have e1 : (putB B (nI px) (nI py)).1 242 31 = nI px := by
    unfold putB; rw [gI (Or.inr (by decide)), gs_eI]
  have e2 : (putB B (nI px) (nI py)).1 242 32 = nI py := by
    unfold putB; rw [gs_eI]
  rw [show (7 : Int32) = nI 7 from rfl, show (4 : Int32) = nI 4 from rfl, bnd1_e hf, e1, e2]
  rfl
theorem lay_ball {b mA : Nat} {x y : Nat} {A B : Mem} (hm : mA ≠ 242) (hx : x < 15) (hy : y < 9) : BallK b (lieC b (nI x) (nI y) A) ((layM mA (nI x) (nI y) B).1 mA) := by
  unfold lieC layM U_X0_lie U_X0_free U_X0_go U_X11_stopBall
  refine ⟨⟨x, y, hx, hy, ?_, ?_⟩, ?_, ?_, ⟨?_, ?_⟩, ⟨?_, ?_⟩, ⟨?_, ?_⟩, ⟨?_, ?_⟩, ?_, ?_⟩ <;> simp (disch := omega) only [gI, gs_eI]
theorem lieC_o {b c j : Nat} {x y : Int32} {A : Mem} (h : c ≠ b + 4) : (lieC b x y A).1 c j = A.1 c j := by
  unfold lieC U_X0_lie U_X0_free U_X0_go
  simp (disch := omega) only [gI]
theorem lieC_o2 {b j : Nat} {x y : Int32} {A : Mem} (h : j = 3 ∨ j = 7 ∨ j = 8) : (lieC b x y A).1 (b + 4) j = A.1 (b + 4) j := by
  unfold lieC U_X0_lie U_X0_free U_X0_go
  simp (disch := omega) only [gI]
theorem layM_o {mA k : Nat} {x y : Int32} {B : Mem} (hm : mA ≠ 242) (hk : k < 14 ∨ k = 20 ∨ 22 ≤ k) : (layM mA x y B).1 mA k = B.1 mA k := by
  unfold layM U_X11_stopBall putB
  simp (disch := omega) only [gI]
theorem layM_30 {mA : Nat} {x y : Int32} {B : Mem} (hm : mA ≠ 242) : (layM mA x y B).1 242 30 = B.1 242 30 := by
  unfold layM U_X11_stopBall putB
  simp (disch := omega) only [gI]
theorem lieKp {b : Nat} {x y : Int32} {A0 A : Mem} (h : Kp b A0 A) : Kp b A0 (lieC b x y A) := by
  unfold lieC U_X0_lie U_X0_free U_X0_go
  exact ((((((h.ball (by omega) (by omega)).ball (by omega) (by omega)).ball (by omega) (by omega)).ball (by omega) (by omega)).ball (by omega) (by omega)).ball (by omega) (by omega)).ball (by omega) (by omega)
theorem layKp {mA : Nat} {x y : Int32} {B0 B : Mem} (h : KpM mA B0 B) (hm : mA ≠ 242) : KpM mA B0 (layM mA x y B) := by
  unfold layM U_X11_stopBall
  exact (((((((h.pb hm).row hm (by omega) (by omega)).row hm (by omega) (by omega)).row hm (by omega) (by omega)).row hm (by omega) (by omega)).row hm (by omega) (by omega)).row hm (by omega) (by omega)).row hm (by omega) (by omega)
theorem KO_loop {b mA th ta : Nat} {x1 : Int32} {SV : Nat → Nat → Prop} {A0 B0 : Mem} (hb : 122 ≤ b) (hmA : mA = 259 ∨ mA = 260) (hth : th < 4) (hta : ta < 4) (hA8 : A0.1 b 8 = nI th) (hA9 : A0.1 b 9 = nI ta) (hT : TmR A0 B0) (hTI : TmI SV B0) (hRK : ∀ j, j < 10 → RK b A0 j) : ∀ (n r : Nat) (A B : Mem) (f : Nat), r + n = 10 → n < f → KO b mA th ta A0 B0 r A B → ∃ A' B', L_X2_kickOff_28 b n r A = some A' ∧ L_X11_kickOff_160 x1 mA f B = some B' ∧ KO b mA th ta A0 B0 10 A' B' := by
  intro n
  induction n with
  | zero =>
    intro r A B f hr hf h
    obtain ⟨f, rfl⟩ : ∃ m, f = m + 1 := ⟨f - 1, by omega⟩
    have e : r = 10 := by omega
    subst e
    refine ⟨A, B, rfl, ?_, h⟩
    rw [L_X11_kickOff_160, h.2.2.1, if_pos (leL (y := 10) 10 (Nat.le_refl _) rfl (by decide))]
  | succ n ih =>
    intro r A B f hr hf h
    obtain ⟨f, rfl⟩ : ∃ m, f = m + 1 := ⟨f - 1, by omega⟩
    obtain ⟨A1, B1, h1, h2, h7, h3⟩ := KO_step hb hmA hth hta hA8 hA9 hT hTI hRK (by omega) h
    obtain ⟨A2, B2, h4, h5, h6⟩ := ih (r + 1) A1 _ f (by omega) (by omega) h3
    refine ⟨A2, B2, ?_, ?_, h6⟩
    · rw [h1 n]; exact h4
    · have e30 : B1.1 242 30 + (1 : Int32) = nI (r + 1) := by
        rw [h7, nI_1]
      rw [L_X11_kickOff_160, h.2.2.1, if_neg (nleL (y := 10) 10 (by omega) rfl (by decide)), bnd1_e h2, e30]
      exact h5
