/-! ===== a match: the class's at b, the model's row ===== -/
abbrev sg3 (w : Int32) : Prop := w = -1 ∨ w = 0 ∨ w = 1
def HeadR (b t : Nat) (A : Mem) (ρ : Nat → Int32) : Prop := A.1 b 6 = 1 ∧ ρ 0 = 1 ∧ A.1 b 7 = nI t ∧ ρ 3 = nI t ∧ ∃ th ta : Nat, th < 4 ∧ ta < 4 ∧ A.1 b 8 = nI th ∧ ρ 1 = nI th ∧ A.1 b 9 = nI ta ∧ ρ 2 = nI ta
def mn20 (n : Nat) : Nat := if n < 20 then n else 20
def TalR (b t : Nat) (A : Mem) (ρ : Nat → Int32) : Prop := ∃ g0 g1 : Nat, g0 + g1 ≤ t ∧ A.1 (b + 7) 0 = nI g0 ∧ ρ 4 = nI g0 ∧ A.1 (b + 7) 1 = nI g1 ∧ ρ 5 = nI g1 ∧ A.1 (b + 7) 2 = ρ 10 ∧ A.1 (b + 7) 3 = ρ 11 ∧ (∀ i, i < 4 → A.1 (b + 8) i = ρ (6 + i)) ∧ ρ 12 = nI (mn20 (g0 + g1)) ∧ ∀ i, i < mn20 (g0 + g1) → A.1 (b + 9) i = ρ (24 + i)
def FreeB (ρ : Nat → Int32) : Prop := ρ 16 = -1 ∧ (∃ p : Nat, p < 10 ∧ ρ 17 = nI p) ∧ sg3 (ρ 18) ∧ sg3 (ρ 19)
def HeldB (b t : Nat) (A : Mem) (ρ : Nat → Int32) : Prop := ∃ h : Nat, h < 10 ∧ ρ 16 = nI h ∧ A.1 (b + 4) 3 = ρ 20 ∧ (∃ g : Nat, g ≤ t ∧ ρ 20 = nI g) ∧ ρ 17 = 0 ∧ ρ 18 = 0 ∧ ρ 19 = 0 ∧ ρ 14 = ρ (44 + 16 * h) ∧ ρ 15 = ρ (44 + 16 * h + 1)
def StilB (b : Nat) (A : Mem) (ρ : Nat → Int32) : Prop := A.1 (b + 4) 9 = ρ 21 ∧ (ρ 21 = 0 ∨ ∃ s : Nat, s < 10 ∧ 0 < s ∧ ρ 21 = nI s ∧ A.1 (b + 4) 7 = ρ 22 ∧ A.1 (b + 4) 8 = ρ 23)
def BallE (b : Nat) (A : Mem) (ρ : Nat → Int32) : Prop := (∃ x y : Nat, x < 15 ∧ y < 9 ∧ ρ 14 = nI x ∧ ρ 15 = nI y) ∧ A.1 (b + 4) 0 = ρ 14 ∧ A.1 (b + 4) 1 = ρ 15 ∧ A.1 (b + 4) 2 = ρ 16 ∧ A.1 (b + 4) 4 = ρ 17 ∧ A.1 (b + 4) 5 = ρ 18 ∧ A.1 (b + 4) 6 = ρ 19
def BallR (b t : Nat) (A : Mem) (ρ : Nat → Int32) : Prop := BallE b A ρ ∧ (FreeB ρ ∨ HeldB b t A ρ) ∧ StilB b A ρ
def RobR (b : Nat) (SV : Nat → Nat → Prop) (A : Mem) (ρ : Nat → Int32) (r : Nat) : Prop := XYR b A ρ r ∧ XYI ρ r ∧ PRR b A ρ r ∧ PRI SV ρ r ∧ VWR b A ρ r ∧ CMR b A ρ r ∧ RK b A r
def mxk (t l kk : Nat) : Nat := if t - l < kk then kk else t - l
def PastT (b t : Nat) (A : Mem) (ρ : Nat → Int32) : Prop := ∃ kk : Nat, kk ≤ t ∧ ρ 13 = nI kk ∧ ∀ l, l < 4 → A.1 (b + 5) ((t + 4 - l) % 4) = ρ (204 + mxk t l kk % 4) ∧ A.1 (b + 6) ((t + 4 - l) % 4) = ρ (208 + mxk t l kk % 4)
def CW (b : Nat) (A : Mem) (B : Mem) (ρ : Nat → Int32) (r : Nat) : Prop := A.1 (b + 10 + 2 * r) 15 = B.1 262 r ∧ A.1 (b + 10 + 2 * r) 16 = B.1 263 r ∧ sg3 (B.1 262 r) ∧ sg3 (B.1 263 r) ∧ (ρ (44 + 16 * r + 10) = 0 ∨ ρ (44 + 16 * r + 10) = 1 ∨ (ρ (44 + 16 * r + 10) = 2 ∧ A.1 (b + 10 + 2 * r) 17 = B.1 264 r ∧ ∃ p : Nat, p < 10 ∧ B.1 264 r = nI p))
def FrA (b : Nat) (A0 A : Mem) : Prop := A.2 = A0.2 ∧ ∀ c, c < b ∨ b + 30 ≤ c → A.1 c = A0.1 c
def scr (j : Nat) : Prop := (30 ≤ j ∧ j ≤ 37) ∨ j = 41
theorem scr_of {j : Nat} (h : (30 ≤ j ∧ j ≤ 37) ∨ j = 41) : scr j := h
def FrB (mA : Nat) (B0 B : Mem) : Prop := B.2 = B0.2 ∧ (∀ c, c ≠ mA → c ≠ 242 → c ≠ 262 → c ≠ 263 → c ≠ 264 → B.1 c = B0.1 c) ∧ (∀ j, ¬ scr j → B.1 242 j = B0.1 242 j)
theorem FrA.rf {b : Nat} {A : Mem} : FrA b A A := ⟨rfl, fun _ _ => rfl⟩
theorem FrB.rf {mA : Nat} {B : Mem} : FrB mA B B := ⟨rfl, fun _ _ _ _ _ _ => rfl, fun _ _ => rfl⟩
theorem FrA.set {b a j : Nat} {v : Int32} {A0 A : Mem} (h : FrA b A0 A) (h1 : b ≤ a) (h2 : a < b + 30) : FrA b A0 (setI A a j v) := ⟨h.1, fun c hc => by rw [fI (by omega)]; exact h.2 c hc⟩
theorem FrA.tr {b : Nat} {A0 A A' : Mem} (h : FrA b A0 A) (g : FrA b A A') : FrA b A0 A' := ⟨g.1.trans h.1, fun c hc => (g.2 c hc).trans (h.2 c hc)⟩
theorem FrB.tr {mA : Nat} {B0 B B' : Mem} (h : FrB mA B0 B) (g : FrB mA B B') : FrB mA B0 B' := ⟨g.1.trans h.1, fun c h1 h2 h3 h4 h5 => (g.2.1 c h1 h2 h3 h4 h5).trans (h.2.1 c h1 h2 h3 h4 h5), fun j hj => (g.2.2 j hj).trans (h.2.2 j hj)⟩
theorem FrB.row {mA k : Nat} {v : Int32} {B0 B : Mem} (h : FrB mA B0 B) (hm : mA ≠ 242) : FrB mA B0 (setI B mA k v) := ⟨h.1, fun c h1 h2 h3 h4 h5 => by rw [fI h1]; exact h.2.1 c h1 h2 h3 h4 h5, fun j hj => by rw [fI (Ne.symm hm)]; exact h.2.2 j hj⟩
theorem FrB.scr {mA k : Nat} {v : Int32} {B0 B : Mem} (h : FrB mA B0 B) (hk : scr k) : FrB mA B0 (setI B 242 k v) := ⟨h.1, fun c h1 h2 h3 h4 h5 => by rw [fI h2]; exact h.2.1 c h1 h2 h3 h4 h5, fun j hj => (gI (Or.inr (fun e => hj (by rw [e]; exact hk)))).trans (h.2.2 j hj)⟩
theorem FrB.cmd {mA c k : Nat} {v : Int32} {B0 B : Mem} (h : FrB mA B0 B) (hc : c = 262 ∨ c = 263 ∨ c = 264) : FrB mA B0 (setI B c k v) := ⟨h.1, fun d h1 h2 h3 h4 h5 => by rw [fI (by omega)]; exact h.2.1 d h1 h2 h3 h4 h5, fun j hj => by rw [fI (by omega)]; exact h.2.2 j hj⟩
theorem HeadR.cg {b t : Nat} {A A' : Mem} {ρ σ : Nat → Int32} (h : HeadR b t A ρ) (hA : ∀ j, A'.1 b j = A.1 b j) (hρ : ∀ k, k < 4 → σ k = ρ k) : HeadR b t A' σ := by
  unfold HeadR at h ⊢
  rw [hA, hA, hA, hA, hρ 0 (by decide), hρ 1 (by decide), hρ 2 (by decide), hρ 3 (by decide)]
  exact h
theorem TalR.cg {b t : Nat} {A A' : Mem} {ρ σ : Nat → Int32} (h : TalR b t A ρ) (hA : ∀ c j, b + 7 ≤ c → c ≤ b + 9 → A'.1 c j = A.1 c j) (hρ : ∀ k, (4 ≤ k ∧ k < 13) ∨ (24 ≤ k ∧ k < 44) → σ k = ρ k) : TalR b t A' σ := by
  obtain ⟨g0, g1, h1, h2, h3, h4, h5, h6, h7, h8, h9, h10⟩ := h
  refine ⟨g0, g1, h1, ?_, ?_, ?_, ?_, ?_, ?_, fun i hi => ?_, ?_, fun i hi => ?_⟩
  · rw [hA _ _ (by omega) (by omega)]; exact h2
  · rw [hρ 4 (by decide)]; exact h3
  · rw [hA _ _ (by omega) (by omega)]; exact h4
  · rw [hρ 5 (by decide)]; exact h5
  · rw [hA _ _ (by omega) (by omega), hρ 10 (by decide)]; exact h6
  · rw [hA _ _ (by omega) (by omega), hρ 11 (by decide)]; exact h7
  · rw [hA _ _ (by omega) (by omega), hρ (6 + i) (by omega)]; exact h8 i hi
  · rw [hρ 12 (by decide)]; exact h9
  · have : mn20 (g0 + g1) ≤ 20 := by unfold mn20; split <;> omega
    rw [hA _ _ (by omega) (by omega), hρ (24 + i) (by omega)]; exact h10 i hi
theorem VWR.cg {b r : Nat} {A A' : Mem} {ρ σ : Nat → Int32} (h : VWR b A ρ r) (hA : ∀ j, j = 10 ∨ j = 11 → A'.1 (b + 10 + 2 * r) j = A.1 (b + 10 + 2 * r) j) (hρ : ∀ k, k = 8 ∨ k = 9 → σ (44 + 16 * r + k) = ρ (44 + 16 * r + k)) : VWR b A' σ r := by
  unfold VWR at h ⊢
  rw [hA 10 (by decide), hA 11 (by decide), hρ 8 (by decide), hρ 9 (by decide)]
  exact h
theorem RK.cg {b r : Nat} {A A' : Mem} (h : RK b A r) (hA : ∀ j, j < 2 → A'.1 (b + 10 + 2 * r) j = A.1 (b + 10 + 2 * r) j) : RK b A' r := by
  unfold RK at h ⊢
  rw [hA 0 (by decide), hA 1 (by decide)]
  exact h
theorem RobR.cg {b r : Nat} {SV : Nat → Nat → Prop} {A A' : Mem} {ρ σ : Nat → Int32} (h : RobR b SV A ρ r) (hA : ∀ j, j < 15 → A'.1 (b + 10 + 2 * r) j = A.1 (b + 10 + 2 * r) j) (hW : ∀ i, i < 4 → A'.1 (b + 10 + 2 * r + 1) i = A.1 (b + 10 + 2 * r + 1) i) (hρ : ∀ k, k < 16 → σ (44 + 16 * r + k) = ρ (44 + 16 * r + k)) : RobR b SV A' σ r := by
  obtain ⟨h1, h2, h3, h4, h5, h6, h7⟩ := h
  refine ⟨h1.cg (fun j hj => hA j (by omega)) (fun k hk => hρ k (by omega)), h2.cg (fun k hk => hρ k (by omega)), h3.cg (fun j hj => hA j (by omega)) hW (fun k hk => hρ k (by omega)), h4.cg (fun k hk => hρ k (by omega)), h5.cg (fun j hj => hA j (by omega)) (fun k hk => hρ k (by omega)), ?_, h7.cg (fun j hj => hA j (by omega))⟩
  unfold CMR at h6 ⊢
  rw [hA 14 (by decide), hρ 10 (by decide)]; exact h6
theorem PastT.cg {b t : Nat} {A A' : Mem} {ρ σ : Nat → Int32} (h : PastT b t A ρ) (hA : ∀ c j, c = b + 5 ∨ c = b + 6 → A'.1 c j = A.1 c j) (hρ : ∀ k, k = 13 ∨ (204 ≤ k ∧ k < 212) → σ k = ρ k) : PastT b t A' σ := by
  obtain ⟨kk, h1, h2, h3⟩ := h
  refine ⟨kk, h1, by rw [hρ 13 (by decide)]; exact h2, fun l hl => ?_⟩
  rw [hA _ _ (Or.inl rfl), hA _ _ (Or.inr rfl), hρ _ (by omega), hρ _ (by omega)]
  exact h3 l hl
theorem CW.cg {b r : Nat} {A A' B B' : Mem} {ρ σ : Nat → Int32} (h : CW b A B ρ r) (hA : ∀ j, 15 ≤ j → A'.1 (b + 10 + 2 * r) j = A.1 (b + 10 + 2 * r) j) (hB : ∀ c, c = 262 ∨ c = 263 ∨ c = 264 → B'.1 c = B.1 c) (hρ : σ (44 + 16 * r + 10) = ρ (44 + 16 * r + 10)) : CW b A' B' σ r := by
  unfold CW at h ⊢
  rw [hA 15 (by decide), hA 16 (by decide), hA 17 (by decide), hB 262 (by decide), hB 263 (by decide), hB 264 (by decide), hρ]
  exact h
theorem StilB.cg {b : Nat} {A A' : Mem} {ρ σ : Nat → Int32} (h : StilB b A ρ) (hA : ∀ j, j = 7 ∨ j = 8 ∨ j = 9 → A'.1 (b + 4) j = A.1 (b + 4) j) (hρ : ∀ k, k = 21 ∨ k = 22 ∨ k = 23 → σ k = ρ k) : StilB b A' σ := by
  unfold StilB at h ⊢
  rw [hA 7 (by decide), hA 8 (by decide), hA 9 (by decide), hρ 21 (by decide), hρ 22 (by decide), hρ 23 (by decide)]
  exact h
theorem BallR.cg {b t : Nat} {A A' : Mem} {ρ σ : Nat → Int32} (h : BallR b t A ρ) (hA : ∀ j, A'.1 (b + 4) j = A.1 (b + 4) j) (hρ : ∀ k, 14 ≤ k → k < 24 → σ k = ρ k) (hX : ∀ r, r < 10 → ρ 16 = nI r → σ (44 + 16 * r) = ρ (44 + 16 * r) ∧ σ (44 + 16 * r + 1) = ρ (44 + 16 * r + 1)) : BallR b t A' σ := by
  obtain ⟨h1, h2, h3⟩ := h
  refine ⟨?_, ?_, h3.cg (fun j _ => hA j) (fun k hk => hρ k (by omega) (by omega))⟩
  · unfold BallE at h1 ⊢
    rw [hA, hA, hA, hA, hA, hA, hρ 14 (by decide) (by decide), hρ 15 (by decide) (by decide), hρ 16 (by decide) (by decide), hρ 17 (by decide) (by decide), hρ 18 (by decide) (by decide), hρ 19 (by decide) (by decide)]
    exact h1
  · rcases h2 with h2 | ⟨h, h4, h5, h6, h7, h8, h9, h10, h11, h12⟩
    · left
      unfold FreeB at h2 ⊢
      rw [hρ 16 (by decide) (by decide), hρ 17 (by decide) (by decide), hρ 18 (by decide) (by decide), hρ 19 (by decide) (by decide)]
      exact h2
    · right
      have := hX h h4 h5
      refine ⟨h, h4, ?_⟩
      rw [hA, hρ 14 (by decide) (by decide), hρ 15 (by decide) (by decide), hρ 16 (by decide) (by decide), hρ 17 (by decide) (by decide), hρ 18 (by decide) (by decide), hρ 19 (by decide) (by decide), hρ 20 (by decide) (by decide), this.1, this.2]
      exact ⟨h5, h6, h7, h8, h9, h10, h11, h12⟩
/-- the relation within a tick t -/
def TK (b mA t : Nat) (SV : Nat → Nat → Prop) (A0 B0 A B : Mem) : Prop := FrA b A0 A ∧ FrB mA B0 B ∧ B.1 242 30 = nI 10 ∧ HeadR b t A (B.1 mA) ∧ TalR b t A (B.1 mA) ∧ BallR b t A (B.1 mA) ∧ (∀ r, r < 10 → RobR b SV A (B.1 mA) r) ∧ PastT b t A (B.1 mA)
/-! a robot gets the ball -/
def holdC (b r : Nat) (x y w : Int32) (A : Mem) : Mem := U_X0_hold (b + 4) (nI r) x y w A
def holdM (mA r : Nat) (B : Mem) : Mem := U_X11_stopBall mA (setI (setI (setI (setI B mA 16 (nI r)) mA 20 (B.1 mA 3)) mA 14 (B.1 mA (44 + 16 * r))) mA 15 (B.1 mA (44 + 16 * r + 1)))
theorem hold_M {mA r : Nat} {B : Mem} (hr : r < 10) : R_X11_hold (nI r) mA B = some (holdM mA r B) := by
  unfold R_X11_hold
  rw [bnd1_e (of_eq (c := 0) (w := 0) hr (by decide) rfl), bnd1_e (of_eq (c := 1) (w := 1) hr (by decide) rfl)]
  have e0 : (setI (setI B mA 16 (nI r)) mA 20 (B.1 mA 3)).1 mA (44 + 16 * r + 0) = B.1 mA (44 + 16 * r) := by
    rw [gI (Or.inr (by omega)), gI (Or.inr (by omega))]; rfl
  rw [e0]
  have e1 : (setI (setI (setI B mA 16 (nI r)) mA 20 (B.1 mA 3)) mA 14 (B.1 mA (44 + 16 * r))).1 mA (44 + 16 * r + 1) = B.1 mA (44 + 16 * r + 1) := by
    rw [gI (Or.inr (by omega)), gI (Or.inr (by omega)), gI (Or.inr (by omega))]
  rw [e1]
  rfl
theorem holdC_o {b r c j : Nat} {x y w : Int32} {A : Mem} (h : c ≠ b + 4 ∨ 7 ≤ j) : (holdC b r x y w A).1 c j = A.1 c j := by
  unfold holdC U_X0_hold U_X0_go U_X0_free
  simp (disch := omega) only [gI]
theorem holdM_o {mA r k : Nat} {B : Mem} (h : k < 14 ∨ 20 < k) : (holdM mA r B).1 mA k = B.1 mA k := by
  unfold holdM U_X11_stopBall
  simp (disch := omega) only [gI]
theorem holdM_c {mA r c : Nat} {B : Mem} (h : c ≠ mA) : (holdM mA r B).1 c = B.1 c := by
  unfold holdM U_X11_stopBall
  simp (disch := omega) only [fI]
theorem holdFrA {b r : Nat} {x y w : Int32} {A0 A : Mem} (h : FrA b A0 A) : FrA b A0 (holdC b r x y w A) := by
  unfold holdC U_X0_hold U_X0_go U_X0_free
  exact (((((((h.set (by omega) (by omega)).set (by omega) (by omega)).set (by omega) (by omega)).set (by omega) (by omega)).set (by omega) (by omega)).set (by omega) (by omega)).set (by omega) (by omega)).set (by omega) (by omega)
theorem holdFrB {mA r : Nat} {B0 B : Mem} (h : FrB mA B0 B) (hm : mA ≠ 242) : FrB mA B0 (holdM mA r B) := by
  unfold holdM U_X11_stopBall
  exact ((((((h.row hm).row hm).row hm).row hm).row hm).row hm).row hm
theorem holdBall {b mA t r : Nat} {A B : Mem} (hr : r < 10) (h3 : B.1 mA 3 = nI t) (hx : XYI (B.1 mA) r) (hs : StilB b A (B.1 mA)) : BallR b t (holdC b r (B.1 mA (44 + 16 * r)) (B.1 mA (44 + 16 * r + 1)) (nI t) A) ((holdM mA r B).1 mA) := by
  obtain ⟨x, y, hx1, hx2, hx3, hx4⟩ := hx
  refine ⟨⟨⟨x, y, hx1, hx2, ?_, ?_⟩, ?_, ?_, ?_, ?_, ?_, ?_⟩, Or.inr ⟨r, hr, ?_, ?_, ⟨t, Nat.le_refl _, ?_⟩, ?_, ?_, ?_, ?_, ?_⟩, hs.cg (fun j hj => holdC_o (Or.inr (by omega))) (fun k hk => holdM_o (by omega))⟩
  all_goals (unfold holdM U_X11_stopBall; (try unfold holdC U_X0_hold U_X0_go U_X0_free); simp (disch := omega) only [gI, gs_eI, h3, hx3, hx4])
/-- the whole relation behind a hold -/
theorem hold_TK {b mA t r : Nat} {SV : Nat → Nat → Prop} {A0 B0 A B : Mem} (hm : mA ≠ 242) (hr : r < 10) (h1 : FrA b A0 A) (h2 : FrB mA B0 B) (h3 : B.1 242 30 = nI 10) (h4 : HeadR b t A (B.1 mA)) (h5 : TalR b t A (B.1 mA)) (h6 : StilB b A (B.1 mA)) (h7 : ∀ r, r < 10 → RobR b SV A (B.1 mA) r) (h8 : PastT b t A (B.1 mA)) : TK b mA t SV A0 B0 (holdC b r (B.1 mA (44 + 16 * r)) (B.1 mA (44 + 16 * r + 1)) (nI t) A) (holdM mA r B) := by
  refine ⟨holdFrA h1, holdFrB h2 hm, by rw [holdM_c (Ne.symm hm)]; exact h3, ?_, ?_, holdBall hr h4.2.2.2.1 (h7 r hr).2.1 h6, fun s hs => ?_, ?_⟩
  · exact h4.cg (fun j => holdC_o (Or.inl (by omega))) (fun k hk => holdM_o (by omega))
  · exact h5.cg (fun c j a1 a2 => holdC_o (Or.inl (by omega))) (fun k hk => holdM_o (by omega))
  · exact (h7 s hs).cg (fun j _ => holdC_o (Or.inl (by omega))) (fun i _ => holdC_o (Or.inl (by omega))) (fun k _ => holdM_o (by omega))
  · exact h8.cg (fun c j hc => holdC_o (Or.inl (by omega))) (fun k hk => holdM_o (by omega))
