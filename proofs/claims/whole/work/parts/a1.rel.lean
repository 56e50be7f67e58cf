/-! ===== the relation between the class and the model, between two calls ===== -/
section GRL
theorem RobR.sv {b r : Nat} {SV SV' : Nat → Nat → Prop} {A : Mem} {ρ : Nat → Int32} (h : RobR b SV A ρ r) (hs : ∀ q s, SV q s → SV' q s) : RobR b SV' A ρ r := by
  obtain ⟨h1, h2, h3, ⟨hp, h4⟩, h5⟩ := h
  refine ⟨h1, h2, h3, ⟨?_, h4⟩, h5⟩
  rcases hp with hp | ⟨q, s, a, b, c, d⟩
  · exact Or.inl hp
  · exact Or.inr ⟨q, s, a, b, hs q s c, d⟩
theorem PastE.cg {b t : Nat} {A A' : Mem} {ρ σ : Nat → Int32} (h : PastE b t A ρ) (hA : ∀ c j, c = b + 5 ∨ c = b + 6 → A'.1 c j = A.1 c j) (hρ : ∀ k, k < 212 → σ k = ρ k) : PastE b t A' σ := by
  obtain ⟨kk, h1, h2, h3, h4⟩ := h
  refine ⟨kk, h1, by rw [hρ 13 (by decide)]; exact h2, fun hk l l1 l2 => ?_, fun hk i hi => ?_⟩
  · rw [hA _ _ (Or.inl rfl), hA _ _ (Or.inr rfl), hρ _ (by omega), hρ _ (by omega)]; exact h3 hk l l1 l2
  · rw [hA _ _ (Or.inl rfl), hA _ _ (Or.inr rfl), hρ 14 (by decide), hρ 15 (by decide)]; exact h4 hk i hi
/-- a match on both sides, after t ticks -/
def KP (b t : Nat) (SV : Nat → Nat → Prop) (A : Mem) (ρ : Nat → Int32) : Prop := HeadR b t A ρ ∧ TalR b t A ρ ∧ BallR b t A ρ ∧ (∀ r, r < 10 → RobR b SV A ρ r) ∧ PastE b t A ρ
theorem KP.cg {b t : Nat} {SV SV' : Nat → Nat → Prop} {A A' : Mem} {ρ σ : Nat → Int32} (h : KP b t SV A ρ) (hA : ∀ c, b ≤ c → c < b + 30 → A'.1 c = A.1 c) (hρ : ∀ k, k < 212 → σ k = ρ k) (hs : ∀ q s, SV q s → SV' q s) : KP b t SV' A' σ := by
  obtain ⟨h1, h2, h3, h4, h5⟩ := h
  refine ⟨h1.cg (fun j => by rw [hA b (by omega) (by omega)]) (fun k hk => hρ k (by omega)), h2.cg (fun c j p1 p2 => by rw [hA c (by omega) (by omega)]) (fun k hk => hρ k (by omega)), h3.cg (fun j => by rw [hA _ (by omega) (by omega)]) (fun k p1 p2 => hρ k (by omega)) (fun r hr _ => ⟨hρ _ (by omega), hρ _ (by omega)⟩), fun r hr => ((h4 r hr).cg (fun j _ => by rw [hA _ (by omega) (by omega)]) (fun i _ => by rw [hA _ (by omega) (by omega)]) (fun k hk => hρ _ (by omega))).sv hs, h5.cg (fun c j hc => by rw [hA c (by omega) (by omega)]) hρ⟩
/-- closed, or open on both sides -/
def MO (b K : Nat) (SV : Nat → Nat → Prop) (A : Mem) (ρ : Nat → Int32) : Prop := (A.1 b 6 = 0 ∧ ρ 0 = 0) ∨ ∃ t, t ≤ K ∧ KP b t SV A ρ
theorem MO.cg {b K K' : Nat} {SV SV' : Nat → Nat → Prop} {A A' : Mem} {ρ σ : Nat → Int32} (h : MO b K SV A ρ) (hK : K ≤ K') (hA : ∀ c, b ≤ c → c < b + 30 → A'.1 c = A.1 c) (hρ : ∀ k, k < 212 → σ k = ρ k) (hs : ∀ q s, SV q s → SV' q s) : MO b K' SV' A' σ := by
  rcases h with ⟨h1, h2⟩ | ⟨t, ht, h⟩
  · exact Or.inl ⟨by rw [hA b (by omega) (by omega)]; exact h1, by rw [hρ 0 (by decide)]; exact h2⟩
  · exact Or.inr ⟨t, by omega, h.cg hA hρ hs⟩
/-- programs and the tape -/
def GP (A B : Mem) : Prop := ∃ q, q ≤ 6 ∧ A.1 0 10 = nI q ∧ B.1 242 8 = nI q ∧ A.1 0 11 = B.1 242 2 ∧ (q = 6 → A.1 0 11 = -1) ∧ (∃ T n, Tape A T n ∧ TapeM B T n) ∧ Knw A ∧ (∀ i, i < 6 → Z0 (16 + 15 * i) A) ∧ ∀ i, i < q → ∃ pg, PRel A B i pg
/-- findings -/
def GF (A B : Mem) : Prop := ∀ i, i < 5 → A.1 1 i = B.1 253 (i + 1)
/-- teams -/
def GT (A B : Mem) : Prop := TmR A B ∧ TmI (SVp A B) B
/-- what was told -/
def GO (A B : Mem) : Prop := A.1 0 9 = B.1 242 46 ∧ (∃ c, c ≤ 20 ∧ A.1 0 9 = nI c) ∧ ∀ i, i < 20 → A.1 15 i = B.1 268 i
/-- the match -/
def GM (K : Nat) (A B : Mem) : Prop := B.1 242 30 = nI 10 ∧ MO 122 K (SVp A B) A (B.1 259)
/-- kept matches -/
def GK (K : Nat) (A B : Mem) : Prop := ∀ k, k < 2 → MO (182 + 30 * k) K (SVp A B) A (fun i => B.1 261 (212 * k + i))
/-- robots' numbers; the league's table -/
def GL (A B : Mem) : Prop := (∀ b, b = 122 ∨ b = 152 ∨ b = 182 ∨ b = 212 → ∀ r, r < 10 → RK b A r) ∧ (∃ s, s < 16 ∧ A.1 11 0 = nI s ∧ B.1 242 42 = nI s) ∧ ∀ i, i < 4 → (∃ a b c : Nat, a ≤ 1000 ∧ b ≤ 1000 ∧ c ≤ 1000 ∧ A.1 12 i = nI a ∧ A.1 13 i = nI b ∧ A.1 14 i = nI c) ∧ A.1 12 i = B.1 265 i ∧ A.1 13 i = B.1 266 i ∧ A.1 14 i = B.1 267 i
def GR (K : Nat) (A B : Mem) : Prop := GP A B ∧ GF A B ∧ GT A B ∧ GO A B ∧ GM K A B ∧ GK K A B ∧ GL A B
/-- the cells that programs lie in are the same -/
def SP (A B A' B' : Mem) : Prop := (∀ c, 16 ≤ c → c < 106 → A'.1 c = A.1 c ∧ A'.2 c = A.2 c) ∧ A'.1 0 10 = A.1 0 10 ∧ ∀ c, 244 ≤ c → c ≤ 247 → B'.1 c = B.1 c
theorem PRel.sp {A B A' B' : Mem} {q : Nat} {pg : Pg} (h : PRel A B q pg) (s : SP A B A' B') : PRel A' B' q pg := by
  obtain ⟨h1, h2, h3, h4, n, h5, h6, h7⟩ := h
  refine ⟨h1.c (fun c p1 p2 => (s.1 c (by omega) (by omega)).1) (s.1 _ (by omega) (by omega)).2, ?_, h3, h4, n, by rw [s.2.1]; exact h5, h6, h7⟩
  exact h2.c h1.2.1 (fun d hd x _ _ => by rw [s.2.2 d (by omega) (by omega)]) (by rw [s.2.2 246 (by decide) (by decide)]) (fun x _ _ => by rw [s.2.2 247 (by decide) (by decide)])
theorem SP.v {A B A' B' : Mem} (s : SP A B A' B') : ∀ q x, SVp A B q x → SVp A' B' q x := fun q x h => by
  obtain ⟨pg, h1, h2⟩ := h
  exact ⟨pg, h1.sp s, h2⟩
theorem GP.cg {A B A' B' : Mem} (h : GP A B) (s : SP A B A' B') (a0 : A'.1 0 11 = A.1 0 11) (a2 : A'.1 2 5 = A.1 2 5) (a3 : A'.1 3 = A.1 3) (a4 : A'.2 4 = A.2 4) (b2 : ∀ j, j = 1 ∨ j = 2 ∨ j = 8 → B'.1 242 j = B.1 242 j) (b3 : B'.1 243 = B.1 243) : GP A' B' := by
  obtain ⟨q, h1, h2, h3, h4, h5, ⟨T, n, h6, h7⟩, h8, h9, h10⟩ := h
  refine ⟨q, h1, by rw [s.2.1]; exact h2, by rw [b2 8 (by omega)]; exact h3, by rw [a0, b2 2 (by omega)]; exact h4, fun e => by rw [a0]; exact h5 e, ⟨T, n, ⟨by rw [a2]; exact h6.1, h6.2.1, fun i hi => by rw [a3]; exact h6.2.2 i hi⟩, by rw [b2 1 (by omega)]; exact h7.1, h7.2.1, fun i hi => by rw [b3]; exact h7.2.2 i hi⟩, fun i w e => by rw [a4]; exact h8 i w e, fun i hi d hd => by rw [(s.1 d (by omega) (by omega)).1]; exact h9 i hi d hd, fun i hi => ?_⟩
  obtain ⟨pg, hp⟩ := h10 i hi
  exact ⟨pg, hp.sp s⟩
theorem GF.cg {A B A' B' : Mem} (h : GF A B) (a : A'.1 1 = A.1 1) (b : B'.1 253 = B.1 253) : GF A' B' := fun i hi => by rw [a, b]; exact h i hi
theorem TmI.sv {SV SV' : Nat → Nat → Prop} {B : Mem} (h : TmI SV B) (hs : ∀ q s, SV q s → SV' q s) : TmI SV' B := by
  intro t ht
  obtain ⟨h1, h2⟩ := h t ht
  refine ⟨fun k hk => ?_, h2⟩
  obtain ⟨h3, h4⟩ := h1 k hk
  refine ⟨?_, h4⟩
  rcases h3 with h3 | ⟨q, a, b, c⟩
  · exact Or.inl h3
  · exact Or.inr ⟨q, a, hs q 0 b, c⟩
theorem GT.cg {A B A' B' : Mem} (h : GT A B) (s : SP A B A' B') (a : ∀ c, 106 ≤ c → c < 122 → A'.1 c = A.1 c) (b : ∀ c, 254 ≤ c → c ≤ 258 → B'.1 c = B.1 c) : GT A' B' := by
  refine ⟨fun t ht => ?_, (h.2.cg b).sv s.v⟩
  rw [a _ (by omega) (by omega), a _ (by omega) (by omega), a _ (by omega) (by omega), a _ (by omega) (by omega), b 254 (by decide) (by decide), b 255 (by decide) (by decide), b 256 (by decide) (by decide), b 257 (by decide) (by decide), b 258 (by decide) (by decide)]
  exact h.1 t ht
theorem GO.cg {A B A' B' : Mem} (h : GO A B) (a0 : A'.1 0 9 = A.1 0 9) (a : A'.1 15 = A.1 15) (b0 : B'.1 242 46 = B.1 242 46) (b : B'.1 268 = B.1 268) : GO A' B' := by
  unfold GO
  rw [a0, a, b0, b]
  exact h
theorem GM.cg {K K' : Nat} {A B A' B' : Mem} (h : GM K A B) (hK : K ≤ K') (s : SP A B A' B') (a : ∀ c, 122 ≤ c → c < 152 → A'.1 c = A.1 c) (b0 : B'.1 242 30 = B.1 242 30) (b : B'.1 259 = B.1 259) : GM K' A' B' :=
  ⟨by rw [b0]; exact h.1, h.2.cg hK (fun c p1 p2 => a c p1 (by omega)) (fun k _ => by rw [b]) s.v⟩
theorem GK.cg {K K' : Nat} {A B A' B' : Mem} (h : GK K A B) (hK : K ≤ K') (s : SP A B A' B') (a : ∀ c, 182 ≤ c → c < 242 → A'.1 c = A.1 c) (b : B'.1 261 = B.1 261) : GK K' A' B' := fun k hk =>
  (h k hk).cg hK (fun c p1 p2 => a c (by omega) (by omega)) (fun i _ => by rw [b]) s.v
theorem GL.cg {A B A' B' : Mem} (h : GL A B) (a : ∀ c, 122 ≤ c → c < 242 → A'.1 c = A.1 c) (a1 : ∀ c, 11 ≤ c → c < 15 → A'.1 c = A.1 c) (b0 : B'.1 242 42 = B.1 242 42) (b : ∀ c, 265 ≤ c → c ≤ 267 → B'.1 c = B.1 c) : GL A' B' := by
  obtain ⟨h1, h2, h3⟩ := h
  refine ⟨fun x hx r hr => (h1 x hx r hr).cg (fun j _ => by rw [a _ (by omega) (by omega)]), by rw [a1 11 (by decide) (by decide), b0]; exact h2, ?_⟩
  rw [a1 12 (by decide) (by decide), a1 13 (by decide) (by decide), a1 14 (by decide) (by decide), b 265 (by decide) (by decide), b 266 (by decide) (by decide), b 267 (by decide) (by decide)]
  exact h3
/-- the class's part of the memory alone counts, and the model's -/
theorem GR.A {K : Nat} {A A' B : Mem} (h : GR K A B) (a : ∀ d, d < 242 → A'.1 d = A.1 d) (a2 : ∀ d, d < 242 → A'.2 d = A.2 d) : GR K A' B := by
  obtain ⟨h1, h2, h3, h4, h5, h6, h7⟩ := h
  have s : SP A B A' B := ⟨fun c _ p2 => ⟨a c (by omega), a2 c (by omega)⟩, by rw [a 0 (by decide)], fun _ _ _ => rfl⟩
  exact ⟨h1.cg s (by rw [a 0 (by decide)]) (by rw [a 2 (by decide)]) (a 3 (by decide)) (a2 4 (by decide)) (fun _ _ => rfl) rfl, h2.cg (a 1 (by decide)) rfl, h3.cg s (fun c _ p => a c (by omega)) (fun _ _ _ => rfl), h4.cg (by rw [a 0 (by decide)]) (a 15 (by decide)) rfl rfl, h5.cg (Nat.le_refl _) s (fun c _ p => a c (by omega)) rfl rfl, h6.cg (Nat.le_refl _) s (fun c _ p => a c p) rfl, h7.cg (fun c _ p => a c p) (fun c _ p => a c (by omega)) rfl (fun _ _ _ => rfl)⟩
theorem GR.B {K : Nat} {A B B' : Mem} (h : GR K A B) (b : ∀ d, 242 ≤ d → B'.1 d = B.1 d) : GR K A B' := by
  obtain ⟨h1, h2, h3, h4, h5, h6, h7⟩ := h
  have s : SP A B A B' := ⟨fun _ _ _ => ⟨rfl, rfl⟩, rfl, fun c p _ => b c (by omega)⟩
  have b0 := b 242 (by decide)
  exact ⟨h1.cg s rfl rfl rfl rfl (fun _ _ => by rw [b0]) (b 243 (by decide)), h2.cg rfl (b 253 (by decide)), h3.cg s (fun _ _ _ => rfl) (fun c p _ => b c (by omega)), h4.cg rfl rfl (by rw [b0]) (b 268 (by decide)), h5.cg (Nat.le_refl _) s (fun _ _ _ => rfl) (by rw [b0]) (b 259 (by decide)), h6.cg (Nat.le_refl _) s (fun _ _ _ => rfl) (b 261 (by decide)), h7.cg (fun _ _ _ => rfl) (fun _ _ _ => rfl) (by rw [b0]) (fun c p _ => b c (by omega))⟩
/-- class calls leave the model's cells alone, and the other way round -/
def LoA (A A' : Mem) : Prop := ∀ d, 242 ≤ d → A'.1 d = A.1 d ∧ A'.2 d = A.2 d
def HiB (B B' : Mem) : Prop := ∀ d, d < 242 → B'.1 d = B.1 d ∧ B'.2 d = B.2 d
/-- one call on both sides -/
def Sim (K : Nat) (f g : Mem → Option (Int32 × Mem)) : Prop := ∀ A B, GR K A B → ∃ v A' B', f A = some (v, A') ∧ g B = some (v, B') ∧ GR (K + 50) A' B' ∧ LoA A A' ∧ HiB B B'
theorem Sim.run {K : Nat} {f g : Mem → Option (Int32 × Mem)} (h : Sim K f g) {M : Mem} (hM : GR K M M) : ∃ v M1 M2, f M = some (v, M1) ∧ g M1 = some (v, M2) ∧ GR (K + 50) M2 M2 := by
  obtain ⟨v, M1, _, e1, _, _, l1, _⟩ := h M M hM
  obtain ⟨w, N1, M2, e2, e3, e4, _, e6⟩ := h M M1 (hM.B (fun d hd => (l1 d hd).1))
  rw [e1] at e2
  cases e2
  exact ⟨v, M1, M2, e1, e3, e4.A (fun d hd => (e6 d hd).1) (fun d hd => (e6 d hd).2)⟩
end GRL
