/-! ===== what a program's rows depend on ===== -/
section LO
variable {W V W' V' : Nat → Int32}
theorem TermM.cg {h h' : Nat} {t : Tm} (H : TermM W V h t h') (hW : ∀ i, i ≤ h' → W' i = W i ∧ V' i = V i) : TermM W' V' h t h' := by
  obtain ⟨k, k6, km, ks, H⟩ := H
  have hl : h + k < h' := by rcases H with ⟨_, _, _, e⟩ | ⟨_, _, _, _, e⟩ | ⟨_, _, _, e⟩ | ⟨_, _, _, _, e⟩ <;> omega
  refine ⟨k, k6, fun i hi => by rw [(hW _ (by omega)).1]; exact km i hi, ks, ?_⟩
  rw [(hW (h + k) (by omega)).1, (hW (h + k) (by omega)).2]
  rcases H with H | H | H | H
  · exact Or.inl H
  · exact Or.inr (Or.inl H)
  · exact Or.inr (Or.inr (Or.inl H))
  · have e := H.2.2.2.2
    rw [(hW (h + k + 1) (by omega)).1, (hW (h + k + 1) (by omega)).2]
    exact Or.inr (Or.inr (Or.inr H))
theorem TailM.l : ∀ (ts : Sm) (h h' : Nat), TailM W V ts h h' → h ≤ h' := by
  intro ts
  induction ts with
  | nil => intro h h' H; exact Nat.le_of_eq H.1
  | cons t ts ih =>
    intro h h' H
    obtain ⟨_, _, h1, H1, H2⟩ := H
    have := H1.lt
    have := ih _ _ H2
    omega
theorem TailM.cg : ∀ (ts : Sm) (h h' : Nat), TailM W V ts h h' → (∀ i, i ≤ h' → W' i = W i ∧ V' i = V i) → TailM W' V' ts h h' := by
  intro ts
  induction ts with
  | nil =>
    intro h h' H hW
    obtain ⟨e, H⟩ := H
    subst e
    exact ⟨rfl, by rw [(hW h (Nat.le_refl _)).1]; exact H⟩
  | cons t ts ih =>
    intro h h' H hW
    obtain ⟨a, b, h1, H1, H2⟩ := H
    have l1 := H1.lt
    have l2 := TailM.l _ _ _ H2
    exact ⟨a, by rw [(hW h (by omega)).1]; exact b, h1, H1.cg (fun i hi => hW i (by omega)), ih _ _ H2 hW⟩
theorem SumM.l {sm : Sm} {h h' : Nat} (H : SumM W V sm h h') : h < h' := by
  obtain ⟨t, ts, h1, _, _, H1, H2⟩ := H
  have := H1.lt
  have := TailM.l _ _ _ H2
  omega
theorem SumM.cg {sm : Sm} {h h' : Nat} (H : SumM W V sm h h') (hW : ∀ i, i ≤ h' → W' i = W i ∧ V' i = V i) : SumM W' V' sm h h' := by
  obtain ⟨t, ts, h1, e1, e2, H1, H2⟩ := H
  have l2 := TailM.l _ _ _ H2
  exact ⟨t, ts, h1, e1, e2, H1.cg (fun i hi => hW i (by omega)), TailM.cg _ _ _ H2 hW⟩
theorem TestM.l {t : Ts} {h h' : Nat} (H : TestM W V t h h') : h < h' := by
  obtain ⟨_, h1, H1, _, H2⟩ := H
  have := H1.l
  have := H2.l
  omega
theorem TestM.cg {t : Ts} {h h' : Nat} (H : TestM W V t h h') (hW : ∀ i, i ≤ h' → W' i = W i ∧ V' i = V i) : TestM W' V' t h h' := by
  obtain ⟨a, h1, H1, b, H2⟩ := H
  have := H2.l
  exact ⟨a, h1, H1.cg (fun i hi => hW i (by omega)), by rw [(hW h1 (by omega)).1]; exact b, H2.cg hW⟩
theorem AndsM.l : ∀ (ts : List Ts) (h h' : Nat), AndsM W V ts h h' → h ≤ h' := by
  intro ts
  induction ts with
  | nil => intro h h' H; exact Nat.le_of_eq H.1
  | cons t ts ih =>
    intro h h' H
    obtain ⟨_, h1, H1, H2⟩ := H
    have := H1.l
    have := ih _ _ H2
    omega
theorem AndsM.cg : ∀ (ts : List Ts) (h h' : Nat), AndsM W V ts h h' → (∀ i, i ≤ h' → W' i = W i ∧ V' i = V i) → AndsM W' V' ts h h' := by
  intro ts
  induction ts with
  | nil =>
    intro h h' H hW
    obtain ⟨e, H⟩ := H
    subst e
    exact ⟨rfl, by rw [(hW h (Nat.le_refl _)).1]; exact H⟩
  | cons t ts ih =>
    intro h h' H hW
    obtain ⟨b, h1, H1, H2⟩ := H
    have l1 := H1.l
    have l2 := AndsM.l _ _ _ H2
    exact ⟨by rw [(hW h (by omega)).1]; exact b, h1, H1.cg (fun i hi => hW i (by omega)), ih _ _ H2 hW⟩
theorem TestsM.l {ts : List Ts} {h h' : Nat} (H : TestsM W V ts h h') : h < h' := by
  obtain ⟨t, l, h1, _, _, H1, H2⟩ := H
  have := H1.l
  have := AndsM.l _ _ _ H2
  omega
theorem TestsM.cg {ts : List Ts} {h h' : Nat} (H : TestsM W V ts h h') (hW : ∀ i, i ≤ h' → W' i = W i ∧ V' i = V i) : TestsM W' V' ts h h' := by
  obtain ⟨t, l, h1, e, b, H1, H2⟩ := H
  have l1 := H1.l
  have l2 := AndsM.l _ _ _ H2
  exact ⟨t, l, h1, e, by rw [(hW h (by omega)).1]; exact b, H1.cg (fun i hi => hW i (by omega)), AndsM.cg _ _ _ H2 hW⟩
theorem ActM.l {a : Ac} {h h' : Nat} (H : ActM W V a h h') : h < h' := by
  rcases H with ⟨_, _, _, _, _, _, e⟩ | ⟨_, s, h1, _, _, _, _, _, H1, _, e⟩ | ⟨_, s1, s2, h1, h2, _, _, H1, H2, _, e⟩ | ⟨_, s1, s2, s3, h1, h2, h3, _, _, H1, H2, H3, _, e⟩ | ⟨_, _, _, _, e⟩
  · omega
  · have := H1.l; omega
  · have := H1.l; have := H2.l; omega
  · have := H1.l; have := H2.l; have := H3.l; omega
  · omega
theorem ActM.cg {a : Ac} {h h' : Nat} (H : ActM W V a h h') (hW : ∀ i, i ≤ h' → W' i = W i ∧ V' i = V i) : ActM W' V' a h h' := by
  have hl := H.l
  have w : ∀ i, i ≤ h' → W' i = W i := fun i hi => (hW i hi).1
  have v : ∀ i, i ≤ h' → V' i = V i := fun i hi => (hW i hi).2
  rcases H with ⟨a1, a2, a3, a4, a5, a6, e⟩ | ⟨a1, s, h1, a2, a3, a4, a5, a6, H1, a7, e⟩ | ⟨a1, s1, s2, h1, h2, a2, a3, H1, H2, a4, e⟩ | ⟨a1, s1, s2, s3, h1, h2, h3, a2, a3, H1, H2, H3, a4, e⟩ | ⟨a1, a2, a3, a4, e⟩
  · exact Or.inl ⟨a1, a2, by rw [w h (by omega)]; exact a3, by rw [w (h + 1) (by omega)]; exact a4, by rw [v (h + 1) (by omega)]; exact a5, by rw [w (h + 2) (by omega)]; exact a6, e⟩
  · have := H1.l
    exact Or.inr (Or.inl ⟨a1, s, h1, a2, a3, by rw [w h (by omega)]; exact a4, by rw [w (h + 1) (by omega)]; exact a5, by rw [v (h + 1) (by omega)]; exact a6, H1.cg (fun i hi => hW i (by omega)), by rw [w h1 (by omega)]; exact a7, e⟩)
  · have := H1.l
    have := H2.l
    exact Or.inr (Or.inr (Or.inl ⟨a1, s1, s2, h1, h2, a2, by rw [w h (by omega)]; exact a3, H1.cg (fun i hi => hW i (by omega)), H2.cg (fun i hi => hW i (by omega)), by rw [w h2 (by omega)]; exact a4, e⟩))
  · have := H1.l
    have := H2.l
    have := H3.l
    exact Or.inr (Or.inr (Or.inr (Or.inl ⟨a1, s1, s2, s3, h1, h2, h3, a2, by rw [w h (by omega)]; exact a3, H1.cg (fun i hi => hW i (by omega)), H2.cg (fun i hi => hW i (by omega)), H3.cg (fun i hi => hW i (by omega)), by rw [w h3 (by omega)]; exact a4, e⟩)))
  · exact Or.inr (Or.inr (Or.inr (Or.inr ⟨a1, a2, by rw [w h (by omega)]; exact a3, by rw [w (h + 1) (by omega)]; exact a4, e⟩)))
theorem ActsM.l : ∀ (as : List Ac) (h h' : Nat), ActsM W V as h h' → h ≤ h' := by
  intro as
  induction as with
  | nil => intro h h' H; exact Nat.le_of_eq H.1
  | cons t ts ih =>
    intro h h' H
    obtain ⟨h1, H1, H2⟩ := H
    have := H1.l
    have := ih _ _ H2
    omega
theorem ActsM.cg : ∀ (as : List Ac) (h h' : Nat), ActsM W V as h h' → (∀ i, i ≤ h' → W' i = W i ∧ V' i = V i) → ActsM W' V' as h h' := by
  intro as
  induction as with
  | nil =>
    intro h h' H hW
    obtain ⟨e, H⟩ := H
    subst e
    exact ⟨rfl, by rw [(hW h (Nat.le_refl _)).1]; exact H⟩
  | cons t ts ih =>
    intro h h' H hW
    obtain ⟨h1, H1, H2⟩ := H
    have l2 := ActsM.l _ _ _ H2
    exact ⟨h1, H1.cg (fun i hi => hW i (by omega)), ih _ _ H2 hW⟩
theorem RulesM.l : ∀ (rs : List Rl) (h h' : Nat), RulesM W V rs h h' → h ≤ h' := by
  intro rs
  induction rs with
  | nil => intro h h' H; exact Nat.le_of_eq H.1
  | cons t ts ih =>
    intro h h' H
    obtain ⟨h1, h2, H1, H2, H3⟩ := H
    have := H1.l
    have := ActsM.l _ _ _ H2
    have := ih _ _ H3
    omega
theorem RulesM.cg : ∀ (rs : List Rl) (h h' : Nat), RulesM W V rs h h' → (∀ i, i ≤ h' → W' i = W i ∧ V' i = V i) → RulesM W' V' rs h h' := by
  intro rs
  induction rs with
  | nil =>
    intro h h' H hW
    obtain ⟨e, H⟩ := H
    subst e
    exact ⟨rfl, by rw [(hW h (Nat.le_refl _)).1]; exact H⟩
  | cons t ts ih =>
    intro h h' H hW
    obtain ⟨h1, h2, H1, H2, H3⟩ := H
    have l1 := ActsM.l _ _ _ H2
    have l2 := RulesM.l _ _ _ H3
    exact ⟨h1, h2, H1.cg (fun i hi => hW i (by omega)), ActsM.cg _ _ _ H2 (fun i hi => hW i (by omega)), ih _ _ H3 hW⟩
end LO
/-- program q of the model is in these places -/
theorem PgM.c {B B' : Mem} {q : Nat} {pg : Pg} (h : PgM B q pg) (h8 : pg.length ≤ 8) (hW : ∀ d, d = 244 ∨ d = 245 → ∀ x, 800 * q ≤ x → x < 800 * q + 800 → B'.1 d x = B.1 d x) (h6 : B'.1 246 q = B.1 246 q) (h7 : ∀ x, 8 * q ≤ x → x < 8 * q + 8 → B'.1 247 x = B.1 247 x) : PgM B' q pg := by
  refine ⟨by rw [h6]; exact h.1, fun s rs e => ?_⟩
  obtain ⟨a, a', h1, h2, h3⟩ := h.2 s rs e
  have hs := len_at e
  refine ⟨a, a', by rw [h7 _ (by omega) (by omega)]; exact h1, RulesM.cg _ _ _ h2 (fun i hi => ⟨?_, ?_⟩), h3⟩
  · unfold wF; exact hW 244 (Or.inl rfl) _ (by omega) (by omega)
  · unfold vF; exact hW 245 (Or.inr rfl) _ (by omega) (by omega)
/-! the same for the class, with less asked -/
theorem AcC.c {A A' : Mem} {p i : Nat} {ac : Ac} (h : AcC A p i ac) (hA : ∀ c, p < c → c < p + 15 → A'.1 c = A.1 c) (h2 : A'.2 (p + 8) = A.2 (p + 8)) : AcC A' p i ac := by
  obtain ⟨h1, h3, s, h4, h5⟩ := h
  exact ⟨by rw [hA _ (by omega) (by omega)]; exact h1, by rw [h2]; exact h3, s, by rw [hA _ (by omega) (by omega)]; exact h4, fun j sm e => (h5 j sm e).cg hA⟩
theorem RlC.c {A A' : Mem} {p r : Nat} {rl : Rl} (h : RlC A p r rl) (hA : ∀ c, p < c → c < p + 15 → A'.1 c = A.1 c) (h2 : A'.2 (p + 8) = A.2 (p + 8)) : RlC A' p r rl := by
  obtain ⟨⟨i, a1, a2, a3, a4⟩, k, b1, b2, b3, b4⟩ := h
  refine ⟨⟨i, ?_, ?_, a3, fun j ts e => (a4 j ts e).cg hA⟩, k, ?_, ?_, b3, fun j ac e => (b4 j ac e).c hA h2⟩ <;> (rw [hA _ (by omega) (by omega)]; assumption)
theorem StC.c {A A' : Mem} {p s : Nat} {rs : List Rl} (h : StC A p s rs) (hA : ∀ c, p < c → c < p + 15 → A'.1 c = A.1 c) (h2 : A'.2 (p + 8) = A.2 (p + 8)) : StC A' p s rs := by
  obtain ⟨r0, a1, a2, a3, a4⟩ := h
  refine ⟨r0, ?_, ?_, a3, fun j rl e => (a4 j rl e).c hA h2⟩ <;> (rw [hA _ (by omega) (by omega)]; assumption)
theorem PgC.c {A A' : Mem} {p : Nat} {pg : Pg} (h : PgC A p pg) (hA : ∀ c, p ≤ c → c < p + 15 → A'.1 c = A.1 c) (h2 : A'.2 (p + 8) = A.2 (p + 8)) : PgC A' p pg := by
  obtain ⟨a1, a2, a3⟩ := h
  exact ⟨by rw [hA _ (by omega) (by omega)]; exact a1, a2, fun s rs e => (a3 s rs e).c (fun c h1 h2 => hA c (by omega) h2) h2⟩
