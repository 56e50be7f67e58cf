/-! ===== the model's acts ===== -/
def ActM (W V : Nat → Int32) (a : Ac) (h h' : Nat) : Prop :=
  (a.1 = 3 ∧ a.2.2 = [] ∧ W h = 13 ∧ W (h + 1) = 1 ∧ V (h + 1) = a.2.1 ∧ W (h + 2) = 59 ∧ h' = h + 3) ∨
  (a.1 = 4 ∧ ∃ s h1, a.2.2 = [s] ∧ (∃ k : Nat, k < 4 ∧ a.2.1 = nI k) ∧ W h = 14 ∧ W (h + 1) = 3 ∧ V (h + 1) = a.2.1 ∧ SumM W V s (h + 2) h1 ∧ W h1 = 59 ∧ h' = h1 + 1) ∨
  ((a.1 = 5 ∨ a.1 = 6) ∧ ∃ s1 s2 h1 h2, a.2.2 = [s1, s2] ∧ W h = a.1 + 10 ∧ SumM W V s1 (h + 1) h1 ∧ SumM W V s2 h1 h2 ∧ W h2 = 59 ∧ h' = h2 + 1) ∨
  (a.1 = 7 ∧ ∃ s1 s2 s3 h1 h2 h3, a.2.2 = [s1, s2, s3] ∧ W h = 17 ∧ SumM W V s1 (h + 1) h1 ∧ SumM W V s2 h1 h2 ∧ SumM W V s3 h2 h3 ∧ W h3 = 59 ∧ h' = h3 + 1) ∨
  (a.1 = 8 ∧ a.2.2 = [] ∧ W h = 18 ∧ W (h + 1) = 59 ∧ h' = h + 2)
def ActsM (W V : Nat → Int32) : List Ac → Nat → Nat → Prop
  | [], h, h' => h = h' ∧ W h = 125
  | a :: as, h, h' => ∃ h1, ActM W V a h h1 ∧ ActsM W V as h1 h'
theorem ActM.w {W V : Nat → Int32} {a : Ac} {h h' : Nat} (H : ActM W V a h h') : AcW a := by
  rcases H with ⟨e, e2, _⟩ | ⟨e, s, h1, e2, e3, _⟩ | ⟨e, s1, s2, h1, h2, e2, _⟩ | ⟨e, s1, s2, s3, h1, h2, h3, e2, _⟩ | ⟨e, e2, _⟩
  · exact Or.inl ⟨e, e2⟩
  · exact Or.inr (Or.inl ⟨e, by rw [e2]; rfl, e3⟩)
  · rcases e with e | e
    · exact Or.inr (Or.inr (Or.inl ⟨e, by rw [e2]; rfl⟩))
    · exact Or.inr (Or.inr (Or.inr (Or.inl ⟨e, by rw [e2]; rfl⟩)))
  · exact Or.inr (Or.inr (Or.inr (Or.inr (Or.inl ⟨e, by rw [e2]; rfl⟩))))
  · exact Or.inr (Or.inr (Or.inr (Or.inr (Or.inr ⟨e, e2⟩))))
theorem nb59 {W : Nat → Int32} {a : Nat} (h : W a = 59) : NB W a (a + 1) := NB.one (by rw [h]; exact ⟨by decide, by decide⟩)
theorem ActM.lt {W V : Nat → Int32} {a : Ac} {h h' : Nat} (H : ActM W V a h h') : h < h' := by
  rcases H with ⟨_, _, _, _, _, _, e⟩ | ⟨_, s, h1, _, _, _, _, _, S, _, e⟩ | ⟨_, s1, s2, h1, h2, _, _, S1, S2, _, e⟩ | ⟨_, s1, s2, s3, h1, h2, h3, _, _, S1, S2, S3, _, e⟩ | ⟨_, _, _, _, e⟩
  · omega
  · have := S.lt; omega
  · have := S1.lt; have := S2.lt; omega
  · have := S1.lt; have := S2.lt; have := S3.lt; omega
  · omega
theorem ActM.nb {W V : Nat → Int32} {a : Ac} {h h' : Nat} (H : ActM W V a h h') : NB W h h' := by
  rcases H with ⟨_, _, w1, w2, _, w3, rfl⟩ | ⟨_, s, h1, _, _, w1, w2, _, S, w3, rfl⟩ | ⟨e, s1, s2, h1, h2, _, w1, S1, S2, w3, rfl⟩ | ⟨_, s1, s2, s3, h1, h2, h3, _, w1, S1, S2, S3, w3, rfl⟩ | ⟨_, _, w1, w3, rfl⟩
  · exact ((NB.one (by rw [w1]; exact ⟨by decide, by decide⟩)).app (NB.one (by rw [w2]; exact ⟨by decide, by decide⟩))).app (nb59 w3)
  · exact (((NB.one (by rw [w1]; exact ⟨by decide, by decide⟩)).app (NB.one (by rw [w2]; exact ⟨by decide, by decide⟩))).app S.nb).app (nb59 w3)
  · exact (((NB.one (by rcases e with e | e <;> rw [w1, e] <;> exact ⟨by decide, by decide⟩)).app S1.nb).app S2.nb).app (nb59 w3)
  · exact ((((NB.one (by rw [w1]; exact ⟨by decide, by decide⟩)).app S1.nb).app S2.nb).app S3.nb).app (nb59 w3)
  · exact (NB.one (by rw [w1]; exact ⟨by decide, by decide⟩)).app (nb59 w3)
theorem ActsM.le {W V : Nat → Int32} : ∀ (as : List Ac) (h h' : Nat), ActsM W V as h h' → h + as.length ≤ h' := by
  intro as
  induction as with
  | nil => intro h h' H; obtain ⟨rfl, _⟩ := H; exact Nat.le_refl _
  | cons t ts ih => intro h h' H; obtain ⟨h1, H1, H2⟩ := H; have := H1.lt; have := ih _ _ H2; simp only [List.length_cons]; omega
theorem ActsM.nb {W V : Nat → Int32} : ∀ (as : List Ac) (h h' : Nat), ActsM W V as h h' → NB W h h' := by
  intro as
  induction as with
  | nil => intro h h' H; obtain ⟨rfl, _⟩ := H; exact fun i p q => by omega
  | cons t ts ih => intro h h' H; obtain ⟨h1, H1, H2⟩ := H; exact H1.nb.app (ih _ _ H2)
theorem ActsM.end {W V : Nat → Int32} : ∀ (as : List Ac) (h h' : Nat), ActsM W V as h h' → W h' = 125 := by
  intro as
  induction as with
  | nil => intro h h' H; obtain ⟨rfl, e⟩ := H; exact e
  | cons t ts ih => intro h h' H; obtain ⟨h1, H1, H2⟩ := H; exact ih _ _ H2
theorem ActsM.ne {W V : Nat → Int32} {a : Ac} {as : List Ac} {h h' : Nat} (H : ActsM W V (a :: as) h h') : ¬ W h = 125 := by
  obtain ⟨h1, H1, _⟩ := H
  exact (H1.nb h (Nat.le_refl _) H1.lt).2
/-! the model's memory during a run of robot r -/
def MRf (mA r : Nat) (B0 B : Mem) : Prop := B.2 = B0.2 ∧ (∀ d, d ≠ mA → d ≠ 242 → d ≠ 262 → d ≠ 263 → d ≠ 264 → B.1 d = B0.1 d) ∧ (∀ j, j ≠ 41 → B.1 242 j = B0.1 242 j) ∧ (∀ k, ¬ (44 + 16 * r + 4 ≤ k ∧ k < 44 + 16 * r + 8) → k ≠ 44 + 16 * r + 10 → B.1 mA k = B0.1 mA k) ∧ (∀ d, d = 262 ∨ d = 263 ∨ d = 264 → ∀ s, s ≠ r → B.1 d s = B0.1 d s)
theorem MRf.rf {mA r : Nat} {B : Mem} : MRf mA r B B := ⟨rfl, fun _ _ _ _ _ _ => rfl, fun _ _ => rfl, fun _ _ _ => rfl, fun _ _ _ _ => rfl⟩
theorem MRf.gone {mA r : Nat} {v : Int32} {B0 B : Mem} (h : MRf mA r B0 B) (hm : mA = 259 ∨ mA = 260) : MRf mA r B0 (setI B 242 41 v) := by
  obtain ⟨h1, h2, h3, h4, h5⟩ := h
  refine ⟨h1, fun d a b c d' e => by rw [fI b]; exact h2 d a b c d' e, fun j hj => by rw [gI (Or.inr hj)]; exact h3 j hj, fun k a b => by rw [gI (Or.inl (by omega))]; exact h4 k a b, fun d hd s hs => by rw [gI (Or.inl (by omega))]; exact h5 d hd s hs⟩
theorem MRf.row {mA r k : Nat} {v : Int32} {B0 B : Mem} (h : MRf mA r B0 B) (hm : mA = 259 ∨ mA = 260) (hk : (44 + 16 * r + 4 ≤ k ∧ k < 44 + 16 * r + 8) ∨ k = 44 + 16 * r + 10) : MRf mA r B0 (setI B mA k v) := by
  obtain ⟨h1, h2, h3, h4, h5⟩ := h
  refine ⟨h1, fun d a b c d' e => by rw [fI a]; exact h2 d a b c d' e, fun j hj => by rw [gI (Or.inl (by omega))]; exact h3 j hj, fun i a b => by rw [gI (Or.inr (by omega))]; exact h4 i a b, fun d hd s hs => by rw [gI (Or.inl (by omega))]; exact h5 d hd s hs⟩
theorem MRf.cmd {mA r d : Nat} {v : Int32} {B0 B : Mem} (h : MRf mA r B0 B) (hm : mA = 259 ∨ mA = 260) (hd : d = 262 ∨ d = 263 ∨ d = 264) : MRf mA r B0 (setI B d r v) := by
  obtain ⟨h1, h2, h3, h4, h5⟩ := h
  refine ⟨h1, fun e a b c d' e' => by rw [fI (by omega)]; exact h2 e a b c d' e', fun j hj => by rw [gI (Or.inl (by omega))]; exact h3 j hj, fun i a b => by rw [gI (Or.inl (by omega))]; exact h4 i a b, fun e he s hs => by rw [gI (Or.inr hs)]; exact h5 e he s hs⟩
theorem senF_cg {ρ σ : Nat → Int32} {r : Nat} (h : ∀ k, ¬ (44 + 16 * r + 4 ≤ k ∧ k < 44 + 16 * r + 8) → k ≠ 44 + 16 * r + 10 → σ k = ρ k) (hr : r < 10) : senF σ r = senF ρ r := by
  funext k
  unfold senF hldF
  have hX : ∀ s, σ (44 + 16 * s) = ρ (44 + 16 * s) := fun s => h _ (by omega) (by omega)
  have hY : ∀ s, σ (44 + 16 * s + 1) = ρ (44 + 16 * s + 1) := fun s => h _ (by omega) (by omega)
  rw [h (44 + 16 * r + 8) (by omega) (by omega), h (44 + 16 * r + 9) (by omega) (by omega), hX, hY, hX, hY, h 3 (by omega) (by omega), h 4 (by omega) (by omega), h 5 (by omega) (by omega), h 16 (by omega) (by omega)]
theorem MRf.b {mA q r : Nat} {B0 B : Mem} (h : MRf mA r B0 B) (hm : mA = 259 ∨ mA = 260) (hB : MB B0 q r) : MB B q r ∧ wF B q = wF B0 q ∧ vF B q = vF B0 q ∧ senF (B.1 mA) r = senF (B0.1 mA) r := by
  obtain ⟨b1, b2, b3, b4⟩ := hB
  refine ⟨⟨b1, b2, by rw [h.2.2.1 34 (by decide)]; exact b3, by rw [h.2.2.1 33 (by decide)]; exact b4⟩, ?_, ?_, senF_cg h.2.2.2.1 b2⟩
  · unfold wF; rw [h.2.1 244 (by omega) (by decide) (by decide) (by decide) (by decide)]
  · unfold vF; rw [h.2.1 245 (by omega) (by decide) (by decide) (by decide) (by decide)]
theorem mst_c {B : Mem} {h c a k : Nat} {v : Int32} (ha : a ≠ 242 ∨ (k ≠ 35 ∧ k ≠ 36 ∧ k ≠ 37)) : setI (mst B h c) a k v = mst (setI B a k v) h c := by
  refine mem_ext (fun d j => ?_) rfl
  by_cases q : d = a ∧ j = k
  · obtain ⟨rfl, rfl⟩ := q
    rw [gs_eI]
    by_cases e : d = 242
    · subst e
      rw [mst_j (by omega), gs_eI]
    · rw [mst_d e, gs_eI]
  · rw [gI (by omega)]
    by_cases e : d = 242
    · subst e
      by_cases e1 : j = 35
      · subst e1; rw [mst_35, mst_35]
      · by_cases e2 : j = 36
        · subst e2; rw [mst_36, mst_36]
        · by_cases e3 : j = 37
          · subst e3; rw [mst_37, mst_37]
          · rw [mst_j (by omega), mst_j (by omega), gI (by omega)]
    · rw [mst_d e, mst_d e, gI (by omega)]
def trF (r : Nat) (x : Int32) : Int32 := if r < 5 then x else -x
def goesM (mA r : Nat) (w x y p : Int32) (B : Mem) : Mem := setI (setI (setI (setI B mA (44 + 16 * r + 10) w) 262 r (trF r (cut3 x))) 263 r (trF r (cut3 y))) 264 r (cut9 p)
theorem sign_cut {x : Int32} {M : Mem} : V_X11_sign x M = cut3 x := by
  have nle : ∀ {x y : Int32}, x ≤ y ↔ x.toInt ≤ y.toInt := fun {x y} => Int32.le_iff_toInt_le
  have nlt : ∀ {x y : Int32}, x < y ↔ x.toInt < y.toInt := fun {x y} => Int32.lt_iff_toInt_lt
  have t0 : (0 : Int32).toInt = 0 := rfl
  have t1 : (1 : Int32).toInt = 1 := rfl
  have tm : (-1 : Int32).toInt = -1 := rfl
  unfold V_X11_sign cut3
  dsimp only
  by_cases c1 : 0 ≤ x
  · rw [if_pos c1]
    by_cases c2 : x ≤ 0
    · have : x = 0 := Int32.toInt_inj.mp (by rw [nle, t0] at c1 c2; rw [t0]; omega)
      subst this; decide
    · rw [if_neg c2, if_neg (show ¬ x < 1 by rw [nlt, t1]; rw [nle, t0] at c2; omega)]
      decide
  · rw [if_neg c1, if_pos (show x < 1 by rw [nlt, t1]; rw [nle, t0] at c1; omega), if_neg (show ¬ (-1 : Int32) < x by rw [nlt, tm]; rw [nle, t0] at c1; omega)]
theorem pow_cut {p : Int32} : (if (1 : Int32) ≤ p then (if p ≤ (9 : Int32) then p else (9 : Int32)) else (1 : Int32)) = cut9 p := by
  have nle : ∀ {x y : Int32}, x ≤ y ↔ x.toInt ≤ y.toInt := fun {x y} => Int32.le_iff_toInt_le
  have nlt : ∀ {x y : Int32}, x < y ↔ x.toInt < y.toInt := fun {x y} => Int32.lt_iff_toInt_lt
  have t1 : (1 : Int32).toInt = 1 := rfl
  have t9 : (9 : Int32).toInt = 9 := rfl
  unfold cut9
  by_cases c1 : (1 : Int32) ≤ p
  · rw [if_pos c1]
    by_cases c2 : p < 9
    · rw [if_pos c2, if_pos (show p ≤ 9 by rw [nle]; rw [nlt] at c2; omega)]
      by_cases c3 : 1 < p
      · rw [if_pos c3]
      · rw [if_neg c3]
        exact Int32.toInt_inj.mp (by rw [nle, t1] at c1; rw [nlt, t1] at c3; rw [t1]; omega)
    · rw [if_neg c2, if_pos (show (1 : Int32) < 9 by decide)]
      by_cases c3 : p ≤ 9
      · rw [if_pos c3]
        exact Int32.toInt_inj.mp (by rw [nle, t9] at c3; rw [nlt, t9] at c2; rw [t9]; omega)
      · rw [if_neg c3]
  · rw [if_neg c1, if_pos (show p < 9 by rw [nlt, t9]; rw [nle, t1] at c1; omega), if_neg (show ¬ 1 < p by rw [nlt, t1]; rw [nle, t1] at c1; omega)]
theorem goes_eq {mA r : Nat} {w x y p : Int32} {M : Mem} (hm : mA = 259 ∨ mA = 260) (hr : r < 10) (h33 : M.1 242 33 = nI r) : R_X11_goes w x y p mA M = some (goesM mA r w x y p M) := by
  have et : ∀ v : Int32, (if (5 : Int32) ≤ nI r then (-1 : Int32) else (1 : Int32)) * v = trF r v := by
    intro v
    unfold trF
    by_cases c : r < 5
    · rw [if_neg (nleL (y := 5) 5 c rfl (by decide)), if_pos c, Int32.one_mul]
    · rw [if_pos (leL (y := 5) 5 (by omega) rfl (by omega)), if_neg c]; exact (Int32.neg_eq_neg_one_mul v).symm
  unfold R_X11_goes
  rw [h33, bd1_s, bnd1_e (set_eq (c := 10) (w := 10) hr (by decide) rfl), gI (Or.inl (by omega)), h33, ck_nI hr (by omega), ck_nI hr (by omega), bd1_s, ck_nI hr (by omega), nI_clamp (by omega), et, et, sign_cut, sign_cut, pow_cut]
  rfl
