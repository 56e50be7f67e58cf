section KPT
variable {K : Nat} {A B : Mem}
theorem isPlace_c {x : Int32} : (V_X10_isPlace x A = 0 ∧ V_X11_in x 0 1 B = 0) ∨ ∃ k, k < 2 ∧ x = nI k ∧ V_X10_isPlace x A = 1 ∧ V_X11_in x 0 1 B = 1 := by
  unfold V_X10_isPlace
  dsimp only
  rcases in_c (B := B) (x := x) (hi := 1) (n := 1) (by decide) rfl with ⟨c1, c2⟩ | ⟨c1, c2, c3⟩ | ⟨r, hr, rfl, c3⟩
  · exact Or.inl ⟨if_pos c1, c2⟩
  · exact Or.inl ⟨by rw [if_neg c2, if_pos (show (2 : Int32) ≤ x from c1)], c3⟩
  · exact Or.inr ⟨r, by omega, rfl, by rw [if_neg (nI_pos (by omega)), if_neg (nleL (y := 2) 2 (by omega) rfl (by decide))], c3⟩
theorem KP.b8 {b t : Nat} {SV : Nat → Nat → Prop} {ρ : Nat → Int32} (h : KP b t SV A ρ) : ∀ r, r < 10 → A.1 (b + 10 + 2 * r) 8 = 0 ∨ A.1 (b + 10 + 2 * r) 8 = 1 := fun r hr => by
  obtain ⟨_, _, x3, x4, _⟩ := h.2.2.2.1 r hr
  rw [x3.2.1]; exact x4.2.1
theorem KP.b6 {b t : Nat} {SV : Nat → Nat → Prop} {ρ : Nat → Int32} (h : KP b t SV A ρ) : A.1 b 6 = 0 ∨ A.1 b 6 = 1 := Or.inr h.1.1
/-- one match of the class, and one row of the model's, have changed -/
theorem GR.cp {A' B' : Mem} {a m : Nat} (h : GR K A B) (ha : a = 122 ∨ a = 182 ∨ a = 212) (hm : m = 259 ∨ m = 261) (fa : ∀ c, c < a ∨ a + 30 ≤ c → A'.1 c = A.1 c) (fa2 : A'.2 = A.2) (fb : ∀ c, c ≠ m → B'.1 c = B.1 c) (hM : SP A B A' B' → GM (K + 50) A' B') (hKK : SP A B A' B' → GK (K + 50) A' B') (hRK : ∀ r, r < 10 → RK a A' r) : GR (K + 50) A' B' := by
  obtain ⟨h1, h2, h3, h4, h5, h6, h7⟩ := h
  have s : SP A B A' B' := ⟨fun c p1 p2 => ⟨fa c (by omega), by rw [fa2]⟩, by rw [fa 0 (by omega)], fun c p1 p2 => fb c (by omega)⟩
  refine ⟨h1.cg s (by rw [fa 0 (by omega)]) (by rw [fa 2 (by omega)]) (fa 3 (by omega)) (by rw [fa2]) (fun j hj => by rw [fb 242 (by omega)]) (fb 243 (by omega)), h2.cg (fa 1 (by omega)) (fb 253 (by omega)), h3.cg s (fun c p1 p2 => fa c (by omega)) (fun c p1 p2 => fb c (by omega)), h4.cg (by rw [fa 0 (by omega)]) (fa 15 (by omega)) (by rw [fb 242 (by omega)]) (fb 268 (by omega)), hM s, hKK s, ?_⟩
  obtain ⟨g1, g2, g3⟩ := h7
  refine ⟨fun x hx r hr => ?_, ?_, ?_⟩
  · by_cases e : x = a
    · subst e; exact hRK r hr
    · exact (g1 x hx r hr).cg (fun j _ => by rw [fa _ (by omega)])
  · rw [fa 11 (by omega), fb 242 (by omega)]; exact g2
  · rw [fa 12 (by omega), fa 13 (by omega), fa 14 (by omega), fb 265 (by omega), fb 266 (by omega), fb 267 (by omega)]; exact g3
theorem CpE.rk {a x : Nat} {A' : Mem} (h : CpE a x A A') (hR : ∀ r, r < 10 → RK a A r) : ∀ r, r < 10 → RK a A' r := fun r hr => (hR r hr).cg (fun j hj => (h.2.2.2.2.2.2 r hr).2.1 j hj)
theorem keep_S {x : Int32} : Sim K (fun M => R_X10_keep x M) (fun M => R_X11_keep x 259 M) := fun A B h => by
  show Out K A B (R_X10_keep x A) (R_X11_keep x 259 B)
  unfold R_X10_keep R_X11_keep
  rcases isPlace_c (A := A) (B := B) (x := x) with ⟨c1, c2⟩ | ⟨k, hk, rfl, c1, c2⟩
  · rw [if_pos c1, if_pos c2]; exact finB h
  rw [c1, c2, if_neg (show ¬ (1 : Int32) = 0 by decide), if_neg (show ¬ (1 : Int32) = 0 by decide)]
  rcases h.2.2.2.2.1.o with ⟨o1, o2⟩ | ⟨o1, o2, t, ht, hK⟩
  · rw [if_pos o1, if_pos o2]; exact finS h
  rw [if_neg o1, if_neg o2, ck_nI hk (by omega), nI_clamp (by omega)]
  obtain ⟨A', e1, e2, e3, e4⟩ := copyC (A := A) (a := 182 + 30 * k) (x := 122) (by omega) hK.b6 hK.b8
  obtain ⟨B', f1, f2, f3, f4, f5⟩ := keep_M1 hk 212 0 B rfl
  have hRK : ∀ r, r < 10 → RK (182 + 30 * k) A r := fun r hr => h.2.2.2.2.2.2.1 _ (by omega) r hr
  rw [bnd1_e e1, bnd1_e f1]
  refine ⟨1, A', B', rfl, rfl, h.cp (a := 182 + 30 * k) (m := 261) (by omega) (Or.inr rfl) e3 e2 f3 (fun s => h.2.2.2.2.1.cg (by omega) s (fun c p1 p2 => e3 c (by omega)) (by rw [f3 242 (by decide)]) (f3 259 (by decide))) (fun s k' hk' => ?_) (e4.rk hRK), fun d hd => ⟨e3 d (by omega), by rw [e2]⟩, fun d hd => ⟨f3 d (by omega), by rw [f2]⟩⟩
  by_cases e : k' = k
  · subst e
    exact Or.inr ⟨t, by omega, hK.cp e4 hRK (fun i hi => f5 i (by omega) hi) s.v⟩
  · exact (h.2.2.2.2.2.1 k' hk').cg (by omega) (fun c p1 p2 => e3 c (by omega)) (fun i hi => f4 _ (by omega)) s.v
/-- a kept match is open or closed, for both -/
theorem GK.o (h : GK K A B) {k : Nat} (hk : k < 2) : (A.1 (182 + 30 * k) 6 = 0 ∧ B.1 261 (212 * k) = 0) ∨ (¬ A.1 (182 + 30 * k) 6 = 0 ∧ ¬ B.1 261 (212 * k) = 0 ∧ ∃ t, t ≤ K ∧ KP (182 + 30 * k) t (SVp A B) A (fun i => B.1 261 (212 * k + i))) := by
  rcases h k hk with ⟨h1, h2⟩ | ⟨t, ht, h⟩
  · exact Or.inl ⟨h1, h2⟩
  · right
    have e0 : B.1 261 (212 * k) = 1 := h.1.2.1
    exact ⟨by rw [h.1.1]; decide, by rw [e0]; decide, t, ht, h⟩
theorem ix212 {k : Nat} : (212 : Int32) * nI k = nI (212 * k) := by rw [show (212 : Int32) = nI 212 from rfl, pk_mul]
theorem back_S {x : Int32} : Sim K (fun M => R_X10_back x M) (fun M => R_X11_back x 259 M) := fun A B h => by
  show Out K A B (R_X10_back x A) (R_X11_back x 259 B)
  unfold R_X10_back R_X11_back
  rcases isPlace_c (A := A) (B := B) (x := x) with ⟨c1, c2⟩ | ⟨k, hk, rfl, c1, c2⟩
  · rw [if_pos c1, if_pos c2]; exact finB h
  rw [c1, c2, if_neg (show ¬ (1 : Int32) = 0 by decide), if_neg (show ¬ (1 : Int32) = 0 by decide), ck_nI hk (by omega), ck_nI hk (by omega), nI_clamp (by omega), ix212, ck_nI (by omega) (by omega), nI_clamp (by omega)]
  rcases h.2.2.2.2.2.1.o hk with ⟨o1, o2⟩ | ⟨o1, o2, t, ht, hK⟩
  · rw [if_pos o1, if_pos o2]; exact finN h
  rw [if_neg o1, if_neg o2]
  obtain ⟨A', e1, e2, e3, e4⟩ := copyC (A := A) (a := 122) (x := 182 + 30 * k) (by omega) hK.b6 hK.b8
  obtain ⟨B', f1, f2, f3, f4, f5⟩ := back_M1 hk 212 0 B rfl
  have hRK : ∀ r, r < 10 → RK 122 A r := fun r hr => h.2.2.2.2.2.2.1 _ (by omega) r hr
  rw [bnd1_e e1, bnd1_e f1]
  have hKP : ∀ s : SP A B A' B', KP 122 t (SVp A' B') A' (B'.1 259) := fun s => hK.cp e4 hRK (fun i hi => f5 i (by omega) hi) s.v
  have s0 : SP A B A' B' := ⟨fun c p1 p2 => ⟨e3 c (by omega), by rw [e2]⟩, by rw [e3 0 (by omega)], fun c p1 p2 => f3 c (by omega)⟩
  refine ⟨A'.1 122 7, A', B', rfl, ?_, h.cp (a := 122) (m := 259) (by omega) (Or.inl rfl) e3 e2 f3 (fun s => ⟨by rw [f3 242 (by decide)]; exact h.2.2.2.2.1.1, Or.inr ⟨t, by omega, hKP s⟩⟩) (fun s => h.2.2.2.2.2.1.cg (by omega) s (fun c p1 p2 => e3 c (by omega)) (f3 261 (by decide))) (e4.rk hRK), fun d hd => ⟨e3 d (by omega), by rw [e2]⟩, fun d hd => ⟨f3 d (by omega), by rw [f2]⟩⟩
  obtain ⟨_, _, q1, q2, _⟩ := (hKP s0).1
  rw [q1, q2]
/-! where two matches differ -/
theorem robotIn_M {x1 at0 N : Nat} {x y : Int32} {M : Mem} (hN : at0 + 212 ≤ N) (h31 : N < 2 ^ 31) : R_X11_robotIn x1 (nI at0) x y N M = some (srch (inM (fun i => M.1 x1 (at0 + i)) x y (-1)) 10 0) := by
  have key : ∀ (n i : Nat), i + n = 10 → L_X11_robotIn_3 x1 (nI at0) x y N n i M = some (srS (srch (inM (fun i => M.1 x1 (at0 + i)) x y (-1)) n i)) := by
    intro n
    induction n with
    | zero => intro i _; rfl
    | succ n ih =>
      intro i hi
      have c0 : ¬ nI i = -1 := fun q => m1_nle (q ▸ nI_pos' (by omega))
      have e1 : ((nI at0 + (44 : Int32)) + ((16 : Int32) * (nI i))) + (0 : Int32) = nI (at0 + (44 + 16 * i)) := by
        rw [show (44 : Int32) = nI 44 from rfl, show (16 : Int32) = nI 16 from rfl, show (0 : Int32) = nI 0 from rfl, nI_add, pk_mul, nI_add, nI_add]
        congr 1
        omega
      have e2 : ((nI at0 + (44 : Int32)) + ((16 : Int32) * (nI i))) + (1 : Int32) = nI (at0 + (44 + 16 * i + 1)) := by
        rw [show (44 : Int32) = nI 44 from rfl, show (16 : Int32) = nI 16 from rfl, show (1 : Int32) = nI 1 from rfl, nI_add, pk_mul, nI_add, nI_add]
        congr 1
        omega
      rw [L_X11_robotIn_3, e1, e2, ck_nI (by omega) (by omega), nI_clamp (by omega), ck_nI (by omega) (by omega), nI_clamp (by omega), ih (i + 1) (by omega), srch]
      by_cases c1 : (fun i => M.1 x1 (at0 + i)) (44 + 16 * i) = x
      · rw [if_pos c1]
        by_cases c2 : (fun i => M.1 x1 (at0 + i)) (44 + 16 * i + 1) = y
        · rw [if_pos c2, if_pos (inM_t c0 c1 c2)]
          unfold srS
          rw [if_neg c0]
        · rw [if_neg c2, if_neg (inM_f (fun q => c2 q.2.2))]
      · rw [if_neg c1, if_neg (inM_f (fun q => c1 q.2.1))]
  unfold R_X11_robotIn
  rw [key 10 0 rfl]
  unfold srS
  by_cases c : srch (inM (fun i => M.1 x1 (at0 + i)) x y (-1)) 10 0 = -1
  · rw [if_pos c, c]; rfl
  · rw [if_neg c]; rfl
def toS (M : Mem) (z : Int32 ⊕ Unit) : (Int32 × Mem) ⊕ Unit := match z with
  | .inl v => .inl (v, M)
  | .inr u => .inr u
section DF
variable {k t t' : Nat} {SV SV' : Nat → Nat → Prop}
theorem cells_1 (hk : k < 2) (h1 : KP 122 t SV A (B.1 259)) (h2 : KP (182 + 30 * k) t' SV' A (fun i => B.1 261 (212 * k + i))) {w : Int32} : ∀ (n i : Nat), i + n = 9 → ∃ z, L_X2_difference_10 122 (182 + 30 * k) w n i A = some z ∧ L_X11_differ_63 (nI k) 259 w n i B = some (toS B z) := by
  intro n
  induction n with
  | zero => intro i _; exact ⟨.inr (), rfl, rfl⟩
  | succ n ih =>
    intro i hi
    have e1 := rob_same (x := w) (y := nI i) (XYR_all h1.2.2.2.1)
    have e2 := rob_same (x := w) (y := nI i) (XYR_all h2.2.2.2.1)
    have m1 := robotIn_M (x1 := 259) (at0 := 0) (N := 212) (x := w) (y := nI i) (M := B) (by decide) (by decide)
    have m2 := robotIn_M (x1 := 261) (at0 := 212 * k) (N := 424) (x := w) (y := nI i) (M := B) (by omega) (by decide)
    have e0 : (fun i => B.1 259 (0 + i)) = B.1 259 := by funext i; rw [Nat.zero_add]
    rw [e0, show nI 0 = (0 : Int32) from rfl] at m1
    rw [L_X2_difference_10, e1, e2, L_X11_differ_63, bnd1_e m1, ix212, bnd1_e m2]
    by_cases c : srch (inM (B.1 259) w (nI i) (-1)) 10 0 = srch (inM (fun i => B.1 261 (212 * k + i)) w (nI i) (-1)) 10 0
    · rw [if_pos c, if_pos c]
      exact ih (i + 1) (by omega)
    · rw [if_neg c, if_neg c]
      exact ⟨.inl _, rfl, rfl⟩
theorem cells_2 (hk : k < 2) (h1 : KP 122 t SV A (B.1 259)) (h2 : KP (182 + 30 * k) t' SV' A (fun i => B.1 261 (212 * k + i))) : ∀ (n i : Nat), ∃ z, L_X2_difference_2 122 (182 + 30 * k) n i A = some z ∧ L_X11_differ_55 (nI k) 259 n i B = some (toS B z) := by
  intro n
  induction n with
  | zero => intro i; exact ⟨.inr (), rfl, rfl⟩
  | succ n ih =>
    intro i
    obtain ⟨z, e1, e2⟩ := cells_1 (w := nI i) hk h1 h2 9 0 rfl
    rw [L_X2_difference_2, L_X11_differ_55, e1, e2]
    cases z with
    | inl v => exact ⟨.inl v, rfl, rfl⟩
    | inr u => exact ih (i + 1)
theorem like_ball (hk : k < 2) (h1 : KP 122 t SV A (B.1 259)) (h2 : KP (182 + 30 * k) t' SV' A (fun i => B.1 261 (212 * k + i))) : ∀ (n i : Nat) (u : Int32), i + n = 6 → L_X11_differ_119 (nI k) 259 n i u B = some (F_X0_isLike_4 126 (186 + 30 * k) n i u A) := by
  intro n
  induction n with
  | zero => intro i u _; rfl
  | succ n ih =>
    intro i u hi
    have b1 := ballC h1.2.2.1 (show i < 6 by omega)
    have b2 := ballC h2.2.2.1 (show i < 6 by omega)
    have m1 := ballOf_M (x := 259) (N := 212) (at0 := 0) (j := i) (M := B) (by decide) (by decide) (by omega)
    have m2 := ballOf_M (x := 261) (N := 424) (at0 := 212 * k) (j := i) (M := B) (by omega) (by decide) (by omega)
    have e0 : (fun i => B.1 259 (0 + i)) = B.1 259 := by funext i; rw [Nat.zero_add]
    rw [e0, show nI 0 = (0 : Int32) from rfl] at m1
    rw [L_X11_differ_119, F_X0_isLike_4, ix212]
    rw [show (126 : Nat) = 122 + 4 from rfl, show 186 + 30 * k = 182 + 30 * k + 4 by omega, b1, b2]
    rw [show (182 + 30 * k + 4) = 186 + 30 * k by omega]
    by_cases c : u = 0
    · rw [if_pos c, if_pos c, bnd1_s]
      exact ih (i + 1) _ (by omega)
    · rw [if_neg c, if_neg c, bnd1_e m1, bnd1_e m2]
      by_cases c2 : blF (B.1 259) i = blF (fun i => B.1 261 (212 * k + i)) i
      · rw [if_pos c2, if_pos c2, bnd1_s]; exact ih (i + 1) _ (by omega)
      · rw [if_neg c2, if_neg c2, bnd1_s]; exact ih (i + 1) _ (by omega)
def alF (ρ σ : Nat → Int32) (r : Nat) : Nat → Nat → Int32 → Int32
  | 0, _, u => u
  | n + 1, i, u => alF ρ σ r n (i + 1) (if u = 0 then 0 else if ρ (44 + 16 * r + i) = σ (44 + 16 * r + i) then 1 else 0)
theorem alF_0 {ρ σ : Nat → Int32} {r : Nat} : ∀ (n i : Nat), alF ρ σ r n i 0 = 0 := by
  intro n
  induction n with
  | zero => intro i; rfl
  | succ n ih => intro i; rw [alF, if_pos rfl]; exact ih (i + 1)
theorem alF_01 {ρ σ : Nat → Int32} {r : Nat} : ∀ (n i : Nat) (u : Int32), u = 0 ∨ u = 1 → alF ρ σ r n i u = 0 ∨ alF ρ σ r n i u = 1 := by
  intro n
  induction n with
  | zero => intro i u h; exact h
  | succ n ih =>
    intro i u h
    rw [alF]
    refine ih (i + 1) _ ?_
    split
    · exact Or.inl rfl
    · split
      · exact Or.inr rfl
      · exact Or.inl rfl
theorem al_M (hk : k < 2) {r : Nat} (hr : r < 10) : ∀ (n i : Nat) (u : Int32), i + n = 8 → L_X11_differ_177 (nI k) 259 (nI r) n i u B = some (alF (B.1 259) (fun i => B.1 261 (212 * k + i)) r n i u) := by
  intro n
  induction n with
  | zero => intro i u _; rfl
  | succ n ih =>
    intro i u hi
    rw [L_X11_differ_177, alF, bnd1_e (of_eq hr (by omega) rfl), ix212, show (44 : Int32) = nI 44 from rfl, show (16 : Int32) = nI 16 from rfl, nI_add, pk_mul, nI_add, nI_add, ck_nI (by omega) (by omega), nI_clamp (by omega), show 212 * k + 44 + 16 * r + i = 212 * k + (44 + 16 * r + i) by omega]
    by_cases c : u = 0
    · rw [if_pos c, if_pos c, bnd1_s]; exact ih (i + 1) _ (by omega)
    · rw [if_neg c, if_neg c]
      by_cases c2 : B.1 259 (44 + 16 * r + i) = B.1 261 (212 * k + (44 + 16 * r + i))
      · rw [if_pos c2, if_pos c2, bnd1_s]; exact ih (i + 1) _ (by omega)
      · rw [if_neg c2, if_neg c2, bnd1_s]; exact ih (i + 1) _ (by omega)
theorem al_key {a x r : Nat} {ρ σ : Nat → Int32} (h1 : ∀ i, i < 4 → A.1 (a + 1) i = ρ (44 + 16 * r + 4 + i)) (h2 : ∀ i, i < 4 → A.1 (x + 1) i = σ (44 + 16 * r + 4 + i)) : ∀ (n i : Nat) (u : Int32), i + n = 4 → F_X5_isLike_30 a x n i u A = alF ρ σ r n (4 + i) u := by
  intro n
  induction n with
  | zero => intro i u _; rw [F_X5_isLike_30, alF]
  | succ n ih =>
    intro i u hi
    have H := ih (i + 1) (if u = 0 then 0 else if ρ (44 + 16 * r + 4 + i) = σ (44 + 16 * r + 4 + i) then 1 else 0) (by omega)
    rw [show 4 + (i + 1) = 4 + i + 1 by omega] at H
    rw [F_X5_isLike_30, alF, at_eq (x := a + 1) rfl (show i < 4 by omega) (by decide), at_eq (x := x + 1) rfl (show i < 4 by omega) (by decide), h1 i (by omega), h2 i (by omega), show 44 + 16 * r + (4 + i) = 44 + 16 * r + 4 + i by omega]
    exact H
theorem al_6 {ρ σ : Nat → Int32} {r : Nat} {u : Int32} : alF ρ σ r 6 2 u = alF ρ σ r 4 (4 + 0) (if (if u = 0 then (0 : Int32) else if ρ (44 + 16 * r + 2) = σ (44 + 16 * r + 2) then 1 else 0) = 0 then 0 else if ρ (44 + 16 * r + 3) = σ (44 + 16 * r + 3) then 1 else 0) := by
  rw [alF, alF]
theorem like_5 {a x r : Nat} {ρ σ : Nat → Int32} (e1 : A.1 a 7 = ρ (44 + 16 * r + 2)) (e2 : A.1 x 7 = σ (44 + 16 * r + 2)) (e3 : A.1 a 8 = ρ (44 + 16 * r + 3)) (e4 : A.1 x 8 = σ (44 + 16 * r + 3)) (h1 : ∀ i, i < 4 → A.1 (a + 1) i = ρ (44 + 16 * r + 4 + i)) (h2 : ∀ i, i < 4 → A.1 (x + 1) i = σ (44 + 16 * r + 4 + i)) : V_X5_isLike a x A = alF ρ σ r 6 2 1 := by
  unfold V_X5_isLike
  rw [al_6, if_neg (show ¬ (1 : Int32) = 0 by decide), e1, e2, e3, e4, al_key h1 h2 4 0 _ rfl]
  by_cases c1 : ρ (44 + 16 * r + 2) = σ (44 + 16 * r + 2)
  · rw [if_pos c1, if_pos c1, if_neg (show ¬ (1 : Int32) = 0 by decide)]
  · rw [if_neg c1, if_neg c1, if_pos (rfl : (0 : Int32) = 0)]
theorem al_C (h1 : KP 122 t SV A (B.1 259)) (h2 : KP (182 + 30 * k) t' SV' A (fun i => B.1 261 (212 * k + i))) {r : Nat} (hr : r < 10) : V_X5_isLike (122 + 10 + 2 * r) (182 + 30 * k + 10 + 2 * r) A = alF (B.1 259) (fun i => B.1 261 (212 * k + i)) r 6 2 1 := by
  have x3 := (h1.2.2.2.1 r hr).2.2.1
  have y3 := (h2.2.2.2.1 r hr).2.2.1
  exact like_5 x3.1 y3.1 x3.2.1 y3.2.1 x3.2.2.1 y3.2.2.1
theorem like_rob (hk : k < 2) (h1 : KP 122 t SV A (B.1 259)) (h2 : KP (182 + 30 * k) t' SV' A (fun i => B.1 261 (212 * k + i))) : ∀ (n i : Nat) (u : Int32), i + n = 10 → u = 0 ∨ u = 1 → ∃ v, L_X2_difference_64 122 (182 + 30 * k) n i u A = some v ∧ L_X11_differ_168 (nI k) 259 n i u B = some v := by
  intro n
  induction n with
  | zero => intro i u _ _; exact ⟨u, rfl, rfl⟩
  | succ n ih =>
    intro i u hi hu
    rw [L_X2_difference_64, L_X11_differ_168, bnd1_e (al_M hk (show i < 10 by omega) 6 2 u rfl), al_C h1 h2 (show i < 10 by omega), bd1_s]
    have e : (if u = 0 then (0 : Int32) else (if alF (B.1 259) (fun i => B.1 261 (212 * k + i)) i 6 2 1 = 0 then (0 : Int32) else (1 : Int32))) = alF (B.1 259) (fun i => B.1 261 (212 * k + i)) i 6 2 u := by
      rcases hu with rfl | rfl
      · rw [if_pos rfl, alF_0]
      · rw [if_neg (show ¬ (1 : Int32) = 0 by decide)]
        rcases alF_01 (ρ := B.1 259) (σ := fun i => B.1 261 (212 * k + i)) (r := i) 6 2 1 (Or.inr rfl) with e | e <;> rw [e] <;> rfl
    rw [e]
    exact ih (i + 1) _ (by omega) (alF_01 6 2 u hu)
theorem like_01 {a x : Nat} : ∀ (n i : Nat) (u : Int32), u = 0 ∨ u = 1 → F_X0_isLike_4 a x n i u A = 0 ∨ F_X0_isLike_4 a x n i u A = 1 := by
  intro n
  induction n with
  | zero => intro i u h; exact h
  | succ n ih =>
    intro i u h
    rw [F_X0_isLike_4]
    refine ih (i + 1) _ ?_
    split
    · exact Or.inl rfl
    · split
      · exact Or.inr rfl
      · exact Or.inl rfl
end DF
theorem differ_S {x : Int32} : Sim K (fun M => R_X10_differ x M) (fun M => R_X11_differ x 259 M) := fun A B h => by
  show Out K A B (R_X10_differ x A) (R_X11_differ x 259 B)
  unfold R_X10_differ R_X11_differ
  rcases isPlace_c (A := A) (B := B) (x := x) with ⟨c1, c2⟩ | ⟨k, hk, rfl, c1, c2⟩
  · rw [if_pos c1, if_pos c2]; exact finB h
  rw [c1, c2, if_neg (show ¬ (1 : Int32) = 0 by decide), if_neg (show ¬ (1 : Int32) = 0 by decide)]
  rcases h.2.2.2.2.1.o with ⟨o1, o2⟩ | ⟨o1, o2, t, ht, hK⟩
  · rw [if_pos o1, if_pos o2]; exact finS h
  rw [if_neg o1, if_neg o2, ck_nI hk (by omega), ck_nI hk (by omega), nI_clamp (by omega), ix212, ck_nI (by omega) (by omega), nI_clamp (by omega)]
  rcases h.2.2.2.2.2.1.o hk with ⟨o1, o2⟩ | ⟨o1, o2, t', ht', hK'⟩
  · rw [if_pos o1, if_pos o2]; exact finN h
  rw [if_neg o1, if_neg o2]
  obtain ⟨z, e1, e2⟩ := cells_2 hk hK hK' 15 0
  unfold R_X2_difference
  rw [e1, e2]
  cases z with
  | inl v => exact same_out h
  | inr u =>
    have e3 : V_X0_isLike (122 + 4) (182 + 30 * k + 4) A = F_X0_isLike_4 126 (186 + 30 * k) 6 0 1 A := by
      unfold V_X0_isLike
      rw [show 182 + 30 * k + 4 = 186 + 30 * k by omega]
    have m3 := like_ball hk hK hK' 6 0 1 rfl
    obtain ⟨v, l1, l2⟩ := like_rob hk hK hK' 10 0 _ rfl (like_01 (A := A) (a := 126) (x := 186 + 30 * k) 6 0 1 (Or.inr rfl))
    rw [show toS B (Sum.inr u) = Sum.inr u from rfl, br1_r, br1_r]
    rw [bd1_s, e3, bnd1_e m3, bnd1_e l2, bnd1_e l1, bd1_s, bnd1_s, bd1_s]
    exact same_out h
end KPT
