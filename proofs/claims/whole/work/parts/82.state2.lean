theorem b12 {α β γ δ : Type} {x : Option (α × β)} {f : α → β → Option γ} {g : γ → Option δ} : bnd1 (bnd2 x f) g = bnd2 x (fun a b => bnd1 (f a b) g) := by cases x <;> rfl
theorem b11 {α γ δ : Type} {x : Option α} {f : α → Option γ} {g : γ → Option δ} : bnd1 (bnd1 x f) g = bnd1 x (fun a => bnd1 (f a) g) := by cases x <;> rfl
def stE (P : Nat) (u2 : Int32) (M9 : Mem) : Option Mem := bnd2 (R_X4_take 2 27 27 M9) (fun _ M10 => bnd1 (L_X4_compile_91 2 P u2 FUEL 0 M10) (fun M17 => bnd2 (R_X4_take 2 28 28 M17) (fun _ M18 => some (U_X3_closeState P M18))))
def stB (P : Nat) (u2 : Int32) (M6 : Mem) : Option Mem := bnd2 (R_X4_take 2 0 0 M6) (fun _ M7 => bnd2 (R_X4_take 2 26 26 M7) (fun _ M8 => bnd1 (R_X3_openState P (M8.2 2 8) M8) (fun M9 => stE P u2 M9)))
theorem comp20 {P n : Nat} {u2 : Int32} {M : Mem} : L_X4_compile_20 2 P (n + 1) u2 M = if (8 : Int32) < u2 then (some M) else (if 0 ≤ (M.1 2 9) then (some M) else (if u2 = 0 then bnd1 (stB P u2 (if u2 = (8 : Int32) then (U_X4_refuse 2 M) else M)) (fun M' => L_X4_compile_20 2 P n (u2 + 1) M') else (if (V_X4_kind 2 M) = (37 : Int32) then (some M) else bnd1 (stB P u2 (if u2 = (8 : Int32) then (U_X4_refuse 2 M) else M)) (fun M' => L_X4_compile_20 2 P n (u2 + 1) M')))) := by
  rw [L_X4_compile_20]
  simp only [stB, stE, b12, b11, bd1_s, bnd1_s]
/-- what a state leaves alone -/
def FrS (P : Nat) (A A' : Mem) : Prop := (∀ d, d ≠ 2 → d ≠ P → ¬ (P + 2 ≤ d ∧ d < P + 15) → A'.1 d = A.1 d) ∧ (∀ j, j ≠ 7 → j ≠ 9 → A'.1 2 j = A.1 2 j) ∧ (∀ d, d ≠ 2 → d ≠ P + 1 → d ≠ P + 8 → A'.2 d = A.2 d) ∧ (∀ j, j ≠ 8 → A'.2 2 j = A.2 2 j)
theorem FrS.tr {P : Nat} {A A' A'' : Mem} (h : FrS P A A') (g : FrS P A' A'') : FrS P A A'' := ⟨fun d p1 p2 p3 => (g.1 d p1 p2 p3).trans (h.1 d p1 p2 p3), fun j p1 p2 => (g.2.1 j p1 p2).trans (h.2.1 j p1 p2), fun d p q r => (g.2.2.1 d p q r).trans (h.2.2.1 d p q r), fun j p => (g.2.2.2 j p).trans (h.2.2.2 j p)⟩
theorem FrL.s {P : Nat} {A A' : Mem} (h : FrL P A A') : FrS P A A' := ⟨fun d p1 p2 p3 => h.1 d p1 p2 (by omega), h.2.1, fun d p _ q => h.2.2.2.1 d p q, h.2.2.2.2⟩
theorem FrS.rf {P : Nat} {A : Mem} : FrS P A A := FrL.rf.s
theorem FrT.s {P : Nat} {A A' : Mem} (h : FrT P A A') : FrS P A A' := h.q.c.l.s
theorem WRow.cs {P : Nat} {A A' : Mem} {ts : List Tk} (h : WRow A ts) (hP : 16 ≤ P) (hF : FrS P A A') : WRow A' ts := by
  refine ⟨h.1, fun i t e => ?_⟩
  rw [hF.1 5 (by decide) (by omega) (by omega), hF.1 7 (by decide) (by omega) (by omega), hF.2.2.1 6 (by decide) (by omega) (by omega)]
  exact h.2 i t e
theorem FrS.op {P n : Nat} {x : Int64} {A : Mem} (hP : 16 ≤ P) : FrS P A (setJ A (P + 1) n x) := ⟨fun _ _ _ _ => rfl, fun _ _ _ => rfl, fun d _ p _ => fJ p, fun j _ => gJ (Or.inl (by omega))⟩
theorem closeState_F {P : Nat} {A : Mem} (hP : 16 ≤ P) : FrS P A (U_X3_closeState P A) ∧ (U_X3_closeState P A).1 2 = A.1 2 := by
  unfold U_X3_closeState U_X10_put
  dsimp only
  have F1 : FrS P A (setI A P 0 (A.1 P 0 + 1)) := ⟨fun e p1 p2 p3 => fI p2, fun k p1 p2 => gI (Or.inl (by omega)), fun _ _ _ _ => rfl, fun _ _ => rfl⟩
  have E1 : (setI A P 0 (A.1 P 0 + 1)).1 2 = A.1 2 := fI (by omega)
  split
  · exact ⟨F1, E1⟩
  · split
    · exact ⟨F1, E1⟩
    · refine ⟨F1.tr ⟨fun e p1 p2 p3 => fI (by omega), fun k p1 p2 => gI (Or.inl (by omega)), fun _ _ _ _ => rfl, fun _ _ => rfl⟩, ?_⟩
      rw [fI (by omega)]; exact E1
theorem stE_F {P p : Nat} {u2 : Int32} {A : Mem} (hp : p ≤ 800) (h : RdF A p) : stE P u2 A = some (U_X3_closeState P A) := by
  obtain ⟨f, hf⟩ : ∃ f, FUEL = f + 1 := ⟨FUEL - 1, by unfold FUEL; omega⟩
  unfold stE
  rw [hf, bnd2_e (take_F hp h), bnd1_e (rules_F hp h), bnd2_e (take_F hp h)]
theorem stO_F {P p n : Nat} {u2 : Int32} {x : Int64} {A : Mem} (hP : 16 ≤ P) (hp : p ≤ 800) (hn : n ≤ 8) (h0 : A.1 P 0 = nI n) (h : RdF A p) : ∃ A', bnd1 (R_X3_openState P x A) (fun M9 => stE P u2 M9) = some A' ∧ RdF A' p ∧ FrS P A A' := by
  obtain ⟨A1, g1, g2, g3⟩ := openState_F (x := x) hn h0
  have hF : RdF A1 p := h.c (by rw [g2])
  have cF := closeState_F (A := A1) hP
  refine ⟨_, by rw [bnd1_e g1]; exact stE_F hp hF, hF.c cF.2, FrS.tr ⟨fun d _ _ _ => by rw [g2], fun j _ _ => by rw [g2], fun d _ p _ => g3 d p, fun j _ => by rw [g3 2 (by omega)]⟩ cF.1⟩
theorem state_F {P p n : Nat} {u2 : Int32} {A : Mem} (hP : 16 ≤ P) (hp : p ≤ 800) (hn : n ≤ 8) (h0 : A.1 P 0 = nI n) (h : RdF A p) : ∃ A', stB P u2 A = some A' ∧ RdF A' p ∧ FrS P A A' := by
  unfold stB
  rw [bnd2_e (take_F hp h), bnd2_e (take_F hp h)]
  exact stO_F hP hp hn h0 h
/-- a state's name and rules, in the class's rows -/
def StK (A : Mem) (P s k q a r n : Nat) (ps : PS) : Prop := A.2 (P + 1) n = Int64.ofNat (pkN 32 ps.1) ∧ ∃ r0, A.1 (P + 2) n = nI r0 ∧ A.1 (P + 2) (n + 1) = nI (r0 + ps.2.length) ∧ r0 + ps.2.length ≤ r ∧ ∀ m pl, ps.2[m]? = some pl → RlK A P s k q a (r0 + m) pl
def RwN (P n : Nat) (A A' : Mem) : Prop := (∀ z, z ≤ n → A'.1 (P + 2) z = A.1 (P + 2) z) ∧ ∀ z, z < n → A'.2 (P + 1) z = A.2 (P + 1) z
theorem RwN.tr {P n n' : Nat} {A A1 A' : Mem} (h : RwN P n A A1) (g : RwN P n' A1 A') (hn : n ≤ n') : RwN P n A A' := ⟨fun z hz => (g.1 z (by omega)).trans (h.1 z hz), fun z hz => (g.2 z (by omega)).trans (h.2 z hz)⟩
theorem StK.rw {P s k q a r s' k' q' a' r' n N : Nat} {ps : PS} {A A' : Mem} (h : StK A P s k q a r n ps) (hN : n + 1 ≤ N) (g : RwS P s k A A') (gq : RwQ P q A A') (gc : RwC P a A A') (gl : RwL P r A A') (gn : RwN P N A A') (hs : s ≤ s') (hk : k ≤ k') (hq : q ≤ q') (ha : a ≤ a') (hr : r ≤ r') : StK A' P s' k' q' a' r' n ps := by
  obtain ⟨h1, r0, h2, h3, h4, h5⟩ := h
  refine ⟨by rw [gn.2 n (by omega)]; exact h1, r0, by rw [gn.1 n (by omega)]; exact h2, by rw [gn.1 (n + 1) hN]; exact h3, by omega, fun m pl e => ?_⟩
  have hm : m < ps.2.length := by
    obtain ⟨w, _⟩ := List.getElem?_eq_some_iff.mp e
    exact w
  exact (h5 m pl e).rw (R := r) (by omega) g gq gc gl hs hk hq ha
