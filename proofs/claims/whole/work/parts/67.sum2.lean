/-- s sums with k terms lie in program P's rows -/
def Cnt (P : Nat) (A : Mem) (s k : Nat) : Prop := A.1 P 13 = nI s ∧ A.1 P 15 = nI k ∧ A.1 (P + 10) s = nI k ∧ s ≤ k ∧ k ≤ 400
/-- what lay in the rows of sums and terms lies there still -/
def RwS (P s k : Nat) (A A' : Mem) : Prop := (∀ d, P + 11 ≤ d → d < P + 15 → ∀ x, x < k → A'.1 d x = A.1 d x) ∧ ∀ x, x ≤ s → A'.1 (P + 10) x = A.1 (P + 10) x
theorem RwS.rf {P s k : Nat} {A : Mem} : RwS P s k A A := ⟨fun _ _ _ _ _ => rfl, fun _ _ => rfl⟩
theorem RwS.tr {P s k s' k' : Nat} {A A1 A' : Mem} (h : RwS P s k A A1) (g : RwS P s' k' A1 A') (hs : s ≤ s') (hk : k ≤ k') : RwS P s k A A' := ⟨fun d p1 p2 x hx => (g.1 d p1 p2 x (by omega)).trans (h.1 d p1 p2 x hx), fun x hx => (g.2 x (by omega)).trans (h.2 x hx)⟩
/-- sum n lies in the rows, below s sums and k terms -/
def SmK (A : Mem) (P s k n : Nat) (sm : Sm) : Prop := n + 1 ≤ s ∧ n < 400 ∧ ∃ i0, A.1 (P + 10) n = nI i0 ∧ A.1 (P + 10) (n + 1) = nI (i0 + sm.length) ∧ i0 + sm.length ≤ k ∧ ∀ j t, sm[j]? = some t → TmC A P (i0 + j) t
theorem SmK.rw {P s k s' k' n : Nat} {sm : Sm} {A A' : Mem} (h : SmK A P s k n sm) (g : RwS P s k A A') (hs : s ≤ s') (hk : k ≤ k') : SmK A' P s' k' n sm := by
  obtain ⟨h0, h1, i0, h2, h3, h4, h5⟩ := h
  refine ⟨by omega, h1, i0, by rw [g.2 n (by omega)]; exact h2, by rw [g.2 _ h0]; exact h3, by omega, fun j t e => ?_⟩
  have hj : j < sm.length := by
    obtain ⟨q, _⟩ := List.getElem?_eq_some_iff.mp e
    exact q
  obtain ⟨t1, t2, t3, t4⟩ := h5 j t e
  exact ⟨(g.1 _ (by omega) (by omega) _ (by omega)).trans t1, (g.1 _ (by omega) (by omega) _ (by omega)).trans t2, (g.1 _ (by omega) (by omega) _ (by omega)).trans t3, (g.1 _ (by omega) (by omega) _ (by omega)).trans t4⟩
theorem SmK.c {P s k n : Nat} {sm : Sm} {A : Mem} (h : SmK A P s k n sm) (hk : k ≤ 400) : SmC A P n sm := by
  obtain ⟨h0, h1, i0, h2, h3, h4, h5⟩ := h
  exact ⟨h1, i0, h2, h3, by omega, h5⟩
theorem closeSum_F {P : Nat} {A : Mem} (hP : 16 ≤ P) : FrT P A (U_X3_closeSum P A) ∧ (U_X3_closeSum P A).1 2 = A.1 2 := by
  unfold U_X3_closeSum
  exact ⟨(FrT.ct hP (Or.inl rfl)).tr (FrT.put hP (by omega)), by rw [put_d (by omega), fI (by omega)]⟩
theorem closeSum_C {P s : Nat} {A : Mem} (hs : s < 400) (h13 : A.1 P 13 = nI s) : U_X3_closeSum P A = setI (setI A P 13 (nI (s + 1))) (P + 10) (s + 1) (A.1 P 15) := by
  unfold U_X3_closeSum
  rw [h13, nI_1, put_eq (x := P + 10) (k := s + 1) rfl (by omega) (by decide)]
theorem sum_F {P p : Nat} {A : Mem} (hP : 16 ≤ P) (hp : p ≤ 800) (h : RdF A p) : ∃ A', R_X4_readSum 2 P A = some A' ∧ RdF A' p ∧ FrT P A A' := by
  obtain ⟨f, hf⟩ : ∃ f, FUEL = f + 1 := ⟨FUEL - 1, by unfold FUEL; omega⟩
  refine ⟨U_X3_closeSum P A, ?_, ?_, (closeSum_F hP).1⟩
  · unfold R_X4_readSum
    rw [hf, bnd1_e (sum8_F hp h)]
  · unfold RdF; rw [(closeSum_F hP).2]; exact h
/-- the class reads a sum -/
theorem sum_C {P i s k x : Nat} {ws : List Tk} {A : Mem} (hP : 16 ≤ P) (hE : EndW ws) (hI : Inc ws) (hW : WRow A ws) (hR : RdI A i) (hi : i < ws.length) (hC : Cnt P A s k) (hB : Bd ws i x) (hx : 2 * k ≤ x) :
    (∃ l i' A' k', pSum 12 32 (ws.drop i) = .inl (l, ws.drop i') ∧ i < i' ∧ i' < ws.length ∧ R_X4_readSum 2 P A = some A' ∧ RdI A' i' ∧ FrT P A A' ∧ SmK A' P (s + 1) k' s l ∧ Cnt P A' (s + 1) k' ∧ k ≤ k' ∧ RwS P s k A A' ∧ Bd ws i' (x + 2 * (k' - k) - 1) ∧ k < k') ∨
    (∃ p A', pSum 12 32 (ws.drop i) = .inr p ∧ p ≤ 800 ∧ R_X4_readSum 2 P A = some A' ∧ RdF A' p ∧ FrT P A A') := by
  obtain ⟨c1, c2, c3, c4, c5⟩ := hC
  have H := sum_loopC hP hE hI 12 i 32 0 k x FUEL A rfl (by unfold FUEL; omega) hW hR hi c2 hB hx
  rw [show nI 32 = (32 : Int32) from rfl, show nI 0 = (0 : Int32) from rfl] at H
  unfold R_X4_readSum
  rcases H with ⟨l, i', A', g1, g2, g3, g4, g5, g6, g7, g8, g9, g10, g11, g12⟩ | ⟨p, A', g1, g2, g3, g4, g5⟩
  · left
    have h13 : A'.1 P 13 = nI s := g9.2.2.trans c1
    have eC := closeSum_C (A := A') (P := P) (s := s) (by omega) h13
    have cl := closeSum_F (A := A') hP
    refine ⟨l, i', U_X3_closeSum P A', k + l.length, g1, g2, g3, by rw [bnd1_e g4], ⟨by rw [cl.2]; exact g5.1, by rw [cl.2]; exact g5.2⟩, g6.tr cl.1, ?_, ?_, by omega, ?_, g10.le (by omega), by omega⟩
    · rw [eC]
      refine ⟨Nat.le_refl _, by omega, k, ?_, ?_, Nat.le_refl _, fun m t e => ?_⟩
      · rw [gI (Or.inr (by omega)), gI (Or.inl (by omega)), g9.2.1]; exact c3
      · rw [gs_eI]; exact g8
      · obtain ⟨t1, t2, t3, t4⟩ := g7 m t e
        refine ⟨?_, ?_, ?_, ?_⟩
        · rw [gI (Or.inl (by omega)), gI (Or.inl (by omega))]; exact t1
        · rw [gI (Or.inl (by omega)), gI (Or.inl (by omega))]; exact t2
        · rw [gI (Or.inl (by omega)), gI (Or.inl (by omega))]; exact t3
        · rw [gI (Or.inl (by omega)), gI (Or.inl (by omega))]; exact t4
    · rw [eC]
      refine ⟨by rw [gI (Or.inl (by omega)), gs_eI], by rw [gI (Or.inl (by omega)), gI (Or.inr (by decide))]; exact g8, by rw [gs_eI]; exact g8, by omega, g11⟩
    · rw [eC]
      refine ⟨fun d p1 p2 z hz => ?_, fun z hz => ?_⟩
      · rw [gI (Or.inl (by omega)), gI (Or.inl (by omega))]; exact g9.1 d p1 p2 z hz
      · rw [gI (Or.inr (by omega)), gI (Or.inl (by omega)), g9.2.1]
  · right
    have cl := closeSum_F (A := A') hP
    refine ⟨p, U_X3_closeSum P A', g1, g2, by rw [bnd1_e g3], ?_, g5.tr cl.1⟩
    unfold RdF; rw [cl.2]; exact g4
