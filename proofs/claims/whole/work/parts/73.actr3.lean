def acV (pa : PA) : Int64 := if pa.1 = 3 then Int64.ofNat (pkN 32 pa.2.1) else Int64.ofNat pa.2.2.1
/-- act i lies in the rows -/
def AcK (A : Mem) (P s k i : Nat) (pa : PA) : Prop := A.1 (P + 7) i = nI pa.1 ∧ A.2 (P + 8) i = acV pa ∧ ∃ n, A.1 (P + 9) i = nI n ∧ ∀ m sm, pa.2.2.2[m]? = some sm → SmK A P s k (n + m) sm
/-- what lay in the rows of acts lies there still -/
def RwC (P a : Nat) (A A' : Mem) : Prop := ∀ x, x < a → A'.1 (P + 7) x = A.1 (P + 7) x ∧ A'.2 (P + 8) x = A.2 (P + 8) x ∧ A'.1 (P + 9) x = A.1 (P + 9) x
theorem RwC.tr {P a a' : Nat} {A A1 A' : Mem} (h : RwC P a A A1) (g : RwC P a' A1 A') (ha : a ≤ a') : RwC P a A A' := fun x hx => ⟨(g x (by omega)).1.trans (h x hx).1, (g x (by omega)).2.1.trans (h x hx).2.1, (g x (by omega)).2.2.trans (h x hx).2.2⟩
theorem FrQ.rc {P a : Nat} {A A' : Mem} (h : FrQ P A A') (hP : 16 ≤ P) : RwC P a A A' := fun x _ => ⟨by rw [h.1 _ (by omega) (by omega) (by omega) (by omega) (by omega)], by rw [h.2.2.2.1 _ (by omega)], by rw [h.1 _ (by omega) (by omega) (by omega) (by omega) (by omega)]⟩
theorem AcK.rw {P s k s' k' a i : Nat} {pa : PA} {A A' : Mem} (h : AcK A P s k i pa) (hi : i < a) (g : RwS P s k A A') (gc : RwC P a A A') (hs : s ≤ s') (hk : k ≤ k') : AcK A' P s' k' i pa := by
  obtain ⟨h1, h2, n, h3, h4⟩ := h
  exact ⟨by rw [(gc i hi).1]; exact h1, by rw [(gc i hi).2.1]; exact h2, n, by rw [(gc i hi).2.2]; exact h3, fun m sm e => (h4 m sm e).rw g hs hk⟩
theorem actEnd_C {P i s k q a x w5 kd tg : Nat} {nm : List Nat} {w3 : Int64} {ws : List Tk} {A : Mem} (hP : 16 ≤ P) (hE : EndW ws) (hI : Inc ws) (h5 : w5 < 10) (hw3 : w3 = acV (kd, nm, tg, [])) (hW : WRow A ws) (hR : RdI A i) (hi : i < ws.length) (hC : Cnt P A s k) (ha : a < 400) (h9 : A.1 P 9 = nI a) (hB : Bd ws i x) (hx : 2 * k + w5 ≤ x + 1) :
    (∃ pa i' A' k', (pthen (pSums w5 (ws.drop i)) fun l ts => pthen (pWord 35 35 ts) fun _ ts => .inl ((kd, nm, tg, l), ts)) = (.inl (pa, ws.drop i') : PR PA) ∧ i < i' ∧ i' < ws.length ∧ bnd1 (L_X4_readAct_88 2 P (nI kd) w3 (nI w5) FUEL 0 A) (fun M18 => bnd2 (R_X4_take 2 35 35 M18) (fun v19 M19 => bnd1 (R_X3_addAct P (nI kd) w3 (nI w5) M19) (fun M20 => some M20))) = some A' ∧ RdI A' i' ∧ FrC P A A' ∧ AcK A' P (s + w5) k' a pa ∧ pa.1 = kd ∧ pa.2.1 = nm ∧ pa.2.2.1 = tg ∧ pa.2.2.2.length = w5 ∧ Cnt P A' (s + w5) k' ∧ A'.1 P 9 = nI (a + 1) ∧ A'.1 P 6 = A.1 P 6 ∧ RwS P s k A A' ∧ RwQ P q A A' ∧ RwC P a A A' ∧ k ≤ k' ∧ Bd ws i' (x + 2 * (k' - k) - w5 + 1)) ∨
    (∃ p A', (pthen (pSums w5 (ws.drop i)) fun l ts => pthen (pWord 35 35 ts) fun _ ts => .inl ((kd, nm, tg, l), ts)) = (.inr p : PR PA) ∧ p ≤ 800 ∧ bnd1 (L_X4_readAct_88 2 P (nI kd) w3 (nI w5) FUEL 0 A) (fun M18 => bnd2 (R_X4_take 2 35 35 M18) (fun v19 M19 => bnd1 (R_X3_addAct P (nI kd) w3 (nI w5) M19) (fun M20 => some M20))) = some A' ∧ RdF A' p ∧ FrC P A A' ∧ ∃ a', a' ≤ a + 1 ∧ A'.1 P 9 = nI a') := by
  have H := sums_C (w2 := nI kd) (w3 := w3) hP hE hI h5 w5 0 FUEL i s k x A (by omega) (by unfold FUEL; omega) hW hR hi hC hB hx
  rw [show nI 0 = (0 : Int32) from rfl] at H
  rcases H with ⟨l, i1, A1, k1, g1, g2, g3, g4, g5, g6, g7, g8, g9, g10, g11, g12⟩ | ⟨p, A1, g1, g2, g3, g4, g5⟩
  · rw [g1, bnd1_e g4]
    dsimp only [pthen]
    have W1 := hW.cg hP g6
    have h9' : A1.1 P 9 = nI a := (g6.2.2.1 9 (by decide) (by decide)).trans h9
    obtain ⟨u, eu⟩ := get_lt g3
    obtain ⟨w1, w2, w3', w4, _, _⟩ := W1.2 i1 u eu
    have T := take_C (x1 := 35) (x2 := 35) (k1 := 35) (k2 := 35) W1 eu g5 rfl rfl (by decide) (by decide)
    rw [drop_c eu]
    dsimp only [pWord]
    by_cases c : 35 ≤ u.1 ∧ u.1 ≤ 35
    · left
      rw [if_pos c] at T ⊢
      dsimp only
      have hn := hE i1 u eu (by omega)
      have FT := FrT.tk (A := A1) (i := i1) hP
      have t9 : (tkC A1 i1).1 P 9 = nI a := by rw [tkC_d (by omega)]; exact h9'
      have t13 : (tkC A1 i1).1 P 13 = nI (s + w5) := by rw [tkC_d (by omega)]; exact g9.1
      have eA := addAct_C (x1 := nI kd) (x2 := w3) (x3 := nI w5) ha t9
      rw [t13, pk_sub (by omega), show s + w5 - w5 = s by omega] at eA
      obtain ⟨A', hA'⟩ : ∃ X, X = acA P a (nI kd) w3 (nI s) (tkC A1 i1) := ⟨_, rfl⟩
      rw [← hA'] at eA
      have aF := acA_F (a := a) (x1 := nI kd) (v := nI s) (x2 := w3) (A := tkC A1 i1) hP
      rw [← hA'] at aF
      have dA : ∀ d, d ≠ P + 7 → d ≠ P + 9 → d ≠ P → d ≠ 2 → A'.1 d = A1.1 d := fun d p1 p2 p3 p4 => by rw [hA', acA_d p1 p2 p3, tkC_d p4]
      have rS : ∀ s k, RwS P s k A1 A' := fun s k => RwS.d (fun d p1 p2 => dA d (by omega) (by omega) (by omega) (by omega))
      have dP : ∀ j, j ≠ 9 → A'.1 P j = A1.1 P j := fun j hj => by rw [hA', acA_P hj, tkC_d (by omega)]
      have FA := g6.tr FT
      have l1 := ln_pos (t := u)
      refine ⟨_, i1 + 1, A', k1, rfl, by omega, hn, by rw [bnd2_e T, bnd1_e eA], g5.t.c aF.2, FA.q.c.tr aF.1, ⟨?_, ?_, s, ?_, fun m sm e => (g8 m sm e).rw (rS _ _) (Nat.le_refl _) (Nat.le_refl _)⟩, rfl, rfl, rfl, g7, g9.c (dP 13 (by decide)) (dP 15 (by decide)) (dA _ (by omega) (by omega) (by omega) (by omega)), ?_, ?_, g10.tr (rS s k) (Nat.le_refl _) (Nat.le_refl _), ?_, ?_, g11, (g12.st hI eu).le (by omega)⟩
      · rw [hA']
        unfold acA
        rw [gI (Or.inl (by omega)), gI (Or.inl (by omega))]
        show (setI (tkC A1 i1) (P + 7) a (nI kd)).1 (P + 7) a = nI kd
        exact gs_eI
      · rw [hA']
        show (setJ (setI (tkC A1 i1) (P + 7) a (nI kd)) (P + 8) a w3).2 (P + 8) a = _
        rw [hw3]
        unfold setJ
        exact if_pos (And.intro rfl rfl)
      · rw [hA']
        unfold acA
        rw [gI (Or.inl (by omega)), gs_eI]
      · rw [hA']
        unfold acA
        exact gs_eI
      · rw [dP 6 (by decide)]; exact g6.2.2.1 6 (by decide) (by decide)
      · intro z hz
        have := FA.rq (q := q) hP z hz
        rw [dA (P + 5) (by omega) (by omega) (by omega) (by omega), dA (P + 6) (by omega) (by omega) (by omega) (by omega)]
        rw [tkC_d (by omega), tkC_d (by omega)] at this
        exact this
      · intro z hz
        have := FA.q.rc (a := a) hP z hz
        rw [hA']
        refine ⟨?_, ?_, ?_⟩
        · rw [← this.1]
          unfold acA
          rw [gI (Or.inl (by omega)), gI (Or.inl (by omega))]
          show (setI (tkC A1 i1) (P + 7) a (nI kd)).1 (P + 7) z = _
          rw [gI (Or.inr (by omega))]
        · rw [← this.2.1]
          show (setJ (setI (tkC A1 i1) (P + 7) a (nI kd)) (P + 8) a w3).2 (P + 8) z = _
          rw [gJ (Or.inr (by omega))]; rfl
        · rw [← this.2.2]
          unfold acA
          rw [gI (Or.inl (by omega)), gI (Or.inr (by omega))]
          show (setI (tkC A1 i1) (P + 7) a (nI kd)).1 (P + 9) z = _
          rw [gI (Or.inl (by omega))]
    · right
      rw [if_neg c] at T ⊢
      have F := RdF.s (A := A1) (p := u.2.2.2)
      obtain ⟨A', y1, y2, y3, y4⟩ := addAct_F (a := a) (x1 := nI kd) (x2 := w3) (x3 := nI w5) (A := setI A1 2 9 (nI u.2.2.2)) hP (by omega) (by rw [gI (Or.inl (by omega))]; exact h9')
      exact ⟨_, A', rfl, w4, by rw [bnd2_e T, bnd1_e y1], F.c y3, ((g6.tr (FrT.rd hP (Or.inr rfl))).q.c).tr y2, y4⟩
  · right
    rw [g1, bnd1_e g3]
    have h9' : A1.1 P 9 = nI a := (g5.2.2.1 9 (by decide) (by decide)).trans h9
    obtain ⟨A', y1, y2, y3, y4⟩ := addAct_F (a := a) (x1 := nI kd) (x2 := w3) (x3 := nI w5) (A := A1) hP (by omega) h9'
    exact ⟨p, A', rfl, g2, by rw [bnd2_e (take_F g2 g4), bnd1_e y1], g4.c y3, g5.q.c.tr y2, y4⟩
