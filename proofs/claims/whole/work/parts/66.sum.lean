/-! ===== the class reads a sum ===== -/
def ln (t : Tk) : Nat := if t.2.1.length = 0 then 1 else t.2.1.length
theorem ln_pos {t : Tk} : 1 ≤ ln t := by unfold ln; split <;> omega
/-- a word begins behind the end of the one before -/
def Inc (ws : List Tk) : Prop := ∀ i t u, ws[i]? = some t → ws[i + 1]? = some u → t.2.2.2 + ln t ≤ u.2.2.2
def Bd (ws : List Tk) (i x : Nat) : Prop := ∀ t, ws[i]? = some t → x ≤ t.2.2.2
theorem Bd.st {ws : List Tk} {i x : Nat} {t : Tk} (hI : Inc ws) (h : Bd ws i x) (e : ws[i]? = some t) : Bd ws (i + 1) (x + ln t) := by
  intro u eu
  have := hI i t u e eu
  have := h t e
  omega
theorem Bd.mono {ws : List Tk} {i x : Nat} (hI : Inc ws) (h : Bd ws i x) : ∀ (n : Nat), i + n < ws.length → Bd ws (i + n) (x + n) := by
  intro n
  induction n with
  | zero => intro _; exact h
  | succ n ih =>
    intro hn
    obtain ⟨t, e⟩ := get_lt (ws := ws) (i := i + n) (by omega)
    have := (ih (by omega)).st hI e
    intro u eu
    have := this u (by rw [show i + n + 1 = i + (n + 1) by omega]; exact eu)
    have := ln_pos (t := t)
    omega
theorem Bd.lt {ws : List Tk} {i i' x : Nat} (hI : Inc ws) (h : Bd ws i x) (h1 : i < i') (h2 : i' < ws.length) : Bd ws i' (x + 1) := by
  have := h.mono hI (i' - i) (by omega)
  rw [show i + (i' - i) = i' by omega] at this
  intro t e
  have := this t e
  omega
theorem Bd.le {ws : List Tk} {i x y : Nat} (h : Bd ws i x) (hy : y ≤ x) : Bd ws i y := fun t e => by have := h t e; omega
theorem Bd.k {ws : List Tk} {i x k : Nat} {A : Mem} (hI : Inc ws) (hE : EndW ws) (hW : WRow A ws) (h : Bd ws i x) (hk : 2 * k ≤ x) : ∀ t, ws[i]? = some t → t.1 ≤ 35 → k < 400 := by
  intro t e ht
  obtain ⟨u, eu⟩ := get_lt (hE i t e ht)
  have h1 := h t e
  have h2 := hI i t u e eu
  have h3 := (hW.2 _ u eu).2.2.2.1
  have := ln_pos (t := t)
  omega
theorem RwT.tr {P k k' : Nat} {A A1 A' : Mem} (h : RwT P k A A1) (g : RwT P k' A1 A') (hk : k ≤ k') : RwT P k A A' := ⟨fun d p1 p2 x hx => (g.1 d p1 p2 x (by omega)).trans (h.1 d p1 p2 x hx), g.2.1.trans h.2.1, g.2.2.trans h.2.2⟩
theorem sum8_F {P p f : Nat} {u2 u3 u4 : Int32} {A : Mem} (hp : p ≤ 800) (h : RdF A p) : L_X4_readSum_8 2 P (f + 1) u2 u3 u4 A = some A := by
  rw [L_X4_readSum_8, h, if_pos (nI_pos' (by omega))]
  split <;> rfl
theorem sum8_A {P p f : Nat} {u2 u4 : Int32} {A : Mem} (hp : p ≤ 800) (h : RdF A p) : (bd1 (if (V_X4_kind 2 A) < (32 : Int32) then (0 : Int32) else (if (34 : Int32) < (V_X4_kind 2 A) then (0 : Int32) else (1 : Int32))) (fun v8_0 => bnd2 (if v8_0 = 0 then (some (u2, A)) else (bnd2 (R_X4_take 2 (32 : Int32) (34 : Int32) A) (fun v13 M13 => (some (v13, M13))))) (fun v12_0 M12 => L_X4_readSum_8 2 P (f + 1) v12_0 v8_0 u4 M12))) = some A := by
  rw [bd1_s]
  generalize (if (V_X4_kind 2 A) < (32 : Int32) then (0 : Int32) else (if (34 : Int32) < (V_X4_kind 2 A) then (0 : Int32) else (1 : Int32))) = v
  by_cases c : v = 0
  · rw [if_pos c, bnd2_s]; exact sum8_F hp h
  · rw [if_neg c, bnd2_e (take_F hp h), bnd2_s]; exact sum8_F hp h
theorem sum_loopC {P : Nat} {ws : List Tk} (hP : 16 ≤ P) (hE : EndW ws) (hI : Inc ws) : ∀ (g i j c k x f : Nat) (A : Mem), g + c = 12 → g + 1 < f → WRow A ws → RdI A i → i < ws.length → A.1 P 15 = nI k → Bd ws i x → 2 * k ≤ x →
    (∃ l i' A', pSum g j (ws.drop i) = .inl (l, ws.drop i') ∧ i < i' ∧ i' < ws.length ∧ L_X4_readSum_8 2 P f (nI j) 1 (nI c) A = some A' ∧ RdI A' i' ∧ FrT P A A' ∧ (∀ m t, l[m]? = some t → TmC A' P (k + m) t) ∧ A'.1 P 15 = nI (k + l.length) ∧ RwT P k A A' ∧ Bd ws i' (x + 2 * l.length - 1) ∧ k + l.length ≤ 400 ∧ 0 < l.length) ∨
    (∃ p A', pSum g j (ws.drop i) = .inr p ∧ p ≤ 800 ∧ L_X4_readSum_8 2 P f (nI j) 1 (nI c) A = some A' ∧ RdF A' p ∧ FrT P A A') := by
  intro g
  induction g with
  | zero =>
    intro i j c k x f A hc hf hW hR hi h15 hB hx
    obtain ⟨f, rfl⟩ : ∃ m, f = m + 1 := ⟨f - 1, by omega⟩
    obtain ⟨f, rfl⟩ : ∃ m, f = m + 1 := ⟨f - 1, by omega⟩
    have hc12 : c = 12 := by omega
    subst hc12
    right
    obtain ⟨t, e⟩ := get_lt hi
    have w4 := (hW.2 i t e).2.2.2.1
    have F := RdF.s (A := A) (p := t.2.2.2)
    obtain ⟨A', q1, q2, q3⟩ := term_F (x2 := nI j) hP w4 F
    refine ⟨t.2.2.2, A', by rw [drop_c e]; rfl, w4, ?_, q2, (FrT.rd hP (Or.inr rfl)).tr q3⟩
    rw [L_X4_readSum_8, if_neg (by decide), hR.2, if_neg m1_nle, if_neg n10, if_pos (by decide), bd1_s, refuse_C hW e hR, bnd1_e q1]
    exact sum8_A w4 q2
  | succ g ih =>
    intro i j c k x f A hc hf hW hR hi h15 hB hx
    obtain ⟨f, rfl⟩ : ∃ m, f = m + 1 := ⟨f - 1, by omega⟩
    have n12 : ¬ nI c = (12 : Int32) := fun q => by
      have := (nI_eq (by omega) (by decide)).mp (q.trans (show (12 : Int32) = nI 12 from rfl))
      omega
    have L1 : L_X4_readSum_8 2 P (f + 1) (nI j) 1 (nI c) A = bnd1 (R_X4_readTerm 2 P (nI j) A) (fun M6 => bd1 (if (V_X4_kind 2 M6) < (32 : Int32) then (0 : Int32) else (if (34 : Int32) < (V_X4_kind 2 M6) then (0 : Int32) else (1 : Int32))) (fun v8_0 => bnd2 (if v8_0 = 0 then (some (nI j, M6)) else (bnd2 (R_X4_take 2 (32 : Int32) (34 : Int32) M6) (fun v13 M13 => (some (v13, M13))))) (fun v12_0 M12 => L_X4_readSum_8 2 P f v12_0 v8_0 (nI c + 1) M12))) := by
      rw [L_X4_readSum_8, if_neg (show ¬ (12 : Int32) < nI c from nI_nlt (a := 12) (b := c) (by omega) (by decide)), hR.2, if_neg m1_nle, if_neg n10, if_neg n12, bd1_s]
    rw [L1, pSum]
    obtain ⟨f, rfl⟩ : ∃ m, f = m + 1 := ⟨f - 1, by omega⟩
    rcases term_C hP hE hW hR hi h15 (hB.k hI hE hW hx) rfl with ⟨t, i1, A1, g1, g2, g3, g4, g5, g6, g7, g8, g9⟩ | ⟨p, A1, g1, g2, g3, g4, g5⟩
    · rw [g1, bnd1_e g4]
      dsimp only [pthen]
      have W1 := hW.cg hP g6
      obtain ⟨u, eu⟩ := get_lt g3
      obtain ⟨w1, w2, w3, w4, w5, w6⟩ := W1.2 i1 u eu
      have B1 := hB.lt hI g2 g3
      have hd : kd0 (ws.drop i1) = u.1 := by rw [drop_c eu]; rfl
      have k399 : k < 400 := by
        obtain ⟨t0, e0⟩ := get_lt hi
        by_cases c0 : t0.1 ≤ 35
        · exact hB.k hI hE hW hx t0 e0 c0
        · have h1 := hB t0 e0
          obtain ⟨t1, e1⟩ := get_lt (ws := ws) (i := i + 1) (by omega)
          have h2 := hI i t0 t1 e0 e1
          have h3 := (hW.2 _ t1 e1).2.2.2.1
          have := ln_pos (t := t0)
          omega
      rw [hd, kind_C W1 eu g5.1]
      by_cases c1 : 32 ≤ u.1 ∧ u.1 ≤ 34
      · rw [if_pos c1, if_neg (show ¬ nI u.1 < (32 : Int32) from nltL (y := 32) 32 c1.1 rfl (by omega)), if_neg (show ¬ (34 : Int32) < nI u.1 from nI_nlt (a := 34) (by omega) (by decide)), bd1_s, if_neg n10]
        have T := take_C (x1 := 32) (x2 := 34) (k1 := 32) (k2 := 34) W1 eu g5 rfl rfl (by decide) (by decide)
        rw [if_pos c1] at T
        rw [bnd2_e T, bnd2_s, nI_1, show (ws.drop i1).tail = ws.drop (i1 + 1) by rw [drop_c eu]; rfl]
        have FT := FrT.tk (A := A1) (i := i1) hP
        have hn := hE i1 u eu (by omega)
        have B2 := B1.st hI eu
        have l1 := ln_pos (t := u)
        rcases ih (i1 + 1) u.1 (c + 1) (k + 1) (x + 1 + ln u) (f + 1) (tkC A1 i1) (by omega) (by omega) (W1.cg hP FT) g5.t hn (by rw [tkC_d (by omega)]; exact g8) B2 (by omega) with ⟨l, i', A', y1, y2, y3, y4, y5, y6, y7, y8, y9, y10, y11, y12⟩ | ⟨p, A', y1, y2, y3, y4, y5⟩
        · left
          rw [y1]
          dsimp only
          have RT : RwT P k A (tkC A1 i1) := ⟨fun d p1 p2 z hz => by rw [tkC_d (by omega)]; exact g9.1 d p1 p2 z hz, by rw [tkC_d (by omega)]; exact g9.2.1, by rw [tkC_d (by omega)]; exact g9.2.2⟩
          refine ⟨t :: l, i', A', rfl, by omega, y3, y4, y5, (g6.tr FT).tr y6, ?_, ?_, RT.tr y9 (by omega), ?_, ?_, Nat.succ_pos _⟩
          · intro m t' em
            cases m with
            | zero =>
              have : t = t' := Option.some.inj em
              subst this
              obtain ⟨z1, z2, z3, z4⟩ := g7
              have zz : ∀ d, P + 11 ≤ d → d < P + 15 → A'.1 d (k + 0) = A1.1 d k := fun d p1 p2 => (y9.1 d p1 p2 k (by omega)).trans (by rw [tkC_d (by omega)])
              exact ⟨(zz _ (by omega) (by omega)).trans z1, (zz _ (by omega) (by omega)).trans z2, (zz _ (by omega) (by omega)).trans z3, (zz _ (by omega) (by omega)).trans z4⟩
            | succ m =>
              have := y7 m t' em
              rw [show k + 1 + m = k + (m + 1) by omega] at this
              exact this
          · rw [y8, List.length_cons, show k + 1 + l.length = k + (l.length + 1) by omega]
          · rw [List.length_cons]; exact y10.le (by omega)
          · rw [List.length_cons]; omega
        · right
          rw [y1]
          exact ⟨p, A', rfl, y2, y3, y4, (g6.tr FT).tr y5⟩
      · left
        rw [if_neg c1]
        have ev : (if nI u.1 < (32 : Int32) then (0 : Int32) else (if (34 : Int32) < nI u.1 then (0 : Int32) else (1 : Int32))) = 0 := by
          by_cases c2 : u.1 < 32
          · rw [if_pos (ltL (y := 32) 32 c2 rfl (by decide))]
          · rw [if_neg (nltL (y := 32) 32 (by omega) rfl (by omega)), if_pos (show (34 : Int32) < nI u.1 from nI_lt (a := 34) (by omega) (by omega))]
        rw [ev, bd1_s, if_pos rfl, bnd2_s]
        have L2 : L_X4_readSum_8 2 P (f + 1) (nI j) 0 (nI c + 1) A1 = some A1 := by
          rw [L_X4_readSum_8, g5.2, if_neg m1_nle, if_pos rfl]
          split <;> rfl
        refine ⟨[t], i1, A1, rfl, g2, g3, L2, g5, g6, ?_, g8, g9, B1, by rw [List.length_singleton]; omega, Nat.succ_pos _⟩
        intro m t' em
        cases m with
        | zero =>
          have : t = t' := Option.some.inj em
          subst this
          exact g7
        | succ m => cases em
    · right
      rw [g1, bnd1_e g3]
      exact ⟨p, A1, rfl, g2, sum8_A g2 g4, g4, g5⟩
