/-! ===== which word some letters are, in the model ===== -/
def kM (k : Nat) : Nat := if k ≤ 8 then k + 10 else if k ≤ 12 then 5 else if k ≤ 16 then 3 else if k ≤ 24 then 4 else if k = 25 then 2 else if k = 26 then 1 else if k = 27 then 123 else if k = 28 then 125 else if k = 29 then 60 else if k = 30 then 61 else if k = 31 then 62 else if k = 32 then 43 else if k = 33 then 45 else if k = 34 then 42 else if k = 35 then 59 else if k = 36 then 6 else 0
def vK (k : Nat) : Nat := if k ≤ 8 then 0 else if k ≤ 12 then k - 9 else if k ≤ 16 then k - 13 else if k ≤ 24 then k - 17 else 0
def vM (t : Tk) : Nat := if t.1 = 25 then t.2.2.1 else vK t.1
theorem kw_at {l : List Nat} (h : kw l ≠ 26) : kn[kw l]? = some l := by
  rcases kwI_at (l := l) kn 0 with e | ⟨j, e1, e2⟩
  · exact absurd e h
  · have e3 : kw l = j := by unfold kw; omega
    rw [e3]; exact e1
theorem kwI_no {l : List Nat} : ∀ (ws : List (List Nat)) (i : Nat), i + ws.length ≤ 26 → kwI l ws i = 26 → ∀ w ∈ ws, w ≠ l := by
  intro ws
  induction ws with
  | nil => intro i _ _ w hw; cases hw
  | cons v ws ih =>
    intro i hi h w hw
    rw [List.length_cons] at hi
    rw [kwI] at h
    split at h
    · omega
    · rename_i c
      rcases List.mem_cons.mp hw with e | e
      · rw [e]; exact c
      · exact ih (i + 1) (by omega) h w e
theorem findWord_M {B : Mem} {l : List Nat} {mA : Nat} (hl : NmO l) (h0 : 0 < l.length) (hc : B.2 242 7 = Int64.ofNat (pkN 27 l)) (h6 : B.1 242 6 = 0) : R_X11_findWord mA B = some (setI (setI B 242 5 (nI (kM (kw l)))) 242 6 (nI (vK (kw l)))) := by
  have s6 : ∀ k, setI (setI B 242 5 k) 242 6 (nI 0) = setI B 242 5 k := fun k => setI_self (by rw [gI (Or.inr (by decide))]; exact h6)
  unfold R_X11_findWord
  rw [hc]
  by_cases c26 : kw l = 26
  · have no := kwI_no kn 0 (by decide) c26
    have ne : ∀ w ∈ kn, ¬ lg_cmp (Int64.ofNat (pkN 27 l)) (Int64.ofNat (pkN 27 w)) = 0 := fun w hw q => no w hw ((pk27_eq hl.1 hl.2 (kn_dg w hw).1 (by have := (kn_dg w hw).2.1; omega)).mp ((lg_cmp_eq _ _).mp q)).symm
    have five : 0 ≤ lg_cmp (Int64.ofNat (pkN 27 l)) (5 : Int64) := by
      rw [lg_cmp_ge]
      show lN 5 ≤ lN (pkN 27 l)
      rw [pk_lLE (by decide) (pk27_lt hl.1 hl.2)]
      refine Nat.le_of_not_lt (fun q => ?_)
      have one : ∀ d, 0 < d → d < 5 → [d] ∈ kn := by
        intro d h1 h2
        rcases (show d = 1 ∨ d = 2 ∨ d = 3 ∨ d = 4 by omega) with rfl | rfl | rfl | rfl <;> decide
      have e1 : pkN 27 [pkN 27 l] = pkN 27 l := by show 0 * 27 + pkN 27 l = pkN 27 l; omega
      have p0 : 0 < pkN 27 l := by
        refine Nat.pos_of_ne_zero (fun z => ?_)
        have := pkN_inj (b := 27) 12 l [] hl.2 hl.1 (fun d hd => by cases hd) z
        rw [this] at h0; exact absurd h0 (by decide)
      exact no [pkN 27 l] (one _ p0 q) (pkN_inj (b := 27) 12 l [pkN 27 l] hl.2 hl.1 (fun d hd => by rw [List.mem_singleton] at hd; omega) e1.symm).symm
    have eN : setI (setI B 242 5 (nI (kM 26))) 242 6 (nI (vK 26)) = setI B 242 5 1 := s6 _
    rw [if_neg (show ¬ lg_cmp (Int64.ofNat (pkN 27 l)) (10492313 : Int64) = 0 from ne [19, 20, 1, 20, 5] (by decide))]
    rw [if_neg (show ¬ lg_cmp (Int64.ofNat (pkN 27 l)) (458690 : Int64) = 0 from ne [23, 8, 5, 14] (by decide))]
    rw [if_neg (show ¬ lg_cmp (Int64.ofNat (pkN 27 l)) (1111 : Int64) = 0 from ne [1, 14, 4] (by decide))]
    rw [if_neg (show ¬ lg_cmp (Int64.ofNat (pkN 27 l)) (204 : Int64) = 0 from ne [7, 15] (by decide))]
    rw [if_neg (show ¬ lg_cmp (Int64.ofNat (pkN 27 l)) (14006 : Int64) = 0 from ne [19, 5, 20] (by decide))]
    rw [if_neg (show ¬ lg_cmp (Int64.ofNat (pkN 27 l)) (267413 : Int64) = 0 from ne [13, 15, 22, 5] (by decide))]
    rw [if_neg (show ¬ lg_cmp (Int64.ofNat (pkN 27 l)) (555 : Int64) = 0 from ne [20, 15] (by decide))]
    rw [if_neg (show ¬ lg_cmp (Int64.ofNat (pkN 27 l)) (223166 : Int64) = 0 from ne [11, 9, 3, 11] (by decide))]
    rw [if_neg (show ¬ lg_cmp (Int64.ofNat (pkN 27 l)) (388609 : Int64) = 0 from ne [19, 20, 1, 25] (by decide))]
    rw [if_pos five]
    rw [if_neg (show ¬ lg_cmp (Int64.ofNat (pkN 27 l)) (6943155 : Int64) = 0 from ne [13, 1, 20, 5, 24] (by decide))]
    rw [if_neg (show ¬ lg_cmp (Int64.ofNat (pkN 27 l)) (6943156 : Int64) = 0 from ne [13, 1, 20, 5, 25] (by decide))]
    rw [if_neg (show ¬ lg_cmp (Int64.ofNat (pkN 27 l)) (129192 : Int64) = 0 from ne [6, 15, 5, 24] (by decide))]
    rw [if_neg (show ¬ lg_cmp (Int64.ofNat (pkN 27 l)) (129193 : Int64) = 0 from ne [6, 15, 5, 25] (by decide))]
    rw [if_neg (show ¬ lg_cmp (Int64.ofNat (pkN 27 l)) (1091661 : Int64) = 0 from ne [2, 1, 12, 12, 24] (by decide))]
    rw [if_neg (show ¬ lg_cmp (Int64.ofNat (pkN 27 l)) (1091662 : Int64) = 0 from ne [2, 1, 12, 12, 25] (by decide))]
    rw [if_neg (show ¬ lg_cmp (Int64.ofNat (pkN 27 l)) (10176 : Int64) = 0 from ne [13, 25, 24] (by decide))]
    rw [if_neg (show ¬ lg_cmp (Int64.ofNat (pkN 27 l)) (10177 : Int64) = 0 from ne [13, 25, 25] (by decide))]
    rw [if_neg (show ¬ lg_cmp (Int64.ofNat (pkN 27 l)) (161437 : Int64) = 0 from ne [8, 5, 12, 4] (by decide))]
    rw [if_neg (show ¬ lg_cmp (Int64.ofNat (pkN 27 l)) (400313 : Int64) = 0 from ne [20, 9, 3, 11] (by decide))]
    rw [if_neg (show ¬ lg_cmp (Int64.ofNat (pkN 27 l)) (239872 : Int64) = 0 from ne [12, 5, 1, 4] (by decide))]
    rw [if_neg (show ¬ lg_cmp (Int64.ofNat (pkN 27 l)) (279252 : Int64) = 0 from ne [14, 5, 1, 18] (by decide))]
    rw [c26, eN]
  · have e := kw_at c26
    have hk := kw_le (l := l)
    have h25 := kw_no25 (l := l)
    obtain ⟨k, ek⟩ : ∃ k, k = kw l := ⟨_, rfl⟩
    rw [← ek] at e hk h25 c26 ⊢
    clear ek hl h0
    rcases (show k = 0 ∨ k = 1 ∨ k = 2 ∨ k = 3 ∨ k = 4 ∨ k = 5 ∨ k = 6 ∨ k = 7 ∨ k = 8 ∨ k = 9 ∨ k = 10 ∨ k = 11 ∨ k = 12 ∨ k = 13 ∨ k = 14 ∨ k = 15 ∨ k = 16 ∨ k = 17 ∨ k = 18 ∨ k = 19 ∨ k = 20 ∨ k = 21 ∨ k = 22 ∨ k = 23 ∨ k = 24 by omega) with rfl | rfl | rfl | rfl | rfl | rfl | rfl | rfl | rfl | rfl | rfl | rfl | rfl | rfl | rfl | rfl | rfl | rfl | rfl | rfl | rfl | rfl | rfl | rfl | rfl
    · have el : l = [19, 20, 1, 20, 5] := (Option.some.inj e).symm
      subst el
      have ec : Int64.ofNat (pkN 27 [19, 20, 1, 20, 5]) = (10492313 : Int64) := by decide
      rw [ec]
      rw [if_pos (by decide)]
      rw [show vK 0 = 0 from rfl, s6]
      rfl
    · have el : l = [23, 8, 5, 14] := (Option.some.inj e).symm
      subst el
      have ec : Int64.ofNat (pkN 27 [23, 8, 5, 14]) = (458690 : Int64) := by decide
      rw [ec]
      rw [if_neg (by decide), if_pos (by decide)]
      rw [show vK 1 = 0 from rfl, s6]
      rfl
    · have el : l = [1, 14, 4] := (Option.some.inj e).symm
      subst el
      have ec : Int64.ofNat (pkN 27 [1, 14, 4]) = (1111 : Int64) := by decide
      rw [ec]
      rw [if_neg (by decide), if_neg (by decide), if_pos (by decide)]
      rw [show vK 2 = 0 from rfl, s6]
      rfl
    · have el : l = [7, 15] := (Option.some.inj e).symm
      subst el
      have ec : Int64.ofNat (pkN 27 [7, 15]) = (204 : Int64) := by decide
      rw [ec]
      rw [if_neg (by decide), if_neg (by decide), if_neg (by decide), if_pos (by decide)]
      rw [show vK 3 = 0 from rfl, s6]
      rfl
    · have el : l = [19, 5, 20] := (Option.some.inj e).symm
      subst el
      have ec : Int64.ofNat (pkN 27 [19, 5, 20]) = (14006 : Int64) := by decide
      rw [ec]
      rw [if_neg (by decide), if_neg (by decide), if_neg (by decide), if_neg (by decide), if_pos (by decide)]
      rw [show vK 4 = 0 from rfl, s6]
      rfl
    · have el : l = [13, 15, 22, 5] := (Option.some.inj e).symm
      subst el
      have ec : Int64.ofNat (pkN 27 [13, 15, 22, 5]) = (267413 : Int64) := by decide
      rw [ec]
      rw [if_neg (by decide), if_neg (by decide), if_neg (by decide), if_neg (by decide), if_neg (by decide), if_pos (by decide)]
      rw [show vK 5 = 0 from rfl, s6]
      rfl
    · have el : l = [20, 15] := (Option.some.inj e).symm
      subst el
      have ec : Int64.ofNat (pkN 27 [20, 15]) = (555 : Int64) := by decide
      rw [ec]
      rw [if_neg (by decide), if_neg (by decide), if_neg (by decide), if_neg (by decide), if_neg (by decide), if_neg (by decide), if_pos (by decide)]
      rw [show vK 6 = 0 from rfl, s6]
      rfl
    · have el : l = [11, 9, 3, 11] := (Option.some.inj e).symm
      subst el
      have ec : Int64.ofNat (pkN 27 [11, 9, 3, 11]) = (223166 : Int64) := by decide
      rw [ec]
      rw [if_neg (by decide), if_neg (by decide), if_neg (by decide), if_neg (by decide), if_neg (by decide), if_neg (by decide), if_neg (by decide), if_pos (by decide)]
      rw [show vK 7 = 0 from rfl, s6]
      rfl
    · have el : l = [19, 20, 1, 25] := (Option.some.inj e).symm
      subst el
      have ec : Int64.ofNat (pkN 27 [19, 20, 1, 25]) = (388609 : Int64) := by decide
      rw [ec]
      rw [if_neg (by decide), if_neg (by decide), if_neg (by decide), if_neg (by decide), if_neg (by decide), if_neg (by decide), if_neg (by decide), if_neg (by decide), if_pos (by decide)]
      rw [show vK 8 = 0 from rfl, s6]
      rfl
    · have el : l = [13, 1, 20, 5, 24] := (Option.some.inj e).symm
      subst el
      have ec : Int64.ofNat (pkN 27 [13, 1, 20, 5, 24]) = (6943155 : Int64) := by decide
      rw [ec]
      rw [if_neg (by decide), if_neg (by decide), if_neg (by decide), if_neg (by decide), if_neg (by decide), if_neg (by decide), if_neg (by decide), if_neg (by decide), if_neg (by decide), if_pos (by decide), if_pos (by decide)]
      rfl
    · have el : l = [13, 1, 20, 5, 25] := (Option.some.inj e).symm
      subst el
      have ec : Int64.ofNat (pkN 27 [13, 1, 20, 5, 25]) = (6943156 : Int64) := by decide
      rw [ec]
      rw [if_neg (by decide), if_neg (by decide), if_neg (by decide), if_neg (by decide), if_neg (by decide), if_neg (by decide), if_neg (by decide), if_neg (by decide), if_neg (by decide), if_pos (by decide), if_neg (by decide), if_pos (by decide)]
      rfl
    · have el : l = [6, 15, 5, 24] := (Option.some.inj e).symm
      subst el
      have ec : Int64.ofNat (pkN 27 [6, 15, 5, 24]) = (129192 : Int64) := by decide
      rw [ec]
      rw [if_neg (by decide), if_neg (by decide), if_neg (by decide), if_neg (by decide), if_neg (by decide), if_neg (by decide), if_neg (by decide), if_neg (by decide), if_neg (by decide), if_pos (by decide), if_neg (by decide), if_neg (by decide), if_pos (by decide)]
      rfl
    · have el : l = [6, 15, 5, 25] := (Option.some.inj e).symm
      subst el
      have ec : Int64.ofNat (pkN 27 [6, 15, 5, 25]) = (129193 : Int64) := by decide
      rw [ec]
      rw [if_neg (by decide), if_neg (by decide), if_neg (by decide), if_neg (by decide), if_neg (by decide), if_neg (by decide), if_neg (by decide), if_neg (by decide), if_neg (by decide), if_pos (by decide), if_neg (by decide), if_neg (by decide), if_neg (by decide), if_pos (by decide)]
      rfl
    · have el : l = [1] := (Option.some.inj e).symm
      subst el
      have ec : Int64.ofNat (pkN 27 [1]) = (1 : Int64) := by decide
      rw [ec]
      rw [if_neg (by decide), if_neg (by decide), if_neg (by decide), if_neg (by decide), if_neg (by decide), if_neg (by decide), if_neg (by decide), if_neg (by decide), if_neg (by decide), if_neg (by decide)]
      rfl
    · have el : l = [2] := (Option.some.inj e).symm
      subst el
      have ec : Int64.ofNat (pkN 27 [2]) = (2 : Int64) := by decide
      rw [ec]
      rw [if_neg (by decide), if_neg (by decide), if_neg (by decide), if_neg (by decide), if_neg (by decide), if_neg (by decide), if_neg (by decide), if_neg (by decide), if_neg (by decide), if_neg (by decide)]
      rfl
    · have el : l = [3] := (Option.some.inj e).symm
      subst el
      have ec : Int64.ofNat (pkN 27 [3]) = (3 : Int64) := by decide
      rw [ec]
      rw [if_neg (by decide), if_neg (by decide), if_neg (by decide), if_neg (by decide), if_neg (by decide), if_neg (by decide), if_neg (by decide), if_neg (by decide), if_neg (by decide), if_neg (by decide)]
      rfl
    · have el : l = [4] := (Option.some.inj e).symm
      subst el
      have ec : Int64.ofNat (pkN 27 [4]) = (4 : Int64) := by decide
      rw [ec]
      rw [if_neg (by decide), if_neg (by decide), if_neg (by decide), if_neg (by decide), if_neg (by decide), if_neg (by decide), if_neg (by decide), if_neg (by decide), if_neg (by decide), if_neg (by decide)]
      rfl
    · have el : l = [2, 1, 12, 12, 24] := (Option.some.inj e).symm
      subst el
      have ec : Int64.ofNat (pkN 27 [2, 1, 12, 12, 24]) = (1091661 : Int64) := by decide
      rw [ec]
      rw [if_neg (by decide), if_neg (by decide), if_neg (by decide), if_neg (by decide), if_neg (by decide), if_neg (by decide), if_neg (by decide), if_neg (by decide), if_neg (by decide), if_pos (by decide), if_neg (by decide), if_neg (by decide), if_neg (by decide), if_neg (by decide), if_pos (by decide)]
      rfl
    · have el : l = [2, 1, 12, 12, 25] := (Option.some.inj e).symm
      subst el
      have ec : Int64.ofNat (pkN 27 [2, 1, 12, 12, 25]) = (1091662 : Int64) := by decide
      rw [ec]
      rw [if_neg (by decide), if_neg (by decide), if_neg (by decide), if_neg (by decide), if_neg (by decide), if_neg (by decide), if_neg (by decide), if_neg (by decide), if_neg (by decide), if_pos (by decide), if_neg (by decide), if_neg (by decide), if_neg (by decide), if_neg (by decide), if_neg (by decide), if_pos (by decide)]
      rfl
    · have el : l = [13, 25, 24] := (Option.some.inj e).symm
      subst el
      have ec : Int64.ofNat (pkN 27 [13, 25, 24]) = (10176 : Int64) := by decide
      rw [ec]
      rw [if_neg (by decide), if_neg (by decide), if_neg (by decide), if_neg (by decide), if_neg (by decide), if_neg (by decide), if_neg (by decide), if_neg (by decide), if_neg (by decide), if_pos (by decide), if_neg (by decide), if_neg (by decide), if_neg (by decide), if_neg (by decide), if_neg (by decide), if_neg (by decide), if_pos (by decide)]
      rfl
    · have el : l = [13, 25, 25] := (Option.some.inj e).symm
      subst el
      have ec : Int64.ofNat (pkN 27 [13, 25, 25]) = (10177 : Int64) := by decide
      rw [ec]
      rw [if_neg (by decide), if_neg (by decide), if_neg (by decide), if_neg (by decide), if_neg (by decide), if_neg (by decide), if_neg (by decide), if_neg (by decide), if_neg (by decide), if_pos (by decide), if_neg (by decide), if_neg (by decide), if_neg (by decide), if_neg (by decide), if_neg (by decide), if_neg (by decide), if_neg (by decide), if_pos (by decide)]
      rfl
    · have el : l = [8, 5, 12, 4] := (Option.some.inj e).symm
      subst el
      have ec : Int64.ofNat (pkN 27 [8, 5, 12, 4]) = (161437 : Int64) := by decide
      rw [ec]
      rw [if_neg (by decide), if_neg (by decide), if_neg (by decide), if_neg (by decide), if_neg (by decide), if_neg (by decide), if_neg (by decide), if_neg (by decide), if_neg (by decide), if_pos (by decide), if_neg (by decide), if_neg (by decide), if_neg (by decide), if_neg (by decide), if_neg (by decide), if_neg (by decide), if_neg (by decide), if_neg (by decide), if_pos (by decide)]
      rfl
    · have el : l = [20, 9, 3, 11] := (Option.some.inj e).symm
      subst el
      have ec : Int64.ofNat (pkN 27 [20, 9, 3, 11]) = (400313 : Int64) := by decide
      rw [ec]
      rw [if_neg (by decide), if_neg (by decide), if_neg (by decide), if_neg (by decide), if_neg (by decide), if_neg (by decide), if_neg (by decide), if_neg (by decide), if_neg (by decide), if_pos (by decide), if_neg (by decide), if_neg (by decide), if_neg (by decide), if_neg (by decide), if_neg (by decide), if_neg (by decide), if_neg (by decide), if_neg (by decide), if_neg (by decide), if_pos (by decide)]
      rfl
    · have el : l = [12, 5, 1, 4] := (Option.some.inj e).symm
      subst el
      have ec : Int64.ofNat (pkN 27 [12, 5, 1, 4]) = (239872 : Int64) := by decide
      rw [ec]
      rw [if_neg (by decide), if_neg (by decide), if_neg (by decide), if_neg (by decide), if_neg (by decide), if_neg (by decide), if_neg (by decide), if_neg (by decide), if_neg (by decide), if_pos (by decide), if_neg (by decide), if_neg (by decide), if_neg (by decide), if_neg (by decide), if_neg (by decide), if_neg (by decide), if_neg (by decide), if_neg (by decide), if_neg (by decide), if_neg (by decide), if_pos (by decide)]
      rfl
    · have el : l = [14, 5, 1, 18] := (Option.some.inj e).symm
      subst el
      have ec : Int64.ofNat (pkN 27 [14, 5, 1, 18]) = (279252 : Int64) := by decide
      rw [ec]
      rw [if_neg (by decide), if_neg (by decide), if_neg (by decide), if_neg (by decide), if_neg (by decide), if_neg (by decide), if_neg (by decide), if_neg (by decide), if_neg (by decide), if_pos (by decide), if_neg (by decide), if_neg (by decide), if_neg (by decide), if_neg (by decide), if_neg (by decide), if_neg (by decide), if_neg (by decide), if_neg (by decide), if_neg (by decide), if_neg (by decide), if_neg (by decide), if_pos (by decide)]
      rfl
