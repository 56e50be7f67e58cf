theorem kwI_le {l : List Nat} : ∀ (ws : List (List Nat)) (i : Nat), i + ws.length ≤ 26 → kwI l ws i ≤ 26 := by
  intro ws
  induction ws with
  | nil => intro i _; exact Nat.le_refl _
  | cons w ws ih =>
    intro i h
    rw [List.length_cons] at h
    rw [kwI]
    split
    · omega
    · exact ih (i + 1) (by omega)
theorem kw_le {l : List Nat} : kw l ≤ 26 := kwI_le kn 0 (by decide)
theorem kwI_at {l : List Nat} : ∀ (ws : List (List Nat)) (i : Nat), kwI l ws i = 26 ∨ ∃ j, ws[j]? = some l ∧ kwI l ws i = i + j := by
  intro ws
  induction ws with
  | nil => intro i; exact Or.inl rfl
  | cons w ws ih =>
    intro i
    rw [kwI]
    by_cases c : w = l
    · rw [if_pos c]; exact Or.inr ⟨0, by rw [c]; rfl, rfl⟩
    · rw [if_neg c]
      rcases ih (i + 1) with h | ⟨j, h1, h2⟩
      · exact Or.inl h
      · exact Or.inr ⟨j + 1, h1, by omega⟩
theorem kw_len {l : List Nat} (h : 3 ≤ kw l) (h8 : kw l ≤ 8) : 2 ≤ l.length := by
  rcases kwI_at (l := l) kn 0 with e | ⟨j, e1, e2⟩
  · unfold kw at h8; omega
  · have e3 : kw l = j := by unfold kw; omega
    rw [e3] at h h8
    have key : ∀ j, 3 ≤ j → j ≤ 8 → ∀ w, kn[j]? = some w → 2 ≤ w.length := by
      intro j h1 h2 w e
      rcases (show j = 3 ∨ j = 4 ∨ j = 5 ∨ j = 6 ∨ j = 7 ∨ j = 8 by omega) with rfl | rfl | rfl | rfl | rfl | rfl <;> (cases e; decide)
    exact key j h h8 l e1
theorem kw_no25 {l : List Nat} : kw l ≠ 25 := by
  intro h
  rcases kwI_at (l := l) kn 0 with e | ⟨j, e1, e2⟩
  · unfold kw at h; omega
  · have e3 : kw l = j := by unfold kw; omega
    rw [e3] at h
    subst h
    cases e1
theorem sgK_in {c : Nat} : 27 ≤ sgK c ∧ sgK c ≤ 36 := by
  unfold sgK
  repeat' split
  all_goals omega
theorem tokAt_k {T : Nat → Nat} {n p : Nat} : (tokAt T n p).1.1 ≤ 36 := by
  unfold tokAt
  split
  · dsimp only
    split
    · have := kw_le (l := lets T p (upto isL T (n - p) p)); omega
    · omega
  · split
    · dsimp only
      split <;> omega
    · exact sgK_in.2
theorem tokAt_ln {T : Nat → Nat} {n p : Nat} (h : p < n) : p + ln (tokAt T n p).1 ≤ (tokAt T n p).2 := by
  have h1 := tokAt_gt (T := T) h
  unfold tokAt at h1 ⊢
  split
  · rename_i c
    rw [if_pos c] at h1
    dsimp only at h1 ⊢
    unfold ln
    dsimp only
    rw [lets_len]
    split <;> omega
  · rename_i c
    rw [if_neg c] at h1
    split
    · rename_i c2
      rw [if_pos c2] at h1
      dsimp only at h1 ⊢
      unfold ln
      dsimp only
      split
      · omega
      · rename_i c3; exact absurd rfl c3
    · unfold ln
      dsimp only
      split
      · omega
      · rename_i c3; exact absurd rfl c3
theorem tokAt_kw {T : Nat → Nat} {n p : Nat} (h3 : 3 ≤ (tokAt T n p).1.1) (h8 : (tokAt T n p).1.1 ≤ 8) : 2 ≤ ln (tokAt T n p).1 := by
  unfold tokAt at h3 h8 ⊢
  split
  · rename_i c
    rw [if_pos c] at h3 h8
    dsimp only at h3 h8 ⊢
    split at h3
    · rename_i c2
      rw [if_pos c2] at h8
      have := kw_len h3 h8
      unfold ln
      dsimp only
      split <;> omega
    · rename_i c2
      rw [if_neg c2] at h8
      omega
  · rename_i c
    rw [if_neg c] at h3 h8
    split
    · rename_i c2
      rw [if_pos c2] at h3 h8
      dsimp only at h3 h8
      split at h8 <;> omega
    · rename_i c2
      rw [if_neg c2] at h3 h8
      have := sgK_in (c := T p)
      dsimp only at h8
      omega
/-- the word at p goes into the rows -/
def stp (u1 v3 : Int32) (M : Mem) : Option (Int32 × Mem) := if (V_X4_isLetter v3 M) = 0 then (if (V_X4_isFigure v3 M) = 0 then (bnd1 (if (V_X4_isBlank v3 M) = 0 then (bnd1 (R_X4_splitSign 2 u1 v3 M) (fun M14 => (some M14))) else (some M)) (fun M13 => (some ((u1 + 1), M13)))) else (bnd2 (R_X4_splitNumber 2 u1 M) (fun v15 M15 => bd1 (if (u1 + (1 : Int32)) < v15 then v15 else (u1 + (1 : Int32))) (fun v16 => (some (v16, M15)))))) else (bnd2 (R_X4_splitName 2 u1 M) (fun v17 M17 => bd1 (if (u1 + (1 : Int32)) < v17 then v17 else (u1 + (1 : Int32))) (fun v18 => (some (v18, M17)))))
theorem mx1 {p q : Nat} (h : p < q) (hq : q < 2 ^ 31) : (if (nI p + (1 : Int32)) < nI q then nI q else (nI p + (1 : Int32))) = nI q := by
  rw [nI_1]
  by_cases c : p + 1 < q
  · rw [if_pos (nI_lt c hq)]
  · rw [if_neg (nI_nlt (by omega) (by omega)), show p + 1 = q by omega]
theorem stp_C {A : Mem} {T : Nat → Nat} {n p w : Nat} (hT : Tape A T n) (hK : Knw A) (hp : p < n) (hb : isB (T p) = false) (h6 : A.1 2 6 = nI w) (hw : w < 801) :
    ∃ x2, stp (nI p) (nI (T p)) A = some (nI (tokAt T n p).2, adW A w (nI (tokAt T n p).1.1) x2 (nI p)) ∧ ((tokAt T n p).1.1 = 25 → x2 = Int64.ofNat (tokAt T n p).1.2.2.1 ∧ (tokAt T n p).1.2.2.1 ≤ 999) ∧ ((tokAt T n p).1.1 = 26 → x2 = Int64.ofNat (pkN 32 (tokAt T n p).1.2.1)) := by
  obtain ⟨_, hc⟩ := hT.2.2 p hp
  have hn := hT.2.1
  unfold stp tokAt
  rw [isL_C hc, isF_C hc, isB_C hc]
  by_cases c1 : isL (T p) = true
  · rw [if_pos c1, if_neg (show ¬ (1 : Int32) = 0 by decide), if_pos c1]
    have L := name_loop (x1 := nI p) hT (n - p) p FUEL 0 (by omega) (by unfold FUEL; omega)
    have hgt := upto_gt (P := isL) (T := T) (k := n - p) (p := p) (by omega) c1
    have hle := upto_le (P := isL) (T := T) (n - p) p
    refine ⟨Int64.ofNat (pkN 32 (lets T p (upto isL T (n - p) p))), ?_, ?_, fun _ => rfl⟩
    · unfold R_X4_splitName
      rw [show (0 : Int64) = Int64.ofNat 0 from rfl, bnd2_e L, pk_sub (by omega)]
      have e : (if nI (upto isL T (n - p) p - p) ≤ (12 : Int32) then V_X4_kindOf 2 (Int64.ofNat ((lets T p (upto isL T (n - p) p)).foldl (fun a d => a * 32 + d) 0)) A else (36 : Int32)) = nI (if upto isL T (n - p) p - p ≤ 12 then kw (lets T p (upto isL T (n - p) p)) else 36) := by
        by_cases c2 : upto isL T (n - p) p - p ≤ 12
        · rw [if_pos c2, if_pos (show nI (upto isL T (n - p) p - p) ≤ (12 : Int32) from nI_le (b := 12) c2 (by decide))]
          exact kindOf_C lets_dg (by rw [lets_len]; exact c2) hK
        · rw [if_neg c2, if_neg (show ¬ nI (upto isL T (n - p) p - p) ≤ (12 : Int32) from nI_ge (a := 12) (by omega) (by omega))]
          rfl
      rw [e, bd1_s, bnd1_e (addWord_C h6 hw), bnd2_s, mx1 hgt (by omega), bd1_s]
      rfl
    · dsimp only
      intro h
      split at h
      · exact absurd h kw_no25
      · omega
  · rw [if_neg c1, if_pos (rfl : (0 : Int32) = 0), if_neg c1]
    by_cases c2 : isF (T p) = true
    · rw [if_pos c2, if_neg (show ¬ (1 : Int32) = 0 by decide), if_pos c2]
      have L := num_loop (x1 := nI p) hT (n - p) p FUEL 0 (by omega) (by unfold FUEL; omega) (by omega)
      have hgt := upto_gt (P := isF) (T := T) (k := n - p) (p := p) (by omega) c2
      have hle := upto_le (P := isF) (T := T) (n - p) p
      have hnum : nums T p (upto isF T (n - p) p) ≤ 1000 := by
        unfold nums
        rw [show upto isF T (n - p) p - p = (upto isF T (n - p) p - p - 1) + 1 by omega, List.range_succ, List.foldl_append]
        exact cap1_le
      refine ⟨Int64.ofNat (nums T p (upto isF T (n - p) p)), ?_, ?_, ?_⟩
      · unfold R_X4_splitNumber
        rw [show (0 : Int32) = nI 0 from rfl, bnd2_e L]
        have e0 : (List.range (upto isF T (n - p) p - p)).foldl (fun a i => cap1 (a * 10 + (T (p + i) - 48))) 0 = nums T p (upto isF T (n - p) p) := rfl
        rw [e0]
        have e : (if nI (nums T p (upto isF T (n - p) p)) ≤ (999 : Int32) then (25 : Int32) else (36 : Int32)) = nI (if nums T p (upto isF T (n - p) p) ≤ 999 then 25 else 36) := by
          by_cases c3 : nums T p (upto isF T (n - p) p) ≤ 999
          · rw [if_pos c3, if_pos (show nI _ ≤ (999 : Int32) from nI_le (b := 999) c3 (by decide))]
            rfl
          · rw [if_neg c3, if_neg (show ¬ nI _ ≤ (999 : Int32) from nI_ge (a := 999) (by omega) (by omega))]
            rfl
        rw [e, bd1_s, nI_l (by omega), bnd1_e (addWord_C h6 hw), bnd2_s, mx1 hgt (by omega), bd1_s]
        rfl
      · dsimp only
        intro h
        refine ⟨rfl, ?_⟩
        split at h
        · assumption
        · omega
      · dsimp only
        intro h
        split at h <;> omega
    · rw [if_neg c2, if_pos (rfl : (0 : Int32) = 0), hb, if_neg (show ¬ false = true by decide), if_pos (rfl : (0 : Int32) = 0), if_neg c2, sign_C hc, addWord_C h6 hw]
      refine ⟨0, by rw [nI_1]; rfl, ?_, ?_⟩
      · intro h
        have := sgK_in (c := T p)
        dsimp only at h
        omega
      · intro h
        have := sgK_in (c := T p)
        dsimp only at h
        omega
