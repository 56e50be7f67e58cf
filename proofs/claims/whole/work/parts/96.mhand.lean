/-! ===== the word at hand, in the model ===== -/
def HandT (B : Mem) (T : Nat → Nat) (n : Nat) (t : Tk) (rest : List Tk) : Prop := B.1 242 5 = nI (kM t.1) ∧ B.1 242 3 = nI t.2.2.2 ∧ t.2.2.2 ≤ n ∧ (t.1 ≤ 35 → B.1 242 6 = nI (vM t)) ∧ (t.1 = 26 → B.2 242 7 = Int64.ofNat (pkN 27 t.2.1)) ∧ (t.1 ≤ 35 → ∃ e k, rest = scan T n k e ∧ e ≤ n ∧ n ≤ e + k ∧ B.1 242 4 = nI e)
def Hand (B : Mem) (T : Nat → Nat) (n : Nat) (ws : List Tk) : Prop := ∃ t rest, ws = t :: rest ∧ HandT B T n t rest
theorem sgK_k {c : Nat} (h : sgK c ≠ 36) : kM (sgK c) = c := by
  unfold sgK at h ⊢
  repeat' split
  all_goals first | (rename_i q; rw [q]; rfl) | skip
  all_goals simp_all
theorem kM_36 : kM 36 = 6 := rfl
theorem kM_37 : kM 37 = 0 := rfl
theorem word_M {B : Mem} {T : Nat → Nat} {n e k mA : Nat} (hT : TapeM B T n) (h4 : B.1 242 4 = nI e) (he : e ≤ n) (hk : n ≤ e + k) : ∃ B', R_X11_word mA B = some B' ∧ Hand B' T n (scan T n k e) ∧ FrH B B' := by
  have hn := hT.2.1
  have hq := upto_le (P := isB) (T := T) (n - e) e
  have L := blank_M (mA := mA) (n - e) e FUEL B hT h4 (by omega) (by unfold FUEL; omega)
  have hsc : ∃ k', scan T n k e = (if n ≤ upto isB T (n - e) e then [(37, [], 0, n)] else if (tokAt T n (upto isB T (n - e) e)).1.1 = 36 then [(tokAt T n (upto isB T (n - e) e)).1] else (tokAt T n (upto isB T (n - e) e)).1 :: scan T n k' (tokAt T n (upto isB T (n - e) e)).2) ∧ n ≤ e + k' + 1 := by
    cases k with
    | zero =>
      have : n - e = 0 := by omega
      refine ⟨0, ?_, by omega⟩
      rw [this, upto, if_pos (by omega)]
      rfl
    | succ k => exact ⟨k, by rw [scan], by omega⟩
  obtain ⟨k', hsc, hk'⟩ := hsc
  obtain ⟨q, eq⟩ : ∃ q, q = upto isB T (n - e) e := ⟨_, rfl⟩
  rw [← eq] at hq L hsc
  rw [hsc]
  unfold R_X11_word
  rw [bnd1_e L, gs_eI]
  obtain ⟨M6, hM6⟩ : ∃ X, X = setI (setI B 242 4 (nI q)) 242 3 (nI q) := ⟨_, rfl⟩
  have F6 : FrH B M6 := by rw [hM6]; exact (FrH.i (by omega)).tr (FrH.i (by omega))
  have T6 := hT.h F6
  rw [← hM6]
  obtain ⟨M7, hM7⟩ : ∃ X, X = setJ (setI M6 242 6 0) 242 7 0 := ⟨_, rfl⟩
  have F7 : FrH B M7 := by rw [hM7]; exact (F6.tr (FrH.i (by omega))).tr FrH.j
  have T7 := hT.h F7
  have e3 : M7.1 242 3 = nI q := by rw [hM7, sJ1, gI (Or.inr (by decide)), hM6, gs_eI]
  have e4 : M7.1 242 4 = nI q := by rw [hM7, sJ1, gI (Or.inr (by decide)), hM6, gI (Or.inr (by decide)), gs_eI]
  have e6 : M7.1 242 6 = 0 := by rw [hM7, sJ1, gs_eI]
  have e7 : M7.2 242 7 = Int64.ofNat 0 := by rw [hM7, gs_eJ]; rfl
  rw [← hM7]
  by_cases c : n ≤ q
  · have hqn : q = n := by omega
    rw [if_pos c, hqn, bnd1_e (at_E T6), if_neg (show ¬ (0 : Int32) ≤ -1 by decide), bnd1_s]
    refine ⟨_, rfl, ⟨_, _, rfl, ?_, ?_, Nat.le_refl _, fun h => absurd h (show ¬ 37 ≤ 35 by decide), fun h => absurd h (show ¬ 37 = 26 by decide), fun h => absurd h (show ¬ 37 ≤ 35 by decide)⟩, F7.tr (FrH.i (by omega))⟩
    · rw [gs_eI]; rfl
    · rw [gI (Or.inr (by decide)), e3, hqn]
  · have hqn : q < n := by omega
    obtain ⟨_, hc⟩ := T6.2.2 q hqn
    rw [if_neg c, bnd1_e (at_M T6 hqn), if_pos (nI_pos' (show T q < 2 ^ 31 by omega)), isL_M hc, isF_M hc, isS_M hc]
    have hgt := tokAt_gt (T := T) hqn
    have hpos := tokAt_pos (T := T) (n := n) (p := q)
    -- the head of the list, whatever follows
    have hd : ∀ B', FrH B B' → HandT B' T n (tokAt T n q).1 (scan T n k' (tokAt T n q).2) → Hand B' T n (if (tokAt T n q).1.1 = 36 then [(tokAt T n q).1] else (tokAt T n q).1 :: scan T n k' (tokAt T n q).2) := by
      intro B' _ H
      by_cases c36 : (tokAt T n q).1.1 = 36
      · rw [if_pos c36]
        exact ⟨_, _, rfl, H.1, H.2.1, H.2.2.1, H.2.2.2.1, H.2.2.2.2.1, fun h => by omega⟩
      · rw [if_neg c36]
        exact ⟨_, _, rfl, H⟩
    by_cases c1 : isL (T q) = true
    · rw [if_pos c1, if_neg (show ¬ (1 : Int32) = 0 by decide)]
      obtain ⟨cc, g1, g2⟩ := letters_M (mA := mA) (p0 := q) (n - q) q FUEL 0 M7 T7 e3 e4 (Nat.le_refl _) (by omega) (by unfold FUEL; omega) (fun _ => e7)
      have hgl := upto_gt (P := isL) (T := T) (k := n - q) (p := q) (by omega) c1
      have htk : tokAt T n q = ((if upto isL T (n - q) q - q ≤ 12 then kw (lets T q (upto isL T (n - q) q)) else 36, lets T q (upto isL T (n - q) q), 0, q), upto isL T (n - q) q) := by unfold tokAt; rw [if_pos c1]
      obtain ⟨z, hz⟩ : ∃ z, z = upto isL T (n - q) q := ⟨_, rfl⟩
      obtain ⟨M8, hM8⟩ : ∃ X, X = setJ (setI M7 242 4 (nI z)) 242 7 cc := ⟨_, rfl⟩
      have hdg := lets_dg (T := T) (k := n - q) (p := q)
      rw [← hz] at g1 g2 hgl htk hdg
      rw [← hM8] at g1
      have F8 : FrH B M8 := by rw [hM8]; exact (F7.tr (FrH.i (by omega))).tr FrH.j
      have e83 : M8.1 242 3 = nI q := by rw [hM8, sJ1, gI (Or.inr (by decide))]; exact e3
      have e84 : M8.1 242 4 = nI z := by rw [hM8, sJ1, gs_eI]
      have e86 : M8.1 242 6 = 0 := by rw [hM8, sJ1, gI (Or.inr (by decide))]; exact e6
      have e87 : M8.2 242 7 = cc := by rw [hM8, gs_eJ]
      rw [htk] at hd hgt ⊢
      dsimp only at hgt
      unfold R_X11_letters
      rw [bnd1_e g1, e83, e84, pk_sub (by omega)]
      by_cases c12 : z - q ≤ 12
      · have hl : NmO (lets T q z) := ⟨hdg, by rw [lets_len]; exact c12⟩
        have ec : cc = Int64.ofNat (pkN 27 (lets T q z)) := g2 c12
        have fw := findWord_M (B := M8) (mA := mA) hl (by rw [lets_len]; omega) (e87.trans ec) e86
        rw [if_pos (show nI (z - q) ≤ (12 : Int32) from nI_le (b := 12) c12 (by decide)), bnd1_e fw, bnd1_s]
        have F9 := (F8.tr (FrH.i (j := 5) (v := nI (kM (kw (lets T q z)))) (by omega))).tr (FrH.i (j := 6) (v := nI (vK (kw (lets T q z)))) (by omega))
        refine ⟨_, rfl, hd _ F9 ?_, F9⟩
        rw [if_pos c12]
        refine ⟨?_, ?_, by show q ≤ n; omega, fun _ => ?_, fun _ => ?_, fun _ => ⟨z, k', rfl, by omega, by omega, ?_⟩⟩
        · rw [gI (Or.inr (by decide)), gs_eI]
        · rw [gI (Or.inr (by decide)), gI (Or.inr (by decide))]; exact e83
        · rw [gs_eI]
          unfold vM
          rw [if_neg kw_no25]
        · show M8.2 242 7 = _
          rw [e87, ec]
        · rw [gI (Or.inr (by decide)), gI (Or.inr (by decide))]; exact e84
      · rw [if_neg (show ¬ nI (z - q) ≤ (12 : Int32) from nI_ge (a := 12) (by omega) (by omega)), bnd1_s]
        have F9 := F8.tr (FrH.i (j := 5) (v := 6) (by omega))
        refine ⟨_, rfl, hd _ F9 ?_, F9⟩
        rw [if_neg c12]
        refine ⟨?_, ?_, by show q ≤ n; omega, fun h => absurd h (show ¬ 36 ≤ 35 by decide), fun h => absurd h (show ¬ 36 = 26 by decide), fun h => absurd h (show ¬ 36 ≤ 35 by decide)⟩
        · rw [gs_eI]; rfl
        · rw [gI (Or.inr (by decide))]; exact e83
    · rw [if_neg c1, if_pos (rfl : (0 : Int32) = 0)]
      by_cases c2 : isF (T q) = true
      · rw [if_pos c2, if_neg (show ¬ (1 : Int32) = 0 by decide)]
        obtain ⟨v, g1, g2⟩ := figures_M (mA := mA) (n - q) q FUEL 0 0 M7 T7 e4 (by omega) (by unfold FUEL; omega) e6 ⟨by omega, fun _ => rfl, fun h => by omega, by omega⟩
        have hgl := upto_gt (P := isF) (T := T) (k := n - q) (p := q) (by omega) c2
        have htk : tokAt T n q = ((if nums T q (upto isF T (n - q) q) ≤ 999 then 25 else 36, [], nums T q (upto isF T (n - q) q), q), upto isF T (n - q) q) := by unfold tokAt; rw [if_neg c1, if_pos c2]
        obtain ⟨z, hz⟩ : ∃ z, z = upto isF T (n - q) q := ⟨_, rfl⟩
        rw [← hz] at g1 g2 hgl htk
        have g2 : VR (nums T q z) v := g2
        obtain ⟨N, hN⟩ : ∃ N, N = nums T q z := ⟨_, rfl⟩
        rw [← hN] at g2 htk
        rw [htk] at hd hgt ⊢
        dsimp only at hgt
        unfold R_X11_figures
        rw [bnd1_e g1, gI (Or.inr (by decide)), gs_eI]
        have ek : (if nI v ≤ (999 : Int32) then (2 : Int32) else (6 : Int32)) = nI (kM (if N ≤ 999 then 25 else 36)) := by
          have v4 := g2.2.2.2
          by_cases c9 : N ≤ 999
          · rw [if_pos c9, g2.2.1 c9, if_pos (show nI N ≤ (999 : Int32) from nI_le (b := 999) c9 (by decide))]
            rfl
          · have := g2.2.2.1 (by have := g2.1; omega)
            rw [if_neg c9, if_neg (show ¬ nI v ≤ (999 : Int32) from nI_ge (a := 999) this (by omega))]
            rfl
        rw [ek, bd1_s, bnd1_s, bnd1_s]
        have F9 := ((F7.tr (FrH.i (j := 6) (v := nI v) (by omega))).tr (FrH.i (j := 4) (v := nI z) (by omega))).tr (FrH.i (j := 5) (v := nI (kM (if N ≤ 999 then 25 else 36))) (by omega))
        refine ⟨_, rfl, hd _ F9 ?_, F9⟩
        refine ⟨?_, ?_, by show q ≤ n; omega, fun h => ?_, fun h => ?_, fun _ => ⟨z, k', rfl, by omega, by omega, ?_⟩⟩
        · rw [gs_eI]
        · rw [gI (Or.inr (by decide)), gI (Or.inr (by decide)), gI (Or.inr (by decide))]; exact e3
        · dsimp only at h
          by_cases c9 : N ≤ 999
          · rw [gI (Or.inr (by decide)), gI (Or.inr (by decide)), gs_eI, g2.2.1 c9]
            unfold vM
            dsimp only
            rw [if_pos c9, if_pos rfl]
          · rw [if_neg c9] at h; omega
        · dsimp only at h
          split at h <;> omega
        · rw [gI (Or.inr (by decide)), gs_eI]
      · rw [if_neg c2, if_pos (rfl : (0 : Int32) = 0)]
        have htk : tokAt T n q = ((sgK (T q), [], 0, q), q + 1) := by unfold tokAt; rw [if_neg c1, if_neg c2]
        have hsg := sgK_in (c := T q)
        rw [htk] at hd hgt ⊢
        by_cases c3 : sgK (T q) = 36
        · rw [if_pos c3, if_pos (rfl : (0 : Int32) = 0), bnd1_s]
          have F9 := F7.tr (FrH.i (j := 5) (v := 6) (by omega))
          refine ⟨_, rfl, hd _ F9 ?_, F9⟩
          refine ⟨?_, ?_, by show q ≤ n; omega, fun h => by dsimp only at h; omega, fun h => by dsimp only at h; omega, fun h => by dsimp only at h; omega⟩
          · rw [gs_eI, c3]; rfl
          · rw [gI (Or.inr (by decide))]; exact e3
        · rw [if_neg c3, if_neg (show ¬ (1 : Int32) = 0 by decide), bnd1_s, nI_1]
          have F9 := (F7.tr (FrH.i (j := 5) (v := nI (T q)) (by omega))).tr (FrH.i (j := 4) (v := nI (q + 1)) (by omega))
          refine ⟨_, rfl, hd _ F9 ?_, F9⟩
          refine ⟨?_, ?_, by show q ≤ n; omega, fun h => ?_, fun h => by dsimp only at h; omega, fun _ => ⟨q + 1, k', rfl, by omega, by omega, gs_eI⟩⟩
          · rw [gI (Or.inr (by decide)), gs_eI]
            dsimp only
            rw [sgK_k c3]
          · rw [gI (Or.inr (by decide)), gI (Or.inr (by decide))]; exact e3
          · rw [gI (Or.inr (by decide)), gI (Or.inr (by decide)), e6]
            unfold vM vK
            dsimp only
            rw [if_neg (by omega), if_neg (by omega), if_neg (by omega), if_neg (by omega), if_neg (by omega)]
            rfl
