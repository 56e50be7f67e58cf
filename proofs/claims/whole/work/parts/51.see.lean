/-! ===== a robot sees; what it senses ===== -/
theorem past_ix {t l : Nat} (ht : t < 2 ^ 30) (hl : l < 4) : (nI t - nI l) &&& (3 : Int32) = nI ((t + 4 - l) % 4) := by
  rw [pk_and _ 2 rfl]
  congr 1
  have e : (nI t - nI l).toBitVec.toNat = (2 ^ 32 - l + t) % 2 ^ 32 := by
    rw [Int32.toBitVec_sub, BitVec.toNat_sub]
    rw [pk_tn (by omega), pk_tn (by omega)]
  rw [e]
  omega
theorem mx_eq {t l kk : Nat} (ht : t < 2 ^ 30) (hl : l < 4) (hk : kk ≤ t) : (if (nI t - nI l) < nI kk then nI kk else (nI t - nI l)) = nI (mxk t l kk) := by
  unfold mxk
  rcases Nat.lt_or_ge t l with h | h
  · have h1 : nI t - nI l < 0 := pk_sneg (by omega) h
    have h2 : nI t - nI l < nI kk := by
      rw [Int32.lt_iff_toInt_lt] at h1 ⊢
      rw [nI_toInt (by omega)]
      have : (0 : Int32).toInt = 0 := rfl
      omega
    rw [if_pos h2]
    split
    · rfl
    · congr 1; omega
  · rw [pk_sub h]
    by_cases c : t - l < kk
    · rw [if_pos c, if_pos (nI_lt c (by omega))]
    · rw [if_neg c, if_neg (nI_nlt (by omega) (by omega))]
/-- the class's and the model's memory behind the view of robot r -/
theorem see_sim {b mA t r : Nat} {SV : Nat → Nat → Prop} {A0 B0 A B : Mem} (hm : mA = 259 ∨ mA = 260) (ht : t < 2 ^ 30) (hr : r < 10) (hK : TK b mA t SV A0 B0 A B) : ∃ A' B', (if (V_X5_isLost (b + 10 + 2 * r) (A.1 b 7) A) = 0 then (bd1 (U_X5_see (b + 10 + 2 * r) (V_X0_pastX (b + 4) ((A.1 b 7) - (A.1 (b + 10 + 2 * r) 12)) A) (V_X0_pastY (b + 4) ((A.1 b 7) - (A.1 (b + 10 + 2 * r) 12)) A) A) (fun M6 => M6)) else A) = A' ∧ R_X11_see (nI r) mA B = some B' ∧ TK b mA t SV A0 B0 A' B' ∧ (∀ s, ∀ j, 14 ≤ j → A'.1 (b + 10 + 2 * s) j = A.1 (b + 10 + 2 * s) j) ∧ (∀ d, d ≠ mA → B'.1 d = B.1 d) ∧ (∀ k, (∀ s, k ≠ 44 + 16 * s + 8 ∧ k ≠ 44 + 16 * s + 9) → B'.1 mA k = B.1 mA k) := by
  have hm2 : mA ≠ 242 := by omega
  obtain ⟨h1, h2, h3, h4, h5, h6, h7, h8⟩ := id hK
  obtain ⟨hX, hXI, hPR, hPI, hVW, hCM, hRK⟩ := h7 r hr
  obtain ⟨_, _, _, ⟨l, hl, el⟩, ls, hls, els⟩ := id hPI
  have eA13 : A.1 (b + 10 + 2 * r) 13 = nI ls := hPR.2.2.2.2.2.2.2.trans els
  have eA12 : A.1 (b + 10 + 2 * r) 12 = nI l := hPR.2.2.2.2.2.2.1.trans el
  have hnow : A.1 b 7 = nI t := h4.2.2.1
  have hnow' : B.1 mA 3 = nI t := h4.2.2.2.1
  obtain ⟨kk, hkk, e13, hpast⟩ := id h8
  obtain ⟨hp1, hp2⟩ := hpast l hl
  have o15 := of_eq (r := r) (c := 15) (w := 15) (mA := mA) (M := B) hr (by decide) rfl
  have o14 := of_eq (r := r) (c := 14) (w := 14) (mA := mA) (M := B) hr (by decide) rfl
  rw [els] at o15
  rw [el] at o14
  have er5 : nI r - nI r / (5 : Int32) * (5 : Int32) = nI (r % 5) := by rw [show (5 : Int32) = nI 5 from rfl, pk_rem (by omega) (by decide) (by decide)]
  -- the change
  obtain ⟨vx, hvx⟩ : ∃ v, v = B.1 mA (204 + mxk t l kk % 4) := ⟨_, rfl⟩
  obtain ⟨vy, hvy⟩ : ∃ v, v = B.1 mA (208 + mxk t l kk % 4) := ⟨_, rfl⟩
  have chg : TK b mA t SV A0 B0 (setI (setI A (b + 10 + 2 * r) 10 vx) (b + 10 + 2 * r) 11 vy) (setI (setI B mA (44 + 16 * r + 8) vx) mA (44 + 16 * r + 9) vy) := by
    have qA : ∀ c j, c ≠ b + 10 + 2 * r ∨ (j ≠ 10 ∧ j ≠ 11) → (setI (setI A (b + 10 + 2 * r) 10 vx) (b + 10 + 2 * r) 11 vy).1 c j = A.1 c j := fun c j h => by rw [gI (by omega), gI (by omega)]
    have qB : ∀ k, k ≠ 44 + 16 * r + 8 → k ≠ 44 + 16 * r + 9 → (setI (setI B mA (44 + 16 * r + 8) vx) mA (44 + 16 * r + 9) vy).1 mA k = B.1 mA k := fun k a1 a2 => by rw [gI (Or.inr a2), gI (Or.inr a1)]
    refine ⟨(h1.set (by omega) (by omega)).set (by omega) (by omega), (h2.row hm2).row hm2, by rw [gI (Or.inl (Ne.symm hm2)), gI (Or.inl (Ne.symm hm2))]; exact h3, h4.cg (fun j => qA _ _ (Or.inl (by omega))) (fun k hk => qB k (by omega) (by omega)), h5.cg (fun c j a1 a2 => qA _ _ (Or.inl (by omega))) (fun k hk => qB k (by omega) (by omega)), h6.cg (fun j => qA _ _ (Or.inl (by omega))) (fun k a1 a2 => qB k (by omega) (by omega)) (fun s hs _ => ⟨qB _ (by omega) (by omega), qB _ (by omega) (by omega)⟩), fun s hs => ?_, h8.cg (fun c j hc => qA _ _ (Or.inl (by omega))) (fun k hk => qB k (by omega) (by omega))⟩
    by_cases e : s = r
    · subst e
      refine ⟨hX.cg (fun j hj => qA _ _ (Or.inr (by omega))) (fun k hk => qB _ (by omega) (by omega)), hXI.cg (fun k hk => qB _ (by omega) (by omega)), hPR.cg (fun j hj => qA _ _ (Or.inr (by omega))) (fun i _ => qA _ _ (Or.inl (by omega))) (fun k hk => qB _ (by omega) (by omega)), hPI.cg (fun k hk => qB _ (by omega) (by omega)), ⟨?_, ?_⟩, ?_, hRK.cg (fun j hj => qA _ _ (Or.inr (by omega)))⟩
      · simp (disch := omega) only [gI, gs_eI]
      · rw [gs_eI, gs_eI]
      · unfold CMR at hCM ⊢
        rw [qA _ _ (Or.inr (by omega)), qB _ (by omega) (by omega)]; exact hCM
    · exact (h7 s hs).cg (fun j _ => qA _ _ (Or.inl (by omega))) (fun i _ => qA _ _ (Or.inl (by omega))) (fun k _ => qB _ (by omega) (by omega))
  -- the model, not lost
  have mgo : (bnd1 (R_X11_of (nI r) (14 : Int32) mA B) (fun v10 => bd1 (if ((B.1 mA 3) - v10) < (B.1 mA 13) then (B.1 mA 13) else ((B.1 mA 3) - v10)) (fun v11 => ck ((204 : Int32) + (v11 - v11 / (4 : Int32) * (4 : Int32))) 212 (bnd1 (R_X11_set (nI r) (8 : Int32) (B.1 mA ((204 : Int32) + (v11 - v11 / (4 : Int32) * (4 : Int32))).toNatClampNeg) mA B) (fun M13 => ck ((208 : Int32) + (v11 - v11 / (4 : Int32) * (4 : Int32))) 212 (bnd1 (R_X11_set (nI r) (9 : Int32) (M13.1 mA ((208 : Int32) + (v11 - v11 / (4 : Int32) * (4 : Int32))).toNatClampNeg) mA M13) (fun M15 => some M15))))))) = some (setI (setI B mA (44 + 16 * r + 8) vx) mA (44 + 16 * r + 9) vy) := by
    have hmk : mxk t l kk ≤ t := by unfold mxk; split <;> omega
    have e4 : ∀ n : Nat, (nI n : Int32) + (nI (mxk t l kk) - nI (mxk t l kk) / (4 : Int32) * (4 : Int32)) = nI (n + mxk t l kk % 4) := fun n => by
      rw [show (4 : Int32) = nI 4 from rfl, pk_rem (by omega) (by decide) (by decide), nI_add]
    rw [bnd1_e o14, hnow', e13, mx_eq ht hl hkk, bd1_s, show (204 : Int32) = nI 204 from rfl, show (208 : Int32) = nI 208 from rfl, e4, e4, ck_nI (by omega) (by omega), nI_clamp (by omega), bnd1_e (set_eq (c := 8) (w := 8) hr (by decide) rfl), ck_nI (by omega) (by omega), nI_clamp (by omega), gI (Or.inr (by omega)), bnd1_e (set_eq (c := 9) (w := 9) hr (by decide) rfl), ← hvx, ← hvy]
  have cgo : bd1 (U_X5_see (b + 10 + 2 * r) (V_X0_pastX (b + 4) ((A.1 b 7) - (A.1 (b + 10 + 2 * r) 12)) A) (V_X0_pastY (b + 4) ((A.1 b 7) - (A.1 (b + 10 + 2 * r) 12)) A) A) (fun M6 => M6) = setI (setI A (b + 10 + 2 * r) 10 vx) (b + 10 + 2 * r) 11 vy := by
    rw [bd1_s]
    unfold U_X5_see V_X0_pastX V_X0_pastY
    rw [hnow, eA12, at_eq (past_ix ht hl) (by omega) (by decide), at_eq (past_ix ht hl) (by omega) (by decide)]
    rw [show b + 4 + 1 = b + 5 by omega, show b + 4 + 2 = b + 6 by omega, hp1, hp2, ← hvx, ← hvy]
  have keepA : ∀ s, ∀ j, 14 ≤ j → (setI (setI A (b + 10 + 2 * r) 10 vx) (b + 10 + 2 * r) 11 vy).1 (b + 10 + 2 * s) j = A.1 (b + 10 + 2 * s) j := fun s j hj => by rw [gI (Or.inr (by omega)), gI (Or.inr (by omega))]
  have keepB : ∀ d, d ≠ mA → (setI (setI B mA (44 + 16 * r + 8) vx) mA (44 + 16 * r + 9) vy).1 d = B.1 d := fun d hd => by rw [fI hd, fI hd]
  have keepR : ∀ k, (∀ s, k ≠ 44 + 16 * s + 8 ∧ k ≠ 44 + 16 * s + 9) → (setI (setI B mA (44 + 16 * r + 8) vx) mA (44 + 16 * r + 9) vy).1 mA k = B.1 mA k := fun k hk => by rw [gI (Or.inr (hk r).2), gI (Or.inr (hk r).1)]
  unfold R_X11_see V_X5_isLost
  rw [bnd1_e o15, hnow, eA13, hRK.1, er5, hnow']
  dsimp only
  by_cases c1 : nI ls ≤ 0
  · rw [if_pos c1, if_pos c1, if_pos rfl, br1_r]
    rw [hnow] at cgo
    rw [hnow'] at mgo
    exact ⟨_, _, cgo, mgo, chg, keepA, keepB, keepR⟩
  · rw [if_neg c1, if_neg c1]
    have hne : ¬ nI ls = 0 := fun q => c1 (by rw [q]; decide)
    have ecd : ∀ {β : Type} (x : Option β), cd (nI ls) x = x := fun x => if_neg hne
    rw [ecd]
    by_cases c2 : (nI t + nI (r % 5)) - (nI t + nI (r % 5)) / nI ls * nI ls = 0
    · rw [if_pos c2, if_pos c2, if_neg n10, br1_l]
      exact ⟨A, B, rfl, rfl, hK, fun _ _ _ => rfl, fun _ _ => rfl, fun _ _ => rfl⟩
    · rw [if_neg c2, if_neg c2, if_pos rfl, br1_r]
      rw [hnow] at cgo
      rw [hnow'] at mgo
      exact ⟨_, _, cgo, mgo, chg, keepA, keepB, keepR⟩
