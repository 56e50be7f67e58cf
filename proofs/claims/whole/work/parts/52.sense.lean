/-! ===== what the class's runner senses ===== -/
def pl (r j : Nat) : Nat := 8 + (if j / 5 = r / 5 then 0 else 10) + j % 5
def SnF (b : Nat) (A M : Mem) : Prop := M.2 = A.2 ∧ ∀ d, d ≠ b + 2 → M.1 d = A.1 d
theorem SnF.set {b k : Nat} {v : Int32} {A M : Mem} (h : SnF b A M) : SnF b A (setI M (b + 2) k v) := ⟨h.1, fun d hd => by rw [fI hd]; exact h.2 d hd⟩
theorem sense_loop {b r : Nat} {A : Mem} {ρ : Nat → Int32} {x2 : Int32} (hr : r < 10) (hX : ∀ s, s < 10 → XYR b A ρ s) (hK : ∀ s, s < 10 → RK b A s) : ∀ (n i : Nat) (M : Mem), i + n = 10 → SnF b A M → (∀ j, j < i → M.1 (b + 2) (pl r j) = tX r (ρ (44 + 16 * j)) ∧ M.1 (b + 2) (pl r j + 5) = tY r (ρ (44 + 16 * j + 1))) → ∃ M', L_X2_sense_145 b (b + 10 + 2 * r) x2 n i M = some M' ∧ SnF b A M' ∧ (∀ k, k < 8 → M'.1 (b + 2) k = M.1 (b + 2) k) ∧ (∀ j, j < 10 → M'.1 (b + 2) (pl r j) = tX r (ρ (44 + 16 * j)) ∧ M'.1 (b + 2) (pl r j + 5) = tY r (ρ (44 + 16 * j + 1))) := by
  intro n
  induction n with
  | zero => intro i M hi hF hM; exact ⟨M, rfl, hF, fun _ _ => rfl, fun j hj => hM j (by omega)⟩
  | succ n ih =>
    intro i M hi hF hM
    have hi10 : i < 10 := by omega
    have rd : ∀ d j, d ≠ b + 2 → M.1 d j = A.1 d j := fun d j hd => by rw [hF.2 d hd]
    have ki := hK i hi10
    have kr := hK r hr
    obtain ⟨xi, yi⟩ := hX i hi10
    have em : (if M.1 (b + 10 + 2 * i) 1 = M.1 (b + 10 + 2 * r) 1 then (1 : Int32) else (0 : Int32)) = (if i / 5 = r / 5 then 1 else 0) := by
      rw [rd _ _ (by omega), rd _ _ (by omega), ki.2, kr.2]
      by_cases c1 : i < 5 <;> by_cases c2 : r < 5
      · rw [if_pos c1, if_pos c2, if_pos rfl, if_pos (by omega)]
      · rw [if_pos c1, if_neg c2, if_neg n01, if_neg (by omega)]
      · rw [if_neg c1, if_pos c2, if_neg n10, if_neg (by omega)]
      · rw [if_neg c1, if_neg c2, if_pos rfl, if_pos (by omega)]
    have ep : (8 : Int32) + (if (if i / 5 = r / 5 then (1 : Int32) else 0) = 0 then (10 : Int32) else (0 : Int32)) + M.1 (b + 10 + 2 * i) 0 = nI (pl r i) := by
      rw [rd _ _ (by omega), ki.1]
      unfold pl
      by_cases c : i / 5 = r / 5
      · rw [if_pos c, if_neg n10, if_pos c, show (8 : Int32) = nI 8 from rfl, show (0 : Int32) = nI 0 from rfl, nI_add, nI_add]
      · rw [if_neg c, if_pos rfl, if_neg c, show (8 : Int32) = nI 8 from rfl, show (10 : Int32) = nI 10 from rfl, nI_add, nI_add]
    have hpl : pl r i + 5 < 28 := by unfold pl; split <;> omega
    have e5 : nI (pl r i) + (5 : Int32) = nI (pl r i + 5) := by rw [show (5 : Int32) = nI 5 from rfl, nI_add]
    rw [L_X2_sense_145, em, bd1_s, bd1_s, ep, bd1_s, put_eq (x := b + 2) (k := pl r i) rfl (by omega) (by decide), bd1_s, e5, put_eq (x := b + 2) (k := pl r i + 5) rfl hpl (by decide), bd1_s]
    have t1 : M.1 (b + 10 + 2 * r) 1 = (if r < 5 then 0 else 1) := by rw [rd _ _ (by omega)]; exact kr.2
    rw [seenX_eq (r := r) t1, seenY_eq (r := r) (by rw [gI (Or.inl (by omega))]; exact t1), gI (Or.inl (by omega)), rd _ 2 (by omega), rd _ 3 (by omega), xi, yi]
    obtain ⟨M', g1, g2, g3, g4⟩ := ih (i + 1) (setI (setI M (b + 2) (pl r i) (tX r (ρ (44 + 16 * i)))) (b + 2) (pl r i + 5) (tY r (ρ (44 + 16 * i + 1)))) (by omega) (hF.set.set) (fun j hj => by
      by_cases e : j = i
      · subst e
        exact ⟨by rw [gI (Or.inr (by omega)), gs_eI], gs_eI⟩
      · have hd : pl r j ≠ pl r i ∧ pl r j ≠ pl r i + 5 ∧ pl r j + 5 ≠ pl r i := by unfold pl; split <;> split <;> omega
        rw [gI (Or.inr (by omega)), gI (Or.inr (by omega)), gI (Or.inr (by omega)), gI (Or.inr (by omega))]
        exact hM j (by omega))
    refine ⟨M', g1, g2, fun k hk => ?_, g4⟩
    have : 8 ≤ pl r i := by unfold pl; omega
    rw [g3 k hk, gI (Or.inr (by omega)), gI (Or.inr (by omega))]
theorem sense_C {b t r : Nat} {SV : Nat → Nat → Prop} {A : Mem} {ρ : Nat → Int32} (hr : r < 10) (hH : HeadR b t A ρ) (hT : TalR b t A ρ) (hB : BallE b A ρ) (hR : ∀ s, s < 10 → RobR b SV A ρ s) : ∃ M', R_X2_sense b (b + 10 + 2 * r) (nI r) A = some M' ∧ SnF b A M' ∧ ∀ k, k < 28 → M'.1 (b + 2) k = senF ρ r k := by
  obtain ⟨hX, _, _, _, hV, _, kr⟩ := hR r hr
  have t1 : ∀ (M : Mem), SnF b A M → M.1 (b + 10 + 2 * r) 1 = (if r < 5 then 0 else 1) := fun M hM => by rw [hM.2 _ (by omega)]; exact kr.2
  have rd : ∀ (M : Mem), SnF b A M → ∀ d j, d ≠ b + 2 → M.1 d j = A.1 d j := fun M hM d j hd => by rw [hM.2 d hd]
  have F0 : SnF b A A := ⟨rfl, fun _ _ => rfl⟩
  have pe : ∀ (k : Nat) (w v : Int32) (M : Mem), w = nI k → k < 28 → U_X10_put (b + 2) w v 28 M = setI M (b + 2) k v := fun k w v M hw hk => put_eq hw hk (by decide)
  obtain ⟨g0, g1, _, q2, q3, q4, q5, _⟩ := hT
  unfold R_X2_sense
  simp only [bd1_s]
  rw [pe 0 0 _ _ rfl (by decide)]
  rw [seenX_eq (r := r) (t1 _ F0), hV.1]
  have F1 := F0.set (k := 0) (v := tX r (ρ (44 + 16 * r + 8)))
  obtain ⟨M1, hM1⟩ : ∃ M, M = setI A (b + 2) 0 (tX r (ρ (44 + 16 * r + 8))) := ⟨_, rfl⟩
  rw [← hM1] at F1 ⊢
  rw [pe 1 1 _ _ rfl (by decide), seenY_eq (r := r) (t1 _ F1), rd _ F1 (b + 10 + 2 * r) 11 (by omega), hV.2]
  have F2 := F1.set (k := 1) (v := tY r (ρ (44 + 16 * r + 9)))
  obtain ⟨M2, hM2⟩ : ∃ M, M = setI M1 (b + 2) 1 (tY r (ρ (44 + 16 * r + 9))) := ⟨_, rfl⟩
  rw [← hM2] at F2 ⊢
  rw [pe 2 2 _ _ rfl (by decide), seenX_eq (r := r) (t1 _ F2), rd _ F2 (b + 10 + 2 * r) 2 (by omega), hX.1]
  have F3 := F2.set (k := 2) (v := tX r (ρ (44 + 16 * r)))
  obtain ⟨M3, hM3⟩ : ∃ M, M = setI M2 (b + 2) 2 (tX r (ρ (44 + 16 * r))) := ⟨_, rfl⟩
  rw [← hM3] at F3 ⊢
  rw [pe 3 3 _ _ rfl (by decide), seenY_eq (r := r) (t1 _ F3), rd _ F3 (b + 10 + 2 * r) 3 (by omega), hX.2]
  have F4 := F3.set (k := 3) (v := tY r (ρ (44 + 16 * r + 1)))
  obtain ⟨M4, hM4⟩ : ∃ M, M = setI M3 (b + 2) 3 (tY r (ρ (44 + 16 * r + 1))) := ⟨_, rfl⟩
  rw [← hM4] at F4 ⊢
  have eh : V_X2_holding b (nI r) M4 = hldF ρ r := by
    unfold V_X2_holding hldF
    rw [rd _ F4 (b + 4) 2 (by omega), hB.2.2.2.1]
  rw [pe 4 4 _ _ rfl (by decide), eh]
  have F5 := F4.set (k := 4) (v := hldF ρ r)
  obtain ⟨M5, hM5⟩ : ∃ M, M = setI M4 (b + 2) 4 (hldF ρ r) := ⟨_, rfl⟩
  rw [← hM5] at F5 ⊢
  rw [pe 5 5 _ _ rfl (by decide), rd _ F5 b 7 (by omega), hH.2.2.1, ← hH.2.2.2.1]
  have F6 := F5.set (k := 5) (v := ρ 3)
  obtain ⟨M6, hM6⟩ : ∃ M, M = setI M5 (b + 2) 5 (ρ 3) := ⟨_, rfl⟩
  rw [← hM6] at F6 ⊢
  have el : (if M6.1 (b + 10 + 2 * r) 1 = 0 then M6.1 (b + 7) 0 - M6.1 (b + 7) 1 else -(M6.1 (b + 7) 0 - M6.1 (b + 7) 1)) = (if r < 5 then ρ 4 - ρ 5 else ρ 5 - ρ 4) := by
    rw [t1 _ F6, rd _ F6 (b + 7) 0 (by omega), rd _ F6 (b + 7) 1 (by omega), q2, q4, ← q3, ← q5]
    by_cases c : r < 5
    · rw [if_pos c, if_pos rfl, if_pos c]
    · rw [if_neg c, if_neg n10, if_neg c, Int32.neg_sub]
  rw [el, pe 6 6 _ _ rfl (by decide)]
  have F7 := F6.set (k := 6) (v := if r < 5 then ρ 4 - ρ 5 else ρ 5 - ρ 4)
  obtain ⟨M7, hM7⟩ : ∃ M, M = setI M6 (b + 2) 6 (if r < 5 then ρ 4 - ρ 5 else ρ 5 - ρ 4) := ⟨_, rfl⟩
  rw [← hM7] at F7 ⊢
  rw [pe 7 7 _ _ rfl (by decide), rd _ F7 (b + 10 + 2 * r) 2 (by omega), rd _ F7 (b + 10 + 2 * r) 3 (by omega), rd _ F7 (b + 10 + 2 * r) 10 (by omega), rd _ F7 (b + 10 + 2 * r) 11 (by omega), hX.1, hX.2, hV.1, hV.2]
  obtain ⟨dd, hdd⟩ : ∃ v, v = V_X10_distance (ρ (44 + 16 * r)) (ρ (44 + 16 * r + 1)) (ρ (44 + 16 * r + 8)) (ρ (44 + 16 * r + 9)) M7 := ⟨_, rfl⟩
  have hdd' : dd = V_X10_distance (ρ (44 + 16 * r)) (ρ (44 + 16 * r + 1)) (ρ (44 + 16 * r + 8)) (ρ (44 + 16 * r + 9)) ((fun _ _ => 0), (fun _ _ => 0)) := by rw [hdd]; unfold V_X10_distance; with_reducible rfl
  rw [← hdd]
  have F8 := F7.set (k := 7) (v := dd)
  obtain ⟨M', y1, y2, y3, y4⟩ := sense_loop (x2 := nI r) hr (fun s hs => (hR s hs).1) (fun s hs => (hR s hs).2.2.2.2.2.2) 10 0 (setI M7 (b + 2) 7 dd) rfl F8 (fun j hj => by omega)
  refine ⟨M', ?_, y2, fun k hk => ?_⟩
  · rw [bnd1_e y1]
  · obtain ⟨k0, k1, k2, k3, k4, k5, k6, k7⟩ := senF_k (ρ := ρ) (r := r)
    by_cases c : k < 8
    · rw [y3 k c]
      rcases (show k = 0 ∨ k = 1 ∨ k = 2 ∨ k = 3 ∨ k = 4 ∨ k = 5 ∨ k = 6 ∨ k = 7 by omega) with rfl | rfl | rfl | rfl | rfl | rfl | rfl | rfl
      · rw [k0, hM7, hM6, hM5, hM4, hM3, hM2, hM1]; simp (disch := omega) only [gI, gs_eI]
      · rw [k1, hM7, hM6, hM5, hM4, hM3, hM2]; simp (disch := omega) only [gI, gs_eI]
      · rw [k2, hM7, hM6, hM5, hM4, hM3]; simp (disch := omega) only [gI, gs_eI]
      · rw [k3, hM7, hM6, hM5, hM4]; simp (disch := omega) only [gI, gs_eI]
      · rw [k4, hM7, hM6, hM5]; simp (disch := omega) only [gI, gs_eI]
      · rw [k5, hM7, hM6]; simp (disch := omega) only [gI, gs_eI]
      · rw [k6, hM7]; simp (disch := omega) only [gI, gs_eI]
      · rw [k7, gs_eI, hdd']
    · obtain ⟨w, j, hw, hj, rfl⟩ : ∃ w j, w < 4 ∧ j < 5 ∧ k = 8 + 5 * w + j := ⟨(k - 8) / 5, (k - 8) % 5, by omega, by omega, by omega⟩
      have eF : senF ρ r (8 + 5 * w + j) = if w % 2 = 0 then tX r (ρ (44 + 16 * (5 * (if w < 2 then r / 5 else 1 - r / 5) + j))) else tY r (ρ (44 + 16 * (5 * (if w < 2 then r / 5 else 1 - r / 5) + j) + 1)) := by
        unfold senF
        rw [if_neg (by omega), if_neg (by omega), if_neg (by omega), if_neg (by omega), if_neg (by omega), if_neg (by omega), if_neg (by omega), if_neg (by omega), show (8 + 5 * w + j - 8) / 5 = w by omega, show (8 + 5 * w + j - 8) % 5 = j by omega]
      rw [eF]
      have hs : 5 * (if w < 2 then r / 5 else 1 - r / 5) + j < 10 := by split <;> omega
      have h4 := y4 _ hs
      have hp : pl r (5 * (if w < 2 then r / 5 else 1 - r / 5) + j) = 8 + (if w < 2 then 0 else 10) + j := by
        unfold pl
        by_cases c2 : w < 2
        · rw [if_pos c2, if_pos c2, if_pos (by omega)]; omega
        · rw [if_neg c2, if_neg c2, if_neg (by omega)]; omega
      rw [hp] at h4
      rcases (show w = 0 ∨ w = 1 ∨ w = 2 ∨ w = 3 by omega) with rfl | rfl | rfl | rfl
      · rw [if_pos (show 0 % 2 = 0 from rfl)]; exact h4.1
      · rw [if_neg (show ¬ 1 % 2 = 0 by decide), ← h4.2]
        rw [if_pos (show 1 < 2 by decide), show 8 + 5 * 1 + j = 8 + 0 + j + 5 by omega]
      · rw [if_pos (show 2 % 2 = 0 from rfl), ← h4.1]
        rw [if_neg (show ¬ 2 < 2 by decide)]
      · rw [if_neg (show ¬ 3 % 2 = 0 by decide), ← h4.2]
        rw [if_neg (show ¬ 3 < 2 by decide), show 8 + 5 * 3 + j = 8 + 10 + j + 5 by omega]
