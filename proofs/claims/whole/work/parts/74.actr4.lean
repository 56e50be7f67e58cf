theorem t64 {n : Nat} (h : n < 2 ^ 31) : (nI n).toInt64 = Int64.ofNat n := by
  apply Int64.toInt_inj.mp
  rw [Int32.toInt_toInt64, nI_toInt h, Int64.toInt_ofNat_of_lt (by omega)]
/-- what follows an act's first word -/
theorem head_C {P i kd : Nat} {ws : List Tk} {A : Mem} (hP : 16 ≤ P) (hE : EndW ws) (hk : 3 ≤ kd ∧ kd ≤ 8) (hW : WRow A ws) (hR : RdI A i) (hi : i < ws.length) :
    (∃ nm tg w5 w3 i2 A2, pHead kd (ws.drop i) = .inl ((nm, tg, w5), ws.drop i2) ∧ i ≤ i2 ∧ i2 < ws.length ∧ (∀ K : Int64 → Int32 → Mem → Option Mem, bnd3 (if nI kd = (3 : Int32) then (bnd2 (R_X4_take 2 (26 : Int32) (26 : Int32) A) (fun v15 M15 => (some ((M15.2 2 8), (0 : Int32), M15)))) else (if nI kd = (4 : Int32) then (bnd2 (R_X4_take 2 (13 : Int32) (16 : Int32) A) (fun v13 M13 => bd1 ((v13 - (13 : Int32)).toInt64) (fun v14 => (some (v14, (1 : Int32), M13))))) else (if nI kd = (5 : Int32) then (some ((0 : Int64), (2 : Int32), A)) else (if nI kd = (6 : Int32) then (some ((0 : Int64), (2 : Int32), A)) else (if nI kd = (7 : Int32) then (some ((0 : Int64), (3 : Int32), A)) else (some ((0 : Int64), (0 : Int32), A))))))) K = K w3 (nI w5) A2) ∧ w3 = acV (kd, nm, tg, []) ∧ RdI A2 i2 ∧ FrT P A A2 ∧ (∀ d, d ≠ 2 → A2.1 d = A.1 d) ∧ (kd = 3 → w5 = 0) ∧ (kd = 4 → w5 = 1 ∧ tg < 4) ∧ (kd ≠ 4 → w5 = nsum kd)) ∨
    (∃ p A2 w3 w5, pHead kd (ws.drop i) = .inr p ∧ p ≤ 800 ∧ (∀ K : Int64 → Int32 → Mem → Option Mem, bnd3 (if nI kd = (3 : Int32) then (bnd2 (R_X4_take 2 (26 : Int32) (26 : Int32) A) (fun v15 M15 => (some ((M15.2 2 8), (0 : Int32), M15)))) else (if nI kd = (4 : Int32) then (bnd2 (R_X4_take 2 (13 : Int32) (16 : Int32) A) (fun v13 M13 => bd1 ((v13 - (13 : Int32)).toInt64) (fun v14 => (some (v14, (1 : Int32), M13))))) else (if nI kd = (5 : Int32) then (some ((0 : Int64), (2 : Int32), A)) else (if nI kd = (6 : Int32) then (some ((0 : Int64), (2 : Int32), A)) else (if nI kd = (7 : Int32) then (some ((0 : Int64), (3 : Int32), A)) else (some ((0 : Int64), (0 : Int32), A))))))) K = K w3 (nI w5) A2) ∧ RdF A2 p ∧ FrT P A A2 ∧ w5 < 10) := by
  obtain ⟨t, e⟩ := get_lt hi
  obtain ⟨w1, w2, w3, w4, w5, w6⟩ := hW.2 i t e
  rcases (by omega : kd = 3 ∨ kd = 4 ∨ kd = 5 ∨ kd = 6 ∨ kd = 7 ∨ kd = 8) with rfl | rfl | rfl | rfl | rfl | rfl
  · have T := take_C (x1 := 26) (x2 := 26) (k1 := 26) (k2 := 26) hW e hR rfl rfl (by decide) (by decide)
    unfold pHead
    rw [if_pos rfl, drop_c e]
    dsimp only [pWord]
    by_cases c : 26 ≤ t.1 ∧ t.1 ≤ 26
    · left
      rw [if_pos c] at T ⊢
      refine ⟨t.2.1, 0, 0, (tkC A i).2 2 8, i + 1, tkC A i, rfl, by omega, hE i t e (by omega), fun K => ?_, ?_, hR.t, FrT.tk hP, fun d hd => tkC_d hd, fun _ => rfl, fun q => by omega, fun _ => rfl⟩
      · rw [if_pos (show nI 3 = (3 : Int32) from rfl), bnd2_e T]; rfl
      · rw [tkC_v, w6 (by omega)]; rfl
    · right
      rw [if_neg c] at T ⊢
      refine ⟨t.2.2.2, _, (setI A 2 9 (nI t.2.2.2)).2 2 8, 0, rfl, w4, fun K => ?_, RdF.s, FrT.rd hP (Or.inr rfl), by decide⟩
      rw [if_pos (show nI 3 = (3 : Int32) from rfl), bnd2_e T]; rfl
  · have T := take_C (x1 := 13) (x2 := 16) (k1 := 13) (k2 := 16) hW e hR rfl rfl (by decide) (by decide)
    unfold pHead
    rw [if_neg (by decide), if_pos rfl, drop_c e]
    dsimp only [pWord]
    by_cases c : 13 ≤ t.1 ∧ t.1 ≤ 16
    · left
      rw [if_pos c] at T ⊢
      refine ⟨[], t.1 - 13, 1, Int64.ofNat (t.1 - 13), i + 1, tkC A i, rfl, by omega, hE i t e (by omega), fun K => ?_, rfl, hR.t, FrT.tk hP, fun d hd => tkC_d hd, fun q => by omega, fun _ => ⟨rfl, by omega⟩, fun q => by omega⟩
      rw [if_neg (show ¬ nI 4 = (3 : Int32) by decide), if_pos (show nI 4 = (4 : Int32) from rfl), bnd2_e T, show (13 : Int32) = nI 13 from rfl, pk_sub c.1, t64 (by omega)]; rfl
    · right
      rw [if_neg c] at T ⊢
      refine ⟨t.2.2.2, _, ((36 : Int32) - 13).toInt64, 1, rfl, w4, fun K => ?_, RdF.s, FrT.rd hP (Or.inr rfl), by decide⟩
      rw [if_neg (show ¬ nI 4 = (3 : Int32) by decide), if_pos (show nI 4 = (4 : Int32) from rfl), bnd2_e T]; rfl
  · left
    exact ⟨[], 0, 2, 0, i, A, rfl, Nat.le_refl _, hi, fun K => rfl, rfl, hR, FrT.rf, fun _ _ => rfl, fun q => by omega, fun q => by omega, fun _ => rfl⟩
  · left
    exact ⟨[], 0, 2, 0, i, A, rfl, Nat.le_refl _, hi, fun K => rfl, rfl, hR, FrT.rf, fun _ _ => rfl, fun q => by omega, fun q => by omega, fun _ => rfl⟩
  · left
    exact ⟨[], 0, 3, 0, i, A, rfl, Nat.le_refl _, hi, fun K => rfl, rfl, hR, FrT.rf, fun _ _ => rfl, fun q => by omega, fun q => by omega, fun _ => rfl⟩
  · left
    exact ⟨[], 0, 0, 0, i, A, rfl, Nat.le_refl _, hi, fun K => rfl, rfl, hR, FrT.rf, fun _ _ => rfl, fun q => by omega, fun q => by omega, fun _ => rfl⟩
