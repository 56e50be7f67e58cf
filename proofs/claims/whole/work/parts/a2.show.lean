/-! ===== calls that only show ===== -/
section SHW
variable {K : Nat} {A B : Mem}
def Out (K : Nat) (A B : Mem) (f g : Option (Int32 × Mem)) : Prop := ∃ v A' B', f = some (v, A') ∧ g = some (v, B') ∧ GR (K + 50) A' B' ∧ LoA A A' ∧ HiB B B'
theorem LoA.rf : LoA A A := fun _ _ => ⟨rfl, rfl⟩
theorem HiB.rf : HiB B B := fun _ _ => ⟨rfl, rfl⟩
theorem SP.rf : SP A B A B := ⟨fun _ _ _ => ⟨rfl, rfl⟩, rfl, fun _ _ _ => rfl⟩
theorem GR.le (h : GR K A B) : GR (K + 50) A B := by
  obtain ⟨h1, h2, h3, h4, h5, h6, h7⟩ := h
  exact ⟨h1, h2, h3, h4, h5.cg (by omega) SP.rf (fun _ _ _ => rfl) rfl rfl, h6.cg (by omega) SP.rf (fun _ _ _ => rfl) rfl, h7⟩
theorem same_out {v : Int32} (h : GR K A B) : Out K A B (some (v, A)) (some (v, B)) := ⟨v, A, B, rfl, rfl, h.le, LoA.rf, HiB.rf⟩
theorem same_out' {v w : Int32} (h : GR K A B) (e : v = w) : Out K A B (some (v, A)) (some (w, B)) := by rw [e]; exact same_out h
theorem fin_V {x : Int32} : V_X10_finding x A = x := by
  unfold V_X10_finding
  split
  · rfl
  · split <;> rfl
theorem GR.fnd {i : Nat} (h : GR K A B) (hi : i < 5) : GR (K + 50) (setI A 1 i (A.1 1 i + 1)) (setI B 253 (i + 1) (B.1 253 (i + 1) + 1)) := by
  obtain ⟨h1, h2, h3, h4, h5, h6, h7⟩ := h
  have a : ∀ c, c ≠ 1 → (setI A 1 i (A.1 1 i + 1)).1 c = A.1 c := fun c hc => fI hc
  have b : ∀ c, c ≠ 253 → (setI B 253 (i + 1) (B.1 253 (i + 1) + 1)).1 c = B.1 c := fun c hc => fI hc
  have s : SP A B (setI A 1 i (A.1 1 i + 1)) (setI B 253 (i + 1) (B.1 253 (i + 1) + 1)) := ⟨fun c p1 _ => ⟨a c (by omega), rfl⟩, by rw [a 0 (by decide)], fun c _ p2 => b c (by omega)⟩
  refine ⟨h1.cg s (by rw [a 0 (by decide)]) (by rw [a 2 (by decide)]) (a 3 (by decide)) rfl (fun _ _ => by rw [b 242 (by decide)]) (b 243 (by decide)), fun j hj => ?_, h3.cg s (fun c p1 _ => a c (by omega)) (fun c p1 _ => b c (by omega)), h4.cg (by rw [a 0 (by decide)]) (a 15 (by decide)) (by rw [b 242 (by decide)]) (b 268 (by decide)), h5.cg (by omega) s (fun c p1 _ => a c (by omega)) (by rw [b 242 (by decide)]) (b 259 (by decide)), h6.cg (by omega) s (fun c p1 _ => a c (by omega)) (b 261 (by decide)), h7.cg (fun c p1 _ => a c (by omega)) (fun c p1 _ => a c (by omega)) (by rw [b 242 (by decide)]) (fun c p1 _ => b c (by omega))⟩
  by_cases c : j = i
  · subst c
    rw [gs_eI, gs_eI, h2 j hj]
  · rw [gI (Or.inr c), gI (Or.inr (by omega))]
    exact h2 j hj
theorem fin_out {x : Int32} (i : Nat) (h : GR K A B) (h1 : (-1001 : Int32) - x = nI i) (h2 : (-1000 : Int32) - x = nI (i + 1)) (hi : i < 5) : Out K A B (some (V_X10_finding x A, U_X10_finding x A)) (bnd2 (R_X11_finding x 259 B) (fun v M => some (v, M))) := by
  have e1 : U_X10_finding x A = setI A 1 i (A.1 1 i + 1) := by
    unfold U_X10_finding
    rw [h1, if_neg (nI_pos (by omega)), if_neg (nleL (y := 5) 5 hi rfl (by decide)), nI_clamp (by omega)]
  rw [fin_V, e1, find_M h2 (by omega), bnd2_s]
  exact ⟨x, _, _, rfl, rfl, h.fnd hi, fun d hd => ⟨fI (by omega), rfl⟩, fun d hd => ⟨fI (by omega), rfl⟩⟩
theorem finB (h : GR K A B) : Out K A B (some (V_X10_finding (-1001) A, U_X10_finding (-1001) A)) (bnd2 (R_X11_finding (-1001) 259 B) (fun v M => some (v, M))) := fin_out 0 h rfl rfl (by decide)
theorem finFull (h : GR K A B) : Out K A B (some (V_X10_finding (-1002) A, U_X10_finding (-1002) A)) (bnd2 (R_X11_finding (-1002) 259 B) (fun v M => some (v, M))) := fin_out 1 h rfl rfl (by decide)
theorem finS (h : GR K A B) : Out K A B (some (V_X10_finding (-1003) A, U_X10_finding (-1003) A)) (bnd2 (R_X11_finding (-1003) 259 B) (fun v M => some (v, M))) := fin_out 2 h rfl rfl (by decide)
theorem finN (h : GR K A B) : Out K A B (some (V_X10_finding (-1004) A, U_X10_finding (-1004) A)) (bnd2 (R_X11_finding (-1004) 259 B) (fun v M => some (v, M))) := fin_out 3 h rfl rfl (by decide)
theorem finT (h : GR K A B) : Out K A B (some (V_X10_finding (-1005) A, U_X10_finding (-1005) A)) (bnd2 (R_X11_finding (-1005) 259 B) (fun v M => some (v, M))) := fin_out 4 h rfl rfl (by decide)
theorem fault_sim : Sim K (fun M => some (V_X10_fault M, M)) (fun M => some (V_X11_fault M, M)) := fun A B h => by
  obtain ⟨q, _, _, _, h4, _⟩ := h.1
  exact same_out' h h4
/-- the match is open or closed, for both -/
theorem GM.o (h : GM K A B) : (A.1 122 6 = 0 ∧ V_X11_isMatch 259 B = 0) ∨ (¬ A.1 122 6 = 0 ∧ ¬ V_X11_isMatch 259 B = 0 ∧ ∃ t, t ≤ K ∧ KP 122 t (SVp A B) A (B.1 259)) := by
  rcases h.2 with ⟨h1, h2⟩ | ⟨t, ht, h⟩
  · left
    refine ⟨h1, ?_⟩
    unfold V_X11_isMatch
    rw [h2]
    rfl
  · right
    refine ⟨by rw [h.1.1]; decide, ?_, t, ht, h⟩
    unfold V_X11_isMatch
    rw [h.1.2.1]
    decide
theorem in_c {x hi : Int32} {n : Nat} (hn : n + 1 < 2 ^ 31) (hh : hi = nI n) : (x < 0 ∧ V_X11_in x 0 hi B = 0) ∨ (nI (n + 1) ≤ x ∧ ¬ x < 0 ∧ V_X11_in x 0 hi B = 0) ∨ ∃ j, j ≤ n ∧ x = nI j ∧ V_X11_in x 0 hi B = 1 := by
  rcases pk_ix x (n := n + 1) hn with h | h | ⟨j, hj, rfl⟩
  · exact Or.inl ⟨h, in_lt h⟩
  · right; left
    refine ⟨h, fun q => ?_, in_gt (by rw [hh]; exact lt_of_le1 h hn)⟩
    rw [Int32.le_iff_toInt_le, nI_toInt (by omega)] at h
    rw [Int32.lt_iff_toInt_lt] at q
    have : (0 : Int32).toInt = 0 := rfl
    omega
  · exact Or.inr (Or.inr ⟨j, by omega, rfl, inN (by omega) hh (by omega)⟩)
theorem count_sim {x : Int32} : Sim K (fun M => some (V_X10_count x M, U_X10_count x M)) (fun M => R_X11_count x 259 M) := fun A B h => by
  show Out K A B (some (V_X10_count x A, U_X10_count x A)) (R_X11_count x 259 B)
  have hGM := h.2.2.2.2.1
  obtain ⟨q, h1, h2, h3, h4, h5, ⟨T, n, h6, h7⟩, h8, h9, h10⟩ := h.1
  unfold V_X10_count U_X10_count R_X11_count
  by_cases c0 : x = 0
  · rw [if_pos c0, if_pos c0, if_pos c0]
    exact same_out' h (h2.trans h3.symm)
  rw [if_neg c0, if_neg c0, if_neg c0]
  by_cases c1 : x = 1
  · rw [if_pos c1, if_pos c1, if_pos c1]
    exact same_out' h (h6.1.trans h7.1.symm)
  rw [if_neg c1, if_neg c1, if_neg c1]
  by_cases c2 : x = 2
  · rw [if_pos c2, if_pos c2, if_pos c2, bd1_s]
    refine same_out' h ?_
    dsimp only
    rw [h2, h3]
    by_cases cq : q = 0
    · rw [cq]; rfl
    · rw [if_neg (nI_ne (y := 0) (b := 0) rfl cq (by omega) (by decide)), if_neg (nI_nle (by omega) (by omega))]
      obtain ⟨pg, hp⟩ := h10 0 (by omega)
      exact hp.1.1.trans hp.2.1.1.symm
  rw [if_neg c2, if_neg c2, if_neg c2]
  by_cases c3 : x = 3
  · rw [if_pos c3, if_pos c3, if_pos c3]
    exact same_out' h h.2.2.2.1.1
  rw [if_neg c3, if_neg c3, if_neg c3]
  by_cases c4 : x = 4
  · rw [if_pos c4, if_pos c4, if_pos c4, bd1_s]
    refine same_out' h ?_
    dsimp only
    rcases hGM.o with ⟨o1, o2⟩ | ⟨o1, o2, _⟩
    · rw [if_pos o1, if_pos o2]
    · rw [if_neg o1, if_neg o2]
  rw [if_neg c4, if_neg c4, if_neg c4]
  exact finB h
theorem found_sim {x : Int32} : Sim K (fun M => some (V_X10_found x M, U_X10_found x M)) (fun M => R_X11_found x 259 M) := fun A B h => by
  show Out K A B (some (V_X10_found x A, U_X10_found x A)) (R_X11_found x 259 B)
  have hF := h.2.1
  unfold V_X10_found U_X10_found R_X11_found
  by_cases c1 : (-1001 : Int32) < x
  · rw [if_pos c1, if_pos c1, in_gt c1, if_pos rfl, bnd2_id, bnd2_id]
    have := finB h
    rw [bnd2_id] at this
    exact this
  · rw [if_neg c1, if_neg c1]
    by_cases c2 : (-1006 : Int32) < x
    · rw [if_pos c2, if_pos c2]
      have c3 : ¬ x < (-1005 : Int32) := by
        rw [Int32.lt_iff_toInt_lt] at c2 ⊢
        have e1 : (-1006 : Int32).toInt = -1006 := by decide
        have e2 : (-1005 : Int32).toInt = -1005 := by decide
        omega
      rw [in_ok c3 c1, if_neg (show ¬ (1 : Int32) = 0 by decide)]
      have hx : ∃ i, i < 5 ∧ (-1001 : Int32) - x = nI i ∧ (-1000 : Int32) - x = nI (i + 1) := by
        rw [Int32.lt_iff_toInt_lt] at c1 c2
        have e1 : (-1006 : Int32).toInt = -1006 := by decide
        have e2 : (-1001 : Int32).toInt = -1001 := by decide
        have e3 : x.toInt = -1001 ∨ x.toInt = -1002 ∨ x.toInt = -1003 ∨ x.toInt = -1004 ∨ x.toInt = -1005 := by omega
        rcases e3 with e | e | e | e | e
        · have : x = -1001 := Int32.toInt_inj.mp (e.trans (by decide)); subst this; exact ⟨0, by decide, rfl, rfl⟩
        · have : x = -1002 := Int32.toInt_inj.mp (e.trans (by decide)); subst this; exact ⟨1, by decide, rfl, rfl⟩
        · have : x = -1003 := Int32.toInt_inj.mp (e.trans (by decide)); subst this; exact ⟨2, by decide, rfl, rfl⟩
        · have : x = -1004 := Int32.toInt_inj.mp (e.trans (by decide)); subst this; exact ⟨3, by decide, rfl, rfl⟩
        · have : x = -1005 := Int32.toInt_inj.mp (e.trans (by decide)); subst this; exact ⟨4, by decide, rfl, rfl⟩
      obtain ⟨i, hi, x1, x2⟩ := hx
      rw [x1, x2, at_eq (x := 1) rfl hi (by decide), ck_nI (by omega) (by omega), nI_clamp (by omega), bnd2_s]
      exact same_out' h (hF i hi)
    · have c3 : x < (-1005 : Int32) := by
        rw [Int32.lt_iff_toInt_lt] at c2 ⊢
        have e1 : (-1006 : Int32).toInt = -1006 := by decide
        have e2 : (-1005 : Int32).toInt = -1005 := by decide
        omega
      rw [if_neg c2, if_neg c2, in_lt c3, if_pos rfl, bnd2_id, bnd2_id]
      have := finB h
      rw [bnd2_id] at this
      exact this
/-! the ball, shown -/
def blF (ρ : Nat → Int32) (j : Nat) : Int32 := if j < 3 then ρ (14 + j) else if 0 ≤ ρ 16 then 0 else if ρ 17 ≤ 0 then 0 else ρ (14 + j)
theorem ballOf_M {x N at0 j : Nat} {M : Mem} (hN : at0 + 20 ≤ N) (h31 : N < 2 ^ 31) (hj : j < 6) : R_X11_ballOf x (nI at0) (nI j) N M = some (blF (fun i => M.1 x (at0 + i)) j) := by
  unfold R_X11_ballOf blF
  rw [show (16 : Int32) = nI 16 from rfl, show (17 : Int32) = nI 17 from rfl, show (14 : Int32) = nI 14 from rfl, nI_add, nI_add, nI_add, nI_add, ck_nI (by omega) (by omega), nI_clamp (by omega), ck_nI (by omega) (by omega), nI_clamp (by omega), ck_nI (by omega) (by omega), nI_clamp (by omega), show at0 + 14 + j = at0 + (14 + j) by omega]
  dsimp only
  by_cases c : j < 3
  · simp only [if_neg (show ¬ (3 : Int32) ≤ nI j from nI_ge (b := 3) c (by decide)), if_pos c]
    by_cases c1 : 0 ≤ M.1 x (at0 + 16)
    · rw [if_pos c1]; rfl
    · rw [if_neg c1]
      by_cases c2 : M.1 x (at0 + 17) ≤ 0
      · rw [if_pos c2]; rfl
      · rw [if_neg c2]; rfl
  · simp only [if_pos (show (3 : Int32) ≤ nI j from nI_le (a := 3) (by omega) (by omega)), if_neg c]
    by_cases c1 : 0 ≤ M.1 x (at0 + 16)
    · rw [if_pos c1, if_pos c1, bnd1_s, if_pos rfl]; rfl
    · rw [if_neg c1, if_neg c1]
      by_cases c2 : M.1 x (at0 + 17) ≤ 0
      · rw [if_pos c2, if_pos c2, bnd1_s, if_pos rfl]; rfl
      · rw [if_neg c2, if_neg c2, bnd1_s, if_neg (show ¬ (1 : Int32) = 0 by decide)]; rfl
theorem ballC {b t j : Nat} {ρ : Nat → Int32} (h : BallR b t A ρ) (hj : j < 6) : V_X0_shown (b + 4) (nI j) A = blF ρ j := by
  obtain ⟨⟨_, e0, e1, e2, e4, e5, e6⟩, hF, _⟩ := h
  have key : (ρ 16 = -1 ∧ ∃ p : Nat, p < 10 ∧ ρ 17 = nI p) ∨ (0 ≤ ρ 16 ∧ ρ 17 = 0 ∧ ρ 18 = 0 ∧ ρ 19 = 0) := by
    rcases hF with ⟨f1, f2, _⟩ | ⟨x, f1, f2, _, _, f3, f4, f5, _⟩
    · exact Or.inl ⟨f1, f2⟩
    · exact Or.inr ⟨by rw [f2]; exact nI_pos' (by omega), f3, f4, f5⟩
  unfold V_X0_shown blF
  dsimp only
  rcases (show j = 0 ∨ j = 1 ∨ j = 2 ∨ j = 3 ∨ j = 4 ∨ j = 5 by omega) with rfl | rfl | rfl | rfl | rfl | rfl
  · rw [if_pos (by decide), if_pos (by decide)]; exact e0
  · rw [if_neg (by decide), if_pos (by decide), if_pos (by decide)]; exact e1
  · rw [if_neg (by decide), if_neg (by decide), if_pos (by decide), if_pos (by decide)]; exact e2
  · rw [if_neg (by decide), if_neg (by decide), if_neg (by decide), if_pos (by decide), if_neg (by decide), e4]
    rcases key with ⟨k1, p, hp, k2⟩ | ⟨k1, k2, _⟩
    · rw [k1, if_neg m1_nle, k2]
      by_cases c : p = 0
      · rw [c]; rfl
      · rw [if_neg (nI_nle (by omega) (by omega))]
    · rw [if_pos k1, k2]
  · rw [if_neg (by decide), if_neg (by decide), if_neg (by decide), if_neg (by decide), if_pos (by decide), e4, e5, if_neg (show ¬ 4 < 3 by decide)]
    rcases key with ⟨k1, p, hp, k2⟩ | ⟨k1, k2, k3, _⟩
    · rw [k1, if_neg m1_nle]
    · rw [if_pos k1, k2]; rfl
  · rw [if_neg (by decide), if_neg (by decide), if_neg (by decide), if_neg (by decide), if_neg (by decide), e4, e6, if_neg (show ¬ 5 < 3 by decide)]
    rcases key with ⟨k1, p, hp, k2⟩ | ⟨k1, k2, k3, _⟩
    · rw [k1, if_neg m1_nle]
    · rw [if_pos k1, k2]; rfl
theorem nlt_of {x : Int32} {n : Nat} {y : Int32} (h : nI n ≤ x) (hy : y = nI n) : ¬ x < y := fun q => by
  rw [hy] at q
  rw [Int32.le_iff_toInt_le] at h
  rw [Int32.lt_iff_toInt_lt] at q
  omega
theorem ball_sim {x : Int32} : Sim K (fun M => some (V_X10_ball x M, U_X10_ball x M)) (fun M => R_X11_ball x 259 M) := fun A B h => by
  show Out K A B (some (V_X10_ball x A, U_X10_ball x A)) (R_X11_ball x 259 B)
  unfold V_X10_ball U_X10_ball R_X11_ball
  rcases h.2.2.2.2.1.o with ⟨o1, o2⟩ | ⟨o1, o2, t, ht, hK⟩
  · rw [if_pos o1, if_pos o1, if_pos o2]; exact finS h
  · rw [if_neg o1, if_neg o1, if_neg o2]
    rcases in_c (B := B) (x := x) (hi := 5) (n := 5) (by decide) rfl with ⟨c1, c2⟩ | ⟨c1, c2, c3⟩ | ⟨j, hj, rfl, c3⟩
    · rw [if_pos c1, if_pos c1, if_pos c2]; exact finB h
    · rw [if_neg c2, if_neg c2, if_neg (nlt_of (y := 6) c1 rfl), if_neg (nlt_of (y := 6) c1 rfl), if_pos c3]; exact finB h
    · rw [if_neg (nI_pos (by omega)), if_neg (nI_pos (by omega)), if_pos (ltL (y := 6) 6 (by omega) rfl (by decide)), if_pos (ltL (y := 6) 6 (by omega) rfl (by decide)), c3, if_neg (show ¬ (1 : Int32) = 0 by decide), show (0 : Int32) = nI 0 from rfl, bnd1_e (ballOf_M (by decide) (by decide) (by omega))]
      refine same_out' h ?_
      rw [show (126 : Nat) = 122 + 4 from rfl, ballC hK.2.2.1 (by omega)]
      unfold blF
      simp only [Nat.zero_add]
end SHW
