/-! ===== a goal ===== -/
/-- where the ball was, at the beginning of tick t -/
def PastE (b t : Nat) (A : Mem) (ρ : Nat → Int32) : Prop := ∃ kk : Nat, kk ≤ t ∧ ρ 13 = nI kk ∧ (kk < t → ∀ l, 1 ≤ l → l < 4 → A.1 (b + 5) ((t + 4 - l) % 4) = ρ (204 + mxk t l kk % 4) ∧ A.1 (b + 6) ((t + 4 - l) % 4) = ρ (208 + mxk t l kk % 4)) ∧ (kk = t → ∀ i, i < 4 → A.1 (b + 5) i = ρ 14 ∧ A.1 (b + 6) i = ρ 15)
/-- at the end of tick t, ahead of the counting -/
def EK (b mA t : Nat) (SV : Nat → Nat → Prop) (A0 B0 A B : Mem) : Prop := FrA b A0 A ∧ FrB mA B0 B ∧ B.1 242 30 = nI 10 ∧ HeadR b t A (B.1 mA) ∧ TalR b (t + 1) A (B.1 mA) ∧ BallR b t A (B.1 mA) ∧ (∀ r, r < 10 → RobR b SV A (B.1 mA) r) ∧ PastE b (t + 1) A (B.1 mA)
theorem PastT.e {b t : Nat} {A : Mem} {ρ : Nat → Int32} (h : PastT b t A ρ) : PastE b (t + 1) A ρ := by
  obtain ⟨kk, h1, h2, h3⟩ := h
  refine ⟨kk, by omega, h2, fun _ l hl1 hl2 => ?_, fun e => by omega⟩
  have h4 := h3 (l - 1) (by omega)
  rw [show t + 1 + 4 - l = t + 4 - (l - 1) by omega]
  rw [show mxk (t + 1) l kk = mxk t (l - 1) kk by unfold mxk; rw [show t + 1 - l = t - (l - 1) by omega]]
  exact h4
theorem TalR.up {b t u : Nat} {A : Mem} {ρ : Nat → Int32} (h : TalR b t A ρ) (hu : t ≤ u) : TalR b u A ρ := by
  obtain ⟨g0, g1, h1, h2⟩ := h
  exact ⟨g0, g1, Nat.le_trans h1 hu, h2⟩
theorem TK.ek {b mA t : Nat} {SV : Nat → Nat → Prop} {A0 B0 A B : Mem} (h : TK b mA t SV A0 B0 A B) : EK b mA t SV A0 B0 A B := by
  obtain ⟨h1, h2, h3, h4, h5, h6, h7, h8⟩ := h
  exact ⟨h1, h2, h3, h4, h5.up (by omega), h6, h7, h8.e⟩
/-- the class's tally behind a goal -/
def goalC (b t g : Nat) (team : Nat) (c : Int32) (A : Mem) : Mem := setI (if g < 20 then setI A (b + 9) g (nI (t + 1000 * team)) else A) (b + 7) team (c + 1)
def goalM (mA t g : Nat) (team : Nat) (c : Int32) (B : Mem) : Mem := if g < 20 then setI (setI (setI B mA (4 + team) (c + 1)) mA (24 + g) (nI (t + 1000 * team))) mA 12 (nI (g + 1)) else setI B mA (4 + team) (c + 1)
theorem addGoal_C {b t g0 g1 team : Nat} {x : Int32} {A : Mem} (hx : (team = 0 ∧ x = 0) ∨ (team = 1 ∧ x = 1)) (h0 : A.1 (b + 7) 0 = nI g0) (h1 : A.1 (b + 7) 1 = nI g1) (hg : g0 + g1 < 2 ^ 30) (ht : t < 2 ^ 30) : U_X7_addGoal (b + 7) x (nI t) A = goalC b t (g0 + g1) team (A.1 (b + 7) team) A := by
  have hput : ∀ v, U_X10_put (b + 7 + 2) (A.1 (b + 7) 0 + A.1 (b + 7) 1) v 20 A = if g0 + g1 < 20 then setI A (b + 9) (g0 + g1) v else A := by
    intro v
    rw [h0, h1, nI_add]
    by_cases c : g0 + g1 < 20
    · rw [if_pos c, put_eq rfl c (by decide)]
    · rw [if_neg c]
      unfold U_X10_put
      dsimp only
      rw [if_neg (nI_pos (by omega)), if_pos (leL (y := Int32.ofNat 20) 20 (by omega) rfl (by omega))]
  have hrd : ∀ v j, (if g0 + g1 < 20 then setI A (b + 9) (g0 + g1) v else A).1 (b + 7) j = A.1 (b + 7) j := by
    intro v j
    split
    · exact gI (Or.inl (by omega))
    · rfl
  unfold U_X7_addGoal goalC
  dsimp only
  rcases hx with ⟨rfl, rfl⟩ | ⟨rfl, rfl⟩
  · rw [if_pos rfl, if_pos rfl, hput, hrd, show t + 1000 * 0 = t by omega]
  · rw [if_neg n10, if_neg n10, hput, hrd, show (1000 : Int32) = nI 1000 from rfl, nI_add, show t + 1000 = t + 1000 * 1 by omega]
theorem goalC_o {b t g team c j : Nat} {v : Int32} {A : Mem} (h : c ≠ b + 7 ∧ c ≠ b + 9) : (goalC b t g team v A).1 c j = A.1 c j := by
  unfold goalC
  rw [gI (Or.inl h.1)]
  split
  · exact gI (Or.inl h.2)
  · rfl
theorem goalM_o {mA t g team k : Nat} {v : Int32} {B : Mem} (ht : team < 2) (h : k < 4 ∨ (6 ≤ k ∧ k < 12) ∨ (13 ≤ k ∧ k < 24) ∨ 44 ≤ k) : (goalM mA t g team v B).1 mA k = B.1 mA k := by
  unfold goalM
  split <;> simp (disch := omega) only [gI]
theorem goalM_c {mA t g team c : Nat} {v : Int32} {B : Mem} (h : c ≠ mA) : (goalM mA t g team v B).1 c = B.1 c := by
  unfold goalM
  split <;> simp (disch := omega) only [fI]
theorem goal_Tal {b mA t g0 g1 team : Nat} {A B : Mem} (htm : team < 2) (h : TalR b t A (B.1 mA)) (h0 : A.1 (b + 7) 0 = nI g0) (h1 : A.1 (b + 7) 1 = nI g1) (hg0 : g0 + g1 ≤ t) (ht : t < 2 ^ 30) : TalR b (t + 1) (goalC b t (g0 + g1) team (A.1 (b + 7) team) A) ((goalM mA t (g0 + g1) team (B.1 mA (4 + team)) B).1 mA) := by
  obtain ⟨a0, a1, q1, q2, q3, q4, q5, q6, q7, q8, q9, q10⟩ := h
  have e0 : a0 = g0 := (nI_eq (by omega) (by omega)).mp (q2.symm.trans h0)
  have e1 : a1 = g1 := (nI_eq (by omega) (by omega)).mp (q4.symm.trans h1)
  subst e0 e1
  have hm20 : a0 + a1 < 20 → mn20 (a0 + a1) = a0 + a1 ∧ mn20 (a0 + a1 + 1) = a0 + a1 + 1 := by
    intro c; unfold mn20; constructor
    · rw [if_pos c]
    · split <;> omega
  have hm21 : ¬ a0 + a1 < 20 → mn20 (a0 + a1) = 20 ∧ mn20 (a0 + a1 + 1) = 20 := by
    intro c; unfold mn20; constructor
    · rw [if_neg c]
    · rw [if_neg (by omega)]
  have rdC : ∀ j, (goalC b t (a0 + a1) team (A.1 (b + 7) team) A).1 (b + 7) j = if j = team then A.1 (b + 7) team + 1 else A.1 (b + 7) j := by
    intro j; unfold goalC
    by_cases c : j = team
    · subst c; rw [if_pos rfl, gs_eI]
    · rw [if_neg c, gI (Or.inr c)]
      split
      · exact gI (Or.inl (by omega))
      · rfl
  have rdM : ∀ j, j < 2 → (goalM mA t (a0 + a1) team (B.1 mA (4 + team)) B).1 mA (4 + j) = if j = team then B.1 mA (4 + team) + 1 else B.1 mA (4 + j) := by
    intro j hj; unfold goalM
    by_cases c : j = team
    · subst c; rw [if_pos rfl]; split <;> simp (disch := omega) only [gI, gs_eI]
    · rw [if_neg c]; split <;> simp (disch := omega) only [gI]
  have r0 := rdM 0 (by decide)
  have r1 := rdM 1 (by decide)
  have key : TalR b (t + 1) (goalC b t (a0 + a1) team (A.1 (b + 7) team) A) ((goalM mA t (a0 + a1) team (B.1 mA (4 + team)) B).1 mA) := by
    have c12 : (goalM mA t (a0 + a1) team (B.1 mA (4 + team)) B).1 mA 12 = nI (mn20 (a0 + a1 + 1)) := by
      unfold goalM
      by_cases c : a0 + a1 < 20
      · rw [if_pos c, gs_eI, (hm20 c).2]
      · rw [if_neg c, gI (Or.inr (by omega)), q9, (hm21 c).1, (hm21 c).2]
    have cg : ∀ i, i < mn20 (a0 + a1 + 1) → (goalC b t (a0 + a1) team (A.1 (b + 7) team) A).1 (b + 9) i = (goalM mA t (a0 + a1) team (B.1 mA (4 + team)) B).1 mA (24 + i) := by
      intro i hi
      unfold goalC goalM
      by_cases c : a0 + a1 < 20
      · rw [if_pos c, if_pos c]
        by_cases e : i = a0 + a1
        · subst e; simp (disch := omega) only [gI, gs_eI]
        · simp (disch := omega) only [gI]
          exact q10 i (by rw [(hm20 c).2] at hi; rw [(hm20 c).1]; omega)
      · rw [if_neg c, if_neg c, gI (Or.inl (by omega)), gI (Or.inr (by omega))]
        exact q10 i (by rw [(hm21 c).2] at hi; rw [(hm21 c).1]; exact hi)
    have c8 : ∀ i, i < 4 → (goalC b t (a0 + a1) team (A.1 (b + 7) team) A).1 (b + 8) i = (goalM mA t (a0 + a1) team (B.1 mA (4 + team)) B).1 mA (6 + i) := by
      intro i hi
      rw [goalC_o (by omega), goalM_o htm (by omega)]; exact q8 i hi
    rcases (show team = 0 ∨ team = 1 by omega) with rfl | rfl
    · refine ⟨a0 + 1, a1, by omega, ?_, ?_, ?_, ?_, ?_, ?_, c8, by rw [c12, show a0 + 1 + a1 = a0 + a1 + 1 by omega], fun i hi => cg i (by rw [show a0 + a1 + 1 = a0 + 1 + a1 by omega]; exact hi)⟩
      · rw [rdC, if_pos rfl, q2, nI_1]
      · rw [show (4 : Nat) = 4 + 0 from rfl] at q3 ⊢; rw [r0, if_pos rfl, q3, nI_1]
      · rw [rdC, if_neg (by decide)]; exact q4
      · rw [show (5 : Nat) = 4 + 1 from rfl]; rw [r1, if_neg (by decide)]; exact q5
      · rw [rdC, if_neg (by decide), goalM_o htm (by omega)]; exact q6
      · rw [rdC, if_neg (by decide), goalM_o htm (by omega)]; exact q7
    · refine ⟨a0, a1 + 1, by omega, ?_, ?_, ?_, ?_, ?_, ?_, c8, by rw [c12, show a0 + (a1 + 1) = a0 + a1 + 1 by omega], fun i hi => cg i (by rw [show a0 + a1 + 1 = a0 + (a1 + 1) by omega]; exact hi)⟩
      · rw [rdC, if_neg (by decide)]; exact q2
      · rw [show (4 : Nat) = 4 + 0 from rfl] at q3 ⊢; rw [r0, if_neg (by decide)]; exact q3
      · rw [rdC, if_pos rfl, q4, nI_1]
      · rw [show (5 : Nat) = 4 + 1 from rfl] at q5 ⊢; rw [r1, if_pos rfl, q5, nI_1]
      · rw [rdC, if_neg (by decide), goalM_o htm (by omega)]; exact q6
      · rw [rdC, if_neg (by decide), goalM_o htm (by omega)]; exact q7
  exact key
