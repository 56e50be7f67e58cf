section LGU
variable {K : Nat} {A B : Mem}
theorem clr_C {x : Int32} : ∀ (k i : Nat) (M : Mem), i + k = 4 → (F_X1_clear_7 11 x k i M).2 = M.2 ∧ (∀ d, d ≠ 12 → d ≠ 13 → d ≠ 14 → (F_X1_clear_7 11 x k i M).1 d = M.1 d) ∧ ∀ c, c = 12 ∨ c = 13 ∨ c = 14 → ∀ j, (i ≤ j → j < 4 → (F_X1_clear_7 11 x k i M).1 c j = 0) ∧ (j < i → (F_X1_clear_7 11 x k i M).1 c j = M.1 c j) := by
  intro k
  induction k with
  | zero => intro i M hi; exact ⟨rfl, fun _ _ _ _ => rfl, fun c _ j => ⟨fun h1 h2 => absurd h2 (by omega), fun _ => rfl⟩⟩
  | succ k ih =>
    intro i M hi
    have e : F_X1_clear_7 11 x (k + 1) i M = F_X1_clear_7 11 x k (i + 1) (setI (setI (setI M 12 i 0) 13 i 0) 14 i 0) := by
      rw [F_X1_clear_7, put_eq (x := 11 + 1) rfl (show i < 4 by omega) (by decide), put_eq (x := 11 + 2) rfl (show i < 4 by omega) (by decide), put_eq (x := 11 + 3) rfl (show i < 4 by omega) (by decide)]
    obtain ⟨h1, h2, h3⟩ := ih (i + 1) (setI (setI (setI M 12 i 0) 13 i 0) 14 i 0) (by omega)
    rw [e]
    refine ⟨h1, fun d d1 d2 d3 => by rw [h2 d d1 d2 d3, fI d3, fI d2, fI d1], fun c hc j => ⟨fun p1 p2 => ?_, fun p => ?_⟩⟩
    · by_cases q : j = i
      · subst q
        rw [(h3 c hc j).2 (by omega)]
        rcases hc with rfl | rfl | rfl
        · rw [gI (Or.inl (by decide)), gI (Or.inl (by decide)), gs_eI]
        · rw [gI (Or.inl (by decide)), gs_eI]
        · rw [gs_eI]
      · exact (h3 c hc j).1 (by omega) p2
    · rw [(h3 c hc j).2 (by omega), gI (Or.inr (by omega)), gI (Or.inr (by omega)), gI (Or.inr (by omega))]
theorem clr_M {x y : Int32} : ∀ (k i : Nat) (M : Mem), i + k = 4 → ∃ M', L_X11_league_67 x y 259 k i M = some M' ∧ M'.2 = M.2 ∧ (∀ d, d ≠ 265 → d ≠ 266 → d ≠ 267 → M'.1 d = M.1 d) ∧ ∀ c, c = 265 ∨ c = 266 ∨ c = 267 → ∀ j, (i ≤ j → j < 4 → M'.1 c j = 0) ∧ (j < i → M'.1 c j = M.1 c j) := by
  intro k
  induction k with
  | zero => intro i M hi; exact ⟨M, rfl, rfl, fun _ _ _ _ => rfl, fun c _ j => ⟨fun h1 h2 => absurd h2 (by omega), fun _ => rfl⟩⟩
  | succ k ih =>
    intro i M hi
    obtain ⟨M', h0, h1, h2, h3⟩ := ih (i + 1) (setI (setI (setI M 265 i 0) 266 i 0) 267 i 0) (by omega)
    refine ⟨M', h0, h1, fun d d1 d2 d3 => by rw [h2 d d1 d2 d3, fI d3, fI d2, fI d1], fun c hc j => ⟨fun p1 p2 => ?_, fun p => ?_⟩⟩
    · by_cases q : j = i
      · subst q
        rw [(h3 c hc j).2 (by omega)]
        rcases hc with rfl | rfl | rfl
        · rw [gI (Or.inl (by decide)), gI (Or.inl (by decide)), gs_eI]
        · rw [gI (Or.inl (by decide)), gs_eI]
        · rw [gs_eI]
      · exact (h3 c hc j).1 (by omega) p2
    · rw [(h3 c hc j).2 (by omega), gI (Or.inr (by omega)), gI (Or.inr (by omega)), gI (Or.inr (by omega))]
theorem LG.init {s : Nat} {y : Int32} (hG : GR K A B) : ∃ B1, L_X11_league_67 (nI s) y 259 4 0 (setI B 242 42 (nI s)) = some B1 ∧ LG s 0 A B (U_X1_clear 11 (nI s) A) B1 := by
  obtain ⟨B1, h0, h1, h2, h3⟩ := clr_M (x := nI s) (y := y) 4 0 (setI B 242 42 (nI s)) rfl
  obtain ⟨g1, g2, g3⟩ := clr_C (x := nI s) 4 0 (setI A 11 0 (nI s)) rfl
  refine ⟨B1, h0, ?_⟩
  unfold U_X1_clear
  refine ⟨g1, fun d d1 d2 => ?_, h1, fun d d1 d2 d3 => ?_, fun j j1 j2 => ?_, ?_, fun r hr => ?_, ?_, ?_, fun i hi => ?_⟩
  · rw [g2 d (by omega) (by omega) (by omega), fI (by omega)]
  · rw [h2 d (by omega) (by omega) (by omega), fI d1]
  · rw [h2 242 (by decide) (by decide) (by decide), gI (Or.inr j2)]
  · rw [h2 242 (by decide) (by decide) (by decide), gI (Or.inr (by decide))]; exact hG.2.2.2.2.1.1
  · exact (hG.2.2.2.2.2.2.1 152 (Or.inr (Or.inl rfl)) r hr).cg (fun j _ => by rw [g2 _ (by omega) (by omega) (by omega), fI (by omega)])
  · rw [g2 11 (by decide) (by decide) (by decide), gs_eI]
  · rw [h2 242 (by decide) (by decide) (by decide), gs_eI]
  · have a1 := fun c hc => (g3 c hc i).1 (Nat.zero_le _) hi
    have b1 := fun c hc => (h3 c hc i).1 (Nat.zero_le _) hi
    exact ⟨⟨0, 0, 0, Nat.zero_le _, Nat.zero_le _, Nat.zero_le _, a1 12 (by omega), a1 13 (by omega), a1 14 (by omega)⟩, by rw [a1 12 (by omega), b1 265 (by omega)], by rw [a1 13 (by omega), b1 266 (by omega)], by rw [a1 14 (by omega), b1 267 (by omega)]⟩
/-- the model's count of the set bits -/
def b4 (x : Int32) : Int32 := (((0 + ((x >>> ((nI 0) &&& 31)) &&& 1)) + ((x >>> ((nI 1) &&& 31)) &&& 1)) + ((x >>> ((nI 2) &&& 31)) &&& 1)) + ((x >>> ((nI 3) &&& 31)) &&& 1)
theorem bits_M {x y : Int32} {M : Mem} : L_X11_league_5 x y 259 4 0 (0 : Int32) M = some (b4 x) := rfl
theorem bits_eq {s : Nat} {M : Mem} (hs : s < 16) : V_bits (nI s) M < 2 ↔ b4 (nI s) < 2 := by
  have key : ∀ s : Fin 16, V_bits (nI s.val) (fun _ _ => 0, fun _ _ => 0) = b4 (nI s.val) := by decide +kernel
  have e : V_bits (nI s) M = b4 (nI s) := key ⟨s, hs⟩
  rw [e]
theorem league_S {x y : Int32} : Sim K (fun M => R_X10_league x y M) (fun M => R_X11_league x y 259 260 M) := fun A B h => by
  show Out K A B (R_X10_league x y A) (R_X11_league x y 259 260 B)
  unfold R_X10_league R_X11_league
  rw [bd1_s, bnd1_e bits_M]
  rcases in_c (B := B) (x := x) (hi := 15) (n := 15) (by decide) rfl with ⟨c1, c2⟩ | ⟨c1, c2, c3⟩ | ⟨s, hs, rfl, c3⟩
  · rw [if_pos c1, if_pos rfl, if_pos c2]; exact finB h
  · rw [if_neg c2, if_pos (show (16 : Int32) ≤ x from c1), if_pos rfl, if_pos c3]; exact finB h
  rw [if_neg (nI_pos (by omega)), if_neg (nleL (y := 16) 16 (by omega) rfl (by decide)), c3, if_neg (show ¬ (1 : Int32) = 0 by decide)]
  by_cases cb : b4 (nI s) < 2
  · rw [if_pos ((bits_eq (by omega)).mpr cb), if_pos rfl, if_pos cb]; exact finB h
  rw [if_neg (fun q => cb ((bits_eq (by omega)).mp q)), if_neg (show ¬ (1 : Int32) = 0 by decide), if_neg cb]
  rcases pk_ix y (n := 61) (by decide) with c | c | ⟨j, hj, rfl⟩
  · have c1 : y < (1 : Int32) := by
      rw [Int32.lt_iff_toInt_lt] at c ⊢
      have e1 : (0 : Int32).toInt = 0 := rfl
      have e2 : (1 : Int32).toInt = 1 := rfl
      omega
    rw [if_pos c1, in_lt c1, if_pos rfl]; exact finB h
  · have c1 : ¬ y < (1 : Int32) := fun q => by
      rw [Int32.lt_iff_toInt_lt] at q
      rw [Int32.le_iff_toInt_le] at c
      have e1 : (nI 61).toInt = 61 := rfl
      have e2 : (1 : Int32).toInt = 1 := rfl
      omega
    have c2 : (60 : Int32) < y := lt_of_le1 (n := 60) c (by decide)
    have c3 : ¬ y ≤ (60 : Int32) := fun q => by
      rw [Int32.lt_iff_toInt_lt] at c2
      rw [Int32.le_iff_toInt_le] at q
      omega
    rw [if_neg c1, if_neg c3, in_gt c2, if_pos rfl]; exact finB h
  · by_cases c0 : j = 0
    · subst c0
      rw [if_pos (show nI 0 < (1 : Int32) by decide), in_lt (show nI 0 < (1 : Int32) by decide), if_pos rfl]; exact finB h
    · have c1 : ¬ nI j < (1 : Int32) := nltL (y := 1) 1 (by omega) rfl (by omega)
      have c2 : ¬ (60 : Int32) < nI j := nI_nlt (a := 60) (by omega) (by decide)
      rw [if_neg c1, if_pos (show nI j ≤ (60 : Int32) from nI_le (b := 60) (by omega) (by decide)), in_ok c1 c2, if_neg (show ¬ (1 : Int32) = 0 by decide)]
      obtain ⟨B1, e1, e2⟩ := LG.init (s := s) (y := nI j) h
      obtain ⟨v, A', B', e3, e4, e5⟩ := outer_S (s := s) (x := j) h (by omega) 4 0 0 0 _ _ rfl e2
      obtain ⟨g1, g2, g3⟩ := e5.gr h (by omega) (by omega)
      rw [bnd1_e e1, bnd2_e e3, bnd2_e e4]
      exact ⟨v, A', B', rfl, rfl, g1, g2, g3⟩
end LGU
