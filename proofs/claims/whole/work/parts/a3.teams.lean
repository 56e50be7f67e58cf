section TMS
variable {K : Nat} {A B : Mem}
theorem robot_sim {x y : Int32} : Sim K (fun M => some (V_X10_robot x y M, U_X10_robot x y M)) (fun M => R_X11_robot x y 259 M) := fun A B h => by
  show Out K A B (some (V_X10_robot x y A, U_X10_robot x y A)) (R_X11_robot x y 259 B)
  unfold V_X10_robot U_X10_robot R_X11_robot
  rcases h.2.2.2.2.1.o with ⟨o1, o2⟩ | ⟨o1, o2, t, ht, hK⟩
  · rw [if_pos o1, if_pos o1, if_pos o2]; exact finS h
  · rw [if_neg o1, if_neg o1, if_neg o2]
    rcases in_c (B := B) (x := x) (hi := 9) (n := 9) (by decide) rfl with ⟨c1, c2⟩ | ⟨c1, c2, c3⟩ | ⟨r, hr, rfl, c3⟩
    · rw [if_pos c1, if_pos c1, if_pos c2]; exact finB h
    · rw [if_neg c2, if_neg c2, if_pos (show (10 : Int32) ≤ x from c1), if_pos (show (10 : Int32) ≤ x from c1), if_pos c3]; exact finB h
    · rw [if_neg (nI_pos (by omega)), if_neg (nI_pos (by omega)), if_neg (nleL (y := 10) 10 (by omega) rfl (by decide)), if_neg (nleL (y := 10) 10 (by omega) rfl (by decide)), c3, if_neg (show ¬ (1 : Int32) = 0 by decide)]
      rcases in_c (B := B) (x := y) (hi := 10) (n := 10) (by decide) rfl with ⟨c1, c2⟩ | ⟨c1, c2, c3⟩ | ⟨w, hw, rfl, c3⟩
      · rw [if_pos c1, if_pos c1, if_pos c2]; exact finB h
      · rw [if_neg c2, if_neg c2, if_neg (nlt_of (y := 11) c1 rfl), if_neg (nlt_of (y := 11) c1 rfl), if_pos c3]; exact finB h
      · rw [if_neg (nI_pos (by omega)), if_neg (nI_pos (by omega)), if_pos (ltL (y := 11) 11 (by omega) rfl (by decide)), if_pos (ltL (y := 11) 11 (by omega) rfl (by decide)), c3, if_neg (show ¬ (1 : Int32) = 0 by decide), bnd1_e (of_eq (by omega) (by omega) rfl), nI_clamp (by omega)]
        refine same_out' h ?_
        obtain ⟨x1, _, x3, x4, x5, x6, _⟩ := hK.2.2.2.1 r (by omega)
        have own : ∀ i, i < 4 → V_X10_at (132 + 2 * r + 1) (nI (4 + i) - (4 : Int32)) 4 A = B.1 259 (44 + 16 * r + (4 + i)) := fun i hi => by
          rw [show (4 : Int32) = nI 4 from rfl, pk_sub (by omega), show 4 + i - 4 = i by omega, at_eq (x := 132 + 2 * r + 1) rfl hi (by decide)]
          have := x3.2.2.1 i hi
          rw [show 44 + 16 * r + (4 + i) = 44 + 16 * r + 4 + i by omega]; exact this
        unfold V_X5_shown
        dsimp only
        rcases (show w = 0 ∨ w = 1 ∨ w = 2 ∨ w = 3 ∨ w = 4 ∨ w = 5 ∨ w = 6 ∨ w = 7 ∨ w = 8 ∨ w = 9 ∨ w = 10 by omega) with rfl | rfl | rfl | rfl | rfl | rfl | rfl | rfl | rfl | rfl | rfl
        · exact x1.1
        · exact x1.2
        · exact x3.1
        · have e8 : A.1 (132 + 2 * r) 8 = B.1 259 (44 + 16 * r + 3) := x3.2.1
          show (if A.1 (132 + 2 * r) 8 = 0 then (0 : Int32) else 1) = _
          rw [e8]
          rcases x4.2.1 with e | e <;> rw [e] <;> rfl
        · exact own 0 (by decide)
        · exact own 1 (by decide)
        · exact own 2 (by decide)
        · exact own 3 (by decide)
        · exact x5.1
        · exact x5.2
        · exact x6
theorem score_sim {x : Int32} : Sim K (fun M => some (V_X10_score x M, U_X10_score x M)) (fun M => R_X11_score x 259 M) := fun A B h => by
  show Out K A B (some (V_X10_score x A, U_X10_score x A)) (R_X11_score x 259 B)
  unfold V_X10_score U_X10_score R_X11_score
  rcases h.2.2.2.2.1.o with ⟨o1, o2⟩ | ⟨o1, o2, t, ht, hK⟩
  · rw [if_pos o1, if_pos o1, if_pos o2]; exact finS h
  · rw [if_neg o1, if_neg o1, if_neg o2, bnd2_id]
    rcases in_c (B := B) (x := x) (hi := 8) (n := 8) (by decide) rfl with ⟨c1, c2⟩ | ⟨c1, c2, c3⟩ | ⟨w, hw, rfl, c3⟩
    · rw [if_pos c1, if_pos c1, if_pos c2]; exact finB h
    · rw [if_neg c2, if_neg c2, if_neg (nlt_of (y := 9) c1 rfl), if_neg (nlt_of (y := 9) c1 rfl), if_pos c3]; exact finB h
    · rw [if_neg (nI_pos (by omega)), if_neg (nI_pos (by omega)), if_pos (ltL (y := 9) 9 (by omega) rfl (by decide)), if_pos (ltL (y := 9) 9 (by omega) rfl (by decide)), c3, if_neg (show ¬ (1 : Int32) = 0 by decide), show (3 : Int32) = nI 3 from rfl, nI_add, ck_nI (by omega) (by omega), nI_clamp (by omega)]
      refine same_out' h ?_
      obtain ⟨_, _, h7, h3, _⟩ := hK.1
      obtain ⟨g0, g1, _, a1, a2, a3, a4, a5, a6, a7, _⟩ := hK.2.1
      have ap : ∀ i, i < 4 → V_X10_at (129 + 1) (nI (3 + i) - nI 3) 4 A = B.1 259 (3 + (3 + i)) := fun i hi => by
        rw [pk_sub (by omega), show 3 + i - 3 = i by omega, at_eq (x := 129 + 1) rfl hi (by decide)]
        have := a7 i hi
        rw [show 3 + (3 + i) = 6 + i by omega]; exact this
      unfold V_X7_shown
      dsimp only
      rcases (show w = 0 ∨ w = 1 ∨ w = 2 ∨ w = 3 ∨ w = 4 ∨ w = 5 ∨ w = 6 ∨ w = 7 ∨ w = 8 by omega) with rfl | rfl | rfl | rfl | rfl | rfl | rfl | rfl | rfl
      · exact h7.trans h3.symm
      · exact a1.trans a2.symm
      · exact a3.trans a4.symm
      · exact ap 0 (by decide)
      · exact ap 1 (by decide)
      · exact ap 2 (by decide)
      · exact ap 3 (by decide)
      · exact a5
      · exact a6
theorem mn20_le {n : Nat} : mn20 n ≤ 20 := by unfold mn20; split <;> omega
theorem listed_C {b t : Nat} {ρ : Nat → Int32} (h : TalR b t A ρ) (ht : t < 2 ^ 30) : ∃ m, m ≤ 20 ∧ V_X7_listed (b + 7) A = nI m ∧ ρ 12 = nI m ∧ ∀ i, i < m → A.1 (b + 9) i = ρ (24 + i) := by
  obtain ⟨g0, g1, h1, a1, _, a3, _, _, _, _, a8, a9⟩ := h
  refine ⟨mn20 (g0 + g1), mn20_le, ?_, a8, a9⟩
  unfold V_X7_listed mn20
  rw [a1, a3, nI_add]
  by_cases c : g0 + g1 < 20
  · rw [if_pos c, if_pos (ltL (y := 20) 20 c rfl (by decide))]
  · rw [if_neg c, if_neg (nltL (y := 20) 20 (by omega) rfl (by omega))]
    rfl
theorem goal_S {x : Int32} (hK0 : K < 2 ^ 29) : Sim K (fun M => some (V_X10_goal x M, U_X10_goal x M)) (fun M => R_X11_goal x 259 M) := fun A B h => by
  show Out K A B (some (V_X10_goal x A, U_X10_goal x A)) (R_X11_goal x 259 B)
  unfold V_X10_goal U_X10_goal R_X11_goal
  rcases h.2.2.2.2.1.o with ⟨o1, o2⟩ | ⟨o1, o2, t, ht, hK⟩
  · rw [if_pos o1, if_pos o1, if_pos o2]; exact finS h
  · obtain ⟨m, hm, e1, e2, e3⟩ := listed_C hK.2.1 (by omega)
    rw [if_neg o1, if_neg o1, if_neg o2, bnd2_id, show (129 : Nat) = 122 + 7 from rfl, e1, e2]
    rcases pk_ix x (n := m) (by omega) with c | c | ⟨j, hj, rfl⟩
    · rw [if_pos c, if_pos c, in_lt c, if_pos rfl]; exact finN h
    · have c0 : ¬ x < 0 := fun q => by
        rw [Int32.le_iff_toInt_le, nI_toInt (by omega)] at c
        rw [Int32.lt_iff_toInt_lt] at q
        have : (0 : Int32).toInt = 0 := rfl
        omega
      have c2 : nI m - 1 < x := by
        rw [Int32.le_iff_toInt_le, nI_toInt (by omega)] at c
        rw [Int32.lt_iff_toInt_lt, show (1 : Int32) = nI 1 from rfl, pk_sub_toInt (by omega) (by decide)]
        omega
      rw [if_neg c0, if_neg c0, if_neg (nlt_of c rfl), if_neg (nlt_of c rfl), in_gt c2, if_pos rfl]; exact finN h
    · have c2 : ¬ nI m - 1 < nI j := by
        rw [Int32.lt_iff_toInt_lt, show (1 : Int32) = nI 1 from rfl, pk_sub_toInt (by omega) (by decide), nI_toInt (by omega)]
        omega
      rw [if_neg (nI_pos (by omega)), if_neg (nI_pos (by omega)), if_pos (nI_lt hj (by omega)), if_pos (nI_lt hj (by omega)), in_ok (nI_pos (by omega)) c2, if_neg (show ¬ (1 : Int32) = 0 by decide), show (24 : Int32) = nI 24 from rfl, nI_add, ck_nI (by omega) (by omega), nI_clamp (by omega)]
      refine same_out' h ?_
      unfold V_X7_goalAt
      rw [at_eq (x := 122 + 7 + 2) rfl (show j < 20 by omega) (by decide)]
      exact e3 j hj
/-! the teams change -/
theorem GR.tm {A' B' : Mem} (h : GR K A B) (a : ∀ c, ¬ (106 ≤ c ∧ c < 122) → A'.1 c = A.1 c) (a2 : A'.2 = A.2) (b : ∀ c, ¬ (254 ≤ c ∧ c ≤ 258) → B'.1 c = B.1 c) (hR : TmR A' B') (hI : TmI (SVp A B) B') : GR (K + 50) A' B' := by
  obtain ⟨h1, h2, h3, h4, h5, h6, h7⟩ := h
  have s : SP A B A' B' := ⟨fun c p1 p2 => ⟨a c (by omega), by rw [a2]⟩, by rw [a 0 (by decide)], fun c _ p2 => b c (by omega)⟩
  exact ⟨h1.cg s (by rw [a 0 (by decide)]) (by rw [a 2 (by decide)]) (a 3 (by decide)) (by rw [a2]) (fun _ _ => by rw [b 242 (by decide)]) (b 243 (by decide)), h2.cg (a 1 (by decide)) (b 253 (by decide)), ⟨hR, hI.sv s.v⟩, h4.cg (by rw [a 0 (by decide)]) (a 15 (by decide)) (by rw [b 242 (by decide)]) (b 268 (by decide)), h5.cg (by omega) s (fun c p1 _ => a c (by omega)) (by rw [b 242 (by decide)]) (b 259 (by decide)), h6.cg (by omega) s (fun c p1 _ => a c (by omega)) (b 261 (by decide)), h7.cg (fun c p1 _ => a c (by omega)) (fun c p1 p2 => a c (by omega)) (by rw [b 242 (by decide)]) (fun c p1 p2 => b c (by omega))⟩
theorem isTeam_c {x : Int32} : (V_X10_isTeam x A = 0 ∧ V_X11_isTeam x B = 0) ∨ ∃ t, t < 4 ∧ x = nI t ∧ V_X10_isTeam x A = 1 ∧ V_X11_isTeam x B = 1 := by
  unfold V_X10_isTeam V_X11_isTeam
  dsimp only
  rcases in_c (B := B) (x := x) (hi := 3) (n := 3) (by decide) rfl with ⟨c1, c2⟩ | ⟨c1, c2, c3⟩ | ⟨r, hr, rfl, c3⟩
  · exact Or.inl ⟨if_pos c1, c2⟩
  · exact Or.inl ⟨by rw [if_neg c2, if_pos (show (4 : Int32) ≤ x from c1)], c3⟩
  · exact Or.inr ⟨r, by omega, rfl, by rw [if_neg (nI_pos (by omega)), if_neg (nleL (y := 4) 4 (by omega) rfl (by decide))], c3⟩
theorem isMember_c {x : Int32} : (V_X10_isMember x A = 0 ∧ V_X11_in x 0 4 B = 0) ∨ ∃ t, t < 5 ∧ x = nI t ∧ V_X10_isMember x A = 1 ∧ V_X11_in x 0 4 B = 1 := by
  unfold V_X10_isMember
  dsimp only
  rcases in_c (B := B) (x := x) (hi := 4) (n := 4) (by decide) rfl with ⟨c1, c2⟩ | ⟨c1, c2, c3⟩ | ⟨r, hr, rfl, c3⟩
  · exact Or.inl ⟨if_pos c1, c2⟩
  · exact Or.inl ⟨by rw [if_neg c2, if_pos (show (5 : Int32) ≤ x from c1)], c3⟩
  · exact Or.inr ⟨r, by omega, rfl, by rw [if_neg (nI_pos (by omega)), if_neg (nleL (y := 5) 5 (by omega) rfl (by decide))], c3⟩
theorem ix5 {t k : Nat} : (5 : Int32) * nI t + nI k = nI (5 * t + k) := by rw [show (5 : Int32) = nI 5 from rfl, pk_mul, nI_add]
theorem program_sim {x y z : Int32} : Sim K (fun M => R_X10_program x y z M) (fun M => R_X11_program x y z 259 M) := fun A B h => by
  show Out K A B (R_X10_program x y z A) (R_X11_program x y z 259 B)
  obtain ⟨q, h1, h2, h3, _, _, _, _, _, h10⟩ := h.1
  obtain ⟨hR, hI⟩ := h.2.2.1
  unfold R_X10_program R_X11_program
  rcases isTeam_c (A := A) (B := B) (x := x) with ⟨c1, c2⟩ | ⟨t, ht, rfl, c1, c2⟩
  · rw [if_pos c1, if_pos c2]; exact finB h
  rw [c1, c2, if_neg (show ¬ (1 : Int32) = 0 by decide), if_neg (show ¬ (1 : Int32) = 0 by decide)]
  rcases isMember_c (A := A) (B := B) (x := y) with ⟨c1, c2⟩ | ⟨k, hk, rfl, c1, c2⟩
  · rw [if_pos c1, if_pos c2]; exact finB h
  rw [c1, c2, if_neg (show ¬ (1 : Int32) = 0 by decide), if_neg (show ¬ (1 : Int32) = 0 by decide), h2, h3]
  have hz : (z < (-1 : Int32) ∧ V_X11_in z (-1) (nI q - 1) B = 0) ∨ (¬ z < (-1 : Int32) ∧ ¬ z < nI q ∧ V_X11_in z (-1) (nI q - 1) B = 0) ∨ (¬ z < (-1 : Int32) ∧ z < nI q ∧ V_X11_in z (-1) (nI q - 1) B = 1 ∧ (z = -1 ∨ ∃ p, p < q ∧ z = nI p)) := by
    have em : (-1 : Int32).toInt = -1 := by decide
    have eq1 : (nI q - 1 : Int32).toInt = (q : Int) - 1 := by rw [show (1 : Int32) = nI 1 from rfl, pk_sub_toInt (by omega) (by decide)]; rfl
    have eq0 : (nI q).toInt = q := nI_toInt (by omega)
    by_cases c : z < (-1 : Int32)
    · exact Or.inl ⟨c, in_lt c⟩
    · right
      by_cases c' : z < nI q
      · right
        refine ⟨c, c', in_ok c (fun g => ?_), ?_⟩
        · rw [Int32.lt_iff_toInt_lt] at c' g; omega
        · rcases pk_ix z (n := q) (by omega) with d | d | d
          · left
            rw [Int32.lt_iff_toInt_lt] at c d
            have : (0 : Int32).toInt = 0 := rfl
            exact Int32.toInt_inj.mp (by omega)
          · exact absurd c' (nlt_of d rfl)
          · exact Or.inr d
      · left
        refine ⟨c, c', in_gt ?_⟩
        rw [Int32.lt_iff_toInt_lt] at c' ⊢; omega
  rcases hz with ⟨d1, d2⟩ | ⟨d1, d2, d3⟩ | ⟨d1, d2, d3, d4⟩
  · rw [if_pos d1, if_pos d2]; exact finB h
  · rw [if_neg d1, if_neg d2, if_pos d3]; exact finB h
  rw [if_neg d1, if_pos d2, d3, if_neg (show ¬ (1 : Int32) = 0 by decide), ck_nI ht (by omega), ck_nI hk (by omega), ix5, ck_nI (by omega) (by omega), nI_clamp (by omega), nI_clamp (by omega), nI_clamp (by omega)]
  refine ⟨1, _, _, rfl, rfl, h.tm (A' := setI A (106 + 4 * t + 1) k z) (B' := setI B 254 (5 * t + k) z) (fun c hc => fI (by omega)) rfl (fun c hc => fI (by omega)) ?_ ?_, fun d hd => ⟨fI (by omega), rfl⟩, fun d hd => ⟨fI (by omega), rfl⟩⟩
  · intro t' ht'
    obtain ⟨r1, r2, r3⟩ := hR t' ht'
    refine ⟨fun k' hk' => ?_, by rw [gI (Or.inl (by omega)), gI (Or.inl (by decide))]; exact r2, by rw [gI (Or.inl (by omega)), gI (Or.inl (by decide))]; exact r3⟩
    obtain ⟨s1, s2, s3⟩ := r1 k' hk'
    refine ⟨?_, by rw [gI (Or.inl (by omega)), gI (Or.inl (by decide))]; exact s2, by rw [gI (Or.inl (by omega)), gI (Or.inl (by decide))]; exact s3⟩
    by_cases e : t' = t ∧ k' = k
    · obtain ⟨rfl, rfl⟩ := e
      rw [gs_eI, gs_eI]
    · rw [gI (by omega), gI (Or.inr (by omega))]; exact s1
  · intro t' ht'
    obtain ⟨r1, r2⟩ := hI t' ht'
    rw [fI (show 255 ≠ 254 by decide), fI (show 256 ≠ 254 by decide), fI (show 257 ≠ 254 by decide), fI (show 258 ≠ 254 by decide)]
    refine ⟨fun k' hk' => ⟨?_, (r1 k' hk').2⟩, r2⟩
    by_cases e : 5 * t' + k' = 5 * t + k
    · rw [e, gs_eI]
      rcases d4 with d4 | ⟨p, hp, d4⟩
      · exact Or.inl d4
      · obtain ⟨pg, hpg⟩ := h10 p hp
        exact Or.inr ⟨p, by omega, ⟨pg, hpg, hpg.2.2.1⟩, d4⟩
    · rw [gI (Or.inr e)]; exact (r1 k' hk').1
end TMS
