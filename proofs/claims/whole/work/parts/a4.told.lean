section TLD
variable {K : Nat} {A B : Mem}
theorem start_S {x y z w : Int32} : Sim K (fun M => R_X10_start x y z w M) (fun M => R_X11_start x y z w 259 M) := fun A B h => by
  show Out K A B (R_X10_start x y z w A) (R_X11_start x y z w 259 B)
  obtain ⟨hR, hI⟩ := h.2.2.1
  unfold R_X10_start R_X11_start
  rw [bd1_s]
  rcases isTeam_c (A := A) (B := B) (x := x) with ⟨c1, c2⟩ | ⟨t, ht, rfl, c1, c2⟩
  · rw [if_pos c1, if_pos c2]; exact finB h
  rw [c1, c2, if_neg (show ¬ (1 : Int32) = 0 by decide), if_neg (show ¬ (1 : Int32) = 0 by decide)]
  rcases isMember_c (A := A) (B := B) (x := y) with ⟨c1, c2⟩ | ⟨k, hk, rfl, c1, c2⟩
  · rw [if_pos c1, if_pos c2]; exact finB h
  rw [c1, c2, if_neg (show ¬ (1 : Int32) = 0 by decide), if_neg (show ¬ (1 : Int32) = 0 by decide)]
  rcases in_c (B := B) (x := z) (hi := 6) (n := 6) (by decide) rfl with ⟨d1, d2⟩ | ⟨d1, d2, d3⟩ | ⟨sx, hsx, rfl, d3⟩
  · rw [if_pos d1, if_pos rfl, if_pos d2]; exact finB h
  · rw [if_neg d2, if_pos (show (7 : Int32) ≤ z from d1), if_pos rfl, if_pos d3]; exact finB h
  rw [if_neg (nI_pos (by omega)), if_neg (nleL (y := 7) 7 (by omega) rfl (by decide)), d3, if_neg (show ¬ (1 : Int32) = 0 by decide)]
  rcases in_c (B := B) (x := w) (hi := 8) (n := 8) (by decide) rfl with ⟨d1, d2⟩ | ⟨d1, d2, d3⟩ | ⟨sy, hsy, rfl, d3⟩
  · rw [if_pos d1, if_pos rfl, if_pos d2]; exact finB h
  · rw [if_neg d2, if_pos (show (9 : Int32) ≤ w from d1), if_pos rfl, if_pos d3]; exact finB h
  rw [if_neg (nI_pos (by omega)), if_neg (nleL (y := 9) 9 (by omega) rfl (by decide)), d3, if_neg (show ¬ (1 : Int32) = 0 by decide), if_neg (show ¬ (1 : Int32) = 0 by decide), ck_nI ht (by omega), ck_nI hk (by omega), ck_nI ht (by omega), ck_nI hk (by omega), ix5, ck_nI (by omega) (by omega), ck_nI (by omega) (by omega), nI_clamp (by omega), nI_clamp (by omega), nI_clamp (by omega)]
  refine ⟨1, _, _, rfl, rfl, h.tm (A' := setI (setI A (106 + 4 * t + 2) k (nI sx)) (106 + 4 * t + 3) k (nI sy)) (B' := setI (setI B 255 (5 * t + k) (nI sx)) 256 (5 * t + k) (nI sy)) (fun c hc => by rw [fI (by omega), fI (by omega)]) rfl (fun c hc => by rw [fI (by omega), fI (by omega)]) ?_ ?_, fun d hd => ⟨by rw [fI (by omega), fI (by omega)], rfl⟩, fun d hd => ⟨by rw [fI (by omega), fI (by omega)], rfl⟩⟩
  · intro t' ht'
    obtain ⟨r1, r2, r3⟩ := hR t' ht'
    refine ⟨fun k' hk' => ?_, by rw [gI (Or.inl (by omega)), gI (Or.inl (by omega)), gI (Or.inl (by decide)), gI (Or.inl (by decide))]; exact r2, by rw [gI (Or.inl (by omega)), gI (Or.inl (by omega)), gI (Or.inl (by decide)), gI (Or.inl (by decide))]; exact r3⟩
    obtain ⟨s1, s2, s3⟩ := r1 k' hk'
    refine ⟨by rw [gI (Or.inl (by omega)), gI (Or.inl (by omega)), gI (Or.inl (by decide)), gI (Or.inl (by decide))]; exact s1, ?_, ?_⟩
    · rw [gI (Or.inl (by omega)), gI (b := 255) (Or.inl (by decide))]
      by_cases e : t' = t ∧ k' = k
      · obtain ⟨rfl, rfl⟩ := e
        rw [gs_eI, gs_eI]
      · rw [gI (by omega), gI (Or.inr (by omega))]; exact s2
    · by_cases e : t' = t ∧ k' = k
      · obtain ⟨rfl, rfl⟩ := e
        rw [gs_eI, gs_eI]
      · rw [gI (by omega), gI (b := 256) (Or.inr (by omega)), gI (Or.inl (by omega)), gI (Or.inl (by decide))]; exact s3
  · intro t' ht'
    obtain ⟨r1, r2⟩ := hI t' ht'
    rw [fI (b := 254) (by decide), fI (b := 254) (by decide), fI (b := 257) (by decide), fI (b := 257) (by decide), fI (b := 258) (by decide), fI (b := 258) (by decide)]
    refine ⟨fun k' hk' => ⟨(r1 k' hk').1, ?_⟩, r2⟩
    by_cases e : 5 * t' + k' = 5 * t + k
    · rw [e, gI (b := 255) (Or.inl (by decide)), gs_eI, gs_eI]
      exact ⟨sx, sy, by omega, by omega, rfl, rfl⟩
    · rw [gI (b := 255) (Or.inl (by decide)), gI (b := 255) (Or.inr e), gI (b := 256) (Or.inr e), gI (b := 256) (Or.inl (by decide))]
      exact (r1 k' hk').2
theorem views_S {x y z : Int32} : Sim K (fun M => R_X10_views x y z M) (fun M => R_X11_views x y z 259 M) := fun A B h => by
  show Out K A B (R_X10_views x y z A) (R_X11_views x y z 259 B)
  obtain ⟨hR, hI⟩ := h.2.2.1
  unfold R_X10_views R_X11_views
  rw [bd1_s, bd1_s]
  rcases isTeam_c (A := A) (B := B) (x := x) with ⟨c1, c2⟩ | ⟨t, ht, rfl, c1, c2⟩
  · rw [if_pos c1, if_pos c2]; exact finB h
  rw [c1, c2, if_neg (show ¬ (1 : Int32) = 0 by decide), if_neg (show ¬ (1 : Int32) = 0 by decide)]
  rcases in_c (B := B) (x := y) (hi := 3) (n := 3) (by decide) rfl with ⟨d1, d2⟩ | ⟨d1, d2, d3⟩ | ⟨l, hl, rfl, d3⟩
  · rw [if_pos d1, if_pos rfl, if_pos d2]; exact finB h
  · rw [if_neg d2, if_pos (show (3 : Int32) < y from lt_of_le1 (n := 3) d1 (by decide)), if_pos rfl, if_pos d3]; exact finB h
  rw [if_neg (nI_pos (by omega)), if_neg (show ¬ (3 : Int32) < nI l from nI_nlt (a := 3) (by omega) (by decide)), d3, if_neg (show ¬ (1 : Int32) = 0 by decide), if_neg (show ¬ (1 : Int32) = 0 by decide)]
  have hz : (¬ z = 0 ∧ V_X11_in z 2 9 B = 0 ∧ (if z < (2 : Int32) then (0 : Int32) else (if (9 : Int32) < z then (0 : Int32) else (1 : Int32))) = 0) ∨ ((z = 0 ∨ (¬ z = 0 ∧ V_X11_in z 2 9 B = 1 ∧ (if z < (2 : Int32) then (0 : Int32) else (if (9 : Int32) < z then (0 : Int32) else (1 : Int32))) = 1)) ∧ ∃ m : Nat, m < 10 ∧ z = nI m) := by
    by_cases c0 : z = 0
    · exact Or.inr ⟨Or.inl c0, 0, by decide, c0⟩
    · by_cases c1 : z < (2 : Int32)
      · exact Or.inl ⟨c0, in_lt c1, if_pos c1⟩
      · by_cases c2 : (9 : Int32) < z
        · exact Or.inl ⟨c0, in_gt c2, by rw [if_neg c1, if_pos c2]⟩
        · refine Or.inr ⟨Or.inr ⟨c0, in_ok c1 c2, by rw [if_neg c1, if_neg c2]⟩, ?_⟩
          rcases pk_ix z (n := 10) (by decide) with d | d | ⟨j, hj, d⟩
          · exfalso
            rw [Int32.lt_iff_toInt_lt] at c1 d
            have e1 : (0 : Int32).toInt = 0 := rfl
            have e2 : (2 : Int32).toInt = 2 := rfl
            omega
          · exact absurd (lt_of_le1 (n := 9) d (by decide)) c2
          · exact ⟨j, hj, d⟩
  rcases hz with ⟨e1, e2, e3⟩ | ⟨e1, m, hm, ez⟩
  · rw [if_neg e1, if_neg e1, e3, if_pos rfl, if_pos e2]
    have := finB h
    rw [bnd2_id] at this
    obtain ⟨v, A', B', f1, f2, f3⟩ := this
    refine ⟨v, A', B', f1, ?_, f3⟩
    rw [bnd2_e f2]
    rfl
  · have g1 : (if z = 0 then (1 : Int32) else (if z < (2 : Int32) then (0 : Int32) else (if (9 : Int32) < z then (0 : Int32) else (1 : Int32)))) = 1 := by
      rcases e1 with e | ⟨e, _, e'⟩
      · rw [if_pos e]
      · rw [if_neg e, e']
    have g2 : ∀ X : Option ((Int32 × Mem) ⊕ Unit), (if z = 0 then (some (.inr ())) else (if (V_X11_in z 2 9 B) = 0 then X else (some (.inr ())))) = some (.inr ()) := by
      intro X
      rcases e1 with e | ⟨e, e', _⟩
      · rw [if_pos e]
      · rw [if_neg e, e', if_neg (show ¬ (1 : Int32) = 0 by decide)]
    rw [g1, if_neg (show ¬ (1 : Int32) = 0 by decide), g2, br1_r, ck_nI ht (by omega), ck_nI ht (by omega), ck_nI ht (by omega), ck_nI ht (by omega), nI_clamp (by omega)]
    refine ⟨1, _, _, rfl, rfl, h.tm (A' := setI (setI A (106 + 4 * t) 3 (nI l)) (106 + 4 * t) 4 z) (B' := setI (setI B 257 t (nI l)) 258 t z) (fun c hc => by rw [fI (by omega), fI (by omega)]) rfl (fun c hc => by rw [fI (by omega), fI (by omega)]) ?_ ?_, fun d hd => ⟨by rw [fI (by omega), fI (by omega)], rfl⟩, fun d hd => ⟨by rw [fI (by omega), fI (by omega)], rfl⟩⟩
    · intro t' ht'
      obtain ⟨r1, r2, r3⟩ := hR t' ht'
      refine ⟨fun k' hk' => ?_, ?_, ?_⟩
      · rw [fI (b := 106 + 4 * t' + 1) (by omega), fI (b := 106 + 4 * t' + 1) (by omega), fI (b := 106 + 4 * t' + 2) (by omega), fI (b := 106 + 4 * t' + 2) (by omega), fI (b := 106 + 4 * t' + 3) (by omega), fI (b := 106 + 4 * t' + 3) (by omega), fI (b := 254) (by decide), fI (b := 254) (by decide), fI (b := 255) (by decide), fI (b := 255) (by decide), fI (b := 256) (by decide), fI (b := 256) (by decide)]
        exact r1 k' hk'
      · by_cases e : t' = t
        · subst e
          rw [gI (Or.inr (by decide)), gs_eI, gI (Or.inl (by decide)), gs_eI]
        · rw [gI (Or.inl (by omega)), gI (Or.inl (by omega)), gI (b := 257) (Or.inl (by decide)), gI (Or.inr e)]; exact r2
      · by_cases e : t' = t
        · subst e
          rw [gs_eI, gs_eI]
        · rw [gI (Or.inl (by omega)), gI (Or.inl (by omega)), gI (b := 258) (Or.inr e), gI (Or.inl (by decide))]; exact r3
    · intro t' ht'
      obtain ⟨r1, r2, r3⟩ := hI t' ht'
      rw [fI (b := 254) (by decide), fI (b := 254) (by decide), fI (b := 255) (by decide), fI (b := 255) (by decide), fI (b := 256) (by decide), fI (b := 256) (by decide)]
      refine ⟨r1, ?_, ?_⟩
      · by_cases e : t' = t
        · subst e
          rw [gI (Or.inl (by decide)), gs_eI]
          exact ⟨l, by omega, rfl⟩
        · rw [gI (b := 257) (Or.inl (by decide)), gI (Or.inr e)]; exact r2
      · by_cases e : t' = t
        · subst e
          rw [gs_eI]
          exact ⟨m, hm, ez⟩
        · rw [gI (b := 258) (Or.inr e), gI (Or.inl (by decide))]; exact r3
/-! what is told -/
theorem GR.to {A' B' : Mem} (h : GR K A B) (a : ∀ c, c ≠ 0 → c ≠ 15 → A'.1 c = A.1 c) (a0 : ∀ j, j ≠ 9 → A'.1 0 j = A.1 0 j) (a2 : A'.2 = A.2) (b : ∀ c, c ≠ 242 → c ≠ 268 → B'.1 c = B.1 c) (b0 : ∀ j, j ≠ 46 → B'.1 242 j = B.1 242 j) (hO : GO A' B') : GR K A' B' := by
  obtain ⟨h1, h2, h3, h4, h5, h6, h7⟩ := h
  have s : SP A B A' B' := ⟨fun c p1 p2 => ⟨a c (by omega) (by omega), by rw [a2]⟩, a0 10 (by decide), fun c p1 p2 => b c (by omega) (by omega)⟩
  exact ⟨h1.cg s (a0 11 (by decide)) (by rw [a 2 (by decide) (by decide)]) (a 3 (by decide) (by decide)) (by rw [a2]) (fun j hj => b0 j (by omega)) (b 243 (by decide) (by decide)), h2.cg (a 1 (by decide) (by decide)) (b 253 (by decide) (by decide)), h3.cg s (fun c p1 _ => a c (by omega) (by omega)) (fun c p1 p2 => b c (by omega) (by omega)), hO, h5.cg (Nat.le_refl _) s (fun c p1 _ => a c (by omega) (by omega)) (b0 30 (by decide)) (b 259 (by decide) (by decide)), h6.cg (Nat.le_refl _) s (fun c p1 _ => a c (by omega) (by omega)) (b 261 (by decide) (by decide)), h7.cg (fun c p1 _ => a c (by omega) (by omega)) (fun c p1 p2 => a c (by omega) (by omega)) (b0 42 (by decide)) (fun c p1 p2 => b c (by omega) (by omega))⟩
theorem tell_S {x : Int32} : Sim K (fun M => R_X10_tell x M) (fun M => R_X11_tell x 259 M) := fun A B h => by
  show Out K A B (R_X10_tell x A) (R_X11_tell x 259 B)
  obtain ⟨o1, ⟨c, hc, o2⟩, o3⟩ := h.2.2.2.1
  have o4 : B.1 242 46 = nI c := o1.symm.trans o2
  unfold R_X10_tell R_X11_tell
  rw [o2, o4]
  by_cases c20 : c = 20
  · subst c20
    rw [if_neg (show ¬ nI 20 < (20 : Int32) by decide), if_pos (show nI 20 = (20 : Int32) from rfl)]
    exact finFull h
  · rw [if_pos (ltL (y := 20) 20 (by omega) rfl (by decide)), if_neg (nI_ne (y := 20) (b := 20) rfl c20 (by omega) (by decide)), ck_nI (by omega) (by omega), ck_nI (by omega) (by omega), nI_clamp (by omega), nI_1]
    refine ⟨nI (c + 1), _, _, rfl, rfl, (h.to (A' := setI (setI A 15 c x) 0 9 (nI (c + 1))) (B' := setI (setI B 268 c x) 242 46 (nI (c + 1))) (fun d p1 p2 => by rw [fI p1, fI p2]) (fun j hj => by rw [gI (Or.inr hj), gI (Or.inl (by decide))]) rfl (fun d p1 p2 => by rw [fI p1, fI p2]) (fun j hj => by rw [gI (Or.inr hj), gI (Or.inl (by decide))]) ⟨by rw [gs_eI, gs_eI], ⟨c + 1, by omega, gs_eI⟩, fun i hi => ?_⟩).le, fun d hd => ⟨by rw [fI (by omega), fI (by omega)], rfl⟩, fun d hd => ⟨by rw [fI (by omega), fI (by omega)], rfl⟩⟩
    rw [gI (Or.inl (by decide)), gI (b := 268) (Or.inl (by decide))]
    by_cases e : i = c
    · rw [e, gs_eI, gs_eI]
    · rw [gI (Or.inr e), gI (Or.inr e)]; exact o3 i hi
theorem check_loop {c m : Nat} {A1 B1 : Mem} (hm : m ≤ 20) (hc : c ≤ 20) (h12 : B1.1 259 12 = nI m) (hg : ∀ i, i < m → A1.1 131 i = B1.1 259 (24 + i)) (ht : ∀ i, i < 20 → A1.1 15 i = B1.1 268 i) : ∀ (k i f : Nat), i + k = m → k < f → ∃ o : Option Int32, L_X10_check_41 (nI c) (nI m) f (nI i) A1 = some (match o with | some v => .inl (v, A1) | none => .inr ()) ∧ L_X11_check_27 259 (nI c) f (nI i) B1 = some (match o with | some v => .inl (v, B1) | none => .inr ()) := by
  intro k
  induction k with
  | zero =>
    intro i f hi hf
    obtain ⟨f, rfl⟩ : ∃ x, f = x + 1 := ⟨f - 1, by omega⟩
    refine ⟨none, ?_, ?_⟩
    · rw [L_X10_check_41, if_pos (nI_le (by omega) (by omega))]
    · rw [L_X11_check_27, h12, if_pos (nI_le (by omega) (by omega))]
  | succ k ih =>
    intro i f hi hf
    obtain ⟨f, rfl⟩ : ∃ x, f = x + 1 := ⟨f - 1, by omega⟩
    have him : i < m := by omega
    rw [L_X10_check_41, if_neg (nI_ge him (by omega)), L_X11_check_27, h12, if_neg (nI_ge him (by omega))]
    by_cases cc : c ≤ i
    · rw [if_pos (nI_le cc (by omega)), if_pos (nI_le cc (by omega))]
      exact ⟨some (1 + nI i), rfl, rfl⟩
    · rw [if_neg (nI_ge (by omega) (by omega)), if_neg (nI_ge (by omega) (by omega)), ck_nI (by omega) (by omega), show (24 : Int32) = nI 24 from rfl, nI_add, ck_nI (by omega) (by omega), nI_clamp (by omega), nI_clamp (by omega)]
      unfold V_X7_goalAt
      rw [at_eq (x := 15) rfl (show i < 20 by omega) (by decide), at_eq (x := 129 + 2) rfl (show i < 20 by omega) (by decide), ht i (by omega), hg i him, nI_1]
      by_cases e : B1.1 268 i = B1.1 259 (24 + i)
      · rw [if_pos e, if_pos e]
        exact ih (i + 1) f (by omega) (by omega)
      · rw [if_neg e, if_neg e]
        exact ⟨some (1 + nI i), rfl, rfl⟩
theorem check_S (hK0 : K < 2 ^ 29) : Sim K (fun M => R_X10_check M) (fun M => R_X11_check 259 M) := fun A B h => by
  show Out K A B (R_X10_check A) (R_X11_check 259 B)
  obtain ⟨o1, ⟨c, hc, o2⟩, o3⟩ := h.2.2.2.1
  have o4 : B.1 242 46 = nI c := o1.symm.trans o2
  have h1 : GR K (setI A 0 9 0) (setI B 242 46 0) := h.to (fun d p1 _ => fI p1) (fun j hj => gI (Or.inr hj)) rfl (fun d p1 _ => fI p1) (fun j hj => gI (Or.inr hj)) ⟨by rw [gs_eI, gs_eI], ⟨0, by decide, gs_eI⟩, fun i hi => by rw [gI (Or.inl (by decide)), gI (Or.inl (by decide))]; exact o3 i hi⟩
  have la : ∀ {X : Mem}, LoA (setI A 0 9 0) X → LoA A X := fun l d hd => ⟨(l d hd).1.trans (fI (by omega)), (l d hd).2⟩
  have lb : ∀ {X : Mem}, HiB (setI B 242 46 0) X → HiB B X := fun l d hd => ⟨(l d hd).1.trans (fI (by omega)), (l d hd).2⟩
  have e6 : (setI A 0 9 0).1 122 6 = A.1 122 6 := gI (Or.inl (by decide))
  unfold R_X10_check R_X11_check
  rcases h1.2.2.2.2.1.o with ⟨p1, p2⟩ | ⟨p1, p2, t, ht, hK⟩
  · rw [e6] at p1
    rw [if_pos p1, if_pos p2, bd1_s]
    obtain ⟨v, A', B', f1, f2, f3, f4, f5⟩ := finS h1
    exact ⟨v, A', B', f1, f2, f3, la f4, lb f5⟩
  · rw [e6] at p1
    obtain ⟨m, hm, e1, e2, e3⟩ := listed_C hK.2.1 (by omega)
    have b12 : B.1 259 12 = nI m := by rw [← e2]; exact (gI (Or.inl (by decide))).symm
    have e1' : V_X7_listed 129 (setI A 0 9 0) = nI m := e1
    rw [if_neg p1, if_neg p2, e1', bd1_s, o2, o4, b12]
    obtain ⟨o, l1, l2⟩ := check_loop (c := c) (A1 := setI A 0 9 0) (B1 := setI B 242 46 0) hm hc e2 (fun i hi => e3 i hi) (fun i hi => by rw [gI (Or.inl (by decide)), gI (Or.inl (by decide))]; exact o3 i hi) m 0 FUEL (by omega) (by unfold FUEL; omega)
    rw [show nI 0 = (0 : Int32) from rfl] at l1 l2
    rw [l1, l2]
    have L0 : LoA A (setI A 0 9 0) := la LoA.rf
    have L1 : HiB B (setI B 242 46 0) := lb HiB.rf
    cases o with
    | some v => exact ⟨v, _, _, rfl, rfl, h1.le, L0, L1⟩
    | none => exact ⟨_, _, _, rfl, rfl, h1.le, L0, L1⟩
end TLD
