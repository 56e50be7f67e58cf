section MTC
variable {K : Nat} {A B : Mem}
theorem GR.mt {A' B' : Mem} {t : Nat} (h : GR K A B) (hS : SK 122 259 t (SVp A B) A B A' B') (ht : t ≤ K + 50) : GR (K + 50) A' B' ∧ LoA A A' ∧ HiB B B' := by
  obtain ⟨⟨fa2, fa⟩, ⟨fb2, fb, fs⟩, k30, k1, k2, k3, k4, k5⟩ := hS
  obtain ⟨h1, h2, h3, h4, h5, h6, h7⟩ := h
  have a : ∀ c, ¬ (122 ≤ c ∧ c < 152) → A'.1 c = A.1 c := fun c hc => fa c (by omega)
  have b : ∀ c, c ≠ 242 → c ≠ 259 → ¬ (262 ≤ c ∧ c ≤ 264) → B'.1 c = B.1 c := fun c p1 p2 p3 => fb c p2 p1 (by omega) (by omega) (by omega)
  have b0 : ∀ j, ¬ ((30 ≤ j ∧ j ≤ 37) ∨ j = 41) → B'.1 242 j = B.1 242 j := fun j hj => fs j hj
  have s : SP A B A' B' := ⟨fun c p1 p2 => ⟨a c (by omega), by rw [fa2]⟩, by rw [a 0 (by decide)], fun c p1 p2 => b c (by omega) (by omega) (by omega)⟩
  refine ⟨⟨h1.cg s (by rw [a 0 (by decide)]) (by rw [a 2 (by decide)]) (a 3 (by decide)) (by rw [fa2]) (fun j hj => b0 j (by omega)) (b 243 (by decide) (by decide) (by decide)), h2.cg (a 1 (by decide)) (b 253 (by decide) (by decide) (by decide)), h3.cg s (fun c p1 p2 => a c (by omega)) (fun c p1 p2 => b c (by omega) (by omega) (by omega)), h4.cg (by rw [a 0 (by decide)]) (a 15 (by decide)) (b0 46 (by decide)) (b 268 (by decide) (by decide) (by decide)), ⟨k30, Or.inr ⟨t, ht, k1, k2, k3, fun r hr => (k4 r hr).sv s.v, k5⟩⟩, h6.cg (by omega) s (fun c p1 p2 => a c (by omega)) (b 261 (by decide) (by decide) (by decide)), ?_⟩, fun d hd => ⟨a d (by omega), by rw [fa2]⟩, fun d hd => ⟨b d (by omega) (by omega) (by omega), by rw [fb2]⟩⟩
  obtain ⟨g1, g2, g3⟩ := h7
  refine ⟨fun x hx r hr => ?_, ?_, ?_⟩
  · by_cases e : x = 122
    · subst e; exact (k4 r hr).2.2.2.2.2.2
    · exact (g1 x hx r hr).cg (fun j _ => by rw [a _ (by omega)])
  · rw [a 11 (by decide), b0 42 (by decide)]; exact g2
  · rw [a 12 (by decide), a 13 (by decide), a 14 (by decide), b 265 (by decide) (by decide) (by decide), b 266 (by decide) (by decide) (by decide), b 267 (by decide) (by decide) (by decide)]; exact g3
theorem begin_S {x y : Int32} : Sim K (fun M => R_X10_begin x y M) (fun M => R_X11_begin x y 259 M) := fun A B h => by
  show Out K A B (R_X10_begin x y A) (R_X11_begin x y 259 B)
  unfold R_X10_begin R_X11_begin
  rcases isTeam_c (A := A) (B := B) (x := x) with ⟨c1, c2⟩ | ⟨t, ht, rfl, c1, c2⟩
  · rw [if_pos c1, if_pos c2]; exact finB h
  rw [c1, c2, if_neg (show ¬ (1 : Int32) = 0 by decide), if_neg (show ¬ (1 : Int32) = 0 by decide)]
  rcases isTeam_c (A := A) (B := B) (x := y) with ⟨c1, c2⟩ | ⟨u, hu, rfl, c1, c2⟩
  · rw [if_pos c1, if_pos c2]; exact finB h
  rw [c1, c2, if_neg (show ¬ (1 : Int32) = 0 by decide), if_neg (show ¬ (1 : Int32) = 0 by decide)]
  obtain ⟨A', B', e1, e2, e3⟩ := open_sim (b := 122) (mA := 259) (SV := SVp A B) (by decide) (Or.inl rfl) ht hu h.2.2.1.1 h.2.2.1.2 (fun j hj => h.2.2.2.2.2.2.1 122 (Or.inl rfl) j hj)
  obtain ⟨g1, g2, g3⟩ := h.mt e3 (Nat.zero_le _)
  rw [bnd1_e e1, bnd1_e e2]
  exact ⟨1, A', B', rfl, rfl, g1, g2, g3⟩
theorem tick_S {x : Int32} (hK0 : K < 2 ^ 29) : Sim K (fun M => R_X10_tick x M) (fun M => R_X11_tick x 259 M) := fun A B h => by
  show Out K A B (R_X10_tick x A) (R_X11_tick x 259 B)
  unfold R_X10_tick R_X11_tick
  rcases h.2.2.2.2.1.o with ⟨o1, o2⟩ | ⟨o1, o2, t, ht, hK⟩
  · rw [if_pos o1, if_pos o2]; exact finS h
  rw [if_neg o1, if_neg o2]
  rcases pk_ix x (n := 51) (by decide) with c | c | ⟨j, hj, rfl⟩
  · have c1 : x < (1 : Int32) := by
      rw [Int32.lt_iff_toInt_lt] at c ⊢
      have e1 : (0 : Int32).toInt = 0 := rfl
      have e2 : (1 : Int32).toInt = 1 := rfl
      omega
    rw [if_pos c1, in_lt c1, if_pos rfl]; exact finB h
  · have c1 : ¬ x < (1 : Int32) := fun q => by
      rw [Int32.lt_iff_toInt_lt] at q
      rw [Int32.le_iff_toInt_le] at c
      have e1 : (nI 51).toInt = 51 := rfl
      have e2 : (1 : Int32).toInt = 1 := rfl
      omega
    have c2 : (50 : Int32) < x := lt_of_le1 (n := 50) c (by decide)
    have c3 : ¬ x ≤ (50 : Int32) := fun q => by
      rw [Int32.lt_iff_toInt_lt] at c2
      rw [Int32.le_iff_toInt_le] at q
      omega
    rw [if_neg c1, if_neg c3, in_gt c2, if_pos rfl]; exact finB h
  · by_cases c0 : j = 0
    · subst c0
      rw [if_pos (show nI 0 < (1 : Int32) by decide), in_lt (show nI 0 < (1 : Int32) by decide), if_pos rfl]; exact finB h
    · have c1 : ¬ nI j < (1 : Int32) := nltL (y := 1) 1 (by omega) rfl (by omega)
      have c2 : ¬ (50 : Int32) < nI j := nI_nlt (a := 50) (by omega) (by decide)
      rw [if_neg c1, if_pos (show nI j ≤ (50 : Int32) from nI_le (b := 50) (by omega) (by decide)), in_ok c1 c2, if_neg (show ¬ (1 : Int32) = 0 by decide), bnd2_id, bnd2_id]
      have S0 : SK 122 259 t (SVp A B) A B A B := ⟨FrA.rf, FrB.rf, h.2.2.2.2.1.1, hK.1, hK.2.1, hK.2.2.1, hK.2.2.2.1, hK.2.2.2.2⟩
      obtain ⟨A', B', v, e1, e2, e3⟩ := play_sim (b := 122) (mA := 259) (x := j) (Or.inl rfl) (by decide) (by omega) h.2.2.1.1 h.2.2.1.2 j 0 t FUEL FUEL (-1) A B (by omega) (by unfold FUEL; omega) (by unfold FUEL; omega) (by omega) S0
      obtain ⟨g1, g2, g3⟩ := h.mt e3 (by omega)
      unfold R_X2_play
      rw [show nI 0 = (0 : Int32) from rfl] at e1 e2
      rw [bnd2_e e1, e2]
      exact ⟨v, A', B', rfl, rfl, g1, g2, g3⟩
end MTC
