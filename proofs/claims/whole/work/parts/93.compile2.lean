/-- a text read: its states, or where its fault is -/
def pText (T : Nat → Nat) (n : Nat) : List PS ⊕ Nat := match pProg (scan T n n 0) with
  | .inr p => .inr p
  | .inl (l, _) => match jdg (l.map (fun ps => ps.1)) ((scan T n n 0).drop 1) (kd0 (scan T n n 0)) 0 with
    | some p => .inr p
    | none => .inl l
theorem scan_37 {T : Nat → Nat} {n : Nat} : ∀ (k p i : Nat) (t : Tk), (scan T n k p)[i]? = some t → t.1 = 37 → i + 1 = (scan T n k p).length := by
  have one : ∀ (u : Tk) i t, [u][i]? = some t → i = 0 ∧ t = u := by
    intro u i t e
    cases i with
    | zero => exact ⟨rfl, (Option.some.inj e).symm⟩
    | succ i => cases e
  intro k
  induction k with
  | zero => intro p i t e h; rw [scan] at e ⊢; rw [(one _ i t e).1]; rfl
  | succ k ih =>
    intro p i t e h
    rw [scan] at e ⊢
    split
    · rename_i c
      rw [if_pos c] at e
      rw [(one _ i t e).1]; rfl
    · rename_i c
      rw [if_neg c] at e
      split
      · rename_i c2
        rw [if_pos c2] at e
        rw [(one _ i t e).1]; rfl
      · rename_i c2
        rw [if_neg c2] at e
        cases i with
        | zero =>
          have : (tokAt T n (upto isB T (n - p) p)).1 = t := Option.some.inj e
          have := tokAt_k (T := T) (n := n) (p := upto isB T (n - p) p)
          rw [‹(tokAt T n (upto isB T (n - p) p)).1 = t›] at this
          omega
        | succ i =>
          rw [List.length_cons]
          have := ih _ i t e h
          omega
theorem jdg_pos {nm : List (List Nat)} : ∀ (ts : List Tk) (pk c p : Nat), jdg nm ts pk c = some p → ∃ t ∈ ts, p = t.2.2.2 := by
  intro ts
  induction ts with
  | nil => intro pk c p h; cases h
  | cons t ts ih =>
    intro pk c p h
    have nx : ∀ pk c, jdg nm ts pk c = some p → ∃ u ∈ t :: ts, p = u.2.2.2 := fun pk c h => by
      obtain ⟨u, h1, h2⟩ := ih pk c p h
      exact ⟨u, List.mem_cons_of_mem _ h1, h2⟩
    rw [jdg] at h
    split at h
    · split at h
      · split at h
        · cases h; exact ⟨t, List.mem_cons_self, rfl⟩
        · exact nx _ _ h
      · split at h
        · cases h; exact ⟨t, List.mem_cons_self, rfl⟩
        · exact nx _ _ h
    · exact nx _ _ h
/-- what a reading leaves alone -/
def FrP (P : Nat) (A A' : Mem) : Prop := (∀ d, d ≠ 2 → d ≠ 5 → d ≠ 7 → ¬ (P ≤ d ∧ d < P + 15) → A'.1 d = A.1 d) ∧ (∀ j, j ≠ 6 → j ≠ 7 → j ≠ 9 → A'.1 2 j = A.1 2 j) ∧ ∀ d, d ≠ 2 → d ≠ 6 → ¬ (P ≤ d ∧ d < P + 15) → A'.2 d = A.2 d
theorem FrP.tr {P : Nat} {A A1 A' : Mem} (h : FrP P A A1) (g : FrP P A1 A') : FrP P A A' := ⟨fun d p1 p2 p3 p4 => (g.1 d p1 p2 p3 p4).trans (h.1 d p1 p2 p3 p4), fun j p1 p2 p3 => (g.2.1 j p1 p2 p3).trans (h.2.1 j p1 p2 p3), fun d p1 p2 p3 => (g.2.2 d p1 p2 p3).trans (h.2.2 d p1 p2 p3)⟩
theorem FrS.p {P : Nat} {A A' : Mem} (h : FrS P A A') : FrP P A A' := ⟨fun d p1 _ _ p4 => h.1 d p1 (by omega) (by omega), fun j _ p2 p3 => h.2.1 j p2 p3, fun d p1 _ p3 => h.2.2.1 d p1 (by omega) (by omega)⟩
theorem FrW.p {P : Nat} {A A' : Mem} (h : FrW A A') : FrP P A A' := ⟨fun d p1 p2 p3 _ => h.1 d p1 p2 p3, fun j p1 _ _ => h.2.1 j p1, fun d _ p2 _ => h.2.2 d p2⟩
theorem FrP.j {P p : Nat} {A : Mem} {v : Int32} (_ : p = p) : FrP P A (setI A 2 9 v) := ⟨fun d p1 _ _ _ => fI p1, fun j _ _ p3 => gI (Or.inr p3), fun _ _ _ _ => rfl⟩
theorem compile_C {P n : Nat} {T : Nat → Nat} {A : Mem} (hP : 16 ≤ P) (hT : Tape A T n) (hK : Knw A) (hZ : Z0 P A) : ∃ v A', R_X4_compile 2 P A = some (v, A') ∧ FrP P A A' ∧ Z0 P A' ∧ ((∃ l, pText T n = .inl l ∧ v = -1 ∧ PgC A' P (rsP l) ∧ 0 < l.length ∧ l.length ≤ 8) ∨ (∃ p, pText T n = .inr p ∧ p ≤ 800 ∧ v = nI p)) := by
  obtain ⟨A1, hA1⟩ : ∃ X, X = setI (setI (U_X3_clear P A) 2 7 0) 2 9 (-1) := ⟨_, rfl⟩
  have d1 : ∀ d, d ≠ 2 → d ≠ P → A1.1 d = A.1 d := fun d p1 p2 => by rw [hA1, fI p1, fI p1]; unfold U_X3_clear; rw [fI p2, fI p2, fI p2, fI p2, fI p2, fI p2]
  have r1 : ∀ j, j ≠ 7 → j ≠ 9 → A1.1 2 j = A.1 2 j := fun j p1 p2 => by
    have hP2 : 2 ≠ P := by omega
    rw [hA1, gI (Or.inr p2), gI (Or.inr p1)]; unfold U_X3_clear; rw [fI hP2, fI hP2, fI hP2, fI hP2, fI hP2, fI hP2]
  have z1 : ∀ j, j = 0 ∨ j = 3 ∨ j = 6 ∨ j = 9 ∨ j = 13 ∨ j = 15 → A1.1 P j = 0 := fun j hj => by
    rw [hA1, gI (Or.inl (by omega)), gI (Or.inl (by omega))]
    unfold U_X3_clear
    rcases hj with rfl | rfl | rfl | rfl | rfl | rfl <;> simp (disch := omega) only [gI, gs_eI]
  have j1 : A1.2 = A.2 := by rw [hA1]; rfl
  have T1 : Tape A1 T n := ⟨by rw [r1 5 (by decide) (by decide)]; exact hT.1, hT.2.1, fun i hi => by rw [d1 3 (by decide) (by omega)]; exact hT.2.2 i hi⟩
  have K1 : Knw A1 := fun i w e => by rw [j1]; exact hK i w e
  have F1 : FrP P A A1 := ⟨fun d p1 _ _ p4 => d1 d p1 (by omega), fun j _ p2 p3 => r1 j p2 p3, fun d _ _ _ => by rw [j1]⟩
  obtain ⟨A2, s1, s2, s3, s4⟩ := split_C T1 K1
  have z2 : ∀ j, j = 0 ∨ j = 3 ∨ j = 6 ∨ j = 9 ∨ j = 13 ∨ j = 15 → A2.1 P j = 0 := fun j hj => by rw [s2.1 P (by omega) (by omega) (by omega)]; exact z1 j hj
  have Z2 : Z0 P A2 := fun d hd => by rw [s2.1 d (by omega) (by omega) (by omega), d1 d (by omega) (by omega)]; exact hZ d hd
  have R2 : RdI A2 0 := ⟨by rw [s2.2.1 7 (by decide), hA1, gI (Or.inr (by decide)), gs_eI]; rfl, by rw [s2.2.1 9 (by decide), hA1, gs_eI]⟩
  obtain ⟨f1, f2, f3, f4, f5⟩ := scan_F (T := T) (n := n) n 0 (Nat.zero_le _)
  have nmw := scan_nm (T := T) (n := n) n 0
  have s37 := scan_37 (T := T) (n := n) n 0
  obtain ⟨ws, hws⟩ : ∃ w, w = scan T n n 0 := ⟨_, rfl⟩
  rw [← hws] at s3 s4 f1 f2 f3 f4 f5 nmw s37
  have zr : Zr P 0 A2 := ⟨Z2, ⟨0, Nat.le_refl _, z2 13 (by omega)⟩, ⟨0, Nat.le_refl _, z2 3 (by omega)⟩, 0, Nat.le_refl _, z2 0 (by omega)⟩
  unfold pText R_X4_compile
  rw [← hws, ← hA1, bnd1_e s1]
  have H := prog_C hP f1 f2 f3 s3 R2 f4 (z2 0 (by omega)) (z2 3 (by omega)) (z2 6 (by omega)) (z2 9 (by omega)) (z2 13 (by omega)) (z2 15 (by omega)) Z2
  rcases H with ⟨l, i', A3, s', k', q', a', r', g1, ⟨t, et, ht⟩, g3, g4, g5, g6, g7, g8, g9, g10⟩ | ⟨p, A3, g1, g2, g3, g4, g5⟩
  · rw [g1, bnd1_e g3]
    have Z3 : Z0 P A3 := (c20_z hP FUEL 0 0 A2 A3 (by omega) (by omega) g3 zr).1
    have W3 := s3.cs hP g5
    have h6 : A3.1 2 6 = nI ws.length := by rw [g5.2.1 6 (by decide) (by decide), s4 i' t et ht, s37 i' t et ht]
    obtain ⟨_, psn⟩ := pProg_s g1
    have nmO : ∀ w ∈ l.map (fun ps => ps.1), NmO w := by
      intro w hw
      obtain ⟨ps, hp, rfl⟩ := List.mem_map.mp hw
      obtain ⟨⟨t, h1, h2, h3⟩, _⟩ := psn ps hp
      rw [h3]; exact nmw t h1 h2
    have N3 : NmC A3 P (l.map (fun ps => ps.1)) := by
      refine ⟨by rw [List.length_map]; exact g7, by rw [List.length_map]; exact g9, nmO, fun j w e => ?_⟩
      obtain ⟨ps, ep, rfl⟩ := map_at e
      exact (g6 j ps ep).1
    obtain ⟨u, eu⟩ := get_lt f4
    have hk0 : kd0 ws = u.1 := by
      have := drop_c eu
      rw [List.drop_zero] at this
      rw [this]; rfl
    have J := judge_C W3 h6 g4.2 N3 nmw (ws.length - 1) 1 FUEL 0 u.1 (by omega) (by omega) (by have := W3.1; unfold FUEL; omega) (by have := W3.1; omega) ⟨u, eu, rfl⟩
    rw [show nI 0 = (0 : Int32) from rfl, show nI 1 = (1 : Int32) from rfl, ← hk0] at J
    have F3 := (F1.tr s2.p).tr g5.p
    dsimp only
    unfold R_X4_judgeNames
    rw [bnd1_e J, bnd1_s]
    cases hj : jdg (l.map (fun ps => ps.1)) (ws.drop 1) (kd0 ws) 0 with
    | some p =>
      dsimp only
      obtain ⟨v, hv1, hv2⟩ := jdg_pos _ _ _ _ hj
      have hp8 : p ≤ 800 := by
        rw [hv2]
        obtain ⟨m, em⟩ := List.getElem?_of_mem (List.mem_of_mem_drop hv1)
        exact (W3.2 m v em).2.2.2.1
      refine ⟨nI p, setI A3 2 9 (nI p), ?_, F3.tr (FrP.j (p := 0) rfl), fun d hd => by rw [gI (Or.inl (by omega))]; exact Z3 d hd, Or.inr ⟨p, rfl, hp8, rfl⟩⟩
      rw [gs_eI, if_pos (nI_pos' (by omega)), bnd1_s, gs_eI]
    | none =>
      dsimp only
      obtain ⟨e1, e2, e3, e4, e5⟩ := g10
      obtain ⟨A4, y1, y2, y3, y4⟩ := resolve_C (P := P) (a := a') (A := A3) (nj := (l.map (fun ps => ps.1)).map (fun w => Int64.ofNat (pkN 32 w))) (by rw [List.length_map, List.length_map]; exact g7) (by rw [List.length_map, List.length_map]; exact g9) (fun j v e => by
        obtain ⟨w, ew, rfl⟩ := map_at e
        exact N3.2.2.2 j w ew) e5 e3
      refine ⟨-1, A4, ?_, F3.tr ⟨fun d _ _ _ _ => by rw [y2], fun j _ _ _ => by rw [y2], fun d _ _ p3 => y3 d (by omega)⟩, fun d hd => by rw [y2]; exact Z3 d hd, Or.inl ⟨l, rfl, rfl, ⟨?_, ?_, ?_⟩, g8, g9⟩⟩
      · rw [g4.2, if_neg m1_nle, bnd1_e y1, bnd1_s, y2, g4.2]
      · unfold rsP; rw [List.length_map, y2]; exact g7
      · unfold rsP; rw [List.length_map]; exact g9
      · intro m rs em
        unfold rsP at em
        obtain ⟨ps, ep, rfl⟩ := map_at em
        obtain ⟨_, r0, c1, c2, c3, c4⟩ := g6 m ps ep
        refine ⟨r0, by rw [y2]; exact c1, by rw [y2, List.length_map]; exact c2, by rw [List.length_map]; omega, fun j rl ej => ?_⟩
        obtain ⟨pl, el, rfl⟩ := map_at ej
        exact (c4 j pl el).c e1 e2 e3 y2 nmO y4 nmw ((psn ps (List.mem_of_getElem? ep)).2 pl (List.mem_of_getElem? el))
  · rw [g1, bnd1_e g3]
    have Z3 : Z0 P A3 := (c20_z hP FUEL 0 0 A2 A3 (by omega) (by omega) g3 zr).1
    obtain ⟨f, hf⟩ : ∃ f, FUEL = f + 1 := ⟨FUEL - 1, by unfold FUEL; omega⟩
    have J : R_X4_judgeNames 2 P A3 = some A3 := by
      unfold R_X4_judgeNames
      have : L_X4_judgeNames_4 2 P FUEL 0 1 A3 = some A3 := by
        rw [hf, L_X4_judgeNames_4, g4, if_pos (nI_pos' (show p < 2 ^ 31 by omega))]
        split
        · rfl
        · split <;> rfl
      rw [this]; rfl
    refine ⟨nI p, A3, ?_, (F1.tr s2.p).tr g5.p, Z3, Or.inr ⟨p, rfl, g2, rfl⟩⟩
    rw [bnd1_e J, g4, if_pos (nI_pos' (show p < 2 ^ 31 by omega)), bnd1_s, g4]
