/-! ===== read ===== -/
theorem jdg_ok {nm : List (List Nat)} : ∀ (ts : List Tk) (pk c : Nat), jdg nm ts pk c = none → ∀ t ∈ ts, t.1 = 26 → fnd nm t.2.1 0 ≠ none := by
  intro ts
  induction ts with
  | nil => intro pk c _ t ht; cases ht
  | cons u ts ih =>
    intro pk c h t ht h26
    rw [jdg] at h
    rcases List.mem_cons.mp ht with e | e
    · subst e
      rw [if_pos h26] at h
      split at h
      · split at h
        · cases h
        · rename_i cb
          intro hn
          rw [hn] at cb
          exact cb rfl
      · split at h
        · cases h
        · assumption
    · split at h
      · split at h
        · split at h
          · cases h
          · exact ih _ _ h t e h26
        · split at h
          · cases h
          · exact ih _ _ h t e h26
      · exact ih _ _ h t e h26
theorem pText_W {T : Nat → Nat} {n : Nat} {l : List PS} (h : pText T n = .inl l) : PgW (rsP l) := by
  unfold pText at h
  cases hp : pProg (scan T n n 0) with
  | inr p => rw [hp] at h; cases h
  | inl x =>
    obtain ⟨l', us⟩ := x
    rw [hp] at h
    dsimp only at h
    cases hj : jdg (l'.map (fun ps => ps.1)) ((scan T n n 0).drop 1) (kd0 (scan T n n 0)) 0 with
    | some p => rw [hj] at h; cases h
    | none =>
      rw [hj] at h
      cases h
      obtain ⟨_, psn⟩ := pProg_s hp
      have hok := jdg_ok _ _ _ hj
      intro rs hrs rl hrl ac hac h3
      unfold rsP at hrs ⊢
      obtain ⟨ps, hps, rfl⟩ := List.mem_map.mp hrs
      obtain ⟨pl, hpl, rfl⟩ := List.mem_map.mp hrl
      obtain ⟨pa, hpa, rfl⟩ := List.mem_map.mp hac
      have h3' : nI pa.1 = 3 := h3
      -- an act of kind 3, and its name
      have hk3 : pa.1 = 3 ∨ ¬ pa.1 = 3 := Decidable.em _
      rcases hk3 with hk3 | hk3
      · obtain ⟨t, ht, h26, hn⟩ := (psn ps hps).2 pl hpl pa hpa hk3
        have htd : t ∈ (scan T n n 0).drop 1 := by
          cases hw : scan T n n 0 with
          | nil => rw [hw] at ht; cases ht
          | cons u rest =>
            rw [hw] at ht hp
            rcases List.mem_cons.mp ht with e | e
            · exfalso
              subst e
              unfold pProg at hp
              obtain ⟨_, _, e1, _⟩ := pthen_el hp
              unfold pState at e1
              obtain ⟨_, _, e2, _⟩ := pthen_el e1
              rw [pWord] at e2
              split at e2
              · omega
              · cases e2
            · exact e
        have hf := hok t htd h26
        rw [List.length_map]
        show VN l.length (rsv (l.map (fun ps => ps.1)) pa).2.1
        unfold rsv
        dsimp only
        rw [if_pos hk3, hn]
        cases hfn : fnd (l.map (fun ps => ps.1)) t.2.1 0 with
        | none => exact absurd hfn hf
        | some i =>
          have := (fnd_lt _ 0 i hfn).2.1
          rw [List.length_map] at this
          exact ⟨i, by omega, rfl⟩
      · -- no act has a kind that is 3 only modulo 2 ^ 32
        exfalso
        have hw : 3 ≤ pa.1 ∧ pa.1 ≤ 8 := by
          have key : ∀ (ts us : List Tk) (pa : PA), pAct ts = .inl (pa, us) → 3 ≤ pa.1 ∧ pa.1 ≤ 8 := by
            intro ts us pa h
            unfold pAct at h
            obtain ⟨a, _, e1, h⟩ := pthen_el h
            obtain ⟨_, _, _, h⟩ := pthen_el h
            obtain ⟨_, _, _, h⟩ := pthen_el h
            obtain ⟨_, _, _, h⟩ := pthen_el h
            cases h
            exact (pWord_s e1).2.1
          have k2 : ∀ (g : Nat) (ts us : List Tk) (l : List PA), pActs g ts = .inl (l, us) → ∀ pa ∈ l, 3 ≤ pa.1 ∧ pa.1 ≤ 8 := by
            intro g
            induction g with
            | zero =>
              intro ts us l h
              rw [pActs] at h
              split at h
              · cases h; intro pa hp; cases hp
              · cases h
            | succ g ih =>
              intro ts us l h
              rw [pActs] at h
              split at h
              · cases h; intro pa hp; cases hp
              · obtain ⟨a, _, e1, h⟩ := pthen_el h
                obtain ⟨b, _, e2, h⟩ := pthen_el h
                cases h
                intro pa hp
                rcases List.mem_cons.mp hp with e | e
                · rw [e]; exact key _ _ _ e1
                · exact ih _ _ _ e2 pa e
          have k3 : ∀ (g : Nat) (ts us : List Tk) (l : List PL), pRules g ts = .inl (l, us) → ∀ pl ∈ l, ∀ pa ∈ pl.2, 3 ≤ pa.1 ∧ pa.1 ≤ 8 := by
            intro g
            induction g with
            | zero =>
              intro ts us l h
              rw [pRules] at h
              split at h
              · cases h
              · cases h; intro pl hp; cases hp
            | succ g ih =>
              intro ts us l h
              rw [pRules] at h
              split at h
              · obtain ⟨a, _, e1, h⟩ := pthen_el h
                obtain ⟨b, _, e2, h⟩ := pthen_el h
                cases h
                intro pl hp
                rcases List.mem_cons.mp hp with e | e
                · rw [e]
                  unfold pRule at e1
                  obtain ⟨_, _, _, e1⟩ := pthen_el e1
                  obtain ⟨_, _, _, e1⟩ := pthen_el e1
                  obtain ⟨_, _, _, e1⟩ := pthen_el e1
                  obtain ⟨_, _, e3, e1⟩ := pthen_el e1
                  obtain ⟨_, _, _, e1⟩ := pthen_el e1
                  cases e1
                  exact k2 _ _ _ _ e3
                · exact ih _ _ _ e2 pl e
              · cases h; intro pl hp; cases hp
          have k4 : ∀ (ts us : List Tk) (ps : PS), pState ts = .inl (ps, us) → ∀ pl ∈ ps.2, ∀ pa ∈ pl.2, 3 ≤ pa.1 ∧ pa.1 ≤ 8 := by
            intro ts us ps h
            unfold pState at h
            obtain ⟨_, _, _, h⟩ := pthen_el h
            obtain ⟨_, _, _, h⟩ := pthen_el h
            obtain ⟨_, _, _, h⟩ := pthen_el h
            obtain ⟨_, _, e1, h⟩ := pthen_el h
            obtain ⟨_, _, _, h⟩ := pthen_el h
            cases h
            exact k3 _ _ _ _ e1
          have k5 : ∀ (g : Nat) (ts us : List Tk) (l : List PS), pStates g ts = .inl (l, us) → ∀ ps ∈ l, ∀ pl ∈ ps.2, ∀ pa ∈ pl.2, 3 ≤ pa.1 ∧ pa.1 ≤ 8 := by
            intro g
            induction g with
            | zero =>
              intro ts us l h
              rw [pStates] at h
              split at h
              · cases h; intro pl hp; cases hp
              · cases h
            | succ g ih =>
              intro ts us l h
              rw [pStates] at h
              split at h
              · cases h; intro pl hp; cases hp
              · obtain ⟨a, _, e1, h⟩ := pthen_el h
                obtain ⟨b, _, e2, h⟩ := pthen_el h
                cases h
                intro ps hp
                rcases List.mem_cons.mp hp with e | e
                · rw [e]; exact k4 _ _ _ e1
                · exact ih _ _ _ e2 ps e
          unfold pProg at hp
          obtain ⟨a, _, e1, hp⟩ := pthen_el hp
          obtain ⟨b, _, e2, hp⟩ := pthen_el hp
          cases hp
          rcases List.mem_cons.mp hps with e | e
          · rw [e] at hpl; exact k4 _ _ _ e1 pl hpl pa hpa
          · exact k5 _ _ _ _ e2 ps e pl hpl pa hpa
        exact hk3 ((nI_eq (by omega) (by decide)).mp (h3'.trans (show (3 : Int32) = nI 3 from rfl)))
section RDS
variable {K : Nat} {A B : Mem}
theorem GR.rd {A' B' : Mem} (h : GR K A B) (a1 : ∀ c, 8 ≤ c → ¬ (16 ≤ c ∧ c < 106) → A'.1 c = A.1 c) (a0 : A'.1 0 9 = A.1 0 9) (b1 : ∀ c, 254 ≤ c → B'.1 c = B.1 c) (b0 : ∀ j, j = 30 ∨ j = 42 ∨ j = 46 → B'.1 242 j = B.1 242 j) (sv : ∀ q x, SVp A B q x → SVp A' B' q x) (hP : GP A' B') (hF : GF A' B') : GR (K + 50) A' B' := by
  obtain ⟨h1, h2, h3, h4, h5, h6, h7⟩ := h
  refine ⟨hP, hF, ⟨fun t ht => ?_, (h3.2.cg (fun c p1 p2 => b1 c p1)).sv sv⟩, h4.cg a0 (a1 15 (by decide) (by decide)) (b0 46 (by omega)) (b1 268 (by decide)), ⟨by rw [b0 30 (by omega)]; exact h5.1, h5.2.cg (by omega) (fun c p1 p2 => a1 c (by omega) (by omega)) (fun k _ => by rw [b1 259 (by decide)]) sv⟩, fun k hk => (h6 k hk).cg (by omega) (fun c p1 p2 => a1 c (by omega) (by omega)) (fun i _ => by rw [b1 261 (by decide)]) sv, h7.cg (fun c p1 p2 => a1 c (by omega) (by omega)) (fun c p1 p2 => a1 c (by omega) (by omega)) (b0 42 (by omega)) (fun c p1 p2 => b1 c (by omega))⟩
  rw [a1 _ (by omega) (by omega), a1 _ (by omega) (by omega), a1 _ (by omega) (by omega), a1 _ (by omega) (by omega), b1 254 (by decide), b1 255 (by decide), b1 256 (by decide), b1 257 (by decide), b1 258 (by decide)]
  exact h3.1 t ht
theorem read_S : Sim K (fun M => R_X10_read M) (fun M => R_X11_read 259 M) := fun A B h => by
  show Out K A B (R_X10_read A) (R_X11_read 259 B)
  obtain ⟨q, h1, h2, h3, h4, h5, ⟨T, n, hT, hM⟩, h8, h9, h10⟩ := id h.1
  by_cases cq : q = 6
  · -- no room for a program
    subst cq
    have e2 : B.1 242 2 = -1 := by rw [← h4]; exact h5 rfl
    unfold R_X10_read R_X11_read
    rw [h2, h3, if_neg (show ¬ nI 6 < (6 : Int32) by decide), if_pos (show nI 6 = (6 : Int32) from rfl), setI_self e2]
    exact finFull h
  · have hq : q < 6 := by omega
    obtain ⟨v, A1, e1, e2, e3, e4⟩ := compile_C (P := 16 + 15 * q) (by omega) hT h8 (h9 q hq)
    obtain ⟨B1, f1, f2, f3⟩ := read_M (mA := 259) hM hq h3
    unfold R_X10_read
    rw [h2, if_pos (ltL (y := 6) 6 hq rfl (by decide)), ck_nI hq (by omega), nI_clamp (by omega), bnd2_e e1]
    obtain ⟨A2, hA2⟩ : ∃ X, X = U_X4_empty 2 (setI A1 0 11 v) := ⟨_, rfl⟩
    have c2 : ∀ c, c ≠ 0 → c ≠ 2 → A2.1 c = A1.1 c := fun c p1 p2 => by rw [hA2]; unfold U_X4_empty; rw [fI p2, fI p1]
    have d11 : A2.1 0 11 = v := by rw [hA2]; unfold U_X4_empty; rw [gI (Or.inl (by decide)), gs_eI]
    have d0 : ∀ j, j ≠ 11 → A2.1 0 j = A.1 0 j := fun j hj => by rw [hA2]; unfold U_X4_empty; rw [gI (Or.inl (by decide)), gI (Or.inr hj), e2.1 0 (by decide) (by decide) (by decide) (by omega)]
    have d5 : A2.1 2 5 = 0 := by rw [hA2]; unfold U_X4_empty; exact gs_eI
    have d2 : A2.2 = A1.2 := by rw [hA2]; rfl
    rw [← hA2, d11, d0 10 (by decide), h2]
    have o : ∀ c, c ≠ 0 → c ≠ 2 → c ≠ 5 → c ≠ 7 → ¬ (16 + 15 * q ≤ c ∧ c < 16 + 15 * q + 15) → A2.1 c = A.1 c := fun c p1 p2 p3 p4 p5 => by rw [c2 c p1 p2]; exact e2.1 c p2 p3 p4 p5
    have oj : ∀ d, d ≠ 2 → d ≠ 6 → ¬ (16 + 15 * q ≤ d ∧ d < 16 + 15 * q + 15) → A2.2 d = A.2 d := fun d p1 p2 p3 => by rw [d2]; exact e2.2.2 d p1 p2 p3
    have Tp : ∃ T n, Tape A2 T n ∧ TapeM B1 T n := ⟨T, 0, ⟨d5, by decide, fun i hi => by omega⟩, ⟨f2, by decide, fun i hi => by omega⟩⟩
    have Kn : Knw A2 := fun i w e => by rw [oj 4 (by decide) (by decide) (by omega)]; exact h8 i w e
    have Zs : ∀ i, i < 6 → Z0 (16 + 15 * i) A2 := fun i hi d hd => by
      by_cases ei : i = q
      · subst ei
        rw [c2 d (by omega) (by omega)]; exact e3 d hd
      · rw [o d (by omega) (by omega) (by omega) (by omega) (by omega)]; exact h9 i hi d hd
    -- programs that were read before
    have old : ∀ (A3 : Mem) (m : Nat), (∀ c, 16 ≤ c → c < 106 → A3.1 c = A2.1 c) → A3.2 = A2.2 → A3.1 0 10 = nI m → q ≤ m → m ≤ 6 → ∀ i pg, PRel A B i pg → PRel A3 B1 i pg := by
      intro A3 m w1 w2 w3 w4 w5 i pg hp
      obtain ⟨p1, p2, p3, p4, x, p5, p6, p7⟩ := hp
      have : x = q := (nI_eq (by omega) (by omega)).mp (p5.symm.trans h2)
      subst this
      refine ⟨p1.c (fun c g1 g2 => by rw [w1 c (by omega) (by omega), o c (by omega) (by omega) (by omega) (by omega) (by omega)]) (by rw [w2, oj _ (by omega) (by omega) (by omega)]), p2.c p1.2.1 (fun d hd x g1 g2 => f1.2.2.1 d hd x (by omega)) (f1.2.2.2.1 i (by omega)) (fun x g1 g2 => f1.2.2.2.2.1 x (by omega)), p3, p4, m, w3, by omega, w5⟩
    have b1 : ∀ c, 254 ≤ c → B1.1 c = B.1 c := fun c hc => f1.1 c (by omega) (by omega) (by omega) (by omega) (by omega) (by omega) (by omega) (by omega) (by omega)
    have b0 : ∀ j, j = 30 ∨ j = 42 ∨ j = 46 → B1.1 242 j = B.1 242 j := fun j hj => f1.2.1 j (by omega) (by omega) (by omega) (by omega) (by omega) (by omega) (by omega) (by omega) (by omega) (by omega)
    have loA : LoA A A2 := fun d hd => ⟨o d (by omega) (by omega) (by omega) (by omega) (by omega), oj d (by omega) (by omega) (by omega)⟩
    have hiB : HiB B B1 := fun d hd => ⟨f1.1 d (by omega) (by omega) (by omega) (by omega) (by omega) (by omega) (by omega) (by omega) (by omega), f1.2.2.2.2.2 d (by omega) (by omega) (by omega)⟩
    rcases e4 with ⟨l, g1, g2, g3, g4, g5⟩ | ⟨p, g1, g2, g3⟩
    · rcases f3 with ⟨l', k1, k2, k3, k4, k5, k6⟩ | ⟨p, k1, _⟩
      · have el : l' = l := Sum.inl.inj (k1.symm.trans g1)
        subst el
        rw [g2, if_pos m1_lt, k2, nI_1, nI_pred]
        have w1 : ∀ c, c ≠ 0 → (setI A2 0 10 (nI (q + 1))).1 c = A2.1 c := fun c hc => fI hc
        have hPR : PRel (setI A2 0 10 (nI (q + 1))) B1 q (rsP l') := by
          refine ⟨g3.c (fun c p1 p2 => by rw [w1 c (by omega), c2 c (by omega) (by omega)]) (by rw [sI2, d2]), k5, by unfold rsP; rw [List.length_map]; exact g4, pText_W g1, q + 1, gs_eI, by omega, by omega⟩
        have sv : ∀ i x, SVp A B i x → SVp (setI A2 0 10 (nI (q + 1))) B1 i x := fun i x hh => by
          obtain ⟨pg, hp, hx⟩ := hh
          exact ⟨pg, old _ (q + 1) (fun c p1 p2 => w1 c (by omega)) rfl gs_eI (by omega) (by omega) i pg hp, hx⟩
        refine ⟨nI q, _, B1, rfl, rfl, h.rd (A' := setI A2 0 10 (nI (q + 1))) (fun c p1 p2 => by rw [w1 c (by omega)]; exact o c (by omega) (by omega) (by omega) (by omega) (by omega)) (by rw [gI (Or.inr (by decide))]; exact d0 9 (by decide)) b1 b0 sv ⟨q + 1, by omega, gs_eI, k3, by rw [gI (Or.inr (by decide)), d11, g2, k4], fun _ => by rw [gI (Or.inr (by decide)), d11, g2], ?_, fun i w e => Kn i w e, fun i hi d hd => by rw [w1 d (by omega)]; exact Zs i hi d hd, fun i hi => ?_⟩ (fun i hi => by rw [w1 1 (by decide), o 1 (by decide) (by decide) (by decide) (by decide) (by omega), k6]; exact h.2.1 i hi), fun d hd => ⟨by rw [w1 d (by omega)]; exact (loA d hd).1, (loA d hd).2⟩, hiB⟩
        · obtain ⟨T', n', t1, t2⟩ := Tp
          exact ⟨T', n', ⟨by rw [w1 2 (by decide)]; exact t1.1, t1.2.1, fun i hi => by rw [w1 3 (by decide)]; exact t1.2.2 i hi⟩, t2⟩
        · by_cases ei : i = q
          · subst ei; exact ⟨_, hPR⟩
          · obtain ⟨pg, hp⟩ := h10 i (by omega)
            exact ⟨pg, old _ (q + 1) (fun c p1 p2 => w1 c (by omega)) rfl gs_eI (by omega) (by omega) i pg hp⟩
      · rw [g1] at k1; cases k1
    · rcases f3 with ⟨l', k1, _⟩ | ⟨p', k1, k2, k3, k4, k5, k6, k7⟩
      · rw [g1] at k1; cases k1
      · have ep : p' = p := Sum.inr.inj (k1.symm.trans g1)
        subst ep
        have eU : U_X10_finding (-1005) A2 = setI A2 1 4 (A2.1 1 4 + 1) := rfl
        rw [g3, if_neg (nI_pos (by omega)), bd1_s, fin_V, eU, k3]
        have w1 : ∀ c, c ≠ 1 → (setI A2 1 4 (A2.1 1 4 + 1)).1 c = A2.1 c := fun c hc => fI hc
        have q0 : (setI A2 1 4 (A2.1 1 4 + 1)).1 0 10 = nI q := by rw [w1 0 (by decide), d0 10 (by decide)]; exact h2
        have sv : ∀ i x, SVp A B i x → SVp (setI A2 1 4 (A2.1 1 4 + 1)) B1 i x := fun i x hh => by
          obtain ⟨pg, hp, hx⟩ := hh
          exact ⟨pg, old _ q (fun c p1 p2 => w1 c (by omega)) rfl q0 (Nat.le_refl _) (by omega) i pg hp, hx⟩
        refine ⟨-1005, _, B1, rfl, rfl, h.rd (A' := setI A2 1 4 (A2.1 1 4 + 1)) (fun c p1 p2 => by rw [w1 c (by omega)]; exact o c (by omega) (by omega) (by omega) (by omega) (by omega)) (by rw [w1 0 (by decide)]; exact d0 9 (by decide)) b1 b0 sv ⟨q, by omega, q0, k4, by rw [w1 0 (by decide), d11, g3, k5], fun e => absurd e cq, ?_, fun i w e => Kn i w e, fun i hi d hd => by rw [w1 d (by omega)]; exact Zs i hi d hd, fun i hi => ?_⟩ (fun i hi => ?_), fun d hd => ⟨by rw [w1 d (by omega)]; exact (loA d hd).1, (loA d hd).2⟩, hiB⟩
        · obtain ⟨T', n', t1, t2⟩ := Tp
          exact ⟨T', n', ⟨by rw [w1 2 (by decide)]; exact t1.1, t1.2.1, fun i hi => by rw [w1 3 (by decide)]; exact t1.2.2 i hi⟩, t2⟩
        · obtain ⟨pg, hp⟩ := h10 i hi
          exact ⟨pg, old _ q (fun c p1 p2 => w1 c (by omega)) rfl q0 (Nat.le_refl _) (by omega) i pg hp⟩
        · have a1 : A2.1 1 = A.1 1 := o 1 (by decide) (by decide) (by decide) (by decide) (by omega)
          by_cases ei : i = 4
          · subst ei
            rw [gs_eI, a1, k6, h.2.1 4 (by decide)]
          · rw [gI (Or.inr ei), a1, k7 _ (by omega)]; exact h.2.1 i hi
end RDS
