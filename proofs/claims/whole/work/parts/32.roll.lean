/-! ===== the ball rolls ===== -/
def TK0 (b mA t : Nat) (SV : Nat → Nat → Prop) (A0 B0 A B : Mem) : Prop := FrA b A0 A ∧ FrB mA B0 B ∧ B.1 242 30 = nI 10 ∧ HeadR b t A (B.1 mA) ∧ TalR b t A (B.1 mA) ∧ StilB b A (B.1 mA) ∧ (∀ r, r < 10 → RobR b SV A (B.1 mA) r) ∧ PastT b t A (B.1 mA)
theorem TK.t0 {b mA t : Nat} {SV : Nat → Nat → Prop} {A0 B0 A B : Mem} (h : TK b mA t SV A0 B0 A B) : TK0 b mA t SV A0 B0 A B := by
  obtain ⟨h1, h2, h3, h4, h5, ⟨_, _, h6⟩, h7, h8⟩ := h
  exact ⟨h1, h2, h3, h4, h5, h6, h7, h8⟩
theorem TK0.tk {b mA t : Nat} {SV : Nat → Nat → Prop} {A0 B0 A B : Mem} (h : TK0 b mA t SV A0 B0 A B) (hE : BallE b A (B.1 mA)) (hF : FreeB (B.1 mA) ∨ HeldB b t A (B.1 mA)) : TK b mA t SV A0 B0 A B := by
  obtain ⟨h1, h2, h3, h4, h5, h6, h7, h8⟩ := h
  exact ⟨h1, h2, h3, h4, h5, ⟨hE, hF, h6⟩, h7, h8⟩
theorem TK0.setC {b mA t j : Nat} {v : Int32} {SV : Nat → Nat → Prop} {A0 B0 A B : Mem} (h : TK0 b mA t SV A0 B0 A B) (hj : j < 7) : TK0 b mA t SV A0 B0 (setI A (b + 4) j v) B := by
  obtain ⟨h1, h2, h3, h4, h5, h6, h7, h8⟩ := h
  exact ⟨h1.set (by omega) (by omega), h2, h3, h4.cg (fun _ => gI (Or.inl (by omega))) (fun _ _ => rfl), h5.cg (fun c j a1 a2 => gI (Or.inl (by omega))) (fun _ _ => rfl), h6.cg (fun j hj => gI (Or.inr (by omega))) (fun _ _ => rfl), fun s hs => (h7 s hs).cg (fun j _ => gI (Or.inl (by omega))) (fun i _ => gI (Or.inl (by omega))) (fun _ _ => rfl), h8.cg (fun c j hc => gI (Or.inl (by omega))) (fun _ _ => rfl)⟩
theorem TK0.setM {b mA t k : Nat} {v : Int32} {SV : Nat → Nat → Prop} {A0 B0 A B : Mem} (h : TK0 b mA t SV A0 B0 A B) (hm : mA ≠ 242) (hk : 14 ≤ k ∧ k ≤ 20) : TK0 b mA t SV A0 B0 A (setI B mA k v) := by
  obtain ⟨h1, h2, h3, h4, h5, h6, h7, h8⟩ := h
  exact ⟨h1, h2.row hm, by rw [gI (Or.inl (Ne.symm hm))]; exact h3, h4.cg (fun _ => rfl) (fun k hk => gI (Or.inr (by omega))), h5.cg (fun _ _ _ _ => rfl) (fun k hk => gI (Or.inr (by omega))), h6.cg (fun _ _ => rfl) (fun k hk => gI (Or.inr (by omega))), fun s hs => (h7 s hs).cg (fun _ _ => rfl) (fun _ _ => rfl) (fun k _ => gI (Or.inr (by omega))), h8.cg (fun _ _ _ => rfl) (fun k hk => gI (Or.inr (by omega)))⟩
theorem TK0.hold {b mA t r : Nat} {SV : Nat → Nat → Prop} {A0 B0 A B : Mem} (h : TK0 b mA t SV A0 B0 A B) (hm : mA ≠ 242) (hr : r < 10) : TK b mA t SV A0 B0 (holdC b r (B.1 mA (44 + 16 * r)) (B.1 mA (44 + 16 * r + 1)) (nI t) A) (holdM mA r B) := by
  obtain ⟨h1, h2, h3, h4, h5, h6, h7, h8⟩ := h
  exact hold_TK hm hr h1 h2 h3 h4 h5 h6 h7 h8
theorem sg3_neg {w : Int32} (h : sg3 w) : sg3 (-w) := by
  rcases h with e | e | e <;> subst e
  · right; right; decide
  · right; left; decide
  · left; decide
/-- the kinds of a roll's end: (class, model) -/
def Gl (gc gm : Int32) : Prop := (gc = 1 ∧ gm = 1) ∨ (gc = 2 ∧ gm = 0)
theorem pw_pred {p : Nat} (h : ¬ nI p ≤ 0) : ∃ q, p = q + 1 := by
  cases p with
  | zero => exact absurd (by decide) h
  | succ q => exact ⟨q, rfl⟩
theorem roll_turn {b mA t p : Nat} {SV : Nat → Nat → Prop} {A0 B0 A B : Mem} {x y : Int32} (hm : mA ≠ 242) (hK : TK b mA t SV A0 B0 A B) (hfree : B.1 mA 16 = -1) (hp : p < 10) (hx : sg3 x) (hy : sg3 y) :
    TK b mA t SV A0 B0 (setI (setI (setI A (b + 4) 4 (nI p)) (b + 4) 5 x) (b + 4) 6 y) (setI (setI (setI B mA 17 (nI p)) mA 18 x) mA 19 y) := by
  have h0 := (((((hK.t0.setC (j := 4) (v := nI p) (by decide)).setC (j := 5) (v := x) (by decide)).setC (j := 6) (v := y) (by decide)).setM (k := 17) (v := nI p) hm (by decide)).setM (k := 18) (v := x) hm (by decide)).setM (k := 19) (v := y) hm (by decide)
  obtain ⟨⟨bx, by_, e1, e2, e3, e4⟩, e5, e6, e7, e8, e9, e10⟩ := hK.2.2.2.2.2.1.1
  refine h0.tk ⟨⟨bx, by_, e1, e2, ?_, ?_⟩, ?_, ?_, ?_, ?_, ?_, ?_⟩ (Or.inl ⟨?_, ⟨p, hp, ?_⟩, ?_, ?_⟩) <;> (try simp (disch := omega) only [gI, gs_eI])
  all_goals first | assumption | rfl
theorem roll_go {b mA t p x y : Nat} {SV : Nat → Nat → Prop} {A0 B0 A B : Mem} (hm : mA ≠ 242) (hK : TK b mA t SV A0 B0 A B) (hfree : B.1 mA 16 = -1) (hp : p < 10) (hx : x < 15) (hy : y < 9) (hw1 : sg3 (B.1 mA 18)) (hw2 : sg3 (B.1 mA 19)) :
    TK b mA t SV A0 B0 (setI (setI (setI A (b + 4) 4 (nI p)) (b + 4) 0 (nI x)) (b + 4) 1 (nI y)) (setI (setI (setI B mA 17 (nI p)) mA 14 (nI x)) mA 15 (nI y)) := by
  have h0 := (((((hK.t0.setC (j := 4) (v := nI p) (by decide)).setC (j := 0) (v := nI x) (by decide)).setC (j := 1) (v := nI y) (by decide)).setM (k := 17) (v := nI p) hm (by decide)).setM (k := 14) (v := nI x) hm (by decide)).setM (k := 15) (v := nI y) hm (by decide)
  obtain ⟨_, e5, e6, e7, e8, e9, e10⟩ := hK.2.2.2.2.2.1.1
  refine h0.tk ⟨⟨x, y, hx, hy, ?_, ?_⟩, ?_, ?_, ?_, ?_, ?_, ?_⟩ (Or.inl ⟨?_, ⟨p, hp, ?_⟩, ?_, ?_⟩) <;> (try simp (disch := omega) only [gI, gs_eI])
  all_goals first | assumption | rfl
theorem out_cases {x N : Nat} {d u w : Int32} (hw : sg3 d) (hx : x < N + 1) (hN : N + 1 < 100) (hu : u = nI (N + 1)) (hv : w = nI N) : ∃ o : Int32, (o = 0 ∨ o = 1) ∧ (if nI x + d < 0 then (1 : Int32) else (if nI x + d < u then (0 : Int32) else (1 : Int32))) = o ∧ (∀ M, (if V_X11_in (nI x + d) 0 w M = 0 then (1 : Int32) else (0 : Int32)) = o) ∧ (o = 0 → ∃ y, y < N + 1 ∧ nI x + d = nI y) := by
  subst hu hv
  rcases step1 (w := 0) hw hx hN rfl with a1 | ⟨a1, a2⟩ | ⟨x', hx', a1⟩
  · refine ⟨1, Or.inr rfl, by rw [if_pos a1], fun M => by rw [in_lt a1, if_pos rfl], fun q => absurd q n10⟩
  · refine ⟨1, Or.inr rfl, by rw [if_neg a2, if_neg (fun q => i_nle q a1)], fun M => by rw [in_gt (lt_of_le1 a1 (by omega)), if_pos rfl], fun q => absurd q n10⟩
  · refine ⟨0, Or.inl rfl, ?_, fun M => ?_, fun _ => ⟨x', hx', a1⟩⟩
    · rw [a1, if_neg (nI_pos (by omega)), if_pos (nI_lt hx' (by omega))]
    · rw [a1, inN (n := N) (by omega) rfl (by omega), if_neg n10]
/-- one time of rolling: the class's and the model's continuations meet -/
theorem roll_step {b mA t n i : Nat} {SV : Nat → Nat → Prop} {A0 B0 A B : Mem} (hm : mA ≠ 242) (hK : TK b mA t SV A0 B0 A B) :
    (∃ A' B', L_X2_roll_2 b (n + 1) i A = some (.inr A') ∧ L_X11_roll_2 mA (n + 1) i B = some (.inr B') ∧ TK b mA t SV A0 B0 A' B') ∨ (∃ A' B' gc gm, L_X2_roll_2 b (n + 1) i A = some (.inl (gc, A')) ∧ L_X11_roll_2 mA (n + 1) i B = some (.inl (gm, B')) ∧ Gl gc gm ∧ TK b mA t SV A0 B0 A' B') ∨ (∃ A' B', L_X2_roll_2 b (n + 1) i A = L_X2_roll_2 b n (i + 1) A' ∧ L_X11_roll_2 mA (n + 1) i B = L_X11_roll_2 mA n (i + 1) B' ∧ TK b mA t SV A0 B0 A' B') := by
  obtain ⟨⟨⟨bx, by_, e1, e2, e3, e4⟩, e5, e6, e7, e8, e9, e10⟩, hF, hS⟩ := hK.2.2.2.2.2.1
  rw [L_X2_roll_2, L_X11_roll_2, e7, e8]
  rcases hF with ⟨f1, ⟨p, hp, f2⟩, f3, f4⟩ | ⟨h, g1, g2, _⟩
  · rw [f1, if_neg m1_nle, if_neg m1_nle, f2]
    by_cases c1 : nI p ≤ 0
    · rw [if_pos c1, if_pos c1]
      exact Or.inl ⟨A, B, rfl, rfl, hK⟩
    · rw [if_neg c1, if_neg c1]
      obtain ⟨q, rfl⟩ := pw_pred c1
      have eq1 : nI (q + 1) - (1 : Int32) = nI q := nI_pred q
      have hgoal : TK b mA t SV A0 B0 (setI A (b + 4) 4 (nI q)) (setI B mA 17 (nI q)) := by
        have h0 := (hK.t0.setC (j := 4) (v := nI q) (by decide)).setM (k := 17) (v := nI q) hm (by decide)
        refine h0.tk ⟨⟨bx, by_, e1, e2, ?_, ?_⟩, ?_, ?_, ?_, ?_, ?_, ?_⟩ (Or.inl ⟨?_, ⟨q, by omega, ?_⟩, ?_, ?_⟩) <;> (try simp (disch := omega) only [gI, gs_eI])
        all_goals first | assumption | rfl
      have hturn := fun (x y : Int32) (hx : sg3 x) (hy : sg3 y) => roll_turn (p := q) (x := x) (y := y) hm hK f1 (by omega) hx hy
      have id5 : ∀ (v : Int32), setI (setI (setI A (b + 4) 4 (nI q)) (b + 4) 5 (B.1 mA 18)) (b + 4) 6 v = setI (setI A (b + 4) 4 (nI q)) (b + 4) 6 v := by
        intro v
        congr 1
        exact setI_self (by rw [gI (Or.inr (by decide))]; exact e9)
      have id6 : ∀ (v : Int32), setI (setI (setI A (b + 4) 4 (nI q)) (b + 4) 5 v) (b + 4) 6 (B.1 mA 19) = setI (setI A (b + 4) 4 (nI q)) (b + 4) 5 v := by
        intro v
        exact setI_self (by rw [gI (Or.inr (by decide)), gI (Or.inr (by decide))]; exact e10)
      obtain ⟨ox, ox1, ox2, ox3, ox4⟩ := out_cases (N := 14) (u := 15) (w := 14) f3 e1 (by decide) rfl rfl
      obtain ⟨oy, oy1, oy2, oy3, oy4⟩ := out_cases (N := 8) (u := 9) (w := 8) f4 e2 (by decide) rfl rfl
      have r6a : (setI A (b + 4) 4 (nI q)).1 (b + 4) 6 = B.1 mA 19 := by rw [gI (Or.inr (by decide))]; exact e10
      have r6b : ∀ v, (setI (setI A (b + 4) 4 (nI q)) (b + 4) 5 v).1 (b + 4) 6 = B.1 mA 19 := fun v => by rw [gI (Or.inr (by decide))]; exact r6a
      rw [eq1, e5, e6, e9, e10, e3, e4]
      simp only [bd1_s]
      rw [ox2, oy2, ox3, oy3]
      rcases ox1 with rfl | rfl
      · obtain ⟨x', hx', a1⟩ := ox4 rfl
        rw [if_pos rfl, if_pos rfl, if_pos rfl, if_pos rfl, if_pos rfl, if_pos rfl, bs1_r, bs1_r]
        rcases oy1 with rfl | rfl
        · obtain ⟨y', hy', d1⟩ := oy4 rfl
          rw [if_pos rfl, if_pos rfl, if_pos rfl, a1, d1]
          have e30 : (setI (setI (setI B mA 17 (nI q)) mA 14 (nI x')) mA 15 (nI y')).1 242 30 = nI 10 := by
            rw [gI (Or.inl (Ne.symm hm)), gI (Or.inl (Ne.symm hm)), gI (Or.inl (Ne.symm hm))]; exact hK.2.2.1
          have h0 := ((hK.t0.setC (j := 4) (v := nI q) (by decide)).setM (k := 17) (v := nI q) hm (by decide))
          have h1 := (h0.setM (k := 14) (v := nI x') hm (by decide)).setM (k := 15) (v := nI y') hm (by decide)
          rw [bnd1_e (robotAt_eq (p := 10) (by decide) e30)]
          have es : V_X2_robotIn b (nI x') (nI y') (setI A (b + 4) 4 (nI q)) = srch (inM ((setI (setI (setI B mA 17 (nI q)) mA 14 (nI x')) mA 15 (nI y')).1 mA) (nI x') (nI y') (-1)) 10 0 := rob_same (XYR_all h1.2.2.2.2.2.2.1)
          unfold U_X2_arrive
          dsimp only
          rw [es]
          rcases srch_two (ρ := (setI (setI (setI B mA 17 (nI q)) mA 14 (nI x')) mA 15 (nI y')).1 mA) (x := nI x') (y := nI y') with s1 | ⟨j, hj, s1, s2, s3⟩
          · rw [s1, if_pos m1_lt, if_pos m1_lt, bnd1_s]
            exact Or.inr (Or.inr ⟨_, _, rfl, rfl, roll_go hm hK f1 (by omega) hx' hy' f3 f4⟩)
          · rw [s1, if_neg (nI_pos (by omega)), if_neg (nI_pos (by omega)), bnd1_e (hold_M hj), bnd1_s]
            have h2 := h1.hold hm hj
            rw [s2, s3] at h2
            have h3 : (setI A (b + 4) 4 (nI q)).1 b 7 = nI t := by rw [gI (Or.inl (by omega))]; exact hK.2.2.2.1.2.2.1
            rw [h3]
            exact Or.inr (Or.inr ⟨_, _, rfl, rfl, h2⟩)
        · rw [if_neg n10, if_neg n10, if_neg n10, if_neg n10, bnd1_s, r6a, ← id5]
          exact Or.inr (Or.inr ⟨_, _, rfl, rfl, hturn _ _ f3 (sg3_neg f4)⟩)
      · rw [if_neg n10, if_neg n10, if_neg n10, if_neg n10, if_neg n10, if_neg n10]
        have key : (∃ A' B', L_X2_roll_2 b n (i + 1)
              (if oy = 0 then setI (setI A (b + 4) 4 (nI q)) (b + 4) 5 (-B.1 mA 18)
              else
                setI (setI (setI A (b + 4) 4 (nI q)) (b + 4) 5 (-B.1 mA 18)) (b + 4) 6
                  (-(setI (setI A (b + 4) 4 (nI q)) (b + 4) 5 (-B.1 mA 18)).1 (b + 4) 6)) = L_X2_roll_2 b n (i + 1) A' ∧ L_X11_roll_2 mA n (i + 1) (setI (setI (setI B mA 17 (nI q)) mA 18 (-B.1 mA 18)) mA 19
                    (if oy = 0 then B.1 mA 19 else -B.1 mA 19)) = L_X11_roll_2 mA n (i + 1) B' ∧ TK b mA t SV A0 B0 A' B') := by
          rcases oy1 with rfl | rfl
          · rw [if_pos rfl, if_pos rfl, ← id6]
            exact ⟨_, _, rfl, rfl, hturn _ _ (sg3_neg f3) f4⟩
          · rw [if_neg n10, if_neg n10, r6b]
            exact ⟨_, _, rfl, rfl, hturn _ _ (sg3_neg f3) (sg3_neg f4)⟩
        by_cases y1 : nI by_ + B.1 mA 19 < 3
        · rw [if_pos y1, in_lt y1, if_pos rfl, bs1_r, bs1_r]
          exact Or.inr (Or.inr key)
        · by_cases y2 : 5 < nI by_ + B.1 mA 19
          · rw [if_neg y1, if_pos y2, in_gt y2, if_pos rfl, bs1_r, bs1_r]
            exact Or.inr (Or.inr key)
          · rw [if_neg y1, if_neg y2, in_ok y1 y2, if_neg n10]
            by_cases x1 : 0 ≤ nI bx + B.1 mA 18
            · rw [if_pos x1, if_pos x1, bs1_l, bs1_l]
              exact Or.inr (Or.inl ⟨_, _, 1, 1, rfl, rfl, Or.inl ⟨rfl, rfl⟩, hgoal⟩)
            · rw [if_neg x1, if_neg x1, bs1_l, bs1_l]
              exact Or.inr (Or.inl ⟨_, _, 2, 0, rfl, rfl, Or.inr ⟨rfl, rfl⟩, hgoal⟩)
  · rw [g2, if_pos (nI_pos' (by omega)), if_pos (nI_pos' (by omega))]
    exact Or.inl ⟨A, B, rfl, rfl, hK⟩
theorem roll_loop {b mA t : Nat} {SV : Nat → Nat → Prop} {A0 B0 : Mem} (hm : mA ≠ 242) : ∀ (n i : Nat) (A B : Mem), TK b mA t SV A0 B0 A B → (∃ A' B', L_X2_roll_2 b n i A = some (.inr A') ∧ L_X11_roll_2 mA n i B = some (.inr B') ∧ TK b mA t SV A0 B0 A' B') ∨ (∃ A' B' gc gm, L_X2_roll_2 b n i A = some (.inl (gc, A')) ∧ L_X11_roll_2 mA n i B = some (.inl (gm, B')) ∧ Gl gc gm ∧ TK b mA t SV A0 B0 A' B') := by
  intro n
  induction n with
  | zero => intro i A B h; exact Or.inl ⟨A, B, rfl, rfl, h⟩
  | succ n ih =>
    intro i A B h
    rcases roll_step (n := n) (i := i) hm h with h1 | h1 | ⟨A', B', h1, h2, h3⟩
    · exact Or.inl h1
    · exact Or.inr h1
    · rw [h1, h2]; exact ih (i + 1) A' B' h3
theorem roll_sim {b mA t : Nat} {SV : Nat → Nat → Prop} {A0 B0 A B : Mem} (hm : mA ≠ 242) (hK : TK b mA t SV A0 B0 A B) : ∃ A' B' gc gm, R_X2_roll b A = some (gc, A') ∧ R_X11_roll mA B = some (gm, B') ∧ (Gl gc gm ∨ (gc = 0 ∧ gm = -1)) ∧ TK b mA t SV A0 B0 A' B' := by
  unfold R_X2_roll R_X11_roll
  rcases roll_loop hm 3 0 A B hK with ⟨A', B', h1, h2, h3⟩ | ⟨A', B', gc, gm, h1, h2, h3, h4⟩
  · rw [h1, h2]
    exact ⟨A', B', 0, -1, rfl, rfl, Or.inr ⟨rfl, rfl⟩, h3⟩
  · rw [h1, h2]
    exact ⟨A', B', gc, gm, rfl, rfl, Or.inl h3, h4⟩
