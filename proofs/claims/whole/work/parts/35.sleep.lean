/-! ===== the ball sleeps ===== -/
theorem lay_TK {b mA t : Nat} {SV : Nat → Nat → Prop} {A0 B0 A B : Mem} (hm : mA ≠ 242) (h1 : FrA b A0 A) (h2 : FrB mA B0 B) (h3 : B.1 242 30 = nI 10) (h4 : HeadR b t A (B.1 mA)) (h5 : TalR b t A (B.1 mA)) (h7 : ∀ r, r < 10 → RobR b SV A (B.1 mA) r) (h8 : PastT b t A (B.1 mA)) : ∃ A' B', R_X2_putBall b A = some A' ∧ R_X11_lay mA B = some B' ∧ TK b mA t SV A0 B0 A' B' := by
  have hpos : ∀ j, j < 10 → ∀ c i, c < 15 → i < 9 → ((A.1 (b + 10 + 2 * j) 2 = nI c ∧ A.1 (b + 10 + 2 * j) 3 = nI i) ↔ (j < 10 ∧ ¬ nI j = -1 ∧ (B.1 mA) (44 + 16 * j) = nI c ∧ (B.1 mA) (44 + 16 * j + 1) = nI i)) := by
    intro j hj c i hc hi
    obtain ⟨d1, d2⟩ := (h7 j hj).1
    rw [d1, d2]
    exact ⟨fun z => ⟨hj, fun q => m1_nle (q ▸ nI_pos' (by omega)), z⟩, fun z => z.2.2⟩
  obtain ⟨e1, e2, e3⟩ := putBall_C (ρ := B.1 mA) (p := 10) (by decide) hpos
  have f1 := lay_M (mA := mA) (p := 10) (B := B) hm (by decide) h3
  generalize FP (occM (B.1 mA) (-1) 10) 7 4 = q at e1 e2 e3 f1
  obtain ⟨px, py⟩ := q
  dsimp only at e1 e2 e3 f1
  obtain ⟨bx, b0, b1, b2, b4, b5, b6, b9⟩ := lay_ball (b := b) (mA := mA) (A := A) (B := B) hm e2 e3
  refine ⟨_, _, e1, f1, ?_, ?_, by rw [layM_30 hm]; exact h3, h4.cg (fun j => lieC_o (by omega)) (fun k hk => layM_o hm (by omega)), h5.cg (fun c j a1 a2 => lieC_o (by omega)) (fun k hk => layM_o hm (by omega)), ⟨⟨bx, b0, b1, ?_, ?_, ?_, ?_⟩, Or.inl ⟨b2.2, ⟨0, by decide, b4.2⟩, ?_, ?_⟩, ?_, Or.inl b9.2⟩, fun r hr => (h7 r hr).cg (fun j _ => lieC_o (by omega)) (fun i _ => lieC_o (by omega)) (fun k _ => layM_o hm (by omega)), h8.cg (fun c j hc => lieC_o (by omega)) (fun k hk => layM_o hm (by omega))⟩
  · unfold lieC U_X0_lie U_X0_free U_X0_go
    exact ((((((h1.set (by omega) (by omega)).set (by omega) (by omega)).set (by omega) (by omega)).set (by omega) (by omega)).set (by omega) (by omega)).set (by omega) (by omega)).set (by omega) (by omega)
  · unfold layM U_X11_stopBall putB
    exact ((((((((h2.scr (scr_of (by omega))).scr (scr_of (by omega))).row hm).row hm).row hm).row hm).row hm).row hm).row hm
  · rw [b2.1, b2.2]
  · rw [b4.1, b4.2]
  · rw [b5.1, b5.2]
  · rw [b6.1, b6.2]
  · rw [b5.2]; exact Or.inr (Or.inl rfl)
  · rw [b6.2]; exact Or.inr (Or.inl rfl)
  · rw [b9.1, b9.2]
def slpC (b : Nat) (v x y : Int32) (A : Mem) : Mem := setI (setI (setI A (b + 4) 9 v) (b + 4) 7 x) (b + 4) 8 y
def slpM (mA : Nat) (v x y : Int32) (B : Mem) : Mem := setI (setI (setI B mA 21 v) mA 22 x) mA 23 y
theorem slp_eq {b mA t : Nat} {A B : Mem} (h : BallR b t A (B.1 mA)) : ∃ s : Nat, s ≤ 10 ∧ (s = 0 ∨ B.1 mA 16 < 0) ∧ R_X0_hasSlept (b + 4) A = some (if nI s < (10 : Int32) then 0 else 1, slpC b (nI s) (B.1 mA 14) (B.1 mA 15) A) ∧ V_X11_sleeps mA B = nI s ∧ U_X11_sleeps mA B = slpM mA (nI s) (B.1 mA 14) (B.1 mA 15) B := by
  obtain ⟨⟨_, e0, e1, e2, _⟩, _, hs9, hst⟩ := h
  have hsame : (if (A.1 (b + 4) 9) ≤ 0 then (0 : Int32) else (if (A.1 (b + 4) 7) = (A.1 (b + 4) 0) then (if (A.1 (b + 4) 8) = (A.1 (b + 4) 1) then (1 : Int32) else (0 : Int32)) else (0 : Int32))) = (if (B.1 mA 21) ≤ 0 then (0 : Int32) else (if (B.1 mA 22) = (B.1 mA 14) then (if (B.1 mA 23) = (B.1 mA 15) then (1 : Int32) else (0 : Int32)) else (0 : Int32))) := by
    rw [hs9, e0, e1]
    rcases hst with h0 | ⟨s, _, _, _, h7, h8⟩
    · rw [h0, if_pos (by decide), if_pos (by decide)]
    · rw [h7, h8]
  have hv : ∃ s : Nat, s ≤ 10 ∧ (s = 0 ∨ B.1 mA 16 < 0) ∧ (if (B.1 mA 16) < 0 then (if (if (B.1 mA 21) ≤ 0 then (0 : Int32) else (if (B.1 mA 22) = (B.1 mA 14) then (if (B.1 mA 23) = (B.1 mA 15) then (1 : Int32) else (0 : Int32)) else (0 : Int32))) = 0 then (1 : Int32) else ((B.1 mA 21) + (1 : Int32))) else (0 : Int32)) = nI s := by
    by_cases c : B.1 mA 16 < 0
    · rw [if_pos c]
      generalize (if (B.1 mA 21) ≤ 0 then (0 : Int32) else (if (B.1 mA 22) = (B.1 mA 14) then (if (B.1 mA 23) = (B.1 mA 15) then (1 : Int32) else (0 : Int32)) else (0 : Int32))) = f
      by_cases c2 : f = 0
      · rw [if_pos c2]; exact ⟨1, by decide, Or.inr c, rfl⟩
      · rw [if_neg c2]
        rcases hst with h0 | ⟨s, a1, a2, a3, _⟩
        · rw [h0]; exact ⟨1, by decide, Or.inr c, rfl⟩
        · rw [a3, nI_1]; exact ⟨s + 1, by omega, Or.inr c, rfl⟩
    · rw [if_neg c]; exact ⟨0, by decide, Or.inl rfl, rfl⟩
  obtain ⟨s, hs, hs2, hv⟩ := hv
  refine ⟨s, hs, hs2, ?_, ?_, ?_⟩
  · unfold R_X0_hasSlept
    simp only [bd1_s]
    rw [hsame, e2, hs9, hv, e0, e1]
    by_cases c : nI s < (10 : Int32)
    · rw [if_pos c, cz_0]; rfl
    · rw [if_neg c, cz_1]; rfl
  · unfold V_X11_sleeps; dsimp only; exact hv
  · unfold U_X11_sleeps; dsimp only; rw [hv]; rfl
theorem slpC_o {b c j : Nat} {v x y : Int32} {A : Mem} (h : c ≠ b + 4 ∨ j < 7) : (slpC b v x y A).1 c j = A.1 c j := by
  unfold slpC; simp (disch := omega) only [gI]
theorem slpM_o {mA k : Nat} {v x y : Int32} {B : Mem} (h : k < 21 ∨ 23 < k) : (slpM mA v x y B).1 mA k = B.1 mA k := by
  unfold slpM; simp (disch := omega) only [gI]
theorem slp_pre {b mA t : Nat} {v x y : Int32} {SV : Nat → Nat → Prop} {A0 B0 A B : Mem} (hm : mA ≠ 242) (hK : TK b mA t SV A0 B0 A B) : FrA b A0 (slpC b v x y A) ∧ FrB mA B0 (slpM mA v x y B) ∧ (slpM mA v x y B).1 242 30 = nI 10 ∧ HeadR b t (slpC b v x y A) ((slpM mA v x y B).1 mA) ∧ TalR b t (slpC b v x y A) ((slpM mA v x y B).1 mA) ∧ (∀ r, r < 10 → RobR b SV (slpC b v x y A) ((slpM mA v x y B).1 mA) r) ∧ PastT b t (slpC b v x y A) ((slpM mA v x y B).1 mA) := by
  obtain ⟨h1, h2, h3, h4, h5, h6, h7, h8⟩ := hK
  refine ⟨((h1.set (by omega) (by omega)).set (by omega) (by omega)).set (by omega) (by omega), ((h2.row hm).row hm).row hm, ?_, h4.cg (fun j => slpC_o (Or.inl (by omega))) (fun k hk => slpM_o (by omega)), h5.cg (fun c j a1 a2 => slpC_o (Or.inl (by omega))) (fun k hk => slpM_o (by omega)), fun r hr => (h7 r hr).cg (fun j _ => slpC_o (Or.inl (by omega))) (fun i _ => slpC_o (Or.inl (by omega))) (fun k _ => slpM_o (by omega)), h8.cg (fun c j hc => slpC_o (Or.inl (by omega))) (fun k hk => slpM_o (by omega))⟩
  unfold slpM
  rw [gI (Or.inl (Ne.symm hm)), gI (Or.inl (Ne.symm hm)), gI (Or.inl (Ne.symm hm))]; exact h3
theorem slp_TK {b mA t s : Nat} {SV : Nat → Nat → Prop} {A0 B0 A B : Mem} (hm : mA ≠ 242) (hs : s < 10) (hK : TK b mA t SV A0 B0 A B) : TK b mA t SV A0 B0 (slpC b (nI s) (B.1 mA 14) (B.1 mA 15) A) (slpM mA (nI s) (B.1 mA 14) (B.1 mA 15) B) := by
  obtain ⟨p1, p2, p3, p4, p5, p7, p8⟩ := slp_pre (v := nI s) (x := B.1 mA 14) (y := B.1 mA 15) hm hK
  obtain ⟨hE, hF, _⟩ := hK.2.2.2.2.2.1
  refine ⟨p1, p2, p3, p4, p5, ⟨?_, ?_, ?_, ?_⟩, p7, p8⟩
  · unfold BallE at hE ⊢
    rw [slpC_o (Or.inr (by decide)), slpC_o (Or.inr (by decide)), slpC_o (Or.inr (by decide)), slpC_o (Or.inr (by decide)), slpC_o (Or.inr (by decide)), slpC_o (Or.inr (by decide)), slpM_o (by omega), slpM_o (by omega), slpM_o (by omega), slpM_o (by omega), slpM_o (by omega), slpM_o (by omega)]
    exact hE
  · rcases hF with hF | ⟨h, a1, a2, a3, a4, a5, a6, a7, a8, a9⟩
    · left
      unfold FreeB at hF ⊢
      rw [slpM_o (by omega), slpM_o (by omega), slpM_o (by omega), slpM_o (by omega)]; exact hF
    · right
      refine ⟨h, a1, ?_⟩
      rw [slpC_o (Or.inr (by decide)), slpM_o (by omega), slpM_o (by omega), slpM_o (by omega), slpM_o (by omega), slpM_o (by omega), slpM_o (by omega), slpM_o (by omega), slpM_o (by omega), slpM_o (by omega)]
      exact ⟨a2, a3, a4, a5, a6, a7, a8, a9⟩
  · unfold slpC slpM; simp (disch := omega) only [gI, gs_eI]
  · rcases Nat.eq_zero_or_pos s with e | e
    · left; subst e; unfold slpM; simp (disch := omega) only [gI, gs_eI]; rfl
    · right
      refine ⟨s, hs, e, ?_, ?_, ?_⟩ <;> (unfold slpM; (try unfold slpC); simp (disch := omega) only [gI, gs_eI])
