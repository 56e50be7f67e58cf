/-! ===== doCommand; the ball rolls ===== -/
theorem n20 : ¬ (2 : Int32) = 0 := by decide
theorem n21 : ¬ (2 : Int32) = 1 := by decide
theorem n12 : ¬ (1 : Int32) = 2 := by decide
theorem n01 : ¬ (0 : Int32) = 1 := by decide
theorem n02 : ¬ (0 : Int32) = 2 := by decide
def freeC (b : Nat) (x y p : Int32) (A : Mem) : Mem := U_X0_free (b + 4) x y p A
def freeM (mA : Nat) (x y p : Int32) (B : Mem) : Mem := setI (setI (setI (setI B mA 16 (-1)) mA 17 p) mA 18 x) mA 19 y
theorem freeC_o {b c j : Nat} {x y p : Int32} {A : Mem} (h : c ≠ b + 4 ∨ (j ≠ 2 ∧ j ≠ 4 ∧ j ≠ 5 ∧ j ≠ 6)) : (freeC b x y p A).1 c j = A.1 c j := by
  unfold freeC U_X0_free; simp (disch := omega) only [gI]
theorem freeM_o {mA k : Nat} {x y p : Int32} {B : Mem} (h : k < 16 ∨ 19 < k) : (freeM mA x y p B).1 mA k = B.1 mA k := by
  unfold freeM; simp (disch := omega) only [gI]
theorem freeM_c {mA c : Nat} {x y p : Int32} {B : Mem} (h : c ≠ mA) : (freeM mA x y p B).1 c = B.1 c := by
  unfold freeM; simp (disch := omega) only [fI]
theorem free_TK {b mA t p : Nat} {x y : Int32} {SV : Nat → Nat → Prop} {A0 B0 A B : Mem} (hm : mA ≠ 242) (hx : sg3 x) (hy : sg3 y) (hp : p < 10) (hK : TK b mA t SV A0 B0 A B) : TK b mA t SV A0 B0 (freeC b x y (nI p) A) (freeM mA x y (nI p) B) := by
  obtain ⟨h1, h2, h3, h4, h5, ⟨hE, _, hS⟩, h7, h8⟩ := hK
  refine ⟨?_, ?_, by rw [freeM_c (Ne.symm hm)]; exact h3, h4.cg (fun j => freeC_o (Or.inl (by omega))) (fun k hk => freeM_o (by omega)), h5.cg (fun c j a1 a2 => freeC_o (Or.inl (by omega))) (fun k hk => freeM_o (by omega)), ⟨?_, Or.inl ⟨?_, ⟨p, hp, ?_⟩, ?_, ?_⟩, hS.cg (fun j hj => freeC_o (Or.inr (by omega))) (fun k hk => freeM_o (by omega))⟩, fun s hs => (h7 s hs).cg (fun j _ => freeC_o (Or.inl (by omega))) (fun i _ => freeC_o (Or.inl (by omega))) (fun k _ => freeM_o (by omega)), h8.cg (fun c j hc => freeC_o (Or.inl (by omega))) (fun k hk => freeM_o (by omega))⟩
  · unfold freeC U_X0_free
    exact (((h1.set (by omega) (by omega)).set (by omega) (by omega)).set (by omega) (by omega)).set (by omega) (by omega)
  · unfold freeM
    exact (((h2.row hm).row hm).row hm).row hm
  · obtain ⟨e0, e1, e2, _⟩ := hE
    refine ⟨by rw [freeM_o (by omega), freeM_o (by omega)]; exact e0, by rw [freeM_o (by omega), freeC_o (Or.inr (by omega))]; exact e1, by rw [freeM_o (by omega), freeC_o (Or.inr (by omega))]; exact e2, ?_, ?_, ?_, ?_⟩ <;> (unfold freeC freeM U_X0_free; simp (disch := omega) only [gI, gs_eI])
  · unfold freeM; simp (disch := omega) only [gI, gs_eI]
  · unfold freeM; simp (disch := omega) only [gI, gs_eI]
  · have : (freeM mA x y (nI p) B).1 mA 18 = x := by unfold freeM; simp (disch := omega) only [gI, gs_eI]
    rw [this]; exact hx
  · have : (freeM mA x y (nI p) B).1 mA 19 = y := by unfold freeM; simp (disch := omega) only [gs_eI]
    rw [this]; exact hy
theorem doCmd_sim {b mA t r : Nat} {SV : Nat → Nat → Prop} {A0 B0 A B : Mem} (hm : mA = 259 ∨ mA = 260) (ht : t < 2 ^ 30) (hr : r < 10) (hK : TK b mA t SV A0 B0 A B) (hC : ∀ s, s < 10 → CW b A B (B.1 mA) s) :
    ∃ A' B', R_X2_doCommand b (nI r) A = some A' ∧ R_X11_doCommand (nI r) mA B = some B' ∧ TK b mA t SV A0 B0 A' B' ∧ ∀ s, s < 10 → CW b A' B' (B'.1 mA) s := by
  have hm2 : mA ≠ 242 := by omega
  obtain ⟨c15, c16, cw1, cw2, hcmd⟩ := hC r hr
  have hCM : A.1 (b + 10 + 2 * r) 14 = B.1 mA (44 + 16 * r + 10) := (hK.2.2.2.2.2.2.1 r hr).2.2.2.2.2.1
  have o10 := of_eq (r := r) (c := 10) (w := 10) (mA := mA) (M := B) hr (by decide) rfl
  have hh : A.1 (b + 4) 2 = B.1 mA 16 := hK.2.2.2.2.2.1.1.2.2.2.1
  unfold R_X2_doCommand R_X11_doCommand
  rw [if_neg (nI_pos (by omega)), if_pos (ltL (y := 10) 10 hr rfl (by decide)), ck_nI hr (by omega), ck_nI hr (by omega), nI_clamp (by omega)]
  simp only [bd1_s]
  rw [ck_nI hr (by omega), bnd1_e o10, c15, c16, hCM, hh]
  by_cases z : B.1 262 r = 0 ∧ B.1 263 r = 0
  · rw [if_pos z.1, if_pos z.2, if_pos z.1, if_pos z.2, br1_l, br1_l]
    refine ⟨A, B, rfl, ?_, hK, hC⟩
    split <;> rfl
  · have e1 : ∀ {ρ : Type} (X : ρ), (if B.1 262 r = 0 then (if B.1 263 r = 0 then (some (Sum.inl X) : Option (ρ ⊕ Unit)) else (some (.inr ()))) else (some (.inr ()))) = some (.inr ()) := by
      intro ρ X
      by_cases z1 : B.1 262 r = 0
      · rw [if_pos z1, if_neg (fun q => z ⟨z1, q⟩)]
      · rw [if_neg z1]
    rw [e1, e1, br1_r, br1_r]
    rcases hcmd with k | k | ⟨k, k17, p, hp, k18⟩
    · rw [k, if_neg n01, if_neg n02, if_pos rfl]
      exact ⟨A, B, rfl, rfl, hK, hC⟩
    · rw [k, if_pos rfl, if_neg n10, if_neg n12]
      obtain ⟨A', B', g1, g2, g3, g4⟩ := mv_sim hm ht hr hK hC
      refine ⟨A', B', ?_, g2, g3, g4⟩
      rw [bnd1_e g1]; rfl
    · rw [k, if_neg n21, if_pos rfl, if_neg n20, if_pos rfl, k17, k18]
      by_cases c : B.1 mA 16 = nI r
      · rw [if_pos c, if_pos c, ck_nI hr (by omega)]
        have h2 := free_TK hm2 cw1 cw2 hp hK
        refine ⟨freeC b (B.1 262 r) (B.1 263 r) (nI p) A, freeM mA (B.1 262 r) (B.1 263 r) (nI p) B, rfl, rfl, h2, fun s hs => ?_⟩
        exact (hC s hs).cg (fun j _ => freeC_o (Or.inl (by omega))) (fun c hc => freeM_c (by omega)) (freeM_o (by omega))
      · rw [if_neg c, if_neg c]
        exact ⟨A, B, rfl, rfl, hK, hC⟩
