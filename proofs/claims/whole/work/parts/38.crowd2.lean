/-- the model's part of law 3, from the robot that is put on -/
def crM (r mA : Nat) (M : Mem) : Option (Int32 × Mem) := bnd1 (R_X11_putAtStart (nI r) mA M) (fun M21 => bnd1 (if (M21.1 mA 16) = (nI r) then (bnd1 (R_X11_of (nI r) (0 : Int32) mA M21) (fun v25 => bnd1 (R_X11_of (nI r) (1 : Int32) mA (setI M21 mA 14 v25)) (fun v26 => (some (setI (setI M21 mA 14 v25) mA 15 v26))))) else (some M21)) (fun M24 => some ((3 : Int32), M24)))
theorem put_Rob {b mA r s x y : Nat} {SV : Nat → Nat → Prop} {A B : Mem} (hm : mA ≠ 242) (hx : x < 15) (hy : y < 9) (h : RobR b SV A (B.1 mA) s) : RobR b SV (putC b r (nI x) (nI y) A) ((putM mA r (nI x) (nI y) B).1 mA) s := by
  by_cases e : s = r
  · subst e
    obtain ⟨h1, h2, h3, h4, h5, h6, h7⟩ := h
    refine ⟨⟨?_, ?_⟩, ⟨x, y, hx, hy, putM_x.1, putM_x.2⟩, h3.cg (fun j hj => putC_o (Or.inl (by omega))) (fun i _ => putC_w) (fun k hk => putM_o hm (by omega)), h4.cg (fun k hk => putM_o hm (by omega)), h5.cg (fun j hj => putC_o (Or.inl (by omega))) (fun k hk => putM_o hm (by omega)), ?_, h7.cg (fun j hj => putC_o (Or.inl (by omega)))⟩
    · rw [putC_x.1, putM_x.1]
    · rw [putC_x.2, putM_x.2]
    · unfold CMR at h6 ⊢
      rw [putC_o (Or.inl (by omega)), putM_o hm (by omega)]; exact h6
  · exact h.cg (fun j _ => putC_o (Or.inr e)) (fun i _ => putC_w) (fun k _ => putM_o hm (by omega))
theorem putC_far {b r c j : Nat} {px py : Int32} {A : Mem} (hr : r < 10) (h : c < b + 4 ∨ (b + 4 < c ∧ c < b + 10)) : (putC b r px py A).1 c j = A.1 c j := by
  unfold putC U_X5_leave U_X0_go
  split <;> simp (disch := omega) only [gI]
theorem putC_b {b r j : Nat} {px py : Int32} {A : Mem} (h : ¬ A.1 (b + 4) 2 = nI r ∨ 2 ≤ j) : (putC b r px py A).1 (b + 4) j = A.1 (b + 4) j := by
  unfold putC U_X5_leave U_X0_go
  by_cases c : A.1 (b + 4) 2 = nI r
  · rw [if_pos c]
    have : 2 ≤ j := h.elim (fun q => absurd c q) id
    simp (disch := omega) only [gI]
  · rw [if_neg c]; simp (disch := omega) only [gI]
theorem putC_b1 {b r : Nat} {px py : Int32} {A : Mem} (h : A.1 (b + 4) 2 = nI r) : (putC b r px py A).1 (b + 4) 0 = px ∧ (putC b r px py A).1 (b + 4) 1 = py := by
  unfold putC U_X0_go
  rw [if_pos h]
  constructor <;> simp (disch := omega) only [gI, gs_eI]
theorem putFrA {b r : Nat} {px py : Int32} {A0 A : Mem} (h : FrA b A0 A) (hr : r < 10) : FrA b A0 (putC b r px py A) := by
  unfold putC U_X5_leave U_X0_go
  have h2 := (((h.set (a := b + 10 + 2 * r) (j := 2) (v := -1) (by omega) (by omega)).set (a := b + 10 + 2 * r) (j := 3) (v := -1) (by omega) (by omega)).set (a := b + 10 + 2 * r) (j := 2) (v := px) (by omega) (by omega)).set (a := b + 10 + 2 * r) (j := 3) (v := py) (by omega) (by omega)
  split
  · exact (h2.set (by omega) (by omega)).set (by omega) (by omega)
  · exact h2
theorem putFrB {mA r : Nat} {px py : Int32} {B0 B : Mem} (h : FrB mA B0 B) (hm : mA ≠ 242) : FrB mA B0 (putM mA r px py B) := by
  unfold putM putB
  exact (((h.scr (scr_of (by omega))).scr (scr_of (by omega))).row hm).row hm
theorem start_TK {b mA t r : Nat} {SV : Nat → Nat → Prop} {A0 B0 A B : Mem} (hm : mA ≠ 242) (hr : r < 10) (hK : TK b mA t SV A0 B0 A B) : ∃ A' B', R_X2_putAtStart b (nI r) A = some A' ∧ crM r mA B = some (3, B') ∧ TK b mA t SV A0 B0 A' B' := by
  obtain ⟨h1, h2, h3, h4, h5, ⟨hE, hF, hS⟩, h7, h8⟩ := id hK
  obtain ⟨hX, _, hPR, hPI, _⟩ := h7 r hr
  obtain ⟨sx0, sy0, hs1, hs2, hs3, hs4⟩ := hPI.2.2.1
  obtain ⟨sx, hsx, esx⟩ := tX_of (r := r) hs3 hs1
  obtain ⟨sy, hsy, esy⟩ := tY_of (r := r) hs4 hs2
  have hpos : ∀ j, j < 10 → ¬ j = r → ∀ c i, c < 15 → i < 9 → ((A.1 (b + 10 + 2 * j) 2 = nI c ∧ A.1 (b + 10 + 2 * j) 3 = nI i) ↔ (j < 10 ∧ (B.1 mA) (44 + 16 * j) = nI c ∧ (B.1 mA) (44 + 16 * j + 1) = nI i)) := by
    intro j hj _ c i _ _
    obtain ⟨d1, d2⟩ := (h7 j hj).1
    rw [d1, d2]
    exact ⟨fun z => ⟨hj, z⟩, fun z => z.2⟩
  obtain ⟨e1, e2, e3⟩ := putAtStart_C (ρ := B.1 mA) (p := 10) hr hsx hsy (hPR.2.2.2.2.1.trans esx) (hPR.2.2.2.2.2.1.trans esy) (by decide) hpos
  have f1 := putAtStart_M (mA := mA) (r := r) (sx := sx) (sy := sy) (p := 10) (B := B) hr hm hsx hsy esx esy (by decide) h3
  generalize FP (occM (B.1 mA) (nI r) 10) sx sy = q at e1 e2 e3 f1
  obtain ⟨px, py⟩ := q
  dsimp only at e1 e2 e3 f1
  have k1 := putFrA (px := nI px) (py := nI py) h1 hr
  have k2 := putFrB (r := r) (px := nI px) (py := nI py) h2 hm
  have k3 : (putM mA r (nI px) (nI py) B).1 242 30 = nI 10 := by rw [putM_30 hm]; exact h3
  have k4 : HeadR b t (putC b r (nI px) (nI py) A) ((putM mA r (nI px) (nI py) B).1 mA) := h4.cg (fun j => putC_far hr (by omega)) (fun k hk => putM_o hm (by omega))
  have k5 : TalR b t (putC b r (nI px) (nI py) A) ((putM mA r (nI px) (nI py) B).1 mA) := h5.cg (fun c j a1 a2 => putC_far hr (by omega)) (fun k hk => putM_o hm (by omega))
  have k7 : ∀ s, s < 10 → RobR b SV (putC b r (nI px) (nI py) A) ((putM mA r (nI px) (nI py) B).1 mA) s := fun s hs => put_Rob hm e2 e3 (h7 s hs)
  have k8 : PastT b t (putC b r (nI px) (nI py) A) ((putM mA r (nI px) (nI py) B).1 mA) := h8.cg (fun c j hc => putC_far hr (by omega)) (fun k hk => putM_o hm (by omega))
  have k6 : StilB b (putC b r (nI px) (nI py) A) ((putM mA r (nI px) (nI py) B).1 mA) := hS.cg (fun j hj => putC_b (Or.inr (by omega))) (fun k hk => putM_o hm (by omega))
  obtain ⟨ebx, b0, b1, b2, b4, b5, b6⟩ := id hE
  unfold crM
  rw [bnd1_e f1, putM_o (k := 16) hm (by omega)]
  by_cases c : B.1 mA 16 = nI r
  · have cA := b2.trans c
    have o0 := of_eq (r := r) (c := 0) (w := 0) (mA := mA) (M := putM mA r (nI px) (nI py) B) hr (by decide) rfl
    rw [Nat.add_zero, putM_x.1] at o0
    have o1 := of_eq (r := r) (c := 1) (w := 1) (mA := mA) (M := setI (putM mA r (nI px) (nI py) B) mA 14 (nI px)) hr (by decide) rfl
    rw [gI (Or.inr (by omega)), putM_x.2] at o1
    rw [if_pos c, bnd1_e o0, bnd1_e o1]
    have z0 : TK0 b mA t SV A0 B0 (putC b r (nI px) (nI py) A) (putM mA r (nI px) (nI py) B) := ⟨k1, k2, k3, k4, k5, k6, k7, k8⟩
    have z1 := (z0.setM (k := 14) (v := nI px) hm (by decide)).setM (k := 15) (v := nI py) hm (by decide)
    have rd : ∀ k, 16 ≤ k → k < 21 → (setI (setI (putM mA r (nI px) (nI py) B) mA 14 (nI px)) mA 15 (nI py)).1 mA k = B.1 mA k := by
      intro k a1 a2
      rw [gI (Or.inr (by omega)), gI (Or.inr (by omega)), putM_o hm (by omega)]
    have r14 : (setI (setI (putM mA r (nI px) (nI py) B) mA 14 (nI px)) mA 15 (nI py)).1 mA 14 = nI px := by rw [gI (Or.inr (by decide)), gs_eI]
    have r15 : (setI (setI (putM mA r (nI px) (nI py) B) mA 14 (nI px)) mA 15 (nI py)).1 mA 15 = nI py := gs_eI
    refine ⟨_, _, e1, rfl, z1.tk ⟨⟨px, py, e2, e3, r14, r15⟩, ?_, ?_, ?_, ?_, ?_, ?_⟩ (Or.inr ?_)⟩
    · rw [(putC_b1 cA).1, r14]
    · rw [(putC_b1 cA).2, r15]
    · rw [putC_b (Or.inr (by decide)), rd 16 (by decide) (by decide)]; exact b2
    · rw [putC_b (Or.inr (by decide)), rd 17 (by decide) (by decide)]; exact b4
    · rw [putC_b (Or.inr (by decide)), rd 18 (by decide) (by decide)]; exact b5
    · rw [putC_b (Or.inr (by decide)), rd 19 (by decide) (by decide)]; exact b6
    · rcases hF with hF | ⟨k, a1, a2, a3, a4, a5, a6, a7, a8, a9⟩
      · rw [hF.1] at c; exact absurd (c ▸ nI_pos' (by omega)) m1_nle
      · have : k = r := (nI_eq (by omega) (by omega)).mp (a2.symm.trans c)
        subst this
        refine ⟨k, hr, ?_, ?_, ?_, ?_, ?_, ?_, ?_, ?_⟩
        · rw [rd 16 (by decide) (by decide)]; exact a2
        · rw [putC_b (Or.inr (by decide)), rd 20 (by decide) (by decide)]; exact a3
        · rw [rd 20 (by decide) (by decide)]; exact a4
        · rw [rd 17 (by decide) (by decide)]; exact a5
        · rw [rd 18 (by decide) (by decide)]; exact a6
        · rw [rd 19 (by decide) (by decide)]; exact a7
        · rw [r14, gI (Or.inr (by omega)), gI (Or.inr (by omega)), putM_x.1]
        · rw [r15, gI (Or.inr (by omega)), gI (Or.inr (by omega)), putM_x.2]
  · rw [if_neg c]
    refine ⟨_, _, e1, rfl, k1, k2, k3, k4, k5, ?_, k7, k8⟩
    refine (show BallR b t A (B.1 mA) from ⟨hE, hF, hS⟩).cg (fun j => putC_b (Or.inl (fun q => c (b2.symm.trans q)))) (fun k a1 a2 => putM_o hm (by omega)) (fun s hs e => ?_)
    have : s ≠ r := fun q => c (q ▸ e)
    exact ⟨putM_o hm (by omega), putM_o hm (by omega)⟩
