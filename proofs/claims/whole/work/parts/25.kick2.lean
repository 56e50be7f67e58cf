/-! ===== the kick-off's second phase: robots one by one ===== -/
theorem leave_all {b : Nat} {A0 : Mem} : ∀ (n r : Nat) (A : Mem), r + n = 10 → Kp b A0 A → (∀ j, j < r → A.1 (b + 10 + 2 * j) 2 = -1 ∧ A.1 (b + 10 + 2 * j) 3 = -1) → ∃ A', L_X2_kickOff_2 b n r A = some A' ∧ Kp b A0 A' ∧ ∀ j, j < 10 → A'.1 (b + 10 + 2 * j) 2 = -1 ∧ A'.1 (b + 10 + 2 * j) 3 = -1 := by
  intro n
  induction n with
  | zero => intro r A hr hK hM; exact ⟨A, rfl, hK, fun j hj => hM j (by omega)⟩
  | succ n ih =>
    intro r A hr hK hM
    rw [L_X2_kickOff_2]
    unfold U_X5_leave
    refine ih (r + 1) _ (by omega) ((hK.rob (by omega) (by omega)).rob (by omega) (by omega)) (fun j hj => ?_)
    by_cases e : j = r
    · subst e
      constructor <;> simp (disch := omega) only [gs_eI, gI]
    · have := hM j (by omega)
      constructor <;> simp (disch := omega) only [gI]
      · exact this.1
      · exact this.2
theorem joinKp {b r : Nat} {pg sx sy lt ls : Int32} {A0 A : Mem} (h : Kp b A0 A) (hr : r < 10) : Kp b A0 (joinC (b + 10 + 2 * r) pg sx sy lt ls A) := by
  unfold joinC
  exact (((((((((((h.rob hr (by omega)).rob hr (by omega)).rob hr (by omega)).rob hr (by omega)).rob hr (by omega)).rob hr (by omega)).rob hr (by omega)).own hr).own hr).own hr).own hr)
theorem putKp {b r : Nat} {px py : Int32} {A0 A : Mem} (h : Kp b A0 A) (hr : r < 10) : Kp b A0 (putC b r px py A) := by
  unfold putC U_X5_leave U_X0_go
  have h2 := (((h.rob (v := -1) hr (j := 2) (by omega)).rob (v := -1) hr (j := 3) (by omega)).rob (v := px) hr (j := 2) (by omega)).rob (v := py) hr (j := 3) (by omega)
  split
  · exact (h2.ball (by omega) (by omega)).ball (by omega) (by omega)
  · exact h2
/-- what putC leaves alone: all robots' fields but columns and rows -/
theorem putC_o {b r s j : Nat} {px py : Int32} {A : Mem} (h : j ≠ 2 ∧ j ≠ 3 ∨ s ≠ r) : (putC b r px py A).1 (b + 10 + 2 * s) j = A.1 (b + 10 + 2 * s) j := by
  unfold putC U_X5_leave U_X0_go
  split <;> simp (disch := omega) only [gI]
theorem putC_w {b r s j : Nat} {px py : Int32} {A : Mem} : (putC b r px py A).1 (b + 10 + 2 * s + 1) j = A.1 (b + 10 + 2 * s + 1) j := by
  unfold putC U_X5_leave U_X0_go
  split <;> simp (disch := omega) only [gI]
theorem putC_x {b r : Nat} {px py : Int32} {A : Mem} : (putC b r px py A).1 (b + 10 + 2 * r) 2 = px ∧ (putC b r px py A).1 (b + 10 + 2 * r) 3 = py := by
  unfold putC U_X5_leave U_X0_go
  split <;> constructor <;> simp (disch := omega) only [gI, gs_eI]
theorem putM_o {mA r k : Nat} {px py : Int32} {B : Mem} (hm : mA ≠ 242) (hk : k ≠ 44 + 16 * r ∧ k ≠ 44 + 16 * r + 1) : (putM mA r px py B).1 mA k = B.1 mA k := by
  unfold putM putB
  simp (disch := omega) only [gI]
theorem putM_x {mA r : Nat} {px py : Int32} {B : Mem} : (putM mA r px py B).1 mA (44 + 16 * r) = px ∧ (putM mA r px py B).1 mA (44 + 16 * r + 1) = py := by
  unfold putM
  constructor <;> simp (disch := omega) only [gI, gs_eI]
theorem putM_30 {mA r : Nat} {px py : Int32} {B : Mem} (hm : mA ≠ 242) : (putM mA r px py B).1 242 30 = B.1 242 30 := by
  unfold putM putB
  simp (disch := omega) only [gI]
theorem putMKp {mA r : Nat} {px py : Int32} {B0 B : Mem} (h : KpM mA B0 B) (hm : mA ≠ 242) (hr : r < 10) : KpM mA B0 (putM mA r px py B) := by
  unfold putM
  exact ((h.pb hm).row hm (by omega) (by omega)).row hm (by omega) (by omega)
def KO (b mA th ta : Nat) (A0 B0 : Mem) (r : Nat) (A B : Mem) : Prop :=
  Kp b A0 A ∧ KpM mA B0 B ∧ B.1 242 30 = nI r ∧ (∀ j, j < 10 → MP B0 th ta (B.1 mA) j) ∧ (∀ j, j < r → XYR b A (B.1 mA) j ∧ XYI (B.1 mA) j ∧ PRR b A (B.1 mA) j) ∧ (∀ j, r ≤ j → j < 10 → A.1 (b + 10 + 2 * j) 2 = -1 ∧ A.1 (b + 10 + 2 * j) 3 = -1)
theorem tX_of {r x : Nat} {v : Int32} (h : v = nI x) (hx : x < 7) : ∃ y, y < 15 ∧ tX r v = nI y := by
  subst h
  unfold tX
  split
  · exact ⟨x, by omega, rfl⟩
  · exact ⟨14 - x, by omega, by rw [show (14 : Int32) = nI 14 from rfl, pk_sub (by omega)]⟩
theorem tY_of {r x : Nat} {v : Int32} (h : v = nI x) (hx : x < 9) : ∃ y, y < 9 ∧ tY r v = nI y := by
  subst h
  unfold tY
  split
  · exact ⟨x, by omega, rfl⟩
  · exact ⟨8 - x, by omega, by rw [show (8 : Int32) = nI 8 from rfl, pk_sub (by omega)]⟩
theorem KO_step {b mA th ta r : Nat} {SV : Nat → Nat → Prop} {A0 B0 A B : Mem} (hb : 122 ≤ b) (hmA : mA = 259 ∨ mA = 260) (hth : th < 4) (hta : ta < 4) (hA8 : A0.1 b 8 = nI th) (hA9 : A0.1 b 9 = nI ta) (hT : TmR A0 B0) (hTI : TmI SV B0) (hRK : ∀ j, j < 10 → RK b A0 j) (hr : r < 10) (h : KO b mA th ta A0 B0 r A B) :
    ∃ A' B', (∀ n, L_X2_kickOff_28 b (n + 1) r A = L_X2_kickOff_28 b n (r + 1) A') ∧ R_X11_putAtStart (nI r) mA B = some B' ∧ B'.1 242 30 = nI r ∧ KO b mA th ta A0 B0 (r + 1) A' (setI B' 242 30 (nI (r + 1))) := by
  obtain ⟨hK, hKM, h30, hMP, hdone, hoff⟩ := h
  have hm : mA ≠ 242 := by omega
  have ht : tmOf th ta r < 4 := by unfold tmOf; split <;> assumption
  have hk : r % 5 < 5 := by omega
  have hteam : (if (5 : Int32) ≤ (nI r) then (A.1 b 9) else (A.1 b 8)) = nI (tmOf th ta r) := by
    rw [hK.2.2.1, hA8, hA9]
    unfold tmOf
    by_cases c : r < 5
    · rw [if_neg (nleL (y := 5) 5 c rfl (by decide)), if_pos c]
    · rw [if_pos (leL (y := 5) 5 (by omega) rfl (by omega)), if_neg c]
  have hlow : ∀ c j, c < 122 → A.1 c j = A0.1 c j := fun c j hc => by rw [hK.2.1 c (Or.inl (by omega))]
  obtain ⟨hT1, hT2, hT3⟩ := hT (tmOf th ta r) ht
  obtain ⟨hT4, hT5, hT6⟩ := hT1 (r % 5) hk
  obtain ⟨hI1, ⟨lt, hI2, hI3⟩, ⟨ls, hI4, hI5⟩⟩ := hTI (tmOf th ta r) ht
  obtain ⟨hI6, x, y, hx, hy, hI7, hI8⟩ := hI1 (r % 5) hk
  have hRK0 := hRK r hr
  have hk5 := hK.2.2.2.2 r hr
  have hj := join_eq (r := r) (t := tmOf th ta r) (a := b + 10 + 2 * r) (A := A) hk (by rw [hk5.1]; exact hRK0.1) (by rw [hk5.2.1]; exact hRK0.2) (by omega) ht
  rw [hlow _ _ (by omega), hlow _ _ (by omega), hlow _ _ (by omega), hlow _ _ (by omega), hlow _ _ (by omega), hT2, hT3, hT4, hT5, hT6] at hj
  obtain ⟨sx, hsx, esx⟩ := tX_of (r := r) hI7 hx
  obtain ⟨sy, hsy, esy⟩ := tY_of (r := r) hI8 hy
  have hKj := joinKp (pg := B0.1 254 (5 * tmOf th ta r + r % 5)) (sx := tX r (B0.1 255 (5 * tmOf th ta r + r % 5))) (sy := tY r (B0.1 256 (5 * tmOf th ta r + r % 5))) (lt := B0.1 257 (tmOf th ta r)) (ls := B0.1 258 (tmOf th ta r)) hK hr
  obtain ⟨A1, hA1⟩ : ∃ A1, A1 = joinC (b + 10 + 2 * r) (B0.1 254 (5 * tmOf th ta r + r % 5)) (tX r (B0.1 255 (5 * tmOf th ta r + r % 5))) (tY r (B0.1 256 (5 * tmOf th ta r + r % 5))) (B0.1 257 (tmOf th ta r)) (B0.1 258 (tmOf th ta r)) A := ⟨_, rfl⟩
  rw [← hA1] at hj hKj
  have o1 : ∀ j k, ¬ j = r → A1.1 (b + 10 + 2 * j) k = A.1 (b + 10 + 2 * j) k := by
    intro j k e
    rw [hA1]; unfold joinC
    simp (disch := omega) only [gI]
  have o2 : ∀ j k, ¬ j = r → A1.1 (b + 10 + 2 * j + 1) k = A.1 (b + 10 + 2 * j + 1) k := by
    intro j k e
    rw [hA1]; unfold joinC
    simp (disch := omega) only [gI]
  have o23 : ∀ k, k = 2 ∨ k = 3 → A1.1 (b + 10 + 2 * r) k = A.1 (b + 10 + 2 * r) k := by
    intro k e
    rw [hA1]; unfold joinC
    simp (disch := omega) only [gI]
  have hMr := hMP r hr
  have e4 : A1.1 (b + 10 + 2 * r) 4 = nI sx := by
    rw [hA1]; unfold joinC
    simp (disch := omega) only [gI, gs_eI]
    exact esx
  have e5 : A1.1 (b + 10 + 2 * r) 5 = nI sy := by
    rw [hA1]; unfold joinC
    simp (disch := omega) only [gI, gs_eI]
    exact esy
  have hpos : ∀ j, j < 10 → ¬ j = r → ∀ c i, c < 15 → i < 9 → ((A1.1 (b + 10 + 2 * j) 2 = nI c ∧ A1.1 (b + 10 + 2 * j) 3 = nI i) ↔ (j < r ∧ (B.1 mA) (44 + 16 * j) = nI c ∧ (B.1 mA) (44 + 16 * j + 1) = nI i)) := by
    intro j hj1 e c i hc hi
    rw [o1 j _ e, o1 j _ e]
    rcases Nat.lt_or_ge j r with q | q
    · have := (hdone j q).1
      rw [this.1, this.2]
      exact ⟨fun z => ⟨q, z⟩, fun z => z.2⟩
    · rw [(hoff j q hj1).1]
      refine ⟨fun z => ?_, fun z => by omega⟩
      have := nI_pos' (n := c) (by omega)
      rw [← z.1] at this
      exact absurd this m1_nle
  obtain ⟨hp1, hp2, hp3⟩ := putAtStart_C (ρ := B.1 mA) (p := r) hr hsx hsy e4 e5 (by omega) hpos
  have hq1 := putAtStart_M (mA := mA) (r := r) (sx := sx) (sy := sy) (p := r) (B := B) hr hm hsx hsy (by rw [hMr.2.1]; exact esx) (by rw [hMr.2.2.1]; exact esy) (by omega) h30
  generalize FP (occM (B.1 mA) (nI r) r) sx sy = q at hp1 hp2 hp3 hq1
  obtain ⟨px, py⟩ := q
  dsimp only at hp1 hp2 hp3 hq1
  refine ⟨putC b r (nI px) (nI py) A1, putM mA r (nI px) (nI py) B, ?_, hq1, by rw [putM_30 hm]; exact h30, ?_⟩
  · intro n
    rw [L_X2_kickOff_28, bd1_s, hteam, if_neg (nI_pos (by omega)), if_neg (nleL (y := 4) 4 ht rfl (by decide)), ck_nI ht (by omega), nI_clamp (by omega), bnd1_e hj, bnd1_s, bnd1_e hp1]
  · have hrow : ∀ k, (setI (putM mA r (nI px) (nI py) B) 242 30 (nI (r + 1))).1 mA k = (putM mA r (nI px) (nI py) B).1 mA k := fun k => by rw [gI (Or.inl hm)]
    have hrow' : (setI (putM mA r (nI px) (nI py) B) 242 30 (nI (r + 1))).1 mA = (putM mA r (nI px) (nI py) B).1 mA := funext hrow
    refine ⟨putKp hKj hr, (putMKp hKM hm hr).scr hm (by omega), gs_eI, fun j hj1 => ?_, fun j hj1 => ?_, fun j hj1 hj2 => ?_⟩
    · rw [hrow']
      refine (hMP j hj1).cg (fun k h1 h2 => ?_)
      exact putM_o hm (by omega)
    · rw [hrow']
      by_cases e : j = r
      · subst e
        refine ⟨⟨?_, ?_⟩, ⟨px, py, hp2, hp3, putM_x.1, putM_x.2⟩, ?_⟩
        · rw [putC_x.1, putM_x.1]
        · rw [putC_x.2, putM_x.2]
        · obtain ⟨m1, m2, m3, m4, m5, m6, m7, m8⟩ := hMr
          have qC : ∀ k, k ≠ 2 ∧ k ≠ 3 → (putC b j (nI px) (nI py) A1).1 (b + 10 + 2 * j) k = A1.1 (b + 10 + 2 * j) k := fun k hk => putC_o (Or.inl hk)
          have qM : ∀ k, 2 ≤ k → (putM mA j (nI px) (nI py) B).1 mA (44 + 16 * j + k) = B.1 mA (44 + 16 * j + k) := fun k hk => putM_o hm (by omega)
          refine ⟨?_, ?_, fun i hi => ?_, ?_, ?_, ?_, ?_, ?_⟩
          · rw [qC 7 (by decide), qM 2 (by decide), m6, hA1]; unfold joinC; simp (disch := omega) only [gI, gs_eI]
          · rw [qC 8 (by decide), qM 3 (by decide), m7, hA1]; unfold joinC; simp (disch := omega) only [gI, gs_eI]
          · rw [putC_w, show 44 + 16 * j + 4 + i = 44 + 16 * j + (4 + i) by omega, qM (4 + i) (by omega), ← Nat.add_assoc, m8 i hi, hA1]
            unfold joinC
            rcases (show i = 0 ∨ i = 1 ∨ i = 2 ∨ i = 3 by omega) with rfl | rfl | rfl | rfl <;> simp (disch := omega) only [gs_eI, gI]
          · rw [qC 6 (by decide), qM 11 (by decide), m1, hA1]; unfold joinC; simp (disch := omega) only [gI, gs_eI]
          · rw [qC 4 (by decide), qM 12 (by decide), m2, hA1]; unfold joinC; simp (disch := omega) only [gI, gs_eI]
          · rw [qC 5 (by decide), qM 13 (by decide), m3, hA1]; unfold joinC; simp (disch := omega) only [gI, gs_eI]
          · rw [qC 12 (by decide), qM 14 (by decide), m4, hA1]; unfold joinC; simp (disch := omega) only [gI, gs_eI]
          · rw [qC 13 (by decide), qM 15 (by decide), m5, hA1]; unfold joinC; simp (disch := omega) only [gI, gs_eI]
      · obtain ⟨d1, ⟨x', y', d2, d3, d4, d5⟩, d6⟩ := hdone j (by omega)
        have qC : ∀ k, (putC b r (nI px) (nI py) A1).1 (b + 10 + 2 * j) k = A.1 (b + 10 + 2 * j) k := fun k => by rw [putC_o (Or.inr e), o1 j k e]
        have qM : ∀ k, k < 16 → (putM mA r (nI px) (nI py) B).1 mA (44 + 16 * j + k) = B.1 mA (44 + 16 * j + k) := fun k hk => putM_o hm (by omega)
        have qM0 : (putM mA r (nI px) (nI py) B).1 mA (44 + 16 * j) = B.1 mA (44 + 16 * j) := putM_o hm (by omega)
        refine ⟨⟨?_, ?_⟩, ⟨x', y', d2, d3, ?_, ?_⟩, ?_⟩
        · rw [qC, qM0]; exact d1.1
        · rw [qC, qM 1 (by decide)]; exact d1.2
        · rw [qM0]; exact d4
        · rw [qM 1 (by decide)]; exact d5
        · obtain ⟨m1, m2, m3, m4, m5, m6, m7, m8⟩ := d6
          refine ⟨?_, ?_, fun i hi => ?_, ?_, ?_, ?_, ?_, ?_⟩
          · rw [qC, qM 2 (by decide)]; exact m1
          · rw [qC, qM 3 (by decide)]; exact m2
          · rw [putC_w, o2 j i e, show 44 + 16 * j + 4 + i = 44 + 16 * j + (4 + i) by omega, qM (4 + i) (by omega), ← Nat.add_assoc]; exact m3 i hi
          · rw [qC, qM 11 (by decide)]; exact m4
          · rw [qC, qM 12 (by decide)]; exact m5
          · rw [qC, qM 13 (by decide)]; exact m6
          · rw [qC, qM 14 (by decide)]; exact m7
          · rw [qC, qM 15 (by decide)]; exact m8
    · have e : ¬ j = r := by omega
      rw [putC_o (Or.inr e), putC_o (Or.inr e), o1 j _ e, o1 j _ e]
      exact hoff j (by omega) hj2
