theorem see_loop {b : Nat} {A0 A1 : Mem} : ∀ (n r : Nat) (A : Mem), r + n = 10 → Kp b A0 A → (∀ c j, (∀ s, s < 10 → c = b + 10 + 2 * s → j ≠ 10 ∧ j ≠ 11) → A.1 c j = A1.1 c j) → (∀ s, s < r → A.1 (b + 10 + 2 * s) 10 = A1.1 (b + 4) 0 ∧ A.1 (b + 10 + 2 * s) 11 = A1.1 (b + 4) 1) → ∃ A', L_X2_kickOff_106 b n r A = some A' ∧ Kp b A0 A' ∧ (∀ c j, (∀ s, s < 10 → c = b + 10 + 2 * s → j ≠ 10 ∧ j ≠ 11) → A'.1 c j = A1.1 c j) ∧ (∀ s, s < 10 → A'.1 (b + 10 + 2 * s) 10 = A1.1 (b + 4) 0 ∧ A'.1 (b + 10 + 2 * s) 11 = A1.1 (b + 4) 1) := by
  intro n
  induction n with
  | zero => intro r A hr hK h1 h2; exact ⟨A, rfl, hK, h1, fun s hs => h2 s (by omega)⟩
  | succ n ih =>
    intro r A hr hK h1 h2
    rw [L_X2_kickOff_106, bd1_s, h1 (b + 4) 0 (fun s _ e => by omega), h1 (b + 4) 1 (fun s _ e => by omega)]
    unfold U_X5_see
    refine ih (r + 1) _ (by omega) ((hK.rob (by omega) (by omega)).rob (by omega) (by omega)) (fun c j hc => ?_) (fun s hs => ?_)
    · have q : c ≠ b + 10 + 2 * r ∨ j ≠ 10 ∧ j ≠ 11 := by
        by_cases e : c = b + 10 + 2 * r
        · exact Or.inr (hc r (by omega) e)
        · exact Or.inl e
      rw [gI (by omega), gI (by omega)]
      exact h1 c j hc
    · by_cases e : s = r
      · subst e; constructor <;> simp (disch := omega) only [gI, gs_eI]
      · have := h2 s (by omega)
        constructor <;> simp (disch := omega) only [gI]
        · exact this.1
        · exact this.2
theorem view_loop {x1 : Int32} {mA : Nat} {B0 B1 : Mem} (hm : mA ≠ 242) : ∀ (n r : Nat) (B : Mem), r + n = 10 → KpM mA B0 B → B.1 242 = B1.1 242 → (∀ k, (∀ s, s < 10 → k ≠ 44 + 16 * s + 8 ∧ k ≠ 44 + 16 * s + 9) → B.1 mA k = B1.1 mA k) → (∀ s, s < r → B.1 mA (44 + 16 * s + 8) = B1.1 mA 14 ∧ B.1 mA (44 + 16 * s + 9) = B1.1 mA 15) → ∃ B', L_X11_kickOff_196 x1 mA n r B = some B' ∧ KpM mA B0 B' ∧ B'.1 242 = B1.1 242 ∧ (∀ k, (∀ s, s < 10 → k ≠ 44 + 16 * s + 8 ∧ k ≠ 44 + 16 * s + 9) → B'.1 mA k = B1.1 mA k) ∧ (∀ s, s < 10 → B'.1 mA (44 + 16 * s + 8) = B1.1 mA 14 ∧ B'.1 mA (44 + 16 * s + 9) = B1.1 mA 15) := by
  intro n
  induction n with
  | zero => intro r B hr hK h0 h1 h2; exact ⟨B, rfl, hK, h0, h1, fun s hs => h2 s (by omega)⟩
  | succ n ih =>
    intro r B hr hK h0 h1 h2
    rw [L_X11_kickOff_196, bnd1_e (set_eq (c := 8) (w := 8) (by omega) (by decide) rfl), bnd1_e (set_eq (c := 9) (w := 9) (by omega) (by decide) rfl), gI (Or.inr (by omega)), h1 14 (fun s _ => by omega), h1 15 (fun s _ => by omega)]
    refine ih (r + 1) _ (by omega) ((hK.row hm (by omega) (by omega)).row hm (by omega) (by omega)) ?_ (fun k hk => ?_) (fun s hs => ?_)
    · rw [fI (Ne.symm hm), fI (Ne.symm hm)]; exact h0
    · have := hk r (by omega)
      rw [gI (Or.inr (by omega)), gI (Or.inr (by omega))]
      exact h1 k hk
    · by_cases e : s = r
      · subst e; constructor <;> simp (disch := omega) only [gI, gs_eI]
      · have := h2 s (by omega)
        constructor <;> simp (disch := omega) only [gI]
        · exact this.1
        · exact this.2
theorem XYR.cg {b r : Nat} {A A' : Mem} {ρ σ : Nat → Int32} (h : XYR b A ρ r) (hA : ∀ j, j = 2 ∨ j = 3 → A'.1 (b + 10 + 2 * r) j = A.1 (b + 10 + 2 * r) j) (hρ : ∀ k, k < 2 → σ (44 + 16 * r + k) = ρ (44 + 16 * r + k)) : XYR b A' σ r := by
  unfold XYR at h ⊢
  have e0 := hρ 0 (by decide)
  rw [Nat.add_zero] at e0
  rw [hA 2 (by decide), hA 3 (by decide), hρ 1 (by decide), e0]
  exact h
theorem XYI.cg {r : Nat} {ρ σ : Nat → Int32} (h : XYI ρ r) (hρ : ∀ k, k < 2 → σ (44 + 16 * r + k) = ρ (44 + 16 * r + k)) : XYI σ r := by
  unfold XYI at h ⊢
  have e0 := hρ 0 (by decide)
  rw [Nat.add_zero] at e0
  rw [hρ 1 (by decide), e0]
  exact h
theorem PRR.cg {b r : Nat} {A A' : Mem} {ρ σ : Nat → Int32} (h : PRR b A ρ r) (hA : ∀ j, (4 ≤ j ∧ j ≤ 8) ∨ j = 12 ∨ j = 13 → A'.1 (b + 10 + 2 * r) j = A.1 (b + 10 + 2 * r) j) (hW : ∀ i, i < 4 → A'.1 (b + 10 + 2 * r + 1) i = A.1 (b + 10 + 2 * r + 1) i) (hρ : ∀ k, (2 ≤ k ∧ k < 8) ∨ (11 ≤ k ∧ k < 16) → σ (44 + 16 * r + k) = ρ (44 + 16 * r + k)) : PRR b A' σ r := by
  obtain ⟨h1, h2, h3, h4, h5, h6, h7, h8⟩ := h
  unfold PRR
  rw [hA 7 (by decide), hA 8 (by decide), hA 6 (by decide), hA 4 (by decide), hA 5 (by decide), hA 12 (by decide), hA 13 (by decide), hρ 2 (by decide), hρ 3 (by decide), hρ 11 (by decide), hρ 12 (by decide), hρ 13 (by decide), hρ 14 (by decide), hρ 15 (by decide)]
  refine ⟨h1, h2, fun i hi => ?_, h4, h5, h6, h7, h8⟩
  rw [hW i hi, show 44 + 16 * r + 4 + i = 44 + 16 * r + (4 + i) by omega, hρ (4 + i) (by omega), ← Nat.add_assoc]
  exact h3 i hi
theorem PRI.cg {SV : Nat → Nat → Prop} {r : Nat} {ρ σ : Nat → Int32} (h : PRI SV ρ r) (hρ : ∀ k, (2 ≤ k ∧ k < 4) ∨ (11 ≤ k ∧ k < 16) → σ (44 + 16 * r + k) = ρ (44 + 16 * r + k)) : PRI SV σ r := by
  unfold PRI at h ⊢
  rw [hρ 2 (by decide), hρ 3 (by decide), hρ 11 (by decide), hρ 12 (by decide), hρ 13 (by decide), hρ 14 (by decide), hρ 15 (by decide)]
  exact h
/-- what holds behind a kick-off -/
def KD (b mA : Nat) (SV : Nat → Nat → Prop) (x1 : Int32) (A0 B0 A B : Mem) : Prop :=
  Kp b A0 A ∧ KpM mA B0 B ∧ B.1 242 30 = nI 10 ∧ (∀ r, r < 10 → XYR b A (B.1 mA) r ∧ XYI (B.1 mA) r ∧ PRR b A (B.1 mA) r ∧ PRI SV (B.1 mA) r ∧ VWR b A (B.1 mA) r) ∧ BallK b A (B.1 mA) ∧ (∀ i, i < 4 → A.1 (b + 5) i = A.1 (b + 4) 0 ∧ A.1 (b + 6) i = A.1 (b + 4) 1) ∧ B.1 mA 13 = x1
theorem kick_sim {b mA th ta : Nat} {x1 : Int32} {SV : Nat → Nat → Prop} {A0 B0 : Mem} (hb : 122 ≤ b) (hmA : mA = 259 ∨ mA = 260) (hth : th < 4) (hta : ta < 4) (hA8 : A0.1 b 8 = nI th) (hA9 : A0.1 b 9 = nI ta) (hB1 : B0.1 mA 1 = nI th) (hB2 : B0.1 mA 2 = nI ta) (hT : TmR A0 B0) (hTI : TmI SV B0) (hRK : ∀ j, j < 10 → RK b A0 j) :
    ∃ A B, R_X2_kickOff b A0 = some A ∧ R_X11_kickOff x1 mA B0 = some B ∧ KD b mA SV x1 A0 B0 A B := by
  have hm : mA ≠ 242 := by omega
  obtain ⟨A1, a1, a2, a3⟩ := leave_all (b := b) (A0 := A0) 10 0 A0 rfl Kp.rf (fun j hj => by omega)
  obtain ⟨B1, b1, b2, b3⟩ := kick1_M (x1 := x1) hmA hth hta hB1 hB2 10 0 B0 rfl KpM.rf (fun j hj => by omega)
  have hKO : KO b mA th ta A0 B0 0 A1 (setI B1 242 30 0) := by
    have e : (setI B1 242 30 0).1 mA = B1.1 mA := fI hm
    refine ⟨a2, b2.scr hm (by omega), gs_eI, ?_, fun j hj => by omega, fun j _ hj => a3 j hj⟩
    rw [e]; exact b3
  obtain ⟨A2, B2, c1, c2, hK, hKM, h30, hMP, hdone, _⟩ := KO_loop (x1 := x1) hb hmA hth hta hA8 hA9 hT hTI hRK 10 0 A1 _ FUEL rfl (by unfold FUEL; omega) hKO
  have hpos : ∀ j, j < 10 → ∀ c i, c < 15 → i < 9 → ((A2.1 (b + 10 + 2 * j) 2 = nI c ∧ A2.1 (b + 10 + 2 * j) 3 = nI i) ↔ (j < 10 ∧ ¬ nI j = -1 ∧ (B2.1 mA) (44 + 16 * j) = nI c ∧ (B2.1 mA) (44 + 16 * j + 1) = nI i)) := by
    intro j hj c i hc hi
    obtain ⟨d1, d2⟩ := (hdone j hj).1
    rw [d1, d2]
    refine ⟨fun z => ⟨hj, fun q => m1_nle (q ▸ nI_pos' (by omega)), z⟩, fun z => z.2.2⟩
  obtain ⟨e1, e2, e3⟩ := putBall_C (ρ := B2.1 mA) (p := 10) (by decide) hpos
  have f1 := lay_M (mA := mA) (p := 10) (B := B2) hm (by decide) h30
  generalize FP (occM (B2.1 mA) (-1) 10) 7 4 = q at e1 e2 e3 f1
  obtain ⟨px, py⟩ := q
  dsimp only at e1 e2 e3 f1
  obtain ⟨A3, hA3⟩ : ∃ A3, A3 = U_X0_forget (b + 4) (lieC b (nI px) (nI py) A2) := ⟨_, rfl⟩
  have g0 := hA3
  rw [forget_eq] at g0
  have gB : ∀ c j, c ≠ b + 5 → c ≠ b + 6 → A3.1 c j = (lieC b (nI px) (nI py) A2).1 c j := by
    intro c j h1 h2
    rw [g0]
    simp (disch := omega) only [gI]
  have gK : Kp b A0 A3 := by
    rw [g0]
    exact ((((((((lieKp hK).ball (by omega) (by omega)).ball (by omega) (by omega)).ball (by omega) (by omega)).ball (by omega) (by omega)).ball (by omega) (by omega)).ball (by omega) (by omega)).ball (by omega) (by omega)).ball (by omega) (by omega)
  have gP : ∀ i, i < 4 → A3.1 (b + 5) i = (lieC b (nI px) (nI py) A2).1 (b + 4) 0 ∧ A3.1 (b + 6) i = (lieC b (nI px) (nI py) A2).1 (b + 4) 1 := by
    intro i hi
    rw [g0]
    rcases (show i = 0 ∨ i = 1 ∨ i = 2 ∨ i = 3 by omega) with rfl | rfl | rfl | rfl <;> constructor <;> simp (disch := omega) only [gI, gs_eI]
  have hbl := lay_ball (b := b) (mA := mA) (A := A2) (B := B2) hm e2 e3
  obtain ⟨A4, i1, i2, i3, i4⟩ := see_loop (b := b) (A0 := A0) (A1 := A3) 10 0 A3 rfl gK (fun _ _ _ => rfl) (fun s hs => by omega)
  obtain ⟨B4, j1, j2, j3, j4, j5⟩ := view_loop (x1 := x1) (mA := mA) (B0 := B0) (B1 := layM mA (nI px) (nI py) B2) hm 10 0 _ rfl (layKp hKM hm) rfl (fun _ _ => rfl) (fun s hs => by omega)
  refine ⟨A4, setI B4 mA 13 x1, ?_, ?_, i2, j2.row hm (by omega) (by omega), ?_, ?_, ?_, ?_, gs_eI⟩
  · unfold R_X2_kickOff
    rw [bnd1_e a1, bnd1_e c1, bnd1_e e1, ← hA3, bnd1_e i1]
  · unfold R_X11_kickOff
    rw [bnd1_e b1, bnd1_e c2, bnd1_e f1, bnd1_e j1]
  · rw [gI (Or.inl (Ne.symm hm)), j3, layM_30 hm]; exact h30
  · intro r hr
    have qA : ∀ j, j ≠ 10 → j ≠ 11 → A4.1 (b + 10 + 2 * r) j = A2.1 (b + 10 + 2 * r) j := by
      intro j h1 h2
      rw [i3 _ _ (fun s _ _ => ⟨h1, h2⟩), gB _ _ (by omega) (by omega), lieC_o (by omega)]
    have qW : ∀ j, A4.1 (b + 10 + 2 * r + 1) j = A2.1 (b + 10 + 2 * r + 1) j := by
      intro j
      rw [i3 _ _ (fun s _ e => by omega), gB _ _ (by omega) (by omega), lieC_o (by omega)]
    have qB : ∀ k, k < 16 → k ≠ 8 → k ≠ 9 → (setI B4 mA 13 x1).1 mA (44 + 16 * r + k) = B2.1 mA (44 + 16 * r + k) := by
      intro k h1 h2 h3
      rw [gI (Or.inr (by omega)), j4 _ (fun s _ => by omega), layM_o hm (by omega)]
    obtain ⟨d1, d2, d3⟩ := hdone r hr
    have p1 := d1.cg (A' := A4) (σ := (setI B4 mA 13 x1).1 mA) (fun j hj => qA j (by omega) (by omega)) (fun k hk => qB k (by omega) (by omega) (by omega))
    have p2 := d2.cg (σ := (setI B4 mA 13 x1).1 mA) (fun k hk => qB k (by omega) (by omega) (by omega))
    have p3 := d3.cg (A' := A4) (σ := (setI B4 mA 13 x1).1 mA) (fun j hj => qA j (by omega) (by omega)) (fun i _ => qW i) (fun k hk => qB k (by omega) (by omega) (by omega))
    refine ⟨p1, p2, p3, ?_, ?_⟩
    · have ht : tmOf th ta r < 4 := by unfold tmOf; split <;> assumption
      obtain ⟨t1, ⟨lt, t2, t3⟩, ⟨ls, t4, t5⟩⟩ := hTI (tmOf th ta r) ht
      obtain ⟨t6, x, y, tx, ty, t7, t8⟩ := t1 (r % 5) (by omega)
      have hPI : PRI SV (B2.1 mA) r := by
        obtain ⟨m1, m2, m3, m4, m5, m6, m7, m8⟩ := hMP r hr
        refine ⟨?_, Or.inl m7, ⟨x, y, tx, ty, by rw [m2]; exact t7, by rw [m3]; exact t8⟩, ⟨lt, t2, by rw [m4]; exact t3⟩, ⟨ls, t4, by rw [m5]; exact t5⟩⟩
        rw [m1, m6]
        rcases t6 with e | ⟨q, q1, q2, q3⟩
        · rw [e]; exact Or.inl ⟨rfl, by decide⟩
        · rw [q3]; exact Or.inr ⟨q, 0, q1, by decide, q2, rfl, by rw [if_pos (nI_pos' (by omega))]; rfl⟩
      exact hPI.cg (fun k hk => qB k (by omega) (by omega) (by omega))
    · refine ⟨?_, ?_⟩
      · rw [(i4 r hr).1, gI (Or.inr (by omega)), (j5 r hr).1, gB _ _ (by omega) (by omega), hbl.2.1]
      · rw [(i4 r hr).2, gI (Or.inr (by omega)), (j5 r hr).2, gB _ _ (by omega) (by omega), hbl.2.2.1]
  · refine hbl.cg (fun j => ?_) (fun k h1 h2 => ?_)
    · rw [i3 _ _ (fun s _ e => by omega), gB _ _ (by omega) (by omega)]
    · rw [gI (Or.inr (by omega)), j4 _ (fun s _ => by omega)]
  · intro i hi
    rw [i3 _ _ (fun s _ e => by omega), i3 _ _ (fun s _ e => by omega), i3 _ _ (fun s _ e => by omega), i3 _ _ (fun s _ e => by omega), gB (b + 4) _ (by omega) (by omega), gB (b + 4) _ (by omega) (by omega)]
    exact gP i hi
