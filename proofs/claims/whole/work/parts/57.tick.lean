/-! ===== a tick ===== -/
/-- the relation between two ticks: t ticks have been played -/
def SK (b mA t : Nat) (SV : Nat → Nat → Prop) (A0 B0 A B : Mem) : Prop := FrA b A0 A ∧ FrB mA B0 B ∧ B.1 242 30 = nI 10 ∧ HeadR b t A (B.1 mA) ∧ TalR b t A (B.1 mA) ∧ BallR b t A (B.1 mA) ∧ (∀ r, r < 10 → RobR b SV A (B.1 mA) r) ∧ PastE b t A (B.1 mA)
def od (t i : Nat) : Nat := if t % 2 = 0 then i else 9 - i
theorem od_lt {t i : Nat} (h : i < 10) : od t i < 10 := by unfold od; split <;> omega
theorem od_od {t i : Nat} (h : i < 10) : od t (od t i) = i := by
  unfold od
  by_cases c : t % 2 = 0
  · rw [if_pos c, if_pos c]
  · rw [if_neg c, if_neg c]; omega
theorem od_M {t i : Nat} (ht : t < 2 ^ 30) (hi : i < 10) : (if (nI t - nI t / (2 : Int32) * (2 : Int32)) = 0 then (nI i) else ((9 : Int32) - (nI i))) = nI (od t i) := by
  rw [show (2 : Int32) = nI 2 from rfl, pk_rem (by omega) (by decide) (by decide)]
  unfold od
  by_cases c : t % 2 = 0
  · rw [if_pos (by rw [c]; rfl), if_pos c]
  · rw [if_neg (by rw [show t % 2 = 1 by omega]; exact n10), if_neg c, show (9 : Int32) = nI 9 from rfl, pk_sub (by omega)]
theorem od_C {t i : Nat} (ht : t < 2 ^ 30) (hi : i < 10) : (if (if (nI t - nI t / (2 : Int32) * (2 : Int32)) = 0 then (1 : Int32) else (0 : Int32)) = 0 then ((9 : Int32) - (nI i)) else (nI i)) = nI (od t i) := by
  rw [show (2 : Int32) = nI 2 from rfl, pk_rem (by omega) (by decide) (by decide)]
  unfold od
  by_cases c : t % 2 = 0
  · rw [if_pos (show nI (t % 2) = 0 by rw [c]; rfl), if_neg n10, if_pos c]
  · rw [if_neg (show ¬ nI (t % 2) = 0 by rw [show t % 2 = 1 by omega]; exact n10), if_pos rfl, if_neg c, show (9 : Int32) = nI 9 from rfl, pk_sub (by omega)]
theorem think_loop {b mA t : Nat} {A0 B0 : Mem} {x1 w3 w4 : Int32} (hm : mA = 259 ∨ mA = 260) (hb : 122 ≤ b) (ht : t < 2 ^ 30) (hw : w4 = (if (nI t - nI t / (2 : Int32) * (2 : Int32)) = 0 then (1 : Int32) else (0 : Int32))) : ∀ (n i : Nat) (A B : Mem), i + n = 10 → TK b mA t (SVp A0 B0) A0 B0 A B → (∀ j, j < i → CW b A B (B.1 mA) (od t j)) → ∃ A' B', L_X2_play_39 b x1 w3 w4 n i A = some A' ∧ L_X11_tickOnce_47 mA (nI t) n i B = some B' ∧ TK b mA t (SVp A0 B0) A0 B0 A' B' ∧ ∀ s, s < 10 → CW b A' B' (B'.1 mA) s := by
  intro n
  induction n with
  | zero =>
    intro i A B hi hK hC
    refine ⟨A, B, rfl, rfl, hK, fun s hs => ?_⟩
    have := hC (od t s) (by have := od_lt (t := t) hs; omega)
    rw [od_od hs] at this
    exact this
  | succ n ih =>
    intro i A B hi hK hC
    obtain ⟨A1, B1, e1, e2, K1, C1, C2⟩ := think_sim hm hb ht (od_lt (t := t) (show i < 10 by omega)) hK
    obtain ⟨A', B', g1, g2, g3, g4⟩ := ih (i + 1) A1 B1 (by omega) K1 (fun j hj => by
      by_cases c : j = i
      · rw [c]; exact C1
      · refine C2 _ (od_lt (by omega)) (fun q => ?_) (hC j (by omega))
        have := congrArg (od t) q
        rw [od_od (by omega), od_od (by omega)] at this
        exact c this)
    refine ⟨A', B', ?_, ?_, g3, g4⟩
    · rw [L_X2_play_39, hw, od_C ht (by omega), bd1_s, bnd1_e e1, ← hw]; exact g1
    · rw [L_X11_tickOnce_47, od_M ht (by omega), bd1_s, bnd1_e e2]; exact g2
theorem cmd_loop {b mA t : Nat} {SV : Nat → Nat → Prop} {A0 B0 : Mem} {x1 w3 w4 : Int32} (hm : mA = 259 ∨ mA = 260) (ht : t < 2 ^ 30) (hw : w4 = (if (nI t - nI t / (2 : Int32) * (2 : Int32)) = 0 then (1 : Int32) else (0 : Int32))) : ∀ (n i : Nat) (A B : Mem), i + n = 10 → TK b mA t SV A0 B0 A B → (∀ s, s < 10 → CW b A B (B.1 mA) s) → ∃ A' B', L_X2_play_74 b x1 w3 w4 n i A = some A' ∧ L_X11_tickOnce_79 mA (nI t) n i B = some B' ∧ TK b mA t SV A0 B0 A' B' := by
  intro n
  induction n with
  | zero => intro i A B hi hK hC; exact ⟨A, B, rfl, rfl, hK⟩
  | succ n ih =>
    intro i A B hi hK hC
    obtain ⟨A1, B1, e1, e2, K1, C1⟩ := doCmd_sim hm ht (od_lt (t := t) (show i < 10 by omega)) hK hC
    obtain ⟨A', B', g1, g2, g3⟩ := ih (i + 1) A1 B1 (by omega) K1 C1
    refine ⟨A', B', ?_, ?_, g3⟩
    · rw [L_X2_play_74, hw, od_C ht (by omega), bd1_s, bnd1_e e1, ← hw]; exact g1
    · rw [L_X11_tickOnce_79, od_M ht (by omega), bd1_s, bnd1_e e2]; exact g2
/-- the tick's first deed: where the ball is, is kept -/
theorem past_T {b mA t : Nat} {SV : Nat → Nat → Prop} {A0 B0 A B : Mem} (hm : mA = 259 ∨ mA = 260) (hK : SK b mA t SV A0 B0 A B) : TK b mA t SV A0 B0 (setI (setI A (b + 4 + 1) (t % 4) (A.1 (b + 4) 0)) (b + 4 + 2) (t % 4) (A.1 (b + 4) 1)) (setI (setI B mA (204 + t % 4) (B.1 mA 14)) mA (208 + t % 4) (B.1 mA 15)) := by
  have hm2 : mA ≠ 242 := by omega
  obtain ⟨h1, h2, h3, h4, h5, h6, h7, h8⟩ := hK
  have cA : ∀ c j, c ≠ b + 5 → c ≠ b + 6 → (setI (setI A (b + 4 + 1) (t % 4) (A.1 (b + 4) 0)) (b + 4 + 2) (t % 4) (A.1 (b + 4) 1)).1 c j = A.1 c j := fun c j p1 p2 => by rw [gI (Or.inl (by omega)), gI (Or.inl (by omega))]
  have cB : ∀ k, k < 204 ∨ 212 ≤ k → (setI (setI B mA (204 + t % 4) (B.1 mA 14)) mA (208 + t % 4) (B.1 mA 15)).1 mA k = B.1 mA k := fun k hk => by rw [gI (Or.inr (by omega)), gI (Or.inr (by omega))]
  refine ⟨(h1.set (by omega) (by omega)).set (by omega) (by omega), (h2.row hm2).row hm2, by rw [fI (Ne.symm hm2), fI (Ne.symm hm2)]; exact h3, h4.cg (fun j => cA _ _ (by omega) (by omega)) (fun k hk => cB k (by omega)), h5.cg (fun c j p1 p2 => cA _ _ (by omega) (by omega)) (fun k hk => cB k (by omega)), h6.cg (fun j => cA _ _ (by omega) (by omega)) (fun k p1 p2 => cB k (by omega)) (fun r hr _ => ⟨cB _ (by omega), cB _ (by omega)⟩), fun r hr => (h7 r hr).cg (fun j _ => cA _ _ (by omega) (by omega)) (fun i _ => cA _ _ (by omega) (by omega)) (fun k hk => cB _ (by omega)), ?_⟩
  obtain ⟨kk, k1, k2, k3, k4⟩ := h8
  obtain ⟨⟨_, b1, b2, _⟩, _⟩ := h6
  refine ⟨kk, k1, by rw [cB 13 (by decide)]; exact k2, fun l hl => ?_⟩
  have hx : ∀ i, (setI (setI A (b + 4 + 1) (t % 4) (A.1 (b + 4) 0)) (b + 4 + 2) (t % 4) (A.1 (b + 4) 1)).1 (b + 5) i = (if i = t % 4 then B.1 mA 14 else A.1 (b + 5) i) := fun i => by
    rw [gI (Or.inl (by omega))]
    by_cases c : i = t % 4
    · rw [if_pos c, c, ← b1]; exact gs_eI
    · rw [if_neg c, gI (Or.inr c)]
  have hy : ∀ i, (setI (setI A (b + 4 + 1) (t % 4) (A.1 (b + 4) 0)) (b + 4 + 2) (t % 4) (A.1 (b + 4) 1)).1 (b + 6) i = (if i = t % 4 then B.1 mA 15 else A.1 (b + 6) i) := fun i => by
    by_cases c : i = t % 4
    · rw [if_pos c, c, ← b2]; exact gs_eI
    · rw [if_neg c, gI (Or.inr c), gI (Or.inl (by omega))]
  have hu : ∀ i, i < 4 → (setI (setI B mA (204 + t % 4) (B.1 mA 14)) mA (208 + t % 4) (B.1 mA 15)).1 mA (204 + i) = (if i = t % 4 then B.1 mA 14 else B.1 mA (204 + i)) := fun i hi => by
    rw [gI (Or.inr (by omega))]
    by_cases c : i = t % 4
    · rw [if_pos c, c]; exact gs_eI
    · rw [if_neg c, gI (Or.inr (by omega))]
  have hv : ∀ i, i < 4 → (setI (setI B mA (204 + t % 4) (B.1 mA 14)) mA (208 + t % 4) (B.1 mA 15)).1 mA (208 + i) = (if i = t % 4 then B.1 mA 15 else B.1 mA (208 + i)) := fun i hi => by
    by_cases c : i = t % 4
    · rw [if_pos c, c]; exact gs_eI
    · rw [if_neg c, gI (Or.inr (by omega)), gI (Or.inr (by omega))]
  rw [hx, hy, hu _ (by omega), hv _ (by omega)]
  by_cases e : kk = t
  · have em : mxk t l kk = t := by unfold mxk; split <;> omega
    rw [em, if_pos rfl, if_pos rfl]
    have q := k4 e ((t + 4 - l) % 4) (by omega)
    rw [q.1, q.2]
    constructor
    · split <;> rfl
    · split <;> rfl
  · by_cases z : l = 0
    · have em : mxk t l kk = t := by unfold mxk; split <;> omega
      rw [em, if_pos rfl, if_pos rfl, if_pos (by omega), if_pos (by omega)]
      exact ⟨rfl, rfl⟩
    · have q := k3 (by omega) l (by omega) hl
      have em : mxk t l kk < t ∧ t ≤ mxk t l kk + 3 := by unfold mxk; split <;> omega
      rw [if_neg (by omega), if_neg (by omega), if_neg (by omega), if_neg (by omega)]
      exact q
