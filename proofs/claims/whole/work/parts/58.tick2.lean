/-- the tick's last deed: the count -/
theorem end_SK {b mA t : Nat} {SV : Nat → Nat → Prop} {A0 B0 A B : Mem} (hm : mA = 259 ∨ mA = 260) (hK : EK b mA t SV A0 B0 A B) : SK b mA (t + 1) SV A0 B0 (setI A b 7 (A.1 b 7 + 1)) (setI B mA 3 (B.1 mA 3 + 1)) := by
  have hm2 : mA ≠ 242 := by omega
  obtain ⟨h1, h2, h3, h4, h5, h6, h7, h8⟩ := hK
  have cA : ∀ c j, c ≠ b → (setI A b 7 (A.1 b 7 + 1)).1 c j = A.1 c j := fun c j p => gI (Or.inl p)
  have cB : ∀ k, k ≠ 3 → (setI B mA 3 (B.1 mA 3 + 1)).1 mA k = B.1 mA k := fun k p => gI (Or.inr p)
  refine ⟨h1.set (Nat.le_refl _) (by omega), h2.row hm2, by rw [fI (Ne.symm hm2)]; exact h3, ?_, h5.cg (fun c j p1 p2 => cA _ _ (by omega)) (fun k hk => cB k (by omega)), ?_, fun r hr => (h7 r hr).cg (fun j _ => cA _ _ (by omega)) (fun i _ => cA _ _ (by omega)) (fun k hk => cB _ (by omega)), ?_⟩
  · obtain ⟨q1, q2, q3, q4, th, ta, q5, q6, q7, q8, q9, q10⟩ := h4
    refine ⟨by rw [gI (Or.inr (by decide))]; exact q1, by rw [cB 0 (by decide)]; exact q2, by rw [gs_eI, q3, nI_1], by rw [gs_eI, q4, nI_1], th, ta, q5, q6, by rw [gI (Or.inr (by decide))]; exact q7, by rw [cB 1 (by decide)]; exact q8, by rw [gI (Or.inr (by decide))]; exact q9, by rw [cB 2 (by decide)]; exact q10⟩
  · have := h6.cg (A' := setI A b 7 (A.1 b 7 + 1)) (σ := (setI B mA 3 (B.1 mA 3 + 1)).1 mA) (fun j => cA _ _ (by omega)) (fun k p1 p2 => cB k (by omega)) (fun r hr _ => ⟨cB _ (by omega), cB _ (by omega)⟩)
    obtain ⟨g1, g2, g3⟩ := this
    refine ⟨g1, ?_, g3⟩
    rcases g2 with g2 | ⟨h, e1, e2, e3, ⟨g, e4, e5⟩, e6⟩
    · exact Or.inl g2
    · exact Or.inr ⟨h, e1, e2, e3, ⟨g, by omega, e5⟩, e6⟩
  · obtain ⟨kk, k1, k2, k3, k4⟩ := h8
    refine ⟨kk, k1, by rw [cB 13 (by decide)]; exact k2, fun hk l p1 p2 => ?_, fun hk i hi => ?_⟩
    · rw [cA _ _ (by omega), cA _ _ (by omega), cB _ (by omega), cB _ (by omega)]; exact k3 hk l p1 p2
    · rw [cA _ _ (by omega), cA _ _ (by omega), cB _ (by omega), cB _ (by omega)]; exact k4 hk i hi
/-- a law was put to use: its count -/
theorem law_EK {b mA t k : Nat} {SV : Nat → Nat → Prop} {A0 B0 A B : Mem} (hm : mA = 259 ∨ mA = 260) (hk : k < 4) (hK : EK b mA t SV A0 B0 A B) : EK b mA t SV A0 B0 (setI A (b + 8) k (A.1 (b + 8) k + 1)) (setI B mA (6 + k) (B.1 mA (6 + k) + 1)) := by
  have hm2 : mA ≠ 242 := by omega
  obtain ⟨h1, h2, h3, h4, h5, h6, h7, h8⟩ := hK
  have cA : ∀ c j, c ≠ b + 8 → (setI A (b + 8) k (A.1 (b + 8) k + 1)).1 c j = A.1 c j := fun c j p => gI (Or.inl p)
  have cB : ∀ j, j < 6 ∨ 10 ≤ j → (setI B mA (6 + k) (B.1 mA (6 + k) + 1)).1 mA j = B.1 mA j := fun j p => gI (Or.inr (by omega))
  refine ⟨h1.set (by omega) (by omega), h2.row hm2, by rw [fI (Ne.symm hm2)]; exact h3, h4.cg (fun j => cA _ _ (by omega)) (fun j hj => cB j (by omega)), ?_, h6.cg (fun j => cA _ _ (by omega)) (fun k p1 p2 => cB k (by omega)) (fun r hr _ => ⟨cB _ (by omega), cB _ (by omega)⟩), fun r hr => (h7 r hr).cg (fun j _ => cA _ _ (by omega)) (fun i _ => cA _ _ (by omega)) (fun k hk => cB _ (by omega)), ?_⟩
  · obtain ⟨g0, g1, q1, q2, q3, q4, q5, q6, q7, q8, q9, q10⟩ := h5
    have m20 : mn20 (g0 + g1) ≤ 20 := by unfold mn20; split <;> omega
    refine ⟨g0, g1, q1, ?_, ?_, ?_, ?_, ?_, ?_, fun i hi => ?_, ?_, fun i hi => ?_⟩
    · rw [cA _ _ (by omega)]; exact q2
    · rw [cB _ (by omega)]; exact q3
    · rw [cA _ _ (by omega)]; exact q4
    · rw [cB _ (by omega)]; exact q5
    · rw [cA _ _ (by omega), cB _ (by omega)]; exact q6
    · rw [cA _ _ (by omega), cB _ (by omega)]; exact q7
    · by_cases c : i = k
      · rw [c, gs_eI, gs_eI, q8 k hk]
      · rw [gI (Or.inr c), gI (Or.inr (by omega))]; exact q8 i hi
    · rw [cB _ (by omega)]; exact q9
    · rw [cA _ _ (by omega), cB _ (by omega)]; exact q10 i hi
  · obtain ⟨kk, k1, k2, k3, k4⟩ := h8
    refine ⟨kk, k1, by rw [cB 13 (by omega)]; exact k2, fun hk l p1 p2 => ?_, fun hk i hi => ?_⟩
    · rw [cA _ _ (by omega), cA _ _ (by omega), cB _ (by omega), cB _ (by omega)]; exact k3 hk l p1 p2
    · rw [cA _ _ (by omega), cA _ _ (by omega), cB _ (by omega), cB _ (by omega)]; exact k4 hk i hi
theorem tick_sim {b mA t : Nat} {A0 B0 A B : Mem} (x1 u3 : Int32) (hm : mA = 259 ∨ mA = 260) (hb : 122 ≤ b) (ht : t < 2 ^ 30 - 1) (hT : TmR A0 B0) (hTI : TmI (SVp A0 B0) B0) (hK : SK b mA t (SVp A0 B0) A0 B0 A B) (hx : ¬ x1 ≤ u3) :
    ∃ A' B' v, (∀ n u2, L_X2_play_4 b x1 (n + 1) u2 u3 A = L_X2_play_4 b x1 n v (u3 + 1) A') ∧ R_X11_tickOnce mA B = some (v, B') ∧ SK b mA (t + 1) (SVp A0 B0) A0 B0 A' B' := by
  have hA7 : A.1 b 7 = nI t := hK.2.2.2.1.2.2.1
  have hB3 : B.1 mA 3 = nI t := hK.2.2.2.1.2.2.2.1
  have K1 := past_T hm hK
  have er : U_X0_remember (b + 4) (A.1 b 7) A = setI (setI A (b + 4 + 1) (t % 4) (A.1 (b + 4) 0)) (b + 4 + 2) (t % 4) (A.1 (b + 4) 1) := remember_eq (by rw [hA7]; exact and3 (by omega))
  obtain ⟨w4, hw4⟩ : ∃ w, w = (if (nI t - nI t / (2 : Int32) * (2 : Int32)) = 0 then (1 : Int32) else (0 : Int32)) := ⟨_, rfl⟩
  obtain ⟨A2, B2, e1, e2, K2, C2⟩ := think_loop (x1 := x1) (w3 := u3) hm hb (by omega) hw4 10 0 _ _ rfl K1 (fun j hj => by omega)
  obtain ⟨A3, B3, e3, e4, K3⟩ := cmd_loop (x1 := x1) (w3 := u3) hm (by omega) hw4 10 0 _ _ rfl K2 C2
  obtain ⟨A4, B4, gc, gm, e5, e6, hg, K4⟩ := roll_sim (by omega) K3
  obtain ⟨A5, B5, v, e7, e8, hv, K5⟩ := law_sim hb hm ht hg hT hTI K4
  have e204 : (204 : Int32) + (nI t - nI t / (4 : Int32) * (4 : Int32)) = nI (204 + t % 4) := by rw [show (4 : Int32) = nI 4 from rfl, pk_rem (by omega) (by decide) (by decide), show (204 : Int32) = nI 204 from rfl, nI_add]
  have e208 : (208 : Int32) + (nI t - nI t / (4 : Int32) * (4 : Int32)) = nI (208 + t % 4) := by rw [show (4 : Int32) = nI 4 from rfl, pk_rem (by omega) (by decide) (by decide), show (208 : Int32) = nI 208 from rfl, nI_add]
  have hM : R_X11_tickOnce mA B = bnd1 (if v < 0 then (some B5) else (ck ((6 : Int32) + v) 212 (ck ((6 : Int32) + v) 212 (some (setI B5 mA ((6 : Int32) + v).toNatClampNeg ((B5.1 mA ((6 : Int32) + v).toNatClampNeg) + (1 : Int32))))))) (fun M16 => some (v, setI M16 mA 3 ((M16.1 mA 3) + (1 : Int32)))) := by
    unfold R_X11_tickOnce
    rw [hB3, e204, e208, ck_nI (by omega) (by omega), ck_nI (by omega) (by omega), nI_clamp (by omega), nI_clamp (by omega), gI (Or.inr (by omega)), bd1_s, bnd1_e e2, bnd1_e e4, bnd2_e e6, bnd2_e e8]
  have hC : ∀ n u2, L_X2_play_4 b x1 (n + 1) u2 u3 A = bd1 (if v < 0 then A5 else (U_X7_addLaw (b + 7) v A5)) (fun M15 => L_X2_play_4 b x1 n v (u3 + 1) (setI M15 b 7 ((M15.1 b 7) + (1 : Int32)))) := by
    intro n u2
    rw [L_X2_play_4, if_neg hx, hA7, ← hw4, bd1_s]
    rw [hA7] at er
    rw [er, bnd1_e e1, bnd1_e e3, bnd2_e e5, bnd2_e e7]
  rcases hv with rfl | ⟨k, hk, rfl⟩
  · rw [if_pos m1_lt, bnd1_s] at hM
    exact ⟨_, _, -1, fun n u2 => by rw [hC, if_pos m1_lt, bd1_s], hM, end_SK hm K5⟩
  · rw [if_neg (nI_pos (by omega)), show (6 : Int32) = nI 6 from rfl, nI_add, ck_nI (by omega) (by omega), ck_nI (by omega) (by omega), nI_clamp (by omega), bnd1_s] at hM
    refine ⟨_, _, nI k, fun n u2 => by rw [hC, if_neg (nI_pos (by omega)), bd1_s], hM, ?_⟩
    have ea : U_X7_addLaw (b + 7) (nI k) A5 = setI A5 (b + 8) k (A5.1 (b + 8) k + 1) := by
      unfold U_X7_addLaw
      rw [at_eq rfl hk (by decide), put_eq rfl hk (by decide)]
    rw [ea]
    exact end_SK hm (law_EK hm hk K5)
/-- ticks in a row -/
theorem play_sim {b mA x : Nat} {A0 B0 : Mem} (hm : mA = 259 ∨ mA = 260) (hb : 122 ≤ b) (hx : x < 2 ^ 20) (hT : TmR A0 B0) (hTI : TmI (SVp A0 B0) B0) : ∀ (k i t f f' : Nat) (u : Int32) (A B : Mem), i + k = x → k < f → k < f' → t + k < 2 ^ 30 → SK b mA t (SVp A0 B0) A0 B0 A B →
    ∃ A' B' v, L_X2_play_4 b (nI x) f u (nI i) A = some (v, A') ∧ L_X11_tick_37 (nI x) mA f' u (nI i) B = some (v, B') ∧ SK b mA (t + k) (SVp A0 B0) A0 B0 A' B' := by
  intro k
  induction k with
  | zero =>
    intro i t f f' u A B hi hf hf' ht hK
    obtain ⟨f, rfl⟩ : ∃ m, f = m + 1 := ⟨f - 1, by omega⟩
    obtain ⟨f', rfl⟩ : ∃ m, f' = m + 1 := ⟨f' - 1, by omega⟩
    refine ⟨A, B, u, ?_, ?_, hK⟩
    · rw [L_X2_play_4, if_pos (nI_le (by omega) (by omega))]
    · rw [L_X11_tick_37, if_pos (nI_le (by omega) (by omega))]
  | succ k ih =>
    intro i t f f' u A B hi hf hf' ht hK
    obtain ⟨f, rfl⟩ : ∃ m, f = m + 1 := ⟨f - 1, by omega⟩
    obtain ⟨f', rfl⟩ : ∃ m, f' = m + 1 := ⟨f' - 1, by omega⟩
    have hx1 : ¬ nI x ≤ nI i := nI_ge (by omega) (by omega)
    obtain ⟨A1, B1, v1, g1, g2, K1⟩ := tick_sim (nI x) (nI i) hm hb (by omega) hT hTI hK hx1
    obtain ⟨A', B', v, g3, g4, g5⟩ := ih (i + 1) (t + 1) f f' v1 A1 B1 (by omega) (by omega) (by omega) (by omega) K1
    rw [show t + 1 + k = t + (k + 1) by omega] at g5
    refine ⟨A', B', v, ?_, ?_, g5⟩
    · rw [g1, nI_1]; exact g3
    · rw [L_X11_tick_37, if_neg hx1, bnd2_e g2, nI_1]; exact g4
theorem play1_sim {b mA x : Nat} {A0 B0 : Mem} {y1 y2 : Int32} (hm : mA = 259 ∨ mA = 260) (hb : 122 ≤ b) (hx : x < 2 ^ 20) (hT : TmR A0 B0) (hTI : TmI (SVp A0 B0) B0) : ∀ (k i t f f' : Nat) (u : Int32) (A B : Mem), i + k = x → k < f → k < f' → t + k < 2 ^ 30 → SK b mA t (SVp A0 B0) A0 B0 A B →
    ∃ A' B' v, L_X2_play_4 b (nI x) f u (nI i) A = some (v, A') ∧ L_X11_playOne_9 y1 y2 (nI x) mA f' (nI i) B = some B' ∧ SK b mA (t + k) (SVp A0 B0) A0 B0 A' B' := by
  intro k
  induction k with
  | zero =>
    intro i t f f' u A B hi hf hf' ht hK
    obtain ⟨f, rfl⟩ : ∃ m, f = m + 1 := ⟨f - 1, by omega⟩
    obtain ⟨f', rfl⟩ : ∃ m, f' = m + 1 := ⟨f' - 1, by omega⟩
    refine ⟨A, B, u, ?_, ?_, hK⟩
    · rw [L_X2_play_4, if_pos (nI_le (by omega) (by omega))]
    · rw [L_X11_playOne_9, if_pos (nI_le (by omega) (by omega))]
  | succ k ih =>
    intro i t f f' u A B hi hf hf' ht hK
    obtain ⟨f, rfl⟩ : ∃ m, f = m + 1 := ⟨f - 1, by omega⟩
    obtain ⟨f', rfl⟩ : ∃ m, f' = m + 1 := ⟨f' - 1, by omega⟩
    have hx1 : ¬ nI x ≤ nI i := nI_ge (by omega) (by omega)
    obtain ⟨A1, B1, v1, g1, g2, K1⟩ := tick_sim (nI x) (nI i) hm hb (by omega) hT hTI hK hx1
    obtain ⟨A', B', v, g3, g4, g5⟩ := ih (i + 1) (t + 1) f f' v1 A1 B1 (by omega) (by omega) (by omega) (by omega) K1
    rw [show t + 1 + k = t + (k + 1) by omega] at g5
    refine ⟨A', B', v, ?_, ?_, g5⟩
    · rw [g1, nI_1]; exact g3
    · rw [L_X11_playOne_9, if_neg hx1, bnd2_e g2, nI_1]; exact g4
