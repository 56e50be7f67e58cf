/-! ===== the relation between the class's match at b and the model's row ===== -/
theorem at_eq {x k n : Nat} {M : Mem} {w : Int32} (hw : w = nI k) (hk : k < n) (hn : n < 2 ^ 31) : V_X10_at x w n M = M.1 x k := by
  subst hw
  unfold V_X10_at
  dsimp only
  rw [if_neg (nI_pos (by omega)), if_neg (nleL (y := Int32.ofNat n) n hk rfl hn), nI_clamp (by omega)]
theorem put_eq {x k n : Nat} {M : Mem} {w v : Int32} (hw : w = nI k) (hk : k < n) (hn : n < 2 ^ 31) : U_X10_put x w v n M = setI M x k v := by
  subst hw
  unfold U_X10_put
  dsimp only
  rw [if_neg (nI_pos (by omega)), if_neg (nleL (y := Int32.ofNat n) n hk rfl hn), nI_clamp (by omega)]
def XYR (b : Nat) (A : Mem) (ρ : Nat → Int32) (r : Nat) : Prop := A.1 (b + 10 + 2 * r) 2 = ρ (44 + 16 * r) ∧ A.1 (b + 10 + 2 * r) 3 = ρ (44 + 16 * r + 1)
def XYI (ρ : Nat → Int32) (r : Nat) : Prop := ∃ x y : Nat, x < 15 ∧ y < 9 ∧ ρ (44 + 16 * r) = nI x ∧ ρ (44 + 16 * r + 1) = nI y
def PRR (b : Nat) (A : Mem) (ρ : Nat → Int32) (r : Nat) : Prop :=
  A.1 (b + 10 + 2 * r) 7 = ρ (44 + 16 * r + 2) ∧ A.1 (b + 10 + 2 * r) 8 = ρ (44 + 16 * r + 3) ∧ (∀ i, i < 4 → A.1 (b + 10 + 2 * r + 1) i = ρ (44 + 16 * r + 4 + i)) ∧ A.1 (b + 10 + 2 * r) 6 = ρ (44 + 16 * r + 11) ∧ A.1 (b + 10 + 2 * r) 4 = tX r (ρ (44 + 16 * r + 12)) ∧ A.1 (b + 10 + 2 * r) 5 = tY r (ρ (44 + 16 * r + 13)) ∧ A.1 (b + 10 + 2 * r) 12 = ρ (44 + 16 * r + 14) ∧ A.1 (b + 10 + 2 * r) 13 = ρ (44 + 16 * r + 15)
/-- program and state, as a robot may have them: SV q s says that program q is there and has a state s -/
def PSI (SV : Nat → Nat → Prop) (p st : Int32) : Prop := (p = -1 ∧ st = -1) ∨ ∃ q s : Nat, q < 6 ∧ s < 8 ∧ SV q s ∧ p = nI q ∧ st = nI s
def PRI (SV : Nat → Nat → Prop) (ρ : Nat → Int32) (r : Nat) : Prop :=
  PSI SV (ρ (44 + 16 * r + 11)) (ρ (44 + 16 * r + 2)) ∧ (ρ (44 + 16 * r + 3) = 0 ∨ ρ (44 + 16 * r + 3) = 1) ∧ (∃ x y : Nat, x < 7 ∧ y < 9 ∧ ρ (44 + 16 * r + 12) = nI x ∧ ρ (44 + 16 * r + 13) = nI y) ∧ (∃ l : Nat, l < 4 ∧ ρ (44 + 16 * r + 14) = nI l) ∧ (∃ l : Nat, l < 10 ∧ ρ (44 + 16 * r + 15) = nI l)
def VWR (b : Nat) (A : Mem) (ρ : Nat → Int32) (r : Nat) : Prop := A.1 (b + 10 + 2 * r) 10 = ρ (44 + 16 * r + 8) ∧ A.1 (b + 10 + 2 * r) 11 = ρ (44 + 16 * r + 9)
def CMR (b : Nat) (A : Mem) (ρ : Nat → Int32) (r : Nat) : Prop := A.1 (b + 10 + 2 * r) 14 = ρ (44 + 16 * r + 10)
def RK (b : Nat) (A : Mem) (r : Nat) : Prop := A.1 (b + 10 + 2 * r) 0 = nI (r % 5) ∧ A.1 (b + 10 + 2 * r) 1 = (if r < 5 then 0 else 1)
/-- the teams -/
def TmR (A B : Mem) : Prop := ∀ t, t < 4 → (∀ k, k < 5 → A.1 (106 + 4 * t + 1) k = B.1 254 (5 * t + k) ∧ A.1 (106 + 4 * t + 2) k = B.1 255 (5 * t + k) ∧ A.1 (106 + 4 * t + 3) k = B.1 256 (5 * t + k)) ∧ A.1 (106 + 4 * t) 3 = B.1 257 t ∧ A.1 (106 + 4 * t) 4 = B.1 258 t
def TmI (SV : Nat → Nat → Prop) (B : Mem) : Prop := ∀ t, t < 4 → (∀ k, k < 5 → (B.1 254 (5 * t + k) = -1 ∨ ∃ q, q < 6 ∧ SV q 0 ∧ B.1 254 (5 * t + k) = nI q) ∧ ∃ x y : Nat, x < 7 ∧ y < 9 ∧ B.1 255 (5 * t + k) = nI x ∧ B.1 256 (5 * t + k) = nI y) ∧ (∃ l : Nat, l < 4 ∧ B.1 257 t = nI l) ∧ (∃ l : Nat, l < 10 ∧ B.1 258 t = nI l)
/-! what a kick-off keeps -/
def Kp (b : Nat) (A0 A : Mem) : Prop := A.2 = A0.2 ∧ (∀ c, c < b ∨ b + 30 ≤ c → A.1 c = A0.1 c) ∧ A.1 b = A0.1 b ∧ (∀ j, j < 3 → A.1 (b + 7 + j) = A0.1 (b + 7 + j)) ∧ (∀ r, r < 10 → A.1 (b + 10 + 2 * r) 0 = A0.1 (b + 10 + 2 * r) 0 ∧ A.1 (b + 10 + 2 * r) 1 = A0.1 (b + 10 + 2 * r) 1 ∧ A.1 (b + 10 + 2 * r) 14 = A0.1 (b + 10 + 2 * r) 14)
theorem Kp.rf {b : Nat} {A : Mem} : Kp b A A := ⟨rfl, fun _ _ => rfl, rfl, fun _ _ => rfl, fun _ _ => ⟨rfl, rfl, rfl⟩⟩
theorem Kp.ball {b a j : Nat} {v : Int32} {A0 A : Mem} (h : Kp b A0 A) (h1 : b + 4 ≤ a) (h2 : a ≤ b + 6) : Kp b A0 (setI A a j v) := by
  obtain ⟨g1, g2, g3, g4, g5⟩ := h
  refine ⟨g1, fun c hc => ?_, ?_, fun k hk => ?_, fun r hr => ?_⟩
  · rw [fI (by omega)]; exact g2 c hc
  · rw [fI (by omega)]; exact g3
  · rw [fI (by omega)]; exact g4 k hk
  · rw [fI (by omega)]; exact g5 r hr
theorem Kp.rob {b r j : Nat} {v : Int32} {A0 A : Mem} (h : Kp b A0 A) (hr : r < 10) (hj : j ≠ 0 ∧ j ≠ 1 ∧ j ≠ 14) : Kp b A0 (setI A (b + 10 + 2 * r) j v) := by
  obtain ⟨g1, g2, g3, g4, g5⟩ := h
  refine ⟨g1, fun c hc => ?_, ?_, fun k hk => ?_, fun s hs => ?_⟩
  · rw [fI (by omega)]; exact g2 c hc
  · rw [fI (by omega)]; exact g3
  · rw [fI (by omega)]; exact g4 k hk
  · rw [gI (Or.inr (by omega)), gI (Or.inr (by omega)), gI (Or.inr (by omega))]; exact g5 s hs
theorem Kp.own {b r j : Nat} {v : Int32} {A0 A : Mem} (h : Kp b A0 A) (hr : r < 10) : Kp b A0 (setI A (b + 10 + 2 * r + 1) j v) := by
  obtain ⟨g1, g2, g3, g4, g5⟩ := h
  refine ⟨g1, fun c hc => ?_, ?_, fun k hk => ?_, fun s hs => ?_⟩
  · rw [fI (by omega)]; exact g2 c hc
  · rw [fI (by omega)]; exact g3
  · rw [fI (by omega)]; exact g4 k hk
  · rw [fI (by omega)]; exact g5 s hs
def KpM (mA : Nat) (B0 B : Mem) : Prop := B.2 = B0.2 ∧ (∀ c, c ≠ mA → c ≠ 242 → B.1 c = B0.1 c) ∧ (∀ j, j ≠ 30 → j ≠ 31 → j ≠ 32 → B.1 242 j = B0.1 242 j) ∧ (∀ k, k < 13 ∨ k = 20 ∨ k = 22 ∨ k = 23 ∨ (24 ≤ k ∧ k < 44) ∨ 204 ≤ k → B.1 mA k = B0.1 mA k) ∧ (∀ r, r < 10 → B.1 mA (44 + 16 * r + 10) = B0.1 mA (44 + 16 * r + 10))
theorem KpM.rf {mA : Nat} {B : Mem} : KpM mA B B := ⟨rfl, fun _ _ _ => rfl, fun _ _ _ _ => rfl, fun _ _ => rfl, fun _ _ => rfl⟩
theorem KpM.row {mA k : Nat} {v : Int32} {B0 B : Mem} (h : KpM mA B0 B) (hmA : mA ≠ 242) (hk : ¬ (k < 13 ∨ k = 20 ∨ k = 22 ∨ k = 23 ∨ (24 ≤ k ∧ k < 44) ∨ 204 ≤ k)) (h10 : 44 ≤ k → (k - 44) % 16 ≠ 10) : KpM mA B0 (setI B mA k v) := by
  obtain ⟨g1, g2, g3, g4, g5⟩ := h
  refine ⟨g1, fun c h1 h2 => ?_, fun j h1 h2 h3 => ?_, fun i hi => ?_, fun r hr => ?_⟩
  · rw [fI h1]; exact g2 c h1 h2
  · rw [fI (Ne.symm hmA)]; exact g3 j h1 h2 h3
  · rw [gI (Or.inr (by omega))]; exact g4 i hi
  · rw [gI (Or.inr (by omega))]; exact g5 r hr
theorem KpM.scr {mA j : Nat} {v : Int32} {B0 B : Mem} (h : KpM mA B0 B) (hmA : mA ≠ 242) (hj : j = 30 ∨ j = 31 ∨ j = 32) : KpM mA B0 (setI B 242 j v) := by
  obtain ⟨g1, g2, g3, g4, g5⟩ := h
  refine ⟨g1, fun c h1 h2 => ?_, fun i h1 h2 h3 => ?_, fun i hi => ?_, fun r hr => ?_⟩
  · rw [fI h2]; exact g2 c h1 h2
  · rw [gI (Or.inr (by omega))]; exact g3 i h1 h2 h3
  · rw [fI hmA]; exact g4 i hi
  · rw [fI hmA]; exact g5 r hr
theorem KpM.pb {mA : Nat} {x y : Int32} {B0 B : Mem} (h : KpM mA B0 B) (hmA : mA ≠ 242) : KpM mA B0 (putB B x y) := by
  unfold putB
  exact (h.scr hmA (by omega)).scr hmA (by omega)
/-- a robot takes what its team has -/
def joinC (a : Nat) (pg sx sy lt ls : Int32) (A : Mem) : Mem := setI (setI (setI (setI (setI (setI (setI (setI (setI (setI (setI A a 6 pg) a 4 sx) a 5 sy) a 12 lt) a 13 ls) a 7 (if 0 ≤ pg then 0 else -1)) a 8 0) (a + 1) 0 0) (a + 1) 1 0) (a + 1) 2 0) (a + 1) 3 0
theorem join_eq {a t k r : Nat} {A : Mem} (hk : k < 5) (h0 : A.1 a 0 = nI k) (h1 : A.1 a 1 = if r < 5 then 0 else 1) (ha : 122 ≤ a) (ht : t < 4) : R_X5_join a (106 + 4 * t) A = some (joinC a (A.1 (106 + 4 * t + 1) k) (tX r (A.1 (106 + 4 * t + 2) k)) (tY r (A.1 (106 + 4 * t + 3) k)) (A.1 (106 + 4 * t) 3) (A.1 (106 + 4 * t) 4) A) := by
  have sX : ∀ (v : Int32) (M : Mem), M.1 a 1 = (if r < 5 then 0 else 1) → V_X5_seenX a v M = tX r v := by
    intro v M hM
    unfold V_X5_seenX tX
    dsimp only
    rw [hM]
    by_cases c : r < 5
    · rw [if_pos c, if_pos c, if_pos rfl]
    · rw [if_neg c, if_neg c, if_neg (by decide)]
  have sY : ∀ (v : Int32) (M : Mem), M.1 a 1 = (if r < 5 then 0 else 1) → V_X5_seenY a v M = tY r v := by
    intro v M hM
    unfold V_X5_seenY tY
    dsimp only
    rw [hM]
    by_cases c : r < 5
    · rw [if_pos c, if_pos c, if_pos rfl]
    · rw [if_neg c, if_neg c, if_neg (by decide)]
  unfold R_X5_join
  rw [at_eq h0 hk (by decide), at_eq (M := setI A a 6 _) h0 hk (by decide), gI (Or.inl (by omega)), sX _ _ (by rw [gI (Or.inr (by decide))]; exact h1)]
  rw [at_eq (M := setI (setI A a 6 _) a 4 _) h0 hk (by decide), gI (Or.inl (by omega)), gI (Or.inl (by omega)), sY _ _ (by rw [gI (Or.inr (by decide)), gI (Or.inr (by decide))]; exact h1)]
  rw [bd1_s, bd1_s]
  have e6 : (setI (setI (setI A a 6 (A.1 (106 + 4 * t + 1) k)) a 4 (tX r (A.1 (106 + 4 * t + 2) k))) a 5 (tY r (A.1 (106 + 4 * t + 3) k))).1 a 6 = A.1 (106 + 4 * t + 1) k := by
    rw [gI (Or.inr (by decide)), gI (Or.inr (by decide)), gs_eI]
  have e3 : ∀ j, (setI (setI (setI A a 6 (A.1 (106 + 4 * t + 1) k)) a 4 (tX r (A.1 (106 + 4 * t + 2) k))) a 5 (tY r (A.1 (106 + 4 * t + 3) k))).1 (106 + 4 * t) j = A.1 (106 + 4 * t) j := by
    intro j
    rw [gI (Or.inl (by omega)), gI (Or.inl (by omega)), gI (Or.inl (by omega))]
  rw [e6, e3, e3]
  rfl
