/-! ===== a crowd ===== -/
def near0 (px : Nat → Nat) (r : Nat) : Nat := if r < 5 then px r else 14 - px r
abbrev CrS : Type := Nat × Option Nat
def crS (px : Nat → Nat) (s : CrS) (r : Nat) : CrS := if near0 px r ≤ 2 then (s.1 + 1, some r) else s
def cr (px : Nat → Nat) : Nat → Nat → CrS → CrS
  | 0, _, s => s
  | n + 1, r, s => cr px n (r + 1) (crS px s r)
def csOk (s : CrS) (m : Nat) : Prop := s.1 ≤ m ∧ (0 < s.1 → ∃ r, r < 10 ∧ s.2 = some r)
theorem crS_ok {px : Nat → Nat} {s : CrS} {m r : Nat} (h : csOk s m) (hr : r < 10) : csOk (crS px s r) (m + 1) := by
  unfold crS
  split
  · exact ⟨Nat.succ_le_succ h.1, fun _ => ⟨r, hr, rfl⟩⟩
  · exact ⟨Nat.le_succ_of_le h.1, h.2⟩
theorem cr_ok {px : Nat → Nat} : ∀ (n r : Nat) (s : CrS) (m : Nat), r + n ≤ 10 → csOk s m → csOk (cr px n r s) (m + n) := by
  intro n
  induction n with
  | zero => intro r s m _ h; exact h
  | succ n ih => intro r s m hr h; rw [show m + (n + 1) = m + 1 + n by omega]; exact ih (r + 1) _ (m + 1) (by omega) (crS_ok h (by omega))
theorem seenX_eq {a r : Nat} {v : Int32} {M : Mem} (hM : M.1 a 1 = (if r < 5 then 0 else 1)) : V_X5_seenX a v M = tX r v := by
  unfold V_X5_seenX tX
  dsimp only
  rw [hM]
  by_cases c : r < 5
  · rw [if_pos c, if_pos c, if_pos rfl]
  · rw [if_neg c, if_neg c, if_neg n10]
theorem seenY_eq {a r : Nat} {v : Int32} {M : Mem} (hM : M.1 a 1 = (if r < 5 then 0 else 1)) : V_X5_seenY a v M = tY r v := by
  unfold V_X5_seenY tY
  dsimp only
  rw [hM]
  by_cases c : r < 5
  · rw [if_pos c, if_pos c, if_pos rfl]
  · rw [if_neg c, if_neg c, if_neg n10]
theorem tX_nI {px : Nat → Nat} {r : Nat} (h : px r < 15) : tX r (nI (px r)) = nI (near0 px r) := by
  unfold tX near0
  split
  · rfl
  · rw [show (14 : Int32) = nI 14 from rfl, pk_sub (by omega)]
theorem ltL' {z : Nat} (h : 2 < z) (hz : z ≤ 14) : (2 : Int32) < nI z := nI_lt (a := 2) h (by omega)
theorem nltL' {z : Nat} (h : z ≤ 2) : ¬ (2 : Int32) < nI z := nI_nlt (b := z) (a := 2) h (by decide)
theorem crowd_C {b side : Nat} {A : Mem} {ρ : Nat → Int32} {px py : Nat → Nat} (hP : PosN ρ px py) (hX : ∀ r, r < 10 → XYR b A ρ r) (hR : ∀ r, r < 10 → RK b A r) (hs : side < 2) (n f : Nat) (s : CrS) (hf : f < 10) : L_X2_thinsCrowd_7 b (nI side) (n + 1) f (nI s.1) (enc s.2) A = if f / 5 = side then L_X2_thinsCrowd_7 b (nI side) n (f + 1) (nI (crS px s f).1) (enc (crS px s f).2) A else L_X2_thinsCrowd_7 b (nI side) n (f + 1) (nI s.1) (enc s.2) A := by
  have hk := (hR f hf).2
  have e : (A.1 (b + 10 + 2 * f) 1 = nI side) ↔ f / 5 = side := by
    rw [hk]
    by_cases c : f < 5
    · rw [if_pos c]
      rcases (show side = 0 ∨ side = 1 by omega) with rfl | rfl
      · exact ⟨fun _ => by omega, fun _ => rfl⟩
      · exact ⟨fun q => absurd q (by decide), fun q => by omega⟩
    · rw [if_neg c]
      rcases (show side = 0 ∨ side = 1 by omega) with rfl | rfl
      · exact ⟨fun q => absurd q (by decide), fun q => by omega⟩
      · exact ⟨fun _ => by omega, fun _ => rfl⟩
  obtain ⟨x1, x2, x3, x4⟩ := hP f hf
  rw [L_X2_thinsCrowd_7]
  by_cases c : f / 5 = side
  · rw [if_pos (e.mpr c), if_pos c, seenX_eq (r := f) hk, (hX f hf).1, x3, tX_nI x1]
    unfold crS
    by_cases c2 : near0 px f ≤ 2
    · rw [if_pos c2, if_neg (nltL' c2), bd2_s, nI_1]; rfl
    · rw [if_neg c2, if_pos (ltL' (by omega) (by unfold near0; split <;> omega)), bd2_s]
  · rw [if_neg (fun q => c (e.mp q)), if_neg c, bd2_s]
theorem crowd_loop {b side : Nat} {A : Mem} {ρ : Nat → Int32} {px py : Nat → Nat} (hP : PosN ρ px py) (hX : ∀ r, r < 10 → XYR b A ρ r) (hR : ∀ r, r < 10 → RK b A r) (hs : side < 2) (yes : Bool) : ∀ (m n f : Nat) (s : CrS), (∀ k, f ≤ k → k < f + m → (k / 5 = side) = (yes = true)) → f + m ≤ 10 → L_X2_thinsCrowd_7 b (nI side) (m + n) f (nI s.1) (enc s.2) A = L_X2_thinsCrowd_7 b (nI side) n (f + m) (nI (if yes = true then cr px m f s else s).1) (enc (if yes = true then cr px m f s else s).2) A := by
  intro m
  induction m with
  | zero => intro n f s _ _; rw [Nat.zero_add, Nat.add_zero]; cases yes <;> rfl
  | succ m ih =>
    intro n f s hk hf
    rw [show m + 1 + n = (m + n) + 1 by omega, crowd_C hP hX hR hs (m + n) f s (by omega)]
    have h0 := hk f (Nat.le_refl _) (by omega)
    cases yes with
    | false =>
      rw [if_neg (fun q => Bool.noConfusion (h0.mp q)), ih n (f + 1) s (fun k a1 a2 => hk k (by omega) (by omega)) (by omega), show f + 1 + m = f + (m + 1) by omega]
      rfl
    | true =>
      rw [if_pos (h0.mpr rfl), ih n (f + 1) _ (fun k a1 a2 => hk k (by omega) (by omega)) (by omega), show f + 1 + m = f + (m + 1) by omega]
      rfl
theorem crowd_M {mA side : Nat} {B : Mem} {px py : Nat → Nat} (hP : PosN (B.1 mA) px py) (hs : side < 2) : ∀ (n k : Nat) (s : CrS), k + n = 5 → L_X11_crowded_7 (nI side) mA n k (nI s.1) (enc s.2) B = some (nI (cr px n (5 * side + k) s).1, enc (cr px n (5 * side + k) s).2) := by
  intro n
  induction n with
  | zero => intro k s _; rfl
  | succ n ih =>
    intro k s hk
    have hr : 5 * side + k < 10 := by omega
    obtain ⟨x1, x2, x3, x4⟩ := hP (5 * side + k) hr
    have er : (5 : Int32) * nI side + nI k = nI (5 * side + k) := by rw [show (5 : Int32) = nI 5 from rfl, pk_mul, nI_add]
    have o0 := of_eq (r := 5 * side + k) (c := 0) (w := 0) (mA := mA) (M := B) hr (by decide) rfl
    rw [Nat.add_zero, x3] at o0
    have ez : (if nI side = 0 then nI (px (5 * side + k)) else (14 : Int32) - nI (px (5 * side + k))) = nI (near0 px (5 * side + k)) := by
      rw [← tX_nI x1]; unfold tX
      rcases (show side = 0 ∨ side = 1 by omega) with rfl | rfl
      · rw [if_pos (show nI 0 = 0 from rfl), if_pos (by omega)]
      · rw [if_neg (show ¬ nI 1 = 0 by decide), if_neg (by omega)]
    rw [L_X11_crowded_7, er, bnd1_e o0, bd1_s, ez]
    have hz : near0 px (5 * side + k) ≤ 14 := by unfold near0; split <;> omega
    show bd2 _ _ = _
    unfold cr
    have ek : 5 * side + k + 1 = 5 * side + (k + 1) := by omega
    rw [ek, ← ih (k + 1) _ (by omega)]
    unfold crS
    by_cases c2 : near0 px (5 * side + k) ≤ 2
    · rw [if_pos c2, if_neg (nltL' c2), bd1_s, bd2_s, nI_1]; rfl
    · rw [if_neg c2, if_pos (ltL' (by omega) hz), bd2_s]
