/-! ===== a kick-off, on both sides ===== -/
def tmOf (th ta r : Nat) : Nat := if r < 5 then th else ta
/-- what the model's row has of a robot behind the first loop of its kick-off -/
def MP (B0 : Mem) (th ta : Nat) (ρ : Nat → Int32) (r : Nat) : Prop :=
  ρ (44 + 16 * r + 11) = B0.1 254 (5 * tmOf th ta r + r % 5) ∧ ρ (44 + 16 * r + 12) = B0.1 255 (5 * tmOf th ta r + r % 5) ∧ ρ (44 + 16 * r + 13) = B0.1 256 (5 * tmOf th ta r + r % 5) ∧ ρ (44 + 16 * r + 14) = B0.1 257 (tmOf th ta r) ∧ ρ (44 + 16 * r + 15) = B0.1 258 (tmOf th ta r) ∧ ρ (44 + 16 * r + 2) = (if 0 ≤ B0.1 254 (5 * tmOf th ta r + r % 5) then 0 else -1) ∧ ρ (44 + 16 * r + 3) = 0 ∧ (∀ i, i < 4 → ρ (44 + 16 * r + 4 + i) = 0)
theorem MP.cg {B0 : Mem} {th ta r : Nat} {ρ σ : Nat → Int32} (h : MP B0 th ta ρ r) (he : ∀ k, 2 ≤ k → k < 16 → σ (44 + 16 * r + k) = ρ (44 + 16 * r + k)) : MP B0 th ta σ r := by
  obtain ⟨h1, h2, h3, h4, h5, h6, h7, h8⟩ := h
  refine ⟨?_, ?_, ?_, ?_, ?_, ?_, ?_, fun i hi => ?_⟩
  · rw [he 11 (by decide) (by decide)]; exact h1
  · rw [he 12 (by decide) (by decide)]; exact h2
  · rw [he 13 (by decide) (by decide)]; exact h3
  · rw [he 14 (by decide) (by decide)]; exact h4
  · rw [he 15 (by decide) (by decide)]; exact h5
  · rw [he 2 (by decide) (by decide)]; exact h6
  · rw [he 3 (by decide) (by decide)]; exact h7
  · rw [Nat.add_assoc, he (4 + i) (by omega) (by omega), ← Nat.add_assoc]; exact h8 i hi
theorem own0_M {x1 : Int32} {mA r : Nat} {M : Mem} (hr : r < 10) : L_X11_kickOff_127 x1 mA (nI r) 4 0 M = some (setI (setI (setI (setI M mA (44 + 16 * r + 4) 0) mA (44 + 16 * r + 5) 0) mA (44 + 16 * r + 6) 0) mA (44 + 16 * r + 7) 0) := by
  rw [L_X11_kickOff_127, bnd1_e (set_eq (c := 4) (w := 4 + nI 0) hr (by decide) rfl), L_X11_kickOff_127, bnd1_e (set_eq (c := 5) (w := 4 + nI (0 + 1)) hr (by decide) rfl), L_X11_kickOff_127, bnd1_e (set_eq (c := 6) (w := 4 + nI (0 + 1 + 1)) hr (by decide) rfl), L_X11_kickOff_127, bnd1_e (set_eq (c := 7) (w := 4 + nI (0 + 1 + 1 + 1)) hr (by decide) rfl), L_X11_kickOff_127]
/-- the first loop of the model's kick-off -/
theorem kick1_M {x1 : Int32} {mA th ta : Nat} {B0 : Mem} (hmA : mA = 259 ∨ mA = 260) (hth : th < 4) (hta : ta < 4) (h1 : B0.1 mA 1 = nI th) (h2 : B0.1 mA 2 = nI ta) : ∀ (n r : Nat) (B : Mem), r + n = 10 → KpM mA B0 B → (∀ j, j < r → MP B0 th ta (B.1 mA) j) → ∃ B', L_X11_kickOff_2 x1 mA n r B = some B' ∧ KpM mA B0 B' ∧ ∀ j, j < 10 → MP B0 th ta (B'.1 mA) j := by
  have hm : mA ≠ 242 := by omega
  intro n
  induction n with
  | zero => intro r B hr hK hM; exact ⟨B, rfl, hK, fun j hj => hM j (by omega)⟩
  | succ n ih =>
    intro r B hr hK hM
    have hr10 : r < 10 := by omega
    have ht : tmOf th ta r < 4 := by unfold tmOf; split <;> assumption
    have ei : (1 : Int32) + (nI r) / (5 : Int32) = nI (1 + r / 5) := by
      rw [show (5 : Int32) = nI 5 from rfl, pk_div (by omega) (by decide) (by decide), show (1 : Int32) = nI 1 from rfl, nI_add]
    have ev : B.1 mA (1 + r / 5) = nI (tmOf th ta r) := by
      rw [hK.2.2.2.1 _ (Or.inl (by omega))]
      unfold tmOf
      by_cases c : r < 5
      · rw [if_pos c, show 1 + r / 5 = 1 by omega]; exact h1
      · rw [if_neg c, show 1 + r / 5 = 2 by omega]; exact h2
    have ek : (5 : Int32) * nI (tmOf th ta r) + (nI r - nI r / (5 : Int32) * (5 : Int32)) = nI (5 * tmOf th ta r + r % 5) := by
      rw [show (5 : Int32) = nI 5 from rfl, pk_rem (by omega) (by decide) (by decide), pk_mul, nI_add]
    have hk20 : 5 * tmOf th ta r + r % 5 < 20 := by omega
    have rd : ∀ (M : Mem) (c j : Nat), KpM mA B0 M → 254 ≤ c → c ≤ 258 → M.1 c j = B0.1 c j := fun M c j hM a b => by rw [hM.2.1 c (by omega) (by omega)]
    rw [L_X11_kickOff_2, ei, ck_nI (by omega) (by omega), nI_clamp (by omega), bd1_s, ev, ek, bd1_s, ck_nI hk20 (by omega), nI_clamp (by omega), nI_clamp (by omega), rd B 254 _ hK (by decide) (by decide)]
    have k1 := hK.row (k := 44 + 16 * r + 11) (v := B0.1 254 (5 * tmOf th ta r + r % 5)) hm (by omega) (by omega)
    rw [bnd1_e (set_eq (c := 11) (w := 11) hr10 (by decide) rfl), ck_nI hk20 (by omega), rd _ 255 _ k1 (by decide) (by decide)]
    have k2 := k1.row (k := 44 + 16 * r + 12) (v := B0.1 255 (5 * tmOf th ta r + r % 5)) hm (by omega) (by omega)
    rw [bnd1_e (set_eq (c := 12) (w := 12) hr10 (by decide) rfl), ck_nI hk20 (by omega), rd _ 256 _ k2 (by decide) (by decide)]
    have k3 := k2.row (k := 44 + 16 * r + 13) (v := B0.1 256 (5 * tmOf th ta r + r % 5)) hm (by omega) (by omega)
    rw [bnd1_e (set_eq (c := 13) (w := 13) hr10 (by decide) rfl), ck_nI ht (by omega), rd _ 257 _ k3 (by decide) (by decide)]
    have k4 := k3.row (k := 44 + 16 * r + 14) (v := B0.1 257 (tmOf th ta r)) hm (by omega) (by omega)
    rw [bnd1_e (set_eq (c := 14) (w := 14) hr10 (by decide) rfl), ck_nI ht (by omega), rd _ 258 _ k4 (by decide) (by decide)]
    have k5 := k4.row (k := 44 + 16 * r + 15) (v := B0.1 258 (tmOf th ta r)) hm (by omega) (by omega)
    rw [bnd1_e (set_eq (c := 15) (w := 15) hr10 (by decide) rfl), ck_nI hk20 (by omega), rd _ 254 _ k5 (by decide) (by decide), bd1_s]
    have k6 := k5.row (k := 44 + 16 * r + 2) (v := if 0 ≤ B0.1 254 (5 * tmOf th ta r + r % 5) then 0 else -1) hm (by omega) (by omega)
    rw [bnd1_e (set_eq (c := 2) (w := 2) hr10 (by decide) rfl)]
    have k7 := k6.row (k := 44 + 16 * r + 3) (v := 0) hm (by omega) (by omega)
    rw [bnd1_e (set_eq (c := 3) (w := 3) hr10 (by decide) rfl), bnd1_e (own0_M hr10)]
    have k8 := (((k7.row (k := 44 + 16 * r + 4) (v := 0) hm (by omega) (by omega)).row (k := 44 + 16 * r + 5) (v := 0) hm (by omega) (by omega)).row (k := 44 + 16 * r + 6) (v := 0) hm (by omega) (by omega)).row (k := 44 + 16 * r + 7) (v := 0) hm (by omega) (by omega)
    refine ih (r + 1) _ (by omega) k8 (fun j hj => ?_)
    by_cases e : j = r
    · subst e
      refine ⟨?_, ?_, ?_, ?_, ?_, ?_, ?_, fun i hi => ?_⟩
      all_goals try (simp (disch := omega) only [gs_eI, gI])
      rcases (show i = 0 ∨ i = 1 ∨ i = 2 ∨ i = 3 by omega) with rfl | rfl | rfl | rfl <;> simp (disch := omega) only [gs_eI, gI, Nat.add_zero, Nat.add_assoc, Nat.reduceAdd]
    · refine (hM j (by omega)).cg (fun k h1 h2 => ?_)
      simp (disch := omega) only [gI]
