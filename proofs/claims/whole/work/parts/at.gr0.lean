section GR0
theorem kn_len : kn.length = 25 := by decide
theorem knw0 : Knw ME := by
  intro i w h
  have hi : i < 25 := by rw [← kn_len]; exact (List.getElem?_eq_some_iff.mp h).1
  have key : ∀ i, i < 25 → ME.2 4 i = Int64.ofNat (pkN 32 (kn.getD i [])) := by decide +kernel
  have e := key i hi
  have e2 : kn.getD i [] = w := by rw [List.getD_eq_getElem?_getD, h]; rfl
  rw [← e2]
  exact e
theorem gp0 : GP ME ME := by
  refine ⟨0, by decide, by decide +kernel, by decide +kernel, by decide +kernel, fun h => absurd h (by decide), ⟨fun _ => 0, 0, ⟨by decide +kernel, by decide, fun i hi => absurd hi (by omega)⟩, ⟨by decide +kernel, by decide, fun i hi => absurd hi (by omega)⟩⟩, knw0, ?_, fun i hi => absurd hi (by omega)⟩
  intro i hi d hd
  have key : ∀ i, i < 6 → ME.1 (16 + 15 * i + 2) 0 = 0 ∧ ME.1 (16 + 15 * i + 3) 0 = 0 ∧ ME.1 (16 + 15 * i + 4) 0 = 0 ∧ ME.1 (16 + 15 * i + 10) 0 = 0 := by decide +kernel
  obtain ⟨k1, k2, k3, k4⟩ := key i hi
  rcases hd with rfl | rfl | rfl | rfl
  · exact k1
  · exact k2
  · exact k3
  · exact k4
theorem gf0 : GF ME ME := by
  have key : ∀ i, i < 5 → ME.1 1 i = ME.1 253 (i + 1) := by decide +kernel
  exact fun i hi => key i hi
theorem gt0 : GT ME ME := by
  refine ⟨fun t ht => ⟨fun k hk => ?_, ?_⟩, fun t ht => ⟨fun k hk => ?_, ?_⟩⟩
  · have key : ∀ t, t < 4 → ∀ k, k < 5 → ME.1 (106 + 4 * t + 1) k = ME.1 254 (5 * t + k) ∧ ME.1 (106 + 4 * t + 2) k = ME.1 255 (5 * t + k) ∧ ME.1 (106 + 4 * t + 3) k = ME.1 256 (5 * t + k) := by decide +kernel
    exact key t ht k hk
  · have key : ∀ t, t < 4 → ME.1 (106 + 4 * t) 3 = ME.1 257 t ∧ ME.1 (106 + 4 * t) 4 = ME.1 258 t := by decide +kernel
    exact key t ht
  · have key : ∀ t, t < 4 → ∀ k, k < 5 → ME.1 254 (5 * t + k) = -1 ∧ ME.1 255 (5 * t + k) = fX k ∧ ME.1 256 (5 * t + k) = fY k := by decide +kernel
    obtain ⟨k1, k2, k3⟩ := key t ht k hk
    refine ⟨Or.inl k1, ?_⟩
    rcases (show k = 0 ∨ k = 1 ∨ k = 2 ∨ k = 3 ∨ k = 4 by omega) with rfl | rfl | rfl | rfl | rfl
    · exact ⟨1, 4, by decide, by decide, k2, k3⟩
    · exact ⟨3, 2, by decide, by decide, k2, k3⟩
    · exact ⟨3, 6, by decide, by decide, k2, k3⟩
    · exact ⟨5, 3, by decide, by decide, k2, k3⟩
    · exact ⟨5, 5, by decide, by decide, k2, k3⟩
  · have key : ∀ t, t < 4 → ME.1 257 t = nI 0 ∧ ME.1 258 t = nI 0 := by decide +kernel
    obtain ⟨k1, k2⟩ := key t ht
    exact ⟨⟨0, by decide, k1⟩, ⟨0, by decide, k2⟩⟩
theorem go0 : GO ME ME := by
  have key : ∀ i, i < 20 → ME.1 15 i = ME.1 268 i := by decide +kernel
  exact ⟨by decide +kernel, ⟨0, by decide, by decide +kernel⟩, fun i hi => key i hi⟩
theorem gm0 : GM 0 ME ME := ⟨by decide +kernel, Or.inl ⟨by decide +kernel, by decide +kernel⟩⟩
theorem gk0 : GK 0 ME ME := fun k hk => by
  rcases (show k = 0 ∨ k = 1 by omega) with rfl | rfl
  · exact Or.inl ⟨by decide +kernel, by show ME.1 261 (212 * 0 + 0) = 0; decide +kernel⟩
  · exact Or.inl ⟨by decide +kernel, by show ME.1 261 (212 * 1 + 0) = 0; decide +kernel⟩
theorem gl0 : GL ME ME := by
  refine ⟨fun b hb r hr => ?_, ⟨0, by decide, by decide +kernel, by decide +kernel⟩, fun i hi => ?_⟩
  · rcases hb with rfl | rfl | rfl | rfl
    · have key : ∀ r, r < 10 → ME.1 (122 + 10 + 2 * r) 0 = nI (r % 5) ∧ ME.1 (122 + 10 + 2 * r) 1 = (if r < 5 then 0 else 1) := by decide +kernel
      exact key r hr
    · have key : ∀ r, r < 10 → ME.1 (152 + 10 + 2 * r) 0 = nI (r % 5) ∧ ME.1 (152 + 10 + 2 * r) 1 = (if r < 5 then 0 else 1) := by decide +kernel
      exact key r hr
    · have key : ∀ r, r < 10 → ME.1 (182 + 10 + 2 * r) 0 = nI (r % 5) ∧ ME.1 (182 + 10 + 2 * r) 1 = (if r < 5 then 0 else 1) := by decide +kernel
      exact key r hr
    · have key : ∀ r, r < 10 → ME.1 (212 + 10 + 2 * r) 0 = nI (r % 5) ∧ ME.1 (212 + 10 + 2 * r) 1 = (if r < 5 then 0 else 1) := by decide +kernel
      exact key r hr
  · have key : ∀ i, i < 4 → ME.1 12 i = nI 0 ∧ ME.1 13 i = nI 0 ∧ ME.1 14 i = nI 0 ∧ ME.1 265 i = nI 0 ∧ ME.1 266 i = nI 0 ∧ ME.1 267 i = nI 0 := by decide +kernel
    obtain ⟨k1, k2, k3, k4, k5, k6⟩ := key i hi
    exact ⟨⟨0, 0, 0, by decide, by decide, by decide, k1, k2, k3⟩, k1.trans k4.symm, k2.trans k5.symm, k3.trans k6.symm⟩
theorem gr0 : GR 0 ME ME := ⟨gp0, gf0, gt0, go0, gm0, gk0, gl0⟩
end GR0
