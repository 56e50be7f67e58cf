/-! ===== the world at the entry ===== -/
section LWD
variable {s : State} {b : Nat}
theorem kn_all (cd : ClassId) (ht : ∀ w ∈ lw_good, w.before #[Value.ref b] s = true) : ∃ (dC : Nat → ClassId) (dI : Nat → Nat → Nat), ∀ (k : Nat) (q : vw_C), clW[k]? = some q → u_Kn s q.1 q.2.1 q.2.2 (dC k) (dI k) := by
  have h0 : ∀ k : Nat, ∃ x : ClassId × (Nat → Nat), ∀ q : vw_C, clW[k]? = some q → u_Kn s q.1 q.2.1 q.2.2 x.1 x.2 := by
    intro k
    rcases (show k = 0 ∨ k = 1 ∨ k = 2 ∨ k = 3 ∨ k = 4 ∨ k = 5 ∨ k = 6 ∨ k = 7 ∨ k = 8 ∨ k = 9 ∨ k = 10 ∨ 11 ≤ k by omega) with rfl | rfl | rfl | rfl | rfl | rfl | rfl | rfl | rfl | rfl | rfl | hk
    · obtain ⟨c0, i0, h⟩ := u_known (C := RX0) (T := TX0) (N := 12) (n := 12) ht inG_X0 (ht _ is_X0)
      exact ⟨(c0, i0), fun q hq => by have e : q = (RX0, TX0, 12) := (Option.some.inj hq).symm; subst e; exact h⟩
    · obtain ⟨c0, i0, h⟩ := u_known (C := RX1) (T := TX1) (N := 4) (n := 4) ht inG_X1 (ht _ is_X1)
      exact ⟨(c0, i0), fun q hq => by have e : q = (RX1, TX1, 4) := (Option.some.inj hq).symm; subst e; exact h⟩
    · obtain ⟨c0, i0, h⟩ := u_known (C := RX2) (T := TX2) (N := 10) (n := 10) ht inG_X2 (ht _ is_X2)
      exact ⟨(c0, i0), fun q hq => by have e : q = (RX2, TX2, 10) := (Option.some.inj hq).symm; subst e; exact h⟩
    · obtain ⟨c0, i0, h⟩ := u_known (C := RX3) (T := TX3) (N := 20) (n := 20) ht inG_X3 (ht _ is_X3)
      exact ⟨(c0, i0), fun q hq => by have e : q = (RX3, TX3, 20) := (Option.some.inj hq).symm; subst e; exact h⟩
    · obtain ⟨c0, i0, h⟩ := u_known (C := RX4) (T := TX4) (N := 10) (n := 10) ht inG_X4 (ht _ is_X4)
      exact ⟨(c0, i0), fun q hq => by have e : q = (RX4, TX4, 10) := (Option.some.inj hq).symm; subst e; exact h⟩
    · obtain ⟨c0, i0, h⟩ := u_known (C := RX5) (T := TX5) (N := 18) (n := 18) ht inG_X5 (ht _ is_X5)
      exact ⟨(c0, i0), fun q hq => by have e : q = (RX5, TX5, 18) := (Option.some.inj hq).symm; subst e; exact h⟩
    · obtain ⟨c0, i0, h⟩ := u_known (C := RX6) (T := TX6) (N := 3) (n := 3) ht inG_X6 (ht _ is_X6)
      exact ⟨(c0, i0), fun q hq => by have e : q = (RX6, TX6, 3) := (Option.some.inj hq).symm; subst e; exact h⟩
    · obtain ⟨c0, i0, h⟩ := u_known (C := RX7) (T := TX7) (N := 6) (n := 6) ht inG_X7 (ht _ is_X7)
      exact ⟨(c0, i0), fun q hq => by have e : q = (RX7, TX7, 6) := (Option.some.inj hq).symm; subst e; exact h⟩
    · obtain ⟨c0, i0, h⟩ := u_known (C := RX8) (T := TX8) (N := 5) (n := 5) ht inG_X8 (ht _ is_X8)
      exact ⟨(c0, i0), fun q hq => by have e : q = (RX8, TX8, 5) := (Option.some.inj hq).symm; subst e; exact h⟩
    · obtain ⟨c0, i0, h⟩ := u_known (C := RX10) (T := TX10) (N := 12) (n := 12) ht inG_X10 (ht _ is_X10)
      exact ⟨(c0, i0), fun q hq => by have e : q = (RX10, TX10, 12) := (Option.some.inj hq).symm; subst e; exact h⟩
    · obtain ⟨c0, i0, h⟩ := u_known (C := RX11) (T := TX11) (N := 48) (n := 48) ht inG_X11 (ht _ is_X11)
      exact ⟨(c0, i0), fun q hq => by have e : q = (RX11, TX11, 48) := (Option.some.inj hq).symm; subst e; exact h⟩
    · exact ⟨(cd, fun _ => 0), fun q hq => by rw [List.getElem?_eq_none (show clW.length ≤ k from hk)] at hq; cases hq⟩
  obtain ⟨f, hf⟩ := Classical.axiomOfChoice h0
  exact ⟨fun k => (f k).1, fun k => (f k).2, fun k q hq => hf k q hq⟩
theorem ao_of {C : String} (h : va_AO C s) : ∃ cA : ClassId, ArrOfT s cA (.object C) ∧ va_RA s cA (.object C) := by
  obtain ⟨comp, c, k, h1, h2, h3, h4, h5⟩ := Cond.arrayOver_spec h
  exact ⟨c, fun n z => ⟨(fun k h => by cases h), k, h3, comp, h4⟩, k, comp, h3, h4, h1, h5⟩
theorem ar_all (cd : ClassId) (ht : ∀ w ∈ lw_tbl, w.before #[Value.ref b] s = true) : ∃ dA : Nat → ClassId, ∀ t, t < 7 → ArrOfT s (dA t) (tyA t) ∧ va_RA s (dA t) (tyA t) := by
  have h0 : ∀ t : Nat, ∃ cA : ClassId, t < 7 → ArrOfT s cA (tyA t) ∧ va_RA s cA (tyA t) := by
    intro t
    rcases (show t = 0 ∨ t = 1 ∨ t = 2 ∨ t = 3 ∨ t = 4 ∨ t = 5 ∨ t = 6 ∨ 7 ≤ t by omega) with rfl | rfl | rfl | rfl | rfl | rfl | rfl | hk
    · obtain ⟨cA, kA, comp, h1, h2, h3⟩ := Cond.arrayClass_spec (ht _ ar_0)
      exact ⟨cA, fun _ => ⟨fun n z => ⟨fun k h => (by cases h), kA, h2, comp, h3⟩, h1⟩⟩
    · obtain ⟨cA, kA, comp, h1, h2, h3⟩ := Cond.arrayClass_spec (ht _ ar_1)
      exact ⟨cA, fun _ => ⟨fun n z => ⟨fun k h => (by cases h), kA, h2, comp, h3⟩, h1⟩⟩
    · obtain ⟨cA, kA, comp, h1, h2, h3⟩ := Cond.arrayClass_spec (ht _ ar_2)
      exact ⟨cA, fun _ => ⟨fun n z => ⟨fun k h => (by cases h), kA, h2, comp, h3⟩, h1⟩⟩
    · obtain ⟨cA, h⟩ := ao_of (va_AO.of (ht _ ar_3))
      exact ⟨cA, fun _ => h⟩
    · obtain ⟨cA, h⟩ := ao_of (va_AO.of (ht _ ar_4))
      exact ⟨cA, fun _ => h⟩
    · obtain ⟨cA, h⟩ := ao_of (va_AO.of (ht _ ar_5))
      exact ⟨cA, fun _ => h⟩
    · obtain ⟨cA, h⟩ := ao_of (va_AO.of (ht _ ar_6))
      exact ⟨cA, fun _ => h⟩
    · exact ⟨cd, fun h => absurd h (by omega)⟩
  obtain ⟨f, hf⟩ := Classical.axiomOfChoice h0
  exact ⟨f, hf⟩
theorem vaK_of {dC : Nat → ClassId} {dI : Nat → Nat → Nat} {dA : Nat → ClassId} (h1 : ∀ (k : Nat) (q : vw_C), clW[k]? = some q → u_Kn s q.1 q.2.1 q.2.2 (dC k) (dI k)) (h2 : ∀ t, t < 7 → ArrOfT s (dA t) (tyA t) ∧ va_RA s (dA t) (tyA t)) : va_K (dC, dI) clW (tysW dA) s := by
  refine ⟨h1, fun k q hq => ?_⟩
  have hk : k < 7 := (List.getElem?_eq_some_iff.mp hq).1
  rw [tysW_at hk] at hq
  have e : q = (dA k, tyA k) := (Option.some.inj hq).symm
  subst e
  exact h2 k hk
/-- the launch's own cells -/
def XA (aX aY : Nat) (adK adV : Nat → Nat) (aS b : Nat) : Nat → Nat := fun x => match x with
  | 0 => aX
  | 1 => aY
  | 2 => adK 0
  | 3 => adK 1
  | 4 => adK 2
  | 5 => adV 0
  | 6 => adV 1
  | 7 => adV 2
  | 8 => aS
  | _ => b
theorem ext_all (ht : ∀ w ∈ lw_tbl, w.before #[Value.ref b] s = true) (hg : (Jvm.Cond.and given_1 narrow_1).before #[Value.ref b] s = true) : ∃ X : Nat → Nat, X 9 = b ∧ Ext s.heap.size X s := by
  have hs : ∀ w ∈ FLC, w.before #[Value.ref b] s = true := flat_of_before _ hg
  have hA : ∀ a : Nat, a < s.heap.size → ¬ Aw s.heap.size a := fun a h => Nat.not_le.mpr h
  obtain ⟨aX, hX1, hX2⟩ := va_Tof (N := 5) (f := fun j => .int (([1, 3, 3, 5, 5] : List Int32).getD j 0)) (A := Aw s.heap.size) (by decide) (hs _ nr_fxa) (va_eqt (hs _ nr_fxl)) (fun j hj => va_eqt (hs _ (List.mem_of_getElem? (nr_fxe j hj)))) hA
  obtain ⟨aY, hY1, hY2⟩ := va_Tof (N := 5) (f := fun j => .int (([4, 2, 6, 3, 5] : List Int32).getD j 0)) (A := Aw s.heap.size) (by decide) (hs _ nr_fya) (va_eqt (hs _ nr_fyl)) (fun j hj => va_eqt (hs _ (List.mem_of_getElem? (nr_fye j hj)))) hA
  obtain ⟨aS, hS⟩ : ∃ aS : Nat, va_Z "jdk/internal/util/Preconditions" "SIOOBE_FORMATTER" "Ljava/util/function/BiFunction;" .null (Aw s.heap.size) s s.heap ∨ va_Z "jdk/internal/util/Preconditions" "SIOOBE_FORMATTER" "Ljava/util/function/BiFunction;" (.ref aS) (Aw s.heap.size) s s.heap := by
    rcases va_Zqof (A := Aw s.heap.size) (ht _ ls_sf) (ht _ it_sf) (hs _ nr_sf) hA with h | ⟨t, h⟩
    · exact ⟨0, Or.inl h⟩
    · exact ⟨t, Or.inr h⟩
  obtain ⟨adK, adV, hV, hR⟩ := vk_Sof (N := 3) (tm := tmS) (len := txLen) (byt := txByt) (A := Aw s.heap.size)
    (fun i hi => by rcases (show i = 0 ∨ i = 1 ∨ i = 2 by omega) with rfl | rfl | rfl <;> decide)
    (fun i hi => by
      rcases (show i = 0 ∨ i = 1 ∨ i = 2 by omega) with rfl | rfl | rfl
      · exact hs _ nr_x0
      · exact hs _ nr_x1
      · exact hs _ nr_x2)
    (fun i hi => by
      rcases (show i = 0 ∨ i = 1 ∨ i = 2 by omega) with rfl | rfl | rfl
      · exact hs _ nr_c0
      · exact hs _ nr_c1
      · exact hs _ nr_c2)
    (fun i hi => by
      rcases (show i = 0 ∨ i = 1 ∨ i = 2 by omega) with rfl | rfl | rfl
      · exact hs _ nr_a0
      · exact hs _ nr_a1
      · exact hs _ nr_a2)
    (fun i hi => by
      rcases (show i = 0 ∨ i = 1 ∨ i = 2 by omega) with rfl | rfl | rfl
      · exact hs _ nr_l0
      · exact hs _ nr_l1
      · exact hs _ nr_l2)
    (fun i hi j hj => by
      rcases (show i = 0 ∨ i = 1 ∨ i = 2 by omega) with rfl | rfl | rfl
      · exact hs _ (List.mem_of_getElem? (nr_e0 j hj))
      · exact hs _ (List.mem_of_getElem? (nr_e1 j hj))
      · exact hs _ (List.mem_of_getElem? (nr_e2 j hj)))
    (fun i j hi hj hij => by
      rcases (show i = 0 ∨ i = 1 ∨ i = 2 by omega) with rfl | rfl | rfl <;> rcases (show j = 0 ∨ j = 1 ∨ j = 2 by omega) with rfl | rfl | rfl
      · exact absurd rfl hij
      · exact Or.inl (hs _ nr_01)
      · exact Or.inl (hs _ nr_02)
      · exact Or.inr (hs _ nr_01)
      · exact absurd rfl hij
      · exact Or.inl (hs _ nr_12)
      · exact Or.inr (hs _ nr_02)
      · exact Or.inr (hs _ nr_12)
      · exact absurd rfl hij)
    hA
  refine ⟨XA aX aY adK adV aS b, rfl, fun w hw hn => ?_, ⟨va_AO.of (ht _ ar_3), va_AO.of (ht _ ar_4), va_AO.of (ht _ ar_5), va_AO.of (ht _ ar_6)⟩, ⟨va_Zof (ht _ ls_fx) (ht _ it_fx) hX1 hA, hX2, va_Zof (ht _ ls_fy) (ht _ it_fx) hY1 hA, hY2⟩, va_Zof (ht _ ls_cs) (ht _ it_cs) (va_eqt (hs _ nr_cs)) hA, hS, ⟨fun i hi => ?_, fun i j hi hj he => ?_⟩, vk_R.of (ht _ sr_47) (hR 0 (by decide)), vk_R.of (ht _ sr_53) (hR 1 (by decide)), vk_R.of (ht _ sr_147) (hR 2 (by decide))⟩
  · have h2 := ht w hw
    cases w <;> first | exact va_Nw.of rfl h2 | (exact absurd hn (by intro q; cases q))
  · rcases (show i = 0 ∨ i = 1 ∨ i = 2 by omega) with rfl | rfl | rfl
    · exact hV.1 0 hi
    · exact hV.1 1 hi
    · exact hV.1 2 hi
  · rcases (show i = 0 ∨ i = 1 ∨ i = 2 by omega) with rfl | rfl | rfl <;> rcases (show j = 0 ∨ j = 1 ∨ j = 2 by omega) with rfl | rfl | rfl
    all_goals first | rfl | exact hV.2 _ _ hi hj he
end LWD
