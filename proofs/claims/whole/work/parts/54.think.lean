/-! ===== a robot thinks ===== -/
theorem cut3_0 : cut3 0 = 0 := by decide
theorem trF_0 {r : Nat} : trF r 0 = 0 := by unfold trF; split <;> rfl
theorem trn_0 {w : Int32} : trn w 0 = 0 := by unfold trn; split <;> rfl
theorem trn_trF {r : Nat} {x : Int32} : trn (if r < 5 then 0 else 1) x = trF r x := by
  unfold trn trF
  by_cases c : r < 5
  · rw [if_pos c, if_pos c, if_pos rfl]
  · rw [if_neg c, if_neg c, if_neg n10]
theorem cut3_sg {x : Int32} : sg3 (cut3 x) := by
  have nlt : ∀ {x y : Int32}, x < y ↔ x.toInt < y.toInt := fun {x y} => Int32.lt_iff_toInt_lt
  have t0 : (0 : Int32).toInt = 0 := rfl
  have t1 : (1 : Int32).toInt = 1 := rfl
  have tm : (-1 : Int32).toInt = -1 := rfl
  unfold cut3 sg3
  by_cases c1 : x < 1
  · rw [if_pos c1]
    by_cases c2 : (-1 : Int32) < x
    · rw [if_pos c2]
      right; left
      exact Int32.toInt_inj.mp (by rw [nlt, t1] at c1; rw [nlt, tm] at c2; rw [t0]; omega)
    · rw [if_neg c2]; exact Or.inl rfl
  · rw [if_neg c1, if_pos (by decide)]; exact Or.inr (Or.inr rfl)
theorem trF_sg {r : Nat} {x : Int32} (h : sg3 x) : sg3 (trF r x) := by
  unfold trF
  split
  · exact h
  · exact sg3_neg h
theorem cut9_in {x : Int32} : ∃ p : Nat, p < 10 ∧ cut9 x = nI p := by
  have nlt : ∀ {x y : Int32}, x < y ↔ x.toInt < y.toInt := fun {x y} => Int32.lt_iff_toInt_lt
  have t1 : (1 : Int32).toInt = 1 := rfl
  have t9 : (9 : Int32).toInt = 9 := rfl
  unfold cut9
  by_cases c1 : x < 9
  · rw [if_pos c1]
    by_cases c2 : (1 : Int32) < x
    · rw [if_pos c2]
      rw [nlt, t9] at c1
      rw [nlt, t1] at c2
      refine ⟨x.toInt.toNat, by omega, ?_⟩
      apply Int32.toInt_inj.mp
      rw [nI_toInt (by omega)]
      omega
    · rw [if_neg c2]; exact ⟨1, by decide, rfl⟩
  · rw [if_neg c1, if_pos (by decide)]; exact ⟨9, by decide, rfl⟩
/-- what a robot begins with in a tick -/
theorem begin_TK {b mA t r : Nat} {SV : Nat → Nat → Prop} {A0 B0 A B : Mem} (hm : mA = 259 ∨ mA = 260) (hr : r < 10) (hK : TK b mA t SV A0 B0 A B) : TK b mA t SV A0 B0 (decC (b + 10 + 2 * r) 0 0 0 0 A) (goesM mA r 0 0 0 0 (setI B 242 33 (nI r))) ∧ CW b (decC (b + 10 + 2 * r) 0 0 0 0 A) (goesM mA r 0 0 0 0 (setI B 242 33 (nI r))) ((goesM mA r 0 0 0 0 (setI B 242 33 (nI r))).1 mA) r := by
  have dD : ∀ d, d ≠ b + 10 + 2 * r → (decC (b + 10 + 2 * r) 0 0 0 0 A).1 d = A.1 d := fun d hd => decC_f hd
  have dR : ∀ j, j < 14 → (decC (b + 10 + 2 * r) 0 0 0 0 A).1 (b + 10 + 2 * r) j = A.1 (b + 10 + 2 * r) j := fun j hj => by
    unfold decC; simp (disch := omega) only [gI]
  have gD : ∀ d, d ≠ mA → d ≠ 242 → d ≠ 262 → d ≠ 263 → d ≠ 264 → (goesM mA r 0 0 0 0 (setI B 242 33 (nI r))).1 d = B.1 d := fun d p1 p2 p3 p4 p5 => by
    unfold goesM; simp (disch := omega) only [fI]
  have gR : ∀ k, k ≠ 44 + 16 * r + 10 → (goesM mA r 0 0 0 0 (setI B 242 33 (nI r))).1 mA k = B.1 mA k := fun k hk => by
    unfold goesM; simp (disch := omega) only [gI]
  have gS : ∀ j, j ≠ 33 → (goesM mA r 0 0 0 0 (setI B 242 33 (nI r))).1 242 j = B.1 242 j := fun j hj => by
    unfold goesM; simp (disch := omega) only [gI]
  have g10 : (goesM mA r 0 0 0 0 (setI B 242 33 (nI r))).1 mA (44 + 16 * r + 10) = 0 := (goesCM hm (Or.inl rfl)).1
  have g262 : (goesM mA r 0 0 0 0 (setI B 242 33 (nI r))).1 262 r = 0 := (goesCM hm (Or.inl rfl)).2.1.trans (by rw [cut3_0, trF_0])
  have g263 : (goesM mA r 0 0 0 0 (setI B 242 33 (nI r))).1 263 r = 0 := (goesCM hm (Or.inl rfl)).2.2.1.trans (by rw [cut3_0, trF_0])
  obtain ⟨c14, c15, c16, _⟩ := decC_x (x3 := b + 10 + 2 * r) (k := 0) (x := 0) (y := 0) (p := 0) (M := A)
  rw [trn_0] at c15 c16
  obtain ⟨_, _, hPR, hPI, _, _, _⟩ := hK.2.2.2.2.2.2.1 r hr
  refine ⟨robot_TK hm hr hK rfl (fun d _ _ p3 _ _ => dD d p3) (fun j h _ _ => dR j h) (fun j _ => by rw [dD _ (by omega)]) rfl gD (fun j h _ => gS j (by omega)) (fun k _ _ _ _ h => gR k h) ?_ ?_ (fun i hi => ?_) ?_ ?_ ?_ ?_, ?_⟩
  · rw [dR 7 (by decide), gR _ (by omega)]; exact hPR.1
  · rw [dR 8 (by decide), gR _ (by omega)]; exact hPR.2.1
  · rw [dD _ (by omega), gR _ (by omega)]; exact hPR.2.2.1 i hi
  · rw [c14, g10]
  · rw [dD _ (by omega), gR _ (by omega)]
    obtain ⟨_, _, _, _, _, _, _, _, q, _⟩ := hK.2.2.2.2.1
    exact q
  · rw [gR _ (by omega), gR _ (by omega)]; exact hPI.1
  · rw [gR _ (by omega)]; exact hPI.2.1
  · refine ⟨by rw [c15, g262], by rw [c16, g263], by rw [g262]; exact Or.inr (Or.inl rfl), by rw [g263]; exact Or.inr (Or.inl rfl), Or.inl g10⟩
