/-! ===== the model's words ===== -/
theorem setI_2 {M : Mem} {a j : Nat} {v w : Int32} : setI (setI M a j v) a j w = setI M a j w := by
  refine Prod.ext ?_ rfl
  funext x i
  unfold setI
  dsimp only
  by_cases q : x = a ∧ i = j
  · rw [if_pos q, if_pos q]
  · rw [if_neg q, if_neg q, if_neg q]
theorem setJ_2 {M : Mem} {a j : Nat} {v w : Int64} : setJ (setJ M a j v) a j w = setJ M a j w := by
  refine Prod.ext rfl ?_
  funext x i
  unfold setJ
  dsimp only
  by_cases q : x = a ∧ i = j
  · rw [if_pos q, if_pos q]
  · rw [if_neg q, if_neg q, if_neg q]
theorem setJ_self {M : Mem} {a j : Nat} {v : Int64} (h : M.2 a j = v) : setJ M a j v = M := by
  refine Prod.ext rfl ?_
  funext c i
  unfold setJ
  dsimp only
  by_cases q : c = a ∧ i = j
  · rw [if_pos q, q.1, q.2]; exact h.symm
  · rw [if_neg q]
theorem setI_x {M : Mem} {a j k : Nat} {v w : Int32} (h : j ≠ k) : setI (setI M a j v) a k w = setI (setI M a k w) a j v := by
  refine Prod.ext ?_ rfl
  funext x i
  unfold setI
  dsimp only
  by_cases q : x = a ∧ i = k
  · rw [if_pos q, if_neg (fun r => h (r.2.symm.trans q.2)), if_pos q]
  · rw [if_neg q]
    by_cases q2 : x = a ∧ i = j
    · rw [if_pos q2, if_pos q2]
    · rw [if_neg q2, if_neg q2, if_neg q]
def TapeM (B : Mem) (T : Nat → Nat) (n : Nat) : Prop := B.1 242 1 = nI n ∧ n ≤ 800 ∧ ∀ i, i < n → B.1 243 i = nI (T i) ∧ T i < 256
def FrH (B B' : Mem) : Prop := (∀ d, d ≠ 242 → B'.1 d = B.1 d) ∧ (∀ j, j ≠ 3 → j ≠ 4 → j ≠ 5 → j ≠ 6 → B'.1 242 j = B.1 242 j) ∧ (∀ d, d ≠ 242 → B'.2 d = B.2 d) ∧ (∀ j, j ≠ 7 → B'.2 242 j = B.2 242 j)
theorem FrH.rf {B : Mem} : FrH B B := ⟨fun _ _ => rfl, fun _ _ _ _ _ => rfl, fun _ _ => rfl, fun _ _ => rfl⟩
theorem FrH.tr {B B1 B' : Mem} (h : FrH B B1) (g : FrH B1 B') : FrH B B' := ⟨fun d p => (g.1 d p).trans (h.1 d p), fun j p1 p2 p3 p4 => (g.2.1 j p1 p2 p3 p4).trans (h.2.1 j p1 p2 p3 p4), fun d p => (g.2.2.1 d p).trans (h.2.2.1 d p), fun j p => (g.2.2.2 j p).trans (h.2.2.2 j p)⟩
theorem FrH.i {B : Mem} {j : Nat} {v : Int32} (h : j = 3 ∨ j = 4 ∨ j = 5 ∨ j = 6) : FrH B (setI B 242 j v) := ⟨fun d p => fI p, fun k p1 p2 p3 p4 => gI (Or.inr (by omega)), fun _ _ => rfl, fun _ _ => rfl⟩
theorem FrH.j {B : Mem} {v : Int64} : FrH B (setJ B 242 7 v) := ⟨fun _ _ => rfl, fun _ _ _ _ _ => rfl, fun d p => fJ p, fun k p => gJ (Or.inr p)⟩
theorem TapeM.h {B B' : Mem} {T : Nat → Nat} {n : Nat} (h : TapeM B T n) (g : FrH B B') : TapeM B' T n := ⟨by rw [g.2.1 1 (by decide) (by decide) (by decide) (by decide)]; exact h.1, h.2.1, fun i hi => by rw [g.1 243 (by decide)]; exact h.2.2 i hi⟩
theorem at_M {B : Mem} {T : Nat → Nat} {n p mA : Nat} (h : TapeM B T n) (hp : p < n) : R_X11_at (nI p) mA B = some (nI (T p)) := by
  have h1 := h.2.1
  unfold R_X11_at
  rw [h.1, if_neg (nI_ge hp (by omega)), ck_nI (by omega) (by omega), nI_clamp (by omega), (h.2.2 p hp).1]
  rfl
theorem at_E {B : Mem} {T : Nat → Nat} {n mA : Nat} (h : TapeM B T n) : R_X11_at (nI n) mA B = some (-1) := by
  have h1 := h.2.1
  unfold R_X11_at
  rw [h.1, if_pos (nI_le (Nat.le_refl _) (by omega))]
  rfl
theorem isL_M {c : Nat} {A : Mem} (hc : c < 256) : V_X11_isLetter (nI c) A = if isL c = true then 1 else 0 := isL_C (A := A) hc
theorem isF_M {c : Nat} {A : Mem} (hc : c < 256) : V_X11_isFigure (nI c) A = if isF c = true then 1 else 0 := isF_C (A := A) hc
theorem isS_M {c : Nat} {A : Mem} (hc : c < 256) : V_X11_isSign (nI c) A = if sgK c = 36 then 0 else 1 := by
  have key : ∀ c, c < 256 → (if nI c = (123 : Int32) then (1 : Int32) else (if nI c = (125 : Int32) then (1 : Int32) else (if nI c = (60 : Int32) then (1 : Int32) else (if nI c = (61 : Int32) then (1 : Int32) else (if nI c = (62 : Int32) then (1 : Int32) else (if nI c = (43 : Int32) then (1 : Int32) else (if nI c = (45 : Int32) then (1 : Int32) else (if nI c = (42 : Int32) then (1 : Int32) else (if nI c = (59 : Int32) then (1 : Int32) else (0 : Int32))))))))))  = if sgK c = 36 then 0 else 1 := by decide +kernel
  exact key c hc
theorem isL_m1 {A : Mem} : V_X11_isLetter (-1) A = 0 := rfl
theorem isF_m1 {A : Mem} : V_X11_isFigure (-1) A = 0 := rfl
theorem blank_M {T : Nat → Nat} {n mA : Nat} : ∀ (k p f : Nat) (B : Mem), TapeM B T n → B.1 242 4 = nI p → p + k = n → k < f → L_X11_word_0 mA f B = some (setI B 242 4 (nI (upto isB T k p))) := by
  intro k
  induction k with
  | zero =>
    intro p f B hT h4 hp hf
    obtain ⟨f, rfl⟩ : ∃ m, f = m + 1 := ⟨f - 1, by omega⟩
    have hp' : p = n := by omega
    subst hp'
    rw [L_X11_word_0, h4, bnd1_e (at_E hT), if_neg (by decide), bnd1_e (at_E hT), if_neg (by decide), upto, setI_self h4]
  | succ k ih =>
    intro p f B hT h4 hp hf
    obtain ⟨f, rfl⟩ : ∃ m, f = m + 1 := ⟨f - 1, by omega⟩
    obtain ⟨_, hc⟩ := hT.2.2 p (by omega)
    have e := at_M (mA := mA) hT (show p < n by omega)
    rw [L_X11_word_0, h4, bnd1_e e, bnd1_e e, nI_1, upto]
    have go : L_X11_word_0 mA f (setI B 242 4 (nI (p + 1))) = some (setI B 242 4 (nI (upto isB T k (p + 1)))) := by
      rw [ih (p + 1) f _ (hT.h (FrH.i (by omega))) gs_eI (by omega) (by omega), setI_2]
    rw [go]
    by_cases c1 : T p = 32
    · rw [if_pos (show nI (T p) = (32 : Int32) by rw [c1]; rfl), if_pos (show isB (T p) = true from decide_eq_true (Or.inl c1))]
    · rw [if_neg (nI_ne (y := 32) (b := 32) rfl c1 (by omega) (by decide))]
      by_cases c2 : T p = 10
      · rw [if_pos (show nI (T p) = (10 : Int32) by rw [c2]; rfl), if_pos (show isB (T p) = true from decide_eq_true (Or.inr c2))]
      · rw [if_neg (nI_ne (y := 10) (b := 10) rfl c2 (by omega) (by decide)), if_neg (show ¬ isB (T p) = true from fun q => (of_decide_eq_true q).elim c1 c2), setI_self h4]
theorem letters_M {T : Nat → Nat} {n mA p0 : Nat} : ∀ (k x f a : Nat) (B : Mem), TapeM B T n → B.1 242 3 = nI p0 → B.1 242 4 = nI x → p0 ≤ x → x + k = n → k < f → (x - p0 ≤ 12 → B.2 242 7 = Int64.ofNat a) →
    ∃ c, L_X11_letters_0 mA f B = some (setJ (setI B 242 4 (nI (upto isL T k x))) 242 7 c) ∧ (upto isL T k x - p0 ≤ 12 → c = Int64.ofNat ((lets T x (upto isL T k x)).foldl (fun a d => a * 27 + d) a)) := by
  intro k
  induction k with
  | zero =>
    intro x f a B hT h3 h4 hp hx hf ha
    obtain ⟨f, rfl⟩ : ∃ m, f = m + 1 := ⟨f - 1, by omega⟩
    have hx' : x = n := by omega
    subst hx'
    refine ⟨B.2 242 7, ?_, fun h => ?_⟩
    · rw [L_X11_letters_0, h4, bnd1_e (at_E hT), isL_m1, if_pos rfl, upto, setI_self h4, setJ_self rfl]
    · rw [upto] at h ⊢; rw [lets_n]; exact ha h
  | succ k ih =>
    intro x f a B hT h3 h4 hp hx hf ha
    obtain ⟨f, rfl⟩ : ∃ m, f = m + 1 := ⟨f - 1, by omega⟩
    obtain ⟨_, hc⟩ := hT.2.2 x (by omega)
    have hn := hT.2.1
    have e := at_M (mA := mA) hT (show x < n by omega)
    rw [L_X11_letters_0, h4, bnd1_e e, isL_M hc, upto, h3, pk_sub hp]
    by_cases c : isL (T x) = true
    · have c97 : 97 ≤ T x := (of_decide_eq_true c).1
      have hle := upto_le (P := isL) (T := T) k (x + 1)
      rw [if_pos c, if_neg (show ¬ (1 : Int32) = 0 by decide), if_pos c]
      by_cases c12 : 12 ≤ x - p0
      · rw [if_pos (show (12 : Int32) ≤ nI (x - p0) from nI_le (a := 12) c12 (by omega)), bnd1_s, h4, nI_1]
        have F := FrH.i (B := B) (j := 4) (v := nI (x + 1)) (by omega)
        obtain ⟨c', g1, g2⟩ := ih (x + 1) f 0 (setI B 242 4 (nI (x + 1))) (hT.h F) (by rw [gI (Or.inr (by decide))]; exact h3) gs_eI (by omega) (by omega) (by omega) (fun q => by omega)
        refine ⟨c', by rw [g1, setI_2], fun q => by omega⟩
      · have e1 : (((B.2 242 7) * (27 : Int64)) + (nI (T x)).toInt64) - (96 : Int64) = Int64.ofNat (a * 27 + (T x - 96)) := by
          rw [ha (by omega), nI_l (by omega)]
          show lN a * lN 27 + lN (T x) - lN 96 = lN (a * 27 + (T x - 96))
          rw [lN_mul, lN_add, lN_sub (by omega)]
          congr 1
          omega
        rw [if_neg (show ¬ (12 : Int32) ≤ nI (x - p0) from nI_ge (b := 12) (by omega) (by decide)), bnd1_e e, bnd1_s, e1, sJ1, h4, nI_1]
        have F := (FrH.j (B := B) (v := Int64.ofNat (a * 27 + (T x - 96)))).tr (FrH.i (j := 4) (v := nI (x + 1)) (by omega))
        obtain ⟨c', g1, g2⟩ := ih (x + 1) f (a * 27 + (T x - 96)) (setI (setJ B 242 7 (Int64.ofNat (a * 27 + (T x - 96)))) 242 4 (nI (x + 1))) (hT.h F) (by rw [gI (Or.inr (by decide))]; exact h3) gs_eI (by omega) (by omega) (by omega) (fun q => by rw [sI2, gs_eJ])
        refine ⟨c', ?_, fun q => ?_⟩
        · rw [g1, setI_2]
          show some (setJ (setJ (setI B 242 4 _) 242 7 _) 242 7 c') = _
          rw [setJ_2]
        · rw [lets_c (p := x) (by omega)]
          exact g2 q
    · rw [if_neg c, if_pos (rfl : (0 : Int32) = 0), if_neg c]
      refine ⟨B.2 242 7, by rw [setI_self h4, setJ_self rfl], fun q => ?_⟩
      rw [lets_n]; exact ha q
def VR (a v : Nat) : Prop := a ≤ 1000 ∧ (a ≤ 999 → v = a) ∧ (a = 1000 → 999 < v) ∧ v < 10000
theorem figures_M {T : Nat → Nat} {n mA : Nat} : ∀ (k x f a v : Nat) (B : Mem), TapeM B T n → B.1 242 4 = nI x → x + k = n → k < f → B.1 242 6 = nI v → VR a v →
    ∃ v', L_X11_figures_0 mA f B = some (setI (setI B 242 6 (nI v')) 242 4 (nI (upto isF T k x))) ∧ VR ((List.range (upto isF T k x - x)).foldl (fun a i => cap1 (a * 10 + (T (x + i) - 48))) a) v' := by
  intro k
  induction k with
  | zero =>
    intro x f a v B hT h4 hx hf h6 hv
    obtain ⟨f, rfl⟩ : ∃ m, f = m + 1 := ⟨f - 1, by omega⟩
    have hx' : x = n := by omega
    subst hx'
    refine ⟨v, ?_, ?_⟩
    · rw [L_X11_figures_0, h4, bnd1_e (at_E hT), isF_m1, if_pos rfl, upto, setI_self h6, setI_self h4]
    · rw [upto, Nat.sub_self]; exact hv
  | succ k ih =>
    intro x f a v B hT h4 hx hf h6 hv
    obtain ⟨f, rfl⟩ : ∃ m, f = m + 1 := ⟨f - 1, by omega⟩
    obtain ⟨_, hc⟩ := hT.2.2 x (by omega)
    have hn := hT.2.1
    have e := at_M (mA := mA) hT (show x < n by omega)
    obtain ⟨v1, v2, v3, v4⟩ := hv
    rw [L_X11_figures_0, h4, bnd1_e e, isF_M hc, upto]
    by_cases c : isF (T x) = true
    · have c48 : 48 ≤ T x ∧ T x ≤ 57 := of_decide_eq_true c
      have hle := upto_le (P := isF) (T := T) k (x + 1)
      rw [if_pos c, if_neg (show ¬ (1 : Int32) = 0 by decide), if_pos c, h6]
      have step : ∀ v', VR (cap1 (a * 10 + (T x - 48))) v' → ∃ w, L_X11_figures_0 mA f (setI (setI B 242 6 (nI v')) 242 4 (nI (x + 1))) = some (setI (setI B 242 6 (nI w)) 242 4 (nI (upto isF T k (x + 1)))) ∧ VR ((List.range (upto isF T k (x + 1) - x)).foldl (fun a i => cap1 (a * 10 + (T (x + i) - 48))) a) w := by
        intro v' hv'
        have F := (FrH.i (B := B) (j := 6) (v := nI v') (by omega)).tr (FrH.i (j := 4) (v := nI (x + 1)) (by omega))
        obtain ⟨w, g1, g2⟩ := ih (x + 1) f _ v' _ (hT.h F) gs_eI (by omega) (by omega) (by rw [gI (Or.inr (by decide)), gs_eI]) hv'
        refine ⟨w, ?_, by rw [nums_c (p := x) (by omega)]; exact g2⟩
        rw [g1, setI_x (j := 4) (k := 6) (by decide), setI_2, setI_2]
      by_cases c9 : a ≤ 999
      · have ev := v2 c9
        subst ev
        have e1 : (((10 : Int32) * nI v) + nI (T x)) - (48 : Int32) = nI (v * 10 + (T x - 48)) := by
          rw [show (10 : Int32) = nI 10 from rfl, pk_mul, nI_add, show (48 : Int32) = nI 48 from rfl, pk_sub (by omega)]
          congr 1
          omega
        rw [if_pos (show nI v ≤ (999 : Int32) from nI_le (b := 999) c9 (by decide)), bnd1_e e, bnd1_s, e1, nI_1]
        refine step _ ⟨cap1_le, fun h => ?_, fun h => ?_, by omega⟩
        · unfold cap1 at h ⊢
          split
          · rfl
          · rename_i q; rw [if_neg q] at h; omega
        · unfold cap1 at h
          split at h <;> omega
      · have h1000 := v3 (by omega)
        rw [if_neg (show ¬ nI v ≤ (999 : Int32) from nI_ge (a := 999) h1000 (by omega)), bnd1_s, nI_1]
        have ec : cap1 (a * 10 + (T x - 48)) = 1000 := by unfold cap1; rw [if_neg (by omega)]
        exact step v ⟨cap1_le, fun h => by omega, fun _ => h1000, v4⟩
    · rw [if_neg c, if_pos (rfl : (0 : Int32) = 0), if_neg c]
      exact ⟨v, by rw [setI_self h6, setI_self h4], by rw [Nat.sub_self]; exact ⟨v1, v2, v3, v4⟩⟩
