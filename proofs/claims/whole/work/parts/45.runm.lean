/-! ===== the model's words hold a program; the model works out terms and sums ===== -/
def TermM (W V : Nat → Int32) (h : Nat) (t : Tm) (h' : Nat) : Prop := ∃ k, k ≤ 6 ∧ (∀ i, i < k → W (h + i) = 45) ∧ t.2.1 = (if k % 2 = 0 then 1 else -1) ∧
  ((t.2.2.1 = 0 ∧ W (h + k) = 2 ∧ V (h + k) = t.2.2.2 ∧ h' = h + k + 1) ∨
   (t.2.2.1 = 1 ∧ W (h + k) = 3 ∧ V (h + k) = t.2.2.2 ∧ (∃ j : Nat, j < 4 ∧ t.2.2.2 = nI j) ∧ h' = h + k + 1) ∨
   (t.2.2.1 = 2 ∧ W (h + k) = 4 ∧ (∃ j : Nat, j < 8 ∧ t.2.2.2 = nI j ∧ V (h + k) = nI j) ∧ h' = h + k + 1) ∨
   (t.2.2.1 = 2 ∧ W (h + k) = 5 ∧ (∃ w j : Nat, w < 4 ∧ j < 5 ∧ V (h + k) = nI w ∧ V (h + k + 1) = nI j ∧ t.2.2.2 = nI (8 + 5 * w + j)) ∧ W (h + k + 1) = 2 ∧ h' = h + k + 2))
def opW (j : Int32) : Int32 := if j = 32 then 43 else if j = 33 then 45 else 42
def TailM (W V : Nat → Int32) : Sm → Nat → Nat → Prop
  | [], h, h' => h = h' ∧ ¬ W h = 43 ∧ ¬ W h = 45 ∧ ¬ W h = 42
  | t :: ts, h, h' => (t.1 = 32 ∨ t.1 = 33 ∨ t.1 = 34) ∧ W h = opW t.1 ∧ ∃ h1, TermM W V (h + 1) t h1 ∧ TailM W V ts h1 h'
def SumM (W V : Nat → Int32) (sm : Sm) (h h' : Nat) : Prop := ∃ t ts h1, sm = t :: ts ∧ t.1 = 32 ∧ TermM W V h t h1 ∧ TailM W V ts h1 h'
theorem TermM.lt {W V : Nat → Int32} {h h' : Nat} {t : Tm} (H : TermM W V h t h') : h < h' := by
  obtain ⟨k, _, _, _, h4⟩ := H
  rcases h4 with ⟨_, _, _, e⟩ | ⟨_, _, _, _, e⟩ | ⟨_, _, _, e⟩ | ⟨_, _, _, _, e⟩ <;> omega
theorem TailM.le {W V : Nat → Int32} : ∀ (ts : Sm) (h h' : Nat), TailM W V ts h h' → h + ts.length ≤ h' := by
  intro ts
  induction ts with
  | nil => intro h h' H; simp only [TailM] at H; simp only [List.length_nil]; omega
  | cons t ts ih =>
    intro h h' H
    obtain ⟨_, _, h1, H1, H2⟩ := H
    have := ih _ _ H2
    have := H1.lt
    simp only [List.length_cons]; omega
theorem SumM.lt {W V : Nat → Int32} {sm : Sm} {h h' : Nat} (H : SumM W V sm h h') : h + sm.length ≤ h' := by
  obtain ⟨t, ts, h1, rfl, _, H1, H2⟩ := H
  have := H1.lt
  have := TailM.le _ _ _ H2
  simp only [List.length_cons]; omega
/-! the model's place and steps -/
def mst (B : Mem) (h c : Nat) : Mem := setI (setI (setI B 242 35 (nI h)) 242 36 (nI (if c ≤ 80 then c else 80))) 242 37 (if c ≤ 80 then 0 else 1)
theorem mst_d {B : Mem} {h c d : Nat} (hd : d ≠ 242) : (mst B h c).1 d = B.1 d := by unfold mst; rw [fI hd, fI hd, fI hd]
theorem mst_j {B : Mem} {h c j : Nat} (hj : j ≠ 35 ∧ j ≠ 36 ∧ j ≠ 37) : (mst B h c).1 242 j = B.1 242 j := by unfold mst; simp (disch := omega) only [gI]
theorem mst_35 {B : Mem} {h c : Nat} : (mst B h c).1 242 35 = nI h := by unfold mst; simp (disch := omega) only [gI, gs_eI]
theorem mst_36 {B : Mem} {h c : Nat} : (mst B h c).1 242 36 = nI (if c ≤ 80 then c else 80) := by unfold mst; simp (disch := omega) only [gI, gs_eI]
theorem mst_37 {B : Mem} {h c : Nat} : (mst B h c).1 242 37 = (if c ≤ 80 then 0 else 1) := by unfold mst; rw [gs_eI]
theorem mem_ext {M N : Mem} (h1 : ∀ a j, M.1 a j = N.1 a j) (h2 : M.2 = N.2) : M = N := Prod.ext (funext fun a => funext fun j => h1 a j) h2
theorem mst_s35 {B : Mem} {h c k : Nat} {v : Int32} (hv : v = nI k) : setI (mst B h c) 242 35 v = mst B k c := by
  subst hv
  refine mem_ext (fun a j => ?_) rfl
  by_cases q : a = 242 ∧ j = 35
  · rw [q.1, q.2, gs_eI, mst_35]
  · rw [gI (by omega)]
    by_cases e : a = 242
    · subst e
      by_cases e2 : j = 36
      · subst e2; rw [mst_36, mst_36]
      · by_cases e3 : j = 37
        · subst e3; rw [mst_37, mst_37]
        · rw [mst_j (by omega), mst_j (by omega)]
    · rw [mst_d e, mst_d e]
theorem mst_inc {B : Mem} {h c : Nat} : setI (mst B h c) 242 35 ((mst B h c).1 242 35 + (1 : Int32)) = mst B (h + 1) c := mst_s35 (by rw [mst_35, nI_1])
theorem mst_step {B : Mem} {h c : Nat} : U_X11_step (mst B h c) = mst B h (c + 1) := by
  unfold U_X11_step
  dsimp only
  rw [mst_36]
  by_cases h1 : c ≤ 80
  · rw [if_pos h1]
    by_cases h2 : c = 80
    · rw [if_pos (show nI c = (80 : Int32) by rw [h2]; rfl)]
      refine mem_ext (fun a j => ?_) rfl
      by_cases q : a = 242 ∧ j = 37
      · rw [q.1, q.2, gs_eI, mst_37, if_neg (by omega)]
      · rw [gI (by omega)]
        by_cases e : a = 242
        · subst e
          by_cases e2 : j = 36
          · subst e2; rw [mst_36, mst_36, if_pos h1, if_neg (by omega), h2]
          · by_cases e3 : j = 35
            · subst e3; rw [mst_35, mst_35]
            · rw [mst_j (by omega), mst_j (by omega)]
        · rw [mst_d e, mst_d e]
    · rw [if_neg (show ¬ nI c = (80 : Int32) from fun q => h2 ((nI_eq (a := c) (b := 80) (by omega) (by decide)).mp q)), nI_1]
      refine mem_ext (fun a j => ?_) rfl
      by_cases q : a = 242 ∧ j = 36
      · rw [q.1, q.2, gs_eI, mst_36, if_pos (by omega)]
      · rw [gI (by omega)]
        by_cases e : a = 242
        · subst e
          by_cases e2 : j = 37
          · subst e2; rw [mst_37, mst_37, if_pos h1, if_pos (by omega)]
          · by_cases e3 : j = 35
            · subst e3; rw [mst_35, mst_35]
            · rw [mst_j (by omega), mst_j (by omega)]
        · rw [mst_d e, mst_d e]
  · rw [if_neg h1, if_pos (show nI 80 = (80 : Int32) from rfl)]
    refine mem_ext (fun a j => ?_) rfl
    by_cases q : a = 242 ∧ j = 37
    · rw [q.1, q.2, gs_eI, mst_37, if_neg (by omega)]
    · rw [gI (by omega)]
      by_cases e : a = 242
      · subst e
        by_cases e2 : j = 36
        · subst e2; rw [mst_36, mst_36, if_neg h1, if_neg (by omega)]
        · by_cases e3 : j = 35
          · subst e3; rw [mst_35, mst_35]
          · rw [mst_j (by omega), mst_j (by omega)]
      · rw [mst_d e, mst_d e]
/-- what a run of robot r over program q takes as given of the model's memory -/
def MB (B : Mem) (q r : Nat) : Prop := q < 6 ∧ r < 10 ∧ B.1 242 34 = nI (800 * q) ∧ B.1 242 33 = nI r
theorem here_eq {B : Mem} {q r mA h c : Nat} (hB : MB B q r) (hh : h < 800) : R_X11_here mA (mst B h c) = some (B.1 244 (800 * q + h)) := by
  obtain ⟨h1, _, h2, _⟩ := hB
  unfold R_X11_here
  rw [mst_j (by omega), mst_35, h2, nI_add, ck_nI (by omega) (by omega), nI_clamp (by omega), mst_d (by decide)]
/-! what robot r senses, by the model's row -/
def hldF (ρ : Nat → Int32) (r : Nat) : Int32 := if 0 ≤ ρ 16 then (if ρ 16 = nI r then (2 : Int32) else (if ρ 16 / (5 : Int32) = nI r / (5 : Int32) then (1 : Int32) else (-1 : Int32))) else (0 : Int32)
def senF (ρ : Nat → Int32) (r k : Nat) : Int32 :=
  if k = 0 then tX r (ρ (44 + 16 * r + 8)) else if k = 1 then tY r (ρ (44 + 16 * r + 9)) else if k = 2 then tX r (ρ (44 + 16 * r)) else if k = 3 then tY r (ρ (44 + 16 * r + 1)) else if k = 4 then hldF ρ r else if k = 5 then ρ 3 else if k = 6 then (if r < 5 then ρ 4 - ρ 5 else ρ 5 - ρ 4) else if k = 7 then V_X10_distance (ρ (44 + 16 * r)) (ρ (44 + 16 * r + 1)) (ρ (44 + 16 * r + 8)) (ρ (44 + 16 * r + 9)) ((fun _ _ => 0), (fun _ _ => 0))
  else if (k - 8) / 5 % 2 = 0 then tX r (ρ (44 + 16 * (5 * (if (k - 8) / 5 < 2 then r / 5 else 1 - r / 5) + (k - 8) % 5))) else tY r (ρ (44 + 16 * (5 * (if (k - 8) / 5 < 2 then r / 5 else 1 - r / 5) + (k - 8) % 5) + 1))
theorem seenM {r : Nat} {v : Int32} {M : Mem} (hr : r < 10) (h : M.1 242 33 = nI r) : V_X11_seenX v M = tX r v ∧ V_X11_seenY v M = tY r v := by
  unfold V_X11_seenX V_X11_seenY tX tY
  dsimp only
  rw [h]
  by_cases c : r < 5
  · rw [if_pos c, if_pos c, if_neg (nleL (y := 5) 5 c rfl (by decide)), if_neg (nleL (y := 5) 5 c rfl (by decide))]; exact ⟨rfl, rfl⟩
  · rw [if_neg c, if_neg c, if_pos (leL (y := 5) 5 (by omega) rfl (by omega)), if_pos (leL (y := 5) 5 (by omega) rfl (by omega))]; exact ⟨rfl, rfl⟩
theorem senF_k {ρ : Nat → Int32} {r : Nat} : senF ρ r 0 = tX r (ρ (44 + 16 * r + 8)) ∧ senF ρ r 1 = tY r (ρ (44 + 16 * r + 9)) ∧ senF ρ r 2 = tX r (ρ (44 + 16 * r)) ∧ senF ρ r 3 = tY r (ρ (44 + 16 * r + 1)) ∧ senF ρ r 4 = hldF ρ r ∧ senF ρ r 5 = ρ 3 ∧ senF ρ r 6 = (if r < 5 then ρ 4 - ρ 5 else ρ 5 - ρ 4) ∧ senF ρ r 7 = V_X10_distance (ρ (44 + 16 * r)) (ρ (44 + 16 * r + 1)) (ρ (44 + 16 * r + 8)) (ρ (44 + 16 * r + 9)) ((fun _ _ => 0), (fun _ _ => 0)) := by
  refine ⟨?_, ?_, ?_, ?_, ?_, ?_, ?_, ?_⟩ <;> unfold senF
  · rw [if_pos (by decide)]
  · rw [if_neg (show ¬ (1 : Nat) = 0 by decide), if_pos (by decide)]
  · rw [if_neg (show ¬ (2 : Nat) = 0 by decide), if_neg (show ¬ (2 : Nat) = 1 by decide), if_pos (by decide)]
  · rw [if_neg (show ¬ (3 : Nat) = 0 by decide), if_neg (show ¬ (3 : Nat) = 1 by decide), if_neg (show ¬ (3 : Nat) = 2 by decide), if_pos (by decide)]
  · rw [if_neg (show ¬ (4 : Nat) = 0 by decide), if_neg (show ¬ (4 : Nat) = 1 by decide), if_neg (show ¬ (4 : Nat) = 2 by decide), if_neg (show ¬ (4 : Nat) = 3 by decide), if_pos (by decide)]
  · rw [if_neg (show ¬ (5 : Nat) = 0 by decide), if_neg (show ¬ (5 : Nat) = 1 by decide), if_neg (show ¬ (5 : Nat) = 2 by decide), if_neg (show ¬ (5 : Nat) = 3 by decide), if_neg (show ¬ (5 : Nat) = 4 by decide), if_pos (by decide)]
  · rw [if_neg (show ¬ (6 : Nat) = 0 by decide), if_neg (show ¬ (6 : Nat) = 1 by decide), if_neg (show ¬ (6 : Nat) = 2 by decide), if_neg (show ¬ (6 : Nat) = 3 by decide), if_neg (show ¬ (6 : Nat) = 4 by decide), if_neg (show ¬ (6 : Nat) = 5 by decide), if_pos (by decide)]
  · rw [if_neg (show ¬ (7 : Nat) = 0 by decide), if_neg (show ¬ (7 : Nat) = 1 by decide), if_neg (show ¬ (7 : Nat) = 2 by decide), if_neg (show ¬ (7 : Nat) = 3 by decide), if_neg (show ¬ (7 : Nat) = 4 by decide), if_neg (show ¬ (7 : Nat) = 5 by decide), if_neg (show ¬ (7 : Nat) = 6 by decide), if_pos (by decide)]
theorem distM {x y a b : Int32} {M N : Mem} : V_X11_distance x y a b M = V_X10_distance x y a b N := by unfold V_X11_distance V_X10_distance; with_reducible rfl
theorem sensor_eq {mA r j : Nat} {M : Mem} (hr : r < 10) (h : M.1 242 33 = nI r) (hj : j < 8) : R_X11_sensor (nI j) mA M = some (senF (M.1 mA) r j) := by
  have e5 : nI r / (5 : Int32) = nI (r / 5) := by rw [show (5 : Int32) = nI 5 from rfl, pk_div (by omega) (by decide) (by decide)]
  have o0 := of_eq (r := r) (c := 0) (w := 0) (mA := mA) (M := M) hr (by decide) rfl
  have o1 := of_eq (r := r) (c := 1) (w := 1) (mA := mA) (M := M) hr (by decide) rfl
  have o8 := of_eq (r := r) (c := 8) (w := 8) (mA := mA) (M := M) hr (by decide) rfl
  have o9 := of_eq (r := r) (c := 9) (w := 9) (mA := mA) (M := M) hr (by decide) rfl
  have s := fun v => seenM (v := v) hr h
  rw [Nat.add_zero] at o0
  obtain ⟨k0, k1, k2, k3, k4, k5, k6, k7⟩ := senF_k (ρ := M.1 mA) (r := r)
  unfold R_X11_sensor
  rw [h, bd1_s]
  rcases (show j = 0 ∨ j = 1 ∨ j = 2 ∨ j = 3 ∨ j = 4 ∨ j = 5 ∨ j = 6 ∨ j = 7 by omega) with rfl | rfl | rfl | rfl | rfl | rfl | rfl | rfl
  · rw [if_pos (show nI 0 = 0 from rfl), bnd1_e o8, (s _).1, k0]
  · rw [if_neg (show ¬ nI 1 = 0 by decide), if_pos (show nI 1 = 1 from rfl), bnd1_e o9, (s _).2, k1]
  · rw [if_neg (show ¬ nI 2 = 0 by decide), if_neg (show ¬ nI 2 = 1 by decide), if_pos (show nI 2 = 2 from rfl), bnd1_e o0, (s _).1, k2]
  · rw [if_neg (show ¬ nI 3 = 0 by decide), if_neg (show ¬ nI 3 = 1 by decide), if_neg (show ¬ nI 3 = 2 by decide), if_pos (show nI 3 = 3 from rfl), bnd1_e o1, (s _).2, k3]
  · rw [if_neg (show ¬ nI 4 = 0 by decide), if_neg (show ¬ nI 4 = 1 by decide), if_neg (show ¬ nI 4 = 2 by decide), if_neg (show ¬ nI 4 = 3 by decide), if_pos (show nI 4 = 4 from rfl), k4, bd1_s]
    unfold hldF; with_reducible rfl
  · rw [if_neg (show ¬ nI 5 = 0 by decide), if_neg (show ¬ nI 5 = 1 by decide), if_neg (show ¬ nI 5 = 2 by decide), if_neg (show ¬ nI 5 = 3 by decide), if_neg (show ¬ nI 5 = 4 by decide), if_pos (show nI 5 = 5 from rfl), k5]
  · rw [if_neg (show ¬ nI 6 = 0 by decide), if_neg (show ¬ nI 6 = 1 by decide), if_neg (show ¬ nI 6 = 2 by decide), if_neg (show ¬ nI 6 = 3 by decide), if_neg (show ¬ nI 6 = 4 by decide), if_neg (show ¬ nI 6 = 5 by decide), if_pos (show nI 6 = 6 from rfl), e5, show (4 : Int32) = nI 4 from rfl, show (5 : Int32) = nI 5 from rfl, nI_add, pk_sub (by omega), ck_nI (by omega) (by omega), ck_nI (by omega) (by omega), nI_clamp (by omega), nI_clamp (by omega), k6]
    by_cases c : r < 5
    · rw [show 4 + r / 5 = 4 by omega, show 5 - r / 5 = 5 by omega, if_pos c]
    · rw [show 4 + r / 5 = 5 by omega, show 5 - r / 5 = 4 by omega, if_neg c]
  · rw [if_neg (show ¬ nI 7 = 0 by decide), if_neg (show ¬ nI 7 = 1 by decide), if_neg (show ¬ nI 7 = 2 by decide), if_neg (show ¬ nI 7 = 3 by decide), if_neg (show ¬ nI 7 = 4 by decide), if_neg (show ¬ nI 7 = 5 by decide), if_neg (show ¬ nI 7 = 6 by decide), bnd1_e o0, bnd1_e o1, bnd1_e o8, bnd1_e o9, k7, distM]
theorem other_eq {mA r w j : Nat} {M : Mem} (hr : r < 10) (h : M.1 242 33 = nI r) (hw : w < 4) (hj : j < 5) : R_X11_otherRobot (nI w) (nI j) mA M = some (senF (M.1 mA) r (8 + 5 * w + j)) := by
  have e5 : nI r / (5 : Int32) = nI (r / 5) := by rw [show (5 : Int32) = nI 5 from rfl, pk_div (by omega) (by decide) (by decide)]
  have s := fun v => seenM (v := v) hr h
  have ew : (if (2 : Int32) ≤ nI w then (1 : Int32) - nI (r / 5) else nI (r / 5)) = nI (if w < 2 then r / 5 else 1 - r / 5) := by
    by_cases c : w < 2
    · rw [if_pos c, if_neg (nleL (y := 2) 2 c rfl (by decide))]
    · rw [if_neg c, if_pos (leL (y := 2) 2 (by omega) rfl (by omega)), show (1 : Int32) = nI 1 from rfl, pk_sub (by omega)]
  have er : (5 : Int32) * nI (if w < 2 then r / 5 else 1 - r / 5) + nI j = nI (5 * (if w < 2 then r / 5 else 1 - r / 5) + j) := by
    rw [show (5 : Int32) = nI 5 from rfl, pk_mul, nI_add]
  have hr' : 5 * (if w < 2 then r / 5 else 1 - r / 5) + j < 10 := by split <;> omega
  have o0 := of_eq (r := 5 * (if w < 2 then r / 5 else 1 - r / 5) + j) (c := 0) (w := 0) (mA := mA) (M := M) hr' (by decide) rfl
  have o1 := of_eq (r := 5 * (if w < 2 then r / 5 else 1 - r / 5) + j) (c := 1) (w := 1) (mA := mA) (M := M) hr' (by decide) rfl
  have em : nI w - nI w / (2 : Int32) * (2 : Int32) = nI (w % 2) := by rw [show (2 : Int32) = nI 2 from rfl, pk_rem (by omega) (by decide) (by decide)]
  unfold R_X11_otherRobot
  rw [h, e5, ew, bd1_s, er, bd1_s, em]
  have eF : senF (M.1 mA) r (8 + 5 * w + j) = if w % 2 = 0 then tX r (M.1 mA (44 + 16 * (5 * (if w < 2 then r / 5 else 1 - r / 5) + j))) else tY r (M.1 mA (44 + 16 * (5 * (if w < 2 then r / 5 else 1 - r / 5) + j) + 1)) := by
    unfold senF
    rw [if_neg (by omega), if_neg (by omega), if_neg (by omega), if_neg (by omega), if_neg (by omega), if_neg (by omega), if_neg (by omega), if_neg (by omega), show (8 + 5 * w + j - 8) / 5 = w by omega, show (8 + 5 * w + j - 8) % 5 = j by omega]
  rw [eF]
  by_cases c : w % 2 = 0
  · rw [c, if_pos (show nI 0 = 0 from rfl), if_pos rfl, bnd1_e o0, (s _).1]; rfl
  · rw [show w % 2 = 1 by omega, if_neg (show ¬ nI 1 = 0 by decide), if_neg (show ¬ (1 : Nat) = 0 by decide), bnd1_e o1, (s _).2]; rfl
