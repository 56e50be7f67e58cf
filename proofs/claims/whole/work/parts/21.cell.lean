/-! ===== the free cell that is nearest: the class's scan and the model's ===== -/
def dst (x y c i : Nat) : Nat := if (x - c) + (c - x) < (y - i) + (i - y) then (y - i) + (i - y) else (x - c) + (c - x)
theorem abs_eq {x c : Nat} (hx : x < 2 ^ 30) (hc : c < 2 ^ 30) : (if 0 ≤ (nI x - nI c) then (nI x - nI c) else 0 - (nI x - nI c)) = nI ((x - c) + (c - x)) := by
  rcases Nat.lt_or_ge x c with h | h
  · have h1 : nI x - nI c < 0 := pk_sneg hc h
    rw [if_neg (fun q => i_nlt q h1)]
    rw [show (x - c) + (c - x) = c - x by omega, ← pk_sub (Nat.le_of_lt h)]
    apply Int32.toBitVec_inj.mp
    simp only [Int32.toBitVec_sub]
    rw [show Int32.toBitVec 0 = 0#32 from rfl]
    rw [BitVec.zero_sub, BitVec.neg_sub]
    rw [BitVec.add_comm, ← BitVec.sub_eq_add_neg]
  · rw [pk_sub h, if_pos (nI_pos' (by omega)), show (x - c) + (c - x) = x - c by omega]
theorem dist_eq {x y c i : Nat} {M : Mem} (hx : x < 2 ^ 30) (hy : y < 2 ^ 30) (hc : c < 2 ^ 30) (hi : i < 2 ^ 30) : V_X10_distance (nI x) (nI y) (nI c) (nI i) M = nI (dst x y c i) := by
  unfold V_X10_distance dst
  rw [abs_eq hx hc, abs_eq hy hi]
  by_cases h : (x - c) + (c - x) < (y - i) + (i - y)
  · rw [if_pos h, if_pos (nI_lt h (by omega))]
  · rw [if_neg h, if_neg (nI_nlt (by omega) (by omega))]
theorem dist_eq' {x y c i : Nat} {M : Mem} (hx : x < 2 ^ 30) (hy : y < 2 ^ 30) (hc : c < 2 ^ 30) (hi : i < 2 ^ 30) : V_X11_distance (nI x) (nI y) (nI c) (nI i) M = nI (dst x y c i) := dist_eq (M := M) hx hy hc hi
/-- found, how far, column, row -/
abbrev SS : Type := Bool × Nat × Nat × Nat
def scS (occ : Nat → Nat → Bool) (x y c i : Nat) (s : SS) : SS := if (s.1 = false ∨ dst x y c i < s.2.1) ∧ occ c i = false then (true, dst x y c i, c, i) else s
def scR (occ : Nat → Nat → Bool) (x y c : Nat) : Nat → Nat → SS → SS
  | 0, _, s => s
  | n + 1, i, s => scR occ x y c n (i + 1) (scS occ x y c i s)
def scC (occ : Nat → Nat → Bool) (x y : Nat) : Nat → Nat → SS → SS
  | 0, _, s => s
  | n + 1, c, s => scC occ x y n (c + 1) (scR occ x y c 9 0 s)
def stC1 (s : SS) : Int32 := if s.1 = true then nI (s.2.2.1 + 15 * s.2.2.2) else 0
def stC2 (s : SS) : Int32 := if s.1 = true then nI s.2.1 else 15
def stM (s : SS) : Int32 := if s.1 = true then nI s.2.1 else 100
def putB (B : Mem) (px py : Int32) : Mem := setI (setI B 242 31 px) 242 32 py
theorem putB_putB {B : Mem} {p q r s : Int32} : putB (putB B p q) r s = putB B r s := by
  unfold putB setI
  refine Prod.ext ?_ rfl
  funext a j
  dsimp only
  by_cases h1 : a = 242 ∧ j = 32
  · rw [if_pos h1, if_pos h1]
  · rw [if_neg h1, if_neg h1]
    by_cases h2 : a = 242 ∧ j = 31
    · rw [if_pos h2, if_pos h2, if_neg h1]
    · rw [if_neg h2, if_neg h2, if_neg h1, if_neg h2]
def sOk (s : SS) : Prop := s.1 = true → s.2.1 < 15 ∧ s.2.2.1 < 15 ∧ s.2.2.2 < 9
theorem dst_lt {x y c i : Nat} (hx : x < 15) (hy : y < 9) (hc : c < 15) (hi : i < 9) : dst x y c i < 15 := by
  unfold dst; split <;> omega
theorem scS_ok {occ : Nat → Nat → Bool} {x y c i : Nat} {s : SS} (hx : x < 15) (hy : y < 9) (hc : c < 15) (hi : i < 9) (h : sOk s) : sOk (scS occ x y c i s) := by
  unfold scS
  split
  · intro _; exact ⟨dst_lt hx hy hc hi, hc, hi⟩
  · exact h
theorem scS_C {occ : Nat → Nat → Bool} {x y c i b : Nat} {s : SS} {A : Mem} (hx : x < 15) (hy : y < 9) (hc : c < 15) (hi : i < 9) (h : sOk s) (ho : 0 ≤ V_X2_robotIn b (nI c) (nI i) A ↔ occ c i = true) :
    (bd1 (V_X10_distance (nI x) (nI y) (nI c) (nI i) A) (fun v2 => (if stC2 s ≤ v2 then (stC1 s, stC2 s) else (if 0 ≤ (V_X2_robotIn b (nI c) (nI i) A) then (stC1 s, stC2 s) else (bd1 ((nI c) + ((15 : Int32) * (nI i))) (fun v6 => (v6, v2))))))) = (stC1 (scS occ x y c i s), stC2 (scS occ x y c i s)) := by
  rw [bd1_s, dist_eq (by omega) (by omega) (by omega) (by omega)]
  have hd := dst_lt hx hy hc hi
  have key : stC2 s ≤ nI (dst x y c i) ↔ ¬ (s.1 = false ∨ dst x y c i < s.2.1) := by
    unfold stC2
    by_cases f : s.1 = true
    · rw [if_pos f, nI_leI (by have := h f; omega) (by omega)]
      constructor
      · intro q z; rcases z with z | z
        · rw [f] at z; cases z
        · omega
      · intro q; exact Nat.not_lt.mp (fun z => q (Or.inr z))
    · rw [if_neg f]
      constructor
      · intro q; exact absurd q (nI_ge (a := dst x y c i) (b := 15) hd (by decide))
      · intro q; exact absurd (Or.inl (by cases hs : s.1 with | false => rfl | true => exact absurd hs f)) q
  by_cases c1 : stC2 s ≤ nI (dst x y c i)
  · rw [if_pos c1]
    unfold scS
    rw [if_neg (fun q => (key.mp c1) q.1)]
  · rw [if_neg c1]
    have c1' : s.1 = false ∨ dst x y c i < s.2.1 := Decidable.not_not.mp (fun q => c1 (key.mpr q))
    by_cases c2 : occ c i = true
    · rw [if_pos (ho.mpr c2)]
      unfold scS
      rw [if_neg (fun q => by rw [c2] at q; cases q.2)]
    · rw [if_neg (fun q => c2 (ho.mp q)), bd1_s]
      unfold scS
      rw [if_pos ⟨c1', by cases hs : occ c i with | false => rfl | true => exact absurd hs c2⟩]
      unfold stC1 stC2
      rw [if_pos rfl, if_pos rfl, show (15 : Int32) = nI 15 from rfl, pk_mul, nI_add]
theorem scR_C {occ : Nat → Nat → Bool} {x y c b : Nat} {A : Mem} (hx : x < 15) (hy : y < 9) (hc : c < 15) (ho : ∀ i, i < 9 → (0 ≤ V_X2_robotIn b (nI c) (nI i) A ↔ occ c i = true)) : ∀ (n i : Nat) (s : SS), i + n = 9 → sOk s → L_X2_freeCell_35 b (nI x) (nI y) (nI c) n i (stC1 s) (stC2 s) A = some (stC1 (scR occ x y c n i s), stC2 (scR occ x y c n i s)) ∧ sOk (scR occ x y c n i s) := by
  intro n
  induction n with
  | zero => intro i s _ h; exact ⟨rfl, h⟩
  | succ n ih =>
    intro i s hi h
    have h1 := scS_C (s := s) (i := i) hx hy hc (by omega) h (ho i (by omega))
    rw [L_X2_freeCell_35]
    rw [bd1_s] at h1 ⊢
    rw [h1, bd2_s]
    exact ih (i + 1) _ (by omega) (scS_ok hx hy hc (by omega) h)
theorem scC_C {occ : Nat → Nat → Bool} {x y b : Nat} {A : Mem} (hx : x < 15) (hy : y < 9) (ho : ∀ c, c < 15 → ∀ i, i < 9 → (0 ≤ V_X2_robotIn b (nI c) (nI i) A ↔ occ c i = true)) : ∀ (n c : Nat) (s : SS), c + n = 15 → sOk s → L_X2_freeCell_25 b (nI x) (nI y) n c (stC1 s) (stC2 s) A = some (stC1 (scC occ x y n c s)) ∧ sOk (scC occ x y n c s) := by
  intro n
  induction n with
  | zero => intro c s _ h; exact ⟨rfl, h⟩
  | succ n ih =>
    intro c s hc h
    have h1 := scR_C hx hy (c := c) (by omega) (ho c (by omega)) 9 0 s rfl h
    rw [L_X2_freeCell_25, bnd2_e h1.1]
    exact ih (c + 1) _ (by omega) h1.2
theorem scS_M {occ : Nat → Nat → Bool} {x y c i mA p : Nat} {s : SS} {B : Mem} {but : Int32} (hx : x < 15) (hy : y < 9) (hc : c < 15) (hi : i < 9) (h : sOk s) (hmA : mA ≠ 242) (hp : p ≤ 10) (h30 : B.1 242 30 = nI p) (ho : 0 ≤ srch (inM (B.1 mA) (nI c) (nI i) but) p 0 ↔ occ c i = true) :
    (if stM s ≤ (V_X11_distance (nI x) (nI y) (nI c) (nI i) (putB B (nI s.2.2.1) (nI s.2.2.2))) then (some (stM s, (putB B (nI s.2.2.1) (nI s.2.2.2)))) else (bnd1 (R_X11_robotAt (nI c) (nI i) but mA (putB B (nI s.2.2.1) (nI s.2.2.2))) (fun v6 => if 0 ≤ v6 then (some (stM s, (putB B (nI s.2.2.1) (nI s.2.2.2)))) else (bd1 (V_X11_distance (nI x) (nI y) (nI c) (nI i) (putB B (nI s.2.2.1) (nI s.2.2.2))) (fun v8 => (some (v8, setI (setI (putB B (nI s.2.2.1) (nI s.2.2.2)) 242 31 (nI c)) 242 32 (nI i)))))))) = some (stM (scS occ x y c i s), putB B (nI (scS occ x y c i s).2.2.1) (nI (scS occ x y c i s).2.2.2)) := by
  rw [dist_eq' (by omega) (by omega) (by omega) (by omega)]
  have hd := dst_lt hx hy hc hi
  have key : stM s ≤ nI (dst x y c i) ↔ ¬ (s.1 = false ∨ dst x y c i < s.2.1) := by
    unfold stM
    by_cases f : s.1 = true
    · rw [if_pos f, nI_leI (by have := h f; omega) (by omega)]
      constructor
      · intro q z; rcases z with z | z
        · rw [f] at z; cases z
        · omega
      · intro q; exact Nat.not_lt.mp (fun z => q (Or.inr z))
    · rw [if_neg f]
      constructor
      · intro q; exact absurd q (nI_ge (a := dst x y c i) (b := 100) (by omega) (by decide))
      · intro q; exact absurd (Or.inl (by cases hs : s.1 with | false => rfl | true => exact absurd hs f)) q
  by_cases c1 : stM s ≤ nI (dst x y c i)
  · rw [if_pos c1]
    unfold scS
    rw [if_neg (fun q => (key.mp c1) q.1)]
  · rw [if_neg c1]
    have c1' : s.1 = false ∨ dst x y c i < s.2.1 := Decidable.not_not.mp (fun q => c1 (key.mpr q))
    have e1 : (putB B (nI s.2.2.1) (nI s.2.2.2)).1 242 30 = nI p := by
      unfold putB; rw [gI (Or.inr (by decide)), gI (Or.inr (by decide))]; exact h30
    have e2 : (putB B (nI s.2.2.1) (nI s.2.2.2)).1 mA = B.1 mA := by
      unfold putB; rw [fI hmA, fI hmA]
    rw [bnd1_e (robotAt_eq hp e1), e2]
    by_cases c2 : occ c i = true
    · rw [if_pos (ho.mpr c2)]
      unfold scS
      rw [if_neg (fun q => by rw [c2] at q; cases q.2)]
    · rw [if_neg (fun q => c2 (ho.mp q)), bd1_s]
      have e3 : setI (setI (putB B (nI s.2.2.1) (nI s.2.2.2)) 242 31 (nI c)) 242 32 (nI i) = putB B (nI c) (nI i) := putB_putB
      rw [e3]
      unfold scS
      rw [if_pos ⟨c1', by cases hs : occ c i with | false => rfl | true => exact absurd hs c2⟩]
      unfold stM
      rw [if_pos rfl]
theorem scR_M {occ : Nat → Nat → Bool} {x y c mA p : Nat} {B : Mem} {but : Int32} (hx : x < 15) (hy : y < 9) (hc : c < 15) (hmA : mA ≠ 242) (hp : p ≤ 10) (h30 : B.1 242 30 = nI p) (ho : ∀ i, i < 9 → (0 ≤ srch (inM (B.1 mA) (nI c) (nI i) but) p 0 ↔ occ c i = true)) : ∀ (n i : Nat) (s : SS), i + n = 9 → sOk s → L_X11_findPut_38 (nI x) (nI y) but mA (nI c) n i (stM s) (putB B (nI s.2.2.1) (nI s.2.2.2)) = some (stM (scR occ x y c n i s), putB B (nI (scR occ x y c n i s).2.2.1) (nI (scR occ x y c n i s).2.2.2)) ∧ sOk (scR occ x y c n i s) := by
  intro n
  induction n with
  | zero => intro i s _ h; exact ⟨rfl, h⟩
  | succ n ih =>
    intro i s hi h
    have h1 := scS_M (s := s) (i := i) hx hy hc (by omega) h hmA hp h30 (ho i (by omega))
    rw [L_X11_findPut_38, bnd2_e h1]
    exact ih (i + 1) _ (by omega) (scS_ok hx hy hc (by omega) h)
theorem scC_M {occ : Nat → Nat → Bool} {x y mA p : Nat} {B : Mem} {but : Int32} (hx : x < 15) (hy : y < 9) (hmA : mA ≠ 242) (hp : p ≤ 10) (h30 : B.1 242 30 = nI p) (ho : ∀ c, c < 15 → ∀ i, i < 9 → (0 ≤ srch (inM (B.1 mA) (nI c) (nI i) but) p 0 ↔ occ c i = true)) : ∀ (n c : Nat) (s : SS), c + n = 15 → sOk s → L_X11_findPut_28 (nI x) (nI y) but mA n c (stM s) (putB B (nI s.2.2.1) (nI s.2.2.2)) = some (putB B (nI (scC occ x y n c s).2.2.1) (nI (scC occ x y n c s).2.2.2)) ∧ sOk (scC occ x y n c s) := by
  intro n
  induction n with
  | zero => intro c s _ h; exact ⟨rfl, h⟩
  | succ n ih =>
    intro c s hc h
    have h1 := scR_M hx hy (c := c) (by omega) hmA hp h30 (ho c (by omega)) 9 0 s rfl h
    rw [L_X11_findPut_28, bnd2_e h1.1]
    exact ih (c + 1) _ (by omega) h1.2
/-! something is found, if a cell is free -/
theorem scS_f {occ : Nat → Nat → Bool} {x y c i : Nat} {s : SS} (h : s.1 = true) : (scS occ x y c i s).1 = true := by
  unfold scS; split
  · rfl
  · exact h
theorem scS_g {occ : Nat → Nat → Bool} {x y c i : Nat} {s : SS} (h : occ c i = false) : (scS occ x y c i s).1 = true := by
  unfold scS
  cases hs : s.1 with
  | true => split
            · rfl
            · exact hs
  | false => rw [if_pos ⟨Or.inl rfl, h⟩]
theorem scR_f {occ : Nat → Nat → Bool} {x y c : Nat} : ∀ (n i : Nat) (s : SS), s.1 = true → (scR occ x y c n i s).1 = true := by
  intro n
  induction n with
  | zero => intro i s h; exact h
  | succ n ih => intro i s h; exact ih (i + 1) _ (scS_f h)
theorem scR_g {occ : Nat → Nat → Bool} {x y c : Nat} : ∀ (n i : Nat) (s : SS), (∃ k, i ≤ k ∧ k < i + n ∧ occ c k = false) → (scR occ x y c n i s).1 = true := by
  intro n
  induction n with
  | zero => intro i s h; obtain ⟨k, h1, h2, _⟩ := h; omega
  | succ n ih =>
    intro i s h
    obtain ⟨k, h1, h2, h3⟩ := h
    rcases Nat.eq_or_lt_of_le h1 with e | e
    · subst e; exact scR_f n _ _ (scS_g h3)
    · exact ih (i + 1) _ ⟨k, e, by omega, h3⟩
theorem scC_f {occ : Nat → Nat → Bool} {x y : Nat} : ∀ (n c : Nat) (s : SS), s.1 = true → (scC occ x y n c s).1 = true := by
  intro n
  induction n with
  | zero => intro i s h; exact h
  | succ n ih => intro i s h; exact ih (i + 1) _ (scR_f 9 0 _ h)
theorem scC_g {occ : Nat → Nat → Bool} {x y : Nat} : ∀ (n c : Nat) (s : SS), (∃ k, c ≤ k ∧ k < c + n ∧ occ k 0 = false) → (scC occ x y n c s).1 = true := by
  intro n
  induction n with
  | zero => intro i s h; obtain ⟨k, h1, h2, _⟩ := h; omega
  | succ n ih =>
    intro c s h
    obtain ⟨k, h1, h2, h3⟩ := h
    rcases Nat.eq_or_lt_of_le h1 with e | e
    · subst e; exact scC_f n _ _ (scR_g 9 0 _ ⟨0, by omega, by omega, h3⟩)
    · exact ih (c + 1) _ ⟨k, e, by omega, h3⟩
/-- where one is put: the cell itself if it is free, else the nearest -/
def FP (occ : Nat → Nat → Bool) (x y : Nat) : Nat × Nat := if occ x y = true then ((scC occ x y 15 0 (false, 0, x, y)).2.2.1, (scC occ x y 15 0 (false, 0, x, y)).2.2.2) else (x, y)
/-- pigeons -/
theorem pigeon : ∀ (n : Nat) (f : Nat → Nat), (∀ i, i < n + 1 → f i < n) → ∃ i j, i < j ∧ j < n + 1 ∧ f i = f j := by
  intro n
  induction n with
  | zero => intro f h; exact absurd (h 0 (by omega)) (by omega)
  | succ n ih =>
    intro f h
    by_cases c : ∃ i, i < n + 1 ∧ f i = f (n + 1)
    · obtain ⟨i, h1, h2⟩ := c; exact ⟨i, n + 1, h1, by omega, h2⟩
    · have c' : ∀ i, i < n + 1 → f i ≠ f (n + 1) := fun i hi e => c ⟨i, hi, e⟩
      have h2 : ∀ i, i < n + 1 → (fun i => if f i < f (n + 1) then f i else f i - 1) i < n := by
        intro i hi
        have a1 := h i (by omega)
        have a2 := h (n + 1) (by omega)
        have a3 := c' i hi
        dsimp only
        split <;> omega
      obtain ⟨i, j, h3, h4, h5⟩ := ih _ h2
      refine ⟨i, j, h3, by omega, ?_⟩
      have a3 := c' i (by omega)
      have a4 := c' j h4
      split at h5 <;> split at h5 <;> omega
theorem free_col {occ : Nat → Nat → Bool} {f : Nat → Nat → Nat} (g : Nat → Int32) (hf : ∀ c, c < 15 → occ c 0 = true → f c 0 < 10 ∧ g (f c 0) = nI c) : ∃ k, k < 15 ∧ occ k 0 = false := by
  by_cases h : ∃ k, k < 15 ∧ occ k 0 = false
  · exact h
  · exfalso
    have h' : ∀ k, k < 15 → occ k 0 = true := fun k hk => by
      cases ho : occ k 0 with
      | true => rfl
      | false => exact absurd ⟨k, hk, ho⟩ h
    obtain ⟨i, j, h1, h2, h3⟩ := pigeon 10 (fun c => f c 0) (fun i hi => (hf i (by omega) (h' i (by omega))).1)
    have e1 := (hf i (by omega) (h' i (by omega))).2
    have e2 := (hf j (by omega) (h' j (by omega))).2
    rw [h3, e2] at e1
    have := (nI_eq (a := j) (b := i) (by omega) (by omega)).mp e1
    omega
theorem FP_lt {occ : Nat → Nat → Bool} {x y : Nat} (hx : x < 15) (hy : y < 9) (hfree : ∃ k, k < 15 ∧ occ k 0 = false) (hok : sOk (scC occ x y 15 0 (false, 0, x, y))) : (FP occ x y).1 < 15 ∧ (FP occ x y).2 < 9 := by
  obtain ⟨k, h1, h2⟩ := hfree
  have h4 := scC_g (occ := occ) (x := x) (y := y) 15 0 (false, 0, x, y) ⟨k, by omega, by omega, h2⟩
  unfold FP
  generalize scC occ x y 15 0 (false, 0, x, y) = s at hok h4
  split
  · have h3 := hok h4
    exact ⟨h3.2.1, h3.2.2⟩
  · exact ⟨hx, hy⟩
theorem ok0 {x y : Nat} : sOk (false, 0, x, y) := fun h => by cases h
theorem free_C {occ : Nat → Nat → Bool} {x y b : Nat} {A : Mem} (hx : x < 15) (hy : y < 9) (ho : ∀ c, c < 15 → ∀ i, i < 9 → (0 ≤ V_X2_robotIn b (nI c) (nI i) A ↔ occ c i = true)) (hfree : ∃ k, k < 15 ∧ occ k 0 = false) : R_X2_freeCell b (nI x) (nI y) A = some (nI ((FP occ x y).1 + 15 * (FP occ x y).2)) ∧ (FP occ x y).1 < 15 ∧ (FP occ x y).2 < 9 := by
  have h1 := scC_C hx hy ho 15 0 (false, 0, x, y) rfl ok0
  refine ⟨?_, FP_lt hx hy hfree h1.2⟩
  obtain ⟨k, h2, h3⟩ := hfree
  have h4 := scC_g (occ := occ) (x := x) (y := y) 15 0 (false, 0, x, y) ⟨k, by omega, by omega, h3⟩
  unfold R_X2_freeCell FP
  by_cases c : occ x y = true
  · rw [if_pos ((ho x hx y hy).mpr c), if_pos c]
    have h5 := h1.1
    rw [show stC1 (false, 0, x, y) = 0 from rfl, show stC2 (false, 0, x, y) = 15 from rfl] at h5
    rw [bnd1_e h5]
    unfold stC1
    rw [if_pos h4]
  · rw [if_neg (fun q => c ((ho x hx y hy).mp q)), if_neg c, show (15 : Int32) = nI 15 from rfl, pk_mul, nI_add]
theorem put_M {occ : Nat → Nat → Bool} {x y mA p : Nat} {B : Mem} {but : Int32} (hx : x < 15) (hy : y < 9) (hmA : mA ≠ 242) (hp : p ≤ 10) (h30 : B.1 242 30 = nI p) (ho : ∀ c, c < 15 → ∀ i, i < 9 → (0 ≤ srch (inM (B.1 mA) (nI c) (nI i) but) p 0 ↔ occ c i = true)) : R_X11_findPut (nI x) (nI y) but mA B = some (putB B (nI (FP occ x y).1) (nI (FP occ x y).2)) := by
  have h1 := scC_M hx hy hmA hp h30 ho 15 0 (false, 0, x, y) rfl ok0
  unfold R_X11_findPut FP
  have e0 : setI (setI B 242 31 (nI x)) 242 32 (nI y) = putB B (nI x) (nI y) := rfl
  rw [e0]
  have e1 : (putB B (nI x) (nI y)).1 242 30 = nI p := by
    unfold putB; rw [gI (Or.inr (by decide)), gI (Or.inr (by decide))]; exact h30
  have e2 : (putB B (nI x) (nI y)).1 mA = B.1 mA := by
    unfold putB; rw [fI hmA, fI hmA]
  rw [bnd1_e (robotAt_eq hp e1), e2]
  by_cases c : occ x y = true
  · rw [if_pos ((ho x hx y hy).mpr c), if_pos c]
    have h5 := h1.1
    rw [show stM (false, 0, x, y) = 100 from rfl] at h5
    dsimp only at h5
    rw [bnd1_e h5]
  · rw [if_neg (fun q => c ((ho x hx y hy).mp q)), if_neg c]
