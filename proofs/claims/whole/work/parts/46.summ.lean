/-! ===== the model works out terms and sums ===== -/
def ownF (ρ : Nat → Int32) (r : Nat) : Nat → Int32 := fun k => if k < 4 then ρ (44 + 16 * r + 4 + k) else 0
def wF (B : Mem) (q : Nat) : Nat → Int32 := fun i => B.1 244 (800 * q + i)
def vF (B : Mem) (q : Nat) : Nat → Int32 := fun i => B.1 245 (800 * q + i)
theorem rdA_nI {f : Nat → Int32} {n k : Nat} (hk : k < n) (hn : n < 2 ^ 31) : rdA f n (nI k) = f k := by
  unfold rdA
  rw [if_neg (nI_pos (by omega)), if_neg (nI_ge hk hn), nI_clamp (by omega)]
theorem minus_loop {B : Mem} {q r mA c : Nat} (hB : MB B q r) : ∀ (k h f j : Nat), k < f → h + k < 800 → (∀ i, i < k → wF B q (h + i) = 45) → ¬ wF B q (h + k) = 45 → L_X11_termOf_6 mA f (nI (j % 2)) (mst B h c) = some (nI ((j + k) % 2), mst B (h + k) c) := by
  intro k
  induction k with
  | zero =>
    intro h f j hf hh _ hn
    obtain ⟨f, rfl⟩ : ∃ m, f = m + 1 := ⟨f - 1, by omega⟩
    rw [L_X11_termOf_6, bnd1_e (here_eq hB (by omega)), if_neg (show ¬ B.1 244 (800 * q + h) = 45 from hn)]
    rfl
  | succ k ih =>
    intro h f j hf hh h45 hn
    obtain ⟨f, rfl⟩ : ∃ m, f = m + 1 := ⟨f - 1, by omega⟩
    have h0 : B.1 244 (800 * q + h) = 45 := h45 0 (by omega)
    have hn' : ¬ wF B q (h + 1 + k) = 45 := by rw [show h + 1 + k = h + (k + 1) by omega]; exact hn
    have h1 := ih (h + 1) f (j + 1) (by omega) (by omega) (fun i hi => by rw [show h + 1 + i = h + (i + 1) by omega]; exact h45 (i + 1) (by omega)) hn'
    rw [L_X11_termOf_6, bnd1_e (here_eq hB (by omega)), if_pos h0, mst_inc, bd1_s]
    rw [show h + (k + 1) = h + 1 + k by omega, show j + (k + 1) = j + 1 + k by omega, ← h1]
    rcases Nat.mod_two_eq_zero_or_one j with e | e
    · rw [e, if_pos (show nI 0 = 0 from rfl), show (j + 1) % 2 = 1 by omega]; rfl
    · rw [e, if_neg (show ¬ nI 1 = 0 by decide), show (j + 1) % 2 = 0 by omega]; rfl
theorem term_M {B : Mem} {q r mA c h h' : Nat} {t : Tm} (hB : MB B q r) (hm : mA = 259 ∨ mA = 260) (H : TermM (wF B q) (vF B q) h t h') (hh : h' ≤ 800) : R_X11_termOf mA (mst B h c) = some (valT (ownF (B.1 mA) r) (senF (B.1 mA) r) t, mst B h' (c + 1)) := by
  obtain ⟨k, hk, h45, hs, hcase⟩ := H
  obtain ⟨hq, hr, _, h33⟩ := id hB
  have hk8 : h + k < 800 := by rcases hcase with ⟨_, _, _, e⟩ | ⟨_, _, _, _, e⟩ | ⟨_, _, _, e⟩ | ⟨_, _, _, _, e⟩ <;> omega
  have hn45 : ¬ wF B q (h + k) = 45 := by
    rcases hcase with ⟨_, e, _⟩ | ⟨_, e, _⟩ | ⟨_, e, _⟩ | ⟨_, e, _⟩ <;> (rw [e]; decide)
  have hl := minus_loop (mA := mA) (c := c + 1) hB k h FUEL 0 (by unfold FUEL; omega) hk8 h45 hn45
  rw [show nI (0 % 2) = 0 from rfl, Nat.zero_add] at hl
  unfold R_X11_termOf
  rw [mst_step, bnd2_e hl, bnd1_e (here_eq hB hk8), mst_j (by omega), mst_35, hB.2.2.1, nI_add, ck_nI (by omega) (by omega), nI_clamp (by omega), mst_d (by decide), bd1_s]
  have hsgn : ∀ v : Int32, (if nI (k % 2) = 0 then v else -v) = v * t.2.1 := by
    intro v
    rw [hs]
    rcases Nat.mod_two_eq_zero_or_one k with e | e
    · rw [e, if_pos (show nI 0 = 0 from rfl), if_pos rfl, Int32.mul_one]
    · rw [e, if_neg (show ¬ nI 1 = 0 by decide), if_neg (by decide), Int32.mul_neg, Int32.mul_one]
  have e1 : setI (mst B (h + k) (c + 1)) 242 35 (nI (h + k) + (1 : Int32)) = mst B (h + k + 1) (c + 1) := mst_s35 (by rw [nI_1])
  have hrow : (mst B (h + k + 1) (c + 1)).1 mA = B.1 mA := mst_d (by omega)
  have h33' : (mst B (h + k + 1) (c + 1)).1 242 33 = nI r := by rw [mst_j (by omega)]; exact h33
  have h33a : (mst B (h + k) (c + 1)).1 242 33 = nI r := by rw [mst_j (by omega)]; exact h33
  rw [e1, h33a]
  unfold valT
  rcases hcase with ⟨a1, a2, a3, rfl⟩ | ⟨a1, a2, a3, ⟨j, hj, a4⟩, rfl⟩ | ⟨a1, a2, ⟨j, hj, a3, a4⟩, rfl⟩ | ⟨a1, a2, ⟨w, j, hw, hj, a3, a4, a5⟩, a6, rfl⟩
  · have a2' : B.1 244 (800 * q + (h + k)) = 2 := a2
    have a3' : B.1 245 (800 * q + (h + k)) = t.2.2.2 := a3
    rw [a2', a3', if_neg (by decide), if_neg (by decide), if_neg (by decide), bnd2_s, bd1_s, hsgn, a1, if_neg (by decide), if_neg (by decide)]
  · have a2' : B.1 244 (800 * q + (h + k)) = 3 := a2
    have a3' : B.1 245 (800 * q + (h + k)) = t.2.2.2 := a3
    have e4 : (4 : Int32) + nI j = nI (4 + j) := by rw [show (4 : Int32) = nI 4 from rfl, nI_add]
    rw [a2', a3', a4, if_pos rfl, e4, bnd1_e (of_eq (c := 4 + j) hr (by omega) rfl), bnd2_s, bd1_s, hsgn, hrow, a1, if_pos rfl, rdA_nI hj (by decide)]
    unfold ownF
    rw [if_pos hj, Nat.add_assoc (44 + 16 * r) 4 j]
  · have a2' : B.1 244 (800 * q + (h + k)) = 4 := a2
    have a4' : B.1 245 (800 * q + (h + k)) = nI j := a4
    rw [a2', a4', if_neg (by decide), if_pos rfl, bnd1_e (sensor_eq hr h33' hj), bnd2_s, bd1_s, hsgn, hrow, a1, if_neg (by decide), if_pos rfl, a3, rdA_nI (by omega) (by decide)]
  · have a2' : B.1 244 (800 * q + (h + k)) = 5 := a2
    have a3' : B.1 245 (800 * q + (h + k)) = nI w := a3
    have a4' : B.1 245 (800 * q + (h + k + 1)) = nI j := a4
    have e2 : nI (800 * q) + (nI (h + k) + (1 : Int32)) = nI (800 * q + (h + k + 1)) := by rw [nI_1, nI_add]
    have e3 : setI (mst B (h + k + 1) (c + 1)) 242 35 (nI (h + k) + (1 : Int32) + (1 : Int32)) = mst B (h + k + 2) (c + 1) := mst_s35 (by rw [nI_1, nI_1])
    rw [a2', a3', if_neg (by decide), if_neg (by decide), if_pos rfl, e2, ck_nI (by omega) (by omega), nI_clamp (by omega), a4', bnd1_e (other_eq hr h33' hw hj), e3, bnd2_s, bd1_s, hsgn, hrow, a1, if_neg (by decide), if_pos rfl, a5, rdA_nI (by omega) (by decide)]
/-- the factors that follow -/
def mulp (own sen : Nat → Int32) : Sm → Int32 → Int32 × Sm
  | [], u => (u, [])
  | t :: ts, u => if t.1 = 34 then mulp own sen ts (u * valT own sen t) else (u, t :: ts)
theorem mulp_len {own sen : Nat → Int32} : ∀ (ts : Sm) (u : Int32), (mulp own sen ts u).2.length ≤ ts.length := by
  intro ts
  induction ts with
  | nil => intro u; exact Nat.le_refl _
  | cons t ts ih =>
    intro u
    unfold mulp
    split
    · exact Nat.le_succ_of_le (ih _)
    · exact Nat.le_refl _
theorem mulp_head {own sen : Nat → Int32} : ∀ (ts : Sm) (u : Int32) (t : Tm) (l : Sm), (mulp own sen ts u).2 = t :: l → ¬ t.1 = 34 := by
  intro ts
  induction ts with
  | nil => intro u t l e; cases e
  | cons s ts ih =>
    intro u t l e
    unfold mulp at e
    split at e
    · exact ih _ _ _ e
    · rename_i h; cases e; exact h
theorem mulp_neg {own sen : Nat → Int32} : ∀ (ts : Sm) (u : Int32), mulp own sen ts (-u) = (-(mulp own sen ts u).1, (mulp own sen ts u).2) := by
  intro ts
  induction ts with
  | nil => intro u; rfl
  | cons t ts ih =>
    intro u
    unfold mulp
    split
    · rw [Int32.neg_mul, ih]
    · rfl
def tot (own sen : Nat → Int32) (ts : Sm) (u w : Int32) : Int32 := (vs own sen ts u w).1 + (vs own sen ts u w).2
theorem tot_mulp {own sen : Nat → Int32} : ∀ (ts : Sm) (u w : Int32), tot own sen ts u w = tot own sen (mulp own sen ts w).2 u (mulp own sen ts w).1 := by
  intro ts
  induction ts with
  | nil => intro u w; rfl
  | cons t ts ih =>
    intro u w
    unfold mulp
    by_cases c : t.1 = 34
    · rw [if_pos c, ← ih]
      unfold tot
      rw [vs, if_pos c]
    · rw [if_neg c]
/-- with no factor ahead, a sum's rest depends on what is worked out so far alone -/
theorem tot_flat {own sen : Nat → Int32} {ts : Sm} {u w : Int32} (h : ∀ t l, ts = t :: l → ¬ t.1 = 34) : tot own sen ts u w = tot own sen ts (u + w) 0 := by
  cases ts with
  | nil => unfold tot vs; rw [Int32.add_zero]
  | cons t l =>
    have := h t l rfl
    unfold tot
    rw [vs, if_neg this, vs, if_neg this, Int32.add_zero]
theorem prod_loop {B : Mem} {q r mA : Nat} (hB : MB B q r) (hm : mA = 259 ∨ mA = 260) : ∀ (ts : Sm) (h h' c f : Nat) (u : Int32), TailM (wF B q) (vF B q) ts h h' → h' < 800 → ts.length < f → ∃ h1, L_X11_productOf_5 mA f u (mst B h c) = some ((mulp (ownF (B.1 mA) r) (senF (B.1 mA) r) ts u).1, mst B h1 (c + (ts.length - (mulp (ownF (B.1 mA) r) (senF (B.1 mA) r) ts u).2.length))) ∧ TailM (wF B q) (vF B q) (mulp (ownF (B.1 mA) r) (senF (B.1 mA) r) ts u).2 h1 h' := by
  intro ts
  induction ts with
  | nil =>
    intro h h' c f u H hh hf
    obtain ⟨f, rfl⟩ : ∃ m, f = m + 1 := ⟨f - 1, by omega⟩
    obtain ⟨rfl, n1, n2, n3⟩ := id H
    refine ⟨h, ?_, H⟩
    rw [L_X11_productOf_5, bnd1_e (here_eq hB (by omega)), if_neg (show ¬ B.1 244 (800 * q + h) = 42 from n3)]
    rfl
  | cons t ts ih =>
    intro h h' c f u H hh hf
    obtain ⟨f, rfl⟩ : ∃ m, f = m + 1 := ⟨f - 1, by omega⟩
    simp only [List.length_cons] at hf
    have hle := TailM.le _ _ _ H
    simp only [List.length_cons] at hle
    obtain ⟨hj, hw, h1, H1, H2⟩ := id H
    have hle2 := TailM.le _ _ _ H2
    have hw' : B.1 244 (800 * q + h) = opW t.1 := hw
    rw [L_X11_productOf_5, bnd1_e (here_eq hB (by omega)), hw']
    unfold mulp
    by_cases c34 : t.1 = 34
    · rw [if_pos (show opW t.1 = 42 by rw [c34]; decide), mst_inc, bnd2_e (term_M hB hm H1 (by omega)), if_pos c34]
      obtain ⟨h2, g1, g2⟩ := ih h1 h' (c + 1) f (u * valT (ownF (B.1 mA) r) (senF (B.1 mA) r) t) H2 hh (by omega)
      have hl := mulp_len (own := ownF (B.1 mA) r) (sen := senF (B.1 mA) r) ts (u * valT (ownF (B.1 mA) r) (senF (B.1 mA) r) t)
      refine ⟨h2, ?_, g2⟩
      rw [g1]
      simp only [List.length_cons]
      rw [show c + (ts.length + 1 - (mulp (ownF (B.1 mA) r) (senF (B.1 mA) r) ts (u * valT (ownF (B.1 mA) r) (senF (B.1 mA) r) t)).2.length) = c + 1 + (ts.length - (mulp (ownF (B.1 mA) r) (senF (B.1 mA) r) ts (u * valT (ownF (B.1 mA) r) (senF (B.1 mA) r) t)).2.length) by omega]
    · have : ¬ opW t.1 = 42 := by rcases hj with e | e | e <;> rw [e] <;> first | decide | exact absurd e c34
      rw [if_neg this, if_neg c34]
      refine ⟨h, ?_, H⟩
      dsimp only
      rw [Nat.sub_self]; rfl
theorem sum_loop {B : Mem} {q r mA : Nat} (hB : MB B q r) (hm : mA = 259 ∨ mA = 260) : ∀ (n : Nat) (ts : Sm) (h h' c f : Nat) (u : Int32), ts.length ≤ n → TailM (wF B q) (vF B q) ts h h' → (∀ t l, ts = t :: l → ¬ t.1 = 34) → h' < 800 → n < f → L_X11_sumOf_5 mA f u (mst B h c) = some (tot (ownF (B.1 mA) r) (senF (B.1 mA) r) ts u 0, mst B h' (c + ts.length)) := by
  intro n
  induction n with
  | zero =>
    intro ts h h' c f u hl H _ hh hf
    obtain ⟨f, rfl⟩ : ∃ m, f = m + 1 := ⟨f - 1, by omega⟩
    cases ts with
    | cons t l => simp at hl
    | nil =>
      obtain ⟨rfl, n1, n2, n3⟩ := id H
      have n1' : ¬ B.1 244 (800 * q + h) = 43 := n1
      have n2' : ¬ B.1 244 (800 * q + h) = 45 := n2
      rw [L_X11_sumOf_5, bnd1_e (here_eq hB (by omega)), if_neg n1', bnd1_e (here_eq hB (by omega)), if_neg n2']
      unfold tot vs; rw [Int32.add_zero]; rfl
  | succ n ih =>
    intro ts h h' c f u hl H hhd hh hf
    obtain ⟨f, rfl⟩ : ∃ m, f = m + 1 := ⟨f - 1, by omega⟩
    cases ts with
    | nil =>
      obtain ⟨rfl, n1, n2, n3⟩ := id H
      have n1' : ¬ B.1 244 (800 * q + h) = 43 := n1
      have n2' : ¬ B.1 244 (800 * q + h) = 45 := n2
      rw [L_X11_sumOf_5, bnd1_e (here_eq hB (by omega)), if_neg n1', bnd1_e (here_eq hB (by omega)), if_neg n2']
      unfold tot vs; rw [Int32.add_zero]; rfl
    | cons t ts =>
      have hle := TailM.le _ _ _ H
      simp only [List.length_cons] at hle hl
      obtain ⟨hj, hw, h1, H1, H2⟩ := id H
      have hle2 := TailM.le _ _ _ H2
      have hw' : B.1 244 (800 * q + h) = opW t.1 := hw
      have h34 := hhd t ts rfl
      have hpr : ∃ h2, R_X11_productOf mA (mst B (h + 1) c) = some ((mulp (ownF (B.1 mA) r) (senF (B.1 mA) r) ts (valT (ownF (B.1 mA) r) (senF (B.1 mA) r) t)).1, mst B h2 (c + 1 + (ts.length - (mulp (ownF (B.1 mA) r) (senF (B.1 mA) r) ts (valT (ownF (B.1 mA) r) (senF (B.1 mA) r) t)).2.length))) ∧ TailM (wF B q) (vF B q) (mulp (ownF (B.1 mA) r) (senF (B.1 mA) r) ts (valT (ownF (B.1 mA) r) (senF (B.1 mA) r) t)).2 h2 h' := by
        obtain ⟨h2, g1, g2⟩ := prod_loop hB hm ts h1 h' (c + 1) FUEL (valT (ownF (B.1 mA) r) (senF (B.1 mA) r) t) H2 hh (by unfold FUEL; omega)
        refine ⟨h2, ?_, g2⟩
        unfold R_X11_productOf
        rw [bnd2_e (term_M hB hm H1 (by omega)), bnd2_e g1]
      obtain ⟨h2, g1, g2⟩ := hpr
      have hml := mulp_len (own := ownF (B.1 mA) r) (sen := senF (B.1 mA) r) ts (valT (ownF (B.1 mA) r) (senF (B.1 mA) r) t)
      have hmh := mulp_head (own := ownF (B.1 mA) r) (sen := senF (B.1 mA) r) ts (valT (ownF (B.1 mA) r) (senF (B.1 mA) r) t)
      have hmn := mulp_neg (own := ownF (B.1 mA) r) (sen := senF (B.1 mA) r) ts (valT (ownF (B.1 mA) r) (senF (B.1 mA) r) t)
      have htm := tot_mulp (own := ownF (B.1 mA) r) (sen := senF (B.1 mA) r) ts
      rw [L_X11_sumOf_5, bnd1_e (here_eq hB (by omega)), hw']
      rcases (show t.1 = 32 ∨ t.1 = 33 by rcases hj with e | e | e <;> first | exact Or.inl e | exact Or.inr e | exact absurd e h34) with e | e
      · rw [if_pos (show opW t.1 = 43 by rw [e]; decide), bnd1_e (here_eq hB (by omega)), hw', if_neg (show ¬ opW t.1 = 45 by rw [e]; decide), bd1_s, mst_inc, bnd2_e g1, if_pos rfl, bd1_s]
        have := ih _ h2 h' (c + 1 + (ts.length - (mulp (ownF (B.1 mA) r) (senF (B.1 mA) r) ts (valT (ownF (B.1 mA) r) (senF (B.1 mA) r) t)).2.length)) f (u + (mulp (ownF (B.1 mA) r) (senF (B.1 mA) r) ts (valT (ownF (B.1 mA) r) (senF (B.1 mA) r) t)).1) (by omega) g2 hmh hh (by omega)
        rw [this]
        have ev : tot (ownF (B.1 mA) r) (senF (B.1 mA) r) (t :: ts) u 0 = tot (ownF (B.1 mA) r) (senF (B.1 mA) r) (mulp (ownF (B.1 mA) r) (senF (B.1 mA) r) ts (valT (ownF (B.1 mA) r) (senF (B.1 mA) r) t)).2 (u + (mulp (ownF (B.1 mA) r) (senF (B.1 mA) r) ts (valT (ownF (B.1 mA) r) (senF (B.1 mA) r) t)).1) 0 := by
          rw [← tot_flat hmh, ← htm]
          unfold tot
          rw [vs, if_neg h34, Int32.add_zero, if_neg (show ¬ t.1 = 33 by rw [e]; decide)]
        rw [ev]
        simp only [List.length_cons]
        rw [show c + (ts.length + 1) = c + 1 + (ts.length - (mulp (ownF (B.1 mA) r) (senF (B.1 mA) r) ts (valT (ownF (B.1 mA) r) (senF (B.1 mA) r) t)).2.length) + (mulp (ownF (B.1 mA) r) (senF (B.1 mA) r) ts (valT (ownF (B.1 mA) r) (senF (B.1 mA) r) t)).2.length by omega]
      · rw [if_neg (show ¬ opW t.1 = 43 by rw [e]; decide), bnd1_e (here_eq hB (by omega)), hw', if_pos (show opW t.1 = 45 by rw [e]; decide), bnd1_e (here_eq hB (by omega)), hw', if_pos (show opW t.1 = 45 by rw [e]; decide), bd1_s, mst_inc, bnd2_e g1, if_neg n10, bd1_s]
        have := ih _ h2 h' (c + 1 + (ts.length - (mulp (ownF (B.1 mA) r) (senF (B.1 mA) r) ts (valT (ownF (B.1 mA) r) (senF (B.1 mA) r) t)).2.length)) f (u - (mulp (ownF (B.1 mA) r) (senF (B.1 mA) r) ts (valT (ownF (B.1 mA) r) (senF (B.1 mA) r) t)).1) (by omega) g2 hmh hh (by omega)
        rw [this]
        have ev : tot (ownF (B.1 mA) r) (senF (B.1 mA) r) (t :: ts) u 0 = tot (ownF (B.1 mA) r) (senF (B.1 mA) r) (mulp (ownF (B.1 mA) r) (senF (B.1 mA) r) ts (valT (ownF (B.1 mA) r) (senF (B.1 mA) r) t)).2 (u - (mulp (ownF (B.1 mA) r) (senF (B.1 mA) r) ts (valT (ownF (B.1 mA) r) (senF (B.1 mA) r) t)).1) 0 := by
          rw [Int32.sub_eq_add_neg, ← tot_flat hmh]
          have e2 := htm u (-(valT (ownF (B.1 mA) r) (senF (B.1 mA) r) t))
          rw [hmn] at e2
          dsimp only at e2
          rw [← e2]
          unfold tot
          rw [vs, if_neg h34, Int32.add_zero, if_pos e]
        rw [ev]
        simp only [List.length_cons]
        rw [show c + (ts.length + 1) = c + 1 + (ts.length - (mulp (ownF (B.1 mA) r) (senF (B.1 mA) r) ts (valT (ownF (B.1 mA) r) (senF (B.1 mA) r) t)).2.length) + (mulp (ownF (B.1 mA) r) (senF (B.1 mA) r) ts (valT (ownF (B.1 mA) r) (senF (B.1 mA) r) t)).2.length by omega]
theorem sum_M {B : Mem} {q r mA c h h' : Nat} {sm : Sm} (hB : MB B q r) (hm : mA = 259 ∨ mA = 260) (H : SumM (wF B q) (vF B q) sm h h') (hh : h' < 800) : R_X11_sumOf mA (mst B h c) = some (valS (ownF (B.1 mA) r) (senF (B.1 mA) r) sm, mst B h' (c + sm.length)) := by
  obtain ⟨t, ts, h1, rfl, e32, H1, H2⟩ := H
  have hle2 := TailM.le _ _ _ H2
  obtain ⟨h2, g1, g2⟩ := prod_loop hB hm ts h1 h' (c + 1) FUEL (valT (ownF (B.1 mA) r) (senF (B.1 mA) r) t) H2 hh (by unfold FUEL; omega)
  have hml := mulp_len (own := ownF (B.1 mA) r) (sen := senF (B.1 mA) r) ts (valT (ownF (B.1 mA) r) (senF (B.1 mA) r) t)
  have hmh := mulp_head (own := ownF (B.1 mA) r) (sen := senF (B.1 mA) r) ts (valT (ownF (B.1 mA) r) (senF (B.1 mA) r) t)
  have hs := sum_loop hB hm (mulp (ownF (B.1 mA) r) (senF (B.1 mA) r) ts (valT (ownF (B.1 mA) r) (senF (B.1 mA) r) t)).2.length _ h2 h' (c + 1 + (ts.length - (mulp (ownF (B.1 mA) r) (senF (B.1 mA) r) ts (valT (ownF (B.1 mA) r) (senF (B.1 mA) r) t)).2.length)) FUEL (mulp (ownF (B.1 mA) r) (senF (B.1 mA) r) ts (valT (ownF (B.1 mA) r) (senF (B.1 mA) r) t)).1 (Nat.le_refl _) g2 hmh hh (by unfold FUEL; omega)
  unfold R_X11_sumOf R_X11_productOf
  rw [bnd2_e (term_M hB hm H1 (by omega)), bnd2_e g1, bnd2_s, bnd2_e hs]
  have ev : valS (ownF (B.1 mA) r) (senF (B.1 mA) r) (t :: ts) = tot (ownF (B.1 mA) r) (senF (B.1 mA) r) (mulp (ownF (B.1 mA) r) (senF (B.1 mA) r) ts (valT (ownF (B.1 mA) r) (senF (B.1 mA) r) t)).2 (mulp (ownF (B.1 mA) r) (senF (B.1 mA) r) ts (valT (ownF (B.1 mA) r) (senF (B.1 mA) r) t)).1 0 := by
    have e3 := tot_flat (own := ownF (B.1 mA) r) (sen := senF (B.1 mA) r) (u := 0) (w := (mulp (ownF (B.1 mA) r) (senF (B.1 mA) r) ts (valT (ownF (B.1 mA) r) (senF (B.1 mA) r) t)).1) hmh
    rw [Int32.zero_add] at e3
    rw [← e3, ← tot_mulp]
    unfold valS tot
    rw [vs, if_neg (show ¬ t.1 = 34 by rw [e32]; decide), if_neg (show ¬ t.1 = 33 by rw [e32]; decide), Int32.add_zero]
  rw [ev]
  simp only [List.length_cons]
  rw [show c + (ts.length + 1) = c + 1 + (ts.length - (mulp (ownF (B.1 mA) r) (senF (B.1 mA) r) ts (valT (ownF (B.1 mA) r) (senF (B.1 mA) r) t)).2.length) + (mulp (ownF (B.1 mA) r) (senF (B.1 mA) r) ts (valT (ownF (B.1 mA) r) (senF (B.1 mA) r) t)).2.length by omega]
