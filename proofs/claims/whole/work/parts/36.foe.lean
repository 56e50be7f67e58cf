/-! ===== the nearest foe ===== -/
/-- the nearest so far -/
def nfS (d : Nat → Nat) (s : Option Nat) (f : Nat) : Option Nat := match s with
  | none => some f
  | some g => if d f < d g then some f else some g
def nf (d : Nat → Nat) : Nat → Nat → Option Nat → Option Nat
  | 0, _, s => s
  | n + 1, f, s => nf d n (f + 1) (nfS d s f)
def enc (s : Option Nat) : Int32 := match s with
  | none => -1
  | some g => nI g
def encD (d : Nat → Nat) (s : Option Nat) : Int32 := match s with
  | none => 15
  | some g => nI (d g)
def sLt (s : Option Nat) : Prop := ∀ g, s = some g → g < 10
theorem nfS_lt {d : Nat → Nat} {s : Option Nat} {f : Nat} (h : sLt s) (hf : f < 10) : sLt (nfS d s f) := by
  intro g e
  cases s with
  | none => simp only [nfS, Option.some.injEq] at e; omega
  | some k =>
    simp only [nfS] at e
    split at e
    · simp only [Option.some.injEq] at e; omega
    · exact h g e
theorem nf_lt {d : Nat → Nat} : ∀ (n f : Nat) (s : Option Nat), f + n ≤ 10 → sLt s → sLt (nf d n f s) := by
  intro n
  induction n with
  | zero => intro f s _ h; exact h
  | succ n ih => intro f s hf h; exact ih (f + 1) _ (by omega) (nfS_lt h (by omega))
theorem nf_some {d : Nat → Nat} : ∀ (n f : Nat) (s : Option Nat), (s ≠ none ∨ 0 < n) → nf d n f s ≠ none := by
  intro n
  induction n with
  | zero => intro f s h; exact h.elim id (fun q => by omega)
  | succ n ih =>
    intro f s _
    refine ih (f + 1) _ (Or.inl ?_)
    cases s with
    | none => intro q; cases q
    | some k => simp only [nfS]; split <;> (intro q; cases q)
/-- the robots' cells, as numbers -/
def PosN (ρ : Nat → Int32) (px py : Nat → Nat) : Prop := ∀ r, r < 10 → px r < 15 ∧ py r < 9 ∧ ρ (44 + 16 * r) = nI (px r) ∧ ρ (44 + 16 * r + 1) = nI (py r)
theorem PosN_ex {ρ : Nat → Int32} (h : ∀ r, r < 10 → XYI ρ r) : ∃ px py, PosN ρ px py := by
  refine ⟨fun r => (ρ (44 + 16 * r)).toNatClampNeg, fun r => (ρ (44 + 16 * r + 1)).toNatClampNeg, fun r hr => ?_⟩
  obtain ⟨x, y, h1, h2, h3, h4⟩ := h r hr
  dsimp only
  rw [h3, h4, nI_clamp (by omega), nI_clamp (by omega)]
  exact ⟨h1, h2, rfl, rfl⟩
theorem nfoe_M {mA h hi : Nat} {B : Mem} {px py : Nat → Nat} (hh : h < 10) (hhi : (h < 5 ∧ hi = 10) ∨ (5 ≤ h ∧ hi = 5)) (hP : PosN (B.1 mA) px py) : ∀ (n f : Nat) (s : Option Nat) (fu : Nat), f + n = hi → n < fu → sLt s → L_X11_nearestFoe_13 (nI h) mA fu (enc s) (nI f) B = some (enc (nf (fun g => dst (px h) (py h) (px g) (py g)) n f s)) := by
  have ehi : (if (5 : Int32) ≤ (nI h) then (5 : Int32) else (10 : Int32)) = nI hi := by
    rcases hhi with ⟨a, rfl⟩ | ⟨a, rfl⟩
    · rw [if_neg (nleL (y := 5) 5 a rfl (by decide))]; rfl
    · rw [if_pos (leL (y := 5) 5 a rfl (by omega))]; rfl
  obtain ⟨hx1, hx2, hx3, hx4⟩ := hP h hh
  have oh0 := of_eq (r := h) (c := 0) (w := 0) (mA := mA) (M := B) hh (by decide) rfl
  have oh1 := of_eq (r := h) (c := 1) (w := 1) (mA := mA) (M := B) hh (by decide) rfl
  rw [Nat.add_zero, hx3] at oh0
  rw [hx4] at oh1
  intro n
  induction n with
  | zero =>
    intro f s fu hf hn _
    obtain ⟨fu, rfl⟩ : ∃ m, fu = m + 1 := ⟨fu - 1, by omega⟩
    rw [L_X11_nearestFoe_13, ehi, bd1_s, if_pos (nI_le (by omega) (by omega))]
    rfl
  | succ n ih =>
    intro f s fu hf hn hs
    obtain ⟨fu, rfl⟩ : ∃ m, fu = m + 1 := ⟨fu - 1, by omega⟩
    have hf10 : f < 10 := by omega
    obtain ⟨fx1, fx2, fx3, fx4⟩ := hP f hf10
    have of0 := of_eq (r := f) (c := 0) (w := 0) (mA := mA) (M := B) hf10 (by decide) rfl
    have of1 := of_eq (r := f) (c := 1) (w := 1) (mA := mA) (M := B) hf10 (by decide) rfl
    rw [Nat.add_zero, fx3] at of0
    rw [fx4] at of1
    rw [L_X11_nearestFoe_13, ehi, bd1_s, if_neg (nI_ge (by omega) (by omega)), bnd1_e oh0, bnd1_e oh1, bnd1_e of0, bnd1_e of1, bd1_s, dist_eq' (by omega) (by omega) (by omega) (by omega), nI_1]
    have key : (if enc s < 0 then (some (nI f)) else (bnd1 (R_X11_of (nI h) (0 : Int32) mA B) (fun v14 => bnd1 (R_X11_of (nI h) (1 : Int32) mA B) (fun v15 => bnd1 (R_X11_of (enc s) (0 : Int32) mA B) (fun v16 => bnd1 (R_X11_of (enc s) (1 : Int32) mA B) (fun v17 => if (V_X11_distance v14 v15 v16 v17 B) ≤ (nI (dst (px h) (py h) (px f) (py f))) then (some (enc s)) else (some (nI f)))))))) = some (enc (nfS (fun g => dst (px h) (py h) (px g) (py g)) s f)) := by
      cases s with
      | none => rw [show enc none = -1 from rfl, if_pos m1_lt]; rfl
      | some g =>
        have hg := hs g rfl
        obtain ⟨gx1, gx2, gx3, gx4⟩ := hP g hg
        have og0 := of_eq (r := g) (c := 0) (w := 0) (mA := mA) (M := B) hg (by decide) rfl
        have og1 := of_eq (r := g) (c := 1) (w := 1) (mA := mA) (M := B) hg (by decide) rfl
        rw [Nat.add_zero, gx3] at og0
        rw [gx4] at og1
        rw [show enc (some g) = nI g from rfl, if_neg (nI_pos (by omega)), bnd1_e oh0, bnd1_e oh1, bnd1_e og0, bnd1_e og1, dist_eq' (by omega) (by omega) (by omega) (by omega)]
        have d1 := dst_lt hx1 hx2 fx1 fx2
        have d2 := dst_lt hx1 hx2 gx1 gx2
        simp only [nfS]
        by_cases c : dst (px h) (py h) (px f) (py f) < dst (px h) (py h) (px g) (py g)
        · rw [if_pos c, if_neg (nI_ge c (by omega))]; rfl
        · rw [if_neg c, if_pos (nI_le (by omega) (by omega))]; rfl
    rw [bnd1_e key]
    exact ih (f + 1) _ fu (by omega) (by omega) (nfS_lt hs hf10)
theorem nfoe_C {b h : Nat} {A : Mem} {ρ : Nat → Int32} {px py : Nat → Nat} (hh : h < 10) (hP : PosN ρ px py) (hX : ∀ r, r < 10 → XYR b A ρ r) (hb0 : A.1 (b + 4) 0 = nI (px h)) (hb1 : A.1 (b + 4) 1 = nI (py h)) (hb2 : A.1 (b + 4) 2 = nI h) : ∀ (n f : Nat) (s : Option Nat), f + n ≤ 10 → sLt s → L_X2_giveToFoe_7 b (n + 1) f (enc s) (encD (fun g => dst (px h) (py h) (px g) (py g)) s) A = if f / 5 = h / 5 then L_X2_giveToFoe_7 b n (f + 1) (enc s) (encD (fun g => dst (px h) (py h) (px g) (py g)) s) A else (if f < 10 then L_X2_giveToFoe_7 b n (f + 1) (enc (nfS (fun g => dst (px h) (py h) (px g) (py g)) s f)) (encD (fun g => dst (px h) (py h) (px g) (py g)) (nfS (fun g => dst (px h) (py h) (px g) (py g)) s f)) A else L_X2_giveToFoe_7 b (n + 1) f (enc s) (encD (fun g => dst (px h) (py h) (px g) (py g)) s) A) := by
  intro n f s hf hs
  by_cases c0 : f / 5 = h / 5
  · rw [if_pos c0, L_X2_giveToFoe_7, hb2, show (5 : Int32) = nI 5 from rfl, pk_div (by omega) (by decide) (by decide), pk_div (by omega) (by decide) (by decide), c0, bd1_s, if_pos rfl, bd2_s]
  · rw [if_neg c0]
    by_cases c1 : f < 10
    · rw [if_pos c1]
      obtain ⟨fx1, fx2, fx3, fx4⟩ := hP f c1
      obtain ⟨hx1, hx2, _, _⟩ := hP h hh
      have d1 := dst_lt hx1 hx2 fx1 fx2
      have e5 : ¬ nI f / (5 : Int32) = nI h / (5 : Int32) := by
        rw [show (5 : Int32) = nI 5 from rfl, pk_div (by omega) (by decide) (by decide), pk_div (by omega) (by decide) (by decide)]
        exact fun q => c0 ((nI_eq (by omega) (by omega)).mp q)
      rw [L_X2_giveToFoe_7, hb2, hb0, hb1, (hX f c1).1, (hX f c1).2, fx3, fx4, dist_eq (by omega) (by omega) (by omega) (by omega), bd1_s, if_neg e5]
      cases s with
      | none =>
        rw [show encD (fun g => dst (px h) (py h) (px g) (py g)) none = 15 from rfl, if_neg (nleL (y := 15) 15 d1 rfl (by decide)), bd2_s]
        rfl
      | some g =>
        have hg := hs g rfl
        obtain ⟨gx1, gx2, _, _⟩ := hP g hg
        have d2 := dst_lt hx1 hx2 gx1 gx2
        rw [show encD (fun g => dst (px h) (py h) (px g) (py g)) (some g) = nI (dst (px h) (py h) (px g) (py g)) from rfl]
        simp only [nfS]
        by_cases c : dst (px h) (py h) (px f) (py f) < dst (px h) (py h) (px g) (py g)
        · rw [if_pos c, if_neg (nI_ge c (by omega)), bd2_s]; rfl
        · rw [if_neg c, if_pos (nI_le (by omega) (by omega)), bd2_s]; rfl
    · rw [if_neg c1]
theorem nfoe_loop {b h : Nat} {A : Mem} {ρ : Nat → Int32} {px py : Nat → Nat} (hh : h < 10) (hP : PosN ρ px py) (hX : ∀ r, r < 10 → XYR b A ρ r) (hb0 : A.1 (b + 4) 0 = nI (px h)) (hb1 : A.1 (b + 4) 1 = nI (py h)) (hb2 : A.1 (b + 4) 2 = nI h) (yes : Bool) : ∀ (m n f : Nat) (s : Option Nat), (∀ k, f ≤ k → k < f + m → (k / 5 = h / 5) = (yes = false)) → f + m + n ≤ 10 → sLt s → L_X2_giveToFoe_7 b (m + n) f (enc s) (encD (fun g => dst (px h) (py h) (px g) (py g)) s) A = L_X2_giveToFoe_7 b n (f + m) (enc (if yes = true then nf (fun g => dst (px h) (py h) (px g) (py g)) m f s else s)) (encD (fun g => dst (px h) (py h) (px g) (py g)) (if yes = true then nf (fun g => dst (px h) (py h) (px g) (py g)) m f s else s)) A := by
  intro m
  induction m with
  | zero => intro n f s _ _ _; rw [Nat.zero_add, Nat.add_zero]; cases yes <;> rfl
  | succ m ih =>
    intro n f s hk hb hs
    rw [show m + 1 + n = (m + n) + 1 by omega, nfoe_C hh hP hX hb0 hb1 hb2 (m + n) f s (by omega) hs]
    have h0 := hk f (Nat.le_refl _) (by omega)
    cases yes with
    | false =>
      rw [if_pos (h0.mpr rfl), ih n (f + 1) s (fun k a1 a2 => hk k (by omega) (by omega)) (by omega) hs, show f + 1 + m = f + (m + 1) by omega]
      rfl
    | true =>
      rw [if_neg (fun q => Bool.noConfusion (h0.mp q)), if_pos (by omega), ih n (f + 1) _ (fun k a1 a2 => hk k (by omega) (by omega)) (by omega) (nfS_lt hs (by omega)), show f + 1 + m = f + (m + 1) by omega]
      rfl
theorem foe_sim {b mA t : Nat} {SV : Nat → Nat → Prop} {A0 B0 A B : Mem} {h : Nat} (hm : mA ≠ 242) (hh : h < 10) (hH : B.1 mA 16 = nI h) (hK : TK b mA t SV A0 B0 A B) : ∃ A' B' j, R_X2_giveToFoe b A = some A' ∧ R_X11_nearestFoe (nI h) mA B = some (nI j) ∧ R_X11_hold (nI j) mA B = some B' ∧ TK b mA t SV A0 B0 A' B' := by
  obtain ⟨h1, h2, h3, h4, h5, ⟨hE, hF, hS⟩, h7, h8⟩ := id hK
  obtain ⟨px, py, hP⟩ := PosN_ex (ρ := B.1 mA) (fun r hr => (h7 r hr).2.1)
  obtain ⟨_, e0, e1, e2, _⟩ := hE
  have hball : B.1 mA 14 = nI (px h) ∧ B.1 mA 15 = nI (py h) := by
    rcases hF with hF | ⟨k, a1, a2, a3, a4, a5, a6, a7, a8, a9⟩
    · rw [hF.1] at hH; exact absurd (hH ▸ nI_pos' (by omega)) m1_nle
    · have : k = h := (nI_eq (by omega) (by omega)).mp (a2.symm.trans hH)
      subst this
      exact ⟨a8.trans (hP k hh).2.2.1, a9.trans (hP k hh).2.2.2⟩
  have b0 := e0.trans hball.1
  have b1 := e1.trans hball.2
  have b2 := e2.trans hH
  have n0 : sLt none := fun g e => by cases e
  -- the result
  obtain ⟨j, hj, hC, hM⟩ : ∃ j, j < 10 ∧ L_X2_giveToFoe_7 b 10 0 (-1) 15 A = some (nI j) ∧ R_X11_nearestFoe (nI h) mA B = some (nI j) := by
    by_cases c : h < 5
    · have hm1 := nfoe_M (B := B) (mA := mA) hh (Or.inl ⟨c, rfl⟩) hP 5 5 none FUEL rfl (by unfold FUEL; omega) n0
      have hc1 := nfoe_loop (b := b) hh hP (XYR_all h7) b0 b1 b2 false 5 5 0 none (fun k a1 a2 => by rw [eq_self]; exact eq_true (by omega)) (by omega) n0
      have hc2 := nfoe_loop (b := b) hh hP (XYR_all h7) b0 b1 b2 true 5 0 5 none (fun k a1 a2 => by rw [show (true = false) = False by simp]; exact eq_false (by omega)) (by omega) n0
      have hs := nf_some (d := fun g => dst (px h) (py h) (px g) (py g)) 5 5 none (Or.inr (by decide))
      have hl := nf_lt (d := fun g => dst (px h) (py h) (px g) (py g)) 5 5 none (by decide) n0
      generalize hz : nf (fun g => dst (px h) (py h) (px g) (py g)) 5 5 none = z at hm1 hs hl
      cases z with
      | none => exact absurd rfl hs
      | some j =>
        refine ⟨j, hl j rfl, ?_, ?_⟩
        · rw [if_neg (by decide)] at hc1
          rw [if_pos rfl, hz] at hc2
          exact hc1.trans (hc2.trans rfl)
        · unfold R_X11_nearestFoe
          rw [if_neg (nleL (y := 5) 5 c rfl (by decide)), bd1_s]
          exact (bnd1_e hm1)
    · have hm1 := nfoe_M (B := B) (mA := mA) hh (Or.inr ⟨by omega, rfl⟩) hP 5 0 none FUEL rfl (by unfold FUEL; omega) n0
      have hc1 := nfoe_loop (b := b) hh hP (XYR_all h7) b0 b1 b2 true 5 5 0 none (fun k a1 a2 => by rw [show (true = false) = False by simp]; exact eq_false (by omega)) (by omega) n0
      have hs := nf_some (d := fun g => dst (px h) (py h) (px g) (py g)) 5 0 none (Or.inr (by decide))
      have hl := nf_lt (d := fun g => dst (px h) (py h) (px g) (py g)) 5 0 none (by decide) n0
      generalize hz : nf (fun g => dst (px h) (py h) (px g) (py g)) 5 0 none = z at hm1 hs hl hc1
      cases z with
      | none => exact absurd rfl hs
      | some j =>
        have hc2 := nfoe_loop (b := b) hh hP (XYR_all h7) b0 b1 b2 false 5 0 5 (some j) (fun k a1 a2 => by rw [eq_self]; exact eq_true (by omega)) (by omega) hl
        refine ⟨j, hl j rfl, ?_, ?_⟩
        · rw [if_pos rfl] at hc1
          rw [if_neg (by decide)] at hc2
          exact hc1.trans (hc2.trans rfl)
        · unfold R_X11_nearestFoe
          rw [if_pos (leL (y := 5) 5 (by omega) rfl (by omega)), bd1_s]
          exact (bnd1_e hm1)
  have hT := hK.t0.hold hm hj
  obtain ⟨jx, jy⟩ := (h7 j hj).1
  refine ⟨_, _, j, ?_, hM, hold_M hj, hT⟩
  unfold R_X2_giveToFoe
  rw [bnd1_e hC, if_neg (nI_pos (by omega)), ck_nI hj (by omega), ck_nI hj (by omega), nI_clamp (by omega), bd1_s, bnd1_s, jx, jy, h4.2.2.1]
  rfl
