/-- the command's cells are those of a stay -/
def STm (mA r : Nat) (B : Mem) : Prop := B.1 mA (44 + 16 * r + 10) = 0 ∧ B.1 262 r = 0 ∧ B.1 263 r = 0
def CMm (mA r : Nat) (B : Mem) (w x y p : Int32) : Prop := B.1 mA (44 + 16 * r + 10) = w ∧ B.1 262 r = trF r (cut3 x) ∧ B.1 263 r = trF r (cut3 y) ∧ (w = 2 → B.1 264 r = cut9 p) ∧ (w = 0 ∨ w = 1 ∨ w = 2)
/-- what is known of the model's memory behind acts or rules -/
def MAf (mA r : Nat) (B0 B' : Mem) (res : XR × XS) (u : Bool) : Prop := MRf mA r B0 B' ∧ ownF (B'.1 mA) r = res.2.2.1 ∧ (res.2.1 ≤ 80 → B'.1 242 41 = res.2.2.2 ∧ ((u = false ∧ res.1 = none ∧ STm mA r B') ∨ (u = true ∧ ∃ w x y p, res.1 = some (w, x, y, p) ∧ CMm mA r B' w x y p)))
theorem own_setM {mA r k : Nat} {v : Int32} {B : Mem} (hk : k < 4) : ownF ((setI B mA (44 + 16 * r + (4 + k)) v).1 mA) r = uO (ownF (B.1 mA) r) (nI k) v := by
  funext j
  unfold ownF uO
  rw [nI_clamp (by omega)]
  dsimp only
  by_cases e : j = k
  · subst e; rw [if_pos hk, if_pos rfl, show 44 + 16 * r + 4 + j = 44 + 16 * r + (4 + j) by omega, gs_eI]
  · rw [if_neg e]
    by_cases c : j < 4
    · rw [if_pos c, if_pos c, gI (Or.inr (by omega))]
    · rw [if_neg c, if_neg c]
theorem ownF_cg {r : Nat} {ρ σ : Nat → Int32} (h : ∀ k, 4 ≤ k → k < 8 → σ (44 + 16 * r + k) = ρ (44 + 16 * r + k)) : ownF σ r = ownF ρ r := by
  funext j
  unfold ownF
  by_cases c : j < 4
  · rw [if_pos c, if_pos c, show 44 + 16 * r + 4 + j = 44 + 16 * r + (4 + j) by omega, h _ (by omega) (by omega)]
  · rw [if_neg c, if_neg c]
theorem act_go {B : Mem} {mA q r h c : Nat} (hB : MB B q r) (hh : h + 1 < 800) (hw : wF B q h = 13) : R_X11_actEnds mA (mst B h c) = some (0, mst (if c + 1 ≤ 80 then setI B 242 41 (vF B q (h + 1)) else B) (h + 3) (c + 1)) := by
  have hw' : B.1 244 (800 * q + h) = 13 := hw
  have e1 : nI (800 * q) + (nI h + (1 : Int32)) = nI (800 * q + (h + 1)) := by rw [nI_1, nI_add]
  unfold R_X11_actEnds
  rw [mst_step, bnd1_e (here_eq hB (by omega)), hw', if_pos rfl, mst_37, mst_35, mst_j (show 34 ≠ 35 ∧ 34 ≠ 36 ∧ 34 ≠ 37 by decide), hB.2.2.1, e1, mst_s35 (nI_1 h)]
  have e3 : ∀ (B : Mem), setI (mst B (h + 1) (c + 1)) 242 35 (nI h + (1 : Int32) + (2 : Int32)) = mst B (h + 3) (c + 1) := fun B => mst_s35 (by rw [nI_1, show (2 : Int32) = nI 2 from rfl, nI_add])
  have hq := hB.1
  by_cases k : c + 1 ≤ 80
  · rw [if_pos k, if_pos rfl, if_pos k, ck_nI (by omega) (by omega), nI_clamp (by omega), mst_d (by decide), bnd1_s, mst_c (Or.inr (by decide)), e3]; rfl
  · rw [if_neg k, if_neg n10, if_neg k, bnd1_s, mst_j (by decide), mst_c (Or.inr (by decide)), setI_self rfl, e3]
theorem act_set {B : Mem} {mA q r h h1 c k : Nat} {s : Sm} (hm : mA = 259 ∨ mA = 260) (hB : MB B q r) (hw : wF B q h = 14) (hv : vF B q (h + 1) = nI k) (hk : k < 4) (hS : SumM (wF B q) (vF B q) s (h + 2) h1) (hh : h1 < 800) : R_X11_actEnds mA (mst B h c) = some (0, mst (if c + 1 + s.length ≤ 80 then setI B mA (44 + 16 * r + (4 + k)) (valS (ownF (B.1 mA) r) (senF (B.1 mA) r) s) else B) (h1 + 1) (c + 1 + s.length)) := by
  have hl := hS.lt
  have hw' : B.1 244 (800 * q + h) = 14 := hw
  have hv' : B.1 245 (800 * q + (h + 1)) = nI k := hv
  have e1 : nI (800 * q) + (nI h + (1 : Int32)) = nI (800 * q + (h + 1)) := by rw [nI_1, nI_add]
  have e2 : setI (mst B (h + 1) (c + 1)) 242 35 (nI h + (1 : Int32) + (1 : Int32)) = mst B (h + 2) (c + 1) := mst_s35 (by rw [nI_1, nI_1])
  have hq := hB.1
  unfold R_X11_actEnds
  rw [mst_step, bnd1_e (here_eq hB (by omega)), hw', if_neg (by decide), if_pos rfl, mst_35, mst_j (show 34 ≠ 35 ∧ 34 ≠ 36 ∧ 34 ≠ 37 by decide), hB.2.2.1, e1, ck_nI (by omega) (by omega), nI_clamp (by omega), mst_d (show 245 ≠ 242 by decide), hv', bd1_s, mst_s35 (nI_1 h), e2, bnd2_e (sum_M hB hm hS hh), mst_37]
  by_cases k80 : c + 1 + s.length ≤ 80
  · have e4 : (4 : Int32) + nI k = nI (4 + k) := by rw [show (4 : Int32) = nI 4 from rfl, nI_add]
    rw [if_pos k80, if_pos rfl, if_pos k80, mst_j (by decide), hB.2.2.2, e4, bnd1_e (set_eq (c := 4 + k) hB.2.1 (by omega) rfl), bnd1_s, mst_c (Or.inl (by omega)), mst_inc]
  · rw [if_neg k80, if_neg n10, if_neg k80, bnd1_s, mst_inc]
theorem act_stay {B : Mem} {mA q r h c : Nat} (hB : MB B q r) (hh : h < 800) (hw : wF B q h = 18) : R_X11_actEnds mA (mst B h c) = some (1, mst B (h + 1) (c + 1)) := by
  have hw' : B.1 244 (800 * q + h) = 18 := hw
  unfold R_X11_actEnds
  rw [mst_step, bnd1_e (here_eq hB (by omega)), hw', if_neg (by decide), if_neg (by decide), if_pos rfl, mst_inc]
theorem act_move {B : Mem} {mA q r h h1 h2 c : Nat} {k : Int32} {s1 s2 : Sm} (hm : mA = 259 ∨ mA = 260) (hB : MB B q r) (hk : k = 5 ∨ k = 6) (hw : wF B q h = k + 10) (hS1 : SumM (wF B q) (vF B q) s1 (h + 1) h1) (hS2 : SumM (wF B q) (vF B q) s2 h1 h2) (hh : h2 < 800) : R_X11_actEnds mA (mst B h c) = some (1, mst (if c + 1 + s1.length + s2.length ≤ 80 then goesM mA r 1 (if k = 6 then valS (ownF (B.1 mA) r) (senF (B.1 mA) r) s1 - tX r (B.1 mA (44 + 16 * r)) else valS (ownF (B.1 mA) r) (senF (B.1 mA) r) s1) (if k = 6 then valS (ownF (B.1 mA) r) (senF (B.1 mA) r) s2 - tY r (B.1 mA (44 + 16 * r + 1)) else valS (ownF (B.1 mA) r) (senF (B.1 mA) r) s2) 1 B else B) h2 (c + 1 + s1.length + s2.length)) := by
  have hl1 := hS1.lt
  have hl2 := hS2.lt
  have hw' : B.1 244 (800 * q + h) = k + 10 := hw
  have hr := hB.2.1
  unfold R_X11_actEnds
  rw [mst_step, bnd1_e (here_eq hB (by omega)), hw', mst_inc]
  have w13 : ¬ k + 10 = (13 : Int32) := by rcases hk with e | e <;> rw [e] <;> decide
  have w14 : ¬ k + 10 = (14 : Int32) := by rcases hk with e | e <;> rw [e] <;> decide
  have w18 : ¬ k + 10 = (18 : Int32) := by rcases hk with e | e <;> rw [e] <;> decide
  have w17 : ¬ k + 10 = (17 : Int32) := by rcases hk with e | e <;> rw [e] <;> decide
  have w16 : k + 10 = (16 : Int32) ↔ k = 6 := by rcases hk with e | e <;> rw [e] <;> decide
  rw [if_neg w13, if_neg w14, if_neg w18, bnd2_e (sum_M hB hm hS1 (by omega)), bnd2_e (sum_M hB hm hS2 hh), if_neg w17, bnd2_s, mst_37]
  by_cases k80 : c + 1 + s1.length + s2.length ≤ 80
  · have h33' : (mst B h2 (c + 1 + s1.length + s2.length)).1 242 33 = nI r := by rw [mst_j (by decide)]; exact hB.2.2.2
    have o0 := of_eq (r := r) (c := 0) (w := 0) (mA := mA) (M := mst B h2 (c + 1 + s1.length + s2.length)) hr (by decide) rfl
    have o1 := of_eq (r := r) (c := 1) (w := 1) (mA := mA) (M := mst B h2 (c + 1 + s1.length + s2.length)) hr (by decide) rfl
    rw [Nat.add_zero, mst_d (by omega)] at o0
    rw [mst_d (by omega)] at o1
    have gg : ∀ (w x y p : Int32), R_X11_goes w x y p mA (mst B h2 (c + 1 + s1.length + s2.length)) = some (mst (goesM mA r w x y p B) h2 (c + 1 + s1.length + s2.length)) := by
      intro w x y p
      rw [goes_eq hm hr h33']
      unfold goesM
      rw [mst_c (Or.inl (by omega)), mst_c (Or.inl (by omega)), mst_c (Or.inl (by omega)), mst_c (Or.inl (by omega))]
    rw [if_pos k80, if_pos rfl, if_pos k80, h33']
    by_cases c6 : k = 6
    · rw [if_pos (w16.mpr c6), if_pos c6, if_pos c6, bnd1_e o0, (seenM hr h33').1, bd1_s, bnd1_e o1, (seenM hr h33').2, bd1_s, bnd2_s, if_neg w17, bd1_s, bnd1_e (gg _ _ _ _)]
      rfl
    · rw [if_neg (fun q => c6 (w16.mp q)), if_neg c6, if_neg c6, bnd2_s, if_neg w17, bd1_s, bnd1_e (gg _ _ _ _)]
  · rw [if_neg k80, if_neg n10, if_neg k80]
theorem act_kick {B : Mem} {mA q r h h1 h2 h3 c : Nat} {s1 s2 s3 : Sm} (hm : mA = 259 ∨ mA = 260) (hB : MB B q r) (hw : wF B q h = 17) (hS1 : SumM (wF B q) (vF B q) s1 (h + 1) h1) (hS2 : SumM (wF B q) (vF B q) s2 h1 h2) (hS3 : SumM (wF B q) (vF B q) s3 h2 h3) (hh : h3 < 800) : R_X11_actEnds mA (mst B h c) = some (1, mst (if c + 1 + s1.length + s2.length + s3.length ≤ 80 then goesM mA r 2 (valS (ownF (B.1 mA) r) (senF (B.1 mA) r) s1) (valS (ownF (B.1 mA) r) (senF (B.1 mA) r) s2) (valS (ownF (B.1 mA) r) (senF (B.1 mA) r) s3) B else B) h3 (c + 1 + s1.length + s2.length + s3.length)) := by
  have hl1 := hS1.lt
  have hl2 := hS2.lt
  have hl3 := hS3.lt
  have hw' : B.1 244 (800 * q + h) = 17 := hw
  have hr := hB.2.1
  unfold R_X11_actEnds
  rw [mst_step, bnd1_e (here_eq hB (by omega)), hw', mst_inc, if_neg (by decide), if_neg (by decide), if_neg (by decide), bnd2_e (sum_M hB hm hS1 (by omega)), bnd2_e (sum_M hB hm hS2 (by omega)), if_pos rfl, bnd2_e (sum_M hB hm hS3 hh), bnd2_s, mst_37]
  by_cases k80 : c + 1 + s1.length + s2.length + s3.length ≤ 80
  · have h33' : (mst B h3 (c + 1 + s1.length + s2.length + s3.length)).1 242 33 = nI r := by rw [mst_j (by decide)]; exact hB.2.2.2
    have gg : ∀ (w x y p : Int32), R_X11_goes w x y p mA (mst B h3 (c + 1 + s1.length + s2.length + s3.length)) = some (mst (goesM mA r w x y p B) h3 (c + 1 + s1.length + s2.length + s3.length)) := by
      intro w x y p
      rw [goes_eq hm hr h33']
      unfold goesM
      rw [mst_c (Or.inl (by omega)), mst_c (Or.inl (by omega)), mst_c (Or.inl (by omega)), mst_c (Or.inl (by omega))]
    rw [if_pos k80, if_pos rfl, if_pos k80, if_neg (by decide), bnd2_s, if_pos rfl, bd1_s, bnd1_e (gg _ _ _ _)]
  · rw [if_neg k80, if_neg n10, if_neg k80]
theorem goesMRf {mA r : Nat} {w x y p : Int32} {B0 B : Mem} (h : MRf mA r B0 B) (hm : mA = 259 ∨ mA = 260) : MRf mA r B0 (goesM mA r w x y p B) := by
  unfold goesM
  exact (((h.row hm (Or.inr rfl)).cmd hm (Or.inl rfl)).cmd hm (Or.inr (Or.inl rfl))).cmd hm (Or.inr (Or.inr rfl))
theorem goesCM {mA r : Nat} {w x y p : Int32} {B : Mem} (hm : mA = 259 ∨ mA = 260) (hw : w = 0 ∨ w = 1 ∨ w = 2) : CMm mA r (goesM mA r w x y p B) w x y p := by
  unfold goesM
  refine ⟨?_, ?_, ?_, fun _ => ?_, hw⟩ <;> simp (disch := omega) only [gI, gs_eI]
theorem goes_own {mA r : Nat} {w x y p : Int32} {B : Mem} (hm : mA = 259 ∨ mA = 260) : ownF ((goesM mA r w x y p B).1 mA) r = ownF (B.1 mA) r := by
  refine ownF_cg (fun k h1 h2 => ?_)
  unfold goesM
  simp (disch := omega) only [gI]
theorem goes_41 {mA r : Nat} {w x y p : Int32} {B : Mem} (hm : mA = 259 ∨ mA = 260) : (goesM mA r w x y p B).1 242 41 = B.1 242 41 := by
  unfold goesM
  simp (disch := omega) only [gI]
theorem acts_M {mA q r : Nat} {B0 : Mem} {mx my : Int32} (hm : mA = 259 ∨ mA = 260) (hB0 : MB B0 q r) (hmx : mx = tX r (B0.1 mA (44 + 16 * r))) (hmy : my = tY r (B0.1 mA (44 + 16 * r + 1))) : ∀ (as : List Ac) (h h' c f : Nat) (B : Mem), MRf mA r B0 B → STm mA r B → ActsM (wF B0 q) (vF B0 q) as h h' → h' < 800 → as.length + 1 < f → c ≤ 80 → ∃ u B' h2 bu, L_X11_runRules_95 mA 1 f 0 (mst B h c) = some (u, mst B' h2 (evActs (senF (B0.1 mA) r) mx my as (c, ownF (B.1 mA) r, B.1 242 41)).2.1) ∧ h ≤ h2 ∧ h2 ≤ h' ∧ MAf mA r B0 B' (evActs (senF (B0.1 mA) r) mx my as (c, ownF (B.1 mA) r, B.1 242 41)) bu ∧ ((evActs (senF (B0.1 mA) r) mx my as (c, ownF (B.1 mA) r, B.1 242 41)).2.1 ≤ 80 → u = (if bu = true then 1 else 0) ∧ NB (wF B0 q) h2 h') := by
  intro as
  induction as with
  | nil =>
    intro h h' c f B hF hST H hh hf hc
    obtain ⟨f, rfl⟩ : ∃ m, f = m + 1 := ⟨f - 1, by omega⟩
    obtain ⟨hB, hw, hv, hs⟩ := hF.b hm hB0
    obtain ⟨rfl, e⟩ := H
    have e' : B.1 244 (800 * q + h) = 125 := by have := congrFun hw h; unfold wF at this; rw [this]; exact e
    refine ⟨0, B, h, false, ?_, Nat.le_refl _, Nat.le_refl _, ⟨hF, rfl, fun _ => ⟨rfl, Or.inl ⟨rfl, rfl, hST⟩⟩⟩, fun _ => ⟨rfl, fun i p q => by omega⟩⟩
    rw [L_X11_runRules_95, if_neg n10, if_pos rfl, mst_37, if_pos hc, if_pos rfl, bnd1_e (here_eq hB (by omega)), e', if_pos rfl]
    rfl
  | cons a as ih =>
    intro h h' c f B hF hST H hh hf hc
    obtain ⟨f, rfl⟩ : ∃ m, f = m + 1 := ⟨f - 1, by omega⟩
    simp only [List.length_cons] at hf
    obtain ⟨hB, hw, hv, hs⟩ := hF.b hm hB0
    have hne := H.ne
    have hle := ActsM.le _ _ _ H
    simp only [List.length_cons] at hle
    obtain ⟨h1, H1, H2⟩ := H
    have hle2 := ActsM.le _ _ _ H2
    have hlt := H1.lt
    have wd : ∀ i, B.1 244 (800 * q + i) = wF B0 q i := fun i => congrFun hw i
    have vd : ∀ i, B.1 245 (800 * q + i) = vF B0 q i := fun i => congrFun hv i
    obtain ⟨hq6, hr10, h34, h33⟩ := id hB
    have stopO : ∀ (u : Int32) (M : Mem), M.1 242 37 = 1 → L_X11_runRules_95 mA 1 f u M = some (u, M) := by
      intro u M hM
      obtain ⟨f, rfl⟩ : ∃ m, f = m + 1 := ⟨f - 1, by omega⟩
      rw [L_X11_runRules_95, if_neg n10]
      split
      · rw [hM, if_neg n10]
      · rfl
    have stop1 : ∀ (M : Mem), L_X11_runRules_95 mA 1 f 1 M = some (1, M) := by
      intro M
      obtain ⟨f, rfl⟩ : ∃ m, f = m + 1 := ⟨f - 1, by omega⟩
      rw [L_X11_runRules_95, if_neg n10, if_neg n10]
    have ov : ∀ (B : Mem) (h c : Nat), ¬ c ≤ 80 → (mst B h c).1 242 37 = 1 := fun B h c hc => by rw [mst_37, if_neg hc]
    rw [L_X11_runRules_95, if_neg n10, if_pos rfl, mst_37, if_pos hc, if_pos rfl, bnd1_e (here_eq hB (by omega)), if_neg (show ¬ B.1 244 (800 * q + h) = 125 by rw [wd]; exact hne)]
    rw [← hw, ← hv] at H1
    rcases H1 with ⟨k, k2, w1, w2, w3, w4, rfl⟩ | ⟨k, s, h2, k2, ⟨kk, hkk, ek⟩, w1, w2, w3, S, w4, rfl⟩ | ⟨k, s1, s2, h2, h3, k2, w1, S1, S2, w4, rfl⟩ | ⟨k, s1, s2, s3, h2, h3, h4, k2, w1, S1, S2, S3, w4, rfl⟩ | ⟨k, k2, w1, w4, rfl⟩
    · rw [bnd2_e (act_go hB (by omega) w1), w3]
      by_cases c80 : 80 < c + 1
      · have hev : evActs (senF (B0.1 mA) r) mx my (a :: as) (c, ownF (B.1 mA) r, B.1 242 41) = (none, (c + 1, ownF (B.1 mA) r, B.1 242 41)) := by
          rw [evActs, if_pos k, if_pos c80]
        rw [hev, if_neg (by omega), stopO _ _ (ov _ _ _ (by omega))]
        exact ⟨0, B, h + 3, false, rfl, by omega, by omega, ⟨hF, rfl, fun z => absurd z (by dsimp only; omega)⟩, fun z => absurd z (by dsimp only; omega)⟩
      · have hev : evActs (senF (B0.1 mA) r) mx my (a :: as) (c, ownF (B.1 mA) r, B.1 242 41) = evActs (senF (B0.1 mA) r) mx my as (c + 1, ownF (B.1 mA) r, a.2.1) := by
          rw [evActs, if_pos k, if_neg c80]
        have hST' : STm mA r (setI B 242 41 a.2.1) := by
          obtain ⟨z1, z2, z3⟩ := hST
          exact ⟨by rw [gI (Or.inl (by omega))]; exact z1, by rw [gI (Or.inl (by decide))]; exact z2, by rw [gI (Or.inl (by decide))]; exact z3⟩
        obtain ⟨u, B', h2, bu, g1, g2, g3, g4, g5⟩ := ih (h + 3) h' (c + 1) f (setI B 242 41 a.2.1) (hF.gone hm) hST' H2 hh (by omega) (by omega)
        rw [fI (show mA ≠ 242 by omega), gs_eI] at g1 g4 g5
        rw [hev, if_pos (by omega)]
        exact ⟨u, B', h2, bu, g1, by omega, g3, g4, g5⟩
    · have hsm : sm0 a 0 = s := by unfold sm0; rw [k2]; rfl
      rw [ek] at w3
      have hl := S.lt
      rw [bnd2_e (act_set hm hB w1 w3 hkk S (by omega)), hs]
      have k3 : ¬ a.1 = 3 := by rw [k]; decide
      by_cases c80 : 80 < c + 1 + s.length
      · have hev : evActs (senF (B0.1 mA) r) mx my (a :: as) (c, ownF (B.1 mA) r, B.1 242 41) = (none, (c + 1 + s.length, ownF (B.1 mA) r, B.1 242 41)) := by
          rw [evActs, if_neg k3, if_pos k, hsm, if_pos c80]
        rw [hev, if_neg (by omega), stopO _ _ (ov _ _ _ (by omega))]
        exact ⟨0, B, h2 + 1, false, rfl, by omega, by omega, ⟨hF, rfl, fun z => absurd z (by dsimp only; omega)⟩, fun z => absurd z (by dsimp only; omega)⟩
      · have hev : evActs (senF (B0.1 mA) r) mx my (a :: as) (c, ownF (B.1 mA) r, B.1 242 41) = evActs (senF (B0.1 mA) r) mx my as (c + 1 + s.length, uO (ownF (B.1 mA) r) (nI kk) (valS (ownF (B.1 mA) r) (senF (B0.1 mA) r) s), B.1 242 41) := by
          rw [evActs, if_neg k3, if_pos k, hsm, if_neg c80, ek]
        have hST' : STm mA r (setI B mA (44 + 16 * r + (4 + kk)) (valS (ownF (B.1 mA) r) (senF (B0.1 mA) r) s)) := by
          obtain ⟨z1, z2, z3⟩ := hST
          exact ⟨by rw [gI (Or.inr (by omega))]; exact z1, by rw [gI (Or.inl (by omega))]; exact z2, by rw [gI (Or.inl (by omega))]; exact z3⟩
        obtain ⟨u, B', h3, bu, g1, g2, g3, g4, g5⟩ := ih (h2 + 1) h' (c + 1 + s.length) f (setI B mA (44 + 16 * r + (4 + kk)) (valS (ownF (B.1 mA) r) (senF (B0.1 mA) r) s)) (hF.row hm (Or.inl (by omega))) hST' H2 hh (by omega) (by omega)
        rw [own_setM hkk, gI (Or.inl (show 242 ≠ mA by omega))] at g1 g4 g5
        rw [hev, if_pos (by omega)]
        exact ⟨u, B', h3, bu, g1, by omega, g3, g4, g5⟩
    · have hsm0 : sm0 a 0 = s1 := by unfold sm0; rw [k2]; rfl
      have hsm1 : sm0 a 1 = s2 := by unfold sm0; rw [k2]; rfl
      have hl1 := S1.lt
      have hl2 := S2.lt
      have k3 : ¬ a.1 = 3 := by rcases k with e | e <;> rw [e] <;> decide
      have k4 : ¬ a.1 = 4 := by rcases k with e | e <;> rw [e] <;> decide
      have k8 : ¬ a.1 = 8 := by rcases k with e | e <;> rw [e] <;> decide
      have k7 : ¬ a.1 = 7 := by rcases k with e | e <;> rw [e] <;> decide
      rw [bnd2_e (act_move hm hB k w1 S1 S2 (by omega)), hs, stop1]
      have rX : B.1 mA (44 + 16 * r) = B0.1 mA (44 + 16 * r) := hF.2.2.2.1 _ (by omega) (by omega)
      have rY : B.1 mA (44 + 16 * r + 1) = B0.1 mA (44 + 16 * r + 1) := hF.2.2.2.1 _ (by omega) (by omega)
      rw [rX, rY, ← hmx, ← hmy]
      have hev : evActs (senF (B0.1 mA) r) mx my (a :: as) (c, ownF (B.1 mA) r, B.1 242 41) = (some (1, (if a.1 = 6 then valS (ownF (B.1 mA) r) (senF (B0.1 mA) r) s1 - mx else valS (ownF (B.1 mA) r) (senF (B0.1 mA) r) s1), (if a.1 = 6 then valS (ownF (B.1 mA) r) (senF (B0.1 mA) r) s2 - my else valS (ownF (B.1 mA) r) (senF (B0.1 mA) r) s2), 1), (c + 1 + s1.length + s2.length, ownF (B.1 mA) r, B.1 242 41)) := by
        rw [evActs, if_neg k3, if_neg k4, if_neg k8, if_neg k7, hsm0, hsm1]
        by_cases e6 : a.1 = 6
        · rw [if_pos e6, if_pos e6, if_pos e6]
        · rw [if_neg e6, if_neg e6, if_neg e6]
      rw [hev]
      have nb := (nb59 w4).app (hw ▸ ActsM.nb _ _ _ H2)
      refine ⟨1, _, h3, true, rfl, by omega, by omega, ?_, fun _ => ⟨rfl, hw ▸ nb⟩⟩
      by_cases c80 : c + 1 + s1.length + s2.length ≤ 80
      · rw [if_pos c80]
        exact ⟨goesMRf hF hm, goes_own hm, fun _ => ⟨goes_41 hm, Or.inr ⟨rfl, _, _, _, _, rfl, goesCM hm (Or.inr (Or.inl rfl))⟩⟩⟩
      · rw [if_neg c80]
        exact ⟨hF, rfl, fun z => absurd z c80⟩
    · have hsm0 : sm0 a 0 = s1 := by unfold sm0; rw [k2]; rfl
      have hsm1 : sm0 a 1 = s2 := by unfold sm0; rw [k2]; rfl
      have hsm2 : sm0 a 2 = s3 := by unfold sm0; rw [k2]; rfl
      have hl1 := S1.lt
      have hl2 := S2.lt
      have hl3 := S3.lt
      rw [bnd2_e (act_kick hm hB w1 S1 S2 S3 (by omega)), hs, stop1]
      have hev : evActs (senF (B0.1 mA) r) mx my (a :: as) (c, ownF (B.1 mA) r, B.1 242 41) = (some (2, valS (ownF (B.1 mA) r) (senF (B0.1 mA) r) s1, valS (ownF (B.1 mA) r) (senF (B0.1 mA) r) s2, valS (ownF (B.1 mA) r) (senF (B0.1 mA) r) s3), (c + 1 + s1.length + s2.length + s3.length, ownF (B.1 mA) r, B.1 242 41)) := by
        rw [evActs, if_neg (by rw [k]; decide), if_neg (by rw [k]; decide), if_neg (by rw [k]; decide), if_pos k, hsm0, hsm1, hsm2]
      rw [hev]
      have nb := (nb59 w4).app (hw ▸ ActsM.nb _ _ _ H2)
      refine ⟨1, _, h4, true, rfl, by omega, by omega, ?_, fun _ => ⟨rfl, hw ▸ nb⟩⟩
      by_cases c80 : c + 1 + s1.length + s2.length + s3.length ≤ 80
      · rw [if_pos c80]
        exact ⟨goesMRf hF hm, goes_own hm, fun _ => ⟨goes_41 hm, Or.inr ⟨rfl, _, _, _, _, rfl, goesCM hm (Or.inr (Or.inr rfl))⟩⟩⟩
      · rw [if_neg c80]
        exact ⟨hF, rfl, fun z => absurd z c80⟩
    · rw [bnd2_e (act_stay hB (by omega) w1), stop1]
      have hev : evActs (senF (B0.1 mA) r) mx my (a :: as) (c, ownF (B.1 mA) r, B.1 242 41) = (some (0, 0, 0, 0), (c + 1, ownF (B.1 mA) r, B.1 242 41)) := by
        rw [evActs, if_neg (by rw [k]; decide), if_neg (by rw [k]; decide), if_pos k]
      rw [hev]
      have nb := (nb59 w4).app (hw ▸ ActsM.nb _ _ _ H2)
      refine ⟨1, B, h + 1, true, rfl, by omega, by omega, ⟨hF, rfl, fun _ => ⟨rfl, Or.inr ⟨rfl, 0, 0, 0, 0, rfl, ?_⟩⟩⟩, fun _ => ⟨rfl, hw ▸ nb⟩⟩
      obtain ⟨z1, z2, z3⟩ := hST
      have c0 : trF r (cut3 0) = 0 := by unfold trF; split <;> decide
      exact ⟨z1, by rw [c0]; exact z2, by rw [c0]; exact z3, fun q => absurd q (by decide), Or.inl rfl⟩
