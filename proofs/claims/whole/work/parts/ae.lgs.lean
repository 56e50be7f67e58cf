/-! ===== leagues: both sides ===== -/
section LGS
theorem nI_addn {a b : Nat} : nI a + nI b = nI (a + b) := (Int32.ofNat_add a b).symm
/-- points for g goals against o -/
def gn (g o : Nat) : Nat := if o < g then 3 else if g = o then 1 else 0
theorem gn_le {g o : Nat} : gn g o ≤ 3 := by
  unfold gn
  repeat' split
  all_goals omega
theorem gn_C {g o : Nat} (hg : g < 2 ^ 30) (ho : o < 2 ^ 30) : (if nI g ≤ nI o then (if nI g = nI o then (1 : Int32) else (0 : Int32)) else (3 : Int32)) = nI (gn g o) := by
  unfold gn
  by_cases c : o < g
  · rw [if_pos c, if_neg (nI_ge c (by omega))]; rfl
  · rw [if_neg c, if_pos (nI_le (by omega) (by omega))]
    by_cases c2 : g = o
    · rw [if_pos c2, c2, if_pos rfl]; rfl
    · rw [if_neg c2, if_neg (fun q => c2 ((nI_eq (by omega) (by omega)).mp q))]; rfl
/-- a row with two places raised -/
def up2 (f : Nat → Int32) (h a : Nat) (x y : Int32) : Nat → Int32 := fun i => if i = h then f h + x else if i = a then f a + y else f i
theorem enterFor_eq {t : Nat} {g o : Nat} {M : Mem} (ht : t < 4) (hg : g < 2 ^ 30) (ho : o < 2 ^ 30) : U_X1_enterFor 11 (nI t) (nI g) (nI o) M = setI (setI (setI M 12 t (M.1 12 t + nI (gn g o))) 13 t (M.1 13 t + nI g)) 14 t (M.1 14 t + nI o) := by
  unfold U_X1_enterFor
  rw [gn_C hg ho]
  dsimp only
  rw [at_eq (x := 11 + 1) rfl ht (by decide), put_eq (x := 11 + 1) rfl ht (by decide), at_eq (x := 11 + 2) rfl ht (by decide), put_eq (x := 11 + 2) rfl ht (by decide), at_eq (x := 11 + 3) rfl ht (by decide), put_eq (x := 11 + 3) rfl ht (by decide)]
  rw [show (11 : Nat) + 1 = 12 from rfl, show (11 : Nat) + 2 = 13 from rfl, show (11 : Nat) + 3 = 14 from rfl]
  rw [gI (a := 12) (b := 13) (Or.inl (by decide)), gI (a := 13) (b := 14) (Or.inl (by decide)), gI (a := 12) (b := 14) (Or.inl (by decide))]
theorem row_set {M : Mem} {c j : Nat} {v : Int32} {i : Nat} : (setI M c j v).1 c i = if i = j then v else M.1 c i := by
  by_cases e : i = j
  · rw [if_pos e, e, gs_eI]
  · rw [if_neg e, gI (Or.inr e)]
theorem enter_C {h a g0 g1 : Nat} {M : Mem} (hh : h < 4) (ha : a < 4) (hne : h ≠ a) (h0 : g0 < 2 ^ 30) (h1 : g1 < 2 ^ 30) : ∃ A, U_X1_enter 11 (nI h) (nI a) (nI g0) (nI g1) M = A ∧ A.2 = M.2 ∧ (∀ d, d ≠ 12 → d ≠ 13 → d ≠ 14 → A.1 d = M.1 d) ∧ A.1 12 = up2 (M.1 12) h a (nI (gn g0 g1)) (nI (gn g1 g0)) ∧ A.1 13 = up2 (M.1 13) h a (nI g0) (nI g1) ∧ A.1 14 = up2 (M.1 14) h a (nI g1) (nI g0) := by
  refine ⟨_, rfl, ?_⟩
  unfold U_X1_enter
  rw [enterFor_eq hh h0 h1, enterFor_eq ha h1 h0]
  refine ⟨rfl, fun d d1 d2 d3 => ?_, ?_, ?_, ?_⟩
  · rw [fI d3, fI d2, fI d1, fI d3, fI d2, fI d1]
  · funext i
    rw [fI (by decide : (12 : Nat) ≠ 14), fI (by decide : (12 : Nat) ≠ 13), row_set, fI (by decide : (12 : Nat) ≠ 14), fI (by decide : (12 : Nat) ≠ 13), row_set, row_set, if_neg hne.symm]
    unfold up2
    by_cases e : i = h
    · rw [if_neg (by omega : ¬ i = a), if_pos e, if_pos e]
    · rw [if_neg e, if_neg e]
  · funext i
    rw [fI (by decide : (13 : Nat) ≠ 14), row_set, fI (by decide : (13 : Nat) ≠ 12), fI (by decide : (13 : Nat) ≠ 14), row_set, fI (by decide : (13 : Nat) ≠ 12), row_set, fI (by decide : (13 : Nat) ≠ 12), if_neg hne.symm]
    unfold up2
    by_cases e : i = h
    · rw [if_neg (by omega : ¬ i = a), if_pos e, if_pos e]
    · rw [if_neg e, if_neg e]
  · funext i
    rw [row_set, fI (by decide : (14 : Nat) ≠ 13), fI (by decide : (14 : Nat) ≠ 12), row_set, fI (by decide : (14 : Nat) ≠ 13), fI (by decide : (14 : Nat) ≠ 12), row_set, fI (by decide : (14 : Nat) ≠ 13), fI (by decide : (14 : Nat) ≠ 12), if_neg hne.symm]
    unfold up2
    by_cases e : i = h
    · rw [if_neg (by omega : ¬ i = a), if_pos e, if_pos e]
    · rw [if_neg e, if_neg e]
theorem playOne_t {h a x g0 g1 : Nat} {B B1 B2 : Mem} (hh : h < 4) (ha : a < 4) (hne : h ≠ a) (h0 : g0 < 2 ^ 30) (h1 : g1 < 2 ^ 30) (e1 : R_X11_beginMatch (nI h) (nI a) 260 B = some B1) (e2 : L_X11_playOne_9 (nI h) (nI a) (nI x) 260 FUEL (0 : Int32) B1 = some B2) (q0 : B2.1 260 4 = nI g0) (q1 : B2.1 260 5 = nI g1) :
    ∃ C, R_X11_playOne (nI h) (nI a) (nI x) 260 B = some C ∧ C.2 = B2.2 ∧ (∀ d, d ≠ 265 → d ≠ 266 → d ≠ 267 → C.1 d = B2.1 d) ∧ C.1 265 = up2 (B2.1 265) h a (nI (gn g0 g1)) (nI (gn g1 g0)) ∧ C.1 266 = up2 (B2.1 266) h a (nI g0) (nI g1) ∧ C.1 267 = up2 (B2.1 267) h a (nI g1) (nI g0) := by
  unfold R_X11_playOne
  rw [bnd1_e e1, bnd1_e e2]
  have f1 : (if nI g1 ≤ nI g0 then (if nI g0 = nI g1 then (1 : Int32) else (0 : Int32)) else (3 : Int32)) = nI (gn g1 g0) := by
    rw [← gn_C h1 h0]
    by_cases c : nI g0 = nI g1
    · rw [if_pos c, if_pos c.symm]
    · rw [if_neg c, if_neg (show ¬ nI g1 = nI g0 from fun z => c z.symm)]
  simp only [ck_nI hh (show h < 2 ^ 31 by omega), ck_nI ha (show a < 2 ^ 31 by omega), nI_clamp (show h < 2 ^ 31 by omega), nI_clamp (show a < 2 ^ 31 by omega), q0, q1, bd1_s, gn_C h0 h1, f1]
  refine ⟨_, rfl, rfl, fun d d1 d2 d3 => ?_, ?_, ?_, ?_⟩
  · rw [fI d1, fI d1, fI d3, fI d2, fI d3, fI d2]
  · funext i
    simp only [row_set, fI (by decide : (265 : Nat) ≠ 267), fI (by decide : (265 : Nat) ≠ 266), if_neg hne.symm]
    unfold up2
    by_cases e : i = h
    · rw [if_neg (by omega : ¬ i = a), if_pos e, if_pos e]
    · rw [if_neg e, if_neg e]
  · funext i
    simp only [row_set, fI (by decide : (266 : Nat) ≠ 267), fI (by decide : (266 : Nat) ≠ 265), if_neg hne.symm]
    unfold up2
    by_cases e : i = h
    · rw [if_neg (by omega : ¬ i = a), if_pos e, if_pos e]
    · rw [if_neg e, if_neg e]
  · funext i
    simp only [row_set, fI (by decide : (267 : Nat) ≠ 266), fI (by decide : (267 : Nat) ≠ 265), if_neg hne.symm]
    unfold up2
    by_cases e : i = h
    · rw [if_neg (by omega : ¬ i = a), if_pos e, if_pos e]
    · rw [if_neg e, if_neg e]
/-- the table's row i, after n matches at most -/
def TR (n : Nat) (A B : Mem) (i : Nat) : Prop := (∃ a b c : Nat, a ≤ 60 * n ∧ b ≤ 60 * n ∧ c ≤ 60 * n ∧ A.1 12 i = nI a ∧ A.1 13 i = nI b ∧ A.1 14 i = nI c) ∧ A.1 12 i = B.1 265 i ∧ A.1 13 i = B.1 266 i ∧ A.1 14 i = B.1 267 i
/-- within a league: A B at its start, A' B' now, n matches behind it -/
def LG (s n : Nat) (A B A' B' : Mem) : Prop := A'.2 = A.2 ∧ (∀ d, ¬ (152 ≤ d ∧ d < 182) → ¬ (11 ≤ d ∧ d ≤ 14) → A'.1 d = A.1 d) ∧ B'.2 = B.2 ∧ (∀ d, d ≠ 242 → d ≠ 260 → ¬ (262 ≤ d ∧ d ≤ 267) → B'.1 d = B.1 d) ∧ (∀ j, ¬ ((30 ≤ j ∧ j ≤ 37) ∨ j = 41) → j ≠ 42 → B'.1 242 j = B.1 242 j) ∧ B'.1 242 30 = nI 10 ∧ (∀ r, r < 10 → RK 152 A' r) ∧ A'.1 11 0 = nI s ∧ B'.1 242 42 = nI s ∧ ∀ i, i < 4 → TR n A' B' i
theorem LG.gr {K s n : Nat} {A B A' B' : Mem} (h : GR K A B) (hs : s < 16) (hn : n ≤ 16) (g : LG s n A B A' B') : GR (K + 50) A' B' ∧ LoA A A' ∧ HiB B B' := by
  obtain ⟨fa2, fa, fb2, fb, fs, k30, k1, k2, k3, k4⟩ := g
  obtain ⟨h1, h2, h3, h4, h5, h6, h7⟩ := h
  have s' : SP A B A' B' := ⟨fun c p1 p2 => ⟨fa c (by omega) (by omega), by rw [fa2]⟩, by rw [fa 0 (by decide) (by decide)], fun c p1 p2 => fb c (by omega) (by omega) (by omega)⟩
  refine ⟨⟨h1.cg s' (by rw [fa 0 (by decide) (by decide)]) (by rw [fa 2 (by decide) (by decide)]) (fa 3 (by decide) (by decide)) (by rw [fa2]) (fun j hj => fs j (by omega) (by omega)) (fb 243 (by decide) (by decide) (by decide)), h2.cg (fa 1 (by decide) (by decide)) (fb 253 (by decide) (by decide) (by decide)), h3.cg s' (fun c p1 p2 => fa c (by omega) (by omega)) (fun c p1 p2 => fb c (by omega) (by omega) (by omega)), h4.cg (by rw [fa 0 (by decide) (by decide)]) (fa 15 (by decide) (by decide)) (fs 46 (by decide) (by decide)) (fb 268 (by decide) (by decide) (by decide)), ⟨k30, h5.2.cg (by omega) (fun c p1 p2 => fa c (by omega) (by omega)) (fun k _ => by rw [fb 259 (by decide) (by decide) (by decide)]) s'.v⟩, h6.cg (by omega) s' (fun c p1 p2 => fa c (by omega) (by omega)) (fb 261 (by decide) (by decide) (by decide)), ⟨fun x hx r hr => ?_, ⟨s, hs, k2, k3⟩, fun i hi => ?_⟩⟩, fun d hd => ⟨fa d (by omega) (by omega), by rw [fa2]⟩, fun d hd => ⟨fb d (by omega) (by omega) (by omega), by rw [fb2]⟩⟩
  · by_cases e : x = 152
    · subst e; exact k1 r hr
    · exact (h7.1 x hx r hr).cg (fun j _ => by rw [fa _ (by omega) (by omega)])
  · obtain ⟨⟨a, b, c, p1, p2, p3, p4⟩, p5⟩ := k4 i hi
    exact ⟨⟨a, b, c, by omega, by omega, by omega, p4⟩, p5⟩
theorem up2_tr {n i h a : Nat} {f g : Nat → Int32} {x y : Nat} (e : ∃ k, k ≤ 60 * n ∧ f i = nI k) (hx : x ≤ 60) (hy : y ≤ 60) (eq : f i = g i) (hh : i = h → f h = g h) (ha : i = a → f a = g a) : (∃ k, k ≤ 60 * (n + 1) ∧ up2 f h a (nI x) (nI y) i = nI k) ∧ up2 f h a (nI x) (nI y) i = up2 g h a (nI x) (nI y) i := by
  obtain ⟨k, hk, ek⟩ := e
  unfold up2
  by_cases c1 : i = h
  · rw [if_pos c1, if_pos c1, ← hh c1]
    exact ⟨⟨k + x, by omega, by rw [← c1, ek, nI_addn]⟩, rfl⟩
  · rw [if_neg c1, if_neg c1]
    by_cases c2 : i = a
    · rw [if_pos c2, if_pos c2, ← ha c2]
      exact ⟨⟨k + y, by omega, by rw [← c2, ek, nI_addn]⟩, rfl⟩
    · rw [if_neg c2, if_neg c2]
      exact ⟨⟨k, by omega, ek⟩, eq⟩
end LGS
