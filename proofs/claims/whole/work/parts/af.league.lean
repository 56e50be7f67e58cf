section LGT
variable {K : Nat} {A B : Mem}
theorem LG.step {s n x h a : Nat} {A1 B1 : Mem} (hG : GR K A B) (hL : LG s n A B A1 B1) (hh : h < 4) (ha : a < 4) (hne : h ≠ a) (hx : x ≤ 60) : ∃ A2 A3 v A4 B4, R_X2_open 152 (nI h) (nI a) A1 = some A2 ∧ R_X2_play 152 (nI x) A2 = some (v, A3) ∧ U_X1_enter 11 (nI h) (nI a) (A3.1 159 0) (A3.1 159 1) A3 = A4 ∧ R_X11_playOne (nI h) (nI a) (nI x) 260 B1 = some B4 ∧ LG s (n + 1) A B A4 B4 := by
  obtain ⟨fa2, fa, fb2, fb, fs, k30, k1, k2, k3, k4⟩ := hL
  have s' : SP A B A1 B1 := ⟨fun c p1 p2 => ⟨fa c (by omega) (by omega), by rw [fa2]⟩, by rw [fa 0 (by decide) (by decide)], fun c p1 p2 => fb c (by omega) (by omega) (by omega)⟩
  have hT : GT A1 B1 := hG.2.2.1.cg s' (fun c p1 p2 => fa c (by omega) (by omega)) (fun c p1 p2 => fb c (by omega) (by omega) (by omega))
  obtain ⟨A2, B2, e1, e2, S0⟩ := open_sim (b := 152) (mA := 260) (SV := SVp A1 B1) (by decide) (Or.inr rfl) hh ha hT.1 hT.2 k1
  obtain ⟨A3, B3, v, e3, e4, S1⟩ := play1_sim (b := 152) (mA := 260) (x := x) (y1 := nI h) (y2 := nI a) (Or.inr rfl) (by decide) (by omega) hT.1 hT.2 x 0 0 FUEL FUEL (-1) A2 B2 (by omega) (by unfold FUEL; omega) (by unfold FUEL; omega) (by omega) S0
  rw [show nI 0 = (0 : Int32) from rfl] at e3 e4
  obtain ⟨⟨ga2, ga⟩, ⟨gb2, gb, gs⟩, q30, q1, ⟨g0, g1, q2, q3, q4, q5, q6, _⟩, q7, q8, q9⟩ := S1
  have q3 : A3.1 159 0 = nI g0 := q3
  have q5 : A3.1 159 1 = nI g1 := q5
  obtain ⟨A4, u1, u2, u3, u4, u5, u6⟩ := enter_C (M := A3) hh ha hne (show g0 < 2 ^ 30 by omega) (show g1 < 2 ^ 30 by omega)
  obtain ⟨B4, w1, w2, w3, w4, w5, w6⟩ := playOne_t (x := x) hh ha hne (show g0 < 2 ^ 30 by omega) (show g1 < 2 ^ 30 by omega) e2 e4 q4 q6
  have gs : ∀ j, ¬ ((30 ≤ j ∧ j ≤ 37) ∨ j = 41) → B3.1 242 j = B1.1 242 j := fun j hj => gs j hj
  refine ⟨A2, A3, v, A4, B4, e1, ?_, ?_, w1, u2.trans (ga2.trans fa2), fun d d1 d2 => ?_, w2.trans (gb2.trans fb2), fun d d1 d2 d3 => ?_, fun j j1 j2 => ?_, ?_, fun r hr => ?_, ?_, ?_, fun i hi => ?_⟩
  · unfold R_X2_play
    rw [bnd2_e e3]
  · rw [q3, q5]; exact u1
  · rw [u3 d (by omega) (by omega) (by omega), ga d (by omega)]; exact fa d d1 d2
  · rw [w3 d (by omega) (by omega) (by omega), gb d d2 d1 (by omega) (by omega) (by omega)]; exact fb d d1 d2 d3
  · rw [w3 242 (by decide) (by decide) (by decide), gs j j1]; exact fs j j1 j2
  · rw [w3 242 (by decide) (by decide) (by decide)]; exact q30
  · exact ((q8 r hr).2.2.2.2.2.2).cg (fun j _ => by rw [u3 _ (by omega) (by omega) (by omega)])
  · rw [u3 11 (by decide) (by decide) (by decide), ga 11 (by decide)]; exact k2
  · rw [w3 242 (by decide) (by decide) (by decide), gs 42 (by decide)]; exact k3
  · obtain ⟨⟨x1, x2, x3, p1, p2, p3, p4, p5, p6⟩, p7, p8, p9⟩ := k4 i hi
    have r1 : ∀ i, A3.1 12 i = A1.1 12 i ∧ A3.1 13 i = A1.1 13 i ∧ A3.1 14 i = A1.1 14 i := fun i => by rw [ga 12 (by decide), ga 13 (by decide), ga 14 (by decide)]; exact ⟨rfl, rfl, rfl⟩
    have r2 : ∀ i, B3.1 265 i = B1.1 265 i ∧ B3.1 266 i = B1.1 266 i ∧ B3.1 267 i = B1.1 267 i := fun i => by rw [gb 265 (by decide) (by decide) (by decide) (by decide) (by decide), gb 266 (by decide) (by decide) (by decide) (by decide) (by decide), gb 267 (by decide) (by decide) (by decide) (by decide) (by decide)]; exact ⟨rfl, rfl, rfl⟩
    have t1 := up2_tr (n := n) (i := i) (h := h) (a := a) (f := A3.1 12) (g := B3.1 265) (x := gn g0 g1) (y := gn g1 g0) ⟨x1, p1, (r1 i).1.trans p4⟩ (Nat.le_trans gn_le (by decide)) (Nat.le_trans gn_le (by decide)) (((r1 i).1.trans p7).trans (r2 i).1.symm) (fun _ => ((r1 h).1.trans (k4 h hh).2.1).trans (r2 h).1.symm) (fun _ => ((r1 a).1.trans (k4 a ha).2.1).trans (r2 a).1.symm)
    have t2 := up2_tr (n := n) (i := i) (h := h) (a := a) (f := A3.1 13) (g := B3.1 266) (x := g0) (y := g1) ⟨x2, p2, (r1 i).2.1.trans p5⟩ (by omega) (by omega) (((r1 i).2.1.trans p8).trans (r2 i).2.1.symm) (fun _ => ((r1 h).2.1.trans (k4 h hh).2.2.1).trans (r2 h).2.1.symm) (fun _ => ((r1 a).2.1.trans (k4 a ha).2.2.1).trans (r2 a).2.1.symm)
    have t3 := up2_tr (n := n) (i := i) (h := h) (a := a) (f := A3.1 14) (g := B3.1 267) (x := g1) (y := g0) ⟨x3, p3, (r1 i).2.2.trans p6⟩ (by omega) (by omega) (((r1 i).2.2.trans p9).trans (r2 i).2.2.symm) (fun _ => ((r1 h).2.2.trans (k4 h hh).2.2.2).trans (r2 h).2.2.symm) (fun _ => ((r1 a).2.2.trans (k4 a ha).2.2.2).trans (r2 a).2.2.symm)
    obtain ⟨⟨y1, z1, z2⟩, z3⟩ := t1
    obtain ⟨⟨y2, z4, z5⟩, z6⟩ := t2
    obtain ⟨⟨y3, z7, z8⟩, z9⟩ := t3
    refine ⟨⟨y1, y2, y3, z1, z4, z7, ?_, ?_, ?_⟩, ?_, ?_, ?_⟩
    · rw [u4]; exact z2
    · rw [u5]; exact z5
    · rw [u6]; exact z8
    · rw [u4, w4]; exact z3
    · rw [u5, w5]; exact z6
    · rw [u6, w6]; exact z9
def bitOf (s t : Nat) : Prop := ((nI s >>> (nI t &&& 31)) &&& (1 : Int32)) = (1 : Int32)
theorem has_b {s t : Nat} {M : Mem} (ht : t < 4) (h : M.1 11 0 = nI s) : (bitOf s t → ¬ V_X1_has 11 (nI t) M = 0) ∧ (¬ bitOf s t → V_X1_has 11 (nI t) M = 0) := by
  unfold V_X1_has bitOf
  dsimp only
  rw [if_neg (nI_pos (by omega)), if_neg (nleL (y := 4) 4 (by omega) rfl (by decide)), h]
  exact ⟨fun q => by rw [if_pos q]; decide, fun q => by rw [if_neg q]⟩
theorem TR.mono {n m i : Nat} {A B : Mem} (h : TR n A B i) (hn : n ≤ m) : TR m A B i := by
  obtain ⟨⟨a, b, c, p1, p2, p3, p4⟩, p5⟩ := h
  exact ⟨⟨a, b, c, by omega, by omega, by omega, p4⟩, p5⟩
theorem LG.mono {s n m : Nat} {A B A' B' : Mem} (h : LG s n A B A' B') (hn : n ≤ m) : LG s m A B A' B' := by
  obtain ⟨fa2, fa, fb2, fb, fs, k30, k1, k2, k3, k4⟩ := h
  exact ⟨fa2, fa, fb2, fb, fs, k30, k1, k2, k3, fun i hi => (k4 i hi).mono hn⟩
theorem inner_S {s x h : Nat} (hG : GR K A B) (hh : h < 4) (hx : x ≤ 60) : ∀ (k a f f' n : Nat) (u : Int32) (A1 B1 : Mem), a + k = 4 → h < a → k < f → k < f' → LG s n A B A1 B1 → ∃ v A' B', L_X10_league_73 (nI s) (nI x) (nI h) f u (nI a) A1 = some (v, A') ∧ L_X11_league_135 (nI s) (nI x) 260 (nI h) f' u (nI a) B1 = some (v, B') ∧ LG s (n + k) A B A' B' := by
  intro k
  induction k with
  | zero =>
    intro a f f' n u A1 B1 ha hha hf hf' hL
    obtain ⟨f, rfl⟩ : ∃ m, f = m + 1 := ⟨f - 1, by omega⟩
    obtain ⟨f', rfl⟩ : ∃ m, f' = m + 1 := ⟨f' - 1, by omega⟩
    have c : (4 : Int32) ≤ nI a := nI_le (a := 4) (by omega) (by omega)
    exact ⟨u, A1, B1, by rw [L_X10_league_73, if_pos c], by rw [L_X11_league_135, if_pos c], hL⟩
  | succ k ih =>
    intro a f f' n u A1 B1 ha hha hf hf' hL
    obtain ⟨f, rfl⟩ : ∃ m, f = m + 1 := ⟨f - 1, by omega⟩
    obtain ⟨f', rfl⟩ : ∃ m, f' = m + 1 := ⟨f' - 1, by omega⟩
    have c : ¬ (4 : Int32) ≤ nI a := nI_ge (b := 4) (by omega) (by decide)
    have k2 := hL.2.2.2.2.2.2.2.1
    have go : ∀ (w : Int32) (A2 B2 : Mem) (E : Option (Int32 × Mem)) (F : Option (Int32 × Mem)), E = some (w, A2) → F = some (w, B2) → LG s (n + 1) A B A2 B2 → ∃ v A' B', bnd2 E (fun v M => L_X10_league_73 (nI s) (nI x) (nI h) f v (nI a + 1) M) = some (v, A') ∧ bnd2 F (fun v M => L_X11_league_135 (nI s) (nI x) 260 (nI h) f' v (nI a + 1) M) = some (v, B') ∧ LG s (n + (k + 1)) A B A' B' := by
      intro w A2 B2 E F hE hF hL2
      obtain ⟨v, A', B', e1, e2, e3⟩ := ih (a + 1) f f' (n + 1) w A2 B2 (by omega) (by omega) (by omega) (by omega) hL2
      refine ⟨v, A', B', ?_, ?_, by rw [show n + (k + 1) = n + 1 + k by omega]; exact e3⟩
      · rw [bnd2_e hE, nI_1]; exact e1
      · rw [bnd2_e hF, nI_1]; exact e2
    rw [L_X10_league_73, L_X11_league_135, if_neg c, if_neg c]
    by_cases b1 : bitOf s h
    · rw [if_neg ((has_b hh k2).1 b1), if_pos (show ((nI s >>> (nI h &&& 31)) &&& (1 : Int32)) = (1 : Int32) from b1)]
      by_cases b2 : bitOf s a
      · rw [if_neg ((has_b (show a < 4 by omega) k2).1 b2), if_pos (show ((nI s >>> (nI a &&& 31)) &&& (1 : Int32)) = (1 : Int32) from b2)]
        obtain ⟨A2, A3, v, A4, B4, e1, e2, e3, e4, e5⟩ := hL.step hG hh (show a < 4 by omega) (by omega) hx
        refine go (u + 1) A4 B4 _ _ ?_ ?_ e5
        · rw [bnd1_e e1, bnd2_e e2, bd1_s, e3]
        · rw [bnd1_e e4]
      · rw [if_pos ((has_b (show a < 4 by omega) k2).2 b2), if_neg (show ¬ ((nI s >>> (nI a &&& 31)) &&& (1 : Int32)) = (1 : Int32) from b2)]
        exact go u A1 B1 _ _ rfl rfl (hL.mono (by omega))
    · rw [if_pos ((has_b hh k2).2 b1), if_neg (show ¬ ((nI s >>> (nI h &&& 31)) &&& (1 : Int32)) = (1 : Int32) from b1)]
      exact go u A1 B1 _ _ rfl rfl (hL.mono (by omega))
theorem outer_S {s x : Nat} (hG : GR K A B) (hx : x ≤ 60) : ∀ (k i n : Nat) (u : Int32) (A1 B1 : Mem), i + k = 4 → LG s n A B A1 B1 → ∃ v A' B', L_X10_league_61 (nI s) (nI x) k i u A1 = some (v, A') ∧ L_X11_league_123 (nI s) (nI x) 260 k i u B1 = some (v, B') ∧ LG s (n + 4 * k) A B A' B' := by
  intro k
  induction k with
  | zero => intro i n u A1 B1 hi hL; exact ⟨u, A1, B1, rfl, rfl, hL⟩
  | succ k ih =>
    intro i n u A1 B1 hi hL
    obtain ⟨v, A2, B2, e1, e2, e3⟩ := inner_S (x := x) hG (show i < 4 by omega) hx (4 - (i + 1)) (i + 1) FUEL FUEL n u A1 B1 (by omega) (by omega) (by unfold FUEL; omega) (by unfold FUEL; omega) hL
    obtain ⟨w, A3, B3, e4, e5, e6⟩ := ih (i + 1) (n + 4) v A2 B2 (by omega) (e3.mono (by omega))
    refine ⟨w, A3, B3, ?_, ?_, by rw [show n + 4 * (k + 1) = n + 4 + 4 * k by omega]; exact e6⟩
    · rw [L_X10_league_61, bd1_s, nI_1, bnd2_e e1]; exact e4
    · rw [L_X11_league_123, bd1_s, nI_1, bnd2_e e2]; exact e5
end LGT
