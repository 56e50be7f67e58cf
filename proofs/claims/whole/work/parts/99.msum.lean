def pTl (f : Nat) (ts : List Tk) : PR Sm := if 32 ≤ kd0 ts ∧ kd0 ts ≤ 34 then pSum f (kd0 ts) ts.tail else .inl ([], ts)
theorem pTl_c {f : Nat} {t : Tk} {l : List Tk} : pTl f (t :: l) = if 32 ≤ t.1 ∧ t.1 ≤ 34 then pSum f t.1 l else .inl ([], t :: l) := rfl
theorem pSum_tl {f j : Nat} {ts : List Tk} : pSum (f + 1) j ts = pthen (pTerm j ts) fun t ts => pthen (pTl f ts) fun l us => .inl (t :: l, us) := by
  rw [pSum]
  cases pTerm j ts with
  | inr p => rfl
  | inl x =>
    obtain ⟨t, us⟩ := x
    dsimp only [pthen]
    unfold pTl
    split
    · rfl
    · rfl
/-- a product's and a sum's loops, one behind the other -/
def psL (mA g1 g2 : Nat) (v : Int32) (B : Mem) : Option (Int32 × Mem) := bnd2 (bnd2 (L_X11_product_5 mA g1 v B) (fun v6_0 M6 => cz v6_0 (some (v6_0, M6)))) (fun v5 M5 => L_X11_sum_10 mA g2 v5 M5)
theorem psL_0 {mA g1 g2 : Nat} {B : Mem} : psL mA (g1 + 1) (g2 + 1) 0 B = some (0, B) := by
  unfold psL
  rw [L_X11_product_5, if_pos rfl, bnd2_s, cz_0, bnd2_s, L_X11_sum_10, if_pos rfl]
theorem prod_ps {mA g2 : Nat} {B : Mem} : bnd2 (R_X11_product mA B) (fun v5 M5 => L_X11_sum_10 mA g2 v5 M5) = bnd2 (R_X11_term mA B) (fun v1 M1 => psL mA FUEL g2 v1 M1) := by
  unfold R_X11_product psL
  cases R_X11_term mA B <;> rfl
theorem tail_R {T : Nat → Nat} {n q mA : Nat} {ws : List Tk} (hG : WsG q ws) : ∀ (f i g1 g2 : Nat) (B : Mem), f < 12 → MI T n q ws B i → i < ws.length → B.1 242 20 = nI (12 - f) → f + 1 < g1 → f + 1 < g2 → ∃ v B', psL mA g1 g2 1 B = some (v, B') ∧ MR T n q ws B B' v (pTl f (ws.drop i)) i := by
  obtain ⟨F0, hF0⟩ : ∃ m, FUEL = m + 1 := ⟨FUEL - 1, by unfold FUEL; omega⟩
  have hF12 : 12 < F0 := by unfold FUEL at hF0; omega
  intro f
  induction f with
  | zero =>
    intro i g1 g2 B hf hI hi h20 hg1 hg2
    obtain ⟨g1, rfl⟩ : ∃ m, g1 = m + 1 := ⟨g1 - 1, by omega⟩
    obtain ⟨g1, rfl⟩ : ∃ m, g1 = m + 1 := ⟨g1 - 1, by omega⟩
    obtain ⟨g2, rfl⟩ : ∃ m, g2 = m + 1 := ⟨g2 - 1, by omega⟩
    obtain ⟨g2, rfl⟩ : ∃ m, g2 = m + 1 := ⟨g2 - 1, by omega⟩
    obtain ⟨t, e⟩ := get_lt hi
    have h38 := (hG.2.2.2.2 i t e).2.1
    have k5 := hI.k e
    rw [drop_c e, pTl_c]
    -- a term too many
    have tm : ∀ B1, MI T n q ws B1 (i + 1) → FrY q B B1 → B1.1 242 20 = nI 12 → i + 1 < ws.length → ∃ v B', (R_X11_term mA B1 = some (v, B') ∧ v = 0) ∧ MR T n q ws B B' v (.inr (ps0 (ws.drop (i + 1))) : PR Sm) i := by
      intro B1 h1 F1 h2 hi1
      obtain ⟨u, eu⟩ := get_lt hi1
      have W := MR.wrong (α := Sm) hG h1 eu
      unfold R_X11_term
      rw [h2, if_pos (show nI 12 = (12 : Int32) from rfl), cz_v W.v]
      refine ⟨_, _, ⟨rfl, rfl⟩, F1.tr W.1, ?_⟩
      have ep : ps0 (ws.drop (i + 1)) = u.2.2.2 := by rw [drop_c eu]; rfl
      rw [ep]
      rcases W.2 with ⟨_, _, z, _⟩ | z
      · cases z
      · exact Or.inr z
    by_cases c : 32 ≤ t.1 ∧ t.1 ≤ 34
    · rw [if_pos c, pSum]
      obtain ⟨B1, y1, y2, y3, y4⟩ := keep_M (mA := mA) hG hI e (by omega) (by omega)
      obtain ⟨v, B', ⟨z1, z2⟩, z3⟩ := tm B1 y2 y3 (y4.trans h20) (hG.i8 e (by omega)).2
      subst z2
      refine ⟨0, B', ?_, z3⟩
      by_cases c34 : t.1 = 34
      · unfold psL
        rw [L_X11_product_5, if_neg (show ¬ (1 : Int32) = 0 by decide), k5, if_pos ((q42 h38).mpr (by omega)), bnd2_e y1, bnd2_e z1]
        exact psL_0
      · unfold psL
        rw [L_X11_product_5, if_neg (show ¬ (1 : Int32) = 0 by decide), k5, if_neg (fun z => by have := (q42 h38).mp z; omega), bnd2_s, cz_1, bnd2_s, L_X11_sum_10, if_neg (show ¬ (1 : Int32) = 0 by decide), k5]
        have fin : bnd2 (R_X11_keepWord mA B) (fun v4 M4 => bnd2 (R_X11_product mA M4) (fun v5 M5 => L_X11_sum_10 mA (g2 + 1) v5 M5)) = some (0, B') := by
          rw [bnd2_e y1, prod_ps, bnd2_e z1, hF0]
          exact psL_0
        by_cases c32 : t.1 = 32
        · rw [if_pos ((q43 h38).mpr (by omega))]; exact fin
        · rw [if_neg (fun z => by have := (q43 h38).mp z; omega), if_pos ((q45 h38).mpr (by omega))]; exact fin
    · rw [if_neg c]
      refine ⟨1, B, ?_, FrY.rf, Or.inl ⟨_, i, by rw [drop_c e], Nat.le_refl _, hi, rfl, hI⟩⟩
      unfold psL
      rw [L_X11_product_5, if_neg (show ¬ (1 : Int32) = 0 by decide), k5, if_neg (fun z => by have := (q42 h38).mp z; omega), bnd2_s, cz_1, bnd2_s, L_X11_sum_10, if_neg (show ¬ (1 : Int32) = 0 by decide), k5, if_neg (fun z => by have := (q43 h38).mp z; omega), if_neg (fun z => by have := (q45 h38).mp z; omega)]
  | succ f ih =>
    intro i g1 g2 B hf hI hi h20 hg1 hg2
    obtain ⟨g1, rfl⟩ : ∃ m, g1 = m + 1 := ⟨g1 - 1, by omega⟩
    obtain ⟨g2, rfl⟩ : ∃ m, g2 = m + 1 := ⟨g2 - 1, by omega⟩
    obtain ⟨t, e⟩ := get_lt hi
    have h38 := (hG.2.2.2.2 i t e).2.1
    have k5 := hI.k e
    rw [drop_c e, pTl_c]
    by_cases c : 32 ≤ t.1 ∧ t.1 ≤ 34
    · rw [if_pos c, pSum_tl]
      obtain ⟨B1, y1, y2, y3, y4⟩ := keep_M (mA := mA) hG hI e (by omega) (by omega)
      have hi1 := (hG.i8 e (by omega)).2
      obtain ⟨v, B2, z1, z2, z3⟩ := term_R (mA := mA) (j := t.1) hG y2 hi1 (y4.trans h20) (show 12 - (f + 1) < 12 by omega)
      -- what follows the term
      have goes : ∀ G1 G2, f + 1 < G1 → f + 1 < G2 → ∃ v' B', psL mA G1 G2 v B2 = some (v', B') ∧ MR T n q ws B B' v' (pthen (pTerm t.1 (ws.drop (i + 1))) fun t ts => pthen (pTl f ts) fun l us => .inl (t :: l, us)) i := by
        intro G1 G2 hG1 hG2
        rcases z2.2 with ⟨a, i2, w1, w2, w3, w4, w5⟩ | ⟨p, w1, w2, w3, w4⟩
        · subst w4
          have h20' := z3 rfl
          rw [show 12 - (f + 1) + 1 = 12 - f by omega] at h20'
          obtain ⟨v', B', x1, F', x2⟩ := ih i2 G1 G2 B2 (by omega) w5 w3 h20' hG1 hG2
          refine ⟨v', B', x1, (y3.tr z2.1).tr F', ?_⟩
          rw [w1]
          dsimp only [pthen]
          rcases x2 with ⟨l, i3, x3, x4, x5, x6, x7⟩ | ⟨p, x3, x4, x5, x6⟩
          · rw [x3]
            exact Or.inl ⟨_, i3, rfl, by omega, x5, x6, x7⟩
          · rw [x3]
            exact Or.inr ⟨p, rfl, x4, x5, x6⟩
        · subst w2
          obtain ⟨G1, rfl⟩ : ∃ m, G1 = m + 1 := ⟨G1 - 1, by omega⟩
          obtain ⟨G2, rfl⟩ : ∃ m, G2 = m + 1 := ⟨G2 - 1, by omega⟩
          rw [w1]
          exact ⟨0, B2, psL_0, y3.tr z2.1, Or.inr ⟨p, rfl, rfl, w3, w4⟩⟩
      by_cases c34 : t.1 = 34
      · obtain ⟨v', B', x1, x2⟩ := goes g1 (g2 + 1) (by omega) (by omega)
        refine ⟨v', B', ?_, x2⟩
        unfold psL
        rw [L_X11_product_5, if_neg (show ¬ (1 : Int32) = 0 by decide), k5, if_pos ((q42 h38).mpr (by omega)), bnd2_e y1, bnd2_e z1]
        exact x1
      · obtain ⟨v', B', x1, x2⟩ := goes FUEL g2 (by omega) (by omega)
        refine ⟨v', B', ?_, x2⟩
        unfold psL
        rw [L_X11_product_5, if_neg (show ¬ (1 : Int32) = 0 by decide), k5, if_neg (fun z => by have := (q42 h38).mp z; omega), bnd2_s, cz_1, bnd2_s, L_X11_sum_10, if_neg (show ¬ (1 : Int32) = 0 by decide), k5]
        have fin : bnd2 (R_X11_keepWord mA B) (fun v4 M4 => bnd2 (R_X11_product mA M4) (fun v5 M5 => L_X11_sum_10 mA g2 v5 M5)) = some (v', B') := by
          rw [bnd2_e y1, prod_ps, bnd2_e z1]
          exact x1
        by_cases c32 : t.1 = 32
        · rw [if_pos ((q43 h38).mpr (by omega))]; exact fin
        · rw [if_neg (fun z => by have := (q43 h38).mp z; omega), if_pos ((q45 h38).mpr (by omega))]; exact fin
    · rw [if_neg c]
      refine ⟨1, B, ?_, FrY.rf, Or.inl ⟨_, i, by rw [drop_c e], Nat.le_refl _, hi, rfl, hI⟩⟩
      obtain ⟨g1, rfl⟩ : ∃ m, g1 = m + 1 := ⟨g1 - 1, by omega⟩
      unfold psL
      rw [L_X11_product_5, if_neg (show ¬ (1 : Int32) = 0 by decide), k5, if_neg (fun z => by have := (q42 h38).mp z; omega), bnd2_s, cz_1, bnd2_s, L_X11_sum_10, if_neg (show ¬ (1 : Int32) = 0 by decide), k5, if_neg (fun z => by have := (q43 h38).mp z; omega), if_neg (fun z => by have := (q45 h38).mp z; omega)]
theorem sum_R {T : Nat → Nat} {n q mA i : Nat} {ws : List Tk} {B : Mem} (hG : WsG q ws) (hI : MI T n q ws B i) (hi : i < ws.length) : ∃ v B', R_X11_sum mA B = some (v, B') ∧ MR T n q ws B B' v (pSum 12 32 (ws.drop i)) i := by
  obtain ⟨F0, hF0⟩ : ∃ m, FUEL = m + 1 := ⟨FUEL - 1, by unfold FUEL; omega⟩
  have hF12 : 12 < FUEL := by unfold FUEL; omega
  have FS := FrY.i (q := q) (B := B) (j := 20) (v := 0) (Or.inr rfl)
  obtain ⟨v, B2, z1, z2, z3⟩ := term_R (mA := mA) (j := 32) (c := 0) hG (hI.s (v := 0)) hi gs_eI (by omega)
  have e0 : R_X11_sum mA B = bnd2 (bnd2 (R_X11_term mA (setI B 242 20 0)) (fun v1 M1 => psL mA FUEL FUEL v1 M1)) (fun v9_0 M9 => cz v9_0 (some (v9_0, M9))) := by
    unfold R_X11_sum R_X11_product psL
    cases R_X11_term mA (setI B 242 20 0) with
    | none => rfl
    | some x =>
      obtain ⟨x1, x2⟩ := x
      rw [bnd2_s, bnd2_s]
      cases L_X11_product_5 mA FUEL x1 x2 with
      | none => rfl
      | some y =>
        obtain ⟨y1, y2⟩ := y
        rw [bnd2_s]
        unfold cz
        split <;> rfl
  rw [e0, bnd2_e z1, pSum_tl]
  rcases z2.2 with ⟨a, i2, w1, w2, w3, w4, w5⟩ | ⟨p, w1, w2, w3, w4⟩
  · subst w4
    obtain ⟨v', B', x1, F', x2⟩ := tail_R (mA := mA) hG 11 i2 FUEL FUEL B2 (by omega) w5 w3 (z3 rfl) (by omega) (by omega)
    have V := MR.v (α := Sm) (T := T) (n := n) (q := q) (ws := ws) ⟨F', x2⟩
    rw [x1, bnd2_s, cz_v V]
    refine ⟨v', B', rfl, (FS.tr z2.1).tr F', ?_⟩
    rw [w1]
    dsimp only [pthen]
    rcases x2 with ⟨l, i3, x3, x4, x5, x6, x7⟩ | ⟨p, x3, x4, x5, x6⟩
    · rw [x3]
      exact Or.inl ⟨_, i3, rfl, by omega, x5, x6, x7⟩
    · rw [x3]
      exact Or.inr ⟨p, rfl, x4, x5, x6⟩
  · subst w2
    rw [hF0, psL_0, bnd2_s, cz_0, w1]
    exact ⟨0, B2, rfl, FS.tr z2.1, Or.inr ⟨p, rfl, rfl, w3, w4⟩⟩
