section RD
variable {α β γ : Type} {T : Nat → Nat} {n q mA : Nat} {ws : List Tk}
def ifV (w : Int32) (N : Mem) : Option (Int32 × Mem) := if w = 0 then some ((0 : Int32), N) else some ((1 : Int32), N)
/-- m + 1 sums one behind another -/
def sC (mA : Nat) : Nat → Mem → Option (Int32 × Mem)
  | 0, M => bnd2 (R_X11_sum mA M) (fun w N => if w = 0 then some ((0 : Int32), N) else some ((1 : Int32), N))
  | m + 1, M => bnd2 (R_X11_sum mA M) (fun v M => if v = 0 then some ((0 : Int32), M) else sC mA m M)
theorem sums_R (hG : WsG q ws) : ∀ (m i : Nat) (B : Mem), MI T n q ws B i → i < ws.length → ∃ v B', sC mA m B = some (v, B') ∧ MR T n q ws B B' v (pSums (m + 1) (ws.drop i)) i := by
  intro m
  induction m with
  | zero =>
    intro i B hI hi
    obtain ⟨v, B', e, H⟩ := ifv_R (sum_R (mA := mA) hG hI hi)
    exact ⟨v, B', e, H.map (fun a => [a])⟩
  | succ m ih =>
    intro i B hI hi
    rw [sC, pSums]
    refine MR.seq (sum_R (mA := mA) hG hI hi) (fun a i1 B1 _ _ hi1 hI1 _ => ?_)
    obtain ⟨v, B', e, H⟩ := ih i1 B1 hI1 hi1
    exact ⟨v, B', e, H.map (fun l => a :: l)⟩
theorem is_R {i k1 k2 D : Nat} {x : Int32} {B : Mem} (hG : WsG q ws) (hI : MI T n q ws B i) (hi : i < ws.length) (hx : x = nI D) (hD : D < 128) (hd : ∀ k, k < 38 → (kM k = D ↔ k1 ≤ k ∧ k ≤ k2)) (h35 : k2 ≤ 35) (h26 : ¬ (k1 ≤ 26 ∧ 26 ≤ k2)) : ∃ v B', R_X11_is x mA B = some (v, B') ∧ MR T n q ws B B' v (pWord k1 k2 (ws.drop i)) i := by
  obtain ⟨v, B', e, H, _⟩ := is_M (mA := mA) hG hI hi hx hD hd h35 h26
  exact ⟨v, B', e, H⟩
/-- what stands between an act's first word and its end -/
def mid (mA : Nat) (w : Int32) (M1 : Mem) : Option (Int32 × Mem) := if w = (13 : Int32) then R_X11_name (0 : Int32) mA M1 else (if w = (14 : Int32) then (bnd2 (R_X11_is (3 : Int32) mA M1) (fun v31 M31 => if v31 = 0 then (some ((0 : Int32), M31)) else sC mA 0 M31)) else (if w = (15 : Int32) then sC mA 1 M1 else (if w = (16 : Int32) then sC mA 1 M1 else (if w = (17 : Int32) then sC mA 2 M1 else (some ((1 : Int32), M1))))))
def fin (mA : Nat) (x : Int32) (v : Int32) (M : Mem) : Option (Int32 × Mem) := bnd2 (if v = 0 then (some ((0 : Int32), M)) else (bnd2 (R_X11_is x mA M) (fun w N => if w = 0 then (some ((0 : Int32), N)) else (some ((1 : Int32), N))))) (fun w N => cz w (some (w, N)))
theorem fin_0 {x : Int32} {M : Mem} : fin mA x 0 M = some (0, M) := by
  unfold fin
  rw [if_pos rfl, bnd2_s, cz_0]
theorem fin_1 {x : Int32} {M : Mem} : fin mA x 1 M = bnd2 (bnd2 (R_X11_is x mA M) (fun w N => if w = 0 then (some ((0 : Int32), N)) else (some ((1 : Int32), N)))) (fun w N => cz w (some (w, N))) := by
  unfold fin
  rw [if_neg (show ¬ (1 : Int32) = 0 by decide)]
theorem act_e {M : Mem} : R_X11_act mA M = bnd2 (R_X11_keepWord mA M) (fun _ M1 => bnd2 (mid mA (M.1 242 5) M1) (fun v6 M6 => fin mA 59 v6 M6)) := by
  unfold R_X11_act mid fin
  simp only [bnd2_id, sC]
/-- a reading, and then a word that must stand there -/
theorem fin_R {i k1 k2 D : Nat} {x : Int32} {B : Mem} {f : Option (Int32 × Mem)} {r : PR α} (hG : WsG q ws) (h : ∃ v B', f = some (v, B') ∧ MR T n q ws B B' v r i) (hx : x = nI D) (hD : D < 128) (hd : ∀ k, k < 38 → (kM k = D ↔ k1 ≤ k ∧ k ≤ k2)) (h35 : k2 ≤ 35) (h26 : ¬ (k1 ≤ 26 ∧ 26 ≤ k2)) (g : α → β) : ∃ v B', bnd2 f (fun v6 M6 => fin mA x v6 M6) = some (v, B') ∧ MR T n q ws B B' v (pthen r fun a ts => pthen (pWord k1 k2 ts) fun _ ts => .inl (g a, ts)) i := by
  obtain ⟨v, B1, e, H⟩ := h
  rw [bnd2_e e]
  rcases H.2 with ⟨a, i1, w1, w2, w3, w4, w5⟩ | ⟨p, w1, w2, w3, w4⟩
  · subst w4
    rw [fin_1, w1]
    obtain ⟨v', B', y1, y2⟩ := cz_R (ifv_R (is_R (mA := mA) hG w5 w3 hx hD hd h35 h26))
    exact ⟨v', B', y1, MR.fr (y2.map (fun _ => g a)) H.1 w2⟩
  · subst w2
    rw [fin_0, w1]
    exact ⟨0, B1, rfl, H.1, Or.inr ⟨p, rfl, rfl, w3, w4⟩⟩
def pMid (a : Nat) (ts : List Tk) : PR ((List Nat × Nat × Nat) × List Sm) := pthen (pHead a ts) fun h ts => pthen (pSums h.2.2 ts) fun l ts => .inl ((h, l), ts)
theorem pAct_e {t : Tk} {ts : List Tk} (h : 3 ≤ t.1 ∧ t.1 ≤ 8) : pAct (t :: ts) = pthen (pMid t.1 ts) fun hl ts => pthen (pWord 35 35 ts) fun _ ts => .inl ((t.1, hl.1.1, hl.1.2.1, hl.2), ts) := by
  unfold pAct pMid
  rw [pWord, if_pos h]
  dsimp only [pthen]
  cases pHead t.1 ts with
  | inr p => rfl
  | inl x =>
    obtain ⟨a, us⟩ := x
    dsimp only
    cases pSums a.2.2 us with
    | inr p => rfl
    | inl y => rfl
theorem mid_R {i : Nat} {t : Tk} {B : Mem} (hG : WsG q ws) (hI : MI T n q ws B (i + 1)) (hi : i + 1 < ws.length) (e : ws[i]? = some t) (h : 3 ≤ t.1 ∧ t.1 ≤ 8) : ∃ v B', mid mA (nI (kM t.1)) B = some (v, B') ∧ MR T n q ws B B' v (pMid t.1 (ws.drop (i + 1))) (i + 1) := by
  unfold mid pMid pHead
  rcases (show t.1 = 3 ∨ t.1 = 4 ∨ t.1 = 5 ∨ t.1 = 6 ∨ t.1 = 7 ∨ t.1 = 8 by omega) with c | c | c | c | c | c <;> rw [c]
  · rw [if_pos (show nI (kM 3) = (13 : Int32) from rfl), if_pos rfl, pthen_as]
    obtain ⟨v, B', y1, y2⟩ := name_R (mA := mA) (x := 0) hG hI hi (by rw [isSt_e e, c]; rfl) (Or.inl rfl)
    exact ⟨v, B', y1, y2.map (fun n : Tk => (((n.2.1, 0, 0) : List Nat × Nat × Nat), ([] : List Sm)))⟩
  · rw [if_neg (show ¬ nI (kM 4) = (13 : Int32) by decide), if_pos (show nI (kM 4) = (14 : Int32) from rfl), if_neg (by decide), if_pos rfl, pthen_as]
    refine MR.seq (is_R hG hI hi rfl (by decide) r3 (by decide) (by decide)) (fun o i1 B1 _ _ hi1 hI1 _ => ?_)
    obtain ⟨v, B', y1, y2⟩ := sums_R (mA := mA) hG 0 i1 B1 hI1 hi1
    exact ⟨v, B', y1, y2.map (fun l => ((([], o.1 - 13, 1) : List Nat × Nat × Nat), l))⟩
  · rw [if_neg (show ¬ nI (kM 5) = (13 : Int32) by decide), if_neg (show ¬ nI (kM 5) = (14 : Int32) by decide), if_pos (show nI (kM 5) = (15 : Int32) from rfl), if_neg (by decide), if_neg (by decide)]
    obtain ⟨v, B', y1, y2⟩ := sums_R (mA := mA) hG 1 (i + 1) B hI hi
    exact ⟨v, B', y1, y2.map (fun l => ((([], 0, nsum 5) : List Nat × Nat × Nat), l))⟩
  · rw [if_neg (show ¬ nI (kM 6) = (13 : Int32) by decide), if_neg (show ¬ nI (kM 6) = (14 : Int32) by decide), if_neg (show ¬ nI (kM 6) = (15 : Int32) by decide), if_pos (show nI (kM 6) = (16 : Int32) from rfl), if_neg (by decide), if_neg (by decide)]
    obtain ⟨v, B', y1, y2⟩ := sums_R (mA := mA) hG 1 (i + 1) B hI hi
    exact ⟨v, B', y1, y2.map (fun l => ((([], 0, nsum 6) : List Nat × Nat × Nat), l))⟩
  · rw [if_neg (show ¬ nI (kM 7) = (13 : Int32) by decide), if_neg (show ¬ nI (kM 7) = (14 : Int32) by decide), if_neg (show ¬ nI (kM 7) = (15 : Int32) by decide), if_neg (show ¬ nI (kM 7) = (16 : Int32) by decide), if_pos (show nI (kM 7) = (17 : Int32) from rfl), if_neg (by decide), if_neg (by decide)]
    obtain ⟨v, B', y1, y2⟩ := sums_R (mA := mA) hG 2 (i + 1) B hI hi
    exact ⟨v, B', y1, y2.map (fun l => ((([], 0, nsum 7) : List Nat × Nat × Nat), l))⟩
  · rw [if_neg (show ¬ nI (kM 8) = (13 : Int32) by decide), if_neg (show ¬ nI (kM 8) = (14 : Int32) by decide), if_neg (show ¬ nI (kM 8) = (15 : Int32) by decide), if_neg (show ¬ nI (kM 8) = (16 : Int32) by decide), if_neg (show ¬ nI (kM 8) = (17 : Int32) by decide), if_neg (by decide), if_neg (by decide)]
    exact ⟨1, B, rfl, FrY.rf, Or.inl ⟨_, i + 1, rfl, Nat.le_refl _, hi, rfl, hI⟩⟩
theorem act_R {i : Nat} {t : Tk} {B : Mem} (hG : WsG q ws) (hI : MI T n q ws B i) (e : ws[i]? = some t) (h : 3 ≤ t.1 ∧ t.1 ≤ 8) : ∃ v B', R_X11_act mA B = some (v, B') ∧ MR T n q ws B B' v (pAct (ws.drop i)) i := by
  obtain ⟨B1, y1, y2, y3, y4⟩ := keep_M (mA := mA) hG hI e (by omega) (by omega)
  have hi1 := (hG.i8 e (by omega)).2
  rw [act_e, bnd2_e y1, hI.k e, drop_c e, pAct_e h]
  obtain ⟨v, B', z1, z2⟩ := fin_R (mA := mA) hG (mid_R (mA := mA) hG y2 hi1 e h) (x := 59) (D := 59) rfl (by decide) r59 (by decide) (by decide) (fun hl => (t.1, hl.1.1, hl.1.2.1, hl.2))
  exact ⟨v, B', z1, MR.fr z2 y3 (Nat.le_succ _)⟩
theorem rAct : ∀ k, k < 38 → (13 ≤ kM k ∧ kM k ≤ 18 ↔ 3 ≤ k ∧ k ≤ 8) := by decide
theorem pActs_c {g : Nat} {t : Tk} {l : List Tk} : pActs (g + 1) (t :: l) = if t.1 = 28 then .inl ([], t :: l) else pthen (pAct (t :: l)) fun a ts => pthen (pActs g ts) fun l us => .inl (a :: l, us) := by
  rw [pActs]
  rfl
theorem pActs_0 {t : Tk} {l : List Tk} : pActs 0 (t :: l) = if t.1 = 28 then .inl ([], t :: l) else .inr t.2.2.2 := by
  rw [pActs]
  rfl
theorem pAct_n {t : Tk} {ts : List Tk} (h : ¬ (3 ≤ t.1 ∧ t.1 ≤ 8)) : pAct (t :: ts) = .inr t.2.2.2 := by
  unfold pAct
  rw [pWord, if_neg h]
  rfl
theorem acts_R (hG : WsG q ws) : ∀ (g c f i : Nat) (B : Mem), g + c = 8 → g + 1 < f → MI T n q ws B i → i < ws.length → ∃ v B', bnd2 (L_X11_rule_57 mA f 1 (nI c) B) (fun v20 M20 => fin mA 125 v20 M20) = some (v, B') ∧ MR T n q ws B B' v (pthen (pActs g (ws.drop i)) fun al ts => pthen (pWord 28 28 ts) fun _ ts => .inl (al, ts)) i := by
  -- where no act stands, `}` must
  have stop : ∀ (f i : Nat) (B : Mem) (t : Tk) (u : Int32) (r : PR (List PA)), MI T n q ws B i → ws[i]? = some t → ¬ (3 ≤ t.1 ∧ t.1 ≤ 8) → (t.1 = 28 → r = .inl ([], ws.drop i)) → (t.1 ≠ 28 → r = .inr t.2.2.2) → ∃ v B', bnd2 (L_X11_rule_57 mA (f + 1) 1 u B) (fun v20 M20 => fin mA 125 v20 M20) = some (v, B') ∧ MR T n q ws B B' v (pthen r fun al ts => pthen (pWord 28 28 ts) fun _ ts => .inl (al, ts)) i := by
    intro f i B t u r hI e hna h28 hn28
    have h38 := (hG.2.2.2.2 i t e).2.1
    have hk := hI.k e
    have hA := rAct t.1 h38
    have hlt := kM_lt h38
    have ex : L_X11_rule_57 mA (f + 1) 1 u B = some (1, B) := by
      rw [L_X11_rule_57, if_neg (show ¬ (1 : Int32) = 0 by decide), hk]
      by_cases c1 : kM t.1 < 13
      · rw [if_pos (ltL (y := 13) 13 c1 rfl (by decide))]
      · rw [if_neg (nltL (y := 13) 13 (by omega) rfl (by omega)), if_pos (show (18 : Int32) < nI (kM t.1) from nI_lt (a := 18) (by omega) (by omega))]
    have hi := len_at e
    rw [ex, bnd2_s, fin_1]
    obtain ⟨v, B', y1, y2⟩ := cz_R (ifv_R (is_R (mA := mA) (x := 125) (D := 125) hG hI hi rfl (by decide) r125 (by decide) (by decide)))
    refine ⟨v, B', y1, ?_⟩
    by_cases c : t.1 = 28
    · rw [h28 c]
      exact y2.map (fun _ => ([] : List PA))
    · rw [hn28 c]
      rw [drop_c e, pWord, if_neg (by omega)] at y2
      exact y2.er
  intro g
  induction g with
  | zero =>
    intro c f i B hc hf hI hi
    obtain ⟨f, rfl⟩ : ∃ m, f = m + 1 := ⟨f - 1, by omega⟩
    have hc8 : c = 8 := by omega
    subst hc8
    obtain ⟨t, e⟩ := get_lt hi
    have h38 := (hG.2.2.2.2 i t e).2.1
    by_cases ca : 3 ≤ t.1 ∧ t.1 ≤ 8
    · have hA := (rAct t.1 h38).mpr ca
      have W := MR.wrong (α := List PA) hG hI e
      rw [drop_c e, pActs_0, if_neg (by omega), L_X11_rule_57, if_neg (show ¬ (1 : Int32) = 0 by decide), hI.k e, if_neg (nltL (y := 13) 13 hA.1 rfl (by omega)), if_neg (show ¬ (18 : Int32) < nI (kM t.1) from nI_nlt (a := 18) hA.2 (by decide)), if_pos (show (8 : Int32) ≤ nI 8 from by decide), bnd2_s]
      obtain ⟨f, rfl⟩ : ∃ m, f = m + 1 := ⟨f - 1, by omega⟩
      rw [L_X11_rule_57, if_pos V_wrong, bnd2_s, V_wrong, fin_0]
      exact ⟨_, _, rfl, W.1, by
        rcases W.2 with ⟨_, _, z, _⟩ | ⟨p, z1, z2, z3⟩
        · cases z
        · cases z1; exact Or.inr ⟨_, rfl, rfl, z3⟩⟩
    · refine stop f i B t (nI 8) _ hI e ca (fun c => ?_) (fun c => ?_)
      · rw [drop_c e, pActs_0, if_pos c]
      · rw [drop_c e, pActs_0, if_neg c]
  | succ g ih =>
    intro c f i B hc hf hI hi
    obtain ⟨f, rfl⟩ : ∃ m, f = m + 1 := ⟨f - 1, by omega⟩
    obtain ⟨t, e⟩ := get_lt hi
    have h38 := (hG.2.2.2.2 i t e).2.1
    by_cases ca : 3 ≤ t.1 ∧ t.1 ≤ 8
    · have hA := (rAct t.1 h38).mpr ca
      obtain ⟨v, B1, y1, y2⟩ := act_R (mA := mA) hG hI e ca
      rw [L_X11_rule_57, if_neg (show ¬ (1 : Int32) = 0 by decide), hI.k e, if_neg (nltL (y := 13) 13 hA.1 rfl (by omega)), if_neg (show ¬ (18 : Int32) < nI (kM t.1) from nI_nlt (a := 18) hA.2 (by decide)), if_neg (show ¬ (8 : Int32) ≤ nI c from nI_ge (b := 8) (by omega) (by decide)), bnd2_id, bnd2_e y1, nI_1]
      have eP : pActs (g + 1) (ws.drop i) = pthen (pAct (ws.drop i)) fun a ts => pthen (pActs g ts) fun l us => .inl (a :: l, us) := by
        rw [drop_c e, pActs_c, if_neg (by omega)]
      rw [eP, pthen_as]
      rcases y2.2 with ⟨a, i1, w1, w2, w3, w4, w5⟩ | ⟨p, w1, w2, w3, w4⟩
      · subst w4
        obtain ⟨v', B', x1, x2⟩ := ih (c + 1) f i1 B1 (by omega) (by omega) w5 w3
        refine ⟨v', B', x1, ?_⟩
        rw [w1]
        have := MR.fr (MR.map (fun l => a :: l) x2) y2.1 w2
        rw [pthen_as] at this
        show MR T n q ws B B' v' (pthen (pthen (pActs g (ws.drop i1)) fun l us => .inl (a :: l, us)) fun al ts => pthen (pWord 28 28 ts) fun _ ts => .inl (al, ts)) i
        rw [pthen_as]
        have e2 : (fun (a_1 : List PA) (ts : List Tk) => pthen (pthen (pWord 28 28 ts) fun _ ts => (.inl (a_1, ts) : PR (List PA))) fun a_2 ts => (.inl (a :: a_2, ts) : PR (List PA))) = fun (l : List PA) (us : List Tk) => pthen (.inl (a :: l, us) : PR (List PA)) fun al ts => pthen (pWord 28 28 ts) fun _ ts => .inl (al, ts) := by
          funext l us
          rw [pthen_as]
          rfl
        rw [← e2]
        exact this
      · subst w2
        obtain ⟨f, rfl⟩ : ∃ m, f = m + 1 := ⟨f - 1, by omega⟩
        rw [w1, L_X11_rule_57, if_pos rfl, bnd2_s, fin_0]
        exact ⟨0, B1, rfl, y2.1, Or.inr ⟨p, rfl, rfl, w3, w4⟩⟩
    · refine stop f i B t (nI c) _ hI e ca (fun c => ?_) (fun c => ?_)
      · rw [drop_c e, pActs_c, if_pos c]
      · rw [drop_c e, pActs_c, if_neg c, pAct_n ca]
        rfl
end RD
