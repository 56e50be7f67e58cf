/-! ===== the model reads tests and acts ===== -/
section RD
variable {α β γ : Type} {T : Nat → Nat} {n q mA i : Nat} {ws : List Tk} {B : Mem}
theorem bnd2_id {x : Option (Int32 × Mem)} : bnd2 x (fun w N => some (w, N)) = x := by
  cases x <;> rfl
theorem ifv_R {f : Option (Int32 × Mem)} {r : PR α} (h : ∃ v B', f = some (v, B') ∧ MR T n q ws B B' v r i) : ∃ v B', bnd2 f (fun w N => if w = 0 then some ((0 : Int32), N) else some ((1 : Int32), N)) = some (v, B') ∧ MR T n q ws B B' v r i := by
  obtain ⟨v, B', e, H⟩ := h
  exact ⟨v, B', by rw [bnd2_e e, if_v H.v], H⟩
theorem cz_R {f : Option (Int32 × Mem)} {r : PR α} (h : ∃ v B', f = some (v, B') ∧ MR T n q ws B B' v r i) : ∃ v B', bnd2 f (fun w N => cz w (some (w, N))) = some (v, B') ∧ MR T n q ws B B' v r i := by
  obtain ⟨v, B', e, H⟩ := h
  exact ⟨v, B', by rw [bnd2_e e, cz_v H.v], H⟩
theorem MR.map {B' : Mem} {v : Int32} {r : PR α} (f : α → β) (h : MR T n q ws B B' v r i) : MR T n q ws B B' v (pthen r (fun a ts => .inl (f a, ts))) i := by
  refine ⟨h.1, ?_⟩
  rcases h.2 with ⟨a, i', e1, e2⟩ | ⟨p, e1, e2⟩
  · rw [e1]; exact Or.inl ⟨f a, i', rfl, e2⟩
  · rw [e1]; exact Or.inr ⟨p, rfl, e2⟩
theorem MR.fr {B1 B' : Mem} {v : Int32} {i1 : Nat} {r : PR α} (h : MR T n q ws B1 B' v r i1) (F : FrY q B B1) (hi : i ≤ i1) : MR T n q ws B B' v r i := by
  refine ⟨F.tr h.1, ?_⟩
  rcases h.2 with ⟨a, i', e1, e2, e3⟩ | z
  · exact Or.inl ⟨a, i', e1, by omega, e3⟩
  · exact Or.inr z
theorem MR.er {B' : Mem} {v : Int32} {p : Nat} (h : MR T n q ws B B' v (.inr p : PR α) i) : MR T n q ws B B' v (.inr p : PR β) i := by
  refine ⟨h.1, ?_⟩
  rcases h.2 with ⟨_, _, z, _⟩ | ⟨p', e1, e2⟩
  · cases z
  · cases e1; exact Or.inr ⟨p, rfl, e2⟩
theorem pthen_as {x : PR α} {f : α → List Tk → PR β} {g : β → List Tk → PR γ} : pthen (pthen x f) g = pthen x (fun a ts => pthen (f a ts) g) := by
  cases x <;> rfl
theorem WsG.len (h : WsG q ws) : ws.length ≤ 801 := by
  refine Nat.le_of_not_lt (fun c => ?_)
  have hb : Bd ws 0 0 := fun _ _ => Nat.zero_le _
  have := hb.mono h.2.2.1 801 (by omega)
  obtain ⟨u, eu⟩ := get_lt (ws := ws) (i := 801) (by omega)
  have h2 := this u (by rw [Nat.zero_add]; exact eu)
  have h3 := (h.2.2.2.2 _ u eu).1
  omega
theorem r60 : ∀ k, k < 38 → (kM k = 60 ↔ 29 ≤ k ∧ k ≤ 29) := by decide
theorem r61 : ∀ k, k < 38 → (kM k = 61 ↔ 30 ≤ k ∧ k ≤ 30) := by decide
theorem r62 : ∀ k, k < 38 → (kM k = 62 ↔ 31 ≤ k ∧ k ≤ 31) := by decide
theorem r12 : ∀ k, k < 38 → (kM k = 12 ↔ 2 ≤ k ∧ k ≤ 2) := by decide
theorem r59 : ∀ k, k < 38 → (kM k = 59 ↔ 35 ≤ k ∧ k ≤ 35) := by decide
theorem r123 : ∀ k, k < 38 → (kM k = 123 ↔ 27 ≤ k ∧ k ≤ 27) := by decide
theorem r125 : ∀ k, k < 38 → (kM k = 125 ↔ 28 ≤ k ∧ k ≤ 28) := by decide
theorem r10 : ∀ k, k < 38 → (kM k = 10 ↔ 0 ≤ k ∧ k ≤ 0) := by decide
theorem r11 : ∀ k, k < 38 → (kM k = 11 ↔ 1 ≤ k ∧ k ≤ 1) := by decide
theorem r00 : ∀ k, k < 38 → (kM k = 0 ↔ 37 ≤ k ∧ k ≤ 37) := by decide
theorem q60 {t : Tk} (h : t.1 < 38) : nI (kM t.1) = (60 : Int32) ↔ 29 ≤ t.1 ∧ t.1 ≤ 29 := kM_ran r60 h rfl (by decide)
theorem q61 {t : Tk} (h : t.1 < 38) : nI (kM t.1) = (61 : Int32) ↔ 30 ≤ t.1 ∧ t.1 ≤ 30 := kM_ran r61 h rfl (by decide)
theorem q62 {t : Tk} (h : t.1 < 38) : nI (kM t.1) = (62 : Int32) ↔ 31 ≤ t.1 ∧ t.1 ≤ 31 := kM_ran r62 h rfl (by decide)
theorem q12 {t : Tk} (h : t.1 < 38) : nI (kM t.1) = (12 : Int32) ↔ 2 ≤ t.1 ∧ t.1 ≤ 2 := kM_ran r12 h rfl (by decide)
theorem q11 {t : Tk} (h : t.1 < 38) : nI (kM t.1) = (11 : Int32) ↔ 1 ≤ t.1 ∧ t.1 ≤ 1 := kM_ran r11 h rfl (by decide)
theorem q10 {t : Tk} (h : t.1 < 38) : nI (kM t.1) = (10 : Int32) ↔ 0 ≤ t.1 ∧ t.1 ≤ 0 := kM_ran r10 h rfl (by decide)
theorem q0 {t : Tk} (h : t.1 < 38) : nI (kM t.1) = (0 : Int32) ↔ 37 ≤ t.1 ∧ t.1 ≤ 37 := kM_ran r00 h rfl (by decide)
theorem test_R (hG : WsG q ws) (hI : MI T n q ws B i) (hi : i < ws.length) : ∃ v B', R_X11_test mA B = some (v, B') ∧ MR T n q ws B B' v (pTest (ws.drop i)) i := by
  unfold R_X11_test pTest
  refine MR.seq (sum_R hG hI hi) (fun a i1 B1 _ _ hi1 hI1 _ => ?_)
  obtain ⟨t, e⟩ := get_lt hi1
  have h38 := (hG.2.2.2.2 i1 t e).2.1
  rw [hI1.k e, drop_c e, pWord]
  by_cases c : 29 ≤ t.1 ∧ t.1 ≤ 31
  · obtain ⟨B2, y1, y2, y3, y4⟩ := keep_M (mA := mA) hG hI1 e (by omega) (by omega)
    obtain ⟨v, B3, z1, z2⟩ := cz_R (sum_R (mA := mA) hG y2 (hG.i8 e (by omega)).2)
    have fin : bnd2 (R_X11_keepWord mA B1) (fun v4 M4 => bnd2 (R_X11_sum mA M4) (fun v5 M5 => cz v5 (some (v5, M5)))) = some (v, B3) := by rw [bnd2_e y1]; exact z1
    rw [if_pos c]
    refine ⟨v, B3, ?_, MR.fr (MR.map _ z2) y3 (Nat.le_succ _)⟩
    by_cases c1 : t.1 = 29
    · rw [if_pos ((q60 h38).mpr (by omega))]; exact fin
    · rw [if_neg (fun z => by have := (q60 h38).mp z; omega)]
      by_cases c2 : t.1 = 30
      · rw [if_pos ((q61 h38).mpr (by omega))]; exact fin
      · rw [if_neg (fun z => by have := (q61 h38).mp z; omega), if_pos ((q62 h38).mpr (by omega))]; exact fin
  · have W := MR.wrong (α := Ts) hG hI1 e
    rw [if_neg c, if_neg (fun z => by have := (q60 h38).mp z; omega), if_neg (fun z => by have := (q61 h38).mp z; omega), if_neg (fun z => by have := (q62 h38).mp z; omega), cz_v W.v]
    exact ⟨_, _, rfl, W⟩
theorem pTests_c {f : Nat} {t : Ts} {u : Tk} {l : List Tk} : (if kd0 (u :: l) = 2 then pthen (pTests f (u :: l).tail) fun l us => (.inl (t :: l, us) : PR (List Ts)) else .inl ([t], u :: l)) = if u.1 = 2 then pthen (pTests f l) fun l us => .inl (t :: l, us) else .inl ([t], u :: l) := rfl
theorem tests_R (hG : WsG q ws) : ∀ (f i g : Nat) (B : Mem), 801 ≤ f + i → f < g → MI T n q ws B i → i < ws.length → ∃ v B', bnd2 (R_X11_test mA B) (fun v2 M2 => L_X11_rule_10 mA g v2 M2) = some (v, B') ∧ MR T n q ws B B' v (pTests f (ws.drop i)) i := by
  have hl := hG.len
  intro f
  induction f with
  | zero => intro i g B hf hg hI hi; omega
  | succ f ih =>
    intro i g B hf hg hI hi
    obtain ⟨g, rfl⟩ : ∃ m, g = m + 1 := ⟨g - 1, by omega⟩
    obtain ⟨v, B1, z1, z2⟩ := test_R (mA := mA) hG hI hi
    rw [bnd2_e z1, pTests]
    rcases z2.2 with ⟨a, i1, w1, w2, w3, w4, w5⟩ | ⟨p, w1, w2, w3, w4⟩
    · subst w4
      rw [w1]
      obtain ⟨t, e⟩ := get_lt w3
      have h38 := (hG.2.2.2.2 i1 t e).2.1
      dsimp only [pthen]
      rw [L_X11_rule_10, if_neg (show ¬ (1 : Int32) = 0 by decide), w5.k e, drop_c e]
      have hT := pTests_c (f := f) (t := a) (u := t) (l := ws.drop (i1 + 1))
      dsimp only [pthen] at hT
      rw [hT]
      by_cases c : t.1 = 2
      · rw [if_pos c, if_pos ((q12 h38).mpr (by omega))]
        obtain ⟨B2, y1, y2, y3, y4⟩ := keep_M (mA := mA) hG w5 e (by omega) (by omega)
        rw [bnd2_e y1]
        obtain ⟨v', B', x1, x2⟩ := ih (i1 + 1) g B2 (by omega) (by omega) y2 (hG.i8 e (by omega)).2
        exact ⟨v', B', x1, MR.fr (MR.map (fun l => a :: l) x2) (z2.1.tr y3) (by omega)⟩
      · rw [if_neg c, if_neg (fun z => by have := (q12 h38).mp z; omega)]
        exact ⟨1, B1, rfl, z2.1, Or.inl ⟨_, i1, by rw [drop_c e], w2, w3, rfl, w5⟩⟩
    · subst w2
      rw [w1, L_X11_rule_10, if_pos rfl]
      exact ⟨0, B1, rfl, z2.1, Or.inr ⟨p, rfl, rfl, w3, w4⟩⟩
theorem isSt_e {j : Nat} {u : Tk} (e : ws[j]? = some u) : isSt ws (j + 1) = if u.1 = 0 then 1 else 0 := by
  unfold isSt
  rw [Nat.add_sub_cancel, e]
theorem name_R {x : Int32} (hG : WsG q ws) (hI : MI T n q ws B i) (hi : i < ws.length) (hx : x = isSt ws i) (hx1 : x = 0 ∨ x = 1) : ∃ v B', R_X11_name x mA B = some (v, B') ∧ MR T n q ws B B' v (pWord 26 26 (ws.drop i)) i := by
  obtain ⟨t, e⟩ := get_lt hi
  have h38 := (hG.2.2.2.2 i t e).2.1
  unfold R_X11_name
  rw [hI.k e, drop_c e, pWord]
  by_cases c : 26 ≤ t.1 ∧ t.1 ≤ 26
  · rw [if_pos c, if_pos ((q1 h38).mpr c)]
    have hi8 := hG.i8 e (by omega)
    obtain ⟨hT, h8, h2, h11, ⟨u, eu, hH⟩, hR, hN⟩ := hI
    have : u = t := Option.some.inj (eu.symm.trans e)
    subst this
    have hlen := nmL_len (ws := ws) i
    have h15 := hN.1
    obtain ⟨m, hm⟩ : ∃ m, m = (nmL ws i).length := ⟨_, rfl⟩
    rw [← hm] at h15 hlen
    rw [h15, ck_nI (by omega) (by omega), ck_nI (by omega) (by omega), ck_nI (by omega) (by omega), ck_nI (by omega) (by omega), cz_v hx1, nI_clamp (by omega), nI_1, h11, hH.2.1, hH.2.2.2.2.1 (by omega)]
    obtain ⟨B1, hB1⟩ : ∃ X, X = setI (setI (setI (setI (setJ B 249 m (Int64.ofNat (pkN 27 u.2.1))) 250 m (nI u.2.2.2)) 251 m (nI i)) 252 m x) 242 15 (nI (m + 1)) := ⟨_, rfl⟩
    have g : ∀ j, j ≠ 15 → B1.1 242 j = B.1 242 j := fun j hj => by rw [hB1, gI (Or.inr hj), gI (Or.inl (by decide)), gI (Or.inl (by decide)), gI (Or.inl (by decide))]; rfl
    have d : ∀ c, c ≠ 242 → c ≠ 250 → c ≠ 251 → c ≠ 252 → B1.1 c = B.1 c := fun c p1 p2 p3 p4 => by rw [hB1, fI p1, fI p4, fI p3, fI p2]; rfl
    have dj : ∀ c, c ≠ 249 → B1.2 c = B.2 c := fun c p => by rw [hB1]; exact fJ p
    have T1 : TapeM B1 T n := ⟨by rw [g 1 (by decide)]; exact hT.1, hT.2.1, fun z hz => by rw [d 243 (by decide) (by decide) (by decide) (by decide)]; exact hT.2.2 z hz⟩
    have H1 : HandT B1 T n u (ws.drop (i + 1)) := by
      obtain ⟨a1, a2, a3, a4, a5, a6⟩ := hH
      exact ⟨by rw [g 5 (by decide)]; exact a1, by rw [g 3 (by decide)]; exact a2, a3, fun h => by rw [g 6 (by decide)]; exact a4 h, fun h => by rw [dj 242 (by decide)]; exact a5 h, fun h => by rw [g 4 (by decide)]; exact a6 h⟩
    have F1 : FrY q B B1 := ⟨fun c p1 _ _ p4 p5 p6 => d c p1 p4 p5 p6, fun j _ _ _ _ _ _ p7 _ => g j p7, fun c p z _ => by rw [d c (by omega) (by omega) (by omega) (by omega)], fun c _ p2 => dj c p2, fun j _ => by rw [dj 242 (by decide)]⟩
    obtain ⟨B', g1, g2, g3, g4, g5, g6⟩ := keep_core (mA := mA) (ws := ws) hG.1 hi8.1 T1 (by rw [g 8 (by decide)]; exact h8) (by rw [g 11 (by decide)]; exact h11) H1 (by omega)
    rw [← hB1, bnd2_e g1, cz_1]
    refine ⟨1, B', rfl, F1.tr g6.y, Or.inl ⟨u, i + 1, rfl, Nat.le_succ _, hi8.2, rfl, ⟨by rw [g6.2.1 1 (by decide) (by decide) (by decide) (by decide) (by decide)]; exact T1.1, T1.2.1, fun z hz => by rw [g6.1 243 (by decide) (by decide) (by decide)]; exact T1.2.2 z hz⟩, ?_, ?_, g5, g2, fun j t' hj ej => ?_, ?_⟩⟩
    · rw [g6.2.1 8 (by decide) (by decide) (by decide) (by decide) (by decide), g 8 (by decide)]; exact h8
    · rw [g6.2.1 2 (by decide) (by decide) (by decide) (by decide) (by decide), g 2 (by decide)]; exact h2
    · by_cases cj : j = i
      · subst cj
        have : u = t' := Option.some.inj (e.symm.trans ej)
        subst this
        exact ⟨g3, g4⟩
      · rw [g6.2.2.1 244 (Or.inl rfl) _ (by omega), g6.2.2.1 245 (Or.inr rfl) _ (by omega), d 244 (by decide) (by decide) (by decide) (by decide), d 245 (by decide) (by decide) (by decide) (by decide)]
        exact hR j t' (by omega) ej
    · unfold NmR
      rw [nmL_y e (by omega), g6.2.1 15 (by decide) (by decide) (by decide) (by decide) (by decide), g6.1 250 (by decide) (by decide) (by decide), g6.1 251 (by decide) (by decide) (by decide), g6.1 252 (by decide) (by decide) (by decide), g6.2.2.2.1 249 (by decide)]
      refine ⟨by rw [hB1, gs_eI, List.length_append, ← hm]; rfl, fun k j ej => ?_⟩
      by_cases ck' : k < m
      · rw [List.getElem?_append_left (by omega)] at ej
        obtain ⟨t', b1, b2, b3, b4, b5⟩ := hN.2 k j ej
        refine ⟨t', b1, ?_, ?_, ?_, ?_⟩
        · rw [hB1, sI2, sI2, sI2, sI2, gJ (Or.inr (by omega))]; exact b2
        · rw [hB1, gI (Or.inl (by decide)), gI (Or.inl (by decide)), gI (Or.inl (by decide)), gI (Or.inr (by omega))]; exact b3
        · rw [hB1, gI (Or.inl (by decide)), gI (Or.inl (by decide)), gI (Or.inr (by omega)), gI (Or.inl (by decide))]; exact b4
        · rw [hB1, gI (Or.inl (by decide)), gI (Or.inr (by omega)), gI (Or.inl (by decide)), gI (Or.inl (by decide))]; exact b5
      · have hk := len_at ej
        rw [List.length_append, List.length_singleton] at hk
        have ek : k = m := by omega
        subst ek
        rw [List.getElem?_append_right (by omega), ← hm, Nat.sub_self] at ej
        have : i = j := Option.some.inj ej
        subst this
        refine ⟨u, e, ?_, ?_, ?_, ?_⟩
        · rw [hB1, sI2, sI2, sI2, sI2, gs_eJ]
        · rw [hB1, gI (Or.inl (by decide)), gI (Or.inl (by decide)), gI (Or.inl (by decide)), gs_eI]
        · rw [hB1, gI (Or.inl (by decide)), gI (Or.inl (by decide)), gs_eI]
        · rw [hB1, gI (Or.inl (by decide)), gs_eI]; exact hx
  · have W := MR.wrong (α := Tk) hG hI e
    rw [if_neg c, if_neg (fun z => c ((q1 h38).mp z)), cz_v W.v]
    exact ⟨_, _, rfl, W⟩
end RD
