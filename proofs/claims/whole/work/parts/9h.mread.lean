/-! ===== the model reads a text ===== -/
theorem tokAt_25 {T : Nat → Nat} {n p : Nat} (h : (tokAt T n p).1.1 = 25) : (tokAt T n p).1.2.2.1 ≤ 999 := by
  unfold tokAt at h ⊢
  by_cases c : isL (T p) = true
  · rw [if_pos c] at h ⊢
    dsimp only at h ⊢
    omega
  · rw [if_neg c] at h ⊢
    by_cases c2 : isF (T p) = true
    · rw [if_pos c2] at h ⊢
      dsimp only at h ⊢
      split at h
      · assumption
      · cases h
    · rw [if_neg c2]
      exact Nat.zero_le _
theorem scan_W {T : Nat → Nat} {n : Nat} : ∀ (k p : Nat), p ≤ n → ∀ t ∈ scan T n k p, t.2.2.2 ≤ n ∧ t.1 < 38 ∧ (t.1 = 25 → t.2.2.1 ≤ 999) := by
  intro k
  induction k with
  | zero =>
    intro p hp t ht
    rw [scan, List.mem_singleton] at ht
    rw [ht]; exact ⟨Nat.le_refl _, show 37 < 38 by decide, fun h => absurd h (show ¬ 37 = 25 by decide)⟩
  | succ k ih =>
    intro p hp t ht
    have hq := upto_le (P := isB) (T := T) (n - p) p
    rw [scan] at ht
    have tk : ∀ q, q < n → (tokAt T n q).1.2.2.2 ≤ n ∧ (tokAt T n q).1.1 < 38 ∧ ((tokAt T n q).1.1 = 25 → (tokAt T n q).1.2.2.1 ≤ 999) := fun q hq => ⟨by rw [tokAt_pos]; omega, by have := tokAt_k (T := T) (n := n) (p := q); omega, tokAt_25⟩
    split at ht
    · rw [List.mem_singleton] at ht
      rw [ht]; exact ⟨Nat.le_refl _, show 37 < 38 by decide, fun h => absurd h (show ¬ 37 = 25 by decide)⟩
    · rename_i c
      split at ht
      · rw [List.mem_singleton] at ht
        rw [ht]; exact tk _ (by omega)
      · rcases List.mem_cons.mp ht with e | e
        · rw [e]; exact tk _ (by omega)
        · exact ih _ (tokAt_gt (T := T) (show upto isB T (n - p) p < n by omega)).2 t e
theorem scan_G {T : Nat → Nat} {n q : Nat} (hn : n ≤ 800) (hq : q < 6) : WsG q (scan T n n 0) := by
  obtain ⟨f1, f2, f3, f4, f5⟩ := scan_F (T := T) (n := n) n 0 (Nat.zero_le _)
  refine ⟨hq, f1, f2, scan_nm n 0, fun i t e => ?_⟩
  have := scan_W (T := T) (n := n) n 0 (Nat.zero_le _) t (List.mem_of_getElem? e)
  exact ⟨by omega, this.2⟩
theorem nmL_in {ws : List Tk} : ∀ (N j : Nat), j ∈ nmL ws N → j < N ∧ ∃ t, ws[j]? = some t ∧ t.1 = 26 := by
  intro N
  induction N with
  | zero => intro j h; cases h
  | succ N ih =>
    intro j h
    rw [nmL] at h
    split at h
    · rename_i t e
      split at h
      · rename_i c
        rcases List.mem_append.mp h with h | h
        · have := ih j h; exact ⟨by omega, this.2⟩
        · rw [List.mem_singleton] at h
          subst h
          exact ⟨by omega, t, e, c⟩
      · have := ih j h; exact ⟨by omega, this.2⟩
    · have := ih j h; exact ⟨by omega, this.2⟩
theorem nmL_of {ws : List Tk} : ∀ (N j : Nat) (t : Tk), j < N → ws[j]? = some t → t.1 = 26 → j ∈ nmL ws N := by
  intro N
  induction N with
  | zero => intro j t h; omega
  | succ N ih =>
    intro j t hj e h26
    by_cases c : j = N
    · subst c
      rw [nmL_y e h26]
      exact List.mem_append_right _ (List.mem_singleton.mpr rfl)
    · have := ih j t (by omega) e h26
      rw [nmL]
      split
      · split
        · exact List.mem_append_left _ this
        · exact this
      · exact this
/-- what a reading changes in the model, findings apart -/
def FrR (q : Nat) (B B' : Mem) : Prop := (∀ d, d ≠ 242 → d ≠ 244 → d ≠ 245 → d ≠ 246 → d ≠ 247 → d ≠ 250 → d ≠ 251 → d ≠ 252 → d ≠ 253 → B'.1 d = B.1 d) ∧ (∀ j, j ≠ 1 → j ≠ 2 → j ≠ 3 → j ≠ 4 → j ≠ 5 → j ≠ 6 → j ≠ 8 → j ≠ 11 → j ≠ 15 → j ≠ 20 → B'.1 242 j = B.1 242 j) ∧ (∀ d, d = 244 ∨ d = 245 → ∀ x, x < 800 * q → B'.1 d x = B.1 d x) ∧ (∀ x, x ≠ q → B'.1 246 x = B.1 246 x) ∧ (∀ x, x < 8 * q → B'.1 247 x = B.1 247 x) ∧ (∀ d, d ≠ 242 → d ≠ 248 → d ≠ 249 → B'.2 d = B.2 d)
theorem FrX.r {q : Nat} {B B' : Mem} (h : FrX q B B') : FrR q B B' := ⟨fun d p1 p2 p3 p4 p5 p6 p7 p8 _ => h.1 d p1 p2 p3 p4 p5 p6 p7 p8, fun j _ p2 p3 p4 p5 p6 _ p8 p9 p10 => h.2.1 j p2 p3 p4 p5 p6 p8 p9 p10, h.2.2.1, h.2.2.2.1, h.2.2.2.2.1, h.2.2.2.2.2.1⟩
theorem FrR.tr {q : Nat} {B B1 B' : Mem} (h : FrR q B B1) (g : FrR q B1 B') : FrR q B B' := ⟨fun d p1 p2 p3 p4 p5 p6 p7 p8 p9 => (g.1 d p1 p2 p3 p4 p5 p6 p7 p8 p9).trans (h.1 d p1 p2 p3 p4 p5 p6 p7 p8 p9), fun j p1 p2 p3 p4 p5 p6 p7 p8 p9 p10 => (g.2.1 j p1 p2 p3 p4 p5 p6 p7 p8 p9 p10).trans (h.2.1 j p1 p2 p3 p4 p5 p6 p7 p8 p9 p10), fun d p x hx => (g.2.2.1 d p x hx).trans (h.2.2.1 d p x hx), fun x hx => (g.2.2.2.1 x hx).trans (h.2.2.2.1 x hx), fun x hx => (g.2.2.2.2.1 x hx).trans (h.2.2.2.2.1 x hx), fun d p1 p2 p3 => (g.2.2.2.2.2 d p1 p2 p3).trans (h.2.2.2.2.2 d p1 p2 p3)⟩
theorem FrH.x {q : Nat} {B B' : Mem} (h : FrH B B') : FrX q B B' := ⟨fun d p1 _ _ _ _ _ _ _ => h.1 d p1, fun j _ p2 p3 p4 p5 _ _ _ => h.2.1 j p2 p3 p4 p5, fun d p x _ => by rw [h.1 d (by omega)], fun x _ => by rw [h.1 246 (by decide)], fun x _ => by rw [h.1 247 (by decide)], fun d p1 _ _ => h.2.2.1 d p1, fun j p => h.2.2.2 j p⟩
theorem find_M {B : Mem} {i : Nat} {x : Int32} {mA : Nat} (hx : (-1000 : Int32) - x = nI i) (hi : i < 6) : R_X11_finding x mA B = some (x, setI B 253 i (B.1 253 i + 1)) := by
  unfold R_X11_finding
  rw [hx, ck_nI hi (by omega), ck_nI hi (by omega), nI_clamp (by omega)]
theorem read_M {B : Mem} {T : Nat → Nat} {n q mA : Nat} (hT : TapeM B T n) (hq : q < 6) (h8 : B.1 242 8 = nI q) : ∃ B', FrR q B B' ∧ B'.1 242 1 = 0 ∧
    ((∃ l, pText T n = .inl l ∧ R_X11_read mA B = some (nI q, B') ∧ B'.1 242 8 = nI (q + 1) ∧ B'.1 242 2 = -1 ∧ PgM B' q (rsP l) ∧ B'.1 253 = B.1 253) ∨
     (∃ p, pText T n = .inr p ∧ p ≤ 800 ∧ R_X11_read mA B = some (-1005, B') ∧ B'.1 242 8 = nI q ∧ B'.1 242 2 = nI p ∧ B'.1 253 5 = B.1 253 5 + 1 ∧ ∀ x, x ≠ 5 → B'.1 253 x = B.1 253 x)) := by
  have hn := hT.2.1
  obtain ⟨B1, hB1⟩ : ∃ X, X = setI (setI (setI (setI (setI B 242 2 (-1)) 242 11 0) 242 15 0) 246 q 0) 242 4 0 := ⟨_, rfl⟩
  have d1 : ∀ d, d ≠ 242 → d ≠ 246 → B1.1 d = B.1 d := fun d p1 p2 => by rw [hB1, fI p1, fI p2, fI p1, fI p1, fI p1]
  have r1 : ∀ j, j ≠ 2 → j ≠ 4 → j ≠ 11 → j ≠ 15 → B1.1 242 j = B.1 242 j := fun j p1 p2 p3 p4 => by rw [hB1, gI (Or.inr p2), gI (Or.inl (by decide)), gI (Or.inr p4), gI (Or.inr p3), gI (Or.inr p1)]
  have F1 : FrX q B B1 := ⟨fun d p1 _ _ p4 _ _ _ _ => d1 d p1 p4, fun j p1 _ p3 _ _ p6 p7 _ => r1 j p1 p3 p6 p7, fun d p x _ => by rw [d1 d (by omega) (by omega)], fun x hx => by rw [hB1, gI (Or.inl (by decide)), gI (Or.inr hx), gI (Or.inl (by decide)), gI (Or.inl (by decide)), gI (Or.inl (by decide))], fun x _ => by rw [d1 247 (by decide) (by decide)], fun d _ _ _ => by rw [hB1]; rfl, fun j _ => by rw [hB1]; rfl⟩
  have T1 : TapeM B1 T n := ⟨by rw [r1 1 (by decide) (by decide) (by decide) (by decide)]; exact hT.1, hn, fun i hi => by rw [d1 243 (by decide) (by decide)]; exact hT.2.2 i hi⟩
  obtain ⟨B2, w1, ⟨t, rest, w2, w3⟩, w4⟩ := word_M (mA := mA) (e := 0) (k := n) T1 (by rw [hB1, gs_eI]; rfl) (Nat.zero_le _) (by omega)
  have hG := scan_G (T := T) (n := n) hn hq
  have s37 := scan_37 (T := T) (n := n) n 0
  obtain ⟨ws, hws⟩ : ∃ w, w = scan T n n 0 := ⟨_, rfl⟩
  rw [← hws] at w2 hG s37
  have e0 : ws[0]? = some t := by rw [w2]; rfl
  have er : rest = ws.drop 1 := by rw [w2]; rfl
  have hl0 : 0 < ws.length := len_at e0
  have c2 : ∀ j, j ≠ 3 → j ≠ 4 → j ≠ 5 → j ≠ 6 → B2.1 242 j = B1.1 242 j := w4.2.1
  have I2 : MI T n q ws B2 0 := by
    refine ⟨T1.h w4, ?_, ?_, ?_, ⟨t, e0, by rw [← er]; exact w3⟩, fun j t hj => by omega, ?_, fun m j e => by cases e⟩
    · rw [c2 8 (by decide) (by decide) (by decide) (by decide), r1 8 (by decide) (by decide) (by decide) (by decide)]; exact h8
    · rw [c2 2 (by decide) (by decide) (by decide) (by decide), hB1, gI (Or.inr (by decide)), gI (Or.inl (by decide)), gI (Or.inr (by decide)), gI (Or.inr (by decide)), gs_eI]
    · rw [c2 11 (by decide) (by decide) (by decide) (by decide), hB1, gI (Or.inr (by decide)), gI (Or.inl (by decide)), gI (Or.inr (by decide)), gs_eI]; rfl
    · rw [c2 15 (by decide) (by decide) (by decide) (by decide), hB1, gI (Or.inr (by decide)), gI (Or.inl (by decide)), gs_eI]; rfl
  have h246 : B2.1 246 q = 0 := by rw [w4.1 246 (by decide), hB1, gI (Or.inl (by decide)), gs_eI]
  obtain ⟨v, B3, y1, F3, y2⟩ := prog_R (mA := mA) hG I2 hl0 h246
  have F03 : FrX q B B3 := (F1.tr w4.x).tr F3
  have eR : R_X11_read mA B = bnd2 (bnd2 (R_X11_state mA B2) (fun v4 M4 => L_X11_read_56 mA FUEL v4 M4)) (fun v8_0 M8 => bnd1 (if v8_0 = 0 then (some M8) else (bnd1 (R_X11_findNames  mA M8) (fun M12 => (some M12)))) (fun M11 => if (M11.1 242 2) < 0 then (some ((((M11.1 242 8) + (1 : Int32)) - (1 : Int32)), setI (setI M11 242 1 (0 : Int32)) 242 8 ((M11.1 242 8) + (1 : Int32)))) else (bnd2 (R_X11_finding (-1005 : Int32) mA (setI M11 242 1 (0 : Int32))) (fun v14 M14 => some (v14, M14))))) := by
    unfold R_X11_read
    rw [h8, if_neg (nI_ne (y := 6) (b := 6) rfl (by omega) (by omega) (by decide)), ck_nI hq (by omega), nI_clamp (by omega), ← hB1, bnd1_e w1, b22]
  -- a fault
  have flt : ∀ (M : Mem) (p : Nat), FrR q B M → M.1 242 8 = nI q → M.1 242 2 = nI p → p ≤ 800 → M.1 253 = B.1 253 → ∃ B', FrR q B B' ∧ B'.1 242 1 = 0 ∧ (if (M.1 242 2) < 0 then (some ((((M.1 242 8) + (1 : Int32)) - (1 : Int32)), setI (setI M 242 1 (0 : Int32)) 242 8 ((M.1 242 8) + (1 : Int32)))) else (bnd2 (R_X11_finding (-1005 : Int32) mA (setI M 242 1 (0 : Int32))) (fun v14 M14 => some (v14, M14)))) = some (-1005, B') ∧ B'.1 242 8 = nI q ∧ B'.1 242 2 = nI p ∧ B'.1 253 5 = B.1 253 5 + 1 ∧ ∀ x, x ≠ 5 → B'.1 253 x = B.1 253 x := by
    intro M p FM m8 m2 hp m253
    rw [m2, if_neg (nI_pos (by omega)), find_M (i := 5) (by decide) (by decide), bnd2_s]
    refine ⟨setI (setI M 242 1 0) 253 5 ((setI M 242 1 0).1 253 5 + 1), FM.tr ⟨fun d p1 _ _ _ _ _ _ _ p9 => by rw [fI p9, fI p1], fun j p1 _ _ _ _ _ _ _ _ _ => by rw [gI (Or.inl (by decide)), gI (Or.inr p1)], fun d p x _ => by rw [gI (Or.inl (by omega)), gI (Or.inl (by omega))], fun x _ => by rw [gI (Or.inl (by decide)), gI (Or.inl (by decide))], fun x _ => by rw [gI (Or.inl (by decide)), gI (Or.inl (by decide))], fun _ _ _ _ => rfl⟩, by rw [gI (Or.inl (by decide)), gs_eI], rfl, ?_, ?_, ?_, fun x hx => ?_⟩
    · rw [gI (Or.inl (by decide)), gI (Or.inr (by decide))]; exact m8
    · rw [gI (Or.inl (by decide)), gI (Or.inr (by decide))]; exact m2
    · rw [gs_eI, gI (Or.inl (by decide)), m253]
    · rw [gI (Or.inr hx), gI (Or.inl (by decide)), m253]
  have d253 : B3.1 253 = B.1 253 := F03.1 253 (by decide) (by decide) (by decide) (by decide) (by decide) (by decide) (by decide) (by decide)
  have d8 : B3.1 242 8 = nI q := by rw [F03.2.1 8 (by decide) (by decide) (by decide) (by decide) (by decide) (by decide) (by decide) (by decide)]; exact h8
  unfold pText
  rw [eR, bnd2_e y1, ← hws]
  rcases y2 with ⟨l, i', z1, ⟨u, eu, hu⟩, z4, z5, z6, z7⟩ | ⟨p, z1, z2, z3, z4⟩
  · subst z4
    rw [if_neg (show ¬ (1 : Int32) = 0 by decide), z1]
    dsimp only
    have hlen := s37 i' u eu hu
    obtain ⟨_, psn⟩ := pProg_s z1
    have hwl := hG.len
    have nmO : ∀ w ∈ l.map (fun ps => ps.1), NmO w := by
      intro w hw
      obtain ⟨ps, hp, rfl⟩ := List.mem_map.mp hw
      obtain ⟨⟨t, h1, h2, h3⟩, _⟩ := psn ps hp
      rw [h3]; exact hG.2.2.2.1 t h1 h2
    -- the first word is `state`
    have t0 : t.1 = 0 := by
      unfold pProg at z1
      obtain ⟨_, _, e1, _⟩ := pthen_el z1
      unfold pState at e1
      obtain ⟨_, _, e2, _⟩ := pthen_el e1
      rw [w2, pWord] at e2
      split at e2
      · omega
      · cases e2
    have hk0 : kd0 ws = t.1 := by rw [w2]; rfl
    have hl8 : l.length ≤ 8 := by
      have : ∀ (g : Nat) (ts us : List Tk) (l : List PS), pStates g ts = .inl (l, us) → l.length ≤ g := by
        intro g
        induction g with
        | zero =>
          intro ts us l h
          rw [pStates] at h
          split at h
          · cases h; exact Nat.le_refl _
          · cases h
        | succ g ih =>
          intro ts us l h
          rw [pStates] at h
          split at h
          · cases h; exact Nat.zero_le _
          · obtain ⟨_, _, _, h⟩ := pthen_el h
            obtain ⟨l', _, e2, h⟩ := pthen_el h
            cases h
            have := ih _ _ _ e2
            rw [List.length_cons]; omega
      unfold pProg at z1
      obtain ⟨_, _, _, h⟩ := pthen_el z1
      obtain ⟨l', _, e2, h⟩ := pthen_el h
      cases h
      have := this _ _ _ _ e2
      rw [List.length_cons]; omega
    have enm : jdg (l.map (fun ps => ps.1)) (ws.drop 1) (kd0 ws) 0 = jdN (l.map (fun ps => ps.1)) ws (nmL ws i') 0 := by
      rw [jdg_N (ws.length - 1) 1 0 (kd0 ws) (by omega) (by omega) ⟨t, e0, hk0.symm⟩]
      have h1 := nmL_S (ws := ws) (ws.length - 1) 1
      rw [show 1 + (ws.length - 1) = i' + 1 by omega, nmL_n eu (by omega), nmL_n e0 (by omega)] at h1
      rw [h1]; rfl
    obtain ⟨B4, x1, x2, x3⟩ := names_loop (mA := mA) (q := q) (ws := ws) (nm := l.map (fun ps => ps.1)) (N := i') (B0 := B3) hq (by omega) d8 (by rw [List.length_map]; exact z6) (by rw [List.length_map]; exact hl8) nmO (fun s w es => by
      obtain ⟨ps, ep, rfl⟩ := map_at es
      obtain ⟨_, _, _, _, _, _, _, hh⟩ := z7 s ps ep
      rw [Nat.zero_add] at hh; exact hh) z5.2.2.2.2.2.2 hG.2.2.2.1 (nmL_in i') (fun i t e => (hG.2.2.2.2 i t e).1) (nmL ws i').length 0 FUEL 0 B3 (by omega) (by have := nmL_len (ws := ws) i'; unfold FUEL; omega) (Nat.le_refl _) ⟨fun _ _ _ => rfl, fun _ _ => rfl, fun _ _ => rfl, rfl⟩ z5.2.2.1 (fun m j t hm => by omega)
    rw [show nI 0 = (0 : Int32) from rfl] at x1
    rw [List.drop_zero, ← enm] at x3
    have F4 : FrR q B B4 := F03.r.tr ⟨fun d p1 _ p3 _ _ _ _ _ _ => x2.1 d p1 p3, fun j _ p2 _ _ _ _ _ _ _ _ => x2.2.1 j p2, fun d p x hx => by
      rcases p with rfl | rfl
      · rw [x2.1 244 (by decide) (by decide)]
      · exact x2.2.2.1 x (fun j _ => by omega), fun x _ => by rw [x2.1 246 (by decide) (by decide)], fun x _ => by rw [x2.1 247 (by decide) (by decide)], fun d _ _ _ => by rw [x2.2.2.2]⟩
    have m8 : B4.1 242 8 = nI q := by rw [x2.2.1 8 (by decide)]; exact d8
    have m253 : B4.1 253 = B.1 253 := by rw [x2.1 253 (by decide) (by decide)]; exact d253
    unfold R_X11_findNames
    rw [bnd1_e x1, bnd1_s, bnd1_s]
    rcases x3 with ⟨p, j1, j2, j3⟩ | ⟨j1, j2, j3⟩
    · rw [j1]
      obtain ⟨B', g1, g2, g3⟩ := flt B4 p F4 m8 j3 j2 m253
      exact ⟨B', g1, g2, Or.inr ⟨p, rfl, j2, g3⟩⟩
    · rw [j1, j2, if_pos m1_lt, m8, nI_1, nI_pred]
      have FE : ∀ d, d ≠ 242 → (setI (setI B4 242 1 0) 242 8 (nI (q + 1))).1 d = B4.1 d := fun d hd => by rw [fI hd, fI hd]
      refine ⟨setI (setI B4 242 1 0) 242 8 (nI (q + 1)), F4.tr ⟨fun d p1 _ _ _ _ _ _ _ _ => FE d p1, fun j p1 _ _ _ _ _ p7 _ _ _ => by rw [gI (Or.inr p7), gI (Or.inr p1)], fun d p x _ => by rw [FE d (by omega)], fun x _ => by rw [FE 246 (by decide)], fun x _ => by rw [FE 247 (by decide)], fun _ _ _ _ => rfl⟩, by rw [gI (Or.inr (by decide)), gs_eI], Or.inl ⟨l, rfl, rfl, gs_eI, by rw [gI (Or.inr (by decide)), gI (Or.inr (by decide))]; exact j2, ⟨?_, fun s rs es => ?_⟩, by rw [FE 253 (by decide)]; exact m253⟩⟩
      · rw [FE 246 (by decide), x2.1 246 (by decide) (by decide)]
        unfold rsP
        rw [List.length_map]; exact z6
      · unfold rsP at es
        obtain ⟨ps, ep, rfl⟩ := map_at es
        obtain ⟨h, h', w, k1, k2, k3, k4, _⟩ := z7 s ps ep
        rw [Nat.zero_add] at k1
        have hh' : h' < i' := by
          have := len_at k3
          refine Nat.lt_of_le_of_ne (by omega) (fun ee => ?_)
          subst ee
          have : w = u := Option.some.inj (k3.symm.trans eu)
          subst this
          omega
        have hWL : WL (wF (setI (setI B4 242 1 0) 242 8 (nI (q + 1))) q) (vF (setI (setI B4 242 1 0) 242 8 (nI (q + 1))) q) ws (l.map (fun ps => ps.1)) i' := by
          refine ⟨fun i t hi e => ?_, fun i t e => (hG.2.2.2.2 i t e).2, by omega⟩
          obtain ⟨a1, a2⟩ := z5.2.2.2.2.2.1 i t hi e
          refine ⟨?_, ?_⟩
          · unfold wF
            rw [FE 244 (by decide), x2.1 244 (by decide) (by decide)]; exact a1
          · unfold vF vR
            rw [FE 245 (by decide)]
            by_cases c26 : t.1 = 26
            · rw [if_pos c26]
              obtain ⟨m, em⟩ := List.getElem?_of_mem (nmL_of i' i t hi e c26)
              exact j3 m i t (len_at em) em e
            · rw [if_neg c26, x2.2.2.1 _ (fun j hj ee => ?_)]
              · exact a2
              · have hji : j = i := by omega
                subst hji
                obtain ⟨_, t', e', h26⟩ := nmL_in i' j hj
                have : t' = t := Option.some.inj (e'.symm.trans e)
                subst this
                exact c26 h26
        obtain ⟨i2, q1, q2, q3⟩ := pRules_L hWL hwl 12 h _ _ k2
        have hh'l := len_at k3
        have hi2 : i2 < ws.length := by
          refine Nat.lt_of_not_le (fun c => ?_)
          rw [List.drop_eq_nil_of_le c] at q1
          have := congrArg List.length q1
          rw [List.length_drop, List.length_nil] at this
          omega
        have e2 := drop_inj hh'l hi2 q1
        subst e2
        refine ⟨h, h', by rw [FE 247 (by decide), x2.1 247 (by decide) (by decide)]; exact k1, q3 hh' ?_, (hG.i8 k3 (by omega)).1⟩
        rw [hWL.w hh' k3, k4]; rfl
  · subst z2
    rw [z1, if_pos rfl, bnd1_s]
    obtain ⟨B', g1, g2, g3⟩ := flt B3 p F03.r d8 z4 z3 d253
    exact ⟨B', g1, g2, Or.inr ⟨p, rfl, z3, g3⟩⟩
