/-! ===== the model finds the names ===== -/
section FN
variable {T : Nat → Nat} {n q mA : Nat} {ws : List Tk} {nm : List (List Nat)}
theorem sub1 (m : Nat) : nI m + (-1 : Int32) = nI m - 1 := by rw [Int32.sub_eq_add_neg]
theorem which_R {B : Mem} {nj : List Int64} {w1 : Int32} {k : Nat} (hk : k < 800) (h8 : nj.length ≤ 8) (hn : ∀ (j : Nat) v, nj[j]? = some v → B.2 248 j = v) : ∀ (m f : Nat), m ≤ nj.length → m < f → L_X11_findNames_34 mA w1 (nI k) f (oI (fndJ (nj.drop m) (B.2 249 k) m)) (nI m - 1) B = some (oI (fndJ nj (B.2 249 k) 0)) := by
  intro m
  induction m with
  | zero =>
    intro f _ hf
    obtain ⟨f, rfl⟩ : ∃ x, f = x + 1 := ⟨f - 1, by omega⟩
    rw [L_X11_findNames_34, if_pos (by decide), List.drop_zero]
  | succ m ih =>
    intro f hm hf
    obtain ⟨f, rfl⟩ : ∃ x, f = x + 1 := ⟨f - 1, by omega⟩
    have hl : m < nj.length := by omega
    have e : nj[m]? = some nj[m] := List.getElem?_eq_getElem hl
    rw [L_X11_findNames_34, nI_pred, if_neg (nI_pos (by omega)), ck_nI (by omega) (by omega), ck_nI hk (by omega), nI_clamp (by omega), nI_clamp (by omega), hn m _ e, bd1_s, sub1]
    have e2 : (if lg_cmp nj[m] (B.2 249 k) = 0 then nI m else oI (fndJ (nj.drop (m + 1)) (B.2 249 k) (m + 1))) = oI (fndJ (nj.drop m) (B.2 249 k) m) := by
      rw [List.drop_eq_getElem_cons hl, fndJ]
      by_cases c : nj[m] = B.2 249 k
      · rw [if_pos c, if_pos ((lg_cmp_eq _ _).mpr c)]; rfl
      · rw [if_neg c, if_neg (fun z => c ((lg_cmp_eq _ _).mp z))]
    rw [e2]
    exact ih f (by omega) (by omega)
def jdN (nm : List (List Nat)) (ws : List Tk) : List Nat → Nat → Option Nat
  | [], _ => none
  | j :: js, c => match ws[j]? with
    | none => none
    | some t => if isSt ws j = 1 then (if badN (fnd nm t.2.1 0) c = true then some t.2.2.2 else jdN nm ws js (c + 1)) else (if fnd nm t.2.1 0 = none then some t.2.2.2 else jdN nm ws js c)
def nmS (ws : List Tk) : Nat → Nat → List Nat
  | _, 0 => []
  | j, k + 1 => match ws[j]? with
    | some t => if t.1 = 26 then j :: nmS ws (j + 1) k else nmS ws (j + 1) k
    | none => nmS ws (j + 1) k
theorem nmL_S : ∀ (k j : Nat), nmL ws (j + k) = nmL ws j ++ nmS ws j k := by
  intro k
  induction k with
  | zero => intro j; rw [nmS, List.append_nil]; rfl
  | succ k ih =>
    intro j
    rw [show j + (k + 1) = (j + 1) + k by omega, ih (j + 1), nmS, nmL]
    cases ws[j]? with
    | none => rfl
    | some t =>
      dsimp only
      split
      · rw [List.append_assoc]; rfl
      · rfl
theorem isSt_2 {j : Nat} {u : Tk} (hj : 1 ≤ j) (e : ws[j - 1]? = some u) : isSt ws j = if u.1 = 0 then 1 else 0 := by
  unfold isSt
  rw [e]
theorem jdg_N : ∀ (k j c pk : Nat), j + k = ws.length → 1 ≤ j → (∃ u, ws[j - 1]? = some u ∧ u.1 = pk) → jdg nm (ws.drop j) pk c = jdN nm ws (nmS ws j k) c := by
  intro k
  induction k with
  | zero => intro j c pk hj _ _; rw [List.drop_eq_nil_of_le (by omega), nmS]; rfl
  | succ k ih =>
    intro j c pk hj h1 hpk
    obtain ⟨t, e⟩ := get_lt (ws := ws) (i := j) (by omega)
    obtain ⟨u, eu, hu⟩ := hpk
    have nx : ∃ v : Tk, ws[j + 1 - 1]? = some v ∧ v.1 = t.1 := ⟨t, by rw [Nat.add_sub_cancel]; exact e, rfl⟩
    have hs := isSt_2 h1 eu
    rw [drop_c e, jdg, nmS, e]
    dsimp only
    by_cases c26 : t.1 = 26
    · rw [if_pos c26, if_pos c26, jdN, e]
      dsimp only
      by_cases c0 : pk = 0
      · rw [if_pos c0, hs, if_pos (show u.1 = 0 by omega), if_pos rfl]
        split
        · rfl
        · exact ih (j + 1) (c + 1) t.1 (by omega) (by omega) nx
      · rw [if_neg c0, hs, if_neg (show ¬ u.1 = 0 by omega), if_neg (show ¬ (0 : Int32) = 1 by decide)]
        split
        · rfl
        · exact ih (j + 1) c t.1 (by omega) (by omega) nx
    · rw [if_neg c26, if_neg c26]
      exact ih (j + 1) c t.1 (by omega) (by omega) nx
theorem isSt_01 {j : Nat} : isSt ws j = 0 ∨ isSt ws j = 1 := by
  unfold isSt
  split
  · split
    · exact Or.inr rfl
    · exact Or.inl rfl
  · exact Or.inl rfl
/-- what finding the names changes: places of names in the row of values, and the fault -/
def FrN (q : Nat) (ns : List Nat) (B B' : Mem) : Prop := (∀ d, d ≠ 242 → d ≠ 245 → B'.1 d = B.1 d) ∧ (∀ j, j ≠ 2 → B'.1 242 j = B.1 242 j) ∧ (∀ x, (∀ j ∈ ns, x ≠ 800 * q + j) → B'.1 245 x = B.1 245 x) ∧ B'.2 = B.2
theorem names_loop {N : Nat} {B0 : Mem} (hq : q < 6) (hN : N ≤ 800) (h8 : B0.1 242 8 = nI q) (hc : B0.1 246 q = nI nm.length) (hl : nm.length ≤ 8) (hnm : ∀ w ∈ nm, NmO w) (hst : ∀ (s : Nat) w, nm[s]? = some w → B0.2 248 s = Int64.ofNat (pkN 27 w)) (hR : NmR B0 ws N) (hwn : NmW ws) (hlt : ∀ j ∈ nmL ws N, j < N ∧ ∃ t, ws[j]? = some t ∧ t.1 = 26) (hpos : ∀ (i : Nat) (t : Tk), ws[i]? = some t → t.2.2.2 ≤ 800) :
    ∀ (rem k f c : Nat) (B : Mem), k + rem = (nmL ws N).length → rem + 1 < f → c ≤ k → FrN q (nmL ws N) B0 B → B.1 242 2 = -1 → (∀ m j t, m < k → (nmL ws N)[m]? = some j → ws[j]? = some t → B.1 245 (800 * q + j) = oI (fnd nm t.2.1 0)) →
    ∃ B', L_X11_findNames_4 mA f (nI c) (nI k) B = some B' ∧ FrN q (nmL ws N) B0 B' ∧ ((∃ p, jdN nm ws ((nmL ws N).drop k) c = some p ∧ p ≤ 800 ∧ B'.1 242 2 = nI p) ∨ (jdN nm ws ((nmL ws N).drop k) c = none ∧ B'.1 242 2 = -1 ∧ ∀ m j t, m < (nmL ws N).length → (nmL ws N)[m]? = some j → ws[j]? = some t → B'.1 245 (800 * q + j) = oI (fnd nm t.2.1 0))) := by
  have hlen := nmL_len (ws := ws) N
  intro rem
  induction rem with
  | zero =>
    intro k f c B hk hf hck hF h2 hv
    obtain ⟨f, rfl⟩ : ∃ x, f = x + 1 := ⟨f - 1, by omega⟩
    refine ⟨B, ?_, hF, Or.inr ⟨by rw [List.drop_eq_nil_of_le (by omega)]; rfl, h2, fun m j t hm => hv m j t (by omega)⟩⟩
    rw [L_X11_findNames_4, hF.2.1 15 (by decide), hR.1, if_pos (nI_le (by omega) (by omega))]
  | succ rem ih =>
    intro k f c B hk hf hck hF h2 hv
    obtain ⟨f, rfl⟩ : ∃ x, f = x + 1 := ⟨f - 1, by omega⟩
    have hkl : k < (nmL ws N).length := by omega
    have ej : (nmL ws N)[k]? = some (nmL ws N)[k] := List.getElem?_eq_getElem hkl
    obtain ⟨j, hj⟩ : ∃ j, j = (nmL ws N)[k] := ⟨_, rfl⟩
    rw [← hj] at ej
    obtain ⟨hjN, _⟩ := hlt j (List.mem_of_getElem? ej)
    obtain ⟨t, et, b1, b2, b3, b4⟩ := hR.2 k j ej
    obtain ⟨t', et', h26⟩ := (hlt j (List.mem_of_getElem? ej)).2
    have : t' = t := Option.some.inj (et'.symm.trans et)
    subst this
    have hx := hwn t' (List.mem_of_getElem? et) h26
    have hb := nm_b (x := t'.2.1) hl
    have hb8 : ∀ i, fnd nm t'.2.1 0 = some i → i < 8 := fun i e => by
      have := (fnd_lt nm 0 i e).2.1
      omega
    have hp8 := hpos j t' et
    have eW : L_X11_findNames_34 mA (nI c) (nI k) FUEL (-1) (nI nm.length - 1) B = some (oI (fnd nm t'.2.1 0)) := by
      have := which_R (mA := mA) (B := B) (nj := nm.map (fun w => Int64.ofNat (pkN 27 w))) (w1 := nI c) (k := k) (by omega) (by rw [List.length_map]; exact hl) (fun s v es => by
        obtain ⟨w, ew, rfl⟩ := map_at es
        rw [hF.2.2.2]; exact hst s w ew) nm.length FUEL (by rw [List.length_map]; exact Nat.le_refl _) (by unfold FUEL; omega)
      rw [hF.2.2.2, b1, fndJ_27 hx nm 0 hnm, List.drop_eq_nil_of_le (by rw [List.length_map]; exact Nat.le_refl _)] at this
      exact this
    have i252 : B.1 252 k = isSt ws j := by rw [hF.1 252 (by decide) (by decide)]; exact b4
    have i251 : B.1 251 k = nI j := by rw [hF.1 251 (by decide) (by decide)]; exact b3
    have i250 : B.1 250 k = nI t'.2.2.2 := by rw [hF.1 250 (by decide) (by decide)]; exact b2
    have i8 : B.1 242 8 = nI q := by rw [hF.2.1 8 (by decide)]; exact h8
    have ix : (800 : Int32) * nI q + nI j = nI (800 * q + j) := by rw [show (800 : Int32) = nI 800 from rfl, pk_mul, nI_add]
    -- the loop goes on behind this name
    have goes : ∀ (c' : Nat) (v : Int32), v = isSt ws j → nI c + v = nI c' → c' ≤ k + 1 → ∃ B', L_X11_findNames_4 mA f (nI c') (nI (k + 1)) (setI B 245 (800 * q + j) (oI (fnd nm t'.2.1 0))) = some B' ∧ FrN q (nmL ws N) B0 B' ∧ ((∃ p, jdN nm ws ((nmL ws N).drop (k + 1)) c' = some p ∧ p ≤ 800 ∧ B'.1 242 2 = nI p) ∨ (jdN nm ws ((nmL ws N).drop (k + 1)) c' = none ∧ B'.1 242 2 = -1 ∧ ∀ m j t, m < (nmL ws N).length → (nmL ws N)[m]? = some j → ws[j]? = some t → B'.1 245 (800 * q + j) = oI (fnd nm t.2.1 0))) := by
      intro c' v _ _ hc'
      refine ih (k + 1) f c' _ (by omega) (by omega) hc' ⟨fun d p1 p2 => by rw [fI p2]; exact hF.1 d p1 p2, fun x hx => by rw [gI (Or.inl (by decide))]; exact hF.2.1 x hx, fun x hx => by rw [gI (Or.inr (hx j (List.mem_of_getElem? ej)))]; exact hF.2.2.1 x hx, hF.2.2.2⟩ (by rw [gI (Or.inl (by decide))]; exact h2) (fun m j2 t2 hm em e2 => ?_)
      by_cases cj : j2 = j
      · subst cj
        have : t2 = t' := Option.some.inj (e2.symm.trans et)
        subst this
        exact gs_eI
      · rw [gI (Or.inr (by omega))]
        refine hv m j2 t2 ?_ em e2
        refine Nat.lt_of_le_of_ne (by omega) (fun ee => cj ?_)
        subst ee
        exact Option.some.inj (em.symm.trans ej)
    -- a fault ends it
    have bad : ∀ (u1 : Int32), ∃ B', L_X11_findNames_4 mA f u1 (nI (k + 1)) (setI (setI B 242 2 (nI t'.2.2.2)) 245 (800 * q + j) (oI (fnd nm t'.2.1 0))) = some B' ∧ FrN q (nmL ws N) B0 B' ∧ B'.1 242 2 = nI t'.2.2.2 := by
      intro u1
      refine ⟨setI (setI B 242 2 (nI t'.2.2.2)) 245 (800 * q + j) (oI (fnd nm t'.2.1 0)), ?_, ⟨fun d p1 p2 => by rw [fI p2, fI p1]; exact hF.1 d p1 p2, fun x hx => by rw [gI (Or.inl (by decide)), gI (Or.inr hx)]; exact hF.2.1 x hx, fun x hx => by rw [gI (Or.inr (hx j (List.mem_of_getElem? ej))), gI (Or.inl (by decide))]; exact hF.2.2.1 x hx, hF.2.2.2⟩, by rw [gI (Or.inl (by decide)), gs_eI]⟩
      obtain ⟨f, rfl⟩ : ∃ x, f = x + 1 := ⟨f - 1, by omega⟩
      rw [L_X11_findNames_4]
      split
      · rfl
      · rw [gI (Or.inl (by decide)), gs_eI, if_pos (nI_pos' (by omega))]
    rw [L_X11_findNames_4, hF.2.1 15 (by decide), hR.1, if_neg (nI_ge hkl (by omega)), h2, if_neg m1_nle, i8, ck_nI (by omega) (by omega), nI_clamp (by omega), hF.1 246 (by decide) (by decide), hc, bd1_s, bnd1_e eW, ck_nI (by omega) (by omega), nI_clamp (by omega), i252, i250, ck_nI (by omega) (by omega), List.drop_eq_getElem_cons hkl, ← hj, jdN, et]
    dsimp only
    rcases isSt_01 (ws := ws) (j := j) with hs | hs
    · rw [hs, if_pos (rfl : (0 : Int32) = 0), if_neg (show ¬ (0 : Int32) = 1 by decide)]
      by_cases cn : fnd nm t'.2.1 0 = none
      · have e1 : (if 0 ≤ oI (fnd nm t'.2.1 0) then (some B) else (some (setI B 242 2 (nI t'.2.2.2)))) = some (setI B 242 2 (nI t'.2.2.2)) := by rw [cn]; rfl
        rw [if_pos cn, e1, bnd1_s, ck_nI (by omega) (by omega), gI (Or.inl (by decide)), i252, bd1_s, ck_nI (by omega) (by omega), gI (Or.inr (by decide)), i8, gI (Or.inl (by decide)), i251, ix, ck_nI (by omega) (by omega), nI_clamp (by omega), nI_1]
        obtain ⟨B', g1, g2, g3⟩ := bad (nI c + if isSt ws j = 0 then 0 else 1)
        exact ⟨B', g1, g2, Or.inl ⟨_, rfl, hp8, g3⟩⟩
      · have e1 : (if 0 ≤ oI (fnd nm t'.2.1 0) then (some B) else (some (setI B 242 2 (nI t'.2.2.2)))) = some B := by
          cases hf : fnd nm t'.2.1 0 with
          | none => exact absurd hf cn
          | some i => exact if_pos (nI_pos' (by have := hb8 i hf; omega))
        rw [if_neg cn, e1, bnd1_s, ck_nI (by omega) (by omega), i252, hs, if_pos (rfl : (0 : Int32) = 0), bd1_s, ck_nI (by omega) (by omega), i8, i251, ix, ck_nI (by omega) (by omega), nI_clamp (by omega), nI_1 k, show nI c + (0 : Int32) = nI c from nI_add c 0]
        exact goes c 0 hs.symm (nI_add c 0) (by omega)
    · rw [hs, if_neg (show ¬ (1 : Int32) = 0 by decide), if_pos (rfl : (1 : Int32) = 1)]
      have eb := oI_bad (c := c) (by omega) hb
      by_cases cn : badN (fnd nm t'.2.1 0) c = true
      · have e1 : (if nI c ≤ oI (fnd nm t'.2.1 0) then (some B) else (some (setI B 242 2 (nI t'.2.2.2)))) = some (setI B 242 2 (nI t'.2.2.2)) := by
          rw [if_pos cn] at eb
          refine if_neg (fun q => ?_)
          rw [if_pos q] at eb
          exact absurd eb (by decide)
        rw [if_pos cn, e1, bnd1_s, ck_nI (by omega) (by omega), gI (Or.inl (by decide)), i252, bd1_s, ck_nI (by omega) (by omega), gI (Or.inr (by decide)), i8, gI (Or.inl (by decide)), i251, ix, ck_nI (by omega) (by omega), nI_clamp (by omega), nI_1]
        obtain ⟨B', g1, g2, g3⟩ := bad (nI c + if isSt ws j = 0 then 0 else 1)
        exact ⟨B', g1, g2, Or.inl ⟨_, rfl, hp8, g3⟩⟩
      · have e1 : (if nI c ≤ oI (fnd nm t'.2.1 0) then (some B) else (some (setI B 242 2 (nI t'.2.2.2)))) = some B := by
          rw [if_neg cn] at eb
          refine if_pos (Decidable.by_contra (fun q => ?_))
          rw [if_neg q] at eb
          exact absurd eb (by decide)
        rw [if_neg cn, e1, bnd1_s, ck_nI (by omega) (by omega), i252, hs, if_neg (show ¬ (1 : Int32) = 0 by decide), bd1_s, ck_nI (by omega) (by omega), i8, i251, ix, ck_nI (by omega) (by omega), nI_clamp (by omega), nI_1 k, nI_1 c]
        exact goes (c + 1) 1 hs.symm (nI_1 c) (by omega)
end FN
