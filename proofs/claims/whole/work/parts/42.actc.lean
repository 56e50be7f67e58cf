/-! ===== the class does acts ===== -/
def CRf (a x3 : Nat) (M0 M : Mem) : Prop := M.2 = M0.2 ∧ (∀ d, d ≠ a → d ≠ x3 → d ≠ x3 + 1 → M.1 d = M0.1 d) ∧ (∀ j, j < 14 → M.1 x3 j = M0.1 x3 j)
theorem CRf.rf {a x3 : Nat} {M : Mem} : CRf a x3 M M := ⟨rfl, fun _ _ _ _ => rfl, fun _ _ => rfl⟩
theorem CRf.a {a x3 j : Nat} {v : Int32} {M0 M : Mem} (h : CRf a x3 M0 M) (hx : x3 ≠ a) : CRf a x3 M0 (setI M a j v) := ⟨h.1, fun d h1 h2 h3 => by rw [fI h1]; exact h.2.1 d h1 h2 h3, fun j hj => by rw [gI (Or.inl hx)]; exact h.2.2 j hj⟩
theorem CRf.own {a x3 j : Nat} {v : Int32} {M0 M : Mem} (h : CRf a x3 M0 M) : CRf a x3 M0 (setI M (x3 + 1) j v) := ⟨h.1, fun d h1 h2 h3 => by rw [fI h3]; exact h.2.1 d h1 h2 h3, fun j hj => by rw [gI (Or.inl (by omega))]; exact h.2.2 j hj⟩
theorem CRf.cmd {a x3 j : Nat} {v : Int32} {M0 M : Mem} (h : CRf a x3 M0 M) (hj : 14 ≤ j) : CRf a x3 M0 (setI M x3 j v) := ⟨h.1, fun d h1 h2 h3 => by rw [fI h2]; exact h.2.1 d h1 h2 h3, fun k hk => by rw [gI (Or.inr (by omega))]; exact h.2.2 k hk⟩
def cut3 (x : Int32) : Int32 := if (-1 : Int32) < (if x < (1 : Int32) then x else (1 : Int32)) then (if x < (1 : Int32) then x else (1 : Int32)) else (-1 : Int32)
def cut9 (x : Int32) : Int32 := if (1 : Int32) < (if x < (9 : Int32) then x else (9 : Int32)) then (if x < (9 : Int32) then x else (9 : Int32)) else (1 : Int32)
def trn (tn x : Int32) : Int32 := if tn = 0 then x else -x
def decC (x3 : Nat) (k x y p : Int32) (M : Mem) : Mem := setI (setI (setI (setI M x3 14 k) x3 15 (trn (M.1 x3 1) x)) x3 16 (trn (M.1 x3 1) y)) x3 17 p
theorem dec_eq {x3 : Nat} {k x y p : Int32} {M : Mem} : U_X5_decide x3 k x y p M = decC x3 k x y p M := rfl
theorem decCRf {a x3 : Nat} {k x y p : Int32} {M0 M : Mem} (h : CRf a x3 M0 M) : CRf a x3 M0 (decC x3 k x y p M) := by
  unfold decC
  exact (((h.cmd (by decide)).cmd (by decide)).cmd (by decide)).cmd (by decide)
theorem decC_o {x3 d j : Nat} {k x y p : Int32} {M : Mem} (h : d ≠ x3) : (decC x3 k x y p M).1 d j = M.1 d j := by
  unfold decC; simp (disch := omega) only [gI]
theorem decC_f {x3 d : Nat} {k x y p : Int32} {M : Mem} (h : d ≠ x3) : (decC x3 k x y p M).1 d = M.1 d := funext fun _ => decC_o h
theorem decC_x {x3 : Nat} {k x y p : Int32} {M : Mem} : (decC x3 k x y p M).1 x3 14 = k ∧ (decC x3 k x y p M).1 x3 15 = trn (M.1 x3 1) x ∧ (decC x3 k x y p M).1 x3 16 = trn (M.1 x3 1) y ∧ (decC x3 k x y p M).1 x3 17 = p := by
  unfold decC; refine ⟨?_, ?_, ?_, ?_⟩ <;> simp (disch := omega) only [gI, gs_eI]
/-- the class's memory behind a command, all but the steps -/
theorem cmd_C {a p x3 c s : Nat} {ac : Ac} {sen : Nat → Int32} {mx my : Int32} {M0 M : Mem} (ha : p + 15 ≤ a) (hx : p + 15 ≤ x3) (h3 : x3 ≠ a ∧ x3 ≠ a + 1 ∧ x3 + 1 ≠ a) (hF : CRf a x3 M0 M) (hc : M.1 a 1 = nI (cap c)) (hsen : M0.1 (a + 1) = sen) (hmx : mx = V_X5_seenX x3 (M0.1 x3 2) M0) (hmy : my = V_X5_seenY x3 (M0.1 x3 3) M0) (hW : AcW ac) (hk3 : ¬ ac.1 = 3) (hk4 : ¬ ac.1 = 4) (hS : ∀ j sm, ac.2.2[j]? = some sm → SmC M0 p (s + j) sm) (as : List Ac) (nx : Int32) (c0 : Nat) (e0 : c = c0 + 1) :
    ∃ M' w x y pw, R_X6_command a p ac.1 (nI s) x3 M = some M' ∧ CRf a x3 M0 M' ∧ M'.1 (x3 + 1) = M.1 (x3 + 1) ∧ M'.1 a 2 = M.1 a 2 ∧ (evActs sen mx my (ac :: as) (c0, M.1 (x3 + 1), nx)).1 = some (w, x, y, pw) ∧ (evActs sen mx my (ac :: as) (c0, M.1 (x3 + 1), nx)).2.2 = (M.1 (x3 + 1), nx) ∧ M'.1 a 1 = nI (cap (evActs sen mx my (ac :: as) (c0, M.1 (x3 + 1), nx)).2.1) ∧ ((evActs sen mx my (ac :: as) (c0, M.1 (x3 + 1), nx)).2.1 ≤ 80 → M'.1 x3 14 = w ∧ M'.1 x3 15 = trn (M0.1 x3 1) (cut3 x) ∧ M'.1 x3 16 = trn (M0.1 x3 1) (cut3 y) ∧ (w = 2 → M'.1 x3 17 = cut9 pw) ∧ (w = 0 ∨ w = 1 ∨ w = 2)) := by
  subst e0
  have hS' : ∀ (M1 : Mem), CRf a x3 M0 M1 → ∀ j sm, ac.2.2[j]? = some sm → SmC M1 p (s + j) sm := fun M1 h1 j sm e => (hS j sm e).cg (fun d q1 q2 => h1.2.1 d (by omega) (by omega) (by omega))
  have hsn : ∀ M1, CRf a x3 M0 M1 → M1.1 (a + 1) = sen := fun M1 h1 => by rw [h1.2.1 (a + 1) (by omega) (by omega) (by omega)]; exact hsen
  have t1 : ∀ M1, CRf a x3 M0 M1 → M1.1 x3 1 = M0.1 x3 1 := fun M1 h1 => h1.2.2 1 (by decide)
  unfold R_X6_command
  by_cases k8 : ac.1 = 8
  · rw [if_pos k8, dec_eq, bd1_s]
    have hev : evActs sen mx my (ac :: as) (c0, M.1 (x3 + 1), nx) = (some (0, 0, 0, 0), (c0 + 1, M.1 (x3 + 1), nx)) := by
      rw [evActs, if_neg hk3, if_neg hk4, if_pos k8]
    rw [hev]
    refine ⟨_, 0, 0, 0, 0, rfl, decCRf hF, decC_f (by omega), decC_o (by omega), rfl, rfl, ?_, fun _ => ?_⟩
    · rw [decC_o (by omega)]; exact hc
    · rw [decC_x.1, decC_x.2.1, decC_x.2.2.1, t1 M hF]
      exact ⟨rfl, by unfold trn cut3; split <;> rfl, by unfold trn cut3; split <;> rfl, fun q => absurd q (by decide), Or.inl rfl⟩
  · rw [if_neg k8]
    have hlen : 2 ≤ ac.2.2.length := by
      rcases hW with h | h | h | h | h | h
      · exact absurd h.1 hk3
      · exact absurd h.1 hk4
      · omega
      · omega
      · omega
      · exact absurd h.1 k8
    have g0 : ac.2.2[0]? = some (sm0 ac 0) := by unfold sm0; rw [List.getD_eq_getElem?_getD, List.getElem?_eq_getElem (by omega)]; rfl
    have g1 : ac.2.2[1]? = some (sm0 ac 1) := by unfold sm0; rw [List.getD_eq_getElem?_getD, List.getElem?_eq_getElem (by omega)]; rfl
    obtain ⟨vx, wx1, wx2⟩ := work_C (a := a) (p := p) (s := s) (x3 := x3 + 1) (c := c0 + 1) (M := M) ha (by omega) hc (hS' M hF 0 _ g0)
    have F1 := hF.a (j := 1) (v := nI (cap (c0 + 1 + (sm0 ac 0).length))) h3.1
    obtain ⟨vy, wy1, wy2⟩ := work_C (a := a) (p := p) (s := s + 1) (x3 := x3 + 1) (c := c0 + 1 + (sm0 ac 0).length) (M := setI M a 1 (nI (cap (c0 + 1 + (sm0 ac 0).length)))) ha (by omega) gs_eI (hS' _ F1 1 _ g1)
    rw [setI2] at wy1
    rw [fI (by omega), fI (by omega)] at wy2
    rw [hsn M hF] at wx2 wy2
    rw [bnd2_e wx1, nI_1, bnd2_e wy1]
    have F2 := hF.a (j := 1) (v := nI (cap (c0 + 1 + (sm0 ac 0).length + (sm0 ac 1).length))) h3.1
    by_cases k7 : ac.1 = 7
    · have hl3 : ac.2.2.length = 3 := by
        rcases hW with h | h | h | h | h | h
        · exact absurd h.1 hk3
        · exact absurd h.1 hk4
        · rw [k7] at h; exact absurd h.1 (by decide)
        · rw [k7] at h; exact absurd h.1 (by decide)
        · exact h.2
        · exact absurd h.1 k8
      have g2 : ac.2.2[2]? = some (sm0 ac 2) := by unfold sm0; rw [List.getD_eq_getElem?_getD, List.getElem?_eq_getElem (by omega)]; rfl
      obtain ⟨vp, wp1, wp2⟩ := work_C (a := a) (p := p) (s := s + 2) (x3 := x3 + 1) (c := c0 + 1 + (sm0 ac 0).length + (sm0 ac 1).length) (M := setI M a 1 (nI (cap (c0 + 1 + (sm0 ac 0).length + (sm0 ac 1).length)))) ha (by omega) gs_eI (hS' _ F2 2 _ g2)
      rw [setI2] at wp1
      rw [fI (by omega), fI (by omega), hsn M hF] at wp2
      have F3 := hF.a (j := 1) (v := nI (cap (c0 + 1 + (sm0 ac 0).length + (sm0 ac 1).length + (sm0 ac 2).length))) h3.1
      have es2 : nI s + (2 : Int32) = nI (s + 2) := by rw [show (2 : Int32) = nI 2 from rfl, nI_add]
      rw [if_pos k7, es2, bnd2_e wp1, bnd2_s, if_neg (by rw [k7]; decide), bd2_s, if_pos k7]
      simp only [bd1_s]
      rw [dec_eq]
      have hev : evActs sen mx my (ac :: as) (c0, M.1 (x3 + 1), nx) = (some (2, valS (M.1 (x3 + 1)) sen (sm0 ac 0), valS (M.1 (x3 + 1)) sen (sm0 ac 1), valS (M.1 (x3 + 1)) sen (sm0 ac 2)), (c0 + 1 + (sm0 ac 0).length + (sm0 ac 1).length + (sm0 ac 2).length, M.1 (x3 + 1), nx)) := by
        rw [evActs, if_neg hk3, if_neg hk4, if_neg k8, if_pos k7]
      rw [hev]
      refine ⟨_, _, _, _, _, rfl, decCRf F3, by rw [decC_f (by omega), fI (by omega)], by rw [decC_o (by omega), gI (Or.inr (by decide))], rfl, rfl, by rw [decC_o (by omega), gs_eI], fun hl => ?_⟩
      dsimp only at hl
      rw [decC_x.1, decC_x.2.1, decC_x.2.2.1, decC_x.2.2.2, t1 _ F3, wx2 (by omega), wy2 (by omega), wp2 (by omega)]
      exact ⟨rfl, rfl, rfl, fun _ => rfl, Or.inr (Or.inr rfl)⟩
    · rw [if_neg k7, bnd2_s, if_neg k7]
      by_cases k6 : ac.1 = 6
      · rw [if_pos k6]
        simp only [bd1_s]
        rw [bd2_s, dec_eq]
        have hev : evActs sen mx my (ac :: as) (c0, M.1 (x3 + 1), nx) = (some (1, valS (M.1 (x3 + 1)) sen (sm0 ac 0) - mx, valS (M.1 (x3 + 1)) sen (sm0 ac 1) - my, 1), (c0 + 1 + (sm0 ac 0).length + (sm0 ac 1).length, M.1 (x3 + 1), nx)) := by
          rw [evActs, if_neg hk3, if_neg hk4, if_neg k8, if_neg k7, if_pos k6]
        rw [hev]
        have sx : V_X5_seenX x3 ((setI M a 1 (nI (cap (c0 + 1 + (sm0 ac 0).length + (sm0 ac 1).length)))).1 x3 2) (setI M a 1 (nI (cap (c0 + 1 + (sm0 ac 0).length + (sm0 ac 1).length)))) = mx := by
          rw [hmx, F2.2.2 2 (by decide)]; unfold V_X5_seenX; rw [t1 _ F2]
        have sy : V_X5_seenY x3 ((setI M a 1 (nI (cap (c0 + 1 + (sm0 ac 0).length + (sm0 ac 1).length)))).1 x3 3) (setI M a 1 (nI (cap (c0 + 1 + (sm0 ac 0).length + (sm0 ac 1).length)))) = my := by
          rw [hmy, F2.2.2 3 (by decide)]; unfold V_X5_seenY; rw [t1 _ F2]
        rw [sx, sy]
        refine ⟨_, _, _, _, _, rfl, decCRf F2, by rw [decC_f (by omega), fI (by omega)], by rw [decC_o (by omega), gI (Or.inr (by decide))], rfl, rfl, by rw [decC_o (by omega), gs_eI], fun hl => ?_⟩
        dsimp only at hl
        rw [decC_x.1, decC_x.2.1, decC_x.2.2.1, decC_x.2.2.2, t1 _ F2, wx2 (by omega), wy2 (by omega)]
        exact ⟨rfl, rfl, rfl, fun q => absurd q (by decide), Or.inr (Or.inl rfl)⟩
      · rw [if_neg k6, bd2_s]
        simp only [bd1_s]
        rw [dec_eq]
        have hev : evActs sen mx my (ac :: as) (c0, M.1 (x3 + 1), nx) = (some (1, valS (M.1 (x3 + 1)) sen (sm0 ac 0), valS (M.1 (x3 + 1)) sen (sm0 ac 1), 1), (c0 + 1 + (sm0 ac 0).length + (sm0 ac 1).length, M.1 (x3 + 1), nx)) := by
          rw [evActs, if_neg hk3, if_neg hk4, if_neg k8, if_neg k7, if_neg k6]
        rw [hev]
        refine ⟨_, _, _, _, _, rfl, decCRf F2, by rw [decC_f (by omega), fI (by omega)], by rw [decC_o (by omega), gI (Or.inr (by decide))], rfl, rfl, by rw [decC_o (by omega), gs_eI], fun hl => ?_⟩
        dsimp only at hl
        rw [decC_x.1, decC_x.2.1, decC_x.2.2.1, decC_x.2.2.2, t1 _ F2, wx2 (by omega), wy2 (by omega)]
        exact ⟨rfl, rfl, rfl, fun q => absurd q (by decide), Or.inr (Or.inl rfl)⟩
