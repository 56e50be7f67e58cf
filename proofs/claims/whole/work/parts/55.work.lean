/-! ===== a robot's program runs ===== -/
def wkC (a : Nat) (x1 : Int32) (M7 : Mem) : Option Mem := bnd1 (R_X2_sense a (a + 10 + 2 * x1.toNatClampNeg) x1 M7) (fun M15 => ck (M15.1 (a + 10 + 2 * x1.toNatClampNeg) 6) 6 (bnd2 (R_X6_run (a + 1) (16 + 15 * (M15.1 (a + 10 + 2 * x1.toNatClampNeg) 6).toNatClampNeg) (a + 10 + 2 * x1.toNatClampNeg) M15) (fun v17 M17 => if v17 = 0 then (some M17) else (some (setI M17 (a + 7) 3 ((M17.1 (a + 7) 3) + (1 : Int32)))))))
def wkM (x1 : Int32) (mA : Nat) (M2 : Mem) : Option Mem := bnd1 (R_X11_of x1 (11 : Int32) mA M2) (fun v7 => bnd1 (R_X11_of x1 (11 : Int32) mA (setI M2 242 34 ((800 : Int32) * v7))) (fun v8 => bnd1 (R_X11_of x1 (2 : Int32) mA (setI M2 242 34 ((800 : Int32) * v7))) (fun v9 => ck (((8 : Int32) * v8) + v9) 48 (bnd1 (R_X11_of x1 (2 : Int32) mA (setI (setI (setI (setI M2 242 34 ((800 : Int32) * v7)) 242 35 (M2.1 247 (((8 : Int32) * v8) + v9).toNatClampNeg)) 242 36 (0 : Int32)) 242 37 (0 : Int32))) (fun v11 => bnd1 (R_X11_runRules  mA (setI (setI (setI (setI (setI M2 242 34 ((800 : Int32) * v7)) 242 35 (M2.1 247 (((8 : Int32) * v8) + v9).toNatClampNeg)) 242 36 (0 : Int32)) 242 37 (0 : Int32)) 242 41 v11)) (fun M12 => bnd1 (if (M12.1 242 37) = 0 then (bnd1 (R_X11_set x1 (2 : Int32) (M12.1 242 41) mA M12) (fun M16 => (some M16))) else (bnd1 (R_X11_goes (0 : Int32) (0 : Int32) (0 : Int32) (0 : Int32) mA M12) (fun M17 => bnd1 (R_X11_set x1 (3 : Int32) (1 : Int32) mA M17) (fun M18 => (some (setI M18 mA 11 ((M18.1 mA 11) + (1 : Int32)))))))) (fun M15 => some M15)))))))
/-- the model's part, up to the rules' end -/
theorem wkM_run {mA r q s h h' : Nat} {B : Mem} {rs : List Rl} (hm : mA = 259 ∨ mA = 260) (hr : r < 10) (h33 : B.1 242 33 = nI r) (hq : q < 6) (hs : s < 8) (ep : B.1 mA (44 + 16 * r + 11) = nI q) (es : B.1 mA (44 + 16 * r + 2) = nI s) (hst : STm mA r B) (e247 : B.1 247 (8 * q + s) = nI h) (HR : RulesM (wF B q) (vF B q) rs h h') (hh : h' < 800) :
    ∃ B' h2 bu, MAf mA r (setI (setI B 242 34 (nI (800 * q))) 242 41 (nI s)) B' (evRules (senF (B.1 mA) r) (tX r (B.1 mA (44 + 16 * r))) (tY r (B.1 mA (44 + 16 * r + 1))) rs (0, ownF (B.1 mA) r, nI s)) bu ∧
      wkM (nI r) mA B = (if (evRules (senF (B.1 mA) r) (tX r (B.1 mA (44 + 16 * r))) (tY r (B.1 mA (44 + 16 * r + 1))) rs (0, ownF (B.1 mA) r, nI s)).2.1 ≤ 80 then some (setI (mst B' h2 (evRules (senF (B.1 mA) r) (tX r (B.1 mA (44 + 16 * r))) (tY r (B.1 mA (44 + 16 * r + 1))) rs (0, ownF (B.1 mA) r, nI s)).2.1) mA (44 + 16 * r + 2) (B'.1 242 41)) else some (setI (setI (goesM mA r 0 0 0 0 (mst B' h2 (evRules (senF (B.1 mA) r) (tX r (B.1 mA (44 + 16 * r))) (tY r (B.1 mA (44 + 16 * r + 1))) rs (0, ownF (B.1 mA) r, nI s)).2.1)) mA (44 + 16 * r + 3) 1) mA 11 (B.1 mA 11 + 1))) := by
  have hm2 : mA ≠ 242 := by omega
  have o : ∀ (c : Nat) (w : Int32) (M : Mem), w = nI c → c < 16 → R_X11_of (nI r) w mA M = some (M.1 mA (44 + 16 * r + c)) := fun c w M hw hc => of_eq hr hc hw
  obtain ⟨B3, hB3⟩ : ∃ X, X = setI B 242 34 (nI (800 * q)) := ⟨_, rfl⟩
  obtain ⟨Bs, hBs⟩ : ∃ X, X = setI B3 242 41 (nI s) := ⟨_, rfl⟩
  rw [← hB3, ← hBs]
  have f3 : ∀ d, d ≠ 242 → B3.1 d = B.1 d := fun d hd => by rw [hB3, fI hd]
  have fs : ∀ d, d ≠ 242 → Bs.1 d = B.1 d := fun d hd => by rw [hBs, fI hd, f3 d hd]
  have hMB : MB Bs q r := ⟨hq, hr, by rw [hBs, gI (Or.inr (by decide)), hB3, gs_eI], by rw [hBs, gI (Or.inr (by decide)), hB3, gI (Or.inr (by decide))]; exact h33⟩
  have hw : wF Bs q = wF B q := by unfold wF; rw [fs 244 (by decide)]
  have hv : vF Bs q = vF B q := by unfold vF; rw [fs 245 (by decide)]
  have hro : Bs.1 mA = B.1 mA := fs mA hm2
  have hST : STm mA r Bs := by
    unfold STm
    rw [hro, fs 262 (by decide), fs 263 (by decide)]; exact hst
  have H := rules_M (q := q) (r := r) (B0 := Bs) hm hMB rfl rfl rs h h' 0 FUEL Bs MRf.rf hST (by rw [hw, hv]; exact HR) hh (by have := RulesM.le _ _ _ HR; unfold FUEL; omega) (by decide)
  have e41 : Bs.1 242 41 = nI s := by rw [hBs, gs_eI]
  rw [hro, e41] at H
  obtain ⟨z, B', h2, bu, ez, hz, hMA⟩ := H
  generalize hres : evRules (senF (B.1 mA) r) (tX r (B.1 mA (44 + 16 * r))) (tY r (B.1 mA (44 + 16 * r + 1))) rs (0, ownF (B.1 mA) r, nI s) = res at hz hMA ⊢
  refine ⟨B', h2, bu, hMA, ?_⟩
  have er : R_X11_runRules mA (mst Bs h 0) = some (mst B' h2 res.2.1) := by
    unfold R_X11_runRules
    rw [ez]
    rcases hz with rfl | rfl
    · rw [br1_l]
    · rw [br1_r]
  obtain ⟨⟨m1, m2, m3, m4, m5⟩, _, _⟩ := hMA
  have b33 : (mst B' h2 res.2.1).1 242 33 = nI r := by rw [mst_j (by decide), m3 33 (by decide)]; exact hMB.2.2.2
  have e8 : ((8 : Int32) * nI q) + nI s = nI (8 * q + s) := by rw [show (8 : Int32) = nI 8 from rfl, pk_mul, nI_add]
  have e800 : (800 : Int32) * nI q = nI (800 * q) := by rw [show (800 : Int32) = nI 800 from rfl, pk_mul]
  unfold wkM
  rw [bnd1_e (o 11 11 B rfl (by decide)), ep, e800, ← hB3, bnd1_e (o 11 11 B3 rfl (by decide)), bnd1_e (o 2 2 B3 rfl (by decide)), f3 mA hm2, ep, es, e8, ck_nI (by omega) (by omega), nI_clamp (by omega), e247]
  have eM : setI (setI (setI B3 242 35 (nI h)) 242 36 0) 242 37 0 = mst B3 h 0 := rfl
  rw [eM, bnd1_e (o 2 2 _ rfl (by decide)), mst_d hm2, f3 mA hm2, es, mst_c (Or.inr (by decide)), ← hBs, bnd1_e er, mst_37]
  by_cases c : res.2.1 ≤ 80
  · rw [if_pos c, if_pos rfl, if_pos c, bnd1_e (set_eq (c := 2) (w := 2) hr (by decide) rfl), mst_j (by decide)]; rfl
  · rw [if_neg c, if_neg n10, if_neg c, bnd1_e (goes_eq hm hr b33), bnd1_e (set_eq (c := 3) (w := 3) hr (by decide) rfl), bnd1_s]
    have e11 : (setI (goesM mA r 0 0 0 0 (mst B' h2 res.2.1)) mA (44 + 16 * r + 3) 1).1 mA 11 = B.1 mA 11 := by
      unfold goesM
      simp (disch := omega) only [gI]
      rw [mst_d hm2, m4 11 (by omega) (by omega), hro]
    rw [e11]
