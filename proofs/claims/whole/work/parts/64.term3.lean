theorem put_d {x n d : Nat} {i v : Int32} {A : Mem} (h : d ≠ x) : (U_X10_put x i v n A).1 d = A.1 d := by
  unfold U_X10_put
  dsimp only
  split
  · rfl
  · split
    · rfl
    · exact fI h
theorem addTerm_2 {P : Nat} {x1 x2 x3 x4 : Int32} {A : Mem} (hP : 16 ≤ P) : (U_X3_addTerm P x1 x2 x3 x4 A).1 2 = A.1 2 := by
  unfold U_X3_addTerm
  dsimp only
  rw [fI (by omega), put_d (by omega), put_d (by omega), put_d (by omega), put_d (by omega)]
theorem addTerm_R {P k : Nat} {x1 x2 x3 x4 : Int32} {A : Mem} (hP : 16 ≤ P) (hk : k < 400) (h15 : A.1 P 15 = nI k) : TmC (U_X3_addTerm P x1 x2 x3 x4 A) P k (x1, x2, x3, x4) ∧ (U_X3_addTerm P x1 x2 x3 x4 A).1 P 15 = nI (k + 1) ∧ RwT P k A (U_X3_addTerm P x1 x2 x3 x4 A) := by
  rw [addTerm_C hk h15]
  refine ⟨⟨?_, ?_, ?_, ?_⟩, gs_eI, fun d p1 p2 x hx => ?_, ?_, ?_⟩
  · simp (disch := omega) only [gI, gs_eI]
  · simp (disch := omega) only [gI, gs_eI]
  · simp (disch := omega) only [gI, gs_eI]
  · simp (disch := omega) only [gI, gs_eI]
  · simp (disch := omega) only [gI]
  · simp (disch := omega) only [fI]
  · simp (disch := omega) only [gI]
def rtC (a : Nat) (x1 : Nat) (x2 : Int32) (v7_0 : Int32) (M7 : Mem) : Option Mem := bnd2 (R_X4_take a (9 : Int32) (25 : Int32) M7) (fun v8 M8 => bnd1 (if (13 : Int32) ≤ v8 then (if (16 : Int32) < v8 then (if (25 : Int32) ≤ v8 then (bd1 (U_X3_addTerm x1 x2 v7_0 (0 : Int32) ((M8.2 a 8).toInt32) M8) (fun M21 => (some M21))) else (bd1 (U_X3_addTerm x1 x2 v7_0 (2 : Int32) (v8 - (17 : Int32)) M8) (fun M22 => (some M22)))) else (bd1 (U_X3_addTerm x1 x2 v7_0 (1 : Int32) (v8 - (13 : Int32)) M8) (fun M23 => (some M23)))) else (bnd1 (if (801 : Int32) ≤ (M8.1 a 7) then (some M8) else (ck (M8.1 a 7) 801 (if (lg_cmp (M8.2 (a + 4) (M8.1 a 7).toNatClampNeg) (5 : Int64)) < 0 then (some M8) else (some (U_X4_refuse a M8))))) (fun M26 => bnd2 (R_X4_take a (25 : Int32) (25 : Int32) M26) (fun v29 M29 => bd1 (U_X3_addTerm x1 x2 v7_0 (2 : Int32) (((8 : Int32) + ((v8 - (9 : Int32)) * (5 : Int32))) + (M29.2 a 8).toInt32) M29) (fun M30 => (some M30)))))) (fun M18 => some M18))
theorem rtC_36 {P p : Nat} {x2 s : Int32} {A A1 : Mem} (hP : 16 ≤ P) (h : R_X4_take 2 9 25 A = some (36, A1)) (hF : RdF A1 p) (hFr : FrT P A A1) : ∃ A', rtC 2 P x2 s A = some A' ∧ RdF A' p ∧ FrT P A A' := by
  refine ⟨U_X3_addTerm P x2 s 0 ((A1.2 2 8).toInt32) A1, ?_, ?_, hFr.tr (addTerm_F hP)⟩
  · unfold rtC
    rw [bnd2_e h, if_pos (by decide), if_pos (by decide), if_pos (by decide)]
    rfl
  · unfold RdF; rw [addTerm_2 hP]; exact hF
theorem term_F {P p : Nat} {x2 : Int32} {A : Mem} (hP : 16 ≤ P) (hp : p ≤ 800) (h : RdF A p) : ∃ A', R_X4_readTerm 2 P x2 A = some A' ∧ RdF A' p ∧ FrT P A A' := by
  have L : L_X4_readTerm_5 2 P x2 FUEL 1 0 A = some (1, A) := by
    obtain ⟨f, hf⟩ : ∃ f, FUEL = f + 1 := ⟨FUEL - 1, by unfold FUEL; omega⟩
    rw [hf, L_X4_readTerm_5, if_neg (by decide), h, if_pos (nI_pos' (by omega))]
  obtain ⟨A', g1, g2, g3⟩ := rtC_36 (x2 := x2) (s := 1) hP (take_F hp h) h FrT.rf
  exact ⟨A', by unfold R_X4_readTerm; rw [bnd2_e L]; exact g1, g2, g3⟩
theorem ge_k {k n : Nat} {x : Int32} (hx : x = nI n) (hn : n < 40) (h : n ≤ k) (hk : k < 40) : x ≤ nI k := hx ▸ nI_le h (by omega)
theorem nge_k {k n : Nat} {x : Int32} (hx : x = nI n) (hn : n < 40) (h : k < n) : ¬ x ≤ nI k := hx ▸ nI_ge h (by omega)
