def FUEL : Nat := 5000
theorem gs_nI {M : Mem} {a b i j : Nat} {v : Int32} (h : i ≠ j) : (setI M a j v).1 b i = M.1 b i := by simp [setI, h]
theorem gs_eI {M : Mem} {a j : Nat} {v : Int32} : (setI M a j v).1 a j = v := by simp [setI]
theorem gs_nJ {M : Mem} {a b i j : Nat} {v : Int64} (h : i ≠ j) : (setJ M a j v).2 b i = M.2 b i := by simp [setJ, h]
theorem gs_eJ {M : Mem} {a j : Nat} {v : Int64} : (setJ M a j v).2 a j = v := by simp [setJ]
theorem gs_aI {M : Mem} {a b i j : Nat} {v : Int32} (h : b ≠ a) : (setI M a j v).1 b i = M.1 b i := by simp [setI, h]
theorem gs_aJ {M : Mem} {a b i j : Nat} {v : Int64} (h : b ≠ a) : (setJ M a j v).2 b i = M.2 b i := by simp [setJ, h]
theorem zi {c : Prop} [Decidable c] {a b : Int32} (ha : a = 0 ∨ a = 1) (hb : b = 0 ∨ b = 1) : (if c then a else b) = 0 ∨ (if c then a else b) = 1 := by split <;> assumption
theorem gs_k2 {M : Mem} {a b i j : Nat} {v : Int32} : (setI M a j v).2 b i = M.2 b i := rfl
theorem ne_kd {sh : List SC} {a b : Nat} {p q : Nat × Nat} (h1 : kd sh a = some p) (h2 : kd sh b = some q) (h : p ≠ q) : a ≠ b := fun e => h (Option.some.inj (h1.symm.trans (e ▸ h2)))
theorem gs_k {M : Mem} {a b i j : Nat} {v : Int64} : (setJ M a j v).1 b i = M.1 b i := rfl
def BallAt (sh : List SC) (a : Nat) : Prop := kd sh a = some (0 + 7, 0) ∧ rf sh a 10 = some (a + 1) ∧ rf sh a 11 = some (a + 2) ∧ kd sh (a + 1) = some (0, 4) ∧ kd sh (a + 2) = some (0, 4)
def TallyAt (sh : List SC) (a : Nat) : Prop := kd sh a = some (7 + 7, 0) ∧ rf sh a 4 = some (a + 1) ∧ rf sh a 5 = some (a + 2) ∧ kd sh (a + 1) = some (0, 4) ∧ kd sh (a + 2) = some (0, 20)
def RobotAt (sh : List SC) (a : Nat) : Prop := kd sh a = some (5 + 7, 0) ∧ rf sh a 9 = some (a + 1) ∧ kd sh (a + 1) = some (0, 4)
def RunnerAt (sh : List SC) (a : Nat) : Prop := kd sh a = some (6 + 7, 0) ∧ rf sh a 0 = some (a + 1) ∧ kd sh (a + 1) = some (0, 28)
def TeamAt (sh : List SC) (a : Nat) : Prop := kd sh a = some (8 + 7, 0) ∧ rf sh a 0 = some (a + 1) ∧ rf sh a 1 = some (a + 2) ∧ rf sh a 2 = some (a + 3) ∧ kd sh (a + 1) = some (0, 5) ∧ kd sh (a + 2) = some (0, 5) ∧ kd sh (a + 3) = some (0, 5)
def LeagueAt (sh : List SC) (a : Nat) : Prop := kd sh a = some (1 + 7, 0) ∧ rf sh a 1 = some (a + 1) ∧ rf sh a 2 = some (a + 2) ∧ rf sh a 3 = some (a + 3) ∧ kd sh (a + 1) = some (0, 4) ∧ kd sh (a + 2) = some (0, 4) ∧ kd sh (a + 3) = some (0, 4)
def ProgramAt (sh : List SC) (a : Nat) : Prop := kd sh a = some (3 + 7, 0) ∧ rf sh a 1 = some (a + 1) ∧ rf sh a 2 = some (a + 2) ∧ rf sh a 4 = some (a + 3) ∧ rf sh a 5 = some (a + 4) ∧ rf sh a 7 = some (a + 5) ∧ rf sh a 8 = some (a + 6) ∧ rf sh a 10 = some (a + 7) ∧ rf sh a 11 = some (a + 8) ∧ rf sh a 12 = some (a + 9) ∧ rf sh a 14 = some (a + 10) ∧ rf sh a 16 = some (a + 11) ∧ rf sh a 17 = some (a + 12) ∧ rf sh a 18 = some (a + 13) ∧ rf sh a 19 = some (a + 14) ∧ kd sh (a + 1) = some (1, 8) ∧ kd sh (a + 2) = some (0, 9) ∧ kd sh (a + 3) = some (0, 97) ∧ kd sh (a + 4) = some (0, 97) ∧ kd sh (a + 5) = some (0, 400) ∧ kd sh (a + 6) = some (0, 400) ∧ kd sh (a + 7) = some (0, 400) ∧ kd sh (a + 8) = some (1, 400) ∧ kd sh (a + 9) = some (0, 400) ∧ kd sh (a + 10) = some (0, 401) ∧ kd sh (a + 11) = some (0, 400) ∧ kd sh (a + 12) = some (0, 400) ∧ kd sh (a + 13) = some (0, 400) ∧ kd sh (a + 14) = some (0, 400)
def ReaderAt (sh : List SC) (a : Nat) : Prop := kd sh a = some (4 + 7, 0) ∧ rf sh a 0 = some (a + 1) ∧ rf sh a 1 = some (a + 2) ∧ rf sh a 2 = some (a + 3) ∧ rf sh a 3 = some (a + 4) ∧ rf sh a 4 = some (a + 5) ∧ kd sh (a + 1) = some (0, 800) ∧ kd sh (a + 2) = some (1, 25) ∧ kd sh (a + 3) = some (0, 801) ∧ kd sh (a + 4) = some (1, 801) ∧ kd sh (a + 5) = some (0, 801)
def GlobAt (sh : List SC) : Prop := kd sh 8 = some (3, 6) ∧ (∀ r, r < 6 → rf sh 8 r = some (16 + 15 * r) ∧ ProgramAt sh (16 + 15 * r)) ∧ kd sh 9 = some (4, 4) ∧ (∀ r, r < 4 → rf sh 9 r = some (106 + 4 * r) ∧ TeamAt sh (106 + 4 * r))
def MatchAt (sh : List SC) (a : Nat) : Prop := kd sh a = some (2 + 7, 0) ∧ rf sh a 0 = some 9 ∧ rf sh a 1 = some 8 ∧ rf sh a 2 = some (a + 1) ∧ rf sh a 3 = some (a + 3) ∧ rf sh a 4 = some (a + 4) ∧ rf sh a 5 = some (a + 7) ∧ kd sh (a + 3) = some (6, 10) ∧ (∀ r, r < 10 → rf sh (a + 3) r = some (a + 10 + 2 * r) ∧ RobotAt sh (a + 10 + 2 * r)) ∧ BallAt sh (a + 4) ∧ TallyAt sh (a + 7) ∧ RunnerAt sh (a + 1) ∧ GlobAt sh
def PitchAt (sh : List SC) : Prop := kd sh 0 = some (9 + 7, 0) ∧ rf sh 0 0 = some 1 ∧ rf sh 0 1 = some 2 ∧ rf sh 0 2 = some 8 ∧ rf sh 0 3 = some 9 ∧ rf sh 0 4 = some 122 ∧ rf sh 0 5 = some 152 ∧ rf sh 0 6 = some 10 ∧ rf sh 0 7 = some 11 ∧ rf sh 0 8 = some 15 ∧ kd sh 1 = some (0, 5) ∧ kd sh 15 = some (0, 20) ∧ kd sh 10 = some (5, 2) ∧ (∀ r, r < 2 → rf sh 10 r = some (182 + 30 * r) ∧ MatchAt sh (182 + 30 * r)) ∧ ReaderAt sh 2 ∧ LeagueAt sh 11 ∧ MatchAt sh 122 ∧ MatchAt sh 152 ∧ GlobAt sh
def ModelAt (sh : List SC) (mA oA : Nat) : Prop := kd sh 242 = some (10 + 7, 0) ∧ rf sh 242 0 = some 243 ∧ rf sh 242 9 = some 244 ∧ rf sh 242 10 = some 245 ∧ rf sh 242 12 = some 246 ∧ rf sh 242 13 = some 247 ∧ rf sh 242 14 = some 248 ∧ rf sh 242 16 = some 249 ∧ rf sh 242 17 = some 250 ∧ rf sh 242 18 = some 251 ∧ rf sh 242 19 = some 252 ∧ rf sh 242 21 = some 253 ∧ rf sh 242 22 = some 254 ∧ rf sh 242 23 = some 255 ∧ rf sh 242 24 = some 256 ∧ rf sh 242 25 = some 257 ∧ rf sh 242 26 = some 258 ∧ rf sh 242 27 = some mA ∧ rf sh 242 28 = some oA ∧ rf sh 242 29 = some 261 ∧ rf sh 242 38 = some 262 ∧ rf sh 242 39 = some 263 ∧ rf sh 242 40 = some 264 ∧ rf sh 242 43 = some 265 ∧ rf sh 242 44 = some 266 ∧ rf sh 242 45 = some 267 ∧ rf sh 242 47 = some 268 ∧ kd sh 243 = some (0, 800) ∧ kd sh 244 = some (0, 4800) ∧ kd sh 245 = some (0, 4800) ∧ kd sh 246 = some (0, 6) ∧ kd sh 247 = some (0, 48) ∧ kd sh 248 = some (1, 8) ∧ kd sh 249 = some (1, 800) ∧ kd sh 250 = some (0, 800) ∧ kd sh 251 = some (0, 800) ∧ kd sh 252 = some (2, 800) ∧ kd sh 253 = some (0, 6) ∧ kd sh 254 = some (0, 20) ∧ kd sh 255 = some (0, 20) ∧ kd sh 256 = some (0, 20) ∧ kd sh 257 = some (0, 4) ∧ kd sh 258 = some (0, 4) ∧ kd sh 261 = some (0, 424) ∧ kd sh 262 = some (0, 10) ∧ kd sh 263 = some (0, 10) ∧ kd sh 264 = some (0, 10) ∧ kd sh 265 = some (0, 4) ∧ kd sh 266 = some (0, 4) ∧ kd sh 267 = some (0, 4) ∧ kd sh 268 = some (0, 20) ∧ kd sh mA = some (0, 212) ∧ kd sh oA = some (0, 212)
theorem vp_lt {i : Int32} {n : Nat} (h : vp_in i n) : i.toNatClampNeg < n := Nat.not_le.mp (fun q => h (Or.inr q))
section GE
variable {k : MT} {Q : Po} {pc pc' : Nat} {ls : List (Option Value)} {st : List Value} {sh : List SC} {M : Mem} {n1 n2 : Nat} {idx c j t a n : Nat} {fin : Bool}
theorem r_getIe {v : Int32} (hd : Inx k pc (.getfield idx) 3 pc') (hl : FL k.1.cls idx c j t fin) (ht : t ≠ 1 ∧ t ≠ 2) (hk : kd sh a = some (c + 7, 0)) (hv : M.1 a j = v) (h : WP k Q pc' ls (.int v :: st) sh M n1 n2) : WP k Q pc ls (.ref a :: st) sh M n1 n2 := by
  subst hv; exact r_getI hd hl ht hk h
theorem r_getJe {v : Int64} (hd : Inx k pc (.getfield idx) 3 pc') (hl : FL k.1.cls idx c j 1 fin) (hk : kd sh a = some (c + 7, 0)) (hv : M.2 a j = v) (h : WP k Q pc' ls (.long v :: st) sh M n1 n2) : WP k Q pc ls (.ref a :: st) sh M n1 n2 := by
  subst hv; exact r_getJ hd hl hk h
theorem r_ialoade {i v : Int32} (hd : Inx k pc .iaload 1 pc') (ha : kd sh a = some (0, n)) (hi : vp_in i n) (hv : M.1 a i.toNatClampNeg = v) (h : WP k Q pc' ls (.int v :: st) sh M n1 n2) : WP k Q pc ls (.int i :: .ref a :: st) sh M n1 n2 := by
  subst hv; exact r_iaload hd ha hi h
theorem r_laloade {i : Int32} {v : Int64} (hd : Inx k pc .laload 1 pc') (ha : kd sh a = some (1, n)) (hi : vp_in i n) (hv : M.2 a i.toNatClampNeg = v) (h : WP k Q pc' ls (.long v :: st) sh M n1 n2) : WP k Q pc ls (.int i :: .ref a :: st) sh M n1 n2 := by
  subst hv; exact r_laload hd ha hi h
theorem i_nlt {x : Int32} (h : 0 ≤ x) : ¬ x < 0 := by
  rw [Int32.le_iff_toInt_le] at h; rw [Int32.lt_iff_toInt_lt]; omega
theorem i_nle {x y : Int32} (h : x < y) : ¬ y ≤ x := by
  rw [Int32.lt_iff_toInt_lt] at h; rw [Int32.le_iff_toInt_le]; omega
theorem vp_guard {i : Int32} {n : Nat} (h1 : ¬ i < 0) (h2 : ¬ Int32.ofNat n ≤ i) (hn : n < 2 ^ 31) : vp_in i n := by
  obtain ⟨j, hj, rfl⟩ := nI_of h1
  refine vp_in_nI ?_ hn
  rcases Nat.lt_or_ge j n with q | q
  · exact q
  · exact absurd (nI_le q hj) h2
end GE

theorem d_1_0 {k : MT} {Q : Po} {pc : Nat} {st : List Value} {sh : List SC} {M : Mem} {n1 n2 : Nat} {v0 : Option Value} (h : WP k Q pc [none] st sh M n1 n2) : WP k Q pc [v0] st sh M n1 n2 := WP_dropI (i := 0) h
theorem d_2_0 {k : MT} {Q : Po} {pc : Nat} {st : List Value} {sh : List SC} {M : Mem} {n1 n2 : Nat} {v0 v1 : Option Value} (h : WP k Q pc [none, v1] st sh M n1 n2) : WP k Q pc [v0, v1] st sh M n1 n2 := WP_dropI (i := 0) h
theorem d_2_1 {k : MT} {Q : Po} {pc : Nat} {st : List Value} {sh : List SC} {M : Mem} {n1 n2 : Nat} {v0 v1 : Option Value} (h : WP k Q pc [v0, none] st sh M n1 n2) : WP k Q pc [v0, v1] st sh M n1 n2 := WP_dropI (i := 1) h
theorem d_3_0 {k : MT} {Q : Po} {pc : Nat} {st : List Value} {sh : List SC} {M : Mem} {n1 n2 : Nat} {v0 v1 v2 : Option Value} (h : WP k Q pc [none, v1, v2] st sh M n1 n2) : WP k Q pc [v0, v1, v2] st sh M n1 n2 := WP_dropI (i := 0) h
theorem d_3_1 {k : MT} {Q : Po} {pc : Nat} {st : List Value} {sh : List SC} {M : Mem} {n1 n2 : Nat} {v0 v1 v2 : Option Value} (h : WP k Q pc [v0, none, v2] st sh M n1 n2) : WP k Q pc [v0, v1, v2] st sh M n1 n2 := WP_dropI (i := 1) h
theorem d_3_2 {k : MT} {Q : Po} {pc : Nat} {st : List Value} {sh : List SC} {M : Mem} {n1 n2 : Nat} {v0 v1 v2 : Option Value} (h : WP k Q pc [v0, v1, none] st sh M n1 n2) : WP k Q pc [v0, v1, v2] st sh M n1 n2 := WP_dropI (i := 2) h
theorem d_4_0 {k : MT} {Q : Po} {pc : Nat} {st : List Value} {sh : List SC} {M : Mem} {n1 n2 : Nat} {v0 v1 v2 v3 : Option Value} (h : WP k Q pc [none, v1, v2, v3] st sh M n1 n2) : WP k Q pc [v0, v1, v2, v3] st sh M n1 n2 := WP_dropI (i := 0) h
theorem d_4_1 {k : MT} {Q : Po} {pc : Nat} {st : List Value} {sh : List SC} {M : Mem} {n1 n2 : Nat} {v0 v1 v2 v3 : Option Value} (h : WP k Q pc [v0, none, v2, v3] st sh M n1 n2) : WP k Q pc [v0, v1, v2, v3] st sh M n1 n2 := WP_dropI (i := 1) h
theorem d_4_2 {k : MT} {Q : Po} {pc : Nat} {st : List Value} {sh : List SC} {M : Mem} {n1 n2 : Nat} {v0 v1 v2 v3 : Option Value} (h : WP k Q pc [v0, v1, none, v3] st sh M n1 n2) : WP k Q pc [v0, v1, v2, v3] st sh M n1 n2 := WP_dropI (i := 2) h
theorem d_4_3 {k : MT} {Q : Po} {pc : Nat} {st : List Value} {sh : List SC} {M : Mem} {n1 n2 : Nat} {v0 v1 v2 v3 : Option Value} (h : WP k Q pc [v0, v1, v2, none] st sh M n1 n2) : WP k Q pc [v0, v1, v2, v3] st sh M n1 n2 := WP_dropI (i := 3) h
theorem d_5_0 {k : MT} {Q : Po} {pc : Nat} {st : List Value} {sh : List SC} {M : Mem} {n1 n2 : Nat} {v0 v1 v2 v3 v4 : Option Value} (h : WP k Q pc [none, v1, v2, v3, v4] st sh M n1 n2) : WP k Q pc [v0, v1, v2, v3, v4] st sh M n1 n2 := WP_dropI (i := 0) h
theorem d_5_1 {k : MT} {Q : Po} {pc : Nat} {st : List Value} {sh : List SC} {M : Mem} {n1 n2 : Nat} {v0 v1 v2 v3 v4 : Option Value} (h : WP k Q pc [v0, none, v2, v3, v4] st sh M n1 n2) : WP k Q pc [v0, v1, v2, v3, v4] st sh M n1 n2 := WP_dropI (i := 1) h
theorem d_5_2 {k : MT} {Q : Po} {pc : Nat} {st : List Value} {sh : List SC} {M : Mem} {n1 n2 : Nat} {v0 v1 v2 v3 v4 : Option Value} (h : WP k Q pc [v0, v1, none, v3, v4] st sh M n1 n2) : WP k Q pc [v0, v1, v2, v3, v4] st sh M n1 n2 := WP_dropI (i := 2) h
theorem d_5_3 {k : MT} {Q : Po} {pc : Nat} {st : List Value} {sh : List SC} {M : Mem} {n1 n2 : Nat} {v0 v1 v2 v3 v4 : Option Value} (h : WP k Q pc [v0, v1, v2, none, v4] st sh M n1 n2) : WP k Q pc [v0, v1, v2, v3, v4] st sh M n1 n2 := WP_dropI (i := 3) h
theorem d_5_4 {k : MT} {Q : Po} {pc : Nat} {st : List Value} {sh : List SC} {M : Mem} {n1 n2 : Nat} {v0 v1 v2 v3 v4 : Option Value} (h : WP k Q pc [v0, v1, v2, v3, none] st sh M n1 n2) : WP k Q pc [v0, v1, v2, v3, v4] st sh M n1 n2 := WP_dropI (i := 4) h
theorem d_6_0 {k : MT} {Q : Po} {pc : Nat} {st : List Value} {sh : List SC} {M : Mem} {n1 n2 : Nat} {v0 v1 v2 v3 v4 v5 : Option Value} (h : WP k Q pc [none, v1, v2, v3, v4, v5] st sh M n1 n2) : WP k Q pc [v0, v1, v2, v3, v4, v5] st sh M n1 n2 := WP_dropI (i := 0) h
theorem d_6_1 {k : MT} {Q : Po} {pc : Nat} {st : List Value} {sh : List SC} {M : Mem} {n1 n2 : Nat} {v0 v1 v2 v3 v4 v5 : Option Value} (h : WP k Q pc [v0, none, v2, v3, v4, v5] st sh M n1 n2) : WP k Q pc [v0, v1, v2, v3, v4, v5] st sh M n1 n2 := WP_dropI (i := 1) h
theorem d_6_2 {k : MT} {Q : Po} {pc : Nat} {st : List Value} {sh : List SC} {M : Mem} {n1 n2 : Nat} {v0 v1 v2 v3 v4 v5 : Option Value} (h : WP k Q pc [v0, v1, none, v3, v4, v5] st sh M n1 n2) : WP k Q pc [v0, v1, v2, v3, v4, v5] st sh M n1 n2 := WP_dropI (i := 2) h
theorem d_6_3 {k : MT} {Q : Po} {pc : Nat} {st : List Value} {sh : List SC} {M : Mem} {n1 n2 : Nat} {v0 v1 v2 v3 v4 v5 : Option Value} (h : WP k Q pc [v0, v1, v2, none, v4, v5] st sh M n1 n2) : WP k Q pc [v0, v1, v2, v3, v4, v5] st sh M n1 n2 := WP_dropI (i := 3) h
theorem d_6_4 {k : MT} {Q : Po} {pc : Nat} {st : List Value} {sh : List SC} {M : Mem} {n1 n2 : Nat} {v0 v1 v2 v3 v4 v5 : Option Value} (h : WP k Q pc [v0, v1, v2, v3, none, v5] st sh M n1 n2) : WP k Q pc [v0, v1, v2, v3, v4, v5] st sh M n1 n2 := WP_dropI (i := 4) h
theorem d_6_5 {k : MT} {Q : Po} {pc : Nat} {st : List Value} {sh : List SC} {M : Mem} {n1 n2 : Nat} {v0 v1 v2 v3 v4 v5 : Option Value} (h : WP k Q pc [v0, v1, v2, v3, v4, none] st sh M n1 n2) : WP k Q pc [v0, v1, v2, v3, v4, v5] st sh M n1 n2 := WP_dropI (i := 5) h
theorem d_7_0 {k : MT} {Q : Po} {pc : Nat} {st : List Value} {sh : List SC} {M : Mem} {n1 n2 : Nat} {v0 v1 v2 v3 v4 v5 v6 : Option Value} (h : WP k Q pc [none, v1, v2, v3, v4, v5, v6] st sh M n1 n2) : WP k Q pc [v0, v1, v2, v3, v4, v5, v6] st sh M n1 n2 := WP_dropI (i := 0) h
theorem d_7_1 {k : MT} {Q : Po} {pc : Nat} {st : List Value} {sh : List SC} {M : Mem} {n1 n2 : Nat} {v0 v1 v2 v3 v4 v5 v6 : Option Value} (h : WP k Q pc [v0, none, v2, v3, v4, v5, v6] st sh M n1 n2) : WP k Q pc [v0, v1, v2, v3, v4, v5, v6] st sh M n1 n2 := WP_dropI (i := 1) h
theorem d_7_2 {k : MT} {Q : Po} {pc : Nat} {st : List Value} {sh : List SC} {M : Mem} {n1 n2 : Nat} {v0 v1 v2 v3 v4 v5 v6 : Option Value} (h : WP k Q pc [v0, v1, none, v3, v4, v5, v6] st sh M n1 n2) : WP k Q pc [v0, v1, v2, v3, v4, v5, v6] st sh M n1 n2 := WP_dropI (i := 2) h
theorem d_7_3 {k : MT} {Q : Po} {pc : Nat} {st : List Value} {sh : List SC} {M : Mem} {n1 n2 : Nat} {v0 v1 v2 v3 v4 v5 v6 : Option Value} (h : WP k Q pc [v0, v1, v2, none, v4, v5, v6] st sh M n1 n2) : WP k Q pc [v0, v1, v2, v3, v4, v5, v6] st sh M n1 n2 := WP_dropI (i := 3) h
theorem d_7_4 {k : MT} {Q : Po} {pc : Nat} {st : List Value} {sh : List SC} {M : Mem} {n1 n2 : Nat} {v0 v1 v2 v3 v4 v5 v6 : Option Value} (h : WP k Q pc [v0, v1, v2, v3, none, v5, v6] st sh M n1 n2) : WP k Q pc [v0, v1, v2, v3, v4, v5, v6] st sh M n1 n2 := WP_dropI (i := 4) h
theorem d_7_5 {k : MT} {Q : Po} {pc : Nat} {st : List Value} {sh : List SC} {M : Mem} {n1 n2 : Nat} {v0 v1 v2 v3 v4 v5 v6 : Option Value} (h : WP k Q pc [v0, v1, v2, v3, v4, none, v6] st sh M n1 n2) : WP k Q pc [v0, v1, v2, v3, v4, v5, v6] st sh M n1 n2 := WP_dropI (i := 5) h
theorem d_7_6 {k : MT} {Q : Po} {pc : Nat} {st : List Value} {sh : List SC} {M : Mem} {n1 n2 : Nat} {v0 v1 v2 v3 v4 v5 v6 : Option Value} (h : WP k Q pc [v0, v1, v2, v3, v4, v5, none] st sh M n1 n2) : WP k Q pc [v0, v1, v2, v3, v4, v5, v6] st sh M n1 n2 := WP_dropI (i := 6) h
theorem d_8_0 {k : MT} {Q : Po} {pc : Nat} {st : List Value} {sh : List SC} {M : Mem} {n1 n2 : Nat} {v0 v1 v2 v3 v4 v5 v6 v7 : Option Value} (h : WP k Q pc [none, v1, v2, v3, v4, v5, v6, v7] st sh M n1 n2) : WP k Q pc [v0, v1, v2, v3, v4, v5, v6, v7] st sh M n1 n2 := WP_dropI (i := 0) h
theorem d_8_1 {k : MT} {Q : Po} {pc : Nat} {st : List Value} {sh : List SC} {M : Mem} {n1 n2 : Nat} {v0 v1 v2 v3 v4 v5 v6 v7 : Option Value} (h : WP k Q pc [v0, none, v2, v3, v4, v5, v6, v7] st sh M n1 n2) : WP k Q pc [v0, v1, v2, v3, v4, v5, v6, v7] st sh M n1 n2 := WP_dropI (i := 1) h
theorem d_8_2 {k : MT} {Q : Po} {pc : Nat} {st : List Value} {sh : List SC} {M : Mem} {n1 n2 : Nat} {v0 v1 v2 v3 v4 v5 v6 v7 : Option Value} (h : WP k Q pc [v0, v1, none, v3, v4, v5, v6, v7] st sh M n1 n2) : WP k Q pc [v0, v1, v2, v3, v4, v5, v6, v7] st sh M n1 n2 := WP_dropI (i := 2) h
theorem d_8_3 {k : MT} {Q : Po} {pc : Nat} {st : List Value} {sh : List SC} {M : Mem} {n1 n2 : Nat} {v0 v1 v2 v3 v4 v5 v6 v7 : Option Value} (h : WP k Q pc [v0, v1, v2, none, v4, v5, v6, v7] st sh M n1 n2) : WP k Q pc [v0, v1, v2, v3, v4, v5, v6, v7] st sh M n1 n2 := WP_dropI (i := 3) h
theorem d_8_4 {k : MT} {Q : Po} {pc : Nat} {st : List Value} {sh : List SC} {M : Mem} {n1 n2 : Nat} {v0 v1 v2 v3 v4 v5 v6 v7 : Option Value} (h : WP k Q pc [v0, v1, v2, v3, none, v5, v6, v7] st sh M n1 n2) : WP k Q pc [v0, v1, v2, v3, v4, v5, v6, v7] st sh M n1 n2 := WP_dropI (i := 4) h
theorem d_8_5 {k : MT} {Q : Po} {pc : Nat} {st : List Value} {sh : List SC} {M : Mem} {n1 n2 : Nat} {v0 v1 v2 v3 v4 v5 v6 v7 : Option Value} (h : WP k Q pc [v0, v1, v2, v3, v4, none, v6, v7] st sh M n1 n2) : WP k Q pc [v0, v1, v2, v3, v4, v5, v6, v7] st sh M n1 n2 := WP_dropI (i := 5) h
theorem d_8_6 {k : MT} {Q : Po} {pc : Nat} {st : List Value} {sh : List SC} {M : Mem} {n1 n2 : Nat} {v0 v1 v2 v3 v4 v5 v6 v7 : Option Value} (h : WP k Q pc [v0, v1, v2, v3, v4, v5, none, v7] st sh M n1 n2) : WP k Q pc [v0, v1, v2, v3, v4, v5, v6, v7] st sh M n1 n2 := WP_dropI (i := 6) h
theorem d_8_7 {k : MT} {Q : Po} {pc : Nat} {st : List Value} {sh : List SC} {M : Mem} {n1 n2 : Nat} {v0 v1 v2 v3 v4 v5 v6 v7 : Option Value} (h : WP k Q pc [v0, v1, v2, v3, v4, v5, v6, none] st sh M n1 n2) : WP k Q pc [v0, v1, v2, v3, v4, v5, v6, v7] st sh M n1 n2 := WP_dropI (i := 7) h
theorem d_9_0 {k : MT} {Q : Po} {pc : Nat} {st : List Value} {sh : List SC} {M : Mem} {n1 n2 : Nat} {v0 v1 v2 v3 v4 v5 v6 v7 v8 : Option Value} (h : WP k Q pc [none, v1, v2, v3, v4, v5, v6, v7, v8] st sh M n1 n2) : WP k Q pc [v0, v1, v2, v3, v4, v5, v6, v7, v8] st sh M n1 n2 := WP_dropI (i := 0) h
theorem d_9_1 {k : MT} {Q : Po} {pc : Nat} {st : List Value} {sh : List SC} {M : Mem} {n1 n2 : Nat} {v0 v1 v2 v3 v4 v5 v6 v7 v8 : Option Value} (h : WP k Q pc [v0, none, v2, v3, v4, v5, v6, v7, v8] st sh M n1 n2) : WP k Q pc [v0, v1, v2, v3, v4, v5, v6, v7, v8] st sh M n1 n2 := WP_dropI (i := 1) h
theorem d_9_2 {k : MT} {Q : Po} {pc : Nat} {st : List Value} {sh : List SC} {M : Mem} {n1 n2 : Nat} {v0 v1 v2 v3 v4 v5 v6 v7 v8 : Option Value} (h : WP k Q pc [v0, v1, none, v3, v4, v5, v6, v7, v8] st sh M n1 n2) : WP k Q pc [v0, v1, v2, v3, v4, v5, v6, v7, v8] st sh M n1 n2 := WP_dropI (i := 2) h
theorem d_9_3 {k : MT} {Q : Po} {pc : Nat} {st : List Value} {sh : List SC} {M : Mem} {n1 n2 : Nat} {v0 v1 v2 v3 v4 v5 v6 v7 v8 : Option Value} (h : WP k Q pc [v0, v1, v2, none, v4, v5, v6, v7, v8] st sh M n1 n2) : WP k Q pc [v0, v1, v2, v3, v4, v5, v6, v7, v8] st sh M n1 n2 := WP_dropI (i := 3) h
theorem d_10_0 {k : MT} {Q : Po} {pc : Nat} {st : List Value} {sh : List SC} {M : Mem} {n1 n2 : Nat} {v0 v1 v2 v3 v4 v5 v6 v7 v8 v9 : Option Value} (h : WP k Q pc [none, v1, v2, v3, v4, v5, v6, v7, v8, v9] st sh M n1 n2) : WP k Q pc [v0, v1, v2, v3, v4, v5, v6, v7, v8, v9] st sh M n1 n2 := WP_dropI (i := 0) h
theorem d_10_1 {k : MT} {Q : Po} {pc : Nat} {st : List Value} {sh : List SC} {M : Mem} {n1 n2 : Nat} {v0 v1 v2 v3 v4 v5 v6 v7 v8 v9 : Option Value} (h : WP k Q pc [v0, none, v2, v3, v4, v5, v6, v7, v8, v9] st sh M n1 n2) : WP k Q pc [v0, v1, v2, v3, v4, v5, v6, v7, v8, v9] st sh M n1 n2 := WP_dropI (i := 1) h
theorem d_10_2 {k : MT} {Q : Po} {pc : Nat} {st : List Value} {sh : List SC} {M : Mem} {n1 n2 : Nat} {v0 v1 v2 v3 v4 v5 v6 v7 v8 v9 : Option Value} (h : WP k Q pc [v0, v1, none, v3, v4, v5, v6, v7, v8, v9] st sh M n1 n2) : WP k Q pc [v0, v1, v2, v3, v4, v5, v6, v7, v8, v9] st sh M n1 n2 := WP_dropI (i := 2) h
theorem d_10_3 {k : MT} {Q : Po} {pc : Nat} {st : List Value} {sh : List SC} {M : Mem} {n1 n2 : Nat} {v0 v1 v2 v3 v4 v5 v6 v7 v8 v9 : Option Value} (h : WP k Q pc [v0, v1, v2, none, v4, v5, v6, v7, v8, v9] st sh M n1 n2) : WP k Q pc [v0, v1, v2, v3, v4, v5, v6, v7, v8, v9] st sh M n1 n2 := WP_dropI (i := 3) h
theorem d_10_4 {k : MT} {Q : Po} {pc : Nat} {st : List Value} {sh : List SC} {M : Mem} {n1 n2 : Nat} {v0 v1 v2 v3 v4 v5 v6 v7 v8 v9 : Option Value} (h : WP k Q pc [v0, v1, v2, v3, none, v5, v6, v7, v8, v9] st sh M n1 n2) : WP k Q pc [v0, v1, v2, v3, v4, v5, v6, v7, v8, v9] st sh M n1 n2 := WP_dropI (i := 4) h
theorem d_10_5 {k : MT} {Q : Po} {pc : Nat} {st : List Value} {sh : List SC} {M : Mem} {n1 n2 : Nat} {v0 v1 v2 v3 v4 v5 v6 v7 v8 v9 : Option Value} (h : WP k Q pc [v0, v1, v2, v3, v4, none, v6, v7, v8, v9] st sh M n1 n2) : WP k Q pc [v0, v1, v2, v3, v4, v5, v6, v7, v8, v9] st sh M n1 n2 := WP_dropI (i := 5) h
theorem d_10_6 {k : MT} {Q : Po} {pc : Nat} {st : List Value} {sh : List SC} {M : Mem} {n1 n2 : Nat} {v0 v1 v2 v3 v4 v5 v6 v7 v8 v9 : Option Value} (h : WP k Q pc [v0, v1, v2, v3, v4, v5, none, v7, v8, v9] st sh M n1 n2) : WP k Q pc [v0, v1, v2, v3, v4, v5, v6, v7, v8, v9] st sh M n1 n2 := WP_dropI (i := 6) h
theorem d_10_7 {k : MT} {Q : Po} {pc : Nat} {st : List Value} {sh : List SC} {M : Mem} {n1 n2 : Nat} {v0 v1 v2 v3 v4 v5 v6 v7 v8 v9 : Option Value} (h : WP k Q pc [v0, v1, v2, v3, v4, v5, v6, none, v8, v9] st sh M n1 n2) : WP k Q pc [v0, v1, v2, v3, v4, v5, v6, v7, v8, v9] st sh M n1 n2 := WP_dropI (i := 7) h
theorem d_10_8 {k : MT} {Q : Po} {pc : Nat} {st : List Value} {sh : List SC} {M : Mem} {n1 n2 : Nat} {v0 v1 v2 v3 v4 v5 v6 v7 v8 v9 : Option Value} (h : WP k Q pc [v0, v1, v2, v3, v4, v5, v6, v7, none, v9] st sh M n1 n2) : WP k Q pc [v0, v1, v2, v3, v4, v5, v6, v7, v8, v9] st sh M n1 n2 := WP_dropI (i := 8) h
theorem d_10_9 {k : MT} {Q : Po} {pc : Nat} {st : List Value} {sh : List SC} {M : Mem} {n1 n2 : Nat} {v0 v1 v2 v3 v4 v5 v6 v7 v8 v9 : Option Value} (h : WP k Q pc [v0, v1, v2, v3, v4, v5, v6, v7, v8, none] st sh M n1 n2) : WP k Q pc [v0, v1, v2, v3, v4, v5, v6, v7, v8, v9] st sh M n1 n2 := WP_dropI (i := 9) h
theorem d_11_0 {k : MT} {Q : Po} {pc : Nat} {st : List Value} {sh : List SC} {M : Mem} {n1 n2 : Nat} {v0 v1 v2 v3 v4 v5 v6 v7 v8 v9 v10 : Option Value} (h : WP k Q pc [none, v1, v2, v3, v4, v5, v6, v7, v8, v9, v10] st sh M n1 n2) : WP k Q pc [v0, v1, v2, v3, v4, v5, v6, v7, v8, v9, v10] st sh M n1 n2 := WP_dropI (i := 0) h
theorem d_11_1 {k : MT} {Q : Po} {pc : Nat} {st : List Value} {sh : List SC} {M : Mem} {n1 n2 : Nat} {v0 v1 v2 v3 v4 v5 v6 v7 v8 v9 v10 : Option Value} (h : WP k Q pc [v0, none, v2, v3, v4, v5, v6, v7, v8, v9, v10] st sh M n1 n2) : WP k Q pc [v0, v1, v2, v3, v4, v5, v6, v7, v8, v9, v10] st sh M n1 n2 := WP_dropI (i := 1) h
theorem d_11_2 {k : MT} {Q : Po} {pc : Nat} {st : List Value} {sh : List SC} {M : Mem} {n1 n2 : Nat} {v0 v1 v2 v3 v4 v5 v6 v7 v8 v9 v10 : Option Value} (h : WP k Q pc [v0, v1, none, v3, v4, v5, v6, v7, v8, v9, v10] st sh M n1 n2) : WP k Q pc [v0, v1, v2, v3, v4, v5, v6, v7, v8, v9, v10] st sh M n1 n2 := WP_dropI (i := 2) h
theorem d_11_3 {k : MT} {Q : Po} {pc : Nat} {st : List Value} {sh : List SC} {M : Mem} {n1 n2 : Nat} {v0 v1 v2 v3 v4 v5 v6 v7 v8 v9 v10 : Option Value} (h : WP k Q pc [v0, v1, v2, none, v4, v5, v6, v7, v8, v9, v10] st sh M n1 n2) : WP k Q pc [v0, v1, v2, v3, v4, v5, v6, v7, v8, v9, v10] st sh M n1 n2 := WP_dropI (i := 3) h
theorem d_11_4 {k : MT} {Q : Po} {pc : Nat} {st : List Value} {sh : List SC} {M : Mem} {n1 n2 : Nat} {v0 v1 v2 v3 v4 v5 v6 v7 v8 v9 v10 : Option Value} (h : WP k Q pc [v0, v1, v2, v3, none, v5, v6, v7, v8, v9, v10] st sh M n1 n2) : WP k Q pc [v0, v1, v2, v3, v4, v5, v6, v7, v8, v9, v10] st sh M n1 n2 := WP_dropI (i := 4) h
theorem d_11_5 {k : MT} {Q : Po} {pc : Nat} {st : List Value} {sh : List SC} {M : Mem} {n1 n2 : Nat} {v0 v1 v2 v3 v4 v5 v6 v7 v8 v9 v10 : Option Value} (h : WP k Q pc [v0, v1, v2, v3, v4, none, v6, v7, v8, v9, v10] st sh M n1 n2) : WP k Q pc [v0, v1, v2, v3, v4, v5, v6, v7, v8, v9, v10] st sh M n1 n2 := WP_dropI (i := 5) h
theorem d_11_6 {k : MT} {Q : Po} {pc : Nat} {st : List Value} {sh : List SC} {M : Mem} {n1 n2 : Nat} {v0 v1 v2 v3 v4 v5 v6 v7 v8 v9 v10 : Option Value} (h : WP k Q pc [v0, v1, v2, v3, v4, v5, none, v7, v8, v9, v10] st sh M n1 n2) : WP k Q pc [v0, v1, v2, v3, v4, v5, v6, v7, v8, v9, v10] st sh M n1 n2 := WP_dropI (i := 6) h
theorem d_11_7 {k : MT} {Q : Po} {pc : Nat} {st : List Value} {sh : List SC} {M : Mem} {n1 n2 : Nat} {v0 v1 v2 v3 v4 v5 v6 v7 v8 v9 v10 : Option Value} (h : WP k Q pc [v0, v1, v2, v3, v4, v5, v6, none, v8, v9, v10] st sh M n1 n2) : WP k Q pc [v0, v1, v2, v3, v4, v5, v6, v7, v8, v9, v10] st sh M n1 n2 := WP_dropI (i := 7) h
theorem d_11_8 {k : MT} {Q : Po} {pc : Nat} {st : List Value} {sh : List SC} {M : Mem} {n1 n2 : Nat} {v0 v1 v2 v3 v4 v5 v6 v7 v8 v9 v10 : Option Value} (h : WP k Q pc [v0, v1, v2, v3, v4, v5, v6, v7, none, v9, v10] st sh M n1 n2) : WP k Q pc [v0, v1, v2, v3, v4, v5, v6, v7, v8, v9, v10] st sh M n1 n2 := WP_dropI (i := 8) h
theorem d_11_9 {k : MT} {Q : Po} {pc : Nat} {st : List Value} {sh : List SC} {M : Mem} {n1 n2 : Nat} {v0 v1 v2 v3 v4 v5 v6 v7 v8 v9 v10 : Option Value} (h : WP k Q pc [v0, v1, v2, v3, v4, v5, v6, v7, v8, none, v10] st sh M n1 n2) : WP k Q pc [v0, v1, v2, v3, v4, v5, v6, v7, v8, v9, v10] st sh M n1 n2 := WP_dropI (i := 9) h
theorem d_11_10 {k : MT} {Q : Po} {pc : Nat} {st : List Value} {sh : List SC} {M : Mem} {n1 n2 : Nat} {v0 v1 v2 v3 v4 v5 v6 v7 v8 v9 v10 : Option Value} (h : WP k Q pc [v0, v1, v2, v3, v4, v5, v6, v7, v8, v9, none] st sh M n1 n2) : WP k Q pc [v0, v1, v2, v3, v4, v5, v6, v7, v8, v9, v10] st sh M n1 n2 := WP_dropI (i := 10) h
def V_X4_pack (x1 : Int64) (x2 : Int32) (M : Mem) : Int64 := ((x1 * (32 : Int64)) + ((x2 - (97 : Int32)) + (1 : Int32)).toInt64)
theorem S_X4_pack {sh : List SC} {M : Mem} {x1 : Int64} {x2 : Int32}    : Gv m_X4_pack [.long x1, .int x2] sh M (.long (V_X4_pack x1 x2 M)) M := by
  refine Sp.of (ls := [some (.long x1), none, some (.int x2)]) (by decide +kernel) (Nat.le_of_ble_eq_true rfl) rfl ?_
  refine r_lload_n e_X4_pack_0 rfl ?_
  refine r_ldc2 e_X4_pack_1 lc_X4_104 ?_
  refine r_lmul e_X4_pack_4 ?_
  refine r_iload_n e_X4_pack_5 rfl ?_
  refine r_bipush e_X4_pack_6 bp_97 ?_
  refine r_isub e_X4_pack_8 ?_
  refine r_iconst e_X4_pack_9 ic_1 ?_
  refine r_iadd e_X4_pack_10 ?_
  refine r_i2l e_X4_pack_11 ?_
  refine r_ladd e_X4_pack_12 ?_
  refine r_lreturn e_X4_pack_13 rfl ⟨rfl, rfl⟩ ?_
  (refine ⟨?_, rfl, ?_⟩ <;> ((try unfold V_X4_pack); (try simp only []); (try rfl)))
def V_X10_at (x1 : Nat) (x2 : Int32) (n1 : Nat) (M : Mem) : Int32 := (let v0_0 : Int32 := if x2 < 0 then (0 : Int32) else (if (Int32.ofNat n1) ≤ x2 then (0 : Int32) else (M.1 x1 x2.toNatClampNeg)); v0_0)
theorem S_X10_at {sh : List SC} {M : Mem} {x1 : Nat} {x2 : Int32} {n1 : Nat}  (g1 : kd sh x1 = some (0, n1)) (g2 : n1 < 2 ^ 31) : Gv m_X10_at [.ref x1, .int x2] sh M (.int (V_X10_at x1 x2 n1 M)) M := by
  refine Sp.of (ls := [some (.ref x1), some (.int x2)]) (by decide +kernel) (Nat.le_of_ble_eq_true rfl) rfl ?_
  refine r_iload_n e_X10_at_0 rfl ?_
  obtain ⟨v0_0, e_v0_0⟩ : ∃ z : Int32, z = (if x2 < 0 then (0 : Int32) else (if (Int32.ofNat n1) ≤ x2 then (0 : Int32) else (M.1 x1 x2.toNatClampNeg))) := ⟨_, rfl⟩
  suffices j17_0 : WP m_X10_at (fun r sh' M'' => r = some (.int (V_X10_at x1 x2 n1 M)) ∧ sh' = sh ∧ M'' = M) 17 [some (.ref x1), some (.int x2)] [.int v0_0] sh M 0 0 by
    refine r_if_lt e_X10_at_1 (fun h1_0 => ?_) (fun h1_0 => ?_)
    · refine r_iconst e_X10_at_16 ic_0 ?_
      (rw [show v0_0 = (0 : Int32) from (e_v0_0.trans (if_pos h1_0))] at j17_0; exact j17_0)
    · refine r_iload_n e_X10_at_4 rfl ?_
      refine r_aload_n e_X10_at_5 rfl ?_
      refine r_alen (v := (Int32.ofNat n1)) e_X10_at_6 g1 (by decide) rfl ?_
      refine r_icmp_ge e_X10_at_7 (fun h7_1 => ?_) (fun h7_1 => ?_)
      · refine r_iconst e_X10_at_16 ic_0 ?_
        (rw [show v0_0 = (0 : Int32) from ((e_v0_0.trans (if_neg h1_0)).trans (if_pos h7_1))] at j17_0; exact j17_0)
      · refine r_aload_n e_X10_at_10 rfl ?_
        refine r_iload_n e_X10_at_11 rfl ?_
        refine r_iaload e_X10_at_12 g1 (vp_guard h1_0 h7_1 (by with_reducible assumption)) ?_
        refine r_goto e_X10_at_13 ?_
        (rw [show v0_0 = (M.1 x1 x2.toNatClampNeg) from ((e_v0_0.trans (if_neg h1_0)).trans (if_neg h7_1))] at j17_0; exact j17_0)
  refine r_ireturn e_X10_at_17 rfl ⟨rfl, rfl⟩ ?_
  (subst e_v0_0; refine ⟨?_, rfl, ?_⟩ <;> ((try unfold V_X10_at); (try simp only []); (try rfl)))
def V_X10_finding (x1 : Int32) (M : Mem) : Int32 := if ((-1001 : Int32) - x1) < 0 then x1 else (if (5 : Int32) ≤ ((-1001 : Int32) - x1) then x1 else x1)
def U_X10_finding (x1 : Int32) (M : Mem) : Mem := if ((-1001 : Int32) - x1) < 0 then M else (if (5 : Int32) ≤ ((-1001 : Int32) - x1) then M else (setI M 1 ((-1001 : Int32) - x1).toNatClampNeg ((M.1 1 ((-1001 : Int32) - x1).toNatClampNeg) + (1 : Int32))))
theorem S_X10_finding {sh : List SC} {M : Mem} {x1 : Int32}  (hb1 : PitchAt sh)  : Gv m_X10_finding [.ref 0, .int x1] sh M (.int (V_X10_finding x1 M)) (U_X10_finding x1 M) := by
  refine Sp.of (ls := [some (.ref 0), some (.int x1), none]) (by decide +kernel) (Nat.le_of_ble_eq_true rfl) rfl ?_
  have k0 : kd sh 0 = some (9 + 7, 0) := hb1.1
  have k1 : rf sh 0 0 = some 1 := hb1.2.1
  have k2 : kd sh 1 = some (0, 5) := hb1.2.2.2.2.2.2.2.2.2.2.1
  refine r_sipush e_X10_finding_0 sp_m1001 ?_
  refine r_iload_n e_X10_finding_3 rfl ?_
  refine r_isub e_X10_finding_4 ?_
  refine p_istore_n_3_2 e_X10_finding_5 rfl rfl ?_
  refine r_iload_n e_X10_finding_6 rfl ?_
  refine r_if_lt e_X10_finding_7 (fun h7_0 => ?_) (fun h7_0 => ?_)
  · refine r_iload_n e_X10_finding_29 rfl ?_
    refine r_ireturn e_X10_finding_30 rfl ⟨rfl, rfl⟩ ?_
    (refine ⟨?_, rfl, ?_⟩ <;> ((try unfold V_X10_finding); (try unfold U_X10_finding); (try simp only [if_pos h7_0]); (try rfl)))
  · refine r_iload_n e_X10_finding_10 rfl ?_
    refine r_aload_n e_X10_finding_11 rfl ?_
    refine r_getR e_X10_finding_12 fl_X10_9 k0 k1 ?_
    refine r_alen (v := (5 : Int32)) e_X10_finding_15 k2 (by decide) rfl ?_
    refine r_icmp_ge e_X10_finding_16 (fun h16_1 => ?_) (fun h16_1 => ?_)
    · refine r_iload_n e_X10_finding_29 rfl ?_
      refine r_ireturn e_X10_finding_30 rfl ⟨rfl, rfl⟩ ?_
      (refine ⟨?_, rfl, ?_⟩ <;> ((try unfold V_X10_finding); (try unfold U_X10_finding); (try simp only [if_neg h7_0, if_pos h16_1]); (try rfl)))
    · refine r_aload_n e_X10_finding_19 rfl ?_
      refine r_getR e_X10_finding_20 fl_X10_9 k0 k1 ?_
      refine r_iload_n e_X10_finding_23 rfl ?_
      refine r_dup2 e_X10_finding_24 rfl rfl ?_
      refine r_iaload e_X10_finding_25 k2 (vp_guard h7_0 h16_1 (by decide)) ?_
      refine r_iconst e_X10_finding_26 ic_1 ?_
      refine r_iadd e_X10_finding_27 ?_
      refine r_iastore e_X10_finding_28 k2 (vp_guard h7_0 h16_1 (by decide)) ?_
      refine r_iload_n e_X10_finding_29 rfl ?_
      refine r_ireturn e_X10_finding_30 rfl ⟨rfl, rfl⟩ ?_
      (refine ⟨?_, rfl, ?_⟩ <;> ((try unfold V_X10_finding); (try unfold U_X10_finding); (try simp only [if_neg h7_0, if_neg h16_1]); (try rfl)))
def V_X4_length (a : Nat) (M : Mem) : Int32 := (M.1 a 5)
theorem S_X4_length {sh : List SC} {M : Mem} {a : Nat}  (hb1 : ReaderAt sh a)  : Gv m_X4_length [.ref a] sh M (.int (V_X4_length a M)) M := by
  refine Sp.of (ls := [some (.ref a)]) (by decide +kernel) (Nat.le_of_ble_eq_true rfl) rfl ?_
  have k0 : kd sh a = some (4 + 7, 0) := hb1.1
  refine r_aload_n e_X4_length_0 rfl ?_
  refine r_getI e_X4_length_1 fl_X4_30 i0 k0 ?_
  refine r_ireturn e_X4_length_4 rfl ⟨rfl, rfl⟩ ?_
  (refine ⟨?_, rfl, ?_⟩ <;> ((try unfold V_X4_length); (try simp only []); (try rfl)))
def U_X3_clear (a : Nat) (M : Mem) : Mem := setI (setI (setI (setI (setI (setI M a 0 (0 : Int32)) a 3 (0 : Int32)) a 6 (0 : Int32)) a 9 (0 : Int32)) a 13 (0 : Int32)) a 15 (0 : Int32)
theorem S_X3_clear {sh : List SC} {M : Mem} {a : Nat}  (hb1 : ProgramAt sh a)  : Gu m_X3_clear [.ref a] sh M (U_X3_clear a M) := by
  refine Sp.of (ls := [some (.ref a)]) (by decide +kernel) (Nat.le_of_ble_eq_true rfl) rfl ?_
  have k0 : kd sh a = some (3 + 7, 0) := hb1.1
  refine r_aload_n e_X3_clear_0 rfl ?_
  refine r_iconst e_X3_clear_1 ic_0 ?_
  refine r_putI e_X3_clear_2 fl_X3_9 k0 ?_
  refine r_aload_n e_X3_clear_5 rfl ?_
  refine r_iconst e_X3_clear_6 ic_0 ?_
  refine r_putI e_X3_clear_7 fl_X3_23 k0 ?_
  refine r_aload_n e_X3_clear_10 rfl ?_
  refine r_iconst e_X3_clear_11 ic_0 ?_
  refine r_putI e_X3_clear_12 fl_X3_32 k0 ?_
  refine r_aload_n e_X3_clear_15 rfl ?_
  refine r_iconst e_X3_clear_16 ic_0 ?_
  refine r_putI e_X3_clear_17 fl_X3_41 k0 ?_
  refine r_aload_n e_X3_clear_20 rfl ?_
  refine r_iconst e_X3_clear_21 ic_0 ?_
  refine r_putI e_X3_clear_22 fl_X3_53 k0 ?_
  refine r_aload_n e_X3_clear_25 rfl ?_
  refine r_iconst e_X3_clear_26 ic_0 ?_
  refine r_putI e_X3_clear_27 fl_X3_59 k0 ?_
  refine r_return e_X3_clear_30 rfl ⟨rfl, rfl⟩ ?_
  (refine ⟨?_, rfl, ?_⟩ <;> ((try unfold U_X3_clear); (try simp only []); (try rfl)))
def V_X4_isLetter (x1 : Int32) (M : Mem) : Int32 := (let v0_0 : Int32 := if x1 < (97 : Int32) then (0 : Int32) else (if (122 : Int32) < x1 then (0 : Int32) else (1 : Int32)); v0_0)
theorem Z_X4_isLetter {M : Mem} {x1 : Int32}   : V_X4_isLetter x1 M = 0 ∨ V_X4_isLetter x1 M = 1 := (zi (Or.inl rfl) (zi (Or.inl rfl) (Or.inr rfl)))
theorem S_X4_isLetter {sh : List SC} {M : Mem} {x1 : Int32}    : Gv m_X4_isLetter [.int x1] sh M (.int (V_X4_isLetter x1 M)) M := by
  refine Sp.of (ls := [some (.int x1)]) (by decide +kernel) (Nat.le_of_ble_eq_true rfl) rfl ?_
  refine r_iload_n e_X4_isLetter_0 rfl ?_
  refine r_bipush e_X4_isLetter_1 bp_97 ?_
  obtain ⟨v0_0, e_v0_0⟩ : ∃ z : Int32, z = (if x1 < (97 : Int32) then (0 : Int32) else (if (122 : Int32) < x1 then (0 : Int32) else (1 : Int32))) := ⟨_, rfl⟩
  have z_v0_0 : v0_0 = 0 ∨ v0_0 = 1 := by rw [e_v0_0]; exact (zi (Or.inl rfl) (zi (Or.inl rfl) (Or.inr rfl)))
  suffices j17_0 : WP m_X4_isLetter (fun r sh' M'' => r = some (.int (V_X4_isLetter x1 M)) ∧ sh' = sh ∧ M'' = M) 17 [some (.int x1)] [.int v0_0] sh M 0 0 by
    refine r_icmp_lt e_X4_isLetter_3 (fun h3_0 => ?_) (fun h3_0 => ?_)
    · refine r_iconst e_X4_isLetter_16 ic_0 ?_
      (rw [show v0_0 = (0 : Int32) from (e_v0_0.trans (if_pos h3_0))] at j17_0; exact j17_0)
    · refine r_iload_n e_X4_isLetter_6 rfl ?_
      refine r_bipush e_X4_isLetter_7 bp_122 ?_
      refine r_icmp_gt e_X4_isLetter_9 (fun h9_1 => ?_) (fun h9_1 => ?_)
      · refine r_iconst e_X4_isLetter_16 ic_0 ?_
        (rw [show v0_0 = (0 : Int32) from ((e_v0_0.trans (if_neg h3_0)).trans (if_pos h9_1))] at j17_0; exact j17_0)
      · refine r_iconst e_X4_isLetter_12 ic_1 ?_
        refine r_goto e_X4_isLetter_13 ?_
        (rw [show v0_0 = (1 : Int32) from ((e_v0_0.trans (if_neg h3_0)).trans (if_neg h9_1))] at j17_0; exact j17_0)
  refine r_zreturn e_X4_isLetter_17 rfl ⟨rfl, rfl⟩ z_v0_0 ?_
  (subst e_v0_0; refine ⟨?_, rfl, ?_⟩ <;> ((try unfold V_X4_isLetter); (try simp only []); (try rfl)))
def FV_X4_kindOf_2 (a : Nat) (x1 : Int64) : Nat → Nat → Mem → Int32
  | 0, i2, M => (26 : Int32)
  | n + 1, i2, M => if (lg_cmp (M.2 (a + 2) i2) x1) = 0 then (nI i2) else (FV_X4_kindOf_2 a x1 n (i2 + 1) M)
theorem L_X4_kindOf_2 {sh : List SC} {Q : Po} {a : Nat} {x1 : Int64}    (hb1 : ReaderAt sh a)   : ∀ (n i2 : Nat) (M : Mem), i2 + n = 25 → Q (some (.int (FV_X4_kindOf_2 a x1 n i2 M))) sh M → WP m_X4_kindOf Q 2 [some (.ref a), some (.long x1), none, some (.int (nI i2))] [] sh M 0 0 := by
  have k0 : kd sh a = some (4 + 7, 0) := hb1.1
  have k1 : rf sh a 1 = some (a + 2) := hb1.2.2.1
  have k2 : kd sh (a + 2) = some (1, 25) := hb1.2.2.2.2.2.2.2.1
  intro n
  induction n with
  | zero =>
    intro i2 M hi hq
    have hz : (25 : Int32) ≤ nI i2 := by
      have q : i2 = 25 := by omega
      rw [q]; exact nI_le (Nat.le_refl _) (by decide)
    refine r_iload_n e_X4_kindOf_2 rfl ?_
    refine r_aload_n e_X4_kindOf_3 rfl ?_
    refine r_getR e_X4_kindOf_4 fl_X4_17 k0 k1 ?_
    refine r_alen (v := (25 : Int32)) e_X4_kindOf_7 k2 (by decide) rfl ?_
    refine r_icmp_ge e_X4_kindOf_8 (fun _ => ?_) (fun hh => absurd hz hh)
    refine r_bipush e_X4_kindOf_30 bp_26 ?_
    refine r_ireturn e_X4_kindOf_32 rfl ⟨rfl, rfl⟩ ?_
    (simp only [FV_X4_kindOf_2] at hq; first | exact hq | (simp only []; exact hq))
  | succ n ih =>
    intro i2 M hi hq
    have hlt_i2 : i2 < 25 := by omega
    have hcl_i2 : (nI i2).toNatClampNeg = i2 := nI_clamp (by omega)
    have hs : ¬ (25 : Int32) ≤ nI i2 := nI_ge (b := 25) hlt_i2 (by decide)
    refine r_iload_n e_X4_kindOf_2 rfl ?_
    refine r_aload_n e_X4_kindOf_3 rfl ?_
    refine r_getR e_X4_kindOf_4 fl_X4_17 k0 k1 ?_
    refine r_alen (v := (25 : Int32)) e_X4_kindOf_7 k2 (by decide) rfl ?_
    refine r_icmp_ge e_X4_kindOf_8 (fun hh => absurd hh hs) (fun _ => ?_)
    refine r_aload_n e_X4_kindOf_11 rfl ?_
    refine r_getR e_X4_kindOf_12 fl_X4_17 k0 k1 ?_
    refine r_iload_n e_X4_kindOf_15 rfl ?_
    refine r_laloade (v := (M.2 (a + 2) i2)) e_X4_kindOf_16 k2 (vp_in_nI (Nat.lt_of_lt_of_le hlt_i2 (by decide)) (by decide)) (by rw [hcl_i2]) ?_
    refine r_lload_n e_X4_kindOf_17 rfl ?_
    refine r_lcmp e_X4_kindOf_18 ?_
    refine r_if_ne e_X4_kindOf_19 (fun h19_200 => ?_) (fun h19_200 => ?_)
    · refine p_iinc_4_3 e_X4_kindOf_24 rfl ic_1 rfl ?_
      rw [nI_1 i2]
      refine r_goto e_X4_kindOf_27 ?_
      (simp only [FV_X4_kindOf_2, if_neg h19_200] at hq; first | exact ih (i2 + 1) _ (by omega) hq | (simp only [if_neg h19_200]; exact ih (i2 + 1) _ (by omega) hq))
    · refine r_iload_n e_X4_kindOf_22 rfl ?_
      refine r_ireturn e_X4_kindOf_23 rfl ⟨rfl, rfl⟩ ?_
      (simp only [FV_X4_kindOf_2, if_pos h19_200] at hq; first | exact hq | (simp only [if_pos h19_200]; exact hq))
def V_X4_kindOf (a : Nat) (x1 : Int64) (M : Mem) : Int32 := (FV_X4_kindOf_2 a x1 25 0 M)
theorem S_X4_kindOf {sh : List SC} {M : Mem} {a : Nat} {x1 : Int64}  (hb1 : ReaderAt sh a)  : Gv m_X4_kindOf [.ref a, .long x1] sh M (.int (V_X4_kindOf a x1 M)) M := by
  refine Sp.of (ls := [some (.ref a), some (.long x1), none, none]) (by decide +kernel) (Nat.le_of_ble_eq_true rfl) rfl ?_
  refine r_iconst e_X4_kindOf_0 ic_0 ?_
  refine p_istore_n_4_3 e_X4_kindOf_1 rfl rfl ?_
  skip
  show WP m_X4_kindOf _ 2 [some (.ref a), some (.long x1), none, some (.int (nI 0))] [] sh M 0 0
  refine L_X4_kindOf_2 hb1 25 0  M (by omega) ?_
  (refine ⟨?_, rfl, ?_⟩ <;> ((try unfold V_X4_kindOf); (try simp only []); (try rfl)))
def V_X4_isFigure (x1 : Int32) (M : Mem) : Int32 := (let v0_0 : Int32 := if x1 < (48 : Int32) then (0 : Int32) else (if (57 : Int32) < x1 then (0 : Int32) else (1 : Int32)); v0_0)
theorem Z_X4_isFigure {M : Mem} {x1 : Int32}   : V_X4_isFigure x1 M = 0 ∨ V_X4_isFigure x1 M = 1 := (zi (Or.inl rfl) (zi (Or.inl rfl) (Or.inr rfl)))
theorem S_X4_isFigure {sh : List SC} {M : Mem} {x1 : Int32}    : Gv m_X4_isFigure [.int x1] sh M (.int (V_X4_isFigure x1 M)) M := by
  refine Sp.of (ls := [some (.int x1)]) (by decide +kernel) (Nat.le_of_ble_eq_true rfl) rfl ?_
  refine r_iload_n e_X4_isFigure_0 rfl ?_
  refine r_bipush e_X4_isFigure_1 bp_48 ?_
  obtain ⟨v0_0, e_v0_0⟩ : ∃ z : Int32, z = (if x1 < (48 : Int32) then (0 : Int32) else (if (57 : Int32) < x1 then (0 : Int32) else (1 : Int32))) := ⟨_, rfl⟩
  have z_v0_0 : v0_0 = 0 ∨ v0_0 = 1 := by rw [e_v0_0]; exact (zi (Or.inl rfl) (zi (Or.inl rfl) (Or.inr rfl)))
  suffices j17_0 : WP m_X4_isFigure (fun r sh' M'' => r = some (.int (V_X4_isFigure x1 M)) ∧ sh' = sh ∧ M'' = M) 17 [some (.int x1)] [.int v0_0] sh M 0 0 by
    refine r_icmp_lt e_X4_isFigure_3 (fun h3_0 => ?_) (fun h3_0 => ?_)
    · refine r_iconst e_X4_isFigure_16 ic_0 ?_
      (rw [show v0_0 = (0 : Int32) from (e_v0_0.trans (if_pos h3_0))] at j17_0; exact j17_0)
    · refine r_iload_n e_X4_isFigure_6 rfl ?_
      refine r_bipush e_X4_isFigure_7 bp_57 ?_
      refine r_icmp_gt e_X4_isFigure_9 (fun h9_1 => ?_) (fun h9_1 => ?_)
      · refine r_iconst e_X4_isFigure_16 ic_0 ?_
        (rw [show v0_0 = (0 : Int32) from ((e_v0_0.trans (if_neg h3_0)).trans (if_pos h9_1))] at j17_0; exact j17_0)
      · refine r_iconst e_X4_isFigure_12 ic_1 ?_
        refine r_goto e_X4_isFigure_13 ?_
        (rw [show v0_0 = (1 : Int32) from ((e_v0_0.trans (if_neg h3_0)).trans (if_neg h9_1))] at j17_0; exact j17_0)
  refine r_zreturn e_X4_isFigure_17 rfl ⟨rfl, rfl⟩ z_v0_0 ?_
  (subst e_v0_0; refine ⟨?_, rfl, ?_⟩ <;> ((try unfold V_X4_isFigure); (try simp only []); (try rfl)))
def V_X4_isBlank (x1 : Int32) (M : Mem) : Int32 := (let v0_0 : Int32 := if x1 = (32 : Int32) then (1 : Int32) else (if x1 = (10 : Int32) then (1 : Int32) else (0 : Int32)); v0_0)
theorem Z_X4_isBlank {M : Mem} {x1 : Int32}   : V_X4_isBlank x1 M = 0 ∨ V_X4_isBlank x1 M = 1 := (zi (Or.inr rfl) (zi (Or.inr rfl) (Or.inl rfl)))
theorem S_X4_isBlank {sh : List SC} {M : Mem} {x1 : Int32}    : Gv m_X4_isBlank [.int x1] sh M (.int (V_X4_isBlank x1 M)) M := by
  refine Sp.of (ls := [some (.int x1)]) (by decide +kernel) (Nat.le_of_ble_eq_true rfl) rfl ?_
  refine r_iload_n e_X4_isBlank_0 rfl ?_
  refine r_bipush e_X4_isBlank_1 bp_32 ?_
  obtain ⟨v0_0, e_v0_0⟩ : ∃ z : Int32, z = (if x1 = (32 : Int32) then (1 : Int32) else (if x1 = (10 : Int32) then (1 : Int32) else (0 : Int32))) := ⟨_, rfl⟩
  have z_v0_0 : v0_0 = 0 ∨ v0_0 = 1 := by rw [e_v0_0]; exact (zi (Or.inr rfl) (zi (Or.inr rfl) (Or.inl rfl)))
  suffices j17_0 : WP m_X4_isBlank (fun r sh' M'' => r = some (.int (V_X4_isBlank x1 M)) ∧ sh' = sh ∧ M'' = M) 17 [some (.int x1)] [.int v0_0] sh M 0 0 by
    refine r_icmp_eq e_X4_isBlank_3 (fun h3_0 => ?_) (fun h3_0 => ?_)
    · refine r_iconst e_X4_isBlank_12 ic_1 ?_
      refine r_goto e_X4_isBlank_13 ?_
      (rw [show v0_0 = (1 : Int32) from (e_v0_0.trans (if_pos h3_0))] at j17_0; exact j17_0)
    · refine r_iload_n e_X4_isBlank_6 rfl ?_
      refine r_bipush e_X4_isBlank_7 bp_10 ?_
      refine r_icmp_ne e_X4_isBlank_9 (fun h9_1 => ?_) (fun h9_1 => ?_)
      · refine r_iconst e_X4_isBlank_16 ic_0 ?_
        (rw [show v0_0 = (0 : Int32) from ((e_v0_0.trans (if_neg h3_0)).trans (if_neg h9_1))] at j17_0; exact j17_0)
      · refine r_iconst e_X4_isBlank_12 ic_1 ?_
        refine r_goto e_X4_isBlank_13 ?_
        (rw [show v0_0 = (1 : Int32) from ((e_v0_0.trans (if_neg h3_0)).trans (if_pos h9_1))] at j17_0; exact j17_0)
  refine r_zreturn e_X4_isBlank_17 rfl ⟨rfl, rfl⟩ z_v0_0 ?_
  (subst e_v0_0; refine ⟨?_, rfl, ?_⟩ <;> ((try unfold V_X4_isBlank); (try simp only []); (try rfl)))
def V_X4_kind (a : Nat) (M : Mem) : Int32 := (let v0_0 : Int32 := if (M.1 a 7) < 0 then (37 : Int32) else (if (801 : Int32) ≤ (M.1 a 7) then (37 : Int32) else (M.1 (a + 3) (M.1 a 7).toNatClampNeg)); v0_0)
theorem S_X4_kind {sh : List SC} {M : Mem} {a : Nat}  (hb1 : ReaderAt sh a)  : Gv m_X4_kind [.ref a] sh M (.int (V_X4_kind a M)) M := by
  refine Sp.of (ls := [some (.ref a)]) (by decide +kernel) (Nat.le_of_ble_eq_true rfl) rfl ?_
  have k0 : kd sh a = some (4 + 7, 0) := hb1.1
  have k1 : rf sh a 2 = some (a + 3) := hb1.2.2.2.1
  have k2 : kd sh (a + 3) = some (0, 801) := hb1.2.2.2.2.2.2.2.2.1
  refine r_aload_n e_X4_kind_0 rfl ?_
  refine r_getI e_X4_kind_1 fl_X4_37 i0 k0 ?_
  obtain ⟨v0_0, e_v0_0⟩ : ∃ z : Int32, z = (if (M.1 a 7) < 0 then (37 : Int32) else (if (801 : Int32) ≤ (M.1 a 7) then (37 : Int32) else (M.1 (a + 3) (M.1 a 7).toNatClampNeg))) := ⟨_, rfl⟩
  suffices j33_0 : WP m_X4_kind (fun r sh' M'' => r = some (.int (V_X4_kind a M)) ∧ sh' = sh ∧ M'' = M) 33 [some (.ref a)] [.int v0_0] sh M 0 0 by
    refine r_if_lt e_X4_kind_4 (fun h4_0 => ?_) (fun h4_0 => ?_)
    · refine r_bipush e_X4_kind_31 bp_37 ?_
      (rw [show v0_0 = (37 : Int32) from (e_v0_0.trans (if_pos h4_0))] at j33_0; exact j33_0)
    · refine r_aload_n e_X4_kind_7 rfl ?_
      refine r_getI e_X4_kind_8 fl_X4_37 i0 k0 ?_
      refine r_aload_n e_X4_kind_11 rfl ?_
      refine r_getR e_X4_kind_12 fl_X4_21 k0 k1 ?_
      refine r_alen (v := (801 : Int32)) e_X4_kind_15 k2 (by decide) rfl ?_
      refine r_icmp_ge e_X4_kind_16 (fun h16_1 => ?_) (fun h16_1 => ?_)
      · refine r_bipush e_X4_kind_31 bp_37 ?_
        (rw [show v0_0 = (37 : Int32) from ((e_v0_0.trans (if_neg h4_0)).trans (if_pos h16_1))] at j33_0; exact j33_0)
      · refine r_aload_n e_X4_kind_19 rfl ?_
        refine r_getR e_X4_kind_20 fl_X4_21 k0 k1 ?_
        refine r_aload_n e_X4_kind_23 rfl ?_
        refine r_getI e_X4_kind_24 fl_X4_37 i0 k0 ?_
        refine r_iaload e_X4_kind_27 k2 (vp_guard h4_0 h16_1 (by decide)) ?_
        refine r_goto e_X4_kind_28 ?_
        (rw [show v0_0 = (M.1 (a + 3) (M.1 a 7).toNatClampNeg) from ((e_v0_0.trans (if_neg h4_0)).trans (if_neg h16_1))] at j33_0; exact j33_0)
  refine r_ireturn e_X4_kind_33 rfl ⟨rfl, rfl⟩ ?_
  (subst e_v0_0; refine ⟨?_, rfl, ?_⟩ <;> ((try unfold V_X4_kind); (try simp only []); (try rfl)))
def U_X4_refuse (a : Nat) (M : Mem) : Mem := (let M0_0 : Mem := if 0 ≤ (M.1 a 9) then M else (if (M.1 a 7) < 0 then M else (if (801 : Int32) ≤ (M.1 a 7) then M else (setI M a 9 (M.1 (a + 5) (M.1 a 7).toNatClampNeg)))); M0_0)
theorem S_X4_refuse {sh : List SC} {M : Mem} {a : Nat}  (hb1 : ReaderAt sh a)  : Gu m_X4_refuse [.ref a] sh M (U_X4_refuse a M) := by
  refine Sp.of (ls := [some (.ref a)]) (by decide +kernel) (Nat.le_of_ble_eq_true rfl) rfl ?_
  have k0 : kd sh a = some (4 + 7, 0) := hb1.1
  have k1 : rf sh a 4 = some (a + 5) := hb1.2.2.2.2.2.1
  have k2 : kd sh (a + 5) = some (0, 801) := hb1.2.2.2.2.2.2.2.2.2.2
  refine r_aload_n e_X4_refuse_0 rfl ?_
  refine r_getI e_X4_refuse_1 fl_X4_44 i0 k0 ?_
  obtain ⟨M0_0, e_M0_0⟩ : ∃ z : Mem, z = (if 0 ≤ (M.1 a 9) then M else (if (M.1 a 7) < 0 then M else (if (801 : Int32) ≤ (M.1 a 7) then M else (setI M a 9 (M.1 (a + 5) (M.1 a 7).toNatClampNeg))))) := ⟨_, rfl⟩
  suffices j39_0 : WP m_X4_refuse (fun r sh' M'' => r = none ∧ sh' = sh ∧ M'' = (U_X4_refuse a M)) 39 [some (.ref a)] [] sh M0_0 0 0 by
    refine r_if_ge e_X4_refuse_4 (fun h4_0 => ?_) (fun h4_0 => ?_)
    · (rw [show M0_0 = M from (e_M0_0.trans (if_pos h4_0))] at j39_0; exact j39_0)
    · refine r_aload_n e_X4_refuse_7 rfl ?_
      refine r_getI e_X4_refuse_8 fl_X4_37 i0 k0 ?_
      refine r_if_lt e_X4_refuse_11 (fun h11_1 => ?_) (fun h11_1 => ?_)
      · (rw [show M0_0 = M from ((e_M0_0.trans (if_neg h4_0)).trans (if_pos h11_1))] at j39_0; exact j39_0)
      · refine r_aload_n e_X4_refuse_14 rfl ?_
        refine r_getI e_X4_refuse_15 fl_X4_37 i0 k0 ?_
        refine r_aload_n e_X4_refuse_18 rfl ?_
        refine r_getR e_X4_refuse_19 fl_X4_27 k0 k1 ?_
        refine r_alen (v := (801 : Int32)) e_X4_refuse_22 k2 (by decide) rfl ?_
        refine r_icmp_ge e_X4_refuse_23 (fun h23_2 => ?_) (fun h23_2 => ?_)
        · (rw [show M0_0 = M from (((e_M0_0.trans (if_neg h4_0)).trans (if_neg h11_1)).trans (if_pos h23_2))] at j39_0; exact j39_0)
        · refine r_aload_n e_X4_refuse_26 rfl ?_
          refine r_aload_n e_X4_refuse_27 rfl ?_
          refine r_getR e_X4_refuse_28 fl_X4_27 k0 k1 ?_
          refine r_aload_n e_X4_refuse_31 rfl ?_
          refine r_getI e_X4_refuse_32 fl_X4_37 i0 k0 ?_
          refine r_iaload e_X4_refuse_35 k2 (vp_guard h11_1 h23_2 (by decide)) ?_
          refine r_putI e_X4_refuse_36 fl_X4_44 k0 ?_
          (rw [show M0_0 = setI M a 9 (M.1 (a + 5) (M.1 a 7).toNatClampNeg) from (((e_M0_0.trans (if_neg h4_0)).trans (if_neg h11_1)).trans (if_neg h23_2))] at j39_0; exact j39_0)
  refine r_return e_X4_refuse_39 rfl ⟨rfl, rfl⟩ ?_
  (subst e_M0_0; refine ⟨?_, rfl, ?_⟩ <;> ((try unfold U_X4_refuse); (try simp only []); (try rfl)))
def U_X10_put (x1 : Nat) (x2 : Int32) (x3 : Int32) (n1 : Nat) (M : Mem) : Mem := (let M0_0 : Mem := if x2 < 0 then M else (if (Int32.ofNat n1) ≤ x2 then M else (setI M x1 x2.toNatClampNeg x3)); M0_0)
theorem S_X10_put {sh : List SC} {M : Mem} {x1 : Nat} {x2 : Int32} {x3 : Int32} {n1 : Nat}  (g1 : kd sh x1 = some (0, n1)) (g2 : n1 < 2 ^ 31) : Gu m_X10_put [.ref x1, .int x2, .int x3] sh M (U_X10_put x1 x2 x3 n1 M) := by
  refine Sp.of (ls := [some (.ref x1), some (.int x2), some (.int x3)]) (by decide +kernel) (Nat.le_of_ble_eq_true rfl) rfl ?_
  refine r_iload_n e_X10_put_0 rfl ?_
  obtain ⟨M0_0, e_M0_0⟩ : ∃ z : Mem, z = (if x2 < 0 then M else (if (Int32.ofNat n1) ≤ x2 then M else (setI M x1 x2.toNatClampNeg x3))) := ⟨_, rfl⟩
  suffices j14_0 : WP m_X10_put (fun r sh' M'' => r = none ∧ sh' = sh ∧ M'' = (U_X10_put x1 x2 x3 n1 M)) 14 [some (.ref x1), some (.int x2), some (.int x3)] [] sh M0_0 0 0 by
    refine r_if_lt e_X10_put_1 (fun h1_0 => ?_) (fun h1_0 => ?_)
    · (rw [show M0_0 = M from (e_M0_0.trans (if_pos h1_0))] at j14_0; exact j14_0)
    · refine r_iload_n e_X10_put_4 rfl ?_
      refine r_aload_n e_X10_put_5 rfl ?_
      refine r_alen (v := (Int32.ofNat n1)) e_X10_put_6 g1 (by decide) rfl ?_
      refine r_icmp_ge e_X10_put_7 (fun h7_1 => ?_) (fun h7_1 => ?_)
      · (rw [show M0_0 = M from ((e_M0_0.trans (if_neg h1_0)).trans (if_pos h7_1))] at j14_0; exact j14_0)
      · refine r_aload_n e_X10_put_10 rfl ?_
        refine r_iload_n e_X10_put_11 rfl ?_
        refine r_iload_n e_X10_put_12 rfl ?_
        refine r_iastore e_X10_put_13 g1 (vp_guard h1_0 h7_1 (by with_reducible assumption)) ?_
        (rw [show M0_0 = setI M x1 x2.toNatClampNeg x3 from ((e_M0_0.trans (if_neg h1_0)).trans (if_neg h7_1))] at j14_0; exact j14_0)
  refine r_return e_X10_put_14 rfl ⟨rfl, rfl⟩ ?_
  (subst e_M0_0; refine ⟨?_, rfl, ?_⟩ <;> ((try unfold U_X10_put); (try simp only []); (try rfl)))
def U_X3_closeSum (a : Nat) (M : Mem) : Mem := U_X10_put (a + 10) ((M.1 a 13) + (1 : Int32)) (M.1 a 15) 401 (setI M a 13 ((M.1 a 13) + (1 : Int32)))
theorem S_X3_closeSum {sh : List SC} {M : Mem} {a : Nat}  (hb1 : ProgramAt sh a)  : Gu m_X3_closeSum [.ref a] sh M (U_X3_closeSum a M) := by
  refine Sp.of (ls := [some (.ref a)]) (by decide +kernel) (Nat.le_of_ble_eq_true rfl) rfl ?_
  have k0 : kd sh a = some (3 + 7, 0) := hb1.1
  have k1 : rf sh a 14 = some (a + 10) := hb1.2.2.2.2.2.2.2.2.2.2.1
  have k2 : kd sh (a + 10) = some (0, 401) := hb1.2.2.2.2.2.2.2.2.2.2.2.2.2.2.2.2.2.2.2.2.2.2.2.2.1
  refine r_aload_n e_X3_closeSum_0 rfl ?_
  refine r_dup e_X3_closeSum_1 rfl ?_
  refine r_getI e_X3_closeSum_2 fl_X3_53 i0 k0 ?_
  refine r_iconst e_X3_closeSum_5 ic_1 ?_
  refine r_iadd e_X3_closeSum_6 ?_
  refine r_putI e_X3_closeSum_7 fl_X3_53 k0 ?_
  refine r_aload_n e_X3_closeSum_10 rfl ?_
  refine r_getR e_X3_closeSum_11 fl_X3_56 k0 k1 ?_
  refine r_aload_n e_X3_closeSum_14 rfl ?_
  refine r_getIe e_X3_closeSum_15 fl_X3_53 i0 k0 gs_eI ?_
  refine r_aload_n e_X3_closeSum_18 rfl ?_
  refine r_getIe e_X3_closeSum_19 fl_X3_59 i0 k0 (gs_nI (by decide)) ?_
  refine cSN3u e_X3_closeSum_22 cl_X3_74 ⟨Nat.le_of_ble_eq_true rfl, Nat.le_of_ble_eq_true rfl⟩ ⟨rfl, rfl⟩  (Nat.le_of_ble_eq_true rfl) (S_X10_put k2 (by first | decide | (unfold vp_in; decide) | exact Or.inl rfl | exact Or.inr rfl)) ?_
  refine r_return e_X3_closeSum_25 rfl ⟨rfl, rfl⟩ ?_
  (refine ⟨?_, rfl, ?_⟩ <;> ((try unfold U_X3_closeSum); (try simp only []); (try rfl)))
def U_X3_addTest (a : Nat) (x1 : Int32) (M : Mem) : Mem := (let Mc1 : Mem := U_X10_put (a + 6) ((U_X10_put (a + 5) (M.1 a 6) x1 400 M).1 a 6) (((U_X10_put (a + 5) (M.1 a 6) x1 400 M).1 a 13) - (2 : Int32)) 400 (U_X10_put (a + 5) (M.1 a 6) x1 400 M); setI Mc1 a 6 ((Mc1.1 a 6) + (1 : Int32)))
theorem S_X3_addTest {sh : List SC} {M : Mem} {a : Nat} {x1 : Int32}  (hb1 : ProgramAt sh a)  : Gu m_X3_addTest [.ref a, .int x1] sh M (U_X3_addTest a x1 M) := by
  refine Sp.of (ls := [some (.ref a), some (.int x1)]) (by decide +kernel) (Nat.le_of_ble_eq_true rfl) rfl ?_
  have k0 : kd sh a = some (3 + 7, 0) := hb1.1
  have k1 : rf sh a 7 = some (a + 5) := hb1.2.2.2.2.2.1
  have k2 : kd sh (a + 5) = some (0, 400) := hb1.2.2.2.2.2.2.2.2.2.2.2.2.2.2.2.2.2.2.2.1
  have k3 : rf sh a 8 = some (a + 6) := hb1.2.2.2.2.2.2.1
  have k4 : kd sh (a + 6) = some (0, 400) := hb1.2.2.2.2.2.2.2.2.2.2.2.2.2.2.2.2.2.2.2.2.1
  refine r_aload_n e_X3_addTest_0 rfl ?_
  refine r_getR e_X3_addTest_1 fl_X3_35 k0 k1 ?_
  refine r_aload_n e_X3_addTest_4 rfl ?_
  refine r_getI e_X3_addTest_5 fl_X3_32 i0 k0 ?_
  refine r_iload_n e_X3_addTest_8 rfl ?_
  refine cSN3u e_X3_addTest_9 cl_X3_74 ⟨Nat.le_of_ble_eq_true rfl, Nat.le_of_ble_eq_true rfl⟩ ⟨rfl, rfl⟩  (Nat.le_of_ble_eq_true rfl) (S_X10_put k2 (by first | decide | (unfold vp_in; decide) | exact Or.inl rfl | exact Or.inr rfl)) ?_
  refine r_aload_n e_X3_addTest_12 rfl ?_
  refine r_getR e_X3_addTest_13 fl_X3_38 k0 k3 ?_
  refine r_aload_n e_X3_addTest_16 rfl ?_
  refine r_getI e_X3_addTest_17 fl_X3_32 i0 k0 ?_
  refine r_aload_n e_X3_addTest_20 rfl ?_
  refine r_getI e_X3_addTest_21 fl_X3_53 i0 k0 ?_
  refine r_iconst e_X3_addTest_24 ic_2 ?_
  refine r_isub e_X3_addTest_25 ?_
  refine cSN3u e_X3_addTest_26 cl_X3_74 ⟨Nat.le_of_ble_eq_true rfl, Nat.le_of_ble_eq_true rfl⟩ ⟨rfl, rfl⟩  (Nat.le_of_ble_eq_true rfl) (S_X10_put k4 (by first | decide | (unfold vp_in; decide) | exact Or.inl rfl | exact Or.inr rfl)) ?_
  obtain ⟨Mc1, e_Mc1⟩ : ∃ z : Mem, z = (U_X10_put (a + 6) ((U_X10_put (a + 5) (M.1 a 6) x1 400 M).1 a 6) (((U_X10_put (a + 5) (M.1 a 6) x1 400 M).1 a 13) - (2 : Int32)) 400 (U_X10_put (a + 5) (M.1 a 6) x1 400 M)) := ⟨_, rfl⟩
  rw [← e_Mc1]
  refine r_aload_n e_X3_addTest_29 rfl ?_
  refine r_dup e_X3_addTest_30 rfl ?_
  refine r_getI e_X3_addTest_31 fl_X3_32 i0 k0 ?_
  refine r_iconst e_X3_addTest_34 ic_1 ?_
  refine r_iadd e_X3_addTest_35 ?_
  refine r_putI e_X3_addTest_36 fl_X3_32 k0 ?_
  refine r_return e_X3_addTest_39 rfl ⟨rfl, rfl⟩ ?_
  (subst e_Mc1; refine ⟨?_, rfl, ?_⟩ <;> ((try unfold U_X3_addTest); (try simp only []); (try rfl)))
def U_X3_closeRule (a : Nat) (M : Mem) : Mem := (let Mc1 : Mem := U_X10_put (a + 4) ((U_X10_put (a + 3) ((M.1 a 3) + (1 : Int32)) (M.1 a 6) 97 (setI M a 3 ((M.1 a 3) + (1 : Int32)))).1 a 3) ((U_X10_put (a + 3) ((M.1 a 3) + (1 : Int32)) (M.1 a 6) 97 (setI M a 3 ((M.1 a 3) + (1 : Int32)))).1 a 9) 97 (U_X10_put (a + 3) ((M.1 a 3) + (1 : Int32)) (M.1 a 6) 97 (setI M a 3 ((M.1 a 3) + (1 : Int32)))); Mc1)
theorem S_X3_closeRule {sh : List SC} {M : Mem} {a : Nat}  (hb1 : ProgramAt sh a)  : Gu m_X3_closeRule [.ref a] sh M (U_X3_closeRule a M) := by
  refine Sp.of (ls := [some (.ref a)]) (by decide +kernel) (Nat.le_of_ble_eq_true rfl) rfl ?_
  have k0 : kd sh a = some (3 + 7, 0) := hb1.1
  have k1 : rf sh a 4 = some (a + 3) := hb1.2.2.2.1
  have k2 : kd sh (a + 3) = some (0, 97) := hb1.2.2.2.2.2.2.2.2.2.2.2.2.2.2.2.2.2.1
  have k3 : rf sh a 5 = some (a + 4) := hb1.2.2.2.2.1
  have k4 : kd sh (a + 4) = some (0, 97) := hb1.2.2.2.2.2.2.2.2.2.2.2.2.2.2.2.2.2.2.1
  refine r_aload_n e_X3_closeRule_0 rfl ?_
  refine r_dup e_X3_closeRule_1 rfl ?_
  refine r_getI e_X3_closeRule_2 fl_X3_23 i0 k0 ?_
  refine r_iconst e_X3_closeRule_5 ic_1 ?_
  refine r_iadd e_X3_closeRule_6 ?_
  refine r_putI e_X3_closeRule_7 fl_X3_23 k0 ?_
  refine r_aload_n e_X3_closeRule_10 rfl ?_
  refine r_getR e_X3_closeRule_11 fl_X3_26 k0 k1 ?_
  refine r_aload_n e_X3_closeRule_14 rfl ?_
  refine r_getIe e_X3_closeRule_15 fl_X3_23 i0 k0 gs_eI ?_
  refine r_aload_n e_X3_closeRule_18 rfl ?_
  refine r_getIe e_X3_closeRule_19 fl_X3_32 i0 k0 (gs_nI (by decide)) ?_
  refine cSN3u e_X3_closeRule_22 cl_X3_74 ⟨Nat.le_of_ble_eq_true rfl, Nat.le_of_ble_eq_true rfl⟩ ⟨rfl, rfl⟩  (Nat.le_of_ble_eq_true rfl) (S_X10_put k2 (by first | decide | (unfold vp_in; decide) | exact Or.inl rfl | exact Or.inr rfl)) ?_
  refine r_aload_n e_X3_closeRule_25 rfl ?_
  refine r_getR e_X3_closeRule_26 fl_X3_29 k0 k3 ?_
  refine r_aload_n e_X3_closeRule_29 rfl ?_
  refine r_getI e_X3_closeRule_30 fl_X3_23 i0 k0 ?_
  refine r_aload_n e_X3_closeRule_33 rfl ?_
  refine r_getI e_X3_closeRule_34 fl_X3_41 i0 k0 ?_
  refine cSN3u e_X3_closeRule_37 cl_X3_74 ⟨Nat.le_of_ble_eq_true rfl, Nat.le_of_ble_eq_true rfl⟩ ⟨rfl, rfl⟩  (Nat.le_of_ble_eq_true rfl) (S_X10_put k4 (by first | decide | (unfold vp_in; decide) | exact Or.inl rfl | exact Or.inr rfl)) ?_
  obtain ⟨Mc1, e_Mc1⟩ : ∃ z : Mem, z = (U_X10_put (a + 4) ((U_X10_put (a + 3) ((M.1 a 3) + (1 : Int32)) (M.1 a 6) 97 (setI M a 3 ((M.1 a 3) + (1 : Int32)))).1 a 3) ((U_X10_put (a + 3) ((M.1 a 3) + (1 : Int32)) (M.1 a 6) 97 (setI M a 3 ((M.1 a 3) + (1 : Int32)))).1 a 9) 97 (U_X10_put (a + 3) ((M.1 a 3) + (1 : Int32)) (M.1 a 6) 97 (setI M a 3 ((M.1 a 3) + (1 : Int32))))) := ⟨_, rfl⟩
  rw [← e_Mc1]
  refine r_return e_X3_closeRule_40 rfl ⟨rfl, rfl⟩ ?_
  (subst e_Mc1; refine ⟨?_, rfl, ?_⟩ <;> ((try unfold U_X3_closeRule); (try simp only []); (try rfl)))
def U_X3_closeState (a : Nat) (M : Mem) : Mem := U_X10_put (a + 2) ((M.1 a 0) + (1 : Int32)) (M.1 a 3) 9 (setI M a 0 ((M.1 a 0) + (1 : Int32)))
theorem S_X3_closeState {sh : List SC} {M : Mem} {a : Nat}  (hb1 : ProgramAt sh a)  : Gu m_X3_closeState [.ref a] sh M (U_X3_closeState a M) := by
  refine Sp.of (ls := [some (.ref a)]) (by decide +kernel) (Nat.le_of_ble_eq_true rfl) rfl ?_
  have k0 : kd sh a = some (3 + 7, 0) := hb1.1
  have k1 : rf sh a 2 = some (a + 2) := hb1.2.2.1
  have k2 : kd sh (a + 2) = some (0, 9) := hb1.2.2.2.2.2.2.2.2.2.2.2.2.2.2.2.2.1
  refine r_aload_n e_X3_closeState_0 rfl ?_
  refine r_dup e_X3_closeState_1 rfl ?_
  refine r_getI e_X3_closeState_2 fl_X3_9 i0 k0 ?_
  refine r_iconst e_X3_closeState_5 ic_1 ?_
  refine r_iadd e_X3_closeState_6 ?_
  refine r_putI e_X3_closeState_7 fl_X3_9 k0 ?_
  refine r_aload_n e_X3_closeState_10 rfl ?_
  refine r_getR e_X3_closeState_11 fl_X3_19 k0 k1 ?_
  refine r_aload_n e_X3_closeState_14 rfl ?_
  refine r_getIe e_X3_closeState_15 fl_X3_9 i0 k0 gs_eI ?_
  refine r_aload_n e_X3_closeState_18 rfl ?_
  refine r_getIe e_X3_closeState_19 fl_X3_23 i0 k0 (gs_nI (by decide)) ?_
  refine cSN3u e_X3_closeState_22 cl_X3_74 ⟨Nat.le_of_ble_eq_true rfl, Nat.le_of_ble_eq_true rfl⟩ ⟨rfl, rfl⟩  (Nat.le_of_ble_eq_true rfl) (S_X10_put k2 (by first | decide | (unfold vp_in; decide) | exact Or.inl rfl | exact Or.inr rfl)) ?_
  refine r_return e_X3_closeState_25 rfl ⟨rfl, rfl⟩ ?_
  (refine ⟨?_, rfl, ?_⟩ <;> ((try unfold U_X3_closeState); (try simp only []); (try rfl)))
def U_X4_empty (a : Nat) (M : Mem) : Mem := setI M a 5 (0 : Int32)
theorem S_X4_empty {sh : List SC} {M : Mem} {a : Nat}  (hb1 : ReaderAt sh a)  : Gu m_X4_empty [.ref a] sh M (U_X4_empty a M) := by
  refine Sp.of (ls := [some (.ref a)]) (by decide +kernel) (Nat.le_of_ble_eq_true rfl) rfl ?_
  have k0 : kd sh a = some (4 + 7, 0) := hb1.1
  refine r_aload_n e_X4_empty_0 rfl ?_
  refine r_iconst e_X4_empty_1 ic_0 ?_
  refine r_putI e_X4_empty_2 fl_X4_30 k0 ?_
  refine r_return e_X4_empty_5 rfl ⟨rfl, rfl⟩ ?_
  (refine ⟨?_, rfl, ?_⟩ <;> ((try unfold U_X4_empty); (try simp only []); (try rfl)))
def V_X10_fault (M : Mem) : Int32 := (M.1 0 11)
theorem S_X10_fault {sh : List SC} {M : Mem}   (hb1 : PitchAt sh)  : Gv m_X10_fault [.ref 0] sh M (.int (V_X10_fault  M)) M := by
  refine Sp.of (ls := [some (.ref 0)]) (by decide +kernel) (Nat.le_of_ble_eq_true rfl) rfl ?_
  have k0 : kd sh 0 = some (9 + 7, 0) := hb1.1
  refine r_aload_n e_X10_fault_0 rfl ?_
  refine r_getI e_X10_fault_1 fl_X10_55 i0 k0 ?_
  refine r_ireturn e_X10_fault_4 rfl ⟨rfl, rfl⟩ ?_
  (refine ⟨?_, rfl, ?_⟩ <;> ((try unfold V_X10_fault); (try simp only []); (try rfl)))
def V_X10_isTeam (x1 : Int32) (M : Mem) : Int32 := (let v0_0 : Int32 := if x1 < 0 then (0 : Int32) else (if (4 : Int32) ≤ x1 then (0 : Int32) else (1 : Int32)); v0_0)
theorem Z_X10_isTeam {M : Mem} {x1 : Int32}   : V_X10_isTeam x1 M = 0 ∨ V_X10_isTeam x1 M = 1 := (zi (Or.inl rfl) (zi (Or.inl rfl) (Or.inr rfl)))
theorem S_X10_isTeam {sh : List SC} {M : Mem} {x1 : Int32}    : Gv m_X10_isTeam [.int x1] sh M (.int (V_X10_isTeam x1 M)) M := by
  refine Sp.of (ls := [some (.int x1)]) (by decide +kernel) (Nat.le_of_ble_eq_true rfl) rfl ?_
  refine r_iload_n e_X10_isTeam_0 rfl ?_
  obtain ⟨v0_0, e_v0_0⟩ : ∃ z : Int32, z = (if x1 < 0 then (0 : Int32) else (if (4 : Int32) ≤ x1 then (0 : Int32) else (1 : Int32))) := ⟨_, rfl⟩
  have z_v0_0 : v0_0 = 0 ∨ v0_0 = 1 := by rw [e_v0_0]; exact (zi (Or.inl rfl) (zi (Or.inl rfl) (Or.inr rfl)))
  suffices j14_0 : WP m_X10_isTeam (fun r sh' M'' => r = some (.int (V_X10_isTeam x1 M)) ∧ sh' = sh ∧ M'' = M) 14 [some (.int x1)] [.int v0_0] sh M 0 0 by
    refine r_if_lt e_X10_isTeam_1 (fun h1_0 => ?_) (fun h1_0 => ?_)
    · refine r_iconst e_X10_isTeam_13 ic_0 ?_
      (rw [show v0_0 = (0 : Int32) from (e_v0_0.trans (if_pos h1_0))] at j14_0; exact j14_0)
    · refine r_iload_n e_X10_isTeam_4 rfl ?_
      refine r_iconst e_X10_isTeam_5 ic_4 ?_
      refine r_icmp_ge e_X10_isTeam_6 (fun h6_1 => ?_) (fun h6_1 => ?_)
      · refine r_iconst e_X10_isTeam_13 ic_0 ?_
        (rw [show v0_0 = (0 : Int32) from ((e_v0_0.trans (if_neg h1_0)).trans (if_pos h6_1))] at j14_0; exact j14_0)
      · refine r_iconst e_X10_isTeam_9 ic_1 ?_
        refine r_goto e_X10_isTeam_10 ?_
        (rw [show v0_0 = (1 : Int32) from ((e_v0_0.trans (if_neg h1_0)).trans (if_neg h6_1))] at j14_0; exact j14_0)
  refine r_zreturn e_X10_isTeam_14 rfl ⟨rfl, rfl⟩ z_v0_0 ?_
  (subst e_v0_0; refine ⟨?_, rfl, ?_⟩ <;> ((try unfold V_X10_isTeam); (try simp only []); (try rfl)))
def V_X10_isMember (x1 : Int32) (M : Mem) : Int32 := (let v0_0 : Int32 := if x1 < 0 then (0 : Int32) else (if (5 : Int32) ≤ x1 then (0 : Int32) else (1 : Int32)); v0_0)
theorem Z_X10_isMember {M : Mem} {x1 : Int32}   : V_X10_isMember x1 M = 0 ∨ V_X10_isMember x1 M = 1 := (zi (Or.inl rfl) (zi (Or.inl rfl) (Or.inr rfl)))
theorem S_X10_isMember {sh : List SC} {M : Mem} {x1 : Int32}    : Gv m_X10_isMember [.int x1] sh M (.int (V_X10_isMember x1 M)) M := by
  refine Sp.of (ls := [some (.int x1)]) (by decide +kernel) (Nat.le_of_ble_eq_true rfl) rfl ?_
  refine r_iload_n e_X10_isMember_0 rfl ?_
  obtain ⟨v0_0, e_v0_0⟩ : ∃ z : Int32, z = (if x1 < 0 then (0 : Int32) else (if (5 : Int32) ≤ x1 then (0 : Int32) else (1 : Int32))) := ⟨_, rfl⟩
  have z_v0_0 : v0_0 = 0 ∨ v0_0 = 1 := by rw [e_v0_0]; exact (zi (Or.inl rfl) (zi (Or.inl rfl) (Or.inr rfl)))
  suffices j14_0 : WP m_X10_isMember (fun r sh' M'' => r = some (.int (V_X10_isMember x1 M)) ∧ sh' = sh ∧ M'' = M) 14 [some (.int x1)] [.int v0_0] sh M 0 0 by
    refine r_if_lt e_X10_isMember_1 (fun h1_0 => ?_) (fun h1_0 => ?_)
    · refine r_iconst e_X10_isMember_13 ic_0 ?_
      (rw [show v0_0 = (0 : Int32) from (e_v0_0.trans (if_pos h1_0))] at j14_0; exact j14_0)
    · refine r_iload_n e_X10_isMember_4 rfl ?_
      refine r_iconst e_X10_isMember_5 ic_5 ?_
      refine r_icmp_ge e_X10_isMember_6 (fun h6_1 => ?_) (fun h6_1 => ?_)
      · refine r_iconst e_X10_isMember_13 ic_0 ?_
        (rw [show v0_0 = (0 : Int32) from ((e_v0_0.trans (if_neg h1_0)).trans (if_pos h6_1))] at j14_0; exact j14_0)
      · refine r_iconst e_X10_isMember_9 ic_1 ?_
        refine r_goto e_X10_isMember_10 ?_
        (rw [show v0_0 = (1 : Int32) from ((e_v0_0.trans (if_neg h1_0)).trans (if_neg h6_1))] at j14_0; exact j14_0)
  refine r_zreturn e_X10_isMember_14 rfl ⟨rfl, rfl⟩ z_v0_0 ?_
  (subst e_v0_0; refine ⟨?_, rfl, ?_⟩ <;> ((try unfold V_X10_isMember); (try simp only []); (try rfl)))
def F_X7_clear_22 (a : Nat) : Nat → Nat → Mem → Mem
  | 0, i22, M => M
  | n + 1, i22, M => (F_X7_clear_22 a n (i22 + 1) (setI M (a + 1) i22 (0 : Int32)))
theorem L_X7_clear_22 {sh : List SC} {Q : Po} {a : Nat}    (hb1 : TallyAt sh a)   : ∀ (n i22 : Nat) (M : Mem), i22 + n = 4 → WP m_X7_clear Q 44 [some (.ref a), none] [] sh (F_X7_clear_22 a n i22 M) 0 0 → WP m_X7_clear Q 22 [some (.ref a), some (.int (nI i22))] [] sh M 0 0 := by
  have k0 : kd sh a = some (7 + 7, 0) := hb1.1
  have k1 : rf sh a 4 = some (a + 1) := hb1.2.1
  have k2 : kd sh (a + 1) = some (0, 4) := hb1.2.2.2.1
  intro n
  induction n with
  | zero =>
    intro i22 M hi hq
    have hz : (4 : Int32) ≤ nI i22 := by
      have q : i22 = 4 := by omega
      rw [q]; exact nI_le (Nat.le_refl _) (by decide)
    refine r_iload_n e_X7_clear_22 rfl ?_
    refine r_aload_n e_X7_clear_23 rfl ?_
    refine r_getR e_X7_clear_24 fl_X7_22 k0 k1 ?_
    refine r_alen (v := (4 : Int32)) e_X7_clear_27 k2 (by decide) rfl ?_
    refine r_icmp_ge e_X7_clear_28 (fun _ => ?_) (fun hh => absurd hz hh)
    refine d_2_1 ?_
    (simp only [F_X7_clear_22] at hq; first | exact hq | (simp only []; exact hq))
  | succ n ih =>
    intro i22 M hi hq
    have hlt_i22 : i22 < 4 := by omega
    have hcl_i22 : (nI i22).toNatClampNeg = i22 := nI_clamp (by omega)
    have hs : ¬ (4 : Int32) ≤ nI i22 := nI_ge (b := 4) hlt_i22 (by decide)
    refine r_iload_n e_X7_clear_22 rfl ?_
    refine r_aload_n e_X7_clear_23 rfl ?_
    refine r_getR e_X7_clear_24 fl_X7_22 k0 k1 ?_
    refine r_alen (v := (4 : Int32)) e_X7_clear_27 k2 (by decide) rfl ?_
    refine r_icmp_ge e_X7_clear_28 (fun hh => absurd hh hs) (fun _ => ?_)
    refine r_aload_n e_X7_clear_31 rfl ?_
    refine r_getR e_X7_clear_32 fl_X7_22 k0 k1 ?_
    refine r_iload_n e_X7_clear_35 rfl ?_
    refine r_iconst e_X7_clear_36 ic_0 ?_
    refine r_iastore e_X7_clear_37 k2 (vp_in_nI (Nat.lt_of_lt_of_le hlt_i22 (by decide)) (by decide)) ?_
    rw [hcl_i22]
    refine p_iinc_2_1 e_X7_clear_38 rfl ic_1 rfl ?_
    rw [nI_1 i22]
    refine r_goto e_X7_clear_41 ?_
    (simp only [F_X7_clear_22] at hq; first | exact ih (i22 + 1) _ (by omega) hq | (simp only []; exact ih (i22 + 1) _ (by omega) hq))
def U_X7_clear (a : Nat) (M : Mem) : Mem := (F_X7_clear_22 a 4 0 (setI (setI (setI (setI M a 0 (0 : Int32)) a 1 (0 : Int32)) a 2 (0 : Int32)) a 3 (0 : Int32)))
theorem S_X7_clear {sh : List SC} {M : Mem} {a : Nat}  (hb1 : TallyAt sh a)  : Gu m_X7_clear [.ref a] sh M (U_X7_clear a M) := by
  refine Sp.of (ls := [some (.ref a), none]) (by decide +kernel) (Nat.le_of_ble_eq_true rfl) rfl ?_
  have k0 : kd sh a = some (7 + 7, 0) := hb1.1
  refine r_aload_n e_X7_clear_0 rfl ?_
  refine r_iconst e_X7_clear_1 ic_0 ?_
  refine r_putI e_X7_clear_2 fl_X7_7 k0 ?_
  refine r_aload_n e_X7_clear_5 rfl ?_
  refine r_iconst e_X7_clear_6 ic_0 ?_
  refine r_putI e_X7_clear_7 fl_X7_13 k0 ?_
  refine r_aload_n e_X7_clear_10 rfl ?_
  refine r_iconst e_X7_clear_11 ic_0 ?_
  refine r_putI e_X7_clear_12 fl_X7_16 k0 ?_
  refine r_aload_n e_X7_clear_15 rfl ?_
  refine r_iconst e_X7_clear_16 ic_0 ?_
  refine r_putI e_X7_clear_17 fl_X7_19 k0 ?_
  refine r_iconst e_X7_clear_20 ic_0 ?_
  refine p_istore_n_2_1 e_X7_clear_21 rfl rfl ?_
  skip
  show WP m_X7_clear _ 22 [some (.ref a), some (.int (nI 0))] [] sh (setI (setI (setI (setI M a 0 (0 : Int32)) a 1 (0 : Int32)) a 2 (0 : Int32)) a 3 (0 : Int32)) 0 0
  refine L_X7_clear_22 hb1 4 0  (setI (setI (setI (setI M a 0 (0 : Int32)) a 1 (0 : Int32)) a 2 (0 : Int32)) a 3 (0 : Int32)) (by omega) ?_
  refine r_return e_X7_clear_44 rfl ⟨rfl, rfl⟩ ?_
  (refine ⟨?_, rfl, ?_⟩ <;> ((try unfold U_X7_clear); (try simp only []); (try rfl)))
def U_X5_decide (a : Nat) (x1 : Int32) (x2 : Int32) (x3 : Int32) (x4 : Int32) (M : Mem) : Mem := (let v0_0 : Int32 := if (M.1 a 1) = 0 then x2 else (-x2); let v1_0 : Int32 := if (M.1 a 1) = 0 then x3 else (-x3); setI (setI (setI (setI M a 14 x1) a 15 v0_0) a 16 v1_0) a 17 x4)
theorem S_X5_decide {sh : List SC} {M : Mem} {a : Nat} {x1 : Int32} {x2 : Int32} {x3 : Int32} {x4 : Int32}  (hb1 : RobotAt sh a)  : Gu m_X5_decide [.ref a, .int x1, .int x2, .int x3, .int x4] sh M (U_X5_decide a x1 x2 x3 x4 M) := by
  refine Sp.of (ls := [some (.ref a), some (.int x1), some (.int x2), some (.int x3), some (.int x4)]) (by decide +kernel) (Nat.le_of_ble_eq_true rfl) rfl ?_
  have k0 : kd sh a = some (5 + 7, 0) := hb1.1
  refine r_aload_n e_X5_decide_0 rfl ?_
  refine r_iload_n e_X5_decide_1 rfl ?_
  refine r_putI e_X5_decide_2 fl_X5_50 k0 ?_
  refine r_aload_n e_X5_decide_5 rfl ?_
  refine r_aload_n e_X5_decide_6 rfl ?_
  refine r_getIe e_X5_decide_7 fl_X5_65 i3 k0 (gs_nI (by decide)) ?_
  obtain ⟨v0_0, e_v0_0⟩ : ∃ z : Int32, z = (if (M.1 a 1) = 0 then x2 else (-x2)) := ⟨_, rfl⟩
  suffices j19_0 : WP m_X5_decide (fun r sh' M'' => r = none ∧ sh' = sh ∧ M'' = (U_X5_decide a x1 x2 x3 x4 M)) 19 [some (.ref a), some (.int x1), some (.int x2), some (.int x3), some (.int x4)] [.int v0_0, .ref a] sh (setI M a 14 x1) 0 0 by
    refine r_if_eq e_X5_decide_10 (fun h10_0 => ?_) (fun h10_0 => ?_)
    · refine r_iload_n e_X5_decide_18 rfl ?_
      (rw [show v0_0 = x2 from (e_v0_0.trans (if_pos h10_0))] at j19_0; exact j19_0)
    · refine r_iload_n e_X5_decide_13 rfl ?_
      refine r_ineg e_X5_decide_14 ?_
      refine r_goto e_X5_decide_15 ?_
      (rw [show v0_0 = (-x2) from (e_v0_0.trans (if_neg h10_0))] at j19_0; exact j19_0)
  refine r_putI e_X5_decide_19 fl_X5_53 k0 ?_
  refine r_aload_n e_X5_decide_22 rfl ?_
  refine r_aload_n e_X5_decide_23 rfl ?_
  refine r_getIe e_X5_decide_24 fl_X5_65 i3 k0 ((gs_nI (by decide)).trans (gs_nI (by decide))) ?_
  obtain ⟨v1_0, e_v1_0⟩ : ∃ z : Int32, z = (if (M.1 a 1) = 0 then x3 else (-x3)) := ⟨_, rfl⟩
  suffices j36_1 : WP m_X5_decide (fun r sh' M'' => r = none ∧ sh' = sh ∧ M'' = (U_X5_decide a x1 x2 x3 x4 M)) 36 [some (.ref a), some (.int x1), some (.int x2), some (.int x3), some (.int x4)] [.int v1_0, .ref a] sh (setI (setI M a 14 x1) a 15 v0_0) 0 0 by
    refine r_if_eq e_X5_decide_27 (fun h27_1 => ?_) (fun h27_1 => ?_)
    · refine r_iload_n e_X5_decide_35 rfl ?_
      (rw [show v1_0 = x3 from (e_v1_0.trans (if_pos h27_1))] at j36_1; exact j36_1)
    · refine r_iload_n e_X5_decide_30 rfl ?_
      refine r_ineg e_X5_decide_31 ?_
      refine r_goto e_X5_decide_32 ?_
      (rw [show v1_0 = (-x3) from (e_v1_0.trans (if_neg h27_1))] at j36_1; exact j36_1)
  refine r_putI e_X5_decide_36 fl_X5_56 k0 ?_
  refine r_aload_n e_X5_decide_39 rfl ?_
  refine r_iload e_X5_decide_40 rfl ?_
  refine r_putI e_X5_decide_42 fl_X5_59 k0 ?_
  refine r_return e_X5_decide_45 rfl ⟨rfl, rfl⟩ ?_
  (subst e_v1_0 e_v0_0; refine ⟨?_, rfl, ?_⟩ <;> ((try unfold U_X5_decide); (try simp only []); (try rfl)))
def U_X5_leave (a : Nat) (M : Mem) : Mem := setI (setI M a 2 (-1 : Int32)) a 3 (-1 : Int32)
theorem S_X5_leave {sh : List SC} {M : Mem} {a : Nat}  (hb1 : RobotAt sh a)  : Gu m_X5_leave [.ref a] sh M (U_X5_leave a M) := by
  refine Sp.of (ls := [some (.ref a)]) (by decide +kernel) (Nat.le_of_ble_eq_true rfl) rfl ?_
  have k0 : kd sh a = some (5 + 7, 0) := hb1.1
  refine r_aload_n e_X5_leave_0 rfl ?_
  refine r_iconst e_X5_leave_1 ic_m1 ?_
  refine r_putI e_X5_leave_2 fl_X5_11 k0 ?_
  refine r_aload_n e_X5_leave_5 rfl ?_
  refine r_iconst e_X5_leave_6 ic_m1 ?_
  refine r_putI e_X5_leave_7 fl_X5_15 k0 ?_
  refine r_return e_X5_leave_10 rfl ⟨rfl, rfl⟩ ?_
  (refine ⟨?_, rfl, ?_⟩ <;> ((try unfold U_X5_leave); (try simp only []); (try rfl)))
def V_X5_seenX (a : Nat) (x1 : Int32) (M : Mem) : Int32 := (let v0_0 : Int32 := if (M.1 a 1) = 0 then x1 else ((14 : Int32) - x1); v0_0)
theorem S_X5_seenX {sh : List SC} {M : Mem} {a : Nat} {x1 : Int32}  (hb1 : RobotAt sh a)  : Gv m_X5_seenX [.ref a, .int x1] sh M (.int (V_X5_seenX a x1 M)) M := by
  refine Sp.of (ls := [some (.ref a), some (.int x1)]) (by decide +kernel) (Nat.le_of_ble_eq_true rfl) rfl ?_
  have k0 : kd sh a = some (5 + 7, 0) := hb1.1
  refine r_aload_n e_X5_seenX_0 rfl ?_
  refine r_getI e_X5_seenX_1 fl_X5_65 i3 k0 ?_
  obtain ⟨v0_0, e_v0_0⟩ : ∃ z : Int32, z = (if (M.1 a 1) = 0 then x1 else ((14 : Int32) - x1)) := ⟨_, rfl⟩
  suffices j15_0 : WP m_X5_seenX (fun r sh' M'' => r = some (.int (V_X5_seenX a x1 M)) ∧ sh' = sh ∧ M'' = M) 15 [some (.ref a), some (.int x1)] [.int v0_0] sh M 0 0 by
    refine r_if_eq e_X5_seenX_4 (fun h4_0 => ?_) (fun h4_0 => ?_)
    · refine r_iload_n e_X5_seenX_14 rfl ?_
      (rw [show v0_0 = x1 from (e_v0_0.trans (if_pos h4_0))] at j15_0; exact j15_0)
    · refine r_bipush e_X5_seenX_7 bp_14 ?_
      refine r_iload_n e_X5_seenX_9 rfl ?_
      refine r_isub e_X5_seenX_10 ?_
      refine r_goto e_X5_seenX_11 ?_
      (rw [show v0_0 = ((14 : Int32) - x1) from (e_v0_0.trans (if_neg h4_0))] at j15_0; exact j15_0)
  refine r_ireturn e_X5_seenX_15 rfl ⟨rfl, rfl⟩ ?_
  (subst e_v0_0; refine ⟨?_, rfl, ?_⟩ <;> ((try unfold V_X5_seenX); (try simp only []); (try rfl)))
def V_X5_seenY (a : Nat) (x1 : Int32) (M : Mem) : Int32 := (let v0_0 : Int32 := if (M.1 a 1) = 0 then x1 else ((8 : Int32) - x1); v0_0)
theorem S_X5_seenY {sh : List SC} {M : Mem} {a : Nat} {x1 : Int32}  (hb1 : RobotAt sh a)  : Gv m_X5_seenY [.ref a, .int x1] sh M (.int (V_X5_seenY a x1 M)) M := by
  refine Sp.of (ls := [some (.ref a), some (.int x1)]) (by decide +kernel) (Nat.le_of_ble_eq_true rfl) rfl ?_
  have k0 : kd sh a = some (5 + 7, 0) := hb1.1
  refine r_aload_n e_X5_seenY_0 rfl ?_
  refine r_getI e_X5_seenY_1 fl_X5_65 i3 k0 ?_
  obtain ⟨v0_0, e_v0_0⟩ : ∃ z : Int32, z = (if (M.1 a 1) = 0 then x1 else ((8 : Int32) - x1)) := ⟨_, rfl⟩
  suffices j15_0 : WP m_X5_seenY (fun r sh' M'' => r = some (.int (V_X5_seenY a x1 M)) ∧ sh' = sh ∧ M'' = M) 15 [some (.ref a), some (.int x1)] [.int v0_0] sh M 0 0 by
    refine r_if_eq e_X5_seenY_4 (fun h4_0 => ?_) (fun h4_0 => ?_)
    · refine r_iload_n e_X5_seenY_14 rfl ?_
      (rw [show v0_0 = x1 from (e_v0_0.trans (if_pos h4_0))] at j15_0; exact j15_0)
    · refine r_bipush e_X5_seenY_7 bp_8 ?_
      refine r_iload_n e_X5_seenY_9 rfl ?_
      refine r_isub e_X5_seenY_10 ?_
      refine r_goto e_X5_seenY_11 ?_
      (rw [show v0_0 = ((8 : Int32) - x1) from (e_v0_0.trans (if_neg h4_0))] at j15_0; exact j15_0)
  refine r_ireturn e_X5_seenY_15 rfl ⟨rfl, rfl⟩ ?_
  (subst e_v0_0; refine ⟨?_, rfl, ?_⟩ <;> ((try unfold V_X5_seenY); (try simp only []); (try rfl)))
def FV_X2_robotIn_2 (a : Nat) (x1 : Int32) (x2 : Int32) : Nat → Nat → Mem → Int32
  | 0, i2, M => (-1 : Int32)
  | n + 1, i2, M => if (M.1 (a + 10 + 2 * i2) 2) = x1 then (if (M.1 (a + 10 + 2 * i2) 3) = x2 then (nI i2) else (FV_X2_robotIn_2 a x1 x2 n (i2 + 1) M)) else (FV_X2_robotIn_2 a x1 x2 n (i2 + 1) M)
theorem L_X2_robotIn_2 {sh : List SC} {Q : Po} {a : Nat} {x1 : Int32} {x2 : Int32}    (hb1 : MatchAt sh a)   : ∀ (n i2 : Nat) (M : Mem), i2 + n = 10 → Q (some (.int (FV_X2_robotIn_2 a x1 x2 n i2 M))) sh M → WP m_X2_robotIn Q 2 [some (.ref a), some (.int x1), some (.int x2), some (.int (nI i2))] [] sh M 0 0 := by
  have k0 : kd sh a = some (2 + 7, 0) := hb1.1
  have k1 : rf sh a 3 = some (a + 3) := hb1.2.2.2.2.1
  have k2 : kd sh (a + 3) = some (6, 10) := hb1.2.2.2.2.2.2.2.1
  intro n
  induction n with
  | zero =>
    intro i2 M hi hq
    have hz : (10 : Int32) ≤ nI i2 := by
      have q : i2 = 10 := by omega
      rw [q]; exact nI_le (Nat.le_refl _) (by decide)
    refine r_iload_n e_X2_robotIn_2 rfl ?_
    refine r_aload_n e_X2_robotIn_3 rfl ?_
    refine r_getR e_X2_robotIn_4 fl_X2_20 k0 k1 ?_
    refine r_alen (v := (10 : Int32)) e_X2_robotIn_7 k2 (by decide) rfl ?_
    refine r_icmp_ge e_X2_robotIn_8 (fun _ => ?_) (fun hh => absurd hz hh)
    refine r_iconst e_X2_robotIn_45 ic_m1 ?_
    refine r_ireturn e_X2_robotIn_46 rfl ⟨rfl, rfl⟩ ?_
    (simp only [FV_X2_robotIn_2] at hq; first | exact hq | (simp only []; exact hq))
  | succ n ih =>
    intro i2 M hi hq
    have hlt_i2 : i2 < 10 := by omega
    have hcl_i2 : (nI i2).toNatClampNeg = i2 := nI_clamp (by omega)
    have hs : ¬ (10 : Int32) ≤ nI i2 := nI_ge (b := 10) hlt_i2 (by decide)
    refine r_iload_n e_X2_robotIn_2 rfl ?_
    refine r_aload_n e_X2_robotIn_3 rfl ?_
    refine r_getR e_X2_robotIn_4 fl_X2_20 k0 k1 ?_
    refine r_alen (v := (10 : Int32)) e_X2_robotIn_7 k2 (by decide) rfl ?_
    refine r_icmp_ge e_X2_robotIn_8 (fun hh => absurd hh hs) (fun _ => ?_)
    refine r_aload_n e_X2_robotIn_11 rfl ?_
    refine r_getR e_X2_robotIn_12 fl_X2_20 k0 k1 ?_
    refine r_iload_n e_X2_robotIn_15 rfl ?_
    refine r_aaload (b := (a + 10 + 2 * i2)) e_X2_robotIn_16 k2 ⟨by decide, by decide⟩ (vp_in_nI (Nat.lt_of_lt_of_le hlt_i2 (by decide)) (by decide)) (by rw [hcl_i2]; exact (hb1.2.2.2.2.2.2.2.2.1 i2 (Nat.lt_of_lt_of_le hlt_i2 (by decide))).1) ?_
    refine r_getI e_X2_robotIn_17 fl_X2_130 i0 (show kd sh (a + 10 + 2 * i2) = some (5 + 7, 0) from (hb1.2.2.2.2.2.2.2.2.1 i2 (Nat.lt_of_lt_of_le hlt_i2 (by decide))).2.1) ?_
    refine r_iload_n e_X2_robotIn_20 rfl ?_
    refine r_icmp_ne e_X2_robotIn_21 (fun h21_200 => ?_) (fun h21_200 => ?_)
    · refine p_iinc_4_3 e_X2_robotIn_39 rfl ic_1 rfl ?_
      rw [nI_1 i2]
      refine r_goto e_X2_robotIn_42 ?_
      (simp only [FV_X2_robotIn_2, if_neg h21_200] at hq; first | exact ih (i2 + 1) _ (by omega) hq | (simp only [if_neg h21_200]; exact ih (i2 + 1) _ (by omega) hq))
    · refine r_aload_n e_X2_robotIn_24 rfl ?_
      refine r_getR e_X2_robotIn_25 fl_X2_20 k0 k1 ?_
      refine r_iload_n e_X2_robotIn_28 rfl ?_
      refine r_aaload (b := (a + 10 + 2 * i2)) e_X2_robotIn_29 k2 ⟨by decide, by decide⟩ (vp_in_nI (Nat.lt_of_lt_of_le hlt_i2 (by decide)) (by decide)) (by rw [hcl_i2]; exact (hb1.2.2.2.2.2.2.2.2.1 i2 (Nat.lt_of_lt_of_le hlt_i2 (by decide))).1) ?_
      refine r_getI e_X2_robotIn_30 fl_X2_131 i0 (show kd sh (a + 10 + 2 * i2) = some (5 + 7, 0) from (hb1.2.2.2.2.2.2.2.2.1 i2 (Nat.lt_of_lt_of_le hlt_i2 (by decide))).2.1) ?_
      refine r_iload_n e_X2_robotIn_33 rfl ?_
      refine r_icmp_ne e_X2_robotIn_34 (fun h34_201 => ?_) (fun h34_201 => ?_)
      · refine p_iinc_4_3 e_X2_robotIn_39 rfl ic_1 rfl ?_
        rw [nI_1 i2]
        refine r_goto e_X2_robotIn_42 ?_
        (simp only [FV_X2_robotIn_2, if_pos h21_200, if_neg h34_201] at hq; first | exact ih (i2 + 1) _ (by omega) hq | (simp only [if_pos h21_200, if_neg h34_201]; exact ih (i2 + 1) _ (by omega) hq))
      · refine r_iload_n e_X2_robotIn_37 rfl ?_
        refine r_ireturn e_X2_robotIn_38 rfl ⟨rfl, rfl⟩ ?_
        (simp only [FV_X2_robotIn_2, if_pos h21_200, if_pos h34_201] at hq; first | exact hq | (simp only [if_pos h21_200, if_pos h34_201]; exact hq))
def V_X2_robotIn (a : Nat) (x1 : Int32) (x2 : Int32) (M : Mem) : Int32 := (FV_X2_robotIn_2 a x1 x2 10 0 M)
theorem S_X2_robotIn {sh : List SC} {M : Mem} {a : Nat} {x1 : Int32} {x2 : Int32}  (hb1 : MatchAt sh a)  : Gv m_X2_robotIn [.ref a, .int x1, .int x2] sh M (.int (V_X2_robotIn a x1 x2 M)) M := by
  refine Sp.of (ls := [some (.ref a), some (.int x1), some (.int x2), none]) (by decide +kernel) (Nat.le_of_ble_eq_true rfl) rfl ?_
  refine r_iconst e_X2_robotIn_0 ic_0 ?_
  refine p_istore_n_4_3 e_X2_robotIn_1 rfl rfl ?_
  skip
  show WP m_X2_robotIn _ 2 [some (.ref a), some (.int x1), some (.int x2), some (.int (nI 0))] [] sh M 0 0
  refine L_X2_robotIn_2 hb1 10 0  M (by omega) ?_
  (refine ⟨?_, rfl, ?_⟩ <;> ((try unfold V_X2_robotIn); (try simp only []); (try rfl)))
def V_X10_distance (x1 : Int32) (x2 : Int32) (x3 : Int32) (x4 : Int32) (M : Mem) : Int32 := (if (if 0 ≤ (x1 - x3) then (x1 - x3) else 0 - (x1 - x3)) < (if 0 ≤ (x2 - x4) then (x2 - x4) else 0 - (x2 - x4)) then (if 0 ≤ (x2 - x4) then (x2 - x4) else 0 - (x2 - x4)) else (if 0 ≤ (x1 - x3) then (x1 - x3) else 0 - (x1 - x3)))
theorem S_X10_distance {sh : List SC} {M : Mem} {x1 : Int32} {x2 : Int32} {x3 : Int32} {x4 : Int32}    : Gv m_X10_distance [.int x1, .int x2, .int x3, .int x4] sh M (.int (V_X10_distance x1 x2 x3 x4 M)) M := by
  refine Sp.of (ls := [some (.int x1), some (.int x2), some (.int x3), some (.int x4)]) (by decide +kernel) (Nat.le_of_ble_eq_true rfl) rfl ?_
  refine r_iload_n e_X10_distance_0 rfl ?_
  refine r_iload_n e_X10_distance_1 rfl ?_
  refine r_isub e_X10_distance_2 ?_
  refine r_mabs e_X10_distance_3 cl_X10_207 ⟨Nat.le_of_ble_eq_true rfl, Nat.le_of_ble_eq_true rfl, Nat.zero_le _, Nat.zero_le _⟩ (Nat.le_of_ble_eq_true rfl) ?_
  refine r_iload_n e_X10_distance_6 rfl ?_
  refine r_iload_n e_X10_distance_7 rfl ?_
  refine r_isub e_X10_distance_8 ?_
  refine r_mabs e_X10_distance_9 cl_X10_207 ⟨Nat.le_of_ble_eq_true rfl, Nat.le_of_ble_eq_true rfl, Nat.zero_le _, Nat.zero_le _⟩ (Nat.le_of_ble_eq_true rfl) ?_
  refine r_mmax e_X10_distance_12 cl_X10_204 ⟨Nat.le_of_ble_eq_true rfl, Nat.le_of_ble_eq_true rfl, Nat.zero_le _, Nat.zero_le _⟩ (Nat.le_of_ble_eq_true rfl) ?_
  refine r_ireturn e_X10_distance_15 rfl ⟨rfl, rfl⟩ ?_
  (refine ⟨?_, rfl, ?_⟩ <;> ((try unfold V_X10_distance); (try simp only []); (try rfl)))
def U_X0_go (a : Nat) (x1 : Int32) (x2 : Int32) (M : Mem) : Mem := setI (setI M a 0 x1) a 1 x2
theorem S_X0_go {sh : List SC} {M : Mem} {a : Nat} {x1 : Int32} {x2 : Int32}  (hb1 : BallAt sh a)  : Gu m_X0_go [.ref a, .int x1, .int x2] sh M (U_X0_go a x1 x2 M) := by
  refine Sp.of (ls := [some (.ref a), some (.int x1), some (.int x2)]) (by decide +kernel) (Nat.le_of_ble_eq_true rfl) rfl ?_
  have k0 : kd sh a = some (0 + 7, 0) := hb1.1
  refine r_aload_n e_X0_go_0 rfl ?_
  refine r_iload_n e_X0_go_1 rfl ?_
  refine r_putI e_X0_go_2 fl_X0_7 k0 ?_
  refine r_aload_n e_X0_go_5 rfl ?_
  refine r_iload_n e_X0_go_6 rfl ?_
  refine r_putI e_X0_go_7 fl_X0_13 k0 ?_
  refine r_return e_X0_go_10 rfl ⟨rfl, rfl⟩ ?_
  (refine ⟨?_, rfl, ?_⟩ <;> ((try unfold U_X0_go); (try simp only []); (try rfl)))
def U_X0_free (a : Nat) (x1 : Int32) (x2 : Int32) (x3 : Int32) (M : Mem) : Mem := setI (setI (setI (setI M a 2 (-1 : Int32)) a 5 x1) a 6 x2) a 4 x3
theorem S_X0_free {sh : List SC} {M : Mem} {a : Nat} {x1 : Int32} {x2 : Int32} {x3 : Int32}  (hb1 : BallAt sh a)  : Gu m_X0_free [.ref a, .int x1, .int x2, .int x3] sh M (U_X0_free a x1 x2 x3 M) := by
  refine Sp.of (ls := [some (.ref a), some (.int x1), some (.int x2), some (.int x3)]) (by decide +kernel) (Nat.le_of_ble_eq_true rfl) rfl ?_
  have k0 : kd sh a = some (0 + 7, 0) := hb1.1
  refine r_aload_n e_X0_free_0 rfl ?_
  refine r_iconst e_X0_free_1 ic_m1 ?_
  refine r_putI e_X0_free_2 fl_X0_16 k0 ?_
  refine r_aload_n e_X0_free_5 rfl ?_
  refine r_iload_n e_X0_free_6 rfl ?_
  refine r_putI e_X0_free_7 fl_X0_25 k0 ?_
  refine r_aload_n e_X0_free_10 rfl ?_
  refine r_iload_n e_X0_free_11 rfl ?_
  refine r_putI e_X0_free_12 fl_X0_28 k0 ?_
  refine r_aload_n e_X0_free_15 rfl ?_
  refine r_iload_n e_X0_free_16 rfl ?_
  refine r_putI e_X0_free_17 fl_X0_22 k0 ?_
  refine r_return e_X0_free_20 rfl ⟨rfl, rfl⟩ ?_
  (refine ⟨?_, rfl, ?_⟩ <;> ((try unfold U_X0_free); (try simp only []); (try rfl)))
def U_X0_remember (a : Nat) (x1 : Int32) (M : Mem) : Mem := (let Mc1 : Mem := U_X10_put (a + 2) (x1 &&& (3 : Int32)) ((U_X10_put (a + 1) (x1 &&& (3 : Int32)) (M.1 a 0) 4 M).1 a 1) 4 (U_X10_put (a + 1) (x1 &&& (3 : Int32)) (M.1 a 0) 4 M); Mc1)
theorem S_X0_remember {sh : List SC} {M : Mem} {a : Nat} {x1 : Int32}  (hb1 : BallAt sh a)  : Gu m_X0_remember [.ref a, .int x1] sh M (U_X0_remember a x1 M) := by
  refine Sp.of (ls := [some (.ref a), some (.int x1)]) (by decide +kernel) (Nat.le_of_ble_eq_true rfl) rfl ?_
  have k0 : kd sh a = some (0 + 7, 0) := hb1.1
  have k1 : rf sh a 10 = some (a + 1) := hb1.2.1
  have k2 : kd sh (a + 1) = some (0, 4) := hb1.2.2.2.1
  have k3 : rf sh a 11 = some (a + 2) := hb1.2.2.1
  have k4 : kd sh (a + 2) = some (0, 4) := hb1.2.2.2.2
  refine r_aload_n e_X0_remember_0 rfl ?_
  refine r_getR e_X0_remember_1 fl_X0_40 k0 k1 ?_
  refine r_iload_n e_X0_remember_4 rfl ?_
  refine r_iconst e_X0_remember_5 ic_3 ?_
  refine r_iand e_X0_remember_6 ?_
  refine r_aload_n e_X0_remember_7 rfl ?_
  refine r_getI e_X0_remember_8 fl_X0_7 i0 k0 ?_
  refine cSN3u e_X0_remember_11 cl_X0_55 ⟨Nat.le_of_ble_eq_true rfl, Nat.le_of_ble_eq_true rfl⟩ ⟨rfl, rfl⟩  (Nat.le_of_ble_eq_true rfl) (S_X10_put k2 (by first | decide | (unfold vp_in; decide) | exact Or.inl rfl | exact Or.inr rfl)) ?_
  refine r_aload_n e_X0_remember_14 rfl ?_
  refine r_getR e_X0_remember_15 fl_X0_44 k0 k3 ?_
  refine r_iload_n e_X0_remember_18 rfl ?_
  refine r_iconst e_X0_remember_19 ic_3 ?_
  refine r_iand e_X0_remember_20 ?_
  refine r_aload_n e_X0_remember_21 rfl ?_
  refine r_getI e_X0_remember_22 fl_X0_13 i0 k0 ?_
  refine cSN3u e_X0_remember_25 cl_X0_55 ⟨Nat.le_of_ble_eq_true rfl, Nat.le_of_ble_eq_true rfl⟩ ⟨rfl, rfl⟩  (Nat.le_of_ble_eq_true rfl) (S_X10_put k4 (by first | decide | (unfold vp_in; decide) | exact Or.inl rfl | exact Or.inr rfl)) ?_
  obtain ⟨Mc1, e_Mc1⟩ : ∃ z : Mem, z = (U_X10_put (a + 2) (x1 &&& (3 : Int32)) ((U_X10_put (a + 1) (x1 &&& (3 : Int32)) (M.1 a 0) 4 M).1 a 1) 4 (U_X10_put (a + 1) (x1 &&& (3 : Int32)) (M.1 a 0) 4 M)) := ⟨_, rfl⟩
  rw [← e_Mc1]
  refine r_return e_X0_remember_28 rfl ⟨rfl, rfl⟩ ?_
  (subst e_Mc1; refine ⟨?_, rfl, ?_⟩ <;> ((try unfold U_X0_remember); (try simp only []); (try rfl)))
def U_X5_see (a : Nat) (x1 : Int32) (x2 : Int32) (M : Mem) : Mem := setI (setI M a 10 x1) a 11 x2
theorem S_X5_see {sh : List SC} {M : Mem} {a : Nat} {x1 : Int32} {x2 : Int32}  (hb1 : RobotAt sh a)  : Gu m_X5_see [.ref a, .int x1, .int x2] sh M (U_X5_see a x1 x2 M) := by
  refine Sp.of (ls := [some (.ref a), some (.int x1), some (.int x2)]) (by decide +kernel) (Nat.le_of_ble_eq_true rfl) rfl ?_
  have k0 : kd sh a = some (5 + 7, 0) := hb1.1
  refine r_aload_n e_X5_see_0 rfl ?_
  refine r_iload_n e_X5_see_1 rfl ?_
  refine r_putI e_X5_see_2 fl_X5_38 k0 ?_
  refine r_aload_n e_X5_see_5 rfl ?_
  refine r_iload_n e_X5_see_6 rfl ?_
  refine r_putI e_X5_see_7 fl_X5_41 k0 ?_
  refine r_return e_X5_see_10 rfl ⟨rfl, rfl⟩ ?_
  (refine ⟨?_, rfl, ?_⟩ <;> ((try unfold U_X5_see); (try simp only []); (try rfl)))
def V_X5_isLost (a : Nat) (x1 : Int32) (M : Mem) : Int32 := (let v0_0 : Int32 := if (M.1 a 13) ≤ 0 then (0 : Int32) else (if ((x1 + (M.1 a 0)) - (x1 + (M.1 a 0)) / (M.1 a 13) * (M.1 a 13)) = 0 then (1 : Int32) else (0 : Int32)); v0_0)
theorem Z_X5_isLost {M : Mem} {a : Nat} {x1 : Int32}   : V_X5_isLost a x1 M = 0 ∨ V_X5_isLost a x1 M = 1 := (zi (Or.inl rfl) (zi (Or.inr rfl) (Or.inl rfl)))
theorem S_X5_isLost {sh : List SC} {M : Mem} {a : Nat} {x1 : Int32}  (hb1 : RobotAt sh a)  : Gv m_X5_isLost [.ref a, .int x1] sh M (.int (V_X5_isLost a x1 M)) M := by
  refine Sp.of (ls := [some (.ref a), some (.int x1)]) (by decide +kernel) (Nat.le_of_ble_eq_true rfl) rfl ?_
  have k0 : kd sh a = some (5 + 7, 0) := hb1.1
  refine r_aload_n e_X5_isLost_0 rfl ?_
  refine r_getI e_X5_isLost_1 fl_X5_47 i0 k0 ?_
  obtain ⟨v0_0, e_v0_0⟩ : ∃ z : Int32, z = (if (M.1 a 13) ≤ 0 then (0 : Int32) else (if ((x1 + (M.1 a 0)) - (x1 + (M.1 a 0)) / (M.1 a 13) * (M.1 a 13)) = 0 then (1 : Int32) else (0 : Int32))) := ⟨_, rfl⟩
  have z_v0_0 : v0_0 = 0 ∨ v0_0 = 1 := by rw [e_v0_0]; exact (zi (Or.inl rfl) (zi (Or.inr rfl) (Or.inl rfl)))
  suffices j26_0 : WP m_X5_isLost (fun r sh' M'' => r = some (.int (V_X5_isLost a x1 M)) ∧ sh' = sh ∧ M'' = M) 26 [some (.ref a), some (.int x1)] [.int v0_0] sh M 0 0 by
    refine r_if_le e_X5_isLost_4 (fun h4_0 => ?_) (fun h4_0 => ?_)
    · refine r_iconst e_X5_isLost_25 ic_0 ?_
      (rw [show v0_0 = (0 : Int32) from (e_v0_0.trans (if_pos h4_0))] at j26_0; exact j26_0)
    · refine r_iload_n e_X5_isLost_7 rfl ?_
      refine r_aload_n e_X5_isLost_8 rfl ?_
      refine r_getI e_X5_isLost_9 fl_X5_62 i0 k0 ?_
      refine r_iadd e_X5_isLost_12 ?_
      refine r_aload_n e_X5_isLost_13 rfl ?_
      refine r_getI e_X5_isLost_14 fl_X5_47 i0 k0 ?_
      refine r_irem e_X5_isLost_17 (fun q => h4_0 (by rw [q]; decide)) ?_
      refine r_if_ne e_X5_isLost_18 (fun h18_1 => ?_) (fun h18_1 => ?_)
      · refine r_iconst e_X5_isLost_25 ic_0 ?_
        (rw [show v0_0 = (0 : Int32) from ((e_v0_0.trans (if_neg h4_0)).trans (if_neg h18_1))] at j26_0; exact j26_0)
      · refine r_iconst e_X5_isLost_21 ic_1 ?_
        refine r_goto e_X5_isLost_22 ?_
        (rw [show v0_0 = (1 : Int32) from ((e_v0_0.trans (if_neg h4_0)).trans (if_pos h18_1))] at j26_0; exact j26_0)
  refine r_zreturn e_X5_isLost_26 rfl ⟨rfl, rfl⟩ z_v0_0 ?_
  (subst e_v0_0; refine ⟨?_, rfl, ?_⟩ <;> ((try unfold V_X5_isLost); (try simp only []); (try rfl)))
def V_X0_pastX (a : Nat) (x1 : Int32) (M : Mem) : Int32 := (V_X10_at (a + 1) (x1 &&& (3 : Int32)) 4 M)
theorem S_X0_pastX {sh : List SC} {M : Mem} {a : Nat} {x1 : Int32}  (hb1 : BallAt sh a)  : Gv m_X0_pastX [.ref a, .int x1] sh M (.int (V_X0_pastX a x1 M)) M := by
  refine Sp.of (ls := [some (.ref a), some (.int x1)]) (by decide +kernel) (Nat.le_of_ble_eq_true rfl) rfl ?_
  have k0 : kd sh a = some (0 + 7, 0) := hb1.1
  have k1 : rf sh a 10 = some (a + 1) := hb1.2.1
  have k2 : kd sh (a + 1) = some (0, 4) := hb1.2.2.2.1
  refine r_aload_n e_X0_pastX_0 rfl ?_
  refine r_getR e_X0_pastX_1 fl_X0_40 k0 k1 ?_
  refine r_iload_n e_X0_pastX_4 rfl ?_
  refine r_iconst e_X0_pastX_5 ic_3 ?_
  refine r_iand e_X0_pastX_6 ?_
  refine cSN2v e_X0_pastX_7 cl_X0_65 ⟨Nat.le_of_ble_eq_true rfl, Nat.le_of_ble_eq_true rfl⟩ ⟨rfl, rfl⟩  (Nat.le_of_ble_eq_true rfl) (S_X10_at k2 (by first | decide | (unfold vp_in; decide) | exact Or.inl rfl | exact Or.inr rfl)) ?_
  refine r_ireturn e_X0_pastX_10 rfl ⟨rfl, rfl⟩ ?_
  (refine ⟨?_, rfl, ?_⟩ <;> ((try unfold V_X0_pastX); (try simp only []); (try rfl)))
def V_X0_pastY (a : Nat) (x1 : Int32) (M : Mem) : Int32 := (V_X10_at (a + 2) (x1 &&& (3 : Int32)) 4 M)
theorem S_X0_pastY {sh : List SC} {M : Mem} {a : Nat} {x1 : Int32}  (hb1 : BallAt sh a)  : Gv m_X0_pastY [.ref a, .int x1] sh M (.int (V_X0_pastY a x1 M)) M := by
  refine Sp.of (ls := [some (.ref a), some (.int x1)]) (by decide +kernel) (Nat.le_of_ble_eq_true rfl) rfl ?_
  have k0 : kd sh a = some (0 + 7, 0) := hb1.1
  have k1 : rf sh a 11 = some (a + 2) := hb1.2.2.1
  have k2 : kd sh (a + 2) = some (0, 4) := hb1.2.2.2.2
  refine r_aload_n e_X0_pastY_0 rfl ?_
  refine r_getR e_X0_pastY_1 fl_X0_44 k0 k1 ?_
  refine r_iload_n e_X0_pastY_4 rfl ?_
  refine r_iconst e_X0_pastY_5 ic_3 ?_
  refine r_iand e_X0_pastY_6 ?_
  refine cSN2v e_X0_pastY_7 cl_X0_65 ⟨Nat.le_of_ble_eq_true rfl, Nat.le_of_ble_eq_true rfl⟩ ⟨rfl, rfl⟩  (Nat.le_of_ble_eq_true rfl) (S_X10_at k2 (by first | decide | (unfold vp_in; decide) | exact Or.inl rfl | exact Or.inr rfl)) ?_
  refine r_ireturn e_X0_pastY_10 rfl ⟨rfl, rfl⟩ ?_
  (refine ⟨?_, rfl, ?_⟩ <;> ((try unfold V_X0_pastY); (try simp only []); (try rfl)))
