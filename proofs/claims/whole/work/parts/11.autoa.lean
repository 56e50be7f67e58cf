def FUEL : Nat := 5000
theorem gs_nI {M : Mem} {a b i j : Nat} {v : Int32} (h : i ≠ j) : (setI M a j v).1 b i = M.1 b i := by simp [setI, h]
theorem gs_eI {M : Mem} {a j : Nat} {v : Int32} : (setI M a j v).1 a j = v := by simp [setI]
theorem gs_nJ {M : Mem} {a b i j : Nat} {v : Int64} (h : i ≠ j) : (setJ M a j v).2 b i = M.2 b i := by simp [setJ, h]
theorem gs_eJ {M : Mem} {a j : Nat} {v : Int64} : (setJ M a j v).2 a j = v := by simp [setJ]
theorem gs_aI {M : Mem} {a b i j : Nat} {v : Int32} (h : b ≠ a) : (setI M a j v).1 b i = M.1 b i := by simp [setI, h]
theorem gs_aJ {M : Mem} {a b i j : Nat} {v : Int64} (h : b ≠ a) : (setJ M a j v).2 b i = M.2 b i := by simp [setJ, h]
theorem zi {c : Prop} [Decidable c] {a b : Int32} (ha : a = 0 ∨ a = 1) (hb : b = 0 ∨ b = 1) : (if c then a else b) = 0 ∨ (if c then a else b) = 1 := by split <;> assumption
theorem gs_k2 {M : Mem} {a b i j : Nat} {v : Int32} : (setI M a j v).2 b i = M.2 b i := rfl
theorem ne_kd {sh : List SC} {a b : Nat} {p q : Nat × Nat} (h1 : kd sh a = some p) (h2 : kd sh b = some q) (h : p ≠ q) : a ≠ b := fun e => h (Option.some.inj (h1.symm.trans (e ▸ h2)))
theorem gs_k {M : Mem} {a b i j : Nat} {v : Int64} : (setJ M a j v).1 b i = M.1 b i := rfl
def BallAt (sh : List SC) (a : Nat) : Prop := kd sh a = some (0 + 7, 0) ∧ rf sh a 10 = some (a + 1) ∧ rf sh a 11 = some (a + 2) ∧ kd sh (a + 1) = some (0, 4) ∧ kd sh (a + 2) = some (0, 4)
def TallyAt (sh : List SC) (a : Nat) : Prop := kd sh a = some (7 + 7, 0) ∧ rf sh a 4 = some (a + 1) ∧ rf sh a 5 = some (a + 2) ∧ kd sh (a + 1) = some (0, 4) ∧ kd sh (a + 2) = some (0, 20)
def RobotAt (sh : List SC) (a : Nat) : Prop := kd sh a = some (5 + 7, 0) ∧ rf sh a 9 = some (a + 1) ∧ kd sh (a + 1) = some (0, 4)
def RunnerAt (sh : List SC) (a : Nat) : Prop := kd sh a = some (6 + 7, 0) ∧ rf sh a 0 = some (a + 1) ∧ kd sh (a + 1) = some (0, 28)
def TeamAt (sh : List SC) (a : Nat) : Prop := kd sh a = some (8 + 7, 0) ∧ rf sh a 0 = some (a + 1) ∧ rf sh a 1 = some (a + 2) ∧ rf sh a 2 = some (a + 3) ∧ kd sh (a + 1) = some (0, 5) ∧ kd sh (a + 2) = some (0, 5) ∧ kd sh (a + 3) = some (0, 5)
def LeagueAt (sh : List SC) (a : Nat) : Prop := kd sh a = some (1 + 7, 0) ∧ rf sh a 1 = some (a + 1) ∧ rf sh a 2 = some (a + 2) ∧ rf sh a 3 = some (a + 3) ∧ kd sh (a + 1) = some (0, 4) ∧ kd sh (a + 2) = some (0, 4) ∧ kd sh (a + 3) = some (0, 4)
def ProgramAt (sh : List SC) (a : Nat) : Prop := kd sh a = some (3 + 7, 0) ∧ rf sh a 1 = some (a + 1) ∧ rf sh a 2 = some (a + 2) ∧ rf sh a 4 = some (a + 3) ∧ rf sh a 5 = some (a + 4) ∧ rf sh a 7 = some (a + 5) ∧ rf sh a 8 = some (a + 6) ∧ rf sh a 10 = some (a + 7) ∧ rf sh a 11 = some (a + 8) ∧ rf sh a 12 = some (a + 9) ∧ rf sh a 14 = some (a + 10) ∧ rf sh a 16 = some (a + 11) ∧ rf sh a 17 = some (a + 12) ∧ rf sh a 18 = some (a + 13) ∧ rf sh a 19 = some (a + 14) ∧ kd sh (a + 1) = some (1, 8) ∧ kd sh (a + 2) = some (0, 9) ∧ kd sh (a + 3) = some (0, 97) ∧ kd sh (a + 4) = some (0, 97) ∧ kd sh (a + 5) = some (0, 400) ∧ kd sh (a + 6) = some (0, 400) ∧ kd sh (a + 7) = some (0, 400) ∧ kd sh (a + 8) = some (1, 400) ∧ kd sh (a + 9) = some (0, 400) ∧ kd sh (a + 10) = some (0, 401) ∧ kd sh (a + 11) = some (0, 400) ∧ kd sh (a + 12) = some (0, 400) ∧ kd sh (a + 13) = some (0, 400) ∧ kd sh (a + 14) = some (0, 400)
def ReaderAt (sh : List SC) (a : Nat) : Prop := kd sh a = some (4 + 7, 0) ∧ rf sh a 0 = some (a + 1) ∧ rf sh a 1 = some (a + 2) ∧ rf sh a 2 = some (a + 3) ∧ rf sh a 3 = some (a + 4) ∧ rf sh a 4 = some (a + 5) ∧ kd sh (a + 1) = some (0, 800) ∧ kd sh (a + 2) = some (1, 25) ∧ kd sh (a + 3) = some (0, 801) ∧ kd sh (a + 4) = some (1, 801) ∧ kd sh (a + 5) = some (0, 801)
def GlobAt (sh : List SC) : Prop := kd sh 8 = some (3, 6) ∧ (∀ r, r < 6 → rf sh 8 r = some (16 + 15 * r) ∧ ProgramAt sh (16 + 15 * r)) ∧ kd sh 9 = some (4, 4) ∧ (∀ r, r < 4 → rf sh 9 r = some (106 + 4 * r) ∧ TeamAt sh (106 + 4 * r))
def MatchAt (sh : List SC) (a : Nat) : Prop := kd sh a = some (2 + 7, 0) ∧ rf sh a 0 = some 9 ∧ rf sh a 1 = some 8 ∧ rf sh a 2 = some (a + 1) ∧ rf sh a 3 = some (a + 3) ∧ rf sh a 4 = some (a + 4) ∧ rf sh a 5 = some (a + 7) ∧ kd sh (a + 3) = some (6, 10) ∧ (∀ r, r < 10 → rf sh (a + 3) r = some (a + 10 + 2 * r) ∧ RobotAt sh (a + 10 + 2 * r)) ∧ BallAt sh (a + 4) ∧ TallyAt sh (a + 7) ∧ RunnerAt sh (a + 1) ∧ GlobAt sh
def PitchAt (sh : List SC) : Prop := kd sh 0 = some (9 + 7, 0) ∧ rf sh 0 0 = some 1 ∧ rf sh 0 1 = some 2 ∧ rf sh 0 2 = some 8 ∧ rf sh 0 3 = some 9 ∧ rf sh 0 4 = some 122 ∧ rf sh 0 5 = some 152 ∧ rf sh 0 6 = some 10 ∧ rf sh 0 7 = some 11 ∧ rf sh 0 8 = some 15 ∧ kd sh 1 = some (0, 5) ∧ kd sh 15 = some (0, 20) ∧ kd sh 10 = some (5, 2) ∧ (∀ r, r < 2 → rf sh 10 r = some (182 + 30 * r) ∧ MatchAt sh (182 + 30 * r)) ∧ ReaderAt sh 2 ∧ LeagueAt sh 11 ∧ MatchAt sh 122 ∧ MatchAt sh 152 ∧ GlobAt sh
def ModelAt (sh : List SC) (mA oA : Nat) : Prop := kd sh 242 = some (10 + 7, 0) ∧ rf sh 242 0 = some 243 ∧ rf sh 242 9 = some 244 ∧ rf sh 242 10 = some 245 ∧ rf sh 242 12 = some 246 ∧ rf sh 242 13 = some 247 ∧ rf sh 242 14 = some 248 ∧ rf sh 242 16 = some 249 ∧ rf sh 242 17 = some 250 ∧ rf sh 242 18 = some 251 ∧ rf sh 242 19 = some 252 ∧ rf sh 242 21 = some 253 ∧ rf sh 242 22 = some 254 ∧ rf sh 242 23 = some 255 ∧ rf sh 242 24 = some 256 ∧ rf sh 242 25 = some 257 ∧ rf sh 242 26 = some 258 ∧ rf sh 242 27 = some mA ∧ rf sh 242 28 = some oA ∧ rf sh 242 29 = some 261 ∧ rf sh 242 38 = some 262 ∧ rf sh 242 39 = some 263 ∧ rf sh 242 40 = some 264 ∧ rf sh 242 43 = some 265 ∧ rf sh 242 44 = some 266 ∧ rf sh 242 45 = some 267 ∧ rf sh 242 47 = some 268 ∧ kd sh 243 = some (0, 800) ∧ kd sh 244 = some (0, 4800) ∧ kd sh 245 = some (0, 4800) ∧ kd sh 246 = some (0, 6) ∧ kd sh 247 = some (0, 48) ∧ kd sh 248 = some (1, 8) ∧ kd sh 249 = some (1, 800) ∧ kd sh 250 = some (0, 800) ∧ kd sh 251 = some (0, 800) ∧ kd sh 252 = some (2, 800) ∧ kd sh 253 = some (0, 6) ∧ kd sh 254 = some (0, 20) ∧ kd sh 255 = some (0, 20) ∧ kd sh 256 = some (0, 20) ∧ kd sh 257 = some (0, 4) ∧ kd sh 258 = some (0, 4) ∧ kd sh 261 = some (0, 424) ∧ kd sh 262 = some (0, 10) ∧ kd sh 263 = some (0, 10) ∧ kd sh 264 = some (0, 10) ∧ kd sh 265 = some (0, 4) ∧ kd sh 266 = some (0, 4) ∧ kd sh 267 = some (0, 4) ∧ kd sh 268 = some (0, 20) ∧ kd sh mA = some (0, 212) ∧ kd sh oA = some (0, 212)
theorem vp_lt {i : Int32} {n : Nat} (h : vp_in i n) : i.toNatClampNeg < n := Nat.not_le.mp (fun q => h (Or.inr q))
section GE
variable {k : MT} {Q : Po} {pc pc' : Nat} {ls : List (Option Value)} {st : List Value} {sh : List SC} {M : Mem} {n1 n2 : Nat} {idx c j t a n : Nat} {fin : Bool}
theorem r_getIe {v : Int32} (hd : Inx k pc (.getfield idx) 3 pc') (hl : FL k.1.cls idx c j t fin) (ht : t ≠ 1 ∧ t ≠ 2) (hk : kd sh a = some (c + 7, 0)) (hv : M.1 a j = v) (h : WP k Q pc' ls (.int v :: st) sh M n1 n2) : WP k Q pc ls (.ref a :: st) sh M n1 n2 := by
  subst hv; exact r_getI hd hl ht hk h
theorem r_getJe {v : Int64} (hd : Inx k pc (.getfield idx) 3 pc') (hl : FL k.1.cls idx c j 1 fin) (hk : kd sh a = some (c + 7, 0)) (hv : M.2 a j = v) (h : WP k Q pc' ls (.long v :: st) sh M n1 n2) : WP k Q pc ls (.ref a :: st) sh M n1 n2 := by
  subst hv; exact r_getJ hd hl hk h
theorem r_ialoade {i v : Int32} (hd : Inx k pc .iaload 1 pc') (ha : kd sh a = some (0, n)) (hi : vp_in i n) (hv : M.1 a i.toNatClampNeg = v) (h : WP k Q pc' ls (.int v :: st) sh M n1 n2) : WP k Q pc ls (.int i :: .ref a :: st) sh M n1 n2 := by
  subst hv; exact r_iaload hd ha hi h
theorem r_laloade {i : Int32} {v : Int64} (hd : Inx k pc .laload 1 pc') (ha : kd sh a = some (1, n)) (hi : vp_in i n) (hv : M.2 a i.toNatClampNeg = v) (h : WP k Q pc' ls (.long v :: st) sh M n1 n2) : WP k Q pc ls (.int i :: .ref a :: st) sh M n1 n2 := by
  subst hv; exact r_laload hd ha hi h
theorem i_nlt {x : Int32} (h : 0 ≤ x) : ¬ x < 0 := by
  rw [Int32.le_iff_toInt_le] at h; rw [Int32.lt_iff_toInt_lt]; omega
theorem i_nle {x y : Int32} (h : x < y) : ¬ y ≤ x := by
  rw [Int32.lt_iff_toInt_lt] at h; rw [Int32.le_iff_toInt_le]; omega
theorem vp_guard {i : Int32} {n : Nat} (h1 : ¬ i < 0) (h2 : ¬ Int32.ofNat n ≤ i) (hn : n < 2 ^ 31) : vp_in i n := by
  obtain ⟨j, hj, rfl⟩ := nI_of h1
  refine vp_in_nI ?_ hn
  rcases Nat.lt_or_ge j n with q | q
  · exact q
  · exact absurd (nI_le q hj) h2
end GE

theorem d_2_1 {k : MT} {Q : Po} {pc : Nat} {st : List Value} {sh : List SC} {M : Mem} {n1 n2 : Nat} {v0 v1 : Option Value} (h : WP k Q pc [v0, none] st sh M n1 n2) : WP k Q pc [v0, v1] st sh M n1 n2 := WP_dropI (i := 1) h
theorem d_3_1 {k : MT} {Q : Po} {pc : Nat} {st : List Value} {sh : List SC} {M : Mem} {n1 n2 : Nat} {v0 v1 v2 : Option Value} (h : WP k Q pc [v0, none, v2] st sh M n1 n2) : WP k Q pc [v0, v1, v2] st sh M n1 n2 := WP_dropI (i := 1) h
theorem d_3_2 {k : MT} {Q : Po} {pc : Nat} {st : List Value} {sh : List SC} {M : Mem} {n1 n2 : Nat} {v0 v1 v2 : Option Value} (h : WP k Q pc [v0, v1, none] st sh M n1 n2) : WP k Q pc [v0, v1, v2] st sh M n1 n2 := WP_dropI (i := 2) h
theorem d_4_2 {k : MT} {Q : Po} {pc : Nat} {st : List Value} {sh : List SC} {M : Mem} {n1 n2 : Nat} {v0 v1 v2 v3 : Option Value} (h : WP k Q pc [v0, v1, none, v3] st sh M n1 n2) : WP k Q pc [v0, v1, v2, v3] st sh M n1 n2 := WP_dropI (i := 2) h
theorem d_4_3 {k : MT} {Q : Po} {pc : Nat} {st : List Value} {sh : List SC} {M : Mem} {n1 n2 : Nat} {v0 v1 v2 v3 : Option Value} (h : WP k Q pc [v0, v1, v2, none] st sh M n1 n2) : WP k Q pc [v0, v1, v2, v3] st sh M n1 n2 := WP_dropI (i := 3) h
theorem d_5_3 {k : MT} {Q : Po} {pc : Nat} {st : List Value} {sh : List SC} {M : Mem} {n1 n2 : Nat} {v0 v1 v2 v3 v4 : Option Value} (h : WP k Q pc [v0, v1, v2, none, v4] st sh M n1 n2) : WP k Q pc [v0, v1, v2, v3, v4] st sh M n1 n2 := WP_dropI (i := 3) h
theorem d_5_4 {k : MT} {Q : Po} {pc : Nat} {st : List Value} {sh : List SC} {M : Mem} {n1 n2 : Nat} {v0 v1 v2 v3 v4 : Option Value} (h : WP k Q pc [v0, v1, v2, v3, none] st sh M n1 n2) : WP k Q pc [v0, v1, v2, v3, v4] st sh M n1 n2 := WP_dropI (i := 4) h
theorem d_6_2 {k : MT} {Q : Po} {pc : Nat} {st : List Value} {sh : List SC} {M : Mem} {n1 n2 : Nat} {v0 v1 v2 v3 v4 v5 : Option Value} (h : WP k Q pc [v0, v1, none, v3, v4, v5] st sh M n1 n2) : WP k Q pc [v0, v1, v2, v3, v4, v5] st sh M n1 n2 := WP_dropI (i := 2) h
theorem d_6_3 {k : MT} {Q : Po} {pc : Nat} {st : List Value} {sh : List SC} {M : Mem} {n1 n2 : Nat} {v0 v1 v2 v3 v4 v5 : Option Value} (h : WP k Q pc [v0, v1, v2, none, v4, v5] st sh M n1 n2) : WP k Q pc [v0, v1, v2, v3, v4, v5] st sh M n1 n2 := WP_dropI (i := 3) h
theorem d_6_4 {k : MT} {Q : Po} {pc : Nat} {st : List Value} {sh : List SC} {M : Mem} {n1 n2 : Nat} {v0 v1 v2 v3 v4 v5 : Option Value} (h : WP k Q pc [v0, v1, v2, v3, none, v5] st sh M n1 n2) : WP k Q pc [v0, v1, v2, v3, v4, v5] st sh M n1 n2 := WP_dropI (i := 4) h
theorem d_6_5 {k : MT} {Q : Po} {pc : Nat} {st : List Value} {sh : List SC} {M : Mem} {n1 n2 : Nat} {v0 v1 v2 v3 v4 v5 : Option Value} (h : WP k Q pc [v0, v1, v2, v3, v4, none] st sh M n1 n2) : WP k Q pc [v0, v1, v2, v3, v4, v5] st sh M n1 n2 := WP_dropI (i := 5) h
theorem d_7_5 {k : MT} {Q : Po} {pc : Nat} {st : List Value} {sh : List SC} {M : Mem} {n1 n2 : Nat} {v0 v1 v2 v3 v4 v5 v6 : Option Value} (h : WP k Q pc [v0, v1, v2, v3, v4, none, v6] st sh M n1 n2) : WP k Q pc [v0, v1, v2, v3, v4, v5, v6] st sh M n1 n2 := WP_dropI (i := 5) h
theorem d_7_6 {k : MT} {Q : Po} {pc : Nat} {st : List Value} {sh : List SC} {M : Mem} {n1 n2 : Nat} {v0 v1 v2 v3 v4 v5 v6 : Option Value} (h : WP k Q pc [v0, v1, v2, v3, v4, v5, none] st sh M n1 n2) : WP k Q pc [v0, v1, v2, v3, v4, v5, v6] st sh M n1 n2 := WP_dropI (i := 6) h
theorem d_8_5 {k : MT} {Q : Po} {pc : Nat} {st : List Value} {sh : List SC} {M : Mem} {n1 n2 : Nat} {v0 v1 v2 v3 v4 v5 v6 v7 : Option Value} (h : WP k Q pc [v0, v1, v2, v3, v4, none, v6, v7] st sh M n1 n2) : WP k Q pc [v0, v1, v2, v3, v4, v5, v6, v7] st sh M n1 n2 := WP_dropI (i := 5) h
theorem d_8_6 {k : MT} {Q : Po} {pc : Nat} {st : List Value} {sh : List SC} {M : Mem} {n1 n2 : Nat} {v0 v1 v2 v3 v4 v5 v6 v7 : Option Value} (h : WP k Q pc [v0, v1, v2, v3, v4, v5, none, v7] st sh M n1 n2) : WP k Q pc [v0, v1, v2, v3, v4, v5, v6, v7] st sh M n1 n2 := WP_dropI (i := 6) h
theorem d_8_7 {k : MT} {Q : Po} {pc : Nat} {st : List Value} {sh : List SC} {M : Mem} {n1 n2 : Nat} {v0 v1 v2 v3 v4 v5 v6 v7 : Option Value} (h : WP k Q pc [v0, v1, v2, v3, v4, v5, v6, none] st sh M n1 n2) : WP k Q pc [v0, v1, v2, v3, v4, v5, v6, v7] st sh M n1 n2 := WP_dropI (i := 7) h
theorem d_10_6 {k : MT} {Q : Po} {pc : Nat} {st : List Value} {sh : List SC} {M : Mem} {n1 n2 : Nat} {v0 v1 v2 v3 v4 v5 v6 v7 v8 v9 : Option Value} (h : WP k Q pc [v0, v1, v2, v3, v4, v5, none, v7, v8, v9] st sh M n1 n2) : WP k Q pc [v0, v1, v2, v3, v4, v5, v6, v7, v8, v9] st sh M n1 n2 := WP_dropI (i := 6) h
theorem d_10_7 {k : MT} {Q : Po} {pc : Nat} {st : List Value} {sh : List SC} {M : Mem} {n1 n2 : Nat} {v0 v1 v2 v3 v4 v5 v6 v7 v8 v9 : Option Value} (h : WP k Q pc [v0, v1, v2, v3, v4, v5, v6, none, v8, v9] st sh M n1 n2) : WP k Q pc [v0, v1, v2, v3, v4, v5, v6, v7, v8, v9] st sh M n1 n2 := WP_dropI (i := 7) h
theorem d_10_8 {k : MT} {Q : Po} {pc : Nat} {st : List Value} {sh : List SC} {M : Mem} {n1 n2 : Nat} {v0 v1 v2 v3 v4 v5 v6 v7 v8 v9 : Option Value} (h : WP k Q pc [v0, v1, v2, v3, v4, v5, v6, v7, none, v9] st sh M n1 n2) : WP k Q pc [v0, v1, v2, v3, v4, v5, v6, v7, v8, v9] st sh M n1 n2 := WP_dropI (i := 8) h
theorem d_10_9 {k : MT} {Q : Po} {pc : Nat} {st : List Value} {sh : List SC} {M : Mem} {n1 n2 : Nat} {v0 v1 v2 v3 v4 v5 v6 v7 v8 v9 : Option Value} (h : WP k Q pc [v0, v1, v2, v3, v4, v5, v6, v7, v8, none] st sh M n1 n2) : WP k Q pc [v0, v1, v2, v3, v4, v5, v6, v7, v8, v9] st sh M n1 n2 := WP_dropI (i := 9) h
theorem d_11_7 {k : MT} {Q : Po} {pc : Nat} {st : List Value} {sh : List SC} {M : Mem} {n1 n2 : Nat} {v0 v1 v2 v3 v4 v5 v6 v7 v8 v9 v10 : Option Value} (h : WP k Q pc [v0, v1, v2, v3, v4, v5, v6, none, v8, v9, v10] st sh M n1 n2) : WP k Q pc [v0, v1, v2, v3, v4, v5, v6, v7, v8, v9, v10] st sh M n1 n2 := WP_dropI (i := 7) h
theorem d_11_8 {k : MT} {Q : Po} {pc : Nat} {st : List Value} {sh : List SC} {M : Mem} {n1 n2 : Nat} {v0 v1 v2 v3 v4 v5 v6 v7 v8 v9 v10 : Option Value} (h : WP k Q pc [v0, v1, v2, v3, v4, v5, v6, v7, none, v9, v10] st sh M n1 n2) : WP k Q pc [v0, v1, v2, v3, v4, v5, v6, v7, v8, v9, v10] st sh M n1 n2 := WP_dropI (i := 8) h
theorem d_11_9 {k : MT} {Q : Po} {pc : Nat} {st : List Value} {sh : List SC} {M : Mem} {n1 n2 : Nat} {v0 v1 v2 v3 v4 v5 v6 v7 v8 v9 v10 : Option Value} (h : WP k Q pc [v0, v1, v2, v3, v4, v5, v6, v7, v8, none, v10] st sh M n1 n2) : WP k Q pc [v0, v1, v2, v3, v4, v5, v6, v7, v8, v9, v10] st sh M n1 n2 := WP_dropI (i := 9) h
theorem d_11_10 {k : MT} {Q : Po} {pc : Nat} {st : List Value} {sh : List SC} {M : Mem} {n1 n2 : Nat} {v0 v1 v2 v3 v4 v5 v6 v7 v8 v9 v10 : Option Value} (h : WP k Q pc [v0, v1, v2, v3, v4, v5, v6, v7, v8, v9, none] st sh M n1 n2) : WP k Q pc [v0, v1, v2, v3, v4, v5, v6, v7, v8, v9, v10] st sh M n1 n2 := WP_dropI (i := 10) h
def V_X4_pack (x1 : Int64) (x2 : Int32) (M : Mem) : Int64 := ((x1 * (32 : Int64)) + ((x2 - (97 : Int32)) + (1 : Int32)).toInt64)
theorem S_X4_pack {sh : List SC} {M : Mem} {x1 : Int64} {x2 : Int32}    : Gv m_X4_pack [.long x1, .int x2] sh M (.long (V_X4_pack x1 x2 M)) M := by
  refine Sp.of (ls := [some (.long x1), none, some (.int x2)]) (by decide +kernel) (Nat.le_of_ble_eq_true rfl) rfl ?_
  refine r_lload_n e_X4_pack_0 rfl ?_
  refine r_ldc2 e_X4_pack_1 lc_X4_104 ?_
  refine r_lmul e_X4_pack_4 ?_
  refine r_iload_n e_X4_pack_5 rfl ?_
  refine r_bipush e_X4_pack_6 bp_97 ?_
  refine r_isub e_X4_pack_8 ?_
  refine r_iconst e_X4_pack_9 ic_1 ?_
  refine r_iadd e_X4_pack_10 ?_
  refine r_i2l e_X4_pack_11 ?_
  refine r_ladd e_X4_pack_12 ?_
  refine r_lreturn e_X4_pack_13 rfl ⟨rfl, rfl⟩ ?_
  (refine ⟨?_, rfl, ?_⟩ <;> ((try unfold V_X4_pack); (try simp only []); (try rfl)))
def V_X10_at (x1 : Nat) (x2 : Int32) (n1 : Nat) (M : Mem) : Int32 := (let v0_0 : Int32 := if x2 < 0 then (0 : Int32) else (if (Int32.ofNat n1) ≤ x2 then (0 : Int32) else (M.1 x1 x2.toNatClampNeg)); v0_0)
theorem S_X10_at {sh : List SC} {M : Mem} {x1 : Nat} {x2 : Int32} {n1 : Nat}  (g1 : kd sh x1 = some (0, n1)) (g2 : n1 < 2 ^ 31) : Gv m_X10_at [.ref x1, .int x2] sh M (.int (V_X10_at x1 x2 n1 M)) M := by
  refine Sp.of (ls := [some (.ref x1), some (.int x2)]) (by decide +kernel) (Nat.le_of_ble_eq_true rfl) rfl ?_
  refine r_iload_n e_X10_at_0 rfl ?_
  obtain ⟨v0_0, e_v0_0⟩ : ∃ z : Int32, z = (if x2 < 0 then (0 : Int32) else (if (Int32.ofNat n1) ≤ x2 then (0 : Int32) else (M.1 x1 x2.toNatClampNeg))) := ⟨_, rfl⟩
  suffices j17_0 : WP m_X10_at (fun r sh' M'' => r = some (.int (V_X10_at x1 x2 n1 M)) ∧ sh' = sh ∧ M'' = M) 17 [some (.ref x1), some (.int x2)] [.int v0_0] sh M 0 0 by
    refine r_if_lt e_X10_at_1 (fun h1_0 => ?_) (fun h1_0 => ?_)
    · refine r_iconst e_X10_at_16 ic_0 ?_
      (rw [show v0_0 = (0 : Int32) from (e_v0_0.trans (if_pos h1_0))] at j17_0; exact j17_0)
    · refine r_iload_n e_X10_at_4 rfl ?_
      refine r_aload_n e_X10_at_5 rfl ?_
      refine r_alen (v := (Int32.ofNat n1)) e_X10_at_6 g1 (by decide) rfl ?_
      refine r_icmp_ge e_X10_at_7 (fun h7_1 => ?_) (fun h7_1 => ?_)
      · refine r_iconst e_X10_at_16 ic_0 ?_
        (rw [show v0_0 = (0 : Int32) from ((e_v0_0.trans (if_neg h1_0)).trans (if_pos h7_1))] at j17_0; exact j17_0)
      · refine r_aload_n e_X10_at_10 rfl ?_
        refine r_iload_n e_X10_at_11 rfl ?_
        refine r_iaload e_X10_at_12 g1 (vp_guard h1_0 h7_1 (by with_reducible assumption)) ?_
        refine r_goto e_X10_at_13 ?_
        (rw [show v0_0 = (M.1 x1 x2.toNatClampNeg) from ((e_v0_0.trans (if_neg h1_0)).trans (if_neg h7_1))] at j17_0; exact j17_0)
  refine r_ireturn e_X10_at_17 rfl ⟨rfl, rfl⟩ ?_
  (subst e_v0_0; refine ⟨?_, rfl, ?_⟩ <;> ((try unfold V_X10_at); (try simp only []); (try rfl)))
def V_X10_finding (x1 : Int32) (M : Mem) : Int32 := if ((-1001 : Int32) - x1) < 0 then x1 else (if (5 : Int32) ≤ ((-1001 : Int32) - x1) then x1 else x1)
def U_X10_finding (x1 : Int32) (M : Mem) : Mem := if ((-1001 : Int32) - x1) < 0 then M else (if (5 : Int32) ≤ ((-1001 : Int32) - x1) then M else (setI M 1 ((-1001 : Int32) - x1).toNatClampNeg ((M.1 1 ((-1001 : Int32) - x1).toNatClampNeg) + (1 : Int32))))
theorem S_X10_finding {sh : List SC} {M : Mem} {x1 : Int32}  (hb1 : PitchAt sh)  : Gv m_X10_finding [.ref 0, .int x1] sh M (.int (V_X10_finding x1 M)) (U_X10_finding x1 M) := by
  refine Sp.of (ls := [some (.ref 0), some (.int x1), none]) (by decide +kernel) (Nat.le_of_ble_eq_true rfl) rfl ?_
  have k0 : kd sh 0 = some (9 + 7, 0) := hb1.1
  have k1 : rf sh 0 0 = some 1 := hb1.2.1
  have k2 : kd sh 1 = some (0, 5) := hb1.2.2.2.2.2.2.2.2.2.2.1
  refine r_sipush e_X10_finding_0 sp_m1001 ?_
  refine r_iload_n e_X10_finding_3 rfl ?_
  refine r_isub e_X10_finding_4 ?_
  refine p_istore_n_3_2 e_X10_finding_5 rfl rfl ?_
  refine r_iload_n e_X10_finding_6 rfl ?_
  refine r_if_lt e_X10_finding_7 (fun h7_0 => ?_) (fun h7_0 => ?_)
  · refine r_iload_n e_X10_finding_29 rfl ?_
    refine r_ireturn e_X10_finding_30 rfl ⟨rfl, rfl⟩ ?_
    (refine ⟨?_, rfl, ?_⟩ <;> ((try unfold V_X10_finding); (try unfold U_X10_finding); (try simp only [if_pos h7_0]); (try rfl)))
  · refine r_iload_n e_X10_finding_10 rfl ?_
    refine r_aload_n e_X10_finding_11 rfl ?_
    refine r_getR e_X10_finding_12 fl_X10_9 k0 k1 ?_
    refine r_alen (v := (5 : Int32)) e_X10_finding_15 k2 (by decide) rfl ?_
    refine r_icmp_ge e_X10_finding_16 (fun h16_1 => ?_) (fun h16_1 => ?_)
    · refine r_iload_n e_X10_finding_29 rfl ?_
      refine r_ireturn e_X10_finding_30 rfl ⟨rfl, rfl⟩ ?_
      (refine ⟨?_, rfl, ?_⟩ <;> ((try unfold V_X10_finding); (try unfold U_X10_finding); (try simp only [if_neg h7_0, if_pos h16_1]); (try rfl)))
    · refine r_aload_n e_X10_finding_19 rfl ?_
      refine r_getR e_X10_finding_20 fl_X10_9 k0 k1 ?_
      refine r_iload_n e_X10_finding_23 rfl ?_
      refine r_dup2 e_X10_finding_24 rfl rfl ?_
      refine r_iaload e_X10_finding_25 k2 (vp_guard h7_0 h16_1 (by decide)) ?_
      refine r_iconst e_X10_finding_26 ic_1 ?_
      refine r_iadd e_X10_finding_27 ?_
      refine r_iastore e_X10_finding_28 k2 (vp_guard h7_0 h16_1 (by decide)) ?_
      refine r_iload_n e_X10_finding_29 rfl ?_
      refine r_ireturn e_X10_finding_30 rfl ⟨rfl, rfl⟩ ?_
      (refine ⟨?_, rfl, ?_⟩ <;> ((try unfold V_X10_finding); (try unfold U_X10_finding); (try simp only [if_neg h7_0, if_neg h16_1]); (try rfl)))
def V_X4_length (a : Nat) (M : Mem) : Int32 := (M.1 a 5)
theorem S_X4_length {sh : List SC} {M : Mem} {a : Nat}  (hb1 : ReaderAt sh a)  : Gv m_X4_length [.ref a] sh M (.int (V_X4_length a M)) M := by
  refine Sp.of (ls := [some (.ref a)]) (by decide +kernel) (Nat.le_of_ble_eq_true rfl) rfl ?_
  have k0 : kd sh a = some (4 + 7, 0) := hb1.1
  refine r_aload_n e_X4_length_0 rfl ?_
  refine r_getI e_X4_length_1 fl_X4_30 i0 k0 ?_
  refine r_ireturn e_X4_length_4 rfl ⟨rfl, rfl⟩ ?_
  (refine ⟨?_, rfl, ?_⟩ <;> ((try unfold V_X4_length); (try simp only []); (try rfl)))
def U_X4_append (a : Nat) (x1 : Int32) (M : Mem) : Mem := (let M0_0 : Mem := if (800 : Int32) ≤ (M.1 a 5) then M else (setI (setI M (a + 1) (M.1 a 5).toNatClampNeg x1) a 5 ((M.1 a 5) + (1 : Int32))); M0_0)
theorem S_X4_append {sh : List SC} {M : Mem} {a : Nat} {x1 : Int32}  (hb1 : ReaderAt sh a) (g1 : ¬ (M.1 a 5) < 0) : Gu m_X4_append [.ref a, .int x1] sh M (U_X4_append a x1 M) := by
  refine Sp.of (ls := [some (.ref a), some (.int x1)]) (by decide +kernel) (Nat.le_of_ble_eq_true rfl) rfl ?_
  have k0 : kd sh a = some (4 + 7, 0) := hb1.1
  have k1 : rf sh a 0 = some (a + 1) := hb1.2.1
  have k2 : kd sh (a + 1) = some (0, 800) := hb1.2.2.2.2.2.2.1
  refine r_aload_n e_X4_append_0 rfl ?_
  refine r_getI e_X4_append_1 fl_X4_30 i0 k0 ?_
  refine r_aload_n e_X4_append_4 rfl ?_
  refine r_getR e_X4_append_5 fl_X4_9 k0 k1 ?_
  refine r_alen (v := (800 : Int32)) e_X4_append_8 k2 (by decide) rfl ?_
  obtain ⟨M0_0, e_M0_0⟩ : ∃ z : Mem, z = (if (800 : Int32) ≤ (M.1 a 5) then M else (setI (setI M (a + 1) (M.1 a 5).toNatClampNeg x1) a 5 ((M.1 a 5) + (1 : Int32)))) := ⟨_, rfl⟩
  suffices j32_0 : WP m_X4_append (fun r sh' M'' => r = none ∧ sh' = sh ∧ M'' = (U_X4_append a x1 M)) 32 [some (.ref a), some (.int x1)] [] sh M0_0 0 0 by
    refine r_icmp_ge e_X4_append_9 (fun h9_0 => ?_) (fun h9_0 => ?_)
    · (rw [show M0_0 = M from (e_M0_0.trans (if_pos h9_0))] at j32_0; exact j32_0)
    · refine r_aload_n e_X4_append_12 rfl ?_
      refine r_getR e_X4_append_13 fl_X4_9 k0 k1 ?_
      refine r_aload_n e_X4_append_16 rfl ?_
      refine r_getI e_X4_append_17 fl_X4_30 i0 k0 ?_
      refine r_iload_n e_X4_append_20 rfl ?_
      refine r_iastore e_X4_append_21 k2 (vp_guard g1 h9_0 (by decide)) ?_
      refine r_aload_n e_X4_append_22 rfl ?_
      refine r_dup e_X4_append_23 rfl ?_
      refine r_getIe e_X4_append_24 fl_X4_30 i0 k0 (gs_aI (by omega)) ?_
      refine r_iconst e_X4_append_27 ic_1 ?_
      refine r_iadd e_X4_append_28 ?_
      refine r_putI e_X4_append_29 fl_X4_30 k0 ?_
      (rw [show M0_0 = setI (setI M (a + 1) (M.1 a 5).toNatClampNeg x1) a 5 ((M.1 a 5) + (1 : Int32)) from (e_M0_0.trans (if_neg h9_0))] at j32_0; exact j32_0)
  refine r_return e_X4_append_32 rfl ⟨rfl, rfl⟩ ?_
  (subst e_M0_0; refine ⟨?_, rfl, ?_⟩ <;> ((try unfold U_X4_append); (try simp only []); (try rfl)))
def U_X3_clear (a : Nat) (M : Mem) : Mem := setI (setI (setI (setI (setI (setI M a 0 (0 : Int32)) a 3 (0 : Int32)) a 6 (0 : Int32)) a 9 (0 : Int32)) a 13 (0 : Int32)) a 15 (0 : Int32)
theorem S_X3_clear {sh : List SC} {M : Mem} {a : Nat}  (hb1 : ProgramAt sh a)  : Gu m_X3_clear [.ref a] sh M (U_X3_clear a M) := by
  refine Sp.of (ls := [some (.ref a)]) (by decide +kernel) (Nat.le_of_ble_eq_true rfl) rfl ?_
  have k0 : kd sh a = some (3 + 7, 0) := hb1.1
  refine r_aload_n e_X3_clear_0 rfl ?_
  refine r_iconst e_X3_clear_1 ic_0 ?_
  refine r_putI e_X3_clear_2 fl_X3_9 k0 ?_
  refine r_aload_n e_X3_clear_5 rfl ?_
  refine r_iconst e_X3_clear_6 ic_0 ?_
  refine r_putI e_X3_clear_7 fl_X3_23 k0 ?_
  refine r_aload_n e_X3_clear_10 rfl ?_
  refine r_iconst e_X3_clear_11 ic_0 ?_
  refine r_putI e_X3_clear_12 fl_X3_32 k0 ?_
  refine r_aload_n e_X3_clear_15 rfl ?_
  refine r_iconst e_X3_clear_16 ic_0 ?_
  refine r_putI e_X3_clear_17 fl_X3_41 k0 ?_
  refine r_aload_n e_X3_clear_20 rfl ?_
  refine r_iconst e_X3_clear_21 ic_0 ?_
  refine r_putI e_X3_clear_22 fl_X3_53 k0 ?_
  refine r_aload_n e_X3_clear_25 rfl ?_
  refine r_iconst e_X3_clear_26 ic_0 ?_
  refine r_putI e_X3_clear_27 fl_X3_59 k0 ?_
  refine r_return e_X3_clear_30 rfl ⟨rfl, rfl⟩ ?_
  (refine ⟨?_, rfl, ?_⟩ <;> ((try unfold U_X3_clear); (try simp only []); (try rfl)))
def V_X4_isLetter (x1 : Int32) (M : Mem) : Int32 := (let v0_0 : Int32 := if x1 < (97 : Int32) then (0 : Int32) else (if (122 : Int32) < x1 then (0 : Int32) else (1 : Int32)); v0_0)
theorem Z_X4_isLetter {M : Mem} {x1 : Int32}   : V_X4_isLetter x1 M = 0 ∨ V_X4_isLetter x1 M = 1 := (zi (Or.inl rfl) (zi (Or.inl rfl) (Or.inr rfl)))
theorem S_X4_isLetter {sh : List SC} {M : Mem} {x1 : Int32}    : Gv m_X4_isLetter [.int x1] sh M (.int (V_X4_isLetter x1 M)) M := by
  refine Sp.of (ls := [some (.int x1)]) (by decide +kernel) (Nat.le_of_ble_eq_true rfl) rfl ?_
  refine r_iload_n e_X4_isLetter_0 rfl ?_
  refine r_bipush e_X4_isLetter_1 bp_97 ?_
  obtain ⟨v0_0, e_v0_0⟩ : ∃ z : Int32, z = (if x1 < (97 : Int32) then (0 : Int32) else (if (122 : Int32) < x1 then (0 : Int32) else (1 : Int32))) := ⟨_, rfl⟩
  have z_v0_0 : v0_0 = 0 ∨ v0_0 = 1 := by rw [e_v0_0]; exact (zi (Or.inl rfl) (zi (Or.inl rfl) (Or.inr rfl)))
  suffices j17_0 : WP m_X4_isLetter (fun r sh' M'' => r = some (.int (V_X4_isLetter x1 M)) ∧ sh' = sh ∧ M'' = M) 17 [some (.int x1)] [.int v0_0] sh M 0 0 by
    refine r_icmp_lt e_X4_isLetter_3 (fun h3_0 => ?_) (fun h3_0 => ?_)
    · refine r_iconst e_X4_isLetter_16 ic_0 ?_
      (rw [show v0_0 = (0 : Int32) from (e_v0_0.trans (if_pos h3_0))] at j17_0; exact j17_0)
    · refine r_iload_n e_X4_isLetter_6 rfl ?_
      refine r_bipush e_X4_isLetter_7 bp_122 ?_
      refine r_icmp_gt e_X4_isLetter_9 (fun h9_1 => ?_) (fun h9_1 => ?_)
      · refine r_iconst e_X4_isLetter_16 ic_0 ?_
        (rw [show v0_0 = (0 : Int32) from ((e_v0_0.trans (if_neg h3_0)).trans (if_pos h9_1))] at j17_0; exact j17_0)
      · refine r_iconst e_X4_isLetter_12 ic_1 ?_
        refine r_goto e_X4_isLetter_13 ?_
        (rw [show v0_0 = (1 : Int32) from ((e_v0_0.trans (if_neg h3_0)).trans (if_neg h9_1))] at j17_0; exact j17_0)
  refine r_zreturn e_X4_isLetter_17 rfl ⟨rfl, rfl⟩ z_v0_0 ?_
  (subst e_v0_0; refine ⟨?_, rfl, ?_⟩ <;> ((try unfold V_X4_isLetter); (try simp only []); (try rfl)))
def FV_X4_kindOf_2 (a : Nat) (x1 : Int64) : Nat → Nat → Mem → Int32
  | 0, i2, M => (26 : Int32)
  | n + 1, i2, M => if (lg_cmp (M.2 (a + 2) i2) x1) = 0 then (nI i2) else (FV_X4_kindOf_2 a x1 n (i2 + 1) M)
theorem L_X4_kindOf_2 {sh : List SC} {Q : Po} {a : Nat} {x1 : Int64}    (hb1 : ReaderAt sh a)   : ∀ (n i2 : Nat) (M : Mem), i2 + n = 25 → Q (some (.int (FV_X4_kindOf_2 a x1 n i2 M))) sh M → WP m_X4_kindOf Q 2 [some (.ref a), some (.long x1), none, some (.int (nI i2))] [] sh M 0 0 := by
  have k0 : kd sh a = some (4 + 7, 0) := hb1.1
  have k1 : rf sh a 1 = some (a + 2) := hb1.2.2.1
  have k2 : kd sh (a + 2) = some (1, 25) := hb1.2.2.2.2.2.2.2.1
  intro n
  induction n with
  | zero =>
    intro i2 M hi hq
    have hz : (25 : Int32) ≤ nI i2 := by
      have q : i2 = 25 := by omega
      rw [q]; exact nI_le (Nat.le_refl _) (by decide)
    refine r_iload_n e_X4_kindOf_2 rfl ?_
    refine r_aload_n e_X4_kindOf_3 rfl ?_
    refine r_getR e_X4_kindOf_4 fl_X4_17 k0 k1 ?_
    refine r_alen (v := (25 : Int32)) e_X4_kindOf_7 k2 (by decide) rfl ?_
    refine r_icmp_ge e_X4_kindOf_8 (fun _ => ?_) (fun hh => absurd hz hh)
    refine r_bipush e_X4_kindOf_30 bp_26 ?_
    refine r_ireturn e_X4_kindOf_32 rfl ⟨rfl, rfl⟩ ?_
    (simp only [FV_X4_kindOf_2] at hq; first | exact hq | (simp only []; exact hq))
  | succ n ih =>
    intro i2 M hi hq
    have hlt_i2 : i2 < 25 := by omega
    have hcl_i2 : (nI i2).toNatClampNeg = i2 := nI_clamp (by omega)
    have hs : ¬ (25 : Int32) ≤ nI i2 := nI_ge (b := 25) hlt_i2 (by decide)
    refine r_iload_n e_X4_kindOf_2 rfl ?_
    refine r_aload_n e_X4_kindOf_3 rfl ?_
    refine r_getR e_X4_kindOf_4 fl_X4_17 k0 k1 ?_
    refine r_alen (v := (25 : Int32)) e_X4_kindOf_7 k2 (by decide) rfl ?_
    refine r_icmp_ge e_X4_kindOf_8 (fun hh => absurd hh hs) (fun _ => ?_)
    refine r_aload_n e_X4_kindOf_11 rfl ?_
    refine r_getR e_X4_kindOf_12 fl_X4_17 k0 k1 ?_
    refine r_iload_n e_X4_kindOf_15 rfl ?_
    refine r_laloade (v := (M.2 (a + 2) i2)) e_X4_kindOf_16 k2 (vp_in_nI (Nat.lt_of_lt_of_le hlt_i2 (by decide)) (by decide)) (by rw [hcl_i2]) ?_
    refine r_lload_n e_X4_kindOf_17 rfl ?_
    refine r_lcmp e_X4_kindOf_18 ?_
    refine r_if_ne e_X4_kindOf_19 (fun h19_200 => ?_) (fun h19_200 => ?_)
    · refine p_iinc_4_3 e_X4_kindOf_24 rfl ic_1 rfl ?_
      rw [nI_1 i2]
      refine r_goto e_X4_kindOf_27 ?_
      (simp only [FV_X4_kindOf_2, if_neg h19_200] at hq; first | exact ih (i2 + 1) _ (by omega) hq | (simp only [if_neg h19_200]; exact ih (i2 + 1) _ (by omega) hq))
    · refine r_iload_n e_X4_kindOf_22 rfl ?_
      refine r_ireturn e_X4_kindOf_23 rfl ⟨rfl, rfl⟩ ?_
      (simp only [FV_X4_kindOf_2, if_pos h19_200] at hq; first | exact hq | (simp only [if_pos h19_200]; exact hq))
def V_X4_kindOf (a : Nat) (x1 : Int64) (M : Mem) : Int32 := (FV_X4_kindOf_2 a x1 25 0 M)
theorem S_X4_kindOf {sh : List SC} {M : Mem} {a : Nat} {x1 : Int64}  (hb1 : ReaderAt sh a)  : Gv m_X4_kindOf [.ref a, .long x1] sh M (.int (V_X4_kindOf a x1 M)) M := by
  refine Sp.of (ls := [some (.ref a), some (.long x1), none, none]) (by decide +kernel) (Nat.le_of_ble_eq_true rfl) rfl ?_
  refine r_iconst e_X4_kindOf_0 ic_0 ?_
  refine p_istore_n_4_3 e_X4_kindOf_1 rfl rfl ?_
  skip
  show WP m_X4_kindOf _ 2 [some (.ref a), some (.long x1), none, some (.int (nI 0))] [] sh M 0 0
  refine L_X4_kindOf_2 hb1 25 0  M (by omega) ?_
  (refine ⟨?_, rfl, ?_⟩ <;> ((try unfold V_X4_kindOf); (try simp only []); (try rfl)))
def U_X4_addWord (a : Nat) (x1 : Int32) (x2 : Int64) (x3 : Int32) (M : Mem) : Mem := (let M0_0 : Mem := if (801 : Int32) ≤ (M.1 a 6) then M else (setI (setI (setJ (setI M (a + 3) (M.1 a 6).toNatClampNeg x1) (a + 4) (M.1 a 6).toNatClampNeg x2) (a + 5) (M.1 a 6).toNatClampNeg x3) a 6 ((M.1 a 6) + (1 : Int32))); M0_0)
theorem S_X4_addWord {sh : List SC} {M : Mem} {a : Nat} {x1 : Int32} {x2 : Int64} {x3 : Int32}  (hb1 : ReaderAt sh a) (g1 : ¬ (M.1 a 6) < 0) : Gu m_X4_addWord [.ref a, .int x1, .long x2, .int x3] sh M (U_X4_addWord a x1 x2 x3 M) := by
  refine Sp.of (ls := [some (.ref a), some (.int x1), some (.long x2), none, some (.int x3)]) (by decide +kernel) (Nat.le_of_ble_eq_true rfl) rfl ?_
  have k0 : kd sh a = some (4 + 7, 0) := hb1.1
  have k1 : rf sh a 2 = some (a + 3) := hb1.2.2.2.1
  have k2 : kd sh (a + 3) = some (0, 801) := hb1.2.2.2.2.2.2.2.2.1
  have k3 : rf sh a 3 = some (a + 4) := hb1.2.2.2.2.1
  have k4 : kd sh (a + 4) = some (1, 801) := hb1.2.2.2.2.2.2.2.2.2.1
  have k5 : rf sh a 4 = some (a + 5) := hb1.2.2.2.2.2.1
  have k6 : kd sh (a + 5) = some (0, 801) := hb1.2.2.2.2.2.2.2.2.2.2
  refine r_aload_n e_X4_addWord_0 rfl ?_
  refine r_getI e_X4_addWord_1 fl_X4_34 i0 k0 ?_
  refine r_aload_n e_X4_addWord_4 rfl ?_
  refine r_getR e_X4_addWord_5 fl_X4_21 k0 k1 ?_
  refine r_alen (v := (801 : Int32)) e_X4_addWord_8 k2 (by decide) rfl ?_
  obtain ⟨M0_0, e_M0_0⟩ : ∃ z : Mem, z = (if (801 : Int32) ≤ (M.1 a 6) then M else (setI (setI (setJ (setI M (a + 3) (M.1 a 6).toNatClampNeg x1) (a + 4) (M.1 a 6).toNatClampNeg x2) (a + 5) (M.1 a 6).toNatClampNeg x3) a 6 ((M.1 a 6) + (1 : Int32)))) := ⟨_, rfl⟩
  suffices j53_0 : WP m_X4_addWord (fun r sh' M'' => r = none ∧ sh' = sh ∧ M'' = (U_X4_addWord a x1 x2 x3 M)) 53 [some (.ref a), some (.int x1), some (.long x2), none, some (.int x3)] [] sh M0_0 0 0 by
    refine r_icmp_ge e_X4_addWord_9 (fun h9_0 => ?_) (fun h9_0 => ?_)
    · (rw [show M0_0 = M from (e_M0_0.trans (if_pos h9_0))] at j53_0; exact j53_0)
    · refine r_aload_n e_X4_addWord_12 rfl ?_
      refine r_getR e_X4_addWord_13 fl_X4_21 k0 k1 ?_
      refine r_aload_n e_X4_addWord_16 rfl ?_
      refine r_getI e_X4_addWord_17 fl_X4_34 i0 k0 ?_
      refine r_iload_n e_X4_addWord_20 rfl ?_
      refine r_iastore e_X4_addWord_21 k2 (vp_guard g1 h9_0 (by decide)) ?_
      refine r_aload_n e_X4_addWord_22 rfl ?_
      refine r_getR e_X4_addWord_23 fl_X4_24 k0 k3 ?_
      refine r_aload_n e_X4_addWord_26 rfl ?_
      refine r_getIe e_X4_addWord_27 fl_X4_34 i0 k0 (gs_aI (by omega)) ?_
      refine r_lload_n e_X4_addWord_30 rfl ?_
      refine r_lastore e_X4_addWord_31 k4 (vp_guard g1 h9_0 (by decide)) ?_
      refine r_aload_n e_X4_addWord_32 rfl ?_
      refine r_getR e_X4_addWord_33 fl_X4_27 k0 k5 ?_
      refine r_aload_n e_X4_addWord_36 rfl ?_
      refine r_getIe e_X4_addWord_37 fl_X4_34 i0 k0 (gs_k.trans (gs_aI (by omega))) ?_
      refine r_iload e_X4_addWord_40 rfl ?_
      refine r_iastore e_X4_addWord_42 k6 (vp_guard g1 h9_0 (by decide)) ?_
      refine r_aload_n e_X4_addWord_43 rfl ?_
      refine r_dup e_X4_addWord_44 rfl ?_
      refine r_getIe e_X4_addWord_45 fl_X4_34 i0 k0 ((gs_aI (by omega)).trans (gs_k.trans (gs_aI (by omega)))) ?_
      refine r_iconst e_X4_addWord_48 ic_1 ?_
      refine r_iadd e_X4_addWord_49 ?_
      refine r_putI e_X4_addWord_50 fl_X4_34 k0 ?_
      (rw [show M0_0 = setI (setI (setJ (setI M (a + 3) (M.1 a 6).toNatClampNeg x1) (a + 4) (M.1 a 6).toNatClampNeg x2) (a + 5) (M.1 a 6).toNatClampNeg x3) a 6 ((M.1 a 6) + (1 : Int32)) from (e_M0_0.trans (if_neg h9_0))] at j53_0; exact j53_0)
  refine r_return e_X4_addWord_53 rfl ⟨rfl, rfl⟩ ?_
  (subst e_M0_0; refine ⟨?_, rfl, ?_⟩ <;> ((try unfold U_X4_addWord); (try simp only []); (try rfl)))
def V_X4_isFigure (x1 : Int32) (M : Mem) : Int32 := (let v0_0 : Int32 := if x1 < (48 : Int32) then (0 : Int32) else (if (57 : Int32) < x1 then (0 : Int32) else (1 : Int32)); v0_0)
theorem Z_X4_isFigure {M : Mem} {x1 : Int32}   : V_X4_isFigure x1 M = 0 ∨ V_X4_isFigure x1 M = 1 := (zi (Or.inl rfl) (zi (Or.inl rfl) (Or.inr rfl)))
theorem S_X4_isFigure {sh : List SC} {M : Mem} {x1 : Int32}    : Gv m_X4_isFigure [.int x1] sh M (.int (V_X4_isFigure x1 M)) M := by
  refine Sp.of (ls := [some (.int x1)]) (by decide +kernel) (Nat.le_of_ble_eq_true rfl) rfl ?_
  refine r_iload_n e_X4_isFigure_0 rfl ?_
  refine r_bipush e_X4_isFigure_1 bp_48 ?_
  obtain ⟨v0_0, e_v0_0⟩ : ∃ z : Int32, z = (if x1 < (48 : Int32) then (0 : Int32) else (if (57 : Int32) < x1 then (0 : Int32) else (1 : Int32))) := ⟨_, rfl⟩
  have z_v0_0 : v0_0 = 0 ∨ v0_0 = 1 := by rw [e_v0_0]; exact (zi (Or.inl rfl) (zi (Or.inl rfl) (Or.inr rfl)))
  suffices j17_0 : WP m_X4_isFigure (fun r sh' M'' => r = some (.int (V_X4_isFigure x1 M)) ∧ sh' = sh ∧ M'' = M) 17 [some (.int x1)] [.int v0_0] sh M 0 0 by
    refine r_icmp_lt e_X4_isFigure_3 (fun h3_0 => ?_) (fun h3_0 => ?_)
    · refine r_iconst e_X4_isFigure_16 ic_0 ?_
      (rw [show v0_0 = (0 : Int32) from (e_v0_0.trans (if_pos h3_0))] at j17_0; exact j17_0)
    · refine r_iload_n e_X4_isFigure_6 rfl ?_
      refine r_bipush e_X4_isFigure_7 bp_57 ?_
      refine r_icmp_gt e_X4_isFigure_9 (fun h9_1 => ?_) (fun h9_1 => ?_)
      · refine r_iconst e_X4_isFigure_16 ic_0 ?_
        (rw [show v0_0 = (0 : Int32) from ((e_v0_0.trans (if_neg h3_0)).trans (if_pos h9_1))] at j17_0; exact j17_0)
      · refine r_iconst e_X4_isFigure_12 ic_1 ?_
        refine r_goto e_X4_isFigure_13 ?_
        (rw [show v0_0 = (1 : Int32) from ((e_v0_0.trans (if_neg h3_0)).trans (if_neg h9_1))] at j17_0; exact j17_0)
  refine r_zreturn e_X4_isFigure_17 rfl ⟨rfl, rfl⟩ z_v0_0 ?_
  (subst e_v0_0; refine ⟨?_, rfl, ?_⟩ <;> ((try unfold V_X4_isFigure); (try simp only []); (try rfl)))
def F_X4_splitNumber_4 (a : Nat) (x1 : Int32) : Nat → Int32 → Int32 → Mem → Int32 × Int32
  | 0, u2, u3, M => (u2, u3)
  | n + 1, u2, u3, M => if (M.1 a 5) ≤ u3 then (u2, u3) else (if (V_X4_isFigure (V_X10_at (a + 1) u3 800 M) M) = 0 then (u2, u3) else (F_X4_splitNumber_4 a x1 n (if (((u2 * (10 : Int32)) + (V_X10_at (a + 1) u3 800 M)) - (48 : Int32)) < (1000 : Int32) then (((u2 * (10 : Int32)) + (V_X10_at (a + 1) u3 800 M)) - (48 : Int32)) else (1000 : Int32)) (u3 + 1) M))
def T_X4_splitNumber_4 (a : Nat) (x1 : Int32) : Nat → Int32 → Int32 → Mem → Prop
  | 0, u2, u3, M => False
  | n + 1, u2, u3, M => (if (M.1 a 5) ≤ u3 then True else (if (V_X4_isFigure (V_X10_at (a + 1) u3 800 M) M) = 0 then True else (T_X4_splitNumber_4 a x1 n (if (((u2 * (10 : Int32)) + (V_X10_at (a + 1) u3 800 M)) - (48 : Int32)) < (1000 : Int32) then (((u2 * (10 : Int32)) + (V_X10_at (a + 1) u3 800 M)) - (48 : Int32)) else (1000 : Int32)) (u3 + 1) M)))
theorem L_X4_splitNumber_4 {sh : List SC} {Q : Po} {a : Nat} {x1 : Int32}    (hb1 : ReaderAt sh a)   : ∀ (n : Nat) (u2 : Int32) (u3 : Int32) (M : Mem), T_X4_splitNumber_4 a x1 n u2 u3 M → WP m_X4_splitNumber Q 55 [some (.ref a), some (.int x1), some (.int ((F_X4_splitNumber_4 a x1 n u2 u3 M).1)), some (.int ((F_X4_splitNumber_4 a x1 n u2 u3 M).2))] [] sh M 0 0 → WP m_X4_splitNumber Q 4 [some (.ref a), some (.int x1), some (.int u2), some (.int u3)] [] sh M 0 0 := by
  have k0 : kd sh a = some (4 + 7, 0) := hb1.1
  have k1 : rf sh a 0 = some (a + 1) := hb1.2.1
  have k2 : kd sh (a + 1) = some (0, 800) := hb1.2.2.2.2.2.2.1
  intro n
  induction n with
  | zero =>
    intro u2 u3 M hH hq
    exact hH.elim
  | succ n ih =>
    intro u2 u3 M hH hq
    unfold T_X4_splitNumber_4 at hH
    refine r_iload_n e_X4_splitNumber_4 rfl ?_
    refine r_aload_n e_X4_splitNumber_5 rfl ?_
    refine r_getI e_X4_splitNumber_6 fl_X4_30 i0 k0 ?_
    refine r_icmp_ge e_X4_splitNumber_9 (fun h9_400 => ?_) (fun h9_400 => ?_)
    · (simp only [F_X4_splitNumber_4, if_pos h9_400] at hq; first | exact hq | (simp only [if_pos h9_400]; exact hq))
    · refine r_aload_n e_X4_splitNumber_12 rfl ?_
      refine r_getR e_X4_splitNumber_13 fl_X4_9 k0 k1 ?_
      refine r_iload_n e_X4_splitNumber_16 rfl ?_
      refine cSN2v e_X4_splitNumber_17 cl_X4_106 ⟨Nat.le_of_ble_eq_true rfl, Nat.le_of_ble_eq_true rfl⟩ ⟨rfl, rfl⟩  (Nat.le_of_ble_eq_true rfl) (S_X10_at k2 (by first | decide | (unfold vp_in; decide) | exact Or.inl rfl | exact Or.inr rfl)) ?_
      refine cS1v e_X4_splitNumber_20 cl_X4_123 ⟨Nat.le_of_ble_eq_true rfl, Nat.le_of_ble_eq_true rfl⟩ ⟨rfl, rfl⟩  (Nat.le_of_ble_eq_true rfl) (S_X4_isFigure ) ?_
      refine r_if_eq e_X4_splitNumber_23 (fun h23_401 => ?_) (fun h23_401 => ?_)
      · (simp only [F_X4_splitNumber_4, if_neg h9_400, if_pos h23_401] at hq; first | exact hq | (simp only [if_neg h9_400, if_pos h23_401]; exact hq))
      · refine r_sipush e_X4_splitNumber_26 sp_1000 ?_
        refine r_iload_n e_X4_splitNumber_29 rfl ?_
        refine r_bipush e_X4_splitNumber_30 bp_10 ?_
        refine r_imul e_X4_splitNumber_32 ?_
        refine r_aload_n e_X4_splitNumber_33 rfl ?_
        refine r_getR e_X4_splitNumber_34 fl_X4_9 k0 k1 ?_
        refine r_iload_n e_X4_splitNumber_37 rfl ?_
        refine cSN2v e_X4_splitNumber_38 cl_X4_106 ⟨Nat.le_of_ble_eq_true rfl, Nat.le_of_ble_eq_true rfl⟩ ⟨rfl, rfl⟩  (Nat.le_of_ble_eq_true rfl) (S_X10_at k2 (by first | decide | (unfold vp_in; decide) | exact Or.inl rfl | exact Or.inr rfl)) ?_
        refine r_iadd e_X4_splitNumber_41 ?_
        refine r_bipush e_X4_splitNumber_42 bp_48 ?_
        refine r_isub e_X4_splitNumber_44 ?_
        refine r_mmin e_X4_splitNumber_45 cl_X4_144 ⟨Nat.le_of_ble_eq_true rfl, Nat.le_of_ble_eq_true rfl, Nat.zero_le _, Nat.zero_le _⟩ (Nat.le_of_ble_eq_true rfl) ?_
        refine p_istore_n_4_2 e_X4_splitNumber_48 rfl rfl ?_
        refine p_iinc_4_3 e_X4_splitNumber_49 rfl ic_1 rfl ?_
        refine r_goto e_X4_splitNumber_52 ?_
        (simp only [F_X4_splitNumber_4, if_neg h9_400, if_neg h23_401] at hq; (try simp only [if_neg h9_400, if_neg h23_401] at hH); first | exact ih _ _ _ hH hq | (simp only [if_neg h9_400, if_neg h23_401]; exact ih _ _ _ hH hq))
def V_X4_splitNumber (a : Nat) (x1 : Int32) (M : Mem) : Int32 := (let v0_0 : Int32 := if ((F_X4_splitNumber_4 a x1 FUEL (0 : Int32) x1 M).1) ≤ (999 : Int32) then (25 : Int32) else (36 : Int32); ((F_X4_splitNumber_4 a x1 FUEL (0 : Int32) x1 M).2))
def U_X4_splitNumber (a : Nat) (x1 : Int32) (M : Mem) : Mem := (let v0_0 : Int32 := if ((F_X4_splitNumber_4 a x1 FUEL (0 : Int32) x1 M).1) ≤ (999 : Int32) then (25 : Int32) else (36 : Int32); U_X4_addWord a v0_0 (((F_X4_splitNumber_4 a x1 FUEL (0 : Int32) x1 M).1).toInt64) x1 M)
def P_X4_splitNumber (a : Nat) (x1 : Int32) (M : Mem) : Prop := (T_X4_splitNumber_4 a x1 FUEL (0 : Int32) x1 M)
theorem S_X4_splitNumber {sh : List SC} {M : Mem} {a : Nat} {x1 : Int32}  (hb1 : ReaderAt sh a) (g2 : ¬ (M.1 a 6) < 0) (hP : P_X4_splitNumber a x1 M) : Gv m_X4_splitNumber [.ref a, .int x1] sh M (.int (V_X4_splitNumber a x1 M)) (U_X4_splitNumber a x1 M) := by
  refine Sp.of (ls := [some (.ref a), some (.int x1), none, none]) (by decide +kernel) (Nat.le_of_ble_eq_true rfl) rfl ?_
  have g1 : T_X4_splitNumber_4 a x1 FUEL (0 : Int32) x1 M := hP
  have k0 : kd sh a = some (4 + 7, 0) := hb1.1
  refine r_iconst e_X4_splitNumber_0 ic_0 ?_
  refine p_istore_n_4_2 e_X4_splitNumber_1 rfl rfl ?_
  refine r_iload_n e_X4_splitNumber_2 rfl ?_
  refine p_istore_n_4_3 e_X4_splitNumber_3 rfl rfl ?_
  refine L_X4_splitNumber_4 hb1 FUEL (0 : Int32) x1 M g1 ?_
  refine r_aload_n e_X4_splitNumber_55 rfl ?_
  refine r_iload_n e_X4_splitNumber_56 rfl ?_
  refine r_sipush e_X4_splitNumber_57 sp_999 ?_
  obtain ⟨v0_0, e_v0_0⟩ : ∃ z : Int32, z = (if ((F_X4_splitNumber_4 a x1 FUEL (0 : Int32) x1 M).1) ≤ (999 : Int32) then (25 : Int32) else (36 : Int32)) := ⟨_, rfl⟩
  suffices j70_0 : WP m_X4_splitNumber (fun r sh' M'' => r = some (.int (V_X4_splitNumber a x1 M)) ∧ sh' = sh ∧ M'' = (U_X4_splitNumber a x1 M)) 70 [some (.ref a), some (.int x1), some (.int ((F_X4_splitNumber_4 a x1 FUEL (0 : Int32) x1 M).1)), some (.int ((F_X4_splitNumber_4 a x1 FUEL (0 : Int32) x1 M).2))] [.int v0_0, .ref a] sh M 0 0 by
    refine r_icmp_le e_X4_splitNumber_60 (fun h60_0 => ?_) (fun h60_0 => ?_)
    · refine r_bipush e_X4_splitNumber_68 bp_25 ?_
      (rw [show v0_0 = (25 : Int32) from (e_v0_0.trans (if_pos h60_0))] at j70_0; exact j70_0)
    · refine r_bipush e_X4_splitNumber_63 bp_36 ?_
      refine r_goto e_X4_splitNumber_65 ?_
      (rw [show v0_0 = (36 : Int32) from (e_v0_0.trans (if_neg h60_0))] at j70_0; exact j70_0)
  refine r_iload_n e_X4_splitNumber_70 rfl ?_
  refine r_i2l e_X4_splitNumber_71 ?_
  refine r_iload_n e_X4_splitNumber_72 rfl ?_
  refine cV3u e_X4_splitNumber_73 cl_X4_136 ⟨Nat.le_of_ble_eq_true rfl, Nat.le_of_ble_eq_true rfl⟩ ⟨rfl, rfl⟩ k0 (Nat.le_of_ble_eq_true rfl) (S_X4_addWord hb1 g2) ?_
  refine r_iload_n e_X4_splitNumber_76 rfl ?_
  refine r_ireturn e_X4_splitNumber_77 rfl ⟨rfl, rfl⟩ ?_
  (subst e_v0_0; refine ⟨?_, rfl, ?_⟩ <;> ((try unfold V_X4_splitNumber); (try unfold U_X4_splitNumber); (try simp only []); (try rfl)))
def V_X4_isBlank (x1 : Int32) (M : Mem) : Int32 := (let v0_0 : Int32 := if x1 = (32 : Int32) then (1 : Int32) else (if x1 = (10 : Int32) then (1 : Int32) else (0 : Int32)); v0_0)
theorem Z_X4_isBlank {M : Mem} {x1 : Int32}   : V_X4_isBlank x1 M = 0 ∨ V_X4_isBlank x1 M = 1 := (zi (Or.inr rfl) (zi (Or.inr rfl) (Or.inl rfl)))
theorem S_X4_isBlank {sh : List SC} {M : Mem} {x1 : Int32}    : Gv m_X4_isBlank [.int x1] sh M (.int (V_X4_isBlank x1 M)) M := by
  refine Sp.of (ls := [some (.int x1)]) (by decide +kernel) (Nat.le_of_ble_eq_true rfl) rfl ?_
  refine r_iload_n e_X4_isBlank_0 rfl ?_
  refine r_bipush e_X4_isBlank_1 bp_32 ?_
  obtain ⟨v0_0, e_v0_0⟩ : ∃ z : Int32, z = (if x1 = (32 : Int32) then (1 : Int32) else (if x1 = (10 : Int32) then (1 : Int32) else (0 : Int32))) := ⟨_, rfl⟩
  have z_v0_0 : v0_0 = 0 ∨ v0_0 = 1 := by rw [e_v0_0]; exact (zi (Or.inr rfl) (zi (Or.inr rfl) (Or.inl rfl)))
  suffices j17_0 : WP m_X4_isBlank (fun r sh' M'' => r = some (.int (V_X4_isBlank x1 M)) ∧ sh' = sh ∧ M'' = M) 17 [some (.int x1)] [.int v0_0] sh M 0 0 by
    refine r_icmp_eq e_X4_isBlank_3 (fun h3_0 => ?_) (fun h3_0 => ?_)
    · refine r_iconst e_X4_isBlank_12 ic_1 ?_
      refine r_goto e_X4_isBlank_13 ?_
      (rw [show v0_0 = (1 : Int32) from (e_v0_0.trans (if_pos h3_0))] at j17_0; exact j17_0)
    · refine r_iload_n e_X4_isBlank_6 rfl ?_
      refine r_bipush e_X4_isBlank_7 bp_10 ?_
      refine r_icmp_ne e_X4_isBlank_9 (fun h9_1 => ?_) (fun h9_1 => ?_)
      · refine r_iconst e_X4_isBlank_16 ic_0 ?_
        (rw [show v0_0 = (0 : Int32) from ((e_v0_0.trans (if_neg h3_0)).trans (if_neg h9_1))] at j17_0; exact j17_0)
      · refine r_iconst e_X4_isBlank_12 ic_1 ?_
        refine r_goto e_X4_isBlank_13 ?_
        (rw [show v0_0 = (1 : Int32) from ((e_v0_0.trans (if_neg h3_0)).trans (if_pos h9_1))] at j17_0; exact j17_0)
  refine r_zreturn e_X4_isBlank_17 rfl ⟨rfl, rfl⟩ z_v0_0 ?_
  (subst e_v0_0; refine ⟨?_, rfl, ?_⟩ <;> ((try unfold V_X4_isBlank); (try simp only []); (try rfl)))
def V_X4_kind (a : Nat) (M : Mem) : Int32 := (let v0_0 : Int32 := if (M.1 a 7) < 0 then (37 : Int32) else (if (801 : Int32) ≤ (M.1 a 7) then (37 : Int32) else (M.1 (a + 3) (M.1 a 7).toNatClampNeg)); v0_0)
theorem S_X4_kind {sh : List SC} {M : Mem} {a : Nat}  (hb1 : ReaderAt sh a)  : Gv m_X4_kind [.ref a] sh M (.int (V_X4_kind a M)) M := by
  refine Sp.of (ls := [some (.ref a)]) (by decide +kernel) (Nat.le_of_ble_eq_true rfl) rfl ?_
  have k0 : kd sh a = some (4 + 7, 0) := hb1.1
  have k1 : rf sh a 2 = some (a + 3) := hb1.2.2.2.1
  have k2 : kd sh (a + 3) = some (0, 801) := hb1.2.2.2.2.2.2.2.2.1
  refine r_aload_n e_X4_kind_0 rfl ?_
  refine r_getI e_X4_kind_1 fl_X4_37 i0 k0 ?_
  obtain ⟨v0_0, e_v0_0⟩ : ∃ z : Int32, z = (if (M.1 a 7) < 0 then (37 : Int32) else (if (801 : Int32) ≤ (M.1 a 7) then (37 : Int32) else (M.1 (a + 3) (M.1 a 7).toNatClampNeg))) := ⟨_, rfl⟩
  suffices j33_0 : WP m_X4_kind (fun r sh' M'' => r = some (.int (V_X4_kind a M)) ∧ sh' = sh ∧ M'' = M) 33 [some (.ref a)] [.int v0_0] sh M 0 0 by
    refine r_if_lt e_X4_kind_4 (fun h4_0 => ?_) (fun h4_0 => ?_)
    · refine r_bipush e_X4_kind_31 bp_37 ?_
      (rw [show v0_0 = (37 : Int32) from (e_v0_0.trans (if_pos h4_0))] at j33_0; exact j33_0)
    · refine r_aload_n e_X4_kind_7 rfl ?_
      refine r_getI e_X4_kind_8 fl_X4_37 i0 k0 ?_
      refine r_aload_n e_X4_kind_11 rfl ?_
      refine r_getR e_X4_kind_12 fl_X4_21 k0 k1 ?_
      refine r_alen (v := (801 : Int32)) e_X4_kind_15 k2 (by decide) rfl ?_
      refine r_icmp_ge e_X4_kind_16 (fun h16_1 => ?_) (fun h16_1 => ?_)
      · refine r_bipush e_X4_kind_31 bp_37 ?_
        (rw [show v0_0 = (37 : Int32) from ((e_v0_0.trans (if_neg h4_0)).trans (if_pos h16_1))] at j33_0; exact j33_0)
      · refine r_aload_n e_X4_kind_19 rfl ?_
        refine r_getR e_X4_kind_20 fl_X4_21 k0 k1 ?_
        refine r_aload_n e_X4_kind_23 rfl ?_
        refine r_getI e_X4_kind_24 fl_X4_37 i0 k0 ?_
        refine r_iaload e_X4_kind_27 k2 (vp_guard h4_0 h16_1 (by decide)) ?_
        refine r_goto e_X4_kind_28 ?_
        (rw [show v0_0 = (M.1 (a + 3) (M.1 a 7).toNatClampNeg) from ((e_v0_0.trans (if_neg h4_0)).trans (if_neg h16_1))] at j33_0; exact j33_0)
  refine r_ireturn e_X4_kind_33 rfl ⟨rfl, rfl⟩ ?_
  (subst e_v0_0; refine ⟨?_, rfl, ?_⟩ <;> ((try unfold V_X4_kind); (try simp only []); (try rfl)))
def U_X4_refuse (a : Nat) (M : Mem) : Mem := (let M0_0 : Mem := if 0 ≤ (M.1 a 9) then M else (if (M.1 a 7) < 0 then M else (if (801 : Int32) ≤ (M.1 a 7) then M else (setI M a 9 (M.1 (a + 5) (M.1 a 7).toNatClampNeg)))); M0_0)
theorem S_X4_refuse {sh : List SC} {M : Mem} {a : Nat}  (hb1 : ReaderAt sh a)  : Gu m_X4_refuse [.ref a] sh M (U_X4_refuse a M) := by
  refine Sp.of (ls := [some (.ref a)]) (by decide +kernel) (Nat.le_of_ble_eq_true rfl) rfl ?_
  have k0 : kd sh a = some (4 + 7, 0) := hb1.1
  have k1 : rf sh a 4 = some (a + 5) := hb1.2.2.2.2.2.1
  have k2 : kd sh (a + 5) = some (0, 801) := hb1.2.2.2.2.2.2.2.2.2.2
  refine r_aload_n e_X4_refuse_0 rfl ?_
  refine r_getI e_X4_refuse_1 fl_X4_44 i0 k0 ?_
  obtain ⟨M0_0, e_M0_0⟩ : ∃ z : Mem, z = (if 0 ≤ (M.1 a 9) then M else (if (M.1 a 7) < 0 then M else (if (801 : Int32) ≤ (M.1 a 7) then M else (setI M a 9 (M.1 (a + 5) (M.1 a 7).toNatClampNeg))))) := ⟨_, rfl⟩
  suffices j39_0 : WP m_X4_refuse (fun r sh' M'' => r = none ∧ sh' = sh ∧ M'' = (U_X4_refuse a M)) 39 [some (.ref a)] [] sh M0_0 0 0 by
    refine r_if_ge e_X4_refuse_4 (fun h4_0 => ?_) (fun h4_0 => ?_)
    · (rw [show M0_0 = M from (e_M0_0.trans (if_pos h4_0))] at j39_0; exact j39_0)
    · refine r_aload_n e_X4_refuse_7 rfl ?_
      refine r_getI e_X4_refuse_8 fl_X4_37 i0 k0 ?_
      refine r_if_lt e_X4_refuse_11 (fun h11_1 => ?_) (fun h11_1 => ?_)
      · (rw [show M0_0 = M from ((e_M0_0.trans (if_neg h4_0)).trans (if_pos h11_1))] at j39_0; exact j39_0)
      · refine r_aload_n e_X4_refuse_14 rfl ?_
        refine r_getI e_X4_refuse_15 fl_X4_37 i0 k0 ?_
        refine r_aload_n e_X4_refuse_18 rfl ?_
        refine r_getR e_X4_refuse_19 fl_X4_27 k0 k1 ?_
        refine r_alen (v := (801 : Int32)) e_X4_refuse_22 k2 (by decide) rfl ?_
        refine r_icmp_ge e_X4_refuse_23 (fun h23_2 => ?_) (fun h23_2 => ?_)
        · (rw [show M0_0 = M from (((e_M0_0.trans (if_neg h4_0)).trans (if_neg h11_1)).trans (if_pos h23_2))] at j39_0; exact j39_0)
        · refine r_aload_n e_X4_refuse_26 rfl ?_
          refine r_aload_n e_X4_refuse_27 rfl ?_
          refine r_getR e_X4_refuse_28 fl_X4_27 k0 k1 ?_
          refine r_aload_n e_X4_refuse_31 rfl ?_
          refine r_getI e_X4_refuse_32 fl_X4_37 i0 k0 ?_
          refine r_iaload e_X4_refuse_35 k2 (vp_guard h11_1 h23_2 (by decide)) ?_
          refine r_putI e_X4_refuse_36 fl_X4_44 k0 ?_
          (rw [show M0_0 = setI M a 9 (M.1 (a + 5) (M.1 a 7).toNatClampNeg) from (((e_M0_0.trans (if_neg h4_0)).trans (if_neg h11_1)).trans (if_neg h23_2))] at j39_0; exact j39_0)
  refine r_return e_X4_refuse_39 rfl ⟨rfl, rfl⟩ ?_
  (subst e_M0_0; refine ⟨?_, rfl, ?_⟩ <;> ((try unfold U_X4_refuse); (try simp only []); (try rfl)))
def V_X4_take (a : Nat) (x1 : Int32) (x2 : Int32) (M : Mem) : Int32 := if 0 ≤ (M.1 a 9) then (36 : Int32) else (if (V_X4_kind a M) < x1 then (36 : Int32) else (if x2 < (V_X4_kind a M) then (36 : Int32) else (if (801 : Int32) ≤ (M.1 a 7) then (36 : Int32) else (V_X4_kind a M))))
def U_X4_take (a : Nat) (x1 : Int32) (x2 : Int32) (M : Mem) : Mem := if 0 ≤ (M.1 a 9) then (U_X4_refuse a M) else (if (V_X4_kind a M) < x1 then (U_X4_refuse a M) else (if x2 < (V_X4_kind a M) then (U_X4_refuse a M) else (if (801 : Int32) ≤ (M.1 a 7) then (U_X4_refuse a M) else (setI (setJ M a 8 (M.2 (a + 4) (M.1 a 7).toNatClampNeg)) a 7 ((M.1 a 7) + (1 : Int32))))))
theorem S_X4_take {sh : List SC} {M : Mem} {a : Nat} {x1 : Int32} {x2 : Int32}  (hb1 : ReaderAt sh a) (g1 : ¬ (M.1 a 7) < 0) : Gv m_X4_take [.ref a, .int x1, .int x2] sh M (.int (V_X4_take a x1 x2 M)) (U_X4_take a x1 x2 M) := by
  refine Sp.of (ls := [some (.ref a), some (.int x1), some (.int x2), none]) (by decide +kernel) (Nat.le_of_ble_eq_true rfl) rfl ?_
  have k0 : kd sh a = some (4 + 7, 0) := hb1.1
  have k1 : rf sh a 3 = some (a + 4) := hb1.2.2.2.2.1
  have k2 : kd sh (a + 4) = some (1, 801) := hb1.2.2.2.2.2.2.2.2.2.1
  refine r_aload_n e_X4_take_0 rfl ?_
  refine cV0v e_X4_take_1 cl_X4_77 ⟨Nat.le_of_ble_eq_true rfl, Nat.le_of_ble_eq_true rfl⟩ ⟨rfl, rfl⟩ k0 (Nat.le_of_ble_eq_true rfl) (S_X4_kind hb1) ?_
  refine p_istore_n_4_3 e_X4_take_4 rfl rfl ?_
  refine r_aload_n e_X4_take_5 rfl ?_
  refine r_getI e_X4_take_6 fl_X4_44 i0 k0 ?_
  refine r_if_ge e_X4_take_9 (fun h9_0 => ?_) (fun h9_0 => ?_)
  · refine r_aload_n e_X4_take_59 rfl ?_
    refine cV0u e_X4_take_60 cl_X4_80 ⟨Nat.le_of_ble_eq_true rfl, Nat.le_of_ble_eq_true rfl⟩ ⟨rfl, rfl⟩ k0 (Nat.le_of_ble_eq_true rfl) (S_X4_refuse hb1) ?_
    refine r_bipush e_X4_take_63 bp_36 ?_
    refine r_ireturn e_X4_take_65 rfl ⟨rfl, rfl⟩ ?_
    (refine ⟨?_, rfl, ?_⟩ <;> ((try unfold V_X4_take); (try unfold U_X4_take); (try simp only [if_pos h9_0]); (try rfl)))
  · refine r_iload_n e_X4_take_12 rfl ?_
    refine r_iload_n e_X4_take_13 rfl ?_
    refine r_icmp_lt e_X4_take_14 (fun h14_1 => ?_) (fun h14_1 => ?_)
    · refine r_aload_n e_X4_take_59 rfl ?_
      refine cV0u e_X4_take_60 cl_X4_80 ⟨Nat.le_of_ble_eq_true rfl, Nat.le_of_ble_eq_true rfl⟩ ⟨rfl, rfl⟩ k0 (Nat.le_of_ble_eq_true rfl) (S_X4_refuse hb1) ?_
      refine r_bipush e_X4_take_63 bp_36 ?_
      refine r_ireturn e_X4_take_65 rfl ⟨rfl, rfl⟩ ?_
      (refine ⟨?_, rfl, ?_⟩ <;> ((try unfold V_X4_take); (try unfold U_X4_take); (try simp only [if_neg h9_0, if_pos h14_1]); (try rfl)))
    · refine r_iload_n e_X4_take_17 rfl ?_
      refine r_iload_n e_X4_take_18 rfl ?_
      refine r_icmp_gt e_X4_take_19 (fun h19_2 => ?_) (fun h19_2 => ?_)
      · refine r_aload_n e_X4_take_59 rfl ?_
        refine cV0u e_X4_take_60 cl_X4_80 ⟨Nat.le_of_ble_eq_true rfl, Nat.le_of_ble_eq_true rfl⟩ ⟨rfl, rfl⟩ k0 (Nat.le_of_ble_eq_true rfl) (S_X4_refuse hb1) ?_
        refine r_bipush e_X4_take_63 bp_36 ?_
        refine r_ireturn e_X4_take_65 rfl ⟨rfl, rfl⟩ ?_
        (refine ⟨?_, rfl, ?_⟩ <;> ((try unfold V_X4_take); (try unfold U_X4_take); (try simp only [if_neg h9_0, if_neg h14_1, if_pos h19_2]); (try rfl)))
      · refine r_aload_n e_X4_take_22 rfl ?_
        refine r_getI e_X4_take_23 fl_X4_37 i0 k0 ?_
        refine r_aload_n e_X4_take_26 rfl ?_
        refine r_getR e_X4_take_27 fl_X4_24 k0 k1 ?_
        refine r_alen (v := (801 : Int32)) e_X4_take_30 k2 (by decide) rfl ?_
        refine r_icmp_ge e_X4_take_31 (fun h31_3 => ?_) (fun h31_3 => ?_)
        · refine r_aload_n e_X4_take_59 rfl ?_
          refine cV0u e_X4_take_60 cl_X4_80 ⟨Nat.le_of_ble_eq_true rfl, Nat.le_of_ble_eq_true rfl⟩ ⟨rfl, rfl⟩ k0 (Nat.le_of_ble_eq_true rfl) (S_X4_refuse hb1) ?_
          refine r_bipush e_X4_take_63 bp_36 ?_
          refine r_ireturn e_X4_take_65 rfl ⟨rfl, rfl⟩ ?_
          (refine ⟨?_, rfl, ?_⟩ <;> ((try unfold V_X4_take); (try unfold U_X4_take); (try simp only [if_neg h9_0, if_neg h14_1, if_neg h19_2, if_pos h31_3]); (try rfl)))
        · refine r_aload_n e_X4_take_34 rfl ?_
          refine r_aload_n e_X4_take_35 rfl ?_
          refine r_getR e_X4_take_36 fl_X4_24 k0 k1 ?_
          refine r_aload_n e_X4_take_39 rfl ?_
          refine r_getI e_X4_take_40 fl_X4_37 i0 k0 ?_
          refine r_laload e_X4_take_43 k2 (vp_guard g1 h31_3 (by decide)) ?_
          refine r_putJ e_X4_take_44 fl_X4_40 k0 ?_
          refine r_aload_n e_X4_take_47 rfl ?_
          refine r_dup e_X4_take_48 rfl ?_
          refine r_getIe e_X4_take_49 fl_X4_37 i0 k0 gs_k ?_
          refine r_iconst e_X4_take_52 ic_1 ?_
          refine r_iadd e_X4_take_53 ?_
          refine r_putI e_X4_take_54 fl_X4_37 k0 ?_
          refine r_iload_n e_X4_take_57 rfl ?_
          refine r_ireturn e_X4_take_58 rfl ⟨rfl, rfl⟩ ?_
          (refine ⟨?_, rfl, ?_⟩ <;> ((try unfold V_X4_take); (try unfold U_X4_take); (try simp only [if_neg h9_0, if_neg h14_1, if_neg h19_2, if_neg h31_3]); (try rfl)))
def U_X3_openState (a : Nat) (x1 : Int64) (M : Mem) : Mem := (let M0_0 : Mem := if (8 : Int32) ≤ (M.1 a 0) then M else (setJ M (a + 1) (M.1 a 0).toNatClampNeg x1); M0_0)
theorem S_X3_openState {sh : List SC} {M : Mem} {a : Nat} {x1 : Int64}  (hb1 : ProgramAt sh a) (g1 : ¬ (M.1 a 0) < 0) : Gu m_X3_openState [.ref a, .long x1] sh M (U_X3_openState a x1 M) := by
  refine Sp.of (ls := [some (.ref a), some (.long x1), none]) (by decide +kernel) (Nat.le_of_ble_eq_true rfl) rfl ?_
  have k0 : kd sh a = some (3 + 7, 0) := hb1.1
  have k1 : rf sh a 1 = some (a + 1) := hb1.2.1
  have k2 : kd sh (a + 1) = some (1, 8) := hb1.2.2.2.2.2.2.2.2.2.2.2.2.2.2.2.1
  refine r_aload_n e_X3_openState_0 rfl ?_
  refine r_getI e_X3_openState_1 fl_X3_9 i0 k0 ?_
  refine r_aload_n e_X3_openState_4 rfl ?_
  refine r_getR e_X3_openState_5 fl_X3_15 k0 k1 ?_
  refine r_alen (v := (8 : Int32)) e_X3_openState_8 k2 (by decide) rfl ?_
  obtain ⟨M0_0, e_M0_0⟩ : ∃ z : Mem, z = (if (8 : Int32) ≤ (M.1 a 0) then M else (setJ M (a + 1) (M.1 a 0).toNatClampNeg x1)) := ⟨_, rfl⟩
  suffices j22_0 : WP m_X3_openState (fun r sh' M'' => r = none ∧ sh' = sh ∧ M'' = (U_X3_openState a x1 M)) 22 [some (.ref a), some (.long x1), none] [] sh M0_0 0 0 by
    refine r_icmp_ge e_X3_openState_9 (fun h9_0 => ?_) (fun h9_0 => ?_)
    · (rw [show M0_0 = M from (e_M0_0.trans (if_pos h9_0))] at j22_0; exact j22_0)
    · refine r_aload_n e_X3_openState_12 rfl ?_
      refine r_getR e_X3_openState_13 fl_X3_15 k0 k1 ?_
      refine r_aload_n e_X3_openState_16 rfl ?_
      refine r_getI e_X3_openState_17 fl_X3_9 i0 k0 ?_
      refine r_lload_n e_X3_openState_20 rfl ?_
      refine r_lastore e_X3_openState_21 k2 (vp_guard g1 h9_0 (by decide)) ?_
      (rw [show M0_0 = setJ M (a + 1) (M.1 a 0).toNatClampNeg x1 from (e_M0_0.trans (if_neg h9_0))] at j22_0; exact j22_0)
  refine r_return e_X3_openState_22 rfl ⟨rfl, rfl⟩ ?_
  (subst e_M0_0; refine ⟨?_, rfl, ?_⟩ <;> ((try unfold U_X3_openState); (try simp only []); (try rfl)))
def U_X10_put (x1 : Nat) (x2 : Int32) (x3 : Int32) (n1 : Nat) (M : Mem) : Mem := (let M0_0 : Mem := if x2 < 0 then M else (if (Int32.ofNat n1) ≤ x2 then M else (setI M x1 x2.toNatClampNeg x3)); M0_0)
theorem S_X10_put {sh : List SC} {M : Mem} {x1 : Nat} {x2 : Int32} {x3 : Int32} {n1 : Nat}  (g1 : kd sh x1 = some (0, n1)) (g2 : n1 < 2 ^ 31) : Gu m_X10_put [.ref x1, .int x2, .int x3] sh M (U_X10_put x1 x2 x3 n1 M) := by
  refine Sp.of (ls := [some (.ref x1), some (.int x2), some (.int x3)]) (by decide +kernel) (Nat.le_of_ble_eq_true rfl) rfl ?_
  refine r_iload_n e_X10_put_0 rfl ?_
  obtain ⟨M0_0, e_M0_0⟩ : ∃ z : Mem, z = (if x2 < 0 then M else (if (Int32.ofNat n1) ≤ x2 then M else (setI M x1 x2.toNatClampNeg x3))) := ⟨_, rfl⟩
  suffices j14_0 : WP m_X10_put (fun r sh' M'' => r = none ∧ sh' = sh ∧ M'' = (U_X10_put x1 x2 x3 n1 M)) 14 [some (.ref x1), some (.int x2), some (.int x3)] [] sh M0_0 0 0 by
    refine r_if_lt e_X10_put_1 (fun h1_0 => ?_) (fun h1_0 => ?_)
    · (rw [show M0_0 = M from (e_M0_0.trans (if_pos h1_0))] at j14_0; exact j14_0)
    · refine r_iload_n e_X10_put_4 rfl ?_
      refine r_aload_n e_X10_put_5 rfl ?_
      refine r_alen (v := (Int32.ofNat n1)) e_X10_put_6 g1 (by decide) rfl ?_
      refine r_icmp_ge e_X10_put_7 (fun h7_1 => ?_) (fun h7_1 => ?_)
      · (rw [show M0_0 = M from ((e_M0_0.trans (if_neg h1_0)).trans (if_pos h7_1))] at j14_0; exact j14_0)
      · refine r_aload_n e_X10_put_10 rfl ?_
        refine r_iload_n e_X10_put_11 rfl ?_
        refine r_iload_n e_X10_put_12 rfl ?_
        refine r_iastore e_X10_put_13 g1 (vp_guard h1_0 h7_1 (by with_reducible assumption)) ?_
        (rw [show M0_0 = setI M x1 x2.toNatClampNeg x3 from ((e_M0_0.trans (if_neg h1_0)).trans (if_neg h7_1))] at j14_0; exact j14_0)
  refine r_return e_X10_put_14 rfl ⟨rfl, rfl⟩ ?_
  (subst e_M0_0; refine ⟨?_, rfl, ?_⟩ <;> ((try unfold U_X10_put); (try simp only []); (try rfl)))
def U_X3_closeSum (a : Nat) (M : Mem) : Mem := U_X10_put (a + 10) ((M.1 a 13) + (1 : Int32)) (M.1 a 15) 401 (setI M a 13 ((M.1 a 13) + (1 : Int32)))
theorem S_X3_closeSum {sh : List SC} {M : Mem} {a : Nat}  (hb1 : ProgramAt sh a)  : Gu m_X3_closeSum [.ref a] sh M (U_X3_closeSum a M) := by
  refine Sp.of (ls := [some (.ref a)]) (by decide +kernel) (Nat.le_of_ble_eq_true rfl) rfl ?_
  have k0 : kd sh a = some (3 + 7, 0) := hb1.1
  have k1 : rf sh a 14 = some (a + 10) := hb1.2.2.2.2.2.2.2.2.2.2.1
  have k2 : kd sh (a + 10) = some (0, 401) := hb1.2.2.2.2.2.2.2.2.2.2.2.2.2.2.2.2.2.2.2.2.2.2.2.2.1
  refine r_aload_n e_X3_closeSum_0 rfl ?_
  refine r_dup e_X3_closeSum_1 rfl ?_
  refine r_getI e_X3_closeSum_2 fl_X3_53 i0 k0 ?_
  refine r_iconst e_X3_closeSum_5 ic_1 ?_
  refine r_iadd e_X3_closeSum_6 ?_
  refine r_putI e_X3_closeSum_7 fl_X3_53 k0 ?_
  refine r_aload_n e_X3_closeSum_10 rfl ?_
  refine r_getR e_X3_closeSum_11 fl_X3_56 k0 k1 ?_
  refine r_aload_n e_X3_closeSum_14 rfl ?_
  refine r_getIe e_X3_closeSum_15 fl_X3_53 i0 k0 gs_eI ?_
  refine r_aload_n e_X3_closeSum_18 rfl ?_
  refine r_getIe e_X3_closeSum_19 fl_X3_59 i0 k0 (gs_nI (by decide)) ?_
  refine cSN3u e_X3_closeSum_22 cl_X3_74 ⟨Nat.le_of_ble_eq_true rfl, Nat.le_of_ble_eq_true rfl⟩ ⟨rfl, rfl⟩  (Nat.le_of_ble_eq_true rfl) (S_X10_put k2 (by first | decide | (unfold vp_in; decide) | exact Or.inl rfl | exact Or.inr rfl)) ?_
  refine r_return e_X3_closeSum_25 rfl ⟨rfl, rfl⟩ ?_
  (refine ⟨?_, rfl, ?_⟩ <;> ((try unfold U_X3_closeSum); (try simp only []); (try rfl)))
def U_X3_addTest (a : Nat) (x1 : Int32) (M : Mem) : Mem := (let Mc1 : Mem := U_X10_put (a + 6) ((U_X10_put (a + 5) (M.1 a 6) x1 400 M).1 a 6) (((U_X10_put (a + 5) (M.1 a 6) x1 400 M).1 a 13) - (2 : Int32)) 400 (U_X10_put (a + 5) (M.1 a 6) x1 400 M); setI Mc1 a 6 ((Mc1.1 a 6) + (1 : Int32)))
theorem S_X3_addTest {sh : List SC} {M : Mem} {a : Nat} {x1 : Int32}  (hb1 : ProgramAt sh a)  : Gu m_X3_addTest [.ref a, .int x1] sh M (U_X3_addTest a x1 M) := by
  refine Sp.of (ls := [some (.ref a), some (.int x1)]) (by decide +kernel) (Nat.le_of_ble_eq_true rfl) rfl ?_
  have k0 : kd sh a = some (3 + 7, 0) := hb1.1
  have k1 : rf sh a 7 = some (a + 5) := hb1.2.2.2.2.2.1
  have k2 : kd sh (a + 5) = some (0, 400) := hb1.2.2.2.2.2.2.2.2.2.2.2.2.2.2.2.2.2.2.2.1
  have k3 : rf sh a 8 = some (a + 6) := hb1.2.2.2.2.2.2.1
  have k4 : kd sh (a + 6) = some (0, 400) := hb1.2.2.2.2.2.2.2.2.2.2.2.2.2.2.2.2.2.2.2.2.1
  refine r_aload_n e_X3_addTest_0 rfl ?_
  refine r_getR e_X3_addTest_1 fl_X3_35 k0 k1 ?_
  refine r_aload_n e_X3_addTest_4 rfl ?_
  refine r_getI e_X3_addTest_5 fl_X3_32 i0 k0 ?_
  refine r_iload_n e_X3_addTest_8 rfl ?_
  refine cSN3u e_X3_addTest_9 cl_X3_74 ⟨Nat.le_of_ble_eq_true rfl, Nat.le_of_ble_eq_true rfl⟩ ⟨rfl, rfl⟩  (Nat.le_of_ble_eq_true rfl) (S_X10_put k2 (by first | decide | (unfold vp_in; decide) | exact Or.inl rfl | exact Or.inr rfl)) ?_
  refine r_aload_n e_X3_addTest_12 rfl ?_
  refine r_getR e_X3_addTest_13 fl_X3_38 k0 k3 ?_
  refine r_aload_n e_X3_addTest_16 rfl ?_
  refine r_getI e_X3_addTest_17 fl_X3_32 i0 k0 ?_
  refine r_aload_n e_X3_addTest_20 rfl ?_
  refine r_getI e_X3_addTest_21 fl_X3_53 i0 k0 ?_
  refine r_iconst e_X3_addTest_24 ic_2 ?_
  refine r_isub e_X3_addTest_25 ?_
  refine cSN3u e_X3_addTest_26 cl_X3_74 ⟨Nat.le_of_ble_eq_true rfl, Nat.le_of_ble_eq_true rfl⟩ ⟨rfl, rfl⟩  (Nat.le_of_ble_eq_true rfl) (S_X10_put k4 (by first | decide | (unfold vp_in; decide) | exact Or.inl rfl | exact Or.inr rfl)) ?_
  obtain ⟨Mc1, e_Mc1⟩ : ∃ z : Mem, z = (U_X10_put (a + 6) ((U_X10_put (a + 5) (M.1 a 6) x1 400 M).1 a 6) (((U_X10_put (a + 5) (M.1 a 6) x1 400 M).1 a 13) - (2 : Int32)) 400 (U_X10_put (a + 5) (M.1 a 6) x1 400 M)) := ⟨_, rfl⟩
  rw [← e_Mc1]
  refine r_aload_n e_X3_addTest_29 rfl ?_
  refine r_dup e_X3_addTest_30 rfl ?_
  refine r_getI e_X3_addTest_31 fl_X3_32 i0 k0 ?_
  refine r_iconst e_X3_addTest_34 ic_1 ?_
  refine r_iadd e_X3_addTest_35 ?_
  refine r_putI e_X3_addTest_36 fl_X3_32 k0 ?_
  refine r_return e_X3_addTest_39 rfl ⟨rfl, rfl⟩ ?_
  (subst e_Mc1; refine ⟨?_, rfl, ?_⟩ <;> ((try unfold U_X3_addTest); (try simp only []); (try rfl)))
def U_X3_addAct (a : Nat) (x1 : Int32) (x2 : Int64) (x3 : Int32) (M : Mem) : Mem := (let M0_0 : Mem := if (400 : Int32) ≤ (M.1 a 9) then M else (setI (setI (setJ (setI M (a + 7) (M.1 a 9).toNatClampNeg x1) (a + 8) (M.1 a 9).toNatClampNeg x2) (a + 9) (M.1 a 9).toNatClampNeg ((M.1 a 13) - x3)) a 9 ((M.1 a 9) + (1 : Int32))); M0_0)
theorem S_X3_addAct {sh : List SC} {M : Mem} {a : Nat} {x1 : Int32} {x2 : Int64} {x3 : Int32}  (hb1 : ProgramAt sh a) (g1 : ¬ (M.1 a 9) < 0) : Gu m_X3_addAct [.ref a, .int x1, .long x2, .int x3] sh M (U_X3_addAct a x1 x2 x3 M) := by
  refine Sp.of (ls := [some (.ref a), some (.int x1), some (.long x2), none, some (.int x3)]) (by decide +kernel) (Nat.le_of_ble_eq_true rfl) rfl ?_
  have k0 : kd sh a = some (3 + 7, 0) := hb1.1
  have k1 : rf sh a 11 = some (a + 8) := hb1.2.2.2.2.2.2.2.2.1
  have k2 : kd sh (a + 8) = some (1, 400) := hb1.2.2.2.2.2.2.2.2.2.2.2.2.2.2.2.2.2.2.2.2.2.2.1
  have k3 : rf sh a 10 = some (a + 7) := hb1.2.2.2.2.2.2.2.1
  have k4 : kd sh (a + 7) = some (0, 400) := hb1.2.2.2.2.2.2.2.2.2.2.2.2.2.2.2.2.2.2.2.2.2.1
  have k5 : rf sh a 12 = some (a + 9) := hb1.2.2.2.2.2.2.2.2.2.1
  have k6 : kd sh (a + 9) = some (0, 400) := hb1.2.2.2.2.2.2.2.2.2.2.2.2.2.2.2.2.2.2.2.2.2.2.2.1
  refine r_aload_n e_X3_addAct_0 rfl ?_
  refine r_getI e_X3_addAct_1 fl_X3_41 i0 k0 ?_
  refine r_aload_n e_X3_addAct_4 rfl ?_
  refine r_getR e_X3_addAct_5 fl_X3_47 k0 k1 ?_
  refine r_alen (v := (400 : Int32)) e_X3_addAct_8 k2 (by decide) rfl ?_
  obtain ⟨M0_0, e_M0_0⟩ : ∃ z : Mem, z = (if (400 : Int32) ≤ (M.1 a 9) then M else (setI (setI (setJ (setI M (a + 7) (M.1 a 9).toNatClampNeg x1) (a + 8) (M.1 a 9).toNatClampNeg x2) (a + 9) (M.1 a 9).toNatClampNeg ((M.1 a 13) - x3)) a 9 ((M.1 a 9) + (1 : Int32)))) := ⟨_, rfl⟩
  suffices j58_0 : WP m_X3_addAct (fun r sh' M'' => r = none ∧ sh' = sh ∧ M'' = (U_X3_addAct a x1 x2 x3 M)) 58 [some (.ref a), some (.int x1), some (.long x2), none, some (.int x3)] [] sh M0_0 0 0 by
    refine r_icmp_ge e_X3_addAct_9 (fun h9_0 => ?_) (fun h9_0 => ?_)
    · (rw [show M0_0 = M from (e_M0_0.trans (if_pos h9_0))] at j58_0; exact j58_0)
    · refine r_aload_n e_X3_addAct_12 rfl ?_
      refine r_getR e_X3_addAct_13 fl_X3_44 k0 k3 ?_
      refine r_aload_n e_X3_addAct_16 rfl ?_
      refine r_getI e_X3_addAct_17 fl_X3_41 i0 k0 ?_
      refine r_iload_n e_X3_addAct_20 rfl ?_
      refine r_iastore e_X3_addAct_21 k4 (vp_guard g1 h9_0 (by decide)) ?_
      refine r_aload_n e_X3_addAct_22 rfl ?_
      refine r_getR e_X3_addAct_23 fl_X3_47 k0 k1 ?_
      refine r_aload_n e_X3_addAct_26 rfl ?_
      refine r_getIe e_X3_addAct_27 fl_X3_41 i0 k0 (gs_aI (by omega)) ?_
      refine r_lload_n e_X3_addAct_30 rfl ?_
      refine r_lastore e_X3_addAct_31 k2 (vp_guard g1 h9_0 (by decide)) ?_
      refine r_aload_n e_X3_addAct_32 rfl ?_
      refine r_getR e_X3_addAct_33 fl_X3_50 k0 k5 ?_
      refine r_aload_n e_X3_addAct_36 rfl ?_
      refine r_getIe e_X3_addAct_37 fl_X3_41 i0 k0 (gs_k.trans (gs_aI (by omega))) ?_
      refine r_aload_n e_X3_addAct_40 rfl ?_
      refine r_getIe e_X3_addAct_41 fl_X3_53 i0 k0 (gs_k.trans (gs_aI (by omega))) ?_
      refine r_iload e_X3_addAct_44 rfl ?_
      refine r_isub e_X3_addAct_46 ?_
      refine r_iastore e_X3_addAct_47 k6 (vp_guard g1 h9_0 (by decide)) ?_
      refine r_aload_n e_X3_addAct_48 rfl ?_
      refine r_dup e_X3_addAct_49 rfl ?_
      refine r_getIe e_X3_addAct_50 fl_X3_41 i0 k0 ((gs_aI (by omega)).trans (gs_k.trans (gs_aI (by omega)))) ?_
      refine r_iconst e_X3_addAct_53 ic_1 ?_
      refine r_iadd e_X3_addAct_54 ?_
      refine r_putI e_X3_addAct_55 fl_X3_41 k0 ?_
      (rw [show M0_0 = setI (setI (setJ (setI M (a + 7) (M.1 a 9).toNatClampNeg x1) (a + 8) (M.1 a 9).toNatClampNeg x2) (a + 9) (M.1 a 9).toNatClampNeg ((M.1 a 13) - x3)) a 9 ((M.1 a 9) + (1 : Int32)) from (e_M0_0.trans (if_neg h9_0))] at j58_0; exact j58_0)
  refine r_return e_X3_addAct_58 rfl ⟨rfl, rfl⟩ ?_
  (subst e_M0_0; refine ⟨?_, rfl, ?_⟩ <;> ((try unfold U_X3_addAct); (try simp only []); (try rfl)))
def U_X3_closeRule (a : Nat) (M : Mem) : Mem := (let Mc1 : Mem := U_X10_put (a + 4) ((U_X10_put (a + 3) ((M.1 a 3) + (1 : Int32)) (M.1 a 6) 97 (setI M a 3 ((M.1 a 3) + (1 : Int32)))).1 a 3) ((U_X10_put (a + 3) ((M.1 a 3) + (1 : Int32)) (M.1 a 6) 97 (setI M a 3 ((M.1 a 3) + (1 : Int32)))).1 a 9) 97 (U_X10_put (a + 3) ((M.1 a 3) + (1 : Int32)) (M.1 a 6) 97 (setI M a 3 ((M.1 a 3) + (1 : Int32)))); Mc1)
theorem S_X3_closeRule {sh : List SC} {M : Mem} {a : Nat}  (hb1 : ProgramAt sh a)  : Gu m_X3_closeRule [.ref a] sh M (U_X3_closeRule a M) := by
  refine Sp.of (ls := [some (.ref a)]) (by decide +kernel) (Nat.le_of_ble_eq_true rfl) rfl ?_
  have k0 : kd sh a = some (3 + 7, 0) := hb1.1
  have k1 : rf sh a 4 = some (a + 3) := hb1.2.2.2.1
  have k2 : kd sh (a + 3) = some (0, 97) := hb1.2.2.2.2.2.2.2.2.2.2.2.2.2.2.2.2.2.1
  have k3 : rf sh a 5 = some (a + 4) := hb1.2.2.2.2.1
  have k4 : kd sh (a + 4) = some (0, 97) := hb1.2.2.2.2.2.2.2.2.2.2.2.2.2.2.2.2.2.2.1
  refine r_aload_n e_X3_closeRule_0 rfl ?_
  refine r_dup e_X3_closeRule_1 rfl ?_
  refine r_getI e_X3_closeRule_2 fl_X3_23 i0 k0 ?_
  refine r_iconst e_X3_closeRule_5 ic_1 ?_
  refine r_iadd e_X3_closeRule_6 ?_
  refine r_putI e_X3_closeRule_7 fl_X3_23 k0 ?_
  refine r_aload_n e_X3_closeRule_10 rfl ?_
  refine r_getR e_X3_closeRule_11 fl_X3_26 k0 k1 ?_
  refine r_aload_n e_X3_closeRule_14 rfl ?_
  refine r_getIe e_X3_closeRule_15 fl_X3_23 i0 k0 gs_eI ?_
  refine r_aload_n e_X3_closeRule_18 rfl ?_
  refine r_getIe e_X3_closeRule_19 fl_X3_32 i0 k0 (gs_nI (by decide)) ?_
  refine cSN3u e_X3_closeRule_22 cl_X3_74 ⟨Nat.le_of_ble_eq_true rfl, Nat.le_of_ble_eq_true rfl⟩ ⟨rfl, rfl⟩  (Nat.le_of_ble_eq_true rfl) (S_X10_put k2 (by first | decide | (unfold vp_in; decide) | exact Or.inl rfl | exact Or.inr rfl)) ?_
  refine r_aload_n e_X3_closeRule_25 rfl ?_
  refine r_getR e_X3_closeRule_26 fl_X3_29 k0 k3 ?_
  refine r_aload_n e_X3_closeRule_29 rfl ?_
  refine r_getI e_X3_closeRule_30 fl_X3_23 i0 k0 ?_
  refine r_aload_n e_X3_closeRule_33 rfl ?_
  refine r_getI e_X3_closeRule_34 fl_X3_41 i0 k0 ?_
  refine cSN3u e_X3_closeRule_37 cl_X3_74 ⟨Nat.le_of_ble_eq_true rfl, Nat.le_of_ble_eq_true rfl⟩ ⟨rfl, rfl⟩  (Nat.le_of_ble_eq_true rfl) (S_X10_put k4 (by first | decide | (unfold vp_in; decide) | exact Or.inl rfl | exact Or.inr rfl)) ?_
  obtain ⟨Mc1, e_Mc1⟩ : ∃ z : Mem, z = (U_X10_put (a + 4) ((U_X10_put (a + 3) ((M.1 a 3) + (1 : Int32)) (M.1 a 6) 97 (setI M a 3 ((M.1 a 3) + (1 : Int32)))).1 a 3) ((U_X10_put (a + 3) ((M.1 a 3) + (1 : Int32)) (M.1 a 6) 97 (setI M a 3 ((M.1 a 3) + (1 : Int32)))).1 a 9) 97 (U_X10_put (a + 3) ((M.1 a 3) + (1 : Int32)) (M.1 a 6) 97 (setI M a 3 ((M.1 a 3) + (1 : Int32))))) := ⟨_, rfl⟩
  rw [← e_Mc1]
  refine r_return e_X3_closeRule_40 rfl ⟨rfl, rfl⟩ ?_
  (subst e_Mc1; refine ⟨?_, rfl, ?_⟩ <;> ((try unfold U_X3_closeRule); (try simp only []); (try rfl)))
def U_X3_closeState (a : Nat) (M : Mem) : Mem := U_X10_put (a + 2) ((M.1 a 0) + (1 : Int32)) (M.1 a 3) 9 (setI M a 0 ((M.1 a 0) + (1 : Int32)))
theorem S_X3_closeState {sh : List SC} {M : Mem} {a : Nat}  (hb1 : ProgramAt sh a)  : Gu m_X3_closeState [.ref a] sh M (U_X3_closeState a M) := by
  refine Sp.of (ls := [some (.ref a)]) (by decide +kernel) (Nat.le_of_ble_eq_true rfl) rfl ?_
  have k0 : kd sh a = some (3 + 7, 0) := hb1.1
  have k1 : rf sh a 2 = some (a + 2) := hb1.2.2.1
  have k2 : kd sh (a + 2) = some (0, 9) := hb1.2.2.2.2.2.2.2.2.2.2.2.2.2.2.2.2.1
  refine r_aload_n e_X3_closeState_0 rfl ?_
  refine r_dup e_X3_closeState_1 rfl ?_
  refine r_getI e_X3_closeState_2 fl_X3_9 i0 k0 ?_
  refine r_iconst e_X3_closeState_5 ic_1 ?_
  refine r_iadd e_X3_closeState_6 ?_
  refine r_putI e_X3_closeState_7 fl_X3_9 k0 ?_
  refine r_aload_n e_X3_closeState_10 rfl ?_
  refine r_getR e_X3_closeState_11 fl_X3_19 k0 k1 ?_
  refine r_aload_n e_X3_closeState_14 rfl ?_
  refine r_getIe e_X3_closeState_15 fl_X3_9 i0 k0 gs_eI ?_
  refine r_aload_n e_X3_closeState_18 rfl ?_
  refine r_getIe e_X3_closeState_19 fl_X3_23 i0 k0 (gs_nI (by decide)) ?_
  refine cSN3u e_X3_closeState_22 cl_X3_74 ⟨Nat.le_of_ble_eq_true rfl, Nat.le_of_ble_eq_true rfl⟩ ⟨rfl, rfl⟩  (Nat.le_of_ble_eq_true rfl) (S_X10_put k2 (by first | decide | (unfold vp_in; decide) | exact Or.inl rfl | exact Or.inr rfl)) ?_
  refine r_return e_X3_closeState_25 rfl ⟨rfl, rfl⟩ ?_
  (refine ⟨?_, rfl, ?_⟩ <;> ((try unfold U_X3_closeState); (try simp only []); (try rfl)))
def FV_X3_stateNamed_2 (a : Nat) (x1 : Int64) : Nat → Int32 → Mem → Int32
  | 0, u3, M => 0
  | n + 1, u3, M => if (M.1 a 0) ≤ u3 then (-1 : Int32) else (if (8 : Int32) ≤ u3 then (-1 : Int32) else (if (lg_cmp (M.2 (a + 1) u3.toNatClampNeg) x1) = 0 then u3 else (FV_X3_stateNamed_2 a x1 n (u3 + 1) M)))
def T_X3_stateNamed_2 (a : Nat) (x1 : Int64) : Nat → Int32 → Mem → Prop
  | 0, u3, M => False
  | n + 1, u3, M => (¬ u3 < 0) ∧ ((if (M.1 a 0) ≤ u3 then True else (if (8 : Int32) ≤ u3 then True else (if (lg_cmp (M.2 (a + 1) u3.toNatClampNeg) x1) = 0 then True else (T_X3_stateNamed_2 a x1 n (u3 + 1) M)))))
theorem L_X3_stateNamed_2 {sh : List SC} {Q : Po} {a : Nat} {x1 : Int64}    (hb1 : ProgramAt sh a)   : ∀ (n : Nat) (u3 : Int32) (M : Mem), T_X3_stateNamed_2 a x1 n u3 M → Q (some (.int (FV_X3_stateNamed_2 a x1 n u3 M))) sh M → WP m_X3_stateNamed Q 2 [some (.ref a), some (.long x1), none, some (.int u3)] [] sh M 0 0 := by
  have k0 : kd sh a = some (3 + 7, 0) := hb1.1
  have k1 : rf sh a 1 = some (a + 1) := hb1.2.1
  have k2 : kd sh (a + 1) = some (1, 8) := hb1.2.2.2.2.2.2.2.2.2.2.2.2.2.2.2.1
  intro n
  induction n with
  | zero =>
    intro u3 M hH hq
    exact hH.elim
  | succ n ih =>
    intro u3 M hH hq
    unfold T_X3_stateNamed_2 at hH
    obtain ⟨g1, hH⟩ := hH
    refine r_iload_n e_X3_stateNamed_2 rfl ?_
    refine r_aload_n e_X3_stateNamed_3 rfl ?_
    refine r_getI e_X3_stateNamed_4 fl_X3_9 i0 k0 ?_
    refine r_icmp_ge e_X3_stateNamed_7 (fun h7_200 => ?_) (fun h7_200 => ?_)
    · refine r_iconst e_X3_stateNamed_38 ic_m1 ?_
      refine r_ireturn e_X3_stateNamed_39 rfl ⟨rfl, rfl⟩ ?_
      (simp only [FV_X3_stateNamed_2, if_pos h7_200] at hq; first | exact hq | (simp only [if_pos h7_200]; exact hq))
    · refine r_iload_n e_X3_stateNamed_10 rfl ?_
      refine r_aload_n e_X3_stateNamed_11 rfl ?_
      refine r_getR e_X3_stateNamed_12 fl_X3_15 k0 k1 ?_
      refine r_alen (v := (8 : Int32)) e_X3_stateNamed_15 k2 (by decide) rfl ?_
      refine r_icmp_ge e_X3_stateNamed_16 (fun h16_201 => ?_) (fun h16_201 => ?_)
      · refine r_iconst e_X3_stateNamed_38 ic_m1 ?_
        refine r_ireturn e_X3_stateNamed_39 rfl ⟨rfl, rfl⟩ ?_
        (simp only [FV_X3_stateNamed_2, if_neg h7_200, if_pos h16_201] at hq; first | exact hq | (simp only [if_neg h7_200, if_pos h16_201]; exact hq))
      · refine r_aload_n e_X3_stateNamed_19 rfl ?_
        refine r_getR e_X3_stateNamed_20 fl_X3_15 k0 k1 ?_
        refine r_iload_n e_X3_stateNamed_23 rfl ?_
        refine r_laload e_X3_stateNamed_24 k2 (vp_guard g1 h16_201 (by decide)) ?_
        refine r_lload_n e_X3_stateNamed_25 rfl ?_
        refine r_lcmp e_X3_stateNamed_26 ?_
        refine r_if_ne e_X3_stateNamed_27 (fun h27_202 => ?_) (fun h27_202 => ?_)
        · refine p_iinc_4_3 e_X3_stateNamed_32 rfl ic_1 rfl ?_
          refine r_goto e_X3_stateNamed_35 ?_
          (simp only [FV_X3_stateNamed_2, if_neg h7_200, if_neg h16_201, if_neg h27_202] at hq; (try simp only [if_neg h7_200, if_neg h16_201, if_neg h27_202] at hH); first | exact ih _ _ hH hq | (simp only [if_neg h7_200, if_neg h16_201, if_neg h27_202]; exact ih _ _ hH hq))
        · refine r_iload_n e_X3_stateNamed_30 rfl ?_
          refine r_ireturn e_X3_stateNamed_31 rfl ⟨rfl, rfl⟩ ?_
          (simp only [FV_X3_stateNamed_2, if_neg h7_200, if_neg h16_201, if_pos h27_202] at hq; first | exact hq | (simp only [if_neg h7_200, if_neg h16_201, if_pos h27_202]; exact hq))
def V_X3_stateNamed (a : Nat) (x1 : Int64) (M : Mem) : Int32 := (FV_X3_stateNamed_2 a x1 FUEL (0 : Int32) M)
def P_X3_stateNamed (a : Nat) (x1 : Int64) (M : Mem) : Prop := (T_X3_stateNamed_2 a x1 FUEL (0 : Int32) M)
theorem S_X3_stateNamed {sh : List SC} {M : Mem} {a : Nat} {x1 : Int64}  (hb1 : ProgramAt sh a)  (hP : P_X3_stateNamed a x1 M) : Gv m_X3_stateNamed [.ref a, .long x1] sh M (.int (V_X3_stateNamed a x1 M)) M := by
  refine Sp.of (ls := [some (.ref a), some (.long x1), none, none]) (by decide +kernel) (Nat.le_of_ble_eq_true rfl) rfl ?_
  have g1 : T_X3_stateNamed_2 a x1 FUEL (0 : Int32) M := hP
  refine r_iconst e_X3_stateNamed_0 ic_0 ?_
  refine p_istore_n_4_3 e_X3_stateNamed_1 rfl rfl ?_
  refine L_X3_stateNamed_2 hb1 FUEL (0 : Int32) M g1 ?_
  (refine ⟨?_, rfl, ?_⟩ <;> ((try unfold V_X3_stateNamed); (try simp only []); (try rfl)))
def F_X3_resolveGoes_2 (a : Nat) : Nat → Int32 → Mem → Int32 × Mem
  | 0, u1, M => (u1, M)
  | n + 1, u1, M => if (M.1 a 9) ≤ u1 then (u1, M) else (if (400 : Int32) ≤ u1 then (u1, M) else (let M202_0 : Mem := if (M.1 (a + 7) u1.toNatClampNeg) = (3 : Int32) then (setJ M (a + 8) u1.toNatClampNeg ((V_X3_stateNamed a (M.2 (a + 8) u1.toNatClampNeg) M).toInt64)) else M; (F_X3_resolveGoes_2 a n (u1 + 1) M202_0)))
def T_X3_resolveGoes_2 (a : Nat) : Nat → Int32 → Mem → Prop
  | 0, u1, M => False
  | n + 1, u1, M => (¬ u1 < 0) ∧ (P_X3_stateNamed a (M.2 (a + 8) u1.toNatClampNeg) M) ∧ (if (M.1 a 9) ≤ u1 then True else (if (400 : Int32) ≤ u1 then True else (let M202_0 : Mem := if (M.1 (a + 7) u1.toNatClampNeg) = (3 : Int32) then (setJ M (a + 8) u1.toNatClampNeg ((V_X3_stateNamed a (M.2 (a + 8) u1.toNatClampNeg) M).toInt64)) else M; (T_X3_resolveGoes_2 a n (u1 + 1) M202_0))))
theorem L_X3_resolveGoes_2 {sh : List SC} {Q : Po} {a : Nat}    (hb1 : ProgramAt sh a)   : ∀ (n : Nat) (u1 : Int32) (M : Mem), T_X3_resolveGoes_2 a n u1 M → WP m_X3_resolveGoes Q 52 [some (.ref a), some (.int ((F_X3_resolveGoes_2 a n u1 M).1))] [] sh ((F_X3_resolveGoes_2 a n u1 M).2) 0 0 → WP m_X3_resolveGoes Q 2 [some (.ref a), some (.int u1)] [] sh M 0 0 := by
  have k0 : kd sh a = some (3 + 7, 0) := hb1.1
  have k1 : rf sh a 11 = some (a + 8) := hb1.2.2.2.2.2.2.2.2.1
  have k2 : kd sh (a + 8) = some (1, 400) := hb1.2.2.2.2.2.2.2.2.2.2.2.2.2.2.2.2.2.2.2.2.2.2.1
  have k3 : rf sh a 10 = some (a + 7) := hb1.2.2.2.2.2.2.2.1
  have k4 : kd sh (a + 7) = some (0, 400) := hb1.2.2.2.2.2.2.2.2.2.2.2.2.2.2.2.2.2.2.2.2.2.1
  intro n
  induction n with
  | zero =>
    intro u1 M hH hq
    exact hH.elim
  | succ n ih =>
    intro u1 M hH hq
    unfold T_X3_resolveGoes_2 at hH
    obtain ⟨g1, g2, hH⟩ := hH
    refine r_iload_n e_X3_resolveGoes_2 rfl ?_
    refine r_aload_n e_X3_resolveGoes_3 rfl ?_
    refine r_getI e_X3_resolveGoes_4 fl_X3_41 i0 k0 ?_
    refine r_icmp_ge e_X3_resolveGoes_7 (fun h7_200 => ?_) (fun h7_200 => ?_)
    · (simp only [F_X3_resolveGoes_2, if_pos h7_200] at hq; first | exact hq | (simp only [if_pos h7_200]; exact hq))
    · refine r_iload_n e_X3_resolveGoes_10 rfl ?_
      refine r_aload_n e_X3_resolveGoes_11 rfl ?_
      refine r_getR e_X3_resolveGoes_12 fl_X3_47 k0 k1 ?_
      refine r_alen (v := (400 : Int32)) e_X3_resolveGoes_15 k2 (by decide) rfl ?_
      refine r_icmp_ge e_X3_resolveGoes_16 (fun h16_201 => ?_) (fun h16_201 => ?_)
      · (simp only [F_X3_resolveGoes_2, if_neg h7_200, if_pos h16_201] at hq; first | exact hq | (simp only [if_neg h7_200, if_pos h16_201]; exact hq))
      · refine r_aload_n e_X3_resolveGoes_19 rfl ?_
        refine r_getR e_X3_resolveGoes_20 fl_X3_44 k0 k3 ?_
        refine r_iload_n e_X3_resolveGoes_23 rfl ?_
        refine r_iaload e_X3_resolveGoes_24 k4 (vp_guard g1 h16_201 (by decide)) ?_
        refine r_iconst e_X3_resolveGoes_25 ic_3 ?_
        obtain ⟨M202_0, e_M202_0⟩ : ∃ z : Mem, z = (if (M.1 (a + 7) u1.toNatClampNeg) = (3 : Int32) then (setJ M (a + 8) u1.toNatClampNeg ((V_X3_stateNamed a (M.2 (a + 8) u1.toNatClampNeg) M).toInt64)) else M) := ⟨_, rfl⟩
        suffices j46_202 : WP m_X3_resolveGoes Q 46 [some (.ref a), some (.int u1)] [] sh M202_0 0 0 by
          refine r_icmp_ne e_X3_resolveGoes_26 (fun h26_202 => ?_) (fun h26_202 => ?_)
          · (rw [show M202_0 = M from (e_M202_0.trans (if_neg h26_202))] at j46_202; exact j46_202)
          · refine r_aload_n e_X3_resolveGoes_29 rfl ?_
            refine r_getR e_X3_resolveGoes_30 fl_X3_47 k0 k1 ?_
            refine r_iload_n e_X3_resolveGoes_33 rfl ?_
            refine r_aload_n e_X3_resolveGoes_34 rfl ?_
            refine r_aload_n e_X3_resolveGoes_35 rfl ?_
            refine r_getR e_X3_resolveGoes_36 fl_X3_47 k0 k1 ?_
            refine r_iload_n e_X3_resolveGoes_39 rfl ?_
            refine r_laload e_X3_resolveGoes_40 k2 (vp_guard g1 h16_201 (by decide)) ?_
            refine cV1v e_X3_resolveGoes_41 cl_X3_80 ⟨Nat.le_of_ble_eq_true rfl, Nat.le_of_ble_eq_true rfl⟩ ⟨rfl, rfl⟩ k0 (Nat.le_of_ble_eq_true rfl) (S_X3_stateNamed hb1 g2) ?_
            refine r_i2l e_X3_resolveGoes_44 ?_
            refine r_lastore e_X3_resolveGoes_45 k2 (vp_guard g1 h16_201 (by decide)) ?_
            (rw [show M202_0 = setJ M (a + 8) u1.toNatClampNeg ((V_X3_stateNamed a (M.2 (a + 8) u1.toNatClampNeg) M).toInt64) from (e_M202_0.trans (if_pos h26_202))] at j46_202; exact j46_202)
        refine p_iinc_2_1 e_X3_resolveGoes_46 rfl ic_1 rfl ?_
        refine r_goto e_X3_resolveGoes_49 ?_
        (subst e_M202_0; simp only [F_X3_resolveGoes_2, if_neg h7_200, if_neg h16_201] at hq; (try simp only [if_neg h7_200, if_neg h16_201] at hH); first | exact ih _ _ hH hq | (simp only [if_neg h7_200, if_neg h16_201]; exact ih _ _ hH hq))
def U_X3_resolveGoes (a : Nat) (M : Mem) : Mem := ((F_X3_resolveGoes_2 a FUEL (0 : Int32) M).2)
def P_X3_resolveGoes (a : Nat) (M : Mem) : Prop := (T_X3_resolveGoes_2 a FUEL (0 : Int32) M)
theorem S_X3_resolveGoes {sh : List SC} {M : Mem} {a : Nat}  (hb1 : ProgramAt sh a)  (hP : P_X3_resolveGoes a M) : Gu m_X3_resolveGoes [.ref a] sh M (U_X3_resolveGoes a M) := by
  refine Sp.of (ls := [some (.ref a), none]) (by decide +kernel) (Nat.le_of_ble_eq_true rfl) rfl ?_
  have g1 : T_X3_resolveGoes_2 a FUEL (0 : Int32) M := hP
  refine r_iconst e_X3_resolveGoes_0 ic_0 ?_
  refine p_istore_n_2_1 e_X3_resolveGoes_1 rfl rfl ?_
  refine L_X3_resolveGoes_2 hb1 FUEL (0 : Int32) M g1 ?_
  refine r_return e_X3_resolveGoes_52 rfl ⟨rfl, rfl⟩ ?_
  (refine ⟨?_, rfl, ?_⟩ <;> ((try unfold U_X3_resolveGoes); (try simp only []); (try rfl)))
def U_X4_empty (a : Nat) (M : Mem) : Mem := setI M a 5 (0 : Int32)
theorem S_X4_empty {sh : List SC} {M : Mem} {a : Nat}  (hb1 : ReaderAt sh a)  : Gu m_X4_empty [.ref a] sh M (U_X4_empty a M) := by
  refine Sp.of (ls := [some (.ref a)]) (by decide +kernel) (Nat.le_of_ble_eq_true rfl) rfl ?_
  have k0 : kd sh a = some (4 + 7, 0) := hb1.1
  refine r_aload_n e_X4_empty_0 rfl ?_
  refine r_iconst e_X4_empty_1 ic_0 ?_
  refine r_putI e_X4_empty_2 fl_X4_30 k0 ?_
  refine r_return e_X4_empty_5 rfl ⟨rfl, rfl⟩ ?_
  (refine ⟨?_, rfl, ?_⟩ <;> ((try unfold U_X4_empty); (try simp only []); (try rfl)))
def V_X10_fault (M : Mem) : Int32 := (M.1 0 11)
theorem S_X10_fault {sh : List SC} {M : Mem}   (hb1 : PitchAt sh)  : Gv m_X10_fault [.ref 0] sh M (.int (V_X10_fault  M)) M := by
  refine Sp.of (ls := [some (.ref 0)]) (by decide +kernel) (Nat.le_of_ble_eq_true rfl) rfl ?_
  have k0 : kd sh 0 = some (9 + 7, 0) := hb1.1
  refine r_aload_n e_X10_fault_0 rfl ?_
  refine r_getI e_X10_fault_1 fl_X10_55 i0 k0 ?_
  refine r_ireturn e_X10_fault_4 rfl ⟨rfl, rfl⟩ ?_
  (refine ⟨?_, rfl, ?_⟩ <;> ((try unfold V_X10_fault); (try simp only []); (try rfl)))
def V_X10_isTeam (x1 : Int32) (M : Mem) : Int32 := (let v0_0 : Int32 := if x1 < 0 then (0 : Int32) else (if (4 : Int32) ≤ x1 then (0 : Int32) else (1 : Int32)); v0_0)
theorem Z_X10_isTeam {M : Mem} {x1 : Int32}   : V_X10_isTeam x1 M = 0 ∨ V_X10_isTeam x1 M = 1 := (zi (Or.inl rfl) (zi (Or.inl rfl) (Or.inr rfl)))
theorem S_X10_isTeam {sh : List SC} {M : Mem} {x1 : Int32}    : Gv m_X10_isTeam [.int x1] sh M (.int (V_X10_isTeam x1 M)) M := by
  refine Sp.of (ls := [some (.int x1)]) (by decide +kernel) (Nat.le_of_ble_eq_true rfl) rfl ?_
  refine r_iload_n e_X10_isTeam_0 rfl ?_
  obtain ⟨v0_0, e_v0_0⟩ : ∃ z : Int32, z = (if x1 < 0 then (0 : Int32) else (if (4 : Int32) ≤ x1 then (0 : Int32) else (1 : Int32))) := ⟨_, rfl⟩
  have z_v0_0 : v0_0 = 0 ∨ v0_0 = 1 := by rw [e_v0_0]; exact (zi (Or.inl rfl) (zi (Or.inl rfl) (Or.inr rfl)))
  suffices j14_0 : WP m_X10_isTeam (fun r sh' M'' => r = some (.int (V_X10_isTeam x1 M)) ∧ sh' = sh ∧ M'' = M) 14 [some (.int x1)] [.int v0_0] sh M 0 0 by
    refine r_if_lt e_X10_isTeam_1 (fun h1_0 => ?_) (fun h1_0 => ?_)
    · refine r_iconst e_X10_isTeam_13 ic_0 ?_
      (rw [show v0_0 = (0 : Int32) from (e_v0_0.trans (if_pos h1_0))] at j14_0; exact j14_0)
    · refine r_iload_n e_X10_isTeam_4 rfl ?_
      refine r_iconst e_X10_isTeam_5 ic_4 ?_
      refine r_icmp_ge e_X10_isTeam_6 (fun h6_1 => ?_) (fun h6_1 => ?_)
      · refine r_iconst e_X10_isTeam_13 ic_0 ?_
        (rw [show v0_0 = (0 : Int32) from ((e_v0_0.trans (if_neg h1_0)).trans (if_pos h6_1))] at j14_0; exact j14_0)
      · refine r_iconst e_X10_isTeam_9 ic_1 ?_
        refine r_goto e_X10_isTeam_10 ?_
        (rw [show v0_0 = (1 : Int32) from ((e_v0_0.trans (if_neg h1_0)).trans (if_neg h6_1))] at j14_0; exact j14_0)
  refine r_zreturn e_X10_isTeam_14 rfl ⟨rfl, rfl⟩ z_v0_0 ?_
  (subst e_v0_0; refine ⟨?_, rfl, ?_⟩ <;> ((try unfold V_X10_isTeam); (try simp only []); (try rfl)))
