theorem WP_drop {k : MT} {Q : Po} {pc : Nat} {ls ls' : List (Option Value)} {st : List Value} {sh : List SC} {M : Mem} {n1 n2 : Nat} (h : WP k Q pc ls st sh M n1 n2) (hs : ∀ (j : Nat) (v : Value), ls[j]? = some (some v) → ls'[j]? = some (some v)) : WP k Q pc ls' st sh M n1 n2 := by
  intro p l e s m args below meth c ad0 ad dC dI dA sz0 H locs la C h0 h1 h2 h3 h4 h5
  refine h p l e s m args below meth c ad0 ad dC dI dA sz0 H locs la C h0 h1 h2 h3 h4 (lv_mono h5 (fun q hq => ?_))
  obtain ⟨v, g1, g2⟩ := lvW_mem hq
  have g3 := lvW_of (ad := ad) (hs _ _ g1)
  rw [← g2] at g3
  exact g3
theorem WP_dropI {k : MT} {Q : Po} {pc i : Nat} {ls : List (Option Value)} {st : List Value} {sh : List SC} {M : Mem} {n1 n2 : Nat} (h : WP k Q pc (ls.set i none) st sh M n1 n2) : WP k Q pc ls st sh M n1 n2 :=
  WP_drop h (fun j v hj => by
    rw [List.getElem?_set] at hj
    split at hj
    · split at hj <;> simp at hj
    · exact hj)
theorem p_astore_n_3_2 {k : MT} {Q : Po} {pc pc' : Nat} {st : List Value} {sh : List SC} {M : Mem} {n1 n2 : Nat} {v0 v1 v2 : Option Value} {x : Nat} (hd : Inx k pc (.astore_n 2) 1 pc') (hk : k.2.2.1 = 3) (hj : isJ v1 = false) (h : WP k Q pc' [v0, v1, some (.ref x)] st sh M n1 n2) : WP k Q pc [v0, v1, v2] (.ref x :: st) sh M n1 n2 := by
  refine r_astore_n hd (by rw [hk]; decide) ?_ h
  simp [lset, List.mapIdx_cons, show ((3 : Fin 4) : Nat) = 3 from rfl, hj]
theorem p_astore_n_4_2 {k : MT} {Q : Po} {pc pc' : Nat} {st : List Value} {sh : List SC} {M : Mem} {n1 n2 : Nat} {v0 v1 v2 v3 : Option Value} {x : Nat} (hd : Inx k pc (.astore_n 2) 1 pc') (hk : k.2.2.1 = 4) (hj : isJ v1 = false) (h : WP k Q pc' [v0, v1, some (.ref x), v3] st sh M n1 n2) : WP k Q pc [v0, v1, v2, v3] (.ref x :: st) sh M n1 n2 := by
  refine r_astore_n hd (by rw [hk]; decide) ?_ h
  simp [lset, List.mapIdx_cons, show ((3 : Fin 4) : Nat) = 3 from rfl, hj]
theorem p_astore_n_8_3 {k : MT} {Q : Po} {pc pc' : Nat} {st : List Value} {sh : List SC} {M : Mem} {n1 n2 : Nat} {v0 v1 v2 v3 v4 v5 v6 v7 : Option Value} {x : Nat} (hd : Inx k pc (.astore_n 3) 1 pc') (hk : k.2.2.1 = 8) (hj : isJ v2 = false) (h : WP k Q pc' [v0, v1, v2, some (.ref x), v4, v5, v6, v7] st sh M n1 n2) : WP k Q pc [v0, v1, v2, v3, v4, v5, v6, v7] (.ref x :: st) sh M n1 n2 := by
  refine r_astore_n hd (by rw [hk]; decide) ?_ h
  simp [lset, List.mapIdx_cons, show ((3 : Fin 4) : Nat) = 3 from rfl, hj]
theorem p_astore_8_4 {k : MT} {Q : Po} {pc pc' : Nat} {st : List Value} {sh : List SC} {M : Mem} {n1 n2 : Nat} {v0 v1 v2 v3 v4 v5 v6 v7 : Option Value} {x : Nat} (hd : Inx k pc (.astore 4) 2 pc') (hk : k.2.2.1 = 8) (hj : isJ v3 = false) (h : WP k Q pc' [v0, v1, v2, v3, some (.ref x), v5, v6, v7] st sh M n1 n2) : WP k Q pc [v0, v1, v2, v3, v4, v5, v6, v7] (.ref x :: st) sh M n1 n2 := by
  refine r_astore hd (by rw [hk]; decide) ?_ h
  simp [lset, List.mapIdx_cons, show ((3 : Fin 4) : Nat) = 3 from rfl, hj]
theorem p_iinc_2_1 {k : MT} {Q : Po} {pc pc' : Nat} {st : List Value} {sh : List SC} {M : Mem} {n1 n2 : Nat} {v0 : Option Value} {x v : Int32} {n : Int} (hd : Inx k pc (.iinc 1 n) 3 pc') (hk : k.2.2.1 = 2) (hv : Int32.ofInt n = v) (hj : isJ v0 = false) (h : WP k Q pc' [v0, some (.int (x + v))] st sh M n1 n2) : WP k Q pc [v0, some (.int x)] st sh M n1 n2 := by
  refine r_iinc hd (by rw [hk]; decide) rfl hv ?_ h
  simp [lset, List.mapIdx_cons, show ((3 : Fin 4) : Nat) = 3 from rfl, hj]
theorem p_iinc_3_1 {k : MT} {Q : Po} {pc pc' : Nat} {st : List Value} {sh : List SC} {M : Mem} {n1 n2 : Nat} {v0 v2 : Option Value} {x v : Int32} {n : Int} (hd : Inx k pc (.iinc 1 n) 3 pc') (hk : k.2.2.1 = 3) (hv : Int32.ofInt n = v) (hj : isJ v0 = false) (h : WP k Q pc' [v0, some (.int (x + v)), v2] st sh M n1 n2) : WP k Q pc [v0, some (.int x), v2] st sh M n1 n2 := by
  refine r_iinc hd (by rw [hk]; decide) rfl hv ?_ h
  simp [lset, List.mapIdx_cons, show ((3 : Fin 4) : Nat) = 3 from rfl, hj]
theorem p_iinc_3_2 {k : MT} {Q : Po} {pc pc' : Nat} {st : List Value} {sh : List SC} {M : Mem} {n1 n2 : Nat} {v0 v1 : Option Value} {x v : Int32} {n : Int} (hd : Inx k pc (.iinc 2 n) 3 pc') (hk : k.2.2.1 = 3) (hv : Int32.ofInt n = v) (hj : isJ v1 = false) (h : WP k Q pc' [v0, v1, some (.int (x + v))] st sh M n1 n2) : WP k Q pc [v0, v1, some (.int x)] st sh M n1 n2 := by
  refine r_iinc hd (by rw [hk]; decide) rfl hv ?_ h
  simp [lset, List.mapIdx_cons, show ((3 : Fin 4) : Nat) = 3 from rfl, hj]
theorem p_iinc_4_1 {k : MT} {Q : Po} {pc pc' : Nat} {st : List Value} {sh : List SC} {M : Mem} {n1 n2 : Nat} {v0 v2 v3 : Option Value} {x v : Int32} {n : Int} (hd : Inx k pc (.iinc 1 n) 3 pc') (hk : k.2.2.1 = 4) (hv : Int32.ofInt n = v) (hj : isJ v0 = false) (h : WP k Q pc' [v0, some (.int (x + v)), v2, v3] st sh M n1 n2) : WP k Q pc [v0, some (.int x), v2, v3] st sh M n1 n2 := by
  refine r_iinc hd (by rw [hk]; decide) rfl hv ?_ h
  simp [lset, List.mapIdx_cons, show ((3 : Fin 4) : Nat) = 3 from rfl, hj]
theorem p_iinc_4_2 {k : MT} {Q : Po} {pc pc' : Nat} {st : List Value} {sh : List SC} {M : Mem} {n1 n2 : Nat} {v0 v1 v3 : Option Value} {x v : Int32} {n : Int} (hd : Inx k pc (.iinc 2 n) 3 pc') (hk : k.2.2.1 = 4) (hv : Int32.ofInt n = v) (hj : isJ v1 = false) (h : WP k Q pc' [v0, v1, some (.int (x + v)), v3] st sh M n1 n2) : WP k Q pc [v0, v1, some (.int x), v3] st sh M n1 n2 := by
  refine r_iinc hd (by rw [hk]; decide) rfl hv ?_ h
  simp [lset, List.mapIdx_cons, show ((3 : Fin 4) : Nat) = 3 from rfl, hj]
theorem p_iinc_4_3 {k : MT} {Q : Po} {pc pc' : Nat} {st : List Value} {sh : List SC} {M : Mem} {n1 n2 : Nat} {v0 v1 v2 : Option Value} {x v : Int32} {n : Int} (hd : Inx k pc (.iinc 3 n) 3 pc') (hk : k.2.2.1 = 4) (hv : Int32.ofInt n = v) (hj : isJ v2 = false) (h : WP k Q pc' [v0, v1, v2, some (.int (x + v))] st sh M n1 n2) : WP k Q pc [v0, v1, v2, some (.int x)] st sh M n1 n2 := by
  refine r_iinc hd (by rw [hk]; decide) rfl hv ?_ h
  simp [lset, List.mapIdx_cons, show ((3 : Fin 4) : Nat) = 3 from rfl, hj]
theorem p_iinc_5_2 {k : MT} {Q : Po} {pc pc' : Nat} {st : List Value} {sh : List SC} {M : Mem} {n1 n2 : Nat} {v0 v1 v3 v4 : Option Value} {x v : Int32} {n : Int} (hd : Inx k pc (.iinc 2 n) 3 pc') (hk : k.2.2.1 = 5) (hv : Int32.ofInt n = v) (hj : isJ v1 = false) (h : WP k Q pc' [v0, v1, some (.int (x + v)), v3, v4] st sh M n1 n2) : WP k Q pc [v0, v1, some (.int x), v3, v4] st sh M n1 n2 := by
  refine r_iinc hd (by rw [hk]; decide) rfl hv ?_ h
  simp [lset, List.mapIdx_cons, show ((3 : Fin 4) : Nat) = 3 from rfl, hj]
theorem p_iinc_5_3 {k : MT} {Q : Po} {pc pc' : Nat} {st : List Value} {sh : List SC} {M : Mem} {n1 n2 : Nat} {v0 v1 v2 v4 : Option Value} {x v : Int32} {n : Int} (hd : Inx k pc (.iinc 3 n) 3 pc') (hk : k.2.2.1 = 5) (hv : Int32.ofInt n = v) (hj : isJ v2 = false) (h : WP k Q pc' [v0, v1, v2, some (.int (x + v)), v4] st sh M n1 n2) : WP k Q pc [v0, v1, v2, some (.int x), v4] st sh M n1 n2 := by
  refine r_iinc hd (by rw [hk]; decide) rfl hv ?_ h
  simp [lset, List.mapIdx_cons, show ((3 : Fin 4) : Nat) = 3 from rfl, hj]
theorem p_iinc_5_4 {k : MT} {Q : Po} {pc pc' : Nat} {st : List Value} {sh : List SC} {M : Mem} {n1 n2 : Nat} {v0 v1 v2 v3 : Option Value} {x v : Int32} {n : Int} (hd : Inx k pc (.iinc 4 n) 3 pc') (hk : k.2.2.1 = 5) (hv : Int32.ofInt n = v) (hj : isJ v3 = false) (h : WP k Q pc' [v0, v1, v2, v3, some (.int (x + v))] st sh M n1 n2) : WP k Q pc [v0, v1, v2, v3, some (.int x)] st sh M n1 n2 := by
  refine r_iinc hd (by rw [hk]; decide) rfl hv ?_ h
  simp [lset, List.mapIdx_cons, show ((3 : Fin 4) : Nat) = 3 from rfl, hj]
theorem p_iinc_6_1 {k : MT} {Q : Po} {pc pc' : Nat} {st : List Value} {sh : List SC} {M : Mem} {n1 n2 : Nat} {v0 v2 v3 v4 v5 : Option Value} {x v : Int32} {n : Int} (hd : Inx k pc (.iinc 1 n) 3 pc') (hk : k.2.2.1 = 6) (hv : Int32.ofInt n = v) (hj : isJ v0 = false) (h : WP k Q pc' [v0, some (.int (x + v)), v2, v3, v4, v5] st sh M n1 n2) : WP k Q pc [v0, some (.int x), v2, v3, v4, v5] st sh M n1 n2 := by
  refine r_iinc hd (by rw [hk]; decide) rfl hv ?_ h
  simp [lset, List.mapIdx_cons, show ((3 : Fin 4) : Nat) = 3 from rfl, hj]
theorem p_iinc_6_2 {k : MT} {Q : Po} {pc pc' : Nat} {st : List Value} {sh : List SC} {M : Mem} {n1 n2 : Nat} {v0 v1 v3 v4 v5 : Option Value} {x v : Int32} {n : Int} (hd : Inx k pc (.iinc 2 n) 3 pc') (hk : k.2.2.1 = 6) (hv : Int32.ofInt n = v) (hj : isJ v1 = false) (h : WP k Q pc' [v0, v1, some (.int (x + v)), v3, v4, v5] st sh M n1 n2) : WP k Q pc [v0, v1, some (.int x), v3, v4, v5] st sh M n1 n2 := by
  refine r_iinc hd (by rw [hk]; decide) rfl hv ?_ h
  simp [lset, List.mapIdx_cons, show ((3 : Fin 4) : Nat) = 3 from rfl, hj]
theorem p_iinc_6_3 {k : MT} {Q : Po} {pc pc' : Nat} {st : List Value} {sh : List SC} {M : Mem} {n1 n2 : Nat} {v0 v1 v2 v4 v5 : Option Value} {x v : Int32} {n : Int} (hd : Inx k pc (.iinc 3 n) 3 pc') (hk : k.2.2.1 = 6) (hv : Int32.ofInt n = v) (hj : isJ v2 = false) (h : WP k Q pc' [v0, v1, v2, some (.int (x + v)), v4, v5] st sh M n1 n2) : WP k Q pc [v0, v1, v2, some (.int x), v4, v5] st sh M n1 n2 := by
  refine r_iinc hd (by rw [hk]; decide) rfl hv ?_ h
  simp [lset, List.mapIdx_cons, show ((3 : Fin 4) : Nat) = 3 from rfl, hj]
theorem p_iinc_6_4 {k : MT} {Q : Po} {pc pc' : Nat} {st : List Value} {sh : List SC} {M : Mem} {n1 n2 : Nat} {v0 v1 v2 v3 v5 : Option Value} {x v : Int32} {n : Int} (hd : Inx k pc (.iinc 4 n) 3 pc') (hk : k.2.2.1 = 6) (hv : Int32.ofInt n = v) (hj : isJ v3 = false) (h : WP k Q pc' [v0, v1, v2, v3, some (.int (x + v)), v5] st sh M n1 n2) : WP k Q pc [v0, v1, v2, v3, some (.int x), v5] st sh M n1 n2 := by
  refine r_iinc hd (by rw [hk]; decide) rfl hv ?_ h
  simp [lset, List.mapIdx_cons, show ((3 : Fin 4) : Nat) = 3 from rfl, hj]
theorem p_iinc_6_5 {k : MT} {Q : Po} {pc pc' : Nat} {st : List Value} {sh : List SC} {M : Mem} {n1 n2 : Nat} {v0 v1 v2 v3 v4 : Option Value} {x v : Int32} {n : Int} (hd : Inx k pc (.iinc 5 n) 3 pc') (hk : k.2.2.1 = 6) (hv : Int32.ofInt n = v) (hj : isJ v4 = false) (h : WP k Q pc' [v0, v1, v2, v3, v4, some (.int (x + v))] st sh M n1 n2) : WP k Q pc [v0, v1, v2, v3, v4, some (.int x)] st sh M n1 n2 := by
  refine r_iinc hd (by rw [hk]; decide) rfl hv ?_ h
  simp [lset, List.mapIdx_cons, show ((3 : Fin 4) : Nat) = 3 from rfl, hj]
theorem p_iinc_7_1 {k : MT} {Q : Po} {pc pc' : Nat} {st : List Value} {sh : List SC} {M : Mem} {n1 n2 : Nat} {v0 v2 v3 v4 v5 v6 : Option Value} {x v : Int32} {n : Int} (hd : Inx k pc (.iinc 1 n) 3 pc') (hk : k.2.2.1 = 7) (hv : Int32.ofInt n = v) (hj : isJ v0 = false) (h : WP k Q pc' [v0, some (.int (x + v)), v2, v3, v4, v5, v6] st sh M n1 n2) : WP k Q pc [v0, some (.int x), v2, v3, v4, v5, v6] st sh M n1 n2 := by
  refine r_iinc hd (by rw [hk]; decide) rfl hv ?_ h
  simp [lset, List.mapIdx_cons, show ((3 : Fin 4) : Nat) = 3 from rfl, hj]
theorem p_iinc_7_4 {k : MT} {Q : Po} {pc pc' : Nat} {st : List Value} {sh : List SC} {M : Mem} {n1 n2 : Nat} {v0 v1 v2 v3 v5 v6 : Option Value} {x v : Int32} {n : Int} (hd : Inx k pc (.iinc 4 n) 3 pc') (hk : k.2.2.1 = 7) (hv : Int32.ofInt n = v) (hj : isJ v3 = false) (h : WP k Q pc' [v0, v1, v2, v3, some (.int (x + v)), v5, v6] st sh M n1 n2) : WP k Q pc [v0, v1, v2, v3, some (.int x), v5, v6] st sh M n1 n2 := by
  refine r_iinc hd (by rw [hk]; decide) rfl hv ?_ h
  simp [lset, List.mapIdx_cons, show ((3 : Fin 4) : Nat) = 3 from rfl, hj]
theorem p_iinc_7_5 {k : MT} {Q : Po} {pc pc' : Nat} {st : List Value} {sh : List SC} {M : Mem} {n1 n2 : Nat} {v0 v1 v2 v3 v4 v6 : Option Value} {x v : Int32} {n : Int} (hd : Inx k pc (.iinc 5 n) 3 pc') (hk : k.2.2.1 = 7) (hv : Int32.ofInt n = v) (hj : isJ v4 = false) (h : WP k Q pc' [v0, v1, v2, v3, v4, some (.int (x + v)), v6] st sh M n1 n2) : WP k Q pc [v0, v1, v2, v3, v4, some (.int x), v6] st sh M n1 n2 := by
  refine r_iinc hd (by rw [hk]; decide) rfl hv ?_ h
  simp [lset, List.mapIdx_cons, show ((3 : Fin 4) : Nat) = 3 from rfl, hj]
theorem p_iinc_7_6 {k : MT} {Q : Po} {pc pc' : Nat} {st : List Value} {sh : List SC} {M : Mem} {n1 n2 : Nat} {v0 v1 v2 v3 v4 v5 : Option Value} {x v : Int32} {n : Int} (hd : Inx k pc (.iinc 6 n) 3 pc') (hk : k.2.2.1 = 7) (hv : Int32.ofInt n = v) (hj : isJ v5 = false) (h : WP k Q pc' [v0, v1, v2, v3, v4, v5, some (.int (x + v))] st sh M n1 n2) : WP k Q pc [v0, v1, v2, v3, v4, v5, some (.int x)] st sh M n1 n2 := by
  refine r_iinc hd (by rw [hk]; decide) rfl hv ?_ h
  simp [lset, List.mapIdx_cons, show ((3 : Fin 4) : Nat) = 3 from rfl, hj]
theorem p_iinc_8_3 {k : MT} {Q : Po} {pc pc' : Nat} {st : List Value} {sh : List SC} {M : Mem} {n1 n2 : Nat} {v0 v1 v2 v4 v5 v6 v7 : Option Value} {x v : Int32} {n : Int} (hd : Inx k pc (.iinc 3 n) 3 pc') (hk : k.2.2.1 = 8) (hv : Int32.ofInt n = v) (hj : isJ v2 = false) (h : WP k Q pc' [v0, v1, v2, some (.int (x + v)), v4, v5, v6, v7] st sh M n1 n2) : WP k Q pc [v0, v1, v2, some (.int x), v4, v5, v6, v7] st sh M n1 n2 := by
  refine r_iinc hd (by rw [hk]; decide) rfl hv ?_ h
  simp [lset, List.mapIdx_cons, show ((3 : Fin 4) : Nat) = 3 from rfl, hj]
theorem p_iinc_8_4 {k : MT} {Q : Po} {pc pc' : Nat} {st : List Value} {sh : List SC} {M : Mem} {n1 n2 : Nat} {v0 v1 v2 v3 v5 v6 v7 : Option Value} {x v : Int32} {n : Int} (hd : Inx k pc (.iinc 4 n) 3 pc') (hk : k.2.2.1 = 8) (hv : Int32.ofInt n = v) (hj : isJ v3 = false) (h : WP k Q pc' [v0, v1, v2, v3, some (.int (x + v)), v5, v6, v7] st sh M n1 n2) : WP k Q pc [v0, v1, v2, v3, some (.int x), v5, v6, v7] st sh M n1 n2 := by
  refine r_iinc hd (by rw [hk]; decide) rfl hv ?_ h
  simp [lset, List.mapIdx_cons, show ((3 : Fin 4) : Nat) = 3 from rfl, hj]
theorem p_iinc_8_5 {k : MT} {Q : Po} {pc pc' : Nat} {st : List Value} {sh : List SC} {M : Mem} {n1 n2 : Nat} {v0 v1 v2 v3 v4 v6 v7 : Option Value} {x v : Int32} {n : Int} (hd : Inx k pc (.iinc 5 n) 3 pc') (hk : k.2.2.1 = 8) (hv : Int32.ofInt n = v) (hj : isJ v4 = false) (h : WP k Q pc' [v0, v1, v2, v3, v4, some (.int (x + v)), v6, v7] st sh M n1 n2) : WP k Q pc [v0, v1, v2, v3, v4, some (.int x), v6, v7] st sh M n1 n2 := by
  refine r_iinc hd (by rw [hk]; decide) rfl hv ?_ h
  simp [lset, List.mapIdx_cons, show ((3 : Fin 4) : Nat) = 3 from rfl, hj]
theorem p_iinc_8_6 {k : MT} {Q : Po} {pc pc' : Nat} {st : List Value} {sh : List SC} {M : Mem} {n1 n2 : Nat} {v0 v1 v2 v3 v4 v5 v7 : Option Value} {x v : Int32} {n : Int} (hd : Inx k pc (.iinc 6 n) 3 pc') (hk : k.2.2.1 = 8) (hv : Int32.ofInt n = v) (hj : isJ v5 = false) (h : WP k Q pc' [v0, v1, v2, v3, v4, v5, some (.int (x + v)), v7] st sh M n1 n2) : WP k Q pc [v0, v1, v2, v3, v4, v5, some (.int x), v7] st sh M n1 n2 := by
  refine r_iinc hd (by rw [hk]; decide) rfl hv ?_ h
  simp [lset, List.mapIdx_cons, show ((3 : Fin 4) : Nat) = 3 from rfl, hj]
theorem p_iinc_8_7 {k : MT} {Q : Po} {pc pc' : Nat} {st : List Value} {sh : List SC} {M : Mem} {n1 n2 : Nat} {v0 v1 v2 v3 v4 v5 v6 : Option Value} {x v : Int32} {n : Int} (hd : Inx k pc (.iinc 7 n) 3 pc') (hk : k.2.2.1 = 8) (hv : Int32.ofInt n = v) (hj : isJ v6 = false) (h : WP k Q pc' [v0, v1, v2, v3, v4, v5, v6, some (.int (x + v))] st sh M n1 n2) : WP k Q pc [v0, v1, v2, v3, v4, v5, v6, some (.int x)] st sh M n1 n2 := by
  refine r_iinc hd (by rw [hk]; decide) rfl hv ?_ h
  simp [lset, List.mapIdx_cons, show ((3 : Fin 4) : Nat) = 3 from rfl, hj]
theorem p_iinc_10_5 {k : MT} {Q : Po} {pc pc' : Nat} {st : List Value} {sh : List SC} {M : Mem} {n1 n2 : Nat} {v0 v1 v2 v3 v4 v6 v7 v8 v9 : Option Value} {x v : Int32} {n : Int} (hd : Inx k pc (.iinc 5 n) 3 pc') (hk : k.2.2.1 = 10) (hv : Int32.ofInt n = v) (hj : isJ v4 = false) (h : WP k Q pc' [v0, v1, v2, v3, v4, some (.int (x + v)), v6, v7, v8, v9] st sh M n1 n2) : WP k Q pc [v0, v1, v2, v3, v4, some (.int x), v6, v7, v8, v9] st sh M n1 n2 := by
  refine r_iinc hd (by rw [hk]; decide) rfl hv ?_ h
  simp [lset, List.mapIdx_cons, show ((3 : Fin 4) : Nat) = 3 from rfl, hj]
theorem p_iinc_11_6 {k : MT} {Q : Po} {pc pc' : Nat} {st : List Value} {sh : List SC} {M : Mem} {n1 n2 : Nat} {v0 v1 v2 v3 v4 v5 v7 v8 v9 v10 : Option Value} {x v : Int32} {n : Int} (hd : Inx k pc (.iinc 6 n) 3 pc') (hk : k.2.2.1 = 11) (hv : Int32.ofInt n = v) (hj : isJ v5 = false) (h : WP k Q pc' [v0, v1, v2, v3, v4, v5, some (.int (x + v)), v7, v8, v9, v10] st sh M n1 n2) : WP k Q pc [v0, v1, v2, v3, v4, v5, some (.int x), v7, v8, v9, v10] st sh M n1 n2 := by
  refine r_iinc hd (by rw [hk]; decide) rfl hv ?_ h
  simp [lset, List.mapIdx_cons, show ((3 : Fin 4) : Nat) = 3 from rfl, hj]
theorem p_iinc_11_7 {k : MT} {Q : Po} {pc pc' : Nat} {st : List Value} {sh : List SC} {M : Mem} {n1 n2 : Nat} {v0 v1 v2 v3 v4 v5 v6 v8 v9 v10 : Option Value} {x v : Int32} {n : Int} (hd : Inx k pc (.iinc 7 n) 3 pc') (hk : k.2.2.1 = 11) (hv : Int32.ofInt n = v) (hj : isJ v6 = false) (h : WP k Q pc' [v0, v1, v2, v3, v4, v5, v6, some (.int (x + v)), v8, v9, v10] st sh M n1 n2) : WP k Q pc [v0, v1, v2, v3, v4, v5, v6, some (.int x), v8, v9, v10] st sh M n1 n2 := by
  refine r_iinc hd (by rw [hk]; decide) rfl hv ?_ h
  simp [lset, List.mapIdx_cons, show ((3 : Fin 4) : Nat) = 3 from rfl, hj]
theorem p_istore_n_2_1 {k : MT} {Q : Po} {pc pc' : Nat} {st : List Value} {sh : List SC} {M : Mem} {n1 n2 : Nat} {v0 v1 : Option Value} {x : Int32} (hd : Inx k pc (.istore_n 1) 1 pc') (hk : k.2.2.1 = 2) (hj : isJ v0 = false) (h : WP k Q pc' [v0, some (.int x)] st sh M n1 n2) : WP k Q pc [v0, v1] (.int x :: st) sh M n1 n2 := by
  refine r_istore_n hd (by rw [hk]; decide) ?_ h
  simp [lset, List.mapIdx_cons, show ((3 : Fin 4) : Nat) = 3 from rfl, hj]
theorem p_istore_n_3_1 {k : MT} {Q : Po} {pc pc' : Nat} {st : List Value} {sh : List SC} {M : Mem} {n1 n2 : Nat} {v0 v1 v2 : Option Value} {x : Int32} (hd : Inx k pc (.istore_n 1) 1 pc') (hk : k.2.2.1 = 3) (hj : isJ v0 = false) (h : WP k Q pc' [v0, some (.int x), v2] st sh M n1 n2) : WP k Q pc [v0, v1, v2] (.int x :: st) sh M n1 n2 := by
  refine r_istore_n hd (by rw [hk]; decide) ?_ h
  simp [lset, List.mapIdx_cons, show ((3 : Fin 4) : Nat) = 3 from rfl, hj]
theorem p_istore_n_3_2 {k : MT} {Q : Po} {pc pc' : Nat} {st : List Value} {sh : List SC} {M : Mem} {n1 n2 : Nat} {v0 v1 v2 : Option Value} {x : Int32} (hd : Inx k pc (.istore_n 2) 1 pc') (hk : k.2.2.1 = 3) (hj : isJ v1 = false) (h : WP k Q pc' [v0, v1, some (.int x)] st sh M n1 n2) : WP k Q pc [v0, v1, v2] (.int x :: st) sh M n1 n2 := by
  refine r_istore_n hd (by rw [hk]; decide) ?_ h
  simp [lset, List.mapIdx_cons, show ((3 : Fin 4) : Nat) = 3 from rfl, hj]
theorem p_istore_n_4_1 {k : MT} {Q : Po} {pc pc' : Nat} {st : List Value} {sh : List SC} {M : Mem} {n1 n2 : Nat} {v0 v1 v2 v3 : Option Value} {x : Int32} (hd : Inx k pc (.istore_n 1) 1 pc') (hk : k.2.2.1 = 4) (hj : isJ v0 = false) (h : WP k Q pc' [v0, some (.int x), v2, v3] st sh M n1 n2) : WP k Q pc [v0, v1, v2, v3] (.int x :: st) sh M n1 n2 := by
  refine r_istore_n hd (by rw [hk]; decide) ?_ h
  simp [lset, List.mapIdx_cons, show ((3 : Fin 4) : Nat) = 3 from rfl, hj]
theorem p_istore_n_4_2 {k : MT} {Q : Po} {pc pc' : Nat} {st : List Value} {sh : List SC} {M : Mem} {n1 n2 : Nat} {v0 v1 v2 v3 : Option Value} {x : Int32} (hd : Inx k pc (.istore_n 2) 1 pc') (hk : k.2.2.1 = 4) (hj : isJ v1 = false) (h : WP k Q pc' [v0, v1, some (.int x), v3] st sh M n1 n2) : WP k Q pc [v0, v1, v2, v3] (.int x :: st) sh M n1 n2 := by
  refine r_istore_n hd (by rw [hk]; decide) ?_ h
  simp [lset, List.mapIdx_cons, show ((3 : Fin 4) : Nat) = 3 from rfl, hj]
theorem p_istore_n_4_3 {k : MT} {Q : Po} {pc pc' : Nat} {st : List Value} {sh : List SC} {M : Mem} {n1 n2 : Nat} {v0 v1 v2 v3 : Option Value} {x : Int32} (hd : Inx k pc (.istore_n 3) 1 pc') (hk : k.2.2.1 = 4) (hj : isJ v2 = false) (h : WP k Q pc' [v0, v1, v2, some (.int x)] st sh M n1 n2) : WP k Q pc [v0, v1, v2, v3] (.int x :: st) sh M n1 n2 := by
  refine r_istore_n hd (by rw [hk]; decide) ?_ h
  simp [lset, List.mapIdx_cons, show ((3 : Fin 4) : Nat) = 3 from rfl, hj]
theorem p_istore_n_5_1 {k : MT} {Q : Po} {pc pc' : Nat} {st : List Value} {sh : List SC} {M : Mem} {n1 n2 : Nat} {v0 v1 v2 v3 v4 : Option Value} {x : Int32} (hd : Inx k pc (.istore_n 1) 1 pc') (hk : k.2.2.1 = 5) (hj : isJ v0 = false) (h : WP k Q pc' [v0, some (.int x), v2, v3, v4] st sh M n1 n2) : WP k Q pc [v0, v1, v2, v3, v4] (.int x :: st) sh M n1 n2 := by
  refine r_istore_n hd (by rw [hk]; decide) ?_ h
  simp [lset, List.mapIdx_cons, show ((3 : Fin 4) : Nat) = 3 from rfl, hj]
theorem p_istore_n_5_2 {k : MT} {Q : Po} {pc pc' : Nat} {st : List Value} {sh : List SC} {M : Mem} {n1 n2 : Nat} {v0 v1 v2 v3 v4 : Option Value} {x : Int32} (hd : Inx k pc (.istore_n 2) 1 pc') (hk : k.2.2.1 = 5) (hj : isJ v1 = false) (h : WP k Q pc' [v0, v1, some (.int x), v3, v4] st sh M n1 n2) : WP k Q pc [v0, v1, v2, v3, v4] (.int x :: st) sh M n1 n2 := by
  refine r_istore_n hd (by rw [hk]; decide) ?_ h
  simp [lset, List.mapIdx_cons, show ((3 : Fin 4) : Nat) = 3 from rfl, hj]
theorem p_istore_n_5_3 {k : MT} {Q : Po} {pc pc' : Nat} {st : List Value} {sh : List SC} {M : Mem} {n1 n2 : Nat} {v0 v1 v2 v3 v4 : Option Value} {x : Int32} (hd : Inx k pc (.istore_n 3) 1 pc') (hk : k.2.2.1 = 5) (hj : isJ v2 = false) (h : WP k Q pc' [v0, v1, v2, some (.int x), v4] st sh M n1 n2) : WP k Q pc [v0, v1, v2, v3, v4] (.int x :: st) sh M n1 n2 := by
  refine r_istore_n hd (by rw [hk]; decide) ?_ h
  simp [lset, List.mapIdx_cons, show ((3 : Fin 4) : Nat) = 3 from rfl, hj]
theorem p_istore_5_4 {k : MT} {Q : Po} {pc pc' : Nat} {st : List Value} {sh : List SC} {M : Mem} {n1 n2 : Nat} {v0 v1 v2 v3 v4 : Option Value} {x : Int32} (hd : Inx k pc (.istore 4) 2 pc') (hk : k.2.2.1 = 5) (hj : isJ v3 = false) (h : WP k Q pc' [v0, v1, v2, v3, some (.int x)] st sh M n1 n2) : WP k Q pc [v0, v1, v2, v3, v4] (.int x :: st) sh M n1 n2 := by
  refine r_istore hd (by rw [hk]; decide) ?_ h
  simp [lset, List.mapIdx_cons, show ((3 : Fin 4) : Nat) = 3 from rfl, hj]
theorem p_istore_n_6_1 {k : MT} {Q : Po} {pc pc' : Nat} {st : List Value} {sh : List SC} {M : Mem} {n1 n2 : Nat} {v0 v1 v2 v3 v4 v5 : Option Value} {x : Int32} (hd : Inx k pc (.istore_n 1) 1 pc') (hk : k.2.2.1 = 6) (hj : isJ v0 = false) (h : WP k Q pc' [v0, some (.int x), v2, v3, v4, v5] st sh M n1 n2) : WP k Q pc [v0, v1, v2, v3, v4, v5] (.int x :: st) sh M n1 n2 := by
  refine r_istore_n hd (by rw [hk]; decide) ?_ h
  simp [lset, List.mapIdx_cons, show ((3 : Fin 4) : Nat) = 3 from rfl, hj]
theorem p_istore_n_6_2 {k : MT} {Q : Po} {pc pc' : Nat} {st : List Value} {sh : List SC} {M : Mem} {n1 n2 : Nat} {v0 v1 v2 v3 v4 v5 : Option Value} {x : Int32} (hd : Inx k pc (.istore_n 2) 1 pc') (hk : k.2.2.1 = 6) (hj : isJ v1 = false) (h : WP k Q pc' [v0, v1, some (.int x), v3, v4, v5] st sh M n1 n2) : WP k Q pc [v0, v1, v2, v3, v4, v5] (.int x :: st) sh M n1 n2 := by
  refine r_istore_n hd (by rw [hk]; decide) ?_ h
  simp [lset, List.mapIdx_cons, show ((3 : Fin 4) : Nat) = 3 from rfl, hj]
theorem p_istore_n_6_3 {k : MT} {Q : Po} {pc pc' : Nat} {st : List Value} {sh : List SC} {M : Mem} {n1 n2 : Nat} {v0 v1 v2 v3 v4 v5 : Option Value} {x : Int32} (hd : Inx k pc (.istore_n 3) 1 pc') (hk : k.2.2.1 = 6) (hj : isJ v2 = false) (h : WP k Q pc' [v0, v1, v2, some (.int x), v4, v5] st sh M n1 n2) : WP k Q pc [v0, v1, v2, v3, v4, v5] (.int x :: st) sh M n1 n2 := by
  refine r_istore_n hd (by rw [hk]; decide) ?_ h
  simp [lset, List.mapIdx_cons, show ((3 : Fin 4) : Nat) = 3 from rfl, hj]
theorem p_istore_6_4 {k : MT} {Q : Po} {pc pc' : Nat} {st : List Value} {sh : List SC} {M : Mem} {n1 n2 : Nat} {v0 v1 v2 v3 v4 v5 : Option Value} {x : Int32} (hd : Inx k pc (.istore 4) 2 pc') (hk : k.2.2.1 = 6) (hj : isJ v3 = false) (h : WP k Q pc' [v0, v1, v2, v3, some (.int x), v5] st sh M n1 n2) : WP k Q pc [v0, v1, v2, v3, v4, v5] (.int x :: st) sh M n1 n2 := by
  refine r_istore hd (by rw [hk]; decide) ?_ h
  simp [lset, List.mapIdx_cons, show ((3 : Fin 4) : Nat) = 3 from rfl, hj]
theorem p_istore_6_5 {k : MT} {Q : Po} {pc pc' : Nat} {st : List Value} {sh : List SC} {M : Mem} {n1 n2 : Nat} {v0 v1 v2 v3 v4 v5 : Option Value} {x : Int32} (hd : Inx k pc (.istore 5) 2 pc') (hk : k.2.2.1 = 6) (hj : isJ v4 = false) (h : WP k Q pc' [v0, v1, v2, v3, v4, some (.int x)] st sh M n1 n2) : WP k Q pc [v0, v1, v2, v3, v4, v5] (.int x :: st) sh M n1 n2 := by
  refine r_istore hd (by rw [hk]; decide) ?_ h
  simp [lset, List.mapIdx_cons, show ((3 : Fin 4) : Nat) = 3 from rfl, hj]
theorem p_istore_n_7_1 {k : MT} {Q : Po} {pc pc' : Nat} {st : List Value} {sh : List SC} {M : Mem} {n1 n2 : Nat} {v0 v1 v2 v3 v4 v5 v6 : Option Value} {x : Int32} (hd : Inx k pc (.istore_n 1) 1 pc') (hk : k.2.2.1 = 7) (hj : isJ v0 = false) (h : WP k Q pc' [v0, some (.int x), v2, v3, v4, v5, v6] st sh M n1 n2) : WP k Q pc [v0, v1, v2, v3, v4, v5, v6] (.int x :: st) sh M n1 n2 := by
  refine r_istore_n hd (by rw [hk]; decide) ?_ h
  simp [lset, List.mapIdx_cons, show ((3 : Fin 4) : Nat) = 3 from rfl, hj]
theorem p_istore_n_7_2 {k : MT} {Q : Po} {pc pc' : Nat} {st : List Value} {sh : List SC} {M : Mem} {n1 n2 : Nat} {v0 v1 v2 v3 v4 v5 v6 : Option Value} {x : Int32} (hd : Inx k pc (.istore_n 2) 1 pc') (hk : k.2.2.1 = 7) (hj : isJ v1 = false) (h : WP k Q pc' [v0, v1, some (.int x), v3, v4, v5, v6] st sh M n1 n2) : WP k Q pc [v0, v1, v2, v3, v4, v5, v6] (.int x :: st) sh M n1 n2 := by
  refine r_istore_n hd (by rw [hk]; decide) ?_ h
  simp [lset, List.mapIdx_cons, show ((3 : Fin 4) : Nat) = 3 from rfl, hj]
theorem p_istore_n_7_3 {k : MT} {Q : Po} {pc pc' : Nat} {st : List Value} {sh : List SC} {M : Mem} {n1 n2 : Nat} {v0 v1 v2 v3 v4 v5 v6 : Option Value} {x : Int32} (hd : Inx k pc (.istore_n 3) 1 pc') (hk : k.2.2.1 = 7) (hj : isJ v2 = false) (h : WP k Q pc' [v0, v1, v2, some (.int x), v4, v5, v6] st sh M n1 n2) : WP k Q pc [v0, v1, v2, v3, v4, v5, v6] (.int x :: st) sh M n1 n2 := by
  refine r_istore_n hd (by rw [hk]; decide) ?_ h
  simp [lset, List.mapIdx_cons, show ((3 : Fin 4) : Nat) = 3 from rfl, hj]
theorem p_istore_7_4 {k : MT} {Q : Po} {pc pc' : Nat} {st : List Value} {sh : List SC} {M : Mem} {n1 n2 : Nat} {v0 v1 v2 v3 v4 v5 v6 : Option Value} {x : Int32} (hd : Inx k pc (.istore 4) 2 pc') (hk : k.2.2.1 = 7) (hj : isJ v3 = false) (h : WP k Q pc' [v0, v1, v2, v3, some (.int x), v5, v6] st sh M n1 n2) : WP k Q pc [v0, v1, v2, v3, v4, v5, v6] (.int x :: st) sh M n1 n2 := by
  refine r_istore hd (by rw [hk]; decide) ?_ h
  simp [lset, List.mapIdx_cons, show ((3 : Fin 4) : Nat) = 3 from rfl, hj]
theorem p_istore_7_5 {k : MT} {Q : Po} {pc pc' : Nat} {st : List Value} {sh : List SC} {M : Mem} {n1 n2 : Nat} {v0 v1 v2 v3 v4 v5 v6 : Option Value} {x : Int32} (hd : Inx k pc (.istore 5) 2 pc') (hk : k.2.2.1 = 7) (hj : isJ v4 = false) (h : WP k Q pc' [v0, v1, v2, v3, v4, some (.int x), v6] st sh M n1 n2) : WP k Q pc [v0, v1, v2, v3, v4, v5, v6] (.int x :: st) sh M n1 n2 := by
  refine r_istore hd (by rw [hk]; decide) ?_ h
  simp [lset, List.mapIdx_cons, show ((3 : Fin 4) : Nat) = 3 from rfl, hj]
theorem p_istore_7_6 {k : MT} {Q : Po} {pc pc' : Nat} {st : List Value} {sh : List SC} {M : Mem} {n1 n2 : Nat} {v0 v1 v2 v3 v4 v5 v6 : Option Value} {x : Int32} (hd : Inx k pc (.istore 6) 2 pc') (hk : k.2.2.1 = 7) (hj : isJ v5 = false) (h : WP k Q pc' [v0, v1, v2, v3, v4, v5, some (.int x)] st sh M n1 n2) : WP k Q pc [v0, v1, v2, v3, v4, v5, v6] (.int x :: st) sh M n1 n2 := by
  refine r_istore hd (by rw [hk]; decide) ?_ h
  simp [lset, List.mapIdx_cons, show ((3 : Fin 4) : Nat) = 3 from rfl, hj]
theorem p_istore_n_8_2 {k : MT} {Q : Po} {pc pc' : Nat} {st : List Value} {sh : List SC} {M : Mem} {n1 n2 : Nat} {v0 v1 v2 v3 v4 v5 v6 v7 : Option Value} {x : Int32} (hd : Inx k pc (.istore_n 2) 1 pc') (hk : k.2.2.1 = 8) (hj : isJ v1 = false) (h : WP k Q pc' [v0, v1, some (.int x), v3, v4, v5, v6, v7] st sh M n1 n2) : WP k Q pc [v0, v1, v2, v3, v4, v5, v6, v7] (.int x :: st) sh M n1 n2 := by
  refine r_istore_n hd (by rw [hk]; decide) ?_ h
  simp [lset, List.mapIdx_cons, show ((3 : Fin 4) : Nat) = 3 from rfl, hj]
theorem p_istore_n_8_3 {k : MT} {Q : Po} {pc pc' : Nat} {st : List Value} {sh : List SC} {M : Mem} {n1 n2 : Nat} {v0 v1 v2 v3 v4 v5 v6 v7 : Option Value} {x : Int32} (hd : Inx k pc (.istore_n 3) 1 pc') (hk : k.2.2.1 = 8) (hj : isJ v2 = false) (h : WP k Q pc' [v0, v1, v2, some (.int x), v4, v5, v6, v7] st sh M n1 n2) : WP k Q pc [v0, v1, v2, v3, v4, v5, v6, v7] (.int x :: st) sh M n1 n2 := by
  refine r_istore_n hd (by rw [hk]; decide) ?_ h
  simp [lset, List.mapIdx_cons, show ((3 : Fin 4) : Nat) = 3 from rfl, hj]
theorem p_istore_8_4 {k : MT} {Q : Po} {pc pc' : Nat} {st : List Value} {sh : List SC} {M : Mem} {n1 n2 : Nat} {v0 v1 v2 v3 v4 v5 v6 v7 : Option Value} {x : Int32} (hd : Inx k pc (.istore 4) 2 pc') (hk : k.2.2.1 = 8) (hj : isJ v3 = false) (h : WP k Q pc' [v0, v1, v2, v3, some (.int x), v5, v6, v7] st sh M n1 n2) : WP k Q pc [v0, v1, v2, v3, v4, v5, v6, v7] (.int x :: st) sh M n1 n2 := by
  refine r_istore hd (by rw [hk]; decide) ?_ h
  simp [lset, List.mapIdx_cons, show ((3 : Fin 4) : Nat) = 3 from rfl, hj]
theorem p_istore_8_5 {k : MT} {Q : Po} {pc pc' : Nat} {st : List Value} {sh : List SC} {M : Mem} {n1 n2 : Nat} {v0 v1 v2 v3 v4 v5 v6 v7 : Option Value} {x : Int32} (hd : Inx k pc (.istore 5) 2 pc') (hk : k.2.2.1 = 8) (hj : isJ v4 = false) (h : WP k Q pc' [v0, v1, v2, v3, v4, some (.int x), v6, v7] st sh M n1 n2) : WP k Q pc [v0, v1, v2, v3, v4, v5, v6, v7] (.int x :: st) sh M n1 n2 := by
  refine r_istore hd (by rw [hk]; decide) ?_ h
  simp [lset, List.mapIdx_cons, show ((3 : Fin 4) : Nat) = 3 from rfl, hj]
theorem p_istore_8_6 {k : MT} {Q : Po} {pc pc' : Nat} {st : List Value} {sh : List SC} {M : Mem} {n1 n2 : Nat} {v0 v1 v2 v3 v4 v5 v6 v7 : Option Value} {x : Int32} (hd : Inx k pc (.istore 6) 2 pc') (hk : k.2.2.1 = 8) (hj : isJ v5 = false) (h : WP k Q pc' [v0, v1, v2, v3, v4, v5, some (.int x), v7] st sh M n1 n2) : WP k Q pc [v0, v1, v2, v3, v4, v5, v6, v7] (.int x :: st) sh M n1 n2 := by
  refine r_istore hd (by rw [hk]; decide) ?_ h
  simp [lset, List.mapIdx_cons, show ((3 : Fin 4) : Nat) = 3 from rfl, hj]
theorem p_istore_8_7 {k : MT} {Q : Po} {pc pc' : Nat} {st : List Value} {sh : List SC} {M : Mem} {n1 n2 : Nat} {v0 v1 v2 v3 v4 v5 v6 v7 : Option Value} {x : Int32} (hd : Inx k pc (.istore 7) 2 pc') (hk : k.2.2.1 = 8) (hj : isJ v6 = false) (h : WP k Q pc' [v0, v1, v2, v3, v4, v5, v6, some (.int x)] st sh M n1 n2) : WP k Q pc [v0, v1, v2, v3, v4, v5, v6, v7] (.int x :: st) sh M n1 n2 := by
  refine r_istore hd (by rw [hk]; decide) ?_ h
  simp [lset, List.mapIdx_cons, show ((3 : Fin 4) : Nat) = 3 from rfl, hj]
theorem p_istore_9_5 {k : MT} {Q : Po} {pc pc' : Nat} {st : List Value} {sh : List SC} {M : Mem} {n1 n2 : Nat} {v0 v1 v2 v3 v4 v5 v6 v7 v8 : Option Value} {x : Int32} (hd : Inx k pc (.istore 5) 2 pc') (hk : k.2.2.1 = 9) (hj : isJ v4 = false) (h : WP k Q pc' [v0, v1, v2, v3, v4, some (.int x), v6, v7, v8] st sh M n1 n2) : WP k Q pc [v0, v1, v2, v3, v4, v5, v6, v7, v8] (.int x :: st) sh M n1 n2 := by
  refine r_istore hd (by rw [hk]; decide) ?_ h
  simp [lset, List.mapIdx_cons, show ((3 : Fin 4) : Nat) = 3 from rfl, hj]
theorem p_istore_9_6 {k : MT} {Q : Po} {pc pc' : Nat} {st : List Value} {sh : List SC} {M : Mem} {n1 n2 : Nat} {v0 v1 v2 v3 v4 v5 v6 v7 v8 : Option Value} {x : Int32} (hd : Inx k pc (.istore 6) 2 pc') (hk : k.2.2.1 = 9) (hj : isJ v5 = false) (h : WP k Q pc' [v0, v1, v2, v3, v4, v5, some (.int x), v7, v8] st sh M n1 n2) : WP k Q pc [v0, v1, v2, v3, v4, v5, v6, v7, v8] (.int x :: st) sh M n1 n2 := by
  refine r_istore hd (by rw [hk]; decide) ?_ h
  simp [lset, List.mapIdx_cons, show ((3 : Fin 4) : Nat) = 3 from rfl, hj]
theorem p_istore_9_7 {k : MT} {Q : Po} {pc pc' : Nat} {st : List Value} {sh : List SC} {M : Mem} {n1 n2 : Nat} {v0 v1 v2 v3 v4 v5 v6 v7 v8 : Option Value} {x : Int32} (hd : Inx k pc (.istore 7) 2 pc') (hk : k.2.2.1 = 9) (hj : isJ v6 = false) (h : WP k Q pc' [v0, v1, v2, v3, v4, v5, v6, some (.int x), v8] st sh M n1 n2) : WP k Q pc [v0, v1, v2, v3, v4, v5, v6, v7, v8] (.int x :: st) sh M n1 n2 := by
  refine r_istore hd (by rw [hk]; decide) ?_ h
  simp [lset, List.mapIdx_cons, show ((3 : Fin 4) : Nat) = 3 from rfl, hj]
theorem p_istore_9_8 {k : MT} {Q : Po} {pc pc' : Nat} {st : List Value} {sh : List SC} {M : Mem} {n1 n2 : Nat} {v0 v1 v2 v3 v4 v5 v6 v7 v8 : Option Value} {x : Int32} (hd : Inx k pc (.istore 8) 2 pc') (hk : k.2.2.1 = 9) (hj : isJ v7 = false) (h : WP k Q pc' [v0, v1, v2, v3, v4, v5, v6, v7, some (.int x)] st sh M n1 n2) : WP k Q pc [v0, v1, v2, v3, v4, v5, v6, v7, v8] (.int x :: st) sh M n1 n2 := by
  refine r_istore hd (by rw [hk]; decide) ?_ h
  simp [lset, List.mapIdx_cons, show ((3 : Fin 4) : Nat) = 3 from rfl, hj]
theorem p_istore_10_4 {k : MT} {Q : Po} {pc pc' : Nat} {st : List Value} {sh : List SC} {M : Mem} {n1 n2 : Nat} {v0 v1 v2 v3 v4 v5 v6 v7 v8 v9 : Option Value} {x : Int32} (hd : Inx k pc (.istore 4) 2 pc') (hk : k.2.2.1 = 10) (hj : isJ v3 = false) (h : WP k Q pc' [v0, v1, v2, v3, some (.int x), v5, v6, v7, v8, v9] st sh M n1 n2) : WP k Q pc [v0, v1, v2, v3, v4, v5, v6, v7, v8, v9] (.int x :: st) sh M n1 n2 := by
  refine r_istore hd (by rw [hk]; decide) ?_ h
  simp [lset, List.mapIdx_cons, show ((3 : Fin 4) : Nat) = 3 from rfl, hj]
theorem p_istore_10_5 {k : MT} {Q : Po} {pc pc' : Nat} {st : List Value} {sh : List SC} {M : Mem} {n1 n2 : Nat} {v0 v1 v2 v3 v4 v5 v6 v7 v8 v9 : Option Value} {x : Int32} (hd : Inx k pc (.istore 5) 2 pc') (hk : k.2.2.1 = 10) (hj : isJ v4 = false) (h : WP k Q pc' [v0, v1, v2, v3, v4, some (.int x), v6, v7, v8, v9] st sh M n1 n2) : WP k Q pc [v0, v1, v2, v3, v4, v5, v6, v7, v8, v9] (.int x :: st) sh M n1 n2 := by
  refine r_istore hd (by rw [hk]; decide) ?_ h
  simp [lset, List.mapIdx_cons, show ((3 : Fin 4) : Nat) = 3 from rfl, hj]
theorem p_istore_10_6 {k : MT} {Q : Po} {pc pc' : Nat} {st : List Value} {sh : List SC} {M : Mem} {n1 n2 : Nat} {v0 v1 v2 v3 v4 v5 v6 v7 v8 v9 : Option Value} {x : Int32} (hd : Inx k pc (.istore 6) 2 pc') (hk : k.2.2.1 = 10) (hj : isJ v5 = false) (h : WP k Q pc' [v0, v1, v2, v3, v4, v5, some (.int x), v7, v8, v9] st sh M n1 n2) : WP k Q pc [v0, v1, v2, v3, v4, v5, v6, v7, v8, v9] (.int x :: st) sh M n1 n2 := by
  refine r_istore hd (by rw [hk]; decide) ?_ h
  simp [lset, List.mapIdx_cons, show ((3 : Fin 4) : Nat) = 3 from rfl, hj]
theorem p_istore_10_7 {k : MT} {Q : Po} {pc pc' : Nat} {st : List Value} {sh : List SC} {M : Mem} {n1 n2 : Nat} {v0 v1 v2 v3 v4 v5 v6 v7 v8 v9 : Option Value} {x : Int32} (hd : Inx k pc (.istore 7) 2 pc') (hk : k.2.2.1 = 10) (hj : isJ v6 = false) (h : WP k Q pc' [v0, v1, v2, v3, v4, v5, v6, some (.int x), v8, v9] st sh M n1 n2) : WP k Q pc [v0, v1, v2, v3, v4, v5, v6, v7, v8, v9] (.int x :: st) sh M n1 n2 := by
  refine r_istore hd (by rw [hk]; decide) ?_ h
  simp [lset, List.mapIdx_cons, show ((3 : Fin 4) : Nat) = 3 from rfl, hj]
theorem p_istore_10_8 {k : MT} {Q : Po} {pc pc' : Nat} {st : List Value} {sh : List SC} {M : Mem} {n1 n2 : Nat} {v0 v1 v2 v3 v4 v5 v6 v7 v8 v9 : Option Value} {x : Int32} (hd : Inx k pc (.istore 8) 2 pc') (hk : k.2.2.1 = 10) (hj : isJ v7 = false) (h : WP k Q pc' [v0, v1, v2, v3, v4, v5, v6, v7, some (.int x), v9] st sh M n1 n2) : WP k Q pc [v0, v1, v2, v3, v4, v5, v6, v7, v8, v9] (.int x :: st) sh M n1 n2 := by
  refine r_istore hd (by rw [hk]; decide) ?_ h
  simp [lset, List.mapIdx_cons, show ((3 : Fin 4) : Nat) = 3 from rfl, hj]
theorem p_istore_10_9 {k : MT} {Q : Po} {pc pc' : Nat} {st : List Value} {sh : List SC} {M : Mem} {n1 n2 : Nat} {v0 v1 v2 v3 v4 v5 v6 v7 v8 v9 : Option Value} {x : Int32} (hd : Inx k pc (.istore 9) 2 pc') (hk : k.2.2.1 = 10) (hj : isJ v8 = false) (h : WP k Q pc' [v0, v1, v2, v3, v4, v5, v6, v7, v8, some (.int x)] st sh M n1 n2) : WP k Q pc [v0, v1, v2, v3, v4, v5, v6, v7, v8, v9] (.int x :: st) sh M n1 n2 := by
  refine r_istore hd (by rw [hk]; decide) ?_ h
  simp [lset, List.mapIdx_cons, show ((3 : Fin 4) : Nat) = 3 from rfl, hj]
theorem p_istore_11_4 {k : MT} {Q : Po} {pc pc' : Nat} {st : List Value} {sh : List SC} {M : Mem} {n1 n2 : Nat} {v0 v1 v2 v3 v4 v5 v6 v7 v8 v9 v10 : Option Value} {x : Int32} (hd : Inx k pc (.istore 4) 2 pc') (hk : k.2.2.1 = 11) (hj : isJ v3 = false) (h : WP k Q pc' [v0, v1, v2, v3, some (.int x), v5, v6, v7, v8, v9, v10] st sh M n1 n2) : WP k Q pc [v0, v1, v2, v3, v4, v5, v6, v7, v8, v9, v10] (.int x :: st) sh M n1 n2 := by
  refine r_istore hd (by rw [hk]; decide) ?_ h
  simp [lset, List.mapIdx_cons, show ((3 : Fin 4) : Nat) = 3 from rfl, hj]
theorem p_istore_11_5 {k : MT} {Q : Po} {pc pc' : Nat} {st : List Value} {sh : List SC} {M : Mem} {n1 n2 : Nat} {v0 v1 v2 v3 v4 v5 v6 v7 v8 v9 v10 : Option Value} {x : Int32} (hd : Inx k pc (.istore 5) 2 pc') (hk : k.2.2.1 = 11) (hj : isJ v4 = false) (h : WP k Q pc' [v0, v1, v2, v3, v4, some (.int x), v6, v7, v8, v9, v10] st sh M n1 n2) : WP k Q pc [v0, v1, v2, v3, v4, v5, v6, v7, v8, v9, v10] (.int x :: st) sh M n1 n2 := by
  refine r_istore hd (by rw [hk]; decide) ?_ h
  simp [lset, List.mapIdx_cons, show ((3 : Fin 4) : Nat) = 3 from rfl, hj]
theorem p_istore_11_6 {k : MT} {Q : Po} {pc pc' : Nat} {st : List Value} {sh : List SC} {M : Mem} {n1 n2 : Nat} {v0 v1 v2 v3 v4 v5 v6 v7 v8 v9 v10 : Option Value} {x : Int32} (hd : Inx k pc (.istore 6) 2 pc') (hk : k.2.2.1 = 11) (hj : isJ v5 = false) (h : WP k Q pc' [v0, v1, v2, v3, v4, v5, some (.int x), v7, v8, v9, v10] st sh M n1 n2) : WP k Q pc [v0, v1, v2, v3, v4, v5, v6, v7, v8, v9, v10] (.int x :: st) sh M n1 n2 := by
  refine r_istore hd (by rw [hk]; decide) ?_ h
  simp [lset, List.mapIdx_cons, show ((3 : Fin 4) : Nat) = 3 from rfl, hj]
theorem p_istore_11_7 {k : MT} {Q : Po} {pc pc' : Nat} {st : List Value} {sh : List SC} {M : Mem} {n1 n2 : Nat} {v0 v1 v2 v3 v4 v5 v6 v7 v8 v9 v10 : Option Value} {x : Int32} (hd : Inx k pc (.istore 7) 2 pc') (hk : k.2.2.1 = 11) (hj : isJ v6 = false) (h : WP k Q pc' [v0, v1, v2, v3, v4, v5, v6, some (.int x), v8, v9, v10] st sh M n1 n2) : WP k Q pc [v0, v1, v2, v3, v4, v5, v6, v7, v8, v9, v10] (.int x :: st) sh M n1 n2 := by
  refine r_istore hd (by rw [hk]; decide) ?_ h
  simp [lset, List.mapIdx_cons, show ((3 : Fin 4) : Nat) = 3 from rfl, hj]
theorem p_istore_11_8 {k : MT} {Q : Po} {pc pc' : Nat} {st : List Value} {sh : List SC} {M : Mem} {n1 n2 : Nat} {v0 v1 v2 v3 v4 v5 v6 v7 v8 v9 v10 : Option Value} {x : Int32} (hd : Inx k pc (.istore 8) 2 pc') (hk : k.2.2.1 = 11) (hj : isJ v7 = false) (h : WP k Q pc' [v0, v1, v2, v3, v4, v5, v6, v7, some (.int x), v9, v10] st sh M n1 n2) : WP k Q pc [v0, v1, v2, v3, v4, v5, v6, v7, v8, v9, v10] (.int x :: st) sh M n1 n2 := by
  refine r_istore hd (by rw [hk]; decide) ?_ h
  simp [lset, List.mapIdx_cons, show ((3 : Fin 4) : Nat) = 3 from rfl, hj]
theorem p_istore_11_9 {k : MT} {Q : Po} {pc pc' : Nat} {st : List Value} {sh : List SC} {M : Mem} {n1 n2 : Nat} {v0 v1 v2 v3 v4 v5 v6 v7 v8 v9 v10 : Option Value} {x : Int32} (hd : Inx k pc (.istore 9) 2 pc') (hk : k.2.2.1 = 11) (hj : isJ v8 = false) (h : WP k Q pc' [v0, v1, v2, v3, v4, v5, v6, v7, v8, some (.int x), v10] st sh M n1 n2) : WP k Q pc [v0, v1, v2, v3, v4, v5, v6, v7, v8, v9, v10] (.int x :: st) sh M n1 n2 := by
  refine r_istore hd (by rw [hk]; decide) ?_ h
  simp [lset, List.mapIdx_cons, show ((3 : Fin 4) : Nat) = 3 from rfl, hj]
theorem p_istore_11_10 {k : MT} {Q : Po} {pc pc' : Nat} {st : List Value} {sh : List SC} {M : Mem} {n1 n2 : Nat} {v0 v1 v2 v3 v4 v5 v6 v7 v8 v9 v10 : Option Value} {x : Int32} (hd : Inx k pc (.istore 10) 2 pc') (hk : k.2.2.1 = 11) (hj : isJ v9 = false) (h : WP k Q pc' [v0, v1, v2, v3, v4, v5, v6, v7, v8, v9, some (.int x)] st sh M n1 n2) : WP k Q pc [v0, v1, v2, v3, v4, v5, v6, v7, v8, v9, v10] (.int x :: st) sh M n1 n2 := by
  refine r_istore hd (by rw [hk]; decide) ?_ h
  simp [lset, List.mapIdx_cons, show ((3 : Fin 4) : Nat) = 3 from rfl, hj]
theorem p_lstore_n_3_1 {k : MT} {Q : Po} {pc pc' : Nat} {st : List Value} {sh : List SC} {M : Mem} {n1 n2 : Nat} {v0 v1 v2 : Option Value} {x : Int64} (hd : Inx k pc (.lstore_n 1) 1 pc') (hk : k.2.2.1 = 3) (hj : isJ v0 = false) (h : WP k Q pc' [v0, some (.long x), none] st sh M n1 n2) : WP k Q pc [v0, v1, v2] (.long x :: st) sh M n1 n2 := by
  refine r_lstore_n hd (by rw [hk]; decide) ?_ h
  simp [lsetJ, List.mapIdx_cons, show ((3 : Fin 4) : Nat) = 3 from rfl, hj]
theorem p_lstore_n_5_2 {k : MT} {Q : Po} {pc pc' : Nat} {st : List Value} {sh : List SC} {M : Mem} {n1 n2 : Nat} {v0 v1 v2 v3 v4 : Option Value} {x : Int64} (hd : Inx k pc (.lstore_n 2) 1 pc') (hk : k.2.2.1 = 5) (hj : isJ v1 = false) (h : WP k Q pc' [v0, v1, some (.long x), none, v4] st sh M n1 n2) : WP k Q pc [v0, v1, v2, v3, v4] (.long x :: st) sh M n1 n2 := by
  refine r_lstore_n hd (by rw [hk]; decide) ?_ h
  simp [lsetJ, List.mapIdx_cons, show ((3 : Fin 4) : Nat) = 3 from rfl, hj]
theorem p_lstore_n_7_3 {k : MT} {Q : Po} {pc pc' : Nat} {st : List Value} {sh : List SC} {M : Mem} {n1 n2 : Nat} {v0 v1 v2 v3 v4 v5 v6 : Option Value} {x : Int64} (hd : Inx k pc (.lstore_n 3) 1 pc') (hk : k.2.2.1 = 7) (hj : isJ v2 = false) (h : WP k Q pc' [v0, v1, v2, some (.long x), none, v5, v6] st sh M n1 n2) : WP k Q pc [v0, v1, v2, v3, v4, v5, v6] (.long x :: st) sh M n1 n2 := by
  refine r_lstore_n hd (by rw [hk]; decide) ?_ h
  simp [lsetJ, List.mapIdx_cons, show ((3 : Fin 4) : Nat) = 3 from rfl, hj]
theorem p_lstore_8_4 {k : MT} {Q : Po} {pc pc' : Nat} {st : List Value} {sh : List SC} {M : Mem} {n1 n2 : Nat} {v0 v1 v2 v3 v4 v5 v6 v7 : Option Value} {x : Int64} (hd : Inx k pc (.lstore 4) 2 pc') (hk : k.2.2.1 = 8) (hj : isJ v3 = false) (h : WP k Q pc' [v0, v1, v2, v3, some (.long x), none, v6, v7] st sh M n1 n2) : WP k Q pc [v0, v1, v2, v3, v4, v5, v6, v7] (.long x :: st) sh M n1 n2 := by
  refine r_lstore hd (by rw [hk]; decide) ?_ h
  simp [lsetJ, List.mapIdx_cons, show ((3 : Fin 4) : Nat) = 3 from rfl, hj]
/-- exact: the answer v, the memory M' -/
def Gv (k : MT) (as : List Value) (sh : List SC) (M : Mem) (v : Value) (M' : Mem) : Prop := Sp k as sh M (fun r sh' M'' => r = some v ∧ sh' = sh ∧ M'' = M')
def Gu (k : MT) (as : List Value) (sh : List SC) (M M' : Mem) : Prop := Sp k as sh M (fun r sh' M'' => r = none ∧ sh' = sh ∧ M'' = M')
theorem cV0v {k k' : MT} {Q : Po} {pc pc' idx : Nat} {ls : List (Option Value)} {st : List Value} {sh : List SC} {M : Mem} {c a : Nat} {M' : Mem} {v : Value} (hd : Inx k pc (.invokevirtual idx) 3 pc') (hC : CV k.1.cls idx k' 0 c) (hR : Rm k k') (hr : k'.2.2.2.2.2.2.1 = 0 ∧ k'.2.2.2.2.2.2.2 = 0) (hk : kd sh a = some (c + 7, 0)) (hst : stOk st) (hM : Gv k' [.ref a] sh M v M') (h : WP k Q pc' ls (v :: st) sh M' 0 0) : WP k Q pc ls (.ref a :: st) sh M 0 0 :=
  r_callV (As := []) hd hC hR hr hk rfl hst hM (Aft.keep (fun r sh' M'' hq => by obtain ⟨rfl, rfl, rfl⟩ := hq; exact ⟨rfl, h⟩)) rfl ⟨Nat.zero_le _, Nat.zero_le _⟩
theorem cV0u {k k' : MT} {Q : Po} {pc pc' idx : Nat} {ls : List (Option Value)} {st : List Value} {sh : List SC} {M : Mem} {c a : Nat} {M' : Mem} (hd : Inx k pc (.invokevirtual idx) 3 pc') (hC : CV k.1.cls idx k' 0 c) (hR : Rm k k') (hr : k'.2.2.2.2.2.2.1 = 0 ∧ k'.2.2.2.2.2.2.2 = 0) (hk : kd sh a = some (c + 7, 0)) (hst : stOk st) (hM : Gu k' [.ref a] sh M M') (h : WP k Q pc' ls st sh M' 0 0) : WP k Q pc ls (.ref a :: st) sh M 0 0 :=
  r_callV (As := []) hd hC hR hr hk rfl hst hM (Aft.keep (fun r sh' M'' hq => by obtain ⟨rfl, rfl, rfl⟩ := hq; exact ⟨rfl, h⟩)) rfl ⟨Nat.zero_le _, Nat.zero_le _⟩
theorem cV0q {k k' : MT} {Q : Po} {pc pc' idx : Nat} {ls : List (Option Value)} {st : List Value} {sh : List SC} {M : Mem} {c a : Nat} {Qc : Po} (hd : Inx k pc (.invokevirtual idx) 3 pc') (hC : CV k.1.cls idx k' 0 c) (hR : Rm k k') (hr : k'.2.2.2.2.2.2.1 = 0 ∧ k'.2.2.2.2.2.2.2 = 0) (hk : kd sh a = some (c + 7, 0)) (hst : stOk st) (hM : Sp k' [.ref a] sh M Qc) (h : ∀ r sh' M', Qc r sh' M' → sh'.length = sh.length ∧ WP k Q pc' ls (r.toList ++ st) sh' M' 0 0) : WP k Q pc ls (.ref a :: st) sh M 0 0 :=
  r_callV (As := []) hd hC hR hr hk rfl hst hM (Aft.keep h) rfl ⟨Nat.zero_le _, Nat.zero_le _⟩
theorem cV1v {k k' : MT} {Q : Po} {pc pc' idx : Nat} {ls : List (Option Value)} {st : List Value} {sh : List SC} {M : Mem} {c a : Nat} {M' : Mem} {v : Value} {b1 : Value} (hd : Inx k pc (.invokevirtual idx) 3 pc') (hC : CV k.1.cls idx k' 1 c) (hR : Rm k k') (hr : k'.2.2.2.2.2.2.1 = 0 ∧ k'.2.2.2.2.2.2.2 = 0) (hk : kd sh a = some (c + 7, 0)) (hst : stOk st) (hM : Gv k' [.ref a, b1] sh M v M') (h : WP k Q pc' ls (v :: st) sh M' 0 0) : WP k Q pc ls (b1 :: .ref a :: st) sh M 0 0 :=
  r_callV (As := [b1]) hd hC hR hr hk rfl hst hM (Aft.keep (fun r sh' M'' hq => by obtain ⟨rfl, rfl, rfl⟩ := hq; exact ⟨rfl, h⟩)) rfl ⟨Nat.zero_le _, Nat.zero_le _⟩
theorem cV1u {k k' : MT} {Q : Po} {pc pc' idx : Nat} {ls : List (Option Value)} {st : List Value} {sh : List SC} {M : Mem} {c a : Nat} {M' : Mem} {b1 : Value} (hd : Inx k pc (.invokevirtual idx) 3 pc') (hC : CV k.1.cls idx k' 1 c) (hR : Rm k k') (hr : k'.2.2.2.2.2.2.1 = 0 ∧ k'.2.2.2.2.2.2.2 = 0) (hk : kd sh a = some (c + 7, 0)) (hst : stOk st) (hM : Gu k' [.ref a, b1] sh M M') (h : WP k Q pc' ls st sh M' 0 0) : WP k Q pc ls (b1 :: .ref a :: st) sh M 0 0 :=
  r_callV (As := [b1]) hd hC hR hr hk rfl hst hM (Aft.keep (fun r sh' M'' hq => by obtain ⟨rfl, rfl, rfl⟩ := hq; exact ⟨rfl, h⟩)) rfl ⟨Nat.zero_le _, Nat.zero_le _⟩
theorem cV1q {k k' : MT} {Q : Po} {pc pc' idx : Nat} {ls : List (Option Value)} {st : List Value} {sh : List SC} {M : Mem} {c a : Nat} {Qc : Po} {b1 : Value} (hd : Inx k pc (.invokevirtual idx) 3 pc') (hC : CV k.1.cls idx k' 1 c) (hR : Rm k k') (hr : k'.2.2.2.2.2.2.1 = 0 ∧ k'.2.2.2.2.2.2.2 = 0) (hk : kd sh a = some (c + 7, 0)) (hst : stOk st) (hM : Sp k' [.ref a, b1] sh M Qc) (h : ∀ r sh' M', Qc r sh' M' → sh'.length = sh.length ∧ WP k Q pc' ls (r.toList ++ st) sh' M' 0 0) : WP k Q pc ls (b1 :: .ref a :: st) sh M 0 0 :=
  r_callV (As := [b1]) hd hC hR hr hk rfl hst hM (Aft.keep h) rfl ⟨Nat.zero_le _, Nat.zero_le _⟩
theorem cV2v {k k' : MT} {Q : Po} {pc pc' idx : Nat} {ls : List (Option Value)} {st : List Value} {sh : List SC} {M : Mem} {c a : Nat} {M' : Mem} {v : Value} {b1 b2 : Value} (hd : Inx k pc (.invokevirtual idx) 3 pc') (hC : CV k.1.cls idx k' 2 c) (hR : Rm k k') (hr : k'.2.2.2.2.2.2.1 = 0 ∧ k'.2.2.2.2.2.2.2 = 0) (hk : kd sh a = some (c + 7, 0)) (hst : stOk st) (hM : Gv k' [.ref a, b1, b2] sh M v M') (h : WP k Q pc' ls (v :: st) sh M' 0 0) : WP k Q pc ls (b2 :: b1 :: .ref a :: st) sh M 0 0 :=
  r_callV (As := [b1, b2]) hd hC hR hr hk rfl hst hM (Aft.keep (fun r sh' M'' hq => by obtain ⟨rfl, rfl, rfl⟩ := hq; exact ⟨rfl, h⟩)) rfl ⟨Nat.zero_le _, Nat.zero_le _⟩
theorem cV2u {k k' : MT} {Q : Po} {pc pc' idx : Nat} {ls : List (Option Value)} {st : List Value} {sh : List SC} {M : Mem} {c a : Nat} {M' : Mem} {b1 b2 : Value} (hd : Inx k pc (.invokevirtual idx) 3 pc') (hC : CV k.1.cls idx k' 2 c) (hR : Rm k k') (hr : k'.2.2.2.2.2.2.1 = 0 ∧ k'.2.2.2.2.2.2.2 = 0) (hk : kd sh a = some (c + 7, 0)) (hst : stOk st) (hM : Gu k' [.ref a, b1, b2] sh M M') (h : WP k Q pc' ls st sh M' 0 0) : WP k Q pc ls (b2 :: b1 :: .ref a :: st) sh M 0 0 :=
  r_callV (As := [b1, b2]) hd hC hR hr hk rfl hst hM (Aft.keep (fun r sh' M'' hq => by obtain ⟨rfl, rfl, rfl⟩ := hq; exact ⟨rfl, h⟩)) rfl ⟨Nat.zero_le _, Nat.zero_le _⟩
theorem cV2q {k k' : MT} {Q : Po} {pc pc' idx : Nat} {ls : List (Option Value)} {st : List Value} {sh : List SC} {M : Mem} {c a : Nat} {Qc : Po} {b1 b2 : Value} (hd : Inx k pc (.invokevirtual idx) 3 pc') (hC : CV k.1.cls idx k' 2 c) (hR : Rm k k') (hr : k'.2.2.2.2.2.2.1 = 0 ∧ k'.2.2.2.2.2.2.2 = 0) (hk : kd sh a = some (c + 7, 0)) (hst : stOk st) (hM : Sp k' [.ref a, b1, b2] sh M Qc) (h : ∀ r sh' M', Qc r sh' M' → sh'.length = sh.length ∧ WP k Q pc' ls (r.toList ++ st) sh' M' 0 0) : WP k Q pc ls (b2 :: b1 :: .ref a :: st) sh M 0 0 :=
  r_callV (As := [b1, b2]) hd hC hR hr hk rfl hst hM (Aft.keep h) rfl ⟨Nat.zero_le _, Nat.zero_le _⟩
theorem cV3v {k k' : MT} {Q : Po} {pc pc' idx : Nat} {ls : List (Option Value)} {st : List Value} {sh : List SC} {M : Mem} {c a : Nat} {M' : Mem} {v : Value} {b1 b2 b3 : Value} (hd : Inx k pc (.invokevirtual idx) 3 pc') (hC : CV k.1.cls idx k' 3 c) (hR : Rm k k') (hr : k'.2.2.2.2.2.2.1 = 0 ∧ k'.2.2.2.2.2.2.2 = 0) (hk : kd sh a = some (c + 7, 0)) (hst : stOk st) (hM : Gv k' [.ref a, b1, b2, b3] sh M v M') (h : WP k Q pc' ls (v :: st) sh M' 0 0) : WP k Q pc ls (b3 :: b2 :: b1 :: .ref a :: st) sh M 0 0 :=
  r_callV (As := [b1, b2, b3]) hd hC hR hr hk rfl hst hM (Aft.keep (fun r sh' M'' hq => by obtain ⟨rfl, rfl, rfl⟩ := hq; exact ⟨rfl, h⟩)) rfl ⟨Nat.zero_le _, Nat.zero_le _⟩
theorem cV3u {k k' : MT} {Q : Po} {pc pc' idx : Nat} {ls : List (Option Value)} {st : List Value} {sh : List SC} {M : Mem} {c a : Nat} {M' : Mem} {b1 b2 b3 : Value} (hd : Inx k pc (.invokevirtual idx) 3 pc') (hC : CV k.1.cls idx k' 3 c) (hR : Rm k k') (hr : k'.2.2.2.2.2.2.1 = 0 ∧ k'.2.2.2.2.2.2.2 = 0) (hk : kd sh a = some (c + 7, 0)) (hst : stOk st) (hM : Gu k' [.ref a, b1, b2, b3] sh M M') (h : WP k Q pc' ls st sh M' 0 0) : WP k Q pc ls (b3 :: b2 :: b1 :: .ref a :: st) sh M 0 0 :=
  r_callV (As := [b1, b2, b3]) hd hC hR hr hk rfl hst hM (Aft.keep (fun r sh' M'' hq => by obtain ⟨rfl, rfl, rfl⟩ := hq; exact ⟨rfl, h⟩)) rfl ⟨Nat.zero_le _, Nat.zero_le _⟩
theorem cV3q {k k' : MT} {Q : Po} {pc pc' idx : Nat} {ls : List (Option Value)} {st : List Value} {sh : List SC} {M : Mem} {c a : Nat} {Qc : Po} {b1 b2 b3 : Value} (hd : Inx k pc (.invokevirtual idx) 3 pc') (hC : CV k.1.cls idx k' 3 c) (hR : Rm k k') (hr : k'.2.2.2.2.2.2.1 = 0 ∧ k'.2.2.2.2.2.2.2 = 0) (hk : kd sh a = some (c + 7, 0)) (hst : stOk st) (hM : Sp k' [.ref a, b1, b2, b3] sh M Qc) (h : ∀ r sh' M', Qc r sh' M' → sh'.length = sh.length ∧ WP k Q pc' ls (r.toList ++ st) sh' M' 0 0) : WP k Q pc ls (b3 :: b2 :: b1 :: .ref a :: st) sh M 0 0 :=
  r_callV (As := [b1, b2, b3]) hd hC hR hr hk rfl hst hM (Aft.keep h) rfl ⟨Nat.zero_le _, Nat.zero_le _⟩
theorem cV4v {k k' : MT} {Q : Po} {pc pc' idx : Nat} {ls : List (Option Value)} {st : List Value} {sh : List SC} {M : Mem} {c a : Nat} {M' : Mem} {v : Value} {b1 b2 b3 b4 : Value} (hd : Inx k pc (.invokevirtual idx) 3 pc') (hC : CV k.1.cls idx k' 4 c) (hR : Rm k k') (hr : k'.2.2.2.2.2.2.1 = 0 ∧ k'.2.2.2.2.2.2.2 = 0) (hk : kd sh a = some (c + 7, 0)) (hst : stOk st) (hM : Gv k' [.ref a, b1, b2, b3, b4] sh M v M') (h : WP k Q pc' ls (v :: st) sh M' 0 0) : WP k Q pc ls (b4 :: b3 :: b2 :: b1 :: .ref a :: st) sh M 0 0 :=
  r_callV (As := [b1, b2, b3, b4]) hd hC hR hr hk rfl hst hM (Aft.keep (fun r sh' M'' hq => by obtain ⟨rfl, rfl, rfl⟩ := hq; exact ⟨rfl, h⟩)) rfl ⟨Nat.zero_le _, Nat.zero_le _⟩
theorem cV4u {k k' : MT} {Q : Po} {pc pc' idx : Nat} {ls : List (Option Value)} {st : List Value} {sh : List SC} {M : Mem} {c a : Nat} {M' : Mem} {b1 b2 b3 b4 : Value} (hd : Inx k pc (.invokevirtual idx) 3 pc') (hC : CV k.1.cls idx k' 4 c) (hR : Rm k k') (hr : k'.2.2.2.2.2.2.1 = 0 ∧ k'.2.2.2.2.2.2.2 = 0) (hk : kd sh a = some (c + 7, 0)) (hst : stOk st) (hM : Gu k' [.ref a, b1, b2, b3, b4] sh M M') (h : WP k Q pc' ls st sh M' 0 0) : WP k Q pc ls (b4 :: b3 :: b2 :: b1 :: .ref a :: st) sh M 0 0 :=
  r_callV (As := [b1, b2, b3, b4]) hd hC hR hr hk rfl hst hM (Aft.keep (fun r sh' M'' hq => by obtain ⟨rfl, rfl, rfl⟩ := hq; exact ⟨rfl, h⟩)) rfl ⟨Nat.zero_le _, Nat.zero_le _⟩
theorem cV4q {k k' : MT} {Q : Po} {pc pc' idx : Nat} {ls : List (Option Value)} {st : List Value} {sh : List SC} {M : Mem} {c a : Nat} {Qc : Po} {b1 b2 b3 b4 : Value} (hd : Inx k pc (.invokevirtual idx) 3 pc') (hC : CV k.1.cls idx k' 4 c) (hR : Rm k k') (hr : k'.2.2.2.2.2.2.1 = 0 ∧ k'.2.2.2.2.2.2.2 = 0) (hk : kd sh a = some (c + 7, 0)) (hst : stOk st) (hM : Sp k' [.ref a, b1, b2, b3, b4] sh M Qc) (h : ∀ r sh' M', Qc r sh' M' → sh'.length = sh.length ∧ WP k Q pc' ls (r.toList ++ st) sh' M' 0 0) : WP k Q pc ls (b4 :: b3 :: b2 :: b1 :: .ref a :: st) sh M 0 0 :=
  r_callV (As := [b1, b2, b3, b4]) hd hC hR hr hk rfl hst hM (Aft.keep h) rfl ⟨Nat.zero_le _, Nat.zero_le _⟩
theorem cV5v {k k' : MT} {Q : Po} {pc pc' idx : Nat} {ls : List (Option Value)} {st : List Value} {sh : List SC} {M : Mem} {c a : Nat} {M' : Mem} {v : Value} {b1 b2 b3 b4 b5 : Value} (hd : Inx k pc (.invokevirtual idx) 3 pc') (hC : CV k.1.cls idx k' 5 c) (hR : Rm k k') (hr : k'.2.2.2.2.2.2.1 = 0 ∧ k'.2.2.2.2.2.2.2 = 0) (hk : kd sh a = some (c + 7, 0)) (hst : stOk st) (hM : Gv k' [.ref a, b1, b2, b3, b4, b5] sh M v M') (h : WP k Q pc' ls (v :: st) sh M' 0 0) : WP k Q pc ls (b5 :: b4 :: b3 :: b2 :: b1 :: .ref a :: st) sh M 0 0 :=
  r_callV (As := [b1, b2, b3, b4, b5]) hd hC hR hr hk rfl hst hM (Aft.keep (fun r sh' M'' hq => by obtain ⟨rfl, rfl, rfl⟩ := hq; exact ⟨rfl, h⟩)) rfl ⟨Nat.zero_le _, Nat.zero_le _⟩
theorem cV5u {k k' : MT} {Q : Po} {pc pc' idx : Nat} {ls : List (Option Value)} {st : List Value} {sh : List SC} {M : Mem} {c a : Nat} {M' : Mem} {b1 b2 b3 b4 b5 : Value} (hd : Inx k pc (.invokevirtual idx) 3 pc') (hC : CV k.1.cls idx k' 5 c) (hR : Rm k k') (hr : k'.2.2.2.2.2.2.1 = 0 ∧ k'.2.2.2.2.2.2.2 = 0) (hk : kd sh a = some (c + 7, 0)) (hst : stOk st) (hM : Gu k' [.ref a, b1, b2, b3, b4, b5] sh M M') (h : WP k Q pc' ls st sh M' 0 0) : WP k Q pc ls (b5 :: b4 :: b3 :: b2 :: b1 :: .ref a :: st) sh M 0 0 :=
  r_callV (As := [b1, b2, b3, b4, b5]) hd hC hR hr hk rfl hst hM (Aft.keep (fun r sh' M'' hq => by obtain ⟨rfl, rfl, rfl⟩ := hq; exact ⟨rfl, h⟩)) rfl ⟨Nat.zero_le _, Nat.zero_le _⟩
theorem cV5q {k k' : MT} {Q : Po} {pc pc' idx : Nat} {ls : List (Option Value)} {st : List Value} {sh : List SC} {M : Mem} {c a : Nat} {Qc : Po} {b1 b2 b3 b4 b5 : Value} (hd : Inx k pc (.invokevirtual idx) 3 pc') (hC : CV k.1.cls idx k' 5 c) (hR : Rm k k') (hr : k'.2.2.2.2.2.2.1 = 0 ∧ k'.2.2.2.2.2.2.2 = 0) (hk : kd sh a = some (c + 7, 0)) (hst : stOk st) (hM : Sp k' [.ref a, b1, b2, b3, b4, b5] sh M Qc) (h : ∀ r sh' M', Qc r sh' M' → sh'.length = sh.length ∧ WP k Q pc' ls (r.toList ++ st) sh' M' 0 0) : WP k Q pc ls (b5 :: b4 :: b3 :: b2 :: b1 :: .ref a :: st) sh M 0 0 :=
  r_callV (As := [b1, b2, b3, b4, b5]) hd hC hR hr hk rfl hst hM (Aft.keep h) rfl ⟨Nat.zero_le _, Nat.zero_le _⟩
theorem cS1v {k k' : MT} {Q : Po} {pc pc' idx : Nat} {ls : List (Option Value)} {st : List Value} {sh : List SC} {M : Mem} {M' : Mem} {v : Value} {b1 : Value} (hd : Inx k pc (.invokestatic idx) 3 pc') (hC : CS k.1.cls idx k' 1) (hR : Rm k k') (hr : k'.2.2.2.2.2.2.1 = 0 ∧ k'.2.2.2.2.2.2.2 = 0) (hst : stOk st) (hM : Gv k' [b1] sh M v M') (h : WP k Q pc' ls (v :: st) sh M' 0 0) : WP k Q pc ls (b1 :: st) sh M 0 0 :=
  r_callS (As := [b1]) hd hC hR hr rfl hst hM (Aft.keep (fun r sh' M'' hq => by obtain ⟨rfl, rfl, rfl⟩ := hq; exact ⟨rfl, h⟩)) rfl ⟨Nat.zero_le _, Nat.zero_le _⟩
theorem cS1u {k k' : MT} {Q : Po} {pc pc' idx : Nat} {ls : List (Option Value)} {st : List Value} {sh : List SC} {M : Mem} {M' : Mem} {b1 : Value} (hd : Inx k pc (.invokestatic idx) 3 pc') (hC : CS k.1.cls idx k' 1) (hR : Rm k k') (hr : k'.2.2.2.2.2.2.1 = 0 ∧ k'.2.2.2.2.2.2.2 = 0) (hst : stOk st) (hM : Gu k' [b1] sh M M') (h : WP k Q pc' ls st sh M' 0 0) : WP k Q pc ls (b1 :: st) sh M 0 0 :=
  r_callS (As := [b1]) hd hC hR hr rfl hst hM (Aft.keep (fun r sh' M'' hq => by obtain ⟨rfl, rfl, rfl⟩ := hq; exact ⟨rfl, h⟩)) rfl ⟨Nat.zero_le _, Nat.zero_le _⟩
theorem cS1q {k k' : MT} {Q : Po} {pc pc' idx : Nat} {ls : List (Option Value)} {st : List Value} {sh : List SC} {M : Mem} {Qc : Po} {b1 : Value} (hd : Inx k pc (.invokestatic idx) 3 pc') (hC : CS k.1.cls idx k' 1) (hR : Rm k k') (hr : k'.2.2.2.2.2.2.1 = 0 ∧ k'.2.2.2.2.2.2.2 = 0) (hst : stOk st) (hM : Sp k' [b1] sh M Qc) (h : ∀ r sh' M', Qc r sh' M' → sh'.length = sh.length ∧ WP k Q pc' ls (r.toList ++ st) sh' M' 0 0) : WP k Q pc ls (b1 :: st) sh M 0 0 :=
  r_callS (As := [b1]) hd hC hR hr rfl hst hM (Aft.keep h) rfl ⟨Nat.zero_le _, Nat.zero_le _⟩
theorem cS2v {k k' : MT} {Q : Po} {pc pc' idx : Nat} {ls : List (Option Value)} {st : List Value} {sh : List SC} {M : Mem} {M' : Mem} {v : Value} {b1 b2 : Value} (hd : Inx k pc (.invokestatic idx) 3 pc') (hC : CS k.1.cls idx k' 2) (hR : Rm k k') (hr : k'.2.2.2.2.2.2.1 = 0 ∧ k'.2.2.2.2.2.2.2 = 0) (hst : stOk st) (hM : Gv k' [b1, b2] sh M v M') (h : WP k Q pc' ls (v :: st) sh M' 0 0) : WP k Q pc ls (b2 :: b1 :: st) sh M 0 0 :=
  r_callS (As := [b1, b2]) hd hC hR hr rfl hst hM (Aft.keep (fun r sh' M'' hq => by obtain ⟨rfl, rfl, rfl⟩ := hq; exact ⟨rfl, h⟩)) rfl ⟨Nat.zero_le _, Nat.zero_le _⟩
theorem cS2u {k k' : MT} {Q : Po} {pc pc' idx : Nat} {ls : List (Option Value)} {st : List Value} {sh : List SC} {M : Mem} {M' : Mem} {b1 b2 : Value} (hd : Inx k pc (.invokestatic idx) 3 pc') (hC : CS k.1.cls idx k' 2) (hR : Rm k k') (hr : k'.2.2.2.2.2.2.1 = 0 ∧ k'.2.2.2.2.2.2.2 = 0) (hst : stOk st) (hM : Gu k' [b1, b2] sh M M') (h : WP k Q pc' ls st sh M' 0 0) : WP k Q pc ls (b2 :: b1 :: st) sh M 0 0 :=
  r_callS (As := [b1, b2]) hd hC hR hr rfl hst hM (Aft.keep (fun r sh' M'' hq => by obtain ⟨rfl, rfl, rfl⟩ := hq; exact ⟨rfl, h⟩)) rfl ⟨Nat.zero_le _, Nat.zero_le _⟩
theorem cS2q {k k' : MT} {Q : Po} {pc pc' idx : Nat} {ls : List (Option Value)} {st : List Value} {sh : List SC} {M : Mem} {Qc : Po} {b1 b2 : Value} (hd : Inx k pc (.invokestatic idx) 3 pc') (hC : CS k.1.cls idx k' 2) (hR : Rm k k') (hr : k'.2.2.2.2.2.2.1 = 0 ∧ k'.2.2.2.2.2.2.2 = 0) (hst : stOk st) (hM : Sp k' [b1, b2] sh M Qc) (h : ∀ r sh' M', Qc r sh' M' → sh'.length = sh.length ∧ WP k Q pc' ls (r.toList ++ st) sh' M' 0 0) : WP k Q pc ls (b2 :: b1 :: st) sh M 0 0 :=
  r_callS (As := [b1, b2]) hd hC hR hr rfl hst hM (Aft.keep h) rfl ⟨Nat.zero_le _, Nat.zero_le _⟩
theorem cS3v {k k' : MT} {Q : Po} {pc pc' idx : Nat} {ls : List (Option Value)} {st : List Value} {sh : List SC} {M : Mem} {M' : Mem} {v : Value} {b1 b2 b3 : Value} (hd : Inx k pc (.invokestatic idx) 3 pc') (hC : CS k.1.cls idx k' 3) (hR : Rm k k') (hr : k'.2.2.2.2.2.2.1 = 0 ∧ k'.2.2.2.2.2.2.2 = 0) (hst : stOk st) (hM : Gv k' [b1, b2, b3] sh M v M') (h : WP k Q pc' ls (v :: st) sh M' 0 0) : WP k Q pc ls (b3 :: b2 :: b1 :: st) sh M 0 0 :=
  r_callS (As := [b1, b2, b3]) hd hC hR hr rfl hst hM (Aft.keep (fun r sh' M'' hq => by obtain ⟨rfl, rfl, rfl⟩ := hq; exact ⟨rfl, h⟩)) rfl ⟨Nat.zero_le _, Nat.zero_le _⟩
theorem cS3u {k k' : MT} {Q : Po} {pc pc' idx : Nat} {ls : List (Option Value)} {st : List Value} {sh : List SC} {M : Mem} {M' : Mem} {b1 b2 b3 : Value} (hd : Inx k pc (.invokestatic idx) 3 pc') (hC : CS k.1.cls idx k' 3) (hR : Rm k k') (hr : k'.2.2.2.2.2.2.1 = 0 ∧ k'.2.2.2.2.2.2.2 = 0) (hst : stOk st) (hM : Gu k' [b1, b2, b3] sh M M') (h : WP k Q pc' ls st sh M' 0 0) : WP k Q pc ls (b3 :: b2 :: b1 :: st) sh M 0 0 :=
  r_callS (As := [b1, b2, b3]) hd hC hR hr rfl hst hM (Aft.keep (fun r sh' M'' hq => by obtain ⟨rfl, rfl, rfl⟩ := hq; exact ⟨rfl, h⟩)) rfl ⟨Nat.zero_le _, Nat.zero_le _⟩
theorem cS3q {k k' : MT} {Q : Po} {pc pc' idx : Nat} {ls : List (Option Value)} {st : List Value} {sh : List SC} {M : Mem} {Qc : Po} {b1 b2 b3 : Value} (hd : Inx k pc (.invokestatic idx) 3 pc') (hC : CS k.1.cls idx k' 3) (hR : Rm k k') (hr : k'.2.2.2.2.2.2.1 = 0 ∧ k'.2.2.2.2.2.2.2 = 0) (hst : stOk st) (hM : Sp k' [b1, b2, b3] sh M Qc) (h : ∀ r sh' M', Qc r sh' M' → sh'.length = sh.length ∧ WP k Q pc' ls (r.toList ++ st) sh' M' 0 0) : WP k Q pc ls (b3 :: b2 :: b1 :: st) sh M 0 0 :=
  r_callS (As := [b1, b2, b3]) hd hC hR hr rfl hst hM (Aft.keep h) rfl ⟨Nat.zero_le _, Nat.zero_le _⟩
theorem cS4v {k k' : MT} {Q : Po} {pc pc' idx : Nat} {ls : List (Option Value)} {st : List Value} {sh : List SC} {M : Mem} {M' : Mem} {v : Value} {b1 b2 b3 b4 : Value} (hd : Inx k pc (.invokestatic idx) 3 pc') (hC : CS k.1.cls idx k' 4) (hR : Rm k k') (hr : k'.2.2.2.2.2.2.1 = 0 ∧ k'.2.2.2.2.2.2.2 = 0) (hst : stOk st) (hM : Gv k' [b1, b2, b3, b4] sh M v M') (h : WP k Q pc' ls (v :: st) sh M' 0 0) : WP k Q pc ls (b4 :: b3 :: b2 :: b1 :: st) sh M 0 0 :=
  r_callS (As := [b1, b2, b3, b4]) hd hC hR hr rfl hst hM (Aft.keep (fun r sh' M'' hq => by obtain ⟨rfl, rfl, rfl⟩ := hq; exact ⟨rfl, h⟩)) rfl ⟨Nat.zero_le _, Nat.zero_le _⟩
theorem cS4u {k k' : MT} {Q : Po} {pc pc' idx : Nat} {ls : List (Option Value)} {st : List Value} {sh : List SC} {M : Mem} {M' : Mem} {b1 b2 b3 b4 : Value} (hd : Inx k pc (.invokestatic idx) 3 pc') (hC : CS k.1.cls idx k' 4) (hR : Rm k k') (hr : k'.2.2.2.2.2.2.1 = 0 ∧ k'.2.2.2.2.2.2.2 = 0) (hst : stOk st) (hM : Gu k' [b1, b2, b3, b4] sh M M') (h : WP k Q pc' ls st sh M' 0 0) : WP k Q pc ls (b4 :: b3 :: b2 :: b1 :: st) sh M 0 0 :=
  r_callS (As := [b1, b2, b3, b4]) hd hC hR hr rfl hst hM (Aft.keep (fun r sh' M'' hq => by obtain ⟨rfl, rfl, rfl⟩ := hq; exact ⟨rfl, h⟩)) rfl ⟨Nat.zero_le _, Nat.zero_le _⟩
theorem cS4q {k k' : MT} {Q : Po} {pc pc' idx : Nat} {ls : List (Option Value)} {st : List Value} {sh : List SC} {M : Mem} {Qc : Po} {b1 b2 b3 b4 : Value} (hd : Inx k pc (.invokestatic idx) 3 pc') (hC : CS k.1.cls idx k' 4) (hR : Rm k k') (hr : k'.2.2.2.2.2.2.1 = 0 ∧ k'.2.2.2.2.2.2.2 = 0) (hst : stOk st) (hM : Sp k' [b1, b2, b3, b4] sh M Qc) (h : ∀ r sh' M', Qc r sh' M' → sh'.length = sh.length ∧ WP k Q pc' ls (r.toList ++ st) sh' M' 0 0) : WP k Q pc ls (b4 :: b3 :: b2 :: b1 :: st) sh M 0 0 :=
  r_callS (As := [b1, b2, b3, b4]) hd hC hR hr rfl hst hM (Aft.keep h) rfl ⟨Nat.zero_le _, Nat.zero_le _⟩
theorem cS5v {k k' : MT} {Q : Po} {pc pc' idx : Nat} {ls : List (Option Value)} {st : List Value} {sh : List SC} {M : Mem} {M' : Mem} {v : Value} {b1 b2 b3 b4 b5 : Value} (hd : Inx k pc (.invokestatic idx) 3 pc') (hC : CS k.1.cls idx k' 5) (hR : Rm k k') (hr : k'.2.2.2.2.2.2.1 = 0 ∧ k'.2.2.2.2.2.2.2 = 0) (hst : stOk st) (hM : Gv k' [b1, b2, b3, b4, b5] sh M v M') (h : WP k Q pc' ls (v :: st) sh M' 0 0) : WP k Q pc ls (b5 :: b4 :: b3 :: b2 :: b1 :: st) sh M 0 0 :=
  r_callS (As := [b1, b2, b3, b4, b5]) hd hC hR hr rfl hst hM (Aft.keep (fun r sh' M'' hq => by obtain ⟨rfl, rfl, rfl⟩ := hq; exact ⟨rfl, h⟩)) rfl ⟨Nat.zero_le _, Nat.zero_le _⟩
theorem cS5u {k k' : MT} {Q : Po} {pc pc' idx : Nat} {ls : List (Option Value)} {st : List Value} {sh : List SC} {M : Mem} {M' : Mem} {b1 b2 b3 b4 b5 : Value} (hd : Inx k pc (.invokestatic idx) 3 pc') (hC : CS k.1.cls idx k' 5) (hR : Rm k k') (hr : k'.2.2.2.2.2.2.1 = 0 ∧ k'.2.2.2.2.2.2.2 = 0) (hst : stOk st) (hM : Gu k' [b1, b2, b3, b4, b5] sh M M') (h : WP k Q pc' ls st sh M' 0 0) : WP k Q pc ls (b5 :: b4 :: b3 :: b2 :: b1 :: st) sh M 0 0 :=
  r_callS (As := [b1, b2, b3, b4, b5]) hd hC hR hr rfl hst hM (Aft.keep (fun r sh' M'' hq => by obtain ⟨rfl, rfl, rfl⟩ := hq; exact ⟨rfl, h⟩)) rfl ⟨Nat.zero_le _, Nat.zero_le _⟩
theorem cS5q {k k' : MT} {Q : Po} {pc pc' idx : Nat} {ls : List (Option Value)} {st : List Value} {sh : List SC} {M : Mem} {Qc : Po} {b1 b2 b3 b4 b5 : Value} (hd : Inx k pc (.invokestatic idx) 3 pc') (hC : CS k.1.cls idx k' 5) (hR : Rm k k') (hr : k'.2.2.2.2.2.2.1 = 0 ∧ k'.2.2.2.2.2.2.2 = 0) (hst : stOk st) (hM : Sp k' [b1, b2, b3, b4, b5] sh M Qc) (h : ∀ r sh' M', Qc r sh' M' → sh'.length = sh.length ∧ WP k Q pc' ls (r.toList ++ st) sh' M' 0 0) : WP k Q pc ls (b5 :: b4 :: b3 :: b2 :: b1 :: st) sh M 0 0 :=
  r_callS (As := [b1, b2, b3, b4, b5]) hd hC hR hr rfl hst hM (Aft.keep h) rfl ⟨Nat.zero_le _, Nat.zero_le _⟩
theorem cS6v {k k' : MT} {Q : Po} {pc pc' idx : Nat} {ls : List (Option Value)} {st : List Value} {sh : List SC} {M : Mem} {M' : Mem} {v : Value} {b1 b2 b3 b4 b5 b6 : Value} (hd : Inx k pc (.invokestatic idx) 3 pc') (hC : CS k.1.cls idx k' 6) (hR : Rm k k') (hr : k'.2.2.2.2.2.2.1 = 0 ∧ k'.2.2.2.2.2.2.2 = 0) (hst : stOk st) (hM : Gv k' [b1, b2, b3, b4, b5, b6] sh M v M') (h : WP k Q pc' ls (v :: st) sh M' 0 0) : WP k Q pc ls (b6 :: b5 :: b4 :: b3 :: b2 :: b1 :: st) sh M 0 0 :=
  r_callS (As := [b1, b2, b3, b4, b5, b6]) hd hC hR hr rfl hst hM (Aft.keep (fun r sh' M'' hq => by obtain ⟨rfl, rfl, rfl⟩ := hq; exact ⟨rfl, h⟩)) rfl ⟨Nat.zero_le _, Nat.zero_le _⟩
theorem cS6u {k k' : MT} {Q : Po} {pc pc' idx : Nat} {ls : List (Option Value)} {st : List Value} {sh : List SC} {M : Mem} {M' : Mem} {b1 b2 b3 b4 b5 b6 : Value} (hd : Inx k pc (.invokestatic idx) 3 pc') (hC : CS k.1.cls idx k' 6) (hR : Rm k k') (hr : k'.2.2.2.2.2.2.1 = 0 ∧ k'.2.2.2.2.2.2.2 = 0) (hst : stOk st) (hM : Gu k' [b1, b2, b3, b4, b5, b6] sh M M') (h : WP k Q pc' ls st sh M' 0 0) : WP k Q pc ls (b6 :: b5 :: b4 :: b3 :: b2 :: b1 :: st) sh M 0 0 :=
  r_callS (As := [b1, b2, b3, b4, b5, b6]) hd hC hR hr rfl hst hM (Aft.keep (fun r sh' M'' hq => by obtain ⟨rfl, rfl, rfl⟩ := hq; exact ⟨rfl, h⟩)) rfl ⟨Nat.zero_le _, Nat.zero_le _⟩
theorem cS6q {k k' : MT} {Q : Po} {pc pc' idx : Nat} {ls : List (Option Value)} {st : List Value} {sh : List SC} {M : Mem} {Qc : Po} {b1 b2 b3 b4 b5 b6 : Value} (hd : Inx k pc (.invokestatic idx) 3 pc') (hC : CS k.1.cls idx k' 6) (hR : Rm k k') (hr : k'.2.2.2.2.2.2.1 = 0 ∧ k'.2.2.2.2.2.2.2 = 0) (hst : stOk st) (hM : Sp k' [b1, b2, b3, b4, b5, b6] sh M Qc) (h : ∀ r sh' M', Qc r sh' M' → sh'.length = sh.length ∧ WP k Q pc' ls (r.toList ++ st) sh' M' 0 0) : WP k Q pc ls (b6 :: b5 :: b4 :: b3 :: b2 :: b1 :: st) sh M 0 0 :=
  r_callS (As := [b1, b2, b3, b4, b5, b6]) hd hC hR hr rfl hst hM (Aft.keep h) rfl ⟨Nat.zero_le _, Nat.zero_le _⟩
theorem cS7v {k k' : MT} {Q : Po} {pc pc' idx : Nat} {ls : List (Option Value)} {st : List Value} {sh : List SC} {M : Mem} {M' : Mem} {v : Value} {b1 b2 b3 b4 b5 b6 b7 : Value} (hd : Inx k pc (.invokestatic idx) 3 pc') (hC : CS k.1.cls idx k' 7) (hR : Rm k k') (hr : k'.2.2.2.2.2.2.1 = 0 ∧ k'.2.2.2.2.2.2.2 = 0) (hst : stOk st) (hM : Gv k' [b1, b2, b3, b4, b5, b6, b7] sh M v M') (h : WP k Q pc' ls (v :: st) sh M' 0 0) : WP k Q pc ls (b7 :: b6 :: b5 :: b4 :: b3 :: b2 :: b1 :: st) sh M 0 0 :=
  r_callS (As := [b1, b2, b3, b4, b5, b6, b7]) hd hC hR hr rfl hst hM (Aft.keep (fun r sh' M'' hq => by obtain ⟨rfl, rfl, rfl⟩ := hq; exact ⟨rfl, h⟩)) rfl ⟨Nat.zero_le _, Nat.zero_le _⟩
theorem cS7u {k k' : MT} {Q : Po} {pc pc' idx : Nat} {ls : List (Option Value)} {st : List Value} {sh : List SC} {M : Mem} {M' : Mem} {b1 b2 b3 b4 b5 b6 b7 : Value} (hd : Inx k pc (.invokestatic idx) 3 pc') (hC : CS k.1.cls idx k' 7) (hR : Rm k k') (hr : k'.2.2.2.2.2.2.1 = 0 ∧ k'.2.2.2.2.2.2.2 = 0) (hst : stOk st) (hM : Gu k' [b1, b2, b3, b4, b5, b6, b7] sh M M') (h : WP k Q pc' ls st sh M' 0 0) : WP k Q pc ls (b7 :: b6 :: b5 :: b4 :: b3 :: b2 :: b1 :: st) sh M 0 0 :=
  r_callS (As := [b1, b2, b3, b4, b5, b6, b7]) hd hC hR hr rfl hst hM (Aft.keep (fun r sh' M'' hq => by obtain ⟨rfl, rfl, rfl⟩ := hq; exact ⟨rfl, h⟩)) rfl ⟨Nat.zero_le _, Nat.zero_le _⟩
theorem cS7q {k k' : MT} {Q : Po} {pc pc' idx : Nat} {ls : List (Option Value)} {st : List Value} {sh : List SC} {M : Mem} {Qc : Po} {b1 b2 b3 b4 b5 b6 b7 : Value} (hd : Inx k pc (.invokestatic idx) 3 pc') (hC : CS k.1.cls idx k' 7) (hR : Rm k k') (hr : k'.2.2.2.2.2.2.1 = 0 ∧ k'.2.2.2.2.2.2.2 = 0) (hst : stOk st) (hM : Sp k' [b1, b2, b3, b4, b5, b6, b7] sh M Qc) (h : ∀ r sh' M', Qc r sh' M' → sh'.length = sh.length ∧ WP k Q pc' ls (r.toList ++ st) sh' M' 0 0) : WP k Q pc ls (b7 :: b6 :: b5 :: b4 :: b3 :: b2 :: b1 :: st) sh M 0 0 :=
  r_callS (As := [b1, b2, b3, b4, b5, b6, b7]) hd hC hR hr rfl hst hM (Aft.keep h) rfl ⟨Nat.zero_le _, Nat.zero_le _⟩
theorem cSN1v {k k' : MT} {Q : Po} {pc pc' idx : Nat} {ls : List (Option Value)} {st : List Value} {sh : List SC} {M : Mem} {M' : Mem} {v : Value} {b1 : Value} (hd : Inx k pc (.invokestatic idx) 3 pc') (hC : CSN k.1.cls idx k' 1) (hR : Rm k k') (hr : k'.2.2.2.2.2.2.1 = 0 ∧ k'.2.2.2.2.2.2.2 = 0) (hst : stOk st) (hM : Gv k' [b1] sh M v M') (h : WP k Q pc' ls (v :: st) sh M' 0 0) : WP k Q pc ls (b1 :: st) sh M 0 0 :=
  r_callSN (As := [b1]) hd hC hR hr rfl hst hM (Aft.keep (fun r sh' M'' hq => by obtain ⟨rfl, rfl, rfl⟩ := hq; exact ⟨rfl, h⟩)) rfl ⟨Nat.zero_le _, Nat.zero_le _⟩
theorem cSN1u {k k' : MT} {Q : Po} {pc pc' idx : Nat} {ls : List (Option Value)} {st : List Value} {sh : List SC} {M : Mem} {M' : Mem} {b1 : Value} (hd : Inx k pc (.invokestatic idx) 3 pc') (hC : CSN k.1.cls idx k' 1) (hR : Rm k k') (hr : k'.2.2.2.2.2.2.1 = 0 ∧ k'.2.2.2.2.2.2.2 = 0) (hst : stOk st) (hM : Gu k' [b1] sh M M') (h : WP k Q pc' ls st sh M' 0 0) : WP k Q pc ls (b1 :: st) sh M 0 0 :=
  r_callSN (As := [b1]) hd hC hR hr rfl hst hM (Aft.keep (fun r sh' M'' hq => by obtain ⟨rfl, rfl, rfl⟩ := hq; exact ⟨rfl, h⟩)) rfl ⟨Nat.zero_le _, Nat.zero_le _⟩
theorem cSN1q {k k' : MT} {Q : Po} {pc pc' idx : Nat} {ls : List (Option Value)} {st : List Value} {sh : List SC} {M : Mem} {Qc : Po} {b1 : Value} (hd : Inx k pc (.invokestatic idx) 3 pc') (hC : CSN k.1.cls idx k' 1) (hR : Rm k k') (hr : k'.2.2.2.2.2.2.1 = 0 ∧ k'.2.2.2.2.2.2.2 = 0) (hst : stOk st) (hM : Sp k' [b1] sh M Qc) (h : ∀ r sh' M', Qc r sh' M' → sh'.length = sh.length ∧ WP k Q pc' ls (r.toList ++ st) sh' M' 0 0) : WP k Q pc ls (b1 :: st) sh M 0 0 :=
  r_callSN (As := [b1]) hd hC hR hr rfl hst hM (Aft.keep h) rfl ⟨Nat.zero_le _, Nat.zero_le _⟩
theorem cSN2v {k k' : MT} {Q : Po} {pc pc' idx : Nat} {ls : List (Option Value)} {st : List Value} {sh : List SC} {M : Mem} {M' : Mem} {v : Value} {b1 b2 : Value} (hd : Inx k pc (.invokestatic idx) 3 pc') (hC : CSN k.1.cls idx k' 2) (hR : Rm k k') (hr : k'.2.2.2.2.2.2.1 = 0 ∧ k'.2.2.2.2.2.2.2 = 0) (hst : stOk st) (hM : Gv k' [b1, b2] sh M v M') (h : WP k Q pc' ls (v :: st) sh M' 0 0) : WP k Q pc ls (b2 :: b1 :: st) sh M 0 0 :=
  r_callSN (As := [b1, b2]) hd hC hR hr rfl hst hM (Aft.keep (fun r sh' M'' hq => by obtain ⟨rfl, rfl, rfl⟩ := hq; exact ⟨rfl, h⟩)) rfl ⟨Nat.zero_le _, Nat.zero_le _⟩
theorem cSN2u {k k' : MT} {Q : Po} {pc pc' idx : Nat} {ls : List (Option Value)} {st : List Value} {sh : List SC} {M : Mem} {M' : Mem} {b1 b2 : Value} (hd : Inx k pc (.invokestatic idx) 3 pc') (hC : CSN k.1.cls idx k' 2) (hR : Rm k k') (hr : k'.2.2.2.2.2.2.1 = 0 ∧ k'.2.2.2.2.2.2.2 = 0) (hst : stOk st) (hM : Gu k' [b1, b2] sh M M') (h : WP k Q pc' ls st sh M' 0 0) : WP k Q pc ls (b2 :: b1 :: st) sh M 0 0 :=
  r_callSN (As := [b1, b2]) hd hC hR hr rfl hst hM (Aft.keep (fun r sh' M'' hq => by obtain ⟨rfl, rfl, rfl⟩ := hq; exact ⟨rfl, h⟩)) rfl ⟨Nat.zero_le _, Nat.zero_le _⟩
theorem cSN2q {k k' : MT} {Q : Po} {pc pc' idx : Nat} {ls : List (Option Value)} {st : List Value} {sh : List SC} {M : Mem} {Qc : Po} {b1 b2 : Value} (hd : Inx k pc (.invokestatic idx) 3 pc') (hC : CSN k.1.cls idx k' 2) (hR : Rm k k') (hr : k'.2.2.2.2.2.2.1 = 0 ∧ k'.2.2.2.2.2.2.2 = 0) (hst : stOk st) (hM : Sp k' [b1, b2] sh M Qc) (h : ∀ r sh' M', Qc r sh' M' → sh'.length = sh.length ∧ WP k Q pc' ls (r.toList ++ st) sh' M' 0 0) : WP k Q pc ls (b2 :: b1 :: st) sh M 0 0 :=
  r_callSN (As := [b1, b2]) hd hC hR hr rfl hst hM (Aft.keep h) rfl ⟨Nat.zero_le _, Nat.zero_le _⟩
theorem cSN3v {k k' : MT} {Q : Po} {pc pc' idx : Nat} {ls : List (Option Value)} {st : List Value} {sh : List SC} {M : Mem} {M' : Mem} {v : Value} {b1 b2 b3 : Value} (hd : Inx k pc (.invokestatic idx) 3 pc') (hC : CSN k.1.cls idx k' 3) (hR : Rm k k') (hr : k'.2.2.2.2.2.2.1 = 0 ∧ k'.2.2.2.2.2.2.2 = 0) (hst : stOk st) (hM : Gv k' [b1, b2, b3] sh M v M') (h : WP k Q pc' ls (v :: st) sh M' 0 0) : WP k Q pc ls (b3 :: b2 :: b1 :: st) sh M 0 0 :=
  r_callSN (As := [b1, b2, b3]) hd hC hR hr rfl hst hM (Aft.keep (fun r sh' M'' hq => by obtain ⟨rfl, rfl, rfl⟩ := hq; exact ⟨rfl, h⟩)) rfl ⟨Nat.zero_le _, Nat.zero_le _⟩
theorem cSN3u {k k' : MT} {Q : Po} {pc pc' idx : Nat} {ls : List (Option Value)} {st : List Value} {sh : List SC} {M : Mem} {M' : Mem} {b1 b2 b3 : Value} (hd : Inx k pc (.invokestatic idx) 3 pc') (hC : CSN k.1.cls idx k' 3) (hR : Rm k k') (hr : k'.2.2.2.2.2.2.1 = 0 ∧ k'.2.2.2.2.2.2.2 = 0) (hst : stOk st) (hM : Gu k' [b1, b2, b3] sh M M') (h : WP k Q pc' ls st sh M' 0 0) : WP k Q pc ls (b3 :: b2 :: b1 :: st) sh M 0 0 :=
  r_callSN (As := [b1, b2, b3]) hd hC hR hr rfl hst hM (Aft.keep (fun r sh' M'' hq => by obtain ⟨rfl, rfl, rfl⟩ := hq; exact ⟨rfl, h⟩)) rfl ⟨Nat.zero_le _, Nat.zero_le _⟩
theorem cSN3q {k k' : MT} {Q : Po} {pc pc' idx : Nat} {ls : List (Option Value)} {st : List Value} {sh : List SC} {M : Mem} {Qc : Po} {b1 b2 b3 : Value} (hd : Inx k pc (.invokestatic idx) 3 pc') (hC : CSN k.1.cls idx k' 3) (hR : Rm k k') (hr : k'.2.2.2.2.2.2.1 = 0 ∧ k'.2.2.2.2.2.2.2 = 0) (hst : stOk st) (hM : Sp k' [b1, b2, b3] sh M Qc) (h : ∀ r sh' M', Qc r sh' M' → sh'.length = sh.length ∧ WP k Q pc' ls (r.toList ++ st) sh' M' 0 0) : WP k Q pc ls (b3 :: b2 :: b1 :: st) sh M 0 0 :=
  r_callSN (As := [b1, b2, b3]) hd hC hR hr rfl hst hM (Aft.keep h) rfl ⟨Nat.zero_le _, Nat.zero_le _⟩
theorem cSN4v {k k' : MT} {Q : Po} {pc pc' idx : Nat} {ls : List (Option Value)} {st : List Value} {sh : List SC} {M : Mem} {M' : Mem} {v : Value} {b1 b2 b3 b4 : Value} (hd : Inx k pc (.invokestatic idx) 3 pc') (hC : CSN k.1.cls idx k' 4) (hR : Rm k k') (hr : k'.2.2.2.2.2.2.1 = 0 ∧ k'.2.2.2.2.2.2.2 = 0) (hst : stOk st) (hM : Gv k' [b1, b2, b3, b4] sh M v M') (h : WP k Q pc' ls (v :: st) sh M' 0 0) : WP k Q pc ls (b4 :: b3 :: b2 :: b1 :: st) sh M 0 0 :=
  r_callSN (As := [b1, b2, b3, b4]) hd hC hR hr rfl hst hM (Aft.keep (fun r sh' M'' hq => by obtain ⟨rfl, rfl, rfl⟩ := hq; exact ⟨rfl, h⟩)) rfl ⟨Nat.zero_le _, Nat.zero_le _⟩
theorem cSN4u {k k' : MT} {Q : Po} {pc pc' idx : Nat} {ls : List (Option Value)} {st : List Value} {sh : List SC} {M : Mem} {M' : Mem} {b1 b2 b3 b4 : Value} (hd : Inx k pc (.invokestatic idx) 3 pc') (hC : CSN k.1.cls idx k' 4) (hR : Rm k k') (hr : k'.2.2.2.2.2.2.1 = 0 ∧ k'.2.2.2.2.2.2.2 = 0) (hst : stOk st) (hM : Gu k' [b1, b2, b3, b4] sh M M') (h : WP k Q pc' ls st sh M' 0 0) : WP k Q pc ls (b4 :: b3 :: b2 :: b1 :: st) sh M 0 0 :=
  r_callSN (As := [b1, b2, b3, b4]) hd hC hR hr rfl hst hM (Aft.keep (fun r sh' M'' hq => by obtain ⟨rfl, rfl, rfl⟩ := hq; exact ⟨rfl, h⟩)) rfl ⟨Nat.zero_le _, Nat.zero_le _⟩
theorem cSN4q {k k' : MT} {Q : Po} {pc pc' idx : Nat} {ls : List (Option Value)} {st : List Value} {sh : List SC} {M : Mem} {Qc : Po} {b1 b2 b3 b4 : Value} (hd : Inx k pc (.invokestatic idx) 3 pc') (hC : CSN k.1.cls idx k' 4) (hR : Rm k k') (hr : k'.2.2.2.2.2.2.1 = 0 ∧ k'.2.2.2.2.2.2.2 = 0) (hst : stOk st) (hM : Sp k' [b1, b2, b3, b4] sh M Qc) (h : ∀ r sh' M', Qc r sh' M' → sh'.length = sh.length ∧ WP k Q pc' ls (r.toList ++ st) sh' M' 0 0) : WP k Q pc ls (b4 :: b3 :: b2 :: b1 :: st) sh M 0 0 :=
  r_callSN (As := [b1, b2, b3, b4]) hd hC hR hr rfl hst hM (Aft.keep h) rfl ⟨Nat.zero_le _, Nat.zero_le _⟩
theorem cSN5v {k k' : MT} {Q : Po} {pc pc' idx : Nat} {ls : List (Option Value)} {st : List Value} {sh : List SC} {M : Mem} {M' : Mem} {v : Value} {b1 b2 b3 b4 b5 : Value} (hd : Inx k pc (.invokestatic idx) 3 pc') (hC : CSN k.1.cls idx k' 5) (hR : Rm k k') (hr : k'.2.2.2.2.2.2.1 = 0 ∧ k'.2.2.2.2.2.2.2 = 0) (hst : stOk st) (hM : Gv k' [b1, b2, b3, b4, b5] sh M v M') (h : WP k Q pc' ls (v :: st) sh M' 0 0) : WP k Q pc ls (b5 :: b4 :: b3 :: b2 :: b1 :: st) sh M 0 0 :=
  r_callSN (As := [b1, b2, b3, b4, b5]) hd hC hR hr rfl hst hM (Aft.keep (fun r sh' M'' hq => by obtain ⟨rfl, rfl, rfl⟩ := hq; exact ⟨rfl, h⟩)) rfl ⟨Nat.zero_le _, Nat.zero_le _⟩
theorem cSN5u {k k' : MT} {Q : Po} {pc pc' idx : Nat} {ls : List (Option Value)} {st : List Value} {sh : List SC} {M : Mem} {M' : Mem} {b1 b2 b3 b4 b5 : Value} (hd : Inx k pc (.invokestatic idx) 3 pc') (hC : CSN k.1.cls idx k' 5) (hR : Rm k k') (hr : k'.2.2.2.2.2.2.1 = 0 ∧ k'.2.2.2.2.2.2.2 = 0) (hst : stOk st) (hM : Gu k' [b1, b2, b3, b4, b5] sh M M') (h : WP k Q pc' ls st sh M' 0 0) : WP k Q pc ls (b5 :: b4 :: b3 :: b2 :: b1 :: st) sh M 0 0 :=
  r_callSN (As := [b1, b2, b3, b4, b5]) hd hC hR hr rfl hst hM (Aft.keep (fun r sh' M'' hq => by obtain ⟨rfl, rfl, rfl⟩ := hq; exact ⟨rfl, h⟩)) rfl ⟨Nat.zero_le _, Nat.zero_le _⟩
theorem cSN5q {k k' : MT} {Q : Po} {pc pc' idx : Nat} {ls : List (Option Value)} {st : List Value} {sh : List SC} {M : Mem} {Qc : Po} {b1 b2 b3 b4 b5 : Value} (hd : Inx k pc (.invokestatic idx) 3 pc') (hC : CSN k.1.cls idx k' 5) (hR : Rm k k') (hr : k'.2.2.2.2.2.2.1 = 0 ∧ k'.2.2.2.2.2.2.2 = 0) (hst : stOk st) (hM : Sp k' [b1, b2, b3, b4, b5] sh M Qc) (h : ∀ r sh' M', Qc r sh' M' → sh'.length = sh.length ∧ WP k Q pc' ls (r.toList ++ st) sh' M' 0 0) : WP k Q pc ls (b5 :: b4 :: b3 :: b2 :: b1 :: st) sh M 0 0 :=
  r_callSN (As := [b1, b2, b3, b4, b5]) hd hC hR hr rfl hst hM (Aft.keep h) rfl ⟨Nat.zero_le _, Nat.zero_le _⟩
theorem t12 {t : Nat} (h : t = 0 ∨ t = 3) : t ≠ 1 ∧ t ≠ 2 := by omega
theorem i0 : (0 : Nat) ≠ 1 ∧ (0 : Nat) ≠ 2 := by decide
theorem i3 : (3 : Nat) ≠ 1 ∧ (3 : Nat) ≠ 2 := by decide
theorem bp_6 : (Int8.ofInt 6).toInt32 = (6 : Int32) := by decide
theorem bp_7 : (Int8.ofInt 7).toInt32 = (7 : Int32) := by decide
theorem bp_8 : (Int8.ofInt 8).toInt32 = (8 : Int32) := by decide
theorem bp_9 : (Int8.ofInt 9).toInt32 = (9 : Int32) := by decide
theorem bp_10 : (Int8.ofInt 10).toInt32 = (10 : Int32) := by decide
theorem bp_11 : (Int8.ofInt 11).toInt32 = (11 : Int32) := by decide
theorem bp_12 : (Int8.ofInt 12).toInt32 = (12 : Int32) := by decide
theorem bp_13 : (Int8.ofInt 13).toInt32 = (13 : Int32) := by decide
theorem bp_14 : (Int8.ofInt 14).toInt32 = (14 : Int32) := by decide
theorem bp_15 : (Int8.ofInt 15).toInt32 = (15 : Int32) := by decide
theorem bp_16 : (Int8.ofInt 16).toInt32 = (16 : Int32) := by decide
theorem bp_17 : (Int8.ofInt 17).toInt32 = (17 : Int32) := by decide
theorem bp_18 : (Int8.ofInt 18).toInt32 = (18 : Int32) := by decide
theorem bp_19 : (Int8.ofInt 19).toInt32 = (19 : Int32) := by decide
theorem bp_20 : (Int8.ofInt 20).toInt32 = (20 : Int32) := by decide
theorem bp_21 : (Int8.ofInt 21).toInt32 = (21 : Int32) := by decide
theorem bp_22 : (Int8.ofInt 22).toInt32 = (22 : Int32) := by decide
theorem bp_23 : (Int8.ofInt 23).toInt32 = (23 : Int32) := by decide
theorem bp_24 : (Int8.ofInt 24).toInt32 = (24 : Int32) := by decide
theorem bp_25 : (Int8.ofInt 25).toInt32 = (25 : Int32) := by decide
theorem bp_26 : (Int8.ofInt 26).toInt32 = (26 : Int32) := by decide
theorem bp_27 : (Int8.ofInt 27).toInt32 = (27 : Int32) := by decide
theorem bp_28 : (Int8.ofInt 28).toInt32 = (28 : Int32) := by decide
theorem bp_29 : (Int8.ofInt 29).toInt32 = (29 : Int32) := by decide
theorem bp_31 : (Int8.ofInt 31).toInt32 = (31 : Int32) := by decide
theorem bp_32 : (Int8.ofInt 32).toInt32 = (32 : Int32) := by decide
theorem bp_33 : (Int8.ofInt 33).toInt32 = (33 : Int32) := by decide
theorem bp_34 : (Int8.ofInt 34).toInt32 = (34 : Int32) := by decide
theorem bp_35 : (Int8.ofInt 35).toInt32 = (35 : Int32) := by decide
theorem bp_36 : (Int8.ofInt 36).toInt32 = (36 : Int32) := by decide
theorem bp_37 : (Int8.ofInt 37).toInt32 = (37 : Int32) := by decide
theorem bp_42 : (Int8.ofInt 42).toInt32 = (42 : Int32) := by decide
theorem bp_43 : (Int8.ofInt 43).toInt32 = (43 : Int32) := by decide
theorem bp_44 : (Int8.ofInt 44).toInt32 = (44 : Int32) := by decide
theorem bp_45 : (Int8.ofInt 45).toInt32 = (45 : Int32) := by decide
theorem bp_48 : (Int8.ofInt 48).toInt32 = (48 : Int32) := by decide
theorem bp_50 : (Int8.ofInt 50).toInt32 = (50 : Int32) := by decide
theorem bp_57 : (Int8.ofInt 57).toInt32 = (57 : Int32) := by decide
theorem bp_59 : (Int8.ofInt 59).toInt32 = (59 : Int32) := by decide
theorem bp_60 : (Int8.ofInt 60).toInt32 = (60 : Int32) := by decide
theorem bp_61 : (Int8.ofInt 61).toInt32 = (61 : Int32) := by decide
theorem bp_62 : (Int8.ofInt 62).toInt32 = (62 : Int32) := by decide
theorem bp_80 : (Int8.ofInt 80).toInt32 = (80 : Int32) := by decide
theorem bp_97 : (Int8.ofInt 97).toInt32 = (97 : Int32) := by decide
theorem bp_99 : (Int8.ofInt 99).toInt32 = (99 : Int32) := by decide
theorem bp_100 : (Int8.ofInt 100).toInt32 = (100 : Int32) := by decide
theorem bp_122 : (Int8.ofInt 122).toInt32 = (122 : Int32) := by decide
theorem bp_123 : (Int8.ofInt 123).toInt32 = (123 : Int32) := by decide
theorem bp_125 : (Int8.ofInt 125).toInt32 = (125 : Int32) := by decide
theorem ic_m1 : Int32.ofInt (-1) = (-1 : Int32) := by decide
theorem ic_0 : Int32.ofInt 0 = (0 : Int32) := by decide
theorem ic_1 : Int32.ofInt 1 = (1 : Int32) := by decide
theorem ic_2 : Int32.ofInt 2 = (2 : Int32) := by decide
theorem ic_3 : Int32.ofInt 3 = (3 : Int32) := by decide
theorem ic_4 : Int32.ofInt 4 = (4 : Int32) := by decide
theorem ic_5 : Int32.ofInt 5 = (5 : Int32) := by decide
theorem lk_0 : Int64.ofNat ((0 : Fin 2) : Nat) = (0 : Int64) := by decide
theorem sp_m1006 : (Int16.ofInt (-1006)).toInt32 = (-1006 : Int32) := by decide
theorem sp_m1005 : (Int16.ofInt (-1005)).toInt32 = (-1005 : Int32) := by decide
theorem sp_m1004 : (Int16.ofInt (-1004)).toInt32 = (-1004 : Int32) := by decide
theorem sp_m1003 : (Int16.ofInt (-1003)).toInt32 = (-1003 : Int32) := by decide
theorem sp_m1002 : (Int16.ofInt (-1002)).toInt32 = (-1002 : Int32) := by decide
theorem sp_m1001 : (Int16.ofInt (-1001)).toInt32 = (-1001 : Int32) := by decide
theorem sp_m1000 : (Int16.ofInt (-1000)).toInt32 = (-1000 : Int32) := by decide
theorem sp_204 : (Int16.ofInt 204).toInt32 = (204 : Int32) := by decide
theorem sp_208 : (Int16.ofInt 208).toInt32 = (208 : Int32) := by decide
theorem sp_212 : (Int16.ofInt 212).toInt32 = (212 : Int32) := by decide
theorem sp_255 : (Int16.ofInt 255).toInt32 = (255 : Int32) := by decide
theorem sp_400 : (Int16.ofInt 400).toInt32 = (400 : Int32) := by decide
theorem sp_401 : (Int16.ofInt 401).toInt32 = (401 : Int32) := by decide
theorem sp_424 : (Int16.ofInt 424).toInt32 = (424 : Int32) := by decide
theorem sp_800 : (Int16.ofInt 800).toInt32 = (800 : Int32) := by decide
theorem sp_801 : (Int16.ofInt 801).toInt32 = (801 : Int32) := by decide
theorem sp_999 : (Int16.ofInt 999).toInt32 = (999 : Int32) := by decide
theorem sp_1000 : (Int16.ofInt 1000).toInt32 = (1000 : Int32) := by decide
theorem sp_2000 : (Int16.ofInt 2000).toInt32 = (2000 : Int32) := by decide
theorem sp_4800 : (Int16.ofInt 4800).toInt32 = (4800 : Int32) := by decide
