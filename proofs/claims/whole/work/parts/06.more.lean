/-! ===== nest calls, constructors' calls, new cells, final fields, the library's Math and arraycopy ===== -/
section MO
variable {k k' : MT} {Q Qc : Po} {pc pc' : Nat} {ls : List (Option Value)} {st As : List Value} {sh : List SC} {M : Mem} {n1 n2 idx n c a j t : Nat}
theorem r_callSN (hd : Inx k pc (.invokestatic idx) 3 pc') (hC : CSN k.1.cls idx k' n) (hR : Rm k k') (hr : k'.2.2.2.2.2.2.1 = 0 ∧ k'.2.2.2.2.2.2.2 = 0) (hn : As.length = n) (hst : stOk st) (hM : Sp k' As sh M Qc) (hA : Aft k Q Qc pc' ls st sh n1 n2) {st0 : List Value} (hs : st0 = As.reverse ++ st) (hw : n1 ≤ k.2.2.2.2.2.2.1 ∧ n2 ≤ k.2.2.2.2.2.2.2) : WP k Q pc ls st0 sh M n1 n2 := by
  subst hs
  intro p l e s m args below meth cd ad0 ad dC dI dA sz0 H locs la C h0 h1 h2 h3 h4 h5
  obtain ⟨hd, rfl⟩ := hd
  obtain ⟨hC, ⟨host, hl⟩, hi⟩ := hC
  have ht := C.2.2.2.2.2.2.1
  have hrun := va_runSN (As := As.map (cv ad)) (rest := st.map (cv ad)) (g := F0 m pc la ((As.reverse ++ st).map (cv ad))) ⟨C.1, C.2.1, C.2.2.1, C.2.2.2.2.2.1, ht⟩ (hM l ad dC dI dA sz0) ⟨va_cnB (R := roomW k) n ht (lw_goodIn hC.1) rfl rfl rfl (C.2.2.2.2.2.2.2.2.1.1 _ hl rfl) (ht _ hC.2.1) hC.2.2 hR, ht _ hi, trivial⟩ ⟨PcW_blind _ _ _ _ _ _ _ _, pre_ok (As := As) C h1 h2 h3 h4⟩ rfl (by rw [List.length_map]; exact hn) h5.1 (by simp) (lv_room (stOk_cv hst)) hd ⟨by rw [hr.1]; exact hw.1, by rw [hr.2]; exact hw.2⟩ (below := below) (e := e) (meth := meth) (p := p) (locs := locs) (cells := n1) (slots := n2)
  refine call_on (free := Aw sz0) hrun h4 ?_
  intro r sh' M' ad' H1 locs1 g1 g2 g3 g4 g5 g6
  rw [hr.1, hr.2]
  exact hA p l e s m args below meth cd ad0 ad dC dI dA sz0 la C h0 h1 h5 r sh' M' ad' H1 locs1 g1 g2 g3 g4 g5 g6
theorem r_callI {m1 m2 : Nat} (hd : Inx k pc (.invokespecial idx) 3 pc') (hC : CI k.1.cls idx k' n) (hR : Rm k k') (hr : k'.2.2.2.2.2.2.1 = m1 ∧ k'.2.2.2.2.2.2.2 = m2) (hn : As.length = n) (hst : stOk st) (hM : Sp k' (.ref a :: As) sh M Qc) (hA : Aft k Q Qc pc' ls st sh (n1 + m1) (n2 + m2)) {st0 : List Value} (hs : st0 = As.reverse ++ .ref a :: st) (hw : n1 + m1 ≤ k.2.2.2.2.2.2.1 ∧ n2 + m2 ≤ k.2.2.2.2.2.2.2) : WP k Q pc ls st0 sh M n1 n2 := by
  subst hs
  obtain ⟨rfl, rfl⟩ := hr
  intro p l e s m args below meth cd ad0 ad dC dI dA sz0 H locs la C h0 h1 h2 h3 h4 h5
  obtain ⟨hd, rfl⟩ := hd
  obtain ⟨hC, hl, hnm, hi, hret⟩ := hC
  have ht := C.2.2.2.2.2.2.1
  have hM' := hM l ad dC dI dA sz0
  have hcb := callB_ok (k := k) (s := s) (args := args) (idx := idx) hC hR ht hl
  rw [hret] at hM' hcb
  have hrun := va_runI (As := As.map (cv ad)) (rest := st.map (cv ad)) (b := adr ad a) (g := F0 m pc la ((As.reverse ++ .ref a :: st).map (cv ad))) ⟨C.1, C.2.1, C.2.2.1, C.2.2.2.2.2.1, ht⟩ hM' ⟨hcb, hnm, ht _ hi⟩ ⟨PcW_blind _ _ _ _ _ _ _ _, pre_ok (As := .ref a :: As) C h1 h2 h3 h4⟩ rfl (by rw [List.length_map]; exact hn) h5.1 (by simp [cv]) (lv_room (stOk_cv hst)) hd hw (below := below) (e := e) (meth := meth) (p := p) (locs := locs) (cells := n1) (slots := n2)
  refine call_on (free := Aw sz0) hrun h4 ?_
  intro r sh' M' ad' H1 locs1 g1 g2 g3 g4 g5 g6
  exact hA p l e s m args below meth cd ad0 ad dC dI dA sz0 la C h0 h1 h5 r sh' M' ad' H1 locs1 g1 g2 g3 g4 g5 g6
theorem r_callIN {m1 m2 : Nat} (hd : Inx k pc (.invokespecial idx) 3 pc') (hC : CIN k.1.cls idx k' n) (hR : Rm k k') (hr : k'.2.2.2.2.2.2.1 = m1 ∧ k'.2.2.2.2.2.2.2 = m2) (hn : As.length = n) (hst : stOk st) (hM : Sp k' (.ref a :: As) sh M Qc) (hA : Aft k Q Qc pc' ls st sh (n1 + m1) (n2 + m2)) {st0 : List Value} (hs : st0 = As.reverse ++ .ref a :: st) (hw : n1 + m1 ≤ k.2.2.2.2.2.2.1 ∧ n2 + m2 ≤ k.2.2.2.2.2.2.2) : WP k Q pc ls st0 sh M n1 n2 := by
  subst hs
  obtain ⟨rfl, rfl⟩ := hr
  intro p l e s m args below meth cd ad0 ad dC dI dA sz0 H locs la C h0 h1 h2 h3 h4 h5
  obtain ⟨hd, rfl⟩ := hd
  obtain ⟨hC, ⟨host, hl⟩, hnm, hi, hret⟩ := hC
  have ht := C.2.2.2.2.2.2.1
  have hM' := hM l ad dC dI dA sz0
  have hcb := va_cnB (own := k.1.cls) (index := idx) (R := roomW k) (args := args) (rm := roomW k') n ht (lw_goodIn hC.1) rfl rfl rfl (C.2.2.2.2.2.2.2.2.1.1 _ hl rfl) (ht _ hC.2.1) hC.2.2 hR
  rw [hret] at hM' hcb
  have hrun := va_runIN (As := As.map (cv ad)) (rest := st.map (cv ad)) (b := adr ad a) (g := F0 m pc la ((As.reverse ++ .ref a :: st).map (cv ad))) ⟨C.1, C.2.1, C.2.2.1, C.2.2.2.2.2.1, ht⟩ hM' ⟨hcb, hnm, ht _ hi⟩ ⟨PcW_blind _ _ _ _ _ _ _ _, pre_ok (As := .ref a :: As) C h1 h2 h3 h4⟩ rfl (by rw [List.length_map]; exact hn) h5.1 (by simp [cv]) (lv_room (stOk_cv hst)) hd hw (below := below) (e := e) (meth := meth) (p := p) (locs := locs) (cells := n1) (slots := n2)
  refine call_on (free := Aw sz0) hrun h4 ?_
  intro r sh' M' ad' H1 locs1 g1 g2 g3 g4 g5 g6
  exact hA p l e s m args below meth cd ad0 ad dC dI dA sz0 la C h0 h1 h5 r sh' M' ad' H1 locs1 g1 g2 g3 g4 g5 g6
/-- the library's Math over ints -/
def mathOk (own : String) (idx : Nat) (y : MethodName) (b : ByteArray) (n : Nat) : Prop := Cond.methodLink own idx y ∈ lw_good ∧ Cond.static y ∈ lw_good ∧ Cond.initialized "java/lang/Math" ∈ lw_good ∧ Cond.code y b n (some .int) ∈ lw_good
/-- room for a small call, nothing made so far -/
abbrev Rs (k : MT) (n1 n2 : Nat) : Prop := 1 ≤ k.2.2.2.2.1 ∧ 8 + 13 ≤ k.2.2.2.2.2.1 ∧ n1 ≤ k.2.2.2.2.2.2.1 ∧ n2 ≤ k.2.2.2.2.2.2.2
theorem r_mmax {x y : Int32} (hd : Inx k pc (.invokestatic idx) 3 pc') (hC : mathOk k.1.cls idx Lib.Math.max.name Lib.Math.max.code 2) (hR : Rs k n1 n2) (hst : stOk st) (h : WP k Q pc' ls (.int (if x < y then y else x) :: st) sh M n1 n2) : WP k Q pc ls (.int y :: .int x :: st) sh M n1 n2 := by
  intro p l e s m args below meth cd ad0 ad dC dI dA sz0 H locs la C h0 h1 h2 h3 h4 h5
  obtain ⟨hd, rfl⟩ := hd
  have ht := C.2.2.2.2.2.2.1
  exact va_mmax C.1 C.2.1 (C.2.2.1.trans h5.1.symm) C.2.2.2.2.2.1 (ht _ hC.1) (ht _ hC.2.1) (ht _ hC.2.2.1) (ht _ hC.2.2.2) hR.1 (Nat.le_trans (Nat.add_le_add_right (stOk_cv hst) 13) hR.2.1) hR.2.2.1 hR.2.2.2 hd (h p l e s m args below meth cd ad0 ad dC dI dA sz0 H locs la C h0 h1 h2 h3 h4 h5)
theorem r_mmin {x y : Int32} (hd : Inx k pc (.invokestatic idx) 3 pc') (hC : mathOk k.1.cls idx Lib.Math.min.name Lib.Math.min.code 2) (hR : Rs k n1 n2) (hst : stOk st) (h : WP k Q pc' ls (.int (if y < x then y else x) :: st) sh M n1 n2) : WP k Q pc ls (.int y :: .int x :: st) sh M n1 n2 := by
  intro p l e s m args below meth cd ad0 ad dC dI dA sz0 H locs la C h0 h1 h2 h3 h4 h5
  obtain ⟨hd, rfl⟩ := hd
  have ht := C.2.2.2.2.2.2.1
  exact va_mmin C.1 C.2.1 (C.2.2.1.trans h5.1.symm) C.2.2.2.2.2.1 (ht _ hC.1) (ht _ hC.2.1) (ht _ hC.2.2.1) (ht _ hC.2.2.2) hR.1 (Nat.le_trans (Nat.add_le_add_right (stOk_cv hst) 13) hR.2.1) hR.2.2.1 hR.2.2.2 hd (h p l e s m args below meth cd ad0 ad dC dI dA sz0 H locs la C h0 h1 h2 h3 h4 h5)
theorem r_mabs {x : Int32} (hd : Inx k pc (.invokestatic idx) 3 pc') (hC : mathOk k.1.cls idx Lib.Math.abs.name Lib.Math.abs.code 1) (hR : Rs k n1 n2) (hst : stOk st) (h : WP k Q pc' ls (.int (if 0 ≤ x then x else 0 - x) :: st) sh M n1 n2) : WP k Q pc ls (.int x :: st) sh M n1 n2 := by
  intro p l e s m args below meth cd ad0 ad dC dI dA sz0 H locs la C h0 h1 h2 h3 h4 h5
  obtain ⟨hd, rfl⟩ := hd
  have ht := C.2.2.2.2.2.2.1
  exact va_mabs C.1 C.2.1 (C.2.2.1.trans h5.1.symm) C.2.2.2.2.2.1 (ht _ hC.1) (ht _ hC.2.1) (ht _ hC.2.2.1) (ht _ hC.2.2.2) hR.1 (Nat.le_trans (Nat.add_le_add (stOk_cv hst) (by decide)) hR.2.1) hR.2.2.1 hR.2.2.2 hd (h p l e s m args below meth cd ad0 ad dC dI dA sz0 H locs la C h0 h1 h2 h3 h4 h5)
end MO
