/-! ===== constructors: ToyPitch ===== -/
section CT7
variable {Q : Po} {M : Mem} {l : List SC} {rs0 rs8 : List (Option Nat)} {i q n1 n2 : Nat}
def wlB (m : Nat) (l : List SC) : Bool := l.all (fun c => c.2.2.all (fun r => match r with | none => true | some b => decide (b < m)))
theorem wlB_ok {m : Nat} {l : List SC} (h : wlB m l = true) : wl m l := by
  have key : ∀ l : List SC, (∀ c ∈ l, ∀ b, some b ∈ c.2.2 → b < m) → wl m l := by
    intro l
    induction l with
    | nil => intro _; trivial
    | cons c l ih => intro h; exact ⟨wr_iff (h c List.mem_cons_self), ih (fun d hd => h d (List.mem_cons_of_mem _ hd))⟩
  refine key l (fun c hc b hb => ?_)
  have h1 := List.all_eq_true.mp h c hc
  have h2 := List.all_eq_true.mp h1 (some b) hb
  exact of_decide_eq_true h2
theorem wf0 : WfS [] := fun c hc => absurd hc (by simp)
theorem n0 : ([] : List SC).length = 0 := rfl
theorem zq_of {M : Mem} {q : Nat} (h : Zm q M) : zq M q := h q (Nat.le_refl _)
theorem prog_it (h0 : l[0]? = some (9 + 7, 0, rs0)) (hf : rs0.getD 2 none = some 8) (h8 : l[8]? = some (3, 6, rs8)) (hr : rs8.length = 6) (hi : i < 6) (hq : l.length = q) (h10 : 10 < q) (hw : wl (0 + l.length) l) (hz : Zm q M) (hm : n1 + 15 ≤ 241 ∧ n2 + 4232 ≤ 30047) (hE : WP m_X10_init Q 83 [some (.ref 0), some (.int (nI (i + 1)))] [] ([] ++ (l ++ B_X3 q).set 8 (3, 6, rs8.set i (some q))) (M) (n1 + 1 + 14) (n2 + 20 + 4212)) : WP m_X10_init Q 83 [some (.ref 0), some (.int (nI i))] [] ([] ++ l) M n1 n2 := by
  have hlt : ∀ x : Nat, x < q → x < 0 + l.length := fun x hx => by omega
  have hlt2 : ∀ x : Nat, x < q + 1 → x < 0 + (l ++ [((3 + 7, 0, List.replicate 20 none) : SC)]).length := fun x hx => by rw [List.length_append]; show x < 0 + (l.length + 1); omega
  have k0 : kd ([] ++ l) 0 = some (9 + 7, 0) := kd_app (i := 0) n0 rfl h0
  have f0 : rf ([] ++ l) 0 2 = some 8 := rf_app (i := 0) n0 rfl h0 hf
  have k8 : kd ([] ++ l) 8 = some (3, 6) := kd_app (i := 8) n0 (Nat.zero_add _) h8
  refine r_iload_n e_X10_init_83 rfl ?_
  refine r_aload_n e_X10_init_84 rfl ?_
  refine r_getR e_X10_init_85 fl_X10_22 k0 f0 ?_
  refine r_alen (v := (6 : Int32)) (t := 3) e_X10_init_88 k8 (by decide) rfl ?_
  refine r_icmp_ge e_X10_init_89 (fun hh => absurd hh (nI_ge (b := 6) hi (by decide))) (fun _ => ?_)
  refine r_aload_n e_X10_init_92 rfl ?_
  refine r_getR e_X10_init_93 fl_X10_22 k0 f0 ?_
  refine r_iload_n e_X10_init_96 rfl ?_
  refine c_newobj (c := 3) (N := 20) (q := q) (l' := l ++ [(3 + 7, 0, List.replicate 20 none)]) n0 e_X10_init_97 nw_X10_20 wf0 hw ⟨hlt 0 (by omega), trivial, trivial⟩ ⟨trivial, hlt 8 (by omega), trivial⟩ (by omega) (zq_of hz) ⟨by show n1 + 1 ≤ 241; omega, by show n2 + 20 ≤ 30047; omega⟩ rfl ?_
  refine r_dup e_X10_init_100 rfl ?_
  refine c_ctorN (ls := [some (.ref 0), some (.int (nI i))]) (st := [.ref q, .int (nI i), .ref 8]) (l0 := l) (o := (3 + 7, 0, List.replicate 20 none)) (B := B_X3 q) (l' := l ++ B_X3 q) (M1 := M) (As := []) (m1 := 14) (m2 := 4212) n0 e_X10_init_101 cl_X10_58 ⟨Nat.le_of_ble_eq_true rfl, Nat.le_of_ble_eq_true rfl⟩ ⟨rfl, rfl⟩ rfl (Nat.le_of_ble_eq_true rfl) (S_X3_init (n := q) hq (wf_app wf0 n0 hw) hz) rfl rfl ⟨hlt2 0 (by omega), trivial, trivial⟩ ⟨hlt2 q (by omega), trivial, hlt2 8 (by omega), trivial⟩ rfl ⟨by show n1 + 1 + 14 ≤ 241; omega, by show n2 + 20 + 4212 ≤ 30047; omega⟩ ?_
  have ha : ([] ++ (l ++ B_X3 q))[8]? = some (3, 6, rs8) := by rw [List.nil_append, List.getElem?_append_left (by omega)]; exact h8
  have hb : ∃ rsb, ([] ++ (l ++ B_X3 q))[q]? = some (3 + 7, 0, rsb) := ⟨_, by rw [List.nil_append, List.getElem?_append_right (by omega), hq, Nat.sub_self]; rfl⟩
  obtain ⟨rsb, hb⟩ := hb
  have hcl : (nI i).toNatClampNeg = i := nI_clamp (by omega)
  refine r_aastore (t := 3) (n := 6) (ci := 3) e_X10_init_104 ⟨by decide, by decide⟩ ha hr hb rfl rfl (in_nI hi (by decide)) ?_
  rw [hcl]
  refine p_iinc_2_1 e_X10_init_105 rfl ic_1 rfl ?_
  rw [nI_1 i]
  refine r_goto e_X10_init_108 ?_
  exact hE
theorem team_it (h0 : l[0]? = some (9 + 7, 0, rs0)) (hf : rs0.getD 3 none = some 9) (h8 : l[9]? = some (4, 4, rs8)) (hr : rs8.length = 4) (hi : i < 4) (hq : l.length = q) (h10 : 10 < q) (hw : wl (0 + l.length) l) (hz : Zm q M) (hm : n1 + 4 ≤ 241 ∧ n2 + 20 ≤ 30047) (hE : WP m_X10_init Q 113 [some (.ref 0), some (.int (nI (i + 1)))] [] ([] ++ (l ++ B_X8 q).set 9 (4, 4, rs8.set i (some q))) (tMl q 5 0 M) (n1 + 1 + 3) (n2 + 5 + 15)) : WP m_X10_init Q 113 [some (.ref 0), some (.int (nI i))] [] ([] ++ l) M n1 n2 := by
  have hlt : ∀ x : Nat, x < q → x < 0 + l.length := fun x hx => by omega
  have hlt2 : ∀ x : Nat, x < q + 1 → x < 0 + (l ++ [((8 + 7, 0, List.replicate 5 none) : SC)]).length := fun x hx => by rw [List.length_append]; show x < 0 + (l.length + 1); omega
  have k0 : kd ([] ++ l) 0 = some (9 + 7, 0) := kd_app (i := 0) n0 rfl h0
  have f0 : rf ([] ++ l) 0 3 = some 9 := rf_app (i := 0) n0 rfl h0 hf
  have k8 : kd ([] ++ l) 9 = some (4, 4) := kd_app (i := 9) n0 (Nat.zero_add _) h8
  refine r_iload_n e_X10_init_113 rfl ?_
  refine r_aload_n e_X10_init_114 rfl ?_
  refine r_getR e_X10_init_115 fl_X10_28 k0 f0 ?_
  refine r_alen (v := (4 : Int32)) (t := 4) e_X10_init_118 k8 (by decide) rfl ?_
  refine r_icmp_ge e_X10_init_119 (fun hh => absurd hh (nI_ge (b := 4) hi (by decide))) (fun _ => ?_)
  refine r_aload_n e_X10_init_122 rfl ?_
  refine r_getR e_X10_init_123 fl_X10_28 k0 f0 ?_
  refine r_iload_n e_X10_init_126 rfl ?_
  refine c_newobj (c := 8) (N := 5) (q := q) (l' := l ++ [(8 + 7, 0, List.replicate 5 none)]) n0 e_X10_init_127 nw_X10_26 wf0 hw ⟨hlt 0 (by omega), trivial, trivial⟩ ⟨trivial, hlt 9 (by omega), trivial⟩ (by omega) (zq_of hz) ⟨by show n1 + 1 ≤ 241; omega, by show n2 + 5 ≤ 30047; omega⟩ rfl ?_
  refine r_dup e_X10_init_130 rfl ?_
  refine c_ctor (ls := [some (.ref 0), some (.int (nI i))]) (st := [.ref q, .int (nI i), .ref 9]) (l0 := l) (o := (8 + 7, 0, List.replicate 5 none)) (B := B_X8 q) (l' := l ++ B_X8 q) (M1 := tMl q 5 0 M) (As := []) (m1 := 3) (m2 := 15) n0 e_X10_init_131 cl_X10_59 ⟨Nat.le_of_ble_eq_true rfl, Nat.le_of_ble_eq_true rfl⟩ ⟨rfl, rfl⟩ rfl (Nat.le_of_ble_eq_true rfl) (S_X8_init (n := q) hq (wf_app wf0 n0 hw) hz) rfl rfl ⟨hlt2 0 (by omega), trivial, trivial⟩ ⟨hlt2 q (by omega), trivial, hlt2 9 (by omega), trivial⟩ rfl ⟨by show n1 + 1 + 3 ≤ 241; omega, by show n2 + 5 + 15 ≤ 30047; omega⟩ ?_
  have ha : ([] ++ (l ++ B_X8 q))[9]? = some (4, 4, rs8) := by rw [List.nil_append, List.getElem?_append_left (by omega)]; exact h8
  have hb : ∃ rsb, ([] ++ (l ++ B_X8 q))[q]? = some (8 + 7, 0, rsb) := ⟨_, by rw [List.nil_append, List.getElem?_append_right (by omega), hq, Nat.sub_self]; rfl⟩
  obtain ⟨rsb, hb⟩ := hb
  have hcl : (nI i).toNatClampNeg = i := nI_clamp (by omega)
  refine r_aastore (t := 4) (n := 4) (ci := 8) e_X10_init_134 ⟨by decide, by decide⟩ ha hr hb rfl rfl (in_nI hi (by decide)) ?_
  rw [hcl]
  refine p_iinc_2_1 e_X10_init_135 rfl ic_1 rfl ?_
  rw [nI_1 i]
  refine r_goto e_X10_init_138 ?_
  exact hE
theorem kept_it (h0 : l[0]? = some (9 + 7, 0, rs0)) (hf : rs0.getD 6 none = some 10) (h8 : l[10]? = some (5, 2, rs8)) (hr : rs8.length = 2) (hi : i < 2) (hq : l.length = q) (h10 : 10 < q) (hw : wl (0 + l.length) l) (hz : Zm q M) (hg3 : rs0.getD 3 none = some 9) (hg2 : rs0.getD 2 none = some 8) (hm : n1 + 30 ≤ 241 ∧ n2 + 321 ≤ 30047) (hE : WP m_X10_init Q 181 [some (.ref 0), some (.int (nI (i + 1)))] [] ([] ++ (l ++ mL q 10).set 10 (5, 2, rs8.set i (some q))) (mM q M) (n1 + 1 + 29) (n2 + 10 + 311)) : WP m_X10_init Q 181 [some (.ref 0), some (.int (nI i))] [] ([] ++ l) M n1 n2 := by
  have hlt : ∀ x : Nat, x < q → x < 0 + l.length := fun x hx => by omega
  have hlt2 : ∀ x : Nat, x < q + 1 → x < 0 + (l ++ [((2 + 7, 0, List.replicate 10 none) : SC)]).length := fun x hx => by rw [List.length_append]; show x < 0 + (l.length + 1); omega
  have k0 : kd ([] ++ l) 0 = some (9 + 7, 0) := kd_app (i := 0) n0 rfl h0
  have f0 : rf ([] ++ l) 0 6 = some 10 := rf_app (i := 0) n0 rfl h0 hf
  have k8 : kd ([] ++ l) 10 = some (5, 2) := kd_app (i := 10) n0 (Nat.zero_add _) h8
  refine r_iload_n e_X10_init_181 rfl ?_
  refine r_aload_n e_X10_init_182 rfl ?_
  refine r_getR e_X10_init_183 fl_X10_34 k0 f0 ?_
  refine r_alen (v := (2 : Int32)) (t := 5) e_X10_init_186 k8 (by decide) rfl ?_
  refine r_icmp_ge e_X10_init_187 (fun hh => absurd hh (nI_ge (b := 2) hi (by decide))) (fun _ => ?_)
  refine r_aload_n e_X10_init_190 rfl ?_
  refine r_getR e_X10_init_191 fl_X10_34 k0 f0 ?_
  refine r_iload_n e_X10_init_194 rfl ?_
  refine c_newobj (c := 2) (N := 10) (q := q) (l' := l ++ [(2 + 7, 0, List.replicate 10 none)]) n0 e_X10_init_195 nw_X10_32 wf0 hw ⟨hlt 0 (by omega), trivial, trivial⟩ ⟨trivial, hlt 10 (by omega), trivial⟩ (by omega) (zq_of hz) ⟨by show n1 + 1 ≤ 241; omega, by show n2 + 10 ≤ 30047; omega⟩ rfl ?_
  refine r_dup e_X10_init_198 rfl ?_
  have g0 : (l ++ [((2 + 7, 0, List.replicate 10 none) : SC)])[0]? = some (9 + 7, 0, rs0) := by rw [List.getElem?_append_left (by omega)]; exact h0
  have kk0 : kd ([] ++ (l ++ [(2 + 7, 0, List.replicate 10 none)])) 0 = some (9 + 7, 0) := kd_app (i := 0) n0 rfl g0
  refine r_aload_n e_X10_init_199 rfl ?_
  refine r_getR (b := 9) e_X10_init_200 fl_X10_28 kk0 (rf_app (i := 0) n0 rfl g0 hg3) ?_
  refine r_aload_n e_X10_init_203 rfl ?_
  refine r_getR (b := 8) e_X10_init_204 fl_X10_22 kk0 (rf_app (i := 0) n0 rfl g0 hg2) ?_
  refine c_ctor (ls := [some (.ref 0), some (.int (nI i))]) (st := [.ref q, .int (nI i), .ref 10]) (l0 := l) (o := (2 + 7, 0, List.replicate 10 none)) (B := mL q 10) (l' := l ++ mL q 10) (M1 := mM q M) (As := [.ref 9, .ref 8]) (m1 := 29) (m2 := 311) n0 e_X10_init_207 cl_X10_60 ⟨Nat.le_of_ble_eq_true rfl, Nat.le_of_ble_eq_true rfl⟩ ⟨rfl, rfl⟩ rfl (Nat.le_of_ble_eq_true rfl) (S_X2_init (n := q) hq (wf_app wf0 n0 hw) hz (by omega)) rfl rfl ⟨hlt2 0 (by omega), trivial, trivial⟩ ⟨hlt2 q (by omega), trivial, hlt2 10 (by omega), trivial⟩ rfl ⟨by show n1 + 1 + 29 ≤ 241; omega, by show n2 + 10 + 311 ≤ 30047; omega⟩ ?_
  have ha : ([] ++ (l ++ mL q 10))[10]? = some (5, 2, rs8) := by rw [List.nil_append, List.getElem?_append_left (by omega)]; exact h8
  have hb : ∃ rsb, ([] ++ (l ++ mL q 10))[q]? = some (2 + 7, 0, rsb) := ⟨_, by rw [List.nil_append, List.getElem?_append_right (by omega), hq, Nat.sub_self]; rfl⟩
  obtain ⟨rsb, hb⟩ := hb
  have hcl : (nI i).toNatClampNeg = i := nI_clamp (by omega)
  refine r_aastore (t := 5) (n := 2) (ci := 2) e_X10_init_210 ⟨by decide, by decide⟩ ha hr hb rfl rfl (in_nI hi (by decide)) ?_
  rw [hcl]
  refine p_iinc_2_1 e_X10_init_211 rfl ic_1 rfl ?_
  rw [nI_1 i]
  refine r_goto e_X10_init_214 ?_
  exact hE
end CT7
