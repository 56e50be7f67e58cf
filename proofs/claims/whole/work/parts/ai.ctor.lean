/-! ===== constructors: shapes of the form sh0 ++ l ===== -/
section CTR
/-- every reference in l is below m -/
def wr (m : Nat) : List (Option Nat) → Prop
  | [] => True
  | none :: r => wr m r
  | some b :: r => b < m ∧ wr m r
def wl (m : Nat) : List SC → Prop
  | [] => True
  | c :: l => wr m c.2.2 ∧ wl m l
theorem wr_of {m : Nat} : ∀ {r : List (Option Nat)}, wr m r → ∀ b, some b ∈ r → b < m
  | [], _, b, hb => absurd hb (by simp)
  | none :: r, h, b, hb => by
    rcases List.mem_cons.mp hb with q | q
    · cases q
    · exact wr_of (r := r) h b q
  | some x :: r, h, b, hb => by
    rcases List.mem_cons.mp hb with q | q
    · cases q; exact h.1
    · exact wr_of (r := r) h.2 b q
theorem wl_of {m : Nat} : ∀ {l : List SC}, wl m l → ∀ c ∈ l, ∀ b, some b ∈ c.2.2 → b < m
  | [], _, c, hc, b, _ => absurd hc (by simp)
  | x :: l, h, c, hc, b, hb => by
    rcases List.mem_cons.mp hc with q | q
    · subst q; exact wr_of h.1 b hb
    · exact wl_of (l := l) h.2 c q b hb
theorem wf_app {sh0 l : List SC} {n : Nat} (h : WfS sh0) (hn : sh0.length = n) (hl : wl (n + l.length) l) : WfS (sh0 ++ l) := by
  intro c hc b hb
  rw [List.length_append, hn]
  rcases List.mem_append.mp hc with q | q
  · have := h c q b hb
    omega
  · exact wl_of hl c q b hb
/-- values name cells below m -/
def vP (m : Nat) : Value → Prop
  | .ref a => a < m
  | _ => True
def vsP (m : Nat) : List Value → Prop
  | [] => True
  | v :: l => vP m v ∧ vsP m l
def lsP (m : Nat) : List (Option Value) → Prop
  | [] => True
  | none :: l => lsP m l
  | some v :: l => vP m v ∧ lsP m l
theorem vP_ok {m : Nat} {v : Value} (h : vP m v) : vOk m v = true := by
  cases v with
  | ref a => exact decide_eq_true (show a < m from h)
  | _ => rfl
theorem vsP_ok {m : Nat} : ∀ {l : List Value}, vsP m l → ∀ v ∈ l, vOk m v = true
  | [], _, v, hv => absurd hv (by simp)
  | x :: l, h, v, hv => by
    rcases List.mem_cons.mp hv with q | q
    · subst q; exact vP_ok h.1
    · exact vsP_ok (l := l) h.2 v q
theorem lsP_ok {m : Nat} : ∀ {l : List (Option Value)}, lsP m l → ∀ o ∈ l, ∀ v, o = some v → vOk m v = true
  | [], _, o, ho, v, _ => absurd ho (by simp)
  | none :: l, h, o, ho, v, hv => by
    rcases List.mem_cons.mp ho with q | q
    · rw [q] at hv; cases hv
    · exact lsP_ok (l := l) h o q v hv
  | some x :: l, h, o, ho, v, hv => by
    rcases List.mem_cons.mp ho with q | q
    · rw [q] at hv; cases hv; exact vP_ok h.1
    · exact lsP_ok (l := l) h.2 o q v hv
/-- from cell n on the memory is 0 -/
def Zm (n : Nat) (M : Mem) : Prop := ∀ c, n ≤ c → ∀ j, M.1 c j = 0 ∧ M.2 c j = 0
def zq (M : Mem) (q : Nat) : Prop := ∀ j, M.1 q j = 0 ∧ M.2 q j = 0
theorem zq.setI {M : Mem} {q a i : Nat} {v : Int32} (h : zq M q) (hq : q ≠ a) : zq (setI M a i v) q := fun j => ⟨by rw [gI (Or.inl hq)]; exact (h j).1, (h j).2⟩
theorem Zm.setI {M : Mem} {n a i : Nat} {v : Int32} (h : Zm n M) (hq : a < n) : Zm n (setI M a i v) := fun c hc j => ⟨by rw [gI (Or.inl (by omega))]; exact (h c hc j).1, (h c hc j).2⟩
theorem Zm.mono {M : Mem} {n m : Nat} (h : Zm n M) (hq : n ≤ m) : Zm m M := fun c hc j => h c (by omega) j
theorem setI_same {M : Mem} {a j : Nat} {v : Int32} (h : M.1 a j = v) : setI M a j v = M := by
  refine Prod.ext ?_ rfl
  funext b i
  show (if b = a ∧ i = j then v else M.1 b i) = M.1 b i
  split
  · rename_i q; obtain ⟨rfl, rfl⟩ := q; exact h.symm
  · rfl
theorem setJ_same {M : Mem} {a j : Nat} {v : Int64} (h : M.2 a j = v) : setJ M a j v = M := by
  refine Prod.ext rfl ?_
  funext b i
  show (if b = a ∧ i = j then v else M.2 b i) = M.2 b i
  split
  · rename_i q; obtain ⟨rfl, rfl⟩ := q; exact h.symm
  · rfl
theorem at_app {sh0 l : List SC} {n i : Nat} (hn : sh0.length = n) : (sh0 ++ l)[n + i]? = l[i]? := by
  rw [List.getElem?_append_right (by omega), hn, Nat.add_sub_cancel_left]
theorem set_app {sh0 l : List SC} {n i : Nat} {c : SC} (hn : sh0.length = n) : (sh0 ++ l).set (n + i) c = sh0 ++ l.set i c := by
  rw [List.set_append_right _ _ (by omega), hn, Nat.add_sub_cancel_left]
variable {k : MT} {Q : Po} {pc pc' : Nat} {ls : List (Option Value)} {st : List Value} {sh0 l l' : List SC} {M : Mem} {n q n1 n2 : Nat}
theorem kd_app {i t m : Nat} {rs : List (Option Nat)} (hn : sh0.length = n) (hq : n + i = q) (h : l[i]? = some (t, m, rs)) : kd (sh0 ++ l) q = some (t, m) := by
  subst hq
  unfold kd
  rw [at_app hn, h]
theorem c_newarr {t : Nat} {aty : ArrayType} {x : Int32} {N : Nat} (hn : sh0.length = n) (hd : Inx k pc (.newarray aty) 2 pc') (ht : t < 3) (hty : newarray.typeOf aty = tyA t) (harr : Cond.arrayClass (newarray.typeOf aty) ∈ lw_good) (hx : ¬ x < 0) (hN : x.toNatClampNeg = N) (hb : N ≤ 10000) (hw0 : WfS sh0) (hw : wl (n + l.length) l) (hls : lsP (n + l.length) ls) (hst : vsP (n + l.length) st) (hq : n + l.length = q) (hz : zq M q) (hr : n1 + 1 ≤ k.2.2.2.2.2.2.1 ∧ n2 + N ≤ k.2.2.2.2.2.2.2) (hl : l ++ [(t, N, [])] = l')
    (h : WP k Q pc' ls (.ref q :: st) (sh0 ++ l') M (n1 + 1) (n2 + N)) : WP k Q pc ls (.int x :: st) (sh0 ++ l) M n1 n2 := by
  subst hl
  have e : (sh0 ++ l).length = n + l.length := by rw [List.length_append, hn]
  subst hq
  refine r_newarr (t := t) hd ht hty harr hx hN hb (wf_app hw0 hn hw) (lsP_ok (by rw [e]; exact hls)) (vsP_ok (by rw [e]; exact hst)) (by rw [e]; exact hz) hr ?_
  rw [e, List.append_assoc]
  exact h
theorem c_newobj {idx c N : Nat} (hn : sh0.length = n) (hd : Inx k pc (.new idx) 3 pc') (hC : NW k.1.cls idx c N) (hw0 : WfS sh0) (hw : wl (n + l.length) l) (hls : lsP (n + l.length) ls) (hst : vsP (n + l.length) st) (hq : n + l.length = q) (hz : zq M q) (hr : n1 + 1 ≤ k.2.2.2.2.2.2.1 ∧ n2 + N ≤ k.2.2.2.2.2.2.2) (hl : l ++ [(c + 7, 0, List.replicate N none)] = l')
    (h : WP k Q pc' ls (.ref q :: st) (sh0 ++ l') M (n1 + 1) (n2 + N)) : WP k Q pc ls st (sh0 ++ l) M n1 n2 := by
  subst hl
  have e : (sh0 ++ l).length = n + l.length := by rw [List.length_append, hn]
  subst hq
  refine r_newobj (c := c) (N := N) hd hC (wf_app hw0 hn hw) (lsP_ok (by rw [e]; exact hls)) (vsP_ok (by rw [e]; exact hst)) (by rw [e]; exact hz) hr ?_
  rw [e, List.append_assoc]
  exact h
theorem c_anewarr {idx t N : Nat} {R : String} {x : Int32} (hn : sh0.length = n) (hd : Inx k pc (.anewarray idx) 3 pc') (ht : 3 ≤ t ∧ t < 7) (hty : tyA t = .object R) (hlk : Cond.classLink k.1.cls idx R ∈ lw_good) (hx : ¬ x < 0) (hN : x.toNatClampNeg = N) (hb : N ≤ 10000) (hw0 : WfS sh0) (hw : wl (n + l.length) l) (hls : lsP (n + l.length) ls) (hst : vsP (n + l.length) st) (hq : n + l.length = q) (hr : n1 + 1 ≤ k.2.2.2.2.2.2.1 ∧ n2 + N ≤ k.2.2.2.2.2.2.2) (hl : l ++ [(t, N, List.replicate N none)] = l')
    (h : WP k Q pc' ls (.ref q :: st) (sh0 ++ l') M (n1 + 1) (n2 + N)) : WP k Q pc ls (.int x :: st) (sh0 ++ l) M n1 n2 := by
  subst hl
  have e : (sh0 ++ l).length = n + l.length := by rw [List.length_append, hn]
  subst hq
  refine r_anewarr (t := t) hd ht hty hlk hx hN hb (wf_app hw0 hn hw) (lsP_ok (by rw [e]; exact hls)) (vsP_ok (by rw [e]; exact hst)) hr ?_
  rw [e, List.append_assoc]
  exact h
theorem c_putRF {idx c j i a b : Nat} {rs : List (Option Nat)} (hn : sh0.length = n) (hd : Inx k pc (.putfield idx) 3 pc') (hl : FL k.1.cls idx c j 2 true) (hm : k.1.name = "<init>") (ho : (clW[c]?).map (fun q => q.1) = some k.1.cls) (ha : n + i = a) (hk : l[i]? = some (c + 7, 0, rs)) (hr : j < rs.length) (hl' : l.set i (c + 7, 0, rs.set j (some b)) = l') (h : WP k Q pc' ls st (sh0 ++ l') M n1 n2) : WP k Q pc ls (.ref b :: .ref a :: st) (sh0 ++ l) M n1 n2 := by
  subst hl' ha
  refine r_putRF hd hl hm ho ((at_app hn).trans hk) hr ?_
  rw [set_app hn]
  exact h
theorem c_putR {idx c j i a b : Nat} {rs : List (Option Nat)} (hn : sh0.length = n) (hd : Inx k pc (.putfield idx) 3 pc') (hl : FL k.1.cls idx c j 2 false) (ha : n + i = a) (hk : l[i]? = some (c + 7, 0, rs)) (hr : j < rs.length) (hl' : l.set i (c + 7, 0, rs.set j (some b)) = l') (h : WP k Q pc' ls st (sh0 ++ l') M n1 n2) : WP k Q pc ls (.ref b :: .ref a :: st) (sh0 ++ l) M n1 n2 := by
  subst hl' ha
  refine r_putR hd hl ((at_app hn).trans hk) hr ?_
  rw [set_app hn]
  exact h
theorem c_put0 {idx c j i a : Nat} {rs : List (Option Nat)} (hn : sh0.length = n) (hd : Inx k pc (.putfield idx) 3 pc') (hl : FL k.1.cls idx c j 0 false) (ha : n + i = a) (hk : l[i]? = some (c + 7, 0, rs)) (hz : M.1 a j = 0) (h : WP k Q pc' ls st (sh0 ++ l) M n1 n2) : WP k Q pc ls (.int 0 :: .ref a :: st) (sh0 ++ l) M n1 n2 := by
  refine r_putI hd hl (kd_app hn ha hk) ?_
  rw [setI_same hz]; exact h
theorem c_putZ0 {idx c j i a : Nat} {rs : List (Option Nat)} (hn : sh0.length = n) (hd : Inx k pc (.putfield idx) 3 pc') (hl : FL k.1.cls idx c j 3 false) (ha : n + i = a) (hk : l[i]? = some (c + 7, 0, rs)) (hz : M.1 a j = 0) (h : WP k Q pc' ls st (sh0 ++ l) M n1 n2) : WP k Q pc ls (.int 0 :: .ref a :: st) (sh0 ++ l) M n1 n2 := by
  refine r_putZ hd hl (Or.inl rfl) (kd_app hn ha hk) ?_
  rw [setI_same hz]; exact h
theorem c_putJ0 {idx c j i a : Nat} {rs : List (Option Nat)} (hn : sh0.length = n) (hd : Inx k pc (.putfield idx) 3 pc') (hl : FL k.1.cls idx c j 1 false) (ha : n + i = a) (hk : l[i]? = some (c + 7, 0, rs)) (hz : M.2 a j = 0) (h : WP k Q pc' ls st (sh0 ++ l) M n1 n2) : WP k Q pc ls (.long 0 :: .ref a :: st) (sh0 ++ l) M n1 n2 := by
  refine r_putJ hd hl (kd_app hn ha hk) ?_
  rw [setJ_same hz]; exact h
end CTR
