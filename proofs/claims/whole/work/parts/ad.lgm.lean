/-! ===== the league of the model: the match at hand is another one for a while ===== -/
theorem kd_setO {sh : List SC} {a b t n : Nat} {rs rs' : List (Option Nat)} (h : sh[a]? = some (t, n, rs)) : kd (sh.set a (t, n, rs')) b = kd sh b := by
  unfold kd
  by_cases e : b = a
  · subst e
    have hl : b < sh.length := (List.getElem?_eq_some_iff.mp h).1
    rw [List.getElem?_set_self hl, h]
  · rw [List.getElem?_set_ne (fun q => e q.symm)]
theorem rf_setO {sh : List SC} {a j i t n : Nat} {rs : List (Option Nat)} {r : Option Nat} (h : sh[a]? = some (t, n, rs)) (e : j ≠ i) : rf (sh.set a (t, n, rs.set i r)) a j = rf sh a j := by
  unfold rf
  have hl : a < sh.length := (List.getElem?_eq_some_iff.mp h).1
  rw [List.getElem?_set_self hl, h]
  show (rs.set i r).getD j none = rs.getD j none
  rw [List.getD_eq_getElem?_getD, List.getD_eq_getElem?_getD, List.getElem?_set_ne (fun q => e q.symm)]
theorem rf_setS {sh : List SC} {a i t n : Nat} {rs : List (Option Nat)} {r : Option Nat} (h : sh[a]? = some (t, n, rs)) (hi : i < rs.length) : rf (sh.set a (t, n, rs.set i r)) a i = r := by
  unfold rf
  have hl : a < sh.length := (List.getElem?_eq_some_iff.mp h).1
  rw [List.getElem?_set_self hl]
  show (rs.set i r).getD i none = r
  rw [List.getD_eq_getElem?_getD, List.getElem?_set_self hi]; rfl
theorem rf_len {sh : List SC} {a i t n b : Nat} {rs : List (Option Nat)} (h : sh[a]? = some (t, n, rs)) (hr : rf sh a i = some b) : i < rs.length ∧ rs[i]? = some (some b) := by
  unfold rf at hr
  rw [h] at hr
  have hr : rs.getD i none = some b := hr
  rw [List.getD_eq_getElem?_getD] at hr
  cases e : rs[i]? with
  | none => rw [e] at hr; cases hr
  | some x =>
    rw [e] at hr
    have hr : x = some b := hr
    subst hr
    exact ⟨(List.getElem?_eq_some_iff.mp e).1, rfl⟩
theorem set_back {sh : List SC} {a i t n b : Nat} {rs : List (Option Nat)} {r : Option Nat} (h : sh[a]? = some (t, n, rs)) (hr : rf sh a i = some b) : (sh.set a (t, n, rs.set i r)).set a (t, n, (rs.set i r).set i (some b)) = sh := by
  obtain ⟨h1, h2⟩ := rf_len h hr
  rw [List.set_set, List.set_set]
  have e1 : rs.set i (some b) = rs := by
    apply List.ext_getElem?
    intro j
    by_cases e : j = i
    · subst e; rw [List.getElem?_set_self h1, h2]
    · rw [List.getElem?_set_ne (fun q => e q.symm)]
  rw [e1]
  have hl : a < sh.length := (List.getElem?_eq_some_iff.mp h).1
  apply List.ext_getElem?
  intro j
  by_cases e : j = a
  · subst e; rw [List.getElem?_set_self hl, h]
  · rw [List.getElem?_set_ne (fun q => e q.symm)]
theorem ModelAt.sw {sh : List SC} {mA oA : Nat} {rs : List (Option Nat)} (h : ModelAt sh mA oA) (hs : sh[242]? = some (10 + 7, 0, rs)) : ModelAt (sh.set 242 (10 + 7, 0, rs.set 27 (some oA))) oA oA := by
  have hk : ∀ b, kd (sh.set 242 (10 + 7, 0, rs.set 27 (some oA))) b = kd sh b := fun b => kd_setO hs
  have hr : ∀ j, j ≠ 27 → rf (sh.set 242 (10 + 7, 0, rs.set 27 (some oA))) 242 j = rf sh 242 j := fun j hj => rf_setO hs hj
  have h27 : rf (sh.set 242 (10 + 7, 0, rs.set 27 (some oA))) 242 27 = some oA := rf_setS hs (rf_len hs h.2.2.2.2.2.2.2.2.2.2.2.2.2.2.2.2.2.1).1
  exact ⟨(hk _).trans h.1, (hr _ (by decide)).trans h.2.1, (hr _ (by decide)).trans h.2.2.1, (hr _ (by decide)).trans h.2.2.2.1, (hr _ (by decide)).trans h.2.2.2.2.1, (hr _ (by decide)).trans h.2.2.2.2.2.1, (hr _ (by decide)).trans h.2.2.2.2.2.2.1, (hr _ (by decide)).trans h.2.2.2.2.2.2.2.1, (hr _ (by decide)).trans h.2.2.2.2.2.2.2.2.1, (hr _ (by decide)).trans h.2.2.2.2.2.2.2.2.2.1, (hr _ (by decide)).trans h.2.2.2.2.2.2.2.2.2.2.1, (hr _ (by decide)).trans h.2.2.2.2.2.2.2.2.2.2.2.1, (hr _ (by decide)).trans h.2.2.2.2.2.2.2.2.2.2.2.2.1, (hr _ (by decide)).trans h.2.2.2.2.2.2.2.2.2.2.2.2.2.1, (hr _ (by decide)).trans h.2.2.2.2.2.2.2.2.2.2.2.2.2.2.1, (hr _ (by decide)).trans h.2.2.2.2.2.2.2.2.2.2.2.2.2.2.2.1, (hr _ (by decide)).trans h.2.2.2.2.2.2.2.2.2.2.2.2.2.2.2.2.1, h27, (hr _ (by decide)).trans h.2.2.2.2.2.2.2.2.2.2.2.2.2.2.2.2.2.2.1, (hr _ (by decide)).trans h.2.2.2.2.2.2.2.2.2.2.2.2.2.2.2.2.2.2.2.1, (hr _ (by decide)).trans h.2.2.2.2.2.2.2.2.2.2.2.2.2.2.2.2.2.2.2.2.1, (hr _ (by decide)).trans h.2.2.2.2.2.2.2.2.2.2.2.2.2.2.2.2.2.2.2.2.2.1, (hr _ (by decide)).trans h.2.2.2.2.2.2.2.2.2.2.2.2.2.2.2.2.2.2.2.2.2.2.1, (hr _ (by decide)).trans h.2.2.2.2.2.2.2.2.2.2.2.2.2.2.2.2.2.2.2.2.2.2.2.1, (hr _ (by decide)).trans h.2.2.2.2.2.2.2.2.2.2.2.2.2.2.2.2.2.2.2.2.2.2.2.2.1, (hr _ (by decide)).trans h.2.2.2.2.2.2.2.2.2.2.2.2.2.2.2.2.2.2.2.2.2.2.2.2.2.1, (hr _ (by decide)).trans h.2.2.2.2.2.2.2.2.2.2.2.2.2.2.2.2.2.2.2.2.2.2.2.2.2.2.1, (hk _).trans h.2.2.2.2.2.2.2.2.2.2.2.2.2.2.2.2.2.2.2.2.2.2.2.2.2.2.2.1, (hk _).trans h.2.2.2.2.2.2.2.2.2.2.2.2.2.2.2.2.2.2.2.2.2.2.2.2.2.2.2.2.1, (hk _).trans h.2.2.2.2.2.2.2.2.2.2.2.2.2.2.2.2.2.2.2.2.2.2.2.2.2.2.2.2.2.1, (hk _).trans h.2.2.2.2.2.2.2.2.2.2.2.2.2.2.2.2.2.2.2.2.2.2.2.2.2.2.2.2.2.2.1, (hk _).trans h.2.2.2.2.2.2.2.2.2.2.2.2.2.2.2.2.2.2.2.2.2.2.2.2.2.2.2.2.2.2.2.1, (hk _).trans h.2.2.2.2.2.2.2.2.2.2.2.2.2.2.2.2.2.2.2.2.2.2.2.2.2.2.2.2.2.2.2.2.1, (hk _).trans h.2.2.2.2.2.2.2.2.2.2.2.2.2.2.2.2.2.2.2.2.2.2.2.2.2.2.2.2.2.2.2.2.2.1, (hk _).trans h.2.2.2.2.2.2.2.2.2.2.2.2.2.2.2.2.2.2.2.2.2.2.2.2.2.2.2.2.2.2.2.2.2.2.1, (hk _).trans h.2.2.2.2.2.2.2.2.2.2.2.2.2.2.2.2.2.2.2.2.2.2.2.2.2.2.2.2.2.2.2.2.2.2.2.1, (hk _).trans h.2.2.2.2.2.2.2.2.2.2.2.2.2.2.2.2.2.2.2.2.2.2.2.2.2.2.2.2.2.2.2.2.2.2.2.2.1, (hk _).trans h.2.2.2.2.2.2.2.2.2.2.2.2.2.2.2.2.2.2.2.2.2.2.2.2.2.2.2.2.2.2.2.2.2.2.2.2.2.1, (hk _).trans h.2.2.2.2.2.2.2.2.2.2.2.2.2.2.2.2.2.2.2.2.2.2.2.2.2.2.2.2.2.2.2.2.2.2.2.2.2.2.1, (hk _).trans h.2.2.2.2.2.2.2.2.2.2.2.2.2.2.2.2.2.2.2.2.2.2.2.2.2.2.2.2.2.2.2.2.2.2.2.2.2.2.2.1, (hk _).trans h.2.2.2.2.2.2.2.2.2.2.2.2.2.2.2.2.2.2.2.2.2.2.2.2.2.2.2.2.2.2.2.2.2.2.2.2.2.2.2.2.1, (hk _).trans h.2.2.2.2.2.2.2.2.2.2.2.2.2.2.2.2.2.2.2.2.2.2.2.2.2.2.2.2.2.2.2.2.2.2.2.2.2.2.2.2.2.1, (hk _).trans h.2.2.2.2.2.2.2.2.2.2.2.2.2.2.2.2.2.2.2.2.2.2.2.2.2.2.2.2.2.2.2.2.2.2.2.2.2.2.2.2.2.2.1, (hk _).trans h.2.2.2.2.2.2.2.2.2.2.2.2.2.2.2.2.2.2.2.2.2.2.2.2.2.2.2.2.2.2.2.2.2.2.2.2.2.2.2.2.2.2.2.1, (hk _).trans h.2.2.2.2.2.2.2.2.2.2.2.2.2.2.2.2.2.2.2.2.2.2.2.2.2.2.2.2.2.2.2.2.2.2.2.2.2.2.2.2.2.2.2.2.1, (hk _).trans h.2.2.2.2.2.2.2.2.2.2.2.2.2.2.2.2.2.2.2.2.2.2.2.2.2.2.2.2.2.2.2.2.2.2.2.2.2.2.2.2.2.2.2.2.2.1, (hk _).trans h.2.2.2.2.2.2.2.2.2.2.2.2.2.2.2.2.2.2.2.2.2.2.2.2.2.2.2.2.2.2.2.2.2.2.2.2.2.2.2.2.2.2.2.2.2.2.1, (hk _).trans h.2.2.2.2.2.2.2.2.2.2.2.2.2.2.2.2.2.2.2.2.2.2.2.2.2.2.2.2.2.2.2.2.2.2.2.2.2.2.2.2.2.2.2.2.2.2.2.1, (hk _).trans h.2.2.2.2.2.2.2.2.2.2.2.2.2.2.2.2.2.2.2.2.2.2.2.2.2.2.2.2.2.2.2.2.2.2.2.2.2.2.2.2.2.2.2.2.2.2.2.2.1, (hk _).trans h.2.2.2.2.2.2.2.2.2.2.2.2.2.2.2.2.2.2.2.2.2.2.2.2.2.2.2.2.2.2.2.2.2.2.2.2.2.2.2.2.2.2.2.2.2.2.2.2.2.1, (hk _).trans h.2.2.2.2.2.2.2.2.2.2.2.2.2.2.2.2.2.2.2.2.2.2.2.2.2.2.2.2.2.2.2.2.2.2.2.2.2.2.2.2.2.2.2.2.2.2.2.2.2.2.1, (hk _).trans h.2.2.2.2.2.2.2.2.2.2.2.2.2.2.2.2.2.2.2.2.2.2.2.2.2.2.2.2.2.2.2.2.2.2.2.2.2.2.2.2.2.2.2.2.2.2.2.2.2.2.2.2, (hk _).trans h.2.2.2.2.2.2.2.2.2.2.2.2.2.2.2.2.2.2.2.2.2.2.2.2.2.2.2.2.2.2.2.2.2.2.2.2.2.2.2.2.2.2.2.2.2.2.2.2.2.2.2.2⟩
def L_X11_league_5 (x1 : Int32) (x2 : Int32) (mA : Nat) : Nat → Nat → Int32 → Mem → Option (Int32)
  | 0, i5, u3, M => some u3
  | n + 1, i5, u3, M => bd1 (u3 + ((x1 >>> ((nI i5) &&& 31)) &&& (1 : Int32))) (fun v1 => L_X11_league_5 x1 x2 mA n (i5 + 1) v1 M)
theorem LW_X11_league_5 {sh : List SC} {Q : Po} {x1 : Int32} {x2 : Int32} {mA : Nat} {oA : Nat}  (hb1 : ModelAt sh mA oA)  : ∀ (n i5 : Nat) (u3 : Int32) (M : Mem) (z3 : Int32), i5 + n = 4 → L_X11_league_5 x1 x2 mA n i5 u3 M = some z3 → WP m_X11_league Q 26 [some (.ref 242), some (.int x1), some (.int x2), some (.int z3), none, none, none, none] [] sh M 0 0 → WP m_X11_league Q 5 [some (.ref 242), some (.int x1), some (.int x2), some (.int u3), some (.int (nI i5)), none, none, none] [] sh M 0 0 := by
  intro n
  induction n with
  | zero =>
    intro i5 u3 M z3 hi h hE
    rw [L_X11_league_5] at h
    have hz : (4 : Int32) ≤ nI i5 := by
      have q : i5 = 4 := by omega
      rw [q]; exact nI_le (Nat.le_refl _) (by decide)
    refine r_iload e_X11_league_5 rfl ?_
    refine r_iconst e_X11_league_7 ic_4 ?_
    refine r_icmp_ge e_X11_league_8 (fun _ => ?_) (fun hh => absurd hz hh)
    refine d_8_4 ?_
    obtain rfl := Option.some.inj h; exact hE
  | succ n ih =>
    intro i5 u3 M z3 hi h hE
    rw [L_X11_league_5] at h
    have hlt_i5 : i5 < 4 := by omega
    have hcl_i5 : (nI i5).toNatClampNeg = i5 := nI_clamp (by omega)
    have hs : ¬ (4 : Int32) ≤ nI i5 := nI_ge (b := 4) hlt_i5 (by decide)
    refine r_iload e_X11_league_5 rfl ?_
    refine r_iconst e_X11_league_7 ic_4 ?_
    refine r_icmp_ge e_X11_league_8 (fun hh => absurd hh hs) (fun _ => ?_)
    refine r_iload_n e_X11_league_11 rfl ?_
    refine r_iload_n e_X11_league_12 rfl ?_
    refine r_iload e_X11_league_13 rfl ?_
    refine r_ishr e_X11_league_15 ?_
    refine r_iconst e_X11_league_16 ic_1 ?_
    refine r_iand e_X11_league_17 ?_
    refine r_iadd e_X11_league_18 ?_
    obtain ⟨v1, e1, h⟩ := bd1_el h
    rw [e1]
    refine p_istore_n_8_3 e_X11_league_19 rfl rfl ?_
    refine p_iinc_8_4 e_X11_league_20 rfl ic_1 rfl ?_
    rw [nI_1 i5]
    refine r_goto e_X11_league_23 ?_
    exact ih _ _ _ _ (by omega) h hE
def L_X11_league_67 (x1 : Int32) (x2 : Int32) (mA : Nat) : Nat → Nat → Mem → Option (Mem)
  | 0, i67, M => some M
  | n + 1, i67, M => L_X11_league_67 x1 x2 mA n (i67 + 1) (setI (setI (setI M 265 i67 (0 : Int32)) 266 i67 (0 : Int32)) 267 i67 (0 : Int32))
theorem LW_X11_league_67 {sh : List SC} {Q : Po} {x1 : Int32} {x2 : Int32} {mA : Nat} {oA : Nat}  (hb1 : ModelAt sh mA oA)  : ∀ (n i67 : Nat) (M : Mem) (Mz : Mem), i67 + n = 4 → L_X11_league_67 x1 x2 mA n i67 M = some Mz → WP m_X11_league Q 103 [some (.ref 242), some (.int x1), some (.int x2), none, none, none, none, none] [] sh Mz 0 0 → WP m_X11_league Q 67 [some (.ref 242), some (.int x1), some (.int x2), none, some (.int (nI i67)), none, none, none] [] sh M 0 0 := by
  intro n
  induction n with
  | zero =>
    intro i67 M Mz hi h hE
    rw [L_X11_league_67] at h
    have hz : (4 : Int32) ≤ nI i67 := by
      have q : i67 = 4 := by omega
      rw [q]; exact nI_le (Nat.le_refl _) (by decide)
    refine r_iload e_X11_league_67 rfl ?_
    refine r_iconst e_X11_league_69 ic_4 ?_
    refine r_icmp_ge e_X11_league_70 (fun _ => ?_) (fun hh => absurd hz hh)
    refine d_8_4 ?_
    obtain rfl := Option.some.inj h; exact hE
  | succ n ih =>
    intro i67 M Mz hi h hE
    rw [L_X11_league_67] at h
    have hlt_i67 : i67 < 4 := by omega
    have hcl_i67 : (nI i67).toNatClampNeg = i67 := nI_clamp (by omega)
    have hs : ¬ (4 : Int32) ≤ nI i67 := nI_ge (b := 4) hlt_i67 (by decide)
    have k0 : kd sh 242 = some (10 + 7, 0) := hb1.1
    have k1 : rf sh 242 43 = some 265 := hb1.2.2.2.2.2.2.2.2.2.2.2.2.2.2.2.2.2.2.2.2.2.2.2.1
    have k2 : kd sh 265 = some (0, 4) := hb1.2.2.2.2.2.2.2.2.2.2.2.2.2.2.2.2.2.2.2.2.2.2.2.2.2.2.2.2.2.2.2.2.2.2.2.2.2.2.2.2.2.2.2.2.2.2.2.1
    have k3 : rf sh 242 44 = some 266 := hb1.2.2.2.2.2.2.2.2.2.2.2.2.2.2.2.2.2.2.2.2.2.2.2.2.1
    have k4 : kd sh 266 = some (0, 4) := hb1.2.2.2.2.2.2.2.2.2.2.2.2.2.2.2.2.2.2.2.2.2.2.2.2.2.2.2.2.2.2.2.2.2.2.2.2.2.2.2.2.2.2.2.2.2.2.2.2.1
    have k5 : rf sh 242 45 = some 267 := hb1.2.2.2.2.2.2.2.2.2.2.2.2.2.2.2.2.2.2.2.2.2.2.2.2.2.1
    have k6 : kd sh 267 = some (0, 4) := hb1.2.2.2.2.2.2.2.2.2.2.2.2.2.2.2.2.2.2.2.2.2.2.2.2.2.2.2.2.2.2.2.2.2.2.2.2.2.2.2.2.2.2.2.2.2.2.2.2.2.1
    refine r_iload e_X11_league_67 rfl ?_
    refine r_iconst e_X11_league_69 ic_4 ?_
    refine r_icmp_ge e_X11_league_70 (fun hh => absurd hh hs) (fun _ => ?_)
    refine r_aload_n e_X11_league_73 rfl ?_
    refine r_getR e_X11_league_74 fl_X11_233 k0 k1 ?_
    refine r_iload e_X11_league_77 rfl ?_
    refine r_iconst e_X11_league_79 ic_0 ?_
    refine r_iastore e_X11_league_80 k2 (vp_in_nI (Nat.lt_of_lt_of_le hlt_i67 (by decide)) (by decide)) ?_
    rw [hcl_i67]
    refine r_aload_n e_X11_league_81 rfl ?_
    refine r_getR e_X11_league_82 fl_X11_236 k0 k3 ?_
    refine r_iload e_X11_league_85 rfl ?_
    refine r_iconst e_X11_league_87 ic_0 ?_
    refine r_iastore e_X11_league_88 k4 (vp_in_nI (Nat.lt_of_lt_of_le hlt_i67 (by decide)) (by decide)) ?_
    rw [hcl_i67]
    refine r_aload_n e_X11_league_89 rfl ?_
    refine r_getR e_X11_league_90 fl_X11_239 k0 k5 ?_
    refine r_iload e_X11_league_93 rfl ?_
    refine r_iconst e_X11_league_95 ic_0 ?_
    refine r_iastore e_X11_league_96 k6 (vp_in_nI (Nat.lt_of_lt_of_le hlt_i67 (by decide)) (by decide)) ?_
    rw [hcl_i67]
    refine p_iinc_8_4 e_X11_league_97 rfl ic_1 rfl ?_
    rw [nI_1 i67]
    refine r_goto e_X11_league_100 ?_
    exact ih _  _ _ (by omega) h hE
def L_X11_league_135 (x1 : Int32) (x2 : Int32) (mA : Nat) (w6 : Int32) : Nat → Int32 → Int32 → Mem → Option (Int32 × Mem)
  | 0, _, _, _ => none
  | n + 1, u5, u7, M => if (4 : Int32) ≤ u7 then (some (u5, M)) else (bnd2 (if ((x1 >>> (w6 &&& 31)) &&& (1 : Int32)) = (1 : Int32) then (if ((x1 >>> (u7 &&& 31)) &&& (1 : Int32)) = (1 : Int32) then (bnd1 (R_X11_playOne w6 u7 x2 mA M) (fun M16 => (some ((u5 + 1), M16)))) else (some (u5, M))) else (some (u5, M))) (fun v14_0 M14 => L_X11_league_135 x1 x2 mA w6 n v14_0 (u7 + 1) M14))
theorem LW_X11_league_135 {sh : List SC} {Q : Po} {x1 : Int32} {x2 : Int32} {mA : Nat} {oA : Nat} {gA : Nat} {w6 : Int32} (hb1 : ModelAt sh mA oA)  : ∀ (n : Nat) (u5 : Int32) (u7 : Int32) (M : Mem) (z5 : Int32) (Mz : Mem), L_X11_league_135 x1 x2 mA w6 n u5 u7 M = some (z5, Mz) → WP m_X11_league Q 179 [some (.ref 242), some (.int x1), some (.int x2), none, some (.ref gA), some (.int z5), some (.int w6), none] [] sh Mz 0 0 → WP m_X11_league Q 135 [some (.ref 242), some (.int x1), some (.int x2), none, some (.ref gA), some (.int u5), some (.int w6), some (.int u7)] [] sh M 0 0 := by
  intro n
  induction n with
  | zero =>
    intro u5 u7 M z5 Mz h hE
    rw [L_X11_league_135] at h
    cases h
  | succ n ih =>
    intro u5 u7 M z5 Mz h hE
    rw [L_X11_league_135] at h
    have k0 : rf sh 242 27 = some mA := hb1.2.2.2.2.2.2.2.2.2.2.2.2.2.2.2.2.2.1
    have k1 : kd sh mA = some (0, 212) := hb1.2.2.2.2.2.2.2.2.2.2.2.2.2.2.2.2.2.2.2.2.2.2.2.2.2.2.2.2.2.2.2.2.2.2.2.2.2.2.2.2.2.2.2.2.2.2.2.2.2.2.2.1
    have k2 : kd sh 242 = some (10 + 7, 0) := hb1.1
    refine r_iload e_X11_league_135 rfl ?_
    refine r_iconst e_X11_league_137 ic_4 ?_
    refine r_icmp_ge e_X11_league_138 (fun c10 => ?_) (fun c10 => ?_)
    · rw [if_pos c10] at h
      refine d_8_7 ?_
      obtain ⟨rfl, rfl⟩ := ps2 h; exact hE
    · rw [if_neg c10] at h
      refine r_iload_n e_X11_league_141 rfl ?_
      refine r_iload e_X11_league_142 rfl ?_
      refine r_ishr e_X11_league_144 ?_
      refine r_iconst e_X11_league_145 ic_1 ?_
      refine r_iand e_X11_league_146 ?_
      refine r_iconst e_X11_league_147 ic_1 ?_
      obtain ⟨K14, hK14, h⟩ := bnd2_in h
      suffices j14 : ∀ v14_0 M14, K14 (v14_0, M14) = some (z5, Mz) → WP m_X11_league _ 173 [some (.ref 242), some (.int x1), some (.int x2), none, some (.ref gA), some (.int v14_0), some (.int w6), some (.int u7)] [] sh M14 0 0 by
        refine r_icmp_ne e_X11_league_148 (fun c11 => ?_) (fun c11 => ?_)
        · rw [if_neg c11] at h
          exact j14 _ _ h
        · rw [if_pos c11] at h
          refine r_iload_n e_X11_league_151 rfl ?_
          refine r_iload e_X11_league_152 rfl ?_
          refine r_ishr e_X11_league_154 ?_
          refine r_iconst e_X11_league_155 ic_1 ?_
          refine r_iand e_X11_league_156 ?_
          refine r_iconst e_X11_league_157 ic_1 ?_
          refine r_icmp_ne e_X11_league_158 (fun c15 => ?_) (fun c15 => ?_)
          · rw [if_neg c15] at h
            exact j14 _ _ h
          · rw [if_pos c15] at h
            refine r_aload_n e_X11_league_161 rfl ?_
            refine r_iload e_X11_league_162 rfl ?_
            refine r_iload e_X11_league_164 rfl ?_
            refine r_iload_n e_X11_league_166 rfl ?_
            obtain ⟨M16, w16, h⟩ := bnd1_elK h
            refine cV3u e_X11_league_167 cl_X11_411 ⟨Nat.le_of_ble_eq_true rfl, Nat.le_of_ble_eq_true rfl⟩ ⟨rfl, rfl⟩ k2 (Nat.le_of_ble_eq_true rfl) (S_X11_playOne hb1 w16) ?_
            refine p_iinc_8_5 e_X11_league_170 rfl ic_1 rfl ?_
            exact j14 _ _ h
      intro v14_0 M14 h
      rw [hK14] at h
      refine p_iinc_8_7 e_X11_league_173 rfl ic_1 rfl ?_
      refine r_goto e_X11_league_176 ?_
      exact ih _ _ _ _ _ h hE
def L_X11_league_123 (x1 : Int32) (x2 : Int32) (mA : Nat) : Nat → Nat → Int32 → Mem → Option (Int32 × Mem)
  | 0, i123, u5, M => some (u5, M)
  | n + 1, i123, u5, M => bd1 ((nI i123) + (1 : Int32)) (fun v9 => bnd2 (L_X11_league_135 x1 x2 mA (nI i123) FUEL u5 v9 M) (fun v17_0 M17 => L_X11_league_123 x1 x2 mA n (i123 + 1) v17_0 M17))
theorem LW_X11_league_123 {sh : List SC} {Q : Po} {x1 : Int32} {x2 : Int32} {mA : Nat} {oA : Nat} {gA : Nat}  (hb1 : ModelAt sh mA oA)  : ∀ (n i123 : Nat) (u5 : Int32) (M : Mem) (z5 : Int32) (Mz : Mem), i123 + n = 4 → L_X11_league_123 x1 x2 mA n i123 u5 M = some (z5, Mz) → WP m_X11_league Q 185 [some (.ref 242), none, none, none, some (.ref gA), some (.int z5), none, none] [] sh Mz 0 0 → WP m_X11_league Q 123 [some (.ref 242), some (.int x1), some (.int x2), none, some (.ref gA), some (.int u5), some (.int (nI i123)), none] [] sh M 0 0 := by
  intro n
  induction n with
  | zero =>
    intro i123 u5 M z5 Mz hi h hE
    rw [L_X11_league_123] at h
    have hz : (4 : Int32) ≤ nI i123 := by
      have q : i123 = 4 := by omega
      rw [q]; exact nI_le (Nat.le_refl _) (by decide)
    have k0 : rf sh 242 27 = some mA := hb1.2.2.2.2.2.2.2.2.2.2.2.2.2.2.2.2.2.1
    have k1 : kd sh mA = some (0, 212) := hb1.2.2.2.2.2.2.2.2.2.2.2.2.2.2.2.2.2.2.2.2.2.2.2.2.2.2.2.2.2.2.2.2.2.2.2.2.2.2.2.2.2.2.2.2.2.2.2.2.2.2.2.1
    refine r_iload e_X11_league_123 rfl ?_
    refine r_iconst e_X11_league_125 ic_4 ?_
    refine r_icmp_ge e_X11_league_126 (fun _ => ?_) (fun hh => absurd hz hh)
    refine d_8_1 ?_
    refine d_8_2 ?_
    refine d_8_6 ?_
    obtain ⟨rfl, rfl⟩ := ps2 h; exact hE
  | succ n ih =>
    intro i123 u5 M z5 Mz hi h hE
    rw [L_X11_league_123] at h
    have hlt_i123 : i123 < 4 := by omega
    have hcl_i123 : (nI i123).toNatClampNeg = i123 := nI_clamp (by omega)
    have hs : ¬ (4 : Int32) ≤ nI i123 := nI_ge (b := 4) hlt_i123 (by decide)
    have k0 : rf sh 242 27 = some mA := hb1.2.2.2.2.2.2.2.2.2.2.2.2.2.2.2.2.2.1
    have k1 : kd sh mA = some (0, 212) := hb1.2.2.2.2.2.2.2.2.2.2.2.2.2.2.2.2.2.2.2.2.2.2.2.2.2.2.2.2.2.2.2.2.2.2.2.2.2.2.2.2.2.2.2.2.2.2.2.2.2.2.2.1
    refine r_iload e_X11_league_123 rfl ?_
    refine r_iconst e_X11_league_125 ic_4 ?_
    refine r_icmp_ge e_X11_league_126 (fun hh => absurd hh hs) (fun _ => ?_)
    refine r_iload e_X11_league_129 rfl ?_
    refine r_iconst e_X11_league_131 ic_1 ?_
    refine r_iadd e_X11_league_132 ?_
    obtain ⟨v9, e9, h⟩ := bd1_el h
    rw [e9]
    refine p_istore_8_7 e_X11_league_133 rfl rfl ?_
    obtain ⟨v17_0, M17, w17, h⟩ := bnd2_el h
    refine LW_X11_league_135 hb1 _ _ _ _ _ _ w17 ?_
    refine p_iinc_8_6 e_X11_league_179 rfl ic_1 rfl ?_
    rw [nI_1 i123]
    refine r_goto e_X11_league_182 ?_
    exact ih _ _ _ _ _ (by omega) h hE
def R_X11_league (x1 : Int32) (x2 : Int32) (mA : Nat) (oA : Nat) (M : Mem) : Option (Int32 × Mem) := bnd1 (L_X11_league_5 x1 x2 mA 4 0 (0 : Int32) M) (fun v2_0 => if (V_X11_in x1 (0 : Int32) (15 : Int32) M) = 0 then (bnd2 (R_X11_finding (-1001 : Int32) mA M) (fun v4 M4 => some (v4, M4))) else (if v2_0 < (2 : Int32) then (bnd2 (R_X11_finding (-1001 : Int32) mA M) (fun v6 M6 => some (v6, M6))) else (if (V_X11_in x2 (1 : Int32) (60 : Int32) M) = 0 then (bnd2 (R_X11_finding (-1001 : Int32) mA M) (fun v19 M19 => some (v19, M19))) else (bnd1 (L_X11_league_67 x1 x2 mA 4 0 (setI M 242 42 x1)) (fun M8 => bnd2 (L_X11_league_123 x1 x2 oA 4 0 (0 : Int32) M8) (fun v18_0 M18 => some (v18_0, M18)))))))
theorem S_X11_league {sh : List SC} {M : Mem} {x1 : Int32} {x2 : Int32} {mA : Nat} {oA : Nat} {v' : Int32} {M' : Mem} (hb1 : ModelAt sh mA oA)  (h : R_X11_league x1 x2 mA oA M = some (v', M')) : Gv m_X11_league [.ref 242, .int x1, .int x2] sh M (.int v') M' := by
  refine Sp.of (ls := [some (.ref 242), some (.int x1), some (.int x2), none, none, none, none, none]) (by decide +kernel) (Nat.le_of_ble_eq_true rfl) rfl ?_
  have k0 : kd sh 242 = some (10 + 7, 0) := hb1.1
  have k1 : rf sh 242 27 = some mA := hb1.2.2.2.2.2.2.2.2.2.2.2.2.2.2.2.2.2.1
  have k2 : kd sh mA = some (0, 212) := hb1.2.2.2.2.2.2.2.2.2.2.2.2.2.2.2.2.2.2.2.2.2.2.2.2.2.2.2.2.2.2.2.2.2.2.2.2.2.2.2.2.2.2.2.2.2.2.2.2.2.2.2.1
  have k3 : rf sh 242 28 = some oA := hb1.2.2.2.2.2.2.2.2.2.2.2.2.2.2.2.2.2.2.1
  have k4 : kd sh oA = some (0, 212) := hb1.2.2.2.2.2.2.2.2.2.2.2.2.2.2.2.2.2.2.2.2.2.2.2.2.2.2.2.2.2.2.2.2.2.2.2.2.2.2.2.2.2.2.2.2.2.2.2.2.2.2.2.2
  unfold R_X11_league at h
  refine r_iconst e_X11_league_0 ic_0 ?_
  refine p_istore_n_8_3 e_X11_league_1 rfl rfl ?_
  refine r_iconst e_X11_league_2 ic_0 ?_
  refine p_istore_8_4 e_X11_league_3 rfl rfl ?_
  show WP m_X11_league _ 5 [some (.ref 242), some (.int x1), some (.int x2), some (.int (0 : Int32)), some (.int (nI 0)), none, none, none] [] sh M 0 0
  obtain ⟨v2_0, w2, h⟩ := bnd1_el h
  refine LW_X11_league_5 hb1 4 0 _ _ _ (by omega) w2 ?_
  refine r_iload_n e_X11_league_26 rfl ?_
  refine r_iconst e_X11_league_27 ic_0 ?_
  refine r_bipush e_X11_league_28 bp_15 ?_
  refine cS3v e_X11_league_30 cl_X11_245 ⟨Nat.le_of_ble_eq_true rfl, Nat.le_of_ble_eq_true rfl⟩ ⟨rfl, rfl⟩  (Nat.le_of_ble_eq_true rfl) (S_X11_in ) ?_
  refine r_if_eq e_X11_league_33 (fun c3 => ?_) (fun c3 => ?_)
  · rw [if_pos c3] at h
    refine r_aload_n e_X11_league_51 rfl ?_
    refine r_sipush e_X11_league_52 sp_m1001 ?_
    obtain ⟨v4, M4, w4, h⟩ := bnd2_el h
    refine cV1v e_X11_league_55 cl_X11_178 ⟨Nat.le_of_ble_eq_true rfl, Nat.le_of_ble_eq_true rfl⟩ ⟨rfl, rfl⟩ k0 (Nat.le_of_ble_eq_true rfl) (S_X11_finding hb1 w4) ?_
    refine r_ireturn e_X11_league_58 rfl ⟨rfl, rfl⟩ ?_
    obtain ⟨rfl, rfl⟩ := ps2 h; exact ⟨rfl, rfl, rfl⟩
  · rw [if_neg c3] at h
    refine r_iload_n e_X11_league_36 rfl ?_
    refine r_iconst e_X11_league_37 ic_2 ?_
    refine r_icmp_lt e_X11_league_38 (fun c5 => ?_) (fun c5 => ?_)
    · rw [if_pos c5] at h
      refine r_aload_n e_X11_league_51 rfl ?_
      refine r_sipush e_X11_league_52 sp_m1001 ?_
      obtain ⟨v6, M6, w6, h⟩ := bnd2_el h
      refine cV1v e_X11_league_55 cl_X11_178 ⟨Nat.le_of_ble_eq_true rfl, Nat.le_of_ble_eq_true rfl⟩ ⟨rfl, rfl⟩ k0 (Nat.le_of_ble_eq_true rfl) (S_X11_finding hb1 w6) ?_
      refine r_ireturn e_X11_league_58 rfl ⟨rfl, rfl⟩ ?_
      obtain ⟨rfl, rfl⟩ := ps2 h; exact ⟨rfl, rfl, rfl⟩
    · rw [if_neg c5] at h
      refine r_iload_n e_X11_league_41 rfl ?_
      refine r_iconst e_X11_league_42 ic_1 ?_
      refine r_bipush e_X11_league_43 bp_60 ?_
      refine cS3v e_X11_league_45 cl_X11_245 ⟨Nat.le_of_ble_eq_true rfl, Nat.le_of_ble_eq_true rfl⟩ ⟨rfl, rfl⟩  (Nat.le_of_ble_eq_true rfl) (S_X11_in ) ?_
      refine r_if_ne e_X11_league_48 (fun c7 => ?_) (fun c7 => ?_)
      · rw [if_neg c7] at h
        refine r_aload_n e_X11_league_59 rfl ?_
        refine r_iload_n e_X11_league_60 rfl ?_
        refine r_putI e_X11_league_61 fl_X11_408 k0 ?_
        refine r_iconst e_X11_league_64 ic_0 ?_
        refine p_istore_8_4 e_X11_league_65 rfl rfl ?_
        refine d_8_3 ?_
        show WP m_X11_league _ 67 [some (.ref 242), some (.int x1), some (.int x2), none, some (.int (nI 0)), none, none, none] [] sh (setI M 242 42 x1) 0 0
        obtain ⟨M8, w8, h⟩ := bnd1_el h
        refine LW_X11_league_67 hb1 4 0 _ _ (by omega) w8 ?_
        refine r_aload_n e_X11_league_103 rfl ?_
        refine r_getR e_X11_league_104 fl_X11_212 k0 k1 ?_
        refine p_astore_8_4 e_X11_league_107 rfl rfl ?_
        refine r_aload_n e_X11_league_109 rfl ?_
        refine r_aload_n e_X11_league_110 rfl ?_
        refine r_getR e_X11_league_111 fl_X11_215 k0 k3 ?_
        obtain ⟨rs, hrs⟩ := kd_at k0
        have hb2 := hb1.sw hrs
        have q27 := rf_len hrs k1
        refine r_putR (b := oA) e_X11_league_114 fl_X11_212 hrs q27.1 ?_
        refine r_iconst e_X11_league_117 ic_0 ?_
        refine p_istore_8_5 e_X11_league_118 rfl rfl ?_
        refine r_iconst e_X11_league_120 ic_0 ?_
        refine p_istore_8_6 e_X11_league_121 rfl rfl ?_
        show WP m_X11_league _ 123 [some (.ref 242), some (.int x1), some (.int x2), none, some (.ref mA), some (.int (0 : Int32)), some (.int (nI 0)), none] [] (sh.set 242 (10 + 7, 0, rs.set 27 (some oA))) M8 0 0
        obtain ⟨v18_0, M18, w18, h⟩ := bnd2_el h
        refine LW_X11_league_123 hb2 4 0 _ _ _ _ (by omega) w18 ?_
        refine r_aload_n e_X11_league_185 rfl ?_
        refine r_aload e_X11_league_186 rfl ?_
        refine r_putR (b := mA) e_X11_league_188 fl_X11_212 (List.getElem?_set_self (List.getElem?_eq_some_iff.mp hrs).1) (by rw [List.length_set]; exact q27.1) ?_
        rw [set_back hrs k1]
        refine r_iload e_X11_league_191 rfl ?_
        refine r_ireturn e_X11_league_193 rfl ⟨rfl, rfl⟩ ?_
        obtain ⟨rfl, rfl⟩ := ps2 h; exact ⟨rfl, rfl, rfl⟩
      · rw [if_pos c7] at h
        refine r_aload_n e_X11_league_51 rfl ?_
        refine r_sipush e_X11_league_52 sp_m1001 ?_
        obtain ⟨v19, M19, w19, h⟩ := bnd2_el h
        refine cV1v e_X11_league_55 cl_X11_178 ⟨Nat.le_of_ble_eq_true rfl, Nat.le_of_ble_eq_true rfl⟩ ⟨rfl, rfl⟩ k0 (Nat.le_of_ble_eq_true rfl) (S_X11_finding hb1 w19) ?_
        refine r_ireturn e_X11_league_58 rfl ⟨rfl, rfl⟩ ?_
        obtain ⟨rfl, rfl⟩ := ps2 h; exact ⟨rfl, rfl, rfl⟩
