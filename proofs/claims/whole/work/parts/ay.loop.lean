/-! ===== the law's loop ===== -/
section LLP
variable {p : Program} {l : Launch} {e : Env} {s : State} {m : MethodId} {below : List Frame} {meth : Method} {c : Code} {b L : Nat} {xs : Nat → Int32} {Z : State → Prop}
variable {pc : Nat} {st : List Value} {sh : List SC} {M : Mem} {n1 n2 : Nat}
theorem GR.up {K K' : Nat} {A B : Mem} (h : GR K A B) (hK : K ≤ K') : GR K' A B := by
  obtain ⟨h1, h2, h3, h4, h5, h6, h7⟩ := h
  have s : SP A B A B := ⟨fun _ _ _ => ⟨rfl, rfl⟩, rfl, fun _ _ _ => rfl⟩
  exact ⟨h1, h2, h3, h4, h5.cg hK s (fun _ _ _ => rfl) rfl rfl, h6.cg hK s (fun _ _ _ => rfl) rfl, h7⟩
theorem ll_room {t : Nat} (hL : L ≤ 2560) (ht : t ≤ 2560) (h : ¬ (Int32.ofNat L - 5 < nI t)) : t + 4 < L := by
  have e1 : (Int32.ofNat L - 5 : Int32) = nI L - nI 5 := rfl
  rw [e1, Int32.lt_iff_toInt_lt, Int32.toInt_sub, nI_toInt (by omega), nI_toInt (by omega), nI_toInt (by omega)] at h
  rw [Int.bmod_eq_of_le (by omega) (by omega)] at h
  omega
def swO : Array Int := #[104, 167, 180, 193, 236, 289, 332, 365, 388, 411, 444, 467, 490, 513, 536, 559, 592, 625, 648, 671, 684, 707]
theorem l_sw {ls : List (Option Value)} {x : Int32} {kk tgt : Nat} {off : Int} (C : LwC p s m c b L xs) (hx : x.toInt = (kk : Int)) (hk : kk ≤ 21) (ho : swO[kk]? = some off) (hg : (32 : Int) + off = (tgt : Int)) (h : LWP p l e s m below meth c b Z tgt ls st sh M n1 n2) : LWP p l e s m below meth c b Z 32 ls (.int x :: st) sh M n1 n2 := by
  refine l_tabIn C d_law_32 (by rw [hx]; omega) (by rw [hx]; omega) ?_ hg h
  rw [hx, Int.sub_zero, Int.toNat_natCast]
  exact ho
/-- one turn of the loop, from its head -/
theorem l_turn {t : Nat} (C : LwC p s m c b L xs) (hml : c.maxLocals = 4) (hL : L ≤ 2560) (ht : t + 4 < L) (hG : GR (10 * t) M M) (hw : n1 ≤ room_1.cells ∧ n2 ≤ room_1.slots) (h : ∀ M2, GR (10 * t + 50) M2 M2 → LWP p l e s m below meth c b Z 762 (LL t) [] SHF M2 n1 n2) : LWP p l e s m below meth c b Z 26 (LL t) [] SHF M n1 n2 := by
  refine l_aloadX_n C d_law_26 (x := 9) rfl ?_
  refine l_iload_n C d_law_27 (x := nI t) rfl ?_
  refine l_sld C (ll_in (by omega) hL) d_law_28 ?_
  refine l_bipush (v := 31) C d_law_29 (by decide) ?_
  refine l_iand C d_law_31 ?_
  generalize (xs (nI t).toNatClampNeg &&& 31) = x
  have hK : 10 * t < 2 ^ 29 := by omega
  by_cases hr : 0 ≤ x.toInt ∧ x.toInt ≤ 21
  · obtain ⟨kk, hkk⟩ : ∃ kk : Nat, x.toInt = (kk : Int) := ⟨x.toInt.toNat, (Int.toNat_of_nonneg hr.1).symm⟩
    have hk : kk ≤ 21 := by omega
    rcases (show kk = 0 ∨ kk = 1 ∨ kk = 2 ∨ kk = 3 ∨ kk = 4 ∨ kk = 5 ∨ kk = 6 ∨ kk = 7 ∨ kk = 8 ∨ kk = 9 ∨ kk = 10 ∨ kk = 11 ∨ kk = 12 ∨ kk = 13 ∨ kk = 14 ∨ kk = 15 ∨ kk = 16 ∨ kk = 17 ∨ kk = 18 ∨ kk = 19 ∨ kk = 20 ∨ kk = 21 by omega) with rfl | rfl | rfl | rfl | rfl | rfl | rfl | rfl | rfl | rfl | rfl | rfl | rfl | rfl | rfl | rfl | rfl | rfl | rfl | rfl | rfl | rfl
    · exact l_sw (off := 104) (tgt := 136) C hkk hk rfl (by decide) (case_feed C hml ht hL hK hG hw h)
    · exact l_sw (off := 167) (tgt := 199) C hkk hk rfl (by decide) (case_read C hml ht hL hK hG hw h)
    · exact l_sw (off := 180) (tgt := 212) C hkk hk rfl (by decide) (case_fault C hml ht hL hK hG hw h)
    · exact l_sw (off := 193) (tgt := 225) C hkk hk rfl (by decide) (case_program C hml ht hL hK hG hw h)
    · exact l_sw (off := 236) (tgt := 268) C hkk hk rfl (by decide) (case_start C hml ht hL hK hG hw h)
    · exact l_sw (off := 289) (tgt := 321) C hkk hk rfl (by decide) (case_views C hml ht hL hK hG hw h)
    · exact l_sw (off := 332) (tgt := 364) C hkk hk rfl (by decide) (case_begin C hml ht hL hK hG hw h)
    · exact l_sw (off := 365) (tgt := 397) C hkk hk rfl (by decide) (case_tick C hml ht hL hK hG hw h)
    · exact l_sw (off := 388) (tgt := 420) C hkk hk rfl (by decide) (case_ball C hml ht hL hK hG hw h)
    · exact l_sw (off := 411) (tgt := 443) C hkk hk rfl (by decide) (case_robot C hml ht hL hK hG hw h)
    · exact l_sw (off := 444) (tgt := 476) C hkk hk rfl (by decide) (case_score C hml ht hL hK hG hw h)
    · exact l_sw (off := 467) (tgt := 499) C hkk hk rfl (by decide) (case_goal C hml ht hL hK hG hw h)
    · exact l_sw (off := 490) (tgt := 522) C hkk hk rfl (by decide) (case_keep C hml ht hL hK hG hw h)
    · exact l_sw (off := 513) (tgt := 545) C hkk hk rfl (by decide) (case_back C hml ht hL hK hG hw h)
    · exact l_sw (off := 536) (tgt := 568) C hkk hk rfl (by decide) (case_differ C hml ht hL hK hG hw h)
    · exact l_sw (off := 559) (tgt := 591) C hkk hk rfl (by decide) (case_league C hml ht hL hK hG hw h)
    · exact l_sw (off := 592) (tgt := 624) C hkk hk rfl (by decide) (case_table C hml ht hL hK hG hw h)
    · exact l_sw (off := 625) (tgt := 657) C hkk hk rfl (by decide) (case_order C hml ht hL hK hG hw h)
    · exact l_sw (off := 648) (tgt := 680) C hkk hk rfl (by decide) (case_tell C hml ht hL hK hG hw h)
    · exact l_sw (off := 671) (tgt := 703) C hkk hk rfl (by decide) (case_check C hml ht hL hK hG hw h)
    · exact l_sw (off := 684) (tgt := 716) C hkk hk rfl (by decide) (case_count C hml ht hL hK hG hw h)
    · exact l_sw (off := 707) (tgt := 739) C hkk hk rfl (by decide) (case_found C hml ht hL hK hG hw h)
  · exact l_tabOut (tgt := 762) C d_law_32 (by omega) (by decide) (h M (hG.up (by omega)))
theorem law_loop (C : LwC p s m c b L xs) (hml : c.maxLocals = 4) (hL : L ≤ 2560) (hw : n1 ≤ room_1.cells ∧ n2 ≤ room_1.slots) (he : ∀ ls M, LWP p l e s m below meth c b Z 768 ls [] SHF M n1 n2) : ∀ (k t : Nat) (M : Mem), L < t + 5 + 5 * k → t ≤ 2560 → GR (10 * t) M M → LWP p l e s m below meth c b Z 18 (LL t) [] SHF M n1 n2 := by
  intro k
  induction k with
  | zero =>
    intro t M hk ht hG
    refine l_iload_n C d_law_18 (x := nI t) rfl ?_
    refine l_aloadX_n C d_law_19 (x := 9) rfl ?_
    refine l_slen C d_law_20 ?_
    refine l_iconst (v := 5) C d_law_21 (by decide) ?_
    refine l_isub C d_law_22 ?_
    refine l_icmp_gt (tgt := 768) C d_law_23 (by decide) (fun _ => he _ M) (fun q => ?_)
    have := ll_room hL ht q
    omega
  | succ k ih =>
    intro t M hk ht hG
    refine l_iload_n C d_law_18 (x := nI t) rfl ?_
    refine l_aloadX_n C d_law_19 (x := 9) rfl ?_
    refine l_slen C d_law_20 ?_
    refine l_iconst (v := 5) C d_law_21 (by decide) ?_
    refine l_isub C d_law_22 ?_
    refine l_icmp_gt (tgt := 768) C d_law_23 (by decide) (fun _ => he _ M) (fun q => ?_)
    have h4 := ll_room hL ht q
    refine l_turn C hml hL h4 hG hw (fun M2 hM2 => ?_)
    have e5 : nI t + 5 = nI (t + 5) := (Int32.ofNat_add t 5).symm
    refine l_iinc (x := nI t) (v := 5) (ls' := LL (t + 5)) C d_law_762 (by decide) rfl (by decide) (by rw [e5]; rfl) ?_
    refine l_goto (tgt := 18) C d_law_765 (by decide) ?_
    exact ih (t + 5) M2 (by omega) (by omega) (by rw [Nat.mul_add]; exact hM2)
end LLP
