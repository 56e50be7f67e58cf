/-! ===== the law's cases: one call on the class, the same on the model ===== -/
section LWC
variable {p : Program} {l : Launch} {e : Env} {s : State} {m : MethodId} {below : List Frame} {meth : Method} {c : Code} {b L : Nat} {xs : Nat → Int32} {Z : State → Prop}
variable {pc : Nat} {st : List Value} {sh : List SC} {M : Mem} {n1 n2 : Nat}
theorem case_goal {K t : Nat} (C : LwC p s m c b L xs) (hml : c.maxLocals = 4) (ht : t + 4 < L) (hL : L ≤ 2560) (hK : K < 2 ^ 29) (hG : GR K M M) (hw : n1 ≤ room_1.cells ∧ n2 ≤ room_1.slots) (h : ∀ M2, GR (K + 50) M2 M2 → LWP p l e s m below meth c b Z 762 (LL t) [] SHF M2 n1 n2) : LWP p l e s m below meth c b Z 499 (LL t) [] SHF M n1 n2 := by
  obtain ⟨v, M1, M2, e1, e2, e3⟩ := (goal_S (K := K) (x := Ar xs t 1) hK).run hG
  refine l_aload_n C d_law_499 (x := 0) rfl ?_
  refine l_arg (j := 1) C ⟨d_law_500, d_law_501, d_law_502, d_law_503, d_law_504⟩ (by decide) (by omega) hL ?_
  refine l_call (As := [.int (Ar xs t 1)]) (st := []) (v := v) (M' := M1) C hml d_law_505 cl_law_65 ⟨Nat.le_of_ble_eq_true rfl, Nat.le_of_ble_eq_true rfl⟩ ⟨rfl, rfl⟩ kd0F rfl (Nat.le_of_ble_eq_true rfl) (gv_cast (S_X10_goal (x1 := Ar xs t 1) pitchF) e1) rfl hw ?_
  refine l_aload_n C d_law_508 (x := 242) rfl ?_
  refine l_arg (j := 1) C ⟨d_law_509, d_law_510, d_law_511, d_law_512, d_law_513⟩ (by decide) (by omega) hL ?_
  refine l_call (As := [.int (Ar xs t 1)]) (st := [.int v]) (v := v) (M' := M2) C hml d_law_514 cl_law_68 ⟨Nat.le_of_ble_eq_true rfl, Nat.le_of_ble_eq_true rfl⟩ ⟨rfl, rfl⟩ kd1F rfl (Nat.le_of_ble_eq_true rfl) (S_X11_goal (x1 := Ar xs t 1) modelF e2) rfl hw ?_
  exact l_icmp_eq (tgt := 762) C d_law_517 (by decide) (fun _ => h M2 e3) (fun q => absurd rfl q)
theorem case_keep {K t : Nat} (C : LwC p s m c b L xs) (hml : c.maxLocals = 4) (ht : t + 4 < L) (hL : L ≤ 2560) (hK : K < 2 ^ 29) (hG : GR K M M) (hw : n1 ≤ room_1.cells ∧ n2 ≤ room_1.slots) (h : ∀ M2, GR (K + 50) M2 M2 → LWP p l e s m below meth c b Z 762 (LL t) [] SHF M2 n1 n2) : LWP p l e s m below meth c b Z 522 (LL t) [] SHF M n1 n2 := by
  obtain ⟨v, M1, M2, e1, e2, e3⟩ := (keep_S (K := K) (x := Ar xs t 1)).run hG
  refine l_aload_n C d_law_522 (x := 0) rfl ?_
  refine l_arg (j := 1) C ⟨d_law_523, d_law_524, d_law_525, d_law_526, d_law_527⟩ (by decide) (by omega) hL ?_
  refine l_call (As := [.int (Ar xs t 1)]) (st := []) (v := v) (M' := M1) C hml d_law_528 cl_law_69 ⟨Nat.le_of_ble_eq_true rfl, Nat.le_of_ble_eq_true rfl⟩ ⟨rfl, rfl⟩ kd0F rfl (Nat.le_of_ble_eq_true rfl) (S_X10_keep (x1 := Ar xs t 1) pitchF e1) rfl hw ?_
  refine l_aload_n C d_law_531 (x := 242) rfl ?_
  refine l_arg (j := 1) C ⟨d_law_532, d_law_533, d_law_534, d_law_535, d_law_536⟩ (by decide) (by omega) hL ?_
  refine l_call (As := [.int (Ar xs t 1)]) (st := [.int v]) (v := v) (M' := M2) C hml d_law_537 cl_law_72 ⟨Nat.le_of_ble_eq_true rfl, Nat.le_of_ble_eq_true rfl⟩ ⟨rfl, rfl⟩ kd1F rfl (Nat.le_of_ble_eq_true rfl) (S_X11_keep (x1 := Ar xs t 1) modelF e2) rfl hw ?_
  exact l_icmp_eq (tgt := 762) C d_law_540 (by decide) (fun _ => h M2 e3) (fun q => absurd rfl q)
theorem case_back {K t : Nat} (C : LwC p s m c b L xs) (hml : c.maxLocals = 4) (ht : t + 4 < L) (hL : L ≤ 2560) (hK : K < 2 ^ 29) (hG : GR K M M) (hw : n1 ≤ room_1.cells ∧ n2 ≤ room_1.slots) (h : ∀ M2, GR (K + 50) M2 M2 → LWP p l e s m below meth c b Z 762 (LL t) [] SHF M2 n1 n2) : LWP p l e s m below meth c b Z 545 (LL t) [] SHF M n1 n2 := by
  obtain ⟨v, M1, M2, e1, e2, e3⟩ := (back_S (K := K) (x := Ar xs t 1)).run hG
  refine l_aload_n C d_law_545 (x := 0) rfl ?_
  refine l_arg (j := 1) C ⟨d_law_546, d_law_547, d_law_548, d_law_549, d_law_550⟩ (by decide) (by omega) hL ?_
  refine l_call (As := [.int (Ar xs t 1)]) (st := []) (v := v) (M' := M1) C hml d_law_551 cl_law_73 ⟨Nat.le_of_ble_eq_true rfl, Nat.le_of_ble_eq_true rfl⟩ ⟨rfl, rfl⟩ kd0F rfl (Nat.le_of_ble_eq_true rfl) (S_X10_back (x1 := Ar xs t 1) pitchF e1) rfl hw ?_
  refine l_aload_n C d_law_554 (x := 242) rfl ?_
  refine l_arg (j := 1) C ⟨d_law_555, d_law_556, d_law_557, d_law_558, d_law_559⟩ (by decide) (by omega) hL ?_
  refine l_call (As := [.int (Ar xs t 1)]) (st := [.int v]) (v := v) (M' := M2) C hml d_law_560 cl_law_76 ⟨Nat.le_of_ble_eq_true rfl, Nat.le_of_ble_eq_true rfl⟩ ⟨rfl, rfl⟩ kd1F rfl (Nat.le_of_ble_eq_true rfl) (S_X11_back (x1 := Ar xs t 1) modelF e2) rfl hw ?_
  exact l_icmp_eq (tgt := 762) C d_law_563 (by decide) (fun _ => h M2 e3) (fun q => absurd rfl q)
theorem case_differ {K t : Nat} (C : LwC p s m c b L xs) (hml : c.maxLocals = 4) (ht : t + 4 < L) (hL : L ≤ 2560) (hK : K < 2 ^ 29) (hG : GR K M M) (hw : n1 ≤ room_1.cells ∧ n2 ≤ room_1.slots) (h : ∀ M2, GR (K + 50) M2 M2 → LWP p l e s m below meth c b Z 762 (LL t) [] SHF M2 n1 n2) : LWP p l e s m below meth c b Z 568 (LL t) [] SHF M n1 n2 := by
  obtain ⟨v, M1, M2, e1, e2, e3⟩ := (differ_S (K := K) (x := Ar xs t 1)).run hG
  refine l_aload_n C d_law_568 (x := 0) rfl ?_
  refine l_arg (j := 1) C ⟨d_law_569, d_law_570, d_law_571, d_law_572, d_law_573⟩ (by decide) (by omega) hL ?_
  refine l_call (As := [.int (Ar xs t 1)]) (st := []) (v := v) (M' := M1) C hml d_law_574 cl_law_77 ⟨Nat.le_of_ble_eq_true rfl, Nat.le_of_ble_eq_true rfl⟩ ⟨rfl, rfl⟩ kd0F rfl (Nat.le_of_ble_eq_true rfl) (S_X10_differ (x1 := Ar xs t 1) pitchF e1) rfl hw ?_
  refine l_aload_n C d_law_577 (x := 242) rfl ?_
  refine l_arg (j := 1) C ⟨d_law_578, d_law_579, d_law_580, d_law_581, d_law_582⟩ (by decide) (by omega) hL ?_
  refine l_call (As := [.int (Ar xs t 1)]) (st := [.int v]) (v := v) (M' := M2) C hml d_law_583 cl_law_80 ⟨Nat.le_of_ble_eq_true rfl, Nat.le_of_ble_eq_true rfl⟩ ⟨rfl, rfl⟩ kd1F rfl (Nat.le_of_ble_eq_true rfl) (S_X11_differ (x1 := Ar xs t 1) modelF e2) rfl hw ?_
  exact l_icmp_eq (tgt := 762) C d_law_586 (by decide) (fun _ => h M2 e3) (fun q => absurd rfl q)
theorem case_league {K t : Nat} (C : LwC p s m c b L xs) (hml : c.maxLocals = 4) (ht : t + 4 < L) (hL : L ≤ 2560) (hK : K < 2 ^ 29) (hG : GR K M M) (hw : n1 ≤ room_1.cells ∧ n2 ≤ room_1.slots) (h : ∀ M2, GR (K + 50) M2 M2 → LWP p l e s m below meth c b Z 762 (LL t) [] SHF M2 n1 n2) : LWP p l e s m below meth c b Z 591 (LL t) [] SHF M n1 n2 := by
  obtain ⟨v, M1, M2, e1, e2, e3⟩ := (league_S (K := K) (x := Ar xs t 1) (y := Ar xs t 2)).run hG
  refine l_aload_n C d_law_591 (x := 0) rfl ?_
  refine l_arg (j := 1) C ⟨d_law_592, d_law_593, d_law_594, d_law_595, d_law_596⟩ (by decide) (by omega) hL ?_
  refine l_arg (j := 2) C ⟨d_law_597, d_law_598, d_law_599, d_law_600, d_law_601⟩ (by decide) (by omega) hL ?_
  refine l_call (As := [.int (Ar xs t 1), .int (Ar xs t 2)]) (st := []) (v := v) (M' := M1) C hml d_law_602 cl_law_81 ⟨Nat.le_of_ble_eq_true rfl, Nat.le_of_ble_eq_true rfl⟩ ⟨rfl, rfl⟩ kd0F rfl (Nat.le_of_ble_eq_true rfl) (S_X10_league (x1 := Ar xs t 1) (x2 := Ar xs t 2) pitchF e1) rfl hw ?_
  refine l_aload_n C d_law_605 (x := 242) rfl ?_
  refine l_arg (j := 1) C ⟨d_law_606, d_law_607, d_law_608, d_law_609, d_law_610⟩ (by decide) (by omega) hL ?_
  refine l_arg (j := 2) C ⟨d_law_611, d_law_612, d_law_613, d_law_614, d_law_615⟩ (by decide) (by omega) hL ?_
  refine l_call (As := [.int (Ar xs t 1), .int (Ar xs t 2)]) (st := [.int v]) (v := v) (M' := M2) C hml d_law_616 cl_law_84 ⟨Nat.le_of_ble_eq_true rfl, Nat.le_of_ble_eq_true rfl⟩ ⟨rfl, rfl⟩ kd1F rfl (Nat.le_of_ble_eq_true rfl) (S_X11_league (x1 := Ar xs t 1) (x2 := Ar xs t 2) modelF e2) rfl hw ?_
  exact l_icmp_eq (tgt := 762) C d_law_619 (by decide) (fun _ => h M2 e3) (fun q => absurd rfl q)
theorem case_table {K t : Nat} (C : LwC p s m c b L xs) (hml : c.maxLocals = 4) (ht : t + 4 < L) (hL : L ≤ 2560) (hK : K < 2 ^ 29) (hG : GR K M M) (hw : n1 ≤ room_1.cells ∧ n2 ≤ room_1.slots) (h : ∀ M2, GR (K + 50) M2 M2 → LWP p l e s m below meth c b Z 762 (LL t) [] SHF M2 n1 n2) : LWP p l e s m below meth c b Z 624 (LL t) [] SHF M n1 n2 := by
  obtain ⟨v, M1, M2, e1, e2, e3⟩ := (table_S (K := K) (x := Ar xs t 1) (y := Ar xs t 2)).run hG
  refine l_aload_n C d_law_624 (x := 0) rfl ?_
  refine l_arg (j := 1) C ⟨d_law_625, d_law_626, d_law_627, d_law_628, d_law_629⟩ (by decide) (by omega) hL ?_
  refine l_arg (j := 2) C ⟨d_law_630, d_law_631, d_law_632, d_law_633, d_law_634⟩ (by decide) (by omega) hL ?_
  refine l_call (As := [.int (Ar xs t 1), .int (Ar xs t 2)]) (st := []) (v := v) (M' := M1) C hml d_law_635 cl_law_85 ⟨Nat.le_of_ble_eq_true rfl, Nat.le_of_ble_eq_true rfl⟩ ⟨rfl, rfl⟩ kd0F rfl (Nat.le_of_ble_eq_true rfl) (gv_cast (S_X10_table (x1 := Ar xs t 1) (x2 := Ar xs t 2) pitchF) e1) rfl hw ?_
  refine l_aload_n C d_law_638 (x := 242) rfl ?_
  refine l_arg (j := 1) C ⟨d_law_639, d_law_640, d_law_641, d_law_642, d_law_643⟩ (by decide) (by omega) hL ?_
  refine l_arg (j := 2) C ⟨d_law_644, d_law_645, d_law_646, d_law_647, d_law_648⟩ (by decide) (by omega) hL ?_
  refine l_call (As := [.int (Ar xs t 1), .int (Ar xs t 2)]) (st := [.int v]) (v := v) (M' := M2) C hml d_law_649 cl_law_88 ⟨Nat.le_of_ble_eq_true rfl, Nat.le_of_ble_eq_true rfl⟩ ⟨rfl, rfl⟩ kd1F rfl (Nat.le_of_ble_eq_true rfl) (S_X11_table (x1 := Ar xs t 1) (x2 := Ar xs t 2) modelF e2) rfl hw ?_
  exact l_icmp_eq (tgt := 762) C d_law_652 (by decide) (fun _ => h M2 e3) (fun q => absurd rfl q)
theorem case_order {K t : Nat} (C : LwC p s m c b L xs) (hml : c.maxLocals = 4) (ht : t + 4 < L) (hL : L ≤ 2560) (hK : K < 2 ^ 29) (hG : GR K M M) (hw : n1 ≤ room_1.cells ∧ n2 ≤ room_1.slots) (h : ∀ M2, GR (K + 50) M2 M2 → LWP p l e s m below meth c b Z 762 (LL t) [] SHF M2 n1 n2) : LWP p l e s m below meth c b Z 657 (LL t) [] SHF M n1 n2 := by
  obtain ⟨v, M1, M2, e1, e2, e3⟩ := (order_S (K := K) (x := Ar xs t 1)).run hG
  refine l_aload_n C d_law_657 (x := 0) rfl ?_
  refine l_arg (j := 1) C ⟨d_law_658, d_law_659, d_law_660, d_law_661, d_law_662⟩ (by decide) (by omega) hL ?_
  refine l_call (As := [.int (Ar xs t 1)]) (st := []) (v := v) (M' := M1) C hml d_law_663 cl_law_89 ⟨Nat.le_of_ble_eq_true rfl, Nat.le_of_ble_eq_true rfl⟩ ⟨rfl, rfl⟩ kd0F rfl (Nat.le_of_ble_eq_true rfl) (gv_cast (S_X10_order (x1 := Ar xs t 1) pitchF) e1) rfl hw ?_
  refine l_aload_n C d_law_666 (x := 242) rfl ?_
  refine l_arg (j := 1) C ⟨d_law_667, d_law_668, d_law_669, d_law_670, d_law_671⟩ (by decide) (by omega) hL ?_
  refine l_call (As := [.int (Ar xs t 1)]) (st := [.int v]) (v := v) (M' := M2) C hml d_law_672 cl_law_92 ⟨Nat.le_of_ble_eq_true rfl, Nat.le_of_ble_eq_true rfl⟩ ⟨rfl, rfl⟩ kd1F rfl (Nat.le_of_ble_eq_true rfl) (S_X11_order (x1 := Ar xs t 1) modelF e2) rfl hw ?_
  exact l_icmp_eq (tgt := 762) C d_law_675 (by decide) (fun _ => h M2 e3) (fun q => absurd rfl q)
theorem case_tell {K t : Nat} (C : LwC p s m c b L xs) (hml : c.maxLocals = 4) (ht : t + 4 < L) (hL : L ≤ 2560) (hK : K < 2 ^ 29) (hG : GR K M M) (hw : n1 ≤ room_1.cells ∧ n2 ≤ room_1.slots) (h : ∀ M2, GR (K + 50) M2 M2 → LWP p l e s m below meth c b Z 762 (LL t) [] SHF M2 n1 n2) : LWP p l e s m below meth c b Z 680 (LL t) [] SHF M n1 n2 := by
  obtain ⟨v, M1, M2, e1, e2, e3⟩ := (tell_S (K := K) (x := Ar xs t 1)).run hG
  refine l_aload_n C d_law_680 (x := 0) rfl ?_
  refine l_arg (j := 1) C ⟨d_law_681, d_law_682, d_law_683, d_law_684, d_law_685⟩ (by decide) (by omega) hL ?_
  refine l_call (As := [.int (Ar xs t 1)]) (st := []) (v := v) (M' := M1) C hml d_law_686 cl_law_93 ⟨Nat.le_of_ble_eq_true rfl, Nat.le_of_ble_eq_true rfl⟩ ⟨rfl, rfl⟩ kd0F rfl (Nat.le_of_ble_eq_true rfl) (S_X10_tell (x1 := Ar xs t 1) pitchF e1) rfl hw ?_
  refine l_aload_n C d_law_689 (x := 242) rfl ?_
  refine l_arg (j := 1) C ⟨d_law_690, d_law_691, d_law_692, d_law_693, d_law_694⟩ (by decide) (by omega) hL ?_
  refine l_call (As := [.int (Ar xs t 1)]) (st := [.int v]) (v := v) (M' := M2) C hml d_law_695 cl_law_96 ⟨Nat.le_of_ble_eq_true rfl, Nat.le_of_ble_eq_true rfl⟩ ⟨rfl, rfl⟩ kd1F rfl (Nat.le_of_ble_eq_true rfl) (S_X11_tell (x1 := Ar xs t 1) modelF e2) rfl hw ?_
  exact l_icmp_eq (tgt := 762) C d_law_698 (by decide) (fun _ => h M2 e3) (fun q => absurd rfl q)
theorem case_check {K t : Nat} (C : LwC p s m c b L xs) (hml : c.maxLocals = 4) (ht : t + 4 < L) (hL : L ≤ 2560) (hK : K < 2 ^ 29) (hG : GR K M M) (hw : n1 ≤ room_1.cells ∧ n2 ≤ room_1.slots) (h : ∀ M2, GR (K + 50) M2 M2 → LWP p l e s m below meth c b Z 762 (LL t) [] SHF M2 n1 n2) : LWP p l e s m below meth c b Z 703 (LL t) [] SHF M n1 n2 := by
  obtain ⟨v, M1, M2, e1, e2, e3⟩ := (check_S (K := K)  hK).run hG
  refine l_aload_n C d_law_703 (x := 0) rfl ?_
  refine l_call (As := []) (st := []) (v := v) (M' := M1) C hml d_law_704 cl_law_97 ⟨Nat.le_of_ble_eq_true rfl, Nat.le_of_ble_eq_true rfl⟩ ⟨rfl, rfl⟩ kd0F rfl (Nat.le_of_ble_eq_true rfl) (S_X10_check  pitchF e1) rfl hw ?_
  refine l_aload_n C d_law_707 (x := 242) rfl ?_
  refine l_call (As := []) (st := [.int v]) (v := v) (M' := M2) C hml d_law_708 cl_law_100 ⟨Nat.le_of_ble_eq_true rfl, Nat.le_of_ble_eq_true rfl⟩ ⟨rfl, rfl⟩ kd1F rfl (Nat.le_of_ble_eq_true rfl) (S_X11_check  modelF e2) rfl hw ?_
  exact l_icmp_eq (tgt := 762) C d_law_711 (by decide) (fun _ => h M2 e3) (fun q => absurd rfl q)
theorem case_count {K t : Nat} (C : LwC p s m c b L xs) (hml : c.maxLocals = 4) (ht : t + 4 < L) (hL : L ≤ 2560) (hK : K < 2 ^ 29) (hG : GR K M M) (hw : n1 ≤ room_1.cells ∧ n2 ≤ room_1.slots) (h : ∀ M2, GR (K + 50) M2 M2 → LWP p l e s m below meth c b Z 762 (LL t) [] SHF M2 n1 n2) : LWP p l e s m below meth c b Z 716 (LL t) [] SHF M n1 n2 := by
  obtain ⟨v, M1, M2, e1, e2, e3⟩ := (count_sim (K := K) (x := Ar xs t 1)).run hG
  refine l_aload_n C d_law_716 (x := 0) rfl ?_
  refine l_arg (j := 1) C ⟨d_law_717, d_law_718, d_law_719, d_law_720, d_law_721⟩ (by decide) (by omega) hL ?_
  refine l_call (As := [.int (Ar xs t 1)]) (st := []) (v := v) (M' := M1) C hml d_law_722 cl_law_101 ⟨Nat.le_of_ble_eq_true rfl, Nat.le_of_ble_eq_true rfl⟩ ⟨rfl, rfl⟩ kd0F rfl (Nat.le_of_ble_eq_true rfl) (gv_cast (S_X10_count (x1 := Ar xs t 1) pitchF) e1) rfl hw ?_
  refine l_aload_n C d_law_725 (x := 242) rfl ?_
  refine l_arg (j := 1) C ⟨d_law_726, d_law_727, d_law_728, d_law_729, d_law_730⟩ (by decide) (by omega) hL ?_
  refine l_call (As := [.int (Ar xs t 1)]) (st := [.int v]) (v := v) (M' := M2) C hml d_law_731 cl_law_104 ⟨Nat.le_of_ble_eq_true rfl, Nat.le_of_ble_eq_true rfl⟩ ⟨rfl, rfl⟩ kd1F rfl (Nat.le_of_ble_eq_true rfl) (S_X11_count (x1 := Ar xs t 1) modelF e2) rfl hw ?_
  exact l_icmp_eq (tgt := 762) C d_law_734 (by decide) (fun _ => h M2 e3) (fun q => absurd rfl q)
theorem case_found {K t : Nat} (C : LwC p s m c b L xs) (hml : c.maxLocals = 4) (ht : t + 4 < L) (hL : L ≤ 2560) (hK : K < 2 ^ 29) (hG : GR K M M) (hw : n1 ≤ room_1.cells ∧ n2 ≤ room_1.slots) (h : ∀ M2, GR (K + 50) M2 M2 → LWP p l e s m below meth c b Z 762 (LL t) [] SHF M2 n1 n2) : LWP p l e s m below meth c b Z 739 (LL t) [] SHF M n1 n2 := by
  obtain ⟨v, M1, M2, e1, e2, e3⟩ := (found_sim (K := K) (x := Ar xs t 1)).run hG
  refine l_aload_n C d_law_739 (x := 0) rfl ?_
  refine l_arg (j := 1) C ⟨d_law_740, d_law_741, d_law_742, d_law_743, d_law_744⟩ (by decide) (by omega) hL ?_
  refine l_call (As := [.int (Ar xs t 1)]) (st := []) (v := v) (M' := M1) C hml d_law_745 cl_law_105 ⟨Nat.le_of_ble_eq_true rfl, Nat.le_of_ble_eq_true rfl⟩ ⟨rfl, rfl⟩ kd0F rfl (Nat.le_of_ble_eq_true rfl) (gv_cast (S_X10_found (x1 := Ar xs t 1) pitchF) e1) rfl hw ?_
  refine l_aload_n C d_law_748 (x := 242) rfl ?_
  refine l_arg (j := 1) C ⟨d_law_749, d_law_750, d_law_751, d_law_752, d_law_753⟩ (by decide) (by omega) hL ?_
  refine l_call (As := [.int (Ar xs t 1)]) (st := [.int v]) (v := v) (M' := M2) C hml d_law_754 cl_law_108 ⟨Nat.le_of_ble_eq_true rfl, Nat.le_of_ble_eq_true rfl⟩ ⟨rfl, rfl⟩ kd1F rfl (Nat.le_of_ble_eq_true rfl) (S_X11_found (x1 := Ar xs t 1) modelF e2) rfl hw ?_
  exact l_icmp_eq (tgt := 762) C d_law_757 (by decide) (fun _ => h M2 e3) (fun q => absurd rfl q)
end LWC
