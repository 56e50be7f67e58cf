/-! ===== feed ===== -/
theorem byte_s (x : Int64) (s : Nat) (hs : s < 57) (u : UInt64) (w : Int64) (hu : u.toBitVec % 64#64 = BitVec.ofNat 64 s) (hw : w.toBitVec.smod 64#64 = BitVec.ofNat 64 s) : ((x.toUInt64 >>> u).toInt64).toInt32 &&& (255 : Int32) = ((x >>> w) &&& (255 : Int64)).toInt32 := by
  apply Int32.toBitVec_inj.mp
  have h1 : ((x >>> w) : Int64).toBitVec = x.toBitVec.sshiftRight' (w.toBitVec.smod 64#64) := rfl
  have h2 : ((x.toUInt64 >>> u) : UInt64).toBitVec = x.toBitVec >>> (u.toBitVec % 64#64) := rfl
  rw [Int32.toBitVec_and, Int64.toBitVec_toInt32, UInt64.toBitVec_toInt64, h2, Int64.toBitVec_toInt32, Int64.toBitVec_and, h1, hu, hw]
  have hs2 : (BitVec.ofNat 64 s).toNat = s := by rw [BitVec.toNat_ofNat]; omega
  apply BitVec.eq_of_getLsbD_eq
  intro j hj
  have e255a : (255 : Int32).toBitVec.getLsbD j = decide (j < 8) := by
    have : ∀ j, j < 32 → (255 : Int32).toBitVec.getLsbD j = decide (j < 8) := by decide
    exact this j hj
  have e255b : (255 : Int64).toBitVec.getLsbD j = decide (j < 8) := by
    have : ∀ j, j < 32 → (255 : Int64).toBitVec.getLsbD j = decide (j < 8) := by decide
    exact this j hj
  rw [BitVec.getLsbD_and, BitVec.getLsbD_signExtend, BitVec.getLsbD_signExtend, BitVec.getLsbD_and, e255a, e255b]
  by_cases c : j < 8
  · simp [c, hj, BitVec.sshiftRight', BitVec.getElem_sshiftRight, hs2, show j < 64 by omega, show s + j < 64 by omega, show ¬ 64 ≤ j by omega]
  · simp [c]
    intro _ h64
    omega
theorem byte_eq (x : Int64) {i : Nat} (hi : i < 8) : ((x.toUInt64 >>> (((8 : Int32) * nI i).toInt64.toUInt64 &&& Int64.toUInt64 63)).toInt64).toInt32 &&& (255 : Int32) = ((x >>> (((8 : Int32) * nI i).toInt64 &&& 63)) &&& (255 : Int64)).toInt32 := by
  rcases (show i = 0 ∨ i = 1 ∨ i = 2 ∨ i = 3 ∨ i = 4 ∨ i = 5 ∨ i = 6 ∨ i = 7 by omega) with rfl | rfl | rfl | rfl | rfl | rfl | rfl | rfl
  · exact byte_s x 0 (by decide) _ _ (by decide) (by decide)
  · exact byte_s x 8 (by decide) _ _ (by decide) (by decide)
  · exact byte_s x 16 (by decide) _ _ (by decide) (by decide)
  · exact byte_s x 24 (by decide) _ _ (by decide) (by decide)
  · exact byte_s x 32 (by decide) _ _ (by decide) (by decide)
  · exact byte_s x 40 (by decide) _ _ (by decide) (by decide)
  · exact byte_s x 48 (by decide) _ _ (by decide) (by decide)
  · exact byte_s x 56 (by decide) _ _ (by decide) (by decide)
section FD
variable {K : Nat} {A B : Mem}
def ap1 (T : Nat → Nat) (n c : Nat) : Nat → Nat := fun j => if j = n then c else T j
theorem feed_loop {x : Int64} {m : Nat} (hm : m ≤ 8) {A0 B0 : Mem} : ∀ (k i f : Nat) (n : Nat) (T : Nat → Nat) (A B : Mem), i + k = m → k < f → n + k ≤ 800 → Tape A T n → TapeM B T n → (∀ c, c ≠ 2 → c ≠ 3 → A.1 c = A0.1 c) → (∀ j, j ≠ 5 → A.1 2 j = A0.1 2 j) → A.2 = A0.2 → (∀ c, c ≠ 242 → c ≠ 243 → B.1 c = B0.1 c) → (∀ j, j ≠ 1 → B.1 242 j = B0.1 242 j) → B.2 = B0.2 →
    ∃ A' B' T', L_X10_feed_45 x (nI m) f (nI i) A = some A' ∧ L_X11_feed_42 x (nI m) 259 f (nI i) B = some B' ∧ Tape A' T' (n + k) ∧ TapeM B' T' (n + k) ∧ (∀ c, c ≠ 2 → c ≠ 3 → A'.1 c = A0.1 c) ∧ (∀ j, j ≠ 5 → A'.1 2 j = A0.1 2 j) ∧ A'.2 = A0.2 ∧ (∀ c, c ≠ 242 → c ≠ 243 → B'.1 c = B0.1 c) ∧ (∀ j, j ≠ 1 → B'.1 242 j = B0.1 242 j) ∧ B'.2 = B0.2 := by
  intro k
  induction k with
  | zero =>
    intro i f n T A B hi hf hn hT hM a1 a2 a3 b1 b2 b3
    obtain ⟨f, rfl⟩ : ∃ x, f = x + 1 := ⟨f - 1, by omega⟩
    refine ⟨A, B, T, ?_, ?_, hT, hM, a1, a2, a3, b1, b2, b3⟩
    · rw [L_X10_feed_45, if_pos (nI_le (by omega) (by omega))]
    · rw [L_X11_feed_42, if_pos (nI_le (by omega) (by omega))]
  | succ k ih =>
    intro i f n T A B hi hf hn hT hM a1 a2 a3 b1 b2 b3
    obtain ⟨f, rfl⟩ : ∃ x, f = x + 1 := ⟨f - 1, by omega⟩
    have e := byte_eq x (show i < 8 by omega)
    obtain ⟨c, hc, ec⟩ := pk_andE ((x.toUInt64 >>> (((8 : Int32) * nI i).toInt64.toUInt64 &&& Int64.toUInt64 63)).toInt64).toInt32 (m := 255) 8 (by decide)
    rw [L_X10_feed_45, if_neg (nI_ge (by omega) (by omega)), L_X11_feed_42, if_neg (nI_ge (by omega) (by omega)), ← e, ec, hM.1, ck_nI (by omega) (by omega), nI_clamp (by omega), nI_1, nI_1]
    have eA : R_X4_append 2 (nI c) A = some (setI (setI A 3 n (nI c)) 2 5 (nI (n + 1))) := by
      unfold R_X4_append
      rw [hT.1, if_neg (nleL (y := 800) 800 (by omega) rfl (by decide)), ck_nI (by omega) (by omega), nI_clamp (by omega), nI_1]
      rfl
    rw [bnd1_e eA]
    have := ih (i + 1) f (n + 1) (ap1 T n c) (setI (setI A 3 n (nI c)) 2 5 (nI (n + 1))) (setI (setI B 243 n (nI c)) 242 1 (nI (n + 1))) (by omega) (by omega) (by omega) ⟨gs_eI, by omega, fun j hj => ?_⟩ ⟨gs_eI, by omega, fun j hj => ?_⟩ (fun d p1 p2 => by rw [fI p1, fI p2]; exact a1 d p1 p2) (fun j hj => by rw [gI (Or.inr hj), gI (Or.inl (by decide))]; exact a2 j hj) a3 (fun d p1 p2 => by rw [fI p1, fI p2]; exact b1 d p1 p2) (fun j hj => by rw [gI (Or.inr hj), gI (Or.inl (by decide))]; exact b2 j hj) b3
    · rw [show n + (k + 1) = n + 1 + k by omega]; exact this
    · unfold ap1
      rw [gI (Or.inl (by decide))]
      by_cases ej : j = n
      · rw [if_pos ej, ej, gs_eI]; exact ⟨rfl, hc⟩
      · rw [if_neg ej, gI (Or.inr ej)]; exact hT.2.2 j (by omega)
    · unfold ap1
      rw [gI (Or.inl (by decide))]
      by_cases ej : j = n
      · rw [if_pos ej, ej, gs_eI]; exact ⟨rfl, hc⟩
      · rw [if_neg ej, gI (Or.inr ej)]; exact hM.2.2 j (by omega)
/-- the tape, and nothing else, has changed -/
theorem GR.tp {A' B' : Mem} (h : GR K A B) (a1 : ∀ c, c ≠ 2 → c ≠ 3 → A'.1 c = A.1 c) (a3 : A'.2 = A.2) (b1 : ∀ c, c ≠ 242 → c ≠ 243 → B'.1 c = B.1 c) (b2 : ∀ j, j ≠ 1 → B'.1 242 j = B.1 242 j) (hT : ∃ T n, Tape A' T n ∧ TapeM B' T n) : GR (K + 50) A' B' := by
  obtain ⟨h1, h2, h3, h4, h5, h6, h7⟩ := h
  have s : SP A B A' B' := ⟨fun c p1 p2 => ⟨a1 c (by omega) (by omega), by rw [a3]⟩, by rw [a1 0 (by decide) (by decide)], fun c p1 p2 => b1 c (by omega) (by omega)⟩
  refine ⟨?_, h2.cg (a1 1 (by decide) (by decide)) (b1 253 (by decide) (by decide)), h3.cg s (fun c p1 p2 => a1 c (by omega) (by omega)) (fun c p1 p2 => b1 c (by omega) (by omega)), h4.cg (by rw [a1 0 (by decide) (by decide)]) (a1 15 (by decide) (by decide)) (b2 46 (by decide)) (b1 268 (by decide) (by decide)), h5.cg (by omega) s (fun c p1 p2 => a1 c (by omega) (by omega)) (b2 30 (by decide)) (b1 259 (by decide) (by decide)), h6.cg (by omega) s (fun c p1 p2 => a1 c (by omega) (by omega)) (b1 261 (by decide) (by decide)), h7.cg (fun c p1 p2 => a1 c (by omega) (by omega)) (fun c p1 p2 => a1 c (by omega) (by omega)) (b2 42 (by decide)) (fun c p1 p2 => b1 c (by omega) (by omega))⟩
  obtain ⟨q, g1, g2, g3, g4, g5, _, g8, g9, g10⟩ := h1
  refine ⟨q, g1, by rw [s.2.1]; exact g2, by rw [b2 8 (by decide)]; exact g3, by rw [a1 0 (by decide) (by decide), b2 2 (by decide)]; exact g4, fun e => by rw [a1 0 (by decide) (by decide)]; exact g5 e, hT, fun i w e => by rw [a3]; exact g8 i w e, fun i hi d hd => by rw [a1 d (by omega) (by omega)]; exact g9 i hi d hd, fun i hi => ?_⟩
  obtain ⟨pg, hp⟩ := g10 i hi
  exact ⟨pg, hp.sp s⟩
theorem feed_S {x : Int64} {y : Int32} : Sim K (fun M => R_X10_feed x y M) (fun M => R_X11_feed x y 259 M) := fun A B h => by
  show Out K A B (R_X10_feed x y A) (R_X11_feed x y 259 B)
  obtain ⟨q, _, _, _, _, _, ⟨T, n, hT, hM⟩, _⟩ := h.1
  unfold R_X10_feed R_X11_feed
  rcases pk_ix y (n := 9) (by decide) with c | c | ⟨m, hm, rfl⟩
  · have c1 : y < (1 : Int32) := by
      rw [Int32.lt_iff_toInt_lt] at c ⊢
      have e1 : (0 : Int32).toInt = 0 := rfl
      have e2 : (1 : Int32).toInt = 1 := rfl
      omega
    rw [if_pos c1, if_pos c1]; exact finB h
  · have c1 : ¬ y < (1 : Int32) := fun q => by
      rw [Int32.lt_iff_toInt_lt] at q
      rw [Int32.le_iff_toInt_le] at c
      have e1 : (nI 9).toInt = 9 := rfl
      have e2 : (1 : Int32).toInt = 1 := rfl
      omega
    have c3 : ¬ y ≤ (8 : Int32) := fun q => by
      rw [Int32.le_iff_toInt_le] at c q
      have e1 : (nI 9).toInt = 9 := rfl
      have e2 : (8 : Int32).toInt = 8 := rfl
      omega
    rw [if_neg c1, if_neg c3, if_neg c1, if_neg c3]; exact finB h
  · by_cases c0 : m = 0
    · subst c0
      rw [if_pos (show nI 0 < (1 : Int32) by decide), if_pos (show nI 0 < (1 : Int32) by decide)]; exact finB h
    · have c1 : ¬ nI m < (1 : Int32) := nltL (y := 1) 1 (by omega) rfl (by omega)
      have hn := hT.2.1
      unfold V_X4_length
      rw [if_neg c1, if_neg c1, if_pos (show nI m ≤ (8 : Int32) from nI_le (b := 8) (by omega) (by decide)), if_pos (show nI m ≤ (8 : Int32) from nI_le (b := 8) (by omega) (by decide)), hT.1, hM.1, nI_add]
      by_cases cf : n + m ≤ 800
      · rw [if_pos (show nI (n + m) ≤ (800 : Int32) from nI_le (b := 800) cf (by decide)), if_pos (show nI (n + m) ≤ (800 : Int32) from nI_le (b := 800) cf (by decide))]
        obtain ⟨A', B', T', g1, g2, g3, g4, a1, a2, a3, b1, b2, b3⟩ := feed_loop (x := x) (m := m) (by omega) (A0 := A) (B0 := B) m 0 FUEL n T A B (by omega) (by unfold FUEL; omega) cf hT hM (fun _ _ _ => rfl) (fun _ _ => rfl) rfl (fun _ _ _ => rfl) (fun _ _ => rfl) rfl
        rw [show nI 0 = (0 : Int32) from rfl] at g1 g2
        rw [bnd1_e g1, bnd1_e g2, g3.1, g4.1]
        exact ⟨_, A', B', rfl, rfl, h.tp a1 a3 b1 b2 ⟨T', n + m, g3, g4⟩, fun d hd => ⟨a1 d (by omega) (by omega), by rw [a3]⟩, fun d hd => ⟨b1 d (by omega) (by omega), by rw [b3]⟩⟩
      · rw [if_neg (show ¬ nI (n + m) ≤ (800 : Int32) from nI_ge (a := 800) (by omega) (by omega)), if_neg (show ¬ nI (n + m) ≤ (800 : Int32) from nI_ge (a := 800) (by omega) (by omega))]
        exact finFull h
end FD
