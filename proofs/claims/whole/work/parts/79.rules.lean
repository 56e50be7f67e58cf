/-! ===== the class reads a state's rules ===== -/
def pRules : Nat → List Tk → PR (List PL)
  | 0, ts => if kd0 ts = 1 then .inr (ps0 ts) else .inl ([], ts)
  | g + 1, ts => if kd0 ts = 1 then pthen (pRule ts) fun a ts => pthen (pRules g ts) fun l us => .inl (a :: l, us) else .inl ([], ts)
/-- what lay in the rows of rules lies there still -/
def RwL (P r : Nat) (A A' : Mem) : Prop := ∀ z, z ≤ r → A'.1 (P + 3) z = A.1 (P + 3) z ∧ A'.1 (P + 4) z = A.1 (P + 4) z
theorem RwL.tr {P r r' : Nat} {A A1 A' : Mem} (h : RwL P r A A1) (g : RwL P r' A1 A') (hr : r ≤ r') : RwL P r A A' := fun z hz => ⟨(g z (by omega)).1.trans (h z hz).1, (g z (by omega)).2.trans (h z hz).2⟩
theorem RlK.rw {P s k q a s' k' q' a' r R : Nat} {pl : PL} {A A' : Mem} (h : RlK A P s k q a r pl) (hr : r + 1 ≤ R) (g : RwS P s k A A') (gq : RwQ P q A A') (gc : RwC P a A A') (gl : RwL P R A A') (hs : s ≤ s') (hk : k ≤ k') (hq : q ≤ q') (ha : a ≤ a') : RlK A' P s' k' q' a' r pl := by
  obtain ⟨⟨q0, h1, h2, h3, h4⟩, a0, h5, h6, h7, h8⟩ := h
  refine ⟨⟨q0, by rw [(gl r (by omega)).1]; exact h1, by rw [(gl (r + 1) hr).1]; exact h2, by omega, fun m t e => ?_⟩, a0, by rw [(gl r (by omega)).2]; exact h5, by rw [(gl (r + 1) hr).2]; exact h6, by omega, fun m pa e => ?_⟩
  · have hm : m < pl.1.length := by
      obtain ⟨w, _⟩ := List.getElem?_eq_some_iff.mp e
      exact w
    exact (h4 m t e).rw (q := q) (by omega) g gq hs hk
  · have hm : m < pl.2.length := by
      obtain ⟨w, _⟩ := List.getElem?_eq_some_iff.mp e
      exact w
    exact ⟨(h8 m pa e).1.rw (a := a) (by omega) g gc hs hk, (h8 m pa e).2⟩
theorem rules_F {P p f : Nat} {w2 u3 : Int32} {A : Mem} (hp : p ≤ 800) (h : RdF A p) : L_X4_compile_91 2 P w2 (f + 1) u3 A = some A := by
  rw [L_X4_compile_91, h, if_pos (nI_pos' (by omega))]
  split <;> rfl
