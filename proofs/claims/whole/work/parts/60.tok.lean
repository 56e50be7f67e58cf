/-! ===== texts: words, and how they lie on the tape ===== -/
/-- a word: its kind (as the class numbers the kinds), its letters, its number, where it begins -/
abbrev Tk : Type := Nat × List Nat × Nat × Nat
def isL (c : Nat) : Bool := decide (97 ≤ c ∧ c ≤ 122)
def isF (c : Nat) : Bool := decide (48 ≤ c ∧ c ≤ 57)
def isB (c : Nat) : Bool := decide (c = 32 ∨ c = 10)
def sgK (c : Nat) : Nat := if c = 123 then 27 else if c = 125 then 28 else if c = 60 then 29 else if c = 61 then 30 else if c = 62 then 31 else if c = 43 then 32 else if c = 45 then 33 else if c = 42 then 34 else if c = 59 then 35 else 36
def upto (P : Nat → Bool) (T : Nat → Nat) : Nat → Nat → Nat
  | 0, p => p
  | k + 1, p => if P (T p) = true then upto P T k (p + 1) else p
theorem upto_le {P : Nat → Bool} {T : Nat → Nat} : ∀ (k p : Nat), p ≤ upto P T k p ∧ upto P T k p ≤ p + k := by
  intro k
  induction k with
  | zero => intro p; exact ⟨Nat.le_refl _, Nat.le_refl _⟩
  | succ k ih =>
    intro p
    unfold upto
    have := ih (p + 1)
    split
    · omega
    · omega
theorem upto_gt {P : Nat → Bool} {T : Nat → Nat} {k p : Nat} (hk : 0 < k) (h : P (T p) = true) : p < upto P T k p := by
  obtain ⟨k, rfl⟩ : ∃ m, k = m + 1 := ⟨k - 1, by omega⟩
  unfold upto
  rw [if_pos h]
  have := (upto_le (P := P) (T := T) k (p + 1)).1
  omega
/-- letters p .. q-1, each as 1 .. 26 -/
def lets (T : Nat → Nat) (p q : Nat) : List Nat := (List.range (q - p)).map (fun i => T (p + i) - 96)
def pkN (b : Nat) (l : List Nat) : Nat := l.foldl (fun a d => a * b + d) 0
def cap1 (x : Nat) : Nat := if x < 1000 then x else 1000
def nums (T : Nat → Nat) (p q : Nat) : Nat := (List.range (q - p)).foldl (fun a i => cap1 (a * 10 + (T (p + i) - 48))) 0
def kn : List (List Nat) := [[19, 20, 1, 20, 5], [23, 8, 5, 14], [1, 14, 4], [7, 15], [19, 5, 20], [13, 15, 22, 5], [20, 15], [11, 9, 3, 11], [19, 20, 1, 25], [13, 1, 20, 5, 24], [13, 1, 20, 5, 25], [6, 15, 5, 24], [6, 15, 5, 25], [1], [2], [3], [4], [2, 1, 12, 12, 24], [2, 1, 12, 12, 25], [13, 25, 24], [13, 25, 25], [8, 5, 12, 4], [20, 9, 3, 11], [12, 5, 1, 4], [14, 5, 1, 18]]
def kwI (l : List Nat) : List (List Nat) → Nat → Nat
  | [], _ => 26
  | w :: ws, i => if w = l then i else kwI l ws (i + 1)
def kw (l : List Nat) : Nat := kwI l kn 0
/-- the word at p (no blank there), and where it ends -/
def tokAt (T : Nat → Nat) (n p : Nat) : Tk × Nat :=
  if isL (T p) = true then ((if upto isL T (n - p) p - p ≤ 12 then kw (lets T p (upto isL T (n - p) p)) else 36, lets T p (upto isL T (n - p) p), 0, p), upto isL T (n - p) p)
  else if isF (T p) = true then ((if nums T p (upto isF T (n - p) p) ≤ 999 then 25 else 36, [], nums T p (upto isF T (n - p) p), p), upto isF T (n - p) p)
  else ((sgK (T p), [], 0, p), p + 1)
/-- the words from p on: the last is the end (37) or a wrong one (36) -/
def scan (T : Nat → Nat) (n : Nat) : Nat → Nat → List Tk
  | 0, _ => [(37, [], 0, n)]
  | k + 1, p =>
    if n ≤ upto isB T (n - p) p then [(37, [], 0, n)]
    else if (tokAt T n (upto isB T (n - p) p)).1.1 = 36 then [(tokAt T n (upto isB T (n - p) p)).1]
    else (tokAt T n (upto isB T (n - p) p)).1 :: scan T n k (tokAt T n (upto isB T (n - p) p)).2
theorem tokAt_gt {T : Nat → Nat} {n p : Nat} (h : p < n) : p < (tokAt T n p).2 ∧ (tokAt T n p).2 ≤ n := by
  unfold tokAt
  by_cases c1 : isL (T p) = true
  · rw [if_pos c1]
    have := upto_gt (P := isL) (T := T) (k := n - p) (p := p) (by omega) c1
    have := upto_le (P := isL) (T := T) (n - p) p
    dsimp only
    omega
  · rw [if_neg c1]
    by_cases c2 : isF (T p) = true
    · rw [if_pos c2]
      have := upto_gt (P := isF) (T := T) (k := n - p) (p := p) (by omega) c2
      have := upto_le (P := isF) (T := T) (n - p) p
      dsimp only
      omega
    · rw [if_neg c2]
      dsimp only
      omega
theorem tokAt_pos {T : Nat → Nat} {n p : Nat} : (tokAt T n p).1.2.2.2 = p := by
  unfold tokAt
  split
  · rfl
  · split <;> rfl
/-! the reading, without memory: an answer and the words left, or where the fault is -/
abbrev PR (α : Type) : Type := (α × List Tk) ⊕ Nat
def ps0 (ts : List Tk) : Nat := (ts.headD (37, [], 0, 0)).2.2.2
def kd0 (ts : List Tk) : Nat := (ts.headD (37, [], 0, 0)).1
def pthen {α β : Type} (x : PR α) (f : α → List Tk → PR β) : PR β :=
  match x with
  | .inl (a, ts) => f a ts
  | .inr p => .inr p
/-- a word of a kind between k1 and k2 -/
def pWord (k1 k2 : Nat) (ts : List Tk) : PR Tk :=
  match ts with
  | [] => .inr 0
  | t :: ts => if k1 ≤ t.1 ∧ t.1 ≤ k2 then .inl (t, ts) else .inr t.2.2.2
def pMin : List Tk → Nat → Int32 → PR Int32
  | [], _, _ => .inr 0
  | t :: ts, k, s => if t.1 = 33 then (if k = 6 then .inr t.2.2.2 else pMin ts (k + 1) (-s)) else .inl (s, t :: ts)
def pTerm (j : Nat) (ts : List Tk) : PR Tm :=
  pthen (pMin ts 0 1) fun s ts => pthen (pWord 9 25 ts) fun t ts =>
    if t.1 = 25 then .inl ((nI j, s, 0, nI t.2.2.1), ts)
    else if 17 ≤ t.1 then .inl ((nI j, s, 2, nI (t.1 - 17)), ts)
    else if 13 ≤ t.1 then .inl ((nI j, s, 1, nI (t.1 - 13)), ts)
    else pthen (pWord 25 25 ts) fun u us => if u.2.2.1 < 5 then .inl ((nI j, s, 2, nI (8 + (t.1 - 9) * 5 + u.2.2.1)), us) else .inr u.2.2.2
/-- a sum: f counts down from 12 -/
def pSum : Nat → Nat → List Tk → PR Sm
  | 0, _, ts => .inr (ps0 ts)
  | f + 1, j, ts => pthen (pTerm j ts) fun t ts => if 32 ≤ kd0 ts ∧ kd0 ts ≤ 34 then pthen (pSum f (kd0 ts) (ts.tail)) fun l us => .inl (t :: l, us) else .inl ([t], ts)
def pTest (ts : List Tk) : PR Ts :=
  pthen (pSum 12 32 ts) fun a ts => pthen (pWord 29 31 ts) fun o ts => pthen (pSum 12 32 ts) fun b ts => .inl ((nI o.1, a, b), ts)
/-- test and test and ..: the words left begin with no `and` -/
def pTests : Nat → List Tk → PR (List Ts)
  | 0, ts => .inl ([], ts)
  | f + 1, ts => pthen (pTest ts) fun t ts => if kd0 ts = 2 then pthen (pTests f ts.tail) fun l us => .inl (t :: l, us) else .inl ([t], ts)
