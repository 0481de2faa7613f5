/-! THE TEXT: what a token is -/
abbrev blP (v : Int32) : Prop := v = 32 ∨ v = 10
abbrev leP (v : Int32) : Prop := 97 ≤ v.toInt ∧ v.toInt ≤ 122
abbrev diP (v : Int32) : Prop := 48 ≤ v.toInt ∧ v.toInt ≤ 57
abbrev sgP (v : Int32) : Prop := v = 40 ∨ v = 41 ∨ v = 59 ∨ v = 43 ∨ v = 45 ∨ v = 42 ∨ v = 60 ∨ v = 61
def blB (v : Int32) : Bool := decide (blP v)
def leB (v : Int32) : Bool := decide (leP v)
def diB (v : Int32) : Bool := decide (diP v)
theorem blB_t {v : Int32} : blB v = true ↔ blP v := decide_eq_true_iff
theorem leB_t {v : Int32} : leB v = true ↔ leP v := decide_eq_true_iff
theorem diB_t {v : Int32} : diB v = true ↔ diP v := decide_eq_true_iff
/-- the end of a run of bytes of a kind -/
def runF (n : Nat) (f : Nat → Int32) (b : Int32 → Bool) : Nat → Nat → Nat
  | 0, q => q
  | k + 1, q => if q < n ∧ b (f q) = true then runF n f b k (q + 1) else q
theorem run_le {n : Nat} {f : Nat → Int32} {b : Int32 → Bool} : ∀ (k q : Nat), q ≤ n → q ≤ runF n f b k q ∧ runF n f b k q ≤ n := by
  intro k
  induction k with
  | zero => intro q h; exact ⟨Nat.le_refl _, h⟩
  | succ k ih =>
    intro q h
    unfold runF
    by_cases c : q < n ∧ b (f q) = true
    · rw [if_pos c]; have := ih (q + 1) (by omega); omega
    · rw [if_neg c]; exact ⟨Nat.le_refl _, h⟩
theorem run_stop {n : Nat} {f : Nat → Int32} {b : Int32 → Bool} : ∀ (k q : Nat), n - q ≤ k → runF n f b k q < n → ¬ b (f (runF n f b k q)) = true := by
  intro k
  induction k with
  | zero => intro q h h2; exact absurd h2 (by show ¬ q < n; omega)
  | succ k ih =>
    intro q h
    unfold runF
    by_cases c : q < n ∧ b (f q) = true
    · rw [if_pos c]; exact ih (q + 1) (by omega)
    · rw [if_neg c]; intro h2 h3; exact c ⟨h2, h3⟩
theorem run_in {n : Nat} {f : Nat → Int32} {b : Int32 → Bool} : ∀ (k q j : Nat), q ≤ j → j < runF n f b k q → b (f j) = true := by
  intro k
  induction k with
  | zero => intro q j h1 h2; exact absurd h2 (by show ¬ j < q; omega)
  | succ k ih =>
    intro q j h1 h2
    unfold runF at h2
    by_cases c : q < n ∧ b (f q) = true
    · rw [if_pos c] at h2
      by_cases e : j = q
      · rw [e]; exact c.2
      · exact ih (q + 1) j (by omega) h2
    · rw [if_neg c] at h2; omega
theorem run_gt {n : Nat} {f : Nat → Int32} {b : Int32 → Bool} {k q : Nat} (h : q < n) (hb : b (f q) = true) (hk : n - q ≤ k) : q < runF n f b k q := by
  match k, hk with
  | 0, hk => omega
  | k + 1, hk =>
    unfold runF
    rw [if_pos ⟨h, hb⟩]
    have := (run_le (f := f) (b := b) k (q + 1) (show q + 1 ≤ n by omega)).1
    omega
/-- the words, in the component's order: 0 to 5 keys, 6 to 11 names; letters as the reference lists them -/
def lenW (k : Nat) : Nat := [4, 5, 6, 2, 3, 3, 4, 4, 6, 5, 3, 3].getD k 0
def offW (k : Nat) : Nat := [31, 36, 42, 49, 52, 56, 0, 5, 10, 17, 23, 27].getD k 0
def chW (k i : Nat) : Int32 := lt7.getD (offW k + i) 0
theorem tblC : ∀ k, k < 12 → ∀ i, i < 7 → chT 1 (nI (7 * k + i)) = if i < lenW k then chW k i else 32 := by decide +kernel
theorem tblL : ∀ k, k < 12 → ∀ i, i < lenW k → leP (chW k i) := by decide +kernel
theorem tblN : ∀ k, k < 12 → 2 ≤ lenW k ∧ lenW k ≤ 6 ∧ offW k + lenW k < 60 := by decide +kernel
theorem tblE : ∀ k, k < 12 → lt7.getD (offW k + lenW k) 0 = 32 := by decide +kernel
theorem tblU : ∀ k, k < 12 → ∀ k', k' < 12 → k ≠ k' → lenW k = lenW k' → ∃ i, i < lenW k ∧ chW k i ≠ chW k' i := by decide +kernel
abbrev isW (k n : Nat) (f : Nat → Int32) : Prop := n = lenW k ∧ ∀ i, i < lenW k → f i = chW k i
theorem isW_uniq {k k' n : Nat} {f : Nat → Int32} (hk : k < 12) (hk' : k' < 12) (h : isW k n f) (h' : isW k' n f) : k = k' := by
  apply Classical.byContradiction
  intro q
  obtain ⟨i, h1, h2⟩ := tblU k hk k' hk' q (h.1.symm.trans h'.1)
  exact h2 ((h.2 i h1).symm.trans (h'.2 i (by rw [← h'.1, h.1]; exact h1)))
def wdF (n : Nat) (f : Nat → Int32) : Nat → Nat
  | 0 => 12
  | k + 1 => if isW k n f then k else wdF n f k
theorem wdF_some {n : Nat} {f : Nat → Int32} {k : Nat} (h : isW k n f) : ∀ m, m ≤ 12 → k < m → wdF n f m = k := by
  intro m
  induction m with
  | zero => intro _ h1; omega
  | succ m ih =>
    intro hm h1
    unfold wdF
    by_cases c : isW m n f
    · rw [if_pos c]; exact isW_uniq (by omega) (by omega) c h
    · rw [if_neg c]
      by_cases e : k = m
      · rw [e] at h; exact absurd h c
      · exact ih (by omega) (by omega)
theorem wdF_none {n : Nat} {f : Nat → Int32} (h : ∀ k, k < 12 → ¬ isW k n f) : ∀ m, m ≤ 12 → wdF n f m = 12 := by
  intro m
  induction m with
  | zero => intro _; rfl
  | succ m ih =>
    intro hm
    unfold wdF
    rw [if_neg (h m (by omega))]
    exact ih (by omega)
theorem wdF_le {n : Nat} {f : Nat → Int32} : ∀ m, m ≤ 12 → wdF n f m ≤ 12 ∧ (wdF n f m < 12 → wdF n f m < m) := by
  intro m
  induction m with
  | zero => intro _; exact ⟨Nat.le_refl _, fun h => absurd h (by show ¬ (12 : Nat) < 12; omega)⟩
  | succ m ih =>
    intro hm
    unfold wdF
    by_cases c : isW m n f
    · rw [if_pos c]; omega
    · rw [if_neg c]; have := ih (by omega); omega
def numF (f : Nat → Int32) (p : Nat) : Nat → Int32
  | 0 => 0
  | j + 1 => (10 * numF f p j) + (f (p + j) - 48)
theorem numF_bd {f : Nat → Int32} {p : Nat} : ∀ j, j ≤ 4 → (∀ i, i < j → diP (f (p + i))) → 0 ≤ (numF f p j).toInt ∧ (numF f p j).toInt + 1 ≤ 10 ^ j := by
  intro j
  induction j with
  | zero => intro _ _; exact ⟨show 0 ≤ (0 : Int32).toInt by decide, show (0 : Int32).toInt + 1 ≤ 10 ^ 0 by decide⟩
  | succ j ih =>
    intro hj h
    obtain ⟨h1, h2⟩ := ih (by omega) (fun i hi => h i (by omega))
    have h3 := h j (by omega)
    have h4 : (10 : Int) ^ j ≤ 1000 := by
      rcases (show j = 0 ∨ j = 1 ∨ j = 2 ∨ j = 3 by omega) with rfl | rfl | rfl | rfl <;> decide
    have e10 : (10 : Int32).toInt = 10 := by decide
    have e48 : (48 : Int32).toInt = 48 := by decide
    have m1 : (10 * numF f p j).toInt = 10 * (numF f p j).toInt := by rw [im (by rw [e10]; omega) (by rw [e10]; omega), e10]
    have m2 : (f (p + j) - 48).toInt = (f (p + j)).toInt - 48 := by rw [isu (by rw [e48]; omega) (by rw [e48]; omega), e48]
    have m3 : (numF f p (j + 1)).toInt = 10 * (numF f p j).toInt + ((f (p + j)).toInt - 48) := by
      show ((10 * numF f p j) + (f (p + j) - 48)).toInt = _
      rw [ia (by omega) (by omega), m1, m2]
    have m4 : (10 : Int) ^ (j + 1) = 10 ^ j * 10 := Int.pow_succ 10 j
    unfold diP at h3
    rw [m3, m4]
    omega
/-- from where a token is sought: its place, what it is, where the next is sought -/
def plF (n : Nat) (f : Nat → Int32) (q : Nat) : Nat := runF n f blB n q
def wlen (n : Nat) (f : Nat → Int32) (p : Nat) : Nat := wdF (runF n f leB n p - p) (fun i => f (p + i)) 12
def tkP (n : Nat) (f : Nat → Int32) (p : Nat) : Nat × Int32 :=
  if n ≤ p then (0, 0) else if leP (f p) then (if wlen n f p < 6 then (3, nI (wlen n f p)) else if wlen n f p < 12 then (2, nI (wlen n f p - 6)) else (5, 0))
  else if diP (f p) then (if runF n f diB n p - p ≤ 4 then (1, numF f p (runF n f diB n p - p)) else (5, 0)) else if sgP (f p) then (4, f p) else (5, 0)
def nxP (n : Nat) (f : Nat → Int32) (p : Nat) : Nat := if n ≤ p then p else if leP (f p) then runF n f leB n p else if diP (f p) then runF n f diB n p else p + 1
def tkF (n : Nat) (f : Nat → Int32) (q : Nat) : Nat × Int32 := tkP n f (plF n f q)
def nxF (n : Nat) (f : Nat → Int32) (q : Nat) : Nat := nxP n f (plF n f q)
theorem pl_le {n : Nat} {f : Nat → Int32} {q : Nat} (h : q ≤ n) : q ≤ plF n f q ∧ plF n f q ≤ n := run_le n q h
theorem nxP_le {n : Nat} {f : Nat → Int32} {p : Nat} (h : p ≤ n) : p ≤ nxP n f p ∧ nxP n f p ≤ n ∧ (p < n → p < nxP n f p) := by
  unfold nxP
  by_cases c : n ≤ p
  · rw [if_pos c]; omega
  · rw [if_neg c]
    by_cases d : leP (f p)
    · rw [if_pos d]
      have := run_le (f := f) (b := leB) n p h
      have := run_gt (f := f) (b := leB) (k := n) (q := p) (n := n) (by omega) (leB_t.mpr d) (by omega)
      omega
    · rw [if_neg d]
      by_cases e : diP (f p)
      · rw [if_pos e]
        have := run_le (f := f) (b := diB) n p h
        have := run_gt (f := f) (b := diB) (k := n) (q := p) (n := n) (by omega) (diB_t.mpr e) (by omega)
        omega
      · rw [if_neg e]; omega
theorem nx_le {n : Nat} {f : Nat → Int32} {q : Nat} (h : q ≤ n) : plF n f q ≤ nxF n f q ∧ nxF n f q ≤ n ∧ (plF n f q < n → plF n f q < nxF n f q) := nxP_le (pl_le h).2
theorem tk_0 {n : Nat} {f : Nat → Int32} {q : Nat} (h : q ≤ n) : (tkF n f q).1 = 0 ↔ plF n f q = n := by
  have hp := (pl_le (f := f) h).2
  unfold tkF tkP
  by_cases c : n ≤ plF n f q
  · rw [if_pos c]; exact ⟨fun _ => by omega, fun _ => rfl⟩
  · rw [if_neg c]
    refine ⟨fun z => ?_, fun z => absurd (by omega) c⟩
    exfalso
    split at z
    · split at z
      · cases z
      · split at z
        · cases z
        · cases z
    · split at z
      · split at z
        · cases z
        · cases z
      · split at z
        · cases z
        · cases z
