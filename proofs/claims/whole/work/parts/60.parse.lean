/-! what a text's parts are: the grammar's rows by numbers (0 or, 1 and, 2 not and compare, 3 sum, 4 term, 5 one) -/
abbrev Rs : Type := Nat × Nat × List Int32
def opOf (i : Nat) (t : Nat × Int32) : Option Int32 :=
  if i = 0 then (if t = (3, 3) then some (-21) else none) else if i = 1 then (if t = (3, 4) then some (-22) else none) else if i = 3 then (if t = (4, 43) then some (-25) else if t = (4, 45) then some (-26) else none) else (if t = (4, 42) then some (-27) else none)
def cmpOf (t : Nat × Int32) : Option Int32 := if t = (4, 60) then some (-23) else if t = (4, 61) then some (-24) else none
def lpF (n : Nat) (f : Nat → Int32) (i : Nat) (R : Nat → Rs) : Nat → Nat → Nat → List Int32 → Rs
  | 0, g, q, cs => (g, q, cs)
  | k + 1, g, q, cs => if g = 0 then (match opOf i (tkF n f q) with
    | none => (0, q, cs)
    | some c => lpF n f i R k (R (nxF n f q)).1 (R (nxF n f q)).2.1 (cs ++ (R (nxF n f q)).2.2 ++ [c])) else (g, q, cs)
def pF (n : Nat) (f : Nat → Int32) : Nat → Nat → Nat → Nat → Rs
  | 0, _, _, q => (1, q, [])
  | m + 1, i, o, q =>
    if i = 0 ∨ i = 1 ∨ i = 3 ∨ i = 4 then lpF n f i (pF n f m (i + 1) o) 161 (pF n f m (i + 1) o q).1 (pF n f m (i + 1) o q).2.1 (pF n f m (i + 1) o q).2.2
    else if i = 2 then
      (if tkF n f q = (3, 5) then (if o < 5 then ((pF n f m 2 (o + 1) (nxF n f q)).1, (pF n f m 2 (o + 1) (nxF n f q)).2.1, (pF n f m 2 (o + 1) (nxF n f q)).2.2 ++ [-11]) else (1, q, []))
      else if (pF n f m 3 o q).1 = 0 then (match cmpOf (tkF n f (pF n f m 3 o q).2.1) with
        | none => pF n f m 3 o q
        | some c => ((pF n f m 3 o (nxF n f (pF n f m 3 o q).2.1)).1, (pF n f m 3 o (nxF n f (pF n f m 3 o q).2.1)).2.1, (pF n f m 3 o q).2.2 ++ (pF n f m 3 o (nxF n f (pF n f m 3 o q).2.1)).2.2 ++ [c])) else pF n f m 3 o q)
    else if (tkF n f q).1 = 1 then (0, nxF n f q, [(tkF n f q).2]) else if (tkF n f q).1 = 2 then (0, nxF n f q, [-1 - (tkF n f q).2])
    else if tkF n f q = (4, 45) then (if o < 5 then ((pF n f m 5 (o + 1) (nxF n f q)).1, (pF n f m 5 (o + 1) (nxF n f q)).2.1, (pF n f m 5 (o + 1) (nxF n f q)).2.2 ++ [-12]) else (1, q, []))
    else if tkF n f q = (4, 40) then (if o < 5 then (if (pF n f m 0 (o + 1) (nxF n f q)).1 = 0 then (if tkF n f (pF n f m 0 (o + 1) (nxF n f q)).2.1 = (4, 41) then (0, nxF n f (pF n f m 0 (o + 1) (nxF n f q)).2.1, (pF n f m 0 (o + 1) (nxF n f q)).2.2) else (1, (pF n f m 0 (o + 1) (nxF n f q)).2.1, (pF n f m 0 (o + 1) (nxF n f q)).2.2)) else pF n f m 0 (o + 1) (nxF n f q)) else (1, q, []))
    else (1, q, [])
/-- how deep the rows still go -/
def Dp (o i : Nat) : Nat := (5 - o) * 6 + (6 - i)
section PARSE
variable {n : Nat} {f : Nat → Int32}
theorem tk_lt {q : Nat} (hq : q ≤ n) (h : ¬ (tkF n f q).1 = 0) : plF n f q < n ∧ plF n f q + 1 ≤ plF n f (nxF n f q) ∧ nxF n f q ≤ n := by
  have h1 := pl_le (f := f) hq
  have h2 : ¬ plF n f q = n := fun z => h ((tk_0 hq).mpr z)
  have h3 := nx_le (f := f) hq
  have h4 := pl_le (f := f) h3.2.1
  omega
theorem opOf_ne {i : Nat} {t : Nat × Int32} {c : Int32} (h : opOf i t = some c) : ¬ t.1 = 0 := by
  intro z
  unfold opOf at h
  have : ∀ (k : Nat) (w : Int32), k ≠ 0 → t ≠ (k, w) := fun k w hk e => hk (by rw [e] at z; exact z)
  rw [if_neg (this 3 3 (by decide)), if_neg (this 3 4 (by decide)), if_neg (this 4 43 (by decide)), if_neg (this 4 45 (by decide)), if_neg (this 4 42 (by decide))] at h
  split at h
  · cases h
  · split at h
    · cases h
    · split at h
      · cases h
      · cases h
theorem opOf_bin {i : Nat} {t : Nat × Int32} {c : Int32} (h : opOf i t = some c) : -27 ≤ c ∧ c ≤ -21 := by
  unfold opOf at h
  split at h
  · split at h
    · cases h; decide
    · cases h
  · split at h
    · split at h
      · cases h; decide
      · cases h
    · split at h
      · split at h
        · cases h; decide
        · split at h
          · cases h; decide
          · cases h
      · split at h
        · cases h; decide
        · cases h
theorem cmpOf_ne {t : Nat × Int32} {c : Int32} (h : cmpOf t = some c) : ¬ t.1 = 0 ∧ (-27 ≤ c ∧ c ≤ -21) := by
  unfold cmpOf at h
  split at h
  · rename_i e
    rw [e]
    cases h
    exact ⟨by decide, by decide⟩
  · split at h
    · rename_i e
      rw [e]
      cases h
      exact ⟨by decide, by decide⟩
    · cases h
/-- places gone on are no fewer than codes told -/
def Gd (n : Nat) (f : Nat → Int32) (q : Nat) (r : Rs) : Prop := r.2.1 ≤ n ∧ plF n f q + r.2.2.length ≤ plF n f r.2.1
theorem lp_gd {i : Nat} {R : Nat → Rs} (hR : ∀ q, q ≤ n → Gd n f q (R q)) : ∀ (k g q : Nat) (cs : List Int32), q ≤ n → (lpF n f i R k g q cs).2.1 ≤ n ∧ plF n f q + (lpF n f i R k g q cs).2.2.length ≤ plF n f (lpF n f i R k g q cs).2.1 + cs.length := by
  intro k
  induction k with
  | zero => intro g q cs hq; exact ⟨hq, Nat.le_refl _⟩
  | succ k ih =>
    intro g q cs hq
    unfold lpF
    by_cases c : g = 0
    · rw [if_pos c]
      cases e : opOf i (tkF n f q) with
      | none => exact ⟨hq, Nat.le_refl _⟩
      | some c =>
        obtain ⟨t1, t2, t3⟩ := tk_lt hq (opOf_ne e)
        obtain ⟨g1, g2⟩ := hR _ t3
        have := ih (R (nxF n f q)).1 (R (nxF n f q)).2.1 (cs ++ (R (nxF n f q)).2.2 ++ [c]) g1
        rw [List.length_append, List.length_append, List.length_singleton] at this
        show (lpF n f i R k (R (nxF n f q)).1 (R (nxF n f q)).2.1 (cs ++ (R (nxF n f q)).2.2 ++ [c])).2.1 ≤ n ∧ plF n f q + (lpF n f i R k (R (nxF n f q)).1 (R (nxF n f q)).2.1 (cs ++ (R (nxF n f q)).2.2 ++ [c])).2.2.length ≤ plF n f (lpF n f i R k (R (nxF n f q)).1 (R (nxF n f q)).2.1 (cs ++ (R (nxF n f q)).2.2 ++ [c])).2.1 + cs.length
        exact ⟨this.1, by omega⟩
    · rw [if_neg c]; exact ⟨hq, Nat.le_refl _⟩
theorem pF_gd : ∀ (m i o q : Nat), q ≤ n → Gd n f q (pF n f m i o q) := by
  intro m
  induction m with
  | zero => intro i o q hq; exact ⟨hq, Nat.le_refl _⟩
  | succ m ih =>
    intro i o q hq
    have nil : Gd n f q (1, q, []) := ⟨hq, Nat.le_refl _⟩
    unfold pF
    by_cases c : i = 0 ∨ i = 1 ∨ i = 3 ∨ i = 4
    · rw [if_pos c]
      obtain ⟨g1, g2⟩ := ih (i + 1) o q hq
      obtain ⟨l1, l2⟩ := lp_gd (i := i) (R := pF n f m (i + 1) o) (fun q hq => ih (i + 1) o q hq) 161 (pF n f m (i + 1) o q).1 _ (pF n f m (i + 1) o q).2.2 g1
      exact ⟨l1, by omega⟩
    · rw [if_neg c]
      by_cases c2 : i = 2
      · rw [if_pos c2]
        by_cases d : tkF n f q = (3, 5)
        · rw [if_pos d]
          by_cases e : o < 5
          · rw [if_pos e]
            obtain ⟨t1, t2, t3⟩ := tk_lt hq (show ¬ (tkF n f q).1 = 0 by rw [d]; decide)
            obtain ⟨g1, g2⟩ := ih 2 (o + 1) _ t3
            refine ⟨g1, ?_⟩
            show _ + ((pF n f m 2 (o + 1) (nxF n f q)).2.2 ++ [-11]).length ≤ _
            rw [List.length_append, List.length_singleton]
            show _ ≤ plF n f (pF n f m 2 (o + 1) (nxF n f q)).2.1
            omega
          · rw [if_neg e]; exact nil
        · rw [if_neg d]
          obtain ⟨g1, g2⟩ := ih 3 o q hq
          by_cases e : (pF n f m 3 o q).1 = 0
          · rw [if_pos e]
            cases e2 : cmpOf (tkF n f (pF n f m 3 o q).2.1) with
            | none => exact ⟨g1, g2⟩
            | some c =>
              obtain ⟨t1, t2, t3⟩ := tk_lt g1 (cmpOf_ne e2).1
              obtain ⟨s1, s2⟩ := ih 3 o _ t3
              refine ⟨s1, ?_⟩
              show _ + ((pF n f m 3 o q).2.2 ++ (pF n f m 3 o (nxF n f (pF n f m 3 o q).2.1)).2.2 ++ [c]).length ≤ _
              rw [List.length_append, List.length_append, List.length_singleton]
              show _ ≤ plF n f (pF n f m 3 o (nxF n f (pF n f m 3 o q).2.1)).2.1
              omega
          · rw [if_neg e]; exact ⟨g1, g2⟩
      · rw [if_neg c2]
        by_cases d1 : (tkF n f q).1 = 1
        · rw [if_pos d1]
          obtain ⟨t1, t2, t3⟩ := tk_lt hq (show ¬ (tkF n f q).1 = 0 by omega)
          exact ⟨t3, by show _ + 1 ≤ _; omega⟩
        · rw [if_neg d1]
          by_cases d2 : (tkF n f q).1 = 2
          · rw [if_pos d2]
            obtain ⟨t1, t2, t3⟩ := tk_lt hq (show ¬ (tkF n f q).1 = 0 by omega)
            exact ⟨t3, by show _ + 1 ≤ _; omega⟩
          · rw [if_neg d2]
            by_cases d3 : tkF n f q = (4, 45)
            · rw [if_pos d3]
              by_cases e : o < 5
              · rw [if_pos e]
                obtain ⟨t1, t2, t3⟩ := tk_lt hq (show ¬ (tkF n f q).1 = 0 by rw [d3]; decide)
                obtain ⟨g1, g2⟩ := ih 5 (o + 1) _ t3
                refine ⟨g1, ?_⟩
                show _ + ((pF n f m 5 (o + 1) (nxF n f q)).2.2 ++ [-12]).length ≤ _
                rw [List.length_append, List.length_singleton]
                show _ ≤ plF n f (pF n f m 5 (o + 1) (nxF n f q)).2.1
                omega
              · rw [if_neg e]; exact nil
            · rw [if_neg d3]
              by_cases d4 : tkF n f q = (4, 40)
              · rw [if_pos d4]
                by_cases e : o < 5
                · rw [if_pos e]
                  obtain ⟨t1, t2, t3⟩ := tk_lt hq (show ¬ (tkF n f q).1 = 0 by rw [d4]; decide)
                  obtain ⟨g1, g2⟩ := ih 0 (o + 1) _ t3
                  by_cases e2 : (pF n f m 0 (o + 1) (nxF n f q)).1 = 0
                  · rw [if_pos e2]
                    by_cases e3 : tkF n f (pF n f m 0 (o + 1) (nxF n f q)).2.1 = (4, 41)
                    · rw [if_pos e3]
                      obtain ⟨u1, u2, u3⟩ := tk_lt g1 (show ¬ (tkF n f (pF n f m 0 (o + 1) (nxF n f q)).2.1).1 = 0 by rw [e3]; decide)
                      refine ⟨u3, ?_⟩
                      show _ + (pF n f m 0 (o + 1) (nxF n f q)).2.2.length ≤ plF n f (nxF n f (pF n f m 0 (o + 1) (nxF n f q)).2.1)
                      omega
                    · rw [if_neg e3]
                      refine ⟨g1, ?_⟩
                      show _ + (pF n f m 0 (o + 1) (nxF n f q)).2.2.length ≤ plF n f (pF n f m 0 (o + 1) (nxF n f q)).2.1
                      omega
                  · rw [if_neg e2]
                    exact ⟨g1, by omega⟩
                · rw [if_neg e]; exact nil
              · rw [if_neg d4]; exact nil
/-! the codes work out -/
def WF (H : Nat) (cs : List Int32) : Prop := ∀ (rest : List Int32) (t : Nat), t + H ≤ 40 → wfE rest (t + 1) → wfE (cs ++ rest) t
theorem WF_mono {H H' : Nat} {cs : List Int32} (h : WF H cs) (hh : H ≤ H') : WF H' cs := fun rest t ht hw => h rest t (by omega) hw
theorem WF_num {H : Nat} {c : Int32} (hc : -6 ≤ c) (hH : 1 ≤ H) : WF H [c] := by
  intro rest t ht hw
  show wfE (c :: rest) t
  unfold wfE
  by_cases c0 : 0 ≤ c
  · rw [if_pos c0]; exact ⟨by omega, hw⟩
  · rw [if_neg c0, if_pos hc]; exact ⟨by omega, hw⟩
theorem WF_un {H : Nat} {cs : List Int32} {c : Int32} (h : WF H cs) (hc : c = -12 ∨ c = -11) : WF H (cs ++ [c]) := by
  intro rest t ht hw
  rw [List.append_assoc]
  refine h _ t ht ?_
  show wfE (c :: rest) (t + 1)
  unfold wfE
  rcases hc with rfl | rfl
  · rw [if_neg (by decide), if_neg (by decide), if_pos rfl]; exact ⟨by omega, hw⟩
  · rw [if_neg (by decide), if_neg (by decide), if_neg (by decide), if_pos rfl]; exact ⟨by omega, hw⟩
theorem WF_bin {H H2 : Nat} {cs cs2 : List Int32} {c : Int32} (h : WF H cs) (h2 : WF H2 cs2) (hh : H2 + 1 ≤ H) (hc : -27 ≤ c ∧ c ≤ -21) : WF H (cs ++ cs2 ++ [c]) := by
  intro rest t ht hw
  rw [List.append_assoc, List.append_assoc]
  refine h _ t ht (h2 _ (t + 1) (by omega) ?_)
  show wfE (c :: rest) (t + 1 + 1)
  have b1 := il.mp hc.1
  have b2 := il.mp hc.2
  have e27 : (-27 : Int32).toInt = -27 := by decide
  have e21 : (-21 : Int32).toInt = -21 := by decide
  have e6 : (-6 : Int32).toInt = -6 := by decide
  have e12 : (-12 : Int32).toInt = -12 := by decide
  have e11 : (-11 : Int32).toInt = -11 := by decide
  unfold wfE
  rw [if_neg (by rw [il, i_0]; omega), if_neg (by rw [il, e6]; omega), if_neg (by rw [ieq, e12]; omega), if_neg (by rw [ieq, e11]; omega)]
  exact ⟨hc, by omega, hw⟩
def Hp (o i : Nat) : Nat := (5 - o) * 5 + (6 - i)
theorem lp_wf {i H : Nat} {R : Nat → Rs} (hR : ∀ q, q ≤ n → (R q).2.1 ≤ n ∧ ((R q).1 = 0 → WF H (R q).2.2)) : ∀ (k g q : Nat) (cs : List Int32), q ≤ n → (g = 0 → WF (H + 1) cs) → (lpF n f i R k g q cs).1 = 0 → WF (H + 1) (lpF n f i R k g q cs).2.2 := by
  intro k
  induction k with
  | zero => intro g q cs hq hw h0; exact hw h0
  | succ k ih =>
    intro g q cs hq hw
    unfold lpF
    by_cases c : g = 0
    · rw [if_pos c]
      cases e : opOf i (tkF n f q) with
      | none => intro _; exact hw c
      | some c2 =>
        obtain ⟨t1, t2, t3⟩ := tk_lt hq (opOf_ne e)
        obtain ⟨g1, g2⟩ := hR _ t3
        exact ih _ _ _ g1 (fun z => WF_bin (hw c) (g2 z) (by omega) (opOf_bin e))
    · rw [if_neg c]; intro z; exact absurd z c
theorem tk_num {q : Nat} (h : (tkF n f q).1 = 1) : 0 ≤ (tkF n f q).2.toInt ∧ (tkF n f q).2.toInt ≤ 9999 := by
  unfold tkF tkP at h ⊢
  by_cases c : n ≤ plF n f q
  · rw [if_pos c] at h; cases h
  · rw [if_neg c] at h ⊢
    by_cases d : leP (f (plF n f q))
    · rw [if_pos d] at h
      exfalso
      split at h
      · cases h
      · split at h
        · cases h
        · cases h
    · rw [if_neg d] at h ⊢
      by_cases d2 : diP (f (plF n f q))
      · rw [if_pos d2] at h ⊢
        by_cases w : runF n f diB n (plF n f q) - plF n f q ≤ 4
        · rw [if_pos w]
          have hb := numF_bd (f := f) (p := plF n f q) (runF n f diB n (plF n f q) - plF n f q) w (fun i hi => diB_t.mp (run_in (n := n) n (plF n f q) (plF n f q + i) (by omega) (by omega)))
          generalize runF n f diB n (plF n f q) - plF n f q = z at hb w ⊢
          have h4 : (10 : Int) ^ z ≤ 10000 := by
            rcases (show z = 0 ∨ z = 1 ∨ z = 2 ∨ z = 3 ∨ z = 4 by omega) with rfl | rfl | rfl | rfl | rfl <;> decide
          show 0 ≤ (numF f (plF n f q) z).toInt ∧ (numF f (plF n f q) z).toInt ≤ 9999
          omega
        · rw [if_neg w] at h; cases h
      · rw [if_neg d2] at h
        exfalso
        split at h
        · cases h
        · cases h
/-- the tokens but the numbers -/
def VT : List (Nat × Int32) := [(0, 0), (2, 0), (2, 1), (2, 2), (2, 3), (2, 4), (2, 5), (3, 0), (3, 1), (3, 2), (3, 3), (3, 4), (3, 5), (4, 40), (4, 41), (4, 59), (4, 43), (4, 45), (4, 42), (4, 60), (4, 61), (5, 0)]
theorem tk_VT {q : Nat} : (tkF n f q).1 = 1 ∨ tkF n f q ∈ VT := by
  have six2 : ∀ j, j < 6 → ((2 : Nat), nI j) ∈ VT := by decide +kernel
  have six3 : ∀ j, j < 6 → ((3 : Nat), nI j) ∈ VT := by decide +kernel
  unfold tkF tkP
  by_cases c : n ≤ plF n f q
  · rw [if_pos c]; exact Or.inr (by decide)
  · rw [if_neg c]
    by_cases d : leP (f (plF n f q))
    · rw [if_pos d]
      by_cases w1 : wlen n f (plF n f q) < 6
      · rw [if_pos w1]; exact Or.inr (six3 _ w1)
      · rw [if_neg w1]
        by_cases w2 : wlen n f (plF n f q) < 12
        · rw [if_pos w2]; exact Or.inr (six2 _ (by omega))
        · rw [if_neg w2]; exact Or.inr (by decide)
    · rw [if_neg d]
      by_cases d2 : diP (f (plF n f q))
      · rw [if_pos d2]
        by_cases w : runF n f diB n (plF n f q) - plF n f q ≤ 4
        · rw [if_pos w]; exact Or.inl rfl
        · rw [if_neg w]; exact Or.inr (by decide)
      · rw [if_neg d2]
        by_cases s : sgP (f (plF n f q))
        · rw [if_pos s]
          refine Or.inr ?_
          rcases s with e | e | e | e | e | e | e | e <;> rw [e] <;> decide
        · rw [if_neg s]; exact Or.inr (by decide)
theorem tk_name {q : Nat} (h : (tkF n f q).1 = 2) : -6 ≤ -1 - (tkF n f q).2 ∧ ¬ 0 ≤ -1 - (tkF n f q).2 := by
  have key : ∀ t ∈ VT, t.1 = 2 → -6 ≤ -1 - t.2 ∧ ¬ 0 ≤ -1 - t.2 := by decide +kernel
  rcases tk_VT (n := n) (f := f) (q := q) with e | e
  · rw [e] at h; cases h
  · exact key _ e h
theorem pF_wf : ∀ (m i o q : Nat), q ≤ n → i ≤ 5 → o ≤ 5 → (pF n f m i o q).1 = 0 → WF (Hp o i) (pF n f m i o q).2.2 := by
  intro m
  induction m with
  | zero => intro i o q hq hi ho h; cases h
  | succ m ih =>
    intro i o q hq hi ho
    unfold pF
    by_cases c : i = 0 ∨ i = 1 ∨ i = 3 ∨ i = 4
    · rw [if_pos c]
      have hH : Hp o i = Hp o (i + 1) + 1 := by unfold Hp; omega
      rw [hH]
      exact lp_wf (fun q hq => ⟨(pF_gd (f := f) m (i + 1) o q hq).1, ih (i + 1) o q hq (by omega) ho⟩) 161 _ _ _ (pF_gd (f := f) m (i + 1) o q hq).1 (fun z => WF_mono (ih (i + 1) o q hq (by omega) ho z) (by omega))
    · rw [if_neg c]
      by_cases c2 : i = 2
      · subst c2
        rw [if_pos rfl]
        by_cases d : tkF n f q = (3, 5)
        · rw [if_pos d]
          by_cases e : o < 5
          · rw [if_pos e]
            obtain ⟨t1, t2, t3⟩ := tk_lt hq (show ¬ (tkF n f q).1 = 0 by rw [d]; decide)
            intro z
            exact WF_un (WF_mono (ih 2 (o + 1) _ t3 (by omega) (by omega) z) (by unfold Hp; omega)) (Or.inr rfl)
          · rw [if_neg e]; intro z; cases z
        · rw [if_neg d]
          have g1 := (pF_gd (f := f) m 3 o q hq).1
          have w1 := ih 3 o q hq (by omega) ho
          by_cases e : (pF n f m 3 o q).1 = 0
          · rw [if_pos e]
            cases e2 : cmpOf (tkF n f (pF n f m 3 o q).2.1) with
            | none => intro z; exact WF_mono (w1 z) (by unfold Hp; omega)
            | some c =>
              obtain ⟨t1, t2, t3⟩ := tk_lt g1 (cmpOf_ne e2).1
              intro z
              exact WF_bin (WF_mono (w1 e) (by unfold Hp; omega)) (ih 3 o _ t3 (by omega) ho z) (by unfold Hp; omega) (cmpOf_ne e2).2
          · rw [if_neg e]; intro z; exact absurd z e
      · rw [if_neg c2]
        have hi5 : i = 5 := by omega
        subst hi5
        by_cases d1 : (tkF n f q).1 = 1
        · rw [if_pos d1]
          intro _
          have := tk_num d1
          have e6 : (-6 : Int32).toInt = -6 := by decide
          exact WF_num (by rw [il, e6]; omega) (by unfold Hp; omega)
        · rw [if_neg d1]
          by_cases d2 : (tkF n f q).1 = 2
          · rw [if_pos d2]
            intro _
            have hn := (tk_name d2).1
            have hH : 1 ≤ Hp o 5 := by unfold Hp; omega
            show WF (Hp o 5) [-1 - (tkF n f q).2]
            revert hn
            generalize -1 - (tkF n f q).2 = c
            intro hn
            exact WF_num hn hH
          · rw [if_neg d2]
            by_cases d3 : tkF n f q = (4, 45)
            · rw [if_pos d3]
              by_cases e : o < 5
              · rw [if_pos e]
                obtain ⟨t1, t2, t3⟩ := tk_lt hq (show ¬ (tkF n f q).1 = 0 by rw [d3]; decide)
                intro z
                exact WF_un (WF_mono (ih 5 (o + 1) _ t3 (by omega) (by omega) z) (by unfold Hp; omega)) (Or.inl rfl)
              · rw [if_neg e]; intro z; cases z
            · rw [if_neg d3]
              by_cases d4 : tkF n f q = (4, 40)
              · rw [if_pos d4]
                by_cases e : o < 5
                · rw [if_pos e]
                  obtain ⟨t1, t2, t3⟩ := tk_lt hq (show ¬ (tkF n f q).1 = 0 by rw [d4]; decide)
                  have w0 := ih 0 (o + 1) _ t3 (by omega) (by omega)
                  by_cases e2 : (pF n f m 0 (o + 1) (nxF n f q)).1 = 0
                  · rw [if_pos e2]
                    by_cases e3 : tkF n f (pF n f m 0 (o + 1) (nxF n f q)).2.1 = (4, 41)
                    · rw [if_pos e3]; intro _; exact WF_mono (w0 e2) (by unfold Hp; omega)
                    · rw [if_neg e3]; intro z; cases z
                  · rw [if_neg e2]; intro z; exact absurd z e2
                · rw [if_neg e]; intro z; cases z
              · rw [if_neg d4]; intro z; cases z
end PARSE
