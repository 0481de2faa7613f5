/-! the component's next token -/
def TPc (n : Nat) (f : Nat → Int32) (τ : St) : Prop := gi τ 5 1 = nI n ∧ n ≤ 160 ∧ (∀ k, k < n → gi τ 6 k = f k) ∧ ∀ k, k < n → 0 ≤ (f k).toInt ∧ (f k).toInt ≤ 255
def FrL (τ0 τ : St) : Prop := τ.2 = τ0.2 ∧ ∀ a k, ¬ (a = 5 ∧ 2 ≤ k ∧ k ≤ 5) → gi τ a k = gi τ0 a k
theorem FrL_refl (τ : St) : FrL τ τ := ⟨rfl, fun _ _ _ => rfl⟩
theorem FrL_trans {a b c : St} (h1 : FrL a b) (h2 : FrL b c) : FrL a c := ⟨h2.1.trans h1.1, fun x k h => (h2.2 x k h).trans (h1.2 x k h)⟩
theorem FrL_si {τ0 τ : St} {k : Nat} {v : Int32} (h : FrL τ0 τ) (hk : 2 ≤ k ∧ k ≤ 5) : FrL τ0 (si τ 5 k v) := ⟨h.1, fun a j hj => by rw [gsn (by omega)]; exact h.2 a j hj⟩
theorem TPc_fr {n : Nat} {f : Nat → Int32} {τ0 τ : St} (h : TPc n f τ0) (hf : FrL τ0 τ) : TPc n f τ := ⟨(hf.2 5 1 (by omega)).trans h.1, h.2.1, fun k hk => (hf.2 6 k (by omega)).trans (h.2.2.1 k hk), h.2.2.2⟩
def tcC (t : Nat × Int32) : Int32 := if t.1 = 0 then 0 else if t.1 = 1 then 2 else if t.1 = 2 then 1006 + t.2 else if t.1 = 3 then 1000 + t.2 else if t.1 = 4 then t.2 else 1
def TkC (n : Nat) (f : Nat → Int32) (q : Nat) (τ : St) : Prop := gi τ 5 2 = nI (nxF n f q) ∧ gi τ 5 4 = nI (plF n f q) ∧ gi τ 5 3 = tcC (tkF n f q) ∧ ((tkF n f q).1 = 1 → gi τ 5 5 = (tkF n f q).2)
theorem tblS : ∀ j, j < 256 → ((nI j).toUInt32 % 65536).toInt32 = nI j ∧ (ixT 2 (nI j) < 0 ↔ ¬ sgP (nI j)) := by decide +kernel
section CLEX
variable {M : Nat} {post : St → Prop} {posti : Int32 → St → Prop} {τ τ0 : St} {n : Nat} {f : Nat → Int32}
theorem c_byte (hT : TPc n f τ) {q : Nat} (hq : q ≤ 1000) (h1 : q < n → posti (f q) τ) (h2 : n ≤ q → posti (-1) τ) : w_X4_byteAt M posti (nI q) τ := by
  obtain ⟨t1, t2, t3, -⟩ := hT
  unfold w_X4_byteAt
  rw [t1]
  refine br_f (nI_pos (by omega)) ?_
  by_cases c : q < n
  · refine br_f (nI_ge c (by omega)) (br_f (nI_ge (b := 160) (by omega) (by decide)) ⟨vp_in_nI (by omega) (by decide), ?_⟩)
    rw [nI_clamp (by omega), t3 q c]
    exact h1 c
  · exact br_t (by rw [il, nI_toInt (by omega), nI_toInt (by omega)]; omega) (h2 (by omega))
theorem c_isLet {v : Int32} (h1 : leP v → posti 1 τ) (h0 : ¬ leP v → posti 0 τ) : w_X4_isLetter M posti v τ := by
  unfold w_X4_isLetter
  exact brl (c := 97) (n := 97) (by decide) (fun q => h0 (by unfold leP; omega)) (fun q => brg (c := 122) (n := 122) (by decide) (fun r => h0 (by unfold leP; omega)) (fun r => h1 (by unfold leP; omega)))
theorem c_isDig {v : Int32} (h1 : diP v → posti 1 τ) (h0 : ¬ diP v → posti 0 τ) : w_X4_isDigit M posti v τ := by
  unfold w_X4_isDigit
  exact brl (c := 48) (n := 48) (by decide) (fun q => h0 (by unfold diP; omega)) (fun q => brg (c := 57) (n := 57) (by decide) (fun r => h0 (by unfold diP; omega)) (fun r => h1 (by unfold diP; omega)))
/-! a word -/
theorem c_isWordL (hT : TPc n f τ) {k p w : Nat} (hk : k < 12) (hw : w < 7) (hp : p + w ≤ n) (hl : ∀ i, i < w → leP (f (p + i))) (h4 : gi τ 5 4 = nI p) (h1 : isW k w (fun i => f (p + i)) → posti 1 τ) (h0 : ¬ isW k w (fun i => f (p + i)) → posti 0 τ) :
    ∀ (m j : Nat), j + m = w → (∀ i, i < j → chT 1 (nI (7 * k + i)) = f (p + i)) → wl_X4_isWordAt_36 M posti (m + 1) (nI (7 * k)) (nI w) (nI j) τ := by
  have hn := hT.2.1
  have t := tblC k hk
  obtain ⟨l1, l2, -⟩ := tblN k hk
  have n32 : ∀ v : Int32, leP v → v ≠ 32 := by
    intro v hv q
    rw [q] at hv
    exact absurd hv (by decide)
  intro m
  induction m with
  | zero =>
    intro j hj hm
    have hj : j = w := hj
    subst hj
    show w_X4_isWordAt_36 M posti _ (nI (7 * k)) (nI j) (nI j) τ
    unfold w_X4_isWordAt_36
    rw [nI_add]
    refine br_t (Int32.le_refl _) ⟨vp_in_nI (by omega) (by decide), fun c => h1 ?_, fun c => h0 ?_⟩
    · rw [t j hw] at c
      have a1 : ¬ j < lenW k := by
        intro q
        rw [if_pos q] at c
        exact n32 _ (tblL k hk j q) c
      have a2 : ¬ lenW k < j := by
        intro q
        have := hm (lenW k) q
        rw [t (lenW k) (by omega), if_neg (by omega)] at this
        exact n32 _ (hl (lenW k) q) this.symm
      refine ⟨by omega, fun i hi => ?_⟩
      have := hm i (by omega)
      rw [t i (by omega), if_pos hi] at this
      exact this.symm
    · intro q
      have e := q.1
      rw [t j hw, if_neg (by omega)] at c
      exact c rfl
  | succ m ih =>
    intro j hj hm
    show w_X4_isWordAt_36 M posti _ (nI (7 * k)) (nI w) (nI j) τ
    unfold w_X4_isWordAt_36
    rw [h4, nI_add, nI_add, nI_add]
    refine br_f (nI_ge (by omega) (by omega)) ⟨vp_in_nI (by omega) (by decide), c_byte hT (by omega) (fun _ => ⟨fun c x10 e10 => ?_, fun c => h0 ?_⟩) (fun q => by omega)⟩
    · rw [e10, nI_1]
      refine ih (j + 1) (by omega) (fun i hi => ?_)
      by_cases e : i = j
      · rw [e]; exact c
      · exact hm i (by omega)
    · intro q
      have e := q.1
      rw [t j (by omega), if_pos (by omega)] at c
      exact c (q.2 j (by omega)).symm
theorem c_isWord (hT : TPc n f τ) {k p e : Nat} (hk : k < 12) (hp : p ≤ e ∧ e ≤ n) (hl : ∀ j, p ≤ j → j < e → leP (f j)) (h2 : gi τ 5 2 = nI e) (h4 : gi τ 5 4 = nI p) (h1 : isW k (e - p) (fun i => f (p + i)) → posti 1 τ) (h0 : ¬ isW k (e - p) (fun i => f (p + i)) → posti 0 τ) : w_X4_isWordAt M posti (nI (7 * k)) τ := by
  have hn := hT.2.1
  obtain ⟨l1, l2, -⟩ := tblN k hk
  unfold w_X4_isWordAt
  rw [h2, h4, nI_sub' hp.1]
  have e84 : (84 : Int32) - 7 = nI 77 := by decide
  rw [e84]
  refine br_f (nI_pos (by omega)) ?_
  by_cases c : e - p < 7
  · refine br_f (nI_ge (b := 7) (by omega) (by decide)) (br_t (by rw [il, nI_toInt (by omega), nI_toInt (by omega)]; omega) ⟨e - p + 1, ?_⟩)
    exact c_isWordL hT hk c (by omega) (fun i hi => hl (p + i) (by omega) (by omega)) h4 h1 h0 (e - p) 0 (by omega) (fun i hi => absurd hi (by omega))
  · refine br_t (by rw [il, nI_toInt (by omega)]; have : (7 : Int32).toInt = 7 := by decide
                    omega) (h0 (fun q => ?_))
    have := q.1
    omega
theorem c_wordsL (hT0 : TPc n f τ0) {p e : Nat} (hp : p ≤ e ∧ e ≤ n) (hl : ∀ j, p ≤ j → j < e → leP (f j)) (h : ∀ τ', FrL τ0 τ' → gi τ' 5 2 = nI e → gi τ' 5 4 = nI p → gi τ' 5 3 = (if wdF (e - p) (fun i => f (p + i)) 12 < 12 then 1000 + nI (wdF (e - p) (fun i => f (p + i)) 12) else 1) → post τ') :
    ∀ (m k : Nat) (τ : St), k + m = 12 → FrL τ0 τ → gi τ 5 2 = nI e → gi τ 5 4 = nI p → gi τ 5 3 = (if wdF (e - p) (fun i => f (p + i)) k < 12 then 1000 + nI (wdF (e - p) (fun i => f (p + i)) k) else 1) → wl_X4_stepOverWord_44 M post (m + 1) (nI (7 * k)) τ := by
  intro m
  induction m with
  | zero =>
    intro k τ hk hf h2 h4 h3
    have hk : k = 12 := hk
    subst hk
    exact br_t (by decide) (h τ hf h2 h4 h3)
  | succ m ih =>
    intro k τ hk hf h2 h4 h3
    show w_X4_stepOverWord_44 M post _ (nI (7 * k)) τ
    unfold w_X4_stepOverWord_44
    have e7 : nI (7 * k) + 7 = nI (7 * (k + 1)) := by rw [show (7 : Int32) = nI 7 from rfl, nI_add, Nat.mul_succ]
    rw [e7]
    refine br_f (nI_ge (b := 84) (by omega) (by decide)) (c_isWord (TPc_fr hT0 hf) (by omega) hp hl h2 h4 (fun c => br_f (by decide) (fun σ8 e8 x9 e9 => ?_)) (fun c => br_t rfl (fun x7 e7 => ?_)))
    · rw [e9]
      refine ih (k + 1) σ8 (by omega) (by rw [e8]; exact FrL_si hf (by omega)) (by rw [e8, gsk (by decide)]; exact h2) (by rw [e8, gsk (by decide)]; exact h4) ?_
      have ew : wdF (e - p) (fun i => f (p + i)) (k + 1) = k := by
        show (if isW k (e - p) (fun i => f (p + i)) then k else _) = k
        rw [if_pos c]
      rw [ew, if_pos (by omega), e8, gss, show (7 : Int32) = nI 7 from rfl, i_div (by omega) (by omega) (by omega), show 7 * k / 7 = k by omega]
    · rw [e7]
      refine ih (k + 1) τ (by omega) hf h2 h4 ?_
      have ew : wdF (e - p) (fun i => f (p + i)) (k + 1) = wdF (e - p) (fun i => f (p + i)) k := by
        show (if isW k (e - p) (fun i => f (p + i)) then k else wdF (e - p) (fun i => f (p + i)) k) = _
        rw [if_neg c]
      rw [ew]; exact h3
theorem c_wordL (hT0 : TPc n f τ0) {p : Nat} (hpn : p ≤ n) (h : ∀ (e : Nat) (τ' : St), e = runF n f leB n p → FrL τ0 τ' → gi τ' 5 2 = nI e → gi τ' 5 4 = nI p → gi τ' 5 3 = 1 → ∃ m, wl_X4_stepOverWord_44 M post m 0 τ') :
    ∀ (k q : Nat) (τ : St), n - q ≤ k → p ≤ q → q ≤ n → runF n f leB k q = runF n f leB n p → FrL τ0 τ → gi τ 5 2 = nI q → gi τ 5 4 = nI p → wl_X4_stepOverWord_5 M post (k + 1) (nI q) τ := by
  have hn := hT0.2.1
  intro k
  have stop : ∀ (q : Nat) (τ : St), runF n f leB n p = q → FrL τ0 τ → gi τ 5 2 = nI q → gi τ 5 4 = nI p → ∀ σ2 : St, σ2 = si τ 5 3 1 → ∃ m, wl_X4_stepOverWord_44 M post m 0 σ2 := by
    intro q τ hq hf h2 h4 σ2 e2
    exact h q σ2 hq.symm (by rw [e2]; exact FrL_si hf (by omega)) (by rw [e2, gsk (by decide)]; exact h2) (by rw [e2, gsk (by decide)]; exact h4) (by rw [e2]; exact gss)
  induction k with
  | zero =>
    intro q τ hk hpq hqn hr hf h2 h4
    have hT := TPc_fr hT0 hf
    show w_X4_stepOverWord_5 M post _ (nI q) τ
    unfold w_X4_stepOverWord_5
    rw [hT.1]
    exact br_t (by rw [il, nI_toInt (by omega), nI_toInt (by omega)]; omega) (stop q τ hr.symm hf h2 h4)
  | succ k ih =>
    intro q τ hk hpq hqn hr hf h2 h4
    have hT := TPc_fr hT0 hf
    show w_X4_stepOverWord_5 M post _ (nI q) τ
    unfold w_X4_stepOverWord_5
    rw [hT.1]
    rw [show runF n f leB (k + 1) q = (if q < n ∧ leB (f q) = true then runF n f leB k (q + 1) else q) from rfl] at hr
    by_cases c : q < n
    · refine br_f (nI_ge c (by omega)) (c_byte hT (by omega) (fun _ => c_isLet (fun d => br_f (by decide) (fun σ9 e9 x10 e10 => ?_)) (fun d => br_t rfl ?_)) (fun z => by omega))
      · rw [if_pos ⟨c, leB_t.mpr d⟩] at hr
        rw [e10, nI_1]
        rw [nI_1] at e9
        exact ih (q + 1) σ9 (by omega) (by omega) (by omega) hr (by rw [e9]; exact FrL_si hf (by omega)) (by rw [e9, gss]) (by rw [e9, gsk (by decide)]; exact h4)
      · rw [if_neg (fun z => d (leB_t.mp z.2))] at hr
        exact stop q τ hr.symm hf h2 h4
    · rw [if_neg (fun z => c z.1)] at hr
      exact br_t (by rw [il, nI_toInt (by omega), nI_toInt (by omega)]; omega) (stop q τ hr.symm hf h2 h4)
theorem c_word (hT : TPc n f τ) {p : Nat} (hp : p ≤ n) (h2 : gi τ 5 2 = nI p) (h4 : gi τ 5 4 = nI p) (h : ∀ τ', FrL τ τ' → gi τ' 5 2 = nI (runF n f leB n p) → gi τ' 5 4 = nI p → gi τ' 5 3 = (if wlen n f p < 12 then 1000 + nI (wlen n f p) else 1) → post τ') : w_X4_stepOverWord M post τ := by
  have hr := run_le (f := f) (b := leB) n p hp
  unfold w_X4_stepOverWord
  rw [h2]
  refine ⟨n + 1, c_wordL hT hp (fun e τ' he hf g2 g4 g3 => ⟨13, ?_⟩) n p τ (by omega) (Nat.le_refl _) hp rfl (FrL_refl τ) h2 h4⟩
  subst he
  exact c_wordsL hT (p := p) (e := runF n f leB n p) ⟨hr.1, hr.2⟩ (fun j h1 h2 => leB_t.mp (run_in n p j h1 h2)) (fun τ'' k1 k2 k4 k3 => h τ'' k1 k2 k4 k3) 12 0 τ' rfl hf g2 g4 g3
/-! a number -/
theorem c_numL (hT0 : TPc n f τ0) {p : Nat} (h : ∀ (e : Nat) (τ' : St), e = runF n f diB n p → FrL τ0 τ' → gi τ' 5 2 = nI e → gi τ' 5 4 = nI p → gi τ' 5 5 = numF f p (e - p) → w_X4_stepOverNumber_62 M post τ') :
    ∀ (k q : Nat) (τ : St), n - q ≤ k → p ≤ q → q ≤ n → runF n f diB k q = runF n f diB n p → FrL τ0 τ → gi τ 5 2 = nI q → gi τ 5 4 = nI p → gi τ 5 5 = numF f p (q - p) → wl_X4_stepOverNumber_10 M post (k + 1) (nI q) τ := by
  have hn := hT0.2.1
  intro k
  induction k with
  | zero =>
    intro q τ hk hpq hqn hr hf h2 h4 h5
    have hT := TPc_fr hT0 hf
    show w_X4_stepOverNumber_10 M post _ (nI q) τ
    unfold w_X4_stepOverNumber_10
    rw [hT.1]
    exact br_t (by rw [il, nI_toInt (by omega), nI_toInt (by omega)]; omega) (h q τ hr hf h2 h4 h5)
  | succ k ih =>
    intro q τ hk hpq hqn hr hf h2 h4 h5
    have hT := TPc_fr hT0 hf
    show w_X4_stepOverNumber_10 M post _ (nI q) τ
    unfold w_X4_stepOverNumber_10
    rw [hT.1]
    rw [show runF n f diB (k + 1) q = (if q < n ∧ diB (f q) = true then runF n f diB k (q + 1) else q) from rfl] at hr
    by_cases c : q < n
    · refine br_f (nI_ge c (by omega)) (c_byte hT (by omega) (fun _ => c_isDig (fun d => br_f (by decide) (c_byte hT (by omega) (fun _ => ?_) (fun z => by omega))) (fun d => br_t rfl ?_)) (fun z => by omega))
      · intro x9 e9 σ10 e10 σ11 e11 x12 e12
        rw [if_pos ⟨c, diB_t.mpr d⟩] at hr
        rw [e12, nI_1]
        rw [nI_1] at e11
        rw [h5] at e9
        refine ih (q + 1) σ11 (by omega) (by omega) (by omega) hr (by rw [e11, e10]; exact FrL_si (FrL_si hf (by omega)) (by omega)) (by rw [e11, gss]) (by rw [e11, gsk (by decide), e10, gsk (by decide)]; exact h4) ?_
        rw [e11, gsk (by decide), e10, gss, e9, show q + 1 - p = (q - p) + 1 by omega]
        show _ = (10 * numF f p (q - p)) + (f (p + (q - p)) - 48)
        rw [show p + (q - p) = q by omega]
      · rw [if_neg (fun z => d (diB_t.mp z.2))] at hr
        exact h q τ hr hf h2 h4 h5
    · rw [if_neg (fun z => c z.1)] at hr
      exact br_t (by rw [il, nI_toInt (by omega), nI_toInt (by omega)]; omega) (h q τ hr hf h2 h4 h5)
theorem c_num (hT : TPc n f τ) {p : Nat} (hp : p ≤ n) (h2 : gi τ 5 2 = nI p) (h4 : gi τ 5 4 = nI p) (h : ∀ τ', FrL τ τ' → gi τ' 5 2 = nI (runF n f diB n p) → gi τ' 5 4 = nI p → gi τ' 5 3 = (if runF n f diB n p - p ≤ 4 then 2 else 1) → gi τ' 5 5 = numF f p (runF n f diB n p - p) → post τ') : w_X4_stepOverNumber M post τ := by
  have hn := hT.2.1
  have hr := run_le (f := f) (b := diB) n p hp
  unfold w_X4_stepOverNumber
  intro σ1 e1
  have g2 : gi σ1 5 2 = nI p := by rw [e1, gsk (by decide)]; exact h2
  rw [g2]
  have f1 : FrL τ σ1 := by rw [e1]; exact FrL_si (FrL_refl τ) (by omega)
  refine ⟨n + 1, c_numL hT (fun e τ' he hf k2 k4 k5 => ?_) n p σ1 (by omega) (Nat.le_refl _) hp rfl f1 g2 (by rw [e1, gsk (by decide)]; exact h4) (by rw [e1, gss, Nat.sub_self]; rfl)⟩
  subst he
  unfold w_X4_stepOverNumber_62
  rw [k2, k4, nI_sub' hr.1]
  refine brle (c := 4) (n := 4) (by decide) (fun c σ2 e2 => ?_) (fun c σ3 e3 => ?_)
  · rw [nI_toInt (by omega)] at c
    refine h σ2 (by rw [e2]; exact FrL_si hf (by omega)) (by rw [e2, gsk (by decide)]; exact k2) (by rw [e2, gsk (by decide)]; exact k4) ?_ (by rw [e2, gsk (by decide)]; exact k5)
    rw [e2, gss, if_pos (by omega)]
  · rw [nI_toInt (by omega)] at c
    refine h σ3 (by rw [e3]; exact FrL_si hf (by omega)) (by rw [e3, gsk (by decide)]; exact k2) (by rw [e3, gsk (by decide)]; exact k4) ?_ (by rw [e3, gsk (by decide)]; exact k5)
    rw [e3, gss, if_neg (by omega)]
theorem c_46 (hT : TPc n f τ) {p : Nat} (hp : p ≤ n) (h2 : gi τ 5 2 = nI p) (h : ∀ τ', FrL τ τ' → gi τ' 5 2 = nI (nxP n f p) → gi τ' 5 4 = nI p → gi τ' 5 3 = tcC (tkP n f p) → ((tkP n f p).1 = 1 → gi τ' 5 5 = (tkP n f p).2) → post τ') : w_X4_stepOn_46 M post τ := by
  have hn := hT.2.1
  unfold w_X4_stepOn_46
  intro σ1 e1
  rw [h2] at e1
  have f1 : FrL τ σ1 := by rw [e1]; exact FrL_si (FrL_refl τ) (by omega)
  have hT1 := TPc_fr hT f1
  have g2 : gi σ1 5 2 = nI p := by rw [e1, gsk (by decide)]; exact h2
  have g4 : gi σ1 5 4 = nI p := by rw [e1]; exact gss
  rw [g2]
  unfold nxP tkP at h
  refine c_byte hT1 (by omega) (fun c => ?_) (fun c => br_t rfl (fun σ20 e20 => ?_))
  · have hb := hT.2.2.2 p c
    rw [if_neg (show ¬ n ≤ p by omega), if_neg (show ¬ n ≤ p by omega)] at h
    refine br_f (fun q => by rw [q, im1] at hb; omega) (c_isLet (fun d => br_f (by decide) ?_) (fun d => br_t rfl (c_isDig (fun d2 => br_f (by decide) ?_) (fun d2 => br_t rfl ?_))))
    · rw [if_pos d, if_pos d] at h
      refine c_word hT1 hp g2 g4 (fun τ' k1 k2 k4 k3 => h τ' (FrL_trans f1 k1) k2 k4 ?_ ?_)
      · rw [k3]
        have hw := (wdF_le (n := runF n f leB n p - p) (f := fun i => f (p + i)) 12 (Nat.le_refl _)).1
        have hw : wlen n f p ≤ 12 := hw
        by_cases w1 : wlen n f p < 6
        · rw [if_pos w1, if_pos (by omega)]; rfl
        · rw [if_neg w1]
          by_cases w2 : wlen n f p < 12
          · rw [if_pos w2, if_pos w2]
            show _ = 1006 + nI (wlen n f p - 6)
            rw [show (1006 : Int32) = nI 1006 from rfl, show (1000 : Int32) = nI 1000 from rfl, nI_add, nI_add]
            congr 1
            omega
          · rw [if_neg w2, if_neg w2]; rfl
      · intro z
        exfalso
        split at z
        · cases z
        · split at z
          · cases z
          · cases z
    · rw [if_neg d, if_neg d, if_pos d2, if_pos d2] at h
      refine c_num hT1 hp g2 g4 (fun τ' k1 k2 k4 k3 k5 => h τ' (FrL_trans f1 k1) k2 k4 ?_ ?_)
      · rw [k3]
        by_cases w : runF n f diB n p - p ≤ 4
        · rw [if_pos w, if_pos w]; rfl
        · rw [if_neg w, if_neg w]; rfl
      · intro z
        by_cases w : runF n f diB n p - p ≤ 4
        · rw [if_pos w]; exact k5
        · rw [if_neg w] at z; cases z
    · rw [if_neg d, if_neg d, if_neg d2, if_neg d2] at h
      intro σ11 e11 x12 e12
      rw [g2, nI_1] at e11
      obtain ⟨b, hb2, eb⟩ := as_nI (s := f p) (n := 255) hb
      obtain ⟨s1, s2⟩ := tblS b (by omega)
      rw [← eb] at s1 s2
      rw [s1] at e12
      rw [e12]
      have f11 : FrL τ σ11 := by rw [e11]; exact FrL_si f1 (by omega)
      have k4 : gi σ11 5 4 = nI p := by rw [e11, gsk (by decide)]; exact g4
      refine ⟨⟨il.mpr (by rw [i_0]; omega), il.mpr (by have : (255 : Int32).toInt = 255 := by decide
                                                       omega)⟩, fun q σ16 e16 => ?_, fun q σ17 e17 => ?_⟩
      · rw [if_neg (s2.mp q)] at h
        exact h σ16 (by rw [e16]; exact FrL_si f11 (by omega)) (by rw [e16, gsk (by decide), e11, gss]) (by rw [e16, gsk (by decide)]; exact k4) (by rw [e16, gss]; rfl) (fun z => by cases z)
      · have q' : sgP (f p) := Classical.byContradiction (fun z => q (s2.mpr z))
        rw [if_pos q'] at h
        exact h σ17 (by rw [e17]; exact FrL_si f11 (by omega)) (by rw [e17, gsk (by decide), e11, gss]) (by rw [e17, gsk (by decide)]; exact k4) (by rw [e17, gss]; rfl) (fun z => by cases z)
  · rw [if_pos c, if_pos c] at h
    exact h σ20 (by rw [e20]; exact FrL_si f1 (by omega)) (by rw [e20, gsk (by decide)]; exact g2) (by rw [e20, gsk (by decide)]; exact g4) (by rw [e20, gss]; rfl) (fun z => by cases z)
theorem c_stepL (hT0 : TPc n f τ0) {q0 : Nat} (h : ∀ τ', FrL τ0 τ' → TkC n f q0 τ' → post τ') : ∀ (k q : Nat) (τ : St), n - q ≤ k → q ≤ n → runF n f blB k q = plF n f q0 → FrL τ0 τ → gi τ 5 2 = nI q → wl_X4_stepOn_5 M post (k + 1) (nI q) τ := by
  have hn := hT0.2.1
  have stop : ∀ (q : Nat) (τ : St), q ≤ n → plF n f q0 = q → FrL τ0 τ → gi τ 5 2 = nI q → w_X4_stepOn_46 M post τ := by
    intro q τ hq he hf h2
    refine c_46 (TPc_fr hT0 hf) hq h2 (fun τ' k1 k2 k4 k3 k5 => h τ' (FrL_trans hf k1) ⟨?_, ?_, ?_, ?_⟩)
    · unfold nxF; rw [he]; exact k2
    · rw [he]; exact k4
    · unfold tkF; rw [he]; exact k3
    · unfold tkF; rw [he]; exact k5
  intro k
  induction k with
  | zero =>
    intro q τ hk hq hr hf h2
    have hT := TPc_fr hT0 hf
    show w_X4_stepOn_5 M post _ (nI q) τ
    unfold w_X4_stepOn_5
    rw [hT.1]
    exact br_t (by rw [il, nI_toInt (by omega), nI_toInt (by omega)]; omega) (stop q τ hq hr.symm hf h2)
  | succ k ih =>
    intro q τ hk hq hr hf h2
    have hT := TPc_fr hT0 hf
    show w_X4_stepOn_5 M post _ (nI q) τ
    unfold w_X4_stepOn_5
    rw [hT.1]
    rw [show runF n f blB (k + 1) q = (if q < n ∧ blB (f q) = true then runF n f blB k (q + 1) else q) from rfl] at hr
    by_cases c : q < n
    · have go : blP (f q) → ∀ σ5 : St, σ5 = si τ 5 2 (nI q + 1) → ∀ x6 : Int32, x6 = nI q + 1 → wl_X4_stepOn_5 M post (k + 1) x6 σ5 := by
        intro d σ5 e5 x6 e6
        rw [if_pos ⟨c, blB_t.mpr d⟩] at hr
        rw [nI_1] at e5
        rw [e6, nI_1]
        exact ih (q + 1) σ5 (by omega) (by omega) hr (by rw [e5]; exact FrL_si hf (by omega)) (by rw [e5, gss])
      refine br_f (nI_ge c (by omega)) (c_byte hT (by omega) (fun _ => ⟨fun d => go (Or.inl d), fun d => c_byte hT (by omega) (fun _ => ⟨fun d2 => go (Or.inr d2), fun d2 => ?_⟩) (fun z => by omega)⟩) (fun z => by omega))
      rw [if_neg (fun z => (blB_t.mp z.2).elim d d2)] at hr
      exact stop q τ hq hr.symm hf h2
    · rw [if_neg (fun z => c z.1)] at hr
      exact br_t (by rw [il, nI_toInt (by omega), nI_toInt (by omega)]; omega) (stop q τ hq hr.symm hf h2)
theorem c_stepOn (hT : TPc n f τ) {q : Nat} (hq : q ≤ n) (h2 : gi τ 5 2 = nI q) (h : ∀ τ', FrL τ τ' → TkC n f q τ' → post τ') : w_X4_stepOn M post τ := by
  unfold w_X4_stepOn
  rw [h2]
  exact ⟨n + 1, c_stepL hT h n q τ (by omega) hq rfl (FrL_refl τ) h2⟩
end CLEX
