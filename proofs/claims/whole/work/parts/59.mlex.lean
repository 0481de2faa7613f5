/-! the reference's next token -/
def TPm (n : Nat) (f : Nat → Int32) (τ : St) : Prop := gi τ 0 4 = nI n ∧ n ≤ 160 ∧ (∀ k, k < n → gi τ 3 k = f k) ∧ (∀ k, k < n → 0 ≤ (f k).toInt ∧ (f k).toInt ≤ 255) ∧ ∀ k, k < 60 → gi τ 7 k = lt7.getD k 0
def FrM (τ0 τ : St) : Prop := ∀ a k, ¬ (a = 0 ∧ 11 ≤ k ∧ k ≤ 14) → gi τ a k = gi τ0 a k
theorem FrM_refl (τ : St) : FrM τ τ := fun _ _ _ => rfl
theorem FrM_trans {a b c : St} (h1 : FrM a b) (h2 : FrM b c) : FrM a c := fun x k h => (h2 x k h).trans (h1 x k h)
theorem FrM_si {τ0 τ : St} {k : Nat} {v : Int32} (h : FrM τ0 τ) (hk : 11 ≤ k ∧ k ≤ 14) : FrM τ0 (si τ 0 k v) := fun a j hj => by rw [gsn (by omega)]; exact h a j hj
theorem TPm_fr {n : Nat} {f : Nat → Int32} {τ0 τ : St} (h : TPm n f τ0) (hf : FrM τ0 τ) : TPm n f τ := ⟨(hf 0 4 (by omega)).trans h.1, h.2.1, fun k hk => (hf 3 k (by omega)).trans (h.2.2.1 k hk), h.2.2.2.1, fun k hk => (hf 7 k (by omega)).trans (h.2.2.2.2 k hk)⟩
def TkM (n : Nat) (f : Nat → Int32) (q : Nat) (τ : St) : Prop := gi τ 0 12 = nI (nxF n f q) ∧ gi τ 0 11 = nI (plF n f q) ∧ gi τ 0 13 = nI (tkF n f q).1 ∧ (1 ≤ (tkF n f q).1 ∧ (tkF n f q).1 ≤ 4 → gi τ 0 14 = (tkF n f q).2)
def offM (m : Nat) : Nat := if m = 12 then 60 else offW ((m + 6) % 12)
theorem tblM : ∀ m, m < 12 → offM (m + 1) = offM m + lenW ((m + 6) % 12) + 1 ∧ offM m = offW ((m + 6) % 12) := by decide +kernel
section MLEX
variable {post : St → Prop} {posti : Int32 → St → Prop} {τ τ0 : St} {n : Nat} {f : Nat → Int32}
theorem m_byte (hT : TPm n f τ) {q : Nat} (hq : q ≤ 1000) (h1 : q < n → posti (f q) τ) (h2 : n ≤ q → posti (-1) τ) : w_X7_byteAt 20 posti (nI q) τ := by
  obtain ⟨t1, t2, t3, -⟩ := hT
  unfold w_X7_byteAt
  rw [t1]
  by_cases c : q < n
  · refine br_f (nI_ge c (by omega)) ⟨vp_in_nI (by omega) (by decide), ?_⟩
    rw [nI_clamp (by omega), t3 q c]
    exact h1 c
  · exact br_t (by rw [il, nI_toInt (by omega), nI_toInt (by omega)]; omega) (h2 (by omega))
theorem m_isLet {v : Int32} (h1 : leP v → posti 1 τ) (h0 : ¬ leP v → posti 0 τ) : w_X7_isLetter 20 posti v τ := by
  unfold w_X7_isLetter
  exact m_in' (lo := 97) (hi := 122) (by decide) (by decide) (fun c => ⟨rfl, h1 c⟩) (fun c => ⟨rfl, h0 c⟩)
theorem m_isDig {v : Int32} (h1 : diP v → posti 1 τ) (h0 : ¬ diP v → posti 0 τ) : w_X7_isDigit 20 posti v τ := by
  unfold w_X7_isDigit
  exact m_in' (lo := 48) (hi := 57) (by decide) (by decide) (fun c => ⟨rfl, h1 c⟩) (fun c => ⟨rfl, h0 c⟩)
theorem m_isSgn {v : Int32} (h1 : sgP v → posti 1 τ) (h0 : ¬ sgP v → posti 0 τ) : w_X7_isSignByte 20 posti v τ := by
  unfold w_X7_isSignByte
  unfold sgP at h1 h0
  exact ⟨fun c => h1 (Or.inl c), fun c => ⟨fun d => h1 (Or.inr (Or.inl d)), fun d => ⟨fun e => h1 (Or.inr (Or.inr (Or.inl e))), fun e => ⟨fun g => h1 (Or.inr (Or.inr (Or.inr (Or.inl g)))), fun g => ⟨fun i => h1 (Or.inr (Or.inr (Or.inr (Or.inr (Or.inl i))))), fun i => ⟨fun j => h1 (Or.inr (Or.inr (Or.inr (Or.inr (Or.inr (Or.inl j)))))), fun j => ⟨fun k => h1 (Or.inr (Or.inr (Or.inr (Or.inr (Or.inr (Or.inr (Or.inl k))))))), fun k => ⟨fun l => h1 (Or.inr (Or.inr (Or.inr (Or.inr (Or.inr (Or.inr (Or.inr l))))))), fun l => h0 (fun z => by
    rcases z with z | z | z | z | z | z | z | z
    · exact c z
    · exact d z
    · exact e z
    · exact g z
    · exact i z
    · exact j z
    · exact k z
    · exact l z)⟩⟩⟩⟩⟩⟩⟩⟩
/-! which word -/
theorem m_wordI (hT : TPm n f τ) {p e m : Nat} (hm : m < 12) (hp : p ≤ e ∧ e ≤ n) (hl : ∀ j, p ≤ j → j < e → leP (f j)) (g11 : gi τ 0 11 = nI p) (g12 : gi τ 0 12 = nI e) {k4 : Int32 → Int32 → St → Prop} (h1 : isW ((m + 6) % 12) (e - p) (fun i => f (p + i)) → posti (nI m) τ) (h0 : ¬ isW ((m + 6) % 12) (e - p) (fun i => f (p + i)) → k4 (nI (offM (m + 1))) (nI (m + 1)) τ) :
    ∀ (k j : Nat) (b : Int32), j + k = lenW ((m + 6) % 12) → (b = 0 ∨ b = 1) → (b = 1 ↔ ∀ i, i < j → i < e - p ∧ f (p + i) = chW ((m + 6) % 12) i) → wl_X7_wordOf_18 20 posti k4 (k + 1) (nI (offM m)) (nI m) (nI j) b τ := by
  have hn := hT.2.1
  have h7 := hT.2.2.2.2
  obtain ⟨t1, t2⟩ := tblM m hm
  obtain ⟨l1, l2, l3⟩ := tblN ((m + 6) % 12) (by omega)
  have n32 : ∀ v : Int32, leP v → v ≠ 32 := by
    intro v hv q
    rw [q] at hv
    exact absurd hv (by decide)
  intro k
  induction k with
  | zero =>
    intro j b hj hb hbi
    have hj : j = lenW ((m + 6) % 12) := hj
    show w_X7_wordOf_18 20 posti k4 _ (nI (offM m)) (nI m) (nI j) b τ
    unfold w_X7_wordOf_18
    rw [nI_add, nI_clamp (by omega), g11, g12, nI_sub' hp.1]
    refine ⟨vp_in_nI (by omega) (by decide), fun x1 e1 => ?_⟩
    have x32 : x1 = 32 := by rw [e1, h7 _ (by omega), t2, hj]; exact tblE _ (by omega)
    have nxt : ¬ isW ((m + 6) % 12) (e - p) (fun i => f (p + i)) → w_X7_wordOf_104 20 posti k4 (nI (offM m)) (nI m) (nI j) τ := by
      intro q
      unfold w_X7_wordOf_104
      intro x1 e1
      rw [e1, nI_1, nI_1, nI_add, hj, show offM m + (lenW ((m + 6) % 12) + 1) = offM (m + 1) by omega]
      exact h0 q
    refine br_t x32 ⟨fun c => nxt (fun q => ?_), fun c => ⟨fun d => h1 ?_, fun d => nxt (fun q => ?_)⟩⟩
    · have : b = 1 := hbi.mpr (fun i hi => ⟨by have := q.1; omega, q.2 i (by omega)⟩)
      rw [this] at c
      exact absurd c (by decide)
    · have b1 : b = 1 := hb.elim (fun z => absurd z c) id
      have hd := (nI_inj (a := j) (b := e - p) (by omega) (by omega)).mp d
      exact ⟨by omega, fun i hi => ((hbi.mp b1) i (by omega)).2⟩
    · exact d ((nI_inj (a := j) (b := e - p) (by omega) (by omega)).mpr (by have := q.1; omega))
  | succ k ih =>
    intro j b hj hb hbi
    show w_X7_wordOf_18 20 posti k4 _ (nI (offM m)) (nI m) (nI j) b τ
    unfold w_X7_wordOf_18
    rw [nI_add, nI_clamp (by omega), g11, g12, nI_add]
    refine ⟨vp_in_nI (by omega) (by decide), fun x1 e1 => ?_⟩
    have xl : x1 = chW ((m + 6) % 12) j := by rw [e1, h7 _ (by omega), t2]; rfl
    have x32 : ¬ x1 = 32 := by rw [xl]; exact n32 _ (tblL _ (by omega) j (by omega))
    have no : ¬ (∀ i, i < j + 1 → i < e - p ∧ f (p + i) = chW ((m + 6) % 12) i) → ∀ x : Int32, x = nI j + 1 → wl_X7_wordOf_18 20 posti k4 (k + 1) (nI (offM m)) (nI m) x 0 τ := by
      intro q x ex
      rw [ex, nI_1]
      exact ih (j + 1) 0 (by omega) (Or.inl rfl) ⟨fun z => absurd z (by decide), fun z => absurd z q⟩
    refine br_f x32 ⟨fun c => no (fun q => ?_), fun c => ⟨fun d => no (fun q => ?_), fun d => ⟨?_, fun x9 e9 => ⟨vp_in_nI (by omega) (by decide), fun x10 e10 => ⟨fun g x13 e13 => ?_, fun g => no (fun q => ?_)⟩⟩⟩⟩⟩
    · have : b = 1 := hbi.mpr (fun i hi => q i (by omega))
      rw [this] at c
      exact absurd c (by decide)
    · have := (q j (by omega)).1
      have d' := il.mp d
      rw [nI_toInt (by omega), nI_toInt (by omega)] at d'
      omega
    · have d' : ¬ (nI e).toInt ≤ (nI (p + j)).toInt := fun z => d (il.mpr z)
      by_cases z : p + j < 2 ^ 31
      · rw [nI_toInt (by omega), nI_toInt z] at d'
        exact vp_in_nI (by omega) (by decide)
      · omega
    · have d' : ¬ (nI e).toInt ≤ (nI (p + j)).toInt := fun z => d (il.mpr z)
      rw [nI_toInt (by omega), nI_toInt (by omega)] at d'
      rw [nI_clamp (by omega), hT.2.2.1 _ (by omega)] at e9
      rw [e13, nI_1]
      refine ih (j + 1) 1 (by omega) (Or.inr rfl) ⟨fun _ i hi => ?_, fun _ => rfl⟩
      have b1 : b = 1 := hb.elim (fun z => absurd z c) id
      by_cases ei : i = j
      · rw [ei]
        refine ⟨by omega, ?_⟩
        rw [← e9, g, e10, ← e1, xl]
      · exact hbi.mp b1 i (by omega)
    · have d' : ¬ (nI e).toInt ≤ (nI (p + j)).toInt := fun z => d (il.mpr z)
      rw [nI_toInt (by omega), nI_toInt (by omega)] at d'
      rw [nI_clamp (by omega), hT.2.2.1 _ (by omega)] at e9
      have := (q j (by omega)).2
      apply g
      rw [e9, e10, ← e1, xl]
      exact this
def wM (k : Nat) : Int32 := if k < 12 then nI ((k + 6) % 12) else -1
theorem m_wordOf (hT : TPm n f τ) {p e : Nat} (hp : p ≤ e ∧ e ≤ n) (hl : ∀ j, p ≤ j → j < e → leP (f j)) (g11 : gi τ 0 11 = nI p) (g12 : gi τ 0 12 = nI e) (h : posti (wM (wdF (e - p) (fun i => f (p + i)) 12)) τ) : w_X7_wordOf 20 posti τ := by
  have key : ∀ (k m : Nat), m + k = 12 → (∀ m', m' < m → ¬ isW ((m' + 6) % 12) (e - p) (fun i => f (p + i))) → wl_X7_wordOf_4 20 posti (k + 1) (nI (offM m)) (nI m) τ := by
    intro k
    induction k with
    | zero =>
      intro m hm hno
      have hm : m = 12 := hm
      subst hm
      have e12 : wdF (e - p) (fun i => f (p + i)) 12 = 12 := by
        refine wdF_none (fun k hk => ?_) 12 (Nat.le_refl _)
        have := hno ((k + 6) % 12) (by omega)
        rw [show ((k + 6) % 12 + 6) % 12 = k by omega] at this
        exact this
      rw [e12] at h
      exact br_t (by decide) h
    | succ k ih =>
      intro m hm hno
      obtain ⟨t1, t2⟩ := tblM m (by omega)
      obtain ⟨l1, l2, l3⟩ := tblN ((m + 6) % 12) (by omega)
      show w_X7_wordOf_4 20 posti _ (nI (offM m)) (nI m) τ
      unfold w_X7_wordOf_4
      refine br_f (nI_ge (b := 60) (by omega) (by decide)) ⟨lenW ((m + 6) % 12) + 1, m_wordI hT (by omega) hp hl g11 g12 (fun c => ?_) (fun c => ?_) (lenW ((m + 6) % 12)) 0 1 (by omega) (Or.inr rfl) ⟨fun _ i hi => absurd hi (by omega), fun _ => rfl⟩⟩
      · have ew := wdF_some c 12 (Nat.le_refl _) (by omega)
        rw [ew] at h
        unfold wM at h
        rw [if_pos (by omega), show ((m + 6) % 12 + 6) % 12 = m by omega] at h
        exact h
      · refine ih (m + 1) (by omega) (fun m' hm' => ?_)
        by_cases e : m' = m
        · rw [e]; exact c
        · exact hno m' (by omega)
  exact ⟨13, key 12 0 rfl (fun m' hm' => absurd hm' (by omega))⟩
theorem m_wdL (hT0 : TPm n f τ0) {p : Nat} (hpn : p ≤ n) (h : ∀ (τ' : St), FrM τ0 τ' → gi τ' 0 12 = nI (runF n f leB n p) → gi τ' 0 11 = nI p → gi τ' 0 13 = nI (if wlen n f p < 6 then 3 else if wlen n f p < 12 then 2 else 5) → (wlen n f p < 12 → gi τ' 0 14 = (if wlen n f p < 6 then nI (wlen n f p) else nI (wlen n f p - 6))) → post τ') :
    ∀ (k q : Nat) (τ : St), n - q ≤ k → p ≤ q → q ≤ n → runF n f leB k q = runF n f leB n p → FrM τ0 τ → gi τ 0 12 = nI q → gi τ 0 11 = nI p → wl_X7_next_73 20 post (k + 1) τ := by
  have hn := hT0.2.1
  have hrl := run_le (f := f) (b := leB) n p hpn
  have stop : ∀ (Y : St → Prop) (q : Nat) (τ : St), runF n f leB n p = q → ¬ (q < n ∧ leP (f q)) → FrM τ0 τ → gi τ 0 12 = nI q → gi τ 0 11 = nI p → w_X7_next_73 20 post Y τ := by
    intro Y q τ hq hs hf h2 h4
    have hT := TPm_fr hT0 hf
    unfold w_X7_next_73
    rw [h2]
    have fin : w_X7_wordOf 20 (fun r7 σ6 => ((0 ≤ r7 → ((6 ≤ r7 → (w_X7_next_125 20 post r7 3 σ6)) ∧ (¬ (6 ≤ r7) → (w_X7_next_125 20 post r7 2 σ6)))) ∧ (¬ (0 ≤ r7) → (w_X7_next_125 20 post r7 5 σ6)))) τ := by
      refine m_wordOf hT (p := p) (e := runF n f leB n p) ⟨hrl.1, hrl.2⟩ (fun j h1 h2 => leB_t.mp (run_in n p j h1 h2)) h4 (by rw [hq]; exact h2) ?_
      have hw := (wdF_le (n := runF n f leB n p - p) (f := fun i => f (p + i)) 12 (Nat.le_refl _)).1
      have hw : wlen n f p ≤ 12 := hw
      rw [show wdF (runF n f leB n p - p) (fun i => f (p + i)) 12 = wlen n f p from rfl]
      have fin125 : ∀ (v t : Int32), (∀ σ3 : St, σ3 = si (si τ 0 13 t) 0 14 (if 6 ≤ v then v - 6 else v) → post σ3) → w_X7_next_125 20 post v t τ := by
        intro v t hh σ1 e1
        rw [e1]
        refine ⟨fun c σ3 e3 => hh σ3 ?_, fun c σ4 e4 => hh σ4 ?_⟩
        · rw [e3, if_pos c]
        · rw [e4, if_neg c]
      unfold wM
      by_cases w1 : wlen n f p < 6
      · rw [if_pos w1] at h
        rw [if_pos (by omega), show (wlen n f p + 6) % 12 = wlen n f p + 6 by omega]
        have c6 : 6 ≤ nI (wlen n f p + 6) := by rw [il, nI_toInt (by omega)]; have : (6 : Int32).toInt = 6 := by decide
                                                omega
        refine br_t (nI_pos' (by omega)) (br_t c6 (fin125 _ _ (fun σ3 e3 => ?_)))
        rw [if_pos c6, show nI (wlen n f p + 6) - 6 = nI (wlen n f p) by rw [show (6 : Int32) = nI 6 from rfl, nI_sub' (by omega)]; congr 1] at e3
        refine h σ3 (by rw [e3]; exact FrM_si (FrM_si hf (by omega)) (by omega)) (by rw [e3, gsk (by decide), gsk (by decide), hq]; exact h2) (by rw [e3, gsk (by decide), gsk (by decide)]; exact h4) (by rw [e3, gsk (by decide), gss]; rfl) (fun _ => by rw [e3, gss, if_pos w1])
      · rw [if_neg w1] at h
        by_cases w2 : wlen n f p < 12
        · rw [if_pos w2] at h
          rw [if_pos w2, show (wlen n f p + 6) % 12 = wlen n f p - 6 by omega]
          have c6 : ¬ 6 ≤ nI (wlen n f p - 6) := nI_ge (b := 6) (by omega) (by decide)
          refine br_t (nI_pos' (by omega)) (br_f c6 (fin125 _ _ (fun σ3 e3 => ?_)))
          rw [if_neg c6] at e3
          refine h σ3 (by rw [e3]; exact FrM_si (FrM_si hf (by omega)) (by omega)) (by rw [e3, gsk (by decide), gsk (by decide), hq]; exact h2) (by rw [e3, gsk (by decide), gsk (by decide)]; exact h4) (by rw [e3, gsk (by decide), gss]; rfl) (fun _ => by rw [e3, gss, if_neg w1])
        · rw [if_neg w2] at h
          rw [if_neg w2]
          refine br_f (by decide) (fin125 _ _ (fun σ3 e3 => ?_))
          refine h σ3 (by rw [e3]; exact FrM_si (FrM_si hf (by omega)) (by omega)) (by rw [e3, gsk (by decide), gsk (by decide), hq]; exact h2) (by rw [e3, gsk (by decide), gsk (by decide)]; exact h4) (by rw [e3, gsk (by decide), gss]; rfl) (fun z => absurd z w2)
    refine m_byte hT (by omega) (fun c => m_isLet (fun d => absurd ⟨c, d⟩ hs) (fun _ => br_t rfl fin)) (fun _ => m_isLet (fun d => absurd d (by decide)) (fun _ => br_t rfl fin))
  intro k
  induction k with
  | zero =>
    intro q τ hk hpq hqn hr hf h2 h4
    exact stop _ q τ hr.symm (by omega) hf h2 h4
  | succ k ih =>
    intro q τ hk hpq hqn hr hf h2 h4
    have hT := TPm_fr hT0 hf
    rw [show runF n f leB (k + 1) q = (if q < n ∧ leB (f q) = true then runF n f leB k (q + 1) else q) from rfl] at hr
    by_cases c : q < n ∧ leP (f q)
    · rw [if_pos ⟨c.1, leB_t.mpr c.2⟩] at hr
      show w_X7_next_73 20 post _ τ
      unfold w_X7_next_73
      rw [h2]
      refine m_byte hT (by omega) (fun _ => m_isLet (fun _ => br_f (by decide) (fun σ10 e10 => ?_)) (fun d => absurd c.2 d)) (fun z => by omega)
      rw [h2, nI_1] at e10
      exact ih (q + 1) σ10 (by omega) (by omega) (by omega) hr (by rw [e10]; exact FrM_si hf (by omega)) (by rw [e10, gss]) (by rw [e10, gsk (by decide)]; exact h4)
    · rw [if_neg (fun z => c ⟨z.1, leB_t.mp z.2⟩)] at hr
      exact stop _ q τ hr.symm c hf h2 h4
theorem m_nmL (hT0 : TPm n f τ0) {p : Nat} (hpn : p ≤ n) (h : ∀ (τ' : St), FrM τ0 τ' → gi τ' 0 12 = nI (runF n f diB n p) → gi τ' 0 11 = nI p → gi τ' 0 13 = (if runF n f diB n p - p ≤ 4 then 1 else 5) → (runF n f diB n p - p ≤ 4 → gi τ' 0 14 = numF f p (runF n f diB n p - p)) → post τ') :
    ∀ (k q : Nat) (τ : St), n - q ≤ k → p ≤ q → q ≤ n → runF n f diB k q = runF n f diB n p → FrM τ0 τ → gi τ 0 12 = nI q → gi τ 0 11 = nI p → (q - p ≤ 4 → gi τ 0 14 = numF f p (q - p)) → wl_X7_next_159 20 post (k + 1) τ := by
  have hn := hT0.2.1
  have stop : ∀ (Y : St → Prop) (q : Nat) (τ : St), p ≤ q → q ≤ n → runF n f diB n p = q → ¬ (q < n ∧ diP (f q)) → FrM τ0 τ → gi τ 0 12 = nI q → gi τ 0 11 = nI p → (q - p ≤ 4 → gi τ 0 14 = numF f p (q - p)) → w_X7_next_159 20 post Y τ := by
    intro Y q τ hpq hqn hq hs hf h2 h4 h5
    have hT := TPm_fr hT0 hf
    unfold w_X7_next_159
    rw [h2]
    have fin : ∀ x6 : Int32, x6 = nI (q - p) → ((x6 ≤ 4 → (∀ σ8 : St, σ8 = si τ 0 13 1 → (post σ8))) ∧ (¬ (x6 ≤ 4) → (∀ σ9 : St, σ9 = si τ 0 13 5 → (post σ9)))) := by
      intro x6 e6
      rw [e6]
      refine brle (c := 4) (n := 4) (by decide) (fun c σ8 e8 => ?_) (fun c σ9 e9 => ?_)
      · rw [nI_toInt (by omega)] at c
        refine h σ8 (by rw [e8]; exact FrM_si hf (by omega)) (by rw [e8, gsk (by decide), hq]; exact h2) (by rw [e8, gsk (by decide)]; exact h4) (by rw [e8, gss, hq, if_pos (by omega)]) (fun _ => by rw [e8, gsk (by decide), hq]; exact h5 (by omega))
      · rw [nI_toInt (by omega)] at c
        refine h σ9 (by rw [e9]; exact FrM_si hf (by omega)) (by rw [e9, gsk (by decide), hq]; exact h2) (by rw [e9, gsk (by decide)]; exact h4) (by rw [e9, gss, hq, if_neg (by omega)]) (fun z => by rw [hq] at z; omega)
    refine m_byte hT (by omega) (fun c => m_isDig (fun d => absurd ⟨c, d⟩ hs) (fun _ => br_t rfl ?_)) (fun _ => m_isDig (fun d => absurd d (by decide)) (fun _ => br_t rfl ?_))
    · rw [h2, h4, nI_sub' hpq]; exact fin
    · rw [h2, h4, nI_sub' hpq]; exact fin
  intro k
  induction k with
  | zero =>
    intro q τ hk hpq hqn hr hf h2 h4 h5
    exact stop _ q τ hpq hqn hr.symm (by omega) hf h2 h4 h5
  | succ k ih =>
    intro q τ hk hpq hqn hr hf h2 h4 h5
    have hT := TPm_fr hT0 hf
    rw [show runF n f diB (k + 1) q = (if q < n ∧ diB (f q) = true then runF n f diB k (q + 1) else q) from rfl] at hr
    by_cases c : q < n ∧ diP (f q)
    · rw [if_pos ⟨c.1, diB_t.mpr c.2⟩] at hr
      show w_X7_next_159 20 post _ τ
      unfold w_X7_next_159
      rw [h2]
      refine m_byte hT (by omega) (fun _ => m_isDig (fun _ => br_f (by decide) ?_) (fun d => absurd c.2 d)) (fun z => by omega)
      intro x10 e10
      rw [h2, h4, nI_sub' hpq] at e10
      have go : ∀ v : Int32, (q + 1 - p ≤ 4 → v = numF f p (q + 1 - p)) → w_X7_next_213 20 post (wl_X7_next_159 20 post (k + 1)) v τ := by
        intro v hv
        unfold w_X7_next_213
        intro σ1 e1 σ2 e2
        have k2 : gi σ1 0 12 = nI q := by rw [e1, gsk (by decide)]; exact h2
        rw [k2, nI_1] at e2
        exact ih (q + 1) σ2 (by omega) (by omega) (by omega) hr (by rw [e2, e1]; exact FrM_si (FrM_si hf (by omega)) (by omega)) (by rw [e2, gss]) (by rw [e2, gsk (by decide), e1, gsk (by decide)]; exact h4) (fun z => by rw [e2, gsk (by decide), e1, gss]; exact hv z)
      rw [e10]
      refine brge (c := 4) (n := 4) (by decide) (fun d => go _ (fun z => ?_)) (fun d => ?_)
      · rw [nI_toInt (by omega)] at d; omega
      · rw [nI_toInt (by omega)] at d
        rw [h2]
        refine m_byte hT (by omega) (fun _ => ?_) (fun z => by omega)
        intro x14 e14
        refine go x14 (fun _ => ?_)
        rw [e14, h5 (by omega), show q + 1 - p = (q - p) + 1 by omega]
        show _ = (10 * numF f p (q - p)) + (f (p + (q - p)) - 48)
        rw [show p + (q - p) = q by omega, Int32.sub_eq_add_neg, Int32.sub_eq_add_neg, Int32.add_assoc]
    · rw [if_neg (fun z => c ⟨z.1, diB_t.mp z.2⟩)] at hr
      exact stop _ q τ hpq hqn hr.symm c hf h2 h4 h5
theorem m_tok (hT0 : TPm n f τ0) {q0 : Nat} (h : ∀ τ', FrM τ0 τ' → TkM n f q0 τ' → post τ') {p : Nat} (hp : p ≤ n) (hq : plF n f q0 = p) {Y : Nat → St → Prop} {τ : St} (hf : FrM τ0 τ) (h2 : gi τ 0 12 = nI p) : ∀ σ8 : St, σ8 = si τ 0 11 (gi τ 0 12) → w_X7_byteAt 20 (fun r10 σ9 => ((0 ≤ r10 → (w_X7_isLetter 20 (fun r13 σ12 => ((r13 = 0 → (w_X7_isDigit 20 (fun r16 σ15 => ((r16 = 0 → (w_X7_isSignByte 20 (fun r19 σ18 => ((r19 = 0 → (w_X7_next_265 20 post r10 5 σ18)) ∧ (¬ (r19 = 0) → (w_X7_next_265 20 post r10 4 σ18)))) r10 σ15)) ∧ (¬ (r16 = 0) → (∀ σ21 : St, σ21 = si σ15 0 14 0 → (∃ n, wl_X7_next_159 20 post n  σ21))))) r10 σ12)) ∧ (¬ (r13 = 0) → (∃ n, wl_X7_next_73 20 post n  σ12)))) r10 σ9)) ∧ (¬ (0 ≤ r10) → (∀ σ22 : St, σ22 = si σ9 0 13 0 → (post σ22))))) (gi σ8 0 12) σ8 := by
  have hn := hT0.2.1
  intro σ8 e8
  rw [h2] at e8
  have f8 : FrM τ0 σ8 := by rw [e8]; exact FrM_si hf (by omega)
  have hT := TPm_fr hT0 f8
  have g12 : gi σ8 0 12 = nI p := by rw [e8, gsk (by decide)]; exact h2
  have g11 : gi σ8 0 11 = nI p := by rw [e8]; exact gss
  rw [g12]
  unfold TkM tkF nxF at h
  rw [hq] at h
  unfold nxP tkP at h
  refine m_byte hT (by omega) (fun c => ?_) (fun c => br_f (by decide) (fun σ22 e22 => ?_))
  · have hb := hT0.2.2.2.1 p c
    rw [if_neg (show ¬ n ≤ p by omega), if_neg (show ¬ n ≤ p by omega)] at h
    refine br_t (il.mpr (by rw [i_0]; omega)) (m_isLet (fun d => br_f (by decide) ⟨n + 1, ?_⟩) (fun d => br_t rfl (m_isDig (fun d2 => br_f (by decide) (fun σ21 e21 => ⟨n + 1, ?_⟩)) (fun d2 => br_t rfl ?_))))
    · rw [if_pos d, if_pos d] at h
      refine m_wdL hT hp (fun τ' k1 k2 k3 k4 k5 => h τ' (FrM_trans f8 k1) ⟨k2, k3, ?_, ?_⟩) n p σ8 (by omega) (Nat.le_refl _) hp rfl (FrM_refl _) g12 g11
      · rw [k4]
        by_cases w1 : wlen n f p < 6
        · rw [if_pos w1, if_pos w1]
        · rw [if_neg w1, if_neg w1]
          by_cases w2 : wlen n f p < 12
          · rw [if_pos w2, if_pos w2]
          · rw [if_neg w2, if_neg w2]
      · intro z
        by_cases w1 : wlen n f p < 6
        · rw [k5 (by omega), if_pos w1, if_pos w1]
        · rw [if_neg w1] at z ⊢
          by_cases w2 : wlen n f p < 12
          · rw [k5 w2, if_neg w1, if_pos w2]
          · rw [if_neg w2] at z
            exact absurd z.2 (by show ¬ (5 : Nat) ≤ 4; omega)
    · rw [if_neg d, if_neg d, if_pos d2, if_pos d2] at h
      have f21 : FrM σ8 σ21 := by rw [e21]; exact FrM_si (FrM_refl _) (by omega)
      refine m_nmL hT hp (fun τ' k1 k2 k3 k4 k5 => h τ' (FrM_trans f8 k1) ⟨k2, k3, ?_, ?_⟩) n p σ21 (by omega) (Nat.le_refl _) hp rfl f21 (by rw [e21, gsk (by decide)]; exact g12) (by rw [e21, gsk (by decide)]; exact g11) (fun _ => by rw [e21, gss, Nat.sub_self]; rfl)
      · rw [k4]
        by_cases w : runF n f diB n p - p ≤ 4
        · rw [if_pos w, if_pos w]; rfl
        · rw [if_neg w, if_neg w]; rfl
      · intro z
        by_cases w : runF n f diB n p - p ≤ 4
        · rw [if_pos w]; exact k5 w
        · rw [if_neg w] at z
          exact absurd z.2 (by show ¬ (5 : Nat) ≤ 4; omega)
    · rw [if_neg d, if_neg d, if_neg d2, if_neg d2] at h
      have fin : ∀ t : Int32, (∀ τ', FrM τ0 τ' → gi τ' 0 12 = nI (p + 1) → gi τ' 0 11 = nI p → gi τ' 0 13 = t → gi τ' 0 14 = f p → post τ') → w_X7_next_265 20 post (f p) t σ8 := by
        intro t hh
        unfold w_X7_next_265
        intro σ1 e1 σ2 e2 σ3 e3
        have k2 : gi σ2 0 12 = nI p := by rw [e2, gsk (by decide), e1, gsk (by decide)]; exact g12
        rw [k2, nI_1] at e3
        exact hh σ3 (by rw [e3, e2, e1]; exact FrM_si (FrM_si (FrM_si f8 (by omega)) (by omega)) (by omega)) (by rw [e3, gss]) (by rw [e3, gsk (by decide), e2, gsk (by decide), e1, gsk (by decide)]; exact g11) (by rw [e3, gsk (by decide), e2, gsk (by decide), e1, gss]) (by rw [e3, gsk (by decide), e2, gss])
      refine m_isSgn (fun s => br_f (by decide) (fin 4 (fun τ' k1 k2 k3 k4 k5 => ?_))) (fun s => br_t rfl (fin 5 (fun τ' k1 k2 k3 k4 k5 => ?_)))
      · rw [if_pos s] at h
        exact h τ' k1 ⟨k2, k3, k4, fun _ => k5⟩
      · rw [if_neg s] at h
        exact h τ' k1 ⟨k2, k3, k4, fun z => absurd z.2 (by show ¬ (5 : Nat) ≤ 4; omega)⟩
  · rw [if_pos c, if_pos c] at h
    exact h σ22 (by rw [e22]; exact FrM_si f8 (by omega)) ⟨by rw [e22, gsk (by decide)]; exact g12, by rw [e22, gsk (by decide)]; exact g11, by rw [e22, gss]; rfl, fun z => absurd z.1 (by show ¬ (1 : Nat) ≤ 0; omega)⟩
theorem m_nextL (hT0 : TPm n f τ0) {q0 : Nat} (hq0 : q0 ≤ n) (h : ∀ τ', FrM τ0 τ' → TkM n f q0 τ' → post τ') : ∀ (k q : Nat) (τ : St), n - q ≤ k → q ≤ n → runF n f blB k q = plF n f q0 → FrM τ0 τ → gi τ 0 12 = nI q → wl_X7_next_0 20 post (k + 1) τ := by
  have hn := hT0.2.1
  have stop : ∀ (Y : St → Prop) (q : Nat) (τ : St), q ≤ n → plF n f q0 = q → ¬ (q < n ∧ blP (f q)) → FrM τ0 τ → gi τ 0 12 = nI q → w_X7_next_0 20 post Y τ := by
    intro Y q τ hqn hq hs hf h2
    have hT := TPm_fr hT0 hf
    have tk := m_tok hT0 h hqn hq (Y := fun _ => Y) hf h2
    unfold w_X7_next_0
    rw [h2]
    refine m_byte hT (by omega) (fun c => br_f (fun z => hs ⟨c, Or.inl z⟩) ?_) (fun c => br_f (by decide) ?_)
    · rw [h2]
      exact m_byte hT (by omega) (fun c => br_f (fun z => hs ⟨c, Or.inr z⟩) tk) (fun c => br_f (by decide) tk)
    · rw [h2]
      exact m_byte hT (by omega) (fun c => br_f (fun z => hs ⟨c, Or.inr z⟩) tk) (fun c => br_f (by decide) tk)
  intro k
  induction k with
  | zero =>
    intro q τ hk hqn hr hf h2
    exact stop _ q τ hqn hr.symm (by omega) hf h2
  | succ k ih =>
    intro q τ hk hqn hr hf h2
    have hT := TPm_fr hT0 hf
    rw [show runF n f blB (k + 1) q = (if q < n ∧ blB (f q) = true then runF n f blB k (q + 1) else q) from rfl] at hr
    by_cases c : q < n ∧ blP (f q)
    · rw [if_pos ⟨c.1, blB_t.mpr c.2⟩] at hr
      have go : ∀ σ4 : St, σ4 = si τ 0 12 (gi τ 0 12 + 1) → wl_X7_next_0 20 post (k + 1) σ4 := by
        intro σ4 e4
        rw [h2, nI_1] at e4
        exact ih (q + 1) σ4 (by omega) (by omega) hr (by rw [e4]; exact FrM_si hf (by omega)) (by rw [e4, gss])
      show w_X7_next_0 20 post _ τ
      unfold w_X7_next_0
      have h2' := h2
      rw [h2] at go
      rw [h2]
      refine m_byte hT (by omega) (fun _ => ⟨fun d => ?_, fun d => ?_⟩) (fun z => by omega)
      · rw [h2']; exact go
      · rw [h2']
        refine m_byte hT (by omega) (fun _ => br_t (c.2.elim (fun z => absurd z d) id) ?_) (fun z => by omega)
        rw [h2']; exact go
    · rw [if_neg (fun z => c ⟨z.1, blB_t.mp z.2⟩)] at hr
      exact stop _ q τ hqn hr.symm c hf h2
theorem m_next (hT : TPm n f τ) {q : Nat} (hq : q ≤ n) (h2 : gi τ 0 12 = nI q) (h : ∀ τ', FrM τ τ' → TkM n f q τ' → post τ') : w_X7_next 20 post τ := by
  unfold w_X7_next
  exact ⟨n + 1, m_nextL hT hq h n q τ (by omega) hq rfl (FrM_refl τ) h2⟩
end MLEX
