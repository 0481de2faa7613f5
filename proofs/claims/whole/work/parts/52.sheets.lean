/-! sheets -/
section SHEETS
variable {M : Nat} {A : Ab} {post : St → Prop} {posti : Int32 → St → Prop} {postq : Option Nat → St → Prop} {τ σ : St}
def upG (f : Nat → Nat) (k v : Nat) : Nat → Nat := fun j => if j = k then v else f j
def shA (A : Ab) (d : Nat) (s : Int32) (n : Nat) (f : Nat → Int32) : Ab := sSh A (upN (aSo A) d s) (upG (aSz A) d n) (upR (aIt A) d f)
theorem CS_sheet {d : Nat} {s : Int32} {n : Nat} {f : Nat → Int32} (hA : CS M A σ) (hr : ∀ a k, gr τ a k = gr σ a k) (hz : ∀ a, gz τ a = gz σ a) (hd : d < 4) (hg : ∀ a k, a ≠ 45 + 2 * d → a ≠ 46 + 2 * d → gi τ a k = gi σ a k) (h1 : gi τ (45 + 2 * d) 1 = s) (h2 : gi τ (45 + 2 * d) 2 = nI n) (hn : n ≤ 40) (h3 : ∀ k, k < 40 → gi τ (46 + 2 * d) k = f k) : CS M (shA A d s n f) τ := by
  refine CS_sh hA hr hz (fun a k ha => hg a k (by omega) (by omega)) (fun e he => ?_)
  show gi τ (45 + 2 * e) 1 = upN (aSo A) d s e ∧ gi τ (45 + 2 * e) 2 = nI (upG (aSz A) d n e) ∧ upG (aSz A) d n e ≤ 40 ∧ ∀ k, k < 40 → gi τ (46 + 2 * e) k = upR (aIt A) d f e k
  by_cases q : e = d
  · subst q
    have g : upG (aSz A) e n e = n := by unfold upG; rw [if_pos rfl]
    rw [upN_s, g, upR_s]
    exact ⟨h1, h2, hn, h3⟩
  · have g : upG (aSz A) d n e = aSz A e := by unfold upG; rw [if_neg q]
    obtain ⟨a1, a2, a3, a4⟩ := hA.2.2.2.2.2.2.1 e he
    rw [upN_n q, g, upR_n q]
    exact ⟨(hg _ _ (by omega) (by omega)).trans a1, (hg _ _ (by omega) (by omega)).trans a2, a3, fun k hk => (hg _ _ (by omega) (by omega)).trans (a4 k hk)⟩
theorem MS_sheet {d : Nat} {s : Int32} {n : Nat} {f : Nat → Int32} (hA : MS A σ) (hd : d < 4) (hg : ∀ a k, nS a k → ¬ (a = 16 ∧ k = d) → ¬ (a = 17 ∧ k = d) → ¬ (a = 18 ∧ 40 * d ≤ k ∧ k < 40 * d + 40) → gi τ a k = gi σ a k) (h1 : gi τ 16 d = s) (h2 : gi τ 17 d = nI n) (h3 : ∀ k, k < 40 → gi τ 18 (40 * d + k) = f k) : MS (shA A d s n f) τ := by
  refine MS_sh hA (fun a k hn ha => hg a k hn (by omega) (by omega) (by omega)) (fun e he => ?_)
  show gi τ 16 e = upN (aSo A) d s e ∧ gi τ 17 e = nI (upG (aSz A) d n e) ∧ ∀ k, k < 40 → gi τ 18 (40 * e + k) = upR (aIt A) d f e k
  by_cases q : e = d
  · subst q
    have g : upG (aSz A) e n e = n := by unfold upG; rw [if_pos rfl]
    rw [upN_s, g, upR_s]
    exact ⟨h1, h2, h3⟩
  · have g : upG (aSz A) d n e = aSz A e := by unfold upG; rw [if_neg q]
    obtain ⟨a1, a2, a4⟩ := hA.2.2.2.2.2.2.1 e he
    rw [upN_n q, g, upR_n q]
    exact ⟨(hg _ _ (by unfold nS; omega) (by omega) (by omega) (by omega)).trans a1, (hg _ _ (by unfold nS; omega) (by omega) (by omega) (by omega)).trans a2, fun k hk => (hg _ _ (by unfold nS; omega) (by omega) (by omega) (by omega)).trans (a4 k hk)⟩
theorem VA_sheet {d : Nat} {s : Int32} {n : Nat} {f : Nat → Int32} (hW : VA A) (hs : -1 ≤ s.toInt ∧ s.toInt ≤ 2) : VA (shA A d s n f) := by
  refine VA_sh hW (fun e he => ?_)
  by_cases q : e = d
  · rw [q, upN_s]; exact hs
  · rw [upN_n q]; exact hW.2.2.2.2.2 e he
abbrev isS (s : Int32) : Prop := 0 ≤ s.toInt ∧ s.toInt ≤ 3
theorem c_shAt (hA : CS M A τ) {s : Int32} (h1 : ∀ d, d < 4 → isS s → s = nI d → (kdC (45 + 2 * d) = 5 ∧ 45 + 2 * d < M) → postq (some (45 + 2 * d)) τ) (h0 : ¬ isS s → postq none τ) : w_X6_sheetAt M postq s τ := by
  have hM := hA.2.2.2.2.2.2.2.1
  unfold w_X6_sheetAt
  by_cases c : isS s
  · obtain ⟨d, hd, rfl⟩ := as_nI (n := 3) c
    refine br_f (nI_pos (by omega)) (br_f (nI_ge (b := 4) (by omega) (by decide)) ⟨vp_in_nI (by omega) (by decide), fun o3 e3 => ?_⟩)
    rw [nI_clamp (by omega)] at e3
    rw [e3]
    exact ⟨kdSh hM (by omega), h1 d (by omega) c rfl (kdSh hM (by omega))⟩
  · exact brl z0' (fun _ => h0 c) (fun q => brge (c := 4) (n := 4) (by decide) (fun _ => h0 c) (fun r => absurd ⟨by omega, by omega⟩ c))
theorem m_isSh {s : Int32} (h1 : ∀ d, d < 4 → isS s → s = nI d → posti 1 τ) (h0 : ¬ isS s → posti 0 τ) : w_X7_isSheet 20 posti s τ := by
  unfold w_X7_isSheet
  refine m_in' (lo := 0) (hi := 3) (by decide) (by decide) (fun c => ⟨rfl, ?_⟩) (fun c => ⟨rfl, h0 c⟩)
  obtain ⟨d, hd, e⟩ := as_nI (n := 3) c
  exact h1 d (by omega) c e
theorem c_row {o n : Nat} (ho : kdC o = 5 ∧ o < M) (hs : gi τ o 2 = nI n) (hn : n ≤ 40) {i c : Int32} (h1 : 0 ≤ i.toInt ∧ 0 ≤ c.toInt ∧ i.toInt + c.toInt ≤ (n : Int) → posti 1 τ) (h0 : ¬ (0 ≤ i.toInt ∧ 0 ≤ c.toInt ∧ i.toInt + c.toInt ≤ (n : Int)) → posti 0 τ) : w_X5_hasRow M posti o i c τ := by
  have en := nI_toInt (n := n) (by omega)
  unfold w_X5_hasRow
  rw [hs]
  refine ⟨ho, brl z0' (fun q => h0 (by omega)) (fun q1 => brl z0' (fun q => h0 (by omega)) (fun q2 => brg en (fun q => h0 (by omega)) (fun q3 => ?_)))⟩
  have es : (nI n - c).toInt = (n : Int) - c.toInt := by rw [isu (by omega) (by omega), en]
  refine ⟨fun q => ?_, fun q => ?_⟩
  · have := ilt.mp q
    exact h0 (by omega)
  · have : ¬ (nI n - c).toInt < i.toInt := fun z => q (ilt.mpr z)
    exact h1 (by omega)
theorem c_missing {o : Nat} (ho : kdC o = 5 ∧ o < M) {s : Int32} (hs : gi τ o 1 = s) (h1 : s = -1 → posti 1 τ) (h0 : ¬ s = -1 → posti 0 τ) : w_X5_isMissing M posti o τ := by
  unfold w_X5_isMissing
  rw [hs]
  exact ⟨ho, h1, h0⟩
theorem c_becomeL {d : Nat} (hd : d < 4) {τ1 : St} (h : ∀ τ' : St, τ'.2 = τ1.2 → (∀ a b, a ≠ 46 + 2 * d → gi τ' a b = gi τ1 a b) → (∀ b, b < 40 → gi τ' (46 + 2 * d) b = 0) → post τ') : ∀ (k j : Nat) (τ : St), j + k = 40 → τ.2 = τ1.2 → (∀ a b, a ≠ 46 + 2 * d → gi τ a b = gi τ1 a b) → (∀ b, b < j → gi τ (46 + 2 * d) b = 0) → wl_X5_become_21 M post (k + 1) (45 + 2 * d) (nI j) τ := by
  intro k
  induction k with
  | zero =>
    intro j τ hj h1 h2 h3
    have hj : j = 40 := hj
    subst hj
    exact br_t (by decide) (h τ h1 h2 h3)
  | succ k ih =>
    intro j τ hj h1 h2 h3
    show w_X5_become_21 M post _ (45 + 2 * d) (nI j) τ
    unfold w_X5_become_21
    refine br_f (nI_ge (b := 40) (by omega) (by decide)) ⟨vp_in_nI (by omega) (by decide), fun σ2 e2 x3 e3 => ?_⟩
    rw [nI_clamp (by omega), show 45 + 2 * d + 1 = 46 + 2 * d by omega] at e2
    rw [e3, nI_1]
    refine ih (j + 1) σ2 (by omega) (by rw [e2]; exact h1) (fun a b ha => by rw [e2, gso ha]; exact h2 a b ha) (fun b hb => ?_)
    rw [e2]
    by_cases q : b = j
    · rw [q]; exact gss
    · rw [gsk q]; exact h3 b (by omega)
theorem c_become5 {d : Nat} (hd : d < 4) (hA : CS M A τ) {s : Int32} {n : Nat} (hn : n ≤ 40) (h : ∀ τ', CS M (shA A d s n (fun _ => 0)) τ' → post τ') : w_X5_become M post (45 + 2 * d) s (nI n) τ := by
  have hM := hA.2.2.2.2.2.2.2.1
  have en := nI_toInt (n := n) (by omega)
  have e40 : (40 : Int32).toInt = 40 := by decide
  unfold w_X5_become
  refine ⟨kdSh hM hd, fun σ1 e1 x2 e2 x3 e3 σ4 e4 => ⟨41, ?_⟩⟩
  have hx2 : x2 = nI n := by
    rw [e2]
    split
    · rfl
    · rename_i q
      have : ¬ (nI n).toInt < (40 : Int32).toInt := fun z => q (ilt.mpr z)
      exact ieq.mpr (by omega)
  have hx3 : x3 = nI n := by
    rw [e3, hx2]
    split
    · rfl
    · rename_i q
      have : ¬ (0 : Int32).toInt < (nI n).toInt := fun z => q (ilt.mpr z)
      have := i_0
      exact ieq.mpr (by omega)
  rw [hx3] at e4
  have f4 : ∀ a b, a ≠ 45 + 2 * d → gi σ4 a b = gi τ a b := fun a b ha => by rw [e4, gso ha, e1, gso ha]
  refine c_becomeL hd (τ1 := σ4) (fun τ' t1 t2 t3 => ?_) 40 0 σ4 rfl rfl (fun _ _ _ => rfl) (fun b hb => absurd hb (by omega))
  have r4 : σ4.2 = τ.2 := by rw [e4, e1]; rfl
  refine h τ' (CS_sheet hA (fun a k => ?_) (fun a => ?_) hd (fun a k h1 h2 => (t2 a k h2).trans (f4 a k h1)) ?_ ?_ hn t3)
  · unfold gr; rw [t1, r4]
  · unfold gz; rw [t1, r4]
  · rw [t2 _ _ (by omega), e4, gsk (by decide), e1, gss]
  · rw [t2 _ _ (by omega), e4, gss]
theorem m_zeroL {d : Nat} (hd : d < 4) {τ1 : St} (h : ∀ τ' : St, (∀ a b, ¬ (a = 18 ∧ 40 * d ≤ b ∧ b < 40 * d + 40) → gi τ' a b = gi τ1 a b) → (∀ b, b < 40 → gi τ' 18 (40 * d + b) = 0) → posti 1 τ') : ∀ (k j : Nat) (τ : St), j + k = 40 → (∀ a b, ¬ (a = 18 ∧ 40 * d ≤ b ∧ b < 40 * d + 40) → gi τ a b = gi τ1 a b) → (∀ b, b < j → gi τ 18 (40 * d + b) = 0) → wl_X7_sheet_73 20 posti (k + 1) (nI d) (nI (40 * d + j)) τ := by
  have e40 : (40 * nI d) + 40 = nI (40 * d + 40) := by
    rw [show (40 : Int32) * nI d = nI (40 * d) from i_mul (a := 40)]
    exact nI_add (40 * d) 40
  intro k
  induction k with
  | zero =>
    intro j τ hj h2 h3
    have hj : j = 40 := hj
    subst hj
    show w_X7_sheet_73 20 posti _ (nI d) (nI (40 * d + 40)) τ
    unfold w_X7_sheet_73
    rw [e40]
    exact br_t (Int32.le_refl _) (h τ h2 h3)
  | succ k ih =>
    intro j τ hj h2 h3
    show w_X7_sheet_73 20 posti _ (nI d) (nI (40 * d + j)) τ
    unfold w_X7_sheet_73
    rw [e40]
    refine br_f (nI_ge (by omega) (by omega)) ⟨vp_in_nI (by omega) (by decide), fun σ2 e2 x3 e3 => ?_⟩
    rw [nI_clamp (by omega)] at e2
    rw [e3, nI_1]
    refine ih (j + 1) σ2 (by omega) (fun a b ha => by rw [e2, gsn (by omega)]; exact h2 a b ha) (fun b hb => ?_)
    rw [e2]
    by_cases q : b = j
    · rw [q]; exact gss
    · rw [gsk (by omega)]; exact h3 b (by omega)
theorem m_sheet45 {d : Nat} (hd : d < 4) (hA : MS A τ) {s v : Int32} {n : Nat} (h0 : 0 ≤ s.toInt → v = nI n) (h1 : ¬ 0 ≤ s.toInt → n = 0) (h : ∀ τ', MS (shA A d s n (fun _ => 0)) τ' → posti 1 τ') : w_X7_sheet_45 20 posti (nI d) s v τ := by
  have hv := vp_in_nI (n := d) (N := 4) (by omega) (by decide)
  have e40 : (40 : Int32) * nI d = nI (40 * d + 0) := i_mul (a := 40)
  unfold w_X7_sheet_45
  rw [nI_clamp (by omega), e40]
  refine ⟨hv, fun σ1 e1 => ?_⟩
  have fin : ∀ σ3 : St, σ3 = si σ1 17 d (nI n) → ∃ m, wl_X7_sheet_73 20 posti m (nI d) (nI (40 * d + 0)) σ3 := by
    intro σ3 e3
    refine ⟨41, m_zeroL hd (τ1 := σ3) (fun τ' t2 t3 => ?_) 40 0 σ3 rfl (fun _ _ _ => rfl) (fun b hb => absurd hb (by omega))⟩
    refine h τ' (MS_sheet hA hd (fun a k hn g1 g2 g3 => ?_) ?_ ?_ t3)
    · rw [t2 a k g3, e3, gsn g2, e1, gsn g1]
    · rw [t2 _ _ (by omega), e3, gso (by decide), e1, gss]
    · rw [t2 _ _ (by omega), e3, gss]
  refine brge z0' (fun q => ⟨hv, fun σ3 e3 => fin σ3 (by rw [e3, h0 q])⟩) (fun q => ⟨hv, fun σ3 e3 => fin σ3 (by rw [e3, h1 q]; rfl)⟩)
def sheetF (A : Ab) (s t n : Int32) : Int32 × Ab :=
  if (0 ≤ s.toInt ∧ s.toInt ≤ 3) ∧ (-1 ≤ t.toInt ∧ t.toInt ≤ 2) then (if t.toInt = -1 then (1, shA A s.toInt.toNat t 0 (fun _ => 0)) else if n.toInt ≤ 40 then (if 0 ≤ n.toInt then (1, shA A s.toInt.toNat t n.toInt.toNat (fun _ => 0)) else (-14, A)) else (-2, A)) else (-2, A)
theorem im1 : (-1 : Int32).toInt = -1 := by decide
theorem c_sheet (hA : CS M A τ) {s t n : Int32} (h : ∀ τ', CS M (sheetF A s t n).2 τ' → posti (sheetF A s t n).1 τ') : w_X6_sheet M posti s t n τ := by
  unfold sheetF at h
  have bad : ¬ ((0 ≤ s.toInt ∧ s.toInt ≤ 3) ∧ (-1 ≤ t.toInt ∧ t.toInt ≤ 2)) → posti (-2) τ := fun q => by rw [if_neg q] at h; exact h τ hA
  unfold w_X6_sheet
  refine c_shAt hA (fun d hd hs e hk => ⟨fun q => (by cases q), fun o e2 => ?_⟩) (fun q => ⟨fun _ => bad (fun z => q z.1), fun o e2 => (by cases e2)⟩)
  cases e2
  refine ⟨hk, brl im1 (fun q => bad (by omega)) (fun q1 => brle (c := 2) (n := 2) (by decide) (fun q2 => ?_) (fun q => bad (by omega)))⟩
  rw [if_pos ⟨hs, by omega, q2⟩, e, i_nI (by omega)] at h
  refine bre im1 (fun c => ?_) (fun c => ?_)
  · rw [if_pos c] at h
    have et : t = -1 := ieq.mpr (by rw [im1]; exact c)
    rw [et] at h
    exact c_become5 (n := 0) hd hA (by decide) h
  · rw [if_neg c] at h
    refine brle (c := 40) (n := 40) (by decide) (fun g => brge z0' (fun g2 => ?_) (fun g2 => ?_)) (fun g => ?_)
    · rw [if_pos g, if_pos g2] at h
      obtain ⟨m, hm, rfl⟩ := as_nI (s := n) (n := 40) ⟨g2, g⟩
      rw [i_nI (by omega)] at h
      exact c_become5 hd hA hm h
    · rw [if_pos g, if_neg g2] at h; exact h τ hA
    · rw [if_neg g] at h; exact h τ hA
theorem m_sheet (hA : MS A τ) {s t n : Int32} (h : ∀ τ', MS (sheetF A s t n).2 τ' → posti (sheetF A s t n).1 τ') : w_X7_sheet 20 posti s t n τ := by
  unfold sheetF at h
  have bad : ¬ ((0 ≤ s.toInt ∧ s.toInt ≤ 3) ∧ (-1 ≤ t.toInt ∧ t.toInt ≤ 2)) → posti (-2) τ := fun q => by rw [if_neg q] at h; exact h τ hA
  unfold w_X7_sheet
  refine m_isSh (fun d hd hs e => br_f (by decide) (m_in' (lo := -1) (hi := 2) (by decide) (by decide) (fun q2 => br_f (by decide) ?_) (fun q => br_t rfl (bad (fun z => q z.2))))) (fun q => br_t rfl (bad (fun z => q z.1)))
  rw [if_pos ⟨hs, q2⟩, e, i_nI (by omega)] at h
  rw [e]
  refine brl z0' (fun c => ?_) (fun c => ?_)
  · rw [if_pos (show t.toInt = -1 by omega)] at h
    refine brl z0' (fun _ => ?_) (fun q => absurd c q)
    exact m_sheet45 hd hA (fun q => absurd q (by omega)) (fun _ => rfl) h
  · rw [if_neg (show ¬ t.toInt = -1 by omega)] at h
    refine brle (c := 40) (n := 40) (by decide) (fun g => brl z0' (fun q => absurd q c) (fun _ => brge z0' (fun g2 => ?_) (fun g2 => ?_))) (fun g => ?_)
    · rw [if_pos g, if_pos g2] at h
      obtain ⟨m, hm, rfl⟩ := as_nI (s := n) (n := 40) ⟨g2, g⟩
      rw [i_nI (by omega)] at h
      exact m_sheet45 hd hA (fun _ => rfl) (fun q => absurd (by omega) q) h
    · rw [if_pos g, if_neg g2] at h; exact h τ hA
    · rw [if_neg g] at h; exact h τ hA
theorem v_sheet (hW : VA A) {s t n : Int32} : VA (sheetF A s t n).2 := by
  unfold sheetF
  by_cases c : (0 ≤ s.toInt ∧ s.toInt ≤ 3) ∧ (-1 ≤ t.toInt ∧ t.toInt ≤ 2)
  · rw [if_pos c]
    by_cases d : t.toInt = -1
    · rw [if_pos d]; exact VA_sheet hW c.2
    · rw [if_neg d]
      by_cases g : n.toInt ≤ 40
      · rw [if_pos g]
        by_cases g2 : 0 ≤ n.toInt
        · rw [if_pos g2]; exact VA_sheet hW c.2
        · rw [if_neg g2]; exact hW
      · rw [if_neg g]; exact hW
  · rw [if_neg c]; exact hW
/-! a cell -/
def castF (s v : Int32) : Int32 := if s = 0 then v.toInt8.toInt32 else if s = 1 then v.toInt16.toInt32 else v
def putA (A : Ab) (d k : Nat) (v : Int32) : Ab := shA A d (aSo A d) (aSz A d) (upN (aIt A d) k v)
theorem C7_at (hA : CS M A τ) {d : Nat} (hd : d < 4) : gi τ (45 + 2 * d) 1 = aSo A d ∧ gi τ (45 + 2 * d) 2 = nI (aSz A d) ∧ aSz A d ≤ 40 ∧ ∀ k, k < 40 → gi τ (45 + 2 * d + 1) k = aIt A d k := by
  obtain ⟨a1, a2, a3, a4⟩ := hA.2.2.2.2.2.2.1 d hd
  exact ⟨a1, a2, a3, fun k hk => by rw [show 45 + 2 * d + 1 = 46 + 2 * d by omega]; exact a4 k hk⟩
theorem M7_at (hA : MS A τ) {d : Nat} (hd : d < 4) : gi τ 16 d = aSo A d ∧ gi τ 17 d = nI (aSz A d) ∧ ∀ k, k < 40 → gi τ 18 (40 * d + k) = aIt A d k := hA.2.2.2.2.2.2.1 d hd
theorem CS_cell (hA : CS M A τ) {d k : Nat} (hd : d < 4) {v : Int32} : CS M (putA A d k v) (si τ (45 + 2 * d + 1) k v) := by
  obtain ⟨a1, a2, a3, a4⟩ := C7_at hA hd
  refine CS_sheet hA (fun _ _ => rfl) (fun _ => rfl) hd (fun a b h1 h2 => gso (by omega)) ?_ ?_ a3 (fun b hb => ?_)
  · rw [gso (by omega)]; exact a1
  · rw [gso (by omega)]; exact a2
  · rw [show 46 + 2 * d = 45 + 2 * d + 1 by omega]
    by_cases q : b = k
    · rw [q, gss, upN_s]
    · rw [gsk q, upN_n q]; exact a4 b hb
theorem MS_cell (hA : MS A τ) {d k : Nat} (hd : d < 4) (hk : k < 40) {v : Int32} : MS (putA A d k v) (si τ 18 (40 * d + k) v) := by
  obtain ⟨a1, a2, a4⟩ := M7_at hA hd
  refine MS_sheet hA hd (fun a b _ h1 h2 h3 => gsn (by omega)) ?_ ?_ (fun b hb => ?_)
  · rw [gso (by decide)]; exact a1
  · rw [gso (by decide)]; exact a2
  · by_cases q : b = k
    · rw [q, gss, upN_s]
    · rw [gsk (by omega), upN_n q]; exact a4 b hb
theorem VA_put (hW : VA A) {d k : Nat} {v : Int32} (hd : d < 4) : VA (putA A d k v) := VA_sheet hW (hW.2.2.2.2.2 d hd)
theorem c_put {d : Nat} (hd : d < 4) (hA : CS M A τ) {i v : Int32} {k : Nat} (hi : i = nI k) (hk : k < aSz A d) (h : ∀ τ', CS M (putA A d k (castF (aSo A d) v)) τ' → post τ') : w_X5_put M post (45 + 2 * d) i v τ := by
  subst hi
  obtain ⟨a1, a2, a3, a4⟩ := C7_at hA hd
  have hM := hA.2.2.2.2.2.2.2.1
  have ek := nI_toInt (n := k) (by omega)
  have hv := vp_in_nI (n := k) (N := 40) (by omega) (by decide)
  unfold w_X5_put
  refine ⟨kdSh hM hd, c_row (kdSh hM hd) a2 a3 (fun _ => br_f (by decide) ?_) (fun q => absurd (by rw [i_1, ek]; omega) q)⟩
  rw [a1, nI_clamp (by omega)]
  unfold castF at h
  refine ⟨fun c => ⟨hv, fun σ8 e8 => ?_⟩, fun c => ⟨fun c1 => ⟨hv, fun σ7 e7 => ?_⟩, fun c1 => ⟨hv, fun σ6 e6 => ?_⟩⟩⟩
  · rw [if_pos c] at h; rw [e8]; exact h _ (CS_cell hA hd)
  · rw [if_neg c, if_pos c1] at h; rw [e7]; exact h _ (CS_cell hA hd)
  · rw [if_neg c, if_neg c1] at h; rw [e6]; exact h _ (CS_cell hA hd)
theorem c_tellS {d : Nat} (hd : d < 4) (hA : CS M A τ) {i : Int32} {k : Nat} (hi : i = nI k) (hk : k < aSz A d) (h : posti (aIt A d k) τ) : w_X5_tell M posti (45 + 2 * d) i τ := by
  subst hi
  obtain ⟨a1, a2, a3, a4⟩ := C7_at hA hd
  have hM := hA.2.2.2.2.2.2.2.1
  have ek := nI_toInt (n := k) (by omega)
  unfold w_X5_tell
  refine ⟨kdSh hM hd, c_row (kdSh hM hd) a2 a3 (fun _ => br_f (by decide) ⟨vp_in_nI (by omega) (by decide), fun x4 e4 => ?_⟩) (fun q => absurd (by rw [i_1, ek]; omega) q)⟩
  rw [nI_clamp (by omega), a4 k (by omega)] at e4
  rw [e4]; exact h
def cellF (A : Ab) (s i v : Int32) : Int32 × Ab :=
  if 0 ≤ s.toInt ∧ s.toInt ≤ 3 then (if aSo A s.toInt.toNat = -1 then (-11, A) else if 0 ≤ i.toInt ∧ i.toInt < (aSz A s.toInt.toNat : Int) then (1, putA A s.toInt.toNat i.toInt.toNat (castF (aSo A s.toInt.toNat) v)) else (-12, A)) else (-2, A)
theorem c_cell (hA : CS M A τ) {s i v : Int32} (h : ∀ τ', CS M (cellF A s i v).2 τ' → posti (cellF A s i v).1 τ') : w_X6_cell M posti s i v τ := by
  unfold cellF at h
  unfold w_X6_cell
  refine c_shAt hA (fun d hd hs e hk => ⟨fun q => (by cases q), fun o e2 => ?_⟩) (fun q => ⟨fun _ => ?_, fun o e2 => (by cases e2)⟩)
  · cases e2
    rw [if_pos hs, e, i_nI (by omega)] at h
    obtain ⟨a1, a2, a3, a4⟩ := C7_at hA hd
    refine ⟨hk, c_missing hk a1 (fun c => br_f (by decide) ?_) (fun c => br_t rfl (c_row hk a2 a3 (fun g => br_f (by decide) ?_) (fun g => br_t rfl ?_)))⟩
    · rw [if_pos c] at h; exact h τ hA
    · rw [i_1] at g
      rw [if_neg c, if_pos (by omega)] at h
      obtain ⟨m, hm, rfl⟩ := as_nI (s := i) (n := 40) (by omega)
      have em := nI_toInt (n := m) (by omega)
      rw [i_nI (by omega)] at h
      exact c_put hd hA rfl (by omega) h
    · rw [i_1] at g
      rw [if_neg c, if_neg (by omega)] at h; exact h τ hA
  · rw [if_neg q] at h; exact h τ hA
theorem so_neg (hW : VA A) {d : Nat} (hd : d < 4) : (0 ≤ (aSo A d).toInt ↔ ¬ aSo A d = -1) := by
  have hb := hW.2.2.2.2.2 d hd
  constructor
  · intro h q
    rw [q, im1] at h
    omega
  · intro h
    have : ¬ (aSo A d).toInt = -1 := fun q => h (ieq.mpr (by rw [im1]; exact q))
    omega
theorem m_40 {d k : Nat} (hd : d < 4) (hk : k < 40) {i : Int32} (hi : i = nI k) : (40 * nI d) + i = nI (40 * d + k) := by
  rw [hi, show (40 : Int32) * nI d = nI (40 * d) from i_mul (a := 40), nI_add]
theorem m_cell (hV : ∀ d, d < 4 → aSz A d ≤ 40) (hW : VA A) (hA : MS A τ) {s i v : Int32} (h : ∀ τ', MS (cellF A s i v).2 τ' → posti (cellF A s i v).1 τ') : w_X7_cell 20 posti s i v τ := by
  unfold cellF at h
  unfold w_X7_cell
  refine m_isSh (fun d hd hs e => br_f (by decide) ?_) (fun q => br_t rfl ?_)
  · rw [if_pos hs, e, i_nI (by omega)] at h
    have hv := vp_in_nI (n := d) (N := 4) (by omega) (by decide)
    obtain ⟨a1, a2, a4⟩ := M7_at hA hd
    have hn := so_neg hW hd
    have hz := hV d hd
    rw [e, nI_clamp (by omega), a1, a2]
    refine ⟨hv, brge z0' (fun c => ⟨hv, fun x5 e5 => ?_⟩) (fun c => ?_)⟩
    · rw [if_neg (hn.mp c)] at h
      have em := nI_m1 (n := aSz A d) (by omega)
      refine m_in' (lo := 0) (hi := (aSz A d : Int) - 1) (by decide) (by rw [t64, e5]; exact em) (fun g => br_f (by decide) ⟨hv, ?_⟩) (fun g => br_t rfl ?_)
      · rw [if_pos (by omega)] at h
        obtain ⟨m, hm, rfl⟩ := as_nI (s := i) (n := 39) (by omega)
        rw [i_nI (by omega)] at h
        rw [m_40 hd (by omega) rfl, nI_clamp (by omega), a1]
        have hv2 := vp_in_nI (n := 40 * d + m) (N := 160) (by omega) (by decide)
        unfold castF at h
        refine ⟨fun c => ⟨hv2, fun σ8 e8 => ?_⟩, fun c => ⟨hv, ⟨fun c1 => ⟨hv2, fun σ7 e7 => ?_⟩, fun c1 => ⟨hv2, fun σ6 e6 => ?_⟩⟩⟩⟩
        · rw [if_pos c] at h; rw [e8]; exact h _ (MS_cell hA hd (by omega))
        · rw [if_neg c, if_pos c1] at h; rw [e7]; exact h _ (MS_cell hA hd (by omega))
        · rw [if_neg c, if_neg c1] at h; rw [e6]; exact h _ (MS_cell hA hd (by omega))
      · rw [if_neg (by omega)] at h; exact h τ hA
    · have c' : aSo A d = -1 := Classical.byContradiction (fun q => c (hn.mpr q))
      rw [if_pos c'] at h; exact h τ hA
  · rw [if_neg q] at h; exact h τ hA
theorem v_cell (hW : VA A) {s i v : Int32} : VA (cellF A s i v).2 := by
  unfold cellF
  by_cases c : 0 ≤ s.toInt ∧ s.toInt ≤ 3
  · rw [if_pos c]
    by_cases d : aSo A s.toInt.toNat = -1
    · rw [if_pos d]; exact hW
    · rw [if_neg d]
      by_cases g : 0 ≤ i.toInt ∧ i.toInt < (aSz A s.toInt.toNat : Int)
      · rw [if_pos g]; exact VA_put hW (by omega)
      · rw [if_neg g]; exact hW
  · rw [if_neg c]; exact hW
/-! a row is copied -/
def cpyF (f g : Nat → Int32) (i j n : Nat) : Nat → Int32 := fun k => if j ≤ k ∧ k < j + n then f (i + (k - j)) else g k
def copyF (A : Ab) (s i t j n : Int32) : Int32 × Ab :=
  if (0 ≤ s.toInt ∧ s.toInt ≤ 3) ∧ (0 ≤ t.toInt ∧ t.toInt ≤ 3) then (if aSo A s.toInt.toNat = -1 then (-11, A) else if aSo A t.toInt.toNat = -1 then (-11, A) else if aSo A s.toInt.toNat = aSo A t.toInt.toNat then (if (0 ≤ i.toInt ∧ 0 ≤ n.toInt ∧ i.toInt + n.toInt ≤ (aSz A s.toInt.toNat : Int)) ∧ (0 ≤ j.toInt ∧ 0 ≤ n.toInt ∧ j.toInt + n.toInt ≤ (aSz A t.toInt.toNat : Int)) then (n, shA A t.toInt.toNat (aSo A t.toInt.toNat) (aSz A t.toInt.toNat) (cpyF (aIt A s.toInt.toNat) (aIt A t.toInt.toNat) i.toInt.toNat j.toInt.toNat n.toInt.toNat)) else (-12, A)) else (-13, A)) else (-2, A)
theorem v_copy (hW : VA A) {s i t j n : Int32} : VA (copyF A s i t j n).2 := by
  unfold copyF
  by_cases c : (0 ≤ s.toInt ∧ s.toInt ≤ 3) ∧ (0 ≤ t.toInt ∧ t.toInt ≤ 3)
  · rw [if_pos c]
    by_cases c1 : aSo A s.toInt.toNat = -1
    · rw [if_pos c1]; exact hW
    · rw [if_neg c1]
      by_cases c2 : aSo A t.toInt.toNat = -1
      · rw [if_pos c2]; exact hW
      · rw [if_neg c2]
        by_cases c3 : aSo A s.toInt.toNat = aSo A t.toInt.toNat
        · rw [if_pos c3]
          by_cases c4 : (0 ≤ i.toInt ∧ 0 ≤ n.toInt ∧ i.toInt + n.toInt ≤ (aSz A s.toInt.toNat : Int)) ∧ (0 ≤ j.toInt ∧ 0 ≤ n.toInt ∧ j.toInt + n.toInt ≤ (aSz A t.toInt.toNat : Int))
          · rw [if_pos c4]; exact VA_sheet hW (hW.2.2.2.2.2 _ (by omega))
          · rw [if_neg c4]; exact hW
        · rw [if_neg c3]; exact hW
  · rw [if_neg c]; exact hW
theorem c_copy (hA : CS M A τ) {s i t j n : Int32} (h : ∀ τ', CS M (copyF A s i t j n).2 τ' → posti (copyF A s i t j n).1 τ') : w_X6_copy M posti s i t j n τ := by
  unfold copyF at h
  have bad : ¬ ((0 ≤ s.toInt ∧ s.toInt ≤ 3) ∧ (0 ≤ t.toInt ∧ t.toInt ≤ 3)) → posti (-2) τ := fun q => by rw [if_neg q] at h; exact h τ hA
  unfold w_X6_copy
  refine c_shAt hA (fun d hd hs ed hkd => c_shAt hA (fun e he ht ee hke => ⟨fun q => (by cases q), fun o q => ?_⟩) (fun q => ⟨fun q => (by cases q), fun o q2 => ?_⟩)) (fun q => c_shAt hA (fun _ _ _ _ _ => ⟨fun _ => bad (fun z => q z.1), fun o q => (by cases q)⟩) (fun _ => ⟨fun _ => bad (fun z => q z.1), fun o q => (by cases q)⟩))
  · cases q
    refine ⟨hkd, fun q => (by cases q), fun o q => ?_⟩
    cases q
    obtain ⟨a1, a2, a3, a4⟩ := C7_at hA hd
    obtain ⟨b1, b2, b3, b4⟩ := C7_at hA he
    rw [if_pos ⟨hs, ht⟩, ed, ee, i_nI (by omega), i_nI (by omega)] at h
    refine ⟨hke, c_missing hkd a1 (fun c => br_f (by decide) ?_) (fun c => br_t rfl (c_missing hke b1 (fun c2 => br_f (by decide) ?_) (fun c2 => br_t rfl ?_)))⟩
    · rw [if_pos c] at h; exact h τ hA
    · rw [if_neg c, if_pos c2] at h; exact h τ hA
    · rw [if_neg c, if_neg c2] at h
      rw [a1, b1]
      refine ⟨fun c3 => ?_, fun c3 => ?_⟩
      · rw [if_pos c3] at h
        refine c_row hkd a2 a3 (fun g1 => br_f (by decide) (c_row hke b2 b3 (fun g2 => br_f (by decide) ?_) (fun g2 => br_t rfl ?_))) (fun g1 => br_t rfl ?_)
        · rw [if_pos ⟨g1, g2⟩] at h
          obtain ⟨x, hx, rfl⟩ := as_nI (s := i) (n := 40) (by omega)
          obtain ⟨y, hy, rfl⟩ := as_nI (s := j) (n := 40) (by omega)
          obtain ⟨z, hz, rfl⟩ := as_nI (s := n) (n := 40) (by omega)
          have ex := nI_toInt (n := x) (by omega)
          have ey := nI_toInt (n := y) (by omega)
          have ez := nI_toInt (n := z) (by omega)
          rw [i_nI (by omega), i_nI (by omega), i_nI (by omega)] at h
          unfold w_X5_takeRow
          refine ⟨hke, hkd, c_row hke b2 b3 (fun _ => br_f (by decide) (c_row hkd a2 a3 (fun _ => br_f (by decide) ⟨?_, fun σ7 e7 => ?_⟩) (fun q => absurd g1 q))) (fun q => absurd g2 q)⟩
          · rw [nI_clamp (by omega), nI_clamp (by omega), nI_clamp (by omega)]
            exact ⟨nI_pos (by omega), nI_pos (by omega), nI_pos (by omega), by omega, by omega⟩
          · rw [nI_clamp (by omega), nI_clamp (by omega), nI_clamp (by omega)] at e7
            have fr : ∀ a b, a ≠ 45 + 2 * e + 1 → gi σ7 a b = gi τ a b := by
              intro a b ha
              rw [e7]
              show (if a = 45 + 2 * e + 1 then _ else _) = _
              rw [if_neg ha]; rfl
            refine h σ7 (CS_sheet hA (fun _ _ => by rw [e7]; rfl) (fun _ => by rw [e7]; rfl) he (fun a b h1 h2 => fr a b (by omega)) ?_ ?_ b3 (fun k hk => ?_))
            · rw [fr _ _ (by omega)]; exact b1
            · rw [fr _ _ (by omega)]; exact b2
            · rw [e7, show 46 + 2 * e = 45 + 2 * e + 1 by omega]
              show (if 45 + 2 * e + 1 = 45 + 2 * e + 1 then va_cpy (fun j => gi τ (45 + 2 * d + 1) j) (fun j => gi τ (45 + 2 * e + 1) j) x y z k else _) = cpyF (aIt A d) (aIt A e) x y z k
              rw [if_pos rfl]
              unfold va_cpy cpyF
              by_cases q : y ≤ k ∧ k < y + z
              · rw [if_pos q, if_pos q]; exact a4 _ (by omega)
              · rw [if_neg q, if_neg q]; exact b4 k hk
        · rw [if_neg (fun q => g2 q.2)] at h; exact h τ hA
        · rw [if_neg (fun q => g1 q.1)] at h; exact h τ hA
      · rw [if_neg c3] at h; exact h τ hA
  · cases q2
    exact ⟨hkd, fun _ => bad (fun z => q z.2), fun o q => (by cases q)⟩
theorem m_cpyB {d e x y z : Nat} (hd : d < 4) (he : e < 4) (hx : x + z ≤ 40) (hy : y + z ≤ 40) {τ0 : St} (h : ∀ τ' : St, (∀ a b, a ≠ 18 → gi τ' a b = gi τ0 a b) → (∀ b, gi τ' 18 b = if 40 * e + y ≤ b ∧ b < 40 * e + y + z then gi τ0 19 (b - (40 * e + y)) else gi τ0 18 b) → posti (nI z) τ') : ∀ (k m : Nat) (τ : St), m + k = z → (∀ a b, a ≠ 18 → gi τ a b = gi τ0 a b) → (∀ b, gi τ 18 b = if 40 * e + y ≤ b ∧ b < 40 * e + y + m then gi τ0 19 (b - (40 * e + y)) else gi τ0 18 b) → wl_X7_copy_140 20 posti (k + 1) (nI e) (nI y) (nI z) (nI m) τ := by
  intro k
  induction k with
  | zero =>
    intro m τ hm h1 h2
    have hm : m = z := hm
    subst hm
    exact br_t (Int32.le_refl _) (h τ h1 h2)
  | succ k ih =>
    intro m τ hm h1 h2
    show w_X7_copy_140 20 posti _ (nI e) (nI y) (nI z) (nI m) τ
    unfold w_X7_copy_140
    rw [m_40 he (k := y) (by omega) rfl, nI_add]
    refine br_f (nI_ge (by omega) (by omega)) ⟨vp_in_nI (by omega) (by decide), vp_in_nI (by omega) (by decide), fun σ2 e2 x3 e3 => ?_⟩
    rw [nI_clamp (by omega), nI_clamp (by omega), h1 19 _ (by decide)] at e2
    rw [e3, nI_1]
    refine ih (m + 1) σ2 (by omega) (fun a b ha => by rw [e2, gso ha]; exact h1 a b ha) (fun b => ?_)
    rw [e2]
    by_cases q : b = 40 * e + y + m
    · rw [q, gss, if_pos (by omega), show 40 * e + y + m - (40 * e + y) = m by omega]
    · rw [gsk q, h2 b]
      by_cases q2 : 40 * e + y ≤ b ∧ b < 40 * e + y + m
      · rw [if_pos q2, if_pos (by omega)]
      · rw [if_neg q2, if_neg (by omega)]
theorem m_cpyA {d e x y z : Nat} (hd : d < 4) (he : e < 4) (hx : x + z ≤ 40) (hy : y + z ≤ 40) {τ0 : St} (h : ∀ τ' : St, (∀ a b, a ≠ 18 → a ≠ 19 → gi τ' a b = gi τ0 a b) → (∀ b, gi τ' 18 b = if 40 * e + y ≤ b ∧ b < 40 * e + y + z then gi τ0 18 (40 * d + x + (b - (40 * e + y))) else gi τ0 18 b) → posti (nI z) τ') : ∀ (k m : Nat) (τ : St), m + k = z → (∀ a b, a ≠ 19 → gi τ a b = gi τ0 a b) → (∀ b, b < m → gi τ 19 b = gi τ0 18 (40 * d + x + b)) → wl_X7_copy_103 20 posti (k + 1) (nI d) (nI x) (nI e) (nI y) (nI z) (nI m) τ := by
  intro k
  induction k with
  | zero =>
    intro m τ hm h1 h2
    have hm : m = z := hm
    subst hm
    show w_X7_copy_103 20 posti _ (nI d) (nI x) (nI e) (nI y) (nI m) (nI m) τ
    unfold w_X7_copy_103
    refine br_t (Int32.le_refl _) ⟨m + 1, m_cpyB (d := d) (x := x) hd he hx hy (τ0 := τ) (fun τ' t1 t2 => h τ' (fun a b h18 h19 => (t1 a b h18).trans (h1 a b h19)) (fun b => ?_)) m 0 τ (by omega) (fun _ _ _ => rfl) (fun b => ?_)⟩
    · rw [t2 b]
      by_cases q : 40 * e + y ≤ b ∧ b < 40 * e + y + m
      · rw [if_pos q, if_pos q]; exact h2 _ (by omega)
      · rw [if_neg q, if_neg q]; exact h1 18 b (by decide)
    · rw [if_neg (by omega)]
  | succ k ih =>
    intro m τ hm h1 h2
    show w_X7_copy_103 20 posti _ (nI d) (nI x) (nI e) (nI y) (nI z) (nI m) τ
    unfold w_X7_copy_103
    rw [m_40 hd (k := x) (by omega) rfl, nI_add]
    refine br_f (nI_ge (by omega) (by omega)) ⟨vp_in_nI (by omega) (by decide), fun x2 e2 => ⟨vp_in_nI (by omega) (by decide), fun σ3 e3 x4 e4 => ?_⟩⟩
    rw [nI_clamp (by omega), h1 18 _ (by decide)] at e2
    rw [nI_clamp (by omega), e2] at e3
    rw [e4, nI_1]
    refine ih (m + 1) σ3 (by omega) (fun a b ha => by rw [e3, gso ha]; exact h1 a b ha) (fun b hb => ?_)
    rw [e3]
    by_cases q : b = m
    · rw [q]; exact gss
    · rw [gsk q]; exact h2 b (by omega)
theorem m_copy (hV : ∀ d, d < 4 → aSz A d ≤ 40) (hW : VA A) (hA : MS A τ) {s i t j n : Int32} (h : ∀ τ', MS (copyF A s i t j n).2 τ' → posti (copyF A s i t j n).1 τ') : w_X7_copy 20 posti s i t j n τ := by
  unfold copyF at h
  have bad : ¬ ((0 ≤ s.toInt ∧ s.toInt ≤ 3) ∧ (0 ≤ t.toInt ∧ t.toInt ≤ 3)) → posti (-2) τ := fun q => by rw [if_neg q] at h; exact h τ hA
  unfold w_X7_copy
  refine m_isSh (fun d hd hs ed => br_f (by decide) (m_isSh (fun e he ht ee => br_f (by decide) ?_) (fun q => br_t rfl (bad (fun z => q z.2))))) (fun q => br_t rfl (bad (fun z => q z.1)))
  obtain ⟨a1, a2, a4⟩ := M7_at hA hd
  obtain ⟨b1, b2, b4⟩ := M7_at hA he
  have a3 := hV d hd
  have b3 := hV e he
  have hvd := vp_in_nI (n := d) (N := 4) (by omega) (by decide)
  have hve := vp_in_nI (n := e) (N := 4) (by omega) (by decide)
  have nd := so_neg hW hd
  have nE := so_neg hW he
  have ead := nI_toInt (n := aSz A d) (by omega)
  have eae := nI_toInt (n := aSz A e) (by omega)
  rw [if_pos ⟨hs, ht⟩, ed, ee, i_nI (by omega), i_nI (by omega)] at h
  rw [ed, ee, nI_clamp (by omega), nI_clamp (by omega), a1, b1, a2, b2]
  refine ⟨hvd, brl z0' (fun c => ?_) (fun c => ⟨hve, brge z0' (fun c2 => ⟨hvd, hve, ⟨fun c3 => ?_, fun c3 => ?_⟩⟩) (fun c2 => ?_)⟩)⟩
  · have c' : aSo A d = -1 := Classical.byContradiction (fun q => absurd (nd.mpr q) (by omega))
    rw [if_pos c'] at h; exact h τ hA
  · rw [if_neg (nd.mp (by omega)), if_neg (nE.mp c2), if_pos c3] at h
    have bad2 : ¬ ((0 ≤ i.toInt ∧ 0 ≤ n.toInt ∧ i.toInt + n.toInt ≤ (aSz A d : Int)) ∧ (0 ≤ j.toInt ∧ 0 ≤ n.toInt ∧ j.toInt + n.toInt ≤ (aSz A e : Int))) → posti (-12) τ := fun q => by rw [if_neg q] at h; exact h τ hA
    refine brl z0' (fun q => bad2 (by omega)) (fun q1 => brl z0' (fun q => bad2 (by omega)) (fun q2 => brl z0' (fun q => bad2 (by omega)) (fun q3 => ⟨hvd, fun x13 e13 => ?_⟩)))
    have s13 : x13.toInt = (aSz A d : Int) - n.toInt := by
      have := ib n
      rw [e13, isu (by omega) (by omega), ead]
    refine ⟨fun q => ?_, fun q4 => ⟨hve, fun x15 e15 => ?_⟩⟩
    · have := ilt.mp q
      exact bad2 (by omega)
    · have q4' : ¬ x13.toInt < i.toInt := fun z => q4 (ilt.mpr z)
      have s15 : x15.toInt = (aSz A e : Int) - n.toInt := by
        have := ib n
        rw [e15, isu (by omega) (by omega), eae]
      refine ⟨fun q => ?_, fun q => ?_⟩
      · have q' := il.mp q
        rw [if_pos (by omega)] at h
        obtain ⟨x, hx, rfl⟩ := as_nI (s := i) (n := 40) (by omega)
        obtain ⟨y, hy, rfl⟩ := as_nI (s := j) (n := 40) (by omega)
        obtain ⟨z, hz, rfl⟩ := as_nI (s := n) (n := 40) (by omega)
        have ex := nI_toInt (n := x) (by omega)
        have ey := nI_toInt (n := y) (by omega)
        have ez := nI_toInt (n := z) (by omega)
        rw [i_nI (by omega), i_nI (by omega), i_nI (by omega)] at h
        refine ⟨z + 1, m_cpyA hd he (by omega) (by omega) (τ0 := τ) (fun τ' t1 t2 => ?_) z 0 τ (by omega) (fun _ _ _ => rfl) (fun b hb => absurd hb (by omega))⟩
        refine h τ' (MS_sheet hA he (fun a b hn g1 g2 g3 => ?_) ?_ ?_ (fun k hk => ?_))
        · by_cases q18 : a = 18
          · subst q18
            rw [t2 b, if_neg (by omega)]
          · exact t1 a b q18 (by unfold nS at hn; omega)
        · rw [t1 _ _ (by decide) (by decide)]; exact b1
        · rw [t1 _ _ (by decide) (by decide)]; exact b2
        · rw [t2]
          unfold cpyF
          by_cases q5 : y ≤ k ∧ k < y + z
          · rw [if_pos (by omega), if_pos q5, show 40 * d + x + (40 * e + k - (40 * e + y)) = 40 * d + (x + (k - y)) by omega]
            exact a4 _ (by omega)
          · rw [if_neg (by omega), if_neg q5]; exact b4 k hk
      · have : ¬ j.toInt ≤ x15.toInt := fun z => q (il.mpr z)
        exact bad2 (by omega)
  · rw [if_neg (nd.mp (by omega)), if_neg (nE.mp c2), if_neg c3] at h; exact h τ hA
  · have c' : aSo A e = -1 := Classical.byContradiction (fun q => c2 (nE.mpr q))
    rw [if_neg (nd.mp (by omega)), if_pos c'] at h; exact h τ hA
end SHEETS
