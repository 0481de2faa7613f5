/-! weeks, handfuls, mixtures -/
section MIXES
variable {M : Nat} {A : Ab} {post : St → Prop} {posti : Int32 → St → Prop} {τ : St} {P : Pt}
theorem CS_chc {n : Nat} {f g : Nat → Nat → Int32} (h : CS M (sCh A n f) τ) (hfg : ∀ i k, i < n → k < 5 → f i k = g i k) : CS M (sCh A n g) τ :=
  CS_ch (A := sCh A n f) h (fun _ _ => rfl) (fun _ => rfl) (fun _ _ _ _ => rfl) ⟨h.1.1, h.1.2.1, fun i k hi hk => (h.1.2.2 i k hi hk).trans (hfg i k hi hk)⟩
theorem MS_chc {n : Nat} {f g : Nat → Nat → Int32} (h : MS (sCh A n f) τ) (hfg : ∀ i k, i < n → k < 5 → f i k = g i k) : MS (sCh A n g) τ :=
  MS_ch (A := sCh A n f) h (fun _ _ _ _ _ => rfl) ⟨h.1.1, fun i k hi hk => (h.1.2 i k hi hk).trans (hfg i k hi hk)⟩
def wkA (A : Ab) (s : Nat) (v : Int32) : Ab := sCh A (aNc A) (up2 (aCh A) s 0 v)
theorem up2_up2 {f : Nat → Nat → Int32} {s : Nat} {x v : Int32} (i k : Nat) : up2 (up2 f s 0 x) s 0 v i k = up2 f s 0 v i k := by
  unfold up2
  by_cases e : i = s <;> by_cases e2 : k = 0 <;> simp [e, e2]
theorem up2_self {f : Nat → Nat → Int32} {s : Nat} (i k : Nat) : up2 f s 0 (f s 0) i k = f i k := by
  unfold up2
  by_cases e : i = s
  · rw [if_pos e, e]
    by_cases e2 : k = 0
    · rw [if_pos e2, e2]
    · rw [if_neg e2]
  · rw [if_neg e]
theorem CS_wk {s : Nat} {x v : Int32} (hs : s < aNc A) (h : CS M (wkA A s x) τ) : CS M (wkA A s v) (si τ (18 + 4 * s) 0 v) :=
  CS_chc (f := up2 (up2 (aCh A) s 0 x) s 0 v) (CS_put (A := wkA A s x) (j := s) (k := 0) h hs) (fun i k _ _ => up2_up2 i k)
theorem MS_wk {s : Nat} {x v : Int32} (h : MS (wkA A s x) τ) : MS (wkA A s v) (si τ 1 (5 * s + 0) v) :=
  MS_chc (f := up2 (up2 (aCh A) s 0 x) s 0 v) (MS_put (A := wkA A s x) (j := s) (k := 0) h (by decide)) (fun i k _ _ => up2_up2 i k)
theorem CS_wk0 {s : Nat} (h : CS M A τ) : CS M (wkA A s (aCh A s 0)) τ := CS_chc (A := A) (f := aCh A) h (fun i k _ _ => (up2_self i k).symm)
theorem MS_wk0 {s : Nat} (h : MS A τ) : MS (wkA A s (aCh A s 0)) τ := MS_chc (A := A) (f := aCh A) h (fun i k _ _ => (up2_self i k).symm)
theorem CS_wk1 {s : Nat} (h : CS M (wkA A s (aCh A s 0)) τ) : CS M A τ := CS_chc (A := A) (n := aNc A) (g := aCh A) h (fun i k _ _ => up2_self i k)
theorem MS_wk1 {s : Nat} (h : MS (wkA A s (aCh A s 0)) τ) : MS A τ := MS_chc (A := A) (n := aNc A) (g := aCh A) h (fun i k _ _ => up2_self i k)
theorem VA_wk {s : Nat} {v : Int32} (hW : VA A) (hv : 0 ≤ v.toInt ∧ v.toInt ≤ 99) : VA (wkA A s v) := by
  refine VA_ch hW (fun i hi k hk => ?_)
  unfold up2
  split
  · split
    · exact hv
    · exact hW.1 i hi k hk
  · exact hW.1 i hi k hk
def weekR (A : Ab) (s j : Nat) : Int32 := longF (lawF A) (cookF (wkA A s (nI j)) (aNa A))
def weekL (A : Ab) (s : Nat) : Nat → Nat → Int32 → Int32 → Int32 × Int32
  | 0, _, b, l => (b, l)
  | k + 1, j, b, l => if weekR A s j ≤ l then weekL A s k (j + 1) b l else weekL A s k (j + 1) (nI j) (weekR A s j)
theorem longF_pos (L : Lw) (P : Pt) : 0 ≤ (longF L P).toInt := by
  unfold longF
  split
  · decide
  · exact (clampF_bd 999 _ (by decide)).1
theorem c_weekL {s : Nat} (hs : s < aNc A) {w : Int32} : ∀ (k j : Nat) (b l x : Int32) (τ : St), j + k = 61 → CS M (wkA A s x) τ → (∀ τ', CS M A τ' → posti (pick2 w (weekL A s k j b l)) τ') → wl_X6_week_39 M posti (k + 1) w (some (17 + 4 * s)) (aCh A s 0) b l (nI j) τ := by
  intro k
  induction k with
  | zero =>
    intro j b l x τ hj hA h
    have hj : j = 61 := hj
    subst hj
    have hk := kdCh hA.2.2.2.2.2.2.2.1 (i := s) (by have := hA.1.2.1; have : aNc A ≤ 4 := this; omega)
    show w_X6_week_39 M posti _ w (some (17 + 4 * s)) (aCh A s 0) b l (nI 61) τ
    unfold w_X6_week_39
    refine br_t (by decide) ⟨_, rfl, hk, c_put5 hk (by decide) ?_⟩
    rw [show (0 : Int32).toInt.toNat = 0 by decide, show 17 + 4 * s + 1 = 18 + 4 * s by omega]
    have h := h _ (CS_wk1 (CS_wk (v := aCh A s 0) hs hA))
    unfold pick2 weekL at h
    refine ⟨fun c => ?_, fun c => ?_⟩
    · rw [if_pos c] at h; exact h
    · rw [if_neg c] at h; exact h
  | succ k ih =>
    intro j b l x τ hj hA h
    have hk := kdCh hA.2.2.2.2.2.2.2.1 (i := s) (by have := hA.1.2.1; have : aNc A ≤ 4 := this; omega)
    show w_X6_week_39 M posti _ w (some (17 + 4 * s)) (aCh A s 0) b l (nI j) τ
    unfold w_X6_week_39
    refine br_f (nI_nlt (a := 60) (b := j) (by omega) (by decide)) ⟨_, rfl, hk, c_put5 hk (by decide) ?_⟩
    rw [show (0 : Int32).toInt.toNat = 0 by decide, show 17 + 4 * s + 1 = 18 + 4 * s by omega]
    have h1 := CS_wk (v := nI j) hs hA
    refine k_cook h1 (Nat.le_refl _) (CS_na h1) (fun τ2 h2 => k_long (Or.inl rfl) h2.1 h2.2.1 (fun τ3 h3 => ?_))
    unfold weekL at h
    refine ⟨fun c x11 e11 => ?_, fun c x12 e12 => ?_⟩
    · rw [if_pos (show weekR A s j ≤ l from c)] at h
      rw [e11, nI_1]
      exact ih (j + 1) b l _ τ3 (by omega) h3.1 h
    · rw [if_neg (show ¬ weekR A s j ≤ l from c)] at h
      rw [e12, nI_1]
      exact ih (j + 1) _ _ _ τ3 (by omega) h3.1 h
theorem m_weekL (hV : Bd A) (hW : VA A) {s : Nat} (hs : s < aNc A) {w : Int32} : ∀ (k j : Nat) (b l x : Int32) (τ : St), j + k = 61 → MS (wkA A s x) τ → (∀ τ', MS A τ' → posti (pick2 w (weekL A s k j b l)) τ') → wl_X7_week_42 20 posti (k + 1) (nI s) w (aCh A s 0) b l (nI j) τ := by
  have h4 := hV.1
  have e5 : 5 * nI s = nI (5 * s) := i_mul (a := 5)
  intro k
  induction k with
  | zero =>
    intro j b l x τ hj hA h
    have hj : j = 61 := hj
    subst hj
    show w_X7_week_42 20 posti _ (nI s) w (aCh A s 0) b l (nI 61) τ
    unfold w_X7_week_42
    rw [e5]
    refine br_t (by decide) ⟨vp_in_nI (by omega) (by decide), fun σ2 e2 => ?_⟩
    rw [nI_clamp (by omega)] at e2
    have h := h σ2 (by rw [e2]; exact MS_wk1 (MS_wk (v := aCh A s 0) hA))
    unfold pick2 weekL at h
    refine ⟨fun c => ?_, fun c => ?_⟩
    · rw [if_pos c] at h; exact h
    · rw [if_neg c] at h; exact h
  | succ k ih =>
    intro j b l x τ hj hA h
    have ej := nI_toInt (n := j) (by omega)
    show w_X7_week_42 20 posti _ (nI s) w (aCh A s 0) b l (nI j) τ
    unfold w_X7_week_42
    rw [e5]
    refine br_f (nI_nlt (a := 60) (b := j) (by omega) (by decide)) ⟨vp_in_nI (by omega) (by decide), fun σ4 e4 => ?_⟩
    rw [nI_clamp (by omega)] at e4
    have h1 : MS (wkA A s (nI j)) σ4 := by rw [e4]; exact MS_wk (v := nI j) hA
    have hW1 : VA (wkA A s (nI j)) := VA_wk hW (by omega)
    have hV1 : Bd (wkA A s (nI j)) := hV
    have hR := PIr_cook hV1 hW1 (n := aNa A) (Nat.le_refl _)
    refine km_goes hV1 hW1 h1 (n := aNa A) (Nat.le_refl _) (MS_na (A := wkA A s (nI j)) h1) (fun τ2 h2 => q_long hV1 h2.1 h2.2.1 hR (fun τ3 h3 => ?_))
    unfold weekL at h
    refine ⟨fun c x9 e9 => ?_, fun c => ?_⟩
    · rw [if_pos (show weekR A s j ≤ l from c)] at h
      rw [e9, nI_1]
      exact ih (j + 1) b l _ τ3 (by omega) h3.1 h
    · rw [if_neg (show ¬ weekR A s j ≤ l from c)] at h
      refine q_long hV1 h3.1 h3.2.1 hR (fun τ4 h4' x12 e12 => ?_)
      rw [e12, nI_1]
      exact ih (j + 1) _ _ _ τ4 (by omega) h4'.1 h
theorem weekL_first {s : Nat} {b : Int32} : weekL A s 60 1 b (-1) = weekL A s 60 1 (-1) (-1) := by
  have hp := longF_pos (lawF A) (cookF (wkA A s (nI 1)) (aNa A))
  have c : ¬ weekR A s 1 ≤ -1 := fun q => by
    have := il.mp q
    have e : (-1 : Int32).toInt = -1 := by decide
    rw [e] at this
    unfold weekR at this
    omega
  show (if weekR A s 1 ≤ -1 then _ else weekL A s 59 2 (nI 1) (weekR A s 1)) = (if weekR A s 1 ≤ -1 then _ else weekL A s 59 2 (nI 1) (weekR A s 1))
  rw [if_neg c, if_neg c]
def weekF (A : Ab) (s w : Int32) : Int32 := if 0 ≤ s.toInt ∧ s.toInt < (aNc A : Int) then (if 0 ≤ w.toInt ∧ w.toInt ≤ 1 then pick2 w (weekL A s.toInt.toNat 60 1 (-1) (-1)) else -7) else -5
theorem c_week (hA : CS M A τ) {s w : Int32} (h : ∀ τ', CS M A τ' → posti (weekF A s w) τ') : w_X6_week M posti s w τ := by
  have hb := hA.1.2.1
  unfold weekF at h
  unfold w_X6_week
  refine c_chAt hA (fun j hj hs e hk => ⟨fun q => (by cases q), fun o e2 => ?_⟩) (fun q => ⟨fun _ => ?_, fun o e2 => (by cases e2)⟩)
  · cases e2
    rw [if_pos hs, e, i_nI (by omega)] at h
    refine ⟨hk, c_isBit (fun c => br_f (by decide) (c_tell5 hk (by decide) ?_)) (fun c => br_t rfl ?_)⟩
    · rw [if_pos c] at h
      rw [show (0 : Int32).toInt.toNat = 0 by decide, show 17 + 4 * j + 1 = 18 + 4 * j by omega, hA.1.2.2 j 0 hj (by decide)]
      exact ⟨61, c_weekL hj 60 1 _ _ _ τ rfl (CS_wk0 hA) h⟩
    · rw [if_neg c] at h; exact h τ hA
  · rw [if_neg q] at h; exact h τ hA
theorem m_week (hV : Bd A) (hW : VA A) (hA : MS A τ) {s w : Int32} (h : ∀ τ', MS A τ' → posti (weekF A s w) τ') : w_X7_week 20 posti s w τ := by
  have hb := hV.1
  unfold weekF at h
  unfold w_X7_week
  refine m_isCh hV hA (fun j hj hs e => br_f (by decide) ?_) (fun q => br_t rfl ?_)
  · rw [if_pos hs, e, i_nI (by omega)] at h
    refine m_in' (lo := 0) (hi := 1) (by decide) (by decide) (fun c => br_f (by decide) ?_) (fun c => br_t rfl ?_)
    · rw [if_pos c] at h
      have e5 : 5 * nI j = nI (5 * j) := i_mul (a := 5)
      have eg : gi τ 1 (5 * j) = aCh A j 0 := hA.1.2 j 0 hj (by decide)
      rw [e, e5]
      refine ⟨vp_in_nI (by omega) (by decide), fun x7 e7 => ?_⟩
      rw [nI_clamp (by omega), eg] at e7
      rw [e7]
      exact ⟨61, m_weekL hV hW hj 60 1 1 _ _ τ rfl (MS_wk0 hA) (by rw [weekL_first]; exact h)⟩
    · rw [if_neg c] at h; exact h τ hA
  · rw [if_neg q] at h; exact h τ hA
/-! handfuls at a time -/
theorem k_throw (hA : CS M A τ) {L : Lw} (hP : PotAt M 12 L P τ) {j : Nat} (hj : j < aNc A) {a : Int32} (h : ∀ τ', Kp M A 12 L (throwF (aCh A j) a P) τ τ' → post τ') : w_X3_throwIn M post 12 (17 + 4 * j) a τ := by
  have hM := hA.2.2.2.2.2.2.2.1
  have h4 := hA.1.2.1
  have hc := hA.1.2.2
  rw [PotAt_eq hP]
  refine c_throw (ch := aCh A j) (kd12 M 12 hM (Or.inl rfl)) (kdCh hM (by omega)) (by omega) (fun k hk => ?_) (h _ (Kp_pu (Or.inl rfl) hA hP))
  rw [show 17 + 4 * j + 1 = 18 + 4 * j by omega]
  exact hc j k hj hk
def paceP (L : Lw) (ch : Nat → Int32) (b : Int32) : Nat → Int32 → Pt → Pt
  | 0, _, P => P
  | k + 1, l, P => if l ≤ 0 then P else paceP L ch b k (l - b) (minuteF L 1 (throwF ch (if l < b then l else b) P))
theorem paceP_0 {L : Lw} {ch : Nat → Int32} {b l : Int32} (k : Nat) (P : Pt) (hl : l ≤ 0) : paceP L ch b k l P = P := by
  match k with
  | 0 => rfl
  | k + 1 => show (if l ≤ 0 then P else _) = P; rw [if_pos hl]
theorem c_paceI {j : Nat} (hj : j < aNc A) {b all : Int32} (hb : 1 ≤ b.toInt ∧ b.toInt ≤ 30) {k30 : Int32 → Option Nat → Int32 → St → Prop} : ∀ (k : Nat) (l : Int32) (P : Pt) (τ : St), l.toInt ≤ (k : Int) → k ≤ 30 → -30 ≤ l.toInt → CS M A τ → PotAt M 12 (lawF A) P τ →
    (∀ τ', CS M A τ' → (holdF (paceP (lawF A) (aCh A j) b k l P) = 0 → k30 all (some (17 + 4 * j)) (b + (-1)) τ') ∧ (¬ holdF (paceP (lawF A) (aCh A j) b k l P) = 0 → ((paceP (lawF A) (aCh A j) b k l P).1 8 < (paceP (lawF A) (aCh A j) b k l P).1 7 → k30 all (some (17 + 4 * j)) (b + (-1)) τ') ∧ (¬ (paceP (lawF A) (aCh A j) b k l P).1 8 < (paceP (lawF A) (aCh A j) b k l P).1 7 → posti b τ'))) →
    wl_X6_pace_43 M posti k30 (k + 1) all (some (17 + 4 * j)) b l τ := by
  have fin : ∀ (Y : Nat → Int32 → Option Nat → Int32 → Int32 → St → Prop) (n : Nat) (l : Int32) (P : Pt) (τ : St), l ≤ 0 → CS M A τ → PotAt M 12 (lawF A) P τ → (∀ τ', CS M A τ' → (holdF P = 0 → k30 all (some (17 + 4 * j)) (b + (-1)) τ') ∧ (¬ holdF P = 0 → (P.1 8 < P.1 7 → k30 all (some (17 + 4 * j)) (b + (-1)) τ') ∧ (¬ P.1 8 < P.1 7 → posti b τ'))) → w_X6_pace_43 M posti k30 (Y n) all (some (17 + 4 * j)) b l τ := by
    intro Y n l P τ hl hA hP h
    unfold w_X6_pace_43
    refine br_t hl (k_holds (Or.inl rfl) hA hP ⟨fun c x5 e5 => ?_, fun c => ?_⟩)
    · rw [e5]; exact (h τ hA).1 c
    · rw [hP.1 8 (by decide), hP.1 7 (by decide)]
      refine ⟨fun d x7 e7 => ?_, fun d => ?_⟩
      · rw [e7]; exact ((h τ hA).2 c).1 d
      · exact ((h τ hA).2 c).2 d
  intro k
  induction k with
  | zero =>
    intro l P τ hl hk hl2 hA hP h
    exact fin (fun n => wl_X6_pace_43 M posti k30 n) 0 l P τ (il.mpr (by rw [i_0]; omega)) hA hP h
  | succ k ih =>
    intro l P τ hl hk hl2 hA hP h
    by_cases c : l ≤ 0
    · rw [paceP_0 (k + 1) P c] at h
      exact fin (fun n => wl_X6_pace_43 M posti k30 n) (k + 1) l P τ c hA hP h
    · have hc : 0 < l.toInt := by
        have : ¬ l.toInt ≤ (0 : Int32).toInt := fun q => c (il.mpr q)
        rw [i_0] at this
        omega
      have hs : (l - b).toInt = l.toInt - b.toInt := isu (by omega) (by omega)
      show w_X6_pace_43 M posti k30 _ all (some (17 + 4 * j)) b l τ
      unfold w_X6_pace_43
      unfold paceP at h
      rw [if_neg c] at h
      refine br_f c (fun x8 e8 => ⟨_, rfl, kdCh hA.2.2.2.2.2.2.2.1 (by have := hA.1.2.1; omega), k_throw hA hP hj (fun τ1 h1 => k_minute (Or.inl rfl) h1.1 h1.2.1 (fun τ2 h2 => ?_))⟩)
      rw [e8] at h2
      exact ih (l - b) _ τ2 (by omega) (by omega) (by omega) h2.1 h2.2.1 h
theorem m_paceI (hV : Bd A) (hW : VA A) {j : Nat} (hj : j < aNc A) {b all : Int32} (hb : 1 ≤ b.toInt ∧ b.toInt ≤ 30) {k28 : Int32 → Int32 → Int32 → St → Prop} : ∀ (k : Nat) (l : Int32) (P : Pt) (τ : St), l.toInt ≤ (k : Int) → k ≤ 30 → -30 ≤ l.toInt → MS A τ → PotM P τ → PIr k k P →
    (∀ τ', MS A τ' → (holdF (paceP (lawF A) (aCh A j) b k l P) = 0 → k28 (nI j) all (b + (-1)) τ') ∧ (¬ holdF (paceP (lawF A) (aCh A j) b k l P) = 0 → ((paceP (lawF A) (aCh A j) b k l P).1 8 < (paceP (lawF A) (aCh A j) b k l P).1 7 → k28 (nI j) all (b + (-1)) τ') ∧ (¬ (paceP (lawF A) (aCh A j) b k l P).1 8 < (paceP (lawF A) (aCh A j) b k l P).1 7 → posti b τ'))) →
    wl_X7_pace_39 20 posti k28 (k + 1) (nI j) all b l τ := by
  have fin : ∀ (Y : Nat → Int32 → Int32 → Int32 → Int32 → St → Prop) (n : Nat) (l : Int32) (P : Pt) (τ : St) (r : Nat), l ≤ 0 → MS A τ → PotM P τ → PIr r r P → (∀ τ', MS A τ' → (holdF P = 0 → k28 (nI j) all (b + (-1)) τ') ∧ (¬ holdF P = 0 → (P.1 8 < P.1 7 → k28 (nI j) all (b + (-1)) τ') ∧ (¬ P.1 8 < P.1 7 → posti b τ'))) → w_X7_pace_39 20 posti k28 (Y n) (nI j) all b l τ := by
    intro Y n l P τ r hl hA hP hR h
    unfold w_X7_pace_39
    refine br_t hl (q_holds hV hA hP hR (fun τ1 h1 => ⟨fun c x5 e5 => ?_, fun c => ?_⟩))
    · rw [e5]; exact (h τ1 h1.1).1 c
    · have g1 : gi τ1 13 1 = P.1 8 := h1.2.1.1 1 (by decide)
      have g0 : gi τ1 13 0 = P.1 7 := h1.2.1.1 0 (by decide)
      rw [g1, g0]
      refine ⟨fun d x7 e7 => ?_, fun d => ?_⟩
      · rw [e7]; exact ((h τ1 h1.1).2 c).1 d
      · exact ((h τ1 h1.1).2 c).2 d
  intro k
  induction k with
  | zero =>
    intro l P τ hl hk hl2 hA hP hR h
    exact fin (fun n => wl_X7_pace_39 20 posti k28 n) 0 l P τ 0 (il.mpr (by rw [i_0]; omega)) hA hP hR h
  | succ k ih =>
    intro l P τ hl hk hl2 hA hP hR h
    by_cases c : l ≤ 0
    · rw [paceP_0 (k + 1) P c] at h
      exact fin (fun n => wl_X7_pace_39 20 posti k28 n) (k + 1) l P τ _ c hA hP hR h
    · have hc : 0 < l.toInt := by
        have : ¬ l.toInt ≤ (0 : Int32).toInt := fun q => c (il.mpr q)
        rw [i_0] at this
        omega
      have hs : (l - b).toInt = l.toInt - b.toInt := isu (by omega) (by omega)
      show w_X7_pace_39 20 posti k28 _ (nI j) all b l τ
      unfold w_X7_pace_39
      unfold paceP at h
      rw [if_neg c] at h
      have go : ∀ v : Int32, v = (if l < b then l else b) → w_X7_pace_58 20 posti k28 (wl_X7_pace_39 20 posti k28 (k + 1)) (nI j) all b l v (nI j) τ := by
        intro v hv
        rw [← hv] at h
        have hv2 : 0 ≤ v.toInt ∧ v.toInt ≤ 30 := by
          rw [hv]
          split
          · omega
          · omega
        unfold w_X7_pace_58
        refine q_hand hV hA hP hR hv2.1 hj (fun τ1 h1 => ?_)
        have hR1 : PIr k (k + 1) (throwF (aCh A j) v P) := PIr_throw hv2 (hW.1 j hj) hR
        refine q_minute hV h1.1 h1.2.1 hR1 (fun τ2 h2 => ?_)
        exact ih (l - b) _ τ2 (by omega) (by omega) (by omega) h2.1 h2.2.1 (PIr_min hR1) h
      refine br_f c ⟨fun d => go b ?_, fun d => go l ?_⟩
      · rw [if_neg (fun q => by have := il.mp d; have := ilt.mp q; omega)]
      · rw [if_pos (ilt.mpr (by have : ¬ b.toInt ≤ l.toInt := fun q => d (il.mpr q)
                                omega))]
def paceQ (A : Ab) (j all b : Nat) : Pt := paceP (lawF A) (aCh A j) (nI b) 30 (nI all) (begF A)
def paceL (A : Ab) (j all : Nat) : Nat → Int32
  | 0 => -1
  | k + 1 => if holdF (paceQ A j all (k + 1)) = 0 then paceL A j all k else if (paceQ A j all (k + 1)).1 8 < (paceQ A j all (k + 1)).1 7 then paceL A j all k else nI (k + 1)
theorem nI_dec (k : Nat) : nI (k + 1) + (-1) = nI k := by
  rw [← Int32.sub_eq_add_neg]
  exact nI_sub' (a := k + 1) (b := 1) (by omega)
theorem c_paceO {j all : Nat} (hj : j < aNc A) (hall : all ≤ 30) : ∀ (k : Nat) (τ : St), k ≤ 30 → CS M A τ → (∀ τ', CS M A τ' → posti (paceL A j all k) τ') → wl_X6_pace_30 M posti (k + 1) (nI all) (some (17 + 4 * j)) (nI k) τ := by
  have ea := nI_toInt (n := all) (by omega)
  intro k
  induction k with
  | zero =>
    intro τ hk hA h
    exact br_t (by decide) (h τ hA)
  | succ k ih =>
    intro τ hk hA h
    have ek := nI_toInt (n := k + 1) (by omega)
    show w_X6_pace_30 M posti _ (nI all) (some (17 + 4 * j)) (nI (k + 1)) τ
    unfold w_X6_pace_30
    refine br_f (nI_nlt (a := k + 1) (b := 1) (by omega) (by omega)) (k_beginPot hA (fun τ1 h1 => ⟨31, c_paceI hj (by omega) 30 (nI all) _ τ1 (by omega) (by omega) (by omega) h1.1 h1.2.1 (fun τ2 h2 => ?_)⟩))
    rw [nI_dec]
    unfold paceL at h
    refine ⟨fun c => ?_, fun c => ⟨fun d => ?_, fun d => ?_⟩⟩
    · rw [if_pos (show holdF (paceQ A j all (k + 1)) = 0 from c)] at h
      exact ih τ2 (by omega) h2 h
    · rw [if_neg (show ¬ holdF (paceQ A j all (k + 1)) = 0 from c), if_pos (show (paceQ A j all (k + 1)).1 8 < (paceQ A j all (k + 1)).1 7 from d)] at h
      exact ih τ2 (by omega) h2 h
    · rw [if_neg (show ¬ holdF (paceQ A j all (k + 1)) = 0 from c), if_neg (show ¬ (paceQ A j all (k + 1)).1 8 < (paceQ A j all (k + 1)).1 7 from d)] at h
      exact h τ2 h2
theorem m_paceO (hV : Bd A) (hW : VA A) {j all : Nat} (hj : j < aNc A) (hall : all ≤ 30) : ∀ (k : Nat) (τ : St), k ≤ 30 → MS A τ → (∀ τ', MS A τ' → posti (paceL A j all k) τ') → wl_X7_pace_28 20 posti (k + 1) (nI j) (nI all) (nI k) τ := by
  have ea := nI_toInt (n := all) (by omega)
  intro k
  induction k with
  | zero =>
    intro τ hk hA h
    exact br_t (by decide) (h τ hA)
  | succ k ih =>
    intro τ hk hA h
    have ek := nI_toInt (n := k + 1) (by omega)
    show w_X7_pace_28 20 posti _ (nI j) (nI all) (nI (k + 1)) τ
    unfold w_X7_pace_28
    refine br_f (nI_ge (a := 0) (b := k + 1) (by omega) (by omega)) (km_begins hA (fun τ1 h1 => ⟨31, m_paceI hV hW hj (by omega) 30 (nI all) _ τ1 (by omega) (by omega) (by omega) h1.1 h1.2.1 (PIr_mono (PIr_beg hW) (by omega) (by omega)) (fun τ2 h2 => ?_)⟩))
    rw [nI_dec]
    unfold paceL at h
    refine ⟨fun c => ?_, fun c => ⟨fun d => ?_, fun d => ?_⟩⟩
    · rw [if_pos (show holdF (paceQ A j all (k + 1)) = 0 from c)] at h
      exact ih τ2 (by omega) h2 h
    · rw [if_neg (show ¬ holdF (paceQ A j all (k + 1)) = 0 from c), if_pos (show (paceQ A j all (k + 1)).1 8 < (paceQ A j all (k + 1)).1 7 from d)] at h
      exact ih τ2 (by omega) h2 h
    · rw [if_neg (show ¬ holdF (paceQ A j all (k + 1)) = 0 from c), if_neg (show ¬ (paceQ A j all (k + 1)).1 8 < (paceQ A j all (k + 1)).1 7 from d)] at h
      exact h τ2 h2
def paceF (A : Ab) (s a : Int32) : Int32 := if 0 ≤ s.toInt ∧ s.toInt < (aNc A : Int) then (if 1 ≤ a.toInt ∧ a.toInt ≤ 30 then paceL A s.toInt.toNat a.toInt.toNat a.toInt.toNat else -7) else -5
theorem c_pace (hA : CS M A τ) {s a : Int32} (h : ∀ τ', CS M A τ' → posti (paceF A s a) τ') : w_X6_pace M posti s a τ := by
  have hb := hA.1.2.1
  unfold paceF at h
  unfold w_X6_pace
  refine c_chAt hA (fun j hj hs e hk => ⟨fun q => (by cases q), fun o e2 => ?_⟩) (fun q => ⟨fun _ => ?_, fun o e2 => (by cases e2)⟩)
  · cases e2
    rw [if_pos hs, e, i_nI (by omega)] at h
    refine ⟨hk, brl i_1 (fun q => ?_) (fun q1 => brle (c := 30) (n := 30) (by decide) (fun q2 => ?_) (fun q => ?_))⟩
    · rw [if_neg (by omega)] at h; exact h τ hA
    · rw [if_pos ⟨by omega, q2⟩] at h
      obtain ⟨m, hm, rfl⟩ := as_nI (s := a) (n := 30) (by omega)
      rw [i_nI (by omega)] at h
      exact ⟨m + 1, c_paceO hj hm m τ hm hA h⟩
    · rw [if_neg (by omega)] at h; exact h τ hA
  · rw [if_neg q] at h; exact h τ hA
theorem m_pace (hV : Bd A) (hW : VA A) (hA : MS A τ) {s a : Int32} (h : ∀ τ', MS A τ' → posti (paceF A s a) τ') : w_X7_pace 20 posti s a τ := by
  have hb := hV.1
  unfold paceF at h
  unfold w_X7_pace
  refine m_isCh hV hA (fun j hj hs e => br_f (by decide) ?_) (fun q => br_t rfl ?_)
  · rw [if_pos hs, e, i_nI (by omega)] at h
    refine m_in' (lo := 1) (hi := 30) (by decide) (by decide) (fun c => br_f (by decide) ?_) (fun c => br_t rfl ?_)
    · rw [if_pos c] at h
      obtain ⟨m, hm, rfl⟩ := as_nI (s := a) (n := 30) (by omega)
      rw [i_nI (by omega)] at h
      rw [e]
      exact ⟨m + 1, m_paceO hV hW hj hm m τ hm hA h⟩
    · rw [if_neg c] at h; exact h τ hA
  · rw [if_neg q] at h; exact h τ hA
end MIXES
