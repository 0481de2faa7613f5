/-! tests of pots and of age -/
section TESTS
variable {M : Nat} {A : Ab} {post : St → Prop} {posti : Int32 → St → Prop} {postl : Int64 → St → Prop} {τ : St} {P : Pt}
theorem nI_inj {a b : Nat} (ha : a < 2 ^ 31) (hb : b < 2 ^ 31) : nI a = nI b ↔ a = b := by
  rw [ieq, nI_toInt ha, nI_toInt hb]
  omega
theorem c_refuse {d : Nat} (hd : d < 4) (hA : CS M A τ) (h1 : aSo A d = -1 → posti (-11) τ) (h2 : ¬ aSo A d = -1 → aSz A d = aNa A → posti 0 τ) (h3 : ¬ aSo A d = -1 → ¬ aSz A d = aNa A → posti (-2) τ) : w_X6_refusedAsTest M posti (some (45 + 2 * d)) τ := by
  have hM := hA.2.2.2.2.2.2.2.1
  have h12 := hA.2.1.2.1
  obtain ⟨a1, a2, a3, a4⟩ := C7_at hA hd
  unfold w_X6_refusedAsTest
  refine ⟨fun q => (by cases q), fun o q => ?_⟩
  cases q
  refine ⟨kdSh hM hd, c_missing (kdSh hM hd) a1 (fun c => br_f (by decide) (h1 c)) (fun c => br_t rfl ?_)⟩
  rw [a2, CS_na hA]
  have e := nI_inj (a := aSz A d) (b := aNa A) (by omega) (by omega)
  exact ⟨fun q => h2 c (e.mp q), fun q => h3 c (fun z => q (e.mpr z))⟩
theorem m_refuse (hZ : ∀ d, d < 4 → aSz A d ≤ 40) (hV : Bd A) (hW : VA A) (hA : MS A τ) {s : Int32} (h0 : ¬ isS s → posti (-2) τ) (h1 : ∀ d, d < 4 → isS s → s = nI d → aSo A d = -1 → posti (-11) τ) (h2 : ∀ d, d < 4 → isS s → s = nI d → ¬ aSo A d = -1 → aSz A d = aNa A → posti 1 τ) (h3 : ∀ d, d < 4 → isS s → s = nI d → ¬ aSo A d = -1 → ¬ aSz A d = aNa A → posti (-2) τ) : w_X7_refuses 20 posti s τ := by
  have h12 := hV.2.1
  unfold w_X7_refuses
  refine m_isSh (fun d hd hs e => br_f (by decide) ?_) (fun q => br_t rfl (h0 q))
  have h1 := h1 d hd hs e
  have h2 := h2 d hd hs e
  have h3 := h3 d hd hs e
  obtain ⟨a1, a2, a4⟩ := M7_at hA hd
  have hv := vp_in_nI (n := d) (N := 4) (by omega) (by decide)
  have hn := so_neg hW hd
  have hz := hZ d hd
  have ee := nI_inj (a := aSz A d) (b := aNa A) (by omega) (by omega)
  rw [e, nI_clamp (by omega), a1, a2, MS_na hA]
  refine ⟨hv, brge z0' (fun c => ⟨hv, fun q => h2 (hn.mp c) (ee.mp q), fun q => h3 (hn.mp c) (fun z => q (ee.mpr z))⟩) (fun c => h1 (Classical.byContradiction (fun q => c (hn.mpr q))))⟩
/-! judge -/
def judL (A : Ab) (it : Nat → Int32) : Nat → Nat → Pt → Int32
  | 0, _, _ => -1
  | k + 1, i, P => if it i = sortF (lawF A) (oneF A (lawF A) i P) then judL A it k (i + 1) (oneF A (lawF A) i P) else nI i
theorem c_judL {d : Nat} (hd : d < 4) (hz : aSz A d = aNa A) : ∀ (k i : Nat) (P : Pt) (τ : St), i + k = aNa A → CS M A τ → PotAt M 12 (lawF A) P τ → (∀ τ', CS M A τ' → posti (judL A (aIt A d) k i P) τ') → wl_X6_judge_29 M posti (k + 1) (some (45 + 2 * d)) (nI i) τ := by
  intro k
  induction k with
  | zero =>
    intro i P τ hi hA hP h
    have hi : i = aNa A := hi
    subst hi
    show w_X6_judge_29 M posti _ (some (45 + 2 * d)) (nI (aNa A)) τ
    unfold w_X6_judge_29
    rw [CS_na hA]
    exact br_t (Int32.le_refl _) (h τ hA)
  | succ k ih =>
    intro i P τ hi hA hP h
    have h12 := hA.2.1.2.1
    show w_X6_judge_29 M posti _ (some (45 + 2 * d)) (nI i) τ
    unfold w_X6_judge_29
    rw [CS_na hA]
    unfold judL at h
    refine br_f (nI_ge (by omega) (by omega)) (k_one hA hP (by omega) (fun τ1 h1 => ⟨_, rfl, kdSh h1.1.2.2.2.2.2.2.2.1 hd, c_tellS hd h1.1 rfl (by omega) (k_sort (Or.inl rfl) h1.1 h1.2.1 (fun τ2 h2 => ⟨fun c x9 e9 => ?_, fun c => ?_⟩))⟩))
    · rw [if_pos c] at h
      rw [e9, nI_1]
      exact ih (i + 1) _ τ2 (by omega) h2.1 h2.2.1 h
    · rw [if_neg c] at h; exact h τ2 h2.1
theorem m_judL (hV : Bd A) (hW : VA A) {d : Nat} (hd : d < 4) : ∀ (k i : Nat) (P : Pt) (τ : St), i + k = aNa A → MS A τ → PotM P τ → PIr k 1 P → (∀ τ', MS A τ' → posti (judL A (aIt A d) k i P) τ') → wl_X7_judge_20 20 posti (k + 1) (nI d) (nI i) τ := by
  have h12 := hV.2.1
  intro k
  induction k with
  | zero =>
    intro i P τ hi hA hP hR h
    have hi : i = aNa A := hi
    subst hi
    show w_X7_judge_20 20 posti _ (nI d) (nI (aNa A)) τ
    unfold w_X7_judge_20
    rw [MS_na hA]
    exact br_t (Int32.le_refl _) (h τ hA)
  | succ k ih =>
    intro i P τ hi hA hP hR h
    show w_X7_judge_20 20 posti _ (nI d) (nI i) τ
    unfold w_X7_judge_20
    rw [MS_na hA]
    unfold judL at h
    refine br_f (nI_ge (by omega) (by omega)) (q_act hV hW hA hP hR (by omega) (fun τ1 h1 => q_sort hV h1.1 h1.2.1 (PIr_one hW (by omega) hR) (fun τ2 h2 => ?_)))
    rw [m_40 hd (k := i) (by omega) rfl, nI_clamp (by omega)]
    refine ⟨vp_in_nI (by omega) (by decide), fun x5 e5 => ?_⟩
    rw [(M7_at h2.1 hd).2.2 i (by omega)] at e5
    rw [e5]
    refine ⟨fun c x7 e7 => ?_, fun c => ?_⟩
    · rw [if_pos c.symm] at h
      rw [e7, nI_1]
      exact ih (i + 1) _ τ2 (by omega) h2.1 h2.2.1 (PIr_one hW (by omega) hR) h
    · rw [if_neg (fun q => c q.symm)] at h; exact h τ2 h2.1
def judgeF (A : Ab) (s : Int32) : Int32 := if 0 ≤ s.toInt ∧ s.toInt ≤ 3 then (if aSo A s.toInt.toNat = -1 then -11 else if aSz A s.toInt.toNat = aNa A then judL A (aIt A s.toInt.toNat) (aNa A) 0 (begF A) else -2) else -2
theorem c_judge (hA : CS M A τ) {s : Int32} (h : ∀ τ', CS M A τ' → posti (judgeF A s) τ') : w_X6_judge M posti s τ := by
  unfold judgeF at h
  unfold w_X6_judge
  refine c_shAt hA (fun d hd hs ed hk => ?_) (fun q => ?_)
  · rw [if_pos hs, ed, i_nI (by omega)] at h
    refine c_refuse hd hA (fun c => ⟨fun q => (by cases q), fun o q => ?_⟩) (fun c c2 => ⟨fun q => (by cases q), fun o q => ?_⟩) (fun c c2 => ⟨fun q => (by cases q), fun o q => ?_⟩)
    · cases q
      rw [if_pos c] at h
      exact ⟨hk, br_f (by decide) (h τ hA)⟩
    · cases q
      rw [if_neg c, if_pos c2] at h
      exact ⟨hk, br_t rfl (k_beginPot hA (fun τ1 h1 => ⟨aNa A + 1, c_judL hd c2 (aNa A) 0 _ τ1 (by omega) h1.1 h1.2.1 h⟩))⟩
    · cases q
      rw [if_neg c, if_neg c2] at h
      exact ⟨hk, br_f (by decide) (h τ hA)⟩
  · rw [if_neg q] at h
    unfold w_X6_refusedAsTest
    exact ⟨fun _ => ⟨fun _ => h τ hA, fun o z => (by cases z)⟩, fun o z => (by cases z)⟩
theorem m_judge (hZ : ∀ d, d < 4 → aSz A d ≤ 40) (hV : Bd A) (hW : VA A) (hA : MS A τ) {s : Int32} (h : ∀ τ', MS A τ' → posti (judgeF A s) τ') : w_X7_judge 20 posti s τ := by
  have h12 := hV.2.1
  unfold judgeF at h
  unfold w_X7_judge
  have two : ∀ v : Int32, (∀ τ', MS A τ' → posti v τ') → (w_X7_refuses 20 (fun r6 σ5 => posti r6 σ5) s τ ↔ w_X7_refuses 20 (fun r6 σ5 => posti r6 σ5) s τ) := fun _ _ => Iff.rfl
  refine m_refuse hZ hV hW hA (fun q => ?_) (fun d hd hs ed c => ?_) (fun d hd hs ed c c2 => ?_) (fun d hd hs ed c c2 => ?_)
  · rw [if_neg q] at h
    exact br_f (by decide) (m_refuse hZ hV hW hA (fun _ => h τ hA) (fun d _ hs => absurd hs q) (fun d _ hs => absurd hs q) (fun d _ hs => absurd hs q))
  · rw [if_pos hs, ed, i_nI (by omega), if_pos c] at h
    refine br_f (by decide) (m_refuse hZ hV hW hA (fun q => absurd hs q) (fun _ _ _ _ _ => h τ hA) (fun d' hd' _ e' c' => ?_) (fun d' hd' _ e' c' => ?_))
    · rw [ed, nI_inj (by omega) (by omega)] at e'; subst e'; exact absurd c c'
    · rw [ed, nI_inj (by omega) (by omega)] at e'; subst e'; exact absurd c c'
  · rw [if_pos hs, ed, i_nI (by omega), if_neg c, if_pos c2] at h
    rw [ed]
    exact br_t (by decide) (km_begins hA (fun τ1 h1 => ⟨aNa A + 1, m_judL hV hW hd (aNa A) 0 _ τ1 (by omega) h1.1 h1.2.1 (PIr_mono (PIr_beg hW) (by omega) (by omega)) h⟩))
  · rw [if_pos hs, ed, i_nI (by omega), if_neg c, if_neg c2] at h
    refine br_f (by decide) (m_refuse hZ hV hW hA (fun q => absurd hs q) (fun d' hd' _ e' c' => ?_) (fun d' hd' _ e' c' c2' => ?_) (fun _ _ _ _ _ _ => h τ hA))
    · rw [ed, nI_inj (by omega) (by omega)] at e'; subst e'; exact absurd c' c
    · rw [ed, nI_inj (by omega) (by omega)] at e'; subst e'; exact absurd c2' c2
/-! film -/
def filL (d : Nat) : Nat → Nat → Pt → Ab → Ab
  | 0, _, _, B => B
  | k + 1, i, P, B => filL d k (i + 1) (oneF B (lawF B) i P) (putA B d i ((oneF B (lawF B) i P).1 11))
theorem PotAt_si {L : Lw} {a k : Nat} {v : Int32} (h : PotAt M 12 L P τ) (ha : 14 ≤ a ∧ a < 53) : PotAt M 12 L P (si τ a k v) := by
  obtain ⟨h1, h2, r, h3, h4⟩ := h
  exact ⟨fun k hk => by rw [gso (by omega)]; exact h1 k hk, h2, r, h3, LawAt_frame h4 (Nat.le_refl M) (fun a k h1 _ => gso (by omega)) (fun a _ => rfl)⟩
theorem c_putX {d : Nat} (hd : d < 4) (hA : CS M A τ) {i v : Int32} {k : Nat} (hi : i = nI k) (hk : k < aSz A d) (h2 : aSo A d = 2) (h : post (si τ (45 + 2 * d + 1) k v)) : w_X5_put M post (45 + 2 * d) i v τ := by
  subst hi
  obtain ⟨a1, a2, a3, a4⟩ := C7_at hA hd
  have hM := hA.2.2.2.2.2.2.2.1
  have ek := nI_toInt (n := k) (by omega)
  have hv := vp_in_nI (n := k) (N := 40) (by omega) (by decide)
  unfold w_X5_put
  refine ⟨kdSh hM hd, c_row (kdSh hM hd) a2 a3 (fun _ => br_f (by decide) ?_) (fun q => absurd (by rw [i_1, ek]; omega) q)⟩
  rw [a1, nI_clamp (by omega), h2]
  exact br_f (by decide) (br_f (by decide) ⟨hv, fun σ6 e6 => by rw [e6]; exact h⟩)
theorem putA_at {d i : Nat} {v : Int32} : aSo (putA A d i v) d = aSo A d ∧ aSz (putA A d i v) d = aSz A d ∧ aNa (putA A d i v) = aNa A := by
  refine ⟨upN_s, ?_, rfl⟩
  show upG (aSz A) d (aSz A d) d = aSz A d
  unfold upG; rw [if_pos rfl]
theorem c_filL {d n : Nat} (hd : d < 4) : ∀ (k i : Nat) (P : Pt) (B : Ab) (τ : St), i + k = n → aNa B = n → aSo B d = 2 → aSz B d = n → CS M B τ → PotAt M 12 (lawF B) P τ → (∀ τ', CS M (filL d k i P B) τ' → posti (nI n) τ') → wl_X6_film_28 M posti (k + 1) (some (45 + 2 * d)) (nI i) τ := by
  intro k
  induction k with
  | zero =>
    intro i P B τ hi hn ho hz hA hP h
    have hi : i = n := hi
    subst hi
    show w_X6_film_28 M posti _ (some (45 + 2 * d)) (nI i) τ
    unfold w_X6_film_28
    rw [CS_na hA, hn]
    exact br_t (Int32.le_refl _) (h τ hA)
  | succ k ih =>
    intro i P B τ hi hn ho hz hA hP h
    have h12 := hA.2.1.2.1
    show w_X6_film_28 M posti _ (some (45 + 2 * d)) (nI i) τ
    unfold w_X6_film_28
    rw [CS_na hA, hn]
    refine br_f (nI_ge (by omega) (by omega)) (k_one hA hP (by omega) (fun τ1 h1 => ⟨_, rfl, kdSh h1.1.2.2.2.2.2.2.2.1 hd, c_putX hd h1.1 rfl (by omega) ho (fun x5 e5 => ?_)⟩))
    rw [e5, nI_1, PotAt_oil h1.2.1]
    obtain ⟨p1, p2, p3⟩ := putA_at (A := B) (d := d) (i := i) (v := (oneF B (lawF B) i P).1 11)
    exact ih (i + 1) _ (putA B d i ((oneF B (lawF B) i P).1 11)) _ (by omega) (p3.trans hn) (p1.trans ho) (p2.trans hz) (CS_cell h1.1 hd) (PotAt_si h1.2.1 (by omega)) h
theorem PotM_18 {k : Nat} {v : Int32} (h : PotM P τ) : PotM P (si τ 18 k v) := by
  obtain ⟨h1, h2, h3, h4⟩ := h
  exact ⟨fun k hk => by rw [gso (by decide)]; exact h1 k hk, by rw [gso (by decide)]; exact h2, h3, h4⟩
theorem m_filL {d n : Nat} (hd : d < 4) : ∀ (k i : Nat) (P : Pt) (B : Ab) (τ : St), i + k = n → aNa B = n → Bd B → VA B → MS B τ → PotM P τ → PIr k 1 P → (∀ τ', MS (filL d k i P B) τ' → posti (nI n) τ') → wl_X7_film_27 20 posti (k + 1) (nI d) (nI i) τ := by
  intro k
  induction k with
  | zero =>
    intro i P B τ hi hn hV hW hA hP hR h
    have hi : i = n := hi
    subst hi
    show w_X7_film_27 20 posti _ (nI d) (nI i) τ
    unfold w_X7_film_27
    rw [MS_na hA, hn]
    exact br_t (Int32.le_refl _) (h τ hA)
  | succ k ih =>
    intro i P B τ hi hn hV hW hA hP hR h
    have h12 := hV.2.1
    show w_X7_film_27 20 posti _ (nI d) (nI i) τ
    unfold w_X7_film_27
    rw [MS_na hA, hn]
    refine br_f (nI_ge (by omega) (by omega)) (q_act hV hW hA hP hR (by omega) (fun τ1 h1 => ?_))
    rw [m_40 hd (k := i) (by omega) rfl, nI_clamp (by omega), PotM_oil h1.2.1]
    refine ⟨vp_in_nI (by omega) (by decide), fun σ3 e3 x4 e4 => ?_⟩
    rw [e4, nI_1, e3]
    exact ih (i + 1) _ (putA B d i ((oneF B (lawF B) i P).1 11)) _ (by omega) hn hV (VA_put hW hd) (MS_cell h1.1 hd (by omega)) (PotM_18 h1.2.1) (PIr_one hW (by omega) hR) h
theorem v_filL {d : Nat} (hd : d < 4) : ∀ (k i : Nat) (P : Pt) (B : Ab), VA B → VA (filL d k i P B) := by
  intro k
  induction k with
  | zero => intro i P B h; exact h
  | succ k ih => intro i P B h; exact ih _ _ _ (VA_put h hd)
def filmF (A : Ab) (s : Int32) : Int32 × Ab := if 0 ≤ s.toInt ∧ s.toInt ≤ 3 then (nI (aNa A), filL s.toInt.toNat (aNa A) 0 (begF A) (shA A s.toInt.toNat 2 (aNa A) (fun _ => 0))) else (-2, A)
theorem shA_at {d n : Nat} {s : Int32} {f : Nat → Int32} : aSo (shA A d s n f) d = s ∧ aSz (shA A d s n f) d = n := by
  refine ⟨upN_s, ?_⟩
  show upG (aSz A) d n d = n
  unfold upG; rw [if_pos rfl]
theorem c_film (hA : CS M A τ) {s : Int32} (h : ∀ τ', CS M (filmF A s).2 τ' → posti (filmF A s).1 τ') : w_X6_film M posti s τ := by
  have h12 := hA.2.1.2.1
  unfold filmF at h
  unfold w_X6_film
  refine c_shAt hA (fun d hd hs ed hk => ⟨fun q => (by cases q), fun o q => ?_⟩) (fun q => ⟨fun _ => ?_, fun o z => (by cases z)⟩)
  · cases q
    rw [if_pos hs, ed, i_nI (by omega)] at h
    rw [CS_na hA]
    refine ⟨hk, c_become5 hd hA (by omega) (fun τ1 h1 => k_beginPot h1 (fun τ2 h2 => ⟨aNa A + 1, ?_⟩))⟩
    obtain ⟨p1, p2⟩ := shA_at (A := A) (d := d) (n := aNa A) (s := 2) (f := fun _ => 0)
    exact c_filL (n := aNa A) hd (aNa A) 0 _ (shA A d 2 (aNa A) (fun _ => 0)) τ2 (Nat.zero_add _) rfl p1 p2 h2.1 h2.2.1 h
  · rw [if_neg q] at h; exact h τ hA
theorem m_film (hV : Bd A) (hW : VA A) (hA : MS A τ) {s : Int32} (h : ∀ τ', MS (filmF A s).2 τ' → posti (filmF A s).1 τ') : w_X7_film 20 posti s τ := by
  have h12 := hV.2.1
  unfold filmF at h
  unfold w_X7_film
  refine m_isSh (fun d hd hs ed => br_f (by decide) ?_) (fun q => br_t rfl ?_)
  · rw [if_pos hs, ed, i_nI (by omega)] at h
    have en := nI_toInt (n := aNa A) (by omega)
    have ei : (nI d).toInt.toNat = d := i_nI (by omega)
    have en2 : (nI (aNa A)).toInt.toNat = aNa A := i_nI (by omega)
    have e2 : (2 : Int32).toInt = 2 := by decide
    have hs' : 0 ≤ (nI d).toInt ∧ (nI d).toInt ≤ 3 := by rw [← ed]; exact hs
    have es : sheetF A (nI d) 2 (nI (aNa A)) = (1, shA A d 2 (aNa A) (fun _ => 0)) := by
      unfold sheetF
      rw [if_pos ⟨hs', by omega⟩, if_neg (by omega), if_pos (by omega), if_pos (by omega), ei, en2]
    rw [MS_na hA, ed]
    refine m_sheet hA (fun τ1 h1 => ?_)
    rw [es] at h1
    have hW1 : VA (shA A d 2 (aNa A) (fun _ => 0)) := VA_sheet hW (by decide)
    refine km_begins h1 (fun τ2 h2 => ⟨aNa A + 1, ?_⟩)
    exact m_filL (n := aNa A) hd (aNa A) 0 _ (shA A d 2 (aNa A) (fun _ => 0)) τ2 (Nat.zero_add _) rfl hV hW1 h2.1 h2.2.1 (PIr_mono (PIr_beg hW1) (by omega) (by omega)) h
  · rw [if_neg q] at h; exact h τ hA
theorem v_film (hW : VA A) {s : Int32} : VA (filmF A s).2 := by
  unfold filmF
  by_cases c : 0 ≤ s.toInt ∧ s.toInt ≤ 3
  · rw [if_pos c]
    exact v_filL (by omega) _ _ _ _ (VA_sheet hW (by decide))
  · rw [if_neg c]; exact hW
/-! whether the oil is as told -/
def oilL (A : Ab) (L : Lw) (it : Nat → Int32) : Nat → Nat → Pt → Int32
  | 0, _, _ => 1
  | k + 1, i, P => if (oneF A L i P).1 11 = it i then oilL A L it k (i + 1) (oneF A L i P) else 0
theorem c_oilL {d : Nat} (hd : d < 4) (hz : aSz A d = aNa A) {L : Lw} : ∀ (k i : Nat) (P : Pt) (τ : St), i + k = aNa A → CS M A τ → PotAt M 12 L P τ → (∀ τ', CS M A τ' → posti (oilL A L (aIt A d) k i P) τ') → wl_X6_oilIsAsTold_32 M posti (k + 1) (45 + 2 * d) (nI i) τ := by
  intro k
  induction k with
  | zero =>
    intro i P τ hi hA hP h
    have hi : i = aNa A := hi
    subst hi
    show w_X6_oilIsAsTold_32 M posti _ (45 + 2 * d) (nI (aNa A)) τ
    unfold w_X6_oilIsAsTold_32
    rw [CS_na hA]
    exact br_t (Int32.le_refl _) (h τ hA)
  | succ k ih =>
    intro i P τ hi hA hP h
    have h12 := hA.2.1.2.1
    show w_X6_oilIsAsTold_32 M posti _ (45 + 2 * d) (nI i) τ
    unfold w_X6_oilIsAsTold_32
    rw [CS_na hA]
    unfold oilL at h
    refine br_f (nI_ge (by omega) (by omega)) (k_one hA hP (by omega) (fun τ1 h1 => c_tellS hd h1.1 rfl (by omega) ?_))
    rw [PotAt_oil h1.2.1]
    refine ⟨fun c x6 e6 => ?_, fun c => ?_⟩
    · rw [if_pos c] at h
      rw [e6, nI_1]
      exact ih (i + 1) _ τ1 (by omega) h1.1 h1.2.1 h
    · rw [if_neg c] at h; exact h τ1 h1.1
theorem c_oil {d t : Nat} (hd : d < 4) (hz : aSz A d = aNa A) (ht : t < aNl A) (hA : CS M A τ) (h : ∀ τ', CS M A τ' → posti (oilL A (aLw A t) (aIt A d) (aNa A) 0 (begF A)) τ') : w_X6_oilIsAsTold M posti (45 + 2 * d) (nI t) τ := by
  have hM := hA.2.2.2.2.2.2.2.1
  have c4 := hA.2.2.2.1
  unfold w_X6_oilIsAsTold
  rw [c4 0 (by decide), c4 1 (by decide), c4 2 (by decide)]
  exact ⟨kdSh hM hd, c_lawAt hA ht (k_begin hA ht (fun τ1 h1 => ⟨aNa A + 1, c_oilL hd hz (aNa A) 0 _ τ1 (by omega) h1.1 h1.2.1 h⟩))⟩
theorem m_oilL (hV : Bd A) (hW : VA A) {d : Nat} (hd : d < 4) : ∀ (k i : Nat) (P : Pt) (τ : St), i + k = aNa A → MS A τ → PotM P τ → PIr k 1 P → (∀ τ', MS A τ' → posti (oilL A (lawF A) (aIt A d) k i P) τ') → wl_X7_isFilm_6 20 posti (k + 1) (nI d) (nI i) τ := by
  have h12 := hV.2.1
  intro k
  induction k with
  | zero =>
    intro i P τ hi hA hP hR h
    have hi : i = aNa A := hi
    subst hi
    show w_X7_isFilm_6 20 posti _ (nI d) (nI (aNa A)) τ
    unfold w_X7_isFilm_6
    rw [MS_na hA]
    exact br_t (Int32.le_refl _) (h τ hA)
  | succ k ih =>
    intro i P τ hi hA hP hR h
    show w_X7_isFilm_6 20 posti _ (nI d) (nI i) τ
    unfold w_X7_isFilm_6
    rw [MS_na hA]
    unfold oilL at h
    refine br_f (nI_ge (by omega) (by omega)) (q_act hV hW hA hP hR (by omega) (fun τ1 h1 => ?_))
    rw [m_40 hd (k := i) (by omega) rfl, nI_clamp (by omega), PotM_oil h1.2.1]
    refine ⟨vp_in_nI (by omega) (by decide), fun x5 e5 => ?_⟩
    rw [(M7_at h1.1 hd).2.2 i (by omega)] at e5
    rw [e5]
    refine ⟨fun c x7 e7 => ?_, fun c => ?_⟩
    · rw [if_pos c] at h
      rw [e7, nI_1]
      exact ih (i + 1) _ τ1 (by omega) h1.1 h1.2.1 (PIr_one hW (by omega) hR) h
    · rw [if_neg c] at h; exact h τ1 h1.1
theorem m_oil (hV : Bd A) (hW : VA A) {d : Nat} (hd : d < 4) (hA : MS A τ) (h : ∀ τ', MS A τ' → posti (oilL A (lawF A) (aIt A d) (aNa A) 0 (begF A)) τ') : w_X7_isFilm 20 posti (nI d) τ := by
  have h12 := hV.2.1
  unfold w_X7_isFilm
  exact km_begins hA (fun τ1 h1 => ⟨aNa A + 1, m_oilL hV hW hd (aNa A) 0 _ τ1 (by omega) h1.1 h1.2.1 (PIr_mono (PIr_beg hW) (by omega) (by omega)) h⟩)
/-! which law it was -/
def lnA (A : Ab) (t : Nat) : Ab := sLw A (aLw A) (aNl A) t
theorem oilL_ln {L : Lw} {it : Nat → Int32} {t : Nat} : ∀ (k i : Nat) (P : Pt), oilL (lnA A t) L it k i P = oilL A L it k i P := by
  intro k
  induction k with
  | zero => intro i P; rfl
  | succ k ih =>
    intro i P
    show (if (oneF A L i P).1 11 = it i then oilL (lnA A t) L it k (i + 1) (oneF A L i P) else 0) = (if (oneF A L i P).1 11 = it i then oilL A L it k (i + 1) (oneF A L i P) else 0)
    rw [ih]
theorem MS_lnA {x y : Nat} (h : MS (lnA A x) τ) : MS (lnA A y) (si τ 0 6 (nI y)) := by
  obtain ⟨-, -, ⟨m3, m3b, m3c⟩, -⟩ := id h
  refine MS_ln (A := lnA A x) h (fun a k _ h0 h4 => gsn (by omega)) ⟨?_, gss, fun t ht => MTxR_frame (m3c t ht) (fun a k ha _ => gso (by omega)) (fun k _ => gso (by omega))⟩
  rw [gsk (by decide)]; exact m3
def whichF (A : Ab) (s : Int32) : Int32 := if 0 ≤ s.toInt ∧ s.toInt ≤ 3 then (if aSo A s.toInt.toNat = -1 then -11 else if aSz A s.toInt.toNat = aNa A then bitF (fun t => oilL A (aLw A t) (aIt A s.toInt.toNat) (aNa A) 0 (begF A)) (aNl A) 0 0 else -2) else -2
theorem c_whiL {d : Nat} (hd : d < 4) (hz : aSz A d = aNa A) : ∀ (k j : Nat) (v : Int32) (τ : St), j + k = aNl A → CS M A τ → (∀ τ', CS M A τ' → posti (bitF (fun t => oilL A (aLw A t) (aIt A d) (aNa A) 0 (begF A)) k j v) τ') → wl_X6_which_28 M posti (k + 1) (some (45 + 2 * d)) v (nI j) τ := by
  intro k
  induction k with
  | zero =>
    intro j v τ hj hA h
    have hj : j = aNl A := hj
    subst hj
    have c3 := hA.2.2.1.1
    show w_X6_which_28 M posti _ (some (45 + 2 * d)) v (nI (aNl A)) τ
    unfold w_X6_which_28
    rw [c3]
    exact br_t (Int32.le_refl _) (h τ hA)
  | succ k ih =>
    intro j v τ hj hA h
    have c3 := hA.2.2.1.1
    have h6 := hA.2.2.1.2.1
    have hM := hA.2.2.2.2.2.2.2.1
    show w_X6_which_28 M posti _ (some (45 + 2 * d)) v (nI j) τ
    unfold w_X6_which_28
    rw [c3]
    unfold bitF at h
    refine br_f (nI_ge (by omega) (by omega)) ⟨_, rfl, kdSh hM hd, c_oil hd hz (by omega) hA (fun τ1 h1 => ⟨fun c x6 e6 => ?_, fun c x7 e7 => ?_⟩)⟩
    · rw [if_pos c] at h
      rw [e6, nI_1]; exact ih (j + 1) _ τ1 (by omega) h1 h
    · rw [if_neg c] at h
      rw [e7, nI_1]; exact ih (j + 1) _ τ1 (by omega) h1 h
theorem m_whiL (hV : Bd A) (hW : VA A) {d : Nat} (hd : d < 4) : ∀ (k j x : Nat) (v : Int32) (τ : St), j + k = aNl A → MS (lnA A x) τ → (∀ τ', MS A τ' → posti (bitF (fun t => oilL A (aLw A t) (aIt A d) (aNa A) 0 (begF A)) k j v) τ') → wl_X7_which_24 20 posti (k + 1) (nI d) (nI (aLn A)) v (nI j) τ := by
  have h6 := hV.2.2.1
  intro k
  induction k with
  | zero =>
    intro j x v τ hj hA h
    have hj : j = aNl A := hj
    subst hj
    have c3 : gi τ 0 5 = nI (aNl A) := hA.2.2.1.1
    show w_X7_which_24 20 posti _ (nI d) (nI (aLn A)) v (nI (aNl A)) τ
    unfold w_X7_which_24
    rw [c3]
    refine br_t (Int32.le_refl _) (fun σ2 e2 => h σ2 ?_)
    rw [e2]
    exact MS_lnA (y := aLn A) hA
  | succ k ih =>
    intro j x v τ hj hA h
    have c3 : gi τ 0 5 = nI (aNl A) := hA.2.2.1.1
    show w_X7_which_24 20 posti _ (nI d) (nI (aLn A)) v (nI j) τ
    unfold w_X7_which_24
    rw [c3]
    unfold bitF at h
    refine br_f (nI_ge (by omega) (by omega)) (fun σ3 e3 => ?_)
    have h1 : MS (lnA A j) σ3 := by rw [e3]; exact MS_lnA (y := j) hA
    have hV1 : Bd (lnA A j) := ⟨hV.1, hV.2.1, hV.2.2.1, by show j < aNl A; omega⟩
    have hW1 : VA (lnA A j) := VA_lw hW (Nat.le_refl _)
    refine m_oil hV1 hW1 hd h1 (fun τ1 h2 => ?_)
    have e : oilL (lnA A j) (lawF (lnA A j)) (aIt (lnA A j) d) (aNa (lnA A j)) 0 (begF (lnA A j)) = oilL A (aLw A j) (aIt A d) (aNa A) 0 (begF A) := oilL_ln (aNa A) 0 _
    rw [e]
    refine ⟨fun c x7 e7 => ?_, fun c x8 e8 => ?_⟩
    · rw [if_pos c] at h
      rw [e7, nI_1, Int32.or_zero]; exact ih (j + 1) _ _ τ1 (by omega) h2 h
    · rw [if_neg c] at h
      rw [e8, nI_1]; exact ih (j + 1) _ _ τ1 (by omega) h2 h
theorem c_which (hA : CS M A τ) {s : Int32} (h : ∀ τ', CS M A τ' → posti (whichF A s) τ') : w_X6_which M posti s τ := by
  unfold whichF at h
  unfold w_X6_which
  refine c_shAt hA (fun d hd hs ed hk => ?_) (fun q => ?_)
  · rw [if_pos hs, ed, i_nI (by omega)] at h
    refine c_refuse hd hA (fun c => ⟨fun q => (by cases q), fun o q => ?_⟩) (fun c c2 => ⟨fun q => (by cases q), fun o q => ?_⟩) (fun c c2 => ⟨fun q => (by cases q), fun o q => ?_⟩)
    · cases q
      rw [if_pos c] at h
      exact ⟨hk, br_f (by decide) (h τ hA)⟩
    · cases q
      rw [if_neg c, if_pos c2] at h
      exact ⟨hk, br_t rfl ⟨aNl A + 1, c_whiL hd c2 (aNl A) 0 0 τ (by omega) hA h⟩⟩
    · cases q
      rw [if_neg c, if_neg c2] at h
      exact ⟨hk, br_f (by decide) (h τ hA)⟩
  · rw [if_neg q] at h
    unfold w_X6_refusedAsTest
    exact ⟨fun _ => ⟨fun _ => h τ hA, fun o z => (by cases z)⟩, fun o z => (by cases z)⟩
theorem m_which (hZ : ∀ d, d < 4 → aSz A d ≤ 40) (hV : Bd A) (hW : VA A) (hA : MS A τ) {s : Int32} (h : ∀ τ', MS A τ' → posti (whichF A s) τ') : w_X7_which 20 posti s τ := by
  have m3b := hA.2.2.1.2.1
  unfold whichF at h
  unfold w_X7_which
  refine m_refuse hZ hV hW hA (fun q => ?_) (fun d hd hs ed c => ?_) (fun d hd hs ed c c2 => ?_) (fun d hd hs ed c c2 => ?_)
  · rw [if_neg q] at h
    exact br_f (by decide) (m_refuse hZ hV hW hA (fun _ => h τ hA) (fun d _ hs => absurd hs q) (fun d _ hs => absurd hs q) (fun d _ hs => absurd hs q))
  · rw [if_pos hs, ed, i_nI (by omega), if_pos c] at h
    refine br_f (by decide) (m_refuse hZ hV hW hA (fun q => absurd hs q) (fun _ _ _ _ _ => h τ hA) (fun d' hd' _ e' c' => ?_) (fun d' hd' _ e' c' => ?_))
    · rw [ed, nI_inj (by omega) (by omega)] at e'; subst e'; exact absurd c c'
    · rw [ed, nI_inj (by omega) (by omega)] at e'; subst e'; exact absurd c c'
  · rw [if_pos hs, ed, i_nI (by omega), if_neg c, if_pos c2] at h
    rw [ed, m3b]
    exact br_t (by decide) ⟨aNl A + 1, m_whiL hV hW hd (aNl A) 0 (aLn A) 0 τ (by omega) hA h⟩
  · rw [if_pos hs, ed, i_nI (by omega), if_neg c, if_neg c2] at h
    refine br_f (by decide) (m_refuse hZ hV hW hA (fun q => absurd hs q) (fun d' hd' _ e' c' => ?_) (fun d' hd' _ e' c' c2' => ?_) (fun _ _ _ _ _ _ => h τ hA))
    · rw [ed, nI_inj (by omega) (by omega)] at e'; subst e'; exact absurd c' c
    · rw [ed, nI_inj (by omega) (by omega)] at e'; subst e'; exact absurd c2' c2
/-! ages -/
def bitL (g : Nat → Int32) : Nat → Nat → Int64 → Int64
  | 0, _, v => v
  | n + 1, j, v => bitL g n (j + 1) (if g j = 0 then v else v ||| ((1 : Int64) <<< (Int32.toInt64 (nI j) &&& 63)))
def ageG (A : Ab) (c d w : Nat) : Int32 := oilL (wkA A c (nI w)) (lawF A) (aIt A d) (aNa A) 0 (begF A)
def agesF (A : Ab) (s t : Int32) : Int64 := if isC A s ∧ (0 ≤ t.toInt ∧ t.toInt ≤ 3) ∧ ¬ aSo A t.toInt.toNat = -1 ∧ aSz A t.toInt.toNat = aNa A then bitL (ageG A s.toInt.toNat t.toInt.toNat) 60 1 0 else -4611686018427387904
theorem c_agesL {c d : Nat} (hc : c < aNc A) (hd : d < 4) (hz : aSz A d = aNa A) : ∀ (k j : Nat) (v : Int64) (x : Int32) (τ : St), j + k = 61 → CS M (wkA A c x) τ → (∀ τ', CS M A τ' → postl (bitL (ageG A c d) k j v) τ') → wl_X6_ages_48 M postl (k + 1) (some (17 + 4 * c)) (some (45 + 2 * d)) (aCh A c 0) v (nI j) τ := by
  intro k
  induction k with
  | zero =>
    intro j v x τ hj hA h
    have hj : j = 61 := hj
    subst hj
    have hk := kdCh hA.2.2.2.2.2.2.2.1 (i := c) (by have := hA.1.2.1; have : aNc A ≤ 4 := this; omega)
    show w_X6_ages_48 M postl _ (some (17 + 4 * c)) (some (45 + 2 * d)) (aCh A c 0) v (nI 61) τ
    unfold w_X6_ages_48
    refine br_t (by decide) ⟨_, rfl, hk, c_put5 hk (by decide) ?_⟩
    rw [show (0 : Int32).toInt.toNat = 0 by decide, show 17 + 4 * c + 1 = 18 + 4 * c by omega]
    exact h _ (CS_wk1 (CS_wk (v := aCh A c 0) hc hA))
  | succ k ih =>
    intro j v x τ hj hA h
    have hM := hA.2.2.2.2.2.2.2.1
    have hk := kdCh hM (i := c) (by have := hA.1.2.1; have : aNc A ≤ 4 := this; omega)
    show w_X6_ages_48 M postl _ (some (17 + 4 * c)) (some (45 + 2 * d)) (aCh A c 0) v (nI j) τ
    unfold w_X6_ages_48
    refine br_f (nI_nlt (a := 60) (b := j) (by omega) (by decide)) ⟨_, rfl, hk, c_put5 hk (by decide) ⟨_, rfl, kdSh hM hd, ?_⟩⟩
    rw [show (0 : Int32).toInt.toNat = 0 by decide, show 17 + 4 * c + 1 = 18 + 4 * c by omega]
    have h1 := CS_wk (v := nI j) hc hA
    have g6 := h1.2.2.1.2.2.1
    rw [g6]
    unfold bitL at h
    refine c_oil (A := wkA A c (nI j)) hd hz h1.2.2.1.2.2.2.1 h1 (fun τ1 h2 => ⟨fun q x10 e10 => ?_, fun q y11 e11 x12 e12 => ?_⟩)
    · rw [if_pos (show ageG A c d j = 0 from q)] at h
      rw [e10, nI_1]; exact ih (j + 1) _ _ τ1 (by omega) h2 h
    · rw [if_neg (show ¬ ageG A c d j = 0 from q)] at h
      rw [e12, e11, nI_1]; exact ih (j + 1) _ _ τ1 (by omega) h2 h
theorem m_agesL (hV : Bd A) (hW : VA A) {c d : Nat} (hc : c < aNc A) (hd : d < 4) : ∀ (k j : Nat) (v : Int64) (x : Int32) (τ : St), j + k = 61 → MS (wkA A c x) τ → (∀ τ', MS A τ' → postl (bitL (ageG A c d) k j v) τ') → wl_X7_ages_35 20 postl (k + 1) (nI c) (nI d) (aCh A c 0) v (nI j) τ := by
  have h4 := hV.1
  have e5 : 5 * nI c = nI (5 * c) := i_mul (a := 5)
  intro k
  induction k with
  | zero =>
    intro j v x τ hj hA h
    have hj : j = 61 := hj
    subst hj
    show w_X7_ages_35 20 postl _ (nI c) (nI d) (aCh A c 0) v (nI 61) τ
    unfold w_X7_ages_35
    rw [e5, nI_clamp (by omega)]
    refine br_t (by decide) ⟨vp_in_nI (by omega) (by decide), fun σ2 e2 => h σ2 ?_⟩
    rw [e2]; exact MS_wk1 (MS_wk (v := aCh A c 0) hA)
  | succ k ih =>
    intro j v x τ hj hA h
    have ej := nI_toInt (n := j) (by omega)
    show w_X7_ages_35 20 postl _ (nI c) (nI d) (aCh A c 0) v (nI j) τ
    unfold w_X7_ages_35
    rw [e5, nI_clamp (by omega)]
    unfold bitL at h
    refine br_f (nI_nlt (a := 60) (b := j) (by omega) (by decide)) ⟨vp_in_nI (by omega) (by decide), fun σ3 e3 => ?_⟩
    have h1 : MS (wkA A c (nI j)) σ3 := by rw [e3]; exact MS_wk (v := nI j) hA
    have hW1 : VA (wkA A c (nI j)) := VA_wk hW (by omega)
    refine m_oil (A := wkA A c (nI j)) hV hW1 hd h1 (fun τ1 h2 => ⟨fun q x7 e7 => ?_, fun q y8 e8 x9 e9 => ?_⟩)
    · rw [if_pos (show ageG A c d j = 0 from q)] at h
      rw [e7, nI_1, Int64.or_zero]; exact ih (j + 1) _ _ τ1 (by omega) h2 h
    · rw [if_neg (show ¬ ageG A c d j = 0 from q)] at h
      rw [e9, e8, nI_1]; exact ih (j + 1) _ _ τ1 (by omega) h2 h
theorem c_ages (hA : CS M A τ) {s t : Int32} (h : ∀ τ', CS M A τ' → postl (agesF A s t) τ') : w_X6_ages M postl s t τ := by
  have hb := hA.1.2.1
  unfold agesF at h
  have bad : ¬ (isC A s ∧ (0 ≤ t.toInt ∧ t.toInt ≤ 3) ∧ ¬ aSo A t.toInt.toNat = -1 ∧ aSz A t.toInt.toNat = aNa A) → postl (-4611686018427387904) τ := fun q => by rw [if_neg q] at h; exact h τ hA
  unfold w_X6_ages
  refine c_chAt hA (fun j hj hs e hk => c_shAt hA (fun d hd ht ed hkd => ⟨fun q => (by cases q), fun o q => ?_⟩) (fun q => ⟨fun z => (by cases z), fun o z => ?_⟩)) (fun q => c_shAt hA (fun _ _ _ _ _ => ⟨fun _ => bad (fun z => q z.1), fun o z => (by cases z)⟩) (fun _ => ⟨fun _ => bad (fun z => q z.1), fun o z => (by cases z)⟩))
  · cases q
    refine ⟨hk, fun q => (by cases q), fun o q => ?_⟩
    cases q
    have et : t.toInt.toNat = d := by rw [ed]; exact i_nI (by omega)
    rw [et] at h bad
    refine ⟨hkd, c_refuse hd hA (fun c => br_f (by decide) (bad (fun z => z.2.2.1 c))) (fun c c2 => br_t rfl (c_tell5 hk (by decide) ?_)) (fun c c2 => br_f (by decide) (bad (fun z => c2 z.2.2.2)))⟩
    rw [if_pos ⟨hs, ht, c, c2⟩, e, i_nI (by omega)] at h
    rw [show (0 : Int32).toInt.toNat = 0 by decide, show 17 + 4 * j + 1 = 18 + 4 * j by omega, hA.1.2.2 j 0 hj (by decide)]
    exact ⟨61, c_agesL hj hd c2 60 1 0 _ τ rfl (CS_wk0 hA) h⟩
  · cases z
    exact ⟨hk, fun _ => bad (fun z => q z.2.1), fun o z => (by cases z)⟩
theorem m_ages (hZ : ∀ d, d < 4 → aSz A d ≤ 40) (hV : Bd A) (hW : VA A) (hA : MS A τ) {s t : Int32} (h : ∀ τ', MS A τ' → postl (agesF A s t) τ') : w_X7_ages 20 postl s t τ := by
  have hb := hV.1
  unfold agesF at h
  have bad : ¬ (isC A s ∧ (0 ≤ t.toInt ∧ t.toInt ≤ 3) ∧ ¬ aSo A t.toInt.toNat = -1 ∧ aSz A t.toInt.toNat = aNa A) → postl (-4611686018427387904) τ := fun q => by rw [if_neg q] at h; exact h τ hA
  unfold w_X7_ages
  refine m_isCh hV hA (fun j hj hs e => br_f (by decide) (m_refuse hZ hV hW hA (fun q => br_f (by decide) (bad (fun z => q z.2.1))) (fun d hd ht ed c => ?_) (fun d hd ht ed c c2 => ?_) (fun d hd ht ed c c2 => ?_))) (fun q => br_t rfl (bad (fun z => q z.1)))
  · have et : t.toInt.toNat = d := by rw [ed]; exact i_nI (by omega)
    rw [et] at bad
    exact br_f (by decide) (bad (fun z => z.2.2.1 c))
  · have et : t.toInt.toNat = d := by rw [ed]; exact i_nI (by omega)
    rw [et, if_pos ⟨hs, ht, c, c2⟩, e, i_nI (by omega)] at h
    have e5 : 5 * nI j = nI (5 * j) := i_mul (a := 5)
    have eg : gi τ 1 (5 * j) = aCh A j 0 := hA.1.2 j 0 hj (by decide)
    rw [e, e5, nI_clamp (by omega), eg, ed]
    refine br_t (by decide) ⟨vp_in_nI (by omega) (by decide), fun x7 e7 => ?_⟩
    rw [e7]
    exact ⟨61, m_agesL hV hW hj hd 60 1 0 _ τ rfl (MS_wk0 hA) h⟩
  · have et : t.toInt.toNat = d := by rw [ed]; exact i_nI (by omega)
    rw [et] at bad
    exact br_f (by decide) (bad (fun z => c2 z.2.2.2))
end TESTS
