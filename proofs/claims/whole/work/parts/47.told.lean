/-! whether it holds with other flames, wines, sours -/
theorem PIr_low {P : Pt} {k m : Nat} (h : PIr 21 1600 P) (hk : k ≤ 21) (hm : m ≤ 1600) : PIr k m P := PIr_mono h hk hm
def hwF (A : Ab) (a b c : Int32) : Int32 := holdF (actsF A (lawF A) 0 (aNa A) (startF a b c))
theorem nar01 (P : Pt) : narrow .boolean (.int (holdF P)) = .int (holdF P) := by
  rcases hold_01 P with e | e
  · rw [e]; rfl
  · rw [e]; rfl
theorem actsF_td {A : Ab} {f : Nat → Int32} {L : Lw} : ∀ (k i : Nat) (P : Pt), actsF (sTd A f) L i k P = actsF A L i k P := by
  intro k
  induction k with
  | zero => intro i P; rfl
  | succ k ih => intro i P; exact ih (i + 1) _
theorem sTd_back {A : Ab} {f : Nat → Int32} : sTd (sTd A f) (aTd A) = A := rfl
theorem sTd_td {A : Ab} {f g : Nat → Int32} : sTd (sTd A f) g = sTd A g := rfl
/-- how many of n from j on are not 0 -/
def cntN (g : Nat → Int32) : Nat → Nat → Nat → Nat
  | 0, _, v => v
  | n + 1, j, v => cntN g n (j + 1) (if g j = 0 then v else v + 1)
def bitF (g : Nat → Int32) : Nat → Nat → Int32 → Int32
  | 0, _, v => v
  | n + 1, j, v => bitF g n (j + 1) (if g j = 0 then v else v ||| (1 <<< (nI j &&& 31)))
theorem cntN_add (g : Nat → Int32) (b : Nat) : ∀ (a j v : Nat), cntN g (a + b) j v = cntN g b (j + a) (cntN g a j v) := by
  intro a
  induction a with
  | zero => intro j v; rw [Nat.zero_add]; rfl
  | succ a ih =>
    intro j v
    rw [show a + 1 + b = (a + b) + 1 by omega]
    show cntN g (a + b) (j + 1) _ = cntN g b (j + (a + 1)) (cntN g a (j + 1) _)
    rw [ih, show j + 1 + a = j + (a + 1) by omega]
theorem cntN_le (g : Nat → Int32) : ∀ (a j v : Nat), v ≤ cntN g a j v ∧ cntN g a j v ≤ v + a := by
  intro a
  induction a with
  | zero => intro j v; exact ⟨Nat.le_refl _, Nat.le_refl _⟩
  | succ a ih =>
    intro j v
    show v ≤ cntN g a (j + 1) (if g j = 0 then v else v + 1) ∧ cntN g a (j + 1) (if g j = 0 then v else v + 1) ≤ v + (a + 1)
    by_cases c : g j = 0
    · rw [if_pos c]; have := ih (j + 1) v; omega
    · rw [if_neg c]; have := ih (j + 1) (v + 1); omega
theorem cntN_congr {g g' : Nat → Int32} : ∀ (a j v : Nat), (∀ i, j ≤ i → i < j + a → g i = g' i) → cntN g a j v = cntN g' a j v := by
  intro a
  induction a with
  | zero => intro j v _; rfl
  | succ a ih =>
    intro j v h
    show cntN g a (j + 1) (if g j = 0 then v else v + 1) = cntN g' a (j + 1) (if g' j = 0 then v else v + 1)
    rw [h j (Nat.le_refl _) (by omega)]
    exact ih _ _ (fun i h1 h2 => h i (by omega) (by omega))
theorem i_div {a b : Nat} (ha : a < 2 ^ 31) (hb : 0 < b) (hb2 : b < 2 ^ 31) : nI a / nI b = nI (a / b) := by
  refine ieq.mpr ?_
  have h : a / b ≤ a := Nat.div_le_self a b
  rw [idv (by rw [nI_toInt ha]; omega) (by rw [nI_toInt hb2]; omega), nI_toInt ha, nI_toInt hb2, nI_toInt (by omega)]
  rfl
theorem i_mul {a b : Nat} : nI a * nI b = nI (a * b) := (Int32.ofNat_mul a b).symm
theorem i_mod {a b : Nat} (ha : a < 2 ^ 31) (hb : 0 < b) (hb2 : b < 2 ^ 31) : nI a - nI a / nI b * nI b = nI (a % b) := by
  rw [i_div ha hb hb2, i_mul, nI_sub' (Nat.div_mul_le_self a b)]
  congr 1
  have := Nat.div_add_mod a b
  rw [Nat.mul_comm] at this
  omega
section TOLD
variable {M : Nat} {A : Ab} {post : St → Prop} {posti : Int32 → St → Prop} {postl : Int64 → St → Prop} {τ : St} {P : Pt}
theorem c_hW (hA : CS M A τ) {a b c : Int32} (h : ∀ τ', CS M A τ' → posti (hwF A a b c) τ') : w_X6_holdsWith M posti a b c τ := by
  obtain ⟨-, -, ⟨c3, c3b, c3c, c3d, c3e⟩, -⟩ := id hA
  unfold w_X6_holdsWith
  rw [c3c]
  refine c_lawAt hA c3d (k_begin hA c3d (fun τ1 h1 => ?_))
  refine k_runActs h1.1 h1.2.1 (Nat.zero_le (aNa A)) (Nat.le_refl _) rfl (CS_na h1.1) (fun τ2 h2 => k_holds (Or.inl rfl) h2.1 h2.2.1 ⟨nar01 _, h τ2 h2.1⟩)
theorem m_hIA (hV : Bd A) (hW : VA A) (hA : MS A τ) (h : ∀ τ', MS A τ' → posti (holdF (cookF A (aNa A))) τ') : w_X7_holdsInAll 20 posti τ := by
  unfold w_X7_holdsInAll
  refine km_goes hV hW hA (Nat.le_refl _) (MS_na hA) (fun τ1 h1 => q_holds hV h1.1 h1.2.1 (PIr_cook hV hW (Nat.le_refl _)) (fun τ2 h2 => ⟨nar01 _, h τ2 h2.1⟩))
theorem MS_told (hA : MS A τ) {f : Nat → Int32} {j : Nat} {v : Int32} (hA' : MS (sTd A f) τ) : MS (sTd A (upN f j v)) (si τ 2 j v) := by
  refine MS_td (A := A) (f := upN f j v) (σ := τ) (τ := si τ 2 j v) ?_ ?_ ?_
  · exact hA
  · exact fun a k _ h2 => gso h2
  · intro k hk
    by_cases e : k = j
    · subst e; rw [gss]; exact upN_s.symm
    · rw [gsk e]; exact (hA'.2.2.2.1 k hk).trans (upN_n e).symm
theorem MS_told' {f : Nat → Int32} {j : Nat} {v : Int32} (hA' : MS (sTd A f) τ) : MS (sTd A (upN f j v)) (si τ 2 j v) := by
  refine MS_td (A := sTd A f) (f := upN f j v) (σ := τ) (τ := si τ 2 j v) hA' (fun a k _ h2 => gso h2) (fun k hk => ?_)
  by_cases e : k = j
  · subst e; rw [gss]; exact upN_s.symm
  · rw [gsk e]; exact (hA'.2.2.2.1 k hk).trans (upN_n e).symm
theorem MS_told0 (hA : MS A τ) {j : Nat} {v : Int32} : MS (sTd A (upN (aTd A) j v)) (si τ 2 j v) := MS_told' (f := aTd A) hA
theorem MS_congr {f g : Nat → Int32} (h : MS (sTd A f) τ) (hfg : ∀ k, k < 3 → f k = g k) : MS (sTd A g) τ :=
  MS_td (A := sTd A f) h (fun _ _ _ _ => rfl) (fun k hk => (h.2.2.2.1 k hk).trans (hfg k hk))
theorem m_hW (hV : Bd A) (hW : VA A) (hA : MS A τ) {a c : Int32} (ha : 0 ≤ a.toInt ∧ a.toInt ≤ 9) (hc : 0 ≤ c.toInt ∧ c.toInt ≤ 9) (h : ∀ τ', MS A τ' → posti (hwF A a (aTd A 1) c) τ') : w_X7_holdsWith 20 posti a c τ := by
  unfold w_X7_holdsWith
  intro σ1 e1 σ2 e2
  have h1 : MS (sTd A (upN (aTd A) 0 a)) σ1 := by rw [e1]; exact MS_told0 hA
  have h2 : MS (sTd A (upN (upN (aTd A) 0 a) 2 c)) σ2 := by rw [e2]; exact MS_told' h1
  have hok : okT (upN (upN (aTd A) 0 a) 2 c) := okT_up (okT_up hW.2.2.1 (by decide) ha) (by decide) hc
  have hW2 : VA (sTd A (upN (upN (aTd A) 0 a) 2 c)) := VA_td hW hok
  refine m_hIA (A := sTd A (upN (upN (aTd A) 0 a) 2 c)) hV hW2 h2 (fun τ1 k1 => ?_)
  intro σ5 e5 σ6 e6
  have k5 := MS_told' (j := 0) (v := gi τ 2 0) k1
  rw [← e5] at k5
  have k6 := MS_told' (j := 2) (v := gi τ 2 2) k5
  rw [← e6] at k6
  have k7 : MS (sTd A (aTd A)) σ6 := MS_congr k6 (fun k hk => by
    have g0 := hA.2.2.2.1 0 (by decide)
    have g2 := hA.2.2.2.1 2 (by decide)
    rcases (show k = 0 ∨ k = 1 ∨ k = 2 by omega) with rfl | rfl | rfl
    · rw [upN_n (by decide), upN_s]; exact g0
    · rw [upN_n (by decide), upN_n (by decide), upN_n (by decide), upN_n (by decide)]
    · rw [upN_s]; exact g2)
  refine ⟨nar01 _, ?_⟩
  have e : cookF (sTd A (upN (upN (aTd A) 0 a) 2 c)) (aNa (sTd A (upN (upN (aTd A) 0 a) 2 c))) = actsF A (lawF A) 0 (aNa A) (startF a (aTd A 1) c) := actsF_td (aNa A) 0 _
  rw [e]
  exact h σ6 k7
/-! flames and sours -/
theorem c_flamesL (hA0 : CS M A τ) : ∀ (k j : Nat) (v : Int32) (τ : St), j + k = 10 → CS M A τ → (∀ τ', CS M A τ' → posti (bitF (fun j => hwF A (nI j) (aTd A 1) (aTd A 2)) k j v) τ') → wl_X6_flames_4 M posti (k + 1) v (nI j) τ := by
  intro k
  induction k with
  | zero =>
    intro j v τ hj hA h
    have hj : j = 10 := hj
    subst hj
    exact br_t (by decide) (h τ hA)
  | succ k ih =>
    intro j v τ hj hA h
    show w_X6_flames_4 M posti _ v (nI j) τ
    unfold w_X6_flames_4
    rw [hA.2.2.2.1 1 (by decide), hA.2.2.2.1 2 (by decide)]
    refine br_f (nI_nlt (a := 9) (b := j) (by omega) (by decide)) (c_hW hA (fun τ1 h1 => ⟨fun c x5 e5 => ?_, fun c x6 e6 => ?_⟩))
    · unfold bitF at h; rw [if_pos c] at h
      rw [e5, nI_1]; exact ih (j + 1) _ τ1 (by omega) h1 h
    · unfold bitF at h; rw [if_neg c] at h
      rw [e6, nI_1]; exact ih (j + 1) _ τ1 (by omega) h1 h
theorem m_flamesL (hV : Bd A) (hW : VA A) : ∀ (k j : Nat) (v : Int32) (τ : St), j + k = 10 → MS A τ → (∀ τ', MS A τ' → posti (bitF (fun j => hwF A (nI j) (aTd A 1) (aTd A 2)) k j v) τ') → wl_X7_flames_4 20 posti (k + 1) v (nI j) τ := by
  intro k
  induction k with
  | zero =>
    intro j v τ hj hA h
    have hj : j = 10 := hj
    subst hj
    exact br_t (by decide) (h τ hA)
  | succ k ih =>
    intro j v τ hj hA h
    have ej := nI_toInt (n := j) (by omega)
    show w_X7_flames_4 20 posti _ v (nI j) τ
    unfold w_X7_flames_4
    rw [hA.2.2.2.1 2 (by decide)]
    refine br_f (nI_ge (b := 10) (by omega) (by decide)) (m_hW hV hW hA (by omega) hW.2.2.1.2.2 (fun τ1 h1 => ⟨fun c x5 e5 => ?_, fun c x6 e6 => ?_⟩))
    · unfold bitF at h; rw [if_pos c] at h
      rw [e5, nI_1, Int32.or_zero]; exact ih (j + 1) _ τ1 (by omega) h1 h
    · unfold bitF at h; rw [if_neg c] at h
      rw [e6, nI_1]; exact ih (j + 1) _ τ1 (by omega) h1 h
theorem c_soursL (hA0 : CS M A τ) : ∀ (k j : Nat) (v : Int32) (τ : St), j + k = 10 → CS M A τ → (∀ τ', CS M A τ' → posti (bitF (fun j => hwF A (aTd A 0) (aTd A 1) (nI j)) k j v) τ') → wl_X6_sours_4 M posti (k + 1) v (nI j) τ := by
  intro k
  induction k with
  | zero =>
    intro j v τ hj hA h
    have hj : j = 10 := hj
    subst hj
    exact br_t (by decide) (h τ hA)
  | succ k ih =>
    intro j v τ hj hA h
    show w_X6_sours_4 M posti _ v (nI j) τ
    unfold w_X6_sours_4
    rw [hA.2.2.2.1 1 (by decide), hA.2.2.2.1 0 (by decide)]
    refine br_f (nI_nlt (a := 9) (b := j) (by omega) (by decide)) (c_hW hA (fun τ1 h1 => ⟨fun c x5 e5 => ?_, fun c x6 e6 => ?_⟩))
    · unfold bitF at h; rw [if_pos c] at h
      rw [e5, nI_1]; exact ih (j + 1) _ τ1 (by omega) h1 h
    · unfold bitF at h; rw [if_neg c] at h
      rw [e6, nI_1]; exact ih (j + 1) _ τ1 (by omega) h1 h
theorem m_soursL (hV : Bd A) (hW : VA A) : ∀ (k j : Nat) (v : Int32) (τ : St), j + k = 10 → MS A τ → (∀ τ', MS A τ' → posti (bitF (fun j => hwF A (aTd A 0) (aTd A 1) (nI j)) k j v) τ') → wl_X7_sours_4 20 posti (k + 1) v (nI j) τ := by
  intro k
  induction k with
  | zero =>
    intro j v τ hj hA h
    have hj : j = 10 := hj
    subst hj
    exact br_t (by decide) (h τ hA)
  | succ k ih =>
    intro j v τ hj hA h
    have ej := nI_toInt (n := j) (by omega)
    show w_X7_sours_4 20 posti _ v (nI j) τ
    unfold w_X7_sours_4
    rw [hA.2.2.2.1 0 (by decide)]
    refine br_f (nI_ge (b := 10) (by omega) (by decide)) (m_hW hV hW hA hW.2.2.1.1 (by omega) (fun τ1 h1 => ⟨fun c x5 e5 => ?_, fun c x6 e6 => ?_⟩))
    · unfold bitF at h; rw [if_pos c] at h
      rw [e5, nI_1, Int32.or_zero]; exact ih (j + 1) _ τ1 (by omega) h1 h
    · unfold bitF at h; rw [if_neg c] at h
      rw [e6, nI_1]; exact ih (j + 1) _ τ1 (by omega) h1 h
def flamesF (A : Ab) : Int32 := bitF (fun j => hwF A (nI j) (aTd A 1) (aTd A 2)) 10 0 0
def soursF (A : Ab) : Int32 := bitF (fun j => hwF A (aTd A 0) (aTd A 1) (nI j)) 10 0 0
theorem c_flames (hA : CS M A τ) (h : ∀ τ', CS M A τ' → posti (flamesF A) τ') : w_X6_flames M posti τ := ⟨11, c_flamesL hA 10 0 0 τ rfl hA h⟩
theorem m_flames (hV : Bd A) (hW : VA A) (hA : MS A τ) (h : ∀ τ', MS A τ' → posti (flamesF A) τ') : w_X7_flames 20 posti τ := ⟨11, m_flamesL hV hW 10 0 0 τ rfl hA h⟩
theorem c_sours (hA : CS M A τ) (h : ∀ τ', CS M A τ' → posti (soursF A) τ') : w_X6_sours M posti τ := ⟨11, c_soursL hA 10 0 0 τ rfl hA h⟩
theorem m_sours (hV : Bd A) (hW : VA A) (hA : MS A τ) (h : ∀ τ', MS A τ' → posti (soursF A) τ') : w_X7_sours 20 posti τ := ⟨11, m_soursL hV hW 10 0 0 τ rfl hA h⟩
/-! all flames and sours -/
def regG (A : Ab) (k : Nat) : Int32 := hwF A (nI (k / 10)) (aTd A 1) (nI (k % 10))
def regionF (A : Ab) : Int32 := nI (cntN (regG A) 100 0 0)
theorem c_regI {f : Nat} (hf : f < 10) {k4 : Int32 → Int32 → St → Prop} : ∀ (k s v : Nat) (τ : St), s + k = 10 → CS M A τ → (∀ τ', CS M A τ' → k4 (nI (cntN (regG A) k (10 * f + s) v)) (nI (f + 1)) τ') → wl_X6_region_15 M posti k4 (k + 1) (nI v) (nI f) (nI s) τ := by
  intro k
  induction k with
  | zero =>
    intro s v τ hs hA h
    have hs : s = 10 := hs
    subst hs
    show w_X6_region_15 M posti k4 _ (nI v) (nI f) (nI 10) τ
    unfold w_X6_region_15
    refine br_t (by decide) (fun x2 e2 => ?_)
    rw [e2, nI_1]; exact h τ hA
  | succ k ih =>
    intro s v τ hs hA h
    show w_X6_region_15 M posti k4 _ (nI v) (nI f) (nI s) τ
    unfold w_X6_region_15
    rw [hA.2.2.2.1 1 (by decide)]
    unfold cntN at h
    have eg : regG A (10 * f + s) = hwF A (nI f) (aTd A 1) (nI s) := by
      unfold regG
      rw [show (10 * f + s) / 10 = f by omega, show (10 * f + s) % 10 = s by omega]
    rw [eg] at h
    refine br_f (nI_nlt (a := 9) (b := s) (by omega) (by decide)) (c_hW hA (fun τ1 h1 => ⟨fun c x5 e5 => ?_, fun c x7 e7 x8 e8 => ?_⟩))
    · rw [if_pos c] at h
      rw [e5, nI_1]; exact ih (s + 1) v τ1 (by omega) h1 h
    · rw [if_neg c] at h
      rw [e8, e7, nI_1, nI_1]; exact ih (s + 1) (v + 1) τ1 (by omega) h1 h
theorem c_regO : ∀ (k f v : Nat) (τ : St), f + k = 10 → CS M A τ → (∀ τ', CS M A τ' → posti (nI (cntN (regG A) (10 * k) (10 * f) v)) τ') → wl_X6_region_4 M posti (k + 1) (nI v) (nI f) τ := by
  intro k
  induction k with
  | zero =>
    intro f v τ hf hA h
    have hf : f = 10 := hf
    subst hf
    exact br_t (by decide) (h τ hA)
  | succ k ih =>
    intro f v τ hf hA h
    show w_X6_region_4 M posti _ (nI v) (nI f) τ
    unfold w_X6_region_4
    refine br_f (nI_nlt (a := 9) (b := f) (by omega) (by decide)) ⟨11, c_regI (f := f) (by omega) 10 0 v τ (by omega) hA (fun τ1 h1 => ?_)⟩
    refine ih (f + 1) _ τ1 (by omega) h1 (fun τ2 h2 => ?_)
    have h := h τ2 h2
    rw [show 10 * (k + 1) = 10 + 10 * k by omega, cntN_add] at h
    rw [show 10 * f + 0 = 10 * f by omega, show 10 * (f + 1) = 10 * f + 10 by omega]
    exact h
theorem m_regL (hV : Bd A) (hW : VA A) : ∀ (k j v : Nat) (τ : St), j + k = 100 → MS A τ → (∀ τ', MS A τ' → posti (nI (cntN (regG A) k j v)) τ') → wl_X7_region_4 20 posti (k + 1) (nI v) (nI j) τ := by
  intro k
  induction k with
  | zero =>
    intro j v τ hj hA h
    have hj : j = 100 := hj
    subst hj
    exact br_t (by decide) (h τ hA)
  | succ k ih =>
    intro j v τ hj hA h
    show w_X7_region_4 20 posti _ (nI v) (nI j) τ
    unfold w_X7_region_4
    have ed : nI j / 10 = nI (j / 10) := i_div (b := 10) (by omega) (by decide) (by decide)
    have em : nI j - nI (j / 10) * 10 = nI (j % 10) := by rw [← ed]; exact i_mod (b := 10) (by omega) (by decide) (by decide)
    rw [ed, em]
    unfold cntN at h
    have e1 := nI_toInt (n := j / 10) (by omega)
    have e2 := nI_toInt (n := j % 10) (by omega)
    refine br_f (nI_ge (b := 100) (by omega) (by decide)) (m_hW hV hW hA (by omega) (by omega) (fun τ1 h1 => ⟨fun c x5 e5 => ?_, fun c x6 e6 => ?_⟩))
    · rw [show hwF A (nI (j / 10)) (aTd A 1) (nI (j % 10)) = regG A j from rfl] at c
      rw [if_pos c] at h
      rw [e5, nI_1, Int32.add_zero]; exact ih (j + 1) v τ1 (by omega) h1 h
    · rw [show hwF A (nI (j / 10)) (aTd A 1) (nI (j % 10)) = regG A j from rfl] at c
      rw [if_neg c] at h
      rw [e6, nI_1, nI_1]; exact ih (j + 1) (v + 1) τ1 (by omega) h1 h
theorem c_region (hA : CS M A τ) (h : ∀ τ', CS M A τ' → posti (regionF A) τ') : w_X6_region M posti τ := ⟨11, c_regO 10 0 0 τ rfl hA h⟩
theorem m_region (hV : Bd A) (hW : VA A) (hA : MS A τ) (h : ∀ τ', MS A τ' → posti (regionF A) τ') : w_X7_region 20 posti τ := ⟨101, m_regL hV hW 100 0 0 τ rfl hA h⟩
/-! the most wine -/
def mostL (A : Ab) : Nat → Nat → Int32 → Int32
  | 0, _, b => b
  | k + 1, j, b => if hwF A (aTd A 0) (nI j) (aTd A 2) = 0 then b else mostL A k (j + 1) (nI j)
def mostF (A : Ab) : Int32 := mostL A (100 - (aTd A 1).toInt.toNat) (aTd A 1).toInt.toNat (-1)
theorem c_mostL : ∀ (k j : Nat) (b : Int32) (τ : St), j + k = 100 → CS M A τ → (∀ τ', CS M A τ' → posti (mostL A k j b) τ') → wl_X6_most_9 M posti (k + 1) b (nI j) τ := by
  intro k
  induction k with
  | zero =>
    intro j b τ hj hA h
    have hj : j = 100 := hj
    subst hj
    exact br_t (by decide) (h τ hA)
  | succ k ih =>
    intro j b τ hj hA h
    show w_X6_most_9 M posti _ b (nI j) τ
    unfold w_X6_most_9
    rw [hA.2.2.2.1 0 (by decide), hA.2.2.2.1 2 (by decide)]
    unfold mostL at h
    refine br_f (nI_nlt (a := 99) (b := j) (by omega) (by decide)) (c_hW hA (fun τ1 h1 => ⟨fun c => ?_, fun c x5 e5 => ?_⟩))
    · rw [if_pos c] at h; exact h τ1 h1
    · rw [if_neg c] at h
      rw [e5, nI_1]; exact ih (j + 1) _ τ1 (by omega) h1 h
theorem c_most (hW : VA A) (hA : CS M A τ) (h : ∀ τ', CS M A τ' → posti (mostF A) τ') : w_X6_most M posti τ := by
  unfold mostF at h
  unfold w_X6_most
  rw [hA.2.2.2.1 1 (by decide)]
  obtain ⟨j, hj, e⟩ := as_nI (n := 99) hW.2.2.1.2.1
  rw [e, i_nI (by omega)] at h
  rw [e]
  exact ⟨100 - j + 1, c_mostL (100 - j) j (-1) τ (by omega) hA h⟩
theorem m_mostL (hV : Bd A) (hW : VA A) : ∀ (k j : Nat) (b : Int32) (f : Nat → Int32) (τ : St), j + k = 100 → MS (sTd A f) τ → f 0 = aTd A 0 → f 2 = aTd A 2 → (∀ τ', MS A τ' → posti (mostL A k j b) τ') → wl_X7_most_14 20 posti (k + 2) (aTd A 1) b 1 (nI j) τ := by
  intro k
  induction k with
  | zero =>
    intro j b f τ hj hA f0 f2 h
    have hj : j = 100 := hj
    subst hj
    show w_X7_most_14 20 posti _ (aTd A 1) b 1 (nI 100) τ
    unfold w_X7_most_14
    refine br_t (by decide) (fun σ2 e2 => h σ2 ?_)
    have k1 := MS_told' (j := 1) (v := aTd A 1) hA
    rw [← e2] at k1
    exact MS_congr (g := aTd A) k1 (fun k hk => by
      rcases (show k = 0 ∨ k = 1 ∨ k = 2 by omega) with rfl | rfl | rfl
      · rw [upN_n (by decide)]; exact f0
      · rw [upN_s]
      · rw [upN_n (by decide)]; exact f2)
  | succ k ih =>
    intro j b f τ hj hA f0 f2 h
    have ej := nI_toInt (n := j) (by omega)
    show w_X7_most_14 20 posti _ (aTd A 1) b 1 (nI j) τ
    unfold w_X7_most_14
    unfold mostL at h
    refine br_f (nI_nlt (a := 99) (b := j) (by omega) (by decide)) (br_f (by decide) (fun σ5 e5 => ?_))
    have k1 := MS_told' (j := 1) (v := nI j) hA
    rw [← e5] at k1
    have k2 : MS (sTd A (upN (aTd A) 1 (nI j))) σ5 := MS_congr k1 (fun k hk => by
      rcases (show k = 0 ∨ k = 1 ∨ k = 2 by omega) with rfl | rfl | rfl
      · rw [upN_n (by decide), upN_n (by decide)]; exact f0
      · rw [upN_s, upN_s]
      · rw [upN_n (by decide), upN_n (by decide)]; exact f2)
    have mt1 : (mtv 1).toInt = 99 := by decide
    have hW2 : VA (sTd A (upN (aTd A) 1 (nI j))) := VA_td hW (okT_up hW.2.2.1 (by decide) (by rw [mt1]; omega))
    refine m_hIA (A := sTd A (upN (aTd A) 1 (nI j))) hV hW2 k2 (fun τ1 h1 => ?_)
    have e : cookF (sTd A (upN (aTd A) 1 (nI j))) (aNa (sTd A (upN (aTd A) 1 (nI j)))) = actsF A (lawF A) 0 (aNa A) (startF (aTd A 0) (nI j) (aTd A 2)) := actsF_td (aNa A) 0 _
    rw [e]
    refine ⟨fun c x9 e9 => ?_, fun c x10 e10 => ?_⟩
    · rw [if_pos (show hwF A (aTd A 0) (nI j) (aTd A 2) = 0 from c)] at h
      rw [e9, nI_1, c]
      have done : ∀ σ : St, MS (sTd A (upN (aTd A) 1 (nI j))) σ → ∀ σ2 : St, σ2 = si σ 2 1 (aTd A 1) → posti b σ2 := by
        intro σ hs σ2 e2
        have k1 := MS_told' (j := 1) (v := aTd A 1) hs
        rw [← e2] at k1
        refine h σ2 (MS_congr (g := aTd A) k1 (fun k hk => ?_))
        rcases (show k = 0 ∨ k = 1 ∨ k = 2 by omega) with rfl | rfl | rfl
        · rw [upN_n (by decide), upN_n (by decide)]
        · rw [upN_s]
        · rw [upN_n (by decide), upN_n (by decide)]
      show w_X7_most_14 20 posti _ (aTd A 1) b 0 (nI (j + 1)) τ1
      unfold w_X7_most_14
      exact ⟨fun _ => done τ1 h1, fun _ => br_t rfl (done τ1 h1)⟩
    · rw [if_neg (show ¬ hwF A (aTd A 0) (nI j) (aTd A 2) = 0 from c)] at h
      have c1 : holdF (actsF A (lawF A) 0 (aNa A) (startF (aTd A 0) (nI j) (aTd A 2))) = 1 := by
        rcases hold_01 (actsF A (lawF A) 0 (aNa A) (startF (aTd A 0) (nI j) (aTd A 2))) with q | q
        · exact absurd q c
        · exact q
      rw [e10, nI_1, c1]
      exact ih (j + 1) _ _ τ1 (by omega) h1 (upN_n (by decide)) (upN_n (by decide)) h
theorem m_most (hV : Bd A) (hW : VA A) (hA : MS A τ) (h : ∀ τ', MS A τ' → posti (mostF A) τ') : w_X7_most 20 posti τ := by
  unfold mostF at h
  unfold w_X7_most
  rw [hA.2.2.2.1 1 (by decide)]
  obtain ⟨j, hj, e⟩ := as_nI (n := 99) hW.2.2.1.2.1
  rw [e, i_nI (by omega)] at h
  have key := m_mostL (posti := posti) hV hW (100 - j) j (-1) (aTd A) τ (by omega) hA rfl rfl h
  rw [e] at key
  rw [e]
  exact ⟨100 - j + 2, key⟩
end TOLD
/-! the lowest terms -/
section LOW
variable {M : Nat} {posti : Int32 → St → Prop} {postl : Int64 → St → Prop} {τ : St}
def lowF (a b : Nat) (p : Int32) : Nat := (if p = 0 then a else b) / Nat.gcd a b
theorem gcd_pos {a b : Nat} (hb : 0 < b) : 0 < Nat.gcd a b := Nat.gcd_pos_of_pos_right a hb
theorem c_lowL {a b t : Nat} (ha : a < 1000) (hb : 0 < b) (hb2 : b < 1000) (ht : t < 1000) (h : posti (nI (t / Nat.gcd a b)) τ) : ∀ (k y : Nat), y ≤ k → 1 ≤ y → y ≤ b → (∀ d, y < d → d ∣ a → ¬ d ∣ b) → wl_X6_lowestTerm_13 M posti (k + 1) (nI a) (nI b) (nI t) (nI y) τ := by
  intro k
  induction k with
  | zero => intro y hk hy; omega
  | succ k ih =>
    intro y hk hy hyb hd
    have hgp := gcd_pos (a := a) hb
    have hgb : Nat.gcd a b ≤ b := Nat.gcd_le_right a hb
    have hgy : Nat.gcd a b ≤ y := by
      apply Nat.le_of_not_lt
      intro q
      exact hd _ q (Nat.gcd_dvd_left a b) (Nat.gcd_dvd_right a b)
    have ey := nI_toInt (n := y) (by omega)
    show w_X6_lowestTerm_13 M posti _ (nI a) (nI b) (nI t) (nI y) τ
    unfold w_X6_lowestTerm_13
    by_cases y1 : y = 1
    · have e1 : Nat.gcd a b = 1 := by omega
      rw [e1, Nat.div_one] at h
      exact br_t (by rw [il, ey, i_1]; omega) h
    · have ne0 : ¬ nI y = 0 := by rw [ieq, ey, i_0]; omega
      refine br_f (by rw [il, ey, i_1]; omega) ⟨ne0, ?_⟩
      rw [i_mod (a := a) (by omega) (by omega) (by omega), i_mod (a := b) (by omega) (by omega) (by omega)]
      have z : ∀ n : Nat, n < 2 ^ 31 → (nI n = 0 ↔ n = 0) := fun n hn => by rw [ieq, nI_toInt hn, i_0]; omega
      have ma : a % y < 2 ^ 31 := by have := Nat.mod_le a y; omega
      have mb : b % y < 2 ^ 31 := by have := Nat.mod_le b y; omega
      have em : nI y + (-1) = nI (y - 1) := by rw [← Int32.sub_eq_add_neg]; exact nI_sub' (a := y) (b := 1) hy
      have next : ¬ (y ∣ a ∧ y ∣ b) → ∀ x5 : Int32, x5 = nI y + (-1) → wl_X6_lowestTerm_13 M posti (k + 1) (nI a) (nI b) (nI t) x5 τ := by
        intro q x5 e5
        rw [e5, em]
        refine ih (y - 1) (by omega) (by omega) (by omega) (fun d hlt h1 h2 => ?_)
        by_cases e : d = y
        · subst e; exact q ⟨h1, h2⟩
        · exact hd d (by omega) h1 h2
      refine ⟨fun c => ⟨ne0, fun d => ⟨ne0, ?_⟩, fun d => ?_⟩, fun c => ?_⟩
      · have c' := Nat.dvd_of_mod_eq_zero ((z _ ma).mp c)
        have d' := Nat.dvd_of_mod_eq_zero ((z _ mb).mp d)
        have hyg : y ∣ Nat.gcd a b := Nat.dvd_gcd c' d'
        have e1 : Nat.gcd a b = y := Nat.le_antisymm hgy (Nat.le_of_dvd hgp hyg)
        rw [e1] at h
        rw [i_div (by omega) (by omega) (by omega)]
        exact h
      · exact next (fun q => d ((z _ mb).mpr (Nat.mod_eq_zero_of_dvd q.2)))
      · exact next (fun q => c ((z _ ma).mpr (Nat.mod_eq_zero_of_dvd q.1)))
theorem c_low {a b : Nat} {p : Int32} (ha : a < 1000) (hb : 0 < b) (hb2 : b < 1000) (h : posti (nI (lowF a b p)) τ) : w_X6_lowestTerm M posti (nI a) (nI b) p τ := by
  unfold lowF at h
  unfold w_X6_lowestTerm
  have hd : ∀ d, b < d → d ∣ a → ¬ d ∣ b := fun d hlt _ h2 => by
    have := Nat.le_of_dvd hb h2
    omega
  refine ⟨fun c => ?_, fun c => ?_⟩
  · rw [if_pos c] at h
    exact ⟨b + 1, c_lowL ha hb hb2 ha h b b (Nat.le_refl _) hb (Nat.le_refl _) hd⟩
  · rw [if_neg c] at h
    exact ⟨b + 1, c_lowL ha hb hb2 hb2 h b b (Nat.le_refl _) hb (Nat.le_refl _) hd⟩
theorem l_div {a b : Nat} (ha : a < 2 ^ 31) (hb : 0 < b) (hb2 : b < 2 ^ 31) : lN a / lN b = lN (a / b) := by
  refine Int64.toInt_inj.mp ?_
  have h : a / b ≤ a := Nat.div_le_self a b
  rw [ldv (by rw [lN_toInt ha]; omega) (by rw [lN_toInt hb2]; omega), lN_toInt ha, lN_toInt hb2, lN_toInt (by omega)]
  rfl
theorem l_mod {a b : Nat} (ha : a < 2 ^ 31) (hb : 0 < b) (hb2 : b < 2 ^ 31) : lN a - lN a / lN b * lN b = lN (a % b) := by
  rw [l_div ha hb hb2, lN_mul, lN_sub (Nat.div_mul_le_self a b)]
  congr 1
  have := Nat.div_add_mod a b
  rw [Nat.mul_comm] at this
  omega
theorem m_lowL {a b : Nat} {p : Int32} (ha : a < 1000) (hb : 0 < b) (hb2 : b < 1000) (h : postl (lN (lowF a b p)) τ) : ∀ (k x y : Nat), y ≤ k → x < 1000 → y < 1000 → Nat.gcd x y = Nat.gcd a b → wl_X7_lowest_6 20 postl (k + 1) (lN a) (lN b) p (lN x) (lN y) τ := by
  intro k
  induction k with
  | zero =>
    intro x y hy hx hy2 hg
    have hy : y = 0 := by omega
    subst hy
    rw [Nat.gcd_zero_right] at hg
    have hgp := gcd_pos (a := a) hb
    subst hg
    show w_X7_lowest_6 20 postl _ (lN a) (lN b) p (lN (Nat.gcd a b)) (lN 0) τ
    unfold w_X7_lowest_6
    have ne : ¬ lN (Nat.gcd a b) = 0 := fun q => by
      have := congrArg Int64.toInt q
      rw [lN_toInt (by omega)] at this
      have z : (0 : Int64).toInt = 0 := by decide
      rw [z] at this
      omega
    unfold lowF at h
    refine br_t (by decide) ⟨fun c => ⟨ne, ?_⟩, fun c => ⟨ne, ?_⟩⟩
    · rw [if_pos c] at h
      rw [l_div (by omega) hgp (by omega)]; exact h
    · rw [if_neg c] at h
      rw [l_div (by omega) hgp (by omega)]; exact h
  | succ k ih =>
    intro x y hy hx hy2 hg
    show w_X7_lowest_6 20 postl _ (lN a) (lN b) p (lN x) (lN y) τ
    by_cases y0 : y = 0
    · subst y0
      rw [Nat.gcd_zero_right] at hg
      have hgp := gcd_pos (a := a) hb
      subst hg
      unfold w_X7_lowest_6
      have ne : ¬ lN (Nat.gcd a b) = 0 := fun q => by
        have := congrArg Int64.toInt q
        rw [lN_toInt (by omega)] at this
        have z : (0 : Int64).toInt = 0 := by decide
        rw [z] at this
        omega
      unfold lowF at h
      refine br_t (by decide) ⟨fun c => ⟨ne, ?_⟩, fun c => ⟨ne, ?_⟩⟩
      · rw [if_pos c] at h
        rw [l_div (by omega) hgp (by omega)]; exact h
      · rw [if_neg c] at h
        rw [l_div (by omega) hgp (by omega)]; exact h
    · unfold w_X7_lowest_6
      have ne : ¬ lN y = 0 := fun q => by
        have := congrArg Int64.toInt q
        rw [lN_toInt (by omega)] at this
        have z : (0 : Int64).toInt = 0 := by decide
        rw [z] at this
        omega
      have hm := Nat.mod_lt x (show 0 < y by omega)
      rw [l_mod (by omega) (by omega) (by omega)]
      refine br_f (fun q => ne ((lg_cmp0 _).mp q)) ⟨ne, ih y (x % y) (by omega) hy2 (by omega) ?_⟩
      rw [← hg, Nat.gcd_comm x y, Nat.gcd_rec y x, Nat.gcd_comm]
theorem m_low {a b : Nat} {p : Int32} (ha : a < 1000) (hb : 0 < b) (hb2 : b < 1000) (h : postl (lN (lowF a b p)) τ) : w_X7_lowest 20 postl (lN a) (lN b) p τ :=
  ⟨b + 1, m_lowL ha hb hb2 h b a b (Nat.le_refl _) ha hb2 rfl⟩
theorem lowF_lt {a b : Nat} {p : Int32} (ha : a < 1000) (hb2 : b < 1000) : lowF a b p < 1000 := by
  unfold lowF
  by_cases c : p = 0
  · rw [if_pos c]; have := Nat.div_le_self a (Nat.gcd a b); omega
  · rw [if_neg c]; have := Nat.div_le_self b (Nat.gcd a b); omega
end LOW
section ODDS
variable {M : Nat} {A : Ab} {postl : Int64 → St → Prop} {τ : St}
def oddG (A : Ab) (m j : Nat) : Int32 := hwF A (clampF 9 (aTd A 0 + (nI j - nI m))) (aTd A 1) (aTd A 2)
def oddsF (A : Ab) (off p : Int32) : Int64 :=
  if (0 ≤ off.toInt ∧ off.toInt ≤ 5) ∧ (0 ≤ p.toInt ∧ p.toInt ≤ 1) then lN (lowF (cntN (oddG A off.toInt.toNat) (2 * off.toInt.toNat + 1) 0 0) (2 * off.toInt.toNat + 1) p) else -4611686018427387904
theorem i_dif {m j : Nat} (hm : m < 100) (hj : j < 100) : (nI j - nI m).toInt = (j : Int) - m := by
  have e1 := nI_toInt (n := m) (by omega)
  have e2 := nI_toInt (n := j) (by omega)
  rw [isu (by omega) (by omega), e1, e2]
theorem i_dif1 {m j : Nat} (hm : m < 100) (hj : j < 99) : nI j - nI m + 1 = nI (j + 1) - nI m := by
  refine ieq.mpr ?_
  have e1 := i_dif hm (show j < 100 by omega)
  have e2 := i_dif hm (show j + 1 < 100 by omega)
  rw [ia (by rw [i_1]; omega) (by rw [i_1]; omega), e1, e2, i_1]
  omega
theorem i_twice {m : Nat} : (2 * nI m) + 1 = nI (2 * m + 1) := by
  rw [show (2 : Int32) = nI 2 from rfl, i_mul, nI_1]
theorem c_oddsL {m : Nat} (hm : m ≤ 5) {p : Int32} : ∀ (k j v : Nat) (τ : St), j + k = 2 * m + 1 → v ≤ j → CS M A τ → (∀ τ', CS M A τ' → postl (lN (lowF (cntN (oddG A m) k j v) (2 * m + 1) p)) τ') → wl_X6_odds_26 M postl (k + 1) (nI m) p (nI v) (nI j - nI m) τ := by
  intro k
  have em := nI_toInt (n := m) (by omega)
  induction k with
  | zero =>
    intro j v τ hj hv hA h
    have hj : j = 2 * m + 1 := hj
    have ed := i_dif (m := m) (j := j) (by omega) (by omega)
    show w_X6_odds_26 M postl _ (nI m) p (nI v) (nI j - nI m) τ
    unfold w_X6_odds_26
    refine br_t (by rw [ilt, ed, em]; omega) ?_
    rw [i_twice]
    refine c_low (by omega) (by omega) (by omega) ?_
    have hl := lowF_lt (a := v) (b := 2 * m + 1) (p := p) (by omega) (by omega)
    rw [nI_l (by omega)]
    exact h τ hA
  | succ k ih =>
    intro j v τ hj hv hA h
    have ed := i_dif (m := m) (j := j) (by omega) (by omega)
    show w_X6_odds_26 M postl _ (nI m) p (nI v) (nI j - nI m) τ
    unfold w_X6_odds_26
    rw [hA.2.2.2.1 0 (by decide), hA.2.2.2.1 1 (by decide), hA.2.2.2.1 2 (by decide)]
    unfold cntN at h
    refine br_f (by rw [ilt, ed, em]; omega) (fun x4 e4 x5 e5 => ?_)
    have ex : x5 = clampF 9 (aTd A 0 + (nI j - nI m)) := by rw [e5, e4]; rfl
    rw [ex]
    refine c_hW hA (fun τ1 h1 => ⟨fun c x9 e9 => ?_, fun c x10 e10 x11 e11 => ?_⟩)
    · rw [if_pos (show oddG A m j = 0 from c)] at h
      rw [e9, i_dif1 (by omega) (by omega)]
      exact ih (j + 1) v τ1 (by omega) (by omega) h1 h
    · rw [if_neg (show ¬ oddG A m j = 0 from c)] at h
      rw [e11, e10, i_dif1 (by omega) (by omega), nI_1]
      exact ih (j + 1) (v + 1) τ1 (by omega) (by omega) h1 h
theorem m_oddsL (hV : Bd A) (hW : VA A) {m : Nat} (hm : m ≤ 5) {p : Int32} : ∀ (k j v : Nat) (τ : St), j + k = 2 * m + 1 → v ≤ j → MS A τ → (∀ τ', MS A τ' → postl (lN (lowF (cntN (oddG A m) k j v) (2 * m + 1) p)) τ') → wl_X7_odds_32 20 postl (k + 1) (nI m) p (nI v) (nI j - nI m) τ := by
  intro k
  have em := nI_toInt (n := m) (by omega)
  induction k with
  | zero =>
    intro j v τ hj hv hA h
    have hj : j = 2 * m + 1 := hj
    have ed := i_dif (m := m) (j := j) (by omega) (by omega)
    show w_X7_odds_32 20 postl _ (nI m) p (nI v) (nI j - nI m) τ
    unfold w_X7_odds_32
    refine br_t (by rw [ilt, ed, em]; omega) ?_
    rw [i_twice, nI_l (by omega), nI_l (by omega)]
    exact m_low (by omega) (by omega) (by omega) (h τ hA)
  | succ k ih =>
    intro j v τ hj hv hA h
    have ed := i_dif (m := m) (j := j) (by omega) (by omega)
    show w_X7_odds_32 20 postl _ (nI m) p (nI v) (nI j - nI m) τ
    unfold w_X7_odds_32
    rw [hA.2.2.2.1 0 (by decide)]
    unfold cntN at h
    refine br_f (by rw [ilt, ed, em]; omega) (m_held ?_)
    rw [hA.2.2.2.1 2 (by decide)]
    have ex : heldF (aTd A 0 + (nI j - nI m)) 9 = clampF 9 (aTd A 0 + (nI j - nI m)) := (clamp_held (by decide)).symm
    rw [ex]
    have hb := clampF_bd 9 (aTd A 0 + (nI j - nI m)) (by decide)
    have e9 : (9 : Int32).toInt = 9 := by decide
    rw [e9] at hb
    refine m_hW hV hW hA hb hW.2.2.1.2.2 (fun τ1 h1 => ⟨fun c x9 e9 => ?_, fun c x10 e10 => ?_⟩)
    · rw [if_pos (show oddG A m j = 0 from c)] at h
      rw [e9, i_dif1 (by omega) (by omega), Int32.add_zero]
      exact ih (j + 1) v τ1 (by omega) (by omega) h1 h
    · rw [if_neg (show ¬ oddG A m j = 0 from c)] at h
      rw [e10, i_dif1 (by omega) (by omega), nI_1]
      exact ih (j + 1) (v + 1) τ1 (by omega) (by omega) h1 h
theorem c_odds (hA : CS M A τ) {off p : Int32} (h : ∀ τ', CS M A τ' → postl (oddsF A off p) τ') : w_X6_odds M postl off p τ := by
  unfold oddsF at h
  unfold w_X6_odds
  have bad : ¬ ((0 ≤ off.toInt ∧ off.toInt ≤ 5) ∧ (0 ≤ p.toInt ∧ p.toInt ≤ 1)) → postl (-4611686018427387904) τ := fun q => by rw [if_neg q] at h; exact h τ hA
  refine brl z0' (fun q => bad (fun z => absurd z.1 (by omega))) (fun q1 => brg (c := 5) (n := 5) (by decide) (fun q => bad (fun z => absurd z.1 (by omega))) (fun q2 => c_isBit (fun d => br_f (by decide) ?_) (fun d => br_t rfl (bad (fun z => d z.2)))))
  rw [if_pos ⟨⟨by omega, by omega⟩, d⟩] at h
  obtain ⟨m, hm, rfl⟩ := as_nI (s := off) (n := 5) (by omega)
  rw [i_nI (by omega)] at h
  rw [show -nI m = nI 0 - nI m from (Int32.zero_sub _).symm]
  exact ⟨2 * m + 2, c_oddsL hm (2 * m + 1) 0 0 τ (by omega) (by omega) hA h⟩
theorem m_odds (hV : Bd A) (hW : VA A) (hA : MS A τ) {off p : Int32} (h : ∀ τ', MS A τ' → postl (oddsF A off p) τ') : w_X7_odds 20 postl off p τ := by
  unfold oddsF at h
  unfold w_X7_odds
  have bad : ¬ ((0 ≤ off.toInt ∧ off.toInt ≤ 5) ∧ (0 ≤ p.toInt ∧ p.toInt ≤ 1)) → postl (-4611686018427387904) τ := fun q => by rw [if_neg q] at h; exact h τ hA
  refine m_in' (lo := 0) (hi := 5) (by decide) (by decide) (fun c => br_f (by decide) (m_in' (lo := 0) (hi := 1) (by decide) (by decide) (fun d => br_f (by decide) ?_) (fun d => br_t rfl (bad (fun z => d z.2))))) (fun c => br_t rfl (bad (fun z => c z.1)))
  rw [if_pos ⟨c, d⟩] at h
  obtain ⟨m, hm, rfl⟩ := as_nI (s := off) (n := 5) c
  rw [i_nI (by omega)] at h
  rw [show -nI m = nI 0 - nI m from (Int32.zero_sub _).symm]
  exact ⟨2 * m + 2, m_oddsL hV hW hm (2 * m + 1) 0 0 τ (by omega) (by omega) hA h⟩
end ODDS
