/-! acts by a sheet, what is taken, images -/
section IMAGES
variable {M : Nat} {A : Ab} {post : St → Prop} {posti : Int32 → St → Prop} {τ : St}
def byL (d sz : Nat) (it : Nat → Int32) (fr : Int32) : Nat → Nat → Nat → Ab → Int32 × Ab
  | 0, _, c, B => (nI c, B)
  | k + 1, i, c, B => if 0 ≤ fr.toInt ∧ fr.toInt + 3 * i + 3 ≤ (sz : Int) then (if (actAF B (it (fr.toInt.toNat + 3 * i)) (it (fr.toInt.toNat + 3 * i + 1)) (it (fr.toInt.toNat + 3 * i + 2))).1 < 0 then byL d sz it fr k (i + 1) c (actAF B (it (fr.toInt.toNat + 3 * i)) (it (fr.toInt.toNat + 3 * i + 1)) (it (fr.toInt.toNat + 3 * i + 2))).2 else byL d sz it fr k (i + 1) (c + 1) (actAF B (it (fr.toInt.toNat + 3 * i)) (it (fr.toInt.toNat + 3 * i + 1)) (it (fr.toInt.toNat + 3 * i + 2))).2) else (-12, B)
theorem act_same (B : Ab) (k m f : Int32) : aSo (actAF B k m f).2 = aSo B ∧ aSz (actAF B k m f).2 = aSz B ∧ aIt (actAF B k m f).2 = aIt B ∧ (Bd B → Bd (actAF B k m f).2) := by
  unfold actAF
  by_cases c : (0 ≤ k.toInt ∧ k.toInt ≤ 5) ∧ (0 ≤ m.toInt ∧ m.toInt ≤ 9) ∧ (0 ≤ f.toInt ∧ f.toInt ≤ 9)
  · rw [if_pos c]
    by_cases d : aNa B < 12
    · rw [if_pos d]
      refine ⟨rfl, rfl, rfl, fun hb => ⟨hb.1, ?_, hb.2.2.1, hb.2.2.2⟩⟩
      show aNa B + 1 ≤ 12
      omega
    · rw [if_neg d]; exact ⟨rfl, rfl, rfl, fun hb => hb⟩
  · rw [if_neg c]; exact ⟨rfl, rfl, rfl, fun hb => hb⟩
theorem place_at {fr : Int32} {i : Nat} (hi : i ≤ 12) (h : i = 0 ∨ (0 ≤ fr.toInt ∧ fr.toInt ≤ 40)) : (fr + (3 * nI i)).toInt = fr.toInt + 3 * i := by
  have hb := ib fr
  have e3 : (3 * nI i).toInt = 3 * (i : Int) := by
    rw [show (3 : Int32) * nI i = nI (3 * i) from i_mul (a := 3), nI_toInt (by omega)]
    omega
  rw [ia (by omega) (by omega), e3]
theorem c_byL {d sz n : Nat} (hd : d < 4) (hn : n ≤ 12) {it : Nat → Int32} {fr : Int32} : ∀ (k i c : Nat) (B : Ab) (τ : St), i + k = n → CS M B τ → aSz B d = sz → aIt B d = it → (i = 0 ∨ (0 ≤ fr.toInt ∧ fr.toInt ≤ 40)) → (∀ τ', CS M (byL d sz it fr k i c B).2 τ' → posti (byL d sz it fr k i c B).1 τ') → wl_X6_actsBy_65 M posti (k + 1) fr (nI n) (some (45 + 2 * d)) (nI c) (nI i) τ := by
  intro k
  induction k with
  | zero =>
    intro i c B τ hi hA hs ht hf h
    have hi : i = n := hi
    subst hi
    exact br_t (Int32.le_refl _) (h τ hA)
  | succ k ih =>
    intro i c B τ hi hA hs ht hf h
    have hM := hA.2.2.2.2.2.2.2.1
    obtain ⟨a1, a2, a3, a4⟩ := C7_at hA hd
    have ep := place_at (fr := fr) (i := i) (by omega) hf
    have e3 : (3 : Int32).toInt = 3 := by decide
    have z2 := i_2
    have z1 := i_1
    show w_X6_actsBy_65 M posti _ fr (nI n) (some (45 + 2 * d)) (nI c) (nI i) τ
    unfold w_X6_actsBy_65
    unfold byL at h
    refine br_f (nI_ge (by omega) (by omega)) ⟨_, rfl, kdSh hM hd, c_row (kdSh hM hd) a2 a3 (fun g => br_f (by decide) ?_) (fun g => br_t rfl ?_)⟩
    · rw [if_pos (by omega)] at h
      have x0 : fr + (3 * nI i) = nI (fr.toInt.toNat + 3 * i) := ieq.mpr (by rw [ep, nI_toInt (by omega)]; omega)
      rw [x0]
      refine c_tellS hd hA rfl (by omega) (c_tellS hd hA (k := fr.toInt.toNat + 3 * i + 1) (nI_1 _) (by omega) (c_tellS hd hA (k := fr.toInt.toNat + 3 * i + 2) (by rw [show (2 : Int32) = nI 2 from rfl, nI_add]) (by omega) (c_act hA (fun τ' h' => ?_))))
      obtain ⟨s1, s2, s3, -⟩ := act_same B (aIt B d (fr.toInt.toNat + 3 * i)) (aIt B d (fr.toInt.toNat + 3 * i + 1)) (aIt B d (fr.toInt.toNat + 3 * i + 2))
      rw [ht] at h' s1 s2 s3 ⊢
      refine ⟨fun q x15 e15 => ?_, fun q x16 e16 x17 e17 => ?_⟩
      · rw [if_pos q] at h
        rw [e15, nI_1]
        exact ih (i + 1) c _ τ' (by omega) h' (by rw [s2]; exact hs) (by rw [s3]; exact ht) (Or.inr (by omega)) h
      · rw [if_neg q] at h
        rw [e17, e16, nI_1, nI_1]
        exact ih (i + 1) (c + 1) _ τ' (by omega) h' (by rw [s2]; exact hs) (by rw [s3]; exact ht) (Or.inr (by omega)) h
    · rw [if_neg (by omega)] at h; exact h τ hA
theorem m_byL {d sz n : Nat} (hd : d < 4) (hn : n ≤ 12) (hz : sz ≤ 40) {it : Nat → Int32} {fr : Int32} : ∀ (k i c : Nat) (B : Ab) (τ : St), i + k = n → Bd B → MS B τ → aSz B d = sz → aIt B d = it → (∀ τ', MS (byL d sz it fr k i c B).2 τ' → posti (byL d sz it fr k i c B).1 τ') → wl_X7_actsBy_75 20 posti (k + 1) (nI d) fr (nI n) (nI c) (nI i) τ := by
  intro k
  induction k with
  | zero =>
    intro i c B τ hi hV hA hs ht h
    have hi : i = n := hi
    subst hi
    exact br_t (Int32.le_refl _) (h τ hA)
  | succ k ih =>
    intro i c B τ hi hV hA hs ht h
    obtain ⟨a1, a2, a4⟩ := M7_at hA hd
    have hv := vp_in_nI (n := d) (N := 4) (by omega) (by decide)
    show w_X7_actsBy_75 20 posti _ (nI d) fr (nI n) (nI c) (nI i) τ
    unfold w_X7_actsBy_75
    unfold byL at h
    rw [nI_clamp (by omega), a2, hs]
    refine br_f (nI_ge (by omega) (by omega)) (brl z0' (fun g => ?_) (fun g => ⟨hv, fun x3 e3 => ?_⟩))
    · rw [if_neg (by omega)] at h; exact h τ hA
    · have ez := nI_toInt (n := sz) (by omega)
      have i3 : (3 : Int32).toInt = 3 := by decide
      have m3 : (3 * nI i).toInt = 3 * (i : Int) := by
        rw [show (3 : Int32) * nI i = nI (3 * i) from i_mul (a := 3), nI_toInt (by omega)]
        omega
      have ex3 : x3.toInt = (sz : Int) - 3 := by rw [e3, isu (by omega) (by omega), ez, i3]
      have ex : (x3 - (3 * nI i)).toInt = (sz : Int) - 3 - 3 * i := by rw [isu (by omega) (by omega), ex3, m3]
      refine brle ex (fun g2 => fun x5 e5 => ?_) (fun g2 => ?_)
      · rw [if_pos (by omega)] at h
        obtain ⟨y, hy, rfl⟩ := as_nI (s := fr) (n := 40) (by omega)
        have ey := nI_toInt (n := y) (by omega)
        rw [i_nI (by omega)] at h
        have x0 : x5 = nI (40 * d + (y + 3 * i)) := by
          rw [e5, m_40 hd (k := y) (by omega) rfl, show (3 : Int32) * nI i = nI (3 * i) from i_mul (a := 3), nI_add]
          congr 1
          omega
        rw [x0, nI_1, show (2 : Int32) = nI 2 from rfl, nI_add, nI_clamp (by omega), nI_clamp (by omega), nI_clamp (by omega), a4 _ (by omega), show 40 * d + (y + 3 * i) + 1 = 40 * d + (y + 3 * i + 1) by omega, show 40 * d + (y + 3 * i) + 2 = 40 * d + (y + 3 * i + 2) by omega, a4 _ (by omega), a4 _ (by omega)]
        refine ⟨vp_in_nI (by omega) (by decide), vp_in_nI (by omega) (by decide), fun x6 e6 => ⟨vp_in_nI (by omega) (by decide), fun x7 e7 => ?_⟩⟩
        rw [e6, e7]
        refine m_act hV hA (fun τ' h' => ?_)
        obtain ⟨s1, s2, s3, s4⟩ := act_same B (aIt B d (y + 3 * i)) (aIt B d (y + 3 * i + 1)) (aIt B d (y + 3 * i + 2))
        rw [ht] at h' s1 s2 s3 s4 ⊢
        refine ⟨fun q x11 e11 => ?_, fun q x12 e12 => ?_⟩
        · rw [if_pos q] at h
          rw [e11, nI_1, Int32.add_zero]
          exact ih (i + 1) c _ τ' (by omega) (s4 hV) h' (by rw [s2]; exact hs) (by rw [s3]; exact ht) h
        · rw [if_neg q] at h
          rw [e12, nI_1, nI_1]
          exact ih (i + 1) (c + 1) _ τ' (by omega) (s4 hV) h' (by rw [s2]; exact hs) (by rw [s3]; exact ht) h
      · rw [if_neg (by omega)] at h; exact h τ hA
theorem v_byL {d sz : Nat} {it : Nat → Int32} {fr : Int32} : ∀ (k i c : Nat) (B : Ab), VA B → VA (byL d sz it fr k i c B).2 := by
  intro k
  induction k with
  | zero => intro i c B hW; exact hW
  | succ k ih =>
    intro i c B hW
    unfold byL
    by_cases q : 0 ≤ fr.toInt ∧ fr.toInt + 3 * i + 3 ≤ (sz : Int)
    · rw [if_pos q]
      split
      · exact ih _ _ _ (v_act hW)
      · exact ih _ _ _ (v_act hW)
    · rw [if_neg q]; exact hW
def actsByF (A : Ab) (s t fr n : Int32) : Int32 × Ab :=
  if (0 ≤ s.toInt ∧ s.toInt ≤ 3) ∧ (0 ≤ t.toInt ∧ t.toInt ≤ 2) ∧ (0 ≤ n.toInt ∧ n.toInt ≤ 12) then (if aSo A s.toInt.toNat = -1 then (-11, A) else if aSo A s.toInt.toNat = t then byL s.toInt.toNat (aSz A s.toInt.toNat) (aIt A s.toInt.toNat) fr n.toInt.toNat 0 0 A else (-13, A)) else (-2, A)
theorem c_actsBy (hA : CS M A τ) {s t fr n : Int32} (h : ∀ τ', CS M (actsByF A s t fr n).2 τ' → posti (actsByF A s t fr n).1 τ') : w_X6_actsBy M posti s t fr n τ := by
  unfold actsByF at h
  have bad : ¬ ((0 ≤ s.toInt ∧ s.toInt ≤ 3) ∧ (0 ≤ t.toInt ∧ t.toInt ≤ 2) ∧ (0 ≤ n.toInt ∧ n.toInt ≤ 12)) → posti (-2) τ := fun q => by rw [if_neg q] at h; exact h τ hA
  unfold w_X6_actsBy
  refine c_shAt hA (fun d hd hs ed hk => ⟨fun q => (by cases q), fun o q => ?_⟩) (fun q => ⟨fun _ => bad (fun z => q z.1), fun o q => (by cases q)⟩)
  cases q
  obtain ⟨a1, a2, a3, a4⟩ := C7_at hA hd
  refine ⟨hk, brl z0' (fun q => bad (by omega)) (fun q1 => brg (c := 2) (n := 2) (by decide) (fun q => bad (by omega)) (fun q2 => brl z0' (fun q => bad (by omega)) (fun q3 => brle (c := 12) (n := 12) (by decide) (fun q4 => ?_) (fun q => bad (by omega)))))⟩
  rw [if_pos ⟨hs, ⟨by omega, by omega⟩, by omega, q4⟩, ed, i_nI (by omega)] at h
  obtain ⟨m, hm, rfl⟩ := as_nI (s := n) (n := 12) (by omega)
  rw [i_nI (by omega)] at h
  refine c_missing hk a1 (fun c => br_f (by decide) ?_) (fun c => br_t rfl ?_)
  · rw [if_pos c] at h; exact h τ hA
  · rw [if_neg c] at h
    rw [a1]
    refine ⟨fun c2 => ?_, fun c2 => ?_⟩
    · rw [if_pos c2] at h
      exact ⟨m + 1, c_byL (n := m) hd hm m 0 0 A τ (by omega) hA rfl rfl (Or.inl rfl) h⟩
    · rw [if_neg c2] at h; exact h τ hA
theorem m_actsBy (hZ : ∀ d, d < 4 → aSz A d ≤ 40) (hV : Bd A) (hW : VA A) (hA : MS A τ) {s t fr n : Int32} (h : ∀ τ', MS (actsByF A s t fr n).2 τ' → posti (actsByF A s t fr n).1 τ') : w_X7_actsBy 20 posti s t fr n τ := by
  unfold actsByF at h
  have bad : ¬ ((0 ≤ s.toInt ∧ s.toInt ≤ 3) ∧ (0 ≤ t.toInt ∧ t.toInt ≤ 2) ∧ (0 ≤ n.toInt ∧ n.toInt ≤ 12)) → posti (-2) τ := fun q => by rw [if_neg q] at h; exact h τ hA
  unfold w_X7_actsBy
  refine m_isSh (fun d hd hs ed => br_f (by decide) (m_in' (lo := 0) (hi := 2) (by decide) (by decide) (fun q1 => br_f (by decide) (m_in' (lo := 0) (hi := 12) (by decide) (by decide) (fun q2 => br_f (by decide) ?_) (fun q => br_t rfl (bad (fun z => q z.2.2))))) (fun q => br_t rfl (bad (fun z => q z.2.1))))) (fun q => br_t rfl (bad (fun z => q z.1)))
  obtain ⟨a1, a2, a4⟩ := M7_at hA hd
  have hv := vp_in_nI (n := d) (N := 4) (by omega) (by decide)
  have nd := so_neg hW hd
  rw [if_pos ⟨hs, q1, q2⟩, ed, i_nI (by omega)] at h
  obtain ⟨m, hm, rfl⟩ := as_nI (s := n) (n := 12) q2
  rw [i_nI (by omega)] at h
  rw [ed, nI_clamp (by omega), a1]
  have no : aSo A d = -1 → w_X7_actsBy_57 20 posti (nI d) fr (nI m) τ := by
    intro c
    rw [if_pos c] at h
    unfold w_X7_actsBy_57
    rw [nI_clamp (by omega), a1]
    refine ⟨hv, br_f (by rw [il, c, im1, i_0]; omega) (h τ hA)⟩
  refine ⟨hv, brl z0' (fun c => ?_) (fun c => ⟨hv, fun c2 => ?_, fun c2 => ?_⟩)⟩
  · exact no (Classical.byContradiction (fun q => absurd (nd.mpr q) (by omega)))
  · have c' := nd.mp (show 0 ≤ (aSo A d).toInt by omega)
    rw [if_neg c', if_pos c2] at h
    unfold w_X7_actsBy_57
    rw [nI_clamp (by omega), a1]
    refine ⟨hv, br_t (by rw [il, i_0]; omega) ⟨m + 1, m_byL (n := m) hd hm (hZ d hd) m 0 0 A τ (by omega) hV hA rfl rfl h⟩⟩
  · have c' := nd.mp (show 0 ≤ (aSo A d).toInt by omega)
    rw [if_neg c', if_neg c2] at h; exact h τ hA
theorem v_actsBy (hW : VA A) {s t fr n : Int32} : VA (actsByF A s t fr n).2 := by
  unfold actsByF
  split
  · split
    · exact hW
    · split
      · exact v_byL _ _ _ _ hW
      · exact hW
  · exact hW
/-! what is taken -/
def isKd (q k : Int32) : Prop := ¬ k = 6 ∧ (k = 0 ∨ k = q ∨ (k = 1 ∧ q = 4) ∨ (k = 3 ∧ q = 5))
theorem c_isOne {o : Nat} (ho : kdC o = 0 ∧ o < M) {q k : Int32} (hq : gi τ o 0 = q) (h1 : (k = 0 ∨ k = q ∨ (k = 1 ∧ q = 4) ∨ (k = 3 ∧ q = 5)) → posti 1 τ) (h0 : ¬ (k = 0 ∨ k = q ∨ (k = 1 ∧ q = 4) ∨ (k = 3 ∧ q = 5)) → posti 0 τ) : w_X0_isOne M posti o k τ := by
  have t25 : ¬ (k = 0) → ¬ (k = q) → ¬ (k = 1 ∧ q = 4) → w_X0_isOne_25 M posti o k τ := by
    intro n0 n1 n2
    unfold w_X0_isOne_25
    rw [hq]
    refine ⟨fun c => ⟨fun d => h1 (Or.inr (Or.inr (Or.inr ⟨c, d⟩))), fun d => h0 ?_⟩, fun c => h0 ?_⟩
    · rintro (z | z | z | z)
      · exact n0 z
      · exact n1 z
      · exact n2 z
      · exact d z.2
    · rintro (z | z | z | z)
      · exact n0 z
      · exact n1 z
      · exact n2 z
      · exact c z.1
  unfold w_X0_isOne
  rw [hq]
  refine ⟨ho, fun c => h1 (Or.inl c), fun c => ⟨fun d => h1 (Or.inr (Or.inl d)), fun d => ⟨fun e => ⟨fun f => h1 (Or.inr (Or.inr (Or.inl ⟨e, f⟩))), fun f => t25 c d (fun z => f z.2)⟩, fun e => t25 c d (fun z => e z.1)⟩⟩⟩
noncomputable def takenF (A : Ab) (i k : Int32) : Int32 :=
  if 0 ≤ k.toInt ∧ k.toInt ≤ 6 then (if 0 ≤ i.toInt ∧ i.toInt ≤ 15 then (if i.toInt < 4 then (if isC A i then (if k = 6 then aCh A i.toInt.toNat 0 else -13) else -11) else (if isA A (i - 4) then (if ¬ k = 6 ∧ (k = 0 ∨ k = aAc A (i - 4).toInt.toNat 0 ∨ (k = 1 ∧ aAc A (i - 4).toInt.toNat 0 = 4) ∨ (k = 3 ∧ aAc A (i - 4).toInt.toNat 0 = 5)) then i - 4 else -13) else -11)) else -12) else -2
theorem c_taken (hA : CS M A τ) {i k : Int32} (h : posti (takenF A i k) τ) : w_X6_taken M posti i k τ := by
  have hb := hA.1.2.1
  have hb2 := hA.2.1.2.1
  unfold takenF at h
  unfold w_X6_taken
  have go : ∀ t0 : Int32, t0 = (if k = 6 then 1 else 0) → (0 ≤ k.toInt ∧ k.toInt ≤ 6) → (0 ≤ i.toInt ∧ i.toInt ≤ 15) → w_X6_taken_37 M posti i k t0 τ := by
    intro t0 ht hk hi
    rw [if_pos hk, if_pos hi] at h
    unfold w_X6_taken_37
    refine brge (c := 4) (n := 4) (by decide) (fun g => ?_) (fun g => ?_)
    · rw [if_neg (by omega)] at h
      refine c_acAt hA (fun j hj hs e hkj => ⟨fun q => (by cases q), fun o q => ?_⟩) (fun q => ⟨fun _ => ?_, fun o q => (by cases q)⟩)
      · cases q
        rw [if_pos hs] at h
        have ej : (i - 4).toInt.toNat = j := by rw [e]; exact i_nI (by omega)
        rw [ej] at h
        refine ⟨hkj, fun c => ?_, fun c => ?_⟩
        · have k6 : ¬ k = 6 := fun q => by rw [ht, if_pos q] at c; exact absurd c (by decide)
          refine c_isOne hkj (hA.2.1.2.2 j 0 hj (by decide)) (fun q => br_f (by decide) ?_) (fun q => br_t rfl ?_)
          · rw [if_pos ⟨k6, q⟩] at h; exact h
          · rw [if_neg (fun z => q z.2)] at h; exact h
        · have k6 : k = 6 := Classical.byContradiction (fun q => c (by rw [ht, if_neg q]))
          rw [if_neg (fun z => z.1 k6)] at h; exact h
      · rw [if_neg q] at h; exact h
    · rw [if_pos (by omega)] at h
      refine c_chAt hA (fun j hj hs e hkj => ⟨fun q => (by cases q), fun o q => ?_⟩) (fun q => ⟨fun _ => ?_, fun o q => (by cases q)⟩)
      · cases q
        rw [if_pos hs] at h
        refine ⟨hkj, fun c => ?_, fun c => ?_⟩
        · have k6 : ¬ k = 6 := fun q => by rw [ht, if_pos q] at c; exact absurd c (by decide)
          rw [if_neg k6] at h; exact h
        · have k6 : k = 6 := Classical.byContradiction (fun q => c (by rw [ht, if_neg q]))
          rw [if_pos k6, e, i_nI (by omega)] at h
          refine c_tell5 hkj (by decide) ?_
          rw [show (0 : Int32).toInt.toNat = 0 by decide, show 17 + 4 * j + 1 = 18 + 4 * j by omega, hA.1.2.2 j 0 hj (by decide)]
          exact h
      · rw [if_neg q] at h; exact h
  refine brl z0' (fun q => ?_) (fun q1 => brle (c := 6) (n := 6) (by decide) (fun q2 => brl z0' (fun q => ?_) (fun q3 => brl (c := 16) (n := 16) (by decide) (fun q4 => ⟨fun c => ?_, fun c => ?_⟩) (fun q => ?_))) (fun q => ?_))
  · rw [if_neg (by omega)] at h; exact h
  · rw [if_pos ⟨by omega, q2⟩, if_neg (by omega)] at h; exact h
  · exact go 1 (by rw [if_pos c]) ⟨by omega, q2⟩ ⟨by omega, by omega⟩
  · exact go 0 (by rw [if_neg c]) ⟨by omega, q2⟩ ⟨by omega, by omega⟩
  · rw [if_pos ⟨by omega, q2⟩, if_neg (by omega)] at h; exact h
  · rw [if_neg (by omega)] at h; exact h
theorem mt_0 {a k : Int32} (n : Nat) (h1 : k = 0 → posti a τ) (h0 : ¬ k = 0 → posti (-13) τ) : wl_X7_takenAct_18 20 posti (n + 1) a k 0 τ := by
  show w_X7_takenAct_18 20 posti _ a k 0 τ
  unfold w_X7_takenAct_18
  refine ⟨fun c => br_t c (h1 c.symm), fun c => br_t (by decide) (br_f c (h0 (fun q => c q.symm)))⟩
theorem mt_s {a k q r : Int32} (hq : ¬ q ≤ 0) (hr : r = if q = 4 then 1 else if q = 5 then 3 else 0) (n : Nat) (h1 : k = q → posti a τ) (h0 : ¬ k = q → wl_X7_takenAct_18 20 posti n a k r τ) : wl_X7_takenAct_18 20 posti (n + 1) a k q τ := by
  show w_X7_takenAct_18 20 posti _ a k q τ
  unfold w_X7_takenAct_18 w_X7_over
  refine ⟨fun c => br_t c (h1 c.symm), fun c => br_f hq ?_⟩
  have h0 := h0 (fun z => c z.symm)
  refine ⟨fun d => ?_, fun d => ⟨fun e => ?_, fun e => ?_⟩⟩
  · rw [if_pos d] at hr; rw [hr] at h0; exact h0
  · rw [if_neg d, if_pos e] at hr; rw [hr] at h0; exact h0
  · rw [if_neg d, if_neg e] at hr; rw [hr] at h0; exact h0
theorem m_takenAct (hV : Bd A) (hW : VA A) (hA : MS A τ) {s k : Int32} (h1 : ∀ j, j < aNa A → isA A s → s = nI j → (k = 0 ∨ k = aAc A j 0 ∨ (k = 1 ∧ aAc A j 0 = 4) ∨ (k = 3 ∧ aAc A j 0 = 5)) → posti s τ) (h2 : ∀ j, j < aNa A → isA A s → s = nI j → ¬ (k = 0 ∨ k = aAc A j 0 ∨ (k = 1 ∧ aAc A j 0 = 4) ∨ (k = 3 ∧ aAc A j 0 = 5)) → posti (-13) τ) (h3 : ¬ isA A s → posti (-11) τ) : w_X7_takenAct 20 posti s k τ := by
  have hb := hV.2.1
  unfold w_X7_takenAct
  refine m_isAc hV hA (fun j hj hs e => br_f (by decide) ?_) (fun q => br_t rfl (h3 q))
  have h1 := h1 j hj hs e
  have h2 := h2 j hj hs e
  rw [e, nI_clamp (by omega), (hA.2.1.2 j hj).1, ← e]
  refine ⟨by rw [e]; exact vp_in_nI (by omega) (by decide), 3, ?_⟩
  obtain ⟨q, hq, eq⟩ := as_nI (s := aAc A j 0) (n := 5) (hW.2.1 j hj).1
  rw [eq] at h1 h2 ⊢
  rcases (show q = 0 ∨ q = 1 ∨ q = 2 ∨ q = 3 ∨ q = 4 ∨ q = 5 by omega) with rfl | rfl | rfl | rfl | rfl | rfl
  · refine mt_0 2 (fun c => h1 (Or.inl c)) (fun c => h2 ?_)
    rintro (z | z | z | z)
    · exact c z
    · exact c z
    · exact absurd z.2 (by decide)
    · exact absurd z.2 (by decide)
  · refine mt_s (r := 0) (by decide) (by decide) 2 (fun c => h1 (Or.inr (Or.inl c))) (fun d => mt_0 1 (fun c => h1 (Or.inl c)) (fun c => h2 ?_))
    rintro (z | z | z | z)
    · exact c z
    · exact d z
    · exact absurd z.2 (by decide)
    · exact absurd z.2 (by decide)
  · refine mt_s (r := 0) (by decide) (by decide) 2 (fun c => h1 (Or.inr (Or.inl c))) (fun d => mt_0 1 (fun c => h1 (Or.inl c)) (fun c => h2 ?_))
    rintro (z | z | z | z)
    · exact c z
    · exact d z
    · exact absurd z.2 (by decide)
    · exact absurd z.2 (by decide)
  · refine mt_s (r := 0) (by decide) (by decide) 2 (fun c => h1 (Or.inr (Or.inl c))) (fun d => mt_0 1 (fun c => h1 (Or.inl c)) (fun c => h2 ?_))
    rintro (z | z | z | z)
    · exact c z
    · exact d z
    · exact absurd z.2 (by decide)
    · exact absurd z.2 (by decide)
  · refine mt_s (r := 1) (by decide) (by decide) 2 (fun c => h1 (Or.inr (Or.inl c))) (fun d => mt_s (q := 1) (r := 0) (by decide) (by decide) 1 (fun c => h1 (Or.inr (Or.inr (Or.inl ⟨c, rfl⟩)))) (fun e => mt_0 0 (fun c => h1 (Or.inl c)) (fun c => h2 ?_)))
    rintro (z | z | z | z)
    · exact c z
    · exact d z
    · exact e z.1
    · exact absurd z.2 (by decide)
  · refine mt_s (r := 3) (by decide) (by decide) 2 (fun c => h1 (Or.inr (Or.inl c))) (fun d => mt_s (q := 3) (r := 0) (by decide) (by decide) 1 (fun c => h1 (Or.inr (Or.inr (Or.inr ⟨c, rfl⟩)))) (fun e => mt_0 0 (fun c => h1 (Or.inl c)) (fun c => h2 ?_)))
    rintro (z | z | z | z)
    · exact c z
    · exact d z
    · exact absurd z.2 (by decide)
    · exact e z.1
theorem m_taken (hV : Bd A) (hW : VA A) (hA : MS A τ) {i k : Int32} (h : posti (takenF A i k) τ) : w_X7_taken 20 posti i k τ := by
  have hb := hV.1
  have hb2 := hV.2.1
  unfold takenF at h
  unfold w_X7_taken
  refine m_in' (lo := 0) (hi := 6) (by decide) (by decide) (fun hk => br_f (by decide) (m_in' (lo := 0) (hi := 15) (by decide) (by decide) (fun hi => br_f (by decide) (brge (c := 4) (n := 4) (by decide) (fun g => ?_) (fun g => ?_))) (fun q => br_t rfl ?_))) (fun q => br_t rfl ?_)
  · rw [if_pos hk, if_pos hi, if_neg (by omega)] at h
    refine m_takenAct hV hW hA (fun j hj hs e q => ?_) (fun j hj hs e q => ?_) (fun q => ?_)
    · have ej : (i - 4).toInt.toNat = j := by rw [e]; exact i_nI (by omega)
      rw [if_pos hs, ej] at h
      have k6 : ¬ k = 6 := by
        intro z
        have ho := (hW.2.1 j hj).1
        have e6 : (6 : Int32).toInt = 6 := by decide
        rcases q with q | q | q | q
        · rw [z] at q; exact absurd q (by decide)
        · rw [← q, z, e6] at ho; omega
        · rw [z] at q; exact absurd q.1 (by decide)
        · rw [z] at q; exact absurd q.1 (by decide)
      rw [if_pos ⟨k6, q⟩] at h; exact h
    · have ej : (i - 4).toInt.toNat = j := by rw [e]; exact i_nI (by omega)
      rw [if_pos hs, ej, if_neg (fun z => q z.2)] at h; exact h
    · rw [if_neg q] at h; exact h
  · rw [if_pos hk, if_pos hi, if_pos (by omega)] at h
    refine m_isCh hV hA (fun j hj hs e => br_f (by decide) ?_) (fun q => br_t rfl ?_)
    · rw [if_pos hs, e, i_nI (by omega)] at h
      rw [e, show (5 : Int32) * nI j = nI (5 * j) from i_mul (a := 5), nI_clamp (by omega)]
      refine ⟨fun c => ⟨vp_in_nI (by omega) (by decide), fun x14 e14 => ?_⟩, fun c => ?_⟩
      · have g : gi τ 1 (5 * j) = aCh A j 0 := hA.1.2 j 0 hj (by decide)
        rw [if_pos c] at h; rw [e14, g]; exact h
      · rw [if_neg c] at h; exact h
    · rw [if_neg q] at h; exact h
  · rw [if_pos hk, if_neg q] at h; exact h
  · rw [if_neg q] at h; exact h
/-! images -/
theorem c_copyL {a b x y : Nat} (hab : (a = 1 ∧ b = 10 ∧ x = 0 ∧ y = 2) ∨ (a = 10 ∧ b = 1 ∧ x = 2 ∧ y = 0)) (hM : 53 ≤ M) {n : Nat} (hn : n ≤ 4) {τ0 : St} (h : ∀ τ' : St, τ'.2 = τ0.2 → (∀ r k, (∀ i, i < n → r ≠ 18 + y + 4 * i) → gi τ' r k = gi τ0 r k) → (∀ i k, i < n → k < 5 → gi τ' (18 + y + 4 * i) k = gi τ0 (18 + x + 4 * i) k) → post τ') : ∀ (k j : Nat) (τ : St), j + k = n → τ.2 = τ0.2 → (∀ r k, (∀ i, i < j → r ≠ 18 + y + 4 * i) → gi τ r k = gi τ0 r k) → (∀ i k, i < j → k < 5 → gi τ (18 + y + 4 * i) k = gi τ0 (18 + x + 4 * i) k) → wl_X6_copyCheeses_2 M post (k + 1) a b (nI n) (nI j) τ := by
  have ka : ∀ (σ : St) (j : Nat), rcC σ a j = some (17 + x + 4 * j) := by
    intro σ j
    rcases hab with ⟨rfl, rfl, rfl, rfl⟩ | ⟨rfl, rfl, rfl, rfl⟩
    · rfl
    · rfl
  have kb : ∀ (σ : St) (j : Nat), rcC σ b j = some (17 + y + 4 * j) := by
    intro σ j
    rcases hab with ⟨rfl, rfl, rfl, rfl⟩ | ⟨rfl, rfl, rfl, rfl⟩
    · rfl
    · rfl
  have hxy : (x = 0 ∧ y = 2) ∨ (x = 2 ∧ y = 0) := by
    rcases hab with ⟨rfl, rfl, rfl, rfl⟩ | ⟨rfl, rfl, rfl, rfl⟩
    · exact Or.inl ⟨rfl, rfl⟩
    · exact Or.inr ⟨rfl, rfl⟩
  have kd : ∀ j z, j < 4 → (z = 0 ∨ z = 2) → kdC (17 + z + 4 * j) = 1 ∧ 17 + z + 4 * j < M := by
    intro j z hj hz
    have key : ∀ j, j < 4 → kdC (17 + 0 + 4 * j) = 1 ∧ kdC (17 + 2 + 4 * j) = 1 := by decide +kernel
    rcases hz with rfl | rfl
    · exact ⟨(key j hj).1, by omega⟩
    · exact ⟨(key j hj).2, by omega⟩
  intro k
  induction k with
  | zero =>
    intro j τ hj h1 h2 h3
    have hj : j = n := hj
    subst hj
    exact br_t (Int32.le_refl _) (h τ h1 h2 h3)
  | succ k ih =>
    intro j τ hj h1 h2 h3
    have hv := vp_in_nI (n := j) (N := 4) (by omega) (by decide)
    have n4 : ¬ 4 ≤ nI j := nI_ge (b := 4) (by omega) (by decide)
    have kx := kd j x (by omega) (by omega)
    have ky := kd j y (by omega) (by omega)
    show w_X6_copyCheeses_2 M post _ a b (nI n) (nI j) τ
    unfold w_X6_copyCheeses_2
    rw [nI_clamp (by omega)]
    refine br_f (nI_ge (by omega) (by omega)) (br_f n4 (br_f n4 ⟨hv, fun q4 e4 => ⟨fun q => ?_, fun o5 q5 => ?_⟩⟩))
    · rw [e4, ka] at q; cases q
    rw [e4, ka] at q5
    cases q5
    refine ⟨kx, hv, fun q8 e8 => ⟨fun q => ?_, fun o9 q9 => ?_⟩⟩
    · rw [e8, kb] at q; cases q
    rw [e8, kb] at q9
    cases q9
    refine ⟨ky, hv, fun q12 e12 => ⟨hv, fun q13 e13 => ⟨17 + y + 4 * j, by rw [e12, kb], ky, 17 + x + 4 * j, by rw [e13, ka], kx, ?_⟩⟩⟩
    unfold w_X1_becomeLike
    refine ⟨ky, kx, ⟨by decide, by decide, by decide, by decide, by decide⟩, fun σ1 e1 x17 e17 => ?_⟩
    rw [e17, nI_1]
    have fr : ∀ r c, r ≠ 18 + y + 4 * j → gi σ1 r c = gi τ r c := by
      intro r c hr
      rw [e1]
      show (if r = 17 + y + 4 * j + 1 then _ else _) = _
      rw [if_neg (by omega)]; rfl
    have tk : ∀ c, c < 5 → gi σ1 (18 + y + 4 * j) c = gi τ (18 + x + 4 * j) c := by
      intro c hc
      rw [e1]
      show (if 18 + y + 4 * j = 17 + y + 4 * j + 1 then va_cpy (fun z => gi τ (17 + x + 4 * j + 1) z) _ 0 0 5 c else _) = _
      rw [if_pos (by omega)]
      unfold va_cpy
      rw [if_pos (by omega), show 17 + x + 4 * j + 1 = 18 + x + 4 * j by omega, show 0 + (c - 0) = c by omega]
    refine ih (j + 1) σ1 (by omega) (by rw [e1]; exact h1) (fun r c hr => ?_) (fun i c hi hc => ?_)
    · rw [fr r c (hr j (by omega))]
      exact h2 r c (fun i hi => hr i (by omega))
    · by_cases q : i = j
      · rw [q, tk c hc]
        exact h2 _ _ (fun i hi => by omega)
      · rw [fr _ _ (by omega)]
        exact h3 i c (by omega) hc
theorem c_copyCh {a b x y : Nat} (hab : (a = 1 ∧ b = 10 ∧ x = 0 ∧ y = 2) ∨ (a = 10 ∧ b = 1 ∧ x = 2 ∧ y = 0)) (hM : 53 ≤ M) {n : Nat} (hn : n ≤ 4) (h : ∀ τ' : St, τ'.2 = τ.2 → (∀ r k, (∀ i, i < n → r ≠ 18 + y + 4 * i) → gi τ' r k = gi τ r k) → (∀ i k, i < n → k < 5 → gi τ' (18 + y + 4 * i) k = gi τ (18 + x + 4 * i) k) → post τ') : w_X6_copyCheeses M post a b (nI n) τ := by
  unfold w_X6_copyCheeses
  have kd : (kdC a = 60 ∧ a < M) ∧ (kdC b = 60 ∧ b < M) := by
    rcases hab with ⟨rfl, rfl, rfl, rfl⟩ | ⟨rfl, rfl, rfl, rfl⟩
    · exact ⟨⟨by decide, by omega⟩, by decide, by omega⟩
    · exact ⟨⟨by decide, by omega⟩, by decide, by omega⟩
  exact ⟨kd.1, kd.2, n + 1, c_copyL hab hM hn h n 0 τ (by omega) rfl (fun _ _ _ => rfl) (fun i k hi _ => absurd hi (by omega))⟩
def imageF (A : Ab) : Int32 × Ab := (nI (aNc A), sKp A (aNc A + 1) (aCh A) (aTd A) (aLn A))
theorem c_image (hA : CS M A τ) (h : ∀ τ', CS M (imageF A).2 τ' → posti (imageF A).1 τ') : w_X6_image M posti τ := by
  have hM := hA.2.2.2.2.2.2.2.1
  obtain ⟨⟨c1, c1b, c1c⟩, -, ⟨-, -, c3c, -⟩, c4, -⟩ := id hA
  unfold w_X6_image
  rw [c1]
  refine c_copyCh (x := 0) (y := 2) (Or.inl ⟨rfl, rfl, rfl, rfl⟩) hM c1b (fun τ1 t1 t2 t3 => ⟨⟨by decide, by decide, by decide, by decide, by decide⟩, fun σ2 e2 σ3 e3 σ4 e4 => ?_⟩)
  have f1 : ∀ r k, ¬ (20 ≤ r ∧ r ≤ 32 ∧ r % 4 = 0) → gi τ1 r k = gi τ r k := fun r k hr => t2 r k (fun i hi => by omega)
  have f2 : ∀ r k, r ≠ 11 → gi σ2 r k = gi τ1 r k := by
    intro r k hr
    rw [e2]
    show (if r = 11 then _ else _) = _
    rw [if_neg hr]; rfl
  have g11 : ∀ k, k < 3 → gi σ2 11 k = aTd A k := by
    intro k hk
    rw [e2]
    show va_cpy (fun j => gi τ1 4 j) (fun j => gi τ1 11 j) 0 0 3 k = _
    unfold va_cpy
    rw [if_pos (by omega), show 0 + (k - 0) = k by omega]
    exact (f1 4 k (by omega)).trans (c4 k hk)
  have g06 : gi σ2 0 6 = nI (aLn A) := by rw [f2 _ _ (by decide), f1 _ _ (by omega)]; exact c3c
  rw [g06] at e3
  have g01 : gi σ3 0 1 = nI (aNc A) := by rw [e3, gsk (by decide), f2 _ _ (by decide), f1 _ _ (by omega)]; exact c1
  rw [g01] at e4
  have g4 : gi σ4 0 1 = nI (aNc A) := by rw [e4, gsk (by decide)]; exact g01
  rw [g4]
  have fr : ∀ a k, ¬ (a = 0 ∧ (k = 11 ∨ k = 13)) → ¬ (20 ≤ a ∧ a ≤ 32 ∧ a % 4 = 0) → a ≠ 11 → gi σ4 a k = gi τ a k := fun a k p1 p2 p3 => by rw [e4, gsn (by omega), e3, gsn (by omega), f2 _ _ p3, f1 _ _ p2]
  have r2 : σ4.2 = τ.2 := by rw [e4, e3, e2]; exact t1
  refine h σ4 (CS_kp hA (fun a k => by unfold gr; rw [r2]) (fun a => by unfold gz; rw [r2]) fr ⟨fun e => ?_, fun n e => ?_⟩)
  · have e : aNc A + 1 = 0 := e
    omega
  · have e : aNc A + 1 = n + 1 := e
    have e : n = aNc A := by omega
    subst e
    refine ⟨?_, c1b, ?_, fun i k hi hk => ?_, fun k hk => ?_⟩
    · rw [e4, gss]
    · rw [e4, gsk (by decide), e3, gss]; rfl
    · rw [e4, gso (by omega), e3, gso (by omega), f2 _ _ (by omega), show 20 + 4 * i = 18 + 2 + 4 * i by omega, t3 i k hi hk, show 18 + 0 + 4 * i = 18 + 4 * i by omega]
      exact c1c i k hi hk
    · rw [e4, gso (by decide), e3, gso (by decide)]; exact g11 k hk
theorem m_cpL {pd : Nat → Prop} {a b N : Nat} (hab : a ≠ b) {τ0 : St} {W : Nat → Int32 → St → Prop} (hW : ∀ (n j : Nat) (τ : St), j < N → (∀ r c, r ≠ b → gi τ r c = gi τ0 r c) → (∀ σ2 : St, σ2 = si τ b j (gi τ a j) → W n (nI (j + 1)) σ2) → W (n + 1) (nI j) τ) (h : ∀ τ' : St, (∀ r c, r ≠ b → gi τ' r c = gi τ0 r c) → (∀ c, c < N → gi τ' b c = gi τ0 a c) → (∀ c, N ≤ c → gi τ' b c = gi τ0 b c) → W 1 (nI N) τ') : ∀ (k j : Nat) (τ : St), j + k = N → (∀ r c, r ≠ b → gi τ r c = gi τ0 r c) → (∀ c, c < j → gi τ b c = gi τ0 a c) → (∀ c, j ≤ c → gi τ b c = gi τ0 b c) → W (k + 1) (nI j) τ := by
  intro k
  induction k with
  | zero =>
    intro j τ hj h1 h2 h3
    have hj : j = N := hj
    subst hj
    exact h τ h1 h2 h3
  | succ k ih =>
    intro j τ hj h1 h2 h3
    refine hW (k + 1) j τ (by omega) h1 (fun σ2 e2 => ?_)
    rw [h1 a j hab] at e2
    refine ih (j + 1) σ2 (by omega) (fun r c hr => by rw [e2, gso hr]; exact h1 r c hr) (fun c hc => ?_) (fun c hc => ?_)
    · rw [e2]
      by_cases q : c = j
      · rw [q]; exact gss
      · rw [gsk q]; exact h2 c (by omega)
    · rw [e2, gsk (by omega)]; exact h3 c (by omega)
theorem m_image (hV : Bd A) (hA : MS A τ) (h : ∀ τ', MS (imageF A).2 τ' → posti (imageF A).1 τ') : w_X7_image 20 posti τ := by
  have h4 := hV.1
  obtain ⟨⟨m1, m1b⟩, -, ⟨-, m3b, -⟩, m4, -⟩ := id hA
  unfold w_X7_image
  intro σ1 e1 σ2 e2 σ3 e3
  have g00 : gi σ1 0 0 = nI (aNc A) := by rw [e1, gsk (by decide)]; exact m1
  rw [g00] at e2
  have g06 : gi σ2 0 6 = nI (aLn A) := by rw [e2, gsk (by decide), e1, gsk (by decide)]; exact m3b
  rw [g06] at e3
  have f3 : ∀ r c, ¬ (r = 0 ∧ 29 ≤ c) → gi σ3 r c = gi τ r c := fun r c hr => by rw [e3, gsn (by omega), e2, gsn (by omega), e1, gsn (by omega)]
  refine ⟨21, m_cpL (pd := fun _ => True) (a := 1) (b := 14) (N := 20) (by decide) (τ0 := σ3) (W := fun n v τ => wl_X7_image_23 20 posti n v τ) (fun n j τ hj _ k => ?_) (fun τ1 t1 t2 _ => ?_) 20 0 σ3 rfl (fun _ _ _ => rfl) (fun c hc => absurd hc (by omega)) (fun _ _ => rfl)⟩
  · show w_X7_image_23 20 posti _ (nI j) τ
    unfold w_X7_image_23
    rw [nI_clamp (by omega)]
    exact br_f (nI_ge (b := 20) (by omega) (by decide)) ⟨vp_in_nI (by omega) (by decide), vp_in_nI (by omega) (by decide), fun σ2 e2 x3 e3 => by rw [e3, nI_1]; exact k σ2 e2⟩
  · show w_X7_image_23 20 posti _ (nI 20) τ1
    unfold w_X7_image_23
    refine br_t (by decide) ⟨4, m_cpL (pd := fun _ => True) (a := 2) (b := 15) (N := 3) (by decide) (τ0 := τ1) (W := fun n v τ => wl_X7_image_49 20 posti n v τ) (fun n j τ hj _ k => ?_) (fun τ2 s1 s2 _ => ?_) 3 0 τ1 rfl (fun _ _ _ => rfl) (fun c hc => absurd hc (by omega)) (fun _ _ => rfl)⟩
    · show w_X7_image_49 20 posti _ (nI j) τ
      unfold w_X7_image_49
      rw [nI_clamp (by omega)]
      exact br_f (nI_ge (b := 3) (by omega) (by decide)) ⟨vp_in_nI (by omega) (by decide), vp_in_nI (by omega) (by decide), fun σ2 e2 x3 e3 => by rw [e3, nI_1]; exact k σ2 e2⟩
    · show w_X7_image_49 20 posti _ (nI 3) τ2
      unfold w_X7_image_49
      have g0 : ∀ r c, r ≠ 14 → r ≠ 15 → gi τ2 r c = gi σ3 r c := fun r c h14 h15 => (s1 r c h15).trans (t1 r c h14)
      have gc : gi τ2 0 0 = nI (aNc A) := by rw [g0 _ _ (by decide) (by decide), f3 _ _ (by omega)]; exact m1
      rw [gc]
      refine br_t (by decide) (h τ2 (MS_kp hA (fun a k hn p1 p2 => by rw [g0 _ _ (by omega) (by omega), f3 _ _ p1]) ⟨fun e => ?_, fun n e => ?_⟩))
      · have e : aNc A + 1 = 0 := e
        omega
      · have e : aNc A + 1 = n + 1 := e
        have e : n = aNc A := by omega
        subst e
        refine ⟨?_, ?_, ?_, fun i k hi hk => ?_, fun k hk => ?_⟩
        · rw [g0 _ _ (by decide) (by decide), e3, gsk (by decide), e2, gsk (by decide), e1, gss]
        · rw [g0 _ _ (by decide) (by decide), e3, gsk (by decide), e2, gss]
        · rw [g0 _ _ (by decide) (by decide), e3, gss]; rfl
        · rw [s1 _ _ (by decide), t2 _ (by omega), f3 _ _ (by omega)]
          exact m1b i k hi hk
        · rw [s2 _ hk, t1 _ _ (by decide), f3 _ _ (by omega)]
          exact m4 k hk
theorem v_image (hV : Bd A) (hW : VA A) : VA (imageF A).2 := by
  refine VA_kp hW (fun m e => ?_)
  have e : aNc A = m := by omega
  subst e
  exact ⟨hW.1, hW.2.2.1, hV.2.2.2⟩
def bakC (A : Ab) (n : Nat) : Nat → Nat → Int32 := fun i => if i < n then aKc A i else aCh A i
def bakA (A : Ab) (n : Nat) : Ab := sTd (sLw (sCh A (aNc A) (bakC A n)) (aLw A) (aNl A) (aKl A)) (aKt A)
def backF (A : Ab) : Int32 × Ab := if aKp A = 0 then (-3, A) else (nI (aNc A), bakA A (aKp A - 1))
theorem c_back (hW : VA A) (hA : CS M A τ) (h : ∀ τ', CS M (backF A).2 τ' → posti (backF A).1 τ') : w_X6_back M posti τ := by
  have hM := hA.2.2.2.2.2.2.2.1
  obtain ⟨⟨c1, c1b, c1c⟩, -, ⟨c3, c3b, c3c, c3d, c3e⟩, c4, -, ⟨c6, c6b⟩, -⟩ := id hA
  unfold backF at h
  unfold w_X6_back
  by_cases c : aKp A = 0
  · rw [if_pos c] at h
    exact br_t (c6 c) (h τ hA)
  · rw [if_neg c] at h
    obtain ⟨n, hn⟩ : ∃ n, aKp A = n + 1 := ⟨aKp A - 1, by omega⟩
    rw [hn, show n + 1 - 1 = n by omega] at h
    obtain ⟨k1, k2, k3, k4, k5⟩ := c6b n hn
    have hl := (hW.2.2.2.2.1 n hn).2.2
    rw [k1]
    refine br_f (by rw [ieq, nI_toInt (by omega), im1]; omega) (c_copyCh (x := 2) (y := 0) (Or.inr ⟨rfl, rfl, rfl, rfl⟩) hM k2 (fun τ1 t1 t2 t3 => ⟨⟨by decide, by decide, by decide, by decide, by decide⟩, fun σ3 e3 σ4 e4 => ?_⟩))
    have f1 : ∀ r k, ¬ (18 ≤ r ∧ r ≤ 30 ∧ r % 4 = 2) → gi τ1 r k = gi τ r k := fun r k hr => t2 r k (fun i hi => by omega)
    have q1 : CS M (sCh A (aNc A) (bakC A n)) τ1 := by
      refine CS_ch hA (fun a k => by unfold gr; rw [t1]) (fun a => by unfold gz; rw [t1]) (fun a k _ h2 => f1 a k h2) ⟨?_, c1b, fun i k hi hk => ?_⟩
      · rw [f1 _ _ (by omega)]; exact c1
      · show _ = bakC A n i k
        have hi : i < aNc A := hi
        unfold bakC
        by_cases q : i < n
        · rw [if_pos q, show 18 + 4 * i = 18 + 0 + 4 * i by omega, t3 i k q hk, show 18 + 2 + 4 * i = 20 + 4 * i by omega]
          exact k4 i k q hk
        · rw [if_neg q, t2 _ _ (fun j hj => by omega)]
          exact c1c i k hi hk
    have f3 : ∀ r k, r ≠ 4 → gi σ3 r k = gi τ1 r k := by
      intro r k hr
      rw [e3]
      show (if r = 4 then _ else _) = _
      rw [if_neg hr]; rfl
    have q2 : CS M (sTd (sCh A (aNc A) (bakC A n)) (aKt A)) σ3 := by
      refine CS_td q1 (fun _ _ => by rw [e3]; rfl) (fun _ => by rw [e3]; rfl) (fun a k h4 => f3 a k h4) (fun k hk => ?_)
      rw [e3]
      show va_cpy (fun j => gi τ1 11 j) (fun j => gi τ1 4 j) 0 0 3 k = aKt A k
      unfold va_cpy
      rw [if_pos (by omega), show 0 + (k - 0) = k by omega]
      exact (f1 11 k (by omega)).trans (k5 k hk)
    have g13 : gi σ3 0 13 = nI (aKl A) := by rw [f3 _ _ (by decide), f1 _ _ (by omega)]; exact k3
    rw [g13] at e4
    have q3 : CS M (bakA A n) σ4 := by
      refine CS_ln (A := sTd (sCh A (aNc A) (bakC A n)) (aKt A)) (f := aLw A) (n := aNl A) (l := aKl A) q2 (fun _ _ => by rw [e4]; rfl) (fun _ => by rw [e4]; rfl) (fun a k hh => by rw [e4, gsn (by omega)]) ⟨?_, c3b, ?_, hl, fun t ht => ?_⟩
      · rw [e4, gsk (by decide)]; exact q2.2.2.1.1
      · rw [e4, gss]; rfl
      · obtain ⟨r, p1, p2⟩ := q2.2.2.1.2.2.2.2 t ht
        refine ⟨r, by rw [e4]; exact p1, ?_⟩
        rw [e4]
        exact LawAt_frame p2 (Nat.le_refl M) (fun a k h1 _ => gso (by omega)) (fun _ _ => rfl)
    have g4 : gi σ4 0 1 = nI (aNc A) := q3.1.1
    rw [g4]
    exact h σ4 q3
theorem m_back (hV : Bd A) (hK : ∀ n, aKp A = n + 1 → n ≤ 4) (hA : MS A τ) (h : ∀ τ', MS (backF A).2 τ' → posti (backF A).1 τ') : w_X7_back 20 posti τ := by
  have h4 := hV.1
  obtain ⟨⟨m1, m1b⟩, -, ⟨m3, m3b, m3c⟩, m4, -, ⟨m6, m6b⟩, -⟩ := id hA
  unfold backF at h
  unfold w_X7_back
  by_cases c : aKp A = 0
  · rw [if_pos c] at h
    exact br_t (m6 c) (h τ hA)
  · rw [if_neg c] at h
    obtain ⟨n, hn⟩ : ∃ n, aKp A = n + 1 := ⟨aKp A - 1, by omega⟩
    rw [hn, show n + 1 - 1 = n by omega] at h
    have hn4 := hK n hn
    obtain ⟨k1, k2, k3, k4, k5⟩ := m6b n hn
    rw [k1, k3]
    refine br_f (by decide) (fun σ2 e2 => ⟨5 * n + 1, ?_⟩)
    have g30 : gi σ2 0 30 = nI n := by rw [e2, gsk (by decide)]; exact k2
    have e5 : (5 : Int32) * nI n = nI (5 * n) := i_mul (a := 5)
    refine m_cpL (pd := fun _ => True) (a := 14) (b := 1) (N := 5 * n) (by decide) (τ0 := σ2) (W := fun n v τ => wl_X7_back_20 20 posti n v τ) (fun m j τ hj hf k => ?_) (fun τ1 t1 t2 t3 => ?_) (5 * n) 0 σ2 (by omega) (fun _ _ _ => rfl) (fun c hc => absurd hc (by omega)) (fun _ _ => rfl)
    · show w_X7_back_20 20 posti _ (nI j) τ
      unfold w_X7_back_20
      rw [nI_clamp (by omega), hf 0 30 (by decide), g30, e5]
      exact br_f (nI_ge (by omega) (by omega)) ⟨vp_in_nI (by omega) (by decide), vp_in_nI (by omega) (by decide), fun σ2 e2 x3 e3 => by rw [e3, nI_1]; exact k σ2 e2⟩
    · show w_X7_back_20 20 posti _ (nI (5 * n)) τ1
      unfold w_X7_back_20
      rw [t1 0 30 (by decide), g30, e5]
      refine br_t (Int32.le_refl _) ⟨4, m_cpL (pd := fun _ => True) (a := 15) (b := 2) (N := 3) (by decide) (τ0 := τ1) (W := fun n v τ => wl_X7_back_50 20 posti n v τ) (fun n j τ hj _ k => ?_) (fun τ2 s1 s2 _ => ?_) 3 0 τ1 rfl (fun _ _ _ => rfl) (fun c hc => absurd hc (by omega)) (fun _ _ => rfl)⟩
      · show w_X7_back_50 20 posti _ (nI j) τ
        unfold w_X7_back_50
        rw [nI_clamp (by omega)]
        exact br_f (nI_ge (b := 3) (by omega) (by decide)) ⟨vp_in_nI (by omega) (by decide), vp_in_nI (by omega) (by decide), fun σ2 e2 x3 e3 => by rw [e3, nI_1]; exact k σ2 e2⟩
      · show w_X7_back_50 20 posti _ (nI 3) τ2
        unfold w_X7_back_50
        have p1 : MS (sLw A (aLw A) (aNl A) (aKl A)) σ2 := by
          rw [e2]
          refine MS_ln hA (fun a k _ h0 h4 => gsn (by omega)) ⟨?_, gss, fun t ht => MTxR_frame (m3c t ht) (fun a k ha _ => gso (by omega)) (fun k _ => gso (by omega))⟩
          rw [gsk (by decide)]; exact m3
        have p2 : MS (sCh (sLw A (aLw A) (aNl A) (aKl A)) (aNc A) (bakC A n)) τ1 := by
          refine MS_ch p1 (fun a k _ h0 h1 => t1 a k h1) ⟨?_, fun i k hi hk => ?_⟩
          · rw [t1 _ _ (by decide)]; exact p1.1.1
          · show _ = bakC A n i k
            have hi : i < aNc A := hi
            unfold bakC
            by_cases q : i < n
            · rw [if_pos q, t2 _ (by omega)]
              rw [e2, gso (by decide)]
              exact k4 i k q hk
            · rw [if_neg q, t3 _ (by omega)]
              rw [e2, gso (by decide)]
              exact m1b i k hi hk
        have p3 : MS (bakA A n) τ2 := by
          refine MS_td (A := sCh (sLw A (aLw A) (aNl A) (aKl A)) (aNc A) (bakC A n)) (f := aKt A) p2 (fun a k _ h2 => s1 a k h2) (fun k hk => ?_)
          rw [s2 k hk, t1 _ _ (by decide), e2, gso (by decide)]
          exact k5 k hk
        have g : gi τ2 0 0 = nI (aNc A) := p3.1.1
        rw [g]
        exact br_t (by decide) (h τ2 p3)
theorem v_back (hW : VA A) : VA (backF A).2 := by
  unfold backF
  by_cases c : aKp A = 0
  · rw [if_pos c]; exact hW
  · rw [if_neg c]
    obtain ⟨n, hn⟩ : ∃ n, aKp A = n + 1 := ⟨aKp A - 1, by omega⟩
    rw [hn, show n + 1 - 1 = n by omega]
    obtain ⟨k1, k2, k3⟩ := hW.2.2.2.2.1 n hn
    refine VA_td (A := sLw (sCh A (aNc A) (bakC A n)) (aLw A) (aNl A) (aKl A)) (VA_lw (A := sCh A (aNc A) (bakC A n)) (VA_ch hW (fun i hi => ?_)) (Nat.le_refl _)) k2
    unfold bakC
    by_cases q : i < n
    · rw [if_pos q]; exact k1 i q
    · rw [if_neg q]; exact hW.1 i hi
end IMAGES
