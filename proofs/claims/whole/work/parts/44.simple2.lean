/-! acts, cheeses, the tape -/
section SIMPLE2
variable {M : Nat} {A : Ab} {post : St → Prop} {posti : Int32 → St → Prop} {τ : St}
abbrev isA (A : Ab) (s : Int32) : Prop := 0 ≤ s.toInt ∧ s.toInt < (aNa A : Int)
theorem c_acAt {postq : Option Nat → St → Prop} (hA : CS M A τ) {s : Int32} (h1 : ∀ j, j < aNa A → isA A s → s = nI j → (kdC (33 + j) = 0 ∧ 33 + j < M) → postq (some (33 + j)) τ) (h2 : ¬ isA A s → postq none τ) : w_X6_actAt M postq s τ := by
  have hb := hA.2.1.2.1
  refine c_actAt hA (fun j hj e => h1 j hj ?_ e (kdAct hA.2.2.2.2.2.2.2.1 (by omega))) (fun q => h2 (by unfold isA; omega))
  unfold isA; rw [e, nI_toInt (by omega)]; omega
theorem m_isAc (hV : Bd A) (hA : MS A τ) {s : Int32} (h1 : ∀ j, j < aNa A → isA A s → s = nI j → posti 1 τ) (h0 : ¬ isA A s → posti 0 τ) : w_X7_isAct 20 posti s τ := by
  have hb := hV.2.1
  refine m_isAct hV hA (fun j hj e => h1 j hj ?_ e) (fun q => h0 (by unfold isA; omega))
  unfold isA; rw [e, nI_toInt (by omega)]; omega
def actTF (A : Ab) (s w : Int32) : Int32 :=
  if 0 ≤ s.toInt ∧ s.toInt < (aNa A : Int) then (if w = 0 then aAc A s.toInt.toNat 0 else if w = 1 then aAc A s.toInt.toNat 1 else if w = 2 then aAc A s.toInt.toNat 2 else if w = 3 then minsF (aAc A s.toInt.toNat 0) (aAc A s.toInt.toNat 1) else if w = 4 then stirF (aAc A s.toInt.toNat 0) else -7) else -5
theorem stir_01 (k : Int32) : stirF k = 0 ∨ stirF k = 1 := by
  unfold stirF
  split
  · exact Or.inl rfl
  · exact Or.inr rfl
theorem c_actTold (hA : CS M A τ) {s w : Int32} (h : posti (actTF A s w) τ) : w_X6_actTold M posti s w τ := by
  have hb := hA.2.1.2.1
  unfold actTF at h
  unfold w_X6_actTold
  refine c_acAt hA (fun j hj hs e hk => ⟨fun q => (by cases q), fun o e2 => ?_⟩) (fun q => ⟨fun _ => ?_, fun o e2 => (by cases e2)⟩)
  · cases e2
    rw [if_pos hs, e, i_nI (by omega)] at h
    have a0 := hA.2.1.2.2 j 0 hj (by decide)
    have a1 := hA.2.1.2.2 j 1 hj (by decide)
    have a2 := hA.2.1.2.2 j 2 hj (by decide)
    refine ⟨hk, ⟨fun c => ?_, fun c => ⟨fun d => ?_, fun d => ⟨fun e => ?_, fun e => ⟨fun f => ?_, fun f => ⟨fun g => ?_, fun g => ?_⟩⟩⟩⟩⟩⟩
    · rw [if_pos c] at h; rw [a0]; exact h
    · rw [if_neg c, if_pos d] at h; rw [a1]; exact h
    · rw [if_neg c, if_neg d, if_pos e] at h; rw [a2]; exact h
    · rw [if_neg c, if_neg d, if_neg e, if_pos f] at h
      exact c_mins hk (by rw [a0, a1]; exact h)
    · rw [if_neg c, if_neg d, if_neg e, if_neg f, if_pos g] at h
      refine c_stir hk ?_
      rw [a0]
      rcases stir_01 (aAc A j 0) with q | q
      · rw [q] at h ⊢; exact br_t rfl h
      · rw [q] at h ⊢; exact br_f (by decide) h
    · rw [if_neg c, if_neg d, if_neg e, if_neg f, if_neg g] at h; exact h
  · rw [if_neg q] at h; exact h
theorem m_actTold (hV : Bd A) (hA : MS A τ) {s w : Int32} (h : posti (actTF A s w) τ) : w_X7_actTold 20 posti s w τ := by
  have hb := hV.2.1
  unfold actTF at h
  unfold w_X7_actTold
  refine m_isAc hV hA (fun j hj hs e => br_f (by decide) ?_) (fun q => br_t rfl ?_)
  · rw [if_pos hs, e, i_nI (by omega)] at h
    obtain ⟨a0, a1, a2⟩ := hA.2.1.2 j hj
    have hv := vp_in_nI (n := j) (N := 12) (by omega) (by decide)
    rw [e, nI_clamp (by omega), a0, a1, a2]
    refine ⟨fun c => ?_, fun c => ⟨fun d => ?_, fun d => ⟨fun e => ?_, fun e => ⟨fun f => ?_, fun f => ⟨fun g => ?_, fun g => ?_⟩⟩⟩⟩⟩
    · rw [if_pos c] at h; exact ⟨hv, h⟩
    · rw [if_neg c, if_pos d] at h; exact ⟨hv, h⟩
    · rw [if_neg c, if_neg d, if_pos e] at h; exact ⟨hv, h⟩
    · rw [if_neg c, if_neg d, if_neg e, if_pos f] at h
      exact ⟨hv, hv, km_mins h⟩
    · rw [if_neg c, if_neg d, if_neg e, if_neg f, if_pos g] at h
      unfold stirF at h
      refine ⟨hv, fun q => ?_, fun q => ?_⟩
      · rw [if_pos q] at h; exact h
      · rw [if_neg q] at h; exact h
    · rw [if_neg c, if_neg d, if_neg e, if_neg f, if_neg g] at h; exact h
  · rw [if_neg q] at h; exact h
def row3 (k m f : Int32) : Nat → Int32 := fun j => if j = 0 then k else if j = 1 then m else f
def upR (f : Nat → Nat → Int32) (a : Nat) (g : Nat → Int32) : Nat → Nat → Int32 := fun i => if i = a then g else f i
theorem upR_s {f : Nat → Nat → Int32} {a : Nat} {g : Nat → Int32} : upR f a g a = g := by unfold upR; rw [if_pos rfl]
theorem upR_n {f : Nat → Nat → Int32} {a i : Nat} {g : Nat → Int32} (h : i ≠ a) : upR f a g i = f i := by unfold upR; rw [if_neg h]
def actOk (k m f : Int32) : Prop := (0 ≤ k.toInt ∧ k.toInt ≤ 5) ∧ (0 ≤ m.toInt ∧ m.toInt ≤ 9) ∧ (0 ≤ f.toInt ∧ f.toInt ≤ 9)
def actAF (A : Ab) (k m f : Int32) : Int32 × Ab := if (0 ≤ k.toInt ∧ k.toInt ≤ 5) ∧ (0 ≤ m.toInt ∧ m.toInt ≤ 9) ∧ (0 ≤ f.toInt ∧ f.toInt ≤ 9) then (if aNa A < 12 then (nI (aNa A), sAc A (aNa A + 1) (upR (aAc A) (aNa A) (row3 k m f))) else (-4, A)) else (-2, A)
theorem c_fits0 {k m f : Int32} (h1 : (0 ≤ k.toInt ∧ k.toInt ≤ 5) ∧ (0 ≤ m.toInt ∧ m.toInt ≤ 9) ∧ (0 ≤ f.toInt ∧ f.toInt ≤ 9) → posti 1 τ) (h0 : ¬ ((0 ≤ k.toInt ∧ k.toInt ≤ 5) ∧ (0 ≤ m.toInt ∧ m.toInt ≤ 9) ∧ (0 ≤ f.toInt ∧ f.toInt ≤ 9)) → posti 0 τ) : w_X0_fits M posti k m f τ := by
  unfold w_X0_fits
  exact brl z0' (fun q => h0 (by omega)) (fun q => brge (c := 6) (n := 6) (by decide) (fun q2 => h0 (by omega)) (fun q2 => brl z0' (fun q3 => h0 (by omega)) (fun q3 => brg (c := 9) (n := 9) (by decide) (fun q4 => h0 (by omega)) (fun q4 => brl z0' (fun q5 => h0 (by omega)) (fun q5 => brg (c := 9) (n := 9) (by decide) (fun q6 => h0 (by omega)) (fun q6 => h1 (by omega)))))))
theorem c_act (hA : CS M A τ) {k m f : Int32} (h : ∀ τ', CS M (actAF A k m f).2 τ' → posti (actAF A k m f).1 τ') : w_X6_act M posti k m f τ := by
  obtain ⟨-, ⟨c2, c2b, c2c⟩, -⟩ := id hA
  have hM := hA.2.2.2.2.2.2.2.1
  have e := nI_toInt (n := aNa A) (by omega)
  unfold actAF at h
  unfold w_X6_act
  refine c_fits0 (fun c => br_f (by decide) ?_) (fun c => br_t rfl ?_)
  · rw [if_pos c] at h
    rw [c2]
    by_cases d : aNa A < 12
    · rw [if_pos d] at h
      refine brl (c := 12) (n := 12) (by decide) (fun _ => fun σ5 e5 => ?_) (fun q => absurd (by omega) q)
      have es : nI (aNa A + 1) - 1 = nI (aNa A) := by
        have := nI_sub' (a := aNa A + 1) (b := 1) (by omega)
        rw [show aNa A + 1 - 1 = aNa A by omega] at this
        exact this
      have g03 : gi (si τ 0 3 (nI (aNa A + 1))) 0 3 = nI (aNa A + 1) := gss
      unfold w_X6_actAt
      rw [e5, nI_1, g03, es]
      refine br_f (nI_pos (by omega)) (br_f (nI_ge (by omega) (by omega)) (br_f (nI_ge (b := 12) (by omega) (by decide)) ⟨vp_in_nI (by omega) (by decide), fun o4 e4 => ?_⟩))
      rw [nI_clamp (by omega)] at e4
      subst e4
      have hk := kdAct hM d
      refine ⟨hk, fun q => (by cases q), fun o8 e8 => ?_⟩
      cases e8
      unfold w_X0_become
      refine ⟨hk, hk, fun σ1 e1 σ2 e2 σ3 e3 => ?_⟩
      have g3 : gi σ3 0 3 = nI (aNa A + 1) := by rw [e3, gso (by omega), e2, gso (by omega), e1, gso (by omega), gss]
      show posti (gi σ3 0 3 - 1) σ3
      rw [g3, es]
      refine h σ3 (CS_ac hA (fun _ _ => by rw [e3, e2, e1]; rfl) (fun _ => by rw [e3, e2, e1]; rfl) (fun a b h1 h2 => by rw [e3, gso (by omega), e2, gso (by omega), e1, gso (by omega), gsn h1]) ⟨g3, by show aNa A + 1 ≤ 12; omega, fun i b hi hb => ?_⟩)
      have hi : i < aNa A + 1 := hi
      show _ = upR (aAc A) (aNa A) (row3 k m f) i b
      by_cases ei : i = aNa A
      · rw [ei, upR_s]
        rcases (show b = 0 ∨ b = 1 ∨ b = 2 by omega) with rfl | rfl | rfl
        · rw [e3, gsk (by decide), e2, gsk (by decide), e1, gss]; rfl
        · rw [e3, gsk (by decide), e2, gss]; rfl
        · rw [e3, gss]; rfl
      · rw [upR_n ei, e3, gso (by omega), e2, gso (by omega), e1, gso (by omega), gso (by omega)]
        exact c2c i b (by omega) hb
    · rw [if_neg d] at h
      exact brl (c := 12) (n := 12) (by decide) (fun q => absurd q (by omega)) (fun _ => h τ hA)
  · rw [if_neg c] at h; exact h τ hA
theorem m_act (hV : Bd A) (hA : MS A τ) {k m f : Int32} (h : ∀ τ', MS (actAF A k m f).2 τ' → posti (actAF A k m f).1 τ') : w_X7_act 20 posti k m f τ := by
  have hb := hV.2.1
  obtain ⟨-, ⟨m2, m2b⟩, -⟩ := id hA
  have e := nI_toInt (n := aNa A) (by omega)
  unfold actAF at h
  unfold w_X7_act
  refine m_in' (lo := 0) (hi := 5) (by decide) (by decide) (fun c => br_f (by decide) (m_in' (lo := 0) (hi := 9) (by decide) (by decide) (fun d => br_f (by decide) (m_in' (lo := 0) (hi := 9) (by decide) (by decide) (fun g => br_f (by decide) ?_) (fun g => br_t rfl ?_))) (fun d => br_t rfl ?_))) (fun c => br_t rfl ?_)
  · rw [if_pos ⟨c, d, g⟩] at h
    rw [m2]
    refine bre (c := 12) (n := 12) (by decide) (fun q => ?_) (fun q => ⟨vp_in_nI (by omega) (by decide), fun σ11 e11 => ?_⟩)
    · rw [if_neg (by omega)] at h; exact h τ hA
    · rw [if_pos (by omega)] at h
      rw [nI_clamp (by omega)] at e11
      have g11 : gi σ11 0 21 = nI (aNa A) := by rw [e11, gso (by decide)]; exact m2
      rw [g11]
      refine ⟨vp_in_nI (by omega) (by decide), fun σ12 e12 => ?_⟩
      rw [nI_clamp (by omega)] at e12
      have g12 : gi σ12 0 21 = nI (aNa A) := by rw [e12, gso (by decide)]; exact g11
      rw [g12]
      refine ⟨vp_in_nI (by omega) (by decide), fun σ13 e13 σ14 e14 => ?_⟩
      rw [nI_clamp (by omega)] at e13
      have g13 : gi σ13 0 21 = nI (aNa A) := by rw [e13, gso (by decide)]; exact g12
      rw [g13, nI_1] at e14
      have g14 : gi σ14 0 21 = nI (aNa A + 1) := by rw [e14]; exact gss
      have es : nI (aNa A + 1) - 1 = nI (aNa A) := by
        have := nI_sub' (a := aNa A + 1) (b := 1) (by omega)
        rw [show aNa A + 1 - 1 = aNa A by omega] at this
        exact this
      rw [g14, es]
      refine h σ14 (MS_ac hA (fun a b _ h1 h2 => by rw [e14, gsn h1, e13, gso (by omega), e12, gso (by omega), e11, gso (by omega)]) ⟨g14, fun i hi => ?_⟩)
      have hi : i < aNa A + 1 := hi
      show _ = upR (aAc A) (aNa A) (row3 k m f) i 0 ∧ _ = upR (aAc A) (aNa A) (row3 k m f) i 1 ∧ _ = upR (aAc A) (aNa A) (row3 k m f) i 2
      by_cases ei : i = aNa A
      · rw [ei, upR_s]
        refine ⟨?_, ?_, ?_⟩
        · rw [e14, gso (by decide), e13, gso (by decide), e12, gso (by decide), e11, gss]; rfl
        · rw [e14, gso (by decide), e13, gso (by decide), e12, gss]; rfl
        · rw [e14, gso (by decide), e13, gss]; rfl
      · rw [upR_n ei]
        obtain ⟨b0, b1, b2⟩ := m2b i (by omega)
        refine ⟨?_, ?_, ?_⟩
        · rw [e14, gso (by decide), e13, gso (by decide), e12, gso (by decide), e11, gsk ei]; exact b0
        · rw [e14, gso (by decide), e13, gso (by decide), e12, gsk ei, e11, gso (by decide)]; exact b1
        · rw [e14, gso (by decide), e13, gsk ei, e12, gso (by decide), e11, gso (by decide)]; exact b2
  · rw [if_neg (fun q => g q.2.2)] at h; exact h τ hA
  · rw [if_neg (fun q => d q.2.1)] at h; exact h τ hA
  · rw [if_neg (fun q => c q.1)] at h; exact h τ hA
theorem v_act (hW : VA A) {k m f : Int32} : VA (actAF A k m f).2 := by
  unfold actAF
  by_cases c : (0 ≤ k.toInt ∧ k.toInt ≤ 5) ∧ (0 ≤ m.toInt ∧ m.toInt ≤ 9) ∧ (0 ≤ f.toInt ∧ f.toInt ≤ 9)
  · rw [if_pos c]
    by_cases d : aNa A < 12
    · rw [if_pos d]
      refine VA_ac hW (fun i hi => ?_)
      by_cases ei : i = aNa A
      · rw [ei, upR_s]; exact c
      · rw [upR_n ei]; exact hW.2.1 i (by omega)
    · rw [if_neg d]; exact hW
  · rw [if_neg c]; exact hW
/-! a cheese is made -/
def row5 (a b c d e : Int32) : Nat → Int32 := fun j => if j = 0 then a else if j = 1 then b else if j = 2 then c else if j = 3 then d else e
def mayV (lo : Int) (v : Int32) : Prop := lo ≤ v.toInt ∧ v.toInt ≤ 99
def cheeseF (A : Ab) (a b c d e : Int32) : Int32 × Ab := if (1 ≤ a.toInt ∧ a.toInt ≤ 99) ∧ (0 ≤ b.toInt ∧ b.toInt ≤ 99) ∧ (0 ≤ c.toInt ∧ c.toInt ≤ 99) ∧ (0 ≤ d.toInt ∧ d.toInt ≤ 99) ∧ (0 ≤ e.toInt ∧ e.toInt ≤ 99) then (if aNc A < 4 then (nI (aNc A), sCh A (aNc A + 1) (upR (aCh A) (aNc A) (row5 a b c d e))) else (-4, A)) else (-2, A)
theorem c_fitsK {w v : Int32} {lo : Int} (hw : 0 ≤ w.toInt ∧ w.toInt ≤ 4) (hl : lo = if w.toInt = 0 then 1 else 0) (h1 : lo ≤ v.toInt ∧ v.toInt ≤ 99 → posti 1 τ) (h0 : ¬ (lo ≤ v.toInt ∧ v.toInt ≤ 99) → posti 0 τ) : w_X1_fits M posti w v τ := by
  split at hl
  · exact c_fits (fun q => h1 (by unfold mayP at q; omega)) (fun q => h0 (fun r => q (by unfold mayP; omega)))
  · exact c_fits (fun q => h1 (by unfold mayP at q; omega)) (fun q => h0 (fun r => q (by unfold mayP; omega)))
theorem m_mayK {w v : Int32} {lo : Int} (hl : lo = if w.toInt = 0 then 1 else 0) (h1 : lo ≤ v.toInt ∧ v.toInt ≤ 99 → posti 1 τ) (h0 : ¬ (lo ≤ v.toInt ∧ v.toInt ≤ 99) → posti 0 τ) : w_X7_mayBe 20 posti w v τ := by
  split at hl
  · exact m_mayBe (fun q => h1 (by omega)) (fun q => h0 (fun r => q (by omega)))
  · exact m_mayBe (fun q => h1 (by omega)) (fun q => h0 (fun r => q (by omega)))
theorem c_cheese (hA : CS M A τ) {a b c d e : Int32} (h : ∀ τ', CS M (cheeseF A a b c d e).2 τ' → posti (cheeseF A a b c d e).1 τ') : w_X6_cheese M posti a b c d e τ := by
  obtain ⟨⟨c1, c1b, c1c⟩, -⟩ := id hA
  have hM := hA.2.2.2.2.2.2.2.1
  have eN := nI_toInt (n := aNc A) (by omega)
  unfold cheeseF at h
  unfold w_X6_cheese
  have bad : ¬ ((1 ≤ a.toInt ∧ a.toInt ≤ 99) ∧ (0 ≤ b.toInt ∧ b.toInt ≤ 99) ∧ (0 ≤ c.toInt ∧ c.toInt ≤ 99) ∧ (0 ≤ d.toInt ∧ d.toInt ≤ 99) ∧ (0 ≤ e.toInt ∧ e.toInt ≤ 99)) → w_X6_cheese_47 M posti a b c d e 0 τ := by
    intro q
    rw [if_neg q] at h
    unfold w_X6_cheese_47
    exact br_t rfl (h τ hA)
  refine c_fitsK (by decide) (by decide) (fun qa => br_f (by decide) (c_fitsK (by decide) (by decide) (fun qb => br_f (by decide) (c_fitsK (by decide) (by decide) (fun qc => br_f (by decide) (c_fitsK (by decide) (by decide) (fun qd => br_f (by decide) (c_fitsK (by decide) (by decide) (fun qe => br_f (by decide) ?_) (fun q => br_t rfl (bad (fun z => q z.2.2.2.2))))) (fun q => br_t rfl (bad (fun z => q z.2.2.2.1))))) (fun q => br_t rfl (bad (fun z => q z.2.2.1))))) (fun q => br_t rfl (bad (fun z => q z.2.1))))) (fun q => br_t rfl (bad (fun z => q z.1)))
  rw [if_pos ⟨qa, qb, qc, qd, qe⟩] at h
  unfold w_X6_cheese_47
  refine br_f (by decide) ?_
  rw [c1]
  by_cases g : aNc A < 4
  · rw [if_pos g] at h
    refine brl (c := 4) (n := 4) (by decide) (fun _ => fun σ5 e5 => ?_) (fun q => absurd (by omega) q)
    have es : nI (aNc A + 1) - 1 = nI (aNc A) := by
      have := nI_sub' (a := aNc A + 1) (b := 1) (by omega)
      rw [show aNc A + 1 - 1 = aNc A by omega] at this
      exact this
    have g03 : gi (si τ 0 1 (nI (aNc A + 1))) 0 1 = nI (aNc A + 1) := gss
    unfold w_X6_cheeseAt
    rw [e5, nI_1, g03, es]
    refine br_f (nI_pos (by omega)) (br_f (nI_ge (by omega) (by omega)) (br_f (nI_ge (b := 4) (by omega) (by decide)) ⟨vp_in_nI (by omega) (by decide), fun o4 e4 => ?_⟩))
    rw [nI_clamp (by omega)] at e4
    subst e4
    have hk := kdCh hM g
    refine ⟨hk, fun q => (by cases q), fun o8 e8 => ?_⟩
    cases e8
    refine ⟨hk, c_put5 hk (by decide) (c_put5 hk (by decide) (c_put5 hk (by decide) (c_put5 hk (by decide) (c_put5 hk (by decide) ?_))))⟩
    rw [show (0 : Int32).toInt.toNat = 0 by decide, show (1 : Int32).toInt.toNat = 1 by decide, show (2 : Int32).toInt.toNat = 2 by decide, show (3 : Int32).toInt.toNat = 3 by decide, show (4 : Int32).toInt.toNat = 4 by decide, show 17 + 4 * aNc A + 1 = 18 + 4 * aNc A by omega]
    have gs : gi (si (si (si (si (si (si τ 0 1 (nI (aNc A + 1))) (18 + 4 * aNc A) 0 a) (18 + 4 * aNc A) 1 b) (18 + 4 * aNc A) 2 c) (18 + 4 * aNc A) 3 d) (18 + 4 * aNc A) 4 e) 0 1 = nI (aNc A + 1) := by
      rw [gso (by omega), gso (by omega), gso (by omega), gso (by omega), gso (by omega), gss]
    rw [gs, es]
    refine h _ (CS_ch hA (fun _ _ => rfl) (fun _ => rfl) (fun x y h1 h2 => by rw [gso (by omega), gso (by omega), gso (by omega), gso (by omega), gso (by omega), gsn h1]) ⟨gs, by show aNc A + 1 ≤ 4; omega, fun i y hi hy => ?_⟩)
    have hi : i < aNc A + 1 := hi
    show _ = upR (aCh A) (aNc A) (row5 a b c d e) i y
    by_cases ei : i = aNc A
    · rw [ei, upR_s]
      rcases (show y = 0 ∨ y = 1 ∨ y = 2 ∨ y = 3 ∨ y = 4 by omega) with rfl | rfl | rfl | rfl | rfl
      · rw [gsk (by decide), gsk (by decide), gsk (by decide), gsk (by decide), gss]; rfl
      · rw [gsk (by decide), gsk (by decide), gsk (by decide), gss]; rfl
      · rw [gsk (by decide), gsk (by decide), gss]; rfl
      · rw [gsk (by decide), gss]; rfl
      · rw [gss]; rfl
    · rw [upR_n ei, gso (by omega), gso (by omega), gso (by omega), gso (by omega), gso (by omega), gso (by omega)]
      exact c1c i y (by omega) hy
  · rw [if_neg g] at h
    exact brl (c := 4) (n := 4) (by decide) (fun q => absurd q (by omega)) (fun _ => h τ hA)
theorem m_cheese (hV : Bd A) (hA : MS A τ) {a b c d e : Int32} (h : ∀ τ', MS (cheeseF A a b c d e).2 τ' → posti (cheeseF A a b c d e).1 τ') : w_X7_cheese 20 posti a b c d e τ := by
  have hb := hV.1
  obtain ⟨⟨m1, m1b⟩, -⟩ := id hA
  have eN := nI_toInt (n := aNc A) (by omega)
  unfold cheeseF at h
  unfold w_X7_cheese
  have bad : ¬ ((1 ≤ a.toInt ∧ a.toInt ≤ 99) ∧ (0 ≤ b.toInt ∧ b.toInt ≤ 99) ∧ (0 ≤ c.toInt ∧ c.toInt ≤ 99) ∧ (0 ≤ d.toInt ∧ d.toInt ≤ 99) ∧ (0 ≤ e.toInt ∧ e.toInt ≤ 99)) → posti (-2) τ := by
    intro q
    rw [if_neg q] at h
    exact h τ hA
  refine m_mayK (by decide) (fun qa => br_f (by decide) (m_mayK (by decide) (fun qb => br_f (by decide) (m_mayK (by decide) (fun qc => br_f (by decide) (m_mayK (by decide) (fun qd => br_f (by decide) (m_mayK (by decide) (fun qe => br_f (by decide) ?_) (fun q => br_t rfl (bad (fun z => q z.2.2.2.2))))) (fun q => br_t rfl (bad (fun z => q z.2.2.2.1))))) (fun q => br_t rfl (bad (fun z => q z.2.2.1))))) (fun q => br_t rfl (bad (fun z => q z.2.1))))) (fun q => br_t rfl (bad (fun z => q z.1)))
  rw [if_pos ⟨qa, qb, qc, qd, qe⟩] at h
  rw [m1]
  refine bre (c := 4) (n := 4) (by decide) (fun q => ?_) (fun q => fun σ17 e17 σ18 e18 σ19 e19 σ20 e20 σ21 e21 σ22 e22 => ?_)
  · rw [if_neg (by omega)] at h; exact h τ hA
  · rw [if_pos (by omega)] at h
    have hn4 : aNc A < 4 := by omega
    have fr : ∀ x y, x ≠ 20 → gi σ22 x y = gi τ x y := by
      intro x y hx
      rw [e22, gso hx, e21, gso hx, e20, gso hx, e19, gso hx, e18, gso hx, e17]
      show (if x = 20 then _ else _) = _
      rw [if_neg hx]; rfl
    have r0 : gi σ22 20 0 = a := by rw [e22, gsk (by decide), e21, gsk (by decide), e20, gsk (by decide), e19, gsk (by decide), e18, gss]
    have r1 : gi σ22 20 1 = b := by rw [e22, gsk (by decide), e21, gsk (by decide), e20, gsk (by decide), e19, gss]
    have r2 : gi σ22 20 2 = c := by rw [e22, gsk (by decide), e21, gsk (by decide), e20, gss]
    have r3 : gi σ22 20 3 = d := by rw [e22, gsk (by decide), e21, gss]
    have r4 : gi σ22 20 4 = e := by rw [e22, gss]
    have n0 : gi σ22 0 0 = nI (aNc A) := by rw [fr _ _ (by decide)]; exact m1
    clear e17 e18 e19 e20 e21 e22
    have ek : ∀ (y : Int32) (k : Nat), y.toInt = (k : Int) → k < 5 → (5 * nI (aNc A)) + y = nI (5 * aNc A + k) := by
      intro y k hy hk
      rw [m_5k hn4 (by omega), show y.toInt.toNat = k by omega]
    rw [n0, r0, ek 0 0 (by decide) (by decide)]
    refine ⟨vp_in_nI (by omega) (by decide), fun σ23 e23 => ?_⟩
    rw [nI_clamp (by omega)] at e23
    have n1 : gi σ23 0 0 = nI (aNc A) := by rw [e23, gso (by decide)]; exact n0
    have s1 : gi σ23 20 1 = b := by rw [e23, gso (by decide)]; exact r1
    rw [n1, s1, ek 1 1 (by decide) (by decide)]
    refine ⟨vp_in_nI (by omega) (by decide), fun σ24 e24 => ?_⟩
    rw [nI_clamp (by omega)] at e24
    have n2 : gi σ24 0 0 = nI (aNc A) := by rw [e24, gso (by decide)]; exact n1
    have s2 : gi σ24 20 2 = c := by rw [e24, gso (by decide), e23, gso (by decide)]; exact r2
    rw [n2, s2, ek 2 2 (by decide) (by decide)]
    refine ⟨vp_in_nI (by omega) (by decide), fun σ25 e25 => ?_⟩
    rw [nI_clamp (by omega)] at e25
    have n3 : gi σ25 0 0 = nI (aNc A) := by rw [e25, gso (by decide)]; exact n2
    have s3 : gi σ25 20 3 = d := by rw [e25, gso (by decide), e24, gso (by decide), e23, gso (by decide)]; exact r3
    rw [n3, s3, ek 3 3 (by decide) (by decide)]
    refine ⟨vp_in_nI (by omega) (by decide), fun σ26 e26 => ?_⟩
    rw [nI_clamp (by omega)] at e26
    have n4 : gi σ26 0 0 = nI (aNc A) := by rw [e26, gso (by decide)]; exact n3
    have s4 : gi σ26 20 4 = e := by rw [e26, gso (by decide), e25, gso (by decide), e24, gso (by decide), e23, gso (by decide)]; exact r4
    rw [n4, s4, ek 4 4 (by decide) (by decide)]
    refine ⟨vp_in_nI (by omega) (by decide), fun σ27 e27 σ28 e28 => ?_⟩
    rw [nI_clamp (by omega)] at e27
    have n5 : gi σ27 0 0 = nI (aNc A) := by rw [e27, gso (by decide)]; exact n4
    rw [n5, nI_1] at e28
    have n6 : gi σ28 0 0 = nI (aNc A + 1) := by rw [e28]; exact gss
    have es : nI (aNc A + 1) - 1 = nI (aNc A) := by
      have := nI_sub' (a := aNc A + 1) (b := 1) (by omega)
      rw [show aNc A + 1 - 1 = aNc A by omega] at this
      exact this
    rw [n6, es]
    refine h σ28 (MS_ch hA (fun x y hn h1 h2 => by unfold nS at hn; rw [e28, gsn h1, e27, gso h2, e26, gso h2, e25, gso h2, e24, gso h2, e23, gso h2, fr _ _ (by omega)]) ⟨n6, fun i y hi hy => ?_⟩)
    have hi : i < aNc A + 1 := hi
    show _ = upR (aCh A) (aNc A) (row5 a b c d e) i y
    rw [e28, gso (by decide)]
    by_cases ei : i = aNc A
    · rw [ei, upR_s]
      rcases (show y = 0 ∨ y = 1 ∨ y = 2 ∨ y = 3 ∨ y = 4 by omega) with rfl | rfl | rfl | rfl | rfl
      · rw [e27, gsk (by omega), e26, gsk (by omega), e25, gsk (by omega), e24, gsk (by omega), e23, gss]; rfl
      · rw [e27, gsk (by omega), e26, gsk (by omega), e25, gsk (by omega), e24, gss]; rfl
      · rw [e27, gsk (by omega), e26, gsk (by omega), e25, gss]; rfl
      · rw [e27, gsk (by omega), e26, gss]; rfl
      · rw [e27, gss]; rfl
    · rw [upR_n ei, e27, gsk (by omega), e26, gsk (by omega), e25, gsk (by omega), e24, gsk (by omega), e23, gsk (by omega), fr _ _ (by decide)]
      exact m1b i y (by omega) hy
theorem okC_row5 {a b c d e : Int32} (q : (1 ≤ a.toInt ∧ a.toInt ≤ 99) ∧ (0 ≤ b.toInt ∧ b.toInt ≤ 99) ∧ (0 ≤ c.toInt ∧ c.toInt ≤ 99) ∧ (0 ≤ d.toInt ∧ d.toInt ≤ 99) ∧ (0 ≤ e.toInt ∧ e.toInt ≤ 99)) : okC (row5 a b c d e) := by
  intro k hk
  rcases (show k = 0 ∨ k = 1 ∨ k = 2 ∨ k = 3 ∨ k = 4 by omega) with rfl | rfl | rfl | rfl | rfl
  · show 0 ≤ a.toInt ∧ a.toInt ≤ 99; omega
  · show 0 ≤ b.toInt ∧ b.toInt ≤ 99; omega
  · show 0 ≤ c.toInt ∧ c.toInt ≤ 99; omega
  · show 0 ≤ d.toInt ∧ d.toInt ≤ 99; omega
  · show 0 ≤ e.toInt ∧ e.toInt ≤ 99; omega
theorem v_cheese (hW : VA A) {a b c d e : Int32} : VA (cheeseF A a b c d e).2 := by
  unfold cheeseF
  by_cases q : (1 ≤ a.toInt ∧ a.toInt ≤ 99) ∧ (0 ≤ b.toInt ∧ b.toInt ≤ 99) ∧ (0 ≤ c.toInt ∧ c.toInt ≤ 99) ∧ (0 ≤ d.toInt ∧ d.toInt ≤ 99) ∧ (0 ≤ e.toInt ∧ e.toInt ≤ 99)
  · rw [if_pos q]
    by_cases g : aNc A < 4
    · rw [if_pos g]
      refine VA_ch hW (fun i hi => ?_)
      by_cases ei : i = aNc A
      · rw [ei, upR_s]; exact okC_row5 q
      · rw [upR_n ei]; exact hW.1 i (by omega)
    · rw [if_neg g]; exact hW
  · rw [if_neg q]; exact hW
end SIMPLE2
