/-! the calls that tell, or put, a number -/
section SIMPLE
variable {M : Nat} {A : Ab} {post : St → Prop} {posti : Int32 → St → Prop} {τ : St}
def setF (A : Ab) (a v : Int32) : Int32 × Ab := if 0 ≤ a.toInt ∧ a.toInt ≤ 2 then (if 0 ≤ v.toInt ∧ v.toInt ≤ (mtv a.toInt.toNat).toInt then (aTd A a.toInt.toNat, sTd A (upN (aTd A) a.toInt.toNat v)) else (-2, A)) else (-1, A)
theorem c_set (hA : CS M A τ) {a v : Int32} (h : ∀ τ', CS M (setF A a v).2 τ' → posti (setF A a v).1 τ') : w_X6_set M posti a v τ := by
  unfold setF at h
  unfold w_X6_set
  by_cases c : 0 ≤ a.toInt ∧ a.toInt ≤ 2
  · obtain ⟨j, hj, rfl⟩ := as_nI (n := 2) c
    have ej : (nI j).toInt.toNat = j := i_nI (by omega)
    have hv := vp_in_nI (n := j) (N := 3) (by omega) (by decide)
    rw [if_pos c, ej] at h
    refine brl z0' (fun q => absurd q (by omega)) (fun _ => brle (c := 2) (n := 2) (by decide) (fun _ => brl z0' (fun q => ?_) (fun q => ⟨hv, ?_⟩)) (fun q => absurd c.2 q))
    · rw [if_neg (by omega)] at h; exact h τ hA
    · rw [nI_clamp (by omega)]
      refine brle rfl (fun r => ⟨hv, hv, fun σ5 e5 => ?_⟩) (fun r => ?_)
      · rw [if_pos ⟨by omega, r⟩] at h
        rw [hA.2.2.2.1 j (by omega), e5]
        refine h _ (CS_td hA (fun _ _ => rfl) (fun _ => rfl) (fun a k h4 => gso h4) (fun k hk => ?_))
        by_cases e : k = j
        · subst e; rw [gss]; exact upN_s.symm
        · rw [gsk e, hA.2.2.2.1 k hk]; exact (upN_n e).symm
      · rw [if_neg (fun q => r q.2)] at h; exact h τ hA
  · rw [if_neg c] at h
    refine brl z0' (fun _ => h τ hA) (fun q => brle (c := 2) (n := 2) (by decide) (fun r => absurd ⟨by omega, r⟩ c) (fun _ => h τ hA))
theorem m_set (hA : MS A τ) {a v : Int32} (h : ∀ τ', MS (setF A a v).2 τ' → posti (setF A a v).1 τ') : w_X7_set 20 posti a v τ := by
  unfold setF at h
  unfold w_X7_set
  refine m_in' (lo := 0) (hi := 2) (by decide) (by decide) (fun c => br_f (by decide) ?_) (fun c => br_t rfl ?_)
  · obtain ⟨j, hj, rfl⟩ := as_nI (n := 2) c
    have ej : (nI j).toInt.toNat = j := i_nI (by omega)
    have hv := vp_in_nI (n := j) (N := 3) (by omega) (by decide)
    rw [if_pos c, ej] at h
    have inner : ∀ (t0 : Int64), t0.toInt = (mtv j).toInt → w_X7_set_31 20 posti (nI j) v t0 0 v.toInt64 τ := by
      intro t0 ht
      unfold w_X7_set_31
      refine m_in' (lo := 0) (hi := (mtv j).toInt) (by decide) ht (fun d => br_f (by decide) ⟨hv, hv, fun σ4 e4 => ?_⟩) (fun d => br_t rfl ?_)
      · rw [if_pos d] at h
        rw [nI_clamp (by omega)] at e4 ⊢
        rw [hA.2.2.2.1 j (by omega), e4]
        refine h _ (MS_td hA (fun a k _ h4 => gso h4) (fun k hk => ?_))
        by_cases e : k = j
        · subst e; rw [gss]; exact upN_s.symm
        · rw [gsk e, hA.2.2.2.1 k hk]; exact (upN_n e).symm
      · rw [if_neg d] at h; exact h τ hA
    rcases (show j = 0 ∨ j = 1 ∨ j = 2 by omega) with rfl | rfl | rfl
    · exact br_f (by decide) (inner 9 (by decide))
    · exact br_t (by decide) (inner 99 (by decide))
    · exact br_f (by decide) (inner 9 (by decide))
  · rw [if_neg c] at h; exact h τ hA
theorem okT_up {f : Nat → Int32} {j : Nat} {v : Int32} (h : okT f) (hj : j < 3) (hv : 0 ≤ v.toInt ∧ v.toInt ≤ (mtv j).toInt) : okT (upN f j v) := by
  have e0 : (mtv 0).toInt = 9 := by decide
  have e1 : (mtv 1).toInt = 99 := by decide
  have e2 : (mtv 2).toInt = 9 := by decide
  obtain ⟨h0, h1, h2⟩ := h
  rcases (show j = 0 ∨ j = 1 ∨ j = 2 by omega) with rfl | rfl | rfl
  · exact ⟨by rw [upN_s]; omega, by rw [upN_n (by decide)]; exact h1, by rw [upN_n (by decide)]; exact h2⟩
  · exact ⟨by rw [upN_n (by decide)]; exact h0, by rw [upN_s]; omega, by rw [upN_n (by decide)]; exact h2⟩
  · exact ⟨by rw [upN_n (by decide)]; exact h0, by rw [upN_n (by decide)]; exact h1, by rw [upN_s]; omega⟩
theorem v_set (hW : VA A) {a v : Int32} : VA (setF A a v).2 := by
  unfold setF
  by_cases c : 0 ≤ a.toInt ∧ a.toInt ≤ 2
  · rw [if_pos c]
    by_cases d : 0 ≤ v.toInt ∧ v.toInt ≤ (mtv a.toInt.toNat).toInt
    · rw [if_pos d]; exact VA_td hW (okT_up hW.2.2.1 (by omega) d)
    · rw [if_neg d]; exact hW
  · rw [if_neg c]; exact hW
def forceF (A : Ab) (a : Int32) : Int32 × Ab := if 0 ≤ a.toInt ∧ a.toInt < (aNl A : Int) then (nI (aLn A), sLw A (aLw A) (aNl A) a.toInt.toNat) else (-2, A)
theorem c_force (hA : CS M A τ) {a : Int32} (h : ∀ τ', CS M (forceF A a).2 τ' → posti (forceF A a).1 τ') : w_X6_force M posti a τ := by
  obtain ⟨-, -, ⟨c3, c3b, c3c, c3d, c3e⟩, -⟩ := id hA
  have e := nI_toInt (n := aNl A) (by omega)
  unfold forceF at h
  unfold w_X6_force
  rw [c3]
  by_cases c : 0 ≤ a.toInt ∧ a.toInt < (aNl A : Int)
  · rw [if_pos c] at h
    obtain ⟨j, hj, rfl⟩ := as_nI (s := a) (n := aNl A) (by omega)
    have ej : (nI j).toInt.toNat = j := i_nI (by omega)
    rw [ej] at h
    have hj2 : j < aNl A := by rw [nI_toInt (by omega)] at c; omega
    refine brl z0' (fun q => absurd q (by omega)) (fun _ => brl e (fun _ => fun σ3 e3 => ?_) (fun q => absurd c.2 q))
    rw [c3c, e3]
    refine h _ (CS_ln hA (fun _ _ => rfl) (fun _ => rfl) (fun a k hh => gsn (by omega)) ?_)
    refine ⟨?_, c3b, gss, hj2, fun t ht => ?_⟩
    · rw [gsk (by decide)]; exact c3
    · obtain ⟨r, h1, h2⟩ := c3e t ht
      exact ⟨r, h1, LawAt_frame h2 (Nat.le_refl M) (fun a k h1 _ => gso (by omega)) (fun _ _ => rfl)⟩
  · rw [if_neg c] at h
    exact brl z0' (fun _ => h τ hA) (fun q => brl e (fun r => absurd ⟨by omega, r⟩ c) (fun _ => h τ hA))
theorem m_force (hV : Bd A) (hA : MS A τ) {a : Int32} (h : ∀ τ', MS (forceF A a).2 τ' → posti (forceF A a).1 τ') : w_X7_force 20 posti a τ := by
  obtain ⟨-, -, b3, b4⟩ := hV
  obtain ⟨-, -, ⟨m3, m3b, m3c⟩, -⟩ := id hA
  have em := nI_m1 (n := aNl A) (by omega)
  unfold forceF at h
  unfold w_X7_force
  rw [m3]
  refine m_in' (lo := 0) (hi := (aNl A : Int) - 1) (by decide) (by rw [t64]; exact em) (fun c => br_f (by decide) (fun σ4 e4 => ?_)) (fun c => br_t rfl ?_)
  · rw [if_pos (by omega)] at h
    obtain ⟨j, hj, rfl⟩ := as_nI (s := a) (n := aNl A) (by omega)
    have ej : (nI j).toInt.toNat = j := i_nI (by omega)
    rw [ej] at h
    rw [m3b, e4]
    refine h _ (MS_ln hA (fun a k _ h0 h4 => gsn (by omega)) ?_)
    refine ⟨?_, gss, fun t ht => MTxR_frame (m3c t ht) (fun a k ha _ => gso (by omega)) (fun k _ => gso (by omega))⟩
    rw [gsk (by decide)]; exact m3
  · rw [if_neg (by omega)] at h; exact h τ hA
theorem v_force (hW : VA A) {a : Int32} : VA (forceF A a).2 := by
  unfold forceF
  by_cases c : 0 ≤ a.toInt ∧ a.toInt < (aNl A : Int)
  · rw [if_pos c]; exact VA_lw hW (Nat.le_refl _)
  · rw [if_neg c]; exact hW
def forgetF (A : Ab) : Int32 × Ab := if aNa A = 0 then (-3, A) else (nI (aNa A - 1), sAc A (aNa A - 1) (aAc A))
theorem c_forget (hA : CS M A τ) (h : ∀ τ', CS M (forgetF A).2 τ' → posti (forgetF A).1 τ') : w_X6_forget M posti τ := by
  obtain ⟨-, ⟨c2, c2b, c2c⟩, -⟩ := id hA
  have e := nI_toInt (n := aNa A) (by omega)
  unfold forgetF at h
  unfold w_X6_forget
  rw [c2]
  by_cases c : aNa A = 0
  · rw [if_pos c] at h
    exact br_f (by rw [ilt, e, i_0]; omega) (h τ hA)
  · rw [if_neg c] at h
    refine br_t (by rw [ilt, e, i_0]; omega) (fun σ2 e2 => ?_)
    have es : nI (aNa A) - 1 = nI (aNa A - 1) := nI_sub' (a := aNa A) (b := 1) (by omega)
    rw [es] at e2
    rw [e2, gss]
    exact h _ (CS_ac hA (fun _ _ => rfl) (fun _ => rfl) (fun a k h1 h2 => gsn h1) ⟨gss, by show aNa A - 1 ≤ 12; omega, fun i k hi hk => by
      have hi : i < aNa A - 1 := hi
      rw [gso (by omega)]; exact c2c i k (by omega) hk⟩)
theorem m_forget (hV : Bd A) (hA : MS A τ) (h : ∀ τ', MS (forgetF A).2 τ' → posti (forgetF A).1 τ') : w_X7_forget 20 posti τ := by
  obtain ⟨-, b2, -⟩ := hV
  obtain ⟨-, ⟨m2, m2b⟩, -⟩ := id hA
  have e := nI_toInt (n := aNa A) (by omega)
  unfold forgetF at h
  unfold w_X7_forget
  rw [m2]
  by_cases c : aNa A = 0
  · rw [if_pos c] at h
    exact br_t (by rw [ieq, e, i_0]; omega) (h τ hA)
  · rw [if_neg c] at h
    refine br_f (by rw [ieq, e, i_0]; omega) (fun σ2 e2 => ?_)
    have es : nI (aNa A) - 1 = nI (aNa A - 1) := nI_sub' (a := aNa A) (b := 1) (by omega)
    rw [es] at e2
    rw [e2, gss]
    exact h _ (MS_ac hA (fun a k _ h1 h2 => gsn h1) ⟨gss, fun i hi => by
      have hi : i < aNa A - 1 := hi
      rw [gso (by omega), gso (by omega), gso (by omega)]; exact m2b i (by omega)⟩)
theorem v_forget (hW : VA A) : VA (forgetF A).2 := by
  unfold forgetF
  by_cases c : aNa A = 0
  · rw [if_pos c]; exact hW
  · rw [if_neg c]; exact VA_ac hW (fun i hi => hW.2.1 i (by omega))
def countF (A : Ab) (a : Int32) : Int32 := if a = 0 then aTd A 0 else if a = 1 then aTd A 1 else if a = 2 then aTd A 2 else if a = 3 then nI (aNc A) else if a = 4 then nI (aNa A) else if a = 5 then nI (aNl A) else if a = 6 then nI (aLn A) else if a = 7 then nI (aNt A) else -2
theorem c_count (hA : CS M A τ) {a : Int32} (h : posti (countF A a) τ) : w_X6_count M posti a τ := by
  obtain ⟨⟨c1, -⟩, ⟨c2, -⟩, ⟨c3, -, c3c, -⟩, c4, ⟨c5, -⟩, -⟩ := hA
  unfold countF at h
  unfold w_X6_count w_X4_size
  rw [c1, c2, c3, c3c, c5]
  refine ⟨fun c => ?_, fun c => ⟨fun d => ?_, fun d => ⟨fun e => ?_, fun e => ⟨fun f => ?_, fun f => ⟨fun g => ?_, fun g => ⟨fun i => ?_, fun i => ⟨fun j => ?_, fun j => ⟨fun k => ?_, fun k => ?_⟩⟩⟩⟩⟩⟩⟩⟩
  · rw [if_pos c] at h; rw [c]; exact ⟨vp_in_nI (n := 0) (by decide) (by decide), by rw [← c4 0 (by decide)] at h; exact h⟩
  · rw [if_neg c, if_pos d] at h; rw [d]; exact ⟨vp_in_nI (n := 1) (by decide) (by decide), by rw [← c4 1 (by decide)] at h; exact h⟩
  · rw [if_neg c, if_neg d, if_pos e] at h; rw [e]; exact ⟨vp_in_nI (n := 2) (by decide) (by decide), by rw [← c4 2 (by decide)] at h; exact h⟩
  · rw [if_neg c, if_neg d, if_neg e, if_pos f] at h; exact h
  · rw [if_neg c, if_neg d, if_neg e, if_neg f, if_pos g] at h; exact h
  · rw [if_neg c, if_neg d, if_neg e, if_neg f, if_neg g, if_pos i] at h; exact h
  · rw [if_neg c, if_neg d, if_neg e, if_neg f, if_neg g, if_neg i, if_pos j] at h; exact h
  · rw [if_neg c, if_neg d, if_neg e, if_neg f, if_neg g, if_neg i, if_neg j, if_pos k] at h; exact h
  · rw [if_neg c, if_neg d, if_neg e, if_neg f, if_neg g, if_neg i, if_neg j, if_neg k] at h; exact h
theorem m_count (hA : MS A τ) {a : Int32} (h : posti (countF A a) τ) : w_X7_count 20 posti a τ := by
  obtain ⟨⟨c1, -⟩, ⟨c2, -⟩, ⟨c3, c3c, -⟩, c4, ⟨c5, -⟩, -⟩ := hA
  unfold countF at h
  unfold w_X7_count
  rw [c1, c2, c3, c3c, c5]
  refine ⟨fun c => ?_, fun c => ⟨fun d => ?_, fun d => ⟨fun e => ?_, fun e => ⟨fun f => ?_, fun f => ⟨fun g => ?_, fun g => ⟨fun i => ?_, fun i => ⟨fun j => ?_, fun j => ⟨fun k => ?_, fun k => ?_⟩⟩⟩⟩⟩⟩⟩⟩
  · rw [if_pos c] at h; rw [c]; exact ⟨vp_in_nI (n := 0) (by decide) (by decide), by rw [← c4 0 (by decide)] at h; exact h⟩
  · rw [if_neg c, if_pos d] at h; rw [d]; exact ⟨vp_in_nI (n := 1) (by decide) (by decide), by rw [← c4 1 (by decide)] at h; exact h⟩
  · rw [if_neg c, if_neg d, if_pos e] at h; rw [e]; exact ⟨vp_in_nI (n := 2) (by decide) (by decide), by rw [← c4 2 (by decide)] at h; exact h⟩
  · rw [if_neg c, if_neg d, if_neg e, if_pos f] at h; exact h
  · rw [if_neg c, if_neg d, if_neg e, if_neg f, if_pos g] at h; exact h
  · rw [if_neg c, if_neg d, if_neg e, if_neg f, if_neg g, if_pos i] at h; exact h
  · rw [if_neg c, if_neg d, if_neg e, if_neg f, if_neg g, if_neg i, if_pos j] at h; exact h
  · rw [if_neg c, if_neg d, if_neg e, if_neg f, if_neg g, if_neg i, if_neg j, if_pos k] at h; exact h
  · rw [if_neg c, if_neg d, if_neg e, if_neg f, if_neg g, if_neg i, if_neg j, if_neg k] at h; exact h
/-! a cheese's parts -/
theorem c_hasPart {s : Int32} (h1 : 0 ≤ s.toInt ∧ s.toInt ≤ 4 → posti 1 τ) (h0 : ¬ (0 ≤ s.toInt ∧ s.toInt ≤ 4) → posti 0 τ) : w_X1_hasPart M posti s τ := by
  unfold w_X1_hasPart
  exact brl z0' (fun q => h0 (by omega)) (fun q => brg (c := 4) (n := 4) (by decide) (fun r => h0 (by omega)) (fun r => h1 (by omega)))
abbrev mayP (w v : Int32) : Prop := (0 ≤ w.toInt ∧ w.toInt ≤ 4) ∧ ((w.toInt = 0 → 1 ≤ v.toInt) ∧ 0 ≤ v.toInt ∧ v.toInt ≤ 99)
theorem c_fits {w v : Int32} (h1 : mayP w v → posti 1 τ) (h0 : ¬ mayP w v → posti 0 τ) : w_X1_fits M posti w v τ := by
  unfold mayP at h1 h0
  have inner : ∀ t0 : Int32, t0.toInt = (if w.toInt = 0 then 1 else 0) → (0 ≤ w.toInt ∧ w.toInt ≤ 4) → w_X1_fits_17 M posti v t0 v τ := by
    intro t0 ht hw
    unfold w_X1_fits_17
    split at ht
    · exact brl ht (fun q => h0 (by omega)) (fun q => brg (c := 99) (n := 99) (by decide) (fun r => h0 (by omega)) (fun r => h1 (by omega)))
    · exact brl ht (fun q => h0 (by omega)) (fun q => brg (c := 99) (n := 99) (by decide) (fun r => h0 (by omega)) (fun r => h1 (by omega)))
  unfold w_X1_fits
  refine c_hasPart (fun c => br_f (by decide) (bre z0' (fun q => inner 1 ?_ c) (fun q => inner 0 ?_ c))) (fun c => br_t rfl (h0 (fun q => c q.1)))
  · rw [if_pos q]; exact i_1
  · rw [if_neg q]; exact i_0
theorem m_mayBe {w v : Int32} (h1 : (w.toInt = 0 → 1 ≤ v.toInt) ∧ 0 ≤ v.toInt ∧ v.toInt ≤ 99 → posti 1 τ) (h0 : ¬ ((w.toInt = 0 → 1 ≤ v.toInt) ∧ 0 ≤ v.toInt ∧ v.toInt ≤ 99) → posti 0 τ) : w_X7_mayBe 20 posti w v τ := by
  unfold w_X7_mayBe
  exact bre z0' (fun q => m_in' (lo := 1) (hi := 99) (by decide) (by decide) (fun c => ⟨rfl, h1 (by omega)⟩) (fun c => ⟨rfl, h0 (by omega)⟩)) (fun q => m_in' (lo := 0) (hi := 99) (by decide) (by decide) (fun c => ⟨rfl, h1 (by omega)⟩) (fun c => ⟨rfl, h0 (by omega)⟩))
theorem c_tell5 {oc : Nat} (hoc : kdC oc = 1 ∧ oc < M) {s : Int32} (hs : 0 ≤ s.toInt ∧ s.toInt ≤ 4) (h : posti (gi τ (oc + 1) s.toInt.toNat) τ) : w_X1_tell M posti oc s τ := by
  obtain ⟨k, hk, rfl⟩ := as_nI (n := 4) hs
  rw [i_nI (by omega)] at h
  exact c_ctell hoc rfl (by omega) h
theorem c_put5 {oc : Nat} (hoc : kdC oc = 1 ∧ oc < M) {s v : Int32} (hs : 0 ≤ s.toInt ∧ s.toInt ≤ 4) (h : post (si τ (oc + 1) s.toInt.toNat v)) : w_X1_put M post oc s v τ := by
  obtain ⟨k, hk, rfl⟩ := as_nI (n := 4) hs
  rw [i_nI (by omega)] at h
  unfold w_X1_put
  refine ⟨hoc, c_hasPart (fun _ => br_f (by decide) ⟨vp_in_nI (by omega) (by decide), fun σ4 e4 => ?_⟩) (fun c => absurd hs c)⟩
  rw [e4, nI_clamp (by omega)]
  exact h
abbrev isC (A : Ab) (s : Int32) : Prop := 0 ≤ s.toInt ∧ s.toInt < (aNc A : Int)
theorem c_chAt {postq : Option Nat → St → Prop} (hA : CS M A τ) {s : Int32} (h1 : ∀ j, j < aNc A → isC A s → s = nI j → (kdC (17 + 4 * j) = 1 ∧ 17 + 4 * j < M) → postq (some (17 + 4 * j)) τ) (h2 : ¬ isC A s → postq none τ) : w_X6_cheeseAt M postq s τ := by
  have hb := hA.1.2.1
  refine c_cheeseAt hA (fun j hj e => h1 j hj ?_ e (kdCh hA.2.2.2.2.2.2.2.1 (by omega))) (fun q => h2 (by unfold isC; omega))
  unfold isC; rw [e, nI_toInt (by omega)]; omega
theorem m_isCh (hV : Bd A) (hA : MS A τ) {s : Int32} (h1 : ∀ j, j < aNc A → isC A s → s = nI j → posti 1 τ) (h0 : ¬ isC A s → posti 0 τ) : w_X7_isCheese 20 posti s τ := by
  have hb := hV.1
  refine m_isCheese hV hA (fun j hj e => h1 j hj ?_ e) (fun q => h0 (by unfold isC; omega))
  unfold isC; rw [e, nI_toInt (by omega)]; omega
theorem m_5k {j : Nat} {a : Int32} (hj : j < 4) (ha : 0 ≤ a.toInt ∧ a.toInt ≤ 4) : (5 * nI j) + a = nI (5 * j + a.toInt.toNat) := by
  refine ieq.mpr ?_
  have e5 : (5 : Int32).toInt = 5 := by decide
  have ej := nI_toInt (n := j) (by omega)
  have e1 : (5 * nI j).toInt = 5 * (j : Int) := by rw [im (by rw [e5, ej]; omega) (by rw [e5, ej]; omega), e5, ej]
  rw [ia (by omega) (by omega), e1, nI_toInt (by omega)]
  omega
def up2 (f : Nat → Nat → Int32) (a b : Nat) (v : Int32) : Nat → Nat → Int32 := fun i k => if i = a then (if k = b then v else f i k) else f i k
theorem CS_put (hA : CS M A τ) {j k : Nat} {v : Int32} (hj : j < aNc A) : CS M (sCh A (aNc A) (up2 (aCh A) j k v)) (si τ (18 + 4 * j) k v) := by
  obtain ⟨⟨c1, c1b, c1c⟩, -⟩ := id hA
  refine CS_ch hA (fun _ _ => rfl) (fun _ => rfl) (fun a b h1 h2 => gso (by omega)) ⟨?_, c1b, fun i b hi hb => ?_⟩
  · rw [gso (by omega)]; exact c1
  · show _ = up2 (aCh A) j k v i b
    have hi : i < aNc A := hi
    unfold up2
    by_cases e : i = j
    · subst e
      rw [if_pos rfl]
      by_cases e2 : b = k
      · subst e2; rw [if_pos rfl]; exact gss
      · rw [if_neg e2, gsk e2]; exact c1c _ _ hi hb
    · rw [if_neg e, gso (by omega)]; exact c1c _ _ hi hb
theorem MS_put (hA : MS A τ) {j k : Nat} {v : Int32} (hk : k < 5) : MS (sCh A (aNc A) (up2 (aCh A) j k v)) (si τ 1 (5 * j + k) v) := by
  obtain ⟨⟨m1, m1b⟩, -⟩ := id hA
  refine MS_ch hA (fun a b _ h1 h2 => gso h2) ⟨?_, fun i b hi hb => ?_⟩
  · rw [gso (by decide)]; exact m1
  · show _ = up2 (aCh A) j k v i b
    have hi : i < aNc A := hi
    unfold up2
    by_cases e : i = j
    · subst e
      rw [if_pos rfl]
      by_cases e2 : b = k
      · subst e2; rw [if_pos rfl]; exact gss
      · rw [if_neg e2, gsk (by omega)]; exact m1b _ _ hi hb
    · rw [if_neg e, gsk (by omega)]; exact m1b _ _ hi hb
def sortTF (A : Ab) (s w : Int32) : Int32 := if 0 ≤ s.toInt ∧ s.toInt < (aNc A : Int) then (if 0 ≤ w.toInt ∧ w.toInt ≤ 4 then aCh A s.toInt.toNat w.toInt.toNat else -7) else -5
theorem c_sortTold (hA : CS M A τ) {s w : Int32} (h : posti (sortTF A s w) τ) : w_X6_sortTold M posti s w τ := by
  have hb := hA.1.2.1
  unfold sortTF at h
  unfold w_X6_sortTold
  refine c_chAt hA (fun j hj hs e hk => ⟨fun q => (by cases q), fun o e2 => ?_⟩) (fun q => ⟨fun _ => ?_, fun o e2 => (by cases e2)⟩)
  · cases e2
    rw [if_pos hs, e, i_nI (by omega)] at h
    refine ⟨hk, c_hasPart (fun c => br_f (by decide) (c_tell5 hk c ?_)) (fun c => br_t rfl ?_)⟩
    · rw [if_pos c] at h
      rw [show 17 + 4 * j + 1 = 18 + 4 * j by omega, hA.1.2.2 j _ hj (by omega)]
      exact h
    · rw [if_neg c] at h; exact h
  · rw [if_neg q] at h; exact h
theorem m_sortTold (hV : Bd A) (hA : MS A τ) {s w : Int32} (h : posti (sortTF A s w) τ) : w_X7_sortTold 20 posti s w τ := by
  have hb := hV.1
  unfold sortTF at h
  unfold w_X7_sortTold
  refine m_isCh hV hA (fun j hj hs e => br_f (by decide) ?_) (fun q => br_t rfl ?_)
  · rw [if_pos hs, e, i_nI (by omega)] at h
    refine m_in' (lo := 0) (hi := 4) (by decide) (by decide) (fun c => br_f (by decide) ?_) (fun c => br_t rfl ?_)
    · rw [if_pos c] at h
      rw [e, m_5k (by omega) c]
      refine ⟨vp_in_nI (by omega) (by decide), fun x7 e7 => ?_⟩
      rw [e7, nI_clamp (by omega), hA.1.2 j _ hj (by omega)]
      exact h
    · rw [if_neg c] at h; exact h
  · rw [if_neg q] at h; exact h
def ripenF (A : Ab) (s w v : Int32) : Int32 × Ab := if 0 ≤ s.toInt ∧ s.toInt < (aNc A : Int) then (if (0 ≤ w.toInt ∧ w.toInt ≤ 4) ∧ ((w.toInt = 0 → 1 ≤ v.toInt) ∧ 0 ≤ v.toInt ∧ v.toInt ≤ 99) then (aCh A s.toInt.toNat w.toInt.toNat, sCh A (aNc A) (up2 (aCh A) s.toInt.toNat w.toInt.toNat v)) else (-7, A)) else (-5, A)
theorem c_ripen (hA : CS M A τ) {s w v : Int32} (h : ∀ τ', CS M (ripenF A s w v).2 τ' → posti (ripenF A s w v).1 τ') : w_X6_ripen M posti s w v τ := by
  have hb := hA.1.2.1
  unfold ripenF at h
  unfold w_X6_ripen
  refine c_chAt hA (fun j hj hs e hk => ⟨fun q => (by cases q), fun o e2 => ?_⟩) (fun q => ⟨fun _ => ?_, fun o e2 => (by cases e2)⟩)
  · cases e2
    rw [if_pos hs, e, i_nI (by omega)] at h
    refine ⟨hk, c_fits (fun c => br_f (by decide) (c_tell5 hk c.1 (c_put5 hk c.1 ?_))) (fun c => br_t rfl ?_)⟩
    · rw [if_pos c] at h
      rw [show 17 + 4 * j + 1 = 18 + 4 * j by omega, hA.1.2.2 j _ hj (by have := c.1; omega)]
      exact h _ (CS_put hA hj)
    · rw [if_neg c] at h; exact h τ hA
  · rw [if_neg q] at h; exact h τ hA
theorem m_ripen (hV : Bd A) (hA : MS A τ) {s w v : Int32} (h : ∀ τ', MS (ripenF A s w v).2 τ' → posti (ripenF A s w v).1 τ') : w_X7_ripen 20 posti s w v τ := by
  have hb := hV.1
  unfold ripenF at h
  unfold w_X7_ripen
  refine m_isCh hV hA (fun j hj hs e => br_f (by decide) ?_) (fun q => br_t rfl ?_)
  · rw [if_pos hs, e, i_nI (by omega)] at h
    refine m_in' (lo := 0) (hi := 4) (by decide) (by decide) (fun c => br_f (by decide) (m_mayBe (fun d => br_f (by decide) ?_) (fun d => br_t rfl ?_))) (fun c => br_t rfl ?_)
    · rw [if_pos ⟨c, d⟩] at h
      rw [e, m_5k (by omega) c]
      refine ⟨vp_in_nI (by omega) (by decide), fun x10 e10 => ⟨vp_in_nI (by omega) (by decide), fun σ11 e11 => ?_⟩⟩
      rw [e11, e10, nI_clamp (by omega), hA.1.2 j _ hj (by omega)]
      exact h _ (MS_put hA (by omega))
    · rw [if_neg (fun q => d q.2)] at h; exact h τ hA
    · rw [if_neg (fun q => c q.1)] at h; exact h τ hA
  · rw [if_neg q] at h; exact h τ hA
theorem v_ripen (hW : VA A) {s w v : Int32} : VA (ripenF A s w v).2 := by
  unfold ripenF
  by_cases c : 0 ≤ s.toInt ∧ s.toInt < (aNc A : Int)
  · rw [if_pos c]
    by_cases d : (0 ≤ w.toInt ∧ w.toInt ≤ 4) ∧ ((w.toInt = 0 → 1 ≤ v.toInt) ∧ 0 ≤ v.toInt ∧ v.toInt ≤ 99)
    · rw [if_pos d]
      refine VA_ch hW (fun i hi k hk => ?_)
      unfold up2
      split
      · split
        · exact d.2.2
        · exact hW.1 i hi k hk
      · exact hW.1 i hi k hk
    · rw [if_neg d]; exact hW
  · rw [if_neg c]; exact hW
end SIMPLE
