/-! a text, on both sides -/
section RL
variable {M : Nat} {σ : St}
theorem rl_lt {a k : Nat} (h : a < M) : gi (rlT M σ) a k = gi σ a k := by
  unfold rlT
  rw [gso (by omega), gso (by omega)]
  show (if a = M + 1 then (0 : Int32) else (if a = M then _ else (if a = M then 0 else gi σ a k))) = _
  rw [if_neg (by omega), if_neg (by omega), if_neg (by omega)]
theorem rl_M {k : Nat} (h : k < (gi σ 5 8).toNatClampNeg) : gi (rlT M σ) M k = gi σ 7 k := by
  unfold rlT
  rw [gso (by omega), gso (by omega)]
  show (if M = M + 1 then (0 : Int32) else (if M = M then va_cpy (fun j => gi σ 7 j) (fun _ => 0) 0 0 (gi σ 5 8).toNatClampNeg k else _)) = _
  rw [if_neg (by omega), if_pos rfl]
  unfold va_cpy
  rw [if_pos (by omega), show 0 + (k - 0) = k by omega]
theorem rl_1 : gi (rlT M σ) (M + 1) 1 = gi σ 8 0 := by
  unfold rlT
  rw [gsk (by decide), gss]
theorem rl_2 : gi (rlT M σ) (M + 1) 2 = gi σ 8 1 := by
  unfold rlT
  rw [gss]
theorem rl_gr {a k : Nat} : gr (rlT M σ) a k = gr σ a k := rfl
theorem rl_gz {a : Nat} (h : a < M) : gz (rlT M σ) a = gz σ a := by
  show (if a = M + 1 then 0 else (if a = M then _ else gz σ a)) = _
  rw [if_neg (by omega), if_neg (by omega)]
theorem rl_gzM : gz (rlT M σ) M = (gi σ 5 8).toNatClampNeg := by
  show (if M = M + 1 then 0 else (if M = M then (gi σ 5 8).toNatClampNeg else _)) = _
  rw [if_neg (by omega), if_pos rfl]
end RL
theorem upL_s {g : Nat → Lw} {t : Nat} {L : Lw} : upL g t L t = L := by unfold upL; rw [if_pos rfl]
theorem upL_n {g : Nat → Lw} {t j : Nat} {L : Lw} (h : j ≠ t) : upL g t L j = g j := by unfold upL; rw [if_neg h]
section CTX
variable {M : Nat} {A : Ab} {postt : Int32 → St → Nat → Prop} {τ : St}
theorem TPc_of (hW : VA A) (hA : CS M A τ) : TPc (aNt A) (aTp A) τ := ⟨hA.2.2.2.2.1.1, hA.2.2.2.2.1.2.1, hA.2.2.2.2.1.2.2, hW.2.2.2.1⟩
/-- the state behind a law that was read -/
theorem CS_read {M : Nat} {A : Ab} {τ σ : St} {L : Lw} (hA : CS M A τ) (hN : aNl A < 6) (hr : σ.2 = τ.2) (hg : ∀ a k, ¬ (5 ≤ a ∧ a ≤ 8) → gi σ a k = gi τ a k) (h1 : gi σ 5 1 = 0) (h8 : gi σ 5 8 = nI (Lall L).length) (hL : LOk L) (h7 : ∀ j c, (Lall L)[j]? = some c → gi σ 7 j = c) (e0 : gi σ 8 0 = nI L.1.length) (e1 : gi σ 8 1 = nI (L.1.length + L.2.1.length)) : CS (M + 2) (sTp (sLw A (upL (aLw A) (aNl A) L) (aNl A + 1) (aLn A)) 0 (aTp A)) (si (sr (rlT M σ) 3 (aNl A) (some (M + 1))) 0 5 (nI (aNl A + 1))) := by
  obtain ⟨c1, c2, ⟨c3, c3b, c3c, c3d, c3e⟩, c4, c5, c6, c7, ⟨c8, c8b, l1, l2, l3⟩⟩ := hA
  have hlen := hL.2.2.2
  have hc8 : (gi σ 5 8).toNatClampNeg = (Lall L).length := by rw [h8]; exact nI_clamp (by omega)
  have fg : ∀ a k, a < 53 → ¬ (a = 0 ∧ k = 5) → ¬ (5 ≤ a ∧ a ≤ 8) → gi (si (sr (rlT M σ) 3 (aNl A) (some (M + 1))) 0 5 (nI (aNl A + 1))) a k = gi τ a k := by
    intro a k p1 p2 p3
    rw [gsn p2]
    show gi (rlT M σ) a k = _
    rw [rl_lt (by omega)]
    exact hg a k p3
  have fgr : ∀ a k, ¬ (a = 3 ∧ k = aNl A) → gr (si (sr (rlT M σ) 3 (aNl A) (some (M + 1))) 0 5 (nI (aNl A + 1))) a k = gr τ a k := by
    intro a k p
    have e : gr σ a k = gr τ a k := by unfold gr; rw [hr]
    rw [← e]
    show (if a = 3 then (if k = aNl A then some (M + 1) else gr (rlT M σ) a k) else gr (rlT M σ) a k) = _
    by_cases q : a = 3
    · rw [if_pos q, if_neg (fun z => p ⟨q, z⟩)]; exact rl_gr
    · rw [if_neg q]; exact rl_gr
  have fgn : gr (si (sr (rlT M σ) 3 (aNl A) (some (M + 1))) 0 5 (nI (aNl A + 1))) 3 (aNl A) = some (M + 1) := by
    have e : gr (sr (rlT M σ) 3 (aNl A) (some (M + 1))) 3 (aNl A) = some (M + 1) := by simp [gr, sr]
    exact e
  have kd : kdC (M + 1) = 2 := by
    unfold kdC
    rw [if_neg (by omega), if_neg (by omega), if_neg (by omega), if_neg (by omega), if_neg (by omega), if_neg (by omega), if_neg (by omega), if_neg (by omega), if_neg (by omega), if_neg (by omega), if_neg (by omega), if_neg (by omega), if_neg (by omega), if_neg (by omega), if_neg (by omega), if_neg (by omega), if_neg (by omega), if_neg (by omega), if_neg (by omega), if_neg (by omega), if_neg (by omega)]
  refine ⟨C1f c1 (fg _ _ (by omega) (by omega) (by omega)) (fun i k hi => fg _ _ (by omega) (by omega) (by omega)), C2f c2 (fg _ _ (by omega) (by omega) (by omega)) (fun i k hi => fg _ _ (by omega) (by omega) (by omega)), ?_, C4f c4 (fun k => fg _ _ (by omega) (by omega) (by omega)), ?_, C6f c6 (fg _ _ (by omega) (by omega) (by omega)) (fg _ _ (by omega) (by omega) (by omega)) (fun i k hi => fg _ _ (by omega) (by omega) (by omega)) (fun k => fg _ _ (by omega) (by omega) (by omega)), C7f c7 (fun a k p1 p2 => fg _ _ (by omega) (by omega) (by omega)), ?_⟩
  · refine ⟨gss, by show aNl A + 1 ≤ 6; omega, (fg _ _ (by omega) (by omega) (by omega)).trans c3c, by show aLn A < aNl A + 1; omega, fun t ht => ?_⟩
    have ht : t < aNl A + 1 := ht
    show ∃ r, _ ∧ LawAt (M + 2) _ r (upL (aLw A) (aNl A) L t)
    by_cases e : t = aNl A
    · rw [e, upL_s]
      refine ⟨M + 1, fgn, kd, by omega, by omega, ?_, fun i c hc => ?_, ?_, ?_, hL⟩
      · show gz (rlT M σ) (M + 1 - 1) = _
        rw [show M + 1 - 1 = M by omega, rl_gzM, hc8]
      · have hi := (List.getElem?_eq_some_iff.mp hc).1
        rw [gso (by omega)]
        show gi (rlT M σ) (M + 1 - 1) i = c
        rw [show M + 1 - 1 = M by omega, rl_M (by omega)]
        exact h7 i c hc
      · rw [gso (by omega)]
        show gi (rlT M σ) (M + 1) 1 = _
        rw [rl_1]; exact e0
      · rw [gso (by omega)]
        show gi (rlT M σ) (M + 1) 2 = _
        rw [rl_2]; exact e1
    · rw [upL_n e]
      obtain ⟨r, p1, p2⟩ := c3e t (by omega)
      refine ⟨r, (fgr _ _ (by omega)).trans p1, LawAt_frame p2 (by omega) (fun a k q1 q2 => ?_) (fun a q2 => ?_)⟩
      · rw [gso (by omega)]
        show gi (rlT M σ) a k = _
        rw [rl_lt q2]
        exact hg a k (by omega)
      · show gz (rlT M σ) a = _
        rw [rl_gz q2]
        unfold gz; rw [hr]
  · refine ⟨?_, Nat.zero_le _, fun k hk => absurd hk (Nat.not_lt_zero k)⟩
    rw [gso (by decide)]
    show gi (rlT M σ) 5 1 = _
    rw [rl_lt (by omega), h1]; rfl
  · refine ⟨by omega, by omega, fun k hk r hq => ?_, fun r hq => ?_, fun r hq => ?_⟩
    · by_cases e : k = aNl A
      · rw [e, fgn] at hq
        cases hq
        omega
      · rw [fgr _ _ (by omega)] at hq
        have := l1 k hk r hq
        omega
    · rw [fgr _ _ (by omega)] at hq
      have := l2 r hq
      omega
    · rw [fgr _ _ (by omega)] at hq
      have := l3 r hq
      omega
theorem c_text (hW : VA A) (hA : CS M A τ) (h : ∀ (τ' : St) (M' : Nat), CS M' (textF A).2 τ' → postt (textF A).1 τ' M') : w_X6_text M postt τ := by
  have hM := hA.2.2.2.2.2.2.2.1
  have hM2 := hA.2.2.2.2.2.2.2.2.1
  have hLR := hA.2.2.2.2.2.2.2.2.2
  have c3 := hA.2.2.1.1
  have c3b := hA.2.2.1.2.1
  have hT := TPc_of hW hA
  have hn := hT.2.1
  have eN := nI_toInt (n := aNl A) (by omega)
  have e6 : (6 : Int32).toInt = 6 := by decide
  unfold textF at h
  unfold w_X6_text
  rw [c3]
  by_cases c : aNl A < 6
  · rw [if_pos c] at h
    refine ⟨fun _ => ?_, fun q => absurd (ilt.mpr (by omega)) q⟩
    refine c_readLaw hT (fun ob τ1 f1 t6 => ⟨fun _ => ?_, fun o q => by cases q⟩) (fun oo τ1 f1 t8 t7 g0 g1 => ?_)
    · rw [if_neg ob] at h
      have k6 : gi (si τ1 5 1 0) 5 6 = nI (plF (aNt A) (aTp A) (s3F (aNt A) (aTp A)).2.1) := by rw [gsk (by decide)]; exact t6
      rw [k6]
      refine h _ M (CS_tp (A := A) (n := 0) (f := aTp A) hA (fun a k => ?_) (fun a => ?_) (fun a k p => ?_) ⟨?_, Nat.zero_le _, fun k hk => absurd hk (Nat.not_lt_zero k)⟩)
      · show gr τ1 a k = _
        unfold gr; rw [f1.1]
      · show gz τ1 a = _
        unfold gz; rw [f1.1]
      · rw [gso (by omega)]
        exact f1.2 a k (by omega) (by omega) (by omega)
      · rw [gss]; rfl
    · rw [if_pos oo] at h
      have hL := lw_ok (f := aTp A) hn oo.1
      have hlen := hL.2.2.2
      unfold w_X4_readLaw_105
      have s8 : gi (si τ1 5 1 0) 5 8 = nI (Lall (lwX (aNt A) (aTp A))).length := by rw [gsk (by decide)]; exact t8
      have sgr : ∀ a k, gr (si τ1 5 1 0) a k = gr τ a k := fun a k => by
        show gr τ1 a k = _
        unfold gr; rw [f1.1]
      have key := CS_read (σ := si τ1 5 1 0) (L := lwX (aNt A) (aTp A)) hA c (by show τ1.2 = τ.2; exact f1.1) (fun a k p => by rw [gso (by omega)]; exact f1.2 a k (by omega) (by omega) (by omega)) gss s8 hL (fun j d hd => by rw [gso (by decide)]; exact t7 j d hd) (by rw [gso (by decide)]; exact g0) (by rw [gso (by decide)]; exact g1)
      rw [s8, nI_clamp (by omega)]
      have u5 : gi (rlT M (si τ1 5 1 0)) 0 5 = nI (aNl A) := by
        rw [rl_lt (by omega), gso (by decide), f1.2 _ _ (by omega) (by decide) (by decide)]
        exact c3
      refine ⟨nI_pos (by omega), by omega, ⟨fun k hk r hq => hLR.1 k hk r (by rw [← sgr]; exact hq), fun r hq => hLR.2.1 r (by rw [← sgr]; exact hq), fun r hq => hLR.2.2 r (by rw [← sgr]; exact hq)⟩, hM2, fun q => (by cases q), fun o q => ?_⟩
      cases q
      rw [u5, nI_1, nI_clamp (by omega)]
      have es : nI (aNl A + 1) - 1 = nI (aNl A) := by
        have := nI_sub' (a := aNl A + 1) (b := 1) (by omega)
        rw [show aNl A + 1 - 1 = aNl A by omega] at this
        exact this
      rw [es]
      refine ⟨⟨?_, by omega⟩, vp_in_nI c (by decide), h _ (M + 2) key⟩
      obtain ⟨r, p1, p2⟩ := key.2.2.1.2.2.2.2 (aNl A) (by show aNl A < aNl A + 1; omega)
      have fgn : gr (si (sr (rlT M (si τ1 5 1 0)) 3 (aNl A) (some (M + 1))) 0 5 (nI (aNl A + 1))) 3 (aNl A) = some (M + 1) := by
        have e : gr (sr (rlT M (si τ1 5 1 0)) 3 (aNl A) (some (M + 1))) 3 (aNl A) = some (M + 1) := by simp [gr, sr]
        exact e
      rw [fgn] at p1
      cases p1
      exact p2.1
  · rw [if_neg c] at h
    exact ⟨fun q => absurd (ilt.mp q) (by omega), fun _ => h τ M hA⟩
end CTX
section MTX
variable {A : Ab} {posti : Int32 → St → Prop} {τ : St} {n b T : Nat} {f : Nat → Int32}
def FrX (b T p : Nat) (τ0 τ : St) : Prop := ∀ a k, ¬ (a = 0 ∧ 10 ≤ k ∧ k ≤ 17) → ¬ (a = 4 ∧ b ≤ k ∧ k < b + 510) → ¬ ((a = 5 ∨ a = 6) ∧ k = 3 * T + p) → gi τ a k = gi τ0 a k
theorem FrX_Q {b T p : Nat} {x y : St} (h : FrQ b x y) : FrX b T p x y := fun a k h1 h2 _ => h a k h1 h2
theorem FrX_trans {b T p : Nat} {x y z : St} (h1 : FrX b T p x y) (h2 : FrX b T p y z) : FrX b T p x z := fun a k p1 p2 p3 => (h2 a k p1 p2 p3).trans (h1 a k p1 p2 p3)
theorem FrX_si {b T p a : Nat} {x : St} {v : Int32} (ha : a = 5 ∨ a = 6) : FrX b T p x (si x a (3 * T + p) v) := fun c k _ _ p3 => gsn (fun q => p3 (by rw [q.1, q.2]; exact ⟨ha, rfl⟩))
theorem MUp_row {g q o a k : Nat} {cs : List Int32} {v : Int32} (ha : a = 5 ∨ a = 6) (h : MUp n f b g q o cs τ) : MUp n f b g q o cs (si τ a k v) := by
  obtain ⟨h1, h2, h3, h4⟩ := h
  have e : ∀ c j, ¬ (c = 5 ∨ c = 6) → gi (si τ a k v) c j = gi τ c j := fun c j hc => gso (by omega)
  refine ⟨fun z => ?_, fun z => ?_, by rw [e _ _ (by omega)]; exact h3, fun j c hc => by rw [e _ _ (by omega)]; exact h4 j c hc⟩
  · obtain ⟨⟨t2, t1, t3, t4⟩, t6, t5⟩ := h1 z
    exact ⟨⟨by rw [e _ _ (by omega)]; exact t2, by rw [e _ _ (by omega)]; exact t1, by rw [e _ _ (by omega)]; exact t3, fun y => by rw [e _ _ (by omega)]; exact t4 y⟩, by rw [e _ _ (by omega)]; exact t6, by rw [e _ _ (by omega)]; exact t5⟩
  · exact ⟨by rw [e _ _ (by omega)]; exact (h2 z).1, by rw [e _ _ (by omega)]; exact (h2 z).2⟩
theorem TPm_X {p : Nat} {x y : St} (h : TPm n f x) (hf : FrX b T p x y) : TPm n f y := ⟨(hf 0 4 (by omega) (by omega) (by omega)).trans h.1, h.2.1, fun k hk => (hf 3 k (by omega) (by omega) (by omega)).trans (h.2.2.1 k hk), h.2.2.2.1, fun k hk => (hf 7 k (by omega) (by omega) (by omega)).trans (h.2.2.2.2 k hk)⟩
theorem m_part (hb : b + 510 ≤ 3570) (hTb : T < 6) {p : Nat} (hp : p < 3) (s : Rs) (hs : s.1 = 0) (hS : GdS n f s) (hT : TPm n f τ) (hU : MUp n f b 0 s.2.1 0 s.2.2 τ) (h5 : gi τ 0 5 = nI T) {k45 : Int32 → St → Prop}
    (hbad : ∀ τ', FrX b T p τ τ' → MUp n f b 1 (stF n f p s).2.1 0 (stF n f p s).2.2 τ' → (stF n f p s).1 = 1 → w_X7_text_140 20 posti τ')
    (hk : ∀ τ', FrX b T p τ τ' → MUp n f b (stF n f p s).1 (stF n f p s).2.1 0 (stF n f p s).2.2 τ' → gi τ' 5 (3 * T + p) = nI (b + s.2.2.length) → gi τ' 6 (3 * T + p) = nI (b + (stF n f p s).2.2.length) → k45 (nI (p + 1)) τ') : w_X7_text_45 20 posti k45 (nI p) τ := by
  obtain ⟨hq, hl⟩ := hS
  have hn := hT.2.1
  have hpl := (pl_le (f := f) hq).2
  have ix : (3 * nI T) + nI p = nI (3 * T + p) := by rw [show (3 : Int32) * nI T = nI (3 * T) from i_mul (a := 3), nI_add]
  have hst : stF n f p s = ((ptF n f p s.2.1).1, (ptF n f p s.2.1).2.1, s.2.2 ++ (ptF n f p s.2.1).2.2) := by unfold stF; rw [if_pos hs]
  unfold w_X7_text_45
  refine br_f (nI_ge (b := 3) (by omega) (by decide)) (br_t (hU.1 rfl).2.1 (m_keyU hU (fun _ e => br_f (by decide) ?_) (fun e => br_t rfl ?_)))
  · obtain ⟨t1, t2, t3⟩ := tk_lt hq (show ¬ (tkF n f s.2.1).1 = 0 by rw [e]; show ¬ (3 : Nat) = 0; omega)
    obtain ⟨g1, g2⟩ := pF_gd (f := f) 36 0 0 _ t3
    refine m_nextU hU hT hq (fun τ1 f1 c1 => ?_)
    have k5 : gi τ1 0 5 = nI T := by rw [f1 _ _ (by omega) (by omega)]; exact h5
    rw [k5, ix, nI_clamp (by omega), c1.2.2.1]
    refine ⟨vp_in_nI (by omega) (by decide), fun σ7 e7 => ⟨36, by decide, ?_⟩⟩
    have c7 : MUp n f b 0 (nxF n f s.2.1) 0 s.2.2 σ7 := by rw [e7]; exact MUp_row (Or.inl rfl) c1
    have f7 : FrX b T p τ σ7 := by rw [e7]; exact FrX_trans (FrX_Q f1) (FrX_si (Or.inl rfl))
    refine m_parse hb hn 36 0 0 (by decide) (by decide) (by decide) _ s.2.2 σ7 _ t3 (TPm_X hT f7) c7 (by omega) (fun τ2 f2 c2 => ?_)
    have f72 := FrX_trans f7 (FrX_Q (T := T) (p := p) f2)
    have k52 : gi τ2 0 5 = nI T := by rw [f72 _ _ (by omega) (by omega) (by omega)]; exact h5
    rw [k52, ix, nI_clamp (by omega), c2.2.2.1]
    refine ⟨vp_in_nI (by omega) (by decide), fun σ9 e9 => ?_⟩
    have c9 : MUp n f b (pF n f 36 0 0 (nxF n f s.2.1)).1 (pF n f 36 0 0 (nxF n f s.2.1)).2.1 0 (s.2.2 ++ (pF n f 36 0 0 (nxF n f s.2.1)).2.2) σ9 := by rw [e9]; exact MUp_row (Or.inr rfl) c2
    have f9 : FrX b T p τ σ9 := by rw [e9]; exact FrX_trans f72 (FrX_si (Or.inr rfl))
    have r5 : gi σ9 5 (3 * T + p) = nI (b + s.2.2.length) := by rw [e9, gso (by decide), f2 _ _ (by omega) (by omega), e7, gss]
    have r6 : gi σ9 6 (3 * T + p) = nI (b + (s.2.2 ++ (pF n f 36 0 0 (nxF n f s.2.1)).2.2).length) := by rw [e9, gss]
    refine m_signU c9 (fun z e2 => br_f (by decide) ?_) (fun e2 => br_t rfl ?_)
    · have hpt : ptF n f p s.2.1 = (0, nxF n f (pF n f 36 0 0 (nxF n f s.2.1)).2.1, (pF n f 36 0 0 (nxF n f s.2.1)).2.2) := by unfold ptF; rw [if_pos e, if_pos ⟨z, e2⟩]
      rw [hst, hpt] at hk
      rw [z] at c9
      refine m_nextU c9 (TPm_X hT f9) g1 (fun τ3 f3 c3 x16 e16 => ?_)
      rw [e16, nI_1]
      exact hk τ3 (FrX_trans f9 (FrX_Q f3)) c3 (by rw [f3 _ _ (by omega) (by omega)]; exact r5) (by rw [f3 _ _ (by omega) (by omega)]; exact r6)
    · have hpt : ptF n f p s.2.1 = (1, (pF n f 36 0 0 (nxF n f s.2.1)).2.1, (pF n f 36 0 0 (nxF n f s.2.1)).2.2) := by unfold ptF; rw [if_pos e, if_neg e2]
      rw [hst, hpt] at hk
      refine m_wrongU (o' := 0) c9 (fun τ3 f3 c3 x14 e14 => ?_)
      rw [e14, nI_1]
      exact hk τ3 (FrX_trans f9 (FrX_Q f3)) c3 (by rw [f3 _ _ (by omega) (by omega)]; exact r5) (by rw [f3 _ _ (by omega) (by omega)]; exact r6)
  · have hpt : ptF n f p s.2.1 = (1, s.2.1, []) := by unfold ptF; rw [if_neg (fun y => e ⟨rfl, y⟩)]
    rw [hst, hpt] at hbad
    refine m_wrongU (o' := 0) hU (fun τ1 f1 c1 => hbad τ1 (FrX_Q f1) ?_ rfl)
    show MUp n f b 1 s.2.1 0 (s.2.2 ++ []) τ1
    rw [List.append_nil]; exact c1
def FrY (T : Nat) (τ0 τ : St) : Prop := ∀ a k, ¬ (a = 0 ∧ 10 ≤ k ∧ k ≤ 17) → ¬ (a = 4 ∧ 510 * T ≤ k) → ¬ ((a = 5 ∨ a = 6) ∧ 3 * T ≤ k) → gi τ a k = gi τ0 a k
theorem FrY_X {T p : Nat} {x y : St} (h : FrX (510 * T) T p x y) : FrY T x y := fun a k p1 p2 p3 => h a k p1 (by omega) (by omega)
theorem FrY_trans {T : Nat} {x y z : St} (h1 : FrY T x y) (h2 : FrY T y z) : FrY T x z := fun a k p1 p2 p3 => (h2 a k p1 p2 p3).trans (h1 a k p1 p2 p3)
/-- the tape is empty then -/
theorem MS_empty (hA : MS A τ) {σ σ' : St} (hf : FrY (aNl A) τ σ) (e : σ' = si σ 0 4 0) : MS (sTp A 0 (aTp A)) σ' := by
  have g : ∀ a k, ¬ (a = 0 ∧ (k = 4 ∨ 10 ≤ k ∧ k ≤ 17)) → ¬ (a = 4 ∧ 510 * aNl A ≤ k) → ¬ ((a = 5 ∨ a = 6) ∧ 3 * aNl A ≤ k) → gi σ' a k = gi τ a k := fun a k p1 p2 p3 => by rw [e, gsn (by omega)]; exact hf a k (by omega) p2 p3
  obtain ⟨h1, h2, ⟨m3, m3b, m3c⟩, h4, h5, h6, h7, h8⟩ := hA
  refine ⟨M1f (A := A) h1 (g _ _ (by omega) (by omega) (by omega)) (fun k => g _ _ (by omega) (by omega) (by omega)), M2f (A := A) h2 (g _ _ (by omega) (by omega) (by omega)) (fun a k p1 p2 => g _ _ (by omega) (by omega) (by omega)), ⟨(g _ _ (by omega) (by omega) (by omega)).trans m3, (g _ _ (by omega) (by omega) (by omega)).trans m3b, fun t ht => ?_⟩, M4f (A := A) h4 (fun k => g _ _ (by omega) (by omega) (by omega)), ⟨by rw [e, gss]; rfl, fun k hk => absurd hk (Nat.not_lt_zero k)⟩, M6f (A := A) h6 (g _ _ (by omega) (by omega) (by omega)) (g _ _ (by omega) (by omega) (by omega)) (g _ _ (by omega) (by omega) (by omega)) (fun a k p1 p2 => g _ _ (by omega) (by omega) (by omega)), M7f (A := A) h7 (fun a k p1 p2 => g _ _ (by omega) (by omega) (by omega)), M8f h8 (fun k => g _ _ (by omega) (by omega) (by omega))⟩
  have ht : t < aNl A := ht
  exact MTxR_frame (m3c t ht) (fun a k ha hk => g _ _ (by omega) (by omega) (by omega)) (fun k hk => g _ _ (by omega) (by omega) (by omega))
theorem m_158bad (hA : MS A τ) {σ : St} (hf : FrY (aNl A) τ σ) (h16 : ¬ gi σ 0 16 = 0) {v : Nat} (h17 : gi σ 0 17 = nI v) (h : ∀ τ', MS (sTp A 0 (aTp A)) τ' → posti (-100 - nI v) τ') : w_X7_text_158 20 posti σ := by
  unfold w_X7_text_158
  intro σ1 e1
  have k16 : ¬ gi σ1 0 16 = 0 := by rw [e1, gsk (by decide)]; exact h16
  have k17 : gi σ1 0 17 = nI v := by rw [e1, gsk (by decide)]; exact h17
  rw [k17]
  exact br_f k16 (h σ1 (MS_empty hA hf e1))
theorem m_140bad (hA : MS A τ) {σ : St} (hf : FrY (aNl A) τ σ) {q : Nat} {cs : List Int32} (hU : MUp n f b 1 q 0 cs σ) (h : ∀ τ', MS (sTp A 0 (aTp A)) τ' → posti (-100 - nI (plF n f q)) τ') : w_X7_text_140 20 posti σ := by
  obtain ⟨u1, u2⟩ := hU.2.1 (by decide)
  unfold w_X7_text_140
  exact br_f u1 (m_158bad hA hf u1 u2 h)
theorem m_45bad (hA : MS A τ) {σ : St} (hf : FrY (aNl A) τ σ) {q g : Nat} {cs : List Int32} (hg : ¬ g = 0) (hU : MUp n f b g q 0 cs σ) (h : ∀ τ', MS (sTp A 0 (aTp A)) τ' → posti (-100 - nI (plF n f q)) τ') {Y : Int32 → St → Prop} {v : Int32} : w_X7_text_45 20 posti Y v σ := by
  have hU1 : MUp n f b 1 q 0 cs σ := ⟨fun z => absurd z (by decide), fun _ => hU.2.1 hg, hU.2.2⟩
  obtain ⟨u1, u2⟩ := hU.2.1 hg
  unfold w_X7_text_45
  exact ⟨fun _ => m_140bad hA hf hU1 h, fun _ => br_f u1 (m_140bad hA hf hU1 h)⟩
theorem TPm_of (hW : VA A) (hN : aNt A ≤ 160) (hA : MS A τ) : TPm (aNt A) (aTp A) τ := ⟨hA.2.2.2.2.1.1, hN, hA.2.2.2.2.1.2, hW.2.2.2.1, hA.2.2.2.2.2.2.2⟩
theorem m_text (hV : Bd A) (hW : VA A) (hN : aNt A ≤ 160) (hA : MS A τ) (h : ∀ τ', MS (textF A).2 τ' → posti (textF A).1 τ') : w_X7_text 20 posti τ := by
  have b3 := hV.2.2.1
  have m3 := hA.2.2.1.1
  unfold textF at h
  unfold w_X7_text
  rw [m3]
  have e6 := nI_inj (a := aNl A) (b := 6) (by omega) (by decide)
  by_cases c : aNl A < 6
  · rw [if_pos c] at h
    have hT0 := TPm_of hW hN hA
    have hb : 510 * aNl A + 510 ≤ 3570 := by omega
    refine br_f (fun q => by have := e6.mp q; omega) (fun σ2 e2 σ3 e3 σ4 e4 σ5 e5 => ?_)
    have k5 : gi σ4 0 5 = nI (aNl A) := by rw [e4, gsk (by decide), e3, gsk (by decide), e2, gsk (by decide)]; exact m3
    rw [k5, show (510 : Int32) * nI (aNl A) = nI (510 * aNl A) from i_mul (a := 510)] at e5
    have f5 : FrY (aNl A) τ σ5 := fun a k p1 p2 p3 => by rw [e5, gsn (by omega), e4, gsn (by omega), e3, gsn (by omega), e2, gsn (by omega)]
    have hTY : ∀ σ, FrY (aNl A) τ σ → TPm (aNt A) (aTp A) σ := fun σ hf => ⟨(hf 0 4 (by omega) (by omega) (by omega)).trans hT0.1, hT0.2.1, fun k hk => (hf 3 k (by omega) (by omega) (by omega)).trans (hT0.2.2.1 k hk), hT0.2.2.2.1, fun k hk => (hf 7 k (by omega) (by omega) (by omega)).trans (hT0.2.2.2.2 k hk)⟩
    have h5Y : ∀ σ, FrY (aNl A) τ σ → gi σ 0 5 = nI (aNl A) := fun σ hf => (hf 0 5 (by omega) (by omega) (by omega)).trans m3
    refine m_next (hTY σ5 f5) (q := 0) (Nat.zero_le _) (by rw [e5, gsk (by decide), e4, gsk (by decide), e3, gsk (by decide), e2, gss]; rfl) (fun τ6 f6 k6 => ⟨4, ?_⟩)
    have f06 : FrY (aNl A) τ τ6 := FrY_trans f5 (fun a k p1 _ _ => f6 a k (by omega))
    have U6 : MUp (aNt A) (aTp A) (510 * aNl A) 0 0 0 [] τ6 := by
      refine ⟨fun _ => ⟨k6, ?_, ?_⟩, fun z => absurd rfl z, ?_, fun j c hc => by simp at hc⟩
      · rw [f6 _ _ (by omega), e5, gsk (by decide), e4, gss]
      · rw [f6 _ _ (by omega), e5, gsk (by decide), e4, gsk (by decide), e3, gss]; rfl
      · rw [f6 _ _ (by omega), e5, gss]; rfl
    have bad : ∀ q, plF (aNt A) (aTp A) q = plF (aNt A) (aTp A) (s3F (aNt A) (aTp A)).2.1 → ¬ okX (aNt A) (aTp A) → ∀ τ', MS (sTp A 0 (aTp A)) τ' → posti (-100 - nI (plF (aNt A) (aTp A) q)) τ' := by
      intro q eq ob τ' hm
      rw [if_neg ob] at h
      rw [eq]
      exact h τ' hm
    show w_X7_text_45 20 posti (wl_X7_text_45 20 posti 3) (nI 0) τ6
    -- part 0
    have b1 : ∀ z : (s1F (aNt A) (aTp A)).1 = 1, plF (aNt A) (aTp A) (s1F (aNt A) (aTp A)).2.1 = plF (aNt A) (aTp A) (s3F (aNt A) (aTp A)).2.1 ∧ ¬ okX (aNt A) (aTp A) := by
      intro z
      have q2 : s2F (aNt A) (aTp A) = (1, (s1F (aNt A) (aTp A)).2.1, (s1F (aNt A) (aTp A)).2.2) := by
        show stF _ _ 1 (s1F (aNt A) (aTp A)) = _
        unfold stF; rw [if_neg (by rw [z]; decide)]
      have q3 : s3F (aNt A) (aTp A) = (1, (s1F (aNt A) (aTp A)).2.1, (s1F (aNt A) (aTp A)).2.2) := by
        show stF _ _ 2 (s2F (aNt A) (aTp A)) = _
        rw [q2]
        unfold stF; rw [if_neg (show ¬ (1 : Nat) = 0 by decide)]
      refine ⟨by rw [q3], fun y => ?_⟩
      have y1 := y.1
      rw [q3] at y1
      cases y1
    have b2 : ∀ z : (s2F (aNt A) (aTp A)).1 = 1, plF (aNt A) (aTp A) (s2F (aNt A) (aTp A)).2.1 = plF (aNt A) (aTp A) (s3F (aNt A) (aTp A)).2.1 ∧ ¬ okX (aNt A) (aTp A) := by
      intro z
      have q3 : s3F (aNt A) (aTp A) = (1, (s2F (aNt A) (aTp A)).2.1, (s2F (aNt A) (aTp A)).2.2) := by
        show stF _ _ 2 (s2F (aNt A) (aTp A)) = _
        unfold stF; rw [if_neg (by rw [z]; decide)]
      refine ⟨by rw [q3], fun y => ?_⟩
      have y1 := y.1
      rw [q3] at y1
      cases y1
    have st01 : ∀ p (s : Rs), (stF (aNt A) (aTp A) p s).1 = 0 ∨ (stF (aNt A) (aTp A) p s).1 = 1 := by
      intro p s
      unfold stF ptF
      split
      · split
        · split
          · exact Or.inl rfl
          · exact Or.inr rfl
        · exact Or.inr rfl
      · exact Or.inr rfl
    refine m_part hb c (p := 0) (by decide) (0, 0, []) rfl g_s0 (hTY _ f06) U6 (h5Y _ f06) (fun τ7 f7 c7 z => m_140bad hA (FrY_trans f06 (FrY_X f7)) c7 (bad _ (b1 z).1 (b1 z).2)) (fun τ7 f7 c7 r50 r60 => ?_)
    have f07 := FrY_trans f06 (FrY_X f7)
    show w_X7_text_45 20 posti (wl_X7_text_45 20 posti 2) (nI 1) τ7
    rcases st01 0 (0, 0, []) with a1 | a1
    · rw [a1] at c7
      refine m_part hb c (p := 1) (by decide) (s1F (aNt A) (aTp A)) a1 g_s1 (hTY _ f07) c7 (h5Y _ f07) (fun τ8 f8 c8 z => m_140bad hA (FrY_trans f07 (FrY_X f8)) c8 (bad _ (b2 z).1 (b2 z).2)) (fun τ8 f8 c8 r51 r61 => ?_)
      have f08 := FrY_trans f07 (FrY_X f8)
      show w_X7_text_45 20 posti (wl_X7_text_45 20 posti 1) (nI 2) τ8
      rcases st01 1 (s1F (aNt A) (aTp A)) with a2 | a2
      · rw [a2] at c8
        refine m_part hb c (p := 2) (by decide) (s2F (aNt A) (aTp A)) a2 g_s2 (hTY _ f08) c8 (h5Y _ f08) (fun τ9 f9 c9 z => m_140bad hA (FrY_trans f08 (FrY_X f9)) c9 (bad _ rfl (fun y => absurd (show (1 : Nat) = 0 from z.symm.trans y.1) (by decide)))) (fun τ9 f9 c9 r52 r62 => ?_)
        have f09 := FrY_trans f08 (FrY_X f9)
        show w_X7_text_45 20 posti (wl_X7_text_45 20 posti 0) (nI 3) τ9
        have c9 : MUp (aNt A) (aTp A) (510 * aNl A) (s3F (aNt A) (aTp A)).1 (s3F (aNt A) (aTp A)).2.1 0 (s3F (aNt A) (aTp A)).2.2 τ9 := c9
        by_cases z : (s3F (aNt A) (aTp A)).1 = 0
        · obtain ⟨u1, u2, p0, p1, p2, q1, q2, q3⟩ := ok_parts z
          obtain ⟨⟨t2, t1, t3, t4⟩, t16, t15⟩ := c9.1 z
          have k50 := tk_k5 (n := aNt A) (f := aTp A) (q := (s3F (aNt A) (aTp A)).2.1)
          have ez := nI_inj (a := (tkF (aNt A) (aTp A) (s3F (aNt A) (aTp A)).2.1).1) (b := 0) (by omega) (by decide)
          have key0 : ∀ t ∈ VT, t.1 = 0 → t = (0, 0) := by decide +kernel
          have e00 : (tkF (aNt A) (aTp A) (s3F (aNt A) (aTp A)).2.1).1 = 0 → tkF (aNt A) (aTp A) (s3F (aNt A) (aTp A)).2.1 = (0, 0) := by
            intro y
            rcases tk_VT (n := aNt A) (f := aTp A) (q := (s3F (aNt A) (aTp A)).2.1) with w | w
            · rw [w] at y; cases y
            · exact key0 _ w y
          unfold w_X7_text_45 w_X7_text_140
          refine br_t (by decide) (br_t t16 ⟨fun y => ?_, fun y => ?_⟩)
          · rw [t3] at y
            have oo : okX (aNt A) (aTp A) := ⟨z, e00 (ez.mp y)⟩
            rw [if_pos oo] at h
            have hL := lw_ok (f := aTp A) hN z
            have hlen := hL.2.2.2
            unfold w_X7_text_158
            intro σ1 e1
            have k16 : gi σ1 0 16 = 0 := by rw [e1, gsk (by decide)]; exact t16
            have k5' : gi σ1 0 5 = nI (aNl A) := by rw [e1, gsk (by decide)]; exact h5Y _ f09
            rw [k5', nI_1]
            refine br_t k16 (fun σ3 e3 => ?_)
            have g5 : gi σ3 0 5 = nI (aNl A + 1) := by rw [e3, gss]
            have es : nI (aNl A + 1) - 1 = nI (aNl A) := by
              have := nI_sub' (a := aNl A + 1) (b := 1) (by omega)
              rw [show aNl A + 1 - 1 = aNl A by omega] at this
              exact this
            rw [g5, es]
            refine h σ3 ?_
            have g : ∀ a k, ¬ (a = 0 ∧ (k = 4 ∨ k = 5 ∨ 10 ≤ k ∧ k ≤ 17)) → ¬ (a = 4 ∧ 510 * aNl A ≤ k) → ¬ ((a = 5 ∨ a = 6) ∧ 3 * aNl A ≤ k) → gi σ3 a k = gi τ a k := fun a k p1 p2 p3 => by rw [e3, gsn (by omega), e1, gsn (by omega)]; exact f09 a k (by omega) p2 p3
            have gn : ∀ a k, a ≠ 0 → gi σ3 a k = gi τ9 a k := fun a k p => by rw [e3, gso p, e1, gso p]
            obtain ⟨h1, h2, ⟨m3', m3b, m3c⟩, h4, h5, h6, h7, h8⟩ := hA
            refine ⟨M1f (A := A) h1 (g _ _ (by omega) (by omega) (by omega)) (fun k => g _ _ (by omega) (by omega) (by omega)), M2f (A := A) h2 (g _ _ (by omega) (by omega) (by omega)) (fun a k p1 p2 => g _ _ (by omega) (by omega) (by omega)), ⟨g5, (g _ _ (by omega) (by omega) (by omega)).trans m3b, fun t ht => ?_⟩, M4f (A := A) h4 (fun k => g _ _ (by omega) (by omega) (by omega)), ⟨by rw [e3, gsk (by decide), e1, gss]; rfl, fun k hk => absurd hk (Nat.not_lt_zero k)⟩, M6f (A := A) h6 (g _ _ (by omega) (by omega) (by omega)) (g _ _ (by omega) (by omega) (by omega)) (g _ _ (by omega) (by omega) (by omega)) (fun a k p1 p2 => g _ _ (by omega) (by omega) (by omega)), M7f (A := A) h7 (fun a k p1 p2 => g _ _ (by omega) (by omega) (by omega)), M8f h8 (fun k => g _ _ (by omega) (by omega) (by omega))⟩
            have ht : t < aNl A + 1 := ht
            show MTxR σ3 t (upL (aLw A) (aNl A) (lwX (aNt A) (aTp A)) t)
            by_cases e : t = aNl A
            · rw [e, upL_s]
              refine ⟨hL, fun p hp => ⟨510 * aNl A + Lfrom (lwX (aNt A) (aTp A)) p, ?_, ?_, by omega, ?_, fun j d hd => ?_⟩⟩
              · rw [gn _ _ (by decide)]
                rcases (show p = 0 ∨ p = 1 ∨ p = 2 by omega) with rfl | rfl | rfl
                · rw [f9 _ _ (by omega) (by omega) (by omega), f8 _ _ (by omega) (by omega) (by omega), r50]; rfl
                · rw [f9 _ _ (by omega) (by omega) (by omega), r51, q1]; rfl
                · rw [r52, q2, List.length_append]; rfl
              · rw [gn _ _ (by decide)]
                have w1 : (stF (aNt A) (aTp A) 0 (0, 0, [])).2.2 = (lwX (aNt A) (aTp A)).1 := q1
                have w2 : (stF (aNt A) (aTp A) 1 (s1F (aNt A) (aTp A))).2.2 = (lwX (aNt A) (aTp A)).1 ++ (lwX (aNt A) (aTp A)).2.1 := q2
                have w3 : (stF (aNt A) (aTp A) 2 (s2F (aNt A) (aTp A))).2.2 = Lall (lwX (aNt A) (aTp A)) := q3
                rcases (show p = 0 ∨ p = 1 ∨ p = 2 by omega) with rfl | rfl | rfl
                · rw [f9 _ _ (by omega) (by omega) (by omega), f8 _ _ (by omega) (by omega) (by omega), r60, w1]; rfl
                · rw [f9 _ _ (by omega) (by omega) (by omega), r61, w2, List.length_append]
                  show nI (510 * aNl A + ((lwX (aNt A) (aTp A)).1.length + (lwX (aNt A) (aTp A)).2.1.length)) = nI (510 * aNl A + (lwX (aNt A) (aTp A)).1.length + (lwX (aNt A) (aTp A)).2.1.length)
                  congr 1
                  omega
                · rw [r62, w3]
                  unfold Lall
                  rw [List.length_append, List.length_append]
                  show nI (510 * aNl A + ((lwX (aNt A) (aTp A)).1.length + ((lwX (aNt A) (aTp A)).2.1.length + (lwX (aNt A) (aTp A)).2.2.length))) = nI (510 * aNl A + ((lwX (aNt A) (aTp A)).1.length + (lwX (aNt A) (aTp A)).2.1.length) + (lwX (aNt A) (aTp A)).2.2.length)
                  congr 1
                  omega
              · have := (Lpart_at (lwX (aNt A) (aTp A)) p hp).2
                omega
              · have := (Lpart_at (lwX (aNt A) (aTp A)) p hp).1 j d hd
                rw [← q3] at this
                rw [gn _ _ (by decide), Nat.add_assoc]
                exact c9.2.2.2 _ d this
            · rw [upL_n e]
              exact MTxR_frame (m3c t (by omega)) (fun a k ha hk => g _ _ (by omega) (by omega) (by omega)) (fun k hk => g _ _ (by omega) (by omega) (by omega))
          · rw [t3] at y
            have ob : ¬ okX (aNt A) (aTp A) := fun w => y (by rw [w.2]; rfl)
            refine m_wrongU (o' := 0) c9 (fun τ10 f10 c10 => ?_)
            obtain ⟨v1, v2⟩ := c10.2.1 (by decide)
            exact m_158bad hA (FrY_trans f09 (fun a k p1 p2 p3 => f10 a k p1 (by omega))) v1 v2 (bad _ rfl ob)
        · exact m_45bad hA f09 z c9 (bad _ rfl (fun y => z y.1))
      · exact m_45bad hA f08 (by rw [a2]; decide) c8 (bad _ (b2 a2).1 (b2 a2).2)
    · exact m_45bad hA f07 (by rw [a1]; decide) c7 (bad _ (b1 a1).1 (b1 a1).2)
  · rw [if_neg c] at h
    exact br_t (e6.mpr (by omega)) (h τ hA)
theorem v_text (hW : VA A) : VA (textF A).2 := by
  have ht : ∀ B : Ab, VA B → VA (sTp B 0 (aTp A)) := fun B h => VA_tp h (fun k hk => absurd hk (Nat.not_lt_zero k))
  unfold textF
  by_cases c : aNl A < 6
  · rw [if_pos c]
    by_cases d : okX (aNt A) (aTp A)
    · rw [if_pos d]; exact ht _ (VA_lw hW (by omega))
    · rw [if_neg d]; exact ht _ hW
  · rw [if_neg c]; exact hW
theorem hop_text {M : Nat} {σC σM : St} (hR : RRel M σC σM) : w_X6_text M (fun r u M1 => w_X7_text 20 (fun r2 u2 => r = r2 ∧ RRel M1 u u2) σM) σC := by
  obtain ⟨A, hC, hM, hW⟩ := hR
  exact c_text hW hC (fun u M1 hu => m_text (Bd_of hC) hW hC.2.2.2.2.1.2.1 hM (fun u2 hu2 => ⟨rfl, _, hu, hu2, v_text hW⟩))
end MTX
