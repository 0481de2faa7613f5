/-! the reference reads a part -/
def FrQ (b : Nat) (τ0 τ : St) : Prop := ∀ a k, ¬ (a = 0 ∧ 10 ≤ k ∧ k ≤ 17) → ¬ (a = 4 ∧ b ≤ k ∧ k < b + 510) → gi τ a k = gi τ0 a k
theorem FrQ_refl {b : Nat} (τ : St) : FrQ b τ τ := fun _ _ _ _ => rfl
theorem FrQ_trans {b : Nat} {x y z : St} (h1 : FrQ b x y) (h2 : FrQ b y z) : FrQ b x z := fun a k h h' => (h2 a k h h').trans (h1 a k h h')
theorem FrQ_M {b : Nat} {x y : St} (h : FrM x y) : FrQ b x y := fun a k h1 _ => h a k (by omega)
def MO (n : Nat) (f : Nat → Int32) (q o : Nat) (τ : St) : Prop := TkM n f q τ ∧ gi τ 0 16 = 0 ∧ gi τ 0 15 = nI o
def MUp (n : Nat) (f : Nat → Int32) (b g q o : Nat) (cs : List Int32) (τ : St) : Prop := (g = 0 → MO n f q o τ) ∧ (¬ g = 0 → ¬ gi τ 0 16 = 0 ∧ gi τ 0 17 = nI (plF n f q)) ∧ gi τ 0 10 = nI (b + cs.length) ∧ ∀ j c, cs[j]? = some c → gi τ 4 (b + j) = cM c
section MPARSE
variable {post : St → Prop} {posti : Int32 → St → Prop} {τ τ0 : St} {n b : Nat} {f : Nat → Int32}
theorem TPm_frQ {τ0 τ : St} (h : TPm n f τ0) (hf : FrQ b τ0 τ) : TPm n f τ := ⟨(hf 0 4 (by omega) (by omega)).trans h.1, h.2.1, fun k hk => (hf 3 k (by omega) (by omega)).trans (h.2.2.1 k hk), h.2.2.2.1, fun k hk => (hf 7 k (by omega) (by omega)).trans (h.2.2.2.2 k hk)⟩
theorem tk_k5 {q : Nat} : (tkF n f q).1 ≤ 5 := by
  have key : ∀ t ∈ VT, t.1 ≤ 5 := by decide +kernel
  rcases tk_VT (n := n) (f := f) (q := q) with e | e
  · omega
  · exact key _ e
theorem m_keyU {g q o : Nat} {cs : List Int32} (h : MUp n f b g q o cs τ) {k : Int32} (h1 : g = 0 → tkF n f q = (3, k) → posti 1 τ) (h0 : ¬ (g = 0 ∧ tkF n f q = (3, k)) → posti 0 τ) : w_X7_isKey 20 posti k τ := by
  unfold w_X7_isKey
  by_cases c : g = 0
  · obtain ⟨⟨-, -, t3, t4⟩, t6, -⟩ := h.1 c
    have k5 := tk_k5 (n := n) (f := f) (q := q)
    have e3 := nI_inj (a := (tkF n f q).1) (b := 3) (by omega) (by decide)
    refine br_t t6 ?_
    rw [t3]
    refine ⟨fun z => ?_, fun z => h0 (fun y => z (by rw [y.2]; rfl))⟩
    have z3 := e3.mp z
    rw [t4 (by omega)]
    exact ⟨fun y => h1 c (Prod.ext z3 y), fun y => h0 (fun w => y (by rw [w.2]))⟩
  · exact br_f (h.2.1 c).1 (h0 (fun y => c y.1))
theorem m_signU {g q o : Nat} {cs : List Int32} (h : MUp n f b g q o cs τ) {k : Int32} (h1 : g = 0 → tkF n f q = (4, k) → posti 1 τ) (h0 : ¬ (g = 0 ∧ tkF n f q = (4, k)) → posti 0 τ) : w_X7_isSign 20 posti k τ := by
  unfold w_X7_isSign
  by_cases c : g = 0
  · obtain ⟨⟨-, -, t3, t4⟩, t6, -⟩ := h.1 c
    have k5 := tk_k5 (n := n) (f := f) (q := q)
    have e3 := nI_inj (a := (tkF n f q).1) (b := 4) (by omega) (by decide)
    refine br_t t6 ?_
    rw [t3]
    refine ⟨fun z => ?_, fun z => h0 (fun y => z (by rw [y.2]; rfl))⟩
    have z3 := e3.mp z
    rw [t4 (by omega)]
    exact ⟨fun y => h1 c (Prod.ext z3 y), fun y => h0 (fun w => y (by rw [w.2]))⟩
  · exact br_f (h.2.1 c).1 (h0 (fun y => c y.1))
theorem m_addU {g q o : Nat} {cs : List Int32} {c v : Int32} (h : MUp n f b g q o cs τ) (hb : b + 510 ≤ 3570) (hl : cs.length < 510) (hv : v = cM c) (k : ∀ τ', FrQ b τ τ' → MUp n f b g q o (cs ++ [c]) τ' → post τ') : w_X7_adds 20 post v τ := by
  obtain ⟨h1, h2, h3, h4⟩ := h
  unfold w_X7_adds
  rw [h3]
  refine ⟨vp_in_nI (by omega) (by decide), fun σ1 e1 σ2 e2 => ?_⟩
  rw [nI_clamp (by omega)] at e1
  have g10 : gi σ1 0 10 = nI (b + cs.length) := by rw [e1, gso (by decide)]; exact h3
  rw [g10, nI_1] at e2
  have g0 : ∀ z, z ≠ 10 → gi σ2 0 z = gi τ 0 z := fun z hz => by rw [e2, gsk hz, e1, gso (by decide)]
  refine k σ2 (fun a j p1 p2 => by rw [e2, gsn (by omega), e1, gsn (by omega)]) ⟨fun z => ?_, fun z => ?_, ?_, fun j d hd => ?_⟩
  · obtain ⟨⟨t2, t1, t3, t4⟩, t6, t5⟩ := h1 z
    exact ⟨⟨(g0 _ (by decide)).trans t2, (g0 _ (by decide)).trans t1, (g0 _ (by decide)).trans t3, fun y => (g0 _ (by decide)).trans (t4 y)⟩, (g0 _ (by decide)).trans t6, (g0 _ (by decide)).trans t5⟩
  · obtain ⟨t6, t7⟩ := h2 z
    exact ⟨by rw [g0 _ (by decide)]; exact t6, (g0 _ (by decide)).trans t7⟩
  · rw [e2, gss, List.length_append, List.length_singleton]; rfl
  · rw [e2, gso (by decide), e1]
    by_cases z : j < cs.length
    · rw [List.getElem?_append_left z] at hd
      rw [gsk (by omega)]; exact h4 j d hd
    · rw [List.getElem?_append_right (by omega)] at hd
      have hj : j - cs.length < [c].length := (List.getElem?_eq_some_iff.mp hd).1
      rw [List.length_singleton] at hj
      rw [show j - cs.length = 0 by omega] at hd
      have hd : c = d := Option.some.inj hd
      rw [show j = cs.length by omega, gss, hv, hd]
theorem m_nextU {q o : Nat} {cs : List Int32} (h : MUp n f b 0 q o cs τ) (hT : TPm n f τ) (hq : q ≤ n) (k : ∀ τ', FrQ b τ τ' → MUp n f b 0 (nxF n f q) o cs τ' → post τ') : w_X7_next 20 post τ := by
  obtain ⟨h1, h2, h3, h4⟩ := h
  obtain ⟨⟨t2, -⟩, t6, t5⟩ := h1 rfl
  have hn := nx_le (f := f) hq
  refine m_next hT hn.2.1 t2 (fun τ' k1 k2 => k τ' (FrQ_M k1) ⟨fun _ => ⟨k2, ?_, ?_⟩, fun z => absurd rfl z, ?_, fun j c hc => ?_⟩)
  · rw [k1 _ _ (by omega)]; exact t6
  · rw [k1 _ _ (by omega)]; exact t5
  · rw [k1 _ _ (by omega)]; exact h3
  · rw [k1 _ _ (by omega)]; exact h4 j c hc
theorem m_wrongU {g q o o' : Nat} {cs : List Int32} (h : MUp n f b g q o cs τ) (k : ∀ τ', FrQ b τ τ' → MUp n f b 1 q o' cs τ' → post τ') : w_X7_wrong 20 post τ := by
  obtain ⟨h1, h2, h3, h4⟩ := h
  unfold w_X7_wrong
  by_cases g0 : g = 0
  · obtain ⟨⟨t2, t1, t3, t4⟩, t6, t5⟩ := h1 g0
    refine br_t t6 (fun σ2 e2 σ3 e3 => ?_)
    have g11 : gi σ2 0 11 = nI (plF n f q) := by rw [e2, gsk (by decide)]; exact t1
    rw [g11] at e3
    refine k σ3 (fun a j p1 p2 => by rw [e3, gsn (by omega), e2, gsn (by omega)]) ⟨fun z => absurd z (by decide), fun _ => ⟨?_, ?_⟩, ?_, fun j c hc => ?_⟩
    · rw [e3, gsk (by decide), e2, gss]; decide
    · rw [e3, gss]
    · rw [e3, gsk (by decide), e2, gsk (by decide)]; exact h3
    · rw [e3, gso (by decide), e2, gso (by decide)]; exact h4 j c hc
  · exact br_f (h2 g0).1 (k τ (FrQ_refl τ) ⟨fun z => absurd z (by decide), fun _ => h2 g0, h3, h4⟩)
theorem m_opensU {q o : Nat} {cs : List Int32} (h : MUp n f b 0 q o cs τ) (hT : TPm n f τ) (hq : q ≤ n) (ho : o ≤ 5) (h1 : o < 5 → ∀ τ', FrQ b τ τ' → MUp n f b 0 (nxF n f q) (o + 1) cs τ' → posti 1 τ') (h0 : ¬ o < 5 → ∀ τ', FrQ b τ τ' → MUp n f b 1 q o cs τ' → posti 0 τ') : w_X7_opens 20 posti τ := by
  obtain ⟨⟨t2, t1, t3, t4⟩, t6, t5⟩ := h.1 rfl
  have e5 := nI_inj (a := o) (b := 5) (by omega) (by decide)
  unfold w_X7_opens
  rw [t5]
  refine ⟨fun c => m_wrongU h (fun τ' k1 k2 => h0 (by have := e5.mp c; omega) τ' k1 k2), fun c σ2 e2 => ?_⟩
  rw [nI_1] at e2
  have f2 : FrQ b τ σ2 := fun a j p1 p2 => by rw [e2, gsn (by omega)]
  have c5 : ¬ o = 5 := fun z => c (e5.mpr z)
  refine m_nextU (o := o + 1) (cs := cs) ⟨fun _ => ⟨⟨by rw [e2, gsk (by decide)]; exact t2, by rw [e2, gsk (by decide)]; exact t1, by rw [e2, gsk (by decide)]; exact t3, fun z => by rw [e2, gsk (by decide)]; exact t4 z⟩, by rw [e2, gsk (by decide)]; exact t6, by rw [e2, gss]⟩, fun z => absurd rfl z, by rw [e2, gsk (by decide)]; exact h.2.2.1, fun j c hc => by rw [e2, gso (by decide)]; exact h.2.2.2 j c hc⟩ (TPm_frQ hT f2) hq (fun τ' k1 k2 => h1 (by omega) τ' (FrQ_trans f2 k1) k2)
theorem m_close {g q o : Nat} {cs : List Int32} (h : MUp n f b g q (o + 1) cs τ) : ∀ σ : St, σ = si τ 0 15 (gi τ 0 15 - 1) → FrQ b τ σ ∧ MUp n f b g q o cs σ := by
  intro σ e
  obtain ⟨h1, h2, h3, h4⟩ := h
  refine ⟨fun a j p1 p2 => by rw [e, gsn (by omega)], fun z => ?_, fun z => ?_, by rw [e, gsk (by decide)]; exact h3, fun j c hc => by rw [e, gso (by decide)]; exact h4 j c hc⟩
  · obtain ⟨⟨t2, t1, t3, t4⟩, t6, t5⟩ := h1 z
    rw [t5] at e
    refine ⟨⟨by rw [e, gsk (by decide)]; exact t2, by rw [e, gsk (by decide)]; exact t1, by rw [e, gsk (by decide)]; exact t3, fun z => by rw [e, gsk (by decide)]; exact t4 z⟩, by rw [e, gsk (by decide)]; exact t6, ?_⟩
    rw [e, gss]
    have := nI_sub' (a := o + 1) (b := 1) (by omega)
    rw [show o + 1 - 1 = o by omega] at this
    exact this
  · exact ⟨by rw [e, gsk (by decide)]; exact (h2 z).1, by rw [e, gsk (by decide)]; exact (h2 z).2⟩
def RecM (n : Nat) (f : Nat → Int32) (b o : Nat) (R : Nat → Rs) (W : (St → Prop) → St → Prop) : Prop := ∀ (q : Nat) (cs : List Int32) (τ : St) (post : St → Prop), q ≤ n → TPm n f τ → MUp n f b 0 q o cs τ → cs.length ≤ plF n f q → (∀ τ', FrQ b τ τ' → MUp n f b (R q).1 (R q).2.1 o (cs ++ (R q).2.2) τ' → post τ') → W post τ
theorem m_loop_either {rec : Nat → (St → Prop) → St → Prop} {R : Nat → Rs} {o : Nat} (hb : b + 510 ≤ 3570) (hn : n ≤ 160) (hG : ∀ q, q ≤ n → Gd n f q (R q)) (hR : RecM n f b o R (fun post τ => rec 4 post τ)) : ∀ (k g q : Nat) (cs : List Int32) (τ : St), q ≤ n → TPm n f τ → MUp n f b g q o cs τ → (g = 0 → 161 ≤ k + plF n f q) → cs.length ≤ plF n f q → (∀ τ', FrQ b τ τ' → MUp n f b (lpF n f 0 R k g q cs).1 (lpF n f 0 R k g q cs).2.1 o (lpF n f 0 R k g q cs).2.2 τ' → post τ') → wl_X7_either_4 rec 20 post (k + 1) τ := by
  intro k
  have stop : ∀ (Y : St → Prop) (k g q : Nat) (cs : List Int32) (τ : St), MUp n f b g q o cs τ → ¬ (g = 0 ∧ tkF n f q = (3, 3)) → (∀ τ', FrQ b τ τ' → MUp n f b (lpF n f 0 R k g q cs).1 (lpF n f 0 R k g q cs).2.1 o (lpF n f 0 R k g q cs).2.2 τ' → post τ') → w_X7_either_4 rec 20 post Y τ := by
    intro Y k g q cs τ hC e h
    rw [lp_no (fun z => by
      have e' : ¬ tkF n f q = (3, 3) := fun y => e ⟨z, y⟩
      unfold opOf
      rw [if_pos rfl, if_neg e'])] at h
    unfold w_X7_either_4
    exact m_keyU hC (fun z y => absurd ⟨z, y⟩ e) (fun _ => br_t rfl (h τ (FrQ_refl τ) hC))
  induction k with
  | zero =>
    intro g q cs τ hq hT hC hg hl h
    have hp := (pl_le (f := f) hq).2
    exact stop _ 0 g q cs τ hC (fun z => by have := hg z.1; omega) h
  | succ k ih =>
    intro g q cs τ hq hT hC hg hl h
    have hp := (pl_le (f := f) hq).2
    show w_X7_either_4 rec 20 post _ τ
    by_cases e : g = 0 ∧ tkF n f q = (3, 3)
    · unfold w_X7_either_4
      refine m_keyU hC (fun _ _ => br_f (by decide) ?_) (fun z => absurd e z)
      have hop : opOf 0 (tkF n f q) = some (-21) := by rw [e.2]; rfl
      have hg1 := hg e.1
      obtain ⟨e1, e2⟩ := e
      subst e1
      obtain ⟨t1, t2, t3⟩ := tk_lt hq (opOf_ne hop)
      rw [lp_yes hop] at h
      obtain ⟨d1, d2⟩ := hG _ t3
      have p2 := (pl_le (f := f) d1).2
      refine m_nextU hC hT hq (fun τ1 f1 c1 => hR _ cs τ1 _ t3 (TPm_frQ hT f1) c1 (by omega) (fun τ2 f2 c2 => ?_))
      refine m_addU (c := -21) c2 hb (by rw [List.length_append]; omega) (by decide) (fun τ3 f3 c3 => ?_)
      have f03 := FrQ_trans (FrQ_trans f1 f2) f3
      refine ih _ _ _ τ3 d1 (TPm_frQ hT f03) c3 (fun _ => by omega) ?_ (fun τ4 f4 c4 => h τ4 (FrQ_trans f03 f4) c4)
      rw [List.length_append, List.length_append, List.length_singleton]
      omega
    · exact stop _ (k + 1) g q cs τ hC e h
theorem m_loop_both {rec : Nat → (St → Prop) → St → Prop} {R : Nat → Rs} {o : Nat} (hb : b + 510 ≤ 3570) (hn : n ≤ 160) (hG : ∀ q, q ≤ n → Gd n f q (R q)) (hR : RecM n f b o R (fun post τ => rec 3 post τ)) : ∀ (k g q : Nat) (cs : List Int32) (τ : St), q ≤ n → TPm n f τ → MUp n f b g q o cs τ → (g = 0 → 161 ≤ k + plF n f q) → cs.length ≤ plF n f q → (∀ τ', FrQ b τ τ' → MUp n f b (lpF n f 1 R k g q cs).1 (lpF n f 1 R k g q cs).2.1 o (lpF n f 1 R k g q cs).2.2 τ' → post τ') → wl_X7_both_4 rec 20 post (k + 1) τ := by
  intro k
  have stop : ∀ (Y : St → Prop) (k g q : Nat) (cs : List Int32) (τ : St), MUp n f b g q o cs τ → ¬ (g = 0 ∧ tkF n f q = (3, 4)) → (∀ τ', FrQ b τ τ' → MUp n f b (lpF n f 1 R k g q cs).1 (lpF n f 1 R k g q cs).2.1 o (lpF n f 1 R k g q cs).2.2 τ' → post τ') → w_X7_both_4 rec 20 post Y τ := by
    intro Y k g q cs τ hC e h
    rw [lp_no (fun z => by
      have e' : ¬ tkF n f q = (3, 4) := fun y => e ⟨z, y⟩
      unfold opOf
      rw [if_neg (by decide), if_pos rfl, if_neg e'])] at h
    unfold w_X7_both_4
    exact m_keyU hC (fun z y => absurd ⟨z, y⟩ e) (fun _ => br_t rfl (h τ (FrQ_refl τ) hC))
  induction k with
  | zero =>
    intro g q cs τ hq hT hC hg hl h
    have hp := (pl_le (f := f) hq).2
    exact stop _ 0 g q cs τ hC (fun z => by have := hg z.1; omega) h
  | succ k ih =>
    intro g q cs τ hq hT hC hg hl h
    have hp := (pl_le (f := f) hq).2
    show w_X7_both_4 rec 20 post _ τ
    by_cases e : g = 0 ∧ tkF n f q = (3, 4)
    · unfold w_X7_both_4
      refine m_keyU hC (fun _ _ => br_f (by decide) ?_) (fun z => absurd e z)
      have hop : opOf 1 (tkF n f q) = some (-22) := by rw [e.2]; rfl
      have hg1 := hg e.1
      obtain ⟨e1, e2⟩ := e
      subst e1
      obtain ⟨t1, t2, t3⟩ := tk_lt hq (opOf_ne hop)
      rw [lp_yes hop] at h
      obtain ⟨d1, d2⟩ := hG _ t3
      have p2 := (pl_le (f := f) d1).2
      refine m_nextU hC hT hq (fun τ1 f1 c1 => hR _ cs τ1 _ t3 (TPm_frQ hT f1) c1 (by omega) (fun τ2 f2 c2 => ?_))
      refine m_addU (c := -22) c2 hb (by rw [List.length_append]; omega) (by decide) (fun τ3 f3 c3 => ?_)
      have f03 := FrQ_trans (FrQ_trans f1 f2) f3
      refine ih _ _ _ τ3 d1 (TPm_frQ hT f03) c3 (fun _ => by omega) ?_ (fun τ4 f4 c4 => h τ4 (FrQ_trans f03 f4) c4)
      rw [List.length_append, List.length_append, List.length_singleton]
      omega
    · exact stop _ (k + 1) g q cs τ hC e h
theorem m_loop_term {rec : Nat → (St → Prop) → St → Prop} {R : Nat → Rs} {o : Nat} (hb : b + 510 ≤ 3570) (hn : n ≤ 160) (hG : ∀ q, q ≤ n → Gd n f q (R q)) (hR : RecM n f b o R (fun post τ => rec 0 post τ)) : ∀ (k g q : Nat) (cs : List Int32) (τ : St), q ≤ n → TPm n f τ → MUp n f b g q o cs τ → (g = 0 → 161 ≤ k + plF n f q) → cs.length ≤ plF n f q → (∀ τ', FrQ b τ τ' → MUp n f b (lpF n f 4 R k g q cs).1 (lpF n f 4 R k g q cs).2.1 o (lpF n f 4 R k g q cs).2.2 τ' → post τ') → wl_X7_term_4 rec 20 post (k + 1) τ := by
  intro k
  have stop : ∀ (Y : St → Prop) (k g q : Nat) (cs : List Int32) (τ : St), MUp n f b g q o cs τ → ¬ (g = 0 ∧ tkF n f q = (4, 42)) → (∀ τ', FrQ b τ τ' → MUp n f b (lpF n f 4 R k g q cs).1 (lpF n f 4 R k g q cs).2.1 o (lpF n f 4 R k g q cs).2.2 τ' → post τ') → w_X7_term_4 rec 20 post Y τ := by
    intro Y k g q cs τ hC e h
    rw [lp_no (fun z => by
      have e' : ¬ tkF n f q = (4, 42) := fun y => e ⟨z, y⟩
      unfold opOf
      rw [if_neg (by decide), if_neg (by decide), if_neg (by decide), if_neg e'])] at h
    unfold w_X7_term_4
    exact m_signU hC (fun z y => absurd ⟨z, y⟩ e) (fun _ => br_t rfl (h τ (FrQ_refl τ) hC))
  induction k with
  | zero =>
    intro g q cs τ hq hT hC hg hl h
    have hp := (pl_le (f := f) hq).2
    exact stop _ 0 g q cs τ hC (fun z => by have := hg z.1; omega) h
  | succ k ih =>
    intro g q cs τ hq hT hC hg hl h
    have hp := (pl_le (f := f) hq).2
    show w_X7_term_4 rec 20 post _ τ
    by_cases e : g = 0 ∧ tkF n f q = (4, 42)
    · unfold w_X7_term_4
      refine m_signU hC (fun _ _ => br_f (by decide) ?_) (fun z => absurd e z)
      have hop : opOf 4 (tkF n f q) = some (-27) := by rw [e.2]; rfl
      have hg1 := hg e.1
      obtain ⟨e1, e2⟩ := e
      subst e1
      obtain ⟨t1, t2, t3⟩ := tk_lt hq (opOf_ne hop)
      rw [lp_yes hop] at h
      obtain ⟨d1, d2⟩ := hG _ t3
      have p2 := (pl_le (f := f) d1).2
      refine m_nextU hC hT hq (fun τ1 f1 c1 => hR _ cs τ1 _ t3 (TPm_frQ hT f1) c1 (by omega) (fun τ2 f2 c2 => ?_))
      refine m_addU (c := -27) c2 hb (by rw [List.length_append]; omega) (by decide) (fun τ3 f3 c3 => ?_)
      have f03 := FrQ_trans (FrQ_trans f1 f2) f3
      refine ih _ _ _ τ3 d1 (TPm_frQ hT f03) c3 (fun _ => by omega) ?_ (fun τ4 f4 c4 => h τ4 (FrQ_trans f03 f4) c4)
      rw [List.length_append, List.length_append, List.length_singleton]
      omega
    · exact stop _ (k + 1) g q cs τ hC e h
theorem m_loop_sum {rec : Nat → (St → Prop) → St → Prop} {R : Nat → Rs} {o : Nat} (hb : b + 510 ≤ 3570) (hn : n ≤ 160) (hG : ∀ q, q ≤ n → Gd n f q (R q)) (hR : RecM n f b o R (fun post τ => rec 1 post τ)) : ∀ (k g q : Nat) (cs : List Int32) (τ : St), q ≤ n → TPm n f τ → MUp n f b g q o cs τ → (g = 0 → 161 ≤ k + plF n f q) → cs.length ≤ plF n f q → (∀ τ', FrQ b τ τ' → MUp n f b (lpF n f 3 R k g q cs).1 (lpF n f 3 R k g q cs).2.1 o (lpF n f 3 R k g q cs).2.2 τ' → post τ') → wl_X7_sum_4 rec 20 post (k + 1) τ := by
  intro k
  have stop : ∀ (Y : St → Prop) (k g q : Nat) (cs : List Int32) (τ : St), MUp n f b g q o cs τ → ¬ (g = 0 ∧ tkF n f q = (4, 43)) → ¬ (g = 0 ∧ tkF n f q = (4, 45)) → (∀ τ', FrQ b τ τ' → MUp n f b (lpF n f 3 R k g q cs).1 (lpF n f 3 R k g q cs).2.1 o (lpF n f 3 R k g q cs).2.2 τ' → post τ') → w_X7_sum_4 rec 20 post Y τ := by
    intro Y k g q cs τ hC e e2 h
    rw [lp_no (fun z => by unfold opOf; rw [if_neg (by decide), if_neg (by decide), if_pos rfl, if_neg (fun y => e ⟨z, y⟩), if_neg (fun y => e2 ⟨z, y⟩)])] at h
    unfold w_X7_sum_4
    exact m_signU hC (fun z y => absurd ⟨z, y⟩ e) (fun _ => br_t rfl (m_signU hC (fun z y => absurd ⟨z, y⟩ e2) (fun _ => br_t rfl (h τ (FrQ_refl τ) hC))))
  induction k with
  | zero =>
    intro g q cs τ hq hT hC hg hl h
    have hp := (pl_le (f := f) hq).2
    exact stop _ 0 g q cs τ hC (fun z => by have := hg z.1; omega) (fun z => by have := hg z.1; omega) h
  | succ k ih =>
    intro g q cs τ hq hT hC hg hl h
    have hp := (pl_le (f := f) hq).2
    have go : ∀ x v : Int32, g = 0 → opOf 3 (tkF n f q) = some x → (-100) - (tkF n f q).2 = cM x → 1 ≤ (tkF n f q).1 ∧ (tkF n f q).1 ≤ 4 → w_X7_sum_22 rec 20 post (wl_X7_sum_4 rec 20 post (k + 1)) τ := by
      intro x v z hop hx hk
      have hg1 := hg z
      subst z
      obtain ⟨t1, t2, t3⟩ := tk_lt hq (opOf_ne hop)
      rw [lp_yes hop] at h
      obtain ⟨d1, d2⟩ := hG _ t3
      have p2 := (pl_le (f := f) d1).2
      unfold w_X7_sum_22
      have g14 := (hC.1 rfl).1.2.2.2 hk
      rw [g14]
      refine m_nextU hC hT hq (fun τ1 f1 c1 => hR _ cs τ1 _ t3 (TPm_frQ hT f1) c1 (by omega) (fun τ2 f2 c2 => ?_))
      refine m_addU (c := x) c2 hb (by rw [List.length_append]; omega) hx (fun τ3 f3 c3 => ?_)
      have f03 := FrQ_trans (FrQ_trans f1 f2) f3
      refine ih _ _ _ τ3 d1 (TPm_frQ hT f03) c3 (fun _ => by omega) ?_ (fun τ4 f4 c4 => h τ4 (FrQ_trans f03 f4) c4)
      rw [List.length_append, List.length_append, List.length_singleton]
      omega
    show w_X7_sum_4 rec 20 post _ τ
    by_cases e : g = 0 ∧ tkF n f q = (4, 43)
    · unfold w_X7_sum_4
      refine m_signU hC (fun _ _ => br_f (by decide) (go (-25) 0 e.1 (by rw [e.2]; rfl) (by rw [e.2]; decide) (by rw [e.2]; exact ⟨by decide, by decide⟩))) (fun z => absurd e z)
    · by_cases e2 : g = 0 ∧ tkF n f q = (4, 45)
      · unfold w_X7_sum_4
        exact m_signU hC (fun z y => absurd ⟨z, y⟩ e) (fun _ => br_t rfl (m_signU hC (fun _ _ => br_f (by decide) (go (-26) 0 e2.1 (by rw [e2.2]; rfl) (by rw [e2.2]; decide) (by rw [e2.2]; exact ⟨by decide, by decide⟩))) (fun z => absurd e2 z)))
      · exact stop _ (k + 1) g q cs τ hC e e2 h
theorem cM_6 {c : Int32} (h : -6 ≤ c) : c = cM c := by unfold cM; rw [if_pos h]
theorem m_parse (hb : b + 510 ≤ 3570) (hn : n ≤ 160) : ∀ (m i o : Nat), i ≤ 5 → o ≤ 5 → Dp o i ≤ m → RecM n f b o (pF n f m i o) (fun post τ => wr_X7 20 m (5 - i) post τ) := by
  intro m
  induction m with
  | zero => intro i o hi ho hD; unfold Dp at hD; omega
  | succ m ih =>
    intro i o hi ho hD q cs τ post hq hT hU hl h
    have hp := (pl_le (f := f) hq).2
    have G : ∀ i o q, q ≤ n → Gd n f q (pF n f m i o q) := fun i o q hq => pF_gd m i o q hq
    have hO := hU.1 rfl
    unfold Dp at hD
    rcases (show i = 0 ∨ i = 1 ∨ i = 2 ∨ i = 3 ∨ i = 4 ∨ i = 5 by omega) with rfl | rfl | rfl | rfl | rfl | rfl
    · show w_X7_either (wr_X7 20 m) 20 post τ
      unfold pF at h
      rw [if_pos (by decide)] at h
      obtain ⟨d1, d2⟩ := G 1 o q hq
      refine ih 1 o (by omega) ho (by unfold Dp; omega) q cs τ _ hq hT hU hl (fun τ1 f1 c1 => ⟨162, ?_⟩)
      refine m_loop_either hb hn (R := pF n f m 1 o) (G 1 o) (ih 1 o (by omega) ho (by unfold Dp; omega)) 161 _ _ _ τ1 d1 (TPm_frQ hT f1) c1 (fun _ => by omega) (by rw [List.length_append]; omega) (fun τ2 f2 c2 => h τ2 (FrQ_trans f1 f2) ?_)
      rw [lp_app] at c2
      exact c2
    · show w_X7_both (wr_X7 20 m) 20 post τ
      unfold pF at h
      rw [if_pos (by decide)] at h
      obtain ⟨d1, d2⟩ := G 2 o q hq
      refine ih 2 o (by omega) ho (by unfold Dp; omega) q cs τ _ hq hT hU hl (fun τ1 f1 c1 => ⟨162, ?_⟩)
      refine m_loop_both hb hn (R := pF n f m 2 o) (G 2 o) (ih 2 o (by omega) ho (by unfold Dp; omega)) 161 _ _ _ τ1 d1 (TPm_frQ hT f1) c1 (fun _ => by omega) (by rw [List.length_append]; omega) (fun τ2 f2 c2 => h τ2 (FrQ_trans f1 f2) ?_)
      rw [lp_app] at c2
      exact c2
    · -- not and compare
      show w_X7_not (wr_X7 20 m) 20 post τ
      unfold pF at h
      rw [if_neg (by decide), if_pos rfl] at h
      unfold w_X7_not
      refine m_keyU hU (fun _ e => br_f (by decide) ?_) (fun e => br_t rfl ?_)
      · rw [if_pos e] at h
        refine m_opensU hU hT hq ho (fun c τ1 f1 c1 => br_f (by decide) ?_) (fun c τ1 f1 c1 => br_t rfl ?_)
        · rw [if_pos c] at h
          obtain ⟨t1, t2, t3⟩ := tk_lt hq (show ¬ (tkF n f q).1 = 0 by rw [e]; decide)
          refine ih 2 (o + 1) (by omega) (by omega) (by unfold Dp; omega) _ cs τ1 _ t3 (TPm_frQ hT f1) c1 (by omega) (fun τ2 f2 c2 => ?_)
          obtain ⟨d1, d2⟩ := G 2 (o + 1) _ t3
          have p2 := (pl_le (f := f) d1).2
          refine m_addU (c := -11) c2 hb (by rw [List.length_append]; omega) (by decide) (fun τ3 f3 c3 σ16 e16 => ?_)
          obtain ⟨f4, c4⟩ := m_close c3 σ16 e16
          refine h σ16 (FrQ_trans (FrQ_trans (FrQ_trans f1 f2) f3) f4) ?_
          rw [← List.append_assoc]; exact c4
        · rw [if_neg c] at h
          refine h τ1 f1 ?_
          rw [List.append_nil]; exact c1
      · have e' : ¬ tkF n f q = (3, 5) := fun z => e ⟨rfl, z⟩
        rw [if_neg e'] at h
        refine ih 3 o (by omega) ho (by unfold Dp; omega) q cs τ _ hq hT hU hl (fun τ1 f1 c1 => ?_)
        obtain ⟨d1, d2⟩ := G 3 o q hq
        have p1 := (pl_le (f := f) d1).2
        have go : ∀ x : Int32, (pF n f m 3 o q).1 = 0 → cmpOf (tkF n f (pF n f m 3 o q).2.1) = some x → (-100) - (tkF n f (pF n f m 3 o q).2.1).2 = cM x → 1 ≤ (tkF n f (pF n f m 3 o q).2.1).1 ∧ (tkF n f (pF n f m 3 o q).2.1).1 ≤ 4 → w_X7_not_58 (wr_X7 20 m) 20 post τ1 := by
          intro x z hx hv hk
          rw [if_pos z, hx] at h
          obtain ⟨t1, t2, t3⟩ := tk_lt d1 (cmpOf_ne hx).1
          unfold w_X7_not_58
          have g14 := (c1.1 z).1.2.2.2 hk
          rw [g14]
          rw [z] at c1
          refine m_nextU c1 (TPm_frQ hT f1) d1 (fun τ2 f2 c2 => ?_)
          have f02 := FrQ_trans f1 f2
          refine ih 3 o (by omega) ho (by unfold Dp; omega) _ _ τ2 _ t3 (TPm_frQ hT f02) c2 (by rw [List.length_append]; omega) (fun τ3 f3 c3 => ?_)
          obtain ⟨s1, s2⟩ := G 3 o _ t3
          have p2 := (pl_le (f := f) s1).2
          refine m_addU (c := x) c3 hb (by rw [List.length_append, List.length_append]; omega) hv (fun τ4 f4 c4 => h τ4 (FrQ_trans (FrQ_trans f02 f3) f4) ?_)
          rw [← List.append_assoc, ← List.append_assoc]; exact c4
        refine m_signU c1 (fun z e2 => br_f (by decide) (go (-23) z (by rw [e2]; rfl) (by rw [e2]; decide) (by rw [e2]; exact ⟨by decide, by decide⟩))) (fun e2 => br_t rfl (m_signU c1 (fun z e3 => br_f (by decide) (go (-24) z (by rw [e3]; rfl) (by rw [e3]; decide) (by rw [e3]; exact ⟨by decide, by decide⟩))) (fun e3 => br_t rfl ?_)))
        by_cases z : (pF n f m 3 o q).1 = 0
        · have hc : cmpOf (tkF n f (pF n f m 3 o q).2.1) = none := by
            unfold cmpOf
            rw [if_neg (fun y => e2 ⟨z, y⟩), if_neg (fun y => e3 ⟨z, y⟩)]
          rw [if_pos z, hc] at h
          exact h τ1 f1 c1
        · rw [if_neg z] at h
          exact h τ1 f1 c1
    · show w_X7_sum (wr_X7 20 m) 20 post τ
      unfold pF at h
      rw [if_pos (by decide)] at h
      obtain ⟨d1, d2⟩ := G 4 o q hq
      refine ih 4 o (by omega) ho (by unfold Dp; omega) q cs τ _ hq hT hU hl (fun τ1 f1 c1 => ⟨162, ?_⟩)
      refine m_loop_sum hb hn (R := pF n f m 4 o) (G 4 o) (ih 4 o (by omega) ho (by unfold Dp; omega)) 161 _ _ _ τ1 d1 (TPm_frQ hT f1) c1 (fun _ => by omega) (by rw [List.length_append]; omega) (fun τ2 f2 c2 => h τ2 (FrQ_trans f1 f2) ?_)
      rw [lp_app] at c2
      exact c2
    · show w_X7_term (wr_X7 20 m) 20 post τ
      unfold pF at h
      rw [if_pos (by decide)] at h
      obtain ⟨d1, d2⟩ := G 5 o q hq
      refine ih 5 o (by omega) ho (by unfold Dp; omega) q cs τ _ hq hT hU hl (fun τ1 f1 c1 => ⟨162, ?_⟩)
      refine m_loop_term hb hn (R := pF n f m 5 o) (G 5 o) (ih 5 o (by omega) ho (by unfold Dp; omega)) 161 _ _ _ τ1 d1 (TPm_frQ hT f1) c1 (fun _ => by omega) (by rw [List.length_append]; omega) (fun τ2 f2 c2 => h τ2 (FrQ_trans f1 f2) ?_)
      rw [lp_app] at c2
      exact c2
    · -- one
      show w_X7_one (wr_X7 20 m) 20 post τ
      unfold pF at h
      rw [if_neg (by decide), if_neg (by decide)] at h
      unfold w_X7_one
      obtain ⟨⟨-, -, t3, t4⟩, t6, t5⟩ := hO
      have k5 := tk_k5 (n := n) (f := f) (q := q)
      have e1 := nI_inj (a := (tkF n f q).1) (b := 1) (by omega) (by decide)
      have e2 := nI_inj (a := (tkF n f q).1) (b := 2) (by omega) (by decide)
      rw [t3]
      refine br_t t6 ⟨fun c => ?_, fun c => ⟨fun c2 => ?_, fun c2 => ?_⟩⟩
      · have k1 := e1.mp c
        rw [if_pos k1] at h
        obtain ⟨t1, t2, u3⟩ := tk_lt hq (show ¬ (tkF n f q).1 = 0 by omega)
        unfold w_X7_one_24
        rw [t3, t4 (by omega)]
        have hv := tk_num k1
        have e6 : (-6 : Int32).toInt = -6 := by decide
        exact br_t c (m_addU (c := (tkF n f q).2) hU hb (by omega) (cM_6 (by rw [il, e6]; omega)) (fun τ1 f1 c1 => m_nextU c1 (TPm_frQ hT f1) hq (fun τ2 f2 c2 => h τ2 (FrQ_trans f1 f2) c2)))
      · have k1 : ¬ (tkF n f q).1 = 1 := fun z => c (e1.mpr z)
        have k2 := e2.mp c2
        rw [if_neg k1, if_pos k2] at h
        obtain ⟨t1, t2, u3⟩ := tk_lt hq (show ¬ (tkF n f q).1 = 0 by omega)
        have hv := (tk_name k2).1
        unfold w_X7_one_24
        rw [t3, t4 (by omega)]
        have hc := cM_6 hv
        exact br_f c (m_addU (c := -1 - (tkF n f q).2) hU hb (by omega) hc (fun τ1 f1 c1 => m_nextU c1 (TPm_frQ hT f1) hq (fun τ2 f2 c2 => h τ2 (FrQ_trans f1 f2) c2)))
      · have k1 : ¬ (tkF n f q).1 = 1 := fun z => c (e1.mpr z)
        have k2 : ¬ (tkF n f q).1 = 2 := fun z => c2 (e2.mpr z)
        rw [if_neg k1, if_neg k2] at h
        refine m_signU hU (fun _ e => br_f (by decide) ?_) (fun e => br_t rfl (m_signU hU (fun _ e3 => br_f (by decide) ?_) (fun e3 => br_t rfl ?_)))
        · rw [if_pos e] at h
          unfold w_X7_one_79
          refine m_opensU hU hT hq ho (fun c τ1 f1 c1 => br_f (by decide) (br_f (by decide) ?_)) (fun c τ1 f1 c1 => br_t rfl ?_)
          · rw [if_pos c] at h
            obtain ⟨t1, t2, u3⟩ := tk_lt hq (show ¬ (tkF n f q).1 = 0 by rw [e]; decide)
            refine ih 5 (o + 1) (by omega) (by omega) (by unfold Dp; omega) _ cs τ1 _ u3 (TPm_frQ hT f1) c1 (by omega) (fun τ2 f2 c2 => ?_)
            obtain ⟨d1, d2⟩ := G 5 (o + 1) _ u3
            have p2 := (pl_le (f := f) d1).2
            refine m_addU (c := -12) c2 hb (by rw [List.length_append]; omega) (by decide) (fun τ3 f3 c3 σ16 e16 => ?_)
            obtain ⟨f4, c4⟩ := m_close c3 σ16 e16
            refine h σ16 (FrQ_trans (FrQ_trans (FrQ_trans f1 f2) f3) f4) ?_
            rw [← List.append_assoc]; exact c4
          · rw [if_neg c] at h
            refine h τ1 f1 ?_
            rw [List.append_nil]; exact c1
        · have e' : ¬ tkF n f q = (4, 45) := fun z => e ⟨rfl, z⟩
          rw [if_neg e', if_pos e3] at h
          unfold w_X7_one_79
          refine m_opensU hU hT hq ho (fun c τ1 f1 c1 => br_f (by decide) (br_t rfl ?_)) (fun c τ1 f1 c1 => br_t rfl ?_)
          · rw [if_pos c] at h
            obtain ⟨t1, t2, u3⟩ := tk_lt hq (show ¬ (tkF n f q).1 = 0 by rw [e3]; decide)
            refine ih 0 (o + 1) (by omega) (by omega) (by unfold Dp; omega) _ cs τ1 _ u3 (TPm_frQ hT f1) c1 (by omega) (fun τ2 f2 c2 => ?_)
            obtain ⟨d1, d2⟩ := G 0 (o + 1) _ u3
            have p2 := (pl_le (f := f) d1).2
            have f02 := FrQ_trans f1 f2
            refine m_signU c2 (fun z e4 => br_f (by decide) (fun σ9 e9 => ?_)) (fun e4 => br_t rfl (m_wrongU (o' := o) c2 (fun τ3 f3 c3 => ?_)))
            · rw [if_pos z, if_pos e4] at h
              obtain ⟨f4, c4⟩ := m_close c2 σ9 e9
              rw [z] at c4
              exact m_nextU c4 (TPm_frQ hT (FrQ_trans f02 f4)) d1 (fun τ3 f3 c3 => h τ3 (FrQ_trans (FrQ_trans f02 f4) f3) c3)
            · by_cases z : (pF n f m 0 (o + 1) (nxF n f q)).1 = 0
              · rw [if_pos z, if_neg (fun y => e4 ⟨z, y⟩)] at h
                exact h τ3 (FrQ_trans f02 f3) c3
              · rw [if_neg z] at h
                exact h τ3 (FrQ_trans f02 f3) ⟨fun y => absurd y z, fun _ => c3.2.1 (by decide), c3.2.2.1, c3.2.2.2⟩
          · rw [if_neg c] at h
            refine h τ1 f1 ?_
            rw [List.append_nil]; exact c1
        · have e' : ¬ tkF n f q = (4, 45) := fun z => e ⟨rfl, z⟩
          have e3' : ¬ tkF n f q = (4, 40) := fun z => e3 ⟨rfl, z⟩
          rw [if_neg e', if_neg e3'] at h
          refine m_wrongU (o' := o) hU (fun τ1 f1 c1 => h τ1 f1 ?_)
          rw [List.append_nil]; exact c1
end MPARSE
