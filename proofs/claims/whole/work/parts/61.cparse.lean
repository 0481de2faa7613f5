/-! the component reads a part -/
def TESTS : List (Int32 × Nat × Int32) := [(1003, 3, 3), (1004, 3, 4), (1005, 3, 5), (60, 4, 60), (61, 4, 61), (43, 4, 43), (45, 4, 45), (42, 4, 42), (41, 4, 41), (40, 4, 40), (59, 4, 59), (0, 0, 0), (1000, 3, 0), (1001, 3, 1), (1002, 3, 2)]
theorem tests : ∀ t ∈ VT, ∀ p ∈ TESTS, (tcC t = p.1 ↔ t = p.2) := by decide +kernel
theorem tests1 : ∀ p ∈ TESTS, p.1 ≠ 2 ∧ p.2.1 ≠ 1 := by decide +kernel
theorem tests2 : ∀ t ∈ VT, tcC t ≠ 2 ∧ t.1 ≠ 1 := by decide +kernel
theorem tests3 : ∀ t ∈ VT, ((¬ tcC t < 1006 ∧ ¬ 1011 < tcC t) ↔ t.1 = 2) ∧ (t.1 = 2 → (-1) - (tcC t - 1006) = -1 - t.2) := by decide +kernel
theorem tc_1 {t : Nat × Int32} (h : t.1 = 1) : tcC t = 2 := by
  unfold tcC
  rw [h]
  rfl
theorem nI_ne {a : Nat} (h : a < 2 ^ 31) : ¬ nI a = -1 := fun q => by
  have := congrArg Int32.toInt q
  rw [nI_toInt h, im1] at this
  omega
def FrP (τ0 τ : St) : Prop := τ.2 = τ0.2 ∧ ∀ a k, ¬ (a = 5 ∧ 2 ≤ k) → a ≠ 7 → gi τ a k = gi τ0 a k
theorem FrP_refl (τ : St) : FrP τ τ := ⟨rfl, fun _ _ _ _ => rfl⟩
theorem FrP_trans {a b c : St} (h1 : FrP a b) (h2 : FrP b c) : FrP a c := ⟨h2.1.trans h1.1, fun x k h h7 => (h2.2 x k h h7).trans (h1.2 x k h h7)⟩
theorem FrP_L {a b : St} (h : FrL a b) : FrP a b := ⟨h.1, fun x k h1 _ => h.2 x k (by omega)⟩
def CO (n : Nat) (f : Nat → Int32) (q : Nat) (cs : List Int32) (τ : St) : Prop := TkC n f q τ ∧ gi τ 5 6 = -1 ∧ gi τ 5 8 = nI cs.length ∧ ∀ j c, cs[j]? = some c → gi τ 7 j = c
def CUp (n : Nat) (f : Nat → Int32) (g q : Nat) (cs : List Int32) (τ : St) : Prop := (g = 0 → CO n f q cs τ) ∧ (¬ g = 0 → gi τ 5 6 = nI (plF n f q))
section CPARSE
variable {M : Nat} {post : St → Prop} {posti : Int32 → St → Prop} {τ τ0 : St} {n : Nat} {f : Nat → Int32}
theorem TPc_frP {τ0 τ : St} (h : TPc n f τ0) (hf : FrP τ0 τ) : TPc n f τ := ⟨(hf.2 5 1 (by omega) (by decide)).trans h.1, h.2.1, fun k hk => (hf.2 6 k (by omega) (by decide)).trans (h.2.2.1 k hk), h.2.2.2⟩
theorem tc_is {q : Nat} {x w : Int32} {k : Nat} (h : (x, k, w) ∈ TESTS) : tcC (tkF n f q) = x ↔ tkF n f q = (k, w) := by
  rcases tk_VT (n := n) (f := f) (q := q) with e | e
  · obtain ⟨a1, a2⟩ := tests1 _ h
    rw [tc_1 e]
    refine ⟨fun z => absurd z.symm a1, fun z => ?_⟩
    rw [z] at e
    exact absurd e a2
  · exact tests _ e _ h
theorem c_nowU {g q : Nat} {cs : List Int32} (h : CUp n f g q cs τ) {x w : Int32} {k : Nat} (hx : (x, k, w) ∈ TESTS) (hq : plF n f q ≤ 160) (h1 : g = 0 → tkF n f q = (k, w) → posti 1 τ) (h0 : ¬ (g = 0 ∧ tkF n f q = (k, w)) → posti 0 τ) : w_X4_isNow M posti x τ := by
  unfold w_X4_isNow
  by_cases c : g = 0
  · obtain ⟨⟨-, -, t3, -⟩, t6, -⟩ := h.1 c
    refine br_t t6 ?_
    rw [t3]
    have e := tc_is (n := n) (f := f) (q := q) hx
    exact ⟨fun z => h1 c (e.mp z), fun z => h0 (fun y => z (e.mpr y.2))⟩
  · have t6 := h.2 c
    exact br_f (by rw [t6]; exact nI_ne (by omega)) (h0 (fun y => c y.1))
theorem c_nowF (hf : ¬ gi τ 5 6 = -1) {x : Int32} (h : posti 0 τ) : w_X4_isNow M posti x τ := br_f hf h
theorem c_nowNum {q : Nat} {cs : List Int32} (h : CO n f q cs τ) (h1 : (tkF n f q).1 = 1 → posti 1 τ) (h0 : ¬ (tkF n f q).1 = 1 → posti 0 τ) : w_X4_isNow M posti 2 τ := by
  obtain ⟨⟨-, -, t3, -⟩, t6, -⟩ := h
  unfold w_X4_isNow
  refine br_t t6 ?_
  rw [t3]
  refine ⟨fun z => h1 ?_, fun z => h0 (fun y => z (tc_1 y))⟩
  rcases tk_VT (n := n) (f := f) (q := q) with e | e
  · exact e
  · exact absurd z (tests2 _ e).1
theorem c_emitU {g q : Nat} {cs : List Int32} {c : Int32} (h : CUp n f g q cs τ) (hl : g = 0 → cs.length < 160) (hq : plF n f q ≤ 160) (k : ∀ τ', FrP τ τ' → CUp n f g q (cs ++ [c]) τ' → post τ') : w_X4_emit M post c τ := by
  unfold w_X4_emit
  by_cases g0 : g = 0
  · obtain ⟨⟨t2, t4, t3, t5⟩, t6, t8, t7⟩ := h.1 g0
    have hl := hl g0
    rw [t8]
    refine br_t t6 (br_f (nI_ge (b := 160) hl (by decide)) ⟨vp_in_nI hl (by decide), fun σ3 e3 σ4 e4 => ?_⟩)
    rw [nI_clamp (by omega)] at e3
    have g8 : gi σ3 5 8 = nI cs.length := by rw [e3, gso (by decide)]; exact t8
    rw [g8, nI_1] at e4
    refine k σ4 ⟨by rw [e4, e3]; rfl, fun a j h1 h2 => by rw [e4, gsn (by omega), e3, gso h2]⟩ ⟨fun _ => ⟨⟨?_, ?_, ?_, fun z => ?_⟩, ?_, ?_, fun j d hd => ?_⟩, fun z => absurd g0 z⟩
    · rw [e4, gsk (by decide), e3, gso (by decide)]; exact t2
    · rw [e4, gsk (by decide), e3, gso (by decide)]; exact t4
    · rw [e4, gsk (by decide), e3, gso (by decide)]; exact t3
    · rw [e4, gsk (by decide), e3, gso (by decide)]; exact t5 z
    · rw [e4, gsk (by decide), e3, gso (by decide)]; exact t6
    · rw [e4, gss, List.length_append, List.length_singleton]
    · rw [e4, gso (by decide), e3]
      by_cases z : j < cs.length
      · rw [List.getElem?_append_left z] at hd
        rw [gsk (by omega)]; exact t7 j d hd
      · rw [List.getElem?_append_right (by omega)] at hd
        have hj : j - cs.length < [c].length := (List.getElem?_eq_some_iff.mp hd).1
        rw [List.length_singleton] at hj
        rw [show j - cs.length = 0 by omega] at hd
        rw [show j = cs.length by omega, gss]
        exact Option.some.inj hd
  · have t6 := h.2 g0
    exact br_f (by rw [t6]; exact nI_ne (by omega)) (k τ (FrP_refl τ) ⟨fun z => absurd z g0, fun _ => t6⟩)
theorem c_stepU {q : Nat} {cs : List Int32} (h : CO n f q cs τ) (hT : TPc n f τ) (hq : q ≤ n) (k : ∀ τ', FrP τ τ' → CO n f (nxF n f q) cs τ' → post τ') : w_X4_stepOn M post τ := by
  obtain ⟨⟨t2, -⟩, t6, t8, t7⟩ := h
  have hn := nx_le (f := f) hq
  refine c_stepOn hT hn.2.1 t2 (fun τ' k1 k2 => k τ' (FrP_L k1) ⟨k2, ?_, ?_, fun j c hc => ?_⟩)
  · rw [k1.2 _ _ (by omega)]; exact t6
  · rw [k1.2 _ _ (by omega)]; exact t8
  · rw [k1.2 _ _ (by omega)]; exact t7 j c hc
theorem c_failU {g q : Nat} {cs : List Int32} (h : CUp n f g q cs τ) (hq : plF n f q ≤ 160) (k : ∀ τ', FrP τ τ' → CUp n f 1 q cs τ' → post τ') : w_X4_failHere M post τ := by
  unfold w_X4_failHere
  by_cases g0 : g = 0
  · obtain ⟨⟨t2, t4, t3, t5⟩, t6, t8, t7⟩ := h.1 g0
    refine br_t t6 (fun σ2 e2 => ?_)
    rw [t4] at e2
    exact k σ2 ⟨by rw [e2]; rfl, fun a j h1 h2 => by rw [e2, gsn (by omega)]⟩ ⟨fun z => absurd z (by decide), fun _ => by rw [e2]; exact gss⟩
  · have t6 := h.2 g0
    exact br_f (by rw [t6]; exact nI_ne (by omega)) (k τ (FrP_refl τ) ⟨fun z => absurd z (by decide), fun _ => t6⟩)
theorem c_openU {q o : Nat} {cs : List Int32} (h : CO n f q cs τ) (hq : plF n f q ≤ 160) (ho : o ≤ 5) (h1 : o < 5 → posti 1 τ) (h0 : ¬ o < 5 → ∀ τ', FrP τ τ' → CUp n f 1 q cs τ' → posti 0 τ') : w_X4_mayOpen M posti (nI o) τ := by
  have e := nI_toInt (n := o) (by omega)
  have e5 : (5 : Int32).toInt = 5 := by decide
  unfold w_X4_mayOpen
  by_cases c : o < 5
  · exact br_t (by rw [ilt, e, e5]; omega) (br_f (by rw [il, e, e5]; omega) (h1 c))
  · refine br_f (by rw [ilt, e, e5]; omega) (c_failU (g := 0) ⟨fun _ => h, fun z => absurd rfl z⟩ hq (fun τ' k1 k2 => br_t (by rw [il, e, e5]; omega) (h0 c τ' k1 k2)))
theorem c_faulty {o : Int32} : ∀ (m i : Nat) (post : St → Prop), i ≤ 5 → 6 - i ≤ m → ¬ gi τ 5 6 = -1 → post τ → wr_X4 M m i post o τ := by
  intro m
  induction m with
  | zero => intro i post hi hm; omega
  | succ m ih =>
    intro i post hi hm hf h
    rcases (show i = 0 ∨ i = 1 ∨ i = 2 ∨ i = 3 ∨ i = 4 ∨ i = 5 by omega) with rfl | rfl | rfl | rfl | rfl | rfl
    · show w_X4_readAny (wr_X4 M m) M post o τ
      exact ih 1 _ (by omega) (by omega) hf ⟨1, br_f (by decide) (c_nowF hf (br_t rfl h))⟩
    · show w_X4_readAll (wr_X4 M m) M post o τ
      exact ih 2 _ (by omega) (by omega) hf ⟨1, br_f (by decide) (c_nowF hf (br_t rfl h))⟩
    · show w_X4_readNot (wr_X4 M m) M post o τ
      unfold w_X4_readNot
      exact c_nowF hf (br_t rfl (ih 3 _ (by omega) (by omega) hf (c_nowF hf (br_t rfl (c_nowF hf (br_t rfl h))))))
    · show w_X4_readSum (wr_X4 M m) M post o τ
      exact ih 4 _ (by omega) (by omega) hf ⟨1, br_f (by decide) (c_nowF hf (br_t rfl (c_nowF hf (br_t rfl h))))⟩
    · show w_X4_readTerm (wr_X4 M m) M post o τ
      exact ih 5 _ (by omega) (by omega) hf ⟨1, br_f (by decide) (c_nowF hf (br_t rfl h))⟩
    · show w_X4_readOne (wr_X4 M m) M post o τ
      unfold w_X4_readOne w_X4_readOne_72 w_X4_failHere
      exact c_nowF hf (br_t rfl (br_f hf (c_nowF hf (br_t rfl (c_nowF hf (br_t rfl (br_f hf h)))))))
/-! the rows that go on -/
theorem lp_no {i k g q : Nat} {R : Nat → Rs} {cs : List Int32} (h : g = 0 → opOf i (tkF n f q) = none) : lpF n f i R k g q cs = (g, q, cs) := by
  match k with
  | 0 => rfl
  | k + 1 =>
    unfold lpF
    by_cases c : g = 0
    · rw [if_pos c, h c, c]
    · rw [if_neg c]
theorem lp_yes {i k q : Nat} {R : Nat → Rs} {cs : List Int32} {c : Int32} (h : opOf i (tkF n f q) = some c) : lpF n f i R (k + 1) 0 q cs = lpF n f i R k (R (nxF n f q)).1 (R (nxF n f q)).2.1 (cs ++ (R (nxF n f q)).2.2 ++ [c]) := by
  show (if 0 = 0 then (match opOf i (tkF n f q) with
    | none => (0, q, cs)
    | some c => lpF n f i R k (R (nxF n f q)).1 (R (nxF n f q)).2.1 (cs ++ (R (nxF n f q)).2.2 ++ [c])) else (0, q, cs)) = _
  rw [if_pos rfl, h]
theorem op_end {i q : Nat} (hq : q ≤ n) (h : plF n f q = n) : opOf i (tkF n f q) = none := by
  cases e : opOf i (tkF n f q) with
  | none => rfl
  | some c => exact absurd ((tk_0 hq).mpr h) (opOf_ne e)
/-- what the next row's reading is worth -/
def RecC (M n : Nat) (f : Nat → Int32) (R : Nat → Rs) (W : (St → Prop) → St → Prop) : Prop := ∀ (q : Nat) (cs : List Int32) (τ : St) (post : St → Prop), q ≤ n → TPc n f τ → CO n f q cs τ → cs.length ≤ plF n f q → (∀ τ', FrP τ τ' → CUp n f (R q).1 (R q).2.1 (cs ++ (R q).2.2) τ' → post τ') → W post τ
theorem lp_app {i : Nat} {R : Nat → Rs} (cs : List Int32) : ∀ (k g q : Nat) (ds : List Int32), lpF n f i R k g q (cs ++ ds) = ((lpF n f i R k g q ds).1, (lpF n f i R k g q ds).2.1, cs ++ (lpF n f i R k g q ds).2.2) := by
  intro k
  induction k with
  | zero => intro g q ds; rfl
  | succ k ih =>
    intro g q ds
    unfold lpF
    by_cases c : g = 0
    · rw [if_pos c, if_pos c]
      cases e : opOf i (tkF n f q) with
      | none => rfl
      | some c =>
        show lpF n f i R k _ _ (cs ++ ds ++ (R (nxF n f q)).2.2 ++ [c]) = _
        rw [List.append_assoc, List.append_assoc, ih, ← List.append_assoc ds]
    · rw [if_neg c, if_neg c]
theorem c_loop_readAny {rec : Nat → (St → Prop) → Int32 → St → Prop} {R : Nat → Rs} {o : Nat} (hn : n ≤ 160) (hG : ∀ q, q ≤ n → Gd n f q (R q)) (hR : RecC M n f R (fun post τ => rec 1 post (nI o) τ)) : ∀ (k j g q : Nat) (cs : List Int32) (τ : St), j + k = 161 → q ≤ n → TPc n f τ → CUp n f g q cs τ → (g = 0 → j ≤ plF n f q ∧ cs.length ≤ plF n f q) → (∀ τ', FrP τ τ' → CUp n f (lpF n f 0 R k g q cs).1 (lpF n f 0 R k g q cs).2.1 (lpF n f 0 R k g q cs).2.2 τ' → post τ') → wl_X4_readAny_7 rec M post (k + 1) (nI o) (nI j) τ := by
  intro k
  induction k with
  | zero =>
    intro j g q cs τ hj hq hT hC hg h
    show w_X4_readAny_7 rec M post _ (nI o) (nI j) τ
    unfold w_X4_readAny_7
    exact br_t (by rw [il, nI_toInt (by omega)]; have : (160 : Int32).toInt = 160 := by decide
                   omega) (h τ (FrP_refl τ) hC)
  | succ k ih =>
    intro j g q cs τ hj hq hT hC hg h
    have hp := (pl_le (f := f) hq).2
    show w_X4_readAny_7 rec M post _ (nI o) (nI j) τ
    unfold w_X4_readAny_7
    by_cases c : 160 ≤ j
    · rw [lp_no (fun z => op_end hq (by have := hg z; omega))] at h
      exact br_t (by rw [il, nI_toInt (by omega)]; have : (160 : Int32).toInt = 160 := by decide
                     omega) (h τ (FrP_refl τ) hC)
    · refine br_f (by rw [il, nI_toInt (by omega)]; have : (160 : Int32).toInt = 160 := by decide
                      omega) (c_nowU hC (x := 1003) (k := 3) (w := 3) (by decide) (by omega) (fun z e => br_f (by decide) ?_) (fun e => br_t rfl ?_))
      · have hop : opOf 0 (tkF n f q) = some (-21) := by rw [e]; rfl
        obtain ⟨hg1, hg2⟩ := hg z
        subst z
        obtain ⟨t1, t2, t3⟩ := tk_lt hq (opOf_ne hop)
        rw [lp_yes hop] at h
        obtain ⟨d1, d2⟩ := hG _ t3
        refine c_stepU (hC.1 rfl) hT hq (fun τ1 f1 c1 => hR _ cs τ1 _ t3 (TPc_frP hT f1) c1 (by omega) (fun τ2 f2 c2 => ?_))
        have p2 := (pl_le (f := f) d1).2
        refine c_emitU (c := -21) c2 (fun _ => by rw [List.length_append]; omega) (by omega) (fun τ3 f3 c3 x8 e8 => ?_)
        rw [e8, nI_1]
        have f03 := FrP_trans (FrP_trans f1 f2) f3
        refine ih (j + 1) _ _ _ τ3 (by omega) d1 (TPc_frP hT f03) c3 (fun _ => ⟨by omega, ?_⟩) (fun τ4 f4 c4 => h τ4 (FrP_trans f03 f4) c4)
        rw [List.length_append, List.length_append, List.length_singleton]
        omega
      · rw [lp_no (fun z => ?_)] at h
        · exact h τ (FrP_refl τ) hC
        · have e' : ¬ tkF n f q = (3, 3) := fun y => e ⟨z, y⟩
          unfold opOf
          rw [if_pos rfl, if_neg e']
theorem c_loop_readAll {rec : Nat → (St → Prop) → Int32 → St → Prop} {R : Nat → Rs} {o : Nat} (hn : n ≤ 160) (hG : ∀ q, q ≤ n → Gd n f q (R q)) (hR : RecC M n f R (fun post τ => rec 2 post (nI o) τ)) : ∀ (k j g q : Nat) (cs : List Int32) (τ : St), j + k = 161 → q ≤ n → TPc n f τ → CUp n f g q cs τ → (g = 0 → j ≤ plF n f q ∧ cs.length ≤ plF n f q) → (∀ τ', FrP τ τ' → CUp n f (lpF n f 1 R k g q cs).1 (lpF n f 1 R k g q cs).2.1 (lpF n f 1 R k g q cs).2.2 τ' → post τ') → wl_X4_readAll_7 rec M post (k + 1) (nI o) (nI j) τ := by
  intro k
  induction k with
  | zero =>
    intro j g q cs τ hj hq hT hC hg h
    show w_X4_readAll_7 rec M post _ (nI o) (nI j) τ
    unfold w_X4_readAll_7
    exact br_t (by rw [il, nI_toInt (by omega)]; have : (160 : Int32).toInt = 160 := by decide
                   omega) (h τ (FrP_refl τ) hC)
  | succ k ih =>
    intro j g q cs τ hj hq hT hC hg h
    have hp := (pl_le (f := f) hq).2
    show w_X4_readAll_7 rec M post _ (nI o) (nI j) τ
    unfold w_X4_readAll_7
    by_cases c : 160 ≤ j
    · rw [lp_no (fun z => op_end hq (by have := hg z; omega))] at h
      exact br_t (by rw [il, nI_toInt (by omega)]; have : (160 : Int32).toInt = 160 := by decide
                     omega) (h τ (FrP_refl τ) hC)
    · refine br_f (by rw [il, nI_toInt (by omega)]; have : (160 : Int32).toInt = 160 := by decide
                      omega) (c_nowU hC (x := 1004) (k := 3) (w := 4) (by decide) (by omega) (fun z e => br_f (by decide) ?_) (fun e => br_t rfl ?_))
      · have hop : opOf 1 (tkF n f q) = some (-22) := by rw [e]; rfl
        obtain ⟨hg1, hg2⟩ := hg z
        subst z
        obtain ⟨t1, t2, t3⟩ := tk_lt hq (opOf_ne hop)
        rw [lp_yes hop] at h
        obtain ⟨d1, d2⟩ := hG _ t3
        refine c_stepU (hC.1 rfl) hT hq (fun τ1 f1 c1 => hR _ cs τ1 _ t3 (TPc_frP hT f1) c1 (by omega) (fun τ2 f2 c2 => ?_))
        have p2 := (pl_le (f := f) d1).2
        refine c_emitU (c := -22) c2 (fun _ => by rw [List.length_append]; omega) (by omega) (fun τ3 f3 c3 x8 e8 => ?_)
        rw [e8, nI_1]
        have f03 := FrP_trans (FrP_trans f1 f2) f3
        refine ih (j + 1) _ _ _ τ3 (by omega) d1 (TPc_frP hT f03) c3 (fun _ => ⟨by omega, ?_⟩) (fun τ4 f4 c4 => h τ4 (FrP_trans f03 f4) c4)
        rw [List.length_append, List.length_append, List.length_singleton]
        omega
      · rw [lp_no (fun z => ?_)] at h
        · exact h τ (FrP_refl τ) hC
        · have e' : ¬ tkF n f q = (3, 4) := fun y => e ⟨z, y⟩
          unfold opOf
          rw [if_neg (by decide), if_pos rfl, if_neg e']
theorem c_loop_readTerm {rec : Nat → (St → Prop) → Int32 → St → Prop} {R : Nat → Rs} {o : Nat} (hn : n ≤ 160) (hG : ∀ q, q ≤ n → Gd n f q (R q)) (hR : RecC M n f R (fun post τ => rec 5 post (nI o) τ)) : ∀ (k j g q : Nat) (cs : List Int32) (τ : St), j + k = 161 → q ≤ n → TPc n f τ → CUp n f g q cs τ → (g = 0 → j ≤ plF n f q ∧ cs.length ≤ plF n f q) → (∀ τ', FrP τ τ' → CUp n f (lpF n f 4 R k g q cs).1 (lpF n f 4 R k g q cs).2.1 (lpF n f 4 R k g q cs).2.2 τ' → post τ') → wl_X4_readTerm_7 rec M post (k + 1) (nI o) (nI j) τ := by
  intro k
  induction k with
  | zero =>
    intro j g q cs τ hj hq hT hC hg h
    show w_X4_readTerm_7 rec M post _ (nI o) (nI j) τ
    unfold w_X4_readTerm_7
    exact br_t (by rw [il, nI_toInt (by omega)]; have : (160 : Int32).toInt = 160 := by decide
                   omega) (h τ (FrP_refl τ) hC)
  | succ k ih =>
    intro j g q cs τ hj hq hT hC hg h
    have hp := (pl_le (f := f) hq).2
    show w_X4_readTerm_7 rec M post _ (nI o) (nI j) τ
    unfold w_X4_readTerm_7
    by_cases c : 160 ≤ j
    · rw [lp_no (fun z => op_end hq (by have := hg z; omega))] at h
      exact br_t (by rw [il, nI_toInt (by omega)]; have : (160 : Int32).toInt = 160 := by decide
                     omega) (h τ (FrP_refl τ) hC)
    · refine br_f (by rw [il, nI_toInt (by omega)]; have : (160 : Int32).toInt = 160 := by decide
                      omega) (c_nowU hC (x := 42) (k := 4) (w := 42) (by decide) (by omega) (fun z e => br_f (by decide) ?_) (fun e => br_t rfl ?_))
      · have hop : opOf 4 (tkF n f q) = some (-27) := by rw [e]; rfl
        obtain ⟨hg1, hg2⟩ := hg z
        subst z
        obtain ⟨t1, t2, t3⟩ := tk_lt hq (opOf_ne hop)
        rw [lp_yes hop] at h
        obtain ⟨d1, d2⟩ := hG _ t3
        refine c_stepU (hC.1 rfl) hT hq (fun τ1 f1 c1 => hR _ cs τ1 _ t3 (TPc_frP hT f1) c1 (by omega) (fun τ2 f2 c2 => ?_))
        have p2 := (pl_le (f := f) d1).2
        refine c_emitU (c := -27) c2 (fun _ => by rw [List.length_append]; omega) (by omega) (fun τ3 f3 c3 x8 e8 => ?_)
        rw [e8, nI_1]
        have f03 := FrP_trans (FrP_trans f1 f2) f3
        refine ih (j + 1) _ _ _ τ3 (by omega) d1 (TPc_frP hT f03) c3 (fun _ => ⟨by omega, ?_⟩) (fun τ4 f4 c4 => h τ4 (FrP_trans f03 f4) c4)
        rw [List.length_append, List.length_append, List.length_singleton]
        omega
      · rw [lp_no (fun z => ?_)] at h
        · exact h τ (FrP_refl τ) hC
        · have e' : ¬ tkF n f q = (4, 42) := fun y => e ⟨z, y⟩
          unfold opOf
          rw [if_neg (by decide), if_neg (by decide), if_neg (by decide), if_neg e']
theorem c_loop_readSum {rec : Nat → (St → Prop) → Int32 → St → Prop} {R : Nat → Rs} {o : Nat} (hn : n ≤ 160) (hG : ∀ q, q ≤ n → Gd n f q (R q)) (hR : RecC M n f R (fun post τ => rec 4 post (nI o) τ)) : ∀ (k j g q : Nat) (cs : List Int32) (τ : St), j + k = 161 → q ≤ n → TPc n f τ → CUp n f g q cs τ → (g = 0 → j ≤ plF n f q ∧ cs.length ≤ plF n f q) → (∀ τ', FrP τ τ' → CUp n f (lpF n f 3 R k g q cs).1 (lpF n f 3 R k g q cs).2.1 (lpF n f 3 R k g q cs).2.2 τ' → post τ') → wl_X4_readSum_7 rec M post (k + 1) (nI o) (nI j) τ := by
  intro k
  induction k with
  | zero =>
    intro j g q cs τ hj hq hT hC hg h
    show w_X4_readSum_7 rec M post _ (nI o) (nI j) τ
    unfold w_X4_readSum_7
    exact br_t (by rw [il, nI_toInt (by omega)]; have : (160 : Int32).toInt = 160 := by decide
                   omega) (h τ (FrP_refl τ) hC)
  | succ k ih =>
    intro j g q cs τ hj hq hT hC hg h
    have hp := (pl_le (f := f) hq).2
    show w_X4_readSum_7 rec M post _ (nI o) (nI j) τ
    unfold w_X4_readSum_7
    by_cases c : 160 ≤ j
    · rw [lp_no (fun z => op_end hq (by have := hg z; omega))] at h
      exact br_t (by rw [il, nI_toInt (by omega)]; have : (160 : Int32).toInt = 160 := by decide
                     omega) (h τ (FrP_refl τ) hC)
    · have go : ∀ x : Int32, g = 0 → opOf 3 (tkF n f q) = some x → w_X4_readSum_48 rec M post (wl_X4_readSum_7 rec M post (k + 1)) (nI o) (nI j) x τ := by
        intro x z hop
        obtain ⟨hg1, hg2⟩ := hg z
        subst z
        obtain ⟨t1, t2, t3⟩ := tk_lt hq (opOf_ne hop)
        rw [lp_yes hop] at h
        obtain ⟨d1, d2⟩ := hG _ t3
        unfold w_X4_readSum_48
        refine c_stepU (hC.1 rfl) hT hq (fun τ1 f1 c1 => hR _ cs τ1 _ t3 (TPc_frP hT f1) c1 (by omega) (fun τ2 f2 c2 => ?_))
        have p2 := (pl_le (f := f) d1).2
        refine c_emitU (c := x) c2 (fun _ => by rw [List.length_append]; omega) (by omega) (fun τ3 f3 c3 x8 e8 => ?_)
        rw [e8, nI_1]
        have f03 := FrP_trans (FrP_trans f1 f2) f3
        refine ih (j + 1) _ _ _ τ3 (by omega) d1 (TPc_frP hT f03) c3 (fun _ => ⟨by omega, ?_⟩) (fun τ4 f4 c4 => h τ4 (FrP_trans f03 f4) c4)
        rw [List.length_append, List.length_append, List.length_singleton]
        omega
      refine br_f (by rw [il, nI_toInt (by omega)]; have : (160 : Int32).toInt = 160 := by decide
                      omega) (c_nowU hC (x := 43) (k := 4) (w := 43) (by decide) (by omega) (fun z e => br_f (by decide) ?_) (fun e => br_t rfl (c_nowU hC (x := 45) (k := 4) (w := 45) (by decide) (by omega) (fun z e => br_f (by decide) ?_) (fun e2 => br_t rfl ?_))))
      · have t3 := (hC.1 z).1.2.2.1
        rw [t3, e]
        exact br_t (by decide) (go (-25) z (by rw [e]; rfl))
      · have t3 := (hC.1 z).1.2.2.1
        rw [t3, e]
        exact br_f (by decide) (go (-26) z (by rw [e]; rfl))
      · rw [lp_no (fun z => ?_)] at h
        · exact h τ (FrP_refl τ) hC
        · unfold opOf
          rw [if_neg (by decide), if_neg (by decide), if_pos rfl, if_neg (fun y => e ⟨z, y⟩), if_neg (fun y => e2 ⟨z, y⟩)]
theorem c_parse (hn : n ≤ 160) : ∀ (m i o : Nat), i ≤ 5 → o ≤ 5 → Dp o i ≤ m → RecC M n f (pF n f m i o) (fun post τ => wr_X4 M m i post (nI o) τ) := by
  intro m
  induction m with
  | zero => intro i o hi ho hD; unfold Dp at hD; omega
  | succ m ih =>
    intro i o hi ho hD q cs τ post hq hT hC hl h
    have hp := (pl_le (f := f) hq).2
    have hU : CUp n f 0 q cs τ := ⟨fun _ => hC, fun z => absurd rfl z⟩
    have G : ∀ i o q, q ≤ n → Gd n f q (pF n f m i o q) := fun i o q hq => pF_gd m i o q hq
    unfold Dp at hD
    rcases (show i = 0 ∨ i = 1 ∨ i = 2 ∨ i = 3 ∨ i = 4 ∨ i = 5 by omega) with rfl | rfl | rfl | rfl | rfl | rfl
    · show w_X4_readAny (wr_X4 M m) M post (nI o) τ
      unfold pF at h
      rw [if_pos (by decide)] at h
      obtain ⟨d1, d2⟩ := G 1 o q hq
      refine ih 1 o (by omega) ho (by unfold Dp; omega) q cs τ _ hq hT hC hl (fun τ1 f1 c1 => ⟨162, ?_⟩)
      refine c_loop_readAny hn (R := pF n f m 1 o) (G 1 o) (ih 1 o (by omega) ho (by unfold Dp; omega)) 161 0 _ _ _ τ1 rfl d1 (TPc_frP hT f1) c1 (fun _ => ⟨by omega, by rw [List.length_append]; omega⟩) (fun τ2 f2 c2 => h τ2 (FrP_trans f1 f2) ?_)
      rw [lp_app] at c2
      exact c2
    · show w_X4_readAll (wr_X4 M m) M post (nI o) τ
      unfold pF at h
      rw [if_pos (by decide)] at h
      obtain ⟨d1, d2⟩ := G 2 o q hq
      refine ih 2 o (by omega) ho (by unfold Dp; omega) q cs τ _ hq hT hC hl (fun τ1 f1 c1 => ⟨162, ?_⟩)
      refine c_loop_readAll hn (R := pF n f m 2 o) (G 2 o) (ih 2 o (by omega) ho (by unfold Dp; omega)) 161 0 _ _ _ τ1 rfl d1 (TPc_frP hT f1) c1 (fun _ => ⟨by omega, by rw [List.length_append]; omega⟩) (fun τ2 f2 c2 => h τ2 (FrP_trans f1 f2) ?_)
      rw [lp_app] at c2
      exact c2
    · -- not and compare
      show w_X4_readNot (wr_X4 M m) M post (nI o) τ
      unfold pF at h
      rw [if_neg (by decide), if_pos rfl] at h
      unfold w_X4_readNot
      refine c_nowU hU (x := 1005) (k := 3) (w := 5) (by decide) (by omega) (fun _ e => br_f (by decide) ?_) (fun e => br_t rfl ?_)
      · rw [if_pos e] at h
        refine c_openU hC (by omega) ho (fun c => br_f (by decide) ?_) (fun c τ1 f1 c1 => br_t rfl ?_)
        · rw [if_pos c] at h
          obtain ⟨t1, t2, t3⟩ := tk_lt hq (show ¬ (tkF n f q).1 = 0 by rw [e]; decide)
          refine c_stepU hC hT hq (fun τ1 f1 c1 => ?_)
          rw [nI_1]
          refine ih 2 (o + 1) (by omega) (by omega) (by unfold Dp; omega) _ cs τ1 _ t3 (TPc_frP hT f1) c1 (by omega) (fun τ2 f2 c2 => ?_)
          obtain ⟨d1, d2⟩ := G 2 (o + 1) _ t3
          have p2 := (pl_le (f := f) d1).2
          refine c_emitU (c := -11) c2 (fun _ => by rw [List.length_append]; omega) (by omega) (fun τ3 f3 c3 => h τ3 (FrP_trans (FrP_trans f1 f2) f3) ?_)
          rw [← List.append_assoc]; exact c3
        · rw [if_neg c] at h
          refine h τ1 f1 ?_
          rw [List.append_nil]; exact c1
      · have e' : ¬ tkF n f q = (3, 5) := fun z => e ⟨rfl, z⟩
        rw [if_neg e'] at h
        refine ih 3 o (by omega) ho (by unfold Dp; omega) q cs τ _ hq hT hC hl (fun τ1 f1 c1 => ?_)
        obtain ⟨d1, d2⟩ := G 3 o q hq
        have p1 := (pl_le (f := f) d1).2
        have go : ∀ x : Int32, (pF n f m 3 o q).1 = 0 → cmpOf (tkF n f (pF n f m 3 o q).2.1) = some x → w_X4_readNot_75 (wr_X4 M m) M post (nI o) x τ1 := by
          intro x z hx
          rw [if_pos z, hx] at h
          obtain ⟨t1, t2, t3⟩ := tk_lt d1 (cmpOf_ne hx).1
          unfold w_X4_readNot_75
          refine c_stepU (c1.1 z) (TPc_frP hT f1) d1 (fun τ2 f2 c2 => ?_)
          have f02 := FrP_trans f1 f2
          refine ih 3 o (by omega) ho (by unfold Dp; omega) _ _ τ2 _ t3 (TPc_frP hT f02) c2 (by rw [List.length_append]; omega) (fun τ3 f3 c3 => ?_)
          obtain ⟨s1, s2⟩ := G 3 o _ t3
          have p2 := (pl_le (f := f) s1).2
          refine c_emitU (c := x) c3 (fun _ => by rw [List.length_append, List.length_append]; omega) (by omega) (fun τ4 f4 c4 => h τ4 (FrP_trans (FrP_trans f02 f3) f4) ?_)
          rw [← List.append_assoc, ← List.append_assoc]; exact c4
        refine c_nowU c1 (x := 60) (k := 4) (w := 60) (by decide) (by omega) (fun z e2 => br_f (by decide) ?_) (fun e2 => br_t rfl (c_nowU c1 (x := 61) (k := 4) (w := 61) (by decide) (by omega) (fun z e3 => br_f (by decide) ?_) (fun e3 => br_t rfl ?_)))
        · have t3 := (c1.1 z).1.2.2.1
          rw [t3, e2]
          exact br_t (by decide) (go (-23) z (by rw [e2]; rfl))
        · have t3 := (c1.1 z).1.2.2.1
          rw [t3, e3]
          exact br_f (by decide) (go (-24) z (by rw [e3]; rfl))
        · by_cases z : (pF n f m 3 o q).1 = 0
          · have hc : cmpOf (tkF n f (pF n f m 3 o q).2.1) = none := by
              unfold cmpOf
              rw [if_neg (fun y => e2 ⟨z, y⟩), if_neg (fun y => e3 ⟨z, y⟩)]
            rw [if_pos z, hc] at h
            exact h τ1 f1 c1
          · rw [if_neg z] at h
            exact h τ1 f1 c1
    · show w_X4_readSum (wr_X4 M m) M post (nI o) τ
      unfold pF at h
      rw [if_pos (by decide)] at h
      obtain ⟨d1, d2⟩ := G 4 o q hq
      refine ih 4 o (by omega) ho (by unfold Dp; omega) q cs τ _ hq hT hC hl (fun τ1 f1 c1 => ⟨162, ?_⟩)
      refine c_loop_readSum hn (R := pF n f m 4 o) (G 4 o) (ih 4 o (by omega) ho (by unfold Dp; omega)) 161 0 _ _ _ τ1 rfl d1 (TPc_frP hT f1) c1 (fun _ => ⟨by omega, by rw [List.length_append]; omega⟩) (fun τ2 f2 c2 => h τ2 (FrP_trans f1 f2) ?_)
      rw [lp_app] at c2
      exact c2
    · show w_X4_readTerm (wr_X4 M m) M post (nI o) τ
      unfold pF at h
      rw [if_pos (by decide)] at h
      obtain ⟨d1, d2⟩ := G 5 o q hq
      refine ih 5 o (by omega) ho (by unfold Dp; omega) q cs τ _ hq hT hC hl (fun τ1 f1 c1 => ⟨162, ?_⟩)
      refine c_loop_readTerm hn (R := pF n f m 5 o) (G 5 o) (ih 5 o (by omega) ho (by unfold Dp; omega)) 161 0 _ _ _ τ1 rfl d1 (TPc_frP hT f1) c1 (fun _ => ⟨by omega, by rw [List.length_append]; omega⟩) (fun τ2 f2 c2 => h τ2 (FrP_trans f1 f2) ?_)
      rw [lp_app] at c2
      exact c2
    · -- one
      show w_X4_readOne (wr_X4 M m) M post (nI o) τ
      unfold pF at h
      rw [if_neg (by decide), if_neg (by decide)] at h
      unfold w_X4_readOne
      refine c_nowNum hC (fun e => br_f (by decide) ?_) (fun e => br_t rfl ?_)
      · rw [if_pos e] at h
        obtain ⟨t1, t2, t3⟩ := tk_lt hq (show ¬ (tkF n f q).1 = 0 by omega)
        have g5 := hC.1.2.2.2 e
        rw [g5]
        refine c_emitU (c := (tkF n f q).2) hU (fun _ => by omega) (by omega) (fun τ1 f1 c1 => c_stepU (c1.1 rfl) (TPc_frP hT f1) hq (fun τ2 f2 c2 => h τ2 (FrP_trans f1 f2) ⟨fun _ => c2, fun z => absurd rfl z⟩))
      · rw [if_neg e] at h
        have t3 := hC.1.2.2.1
        have t6 := hC.2.1
        have hv : tkF n f q ∈ VT := by
          rcases tk_VT (n := n) (f := f) (q := q) with z | z
          · exact absurd z e
          · exact z
        obtain ⟨v1, v2⟩ := tests3 _ hv
        have rest : ¬ (tkF n f q).1 = 2 → w_X4_readOne_72 (wr_X4 M m) M post (nI o) τ := by
          intro n2
          rw [if_neg n2] at h
          unfold w_X4_readOne_72
          refine c_nowU hU (x := 45) (k := 4) (w := 45) (by decide) (by omega) (fun _ e2 => br_f (by decide) ?_) (fun e2 => br_t rfl (c_nowU hU (x := 40) (k := 4) (w := 40) (by decide) (by omega) (fun _ e3 => br_f (by decide) ?_) (fun e3 => br_t rfl ?_)))
          · rw [if_pos e2] at h
            refine c_openU hC (by omega) ho (fun c => br_f (by decide) ?_) (fun c τ1 f1 c1 => br_t rfl ?_)
            · rw [if_pos c] at h
              obtain ⟨t1, t2, t3⟩ := tk_lt hq (show ¬ (tkF n f q).1 = 0 by rw [e2]; decide)
              refine c_stepU hC hT hq (fun τ1 f1 c1 => ?_)
              rw [nI_1]
              refine ih 5 (o + 1) (by omega) (by omega) (by unfold Dp; omega) _ cs τ1 _ t3 (TPc_frP hT f1) c1 (by omega) (fun τ2 f2 c2 => ?_)
              obtain ⟨d1, d2⟩ := G 5 (o + 1) _ t3
              have p2 := (pl_le (f := f) d1).2
              refine c_emitU (c := -12) c2 (fun _ => by rw [List.length_append]; omega) (by omega) (fun τ3 f3 c3 => h τ3 (FrP_trans (FrP_trans f1 f2) f3) ?_)
              rw [← List.append_assoc]; exact c3
            · rw [if_neg c] at h
              refine h τ1 f1 ?_
              rw [List.append_nil]; exact c1
          · have e2' : ¬ tkF n f q = (4, 45) := fun z => e2 ⟨rfl, z⟩
            rw [if_neg e2', if_pos e3] at h
            refine c_openU hC (by omega) ho (fun c => br_f (by decide) ?_) (fun c τ1 f1 c1 => br_t rfl ?_)
            · rw [if_pos c] at h
              obtain ⟨t1, t2, t3⟩ := tk_lt hq (show ¬ (tkF n f q).1 = 0 by rw [e3]; decide)
              refine c_stepU hC hT hq (fun τ1 f1 c1 => ?_)
              rw [nI_1]
              refine ih 0 (o + 1) (by omega) (by omega) (by unfold Dp; omega) _ cs τ1 _ t3 (TPc_frP hT f1) c1 (by omega) (fun τ2 f2 c2 => ?_)
              obtain ⟨d1, d2⟩ := G 0 (o + 1) _ t3
              have p2 := (pl_le (f := f) d1).2
              have f02 := FrP_trans f1 f2
              unfold w_X4_demand
              refine c_nowU c2 (x := 41) (k := 4) (w := 41) (by decide) (by omega) (fun z e4 => br_f (by decide) ?_) (fun e4 => br_t rfl (c_failU c2 (by omega) (fun τ3 f3 c3 => ?_)))
              · rw [if_pos z, if_pos e4] at h
                exact c_stepU (c2.1 z) (TPc_frP hT f02) d1 (fun τ3 f3 c3 => h τ3 (FrP_trans f02 f3) ⟨fun _ => c3, fun z => absurd rfl z⟩)
              · by_cases z : (pF n f m 0 (o + 1) (nxF n f q)).1 = 0
                · rw [if_pos z, if_neg (fun y => e4 ⟨z, y⟩)] at h
                  exact h τ3 (FrP_trans f02 f3) c3
                · rw [if_neg z] at h
                  exact h τ3 (FrP_trans f02 f3) ⟨fun y => absurd y z, fun _ => c3.2 (by decide)⟩
            · rw [if_neg c] at h
              refine h τ1 f1 ?_
              rw [List.append_nil]; exact c1
          · have e2' : ¬ tkF n f q = (4, 45) := fun z => e2 ⟨rfl, z⟩
            have e3' : ¬ tkF n f q = (4, 40) := fun z => e3 ⟨rfl, z⟩
            rw [if_neg e2', if_neg e3'] at h
            refine c_failU hU (by omega) (fun τ1 f1 c1 => h τ1 f1 ?_)
            rw [List.append_nil]; exact c1
        rw [t3]
        refine br_t t6 ⟨fun c => rest (fun z => (v1.mpr z).1 c), fun c => ⟨fun c2 => rest (fun z => (v1.mpr z).2 c2), fun c2 x7 e7 => ?_⟩⟩
        have n2 := v1.mp ⟨c, c2⟩
        rw [if_pos n2] at h
        obtain ⟨t1, t2, t3⟩ := tk_lt hq (show ¬ (tkF n f q).1 = 0 by omega)
        rw [v2 n2] at e7
        rw [e7]
        exact c_emitU (c := -1 - (tkF n f q).2) hU (fun _ => by omega) (by omega) (fun τ1 f1 c1 => c_stepU (c1.1 rfl) (TPc_frP hT f1) hq (fun τ2 f2 c2 => h τ2 (FrP_trans f1 f2) ⟨fun _ => c2, fun z => absurd rfl z⟩))
end CPARSE
