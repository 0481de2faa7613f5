/-! the component reads a text -/
def ptF (n : Nat) (f : Nat → Int32) (p q : Nat) : Rs :=
  if tkF n f q = (3, nI p) then (if (pF n f 36 0 0 (nxF n f q)).1 = 0 ∧ tkF n f (pF n f 36 0 0 (nxF n f q)).2.1 = (4, 59) then (0, nxF n f (pF n f 36 0 0 (nxF n f q)).2.1, (pF n f 36 0 0 (nxF n f q)).2.2) else (1, (pF n f 36 0 0 (nxF n f q)).2.1, (pF n f 36 0 0 (nxF n f q)).2.2)) else (1, q, [])
def stF (n : Nat) (f : Nat → Int32) (p : Nat) (s : Rs) : Rs := if s.1 = 0 then ((ptF n f p s.2.1).1, (ptF n f p s.2.1).2.1, s.2.2 ++ (ptF n f p s.2.1).2.2) else (1, s.2.1, s.2.2)
def s1F (n : Nat) (f : Nat → Int32) : Rs := stF n f 0 (0, 0, [])
def s2F (n : Nat) (f : Nat → Int32) : Rs := stF n f 1 (s1F n f)
def s3F (n : Nat) (f : Nat → Int32) : Rs := stF n f 2 (s2F n f)
/-- whether the text is one, where it isn't, and its law -/
abbrev okX (n : Nat) (f : Nat → Int32) : Prop := (s3F n f).1 = 0 ∧ tkF n f (s3F n f).2.1 = (0, 0)
def lwX (n : Nat) (f : Nat → Int32) : Lw := ((ptF n f 0 0).2.2, (ptF n f 1 (s1F n f).2.1).2.2, (ptF n f 2 (s2F n f).2.1).2.2)
def upL (g : Nat → Lw) (t : Nat) (L : Lw) : Nat → Lw := fun j => if j = t then L else g j
def textF (A : Ab) : Int32 × Ab :=
  if aNl A < 6 then (if okX (aNt A) (aTp A) then (nI (aNl A), sTp (sLw A (upL (aLw A) (aNl A) (lwX (aNt A) (aTp A))) (aNl A + 1) (aLn A)) 0 (aTp A)) else (-100 - nI (plF (aNt A) (aTp A) (s3F (aNt A) (aTp A)).2.1), sTp A 0 (aTp A))) else (-4, A)
section CTEXT
variable {M : Nat} {post : St → Prop} {posto : Option Nat → St → Nat → Prop} {τ τ0 : St} {n : Nat} {f : Nat → Int32}
theorem pt_gd {p q : Nat} (hq : q ≤ n) : Gd n f q (ptF n f p q) := by
  unfold ptF
  by_cases c : tkF n f q = (3, nI p)
  · rw [if_pos c]
    obtain ⟨t1, t2, t3⟩ := tk_lt hq (show ¬ (tkF n f q).1 = 0 by rw [c]; show ¬ (3 : Nat) = 0; omega)
    obtain ⟨g1, g2⟩ := pF_gd (f := f) 36 0 0 _ t3
    by_cases d : (pF n f 36 0 0 (nxF n f q)).1 = 0 ∧ tkF n f (pF n f 36 0 0 (nxF n f q)).2.1 = (4, 59)
    · rw [if_pos d]
      obtain ⟨u1, u2, u3⟩ := tk_lt g1 (show ¬ (tkF n f (pF n f 36 0 0 (nxF n f q)).2.1).1 = 0 by rw [d.2]; show ¬ (4 : Nat) = 0; omega)
      refine ⟨u3, ?_⟩
      show _ + (pF n f 36 0 0 (nxF n f q)).2.2.length ≤ plF n f (nxF n f (pF n f 36 0 0 (nxF n f q)).2.1)
      omega
    · rw [if_neg d]
      refine ⟨g1, ?_⟩
      show _ + (pF n f 36 0 0 (nxF n f q)).2.2.length ≤ plF n f (pF n f 36 0 0 (nxF n f q)).2.1
      omega
  · rw [if_neg c]; exact ⟨hq, Nat.le_refl _⟩
theorem pt_wf {p q : Nat} (hq : q ≤ n) (h : (ptF n f p q).1 = 0) : wfE (ptF n f p q).2.2 0 := by
  unfold ptF at h ⊢
  by_cases c : tkF n f q = (3, nI p)
  · rw [if_pos c] at h ⊢
    obtain ⟨t1, t2, t3⟩ := tk_lt hq (show ¬ (tkF n f q).1 = 0 by rw [c]; show ¬ (3 : Nat) = 0; omega)
    by_cases d : (pF n f 36 0 0 (nxF n f q)).1 = 0 ∧ tkF n f (pF n f 36 0 0 (nxF n f q)).2.1 = (4, 59)
    · rw [if_pos d]
      have hw := pF_wf (n := n) (f := f) 36 0 0 _ t3 (by omega) (by omega) d.1 [] 0 (by unfold Hp; omega) (show (1 : Nat) = 1 from rfl)
      rw [List.append_nil] at hw
      exact hw
    · rw [if_neg d] at h; cases h
  · rw [if_neg c] at h; cases h
/-- what stands after p parts -/
def GdS (n : Nat) (f : Nat → Int32) (s : Rs) : Prop := s.2.1 ≤ n ∧ s.2.2.length ≤ plF n f s.2.1
theorem st_gd {p : Nat} {s : Rs} (h : GdS n f s) : GdS n f (stF n f p s) := by
  obtain ⟨h1, h2⟩ := h
  unfold stF
  by_cases c : s.1 = 0
  · rw [if_pos c]
    obtain ⟨g1, g2⟩ := pt_gd (f := f) (p := p) h1
    refine ⟨g1, ?_⟩
    show (s.2.2 ++ (ptF n f p s.2.1).2.2).length ≤ plF n f (ptF n f p s.2.1).2.1
    rw [List.length_append]
    omega
  · rw [if_neg c]; exact ⟨h1, h2⟩
theorem g_s0 : GdS n f (0, 0, []) := ⟨Nat.zero_le _, Nat.zero_le _⟩
theorem g_s1 : GdS n f (s1F n f) := st_gd g_s0
theorem g_s2 : GdS n f (s2F n f) := st_gd g_s1
theorem g_s3 : GdS n f (s3F n f) := st_gd g_s2
/-- when all is well: the three parts in a row -/
theorem ok_parts (h : (s3F n f).1 = 0) : (s1F n f).1 = 0 ∧ (s2F n f).1 = 0 ∧ (ptF n f 0 0).1 = 0 ∧ (ptF n f 1 (s1F n f).2.1).1 = 0 ∧ (ptF n f 2 (s2F n f).2.1).1 = 0 ∧ (s1F n f).2.2 = (lwX n f).1 ∧ (s2F n f).2.2 = (lwX n f).1 ++ (lwX n f).2.1 ∧ (s3F n f).2.2 = Lall (lwX n f) := by
  have a2 : (s2F n f).1 = 0 := by
    apply Classical.byContradiction
    intro q
    unfold s3F stF at h
    rw [if_neg q] at h
    cases h
  have a1 : (s1F n f).1 = 0 := by
    apply Classical.byContradiction
    intro q
    have h2 := a2
    unfold s2F stF at h2
    rw [if_neg q] at h2
    cases h2
  have e1 : s1F n f = ((ptF n f 0 0).1, (ptF n f 0 0).2.1, [] ++ (ptF n f 0 0).2.2) := by unfold s1F stF; rw [if_pos rfl]
  have e2 : s2F n f = ((ptF n f 1 (s1F n f).2.1).1, (ptF n f 1 (s1F n f).2.1).2.1, (s1F n f).2.2 ++ (ptF n f 1 (s1F n f).2.1).2.2) := by unfold s2F stF; rw [if_pos a1]
  have e3 : s3F n f = ((ptF n f 2 (s2F n f).2.1).1, (ptF n f 2 (s2F n f).2.1).2.1, (s2F n f).2.2 ++ (ptF n f 2 (s2F n f).2.1).2.2) := by unfold s3F stF; rw [if_pos a2]
  have c1 : (s1F n f).2.2 = (lwX n f).1 := by rw [e1]; rfl
  have c2 : (s2F n f).2.2 = (lwX n f).1 ++ (lwX n f).2.1 := by rw [e2]; show (s1F n f).2.2 ++ _ = _; rw [c1]; rfl
  have c3 : (s3F n f).2.2 = Lall (lwX n f) := by rw [e3]; show (s2F n f).2.2 ++ _ = _; rw [c2]; unfold Lall; rw [← List.append_assoc]; rfl
  refine ⟨a1, a2, ?_, ?_, ?_, c1, c2, c3⟩
  · rw [e1] at a1; exact a1
  · rw [e2] at a2; exact a2
  · rw [e3] at h; exact h
theorem lw_ok (hn : n ≤ 160) (h : (s3F n f).1 = 0) : LOk (lwX n f) := by
  obtain ⟨a1, a2, p0, p1, p2, c1, c2, c3⟩ := ok_parts h
  have g3 := g_s3 (n := n) (f := f)
  have hp := (pl_le (f := f) g3.1).2
  have hl := g3.2
  rw [c3] at hl
  exact ⟨pt_wf (Nat.zero_le n) p0, pt_wf g_s1.1 p1, pt_wf g_s2.1 p2, by omega⟩
theorem c_demandU {g q : Nat} {cs : List Int32} (hC : CUp n f g q cs τ) {x w : Int32} {k : Nat} (hx : (x, k, w) ∈ TESTS) (hT : TPc n f τ) (hq : q ≤ n) (h1 : g = 0 → tkF n f q = (k, w) → ∀ τ', FrP τ τ' → CUp n f 0 (nxF n f q) cs τ' → post τ') (h0 : ¬ (g = 0 ∧ tkF n f q = (k, w)) → ∀ τ', FrP τ τ' → CUp n f 1 q cs τ' → post τ') : w_X4_demand M post x τ := by
  have hn := hT.2.1
  have hp := (pl_le (f := f) hq).2
  unfold w_X4_demand
  refine c_nowU hC hx (by omega) (fun z e => br_f (by decide) (c_stepU (hC.1 z) hT hq (fun τ' k1 k2 => h1 z e τ' k1 ⟨fun _ => k2, fun y => absurd rfl y⟩))) (fun e => br_t rfl (c_failU hC (by omega) (fun τ' k1 k2 => h0 e τ' k1 k2)))
def FrP8 (p : Nat) (τ0 τ : St) : Prop := τ.2 = τ0.2 ∧ ∀ a k, ¬ (a = 5 ∧ 2 ≤ k) → a ≠ 7 → ¬ (a = 8 ∧ k = p) → gi τ a k = gi τ0 a k
theorem key_in : ∀ p, p < 3 → ((1000 : Int32) + nI p, (3 : Nat), nI p) ∈ TESTS := by decide +kernel
theorem CUp_row8 {g q p : Nat} {cs : List Int32} {v : Int32} (h : CUp n f g q cs τ) : CUp n f g q cs (si τ 8 p v) := by
  refine ⟨fun z => ?_, fun z => by rw [gso (by decide)]; exact h.2 z⟩
  obtain ⟨⟨t2, t4, t3, t5⟩, t6, t8, t7⟩ := h.1 z
  exact ⟨⟨by rw [gso (by decide)]; exact t2, by rw [gso (by decide)]; exact t4, by rw [gso (by decide)]; exact t3, fun y => by rw [gso (by decide)]; exact t5 y⟩, by rw [gso (by decide)]; exact t6, by rw [gso (by decide)]; exact t8, fun j c hc => by rw [gso (by decide)]; exact t7 j c hc⟩
theorem c_part {p : Nat} (hp : p < 3) (s : Rs) (hS : GdS n f s) (hT : TPc n f τ) (hC : CUp n f s.1 s.2.1 s.2.2 τ) {k21 : Int32 → St → Prop} (h : ∀ τ', FrP8 p τ τ' → CUp n f (stF n f p s).1 (stF n f p s).2.1 (stF n f p s).2.2 τ' → gi τ' 8 p = gi τ' 5 8 → k21 (nI (p + 1)) τ') : w_X4_readLaw_21 M posto k21 (nI p) τ := by
  obtain ⟨hq, hl⟩ := hS
  have hn := hT.2.1
  have hpl := (pl_le (f := f) hq).2
  unfold w_X4_readLaw_21
  have fin : ∀ (g q : Nat) (cs : List Int32) (τ' : St), FrP τ τ' → CUp n f g q cs τ' → stF n f p s = (g, q, cs) → (vp_in (nI p) 3) ∧ (∀ σ10 : St, σ10 = si τ' 8 (nI p).toNatClampNeg (gi τ' 5 8) → (∀ x11 : Int32, x11 = nI p + 1 → (k21 x11 σ10))) := by
    intro g q cs τ' f1 c1 e
    rw [nI_clamp (by omega)]
    refine ⟨vp_in_nI (by omega) (by decide), fun σ10 e10 x11 e11 => ?_⟩
    rw [e11, nI_1]
    refine h σ10 ⟨by rw [e10]; exact f1.1, fun a k h1 h2 h3 => by rw [e10, gsn h3]; exact f1.2 a k h1 h2⟩ ?_ (by rw [e10, gss, gso (by decide)])
    rw [e, e10]
    exact CUp_row8 c1
  refine br_f (nI_ge (b := 3) (by omega) (by decide)) (c_demandU hC (key_in p hp) hT hq (fun z e τ1 f1 c1 => ⟨36, by decide, ?_⟩) (fun e τ1 f1 c1 => ⟨36, by decide, ?_⟩))
  · obtain ⟨t1, t2, t3⟩ := tk_lt hq (show ¬ (tkF n f s.2.1).1 = 0 by rw [e]; show ¬ (3 : Nat) = 0; omega)
    obtain ⟨g1, g2⟩ := pF_gd (f := f) 36 0 0 _ t3
    refine c_parse hn 36 0 0 (by decide) (by decide) (by decide) _ s.2.2 τ1 _ t3 (TPc_frP hT f1) (c1.1 rfl) (by omega) (fun τ2 f2 c2 => ?_)
    have f02 := FrP_trans f1 f2
    refine c_demandU c2 (x := 59) (k := 4) (w := 59) (by decide) (TPc_frP hT f02) g1 (fun z2 e2 τ3 f3 c3 => ?_) (fun e2 τ3 f3 c3 => ?_)
    · refine fin 0 _ _ τ3 (FrP_trans f02 f3) c3 ?_
      unfold stF ptF
      rw [if_pos z, if_pos e, if_pos ⟨z2, e2⟩]
    · refine fin 1 _ _ τ3 (FrP_trans f02 f3) c3 ?_
      unfold stF ptF
      rw [if_pos z, if_pos e, if_neg e2]
  · have hf : ¬ gi τ1 5 6 = -1 := by rw [c1.2 (by decide)]; exact nI_ne (by omega)
    refine c_faulty 36 0 _ (by decide) (by decide) hf ?_
    refine c_demandU c1 (x := 59) (k := 4) (w := 59) (by decide) (TPc_frP hT f1) hq (fun z => absurd z (by decide)) (fun _ τ3 f3 c3 => ?_)
    refine fin 1 _ _ τ3 (FrP_trans f1 f3) c3 ?_
    unfold stF ptF
    by_cases z : s.1 = 0
    · rw [if_pos z, if_neg (fun y => e ⟨z, y⟩), List.append_nil]
    · rw [if_neg z]
def FrT (τ0 τ : St) : Prop := τ.2 = τ0.2 ∧ ∀ a k, ¬ (a = 5 ∧ 2 ≤ k) → a ≠ 7 → a ≠ 8 → gi τ a k = gi τ0 a k
theorem FrT_8 {p : Nat} {a b : St} (h : FrP8 p a b) : FrT a b := ⟨h.1, fun x k h1 h2 h3 => h.2 x k h1 h2 (by omega)⟩
theorem FrT_P {a b : St} (h : FrP a b) : FrT a b := ⟨h.1, fun x k h1 h2 _ => h.2 x k h1 h2⟩
theorem FrT_trans {a b c : St} (h1 : FrT a b) (h2 : FrT b c) : FrT a c := ⟨h2.1.trans h1.1, fun x k p q r => (h2.2 x k p q r).trans (h1.2 x k p q r)⟩
theorem TPc_T {a b : St} (h : TPc n f a) (hf : FrT a b) : TPc n f b := ⟨(hf.2 5 1 (by omega) (by decide) (by decide)).trans h.1, h.2.1, fun k hk => (hf.2 6 k (by omega) (by decide) (by decide)).trans (h.2.2.1 k hk), h.2.2.2⟩
/-- readLaw -/
theorem c_readLaw (hT : TPc n f τ) (hbad : ¬ okX n f → ∀ τ', FrT τ τ' → gi τ' 5 6 = nI (plF n f (s3F n f).2.1) → posto none (si τ' 5 1 0) M) (hok : okX n f → ∀ τ', FrT τ τ' → gi τ' 5 8 = nI (Lall (lwX n f)).length → (∀ j c, (Lall (lwX n f))[j]? = some c → gi τ' 7 j = c) → gi τ' 8 0 = nI (lwX n f).1.length → gi τ' 8 1 = nI ((lwX n f).1.length + (lwX n f).2.1.length) → w_X4_readLaw_105 M posto (si τ' 5 1 0)) : w_X4_readLaw M posto τ := by
  have hn := hT.2.1
  unfold w_X4_readLaw
  intro σ1 e1 σ2 e2 σ3 e3
  have f3 : FrT τ σ3 := ⟨by rw [e3, e2, e1]; rfl, fun a k h1 h2 h3 => by rw [e3, gsn (by omega), e2, gsn (by omega), e1, gsn (by omega)]⟩
  have hT3 := TPc_T hT f3
  refine c_stepOn hT3 (q := 0) (Nat.zero_le _) (by rw [e3, gsk (by decide), e2, gsk (by decide), e1, gss]; rfl) (fun τ4 f4 k4 => ⟨4, ?_⟩)
  have f04 := FrT_trans f3 (FrT_P (FrP_L f4))
  have c4 : CUp n f 0 0 [] τ4 := by
    refine ⟨fun _ => ⟨k4, ?_, ?_, fun j c hc => by simp at hc⟩, fun z => absurd rfl z⟩
    · rw [f4.2 _ _ (by omega), e3, gsk (by decide), e2, gss]
    · rw [f4.2 _ _ (by omega), e3, gss]; rfl
  show w_X4_readLaw_21 M posto (wl_X4_readLaw_21 M posto 3) (nI 0) τ4
  refine c_part (by decide) (0, 0, []) g_s0 (TPc_T hT f04) c4 (fun τ5 f5 c5 b5 => ?_)
  have f05 := FrT_trans f04 (FrT_8 f5)
  show w_X4_readLaw_21 M posto (wl_X4_readLaw_21 M posto 2) (nI 1) τ5
  refine c_part (by decide) (s1F n f) g_s1 (TPc_T hT f05) c5 (fun τ6 f6 c6 b6 => ?_)
  have f06 := FrT_trans f05 (FrT_8 f6)
  show w_X4_readLaw_21 M posto (wl_X4_readLaw_21 M posto 1) (nI 2) τ6
  refine c_part (by decide) (s2F n f) g_s2 (TPc_T hT f06) c6 (fun τ7 f7 c7 b7 => ?_)
  have f07 := FrT_trans f06 (FrT_8 f7)
  show w_X4_readLaw_21 M posto (wl_X4_readLaw_21 M posto 0) (nI 3) τ7
  unfold w_X4_readLaw_21
  have g3 := g_s3 (n := n) (f := f)
  have hp3 := (pl_le (f := f) g3.1).2
  refine br_t (by decide) (c_demandU (g := (s3F n f).1) (q := (s3F n f).2.1) (cs := (s3F n f).2.2) c7 (x := 0) (k := 0) (w := 0) (by decide) (TPc_T hT f07) g3.1 (fun z e τ8 f8 c8 σ9 e9 => ?_) (fun e τ8 f8 c8 σ9 e9 => ?_))
  · obtain ⟨a1, a2, p0, p1, p2, q1, q2, q3⟩ := ok_parts z
    have f08 := FrT_trans f07 (FrT_P f8)
    obtain ⟨t1, t6, t8, t7⟩ := c8.1 rfl
    have hlw := (lw_ok (f := f) hn z).2.2.2
    rw [q3] at t8 t7
    have w8 : w_X4_readLaw_105 M posto (si τ8 5 1 0) := by
      refine hok ⟨z, e⟩ τ8 f08 t8 t7 ?_ ?_
      · rw [f8.2 _ _ (by omega) (by decide), f7.2 _ _ (by omega) (by decide) (by omega), f6.2 _ _ (by omega) (by decide) (by omega), b5, (c5.1 a1).2.2.1]
        rw [show (stF n f 0 (0, 0, [])).2.2 = (lwX n f).1 from q1]
      · rw [f8.2 _ _ (by omega) (by decide), f7.2 _ _ (by omega) (by decide) (by omega), b6, (c6.1 a2).2.2.1]
        rw [show (stF n f 1 (s1F n f)).2.2 = (lwX n f).1 ++ (lwX n f).2.1 from q2, List.length_append]
    have k6 : gi σ9 5 6 = -1 := by rw [e9, gsk (by decide)]; exact t6
    have k8 : gi σ9 5 8 = nI (Lall (lwX n f)).length := by rw [e9, gsk (by decide)]; exact t8
    rw [k6, k8, e9]
    exact br_t rfl (br_f (nI_pos (by omega)) (br_t (by rw [il, nI_toInt (by omega)]; have : (160 : Int32).toInt = 160 := by decide
                                                       omega) w8))
  · have f08 := FrT_trans f07 (FrT_P f8)
    have t6 := c8.2 (by decide)
    have k6 : gi σ9 5 6 = nI (plF n f (s3F n f).2.1) := by rw [e9, gsk (by decide)]; exact t6
    rw [k6]
    refine br_f (nI_ne (by omega)) ?_
    rw [e9]
    exact hbad e τ8 f08 t6
end CTEXT
