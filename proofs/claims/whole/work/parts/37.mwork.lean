/-- a text of the reference's, and the one that rules -/
def MTxt (σ : St) (t : Nat) (L : Lw) : Prop := LOk L ∧ ∀ p, p < 3 → ∃ b : Nat, gi σ 5 (3 * t + p) = nI b ∧ gi σ 6 (3 * t + p) = nI (b + (Lpart L p).length) ∧ b + (Lpart L p).length ≤ 3570 ∧ ∀ j c, (Lpart L p)[j]? = some c → gi σ 4 (b + j) = cM c
def MLw (σ : St) (L : Lw) : Prop := ∃ t : Nat, t < 7 ∧ gi σ 0 6 = nI t ∧ MTxt σ t L
theorem up_same (P : Pt) (k : Nat) : up P k (P.1 k) = P := by
  unfold up upN
  have e : (fun j => if j = k then P.1 k else P.1 j) = P.1 := funext fun j => by by_cases h : j = k; rw [if_pos h, h]; rw [if_neg h]
  rw [e]
section MWORK
variable {post : St → Prop} {posti : Int32 → St → Prop} {σ : St} {P : Pt} {x : Int64} {hm : Int32} {g h : Nat → Int32}
theorem m_reckon {s : St} {c a b : Int32} (h1 : -27 ≤ c) (h2 : c ≤ -21) (hh : posti (join c a b) s) : w_X7_reckon 20 posti ((-100) - cM c) a b s := by
  unfold w_X7_reckon
  rcases seven h1 h2 with rfl | rfl | rfl | rfl | rfl | rfl | rfl
  · have e : join (-21) a b = if a = 0 then (if b = 0 then 0 else 1) else 1 := rfl
    rw [e] at hh
    refine br_f (by decide) (br_f (by decide) (br_f (by decide) (br_f (by decide) (br_f (by decide) (br_f (by decide) ⟨fun q => ⟨fun q2 => ?_, fun q2 => ?_⟩, fun q => ?_⟩)))))
    · rw [if_pos q, if_pos q2] at hh; exact hh
    · rw [if_pos q, if_neg q2] at hh; exact hh
    · rw [if_neg q] at hh; exact hh
  · have e : join (-22) a b = if a = 0 then 0 else if b = 0 then 0 else 1 := rfl
    rw [e] at hh
    refine br_t (by decide) ⟨fun q => ?_, fun q => ⟨fun q2 => ?_, fun q2 => ?_⟩⟩
    · rw [if_pos q] at hh; exact hh
    · rw [if_neg q, if_pos q2] at hh; exact hh
    · rw [if_neg q, if_neg q2] at hh; exact hh
  · have e : join (-23) a b = if b ≤ a then 0 else 1 := rfl
    rw [e] at hh
    refine br_f (by decide) (br_f (by decide) (br_f (by decide) (br_f (by decide) (br_t (by decide) ⟨fun q => ?_, fun q => ?_⟩))))
    · rw [if_pos q] at hh; exact hh
    · rw [if_neg q] at hh; exact hh
  · have e : join (-24) a b = if a = b then 1 else 0 := rfl
    rw [e] at hh
    refine br_f (by decide) (br_f (by decide) (br_f (by decide) (br_f (by decide) (br_f (by decide) (br_t (by decide) ⟨fun q => ?_, fun q => ?_⟩)))))
    · rw [if_pos q] at hh; exact hh
    · rw [if_neg q] at hh; exact hh
  · exact br_f (by decide) (br_f (by decide) (br_t (by decide) hh))
  · exact br_f (by decide) (br_f (by decide) (br_f (by decide) (br_t (by decide) hh)))
  · exact br_f (by decide) (br_t (by decide) hh)
theorem m_wloop {t p b e : Nat} (ht : t < 7) (hp : p < 3) (hr : gi σ 0 6 = nI t) (he : gi σ 6 (3 * t + p) = nI e) (hH : ∀ k, k < 6 → h k = nmF P ((-1) - nI k)) :
    ∀ (ts : List Int32) (i top : Nat) (g : Nat → Int32), (∀ j c, ts[j]? = some c → gi σ 4 (i + j) = cM c) → i + ts.length ≤ 3570 → wfE ts top → top ≤ 40 → e = i + ts.length → posti (clampF (if p = 2 then 999 else 100) ((runE P ts (g, top)).1 0)) (mu σ P x hm (runE P ts (g, top)).1 h) → wl_X7_work_114 20 posti (ts.length + 1) (nI p) (nI top) (nI i) (mu σ P x hm g h) := by
  have k3 : (3 : Int32) * nI t = nI (3 * t) := (Int32.ofNat_mul 3 t).symm
  intro ts
  induction ts with
  | nil =>
    intro i top g hc hlen hwf htop heq hh
    show w_X7_work_114 20 posti _ (nI p) (nI top) (nI i) (mu σ P x hm g h)
    unfold w_X7_work_114
    have heq : e = i := heq
    rw [gmz6, hr, k3, nI_add, nI_clamp (by omega), gmr6, he, heq]
    refine ⟨vp_in_nI (by omega) (by decide), fun x1 e1 => ?_⟩
    rw [e1]
    refine br_t (Int32.le_refl _) ?_
    have hh : posti (clampF (if p = 2 then 999 else 100) (g 0)) (mu σ P x hm g h) := hh
    rw [gmp8]
    rcases (show p = 0 ∨ p = 1 ∨ p = 2 by omega) with rfl | rfl | rfl
    · refine br_f (by decide) (m_held ?_)
      rw [if_neg (by decide), clamp_held (by decide)] at hh
      exact hh
    · refine br_f (by decide) (m_held ?_)
      rw [if_neg (by decide), clamp_held (by decide)] at hh
      exact hh
    · refine br_t (by decide) (m_held ?_)
      rw [if_pos rfl, clamp_held (by decide)] at hh
      exact hh
  | cons c ts ih =>
    intro i top g hc hlen hwf htop heq hh
    have hlen : i + (ts.length + 1) ≤ 3570 := hlen
    have heq : e = i + (ts.length + 1) := heq
    have hci := hc 0 c rfl
    rw [Nat.add_zero] at hci
    have hcs : ∀ j d, ts[j]? = some d → gi σ 4 (i + 1 + j) = cM d := fun j d hd => by
      have := hc (j + 1) d (by rw [List.getElem?_cons_succ]; exact hd)
      rw [show i + 1 + j = i + (j + 1) by omega]
      exact this
    have IH := fun top' g' => ih (i + 1) top' g' hcs (by omega)
    show w_X7_work_114 20 posti _ (nI p) (nI top) (nI i) (mu σ P x hm g h)
    unfold w_X7_work_114
    rw [gmz6, hr, k3, nI_add, nI_clamp (by omega), gmr6, he]
    refine ⟨vp_in_nI (by omega) (by decide), fun x1 e1 => ?_⟩
    rw [e1]
    refine br_f (nI_ge (by omega) (by omega)) ⟨vp_in_nI (by omega) (by decide), ?_⟩
    rw [nI_clamp (by omega), gmr4, hci]
    replace hh : posti (clampF (if p = 2 then 999 else 100) ((runE P ts (stE P (g, top) c)).1 0)) (mu σ P x hm (runE P ts (stE P (g, top) c)).1 h) := hh
    unfold wfE at hwf
    unfold stE at hh
    by_cases c0 : 0 ≤ c
    · rw [if_pos c0] at hwf hh
      have c6 : -6 ≤ c := Int32.le_trans (by decide) c0
      have ec : cM c = c := by unfold cM; rw [if_pos c6]
      rw [ec]
      refine br_f (fun q => absurd (Int32.le_trans c0 q) (by decide)) (br_t c0 ⟨vp_in_nI (by omega) (by decide), fun σ28 e28 x29 e29 x30 e30 => ?_⟩)
      rw [e30, e29, e28, nI_1, nI_1, nI_clamp (by omega), mmp8]
      exact IH (top + 1) _ hwf.2 (by omega) (by omega) hh
    · rw [if_neg c0] at hwf hh
      by_cases c6 : -6 ≤ c
      · rw [if_pos c6] at hwf hh
        have ec : cM c = c := by unfold cM; rw [if_pos c6]
        rw [ec]
        have hk : ∃ k : Nat, k < 6 ∧ (-1) - c = nI k ∧ c = (-1) - nI k := by
          rcases six c0 c6 with rfl | rfl | rfl | rfl | rfl | rfl
          · exact ⟨0, by decide, by decide, by decide⟩
          · exact ⟨1, by decide, by decide, by decide⟩
          · exact ⟨2, by decide, by decide, by decide⟩
          · exact ⟨3, by decide, by decide, by decide⟩
          · exact ⟨4, by decide, by decide, by decide⟩
          · exact ⟨5, by decide, by decide, by decide⟩
        obtain ⟨k, hk6, hk1, hk2⟩ := hk
        refine br_f (fun q => absurd (Int32.le_trans c6 q) (by decide)) (br_f c0 (fun x31 e31 => ?_))
        rw [e31, hk1]
        refine ⟨vp_in_nI hk6 (by decide), vp_in_nI (by omega) (by decide), fun σ32 e32 x33 e33 x34 e34 => ?_⟩
        rw [e34, e33, e32, nI_1, nI_1, nI_clamp (by omega), nI_clamp (by omega), gmp9, mmp8, hH k hk6, ← hk2]
        exact IH (top + 1) _ hwf.2 (by omega) (by omega) hh
      · rw [if_neg c6] at hwf hh
        by_cases cn : c = -12
        · rw [if_pos cn] at hwf hh
          have ec : cM c = -100 := by rw [cn]; rfl
          rw [ec]
          have h1 := hwf.1
          have es : nI top - 1 = nI (top - 1) := nI_sub' (a := top) (b := 1) h1
          rw [es]
          refine br_t (by decide) (br_t rfl ⟨vp_in_nI (by omega) (by decide), fun x24 e24 => ⟨vp_in_nI (by omega) (by decide), fun σ25 e25 x26 e26 => ?_⟩⟩)
          rw [e26, e25, e24, nI_1, nI_clamp (by omega), gmp8, mmp8]
          exact IH top _ hwf.2 htop (by omega) hh
        · rw [if_neg cn] at hwf hh
          by_cases ct : c = -11
          · rw [if_pos ct] at hwf hh
            have ec : cM c = -101 := by rw [ct]; rfl
            rw [ec]
            have h1 := hwf.1
            have es : nI top - 1 = nI (top - 1) := nI_sub' (a := top) (b := 1) h1
            rw [es]
            refine br_t (by decide) (br_f (by decide) (br_t rfl ⟨vp_in_nI (by omega) (by decide), fun x18 e18 => ⟨fun q => ⟨vp_in_nI (by omega) (by decide), fun σ22 e22 x23 e23 => ?_⟩, fun q => ⟨vp_in_nI (by omega) (by decide), fun σ22 e22 x23 e23 => ?_⟩⟩⟩))
            · rw [e18, nI_clamp (by omega), gmp8] at q
              rw [e23, e22, nI_1, nI_clamp (by omega), mmp8]
              rw [if_pos q] at hh
              exact IH top _ hwf.2 htop (by omega) hh
            · rw [e18, nI_clamp (by omega), gmp8] at q
              rw [e23, e22, nI_1, nI_clamp (by omega), mmp8]
              rw [if_neg q] at hh
              exact IH top _ hwf.2 htop (by omega) hh
          · rw [if_neg ct] at hwf hh
            have h1 := hwf.2.1
            have es : nI (top - 1) - 1 = nI (top - 2) := nI_sub' (a := top - 1) (b := 1) (by omega)
            have em : nI top + (-1) = nI (top - 1) := by rw [← nI_sub' (a := top) (b := 1) (by omega), Int32.sub_eq_add_neg]; rfl
            have hle : cM c ≤ -100 ∧ cM c ≠ -100 ∧ cM c ≠ -101 := by
              rcases seven hwf.1.1 hwf.1.2 with rfl | rfl | rfl | rfl | rfl | rfl | rfl <;> decide
            refine br_t hle.1 (br_f hle.2.1 (br_f hle.2.2 (fun x11 e11 x12 e12 => ?_)))
            rw [e11, em, es, e12]
            refine ⟨vp_in_nI (by omega) (by decide), fun x13 e13 => ⟨vp_in_nI (by omega) (by decide), ?_⟩⟩
            rw [e13, nI_clamp (by omega), nI_clamp (by omega), gmp8, gmp8]
            refine m_reckon hwf.1.1 hwf.1.2 ⟨vp_in_nI (by omega) (by decide), fun σ16 e16 x17 e17 => ?_⟩
            rw [e17, e16, nI_1, mmp8]
            exact IH (top - 1) _ hwf.2.2 (by omega) (by omega) hh
theorem m_work {B N : Int} (hI : PI B N P) {L : Lw} (hL : MLw σ L) {p : Nat} (hp : p < 3) {pp : Int32} (hpp : pp = nI p) {ts : List Int32} (hts : Lpart L p = ts) {most : Int32} (hmost : most = if p = 2 then 999 else 100) (hh : ∀ g' h', posti (clampF most (worthF P ts)) (mu σ P x hm g' h')) : w_X7_work 20 posti pp (mu σ P x hm g h) := by
  subst hpp
  subst hts
  subst hmost
  obtain ⟨t, ht, hr, hok, hb⟩ := hL
  obtain ⟨b, hb1, hb2, hb3, hb4⟩ := hb p hp
  have k3 : (3 : Int32) * nI t = nI (3 * t) := (Int32.ofNat_mul 3 t).symm
  have hw : wfE (Lpart L p) 0 := by
    rcases (show p = 0 ∨ p = 1 ∨ p = 2 by omega) with rfl | rfl | rfl
    · exact hok.1
    · exact hok.2.1
    · exact hok.2.2.1
  have last : ∀ (v : Int32), v = nmF P (-6) → w_X7_work_97 20 posti (nI p) v 5 (mu σ P x hm g (upN (upN (upN (upN (upN h 0 (P.1 6)) 1 (P.1 5)) 2 (P.1 12)) 3 (P.1 4)) 4 (P.1 9))) := by
    intro v hv
    unfold w_X7_work_97
    refine ⟨vp_in_nI (n := 5) (by decide) (by decide), fun σ1 e1 => ?_⟩
    rw [show (5 : Int32).toNatClampNeg = 5 from rfl, mmp9] at e1
    subst e1
    rw [gmz6, hr, k3, nI_add, nI_clamp (by omega)]
    refine ⟨vp_in_nI (by omega) (by decide), fun x2 e2 => ⟨(Lpart L p).length + 1, ?_⟩⟩
    rw [gmr5, hb1] at e2
    rw [e2, show (0 : Int32) = nI 0 from rfl]
    refine m_wloop (b := b) ht hp hr hb2 ?_ (Lpart L p) b 0 g hb4 hb3 hw (by omega) rfl ?_
    · intro k hk
      rcases (show k = 0 ∨ k = 1 ∨ k = 2 ∨ k = 3 ∨ k = 4 ∨ k = 5 by omega) with rfl | rfl | rfl | rfl | rfl | rfl
      · rfl
      · rfl
      · rfl
      · rfl
      · rfl
      · exact hv
    · have ea := runE_agree P P (fun _ => rfl) (Lpart L p) g (fun _ => 0) 0 hw (fun j hj => absurd hj (by omega))
      rw [ea]
      exact hh _ _
  unfold w_X7_work
  intro σ1 e1 σ2 e2 σ3 e3 σ4 e4 σ5 e5
  rw [gm8, mmp9] at e1
  subst e1
  rw [gm6, mmp9] at e2
  subst e2
  rw [gm7, mmp9] at e3
  subst e3
  rw [gm5, mmp9] at e4
  subst e4
  rw [gm2, mmp9] at e5
  subst e5
  rw [gm11, gm12]
  have e6 : nmF P (-6) = if P.1 15 ≤ 0 then 0 else P.1 16 / P.1 15 := rfl
  have hmu := hI.2.2.2.2.2.2.1
  have z := z0'
  refine ⟨fun c => last 0 ?_, fun c => ⟨c, fun x7 e7 => last x7 ?_⟩⟩
  · rw [e6, c, if_pos (Int32.le_refl 0)]
  · have hn : ¬ P.1 15 ≤ 0 := fun q => c (ieq.mpr (by have := il.mp q; omega))
    rw [e6, if_neg hn, e7]
theorem worth_melt (L : Lw) (ts : List Int32) (hw : wfE ts 0) : worthF (meltF L P) ts = worthF P ts :=
  runE_agree (meltF L P) P (fun _ => rfl) ts _ _ 0 hw (fun j hj => absurd hj (by omega))
theorem m_dry {B N : Int} (hI : PI B N P) (hh : post (mu σ (dryF P) x hm g h)) : w_X7_minute_217 20 post (mu σ P x hm g h) := by
  have e4 := eq_sub0 (x := P.1 4) (d := P.1 6 / 40) hI.2.2.2.2.1.1 (heat40 hI.1)
  unfold w_X7_minute_217
  try simp only [gm0, gm1, gm2, gm3, gm4, gm5, gm6, gm7, gm8, gm9, gm10, gm11, gm12, gm13, mm0, mm1, mm2, mm3, mm4, mm5, mm6, mm7, mm8, mm9, mm10, mm11, mm12, mm13, gmr1, gmr2, gmr3, gmr4, gmr5, gmr6, gmr7, gmr10, gmr11, gmr12, gmr14, gmr15, gmr16, gmr17, gmr18, gmr19, gmz0, gmz4, gmz5, gmz6, gmz21, gmz29, gmz30, gmz31, gmp8, gmp9, mmp8, mmp9, gm28, mm28, gmd, up_1, up_2, reduceIte, Nat.reduceEqDiff]
  unfold dryF at hh
  rw [← e4] at hh
  refine ⟨fun c x2 e2 σ3 e3 => ?_, fun c σ4 e4 => ?_⟩
  · rw [if_pos c] at hh
    subst e2 e3
    try simp only [gm0, gm1, gm2, gm3, gm4, gm5, gm6, gm7, gm8, gm9, gm10, gm11, gm12, gm13, mm0, mm1, mm2, mm3, mm4, mm5, mm6, mm7, mm8, mm9, mm10, mm11, mm12, mm13, gmr1, gmr2, gmr3, gmr4, gmr5, gmr6, gmr7, gmr10, gmr11, gmr12, gmr14, gmr15, gmr16, gmr17, gmr18, gmr19, gmz0, gmz4, gmz5, gmz6, gmz21, gmz29, gmz30, gmz31, gmp8, gmp9, mmp8, mmp9, gm28, mm28, gmd, up_1, up_2, reduceIte, Nat.reduceEqDiff]
    exact hh
  · rw [if_neg c] at hh
    subst e4
    try simp only [gm0, gm1, gm2, gm3, gm4, gm5, gm6, gm7, gm8, gm9, gm10, gm11, gm12, gm13, mm0, mm1, mm2, mm3, mm4, mm5, mm6, mm7, mm8, mm9, mm10, mm11, mm12, mm13, gmr1, gmr2, gmr3, gmr4, gmr5, gmr6, gmr7, gmr10, gmr11, gmr12, gmr14, gmr15, gmr16, gmr17, gmr18, gmr19, gmz0, gmz4, gmz5, gmz6, gmz21, gmz29, gmz30, gmz31, gmp8, gmp9, mmp8, mmp9, gm28, mm28, gmd, up_1, up_2, reduceIte, Nat.reduceEqDiff]
    exact hh
theorem m_minute {B N : Int} (hB : PB B (N + 1)) (hN : 0 ≤ N) (hI : PI B N P) (hl : okl P.2) {L : Lw} (hL : MLw σ L) {a : Int32} (hh : ∀ g' h', post (mu σ (minuteF L a P) x hm g' h')) : w_X7_minute 20 post a (mu σ P x hm g h) := by
  have hB' : PB B N := by unfold PB at hB ⊢; omega
  have hok : wfE L.2.1 0 := by obtain ⟨t, ht, hr, hok, hb⟩ := hL; exact hok.2.1
  unfold minuteF at hh
  unfold w_X7_minute
  intro σ1 e1 x2 e2
  subst e1 e2
  try simp only [gm0, gm1, gm2, gm3, gm4, gm5, gm6, gm7, gm8, gm9, gm10, gm11, gm12, gm13, mm0, mm1, mm2, mm3, mm4, mm5, mm6, mm7, mm8, mm9, mm10, mm11, mm12, mm13, gmr1, gmr2, gmr3, gmr4, gmr5, gmr6, gmr7, gmr10, gmr11, gmr12, gmr14, gmr15, gmr16, gmr17, gmr18, gmr19, gmz0, gmz4, gmz5, gmz6, gmz21, gmz29, gmz30, gmz31, gmp8, gmp9, mmp8, mmp9, gm28, mm28, gmd, up_1, up_2, reduceIte, Nat.reduceEqDiff]
  refine m_draw hl (fun x5 e5 => m_held (fun σ8 e8 => ?_))
  subst e5 e8
  try simp only [gm0, gm1, gm2, gm3, gm4, gm5, gm6, gm7, gm8, gm9, gm10, gm11, gm12, gm13, mm0, mm1, mm2, mm3, mm4, mm5, mm6, mm7, mm8, mm9, mm10, mm11, mm12, mm13, gmr1, gmr2, gmr3, gmr4, gmr5, gmr6, gmr7, gmr10, gmr11, gmr12, gmr14, gmr15, gmr16, gmr17, gmr18, gmr19, gmz0, gmz4, gmz5, gmz6, gmz21, gmz29, gmz30, gmz31, gmp8, gmp9, mmp8, mmp9, gm28, mm28, gmd, up_1, up_2, reduceIte, Nat.reduceEqDiff]
  have eH : up ((up P 14 (P.1 14 + 1)).1, lotF (up P 14 (P.1 14 + 1))) 6 (heldF (P.1 6 + (12 * P.1 3 - P.1 6) / 3 + drawF (up P 14 (P.1 14 + 1))) 120) = heatF P := by
    rw [← clamp_held (by decide)]
    rfl
  rw [eH]
  have hI1 := PI_heat hI
  generalize heatF P = P1 at hh hI1 ⊢
  refine m_work hI1 hL (p := 0) (ts := L.1) (most := 100) (by decide) rfl rfl rfl (fun g1 h1 => ?_)
  refine m_work hI1 hL (p := 1) (ts := L.2.1) (most := 100) (by decide) rfl rfl rfl (fun g2 h2 => ?_)
  intro x13 e13 x14 e14 σ15 e15 σ16 e16 σ17 e17
  try simp only [gm0, gm1, gm2, gm3, gm4, gm5, gm6, gm7, gm8, gm9, gm10, gm11, gm12, gm13, mm0, mm1, mm2, mm3, mm4, mm5, mm6, mm7, mm8, mm9, mm10, mm11, mm12, mm13, gmr1, gmr2, gmr3, gmr4, gmr5, gmr6, gmr7, gmr10, gmr11, gmr12, gmr14, gmr15, gmr16, gmr17, gmr18, gmr19, gmz0, gmz4, gmz5, gmz6, gmz21, gmz29, gmz30, gmz31, gmp8, gmp9, mmp8, mmp9, gm28, mm28, gmd, up_1, up_2, reduceIte, Nat.reduceEqDiff] at e13
  try simp only [gm0, gm1, gm2, gm3, gm4, gm5, gm6, gm7, gm8, gm9, gm10, gm11, gm12, gm13, mm0, mm1, mm2, mm3, mm4, mm5, mm6, mm7, mm8, mm9, mm10, mm11, mm12, mm13, gmr1, gmr2, gmr3, gmr4, gmr5, gmr6, gmr7, gmr10, gmr11, gmr12, gmr14, gmr15, gmr16, gmr17, gmr18, gmr19, gmz0, gmz4, gmz5, gmz6, gmz21, gmz29, gmz30, gmz31, gmp8, gmp9, mmp8, mmp9, gm28, mm28, gmd, up_1, up_2, reduceIte, Nat.reduceEqDiff] at e14
  have eg : x14 = goneF L (meltF L P1) := by rw [e14]; unfold goneF; rw [worth_melt L L.2.1 hok]; rfl
  have em : x13 = meltG L P1 := e13
  subst e15 e16 e17
  try simp only [gm0, gm1, gm2, gm3, gm4, gm5, gm6, gm7, gm8, gm9, gm10, gm11, gm12, gm13, mm0, mm1, mm2, mm3, mm4, mm5, mm6, mm7, mm8, mm9, mm10, mm11, mm12, mm13, gmr1, gmr2, gmr3, gmr4, gmr5, gmr6, gmr7, gmr10, gmr11, gmr12, gmr14, gmr15, gmr16, gmr17, gmr18, gmr19, gmz0, gmz4, gmz5, gmz6, gmz21, gmz29, gmz30, gmz31, gmp8, gmp9, mmp8, mmp9, gm28, mm28, gmd, up_1, up_2, reduceIte, Nat.reduceEqDiff]
  have hIm := PI_melt (L := L) hB' hI1
  have hIs := PI_split (L := L) (st := a) hB hN hIm
  refine ⟨fun c => ?_, fun c => ?_⟩
  · intro x19 e19 σ20 e20 x21 e21 σ22 e22
    subst e19 e20 e21 e22
    try simp only [gm0, gm1, gm2, gm3, gm4, gm5, gm6, gm7, gm8, gm9, gm10, gm11, gm12, gm13, mm0, mm1, mm2, mm3, mm4, mm5, mm6, mm7, mm8, mm9, mm10, mm11, mm12, mm13, gmr1, gmr2, gmr3, gmr4, gmr5, gmr6, gmr7, gmr10, gmr11, gmr12, gmr14, gmr15, gmr16, gmr17, gmr18, gmr19, gmz0, gmz4, gmz5, gmz6, gmz21, gmz29, gmz30, gmz31, gmp8, gmp9, mmp8, mmp9, gm28, mm28, gmd, up_1, up_2, reduceIte, Nat.reduceEqDiff]
    refine ⟨fun d σ24 e24 => ?_, fun d x25 e25 σ26 e26 => ?_⟩
    · subst e24
      try simp only [gm0, gm1, gm2, gm3, gm4, gm5, gm6, gm7, gm8, gm9, gm10, gm11, gm12, gm13, mm0, mm1, mm2, mm3, mm4, mm5, mm6, mm7, mm8, mm9, mm10, mm11, mm12, mm13, gmr1, gmr2, gmr3, gmr4, gmr5, gmr6, gmr7, gmr10, gmr11, gmr12, gmr14, gmr15, gmr16, gmr17, gmr18, gmr19, gmz0, gmz4, gmz5, gmz6, gmz21, gmz29, gmz30, gmz31, gmp8, gmp9, mmp8, mmp9, gm28, mm28, gmd, up_1, up_2, reduceIte, Nat.reduceEqDiff]
      have hE : pEq (up (up (up (up (up (up P1 7 (P1.1 7 - x13)) 8 (P1.1 8 + x13)) 9 (P1.1 9 - x14)) 10 (P1.1 10 - P1.1 10 / 2)) 11 (P1.1 11 + (x14 + P1.1 10 / 2))) 13 (P1.1 13 + 0)) (splitF L a (meltF L P1)) := by
        have es : splitF L a (meltF L P1) = up (up (up (up (meltF L P1) 9 (P1.1 9 - goneF L (meltF L P1))) 11 (P1.1 11 + goneF L (meltF L P1))) 10 (P1.1 10 - P1.1 10 / 2)) 11 (P1.1 11 + goneF L (meltF L P1) + P1.1 10 / 2) := by
          unfold splitF settleF
          rw [if_pos c]
          exact if_pos d
        rw [es, eg, em]
        exact ⟨rfl, rfl, rfl, rfl, rfl, rfl, rfl, rfl, rfl, (Int32.add_assoc _ _ _).symm, rfl, Int32.add_zero _, rfl, rfl, rfl⟩
      rw [mu_congr hE]
      exact m_dry hIs (hh g2 h2)
    · subst e25 e26
      try simp only [gm0, gm1, gm2, gm3, gm4, gm5, gm6, gm7, gm8, gm9, gm10, gm11, gm12, gm13, mm0, mm1, mm2, mm3, mm4, mm5, mm6, mm7, mm8, mm9, mm10, mm11, mm12, mm13, gmr1, gmr2, gmr3, gmr4, gmr5, gmr6, gmr7, gmr10, gmr11, gmr12, gmr14, gmr15, gmr16, gmr17, gmr18, gmr19, gmz0, gmz4, gmz5, gmz6, gmz21, gmz29, gmz30, gmz31, gmp8, gmp9, mmp8, mmp9, gm28, mm28, gmd, up_1, up_2, reduceIte, Nat.reduceEqDiff]
      have hE : pEq (up (up (up (up (up (up P1 7 (P1.1 7 - x13)) 8 (P1.1 8 + x13)) 9 (P1.1 9 - x14)) 10 (P1.1 10 - P1.1 10 / 2)) 11 (P1.1 11 + (x14 + P1.1 10 / 2))) 13 (P1.1 13 + (1 + (P1.1 7 - x13) / 50))) (splitF L a (meltF L P1)) := by
        have es : splitF L a (meltF L P1) = up (up (up (up (up (meltF L P1) 9 (P1.1 9 - goneF L (meltF L P1))) 11 (P1.1 11 + goneF L (meltF L P1))) 10 (P1.1 10 - P1.1 10 / 2)) 11 (P1.1 11 + goneF L (meltF L P1) + P1.1 10 / 2)) 13 (P1.1 13 + (1 + (P1.1 7 - meltG L P1) / 50)) := by
          unfold splitF settleF
          rw [if_pos c]
          exact if_neg d
        rw [es, eg, em]
        exact ⟨rfl, rfl, rfl, rfl, rfl, rfl, rfl, rfl, rfl, (Int32.add_assoc _ _ _).symm, rfl, rfl, rfl, rfl, rfl⟩
      rw [mu_congr hE]
      exact m_dry hIs (hh g2 h2)
  · intro σ27 e27
    subst e27
    try simp only [gm0, gm1, gm2, gm3, gm4, gm5, gm6, gm7, gm8, gm9, gm10, gm11, gm12, gm13, mm0, mm1, mm2, mm3, mm4, mm5, mm6, mm7, mm8, mm9, mm10, mm11, mm12, mm13, gmr1, gmr2, gmr3, gmr4, gmr5, gmr6, gmr7, gmr10, gmr11, gmr12, gmr14, gmr15, gmr16, gmr17, gmr18, gmr19, gmz0, gmz4, gmz5, gmz6, gmz21, gmz29, gmz30, gmz31, gmp8, gmp9, mmp8, mmp9, gm28, mm28, gmd, up_1, up_2, reduceIte, Nat.reduceEqDiff]
    have hE : pEq (up (up (up (up P1 7 (P1.1 7 - x13)) 8 (P1.1 8 + x13)) 9 (P1.1 9 - x14)) 10 (P1.1 10 + x14)) (splitF L a (meltF L P1)) := by
      have es : splitF L a (meltF L P1) = up (up (meltF L P1) 9 (P1.1 9 - goneF L (meltF L P1))) 10 (P1.1 10 + goneF L (meltF L P1)) := by
        unfold splitF
        exact if_neg c
      rw [es, eg, em]
      exact ⟨rfl, rfl, rfl, rfl, rfl, rfl, rfl, rfl, rfl, rfl, rfl, rfl, rfl, rfl, rfl⟩
    rw [mu_congr hE]
    exact m_dry hIs (hh g2 h2)
end MWORK
