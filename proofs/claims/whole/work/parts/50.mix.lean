/-! mixtures of two -/
section MIX
variable {M : Nat} {A : Ab} {post : St → Prop} {posti : Int32 → St → Prop} {τ : St} {P : Pt}
def mixP (A : Ab) (a b all mins j : Nat) : Pt := iterF (minuteF (lawF A) 1) mins (throwF (aCh A b) (nI all - nI j) (throwF (aCh A a) (nI j) (begF A)))
def mixT (A : Ab) (a b all j : Nat) : Int32 := (nI j * aCh A a 4) + ((nI all - nI j) * aCh A b 4)
def mixL (A : Ab) (a b all mins : Nat) : Nat → Nat → Int32 → Int32 → Int32 × Int32
  | 0, _, bb, mm => (bb, mm)
  | k + 1, j, bb, mm => if mm < mixT A a b all j then (if holdF (mixP A a b all mins j) = 0 then mixL A a b all mins k (j + 1) bb mm else mixL A a b all mins k (j + 1) (nI j) (mixT A a b all j)) else mixL A a b all mins k (j + 1) bb mm
theorem c_mixI {w best most v10 T : Int32} {q4 q5 : Option Nat} {all : Int32} {mins : Nat} (hm : mins ≤ 60) {k105 : Int32 → Option Nat → Option Nat → Int32 → Int32 → Int32 → Int32 → Int32 → St → Prop} : ∀ (k m : Nat) (P : Pt) (τ : St), m + k = mins → CS M A τ → PotAt M 12 (lawF A) P τ →
    (∀ τ', CS M A τ' → (holdF (iterF (minuteF (lawF A) 1) k P) = 0 → k105 w q4 q5 all (nI mins) best most (v10 + 1) τ') ∧ (¬ holdF (iterF (minuteF (lawF A) 1) k P) = 0 → k105 w q4 q5 all (nI mins) v10 T (v10 + 1) τ')) →
    wl_X6_mix_178 M posti k105 (k + 1) w q4 q5 all (nI mins) best most v10 T (nI m) τ := by
  intro k
  induction k with
  | zero =>
    intro m P τ hk hA hP h
    have hk : m = mins := hk
    subst hk
    show w_X6_mix_178 M posti k105 _ w q4 q5 all (nI m) best most v10 T (nI m) τ
    unfold w_X6_mix_178
    refine br_t (Int32.le_refl _) (k_holds (Or.inl rfl) hA hP ⟨fun c x5 e5 => ?_, fun c x6 e6 => ?_⟩)
    · rw [e5]; exact (h τ hA).1 c
    · rw [e6]; exact (h τ hA).2 c
  | succ k ih =>
    intro m P τ hk hA hP h
    show w_X6_mix_178 M posti k105 _ w q4 q5 all (nI mins) best most v10 T (nI m) τ
    unfold w_X6_mix_178
    refine br_f (nI_ge (by omega) (by omega)) (k_minute (Or.inl rfl) hA hP (fun τ1 h1 x8 e8 => ?_))
    rw [e8, nI_1]
    exact ih (m + 1) _ τ1 (by omega) h1.1 h1.2.1 h
theorem m_mixI (hV : Bd A) {v1 v2 w best most all v7 : Int32} {a b mins : Nat} (ha : a < aNc A) (hb : b < aNc A) (e1 : v1 / 10 = nI a) (e2 : v1 - v1 / 10 * 10 = nI b) (em : v2 - v2 / 100 * 100 = nI mins) (hm : mins ≤ 60) {k85 : Int32 → Int32 → Int32 → Int32 → Int32 → Int32 → Int32 → St → Prop} {r : Nat} : ∀ (k m : Nat) (P : Pt) (τ : St), m + k = mins → MS A τ → PotM P τ → PIr r k P →
    (∀ τ', MS A τ' → (holdF (iterF (minuteF (lawF A) 1) k P) = 0 → k85 v1 v2 w all best most (v7 + 1) τ') ∧ (¬ holdF (iterF (minuteF (lawF A) 1) k P) = 0 → ((v7 * aCh A a 4) + ((all - v7) * aCh A b 4) ≤ most → k85 v1 v2 w all best most (v7 + 1) τ') ∧ (¬ (v7 * aCh A a 4) + ((all - v7) * aCh A b 4) ≤ most → k85 v1 v2 w all v7 ((v7 * aCh A a 4) + ((all - v7) * aCh A b 4)) (v7 + 1) τ'))) →
    wl_X7_mix_122 20 posti k85 (k + 1) v1 v2 w all best most v7 (nI m) τ := by
  have h4 := hV.1
  have e4 : (4 : Int32).toInt.toNat = 4 := by decide
  intro k
  induction k with
  | zero =>
    intro m P τ hk hA hP hR h
    have hk : m = mins := hk
    subst hk
    show w_X7_mix_122 20 posti k85 _ v1 v2 w all best most v7 (nI m) τ
    unfold w_X7_mix_122
    rw [em, e2, e1, m_5k (show a < 4 by omega) (a := 4) (by decide), m_5k (show b < 4 by omega) (a := 4) (by decide), e4, nI_clamp (by omega)]
    have g1 : gi τ 1 (5 * a + 4) = aCh A a 4 := hA.1.2 a 4 ha (by decide)
    have g2 : gi τ 1 (5 * b + 4) = aCh A b 4 := hA.1.2 b 4 hb (by decide)
    rw [g1]
    refine br_t (Int32.le_refl _) ⟨vp_in_nI (by omega) (by decide), fun x2 f2 x3 f3 => ?_⟩
    rw [f3, f2, nI_clamp (by omega), g2]
    refine ⟨vp_in_nI (by omega) (by decide), fun x4 f4 => ?_⟩
    rw [f4]
    refine q_holds hV hA hP hR (fun τ1 h1 => ⟨fun c x8 e8 => ?_, fun c => ⟨fun d x10 e10 => ?_, fun d x11 e11 => ?_⟩⟩)
    · rw [e8]; exact (h τ1 h1.1).1 c
    · rw [e10]; exact ((h τ1 h1.1).2 c).1 d
    · rw [e11]; exact ((h τ1 h1.1).2 c).2 d
  | succ k ih =>
    intro m P τ hk hA hP hR h
    show w_X7_mix_122 20 posti k85 _ v1 v2 w all best most v7 (nI m) τ
    unfold w_X7_mix_122
    refine br_f (by rw [em]; exact nI_ge (by omega) (by omega)) (q_minute hV hA hP hR (fun τ1 h1 x13 e13 => ?_))
    rw [e13, nI_1]
    exact ih (m + 1) _ τ1 (by omega) h1.1 h1.2.1 (PIr_min hR) h
theorem c_mixO {w : Int32} {a b all mins : Nat} (ha : a < aNc A) (hb : b < aNc A) (hall : all ≤ 20) (hm : mins ≤ 60) : ∀ (k j : Nat) (bb mm : Int32) (τ : St), j + k = all + 1 → CS M A τ → (∀ τ', CS M A τ' → posti (pick2 w (mixL A a b all mins k j bb mm)) τ') → wl_X6_mix_105 M posti (k + 1) w (some (17 + 4 * a)) (some (17 + 4 * b)) (nI all) (nI mins) bb mm (nI j) τ := by
  intro k
  induction k with
  | zero =>
    intro j bb mm τ hj hA h
    have hj : j = all + 1 := hj
    have h := h τ hA
    unfold pick2 mixL at h
    show w_X6_mix_105 M posti _ w (some (17 + 4 * a)) (some (17 + 4 * b)) (nI all) (nI mins) bb mm (nI j) τ
    unfold w_X6_mix_105
    refine br_t (by rw [ilt, nI_toInt (by omega), nI_toInt (by omega)]; omega) ⟨fun c => ?_, fun c => ?_⟩
    · rw [if_pos c] at h; exact h
    · rw [if_neg c] at h; exact h
  | succ k ih =>
    intro j bb mm τ hj hA h
    have h4 := hA.1.2.1
    have hM := hA.2.2.2.2.2.2.2.1
    have e4 : (4 : Int32).toInt.toNat = 4 := by decide
    show w_X6_mix_105 M posti _ w (some (17 + 4 * a)) (some (17 + 4 * b)) (nI all) (nI mins) bb mm (nI j) τ
    unfold w_X6_mix_105
    refine br_f (nI_nlt (by omega) (by omega)) ⟨_, rfl, kdCh hM (by omega), c_tell5 (kdCh hM (by omega)) (by decide) ⟨_, rfl, kdCh hM (by omega), c_tell5 (kdCh hM (by omega)) (by decide) (fun x9 f9 => ?_)⟩⟩
    rw [e4, show 17 + 4 * a + 1 = 18 + 4 * a by omega, show 17 + 4 * b + 1 = 18 + 4 * b by omega, hA.1.2.2 a 4 ha (by decide), hA.1.2.2 b 4 hb (by decide)] at f9
    have f9 : x9 = mixT A a b all j := f9
    rw [f9]
    unfold mixL at h
    refine ⟨fun c => ?_, fun c x14 e14 => ?_⟩
    · rw [if_pos c] at h
      refine k_beginPot hA (fun τ1 h1 => k_throw h1.1 h1.2.1 ha (fun τ2 h2 => k_throw h2.1 h2.2.1 hb (fun τ3 h3 => ⟨mins + 1, c_mixI hm mins 0 _ τ3 (by omega) h3.1 h3.2.1 (fun τ4 h4' => ?_)⟩)))
      rw [nI_1]
      refine ⟨fun d => ?_, fun d => ?_⟩
      · rw [if_pos (show holdF (mixP A a b all mins j) = 0 from d)] at h
        exact ih (j + 1) bb mm τ4 (by omega) h4' h
      · rw [if_neg (show ¬ holdF (mixP A a b all mins j) = 0 from d)] at h
        exact ih (j + 1) _ _ τ4 (by omega) h4' h
    · rw [if_neg c] at h
      rw [e14, nI_1]
      exact ih (j + 1) bb mm τ (by omega) hA h
theorem m_mixO (hV : Bd A) (hW : VA A) {v1 v2 w : Int32} {a b all mins : Nat} (ha : a < aNc A) (hb : b < aNc A) (e1 : v1 / 10 = nI a) (e2 : v1 - v1 / 10 * 10 = nI b) (em : v2 - v2 / 100 * 100 = nI mins) (hall : all ≤ 20) (hm : mins ≤ 60) : ∀ (k j : Nat) (bb mm : Int32) (τ : St), j + k = all + 1 → MS A τ → (∀ τ', MS A τ' → posti (pick2 w (mixL A a b all mins k j bb mm)) τ') → wl_X7_mix_85 20 posti (k + 1) v1 v2 w (nI all) bb mm (nI j) τ := by
  have h4 := hV.1
  intro k
  induction k with
  | zero =>
    intro j bb mm τ hj hA h
    have hj : j = all + 1 := hj
    have h := h τ hA
    unfold pick2 mixL at h
    show w_X7_mix_85 20 posti _ v1 v2 w (nI all) bb mm (nI j) τ
    unfold w_X7_mix_85
    refine br_t (by rw [ilt, nI_toInt (by omega), nI_toInt (by omega)]; omega) ⟨fun c => ?_, fun c => ?_⟩
    · rw [if_pos c] at h; exact h
    · rw [if_neg c] at h; exact h
  | succ k ih =>
    intro j bb mm τ hj hA h
    have bj := nI_toInt (n := j) (by omega)
    have bd : (nI all - nI j).toInt = (all : Int) - j := by rw [nI_sub' (show j ≤ all by omega), nI_toInt (by omega)]; omega
    show w_X7_mix_85 20 posti _ v1 v2 w (nI all) bb mm (nI j) τ
    unfold w_X7_mix_85
    rw [e2, e1]
    unfold mixL at h
    have hR0 := PIr_beg hW
    have hR1 : PIr 32 1600 (throwF (aCh A a) (nI j) (begF A)) := PIr_throw (by omega) (hW.1 a ha) hR0
    have hR2 : PIr 31 1600 (throwF (aCh A b) (nI all - nI j) (throwF (aCh A a) (nI j) (begF A))) := PIr_throw (by omega) (hW.1 b hb) hR1
    refine br_f (nI_nlt (by omega) (by omega)) (km_begins hA (fun τ1 h1 => q_hand hV h1.1 h1.2.1 hR0 (by omega) ha (fun τ2 h2 => q_hand hV h2.1 h2.2.1 hR1 (by omega) hb (fun τ3 h3 => ⟨mins + 1, m_mixI hV ha hb e1 e2 em hm mins 0 _ τ3 (by omega) h3.1 h3.2.1 (PIr_mono hR2 (Nat.le_refl _) (by omega)) (fun τ4 h4' => ?_)⟩))))
    rw [nI_1]
    refine ⟨fun d => ?_, fun d => ⟨fun c => ?_, fun c => ?_⟩⟩
    · have d' : holdF (mixP A a b all mins j) = 0 := d
      rw [if_pos d'] at h
      by_cases q : mm < mixT A a b all j
      · rw [if_pos q] at h; exact ih (j + 1) bb mm τ4 (by omega) h4' h
      · rw [if_neg q] at h; exact ih (j + 1) bb mm τ4 (by omega) h4' h
    · rw [if_neg (show ¬ mm < mixT A a b all j from Int32.not_lt.mpr c)] at h
      exact ih (j + 1) bb mm τ4 (by omega) h4' h
    · have d' : ¬ holdF (mixP A a b all mins j) = 0 := d
      rw [if_pos (show mm < mixT A a b all j from Int32.not_le.mp c), if_neg d'] at h
      exact ih (j + 1) _ _ τ4 (by omega) h4' h
theorem neg_div {x : Int32} (h : x.toInt < 0) : (x / 100).toInt < 1 := by
  have e : (x / 100).toInt = (x.toInt.tdiv 100).bmod 4294967296 := Int32.toInt_div x 100
  have hb := ib x
  obtain ⟨m, hm⟩ : ∃ m : Nat, x.toInt = -(m : Int) := ⟨(-x.toInt).toNat, by omega⟩
  have e2 : x.toInt.tdiv 100 = -((m : Int) / 100) := by
    rw [hm, Int.neg_tdiv, Int.tdiv_eq_ediv_of_nonneg (by omega)]
  rw [e, e2, ib_bmod (by omega) (by omega)]
  omega
def mixF (A : Ab) (two how w : Int32) : Int32 :=
  if 0 ≤ two.toInt ∧ isC A (two / 10) ∧ isC A (two - two / 10 * 10) then (if 0 ≤ how.toInt ∧ 1 ≤ (how / 100).toInt ∧ (how / 100).toInt ≤ 20 ∧ (how - how / 100 * 100).toInt ≤ 60 ∧ 0 ≤ w.toInt ∧ w.toInt ≤ 1 then pick2 w (mixL A (two / 10).toInt.toNat (two - two / 10 * 10).toInt.toNat (how / 100).toInt.toNat (how - how / 100 * 100).toInt.toNat ((how / 100).toInt.toNat + 1) 0 (-1) (-1)) else -7) else -5
theorem how_parts {how : Int32} (h : 0 ≤ how.toInt) : ∃ x, x ≤ 2147483647 ∧ how = nI x ∧ how / 100 = nI (x / 100) ∧ how - how / 100 * 100 = nI (x % 100) := by
  have hb := ib how
  obtain ⟨x, hx, rfl⟩ := as_nI (s := how) (n := 2147483647) (by omega)
  exact ⟨x, hx, rfl, i_div (b := 100) (by omega) (by decide) (by decide), i_mod (b := 100) (by omega) (by decide) (by decide)⟩
theorem c_mix (hA : CS M A τ) {two how w : Int32} (h : ∀ τ', CS M A τ' → posti (mixF A two how w) τ') : w_X6_mix M posti two how w τ := by
  have hb := hA.1.2.1
  unfold mixF at h
  have bad : ¬ (0 ≤ two.toInt ∧ isC A (two / 10) ∧ isC A (two - two / 10 * 10)) → posti (-5) τ := fun q => by rw [if_neg q] at h; exact h τ hA
  unfold w_X6_mix
  refine ⟨fun c0 => ?_, fun c0 => ?_⟩
  · have c0' : 0 ≤ two.toInt := by have := il.mp c0; rw [i_0] at this; exact this
    refine c_chAt hA (fun a ha hs1 e1 hk1 => ?_) (fun q => ?_)
    · unfold w_X6_mix_16
      refine br_t c0 (c_chAt hA (fun b hb2 hs2 e2 hk2 => ?_) (fun q => ?_))
      · unfold w_X6_mix_34
        refine ⟨fun q => (by cases q), fun o1 q1 => ?_⟩
        cases q1
        refine ⟨hk1, fun q => (by cases q), fun o3 q3 => ?_⟩
        cases q3
        rw [if_pos ⟨c0', hs1, hs2⟩, e1] at h
        have e2' : (two - nI a * 10) = nI b := by rw [← e1]; exact e2
        rw [e2', i_nI (by omega), i_nI (by omega)] at h
        refine ⟨hk2, ?_⟩
        have bad7 : ¬ (0 ≤ how.toInt ∧ 1 ≤ (how / 100).toInt ∧ (how / 100).toInt ≤ 20 ∧ (how - how / 100 * 100).toInt ≤ 60 ∧ 0 ≤ w.toInt ∧ w.toInt ≤ 1) → posti (-7) τ := fun q => by rw [if_neg q] at h; exact h τ hA
        by_cases hn : 0 ≤ how.toInt
        · obtain ⟨x, hx, ex, ed, em⟩ := how_parts hn
          have bd := nI_toInt (n := x / 100) (by omega)
          have bm := nI_toInt (n := x % 100) (by omega)
          rw [em, ed] at h bad7 ⊢
          refine brl i_1 (fun q => bad7 (fun z => absurd z.2.1 (by omega))) (fun q1 => brg (c := 20) (n := 20) (by decide) (fun q => bad7 (fun z => absurd z.2.2.1 (by omega))) (fun q2 => brl z0' (fun q => by omega) (fun _ => brg (c := 60) (n := 60) (by decide) (fun q => bad7 (fun z => absurd z.2.2.2.1 (by omega))) (fun q3 => c_isBit (fun d => br_f (by decide) ?_) (fun d => br_t rfl (bad7 (fun z => d z.2.2.2.2)))))))
          rw [if_pos ⟨hn, by omega, by omega, by omega, d⟩, i_nI (by omega), i_nI (by omega)] at h
          exact ⟨x / 100 + 2, c_mixO ha hb2 (by omega) (by omega) (x / 100 + 1) 0 (-1) (-1) τ (by omega) hA h⟩
        · exact brl i_1 (fun _ => bad7 (fun z => hn z.1)) (fun q => absurd (neg_div (by omega)) q)
      · unfold w_X6_mix_34
        refine ⟨fun q => (by cases q), fun o1 q1 => ?_⟩
        cases q1
        exact ⟨hk1, fun _ => bad (fun z => q z.2.2), fun o3 q3 => (by cases q3)⟩
    · unfold w_X6_mix_16
      have g : ∀ q3 : Option Nat, w_X6_mix_34 M posti how w none q3 τ := fun q3 => ⟨fun _ => bad (fun z => q z.2.1), fun o1 q1 => (by cases q1)⟩
      exact br_t c0 (c_chAt hA (fun b hb2 hs2 e2 hk2 => g _) (fun q => g _))
  · have c0' : ¬ 0 ≤ two.toInt := fun q => c0 (il.mpr (by rw [i_0]; exact q))
    unfold w_X6_mix_16
    exact br_f c0 ⟨fun _ => bad (fun z => c0' z.1), fun o1 q1 => (by cases q1)⟩
theorem m_mix (hV : Bd A) (hW : VA A) (hA : MS A τ) {two how w : Int32} (h : ∀ τ', MS A τ' → posti (mixF A two how w) τ') : w_X7_mix 20 posti two how w τ := by
  have hb := hV.1
  unfold mixF at h
  have bad : ¬ (0 ≤ two.toInt ∧ isC A (two / 10) ∧ isC A (two - two / 10 * 10)) → posti (-5) τ := fun q => by rw [if_neg q] at h; exact h τ hA
  unfold w_X7_mix
  refine brl z0' (fun q => bad (fun z => absurd z.1 (by omega))) (fun c0 => m_isCh hV hA (fun a ha hs1 e1 => br_f (by decide) (m_isCh hV hA (fun b hb2 hs2 e2 => br_f (by decide) ?_) (fun q => br_t rfl (bad (fun z => q z.2.2))))) (fun q => br_t rfl (bad (fun z => q z.2.1))))
  have c0' : 0 ≤ two.toInt := by omega
  rw [if_pos ⟨c0', hs1, hs2⟩, e1] at h
  have e2' : (two - nI a * 10) = nI b := by rw [← e1]; exact e2
  rw [e2', i_nI (by omega), i_nI (by omega)] at h
  have bad7 : ¬ (0 ≤ how.toInt ∧ 1 ≤ (how / 100).toInt ∧ (how / 100).toInt ≤ 20 ∧ (how - how / 100 * 100).toInt ≤ 60 ∧ 0 ≤ w.toInt ∧ w.toInt ≤ 1) → posti (-7) τ := fun q => by rw [if_neg q] at h; exact h τ hA
  refine brl z0' (fun q => bad7 (fun z => absurd z.1 (by omega))) (fun hn => ?_)
  have hn : 0 ≤ how.toInt := by omega
  obtain ⟨x, hx, ex, ed, em⟩ := how_parts hn
  have bd := nI_toInt (n := x / 100) (by omega)
  have bm := nI_toInt (n := x % 100) (by omega)
  rw [em, ed] at h bad7 ⊢
  refine m_in' (lo := 1) (hi := 20) (by decide) (by decide) (fun c => br_f (by decide) (brg (c := 60) (n := 60) (by decide) (fun q => bad7 (fun z => absurd z.2.2.2.1 (by omega))) (fun q3 => m_in' (lo := 0) (hi := 1) (by decide) (by decide) (fun d => br_f (by decide) ?_) (fun d => br_t rfl (bad7 (fun z => d z.2.2.2.2)))))) (fun c => br_t rfl (bad7 (fun z => c ⟨z.2.1, z.2.2.1⟩)))
  rw [if_pos ⟨hn, by omega, by omega, by omega, d⟩, i_nI (by omega), i_nI (by omega)] at h
  exact ⟨x / 100 + 2, m_mixO hV hW ha hb2 e1 e2 em (by omega) (by omega) (x / 100 + 1) 0 (-1) (-1) τ (by omega) hA h⟩
end MIX
