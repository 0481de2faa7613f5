/-! guards, and what the reference tells -/
theorem brl {a c : Int32} {n : Int} {X Y : Prop} (hc : c.toInt = n) (t : a.toInt < n → X) (f : ¬ a.toInt < n → Y) : (a < c → X) ∧ (¬ a < c → Y) :=
  ⟨fun q => t (by rw [← hc]; exact ilt.mp q), fun q => f (fun z => q (ilt.mpr (by rw [hc]; exact z)))⟩
theorem brle {a c : Int32} {n : Int} {X Y : Prop} (hc : c.toInt = n) (t : a.toInt ≤ n → X) (f : ¬ a.toInt ≤ n → Y) : (a ≤ c → X) ∧ (¬ a ≤ c → Y) :=
  ⟨fun q => t (by rw [← hc]; exact il.mp q), fun q => f (fun z => q (il.mpr (by rw [hc]; exact z)))⟩
theorem brg {a c : Int32} {n : Int} {X Y : Prop} (hc : c.toInt = n) (t : n < a.toInt → X) (f : ¬ n < a.toInt → Y) : (c < a → X) ∧ (¬ c < a → Y) :=
  ⟨fun q => t (by rw [← hc]; exact ilt.mp q), fun q => f (fun z => q (ilt.mpr (by rw [hc]; exact z)))⟩
theorem brge {a c : Int32} {n : Int} {X Y : Prop} (hc : c.toInt = n) (t : n ≤ a.toInt → X) (f : ¬ n ≤ a.toInt → Y) : (c ≤ a → X) ∧ (¬ c ≤ a → Y) :=
  ⟨fun q => t (by rw [← hc]; exact il.mp q), fun q => f (fun z => q (il.mpr (by rw [hc]; exact z)))⟩
theorem bre {a c : Int32} {n : Int} {X Y : Prop} (hc : c.toInt = n) (t : a.toInt = n → X) (f : ¬ a.toInt = n → Y) : (a = c → X) ∧ (¬ a = c → Y) :=
  ⟨fun q => t (by rw [← hc, q]), fun q => f (fun z => q (ieq.mpr (by rw [hc]; exact z)))⟩
theorem as_nI {s : Int32} {n : Nat} (h : 0 ≤ s.toInt ∧ s.toInt ≤ (n : Int)) : ∃ j, j ≤ n ∧ s = nI j := by
  have := ib s
  refine ⟨s.toInt.toNat, by omega, ieq.mpr ?_⟩
  rw [nI_toInt (by omega)]
  omega
section GC
variable {M : Nat} {A : Ab} {post : St → Prop} {posti : Int32 → St → Prop} {τ : St} {s : Int32}
theorem c_hasActs (hA : CS M A τ) (h1 : 0 ≤ s.toInt ∧ s.toInt ≤ (aNa A : Int) → posti 1 τ) (h0 : ¬ (0 ≤ s.toInt ∧ s.toInt ≤ (aNa A : Int)) → posti 0 τ) : w_X6_hasActs M posti s τ := by
  obtain ⟨-, ⟨c2, c2b, -⟩, -⟩ := hA
  have e := nI_toInt (n := aNa A) (by omega)
  unfold w_X6_hasActs
  rw [c2]
  exact brl z0' (fun q => h0 (by omega)) (fun q => brg e (fun r => h0 (by omega)) (fun r => h1 (by omega)))
theorem c_isBit (h1 : 0 ≤ s.toInt ∧ s.toInt ≤ 1 → posti 1 τ) (h0 : ¬ (0 ≤ s.toInt ∧ s.toInt ≤ 1) → posti 0 τ) : w_X6_isBit M posti s τ := by
  unfold w_X6_isBit
  exact bre z0' (fun q => h1 (by omega)) (fun q => bre (c := 1) (n := 1) (by decide) (fun r => h1 (by omega)) (fun r => h0 (by omega)))
theorem c_isByte (h1 : 0 ≤ s.toInt ∧ s.toInt ≤ 255 → posti 1 τ) (h0 : ¬ (0 ≤ s.toInt ∧ s.toInt ≤ 255) → posti 0 τ) : w_X6_isByte M posti s τ := by
  unfold w_X6_isByte
  exact brl z0' (fun q => h0 (by omega)) (fun q => brg (c := 255) (n := 255) (by decide) (fun r => h0 (by omega)) (fun r => h1 (by omega)))
theorem c_isSeed (h1 : 0 ≤ s.toInt ∧ s.toInt ≤ 99999 → posti 1 τ) (h0 : ¬ (0 ≤ s.toInt ∧ s.toInt ≤ 99999) → posti 0 τ) : w_X6_isSeed M posti s τ := by
  unfold w_X6_isSeed
  exact brl z0' (fun q => h0 (by omega)) (fun q => brg (c := 99999) (n := 99999) (by decide) (fun r => h0 (by omega)) (fun r => h1 (by omega)))
theorem c_isEvery (h1 : 1 ≤ s.toInt ∧ s.toInt ≤ 30 → posti 1 τ) (h0 : ¬ (1 ≤ s.toInt ∧ s.toInt ≤ 30) → posti 0 τ) : w_X6_isEvery M posti s τ := by
  unfold w_X6_isEvery
  exact brl (c := 1) (n := 1) (by decide) (fun q => h0 (by omega)) (fun q => brg (c := 30) (n := 30) (by decide) (fun r => h0 (by omega)) (fun r => h1 (by omega)))
theorem c_canTell (h1 : 0 ≤ s.toInt ∧ s.toInt ≤ 13 → posti 1 τ) (h0 : ¬ (0 ≤ s.toInt ∧ s.toInt ≤ 13) → posti 0 τ) : w_X3_canTell M posti s τ := by
  unfold w_X3_canTell
  exact brl z0' (fun q => h0 (by omega)) (fun q => brg (c := 13) (n := 13) (by decide) (fun r => h0 (by omega)) (fun r => h1 (by omega)))
end GC
section GM
variable {A : Ab} {post : St → Prop} {posti : Int32 → St → Prop} {τ : St} {s : Int32} {P : Pt} {B N : Int}
theorem m_in' {l h : Int64} {lo hi : Int} (hlo : l.toInt = lo) (hhi : h.toInt = hi) (h1 : lo ≤ s.toInt ∧ s.toInt ≤ hi → posti 1 τ) (h0 : ¬ (lo ≤ s.toInt ∧ s.toInt ≤ hi) → posti 0 τ) : w_X7_in 20 posti s.toInt64 l h τ :=
  m_in (fun q => h1 (by rw [t64, hlo, hhi] at q; exact q)) (fun q => h0 (by rw [t64, hlo, hhi] at q; omega))
theorem m_areActs (hV : Bd A) (hA : MS A τ) (h1 : 0 ≤ s.toInt ∧ s.toInt ≤ (aNa A : Int) → posti 1 τ) (h0 : ¬ (0 ≤ s.toInt ∧ s.toInt ≤ (aNa A : Int)) → posti 0 τ) : w_X7_areActs 20 posti s τ := by
  have h12 := hV.2.1
  unfold w_X7_areActs
  rw [hA.2.1.1]
  exact m_in' (by decide) (by rw [t64]; exact nI_toInt (by omega)) (fun q => ⟨rfl, h1 q⟩) (fun q => ⟨rfl, h0 q⟩)
theorem m_isAct (hV : Bd A) (hA : MS A τ) (h1 : ∀ j, j < aNa A → s = nI j → posti 1 τ) (h0 : s.toInt < 0 ∨ (aNa A : Int) ≤ s.toInt → posti 0 τ) : w_X7_isAct 20 posti s τ := by
  have h12 := hV.2.1
  unfold w_X7_isAct
  rw [hA.2.1.1]
  refine m_in' (lo := 0) (hi := (aNa A : Int) - 1) (by decide) (by rw [t64]; exact nI_m1 (by omega)) (fun q => ⟨rfl, ?_⟩) (fun q => ⟨rfl, h0 (by omega)⟩)
  exact h1 s.toInt.toNat (by omega) (ieq.mpr (by rw [nI_toInt (by omega)]; omega))
theorem km_thick (hP : PotM P τ) (h : posti (thickF P) τ) : w_X7_thick 20 posti τ := by
  rw [PotM_eq hP] at h ⊢
  exact m_thick h
theorem km_long (hV : Bd A) (hA : MS A τ) (hP : PotM P τ) (hI : PI B N P) (h : ∀ τ', Km A P τ τ' → posti (longF (lawF A) P) τ') : w_X7_threads 20 posti τ := by
  have hL := MLw_of hA hV.2.2.2 hV.2.2.1
  have g1 : gi τ 13 1 = P.1 8 := hP.1 1 (by decide)
  unfold w_X7_threads
  rw [g1]
  unfold longF at h
  refine ⟨fun c => ?_, fun c => ?_⟩
  · rw [if_pos c] at h
    exact h τ (Km_self hA hP)
  · rw [if_neg c] at h
    rw [PotM_eq hP]
    exact m_work hI hL (p := 2) (ts := (lawF A).2.2) (most := 999) (by decide) rfl rfl rfl (fun g' h' => h _ (Km_mu hA hP.2.2.2))
theorem oil4 (hB : PB B N) (hI : PI B N P) : (lg_cmp (4 * ((P.1 11).toInt64)) ((P.1 9 + P.1 10).toInt64) ≤ 0 ↔ ¬ (P.1 9 + P.1 10 < 4 * P.1 11)) := by
  unfold PI at hI
  unfold PB at hB
  have e4 : (4 : Int32).toInt = 4 := by decide
  have e4l : (4 : Int64).toInt = 4 := by decide
  have d1 : (P.1 9 + P.1 10).toInt = (P.1 9).toInt + (P.1 10).toInt := ia (by omega) (by omega)
  have d2 : (4 * P.1 11).toInt = 4 * (P.1 11).toInt := by rw [im (by rw [e4]; omega) (by rw [e4]; omega), e4]
  have d3 : (4 * ((P.1 11).toInt64)).toInt = 4 * (P.1 11).toInt := by rw [lmul (by rw [t64, e4l]; omega) (by rw [t64, e4l]; omega), t64, e4l]
  have key : ¬ (0 < lg_cmp (4 * ((P.1 11).toInt64)) ((P.1 9 + P.1 10).toInt64)) ↔ ¬ (P.1 9 + P.1 10 < 4 * P.1 11) := by
    rw [lgc_gt, ilt, t64, d1, d2, d3]
  rw [← key]
  exact Int32.not_lt.symm
theorem km_sort (hV : Bd A) (hA : MS A τ) (hP : PotM P τ) (hB : PB B N) (hI : PI B N P) (h : ∀ τ', Km A P τ τ' → posti (sortF (lawF A) P) τ') : w_X7_sortNow 20 posti τ := by
  have ho := oil4 hB hI
  have g11 : gi τ 13 11 = P.1 15 := hP.1 11 (by decide)
  have g2 : gi τ 13 2 = P.1 9 := hP.1 2 (by decide)
  have g3 : gi τ 13 3 = P.1 10 := hP.1 3 (by decide)
  have g4 : gi τ 13 4 = P.1 11 := hP.1 4 (by decide)
  have g0 : gi τ 13 0 = P.1 7 := hP.1 0 (by decide)
  have g1 : gi τ 13 1 = P.1 8 := hP.1 1 (by decide)
  have g5 : gi τ 13 5 = P.1 4 := hP.1 5 (by decide)
  unfold w_X7_sortNow
  rw [g11, g2, g3, g4, g0, g1, g5]
  unfold sortF at h
  refine ⟨fun c => ?_, fun c y2 e2 => ?_⟩
  · rw [if_pos c] at h; exact h τ (Km_self hA hP)
  rw [if_neg c] at h
  rw [e2]
  unfold holdF at h
  rw [if_neg c] at h
  refine ⟨fun d => ?_, fun d => ?_⟩
  · have d' := ho.mp d
    rw [if_neg d', if_neg (by decide)] at h
    refine ⟨fun e => ?_, fun e => ?_⟩
    · rw [if_pos e] at h
      refine km_thick hP ⟨fun g => ?_, fun g => ?_⟩
      · rw [if_pos g] at h
        refine km_long hV hA hP hI (fun τ1 h1 => ⟨fun i => ?_, fun i => ?_⟩)
        · rw [if_pos i] at h; exact h τ1 h1
        · rw [if_neg i] at h; exact h τ1 h1
      · rw [if_neg g] at h; exact h τ (Km_self hA hP)
    · rw [if_neg e] at h; exact h τ (Km_self hA hP)
  · have d' : P.1 9 + P.1 10 < 4 * P.1 11 := Classical.byContradiction (fun q => d (ho.mpr q))
    rw [if_pos d', if_pos rfl] at h
    refine ⟨fun e => ?_, fun e => ⟨fun g => ?_, fun g => ?_⟩⟩
    · rw [if_pos e] at h; exact h τ (Km_self hA hP)
    · rw [if_neg e, if_pos g] at h; exact h τ (Km_self hA hP)
    · rw [if_neg e, if_neg g] at h; exact h τ (Km_self hA hP)
theorem hold_sort (L : Lw) (P : Pt) : (sortF L P = 3 ∨ sortF L P = 4) ↔ holdF P = 0 := by
  unfold sortF
  by_cases c : P.1 15 = 0
  · have e : holdF P = 1 := by unfold holdF; rw [if_pos c]
    rw [if_pos c, e]
    exact ⟨fun q => by rcases q with q | q <;> exact absurd q (by decide), fun q => absurd q (by decide)⟩
  · rw [if_neg c]
    by_cases d : holdF P = 0
    · rw [if_pos d, d]
      refine ⟨fun _ => rfl, fun _ => ?_⟩
      split
      · exact Or.inl rfl
      · split
        · exact Or.inl rfl
        · exact Or.inr rfl
    · rw [if_neg d]
      refine ⟨fun q => ?_, fun q => absurd q d⟩
      exfalso
      split at q
      · split at q
        · split at q
          · rcases q with q | q <;> exact absurd q (by decide)
          · rcases q with q | q <;> exact absurd q (by decide)
        · rcases q with q | q <;> exact absurd q (by decide)
      · rcases q with q | q <;> exact absurd q (by decide)
theorem hold_01 (P : Pt) : holdF P = 0 ∨ holdF P = 1 := by
  unfold holdF
  split
  · exact Or.inr rfl
  · split
    · exact Or.inl rfl
    · exact Or.inr rfl
theorem km_holds (hV : Bd A) (hA : MS A τ) (hP : PotM P τ) (hB : PB B N) (hI : PI B N P) (h : ∀ τ', Km A P τ τ' → posti (holdF P) τ') : w_X7_holds 20 posti τ := by
  have hs := hold_sort (lawF A) P
  unfold w_X7_holds
  refine km_sort hV hA hP hB hI (fun τ1 h1 => ⟨fun c => ?_, fun c => ?_⟩)
  · have e := hs.mp (Or.inl c)
    rw [e] at h
    exact h τ1 h1
  · refine km_sort hV h1.1 h1.2.1 hB hI (fun τ2 h2 => ⟨fun d => ?_, fun d => ?_⟩)
    · have e := hs.mp (Or.inr d)
      rw [e] at h
      exact h τ2 (Km_trans h1 h2)
    · rcases hold_01 P with e | e
      · rcases hs.mpr e with q | q
        · exact absurd q c
        · exact absurd q d
      · rw [e] at h
        exact h τ2 (Km_trans h1 h2)
theorem km_told (hV : Bd A) (hA : MS A τ) (hP : PotM P τ) (hB : PB B N) (hI : PI B N P) {w : Int32} (hw : 0 ≤ w.toInt ∧ w.toInt ≤ 13) (h : ∀ τ', Km A P τ τ' → posti (tellF (lawF A) P w) τ') : w_X7_potTold 20 posti w τ := by
  obtain ⟨j, hj, rfl⟩ := as_nI (n := 13) hw
  unfold w_X7_potTold
  have g := fun k hk => hP.1 k hk
  rcases (show j = 0 ∨ j = 1 ∨ j = 2 ∨ j = 3 ∨ j = 4 ∨ j = 5 ∨ j = 6 ∨ j = 7 ∨ j = 8 ∨ j = 9 ∨ j = 10 ∨ j = 11 ∨ j = 12 ∨ j = 13 by omega) with rfl | rfl | rfl | rfl | rfl | rfl | rfl | rfl | rfl | rfl | rfl | rfl | rfl | rfl
  · refine br_f (by decide) (br_f (by decide) (br_f (by decide) ⟨vp_in_nI (n := 0) (by decide) (by decide), ?_⟩))
    rw [nI_clamp (by decide), g 0 (by decide)]
    exact h τ (Km_self hA hP)
  · refine br_f (by decide) (br_f (by decide) (br_f (by decide) ⟨vp_in_nI (n := 1) (by decide) (by decide), ?_⟩))
    rw [nI_clamp (by decide), g 1 (by decide)]
    exact h τ (Km_self hA hP)
  · refine br_f (by decide) (br_f (by decide) (br_f (by decide) ⟨vp_in_nI (n := 2) (by decide) (by decide), ?_⟩))
    rw [nI_clamp (by decide), g 2 (by decide)]
    exact h τ (Km_self hA hP)
  · refine br_f (by decide) (br_f (by decide) (br_f (by decide) ⟨vp_in_nI (n := 3) (by decide) (by decide), ?_⟩))
    rw [nI_clamp (by decide), g 3 (by decide)]
    exact h τ (Km_self hA hP)
  · refine br_f (by decide) (br_f (by decide) (br_f (by decide) ⟨vp_in_nI (n := 4) (by decide) (by decide), ?_⟩))
    rw [nI_clamp (by decide), g 4 (by decide)]
    exact h τ (Km_self hA hP)
  · refine br_f (by decide) (br_f (by decide) (br_f (by decide) ⟨vp_in_nI (n := 5) (by decide) (by decide), ?_⟩))
    rw [nI_clamp (by decide), g 5 (by decide)]
    exact h τ (Km_self hA hP)
  · refine br_f (by decide) (br_f (by decide) (br_f (by decide) ⟨vp_in_nI (n := 6) (by decide) (by decide), ?_⟩))
    rw [nI_clamp (by decide), g 6 (by decide)]
    exact h τ (Km_self hA hP)
  · refine br_f (by decide) (br_f (by decide) (br_f (by decide) ⟨vp_in_nI (n := 7) (by decide) (by decide), ?_⟩))
    rw [nI_clamp (by decide), g 7 (by decide)]
    exact h τ (Km_self hA hP)
  · refine br_f (by decide) (br_f (by decide) (br_f (by decide) ⟨vp_in_nI (n := 8) (by decide) (by decide), ?_⟩))
    rw [nI_clamp (by decide), g 8 (by decide)]
    exact h τ (Km_self hA hP)
  · refine br_f (by decide) (br_f (by decide) (br_f (by decide) ⟨vp_in_nI (n := 9) (by decide) (by decide), ?_⟩))
    rw [nI_clamp (by decide), g 9 (by decide)]
    exact h τ (Km_self hA hP)
  · refine br_f (by decide) (br_f (by decide) (br_f (by decide) ⟨vp_in_nI (n := 10) (by decide) (by decide), ?_⟩))
    rw [nI_clamp (by decide), g 10 (by decide)]
    exact h τ (Km_self hA hP)
  · exact br_t rfl (km_thick hP (h τ (Km_self hA hP)))
  · exact br_f (by decide) (br_t rfl (km_long hV hA hP hI h))
  · exact br_f (by decide) (br_f (by decide) (br_t rfl (km_sort hV hA hP hB hI h)))
end GM
