/-! a flame that flickers, by a seed -/
section DRAWN
variable {M : Nat} {A : Ab} {post : St → Prop} {posti : Int32 → St → Prop} {postl : Int64 → St → Prop} {τ : St} {P : Pt}
def sdF (A : Ab) (s : Int32) : Pt := ((begF A).1, (s + 1).toInt64)
def drF (A : Ab) (n : Nat) (s : Int32) : Pt := actsF A (lawF A) 0 n (sdF A s)
theorem k_cookDrawn (hA : CS M A τ) {n : Nat} (hn : n ≤ aNa A) {b s : Int32} (hb : b = nI n) (h : ∀ τ', Kp M A 12 (lawF A) (drF A n s) τ τ' → post τ') : w_X6_cookDrawn M post b s τ := by
  unfold w_X6_cookDrawn
  refine k_beginPot hA (fun τ1 h1 => ?_)
  unfold w_X3_flickerBy
  refine ⟨kd12 M 12 hA.2.2.2.2.2.2.2.1 (Or.inl rfl), fun σ1 e1 => ?_⟩
  have e : sl τ1 12 ((s + 1).toInt64) = pu τ1 12 (sdF A s) (fun k => gi τ1 13 k) := by
    conv => lhs; rw [PotAt_eq h1.2.1]
    exact pu_sl
  rw [e] at e1
  have k2 : Kp M A 12 (lawF A) (sdF A s) τ1 σ1 := by rw [e1]; exact Kp_pu (Or.inl rfl) h1.1 h1.2.1
  exact k_runActs k2.1 k2.2.1 (Nat.zero_le n) hn rfl hb (fun τ2 h2 => h τ2 (Kp_trans (Kp_trans h1 k2) h2))
theorem PIr_sd {k m : Nat} {s : Int32} (h : PIr k m (begF A)) : PIr k m (sdF A s) := by
  obtain ⟨B, N, h1, h2⟩ := h
  exact ⟨B, N, PI_eq h1 rfl rfl rfl rfl rfl rfl rfl rfl rfl rfl, h2⟩
theorem q_drL (hV : Bd A) (hW : VA A) {n : Nat} (hn : n ≤ aNa A) {m : Nat} : ∀ (k i : Nat) (P : Pt) (τ : St), i + k = n → MS A τ → PotM P τ → PIr k m P → (∀ τ', Km A (actsF A (lawF A) i k P) τ τ' → post τ') → wl_X7_goesDrawn_27 20 post (k + 1) (nI n) (nI i) τ := by
  have h12 := hV.2.1
  intro k
  induction k with
  | zero =>
    intro i P τ hi hA hP hR h
    have hi : i = n := hi
    subst hi
    exact br_t (Int32.le_refl _) (h τ (Km_self hA hP))
  | succ k ih =>
    intro i P τ hi hA hP hR h
    show w_X7_goesDrawn_27 20 post _ (nI n) (nI i) τ
    unfold w_X7_goesDrawn_27
    refine br_f (nI_ge (by omega) (by omega)) (q_act hV hW hA hP hR (by omega) (fun τ1 h1 x3 e3 => ?_))
    rw [e3, nI_1]
    exact ih (i + 1) _ τ1 (by omega) h1.1 h1.2.1 (PIr_one hW (by omega) hR) (fun τ2 h2 => h τ2 (Km_trans h1 h2))
theorem seed_ok {s : Int32} (hs : 0 ≤ s.toInt ∧ s.toInt ≤ 99999) : s.toInt64 + 1 = (s + 1).toInt64 ∧ ((s + 1).toInt64).toInt = s.toInt + 1 := by
  have e1 : (s + 1).toInt = s.toInt + 1 := by rw [ia (by rw [i_1]; omega) (by rw [i_1]; omega), i_1]
  have e2 : ((s + 1).toInt64).toInt = s.toInt + 1 := by rw [t64, e1]
  refine ⟨Int64.toInt_inj.mp ?_, e2⟩
  have z1 : (1 : Int64).toInt = 1 := by decide
  have e3 : (s.toInt64 + 1).toInt = (s.toInt64.toInt + (1 : Int64).toInt).bmod 18446744073709551616 := Int64.toInt_add _ _
  rw [e2, e3, t64, z1, lb_bmod (by omega) (by omega)]
theorem q_drawn (hV : Bd A) (hW : VA A) (hA : MS A τ) {n : Nat} (hn : n ≤ aNa A) {b s : Int32} (hb : b = nI n) (hs : 0 ≤ s.toInt ∧ s.toInt ≤ 99999) (h : ∀ τ', Km A (drF A n s) τ τ' → post τ') : w_X7_goesDrawn 20 post b s τ := by
  have h12 := hV.2.1
  obtain ⟨s1, s2⟩ := seed_ok hs
  unfold w_X7_goesDrawn
  refine km_begins hA (fun τ1 h1 σ2 e2 y3 e3 σ4 e4 => ?_)
  rw [s1] at e3
  have hy : y3 = nx (s + 1).toInt64 := e3
  have hne : (s + 1).toInt64 ≠ 0 := fun q => by
    have := congrArg Int64.toInt q
    rw [s2] at this
    have z : (0 : Int64).toInt = 0 := by decide
    rw [z] at this
    omega
  have k4 : Km A (sdF A s) τ1 σ4 := by
    refine ⟨MS_nS h1.1 (fun a k hn => ?_), ⟨fun k hk => ?_, ?_, fun _ => ?_, Or.inr (by show 0 < ((s + 1).toInt64).toInt ∧ ((s + 1).toInt64).toInt < 2147483647; omega)⟩, ?_⟩
    · rw [e4]
      show gi σ2 a k = _
      rw [e2, gsn (by unfold nS at hn; omega)]
    · rw [e4]
      show gi σ2 13 k = _
      rw [e2, gso (by decide)]
      exact h1.2.1.1 k hk
    · rw [e4]
      show gi σ2 0 26 = _
      rw [e2, gss, if_neg (show ¬ (sdF A s).2 = 0 from hne)]
    · rw [e4, gl_sl', if_pos rfl, hy]; rfl
    · rw [e4]
      show gi σ2 0 28 = _
      rw [e2, gsk (by decide)]
  subst hb
  exact ⟨n + 1, q_drL hV hW hn n 0 (sdF A s) σ4 (Nat.zero_add n) k4.1 k4.2.1 (PIr_sd (PIr_mono (m' := 1600) (PIr_beg hW) (by omega) (by omega))) (fun τ2 h2 => h τ2 (Km_trans (Km_trans h1 k4) h2))⟩
theorem PIr_dr (hV : Bd A) (hW : VA A) {n : Nat} (hn : n ≤ aNa A) {s : Int32} : PIr 21 1600 (drF A n s) := by
  have h12 := hV.2.1
  exact PIr_acts hW n 0 21 _ (by omega) (PIr_sd (PIr_mono (PIr_beg hW) (by omega) (by omega)))
def drawnF (A : Ab) (n s w : Int32) : Int32 := if 0 ≤ n.toInt ∧ n.toInt ≤ (aNa A : Int) then (if (0 ≤ s.toInt ∧ s.toInt ≤ 99999) ∧ (0 ≤ w.toInt ∧ w.toInt ≤ 13) then tellF (lawF A) (drF A n.toInt.toNat s) w else -7) else -5
theorem c_drawn (hA : CS M A τ) {n s w : Int32} (h : ∀ τ', CS M A τ' → posti (drawnF A n s w) τ') : w_X6_drawn M posti n s w τ := by
  have h12 := hA.2.1.2.1
  unfold drawnF at h
  unfold w_X6_drawn
  refine c_hasActs hA (fun c => br_f (by decide) (c_isSeed (fun d => br_f (by decide) (c_canTell (fun e => br_f (by decide) ?_) (fun e => br_t rfl ?_))) (fun d => br_t rfl ?_))) (fun c => br_t rfl ?_)
  · rw [if_pos c, if_pos ⟨d, e⟩] at h
    obtain ⟨j, hj, rfl⟩ := as_nI c
    rw [i_nI (by omega)] at h
    exact k_cookDrawn hA hj rfl (fun τ1 h1 => k_tell (Or.inl rfl) h1.1 h1.2.1 (fun τ2 h2 => h τ2 h2.1))
  · rw [if_pos c, if_neg (fun z => e z.2)] at h; exact h τ hA
  · rw [if_pos c, if_neg (fun z => d z.1)] at h; exact h τ hA
  · rw [if_neg c] at h; exact h τ hA
theorem m_drawn (hV : Bd A) (hW : VA A) (hA : MS A τ) {n s w : Int32} (h : ∀ τ', MS A τ' → posti (drawnF A n s w) τ') : w_X7_drawn 20 posti n s w τ := by
  have h12 := hV.2.1
  unfold drawnF at h
  unfold w_X7_drawn
  refine m_areActs hV hA (fun c => br_f (by decide) (m_in' (lo := 0) (hi := 99999) (by decide) (by decide) (fun d => br_f (by decide) (m_in' (lo := 0) (hi := 13) (by decide) (by decide) (fun e => br_f (by decide) ?_) (fun e => br_t rfl ?_))) (fun d => br_t rfl ?_))) (fun c => br_t rfl ?_)
  · rw [if_pos c, if_pos ⟨d, e⟩] at h
    obtain ⟨j, hj, rfl⟩ := as_nI c
    rw [i_nI (by omega)] at h
    exact q_drawn hV hW hA hj rfl d (fun τ1 h1 => q_told hV h1.1 h1.2.1 (PIr_dr hV hW hj) e (fun τ2 h2 => h τ2 h2.1))
  · rw [if_pos c, if_neg (fun z => e z.2)] at h; exact h τ hA
  · rw [if_pos c, if_neg (fun z => d z.1)] at h; exact h τ hA
  · rw [if_neg c] at h; exact h τ hA
/-! how likely -/
def seedF (s : Int32) (i : Nat) : Int32 := if s + nI i < 99999 then s + nI i else 99999
def chG (A : Ab) (s : Int32) (i : Nat) : Int32 := holdF (drF A (aNa A) (seedF s i))
def chanceF (A : Ab) (s n p : Int32) : Int64 :=
  if (0 ≤ s.toInt ∧ s.toInt ≤ 99999) ∧ (1 ≤ n.toInt ∧ n.toInt ≤ 20) ∧ (0 ≤ p.toInt ∧ p.toInt ≤ 1) then lN (lowF (cntN (chG A s) n.toInt.toNat 0 0) n.toInt.toNat p) else -4611686018427387904
theorem c_chL {s p : Int32} {n : Nat} (hn : 1 ≤ n ∧ n ≤ 20) : ∀ (k j v : Nat) (τ : St), j + k = n → v ≤ j → CS M A τ → (∀ τ', CS M A τ' → postl (lN (lowF (cntN (chG A s) k j v) n p)) τ') → wl_X6_chance_35 M postl (k + 1) s (nI n) p (nI v) (nI j) τ := by
  intro k
  induction k with
  | zero =>
    intro j v τ hj hv hA h
    have hj : j = n := hj
    subst hj
    show w_X6_chance_35 M postl _ s (nI j) p (nI v) (nI j) τ
    unfold w_X6_chance_35
    refine br_t (Int32.le_refl _) (c_low (by omega) (by omega) (by omega) ?_)
    have hl := lowF_lt (a := v) (b := j) (p := p) (by omega) (by omega)
    rw [nI_l (by omega)]
    exact h τ hA
  | succ k ih =>
    intro j v τ hj hv hA h
    show w_X6_chance_35 M postl _ s (nI n) p (nI v) (nI j) τ
    unfold w_X6_chance_35
    rw [CS_na hA]
    unfold cntN at h
    refine br_f (nI_ge (by omega) (by omega)) (fun x4 e4 => k_cookDrawn hA (Nat.le_refl _) rfl (fun τ1 h1 => k_holds (Or.inl rfl) h1.1 h1.2.1 ⟨fun c x9 e9 => ?_, fun c x10 e10 x11 e11 => ?_⟩))
    · have e4 : x4 = seedF s j := e4
      rw [e4] at c
      rw [if_pos (show chG A s j = 0 from c)] at h
      rw [e9, nI_1]
      exact ih (j + 1) v τ1 (by omega) (by omega) h1.1 h
    · have e4 : x4 = seedF s j := e4
      rw [e4] at c
      rw [if_neg (show ¬ chG A s j = 0 from c)] at h
      rw [e11, e10, nI_1, nI_1]
      exact ih (j + 1) (v + 1) τ1 (by omega) (by omega) h1.1 h
theorem m_chL (hV : Bd A) (hW : VA A) {s p : Int32} (hs : 0 ≤ s.toInt ∧ s.toInt ≤ 99999) {n : Nat} (hn : 1 ≤ n ∧ n ≤ 20) : ∀ (k j v : Nat) (τ : St), j + k = n → v ≤ j → MS A τ → (∀ τ', MS A τ' → postl (lN (lowF (cntN (chG A s) k j v) n p)) τ') → wl_X7_chance_44 20 postl (k + 1) s (nI n) p (nI v) (nI j) τ := by
  intro k
  induction k with
  | zero =>
    intro j v τ hj hv hA h
    have hj : j = n := hj
    subst hj
    show w_X7_chance_44 20 postl _ s (nI j) p (nI v) (nI j) τ
    unfold w_X7_chance_44
    refine br_t (Int32.le_refl _) ?_
    rw [nI_l (by omega), nI_l (by omega)]
    exact m_low (by omega) (by omega) (by omega) (h τ hA)
  | succ k ih =>
    intro j v τ hj hv hA h
    have ej := nI_toInt (n := j) (by omega)
    have es : (s + nI j).toInt = s.toInt + j := by rw [ia (by omega) (by omega), ej]
    have e9 : (99999 : Int32).toInt = 99999 := by decide
    show w_X7_chance_44 20 postl _ s (nI n) p (nI v) (nI j) τ
    unfold w_X7_chance_44
    rw [MS_na hA]
    unfold cntN at h
    have go : ∀ x : Int32, x = seedF s j → (0 ≤ x.toInt ∧ x.toInt ≤ 99999) → w_X7_chance_75 20 postl (wl_X7_chance_44 20 postl (k + 1)) s (nI n) p (nI v) (nI j) x (nI (aNa A)) τ := by
      intro x hx hx2
      unfold w_X7_chance_75
      refine q_drawn hV hW hA (Nat.le_refl _) rfl hx2 (fun τ1 h1 => q_holds hV h1.1 h1.2.1 (PIr_dr hV hW (Nat.le_refl _)) (fun τ2 h2 => ?_))
      rw [hx]
      refine ⟨fun c x5 e5 => ?_, fun c x6 e6 => ?_⟩
      · rw [if_pos (show chG A s j = 0 from c)] at h
        rw [e5, nI_1, Int32.add_zero]
        exact ih (j + 1) v τ2 (by omega) (by omega) h2.1 h
      · rw [if_neg (show ¬ chG A s j = 0 from c)] at h
        rw [e6, nI_1, nI_1]
        exact ih (j + 1) (v + 1) τ2 (by omega) (by omega) h2.1 h
    refine br_f (nI_ge (by omega) (by omega)) (brle (c := 99999) (n := 99999) (by decide) (fun c => go _ ?_ (by omega)) (fun c => go _ ?_ (by omega)))
    · unfold seedF
      by_cases q : s + nI j < 99999
      · rw [if_pos q]
      · rw [if_neg q]
        have : ¬ (s + nI j).toInt < (99999 : Int32).toInt := fun z => q (ilt.mpr z)
        exact ieq.mpr (by omega)
    · unfold seedF
      rw [if_neg (fun z => by have := ilt.mp z; omega)]
theorem c_chance (hA : CS M A τ) {s n p : Int32} (h : ∀ τ', CS M A τ' → postl (chanceF A s n p) τ') : w_X6_chance M postl s n p τ := by
  unfold chanceF at h
  have bad : ¬ ((0 ≤ s.toInt ∧ s.toInt ≤ 99999) ∧ (1 ≤ n.toInt ∧ n.toInt ≤ 20) ∧ (0 ≤ p.toInt ∧ p.toInt ≤ 1)) → postl (-4611686018427387904) τ := fun q => by rw [if_neg q] at h; exact h τ hA
  unfold w_X6_chance
  refine c_isSeed (fun c => br_f (by decide) (brl i_1 (fun q => bad (by omega)) (fun q1 => brg (c := 20) (n := 20) (by decide) (fun q => bad (by omega)) (fun q2 => c_isBit (fun d => br_f (by decide) ?_) (fun d => br_t rfl (bad (fun z => d z.2.2))))))) (fun c => br_t rfl (bad (fun z => c z.1)))
  rw [if_pos ⟨c, ⟨by omega, by omega⟩, d⟩] at h
  obtain ⟨m, hm, rfl⟩ := as_nI (s := n) (n := 20) (by omega)
  have em := nI_toInt (n := m) (by omega)
  rw [i_nI (by omega)] at h
  exact ⟨m + 1, c_chL (by omega) m 0 0 τ (by omega) (by omega) hA h⟩
theorem m_chance (hV : Bd A) (hW : VA A) (hA : MS A τ) {s n p : Int32} (h : ∀ τ', MS A τ' → postl (chanceF A s n p) τ') : w_X7_chance 20 postl s n p τ := by
  unfold chanceF at h
  have bad : ¬ ((0 ≤ s.toInt ∧ s.toInt ≤ 99999) ∧ (1 ≤ n.toInt ∧ n.toInt ≤ 20) ∧ (0 ≤ p.toInt ∧ p.toInt ≤ 1)) → postl (-4611686018427387904) τ := fun q => by rw [if_neg q] at h; exact h τ hA
  unfold w_X7_chance
  refine m_in' (lo := 0) (hi := 99999) (by decide) (by decide) (fun c => br_f (by decide) (m_in' (lo := 1) (hi := 20) (by decide) (by decide) (fun q => br_f (by decide) (m_in' (lo := 0) (hi := 1) (by decide) (by decide) (fun d => br_f (by decide) ?_) (fun d => br_t rfl (bad (fun z => d z.2.2))))) (fun q => br_t rfl (bad (fun z => q z.2.1))))) (fun c => br_t rfl (bad (fun z => c z.1)))
  rw [if_pos ⟨c, q, d⟩] at h
  obtain ⟨m, hm, rfl⟩ := as_nI (s := n) (n := 20) (by omega)
  have em := nI_toInt (n := m) (by omega)
  rw [i_nI (by omega)] at h
  exact ⟨m + 1, m_chL hV hW c (by omega) m 0 0 τ (by omega) (by omega) hA h⟩
end DRAWN
