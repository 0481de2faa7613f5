/-! the reference's runs over the relation -/
def Bd (A : Ab) : Prop := aNc A ≤ 4 ∧ aNa A ≤ 12 ∧ aNl A ≤ 6 ∧ aLn A < aNl A
theorem Bd_of {M : Nat} {A : Ab} {σ : St} (h : CS M A σ) : Bd A := ⟨h.1.2.1, h.2.1.2.1, h.2.2.1.2.1, h.2.2.1.2.2.2.1⟩
def Km (A : Ab) (P : Pt) (τ τ' : St) : Prop := MS A τ' ∧ PotM P τ' ∧ gi τ' 0 28 = gi τ 0 28
theorem Km_trans {A : Ab} {P Q : Pt} {τ τ' τ'' : St} (h1 : Km A P τ τ') (h2 : Km A Q τ' τ'') : Km A Q τ τ'' := ⟨h2.1, h2.2.1, h2.2.2.trans h1.2.2⟩
theorem Km_self {A : Ab} {P : Pt} {τ : St} (hA : MS A τ) (hP : PotM P τ) : Km A P τ τ := ⟨hA, hP, rfl⟩
theorem Km_mu {A : Ab} {Q : Pt} {τ : St} {x : Int64} {g h : Nat → Int32} (hA : MS A τ) (hl : okl Q.2) : Km A Q τ (mu τ Q x (gi τ 0 28) g h) := ⟨MS_mu hA, PotM_mu hl, rfl⟩
theorem Km_si {A : Ab} {P : Pt} {τ : St} {k j : Nat} {v : Int32} (hA : MS A τ) (hP : PotM P τ) (hk : k < 14) (hj : pm k = j) : Km A (up P j v) τ (si τ 13 k v) := by
  subst hj
  have e := PotM_eq hP
  have e2 : si τ 13 k v = mu τ (up P (pm k) v) (gl τ 0) (gi τ 0 28) (fun k => gi τ 8 k) (fun k => gi τ 9 k) := by
    conv => lhs; rw [e]
    exact mm_up hk
  rw [e2]
  exact Km_mu hA hP.2.2.2
theorem minute_lot (L : Lw) (a : Int32) (P : Pt) : (minuteF L a P).2 = lotF P := by
  have e : ∀ Q : Pt, (splitF L a Q).2 = Q.2 := by
    intro Q
    unfold splitF settleF
    split
    · split <;> rfl
    · rfl
  show (splitF L a (meltF L (heatF P))).2 = _
  rw [e]
  rfl
theorem lgc_lt {a b : Int64} : lg_cmp a b < 0 ↔ a.toInt < b.toInt := by
  unfold lg_cmp
  by_cases h : a > b
  · rw [if_pos h]
    have := Int64.lt_iff_toInt_lt.mp h
    exact ⟨fun q => absurd q (by decide), fun q => by omega⟩
  · rw [if_neg h]
    have h' : ¬ b.toInt < a.toInt := fun q => h (Int64.lt_iff_toInt_lt.mpr q)
    by_cases e : a = b
    · rw [if_pos e, e]
      exact ⟨fun q => absurd q (by decide), fun q => by omega⟩
    · rw [if_neg e]
      have e' : a.toInt ≠ b.toInt := fun q => e (Int64.toInt_inj.mp q)
      exact ⟨fun _ => by omega, fun _ => by decide⟩
theorem lgc_gt {a b : Int64} : 0 < lg_cmp a b ↔ b.toInt < a.toInt := by
  unfold lg_cmp
  by_cases h : a > b
  · rw [if_pos h]; exact ⟨fun _ => Int64.lt_iff_toInt_lt.mp h, fun _ => by decide⟩
  · rw [if_neg h]
    refine ⟨fun q => ?_, fun q => absurd (Int64.lt_iff_toInt_lt.mpr q) h⟩
    split at q
    · exact absurd q (by decide)
    · exact absurd q (by decide)
section MK
variable {A : Ab} {post : St → Prop} {posti : Int32 → St → Prop} {τ : St} {P : Pt} {B N : Int}
theorem m_in {a l h : Int64} (h1 : l.toInt ≤ a.toInt ∧ a.toInt ≤ h.toInt → posti 1 τ) (h2 : (a.toInt < l.toInt ∨ h.toInt < a.toInt) → posti 0 τ) : w_X7_in 20 posti a l h τ := by
  unfold w_X7_in
  refine ⟨fun c => h2 (Or.inl (lgc_lt.mp c)), fun c => ⟨fun d => h2 (Or.inr (lgc_gt.mp d)), fun d => h1 ?_⟩⟩
  have c' : ¬ a.toInt < l.toInt := fun q => c (lgc_lt.mpr q)
  have d' : ¬ h.toInt < a.toInt := fun q => d (lgc_gt.mpr q)
  omega
theorem t64 (x : Int32) : x.toInt64.toInt = x.toInt := Int32.toInt_toInt64 x
theorem nI_m1 {n : Nat} (h : n < 1000) : (nI n - 1).toInt = (n : Int) - 1 := by
  have e := nI_toInt (n := n) (by omega)
  have e1 : (1 : Int32).toInt = 1 := by decide
  rw [isu (by omega) (by omega), e, e1]
theorem m_isCheese (hV : Bd A) (hA : MS A τ) {s : Int32} (h1 : ∀ j, j < aNc A → s = nI j → posti 1 τ) (h2 : (s.toInt < 0 ∨ (aNc A : Int) ≤ s.toInt) → posti 0 τ) : w_X7_isCheese 20 posti s τ := by
  obtain ⟨b1, b2, b3, b4⟩ := hV
  unfold w_X7_isCheese
  rw [hA.1.1]
  have e0 : (0 : Int64).toInt = 0 := by decide
  have em := nI_m1 (n := aNc A) (by omega)
  refine m_in (fun q => ⟨rfl, ?_⟩) (fun q => ⟨rfl, h2 ?_⟩)
  · rw [t64, t64, e0, em] at q
    exact h1 s.toInt.toNat (by omega) (ieq.mpr (by rw [nI_toInt (by omega)]; omega))
  · rw [t64, t64, e0, em] at q
    omega
theorem km_beat (hA : MS A τ) (hP : PotM P τ) (hI : PI B N P) {a : Int32} (ha : 0 ≤ a.toInt) (h : ∀ τ', Km A (beatF a P) τ τ' → post τ') : w_X7_strokesOf 20 post a τ := by
  rw [PotM_eq hP]
  exact m_strokes hI ha (h _ (Km_mu hA hP.2.2.2))
theorem km_pours (hA : MS A τ) (hP : PotM P τ) (hI : PI B N P) {a b : Int32} (ha : 0 ≤ a.toInt ∧ a.toInt ≤ 9) (h : ∀ τ', Km A (pourF a b P) τ τ' → post τ') : w_X7_pours 20 post a b τ := by
  rw [PotM_eq hP]
  exact m_pours hI ha (h _ (Km_mu hA hP.2.2.2))
theorem km_hand (hA : MS A τ) (hP : PotM P τ) (hI : PI B N P) {a : Int32} (ha : 0 ≤ a.toInt) {j : Nat} (hj : j < aNc A) (hj4 : j < 4) (h : ∀ τ', Km A (throwF (aCh A j) a P) τ τ' → post τ') : w_X7_handfuls 20 post (nI j) a τ := by
  have hm := hA.1.2
  rw [PotM_eq hP]
  exact m_hand hI ha hj4 (fun k hk => hm j k hj hk) (h _ (Km_mu hA hP.2.2.2))
theorem km_minute (hV : Bd A) (hA : MS A τ) (hP : PotM P τ) (hI : PI B N P) (hB : PB B (N + 1)) (hN : 0 ≤ N) {a : Int32} (h : ∀ τ', Km A (minuteF (lawF A) a P) τ τ' → post τ') : w_X7_minute 20 post a τ := by
  have hL := MLw_of hA hV.2.2.2 hV.2.2.1
  have hlot : okl (minuteF (lawF A) a P).2 := by rw [minute_lot]; exact okl_lotF hP.2.2.2
  rw [PotM_eq hP]
  exact m_minute hB hN hI hP.2.2.2 hL (fun g' h' => h _ (Km_mu hA hlot))
theorem km_mins {k m : Int32} (h : posti (minsF k m) τ) : w_X7_minutesOf 20 posti k m τ := by
  unfold w_X7_minutesOf
  unfold minsF at h
  refine ⟨fun c => ?_, fun c => ⟨fun d => ?_, fun d => ⟨fun e => ⟨fun f => ?_, fun f => ?_⟩, fun e => ?_⟩⟩⟩
  · rw [if_pos c] at h; exact h
  · rw [if_neg c, if_pos d] at h; exact h
  · rw [if_neg c, if_neg d, if_pos e] at h
    by_cases g : 1 < m
    · rw [if_pos g] at h; exact h
    · rw [if_neg g] at h
      have f' := il.mp f
      have g' : ¬ (1 : Int32).toInt < m.toInt := fun q => g (ilt.mpr q)
      have e1 : m = 1 := ieq.mpr (by omega)
      rw [e1]; exact h
  · rw [if_neg c, if_neg d, if_pos e, if_neg (fun q => f (il.mpr (by have := ilt.mp q; omega)))] at h; exact h
  · rw [if_neg c, if_neg d, if_neg e] at h; exact h
theorem km_dloop (hV : Bd A) {k m : Int32} : ∀ (n j : Nat) (P : Pt) (τ : St) (N : Int), MS A τ → PotM P τ → PI B N P → PB B (N + n) → 0 ≤ N → (minsF k m).toNatClampNeg ≤ j + n → (n ≠ 0 → (minsF k m).toNatClampNeg = j + n) → j < 2 ^ 31 → (∀ τ', Km A (iterF (minuteF (lawF A) (stirF k)) n P) τ τ' → post τ') → wl_X7_does_102 20 post (n + 1) k m (nI j) τ := by
  intro n
  induction n with
  | zero =>
    intro j P τ N hA hP hI hB hN hv _ hj h
    show w_X7_does_102 20 post _ k m (nI j) τ
    unfold w_X7_does_102
    exact km_mins (br_t (clamp_le hv hj) (h τ (Km_self hA hP)))
  | succ n ih =>
    intro j P τ N hA hP hI hB hN hv hv' hj h
    have hv2 := hv' (by omega)
    have hb := clamp_bd (minsF k m)
    show w_X7_does_102 20 post _ k m (nI j) τ
    unfold w_X7_does_102
    have hB1 : PB B (N + 1) := by unfold PB at hB ⊢; omega
    refine km_mins (br_f (clamp_gt (by omega)) ⟨fun c => ?_, fun c => ?_⟩)
    · have hst : stirF k = 0 := by unfold stirF; rw [if_pos c]
      refine km_minute hV hA hP hI hB1 hN (fun τ' h' x6 e6 => ?_)
      rw [e6, nI_1]
      have hI' := PI_minute (L := lawF A) (st := 0) hB1 hN hI
      refine ih (j + 1) _ τ' (N + 1) h'.1 h'.2.1 hI' (by unfold PB at hB ⊢; omega) (by omega) (by omega) (fun _ => by omega) (by omega) (fun τ'' h'' => h τ'' (Km_trans h' ?_))
      rw [hst] at h'' ⊢
      exact h''
    · have hst : stirF k = 1 := by unfold stirF; rw [if_neg c]
      refine km_minute hV hA hP hI hB1 hN (fun τ' h' x6 e6 => ?_)
      rw [e6, nI_1]
      have hI' := PI_minute (L := lawF A) (st := 1) hB1 hN hI
      refine ih (j + 1) _ τ' (N + 1) h'.1 h'.2.1 hI' (by unfold PB at hB ⊢; omega) (by omega) (by omega) (fun _ => by omega) (by omega) (fun τ'' h'' => h τ'' (Km_trans h' ?_))
      rw [hst] at h'' ⊢
      exact h''
theorem chO_ok (hW : VA A) {s : Int32} {c : Nat → Int32} (h : chO A s = some c) : okC c := by
  unfold chO at h
  by_cases q : 0 ≤ s.toInt ∧ s.toInt < (aNc A : Int)
  · rw [if_pos q] at h
    cases h
    exact hW.1 _ (by omega)
  · rw [if_neg q] at h; cases h
theorem km_does (hV : Bd A) (hW : VA A) (hA : MS A τ) (hP : PotM P τ) (hI : PI B N P) (hB : PB (B + 2970) (N + 10)) (hB0 : 0 ≤ B) (hN : 0 ≤ N) {k m f : Int32} (hok : okA k m f) (h : ∀ τ', Km A (underF (lawF A) k m f (chO A f) P) τ τ' → post τ') : w_X7_does 20 post k m f τ := by
  obtain ⟨hk, hm, hf⟩ := id hok
  have hBB : PB B N := by unfold PB at hB ⊢; omega
  have hB1 : PB (B + 2970) N := by unfold PB at hB ⊢; omega
  have hmb := mins_bd (k := k) hm
  have hIa := PI_act (ch := chO A f) hB1 hB0 hI hok (fun c hc => chO_ok hW hc)
  unfold underF at h
  have last : ∀ (τ1 : St), Km A (actF k m f (chO A f) P) τ τ1 → ∃ n, wl_X7_does_102 20 post n k m 0 τ1 := by
    intro τ1 h1
    refine ⟨(minsF k m).toNatClampNeg + 1, ?_⟩
    rw [show (0 : Int32) = nI 0 from rfl]
    exact km_dloop (B := B + 2970) hV _ 0 _ τ1 N h1.1 h1.2.1 hIa (by unfold PB at hB ⊢; omega) hN (by omega) (fun _ => by omega) (by decide) (fun τ' h' => h τ' (Km_trans h1 h'))
  have st76 : ∀ (τ1 : St) (Q : Pt), Km A Q τ τ1 → (if k = 5 then up Q 3 f else Q) = actF k m f (chO A f) P → w_X7_does_76 20 post k m f τ1 := by
    intro τ1 Q h1 hQ
    unfold w_X7_does_76
    refine ⟨fun c σ3 e3 => ?_, fun c σ2 e2 => ?_⟩
    · rw [if_pos c] at hQ
      rw [e3]
      refine last _ ?_
      rw [← hQ]
      exact Km_trans h1 (Km_si (k := 13) (j := 3) h1.1 h1.2.1 (by decide) rfl)
    · rw [if_neg c] at hQ
      rw [e2]
      refine last _ ?_
      have h2 := Km_trans h1 (Km_si (k := 13) (j := 3) (v := gi τ1 13 13) h1.1 h1.2.1 (by decide) rfl)
      have e3 : gi τ1 13 13 = Q.1 3 := h1.2.1.1 13 (by decide)
      rw [e3, up_same] at h2
      rw [e3, ← hQ]
      exact h2
  have st61 : ∀ (τ1 : St) (Q : Pt), Km A Q τ τ1 → PI (B + 2970) N Q → (if k = 5 then up (beatF m Q) 3 f else if k = 3 then beatF m Q else Q) = actF k m f (chO A f) P → w_X7_does_61 20 post k m f τ1 := by
    intro τ1 Q h1 hQI hQ
    unfold w_X7_does_61
    refine ⟨fun c => ?_, fun c => ⟨fun d => ?_, fun d => ?_⟩⟩
    · refine km_beat h1.1 h1.2.1 hQI hm.1 (fun τ2 h2 => st76 τ2 _ (Km_trans h1 h2) ?_)
      rw [if_neg (by rw [c]; decide)]
      rw [if_neg (by rw [c]; decide), if_pos c] at hQ
      exact hQ
    · refine km_beat h1.1 h1.2.1 hQI hm.1 (fun τ2 h2 => st76 τ2 _ (Km_trans h1 h2) ?_)
      rw [if_pos d] at hQ ⊢
      exact hQ
    · refine st76 τ1 Q h1 ?_
      rw [if_neg d, if_neg c] at hQ
      rw [if_neg d]
      exact hQ
  have st42 : ∀ (τ1 : St) (Q : Pt), Km A Q τ τ1 → PI B N Q → (if k = 5 then up (beatF m Q) 3 f else if k = 3 then beatF m Q else if k = 2 then (match chO A f with | none => Q | some c => throwF c m Q) else Q) = actF k m f (chO A f) P → w_X7_does_42 20 post k m f τ1 := by
    intro τ1 Q h1 hQI hQ
    unfold w_X7_does_42
    refine ⟨fun c => ?_, fun c => ?_⟩
    · have n5 : ¬ k = 5 := by rw [c]; decide
      have n3 : ¬ k = 3 := by rw [c]; decide
      rw [if_neg n5, if_neg n3, if_pos c] at hQ
      refine m_isCheese hV h1.1 (fun j hj e => br_f (by decide) ?_) (fun e => br_t rfl ?_)
      · rw [e, chO_some hj hV.1] at hQ
        rw [e]
        have hQ : throwF (aCh A j) m Q = actF k m (nI j) (some (aCh A j)) P := hQ
        refine km_hand h1.1 h1.2.1 hQI hm.1 hj (by have := hV.1; omega) (fun τ2 h2 => ?_)
        have h3 := st61 τ2 (throwF (aCh A j) m Q) (Km_trans h1 h2) (PI_throw hB1 hB0 hQI (by omega) (hW.1 j hj))
        rw [if_neg n5, if_neg n3, e, chO_some hj hV.1] at h3
        exact h3 hQ
      · rw [chO_none e] at hQ
        refine st61 τ1 Q h1 (PI_mono hQI (by omega) (by omega)) ?_
        rw [if_neg n5, if_neg n3, chO_none e]
        exact hQ
    · refine st61 τ1 Q h1 (PI_mono hQI (by omega) (by omega)) ?_
      rw [if_neg c] at hQ
      exact hQ
  have st16 : ∀ (τ1 : St) (Q : Pt), Km A Q τ τ1 → PI B N Q → (if k = 4 then up Q 12 (if Q.1 12 + m < 99 then Q.1 12 + m else 99) else if k = 5 then up (beatF m Q) 3 f else if k = 3 then beatF m Q else if k = 2 then (match chO A f with | none => Q | some c => throwF c m Q) else Q) = actF k m f (chO A f) P → w_X7_does_16 20 post k m f τ1 := by
    intro τ1 Q h1 hQI hQ
    unfold w_X7_does_16
    refine ⟨fun c => ?_, fun c => ?_⟩
    · rw [if_pos c] at hQ
      refine m_held (fun σ4 e4 => ?_)
      have e7 : gi τ1 13 7 = Q.1 12 := h1.2.1.1 7 (by decide)
      have hs := hQI.2.1
      rw [e7, eq_starch hs hm] at e4
      rw [e4]
      refine st42 _ _ (Km_trans h1 (Km_si (k := 7) (j := 12) h1.1 h1.2.1 (by decide) rfl)) (PI_starch hBB hQI hm) ?_
      rw [if_neg (by rw [c]; decide), if_neg (by rw [c]; decide), if_neg (by rw [c]; decide)]
      exact hQ
    · rw [if_neg c] at hQ
      exact st42 τ1 Q h1 hQI hQ
  unfold w_X7_does
  refine ⟨fun c => ?_, fun c => ⟨fun d => ?_, fun d => ?_⟩⟩
  · refine km_pours hA hP hI hm (fun τ1 h1 => st16 τ1 _ h1 (PI_pour hBB hI hm) ?_)
    clear st16 st42 st61 st76 last h hIa hok
    subst c
    rw [if_neg (show ¬ (1 : Int32) = 4 by decide), if_neg (show ¬ (1 : Int32) = 5 by decide), if_neg (show ¬ (1 : Int32) = 3 by decide), if_neg (show ¬ (1 : Int32) = 2 by decide)]
    unfold actF
    rw [if_pos rfl]
  · refine km_pours hA hP hI hm (fun τ1 h1 => st16 τ1 _ h1 (PI_pour hBB hI hm) ?_)
    clear st16 st42 st61 st76 last h hIa hok
    subst d
    rw [if_pos rfl]
    unfold actF
    rw [if_neg (show ¬ (4 : Int32) = 1 by decide), if_neg (show ¬ (4 : Int32) = 2 by decide), if_neg (show ¬ (4 : Int32) = 3 by decide), if_pos rfl]
  · refine st16 τ P (Km_self hA hP) hI ?_
    clear st16 st42 st61 st76 last h hIa hok
    rw [if_neg d]
    unfold actF
    rw [if_neg c]
    by_cases c2 : k = 2
    · subst c2
      rw [if_neg (show ¬ (2 : Int32) = 5 by decide), if_neg (show ¬ (2 : Int32) = 3 by decide), if_pos rfl, if_pos rfl]
      cases chO A f <;> rfl
    rw [if_neg c2, if_neg c2]
    by_cases c3 : k = 3
    · subst c3
      rw [if_neg (show ¬ (3 : Int32) = 5 by decide), if_pos rfl, if_pos rfl]
    rw [if_neg c3, if_neg c3, if_neg d]
theorem km_act (hV : Bd A) (hW : VA A) (hA : MS A τ) (hP : PotM P τ) (hI : PI B N P) (hB : PB (B + 2970) (N + 10)) (hB0 : 0 ≤ B) (hN : 0 ≤ N) {i : Nat} (hi : i < aNa A) (h : ∀ τ', Km A (oneF A (lawF A) i P) τ τ' → post τ') : w_X7_doesAct 20 post (nI i) τ := by
  have h12 := hV.2.1
  obtain ⟨h1, h2, h3⟩ := hA.2.1.2 i hi
  unfold w_X7_doesAct
  have hin := vp_in_nI (n := i) (N := 12) (by omega) (by decide)
  refine ⟨hin, hin, hin, ?_⟩
  rw [nI_clamp (by omega), h1, h2, h3]
  exact km_does hV hW hA hP hI hB hB0 hN (hW.2.1 i hi) h
theorem PI_one {B N : Int} (hW : VA A) (hI : PI B N P) (hB : PB (B + 2970) (N + 10)) (hB0 : 0 ≤ B) (hN : 0 ≤ N) {L : Lw} {i : Nat} (hi : i < aNa A) : PI (B + 2970) (N + 10) (oneF A L i P) :=
  PI_under hB hB0 hN hI (hW.2.1 i hi) (fun c hc => chO_ok hW hc)
theorem PI_acts (hW : VA A) {L : Lw} : ∀ (k i : Nat) (P : Pt) (B N : Int), PI B N P → PB (B + 2970 * k) (N + 10 * k) → 0 ≤ B → 0 ≤ N → i + k ≤ aNa A → PI (B + 2970 * k) (N + 10 * k) (actsF A L i k P) := by
  intro k
  induction k with
  | zero => intro i P B N hI hB hB0 hN hi; exact PI_mono hI (by omega) (by omega)
  | succ k ih =>
    intro i P B N hI hB hB0 hN hi
    have h1 := PI_one (L := L) hW hI (by unfold PB at hB ⊢; omega) hB0 hN (i := i) (by omega)
    have h2 := ih (i + 1) _ (B + 2970) (N + 10) h1 (by unfold PB at hB ⊢; omega) (by omega) (by omega) (by omega)
    exact PI_mono h2 (by omega) (by omega)
theorem PI_beg (hW : VA A) : PI 0 0 (begF A) := PI_start (by unfold PB; omega) hW.2.2.1.2.1
theorem PI_cook (hV : Bd A) (hW : VA A) {n : Nat} (hn : n ≤ aNa A) : PI 36000 120 (cookF A n) := by
  have h12 := hV.2.1
  have h := PI_acts (L := lawF A) hW n 0 (begF A) 0 0 (PI_beg hW) (by unfold PB; omega) (by omega) (by omega) (by omega)
  exact PI_mono h (by omega) (by omega)
theorem km_acts (hV : Bd A) (hW : VA A) : ∀ (k i : Nat) (P : Pt) (τ : St) (B N : Int), MS A τ → PotM P τ → PI B N P → PB (B + 2970 * k) (N + 10 * k) → 0 ≤ B → 0 ≤ N → i + k ≤ aNa A → (∀ τ', Km A (actsF A (lawF A) i k P) τ τ' → post τ') → wl_X7_goes_6 20 post (k + 1) (nI (i + k)) (nI i) τ := by
  intro k
  induction k with
  | zero =>
    intro i P τ B N hA hP hI hB hB0 hN hi h
    exact br_t (Int32.le_refl _) (h τ (Km_self hA hP))
  | succ k ih =>
    intro i P τ B N hA hP hI hB hB0 hN hi h
    have h12 := hV.2.1
    show w_X7_goes_6 20 post _ (nI (i + (k + 1))) (nI i) τ
    unfold w_X7_goes_6
    refine br_f (nI_ge (by omega) (by omega)) ?_
    refine km_act hV hW hA hP hI (by unfold PB at hB ⊢; omega) hB0 hN (by omega) (fun τ' h' x3 e3 => ?_)
    rw [e3, nI_1]
    have h1 := PI_one (L := lawF A) hW hI (by unfold PB at hB ⊢; omega) hB0 hN (i := i) (by omega)
    have h2 := ih (i + 1) _ τ' (B + 2970) (N + 10) h'.1 h'.2.1 h1 (by unfold PB at hB ⊢; omega) (by omega) (by omega) (by omega) (fun τ'' h'' => h τ'' (Km_trans h' h''))
    rw [show i + 1 + k = i + (k + 1) by omega] at h2
    exact h2
theorem km_begins_loop {τ0 : St} (hA : MS A τ0) (h : ∀ τ', Km A (begF A) τ0 τ' → post τ') : ∀ (n k : Nat) (τ : St), k + n = 14 → (∀ j, j < k → gi τ 13 j = 0) → (∀ a j, a ≠ 13 → gi τ a j = gi τ0 a j) → wl_X7_begins_2 20 post (n + 1) (nI k) τ := by
  obtain ⟨-, -, -, m4, -⟩ := id hA
  intro n
  induction n with
  | zero =>
    intro k τ hk hz hf
    have hk : k = 14 := hk
    subst hk
    show w_X7_begins_2 20 post _ (nI 14) τ
    unfold w_X7_begins_2
    refine br_t (by decide) (fun σ2 e2 σ3 e3 σ4 e4 σ5 e5 σ6 e6 => ?_)
    have t0 : gi τ 2 0 = aTd A 0 := by rw [hf _ _ (by decide)]; exact m4 0 (by decide)
    have t1 : gi τ 2 1 = aTd A 1 := by rw [hf _ _ (by decide)]; exact m4 1 (by decide)
    have t2 : gi τ 2 2 = aTd A 2 := by rw [hf _ _ (by decide)]; exact m4 2 (by decide)
    have g6 : ∀ a j, gi σ6 a j = if a = 0 then (if j = 26 then 0 else gi τ 0 j) else if a = 13 then (if j = 13 then aTd A 0 else if j = 8 then 20 else if j = 6 then aTd A 2 else if j = 5 then aTd A 1 else gi τ 13 j) else gi τ a j := by
      intro a j
      have s2 : gi σ2 2 2 = aTd A 2 := by rw [e2]; exact t2
      have s4 : gi σ4 2 0 = aTd A 0 := by rw [e4, e3, e2]; exact t0
      rw [e6, e5, e4, e3, e2]
      rw [e4, e3, e2] at s4
      rw [e2] at s2
      simp only [gi_si'] at s2 s4 ⊢
      simp only [t1, t2, t0]
      by_cases a0 : a = 0
      · subst a0; simp
      · by_cases a13 : a = 13
        · subst a13; simp
        · simp [a0, a13]
    refine h σ6 ⟨MS_frame hA (fun a k h8 h9 h13 h19 h0 => ?_), ⟨fun k hk => ?_, ?_, fun hz => absurd rfl hz, Or.inl rfl⟩, ?_⟩
    · rw [g6]
      by_cases a0 : a = 0
      · have hz := h0 a0
        unfold zk at hz
        rw [if_pos a0, if_neg (by omega), hf _ _ (by decide), a0]
      · rw [if_neg a0, if_neg h13]
        exact hf a k h13
    · rw [g6, if_neg (by decide), if_pos rfl]
      rcases (show k = 0 ∨ k = 1 ∨ k = 2 ∨ k = 3 ∨ k = 4 ∨ k = 5 ∨ k = 6 ∨ k = 7 ∨ k = 8 ∨ k = 9 ∨ k = 10 ∨ k = 11 ∨ k = 12 ∨ k = 13 by omega) with rfl | rfl | rfl | rfl | rfl | rfl | rfl | rfl | rfl | rfl | rfl | rfl | rfl | rfl
      · exact hz _ (by decide)
      · exact hz _ (by decide)
      · exact hz _ (by decide)
      · exact hz _ (by decide)
      · exact hz _ (by decide)
      · rfl
      · rfl
      · exact hz _ (by decide)
      · rfl
      · exact hz _ (by decide)
      · exact hz _ (by decide)
      · exact hz _ (by decide)
      · exact hz _ (by decide)
      · rfl
    · rw [g6, if_pos rfl, if_pos rfl]
      rfl
    · rw [g6, if_pos rfl, if_neg (by decide)]
      exact hf _ _ (by decide)
  | succ n ih =>
    intro k τ hk hz hf
    show w_X7_begins_2 20 post _ (nI k) τ
    unfold w_X7_begins_2
    refine br_f (nI_ge (b := 14) (by omega) (by decide)) ⟨vp_in_nI (by omega) (by decide), fun σ7 e7 x8 e8 => ?_⟩
    rw [nI_clamp (by omega)] at e7
    rw [e8, nI_1]
    refine ih (k + 1) σ7 (by omega) (fun j hj => ?_) (fun a j ha => ?_)
    · rw [e7, gi_si', if_pos rfl]
      by_cases e : j = k
      · rw [if_pos e]
      · rw [if_neg e]; exact hz j (by omega)
    · rw [e7, gi_si', if_neg ha]
      exact hf a j ha
theorem km_begins (hA : MS A τ) (h : ∀ τ', Km A (begF A) τ τ' → post τ') : w_X7_begins 20 post τ :=
  ⟨15, km_begins_loop hA h 14 0 τ rfl (fun j hj => absurd hj (by omega)) (fun _ _ _ => rfl)⟩
theorem km_goes (hV : Bd A) (hW : VA A) (hA : MS A τ) {n : Nat} (hn : n ≤ aNa A) {b : Int32} (hb : b = nI n) (h : ∀ τ', Km A (cookF A n) τ τ' → post τ') : w_X7_goes 20 post b τ := by
  subst hb
  have h12 := hV.2.1
  unfold w_X7_goes
  refine km_begins hA (fun τ1 h1 => ⟨n + 1, ?_⟩)
  have h2 := km_acts (post := post) hV hW n 0 (begF A) τ1 0 0 h1.1 h1.2.1 (PI_beg hW) (by unfold PB; omega) (by omega) (by omega) (by omega) (fun τ2 h2 => h τ2 (Km_trans h1 h2))
  rw [Nat.zero_add] at h2
  exact h2
end MK
