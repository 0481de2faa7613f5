/-! the component's runs over the relation -/
def chO (A : Ab) (s : Int32) : Option (Nat → Int32) := if 0 ≤ s.toInt ∧ s.toInt < (aNc A : Int) then some (aCh A s.toInt.toNat) else none
def oneF (A : Ab) (L : Lw) (i : Nat) (P : Pt) : Pt := underF L (aAc A i 0) (aAc A i 1) (aAc A i 2) (chO A (aAc A i 2)) P
def actsF (A : Ab) (L : Lw) : Nat → Nat → Pt → Pt
  | _, 0, P => P
  | i, k + 1, P => actsF A L (i + 1) k (oneF A L i P)
def lawF (A : Ab) : Lw := aLw A (aLn A)
def begF (A : Ab) : Pt := startF (aTd A 0) (aTd A 1) (aTd A 2)
def cookF (A : Ab) (n : Nat) : Pt := actsF A (lawF A) 0 n (begF A)
theorem idx_cases (s : Int32) (n : Nat) (hn : n < 2 ^ 31) : (∃ j, j < n ∧ s = nI j) ∨ (s.toInt < 0 ∨ (n : Int) ≤ s.toInt) := by
  by_cases h : 0 ≤ s.toInt ∧ s.toInt < (n : Int)
  · refine Or.inl ⟨s.toInt.toNat, by omega, ieq.mpr ?_⟩
    rw [nI_toInt (by omega)]
    omega
  · exact Or.inr (by omega)
theorem chO_some {A : Ab} {j : Nat} (h : j < aNc A) (h4 : aNc A ≤ 4) : chO A (nI j) = some (aCh A j) := by
  unfold chO
  have e : (nI j).toInt = (j : Int) := nI_toInt (by omega)
  rw [e, if_pos (by omega)]
  rfl
theorem chO_none {A : Ab} {s : Int32} (h : s.toInt < 0 ∨ (aNc A : Int) ≤ s.toInt) : chO A s = none := by
  unfold chO
  rw [if_neg (by omega)]
/-- what a run on pot o leaves -/
def Kp (M : Nat) (A : Ab) (o : Nat) (L : Lw) (P : Pt) (τ τ' : St) : Prop := CS M A τ' ∧ PotAt M o L P τ' ∧ (∀ L' Q, PotAt M (26 - o) L' Q τ → PotAt M (26 - o) L' Q τ') ∧ ∀ k, gi τ' 16 k = gi τ 16 k
theorem Kp_trans {M : Nat} {A : Ab} {o : Nat} {L L' : Lw} {P Q : Pt} {τ τ' τ'' : St} (h1 : Kp M A o L P τ τ') (h2 : Kp M A o L' Q τ' τ'') : Kp M A o L' Q τ τ'' :=
  ⟨h2.1, h2.2.1, fun L' Q h => h2.2.2.1 L' Q (h1.2.2.1 L' Q h), fun k => (h2.2.2.2 k).trans (h1.2.2.2 k)⟩
theorem Kp_pu {M : Nat} {A : Ab} {o : Nat} {L : Lw} {P Q : Pt} {τ : St} {f : Nat → Int32} (ho : o = 12 ∨ o = 14) (hA : CS M A τ) (hP : PotAt M o L P τ) : Kp M A o L Q τ (pu τ o Q f) :=
  ⟨CS_pu ho hA, PotAt_pu (by omega) hP, fun L' Q' h => PotAt_pu' (by omega) (by omega) h, fun k => gi_pu_n (by omega) (by omega)⟩
theorem Kp_self {M : Nat} {A : Ab} {o : Nat} {L : Lw} {P : Pt} {τ : St} (hA : CS M A τ) (hP : PotAt M o L P τ) : Kp M A o L P τ τ := ⟨hA, hP, fun _ _ h => h, fun _ => rfl⟩
theorem kd12 (M o : Nat) (hM : 53 ≤ M) (ho : o = 12 ∨ o = 14) : kdC o = 3 ∧ o < M := by
  rcases ho with rfl | rfl
  · exact ⟨rfl, by omega⟩
  · exact ⟨rfl, by omega⟩
theorem kdAct {M i : Nat} (hM : 53 ≤ M) (hi : i < 12) : kdC (33 + i) = 0 ∧ 33 + i < M := by
  have key : ∀ i, i < 12 → kdC (33 + i) = 0 := by decide +kernel
  exact ⟨key i hi, by omega⟩
theorem kdCh {M i : Nat} (hM : 53 ≤ M) (hi : i < 4) : kdC (17 + 4 * i) = 1 ∧ 17 + 4 * i < M := by
  have key : ∀ i, i < 4 → kdC (17 + 4 * i) = 1 := by decide +kernel
  exact ⟨key i hi, by omega⟩
theorem kdSh {M i : Nat} (hM : 53 ≤ M) (hi : i < 4) : kdC (45 + 2 * i) = 5 ∧ 45 + 2 * i < M := by
  have key : ∀ i, i < 4 → kdC (45 + 2 * i) = 5 := by decide +kernel
  exact ⟨key i hi, by omega⟩
section CK
variable {M : Nat} {A : Ab} {post : St → Prop} {posti : Int32 → St → Prop} {postq : Option Nat → St → Prop} {τ : St} {o : Nat} {L : Lw} {P : Pt}
theorem k_beat (ho : o = 12 ∨ o = 14) (hA : CS M A τ) (hP : PotAt M o L P τ) {a : Int32} (h : ∀ τ', Kp M A o L (beatF a P) τ τ' → post τ') : w_X3_beat M post o a τ := by
  have hM := hA.2.2.2.2.2.2.2.1
  have hk := kd12 M o hM ho
  rw [PotAt_eq hP]
  exact c_beat hk (h _ (Kp_pu ho hA hP))
theorem k_minute (ho : o = 12 ∨ o = 14) (hA : CS M A τ) (hP : PotAt M o L P τ) {a : Int32} (h : ∀ τ', Kp M A o L (minuteF L a P) τ τ' → post τ') : w_X3_passMinute M post o a τ := by
  have hM := hA.2.2.2.2.2.2.2.1
  have hk := kd12 M o hM ho
  obtain ⟨-, -, r, hr, hL⟩ := id hP
  rw [PotAt_eq hP]
  exact c_minute hk (by omega) hr hL (fun f' => h _ (Kp_pu ho hA hP))
theorem k_holds (ho : o = 12 ∨ o = 14) (hA : CS M A τ) (hP : PotAt M o L P τ) (h : posti (holdF P) τ) : w_X3_holdsNow M posti o τ := by
  have hM := hA.2.2.2.2.2.2.2.1
  have hk := kd12 M o hM ho
  rw [PotAt_eq hP] at h ⊢
  exact c_holds hk h
theorem k_thick (ho : o = 12 ∨ o = 14) (hA : CS M A τ) (hP : PotAt M o L P τ) (h : posti (thickF P) τ) : w_X3_thickness M posti o τ := by
  have hM := hA.2.2.2.2.2.2.2.1
  have hk := kd12 M o hM ho
  rw [PotAt_eq hP] at h ⊢
  exact c_thick hk h
theorem k_long (ho : o = 12 ∨ o = 14) (hA : CS M A τ) (hP : PotAt M o L P τ) (h : ∀ τ', Kp M A o L P τ τ' → posti (longF L P) τ') : w_X3_threadsLong M posti o τ := by
  have hM := hA.2.2.2.2.2.2.2.1
  have hk := kd12 M o hM ho
  obtain ⟨-, -, r, hr, hL⟩ := id hP
  rw [PotAt_eq hP]
  exact c_long hk (by omega) hr hL (fun f' => h _ (Kp_pu ho hA hP))
theorem k_sort (ho : o = 12 ∨ o = 14) (hA : CS M A τ) (hP : PotAt M o L P τ) (h : ∀ τ', Kp M A o L P τ τ' → posti (sortF L P) τ') : w_X3_sortNow M posti o τ := by
  have hM := hA.2.2.2.2.2.2.2.1
  have hk := kd12 M o hM ho
  obtain ⟨-, -, r, hr, hL⟩ := id hP
  rw [PotAt_eq hP]
  exact c_sort hk (by omega) hr hL (fun f' => h _ (Kp_pu ho hA hP))
theorem k_tell (ho : o = 12 ∨ o = 14) (hA : CS M A τ) (hP : PotAt M o L P τ) {w : Int32} (h : ∀ τ', Kp M A o L P τ τ' → posti (tellF L P w) τ') : w_X3_tell M posti o w τ := by
  have hM := hA.2.2.2.2.2.2.2.1
  have hk := kd12 M o hM ho
  obtain ⟨-, -, r, hr, hL⟩ := id hP
  rw [PotAt_eq hP]
  exact c_tell hk (by omega) hr hL (fun f' => h _ (Kp_pu ho hA hP))
theorem c_cheeseAt (hA : CS M A τ) {s : Int32} (h1 : ∀ j, j < aNc A → s = nI j → postq (some (17 + 4 * j)) τ) (h2 : (s.toInt < 0 ∨ (aNc A : Int) ≤ s.toInt) → postq none τ) : w_X6_cheeseAt M postq s τ := by
  have hM := hA.2.2.2.2.2.2.2.1
  obtain ⟨⟨c1, c1b, -⟩, -⟩ := hA
  unfold w_X6_cheeseAt
  rw [c1]
  have e := nI_toInt (n := aNc A) (by omega)
  rcases idx_cases s (aNc A) (by omega) with ⟨j, hj, rfl⟩ | h
  · refine br_f (nI_pos (by omega)) (br_f (nI_ge hj (by omega)) (br_f (nI_ge (b := 4) (by omega) (by decide)) ⟨vp_in_nI (by omega) (by decide), fun o4 e4 => ?_⟩))
    rw [nI_clamp (by omega)] at e4
    rw [e4]
    exact ⟨kdCh hM (by omega), h1 j hj rfl⟩
  · refine ⟨fun _ => h2 h, fun q => br_t (il.mpr ?_) (h2 h)⟩
    have hq : ¬ s.toInt < (0 : Int32).toInt := fun q2 => q (ilt.mpr q2)
    have z := z0'
    omega
theorem c_actAt (hA : CS M A τ) {s : Int32} (h1 : ∀ j, j < aNa A → s = nI j → postq (some (33 + j)) τ) (h2 : (s.toInt < 0 ∨ (aNa A : Int) ≤ s.toInt) → postq none τ) : w_X6_actAt M postq s τ := by
  have hM := hA.2.2.2.2.2.2.2.1
  obtain ⟨-, ⟨c1, c1b, -⟩, -⟩ := hA
  unfold w_X6_actAt
  rw [c1]
  have e := nI_toInt (n := aNa A) (by omega)
  rcases idx_cases s (aNa A) (by omega) with ⟨j, hj, rfl⟩ | h
  · refine br_f (nI_pos (by omega)) (br_f (nI_ge hj (by omega)) (br_f (nI_ge (b := 12) (by omega) (by decide)) ⟨vp_in_nI (by omega) (by decide), fun o4 e4 => ?_⟩))
    rw [nI_clamp (by omega)] at e4
    rw [e4]
    exact ⟨kdAct hM (by omega), h1 j hj rfl⟩
  · refine ⟨fun _ => h2 h, fun q => br_t (il.mpr ?_) (h2 h)⟩
    have hq : ¬ s.toInt < (0 : Int32).toInt := fun q2 => q (ilt.mpr q2)
    have z := z0'
    omega
theorem c_lawAt (hA : CS M A τ) {t : Nat} (ht : t < aNl A) (h : postq (gr τ 3 t) τ) : w_X6_lawAt M postq (nI t) τ := by
  obtain ⟨-, -, ⟨c3, c3b, -⟩, -⟩ := hA
  unfold w_X6_lawAt
  rw [c3]
  refine br_f (nI_pos (by omega)) (br_f (nI_ge ht (by omega)) (br_f (nI_ge (b := 6) (by omega) (by decide)) ⟨vp_in_nI (by omega) (by decide), fun q e => ?_⟩))
  rw [e, nI_clamp (by omega)]
  exact h
theorem k_begin (hA : CS M A τ) {t : Nat} (ht : t < aNl A) {a b c : Int32} (h : ∀ τ', Kp M A 12 (aLw A t) (startF a b c) τ τ' → post τ') : w_X3_begin M post 12 a b c (gr τ 3 t) τ := by
  have hM := hA.2.2.2.2.2.2.2.1
  have hk := kd12 M 12 hM (Or.inl rfl)
  obtain ⟨r, hr, hL⟩ := hA.2.2.1.2.2.2.2 t ht
  have h8 := hA.2.2.2.2.2.2.2.2.2
  have hrM : r < M := hL.2.1
  rw [hr]
  rw [← pu_self τ 12]
  refine c_begin hk ?_
  have hσ : ∀ a k, gi (sr τ 12 1 (some r)) a k = gi τ a k := fun _ _ => rfl
  have hgr : ∀ a k, a ≠ 12 → gr (sr τ 12 1 (some r)) a k = gr τ a k := fun a k ha => by simp [gr, sr, ha]
  have hg12 : gr (sr τ 12 1 (some r)) 12 1 = some r := by simp [gr, sr]
  refine h _ ⟨CS_frame hA (fun a k ha => by rw [gi_pu_n (by omega) (by omega)]; rfl) (fun k => by rw [gr_pu]; exact hgr 3 k (by omega)) (fun r' hr' => ?_) (fun r' hr' => ?_) (fun _ => rfl), ⟨fun k hk => gi_pu_o hk, gl_pu, r, by rw [gr_pu]; exact hg12, LawAt_frame hL (Nat.le_refl M) (fun a k h1 _ => by rw [gi_pu_n (by omega) (by omega)]; rfl) (fun a _ => rfl)⟩, fun L' Q hq => ?_, fun k => by rw [gi_pu_n (by omega) (by omega)]; rfl⟩
  · rw [gr_pu, hg12] at hr'
    cases hr'
    exact hrM
  · rw [gr_pu, hgr 14 1 (by omega)] at hr'
    exact h8.2.2 r' hr'
  · obtain ⟨h1, h2, r', h3, h4⟩ := hq
    exact ⟨fun k hk => by rw [gi_pu_n (by omega) (by omega)]; exact h1 k hk, by rw [gl_pu_n (by omega)]; exact h2, r', by rw [gr_pu, hgr _ _ (by omega)]; exact h3, LawAt_frame h4 (Nat.le_refl M) (fun a k h1 _ => by rw [gi_pu_n (by omega) (by omega)]; rfl) (fun a _ => rfl)⟩
theorem k_beginPot (hA : CS M A τ) (h : ∀ τ', Kp M A 12 (lawF A) (begF A) τ τ' → post τ') : w_X6_beginPot M post τ := by
  obtain ⟨-, -, ⟨c3, c3b, c3c, c3d, -⟩, c4, -⟩ := id hA
  unfold w_X6_beginPot
  rw [c3c]
  refine c_lawAt hA c3d ?_
  rw [c4 0 (by decide), c4 1 (by decide), c4 2 (by decide)]
  exact k_begin hA c3d h
theorem chO_hq (ho : o = 12 ∨ o = 14) (hA : CS M A τ) {s : Int32} {pp : Option Nat → St → Prop} (h : ∀ q, ((q = none ∧ chO A s = none) ∨ ∃ oc c, q = some oc ∧ chO A s = some c ∧ (kdC oc = 1 ∧ oc < M) ∧ (oc + 1 ≠ o ∧ oc + 1 ≠ o + 1) ∧ ∀ k, k < 5 → gi τ (oc + 1) k = c k) → pp q τ) : w_X6_cheeseAt M pp s τ := by
  have hM := hA.2.2.2.2.2.2.2.1
  have hc := hA.1
  refine c_cheeseAt hA (fun j hj e => h _ (Or.inr ⟨17 + 4 * j, aCh A j, rfl, ?_, kdCh hM (by have := hc.2.1; omega), by omega, fun k hk => ?_⟩)) (fun e => h _ (Or.inl ⟨rfl, chO_none e⟩))
  · rw [e]; exact chO_some hj hc.2.1
  · rw [show 17 + 4 * j + 1 = 18 + 4 * j by omega]; exact hc.2.2 j k hj hk
theorem k_under (ho : o = 12 ∨ o = 14) (hA : CS M A τ) (hP : PotAt M o L P τ) {i : Nat} (hi : i < aNa A) {q : Option Nat} (hq : (q = none ∧ chO A (aAc A i 2) = none) ∨ ∃ oc c, q = some oc ∧ chO A (aAc A i 2) = some c ∧ (kdC oc = 1 ∧ oc < M) ∧ (oc + 1 ≠ o ∧ oc + 1 ≠ o + 1) ∧ ∀ k, k < 5 → gi τ (oc + 1) k = c k) (h : ∀ τ', Kp M A o L (oneF A L i P) τ τ' → post τ') : w_X3_undergo M post o (33 + i) q τ := by
  have hM := hA.2.2.2.2.2.2.2.1
  have hk := kd12 M o hM ho
  obtain ⟨-, -, r, hr, hL⟩ := id hP
  obtain ⟨-, ⟨c2, c2b, c2c⟩, -⟩ := id hA
  have hτ := PotAt_eq hP
  have h0 := c2c i 0 hi (by decide)
  have h1 := c2c i 1 hi (by decide)
  have h2 := c2c i 2 hi (by decide)
  rw [hτ]
  refine c_under hk (by omega) hr hL (kdAct hM (by omega)) (by omega) hq (fun f' => ?_)
  rw [h0, h1, h2]
  exact h _ (Kp_pu ho hA hP)
theorem k_acts : ∀ (k i n : Nat) (P : Pt) (τ : St), CS M A τ → PotAt M 12 L P τ → i + k = n → n ≤ aNa A → (∀ τ', Kp M A 12 L (actsF A L i k P) τ τ' → post τ') → wl_X6_runActs_2 M post (k + 1) (nI n) (nI i) τ := by
  intro k
  induction k with
  | zero =>
    intro i n P τ hA hP hin hn h
    have hin : i = n := hin
    subst hin
    exact br_t (Int32.le_refl _) (h τ (Kp_self hA hP))
  | succ k ih =>
    intro i n P τ hA hP hin hn h
    have h12 := hA.2.1.2.1
    show w_X6_runActs_2 M post _ (nI n) (nI i) τ
    unfold w_X6_runActs_2
    refine br_f (nI_ge (by omega) (by omega)) ?_
    refine c_actAt hA (fun j hj e => ⟨fun e2 => (by cases e2), fun o4 e2 => ?_⟩) (fun e => ?_)
    · have hij : j = i := by
        have := nI_toInt (n := i) (by omega)
        have h2 := nI_toInt (n := j) (by omega)
        rw [e] at this
        omega
      subst hij
      cases e2
      refine ⟨kdAct hA.2.2.2.2.2.2.2.1 (by omega), ?_⟩
      rw [hA.2.1.2.2 j 2 hj (by decide)]
      refine chO_hq (o := 12) (Or.inl rfl) hA (fun q hq => ?_)
      refine k_under (Or.inl rfl) hA hP hj hq (fun τ' h' x10 e10 => ?_)
      rw [e10, nI_1]
      exact ih (j + 1) n _ τ' h'.1 h'.2.1 (by omega) hn (fun τ'' h'' => h τ'' (Kp_trans h' h''))
    · have := nI_toInt (n := i) (by omega)
      omega
theorem k_runActs (hA : CS M A τ) (hP : PotAt M 12 L P τ) {i n : Nat} (hin : i ≤ n) (hn : n ≤ aNa A) {a b : Int32} (ha : a = nI i) (hb : b = nI n) (h : ∀ τ', Kp M A 12 L (actsF A L i (n - i) P) τ τ' → post τ') : w_X6_runActs M post a b τ := by
  subst ha hb
  unfold w_X6_runActs
  exact ⟨(n - i) + 1, k_acts (n - i) i n P τ hA hP (by omega) hn h⟩
theorem k_cook (hA : CS M A τ) {n : Nat} (hn : n ≤ aNa A) {b : Int32} (hb : b = nI n) (h : ∀ τ', Kp M A 12 (lawF A) (cookF A n) τ τ' → post τ') : w_X6_cookActs M post b τ := by
  unfold w_X6_cookActs
  refine k_beginPot hA (fun τ1 h1 => ?_)
  refine k_runActs h1.1 h1.2.1 (Nat.zero_le n) hn rfl hb (fun τ2 h2 => ?_)
  exact h τ2 (Kp_trans h1 h2)
end CK
