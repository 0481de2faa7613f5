/-! what a pot may still be put through: k acts (or handfuls), m minutes -/
def PIr (k m : Nat) (P : Pt) : Prop := ∃ B N : Int, PI B N P ∧ 0 ≤ B ∧ 0 ≤ N ∧ B + 2970 * k ≤ 100000 ∧ N + 10 * k + m ≤ 2000
section PIR
variable {A : Ab} {P : Pt} {k m : Nat} {L : Lw}
theorem PIr_mono {k' m' : Nat} (h : PIr k m P) (hk : k' ≤ k) (hm : m' ≤ m) : PIr k' m' P := by
  obtain ⟨B, N, h1, h2, h3, h4, h5⟩ := h
  exact ⟨B, N, h1, h2, h3, by omega, by omega⟩
theorem PIr_beg (hW : VA A) : PIr 33 1600 (begF A) := ⟨0, 0, PI_beg hW, by omega, by omega, by omega, by omega⟩
theorem PIr_start {a b c : Int32} (hb : 0 ≤ b.toInt ∧ b.toInt ≤ 99) : PIr 33 1600 (startF a b c) := ⟨0, 0, PI_start (by unfold PB; omega) hb, by omega, by omega, by omega, by omega⟩
theorem PIr_one (hW : VA A) {i : Nat} (hi : i < aNa A) (h : PIr (k + 1) m P) : PIr k m (oneF A L i P) := by
  obtain ⟨B, N, h1, h2, h3, h4, h5⟩ := h
  exact ⟨B + 2970, N + 10, PI_one hW h1 (by unfold PB; omega) h2 h3 hi, by omega, by omega, by omega, by omega⟩
theorem PIr_under (hW : VA A) {a b f : Int32} (hok : okA a b f) (h : PIr (k + 1) m P) : PIr k m (underF L a b f (chO A f) P) := by
  obtain ⟨B, N, h1, h2, h3, h4, h5⟩ := h
  exact ⟨B + 2970, N + 10, PI_under (by unfold PB; omega) h2 h3 h1 hok (fun c hc => chO_ok hW hc), by omega, by omega, by omega, by omega⟩
theorem PIr_acts (hW : VA A) : ∀ (n i j : Nat) (P : Pt), i + n ≤ aNa A → PIr (j + n) m P → PIr j m (actsF A L i n P) := by
  intro n
  induction n with
  | zero => intro i j P hi h; exact h
  | succ n ih => intro i j P hi h; exact ih (i + 1) j _ (by omega) (PIr_one hW (by omega) h)
theorem PIr_cook (hV : Bd A) (hW : VA A) {n : Nat} (hn : n ≤ aNa A) : PIr 21 1600 (cookF A n) := by
  have h12 := hV.2.1
  exact PIr_acts hW n 0 21 _ (by omega) (PIr_mono (PIr_beg hW) (by omega) (by omega))
theorem PIr_min {st : Int32} (h : PIr k (m + 1) P) : PIr k m (minuteF L st P) := by
  obtain ⟨B, N, h1, h2, h3, h4, h5⟩ := h
  exact ⟨B, N + 1, PI_minute (by unfold PB; omega) h3 h1, by omega, by omega, by omega, by omega⟩
theorem PIr_beat {a : Int32} (ha : 0 ≤ a.toInt ∧ a.toInt ≤ 9) (h : PIr k m P) : PIr k m (beatF a P) := by
  obtain ⟨B, N, h1, h2, h3, h4, h5⟩ := h
  exact ⟨B, N, PI_beat (by unfold PB; omega) h1 ha, h2, h3, h4, h5⟩
theorem PIr_throw {a : Int32} {ch : Nat → Int32} (ha : 0 ≤ a.toInt ∧ a.toInt ≤ 30) (hch : okC ch) (h : PIr (k + 1) m P) : PIr k m (throwF ch a P) := by
  obtain ⟨B, N, h1, h2, h3, h4, h5⟩ := h
  exact ⟨B + 2970, N, PI_throw (by unfold PB; omega) h2 h1 ha hch, by omega, by omega, by omega, by omega⟩
end PIR
section KQ
variable {A : Ab} {post : St → Prop} {posti : Int32 → St → Prop} {τ : St} {P : Pt} {k m : Nat}
theorem q_minute (hV : Bd A) (hA : MS A τ) (hP : PotM P τ) (hR : PIr k (m + 1) P) {a : Int32} (h : ∀ τ', Km A (minuteF (lawF A) a P) τ τ' → post τ') : w_X7_minute 20 post a τ := by
  obtain ⟨B, N, h1, h2, h3, h4, h5⟩ := hR
  exact km_minute hV hA hP h1 (by unfold PB; omega) h3 h
theorem q_act (hV : Bd A) (hW : VA A) (hA : MS A τ) (hP : PotM P τ) (hR : PIr (k + 1) m P) {i : Nat} (hi : i < aNa A) (h : ∀ τ', Km A (oneF A (lawF A) i P) τ τ' → post τ') : w_X7_doesAct 20 post (nI i) τ := by
  obtain ⟨B, N, h1, h2, h3, h4, h5⟩ := hR
  exact km_act hV hW hA hP h1 (by unfold PB; omega) h2 h3 hi h
theorem q_does (hV : Bd A) (hW : VA A) (hA : MS A τ) (hP : PotM P τ) (hR : PIr (k + 1) m P) {a b f : Int32} (hok : okA a b f) (h : ∀ τ', Km A (underF (lawF A) a b f (chO A f) P) τ τ' → post τ') : w_X7_does 20 post a b f τ := by
  obtain ⟨B, N, h1, h2, h3, h4, h5⟩ := hR
  exact km_does hV hW hA hP h1 (by unfold PB; omega) h2 h3 hok h
theorem q_beat (hA : MS A τ) (hP : PotM P τ) (hR : PIr k m P) {a : Int32} (ha : 0 ≤ a.toInt) (h : ∀ τ', Km A (beatF a P) τ τ' → post τ') : w_X7_strokesOf 20 post a τ := by
  obtain ⟨B, N, h1, h2, h3, h4, h5⟩ := hR
  exact km_beat hA hP h1 ha h
theorem q_hand (hV : Bd A) (hA : MS A τ) (hP : PotM P τ) (hR : PIr k m P) {a : Int32} (ha : 0 ≤ a.toInt) {j : Nat} (hj : j < aNc A) (h : ∀ τ', Km A (throwF (aCh A j) a P) τ τ' → post τ') : w_X7_handfuls 20 post (nI j) a τ := by
  obtain ⟨B, N, h1, h2, h3, h4, h5⟩ := hR
  exact km_hand hA hP h1 ha hj (by have := hV.1; omega) h
theorem q_sort (hV : Bd A) (hA : MS A τ) (hP : PotM P τ) (hR : PIr k m P) (h : ∀ τ', Km A P τ τ' → posti (sortF (lawF A) P) τ') : w_X7_sortNow 20 posti τ := by
  obtain ⟨B, N, h1, h2, h3, h4, h5⟩ := hR
  exact km_sort hV hA hP (by unfold PB; omega) h1 h
theorem q_holds (hV : Bd A) (hA : MS A τ) (hP : PotM P τ) (hR : PIr k m P) (h : ∀ τ', Km A P τ τ' → posti (holdF P) τ') : w_X7_holds 20 posti τ := by
  obtain ⟨B, N, h1, h2, h3, h4, h5⟩ := hR
  exact km_holds hV hA hP (by unfold PB; omega) h1 h
theorem q_long (hV : Bd A) (hA : MS A τ) (hP : PotM P τ) (hR : PIr k m P) (h : ∀ τ', Km A P τ τ' → posti (longF (lawF A) P) τ') : w_X7_threads 20 posti τ := by
  obtain ⟨B, N, h1, h2, h3, h4, h5⟩ := hR
  exact km_long hV hA hP h1 h
theorem q_told (hV : Bd A) (hA : MS A τ) (hP : PotM P τ) (hR : PIr k m P) {w : Int32} (hw : 0 ≤ w.toInt ∧ w.toInt ≤ 13) (h : ∀ τ', Km A P τ τ' → posti (tellF (lawF A) P w) τ') : w_X7_potTold 20 posti w τ := by
  obtain ⟨B, N, h1, h2, h3, h4, h5⟩ := hR
  exact km_told hV hA hP (by unfold PB; omega) h1 hw h
theorem PotM_oil (hP : PotM P τ) : gi τ 13 4 = P.1 11 := hP.1 4 (by decide)
end KQ
/-! the pot, the hour -/
section POTS
variable {M : Nat} {A : Ab} {post : St → Prop} {posti : Int32 → St → Prop} {τ : St} {P : Pt}
def potF (A : Ab) (n w : Int32) : Int32 := if 0 ≤ n.toInt ∧ n.toInt ≤ (aNa A : Int) then (if 0 ≤ w.toInt ∧ w.toInt ≤ 13 then tellF (lawF A) (cookF A n.toInt.toNat) w else -7) else -5
theorem c_pot (hA : CS M A τ) {n w : Int32} (h : ∀ τ', CS M A τ' → posti (potF A n w) τ') : w_X6_pot M posti n w τ := by
  have h12 := hA.2.1.2.1
  unfold potF at h
  unfold w_X6_pot
  refine c_hasActs hA (fun c => br_f (by decide) (c_canTell (fun d => br_f (by decide) ?_) (fun d => br_t rfl ?_))) (fun c => br_t rfl ?_)
  · rw [if_pos c, if_pos d] at h
    obtain ⟨j, hj, rfl⟩ := as_nI c
    rw [i_nI (by omega)] at h
    exact k_cook hA hj rfl (fun τ1 h1 => k_tell (Or.inl rfl) h1.1 h1.2.1 (fun τ2 h2 => h τ2 h2.1))
  · rw [if_pos c, if_neg d] at h; exact h τ hA
  · rw [if_neg c] at h; exact h τ hA
theorem m_pot (hV : Bd A) (hW : VA A) (hA : MS A τ) {n w : Int32} (h : ∀ τ', MS A τ' → posti (potF A n w) τ') : w_X7_pot 20 posti n w τ := by
  have h12 := hV.2.1
  unfold potF at h
  unfold w_X7_pot
  refine m_areActs hV hA (fun c => br_f (by decide) (m_in' (lo := 0) (hi := 13) (by decide) (by decide) (fun d => br_f (by decide) ?_) (fun d => br_t rfl ?_))) (fun c => br_t rfl ?_)
  · rw [if_pos c, if_pos d] at h
    obtain ⟨j, hj, rfl⟩ := as_nI c
    rw [i_nI (by omega)] at h
    exact km_goes hV hW hA hj rfl (fun τ1 h1 => q_told hV h1.1 h1.2.1 (PIr_cook hV hW hj) d (fun τ2 h2 => h τ2 h2.1))
  · rw [if_pos c, if_neg d] at h; exact h τ hA
  · rw [if_neg c] at h; exact h τ hA
/-- how many minutes on end it holds -/
def hourF (L : Lw) (st : Int32) : Nat → Nat → Pt → Int32
  | 0, _, _ => 60
  | k + 1, j, P => if holdF (minuteF L st P) = 0 then nI j else hourF L st k (j + 1) (minuteF L st P)
theorem c_hourL (hA : CS M A τ) {st v2 : Int32} (hst : st = if v2 = 1 then 1 else 0) : ∀ (k j : Nat) (P : Pt) (τ : St), j + k = 60 → CS M A τ → PotAt M 12 (lawF A) P τ → (∀ τ', CS M A τ' → posti (hourF (lawF A) st k j P) τ') → wl_X6_hour_40 M posti (k + 1) v2 (nI j) τ := by
  intro k
  induction k with
  | zero =>
    intro j P τ hj hA hP h
    have hj : j = 60 := hj
    subst hj
    exact br_t (by decide) (h τ hA)
  | succ k ih =>
    intro j P τ hj hA hP h
    show w_X6_hour_40 M posti _ v2 (nI j) τ
    unfold w_X6_hour_40
    have go : w_X6_hour_60 M posti (wl_X6_hour_40 M posti (k + 1)) v2 (nI j) st τ := by
      unfold w_X6_hour_60
      refine k_minute (Or.inl rfl) hA hP (fun τ1 h1 => k_holds (Or.inl rfl) h1.1 h1.2.1 ⟨fun c => ?_, fun c x5 e5 => ?_⟩)
      · unfold hourF at h; rw [if_pos c] at h; exact h τ1 h1.1
      · unfold hourF at h; rw [if_neg c] at h
        rw [e5, nI_1]
        exact ih (j + 1) _ τ1 (by omega) h1.1 h1.2.1 h
    refine br_f (nI_ge (b := 60) (by omega) (by decide)) ⟨fun c => ?_, fun c => ?_⟩
    · rw [if_pos c] at hst; rw [hst] at go; exact go
    · rw [if_neg c] at hst; rw [hst] at go; exact go
theorem m_hourL (hV : Bd A) {st v2 : Int32} (hst : st = if v2 = 1 then 1 else 0) {n : Nat} : ∀ (k j : Nat) (P : Pt) (τ : St), j + k = 60 → MS A τ → PotM P τ → PIr n k P → (∀ τ', MS A τ' → posti (hourF (lawF A) st k j P) τ') → wl_X7_hour_37 20 posti (k + 2) v2 (nI j) 1 τ := by
  intro k
  induction k with
  | zero =>
    intro j P τ hj hA hP hR h
    have hj : j = 60 := hj
    subst hj
    show w_X7_hour_37 20 posti _ v2 (nI 60) 1 τ
    unfold w_X7_hour_37
    exact br_f (by decide) (br_t (by decide) (h τ hA))
  | succ k ih =>
    intro j P τ hj hA hP hR h
    show w_X7_hour_37 20 posti _ v2 (nI j) 1 τ
    unfold w_X7_hour_37
    have go : w_X7_hour_59 20 posti (wl_X7_hour_37 20 posti (k + 2)) v2 (nI j) st τ := by
      unfold w_X7_hour_59
      refine q_minute hV hA hP hR (fun τ1 h1 => q_holds hV h1.1 h1.2.1 (PIr_min hR) (fun τ2 h2 => ⟨fun c => ?_, fun c => ?_⟩))
      · unfold hourF at h; rw [if_pos c] at h
        rw [c]
        show w_X7_hour_37 20 posti _ v2 _ 0 τ2
        unfold w_X7_hour_37
        refine br_t rfl ?_
        rw [show nI j + 0 = nI j from Int32.add_zero _]
        exact h τ2 h2.1
      · unfold hourF at h; rw [if_neg c] at h
        have c1 : holdF (minuteF (lawF A) st P) = 1 := by
          rcases hold_01 (minuteF (lawF A) st P) with e | e
          · exact absurd e c
          · exact e
        rw [c1, nI_1]
        exact ih (j + 1) _ τ2 (by omega) h2.1 h2.2.1 (PIr_min hR) h
    refine br_f (by decide) (br_f (nI_ge (b := 60) (by omega) (by decide)) ⟨fun c => ?_, fun c => ?_⟩)
    · rw [if_pos c] at hst; rw [hst] at go; exact go
    · rw [if_neg c] at hst; rw [hst] at go; exact go
def hourG (A : Ab) (n w : Int32) : Int32 := if 0 ≤ n.toInt ∧ n.toInt ≤ (aNa A : Int) then (if 0 ≤ w.toInt ∧ w.toInt ≤ 1 then (if holdF (cookF A n.toInt.toNat) = 0 then 0 else hourF (lawF A) (if w = 1 then 1 else 0) 60 0 (cookF A n.toInt.toNat)) else -7) else -5
theorem c_hour (hA : CS M A τ) {n w : Int32} (h : ∀ τ', CS M A τ' → posti (hourG A n w) τ') : w_X6_hour M posti n w τ := by
  have h12 := hA.2.1.2.1
  unfold hourG at h
  unfold w_X6_hour
  refine c_hasActs hA (fun c => br_f (by decide) (c_isBit (fun d => br_f (by decide) ?_) (fun d => br_t rfl ?_))) (fun c => br_t rfl ?_)
  · rw [if_pos c, if_pos d] at h
    obtain ⟨j, hj, rfl⟩ := as_nI c
    rw [i_nI (by omega)] at h
    refine k_cook hA hj rfl (fun τ1 h1 => k_holds (Or.inl rfl) h1.1 h1.2.1 ⟨fun e => ?_, fun e => ?_⟩)
    · rw [if_pos e] at h; exact h τ1 h1.1
    · rw [if_neg e] at h
      exact ⟨61, c_hourL h1.1 rfl 60 0 _ τ1 (by omega) h1.1 h1.2.1 h⟩
  · rw [if_pos c, if_neg d] at h; exact h τ hA
  · rw [if_neg c] at h; exact h τ hA
theorem m_hour (hV : Bd A) (hW : VA A) (hA : MS A τ) {n w : Int32} (h : ∀ τ', MS A τ' → posti (hourG A n w) τ') : w_X7_hour 20 posti n w τ := by
  have h12 := hV.2.1
  unfold hourG at h
  unfold w_X7_hour
  refine m_areActs hV hA (fun c => br_f (by decide) (m_in' (lo := 0) (hi := 1) (by decide) (by decide) (fun d => br_f (by decide) ?_) (fun d => br_t rfl ?_))) (fun c => br_t rfl ?_)
  · rw [if_pos c, if_pos d] at h
    obtain ⟨j, hj, rfl⟩ := as_nI c
    rw [i_nI (by omega)] at h
    refine km_goes hV hW hA hj rfl (fun τ1 h1 => q_holds hV h1.1 h1.2.1 (PIr_cook hV hW hj) (fun τ2 h2 => ?_))
    by_cases e : holdF (cookF A j) = 0
    · rw [if_pos e] at h
      rw [e]
      exact ⟨1, br_t rfl (h τ2 h2.1)⟩
    · rw [if_neg e] at h
      have c1 : holdF (cookF A j) = 1 := by
        rcases hold_01 (cookF A j) with q | q
        · exact absurd q e
        · exact q
      rw [c1]
      exact ⟨62, m_hourL hV rfl 60 0 _ τ2 (by omega) h2.1 h2.2.1 (PIr_mono (PIr_cook hV hW hj) (Nat.le_refl _) (by decide)) h⟩
  · rw [if_pos c, if_neg d] at h; exact h τ hA
  · rw [if_neg c] at h; exact h τ hA
/-! where it splits -/
def firstF (A : Ab) : Nat → Nat → Pt → Int32
  | 0, _, _ => -1
  | k + 1, i, P => if holdF (oneF A (lawF A) i P) = 0 then nI i else firstF A k (i + 1) (oneF A (lawF A) i P)
def leakF (A : Ab) : Nat → Nat → Pt → Int32 → Int32 → Int32
  | 0, _, _, b, _ => b
  | k + 1, i, P, b, w => if (oneF A (lawF A) i P).1 11 - P.1 11 ≤ w then leakF A k (i + 1) (oneF A (lawF A) i P) b w else leakF A k (i + 1) (oneF A (lawF A) i P) (nI i) ((oneF A (lawF A) i P).1 11 - P.1 11)
theorem PotAt_oil {o : Nat} {L : Lw} (hP : PotAt M o L P τ) : gi τ o 11 = P.1 11 := hP.1 11 (by decide)
theorem k_one (hA : CS M A τ) {L : Lw} (hP : PotAt M 12 L P τ) {i : Nat} (hi : i < aNa A) (h : ∀ τ', Kp M A 12 L (oneF A L i P) τ τ' → post τ') : w_X6_runActs M post (nI i) (nI i + 1) τ := by
  refine k_runActs hA hP (i := i) (n := i + 1) (by omega) hi rfl (nI_1 i) (fun τ' h' => h τ' ?_)
  rw [show i + 1 - i = 1 by omega] at h'
  exact h'
theorem CS_na (hA : CS M A τ) : gi τ 0 3 = nI (aNa A) := hA.2.1.1
theorem MS_na (hA : MS A τ) : gi τ 0 21 = nI (aNa A) := hA.2.1.1
theorem c_firstL : ∀ (k i : Nat) (P : Pt) (τ : St), i + k = aNa A → CS M A τ → PotAt M 12 (lawF A) P τ → (∀ τ', CS M A τ' → posti (firstF A k i P) τ') → wl_X6_firstSplit_6 M posti (k + 1) (nI i) τ := by
  intro k
  induction k with
  | zero =>
    intro i P τ hi hA hP h
    have hi : i = aNa A := hi
    subst hi
    show w_X6_firstSplit_6 M posti _ (nI (aNa A)) τ
    unfold w_X6_firstSplit_6
    rw [CS_na hA]
    exact br_t (Int32.le_refl _) (h τ hA)
  | succ k ih =>
    intro i P τ hi hA hP h
    have h12 := hA.2.1.2.1
    show w_X6_firstSplit_6 M posti _ (nI i) τ
    unfold w_X6_firstSplit_6
    rw [CS_na hA]
    unfold firstF at h
    refine br_f (nI_ge (by omega) (by omega)) (k_one hA hP (by omega) (fun τ1 h1 => k_holds (Or.inl rfl) h1.1 h1.2.1 ⟨fun c => ?_, fun c x6 e6 => ?_⟩))
    · rw [if_pos c] at h; exact h τ1 h1.1
    · rw [if_neg c] at h
      rw [e6, nI_1]
      exact ih (i + 1) _ τ1 (by omega) h1.1 h1.2.1 h
theorem c_leakL : ∀ (k i : Nat) (P : Pt) (b w : Int32) (τ : St), i + k = aNa A → CS M A τ → PotAt M 12 (lawF A) P τ → (∀ τ', CS M A τ' → posti (leakF A k i P b w) τ') → wl_X6_greatestLeak_10 M posti (k + 1) b w (nI i) τ := by
  intro k
  induction k with
  | zero =>
    intro i P b w τ hi hA hP h
    have hi : i = aNa A := hi
    subst hi
    show w_X6_greatestLeak_10 M posti _ b w (nI (aNa A)) τ
    unfold w_X6_greatestLeak_10
    rw [CS_na hA]
    exact br_t (Int32.le_refl _) (h τ hA)
  | succ k ih =>
    intro i P b w τ hi hA hP h
    have h12 := hA.2.1.2.1
    show w_X6_greatestLeak_10 M posti _ b w (nI i) τ
    unfold w_X6_greatestLeak_10
    rw [CS_na hA]
    unfold leakF at h
    refine br_f (nI_ge (by omega) (by omega)) (k_one hA hP (by omega) (fun τ1 h1 x3 e3 => ?_))
    rw [PotAt_oil h1.2.1, PotAt_oil hP] at e3
    rw [PotAt_oil h1.2.1, PotAt_oil hP]
    refine ⟨fun c x5 e5 => ?_, fun c x6 e6 x7 e7 => ?_⟩
    · rw [e3] at c
      rw [if_pos c] at h
      rw [e5, nI_1]
      exact ih (i + 1) _ b w τ1 (by omega) h1.1 h1.2.1 h
    · rw [e3] at c
      rw [if_neg c] at h
      rw [e7, nI_1, e6]
      exact ih (i + 1) _ _ _ τ1 (by omega) h1.1 h1.2.1 h
theorem m_splitL (hV : Bd A) (hW : VA A) {v1 : Int32} : ∀ (k i : Nat) (P : Pt) (v2 v3 v4 : Int32) (τ : St), i + k = aNa A → MS A τ → PotM P τ → PIr (k + 1) 1 P → (∀ τ', MS A τ' → posti (if v1 = 0 then (if 0 ≤ v2 then v2 else if k = 0 then v2 else firstF A k i P) else leakF A k i P v4 v3) τ') → (v2 = -1 ∨ 0 ≤ v2) → wl_X7_splits_27 20 posti (k + 1) v1 v2 v3 v4 (nI i) τ := by
  intro k
  induction k with
  | zero =>
    intro i P v2 v3 v4 τ hi hA hP hR h h2
    have hi : i = aNa A := hi
    subst hi
    show w_X7_splits_27 20 posti _ v1 v2 v3 v4 (nI (aNa A)) τ
    unfold w_X7_splits_27
    rw [MS_na hA]
    refine br_t (Int32.le_refl _) ⟨fun c => ?_, fun c => ?_⟩
    · rw [if_pos c] at h
      by_cases d : 0 ≤ v2
      · rw [if_pos d] at h; exact h τ hA
      · rw [if_neg d, if_pos rfl] at h; exact h τ hA
    · rw [if_neg c] at h; exact h τ hA
  | succ k ih =>
    intro i P v2 v3 v4 τ hi hA hP hR h h2
    have h12 := hV.2.1
    show w_X7_splits_27 20 posti _ v1 v2 v3 v4 (nI i) τ
    unfold w_X7_splits_27
    rw [MS_na hA]
    rw [if_neg (show ¬ k + 1 = 0 by omega)] at h
    unfold firstF leakF at h
    refine br_f (nI_ge (by omega) (by omega)) (q_act hV hW hA hP hR (by omega) (fun τ1 h1 => ?_))
    have hR1 : PIr (k + 1) 1 (oneF A (lawF A) i P) := PIr_one hW (by omega) hR
    have tail : ∀ (t0 : Int32) (τ2 : St), Km A (oneF A (lawF A) i P) τ1 τ2 → (t0 = -1 ∨ 0 ≤ t0) → (v1 = 0 → (if 0 ≤ v2 then v2 else if holdF (oneF A (lawF A) i P) = 0 then nI i else firstF A k (i + 1) (oneF A (lawF A) i P)) = (if 0 ≤ t0 then t0 else if k = 0 then t0 else firstF A k (i + 1) (oneF A (lawF A) i P))) → w_X7_splits_67 20 posti (wl_X7_splits_27 20 posti (k + 1)) v1 v3 v4 (nI i) (gi τ 13 4) t0 τ2 := by
      intro t0 τ2 hk ht heq
      unfold w_X7_splits_67
      rw [PotM_oil hk.2.1, PotM_oil hP]
      refine ⟨fun c x2 e2 => ?_, fun c x3 e3 => ?_⟩
      · rw [if_pos c] at h
        rw [e2, nI_1]
        refine ih (i + 1) _ t0 v3 v4 τ2 (by omega) hk.1 hk.2.1 hR1 (fun τ' h' => ?_) ht
        have h := h τ' h'
        by_cases q : v1 = 0
        · rw [if_pos q] at h ⊢; rw [heq q] at h; exact h
        · rw [if_neg q] at h ⊢; exact h
      · rw [if_neg c] at h
        rw [e3, nI_1]
        refine ih (i + 1) _ t0 _ _ τ2 (by omega) hk.1 hk.2.1 hR1 (fun τ' h' => ?_) ht
        have h := h τ' h'
        by_cases q : v1 = 0
        · rw [if_pos q] at h ⊢; rw [heq q] at h; exact h
        · rw [if_neg q] at h ⊢; exact h
    refine ⟨fun c => ?_, fun c => ?_⟩
    · refine tail v2 τ1 (Km_self h1.1 h1.2.1) h2 (fun _ => ?_)
      rw [if_pos c, if_pos c]
    · refine q_holds hV h1.1 h1.2.1 hR1 (fun τ2 k2 => ⟨fun d => ?_, fun d => ?_⟩)
      · refine tail (nI i) τ2 k2 (Or.inr (nI_pos' (by omega))) (fun _ => ?_)
        rw [if_neg c, if_pos d, if_pos (nI_pos' (by omega))]
      · refine tail v2 τ2 k2 h2 (fun _ => ?_)
        rw [if_neg c, if_neg d, if_neg c]
        by_cases z : k = 0
        · subst z
          rw [if_pos rfl]
          rcases h2 with e | e
          · rw [e]; rfl
          · exact absurd e c
        · rw [if_neg z]
def splitG (A : Ab) (w : Int32) : Int32 := if 0 ≤ w.toInt ∧ w.toInt ≤ 1 then (if w = 0 then firstF A (aNa A) 0 (begF A) else leakF A (aNa A) 0 (begF A) (-1) 0) else -2
theorem c_splits (hA : CS M A τ) {w : Int32} (h : ∀ τ', CS M A τ' → posti (splitG A w) τ') : w_X6_splits M posti w τ := by
  unfold splitG at h
  unfold w_X6_splits
  refine c_isBit (fun d => br_f (by decide) ⟨fun c => ?_, fun c => ?_⟩) (fun d => br_t rfl ?_)
  · rw [if_pos d, if_pos c] at h
    unfold w_X6_firstSplit
    exact k_beginPot hA (fun τ1 h1 => ⟨aNa A + 1, c_firstL (aNa A) 0 _ τ1 (by omega) h1.1 h1.2.1 h⟩)
  · rw [if_pos d, if_neg c] at h
    unfold w_X6_greatestLeak
    exact k_beginPot hA (fun τ1 h1 => ⟨aNa A + 1, c_leakL (aNa A) 0 _ _ _ τ1 (by omega) h1.1 h1.2.1 h⟩)
  · rw [if_neg d] at h; exact h τ hA
theorem m_splits (hV : Bd A) (hW : VA A) (hA : MS A τ) {w : Int32} (h : ∀ τ', MS A τ' → posti (splitG A w) τ') : w_X7_splits 20 posti w τ := by
  have h12 := hV.2.1
  unfold splitG at h
  unfold w_X7_splits
  refine m_in' (lo := 0) (hi := 1) (by decide) (by decide) (fun d => br_f (by decide) ?_) (fun d => br_t rfl ?_)
  · rw [if_pos d] at h
    refine km_begins hA (fun τ1 h1 => ⟨aNa A + 1, m_splitL hV hW (aNa A) 0 _ _ _ _ τ1 (by omega) h1.1 h1.2.1 (PIr_mono (PIr_beg hW) (by omega) (by omega)) (fun τ' h' => ?_) (Or.inl rfl)⟩)
    have h := h τ' h'
    by_cases c : w = 0
    · rw [if_pos c] at h ⊢
      rw [if_neg (by decide)]
      by_cases z : aNa A = 0
      · rw [if_pos z]; rw [z] at h; exact h
      · rw [if_neg z]; exact h
    · rw [if_neg c] at h ⊢; exact h
  · rw [if_neg d] at h; exact h τ hA
end POTS
