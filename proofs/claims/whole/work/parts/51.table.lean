/-! the table -/
def sitM (L : Lw) (e m : Nat) (P : Pt) : Pt := if m % e = 0 then minuteF L 1 (beatF 2 P) else minuteF L 0 P
def sitF (L : Lw) (e : Nat) : Nat → Nat → Pt → Int32 → Nat → Nat × Pt
  | 0, _, P, _, v => (v, P)
  | k + 1, m, P, g, v => if g = 0 ∨ holdF (sitM L e m P) = 0 then sitF L e k (m + 1) (sitM L e m P) 0 v else sitF L e k (m + 1) (sitM L e m P) 1 (v + 1)
theorem sitF_le (L : Lw) (e : Nat) : ∀ (k m : Nat) (P : Pt) (g : Int32) (v : Nat), v ≤ (sitF L e k m P g v).1 ∧ (sitF L e k m P g v).1 ≤ v + k := by
  intro k
  induction k with
  | zero => intro m P g v; exact ⟨Nat.le_refl _, Nat.le_refl _⟩
  | succ k ih =>
    intro m P g v
    unfold sitF
    by_cases c : g = 0 ∨ holdF (sitM L e m P) = 0
    · rw [if_pos c]; have := ih (m + 1) (sitM L e m P) 0 v; omega
    · rw [if_neg c]; have := ih (m + 1) (sitM L e m P) 1 (v + 1); omega
def sitG (L : Lw) (n e : Nat) (P : Pt) : Nat × Pt := sitF L e n 1 P (holdF P) 0
section TABLE
variable {M : Nat} {A : Ab} {post : St → Prop} {posti : Int32 → St → Prop} {τ : St} {P : Pt}
theorem two_ok : (0 : Int) ≤ (2 : Int32).toInt ∧ (2 : Int32).toInt ≤ 9 := by decide
theorem c_sitL {o : Nat} {L : Lw} (ho : o = 12 ∨ o = 14) {n e : Nat} (hn : n ≤ 90) (he : 1 ≤ e ∧ e ≤ 30) : ∀ (k m : Nat) (P : Pt) (g : Int32) (v : Nat) (τ : St), m + k = n + 1 → 1 ≤ m → (g = 0 ∨ g = 1) → CS M A τ → PotAt M o L P τ → (∀ τ', Kp M A o L (sitF L e k m P g v).2 τ τ' → posti (nI (sitF L e k m P g v).1) τ') → wl_X6_sitAtTable_11 M posti (k + 1) o (nI n) (nI e) (nI v) g (nI m) τ := by
  intro k
  induction k with
  | zero =>
    intro m P g v τ hm hm1 hg hA hP h
    have hm : m = n + 1 := hm
    show w_X6_sitAtTable_11 M posti _ o (nI n) (nI e) (nI v) g (nI m) τ
    unfold w_X6_sitAtTable_11
    exact br_t (by rw [ilt, nI_toInt (by omega), nI_toInt (by omega)]; omega) (h τ (Kp_self hA hP))
  | succ k ih =>
    intro m P g v τ hm hm1 hg hA hP h
    show w_X6_sitAtTable_11 M posti _ o (nI n) (nI e) (nI v) g (nI m) τ
    unfold w_X6_sitAtTable_11
    have ee := nI_toInt (n := e) (by omega)
    have ne : ¬ nI e = 0 := by rw [ieq, ee, i_0]; omega
    rw [i_mod (a := m) (by omega) (by omega) (by omega)]
    have hml := Nat.mod_le m e
    have z : nI (m % e) = 0 ↔ m % e = 0 := by rw [ieq, nI_toInt (by omega), i_0]; omega
    unfold sitF at h
    have go : ∀ (t : Int32) (Q : Pt) (τ1 : St), Kp M A o L Q τ τ1 → minuteF L t Q = sitM L e m P → w_X6_sitAtTable_45 M posti (wl_X6_sitAtTable_11 M posti (k + 1)) o (nI n) (nI e) (nI v) g (nI m) t τ1 := by
      intro t Q τ1 h1 hq
      unfold w_X6_sitAtTable_45
      refine k_minute ho h1.1 h1.2.1 (fun τ2 h2 => ?_)
      rw [hq] at h2
      have h12 := Kp_trans h1 h2
      refine ⟨fun c x3 e3 => ?_, fun c => k_holds ho h2.1 h2.2.1 ⟨fun d x7 e7 => ?_, fun d x8 e8 x9 e9 => ?_⟩⟩
      · rw [if_pos (Or.inl c)] at h
        rw [e3, nI_1]
        exact ih (m + 1) _ 0 v τ2 (by omega) (by omega) (Or.inl rfl) h2.1 h2.2.1 (fun τ3 h3 => h τ3 (Kp_trans h12 h3))
      · rw [if_pos (Or.inr d)] at h
        rw [e7, nI_1]
        exact ih (m + 1) _ 0 v τ2 (by omega) (by omega) (Or.inl rfl) h2.1 h2.2.1 (fun τ3 h3 => h τ3 (Kp_trans h12 h3))
      · rw [if_neg (fun q => q.elim c d)] at h
        rw [e9, e8, nI_1, nI_1]
        exact ih (m + 1) _ 1 (v + 1) τ2 (by omega) (by omega) (Or.inr rfl) h2.1 h2.2.1 (fun τ3 h3 => h τ3 (Kp_trans h12 h3))
    refine br_f (nI_nlt (by omega) (by omega)) (br_f (nI_ge (a := 0) (b := e) (by omega) (by omega)) ⟨ne, fun c => ?_, fun c => ?_⟩)
    · refine k_beat ho hA hP (fun τ1 h1 => go 1 _ τ1 h1 ?_)
      unfold sitM; rw [if_pos (z.mp c)]
    · refine go 0 P τ (Kp_self hA hP) ?_
      unfold sitM; rw [if_neg (fun q => c (z.mpr q))]
theorem c_sit {o : Nat} {L : Lw} (ho : o = 12 ∨ o = 14) {n e : Nat} (hn : n ≤ 90) (he : 1 ≤ e ∧ e ≤ 30) (hA : CS M A τ) (hP : PotAt M o L P τ) (h : ∀ τ', Kp M A o L (sitG L n e P).2 τ τ' → posti (nI (sitG L n e P).1) τ') : w_X6_sitAtTable M posti o (nI n) (nI e) τ := by
  have hM := hA.2.2.2.2.2.2.2.1
  unfold w_X6_sitAtTable
  exact ⟨kd12 M o hM ho, k_holds ho hA hP ⟨n + 1, c_sitL ho hn he n 1 P (holdF P) 0 τ (by omega) (by omega) (hold_01 P) hA hP h⟩⟩
theorem km_28 {v : Int32} (hA : MS A τ) (hP : PotM P τ) : MS A (si τ 0 28 v) ∧ PotM P (si τ 0 28 v) ∧ gi (si τ 0 28 v) 0 28 = v := by
  obtain ⟨h1, h2, h3, h4⟩ := hP
  refine ⟨MS_nS hA (fun a k hn => gsn (by unfold nS at hn; omega)), ⟨fun k hk => by rw [gso (by decide)]; exact h1 k hk, by rw [gsk (by decide)]; exact h2, h3, h4⟩, gss⟩
theorem m_sitL (hV : Bd A) {n e : Nat} (hn : n ≤ 90) (he : 1 ≤ e ∧ e ≤ 30) {r : Nat} : ∀ (k m : Nat) (P : Pt) (g : Int32) (v : Nat) (τ : St), m + k = n + 1 → 1 ≤ m → (g = 0 ∨ g = 1) → MS A τ → PotM P τ → PIr r k P → gi τ 0 28 = nI v → (∀ τ', MS A τ' → PotM (sitF (lawF A) e k m P g v).2 τ' → gi τ' 0 28 = nI (sitF (lawF A) e k m P g v).1 → post τ') → wl_X7_atTable_13 20 post (k + 1) (nI n) (nI e) g (nI m) τ := by
  intro k
  induction k with
  | zero =>
    intro m P g v τ hm hm1 hg hA hP hR h28 h
    have hm : m = n + 1 := hm
    show w_X7_atTable_13 20 post _ (nI n) (nI e) g (nI m) τ
    unfold w_X7_atTable_13
    exact br_t (by rw [ilt, nI_toInt (by omega), nI_toInt (by omega)]; omega) (h τ hA hP h28)
  | succ k ih =>
    intro m P g v τ hm hm1 hg hA hP hR h28 h
    show w_X7_atTable_13 20 post _ (nI n) (nI e) g (nI m) τ
    unfold w_X7_atTable_13
    have ee := nI_toInt (n := e) (by omega)
    have ne : ¬ nI e = 0 := by rw [ieq, ee, i_0]; omega
    rw [i_mod (a := m) (by omega) (by omega) (by omega)]
    have hml := Nat.mod_le m e
    have z : nI (m % e) = 0 ↔ m % e = 0 := by rw [ieq, nI_toInt (by omega), i_0]; omega
    unfold sitF at h
    have go : ∀ (t : Int32) (Q : Pt) (τ1 : St), Km A Q τ τ1 → PIr r (k + 1) Q → minuteF (lawF A) t Q = sitM (lawF A) e m P → w_X7_atTable_43 20 post (wl_X7_atTable_13 20 post (k + 1)) (nI n) (nI e) g (nI m) t τ1 := by
      intro t Q τ1 h1 hRQ hq
      unfold w_X7_atTable_43
      refine q_minute hV h1.1 h1.2.1 hRQ (fun τ2 h2 => ?_)
      have hR2 : PIr r k (minuteF (lawF A) t Q) := PIr_min hRQ
      rw [hq] at h2 hR2
      have no : ∀ τ3 : St, Km A (sitM (lawF A) e m P) τ2 τ3 → (g = 0 ∨ holdF (sitM (lawF A) e m P) = 0) → w_X7_atTable_65 20 post (wl_X7_atTable_13 20 post (k + 1)) (nI n) (nI e) (nI m) 0 τ3 := by
        intro τ3 h3 c
        rw [if_pos c] at h
        unfold w_X7_atTable_65
        refine br_t rfl (fun σ2 e2 x3 e3 => ?_)
        rw [h3.2.2, h2.2.2, h1.2.2, h28, Int32.add_zero] at e2
        rw [e3, e2, nI_1]
        obtain ⟨a1, a2, a3⟩ := km_28 (v := nI v) h3.1 h3.2.1
        exact ih (m + 1) _ 0 v _ (by omega) (by omega) (Or.inl rfl) a1 a2 hR2 a3 h
      have yes : ∀ τ3 : St, Km A (sitM (lawF A) e m P) τ2 τ3 → ¬ (g = 0 ∨ holdF (sitM (lawF A) e m P) = 0) → w_X7_atTable_65 20 post (wl_X7_atTable_13 20 post (k + 1)) (nI n) (nI e) (nI m) 1 τ3 := by
        intro τ3 h3 c
        rw [if_neg c] at h
        unfold w_X7_atTable_65
        refine br_f (by decide) (fun σ2 e2 x3 e3 => ?_)
        rw [h3.2.2, h2.2.2, h1.2.2, h28, nI_1] at e2
        rw [e3, e2, nI_1]
        obtain ⟨a1, a2, a3⟩ := km_28 (v := nI (v + 1)) h3.1 h3.2.1
        exact ih (m + 1) _ 1 (v + 1) _ (by omega) (by omega) (Or.inr rfl) a1 a2 hR2 a3 h
      refine ⟨fun c => no τ2 (Km_self h2.1 h2.2.1) (Or.inl c), fun c => q_holds hV h2.1 h2.2.1 hR2 (fun τ3 h3 => ⟨fun d => no τ3 h3 (Or.inr d), fun d => yes τ3 h3 (fun q => q.elim c d)⟩)⟩
    refine br_f (nI_nlt (by omega) (by omega)) ⟨ne, fun c => ?_, fun c => ?_⟩
    · refine q_beat hA hP hR two_ok.1 (fun τ1 h1 => go 1 _ τ1 h1 (PIr_beat two_ok hR) ?_)
      unfold sitM; rw [if_pos (z.mp c)]
    · refine go 0 P τ (Km_self hA hP) hR ?_
      unfold sitM; rw [if_neg (fun q => c (z.mpr q))]
theorem m_sit (hV : Bd A) {n e : Nat} (hn : n ≤ 90) (he : 1 ≤ e ∧ e ≤ 30) {r : Nat} (hA : MS A τ) (hP : PotM P τ) (hR : PIr r n P) (h : ∀ τ', MS A τ' → PotM (sitG (lawF A) n e P).2 τ' → gi τ' 0 28 = nI (sitG (lawF A) n e P).1 → post τ') : w_X7_atTable 20 post (nI n) (nI e) τ := by
  unfold w_X7_atTable
  intro σ1 e1
  obtain ⟨a1, a2, a3⟩ := km_28 (v := 0) hA hP
  rw [← e1] at a1 a2 a3
  refine q_holds hV a1 a2 hR (fun τ2 h2 => ⟨n + 1, m_sitL hV hn he n 1 P (holdF P) 0 τ2 (by omega) (by omega) (hold_01 P) h2.1 h2.2.1 hR (h2.2.2.trans a3) h⟩)
def tableF (A : Ab) (n e w : Int32) : Int32 :=
  if (0 ≤ n.toInt ∧ n.toInt ≤ 90) ∧ (1 ≤ e.toInt ∧ e.toInt ≤ 30) ∧ (0 ≤ w.toInt ∧ w.toInt ≤ 3) then (if w = 0 then nI (sitG (lawF A) n.toInt.toNat e.toInt.toNat (cookF A (aNa A))).1 else if w = 1 then (sitG (lawF A) n.toInt.toNat e.toInt.toNat (cookF A (aNa A))).2.1 13 else if w = 2 then thickF (sitG (lawF A) n.toInt.toNat e.toInt.toNat (cookF A (aNa A))).2 else (sitG (lawF A) n.toInt.toNat e.toInt.toNat (cookF A (aNa A))).2.1 11) else -2
theorem c_table (hA : CS M A τ) {n e w : Int32} (h : ∀ τ', CS M A τ' → posti (tableF A n e w) τ') : w_X6_table M posti n e w τ := by
  unfold tableF at h
  have bad : ¬ ((0 ≤ n.toInt ∧ n.toInt ≤ 90) ∧ (1 ≤ e.toInt ∧ e.toInt ≤ 30) ∧ (0 ≤ w.toInt ∧ w.toInt ≤ 3)) → posti (-2) τ := fun q => by rw [if_neg q] at h; exact h τ hA
  unfold w_X6_table
  refine brl z0' (fun q => bad (by omega)) (fun q1 => brg (c := 90) (n := 90) (by decide) (fun q => bad (by omega)) (fun q2 => c_isEvery (fun d => br_f (by decide) (brl z0' (fun q => bad (by omega)) (fun q3 => brle (c := 3) (n := 3) (by decide) (fun q4 => ?_) (fun q => bad (by omega))))) (fun d => br_t rfl (bad (fun z => d z.2.1)))))
  rw [if_pos ⟨⟨by omega, by omega⟩, d, by omega, q4⟩] at h
  obtain ⟨a, ha, rfl⟩ := as_nI (s := n) (n := 90) (by omega)
  obtain ⟨b, hb, rfl⟩ := as_nI (s := e) (n := 30) (by omega)
  rw [i_nI (by omega), i_nI (by omega)] at h
  have eb := nI_toInt (n := b) (by omega)
  refine k_cook hA (Nat.le_refl _) (CS_na hA) (fun τ1 h1 => c_sit (Or.inl rfl) ha (by omega) h1.1 h1.2.1 (fun τ2 h2 => ?_))
  refine ⟨fun c => ?_, fun c => ⟨fun c1 => ?_, fun c1 => ⟨fun c2 => ?_, fun c2 => ?_⟩⟩⟩
  · rw [if_pos c] at h; exact h τ2 h2.1
  · rw [if_neg c, if_pos c1] at h; rw [h2.2.1.1 13 (by decide)]; exact h τ2 h2.1
  · rw [if_neg c, if_neg c1, if_pos c2] at h; exact k_thick (Or.inl rfl) h2.1 h2.2.1 (h τ2 h2.1)
  · rw [if_neg c, if_neg c1, if_neg c2] at h; rw [h2.2.1.1 11 (by decide)]; exact h τ2 h2.1
theorem m_table (hV : Bd A) (hW : VA A) (hA : MS A τ) {n e w : Int32} (h : ∀ τ', MS A τ' → posti (tableF A n e w) τ') : w_X7_table 20 posti n e w τ := by
  unfold tableF at h
  have bad : ¬ ((0 ≤ n.toInt ∧ n.toInt ≤ 90) ∧ (1 ≤ e.toInt ∧ e.toInt ≤ 30) ∧ (0 ≤ w.toInt ∧ w.toInt ≤ 3)) → posti (-2) τ := fun q => by rw [if_neg q] at h; exact h τ hA
  unfold w_X7_table
  refine m_in' (lo := 0) (hi := 90) (by decide) (by decide) (fun q1 => br_f (by decide) (m_in' (lo := 1) (hi := 30) (by decide) (by decide) (fun d => br_f (by decide) (m_in' (lo := 0) (hi := 3) (by decide) (by decide) (fun q4 => br_f (by decide) ?_) (fun q => br_t rfl (bad (fun z => q z.2.2))))) (fun q => br_t rfl (bad (fun z => q z.2.1))))) (fun q => br_t rfl (bad (fun z => q z.1)))
  rw [if_pos ⟨q1, d, q4⟩] at h
  obtain ⟨a, ha, rfl⟩ := as_nI (s := n) (n := 90) (by omega)
  obtain ⟨b, hb, rfl⟩ := as_nI (s := e) (n := 30) (by omega)
  rw [i_nI (by omega), i_nI (by omega)] at h
  have eb := nI_toInt (n := b) (by omega)
  have hR : PIr 21 a (cookF A (aNa A)) := PIr_mono (PIr_cook hV hW (Nat.le_refl _)) (Nat.le_refl _) (by omega)
  refine km_goes hV hW hA (Nat.le_refl _) (MS_na hA) (fun τ1 h1 => m_sit hV ha (by omega) h1.1 h1.2.1 hR (fun τ2 h2 p2 v2 => ?_))
  rw [v2]
  refine ⟨fun c => ?_, fun c => ⟨fun c1 => ?_, fun c1 => ⟨fun c2 => ?_, fun c2 => ?_⟩⟩⟩
  · rw [if_pos c] at h; exact h τ2 h2
  · rw [if_neg c, if_pos c1] at h
    have g : gi τ2 13 10 = _ := p2.1 10 (by decide)
    rw [g]; exact h τ2 h2
  · rw [if_neg c, if_neg c1, if_pos c2] at h; exact km_thick p2 (h τ2 h2)
  · rw [if_neg c, if_neg c1, if_neg c2] at h
    rw [PotM_oil p2]; exact h τ2 h2
/-! dips -/
def dipsL (A : Ab) (n : Nat) (cr : Int32) : Nat → Int32
  | 0 => -1
  | k + 1 => if nI (sitG (lawF A) n (k + 1) (cookF A (aNa A))).1 = nI n then (if cr < (sitG (lawF A) n (k + 1) (cookF A (aNa A))).2.1 13 then dipsL A n cr k else nI (k + 1)) else dipsL A n cr k
theorem c_dipsL {n : Nat} (hn : n ≤ 90) {cr : Int32} : ∀ (k : Nat) (τ : St), k ≤ 30 → CS M A τ → PotAt M 12 (lawF A) (cookF A (aNa A)) τ → (∀ τ', CS M A τ' → posti (dipsL A n cr k) τ') → wl_X6_dips_36 M posti (k + 1) (nI n) cr (nI k) τ := by
  intro k
  induction k with
  | zero => intro τ hk hA hP h; exact br_t (by decide) (h τ hA)
  | succ k ih =>
    intro τ hk hA hP h
    show w_X6_dips_36 M posti _ (nI n) cr (nI (k + 1)) τ
    unfold w_X6_dips_36
    unfold dipsL at h
    refine br_f (nI_nlt (a := k + 1) (b := 1) (by omega) (by omega)) (k_like hA hP (fun τ1 hA1 hP1 hQ1 _ => c_sit (Or.inr rfl) hn (by omega) hA1 hQ1 (fun τ2 h2 => ?_)))
    have hP2 : PotAt M 12 (lawF A) (cookF A (aNa A)) τ2 := h2.2.2.1 _ _ hP1
    rw [h2.2.1.1 13 (by decide), nI_dec]
    refine ⟨fun c => ⟨fun d x8 e8 => ?_, fun d => ?_⟩, fun c x6 e6 => ?_⟩
    · rw [if_pos c, if_pos d] at h; rw [e8]; exact ih τ2 (by omega) h2.1 hP2 h
    · rw [if_pos c, if_neg d] at h; exact h τ2 h2.1
    · rw [if_neg c] at h; rw [e6]; exact ih τ2 (by omega) h2.1 hP2 h
theorem m_dipsL (hV : Bd A) (hW : VA A) {n : Nat} (hn : n ≤ 90) {cr : Int32} : ∀ (k : Nat) (τ : St), k ≤ 30 → MS A τ → (∀ τ', MS A τ' → posti (dipsL A n cr k) τ') → wl_X7_dips_30 20 posti (k + 1) (nI n) cr (nI k) τ := by
  intro k
  induction k with
  | zero => intro τ hk hA h; exact br_t (by decide) (h τ hA)
  | succ k ih =>
    intro τ hk hA h
    show w_X7_dips_30 20 posti _ (nI n) cr (nI (k + 1)) τ
    unfold w_X7_dips_30
    unfold dipsL at h
    have hR : PIr 21 n (cookF A (aNa A)) := PIr_mono (PIr_cook hV hW (Nat.le_refl _)) (Nat.le_refl _) (by omega)
    refine br_f (nI_ge (a := 0) (b := k + 1) (by omega) (by omega)) (km_goes hV hW hA (Nat.le_refl _) (MS_na hA) (fun τ1 h1 => m_sit hV hn (by omega) h1.1 h1.2.1 hR (fun τ2 h2 p2 v2 => ?_)))
    have g : gi τ2 13 10 = (sitG (lawF A) n (k + 1) (cookF A (aNa A))).2.1 13 := p2.1 10 (by decide)
    rw [g, v2, nI_dec]
    refine ⟨fun c => ⟨fun d x8 e8 => ?_, fun d => ?_⟩, fun c x6 e6 => ?_⟩
    · rw [if_pos c, if_pos d] at h; rw [e8]; exact ih τ2 (by omega) h2 h
    · rw [if_pos c, if_neg d] at h; exact h τ2 h2
    · rw [if_neg c] at h; rw [e6]; exact ih τ2 (by omega) h2 h
def dipsF (A : Ab) (n cr : Int32) : Int32 := if (1 ≤ n.toInt ∧ n.toInt ≤ 90) ∧ (0 ≤ cr.toInt ∧ cr.toInt ≤ 999) then dipsL A n.toInt.toNat cr 30 else -2
theorem c_dips (hA : CS M A τ) {n cr : Int32} (h : ∀ τ', CS M A τ' → posti (dipsF A n cr) τ') : w_X6_dips M posti n cr τ := by
  unfold dipsF at h
  have bad : ¬ ((1 ≤ n.toInt ∧ n.toInt ≤ 90) ∧ (0 ≤ cr.toInt ∧ cr.toInt ≤ 999)) → posti (-2) τ := fun q => by rw [if_neg q] at h; exact h τ hA
  unfold w_X6_dips
  refine brl i_1 (fun q => bad (by omega)) (fun q1 => brg (c := 90) (n := 90) (by decide) (fun q => bad (by omega)) (fun q2 => brl z0' (fun q => bad (by omega)) (fun q3 => brle (c := 999) (n := 999) (by decide) (fun q4 => ?_) (fun q => bad (by omega)))))
  rw [if_pos ⟨⟨by omega, by omega⟩, by omega, q4⟩] at h
  obtain ⟨a, ha, rfl⟩ := as_nI (s := n) (n := 90) (by omega)
  rw [i_nI (by omega)] at h
  exact k_cook hA (Nat.le_refl _) (CS_na hA) (fun τ1 h1 => ⟨31, c_dipsL ha 30 τ1 (by omega) h1.1 h1.2.1 h⟩)
theorem m_dips (hV : Bd A) (hW : VA A) (hA : MS A τ) {n cr : Int32} (h : ∀ τ', MS A τ' → posti (dipsF A n cr) τ') : w_X7_dips 20 posti n cr τ := by
  unfold dipsF at h
  have bad : ¬ ((1 ≤ n.toInt ∧ n.toInt ≤ 90) ∧ (0 ≤ cr.toInt ∧ cr.toInt ≤ 999)) → posti (-2) τ := fun q => by rw [if_neg q] at h; exact h τ hA
  unfold w_X7_dips
  refine m_in' (lo := 1) (hi := 90) (by decide) (by decide) (fun c => br_f (by decide) (m_in' (lo := 0) (hi := 999) (by decide) (by decide) (fun d => br_f (by decide) ?_) (fun q => br_t rfl (bad (fun z => q z.2))))) (fun q => br_t rfl (bad (fun z => q z.1)))
  rw [if_pos ⟨c, d⟩] at h
  obtain ⟨a, ha, rfl⟩ := as_nI (s := n) (n := 90) (by omega)
  rw [i_nI (by omega)] at h
  exact ⟨31, m_dipsL hV hW ha 30 τ (by omega) hA h⟩
/-! the wick -/
theorem PIr_flame {k m : Nat} {v : Int32} (h : PIr k m P) : PIr k m (up P 3 v) := by
  obtain ⟨B, N, h1, h2⟩ := h
  exact ⟨B, N, PI_eq h1 rfl rfl rfl rfl rfl rfl rfl rfl rfl rfl, h2⟩
theorem k_flame (hA : CS M A τ) {L : Lw} (hP : PotAt M 14 L P τ) {v : Int32} : Kp M A 14 L (up P 3 v) τ (si τ 14 3 v) := by
  have e : si τ 14 3 v = pu τ 14 (up P 3 v) (fun k => gi τ 15 k) := by
    conv => lhs; rw [PotAt_eq hP]
    exact pu_up (by decide)
  rw [e]
  exact Kp_pu (Or.inr rfl) hA hP
def wickS (A : Ab) (n e j : Nat) : Nat := (sitG (lawF A) n e (up (cookF A (aNa A)) 3 (nI j))).1
def wickL (A : Ab) (n e : Nat) : Nat → Nat → Int32 → Int32 → Int32
  | 0, _, b, _ => b
  | k + 1, j, b, l => if nI (wickS A n e j) < l then wickL A n e k (j + 1) b l else wickL A n e k (j + 1) (nI j) (nI (wickS A n e j))
theorem c_wickL {n e : Nat} (hn : n ≤ 90) (he : 1 ≤ e ∧ e ≤ 30) : ∀ (k j : Nat) (b l : Int32) (τ : St), j + k = 10 → CS M A τ → PotAt M 12 (lawF A) (cookF A (aNa A)) τ → (∀ τ', CS M A τ' → posti (wickL A n e k j b l) τ') → wl_X6_wick_37 M posti (k + 1) (nI n) (nI e) b l (nI j) τ := by
  intro k
  induction k with
  | zero =>
    intro j b l τ hj hA hP h
    have hj : j = 10 := hj
    subst hj
    exact br_t (by decide) (h τ hA)
  | succ k ih =>
    intro j b l τ hj hA hP h
    show w_X6_wick_37 M posti _ (nI n) (nI e) b l (nI j) τ
    unfold w_X6_wick_37
    unfold wickL at h
    refine br_f (nI_nlt (a := 9) (b := j) (by omega) (by decide)) (k_like hA hP (fun τ1 hA1 hP1 hQ1 _ σ3 e3 => ?_))
    have h3 := k_flame (v := nI j) hA1 hQ1
    rw [← e3] at h3
    refine c_sit (Or.inr rfl) hn he h3.1 h3.2.1 (fun τ2 h2 => ?_)
    have hP2 : PotAt M 12 (lawF A) (cookF A (aNa A)) τ2 := h2.2.2.1 _ _ (h3.2.2.1 _ _ hP1)
    refine ⟨fun c x7 e7 => ?_, fun c x8 e8 => ?_⟩
    · rw [if_pos (show nI (wickS A n e j) < l from c)] at h
      rw [e7, nI_1]; exact ih (j + 1) b l τ2 (by omega) h2.1 hP2 h
    · rw [if_neg (show ¬ nI (wickS A n e j) < l from c)] at h
      rw [e8, nI_1]; exact ih (j + 1) _ _ τ2 (by omega) h2.1 hP2 h
theorem m_wickL (hV : Bd A) (hW : VA A) {n e : Nat} (hn : n ≤ 90) (he : 1 ≤ e ∧ e ≤ 30) : ∀ (k j : Nat) (b l : Int32) (τ : St), j + k = 10 → MS A τ → (∀ τ', MS A τ' → posti (wickL A n e k j b l) τ') → wl_X7_wick_35 20 posti (k + 1) (nI n) (nI e) b l (nI j) τ := by
  intro k
  induction k with
  | zero =>
    intro j b l τ hj hA h
    have hj : j = 10 := hj
    subst hj
    exact br_t (by decide) (h τ hA)
  | succ k ih =>
    intro j b l τ hj hA h
    show w_X7_wick_35 20 posti _ (nI n) (nI e) b l (nI j) τ
    unfold w_X7_wick_35
    unfold wickL at h
    have hR : PIr 21 n (up (cookF A (aNa A)) 3 (nI j)) := PIr_flame (PIr_mono (PIr_cook hV hW (Nat.le_refl _)) (Nat.le_refl _) (by omega))
    refine br_f (nI_ge (b := 10) (by omega) (by decide)) (km_goes hV hW hA (Nat.le_refl _) (MS_na hA) (fun τ1 h1 σ3 e3 => ?_))
    have h3 := Km_si (k := 13) (j := 3) (v := nI j) h1.1 h1.2.1 (by decide) rfl
    rw [← e3] at h3
    refine m_sit hV hn he h3.1 h3.2.1 hR (fun τ2 h2 p2 v2 => ?_)
    rw [v2]
    refine ⟨fun c x7 e7 => ?_, fun c x8 e8 => ?_⟩
    · rw [if_pos (show nI (wickS A n e j) < l from c)] at h
      rw [e7, nI_1]; exact ih (j + 1) b l τ2 (by omega) h2 h
    · rw [if_neg (show ¬ nI (wickS A n e j) < l from c)] at h
      rw [e8, nI_1]; exact ih (j + 1) _ _ τ2 (by omega) h2 h
theorem wickL_first {n e : Nat} (hn : n ≤ 90) : wickL A n e 10 0 0 (-1) = wickL A n e 10 0 0 0 := by
  have hle := (sitF_le (lawF A) e n 1 (up (cookF A (aNa A)) 3 (nI 0)) (holdF (up (cookF A (aNa A)) 3 (nI 0))) 0).2
  have hle2 : wickS A n e 0 ≤ 0 + n := hle
  have ew := nI_toInt (n := wickS A n e 0) (by omega)
  have e1 : (-1 : Int32).toInt = -1 := by decide
  have c1 : ¬ nI (wickS A n e 0) < -1 := by rw [ilt, ew, e1]; omega
  have c0 : ¬ nI (wickS A n e 0) < 0 := by rw [ilt, ew, i_0]; omega
  show (if nI (wickS A n e 0) < -1 then _ else wickL A n e 9 1 (nI 0) (nI (wickS A n e 0))) = (if nI (wickS A n e 0) < 0 then _ else wickL A n e 9 1 (nI 0) (nI (wickS A n e 0)))
  rw [if_neg c1, if_neg c0]
def wickF (A : Ab) (n e : Int32) : Int32 := if (1 ≤ n.toInt ∧ n.toInt ≤ 90) ∧ (1 ≤ e.toInt ∧ e.toInt ≤ 30) then wickL A n.toInt.toNat e.toInt.toNat 10 0 0 0 else -2
theorem c_wick (hA : CS M A τ) {n e : Int32} (h : ∀ τ', CS M A τ' → posti (wickF A n e) τ') : w_X6_wick M posti n e τ := by
  unfold wickF at h
  have bad : ¬ ((1 ≤ n.toInt ∧ n.toInt ≤ 90) ∧ (1 ≤ e.toInt ∧ e.toInt ≤ 30)) → posti (-2) τ := fun q => by rw [if_neg q] at h; exact h τ hA
  unfold w_X6_wick
  refine brl i_1 (fun q => bad (by omega)) (fun q1 => brg (c := 90) (n := 90) (by decide) (fun q => bad (by omega)) (fun q2 => c_isEvery (fun d => br_f (by decide) ?_) (fun d => br_t rfl (bad (fun z => d z.2)))))
  rw [if_pos ⟨⟨by omega, by omega⟩, d⟩] at h
  obtain ⟨a, ha, rfl⟩ := as_nI (s := n) (n := 90) (by omega)
  obtain ⟨b, hb, rfl⟩ := as_nI (s := e) (n := 30) (by omega)
  rw [i_nI (by omega), i_nI (by omega)] at h
  have eb := nI_toInt (n := b) (by omega)
  exact k_cook hA (Nat.le_refl _) (CS_na hA) (fun τ1 h1 => ⟨11, c_wickL ha (by omega) 10 0 0 0 τ1 rfl h1.1 h1.2.1 h⟩)
theorem m_wick (hV : Bd A) (hW : VA A) (hA : MS A τ) {n e : Int32} (h : ∀ τ', MS A τ' → posti (wickF A n e) τ') : w_X7_wick 20 posti n e τ := by
  unfold wickF at h
  have bad : ¬ ((1 ≤ n.toInt ∧ n.toInt ≤ 90) ∧ (1 ≤ e.toInt ∧ e.toInt ≤ 30)) → posti (-2) τ := fun q => by rw [if_neg q] at h; exact h τ hA
  unfold w_X7_wick
  refine m_in' (lo := 1) (hi := 90) (by decide) (by decide) (fun c => br_f (by decide) (m_in' (lo := 1) (hi := 30) (by decide) (by decide) (fun d => br_f (by decide) ?_) (fun q => br_t rfl (bad (fun z => q z.2))))) (fun q => br_t rfl (bad (fun z => q z.1)))
  rw [if_pos ⟨c, d⟩] at h
  obtain ⟨a, ha, rfl⟩ := as_nI (s := n) (n := 90) (by omega)
  obtain ⟨b, hb, rfl⟩ := as_nI (s := e) (n := 30) (by omega)
  rw [i_nI (by omega), i_nI (by omega)] at h
  have eb := nI_toInt (n := b) (by omega)
  exact ⟨11, m_wickL hV hW ha (by omega) 10 0 0 (-1) τ rfl hA (by rw [wickL_first ha]; exact h)⟩
end TABLE
