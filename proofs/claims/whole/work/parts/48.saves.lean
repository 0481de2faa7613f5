/-! what saves it, what it was, which order, by how many strokes -/
section SAVES
variable {M : Nat} {A : Ab} {post : St → Prop} {posti : Int32 → St → Prop} {τ : St} {P : Pt}
theorem k_like (hA : CS M A τ) {L : Lw} (hP : PotAt M 12 L P τ) (h : ∀ τ', CS M A τ' → PotAt M 12 L P τ' → PotAt M 14 L P τ' → (∀ k, gi τ' 16 k = gi τ 16 k) → post τ') : w_X3_becomeLike M post 14 12 τ := by
  have hM := hA.2.2.2.2.2.2.2.1
  have h8 := hA.2.2.2.2.2.2.2.2.2
  obtain ⟨p1, p2, r, hr, hL⟩ := id hP
  rw [← pu_self τ 14]
  refine c_becomeLike (kd12 M 14 hM (Or.inr rfl)) (kd12 M 12 hM (Or.inl rfl)) (by decide) (Q := P) p1 p2 ?_
  have hσ : ∀ a k, gi (sr τ 14 1 (gr τ 12 1)) a k = gi τ a k := fun _ _ => rfl
  have hgr : ∀ a k, a ≠ 14 → gr (sr τ 14 1 (gr τ 12 1)) a k = gr τ a k := fun a k ha => by simp [gr, sr, ha]
  have hg14 : gr (sr τ 14 1 (gr τ 12 1)) 14 1 = gr τ 12 1 := by simp [gr, sr]
  refine h _ (CS_frame hA (fun a k ha => by rw [gi_pu_n (by omega) (by omega)]; rfl) (fun k => by rw [gr_pu]; exact hgr 3 k (by omega)) (fun r' hr' => ?_) (fun r' hr' => ?_) (fun _ => rfl)) ?_ ?_ (fun k => by rw [gi_pu_n (by omega) (by omega)]; rfl)
  · rw [gr_pu, hgr 12 1 (by omega)] at hr'
    exact h8.2.1 r' hr'
  · rw [gr_pu, hg14] at hr'
    exact h8.2.1 r' hr'
  · exact ⟨fun k hk => by rw [gi_pu_n (by omega) (by omega)]; exact p1 k hk, by rw [gl_pu_n (by omega)]; exact p2, r, by rw [gr_pu, hgr _ _ (by omega)]; exact hr, LawAt_frame hL (Nat.le_refl M) (fun a k h1 _ => by rw [gi_pu_n (by omega) (by omega)]; rfl) (fun a _ => rfl)⟩
  · exact ⟨fun k hk => gi_pu_o hk, gl_pu, r, by rw [gr_pu, hg14]; exact hr, LawAt_frame hL (Nat.le_refl M) (fun a k h1 _ => by rw [gi_pu_n (by omega) (by omega)]; rfl) (fun a _ => rfl)⟩
theorem k_trial (hA : CS M A τ) {L : Lw} (hP : PotAt M 12 L P τ) {a b c : Int32} (h : ∀ τ', CS M A τ' → PotAt M 12 L P τ' → gi τ' 16 0 = a → gi τ' 16 1 = b → gi τ' 16 2 = c → post τ') : w_X0_become M post 16 a b c τ := by
  have hM := hA.2.2.2.2.2.2.2.1
  have h8 := hA.2.2.2.2.2.2.2.2.2
  obtain ⟨p1, p2, r, hr, hL⟩ := id hP
  unfold w_X0_become
  refine ⟨⟨by decide, by omega⟩, fun σ1 e1 σ2 e2 σ3 e3 => ?_⟩
  have fr : ∀ x y, x ≠ 16 → gi σ3 x y = gi τ x y := fun x y hx => by rw [e3, gso hx, e2, gso hx, e1, gso hx]
  have frr : σ3.2 = τ.2 := by rw [e3, e2, e1]; rfl
  have fgr : ∀ x y, gr σ3 x y = gr τ x y := fun x y => by unfold gr; rw [frr]
  have fgl : ∀ x, gl σ3 x = gl τ x := fun x => by unfold gl; rw [frr]
  have fgz : ∀ x, gz σ3 x = gz τ x := fun x => by unfold gz; rw [frr]
  refine h σ3 (CS_frame hA (fun x y hx => fr x y (by omega)) (fun k => fgr 3 k) (fun r' hr' => h8.2.1 r' (by rw [← fgr]; exact hr')) (fun r' hr' => h8.2.2 r' (by rw [← fgr]; exact hr')) fgz) ?_ ?_ ?_ ?_
  · exact ⟨fun k hk => by rw [fr _ _ (by omega)]; exact p1 k hk, by rw [fgl]; exact p2, r, by rw [fgr]; exact hr, LawAt_frame hL (Nat.le_refl M) (fun x k h1 _ => fr _ _ (by omega)) (fun x _ => fgz x)⟩
  · rw [e3, gsk (by decide), e2, gsk (by decide), e1, gss]
  · rw [e3, gsk (by decide), e2, gss]
  · rw [e3, gss]
theorem k_under16 (hA : CS M A τ) {L : Lw} (hP : PotAt M 14 L P τ) {q : Option Nat} {a b c : Int32} (ha : gi τ 16 0 = a) (hb : gi τ 16 1 = b) (hc : gi τ 16 2 = c) (hq : (q = none ∧ chO A c = none) ∨ ∃ oc f, q = some oc ∧ chO A c = some f ∧ (kdC oc = 1 ∧ oc < M) ∧ (oc + 1 ≠ 14 ∧ oc + 1 ≠ 14 + 1) ∧ ∀ k, k < 5 → gi τ (oc + 1) k = f k) (h : ∀ τ', Kp M A 14 L (underF L a b c (chO A c) P) τ τ' → post τ') : w_X3_undergo M post 14 16 q τ := by
  have hM := hA.2.2.2.2.2.2.2.1
  have hk := kd12 M 14 hM (Or.inr rfl)
  obtain ⟨-, -, r, hr, hL⟩ := id hP
  have hτ := PotAt_eq hP
  rw [hτ]
  refine c_under hk (by omega) hr hL ⟨by decide, by omega⟩ (by omega) hq (fun f' => ?_)
  rw [ha, hb, hc]
  exact h _ (Kp_pu (Or.inr rfl) hA hP)
def saveP (A : Ab) (P : Pt) (a c : Int32) (j : Nat) : Pt := underF (lawF A) (nI j) a c (chO A c) P
def saveL (A : Ab) (P : Pt) (a c : Int32) : Nat → Nat → Int32 → Int32 → Int32 → Int32 × Int32 × Int32
  | 0, _, b, l, h => (b, l, h)
  | k + 1, j, b, l, h => if b = -1 ∨ ¬ l ≤ (saveP A P a c j).1 11 then saveL A P a c k (j + 1) (nI j) ((saveP A P a c j).1 11) (holdF (saveP A P a c j)) else saveL A P a c k (j + 1) b l h
def pick3 (w : Int32) (q : Int32 × Int32 × Int32) : Int32 := if w = 0 then q.1 else if w = 1 then q.2.1 else q.2.2
theorem c_saveL {how what : Int32} : ∀ (k j : Nat) (b l hh : Int32) (τ : St), j + k = 6 → CS M A τ → PotAt M 12 (lawF A) P τ → (hh = 0 ∨ hh = 1) → (∀ τ', CS M A τ' → posti (pick3 what (saveL A P (how / 10) (how - how / 10 * 10) k j b l hh)) τ') → wl_X6_save_50 M posti (k + 1) how what b l hh (nI j) τ := by
  intro k
  induction k with
  | zero =>
    intro j b l hh τ hj hA hP h01 h
    have hj : j = 6 := hj
    subst hj
    have h := h τ hA
    unfold pick3 saveL at h
    show w_X6_save_50 M posti _ how what b l hh (nI 6) τ
    unfold w_X6_save_50
    refine br_t (by decide) ⟨fun c => ?_, fun c => ⟨fun d => ?_, fun d => ?_⟩⟩
    · rw [if_pos c] at h; exact h
    · rw [if_neg c, if_pos d] at h; exact h
    · rw [if_neg c, if_neg d] at h
      have h : posti hh τ := h
      rcases h01 with e | e
      · rw [e] at h ⊢; exact br_t rfl h
      · rw [e] at h ⊢; exact br_f (by decide) h
  | succ k ih =>
    intro j b l hh τ hj hA hP h01 h
    show w_X6_save_50 M posti _ how what b l hh (nI j) τ
    unfold w_X6_save_50
    refine br_f (nI_ge (b := 6) (by omega) (by decide)) (k_trial hA hP (fun τ1 hA1 hP1 t0 t1 t2 => k_like hA1 hP1 (fun τ2 hA2 hP2 hQ2 g16 => ?_)))
    rw [g16 2, t2]
    refine chO_hq (o := 14) (Or.inr rfl) hA2 (fun q hq => k_under16 hA2 hQ2 ((g16 0).trans t0) ((g16 1).trans t1) ((g16 2).trans t2) hq (fun τ3 h3 => ?_))
    have hP3 : PotAt M 12 (lawF A) P τ3 := h3.2.2.1 _ _ hP2
    have o3 : gi τ3 14 11 = (saveP A P (how / 10) (how - how / 10 * 10) j).1 11 := PotAt_oil h3.2.1
    unfold saveL at h
    have take : (b = -1 ∨ ¬ l ≤ (saveP A P (how / 10) (how - how / 10 * 10) j).1 11) → w_X6_save_125 M posti (wl_X6_save_50 M posti (k + 1)) how what (nI j) τ3 := by
      intro c
      rw [if_pos c] at h
      unfold w_X6_save_125
      refine k_holds (Or.inr rfl) h3.1 h3.2.1 (fun x3 e3 => ?_)
      rw [e3, nI_1, o3]
      exact ih (j + 1) _ _ _ τ3 (by omega) h3.1 hP3 (hold_01 _) h
    rw [o3]
    refine ⟨fun c => take (Or.inl c), fun c => ⟨fun d x12 e12 => ?_, fun d => take (Or.inr d)⟩⟩
    rw [if_neg (fun z => z.elim c (fun y => y d))] at h
    rw [e12, nI_1]
    exact ih (j + 1) b l hh τ3 (by omega) h3.1 hP3 h01 h
theorem m_saveL (hV : Bd A) (hW : VA A) {n : Nat} (hn : n ≤ aNa A) {how what : Int32} (hhow : 0 ≤ how.toInt ∧ how.toInt ≤ 99) : ∀ (k j : Nat) (b l hh : Int32) (τ : St), j + k = 6 → MS A τ → (b = -1 ∨ 0 ≤ b) → (∀ τ', MS A τ' → posti (pick3 what (saveL A (cookF A n) (how / 10) (how - how / 10 * 10) k j b l hh)) τ') → wl_X7_save_50 20 posti (k + 1) (nI n) how what b l hh (nI j) τ := by
  intro k
  have h12 := hV.2.1
  obtain ⟨w, hw, rfl⟩ := as_nI (s := how) (n := 99) hhow
  have ed : nI w / 10 = nI (w / 10) := i_div (b := 10) (by omega) (by decide) (by decide)
  have em : nI w - nI w / 10 * 10 = nI (w % 10) := i_mod (b := 10) (by omega) (by decide) (by decide)
  have b1 := nI_toInt (n := w / 10) (by omega)
  have b2 := nI_toInt (n := w % 10) (by omega)
  induction k with
  | zero =>
    intro j b l hh τ hj hA h01 h
    have hj : j = 6 := hj
    subst hj
    have h := h τ hA
    unfold pick3 saveL at h
    show w_X7_save_50 20 posti _ (nI n) (nI w) what b l hh (nI 6) τ
    unfold w_X7_save_50
    refine br_t (by decide) ⟨fun c => ?_, fun c => ⟨fun d => ?_, fun d => ?_⟩⟩
    · rw [if_pos c] at h; exact h
    · rw [if_neg c, if_pos d] at h; exact h
    · rw [if_neg c, if_neg d] at h; exact h
  | succ k ih =>
    intro j b l hh τ hj hA h01 h
    have bj := nI_toInt (n := j) (by omega)
    show w_X7_save_50 20 posti _ (nI n) (nI w) what b l hh (nI j) τ
    unfold w_X7_save_50
    have hok : okA (nI j) (nI w / 10) (nI w - nI w / 10 * 10) := by
      rw [em, ed]
      unfold okA
      omega
    have hR := PIr_mono (k' := 1) (m' := 1) (PIr_cook hV hW hn) (by omega) (by omega)
    refine br_f (nI_nlt (a := 5) (b := j) (by omega) (by decide)) (km_goes hV hW hA hn rfl (fun τ1 h1 => q_does hV hW h1.1 h1.2.1 hR hok (fun τ3 h3 => ?_)))
    have o3 : gi τ3 13 4 = (saveP A (cookF A n) (nI w / 10) (nI w - nI w / 10 * 10) j).1 11 := PotM_oil h3.2.1
    have hR3 : PIr 0 1 (saveP A (cookF A n) (nI w / 10) (nI w - nI w / 10 * 10) j) := PIr_under hW hok hR
    unfold saveL at h
    have take : (b = -1 ∨ ¬ l ≤ (saveP A (cookF A n) (nI w / 10) (nI w - nI w / 10 * 10) j).1 11) → w_X7_save_91 20 posti (wl_X7_save_50 20 posti (k + 1)) (nI n) (nI w) what (nI j) τ3 := by
      intro c
      rw [if_pos c] at h
      unfold w_X7_save_91
      refine q_holds hV h3.1 h3.2.1 hR3 (fun τ4 h4 => ?_)
      rw [o3]
      rcases hold_01 (saveP A (cookF A n) (nI w / 10) (nI w - nI w / 10 * 10) j) with e | e
      · rw [e] at h
        refine br_t e (fun x4 e4 => ?_)
        rw [e4, nI_1]
        exact ih (j + 1) _ _ _ τ4 (by omega) h4.1 (Or.inr (nI_pos' (by omega))) h
      · rw [e] at h
        refine br_f (fun z => by rw [show holdF (underF (lawF A) (nI j) (nI w / 10) (nI w - nI w / 10 * 10) (chO A (nI w - nI w / 10 * 10)) (cookF A n)) = 1 from e] at z; exact absurd z (by decide)) (fun x4 e4 => ?_)
        rw [e4, nI_1]
        exact ih (j + 1) _ _ _ τ4 (by omega) h4.1 (Or.inr (nI_pos' (by omega))) h
    rw [o3]
    refine ⟨fun c => take (Or.inl ?_), fun c => ⟨fun d x8 e8 => ?_, fun d => take (Or.inr d)⟩⟩
    · rcases h01 with z | z
      · exact z
      · exact absurd c (Int32.not_lt.mpr z)
    · rw [if_neg (fun z => z.elim (fun y => c (by rw [y]; decide)) (fun y => y d))] at h
      rw [e8, nI_1]
      exact ih (j + 1) b l hh τ3 (by omega) h3.1 h01 h
def saveF (A : Ab) (n how what : Int32) : Int32 := if 0 ≤ n.toInt ∧ n.toInt ≤ (aNa A : Int) then (if (0 ≤ how.toInt ∧ how.toInt ≤ 99) ∧ (0 ≤ what.toInt ∧ what.toInt ≤ 2) then pick3 what (saveL A (cookF A n.toInt.toNat) (how / 10) (how - how / 10 * 10) 6 0 (-1) 0 0) else -7) else -5
theorem c_save (hA : CS M A τ) {n how what : Int32} (h : ∀ τ', CS M A τ' → posti (saveF A n how what) τ') : w_X6_save M posti n how what τ := by
  have h12 := hA.2.1.2.1
  unfold saveF at h
  unfold w_X6_save
  refine c_hasActs hA (fun c => br_f (by decide) ?_) (fun c => br_t rfl ?_)
  · rw [if_pos c] at h
    obtain ⟨j, hj, rfl⟩ := as_nI c
    rw [i_nI (by omega)] at h
    have bad : ¬ ((0 ≤ how.toInt ∧ how.toInt ≤ 99) ∧ (0 ≤ what.toInt ∧ what.toInt ≤ 2)) → posti (-7) τ := fun q => by rw [if_neg q] at h; exact h τ hA
    refine brl z0' (fun q => bad (by omega)) (fun q1 => brg (c := 99) (n := 99) (by decide) (fun q => bad (by omega)) (fun q2 => brl z0' (fun q => bad (by omega)) (fun q3 => brle (c := 2) (n := 2) (by decide) (fun q4 => ?_) (fun q => bad (by omega)))))
    rw [if_pos ⟨⟨by omega, by omega⟩, by omega, q4⟩] at h
    exact k_cook hA hj rfl (fun τ1 h1 => ⟨7, c_saveL 6 0 (-1) 0 0 τ1 rfl h1.1 h1.2.1 (Or.inl rfl) h⟩)
  · rw [if_neg c] at h; exact h τ hA
theorem m_save (hV : Bd A) (hW : VA A) (hA : MS A τ) {n how what : Int32} (h : ∀ τ', MS A τ' → posti (saveF A n how what) τ') : w_X7_save 20 posti n how what τ := by
  have h12 := hV.2.1
  unfold saveF at h
  unfold w_X7_save
  refine m_areActs hV hA (fun c => br_f (by decide) (m_in' (lo := 0) (hi := 99) (by decide) (by decide) (fun d => br_f (by decide) (m_in' (lo := 0) (hi := 2) (by decide) (by decide) (fun e => br_f (by decide) ?_) (fun e => br_t rfl ?_))) (fun d => br_t rfl ?_))) (fun c => br_t rfl ?_)
  · rw [if_pos c, if_pos ⟨d, e⟩] at h
    obtain ⟨j, hj, rfl⟩ := as_nI c
    rw [i_nI (by omega)] at h
    exact ⟨7, m_saveL hV hW hj d 6 0 (-1) 0 0 τ rfl hA (Or.inl rfl) h⟩
  · rw [if_pos c, if_neg (fun z => e z.2)] at h; exact h τ hA
  · rw [if_pos c, if_neg (fun z => d z.1)] at h; exact h τ hA
  · rw [if_neg c] at h; exact h τ hA
/-! why: which act left out saves it -/
def seqF (A : Ab) (L : Lw) (s : Nat → Option Nat) : Nat → Nat → Pt → Pt
  | 0, _, P => P
  | k + 1, i, P => seqF A L s k (i + 1) (match s i with | none => P | some a => oneF A L a P)
theorem seqF_add {L : Lw} {s : Nat → Option Nat} (b : Nat) : ∀ (a i : Nat) (P : Pt), seqF A L s (a + b) i P = seqF A L s b (i + a) (seqF A L s a i P) := by
  intro a
  induction a with
  | zero => intro i P; rw [Nat.zero_add]; rfl
  | succ a ih =>
    intro i P
    rw [show a + 1 + b = (a + b) + 1 by omega]
    show seqF A L s (a + b) (i + 1) _ = seqF A L s b (i + (a + 1)) (seqF A L s a (i + 1) _)
    rw [ih, show i + 1 + a = i + (a + 1) by omega]
theorem seqF_id {L : Lw} {s : Nat → Option Nat} : ∀ (k i : Nat) (P : Pt), (∀ j, i ≤ j → j < i + k → s j = some j) → seqF A L s k i P = actsF A L i k P := by
  intro k
  induction k with
  | zero => intro i P _; rfl
  | succ k ih =>
    intro i P h
    show seqF A L s k (i + 1) (match s i with | none => P | some a => oneF A L a P) = actsF A L (i + 1) k (oneF A L i P)
    rw [h i (Nat.le_refl _) (by omega)]
    exact ih (i + 1) _ (fun j h1 h2 => h j (by omega) (by omega))
def skp (b : Nat) (i : Nat) : Option Nat := if i = b then none else some i
def butF (A : Ab) (n b : Nat) : Pt := actsF A (lawF A) (b + 1) (n - (b + 1)) (actsF A (lawF A) 0 b (begF A))
theorem skp_but {n b : Nat} (hb : b < n) : seqF A (lawF A) (skp b) n 0 (begF A) = butF A n b := by
  rw [show n = b + (1 + (n - (b + 1))) by omega, seqF_add, seqF_add, seqF_id b 0 _ (fun j h1 h2 => by unfold skp; rw [if_neg (by omega)]), seqF_id (n - (b + 1)) _ _ (fun j h1 h2 => by unfold skp; rw [if_neg (by omega)])]
  unfold butF
  rw [show b + (1 + (n - (b + 1))) - (b + 1) = n - (b + 1) by omega, Nat.zero_add]
  have e : ∀ Q : Pt, seqF A (lawF A) (skp b) 1 b Q = Q := by
    intro Q
    show (match skp b b with | none => Q | some a => oneF A (lawF A) a Q) = Q
    unfold skp
    rw [if_pos rfl]
  rw [e]
def whyL (A : Ab) (n : Nat) : Nat → Nat → Int32
  | 0, _ => -1
  | k + 1, j => if holdF (butF A n j) = 0 then whyL A n k (j + 1) else nI j
theorem c_whyL {n : Nat} (hn : n ≤ aNa A) : ∀ (k j : Nat) (τ : St), j + k = n → CS M A τ → (∀ τ', CS M A τ' → posti (whyL A n k j) τ') → wl_X6_why_30 M posti (k + 1) (nI n) (nI j) τ := by
  intro k
  induction k with
  | zero =>
    intro j τ hj hA h
    have hj : j = n := hj
    subst hj
    exact br_t (Int32.le_refl _) (h τ hA)
  | succ k ih =>
    intro j τ hj hA h
    have h12 := hA.2.1.2.1
    show w_X6_why_30 M posti _ (nI n) (nI j) τ
    unfold w_X6_why_30
    unfold whyL at h
    refine br_f (nI_ge (by omega) (by omega)) (k_beginPot hA (fun τ1 h1 => k_runActs h1.1 h1.2.1 (i := 0) (n := j) (by omega) (by omega) rfl rfl (fun τ2 h2 => k_runActs h2.1 h2.2.1 (i := j + 1) (n := n) (by omega) hn (nI_1 j) rfl (fun τ3 h3 => k_holds (Or.inl rfl) h3.1 h3.2.1 ⟨fun c x8 e8 => ?_, fun c => ?_⟩))))
    · rw [if_pos (show holdF (butF A n j) = 0 from c)] at h
      rw [e8, nI_1]
      exact ih (j + 1) τ3 (by omega) h3.1 h
    · rw [if_neg (show ¬ holdF (butF A n j) = 0 from c)] at h
      exact h τ3 h3.1
theorem m_whyI (hV : Bd A) (hW : VA A) {n b : Nat} (hn : n ≤ aNa A) {k27 : Int32 → Int32 → St → Prop} : ∀ (k i : Nat) (P : Pt) (τ : St), i + k = n → MS A τ → PotM P τ → PIr k 1 P → (∀ τ', MS A τ' → (holdF (seqF A (lawF A) (skp b) k i P) = 0 → k27 (nI n) (nI (b + 1)) τ') ∧ (¬ holdF (seqF A (lawF A) (skp b) k i P) = 0 → posti (nI b) τ')) → b < n → wl_X7_why_38 20 posti k27 (k + 1) (nI n) (nI b) (nI i) τ := by
  have h12 := hV.2.1
  intro k
  induction k with
  | zero =>
    intro i P τ hi hA hP hR h hb
    have hi : i = n := hi
    subst hi
    show w_X7_why_38 20 posti k27 _ (nI i) (nI b) (nI i) τ
    unfold w_X7_why_38
    refine br_t (Int32.le_refl _) (q_holds hV hA hP hR (fun τ1 h1 => ⟨fun c x5 e5 => ?_, fun c => ?_⟩))
    · rw [e5, nI_1]; exact (h τ1 h1.1).1 c
    · exact (h τ1 h1.1).2 c
  | succ k ih =>
    intro i P τ hi hA hP hR h hb
    show w_X7_why_38 20 posti k27 _ (nI n) (nI b) (nI i) τ
    unfold w_X7_why_38
    unfold seqF at h
    refine br_f (nI_ge (by omega) (by omega)) ⟨fun c x7 e7 => ?_, fun c => ?_⟩
    · have e : i = b := by
        have := congrArg Int32.toInt c
        rw [nI_toInt (by omega), nI_toInt (by omega)] at this
        omega
      have es : skp b i = none := by unfold skp; rw [if_pos e]
      rw [es] at h
      rw [e7, nI_1]
      exact ih (i + 1) P τ (by omega) hA hP (PIr_mono hR (by omega) (by omega)) h hb
    · have e : ¬ i = b := fun q => c (by rw [q])
      have es : skp b i = some i := by unfold skp; rw [if_neg e]
      rw [es] at h
      refine q_act hV hW hA hP hR (by omega) (fun τ1 h1 x9 e9 => ?_)
      rw [e9, nI_1]
      exact ih (i + 1) _ τ1 (by omega) h1.1 h1.2.1 (PIr_one hW (by omega) hR) h hb
theorem m_whyL (hV : Bd A) (hW : VA A) {n : Nat} (hn : n ≤ aNa A) : ∀ (k j : Nat) (τ : St), j + k = n → MS A τ → (∀ τ', MS A τ' → posti (whyL A n k j) τ') → wl_X7_why_27 20 posti (k + 1) (nI n) (nI j) τ := by
  have h12 := hV.2.1
  intro k
  induction k with
  | zero =>
    intro j τ hj hA h
    have hj : j = n := hj
    subst hj
    exact br_t (Int32.le_refl _) (h τ hA)
  | succ k ih =>
    intro j τ hj hA h
    show w_X7_why_27 20 posti _ (nI n) (nI j) τ
    unfold w_X7_why_27
    unfold whyL at h
    refine br_f (nI_ge (by omega) (by omega)) (km_begins hA (fun τ1 h1 => ⟨n + 1, m_whyI hV hW hn n 0 _ τ1 (by omega) h1.1 h1.2.1 (PIr_mono (PIr_beg hW) (by omega) (by omega)) (fun τ2 h2 => ?_) (by omega)⟩))
    rw [skp_but (show j < n by omega)]
    refine ⟨fun c => ?_, fun c => ?_⟩
    · rw [if_pos c] at h
      exact ih (j + 1) τ2 (by omega) h2 h
    · rw [if_neg c] at h; exact h τ2 h2
def whyF (A : Ab) (n : Int32) : Int32 := if 0 ≤ n.toInt ∧ n.toInt ≤ (aNa A : Int) then (if holdF (cookF A n.toInt.toNat) = 0 then whyL A n.toInt.toNat n.toInt.toNat 0 else -1) else -5
theorem c_why (hA : CS M A τ) {n : Int32} (h : ∀ τ', CS M A τ' → posti (whyF A n) τ') : w_X6_why M posti n τ := by
  have h12 := hA.2.1.2.1
  unfold whyF at h
  unfold w_X6_why
  refine c_hasActs hA (fun c => br_f (by decide) ?_) (fun c => br_t rfl ?_)
  · rw [if_pos c] at h
    obtain ⟨j, hj, rfl⟩ := as_nI c
    rw [i_nI (by omega)] at h
    refine k_cook hA hj rfl (fun τ1 h1 => k_holds (Or.inl rfl) h1.1 h1.2.1 ⟨fun d => ?_, fun d => ?_⟩)
    · rw [if_pos d] at h
      exact ⟨j + 1, c_whyL hj j 0 τ1 (by omega) h1.1 h⟩
    · rw [if_neg d] at h; exact h τ1 h1.1
  · rw [if_neg c] at h; exact h τ hA
theorem m_why (hV : Bd A) (hW : VA A) (hA : MS A τ) {n : Int32} (h : ∀ τ', MS A τ' → posti (whyF A n) τ') : w_X7_why 20 posti n τ := by
  have h12 := hV.2.1
  unfold whyF at h
  unfold w_X7_why
  refine m_areActs hV hA (fun c => br_f (by decide) ?_) (fun c => br_t rfl ?_)
  · rw [if_pos c] at h
    obtain ⟨j, hj, rfl⟩ := as_nI c
    rw [i_nI (by omega)] at h
    refine km_goes hV hW hA hj rfl (fun τ1 h1 => q_holds hV h1.1 h1.2.1 (PIr_cook hV hW hj) (fun τ2 h2 => ⟨fun d => ?_, fun d => ?_⟩))
    · rw [if_pos d] at h
      exact ⟨j + 1, m_whyL hV hW hj j 0 τ2 (by omega) h2.1 h⟩
    · rw [if_neg d] at h; exact h τ2 h2.1
  · rw [if_neg c] at h; exact h τ hA
/-! the order: two neighbours changed -/
def swp (b : Nat) (i : Nat) : Option Nat := if i = b then some (b + 1) else if i = b + 1 then some b else some i
def swpF (A : Ab) (n b : Nat) : Pt := actsF A (lawF A) (b + 2) (n - (b + 2)) (oneF A (lawF A) b (oneF A (lawF A) (b + 1) (actsF A (lawF A) 0 b (begF A))))
theorem swp_F {n b : Nat} (hb : b + 1 < n) : seqF A (lawF A) (swp b) n 0 (begF A) = swpF A n b := by
  rw [show n = b + (2 + (n - (b + 2))) by omega, seqF_add, seqF_add, seqF_id b 0 _ (fun j h1 h2 => by unfold swp; rw [if_neg (by omega), if_neg (by omega)]), seqF_id (n - (b + 2)) _ _ (fun j h1 h2 => by unfold swp; rw [if_neg (by omega), if_neg (by omega)])]
  unfold swpF
  rw [show b + (2 + (n - (b + 2))) - (b + 2) = n - (b + 2) by omega, Nat.zero_add]
  have e : ∀ Q : Pt, seqF A (lawF A) (swp b) 2 b Q = oneF A (lawF A) b (oneF A (lawF A) (b + 1) Q) := by
    intro Q
    show (match swp b (b + 1) with | none => (match swp b b with | none => Q | some a => oneF A (lawF A) a Q) | some a => oneF A (lawF A) a (match swp b b with | none => Q | some a => oneF A (lawF A) a Q)) = _
    unfold swp
    rw [if_pos rfl, if_neg (by omega), if_pos rfl]
  rw [e]
def ordL (A : Ab) (n : Nat) : Nat → Nat → Int32 → Int32 → Int32 × Int32
  | 0, _, l, b => (b, l)
  | k + 1, j, l, b => if l ≤ (swpF A n j).1 11 then ordL A n k (j + 1) l b else ordL A n k (j + 1) ((swpF A n j).1 11) (nI j)
def pick2 (w : Int32) (q : Int32 × Int32) : Int32 := if w = 0 then q.1 else q.2
theorem c_ordL {w : Int32} : ∀ (k j : Nat) (l b : Int32) (τ : St), j + k = aNa A - 1 → CS M A τ → (∀ τ', CS M A τ' → posti (pick2 w (ordL A (aNa A) k j l b)) τ') → wl_X6_order_31 M posti (k + 1) w l b (nI j) τ := by
  intro k
  induction k with
  | zero =>
    intro j l b τ hj hA h
    have h12 := hA.2.1.2.1
    have hj : j = aNa A - 1 := hj
    show w_X6_order_31 M posti _ w l b (nI j) τ
    unfold w_X6_order_31
    rw [CS_na hA, nI_1]
    have h := h τ hA
    unfold pick2 ordL at h
    have e1 := nI_toInt (n := aNa A) (by omega)
    have e2 := nI_toInt (n := j + 1) (by omega)
    refine br_t (by rw [il, e1, e2]; omega) ⟨fun c => ?_, fun c => ?_⟩
    · rw [if_pos c] at h; exact h
    · rw [if_neg c] at h; exact h
  | succ k ih =>
    intro j l b τ hj hA h
    have h12 := hA.2.1.2.1
    show w_X6_order_31 M posti _ w l b (nI j) τ
    unfold w_X6_order_31
    rw [CS_na hA, nI_1]
    unfold ordL at h
    refine br_f (nI_ge (by omega) (by omega)) (k_beginPot hA (fun τ1 h1 => k_runActs h1.1 h1.2.1 (i := 0) (n := j) (by omega) (by omega) rfl rfl (fun τ2 h2 => ?_)))
    have e2 : nI j + 2 = nI (j + 1) + 1 := by rw [nI_1, show (2 : Int32) = nI 2 from rfl, nI_add]
    rw [e2]
    refine k_one h2.1 h2.2.1 (i := j + 1) (by omega) (fun τ3 h3 => ?_)
    rw [← nI_1 j]
    refine k_one h3.1 h3.2.1 (i := j) (by omega) (fun τ4 h4 => ?_)
    rw [CS_na h4.1, nI_1, nI_1]
    refine k_runActs h4.1 h4.2.1 (i := j + 2) (n := aNa A) (by omega) (Nat.le_refl _) rfl rfl (fun τ5 h5 => ?_)
    have o5 : gi τ5 12 11 = (swpF A (aNa A) j).1 11 := PotAt_oil h5.2.1
    rw [o5]
    refine ⟨fun c x9 e9 => ?_, fun c x10 e10 => ?_⟩
    · rw [if_pos c] at h
      rw [e9]
      exact ih (j + 1) l b τ5 (by omega) h5.1 h
    · rw [if_neg c] at h
      rw [e10]
      exact ih (j + 1) _ _ τ5 (by omega) h5.1 h
theorem m_ordI (hV : Bd A) (hW : VA A) {b : Nat} (hb : b + 1 < aNa A) {k33 : Int32 → Int32 → Int32 → Int32 → St → Prop} {w l bb : Int32} : ∀ (k i : Nat) (P : Pt) (τ : St), i + k = aNa A → MS A τ → PotM P τ → PIr k 1 P → (∀ τ', MS A τ' → (l ≤ (seqF A (lawF A) (swp b) k i P).1 11 → k33 w l bb (nI (b + 1)) τ') ∧ (¬ l ≤ (seqF A (lawF A) (swp b) k i P).1 11 → k33 w ((seqF A (lawF A) (swp b) k i P).1 11) (nI b) (nI (b + 1)) τ')) → wl_X7_order_51 20 posti k33 (k + 1) w l bb (nI b) (nI i) τ := by
  have h12 := hV.2.1
  intro k
  induction k with
  | zero =>
    intro i P τ hi hA hP hR h
    have hi : i = aNa A := hi
    subst hi
    show w_X7_order_51 20 posti k33 _ w l bb (nI b) (nI (aNa A)) τ
    unfold w_X7_order_51
    rw [MS_na hA, PotM_oil hP]
    refine br_t (Int32.le_refl _) ⟨fun c x3 e3 => ?_, fun c x4 e4 => ?_⟩
    · rw [e3, nI_1]; exact (h τ hA).1 c
    · rw [e4, nI_1]; exact (h τ hA).2 c
  | succ k ih =>
    intro i P τ hi hA hP hR h
    show w_X7_order_51 20 posti k33 _ w l bb (nI b) (nI i) τ
    unfold w_X7_order_51
    unfold seqF at h
    rw [MS_na hA, nI_1]
    have ne : ∀ x : Nat, x < 100 → (nI i = nI x ↔ i = x) := by
      intro x hx
      rw [ieq, nI_toInt (by omega), nI_toInt (by omega)]
      omega
    refine br_f (nI_ge (by omega) (by omega)) ⟨fun c => ?_, fun c => ⟨fun d => ?_, fun d => ?_⟩⟩
    · have e := (ne b (by omega)).mp c
      have es : swp b i = some (b + 1) := by unfold swp; rw [if_pos e]
      rw [es] at h
      refine q_act hV hW hA hP hR (i := b + 1) (by omega) (fun τ1 h1 x9 e9 => ?_)
      rw [e9, nI_1]
      exact ih (i + 1) _ τ1 (by omega) h1.1 h1.2.1 (PIr_one hW (by omega) hR) h
    · have e0 : ¬ i = b := fun q => c ((ne b (by omega)).mpr q)
      have e := (ne (b + 1) (by omega)).mp d
      have es : swp b i = some b := by unfold swp; rw [if_neg e0, if_pos e]
      rw [es] at h
      refine q_act hV hW hA hP hR (i := b) (by omega) (fun τ1 h1 x9 e9 => ?_)
      rw [e9, nI_1]
      exact ih (i + 1) _ τ1 (by omega) h1.1 h1.2.1 (PIr_one hW (by omega) hR) h
    · have e0 : ¬ i = b := fun q => c ((ne b (by omega)).mpr q)
      have e1 : ¬ i = b + 1 := fun q => d ((ne (b + 1) (by omega)).mpr q)
      have es : swp b i = some i := by unfold swp; rw [if_neg e0, if_neg e1]
      rw [es] at h
      refine q_act hV hW hA hP hR (i := i) (by omega) (fun τ1 h1 x9 e9 => ?_)
      rw [e9, nI_1]
      exact ih (i + 1) _ τ1 (by omega) h1.1 h1.2.1 (PIr_one hW (by omega) hR) h
theorem m_ordL (hV : Bd A) (hW : VA A) {w : Int32} : ∀ (k j : Nat) (l b : Int32) (τ : St), j + k = aNa A - 1 → MS A τ → (∀ τ', MS A τ' → posti (pick2 w (ordL A (aNa A) k j l b)) τ') → wl_X7_order_33 20 posti (k + 1) w l b (nI j) τ := by
  have h12 := hV.2.1
  intro k
  induction k with
  | zero =>
    intro j l b τ hj hA h
    have hj : j = aNa A - 1 := hj
    show w_X7_order_33 20 posti _ w l b (nI j) τ
    unfold w_X7_order_33
    rw [MS_na hA, nI_1]
    have h := h τ hA
    unfold pick2 ordL at h
    have e1 := nI_toInt (n := aNa A) (by omega)
    have e2 := nI_toInt (n := j + 1) (by omega)
    refine br_t (by rw [il, e1, e2]; omega) ⟨fun c => ?_, fun c => ?_⟩
    · rw [if_pos c] at h; exact h
    · rw [if_neg c] at h; exact h
  | succ k ih =>
    intro j l b τ hj hA h
    show w_X7_order_33 20 posti _ w l b (nI j) τ
    unfold w_X7_order_33
    rw [MS_na hA, nI_1]
    unfold ordL at h
    refine br_f (nI_ge (by omega) (by omega)) (km_begins hA (fun τ1 h1 => ⟨aNa A + 1, m_ordI hV hW (b := j) (by omega) (aNa A) 0 _ τ1 (by omega) h1.1 h1.2.1 (PIr_mono (PIr_beg hW) (by omega) (by omega)) (fun τ2 h2 => ?_)⟩))
    rw [swp_F (show j + 1 < aNa A by omega)]
    refine ⟨fun c => ?_, fun c => ?_⟩
    · rw [if_pos c] at h
      exact ih (j + 1) l b τ2 (by omega) h2 h
    · rw [if_neg c] at h
      exact ih (j + 1) _ _ τ2 (by omega) h2 h
def orderF (A : Ab) (w : Int32) : Int32 := if 0 ≤ w.toInt ∧ w.toInt ≤ 1 then pick2 w (ordL A (aNa A) (aNa A - 1) 0 ((cookF A (aNa A)).1 11) (-1)) else -2
theorem c_order (hA : CS M A τ) {w : Int32} (h : ∀ τ', CS M A τ' → posti (orderF A w) τ') : w_X6_order M posti w τ := by
  unfold orderF at h
  unfold w_X6_order
  refine c_isBit (fun c => br_f (by decide) ?_) (fun c => br_t rfl ?_)
  · rw [if_pos c] at h
    refine k_cook hA (Nat.le_refl _) (CS_na hA) (fun τ1 h1 => ?_)
    rw [PotAt_oil h1.2.1]
    exact ⟨aNa A - 1 + 1, c_ordL (aNa A - 1) 0 _ _ τ1 (by omega) h1.1 h⟩
  · rw [if_neg c] at h; exact h τ hA
theorem m_order (hV : Bd A) (hW : VA A) (hA : MS A τ) {w : Int32} (h : ∀ τ', MS A τ' → posti (orderF A w) τ') : w_X7_order 20 posti w τ := by
  unfold orderF at h
  unfold w_X7_order
  refine m_in' (lo := 0) (hi := 1) (by decide) (by decide) (fun c => br_f (by decide) ?_) (fun c => br_t rfl ?_)
  · rw [if_pos c] at h
    refine km_goes hV hW hA (Nat.le_refl _) (MS_na hA) (fun τ1 h1 => ?_)
    rw [PotM_oil h1.2.1]
    exact ⟨aNa A - 1 + 1, m_ordL hV hW (aNa A - 1) 0 _ _ τ1 (by omega) h1.1 h⟩
  · rw [if_neg c] at h; exact h τ hA
/-! strokes -/
def strokeL (L : Lw) (s : Int32) : Nat → Nat → Pt → Int32
  | 0, _, _ => -1
  | k + 1, j, P => if P.1 11 = 0 then nI j else strokeL L s k (j + 1) (minuteF L 1 (beatF s P))
theorem c_strokeL {s : Int32} : ∀ (k j : Nat) (P : Pt) (τ : St), j + k = 61 → CS M A τ → PotAt M 12 (lawF A) P τ → (∀ τ', CS M A τ' → posti (strokeL (lawF A) s k j P) τ') → wl_X6_strokes_32 M posti (k + 1) s (nI j) τ := by
  intro k
  induction k with
  | zero =>
    intro j P τ hj hA hP h
    have hj : j = 61 := hj
    subst hj
    exact br_t (by decide) (h τ hA)
  | succ k ih =>
    intro j P τ hj hA hP h
    show w_X6_strokes_32 M posti _ s (nI j) τ
    unfold w_X6_strokes_32
    rw [PotAt_oil hP]
    unfold strokeL at h
    refine br_f (nI_nlt (a := 60) (b := j) (by omega) (by decide)) ⟨fun c => ?_, fun c => ?_⟩
    · rw [if_pos c] at h; exact h τ hA
    · rw [if_neg c] at h
      refine k_beat (Or.inl rfl) hA hP (fun τ1 h1 => k_minute (Or.inl rfl) h1.1 h1.2.1 (fun τ2 h2 x5 e5 => ?_))
      rw [e5, nI_1]
      exact ih (j + 1) _ τ2 (by omega) h2.1 h2.2.1 h
theorem m_strokeL (hV : Bd A) {s : Int32} (hs : 0 ≤ s.toInt ∧ s.toInt ≤ 9) {n : Nat} : ∀ (k j : Nat) (P : Pt) (τ : St), j + k = 61 → MS A τ → PotM P τ → PIr n k P → (∀ τ', MS A τ' → posti (strokeL (lawF A) s k j P) τ') → wl_X7_strokes_33 20 posti (k + 1) s (nI j) τ := by
  intro k
  induction k with
  | zero =>
    intro j P τ hj hA hP hR h
    have hj : j = 61 := hj
    subst hj
    exact br_t (by decide) (h τ hA)
  | succ k ih =>
    intro j P τ hj hA hP hR h
    show w_X7_strokes_33 20 posti _ s (nI j) τ
    unfold w_X7_strokes_33
    rw [PotM_oil hP]
    unfold strokeL at h
    refine br_f (nI_nlt (a := 60) (b := j) (by omega) (by decide)) ⟨fun c => ?_, fun c => ?_⟩
    · rw [if_pos c] at h; exact h τ hA
    · rw [if_neg c] at h
      refine q_beat hA hP hR hs.1 (fun τ1 h1 => q_minute hV h1.1 h1.2.1 (PIr_beat hs hR) (fun τ2 h2 x5 e5 => ?_))
      rw [e5, nI_1]
      exact ih (j + 1) _ τ2 (by omega) h2.1 h2.2.1 (PIr_min (PIr_beat hs hR)) h
def strokesF (A : Ab) (n s : Int32) : Int32 := if 0 ≤ n.toInt ∧ n.toInt ≤ (aNa A : Int) then (if 1 ≤ s.toInt ∧ s.toInt ≤ 9 then strokeL (lawF A) s 61 0 (cookF A n.toInt.toNat) else -7) else -5
theorem c_strokes (hA : CS M A τ) {n s : Int32} (h : ∀ τ', CS M A τ' → posti (strokesF A n s) τ') : w_X6_strokes M posti n s τ := by
  have h12 := hA.2.1.2.1
  unfold strokesF at h
  unfold w_X6_strokes
  refine c_hasActs hA (fun c => br_f (by decide) ?_) (fun c => br_t rfl ?_)
  · rw [if_pos c] at h
    obtain ⟨j, hj, rfl⟩ := as_nI c
    rw [i_nI (by omega)] at h
    refine brl i_1 (fun q => ?_) (fun q1 => brle (c := 9) (n := 9) (by decide) (fun q2 => ?_) (fun q => ?_))
    · rw [if_neg (by omega)] at h; exact h τ hA
    · rw [if_pos ⟨by omega, q2⟩] at h
      exact k_cook hA hj rfl (fun τ1 h1 => ⟨62, c_strokeL 61 0 _ τ1 rfl h1.1 h1.2.1 h⟩)
    · rw [if_neg (by omega)] at h; exact h τ hA
  · rw [if_neg c] at h; exact h τ hA
theorem m_strokesO (hV : Bd A) (hW : VA A) (hA : MS A τ) {n s : Int32} (h : ∀ τ', MS A τ' → posti (strokesF A n s) τ') : w_X7_strokes 20 posti n s τ := by
  have h12 := hV.2.1
  unfold strokesF at h
  unfold w_X7_strokes
  refine m_areActs hV hA (fun c => br_f (by decide) (m_in' (lo := 1) (hi := 9) (by decide) (by decide) (fun d => br_f (by decide) ?_) (fun d => br_t rfl ?_))) (fun c => br_t rfl ?_)
  · rw [if_pos c, if_pos d] at h
    obtain ⟨j, hj, rfl⟩ := as_nI c
    rw [i_nI (by omega)] at h
    exact km_goes hV hW hA hj rfl (fun τ1 h1 => ⟨62, m_strokeL hV (by omega) 61 0 _ τ1 rfl h1.1 h1.2.1 (PIr_mono (PIr_cook hV hW hj) (Nat.le_refl _) (by omega)) h⟩)
  · rw [if_pos c, if_neg d] at h; exact h τ hA
  · rw [if_neg c] at h; exact h τ hA
end SAVES
