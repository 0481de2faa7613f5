/-! the tape is fed -/
section FEED
variable {M : Nat} {A : Ab} {post : St → Prop} {posti : Int32 → St → Prop} {τ : St}
def tpF (A : Ab) (r : Nat → Int32) (i : Nat) : Ab := sTp A (aNt A + i) (fun k => if k < aNt A then aTp A k else r (k - aNt A))
def feedF (A : Ab) (n a b c d e : Int32) : Int32 × Ab := if (1 ≤ n.toInt ∧ n.toInt ≤ 5) ∧ (0 ≤ a.toInt ∧ a.toInt ≤ 255) ∧ (0 ≤ b.toInt ∧ b.toInt ≤ 255) ∧ (0 ≤ c.toInt ∧ c.toInt ≤ 255) ∧ (0 ≤ d.toInt ∧ d.toInt ≤ 255) ∧ (0 ≤ e.toInt ∧ e.toInt ≤ 255) then (if aNt A + n.toInt.toNat ≤ 160 then (nI (aNt A + n.toInt.toNat), tpF A (row5 a b c d e) n.toInt.toNat) else (-4, A)) else (-2, A)
theorem CS_tp0 (hA : CS M A τ) {r : Nat → Int32} : CS M (tpF A r 0) τ := by
  obtain ⟨-, -, -, -, ⟨c5, c5b, c5c⟩, -⟩ := id hA
  refine CS_tp hA (fun _ _ => rfl) (fun _ => rfl) (fun _ _ _ => rfl) ⟨c5, c5b, fun k hk => ?_⟩
  show _ = (if k < aNt A then aTp A k else _)
  have hk : k < aNt A := hk
  rw [if_pos hk]; exact c5c k hk
theorem MS_tp0 (hA : MS A τ) {r : Nat → Int32} : MS (tpF A r 0) τ := by
  obtain ⟨-, -, -, -, ⟨c5, c5c⟩, -⟩ := id hA
  refine MS_tp hA (fun _ _ _ _ _ => rfl) ⟨c5, fun k hk => ?_⟩
  show _ = (if k < aNt A then aTp A k else _)
  have hk : k < aNt A := hk
  rw [if_pos hk]; exact c5c k hk
theorem c_add {r : Nat → Int32} {i : Nat} (hA : CS M (tpF A r i) τ) (hi : aNt A + i < 160) {v : Int32} (hv : v = r i) (h : ∀ τ', CS M (tpF A r (i + 1)) τ' → post τ') : w_X4_add M post v τ := by
  subst hv
  obtain ⟨-, -, -, -, ⟨c5, c5b, c5c⟩, -⟩ := id hA
  have c5 : gi τ 5 1 = nI (aNt A + i) := c5
  unfold w_X4_add
  rw [c5]
  refine br_f (nI_ge (b := 160) (by omega) (by decide)) ⟨vp_in_nI (by omega) (by decide), fun σ2 e2 σ3 e3 => ?_⟩
  rw [nI_clamp (by omega)] at e2
  have g2 : gi σ2 5 1 = nI (aNt A + i) := by rw [e2, gso (by decide)]; exact c5
  rw [g2, nI_1] at e3
  refine h σ3 (CS_tp (A := tpF A r i) hA (fun _ _ => by rw [e3, e2]; rfl) (fun _ => by rw [e3, e2]; rfl) (fun a k h5 => by rw [e3, gso (by omega), e2, gso (by omega)]) ⟨?_, by show aNt A + (i + 1) ≤ 160; omega, fun k hk => ?_⟩)
  · rw [e3, gss]; rfl
  · have hk : k < aNt A + (i + 1) := hk
    show _ = (if k < aNt A then aTp A k else r (k - aNt A))
    rw [e3, gso (by decide), e2]
    by_cases e : k = aNt A + i
    · rw [e, gss, if_neg (by omega), show aNt A + i - aNt A = i by omega]
    · rw [gsk e]
      exact c5c k (by show k < aNt A + i; omega)
theorem c_feed68 {r : Nat → Int32} {a b c d e : Int32} (hr : r = row5 a b c d e) {n : Nat} (hn : n ≤ 5) (hN : aNt A + n ≤ 160) (h : ∀ τ', CS M (tpF A r n) τ' → posti (nI (aNt A + n)) τ') :
    ∀ (k i : Nat) (τ : St), i + k = n → CS M (tpF A r i) τ → wl_X6_feed_68 M posti (k + 1) (nI n) a b c d e (nI i) τ := by
  intro k
  induction k with
  | zero =>
    intro i τ hi hA
    have hi : i = n := hi
    subst hi
    show w_X6_feed_68 M posti _ (nI i) a b c d e (nI i) τ
    unfold w_X6_feed_68 w_X4_size
    refine br_t (Int32.le_refl _) ?_
    have c5 : gi τ 5 1 = nI (aNt A + i) := hA.2.2.2.2.1.1
    rw [c5]
    exact h τ hA
  | succ k ih =>
    intro i τ hi hA
    show w_X6_feed_68 M posti _ (nI n) a b c d e (nI i) τ
    unfold w_X6_feed_68
    refine br_f (nI_ge (by omega) (by omega)) ?_
    have go : ∀ v, v = r i → w_X4_add M (fun σ16 => (∀ x17 : Int32, x17 = nI i + 1 → wl_X6_feed_68 M posti (k + 1) (nI n) a b c d e x17 σ16)) v τ := by
      intro v hv
      refine c_add hA (by omega) hv (fun τ' h' x17 e17 => ?_)
      rw [e17, nI_1]
      exact ih (i + 1) τ' (by omega) h'
    rw [hr] at go
    rcases (show i = 0 ∨ i = 1 ∨ i = 2 ∨ i = 3 ∨ i = 4 by omega) with rfl | rfl | rfl | rfl | rfl
    · exact br_t (by decide) (go _ rfl)
    · exact br_f (by decide) (br_t (by decide) (go _ rfl))
    · exact br_f (by decide) (br_f (by decide) (br_t (by decide) (go _ rfl)))
    · exact br_f (by decide) (br_f (by decide) (br_f (by decide) (br_t (by decide) (go _ rfl))))
    · exact br_f (by decide) (br_f (by decide) (br_f (by decide) (br_f (by decide) (go _ rfl))))
theorem c_feed (hA : CS M A τ) {n a b c d e : Int32} (h : ∀ τ', CS M (feedF A n a b c d e).2 τ' → posti (feedF A n a b c d e).1 τ') : w_X6_feed M posti n a b c d e τ := by
  have c5 := hA.2.2.2.2.1.1
  have c5b := hA.2.2.2.2.1.2.1
  have eN := nI_toInt (n := aNt A) (by omega)
  unfold feedF at h
  unfold w_X6_feed
  have bad : ¬ ((1 ≤ n.toInt ∧ n.toInt ≤ 5) ∧ (0 ≤ a.toInt ∧ a.toInt ≤ 255) ∧ (0 ≤ b.toInt ∧ b.toInt ≤ 255) ∧ (0 ≤ c.toInt ∧ c.toInt ≤ 255) ∧ (0 ≤ d.toInt ∧ d.toInt ≤ 255) ∧ (0 ≤ e.toInt ∧ e.toInt ≤ 255)) → posti (-2) τ := by
    intro q
    rw [if_neg q] at h
    exact h τ hA
  refine brl i_1 (fun q => bad (fun z => absurd z.1 (by omega))) (fun q1 => brg (c := 5) (n := 5) (by decide) (fun q => bad (fun z => absurd z.1 (by omega))) (fun q2 => c_isByte (fun qa => br_f (by decide) (c_isByte (fun qb => br_f (by decide) (c_isByte (fun qc => br_f (by decide) (c_isByte (fun qd => br_f (by decide) (c_isByte (fun qe => br_f (by decide) ?_) (fun q => br_t rfl (bad (fun z => q z.2.2.2.2.2))))) (fun q => br_t rfl (bad (fun z => q z.2.2.2.2.1))))) (fun q => br_t rfl (bad (fun z => q z.2.2.2.1))))) (fun q => br_t rfl (bad (fun z => q z.2.2.1))))) (fun q => br_t rfl (bad (fun z => q z.2.1)))))
  rw [if_pos ⟨⟨by omega, by omega⟩, qa, qb, qc, qd, qe⟩] at h
  obtain ⟨m, hm, rfl⟩ := as_nI (s := n) (n := 5) (by omega)
  rw [i_nI (by omega)] at h
  have em := nI_toInt (n := m) (by omega)
  unfold w_X4_hasRoom
  rw [c5]
  have e160 : (160 : Int32).toInt = 160 := by decide
  have es : (160 - nI (aNt A)).toInt = 160 - (aNt A : Int) := by rw [isu (by omega) (by omega), e160, eN]
  by_cases g : aNt A + m ≤ 160
  · rw [if_pos g] at h
    refine br_f (by rw [ilt, es]; omega) (br_f (by decide) ⟨m + 1, ?_⟩)
    exact c_feed68 (A := A) (r := row5 a b c d e) rfl (by omega) g h m 0 τ (by omega) (CS_tp0 hA)
  · rw [if_neg g] at h
    exact br_t (by rw [ilt, es]; omega) (br_t rfl (h τ hA))
theorem m_fstep {r : Nat → Int32} {n i : Nat} (hn : n ≤ 5) (hi : i < n) (hN : aNt A + n ≤ 160) (hS : MS (tpF A r i) τ) (hR : ∀ k, k < 5 → gi τ 20 k = r k) {c : Int32} (hc : c = nI i) {X : Prop} {Y : St → Prop} (h : ∀ τ', MS (tpF A r (i + 1)) τ' → (∀ k, k < 5 → gi τ' 20 k = r k) → Y τ') :
    (nI n ≤ c → X) ∧ (¬ (nI n ≤ c) → (vp_in (gi τ 0 4) 160 ∧ ∀ σ27 : St, σ27 = si τ 3 (gi τ 0 4).toNatClampNeg (gi τ 20 i) → ∀ σ28 : St, σ28 = si σ27 0 4 (gi σ27 0 4 + 1) → Y σ28)) := by
  subst hc
  obtain ⟨-, -, -, -, ⟨m5, m5b⟩, -⟩ := id hS
  have m5 : gi τ 0 4 = nI (aNt A + i) := m5
  refine br_f (nI_ge hi (by omega)) ?_
  rw [m5, hR i (by omega), nI_clamp (by omega)]
  refine ⟨vp_in_nI (by omega) (by decide), fun σ2 e2 σ3 e3 => ?_⟩
  have g2 : gi σ2 0 4 = nI (aNt A + i) := by rw [e2, gso (by decide)]; exact m5
  rw [g2, nI_1] at e3
  refine h σ3 (MS_tp (A := tpF A r i) hS (fun a k hs h0 h3 => by rw [e3, gsn h0, e2, gso h3]) ⟨?_, fun k hk => ?_⟩) (fun k hk => by rw [e3, gso (by decide), e2, gso (by decide)]; exact hR k hk)
  · rw [e3, gss]; rfl
  · have hk : k < aNt A + (i + 1) := hk
    show _ = (if k < aNt A then aTp A k else r (k - aNt A))
    rw [e3, gso (by decide), e2]
    by_cases e : k = aNt A + i
    · rw [e, gss, if_neg (by omega), show aNt A + i - aNt A = i by omega]
    · rw [gsk e]
      exact m5b k (by show k < aNt A + i; omega)
theorem m_fend {r : Nat → Int32} {n : Nat} (hS : MS (tpF A r n) τ) (h : ∀ τ', MS (tpF A r n) τ' → posti (nI (aNt A + n)) τ') {c : Int32} (hc : c = nI n) {Y : Prop} : (nI n ≤ c → posti (gi τ 0 4) τ) ∧ (¬ (nI n ≤ c) → Y) := by
  subst hc
  have m5 : gi τ 0 4 = nI (aNt A + n) := hS.2.2.2.2.1.1
  rw [m5]
  exact br_t (Int32.le_refl _) (h τ hS)
theorem m_feed (hV : Bd A) (hN : aNt A ≤ 160) (hA : MS A τ) {n a b c d e : Int32} (h : ∀ τ', MS (feedF A n a b c d e).2 τ' → posti (feedF A n a b c d e).1 τ') : w_X7_feed 20 posti n a b c d e τ := by
  have m5 := hA.2.2.2.2.1.1
  have eN := nI_toInt (n := aNt A) (by omega)
  unfold feedF at h
  unfold w_X7_feed
  have bad : ¬ ((1 ≤ n.toInt ∧ n.toInt ≤ 5) ∧ (0 ≤ a.toInt ∧ a.toInt ≤ 255) ∧ (0 ≤ b.toInt ∧ b.toInt ≤ 255) ∧ (0 ≤ c.toInt ∧ c.toInt ≤ 255) ∧ (0 ≤ d.toInt ∧ d.toInt ≤ 255) ∧ (0 ≤ e.toInt ∧ e.toInt ≤ 255)) → posti (-2) τ := by
    intro q
    rw [if_neg q] at h
    exact h τ hA
  have isB : ∀ {pp : Int32 → St → Prop} (v : Int32), (0 ≤ v.toInt ∧ v.toInt ≤ 255 → pp 1 τ) → (¬ (0 ≤ v.toInt ∧ v.toInt ≤ 255) → pp 0 τ) → w_X7_isByte 20 pp v τ := by
    intro pp v h1 h0
    unfold w_X7_isByte
    exact m_in' (lo := 0) (hi := 255) (by decide) (by decide) (fun c => ⟨rfl, h1 c⟩) (fun c => ⟨rfl, h0 c⟩)
  refine m_in' (lo := 1) (hi := 5) (by decide) (by decide) (fun q1 => br_f (by decide) (isB _ (fun qa => br_f (by decide) (isB _ (fun qb => br_f (by decide) (isB _ (fun qc => br_f (by decide) (isB _ (fun qd => br_f (by decide) (isB _ (fun qe => br_f (by decide) ?_) (fun q => br_t rfl (bad (fun z => q z.2.2.2.2.2))))) (fun q => br_t rfl (bad (fun z => q z.2.2.2.2.1))))) (fun q => br_t rfl (bad (fun z => q z.2.2.2.1))))) (fun q => br_t rfl (bad (fun z => q z.2.2.1))))) (fun q => br_t rfl (bad (fun z => q z.2.1))))) (fun q => br_t rfl (bad (fun z => q z.1)))
  rw [if_pos ⟨q1, qa, qb, qc, qd, qe⟩] at h
  obtain ⟨m, hm, rfl⟩ := as_nI (s := n) (n := 5) (by omega)
  rw [i_nI (by omega)] at h
  have em := nI_toInt (n := m) (by omega)
  rw [m5, nI_add]
  have e160 : (160 : Int32).toInt = 160 := by decide
  have es := nI_toInt (n := aNt A + m) (by omega)
  by_cases g : aNt A + m ≤ 160
  · rw [if_pos g] at h
    refine br_t (by rw [il, es]; omega) (fun σ20 e20 σ21 e21 σ22 e22 σ23 e23 σ24 e24 σ25 e25 => ?_)
    have fr : ∀ x y, x ≠ 20 → gi σ25 x y = gi τ x y := by
      intro x y hx
      rw [e25, gso hx, e24, gso hx, e23, gso hx, e22, gso hx, e21, gso hx, e20]
      show (if x = 20 then _ else _) = _
      rw [if_neg hx]; rfl
    have hR : ∀ k, k < 5 → gi σ25 20 k = row5 a b c d e k := by
      intro k hk
      rcases (show k = 0 ∨ k = 1 ∨ k = 2 ∨ k = 3 ∨ k = 4 by omega) with rfl | rfl | rfl | rfl | rfl
      · rw [e25, gsk (by decide), e24, gsk (by decide), e23, gsk (by decide), e22, gsk (by decide), e21, gss]; rfl
      · rw [e25, gsk (by decide), e24, gsk (by decide), e23, gsk (by decide), e22, gss]; rfl
      · rw [e25, gsk (by decide), e24, gsk (by decide), e23, gss]; rfl
      · rw [e25, gsk (by decide), e24, gss]; rfl
      · rw [e25, gss]; rfl
    clear e20 e21 e22 e23 e24 e25
    have hS0 : MS A σ25 := MS_nS hA (fun x y hn => fr x y (by unfold nS at hn; omega))
    have hS : MS (tpF A (row5 a b c d e) 0) σ25 := MS_tp0 hS0
    have h1 := q1.1
    rcases (show m = 1 ∨ m = 2 ∨ m = 3 ∨ m = 4 ∨ m = 5 by omega) with rfl | rfl | rfl | rfl | rfl
    · exact m_fstep (i := 0) hm (by omega) g hS hR (by decide) (fun τ1 s1 r1 => m_fend s1 h (by decide))
    · exact m_fstep (i := 0) hm (by omega) g hS hR (by decide) (fun τ1 s1 r1 => m_fstep (i := 1) hm (by omega) g s1 r1 (by decide) (fun τ2 s2 r2 => m_fend s2 h (by decide)))
    · exact m_fstep (i := 0) hm (by omega) g hS hR (by decide) (fun τ1 s1 r1 => m_fstep (i := 1) hm (by omega) g s1 r1 (by decide) (fun τ2 s2 r2 => m_fstep (i := 2) hm (by omega) g s2 r2 (by decide) (fun τ3 s3 r3 => m_fend s3 h (by decide))))
    · exact m_fstep (i := 0) hm (by omega) g hS hR (by decide) (fun τ1 s1 r1 => m_fstep (i := 1) hm (by omega) g s1 r1 (by decide) (fun τ2 s2 r2 => m_fstep (i := 2) hm (by omega) g s2 r2 (by decide) (fun τ3 s3 r3 => m_fstep (i := 3) hm (by omega) g s3 r3 (by decide) (fun τ4 s4 r4 => m_fend s4 h (by decide)))))
    · exact m_fstep (i := 0) hm (by omega) g hS hR (by decide) (fun τ1 s1 r1 => m_fstep (i := 1) hm (by omega) g s1 r1 (by decide) (fun τ2 s2 r2 => m_fstep (i := 2) hm (by omega) g s2 r2 (by decide) (fun τ3 s3 r3 => m_fstep (i := 3) hm (by omega) g s3 r3 (by decide) (fun τ4 s4 r4 => m_fstep (i := 4) hm (by omega) g s4 r4 (by decide) (fun τ5 s5 r5 => m_fend s5 h (by decide))))))
  · rw [if_neg g] at h
    exact br_f (by rw [il, es]; omega) (h τ hA)
theorem v_feed (hW : VA A) {n a b c d e : Int32} : VA (feedF A n a b c d e).2 := by
  unfold feedF
  by_cases q : (1 ≤ n.toInt ∧ n.toInt ≤ 5) ∧ (0 ≤ a.toInt ∧ a.toInt ≤ 255) ∧ (0 ≤ b.toInt ∧ b.toInt ≤ 255) ∧ (0 ≤ c.toInt ∧ c.toInt ≤ 255) ∧ (0 ≤ d.toInt ∧ d.toInt ≤ 255) ∧ (0 ≤ e.toInt ∧ e.toInt ≤ 255)
  · rw [if_pos q]
    by_cases g : aNt A + n.toInt.toNat ≤ 160
    · rw [if_pos g]
      refine VA_tp hW (fun k hk => ?_)
      show 0 ≤ (if k < aNt A then aTp A k else row5 a b c d e (k - aNt A)).toInt ∧ (if k < aNt A then aTp A k else row5 a b c d e (k - aNt A)).toInt ≤ 255
      by_cases hlt : k < aNt A
      · rw [if_pos hlt]; exact hW.2.2.2.1 k hlt
      · rw [if_neg hlt]
        generalize k - aNt A = j
        unfold row5
        split
        · omega
        · split
          · omega
          · split
            · omega
            · split <;> omega
    · rw [if_neg g]; exact hW
  · rw [if_neg q]; exact hW
end FEED
