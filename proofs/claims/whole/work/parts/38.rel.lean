/-! THE RELATION: what both systems hold -/
abbrev Ab : Type := ((Nat × (Nat → Nat → Int32)) × (Nat × (Nat → Nat → Int32))) × ((Nat → Lw) × Nat × Nat) × (Nat → Int32) × (Nat × (Nat → Int32)) × (Nat × (Nat → Nat → Int32) × (Nat → Int32) × Nat) × (Nat → Int32) × (Nat → Nat) × (Nat → Nat → Int32)
def aNc (A : Ab) : Nat := A.1.1.1
def aCh (A : Ab) : Nat → Nat → Int32 := A.1.1.2
def aNa (A : Ab) : Nat := A.1.2.1
def aAc (A : Ab) : Nat → Nat → Int32 := A.1.2.2
def aLw (A : Ab) : Nat → Lw := A.2.1.1
def aNl (A : Ab) : Nat := A.2.1.2.1
def aLn (A : Ab) : Nat := A.2.1.2.2
def aTd (A : Ab) : Nat → Int32 := A.2.2.1
def aNt (A : Ab) : Nat := A.2.2.2.1.1
def aTp (A : Ab) : Nat → Int32 := A.2.2.2.1.2
def aKp (A : Ab) : Nat := A.2.2.2.2.1.1
def aKc (A : Ab) : Nat → Nat → Int32 := A.2.2.2.2.1.2.1
def aKt (A : Ab) : Nat → Int32 := A.2.2.2.2.1.2.2.1
def aKl (A : Ab) : Nat := A.2.2.2.2.1.2.2.2
def aSo (A : Ab) : Nat → Int32 := A.2.2.2.2.2.1
def aSz (A : Ab) : Nat → Nat := A.2.2.2.2.2.2.1
def aIt (A : Ab) : Nat → Nat → Int32 := A.2.2.2.2.2.2.2
def sCh (A : Ab) (n : Nat) (f : Nat → Nat → Int32) : Ab := (((n, f), A.1.2), A.2)
def sAc (A : Ab) (n : Nat) (f : Nat → Nat → Int32) : Ab := ((A.1.1, (n, f)), A.2)
def sLw (A : Ab) (f : Nat → Lw) (n l : Nat) : Ab := (A.1, (f, n, l), A.2.2)
def sTd (A : Ab) (f : Nat → Int32) : Ab := (A.1, A.2.1, f, A.2.2.2)
def sTp (A : Ab) (n : Nat) (f : Nat → Int32) : Ab := (A.1, A.2.1, A.2.2.1, (n, f), A.2.2.2.2)
def sKp (A : Ab) (n : Nat) (f : Nat → Nat → Int32) (g : Nat → Int32) (l : Nat) : Ab := (A.1, A.2.1, A.2.2.1, A.2.2.2.1, (n, f, g, l), A.2.2.2.2.2)
def sSh (A : Ab) (f : Nat → Int32) (g : Nat → Nat) (h : Nat → Nat → Int32) : Ab := (A.1, A.2.1, A.2.2.1, A.2.2.2.1, A.2.2.2.2.1, f, g, h)
def C1 (A : Ab) (σ : St) : Prop := gi σ 0 1 = nI (aNc A) ∧ aNc A ≤ 4 ∧ ∀ i k, i < aNc A → k < 5 → gi σ (18 + 4 * i) k = aCh A i k
def C2 (A : Ab) (σ : St) : Prop := gi σ 0 3 = nI (aNa A) ∧ aNa A ≤ 12 ∧ ∀ i k, i < aNa A → k < 3 → gi σ (33 + i) k = aAc A i k
def C3 (M : Nat) (A : Ab) (σ : St) : Prop := gi σ 0 5 = nI (aNl A) ∧ aNl A ≤ 6 ∧ gi σ 0 6 = nI (aLn A) ∧ aLn A < aNl A ∧ ∀ t, t < aNl A → ∃ r, gr σ 3 t = some r ∧ LawAt M σ r (aLw A t)
def C4 (A : Ab) (σ : St) : Prop := ∀ k, k < 3 → gi σ 4 k = aTd A k
def C5 (A : Ab) (σ : St) : Prop := gi σ 5 1 = nI (aNt A) ∧ aNt A ≤ 160 ∧ ∀ k, k < aNt A → gi σ 6 k = aTp A k
def C6 (A : Ab) (σ : St) : Prop := (aKp A = 0 → gi σ 0 11 = -1) ∧ ∀ n, aKp A = n + 1 → gi σ 0 11 = nI n ∧ n ≤ 4 ∧ gi σ 0 13 = nI (aKl A) ∧ (∀ i k, i < n → k < 5 → gi σ (20 + 4 * i) k = aKc A i k) ∧ ∀ k, k < 3 → gi σ 11 k = aKt A k
def C7 (A : Ab) (σ : St) : Prop := ∀ d, d < 4 → gi σ (45 + 2 * d) 1 = aSo A d ∧ gi σ (45 + 2 * d) 2 = nI (aSz A d) ∧ aSz A d ≤ 40 ∧ ∀ k, k < 40 → gi σ (46 + 2 * d) k = aIt A d k
def C8 (M : Nat) (σ : St) : Prop := 53 ≤ M ∧ (M - 53) % 2 = 0 ∧ LR M σ
def CS (M : Nat) (A : Ab) (σ : St) : Prop := C1 A σ ∧ C2 A σ ∧ C3 M A σ ∧ C4 A σ ∧ C5 A σ ∧ C6 A σ ∧ C7 A σ ∧ C8 M σ
def MTxR (σ : St) (t : Nat) (L : Lw) : Prop := LOk L ∧ ∀ p, p < 3 → ∃ b : Nat, gi σ 5 (3 * t + p) = nI b ∧ gi σ 6 (3 * t + p) = nI (b + (Lpart L p).length) ∧ 510 * t ≤ b ∧ b + (Lpart L p).length ≤ 510 * (t + 1) ∧ ∀ j c, (Lpart L p)[j]? = some c → gi σ 4 (b + j) = cM c
def lt7 : List Int32 := [104, 101, 97, 116, 32, 115, 111, 117, 114, 32, 115, 116, 97, 114, 99, 104, 32, 119, 97, 116, 101, 114, 32, 102, 97, 116, 32, 97, 103, 101, 32, 109, 101, 108, 116, 32, 115, 112, 108, 105, 116, 32, 116, 104, 114, 101, 97, 100, 32, 111, 114, 32, 97, 110, 100, 32, 110, 111, 116, 32]
def M1 (A : Ab) (σ : St) : Prop := gi σ 0 0 = nI (aNc A) ∧ ∀ i k, i < aNc A → k < 5 → gi σ 1 (5 * i + k) = aCh A i k
def M2 (A : Ab) (σ : St) : Prop := gi σ 0 21 = nI (aNa A) ∧ ∀ i, i < aNa A → gi σ 10 i = aAc A i 0 ∧ gi σ 11 i = aAc A i 1 ∧ gi σ 12 i = aAc A i 2
def M3 (A : Ab) (σ : St) : Prop := gi σ 0 5 = nI (aNl A) ∧ gi σ 0 6 = nI (aLn A) ∧ ∀ t, t < aNl A → MTxR σ t (aLw A t)
def M4 (A : Ab) (σ : St) : Prop := ∀ k, k < 3 → gi σ 2 k = aTd A k
def M5 (A : Ab) (σ : St) : Prop := gi σ 0 4 = nI (aNt A) ∧ ∀ k, k < aNt A → gi σ 3 k = aTp A k
def M6 (A : Ab) (σ : St) : Prop := (aKp A = 0 → gi σ 0 29 = 0) ∧ ∀ n, aKp A = n + 1 → gi σ 0 29 = 1 ∧ gi σ 0 30 = nI n ∧ gi σ 0 31 = nI (aKl A) ∧ (∀ i k, i < n → k < 5 → gi σ 14 (5 * i + k) = aKc A i k) ∧ ∀ k, k < 3 → gi σ 15 k = aKt A k
def M7 (A : Ab) (σ : St) : Prop := ∀ d, d < 4 → gi σ 16 d = aSo A d ∧ gi σ 17 d = nI (aSz A d) ∧ ∀ k, k < 40 → gi σ 18 (40 * d + k) = aIt A d k
def M8 (σ : St) : Prop := ∀ k, k < 60 → gi σ 7 k = lt7.getD k 0
def MS (A : Ab) (σ : St) : Prop := M1 A σ ∧ M2 A σ ∧ M3 A σ ∧ M4 A σ ∧ M5 A σ ∧ M6 A σ ∧ M7 A σ ∧ M8 σ
def okT (f : Nat → Int32) : Prop := (0 ≤ (f 0).toInt ∧ (f 0).toInt ≤ 9) ∧ (0 ≤ (f 1).toInt ∧ (f 1).toInt ≤ 99) ∧ (0 ≤ (f 2).toInt ∧ (f 2).toInt ≤ 9)
def VA (A : Ab) : Prop := (∀ i, i < aNc A → okC (aCh A i)) ∧ (∀ i, i < aNa A → okA (aAc A i 0) (aAc A i 1) (aAc A i 2)) ∧ okT (aTd A) ∧ (∀ k, k < aNt A → 0 ≤ (aTp A k).toInt ∧ (aTp A k).toInt ≤ 255) ∧
  (∀ n, aKp A = n + 1 → (∀ i, i < n → okC (aKc A i)) ∧ okT (aKt A) ∧ aKl A < aNl A) ∧ (∀ d, d < 4 → -1 ≤ (aSo A d).toInt ∧ (aSo A d).toInt ≤ 2)
def RRel (M : Nat) (σC σM : St) : Prop := ∃ A : Ab, CS M A σC ∧ MS A σM ∧ VA A
theorem LawAt_frame {M M' : Nat} {σ τ : St} {r : Nat} {L : Lw} (h : LawAt M σ r L) (hM : M ≤ M') (hg : ∀ a k, 53 ≤ a → a < M → gi τ a k = gi σ a k) (hz : ∀ a, a < M → gz τ a = gz σ a) : LawAt M' τ r L := by
  obtain ⟨h1, h2, h3, h4, h5, h6, h7, h8⟩ := h
  refine ⟨h1, by omega, h3, by rw [hz _ (by omega)]; exact h4, fun i c hc => by rw [hg _ _ (by omega) (by omega)]; exact h5 i c hc, by rw [hg _ _ (by omega) h2]; exact h6, by rw [hg _ _ (by omega) h2]; exact h7, h8⟩
theorem CS_frame {M : Nat} {A : Ab} {σ τ : St} (h : CS M A σ) (hg : ∀ a k, ¬ (12 ≤ a ∧ a ≤ 16) → gi τ a k = gi σ a k) (hr3 : ∀ k, gr τ 3 k = gr σ 3 k) (hr12 : ∀ r, gr τ 12 1 = some r → r < M) (hr14 : ∀ r, gr τ 14 1 = some r → r < M) (hz : ∀ a, gz τ a = gz σ a) : CS M A τ := by
  obtain ⟨⟨c1, c1b, c1c⟩, ⟨c2, c2b, c2c⟩, ⟨c3, c3b, c3c, c3d, c3e⟩, c4, ⟨c5, c5b, c5c⟩, ⟨c6, c6b⟩, c7, ⟨c8, c8b, c8c⟩⟩ := h
  refine ⟨⟨by rw [hg _ _ (by omega)]; exact c1, c1b, fun i k hi hk => by rw [hg _ _ (by omega)]; exact c1c i k hi hk⟩, ⟨by rw [hg _ _ (by omega)]; exact c2, c2b, fun i k hi hk => by rw [hg _ _ (by omega)]; exact c2c i k hi hk⟩, ⟨by rw [hg _ _ (by omega)]; exact c3, c3b, by rw [hg _ _ (by omega)]; exact c3c, c3d, fun t ht => ?_⟩, fun k hk => by rw [hg _ _ (by omega)]; exact c4 k hk, ⟨by rw [hg _ _ (by omega)]; exact c5, c5b, fun k hk => by rw [hg _ _ (by omega)]; exact c5c k hk⟩, ⟨fun e => by rw [hg _ _ (by omega)]; exact c6 e, fun n e => ?_⟩, fun d hd => ?_, c8, c8b, ⟨fun k hk r hr => ?_, hr12, hr14⟩⟩
  · obtain ⟨r, h1, h2⟩ := c3e t ht
    exact ⟨r, by rw [hr3]; exact h1, LawAt_frame h2 (Nat.le_refl M) (fun a k h1 h2 => hg a k (by omega)) (fun a _ => hz a)⟩
  · obtain ⟨h1, h2, h3, h4, h5⟩ := c6b n e
    have : n ≤ 4 := h2
    exact ⟨by rw [hg _ _ (by omega)]; exact h1, h2, by rw [hg _ _ (by omega)]; exact h3, fun i k hi hk => by rw [hg _ _ (by omega)]; exact h4 i k hi hk, fun k hk => by rw [hg _ _ (by omega)]; exact h5 k hk⟩
  · obtain ⟨h1, h2, h3, h4⟩ := c7 d hd
    exact ⟨by rw [hg _ _ (by omega)]; exact h1, by rw [hg _ _ (by omega)]; exact h2, h3, fun k hk => by rw [hg _ _ (by omega)]; exact h4 k hk⟩
  · rw [hr3] at hr
    exact c8c.1 k hk r hr
def zk (k : Nat) : Prop := k = 0 ∨ k = 4 ∨ k = 5 ∨ k = 6 ∨ k = 21 ∨ k = 29 ∨ k = 30 ∨ k = 31
theorem MTxR_frame {σ τ : St} {t : Nat} {L : Lw} (h : MTxR σ t L) (hg : ∀ a k, a = 5 ∨ a = 6 → k < 3 * (t + 1) → gi τ a k = gi σ a k) (hg4 : ∀ k, k < 510 * (t + 1) → gi τ 4 k = gi σ 4 k) : MTxR τ t L := by
  refine ⟨h.1, fun p hp => ?_⟩
  obtain ⟨b, h1, h2, h3, h4, h5⟩ := h.2 p hp
  refine ⟨b, by rw [hg _ _ (Or.inl rfl) (by omega)]; exact h1, by rw [hg _ _ (Or.inr rfl) (by omega)]; exact h2, h3, h4, fun j c hc => ?_⟩
  have hj := (List.getElem?_eq_some_iff.mp hc).1
  rw [hg4 _ (by omega)]
  exact h5 j c hc
theorem MS_frame {A : Ab} {σ τ : St} (h : MS A σ) (hg : ∀ a k, a ≠ 8 → a ≠ 9 → a ≠ 13 → a ≠ 19 → (a = 0 → zk k) → gi τ a k = gi σ a k) : MS A τ := by
  obtain ⟨⟨m1, m1b⟩, ⟨m2, m2b⟩, ⟨m3, m3b, m3c⟩, m4, ⟨m5, m5b⟩, ⟨m6, m6b⟩, m7, m8⟩ := h
  have g0 : ∀ k, zk k → gi τ 0 k = gi σ 0 k := fun k hk => hg 0 k (by omega) (by omega) (by omega) (by omega) (fun _ => hk)
  have g1 : ∀ a k, a ≠ 8 → a ≠ 9 → a ≠ 13 → a ≠ 19 → a ≠ 0 → gi τ a k = gi σ a k := fun a k h1 h2 h3 h4 h5 => hg a k h1 h2 h3 h4 (fun e => absurd e h5)
  refine ⟨⟨by rw [g0 _ (by unfold zk; omega)]; exact m1, fun i k hi hk => by rw [g1 _ _ (by omega) (by omega) (by omega) (by omega) (by omega)]; exact m1b i k hi hk⟩, ⟨by rw [g0 _ (by unfold zk; omega)]; exact m2, fun i hi => ?_⟩, ⟨by rw [g0 _ (by unfold zk; omega)]; exact m3, by rw [g0 _ (by unfold zk; omega)]; exact m3b, fun t ht => MTxR_frame (m3c t ht) (fun a k ha _ => g1 _ _ (by omega) (by omega) (by omega) (by omega) (by omega)) (fun k _ => g1 _ _ (by omega) (by omega) (by omega) (by omega) (by omega))⟩, fun k hk => by rw [g1 _ _ (by omega) (by omega) (by omega) (by omega) (by omega)]; exact m4 k hk, ⟨by rw [g0 _ (by unfold zk; omega)]; exact m5, fun k hk => by rw [g1 _ _ (by omega) (by omega) (by omega) (by omega) (by omega)]; exact m5b k hk⟩, ⟨fun e => by rw [g0 _ (by unfold zk; omega)]; exact m6 e, fun n e => ?_⟩, fun d hd => ?_, fun k hk => by rw [g1 _ _ (by omega) (by omega) (by omega) (by omega) (by omega)]; exact m8 k hk⟩
  · obtain ⟨h1, h2, h3⟩ := m2b i hi
    exact ⟨by rw [g1 _ _ (by omega) (by omega) (by omega) (by omega) (by omega)]; exact h1, by rw [g1 _ _ (by omega) (by omega) (by omega) (by omega) (by omega)]; exact h2, by rw [g1 _ _ (by omega) (by omega) (by omega) (by omega) (by omega)]; exact h3⟩
  · obtain ⟨h1, h2, h3, h4, h5⟩ := m6b n e
    exact ⟨by rw [g0 _ (by unfold zk; omega)]; exact h1, by rw [g0 _ (by unfold zk; omega)]; exact h2, by rw [g0 _ (by unfold zk; omega)]; exact h3, fun i k hi hk => by rw [g1 _ _ (by omega) (by omega) (by omega) (by omega) (by omega)]; exact h4 i k hi hk, fun k hk => by rw [g1 _ _ (by omega) (by omega) (by omega) (by omega) (by omega)]; exact h5 k hk⟩
  · obtain ⟨h1, h2, h3⟩ := m7 d hd
    exact ⟨by rw [g1 _ _ (by omega) (by omega) (by omega) (by omega) (by omega)]; exact h1, by rw [g1 _ _ (by omega) (by omega) (by omega) (by omega) (by omega)]; exact h2, fun k hk => by rw [g1 _ _ (by omega) (by omega) (by omega) (by omega) (by omega)]; exact h3 k hk⟩
/-- a pot of the component's reads P and has the law L -/
def PotAt (M o : Nat) (L : Lw) (P : Pt) (τ : St) : Prop := (∀ k, 3 ≤ k ∧ k < 17 → gi τ o k = P.1 k) ∧ gl τ o = P.2 ∧ ∃ r, gr τ o 1 = some r ∧ LawAt M τ r L
theorem PotAt_eq {M o : Nat} {L : Lw} {P : Pt} {τ : St} (h : PotAt M o L P τ) : τ = pu τ o P (fun k => gi τ (o + 1) k) := by
  obtain ⟨h1, h2, -⟩ := h
  refine St_ext (fun a k => ?_) (fun a => ?_) rfl
  · rw [gi_pu]
    by_cases e : a = o
    · rw [if_pos e, e]
      by_cases hk : 3 ≤ k ∧ k < 17
      · rw [if_pos hk, h1 k hk]
      · rw [if_neg hk]
    · rw [if_neg e]
      by_cases e2 : a = o + 1
      · rw [if_pos e2, e2]
      · rw [if_neg e2]
  · rw [gl_pu']
    by_cases e : a = o
    · rw [if_pos e, e, h2]
    · rw [if_neg e]
theorem PotAt_pu {M o : Nat} {L : Lw} {P Q : Pt} {τ : St} {f : Nat → Int32} (ho : o + 1 < 53) (h : PotAt M o L P τ) : PotAt M o L Q (pu τ o Q f) := by
  obtain ⟨-, -, r, h3, h4⟩ := h
  exact ⟨fun k hk => gi_pu_o hk, gl_pu, r, by rw [gr_pu]; exact h3, LawAt_frame h4 (Nat.le_refl M) (fun a k h1 _ => gi_pu_n (by omega) (by omega)) (fun a _ => rfl)⟩
theorem PotAt_pu' {M o o' : Nat} {L : Lw} {P Q : Pt} {τ : St} {f : Nat → Int32} (ho : o + 1 < 53) (hn : o' ≠ o ∧ o' ≠ o + 1) (h : PotAt M o' L P τ) : PotAt M o' L P (pu τ o Q f) := by
  obtain ⟨h1, h2, r, h3, h4⟩ := h
  exact ⟨fun k hk => by rw [gi_pu_n hn.1 hn.2]; exact h1 k hk, by rw [gl_pu_n hn.1]; exact h2, r, by rw [gr_pu]; exact h3, LawAt_frame h4 (Nat.le_refl M) (fun a k h1 _ => gi_pu_n (by omega) (by omega)) (fun a _ => rfl)⟩
theorem CS_pu {M o : Nat} {A : Ab} {P : Pt} {τ : St} {f : Nat → Int32} (ho : o = 12 ∨ o = 14) (h : CS M A τ) : CS M A (pu τ o P f) := by
  have h8 := h.2.2.2.2.2.2.2.2.2
  exact CS_frame h (fun a k ha => gi_pu_n (by omega) (by omega)) (fun _ => rfl) h8.2.1 h8.2.2 (fun _ => rfl)
/-- the reference's pot reads P -/
def PotM (P : Pt) (τ : St) : Prop := (∀ k, k < 14 → gi τ 13 k = P.1 (pm k)) ∧ gi τ 0 26 = (if P.2 = 0 then 0 else 1) ∧ (P.2 ≠ 0 → gl τ 0 = nx P.2) ∧ okl P.2
theorem PotM_eq {P : Pt} {τ : St} (h : PotM P τ) : τ = mu τ P (gl τ 0) (gi τ 0 28) (fun k => gi τ 8 k) (fun k => gi τ 9 k) := by
  obtain ⟨h1, h2, h3, -⟩ := h
  refine St_ext (fun a k => ?_) (fun a => ?_) mu_22.symm
  · rw [gi_mu]
    by_cases e : a = 13
    · rw [if_pos e, e]
      by_cases hk : k < 14
      · rw [if_pos hk, h1 k hk]
      · rw [if_neg hk]
    · rw [if_neg e]
      by_cases e2 : a = 8
      · rw [if_pos e2, e2]
      · rw [if_neg e2]
        by_cases e3 : a = 9
        · rw [if_pos e3, e3]
        · rw [if_neg e3]
          by_cases e4 : a = 0
          · rw [if_pos e4, e4]
            by_cases k1 : k = 26
            · rw [if_pos k1, k1, h2]
            · rw [if_neg k1]
              by_cases k2 : k = 28
              · rw [if_pos k2, k2]
              · rw [if_neg k2]
          · rw [if_neg e4]
  · rw [gl_mu]
    by_cases e : a = 0
    · rw [if_pos e, e]
      by_cases hz : P.2 = 0
      · rw [if_pos hz]
      · rw [if_neg hz, h3 hz]
    · rw [if_neg e]
theorem PotM_mu {P : Pt} {σ : St} {x : Int64} {hm : Int32} {g h : Nat → Int32} (hl : okl P.2) : PotM P (mu σ P x hm g h) := by
  refine ⟨fun k hk => ?_, rfl, fun hz => ?_, hl⟩
  · rw [gi_mu, if_pos rfl, if_pos hk]
  · rw [gl_mu, if_pos rfl, if_neg hz]
theorem MS_mu {A : Ab} {σ : St} {P : Pt} {x : Int64} {hm : Int32} {g h : Nat → Int32} (hA : MS A σ) : MS A (mu σ P x hm g h) := by
  refine MS_frame hA (fun a k h8 h9 h13 h19 h0 => ?_)
  rw [gi_mu, if_neg h13, if_neg h8, if_neg h9]
  by_cases e : a = 0
  · have hz := h0 e
    unfold zk at hz
    rw [if_pos e, if_neg (by omega), if_neg (by omega), e]
  · rw [if_neg e]
theorem MLw_of {A : Ab} {τ : St} (hA : MS A τ) (hl : aLn A < aNl A) (h6 : aNl A ≤ 6) : MLw τ (aLw A (aLn A)) := by
  obtain ⟨-, -, ⟨m3, m3b, m3c⟩, -⟩ := hA
  refine ⟨aLn A, by omega, m3b, (m3c _ hl).1, fun p hp => ?_⟩
  obtain ⟨b, h1, h2, h3, h4, h5⟩ := (m3c _ hl).2 p hp
  exact ⟨b, h1, h2, by omega, h5⟩
