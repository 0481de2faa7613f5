/-! the beginning: the first law read, both sides new -/
def L0 : Lw := ([-1, 2, -27, -2, -25, 20, -26], [-1, 50, -26, -2, 2, -27, -26, -3, -26], [60, -6, -26, -1, -25])
def f0 : Nat → Int32 := fun k => chT 0 (nI k)
def told0 : Nat → Int32 := fun k => if k = 0 then 4 else if k = 1 then 20 else 3
def A0 : Ab := (((0, fun _ _ => 0), (0, fun _ _ => 0)), (fun _ => L0, 1, 0), told0, (0, fun _ => 0), (0, fun _ _ => 0, fun _ => 0, 0), fun _ => -1, fun _ => 0, fun _ _ => 0)
set_option maxRecDepth 100000 in
theorem ok0 : okX 90 f0 := by decide +kernel
set_option maxRecDepth 100000 in
theorem lw0 : lwX 90 f0 = L0 := by decide +kernel
theorem L0_ok : LOk L0 := by
  have h := lw_ok (n := 90) (f := f0) (by decide) ok0.1
  rw [lw0] at h
  exact h
theorem fl_gi {i a k : Nat} (h6 : a ≠ 6) (h5 : ¬ (a = 5 ∧ k = 1)) : gi (fl i) a k = gi T6 a k := by
  induction i with
  | zero => rfl
  | succ i ih =>
    show gi (si (si (fl i) 6 i (chT 0 (nI i))) 5 1 (nI (i + 1))) a k = _
    rw [gsn h5, gso h6]
    exact ih
theorem fl_6 : ∀ i k, k < i → gi (fl i) 6 k = f0 k := by
  intro i
  induction i with
  | zero => intro k hk; omega
  | succ i ih =>
    intro k hk
    show gi (si (si (fl i) 6 i (chT 0 (nI i))) 5 1 (nI (i + 1))) 6 k = _
    rw [gso (by decide)]
    by_cases e : k = i
    · rw [e, gss]; rfl
    · rw [gsk e]; exact ih k (by omega)
theorem fl_22 (i : Nat) : (fl i).2 = T6.2 := by
  induction i with
  | zero => rfl
  | succ i ih => exact ih
theorem f0_bd : ∀ k, k < 90 → 0 ≤ (f0 k).toInt ∧ (f0 k).toInt ≤ 255 := by decide +kernel
theorem t6_C : gi T6 0 1 = 0 ∧ gi T6 0 3 = 0 ∧ gi T6 0 6 = 0 ∧ (gi T6 4 0 = 4 ∧ gi T6 4 1 = 20 ∧ gi T6 4 2 = 3) ∧ gi T6 0 11 = -1 := by decide +kernel
theorem t6_S : ∀ d, d < 4 → gi T6 (45 + 2 * d) 1 = -1 ∧ gi T6 (45 + 2 * d) 2 = 0 ∧ ∀ k, k < 40 → gi T6 (46 + 2 * d) k = 0 := by decide +kernel
theorem t6_R : (∀ k, k < 6 → gr T6 3 k = none) ∧ gr T6 12 1 = none ∧ gr T6 14 1 = none := by decide +kernel
theorem t7_C : gi T7 0 0 = 0 ∧ gi T7 0 21 = 0 ∧ gi T7 0 5 = 1 ∧ gi T7 0 6 = 0 ∧ (gi T7 2 0 = 4 ∧ gi T7 2 1 = 20 ∧ gi T7 2 2 = 3) ∧ gi T7 0 4 = 0 ∧ gi T7 0 29 = 0 := by decide +kernel
theorem t7_S : ∀ d, d < 4 → gi T7 16 d = -1 ∧ gi T7 17 d = 0 ∧ ∀ k, k < 40 → gi T7 18 (40 * d + k) = 0 := by decide +kernel
theorem t7_8 : ∀ k, k < 60 → gi T7 7 k = lt7.getD k 0 := by decide +kernel
theorem t7_L : ∀ p, p < 3 → gi T7 5 p = nI (Lfrom L0 p) ∧ gi T7 6 p = nI (Lfrom L0 p + (Lpart L0 p).length) ∧ Lfrom L0 p + (Lpart L0 p).length ≤ 510 ∧ ∀ j, j < (Lpart L0 p).length → gi T7 4 (Lfrom L0 p + j) = cM ((Lpart L0 p).getD j 0) := by decide +kernel
theorem MS_0 : MS A0 T7 := by
  obtain ⟨h1, h2, h3, h4, ⟨h50, h51, h52⟩, h6, h7⟩ := t7_C
  refine ⟨⟨h1, fun i k hi => absurd hi (Nat.not_lt_zero i)⟩, ⟨h2, fun i hi => absurd hi (Nat.not_lt_zero i)⟩, ⟨h3, h4, fun t ht => ?_⟩, fun k hk => ?_, ⟨h6, fun k hk => absurd hk (Nat.not_lt_zero k)⟩, ⟨fun _ => h7, fun n e => ?_⟩, fun d hd => t7_S d hd, t7_8⟩
  · have ht : t < 1 := ht
    have e : t = 0 := by omega
    subst e
    refine ⟨L0_ok, fun p hp => ?_⟩
    obtain ⟨a1, a2, a3, a4⟩ := t7_L p hp
    refine ⟨Lfrom L0 p, ?_, ?_, by omega, by show Lfrom L0 p + (Lpart L0 p).length ≤ 510 * (0 + 1); omega, fun j c hc => ?_⟩
    · rw [show 3 * 0 + p = p by omega]; exact a1
    · rw [show 3 * 0 + p = p by omega]; exact a2
    · have hj := (List.getElem?_eq_some_iff.mp hc).1
      rw [a4 j hj]
      have e : (Lpart L0 p).getD j 0 = c := by
        have hc : (Lpart L0 p)[j]? = some c := hc
        rw [List.getD_eq_getElem?_getD, hc]
        rfl
      rw [e]
  · rcases (show k = 0 ∨ k = 1 ∨ k = 2 by omega) with rfl | rfl | rfl
    · exact h50
    · exact h51
    · exact h52
  · have e : (0 : Nat) = n + 1 := e
    omega
theorem VA_0 : VA A0 := by
  refine ⟨fun i hi => absurd hi (Nat.not_lt_zero i), fun i hi => absurd hi (Nat.not_lt_zero i), ?_, fun k hk => absurd hk (Nat.not_lt_zero k), fun n e => ?_, fun d hd => ?_⟩
  · show okT told0
    unfold okT told0
    decide
  · have e : (0 : Nat) = n + 1 := e
    omega
  · show -1 ≤ (-1 : Int32).toInt ∧ (-1 : Int32).toInt ≤ 2
    decide
theorem CS_0 {σ : St} (hr : σ.2 = (fl 90).2) (hg : ∀ a k, ¬ (5 ≤ a ∧ a ≤ 8) → gi σ a k = gi (fl 90) a k) (h1 : gi σ 5 1 = 0) (h8 : gi σ 5 8 = nI (Lall L0).length) (h7 : ∀ j c, (Lall L0)[j]? = some c → gi σ 7 j = c) (e0 : gi σ 8 0 = nI L0.1.length) (e1 : gi σ 8 1 = nI (L0.1.length + L0.2.1.length)) : CS 55 A0 (si (sr (rlT 53 σ) 3 0 (some 54)) 0 5 1) := by
  have hlen := L0_ok.2.2.2
  have hc8 : (gi σ 5 8).toNatClampNeg = (Lall L0).length := by rw [h8]; exact nI_clamp (by omega)
  have fg : ∀ a k, a < 53 → ¬ (a = 0 ∧ k = 5) → ¬ (5 ≤ a ∧ a ≤ 8) → gi (si (sr (rlT 53 σ) 3 0 (some 54)) 0 5 1) a k = gi T6 a k := by
    intro a k p1 p2 p3
    rw [gsn p2]
    show gi (rlT 53 σ) a k = _
    rw [rl_lt p1, hg a k p3]
    exact fl_gi (by omega) (by omega)
  have fgr : ∀ a k, ¬ (a = 3 ∧ k = 0) → gr (si (sr (rlT 53 σ) 3 0 (some 54)) 0 5 1) a k = gr T6 a k := by
    intro a k p
    have e : gr σ a k = gr T6 a k := by unfold gr; rw [hr, fl_22]
    rw [← e]
    show (if a = 3 then (if k = 0 then some 54 else gr (rlT 53 σ) a k) else gr (rlT 53 σ) a k) = _
    by_cases q : a = 3
    · rw [if_pos q, if_neg (fun z => p ⟨q, z⟩)]; exact rl_gr
    · rw [if_neg q]; exact rl_gr
  have fgn : gr (si (sr (rlT 53 σ) 3 0 (some 54)) 0 5 1) 3 0 = some 54 := by
    have e : gr (sr (rlT 53 σ) 3 0 (some 54)) 3 0 = some 54 := by simp [gr, sr]
    exact e
  obtain ⟨k1, k3, k6, ⟨k40, k41, k42⟩, k11⟩ := t6_C
  obtain ⟨r3, r12, r14⟩ := t6_R
  refine ⟨⟨(fg _ _ (by decide) (by decide) (by decide)).trans k1, Nat.zero_le _, fun i k hi => absurd hi (Nat.not_lt_zero i)⟩, ⟨(fg _ _ (by decide) (by decide) (by decide)).trans k3, Nat.zero_le _, fun i k hi => absurd hi (Nat.not_lt_zero i)⟩, ⟨gss, by show 1 ≤ 6; decide, (fg _ _ (by decide) (by decide) (by decide)).trans k6, by show 0 < 1; decide, fun t ht => ?_⟩, fun k hk => ?_, ⟨?_, Nat.zero_le _, fun k hk => absurd hk (Nat.not_lt_zero k)⟩, ⟨fun _ => (fg _ _ (by decide) (by decide) (by decide)).trans k11, fun n e => ?_⟩, fun d hd => ?_, by decide, by decide, fun k hk r hq => ?_, fun r hq => ?_, fun r hq => ?_⟩
  · have ht : t < 1 := ht
    have e : t = 0 := by omega
    subst e
    refine ⟨54, fgn, by decide, by decide, by decide, ?_, fun i c hc => ?_, ?_, ?_, L0_ok⟩
    · show gz (rlT 53 σ) 53 = _
      rw [rl_gzM, hc8]; rfl
    · have hi := (List.getElem?_eq_some_iff.mp hc).1
      rw [gso (by decide)]
      show gi (rlT 53 σ) 53 i = c
      have hi : i < (Lall L0).length := hi
      rw [rl_M (by omega)]
      exact h7 i c hc
    · rw [gso (by decide)]
      show gi (rlT 53 σ) (53 + 1) 1 = _
      rw [rl_1]; exact e0
    · rw [gso (by decide)]
      show gi (rlT 53 σ) (53 + 1) 2 = _
      rw [rl_2]; exact e1
  · rw [fg _ _ (by decide) (by omega) (by decide)]
    rcases (show k = 0 ∨ k = 1 ∨ k = 2 by omega) with rfl | rfl | rfl
    · exact k40
    · exact k41
    · exact k42
  · rw [gso (by decide)]
    show gi (rlT 53 σ) 5 1 = _
    rw [rl_lt (by decide), h1]; rfl
  · have e : (0 : Nat) = n + 1 := e
    omega
  · obtain ⟨s1, s2, s3⟩ := t6_S d hd
    exact ⟨(fg _ _ (by omega) (by omega) (by omega)).trans s1, (fg _ _ (by omega) (by omega) (by omega)).trans s2, by show 0 ≤ 40; decide, fun k hk => (fg _ _ (by omega) (by omega) (by omega)).trans (s3 k hk)⟩
  · by_cases e : k = 0
    · rw [e, fgn] at hq
      cases hq
      decide
    · rw [fgr _ _ (by omega), r3 k hk] at hq
      cases hq
  · rw [fgr _ _ (by decide), r12] at hq
    cases hq
  · rw [fgr _ _ (by decide), r14] at hq
    cases hq
theorem hop_init : w_X6_init (fun u M => RRel M u T7) := by
  have hT : TPc 90 f0 (fl 90) := ⟨fl_size 90, by decide, fun k hk => fl_6 90 k hk, f0_bd⟩
  have hlen := L0_ok.2.2.2
  unfold w_X6_init
  refine c_readLaw hT (fun ob => absurd ok0 ob) (fun _ τ1 f1 t8 t7 g0 g1 => ?_)
  rw [lw0] at t8 t7 g0 g1
  have s8 : gi (si τ1 5 1 0) 5 8 = nI (Lall L0).length := by rw [gsk (by decide)]; exact t8
  have key := CS_0 (σ := si τ1 5 1 0) (by show τ1.2 = _; exact f1.1) (fun a k p => by rw [gso (by omega)]; exact f1.2 a k (by omega) (by omega) (by omega)) gss s8 (fun j d hd => by rw [gso (by decide)]; exact t7 j d hd) (by rw [gso (by decide)]; exact g0) (by rw [gso (by decide)]; exact g1)
  obtain ⟨r3, r12, r14⟩ := t6_R
  have sgr : ∀ a k, gr (si τ1 5 1 0) a k = gr T6 a k := fun a k => by
    show gr τ1 a k = _
    unfold gr; rw [f1.1, fl_22]
  unfold w_X4_readLaw_105
  rw [s8, nI_clamp (by omega)]
  refine ⟨nI_pos (by omega), hlen, ⟨fun k hk r hq => ?_, fun r hq => ?_, fun r hq => ?_⟩, by decide, 54, rfl, ⟨by decide, by decide⟩, A0, key, MS_0, VA_0⟩
  · rw [sgr, r3 k hk] at hq; cases hq
  · rw [sgr, r12] at hq; cases hq
  · rw [sgr, r14] at hq; cases hq
