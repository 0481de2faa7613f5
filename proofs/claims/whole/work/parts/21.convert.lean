/-- the references of the component's shape, told by the state: within each cell's own slots alone -/
def rvC (M : Nat) (σ : St) (o k : Nat) : Option Nat := if o < M then (if kdC o < 20 then (if k < fnC (kdC o) then (if ftC (kdC o) k = 2 then rcC σ o k else none) else none) else if kdC o < 60 then none else if k < lnC σ (kdC o) o then rcC σ o k else none) else none
def toG (M : Nat) (σ : St) : St := (σ.1, σ.2.1, rvC M σ, σ.2.2.2)
theorem gr_toG (M : Nat) (σ : St) (o k : Nat) : gr (toG M σ) o k = rvC M σ o k := rfl
theorem gi_toG (M : Nat) (σ : St) (o k : Nat) : gi (toG M σ) o k = gi σ o k := rfl
theorem gl_toG (M : Nat) (σ : St) (o : Nat) : gl (toG M σ) o = gl σ o := rfl
theorem gz_toG (M : Nat) (σ : St) (o : Nat) : gz (toG M σ) o = gz σ o := rfl
theorem ftC_or (ci k : Nat) : ftC ci k = 0 ∨ ftC ci k = 1 ∨ ftC ci k = 2 := by
  unfold ftC
  repeat' split
  all_goals simp
/-- two states tell the cells of the component's shape alike, the first by its own references -/
theorem en_GC {cs : Nat → ClassId} {ad ad' : Nat → Nat} {σ τ : St} {o : Nat} (h1 : ∀ k, gi τ o k = gi σ o k) (h2 : gl τ o = gl σ o) (h3 : ∀ kd, lnC τ kd o = lnC σ kd o)
    (h4 : ∀ k, kdC o < 20 → k < fnC (kdC o) → ftC (kdC o) k = 2 → (rcC τ o k).map ad' = (gr σ o k).map ad) (h5 : ∀ k, ¬ kdC o < 60 → k < lnC σ (kdC o) o → (rcC τ o k).map ad' = (gr σ o k).map ad) :
    EQ2 (en YG cs ad σ o) (en YC cs ad' τ o) := by
  unfold en
  show EQ2 (eb YG cs ad σ (kdC o) o) (eb YC cs ad' τ (kdC o) o)
  unfold eb
  by_cases hk : kdC o < 20
  · rw [if_pos hk, if_pos hk]
    refine Or.inl ?_
    congr 2
    apply List.map_congr_left
    intro k hkm
    have hkn : k < fnC (kdC o) := List.mem_range.mp hkm
    show (if ftC (kdC o) k = 0 then Value.int (gi σ o k) else if ftC (kdC o) k = 1 then .long (gl σ o) else va_rf ((gr σ o k).map ad)) = (if ftC (kdC o) k = 0 then Value.int (gi τ o k) else if ftC (kdC o) k = 1 then .long (gl τ o) else va_rf ((rcC τ o k).map ad'))
    rw [h1, h2]
    rcases ftC_or (kdC o) k with q | q | q
    · rw [if_pos q, if_pos q]
    · have q0 : ¬ ftC (kdC o) k = 0 := by omega
      rw [if_neg q0, if_neg q0, if_pos q, if_pos q]
    · have q0 : ¬ ftC (kdC o) k = 0 := by omega
      have q1 : ¬ ftC (kdC o) k = 1 := by omega
      rw [if_neg q0, if_neg q0, if_neg q1, if_neg q1, h4 k hk hkn q]
  · rw [if_neg hk, if_neg hk]
    by_cases hk6 : kdC o < 60
    · rw [if_pos hk6, if_pos hk6]
      refine Or.inl ?_
      show Sum.inl (cs (acC (kdC o)), lnC σ (kdC o) o, Sum.inl (fun j => gi σ o j)) = Sum.inl (cs (acC (kdC o)), lnC τ (kdC o) o, Sum.inl (fun j => gi τ o j))
      rw [h3]
      simp only [h1]
    · rw [if_neg hk6, if_neg hk6]
      refine Or.inr ⟨cs (acC (kdC o)), lnC σ (kdC o) o, fun j => (gr σ o j).map ad, fun j => (rcC τ o j).map ad', rfl, ?_, fun j hj => (h5 j hk6 hj).symm⟩
      show Sum.inl (cs (acC (kdC o)), lnC τ (kdC o) o, _) = _
      rw [h3]
      rfl
theorem EQ2.symm {e e' : va_E} (h : EQ2 e e') : EQ2 e' e := by
  rcases h with rfl | ⟨cA, n, f, g, rfl, rfl, hj⟩
  · exact Or.inl rfl
  · exact Or.inr ⟨cA, n, g, f, rfl, rfl, fun j h => (hj j h).symm⟩
theorem rvC_ob {M o k : Nat} {σ : St} (h : o < M) (h1 : kdC o < 20) (h2 : k < fnC (kdC o)) (h3 : ftC (kdC o) k = 2) : rvC M σ o k = rcC σ o k := by
  unfold rvC
  rw [if_pos h, if_pos h1, if_pos h2, if_pos h3]
theorem rvC_ar {M o k : Nat} {σ : St} (h : o < M) (h1 : ¬ kdC o < 60) (h2 : k < lnC σ (kdC o) o) : rvC M σ o k = rcC σ o k := by
  unfold rvC
  rw [if_pos h, if_neg (by omega), if_neg h1, if_pos h2]
theorem WH_toG {Γ : Gm} {M : Nat} {ad : Nat → Nat} {σ : St} {s : State} {H : Heap} {locs : List Loc} (hw : WH Γ YC M ad σ s H locs) : WH Γ YG M ad (toG M σ) s H locs := by
  refine WH_like hw (fun _ _ => rfl) (fun o ho => EQ2.symm (en_GC (fun _ => rfl) rfl (fun _ => rfl) (fun k h1 h2 h3 => ?_) (fun k h1 h2 => ?_)))
  · rw [gr_toG, rvC_ob ho h1 h2 h3]
  · rw [gr_toG, rvC_ar ho h1 (by exact h2)]
/-- the laws' references stay below M -/
def LR (M : Nat) (σ : St) : Prop := (∀ k, k < 6 → ∀ r, gr σ 3 k = some r → r < M) ∧ (∀ r, gr σ 12 1 = some r → r < M) ∧ (∀ r, gr σ 14 1 = some r → r < M)
theorem RO_toG {M : Nat} {σ : St} (hM : 53 ≤ M) (h : LR M σ) : RO M (toG M σ) := by
  intro o k r hr
  rw [gr_toG] at hr
  unfold rvC at hr
  by_cases ho : o < M
  · rw [if_pos ho] at hr
    rcases Nat.lt_or_ge o 53 with hl | hg
    · by_cases h1 : kdC o < 20
      · rw [if_pos h1] at hr
        by_cases h2 : k < fnC (kdC o)
        · rw [if_pos h2] at hr
          by_cases h3 : ftC (kdC o) k = 2
          · rw [if_pos h3] at hr
            by_cases h4 : kdC o = 3 ∧ k = 1
            · rw [kd3b h4.1 (by omega), h4.2] at hr
              have key : ∀ o, o < 53 → kdC o = 3 → o = 12 ∨ o = 14 := by decide +kernel
              rcases key o hl h4.1 with rfl | rfl
              · exact h.2.1 r hr
              · exact h.2.2 r hr
            · have key : ∀ o, o < 53 → ∀ k, k < 17 → (kdC o < 20 ∧ k < fnC (kdC o) ∧ ftC (kdC o) k = 2 ∧ ¬ (kdC o = 3 ∧ k = 1)) → (rcC (fun _ _ => 0, fun _ => 0, fun _ _ => none, fun _ => 0) o k).all (fun r => decide (r < 53)) = true ∧ o ≠ 3 := by decide +kernel
              have hk17 : k < 17 := by
                have : ∀ c, c < 20 → fnC c ≤ 17 := by decide
                have := this _ h1
                omega
              have hq := key o hl k hk17 ⟨h1, h2, h3, h4⟩
              have e1 : rcC (fun _ _ => 0, fun _ => 0, fun _ _ => none, fun _ => 0) o k = rcC σ o k := by
                by_cases h5 : kdC o = 3
                · have hk0 : k = 0 := by
                    have : ∀ k, k < 17 → ftC 3 k = 2 → k = 0 ∨ k = 1 := by decide
                    rcases this k hk17 (by rw [← h5]; exact h3) with q | q
                    · exact q
                    · exact absurd ⟨h5, q⟩ h4
                  subst hk0
                  rw [(kd3 h5).2.2, (kd3 h5).2.2]
                · unfold rcC
                  rw [if_neg hq.2, if_neg hq.2, if_neg h5, if_neg h5]
              rw [e1, hr] at hq
              have : r < 53 := by simpa using hq.1
              omega
          · rw [if_neg h3] at hr; cases hr
        · rw [if_neg h2] at hr; cases hr
      · rw [if_neg h1] at hr
        by_cases h2 : kdC o < 60
        · rw [if_pos h2] at hr; cases hr
        · rw [if_neg h2] at hr
          have key : ∀ o, o < 53 → ¬ kdC o < 60 → o = 1 ∨ o = 2 ∨ o = 3 ∨ o = 9 ∨ o = 10 := by decide +kernel
          rcases key o hl h2 with rfl | rfl | rfl | rfl | rfl
          · by_cases hk : k < 4
            · rw [if_pos (show k < lnC σ (kdC 1) 1 from hk)] at hr
              have e : rcC σ 1 k = some (17 + 4 * k) := rfl
              rw [e] at hr; cases hr; omega
            · rw [if_neg (show ¬ k < lnC σ (kdC 1) 1 from hk)] at hr; cases hr
          · by_cases hk : k < 12
            · rw [if_pos (show k < lnC σ (kdC 2) 2 from hk)] at hr
              have e : rcC σ 2 k = some (33 + k) := rfl
              rw [e] at hr; cases hr; omega
            · rw [if_neg (show ¬ k < lnC σ (kdC 2) 2 from hk)] at hr; cases hr
          · by_cases hk : k < 6
            · rw [if_pos (show k < lnC σ (kdC 3) 3 from hk)] at hr
              exact h.1 k hk r hr
            · rw [if_neg (show ¬ k < lnC σ (kdC 3) 3 from hk)] at hr; cases hr
          · by_cases hk : k < 4
            · rw [if_pos (show k < lnC σ (kdC 9) 9 from hk)] at hr
              have e : rcC σ 9 k = some (45 + 2 * k) := rfl
              rw [e] at hr; cases hr; omega
            · rw [if_neg (show ¬ k < lnC σ (kdC 9) 9 from hk)] at hr; cases hr
          · by_cases hk : k < 4
            · rw [if_pos (show k < lnC σ (kdC 10) 10 from hk)] at hr
              have e : rcC σ 10 k = some (19 + 4 * k) := rfl
              rw [e] at hr; cases hr; omega
            · rw [if_neg (show ¬ k < lnC σ (kdC 10) 10 from hk)] at hr; cases hr
    · have hk := kdC_hi hg
      by_cases hm : (o - 53) % 2 = 0
      · rw [if_pos hm] at hk
        rw [hk] at hr
        simp at hr
      · rw [if_neg hm] at hk
        rw [hk] at hr
        rw [if_pos (by decide)] at hr
        by_cases h2 : k < fnC 2
        · rw [if_pos h2] at hr
          by_cases h3 : ftC 2 k = 2
          · rw [if_pos h3] at hr
            have hk0 : k = 0 := by
              have : ∀ k, k < 3 → ftC 2 k = 2 → k = 0 := by decide
              exact this k h2 h3
            subst hk0
            rw [(kd2 hk).2.2] at hr
            cases hr
            omega
          · rw [if_neg h3] at hr; cases hr
        · rw [if_neg h2] at hr; cases hr
  · rw [if_neg ho] at hr; cases hr
