/-- the component's cells: kinds -/
def kdC (o : Nat) : Nat :=
  if o = 0 then 6 else if o = 1 then 60 else if o = 2 then 61 else if o = 3 then 62 else if o = 4 then 21 else if o = 5 then 4 else if o = 6 then 22 else if o = 7 then 22 else if o = 8 then 21 else if o = 9 then 63 else if o = 10 then 60 else if o = 11 then 21 else if o = 12 then 3 else if o = 13 then 25 else if o = 14 then 3 else if o = 15 then 25 else if o = 16 then 0
  else if o < 33 then (if (o - 17) % 2 = 0 then 1 else 20) else if o < 45 then 0 else if o < 53 then (if (o - 45) % 2 = 0 then 5 else 24) else if (o - 53) % 2 = 0 then 26 else 2
def ftC (ci k : Nat) : Nat :=
  if ci = 0 then 0 else if ci = 1 then 2 else if ci = 2 then (if k = 0 then 2 else 0) else if ci = 3 then (if k = 0 then 2 else if k = 1 then 2 else if k = 2 then 1 else 0) else if ci = 4 then (if k = 0 then 2 else if k = 7 then 2 else if k = 9 then 2 else 0) else if ci = 5 then (if k = 0 then 2 else 0)
  else (if k = 1 then 0 else if k = 3 then 0 else if k = 5 then 0 else if k = 6 then 0 else if k = 11 then 0 else if k = 13 then 0 else 2)
def fnC (ci : Nat) : Nat := if ci = 0 then 3 else if ci = 1 then 1 else if ci = 2 then 3 else if ci = 3 then 17 else if ci = 4 then 10 else if ci = 5 then 3 else 17
def lnC (σ : St) (kd o : Nat) : Nat := if kd = 20 then 5 else if kd = 21 then 3 else if kd = 22 then 160 else if kd = 24 then 40 else if kd = 25 then 40 else if kd = 26 then gz σ o else if kd = 60 then 4 else if kd = 61 then 12 else if kd = 62 then 6 else 4
def r0C (k : Nat) : Option Nat := if k = 0 then some 1 else if k = 2 then some 2 else if k = 4 then some 3 else if k = 7 then some 4 else if k = 8 then some 5 else if k = 9 then some 9 else if k = 10 then some 10 else if k = 12 then some 11 else if k = 14 then some 12 else if k = 15 then some 14 else some 16
def rcC (σ : St) (o k : Nat) : Option Nat :=
  if o = 0 then r0C k else if o = 1 then some (17 + 4 * k) else if o = 2 then some (33 + k) else if o = 3 then gr σ 3 k else if o = 5 then (if k = 0 then some 6 else if k = 7 then some 7 else some 8) else if o = 9 then some (45 + 2 * k) else if o = 10 then some (19 + 4 * k)
  else if kdC o = 3 then (if k = 0 then some (o + 1) else gr σ o k) else if kdC o = 2 then some (o - 1) else some (o + 1)
def acC (kd : Nat) : Nat := if kd < 60 then 0 else kd - 59
def YC : Sy := (kdC, ftC, fnC, lnC, rcC, acC)
theorem YC_ok : YOk YC := by
  intro σ τ h
  have h1 : ∀ o, gz σ o = gz τ o := fun o => by unfold gz; rw [h]
  have h2 : ∀ o k, gr σ o k = gr τ o k := fun o k => by unfold gr; rw [h]
  refine ⟨?_, ?_⟩
  · funext kd o
    show lnC σ kd o = lnC τ kd o
    unfold lnC
    rw [h1]
  · funext o k
    show rcC σ o k = rcC τ o k
    unfold rcC
    rw [h2, h2]
theorem kdC_hi {o : Nat} (h : 53 ≤ o) : kdC o = if (o - 53) % 2 = 0 then 26 else 2 := by
  unfold kdC
  repeat rw [if_neg (by omega)]
theorem kdC_lo {o k : Nat} (h : kdC o = k) (h1 : k ≠ 26) (h2 : k ≠ 2) : o < 53 := by
  rcases Nat.lt_or_ge o 53 with q | q
  · exact q
  · rw [kdC_hi q] at h
    split at h <;> omega
theorem kd1 {o : Nat} (h : kdC o = 1) : kdC (o + 1) = 20 ∧ o + 1 < 53 ∧ ∀ σ, rcC σ o 0 = some (o + 1) := by
  have hl := kdC_lo h (by decide) (by decide)
  have key : ∀ o, o < 53 → kdC o = 1 → kdC (o + 1) = 20 ∧ o + 1 < 53 ∧ 17 ≤ o := by decide +kernel
  obtain ⟨h1, h2, h3⟩ := key o hl h
  refine ⟨h1, h2, fun σ => ?_⟩
  unfold rcC
  rw [h]
  repeat rw [if_neg (by omega)]
theorem kd5 {o : Nat} (h : kdC o = 5) : kdC (o + 1) = 24 ∧ o + 1 < 53 ∧ ∀ σ, rcC σ o 0 = some (o + 1) := by
  have hl := kdC_lo h (by decide) (by decide)
  have key : ∀ o, o < 53 → kdC o = 5 → kdC (o + 1) = 24 ∧ o + 1 < 53 ∧ 17 ≤ o := by decide +kernel
  obtain ⟨h1, h2, h3⟩ := key o hl h
  refine ⟨h1, h2, fun σ => ?_⟩
  unfold rcC
  rw [h]
  repeat rw [if_neg (by omega)]
theorem kd3 {o : Nat} (h : kdC o = 3) : kdC (o + 1) = 25 ∧ o + 1 < 53 ∧ ∀ σ, rcC σ o 0 = some (o + 1) := by
  have hl := kdC_lo h (by decide) (by decide)
  have key : ∀ o, o < 53 → kdC o = 3 → kdC (o + 1) = 25 ∧ o + 1 < 53 ∧ 12 ≤ o := by decide +kernel
  obtain ⟨h1, h2, h3⟩ := key o hl h
  refine ⟨h1, h2, fun σ => ?_⟩
  unfold rcC
  rw [h]
  repeat rw [if_neg (by omega)]
  rfl
theorem kd3b {o k : Nat} (h : kdC o = 3) (hk : k ≠ 0) (σ : St) : rcC σ o k = gr σ o k := by
  have hl := kdC_lo h (by decide) (by decide)
  have key : ∀ o, o < 53 → kdC o = 3 → 12 ≤ o := by decide +kernel
  have h3 := key o hl h
  unfold rcC
  rw [h]
  repeat rw [if_neg (by omega)]
  rw [if_pos rfl, if_neg hk]
theorem kd2 {o : Nat} (h : kdC o = 2) : kdC (o - 1) = 26 ∧ 53 < o ∧ ∀ σ, rcC σ o 0 = some (o - 1) := by
  have hl : 53 ≤ o := by
    rcases Nat.lt_or_ge o 53 with q | q
    · have key : ∀ o, o < 53 → kdC o ≠ 2 := by decide +kernel
      exact absurd h (key o q)
    · exact q
  have h0 := h
  rw [kdC_hi hl] at h
  have hm : (o - 53) % 2 ≠ 0 := by
    intro q
    rw [if_pos q] at h
    omega
  refine ⟨?_, by omega, fun σ => ?_⟩
  · rw [kdC_hi (by omega), if_pos (by omega)]
  · unfold rcC
    rw [h0]
    repeat rw [if_neg (by omega)]
    rw [if_pos rfl]
/-- the pot's law changes -/
theorem en_srC {cs : Nat → ClassId} {ad : Nat → Nat} {σ : St} {o : Nat} {v : Option Nat} (h : kdC o = 3) (j : Nat) :
    va_up (en YC cs ad σ) o (.inr (3, ((List.range (YC.2.2.1 3)).map (fv YC ad σ 3 o)).set 1 (va_rf (v.map ad)))) j = en YC cs ad (sr σ o 1 v) j := by
  refine en_sr h (by decide) ⟨by decide, by decide⟩ rfl (fun a i => ?_) j
  have hl := kdC_lo h (by decide) (by decide)
  have key : ∀ o, o < 53 → kdC o = 3 → o = 12 ∨ o = 14 := by decide +kernel
  have ho := key o hl h
  show rcC (sr σ o 1 v) a i = if a = o ∧ i = 1 then v else rcC σ a i
  have e3 : gr (sr σ o 1 v) 3 i = gr σ 3 i := by
    rcases ho with rfl | rfl <;> rfl
  by_cases ha : a = o
  · subst ha
    by_cases hi : i = 1
    · subst hi
      rw [if_pos ⟨rfl, rfl⟩, kd3b h (by decide)]
      simp [gr, sr]
    · rw [if_neg (fun q => hi q.2)]
      by_cases hz : i = 0
      · subst hz
        rw [(kd3 h).2.2, (kd3 h).2.2]
      · rw [kd3b h hz, kd3b h hz]
        simp [gr, sr, hi]
  · rw [if_neg (fun q => ha q.1)]
    unfold rcC
    rw [e3]
    have e4 : gr (sr σ o 1 v) a i = gr σ a i := by simp [gr, sr, ha]
    rw [e4]
/-- the reference's cells -/
def kdM (o : Nat) : Nat := if o = 0 then 7 else 20 + o
def ftM (_ k : Nat) : Nat := if k = 1 then 2 else if k = 2 then 2 else if k = 3 then 2 else if k = 7 then 2 else if k = 8 then 2 else if k = 9 then 2 else if k = 18 then 2 else if k = 19 then 2 else if k = 20 then 2 else if k = 22 then 2 else if k = 23 then 2 else if k = 24 then 2 else if k = 25 then 2 else if k = 32 then 2 else if k = 33 then 2 else if k = 34 then 2 else if k = 35 then 2 else if k = 36 then 2 else if k = 37 then 2 else if k = 27 then 1 else 0
def fnM (_ : Nat) : Nat := 38
def lnM (_ : St) (kd _o : Nat) : Nat := if kd = 21 then 20 else if kd = 22 then 3 else if kd = 23 then 160 else if kd = 24 then 3570 else if kd = 25 then 21 else if kd = 26 then 21 else if kd = 27 then 60 else if kd = 28 then 170 else if kd = 29 then 6 else if kd = 30 then 12 else if kd = 31 then 12 else if kd = 32 then 12 else if kd = 33 then 14 else if kd = 34 then 20 else if kd = 35 then 3 else if kd = 36 then 4 else if kd = 37 then 4 else if kd = 38 then 160 else if kd = 39 then 40 else if kd = 40 then 5 else 0
def rcM (_ : St) (_o k : Nat) : Option Nat := if k = 1 then some 1 else if k = 2 then some 2 else if k = 3 then some 3 else if k = 7 then some 4 else if k = 8 then some 5 else if k = 9 then some 6 else if k = 18 then some 7 else if k = 19 then some 8 else if k = 20 then some 9 else if k = 22 then some 10 else if k = 23 then some 11 else if k = 24 then some 12 else if k = 25 then some 13 else if k = 32 then some 14 else if k = 33 then some 15 else if k = 34 then some 16 else if k = 35 then some 17 else if k = 36 then some 18 else if k = 37 then some 19 else none
def acM (kd : Nat) : Nat := if kd = 27 then 5 else 0
def YM : Sy := (kdM, ftM, fnM, lnM, rcM, acM)
theorem YM_ok : YOk YM := fun _ _ _ => ⟨rfl, rfl⟩
theorem inT0 : ∀ w ∈ u_ws RX0 TX0 3, w ∈ TB := by decide +kernel
theorem inT1 : ∀ w ∈ u_ws RX1 TX1 1, w ∈ TB := by decide +kernel
theorem inT2 : ∀ w ∈ u_ws RX2 TX2 3, w ∈ TB := by decide +kernel
theorem inT3 : ∀ w ∈ u_ws RX3 TX3 17, w ∈ TB := by decide +kernel
theorem inT4 : ∀ w ∈ u_ws RX4 TX4 10, w ∈ TB := by decide +kernel
theorem inT5 : ∀ w ∈ u_ws RX5 TX5 3, w ∈ TB := by decide +kernel
theorem inT6 : ∀ w ∈ u_ws RX6 TX6 17, w ∈ TB := by decide +kernel
theorem inT7 : ∀ w ∈ u_ws RX7 TX7 38, w ∈ TB := by decide +kernel
theorem lot_X3 (i : Nat) (h : ftC 3 i = 1) : i = 2 := by
  unfold ftC at h
  simp only [Nat.reduceEqDiff, if_false, if_true] at h
  by_cases h0 : i = 0
  · rw [if_pos h0] at h; omega
  · rw [if_neg h0] at h
    by_cases h1 : i = 1
    · rw [if_pos h1] at h; omega
    · rw [if_neg h1] at h
      by_cases h2 : i = 2
      · exact h2
      · rw [if_neg h2] at h; omega
theorem lot_X7 (i : Nat) (h : ftM 7 i = 1) : i = 27 := by
  rcases Nat.lt_or_ge i 38 with q | q
  · have key : ∀ i, i < 38 → ftM 7 i = 1 → i = 27 := by decide +kernel
    exact key i q h
  · unfold ftM at h
    repeat rw [if_neg (by omega)] at h
    omega
section FIELDS
variable {Γ : Gm} {M : Nat} {ad : Nat → Nat} {σ : St} {p : Program} {l : Launch} {e : Env} {R : Room} {s : State} {m : MethodId} {args : Array Value} {below : List Frame} {meth : Method} {c : Code} {H : Heap} {locs : List Loc} {cells slots : Nat} {Q : State → Prop} {cc : ByteArray} {pc nL : Nat} {ls : Array Slot} {rest : List Value} {o : Nat}
theorem q_212 : Cond.fieldLink RX0 9 RX0 "kind" "I" ∈ TB := TB_at 212 (by decide +kernel) rfl
theorem fg_X0_9 (hc : CX Γ p s m args meth c cc RX0 nL) (hw : WH Γ YC M ad σ s H locs) (ho : o < M) (hkd : kdC o = 0) (hdg : decode cc pc = .ok (.getfield 9, 3)) (kk : W p l e R s m args below meth c H locs cells slots Q (F0 m (pc + 3) ls (.int (gi σ o 0) :: rest))) : W p l e R s m args below meth c H locs cells slots Q (F0 m pc ls (.ref (ad o) :: rest)) := g_get (ci := 0) (N := 3) (k := 0) (C := RX0) (T := TX0) rfl inT0 rfl (by decide) (by decide) q_212 rfl hc hw ho hkd hdg kk
theorem fp_X0_9 {v : Int32} (hc : CX Γ p s m args meth c cc RX0 nL) (hw : WH Γ YC M ad σ s H locs) (ho : o < M) (hkd : kdC o = 0) (hdg : decode cc pc = .ok (.putfield 9, 3)) (kk : ∀ (σ1 : St) (H1 : Heap) (locs1 : List Loc), σ1 = si σ o 0 v → WH Γ YC M ad σ1 s H1 locs1 → W p l e R s m args below meth c H1 locs1 cells slots Q (F0 m (pc + 3) ls rest)) : W p l e R s m args below meth c H locs cells slots Q (F0 m pc ls (.int v :: .ref (ad o) :: rest)) := g_put (ci := 0) (N := 3) (k := 0) (C := RX0) (T := TX0) (ty0 := tyX0) (τ := si σ o 0 v) rfl inT0 tyX0_ok nmX0 rfl (by decide) (by decide) q_212 rfl rfl rfl rfl hc hw ho hkd (en_si YC_ok hkd (by decide) rfl) hdg (fun H1 locs1 hw1 => kk _ H1 locs1 rfl hw1)
theorem q_215 : Cond.fieldLink RX0 13 RX0 "more" "I" ∈ TB := TB_at 215 (by decide +kernel) rfl
theorem fg_X0_13 (hc : CX Γ p s m args meth c cc RX0 nL) (hw : WH Γ YC M ad σ s H locs) (ho : o < M) (hkd : kdC o = 0) (hdg : decode cc pc = .ok (.getfield 13, 3)) (kk : W p l e R s m args below meth c H locs cells slots Q (F0 m (pc + 3) ls (.int (gi σ o 1) :: rest))) : W p l e R s m args below meth c H locs cells slots Q (F0 m pc ls (.ref (ad o) :: rest)) := g_get (ci := 0) (N := 3) (k := 1) (C := RX0) (T := TX0) rfl inT0 rfl (by decide) (by decide) q_215 rfl hc hw ho hkd hdg kk
theorem fp_X0_13 {v : Int32} (hc : CX Γ p s m args meth c cc RX0 nL) (hw : WH Γ YC M ad σ s H locs) (ho : o < M) (hkd : kdC o = 0) (hdg : decode cc pc = .ok (.putfield 13, 3)) (kk : ∀ (σ1 : St) (H1 : Heap) (locs1 : List Loc), σ1 = si σ o 1 v → WH Γ YC M ad σ1 s H1 locs1 → W p l e R s m args below meth c H1 locs1 cells slots Q (F0 m (pc + 3) ls rest)) : W p l e R s m args below meth c H locs cells slots Q (F0 m pc ls (.int v :: .ref (ad o) :: rest)) := g_put (ci := 0) (N := 3) (k := 1) (C := RX0) (T := TX0) (ty0 := tyX0) (τ := si σ o 1 v) rfl inT0 tyX0_ok nmX0 rfl (by decide) (by decide) q_215 rfl rfl rfl rfl hc hw ho hkd (en_si YC_ok hkd (by decide) rfl) hdg (fun H1 locs1 hw1 => kk _ H1 locs1 rfl hw1)
theorem q_218 : Cond.fieldLink RX0 16 RX0 "of" "I" ∈ TB := TB_at 218 (by decide +kernel) rfl
theorem fp_X0_16 {v : Int32} (hc : CX Γ p s m args meth c cc RX0 nL) (hw : WH Γ YC M ad σ s H locs) (ho : o < M) (hkd : kdC o = 0) (hdg : decode cc pc = .ok (.putfield 16, 3)) (kk : ∀ (σ1 : St) (H1 : Heap) (locs1 : List Loc), σ1 = si σ o 2 v → WH Γ YC M ad σ1 s H1 locs1 → W p l e R s m args below meth c H1 locs1 cells slots Q (F0 m (pc + 3) ls rest)) : W p l e R s m args below meth c H locs cells slots Q (F0 m pc ls (.int v :: .ref (ad o) :: rest)) := g_put (ci := 0) (N := 3) (k := 2) (C := RX0) (T := TX0) (ty0 := tyX0) (τ := si σ o 2 v) rfl inT0 tyX0_ok nmX0 rfl (by decide) (by decide) q_218 rfl rfl rfl rfl hc hw ho hkd (en_si YC_ok hkd (by decide) rfl) hdg (fun H1 locs1 hw1 => kk _ H1 locs1 rfl hw1)
theorem q_233 : Cond.fieldLink RX1 7 RX1 "parts" "[I" ∈ TB := TB_at 233 (by decide +kernel) rfl
theorem fg_X1_7 (hc : CX Γ p s m args meth c cc RX1 nL) (hw : WH Γ YC M ad σ s H locs) (ho : o < M) (hkd : kdC o = 1) (hdg : decode cc pc = .ok (.getfield 7, 3)) (kk : W p l e R s m args below meth c H locs cells slots Q (F0 m (pc + 3) ls (.ref (ad (o + 1)) :: rest))) : W p l e R s m args below meth c H locs cells slots Q (F0 m pc ls (.ref (ad o) :: rest)) := by
  refine g_get (ci := 1) (N := 1) (k := 0) (C := RX1) (T := TX1) rfl inT1 rfl (by decide) (by decide) q_233 rfl hc hw ho hkd hdg ?_
  have e1 : fv YC ad σ 1 o 0 = .ref (ad (o + 1)) := by
    show va_rf ((rcC σ o 0).map ad) = _
    rw [(kd1 hkd).2.2]
    rfl
  rw [e1]
  exact kk
theorem q_453 : Cond.fieldLink RX2 7 RX2 "code" "[I" ∈ TB := TB_at 453 (by decide +kernel) rfl
theorem fg_X2_7 (hc : CX Γ p s m args meth c cc RX2 nL) (hw : WH Γ YC M ad σ s H locs) (ho : o < M) (hkd : kdC o = 2) (hdg : decode cc pc = .ok (.getfield 7, 3)) (kk : W p l e R s m args below meth c H locs cells slots Q (F0 m (pc + 3) ls (.ref (ad (o - 1)) :: rest))) : W p l e R s m args below meth c H locs cells slots Q (F0 m pc ls (.ref (ad o) :: rest)) := by
  refine g_get (ci := 2) (N := 3) (k := 0) (C := RX2) (T := TX2) rfl inT2 rfl (by decide) (by decide) q_453 rfl hc hw ho hkd hdg ?_
  have e1 : fv YC ad σ 2 o 0 = .ref (ad (o - 1)) := by
    show va_rf ((rcC σ o 0).map ad) = _
    rw [(kd2 hkd).2.2]
    rfl
  rw [e1]
  exact kk
theorem q_454 : Cond.fieldLink RX2 13 RX2 "meltEnd" "I" ∈ TB := TB_at 454 (by decide +kernel) rfl
theorem fg_X2_13 (hc : CX Γ p s m args meth c cc RX2 nL) (hw : WH Γ YC M ad σ s H locs) (ho : o < M) (hkd : kdC o = 2) (hdg : decode cc pc = .ok (.getfield 13, 3)) (kk : W p l e R s m args below meth c H locs cells slots Q (F0 m (pc + 3) ls (.int (gi σ o 1) :: rest))) : W p l e R s m args below meth c H locs cells slots Q (F0 m pc ls (.ref (ad o) :: rest)) := g_get (ci := 2) (N := 3) (k := 1) (C := RX2) (T := TX2) rfl inT2 rfl (by decide) (by decide) q_454 rfl hc hw ho hkd hdg kk
theorem q_455 : Cond.fieldLink RX2 17 RX2 "splitEnd" "I" ∈ TB := TB_at 455 (by decide +kernel) rfl
theorem fg_X2_17 (hc : CX Γ p s m args meth c cc RX2 nL) (hw : WH Γ YC M ad σ s H locs) (ho : o < M) (hkd : kdC o = 2) (hdg : decode cc pc = .ok (.getfield 17, 3)) (kk : W p l e R s m args below meth c H locs cells slots Q (F0 m (pc + 3) ls (.int (gi σ o 2) :: rest))) : W p l e R s m args below meth c H locs cells slots Q (F0 m pc ls (.ref (ad o) :: rest)) := g_get (ci := 2) (N := 3) (k := 2) (C := RX2) (T := TX2) rfl inT2 rfl (by decide) (by decide) q_455 rfl hc hw ho hkd hdg kk
theorem q_150 : Cond.fieldLink RX3 9 RX3 "stack" "[I" ∈ TB := TB_at 150 (by decide +kernel) rfl
theorem fg_X3_9 (hc : CX Γ p s m args meth c cc RX3 nL) (hw : WH Γ YC M ad σ s H locs) (ho : o < M) (hkd : kdC o = 3) (hdg : decode cc pc = .ok (.getfield 9, 3)) (kk : W p l e R s m args below meth c H locs cells slots Q (F0 m (pc + 3) ls (.ref (ad (o + 1)) :: rest))) : W p l e R s m args below meth c H locs cells slots Q (F0 m pc ls (.ref (ad o) :: rest)) := by
  refine g_get (ci := 3) (N := 17) (k := 0) (C := RX3) (T := TX3) rfl inT3 rfl (by decide) (by decide) q_150 rfl hc hw ho hkd hdg ?_
  have e1 : fv YC ad σ 3 o 0 = .ref (ad (o + 1)) := by
    show va_rf ((rcC σ o 0).map ad) = _
    rw [(kd3 hkd).2.2]
    rfl
  rw [e1]
  exact kk
theorem q_151 : Cond.fieldLink RX3 13 RX3 "law" "LThreadsAndSplits$Law;" ∈ TB := TB_at 151 (by decide +kernel) rfl
theorem fg_X3_13 (hc : CX Γ p s m args meth c cc RX3 nL) (hw : WH Γ YC M ad σ s H locs) (ho : o < M) (hkd : kdC o = 3) (hdg : decode cc pc = .ok (.getfield 13, 3)) (kk : W p l e R s m args below meth c H locs cells slots Q (F0 m (pc + 3) ls (va_rf ((gr σ o 1).map ad) :: rest))) : W p l e R s m args below meth c H locs cells slots Q (F0 m pc ls (.ref (ad o) :: rest)) := by
  refine g_get (ci := 3) (N := 17) (k := 1) (C := RX3) (T := TX3) rfl inT3 rfl (by decide) (by decide) q_151 rfl hc hw ho hkd hdg ?_
  have e1 : fv YC ad σ 3 o 1 = va_rf ((gr σ o 1).map ad) := by
    show va_rf ((rcC σ o 1).map ad) = _
    rw [kd3b hkd (by decide)]
  rw [e1]
  exact kk
theorem fp_X3_13 {v : Option Nat} (hc : CX Γ p s m args meth c cc RX3 nL) (hw : WH Γ YC M ad σ s H locs) (ho : o < M) (hkd : kdC o = 3) (hdg : decode cc pc = .ok (.putfield 13, 3)) (kk : ∀ (σ1 : St) (H1 : Heap) (locs1 : List Loc), σ1 = sr σ o 1 v → WH Γ YC M ad σ1 s H1 locs1 → W p l e R s m args below meth c H1 locs1 cells slots Q (F0 m (pc + 3) ls rest)) : W p l e R s m args below meth c H locs cells slots Q (F0 m pc ls (va_rf (v.map ad) :: .ref (ad o) :: rest)) := g_put (ci := 3) (N := 17) (k := 1) (C := RX3) (T := TX3) (ty0 := tyX3) (τ := sr σ o 1 v) rfl inT3 tyX3_ok nmX3 rfl (by decide) (by decide) q_151 rfl rfl (by cases v <;> rfl) (by cases v <;> rfl) hc hw ho hkd (en_srC hkd) hdg (fun H1 locs1 hw1 => kk _ H1 locs1 rfl hw1)
theorem q_152 : Cond.fieldLink RX3 17 RX3 "lot" "J" ∈ TB := TB_at 152 (by decide +kernel) rfl
theorem fg_X3_17 (hc : CX Γ p s m args meth c cc RX3 nL) (hw : WH Γ YC M ad σ s H locs) (ho : o < M) (hkd : kdC o = 3) (hdg : decode cc pc = .ok (.getfield 17, 3)) (kk : W p l e R s m args below meth c H locs cells slots Q (F0 m (pc + 3) ls (.long (gl σ o) :: rest))) : W p l e R s m args below meth c H locs cells slots Q (F0 m pc ls (.ref (ad o) :: rest)) := g_get (ci := 3) (N := 17) (k := 2) (C := RX3) (T := TX3) rfl inT3 rfl (by decide) (by decide) q_152 rfl hc hw ho hkd hdg kk
theorem fp_X3_17 {v : Int64} (hc : CX Γ p s m args meth c cc RX3 nL) (hw : WH Γ YC M ad σ s H locs) (ho : o < M) (hkd : kdC o = 3) (hdg : decode cc pc = .ok (.putfield 17, 3)) (kk : ∀ (σ1 : St) (H1 : Heap) (locs1 : List Loc), σ1 = sl σ o v → WH Γ YC M ad σ1 s H1 locs1 → W p l e R s m args below meth c H1 locs1 cells slots Q (F0 m (pc + 3) ls rest)) : W p l e R s m args below meth c H locs cells slots Q (F0 m pc ls (.long v :: .ref (ad o) :: rest)) := g_put (ci := 3) (N := 17) (k := 2) (C := RX3) (T := TX3) (ty0 := tyX3) (τ := sl σ o v) rfl inT3 tyX3_ok nmX3 rfl (by decide) (by decide) q_152 rfl rfl rfl rfl hc hw ho hkd (en_sl YC_ok hkd (by decide) rfl (fun i hi => lot_X3 i hi)) hdg (fun H1 locs1 hw1 => kk _ H1 locs1 rfl hw1)
theorem q_153 : Cond.fieldLink RX3 21 RX3 "flame" "I" ∈ TB := TB_at 153 (by decide +kernel) rfl
theorem fg_X3_21 (hc : CX Γ p s m args meth c cc RX3 nL) (hw : WH Γ YC M ad σ s H locs) (ho : o < M) (hkd : kdC o = 3) (hdg : decode cc pc = .ok (.getfield 21, 3)) (kk : W p l e R s m args below meth c H locs cells slots Q (F0 m (pc + 3) ls (.int (gi σ o 3) :: rest))) : W p l e R s m args below meth c H locs cells slots Q (F0 m pc ls (.ref (ad o) :: rest)) := g_get (ci := 3) (N := 17) (k := 3) (C := RX3) (T := TX3) rfl inT3 rfl (by decide) (by decide) q_153 rfl hc hw ho hkd hdg kk
theorem fp_X3_21 {v : Int32} (hc : CX Γ p s m args meth c cc RX3 nL) (hw : WH Γ YC M ad σ s H locs) (ho : o < M) (hkd : kdC o = 3) (hdg : decode cc pc = .ok (.putfield 21, 3)) (kk : ∀ (σ1 : St) (H1 : Heap) (locs1 : List Loc), σ1 = si σ o 3 v → WH Γ YC M ad σ1 s H1 locs1 → W p l e R s m args below meth c H1 locs1 cells slots Q (F0 m (pc + 3) ls rest)) : W p l e R s m args below meth c H locs cells slots Q (F0 m pc ls (.int v :: .ref (ad o) :: rest)) := g_put (ci := 3) (N := 17) (k := 3) (C := RX3) (T := TX3) (ty0 := tyX3) (τ := si σ o 3 v) rfl inT3 tyX3_ok nmX3 rfl (by decide) (by decide) q_153 rfl rfl rfl rfl hc hw ho hkd (en_si YC_ok hkd (by decide) rfl) hdg (fun H1 locs1 hw1 => kk _ H1 locs1 rfl hw1)
theorem q_155 : Cond.fieldLink RX3 25 RX3 "water" "I" ∈ TB := TB_at 155 (by decide +kernel) rfl
theorem fg_X3_25 (hc : CX Γ p s m args meth c cc RX3 nL) (hw : WH Γ YC M ad σ s H locs) (ho : o < M) (hkd : kdC o = 3) (hdg : decode cc pc = .ok (.getfield 25, 3)) (kk : W p l e R s m args below meth c H locs cells slots Q (F0 m (pc + 3) ls (.int (gi σ o 4) :: rest))) : W p l e R s m args below meth c H locs cells slots Q (F0 m pc ls (.ref (ad o) :: rest)) := g_get (ci := 3) (N := 17) (k := 4) (C := RX3) (T := TX3) rfl inT3 rfl (by decide) (by decide) q_155 rfl hc hw ho hkd hdg kk
theorem fp_X3_25 {v : Int32} (hc : CX Γ p s m args meth c cc RX3 nL) (hw : WH Γ YC M ad σ s H locs) (ho : o < M) (hkd : kdC o = 3) (hdg : decode cc pc = .ok (.putfield 25, 3)) (kk : ∀ (σ1 : St) (H1 : Heap) (locs1 : List Loc), σ1 = si σ o 4 v → WH Γ YC M ad σ1 s H1 locs1 → W p l e R s m args below meth c H1 locs1 cells slots Q (F0 m (pc + 3) ls rest)) : W p l e R s m args below meth c H locs cells slots Q (F0 m pc ls (.int v :: .ref (ad o) :: rest)) := g_put (ci := 3) (N := 17) (k := 4) (C := RX3) (T := TX3) (ty0 := tyX3) (τ := si σ o 4 v) rfl inT3 tyX3_ok nmX3 rfl (by decide) (by decide) q_155 rfl rfl rfl rfl hc hw ho hkd (en_si YC_ok hkd (by decide) rfl) hdg (fun H1 locs1 hw1 => kk _ H1 locs1 rfl hw1)
theorem q_156 : Cond.fieldLink RX3 28 RX3 "sour" "I" ∈ TB := TB_at 156 (by decide +kernel) rfl
theorem fg_X3_28 (hc : CX Γ p s m args meth c cc RX3 nL) (hw : WH Γ YC M ad σ s H locs) (ho : o < M) (hkd : kdC o = 3) (hdg : decode cc pc = .ok (.getfield 28, 3)) (kk : W p l e R s m args below meth c H locs cells slots Q (F0 m (pc + 3) ls (.int (gi σ o 5) :: rest))) : W p l e R s m args below meth c H locs cells slots Q (F0 m pc ls (.ref (ad o) :: rest)) := g_get (ci := 3) (N := 17) (k := 5) (C := RX3) (T := TX3) rfl inT3 rfl (by decide) (by decide) q_156 rfl hc hw ho hkd hdg kk
theorem fp_X3_28 {v : Int32} (hc : CX Γ p s m args meth c cc RX3 nL) (hw : WH Γ YC M ad σ s H locs) (ho : o < M) (hkd : kdC o = 3) (hdg : decode cc pc = .ok (.putfield 28, 3)) (kk : ∀ (σ1 : St) (H1 : Heap) (locs1 : List Loc), σ1 = si σ o 5 v → WH Γ YC M ad σ1 s H1 locs1 → W p l e R s m args below meth c H1 locs1 cells slots Q (F0 m (pc + 3) ls rest)) : W p l e R s m args below meth c H locs cells slots Q (F0 m pc ls (.int v :: .ref (ad o) :: rest)) := g_put (ci := 3) (N := 17) (k := 5) (C := RX3) (T := TX3) (ty0 := tyX3) (τ := si σ o 5 v) rfl inT3 tyX3_ok nmX3 rfl (by decide) (by decide) q_156 rfl rfl rfl rfl hc hw ho hkd (en_si YC_ok hkd (by decide) rfl) hdg (fun H1 locs1 hw1 => kk _ H1 locs1 rfl hw1)
theorem q_157 : Cond.fieldLink RX3 31 RX3 "heat" "I" ∈ TB := TB_at 157 (by decide +kernel) rfl
theorem fg_X3_31 (hc : CX Γ p s m args meth c cc RX3 nL) (hw : WH Γ YC M ad σ s H locs) (ho : o < M) (hkd : kdC o = 3) (hdg : decode cc pc = .ok (.getfield 31, 3)) (kk : W p l e R s m args below meth c H locs cells slots Q (F0 m (pc + 3) ls (.int (gi σ o 6) :: rest))) : W p l e R s m args below meth c H locs cells slots Q (F0 m pc ls (.ref (ad o) :: rest)) := g_get (ci := 3) (N := 17) (k := 6) (C := RX3) (T := TX3) rfl inT3 rfl (by decide) (by decide) q_157 rfl hc hw ho hkd hdg kk
theorem fp_X3_31 {v : Int32} (hc : CX Γ p s m args meth c cc RX3 nL) (hw : WH Γ YC M ad σ s H locs) (ho : o < M) (hkd : kdC o = 3) (hdg : decode cc pc = .ok (.putfield 31, 3)) (kk : ∀ (σ1 : St) (H1 : Heap) (locs1 : List Loc), σ1 = si σ o 6 v → WH Γ YC M ad σ1 s H1 locs1 → W p l e R s m args below meth c H1 locs1 cells slots Q (F0 m (pc + 3) ls rest)) : W p l e R s m args below meth c H locs cells slots Q (F0 m pc ls (.int v :: .ref (ad o) :: rest)) := g_put (ci := 3) (N := 17) (k := 6) (C := RX3) (T := TX3) (ty0 := tyX3) (τ := si σ o 6 v) rfl inT3 tyX3_ok nmX3 rfl (by decide) (by decide) q_157 rfl rfl rfl rfl hc hw ho hkd (en_si YC_ok hkd (by decide) rfl) hdg (fun H1 locs1 hw1 => kk _ H1 locs1 rfl hw1)
theorem q_158 : Cond.fieldLink RX3 34 RX3 "tied" "I" ∈ TB := TB_at 158 (by decide +kernel) rfl
theorem fg_X3_34 (hc : CX Γ p s m args meth c cc RX3 nL) (hw : WH Γ YC M ad σ s H locs) (ho : o < M) (hkd : kdC o = 3) (hdg : decode cc pc = .ok (.getfield 34, 3)) (kk : W p l e R s m args below meth c H locs cells slots Q (F0 m (pc + 3) ls (.int (gi σ o 7) :: rest))) : W p l e R s m args below meth c H locs cells slots Q (F0 m pc ls (.ref (ad o) :: rest)) := g_get (ci := 3) (N := 17) (k := 7) (C := RX3) (T := TX3) rfl inT3 rfl (by decide) (by decide) q_158 rfl hc hw ho hkd hdg kk
theorem fp_X3_34 {v : Int32} (hc : CX Γ p s m args meth c cc RX3 nL) (hw : WH Γ YC M ad σ s H locs) (ho : o < M) (hkd : kdC o = 3) (hdg : decode cc pc = .ok (.putfield 34, 3)) (kk : ∀ (σ1 : St) (H1 : Heap) (locs1 : List Loc), σ1 = si σ o 7 v → WH Γ YC M ad σ1 s H1 locs1 → W p l e R s m args below meth c H1 locs1 cells slots Q (F0 m (pc + 3) ls rest)) : W p l e R s m args below meth c H locs cells slots Q (F0 m pc ls (.int v :: .ref (ad o) :: rest)) := g_put (ci := 3) (N := 17) (k := 7) (C := RX3) (T := TX3) (ty0 := tyX3) (τ := si σ o 7 v) rfl inT3 tyX3_ok nmX3 rfl (by decide) (by decide) q_158 rfl rfl rfl rfl hc hw ho hkd (en_si YC_ok hkd (by decide) rfl) hdg (fun H1 locs1 hw1 => kk _ H1 locs1 rfl hw1)
theorem q_160 : Cond.fieldLink RX3 37 RX3 "free" "I" ∈ TB := TB_at 160 (by decide +kernel) rfl
theorem fg_X3_37 (hc : CX Γ p s m args meth c cc RX3 nL) (hw : WH Γ YC M ad σ s H locs) (ho : o < M) (hkd : kdC o = 3) (hdg : decode cc pc = .ok (.getfield 37, 3)) (kk : W p l e R s m args below meth c H locs cells slots Q (F0 m (pc + 3) ls (.int (gi σ o 8) :: rest))) : W p l e R s m args below meth c H locs cells slots Q (F0 m pc ls (.ref (ad o) :: rest)) := g_get (ci := 3) (N := 17) (k := 8) (C := RX3) (T := TX3) rfl inT3 rfl (by decide) (by decide) q_160 rfl hc hw ho hkd hdg kk
theorem fp_X3_37 {v : Int32} (hc : CX Γ p s m args meth c cc RX3 nL) (hw : WH Γ YC M ad σ s H locs) (ho : o < M) (hkd : kdC o = 3) (hdg : decode cc pc = .ok (.putfield 37, 3)) (kk : ∀ (σ1 : St) (H1 : Heap) (locs1 : List Loc), σ1 = si σ o 8 v → WH Γ YC M ad σ1 s H1 locs1 → W p l e R s m args below meth c H1 locs1 cells slots Q (F0 m (pc + 3) ls rest)) : W p l e R s m args below meth c H locs cells slots Q (F0 m pc ls (.int v :: .ref (ad o) :: rest)) := g_put (ci := 3) (N := 17) (k := 8) (C := RX3) (T := TX3) (ty0 := tyX3) (τ := si σ o 8 v) rfl inT3 tyX3_ok nmX3 rfl (by decide) (by decide) q_160 rfl rfl rfl rfl hc hw ho hkd (en_si YC_ok hkd (by decide) rfl) hdg (fun H1 locs1 hw1 => kk _ H1 locs1 rfl hw1)
theorem q_162 : Cond.fieldLink RX3 40 RX3 "held" "I" ∈ TB := TB_at 162 (by decide +kernel) rfl
theorem fg_X3_40 (hc : CX Γ p s m args meth c cc RX3 nL) (hw : WH Γ YC M ad σ s H locs) (ho : o < M) (hkd : kdC o = 3) (hdg : decode cc pc = .ok (.getfield 40, 3)) (kk : W p l e R s m args below meth c H locs cells slots Q (F0 m (pc + 3) ls (.int (gi σ o 9) :: rest))) : W p l e R s m args below meth c H locs cells slots Q (F0 m pc ls (.ref (ad o) :: rest)) := g_get (ci := 3) (N := 17) (k := 9) (C := RX3) (T := TX3) rfl inT3 rfl (by decide) (by decide) q_162 rfl hc hw ho hkd hdg kk
theorem fp_X3_40 {v : Int32} (hc : CX Γ p s m args meth c cc RX3 nL) (hw : WH Γ YC M ad σ s H locs) (ho : o < M) (hkd : kdC o = 3) (hdg : decode cc pc = .ok (.putfield 40, 3)) (kk : ∀ (σ1 : St) (H1 : Heap) (locs1 : List Loc), σ1 = si σ o 9 v → WH Γ YC M ad σ1 s H1 locs1 → W p l e R s m args below meth c H1 locs1 cells slots Q (F0 m (pc + 3) ls rest)) : W p l e R s m args below meth c H locs cells slots Q (F0 m pc ls (.int v :: .ref (ad o) :: rest)) := g_put (ci := 3) (N := 17) (k := 9) (C := RX3) (T := TX3) (ty0 := tyX3) (τ := si σ o 9 v) rfl inT3 tyX3_ok nmX3 rfl (by decide) (by decide) q_162 rfl rfl rfl rfl hc hw ho hkd (en_si YC_ok hkd (by decide) rfl) hdg (fun H1 locs1 hw1 => kk _ H1 locs1 rfl hw1)
theorem q_163 : Cond.fieldLink RX3 43 RX3 "drops" "I" ∈ TB := TB_at 163 (by decide +kernel) rfl
theorem fg_X3_43 (hc : CX Γ p s m args meth c cc RX3 nL) (hw : WH Γ YC M ad σ s H locs) (ho : o < M) (hkd : kdC o = 3) (hdg : decode cc pc = .ok (.getfield 43, 3)) (kk : W p l e R s m args below meth c H locs cells slots Q (F0 m (pc + 3) ls (.int (gi σ o 10) :: rest))) : W p l e R s m args below meth c H locs cells slots Q (F0 m pc ls (.ref (ad o) :: rest)) := g_get (ci := 3) (N := 17) (k := 10) (C := RX3) (T := TX3) rfl inT3 rfl (by decide) (by decide) q_163 rfl hc hw ho hkd hdg kk
theorem fp_X3_43 {v : Int32} (hc : CX Γ p s m args meth c cc RX3 nL) (hw : WH Γ YC M ad σ s H locs) (ho : o < M) (hkd : kdC o = 3) (hdg : decode cc pc = .ok (.putfield 43, 3)) (kk : ∀ (σ1 : St) (H1 : Heap) (locs1 : List Loc), σ1 = si σ o 10 v → WH Γ YC M ad σ1 s H1 locs1 → W p l e R s m args below meth c H1 locs1 cells slots Q (F0 m (pc + 3) ls rest)) : W p l e R s m args below meth c H locs cells slots Q (F0 m pc ls (.int v :: .ref (ad o) :: rest)) := g_put (ci := 3) (N := 17) (k := 10) (C := RX3) (T := TX3) (ty0 := tyX3) (τ := si σ o 10 v) rfl inT3 tyX3_ok nmX3 rfl (by decide) (by decide) q_163 rfl rfl rfl rfl hc hw ho hkd (en_si YC_ok hkd (by decide) rfl) hdg (fun H1 locs1 hw1 => kk _ H1 locs1 rfl hw1)
theorem q_164 : Cond.fieldLink RX3 46 RX3 "oil" "I" ∈ TB := TB_at 164 (by decide +kernel) rfl
theorem fg_X3_46 (hc : CX Γ p s m args meth c cc RX3 nL) (hw : WH Γ YC M ad σ s H locs) (ho : o < M) (hkd : kdC o = 3) (hdg : decode cc pc = .ok (.getfield 46, 3)) (kk : W p l e R s m args below meth c H locs cells slots Q (F0 m (pc + 3) ls (.int (gi σ o 11) :: rest))) : W p l e R s m args below meth c H locs cells slots Q (F0 m pc ls (.ref (ad o) :: rest)) := g_get (ci := 3) (N := 17) (k := 11) (C := RX3) (T := TX3) rfl inT3 rfl (by decide) (by decide) q_164 rfl hc hw ho hkd hdg kk
theorem fp_X3_46 {v : Int32} (hc : CX Γ p s m args meth c cc RX3 nL) (hw : WH Γ YC M ad σ s H locs) (ho : o < M) (hkd : kdC o = 3) (hdg : decode cc pc = .ok (.putfield 46, 3)) (kk : ∀ (σ1 : St) (H1 : Heap) (locs1 : List Loc), σ1 = si σ o 11 v → WH Γ YC M ad σ1 s H1 locs1 → W p l e R s m args below meth c H1 locs1 cells slots Q (F0 m (pc + 3) ls rest)) : W p l e R s m args below meth c H locs cells slots Q (F0 m pc ls (.int v :: .ref (ad o) :: rest)) := g_put (ci := 3) (N := 17) (k := 11) (C := RX3) (T := TX3) (ty0 := tyX3) (τ := si σ o 11 v) rfl inT3 tyX3_ok nmX3 rfl (by decide) (by decide) q_164 rfl rfl rfl rfl hc hw ho hkd (en_si YC_ok hkd (by decide) rfl) hdg (fun H1 locs1 hw1 => kk _ H1 locs1 rfl hw1)
theorem q_166 : Cond.fieldLink RX3 49 RX3 "starch" "I" ∈ TB := TB_at 166 (by decide +kernel) rfl
theorem fg_X3_49 (hc : CX Γ p s m args meth c cc RX3 nL) (hw : WH Γ YC M ad σ s H locs) (ho : o < M) (hkd : kdC o = 3) (hdg : decode cc pc = .ok (.getfield 49, 3)) (kk : W p l e R s m args below meth c H locs cells slots Q (F0 m (pc + 3) ls (.int (gi σ o 12) :: rest))) : W p l e R s m args below meth c H locs cells slots Q (F0 m pc ls (.ref (ad o) :: rest)) := g_get (ci := 3) (N := 17) (k := 12) (C := RX3) (T := TX3) rfl inT3 rfl (by decide) (by decide) q_166 rfl hc hw ho hkd hdg kk
theorem fp_X3_49 {v : Int32} (hc : CX Γ p s m args meth c cc RX3 nL) (hw : WH Γ YC M ad σ s H locs) (ho : o < M) (hkd : kdC o = 3) (hdg : decode cc pc = .ok (.putfield 49, 3)) (kk : ∀ (σ1 : St) (H1 : Heap) (locs1 : List Loc), σ1 = si σ o 12 v → WH Γ YC M ad σ1 s H1 locs1 → W p l e R s m args below meth c H1 locs1 cells slots Q (F0 m (pc + 3) ls rest)) : W p l e R s m args below meth c H locs cells slots Q (F0 m pc ls (.int v :: .ref (ad o) :: rest)) := g_put (ci := 3) (N := 17) (k := 12) (C := RX3) (T := TX3) (ty0 := tyX3) (τ := si σ o 12 v) rfl inT3 tyX3_ok nmX3 rfl (by decide) (by decide) q_166 rfl rfl rfl rfl hc hw ho hkd (en_si YC_ok hkd (by decide) rfl) hdg (fun H1 locs1 hw1 => kk _ H1 locs1 rfl hw1)
theorem q_167 : Cond.fieldLink RX3 52 RX3 "crust" "I" ∈ TB := TB_at 167 (by decide +kernel) rfl
theorem fg_X3_52 (hc : CX Γ p s m args meth c cc RX3 nL) (hw : WH Γ YC M ad σ s H locs) (ho : o < M) (hkd : kdC o = 3) (hdg : decode cc pc = .ok (.getfield 52, 3)) (kk : W p l e R s m args below meth c H locs cells slots Q (F0 m (pc + 3) ls (.int (gi σ o 13) :: rest))) : W p l e R s m args below meth c H locs cells slots Q (F0 m pc ls (.ref (ad o) :: rest)) := g_get (ci := 3) (N := 17) (k := 13) (C := RX3) (T := TX3) rfl inT3 rfl (by decide) (by decide) q_167 rfl hc hw ho hkd hdg kk
theorem fp_X3_52 {v : Int32} (hc : CX Γ p s m args meth c cc RX3 nL) (hw : WH Γ YC M ad σ s H locs) (ho : o < M) (hkd : kdC o = 3) (hdg : decode cc pc = .ok (.putfield 52, 3)) (kk : ∀ (σ1 : St) (H1 : Heap) (locs1 : List Loc), σ1 = si σ o 13 v → WH Γ YC M ad σ1 s H1 locs1 → W p l e R s m args below meth c H1 locs1 cells slots Q (F0 m (pc + 3) ls rest)) : W p l e R s m args below meth c H locs cells slots Q (F0 m pc ls (.int v :: .ref (ad o) :: rest)) := g_put (ci := 3) (N := 17) (k := 13) (C := RX3) (T := TX3) (ty0 := tyX3) (τ := si σ o 13 v) rfl inT3 tyX3_ok nmX3 rfl (by decide) (by decide) q_167 rfl rfl rfl rfl hc hw ho hkd (en_si YC_ok hkd (by decide) rfl) hdg (fun H1 locs1 hw1 => kk _ H1 locs1 rfl hw1)
theorem q_169 : Cond.fieldLink RX3 55 RX3 "minutes" "I" ∈ TB := TB_at 169 (by decide +kernel) rfl
theorem fg_X3_55 (hc : CX Γ p s m args meth c cc RX3 nL) (hw : WH Γ YC M ad σ s H locs) (ho : o < M) (hkd : kdC o = 3) (hdg : decode cc pc = .ok (.getfield 55, 3)) (kk : W p l e R s m args below meth c H locs cells slots Q (F0 m (pc + 3) ls (.int (gi σ o 14) :: rest))) : W p l e R s m args below meth c H locs cells slots Q (F0 m pc ls (.ref (ad o) :: rest)) := g_get (ci := 3) (N := 17) (k := 14) (C := RX3) (T := TX3) rfl inT3 rfl (by decide) (by decide) q_169 rfl hc hw ho hkd hdg kk
theorem fp_X3_55 {v : Int32} (hc : CX Γ p s m args meth c cc RX3 nL) (hw : WH Γ YC M ad σ s H locs) (ho : o < M) (hkd : kdC o = 3) (hdg : decode cc pc = .ok (.putfield 55, 3)) (kk : ∀ (σ1 : St) (H1 : Heap) (locs1 : List Loc), σ1 = si σ o 14 v → WH Γ YC M ad σ1 s H1 locs1 → W p l e R s m args below meth c H1 locs1 cells slots Q (F0 m (pc + 3) ls rest)) : W p l e R s m args below meth c H locs cells slots Q (F0 m pc ls (.int v :: .ref (ad o) :: rest)) := g_put (ci := 3) (N := 17) (k := 14) (C := RX3) (T := TX3) (ty0 := tyX3) (τ := si σ o 14 v) rfl inT3 tyX3_ok nmX3 rfl (by decide) (by decide) q_169 rfl rfl rfl rfl hc hw ho hkd (en_si YC_ok hkd (by decide) rfl) hdg (fun H1 locs1 hw1 => kk _ H1 locs1 rfl hw1)
theorem q_170 : Cond.fieldLink RX3 58 RX3 "much" "I" ∈ TB := TB_at 170 (by decide +kernel) rfl
theorem fg_X3_58 (hc : CX Γ p s m args meth c cc RX3 nL) (hw : WH Γ YC M ad σ s H locs) (ho : o < M) (hkd : kdC o = 3) (hdg : decode cc pc = .ok (.getfield 58, 3)) (kk : W p l e R s m args below meth c H locs cells slots Q (F0 m (pc + 3) ls (.int (gi σ o 15) :: rest))) : W p l e R s m args below meth c H locs cells slots Q (F0 m pc ls (.ref (ad o) :: rest)) := g_get (ci := 3) (N := 17) (k := 15) (C := RX3) (T := TX3) rfl inT3 rfl (by decide) (by decide) q_170 rfl hc hw ho hkd hdg kk
theorem fp_X3_58 {v : Int32} (hc : CX Γ p s m args meth c cc RX3 nL) (hw : WH Γ YC M ad σ s H locs) (ho : o < M) (hkd : kdC o = 3) (hdg : decode cc pc = .ok (.putfield 58, 3)) (kk : ∀ (σ1 : St) (H1 : Heap) (locs1 : List Loc), σ1 = si σ o 15 v → WH Γ YC M ad σ1 s H1 locs1 → W p l e R s m args below meth c H1 locs1 cells slots Q (F0 m (pc + 3) ls rest)) : W p l e R s m args below meth c H locs cells slots Q (F0 m pc ls (.int v :: .ref (ad o) :: rest)) := g_put (ci := 3) (N := 17) (k := 15) (C := RX3) (T := TX3) (ty0 := tyX3) (τ := si σ o 15 v) rfl inT3 tyX3_ok nmX3 rfl (by decide) (by decide) q_170 rfl rfl rfl rfl hc hw ho hkd (en_si YC_ok hkd (by decide) rfl) hdg (fun H1 locs1 hw1 => kk _ H1 locs1 rfl hw1)
theorem q_171 : Cond.fieldLink RX3 61 RX3 "allWeeks" "I" ∈ TB := TB_at 171 (by decide +kernel) rfl
theorem fg_X3_61 (hc : CX Γ p s m args meth c cc RX3 nL) (hw : WH Γ YC M ad σ s H locs) (ho : o < M) (hkd : kdC o = 3) (hdg : decode cc pc = .ok (.getfield 61, 3)) (kk : W p l e R s m args below meth c H locs cells slots Q (F0 m (pc + 3) ls (.int (gi σ o 16) :: rest))) : W p l e R s m args below meth c H locs cells slots Q (F0 m pc ls (.ref (ad o) :: rest)) := g_get (ci := 3) (N := 17) (k := 16) (C := RX3) (T := TX3) rfl inT3 rfl (by decide) (by decide) q_171 rfl hc hw ho hkd hdg kk
theorem fp_X3_61 {v : Int32} (hc : CX Γ p s m args meth c cc RX3 nL) (hw : WH Γ YC M ad σ s H locs) (ho : o < M) (hkd : kdC o = 3) (hdg : decode cc pc = .ok (.putfield 61, 3)) (kk : ∀ (σ1 : St) (H1 : Heap) (locs1 : List Loc), σ1 = si σ o 16 v → WH Γ YC M ad σ1 s H1 locs1 → W p l e R s m args below meth c H1 locs1 cells slots Q (F0 m (pc + 3) ls rest)) : W p l e R s m args below meth c H locs cells slots Q (F0 m pc ls (.int v :: .ref (ad o) :: rest)) := g_put (ci := 3) (N := 17) (k := 16) (C := RX3) (T := TX3) (ty0 := tyX3) (τ := si σ o 16 v) rfl inT3 tyX3_ok nmX3 rfl (by decide) (by decide) q_171 rfl rfl rfl rfl hc hw ho hkd (en_si YC_ok hkd (by decide) rfl) hdg (fun H1 locs1 hw1 => kk _ H1 locs1 rfl hw1)
theorem q_213 : Cond.fieldLinkNest RX3 64 RX0 "kind" "I" RX6 ∈ NW := NW_at 213 (by decide +kernel) rfl (by decide +kernel)
theorem fg_X3_64 (hc : CX Γ p s m args meth c cc RX3 nL) (hw : WH Γ YC M ad σ s H locs) (ho : o < M) (hkd : kdC o = 0) (hdg : decode cc pc = .ok (.getfield 64, 3)) (kk : W p l e R s m args below meth c H locs cells slots Q (F0 m (pc + 3) ls (.int (gi σ o 0) :: rest))) : W p l e R s m args below meth c H locs cells slots Q (F0 m pc ls (.ref (ad o) :: rest)) := g_getN (ci := 0) (N := 3) (k := 0) (C := RX0) (T := TX0) rfl inT0 rfl (by decide) (by decide) q_213 rfl hc hw ho hkd hdg kk
theorem q_216 : Cond.fieldLinkNest RX3 69 RX0 "more" "I" RX6 ∈ NW := NW_at 216 (by decide +kernel) rfl (by decide +kernel)
theorem fg_X3_69 (hc : CX Γ p s m args meth c cc RX3 nL) (hw : WH Γ YC M ad σ s H locs) (ho : o < M) (hkd : kdC o = 0) (hdg : decode cc pc = .ok (.getfield 69, 3)) (kk : W p l e R s m args below meth c H locs cells slots Q (F0 m (pc + 3) ls (.int (gi σ o 1) :: rest))) : W p l e R s m args below meth c H locs cells slots Q (F0 m pc ls (.ref (ad o) :: rest)) := g_getN (ci := 0) (N := 3) (k := 1) (C := RX0) (T := TX0) rfl inT0 rfl (by decide) (by decide) q_216 rfl hc hw ho hkd hdg kk
theorem q_219 : Cond.fieldLinkNest RX3 72 RX0 "of" "I" RX6 ∈ NW := NW_at 219 (by decide +kernel) rfl (by decide +kernel)
theorem fg_X3_72 (hc : CX Γ p s m args meth c cc RX3 nL) (hw : WH Γ YC M ad σ s H locs) (ho : o < M) (hkd : kdC o = 0) (hdg : decode cc pc = .ok (.getfield 72, 3)) (kk : W p l e R s m args below meth c H locs cells slots Q (F0 m (pc + 3) ls (.int (gi σ o 2) :: rest))) : W p l e R s m args below meth c H locs cells slots Q (F0 m pc ls (.ref (ad o) :: rest)) := g_getN (ci := 0) (N := 3) (k := 2) (C := RX0) (T := TX0) rfl inT0 rfl (by decide) (by decide) q_219 rfl hc hw ho hkd hdg kk
theorem q_110 : Cond.fieldLink RX4 11 RX4 "bytes" "[I" ∈ TB := TB_at 110 (by decide +kernel) rfl
theorem fg_X4_11 (hc : CX Γ p s m args meth c cc RX4 nL) (hw : WH Γ YC M ad σ s H locs) (ho : 5 < M) (hkd : kdC 5 = 4) (hdg : decode cc pc = .ok (.getfield 11, 3)) (kk : W p l e R s m args below meth c H locs cells slots Q (F0 m (pc + 3) ls (.ref (ad 6) :: rest))) : W p l e R s m args below meth c H locs cells slots Q (F0 m pc ls (.ref (ad 5) :: rest)) := g_get (o := 5) (ci := 4) (N := 10) (k := 0) (C := RX4) (T := TX4) rfl inT4 rfl (by decide) (by decide) q_110 rfl hc hw ho hkd hdg kk
theorem q_117 : Cond.fieldLink RX4 15 RX4 "code" "[I" ∈ TB := TB_at 117 (by decide +kernel) rfl
theorem fg_X4_15 (hc : CX Γ p s m args meth c cc RX4 nL) (hw : WH Γ YC M ad σ s H locs) (ho : 5 < M) (hkd : kdC 5 = 4) (hdg : decode cc pc = .ok (.getfield 15, 3)) (kk : W p l e R s m args below meth c H locs cells slots Q (F0 m (pc + 3) ls (.ref (ad 7) :: rest))) : W p l e R s m args below meth c H locs cells slots Q (F0 m pc ls (.ref (ad 5) :: rest)) := g_get (o := 5) (ci := 4) (N := 10) (k := 7) (C := RX4) (T := TX4) rfl inT4 rfl (by decide) (by decide) q_117 rfl hc hw ho hkd hdg kk
theorem q_119 : Cond.fieldLink RX4 18 RX4 "ends" "[I" ∈ TB := TB_at 119 (by decide +kernel) rfl
theorem fg_X4_18 (hc : CX Γ p s m args meth c cc RX4 nL) (hw : WH Γ YC M ad σ s H locs) (ho : 5 < M) (hkd : kdC 5 = 4) (hdg : decode cc pc = .ok (.getfield 18, 3)) (kk : W p l e R s m args below meth c H locs cells slots Q (F0 m (pc + 3) ls (.ref (ad 8) :: rest))) : W p l e R s m args below meth c H locs cells slots Q (F0 m pc ls (.ref (ad 5) :: rest)) := g_get (o := 5) (ci := 4) (N := 10) (k := 9) (C := RX4) (T := TX4) rfl inT4 rfl (by decide) (by decide) q_119 rfl hc hw ho hkd hdg kk
theorem q_111 : Cond.fieldLink RX4 21 RX4 "size" "I" ∈ TB := TB_at 111 (by decide +kernel) rfl
theorem fg_X4_21 (hc : CX Γ p s m args meth c cc RX4 nL) (hw : WH Γ YC M ad σ s H locs) (ho : o < M) (hkd : kdC o = 4) (hdg : decode cc pc = .ok (.getfield 21, 3)) (kk : W p l e R s m args below meth c H locs cells slots Q (F0 m (pc + 3) ls (.int (gi σ o 1) :: rest))) : W p l e R s m args below meth c H locs cells slots Q (F0 m pc ls (.ref (ad o) :: rest)) := g_get (ci := 4) (N := 10) (k := 1) (C := RX4) (T := TX4) rfl inT4 rfl (by decide) (by decide) q_111 rfl hc hw ho hkd hdg kk
theorem fp_X4_21 {v : Int32} (hc : CX Γ p s m args meth c cc RX4 nL) (hw : WH Γ YC M ad σ s H locs) (ho : o < M) (hkd : kdC o = 4) (hdg : decode cc pc = .ok (.putfield 21, 3)) (kk : ∀ (σ1 : St) (H1 : Heap) (locs1 : List Loc), σ1 = si σ o 1 v → WH Γ YC M ad σ1 s H1 locs1 → W p l e R s m args below meth c H1 locs1 cells slots Q (F0 m (pc + 3) ls rest)) : W p l e R s m args below meth c H locs cells slots Q (F0 m pc ls (.int v :: .ref (ad o) :: rest)) := g_put (ci := 4) (N := 10) (k := 1) (C := RX4) (T := TX4) (ty0 := tyX4) (τ := si σ o 1 v) rfl inT4 tyX4_ok nmX4 rfl (by decide) (by decide) q_111 rfl rfl rfl rfl hc hw ho hkd (en_si YC_ok hkd (by decide) rfl) hdg (fun H1 locs1 hw1 => kk _ H1 locs1 rfl hw1)
theorem q_116 : Cond.fieldLink RX4 25 RX4 "fault" "I" ∈ TB := TB_at 116 (by decide +kernel) rfl
theorem fg_X4_25 (hc : CX Γ p s m args meth c cc RX4 nL) (hw : WH Γ YC M ad σ s H locs) (ho : o < M) (hkd : kdC o = 4) (hdg : decode cc pc = .ok (.getfield 25, 3)) (kk : W p l e R s m args below meth c H locs cells slots Q (F0 m (pc + 3) ls (.int (gi σ o 6) :: rest))) : W p l e R s m args below meth c H locs cells slots Q (F0 m pc ls (.ref (ad o) :: rest)) := g_get (ci := 4) (N := 10) (k := 6) (C := RX4) (T := TX4) rfl inT4 rfl (by decide) (by decide) q_116 rfl hc hw ho hkd hdg kk
theorem fp_X4_25 {v : Int32} (hc : CX Γ p s m args meth c cc RX4 nL) (hw : WH Γ YC M ad σ s H locs) (ho : o < M) (hkd : kdC o = 4) (hdg : decode cc pc = .ok (.putfield 25, 3)) (kk : ∀ (σ1 : St) (H1 : Heap) (locs1 : List Loc), σ1 = si σ o 6 v → WH Γ YC M ad σ1 s H1 locs1 → W p l e R s m args below meth c H1 locs1 cells slots Q (F0 m (pc + 3) ls rest)) : W p l e R s m args below meth c H locs cells slots Q (F0 m pc ls (.int v :: .ref (ad o) :: rest)) := g_put (ci := 4) (N := 10) (k := 6) (C := RX4) (T := TX4) (ty0 := tyX4) (τ := si σ o 6 v) rfl inT4 tyX4_ok nmX4 rfl (by decide) (by decide) q_116 rfl rfl rfl rfl hc hw ho hkd (en_si YC_ok hkd (by decide) rfl) hdg (fun H1 locs1 hw1 => kk _ H1 locs1 rfl hw1)
theorem q_112 : Cond.fieldLink RX4 28 RX4 "next" "I" ∈ TB := TB_at 112 (by decide +kernel) rfl
theorem fg_X4_28 (hc : CX Γ p s m args meth c cc RX4 nL) (hw : WH Γ YC M ad σ s H locs) (ho : o < M) (hkd : kdC o = 4) (hdg : decode cc pc = .ok (.getfield 28, 3)) (kk : W p l e R s m args below meth c H locs cells slots Q (F0 m (pc + 3) ls (.int (gi σ o 2) :: rest))) : W p l e R s m args below meth c H locs cells slots Q (F0 m pc ls (.ref (ad o) :: rest)) := g_get (ci := 4) (N := 10) (k := 2) (C := RX4) (T := TX4) rfl inT4 rfl (by decide) (by decide) q_112 rfl hc hw ho hkd hdg kk
theorem fp_X4_28 {v : Int32} (hc : CX Γ p s m args meth c cc RX4 nL) (hw : WH Γ YC M ad σ s H locs) (ho : o < M) (hkd : kdC o = 4) (hdg : decode cc pc = .ok (.putfield 28, 3)) (kk : ∀ (σ1 : St) (H1 : Heap) (locs1 : List Loc), σ1 = si σ o 2 v → WH Γ YC M ad σ1 s H1 locs1 → W p l e R s m args below meth c H1 locs1 cells slots Q (F0 m (pc + 3) ls rest)) : W p l e R s m args below meth c H locs cells slots Q (F0 m pc ls (.int v :: .ref (ad o) :: rest)) := g_put (ci := 4) (N := 10) (k := 2) (C := RX4) (T := TX4) (ty0 := tyX4) (τ := si σ o 2 v) rfl inT4 tyX4_ok nmX4 rfl (by decide) (by decide) q_112 rfl rfl rfl rfl hc hw ho hkd (en_si YC_ok hkd (by decide) rfl) hdg (fun H1 locs1 hw1 => kk _ H1 locs1 rfl hw1)
theorem q_118 : Cond.fieldLink RX4 31 RX4 "codeSize" "I" ∈ TB := TB_at 118 (by decide +kernel) rfl
theorem fg_X4_31 (hc : CX Γ p s m args meth c cc RX4 nL) (hw : WH Γ YC M ad σ s H locs) (ho : o < M) (hkd : kdC o = 4) (hdg : decode cc pc = .ok (.getfield 31, 3)) (kk : W p l e R s m args below meth c H locs cells slots Q (F0 m (pc + 3) ls (.int (gi σ o 8) :: rest))) : W p l e R s m args below meth c H locs cells slots Q (F0 m pc ls (.ref (ad o) :: rest)) := g_get (ci := 4) (N := 10) (k := 8) (C := RX4) (T := TX4) rfl inT4 rfl (by decide) (by decide) q_118 rfl hc hw ho hkd hdg kk
theorem fp_X4_31 {v : Int32} (hc : CX Γ p s m args meth c cc RX4 nL) (hw : WH Γ YC M ad σ s H locs) (ho : o < M) (hkd : kdC o = 4) (hdg : decode cc pc = .ok (.putfield 31, 3)) (kk : ∀ (σ1 : St) (H1 : Heap) (locs1 : List Loc), σ1 = si σ o 8 v → WH Γ YC M ad σ1 s H1 locs1 → W p l e R s m args below meth c H1 locs1 cells slots Q (F0 m (pc + 3) ls rest)) : W p l e R s m args below meth c H locs cells slots Q (F0 m pc ls (.int v :: .ref (ad o) :: rest)) := g_put (ci := 4) (N := 10) (k := 8) (C := RX4) (T := TX4) (ty0 := tyX4) (τ := si σ o 8 v) rfl inT4 tyX4_ok nmX4 rfl (by decide) (by decide) q_118 rfl rfl rfl rfl hc hw ho hkd (en_si YC_ok hkd (by decide) rfl) hdg (fun H1 locs1 hw1 => kk _ H1 locs1 rfl hw1)
theorem q_113 : Cond.fieldLink RX4 74 RX4 "token" "I" ∈ TB := TB_at 113 (by decide +kernel) rfl
theorem fg_X4_74 (hc : CX Γ p s m args meth c cc RX4 nL) (hw : WH Γ YC M ad σ s H locs) (ho : o < M) (hkd : kdC o = 4) (hdg : decode cc pc = .ok (.getfield 74, 3)) (kk : W p l e R s m args below meth c H locs cells slots Q (F0 m (pc + 3) ls (.int (gi σ o 3) :: rest))) : W p l e R s m args below meth c H locs cells slots Q (F0 m pc ls (.ref (ad o) :: rest)) := g_get (ci := 4) (N := 10) (k := 3) (C := RX4) (T := TX4) rfl inT4 rfl (by decide) (by decide) q_113 rfl hc hw ho hkd hdg kk
theorem fp_X4_74 {v : Int32} (hc : CX Γ p s m args meth c cc RX4 nL) (hw : WH Γ YC M ad σ s H locs) (ho : o < M) (hkd : kdC o = 4) (hdg : decode cc pc = .ok (.putfield 74, 3)) (kk : ∀ (σ1 : St) (H1 : Heap) (locs1 : List Loc), σ1 = si σ o 3 v → WH Γ YC M ad σ1 s H1 locs1 → W p l e R s m args below meth c H1 locs1 cells slots Q (F0 m (pc + 3) ls rest)) : W p l e R s m args below meth c H locs cells slots Q (F0 m pc ls (.int v :: .ref (ad o) :: rest)) := g_put (ci := 4) (N := 10) (k := 3) (C := RX4) (T := TX4) (ty0 := tyX4) (τ := si σ o 3 v) rfl inT4 tyX4_ok nmX4 rfl (by decide) (by decide) q_113 rfl rfl rfl rfl hc hw ho hkd (en_si YC_ok hkd (by decide) rfl) hdg (fun H1 locs1 hw1 => kk _ H1 locs1 rfl hw1)
theorem q_115 : Cond.fieldLink RX4 83 RX4 "value" "I" ∈ TB := TB_at 115 (by decide +kernel) rfl
theorem fg_X4_83 (hc : CX Γ p s m args meth c cc RX4 nL) (hw : WH Γ YC M ad σ s H locs) (ho : o < M) (hkd : kdC o = 4) (hdg : decode cc pc = .ok (.getfield 83, 3)) (kk : W p l e R s m args below meth c H locs cells slots Q (F0 m (pc + 3) ls (.int (gi σ o 5) :: rest))) : W p l e R s m args below meth c H locs cells slots Q (F0 m pc ls (.ref (ad o) :: rest)) := g_get (ci := 4) (N := 10) (k := 5) (C := RX4) (T := TX4) rfl inT4 rfl (by decide) (by decide) q_115 rfl hc hw ho hkd hdg kk
theorem fp_X4_83 {v : Int32} (hc : CX Γ p s m args meth c cc RX4 nL) (hw : WH Γ YC M ad σ s H locs) (ho : o < M) (hkd : kdC o = 4) (hdg : decode cc pc = .ok (.putfield 83, 3)) (kk : ∀ (σ1 : St) (H1 : Heap) (locs1 : List Loc), σ1 = si σ o 5 v → WH Γ YC M ad σ1 s H1 locs1 → W p l e R s m args below meth c H1 locs1 cells slots Q (F0 m (pc + 3) ls rest)) : W p l e R s m args below meth c H locs cells slots Q (F0 m pc ls (.int v :: .ref (ad o) :: rest)) := g_put (ci := 4) (N := 10) (k := 5) (C := RX4) (T := TX4) (ty0 := tyX4) (τ := si σ o 5 v) rfl inT4 tyX4_ok nmX4 rfl (by decide) (by decide) q_115 rfl rfl rfl rfl hc hw ho hkd (en_si YC_ok hkd (by decide) rfl) hdg (fun H1 locs1 hw1 => kk _ H1 locs1 rfl hw1)
theorem q_114 : Cond.fieldLink RX4 89 RX4 "place" "I" ∈ TB := TB_at 114 (by decide +kernel) rfl
theorem fg_X4_89 (hc : CX Γ p s m args meth c cc RX4 nL) (hw : WH Γ YC M ad σ s H locs) (ho : o < M) (hkd : kdC o = 4) (hdg : decode cc pc = .ok (.getfield 89, 3)) (kk : W p l e R s m args below meth c H locs cells slots Q (F0 m (pc + 3) ls (.int (gi σ o 4) :: rest))) : W p l e R s m args below meth c H locs cells slots Q (F0 m pc ls (.ref (ad o) :: rest)) := g_get (ci := 4) (N := 10) (k := 4) (C := RX4) (T := TX4) rfl inT4 rfl (by decide) (by decide) q_114 rfl hc hw ho hkd hdg kk
theorem fp_X4_89 {v : Int32} (hc : CX Γ p s m args meth c cc RX4 nL) (hw : WH Γ YC M ad σ s H locs) (ho : o < M) (hkd : kdC o = 4) (hdg : decode cc pc = .ok (.putfield 89, 3)) (kk : ∀ (σ1 : St) (H1 : Heap) (locs1 : List Loc), σ1 = si σ o 4 v → WH Γ YC M ad σ1 s H1 locs1 → W p l e R s m args below meth c H1 locs1 cells slots Q (F0 m (pc + 3) ls rest)) : W p l e R s m args below meth c H locs cells slots Q (F0 m pc ls (.int v :: .ref (ad o) :: rest)) := g_put (ci := 4) (N := 10) (k := 4) (C := RX4) (T := TX4) (ty0 := tyX4) (τ := si σ o 4 v) rfl inT4 tyX4_ok nmX4 rfl (by decide) (by decide) q_114 rfl rfl rfl rfl hc hw ho hkd (en_si YC_ok hkd (by decide) rfl) hdg (fun H1 locs1 hw1 => kk _ H1 locs1 rfl hw1)
theorem q_242 : Cond.fieldLink RX5 9 RX5 "numbers" "[I" ∈ TB := TB_at 242 (by decide +kernel) rfl
theorem fg_X5_9 (hc : CX Γ p s m args meth c cc RX5 nL) (hw : WH Γ YC M ad σ s H locs) (ho : o < M) (hkd : kdC o = 5) (hdg : decode cc pc = .ok (.getfield 9, 3)) (kk : W p l e R s m args below meth c H locs cells slots Q (F0 m (pc + 3) ls (.ref (ad (o + 1)) :: rest))) : W p l e R s m args below meth c H locs cells slots Q (F0 m pc ls (.ref (ad o) :: rest)) := by
  refine g_get (ci := 5) (N := 3) (k := 0) (C := RX5) (T := TX5) rfl inT5 rfl (by decide) (by decide) q_242 rfl hc hw ho hkd hdg ?_
  have e1 : fv YC ad σ 5 o 0 = .ref (ad (o + 1)) := by
    show va_rf ((rcC σ o 0).map ad) = _
    rw [(kd5 hkd).2.2]
    rfl
  rw [e1]
  exact kk
theorem q_243 : Cond.fieldLink RX5 13 RX5 "sort" "I" ∈ TB := TB_at 243 (by decide +kernel) rfl
theorem fg_X5_13 (hc : CX Γ p s m args meth c cc RX5 nL) (hw : WH Γ YC M ad σ s H locs) (ho : o < M) (hkd : kdC o = 5) (hdg : decode cc pc = .ok (.getfield 13, 3)) (kk : W p l e R s m args below meth c H locs cells slots Q (F0 m (pc + 3) ls (.int (gi σ o 1) :: rest))) : W p l e R s m args below meth c H locs cells slots Q (F0 m pc ls (.ref (ad o) :: rest)) := g_get (ci := 5) (N := 3) (k := 1) (C := RX5) (T := TX5) rfl inT5 rfl (by decide) (by decide) q_243 rfl hc hw ho hkd hdg kk
theorem fp_X5_13 {v : Int32} (hc : CX Γ p s m args meth c cc RX5 nL) (hw : WH Γ YC M ad σ s H locs) (ho : o < M) (hkd : kdC o = 5) (hdg : decode cc pc = .ok (.putfield 13, 3)) (kk : ∀ (σ1 : St) (H1 : Heap) (locs1 : List Loc), σ1 = si σ o 1 v → WH Γ YC M ad σ1 s H1 locs1 → W p l e R s m args below meth c H1 locs1 cells slots Q (F0 m (pc + 3) ls rest)) : W p l e R s m args below meth c H locs cells slots Q (F0 m pc ls (.int v :: .ref (ad o) :: rest)) := g_put (ci := 5) (N := 3) (k := 1) (C := RX5) (T := TX5) (ty0 := tyX5) (τ := si σ o 1 v) rfl inT5 tyX5_ok nmX5 rfl (by decide) (by decide) q_243 rfl rfl rfl rfl hc hw ho hkd (en_si YC_ok hkd (by decide) rfl) hdg (fun H1 locs1 hw1 => kk _ H1 locs1 rfl hw1)
theorem q_245 : Cond.fieldLink RX5 26 RX5 "size" "I" ∈ TB := TB_at 245 (by decide +kernel) rfl
theorem fg_X5_26 (hc : CX Γ p s m args meth c cc RX5 nL) (hw : WH Γ YC M ad σ s H locs) (ho : o < M) (hkd : kdC o = 5) (hdg : decode cc pc = .ok (.getfield 26, 3)) (kk : W p l e R s m args below meth c H locs cells slots Q (F0 m (pc + 3) ls (.int (gi σ o 2) :: rest))) : W p l e R s m args below meth c H locs cells slots Q (F0 m pc ls (.ref (ad o) :: rest)) := g_get (ci := 5) (N := 3) (k := 2) (C := RX5) (T := TX5) rfl inT5 rfl (by decide) (by decide) q_245 rfl hc hw ho hkd hdg kk
theorem fp_X5_26 {v : Int32} (hc : CX Γ p s m args meth c cc RX5 nL) (hw : WH Γ YC M ad σ s H locs) (ho : o < M) (hkd : kdC o = 5) (hdg : decode cc pc = .ok (.putfield 26, 3)) (kk : ∀ (σ1 : St) (H1 : Heap) (locs1 : List Loc), σ1 = si σ o 2 v → WH Γ YC M ad σ1 s H1 locs1 → W p l e R s m args below meth c H1 locs1 cells slots Q (F0 m (pc + 3) ls rest)) : W p l e R s m args below meth c H locs cells slots Q (F0 m pc ls (.int v :: .ref (ad o) :: rest)) := g_put (ci := 5) (N := 3) (k := 2) (C := RX5) (T := TX5) (ty0 := tyX5) (τ := si σ o 2 v) rfl inT5 tyX5_ok nmX5 rfl (by decide) (by decide) q_245 rfl rfl rfl rfl hc hw ho hkd (en_si YC_ok hkd (by decide) rfl) hdg (fun H1 locs1 hw1 => kk _ H1 locs1 rfl hw1)
theorem q_464 : Cond.fieldLink RX6 11 RX6 "cheeses" "[LThreadsAndSplits$Cheese;" ∈ TB := TB_at 464 (by decide +kernel) rfl
theorem fg_X6_11 (hc : CX Γ p s m args meth c cc RX6 nL) (hw : WH Γ YC M ad σ s H locs) (ho : 0 < M) (hkd : kdC 0 = 6) (hdg : decode cc pc = .ok (.getfield 11, 3)) (kk : W p l e R s m args below meth c H locs cells slots Q (F0 m (pc + 3) ls (.ref (ad 1) :: rest))) : W p l e R s m args below meth c H locs cells slots Q (F0 m pc ls (.ref (ad 0) :: rest)) := g_get (o := 0) (ci := 6) (N := 17) (k := 0) (C := RX6) (T := TX6) rfl inT6 rfl (by decide) (by decide) q_464 rfl hc hw ho hkd hdg kk
theorem q_466 : Cond.fieldLink RX6 17 RX6 "acts" "[LThreadsAndSplits$Act;" ∈ TB := TB_at 466 (by decide +kernel) rfl
theorem fg_X6_17 (hc : CX Γ p s m args meth c cc RX6 nL) (hw : WH Γ YC M ad σ s H locs) (ho : 0 < M) (hkd : kdC 0 = 6) (hdg : decode cc pc = .ok (.getfield 17, 3)) (kk : W p l e R s m args below meth c H locs cells slots Q (F0 m (pc + 3) ls (.ref (ad 2) :: rest))) : W p l e R s m args below meth c H locs cells slots Q (F0 m pc ls (.ref (ad 0) :: rest)) := g_get (o := 0) (ci := 6) (N := 17) (k := 2) (C := RX6) (T := TX6) rfl inT6 rfl (by decide) (by decide) q_466 rfl hc hw ho hkd hdg kk
theorem q_468 : Cond.fieldLink RX6 23 RX6 "laws" "[LThreadsAndSplits$Law;" ∈ TB := TB_at 468 (by decide +kernel) rfl
theorem fg_X6_23 (hc : CX Γ p s m args meth c cc RX6 nL) (hw : WH Γ YC M ad σ s H locs) (ho : 0 < M) (hkd : kdC 0 = 6) (hdg : decode cc pc = .ok (.getfield 23, 3)) (kk : W p l e R s m args below meth c H locs cells slots Q (F0 m (pc + 3) ls (.ref (ad 3) :: rest))) : W p l e R s m args below meth c H locs cells slots Q (F0 m pc ls (.ref (ad 0) :: rest)) := g_get (o := 0) (ci := 6) (N := 17) (k := 4) (C := RX6) (T := TX6) rfl inT6 rfl (by decide) (by decide) q_468 rfl hc hw ho hkd hdg kk
theorem q_471 : Cond.fieldLink RX6 27 RX6 "told" "[I" ∈ TB := TB_at 471 (by decide +kernel) rfl
theorem fg_X6_27 (hc : CX Γ p s m args meth c cc RX6 nL) (hw : WH Γ YC M ad σ s H locs) (ho : 0 < M) (hkd : kdC 0 = 6) (hdg : decode cc pc = .ok (.getfield 27, 3)) (kk : W p l e R s m args below meth c H locs cells slots Q (F0 m (pc + 3) ls (.ref (ad 4) :: rest))) : W p l e R s m args below meth c H locs cells slots Q (F0 m pc ls (.ref (ad 0) :: rest)) := g_get (o := 0) (ci := 6) (N := 17) (k := 7) (C := RX6) (T := TX6) rfl inT6 rfl (by decide) (by decide) q_471 rfl hc hw ho hkd hdg kk
theorem q_472 : Cond.fieldLink RX6 34 RX6 "tape" "LThreadsAndSplits$Reader;" ∈ TB := TB_at 472 (by decide +kernel) rfl
theorem fg_X6_34 (hc : CX Γ p s m args meth c cc RX6 nL) (hw : WH Γ YC M ad σ s H locs) (ho : 0 < M) (hkd : kdC 0 = 6) (hdg : decode cc pc = .ok (.getfield 34, 3)) (kk : W p l e R s m args below meth c H locs cells slots Q (F0 m (pc + 3) ls (.ref (ad 5) :: rest))) : W p l e R s m args below meth c H locs cells slots Q (F0 m pc ls (.ref (ad 0) :: rest)) := g_get (o := 0) (ci := 6) (N := 17) (k := 8) (C := RX6) (T := TX6) rfl inT6 rfl (by decide) (by decide) q_472 rfl hc hw ho hkd hdg kk
theorem q_473 : Cond.fieldLink RX6 40 RX6 "sheets" "[LThreadsAndSplits$Sheet;" ∈ TB := TB_at 473 (by decide +kernel) rfl
theorem fg_X6_40 (hc : CX Γ p s m args meth c cc RX6 nL) (hw : WH Γ YC M ad σ s H locs) (ho : 0 < M) (hkd : kdC 0 = 6) (hdg : decode cc pc = .ok (.getfield 40, 3)) (kk : W p l e R s m args below meth c H locs cells slots Q (F0 m (pc + 3) ls (.ref (ad 9) :: rest))) : W p l e R s m args below meth c H locs cells slots Q (F0 m pc ls (.ref (ad 0) :: rest)) := g_get (o := 0) (ci := 6) (N := 17) (k := 9) (C := RX6) (T := TX6) rfl inT6 rfl (by decide) (by decide) q_473 rfl hc hw ho hkd hdg kk
theorem q_474 : Cond.fieldLink RX6 44 RX6 "keptCheeses" "[LThreadsAndSplits$Cheese;" ∈ TB := TB_at 474 (by decide +kernel) rfl
theorem fg_X6_44 (hc : CX Γ p s m args meth c cc RX6 nL) (hw : WH Γ YC M ad σ s H locs) (ho : 0 < M) (hkd : kdC 0 = 6) (hdg : decode cc pc = .ok (.getfield 44, 3)) (kk : W p l e R s m args below meth c H locs cells slots Q (F0 m (pc + 3) ls (.ref (ad 10) :: rest))) : W p l e R s m args below meth c H locs cells slots Q (F0 m pc ls (.ref (ad 0) :: rest)) := g_get (o := 0) (ci := 6) (N := 17) (k := 10) (C := RX6) (T := TX6) rfl inT6 rfl (by decide) (by decide) q_474 rfl hc hw ho hkd hdg kk
theorem q_475 : Cond.fieldLink RX6 47 RX6 "keptCount" "I" ∈ TB := TB_at 475 (by decide +kernel) rfl
theorem fg_X6_47 (hc : CX Γ p s m args meth c cc RX6 nL) (hw : WH Γ YC M ad σ s H locs) (ho : o < M) (hkd : kdC o = 6) (hdg : decode cc pc = .ok (.getfield 47, 3)) (kk : W p l e R s m args below meth c H locs cells slots Q (F0 m (pc + 3) ls (.int (gi σ o 11) :: rest))) : W p l e R s m args below meth c H locs cells slots Q (F0 m pc ls (.ref (ad o) :: rest)) := g_get (ci := 6) (N := 17) (k := 11) (C := RX6) (T := TX6) rfl inT6 rfl (by decide) (by decide) q_475 rfl hc hw ho hkd hdg kk
theorem fp_X6_47 {v : Int32} (hc : CX Γ p s m args meth c cc RX6 nL) (hw : WH Γ YC M ad σ s H locs) (ho : o < M) (hkd : kdC o = 6) (hdg : decode cc pc = .ok (.putfield 47, 3)) (kk : ∀ (σ1 : St) (H1 : Heap) (locs1 : List Loc), σ1 = si σ o 11 v → WH Γ YC M ad σ1 s H1 locs1 → W p l e R s m args below meth c H1 locs1 cells slots Q (F0 m (pc + 3) ls rest)) : W p l e R s m args below meth c H locs cells slots Q (F0 m pc ls (.int v :: .ref (ad o) :: rest)) := g_put (ci := 6) (N := 17) (k := 11) (C := RX6) (T := TX6) (ty0 := tyX6) (τ := si σ o 11 v) rfl inT6 tyX6_ok nmX6 rfl (by decide) (by decide) q_475 rfl rfl rfl rfl hc hw ho hkd (en_si YC_ok hkd (by decide) rfl) hdg (fun H1 locs1 hw1 => kk _ H1 locs1 rfl hw1)
theorem q_476 : Cond.fieldLink RX6 51 RX6 "keptTold" "[I" ∈ TB := TB_at 476 (by decide +kernel) rfl
theorem fg_X6_51 (hc : CX Γ p s m args meth c cc RX6 nL) (hw : WH Γ YC M ad σ s H locs) (ho : 0 < M) (hkd : kdC 0 = 6) (hdg : decode cc pc = .ok (.getfield 51, 3)) (kk : W p l e R s m args below meth c H locs cells slots Q (F0 m (pc + 3) ls (.ref (ad 11) :: rest))) : W p l e R s m args below meth c H locs cells slots Q (F0 m pc ls (.ref (ad 0) :: rest)) := g_get (o := 0) (ci := 6) (N := 17) (k := 12) (C := RX6) (T := TX6) rfl inT6 rfl (by decide) (by decide) q_476 rfl hc hw ho hkd hdg kk
theorem q_478 : Cond.fieldLink RX6 57 RX6 "kettle" "LThreadsAndSplits$Pot;" ∈ TB := TB_at 478 (by decide +kernel) rfl
theorem fg_X6_57 (hc : CX Γ p s m args meth c cc RX6 nL) (hw : WH Γ YC M ad σ s H locs) (ho : 0 < M) (hkd : kdC 0 = 6) (hdg : decode cc pc = .ok (.getfield 57, 3)) (kk : W p l e R s m args below meth c H locs cells slots Q (F0 m (pc + 3) ls (.ref (ad 12) :: rest))) : W p l e R s m args below meth c H locs cells slots Q (F0 m pc ls (.ref (ad 0) :: rest)) := g_get (o := 0) (ci := 6) (N := 17) (k := 14) (C := RX6) (T := TX6) rfl inT6 rfl (by decide) (by decide) q_478 rfl hc hw ho hkd hdg kk
theorem q_479 : Cond.fieldLink RX6 61 RX6 "later" "LThreadsAndSplits$Pot;" ∈ TB := TB_at 479 (by decide +kernel) rfl
theorem fg_X6_61 (hc : CX Γ p s m args meth c cc RX6 nL) (hw : WH Γ YC M ad σ s H locs) (ho : 0 < M) (hkd : kdC 0 = 6) (hdg : decode cc pc = .ok (.getfield 61, 3)) (kk : W p l e R s m args below meth c H locs cells slots Q (F0 m (pc + 3) ls (.ref (ad 14) :: rest))) : W p l e R s m args below meth c H locs cells slots Q (F0 m pc ls (.ref (ad 0) :: rest)) := g_get (o := 0) (ci := 6) (N := 17) (k := 15) (C := RX6) (T := TX6) rfl inT6 rfl (by decide) (by decide) q_479 rfl hc hw ho hkd hdg kk
theorem q_480 : Cond.fieldLink RX6 65 RX6 "trial" "LThreadsAndSplits$Act;" ∈ TB := TB_at 480 (by decide +kernel) rfl
theorem fg_X6_65 (hc : CX Γ p s m args meth c cc RX6 nL) (hw : WH Γ YC M ad σ s H locs) (ho : 0 < M) (hkd : kdC 0 = 6) (hdg : decode cc pc = .ok (.getfield 65, 3)) (kk : W p l e R s m args below meth c H locs cells slots Q (F0 m (pc + 3) ls (.ref (ad 16) :: rest))) : W p l e R s m args below meth c H locs cells slots Q (F0 m pc ls (.ref (ad 0) :: rest)) := g_get (o := 0) (ci := 6) (N := 17) (k := 16) (C := RX6) (T := TX6) rfl inT6 rfl (by decide) (by decide) q_480 rfl hc hw ho hkd hdg kk
theorem q_469 : Cond.fieldLink RX6 91 RX6 "lawCount" "I" ∈ TB := TB_at 469 (by decide +kernel) rfl
theorem fg_X6_91 (hc : CX Γ p s m args meth c cc RX6 nL) (hw : WH Γ YC M ad σ s H locs) (ho : o < M) (hkd : kdC o = 6) (hdg : decode cc pc = .ok (.getfield 91, 3)) (kk : W p l e R s m args below meth c H locs cells slots Q (F0 m (pc + 3) ls (.int (gi σ o 5) :: rest))) : W p l e R s m args below meth c H locs cells slots Q (F0 m pc ls (.ref (ad o) :: rest)) := g_get (ci := 6) (N := 17) (k := 5) (C := RX6) (T := TX6) rfl inT6 rfl (by decide) (by decide) q_469 rfl hc hw ho hkd hdg kk
theorem fp_X6_91 {v : Int32} (hc : CX Γ p s m args meth c cc RX6 nL) (hw : WH Γ YC M ad σ s H locs) (ho : o < M) (hkd : kdC o = 6) (hdg : decode cc pc = .ok (.putfield 91, 3)) (kk : ∀ (σ1 : St) (H1 : Heap) (locs1 : List Loc), σ1 = si σ o 5 v → WH Γ YC M ad σ1 s H1 locs1 → W p l e R s m args below meth c H1 locs1 cells slots Q (F0 m (pc + 3) ls rest)) : W p l e R s m args below meth c H locs cells slots Q (F0 m pc ls (.int v :: .ref (ad o) :: rest)) := g_put (ci := 6) (N := 17) (k := 5) (C := RX6) (T := TX6) (ty0 := tyX6) (τ := si σ o 5 v) rfl inT6 tyX6_ok nmX6 rfl (by decide) (by decide) q_469 rfl rfl rfl rfl hc hw ho hkd (en_si YC_ok hkd (by decide) rfl) hdg (fun H1 locs1 hw1 => kk _ H1 locs1 rfl hw1)
theorem q_465 : Cond.fieldLink RX6 98 RX6 "cheeseCount" "I" ∈ TB := TB_at 465 (by decide +kernel) rfl
theorem fg_X6_98 (hc : CX Γ p s m args meth c cc RX6 nL) (hw : WH Γ YC M ad σ s H locs) (ho : o < M) (hkd : kdC o = 6) (hdg : decode cc pc = .ok (.getfield 98, 3)) (kk : W p l e R s m args below meth c H locs cells slots Q (F0 m (pc + 3) ls (.int (gi σ o 1) :: rest))) : W p l e R s m args below meth c H locs cells slots Q (F0 m pc ls (.ref (ad o) :: rest)) := g_get (ci := 6) (N := 17) (k := 1) (C := RX6) (T := TX6) rfl inT6 rfl (by decide) (by decide) q_465 rfl hc hw ho hkd hdg kk
theorem fp_X6_98 {v : Int32} (hc : CX Γ p s m args meth c cc RX6 nL) (hw : WH Γ YC M ad σ s H locs) (ho : o < M) (hkd : kdC o = 6) (hdg : decode cc pc = .ok (.putfield 98, 3)) (kk : ∀ (σ1 : St) (H1 : Heap) (locs1 : List Loc), σ1 = si σ o 1 v → WH Γ YC M ad σ1 s H1 locs1 → W p l e R s m args below meth c H1 locs1 cells slots Q (F0 m (pc + 3) ls rest)) : W p l e R s m args below meth c H locs cells slots Q (F0 m pc ls (.int v :: .ref (ad o) :: rest)) := g_put (ci := 6) (N := 17) (k := 1) (C := RX6) (T := TX6) (ty0 := tyX6) (τ := si σ o 1 v) rfl inT6 tyX6_ok nmX6 rfl (by decide) (by decide) q_465 rfl rfl rfl rfl hc hw ho hkd (en_si YC_ok hkd (by decide) rfl) hdg (fun H1 locs1 hw1 => kk _ H1 locs1 rfl hw1)
theorem q_467 : Cond.fieldLink RX6 120 RX6 "actCount" "I" ∈ TB := TB_at 467 (by decide +kernel) rfl
theorem fg_X6_120 (hc : CX Γ p s m args meth c cc RX6 nL) (hw : WH Γ YC M ad σ s H locs) (ho : o < M) (hkd : kdC o = 6) (hdg : decode cc pc = .ok (.getfield 120, 3)) (kk : W p l e R s m args below meth c H locs cells slots Q (F0 m (pc + 3) ls (.int (gi σ o 3) :: rest))) : W p l e R s m args below meth c H locs cells slots Q (F0 m pc ls (.ref (ad o) :: rest)) := g_get (ci := 6) (N := 17) (k := 3) (C := RX6) (T := TX6) rfl inT6 rfl (by decide) (by decide) q_467 rfl hc hw ho hkd hdg kk
theorem fp_X6_120 {v : Int32} (hc : CX Γ p s m args meth c cc RX6 nL) (hw : WH Γ YC M ad σ s H locs) (ho : o < M) (hkd : kdC o = 6) (hdg : decode cc pc = .ok (.putfield 120, 3)) (kk : ∀ (σ1 : St) (H1 : Heap) (locs1 : List Loc), σ1 = si σ o 3 v → WH Γ YC M ad σ1 s H1 locs1 → W p l e R s m args below meth c H1 locs1 cells slots Q (F0 m (pc + 3) ls rest)) : W p l e R s m args below meth c H locs cells slots Q (F0 m pc ls (.int v :: .ref (ad o) :: rest)) := g_put (ci := 6) (N := 17) (k := 3) (C := RX6) (T := TX6) (ty0 := tyX6) (τ := si σ o 3 v) rfl inT6 tyX6_ok nmX6 rfl (by decide) (by decide) q_467 rfl rfl rfl rfl hc hw ho hkd (en_si YC_ok hkd (by decide) rfl) hdg (fun H1 locs1 hw1 => kk _ H1 locs1 rfl hw1)
theorem q_470 : Cond.fieldLink RX6 123 RX6 "lawNow" "I" ∈ TB := TB_at 470 (by decide +kernel) rfl
theorem fg_X6_123 (hc : CX Γ p s m args meth c cc RX6 nL) (hw : WH Γ YC M ad σ s H locs) (ho : o < M) (hkd : kdC o = 6) (hdg : decode cc pc = .ok (.getfield 123, 3)) (kk : W p l e R s m args below meth c H locs cells slots Q (F0 m (pc + 3) ls (.int (gi σ o 6) :: rest))) : W p l e R s m args below meth c H locs cells slots Q (F0 m pc ls (.ref (ad o) :: rest)) := g_get (ci := 6) (N := 17) (k := 6) (C := RX6) (T := TX6) rfl inT6 rfl (by decide) (by decide) q_470 rfl hc hw ho hkd hdg kk
theorem fp_X6_123 {v : Int32} (hc : CX Γ p s m args meth c cc RX6 nL) (hw : WH Γ YC M ad σ s H locs) (ho : o < M) (hkd : kdC o = 6) (hdg : decode cc pc = .ok (.putfield 123, 3)) (kk : ∀ (σ1 : St) (H1 : Heap) (locs1 : List Loc), σ1 = si σ o 6 v → WH Γ YC M ad σ1 s H1 locs1 → W p l e R s m args below meth c H1 locs1 cells slots Q (F0 m (pc + 3) ls rest)) : W p l e R s m args below meth c H locs cells slots Q (F0 m pc ls (.int v :: .ref (ad o) :: rest)) := g_put (ci := 6) (N := 17) (k := 6) (C := RX6) (T := TX6) (ty0 := tyX6) (τ := si σ o 6 v) rfl inT6 tyX6_ok nmX6 rfl (by decide) (by decide) q_470 rfl rfl rfl rfl hc hw ho hkd (en_si YC_ok hkd (by decide) rfl) hdg (fun H1 locs1 hw1 => kk _ H1 locs1 rfl hw1)
theorem q_214 : Cond.fieldLinkNest RX6 149 RX0 "kind" "I" RX6 ∈ NW := NW_at 214 (by decide +kernel) rfl (by decide +kernel)
theorem fg_X6_149 (hc : CX Γ p s m args meth c cc RX6 nL) (hw : WH Γ YC M ad σ s H locs) (ho : o < M) (hkd : kdC o = 0) (hdg : decode cc pc = .ok (.getfield 149, 3)) (kk : W p l e R s m args below meth c H locs cells slots Q (F0 m (pc + 3) ls (.int (gi σ o 0) :: rest))) : W p l e R s m args below meth c H locs cells slots Q (F0 m pc ls (.ref (ad o) :: rest)) := g_getN (ci := 0) (N := 3) (k := 0) (C := RX0) (T := TX0) rfl inT0 rfl (by decide) (by decide) q_214 rfl hc hw ho hkd hdg kk
theorem q_217 : Cond.fieldLinkNest RX6 152 RX0 "more" "I" RX6 ∈ NW := NW_at 217 (by decide +kernel) rfl (by decide +kernel)
theorem fg_X6_152 (hc : CX Γ p s m args meth c cc RX6 nL) (hw : WH Γ YC M ad σ s H locs) (ho : o < M) (hkd : kdC o = 0) (hdg : decode cc pc = .ok (.getfield 152, 3)) (kk : W p l e R s m args below meth c H locs cells slots Q (F0 m (pc + 3) ls (.int (gi σ o 1) :: rest))) : W p l e R s m args below meth c H locs cells slots Q (F0 m pc ls (.ref (ad o) :: rest)) := g_getN (ci := 0) (N := 3) (k := 1) (C := RX0) (T := TX0) rfl inT0 rfl (by decide) (by decide) q_217 rfl hc hw ho hkd hdg kk
theorem q_220 : Cond.fieldLinkNest RX6 155 RX0 "of" "I" RX6 ∈ NW := NW_at 220 (by decide +kernel) rfl (by decide +kernel)
theorem fg_X6_155 (hc : CX Γ p s m args meth c cc RX6 nL) (hw : WH Γ YC M ad σ s H locs) (ho : o < M) (hkd : kdC o = 0) (hdg : decode cc pc = .ok (.getfield 155, 3)) (kk : W p l e R s m args below meth c H locs cells slots Q (F0 m (pc + 3) ls (.int (gi σ o 2) :: rest))) : W p l e R s m args below meth c H locs cells slots Q (F0 m pc ls (.ref (ad o) :: rest)) := g_getN (ci := 0) (N := 3) (k := 2) (C := RX0) (T := TX0) rfl inT0 rfl (by decide) (by decide) q_220 rfl hc hw ho hkd hdg kk
theorem q_165 : Cond.fieldLinkNest RX6 217 RX3 "oil" "I" RX6 ∈ NW := NW_at 165 (by decide +kernel) rfl (by decide +kernel)
theorem fg_X6_217 (hc : CX Γ p s m args meth c cc RX6 nL) (hw : WH Γ YC M ad σ s H locs) (ho : o < M) (hkd : kdC o = 3) (hdg : decode cc pc = .ok (.getfield 217, 3)) (kk : W p l e R s m args below meth c H locs cells slots Q (F0 m (pc + 3) ls (.int (gi σ o 11) :: rest))) : W p l e R s m args below meth c H locs cells slots Q (F0 m pc ls (.ref (ad o) :: rest)) := g_getN (ci := 3) (N := 17) (k := 11) (C := RX3) (T := TX3) rfl inT3 rfl (by decide) (by decide) q_165 rfl hc hw ho hkd hdg kk
theorem q_159 : Cond.fieldLinkNest RX6 236 RX3 "tied" "I" RX6 ∈ NW := NW_at 159 (by decide +kernel) rfl (by decide +kernel)
theorem fg_X6_236 (hc : CX Γ p s m args meth c cc RX6 nL) (hw : WH Γ YC M ad σ s H locs) (ho : o < M) (hkd : kdC o = 3) (hdg : decode cc pc = .ok (.getfield 236, 3)) (kk : W p l e R s m args below meth c H locs cells slots Q (F0 m (pc + 3) ls (.int (gi σ o 7) :: rest))) : W p l e R s m args below meth c H locs cells slots Q (F0 m pc ls (.ref (ad o) :: rest)) := g_getN (ci := 3) (N := 17) (k := 7) (C := RX3) (T := TX3) rfl inT3 rfl (by decide) (by decide) q_159 rfl hc hw ho hkd hdg kk
theorem q_161 : Cond.fieldLinkNest RX6 239 RX3 "free" "I" RX6 ∈ NW := NW_at 161 (by decide +kernel) rfl (by decide +kernel)
theorem fg_X6_239 (hc : CX Γ p s m args meth c cc RX6 nL) (hw : WH Γ YC M ad σ s H locs) (ho : o < M) (hkd : kdC o = 3) (hdg : decode cc pc = .ok (.getfield 239, 3)) (kk : W p l e R s m args below meth c H locs cells slots Q (F0 m (pc + 3) ls (.int (gi σ o 8) :: rest))) : W p l e R s m args below meth c H locs cells slots Q (F0 m pc ls (.ref (ad o) :: rest)) := g_getN (ci := 3) (N := 17) (k := 8) (C := RX3) (T := TX3) rfl inT3 rfl (by decide) (by decide) q_161 rfl hc hw ho hkd hdg kk
theorem q_168 : Cond.fieldLinkNest RX6 249 RX3 "crust" "I" RX6 ∈ NW := NW_at 168 (by decide +kernel) rfl (by decide +kernel)
theorem fg_X6_249 (hc : CX Γ p s m args meth c cc RX6 nL) (hw : WH Γ YC M ad σ s H locs) (ho : o < M) (hkd : kdC o = 3) (hdg : decode cc pc = .ok (.getfield 249, 3)) (kk : W p l e R s m args below meth c H locs cells slots Q (F0 m (pc + 3) ls (.int (gi σ o 13) :: rest))) : W p l e R s m args below meth c H locs cells slots Q (F0 m pc ls (.ref (ad o) :: rest)) := g_getN (ci := 3) (N := 17) (k := 13) (C := RX3) (T := TX3) rfl inT3 rfl (by decide) (by decide) q_168 rfl hc hw ho hkd hdg kk
theorem q_154 : Cond.fieldLinkNest RX6 255 RX3 "flame" "I" RX6 ∈ NW := NW_at 154 (by decide +kernel) rfl (by decide +kernel)
theorem fp_X6_255 {v : Int32} (hc : CX Γ p s m args meth c cc RX6 nL) (hw : WH Γ YC M ad σ s H locs) (ho : o < M) (hkd : kdC o = 3) (hdg : decode cc pc = .ok (.putfield 255, 3)) (kk : ∀ (σ1 : St) (H1 : Heap) (locs1 : List Loc), σ1 = si σ o 3 v → WH Γ YC M ad σ1 s H1 locs1 → W p l e R s m args below meth c H1 locs1 cells slots Q (F0 m (pc + 3) ls rest)) : W p l e R s m args below meth c H locs cells slots Q (F0 m pc ls (.int v :: .ref (ad o) :: rest)) := g_putN (ci := 3) (N := 17) (k := 3) (C := RX3) (T := TX3) (ty0 := tyX3) (τ := si σ o 3 v) rfl inT3 tyX3_ok nmX3 rfl (by decide) (by decide) q_154 rfl rfl rfl rfl hc hw ho hkd (en_si YC_ok hkd (by decide) rfl) hdg (fun H1 locs1 hw1 => kk _ H1 locs1 rfl hw1)
theorem q_477 : Cond.fieldLink RX6 294 RX6 "keptLaw" "I" ∈ TB := TB_at 477 (by decide +kernel) rfl
theorem fg_X6_294 (hc : CX Γ p s m args meth c cc RX6 nL) (hw : WH Γ YC M ad σ s H locs) (ho : o < M) (hkd : kdC o = 6) (hdg : decode cc pc = .ok (.getfield 294, 3)) (kk : W p l e R s m args below meth c H locs cells slots Q (F0 m (pc + 3) ls (.int (gi σ o 13) :: rest))) : W p l e R s m args below meth c H locs cells slots Q (F0 m pc ls (.ref (ad o) :: rest)) := g_get (ci := 6) (N := 17) (k := 13) (C := RX6) (T := TX6) rfl inT6 rfl (by decide) (by decide) q_477 rfl hc hw ho hkd hdg kk
theorem fp_X6_294 {v : Int32} (hc : CX Γ p s m args meth c cc RX6 nL) (hw : WH Γ YC M ad σ s H locs) (ho : o < M) (hkd : kdC o = 6) (hdg : decode cc pc = .ok (.putfield 294, 3)) (kk : ∀ (σ1 : St) (H1 : Heap) (locs1 : List Loc), σ1 = si σ o 13 v → WH Γ YC M ad σ1 s H1 locs1 → W p l e R s m args below meth c H1 locs1 cells slots Q (F0 m (pc + 3) ls rest)) : W p l e R s m args below meth c H locs cells slots Q (F0 m pc ls (.int v :: .ref (ad o) :: rest)) := g_put (ci := 6) (N := 17) (k := 13) (C := RX6) (T := TX6) (ty0 := tyX6) (τ := si σ o 13 v) rfl inT6 tyX6_ok nmX6 rfl (by decide) (by decide) q_477 rfl rfl rfl rfl hc hw ho hkd (en_si YC_ok hkd (by decide) rfl) hdg (fun H1 locs1 hw1 => kk _ H1 locs1 rfl hw1)
theorem q_244 : Cond.fieldLinkNest RX6 303 RX5 "sort" "I" RX6 ∈ NW := NW_at 244 (by decide +kernel) rfl (by decide +kernel)
theorem fg_X6_303 (hc : CX Γ p s m args meth c cc RX6 nL) (hw : WH Γ YC M ad σ s H locs) (ho : o < M) (hkd : kdC o = 5) (hdg : decode cc pc = .ok (.getfield 303, 3)) (kk : W p l e R s m args below meth c H locs cells slots Q (F0 m (pc + 3) ls (.int (gi σ o 1) :: rest))) : W p l e R s m args below meth c H locs cells slots Q (F0 m pc ls (.ref (ad o) :: rest)) := g_getN (ci := 5) (N := 3) (k := 1) (C := RX5) (T := TX5) rfl inT5 rfl (by decide) (by decide) q_244 rfl hc hw ho hkd hdg kk
theorem q_246 : Cond.fieldLinkNest RX6 330 RX5 "size" "I" RX6 ∈ NW := NW_at 246 (by decide +kernel) rfl (by decide +kernel)
theorem fg_X6_330 (hc : CX Γ p s m args meth c cc RX6 nL) (hw : WH Γ YC M ad σ s H locs) (ho : o < M) (hkd : kdC o = 5) (hdg : decode cc pc = .ok (.getfield 330, 3)) (kk : W p l e R s m args below meth c H locs cells slots Q (F0 m (pc + 3) ls (.int (gi σ o 2) :: rest))) : W p l e R s m args below meth c H locs cells slots Q (F0 m pc ls (.ref (ad o) :: rest)) := g_getN (ci := 5) (N := 3) (k := 2) (C := RX5) (T := TX5) rfl inT5 rfl (by decide) (by decide) q_246 rfl hc hw ho hkd hdg kk
theorem q_957 : Cond.fieldLink RX7 9 RX7 "cheese" "[I" ∈ TB := TB_at 957 (by decide +kernel) rfl
theorem fg_X7_9 (hc : CX Γ p s m args meth c cc RX7 nL) (hw : WH Γ YM M ad σ s H locs) (ho : 0 < M) (hkd : kdM 0 = 7) (hdg : decode cc pc = .ok (.getfield 9, 3)) (kk : W p l e R s m args below meth c H locs cells slots Q (F0 m (pc + 3) ls (.ref (ad 1) :: rest))) : W p l e R s m args below meth c H locs cells slots Q (F0 m pc ls (.ref (ad 0) :: rest)) := g_get (o := 0) (ci := 7) (N := 38) (k := 1) (C := RX7) (T := TX7) rfl inT7 rfl (by decide) (by decide) q_957 rfl hc hw ho hkd hdg kk
theorem q_958 : Cond.fieldLink RX7 13 RX7 "told" "[I" ∈ TB := TB_at 958 (by decide +kernel) rfl
theorem fg_X7_13 (hc : CX Γ p s m args meth c cc RX7 nL) (hw : WH Γ YM M ad σ s H locs) (ho : 0 < M) (hkd : kdM 0 = 7) (hdg : decode cc pc = .ok (.getfield 13, 3)) (kk : W p l e R s m args below meth c H locs cells slots Q (F0 m (pc + 3) ls (.ref (ad 2) :: rest))) : W p l e R s m args below meth c H locs cells slots Q (F0 m pc ls (.ref (ad 0) :: rest)) := g_get (o := 0) (ci := 7) (N := 38) (k := 2) (C := RX7) (T := TX7) rfl inT7 rfl (by decide) (by decide) q_958 rfl hc hw ho hkd hdg kk
theorem q_959 : Cond.fieldLink RX7 16 RX7 "tape" "[I" ∈ TB := TB_at 959 (by decide +kernel) rfl
theorem fg_X7_16 (hc : CX Γ p s m args meth c cc RX7 nL) (hw : WH Γ YM M ad σ s H locs) (ho : 0 < M) (hkd : kdM 0 = 7) (hdg : decode cc pc = .ok (.getfield 16, 3)) (kk : W p l e R s m args below meth c H locs cells slots Q (F0 m (pc + 3) ls (.ref (ad 3) :: rest))) : W p l e R s m args below meth c H locs cells slots Q (F0 m pc ls (.ref (ad 0) :: rest)) := g_get (o := 0) (ci := 7) (N := 38) (k := 3) (C := RX7) (T := TX7) rfl inT7 rfl (by decide) (by decide) q_959 rfl hc hw ho hkd hdg kk
theorem q_963 : Cond.fieldLink RX7 19 RX7 "rows1" "[I" ∈ TB := TB_at 963 (by decide +kernel) rfl
theorem fg_X7_19 (hc : CX Γ p s m args meth c cc RX7 nL) (hw : WH Γ YM M ad σ s H locs) (ho : 0 < M) (hkd : kdM 0 = 7) (hdg : decode cc pc = .ok (.getfield 19, 3)) (kk : W p l e R s m args below meth c H locs cells slots Q (F0 m (pc + 3) ls (.ref (ad 4) :: rest))) : W p l e R s m args below meth c H locs cells slots Q (F0 m pc ls (.ref (ad 0) :: rest)) := g_get (o := 0) (ci := 7) (N := 38) (k := 7) (C := RX7) (T := TX7) rfl inT7 rfl (by decide) (by decide) q_963 rfl hc hw ho hkd hdg kk
theorem q_964 : Cond.fieldLink RX7 22 RX7 "partFrom" "[I" ∈ TB := TB_at 964 (by decide +kernel) rfl
theorem fg_X7_22 (hc : CX Γ p s m args meth c cc RX7 nL) (hw : WH Γ YM M ad σ s H locs) (ho : 0 < M) (hkd : kdM 0 = 7) (hdg : decode cc pc = .ok (.getfield 22, 3)) (kk : W p l e R s m args below meth c H locs cells slots Q (F0 m (pc + 3) ls (.ref (ad 5) :: rest))) : W p l e R s m args below meth c H locs cells slots Q (F0 m pc ls (.ref (ad 0) :: rest)) := g_get (o := 0) (ci := 7) (N := 38) (k := 8) (C := RX7) (T := TX7) rfl inT7 rfl (by decide) (by decide) q_964 rfl hc hw ho hkd hdg kk
theorem q_965 : Cond.fieldLink RX7 25 RX7 "partTo" "[I" ∈ TB := TB_at 965 (by decide +kernel) rfl
theorem fg_X7_25 (hc : CX Γ p s m args meth c cc RX7 nL) (hw : WH Γ YM M ad σ s H locs) (ho : 0 < M) (hkd : kdM 0 = 7) (hdg : decode cc pc = .ok (.getfield 25, 3)) (kk : W p l e R s m args below meth c H locs cells slots Q (F0 m (pc + 3) ls (.ref (ad 6) :: rest))) : W p l e R s m args below meth c H locs cells slots Q (F0 m pc ls (.ref (ad 0) :: rest)) := g_get (o := 0) (ci := 7) (N := 38) (k := 9) (C := RX7) (T := TX7) rfl inT7 rfl (by decide) (by decide) q_965 rfl hc hw ho hkd hdg kk
theorem q_974 : Cond.fieldLink RX7 28 RX7 "letters" "[C" ∈ TB := TB_at 974 (by decide +kernel) rfl
theorem fg_X7_28 (hc : CX Γ p s m args meth c cc RX7 nL) (hw : WH Γ YM M ad σ s H locs) (ho : 0 < M) (hkd : kdM 0 = 7) (hdg : decode cc pc = .ok (.getfield 28, 3)) (kk : W p l e R s m args below meth c H locs cells slots Q (F0 m (pc + 3) ls (.ref (ad 7) :: rest))) : W p l e R s m args below meth c H locs cells slots Q (F0 m pc ls (.ref (ad 0) :: rest)) := g_get (o := 0) (ci := 7) (N := 38) (k := 18) (C := RX7) (T := TX7) rfl inT7 rfl (by decide) (by decide) q_974 rfl hc hw ho hkd hdg kk
theorem q_975 : Cond.fieldLink RX7 32 RX7 "pile" "[I" ∈ TB := TB_at 975 (by decide +kernel) rfl
theorem fg_X7_32 (hc : CX Γ p s m args meth c cc RX7 nL) (hw : WH Γ YM M ad σ s H locs) (ho : 0 < M) (hkd : kdM 0 = 7) (hdg : decode cc pc = .ok (.getfield 32, 3)) (kk : W p l e R s m args below meth c H locs cells slots Q (F0 m (pc + 3) ls (.ref (ad 8) :: rest))) : W p l e R s m args below meth c H locs cells slots Q (F0 m pc ls (.ref (ad 0) :: rest)) := g_get (o := 0) (ci := 7) (N := 38) (k := 19) (C := RX7) (T := TX7) rfl inT7 rfl (by decide) (by decide) q_975 rfl hc hw ho hkd hdg kk
theorem q_976 : Cond.fieldLink RX7 35 RX7 "names" "[I" ∈ TB := TB_at 976 (by decide +kernel) rfl
theorem fg_X7_35 (hc : CX Γ p s m args meth c cc RX7 nL) (hw : WH Γ YM M ad σ s H locs) (ho : 0 < M) (hkd : kdM 0 = 7) (hdg : decode cc pc = .ok (.getfield 35, 3)) (kk : W p l e R s m args below meth c H locs cells slots Q (F0 m (pc + 3) ls (.ref (ad 9) :: rest))) : W p l e R s m args below meth c H locs cells slots Q (F0 m pc ls (.ref (ad 0) :: rest)) := g_get (o := 0) (ci := 7) (N := 38) (k := 20) (C := RX7) (T := TX7) rfl inT7 rfl (by decide) (by decide) q_976 rfl hc hw ho hkd hdg kk
theorem q_978 : Cond.fieldLink RX7 38 RX7 "kind" "[I" ∈ TB := TB_at 978 (by decide +kernel) rfl
theorem fg_X7_38 (hc : CX Γ p s m args meth c cc RX7 nL) (hw : WH Γ YM M ad σ s H locs) (ho : 0 < M) (hkd : kdM 0 = 7) (hdg : decode cc pc = .ok (.getfield 38, 3)) (kk : W p l e R s m args below meth c H locs cells slots Q (F0 m (pc + 3) ls (.ref (ad 10) :: rest))) : W p l e R s m args below meth c H locs cells slots Q (F0 m pc ls (.ref (ad 0) :: rest)) := g_get (o := 0) (ci := 7) (N := 38) (k := 22) (C := RX7) (T := TX7) rfl inT7 rfl (by decide) (by decide) q_978 rfl hc hw ho hkd hdg kk
theorem q_979 : Cond.fieldLink RX7 41 RX7 "more" "[I" ∈ TB := TB_at 979 (by decide +kernel) rfl
theorem fg_X7_41 (hc : CX Γ p s m args meth c cc RX7 nL) (hw : WH Γ YM M ad σ s H locs) (ho : 0 < M) (hkd : kdM 0 = 7) (hdg : decode cc pc = .ok (.getfield 41, 3)) (kk : W p l e R s m args below meth c H locs cells slots Q (F0 m (pc + 3) ls (.ref (ad 11) :: rest))) : W p l e R s m args below meth c H locs cells slots Q (F0 m pc ls (.ref (ad 0) :: rest)) := g_get (o := 0) (ci := 7) (N := 38) (k := 23) (C := RX7) (T := TX7) rfl inT7 rfl (by decide) (by decide) q_979 rfl hc hw ho hkd hdg kk
theorem q_980 : Cond.fieldLink RX7 44 RX7 "of" "[I" ∈ TB := TB_at 980 (by decide +kernel) rfl
theorem fg_X7_44 (hc : CX Γ p s m args meth c cc RX7 nL) (hw : WH Γ YM M ad σ s H locs) (ho : 0 < M) (hkd : kdM 0 = 7) (hdg : decode cc pc = .ok (.getfield 44, 3)) (kk : W p l e R s m args below meth c H locs cells slots Q (F0 m (pc + 3) ls (.ref (ad 12) :: rest))) : W p l e R s m args below meth c H locs cells slots Q (F0 m pc ls (.ref (ad 0) :: rest)) := g_get (o := 0) (ci := 7) (N := 38) (k := 24) (C := RX7) (T := TX7) rfl inT7 rfl (by decide) (by decide) q_980 rfl hc hw ho hkd hdg kk
theorem q_981 : Cond.fieldLink RX7 47 RX7 "pot" "[I" ∈ TB := TB_at 981 (by decide +kernel) rfl
theorem fg_X7_47 (hc : CX Γ p s m args meth c cc RX7 nL) (hw : WH Γ YM M ad σ s H locs) (ho : 0 < M) (hkd : kdM 0 = 7) (hdg : decode cc pc = .ok (.getfield 47, 3)) (kk : W p l e R s m args below meth c H locs cells slots Q (F0 m (pc + 3) ls (.ref (ad 13) :: rest))) : W p l e R s m args below meth c H locs cells slots Q (F0 m pc ls (.ref (ad 0) :: rest)) := g_get (o := 0) (ci := 7) (N := 38) (k := 25) (C := RX7) (T := TX7) rfl inT7 rfl (by decide) (by decide) q_981 rfl hc hw ho hkd hdg kk
theorem q_988 : Cond.fieldLink RX7 50 RX7 "keptCheese" "[I" ∈ TB := TB_at 988 (by decide +kernel) rfl
theorem fg_X7_50 (hc : CX Γ p s m args meth c cc RX7 nL) (hw : WH Γ YM M ad σ s H locs) (ho : 0 < M) (hkd : kdM 0 = 7) (hdg : decode cc pc = .ok (.getfield 50, 3)) (kk : W p l e R s m args below meth c H locs cells slots Q (F0 m (pc + 3) ls (.ref (ad 14) :: rest))) : W p l e R s m args below meth c H locs cells slots Q (F0 m pc ls (.ref (ad 0) :: rest)) := g_get (o := 0) (ci := 7) (N := 38) (k := 32) (C := RX7) (T := TX7) rfl inT7 rfl (by decide) (by decide) q_988 rfl hc hw ho hkd hdg kk
theorem q_989 : Cond.fieldLink RX7 53 RX7 "keptTold" "[I" ∈ TB := TB_at 989 (by decide +kernel) rfl
theorem fg_X7_53 (hc : CX Γ p s m args meth c cc RX7 nL) (hw : WH Γ YM M ad σ s H locs) (ho : 0 < M) (hkd : kdM 0 = 7) (hdg : decode cc pc = .ok (.getfield 53, 3)) (kk : W p l e R s m args below meth c H locs cells slots Q (F0 m (pc + 3) ls (.ref (ad 15) :: rest))) : W p l e R s m args below meth c H locs cells slots Q (F0 m pc ls (.ref (ad 0) :: rest)) := g_get (o := 0) (ci := 7) (N := 38) (k := 33) (C := RX7) (T := TX7) rfl inT7 rfl (by decide) (by decide) q_989 rfl hc hw ho hkd hdg kk
theorem q_990 : Cond.fieldLink RX7 56 RX7 "sorts" "[I" ∈ TB := TB_at 990 (by decide +kernel) rfl
theorem fg_X7_56 (hc : CX Γ p s m args meth c cc RX7 nL) (hw : WH Γ YM M ad σ s H locs) (ho : 0 < M) (hkd : kdM 0 = 7) (hdg : decode cc pc = .ok (.getfield 56, 3)) (kk : W p l e R s m args below meth c H locs cells slots Q (F0 m (pc + 3) ls (.ref (ad 16) :: rest))) : W p l e R s m args below meth c H locs cells slots Q (F0 m pc ls (.ref (ad 0) :: rest)) := g_get (o := 0) (ci := 7) (N := 38) (k := 34) (C := RX7) (T := TX7) rfl inT7 rfl (by decide) (by decide) q_990 rfl hc hw ho hkd hdg kk
theorem q_991 : Cond.fieldLink RX7 59 RX7 "sizes" "[I" ∈ TB := TB_at 991 (by decide +kernel) rfl
theorem fg_X7_59 (hc : CX Γ p s m args meth c cc RX7 nL) (hw : WH Γ YM M ad σ s H locs) (ho : 0 < M) (hkd : kdM 0 = 7) (hdg : decode cc pc = .ok (.getfield 59, 3)) (kk : W p l e R s m args below meth c H locs cells slots Q (F0 m (pc + 3) ls (.ref (ad 17) :: rest))) : W p l e R s m args below meth c H locs cells slots Q (F0 m pc ls (.ref (ad 0) :: rest)) := g_get (o := 0) (ci := 7) (N := 38) (k := 35) (C := RX7) (T := TX7) rfl inT7 rfl (by decide) (by decide) q_991 rfl hc hw ho hkd hdg kk
theorem q_992 : Cond.fieldLink RX7 62 RX7 "items" "[I" ∈ TB := TB_at 992 (by decide +kernel) rfl
theorem fg_X7_62 (hc : CX Γ p s m args meth c cc RX7 nL) (hw : WH Γ YM M ad σ s H locs) (ho : 0 < M) (hkd : kdM 0 = 7) (hdg : decode cc pc = .ok (.getfield 62, 3)) (kk : W p l e R s m args below meth c H locs cells slots Q (F0 m (pc + 3) ls (.ref (ad 18) :: rest))) : W p l e R s m args below meth c H locs cells slots Q (F0 m pc ls (.ref (ad 0) :: rest)) := g_get (o := 0) (ci := 7) (N := 38) (k := 36) (C := RX7) (T := TX7) rfl inT7 rfl (by decide) (by decide) q_992 rfl hc hw ho hkd hdg kk
theorem q_993 : Cond.fieldLink RX7 65 RX7 "carried" "[I" ∈ TB := TB_at 993 (by decide +kernel) rfl
theorem fg_X7_65 (hc : CX Γ p s m args meth c cc RX7 nL) (hw : WH Γ YM M ad σ s H locs) (ho : 0 < M) (hkd : kdM 0 = 7) (hdg : decode cc pc = .ok (.getfield 65, 3)) (kk : W p l e R s m args below meth c H locs cells slots Q (F0 m (pc + 3) ls (.ref (ad 19) :: rest))) : W p l e R s m args below meth c H locs cells slots Q (F0 m pc ls (.ref (ad 0) :: rest)) := g_get (o := 0) (ci := 7) (N := 38) (k := 37) (C := RX7) (T := TX7) rfl inT7 rfl (by decide) (by decide) q_993 rfl hc hw ho hkd hdg kk
theorem q_961 : Cond.fieldLink RX7 68 RX7 "texts" "I" ∈ TB := TB_at 961 (by decide +kernel) rfl
theorem fg_X7_68 (hc : CX Γ p s m args meth c cc RX7 nL) (hw : WH Γ YM M ad σ s H locs) (ho : o < M) (hkd : kdM o = 7) (hdg : decode cc pc = .ok (.getfield 68, 3)) (kk : W p l e R s m args below meth c H locs cells slots Q (F0 m (pc + 3) ls (.int (gi σ o 5) :: rest))) : W p l e R s m args below meth c H locs cells slots Q (F0 m pc ls (.ref (ad o) :: rest)) := g_get (ci := 7) (N := 38) (k := 5) (C := RX7) (T := TX7) rfl inT7 rfl (by decide) (by decide) q_961 rfl hc hw ho hkd hdg kk
theorem fp_X7_68 {v : Int32} (hc : CX Γ p s m args meth c cc RX7 nL) (hw : WH Γ YM M ad σ s H locs) (ho : o < M) (hkd : kdM o = 7) (hdg : decode cc pc = .ok (.putfield 68, 3)) (kk : ∀ (σ1 : St) (H1 : Heap) (locs1 : List Loc), σ1 = si σ o 5 v → WH Γ YM M ad σ1 s H1 locs1 → W p l e R s m args below meth c H1 locs1 cells slots Q (F0 m (pc + 3) ls rest)) : W p l e R s m args below meth c H locs cells slots Q (F0 m pc ls (.int v :: .ref (ad o) :: rest)) := g_put (ci := 7) (N := 38) (k := 5) (C := RX7) (T := TX7) (ty0 := tyX7) (τ := si σ o 5 v) rfl inT7 tyX7_ok nmX7 rfl (by decide) (by decide) q_961 rfl rfl rfl rfl hc hw ho hkd (en_si YM_ok hkd (by decide) rfl) hdg (fun H1 locs1 hw1 => kk _ H1 locs1 rfl hw1)
theorem q_956 : Cond.fieldLink RX7 72 RX7 "cheeses" "I" ∈ TB := TB_at 956 (by decide +kernel) rfl
theorem fg_X7_72 (hc : CX Γ p s m args meth c cc RX7 nL) (hw : WH Γ YM M ad σ s H locs) (ho : o < M) (hkd : kdM o = 7) (hdg : decode cc pc = .ok (.getfield 72, 3)) (kk : W p l e R s m args below meth c H locs cells slots Q (F0 m (pc + 3) ls (.int (gi σ o 0) :: rest))) : W p l e R s m args below meth c H locs cells slots Q (F0 m pc ls (.ref (ad o) :: rest)) := g_get (ci := 7) (N := 38) (k := 0) (C := RX7) (T := TX7) rfl inT7 rfl (by decide) (by decide) q_956 rfl hc hw ho hkd hdg kk
theorem fp_X7_72 {v : Int32} (hc : CX Γ p s m args meth c cc RX7 nL) (hw : WH Γ YM M ad σ s H locs) (ho : o < M) (hkd : kdM o = 7) (hdg : decode cc pc = .ok (.putfield 72, 3)) (kk : ∀ (σ1 : St) (H1 : Heap) (locs1 : List Loc), σ1 = si σ o 0 v → WH Γ YM M ad σ1 s H1 locs1 → W p l e R s m args below meth c H1 locs1 cells slots Q (F0 m (pc + 3) ls rest)) : W p l e R s m args below meth c H locs cells slots Q (F0 m pc ls (.int v :: .ref (ad o) :: rest)) := g_put (ci := 7) (N := 38) (k := 0) (C := RX7) (T := TX7) (ty0 := tyX7) (τ := si σ o 0 v) rfl inT7 tyX7_ok nmX7 rfl (by decide) (by decide) q_956 rfl rfl rfl rfl hc hw ho hkd (en_si YM_ok hkd (by decide) rfl) hdg (fun H1 locs1 hw1 => kk _ H1 locs1 rfl hw1)
theorem q_977 : Cond.fieldLink RX7 95 RX7 "acts" "I" ∈ TB := TB_at 977 (by decide +kernel) rfl
theorem fg_X7_95 (hc : CX Γ p s m args meth c cc RX7 nL) (hw : WH Γ YM M ad σ s H locs) (ho : o < M) (hkd : kdM o = 7) (hdg : decode cc pc = .ok (.getfield 95, 3)) (kk : W p l e R s m args below meth c H locs cells slots Q (F0 m (pc + 3) ls (.int (gi σ o 21) :: rest))) : W p l e R s m args below meth c H locs cells slots Q (F0 m pc ls (.ref (ad o) :: rest)) := g_get (ci := 7) (N := 38) (k := 21) (C := RX7) (T := TX7) rfl inT7 rfl (by decide) (by decide) q_977 rfl hc hw ho hkd hdg kk
theorem fp_X7_95 {v : Int32} (hc : CX Γ p s m args meth c cc RX7 nL) (hw : WH Γ YM M ad σ s H locs) (ho : o < M) (hkd : kdM o = 7) (hdg : decode cc pc = .ok (.putfield 95, 3)) (kk : ∀ (σ1 : St) (H1 : Heap) (locs1 : List Loc), σ1 = si σ o 21 v → WH Γ YM M ad σ1 s H1 locs1 → W p l e R s m args below meth c H1 locs1 cells slots Q (F0 m (pc + 3) ls rest)) : W p l e R s m args below meth c H locs cells slots Q (F0 m pc ls (.int v :: .ref (ad o) :: rest)) := g_put (ci := 7) (N := 38) (k := 21) (C := RX7) (T := TX7) (ty0 := tyX7) (τ := si σ o 21 v) rfl inT7 tyX7_ok nmX7 rfl (by decide) (by decide) q_977 rfl rfl rfl rfl hc hw ho hkd (en_si YM_ok hkd (by decide) rfl) hdg (fun H1 locs1 hw1 => kk _ H1 locs1 rfl hw1)
theorem q_962 : Cond.fieldLink RX7 98 RX7 "rule" "I" ∈ TB := TB_at 962 (by decide +kernel) rfl
theorem fg_X7_98 (hc : CX Γ p s m args meth c cc RX7 nL) (hw : WH Γ YM M ad σ s H locs) (ho : o < M) (hkd : kdM o = 7) (hdg : decode cc pc = .ok (.getfield 98, 3)) (kk : W p l e R s m args below meth c H locs cells slots Q (F0 m (pc + 3) ls (.int (gi σ o 6) :: rest))) : W p l e R s m args below meth c H locs cells slots Q (F0 m pc ls (.ref (ad o) :: rest)) := g_get (ci := 7) (N := 38) (k := 6) (C := RX7) (T := TX7) rfl inT7 rfl (by decide) (by decide) q_962 rfl hc hw ho hkd hdg kk
theorem fp_X7_98 {v : Int32} (hc : CX Γ p s m args meth c cc RX7 nL) (hw : WH Γ YM M ad σ s H locs) (ho : o < M) (hkd : kdM o = 7) (hdg : decode cc pc = .ok (.putfield 98, 3)) (kk : ∀ (σ1 : St) (H1 : Heap) (locs1 : List Loc), σ1 = si σ o 6 v → WH Γ YM M ad σ1 s H1 locs1 → W p l e R s m args below meth c H1 locs1 cells slots Q (F0 m (pc + 3) ls rest)) : W p l e R s m args below meth c H locs cells slots Q (F0 m pc ls (.int v :: .ref (ad o) :: rest)) := g_put (ci := 7) (N := 38) (k := 6) (C := RX7) (T := TX7) (ty0 := tyX7) (τ := si σ o 6 v) rfl inT7 tyX7_ok nmX7 rfl (by decide) (by decide) q_962 rfl rfl rfl rfl hc hw ho hkd (en_si YM_ok hkd (by decide) rfl) hdg (fun H1 locs1 hw1 => kk _ H1 locs1 rfl hw1)
theorem q_960 : Cond.fieldLink RX7 101 RX7 "taped" "I" ∈ TB := TB_at 960 (by decide +kernel) rfl
theorem fg_X7_101 (hc : CX Γ p s m args meth c cc RX7 nL) (hw : WH Γ YM M ad σ s H locs) (ho : o < M) (hkd : kdM o = 7) (hdg : decode cc pc = .ok (.getfield 101, 3)) (kk : W p l e R s m args below meth c H locs cells slots Q (F0 m (pc + 3) ls (.int (gi σ o 4) :: rest))) : W p l e R s m args below meth c H locs cells slots Q (F0 m pc ls (.ref (ad o) :: rest)) := g_get (ci := 7) (N := 38) (k := 4) (C := RX7) (T := TX7) rfl inT7 rfl (by decide) (by decide) q_960 rfl hc hw ho hkd hdg kk
theorem fp_X7_101 {v : Int32} (hc : CX Γ p s m args meth c cc RX7 nL) (hw : WH Γ YM M ad σ s H locs) (ho : o < M) (hkd : kdM o = 7) (hdg : decode cc pc = .ok (.putfield 101, 3)) (kk : ∀ (σ1 : St) (H1 : Heap) (locs1 : List Loc), σ1 = si σ o 4 v → WH Γ YM M ad σ1 s H1 locs1 → W p l e R s m args below meth c H1 locs1 cells slots Q (F0 m (pc + 3) ls rest)) : W p l e R s m args below meth c H locs cells slots Q (F0 m pc ls (.int v :: .ref (ad o) :: rest)) := g_put (ci := 7) (N := 38) (k := 4) (C := RX7) (T := TX7) (ty0 := tyX7) (τ := si σ o 4 v) rfl inT7 tyX7_ok nmX7 rfl (by decide) (by decide) q_960 rfl rfl rfl rfl hc hw ho hkd (en_si YM_ok hkd (by decide) rfl) hdg (fun H1 locs1 hw1 => kk _ H1 locs1 rfl hw1)
theorem q_967 : Cond.fieldLink RX7 111 RX7 "begin" "I" ∈ TB := TB_at 967 (by decide +kernel) rfl
theorem fg_X7_111 (hc : CX Γ p s m args meth c cc RX7 nL) (hw : WH Γ YM M ad σ s H locs) (ho : o < M) (hkd : kdM o = 7) (hdg : decode cc pc = .ok (.getfield 111, 3)) (kk : W p l e R s m args below meth c H locs cells slots Q (F0 m (pc + 3) ls (.int (gi σ o 11) :: rest))) : W p l e R s m args below meth c H locs cells slots Q (F0 m pc ls (.ref (ad o) :: rest)) := g_get (ci := 7) (N := 38) (k := 11) (C := RX7) (T := TX7) rfl inT7 rfl (by decide) (by decide) q_967 rfl hc hw ho hkd hdg kk
theorem fp_X7_111 {v : Int32} (hc : CX Γ p s m args meth c cc RX7 nL) (hw : WH Γ YM M ad σ s H locs) (ho : o < M) (hkd : kdM o = 7) (hdg : decode cc pc = .ok (.putfield 111, 3)) (kk : ∀ (σ1 : St) (H1 : Heap) (locs1 : List Loc), σ1 = si σ o 11 v → WH Γ YM M ad σ1 s H1 locs1 → W p l e R s m args below meth c H1 locs1 cells slots Q (F0 m (pc + 3) ls rest)) : W p l e R s m args below meth c H locs cells slots Q (F0 m pc ls (.int v :: .ref (ad o) :: rest)) := g_put (ci := 7) (N := 38) (k := 11) (C := RX7) (T := TX7) (ty0 := tyX7) (τ := si σ o 11 v) rfl inT7 tyX7_ok nmX7 rfl (by decide) (by decide) q_967 rfl rfl rfl rfl hc hw ho hkd (en_si YM_ok hkd (by decide) rfl) hdg (fun H1 locs1 hw1 => kk _ H1 locs1 rfl hw1)
theorem q_968 : Cond.fieldLink RX7 114 RX7 "at" "I" ∈ TB := TB_at 968 (by decide +kernel) rfl
theorem fg_X7_114 (hc : CX Γ p s m args meth c cc RX7 nL) (hw : WH Γ YM M ad σ s H locs) (ho : o < M) (hkd : kdM o = 7) (hdg : decode cc pc = .ok (.getfield 114, 3)) (kk : W p l e R s m args below meth c H locs cells slots Q (F0 m (pc + 3) ls (.int (gi σ o 12) :: rest))) : W p l e R s m args below meth c H locs cells slots Q (F0 m pc ls (.ref (ad o) :: rest)) := g_get (ci := 7) (N := 38) (k := 12) (C := RX7) (T := TX7) rfl inT7 rfl (by decide) (by decide) q_968 rfl hc hw ho hkd hdg kk
theorem fp_X7_114 {v : Int32} (hc : CX Γ p s m args meth c cc RX7 nL) (hw : WH Γ YM M ad σ s H locs) (ho : o < M) (hkd : kdM o = 7) (hdg : decode cc pc = .ok (.putfield 114, 3)) (kk : ∀ (σ1 : St) (H1 : Heap) (locs1 : List Loc), σ1 = si σ o 12 v → WH Γ YM M ad σ1 s H1 locs1 → W p l e R s m args below meth c H1 locs1 cells slots Q (F0 m (pc + 3) ls rest)) : W p l e R s m args below meth c H locs cells slots Q (F0 m pc ls (.int v :: .ref (ad o) :: rest)) := g_put (ci := 7) (N := 38) (k := 12) (C := RX7) (T := TX7) (ty0 := tyX7) (τ := si σ o 12 v) rfl inT7 tyX7_ok nmX7 rfl (by decide) (by decide) q_968 rfl rfl rfl rfl hc hw ho hkd (en_si YM_ok hkd (by decide) rfl) hdg (fun H1 locs1 hw1 => kk _ H1 locs1 rfl hw1)
theorem q_969 : Cond.fieldLink RX7 129 RX7 "token" "I" ∈ TB := TB_at 969 (by decide +kernel) rfl
theorem fg_X7_129 (hc : CX Γ p s m args meth c cc RX7 nL) (hw : WH Γ YM M ad σ s H locs) (ho : o < M) (hkd : kdM o = 7) (hdg : decode cc pc = .ok (.getfield 129, 3)) (kk : W p l e R s m args below meth c H locs cells slots Q (F0 m (pc + 3) ls (.int (gi σ o 13) :: rest))) : W p l e R s m args below meth c H locs cells slots Q (F0 m pc ls (.ref (ad o) :: rest)) := g_get (ci := 7) (N := 38) (k := 13) (C := RX7) (T := TX7) rfl inT7 rfl (by decide) (by decide) q_969 rfl hc hw ho hkd hdg kk
theorem fp_X7_129 {v : Int32} (hc : CX Γ p s m args meth c cc RX7 nL) (hw : WH Γ YM M ad σ s H locs) (ho : o < M) (hkd : kdM o = 7) (hdg : decode cc pc = .ok (.putfield 129, 3)) (kk : ∀ (σ1 : St) (H1 : Heap) (locs1 : List Loc), σ1 = si σ o 13 v → WH Γ YM M ad σ1 s H1 locs1 → W p l e R s m args below meth c H1 locs1 cells slots Q (F0 m (pc + 3) ls rest)) : W p l e R s m args below meth c H locs cells slots Q (F0 m pc ls (.int v :: .ref (ad o) :: rest)) := g_put (ci := 7) (N := 38) (k := 13) (C := RX7) (T := TX7) (ty0 := tyX7) (τ := si σ o 13 v) rfl inT7 tyX7_ok nmX7 rfl (by decide) (by decide) q_969 rfl rfl rfl rfl hc hw ho hkd (en_si YM_ok hkd (by decide) rfl) hdg (fun H1 locs1 hw1 => kk _ H1 locs1 rfl hw1)
theorem q_970 : Cond.fieldLink RX7 139 RX7 "worth" "I" ∈ TB := TB_at 970 (by decide +kernel) rfl
theorem fg_X7_139 (hc : CX Γ p s m args meth c cc RX7 nL) (hw : WH Γ YM M ad σ s H locs) (ho : o < M) (hkd : kdM o = 7) (hdg : decode cc pc = .ok (.getfield 139, 3)) (kk : W p l e R s m args below meth c H locs cells slots Q (F0 m (pc + 3) ls (.int (gi σ o 14) :: rest))) : W p l e R s m args below meth c H locs cells slots Q (F0 m pc ls (.ref (ad o) :: rest)) := g_get (ci := 7) (N := 38) (k := 14) (C := RX7) (T := TX7) rfl inT7 rfl (by decide) (by decide) q_970 rfl hc hw ho hkd hdg kk
theorem fp_X7_139 {v : Int32} (hc : CX Γ p s m args meth c cc RX7 nL) (hw : WH Γ YM M ad σ s H locs) (ho : o < M) (hkd : kdM o = 7) (hdg : decode cc pc = .ok (.putfield 139, 3)) (kk : ∀ (σ1 : St) (H1 : Heap) (locs1 : List Loc), σ1 = si σ o 14 v → WH Γ YM M ad σ1 s H1 locs1 → W p l e R s m args below meth c H1 locs1 cells slots Q (F0 m (pc + 3) ls rest)) : W p l e R s m args below meth c H locs cells slots Q (F0 m pc ls (.int v :: .ref (ad o) :: rest)) := g_put (ci := 7) (N := 38) (k := 14) (C := RX7) (T := TX7) (ty0 := tyX7) (τ := si σ o 14 v) rfl inT7 tyX7_ok nmX7 rfl (by decide) (by decide) q_970 rfl rfl rfl rfl hc hw ho hkd (en_si YM_ok hkd (by decide) rfl) hdg (fun H1 locs1 hw1 => kk _ H1 locs1 rfl hw1)
theorem q_972 : Cond.fieldLink RX7 148 RX7 "isWrong" "Z" ∈ TB := TB_at 972 (by decide +kernel) rfl
theorem fg_X7_148 (hc : CX Γ p s m args meth c cc RX7 nL) (hw : WH Γ YM M ad σ s H locs) (ho : o < M) (hkd : kdM o = 7) (hdg : decode cc pc = .ok (.getfield 148, 3)) (kk : W p l e R s m args below meth c H locs cells slots Q (F0 m (pc + 3) ls (.int (gi σ o 16) :: rest))) : W p l e R s m args below meth c H locs cells slots Q (F0 m pc ls (.ref (ad o) :: rest)) := g_get (ci := 7) (N := 38) (k := 16) (C := RX7) (T := TX7) rfl inT7 rfl (by decide) (by decide) q_972 rfl hc hw ho hkd hdg kk
theorem fp_X7_148 {v : Int32} (hz : narrow .boolean (.int v) = .int v) (hf : fits .boolean (.int v) = true) (hc : CX Γ p s m args meth c cc RX7 nL) (hw : WH Γ YM M ad σ s H locs) (ho : o < M) (hkd : kdM o = 7) (hdg : decode cc pc = .ok (.putfield 148, 3)) (kk : ∀ (σ1 : St) (H1 : Heap) (locs1 : List Loc), σ1 = si σ o 16 v → WH Γ YM M ad σ1 s H1 locs1 → W p l e R s m args below meth c H1 locs1 cells slots Q (F0 m (pc + 3) ls rest)) : W p l e R s m args below meth c H locs cells slots Q (F0 m pc ls (.int v :: .ref (ad o) :: rest)) := g_put (ci := 7) (N := 38) (k := 16) (C := RX7) (T := TX7) (ty0 := tyX7) (τ := si σ o 16 v) rfl inT7 tyX7_ok nmX7 rfl (by decide) (by decide) q_972 rfl rfl hz hf hc hw ho hkd (en_si YM_ok hkd (by decide) rfl) hdg (fun H1 locs1 hw1 => kk _ H1 locs1 rfl hw1)
theorem q_973 : Cond.fieldLink RX7 152 RX7 "wrongAt" "I" ∈ TB := TB_at 973 (by decide +kernel) rfl
theorem fg_X7_152 (hc : CX Γ p s m args meth c cc RX7 nL) (hw : WH Γ YM M ad σ s H locs) (ho : o < M) (hkd : kdM o = 7) (hdg : decode cc pc = .ok (.getfield 152, 3)) (kk : W p l e R s m args below meth c H locs cells slots Q (F0 m (pc + 3) ls (.int (gi σ o 17) :: rest))) : W p l e R s m args below meth c H locs cells slots Q (F0 m pc ls (.ref (ad o) :: rest)) := g_get (ci := 7) (N := 38) (k := 17) (C := RX7) (T := TX7) rfl inT7 rfl (by decide) (by decide) q_973 rfl hc hw ho hkd hdg kk
theorem fp_X7_152 {v : Int32} (hc : CX Γ p s m args meth c cc RX7 nL) (hw : WH Γ YM M ad σ s H locs) (ho : o < M) (hkd : kdM o = 7) (hdg : decode cc pc = .ok (.putfield 152, 3)) (kk : ∀ (σ1 : St) (H1 : Heap) (locs1 : List Loc), σ1 = si σ o 17 v → WH Γ YM M ad σ1 s H1 locs1 → W p l e R s m args below meth c H1 locs1 cells slots Q (F0 m (pc + 3) ls rest)) : W p l e R s m args below meth c H locs cells slots Q (F0 m pc ls (.int v :: .ref (ad o) :: rest)) := g_put (ci := 7) (N := 38) (k := 17) (C := RX7) (T := TX7) (ty0 := tyX7) (τ := si σ o 17 v) rfl inT7 tyX7_ok nmX7 rfl (by decide) (by decide) q_973 rfl rfl rfl rfl hc hw ho hkd (en_si YM_ok hkd (by decide) rfl) hdg (fun H1 locs1 hw1 => kk _ H1 locs1 rfl hw1)
theorem q_966 : Cond.fieldLink RX7 155 RX7 "made" "I" ∈ TB := TB_at 966 (by decide +kernel) rfl
theorem fg_X7_155 (hc : CX Γ p s m args meth c cc RX7 nL) (hw : WH Γ YM M ad σ s H locs) (ho : o < M) (hkd : kdM o = 7) (hdg : decode cc pc = .ok (.getfield 155, 3)) (kk : W p l e R s m args below meth c H locs cells slots Q (F0 m (pc + 3) ls (.int (gi σ o 10) :: rest))) : W p l e R s m args below meth c H locs cells slots Q (F0 m pc ls (.ref (ad o) :: rest)) := g_get (ci := 7) (N := 38) (k := 10) (C := RX7) (T := TX7) rfl inT7 rfl (by decide) (by decide) q_966 rfl hc hw ho hkd hdg kk
theorem fp_X7_155 {v : Int32} (hc : CX Γ p s m args meth c cc RX7 nL) (hw : WH Γ YM M ad σ s H locs) (ho : o < M) (hkd : kdM o = 7) (hdg : decode cc pc = .ok (.putfield 155, 3)) (kk : ∀ (σ1 : St) (H1 : Heap) (locs1 : List Loc), σ1 = si σ o 10 v → WH Γ YM M ad σ1 s H1 locs1 → W p l e R s m args below meth c H1 locs1 cells slots Q (F0 m (pc + 3) ls rest)) : W p l e R s m args below meth c H locs cells slots Q (F0 m pc ls (.int v :: .ref (ad o) :: rest)) := g_put (ci := 7) (N := 38) (k := 10) (C := RX7) (T := TX7) (ty0 := tyX7) (τ := si σ o 10 v) rfl inT7 tyX7_ok nmX7 rfl (by decide) (by decide) q_966 rfl rfl rfl rfl hc hw ho hkd (en_si YM_ok hkd (by decide) rfl) hdg (fun H1 locs1 hw1 => kk _ H1 locs1 rfl hw1)
theorem q_971 : Cond.fieldLink RX7 158 RX7 "open" "I" ∈ TB := TB_at 971 (by decide +kernel) rfl
theorem fg_X7_158 (hc : CX Γ p s m args meth c cc RX7 nL) (hw : WH Γ YM M ad σ s H locs) (ho : o < M) (hkd : kdM o = 7) (hdg : decode cc pc = .ok (.getfield 158, 3)) (kk : W p l e R s m args below meth c H locs cells slots Q (F0 m (pc + 3) ls (.int (gi σ o 15) :: rest))) : W p l e R s m args below meth c H locs cells slots Q (F0 m pc ls (.ref (ad o) :: rest)) := g_get (ci := 7) (N := 38) (k := 15) (C := RX7) (T := TX7) rfl inT7 rfl (by decide) (by decide) q_971 rfl hc hw ho hkd hdg kk
theorem fp_X7_158 {v : Int32} (hc : CX Γ p s m args meth c cc RX7 nL) (hw : WH Γ YM M ad σ s H locs) (ho : o < M) (hkd : kdM o = 7) (hdg : decode cc pc = .ok (.putfield 158, 3)) (kk : ∀ (σ1 : St) (H1 : Heap) (locs1 : List Loc), σ1 = si σ o 15 v → WH Γ YM M ad σ1 s H1 locs1 → W p l e R s m args below meth c H1 locs1 cells slots Q (F0 m (pc + 3) ls rest)) : W p l e R s m args below meth c H locs cells slots Q (F0 m pc ls (.int v :: .ref (ad o) :: rest)) := g_put (ci := 7) (N := 38) (k := 15) (C := RX7) (T := TX7) (ty0 := tyX7) (τ := si σ o 15 v) rfl inT7 tyX7_ok nmX7 rfl (by decide) (by decide) q_971 rfl rfl rfl rfl hc hw ho hkd (en_si YM_ok hkd (by decide) rfl) hdg (fun H1 locs1 hw1 => kk _ H1 locs1 rfl hw1)
theorem q_982 : Cond.fieldLink RX7 213 RX7 "isDrawn" "Z" ∈ TB := TB_at 982 (by decide +kernel) rfl
theorem fg_X7_213 (hc : CX Γ p s m args meth c cc RX7 nL) (hw : WH Γ YM M ad σ s H locs) (ho : o < M) (hkd : kdM o = 7) (hdg : decode cc pc = .ok (.getfield 213, 3)) (kk : W p l e R s m args below meth c H locs cells slots Q (F0 m (pc + 3) ls (.int (gi σ o 26) :: rest))) : W p l e R s m args below meth c H locs cells slots Q (F0 m pc ls (.ref (ad o) :: rest)) := g_get (ci := 7) (N := 38) (k := 26) (C := RX7) (T := TX7) rfl inT7 rfl (by decide) (by decide) q_982 rfl hc hw ho hkd hdg kk
theorem fp_X7_213 {v : Int32} (hz : narrow .boolean (.int v) = .int v) (hf : fits .boolean (.int v) = true) (hc : CX Γ p s m args meth c cc RX7 nL) (hw : WH Γ YM M ad σ s H locs) (ho : o < M) (hkd : kdM o = 7) (hdg : decode cc pc = .ok (.putfield 213, 3)) (kk : ∀ (σ1 : St) (H1 : Heap) (locs1 : List Loc), σ1 = si σ o 26 v → WH Γ YM M ad σ1 s H1 locs1 → W p l e R s m args below meth c H1 locs1 cells slots Q (F0 m (pc + 3) ls rest)) : W p l e R s m args below meth c H locs cells slots Q (F0 m pc ls (.int v :: .ref (ad o) :: rest)) := g_put (ci := 7) (N := 38) (k := 26) (C := RX7) (T := TX7) (ty0 := tyX7) (τ := si σ o 26 v) rfl inT7 tyX7_ok nmX7 rfl (by decide) (by decide) q_982 rfl rfl hz hf hc hw ho hkd (en_si YM_ok hkd (by decide) rfl) hdg (fun H1 locs1 hw1 => kk _ H1 locs1 rfl hw1)
theorem q_983 : Cond.fieldLink RX7 216 RX7 "lot" "J" ∈ TB := TB_at 983 (by decide +kernel) rfl
theorem fg_X7_216 (hc : CX Γ p s m args meth c cc RX7 nL) (hw : WH Γ YM M ad σ s H locs) (ho : o < M) (hkd : kdM o = 7) (hdg : decode cc pc = .ok (.getfield 216, 3)) (kk : W p l e R s m args below meth c H locs cells slots Q (F0 m (pc + 3) ls (.long (gl σ o) :: rest))) : W p l e R s m args below meth c H locs cells slots Q (F0 m pc ls (.ref (ad o) :: rest)) := g_get (ci := 7) (N := 38) (k := 27) (C := RX7) (T := TX7) rfl inT7 rfl (by decide) (by decide) q_983 rfl hc hw ho hkd hdg kk
theorem fp_X7_216 {v : Int64} (hc : CX Γ p s m args meth c cc RX7 nL) (hw : WH Γ YM M ad σ s H locs) (ho : o < M) (hkd : kdM o = 7) (hdg : decode cc pc = .ok (.putfield 216, 3)) (kk : ∀ (σ1 : St) (H1 : Heap) (locs1 : List Loc), σ1 = sl σ o v → WH Γ YM M ad σ1 s H1 locs1 → W p l e R s m args below meth c H1 locs1 cells slots Q (F0 m (pc + 3) ls rest)) : W p l e R s m args below meth c H locs cells slots Q (F0 m pc ls (.long v :: .ref (ad o) :: rest)) := g_put (ci := 7) (N := 38) (k := 27) (C := RX7) (T := TX7) (ty0 := tyX7) (τ := sl σ o v) rfl inT7 tyX7_ok nmX7 rfl (by decide) (by decide) q_983 rfl rfl rfl rfl hc hw ho hkd (en_sl YM_ok hkd (by decide) rfl (fun i hi => lot_X7 i hi)) hdg (fun H1 locs1 hw1 => kk _ H1 locs1 rfl hw1)
theorem q_984 : Cond.fieldLink RX7 293 RX7 "heldMinutes" "I" ∈ TB := TB_at 984 (by decide +kernel) rfl
theorem fg_X7_293 (hc : CX Γ p s m args meth c cc RX7 nL) (hw : WH Γ YM M ad σ s H locs) (ho : o < M) (hkd : kdM o = 7) (hdg : decode cc pc = .ok (.getfield 293, 3)) (kk : W p l e R s m args below meth c H locs cells slots Q (F0 m (pc + 3) ls (.int (gi σ o 28) :: rest))) : W p l e R s m args below meth c H locs cells slots Q (F0 m pc ls (.ref (ad o) :: rest)) := g_get (ci := 7) (N := 38) (k := 28) (C := RX7) (T := TX7) rfl inT7 rfl (by decide) (by decide) q_984 rfl hc hw ho hkd hdg kk
theorem fp_X7_293 {v : Int32} (hc : CX Γ p s m args meth c cc RX7 nL) (hw : WH Γ YM M ad σ s H locs) (ho : o < M) (hkd : kdM o = 7) (hdg : decode cc pc = .ok (.putfield 293, 3)) (kk : ∀ (σ1 : St) (H1 : Heap) (locs1 : List Loc), σ1 = si σ o 28 v → WH Γ YM M ad σ1 s H1 locs1 → W p l e R s m args below meth c H1 locs1 cells slots Q (F0 m (pc + 3) ls rest)) : W p l e R s m args below meth c H locs cells slots Q (F0 m pc ls (.int v :: .ref (ad o) :: rest)) := g_put (ci := 7) (N := 38) (k := 28) (C := RX7) (T := TX7) (ty0 := tyX7) (τ := si σ o 28 v) rfl inT7 tyX7_ok nmX7 rfl (by decide) (by decide) q_984 rfl rfl rfl rfl hc hw ho hkd (en_si YM_ok hkd (by decide) rfl) hdg (fun H1 locs1 hw1 => kk _ H1 locs1 rfl hw1)
theorem q_985 : Cond.fieldLink RX7 323 RX7 "isKept" "Z" ∈ TB := TB_at 985 (by decide +kernel) rfl
theorem fg_X7_323 (hc : CX Γ p s m args meth c cc RX7 nL) (hw : WH Γ YM M ad σ s H locs) (ho : o < M) (hkd : kdM o = 7) (hdg : decode cc pc = .ok (.getfield 323, 3)) (kk : W p l e R s m args below meth c H locs cells slots Q (F0 m (pc + 3) ls (.int (gi σ o 29) :: rest))) : W p l e R s m args below meth c H locs cells slots Q (F0 m pc ls (.ref (ad o) :: rest)) := g_get (ci := 7) (N := 38) (k := 29) (C := RX7) (T := TX7) rfl inT7 rfl (by decide) (by decide) q_985 rfl hc hw ho hkd hdg kk
theorem fp_X7_323 {v : Int32} (hz : narrow .boolean (.int v) = .int v) (hf : fits .boolean (.int v) = true) (hc : CX Γ p s m args meth c cc RX7 nL) (hw : WH Γ YM M ad σ s H locs) (ho : o < M) (hkd : kdM o = 7) (hdg : decode cc pc = .ok (.putfield 323, 3)) (kk : ∀ (σ1 : St) (H1 : Heap) (locs1 : List Loc), σ1 = si σ o 29 v → WH Γ YM M ad σ1 s H1 locs1 → W p l e R s m args below meth c H1 locs1 cells slots Q (F0 m (pc + 3) ls rest)) : W p l e R s m args below meth c H locs cells slots Q (F0 m pc ls (.int v :: .ref (ad o) :: rest)) := g_put (ci := 7) (N := 38) (k := 29) (C := RX7) (T := TX7) (ty0 := tyX7) (τ := si σ o 29 v) rfl inT7 tyX7_ok nmX7 rfl (by decide) (by decide) q_985 rfl rfl hz hf hc hw ho hkd (en_si YM_ok hkd (by decide) rfl) hdg (fun H1 locs1 hw1 => kk _ H1 locs1 rfl hw1)
theorem q_986 : Cond.fieldLink RX7 326 RX7 "keptCheeses" "I" ∈ TB := TB_at 986 (by decide +kernel) rfl
theorem fg_X7_326 (hc : CX Γ p s m args meth c cc RX7 nL) (hw : WH Γ YM M ad σ s H locs) (ho : o < M) (hkd : kdM o = 7) (hdg : decode cc pc = .ok (.getfield 326, 3)) (kk : W p l e R s m args below meth c H locs cells slots Q (F0 m (pc + 3) ls (.int (gi σ o 30) :: rest))) : W p l e R s m args below meth c H locs cells slots Q (F0 m pc ls (.ref (ad o) :: rest)) := g_get (ci := 7) (N := 38) (k := 30) (C := RX7) (T := TX7) rfl inT7 rfl (by decide) (by decide) q_986 rfl hc hw ho hkd hdg kk
theorem fp_X7_326 {v : Int32} (hc : CX Γ p s m args meth c cc RX7 nL) (hw : WH Γ YM M ad σ s H locs) (ho : o < M) (hkd : kdM o = 7) (hdg : decode cc pc = .ok (.putfield 326, 3)) (kk : ∀ (σ1 : St) (H1 : Heap) (locs1 : List Loc), σ1 = si σ o 30 v → WH Γ YM M ad σ1 s H1 locs1 → W p l e R s m args below meth c H1 locs1 cells slots Q (F0 m (pc + 3) ls rest)) : W p l e R s m args below meth c H locs cells slots Q (F0 m pc ls (.int v :: .ref (ad o) :: rest)) := g_put (ci := 7) (N := 38) (k := 30) (C := RX7) (T := TX7) (ty0 := tyX7) (τ := si σ o 30 v) rfl inT7 tyX7_ok nmX7 rfl (by decide) (by decide) q_986 rfl rfl rfl rfl hc hw ho hkd (en_si YM_ok hkd (by decide) rfl) hdg (fun H1 locs1 hw1 => kk _ H1 locs1 rfl hw1)
theorem q_987 : Cond.fieldLink RX7 329 RX7 "keptRule" "I" ∈ TB := TB_at 987 (by decide +kernel) rfl
theorem fg_X7_329 (hc : CX Γ p s m args meth c cc RX7 nL) (hw : WH Γ YM M ad σ s H locs) (ho : o < M) (hkd : kdM o = 7) (hdg : decode cc pc = .ok (.getfield 329, 3)) (kk : W p l e R s m args below meth c H locs cells slots Q (F0 m (pc + 3) ls (.int (gi σ o 31) :: rest))) : W p l e R s m args below meth c H locs cells slots Q (F0 m pc ls (.ref (ad o) :: rest)) := g_get (ci := 7) (N := 38) (k := 31) (C := RX7) (T := TX7) rfl inT7 rfl (by decide) (by decide) q_987 rfl hc hw ho hkd hdg kk
theorem fp_X7_329 {v : Int32} (hc : CX Γ p s m args meth c cc RX7 nL) (hw : WH Γ YM M ad σ s H locs) (ho : o < M) (hkd : kdM o = 7) (hdg : decode cc pc = .ok (.putfield 329, 3)) (kk : ∀ (σ1 : St) (H1 : Heap) (locs1 : List Loc), σ1 = si σ o 31 v → WH Γ YM M ad σ1 s H1 locs1 → W p l e R s m args below meth c H1 locs1 cells slots Q (F0 m (pc + 3) ls rest)) : W p l e R s m args below meth c H locs cells slots Q (F0 m pc ls (.int v :: .ref (ad o) :: rest)) := g_put (ci := 7) (N := 38) (k := 31) (C := RX7) (T := TX7) (ty0 := tyX7) (τ := si σ o 31 v) rfl inT7 tyX7_ok nmX7 rfl (by decide) (by decide) q_987 rfl rfl rfl rfl hc hw ho hkd (en_si YM_ok hkd (by decide) rfl) hdg (fun H1 locs1 hw1 => kk _ H1 locs1 rfl hw1)
end FIELDS
theorem q_523 : Cond.methodLink RX1 13 yX1_hasPart ∈ TB := TB_at 523 (by decide +kernel) rfl
set_option maxRecDepth 100000 in
theorem q_525 : Cond.code yX1_hasPart cX1_hasPart 1 (Option.some Jvm.ClassFile.FieldType.boolean) ∈ TB := TB_at 525 rfl rfl
theorem q_79 : Cond.initialized RX1 ∈ TB := TB_at 79 (by decide +kernel) rfl
theorem q_524 : Cond.static yX1_hasPart ∈ TB := TB_at 524 (by decide +kernel) rfl
theorem vw_X1_13 : SW RX1 13 yX1_hasPart cX1_hasPart 1 (Option.some Jvm.ClassFile.FieldType.boolean) 1 := ⟨q_523, q_524, q_79, q_525, by decide +kernel⟩
theorem q_651 : Cond.methodLink RX3 75 yX3_pourIn ∈ TB := TB_at 651 (by decide +kernel) rfl
set_option maxRecDepth 100000 in
theorem q_654 : Cond.code yX3_pourIn cX3_pourIn 3 none ∈ TB := TB_at 654 rfl rfl
theorem q_77 : Cond.initialized RX3 ∈ TB := TB_at 77 (by decide +kernel) rfl
theorem q_653 : Cond.instanceMethod yX3_pourIn ∈ TB := TB_at 653 (by decide +kernel) rfl
theorem q_23 : Cond.selects RX3 yX3_pourIn yX3_pourIn ∈ TB := TB_at 23 (by decide +kernel) rfl
theorem vw_X3_75 : VW RX3 75 RX3 yX3_pourIn cX3_pourIn 3 none 2 := ⟨q_651, q_653, q_23, q_77, q_654, by decide +kernel⟩
theorem q_657 : Cond.methodLink RX3 79 yX3_throwIn ∈ TB := TB_at 657 (by decide +kernel) rfl
set_option maxRecDepth 100000 in
theorem q_660 : Cond.code yX3_throwIn cX3_throwIn 3 none ∈ TB := TB_at 660 rfl rfl
theorem q_658 : Cond.instanceMethod yX3_throwIn ∈ TB := TB_at 658 (by decide +kernel) rfl
theorem q_659 : Cond.selects RX3 yX3_throwIn yX3_throwIn ∈ TB := TB_at 659 (by decide +kernel) rfl
theorem vw_X3_79 : VW RX3 79 RX3 yX3_throwIn cX3_throwIn 3 none 2 := ⟨q_657, q_658, q_659, q_77, q_660, by decide +kernel⟩
theorem q_662 : Cond.methodLink RX3 83 yX3_beat ∈ TB := TB_at 662 (by decide +kernel) rfl
set_option maxRecDepth 100000 in
theorem q_665 : Cond.code yX3_beat cX3_beat 3 none ∈ TB := TB_at 665 rfl rfl
theorem q_663 : Cond.instanceMethod yX3_beat ∈ TB := TB_at 663 (by decide +kernel) rfl
theorem q_664 : Cond.selects RX3 yX3_beat yX3_beat ∈ TB := TB_at 664 (by decide +kernel) rfl
theorem vw_X3_83 : VW RX3 83 RX3 yX3_beat cX3_beat 3 none 1 := ⟨q_662, q_663, q_664, q_77, q_665, by decide +kernel⟩
theorem q_666 : Cond.methodLink RX3 93 yX0_minutesLong ∈ TB := TB_at 666 (by decide +kernel) rfl
set_option maxRecDepth 100000 in
theorem q_610 : Cond.code yX0_minutesLong cX0_minutesLong 1 (Option.some Jvm.ClassFile.FieldType.int) ∈ TB := TB_at 610 rfl rfl
theorem q_78 : Cond.initialized RX0 ∈ TB := TB_at 78 (by decide +kernel) rfl
theorem q_608 : Cond.instanceMethod yX0_minutesLong ∈ TB := TB_at 608 (by decide +kernel) rfl
theorem q_609 : Cond.selects RX0 yX0_minutesLong yX0_minutesLong ∈ TB := TB_at 609 (by decide +kernel) rfl
theorem vw_X3_93 : VW RX3 93 RX0 yX0_minutesLong cX0_minutesLong 1 (Option.some Jvm.ClassFile.FieldType.int) 0 := ⟨q_666, q_608, q_609, q_78, q_610, by decide +kernel⟩
theorem q_667 : Cond.methodLink RX3 97 yX0_isStirred ∈ TB := TB_at 667 (by decide +kernel) rfl
set_option maxRecDepth 100000 in
theorem q_615 : Cond.code yX0_isStirred cX0_isStirred 1 (Option.some Jvm.ClassFile.FieldType.boolean) ∈ TB := TB_at 615 rfl rfl
theorem q_613 : Cond.instanceMethod yX0_isStirred ∈ TB := TB_at 613 (by decide +kernel) rfl
theorem q_614 : Cond.selects RX0 yX0_isStirred yX0_isStirred ∈ TB := TB_at 614 (by decide +kernel) rfl
theorem vw_X3_97 : VW RX3 97 RX0 yX0_isStirred cX0_isStirred 1 (Option.some Jvm.ClassFile.FieldType.boolean) 0 := ⟨q_667, q_613, q_614, q_78, q_615, by decide +kernel⟩
theorem q_668 : Cond.methodLink RX3 101 yX3_passMinute ∈ TB := TB_at 668 (by decide +kernel) rfl
set_option maxRecDepth 100000 in
theorem q_671 : Cond.code yX3_passMinute cX3_passMinute 4 none ∈ TB := TB_at 671 rfl rfl
theorem q_669 : Cond.instanceMethod yX3_passMinute ∈ TB := TB_at 669 (by decide +kernel) rfl
theorem q_670 : Cond.selects RX3 yX3_passMinute yX3_passMinute ∈ TB := TB_at 670 (by decide +kernel) rfl
theorem vw_X3_101 : VW RX3 101 RX3 yX3_passMinute cX3_passMinute 4 none 1 := ⟨q_668, q_669, q_670, q_77, q_671, by decide +kernel⟩
theorem q_661 : Cond.methodLink RX3 110 yX1_tell ∈ TB := TB_at 661 (by decide +kernel) rfl
set_option maxRecDepth 100000 in
theorem q_541 : Cond.code yX1_tell cX1_tell 2 (Option.some Jvm.ClassFile.FieldType.int) ∈ TB := TB_at 541 rfl rfl
theorem q_539 : Cond.instanceMethod yX1_tell ∈ TB := TB_at 539 (by decide +kernel) rfl
theorem q_540 : Cond.selects RX1 yX1_tell yX1_tell ∈ TB := TB_at 540 (by decide +kernel) rfl
theorem vw_X3_110 : VW RX3 110 RX1 yX1_tell cX1_tell 2 (Option.some Jvm.ClassFile.FieldType.int) 1 := ⟨q_661, q_539, q_540, q_79, q_541, by decide +kernel⟩
theorem q_672 : Cond.methodLink RX3 114 yX3_flicker ∈ TB := TB_at 672 (by decide +kernel) rfl
set_option maxRecDepth 100000 in
theorem q_675 : Cond.code yX3_flicker cX3_flicker 1 (Option.some Jvm.ClassFile.FieldType.int) ∈ TB := TB_at 675 rfl rfl
theorem q_674 : Cond.instanceMethod yX3_flicker ∈ TB := TB_at 674 (by decide +kernel) rfl
theorem q_24 : Cond.selects RX3 yX3_flicker yX3_flicker ∈ TB := TB_at 24 (by decide +kernel) rfl
theorem vw_X3_114 : VW RX3 114 RX3 yX3_flicker cX3_flicker 1 (Option.some Jvm.ClassFile.FieldType.int) 0 := ⟨q_672, q_674, q_24, q_77, q_675, by decide +kernel⟩
theorem q_679 : Cond.methodLink RX3 119 yX3_worth ∈ TB := TB_at 679 (by decide +kernel) rfl
set_option maxRecDepth 100000 in
theorem q_682 : Cond.code yX3_worth cX3_worth 8 (Option.some Jvm.ClassFile.FieldType.int) ∈ TB := TB_at 682 rfl rfl
theorem q_681 : Cond.instanceMethod yX3_worth ∈ TB := TB_at 681 (by decide +kernel) rfl
theorem q_25 : Cond.selects RX3 yX3_worth yX3_worth ∈ TB := TB_at 25 (by decide +kernel) rfl
theorem vw_X3_119 : VW RX3 119 RX3 yX3_worth cX3_worth 8 (Option.some Jvm.ClassFile.FieldType.int) 2 := ⟨q_679, q_681, q_25, q_77, q_682, by decide +kernel⟩
theorem q_702 : Cond.methodLink RX3 122 yX3_settle ∈ TB := TB_at 702 (by decide +kernel) rfl
set_option maxRecDepth 100000 in
theorem q_705 : Cond.code yX3_settle cX3_settle 2 none ∈ TB := TB_at 705 rfl rfl
theorem q_704 : Cond.instanceMethod yX3_settle ∈ TB := TB_at 704 (by decide +kernel) rfl
theorem q_27 : Cond.selects RX3 yX3_settle yX3_settle ∈ TB := TB_at 27 (by decide +kernel) rfl
theorem vw_X3_122 : VW RX3 122 RX3 yX3_settle cX3_settle 2 none 0 := ⟨q_702, q_704, q_27, q_77, q_705, by decide +kernel⟩
theorem q_683 : Cond.methodLink RX3 131 yX2_endOf ∈ TB := TB_at 683 (by decide +kernel) rfl
set_option maxRecDepth 100000 in
theorem q_686 : Cond.code yX2_endOf cX2_endOf 2 (Option.some Jvm.ClassFile.FieldType.int) ∈ TB := TB_at 686 rfl rfl
theorem q_88 : Cond.initialized RX2 ∈ TB := TB_at 88 (by decide +kernel) rfl
theorem q_684 : Cond.instanceMethod yX2_endOf ∈ TB := TB_at 684 (by decide +kernel) rfl
theorem q_685 : Cond.selects RX2 yX2_endOf yX2_endOf ∈ TB := TB_at 685 (by decide +kernel) rfl
theorem vw_X3_131 : VW RX3 131 RX2 yX2_endOf cX2_endOf 2 (Option.some Jvm.ClassFile.FieldType.int) 1 := ⟨q_683, q_684, q_685, q_88, q_686, by decide +kernel⟩
theorem q_687 : Cond.methodLink RX3 134 yX2_startOf ∈ TB := TB_at 687 (by decide +kernel) rfl
set_option maxRecDepth 100000 in
theorem q_690 : Cond.code yX2_startOf cX2_startOf 2 (Option.some Jvm.ClassFile.FieldType.int) ∈ TB := TB_at 690 rfl rfl
theorem q_688 : Cond.instanceMethod yX2_startOf ∈ TB := TB_at 688 (by decide +kernel) rfl
theorem q_689 : Cond.selects RX2 yX2_startOf yX2_startOf ∈ TB := TB_at 689 (by decide +kernel) rfl
theorem vw_X3_134 : VW RX3 134 RX2 yX2_startOf cX2_startOf 2 (Option.some Jvm.ClassFile.FieldType.int) 1 := ⟨q_687, q_688, q_689, q_88, q_690, by decide +kernel⟩
theorem q_691 : Cond.methodLink RX3 137 yX2_codeAt ∈ TB := TB_at 691 (by decide +kernel) rfl
set_option maxRecDepth 100000 in
theorem q_694 : Cond.code yX2_codeAt cX2_codeAt 2 (Option.some Jvm.ClassFile.FieldType.int) ∈ TB := TB_at 694 rfl rfl
theorem q_692 : Cond.instanceMethod yX2_codeAt ∈ TB := TB_at 692 (by decide +kernel) rfl
theorem q_693 : Cond.selects RX2 yX2_codeAt yX2_codeAt ∈ TB := TB_at 693 (by decide +kernel) rfl
theorem vw_X3_137 : VW RX3 137 RX2 yX2_codeAt cX2_codeAt 2 (Option.some Jvm.ClassFile.FieldType.int) 1 := ⟨q_691, q_692, q_693, q_88, q_694, by decide +kernel⟩
theorem q_695 : Cond.methodLink RX3 140 yX3_named ∈ TB := TB_at 695 (by decide +kernel) rfl
set_option maxRecDepth 100000 in
theorem q_698 : Cond.code yX3_named cX3_named 2 (Option.some Jvm.ClassFile.FieldType.int) ∈ TB := TB_at 698 rfl rfl
theorem q_697 : Cond.instanceMethod yX3_named ∈ TB := TB_at 697 (by decide +kernel) rfl
theorem q_26 : Cond.selects RX3 yX3_named yX3_named ∈ TB := TB_at 26 (by decide +kernel) rfl
theorem vw_X3_140 : VW RX3 140 RX3 yX3_named cX3_named 2 (Option.some Jvm.ClassFile.FieldType.int) 1 := ⟨q_695, q_697, q_26, q_77, q_698, by decide +kernel⟩
theorem q_699 : Cond.methodLink RX3 143 yX2_joined ∈ TB := TB_at 699 (by decide +kernel) rfl
set_option maxRecDepth 100000 in
theorem q_701 : Cond.code yX2_joined cX2_joined 3 (Option.some Jvm.ClassFile.FieldType.int) ∈ TB := TB_at 701 rfl rfl
theorem q_700 : Cond.static yX2_joined ∈ TB := TB_at 700 (by decide +kernel) rfl
theorem vw_X3_143 : SW RX3 143 yX2_joined cX2_joined 3 (Option.some Jvm.ClassFile.FieldType.int) 3 := ⟨q_699, q_700, q_88, q_701, by decide +kernel⟩
theorem q_722 : Cond.methodLink RX3 147 yX3_holdsNow ∈ TB := TB_at 722 (by decide +kernel) rfl
set_option maxRecDepth 100000 in
theorem q_725 : Cond.code yX3_holdsNow cX3_holdsNow 1 (Option.some Jvm.ClassFile.FieldType.boolean) ∈ TB := TB_at 725 rfl rfl
theorem q_723 : Cond.instanceMethod yX3_holdsNow ∈ TB := TB_at 723 (by decide +kernel) rfl
theorem q_724 : Cond.selects RX3 yX3_holdsNow yX3_holdsNow ∈ TB := TB_at 724 (by decide +kernel) rfl
theorem vw_X3_147 : VW RX3 147 RX3 yX3_holdsNow cX3_holdsNow 1 (Option.some Jvm.ClassFile.FieldType.boolean) 0 := ⟨q_722, q_723, q_724, q_77, q_725, by decide +kernel⟩
theorem q_710 : Cond.methodLink RX3 150 yX3_thickness ∈ TB := TB_at 710 (by decide +kernel) rfl
set_option maxRecDepth 100000 in
theorem q_713 : Cond.code yX3_thickness cX3_thickness 1 (Option.some Jvm.ClassFile.FieldType.int) ∈ TB := TB_at 713 rfl rfl
theorem q_711 : Cond.instanceMethod yX3_thickness ∈ TB := TB_at 711 (by decide +kernel) rfl
theorem q_712 : Cond.selects RX3 yX3_thickness yX3_thickness ∈ TB := TB_at 712 (by decide +kernel) rfl
theorem vw_X3_150 : VW RX3 150 RX3 yX3_thickness cX3_thickness 1 (Option.some Jvm.ClassFile.FieldType.int) 0 := ⟨q_710, q_711, q_712, q_77, q_713, by decide +kernel⟩
theorem q_714 : Cond.methodLink RX3 153 yX3_threadsLong ∈ TB := TB_at 714 (by decide +kernel) rfl
set_option maxRecDepth 100000 in
theorem q_717 : Cond.code yX3_threadsLong cX3_threadsLong 1 (Option.some Jvm.ClassFile.FieldType.int) ∈ TB := TB_at 717 rfl rfl
theorem q_715 : Cond.instanceMethod yX3_threadsLong ∈ TB := TB_at 715 (by decide +kernel) rfl
theorem q_716 : Cond.selects RX3 yX3_threadsLong yX3_threadsLong ∈ TB := TB_at 716 (by decide +kernel) rfl
theorem vw_X3_153 : VW RX3 153 RX3 yX3_threadsLong cX3_threadsLong 1 (Option.some Jvm.ClassFile.FieldType.int) 0 := ⟨q_714, q_715, q_716, q_77, q_717, by decide +kernel⟩
theorem q_718 : Cond.methodLink RX3 156 yX3_sortNow ∈ TB := TB_at 718 (by decide +kernel) rfl
set_option maxRecDepth 100000 in
theorem q_721 : Cond.code yX3_sortNow cX3_sortNow 1 (Option.some Jvm.ClassFile.FieldType.int) ∈ TB := TB_at 721 rfl rfl
theorem q_719 : Cond.instanceMethod yX3_sortNow ∈ TB := TB_at 719 (by decide +kernel) rfl
theorem q_720 : Cond.selects RX3 yX3_sortNow yX3_sortNow ∈ TB := TB_at 720 (by decide +kernel) rfl
theorem vw_X3_156 : VW RX3 156 RX3 yX3_sortNow cX3_sortNow 1 (Option.some Jvm.ClassFile.FieldType.int) 0 := ⟨q_718, q_719, q_720, q_77, q_721, by decide +kernel⟩
theorem q_311 : Cond.methodLink RX4 34 yX4_stepOn ∈ TB := TB_at 311 (by decide +kernel) rfl
set_option maxRecDepth 100000 in
theorem q_314 : Cond.code yX4_stepOn cX4_stepOn 2 none ∈ TB := TB_at 314 rfl rfl
theorem q_76 : Cond.initialized RX4 ∈ TB := TB_at 76 (by decide +kernel) rfl
theorem q_313 : Cond.instanceMethod yX4_stepOn ∈ TB := TB_at 313 (by decide +kernel) rfl
theorem q_0 : Cond.selects RX4 yX4_stepOn yX4_stepOn ∈ TB := TB_at 0 (by decide +kernel) rfl
theorem vw_X4_34 : VW RX4 34 RX4 yX4_stepOn cX4_stepOn 2 none 0 := ⟨q_311, q_313, q_0, q_76, q_314, by decide +kernel⟩
theorem q_400 : Cond.methodLink RX4 37 yX4_demand ∈ TB := TB_at 400 (by decide +kernel) rfl
set_option maxRecDepth 100000 in
theorem q_403 : Cond.code yX4_demand cX4_demand 2 none ∈ TB := TB_at 403 rfl rfl
theorem q_402 : Cond.instanceMethod yX4_demand ∈ TB := TB_at 402 (by decide +kernel) rfl
theorem q_5 : Cond.selects RX4 yX4_demand yX4_demand ∈ TB := TB_at 5 (by decide +kernel) rfl
theorem vw_X4_37 : VW RX4 37 RX4 yX4_demand cX4_demand 2 none 1 := ⟨q_400, q_402, q_5, q_76, q_403, by decide +kernel⟩
theorem q_412 : Cond.methodLink RX4 41 yX4_readAny ∈ TB := TB_at 412 (by decide +kernel) rfl
set_option maxRecDepth 100000 in
theorem q_415 : Cond.code yX4_readAny cX4_readAny 3 none ∈ TB := TB_at 415 rfl rfl
theorem q_414 : Cond.instanceMethod yX4_readAny ∈ TB := TB_at 414 (by decide +kernel) rfl
theorem q_8 : Cond.selects RX4 yX4_readAny yX4_readAny ∈ TB := TB_at 8 (by decide +kernel) rfl
theorem vw_X4_41 : VW RX4 41 RX4 yX4_readAny cX4_readAny 3 none 1 := ⟨q_412, q_414, q_8, q_76, q_415, by decide +kernel⟩
theorem q_416 : Cond.methodLink RX4 55 yX4_readAll ∈ TB := TB_at 416 (by decide +kernel) rfl
set_option maxRecDepth 100000 in
theorem q_419 : Cond.code yX4_readAll cX4_readAll 3 none ∈ TB := TB_at 419 rfl rfl
theorem q_418 : Cond.instanceMethod yX4_readAll ∈ TB := TB_at 418 (by decide +kernel) rfl
theorem q_9 : Cond.selects RX4 yX4_readAll yX4_readAll ∈ TB := TB_at 9 (by decide +kernel) rfl
theorem vw_X4_55 : VW RX4 55 RX4 yX4_readAll cX4_readAll 3 none 1 := ⟨q_416, q_418, q_9, q_76, q_419, by decide +kernel⟩
theorem q_404 : Cond.methodLink RX4 58 yX4_isNow ∈ TB := TB_at 404 (by decide +kernel) rfl
set_option maxRecDepth 100000 in
theorem q_407 : Cond.code yX4_isNow cX4_isNow 2 (Option.some Jvm.ClassFile.FieldType.boolean) ∈ TB := TB_at 407 rfl rfl
theorem q_406 : Cond.instanceMethod yX4_isNow ∈ TB := TB_at 406 (by decide +kernel) rfl
theorem q_6 : Cond.selects RX4 yX4_isNow yX4_isNow ∈ TB := TB_at 6 (by decide +kernel) rfl
theorem vw_X4_58 : VW RX4 58 RX4 yX4_isNow cX4_isNow 2 (Option.some Jvm.ClassFile.FieldType.boolean) 1 := ⟨q_404, q_406, q_6, q_76, q_407, by decide +kernel⟩
theorem q_428 : Cond.methodLink RX4 62 yX4_emit ∈ TB := TB_at 428 (by decide +kernel) rfl
set_option maxRecDepth 100000 in
theorem q_431 : Cond.code yX4_emit cX4_emit 2 none ∈ TB := TB_at 431 rfl rfl
theorem q_430 : Cond.instanceMethod yX4_emit ∈ TB := TB_at 430 (by decide +kernel) rfl
theorem q_12 : Cond.selects RX4 yX4_emit yX4_emit ∈ TB := TB_at 12 (by decide +kernel) rfl
theorem vw_X4_62 : VW RX4 62 RX4 yX4_emit cX4_emit 2 none 1 := ⟨q_428, q_430, q_12, q_76, q_431, by decide +kernel⟩
theorem q_420 : Cond.methodLink RX4 65 yX4_readNot ∈ TB := TB_at 420 (by decide +kernel) rfl
set_option maxRecDepth 100000 in
theorem q_423 : Cond.code yX4_readNot cX4_readNot 3 none ∈ TB := TB_at 423 rfl rfl
theorem q_422 : Cond.instanceMethod yX4_readNot ∈ TB := TB_at 422 (by decide +kernel) rfl
theorem q_10 : Cond.selects RX4 yX4_readNot yX4_readNot ∈ TB := TB_at 10 (by decide +kernel) rfl
theorem vw_X4_65 : VW RX4 65 RX4 yX4_readNot cX4_readNot 3 none 1 := ⟨q_420, q_422, q_10, q_76, q_423, by decide +kernel⟩
theorem q_424 : Cond.methodLink RX4 68 yX4_mayOpen ∈ TB := TB_at 424 (by decide +kernel) rfl
set_option maxRecDepth 100000 in
theorem q_427 : Cond.code yX4_mayOpen cX4_mayOpen 2 (Option.some Jvm.ClassFile.FieldType.boolean) ∈ TB := TB_at 427 rfl rfl
theorem q_426 : Cond.instanceMethod yX4_mayOpen ∈ TB := TB_at 426 (by decide +kernel) rfl
theorem q_11 : Cond.selects RX4 yX4_mayOpen yX4_mayOpen ∈ TB := TB_at 11 (by decide +kernel) rfl
theorem vw_X4_68 : VW RX4 68 RX4 yX4_mayOpen cX4_mayOpen 2 (Option.some Jvm.ClassFile.FieldType.boolean) 1 := ⟨q_424, q_426, q_11, q_76, q_427, by decide +kernel⟩
theorem q_432 : Cond.methodLink RX4 71 yX4_readSum ∈ TB := TB_at 432 (by decide +kernel) rfl
set_option maxRecDepth 100000 in
theorem q_435 : Cond.code yX4_readSum cX4_readSum 4 none ∈ TB := TB_at 435 rfl rfl
theorem q_434 : Cond.instanceMethod yX4_readSum ∈ TB := TB_at 434 (by decide +kernel) rfl
theorem q_13 : Cond.selects RX4 yX4_readSum yX4_readSum ∈ TB := TB_at 13 (by decide +kernel) rfl
theorem vw_X4_71 : VW RX4 71 RX4 yX4_readSum cX4_readSum 4 none 1 := ⟨q_432, q_434, q_13, q_76, q_435, by decide +kernel⟩
theorem q_436 : Cond.methodLink RX4 77 yX4_readTerm ∈ TB := TB_at 436 (by decide +kernel) rfl
set_option maxRecDepth 100000 in
theorem q_439 : Cond.code yX4_readTerm cX4_readTerm 3 none ∈ TB := TB_at 439 rfl rfl
theorem q_438 : Cond.instanceMethod yX4_readTerm ∈ TB := TB_at 438 (by decide +kernel) rfl
theorem q_14 : Cond.selects RX4 yX4_readTerm yX4_readTerm ∈ TB := TB_at 14 (by decide +kernel) rfl
theorem vw_X4_77 : VW RX4 77 RX4 yX4_readTerm cX4_readTerm 3 none 1 := ⟨q_436, q_438, q_14, q_76, q_439, by decide +kernel⟩
theorem q_440 : Cond.methodLink RX4 80 yX4_readOne ∈ TB := TB_at 440 (by decide +kernel) rfl
set_option maxRecDepth 100000 in
theorem q_443 : Cond.code yX4_readOne cX4_readOne 2 none ∈ TB := TB_at 443 rfl rfl
theorem q_442 : Cond.instanceMethod yX4_readOne ∈ TB := TB_at 442 (by decide +kernel) rfl
theorem q_15 : Cond.selects RX4 yX4_readOne yX4_readOne ∈ TB := TB_at 15 (by decide +kernel) rfl
theorem vw_X4_80 : VW RX4 80 RX4 yX4_readOne cX4_readOne 2 none 1 := ⟨q_440, q_442, q_15, q_76, q_443, by decide +kernel⟩
theorem q_408 : Cond.methodLink RX4 86 yX4_failHere ∈ TB := TB_at 408 (by decide +kernel) rfl
set_option maxRecDepth 100000 in
theorem q_411 : Cond.code yX4_failHere cX4_failHere 1 none ∈ TB := TB_at 411 rfl rfl
theorem q_410 : Cond.instanceMethod yX4_failHere ∈ TB := TB_at 410 (by decide +kernel) rfl
theorem q_7 : Cond.selects RX4 yX4_failHere yX4_failHere ∈ TB := TB_at 7 (by decide +kernel) rfl
theorem vw_X4_86 : VW RX4 86 RX4 yX4_failHere cX4_failHere 1 none 0 := ⟨q_408, q_410, q_7, q_76, q_411, by decide +kernel⟩
theorem q_315 : Cond.methodLink RX4 92 yX4_byteAt ∈ TB := TB_at 315 (by decide +kernel) rfl
set_option maxRecDepth 100000 in
theorem q_318 : Cond.code yX4_byteAt cX4_byteAt 2 (Option.some Jvm.ClassFile.FieldType.int) ∈ TB := TB_at 318 rfl rfl
theorem q_317 : Cond.instanceMethod yX4_byteAt ∈ TB := TB_at 317 (by decide +kernel) rfl
theorem q_1 : Cond.selects RX4 yX4_byteAt yX4_byteAt ∈ TB := TB_at 1 (by decide +kernel) rfl
theorem vw_X4_92 : VW RX4 92 RX4 yX4_byteAt cX4_byteAt 2 (Option.some Jvm.ClassFile.FieldType.int) 1 := ⟨q_315, q_317, q_1, q_76, q_318, by decide +kernel⟩
theorem q_319 : Cond.methodLink RX4 96 yX4_isLetter ∈ TB := TB_at 319 (by decide +kernel) rfl
set_option maxRecDepth 100000 in
theorem q_321 : Cond.code yX4_isLetter cX4_isLetter 1 (Option.some Jvm.ClassFile.FieldType.boolean) ∈ TB := TB_at 321 rfl rfl
theorem q_320 : Cond.static yX4_isLetter ∈ TB := TB_at 320 (by decide +kernel) rfl
theorem vw_X4_96 : SW RX4 96 yX4_isLetter cX4_isLetter 1 (Option.some Jvm.ClassFile.FieldType.boolean) 1 := ⟨q_319, q_320, q_76, q_321, by decide +kernel⟩
theorem q_322 : Cond.methodLink RX4 99 yX4_stepOverWord ∈ TB := TB_at 322 (by decide +kernel) rfl
set_option maxRecDepth 100000 in
theorem q_325 : Cond.code yX4_stepOverWord cX4_stepOverWord 2 none ∈ TB := TB_at 325 rfl rfl
theorem q_324 : Cond.instanceMethod yX4_stepOverWord ∈ TB := TB_at 324 (by decide +kernel) rfl
theorem q_2 : Cond.selects RX4 yX4_stepOverWord yX4_stepOverWord ∈ TB := TB_at 2 (by decide +kernel) rfl
theorem vw_X4_99 : VW RX4 99 RX4 yX4_stepOverWord cX4_stepOverWord 2 none 0 := ⟨q_322, q_324, q_2, q_76, q_325, by decide +kernel⟩
theorem q_333 : Cond.methodLink RX4 102 yX4_isDigit ∈ TB := TB_at 333 (by decide +kernel) rfl
set_option maxRecDepth 100000 in
theorem q_335 : Cond.code yX4_isDigit cX4_isDigit 1 (Option.some Jvm.ClassFile.FieldType.boolean) ∈ TB := TB_at 335 rfl rfl
theorem q_334 : Cond.static yX4_isDigit ∈ TB := TB_at 334 (by decide +kernel) rfl
theorem vw_X4_102 : SW RX4 102 yX4_isDigit cX4_isDigit 1 (Option.some Jvm.ClassFile.FieldType.boolean) 1 := ⟨q_333, q_334, q_76, q_335, by decide +kernel⟩
theorem q_336 : Cond.methodLink RX4 105 yX4_stepOverNumber ∈ TB := TB_at 336 (by decide +kernel) rfl
set_option maxRecDepth 100000 in
theorem q_339 : Cond.code yX4_stepOverNumber cX4_stepOverNumber 2 none ∈ TB := TB_at 339 rfl rfl
theorem q_338 : Cond.instanceMethod yX4_stepOverNumber ∈ TB := TB_at 338 (by decide +kernel) rfl
theorem q_4 : Cond.selects RX4 yX4_stepOverNumber yX4_stepOverNumber ∈ TB := TB_at 4 (by decide +kernel) rfl
theorem vw_X4_105 : VW RX4 105 RX4 yX4_stepOverNumber cX4_stepOverNumber 2 none 0 := ⟨q_336, q_338, q_4, q_76, q_339, by decide +kernel⟩
theorem q_341 : Cond.methodLink RX4 110 yJ0_indexOf_0f7a4 ∈ TB := TB_at 341 (by decide +kernel) rfl
set_option maxRecDepth 100000 in
theorem q_344 : Cond.code yJ0_indexOf_0f7a4 cJ0_indexOf_0f7a4 2 (Option.some Jvm.ClassFile.FieldType.int) ∈ TB := TB_at 344 rfl rfl
theorem q_81 : Cond.initialized "java/lang/String" ∈ TB := TB_at 81 (by decide +kernel) rfl
theorem q_342 : Cond.instanceMethod yJ0_indexOf_0f7a4 ∈ TB := TB_at 342 (by decide +kernel) rfl
theorem q_343 : Cond.selects "java/lang/String" yJ0_indexOf_0f7a4 yJ0_indexOf_0f7a4 ∈ TB := TB_at 343 (by decide +kernel) rfl
theorem vw_X4_110 : VW RX4 110 "java/lang/String" yJ0_indexOf_0f7a4 cJ0_indexOf_0f7a4 2 (Option.some Jvm.ClassFile.FieldType.int) 1 := ⟨q_341, q_342, q_343, q_81, q_344, by decide +kernel⟩
theorem q_327 : Cond.methodLink RX4 117 yJ0_length_8abf5 ∈ TB := TB_at 327 (by decide +kernel) rfl
set_option maxRecDepth 100000 in
theorem q_258 : Cond.code yJ0_length_8abf5 cJ0_length_8abf5 1 (Option.some Jvm.ClassFile.FieldType.int) ∈ TB := TB_at 258 rfl rfl
theorem q_256 : Cond.instanceMethod yJ0_length_8abf5 ∈ TB := TB_at 256 (by decide +kernel) rfl
theorem q_257 : Cond.selects "java/lang/String" yJ0_length_8abf5 yJ0_length_8abf5 ∈ TB := TB_at 257 (by decide +kernel) rfl
theorem vw_X4_117 : VW RX4 117 "java/lang/String" yJ0_length_8abf5 cJ0_length_8abf5 1 (Option.some Jvm.ClassFile.FieldType.int) 0 := ⟨q_327, q_256, q_257, q_81, q_258, by decide +kernel⟩
theorem q_328 : Cond.methodLink RX4 121 yX4_isWordAt ∈ TB := TB_at 328 (by decide +kernel) rfl
set_option maxRecDepth 100000 in
theorem q_331 : Cond.code yX4_isWordAt cX4_isWordAt 4 (Option.some Jvm.ClassFile.FieldType.boolean) ∈ TB := TB_at 331 rfl rfl
theorem q_330 : Cond.instanceMethod yX4_isWordAt ∈ TB := TB_at 330 (by decide +kernel) rfl
theorem q_3 : Cond.selects RX4 yX4_isWordAt yX4_isWordAt ∈ TB := TB_at 3 (by decide +kernel) rfl
theorem vw_X4_121 : VW RX4 121 RX4 yX4_isWordAt cX4_isWordAt 4 (Option.some Jvm.ClassFile.FieldType.boolean) 1 := ⟨q_328, q_330, q_3, q_76, q_331, by decide +kernel⟩
theorem q_332 : Cond.methodLink RX4 124 yJ0_charAt_5068e ∈ TB := TB_at 332 (by decide +kernel) rfl
set_option maxRecDepth 100000 in
theorem q_268 : Cond.code yJ0_charAt_5068e cJ0_charAt_5068e 2 (Option.some Jvm.ClassFile.FieldType.char) ∈ TB := TB_at 268 rfl rfl
theorem q_266 : Cond.instanceMethod yJ0_charAt_5068e ∈ TB := TB_at 266 (by decide +kernel) rfl
theorem q_267 : Cond.selects "java/lang/String" yJ0_charAt_5068e yJ0_charAt_5068e ∈ TB := TB_at 267 (by decide +kernel) rfl
theorem vw_X4_124 : VW RX4 124 "java/lang/String" yJ0_charAt_5068e cJ0_charAt_5068e 2 (Option.some Jvm.ClassFile.FieldType.char) 1 := ⟨q_332, q_266, q_267, q_81, q_268, by decide +kernel⟩
theorem q_851 : Cond.methodLink RX5 29 yX5_hasRow ∈ TB := TB_at 851 (by decide +kernel) rfl
set_option maxRecDepth 100000 in
theorem q_854 : Cond.code yX5_hasRow cX5_hasRow 3 (Option.some Jvm.ClassFile.FieldType.boolean) ∈ TB := TB_at 854 rfl rfl
theorem q_80 : Cond.initialized RX5 ∈ TB := TB_at 80 (by decide +kernel) rfl
theorem q_852 : Cond.instanceMethod yX5_hasRow ∈ TB := TB_at 852 (by decide +kernel) rfl
theorem q_853 : Cond.selects RX5 yX5_hasRow yX5_hasRow ∈ TB := TB_at 853 (by decide +kernel) rfl
theorem vw_X5_29 : VW RX5 29 RX5 yX5_hasRow cX5_hasRow 3 (Option.some Jvm.ClassFile.FieldType.boolean) 2 := ⟨q_851, q_852, q_853, q_80, q_854, by decide +kernel⟩
theorem q_255 : Cond.methodLink RX6 73 yJ0_length_8abf5 ∈ TB := TB_at 255 (by decide +kernel) rfl
theorem vw_X6_73 : VW RX6 73 "java/lang/String" yJ0_length_8abf5 cJ0_length_8abf5 1 (Option.some Jvm.ClassFile.FieldType.int) 0 := ⟨q_255, q_256, q_257, q_81, q_258, by decide +kernel⟩
theorem q_265 : Cond.methodLink RX6 79 yJ0_charAt_5068e ∈ TB := TB_at 265 (by decide +kernel) rfl
theorem vw_X6_79 : VW RX6 79 "java/lang/String" yJ0_charAt_5068e cJ0_charAt_5068e 2 (Option.some Jvm.ClassFile.FieldType.char) 1 := ⟨q_265, q_266, q_267, q_81, q_268, by decide +kernel⟩
theorem q_303 : Cond.methodLink RX6 83 yX4_add ∈ TB := TB_at 303 (by decide +kernel) rfl
set_option maxRecDepth 100000 in
theorem q_306 : Cond.code yX4_add cX4_add 2 none ∈ TB := TB_at 306 rfl rfl
theorem q_304 : Cond.instanceMethod yX4_add ∈ TB := TB_at 304 (by decide +kernel) rfl
theorem q_305 : Cond.selects RX4 yX4_add yX4_add ∈ TB := TB_at 305 (by decide +kernel) rfl
theorem vw_X6_83 : VW RX6 83 RX4 yX4_add cX4_add 2 none 1 := ⟨q_303, q_304, q_305, q_76, q_306, by decide +kernel⟩
theorem q_307 : Cond.methodLink RX6 87 yX4_readLaw ∈ TB := TB_at 307 (by decide +kernel) rfl
set_option maxRecDepth 100000 in
theorem q_310 : Cond.code yX4_readLaw cX4_readLaw 2 (Option.some (Jvm.ClassFile.FieldType.object "ThreadsAndSplits$Law")) ∈ TB := TB_at 310 rfl rfl
theorem q_308 : Cond.instanceMethod yX4_readLaw ∈ TB := TB_at 308 (by decide +kernel) rfl
theorem q_309 : Cond.selects RX4 yX4_readLaw yX4_readLaw ∈ TB := TB_at 309 (by decide +kernel) rfl
theorem vw_X6_87 : VW RX6 87 RX4 yX4_readLaw cX4_readLaw 2 (Option.some (Jvm.ClassFile.FieldType.object "ThreadsAndSplits$Law")) 0 := ⟨q_307, q_308, q_309, q_76, q_310, by decide +kernel⟩
theorem q_520 : Cond.methodLink RX6 94 yX1_fits ∈ TB := TB_at 520 (by decide +kernel) rfl
set_option maxRecDepth 100000 in
theorem q_522 : Cond.code yX1_fits cX1_fits 2 (Option.some Jvm.ClassFile.FieldType.boolean) ∈ TB := TB_at 522 rfl rfl
theorem q_521 : Cond.static yX1_fits ∈ TB := TB_at 521 (by decide +kernel) rfl
theorem vw_X6_94 : SW RX6 94 yX1_fits cX1_fits 2 (Option.some Jvm.ClassFile.FieldType.boolean) 2 := ⟨q_520, q_521, q_79, q_522, by decide +kernel⟩
theorem q_526 : Cond.methodLink RX6 101 yX6_cheeseAt ∈ TB := TB_at 526 (by decide +kernel) rfl
set_option maxRecDepth 100000 in
theorem q_529 : Cond.code yX6_cheeseAt cX6_cheeseAt 2 (Option.some (Jvm.ClassFile.FieldType.object "ThreadsAndSplits$Cheese")) ∈ TB := TB_at 529 rfl rfl
theorem q_75 : Cond.initialized RX6 ∈ TB := TB_at 75 (by decide +kernel) rfl
theorem q_528 : Cond.instanceMethod yX6_cheeseAt ∈ TB := TB_at 528 (by decide +kernel) rfl
theorem q_16 : Cond.selects RX6 yX6_cheeseAt yX6_cheeseAt ∈ TB := TB_at 16 (by decide +kernel) rfl
theorem vw_X6_101 : VW RX6 101 RX6 yX6_cheeseAt cX6_cheeseAt 2 (Option.some (Jvm.ClassFile.FieldType.object "ThreadsAndSplits$Cheese")) 1 := ⟨q_526, q_528, q_16, q_75, q_529, by decide +kernel⟩
theorem q_530 : Cond.methodLink RX6 105 yX1_put ∈ TB := TB_at 530 (by decide +kernel) rfl
set_option maxRecDepth 100000 in
theorem q_533 : Cond.code yX1_put cX1_put 3 none ∈ TB := TB_at 533 rfl rfl
theorem q_531 : Cond.instanceMethod yX1_put ∈ TB := TB_at 531 (by decide +kernel) rfl
theorem q_532 : Cond.selects RX1 yX1_put yX1_put ∈ TB := TB_at 532 (by decide +kernel) rfl
theorem vw_X6_105 : VW RX6 105 RX1 yX1_put cX1_put 3 none 2 := ⟨q_530, q_531, q_532, q_79, q_533, by decide +kernel⟩
theorem q_538 : Cond.methodLink RX6 109 yX1_tell ∈ TB := TB_at 538 (by decide +kernel) rfl
theorem vw_X6_109 : VW RX6 109 RX1 yX1_tell cX1_tell 2 (Option.some Jvm.ClassFile.FieldType.int) 1 := ⟨q_538, q_539, q_540, q_79, q_541, by decide +kernel⟩
theorem q_546 : Cond.methodLink RX6 113 yX1_hasPart ∈ TB := TB_at 546 (by decide +kernel) rfl
theorem vw_X6_113 : SW RX6 113 yX1_hasPart cX1_hasPart 1 (Option.some Jvm.ClassFile.FieldType.boolean) 1 := ⟨q_546, q_524, q_79, q_525, by decide +kernel⟩
theorem q_557 : Cond.methodLink RX6 126 yX4_size ∈ TB := TB_at 557 (by decide +kernel) rfl
set_option maxRecDepth 100000 in
theorem q_560 : Cond.code yX4_size cX4_size 1 (Option.some Jvm.ClassFile.FieldType.int) ∈ TB := TB_at 560 rfl rfl
theorem q_558 : Cond.instanceMethod yX4_size ∈ TB := TB_at 558 (by decide +kernel) rfl
theorem q_559 : Cond.selects RX4 yX4_size yX4_size ∈ TB := TB_at 559 (by decide +kernel) rfl
theorem vw_X6_126 : VW RX6 126 RX4 yX4_size cX4_size 1 (Option.some Jvm.ClassFile.FieldType.int) 0 := ⟨q_557, q_558, q_559, q_76, q_560, by decide +kernel⟩
theorem q_565 : Cond.methodLink RX6 129 yX6_isByte ∈ TB := TB_at 565 (by decide +kernel) rfl
set_option maxRecDepth 100000 in
theorem q_567 : Cond.code yX6_isByte cX6_isByte 1 (Option.some Jvm.ClassFile.FieldType.boolean) ∈ TB := TB_at 567 rfl rfl
theorem q_566 : Cond.static yX6_isByte ∈ TB := TB_at 566 (by decide +kernel) rfl
theorem vw_X6_129 : SW RX6 129 yX6_isByte cX6_isByte 1 (Option.some Jvm.ClassFile.FieldType.boolean) 1 := ⟨q_565, q_566, q_75, q_567, by decide +kernel⟩
theorem q_568 : Cond.methodLink RX6 132 yX4_hasRoom ∈ TB := TB_at 568 (by decide +kernel) rfl
set_option maxRecDepth 100000 in
theorem q_571 : Cond.code yX4_hasRoom cX4_hasRoom 2 (Option.some Jvm.ClassFile.FieldType.boolean) ∈ TB := TB_at 571 rfl rfl
theorem q_569 : Cond.instanceMethod yX4_hasRoom ∈ TB := TB_at 569 (by decide +kernel) rfl
theorem q_570 : Cond.selects RX4 yX4_hasRoom yX4_hasRoom ∈ TB := TB_at 570 (by decide +kernel) rfl
theorem vw_X6_132 : VW RX6 132 RX4 yX4_hasRoom cX4_hasRoom 2 (Option.some Jvm.ClassFile.FieldType.boolean) 1 := ⟨q_568, q_569, q_570, q_76, q_571, by decide +kernel⟩
theorem q_576 : Cond.methodLink RX6 135 yX4_faultPlace ∈ TB := TB_at 576 (by decide +kernel) rfl
set_option maxRecDepth 100000 in
theorem q_579 : Cond.code yX4_faultPlace cX4_faultPlace 1 (Option.some Jvm.ClassFile.FieldType.int) ∈ TB := TB_at 579 rfl rfl
theorem q_577 : Cond.instanceMethod yX4_faultPlace ∈ TB := TB_at 577 (by decide +kernel) rfl
theorem q_578 : Cond.selects RX4 yX4_faultPlace yX4_faultPlace ∈ TB := TB_at 578 (by decide +kernel) rfl
theorem vw_X6_135 : VW RX6 135 RX4 yX4_faultPlace cX4_faultPlace 1 (Option.some Jvm.ClassFile.FieldType.int) 0 := ⟨q_576, q_577, q_578, q_76, q_579, by decide +kernel⟩
theorem q_588 : Cond.methodLink RX6 138 yX0_fits ∈ TB := TB_at 588 (by decide +kernel) rfl
set_option maxRecDepth 100000 in
theorem q_590 : Cond.code yX0_fits cX0_fits 3 (Option.some Jvm.ClassFile.FieldType.boolean) ∈ TB := TB_at 590 rfl rfl
theorem q_589 : Cond.static yX0_fits ∈ TB := TB_at 589 (by decide +kernel) rfl
theorem vw_X6_138 : SW RX6 138 yX0_fits cX0_fits 3 (Option.some Jvm.ClassFile.FieldType.boolean) 3 := ⟨q_588, q_589, q_78, q_590, by decide +kernel⟩
theorem q_591 : Cond.methodLink RX6 141 yX6_actAt ∈ TB := TB_at 591 (by decide +kernel) rfl
set_option maxRecDepth 100000 in
theorem q_594 : Cond.code yX6_actAt cX6_actAt 2 (Option.some (Jvm.ClassFile.FieldType.object "ThreadsAndSplits$Act")) ∈ TB := TB_at 594 rfl rfl
theorem q_593 : Cond.instanceMethod yX6_actAt ∈ TB := TB_at 593 (by decide +kernel) rfl
theorem q_17 : Cond.selects RX6 yX6_actAt yX6_actAt ∈ TB := TB_at 17 (by decide +kernel) rfl
theorem vw_X6_141 : VW RX6 141 RX6 yX6_actAt cX6_actAt 2 (Option.some (Jvm.ClassFile.FieldType.object "ThreadsAndSplits$Act")) 1 := ⟨q_591, q_593, q_17, q_75, q_594, by decide +kernel⟩
theorem q_595 : Cond.methodLink RX6 145 yX0_become ∈ TB := TB_at 595 (by decide +kernel) rfl
set_option maxRecDepth 100000 in
theorem q_598 : Cond.code yX0_become cX0_become 4 none ∈ TB := TB_at 598 rfl rfl
theorem q_596 : Cond.instanceMethod yX0_become ∈ TB := TB_at 596 (by decide +kernel) rfl
theorem q_597 : Cond.selects RX0 yX0_become yX0_become ∈ TB := TB_at 597 (by decide +kernel) rfl
theorem vw_X6_145 : VW RX6 145 RX0 yX0_become cX0_become 4 none 3 := ⟨q_595, q_596, q_597, q_78, q_598, by decide +kernel⟩
theorem q_607 : Cond.methodLink RX6 158 yX0_minutesLong ∈ TB := TB_at 607 (by decide +kernel) rfl
theorem vw_X6_158 : VW RX6 158 RX0 yX0_minutesLong cX0_minutesLong 1 (Option.some Jvm.ClassFile.FieldType.int) 0 := ⟨q_607, q_608, q_609, q_78, q_610, by decide +kernel⟩
theorem q_612 : Cond.methodLink RX6 161 yX0_isStirred ∈ TB := TB_at 612 (by decide +kernel) rfl
theorem vw_X6_161 : VW RX6 161 RX0 yX0_isStirred cX0_isStirred 1 (Option.some Jvm.ClassFile.FieldType.boolean) 0 := ⟨q_612, q_613, q_614, q_78, q_615, by decide +kernel⟩
theorem q_620 : Cond.methodLink RX6 165 yX6_hasActs ∈ TB := TB_at 620 (by decide +kernel) rfl
set_option maxRecDepth 100000 in
theorem q_623 : Cond.code yX6_hasActs cX6_hasActs 2 (Option.some Jvm.ClassFile.FieldType.boolean) ∈ TB := TB_at 623 rfl rfl
theorem q_622 : Cond.instanceMethod yX6_hasActs ∈ TB := TB_at 622 (by decide +kernel) rfl
theorem q_18 : Cond.selects RX6 yX6_hasActs yX6_hasActs ∈ TB := TB_at 18 (by decide +kernel) rfl
theorem vw_X6_165 : VW RX6 165 RX6 yX6_hasActs cX6_hasActs 2 (Option.some Jvm.ClassFile.FieldType.boolean) 1 := ⟨q_620, q_622, q_18, q_75, q_623, by decide +kernel⟩
theorem q_624 : Cond.methodLink RX6 168 yX3_canTell ∈ TB := TB_at 624 (by decide +kernel) rfl
set_option maxRecDepth 100000 in
theorem q_626 : Cond.code yX3_canTell cX3_canTell 1 (Option.some Jvm.ClassFile.FieldType.boolean) ∈ TB := TB_at 626 rfl rfl
theorem q_625 : Cond.static yX3_canTell ∈ TB := TB_at 625 (by decide +kernel) rfl
theorem vw_X6_168 : SW RX6 168 yX3_canTell cX3_canTell 1 (Option.some Jvm.ClassFile.FieldType.boolean) 1 := ⟨q_624, q_625, q_77, q_626, by decide +kernel⟩
theorem q_627 : Cond.methodLink RX6 171 yX6_cookActs ∈ TB := TB_at 627 (by decide +kernel) rfl
set_option maxRecDepth 100000 in
theorem q_630 : Cond.code yX6_cookActs cX6_cookActs 2 none ∈ TB := TB_at 630 rfl rfl
theorem q_629 : Cond.instanceMethod yX6_cookActs ∈ TB := TB_at 629 (by decide +kernel) rfl
theorem q_19 : Cond.selects RX6 yX6_cookActs yX6_cookActs ∈ TB := TB_at 19 (by decide +kernel) rfl
theorem vw_X6_171 : VW RX6 171 RX6 yX6_cookActs cX6_cookActs 2 none 1 := ⟨q_627, q_629, q_19, q_75, q_630, by decide +kernel⟩
theorem q_706 : Cond.methodLink RX6 174 yX3_tell ∈ TB := TB_at 706 (by decide +kernel) rfl
set_option maxRecDepth 100000 in
theorem q_709 : Cond.code yX3_tell cX3_tell 2 (Option.some Jvm.ClassFile.FieldType.int) ∈ TB := TB_at 709 rfl rfl
theorem q_707 : Cond.instanceMethod yX3_tell ∈ TB := TB_at 707 (by decide +kernel) rfl
theorem q_708 : Cond.selects RX3 yX3_tell yX3_tell ∈ TB := TB_at 708 (by decide +kernel) rfl
theorem vw_X6_174 : VW RX6 174 RX3 yX3_tell cX3_tell 2 (Option.some Jvm.ClassFile.FieldType.int) 1 := ⟨q_706, q_707, q_708, q_77, q_709, by decide +kernel⟩
theorem q_730 : Cond.methodLink RX6 175 yX6_isBit ∈ TB := TB_at 730 (by decide +kernel) rfl
set_option maxRecDepth 100000 in
theorem q_732 : Cond.code yX6_isBit cX6_isBit 1 (Option.some Jvm.ClassFile.FieldType.boolean) ∈ TB := TB_at 732 rfl rfl
theorem q_731 : Cond.static yX6_isBit ∈ TB := TB_at 731 (by decide +kernel) rfl
theorem vw_X6_175 : SW RX6 175 yX6_isBit cX6_isBit 1 (Option.some Jvm.ClassFile.FieldType.boolean) 1 := ⟨q_730, q_731, q_75, q_732, by decide +kernel⟩
theorem q_733 : Cond.methodLink RX6 178 yX6_firstSplit ∈ TB := TB_at 733 (by decide +kernel) rfl
set_option maxRecDepth 100000 in
theorem q_736 : Cond.code yX6_firstSplit cX6_firstSplit 2 (Option.some Jvm.ClassFile.FieldType.int) ∈ TB := TB_at 736 rfl rfl
theorem q_735 : Cond.instanceMethod yX6_firstSplit ∈ TB := TB_at 735 (by decide +kernel) rfl
theorem q_28 : Cond.selects RX6 yX6_firstSplit yX6_firstSplit ∈ TB := TB_at 28 (by decide +kernel) rfl
theorem vw_X6_178 : VW RX6 178 RX6 yX6_firstSplit cX6_firstSplit 2 (Option.some Jvm.ClassFile.FieldType.int) 0 := ⟨q_733, q_735, q_28, q_75, q_736, by decide +kernel⟩
theorem q_738 : Cond.methodLink RX6 181 yX6_greatestLeak ∈ TB := TB_at 738 (by decide +kernel) rfl
set_option maxRecDepth 100000 in
theorem q_741 : Cond.code yX6_greatestLeak cX6_greatestLeak 5 (Option.some Jvm.ClassFile.FieldType.int) ∈ TB := TB_at 741 rfl rfl
theorem q_740 : Cond.instanceMethod yX6_greatestLeak ∈ TB := TB_at 740 (by decide +kernel) rfl
theorem q_29 : Cond.selects RX6 yX6_greatestLeak yX6_greatestLeak ∈ TB := TB_at 29 (by decide +kernel) rfl
theorem vw_X6_181 : VW RX6 181 RX6 yX6_greatestLeak cX6_greatestLeak 5 (Option.some Jvm.ClassFile.FieldType.int) 0 := ⟨q_738, q_740, q_29, q_75, q_741, by decide +kernel⟩
theorem q_737 : Cond.methodLink RX6 184 yX3_holdsNow ∈ TB := TB_at 737 (by decide +kernel) rfl
theorem vw_X6_184 : VW RX6 184 RX3 yX3_holdsNow cX3_holdsNow 1 (Option.some Jvm.ClassFile.FieldType.boolean) 0 := ⟨q_737, q_723, q_724, q_77, q_725, by decide +kernel⟩
theorem q_746 : Cond.methodLink RX6 187 yX3_passMinute ∈ TB := TB_at 746 (by decide +kernel) rfl
theorem vw_X6_187 : VW RX6 187 RX3 yX3_passMinute cX3_passMinute 4 none 1 := ⟨q_746, q_669, q_670, q_77, q_671, by decide +kernel⟩
theorem q_751 : Cond.methodLink RX6 191 yX6_holdsWith ∈ TB := TB_at 751 (by decide +kernel) rfl
set_option maxRecDepth 100000 in
theorem q_754 : Cond.code yX6_holdsWith cX6_holdsWith 4 (Option.some Jvm.ClassFile.FieldType.boolean) ∈ TB := TB_at 754 rfl rfl
theorem q_753 : Cond.instanceMethod yX6_holdsWith ∈ TB := TB_at 753 (by decide +kernel) rfl
theorem q_30 : Cond.selects RX6 yX6_holdsWith yX6_holdsWith ∈ TB := TB_at 30 (by decide +kernel) rfl
theorem vw_X6_191 : VW RX6 191 RX6 yX6_holdsWith cX6_holdsWith 4 (Option.some Jvm.ClassFile.FieldType.boolean) 3 := ⟨q_751, q_753, q_30, q_75, q_754, by decide +kernel⟩
theorem q_774 : Cond.methodLink RX6 205 yX6_lowestTerm ∈ TB := TB_at 774 (by decide +kernel) rfl
set_option maxRecDepth 100000 in
theorem q_776 : Cond.code yX6_lowestTerm cX6_lowestTerm 5 (Option.some Jvm.ClassFile.FieldType.int) ∈ TB := TB_at 776 rfl rfl
theorem q_775 : Cond.static yX6_lowestTerm ∈ TB := TB_at 775 (by decide +kernel) rfl
theorem vw_X6_205 : SW RX6 205 yX6_lowestTerm cX6_lowestTerm 5 (Option.some Jvm.ClassFile.FieldType.int) 3 := ⟨q_774, q_775, q_75, q_776, by decide +kernel⟩
theorem q_781 : Cond.methodLink RX6 209 yX3_becomeLike ∈ TB := TB_at 781 (by decide +kernel) rfl
set_option maxRecDepth 100000 in
theorem q_784 : Cond.code yX3_becomeLike cX3_becomeLike 2 none ∈ TB := TB_at 784 rfl rfl
theorem q_782 : Cond.instanceMethod yX3_becomeLike ∈ TB := TB_at 782 (by decide +kernel) rfl
theorem q_783 : Cond.selects RX3 yX3_becomeLike yX3_becomeLike ∈ TB := TB_at 783 (by decide +kernel) rfl
theorem vw_X6_209 : VW RX6 209 RX3 yX3_becomeLike cX3_becomeLike 2 none 1 := ⟨q_781, q_782, q_783, q_77, q_784, by decide +kernel⟩
theorem q_647 : Cond.methodLink RX6 213 yX3_undergo ∈ TB := TB_at 647 (by decide +kernel) rfl
set_option maxRecDepth 100000 in
theorem q_650 : Cond.code yX3_undergo cX3_undergo 5 none ∈ TB := TB_at 650 rfl rfl
theorem q_648 : Cond.instanceMethod yX3_undergo ∈ TB := TB_at 648 (by decide +kernel) rfl
theorem q_649 : Cond.selects RX3 yX3_undergo yX3_undergo ∈ TB := TB_at 649 (by decide +kernel) rfl
theorem vw_X6_213 : VW RX6 213 RX3 yX3_undergo cX3_undergo 5 none 2 := ⟨q_647, q_648, q_649, q_77, q_650, by decide +kernel⟩
theorem q_631 : Cond.methodLink RX6 220 yX6_beginPot ∈ TB := TB_at 631 (by decide +kernel) rfl
set_option maxRecDepth 100000 in
theorem q_634 : Cond.code yX6_beginPot cX6_beginPot 1 none ∈ TB := TB_at 634 rfl rfl
theorem q_633 : Cond.instanceMethod yX6_beginPot ∈ TB := TB_at 633 (by decide +kernel) rfl
theorem q_20 : Cond.selects RX6 yX6_beginPot yX6_beginPot ∈ TB := TB_at 20 (by decide +kernel) rfl
theorem vw_X6_220 : VW RX6 220 RX6 yX6_beginPot cX6_beginPot 1 none 0 := ⟨q_631, q_633, q_20, q_75, q_634, by decide +kernel⟩
theorem q_643 : Cond.methodLink RX6 223 yX6_runActs ∈ TB := TB_at 643 (by decide +kernel) rfl
set_option maxRecDepth 100000 in
theorem q_646 : Cond.code yX6_runActs cX6_runActs 5 none ∈ TB := TB_at 646 rfl rfl
theorem q_645 : Cond.instanceMethod yX6_runActs ∈ TB := TB_at 645 (by decide +kernel) rfl
theorem q_22 : Cond.selects RX6 yX6_runActs yX6_runActs ∈ TB := TB_at 22 (by decide +kernel) rfl
theorem vw_X6_223 : VW RX6 223 RX6 yX6_runActs cX6_runActs 5 none 2 := ⟨q_643, q_645, q_22, q_75, q_646, by decide +kernel⟩
theorem q_797 : Cond.methodLink RX6 226 yX3_beat ∈ TB := TB_at 797 (by decide +kernel) rfl
theorem vw_X6_226 : VW RX6 226 RX3 yX3_beat cX3_beat 3 none 1 := ⟨q_797, q_663, q_664, q_77, q_665, by decide +kernel⟩
theorem q_802 : Cond.methodLink RX6 229 yX3_throwIn ∈ TB := TB_at 802 (by decide +kernel) rfl
theorem vw_X6_229 : VW RX6 229 RX3 yX3_throwIn cX3_throwIn 3 none 2 := ⟨q_802, q_658, q_659, q_77, q_660, by decide +kernel⟩
theorem q_807 : Cond.methodLink RX6 233 yX3_threadsLong ∈ TB := TB_at 807 (by decide +kernel) rfl
theorem vw_X6_233 : VW RX6 233 RX3 yX3_threadsLong cX3_threadsLong 1 (Option.some Jvm.ClassFile.FieldType.int) 0 := ⟨q_807, q_715, q_716, q_77, q_717, by decide +kernel⟩
theorem q_816 : Cond.methodLink RX6 242 yX6_isEvery ∈ TB := TB_at 816 (by decide +kernel) rfl
set_option maxRecDepth 100000 in
theorem q_818 : Cond.code yX6_isEvery cX6_isEvery 1 (Option.some Jvm.ClassFile.FieldType.boolean) ∈ TB := TB_at 818 rfl rfl
theorem q_817 : Cond.static yX6_isEvery ∈ TB := TB_at 817 (by decide +kernel) rfl
theorem vw_X6_242 : SW RX6 242 yX6_isEvery cX6_isEvery 1 (Option.some Jvm.ClassFile.FieldType.boolean) 1 := ⟨q_816, q_817, q_75, q_818, by decide +kernel⟩
theorem q_819 : Cond.methodLink RX6 245 yX6_sitAtTable ∈ TB := TB_at 819 (by decide +kernel) rfl
set_option maxRecDepth 100000 in
theorem q_821 : Cond.code yX6_sitAtTable cX6_sitAtTable 7 (Option.some Jvm.ClassFile.FieldType.int) ∈ TB := TB_at 821 rfl rfl
theorem q_820 : Cond.static yX6_sitAtTable ∈ TB := TB_at 820 (by decide +kernel) rfl
theorem vw_X6_245 : SW RX6 245 yX6_sitAtTable cX6_sitAtTable 7 (Option.some Jvm.ClassFile.FieldType.int) 3 := ⟨q_819, q_820, q_75, q_821, by decide +kernel⟩
theorem q_822 : Cond.methodLink RX6 252 yX3_thickness ∈ TB := TB_at 822 (by decide +kernel) rfl
theorem vw_X6_252 : VW RX6 252 RX3 yX3_thickness cX3_thickness 1 (Option.some Jvm.ClassFile.FieldType.int) 0 := ⟨q_822, q_711, q_712, q_77, q_713, by decide +kernel⟩
theorem q_835 : Cond.methodLink RX6 258 yX6_sheetAt ∈ TB := TB_at 835 (by decide +kernel) rfl
set_option maxRecDepth 100000 in
theorem q_838 : Cond.code yX6_sheetAt cX6_sheetAt 2 (Option.some (Jvm.ClassFile.FieldType.object "ThreadsAndSplits$Sheet")) ∈ TB := TB_at 838 rfl rfl
theorem q_837 : Cond.instanceMethod yX6_sheetAt ∈ TB := TB_at 837 (by decide +kernel) rfl
theorem q_31 : Cond.selects RX6 yX6_sheetAt yX6_sheetAt ∈ TB := TB_at 31 (by decide +kernel) rfl
theorem vw_X6_258 : VW RX6 258 RX6 yX6_sheetAt cX6_sheetAt 2 (Option.some (Jvm.ClassFile.FieldType.object "ThreadsAndSplits$Sheet")) 1 := ⟨q_835, q_837, q_31, q_75, q_838, by decide +kernel⟩
theorem q_839 : Cond.methodLink RX6 262 yX6_refusedAsTest ∈ TB := TB_at 839 (by decide +kernel) rfl
set_option maxRecDepth 100000 in
theorem q_842 : Cond.code yX6_refusedAsTest cX6_refusedAsTest 2 (Option.some Jvm.ClassFile.FieldType.int) ∈ TB := TB_at 842 rfl rfl
theorem q_841 : Cond.instanceMethod yX6_refusedAsTest ∈ TB := TB_at 841 (by decide +kernel) rfl
theorem q_32 : Cond.selects RX6 yX6_refusedAsTest yX6_refusedAsTest ∈ TB := TB_at 32 (by decide +kernel) rfl
theorem vw_X6_262 : VW RX6 262 RX6 yX6_refusedAsTest cX6_refusedAsTest 2 (Option.some Jvm.ClassFile.FieldType.int) 1 := ⟨q_839, q_841, q_32, q_75, q_842, by decide +kernel⟩
theorem q_847 : Cond.methodLink RX6 266 yX5_tell ∈ TB := TB_at 847 (by decide +kernel) rfl
set_option maxRecDepth 100000 in
theorem q_850 : Cond.code yX5_tell cX5_tell 2 (Option.some Jvm.ClassFile.FieldType.int) ∈ TB := TB_at 850 rfl rfl
theorem q_848 : Cond.instanceMethod yX5_tell ∈ TB := TB_at 848 (by decide +kernel) rfl
theorem q_849 : Cond.selects RX5 yX5_tell yX5_tell ∈ TB := TB_at 849 (by decide +kernel) rfl
theorem vw_X6_266 : VW RX6 266 RX5 yX5_tell cX5_tell 2 (Option.some Jvm.ClassFile.FieldType.int) 1 := ⟨q_847, q_848, q_849, q_80, q_850, by decide +kernel⟩
theorem q_855 : Cond.methodLink RX6 267 yX3_sortNow ∈ TB := TB_at 855 (by decide +kernel) rfl
theorem vw_X6_267 : VW RX6 267 RX3 yX3_sortNow cX3_sortNow 1 (Option.some Jvm.ClassFile.FieldType.int) 0 := ⟨q_855, q_719, q_720, q_77, q_721, by decide +kernel⟩
theorem q_860 : Cond.methodLink RX6 270 yX5_become ∈ TB := TB_at 860 (by decide +kernel) rfl
set_option maxRecDepth 100000 in
theorem q_863 : Cond.code yX5_become cX5_become 4 none ∈ TB := TB_at 863 rfl rfl
theorem q_861 : Cond.instanceMethod yX5_become ∈ TB := TB_at 861 (by decide +kernel) rfl
theorem q_862 : Cond.selects RX5 yX5_become yX5_become ∈ TB := TB_at 862 (by decide +kernel) rfl
theorem vw_X6_270 : VW RX6 270 RX5 yX5_become cX5_become 4 none 2 := ⟨q_860, q_861, q_862, q_80, q_863, by decide +kernel⟩
theorem q_866 : Cond.methodLink RX6 272 yX5_put ∈ TB := TB_at 866 (by decide +kernel) rfl
set_option maxRecDepth 100000 in
theorem q_869 : Cond.code yX5_put cX5_put 3 none ∈ TB := TB_at 869 rfl rfl
theorem q_867 : Cond.instanceMethod yX5_put ∈ TB := TB_at 867 (by decide +kernel) rfl
theorem q_868 : Cond.selects RX5 yX5_put yX5_put ∈ TB := TB_at 868 (by decide +kernel) rfl
theorem vw_X6_272 : VW RX6 272 RX5 yX5_put cX5_put 3 none 2 := ⟨q_866, q_867, q_868, q_80, q_869, by decide +kernel⟩
theorem q_874 : Cond.methodLink RX6 273 yX6_oilIsAsTold ∈ TB := TB_at 874 (by decide +kernel) rfl
set_option maxRecDepth 100000 in
theorem q_877 : Cond.code yX6_oilIsAsTold cX6_oilIsAsTold 4 (Option.some Jvm.ClassFile.FieldType.boolean) ∈ TB := TB_at 877 rfl rfl
theorem q_876 : Cond.instanceMethod yX6_oilIsAsTold ∈ TB := TB_at 876 (by decide +kernel) rfl
theorem q_33 : Cond.selects RX6 yX6_oilIsAsTold yX6_oilIsAsTold ∈ TB := TB_at 33 (by decide +kernel) rfl
theorem vw_X6_273 : VW RX6 273 RX6 yX6_oilIsAsTold cX6_oilIsAsTold 4 (Option.some Jvm.ClassFile.FieldType.boolean) 2 := ⟨q_874, q_876, q_33, q_75, q_877, by decide +kernel⟩
theorem q_886 : Cond.methodLink RX6 277 yX6_isSeed ∈ TB := TB_at 886 (by decide +kernel) rfl
set_option maxRecDepth 100000 in
theorem q_888 : Cond.code yX6_isSeed cX6_isSeed 1 (Option.some Jvm.ClassFile.FieldType.boolean) ∈ TB := TB_at 888 rfl rfl
theorem q_887 : Cond.static yX6_isSeed ∈ TB := TB_at 887 (by decide +kernel) rfl
theorem vw_X6_277 : SW RX6 277 yX6_isSeed cX6_isSeed 1 (Option.some Jvm.ClassFile.FieldType.boolean) 1 := ⟨q_886, q_887, q_75, q_888, by decide +kernel⟩
theorem q_890 : Cond.methodLink RX6 280 yX6_cookDrawn ∈ TB := TB_at 890 (by decide +kernel) rfl
set_option maxRecDepth 100000 in
theorem q_893 : Cond.code yX6_cookDrawn cX6_cookDrawn 3 none ∈ TB := TB_at 893 rfl rfl
theorem q_892 : Cond.instanceMethod yX6_cookDrawn ∈ TB := TB_at 892 (by decide +kernel) rfl
theorem q_34 : Cond.selects RX6 yX6_cookDrawn yX6_cookDrawn ∈ TB := TB_at 34 (by decide +kernel) rfl
theorem vw_X6_280 : VW RX6 280 RX6 yX6_cookDrawn cX6_cookDrawn 3 none 2 := ⟨q_890, q_892, q_34, q_75, q_893, by decide +kernel⟩
theorem q_906 : Cond.methodLink RX6 284 yX6_copyCheeses ∈ TB := TB_at 906 (by decide +kernel) rfl
set_option maxRecDepth 100000 in
theorem q_908 : Cond.code yX6_copyCheeses cX6_copyCheeses 4 none ∈ TB := TB_at 908 rfl rfl
theorem q_907 : Cond.static yX6_copyCheeses ∈ TB := TB_at 907 (by decide +kernel) rfl
theorem vw_X6_284 : SW RX6 284 yX6_copyCheeses cX6_copyCheeses 4 none 3 := ⟨q_906, q_907, q_75, q_908, by decide +kernel⟩
theorem q_843 : Cond.methodLink RX6 297 yX5_isMissing ∈ TB := TB_at 843 (by decide +kernel) rfl
set_option maxRecDepth 100000 in
theorem q_846 : Cond.code yX5_isMissing cX5_isMissing 1 (Option.some Jvm.ClassFile.FieldType.boolean) ∈ TB := TB_at 846 rfl rfl
theorem q_844 : Cond.instanceMethod yX5_isMissing ∈ TB := TB_at 844 (by decide +kernel) rfl
theorem q_845 : Cond.selects RX5 yX5_isMissing yX5_isMissing ∈ TB := TB_at 845 (by decide +kernel) rfl
theorem vw_X6_297 : VW RX6 297 RX5 yX5_isMissing cX5_isMissing 1 (Option.some Jvm.ClassFile.FieldType.boolean) 0 := ⟨q_843, q_844, q_845, q_80, q_846, by decide +kernel⟩
theorem q_927 : Cond.methodLink RX6 300 yX5_hasRow ∈ TB := TB_at 927 (by decide +kernel) rfl
theorem vw_X6_300 : VW RX6 300 RX5 yX5_hasRow cX5_hasRow 3 (Option.some Jvm.ClassFile.FieldType.boolean) 2 := ⟨q_927, q_852, q_853, q_80, q_854, by decide +kernel⟩
theorem q_932 : Cond.methodLink RX6 306 yX5_takeRow ∈ TB := TB_at 932 (by decide +kernel) rfl
set_option maxRecDepth 100000 in
theorem q_935 : Cond.code yX5_takeRow cX5_takeRow 5 none ∈ TB := TB_at 935 rfl rfl
theorem q_933 : Cond.instanceMethod yX5_takeRow ∈ TB := TB_at 933 (by decide +kernel) rfl
theorem q_934 : Cond.selects RX5 yX5_takeRow yX5_takeRow ∈ TB := TB_at 934 (by decide +kernel) rfl
theorem vw_X6_306 : VW RX6 306 RX5 yX5_takeRow cX5_takeRow 5 none 4 := ⟨q_932, q_933, q_934, q_80, q_935, by decide +kernel⟩
theorem q_941 : Cond.methodLink RX6 310 yX6_act ∈ TB := TB_at 941 (by decide +kernel) rfl
set_option maxRecDepth 100000 in
theorem q_587 : Cond.code yX6_act cX6_act 5 (Option.some Jvm.ClassFile.FieldType.int) ∈ TB := TB_at 587 rfl rfl
theorem q_585 : Cond.instanceMethod yX6_act ∈ TB := TB_at 585 (by decide +kernel) rfl
theorem q_586 : Cond.selects RX6 yX6_act yX6_act ∈ TB := TB_at 586 (by decide +kernel) rfl
theorem vw_X6_310 : VW RX6 310 RX6 yX6_act cX6_act 5 (Option.some Jvm.ClassFile.FieldType.int) 3 := ⟨q_941, q_585, q_586, q_75, q_587, by decide +kernel⟩
theorem q_946 : Cond.methodLink RX6 313 yX0_isOne ∈ TB := TB_at 946 (by decide +kernel) rfl
set_option maxRecDepth 100000 in
theorem q_949 : Cond.code yX0_isOne cX0_isOne 2 (Option.some Jvm.ClassFile.FieldType.boolean) ∈ TB := TB_at 949 rfl rfl
theorem q_947 : Cond.instanceMethod yX0_isOne ∈ TB := TB_at 947 (by decide +kernel) rfl
theorem q_948 : Cond.selects RX0 yX0_isOne yX0_isOne ∈ TB := TB_at 948 (by decide +kernel) rfl
theorem vw_X6_313 : VW RX6 313 RX0 yX0_isOne cX0_isOne 2 (Option.some Jvm.ClassFile.FieldType.boolean) 1 := ⟨q_946, q_947, q_948, q_78, q_949, by decide +kernel⟩
theorem q_909 : Cond.methodLink RX6 316 yX1_becomeLike ∈ TB := TB_at 909 (by decide +kernel) rfl
set_option maxRecDepth 100000 in
theorem q_912 : Cond.code yX1_becomeLike cX1_becomeLike 2 none ∈ TB := TB_at 912 rfl rfl
theorem q_910 : Cond.instanceMethod yX1_becomeLike ∈ TB := TB_at 910 (by decide +kernel) rfl
theorem q_911 : Cond.selects RX1 yX1_becomeLike yX1_becomeLike ∈ TB := TB_at 911 (by decide +kernel) rfl
theorem vw_X6_316 : VW RX6 316 RX1 yX1_becomeLike cX1_becomeLike 2 none 1 := ⟨q_909, q_910, q_911, q_79, q_912, by decide +kernel⟩
theorem q_635 : Cond.methodLink RX6 319 yX6_lawAt ∈ TB := TB_at 635 (by decide +kernel) rfl
set_option maxRecDepth 100000 in
theorem q_638 : Cond.code yX6_lawAt cX6_lawAt 2 (Option.some (Jvm.ClassFile.FieldType.object "ThreadsAndSplits$Law")) ∈ TB := TB_at 638 rfl rfl
theorem q_637 : Cond.instanceMethod yX6_lawAt ∈ TB := TB_at 637 (by decide +kernel) rfl
theorem q_21 : Cond.selects RX6 yX6_lawAt yX6_lawAt ∈ TB := TB_at 21 (by decide +kernel) rfl
theorem vw_X6_319 : VW RX6 319 RX6 yX6_lawAt cX6_lawAt 2 (Option.some (Jvm.ClassFile.FieldType.object "ThreadsAndSplits$Law")) 1 := ⟨q_635, q_637, q_21, q_75, q_638, by decide +kernel⟩
theorem q_639 : Cond.methodLink RX6 323 yX3_begin ∈ TB := TB_at 639 (by decide +kernel) rfl
set_option maxRecDepth 100000 in
theorem q_642 : Cond.code yX3_begin cX3_begin 5 none ∈ TB := TB_at 642 rfl rfl
theorem q_640 : Cond.instanceMethod yX3_begin ∈ TB := TB_at 640 (by decide +kernel) rfl
theorem q_641 : Cond.selects RX3 yX3_begin yX3_begin ∈ TB := TB_at 641 (by decide +kernel) rfl
theorem vw_X6_323 : VW RX6 323 RX3 yX3_begin cX3_begin 5 none 4 := ⟨q_639, q_640, q_641, q_77, q_642, by decide +kernel⟩
theorem q_894 : Cond.methodLink RX6 327 yX3_flickerBy ∈ TB := TB_at 894 (by decide +kernel) rfl
set_option maxRecDepth 100000 in
theorem q_897 : Cond.code yX3_flickerBy cX3_flickerBy 2 none ∈ TB := TB_at 897 rfl rfl
theorem q_895 : Cond.instanceMethod yX3_flickerBy ∈ TB := TB_at 895 (by decide +kernel) rfl
theorem q_896 : Cond.selects RX3 yX3_flickerBy yX3_flickerBy ∈ TB := TB_at 896 (by decide +kernel) rfl
theorem vw_X6_327 : VW RX6 327 RX3 yX3_flickerBy cX3_flickerBy 2 none 1 := ⟨q_894, q_895, q_896, q_77, q_897, by decide +kernel⟩
theorem q_1080 : Cond.methodLink RX7 75 yX7_in ∈ TB := TB_at 1080 (by decide +kernel) rfl
set_option maxRecDepth 100000 in
theorem q_1082 : Cond.code yX7_in cX7_in 6 (Option.some Jvm.ClassFile.FieldType.boolean) ∈ TB := TB_at 1082 rfl rfl
theorem q_89 : Cond.initialized RX7 ∈ TB := TB_at 89 (by decide +kernel) rfl
theorem q_1081 : Cond.static yX7_in ∈ TB := TB_at 1081 (by decide +kernel) rfl
theorem vw_X7_75 : SW RX7 75 yX7_in cX7_in 6 (Option.some Jvm.ClassFile.FieldType.boolean) 3 := ⟨q_1080, q_1081, q_89, q_1082, by decide +kernel⟩
theorem q_1076 : Cond.methodLink RX7 81 yX7_mayBe ∈ TB := TB_at 1076 (by decide +kernel) rfl
set_option maxRecDepth 100000 in
theorem q_1078 : Cond.code yX7_mayBe cX7_mayBe 2 (Option.some Jvm.ClassFile.FieldType.boolean) ∈ TB := TB_at 1078 rfl rfl
theorem q_1077 : Cond.static yX7_mayBe ∈ TB := TB_at 1077 (by decide +kernel) rfl
theorem vw_X7_81 : SW RX7 81 yX7_mayBe cX7_mayBe 2 (Option.some Jvm.ClassFile.FieldType.boolean) 2 := ⟨q_1076, q_1077, q_89, q_1078, by decide +kernel⟩
theorem q_1087 : Cond.methodLink RX7 85 yX7_isCheese ∈ TB := TB_at 1087 (by decide +kernel) rfl
set_option maxRecDepth 100000 in
theorem q_1090 : Cond.code yX7_isCheese cX7_isCheese 2 (Option.some Jvm.ClassFile.FieldType.boolean) ∈ TB := TB_at 1090 rfl rfl
theorem q_1089 : Cond.instanceMethod yX7_isCheese ∈ TB := TB_at 1089 (by decide +kernel) rfl
theorem q_35 : Cond.selects RX7 yX7_isCheese yX7_isCheese ∈ TB := TB_at 35 (by decide +kernel) rfl
theorem vw_X7_85 : VW RX7 85 RX7 yX7_isCheese cX7_isCheese 2 (Option.some Jvm.ClassFile.FieldType.boolean) 1 := ⟨q_1087, q_1089, q_35, q_89, q_1090, by decide +kernel⟩
theorem q_1111 : Cond.methodLink RX7 108 yX7_isByte ∈ TB := TB_at 1111 (by decide +kernel) rfl
set_option maxRecDepth 100000 in
theorem q_1113 : Cond.code yX7_isByte cX7_isByte 1 (Option.some Jvm.ClassFile.FieldType.boolean) ∈ TB := TB_at 1113 rfl rfl
theorem q_1112 : Cond.static yX7_isByte ∈ TB := TB_at 1112 (by decide +kernel) rfl
theorem vw_X7_108 : SW RX7 108 yX7_isByte cX7_isByte 1 (Option.some Jvm.ClassFile.FieldType.boolean) 1 := ⟨q_1111, q_1112, q_89, q_1113, by decide +kernel⟩
theorem q_1123 : Cond.methodLink RX7 125 yX7_byteAt ∈ TB := TB_at 1123 (by decide +kernel) rfl
set_option maxRecDepth 100000 in
theorem q_1126 : Cond.code yX7_byteAt cX7_byteAt 2 (Option.some Jvm.ClassFile.FieldType.int) ∈ TB := TB_at 1126 rfl rfl
theorem q_1125 : Cond.instanceMethod yX7_byteAt ∈ TB := TB_at 1125 (by decide +kernel) rfl
theorem q_37 : Cond.selects RX7 yX7_byteAt yX7_byteAt ∈ TB := TB_at 37 (by decide +kernel) rfl
theorem vw_X7_125 : VW RX7 125 RX7 yX7_byteAt cX7_byteAt 2 (Option.some Jvm.ClassFile.FieldType.int) 1 := ⟨q_1123, q_1125, q_37, q_89, q_1126, by decide +kernel⟩
theorem q_1127 : Cond.methodLink RX7 132 yX7_isLetter ∈ TB := TB_at 1127 (by decide +kernel) rfl
set_option maxRecDepth 100000 in
theorem q_1129 : Cond.code yX7_isLetter cX7_isLetter 1 (Option.some Jvm.ClassFile.FieldType.boolean) ∈ TB := TB_at 1129 rfl rfl
theorem q_1128 : Cond.static yX7_isLetter ∈ TB := TB_at 1128 (by decide +kernel) rfl
theorem vw_X7_132 : SW RX7 132 yX7_isLetter cX7_isLetter 1 (Option.some Jvm.ClassFile.FieldType.boolean) 1 := ⟨q_1127, q_1128, q_89, q_1129, by decide +kernel⟩
theorem q_1132 : Cond.methodLink RX7 135 yX7_wordOf ∈ TB := TB_at 1132 (by decide +kernel) rfl
set_option maxRecDepth 100000 in
theorem q_1135 : Cond.code yX7_wordOf cX7_wordOf 5 (Option.some Jvm.ClassFile.FieldType.int) ∈ TB := TB_at 1135 rfl rfl
theorem q_1134 : Cond.instanceMethod yX7_wordOf ∈ TB := TB_at 1134 (by decide +kernel) rfl
theorem q_38 : Cond.selects RX7 yX7_wordOf yX7_wordOf ∈ TB := TB_at 38 (by decide +kernel) rfl
theorem vw_X7_135 : VW RX7 135 RX7 yX7_wordOf cX7_wordOf 5 (Option.some Jvm.ClassFile.FieldType.int) 0 := ⟨q_1132, q_1134, q_38, q_89, q_1135, by decide +kernel⟩
theorem q_1136 : Cond.methodLink RX7 142 yX7_isDigit ∈ TB := TB_at 1136 (by decide +kernel) rfl
set_option maxRecDepth 100000 in
theorem q_1138 : Cond.code yX7_isDigit cX7_isDigit 1 (Option.some Jvm.ClassFile.FieldType.boolean) ∈ TB := TB_at 1138 rfl rfl
theorem q_1137 : Cond.static yX7_isDigit ∈ TB := TB_at 1137 (by decide +kernel) rfl
theorem vw_X7_142 : SW RX7 142 yX7_isDigit cX7_isDigit 1 (Option.some Jvm.ClassFile.FieldType.boolean) 1 := ⟨q_1136, q_1137, q_89, q_1138, by decide +kernel⟩
theorem q_1141 : Cond.methodLink RX7 145 yX7_isSignByte ∈ TB := TB_at 1141 (by decide +kernel) rfl
set_option maxRecDepth 100000 in
theorem q_1143 : Cond.code yX7_isSignByte cX7_isSignByte 1 (Option.some Jvm.ClassFile.FieldType.boolean) ∈ TB := TB_at 1143 rfl rfl
theorem q_1142 : Cond.static yX7_isSignByte ∈ TB := TB_at 1142 (by decide +kernel) rfl
theorem vw_X7_145 : SW RX7 145 yX7_isSignByte cX7_isSignByte 1 (Option.some Jvm.ClassFile.FieldType.boolean) 1 := ⟨q_1141, q_1142, q_89, q_1143, by decide +kernel⟩
theorem q_1148 : Cond.methodLink RX7 161 yX7_wrong ∈ TB := TB_at 1148 (by decide +kernel) rfl
set_option maxRecDepth 100000 in
theorem q_1151 : Cond.code yX7_wrong cX7_wrong 1 none ∈ TB := TB_at 1151 rfl rfl
theorem q_1150 : Cond.instanceMethod yX7_wrong ∈ TB := TB_at 1150 (by decide +kernel) rfl
theorem q_40 : Cond.selects RX7 yX7_wrong yX7_wrong ∈ TB := TB_at 40 (by decide +kernel) rfl
theorem vw_X7_161 : VW RX7 161 RX7 yX7_wrong cX7_wrong 1 none 0 := ⟨q_1148, q_1150, q_40, q_89, q_1151, by decide +kernel⟩
theorem q_1119 : Cond.methodLink RX7 164 yX7_next ∈ TB := TB_at 1119 (by decide +kernel) rfl
set_option maxRecDepth 100000 in
theorem q_1122 : Cond.code yX7_next cX7_next 3 none ∈ TB := TB_at 1122 rfl rfl
theorem q_1121 : Cond.instanceMethod yX7_next ∈ TB := TB_at 1121 (by decide +kernel) rfl
theorem q_36 : Cond.selects RX7 yX7_next yX7_next ∈ TB := TB_at 36 (by decide +kernel) rfl
theorem vw_X7_164 : VW RX7 164 RX7 yX7_next cX7_next 3 none 0 := ⟨q_1119, q_1121, q_36, q_89, q_1122, by decide +kernel⟩
theorem q_1168 : Cond.methodLink RX7 167 yX7_adds ∈ TB := TB_at 1168 (by decide +kernel) rfl
set_option maxRecDepth 100000 in
theorem q_1171 : Cond.code yX7_adds cX7_adds 2 none ∈ TB := TB_at 1171 rfl rfl
theorem q_1170 : Cond.instanceMethod yX7_adds ∈ TB := TB_at 1170 (by decide +kernel) rfl
theorem q_45 : Cond.selects RX7 yX7_adds yX7_adds ∈ TB := TB_at 45 (by decide +kernel) rfl
theorem vw_X7_167 : VW RX7 167 RX7 yX7_adds cX7_adds 2 none 1 := ⟨q_1168, q_1170, q_45, q_89, q_1171, by decide +kernel⟩
theorem q_1184 : Cond.methodLink RX7 171 yX7_isSign ∈ TB := TB_at 1184 (by decide +kernel) rfl
set_option maxRecDepth 100000 in
theorem q_1187 : Cond.code yX7_isSign cX7_isSign 2 (Option.some Jvm.ClassFile.FieldType.boolean) ∈ TB := TB_at 1187 rfl rfl
theorem q_1186 : Cond.instanceMethod yX7_isSign ∈ TB := TB_at 1186 (by decide +kernel) rfl
theorem q_49 : Cond.selects RX7 yX7_isSign yX7_isSign ∈ TB := TB_at 49 (by decide +kernel) rfl
theorem vw_X7_171 : VW RX7 171 RX7 yX7_isSign cX7_isSign 2 (Option.some Jvm.ClassFile.FieldType.boolean) 1 := ⟨q_1184, q_1186, q_49, q_89, q_1187, by decide +kernel⟩
theorem q_1164 : Cond.methodLink RX7 174 yX7_opens ∈ TB := TB_at 1164 (by decide +kernel) rfl
set_option maxRecDepth 100000 in
theorem q_1167 : Cond.code yX7_opens cX7_opens 1 (Option.some Jvm.ClassFile.FieldType.boolean) ∈ TB := TB_at 1167 rfl rfl
theorem q_1166 : Cond.instanceMethod yX7_opens ∈ TB := TB_at 1166 (by decide +kernel) rfl
theorem q_44 : Cond.selects RX7 yX7_opens yX7_opens ∈ TB := TB_at 44 (by decide +kernel) rfl
theorem vw_X7_174 : VW RX7 174 RX7 yX7_opens cX7_opens 1 (Option.some Jvm.ClassFile.FieldType.boolean) 0 := ⟨q_1164, q_1166, q_44, q_89, q_1167, by decide +kernel⟩
theorem q_1180 : Cond.methodLink RX7 178 yX7_one ∈ TB := TB_at 1180 (by decide +kernel) rfl
set_option maxRecDepth 100000 in
theorem q_1183 : Cond.code yX7_one cX7_one 2 none ∈ TB := TB_at 1183 rfl rfl
theorem q_1182 : Cond.instanceMethod yX7_one ∈ TB := TB_at 1182 (by decide +kernel) rfl
theorem q_48 : Cond.selects RX7 yX7_one yX7_one ∈ TB := TB_at 48 (by decide +kernel) rfl
theorem vw_X7_178 : VW RX7 178 RX7 yX7_one cX7_one 2 none 0 := ⟨q_1180, q_1182, q_48, q_89, q_1183, by decide +kernel⟩
theorem q_1152 : Cond.methodLink RX7 181 yX7_either ∈ TB := TB_at 1152 (by decide +kernel) rfl
set_option maxRecDepth 100000 in
theorem q_1155 : Cond.code yX7_either cX7_either 1 none ∈ TB := TB_at 1155 rfl rfl
theorem q_1154 : Cond.instanceMethod yX7_either ∈ TB := TB_at 1154 (by decide +kernel) rfl
theorem q_41 : Cond.selects RX7 yX7_either yX7_either ∈ TB := TB_at 41 (by decide +kernel) rfl
theorem vw_X7_181 : VW RX7 181 RX7 yX7_either cX7_either 1 none 0 := ⟨q_1152, q_1154, q_41, q_89, q_1155, by decide +kernel⟩
theorem q_1176 : Cond.methodLink RX7 184 yX7_term ∈ TB := TB_at 1176 (by decide +kernel) rfl
set_option maxRecDepth 100000 in
theorem q_1179 : Cond.code yX7_term cX7_term 1 none ∈ TB := TB_at 1179 rfl rfl
theorem q_1178 : Cond.instanceMethod yX7_term ∈ TB := TB_at 1178 (by decide +kernel) rfl
theorem q_47 : Cond.selects RX7 yX7_term yX7_term ∈ TB := TB_at 47 (by decide +kernel) rfl
theorem vw_X7_184 : VW RX7 184 RX7 yX7_term cX7_term 1 none 0 := ⟨q_1176, q_1178, q_47, q_89, q_1179, by decide +kernel⟩
theorem q_1144 : Cond.methodLink RX7 187 yX7_isKey ∈ TB := TB_at 1144 (by decide +kernel) rfl
set_option maxRecDepth 100000 in
theorem q_1147 : Cond.code yX7_isKey cX7_isKey 2 (Option.some Jvm.ClassFile.FieldType.boolean) ∈ TB := TB_at 1147 rfl rfl
theorem q_1146 : Cond.instanceMethod yX7_isKey ∈ TB := TB_at 1146 (by decide +kernel) rfl
theorem q_39 : Cond.selects RX7 yX7_isKey yX7_isKey ∈ TB := TB_at 39 (by decide +kernel) rfl
theorem vw_X7_187 : VW RX7 187 RX7 yX7_isKey cX7_isKey 2 (Option.some Jvm.ClassFile.FieldType.boolean) 1 := ⟨q_1144, q_1146, q_39, q_89, q_1147, by decide +kernel⟩
theorem q_1160 : Cond.methodLink RX7 190 yX7_not ∈ TB := TB_at 1160 (by decide +kernel) rfl
set_option maxRecDepth 100000 in
theorem q_1163 : Cond.code yX7_not cX7_not 2 none ∈ TB := TB_at 1163 rfl rfl
theorem q_1162 : Cond.instanceMethod yX7_not ∈ TB := TB_at 1162 (by decide +kernel) rfl
theorem q_43 : Cond.selects RX7 yX7_not yX7_not ∈ TB := TB_at 43 (by decide +kernel) rfl
theorem vw_X7_190 : VW RX7 190 RX7 yX7_not cX7_not 2 none 0 := ⟨q_1160, q_1162, q_43, q_89, q_1163, by decide +kernel⟩
theorem q_1172 : Cond.methodLink RX7 193 yX7_sum ∈ TB := TB_at 1172 (by decide +kernel) rfl
set_option maxRecDepth 100000 in
theorem q_1175 : Cond.code yX7_sum cX7_sum 2 none ∈ TB := TB_at 1175 rfl rfl
theorem q_1174 : Cond.instanceMethod yX7_sum ∈ TB := TB_at 1174 (by decide +kernel) rfl
theorem q_46 : Cond.selects RX7 yX7_sum yX7_sum ∈ TB := TB_at 46 (by decide +kernel) rfl
theorem vw_X7_193 : VW RX7 193 RX7 yX7_sum cX7_sum 2 none 0 := ⟨q_1172, q_1174, q_46, q_89, q_1175, by decide +kernel⟩
theorem q_1156 : Cond.methodLink RX7 196 yX7_both ∈ TB := TB_at 1156 (by decide +kernel) rfl
set_option maxRecDepth 100000 in
theorem q_1159 : Cond.code yX7_both cX7_both 1 none ∈ TB := TB_at 1159 rfl rfl
theorem q_1158 : Cond.instanceMethod yX7_both ∈ TB := TB_at 1158 (by decide +kernel) rfl
theorem q_42 : Cond.selects RX7 yX7_both yX7_both ∈ TB := TB_at 42 (by decide +kernel) rfl
theorem vw_X7_196 : VW RX7 196 RX7 yX7_both cX7_both 1 none 0 := ⟨q_1156, q_1158, q_42, q_89, q_1159, by decide +kernel⟩
theorem q_1265 : Cond.methodLink RX7 199 yX7_reckon ∈ TB := TB_at 1265 (by decide +kernel) rfl
set_option maxRecDepth 100000 in
theorem q_1267 : Cond.code yX7_reckon cX7_reckon 3 (Option.some Jvm.ClassFile.FieldType.int) ∈ TB := TB_at 1267 rfl rfl
theorem q_1266 : Cond.static yX7_reckon ∈ TB := TB_at 1266 (by decide +kernel) rfl
theorem vw_X7_199 : SW RX7 199 yX7_reckon cX7_reckon 3 (Option.some Jvm.ClassFile.FieldType.int) 3 := ⟨q_1265, q_1266, q_89, q_1267, by decide +kernel⟩
theorem q_1240 : Cond.methodLink RX7 203 yX7_held ∈ TB := TB_at 1240 (by decide +kernel) rfl
set_option maxRecDepth 100000 in
theorem q_1242 : Cond.code yX7_held cX7_held 2 (Option.some Jvm.ClassFile.FieldType.int) ∈ TB := TB_at 1242 rfl rfl
theorem q_1241 : Cond.static yX7_held ∈ TB := TB_at 1241 (by decide +kernel) rfl
theorem vw_X7_203 : SW RX7 203 yX7_held cX7_held 2 (Option.some Jvm.ClassFile.FieldType.int) 2 := ⟨q_1240, q_1241, q_89, q_1242, by decide +kernel⟩
theorem q_1204 : Cond.methodLink RX7 207 yX7_isAct ∈ TB := TB_at 1204 (by decide +kernel) rfl
set_option maxRecDepth 100000 in
theorem q_1207 : Cond.code yX7_isAct cX7_isAct 2 (Option.some Jvm.ClassFile.FieldType.boolean) ∈ TB := TB_at 1207 rfl rfl
theorem q_1206 : Cond.instanceMethod yX7_isAct ∈ TB := TB_at 1206 (by decide +kernel) rfl
theorem q_50 : Cond.selects RX7 yX7_isAct yX7_isAct ∈ TB := TB_at 50 (by decide +kernel) rfl
theorem vw_X7_207 : VW RX7 207 RX7 yX7_isAct cX7_isAct 2 (Option.some Jvm.ClassFile.FieldType.boolean) 1 := ⟨q_1204, q_1206, q_50, q_89, q_1207, by decide +kernel⟩
theorem q_1208 : Cond.methodLink RX7 210 yX7_minutesOf ∈ TB := TB_at 1208 (by decide +kernel) rfl
set_option maxRecDepth 100000 in
theorem q_1210 : Cond.code yX7_minutesOf cX7_minutesOf 2 (Option.some Jvm.ClassFile.FieldType.int) ∈ TB := TB_at 1210 rfl rfl
theorem q_1209 : Cond.static yX7_minutesOf ∈ TB := TB_at 1209 (by decide +kernel) rfl
theorem vw_X7_210 : SW RX7 210 yX7_minutesOf cX7_minutesOf 2 (Option.some Jvm.ClassFile.FieldType.int) 2 := ⟨q_1208, q_1209, q_89, q_1210, by decide +kernel⟩
theorem q_1255 : Cond.methodLink RX7 224 yX7_drawsHeat ∈ TB := TB_at 1255 (by decide +kernel) rfl
set_option maxRecDepth 100000 in
theorem q_1258 : Cond.code yX7_drawsHeat cX7_drawsHeat 2 (Option.some Jvm.ClassFile.FieldType.int) ∈ TB := TB_at 1258 rfl rfl
theorem q_1257 : Cond.instanceMethod yX7_drawsHeat ∈ TB := TB_at 1257 (by decide +kernel) rfl
theorem q_60 : Cond.selects RX7 yX7_drawsHeat yX7_drawsHeat ∈ TB := TB_at 60 (by decide +kernel) rfl
theorem vw_X7_224 : VW RX7 224 RX7 yX7_drawsHeat cX7_drawsHeat 2 (Option.some Jvm.ClassFile.FieldType.int) 0 := ⟨q_1255, q_1257, q_60, q_89, q_1258, by decide +kernel⟩
theorem q_1261 : Cond.methodLink RX7 227 yX7_work ∈ TB := TB_at 1261 (by decide +kernel) rfl
set_option maxRecDepth 100000 in
theorem q_1264 : Cond.code yX7_work cX7_work 5 (Option.some Jvm.ClassFile.FieldType.int) ∈ TB := TB_at 1264 rfl rfl
theorem q_1263 : Cond.instanceMethod yX7_work ∈ TB := TB_at 1263 (by decide +kernel) rfl
theorem q_61 : Cond.selects RX7 yX7_work yX7_work ∈ TB := TB_at 61 (by decide +kernel) rfl
theorem vw_X7_227 : VW RX7 227 RX7 yX7_work cX7_work 5 (Option.some Jvm.ClassFile.FieldType.int) 1 := ⟨q_1261, q_1263, q_61, q_89, q_1264, by decide +kernel⟩
theorem q_1236 : Cond.methodLink RX7 230 yX7_pours ∈ TB := TB_at 1236 (by decide +kernel) rfl
set_option maxRecDepth 100000 in
theorem q_1239 : Cond.code yX7_pours cX7_pours 3 none ∈ TB := TB_at 1239 rfl rfl
theorem q_1238 : Cond.instanceMethod yX7_pours ∈ TB := TB_at 1238 (by decide +kernel) rfl
theorem q_56 : Cond.selects RX7 yX7_pours yX7_pours ∈ TB := TB_at 56 (by decide +kernel) rfl
theorem vw_X7_230 : VW RX7 230 RX7 yX7_pours cX7_pours 3 none 2 := ⟨q_1236, q_1238, q_56, q_89, q_1239, by decide +kernel⟩
theorem q_1243 : Cond.methodLink RX7 234 yX7_handfuls ∈ TB := TB_at 1243 (by decide +kernel) rfl
set_option maxRecDepth 100000 in
theorem q_1246 : Cond.code yX7_handfuls cX7_handfuls 3 none ∈ TB := TB_at 1246 rfl rfl
theorem q_1245 : Cond.instanceMethod yX7_handfuls ∈ TB := TB_at 1245 (by decide +kernel) rfl
theorem q_57 : Cond.selects RX7 yX7_handfuls yX7_handfuls ∈ TB := TB_at 57 (by decide +kernel) rfl
theorem vw_X7_234 : VW RX7 234 RX7 yX7_handfuls cX7_handfuls 3 none 2 := ⟨q_1243, q_1245, q_57, q_89, q_1246, by decide +kernel⟩
theorem q_1247 : Cond.methodLink RX7 237 yX7_strokesOf ∈ TB := TB_at 1247 (by decide +kernel) rfl
set_option maxRecDepth 100000 in
theorem q_1250 : Cond.code yX7_strokesOf cX7_strokesOf 3 none ∈ TB := TB_at 1250 rfl rfl
theorem q_1249 : Cond.instanceMethod yX7_strokesOf ∈ TB := TB_at 1249 (by decide +kernel) rfl
theorem q_58 : Cond.selects RX7 yX7_strokesOf yX7_strokesOf ∈ TB := TB_at 58 (by decide +kernel) rfl
theorem vw_X7_237 : VW RX7 237 RX7 yX7_strokesOf cX7_strokesOf 3 none 1 := ⟨q_1247, q_1249, q_58, q_89, q_1250, by decide +kernel⟩
theorem q_1251 : Cond.methodLink RX7 240 yX7_minute ∈ TB := TB_at 1251 (by decide +kernel) rfl
set_option maxRecDepth 100000 in
theorem q_1254 : Cond.code yX7_minute cX7_minute 7 none ∈ TB := TB_at 1254 rfl rfl
theorem q_1253 : Cond.instanceMethod yX7_minute ∈ TB := TB_at 1253 (by decide +kernel) rfl
theorem q_59 : Cond.selects RX7 yX7_minute yX7_minute ∈ TB := TB_at 59 (by decide +kernel) rfl
theorem vw_X7_240 : VW RX7 240 RX7 yX7_minute cX7_minute 7 none 1 := ⟨q_1251, q_1253, q_59, q_89, q_1254, by decide +kernel⟩
theorem q_1232 : Cond.methodLink RX7 244 yX7_does ∈ TB := TB_at 1232 (by decide +kernel) rfl
set_option maxRecDepth 100000 in
theorem q_1235 : Cond.code yX7_does cX7_does 5 none ∈ TB := TB_at 1235 rfl rfl
theorem q_1234 : Cond.instanceMethod yX7_does ∈ TB := TB_at 1234 (by decide +kernel) rfl
theorem q_55 : Cond.selects RX7 yX7_does yX7_does ∈ TB := TB_at 55 (by decide +kernel) rfl
theorem vw_X7_244 : VW RX7 244 RX7 yX7_does cX7_does 5 none 3 := ⟨q_1232, q_1234, q_55, q_89, q_1235, by decide +kernel⟩
theorem q_1224 : Cond.methodLink RX7 248 yX7_begins ∈ TB := TB_at 1224 (by decide +kernel) rfl
set_option maxRecDepth 100000 in
theorem q_1227 : Cond.code yX7_begins cX7_begins 2 none ∈ TB := TB_at 1227 rfl rfl
theorem q_1226 : Cond.instanceMethod yX7_begins ∈ TB := TB_at 1226 (by decide +kernel) rfl
theorem q_53 : Cond.selects RX7 yX7_begins yX7_begins ∈ TB := TB_at 53 (by decide +kernel) rfl
theorem vw_X7_248 : VW RX7 248 RX7 yX7_begins cX7_begins 2 none 0 := ⟨q_1224, q_1226, q_53, q_89, q_1227, by decide +kernel⟩
theorem q_1228 : Cond.methodLink RX7 251 yX7_doesAct ∈ TB := TB_at 1228 (by decide +kernel) rfl
set_option maxRecDepth 100000 in
theorem q_1231 : Cond.code yX7_doesAct cX7_doesAct 2 none ∈ TB := TB_at 1231 rfl rfl
theorem q_1230 : Cond.instanceMethod yX7_doesAct ∈ TB := TB_at 1230 (by decide +kernel) rfl
theorem q_54 : Cond.selects RX7 yX7_doesAct yX7_doesAct ∈ TB := TB_at 54 (by decide +kernel) rfl
theorem vw_X7_251 : VW RX7 251 RX7 yX7_doesAct cX7_doesAct 2 none 1 := ⟨q_1228, q_1230, q_54, q_89, q_1231, by decide +kernel⟩
theorem q_1272 : Cond.methodLink RX7 254 yX7_thick ∈ TB := TB_at 1272 (by decide +kernel) rfl
set_option maxRecDepth 100000 in
theorem q_1275 : Cond.code yX7_thick cX7_thick 2 (Option.some Jvm.ClassFile.FieldType.int) ∈ TB := TB_at 1275 rfl rfl
theorem q_1274 : Cond.instanceMethod yX7_thick ∈ TB := TB_at 1274 (by decide +kernel) rfl
theorem q_63 : Cond.selects RX7 yX7_thick yX7_thick ∈ TB := TB_at 63 (by decide +kernel) rfl
theorem vw_X7_254 : VW RX7 254 RX7 yX7_thick cX7_thick 2 (Option.some Jvm.ClassFile.FieldType.int) 0 := ⟨q_1272, q_1274, q_63, q_89, q_1275, by decide +kernel⟩
theorem q_1276 : Cond.methodLink RX7 257 yX7_threads ∈ TB := TB_at 1276 (by decide +kernel) rfl
set_option maxRecDepth 100000 in
theorem q_1279 : Cond.code yX7_threads cX7_threads 1 (Option.some Jvm.ClassFile.FieldType.int) ∈ TB := TB_at 1279 rfl rfl
theorem q_1278 : Cond.instanceMethod yX7_threads ∈ TB := TB_at 1278 (by decide +kernel) rfl
theorem q_64 : Cond.selects RX7 yX7_threads yX7_threads ∈ TB := TB_at 64 (by decide +kernel) rfl
theorem vw_X7_257 : VW RX7 257 RX7 yX7_threads cX7_threads 1 (Option.some Jvm.ClassFile.FieldType.int) 0 := ⟨q_1276, q_1278, q_64, q_89, q_1279, by decide +kernel⟩
theorem q_1280 : Cond.methodLink RX7 260 yX7_sortNow ∈ TB := TB_at 1280 (by decide +kernel) rfl
set_option maxRecDepth 100000 in
theorem q_1283 : Cond.code yX7_sortNow cX7_sortNow 1 (Option.some Jvm.ClassFile.FieldType.int) ∈ TB := TB_at 1283 rfl rfl
theorem q_1282 : Cond.instanceMethod yX7_sortNow ∈ TB := TB_at 1282 (by decide +kernel) rfl
theorem q_65 : Cond.selects RX7 yX7_sortNow yX7_sortNow ∈ TB := TB_at 65 (by decide +kernel) rfl
theorem vw_X7_260 : VW RX7 260 RX7 yX7_sortNow cX7_sortNow 1 (Option.some Jvm.ClassFile.FieldType.int) 0 := ⟨q_1280, q_1282, q_65, q_89, q_1283, by decide +kernel⟩
theorem q_1215 : Cond.methodLink RX7 263 yX7_areActs ∈ TB := TB_at 1215 (by decide +kernel) rfl
set_option maxRecDepth 100000 in
theorem q_1218 : Cond.code yX7_areActs cX7_areActs 2 (Option.some Jvm.ClassFile.FieldType.boolean) ∈ TB := TB_at 1218 rfl rfl
theorem q_1217 : Cond.instanceMethod yX7_areActs ∈ TB := TB_at 1217 (by decide +kernel) rfl
theorem q_51 : Cond.selects RX7 yX7_areActs yX7_areActs ∈ TB := TB_at 51 (by decide +kernel) rfl
theorem vw_X7_263 : VW RX7 263 RX7 yX7_areActs cX7_areActs 2 (Option.some Jvm.ClassFile.FieldType.boolean) 1 := ⟨q_1215, q_1217, q_51, q_89, q_1218, by decide +kernel⟩
theorem q_1220 : Cond.methodLink RX7 268 yX7_goes ∈ TB := TB_at 1220 (by decide +kernel) rfl
set_option maxRecDepth 100000 in
theorem q_1223 : Cond.code yX7_goes cX7_goes 3 none ∈ TB := TB_at 1223 rfl rfl
theorem q_1222 : Cond.instanceMethod yX7_goes ∈ TB := TB_at 1222 (by decide +kernel) rfl
theorem q_52 : Cond.selects RX7 yX7_goes yX7_goes ∈ TB := TB_at 52 (by decide +kernel) rfl
theorem vw_X7_268 : VW RX7 268 RX7 yX7_goes cX7_goes 3 none 1 := ⟨q_1220, q_1222, q_52, q_89, q_1223, by decide +kernel⟩
theorem q_1268 : Cond.methodLink RX7 271 yX7_potTold ∈ TB := TB_at 1268 (by decide +kernel) rfl
set_option maxRecDepth 100000 in
theorem q_1271 : Cond.code yX7_potTold cX7_potTold 2 (Option.some Jvm.ClassFile.FieldType.int) ∈ TB := TB_at 1271 rfl rfl
theorem q_1270 : Cond.instanceMethod yX7_potTold ∈ TB := TB_at 1270 (by decide +kernel) rfl
theorem q_62 : Cond.selects RX7 yX7_potTold yX7_potTold ∈ TB := TB_at 62 (by decide +kernel) rfl
theorem vw_X7_271 : VW RX7 271 RX7 yX7_potTold cX7_potTold 2 (Option.some Jvm.ClassFile.FieldType.int) 1 := ⟨q_1268, q_1270, q_62, q_89, q_1271, by decide +kernel⟩
theorem q_1288 : Cond.methodLink RX7 274 yX7_holds ∈ TB := TB_at 1288 (by decide +kernel) rfl
set_option maxRecDepth 100000 in
theorem q_1291 : Cond.code yX7_holds cX7_holds 1 (Option.some Jvm.ClassFile.FieldType.boolean) ∈ TB := TB_at 1291 rfl rfl
theorem q_1290 : Cond.instanceMethod yX7_holds ∈ TB := TB_at 1290 (by decide +kernel) rfl
theorem q_66 : Cond.selects RX7 yX7_holds yX7_holds ∈ TB := TB_at 66 (by decide +kernel) rfl
theorem vw_X7_274 : VW RX7 274 RX7 yX7_holds cX7_holds 1 (Option.some Jvm.ClassFile.FieldType.boolean) 0 := ⟨q_1288, q_1290, q_66, q_89, q_1291, by decide +kernel⟩
theorem q_1304 : Cond.methodLink RX7 277 yX7_holdsInAll ∈ TB := TB_at 1304 (by decide +kernel) rfl
set_option maxRecDepth 100000 in
theorem q_1307 : Cond.code yX7_holdsInAll cX7_holdsInAll 1 (Option.some Jvm.ClassFile.FieldType.boolean) ∈ TB := TB_at 1307 rfl rfl
theorem q_1306 : Cond.instanceMethod yX7_holdsInAll ∈ TB := TB_at 1306 (by decide +kernel) rfl
theorem q_68 : Cond.selects RX7 yX7_holdsInAll yX7_holdsInAll ∈ TB := TB_at 68 (by decide +kernel) rfl
theorem vw_X7_277 : VW RX7 277 RX7 yX7_holdsInAll cX7_holdsInAll 1 (Option.some Jvm.ClassFile.FieldType.boolean) 0 := ⟨q_1304, q_1306, q_68, q_89, q_1307, by decide +kernel⟩
theorem q_1300 : Cond.methodLink RX7 280 yX7_holdsWith ∈ TB := TB_at 1300 (by decide +kernel) rfl
set_option maxRecDepth 100000 in
theorem q_1303 : Cond.code yX7_holdsWith cX7_holdsWith 6 (Option.some Jvm.ClassFile.FieldType.boolean) ∈ TB := TB_at 1303 rfl rfl
theorem q_1302 : Cond.instanceMethod yX7_holdsWith ∈ TB := TB_at 1302 (by decide +kernel) rfl
theorem q_67 : Cond.selects RX7 yX7_holdsWith yX7_holdsWith ∈ TB := TB_at 67 (by decide +kernel) rfl
theorem vw_X7_280 : VW RX7 280 RX7 yX7_holdsWith cX7_holdsWith 6 (Option.some Jvm.ClassFile.FieldType.boolean) 2 := ⟨q_1300, q_1302, q_67, q_89, q_1303, by decide +kernel⟩
theorem q_1325 : Cond.methodLink RX7 285 yX7_lowest ∈ TB := TB_at 1325 (by decide +kernel) rfl
set_option maxRecDepth 100000 in
theorem q_1327 : Cond.code yX7_lowest cX7_lowest 11 (Option.some Jvm.ClassFile.FieldType.long) ∈ TB := TB_at 1327 rfl rfl
theorem q_1326 : Cond.static yX7_lowest ∈ TB := TB_at 1326 (by decide +kernel) rfl
theorem vw_X7_285 : SW RX7 285 yX7_lowest cX7_lowest 11 (Option.some Jvm.ClassFile.FieldType.long) 3 := ⟨q_1325, q_1326, q_89, q_1327, by decide +kernel⟩
theorem q_1364 : Cond.methodLink RX7 300 yX7_atTable ∈ TB := TB_at 1364 (by decide +kernel) rfl
set_option maxRecDepth 100000 in
theorem q_1367 : Cond.code yX7_atTable cX7_atTable 6 none ∈ TB := TB_at 1367 rfl rfl
theorem q_1366 : Cond.instanceMethod yX7_atTable ∈ TB := TB_at 1366 (by decide +kernel) rfl
theorem q_69 : Cond.selects RX7 yX7_atTable yX7_atTable ∈ TB := TB_at 69 (by decide +kernel) rfl
theorem vw_X7_300 : VW RX7 300 RX7 yX7_atTable cX7_atTable 6 none 2 := ⟨q_1364, q_1366, q_69, q_89, q_1367, by decide +kernel⟩
theorem q_1385 : Cond.methodLink RX7 305 yX7_isSheet ∈ TB := TB_at 1385 (by decide +kernel) rfl
set_option maxRecDepth 100000 in
theorem q_1387 : Cond.code yX7_isSheet cX7_isSheet 1 (Option.some Jvm.ClassFile.FieldType.boolean) ∈ TB := TB_at 1387 rfl rfl
theorem q_1386 : Cond.static yX7_isSheet ∈ TB := TB_at 1386 (by decide +kernel) rfl
theorem vw_X7_305 : SW RX7 305 yX7_isSheet cX7_isSheet 1 (Option.some Jvm.ClassFile.FieldType.boolean) 1 := ⟨q_1385, q_1386, q_89, q_1387, by decide +kernel⟩
theorem q_1381 : Cond.methodLink RX7 308 yX7_refuses ∈ TB := TB_at 1381 (by decide +kernel) rfl
set_option maxRecDepth 100000 in
theorem q_1384 : Cond.code yX7_refuses cX7_refuses 2 (Option.some Jvm.ClassFile.FieldType.int) ∈ TB := TB_at 1384 rfl rfl
theorem q_1383 : Cond.instanceMethod yX7_refuses ∈ TB := TB_at 1383 (by decide +kernel) rfl
theorem q_70 : Cond.selects RX7 yX7_refuses yX7_refuses ∈ TB := TB_at 70 (by decide +kernel) rfl
theorem vw_X7_308 : VW RX7 308 RX7 yX7_refuses cX7_refuses 2 (Option.some Jvm.ClassFile.FieldType.int) 1 := ⟨q_1381, q_1383, q_70, q_89, q_1384, by decide +kernel⟩
theorem q_1392 : Cond.methodLink RX7 311 yX7_sheet ∈ TB := TB_at 1392 (by decide +kernel) rfl
set_option maxRecDepth 100000 in
theorem q_1395 : Cond.code yX7_sheet cX7_sheet 5 (Option.some Jvm.ClassFile.FieldType.int) ∈ TB := TB_at 1395 rfl rfl
theorem q_1393 : Cond.instanceMethod yX7_sheet ∈ TB := TB_at 1393 (by decide +kernel) rfl
theorem q_1394 : Cond.selects RX7 yX7_sheet yX7_sheet ∈ TB := TB_at 1394 (by decide +kernel) rfl
theorem vw_X7_311 : VW RX7 311 RX7 yX7_sheet cX7_sheet 5 (Option.some Jvm.ClassFile.FieldType.int) 3 := ⟨q_1392, q_1393, q_1394, q_89, q_1395, by decide +kernel⟩
theorem q_1401 : Cond.methodLink RX7 314 yX7_isFilm ∈ TB := TB_at 1401 (by decide +kernel) rfl
set_option maxRecDepth 100000 in
theorem q_1404 : Cond.code yX7_isFilm cX7_isFilm 3 (Option.some Jvm.ClassFile.FieldType.boolean) ∈ TB := TB_at 1404 rfl rfl
theorem q_1403 : Cond.instanceMethod yX7_isFilm ∈ TB := TB_at 1403 (by decide +kernel) rfl
theorem q_71 : Cond.selects RX7 yX7_isFilm yX7_isFilm ∈ TB := TB_at 71 (by decide +kernel) rfl
theorem vw_X7_314 : VW RX7 314 RX7 yX7_isFilm cX7_isFilm 3 (Option.some Jvm.ClassFile.FieldType.boolean) 1 := ⟨q_1401, q_1403, q_71, q_89, q_1404, by decide +kernel⟩
theorem q_1414 : Cond.methodLink RX7 319 yX7_goesDrawn ∈ TB := TB_at 1414 (by decide +kernel) rfl
set_option maxRecDepth 100000 in
theorem q_1417 : Cond.code yX7_goesDrawn cX7_goesDrawn 4 none ∈ TB := TB_at 1417 rfl rfl
theorem q_1416 : Cond.instanceMethod yX7_goesDrawn ∈ TB := TB_at 1416 (by decide +kernel) rfl
theorem q_72 : Cond.selects RX7 yX7_goesDrawn yX7_goesDrawn ∈ TB := TB_at 72 (by decide +kernel) rfl
theorem vw_X7_319 : VW RX7 319 RX7 yX7_goesDrawn cX7_goesDrawn 4 none 2 := ⟨q_1414, q_1416, q_72, q_89, q_1417, by decide +kernel⟩
theorem q_1445 : Cond.methodLink RX7 336 yX7_act ∈ TB := TB_at 1445 (by decide +kernel) rfl
set_option maxRecDepth 100000 in
theorem q_1195 : Cond.code yX7_act cX7_act 4 (Option.some Jvm.ClassFile.FieldType.int) ∈ TB := TB_at 1195 rfl rfl
theorem q_1193 : Cond.instanceMethod yX7_act ∈ TB := TB_at 1193 (by decide +kernel) rfl
theorem q_1194 : Cond.selects RX7 yX7_act yX7_act ∈ TB := TB_at 1194 (by decide +kernel) rfl
theorem vw_X7_336 : VW RX7 336 RX7 yX7_act cX7_act 4 (Option.some Jvm.ClassFile.FieldType.int) 3 := ⟨q_1445, q_1193, q_1194, q_89, q_1195, by decide +kernel⟩
theorem q_1456 : Cond.methodLink RX7 339 yX7_over ∈ TB := TB_at 1456 (by decide +kernel) rfl
set_option maxRecDepth 100000 in
theorem q_1458 : Cond.code yX7_over cX7_over 1 (Option.some Jvm.ClassFile.FieldType.int) ∈ TB := TB_at 1458 rfl rfl
theorem q_1457 : Cond.static yX7_over ∈ TB := TB_at 1457 (by decide +kernel) rfl
theorem vw_X7_339 : SW RX7 339 yX7_over cX7_over 1 (Option.some Jvm.ClassFile.FieldType.int) 1 := ⟨q_1456, q_1457, q_89, q_1458, by decide +kernel⟩
theorem q_1452 : Cond.methodLink RX7 346 yX7_takenAct ∈ TB := TB_at 1452 (by decide +kernel) rfl
set_option maxRecDepth 100000 in
theorem q_1455 : Cond.code yX7_takenAct cX7_takenAct 4 (Option.some Jvm.ClassFile.FieldType.int) ∈ TB := TB_at 1455 rfl rfl
theorem q_1454 : Cond.instanceMethod yX7_takenAct ∈ TB := TB_at 1454 (by decide +kernel) rfl
theorem q_73 : Cond.selects RX7 yX7_takenAct yX7_takenAct ∈ TB := TB_at 73 (by decide +kernel) rfl
theorem vw_X7_346 : VW RX7 346 RX7 yX7_takenAct cX7_takenAct 4 (Option.some Jvm.ClassFile.FieldType.int) 2 := ⟨q_1452, q_1454, q_73, q_89, q_1455, by decide +kernel⟩

theorem q_357 : Cond.static Lib.Math.max.name ∈ TB := TB_at 357 (by decide +kernel) rfl
set_option maxRecDepth 100000 in
theorem q_358 : Cond.code Lib.Math.max.name Lib.Math.max.code 2 (some .int) ∈ TB := TB_at 358 rfl rfl
theorem q_360 : Cond.static Lib.Math.min.name ∈ TB := TB_at 360 (by decide +kernel) rfl
set_option maxRecDepth 100000 in
theorem q_361 : Cond.code Lib.Math.min.name Lib.Math.min.code 2 (some .int) ∈ TB := TB_at 361 rfl rfl
theorem q_85 : Cond.initialized "java/lang/Math" ∈ TB := TB_at 85 (by decide +kernel) rfl
theorem q_446 : Cond.native arraycopyName ∈ TB := TB_at 446 (by decide +kernel) rfl
theorem q_445 : Cond.static arraycopyName ∈ TB := TB_at 445 (by decide +kernel) rfl
theorem q_87 : Cond.initialized "java/lang/System" ∈ TB := TB_at 87 (by decide +kernel) rfl
theorem q_611 : Cond.methodLink RX0 19 Lib.Math.max.name ∈ TB := TB_at 611 (by decide +kernel) rfl
theorem q_913 : Cond.methodLink RX1 17 arraycopyName ∈ TB := TB_at 913 (by decide +kernel) rfl
theorem q_655 : Cond.methodLink RX3 87 Lib.Math.min.name ∈ TB := TB_at 655 (by decide +kernel) rfl
theorem q_656 : Cond.methodLink RX3 105 Lib.Math.max.name ∈ TB := TB_at 656 (by decide +kernel) rfl
theorem q_444 : Cond.methodLink RX4 44 arraycopyName ∈ TB := TB_at 444 (by decide +kernel) rfl
theorem q_864 : Cond.methodLink RX5 17 Lib.Math.min.name ∈ TB := TB_at 864 (by decide +kernel) rfl
theorem q_865 : Cond.methodLink RX5 23 Lib.Math.max.name ∈ TB := TB_at 865 (by decide +kernel) rfl
theorem q_936 : Cond.methodLink RX5 33 arraycopyName ∈ TB := TB_at 936 (by decide +kernel) rfl
theorem q_772 : Cond.methodLink RX6 196 Lib.Math.min.name ∈ TB := TB_at 772 (by decide +kernel) rfl
theorem q_773 : Cond.methodLink RX6 202 Lib.Math.max.name ∈ TB := TB_at 773 (by decide +kernel) rfl
theorem q_914 : Cond.methodLink RX6 288 arraycopyName ∈ TB := TB_at 914 (by decide +kernel) rfl
theorem q_676 : Cond.constantLong RX3 125 (48271) ∈ TB := TB_at 676 (by decide +kernel) rfl
theorem q_677 : Cond.constantLong RX3 127 (2147483647) ∈ TB := TB_at 677 (by decide +kernel) rfl
theorem q_678 : Cond.constantLong RX3 129 (9) ∈ TB := TB_at 678 (by decide +kernel) rfl
theorem q_771 : Cond.constantLong RX6 194 (-4611686018427387904) ∈ TB := TB_at 771 (by decide +kernel) rfl
theorem q_889 : Cond.constant RX6 283 (99999) ∈ TB := TB_at 889 (by decide +kernel) rfl
theorem q_1079 : Cond.constantLong RX7 79 (99) ∈ TB := TB_at 1079 (by decide +kernel) rfl
theorem q_1091 : Cond.constantLong RX7 89 (4) ∈ TB := TB_at 1091 (by decide +kernel) rfl
theorem q_1100 : Cond.constantLong RX7 91 (2) ∈ TB := TB_at 1100 (by decide +kernel) rfl
theorem q_1101 : Cond.constantLong RX7 93 (9) ∈ TB := TB_at 1101 (by decide +kernel) rfl
theorem q_1110 : Cond.constantLong RX7 106 (5) ∈ TB := TB_at 1110 (by decide +kernel) rfl
theorem q_1114 : Cond.constantLong RX7 104 (255) ∈ TB := TB_at 1114 (by decide +kernel) rfl
theorem q_1130 : Cond.constantLong RX7 117 (97) ∈ TB := TB_at 1130 (by decide +kernel) rfl
theorem q_1131 : Cond.constantLong RX7 119 (122) ∈ TB := TB_at 1131 (by decide +kernel) rfl
theorem q_1139 : Cond.constantLong RX7 121 (48) ∈ TB := TB_at 1139 (by decide +kernel) rfl
theorem q_1140 : Cond.constantLong RX7 123 (57) ∈ TB := TB_at 1140 (by decide +kernel) rfl
theorem q_1219 : Cond.constantLong RX7 266 (13) ∈ TB := TB_at 1219 (by decide +kernel) rfl
theorem q_1259 : Cond.constantLong RX7 220 (48271) ∈ TB := TB_at 1259 (by decide +kernel) rfl
theorem q_1260 : Cond.constantLong RX7 222 (2147483647) ∈ TB := TB_at 1260 (by decide +kernel) rfl
theorem q_1324 : Cond.constantLong RX7 283 (-4611686018427387904) ∈ TB := TB_at 1324 (by decide +kernel) rfl
theorem q_1348 : Cond.constantLong RX7 289 (20) ∈ TB := TB_at 1348 (by decide +kernel) rfl
theorem q_1357 : Cond.constantLong RX7 291 (30) ∈ TB := TB_at 1357 (by decide +kernel) rfl
theorem q_1362 : Cond.constantLong RX7 296 (90) ∈ TB := TB_at 1362 (by decide +kernel) rfl
theorem q_1363 : Cond.constantLong RX7 298 (3) ∈ TB := TB_at 1363 (by decide +kernel) rfl
theorem q_1372 : Cond.constantLong RX7 303 (999) ∈ TB := TB_at 1372 (by decide +kernel) rfl
theorem q_1396 : Cond.constantLong RX7 332 (-1) ∈ TB := TB_at 1396 (by decide +kernel) rfl
theorem q_1413 : Cond.constantLong RX7 317 (99999) ∈ TB := TB_at 1413 (by decide +kernel) rfl
theorem q_1422 : Cond.constant RX7 322 (99999) ∈ TB := TB_at 1422 (by decide +kernel) rfl
theorem q_1444 : Cond.constantLong RX7 334 (12) ∈ TB := TB_at 1444 (by decide +kernel) rfl
theorem q_1450 : Cond.constantLong RX7 342 (6) ∈ TB := TB_at 1450 (by decide +kernel) rfl
theorem q_1451 : Cond.constantLong RX7 344 (15) ∈ TB := TB_at 1451 (by decide +kernel) rfl
theorem q_551 : Cond.fieldLink RX6 117 "ThreadsAndSplits" "MOST_TOLD" "[I" ∈ TB := TB_at 551 (by decide +kernel) rfl
