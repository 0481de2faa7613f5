/-- the two shapes with every reference told by the state: for what makes cells -/
def YG : Sy := (kdC, ftC, fnC, lnC, gr, acC)
theorem YG_ok0 : True := trivial
def kdN (o : Nat) : Nat := if o = 20 then 41 else kdM o
def lnN (σ : St) (kd o : Nat) : Nat := if kd = 41 then 21 else lnM σ kd o
def YN : Sy := (kdN, ftM, fnM, lnN, gr, acM)
/-- a new cell's row: nothing yet; n places -/
def sN (σ : St) (M n : Nat) : St := (fun a b => if a = M then 0 else σ.1 a b, fun a => if a = M then 0 else σ.2.1 a, fun a b => if a = M then none else σ.2.2.1 a b, fun a => if a = M then n else σ.2.2.2 a)
theorem gi_sN (σ : St) (M n a b : Nat) : gi (sN σ M n) a b = if a = M then 0 else gi σ a b := rfl
theorem gl_sN (σ : St) (M n a : Nat) : gl (sN σ M n) a = if a = M then 0 else gl σ a := rfl
theorem gr_sN (σ : St) (M n a b : Nat) : gr (sN σ M n) a b = if a = M then none else gr σ a b := rfl
theorem gz_sN (σ : St) (M n a : Nat) : gz (sN σ M n) a = if a = M then n else gz σ a := rfl
theorem va_D_fst {A : Nat → Prop} {ws ws' : va_W} (h : va_D A ws) (he : ∀ k : Nat, (ws'[k]?).map Prod.fst = (ws[k]?).map Prod.fst) : va_D A ws' := by
  have key : ∀ (k : Nat) (q : Nat × va_E), ws'[k]? = some q → ∃ q', ws[k]? = some q' ∧ q'.1 = q.1 := by
    intro k q hk
    have h1 := he k
    rw [hk] at h1
    cases hq : ws[k]? with
    | none => rw [hq] at h1; cases h1
    | some q' => rw [hq] at h1; exact ⟨q', rfl, (Option.some.inj h1).symm⟩
  refine ⟨fun i j p q hi hj hpq => ?_, fun k q hk => ?_⟩
  · obtain ⟨p', h1, h2⟩ := key i p hi
    obtain ⟨q', h3, h4⟩ := key j q hj
    exact h.1 i j p' q' h1 h3 (h2.trans (hpq.trans h4.symm))
  · obtain ⟨q', h1, h2⟩ := key k q hk
    rw [← h2]
    exact h.2 k q' h1
/-- two cells' contents that read alike -/
def EQ2 (e e' : va_E) : Prop := e = e' ∨ ∃ (cA : ClassId) (n : Nat) (f g : Nat → Option Nat), e = .inl (cA, n, .inr (.inr (.inr (.inr f)))) ∧ e' = .inl (cA, n, .inr (.inr (.inr (.inr g)))) ∧ ∀ j, j < n → f j = g j
theorem va_at_eq2 {D : va_G} {cl : List vw_C} {a : Nat} {e e' : va_E} {H : Heap} (h : va_at D cl (a, e) H) (he : EQ2 e e') : va_at D cl (a, e') H := by
  rcases he with rfl | ⟨cA, n, f, g, rfl, rfl, hj⟩
  · exact h
  · have h1 : H[a]? = some (vp_cell cA (n, .inr (.inr (.inr (.inr f))))) := h
    show H[a]? = some (vp_cell cA (n, .inr (.inr (.inr (.inr g)))))
    rw [h1, vp_cell_q, vp_cell_q]
    unfold arrV
    congr 3
    funext j
    show va_rf (f j.val) = va_rf (g j.val)
    rw [hj j.val j.isLt]
theorem WH_like {Γ : Gm} {Y Y' : Sy} {M : Nat} {ad ad' : Nat → Nat} {σ τ : St} {s : State} {H : Heap} {locs : List Loc} (hw : WH Γ Y M ad σ s H locs) (ha : ∀ o, o < M → ad' o = ad o) (he : ∀ o, o < M → EQ2 (en Y Γ.2.1 ad σ o) (en Y' Γ.2.1 ad' τ o)) : WH Γ Y' M ad' τ s H locs := by
  obtain ⟨hP, hD, hS⟩ := hw
  refine ⟨fun k q hk => ?_, va_D_fst hD (fun k => ?_), hS⟩
  · by_cases hl : k < Γ.2.2.2.1.length
    · rw [List.getElem?_append_left hl] at hk
      exact hP k q (by rw [List.getElem?_append_left hl]; exact hk)
    · rw [List.getElem?_append_right (by omega)] at hk
      have hj := (List.getElem?_eq_some_iff.mp hk).1
      rw [wl_len] at hj
      rw [wl_at hj] at hk
      cases hk
      have h1 := hP k (ad (k - Γ.2.2.2.1.length), en Y Γ.2.1 ad σ (k - Γ.2.2.2.1.length)) (by rw [List.getElem?_append_right (by omega), wl_at hj])
      rw [ha _ hj]
      exact va_at_eq2 h1 (he _ hj)
  · by_cases hl : k < Γ.2.2.2.1.length
    · rw [List.getElem?_append_left hl, List.getElem?_append_left hl]
    · rw [List.getElem?_append_right (by omega), List.getElem?_append_right (by omega)]
      by_cases hj : k - Γ.2.2.2.1.length < M
      · rw [wl_at hj, wl_at hj]
        simp [ha _ hj]
      · rw [wl_out hj, wl_out hj]
/-- fewer cells -/
theorem WH_drop {Γ : Gm} {Y : Sy} {M M' : Nat} {ad : Nat → Nat} {σ : St} {s : State} {H : Heap} {locs : List Loc} (hM : M ≤ M') (hw : WH Γ Y M' ad σ s H locs) : WH Γ Y M ad σ s H locs := by
  obtain ⟨hP, hD, hS⟩ := hw
  have key : ∀ (k : Nat) (q : Nat × va_E), (Γ.2.2.2.1 ++ wl M ad (en Y Γ.2.1 ad σ))[k]? = some q → (Γ.2.2.2.1 ++ wl M' ad (en Y Γ.2.1 ad σ))[k]? = some q := by
    intro k q hk
    by_cases hl : k < Γ.2.2.2.1.length
    · rw [List.getElem?_append_left hl] at hk ⊢
      exact hk
    · rw [List.getElem?_append_right (by omega)] at hk ⊢
      have hj := (List.getElem?_eq_some_iff.mp hk).1
      rw [wl_len] at hj
      rw [wl_at hj] at hk
      rw [wl_at (by omega)]
      exact hk
  exact ⟨fun k q hk => hP k q (key k q hk), ⟨fun i j p q hi hj => hD.1 i j p q (key i p hi) (key j q hj), fun k q hk => hD.2 k q (key k q hk)⟩, hS⟩
/-- references told stay below M -/
def RO (M : Nat) (σ : St) : Prop := ∀ o k r, gr σ o k = some r → r < M
/-- a new cell beside the world -/
theorem WH_push {Γ : Gm} {Y : Sy} {M n q : Nat} {ad : Nat → Nat} {σ : St} {s : State} {H1 : Heap} {locs : List Loc} {e : va_E} (hg : Y.2.2.2.2.1 = gr) (hln : ∀ kd o, o ≠ M → Y.2.2.2.1 (sN σ M n) kd o = Y.2.2.2.1 σ kd o) (hRO : RO M σ)
    (hP : va_P Γ.1 vwCl ((Γ.2.2.2.1 ++ wl M ad (en Y Γ.2.1 ad σ)) ++ [(q, e)]) H1) (hD : va_D (AA Γ) ((Γ.2.2.2.1 ++ wl M ad (en Y Γ.2.1 ad σ)) ++ [(q, e)])) (hS : va_S (AA Γ) s.heap H1 locs) (he : en Y Γ.2.1 (va_up ad M q) (sN σ M n) M = e) :
    WH Γ Y (M + 1) (va_up ad M q) (sN σ M n) s H1 locs := by
  rw [wl_push] at hP hD
  have w1 : ∀ o, o < M + 1 → va_up (en Y Γ.2.1 ad σ) M e o = en Y Γ.2.1 (va_up ad M q) (sN σ M n) o := by
    intro o ho
    by_cases hoM : o = M
    · subst hoM
      rw [va_up_self, he]
    · rw [va_up_ne _ _ hoM]
      unfold en eb fv
      rw [hg]
      have e1 : ∀ k, gi (sN σ M n) o k = gi σ o k := fun k => by rw [gi_sN, if_neg hoM]
      have e2 : gl (sN σ M n) o = gl σ o := by rw [gl_sN, if_neg hoM]
      have e3 : ∀ k, (gr (sN σ M n) o k).map (va_up ad M q) = (gr σ o k).map ad := fun k => by
        rw [gr_sN, if_neg hoM]
        cases hr : gr σ o k with
        | none => rfl
        | some r =>
          have := hRO o k r hr
          simp only [Option.map_some]
          rw [va_up_ne _ _ (by omega)]
      simp only [e1, e2, e3, hln _ _ hoM]
  have w2 : wl (M + 1) (va_up ad M q) (va_up (en Y Γ.2.1 ad σ) M e) = wl (M + 1) (va_up ad M q) (en Y Γ.2.1 (va_up ad M q) (sN σ M n)) := by
    unfold wl
    apply List.map_congr_left
    intro o ho
    rw [w1 o (List.mem_range.mp ho)]
  rw [w2] at hP hD
  exact ⟨hP, hD, hS⟩
section RULES6
variable {Γ : Gm} {Y : Sy} {M : Nat} {ad : Nat → Nat} {σ : St} {p : Program} {l : Launch} {e : Env} {R : Room} {s : State} {m : MethodId} {args : Array Value} {below : List Frame} {meth : Method} {c : Code} {H : Heap} {locs : List Loc} {cells slots : Nat} {Q : State → Prop} {cc : ByteArray} {pc nL : Nat} {ls : Array Slot} {rest st : List Value} {own : String}
theorem cs_eq {cs : Nat → ClassId} {k : Nat} {cA : ClassId} {ty : FieldType} (ht : (tysW cs)[k]? = some (cs k, ty)) {D : va_G} {cl : List vw_C} (hK : va_K D cl (tysW cs ++ [(cA, ty)]) s) : cA = cs k := by
  have h1 := (hK.2 k _ (by rw [List.getElem?_append_left (List.getElem?_eq_some_iff.mp ht).1]; exact ht)).2
  have h2 := (hK.2 (tysW cs).length (cA, ty) (by simp)).2
  unfold va_RA at h1 h2
  cases ty with
  | object C =>
    obtain ⟨_, _, _, _, _, h3⟩ := h1
    obtain ⟨_, _, _, _, _, h4⟩ := h2
    exact Option.some.inj (h4.symm.trans h3)
  | _ => exact Option.some.inj (h2.symm.trans h1)
/-- new row of ints -/
theorem g_newa {n : Int32} {N kd : Nat} (hg : Y.2.2.2.2.1 = gr) (hln : ∀ kd o, o ≠ M → Y.2.2.2.1 (sN σ M N) kd o = Y.2.2.2.1 σ kd o) (harr : Cond.arrayClass .int ∈ TB) (hkd : Y.1 M = kd) (hlo : ¬ kd < 20) (hhi : kd < 60) (hac : Y.2.2.2.2.2 kd = 0) (hN0 : Y.2.2.2.1 (sN σ M N) kd M = N) (hRO : RO M σ)
    (hc : CX Γ p s m args meth c cc own nL) (hw : WH Γ Y M ad σ s H locs) (hn : ¬ n < 0) (hN : n.toNatClampNeg = N) (hb : N ≤ 100000) (hcells : cells + 1 ≤ R.cells) (hslots : slots + N ≤ R.slots) (hdg : decode cc pc = .ok (.newarray .int, 2))
    (kk : ∀ (ad1 : Nat → Nat) (H1 : Heap), (∀ o, o < M → ad1 o = ad o) → WH Γ Y (M + 1) ad1 (sN σ M N) s H1 locs → W p l e R s m args below meth c H1 locs (cells + 1) (slots + N) Q (F0 m (pc + 2) ls (.ref (ad1 M) :: rest))) : W p l e R s m args below meth c H locs cells slots Q (F0 m pc ls (.int n :: rest)) := by
  refine va_newa (atype := .int) (ty := .int) (a0 := (N, .inl (fun _ => 0))) hc.1 hc.2.1 (hc.2.2.2.2.1 _ harr) rfl hc.2.2.2.2.2.2.1 hw.1 hw.2.1 hw.2.2 (fun q hq => Nat.le_trans hc.2.2.2.2.2.2.2.1 hq) (fun cA => rfl) hn hN (by show N * 4 ≤ _; omega) hcells hslots hdg (fun q cA H1 hK hP hD hS => ?_)
  have e0 := cs_eq (k := 0) (cs := Γ.2.1) (ty := .int) rfl hK
  subst e0
  have he : en Y Γ.2.1 (va_up ad M q) (sN σ M N) M = .inl (Γ.2.1 0, N, .inl (fun _ => 0)) := by
    rw [en_ai hkd hlo hhi, hac, hN0]
    simp only [gi_sN, if_true]
  have h1 := kk (va_up ad M q) H1 (fun o ho => va_up_ne _ _ (by omega)) (WH_push hg hln hRO hP hD hS he)
  rw [va_up_self] at h1
  exact h1
/-- new row of references -/
theorem g_newq {n : Int32} {N kd index : Nat} {C : String} (hg : Y.2.2.2.2.1 = gr) (hln : ∀ kd o, o ≠ M → Y.2.2.2.1 (sN σ M N) kd o = Y.2.2.2.1 σ kd o) (hcl : Cond.classLink own index C ∈ TB) (hover : va_AO C s) (hkd : Y.1 M = kd) (hhi : ¬ kd < 60) (hac : (tysW Γ.2.1)[Y.2.2.2.2.2 kd]? = some (Γ.2.1 (Y.2.2.2.2.2 kd), .object C)) (hN0 : Y.2.2.2.1 (sN σ M N) kd M = N) (hRO : RO M σ)
    (hc : CX Γ p s m args meth c cc own nL) (hw : WH Γ Y M ad σ s H locs) (hn : ¬ n < 0) (hN : n.toNatClampNeg = N) (hb : N ≤ 100000) (hcells : cells + 1 ≤ R.cells) (hslots : slots + N ≤ R.slots) (hdg : decode cc pc = .ok (.anewarray index, 3))
    (kk : ∀ (ad1 : Nat → Nat) (H1 : Heap), (∀ o, o < M → ad1 o = ad o) → WH Γ Y (M + 1) ad1 (sN σ M N) s H1 locs → W p l e R s m args below meth c H1 locs (cells + 1) (slots + N) Q (F0 m (pc + 3) ls (.ref (ad1 M) :: rest))) : W p l e R s m args below meth c H locs cells slots Q (F0 m pc ls (.int n :: rest)) := by
  refine va_newq hc.1 hc.2.1 hc.2.2.2.1 (hc.2.2.2.2.1 _ hcl) hover hc.2.2.2.2.2.2.1 hw.1 hw.2.1 hw.2.2 (fun q hq => Nat.le_trans hc.2.2.2.2.2.2.2.1 hq) hn hN (by omega) hcells hslots hdg (fun q cA H1 hK hP hD hS => ?_)
  have e0 := cs_eq (cs := Γ.2.1) hac hK
  subst e0
  have he : en Y Γ.2.1 (va_up ad M q) (sN σ M N) M = .inl (Γ.2.1 (Y.2.2.2.2.2 kd), N, .inr (.inr (.inr (.inr (fun _ => none))))) := by
    rw [en_aq hkd hhi, hN0, hg]
    simp only [gr_sN, if_true]
    rfl
  have h1 := kk (va_up ad M q) H1 (fun o ho => va_up_ne _ _ (by omega)) (WH_push hg hln hRO hP hD hS he)
  rw [va_up_self] at h1
  exact h1
/-- new object -/
theorem g_newO {ci N index : Nat} {C : String} {T : u_T} {ty0 : Nat → FieldType} (hcl : vwCl[ci]? = some (C, T, N)) (hT : ∀ w ∈ u_ws C T N, w ∈ TB) (hty : ∀ k, k < N → parseFieldDescriptor (T k).2.2.1 = some (ty0 k)) (hN : Y.2.2.1 ci = N) (hci : ci < 20) (hlink : Cond.classLink own index C ∈ TB) (hinst : Cond.instantiable C N ∈ TB) (hini : Cond.initialized C ∈ TB)
    (hdef : ∀ j, j < N → defaultValue (ty0 j) = if Y.2.1 ci j = 0 then .int 0 else if Y.2.1 ci j = 1 then .long 0 else .null) (hg : Y.2.2.2.2.1 = gr) (hln : ∀ kd o, o ≠ M → Y.2.2.2.1 (sN σ M 0) kd o = Y.2.2.2.1 σ kd o) (hkd : Y.1 M = ci) (hRO : RO M σ)
    (hc : CX Γ p s m args meth c cc own nL) (hw : WH Γ Y M ad σ s H locs) (hcells : cells + 1 ≤ R.cells) (hslots : slots + N ≤ R.slots) (hdg : decode cc pc = .ok (.new index, 3))
    (kk : ∀ (ad1 : Nat → Nat) (H1 : Heap), (∀ o, o < M → ad1 o = ad o) → WH Γ Y (M + 1) ad1 (sN σ M 0) s H1 locs → W p l e R s m args below meth c H1 locs (cells + 1) (slots + N) Q (F0 m (pc + 3) ls (.ref (ad1 M) :: rest))) : W p l e R s m args below meth c H locs cells slots Q (F0 m pc ls rest) := by
  refine va_new (fs := (List.range N).map (fun j => if Y.2.1 ci j = 0 then .int 0 else if Y.2.1 ci j = 1 then .long 0 else .null)) hc.1 hc.2.1 hc.2.2.2.2.1 hT ty0 hty hc.2.2.2.1 (hc.2.2.2.2.1 _ hlink) (hc.2.2.2.2.1 _ hinst) (hc.2.2.2.2.1 _ hini) hc.2.2.2.2.2.2.1 hw.1 hw.2.1 hw.2.2 (fun q hq => Nat.le_trans hc.2.2.2.2.2.2.2.1 hq) hcl (fun j hj => by rw [hdef j hj]; simp [vp_V, hj]) hcells hslots hdg (fun q H1 hP hD hS => ?_)
  have he : en Y Γ.2.1 (va_up ad M q) (sN σ M 0) M = .inr (ci, (List.range N).map (fun j => if Y.2.1 ci j = 0 then .int 0 else if Y.2.1 ci j = 1 then .long 0 else .null)) := by
    rw [en_ob hkd hci, hN]
    congr 2
    apply List.map_congr_left
    intro j _
    unfold fv
    rw [hg]
    simp only [gi_sN, gl_sN, gr_sN, if_true]
    rfl
  have h1 := kk (va_up ad M q) H1 (fun o ho => va_up_ne _ _ (by omega)) (WH_push hg hln hRO hP hD hS he)
  rw [va_up_self] at h1
  exact h1
/-- a final field, in its constructor -/
theorem g_putF {ci N k o index : Nat} {C ref : String} {T : u_T} {ty0 : Nat → FieldType} (hcl : vwCl[ci]? = some (C, T, N)) (hT : ∀ w ∈ u_ws C T N, w ∈ TB) (hty : ∀ k, k < N → parseFieldDescriptor (T k).2.2.1 = some (ty0 k)) (hnm : ∀ a, a < N → ∀ b, b < N → a ≠ b → (T a).2.1 ≠ (T b).2.1) (hN : Y.2.2.1 ci = N) (hci : ci < 20) (hk : k < N) (hlink : Cond.fieldLink own index ref (T k).2.1 (T k).2.2.1 ∈ TB) (href : (T k).1 = ref) (hfin : (T k).2.2.2 = true) (hin : meth.name = "<init>") (hdecl : (T k).1 = own)
    {v : Value} {τ : St} (hn : narrow (ty0 k) v = v) (hfit : fits (ty0 k) v = true) (hc : CX Γ p s m args meth c cc own nL) (hw : WH Γ Y M ad σ s H locs) (ho : o < M) (hkd : Y.1 o = ci) (hτ : ∀ j, va_up (en Y Γ.2.1 ad σ) o (.inr (ci, ((List.range (Y.2.2.1 ci)).map (fv Y ad σ ci o)).set k v)) j = en Y Γ.2.1 ad τ j) (hdg : decode cc pc = .ok (.putfield index, 3))
    (kk : ∀ (H1 : Heap) (locs1 : List Loc), WH Γ Y M ad τ s H1 locs1 → W p l e R s m args below meth c H1 locs1 cells slots Q (F0 m (pc + 3) ls rest)) : W p l e R s m args below meth c H locs cells slots Q (F0 m pc ls (v :: .ref (ad o) :: rest)) := by
  subst href
  refine va_putF hc.1 hc.2.1 hc.2.2.2.2.1 hT ty0 hty hnm hc.2.2.2.1 hc.2.2.2.2.2.2.1 hw.1 hw.2.1 hw.2.2 (Γ.2.2.2.1.length + o) (wl_get ho (en_ob hkd hci)) hcl k hk (hc.2.2.2.2.1 _ hlink) (fun _ h => h) hfin hin hdecl (hty k hk) hn hfit (by simp [hN, hk]) hdg (fun H1 locs1 hP hD hS => ?_)
  rw [wl_set ho hτ] at hP hD
  exact kk H1 locs1 ⟨hP, hD, hS⟩
theorem en_srG {Y : Sy} (hg : Y.2.2.2.2.1 = gr) (hl : ∀ (σ τ : St), σ.2.2.2 = τ.2.2.2 → Y.2.2.2.1 σ = Y.2.2.2.1 τ) {cs : Nat → ClassId} {ad : Nat → Nat} {σ : St} {o ci k : Nat} {v : Option Nat} (hk : Y.1 o = ci) (hci : ci < 20) (hf : ¬ Y.2.1 ci k = 0 ∧ ¬ Y.2.1 ci k = 1) (j : Nat) :
    va_up (en Y cs ad σ) o (.inr (ci, ((List.range (Y.2.2.1 ci)).map (fv Y ad σ ci o)).set k (va_rf (v.map ad)))) j = en Y cs ad (sr σ o k v) j := by
  refine en_sr hk hci hf (hl _ _ rfl) (fun a i => ?_) j
  rw [hg]
  unfold gr sr
  by_cases ha : a = o
  · by_cases hi : i = k
    · simp [ha, hi]
    · simp [ha, hi]
  · simp [ha]
theorem en_siG {Y : Sy} (hg : Y.2.2.2.2.1 = gr) (hl : ∀ (σ τ : St), σ.2.2.2 = τ.2.2.2 → Y.2.2.2.1 σ = Y.2.2.2.1 τ) : YOk Y := by
  intro σ τ h
  refine ⟨hl σ τ (by rw [h]), ?_⟩
  rw [hg]
  funext o k
  unfold gr
  rw [h]
/-- a reference into a row of references: the row told by the state -/
theorem en_arG {Y : Sy} (hg : Y.2.2.2.2.1 = gr) (hl : ∀ (σ τ : St), σ.2.2.2 = τ.2.2.2 → Y.2.2.2.1 σ = Y.2.2.2.1 τ) {cs : Nat → ClassId} {ad : Nat → Nat} {σ : St} {o kd k r : Nat} (hk : Y.1 o = kd) (hhi : ¬ kd < 60) (j : Nat) :
    va_up (en Y cs ad σ) o (.inl (cs (Y.2.2.2.2.2 kd), Y.2.2.2.1 σ kd o, .inr (.inr (.inr (.inr (va_up (fun j => (gr σ o j).map ad) k (some (ad r)))))))) j = en Y cs ad (sr σ o k (some r)) j := by
  have h1 := hl σ (sr σ o k (some r)) rfl
  by_cases hj : j = o
  · subst hj
    rw [va_up_self, en_aq hk hhi, ← h1, hg]
    congr 7
    funext i
    by_cases hi : i = k
    · subst hi
      rw [va_up_self]
      simp [gr, sr]
    · rw [va_up_ne _ _ hi]
      simp [gr, sr, hi]
  · rw [va_up_ne _ _ hj]
    unfold en eb fv
    rw [h1, hg]
    have e1 : ∀ i, gr σ j i = gr (sr σ o k (some r)) j i := fun i => by simp [gr, sr, hj]
    have e2 : ∀ i, gi σ j i = gi (sr σ o k (some r)) j i := fun i => rfl
    have e3 : gl σ j = gl (sr σ o k (some r)) j := rfl
    simp only [e1, e2, e3]
theorem g_aastG {o kd n k r ci : Nat} {i : Int32} {q : vw_C} (hg : Y.2.2.2.2.1 = gr) (hl : ∀ (σ τ : St), σ.2.2.2 = τ.2.2.2 → Y.2.2.2.1 σ = Y.2.2.2.1 τ) (hhi : ¬ kd < 60) (hci : ci < 20) (hcl : vwCl[ci]? = some q) (hac : (tysW Γ.2.1)[Y.2.2.2.2.2 kd]? = some (Γ.2.1 (Y.2.2.2.2.2 kd), .object q.1)) (hc : CX Γ p s m args meth c cc own nL) (hw : WH Γ Y M ad σ s H locs) (ho : o < M) (hkd : Y.1 o = kd) (hr : r < M) (hkr : Y.1 r = ci) (hn : Y.2.2.2.1 σ kd o = n) (hin : vp_in i n) (hk : i.toNatClampNeg = k) (hdg : decode cc pc = .ok (.aastore, 1))
    (kk : ∀ (σ1 : St) (H1 : Heap) (locs1 : List Loc), σ1 = sr σ o k (some r) → WH Γ Y M ad σ1 s H1 locs1 → W p l e R s m args below meth c H1 locs1 cells slots Q (F0 m (pc + 1) ls rest)) : W p l e R s m args below meth c H locs cells slots Q (F0 m pc ls (.ref (ad r) :: .int i :: .ref (ad o) :: rest)) := by
  subst hn
  subst hk
  refine va_astq hc.1 hc.2.1 hc.2.2.2.2.2.2.1 hw.1 hw.2.1 hw.2.2 (Γ.2.2.2.1.length + o) (Y.2.2.2.2.2 kd) (Γ.2.2.2.1.length + r) ci (wl_get ho (en_aq hkd hhi)) hac (wl_get hr (en_ob hkr hci)) hcl hin hdg (fun H1 locs1 hP hD hS => ?_)
  rw [hg] at hP hD
  rw [wl_set ho (en_arG hg hl hkd hhi)] at hP hD
  exact kk _ H1 locs1 rfl ⟨hP, hD, hS⟩
end RULES6
