theorem lnC_st (σ τ : St) (h : σ.2.2.2 = τ.2.2.2) : lnC σ = lnC τ := by
  have h1 : ∀ o, gz σ o = gz τ o := fun o => by unfold gz; rw [h]
  funext kd o
  unfold lnC
  rw [h1]
theorem lnN_st (σ τ : St) (_h : σ.2.2.2 = τ.2.2.2) : lnN σ = lnN τ := rfl
theorem lnC_sN {M n : Nat} (σ : St) (kd o : Nat) (h : o ≠ M) : lnC (sN σ M n) kd o = lnC σ kd o := by
  unfold lnC
  rw [gz_sN, if_neg h]
theorem YG_ok : YOk YG := en_siG rfl lnC_st
theorem YN_ok : YOk YN := en_siG rfl lnN_st
theorem RO_sN {M n : Nat} {σ : St} (h : RO M σ) : RO (M + 1) (sN σ M n) := by
  intro o k r hr
  rw [gr_sN] at hr
  by_cases ho : o = M
  · rw [if_pos ho] at hr; cases hr
  · rw [if_neg ho] at hr
    have := h o k r hr
    omega
theorem RO_sr {M o k r : Nat} {σ : St} (h : RO M σ) (hr : r < M) : RO M (sr σ o k (some r)) := by
  intro a b x hx
  unfold gr sr at hx
  simp only at hx
  by_cases ha : a = o
  · rw [if_pos ha] at hx
    by_cases hb : b = k
    · rw [if_pos hb] at hx; cases hx; exact hr
    · rw [if_neg hb] at hx; exact h a b x hx
  · rw [if_neg ha] at hx; exact h a b x hx
theorem RO_si {M o k : Nat} {v : Int32} {σ : St} (h : RO M σ) : RO M (si σ o k v) := h
theorem RO_so {M o : Nat} {f : Nat → Int32} {σ : St} (h : RO M σ) : RO M (so σ o f) := h
/-- a maker's contract: M1 cells behind it -/
abbrev Dv (l : Launch) (Γ : Gm) (Y : Sy) (M M1 : Nat) (ad : Nat → Nat) (σ : St) (y : MethodName) (b : ByteArray) (mx : Nat) (k mc ms : Nat) (avs : List Value) (post : St → Prop) : Prop :=
  Met l y (Cond.code y b mx none :: TB) (rmL k mc ms) (va_Pc avs (fun U => WC Γ Y M ad σ U ∧ RO M σ)) (va_Qv post (fun u t => ∃ a1 : Nat → Nat, (∀ o, o < M → a1 o = ad o) ∧ WC Γ Y M1 a1 u t ∧ RO M1 u) (AA Γ)) mc ms (AA Γ)
def IW (own : String) (index : Nat) (y : MethodName) (b : ByteArray) (mx n : Nat) : Prop :=
  Cond.instanceMethod y ∈ TB ∧ Cond.initialized y.cls ∈ TB ∧ Cond.code y b mx none ∈ TB ∧ y.name = "<init>" ∧ (y.cls ≠ "java/lang/invoke/MethodHandle" ∧ y.cls ≠ "java/lang/invoke/VarHandle" ∧ (parseMethodDescriptor y.desc).map (fun d => d.parameters.length) = some n)
section RULES7
variable {Γ : Gm} {Y : Sy} {M M0 M1 : Nat} {ad ad1 : Nat → Nat} {σ : St} {p : Program} {l : Launch} {e : Env} {R : Room} {s : State} {m : MethodId} {args : Array Value} {below : List Frame} {meth : Method} {c : Code} {H : Heap} {locs : List Loc} {cells slots : Nat} {Q : State → Prop} {cc : ByteArray} {pc nL : Nat} {ls : Array Slot} {rest st : List Value} {own : String}
theorem IW.good {index : Nat} {y : MethodName} {b : ByteArray} {mx n : Nat} (h : IW own index y b mx n) : GoodIn TB (Cond.code y b mx none :: TB) := by
  refine TB_good _ (fun w hw => ?_)
  rcases List.mem_cons.mp hw with rfl | hw
  · exact h.2.2.1
  · exact hw
theorem g_initN {index o n mx k mc ms : Nat} {host : String} {y : MethodName} {b : ByteArray} {As : List Value} {post : St → Prop} (hwd : IW own index y b mx n) (hnw : Cond.methodLinkNest own index y host ∈ NW) (hR : 2 * k + 4 + 1 ≤ R.frames ∧ 8 + (mx + 11) + 60 * (k + 1) ≤ R.locals ∧ cells + mc ≤ R.cells ∧ slots + ms ≤ R.slots) (hRO : RO M σ)
    (hc : CX Γ p s m args meth c cc own nL) (hw : WH Γ Y M ad σ s H locs) (hl : ls.size = nL) (hM : Dv l Γ Y M M1 ad σ y b mx k mc ms (.ref (ad o) :: As) post) (hn : As.length = n) (hst : st = As.reverse ++ .ref (ad o) :: rest) (hs : (rest.map fun v => v.category).sum ≤ 8) (hdg : decode cc pc = .ok (.invokespecial index, 3))
    (kk : ∀ (u : St) (a1 : Nat → Nat) (H1 : Heap) (locs1 : List Loc), post u → (∀ o, o < M → a1 o = ad o) → RO M1 u → WH Γ Y M1 a1 u s H1 locs1 → W p l e R s m args below meth c H1 locs1 (cells + mc) (slots + ms) Q (F0 m (pc + 3) ls rest)) : W p l e R s m args below meth c H locs cells slots Q (F0 m pc ls st) := by
  subst hst
  exact va_callv (va_runIN (As := As) (rest := rest) ⟨hc.1, hc.2.1, hc.2.2.1, hc.2.2.2.1, hc.2.2.2.2.1⟩ hM ⟨va_cnB n hc.2.2.2.2.1 hwd.good rfl rfl rfl (hc.2.2.2.2.2.2.2.2.1 _ hnw) (hc.2.2.2.2.1 _ hwd.2.1) hwd.2.2.2.2 ⟨hR.1, hR.2.1⟩, hwd.2.2.2.1, hc.2.2.2.2.1 _ hwd.1⟩ ⟨fun a U g mk q => ⟨q.1, q.2.1.calling g mk a, q.2.2⟩, fun U hU hW => ⟨rfl, hw.wc hc hU hW, hRO⟩⟩ rfl hn hl rfl (lv_room hs) hdg ⟨hR.2.2.1, hR.2.2.2⟩) hw.2.2 (fun q _ h => h) (fun q h => h) (fun u t H1 locs1 ht hvm hp hB _ _ hS => by obtain ⟨a1, hag, hWC, hRO1⟩ := hB; exact kk u a1 H1 locs1 hp hag hRO1 (hWC.wh ht hS))
theorem g_initI {index o n mx k mc ms : Nat} {y : MethodName} {b : ByteArray} {As : List Value} {post : St → Prop} (hwd : IW own index y b mx n) (hlink : Cond.methodLink own index y ∈ TB) (hR : 2 * k + 4 + 1 ≤ R.frames ∧ 8 + (mx + 11) + 60 * (k + 1) ≤ R.locals ∧ cells + mc ≤ R.cells ∧ slots + ms ≤ R.slots) (hRO : RO M σ)
    (hc : CX Γ p s m args meth c cc own nL) (hw : WH Γ Y M ad σ s H locs) (hl : ls.size = nL) (hM : Dv l Γ Y M M1 ad σ y b mx k mc ms (.ref (ad o) :: As) post) (hn : As.length = n) (hst : st = As.reverse ++ .ref (ad o) :: rest) (hs : (rest.map fun v => v.category).sum ≤ 8) (hdg : decode cc pc = .ok (.invokespecial index, 3))
    (kk : ∀ (u : St) (a1 : Nat → Nat) (H1 : Heap) (locs1 : List Loc), post u → (∀ o, o < M → a1 o = ad o) → RO M1 u → WH Γ Y M1 a1 u s H1 locs1 → W p l e R s m args below meth c H1 locs1 (cells + mc) (slots + ms) Q (F0 m (pc + 3) ls rest)) : W p l e R s m args below meth c H locs cells slots Q (F0 m pc ls st) := by
  subst hst
  exact va_callv (va_runI (As := As) (rest := rest) ⟨hc.1, hc.2.1, hc.2.2.1, hc.2.2.2.1, hc.2.2.2.2.1⟩ hM (cwI n hc.2.2.2.2.1 hwd.good rfl rfl rfl (hc.2.2.2.2.1 _ hwd.2.1) (hc.2.2.2.2.1 _ hlink) (hc.2.2.2.2.1 _ hwd.1) hwd.2.2.2.1 hwd.2.2.2.2 ⟨hR.1, hR.2.1⟩) ⟨fun a U g mk q => ⟨q.1, q.2.1.calling g mk a, q.2.2⟩, fun U hU hW => ⟨rfl, hw.wc hc hU hW, hRO⟩⟩ rfl hn hl rfl (lv_room hs) hdg ⟨hR.2.2.1, hR.2.2.2⟩) hw.2.2 (fun q _ h => h) (fun q h => h) (fun u t H1 locs1 ht hvm hp hB _ _ hS => by obtain ⟨a1, hag, hWC, hRO1⟩ := hB; exact kk u a1 H1 locs1 hp hag hRO1 (hWC.wh ht hS))
theorem g_vretG (hc : CX Γ p s m args meth c cc own nL) (hr : meth.sig.returnType = none) (hw : WH Γ Y M1 ad1 σ s H locs) (hag : ∀ o, o < M0 → ad1 o = ad o) (hRO : RO M1 σ) {post : St → Prop} (h : post σ) (hdg : decode cc pc = .ok (.return_, 1)) :
    W p l e R s m args below meth c H locs cells slots (MQ below (va_Qv post (fun u t => ∃ a1 : Nat → Nat, (∀ o, o < M0 → a1 o = ad o) ∧ WC Γ Y M1 a1 u t ∧ RO M1 u) (AA Γ)) args s cells slots (AA Γ)) (F0 m pc ls []) :=
  W.vret hc.1 hc.2.1 hr (fun t ht hW => ⟨⟨σ, rfl, h, ad1, hag, hw.wc hc ht hW, hRO⟩, hw.2.2.F ht⟩) hw.2.2.2.2 hdg hc.2.2.2.2.2.1
theorem g_startG {y : MethodName} {b : ByteArray} {mx k mc ms : Nat} {ret : Option FieldType} {avs : List Value} {Qc : Array Value → State → Outcome → State → Prop} (hy : plainName y.cls = true) (hle : (lg_sl avs).length ≤ mx)
    (body : ∀ (p : Program) (e : Env) (s : State) (m : MethodId) (args : Array Value) (below : List Frame) (meth : Method) (c : Code) (ls : Array Slot), CX Γ p s m args meth c b y.cls mx → meth.sig.returnType = ret → meth.name = y.name → lv_has ls mx (lv_args 0 avs) → WH Γ Y M ad σ s s.heap [] → RO M σ →
      W p l e (rmL k mc ms) s m args below meth c s.heap [] 0 0 (MQ below Qc args s mc ms (AA Γ)) (F0 m 0 ls [])) :
    Met l y (Cond.code y b mx ret :: TB) (rmL k mc ms) (va_Pc avs (fun U => WC Γ Y M ad σ U ∧ RO M σ)) Qc mc ms (AA Γ) := by
  refine Met.ofW (cc := b) (maxL := mx) (ret := ret) hy rfl ?_
  intro p e s m args below meth c s₁ B hml hv
  obtain ⟨rfl, ⟨h1, h2, h3, h4, h5⟩, hRO⟩ := hv
  have hts := atoms_spec (ws := Cond.code y b mx ret :: TB) B.pre
  have hl := lv_entry avs (n := mx) hle
  rw [lg_entry_eq]
  exact body p e s m _ below meth c _ ⟨B.exec, B.bytes, hml, findClass_of_methodNamed B.named, fun w hw => hts w (List.mem_cons_of_mem _ hw), B.notSynchronized, h3, h4, h5⟩ B.returns (name_of_methodNamed B.named B.method).1 hl ⟨h1, h2, va_S.rf⟩ hRO
/-- Object's constructor -/
theorem g_obj {index a : Nat} (hlink : Cond.methodLink own index objectInit ∈ TB) (hinst : Cond.instanceMethod objectInit ∈ TB) (hcode : Cond.code objectInit ⟨#[0xb1]⟩ 1 none ∈ TB) (hc : CX Γ p s m args meth c cc own nL) (hl : ls.size = nL) (hR : 1 ≤ R.frames ∧ 60 ≤ R.locals) (hs : (rest.map fun v => v.category).sum ≤ 8) (hdg : decode cc pc = .ok (.invokespecial index, 3))
    (kk : W p l e R s m args below meth c H locs cells slots Q (F0 m (pc + 3) ls rest)) : W p l e R s m args below meth c H locs cells slots Q (F0 m pc ls (.ref a :: rest)) :=
  W.objInit hc.1 hc.2.1 hc.2.2.2.1 (hc.2.2.2.2.1 _ hlink) (hc.2.2.2.2.1 _ hinst) (hc.2.2.2.2.1 _ hcode) rfl (hl.trans hc.2.2.1.symm) rfl hdg hR.1 (by show 2 * 0 + _ + 12 ≤ _; omega) (W.eq rfl kk)
end RULES7
section RULES8
variable {Γ : Gm} {Y : Sy} {M : Nat} {ad : Nat → Nat} {σ : St} {p : Program} {l : Launch} {e : Env} {R : Room} {s : State} {m : MethodId} {args : Array Value} {below : List Frame} {meth : Method} {c : Code} {H : Heap} {locs : List Loc} {cells slots : Nat} {Q : State → Prop} {cc : ByteArray} {pc nL : Nat} {ls : Array Slot} {rest st : List Value} {own : String}
theorem g_newac {n : Int32} {N kd : Nat} (hg : Y.2.2.2.2.1 = gr) (hln : ∀ kd o, o ≠ M → Y.2.2.2.1 (sN σ M N) kd o = Y.2.2.2.1 σ kd o) (harr : Cond.arrayClass .char ∈ TB) (hkd : Y.1 M = kd) (hlo : ¬ kd < 20) (hhi : kd < 60) (hac : Y.2.2.2.2.2 kd = 5) (hN0 : Y.2.2.2.1 (sN σ M N) kd M = N) (hRO : RO M σ)
    (hc : CX Γ p s m args meth c cc own nL) (hw : WH Γ Y M ad σ s H locs) (hn : ¬ n < 0) (hN : n.toNatClampNeg = N) (hb : N ≤ 100000) (hcells : cells + 1 ≤ R.cells) (hslots : slots + N ≤ R.slots) (hdg : decode cc pc = .ok (.newarray .char, 2))
    (kk : ∀ (ad1 : Nat → Nat) (H1 : Heap), (∀ o, o < M → ad1 o = ad o) → WH Γ Y (M + 1) ad1 (sN σ M N) s H1 locs → W p l e R s m args below meth c H1 locs (cells + 1) (slots + N) Q (F0 m (pc + 2) ls (.ref (ad1 M) :: rest))) : W p l e R s m args below meth c H locs cells slots Q (F0 m pc ls (.int n :: rest)) := by
  refine va_newa (atype := .char) (ty := .char) (a0 := (N, .inl (fun _ => 0))) hc.1 hc.2.1 (hc.2.2.2.2.1 _ harr) rfl hc.2.2.2.2.2.2.1 hw.1 hw.2.1 hw.2.2 (fun q hq => Nat.le_trans hc.2.2.2.2.2.2.2.1 hq) (fun cA => rfl) hn hN (by show N * 2 ≤ _; omega) hcells hslots hdg (fun q cA H1 hK hP hD hS => ?_)
  have e0 := cs_eq (k := 5) (cs := Γ.2.1) (ty := .char) rfl hK
  subst e0
  have he : en Y Γ.2.1 (va_up ad M q) (sN σ M N) M = .inl (Γ.2.1 5, N, .inl (fun _ => 0)) := by
    rw [en_ai hkd hlo hhi, hac, hN0]
    simp only [gi_sN, if_true]
  have h1 := kk (va_up ad M q) H1 (fun o ho => va_up_ne _ _ (by omega)) (WH_push hg hln hRO hP hD hS he)
  rw [va_up_self] at h1
  exact h1
theorem g_castK {o kd n k : Nat} {i x v : Int32} (hY : YOk Y) (hlo : ¬ kd < 20) (hhi : kd < 60) (hac : Y.2.2.2.2.2 kd = 5) (hc : CX Γ p s m args meth c cc own nL) (hw : WH Γ Y M ad σ s H locs) (ho : o < M) (hkd : Y.1 o = kd) (hn : Y.2.2.2.1 σ kd o = n) (hin : vp_in i n) (hk : i.toNatClampNeg = k) (hv : vp_nar .char x = v) (hdg : decode cc pc = .ok (.castore, 1))
    (kk : ∀ (σ1 : St) (H1 : Heap) (locs1 : List Loc), σ1 = si σ o k v → WH Γ Y M ad σ1 s H1 locs1 → W p l e R s m args below meth c H1 locs1 cells slots Q (F0 m (pc + 1) ls rest)) : W p l e R s m args below meth c H locs cells slots Q (F0 m pc ls (.int x :: .int i :: .ref (ad o) :: rest)) := by
  subst hn
  subst hk
  subst hv
  refine va_cast hc.1 hc.2.1 hc.2.2.2.2.2.2.1 hw.1 hw.2.1 hw.2.2 (Γ.2.2.2.1.length + o) 5 (wl_get ho (en_ai hkd hlo hhi)) (by rw [hac]; rfl) hin hdg (fun H1 locs1 hP hD hS => ?_)
  rw [wl_set ho (en_row hY hkd hlo hhi), so_upd] at hP hD
  exact kk _ H1 locs1 rfl ⟨hP, hD, hS⟩
end RULES8
