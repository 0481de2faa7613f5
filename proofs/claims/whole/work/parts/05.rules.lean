def mtv (j : Nat) : Int32 := if j = 1 then 99 else 9
def tx0 : String := "melt heat * 2 + sour - 20 ; split heat - 50 - sour * 2 - starch ; thread 60 - age + heat ;"
def tx1 : String := "melt   split  thread or     and    not    heat   sour   starch water  fat    age    "
def tx2 : String := "();+-*<="
def bytT : List (List Int32) := [[109, 101, 108, 116, 32, 104, 101, 97, 116, 32, 42, 32, 50, 32, 43, 32, 115, 111, 117, 114, 32, 45, 32, 50, 48, 32, 59, 32, 115, 112, 108, 105, 116, 32, 104, 101, 97, 116, 32, 45, 32, 53, 48, 32, 45, 32, 115, 111, 117, 114, 32, 42, 32, 50, 32, 45, 32, 115, 116, 97, 114, 99, 104, 32, 59, 32, 116, 104, 114, 101, 97, 100, 32, 54, 48, 32, 45, 32, 97, 103, 101, 32, 43, 32, 104, 101, 97, 116, 32, 59], [109, 101, 108, 116, 32, 32, 32, 115, 112, 108, 105, 116, 32, 32, 116, 104, 114, 101, 97, 100, 32, 111, 114, 32, 32, 32, 32, 32, 97, 110, 100, 32, 32, 32, 32, 110, 111, 116, 32, 32, 32, 32, 104, 101, 97, 116, 32, 32, 32, 115, 111, 117, 114, 32, 32, 32, 115, 116, 97, 114, 99, 104, 32, 119, 97, 116, 101, 114, 32, 32, 102, 97, 116, 32, 32, 32, 32, 97, 103, 101, 32, 32, 32, 32], [40, 41, 59, 43, 45, 42, 60, 61]]
def lenT : List Nat := [90, 84, 8]
def EV (Γ : Gm) (U : State) : Prop :=
  (∀ w ∈ NW, va_Nw w U) ∧
  (va_Z "ThreadsAndSplits" "MOST_TOLD" "[I" (.ref Γ.2.2.2.2.2.2) (AA Γ) U U.heap ∧ va_T .int Γ.2.2.2.2.2.2 3 (fun j => .int (mtv j)) (AA Γ) U U.heap) ∧
  (vk_S 3 lenT bytT Γ.2.2.2.2.1 Γ.2.2.2.2.2.1 (AA Γ) U U.heap ∧ vk_R "ThreadsAndSplits" 71 tx0 (Γ.2.2.2.2.1 0) U ∧ vk_R "ThreadsAndSplits$Reader" 115 tx1 (Γ.2.2.2.2.1 1) U ∧ vk_R "ThreadsAndSplits$Reader" 108 tx2 (Γ.2.2.2.2.1 2) U) ∧
  (va_Z "java/lang/String" "COMPACT_STRINGS" "Z" (.int 1) (AA Γ) U U.heap ∧ va_Zq "jdk/internal/util/Preconditions" "SIOOBE_FORMATTER" "Ljava/util/function/BiFunction;" (AA Γ) U U.heap) ∧
  (va_AO "ThreadsAndSplits$Cheese" U ∧ va_AO "ThreadsAndSplits$Act" U ∧ va_AO "ThreadsAndSplits$Law" U ∧ va_AO "ThreadsAndSplits$Sheet" U)
theorem nw_warm {s U : State} (hW : s.WarmedH U.vm) (h : ∀ w ∈ NW, va_Nw w s) : ∀ w ∈ NW, va_Nw w U := by
  intro w hw
  have hz := h w hw
  have hn := (List.mem_filter.mp hw).2
  cases w <;> first | (simp [k_isNest] at hn; done) | exact va_Nw.warmF hW hz | exact va_Nw.warmM hW hz
theorem EV_moved {Γ : Gm} {u U : State} (h : EV Γ u) (hW : u.WarmedH U.vm) (hq : ∀ q : Nat, q < u.heap.size → ¬ AA Γ q → U.heap[q]? = u.heap[q]?) : EV Γ U := by
  obtain ⟨h1, ⟨h2, h3⟩, ⟨h4, h5, h6, h7⟩, ⟨h8, h9⟩, h10, h11, h12, h13⟩ := h
  have ha := hW.alike
  exact ⟨nw_warm hW h1, ⟨(h2.kept hq).moved ha, (h3.kept hq).moved ha⟩, ⟨(h4.kept hq).moved ha, h5.warm hW, h6.warm hW, h7.warm hW⟩, ⟨(h8.kept hq).moved ha, (h9.kept hq).moved ha⟩, h10.moved ha, h11.moved ha, h12.moved ha, h13.moved ha⟩
/-- what a walk knows all along -/
def CX (Γ : Gm) (p : Program) (s : State) (m : MethodId) (args : Array Value) (meth : Method) (c : Code) (cc : ByteArray) (own : String) (nL : Nat) : Prop :=
  p.tables.exec = Jvm.exec ∧ c.code = cc ∧ c.maxLocals = nL ∧ s.vm.findClass own = some m.cls ∧ (∀ w ∈ TB, w.before args s = true) ∧ meth.locks = false ∧ va_K Γ.1 vwCl (tysW Γ.2.1) s ∧ Γ.2.2.1 ≤ s.heap.size ∧ EV Γ s
/-- the world at a point of a walk -/
def WH (Γ : Gm) (Y : Sy) (M : Nat) (ad : Nat → Nat) (σ : St) (s : State) (H : Heap) (locs : List Loc) : Prop :=
  va_P Γ.1 vwCl (Γ.2.2.2.1 ++ wl M ad (en Y Γ.2.1 ad σ)) H ∧ va_D (AA Γ) (Γ.2.2.2.1 ++ wl M ad (en Y Γ.2.1 ad σ)) ∧ va_S (AA Γ) s.heap H locs
/-- the world at a method's start and end -/
def WC (Γ : Gm) (Y : Sy) (M : Nat) (ad : Nat → Nat) (σ : St) (U : State) : Prop :=
  va_P Γ.1 vwCl (Γ.2.2.2.1 ++ wl M ad (en Y Γ.2.1 ad σ)) U.heap ∧ va_D (AA Γ) (Γ.2.2.2.1 ++ wl M ad (en Y Γ.2.1 ad σ)) ∧ va_K Γ.1 vwCl (tysW Γ.2.1) U ∧ Γ.2.2.1 ≤ U.heap.size ∧ EV Γ U
def rmL (k mc ms : Nat) : Room := { frames := 2 * k + 4, cells := mc, slots := ms, locals := 60 * (k + 1) }
abbrev Ci (l : Launch) (Γ : Gm) (Y : Sy) (M : Nat) (ad : Nat → Nat) (σ : St) (y : MethodName) (b : ByteArray) (mx : Nat) (ret : Option FieldType) (k mc ms : Nat) (avs : List Value) (post : Int32 → St → Prop) : Prop :=
  Met l y (Cond.code y b mx ret :: TB) (rmL k mc ms) (va_Pc avs (WC Γ Y M ad σ)) (va_Qi post (fun u t => WC Γ Y M ad u t) (AA Γ)) mc ms (AA Γ)
abbrev Cl (l : Launch) (Γ : Gm) (Y : Sy) (M : Nat) (ad : Nat → Nat) (σ : St) (y : MethodName) (b : ByteArray) (mx : Nat) (ret : Option FieldType) (k mc ms : Nat) (avs : List Value) (post : Int64 → St → Prop) : Prop :=
  Met l y (Cond.code y b mx ret :: TB) (rmL k mc ms) (va_Pc avs (WC Γ Y M ad σ)) (va_Ql post (fun u t => WC Γ Y M ad u t) (AA Γ)) mc ms (AA Γ)
abbrev Cv (l : Launch) (Γ : Gm) (Y : Sy) (M : Nat) (ad : Nat → Nat) (σ : St) (y : MethodName) (b : ByteArray) (mx : Nat) (ret : Option FieldType) (k mc ms : Nat) (avs : List Value) (post : St → Prop) : Prop :=
  Met l y (Cond.code y b mx ret :: TB) (rmL k mc ms) (va_Pc avs (WC Γ Y M ad σ)) (va_Qv post (fun u t => WC Γ Y M ad u t) (AA Γ)) mc ms (AA Γ)
abbrev Ce (l : Launch) (Γ : Gm) (Y : Sy) (M : Nat) (ad : Nat → Nat) (σ : St) (y : MethodName) (b : ByteArray) (mx : Nat) (ret : Option FieldType) (k mc ms : Nat) (avs : List Value) (post : Option Nat → St → Prop) : Prop :=
  Met l y (Cond.code y b mx ret :: TB) (rmL k mc ms) (va_Pc avs (WC Γ Y M ad σ)) (va_Qe ad post (fun u t => WC Γ Y M ad u t) (AA Γ)) mc ms (AA Γ)
section RULES
variable {Γ : Gm} {Y : Sy} {M : Nat} {ad : Nat → Nat} {σ : St} {p : Program} {l : Launch} {e : Env} {R : Room} {s : State} {m : MethodId} {args : Array Value} {below : List Frame} {meth : Method} {c : Code} {H : Heap} {locs : List Loc} {cells slots : Nat} {Q : State → Prop} {cc : ByteArray} {pc nL : Nat} {ls : Array Slot} {rest : List Value} {own : String}
theorem WH.wc (hc : CX Γ p s m args meth c cc own nL) (hw : WH Γ Y M ad σ s H locs) {U : State} (hU : U.heap = H) (hW : s.WarmedH U.vm) : WC Γ Y M ad σ U := by
  obtain ⟨h1, h2, h3⟩ := hw
  obtain ⟨-, -, -, -, -, -, hK, hb, hE⟩ := hc
  refine ⟨by rw [hU]; exact h1, h2, va_K.moved hW.alike hK, by rw [hU]; exact Nat.le_trans hb h3.1, EV_moved hE hW (by rw [hU]; exact h3.2.1)⟩
theorem WC.calling {σ : St} {U : State} (h : WC Γ Y M ad σ U) (g : JFrame) (mk : MethodId) (a : Array Value) : WC Γ Y M ad σ (U.calling g mk a) := by
  obtain ⟨h1, h2, h3, h4, h5⟩ := h
  exact ⟨h1, h2, va_K.moved (u := U) (U := U.calling g mk a) (Vm.Alike.refl U.vm) h3, h4, EV_moved h5 (State.WarmedH.refl U) (fun _ _ _ => rfl)⟩
theorem WC.wh {U : State} {u : St} (h : WC Γ Y M ad u U) (hU : U.heap = H) (hS : va_S (AA Γ) s.heap H locs) : WH Γ Y M ad u s H locs := by
  obtain ⟨h1, h2, -⟩ := h
  rw [hU] at h1
  exact ⟨h1, h2, hS⟩
theorem g_iret (hc : CX Γ p s m args meth c cc own nL) (hr : meth.sig.returnType = some .int) (hw : WH Γ Y M ad σ s H locs) {post : Int32 → St → Prop} {v : Int32} (h : post v σ) (hdg : decode cc pc = .ok (.ireturn, 1)) :
    W p l e R s m args below meth c H locs cells slots (MQ below (va_Qi post (fun u t => WC Γ Y M ad u t) (AA Γ)) args s cells slots (AA Γ)) (F0 m pc ls [.int v]) :=
  W.iret hc.1 hc.2.1 hr (fun t ht hW => ⟨⟨v, σ, rfl, h, hw.wc hc ht hW⟩, hw.2.2.F ht⟩) hw.2.2.2.2 hdg hc.2.2.2.2.2.1
theorem g_zret (hc : CX Γ p s m args meth c cc own nL) {ty : FieldType} (hr : meth.sig.returnType = some ty) (hw : WH Γ Y M ad σ s H locs) {post : Int32 → St → Prop} {v : Int32} (hn : narrow ty (.int v) = .int v) (h : post v σ) (hdg : decode cc pc = .ok (.ireturn, 1)) :
    W p l e R s m args below meth c H locs cells slots (MQ below (va_Qi post (fun u t => WC Γ Y M ad u t) (AA Γ)) args s cells slots (AA Γ)) (F0 m pc ls [.int v]) :=
  W.zret hc.1 hc.2.1 hr hn (fun t ht hW => ⟨⟨v, σ, rfl, h, hw.wc hc ht hW⟩, hw.2.2.F ht⟩) hw.2.2.2.2 hdg hc.2.2.2.2.2.1
theorem g_lret (hc : CX Γ p s m args meth c cc own nL) (hr : meth.sig.returnType = some .long) (hw : WH Γ Y M ad σ s H locs) {post : Int64 → St → Prop} {v : Int64} (h : post v σ) (hdg : decode cc pc = .ok (.lreturn, 1)) :
    W p l e R s m args below meth c H locs cells slots (MQ below (va_Ql post (fun u t => WC Γ Y M ad u t) (AA Γ)) args s cells slots (AA Γ)) (F0 m pc ls [.long v]) :=
  W.lret hc.1 hc.2.1 hr (fun t ht hW => ⟨⟨v, σ, rfl, h, hw.wc hc ht hW⟩, hw.2.2.F ht⟩) hw.2.2.2.2 hdg hc.2.2.2.2.2.1
theorem g_vret (hc : CX Γ p s m args meth c cc own nL) (hr : meth.sig.returnType = none) (hw : WH Γ Y M ad σ s H locs) {post : St → Prop} (h : post σ) (hdg : decode cc pc = .ok (.return_, 1)) :
    W p l e R s m args below meth c H locs cells slots (MQ below (va_Qv post (fun u t => WC Γ Y M ad u t) (AA Γ)) args s cells slots (AA Γ)) (F0 m pc ls []) :=
  W.vret hc.1 hc.2.1 hr (fun t ht hW => ⟨⟨σ, rfl, h, hw.wc hc ht hW⟩, hw.2.2.F ht⟩) hw.2.2.2.2 hdg hc.2.2.2.2.2.1
theorem g_eret (hc : CX Γ p s m args meth c cc own nL) {nm : String} (hr : meth.sig.returnType = some (.object nm)) (hw : WH Γ Y M ad σ s H locs) {post : Option Nat → St → Prop} {r : Option Nat} {v : Value} (hv : va_re ad r = v) (h : post r σ) (hdg : decode cc pc = .ok (.areturn, 1)) :
    W p l e R s m args below meth c H locs cells slots (MQ below (va_Qe ad post (fun u t => WC Γ Y M ad u t) (AA Γ)) args s cells slots (AA Γ)) (F0 m pc ls [v]) := by
  subst hv
  exact W.aret hc.1 hc.2.1 hr (Or.inl ⟨nm, rfl⟩) (va_re_or ad r) (fun t ht hW => ⟨⟨r, σ, rfl, h, hw.wc hc ht hW⟩, hw.2.2.F ht⟩) hw.2.2.2.2 hdg hc.2.2.2.2.2.1
/-- a walk's start -/
theorem g_start {y : MethodName} {b : ByteArray} {mx k mc ms : Nat} {ret : Option FieldType} {avs : List Value} {Qc : Array Value → State → Outcome → State → Prop} (hy : plainName y.cls = true) (hle : (lg_sl avs).length ≤ mx)
    (body : ∀ (p : Program) (e : Env) (s : State) (m : MethodId) (args : Array Value) (below : List Frame) (meth : Method) (c : Code) (ls : Array Slot), CX Γ p s m args meth c b y.cls mx → meth.sig.returnType = ret → meth.name = y.name → lv_has ls mx (lv_args 0 avs) → WH Γ Y M ad σ s s.heap [] →
      W p l e (rmL k mc ms) s m args below meth c s.heap [] 0 0 (MQ below Qc args s mc ms (AA Γ)) (F0 m 0 ls [])) :
    Met l y (Cond.code y b mx ret :: TB) (rmL k mc ms) (va_Pc avs (WC Γ Y M ad σ)) Qc mc ms (AA Γ) := by
  refine Met.ofW (cc := b) (maxL := mx) (ret := ret) hy rfl ?_
  intro p e s m args below meth c s₁ B hml hv
  obtain ⟨rfl, h1, h2, h3, h4, h5⟩ := hv
  have hts := atoms_spec (ws := Cond.code y b mx ret :: TB) B.pre
  have hl := lv_entry avs (n := mx) hle
  rw [lg_entry_eq]
  exact body p e s m _ below meth c _ ⟨B.exec, B.bytes, hml, findClass_of_methodNamed B.named, fun w hw => hts w (List.mem_cons_of_mem _ hw), B.notSynchronized, h3, h4, h5⟩ B.returns (name_of_methodNamed B.named B.method).1 hl ⟨h1, h2, va_S.rf⟩
end RULES
