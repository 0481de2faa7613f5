section RULES2
variable {Γ : Gm} {Y : Sy} {M : Nat} {ad : Nat → Nat} {σ : St} {p : Program} {l : Launch} {e : Env} {R : Room} {s : State} {m : MethodId} {args : Array Value} {below : List Frame} {meth : Method} {c : Code} {H : Heap} {locs : List Loc} {cells slots : Nat} {Q : State → Prop} {cc : ByteArray} {pc nL : Nat} {ls : Array Slot} {rest : List Value} {own : String}
theorem fv_at {ci k o : Nat} (h : k < Y.2.2.1 ci) : ((List.range (Y.2.2.1 ci)).map (fv Y ad σ ci o))[k]? = some (fv Y ad σ ci o k) := by simp [h]
theorem en_ob {o ci : Nat} {cs : Nat → ClassId} (hk : Y.1 o = ci) (hci : ci < 20) : en Y cs ad σ o = .inr (ci, (List.range (Y.2.2.1 ci)).map (fv Y ad σ ci o)) := by
  unfold en eb
  rw [hk, if_pos hci]
theorem en_ai {o kd : Nat} {cs : Nat → ClassId} (hk : Y.1 o = kd) (hlo : ¬ kd < 20) (hhi : kd < 60) : en Y cs ad σ o = .inl (cs (Y.2.2.2.2.2 kd), Y.2.2.2.1 σ kd o, .inl (fun j => gi σ o j)) := by
  unfold en eb
  rw [hk, if_neg hlo, if_pos hhi]
theorem en_aq {o kd : Nat} {cs : Nat → ClassId} (hk : Y.1 o = kd) (hhi : ¬ kd < 60) : en Y cs ad σ o = .inl (cs (Y.2.2.2.2.2 kd), Y.2.2.2.1 σ kd o, .inr (.inr (.inr (.inr (fun j => (Y.2.2.2.2.1 σ o j).map ad))))) := by
  unfold en eb
  rw [hk, if_neg (fun h => hhi (by omega)), if_neg hhi]
/-- getfield, any type -/
theorem g_get {ci N k o index : Nat} {C ref : String} {T : u_T} (hcl : vwCl[ci]? = some (C, T, N)) (hT : ∀ w ∈ u_ws C T N, w ∈ TB) (hN : Y.2.2.1 ci = N) (hci : ci < 20) (hk : k < N) (hlink : Cond.fieldLink own index ref (T k).2.1 (T k).2.2.1 ∈ TB) (href : (T k).1 = ref)
    (hc : CX Γ p s m args meth c cc own nL) (hw : WH Γ Y M ad σ s H locs) (ho : o < M) (hkd : Y.1 o = ci) (hdg : decode cc pc = .ok (.getfield index, 3))
    (kk : W p l e R s m args below meth c H locs cells slots Q (F0 m (pc + 3) ls (fv Y ad σ ci o k :: rest))) : W p l e R s m args below meth c H locs cells slots Q (F0 m pc ls (.ref (ad o) :: rest)) := by
  subst href
  exact va_get hc.1 hc.2.1 hc.2.2.2.2.1 hT hc.2.2.2.1 hc.2.2.2.2.2.2.1 hw.1 (Γ.2.2.2.1.length + o) (wl_get ho (en_ob hkd hci)) hcl k hk (hc.2.2.2.2.1 _ hlink) (fun _ h => h) (fv_at (by rw [hN]; exact hk)) hdg kk
theorem g_getN {ci N k o index : Nat} {C ref host : String} {T : u_T} (hcl : vwCl[ci]? = some (C, T, N)) (hT : ∀ w ∈ u_ws C T N, w ∈ TB) (hN : Y.2.2.1 ci = N) (hci : ci < 20) (hk : k < N) (hlink : Cond.fieldLinkNest own index ref (T k).2.1 (T k).2.2.1 host ∈ NW) (href : (T k).1 = ref)
    (hc : CX Γ p s m args meth c cc own nL) (hw : WH Γ Y M ad σ s H locs) (ho : o < M) (hkd : Y.1 o = ci) (hdg : decode cc pc = .ok (.getfield index, 3))
    (kk : W p l e R s m args below meth c H locs cells slots Q (F0 m (pc + 3) ls (fv Y ad σ ci o k :: rest))) : W p l e R s m args below meth c H locs cells slots Q (F0 m pc ls (.ref (ad o) :: rest)) := by
  subst href
  exact va_getN hc.1 hc.2.1 hc.2.2.2.2.1 hT hc.2.2.2.1 hc.2.2.2.2.2.2.1 hw.1 (Γ.2.2.2.1.length + o) (wl_get ho (en_ob hkd hci)) hcl k hk (va_Nw.use rfl (hc.2.2.2.2.2.2.2.2.1 _ hlink)) (fun _ h => h) (fv_at (by rw [hN]; exact hk)) hdg kk
/-- putfield of a value v that makes the state τ -/
theorem g_put {ci N k o index : Nat} {C ref : String} {T : u_T} {ty0 : Nat → FieldType} (hcl : vwCl[ci]? = some (C, T, N)) (hT : ∀ w ∈ u_ws C T N, w ∈ TB) (hty : ∀ k, k < N → parseFieldDescriptor (T k).2.2.1 = some (ty0 k)) (hnm : ∀ a, a < N → ∀ b, b < N → a ≠ b → (T a).2.1 ≠ (T b).2.1) (hN : Y.2.2.1 ci = N) (hci : ci < 20) (hk : k < N) (hlink : Cond.fieldLink own index ref (T k).2.1 (T k).2.2.1 ∈ TB) (href : (T k).1 = ref) (hfin : (T k).2.2.2 = false)
    {v : Value} {τ : St} (hn : narrow (ty0 k) v = v) (hfit : fits (ty0 k) v = true) (hc : CX Γ p s m args meth c cc own nL) (hw : WH Γ Y M ad σ s H locs) (ho : o < M) (hkd : Y.1 o = ci) (hτ : ∀ j, va_up (en Y Γ.2.1 ad σ) o (.inr (ci, ((List.range (Y.2.2.1 ci)).map (fv Y ad σ ci o)).set k v)) j = en Y Γ.2.1 ad τ j) (hdg : decode cc pc = .ok (.putfield index, 3))
    (kk : ∀ (H1 : Heap) (locs1 : List Loc), WH Γ Y M ad τ s H1 locs1 → W p l e R s m args below meth c H1 locs1 cells slots Q (F0 m (pc + 3) ls rest)) : W p l e R s m args below meth c H locs cells slots Q (F0 m pc ls (v :: .ref (ad o) :: rest)) := by
  subst href
  refine va_put hc.1 hc.2.1 hc.2.2.2.2.1 hT ty0 hty hnm hc.2.2.2.1 hc.2.2.2.2.2.2.1 hw.1 hw.2.1 hw.2.2 (Γ.2.2.2.1.length + o) (wl_get ho (en_ob hkd hci)) hcl k hk (hc.2.2.2.2.1 _ hlink) (fun _ h => h) hfin (hty k hk) hn hfit (by simp [hN, hk]) hdg (fun H1 locs1 hP hD hS => ?_)
  rw [wl_set ho hτ] at hP hD
  exact kk H1 locs1 ⟨hP, hD, hS⟩
theorem g_putN {ci N k o index : Nat} {C ref host : String} {T : u_T} {ty0 : Nat → FieldType} (hcl : vwCl[ci]? = some (C, T, N)) (hT : ∀ w ∈ u_ws C T N, w ∈ TB) (hty : ∀ k, k < N → parseFieldDescriptor (T k).2.2.1 = some (ty0 k)) (hnm : ∀ a, a < N → ∀ b, b < N → a ≠ b → (T a).2.1 ≠ (T b).2.1) (hN : Y.2.2.1 ci = N) (hci : ci < 20) (hk : k < N) (hlink : Cond.fieldLinkNest own index ref (T k).2.1 (T k).2.2.1 host ∈ NW) (href : (T k).1 = ref) (hfin : (T k).2.2.2 = false)
    {v : Value} {τ : St} (hn : narrow (ty0 k) v = v) (hfit : fits (ty0 k) v = true) (hc : CX Γ p s m args meth c cc own nL) (hw : WH Γ Y M ad σ s H locs) (ho : o < M) (hkd : Y.1 o = ci) (hτ : ∀ j, va_up (en Y Γ.2.1 ad σ) o (.inr (ci, ((List.range (Y.2.2.1 ci)).map (fv Y ad σ ci o)).set k v)) j = en Y Γ.2.1 ad τ j) (hdg : decode cc pc = .ok (.putfield index, 3))
    (kk : ∀ (H1 : Heap) (locs1 : List Loc), WH Γ Y M ad τ s H1 locs1 → W p l e R s m args below meth c H1 locs1 cells slots Q (F0 m (pc + 3) ls rest)) : W p l e R s m args below meth c H locs cells slots Q (F0 m pc ls (v :: .ref (ad o) :: rest)) := by
  subst href
  refine va_putN hc.1 hc.2.1 hc.2.2.2.2.1 hT ty0 hty hnm hc.2.2.2.1 hc.2.2.2.2.2.2.1 hw.1 hw.2.1 hw.2.2 (Γ.2.2.2.1.length + o) (wl_get ho (en_ob hkd hci)) hcl k hk (va_Nw.use rfl (hc.2.2.2.2.2.2.2.2.1 _ hlink)) (fun _ h => h) hfin (hty k hk) hn hfit (by simp [hN, hk]) hdg (fun H1 locs1 hP hD hS => ?_)
  rw [wl_set ho hτ] at hP hD
  exact kk H1 locs1 ⟨hP, hD, hS⟩
/-- rows of ints -/
theorem g_iald {o kd n : Nat} {i : Int32} (hlo : ¬ kd < 20) (hhi : kd < 60) (hac : Y.2.2.2.2.2 kd = 0) (hc : CX Γ p s m args meth c cc own nL) (hw : WH Γ Y M ad σ s H locs) (ho : o < M) (hkd : Y.1 o = kd) (hn : Y.2.2.2.1 σ kd o = n) (hin : vp_in i n) (hdg : decode cc pc = .ok (.iaload, 1))
    (kk : W p l e R s m args below meth c H locs cells slots Q (F0 m (pc + 1) ls (.int (gi σ o i.toNatClampNeg) :: rest))) : W p l e R s m args below meth c H locs cells slots Q (F0 m pc ls (.int i :: .ref (ad o) :: rest)) := by
  subst hn
  exact va_iald hc.1 hc.2.1 hc.2.2.2.2.2.2.1 hw.1 (Γ.2.2.2.1.length + o) 0 (wl_get ho (by rw [en_ai hkd hlo hhi, hac])) rfl hin hdg kk
theorem g_iast {o kd n : Nat} {i x : Int32} (hY : YOk Y) (hlo : ¬ kd < 20) (hhi : kd < 60) (hac : Y.2.2.2.2.2 kd = 0) (hc : CX Γ p s m args meth c cc own nL) (hw : WH Γ Y M ad σ s H locs) (ho : o < M) (hkd : Y.1 o = kd) (hn : Y.2.2.2.1 σ kd o = n) (hin : vp_in i n) (hdg : decode cc pc = .ok (.iastore, 1))
    (kk : ∀ (H1 : Heap) (locs1 : List Loc), WH Γ Y M ad (si σ o i.toNatClampNeg x) s H1 locs1 → W p l e R s m args below meth c H1 locs1 cells slots Q (F0 m (pc + 1) ls rest)) : W p l e R s m args below meth c H locs cells slots Q (F0 m pc ls (.int x :: .int i :: .ref (ad o) :: rest)) := by
  subst hn
  refine va_iast hc.1 hc.2.1 hc.2.2.2.2.2.2.1 hw.1 hw.2.1 hw.2.2 (Γ.2.2.2.1.length + o) 0 (wl_get ho (en_ai hkd hlo hhi)) (by rw [hac]; rfl) hin hdg (fun H1 locs1 hP hD hS => ?_)
  rw [wl_set ho (en_row hY hkd hlo hhi), so_upd] at hP hD
  exact kk H1 locs1 ⟨hP, hD, hS⟩
theorem g_cald {o kd n : Nat} {i : Int32} (hlo : ¬ kd < 20) (hhi : kd < 60) (hac : Y.2.2.2.2.2 kd = 5) (hc : CX Γ p s m args meth c cc own nL) (hw : WH Γ Y M ad σ s H locs) (ho : o < M) (hkd : Y.1 o = kd) (hn : Y.2.2.2.1 σ kd o = n) (hin : vp_in i n) (hdg : decode cc pc = .ok (.caload, 1))
    (kk : W p l e R s m args below meth c H locs cells slots Q (F0 m (pc + 1) ls (.int (gi σ o i.toNatClampNeg) :: rest))) : W p l e R s m args below meth c H locs cells slots Q (F0 m pc ls (.int i :: .ref (ad o) :: rest)) := by
  subst hn
  exact va_cald hc.1 hc.2.1 hc.2.2.2.2.2.2.1 hw.1 (Γ.2.2.2.1.length + o) 5 (wl_get ho (by rw [en_ai hkd hlo hhi, hac])) rfl hin hdg kk
theorem g_aleni {o kd : Nat} {v : Int32} (hlo : ¬ kd < 20) (hhi : kd < 60) {ty : FieldType} (hac : (tysW Γ.2.1)[Y.2.2.2.2.2 kd]? = some (Γ.2.1 (Y.2.2.2.2.2 kd), ty)) (hc : CX Γ p s m args meth c cc own nL) (hw : WH Γ Y M ad σ s H locs) (ho : o < M) (hkd : Y.1 o = kd) (hv : Int32.ofNat (Y.2.2.2.1 σ kd o) = v) (hdg : decode cc pc = .ok (.arraylength, 1))
    (kk : W p l e R s m args below meth c H locs cells slots Q (F0 m (pc + 1) ls (.int v :: rest))) : W p l e R s m args below meth c H locs cells slots Q (F0 m pc ls (.ref (ad o) :: rest)) :=
  va_alen hc.1 hc.2.1 hc.2.2.2.2.2.2.1 hw.1 (Γ.2.2.2.1.length + o) (Y.2.2.2.2.2 kd) (wl_get ho (en_ai hkd hlo hhi)) hac hv hdg kk
theorem g_alenq {o kd : Nat} {v : Int32} (hhi : ¬ kd < 60) {ty : FieldType} (hac : (tysW Γ.2.1)[Y.2.2.2.2.2 kd]? = some (Γ.2.1 (Y.2.2.2.2.2 kd), ty)) (hc : CX Γ p s m args meth c cc own nL) (hw : WH Γ Y M ad σ s H locs) (ho : o < M) (hkd : Y.1 o = kd) (hv : Int32.ofNat (Y.2.2.2.1 σ kd o) = v) (hdg : decode cc pc = .ok (.arraylength, 1))
    (kk : W p l e R s m args below meth c H locs cells slots Q (F0 m (pc + 1) ls (.int v :: rest))) : W p l e R s m args below meth c H locs cells slots Q (F0 m pc ls (.ref (ad o) :: rest)) :=
  va_alen hc.1 hc.2.1 hc.2.2.2.2.2.2.1 hw.1 (Γ.2.2.2.1.length + o) (Y.2.2.2.2.2 kd) (wl_get ho (en_aq hkd hhi)) hac hv hdg kk
/-- rows of references -/
theorem g_aald {o kd n : Nat} {i : Int32} {C : String} (hhi : ¬ kd < 60) (hac : (tysW Γ.2.1)[Y.2.2.2.2.2 kd]? = some (Γ.2.1 (Y.2.2.2.2.2 kd), .object C)) (hc : CX Γ p s m args meth c cc own nL) (hw : WH Γ Y M ad σ s H locs) (ho : o < M) (hkd : Y.1 o = kd) (hn : Y.2.2.2.1 σ kd o = n) (hin : vp_in i n) (hdg : decode cc pc = .ok (.aaload, 1))
    (kk : W p l e R s m args below meth c H locs cells slots Q (F0 m (pc + 1) ls (va_rf ((Y.2.2.2.2.1 σ o i.toNatClampNeg).map ad) :: rest))) : W p l e R s m args below meth c H locs cells slots Q (F0 m pc ls (.int i :: .ref (ad o) :: rest)) := by
  subst hn
  exact va_aldq (f := fun j => (Y.2.2.2.2.1 σ o j).map ad) hc.1 hc.2.1 hc.2.2.2.2.2.2.1 hw.1 (Γ.2.2.2.1.length + o) (Y.2.2.2.2.2 kd) (wl_get ho (en_aq hkd hhi)) hac hin hdg kk
/-- a reference that may be null, in a local variable, on the stack -/
theorem g_aloadq (hx : p.tables.exec = Jvm.exec) (hb : c.code = cc) {k : Fin 4} {i : Nat} {r : Option Nat} (hdg : decode cc pc = .ok (.aload_n k, 1)) (hi : (k : Nat) = i) (hl : ls[i]? = some (.val (va_rf r)))
    (kk : W p l e R s m args below meth c H locs cells slots Q (F0 m (pc + 1) ls (va_rf r :: rest))) : W p l e R s m args below meth c H locs cells slots Q (F0 m pc ls rest) := by
  cases r with
  | none => exact lv_aload_nN hx hb hdg hi hl kk
  | some a => exact lv_aload_n hx hb hdg hi hl kk
theorem g_aloadqW (hx : p.tables.exec = Jvm.exec) (hb : c.code = cc) {i : Nat} {r : Option Nat} (hdg : decode cc pc = .ok (.aload i, 2)) (hl : ls[i]? = some (.val (va_rf r)))
    (kk : W p l e R s m args below meth c H locs cells slots Q (F0 m (pc + 2) ls (va_rf r :: rest))) : W p l e R s m args below meth c H locs cells slots Q (F0 m pc ls rest) := by
  cases r with
  | none => exact lv_aloadN hx hb hdg hl kk
  | some a => exact lv_aload hx hb hdg hl kk
theorem g_astoreq (hx : p.tables.exec = Jvm.exec) (hb : c.code = cc) {k : Fin 4} {i nL : Nat} {r : Option Nat} {lv lv' : List (Nat × Value)} (hdg : decode cc pc = .ok (.astore_n k, 1)) (hi : (k : Nat) = i) (h : lv_has ls nL lv) (hn : i < nL) (hl : (i, va_rf r) :: lv.filter (fun q => !(q.1 == i) && !(q.1 + 1 == i && q.2.category == 2)) = lv')
    (kk : ∀ ls' : Array Slot, lv_has ls' nL lv' → W p l e R s m args below meth c H locs cells slots Q (F0 m (pc + 1) ls' rest)) : W p l e R s m args below meth c H locs cells slots Q (F0 m pc ls (va_rf r :: rest)) := by
  cases r with
  | none => exact lv_astore_nN hx hb hdg hi h hn hl kk
  | some a => exact lv_astore_n hx hb hdg hi h hn hl kk
theorem g_astoreqW (hx : p.tables.exec = Jvm.exec) (hb : c.code = cc) {i nL : Nat} {r : Option Nat} {lv lv' : List (Nat × Value)} (hdg : decode cc pc = .ok (.astore i, 2)) (h : lv_has ls nL lv) (hn : i < nL) (hl : (i, va_rf r) :: lv.filter (fun q => !(q.1 == i) && !(q.1 + 1 == i && q.2.category == 2)) = lv')
    (kk : ∀ ls' : Array Slot, lv_has ls' nL lv' → W p l e R s m args below meth c H locs cells slots Q (F0 m (pc + 2) ls' rest)) : W p l e R s m args below meth c H locs cells slots Q (F0 m pc ls (va_rf r :: rest)) := by
  cases r with
  | none => exact lv_astoreN hx hb hdg h hn hl kk
  | some a => exact lv_astore hx hb hdg h hn hl kk
theorem g_ifnull (hx : p.tables.exec = Jvm.exec) (hb : c.code = cc) {r : Option Nat} {off : Int} {tgt : Nat} (hdg : decode cc pc = .ok (.ifnull off, 3)) (ht : (pc : Int) + off = (tgt : Int))
    (kt : r = none → W p l e R s m args below meth c H locs cells slots Q (F0 m tgt ls rest)) (kf : ∀ a : Nat, r = some a → W p l e R s m args below meth c H locs cells slots Q (F0 m (pc + 3) ls rest)) : W p l e R s m args below meth c H locs cells slots Q (F0 m pc ls (va_rf (r.map ad) :: rest)) := by
  cases r with
  | none => exact lv_ifnullN hx hb hdg ht (kt rfl)
  | some a => exact lv_ifnull hx hb hdg (kf a rfl)
theorem g_ifnonnull (hx : p.tables.exec = Jvm.exec) (hb : c.code = cc) {r : Option Nat} {off : Int} {tgt : Nat} (hdg : decode cc pc = .ok (.ifnonnull off, 3)) (ht : (pc : Int) + off = (tgt : Int))
    (kt : ∀ a : Nat, r = some a → W p l e R s m args below meth c H locs cells slots Q (F0 m tgt ls rest)) (kf : r = none → W p l e R s m args below meth c H locs cells slots Q (F0 m (pc + 3) ls rest)) : W p l e R s m args below meth c H locs cells slots Q (F0 m pc ls (va_rf (r.map ad) :: rest)) := by
  cases r with
  | none => exact lv_ifnonnullN hx hb hdg (kf rfl)
  | some a => exact lv_ifnonnull hx hb hdg ht (kt a rfl)
/-- the static row -/
theorem g_gets {index : Nat} (hc : CX Γ p s m args meth c cc own nL) (hw : WH Γ Y M ad σ s H locs) (hlink : Cond.fieldLink own index "ThreadsAndSplits" "MOST_TOLD" "[I" ∈ TB) (hdg : decode cc pc = .ok (.getstatic index, 3))
    (kk : W p l e R s m args below meth c H locs cells slots Q (F0 m (pc + 3) ls (.ref Γ.2.2.2.2.2.2 :: rest))) : W p l e R s m args below meth c H locs cells slots Q (F0 m pc ls rest) :=
  va_gets hc.1 hc.2.1 hc.2.2.2.2.2.2.2.2.2.1.1 hw.2.2 hc.2.2.2.1 (hc.2.2.2.2.1 _ hlink) (fun _ h => h) hdg kk
theorem g_tald {i : Int32} (hc : CX Γ p s m args meth c cc own nL) (hw : WH Γ Y M ad σ s H locs) (hin : vp_in i 3) (hdg : decode cc pc = .ok (.iaload, 1))
    (kk : W p l e R s m args below meth c H locs cells slots Q (F0 m (pc + 1) ls (.int (mtv i.toNatClampNeg) :: rest))) : W p l e R s m args below meth c H locs cells slots Q (F0 m pc ls (.int i :: .ref Γ.2.2.2.2.2.2 :: rest)) :=
  va_ti (v := .int (mtv i.toNatClampNeg)) hc.1 hc.2.1 hc.2.2.2.2.2.2.2.2.2.1.2 hw.2.2 hin rfl hdg kk
/-- Math -/
theorem g_max {index : Nat} {x y : Int32} (hlink : Cond.methodLink own index Lib.Math.max.name ∈ TB) (hst : Cond.static Lib.Math.max.name ∈ TB) (hini : Cond.initialized "java/lang/Math" ∈ TB) (hcode : Cond.code Lib.Math.max.name Lib.Math.max.code 2 (some .int) ∈ TB) (hc : CX Γ p s m args meth c cc own nL) (hl : ls.size = nL)
    (hR : 1 ≤ R.frames ∧ 60 ≤ R.locals ∧ cells ≤ R.cells ∧ slots ≤ R.slots) (hs : (rest.map fun v => v.category).sum ≤ 8) (hdg : decode cc pc = .ok (.invokestatic index, 3))
    (kk : W p l e R s m args below meth c H locs cells slots Q (F0 m (pc + 3) ls (.int (if x < y then y else x) :: rest))) : W p l e R s m args below meth c H locs cells slots Q (F0 m pc ls (.int y :: .int x :: rest)) :=
  va_mmax hc.1 hc.2.1 (hc.2.2.1.trans hl.symm) hc.2.2.2.1 (hc.2.2.2.2.1 _ hlink) (hc.2.2.2.2.1 _ hst) (hc.2.2.2.2.1 _ hini) (hc.2.2.2.2.1 _ hcode) hR.1 (by omega) hR.2.2.1 hR.2.2.2 hdg kk
theorem g_min {index : Nat} {x y : Int32} (hlink : Cond.methodLink own index Lib.Math.min.name ∈ TB) (hst : Cond.static Lib.Math.min.name ∈ TB) (hini : Cond.initialized "java/lang/Math" ∈ TB) (hcode : Cond.code Lib.Math.min.name Lib.Math.min.code 2 (some .int) ∈ TB) (hc : CX Γ p s m args meth c cc own nL) (hl : ls.size = nL)
    (hR : 1 ≤ R.frames ∧ 60 ≤ R.locals ∧ cells ≤ R.cells ∧ slots ≤ R.slots) (hs : (rest.map fun v => v.category).sum ≤ 8) (hdg : decode cc pc = .ok (.invokestatic index, 3))
    (kk : W p l e R s m args below meth c H locs cells slots Q (F0 m (pc + 3) ls (.int (if y < x then y else x) :: rest))) : W p l e R s m args below meth c H locs cells slots Q (F0 m pc ls (.int y :: .int x :: rest)) :=
  va_mmin hc.1 hc.2.1 (hc.2.2.1.trans hl.symm) hc.2.2.2.1 (hc.2.2.2.2.1 _ hlink) (hc.2.2.2.2.1 _ hst) (hc.2.2.2.2.1 _ hini) (hc.2.2.2.2.1 _ hcode) hR.1 (by omega) hR.2.2.1 hR.2.2.2 hdg kk
/-- System.arraycopy over two rows of ints -/
theorem g_copy {index o0 o1 kd0 kd1 n0 n1 : Nat} {sp dp n : Int32} (hY : YOk Y) (hlink : Cond.methodLink own index arraycopyName ∈ TB) (hnat : Cond.native arraycopyName ∈ TB) (hst : Cond.static arraycopyName ∈ TB) (hini : Cond.initialized "java/lang/System" ∈ TB)
    (h0 : (¬ kd0 < 20) ∧ kd0 < 60 ∧ Y.2.2.2.2.2 kd0 = 0) (h1 : (¬ kd1 < 20) ∧ kd1 < 60 ∧ Y.2.2.2.2.2 kd1 = 0) (hc : CX Γ p s m args meth c cc own nL) (hw : WH Γ Y M ad σ s H locs) (hl : ls.size = nL) (ho0 : o0 < M) (ho1 : o1 < M) (hk0 : Y.1 o0 = kd0) (hk1 : Y.1 o1 = kd1) (hn0 : Y.2.2.2.1 σ kd0 o0 = n0) (hn1 : Y.2.2.2.1 σ kd1 o1 = n1)
    (hi : (¬ sp < 0) ∧ (¬ dp < 0) ∧ (¬ n < 0) ∧ sp.toNatClampNeg + n.toNatClampNeg ≤ n0 ∧ dp.toNatClampNeg + n.toNatClampNeg ≤ n1) (hR : 1 ≤ R.frames ∧ 60 ≤ R.locals) (hs : (rest.map fun v => v.category).sum ≤ 8) (hdg : decode cc pc = .ok (.invokestatic index, 3))
    (kk : ∀ (H1 : Heap) (locs1 : List Loc), WH Γ Y M ad (so σ o1 (va_cpy (fun j => gi σ o0 j) (fun j => gi σ o1 j) sp.toNatClampNeg dp.toNatClampNeg n.toNatClampNeg)) s H1 locs1 → W p l e R s m args below meth c H1 locs1 cells slots Q (F0 m (pc + 3) ls rest)) :
    W p l e R s m args below meth c H locs cells slots Q (F0 m pc ls (.int n :: .int dp :: .ref (ad o1) :: .int sp :: .ref (ad o0) :: rest)) := by
  subst hn0; subst hn1
  refine va_copyi hc.1 hc.2.1 (hc.2.2.1.trans hl.symm) hc.2.2.2.1 (hc.2.2.2.2.1 _ hlink) (hc.2.2.2.2.1 _ hnat) (hc.2.2.2.2.1 _ hst) (hc.2.2.2.2.1 _ hini) hc.2.2.2.2.2.2.1 hw.1 hw.2.1 hw.2.2 (Γ.2.2.2.1.length + o0) (Γ.2.2.2.1.length + o1) 0 0 (wl_get ho0 (en_ai hk0 h0.1 h0.2.1)) (wl_get ho1 (en_ai hk1 h1.1 h1.2.1)) (by rw [h0.2.2]; rfl) (by rw [h1.2.2]; rfl) rfl hi.1 hi.2.1 hi.2.2.1 hi.2.2.2.1 hi.2.2.2.2 (fun _ _ => rfl) hR.1 (Nat.le_trans (Nat.add_le_add_right hs _) (Nat.le_trans (Nat.le_of_ble_eq_true rfl) hR.2)) hdg (fun H1 locs1 hP hD hS => ?_)
  rw [wl_set ho1 (en_row hY hk1 h1.1 h1.2.1)] at hP hD
  exact kk H1 locs1 ⟨hP, hD, hS⟩
end RULES2
