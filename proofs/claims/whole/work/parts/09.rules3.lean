theorem va_cat1 (r : Option Nat) : (va_rf r).category = 1 := by cases r <;> rfl
theorem vp_in_lit {i : Int32} {n : Nat} (h : ¬ (i < 0 ∨ n ≤ i.toNatClampNeg)) : vp_in i n := h
section RULES4
variable {Γ : Gm} {Y : Sy} {M : Nat} {ad : Nat → Nat} {σ : St} {p : Program} {l : Launch} {e : Env} {R : Room} {s : State} {m : MethodId} {args : Array Value} {below : List Frame} {meth : Method} {c : Code} {H : Heap} {locs : List Loc} {cells slots : Nat} {Q : State → Prop} {cc : ByteArray} {pc nL : Nat} {ls : Array Slot} {rest : List Value} {own : String}
theorem g_ialdK {o kd n k : Nat} {i : Int32} (hlo : ¬ kd < 20) (hhi : kd < 60) (hac : Y.2.2.2.2.2 kd = 0) (hc : CX Γ p s m args meth c cc own nL) (hw : WH Γ Y M ad σ s H locs) (ho : o < M) (hkd : Y.1 o = kd) (hn : Y.2.2.2.1 σ kd o = n) (hin : vp_in i n) (hk : i.toNatClampNeg = k) (hdg : decode cc pc = .ok (.iaload, 1))
    (kk : W p l e R s m args below meth c H locs cells slots Q (F0 m (pc + 1) ls (.int (gi σ o k) :: rest))) : W p l e R s m args below meth c H locs cells slots Q (F0 m pc ls (.int i :: .ref (ad o) :: rest)) := by
  subst hk
  exact g_iald hlo hhi hac hc hw ho hkd hn hin hdg kk
theorem g_caldK {o kd n k : Nat} {i : Int32} (hlo : ¬ kd < 20) (hhi : kd < 60) (hac : Y.2.2.2.2.2 kd = 5) (hc : CX Γ p s m args meth c cc own nL) (hw : WH Γ Y M ad σ s H locs) (ho : o < M) (hkd : Y.1 o = kd) (hn : Y.2.2.2.1 σ kd o = n) (hin : vp_in i n) (hk : i.toNatClampNeg = k) (hdg : decode cc pc = .ok (.caload, 1))
    (kk : W p l e R s m args below meth c H locs cells slots Q (F0 m (pc + 1) ls (.int (gi σ o k) :: rest))) : W p l e R s m args below meth c H locs cells slots Q (F0 m pc ls (.int i :: .ref (ad o) :: rest)) := by
  subst hk
  exact g_cald hlo hhi hac hc hw ho hkd hn hin hdg kk
theorem g_iastK {o kd n k : Nat} {i x : Int32} (hY : YOk Y) (hlo : ¬ kd < 20) (hhi : kd < 60) (hac : Y.2.2.2.2.2 kd = 0) (hc : CX Γ p s m args meth c cc own nL) (hw : WH Γ Y M ad σ s H locs) (ho : o < M) (hkd : Y.1 o = kd) (hn : Y.2.2.2.1 σ kd o = n) (hin : vp_in i n) (hk : i.toNatClampNeg = k) (hdg : decode cc pc = .ok (.iastore, 1))
    (kk : ∀ (σ1 : St) (H1 : Heap) (locs1 : List Loc), σ1 = si σ o k x → WH Γ Y M ad σ1 s H1 locs1 → W p l e R s m args below meth c H1 locs1 cells slots Q (F0 m (pc + 1) ls rest)) : W p l e R s m args below meth c H locs cells slots Q (F0 m pc ls (.int x :: .int i :: .ref (ad o) :: rest)) := by
  subst hk
  exact g_iast hY hlo hhi hac hc hw ho hkd hn hin hdg (fun H1 locs1 hw1 => kk _ H1 locs1 rfl hw1)
theorem g_taldK {k : Nat} {i v : Int32} (hc : CX Γ p s m args meth c cc own nL) (hw : WH Γ Y M ad σ s H locs) (hin : vp_in i 3) (hk : i.toNatClampNeg = k) (hv : mtv k = v) (hdg : decode cc pc = .ok (.iaload, 1))
    (kk : W p l e R s m args below meth c H locs cells slots Q (F0 m (pc + 1) ls (.int v :: rest))) : W p l e R s m args below meth c H locs cells slots Q (F0 m pc ls (.int i :: .ref Γ.2.2.2.2.2.2 :: rest)) := by
  subst hk
  subst hv
  exact g_tald hc hw hin hdg kk
theorem g_aaldK {o kd n k : Nat} {i : Int32} {r : Option Nat} {C : String} (hhi : ¬ kd < 60) (hac : (tysW Γ.2.1)[Y.2.2.2.2.2 kd]? = some (Γ.2.1 (Y.2.2.2.2.2 kd), .object C)) (hc : CX Γ p s m args meth c cc own nL) (hw : WH Γ Y M ad σ s H locs) (ho : o < M) (hkd : Y.1 o = kd) (hn : Y.2.2.2.1 σ kd o = n) (hin : vp_in i n) (hk : i.toNatClampNeg = k) (hr : Y.2.2.2.2.1 σ o k = r) (hdg : decode cc pc = .ok (.aaload, 1))
    (kk : W p l e R s m args below meth c H locs cells slots Q (F0 m (pc + 1) ls (va_rf (r.map ad) :: rest))) : W p l e R s m args below meth c H locs cells slots Q (F0 m pc ls (.int i :: .ref (ad o) :: rest)) := by
  subst hk
  subst hr
  exact g_aald hhi hac hc hw ho hkd hn hin hdg kk
theorem g_copyK {index o0 o1 kd0 kd1 n0 n1 : Nat} {sp dp n : Int32} (hY : YOk Y) (hlink : Cond.methodLink own index arraycopyName ∈ TB) (hnat : Cond.native arraycopyName ∈ TB) (hst : Cond.static arraycopyName ∈ TB) (hini : Cond.initialized "java/lang/System" ∈ TB)
    (h0 : (¬ kd0 < 20) ∧ kd0 < 60 ∧ Y.2.2.2.2.2 kd0 = 0) (h1 : (¬ kd1 < 20) ∧ kd1 < 60 ∧ Y.2.2.2.2.2 kd1 = 0) (hc : CX Γ p s m args meth c cc own nL) (hw : WH Γ Y M ad σ s H locs) (hl : ls.size = nL) (ho0 : o0 < M) (ho1 : o1 < M) (hk0 : Y.1 o0 = kd0) (hk1 : Y.1 o1 = kd1) (hn0 : Y.2.2.2.1 σ kd0 o0 = n0) (hn1 : Y.2.2.2.1 σ kd1 o1 = n1)
    (hi : (¬ sp < 0) ∧ (¬ dp < 0) ∧ (¬ n < 0) ∧ sp.toNatClampNeg + n.toNatClampNeg ≤ n0 ∧ dp.toNatClampNeg + n.toNatClampNeg ≤ n1) (hR : 1 ≤ R.frames ∧ 60 ≤ R.locals) (hs : (rest.map fun v => v.category).sum ≤ 8) (hdg : decode cc pc = .ok (.invokestatic index, 3))
    (kk : ∀ (σ1 : St) (H1 : Heap) (locs1 : List Loc), σ1 = so σ o1 (va_cpy (fun j => gi σ o0 j) (fun j => gi σ o1 j) sp.toNatClampNeg dp.toNatClampNeg n.toNatClampNeg) → WH Γ Y M ad σ1 s H1 locs1 → W p l e R s m args below meth c H1 locs1 cells slots Q (F0 m (pc + 3) ls rest)) :
    W p l e R s m args below meth c H locs cells slots Q (F0 m pc ls (.int n :: .int dp :: .ref (ad o1) :: .int sp :: .ref (ad o0) :: rest)) :=
  g_copy hY hlink hnat hst hini h0 h1 hc hw hl ho0 ho1 hk0 hk1 hn0 hn1 hi hR hs hdg (fun H1 locs1 hw1 => kk _ H1 locs1 rfl hw1)
end RULES4
