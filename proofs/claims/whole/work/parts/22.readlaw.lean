theorem rl_447 : Cond.classLink RX4 50 RX2 ∈ TB := TB_at 447 (by decide +kernel) rfl
theorem rl_449 : Cond.methodLink RX4 52 yX2_init ∈ TB := TB_at 449 (by decide +kernel) rfl
theorem rl_450 : Cond.instanceMethod yX2_init ∈ TB := TB_at 450 (by decide +kernel) rfl
set_option maxRecDepth 100000 in
theorem rl_451 : Cond.code yX2_init cX2_init 4 none ∈ TB := TB_at 451 rfl rfl
theorem rl_iw : IW RX4 52 yX2_init cX2_init 4 3 := ⟨rl_450, q_88, rl_451, rfl, by decide +kernel⟩
/-- what readLaw gives: the answer's cell, the state, how many cells there are then -/
abbrev QRL (Γ : Gm) (M : Nat) (ad : Nat → Nat) (post : Option Nat → St → Nat → Prop) : Array Value → State → Outcome → State → Prop :=
  va_Qq (fun (r : Option Nat) (u : St × Nat × (Nat → Nat) × Option Nat) => r = u.2.2.2.map u.2.2.1 ∧ M ≤ u.2.1 ∧ post u.2.2.2 u.1 u.2.1) (fun u t => (∀ o, o < M → u.2.2.1 o = ad o) ∧ WC Γ YC u.2.1 u.2.2.1 u.1 t) (AA Γ)
/-- a new cell's row, the references as they are -/
def sR (σ : St) (M n : Nat) : St := (fun a b => if a = M then 0 else σ.1 a b, fun a => if a = M then 0 else σ.2.1 a, σ.2.2.1, fun a => if a = M then n else σ.2.2.2 a)
def rlT (M : Nat) (σ : St) : St := si (si (sR (so (sR σ M (gi σ 5 8).toNatClampNeg) M (va_cpy (fun j => gi σ 7 j) (fun _ => 0) 0 0 (gi σ 5 8).toNatClampNeg)) (M + 1) 0) (M + 1) 1 (gi σ 8 0)) (M + 1) 2 (gi σ 8 1)
/-- readLaw from the place where it makes the law -/
def w_X4_readLaw_105 (M : Nat) (post : Option Nat → St → Nat → Prop) (σ : St) : Prop :=
  (¬ gi σ 5 8 < 0) ∧ (gi σ 5 8).toNatClampNeg ≤ 160 ∧ LR M σ ∧ (M - 53) % 2 = 0 ∧ post (some (M + 1)) (rlT M σ) (M + 2)
set_option maxHeartbeats 4000000 in
set_option maxRecDepth 20000 in
theorem b_X4_readLaw_105 {Γ : Gm} {ad : Nat → Nat} {p : Program} {l : Launch} {e : Env} {s : State} {m : MethodId} {args : Array Value} {below : List Frame} {meth : Method} {c : Code} {M : Nat} (hM : 53 ≤ M) {post : Option Nat → St → Nat → Prop}
     (σ : St) (H : Heap) (locs : List Loc) (ls : Array Slot) (h : w_X4_readLaw_105 M post σ) (hc : CX Γ p s m args meth c cX4_readLaw RX4 2) (hr : meth.sig.returnType = some (.object "ThreadsAndSplits$Law")) (hw : WH Γ YC M ad σ s H locs) (hl : lv_has ls 2 [(0, .ref (ad 5))]) :
    W p l e (rmL 151 2 163) s m args below meth c H locs 0 0 (MQ below (QRL Γ M ad post) args s 2 163 (AA Γ)) (F0 m 105 ls []) := by
  have hx := hc.1
  have hb := hc.2.1
  obtain ⟨h1, h2, h3, h4, h⟩ := h
  have hRO := RO_toG hM h3
  have hw := WH_toG hw
  have hk0 : kdC M = 26 := by rw [kdC_hi hM, if_pos h4]
  have hk1 : kdC (M + 1) = 2 := by rw [kdC_hi (by omega), if_neg (by omega)]
  obtain ⟨N, eN⟩ : ∃ z, z = (gi σ 5 8).toNatClampNeg := ⟨_, rfl⟩
  have hN : N ≤ 160 := by rw [eN]; exact h2
  obtain ⟨σ0, e0⟩ : ∃ z, z = toG M σ := ⟨_, rfl⟩
  rw [← e0] at hw hRO
  have G7 : gr σ0 5 7 = some 7 := by rw [e0, gr_toG, rvC_ob (by omega) (by decide) (by decide) (by decide)]; rfl
  have G8 : gr σ0 5 9 = some 8 := by rw [e0, gr_toG, rvC_ob (by omega) (by decide) (by decide) (by decide)]; rfl
  have g0 : ∀ o k, gi σ0 o k = gi σ o k := fun o k => by rw [e0, gi_toG]
  refine lv_aload_n hx hb dX4_readLaw_105 rfl (lv_at hl 0 rfl) ?_
  refine g_get (Y := YG) (o := 5) (ci := 4) (N := 10) (k := 8) (C := RX4) (T := TX4) rfl inT4 rfl (by decide) (by decide) q_118 rfl hc hw (by omega) rfl dX4_readLaw_106 ?_
  rw [show fv YG ad σ0 4 5 8 = .int (gi σ 5 8) from by show Value.int (gi σ0 5 8) = _; rw [g0]]
  refine g_newa (Y := YG) (M := M) (N := N) (kd := 26) rfl (lnC_sN _) q_141 hk0 (by decide) (by decide) rfl (by show gz (sN σ0 M N) M = N; rw [gz_sN, if_pos rfl]) hRO hc hw h1 eN.symm (by omega) (by decide) (by show 0 + N ≤ 163; omega) dX4_readLaw_109 (fun ad1 H hag hw => ?_)
  obtain ⟨σ1, e1⟩ : ∃ z, z = sN σ0 M N := ⟨_, rfl⟩
  replace hRO := RO_sN (n := N) hRO
  rw [← e1] at hw hRO
  have g1 : ∀ o k, o < M → gi σ1 o k = gi σ o k := fun o k ho => by rw [e1, gi_sN, if_neg (by omega), g0]
  have G7 : gr σ1 5 7 = some 7 := by rw [e1, gr_sN, if_neg (by omega)]; exact G7
  have G8 : gr σ1 5 9 = some 8 := by rw [e1, gr_sN, if_neg (by omega)]; exact G8
  have hl : lv_has ls 2 [(0, .ref (ad1 5))] := by rw [hag 5 (by omega)]; exact hl
  refine lv_astore_n (lv' := [(1, .ref (ad1 M)), (0, .ref (ad1 5))]) hx hb dX4_readLaw_111 rfl hl (by decide) rfl (fun ls hl => ?_)
  refine lv_aload_n hx hb dX4_readLaw_112 rfl (lv_at hl 1 rfl) ?_
  refine g_get (Y := YG) (o := 5) (ci := 4) (N := 10) (k := 7) (C := RX4) (T := TX4) rfl inT4 rfl (by decide) (by decide) q_117 rfl hc hw (by omega) rfl dX4_readLaw_113 ?_
  rw [show fv YG ad1 σ1 4 5 7 = .ref (ad1 7) from by show va_rf (Option.map ad1 (gr σ1 5 7)) = _; rw [G7]; rfl]
  refine lv_iconst (v := 0) hx hb dX4_readLaw_116 (by decide) ?_
  refine lv_aload_n hx hb dX4_readLaw_117 rfl (lv_at hl 0 rfl) ?_
  refine lv_iconst (v := 0) hx hb dX4_readLaw_118 (by decide) ?_
  refine lv_aload_n hx hb dX4_readLaw_119 rfl (lv_at hl 1 rfl) ?_
  refine g_get (Y := YG) (o := 5) (ci := 4) (N := 10) (k := 8) (C := RX4) (T := TX4) rfl inT4 rfl (by decide) (by decide) q_118 rfl hc hw (by omega) rfl dX4_readLaw_120 ?_
  rw [show fv YG ad1 σ1 4 5 8 = .int (gi σ 5 8) from by show Value.int (gi σ1 5 8) = _; rw [g1 5 8 (by omega)]]
  refine g_copyK (Y := YG) (kd0 := 22) (kd1 := 26) (n0 := 160) (n1 := N) (o0 := 7) (o1 := M) YG_ok q_444 q_446 q_445 q_87 ⟨by decide, by decide, rfl⟩ ⟨by decide, by decide, rfl⟩ hc hw hl.1 (by omega) (by omega) rfl hk0 rfl (by show gz σ1 M = N; rw [e1, gz_sN, if_pos rfl]) ⟨by decide, by decide, h1, by rw [← eN]; show 0 + N ≤ 160; omega, by rw [← eN]; show 0 + N ≤ N; omega⟩ ⟨Nat.le_of_ble_eq_true rfl, Nat.le_of_ble_eq_true rfl⟩ (Nat.le_of_ble_eq_true rfl) dX4_readLaw_123 (fun σ2 H locs e2 hw => ?_)
  replace hRO := RO_so (o := M) (f := va_cpy (fun j => gi σ1 7 j) (fun j => gi σ1 M j) (0 : Int32).toNatClampNeg (0 : Int32).toNatClampNeg (gi σ 5 8).toNatClampNeg) hRO
  rw [← e2] at hRO
  have G8 : gr σ2 5 9 = some 8 := by rw [e2]; exact G8
  have g2 : ∀ o k, o < M → gi σ2 o k = gi σ o k := by
    intro o k ho
    have hoM : ¬ o = M := by omega
    rw [e2, ← g1 o k ho]
    simp [gi, so, hoM]
  refine g_newO (Y := YG) (ci := 2) (N := 3) (C := RX2) (T := TX2) (ty0 := tyX2) (M := M + 1) rfl inT2 tyX2_ok rfl (by decide) rl_447 q_448 q_88 df_X2 rfl (lnC_sN _) hk1 hRO hc hw (Nat.le_of_ble_eq_true rfl) (by show 0 + N + 3 ≤ 163; omega) dX4_readLaw_126 (fun ad2 H hag2 hw => ?_)
  obtain ⟨σ3, e3⟩ : ∃ z, z = sN σ2 (M + 1) 0 := ⟨_, rfl⟩
  replace hRO := RO_sN (n := 0) hRO
  rw [← e3] at hw hRO
  have g3 : ∀ o k, o < M → gi σ3 o k = gi σ o k := fun o k ho => by rw [e3, gi_sN, if_neg (by omega), g2 o k ho]
  have G8 : gr σ3 5 9 = some 8 := by rw [e3, gr_sN, if_neg (by omega)]; exact G8
  have hl : lv_has ls 2 [(1, .ref (ad2 M)), (0, .ref (ad2 5))] := by rw [hag2 M (by omega), hag2 5 (by omega)]; exact hl
  refine lv_dup hx hb dX4_readLaw_129 rfl ?_
  refine lv_aload_n hx hb dX4_readLaw_130 rfl (lv_at hl 0 rfl) ?_
  refine lv_aload_n hx hb dX4_readLaw_131 rfl (lv_at hl 1 rfl) ?_
  refine g_get (Y := YG) (o := 5) (ci := 4) (N := 10) (k := 9) (C := RX4) (T := TX4) rfl inT4 rfl (by decide) (by decide) q_119 rfl hc hw (by omega) rfl dX4_readLaw_132 ?_
  rw [show fv YG ad2 σ3 4 5 9 = .ref (ad2 8) from by show va_rf (Option.map ad2 (gr σ3 5 9)) = _; rw [G8]; rfl]
  refine lv_iconst (v := 0) hx hb dX4_readLaw_135 (by decide) ?_
  refine g_ialdK (Y := YG) (kd := 21) (n := 3) (k := 0) (o := 8) (by decide) (by decide) rfl hc hw (by omega) rfl rfl (vp_in_lit (by decide)) (by decide) dX4_readLaw_136 ?_
  refine lv_aload_n hx hb dX4_readLaw_137 rfl (lv_at hl 1 rfl) ?_
  refine g_get (Y := YG) (o := 5) (ci := 4) (N := 10) (k := 9) (C := RX4) (T := TX4) rfl inT4 rfl (by decide) (by decide) q_119 rfl hc hw (by omega) rfl dX4_readLaw_138 ?_
  rw [show fv YG ad2 σ3 4 5 9 = .ref (ad2 8) from by show va_rf (Option.map ad2 (gr σ3 5 9)) = _; rw [G8]; rfl]
  refine lv_iconst (v := 1) hx hb dX4_readLaw_141 (by decide) ?_
  refine g_ialdK (Y := YG) (kd := 21) (n := 3) (k := 1) (o := 8) (by decide) (by decide) rfl hc hw (by omega) rfl rfl (vp_in_lit (by decide)) (by decide) dX4_readLaw_142 ?_
  rw [g3 8 0 (by omega), g3 8 1 (by omega)]
  have hini : w_X2_init (M + 2) (fun u => u = si (si (sr σ3 (M + 1) 0 (some M)) (M + 1) 1 (gi σ 8 0)) (M + 1) 2 (gi σ 8 1)) (M + 1) M (gi σ 8 0) (gi σ 8 1) σ3 := by
    unfold w_X2_init
    intro x1 h1 x2 h2 x3 h3
    rw [h3, h2, h1]
  refine g_initI (Y := YG) (M1 := M + 2) (k := 1) (mc := 0) (ms := 0) (o := M + 1) (As := [.ref (ad2 M), .int (gi σ 8 0), .int (gi σ 8 1)]) (rest := [.ref (ad2 (M + 1))]) rl_iw rl_449 ⟨Nat.le_of_ble_eq_true rfl, Nat.le_of_ble_eq_true rfl, Nat.le_of_ble_eq_true rfl, by show 0 + N + 3 + 0 ≤ 163; omega⟩ hRO hc hw hl.1 (m_X2_init l (M + 1) M (gi σ 8 0) (gi σ 8 1) σ3 ⟨hk1, by omega⟩ ⟨hk0, by omega⟩ hini) rfl rfl (Nat.le_of_ble_eq_true rfl) dX4_readLaw_143 (fun σ4 ad3 H locs e4 hag3 hRO hw => ?_)
  refine W.eq (g2 := F0 m (143 + 3) ls [.ref (ad3 (M + 1))]) (by rw [hag3 (M + 1) (by omega)]) ?_
  refine W.widen (k := 2) (n := 163) (Nat.le_of_ble_eq_true rfl) (by show 0 + N + 3 + 0 ≤ 163; omega) ?_
  have e5 : σ4 = si (si (sr (sN (so (sN (toG M σ) M N) M (va_cpy (fun j => gi σ1 7 j) (fun j => gi σ1 M j) (0 : Int32).toNatClampNeg (0 : Int32).toNatClampNeg (gi σ 5 8).toNatClampNeg)) (M + 1) 0) (M + 1) 0 (some M)) (M + 1) 1 (gi σ 8 0)) (M + 1) 2 (gi σ 8 1) := by rw [e4, e3, e2, e1, e0]
  have c7 : (fun j => gi σ1 7 j) = fun j => gi σ 7 j := funext fun j => g1 7 j (by omega)
  have cM : (fun j => gi σ1 M j) = fun _ => 0 := funext fun j => by rw [e1, gi_sN, if_pos rfl]
  have z0 : (0 : Int32).toNatClampNeg = 0 := by decide
  rw [c7, cM, z0, eN] at e5
  have hwF : WH Γ YC (M + 2) ad3 (rlT M σ) s H locs := by
    refine WH_like hw (fun _ _ => rfl) (fun o ho => en_GC (fun k => by rw [e5]; rfl) (by rw [e5]; rfl) (fun kd => by rw [e5]; rfl) (fun k h1 h2 h3 => ?_) (fun k h1 h2 => ?_))
    · rcases Nat.lt_or_ge o M with q | q
      · have e6 : gr σ4 o k = rvC M σ o k := by
          rw [e5]
          show (if o = M + 1 then (if k = 0 then some M else _) else if o = M + 1 then none else if o = M then none else rvC M σ o k) = _
          rw [if_neg (by omega), if_neg (by omega), if_neg (by omega)]
        rw [e6, rvC_ob q h1 h2 h3]
        rfl
      · rcases (show o = M ∨ o = M + 1 by omega) with rfl | rfl
        · rw [hk0] at h1; omega
        · rw [hk1] at h2 h3
          have hk0 : k = 0 := by
            have : ∀ k, k < 3 → ftC 2 k = 2 → k = 0 := by decide
            exact this k h2 h3
          subst hk0
          rw [(kd2 hk1).2.2, e5]
          show _ = Option.map ad3 (if M + 1 = M + 1 then (if 0 = 0 then some M else _) else _)
          rw [if_pos rfl, if_pos rfl]
          rfl
    · rcases Nat.lt_or_ge o M with q | q
      · have e6 : gr σ4 o k = rvC M σ o k := by
          rw [e5]
          show (if o = M + 1 then (if k = 0 then some M else _) else if o = M + 1 then none else if o = M then none else rvC M σ o k) = _
          rw [if_neg (by omega), if_neg (by omega), if_neg (by omega)]
        have e7 : lnC σ4 (kdC o) o = lnC σ (kdC o) o := by
          rw [e5]
          unfold lnC
          show (if _ then _ else if _ then _ else if _ then _ else if _ then _ else if _ then _ else if kdC o = 26 then (if o = M + 1 then 0 else if o = M then (gi σ 5 8).toNatClampNeg else gz σ o) else _) = _
          rw [if_neg (show ¬ o = M + 1 by omega), if_neg (show ¬ o = M by omega)]
        rw [e7] at h2
        rw [e6, rvC_ar q h1 h2]
        rfl
      · rcases (show o = M ∨ o = M + 1 by omega) with rfl | rfl
        · rw [hk0] at h1; omega
        · rw [hk1] at h1; omega
  exact W.aret hc.1 hc.2.1 hr (Or.inl ⟨_, rfl⟩) (Or.inr ⟨_, rfl⟩) (fun t ht hW => ⟨⟨some (ad3 (M + 1)), (rlT M σ, M + 2, ad3, some (M + 1)), rfl, ⟨rfl, by show M ≤ M + 2; omega, h⟩, fun o ho => (hag3 o (by omega)).trans ((hag2 o (by omega)).trans (hag o ho)), hwF.wc hc ht hW⟩, hwF.2.2.F ht⟩) hwF.2.2.2.2 dX4_readLaw_146 hc.2.2.2.2.2.1
theorem g_rl0 {Γ : Gm} {M : Nat} {ad : Nat → Nat} {σ : St} {p : Program} {l : Launch} {e : Env} {R : Room} {s : State} {m : MethodId} {args : Array Value} {below : List Frame} {meth : Method} {c : Code} {H : Heap} {locs : List Loc} {cc : ByteArray} {pc nL : Nat} {ls : Array Slot} {own nm : String} {post : Option Nat → St → Nat → Prop} (hc : CX Γ p s m args meth c cc own nL) (hr : meth.sig.returnType = some (.object nm)) (hw : WH Γ YC M ad σ s H locs) (h : post none σ M) (hdg : decode cc pc = .ok (.areturn, 1)) :
    W p l e R s m args below meth c H locs 0 0 (MQ below (QRL Γ M ad post) args s 2 163 (AA Γ)) (F0 m pc ls [.null]) := by
  refine W.widen (k := 2) (n := 163) (Nat.le_of_ble_eq_true rfl) (Nat.le_of_ble_eq_true rfl) ?_
  exact W.aret hc.1 hc.2.1 hr (Or.inl ⟨_, rfl⟩) (Or.inl rfl) (fun t ht hW => ⟨⟨none, (σ, M, ad, none), rfl, ⟨rfl, Nat.le_refl M, h⟩, fun _ _ => rfl, hw.wc hc ht hW⟩, hw.2.2.F ht⟩) hw.2.2.2.2 hdg hc.2.2.2.2.2.1
def w_X4_readLaw_21 (M : Nat) (post : Option Nat → St → Nat → Prop) (k_21 : Int32 → St → Prop) (v1 : Int32) (σ : St) : Prop :=
  (3 ≤ v1 → (w_X4_demand M (fun σ2 => (∀ σ3 : St, σ3 = si σ2 5 1 0 → (((gi σ3 5 6) = (-1) → (((gi σ3 5 8) < 0 → (post none σ3 M)) ∧ (¬ ((gi σ3 5 8) < 0) → (((gi σ3 5 8) ≤ 160 → (w_X4_readLaw_105 M post  σ3)) ∧ (¬ ((gi σ3 5 8) ≤ 160) → (post none σ3 M)))))) ∧ (¬ ((gi σ3 5 6) = (-1)) → (post none σ3 M))))) 0 σ)) ∧ (¬ (3 ≤ v1) → (w_X4_demand M (fun σ7 => (∃ n, n ≤ 100 ∧ wr_X4 M n 0 (fun σ8 => (w_X4_demand M (fun σ9 => ((vp_in v1 3) ∧ (∀ σ10 : St, σ10 = si σ9 8 v1.toNatClampNeg (gi σ9 5 8) → (∀ x11 : Int32, x11 = v1 + 1 → (k_21 x11 σ10))))) 59 σ8)) 0 σ7)) (1000 + v1) σ))
set_option maxHeartbeats 4000000 in
set_option maxRecDepth 20000 in
theorem b_X4_readLaw_21 {Γ : Gm} {ad : Nat → Nat} {p : Program} {l : Launch} {e : Env} {s : State} {m : MethodId} {args : Array Value} {below : List Frame} {meth : Method} {c : Code} {M : Nat} (hM : 53 ≤ M) {post : Option Nat → St → Nat → Prop} {k_21 : Int32 → St → Prop} (hk_21 : ∀ (v1 : Int32) (σ : St) (H : Heap) (locs : List Loc) (ls : Array Slot), k_21 v1 σ → WH Γ YC M ad σ s H locs → lv_has ls 2 [(0, .ref (ad 5)), (1, .int v1)] → W p l e (rmL 151 2 163) s m args below meth c H locs 0 0 (MQ below (QRL Γ M ad post) args s 2 163 (AA Γ)) (F0 m 21 ls []))
    (v1 : Int32) (σ : St) (H : Heap) (locs : List Loc) (ls : Array Slot) (h : w_X4_readLaw_21 M post k_21 v1 σ) (hc : CX Γ p s m args meth c cX4_readLaw RX4 2) (hr : meth.sig.returnType = (Option.some (Jvm.ClassFile.FieldType.object "ThreadsAndSplits$Law"))) (hw : WH Γ YC M ad σ s H locs) (hl : lv_has ls 2 [(0, .ref (ad 5)), (1, .int v1)]) :
    W p l e (rmL 151 2 163) s m args below meth c H locs 0 0 (MQ below (QRL Γ M ad post) args s 2 163 (AA Γ)) (F0 m 21 ls []) := by
  have hx := hc.1
  have hb := hc.2.1
  unfold w_X4_readLaw_21 at h
  refine lv_iload_n hx hb dX4_readLaw_21 rfl (lv_at hl 1 rfl) ?_
  refine lv_aload_n hx hb dX4_readLaw_22 rfl (lv_at hl 0 rfl) ?_
  refine fg_X4_18 hc hw (Nat.lt_of_lt_of_le (by decide) hM) rfl dX4_readLaw_23 ?_
  refine g_aleni (Y := YC) (kd := 21) (v := 3) (o := 8) (by decide) (by decide) rfl hc hw (Nat.lt_of_lt_of_le (by decide) hM) rfl rfl dX4_readLaw_26 ?_
  refine lv_icmp_ge (tgt := 66) hx hb dX4_readLaw_27 (by decide) (fun c1 => ?_) (fun c1 => ?_)
  · replace h := h.1 c1
    refine lv_aload_n hx hb dX4_readLaw_66 rfl (lv_at hl 0 rfl) ?_
    refine lv_iconst (v := 0) hx hb dX4_readLaw_67 (by decide) ?_
    refine g_Vv (Y := YC) (ci := 4) (n := 1) (k := 13) (As := [.int 0]) (rest := []) rfl (by decide) vw_X4_37 ⟨Nat.le_of_ble_eq_true rfl, Nat.le_of_ble_eq_true rfl, Nat.zero_le _, Nat.zero_le _⟩ hc hw hl.1 (Nat.lt_of_lt_of_le (by decide) hM) rfl (m_X4_demand l hM 0 σ h) rfl rfl (Nat.le_of_ble_eq_true rfl) dX4_readLaw_68 (fun σ2 H locs h hw => ?_)
    refine lv_aload_n hx hb dX4_readLaw_71 rfl (lv_at hl 0 rfl) ?_
    refine lv_iconst (v := 0) hx hb dX4_readLaw_72 (by decide) ?_
    refine fp_X4_21 (o := 5) hc hw (Nat.lt_of_lt_of_le (by decide) hM) rfl dX4_readLaw_73 (fun σ3 H locs eσ3 hw => ?_)
    replace h := h σ3 eσ3
    refine lv_aload_n hx hb dX4_readLaw_76 rfl (lv_at hl 0 rfl) ?_
    refine fg_X4_25 hc hw (Nat.lt_of_lt_of_le (by decide) hM) rfl dX4_readLaw_77 ?_
    refine lv_iconst (v := (-1)) hx hb dX4_readLaw_80 (by decide) ?_
    refine lv_icmp_ne (tgt := 103) hx hb dX4_readLaw_81 (by decide) (fun c4 => ?_) (fun c4 => ?_)
    · replace h := h.2 c4
      refine lv_null hx hb dX4_readLaw_103 ?_
      exact g_rl0 hc hr hw h dX4_readLaw_104
    · replace h := h.1 c4
      refine lv_aload_n hx hb dX4_readLaw_84 rfl (lv_at hl 0 rfl) ?_
      refine fg_X4_31 hc hw (Nat.lt_of_lt_of_le (by decide) hM) rfl dX4_readLaw_85 ?_
      refine lv_if_lt (tgt := 103) hx hb dX4_readLaw_88 (by decide) (fun c5 => ?_) (fun c5 => ?_)
      · replace h := h.1 c5
        refine lv_null hx hb dX4_readLaw_103 ?_
        exact g_rl0 hc hr hw h dX4_readLaw_104
      · replace h := h.2 c5
        refine lv_aload_n hx hb dX4_readLaw_91 rfl (lv_at hl 0 rfl) ?_
        refine fg_X4_31 hc hw (Nat.lt_of_lt_of_le (by decide) hM) rfl dX4_readLaw_92 ?_
        refine lv_aload_n hx hb dX4_readLaw_95 rfl (lv_at hl 0 rfl) ?_
        refine fg_X4_15 hc hw (Nat.lt_of_lt_of_le (by decide) hM) rfl dX4_readLaw_96 ?_
        refine g_aleni (Y := YC) (kd := 22) (v := 160) (o := 7) (by decide) (by decide) rfl hc hw (Nat.lt_of_lt_of_le (by decide) hM) rfl rfl dX4_readLaw_99 ?_
        refine lv_icmp_le (tgt := 105) hx hb dX4_readLaw_100 (by decide) (fun c6 => ?_) (fun c6 => ?_)
        · replace h := h.1 c6
          exact b_X4_readLaw_105 hM  σ3 _ _ _ h  hc hr hw (lv_sub hl [0] rfl)
        · replace h := h.2 c6
          refine lv_null hx hb dX4_readLaw_103 ?_
          exact g_rl0 hc hr hw h dX4_readLaw_104
  · replace h := h.2 c1
    refine lv_aload_n hx hb dX4_readLaw_30 rfl (lv_at hl 0 rfl) ?_
    refine lv_sipush (v := 1000) hx hb dX4_readLaw_31 (by decide) ?_
    refine lv_iload_n hx hb dX4_readLaw_34 rfl (lv_at hl 1 rfl) ?_
    refine lv_iadd hx hb dX4_readLaw_35 ?_
    refine g_Vv (Y := YC) (ci := 4) (n := 1) (k := 13) (As := [.int (1000 + v1)]) (rest := []) rfl (by decide) vw_X4_37 ⟨Nat.le_of_ble_eq_true rfl, Nat.le_of_ble_eq_true rfl, Nat.zero_le _, Nat.zero_le _⟩ hc hw hl.1 (Nat.lt_of_lt_of_le (by decide) hM) rfl (m_X4_demand l hM (1000 + v1) σ h) rfl rfl (Nat.le_of_ble_eq_true rfl) dX4_readLaw_36 (fun σ7 H locs h hw => ?_)
    refine lv_aload_n hx hb dX4_readLaw_39 rfl (lv_at hl 0 rfl) ?_
    refine lv_iconst (v := 0) hx hb dX4_readLaw_40 (by decide) ?_
    obtain ⟨n, hn100, h⟩ := h
    refine g_Vv (Y := YC) (ci := 4) (n := 1) (k := 40 + n) (As := [.int 0]) (rest := []) rfl (by decide) vw_X4_41 ⟨by simp only [rmL]; omega, by simp only [rmL]; omega, Nat.zero_le _, Nat.zero_le _⟩ hc hw hl.1 (Nat.lt_of_lt_of_le (by decide) hM) rfl (mr_X4_readAny l hM n 0 σ7 h) rfl rfl (Nat.le_of_ble_eq_true rfl) dX4_readLaw_41 (fun σ8 H locs h hw => ?_)
    refine lv_aload_n hx hb dX4_readLaw_44 rfl (lv_at hl 0 rfl) ?_
    refine lv_bipush (v := 59) hx hb dX4_readLaw_45 (by decide) ?_
    refine g_Vv (Y := YC) (ci := 4) (n := 1) (k := 13) (As := [.int 59]) (rest := []) rfl (by decide) vw_X4_37 ⟨Nat.le_of_ble_eq_true rfl, Nat.le_of_ble_eq_true rfl, Nat.zero_le _, Nat.zero_le _⟩ hc hw hl.1 (Nat.lt_of_lt_of_le (by decide) hM) rfl (m_X4_demand l hM 59 σ8 h) rfl rfl (Nat.le_of_ble_eq_true rfl) dX4_readLaw_47 (fun σ9 H locs h hw => ?_)
    refine lv_aload_n hx hb dX4_readLaw_50 rfl (lv_at hl 0 rfl) ?_
    refine fg_X4_18 hc hw (Nat.lt_of_lt_of_le (by decide) hM) rfl dX4_readLaw_51 ?_
    refine lv_iload_n hx hb dX4_readLaw_54 rfl (lv_at hl 1 rfl) ?_
    refine lv_aload_n hx hb dX4_readLaw_55 rfl (lv_at hl 0 rfl) ?_
    refine fg_X4_31 hc hw (Nat.lt_of_lt_of_le (by decide) hM) rfl dX4_readLaw_56 ?_
    have hin := h.1
    replace h := h.2
    refine g_iastK (Y := YC) (kd := 21) (n := 3) (k := v1.toNatClampNeg) (o := 8) YC_ok (by decide) (by decide) rfl hc hw (Nat.lt_of_lt_of_le (by decide) hM) rfl rfl hin rfl dX4_readLaw_59 (fun σ10 H locs eσ10 hw => ?_)
    replace h := h σ10 eσ10
    obtain ⟨x11, ex11⟩ : ∃ z, z = v1 + 1 := ⟨_, rfl⟩
    replace h := h x11 ex11
    refine lv_iinc (v := x11) (lv' := [(1, .int x11), (0, .ref (ad 5))]) hx hb dX4_readLaw_60 hl (k := 1) rfl (by rw [ex11]; rfl) (by decide) rfl (fun ls hl => ?_)
    refine lv_goto (tgt := 21) hx hb dX4_readLaw_63 (by decide) ?_
    exact hk_21 x11 σ10 _ _ _ h  hw (lv_sub hl [1, 0] rfl)
def wl_X4_readLaw_21 (M : Nat) (post : Option Nat → St → Nat → Prop) : Nat → Int32 → St → Prop
  | 0, _, _ => False
  | n + 1, v1, σ => w_X4_readLaw_21 M post (wl_X4_readLaw_21 M post n) v1 σ
set_option maxHeartbeats 4000000 in
theorem bl_X4_readLaw_21 {Γ : Gm} {ad : Nat → Nat} {p : Program} {l : Launch} {e : Env} {s : State} {m : MethodId} {args : Array Value} {below : List Frame} {meth : Method} {c : Code} {M : Nat} (hM : 53 ≤ M) {post : Option Nat → St → Nat → Prop}
    (hc : CX Γ p s m args meth c cX4_readLaw RX4 2) (hr : meth.sig.returnType = (Option.some (Jvm.ClassFile.FieldType.object "ThreadsAndSplits$Law"))) :
    ∀ (n : Nat) (v1 : Int32) (σ : St) (H : Heap) (locs : List Loc) (ls : Array Slot), wl_X4_readLaw_21 M post n v1 σ → WH Γ YC M ad σ s H locs → lv_has ls 2 [(0, .ref (ad 5)), (1, .int v1)] → W p l e (rmL 151 2 163) s m args below meth c H locs 0 0 (MQ below (QRL Γ M ad post) args s 2 163 (AA Γ)) (F0 m 21 ls []) := by
  intro n
  induction n with
  | zero => intro v1 σ H locs ls h; exact h.elim
  | succ n ih =>
    intro v1 σ H locs ls h  hw hl
    exact b_X4_readLaw_21 hM ih v1 σ H locs ls h  hc hr hw hl
def w_X4_readLaw (M : Nat) (post : Option Nat → St → Nat → Prop)  (σ : St) : Prop :=
  ∀ σ1 : St, σ1 = si σ 5 2 0 → (∀ σ2 : St, σ2 = si σ1 5 6 (-1) → (∀ σ3 : St, σ3 = si σ2 5 8 0 → (w_X4_stepOn M (fun σ4 => (∃ n, wl_X4_readLaw_21 M post n 0 σ4)) σ3)))
set_option maxHeartbeats 4000000 in
set_option maxRecDepth 20000 in
theorem m_X4_readLaw {Γ : Gm} {ad : Nat → Nat} {M : Nat} (l : Launch) (hM : 53 ≤ M) {post : Option Nat → St → Nat → Prop}  (σ : St) (h : w_X4_readLaw M post  σ) : Met l yX4_readLaw (Cond.code yX4_readLaw cX4_readLaw 2 (Option.some (Jvm.ClassFile.FieldType.object "ThreadsAndSplits$Law")) :: TB) (rmL 151 2 163) (va_Pc [.ref (ad 5)] (WC Γ YC M ad σ)) (QRL Γ M ad post) 2 163 (AA Γ) := by
  refine g_start (by decide) (Nat.le_of_ble_eq_true rfl) ?_
  intro p e s m args below meth c ls hc hr hn hl hw
  have hc : CX Γ p s m args meth c cX4_readLaw RX4 2 := hc
  have hl : lv_has ls 2 [(0, .ref (ad 5))] := hl
  have hx := hc.1
  have hb := hc.2.1
  unfold w_X4_readLaw at h
  generalize hHH : s.heap = H0 at hw ⊢
  refine lv_aload_n hx hb dX4_readLaw_0 rfl (lv_at hl 0 rfl) ?_
  refine lv_iconst (v := 0) hx hb dX4_readLaw_1 (by decide) ?_
  refine fp_X4_28 (o := 5) hc hw (Nat.lt_of_lt_of_le (by decide) hM) rfl dX4_readLaw_2 (fun σ1 H locs eσ1 hw => ?_)
  replace h := h σ1 eσ1
  refine lv_aload_n hx hb dX4_readLaw_5 rfl (lv_at hl 0 rfl) ?_
  refine lv_iconst (v := (-1)) hx hb dX4_readLaw_6 (by decide) ?_
  refine fp_X4_25 (o := 5) hc hw (Nat.lt_of_lt_of_le (by decide) hM) rfl dX4_readLaw_7 (fun σ2 H locs eσ2 hw => ?_)
  replace h := h σ2 eσ2
  refine lv_aload_n hx hb dX4_readLaw_10 rfl (lv_at hl 0 rfl) ?_
  refine lv_iconst (v := 0) hx hb dX4_readLaw_11 (by decide) ?_
  refine fp_X4_31 (o := 5) hc hw (Nat.lt_of_lt_of_le (by decide) hM) rfl dX4_readLaw_12 (fun σ3 H locs eσ3 hw => ?_)
  replace h := h σ3 eσ3
  refine lv_aload_n hx hb dX4_readLaw_15 rfl (lv_at hl 0 rfl) ?_
  refine g_Vv (Y := YC) (ci := 4) (n := 0) (k := 12) (As := []) (rest := []) rfl (by decide) vw_X4_34 ⟨Nat.le_of_ble_eq_true rfl, Nat.le_of_ble_eq_true rfl, Nat.zero_le _, Nat.zero_le _⟩ hc hw hl.1 (Nat.lt_of_lt_of_le (by decide) hM) rfl (m_X4_stepOn l hM σ3 h) rfl rfl (Nat.le_of_ble_eq_true rfl) dX4_readLaw_16 (fun σ4 H locs h hw => ?_)
  refine lv_iconst (v := 0) hx hb dX4_readLaw_19 (by decide) ?_
  refine lv_istore_n (lv' := [(1, .int 0), (0, .ref (ad 5))]) hx hb dX4_readLaw_20 rfl hl (by decide) rfl (fun ls hl => ?_)
  obtain ⟨n, h⟩ := h
  exact bl_X4_readLaw_21 hM hc hr n 0 σ4 _ _ _ h  hw (lv_sub hl [1, 0] rfl)
