def w_X0_fits (M : Nat) (post : Int32 → St → Prop) (a1 : Int32) (a2 : Int32) (a3 : Int32) (σ : St) : Prop :=
  (a1 < 0 → (post 0 σ)) ∧ (¬ (a1 < 0) → ((6 ≤ a1 → (post 0 σ)) ∧ (¬ (6 ≤ a1) → ((a2 < 0 → (post 0 σ)) ∧ (¬ (a2 < 0) → ((9 < a2 → (post 0 σ)) ∧ (¬ (9 < a2) → ((a3 < 0 → (post 0 σ)) ∧ (¬ (a3 < 0) → ((9 < a3 → (post 0 σ)) ∧ (¬ (9 < a3) → (post 1 σ))))))))))))
set_option maxHeartbeats 4000000 in
set_option maxRecDepth 20000 in
theorem m_X0_fits {Γ : Gm} {ad : Nat → Nat} {M : Nat} (l : Launch) (hM : 53 ≤ M) {post : Int32 → St → Prop} (a1 : Int32) (a2 : Int32) (a3 : Int32) (σ : St) (h : w_X0_fits M post a1 a2 a3 σ) : Ci l Γ YC M ad σ yX0_fits cX0_fits 3 (Option.some Jvm.ClassFile.FieldType.boolean) 0 0 0 [.int a1, .int a2, .int a3] post := by
  refine g_start (by decide) (Nat.le_of_ble_eq_true rfl) ?_
  intro p e s m args below meth c ls hc hr hn hl hw
  have hc : CX Γ p s m args meth c cX0_fits RX0 3 := hc
  have hl : lv_has ls 3 [(0, .int a1), (1, .int a2), (2, .int a3)] := hl
  have hx := hc.1
  have hb := hc.2.1
  unfold w_X0_fits at h
  generalize hHH : s.heap = H0 at hw ⊢
  refine lv_iload_n hx hb dX0_fits_0 rfl (lv_at hl 0 rfl) ?_
  refine lv_if_lt (tgt := 34) hx hb dX0_fits_1 (by decide) (fun c1 => ?_) (fun c1 => ?_)
  · replace h := h.1 c1
    refine lv_iconst (v := 0) hx hb dX0_fits_34 (by decide) ?_
    exact g_zret hc hr hw rfl h dX0_fits_35
  · replace h := h.2 c1
    refine lv_iload_n hx hb dX0_fits_4 rfl (lv_at hl 0 rfl) ?_
    refine lv_bipush (v := 6) hx hb dX0_fits_5 (by decide) ?_
    refine lv_icmp_ge (tgt := 34) hx hb dX0_fits_7 (by decide) (fun c2 => ?_) (fun c2 => ?_)
    · replace h := h.1 c2
      refine lv_iconst (v := 0) hx hb dX0_fits_34 (by decide) ?_
      exact g_zret hc hr hw rfl h dX0_fits_35
    · replace h := h.2 c2
      refine lv_iload_n hx hb dX0_fits_10 rfl (lv_at hl 1 rfl) ?_
      refine lv_if_lt (tgt := 34) hx hb dX0_fits_11 (by decide) (fun c3 => ?_) (fun c3 => ?_)
      · replace h := h.1 c3
        refine lv_iconst (v := 0) hx hb dX0_fits_34 (by decide) ?_
        exact g_zret hc hr hw rfl h dX0_fits_35
      · replace h := h.2 c3
        refine lv_iload_n hx hb dX0_fits_14 rfl (lv_at hl 1 rfl) ?_
        refine lv_bipush (v := 9) hx hb dX0_fits_15 (by decide) ?_
        refine lv_icmp_gt (tgt := 34) hx hb dX0_fits_17 (by decide) (fun c4 => ?_) (fun c4 => ?_)
        · replace h := h.1 c4
          refine lv_iconst (v := 0) hx hb dX0_fits_34 (by decide) ?_
          exact g_zret hc hr hw rfl h dX0_fits_35
        · replace h := h.2 c4
          refine lv_iload_n hx hb dX0_fits_20 rfl (lv_at hl 2 rfl) ?_
          refine lv_if_lt (tgt := 34) hx hb dX0_fits_21 (by decide) (fun c5 => ?_) (fun c5 => ?_)
          · replace h := h.1 c5
            refine lv_iconst (v := 0) hx hb dX0_fits_34 (by decide) ?_
            exact g_zret hc hr hw rfl h dX0_fits_35
          · replace h := h.2 c5
            refine lv_iload_n hx hb dX0_fits_24 rfl (lv_at hl 2 rfl) ?_
            refine lv_bipush (v := 9) hx hb dX0_fits_25 (by decide) ?_
            refine lv_icmp_gt (tgt := 34) hx hb dX0_fits_27 (by decide) (fun c6 => ?_) (fun c6 => ?_)
            · replace h := h.1 c6
              refine lv_iconst (v := 0) hx hb dX0_fits_34 (by decide) ?_
              exact g_zret hc hr hw rfl h dX0_fits_35
            · replace h := h.2 c6
              refine lv_iconst (v := 1) hx hb dX0_fits_30 (by decide) ?_
              refine lv_goto (tgt := 35) hx hb dX0_fits_31 (by decide) ?_
              exact g_zret hc hr hw rfl h dX0_fits_35
def w_X0_become (M : Nat) (post : St → Prop) (o0 : Nat) (a1 : Int32) (a2 : Int32) (a3 : Int32) (σ : St) : Prop :=
  (kdC o0 = 0 ∧ o0 < M) ∧ (∀ σ1 : St, σ1 = si σ o0 0 a1 → (∀ σ2 : St, σ2 = si σ1 o0 1 a2 → (∀ σ3 : St, σ3 = si σ2 o0 2 a3 → (post σ3))))
set_option maxHeartbeats 4000000 in
set_option maxRecDepth 20000 in
theorem m_X0_become {Γ : Gm} {ad : Nat → Nat} {M : Nat} (l : Launch) (hM : 53 ≤ M) {post : St → Prop} (o0 : Nat) (a1 : Int32) (a2 : Int32) (a3 : Int32) (σ : St) (h : w_X0_become M post o0 a1 a2 a3 σ) : Cv l Γ YC M ad σ yX0_become cX0_become 4 none 0 0 0 [.ref (ad o0), .int a1, .int a2, .int a3] post := by
  refine g_start (by decide) (Nat.le_of_ble_eq_true rfl) ?_
  intro p e s m args below meth c ls hc hr hn hl hw
  have hc : CX Γ p s m args meth c cX0_become RX0 4 := hc
  have hl : lv_has ls 4 [(0, .ref (ad o0)), (1, .int a1), (2, .int a2), (3, .int a3)] := hl
  have hx := hc.1
  have hb := hc.2.1
  unfold w_X0_become at h
  have hf_o0 := h.1
  replace h := h.2
  generalize hHH : s.heap = H0 at hw ⊢
  refine lv_aload_n hx hb dX0_become_0 rfl (lv_at hl 0 rfl) ?_
  refine lv_iload_n hx hb dX0_become_1 rfl (lv_at hl 1 rfl) ?_
  refine fp_X0_9 (o := o0) hc hw hf_o0.2 hf_o0.1 dX0_become_2 (fun σ1 H locs eσ1 hw => ?_)
  replace h := h σ1 eσ1
  refine lv_aload_n hx hb dX0_become_5 rfl (lv_at hl 0 rfl) ?_
  refine lv_iload_n hx hb dX0_become_6 rfl (lv_at hl 2 rfl) ?_
  refine fp_X0_13 (o := o0) hc hw hf_o0.2 hf_o0.1 dX0_become_7 (fun σ2 H locs eσ2 hw => ?_)
  replace h := h σ2 eσ2
  refine lv_aload_n hx hb dX0_become_10 rfl (lv_at hl 0 rfl) ?_
  refine lv_iload_n hx hb dX0_become_11 rfl (lv_at hl 3 rfl) ?_
  refine fp_X0_16 (o := o0) hc hw hf_o0.2 hf_o0.1 dX0_become_12 (fun σ3 H locs eσ3 hw => ?_)
  replace h := h σ3 eσ3
  exact g_vret hc hr hw h dX0_become_15
def w_X0_minutesLong (M : Nat) (post : Int32 → St → Prop) (o0 : Nat) (σ : St) : Prop :=
  (kdC o0 = 0 ∧ o0 < M) ∧ (((gi σ o0 0) = 0 → (post (1 + (gi σ o0 1)) σ)) ∧ (¬ ((gi σ o0 0) = 0) → (((gi σ o0 0) = 3 → (post (1 + (gi σ o0 1)) σ)) ∧ (¬ ((gi σ o0 0) = 3) → (((gi σ o0 0) = 5 → (∀ x4 : Int32, x4 = (if 1 < (gi σ o0 1) then (gi σ o0 1) else 1) → (post x4 σ))) ∧ (¬ ((gi σ o0 0) = 5) → (post 1 σ)))))))
set_option maxHeartbeats 4000000 in
set_option maxRecDepth 20000 in
theorem m_X0_minutesLong {Γ : Gm} {ad : Nat → Nat} {M : Nat} (l : Launch) (hM : 53 ≤ M) {post : Int32 → St → Prop} (o0 : Nat) (σ : St) (h : w_X0_minutesLong M post o0 σ) : Ci l Γ YC M ad σ yX0_minutesLong cX0_minutesLong 1 (Option.some Jvm.ClassFile.FieldType.int) 0 0 0 [.ref (ad o0)] post := by
  refine g_start (by decide) (Nat.le_of_ble_eq_true rfl) ?_
  intro p e s m args below meth c ls hc hr hn hl hw
  have hc : CX Γ p s m args meth c cX0_minutesLong RX0 1 := hc
  have hl : lv_has ls 1 [(0, .ref (ad o0))] := hl
  have hx := hc.1
  have hb := hc.2.1
  unfold w_X0_minutesLong at h
  have hf_o0 := h.1
  replace h := h.2
  generalize hHH : s.heap = H0 at hw ⊢
  refine lv_aload_n hx hb dX0_minutesLong_0 rfl (lv_at hl 0 rfl) ?_
  refine fg_X0_9 (o := o0) hc hw hf_o0.2 hf_o0.1 dX0_minutesLong_1 ?_
  by_cases c1 : (gi σ o0 0) = 0
  · replace h := h.1 c1
    refine lv_lookup (off := 36) (tgt := 40) hx hb dX0_minutesLong_4 (by decide) (by rw [c1]; rfl) (by decide) ?_
    refine lv_iconst (v := 1) hx hb dX0_minutesLong_40 (by decide) ?_
    refine lv_aload_n hx hb dX0_minutesLong_41 rfl (lv_at hl 0 rfl) ?_
    refine fg_X0_13 (o := o0) hc hw hf_o0.2 hf_o0.1 dX0_minutesLong_42 ?_
    refine lv_iadd hx hb dX0_minutesLong_45 ?_
    exact g_iret hc hr hw h dX0_minutesLong_46
  replace h := h.2 c1
  by_cases c2 : (gi σ o0 0) = 3
  · replace h := h.1 c2
    refine lv_lookup (off := 36) (tgt := 40) hx hb dX0_minutesLong_4 (by decide) (by rw [c2]; rfl) (by decide) ?_
    refine lv_iconst (v := 1) hx hb dX0_minutesLong_40 (by decide) ?_
    refine lv_aload_n hx hb dX0_minutesLong_41 rfl (lv_at hl 0 rfl) ?_
    refine fg_X0_13 (o := o0) hc hw hf_o0.2 hf_o0.1 dX0_minutesLong_42 ?_
    refine lv_iadd hx hb dX0_minutesLong_45 ?_
    exact g_iret hc hr hw h dX0_minutesLong_46
  replace h := h.2 c2
  by_cases c3 : (gi σ o0 0) = 5
  · replace h := h.1 c3
    refine lv_lookup (off := 43) (tgt := 47) hx hb dX0_minutesLong_4 (by decide) (by rw [c3]; rfl) (by decide) ?_
    refine lv_iconst (v := 1) hx hb dX0_minutesLong_47 (by decide) ?_
    refine lv_aload_n hx hb dX0_minutesLong_48 rfl (lv_at hl 0 rfl) ?_
    refine fg_X0_13 (o := o0) hc hw hf_o0.2 hf_o0.1 dX0_minutesLong_49 ?_
    refine g_max q_611 q_357 q_85 q_358 hc hl.1 ⟨Nat.le_of_ble_eq_true rfl, Nat.le_of_ble_eq_true rfl, Nat.zero_le _, Nat.zero_le _⟩ (Nat.le_of_ble_eq_true rfl) dX0_minutesLong_52 ?_
    refine lv_topi (fun x4 ex4 => ?_)
    replace h := h x4 ex4
    exact g_iret hc hr hw h dX0_minutesLong_55
  replace h := h.2 c3
  refine lv_lookup (off := 52) (tgt := 56) hx hb dX0_minutesLong_4 (by decide) (by rw [show Op.lookupswitch.offset _ _ _ = _ from lv_osw c1 (by decide), show Op.lookupswitch.offset _ _ _ = _ from lv_osw c2 (by decide), show Op.lookupswitch.offset _ _ _ = _ from lv_osw c3 (by decide)]; rfl) (by decide) ?_
  refine lv_iconst (v := 1) hx hb dX0_minutesLong_56 (by decide) ?_
  exact g_iret hc hr hw h dX0_minutesLong_57
def w_X0_isStirred (M : Nat) (post : Int32 → St → Prop) (o0 : Nat) (σ : St) : Prop :=
  (kdC o0 = 0 ∧ o0 < M) ∧ (((gi σ o0 0) = 0 → (post 0 σ)) ∧ (¬ ((gi σ o0 0) = 0) → (post 1 σ)))
set_option maxHeartbeats 4000000 in
set_option maxRecDepth 20000 in
theorem m_X0_isStirred {Γ : Gm} {ad : Nat → Nat} {M : Nat} (l : Launch) (hM : 53 ≤ M) {post : Int32 → St → Prop} (o0 : Nat) (σ : St) (h : w_X0_isStirred M post o0 σ) : Ci l Γ YC M ad σ yX0_isStirred cX0_isStirred 1 (Option.some Jvm.ClassFile.FieldType.boolean) 0 0 0 [.ref (ad o0)] post := by
  refine g_start (by decide) (Nat.le_of_ble_eq_true rfl) ?_
  intro p e s m args below meth c ls hc hr hn hl hw
  have hc : CX Γ p s m args meth c cX0_isStirred RX0 1 := hc
  have hl : lv_has ls 1 [(0, .ref (ad o0))] := hl
  have hx := hc.1
  have hb := hc.2.1
  unfold w_X0_isStirred at h
  have hf_o0 := h.1
  replace h := h.2
  generalize hHH : s.heap = H0 at hw ⊢
  refine lv_aload_n hx hb dX0_isStirred_0 rfl (lv_at hl 0 rfl) ?_
  refine fg_X0_9 (o := o0) hc hw hf_o0.2 hf_o0.1 dX0_isStirred_1 ?_
  refine lv_if_eq (tgt := 11) hx hb dX0_isStirred_4 (by decide) (fun c1 => ?_) (fun c1 => ?_)
  · replace h := h.1 c1
    refine lv_iconst (v := 0) hx hb dX0_isStirred_11 (by decide) ?_
    exact g_zret hc hr hw rfl h dX0_isStirred_12
  · replace h := h.2 c1
    refine lv_iconst (v := 1) hx hb dX0_isStirred_7 (by decide) ?_
    refine lv_goto (tgt := 12) hx hb dX0_isStirred_8 (by decide) ?_
    exact g_zret hc hr hw rfl h dX0_isStirred_12
def w_X0_isOne_25 (M : Nat) (post : Int32 → St → Prop) (v0 : Nat) (v1 : Int32) (σ : St) : Prop :=
  (v1 = 3 → (((gi σ v0 0) = 5 → (post 1 σ)) ∧ (¬ ((gi σ v0 0) = 5) → (post 0 σ)))) ∧ (¬ (v1 = 3) → (post 0 σ))
set_option maxHeartbeats 4000000 in
set_option maxRecDepth 20000 in
theorem b_X0_isOne_25 {Γ : Gm} {ad : Nat → Nat} {p : Program} {l : Launch} {e : Env} {s : State} {m : MethodId} {args : Array Value} {below : List Frame} {meth : Method} {c : Code} {M : Nat} (hM : 53 ≤ M) {post : Int32 → St → Prop}
    (v0 : Nat) (v1 : Int32) (σ : St) (H : Heap) (locs : List Loc) (ls : Array Slot) (h : w_X0_isOne_25 M post v0 v1 σ) (hf_v0 : kdC v0 = 0 ∧ v0 < M) (hc : CX Γ p s m args meth c cX0_isOne RX0 2) (hr : meth.sig.returnType = (Option.some Jvm.ClassFile.FieldType.boolean)) (hw : WH Γ YC M ad σ s H locs) (hl : lv_has ls 2 [(0, .ref (ad v0)), (1, .int v1)]) :
    W p l e (rmL 0 0 0) s m args below meth c H locs 0 0 (MQ below (va_Qi post (fun u t => WC Γ YC M ad u t) (AA Γ)) args s 0 0 (AA Γ)) (F0 m 25 ls []) := by
  have hx := hc.1
  have hb := hc.2.1
  unfold w_X0_isOne_25 at h
  refine lv_iload_n hx hb dX0_isOne_25 rfl (lv_at hl 1 rfl) ?_
  refine lv_iconst (v := 3) hx hb dX0_isOne_26 (by decide) ?_
  refine lv_icmp_ne (tgt := 42) hx hb dX0_isOne_27 (by decide) (fun c1 => ?_) (fun c1 => ?_)
  · replace h := h.2 c1
    refine lv_iconst (v := 0) hx hb dX0_isOne_42 (by decide) ?_
    exact g_zret hc hr hw rfl h dX0_isOne_43
  · replace h := h.1 c1
    refine lv_aload_n hx hb dX0_isOne_30 rfl (lv_at hl 0 rfl) ?_
    refine fg_X0_9 (o := v0) hc hw hf_v0.2 hf_v0.1 dX0_isOne_31 ?_
    refine lv_iconst (v := 5) hx hb dX0_isOne_34 (by decide) ?_
    refine lv_icmp_ne (tgt := 42) hx hb dX0_isOne_35 (by decide) (fun c2 => ?_) (fun c2 => ?_)
    · replace h := h.2 c2
      refine lv_iconst (v := 0) hx hb dX0_isOne_42 (by decide) ?_
      exact g_zret hc hr hw rfl h dX0_isOne_43
    · replace h := h.1 c2
      refine lv_iconst (v := 1) hx hb dX0_isOne_38 (by decide) ?_
      refine lv_goto (tgt := 43) hx hb dX0_isOne_39 (by decide) ?_
      exact g_zret hc hr hw rfl h dX0_isOne_43
def w_X0_isOne (M : Nat) (post : Int32 → St → Prop) (o0 : Nat) (a1 : Int32) (σ : St) : Prop :=
  (kdC o0 = 0 ∧ o0 < M) ∧ ((a1 = 0 → (post 1 σ)) ∧ (¬ (a1 = 0) → ((a1 = (gi σ o0 0) → (post 1 σ)) ∧ (¬ (a1 = (gi σ o0 0)) → ((a1 = 1 → (((gi σ o0 0) = 4 → (post 1 σ)) ∧ (¬ ((gi σ o0 0) = 4) → (w_X0_isOne_25 M post o0 a1 σ)))) ∧ (¬ (a1 = 1) → (w_X0_isOne_25 M post o0 a1 σ)))))))
set_option maxHeartbeats 4000000 in
set_option maxRecDepth 20000 in
theorem m_X0_isOne {Γ : Gm} {ad : Nat → Nat} {M : Nat} (l : Launch) (hM : 53 ≤ M) {post : Int32 → St → Prop} (o0 : Nat) (a1 : Int32) (σ : St) (h : w_X0_isOne M post o0 a1 σ) : Ci l Γ YC M ad σ yX0_isOne cX0_isOne 2 (Option.some Jvm.ClassFile.FieldType.boolean) 0 0 0 [.ref (ad o0), .int a1] post := by
  refine g_start (by decide) (Nat.le_of_ble_eq_true rfl) ?_
  intro p e s m args below meth c ls hc hr hn hl hw
  have hc : CX Γ p s m args meth c cX0_isOne RX0 2 := hc
  have hl : lv_has ls 2 [(0, .ref (ad o0)), (1, .int a1)] := hl
  have hx := hc.1
  have hb := hc.2.1
  unfold w_X0_isOne at h
  have hf_o0 := h.1
  replace h := h.2
  generalize hHH : s.heap = H0 at hw ⊢
  refine lv_iload_n hx hb dX0_isOne_0 rfl (lv_at hl 1 rfl) ?_
  refine lv_if_eq (tgt := 38) hx hb dX0_isOne_1 (by decide) (fun c1 => ?_) (fun c1 => ?_)
  · replace h := h.1 c1
    refine lv_iconst (v := 1) hx hb dX0_isOne_38 (by decide) ?_
    refine lv_goto (tgt := 43) hx hb dX0_isOne_39 (by decide) ?_
    exact g_zret hc hr hw rfl h dX0_isOne_43
  · replace h := h.2 c1
    refine lv_iload_n hx hb dX0_isOne_4 rfl (lv_at hl 1 rfl) ?_
    refine lv_aload_n hx hb dX0_isOne_5 rfl (lv_at hl 0 rfl) ?_
    refine fg_X0_9 (o := o0) hc hw hf_o0.2 hf_o0.1 dX0_isOne_6 ?_
    refine lv_icmp_eq (tgt := 38) hx hb dX0_isOne_9 (by decide) (fun c2 => ?_) (fun c2 => ?_)
    · replace h := h.1 c2
      refine lv_iconst (v := 1) hx hb dX0_isOne_38 (by decide) ?_
      refine lv_goto (tgt := 43) hx hb dX0_isOne_39 (by decide) ?_
      exact g_zret hc hr hw rfl h dX0_isOne_43
    · replace h := h.2 c2
      refine lv_iload_n hx hb dX0_isOne_12 rfl (lv_at hl 1 rfl) ?_
      refine lv_iconst (v := 1) hx hb dX0_isOne_13 (by decide) ?_
      refine lv_icmp_ne (tgt := 25) hx hb dX0_isOne_14 (by decide) (fun c3 => ?_) (fun c3 => ?_)
      · replace h := h.2 c3
        exact b_X0_isOne_25 hM o0 a1 σ _ _ _ h ⟨hf_o0.1, hf_o0.2⟩ hc hr hw (lv_sub hl [0, 1] rfl)
      · replace h := h.1 c3
        refine lv_aload_n hx hb dX0_isOne_17 rfl (lv_at hl 0 rfl) ?_
        refine fg_X0_9 (o := o0) hc hw hf_o0.2 hf_o0.1 dX0_isOne_18 ?_
        refine lv_iconst (v := 4) hx hb dX0_isOne_21 (by decide) ?_
        refine lv_icmp_eq (tgt := 38) hx hb dX0_isOne_22 (by decide) (fun c4 => ?_) (fun c4 => ?_)
        · replace h := h.1 c4
          refine lv_iconst (v := 1) hx hb dX0_isOne_38 (by decide) ?_
          refine lv_goto (tgt := 43) hx hb dX0_isOne_39 (by decide) ?_
          exact g_zret hc hr hw rfl h dX0_isOne_43
        · replace h := h.2 c4
          exact b_X0_isOne_25 hM o0 a1 σ _ _ _ h ⟨hf_o0.1, hf_o0.2⟩ hc hr hw (lv_sub hl [0, 1] rfl)
def w_X1_hasPart (M : Nat) (post : Int32 → St → Prop) (a1 : Int32) (σ : St) : Prop :=
  (a1 < 0 → (post 0 σ)) ∧ (¬ (a1 < 0) → ((4 < a1 → (post 0 σ)) ∧ (¬ (4 < a1) → (post 1 σ))))
set_option maxHeartbeats 4000000 in
set_option maxRecDepth 20000 in
theorem m_X1_hasPart {Γ : Gm} {ad : Nat → Nat} {M : Nat} (l : Launch) (hM : 53 ≤ M) {post : Int32 → St → Prop} (a1 : Int32) (σ : St) (h : w_X1_hasPart M post a1 σ) : Ci l Γ YC M ad σ yX1_hasPart cX1_hasPart 1 (Option.some Jvm.ClassFile.FieldType.boolean) 0 0 0 [.int a1] post := by
  refine g_start (by decide) (Nat.le_of_ble_eq_true rfl) ?_
  intro p e s m args below meth c ls hc hr hn hl hw
  have hc : CX Γ p s m args meth c cX1_hasPart RX1 1 := hc
  have hl : lv_has ls 1 [(0, .int a1)] := hl
  have hx := hc.1
  have hb := hc.2.1
  unfold w_X1_hasPart at h
  generalize hHH : s.heap = H0 at hw ⊢
  refine lv_iload_n hx hb dX1_hasPart_0 rfl (lv_at hl 0 rfl) ?_
  refine lv_if_lt (tgt := 13) hx hb dX1_hasPart_1 (by decide) (fun c1 => ?_) (fun c1 => ?_)
  · replace h := h.1 c1
    refine lv_iconst (v := 0) hx hb dX1_hasPart_13 (by decide) ?_
    exact g_zret hc hr hw rfl h dX1_hasPart_14
  · replace h := h.2 c1
    refine lv_iload_n hx hb dX1_hasPart_4 rfl (lv_at hl 0 rfl) ?_
    refine lv_iconst (v := 4) hx hb dX1_hasPart_5 (by decide) ?_
    refine lv_icmp_gt (tgt := 13) hx hb dX1_hasPart_6 (by decide) (fun c2 => ?_) (fun c2 => ?_)
    · replace h := h.1 c2
      refine lv_iconst (v := 0) hx hb dX1_hasPart_13 (by decide) ?_
      exact g_zret hc hr hw rfl h dX1_hasPart_14
    · replace h := h.2 c2
      refine lv_iconst (v := 1) hx hb dX1_hasPart_9 (by decide) ?_
      refine lv_goto (tgt := 14) hx hb dX1_hasPart_10 (by decide) ?_
      exact g_zret hc hr hw rfl h dX1_hasPart_14
def w_X1_becomeLike (M : Nat) (post : St → Prop) (o0 : Nat) (a1 : Nat) (σ : St) : Prop :=
  (kdC o0 = 1 ∧ o0 < M) ∧ ((kdC a1 = 1 ∧ a1 < M) ∧ (((¬ (0 : Int32) < 0) ∧ (¬ (0 : Int32) < 0) ∧ (¬ (5 : Int32) < 0) ∧ (0 : Int32).toNatClampNeg + (5 : Int32).toNatClampNeg ≤ 5 ∧ (0 : Int32).toNatClampNeg + (5 : Int32).toNatClampNeg ≤ 5) ∧ (∀ σ1 : St, σ1 = so σ (o0 + 1) (va_cpy (fun j => gi σ (a1 + 1) j) (fun j => gi σ (o0 + 1) j) (0 : Int32).toNatClampNeg (0 : Int32).toNatClampNeg (5 : Int32).toNatClampNeg) → (post σ1))))
set_option maxHeartbeats 4000000 in
set_option maxRecDepth 20000 in
theorem m_X1_becomeLike {Γ : Gm} {ad : Nat → Nat} {M : Nat} (l : Launch) (hM : 53 ≤ M) {post : St → Prop} (o0 : Nat) (a1 : Nat) (σ : St) (h : w_X1_becomeLike M post o0 a1 σ) : Cv l Γ YC M ad σ yX1_becomeLike cX1_becomeLike 2 none 0 0 0 [.ref (ad o0), .ref (ad a1)] post := by
  refine g_start (by decide) (Nat.le_of_ble_eq_true rfl) ?_
  intro p e s m args below meth c ls hc hr hn hl hw
  have hc : CX Γ p s m args meth c cX1_becomeLike RX1 2 := hc
  have hl : lv_has ls 2 [(0, .ref (ad o0)), (1, .ref (ad a1))] := hl
  have hx := hc.1
  have hb := hc.2.1
  unfold w_X1_becomeLike at h
  have hf_o0 := h.1
  replace h := h.2
  have hf_a1 := h.1
  replace h := h.2
  generalize hHH : s.heap = H0 at hw ⊢
  refine lv_aload_n hx hb dX1_becomeLike_0 rfl (lv_at hl 1 rfl) ?_
  refine fg_X1_7 (o := a1) hc hw hf_a1.2 hf_a1.1 dX1_becomeLike_1 ?_
  refine lv_iconst (v := 0) hx hb dX1_becomeLike_4 (by decide) ?_
  refine lv_aload_n hx hb dX1_becomeLike_5 rfl (lv_at hl 0 rfl) ?_
  refine fg_X1_7 (o := o0) hc hw hf_o0.2 hf_o0.1 dX1_becomeLike_6 ?_
  refine lv_iconst (v := 0) hx hb dX1_becomeLike_9 (by decide) ?_
  refine lv_aload_n hx hb dX1_becomeLike_10 rfl (lv_at hl 0 rfl) ?_
  refine fg_X1_7 (o := o0) hc hw hf_o0.2 hf_o0.1 dX1_becomeLike_11 ?_
  refine g_aleni (Y := YC) (kd := 20) (v := 5) (o := (o0 + 1)) (by decide) (by decide) rfl hc hw (Nat.lt_of_lt_of_le (kd1 hf_o0.1).2.1 hM) (kd1 hf_o0.1).1 rfl dX1_becomeLike_14 ?_
  refine g_copyK (Y := YC) (kd0 := 20) (kd1 := 20) (n0 := 5) (n1 := 5) (o0 := (a1 + 1)) (o1 := (o0 + 1)) YC_ok q_913 q_446 q_445 q_87 ⟨by decide, by decide, rfl⟩ ⟨by decide, by decide, rfl⟩ hc hw hl.1 (Nat.lt_of_lt_of_le (kd1 hf_a1.1).2.1 hM) (Nat.lt_of_lt_of_le (kd1 hf_o0.1).2.1 hM) (kd1 hf_a1.1).1 (kd1 hf_o0.1).1 rfl rfl h.1 ⟨Nat.le_of_ble_eq_true rfl, Nat.le_of_ble_eq_true rfl⟩ (Nat.le_of_ble_eq_true rfl) dX1_becomeLike_15 (fun σ1 H locs eσ1 hw => ?_)
  replace h := h.2 σ1 eσ1
  exact g_vret hc hr hw h dX1_becomeLike_18
def w_X1_fits_17 (M : Nat) (post : Int32 → St → Prop) (v1 : Int32) (t0 : Int32) (t1 : Int32) (σ : St) : Prop :=
  (t1 < t0 → (post 0 σ)) ∧ (¬ (t1 < t0) → ((99 < v1 → (post 0 σ)) ∧ (¬ (99 < v1) → (post 1 σ))))
set_option maxHeartbeats 4000000 in
set_option maxRecDepth 20000 in
theorem b_X1_fits_17 {Γ : Gm} {ad : Nat → Nat} {p : Program} {l : Launch} {e : Env} {s : State} {m : MethodId} {args : Array Value} {below : List Frame} {meth : Method} {c : Code} {M : Nat} (hM : 53 ≤ M) {post : Int32 → St → Prop}
    (v1 : Int32) (t0 : Int32) (t1 : Int32) (σ : St) (H : Heap) (locs : List Loc) (ls : Array Slot) (h : w_X1_fits_17 M post v1 t0 t1 σ) (hc : CX Γ p s m args meth c cX1_fits RX1 2) (hr : meth.sig.returnType = (Option.some Jvm.ClassFile.FieldType.boolean)) (hw : WH Γ YC M ad σ s H locs) (hl : lv_has ls 2 [(1, .int v1)]) :
    W p l e (rmL 1 0 0) s m args below meth c H locs 0 0 (MQ below (va_Qi post (fun u t => WC Γ YC M ad u t) (AA Γ)) args s 0 0 (AA Γ)) (F0 m 17 ls [.int t0, .int t1]) := by
  have hx := hc.1
  have hb := hc.2.1
  unfold w_X1_fits_17 at h
  refine lv_icmp_lt (tgt := 30) hx hb dX1_fits_17 (by decide) (fun c1 => ?_) (fun c1 => ?_)
  · replace h := h.1 c1
    refine lv_iconst (v := 0) hx hb dX1_fits_30 (by decide) ?_
    exact g_zret hc hr hw rfl h dX1_fits_31
  · replace h := h.2 c1
    refine lv_iload_n hx hb dX1_fits_20 rfl (lv_at hl 0 rfl) ?_
    refine lv_bipush (v := 99) hx hb dX1_fits_21 (by decide) ?_
    refine lv_icmp_gt (tgt := 30) hx hb dX1_fits_23 (by decide) (fun c2 => ?_) (fun c2 => ?_)
    · replace h := h.1 c2
      refine lv_iconst (v := 0) hx hb dX1_fits_30 (by decide) ?_
      exact g_zret hc hr hw rfl h dX1_fits_31
    · replace h := h.2 c2
      refine lv_iconst (v := 1) hx hb dX1_fits_26 (by decide) ?_
      refine lv_goto (tgt := 31) hx hb dX1_fits_27 (by decide) ?_
      exact g_zret hc hr hw rfl h dX1_fits_31
def w_X1_fits (M : Nat) (post : Int32 → St → Prop) (a1 : Int32) (a2 : Int32) (σ : St) : Prop :=
  w_X1_hasPart M (fun r2 σ1 => ((r2 = 0 → (post 0 σ1)) ∧ (¬ (r2 = 0) → ((a1 = 0 → (w_X1_fits_17 M post a2 1 a2 σ1)) ∧ (¬ (a1 = 0) → (w_X1_fits_17 M post a2 0 a2 σ1)))))) a1 σ
set_option maxHeartbeats 4000000 in
set_option maxRecDepth 20000 in
theorem m_X1_fits {Γ : Gm} {ad : Nat → Nat} {M : Nat} (l : Launch) (hM : 53 ≤ M) {post : Int32 → St → Prop} (a1 : Int32) (a2 : Int32) (σ : St) (h : w_X1_fits M post a1 a2 σ) : Ci l Γ YC M ad σ yX1_fits cX1_fits 2 (Option.some Jvm.ClassFile.FieldType.boolean) 1 0 0 [.int a1, .int a2] post := by
  refine g_start (by decide) (Nat.le_of_ble_eq_true rfl) ?_
  intro p e s m args below meth c ls hc hr hn hl hw
  have hc : CX Γ p s m args meth c cX1_fits RX1 2 := hc
  have hl : lv_has ls 2 [(0, .int a1), (1, .int a2)] := hl
  have hx := hc.1
  have hb := hc.2.1
  unfold w_X1_fits at h
  generalize hHH : s.heap = H0 at hw ⊢
  refine lv_iload_n hx hb dX1_fits_0 rfl (lv_at hl 0 rfl) ?_
  refine g_Si (Y := YC) (n := 1) (k := 0) (As := [.int a1]) (rest := []) vw_X1_13 ⟨Nat.le_of_ble_eq_true rfl, Nat.le_of_ble_eq_true rfl, Nat.zero_le _, Nat.zero_le _⟩ hc hw hl.1 (m_X1_hasPart l hM a1 σ h) rfl rfl (Nat.le_of_ble_eq_true rfl) dX1_fits_1 (fun r2 σ1 H locs h hw => ?_)
  refine lv_if_eq (tgt := 30) hx hb dX1_fits_4 (by decide) (fun c3 => ?_) (fun c3 => ?_)
  · replace h := h.1 c3
    refine lv_iconst (v := 0) hx hb dX1_fits_30 (by decide) ?_
    exact g_zret hc hr hw rfl h dX1_fits_31
  · replace h := h.2 c3
    refine lv_iload_n hx hb dX1_fits_7 rfl (lv_at hl 1 rfl) ?_
    refine lv_iload_n hx hb dX1_fits_8 rfl (lv_at hl 0 rfl) ?_
    refine lv_if_ne (tgt := 16) hx hb dX1_fits_9 (by decide) (fun c4 => ?_) (fun c4 => ?_)
    · replace h := h.2 c4
      refine lv_iconst (v := 0) hx hb dX1_fits_16 (by decide) ?_
      exact b_X1_fits_17 hM a2 0 a2 σ1 _ _ _ h  hc hr hw (lv_sub hl [1] rfl)
    · replace h := h.1 c4
      refine lv_iconst (v := 1) hx hb dX1_fits_12 (by decide) ?_
      refine lv_goto (tgt := 17) hx hb dX1_fits_13 (by decide) ?_
      exact b_X1_fits_17 hM a2 1 a2 σ1 _ _ _ h  hc hr hw (lv_sub hl [1] rfl)
def w_X1_tell (M : Nat) (post : Int32 → St → Prop) (o0 : Nat) (a1 : Int32) (σ : St) : Prop :=
  (kdC o0 = 1 ∧ o0 < M) ∧ (w_X1_hasPart M (fun r2 σ1 => ((r2 = 0 → (post 0 σ1)) ∧ (¬ (r2 = 0) → ((vp_in a1 5) ∧ (∀ x4 : Int32, x4 = gi σ1 (o0 + 1) a1.toNatClampNeg → (post x4 σ1)))))) a1 σ)
set_option maxHeartbeats 4000000 in
set_option maxRecDepth 20000 in
theorem m_X1_tell {Γ : Gm} {ad : Nat → Nat} {M : Nat} (l : Launch) (hM : 53 ≤ M) {post : Int32 → St → Prop} (o0 : Nat) (a1 : Int32) (σ : St) (h : w_X1_tell M post o0 a1 σ) : Ci l Γ YC M ad σ yX1_tell cX1_tell 2 (Option.some Jvm.ClassFile.FieldType.int) 1 0 0 [.ref (ad o0), .int a1] post := by
  refine g_start (by decide) (Nat.le_of_ble_eq_true rfl) ?_
  intro p e s m args below meth c ls hc hr hn hl hw
  have hc : CX Γ p s m args meth c cX1_tell RX1 2 := hc
  have hl : lv_has ls 2 [(0, .ref (ad o0)), (1, .int a1)] := hl
  have hx := hc.1
  have hb := hc.2.1
  unfold w_X1_tell at h
  have hf_o0 := h.1
  replace h := h.2
  generalize hHH : s.heap = H0 at hw ⊢
  refine lv_iload_n hx hb dX1_tell_0 rfl (lv_at hl 1 rfl) ?_
  refine g_Si (Y := YC) (n := 1) (k := 0) (As := [.int a1]) (rest := []) vw_X1_13 ⟨Nat.le_of_ble_eq_true rfl, Nat.le_of_ble_eq_true rfl, Nat.zero_le _, Nat.zero_le _⟩ hc hw hl.1 (m_X1_hasPart l hM a1 σ h) rfl rfl (Nat.le_of_ble_eq_true rfl) dX1_tell_1 (fun r2 σ1 H locs h hw => ?_)
  refine lv_if_eq (tgt := 16) hx hb dX1_tell_4 (by decide) (fun c3 => ?_) (fun c3 => ?_)
  · replace h := h.1 c3
    refine lv_iconst (v := 0) hx hb dX1_tell_16 (by decide) ?_
    exact g_iret hc hr hw h dX1_tell_17
  · replace h := h.2 c3
    refine lv_aload_n hx hb dX1_tell_7 rfl (lv_at hl 0 rfl) ?_
    refine fg_X1_7 (o := o0) hc hw hf_o0.2 hf_o0.1 dX1_tell_8 ?_
    refine lv_iload_n hx hb dX1_tell_11 rfl (lv_at hl 1 rfl) ?_
    refine g_ialdK (Y := YC) (kd := 20) (n := 5) (k := a1.toNatClampNeg) (o := (o0 + 1)) (by decide) (by decide) rfl hc hw (Nat.lt_of_lt_of_le (kd1 hf_o0.1).2.1 hM) (kd1 hf_o0.1).1 rfl h.1 rfl dX1_tell_12 ?_
    replace h := h.2
    refine lv_topi (fun x4 ex4 => ?_)
    replace h := h x4 ex4
    refine lv_goto (tgt := 17) hx hb dX1_tell_13 (by decide) ?_
    exact g_iret hc hr hw h dX1_tell_17
def w_X1_put (M : Nat) (post : St → Prop) (o0 : Nat) (a1 : Int32) (a2 : Int32) (σ : St) : Prop :=
  (kdC o0 = 1 ∧ o0 < M) ∧ (w_X1_hasPart M (fun r2 σ1 => ((r2 = 0 → (post σ1)) ∧ (¬ (r2 = 0) → ((vp_in a1 5) ∧ (∀ σ4 : St, σ4 = si σ1 (o0 + 1) a1.toNatClampNeg a2 → (post σ4)))))) a1 σ)
set_option maxHeartbeats 4000000 in
set_option maxRecDepth 20000 in
theorem m_X1_put {Γ : Gm} {ad : Nat → Nat} {M : Nat} (l : Launch) (hM : 53 ≤ M) {post : St → Prop} (o0 : Nat) (a1 : Int32) (a2 : Int32) (σ : St) (h : w_X1_put M post o0 a1 a2 σ) : Cv l Γ YC M ad σ yX1_put cX1_put 3 none 1 0 0 [.ref (ad o0), .int a1, .int a2] post := by
  refine g_start (by decide) (Nat.le_of_ble_eq_true rfl) ?_
  intro p e s m args below meth c ls hc hr hn hl hw
  have hc : CX Γ p s m args meth c cX1_put RX1 3 := hc
  have hl : lv_has ls 3 [(0, .ref (ad o0)), (1, .int a1), (2, .int a2)] := hl
  have hx := hc.1
  have hb := hc.2.1
  unfold w_X1_put at h
  have hf_o0 := h.1
  replace h := h.2
  generalize hHH : s.heap = H0 at hw ⊢
  refine lv_iload_n hx hb dX1_put_0 rfl (lv_at hl 1 rfl) ?_
  refine g_Si (Y := YC) (n := 1) (k := 0) (As := [.int a1]) (rest := []) vw_X1_13 ⟨Nat.le_of_ble_eq_true rfl, Nat.le_of_ble_eq_true rfl, Nat.zero_le _, Nat.zero_le _⟩ hc hw hl.1 (m_X1_hasPart l hM a1 σ h) rfl rfl (Nat.le_of_ble_eq_true rfl) dX1_put_1 (fun r2 σ1 H locs h hw => ?_)
  refine lv_if_eq (tgt := 14) hx hb dX1_put_4 (by decide) (fun c3 => ?_) (fun c3 => ?_)
  · replace h := h.1 c3
    exact g_vret hc hr hw h dX1_put_14
  · replace h := h.2 c3
    refine lv_aload_n hx hb dX1_put_7 rfl (lv_at hl 0 rfl) ?_
    refine fg_X1_7 (o := o0) hc hw hf_o0.2 hf_o0.1 dX1_put_8 ?_
    refine lv_iload_n hx hb dX1_put_11 rfl (lv_at hl 1 rfl) ?_
    refine lv_iload_n hx hb dX1_put_12 rfl (lv_at hl 2 rfl) ?_
    have hin := h.1
    replace h := h.2
    refine g_iastK (Y := YC) (kd := 20) (n := 5) (k := a1.toNatClampNeg) (o := (o0 + 1)) YC_ok (by decide) (by decide) rfl hc hw (Nat.lt_of_lt_of_le (kd1 hf_o0.1).2.1 hM) (kd1 hf_o0.1).1 rfl hin rfl dX1_put_13 (fun σ4 H locs eσ4 hw => ?_)
    replace h := h σ4 eσ4
    exact g_vret hc hr hw h dX1_put_14
def w_X2_startOf (M : Nat) (post : Int32 → St → Prop) (o0 : Nat) (a1 : Int32) (σ : St) : Prop :=
  (kdC o0 = 2 ∧ o0 < M) ∧ ((a1 = 0 → (post 0 σ)) ∧ (¬ (a1 = 0) → ((a1 = 1 → (post (gi σ o0 1) σ)) ∧ (¬ (a1 = 1) → (post (gi σ o0 2) σ)))))
set_option maxHeartbeats 4000000 in
set_option maxRecDepth 20000 in
theorem m_X2_startOf {Γ : Gm} {ad : Nat → Nat} {M : Nat} (l : Launch) (hM : 53 ≤ M) {post : Int32 → St → Prop} (o0 : Nat) (a1 : Int32) (σ : St) (h : w_X2_startOf M post o0 a1 σ) : Ci l Γ YC M ad σ yX2_startOf cX2_startOf 2 (Option.some Jvm.ClassFile.FieldType.int) 0 0 0 [.ref (ad o0), .int a1] post := by
  refine g_start (by decide) (Nat.le_of_ble_eq_true rfl) ?_
  intro p e s m args below meth c ls hc hr hn hl hw
  have hc : CX Γ p s m args meth c cX2_startOf RX2 2 := hc
  have hl : lv_has ls 2 [(0, .ref (ad o0)), (1, .int a1)] := hl
  have hx := hc.1
  have hb := hc.2.1
  unfold w_X2_startOf at h
  have hf_o0 := h.1
  replace h := h.2
  generalize hHH : s.heap = H0 at hw ⊢
  refine lv_iload_n hx hb dX2_startOf_0 rfl (lv_at hl 1 rfl) ?_
  refine lv_if_ne (tgt := 8) hx hb dX2_startOf_1 (by decide) (fun c1 => ?_) (fun c1 => ?_)
  · replace h := h.2 c1
    refine lv_iload_n hx hb dX2_startOf_8 rfl (lv_at hl 1 rfl) ?_
    refine lv_iconst (v := 1) hx hb dX2_startOf_9 (by decide) ?_
    refine lv_icmp_ne (tgt := 20) hx hb dX2_startOf_10 (by decide) (fun c2 => ?_) (fun c2 => ?_)
    · replace h := h.2 c2
      refine lv_aload_n hx hb dX2_startOf_20 rfl (lv_at hl 0 rfl) ?_
      refine fg_X2_17 (o := o0) hc hw hf_o0.2 hf_o0.1 dX2_startOf_21 ?_
      exact g_iret hc hr hw h dX2_startOf_24
    · replace h := h.1 c2
      refine lv_aload_n hx hb dX2_startOf_13 rfl (lv_at hl 0 rfl) ?_
      refine fg_X2_13 (o := o0) hc hw hf_o0.2 hf_o0.1 dX2_startOf_14 ?_
      refine lv_goto (tgt := 24) hx hb dX2_startOf_17 (by decide) ?_
      exact g_iret hc hr hw h dX2_startOf_24
  · replace h := h.1 c1
    refine lv_iconst (v := 0) hx hb dX2_startOf_4 (by decide) ?_
    refine lv_goto (tgt := 24) hx hb dX2_startOf_5 (by decide) ?_
    exact g_iret hc hr hw h dX2_startOf_24
def w_X2_endOf (M : Nat) (post : Int32 → St → Prop) (o0 : Nat) (a1 : Int32) (σ : St) : Prop :=
  (kdC o0 = 2 ∧ o0 < M) ∧ ((a1 = 0 → (post (gi σ o0 1) σ)) ∧ (¬ (a1 = 0) → ((a1 = 1 → (post (gi σ o0 2) σ)) ∧ (¬ (a1 = 1) → (∀ x3 : Int32, x3 = Int32.ofNat (gz σ (o0 - 1)) → (post x3 σ))))))
set_option maxHeartbeats 4000000 in
set_option maxRecDepth 20000 in
theorem m_X2_endOf {Γ : Gm} {ad : Nat → Nat} {M : Nat} (l : Launch) (hM : 53 ≤ M) {post : Int32 → St → Prop} (o0 : Nat) (a1 : Int32) (σ : St) (h : w_X2_endOf M post o0 a1 σ) : Ci l Γ YC M ad σ yX2_endOf cX2_endOf 2 (Option.some Jvm.ClassFile.FieldType.int) 0 0 0 [.ref (ad o0), .int a1] post := by
  refine g_start (by decide) (Nat.le_of_ble_eq_true rfl) ?_
  intro p e s m args below meth c ls hc hr hn hl hw
  have hc : CX Γ p s m args meth c cX2_endOf RX2 2 := hc
  have hl : lv_has ls 2 [(0, .ref (ad o0)), (1, .int a1)] := hl
  have hx := hc.1
  have hb := hc.2.1
  unfold w_X2_endOf at h
  have hf_o0 := h.1
  replace h := h.2
  generalize hHH : s.heap = H0 at hw ⊢
  refine lv_iload_n hx hb dX2_endOf_0 rfl (lv_at hl 1 rfl) ?_
  refine lv_if_ne (tgt := 11) hx hb dX2_endOf_1 (by decide) (fun c1 => ?_) (fun c1 => ?_)
  · replace h := h.2 c1
    refine lv_iload_n hx hb dX2_endOf_11 rfl (lv_at hl 1 rfl) ?_
    refine lv_iconst (v := 1) hx hb dX2_endOf_12 (by decide) ?_
    refine lv_icmp_ne (tgt := 23) hx hb dX2_endOf_13 (by decide) (fun c2 => ?_) (fun c2 => ?_)
    · replace h := h.2 c2
      refine lv_aload_n hx hb dX2_endOf_23 rfl (lv_at hl 0 rfl) ?_
      refine fg_X2_7 (o := o0) hc hw hf_o0.2 hf_o0.1 dX2_endOf_24 ?_
      refine g_aleni (Y := YC) (kd := 26) (v := Int32.ofNat (gz σ (o0 - 1))) (o := (o0 - 1)) (by decide) (by decide) rfl hc hw (Nat.lt_of_le_of_lt (Nat.sub_le _ _) hf_o0.2) (kd2 hf_o0.1).1 rfl dX2_endOf_27 ?_
      refine lv_topi (fun x3 ex3 => ?_)
      replace h := h x3 ex3
      exact g_iret hc hr hw h dX2_endOf_28
    · replace h := h.1 c2
      refine lv_aload_n hx hb dX2_endOf_16 rfl (lv_at hl 0 rfl) ?_
      refine fg_X2_17 (o := o0) hc hw hf_o0.2 hf_o0.1 dX2_endOf_17 ?_
      refine lv_goto (tgt := 28) hx hb dX2_endOf_20 (by decide) ?_
      exact g_iret hc hr hw h dX2_endOf_28
  · replace h := h.1 c1
    refine lv_aload_n hx hb dX2_endOf_4 rfl (lv_at hl 0 rfl) ?_
    refine fg_X2_13 (o := o0) hc hw hf_o0.2 hf_o0.1 dX2_endOf_5 ?_
    refine lv_goto (tgt := 28) hx hb dX2_endOf_8 (by decide) ?_
    exact g_iret hc hr hw h dX2_endOf_28
def w_X2_codeAt (M : Nat) (post : Int32 → St → Prop) (o0 : Nat) (a1 : Int32) (σ : St) : Prop :=
  (kdC o0 = 2 ∧ o0 < M) ∧ ((a1 < 0 → (post 0 σ)) ∧ (¬ (a1 < 0) → (((Int32.ofNat (gz σ (o0 - 1))) ≤ a1 → (post 0 σ)) ∧ (¬ ((Int32.ofNat (gz σ (o0 - 1))) ≤ a1) → ((vp_in a1 (gz σ (o0 - 1))) ∧ (∀ x3 : Int32, x3 = gi σ (o0 - 1) a1.toNatClampNeg → (post x3 σ)))))))
set_option maxHeartbeats 4000000 in
set_option maxRecDepth 20000 in
theorem m_X2_codeAt {Γ : Gm} {ad : Nat → Nat} {M : Nat} (l : Launch) (hM : 53 ≤ M) {post : Int32 → St → Prop} (o0 : Nat) (a1 : Int32) (σ : St) (h : w_X2_codeAt M post o0 a1 σ) : Ci l Γ YC M ad σ yX2_codeAt cX2_codeAt 2 (Option.some Jvm.ClassFile.FieldType.int) 0 0 0 [.ref (ad o0), .int a1] post := by
  refine g_start (by decide) (Nat.le_of_ble_eq_true rfl) ?_
  intro p e s m args below meth c ls hc hr hn hl hw
  have hc : CX Γ p s m args meth c cX2_codeAt RX2 2 := hc
  have hl : lv_has ls 2 [(0, .ref (ad o0)), (1, .int a1)] := hl
  have hx := hc.1
  have hb := hc.2.1
  unfold w_X2_codeAt at h
  have hf_o0 := h.1
  replace h := h.2
  generalize hHH : s.heap = H0 at hw ⊢
  refine lv_iload_n hx hb dX2_codeAt_0 rfl (lv_at hl 1 rfl) ?_
  refine lv_if_lt (tgt := 22) hx hb dX2_codeAt_1 (by decide) (fun c1 => ?_) (fun c1 => ?_)
  · replace h := h.1 c1
    refine lv_iconst (v := 0) hx hb dX2_codeAt_22 (by decide) ?_
    exact g_iret hc hr hw h dX2_codeAt_23
  · replace h := h.2 c1
    refine lv_iload_n hx hb dX2_codeAt_4 rfl (lv_at hl 1 rfl) ?_
    refine lv_aload_n hx hb dX2_codeAt_5 rfl (lv_at hl 0 rfl) ?_
    refine fg_X2_7 (o := o0) hc hw hf_o0.2 hf_o0.1 dX2_codeAt_6 ?_
    refine g_aleni (Y := YC) (kd := 26) (v := Int32.ofNat (gz σ (o0 - 1))) (o := (o0 - 1)) (by decide) (by decide) rfl hc hw (Nat.lt_of_le_of_lt (Nat.sub_le _ _) hf_o0.2) (kd2 hf_o0.1).1 rfl dX2_codeAt_9 ?_
    refine lv_icmp_ge (tgt := 22) hx hb dX2_codeAt_10 (by decide) (fun c2 => ?_) (fun c2 => ?_)
    · replace h := h.1 c2
      refine lv_iconst (v := 0) hx hb dX2_codeAt_22 (by decide) ?_
      exact g_iret hc hr hw h dX2_codeAt_23
    · replace h := h.2 c2
      refine lv_aload_n hx hb dX2_codeAt_13 rfl (lv_at hl 0 rfl) ?_
      refine fg_X2_7 (o := o0) hc hw hf_o0.2 hf_o0.1 dX2_codeAt_14 ?_
      refine lv_iload_n hx hb dX2_codeAt_17 rfl (lv_at hl 1 rfl) ?_
      refine g_ialdK (Y := YC) (kd := 26) (n := (gz σ (o0 - 1))) (k := a1.toNatClampNeg) (o := (o0 - 1)) (by decide) (by decide) rfl hc hw (Nat.lt_of_le_of_lt (Nat.sub_le _ _) hf_o0.2) (kd2 hf_o0.1).1 rfl h.1 rfl dX2_codeAt_18 ?_
      replace h := h.2
      refine lv_topi (fun x3 ex3 => ?_)
      replace h := h x3 ex3
      refine lv_goto (tgt := 23) hx hb dX2_codeAt_19 (by decide) ?_
      exact g_iret hc hr hw h dX2_codeAt_23
def w_X2_joined (M : Nat) (post : Int32 → St → Prop) (a1 : Int32) (a2 : Int32) (a3 : Int32) (σ : St) : Prop :=
  (a1 = (-26) → (post (a2 - a3) σ)) ∧ (¬ (a1 = (-26)) → ((a1 = (-25) → (post (a2 + a3) σ)) ∧ (¬ (a1 = (-25)) → ((a1 = (-24) → ((a2 = a3 → (post 1 σ)) ∧ (¬ (a2 = a3) → (post 0 σ)))) ∧ (¬ (a1 = (-24)) → ((a1 = (-23) → ((a3 ≤ a2 → (post 0 σ)) ∧ (¬ (a3 ≤ a2) → (post 1 σ)))) ∧ (¬ (a1 = (-23)) → ((a1 = (-22) → ((a2 = 0 → (post 0 σ)) ∧ (¬ (a2 = 0) → ((a3 = 0 → (post 0 σ)) ∧ (¬ (a3 = 0) → (post 1 σ)))))) ∧ (¬ (a1 = (-22)) → ((a1 = (-21) → ((a2 = 0 → ((a3 = 0 → (post 0 σ)) ∧ (¬ (a3 = 0) → (post 1 σ)))) ∧ (¬ (a2 = 0) → (post 1 σ)))) ∧ (¬ (a1 = (-21)) → (post (a2 * a3) σ))))))))))))
set_option maxHeartbeats 4000000 in
set_option maxRecDepth 20000 in
theorem m_X2_joined {Γ : Gm} {ad : Nat → Nat} {M : Nat} (l : Launch) (hM : 53 ≤ M) {post : Int32 → St → Prop} (a1 : Int32) (a2 : Int32) (a3 : Int32) (σ : St) (h : w_X2_joined M post a1 a2 a3 σ) : Ci l Γ YC M ad σ yX2_joined cX2_joined 3 (Option.some Jvm.ClassFile.FieldType.int) 0 0 0 [.int a1, .int a2, .int a3] post := by
  refine g_start (by decide) (Nat.le_of_ble_eq_true rfl) ?_
  intro p e s m args below meth c ls hc hr hn hl hw
  have hc : CX Γ p s m args meth c cX2_joined RX2 3 := hc
  have hl : lv_has ls 3 [(0, .int a1), (1, .int a2), (2, .int a3)] := hl
  have hx := hc.1
  have hb := hc.2.1
  unfold w_X2_joined at h
  generalize hHH : s.heap = H0 at hw ⊢
  refine lv_iload_n hx hb dX2_joined_0 rfl (lv_at hl 0 rfl) ?_
  by_cases c1 : a1 = (-26)
  · replace h := h.1 c1
    refine lv_tableIn (off := 93) (tgt := 94) hx hb dX2_joined_1 (by rw [c1]; decide) (by rw [c1]; decide) (by rw [c1]; rfl) (by decide) ?_
    refine lv_iload_n hx hb dX2_joined_94 rfl (lv_at hl 1 rfl) ?_
    refine lv_iload_n hx hb dX2_joined_95 rfl (lv_at hl 2 rfl) ?_
    refine lv_isub hx hb dX2_joined_96 ?_
    exact g_iret hc hr hw h dX2_joined_97
  replace h := h.2 c1
  by_cases c2 : a1 = (-25)
  · replace h := h.1 c2
    refine lv_tableIn (off := 89) (tgt := 90) hx hb dX2_joined_1 (by rw [c2]; decide) (by rw [c2]; decide) (by rw [c2]; rfl) (by decide) ?_
    refine lv_iload_n hx hb dX2_joined_90 rfl (lv_at hl 1 rfl) ?_
    refine lv_iload_n hx hb dX2_joined_91 rfl (lv_at hl 2 rfl) ?_
    refine lv_iadd hx hb dX2_joined_92 ?_
    exact g_iret hc hr hw h dX2_joined_93
  replace h := h.2 c2
  by_cases c3 : a1 = (-24)
  · replace h := h.1 c3
    refine lv_tableIn (off := 78) (tgt := 79) hx hb dX2_joined_1 (by rw [c3]; decide) (by rw [c3]; decide) (by rw [c3]; rfl) (by decide) ?_
    refine lv_iload_n hx hb dX2_joined_79 rfl (lv_at hl 1 rfl) ?_
    refine lv_iload_n hx hb dX2_joined_80 rfl (lv_at hl 2 rfl) ?_
    refine lv_icmp_ne (tgt := 88) hx hb dX2_joined_81 (by decide) (fun c4 => ?_) (fun c4 => ?_)
    · replace h := h.2 c4
      refine lv_iconst (v := 0) hx hb dX2_joined_88 (by decide) ?_
      exact g_iret hc hr hw h dX2_joined_89
    · replace h := h.1 c4
      refine lv_iconst (v := 1) hx hb dX2_joined_84 (by decide) ?_
      refine lv_goto (tgt := 89) hx hb dX2_joined_85 (by decide) ?_
      exact g_iret hc hr hw h dX2_joined_89
  replace h := h.2 c3
  by_cases c5 : a1 = (-23)
  · replace h := h.1 c5
    refine lv_tableIn (off := 67) (tgt := 68) hx hb dX2_joined_1 (by rw [c5]; decide) (by rw [c5]; decide) (by rw [c5]; rfl) (by decide) ?_
    refine lv_iload_n hx hb dX2_joined_68 rfl (lv_at hl 1 rfl) ?_
    refine lv_iload_n hx hb dX2_joined_69 rfl (lv_at hl 2 rfl) ?_
    refine lv_icmp_ge (tgt := 77) hx hb dX2_joined_70 (by decide) (fun c6 => ?_) (fun c6 => ?_)
    · replace h := h.1 c6
      refine lv_iconst (v := 0) hx hb dX2_joined_77 (by decide) ?_
      exact g_iret hc hr hw h dX2_joined_78
    · replace h := h.2 c6
      refine lv_iconst (v := 1) hx hb dX2_joined_73 (by decide) ?_
      refine lv_goto (tgt := 78) hx hb dX2_joined_74 (by decide) ?_
      exact g_iret hc hr hw h dX2_joined_78
  replace h := h.2 c5
  by_cases c7 : a1 = (-22)
  · replace h := h.1 c7
    refine lv_tableIn (off := 53) (tgt := 54) hx hb dX2_joined_1 (by rw [c7]; decide) (by rw [c7]; decide) (by rw [c7]; rfl) (by decide) ?_
    refine lv_iload_n hx hb dX2_joined_54 rfl (lv_at hl 1 rfl) ?_
    refine lv_if_eq (tgt := 66) hx hb dX2_joined_55 (by decide) (fun c8 => ?_) (fun c8 => ?_)
    · replace h := h.1 c8
      refine lv_iconst (v := 0) hx hb dX2_joined_66 (by decide) ?_
      exact g_iret hc hr hw h dX2_joined_67
    · replace h := h.2 c8
      refine lv_iload_n hx hb dX2_joined_58 rfl (lv_at hl 2 rfl) ?_
      refine lv_if_eq (tgt := 66) hx hb dX2_joined_59 (by decide) (fun c9 => ?_) (fun c9 => ?_)
      · replace h := h.1 c9
        refine lv_iconst (v := 0) hx hb dX2_joined_66 (by decide) ?_
        exact g_iret hc hr hw h dX2_joined_67
      · replace h := h.2 c9
        refine lv_iconst (v := 1) hx hb dX2_joined_62 (by decide) ?_
        refine lv_goto (tgt := 67) hx hb dX2_joined_63 (by decide) ?_
        exact g_iret hc hr hw h dX2_joined_67
  replace h := h.2 c7
  by_cases c10 : a1 = (-21)
  · replace h := h.1 c10
    refine lv_tableIn (off := 39) (tgt := 40) hx hb dX2_joined_1 (by rw [c10]; decide) (by rw [c10]; decide) (by rw [c10]; rfl) (by decide) ?_
    refine lv_iload_n hx hb dX2_joined_40 rfl (lv_at hl 1 rfl) ?_
    refine lv_if_ne (tgt := 48) hx hb dX2_joined_41 (by decide) (fun c11 => ?_) (fun c11 => ?_)
    · replace h := h.2 c11
      refine lv_iconst (v := 1) hx hb dX2_joined_48 (by decide) ?_
      refine lv_goto (tgt := 53) hx hb dX2_joined_49 (by decide) ?_
      exact g_iret hc hr hw h dX2_joined_53
    · replace h := h.1 c11
      refine lv_iload_n hx hb dX2_joined_44 rfl (lv_at hl 2 rfl) ?_
      refine lv_if_eq (tgt := 52) hx hb dX2_joined_45 (by decide) (fun c12 => ?_) (fun c12 => ?_)
      · replace h := h.1 c12
        refine lv_iconst (v := 0) hx hb dX2_joined_52 (by decide) ?_
        exact g_iret hc hr hw h dX2_joined_53
      · replace h := h.2 c12
        refine lv_iconst (v := 1) hx hb dX2_joined_48 (by decide) ?_
        refine lv_goto (tgt := 53) hx hb dX2_joined_49 (by decide) ?_
        exact g_iret hc hr hw h dX2_joined_53
  replace h := h.2 c10
  refine lv_tableOut (tgt := 98) hx hb dX2_joined_1 (by have zc1 := lv_neT (a := -26) c1 (by decide); have zc2 := lv_neT (a := -25) c2 (by decide); have zc3 := lv_neT (a := -24) c3 (by decide); have zc5 := lv_neT (a := -23) c5 (by decide); have zc7 := lv_neT (a := -22) c7 (by decide); have zc10 := lv_neT (a := -21) c10 (by decide); omega) (by decide) ?_
  refine lv_iload_n hx hb dX2_joined_98 rfl (lv_at hl 1 rfl) ?_
  refine lv_iload_n hx hb dX2_joined_99 rfl (lv_at hl 2 rfl) ?_
  refine lv_imul hx hb dX2_joined_100 ?_
  exact g_iret hc hr hw h dX2_joined_101
def w_X5_become_21 (M : Nat) (post : St → Prop) (k_21 : Nat → Int32 → St → Prop) (v0 : Nat) (v3 : Int32) (σ : St) : Prop :=
  (40 ≤ v3 → (post σ)) ∧ (¬ (40 ≤ v3) → ((vp_in v3 40) ∧ (∀ σ2 : St, σ2 = si σ (v0 + 1) v3.toNatClampNeg 0 → (∀ x3 : Int32, x3 = v3 + 1 → (k_21 v0 x3 σ2)))))
set_option maxHeartbeats 4000000 in
set_option maxRecDepth 20000 in
theorem b_X5_become_21 {Γ : Gm} {ad : Nat → Nat} {p : Program} {l : Launch} {e : Env} {s : State} {m : MethodId} {args : Array Value} {below : List Frame} {meth : Method} {c : Code} {M : Nat} (hM : 53 ≤ M) {post : St → Prop} {k_21 : Nat → Int32 → St → Prop} (hk_21 : ∀ (v0 : Nat) (v3 : Int32) (σ : St) (H : Heap) (locs : List Loc) (ls : Array Slot), k_21 v0 v3 σ → kdC v0 = 5 ∧ v0 < M → WH Γ YC M ad σ s H locs → lv_has ls 4 [(0, .ref (ad v0)), (3, .int v3)] → W p l e (rmL 0 0 0) s m args below meth c H locs 0 0 (MQ below (va_Qv post (fun u t => WC Γ YC M ad u t) (AA Γ)) args s 0 0 (AA Γ)) (F0 m 21 ls []))
    (v0 : Nat) (v3 : Int32) (σ : St) (H : Heap) (locs : List Loc) (ls : Array Slot) (h : w_X5_become_21 M post k_21 v0 v3 σ) (hf_v0 : kdC v0 = 5 ∧ v0 < M) (hc : CX Γ p s m args meth c cX5_become RX5 4) (hr : meth.sig.returnType = none) (hw : WH Γ YC M ad σ s H locs) (hl : lv_has ls 4 [(0, .ref (ad v0)), (3, .int v3)]) :
    W p l e (rmL 0 0 0) s m args below meth c H locs 0 0 (MQ below (va_Qv post (fun u t => WC Γ YC M ad u t) (AA Γ)) args s 0 0 (AA Γ)) (F0 m 21 ls []) := by
  have hx := hc.1
  have hb := hc.2.1
  unfold w_X5_become_21 at h
  refine lv_iload_n hx hb dX5_become_21 rfl (lv_at hl 1 rfl) ?_
  refine lv_aload_n hx hb dX5_become_22 rfl (lv_at hl 0 rfl) ?_
  refine fg_X5_9 (o := v0) hc hw hf_v0.2 hf_v0.1 dX5_become_23 ?_
  refine g_aleni (Y := YC) (kd := 24) (v := 40) (o := (v0 + 1)) (by decide) (by decide) rfl hc hw (Nat.lt_of_lt_of_le (kd5 hf_v0.1).2.1 hM) (kd5 hf_v0.1).1 rfl dX5_become_26 ?_
  refine lv_icmp_ge (tgt := 43) hx hb dX5_become_27 (by decide) (fun c1 => ?_) (fun c1 => ?_)
  · replace h := h.1 c1
    exact g_vret hc hr hw h dX5_become_43
  · replace h := h.2 c1
    refine lv_aload_n hx hb dX5_become_30 rfl (lv_at hl 0 rfl) ?_
    refine fg_X5_9 (o := v0) hc hw hf_v0.2 hf_v0.1 dX5_become_31 ?_
    refine lv_iload_n hx hb dX5_become_34 rfl (lv_at hl 1 rfl) ?_
    refine lv_iconst (v := 0) hx hb dX5_become_35 (by decide) ?_
    have hin := h.1
    replace h := h.2
    refine g_iastK (Y := YC) (kd := 24) (n := 40) (k := v3.toNatClampNeg) (o := (v0 + 1)) YC_ok (by decide) (by decide) rfl hc hw (Nat.lt_of_lt_of_le (kd5 hf_v0.1).2.1 hM) (kd5 hf_v0.1).1 rfl hin rfl dX5_become_36 (fun σ2 H locs eσ2 hw => ?_)
    replace h := h σ2 eσ2
    obtain ⟨x3, ex3⟩ : ∃ z, z = v3 + 1 := ⟨_, rfl⟩
    replace h := h x3 ex3
    refine lv_iinc (v := x3) (lv' := [(3, .int x3), (0, .ref (ad v0))]) hx hb dX5_become_37 hl (k := 1) rfl (by rw [ex3]; rfl) (by decide) rfl (fun ls hl => ?_)
    refine lv_goto (tgt := 21) hx hb dX5_become_40 (by decide) ?_
    exact hk_21 v0 x3 σ2 _ _ _ h ⟨hf_v0.1, hf_v0.2⟩ hw (lv_sub hl [1, 0] rfl)
def wl_X5_become_21 (M : Nat) (post : St → Prop) : Nat → Nat → Int32 → St → Prop
  | 0, _, _, _ => False
  | n + 1, v0, v3, σ => w_X5_become_21 M post (wl_X5_become_21 M post n) v0 v3 σ
set_option maxHeartbeats 4000000 in
theorem bl_X5_become_21 {Γ : Gm} {ad : Nat → Nat} {p : Program} {l : Launch} {e : Env} {s : State} {m : MethodId} {args : Array Value} {below : List Frame} {meth : Method} {c : Code} {M : Nat} (hM : 53 ≤ M) {post : St → Prop}
    (hc : CX Γ p s m args meth c cX5_become RX5 4) (hr : meth.sig.returnType = none) :
    ∀ (n : Nat) (v0 : Nat) (v3 : Int32) (σ : St) (H : Heap) (locs : List Loc) (ls : Array Slot), wl_X5_become_21 M post n v0 v3 σ → kdC v0 = 5 ∧ v0 < M → WH Γ YC M ad σ s H locs → lv_has ls 4 [(0, .ref (ad v0)), (3, .int v3)] → W p l e (rmL 0 0 0) s m args below meth c H locs 0 0 (MQ below (va_Qv post (fun u t => WC Γ YC M ad u t) (AA Γ)) args s 0 0 (AA Γ)) (F0 m 21 ls []) := by
  intro n
  induction n with
  | zero => intro v0 v3 σ H locs ls h; exact h.elim
  | succ n ih =>
    intro v0 v3 σ H locs ls h hf_v0 hw hl
    exact b_X5_become_21 hM ih v0 v3 σ H locs ls h hf_v0 hc hr hw hl
def w_X5_become (M : Nat) (post : St → Prop) (o0 : Nat) (a1 : Int32) (a2 : Int32) (σ : St) : Prop :=
  (kdC o0 = 5 ∧ o0 < M) ∧ (∀ σ1 : St, σ1 = si σ o0 1 a1 → (∀ x2 : Int32, x2 = (if a2 < 40 then a2 else 40) → (∀ x3 : Int32, x3 = (if 0 < x2 then x2 else 0) → (∀ σ4 : St, σ4 = si σ1 o0 2 x3 → (∃ n, wl_X5_become_21 M post n o0 0 σ4)))))
set_option maxHeartbeats 4000000 in
set_option maxRecDepth 20000 in
theorem m_X5_become {Γ : Gm} {ad : Nat → Nat} {M : Nat} (l : Launch) (hM : 53 ≤ M) {post : St → Prop} (o0 : Nat) (a1 : Int32) (a2 : Int32) (σ : St) (h : w_X5_become M post o0 a1 a2 σ) : Cv l Γ YC M ad σ yX5_become cX5_become 4 none 0 0 0 [.ref (ad o0), .int a1, .int a2] post := by
  refine g_start (by decide) (Nat.le_of_ble_eq_true rfl) ?_
  intro p e s m args below meth c ls hc hr hn hl hw
  have hc : CX Γ p s m args meth c cX5_become RX5 4 := hc
  have hl : lv_has ls 4 [(0, .ref (ad o0)), (1, .int a1), (2, .int a2)] := hl
  have hx := hc.1
  have hb := hc.2.1
  unfold w_X5_become at h
  have hf_o0 := h.1
  replace h := h.2
  generalize hHH : s.heap = H0 at hw ⊢
  refine lv_aload_n hx hb dX5_become_0 rfl (lv_at hl 0 rfl) ?_
  refine lv_iload_n hx hb dX5_become_1 rfl (lv_at hl 1 rfl) ?_
  refine fp_X5_13 (o := o0) hc hw hf_o0.2 hf_o0.1 dX5_become_2 (fun σ1 H locs eσ1 hw => ?_)
  replace h := h σ1 eσ1
  refine lv_aload_n hx hb dX5_become_5 rfl (lv_at hl 0 rfl) ?_
  refine lv_iconst (v := 0) hx hb dX5_become_6 (by decide) ?_
  refine lv_bipush (v := 40) hx hb dX5_become_7 (by decide) ?_
  refine lv_iload_n hx hb dX5_become_9 rfl (lv_at hl 2 rfl) ?_
  refine g_min q_864 q_360 q_85 q_361 hc hl.1 ⟨Nat.le_of_ble_eq_true rfl, Nat.le_of_ble_eq_true rfl, Nat.zero_le _, Nat.zero_le _⟩ (Nat.le_of_ble_eq_true rfl) dX5_become_10 ?_
  refine lv_topi (fun x2 ex2 => ?_)
  replace h := h x2 ex2
  refine g_max q_865 q_357 q_85 q_358 hc hl.1 ⟨Nat.le_of_ble_eq_true rfl, Nat.le_of_ble_eq_true rfl, Nat.zero_le _, Nat.zero_le _⟩ (Nat.le_of_ble_eq_true rfl) dX5_become_13 ?_
  refine lv_topi (fun x3 ex3 => ?_)
  replace h := h x3 ex3
  refine fp_X5_26 (o := o0) hc hw hf_o0.2 hf_o0.1 dX5_become_16 (fun σ4 H locs eσ4 hw => ?_)
  replace h := h σ4 eσ4
  refine lv_iconst (v := 0) hx hb dX5_become_19 (by decide) ?_
  refine lv_istore_n (lv' := [(3, .int 0), (0, .ref (ad o0)), (1, .int a1), (2, .int a2)]) hx hb dX5_become_20 rfl hl (by decide) rfl (fun ls hl => ?_)
  obtain ⟨n, h⟩ := h
  exact bl_X5_become_21 hM hc hr n o0 0 σ4 _ _ _ h ⟨hf_o0.1, hf_o0.2⟩ hw (lv_sub hl [1, 0] rfl)
def w_X5_isMissing (M : Nat) (post : Int32 → St → Prop) (o0 : Nat) (σ : St) : Prop :=
  (kdC o0 = 5 ∧ o0 < M) ∧ (((gi σ o0 1) = (-1) → (post 1 σ)) ∧ (¬ ((gi σ o0 1) = (-1)) → (post 0 σ)))
set_option maxHeartbeats 4000000 in
set_option maxRecDepth 20000 in
theorem m_X5_isMissing {Γ : Gm} {ad : Nat → Nat} {M : Nat} (l : Launch) (hM : 53 ≤ M) {post : Int32 → St → Prop} (o0 : Nat) (σ : St) (h : w_X5_isMissing M post o0 σ) : Ci l Γ YC M ad σ yX5_isMissing cX5_isMissing 1 (Option.some Jvm.ClassFile.FieldType.boolean) 0 0 0 [.ref (ad o0)] post := by
  refine g_start (by decide) (Nat.le_of_ble_eq_true rfl) ?_
  intro p e s m args below meth c ls hc hr hn hl hw
  have hc : CX Γ p s m args meth c cX5_isMissing RX5 1 := hc
  have hl : lv_has ls 1 [(0, .ref (ad o0))] := hl
  have hx := hc.1
  have hb := hc.2.1
  unfold w_X5_isMissing at h
  have hf_o0 := h.1
  replace h := h.2
  generalize hHH : s.heap = H0 at hw ⊢
  refine lv_aload_n hx hb dX5_isMissing_0 rfl (lv_at hl 0 rfl) ?_
  refine fg_X5_13 (o := o0) hc hw hf_o0.2 hf_o0.1 dX5_isMissing_1 ?_
  refine lv_iconst (v := (-1)) hx hb dX5_isMissing_4 (by decide) ?_
  refine lv_icmp_ne (tgt := 12) hx hb dX5_isMissing_5 (by decide) (fun c1 => ?_) (fun c1 => ?_)
  · replace h := h.2 c1
    refine lv_iconst (v := 0) hx hb dX5_isMissing_12 (by decide) ?_
    exact g_zret hc hr hw rfl h dX5_isMissing_13
  · replace h := h.1 c1
    refine lv_iconst (v := 1) hx hb dX5_isMissing_8 (by decide) ?_
    refine lv_goto (tgt := 13) hx hb dX5_isMissing_9 (by decide) ?_
    exact g_zret hc hr hw rfl h dX5_isMissing_13
def w_X5_hasRow (M : Nat) (post : Int32 → St → Prop) (o0 : Nat) (a1 : Int32) (a2 : Int32) (σ : St) : Prop :=
  (kdC o0 = 5 ∧ o0 < M) ∧ ((a1 < 0 → (post 0 σ)) ∧ (¬ (a1 < 0) → ((a2 < 0 → (post 0 σ)) ∧ (¬ (a2 < 0) → (((gi σ o0 2) < a2 → (post 0 σ)) ∧ (¬ ((gi σ o0 2) < a2) → ((((gi σ o0 2) - a2) < a1 → (post 0 σ)) ∧ (¬ (((gi σ o0 2) - a2) < a1) → (post 1 σ)))))))))
set_option maxHeartbeats 4000000 in
set_option maxRecDepth 20000 in
theorem m_X5_hasRow {Γ : Gm} {ad : Nat → Nat} {M : Nat} (l : Launch) (hM : 53 ≤ M) {post : Int32 → St → Prop} (o0 : Nat) (a1 : Int32) (a2 : Int32) (σ : St) (h : w_X5_hasRow M post o0 a1 a2 σ) : Ci l Γ YC M ad σ yX5_hasRow cX5_hasRow 3 (Option.some Jvm.ClassFile.FieldType.boolean) 0 0 0 [.ref (ad o0), .int a1, .int a2] post := by
  refine g_start (by decide) (Nat.le_of_ble_eq_true rfl) ?_
  intro p e s m args below meth c ls hc hr hn hl hw
  have hc : CX Γ p s m args meth c cX5_hasRow RX5 3 := hc
  have hl : lv_has ls 3 [(0, .ref (ad o0)), (1, .int a1), (2, .int a2)] := hl
  have hx := hc.1
  have hb := hc.2.1
  unfold w_X5_hasRow at h
  have hf_o0 := h.1
  replace h := h.2
  generalize hHH : s.heap = H0 at hw ⊢
  refine lv_iload_n hx hb dX5_hasRow_0 rfl (lv_at hl 1 rfl) ?_
  refine lv_if_lt (tgt := 30) hx hb dX5_hasRow_1 (by decide) (fun c1 => ?_) (fun c1 => ?_)
  · replace h := h.1 c1
    refine lv_iconst (v := 0) hx hb dX5_hasRow_30 (by decide) ?_
    exact g_zret hc hr hw rfl h dX5_hasRow_31
  · replace h := h.2 c1
    refine lv_iload_n hx hb dX5_hasRow_4 rfl (lv_at hl 2 rfl) ?_
    refine lv_if_lt (tgt := 30) hx hb dX5_hasRow_5 (by decide) (fun c2 => ?_) (fun c2 => ?_)
    · replace h := h.1 c2
      refine lv_iconst (v := 0) hx hb dX5_hasRow_30 (by decide) ?_
      exact g_zret hc hr hw rfl h dX5_hasRow_31
    · replace h := h.2 c2
      refine lv_iload_n hx hb dX5_hasRow_8 rfl (lv_at hl 2 rfl) ?_
      refine lv_aload_n hx hb dX5_hasRow_9 rfl (lv_at hl 0 rfl) ?_
      refine fg_X5_26 (o := o0) hc hw hf_o0.2 hf_o0.1 dX5_hasRow_10 ?_
      refine lv_icmp_gt (tgt := 30) hx hb dX5_hasRow_13 (by decide) (fun c3 => ?_) (fun c3 => ?_)
      · replace h := h.1 c3
        refine lv_iconst (v := 0) hx hb dX5_hasRow_30 (by decide) ?_
        exact g_zret hc hr hw rfl h dX5_hasRow_31
      · replace h := h.2 c3
        refine lv_iload_n hx hb dX5_hasRow_16 rfl (lv_at hl 1 rfl) ?_
        refine lv_aload_n hx hb dX5_hasRow_17 rfl (lv_at hl 0 rfl) ?_
        refine fg_X5_26 (o := o0) hc hw hf_o0.2 hf_o0.1 dX5_hasRow_18 ?_
        refine lv_iload_n hx hb dX5_hasRow_21 rfl (lv_at hl 2 rfl) ?_
        refine lv_isub hx hb dX5_hasRow_22 ?_
        refine lv_icmp_gt (tgt := 30) hx hb dX5_hasRow_23 (by decide) (fun c4 => ?_) (fun c4 => ?_)
        · replace h := h.1 c4
          refine lv_iconst (v := 0) hx hb dX5_hasRow_30 (by decide) ?_
          exact g_zret hc hr hw rfl h dX5_hasRow_31
        · replace h := h.2 c4
          refine lv_iconst (v := 1) hx hb dX5_hasRow_26 (by decide) ?_
          refine lv_goto (tgt := 31) hx hb dX5_hasRow_27 (by decide) ?_
          exact g_zret hc hr hw rfl h dX5_hasRow_31
def w_X5_tell (M : Nat) (post : Int32 → St → Prop) (o0 : Nat) (a1 : Int32) (σ : St) : Prop :=
  (kdC o0 = 5 ∧ o0 < M) ∧ (w_X5_hasRow M (fun r2 σ1 => ((r2 = 0 → (post 0 σ1)) ∧ (¬ (r2 = 0) → ((vp_in a1 40) ∧ (∀ x4 : Int32, x4 = gi σ1 (o0 + 1) a1.toNatClampNeg → (post x4 σ1)))))) o0 a1 1 σ)
set_option maxHeartbeats 4000000 in
set_option maxRecDepth 20000 in
theorem m_X5_tell {Γ : Gm} {ad : Nat → Nat} {M : Nat} (l : Launch) (hM : 53 ≤ M) {post : Int32 → St → Prop} (o0 : Nat) (a1 : Int32) (σ : St) (h : w_X5_tell M post o0 a1 σ) : Ci l Γ YC M ad σ yX5_tell cX5_tell 2 (Option.some Jvm.ClassFile.FieldType.int) 1 0 0 [.ref (ad o0), .int a1] post := by
  refine g_start (by decide) (Nat.le_of_ble_eq_true rfl) ?_
  intro p e s m args below meth c ls hc hr hn hl hw
  have hc : CX Γ p s m args meth c cX5_tell RX5 2 := hc
  have hl : lv_has ls 2 [(0, .ref (ad o0)), (1, .int a1)] := hl
  have hx := hc.1
  have hb := hc.2.1
  unfold w_X5_tell at h
  have hf_o0 := h.1
  replace h := h.2
  generalize hHH : s.heap = H0 at hw ⊢
  refine lv_aload_n hx hb dX5_tell_0 rfl (lv_at hl 0 rfl) ?_
  refine lv_iload_n hx hb dX5_tell_1 rfl (lv_at hl 1 rfl) ?_
  refine lv_iconst (v := 1) hx hb dX5_tell_2 (by decide) ?_
  refine g_Vi (Y := YC) (ci := 5) (n := 2) (k := 0) (As := [.int a1, .int 1]) (rest := []) rfl (by decide) vw_X5_29 ⟨Nat.le_of_ble_eq_true rfl, Nat.le_of_ble_eq_true rfl, Nat.zero_le _, Nat.zero_le _⟩ hc hw hl.1 hf_o0.2 hf_o0.1 (m_X5_hasRow l hM o0 a1 1 σ h) rfl rfl (Nat.le_of_ble_eq_true rfl) dX5_tell_3 (fun r2 σ1 H locs h hw => ?_)
  refine lv_if_eq (tgt := 18) hx hb dX5_tell_6 (by decide) (fun c3 => ?_) (fun c3 => ?_)
  · replace h := h.1 c3
    refine lv_iconst (v := 0) hx hb dX5_tell_18 (by decide) ?_
    exact g_iret hc hr hw h dX5_tell_19
  · replace h := h.2 c3
    refine lv_aload_n hx hb dX5_tell_9 rfl (lv_at hl 0 rfl) ?_
    refine fg_X5_9 (o := o0) hc hw hf_o0.2 hf_o0.1 dX5_tell_10 ?_
    refine lv_iload_n hx hb dX5_tell_13 rfl (lv_at hl 1 rfl) ?_
    refine g_ialdK (Y := YC) (kd := 24) (n := 40) (k := a1.toNatClampNeg) (o := (o0 + 1)) (by decide) (by decide) rfl hc hw (Nat.lt_of_lt_of_le (kd5 hf_o0.1).2.1 hM) (kd5 hf_o0.1).1 rfl h.1 rfl dX5_tell_14 ?_
    replace h := h.2
    refine lv_topi (fun x4 ex4 => ?_)
    replace h := h x4 ex4
    refine lv_goto (tgt := 19) hx hb dX5_tell_15 (by decide) ?_
    exact g_iret hc hr hw h dX5_tell_19
def w_X5_put (M : Nat) (post : St → Prop) (o0 : Nat) (a1 : Int32) (a2 : Int32) (σ : St) : Prop :=
  (kdC o0 = 5 ∧ o0 < M) ∧ (w_X5_hasRow M (fun r2 σ1 => ((r2 = 0 → (post σ1)) ∧ (¬ (r2 = 0) → (((gi σ1 o0 1) = 0 → ((vp_in a1 40) ∧ (∀ σ8 : St, σ8 = si σ1 (o0 + 1) a1.toNatClampNeg a2.toInt8.toInt32 → (post σ8)))) ∧ (¬ ((gi σ1 o0 1) = 0) → (((gi σ1 o0 1) = 1 → ((vp_in a1 40) ∧ (∀ σ7 : St, σ7 = si σ1 (o0 + 1) a1.toNatClampNeg a2.toInt16.toInt32 → (post σ7)))) ∧ (¬ ((gi σ1 o0 1) = 1) → ((vp_in a1 40) ∧ (∀ σ6 : St, σ6 = si σ1 (o0 + 1) a1.toNatClampNeg a2 → (post σ6)))))))))) o0 a1 1 σ)
set_option maxHeartbeats 4000000 in
set_option maxRecDepth 20000 in
theorem m_X5_put {Γ : Gm} {ad : Nat → Nat} {M : Nat} (l : Launch) (hM : 53 ≤ M) {post : St → Prop} (o0 : Nat) (a1 : Int32) (a2 : Int32) (σ : St) (h : w_X5_put M post o0 a1 a2 σ) : Cv l Γ YC M ad σ yX5_put cX5_put 3 none 1 0 0 [.ref (ad o0), .int a1, .int a2] post := by
  refine g_start (by decide) (Nat.le_of_ble_eq_true rfl) ?_
  intro p e s m args below meth c ls hc hr hn hl hw
  have hc : CX Γ p s m args meth c cX5_put RX5 3 := hc
  have hl : lv_has ls 3 [(0, .ref (ad o0)), (1, .int a1), (2, .int a2)] := hl
  have hx := hc.1
  have hb := hc.2.1
  unfold w_X5_put at h
  have hf_o0 := h.1
  replace h := h.2
  generalize hHH : s.heap = H0 at hw ⊢
  refine lv_aload_n hx hb dX5_put_0 rfl (lv_at hl 0 rfl) ?_
  refine lv_iload_n hx hb dX5_put_1 rfl (lv_at hl 1 rfl) ?_
  refine lv_iconst (v := 1) hx hb dX5_put_2 (by decide) ?_
  refine g_Vi (Y := YC) (ci := 5) (n := 2) (k := 0) (As := [.int a1, .int 1]) (rest := []) rfl (by decide) vw_X5_29 ⟨Nat.le_of_ble_eq_true rfl, Nat.le_of_ble_eq_true rfl, Nat.zero_le _, Nat.zero_le _⟩ hc hw hl.1 hf_o0.2 hf_o0.1 (m_X5_hasRow l hM o0 a1 1 σ h) rfl rfl (Nat.le_of_ble_eq_true rfl) dX5_put_3 (fun r2 σ1 H locs h hw => ?_)
  refine lv_if_eq (tgt := 41) hx hb dX5_put_6 (by decide) (fun c3 => ?_) (fun c3 => ?_)
  · replace h := h.1 c3
    exact g_vret hc hr hw h dX5_put_41
  · replace h := h.2 c3
    refine lv_aload_n hx hb dX5_put_9 rfl (lv_at hl 0 rfl) ?_
    refine fg_X5_9 (o := o0) hc hw hf_o0.2 hf_o0.1 dX5_put_10 ?_
    refine lv_iload_n hx hb dX5_put_13 rfl (lv_at hl 1 rfl) ?_
    refine lv_aload_n hx hb dX5_put_14 rfl (lv_at hl 0 rfl) ?_
    refine fg_X5_13 (o := o0) hc hw hf_o0.2 hf_o0.1 dX5_put_15 ?_
    refine lv_if_ne (tgt := 26) hx hb dX5_put_18 (by decide) (fun c4 => ?_) (fun c4 => ?_)
    · replace h := h.2 c4
      refine lv_aload_n hx hb dX5_put_26 rfl (lv_at hl 0 rfl) ?_
      refine fg_X5_13 (o := o0) hc hw hf_o0.2 hf_o0.1 dX5_put_27 ?_
      refine lv_iconst (v := 1) hx hb dX5_put_30 (by decide) ?_
      refine lv_icmp_ne (tgt := 39) hx hb dX5_put_31 (by decide) (fun c5 => ?_) (fun c5 => ?_)
      · replace h := h.2 c5
        refine lv_iload_n hx hb dX5_put_39 rfl (lv_at hl 2 rfl) ?_
        have hin := h.1
        replace h := h.2
        refine g_iastK (Y := YC) (kd := 24) (n := 40) (k := a1.toNatClampNeg) (o := (o0 + 1)) YC_ok (by decide) (by decide) rfl hc hw (Nat.lt_of_lt_of_le (kd5 hf_o0.1).2.1 hM) (kd5 hf_o0.1).1 rfl hin rfl dX5_put_40 (fun σ6 H locs eσ6 hw => ?_)
        replace h := h σ6 eσ6
        exact g_vret hc hr hw h dX5_put_41
      · replace h := h.1 c5
        refine lv_iload_n hx hb dX5_put_34 rfl (lv_at hl 2 rfl) ?_
        refine lv_i2s (v := a2.toInt16.toInt32) hx hb dX5_put_35 rfl ?_
        refine lv_goto (tgt := 40) hx hb dX5_put_36 (by decide) ?_
        have hin := h.1
        replace h := h.2
        refine g_iastK (Y := YC) (kd := 24) (n := 40) (k := a1.toNatClampNeg) (o := (o0 + 1)) YC_ok (by decide) (by decide) rfl hc hw (Nat.lt_of_lt_of_le (kd5 hf_o0.1).2.1 hM) (kd5 hf_o0.1).1 rfl hin rfl dX5_put_40 (fun σ7 H locs eσ7 hw => ?_)
        replace h := h σ7 eσ7
        exact g_vret hc hr hw h dX5_put_41
    · replace h := h.1 c4
      refine lv_iload_n hx hb dX5_put_21 rfl (lv_at hl 2 rfl) ?_
      refine lv_i2b (v := a2.toInt8.toInt32) hx hb dX5_put_22 rfl ?_
      refine lv_goto (tgt := 40) hx hb dX5_put_23 (by decide) ?_
      have hin := h.1
      replace h := h.2
      refine g_iastK (Y := YC) (kd := 24) (n := 40) (k := a1.toNatClampNeg) (o := (o0 + 1)) YC_ok (by decide) (by decide) rfl hc hw (Nat.lt_of_lt_of_le (kd5 hf_o0.1).2.1 hM) (kd5 hf_o0.1).1 rfl hin rfl dX5_put_40 (fun σ8 H locs eσ8 hw => ?_)
      replace h := h σ8 eσ8
      exact g_vret hc hr hw h dX5_put_41
def w_X5_takeRow (M : Nat) (post : St → Prop) (o0 : Nat) (a1 : Int32) (a2 : Nat) (a3 : Int32) (a4 : Int32) (σ : St) : Prop :=
  (kdC o0 = 5 ∧ o0 < M) ∧ ((kdC a2 = 5 ∧ a2 < M) ∧ (w_X5_hasRow M (fun r2 σ1 => ((r2 = 0 → (post σ1)) ∧ (¬ (r2 = 0) → (w_X5_hasRow M (fun r5 σ4 => ((r5 = 0 → (post σ4)) ∧ (¬ (r5 = 0) → (((¬ (a3 : Int32) < 0) ∧ (¬ (a1 : Int32) < 0) ∧ (¬ (a4 : Int32) < 0) ∧ (a3 : Int32).toNatClampNeg + (a4 : Int32).toNatClampNeg ≤ 40 ∧ (a1 : Int32).toNatClampNeg + (a4 : Int32).toNatClampNeg ≤ 40) ∧ (∀ σ7 : St, σ7 = so σ4 (o0 + 1) (va_cpy (fun j => gi σ4 (a2 + 1) j) (fun j => gi σ4 (o0 + 1) j) (a3 : Int32).toNatClampNeg (a1 : Int32).toNatClampNeg (a4 : Int32).toNatClampNeg) → (post σ7)))))) a2 a3 a4 σ1)))) o0 a1 a4 σ))
set_option maxHeartbeats 4000000 in
set_option maxRecDepth 20000 in
theorem m_X5_takeRow {Γ : Gm} {ad : Nat → Nat} {M : Nat} (l : Launch) (hM : 53 ≤ M) {post : St → Prop} (o0 : Nat) (a1 : Int32) (a2 : Nat) (a3 : Int32) (a4 : Int32) (σ : St) (h : w_X5_takeRow M post o0 a1 a2 a3 a4 σ) : Cv l Γ YC M ad σ yX5_takeRow cX5_takeRow 5 none 1 0 0 [.ref (ad o0), .int a1, .ref (ad a2), .int a3, .int a4] post := by
  refine g_start (by decide) (Nat.le_of_ble_eq_true rfl) ?_
  intro p e s m args below meth c ls hc hr hn hl hw
  have hc : CX Γ p s m args meth c cX5_takeRow RX5 5 := hc
  have hl : lv_has ls 5 [(0, .ref (ad o0)), (1, .int a1), (2, .ref (ad a2)), (3, .int a3), (4, .int a4)] := hl
  have hx := hc.1
  have hb := hc.2.1
  unfold w_X5_takeRow at h
  have hf_o0 := h.1
  replace h := h.2
  have hf_a2 := h.1
  replace h := h.2
  generalize hHH : s.heap = H0 at hw ⊢
  refine lv_aload_n hx hb dX5_takeRow_0 rfl (lv_at hl 0 rfl) ?_
  refine lv_iload_n hx hb dX5_takeRow_1 rfl (lv_at hl 1 rfl) ?_
  refine lv_iload hx hb dX5_takeRow_2 (lv_at hl 4 rfl) ?_
  refine g_Vi (Y := YC) (ci := 5) (n := 2) (k := 0) (As := [.int a1, .int a4]) (rest := []) rfl (by decide) vw_X5_29 ⟨Nat.le_of_ble_eq_true rfl, Nat.le_of_ble_eq_true rfl, Nat.zero_le _, Nat.zero_le _⟩ hc hw hl.1 hf_o0.2 hf_o0.1 (m_X5_hasRow l hM o0 a1 a4 σ h) rfl rfl (Nat.le_of_ble_eq_true rfl) dX5_takeRow_4 (fun r2 σ1 H locs h hw => ?_)
  refine lv_if_eq (tgt := 35) hx hb dX5_takeRow_7 (by decide) (fun c3 => ?_) (fun c3 => ?_)
  · replace h := h.1 c3
    exact g_vret hc hr hw h dX5_takeRow_35
  · replace h := h.2 c3
    refine lv_aload_n hx hb dX5_takeRow_10 rfl (lv_at hl 2 rfl) ?_
    refine lv_iload_n hx hb dX5_takeRow_11 rfl (lv_at hl 3 rfl) ?_
    refine lv_iload hx hb dX5_takeRow_12 (lv_at hl 4 rfl) ?_
    refine g_Vi (Y := YC) (ci := 5) (n := 2) (k := 0) (As := [.int a3, .int a4]) (rest := []) rfl (by decide) vw_X5_29 ⟨Nat.le_of_ble_eq_true rfl, Nat.le_of_ble_eq_true rfl, Nat.zero_le _, Nat.zero_le _⟩ hc hw hl.1 hf_a2.2 hf_a2.1 (m_X5_hasRow l hM a2 a3 a4 σ1 h) rfl rfl (Nat.le_of_ble_eq_true rfl) dX5_takeRow_14 (fun r5 σ4 H locs h hw => ?_)
    refine lv_if_eq (tgt := 35) hx hb dX5_takeRow_17 (by decide) (fun c6 => ?_) (fun c6 => ?_)
    · replace h := h.1 c6
      exact g_vret hc hr hw h dX5_takeRow_35
    · replace h := h.2 c6
      refine lv_aload_n hx hb dX5_takeRow_20 rfl (lv_at hl 2 rfl) ?_
      refine fg_X5_9 (o := a2) hc hw hf_a2.2 hf_a2.1 dX5_takeRow_21 ?_
      refine lv_iload_n hx hb dX5_takeRow_24 rfl (lv_at hl 3 rfl) ?_
      refine lv_aload_n hx hb dX5_takeRow_25 rfl (lv_at hl 0 rfl) ?_
      refine fg_X5_9 (o := o0) hc hw hf_o0.2 hf_o0.1 dX5_takeRow_26 ?_
      refine lv_iload_n hx hb dX5_takeRow_29 rfl (lv_at hl 1 rfl) ?_
      refine lv_iload hx hb dX5_takeRow_30 (lv_at hl 4 rfl) ?_
      refine g_copyK (Y := YC) (kd0 := 24) (kd1 := 24) (n0 := 40) (n1 := 40) (o0 := (a2 + 1)) (o1 := (o0 + 1)) YC_ok q_936 q_446 q_445 q_87 ⟨by decide, by decide, rfl⟩ ⟨by decide, by decide, rfl⟩ hc hw hl.1 (Nat.lt_of_lt_of_le (kd5 hf_a2.1).2.1 hM) (Nat.lt_of_lt_of_le (kd5 hf_o0.1).2.1 hM) (kd5 hf_a2.1).1 (kd5 hf_o0.1).1 rfl rfl h.1 ⟨Nat.le_of_ble_eq_true rfl, Nat.le_of_ble_eq_true rfl⟩ (Nat.le_of_ble_eq_true rfl) dX5_takeRow_32 (fun σ7 H locs eσ7 hw => ?_)
      replace h := h.2 σ7 eσ7
      exact g_vret hc hr hw h dX5_takeRow_35
