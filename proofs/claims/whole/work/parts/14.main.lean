def w_X6_set (M : Nat) (post : Int32 → St → Prop) (a1 : Int32) (a2 : Int32) (σ : St) : Prop :=
  (a1 < 0 → (post (-1) σ)) ∧ (¬ (a1 < 0) → ((a1 ≤ 2 → ((a2 < 0 → (post (-2) σ)) ∧ (¬ (a2 < 0) → ((vp_in a1 3) ∧ ((a2 ≤ (mtv a1.toNatClampNeg) → ((vp_in a1 3) ∧ ((vp_in a1 3) ∧ (∀ σ5 : St, σ5 = si σ 4 a1.toNatClampNeg a2 → (post (gi σ 4 a1.toNatClampNeg) σ5))))) ∧ (¬ (a2 ≤ (mtv a1.toNatClampNeg)) → (post (-2) σ))))))) ∧ (¬ (a1 ≤ 2) → (post (-1) σ))))
set_option maxHeartbeats 4000000 in
set_option maxRecDepth 20000 in
theorem m_X6_set {Γ : Gm} {ad : Nat → Nat} {M : Nat} (l : Launch) (hM : 53 ≤ M) {post : Int32 → St → Prop} (a1 : Int32) (a2 : Int32) (σ : St) (h : w_X6_set M post a1 a2 σ) : Ci l Γ YC M ad σ yX6_set cX6_set 4 (Option.some Jvm.ClassFile.FieldType.int) 0 0 0 [.ref (ad 0), .int a1, .int a2] post := by
  refine g_start (by decide) (Nat.le_of_ble_eq_true rfl) ?_
  intro p e s m args below meth c ls hc hr hn hl hw
  have hc : CX Γ p s m args meth c cX6_set RX6 4 := hc
  have hl : lv_has ls 4 [(0, .ref (ad 0)), (1, .int a1), (2, .int a2)] := hl
  have hx := hc.1
  have hb := hc.2.1
  unfold w_X6_set at h
  generalize hHH : s.heap = H0 at hw ⊢
  refine lv_iload_n hx hb dX6_set_0 rfl (lv_at hl 1 rfl) ?_
  refine lv_if_lt (tgt := 9) hx hb dX6_set_1 (by decide) (fun c1 => ?_) (fun c1 => ?_)
  · replace h := h.1 c1
    refine lv_iconst (v := (-1)) hx hb dX6_set_9 (by decide) ?_
    exact g_iret hc hr hw h dX6_set_10
  · replace h := h.2 c1
    refine lv_iload_n hx hb dX6_set_4 rfl (lv_at hl 1 rfl) ?_
    refine lv_iconst (v := 2) hx hb dX6_set_5 (by decide) ?_
    refine lv_icmp_le (tgt := 11) hx hb dX6_set_6 (by decide) (fun c2 => ?_) (fun c2 => ?_)
    · replace h := h.1 c2
      refine lv_iload_n hx hb dX6_set_11 rfl (lv_at hl 2 rfl) ?_
      refine lv_if_lt (tgt := 24) hx hb dX6_set_12 (by decide) (fun c3 => ?_) (fun c3 => ?_)
      · replace h := h.1 c3
        refine lv_bipush (v := (-2)) hx hb dX6_set_24 (by decide) ?_
        exact g_iret hc hr hw h dX6_set_26
      · replace h := h.2 c3
        refine lv_iload_n hx hb dX6_set_15 rfl (lv_at hl 2 rfl) ?_
        refine g_gets hc hw q_551 dX6_set_16 ?_
        refine lv_iload_n hx hb dX6_set_19 rfl (lv_at hl 1 rfl) ?_
        refine g_tald hc hw h.1 dX6_set_20 ?_
        replace h := h.2
        refine lv_icmp_le (tgt := 27) hx hb dX6_set_21 (by decide) (fun c4 => ?_) (fun c4 => ?_)
        · replace h := h.1 c4
          refine lv_aload_n hx hb dX6_set_27 rfl (lv_at hl 0 rfl) ?_
          refine fg_X6_27 hc hw (Nat.lt_of_lt_of_le (by decide) hM) rfl dX6_set_28 ?_
          refine lv_iload_n hx hb dX6_set_31 rfl (lv_at hl 1 rfl) ?_
          refine g_ialdK (Y := YC) (kd := 21) (n := 3) (k := a1.toNatClampNeg) (o := 4) (by decide) (by decide) rfl hc hw (Nat.lt_of_lt_of_le (by decide) hM) rfl rfl h.1 rfl dX6_set_32 ?_
          replace h := h.2
          refine lv_istore_n (lv' := [(3, .int (gi σ 4 a1.toNatClampNeg)), (0, .ref (ad 0)), (1, .int a1), (2, .int a2)]) hx hb dX6_set_33 rfl hl (by decide) rfl (fun ls hl => ?_)
          refine lv_aload_n hx hb dX6_set_34 rfl (lv_at hl 1 rfl) ?_
          refine fg_X6_27 hc hw (Nat.lt_of_lt_of_le (by decide) hM) rfl dX6_set_35 ?_
          refine lv_iload_n hx hb dX6_set_38 rfl (lv_at hl 2 rfl) ?_
          refine lv_iload_n hx hb dX6_set_39 rfl (lv_at hl 3 rfl) ?_
          have hin := h.1
          replace h := h.2
          refine g_iastK (Y := YC) (kd := 21) (n := 3) (k := a1.toNatClampNeg) (o := 4) YC_ok (by decide) (by decide) rfl hc hw (Nat.lt_of_lt_of_le (by decide) hM) rfl rfl hin rfl dX6_set_40 (fun σ5 H locs eσ5 hw => ?_)
          replace h := h σ5 eσ5
          refine lv_iload_n hx hb dX6_set_41 rfl (lv_at hl 0 rfl) ?_
          exact g_iret hc hr hw h dX6_set_42
        · replace h := h.2 c4
          refine lv_bipush (v := (-2)) hx hb dX6_set_24 (by decide) ?_
          exact g_iret hc hr hw h dX6_set_26
    · replace h := h.2 c2
      refine lv_iconst (v := (-1)) hx hb dX6_set_9 (by decide) ?_
      exact g_iret hc hr hw h dX6_set_10
def w_X6_force (M : Nat) (post : Int32 → St → Prop) (a1 : Int32) (σ : St) : Prop :=
  (a1 < 0 → (post (-2) σ)) ∧ (¬ (a1 < 0) → ((a1 < (gi σ 0 5) → (∀ σ3 : St, σ3 = si σ 0 6 a1 → (post (gi σ 0 6) σ3))) ∧ (¬ (a1 < (gi σ 0 5)) → (post (-2) σ))))
set_option maxHeartbeats 4000000 in
set_option maxRecDepth 20000 in
theorem m_X6_force {Γ : Gm} {ad : Nat → Nat} {M : Nat} (l : Launch) (hM : 53 ≤ M) {post : Int32 → St → Prop} (a1 : Int32) (σ : St) (h : w_X6_force M post a1 σ) : Ci l Γ YC M ad σ yX6_force cX6_force 3 (Option.some Jvm.ClassFile.FieldType.int) 0 0 0 [.ref (ad 0), .int a1] post := by
  refine g_start (by decide) (Nat.le_of_ble_eq_true rfl) ?_
  intro p e s m args below meth c ls hc hr hn hl hw
  have hc : CX Γ p s m args meth c cX6_force RX6 3 := hc
  have hl : lv_has ls 3 [(0, .ref (ad 0)), (1, .int a1)] := hl
  have hx := hc.1
  have hb := hc.2.1
  unfold w_X6_force at h
  generalize hHH : s.heap = H0 at hw ⊢
  refine lv_iload_n hx hb dX6_force_0 rfl (lv_at hl 1 rfl) ?_
  refine lv_if_lt (tgt := 12) hx hb dX6_force_1 (by decide) (fun c1 => ?_) (fun c1 => ?_)
  · replace h := h.1 c1
    refine lv_bipush (v := (-2)) hx hb dX6_force_12 (by decide) ?_
    exact g_iret hc hr hw h dX6_force_14
  · replace h := h.2 c1
    refine lv_iload_n hx hb dX6_force_4 rfl (lv_at hl 1 rfl) ?_
    refine lv_aload_n hx hb dX6_force_5 rfl (lv_at hl 0 rfl) ?_
    refine fg_X6_91 hc hw (Nat.lt_of_lt_of_le (by decide) hM) rfl dX6_force_6 ?_
    refine lv_icmp_lt (tgt := 15) hx hb dX6_force_9 (by decide) (fun c2 => ?_) (fun c2 => ?_)
    · replace h := h.1 c2
      refine lv_aload_n hx hb dX6_force_15 rfl (lv_at hl 0 rfl) ?_
      refine fg_X6_123 hc hw (Nat.lt_of_lt_of_le (by decide) hM) rfl dX6_force_16 ?_
      refine lv_istore_n (lv' := [(2, .int (gi σ 0 6)), (0, .ref (ad 0)), (1, .int a1)]) hx hb dX6_force_19 rfl hl (by decide) rfl (fun ls hl => ?_)
      refine lv_aload_n hx hb dX6_force_20 rfl (lv_at hl 1 rfl) ?_
      refine lv_iload_n hx hb dX6_force_21 rfl (lv_at hl 2 rfl) ?_
      refine fp_X6_123 (o := 0) hc hw (Nat.lt_of_lt_of_le (by decide) hM) rfl dX6_force_22 (fun σ3 H locs eσ3 hw => ?_)
      replace h := h σ3 eσ3
      refine lv_iload_n hx hb dX6_force_25 rfl (lv_at hl 0 rfl) ?_
      exact g_iret hc hr hw h dX6_force_26
    · replace h := h.2 c2
      refine lv_bipush (v := (-2)) hx hb dX6_force_12 (by decide) ?_
      exact g_iret hc hr hw h dX6_force_14
def w_X6_forget (M : Nat) (post : Int32 → St → Prop)  (σ : St) : Prop :=
  (0 < (gi σ 0 3) → (∀ σ2 : St, σ2 = si σ 0 3 ((gi σ 0 3) - 1) → (post (gi σ2 0 3) σ2))) ∧ (¬ (0 < (gi σ 0 3)) → (post (-3) σ))
set_option maxHeartbeats 4000000 in
set_option maxRecDepth 20000 in
theorem m_X6_forget {Γ : Gm} {ad : Nat → Nat} {M : Nat} (l : Launch) (hM : 53 ≤ M) {post : Int32 → St → Prop}  (σ : St) (h : w_X6_forget M post  σ) : Ci l Γ YC M ad σ yX6_forget cX6_forget 1 (Option.some Jvm.ClassFile.FieldType.int) 0 0 0 [.ref (ad 0)] post := by
  refine g_start (by decide) (Nat.le_of_ble_eq_true rfl) ?_
  intro p e s m args below meth c ls hc hr hn hl hw
  have hc : CX Γ p s m args meth c cX6_forget RX6 1 := hc
  have hl : lv_has ls 1 [(0, .ref (ad 0))] := hl
  have hx := hc.1
  have hb := hc.2.1
  unfold w_X6_forget at h
  generalize hHH : s.heap = H0 at hw ⊢
  refine lv_aload_n hx hb dX6_forget_0 rfl (lv_at hl 0 rfl) ?_
  refine fg_X6_120 hc hw (Nat.lt_of_lt_of_le (by decide) hM) rfl dX6_forget_1 ?_
  refine lv_if_gt (tgt := 10) hx hb dX6_forget_4 (by decide) (fun c1 => ?_) (fun c1 => ?_)
  · replace h := h.1 c1
    refine lv_aload_n hx hb dX6_forget_10 rfl (lv_at hl 0 rfl) ?_
    refine lv_dup hx hb dX6_forget_11 rfl ?_
    refine fg_X6_120 hc hw (Nat.lt_of_lt_of_le (by decide) hM) rfl dX6_forget_12 ?_
    refine lv_iconst (v := 1) hx hb dX6_forget_15 (by decide) ?_
    refine lv_isub hx hb dX6_forget_16 ?_
    refine fp_X6_120 (o := 0) hc hw (Nat.lt_of_lt_of_le (by decide) hM) rfl dX6_forget_17 (fun σ2 H locs eσ2 hw => ?_)
    replace h := h σ2 eσ2
    refine lv_aload_n hx hb dX6_forget_20 rfl (lv_at hl 0 rfl) ?_
    refine fg_X6_120 hc hw (Nat.lt_of_lt_of_le (by decide) hM) rfl dX6_forget_21 ?_
    exact g_iret hc hr hw h dX6_forget_24
  · replace h := h.2 c1
    refine lv_bipush (v := (-3)) hx hb dX6_forget_7 (by decide) ?_
    exact g_iret hc hr hw h dX6_forget_9
def w_X6_cheeseAt (M : Nat) (post : Option Nat → St → Prop) (a1 : Int32) (σ : St) : Prop :=
  (a1 < 0 → (post none σ)) ∧ (¬ (a1 < 0) → (((gi σ 0 1) ≤ a1 → (post none σ)) ∧ (¬ ((gi σ 0 1) ≤ a1) → ((4 ≤ a1 → (post none σ)) ∧ (¬ (4 ≤ a1) → ((vp_in a1 4) ∧ (∀ o4 : Nat, o4 = 17 + 4 * a1.toNatClampNeg → ((kdC o4 = 1 ∧ o4 < M) ∧ (post (some o4) σ)))))))))
set_option maxHeartbeats 4000000 in
set_option maxRecDepth 20000 in
theorem m_X6_cheeseAt {Γ : Gm} {ad : Nat → Nat} {M : Nat} (l : Launch) (hM : 53 ≤ M) {post : Option Nat → St → Prop} (a1 : Int32) (σ : St) (h : w_X6_cheeseAt M post a1 σ) : Ce l Γ YC M ad σ yX6_cheeseAt cX6_cheeseAt 2 (Option.some (Jvm.ClassFile.FieldType.object "ThreadsAndSplits$Cheese")) 0 0 0 [.ref (ad 0), .int a1] post := by
  refine g_start (by decide) (Nat.le_of_ble_eq_true rfl) ?_
  intro p e s m args below meth c ls hc hr hn hl hw
  have hc : CX Γ p s m args meth c cX6_cheeseAt RX6 2 := hc
  have hl : lv_has ls 2 [(0, .ref (ad 0)), (1, .int a1)] := hl
  have hx := hc.1
  have hb := hc.2.1
  unfold w_X6_cheeseAt at h
  generalize hHH : s.heap = H0 at hw ⊢
  refine lv_iload_n hx hb dX6_cheeseAt_0 rfl (lv_at hl 1 rfl) ?_
  refine lv_if_lt (tgt := 30) hx hb dX6_cheeseAt_1 (by decide) (fun c1 => ?_) (fun c1 => ?_)
  · replace h := h.1 c1
    refine lv_null hx hb dX6_cheeseAt_30 ?_
    exact g_eret (r := none) hc hr hw rfl h dX6_cheeseAt_31
  · replace h := h.2 c1
    refine lv_iload_n hx hb dX6_cheeseAt_4 rfl (lv_at hl 1 rfl) ?_
    refine lv_aload_n hx hb dX6_cheeseAt_5 rfl (lv_at hl 0 rfl) ?_
    refine fg_X6_98 hc hw (Nat.lt_of_lt_of_le (by decide) hM) rfl dX6_cheeseAt_6 ?_
    refine lv_icmp_ge (tgt := 30) hx hb dX6_cheeseAt_9 (by decide) (fun c2 => ?_) (fun c2 => ?_)
    · replace h := h.1 c2
      refine lv_null hx hb dX6_cheeseAt_30 ?_
      exact g_eret (r := none) hc hr hw rfl h dX6_cheeseAt_31
    · replace h := h.2 c2
      refine lv_iload_n hx hb dX6_cheeseAt_12 rfl (lv_at hl 1 rfl) ?_
      refine lv_aload_n hx hb dX6_cheeseAt_13 rfl (lv_at hl 0 rfl) ?_
      refine fg_X6_11 hc hw (Nat.lt_of_lt_of_le (by decide) hM) rfl dX6_cheeseAt_14 ?_
      refine g_alenq (Y := YC) (kd := 60) (v := 4) (o := 1) (by decide) rfl hc hw (Nat.lt_of_lt_of_le (by decide) hM) rfl rfl dX6_cheeseAt_17 ?_
      refine lv_icmp_ge (tgt := 30) hx hb dX6_cheeseAt_18 (by decide) (fun c3 => ?_) (fun c3 => ?_)
      · replace h := h.1 c3
        refine lv_null hx hb dX6_cheeseAt_30 ?_
        exact g_eret (r := none) hc hr hw rfl h dX6_cheeseAt_31
      · replace h := h.2 c3
        refine lv_aload_n hx hb dX6_cheeseAt_21 rfl (lv_at hl 0 rfl) ?_
        refine fg_X6_11 hc hw (Nat.lt_of_lt_of_le (by decide) hM) rfl dX6_cheeseAt_22 ?_
        refine lv_iload_n hx hb dX6_cheeseAt_25 rfl (lv_at hl 1 rfl) ?_
        refine g_aaldK (Y := YC) (kd := 60) (n := 4) (k := a1.toNatClampNeg) (o := 1) (r := some (17 + 4 * a1.toNatClampNeg)) (by decide) rfl hc hw (Nat.lt_of_lt_of_le (by decide) hM) rfl rfl h.1 rfl rfl dX6_cheeseAt_26 ?_
        replace h := h.2
        obtain ⟨o4, eo4⟩ : ∃ z, z = 17 + 4 * a1.toNatClampNeg := ⟨_, rfl⟩
        rw [← eo4]
        replace h := h o4 eo4
        have hf_o4 := h.1
        replace h := h.2
        refine lv_goto (tgt := 31) hx hb dX6_cheeseAt_27 (by decide) ?_
        exact g_eret (r := (some o4)) hc hr hw rfl h dX6_cheeseAt_31
def w_X6_actAt (M : Nat) (post : Option Nat → St → Prop) (a1 : Int32) (σ : St) : Prop :=
  (a1 < 0 → (post none σ)) ∧ (¬ (a1 < 0) → (((gi σ 0 3) ≤ a1 → (post none σ)) ∧ (¬ ((gi σ 0 3) ≤ a1) → ((12 ≤ a1 → (post none σ)) ∧ (¬ (12 ≤ a1) → ((vp_in a1 12) ∧ (∀ o4 : Nat, o4 = 33 + a1.toNatClampNeg → ((kdC o4 = 0 ∧ o4 < M) ∧ (post (some o4) σ)))))))))
set_option maxHeartbeats 4000000 in
set_option maxRecDepth 20000 in
theorem m_X6_actAt {Γ : Gm} {ad : Nat → Nat} {M : Nat} (l : Launch) (hM : 53 ≤ M) {post : Option Nat → St → Prop} (a1 : Int32) (σ : St) (h : w_X6_actAt M post a1 σ) : Ce l Γ YC M ad σ yX6_actAt cX6_actAt 2 (Option.some (Jvm.ClassFile.FieldType.object "ThreadsAndSplits$Act")) 0 0 0 [.ref (ad 0), .int a1] post := by
  refine g_start (by decide) (Nat.le_of_ble_eq_true rfl) ?_
  intro p e s m args below meth c ls hc hr hn hl hw
  have hc : CX Γ p s m args meth c cX6_actAt RX6 2 := hc
  have hl : lv_has ls 2 [(0, .ref (ad 0)), (1, .int a1)] := hl
  have hx := hc.1
  have hb := hc.2.1
  unfold w_X6_actAt at h
  generalize hHH : s.heap = H0 at hw ⊢
  refine lv_iload_n hx hb dX6_actAt_0 rfl (lv_at hl 1 rfl) ?_
  refine lv_if_lt (tgt := 30) hx hb dX6_actAt_1 (by decide) (fun c1 => ?_) (fun c1 => ?_)
  · replace h := h.1 c1
    refine lv_null hx hb dX6_actAt_30 ?_
    exact g_eret (r := none) hc hr hw rfl h dX6_actAt_31
  · replace h := h.2 c1
    refine lv_iload_n hx hb dX6_actAt_4 rfl (lv_at hl 1 rfl) ?_
    refine lv_aload_n hx hb dX6_actAt_5 rfl (lv_at hl 0 rfl) ?_
    refine fg_X6_120 hc hw (Nat.lt_of_lt_of_le (by decide) hM) rfl dX6_actAt_6 ?_
    refine lv_icmp_ge (tgt := 30) hx hb dX6_actAt_9 (by decide) (fun c2 => ?_) (fun c2 => ?_)
    · replace h := h.1 c2
      refine lv_null hx hb dX6_actAt_30 ?_
      exact g_eret (r := none) hc hr hw rfl h dX6_actAt_31
    · replace h := h.2 c2
      refine lv_iload_n hx hb dX6_actAt_12 rfl (lv_at hl 1 rfl) ?_
      refine lv_aload_n hx hb dX6_actAt_13 rfl (lv_at hl 0 rfl) ?_
      refine fg_X6_17 hc hw (Nat.lt_of_lt_of_le (by decide) hM) rfl dX6_actAt_14 ?_
      refine g_alenq (Y := YC) (kd := 61) (v := 12) (o := 2) (by decide) rfl hc hw (Nat.lt_of_lt_of_le (by decide) hM) rfl rfl dX6_actAt_17 ?_
      refine lv_icmp_ge (tgt := 30) hx hb dX6_actAt_18 (by decide) (fun c3 => ?_) (fun c3 => ?_)
      · replace h := h.1 c3
        refine lv_null hx hb dX6_actAt_30 ?_
        exact g_eret (r := none) hc hr hw rfl h dX6_actAt_31
      · replace h := h.2 c3
        refine lv_aload_n hx hb dX6_actAt_21 rfl (lv_at hl 0 rfl) ?_
        refine fg_X6_17 hc hw (Nat.lt_of_lt_of_le (by decide) hM) rfl dX6_actAt_22 ?_
        refine lv_iload_n hx hb dX6_actAt_25 rfl (lv_at hl 1 rfl) ?_
        refine g_aaldK (Y := YC) (kd := 61) (n := 12) (k := a1.toNatClampNeg) (o := 2) (r := some (33 + a1.toNatClampNeg)) (by decide) rfl hc hw (Nat.lt_of_lt_of_le (by decide) hM) rfl rfl h.1 rfl rfl dX6_actAt_26 ?_
        replace h := h.2
        obtain ⟨o4, eo4⟩ : ∃ z, z = 33 + a1.toNatClampNeg := ⟨_, rfl⟩
        rw [← eo4]
        replace h := h o4 eo4
        have hf_o4 := h.1
        replace h := h.2
        refine lv_goto (tgt := 31) hx hb dX6_actAt_27 (by decide) ?_
        exact g_eret (r := (some o4)) hc hr hw rfl h dX6_actAt_31
def w_X6_lawAt (M : Nat) (post : Option Nat → St → Prop) (a1 : Int32) (σ : St) : Prop :=
  (a1 < 0 → (post none σ)) ∧ (¬ (a1 < 0) → (((gi σ 0 5) ≤ a1 → (post none σ)) ∧ (¬ ((gi σ 0 5) ≤ a1) → ((6 ≤ a1 → (post none σ)) ∧ (¬ (6 ≤ a1) → ((vp_in a1 6) ∧ (∀ q4 : Option Nat, q4 = gr σ 3 a1.toNatClampNeg → (post q4 σ))))))))
set_option maxHeartbeats 4000000 in
set_option maxRecDepth 20000 in
theorem m_X6_lawAt {Γ : Gm} {ad : Nat → Nat} {M : Nat} (l : Launch) (hM : 53 ≤ M) {post : Option Nat → St → Prop} (a1 : Int32) (σ : St) (h : w_X6_lawAt M post a1 σ) : Ce l Γ YC M ad σ yX6_lawAt cX6_lawAt 2 (Option.some (Jvm.ClassFile.FieldType.object "ThreadsAndSplits$Law")) 0 0 0 [.ref (ad 0), .int a1] post := by
  refine g_start (by decide) (Nat.le_of_ble_eq_true rfl) ?_
  intro p e s m args below meth c ls hc hr hn hl hw
  have hc : CX Γ p s m args meth c cX6_lawAt RX6 2 := hc
  have hl : lv_has ls 2 [(0, .ref (ad 0)), (1, .int a1)] := hl
  have hx := hc.1
  have hb := hc.2.1
  unfold w_X6_lawAt at h
  generalize hHH : s.heap = H0 at hw ⊢
  refine lv_iload_n hx hb dX6_lawAt_0 rfl (lv_at hl 1 rfl) ?_
  refine lv_if_lt (tgt := 30) hx hb dX6_lawAt_1 (by decide) (fun c1 => ?_) (fun c1 => ?_)
  · replace h := h.1 c1
    refine lv_null hx hb dX6_lawAt_30 ?_
    exact g_eret (r := none) hc hr hw rfl h dX6_lawAt_31
  · replace h := h.2 c1
    refine lv_iload_n hx hb dX6_lawAt_4 rfl (lv_at hl 1 rfl) ?_
    refine lv_aload_n hx hb dX6_lawAt_5 rfl (lv_at hl 0 rfl) ?_
    refine fg_X6_91 hc hw (Nat.lt_of_lt_of_le (by decide) hM) rfl dX6_lawAt_6 ?_
    refine lv_icmp_ge (tgt := 30) hx hb dX6_lawAt_9 (by decide) (fun c2 => ?_) (fun c2 => ?_)
    · replace h := h.1 c2
      refine lv_null hx hb dX6_lawAt_30 ?_
      exact g_eret (r := none) hc hr hw rfl h dX6_lawAt_31
    · replace h := h.2 c2
      refine lv_iload_n hx hb dX6_lawAt_12 rfl (lv_at hl 1 rfl) ?_
      refine lv_aload_n hx hb dX6_lawAt_13 rfl (lv_at hl 0 rfl) ?_
      refine fg_X6_23 hc hw (Nat.lt_of_lt_of_le (by decide) hM) rfl dX6_lawAt_14 ?_
      refine g_alenq (Y := YC) (kd := 62) (v := 6) (o := 3) (by decide) rfl hc hw (Nat.lt_of_lt_of_le (by decide) hM) rfl rfl dX6_lawAt_17 ?_
      refine lv_icmp_ge (tgt := 30) hx hb dX6_lawAt_18 (by decide) (fun c3 => ?_) (fun c3 => ?_)
      · replace h := h.1 c3
        refine lv_null hx hb dX6_lawAt_30 ?_
        exact g_eret (r := none) hc hr hw rfl h dX6_lawAt_31
      · replace h := h.2 c3
        refine lv_aload_n hx hb dX6_lawAt_21 rfl (lv_at hl 0 rfl) ?_
        refine fg_X6_23 hc hw (Nat.lt_of_lt_of_le (by decide) hM) rfl dX6_lawAt_22 ?_
        refine lv_iload_n hx hb dX6_lawAt_25 rfl (lv_at hl 1 rfl) ?_
        refine g_aaldK (Y := YC) (kd := 62) (n := 6) (k := a1.toNatClampNeg) (o := 3) (r := gr σ 3 a1.toNatClampNeg) (by decide) rfl hc hw (Nat.lt_of_lt_of_le (by decide) hM) rfl rfl h.1 rfl rfl dX6_lawAt_26 ?_
        replace h := h.2
        obtain ⟨q4, eq4⟩ : ∃ z, z = gr σ 3 a1.toNatClampNeg := ⟨_, rfl⟩
        rw [← eq4]
        replace h := h q4 eq4
        refine lv_goto (tgt := 31) hx hb dX6_lawAt_27 (by decide) ?_
        exact g_eret (r := q4) hc hr hw rfl h dX6_lawAt_31
def w_X6_sheetAt (M : Nat) (post : Option Nat → St → Prop) (a1 : Int32) (σ : St) : Prop :=
  (a1 < 0 → (post none σ)) ∧ (¬ (a1 < 0) → ((4 ≤ a1 → (post none σ)) ∧ (¬ (4 ≤ a1) → ((vp_in a1 4) ∧ (∀ o3 : Nat, o3 = 45 + 2 * a1.toNatClampNeg → ((kdC o3 = 5 ∧ o3 < M) ∧ (post (some o3) σ)))))))
set_option maxHeartbeats 4000000 in
set_option maxRecDepth 20000 in
theorem m_X6_sheetAt {Γ : Gm} {ad : Nat → Nat} {M : Nat} (l : Launch) (hM : 53 ≤ M) {post : Option Nat → St → Prop} (a1 : Int32) (σ : St) (h : w_X6_sheetAt M post a1 σ) : Ce l Γ YC M ad σ yX6_sheetAt cX6_sheetAt 2 (Option.some (Jvm.ClassFile.FieldType.object "ThreadsAndSplits$Sheet")) 0 0 0 [.ref (ad 0), .int a1] post := by
  refine g_start (by decide) (Nat.le_of_ble_eq_true rfl) ?_
  intro p e s m args below meth c ls hc hr hn hl hw
  have hc : CX Γ p s m args meth c cX6_sheetAt RX6 2 := hc
  have hl : lv_has ls 2 [(0, .ref (ad 0)), (1, .int a1)] := hl
  have hx := hc.1
  have hb := hc.2.1
  unfold w_X6_sheetAt at h
  generalize hHH : s.heap = H0 at hw ⊢
  refine lv_iload_n hx hb dX6_sheetAt_0 rfl (lv_at hl 1 rfl) ?_
  refine lv_if_lt (tgt := 22) hx hb dX6_sheetAt_1 (by decide) (fun c1 => ?_) (fun c1 => ?_)
  · replace h := h.1 c1
    refine lv_null hx hb dX6_sheetAt_22 ?_
    exact g_eret (r := none) hc hr hw rfl h dX6_sheetAt_23
  · replace h := h.2 c1
    refine lv_iload_n hx hb dX6_sheetAt_4 rfl (lv_at hl 1 rfl) ?_
    refine lv_aload_n hx hb dX6_sheetAt_5 rfl (lv_at hl 0 rfl) ?_
    refine fg_X6_40 hc hw (Nat.lt_of_lt_of_le (by decide) hM) rfl dX6_sheetAt_6 ?_
    refine g_alenq (Y := YC) (kd := 63) (v := 4) (o := 9) (by decide) rfl hc hw (Nat.lt_of_lt_of_le (by decide) hM) rfl rfl dX6_sheetAt_9 ?_
    refine lv_icmp_ge (tgt := 22) hx hb dX6_sheetAt_10 (by decide) (fun c2 => ?_) (fun c2 => ?_)
    · replace h := h.1 c2
      refine lv_null hx hb dX6_sheetAt_22 ?_
      exact g_eret (r := none) hc hr hw rfl h dX6_sheetAt_23
    · replace h := h.2 c2
      refine lv_aload_n hx hb dX6_sheetAt_13 rfl (lv_at hl 0 rfl) ?_
      refine fg_X6_40 hc hw (Nat.lt_of_lt_of_le (by decide) hM) rfl dX6_sheetAt_14 ?_
      refine lv_iload_n hx hb dX6_sheetAt_17 rfl (lv_at hl 1 rfl) ?_
      refine g_aaldK (Y := YC) (kd := 63) (n := 4) (k := a1.toNatClampNeg) (o := 9) (r := some (45 + 2 * a1.toNatClampNeg)) (by decide) rfl hc hw (Nat.lt_of_lt_of_le (by decide) hM) rfl rfl h.1 rfl rfl dX6_sheetAt_18 ?_
      replace h := h.2
      obtain ⟨o3, eo3⟩ : ∃ z, z = 45 + 2 * a1.toNatClampNeg := ⟨_, rfl⟩
      rw [← eo3]
      replace h := h o3 eo3
      have hf_o3 := h.1
      replace h := h.2
      refine lv_goto (tgt := 23) hx hb dX6_sheetAt_19 (by decide) ?_
      exact g_eret (r := (some o3)) hc hr hw rfl h dX6_sheetAt_23
def w_X6_hasActs (M : Nat) (post : Int32 → St → Prop) (a1 : Int32) (σ : St) : Prop :=
  (a1 < 0 → (post 0 σ)) ∧ (¬ (a1 < 0) → (((gi σ 0 3) < a1 → (post 0 σ)) ∧ (¬ ((gi σ 0 3) < a1) → (post 1 σ))))
set_option maxHeartbeats 4000000 in
set_option maxRecDepth 20000 in
theorem m_X6_hasActs {Γ : Gm} {ad : Nat → Nat} {M : Nat} (l : Launch) (hM : 53 ≤ M) {post : Int32 → St → Prop} (a1 : Int32) (σ : St) (h : w_X6_hasActs M post a1 σ) : Ci l Γ YC M ad σ yX6_hasActs cX6_hasActs 2 (Option.some Jvm.ClassFile.FieldType.boolean) 0 0 0 [.ref (ad 0), .int a1] post := by
  refine g_start (by decide) (Nat.le_of_ble_eq_true rfl) ?_
  intro p e s m args below meth c ls hc hr hn hl hw
  have hc : CX Γ p s m args meth c cX6_hasActs RX6 2 := hc
  have hl : lv_has ls 2 [(0, .ref (ad 0)), (1, .int a1)] := hl
  have hx := hc.1
  have hb := hc.2.1
  unfold w_X6_hasActs at h
  generalize hHH : s.heap = H0 at hw ⊢
  refine lv_iload_n hx hb dX6_hasActs_0 rfl (lv_at hl 1 rfl) ?_
  refine lv_if_lt (tgt := 16) hx hb dX6_hasActs_1 (by decide) (fun c1 => ?_) (fun c1 => ?_)
  · replace h := h.1 c1
    refine lv_iconst (v := 0) hx hb dX6_hasActs_16 (by decide) ?_
    exact g_zret hc hr hw rfl h dX6_hasActs_17
  · replace h := h.2 c1
    refine lv_iload_n hx hb dX6_hasActs_4 rfl (lv_at hl 1 rfl) ?_
    refine lv_aload_n hx hb dX6_hasActs_5 rfl (lv_at hl 0 rfl) ?_
    refine fg_X6_120 hc hw (Nat.lt_of_lt_of_le (by decide) hM) rfl dX6_hasActs_6 ?_
    refine lv_icmp_gt (tgt := 16) hx hb dX6_hasActs_9 (by decide) (fun c2 => ?_) (fun c2 => ?_)
    · replace h := h.1 c2
      refine lv_iconst (v := 0) hx hb dX6_hasActs_16 (by decide) ?_
      exact g_zret hc hr hw rfl h dX6_hasActs_17
    · replace h := h.2 c2
      refine lv_iconst (v := 1) hx hb dX6_hasActs_12 (by decide) ?_
      refine lv_goto (tgt := 17) hx hb dX6_hasActs_13 (by decide) ?_
      exact g_zret hc hr hw rfl h dX6_hasActs_17
def w_X6_isByte (M : Nat) (post : Int32 → St → Prop) (a1 : Int32) (σ : St) : Prop :=
  (a1 < 0 → (post 0 σ)) ∧ (¬ (a1 < 0) → ((255 < a1 → (post 0 σ)) ∧ (¬ (255 < a1) → (post 1 σ))))
set_option maxHeartbeats 4000000 in
set_option maxRecDepth 20000 in
theorem m_X6_isByte {Γ : Gm} {ad : Nat → Nat} {M : Nat} (l : Launch) (hM : 53 ≤ M) {post : Int32 → St → Prop} (a1 : Int32) (σ : St) (h : w_X6_isByte M post a1 σ) : Ci l Γ YC M ad σ yX6_isByte cX6_isByte 1 (Option.some Jvm.ClassFile.FieldType.boolean) 0 0 0 [.int a1] post := by
  refine g_start (by decide) (Nat.le_of_ble_eq_true rfl) ?_
  intro p e s m args below meth c ls hc hr hn hl hw
  have hc : CX Γ p s m args meth c cX6_isByte RX6 1 := hc
  have hl : lv_has ls 1 [(0, .int a1)] := hl
  have hx := hc.1
  have hb := hc.2.1
  unfold w_X6_isByte at h
  generalize hHH : s.heap = H0 at hw ⊢
  refine lv_iload_n hx hb dX6_isByte_0 rfl (lv_at hl 0 rfl) ?_
  refine lv_if_lt (tgt := 15) hx hb dX6_isByte_1 (by decide) (fun c1 => ?_) (fun c1 => ?_)
  · replace h := h.1 c1
    refine lv_iconst (v := 0) hx hb dX6_isByte_15 (by decide) ?_
    exact g_zret hc hr hw rfl h dX6_isByte_16
  · replace h := h.2 c1
    refine lv_iload_n hx hb dX6_isByte_4 rfl (lv_at hl 0 rfl) ?_
    refine lv_sipush (v := 255) hx hb dX6_isByte_5 (by decide) ?_
    refine lv_icmp_gt (tgt := 15) hx hb dX6_isByte_8 (by decide) (fun c2 => ?_) (fun c2 => ?_)
    · replace h := h.1 c2
      refine lv_iconst (v := 0) hx hb dX6_isByte_15 (by decide) ?_
      exact g_zret hc hr hw rfl h dX6_isByte_16
    · replace h := h.2 c2
      refine lv_iconst (v := 1) hx hb dX6_isByte_11 (by decide) ?_
      refine lv_goto (tgt := 16) hx hb dX6_isByte_12 (by decide) ?_
      exact g_zret hc hr hw rfl h dX6_isByte_16
def w_X6_isBit (M : Nat) (post : Int32 → St → Prop) (a1 : Int32) (σ : St) : Prop :=
  (a1 = 0 → (post 1 σ)) ∧ (¬ (a1 = 0) → ((a1 = 1 → (post 1 σ)) ∧ (¬ (a1 = 1) → (post 0 σ))))
set_option maxHeartbeats 4000000 in
set_option maxRecDepth 20000 in
theorem m_X6_isBit {Γ : Gm} {ad : Nat → Nat} {M : Nat} (l : Launch) (hM : 53 ≤ M) {post : Int32 → St → Prop} (a1 : Int32) (σ : St) (h : w_X6_isBit M post a1 σ) : Ci l Γ YC M ad σ yX6_isBit cX6_isBit 1 (Option.some Jvm.ClassFile.FieldType.boolean) 0 0 0 [.int a1] post := by
  refine g_start (by decide) (Nat.le_of_ble_eq_true rfl) ?_
  intro p e s m args below meth c ls hc hr hn hl hw
  have hc : CX Γ p s m args meth c cX6_isBit RX6 1 := hc
  have hl : lv_has ls 1 [(0, .int a1)] := hl
  have hx := hc.1
  have hb := hc.2.1
  unfold w_X6_isBit at h
  generalize hHH : s.heap = H0 at hw ⊢
  refine lv_iload_n hx hb dX6_isBit_0 rfl (lv_at hl 0 rfl) ?_
  refine lv_if_eq (tgt := 9) hx hb dX6_isBit_1 (by decide) (fun c1 => ?_) (fun c1 => ?_)
  · replace h := h.1 c1
    refine lv_iconst (v := 1) hx hb dX6_isBit_9 (by decide) ?_
    refine lv_goto (tgt := 14) hx hb dX6_isBit_10 (by decide) ?_
    exact g_zret hc hr hw rfl h dX6_isBit_14
  · replace h := h.2 c1
    refine lv_iload_n hx hb dX6_isBit_4 rfl (lv_at hl 0 rfl) ?_
    refine lv_iconst (v := 1) hx hb dX6_isBit_5 (by decide) ?_
    refine lv_icmp_ne (tgt := 13) hx hb dX6_isBit_6 (by decide) (fun c2 => ?_) (fun c2 => ?_)
    · replace h := h.2 c2
      refine lv_iconst (v := 0) hx hb dX6_isBit_13 (by decide) ?_
      exact g_zret hc hr hw rfl h dX6_isBit_14
    · replace h := h.1 c2
      refine lv_iconst (v := 1) hx hb dX6_isBit_9 (by decide) ?_
      refine lv_goto (tgt := 14) hx hb dX6_isBit_10 (by decide) ?_
      exact g_zret hc hr hw rfl h dX6_isBit_14
def w_X6_isSeed (M : Nat) (post : Int32 → St → Prop) (a1 : Int32) (σ : St) : Prop :=
  (a1 < 0 → (post 0 σ)) ∧ (¬ (a1 < 0) → ((99999 < a1 → (post 0 σ)) ∧ (¬ (99999 < a1) → (post 1 σ))))
set_option maxHeartbeats 4000000 in
set_option maxRecDepth 20000 in
theorem m_X6_isSeed {Γ : Gm} {ad : Nat → Nat} {M : Nat} (l : Launch) (hM : 53 ≤ M) {post : Int32 → St → Prop} (a1 : Int32) (σ : St) (h : w_X6_isSeed M post a1 σ) : Ci l Γ YC M ad σ yX6_isSeed cX6_isSeed 1 (Option.some Jvm.ClassFile.FieldType.boolean) 0 0 0 [.int a1] post := by
  refine g_start (by decide) (Nat.le_of_ble_eq_true rfl) ?_
  intro p e s m args below meth c ls hc hr hn hl hw
  have hc : CX Γ p s m args meth c cX6_isSeed RX6 1 := hc
  have hl : lv_has ls 1 [(0, .int a1)] := hl
  have hx := hc.1
  have hb := hc.2.1
  unfold w_X6_isSeed at h
  generalize hHH : s.heap = H0 at hw ⊢
  refine lv_iload_n hx hb dX6_isSeed_0 rfl (lv_at hl 0 rfl) ?_
  refine lv_if_lt (tgt := 15) hx hb dX6_isSeed_1 (by decide) (fun c1 => ?_) (fun c1 => ?_)
  · replace h := h.1 c1
    refine lv_iconst (v := 0) hx hb dX6_isSeed_15 (by decide) ?_
    exact g_zret hc hr hw rfl h dX6_isSeed_16
  · replace h := h.2 c1
    refine lv_iload_n hx hb dX6_isSeed_4 rfl (lv_at hl 0 rfl) ?_
    refine lv_ldcw (v := 99999) hx hb hc.2.2.2.1 (hc.2.2.2.2.1 _ q_889) dX6_isSeed_5 ?_
    refine lv_icmp_gt (tgt := 15) hx hb dX6_isSeed_8 (by decide) (fun c2 => ?_) (fun c2 => ?_)
    · replace h := h.1 c2
      refine lv_iconst (v := 0) hx hb dX6_isSeed_15 (by decide) ?_
      exact g_zret hc hr hw rfl h dX6_isSeed_16
    · replace h := h.2 c2
      refine lv_iconst (v := 1) hx hb dX6_isSeed_11 (by decide) ?_
      refine lv_goto (tgt := 16) hx hb dX6_isSeed_12 (by decide) ?_
      exact g_zret hc hr hw rfl h dX6_isSeed_16
def w_X6_isEvery (M : Nat) (post : Int32 → St → Prop) (a1 : Int32) (σ : St) : Prop :=
  (a1 < 1 → (post 0 σ)) ∧ (¬ (a1 < 1) → ((30 < a1 → (post 0 σ)) ∧ (¬ (30 < a1) → (post 1 σ))))
set_option maxHeartbeats 4000000 in
set_option maxRecDepth 20000 in
theorem m_X6_isEvery {Γ : Gm} {ad : Nat → Nat} {M : Nat} (l : Launch) (hM : 53 ≤ M) {post : Int32 → St → Prop} (a1 : Int32) (σ : St) (h : w_X6_isEvery M post a1 σ) : Ci l Γ YC M ad σ yX6_isEvery cX6_isEvery 1 (Option.some Jvm.ClassFile.FieldType.boolean) 0 0 0 [.int a1] post := by
  refine g_start (by decide) (Nat.le_of_ble_eq_true rfl) ?_
  intro p e s m args below meth c ls hc hr hn hl hw
  have hc : CX Γ p s m args meth c cX6_isEvery RX6 1 := hc
  have hl : lv_has ls 1 [(0, .int a1)] := hl
  have hx := hc.1
  have hb := hc.2.1
  unfold w_X6_isEvery at h
  generalize hHH : s.heap = H0 at hw ⊢
  refine lv_iload_n hx hb dX6_isEvery_0 rfl (lv_at hl 0 rfl) ?_
  refine lv_iconst (v := 1) hx hb dX6_isEvery_1 (by decide) ?_
  refine lv_icmp_lt (tgt := 15) hx hb dX6_isEvery_2 (by decide) (fun c1 => ?_) (fun c1 => ?_)
  · replace h := h.1 c1
    refine lv_iconst (v := 0) hx hb dX6_isEvery_15 (by decide) ?_
    exact g_zret hc hr hw rfl h dX6_isEvery_16
  · replace h := h.2 c1
    refine lv_iload_n hx hb dX6_isEvery_5 rfl (lv_at hl 0 rfl) ?_
    refine lv_bipush (v := 30) hx hb dX6_isEvery_6 (by decide) ?_
    refine lv_icmp_gt (tgt := 15) hx hb dX6_isEvery_8 (by decide) (fun c2 => ?_) (fun c2 => ?_)
    · replace h := h.1 c2
      refine lv_iconst (v := 0) hx hb dX6_isEvery_15 (by decide) ?_
      exact g_zret hc hr hw rfl h dX6_isEvery_16
    · replace h := h.2 c2
      refine lv_iconst (v := 1) hx hb dX6_isEvery_11 (by decide) ?_
      refine lv_goto (tgt := 16) hx hb dX6_isEvery_12 (by decide) ?_
      exact g_zret hc hr hw rfl h dX6_isEvery_16
def w_X6_lowestTerm_13 (M : Nat) (post : Int32 → St → Prop) (k_13 : Int32 → Int32 → Int32 → Int32 → St → Prop) (v0 : Int32) (v1 : Int32) (v3 : Int32) (v4 : Int32) (σ : St) : Prop :=
  (v4 ≤ 1 → (post v3 σ)) ∧ (¬ (v4 ≤ 1) → ((¬ v4 = 0) ∧ (((v0 - v0 / v4 * v4) = 0 → ((¬ v4 = 0) ∧ (((v1 - v1 / v4 * v4) = 0 → ((¬ v4 = 0) ∧ (post (v3 / v4) σ))) ∧ (¬ ((v1 - v1 / v4 * v4) = 0) → (∀ x5 : Int32, x5 = v4 + (-1) → (k_13 v0 v1 v3 x5 σ)))))) ∧ (¬ ((v0 - v0 / v4 * v4) = 0) → (∀ x3 : Int32, x3 = v4 + (-1) → (k_13 v0 v1 v3 x3 σ))))))
set_option maxHeartbeats 4000000 in
set_option maxRecDepth 20000 in
theorem b_X6_lowestTerm_13 {Γ : Gm} {ad : Nat → Nat} {p : Program} {l : Launch} {e : Env} {s : State} {m : MethodId} {args : Array Value} {below : List Frame} {meth : Method} {c : Code} {M : Nat} (hM : 53 ≤ M) {post : Int32 → St → Prop} {k_13 : Int32 → Int32 → Int32 → Int32 → St → Prop} (hk_13 : ∀ (v0 : Int32) (v1 : Int32) (v3 : Int32) (v4 : Int32) (σ : St) (H : Heap) (locs : List Loc) (ls : Array Slot), k_13 v0 v1 v3 v4 σ → WH Γ YC M ad σ s H locs → lv_has ls 5 [(0, .int v0), (1, .int v1), (3, .int v3), (4, .int v4)] → W p l e (rmL 0 0 0) s m args below meth c H locs 0 0 (MQ below (va_Qi post (fun u t => WC Γ YC M ad u t) (AA Γ)) args s 0 0 (AA Γ)) (F0 m 13 ls []))
    (v0 : Int32) (v1 : Int32) (v3 : Int32) (v4 : Int32) (σ : St) (H : Heap) (locs : List Loc) (ls : Array Slot) (h : w_X6_lowestTerm_13 M post k_13 v0 v1 v3 v4 σ) (hc : CX Γ p s m args meth c cX6_lowestTerm RX6 5) (hr : meth.sig.returnType = (Option.some Jvm.ClassFile.FieldType.int)) (hw : WH Γ YC M ad σ s H locs) (hl : lv_has ls 5 [(0, .int v0), (1, .int v1), (3, .int v3), (4, .int v4)]) :
    W p l e (rmL 0 0 0) s m args below meth c H locs 0 0 (MQ below (va_Qi post (fun u t => WC Γ YC M ad u t) (AA Γ)) args s 0 0 (AA Γ)) (F0 m 13 ls []) := by
  have hx := hc.1
  have hb := hc.2.1
  unfold w_X6_lowestTerm_13 at h
  refine lv_iload hx hb dX6_lowestTerm_13 (lv_at hl 3 rfl) ?_
  refine lv_iconst (v := 1) hx hb dX6_lowestTerm_15 (by decide) ?_
  refine lv_icmp_le (tgt := 44) hx hb dX6_lowestTerm_16 (by decide) (fun c1 => ?_) (fun c1 => ?_)
  · replace h := h.1 c1
    refine lv_iload_n hx hb dX6_lowestTerm_44 rfl (lv_at hl 2 rfl) ?_
    exact g_iret hc hr hw h dX6_lowestTerm_45
  · replace h := h.2 c1
    refine lv_iload_n hx hb dX6_lowestTerm_19 rfl (lv_at hl 0 rfl) ?_
    refine lv_iload hx hb dX6_lowestTerm_20 (lv_at hl 3 rfl) ?_
    refine lv_irem hx hb dX6_lowestTerm_22 h.1 ?_
    replace h := h.2
    refine lv_if_ne (tgt := 38) hx hb dX6_lowestTerm_23 (by decide) (fun c2 => ?_) (fun c2 => ?_)
    · replace h := h.2 c2
      obtain ⟨x3, ex3⟩ : ∃ z, z = v4 + (-1) := ⟨_, rfl⟩
      replace h := h x3 ex3
      refine lv_iinc (v := x3) (lv' := [(4, .int x3), (0, .int v0), (1, .int v1), (3, .int v3)]) hx hb dX6_lowestTerm_38 hl (k := 3) rfl (by rw [ex3]; rfl) (by decide) rfl (fun ls hl => ?_)
      refine lv_goto (tgt := 13) hx hb dX6_lowestTerm_41 (by decide) ?_
      exact hk_13 v0 v1 v3 x3 σ _ _ _ h  hw (lv_sub hl [1, 2, 3, 0] rfl)
    · replace h := h.1 c2
      refine lv_iload_n hx hb dX6_lowestTerm_26 rfl (lv_at hl 1 rfl) ?_
      refine lv_iload hx hb dX6_lowestTerm_27 (lv_at hl 3 rfl) ?_
      refine lv_irem hx hb dX6_lowestTerm_29 h.1 ?_
      replace h := h.2
      refine lv_if_ne (tgt := 38) hx hb dX6_lowestTerm_30 (by decide) (fun c4 => ?_) (fun c4 => ?_)
      · replace h := h.2 c4
        obtain ⟨x5, ex5⟩ : ∃ z, z = v4 + (-1) := ⟨_, rfl⟩
        replace h := h x5 ex5
        refine lv_iinc (v := x5) (lv' := [(4, .int x5), (0, .int v0), (1, .int v1), (3, .int v3)]) hx hb dX6_lowestTerm_38 hl (k := 3) rfl (by rw [ex5]; rfl) (by decide) rfl (fun ls hl => ?_)
        refine lv_goto (tgt := 13) hx hb dX6_lowestTerm_41 (by decide) ?_
        exact hk_13 v0 v1 v3 x5 σ _ _ _ h  hw (lv_sub hl [1, 2, 3, 0] rfl)
      · replace h := h.1 c4
        refine lv_iload_n hx hb dX6_lowestTerm_33 rfl (lv_at hl 2 rfl) ?_
        refine lv_iload hx hb dX6_lowestTerm_34 (lv_at hl 3 rfl) ?_
        refine lv_idiv hx hb dX6_lowestTerm_36 h.1 ?_
        replace h := h.2
        exact g_iret hc hr hw h dX6_lowestTerm_37
def wl_X6_lowestTerm_13 (M : Nat) (post : Int32 → St → Prop) : Nat → Int32 → Int32 → Int32 → Int32 → St → Prop
  | 0, _, _, _, _, _ => False
  | n + 1, v0, v1, v3, v4, σ => w_X6_lowestTerm_13 M post (wl_X6_lowestTerm_13 M post n) v0 v1 v3 v4 σ
set_option maxHeartbeats 4000000 in
theorem bl_X6_lowestTerm_13 {Γ : Gm} {ad : Nat → Nat} {p : Program} {l : Launch} {e : Env} {s : State} {m : MethodId} {args : Array Value} {below : List Frame} {meth : Method} {c : Code} {M : Nat} (hM : 53 ≤ M) {post : Int32 → St → Prop}
    (hc : CX Γ p s m args meth c cX6_lowestTerm RX6 5) (hr : meth.sig.returnType = (Option.some Jvm.ClassFile.FieldType.int)) :
    ∀ (n : Nat) (v0 : Int32) (v1 : Int32) (v3 : Int32) (v4 : Int32) (σ : St) (H : Heap) (locs : List Loc) (ls : Array Slot), wl_X6_lowestTerm_13 M post n v0 v1 v3 v4 σ → WH Γ YC M ad σ s H locs → lv_has ls 5 [(0, .int v0), (1, .int v1), (3, .int v3), (4, .int v4)] → W p l e (rmL 0 0 0) s m args below meth c H locs 0 0 (MQ below (va_Qi post (fun u t => WC Γ YC M ad u t) (AA Γ)) args s 0 0 (AA Γ)) (F0 m 13 ls []) := by
  intro n
  induction n with
  | zero => intro v0 v1 v3 v4 σ H locs ls h; exact h.elim
  | succ n ih =>
    intro v0 v1 v3 v4 σ H locs ls h  hw hl
    exact b_X6_lowestTerm_13 hM ih v0 v1 v3 v4 σ H locs ls h  hc hr hw hl
def w_X6_lowestTerm (M : Nat) (post : Int32 → St → Prop) (a1 : Int32) (a2 : Int32) (a3 : Int32) (σ : St) : Prop :=
  (a3 = 0 → (∃ n, wl_X6_lowestTerm_13 M post n a1 a2 a1 a2 σ)) ∧ (¬ (a3 = 0) → (∃ n, wl_X6_lowestTerm_13 M post n a1 a2 a2 a2 σ))
set_option maxHeartbeats 4000000 in
set_option maxRecDepth 20000 in
theorem m_X6_lowestTerm {Γ : Gm} {ad : Nat → Nat} {M : Nat} (l : Launch) (hM : 53 ≤ M) {post : Int32 → St → Prop} (a1 : Int32) (a2 : Int32) (a3 : Int32) (σ : St) (h : w_X6_lowestTerm M post a1 a2 a3 σ) : Ci l Γ YC M ad σ yX6_lowestTerm cX6_lowestTerm 5 (Option.some Jvm.ClassFile.FieldType.int) 0 0 0 [.int a1, .int a2, .int a3] post := by
  refine g_start (by decide) (Nat.le_of_ble_eq_true rfl) ?_
  intro p e s m args below meth c ls hc hr hn hl hw
  have hc : CX Γ p s m args meth c cX6_lowestTerm RX6 5 := hc
  have hl : lv_has ls 5 [(0, .int a1), (1, .int a2), (2, .int a3)] := hl
  have hx := hc.1
  have hb := hc.2.1
  unfold w_X6_lowestTerm at h
  generalize hHH : s.heap = H0 at hw ⊢
  refine lv_iload_n hx hb dX6_lowestTerm_0 rfl (lv_at hl 2 rfl) ?_
  refine lv_if_ne (tgt := 8) hx hb dX6_lowestTerm_1 (by decide) (fun c1 => ?_) (fun c1 => ?_)
  · replace h := h.2 c1
    refine lv_iload_n hx hb dX6_lowestTerm_8 rfl (lv_at hl 1 rfl) ?_
    refine lv_istore_n (lv' := [(3, .int a2), (0, .int a1), (1, .int a2), (2, .int a3)]) hx hb dX6_lowestTerm_9 rfl hl (by decide) rfl (fun ls hl => ?_)
    refine lv_iload_n hx hb dX6_lowestTerm_10 rfl (lv_at hl 2 rfl) ?_
    refine lv_istore (lv' := [(4, .int a2), (3, .int a2), (0, .int a1), (1, .int a2), (2, .int a3)]) hx hb dX6_lowestTerm_11 hl (by decide) rfl (fun ls hl => ?_)
    obtain ⟨n, h⟩ := h
    exact bl_X6_lowestTerm_13 hM hc hr n a1 a2 a2 a2 σ _ _ _ h  hw (lv_sub hl [2, 3, 1, 0] rfl)
  · replace h := h.1 c1
    refine lv_iload_n hx hb dX6_lowestTerm_4 rfl (lv_at hl 0 rfl) ?_
    refine lv_goto (tgt := 9) hx hb dX6_lowestTerm_5 (by decide) ?_
    refine lv_istore_n (lv' := [(3, .int a1), (0, .int a1), (1, .int a2), (2, .int a3)]) hx hb dX6_lowestTerm_9 rfl hl (by decide) rfl (fun ls hl => ?_)
    refine lv_iload_n hx hb dX6_lowestTerm_10 rfl (lv_at hl 2 rfl) ?_
    refine lv_istore (lv' := [(4, .int a2), (3, .int a1), (0, .int a1), (1, .int a2), (2, .int a3)]) hx hb dX6_lowestTerm_11 hl (by decide) rfl (fun ls hl => ?_)
    obtain ⟨n, h⟩ := h
    exact bl_X6_lowestTerm_13 hM hc hr n a1 a2 a1 a2 σ _ _ _ h  hw (lv_sub hl [2, 3, 1, 0] rfl)
def w_X6_count (M : Nat) (post : Int32 → St → Prop) (a1 : Int32) (σ : St) : Prop :=
  (a1 = 0 → ((vp_in a1 3) ∧ (post (gi σ 4 a1.toNatClampNeg) σ))) ∧ (¬ (a1 = 0) → ((a1 = 1 → ((vp_in a1 3) ∧ (post (gi σ 4 a1.toNatClampNeg) σ))) ∧ (¬ (a1 = 1) → ((a1 = 2 → ((vp_in a1 3) ∧ (post (gi σ 4 a1.toNatClampNeg) σ))) ∧ (¬ (a1 = 2) → ((a1 = 3 → (post (gi σ 0 1) σ)) ∧ (¬ (a1 = 3) → ((a1 = 4 → (post (gi σ 0 3) σ)) ∧ (¬ (a1 = 4) → ((a1 = 5 → (post (gi σ 0 5) σ)) ∧ (¬ (a1 = 5) → ((a1 = 6 → (post (gi σ 0 6) σ)) ∧ (¬ (a1 = 6) → ((a1 = 7 → (w_X4_size M (fun r10 σ9 => (post r10 σ9)) σ)) ∧ (¬ (a1 = 7) → (post (-2) σ))))))))))))))))
set_option maxHeartbeats 4000000 in
set_option maxRecDepth 20000 in
theorem m_X6_count {Γ : Gm} {ad : Nat → Nat} {M : Nat} (l : Launch) (hM : 53 ≤ M) {post : Int32 → St → Prop} (a1 : Int32) (σ : St) (h : w_X6_count M post a1 σ) : Ci l Γ YC M ad σ yX6_count cX6_count 2 (Option.some Jvm.ClassFile.FieldType.int) 1 0 0 [.ref (ad 0), .int a1] post := by
  refine g_start (by decide) (Nat.le_of_ble_eq_true rfl) ?_
  intro p e s m args below meth c ls hc hr hn hl hw
  have hc : CX Γ p s m args meth c cX6_count RX6 2 := hc
  have hl : lv_has ls 2 [(0, .ref (ad 0)), (1, .int a1)] := hl
  have hx := hc.1
  have hb := hc.2.1
  unfold w_X6_count at h
  generalize hHH : s.heap = H0 at hw ⊢
  refine lv_iload_n hx hb dX6_count_0 rfl (lv_at hl 1 rfl) ?_
  by_cases c1 : a1 = 0
  · replace h := h.1 c1
    refine lv_tableIn (off := 47) (tgt := 48) hx hb dX6_count_1 (by rw [c1]; decide) (by rw [c1]; decide) (by rw [c1]; rfl) (by decide) ?_
    refine lv_aload_n hx hb dX6_count_48 rfl (lv_at hl 0 rfl) ?_
    refine fg_X6_27 hc hw (Nat.lt_of_lt_of_le (by decide) hM) rfl dX6_count_49 ?_
    refine lv_iload_n hx hb dX6_count_52 rfl (lv_at hl 1 rfl) ?_
    refine g_ialdK (Y := YC) (kd := 21) (n := 3) (k := a1.toNatClampNeg) (o := 4) (by decide) (by decide) rfl hc hw (Nat.lt_of_lt_of_le (by decide) hM) rfl rfl h.1 rfl dX6_count_53 ?_
    replace h := h.2
    exact g_iret hc hr hw h dX6_count_54
  replace h := h.2 c1
  by_cases c2 : a1 = 1
  · replace h := h.1 c2
    refine lv_tableIn (off := 47) (tgt := 48) hx hb dX6_count_1 (by rw [c2]; decide) (by rw [c2]; decide) (by rw [c2]; rfl) (by decide) ?_
    refine lv_aload_n hx hb dX6_count_48 rfl (lv_at hl 0 rfl) ?_
    refine fg_X6_27 hc hw (Nat.lt_of_lt_of_le (by decide) hM) rfl dX6_count_49 ?_
    refine lv_iload_n hx hb dX6_count_52 rfl (lv_at hl 1 rfl) ?_
    refine g_ialdK (Y := YC) (kd := 21) (n := 3) (k := a1.toNatClampNeg) (o := 4) (by decide) (by decide) rfl hc hw (Nat.lt_of_lt_of_le (by decide) hM) rfl rfl h.1 rfl dX6_count_53 ?_
    replace h := h.2
    exact g_iret hc hr hw h dX6_count_54
  replace h := h.2 c2
  by_cases c3 : a1 = 2
  · replace h := h.1 c3
    refine lv_tableIn (off := 47) (tgt := 48) hx hb dX6_count_1 (by rw [c3]; decide) (by rw [c3]; decide) (by rw [c3]; rfl) (by decide) ?_
    refine lv_aload_n hx hb dX6_count_48 rfl (lv_at hl 0 rfl) ?_
    refine fg_X6_27 hc hw (Nat.lt_of_lt_of_le (by decide) hM) rfl dX6_count_49 ?_
    refine lv_iload_n hx hb dX6_count_52 rfl (lv_at hl 1 rfl) ?_
    refine g_ialdK (Y := YC) (kd := 21) (n := 3) (k := a1.toNatClampNeg) (o := 4) (by decide) (by decide) rfl hc hw (Nat.lt_of_lt_of_le (by decide) hM) rfl rfl h.1 rfl dX6_count_53 ?_
    replace h := h.2
    exact g_iret hc hr hw h dX6_count_54
  replace h := h.2 c3
  by_cases c4 : a1 = 3
  · replace h := h.1 c4
    refine lv_tableIn (off := 54) (tgt := 55) hx hb dX6_count_1 (by rw [c4]; decide) (by rw [c4]; decide) (by rw [c4]; rfl) (by decide) ?_
    refine lv_aload_n hx hb dX6_count_55 rfl (lv_at hl 0 rfl) ?_
    refine fg_X6_98 hc hw (Nat.lt_of_lt_of_le (by decide) hM) rfl dX6_count_56 ?_
    exact g_iret hc hr hw h dX6_count_59
  replace h := h.2 c4
  by_cases c5 : a1 = 4
  · replace h := h.1 c5
    refine lv_tableIn (off := 59) (tgt := 60) hx hb dX6_count_1 (by rw [c5]; decide) (by rw [c5]; decide) (by rw [c5]; rfl) (by decide) ?_
    refine lv_aload_n hx hb dX6_count_60 rfl (lv_at hl 0 rfl) ?_
    refine fg_X6_120 hc hw (Nat.lt_of_lt_of_le (by decide) hM) rfl dX6_count_61 ?_
    exact g_iret hc hr hw h dX6_count_64
  replace h := h.2 c5
  by_cases c6 : a1 = 5
  · replace h := h.1 c6
    refine lv_tableIn (off := 64) (tgt := 65) hx hb dX6_count_1 (by rw [c6]; decide) (by rw [c6]; decide) (by rw [c6]; rfl) (by decide) ?_
    refine lv_aload_n hx hb dX6_count_65 rfl (lv_at hl 0 rfl) ?_
    refine fg_X6_91 hc hw (Nat.lt_of_lt_of_le (by decide) hM) rfl dX6_count_66 ?_
    exact g_iret hc hr hw h dX6_count_69
  replace h := h.2 c6
  by_cases c7 : a1 = 6
  · replace h := h.1 c7
    refine lv_tableIn (off := 69) (tgt := 70) hx hb dX6_count_1 (by rw [c7]; decide) (by rw [c7]; decide) (by rw [c7]; rfl) (by decide) ?_
    refine lv_aload_n hx hb dX6_count_70 rfl (lv_at hl 0 rfl) ?_
    refine fg_X6_123 hc hw (Nat.lt_of_lt_of_le (by decide) hM) rfl dX6_count_71 ?_
    exact g_iret hc hr hw h dX6_count_74
  replace h := h.2 c7
  by_cases c8 : a1 = 7
  · replace h := h.1 c8
    refine lv_tableIn (off := 74) (tgt := 75) hx hb dX6_count_1 (by rw [c8]; decide) (by rw [c8]; decide) (by rw [c8]; rfl) (by decide) ?_
    refine lv_aload_n hx hb dX6_count_75 rfl (lv_at hl 0 rfl) ?_
    refine fg_X6_34 hc hw (Nat.lt_of_lt_of_le (by decide) hM) rfl dX6_count_76 ?_
    refine g_Vi (Y := YC) (ci := 4) (n := 0) (k := 0) (As := []) (rest := []) rfl (by decide) vw_X6_126 ⟨Nat.le_of_ble_eq_true rfl, Nat.le_of_ble_eq_true rfl, Nat.zero_le _, Nat.zero_le _⟩ hc hw hl.1 (Nat.lt_of_lt_of_le (by decide) hM) rfl (m_X4_size l hM σ h) rfl rfl (Nat.le_of_ble_eq_true rfl) dX6_count_79 (fun r10 σ9 H locs h hw => ?_)
    exact g_iret hc hr hw h dX6_count_82
  replace h := h.2 c8
  refine lv_tableOut (tgt := 83) hx hb dX6_count_1 (by have zc1 := lv_neT (a := 0) c1 (by decide); have zc2 := lv_neT (a := 1) c2 (by decide); have zc3 := lv_neT (a := 2) c3 (by decide); have zc4 := lv_neT (a := 3) c4 (by decide); have zc5 := lv_neT (a := 4) c5 (by decide); have zc6 := lv_neT (a := 5) c6 (by decide); have zc7 := lv_neT (a := 6) c7 (by decide); have zc8 := lv_neT (a := 7) c8 (by decide); omega) (by decide) ?_
  refine lv_bipush (v := (-2)) hx hb dX6_count_83 (by decide) ?_
  exact g_iret hc hr hw h dX6_count_85
def w_X6_feed_68 (M : Nat) (post : Int32 → St → Prop) (k_68 : Int32 → Int32 → Int32 → Int32 → Int32 → Int32 → Int32 → St → Prop) (v1 : Int32) (v2 : Int32) (v3 : Int32) (v4 : Int32) (v5 : Int32) (v6 : Int32) (v7 : Int32) (σ : St) : Prop :=
  (v1 ≤ v7 → (w_X4_size M (fun r3 σ2 => (post r3 σ2)) σ)) ∧ (¬ (v1 ≤ v7) → ((v7 = 0 → (w_X4_add M (fun σ16 => (∀ x17 : Int32, x17 = v7 + 1 → (k_68 v1 v2 v3 v4 v5 v6 x17 σ16))) v2 σ)) ∧ (¬ (v7 = 0) → ((v7 = 1 → (w_X4_add M (fun σ14 => (∀ x15 : Int32, x15 = v7 + 1 → (k_68 v1 v2 v3 v4 v5 v6 x15 σ14))) v3 σ)) ∧ (¬ (v7 = 1) → ((v7 = 2 → (w_X4_add M (fun σ12 => (∀ x13 : Int32, x13 = v7 + 1 → (k_68 v1 v2 v3 v4 v5 v6 x13 σ12))) v4 σ)) ∧ (¬ (v7 = 2) → ((v7 = 3 → (w_X4_add M (fun σ10 => (∀ x11 : Int32, x11 = v7 + 1 → (k_68 v1 v2 v3 v4 v5 v6 x11 σ10))) v5 σ)) ∧ (¬ (v7 = 3) → (w_X4_add M (fun σ8 => (∀ x9 : Int32, x9 = v7 + 1 → (k_68 v1 v2 v3 v4 v5 v6 x9 σ8))) v6 σ))))))))))
set_option maxHeartbeats 4000000 in
set_option maxRecDepth 20000 in
theorem b_X6_feed_68 {Γ : Gm} {ad : Nat → Nat} {p : Program} {l : Launch} {e : Env} {s : State} {m : MethodId} {args : Array Value} {below : List Frame} {meth : Method} {c : Code} {M : Nat} (hM : 53 ≤ M) {post : Int32 → St → Prop} {k_68 : Int32 → Int32 → Int32 → Int32 → Int32 → Int32 → Int32 → St → Prop} (hk_68 : ∀ (v1 : Int32) (v2 : Int32) (v3 : Int32) (v4 : Int32) (v5 : Int32) (v6 : Int32) (v7 : Int32) (σ : St) (H : Heap) (locs : List Loc) (ls : Array Slot), k_68 v1 v2 v3 v4 v5 v6 v7 σ → WH Γ YC M ad σ s H locs → lv_has ls 8 [(0, .ref (ad 0)), (1, .int v1), (2, .int v2), (3, .int v3), (4, .int v4), (5, .int v5), (6, .int v6), (7, .int v7)] → W p l e (rmL 1 0 0) s m args below meth c H locs 0 0 (MQ below (va_Qi post (fun u t => WC Γ YC M ad u t) (AA Γ)) args s 0 0 (AA Γ)) (F0 m 68 ls []))
    (v1 : Int32) (v2 : Int32) (v3 : Int32) (v4 : Int32) (v5 : Int32) (v6 : Int32) (v7 : Int32) (σ : St) (H : Heap) (locs : List Loc) (ls : Array Slot) (h : w_X6_feed_68 M post k_68 v1 v2 v3 v4 v5 v6 v7 σ) (hc : CX Γ p s m args meth c cX6_feed RX6 8) (hr : meth.sig.returnType = (Option.some Jvm.ClassFile.FieldType.int)) (hw : WH Γ YC M ad σ s H locs) (hl : lv_has ls 8 [(0, .ref (ad 0)), (1, .int v1), (2, .int v2), (3, .int v3), (4, .int v4), (5, .int v5), (6, .int v6), (7, .int v7)]) :
    W p l e (rmL 1 0 0) s m args below meth c H locs 0 0 (MQ below (va_Qi post (fun u t => WC Γ YC M ad u t) (AA Γ)) args s 0 0 (AA Γ)) (F0 m 68 ls []) := by
  have hx := hc.1
  have hb := hc.2.1
  unfold w_X6_feed_68 at h
  refine lv_iload hx hb dX6_feed_68 (lv_at hl 7 rfl) ?_
  refine lv_iload_n hx hb dX6_feed_70 rfl (lv_at hl 1 rfl) ?_
  refine lv_icmp_ge (tgt := 130) hx hb dX6_feed_71 (by decide) (fun c1 => ?_) (fun c1 => ?_)
  · replace h := h.1 c1
    refine lv_aload_n hx hb dX6_feed_130 rfl (lv_at hl 0 rfl) ?_
    refine fg_X6_34 hc hw (Nat.lt_of_lt_of_le (by decide) hM) rfl dX6_feed_131 ?_
    refine g_Vi (Y := YC) (ci := 4) (n := 0) (k := 0) (As := []) (rest := []) rfl (by decide) vw_X6_126 ⟨Nat.le_of_ble_eq_true rfl, Nat.le_of_ble_eq_true rfl, Nat.zero_le _, Nat.zero_le _⟩ hc hw hl.1 (Nat.lt_of_lt_of_le (by decide) hM) rfl (m_X4_size l hM σ h) rfl rfl (Nat.le_of_ble_eq_true rfl) dX6_feed_134 (fun r3 σ2 H locs h hw => ?_)
    exact g_iret hc hr hw h dX6_feed_137
  · replace h := h.2 c1
    refine lv_aload_n hx hb dX6_feed_74 rfl (lv_at hl 0 rfl) ?_
    refine fg_X6_34 hc hw (Nat.lt_of_lt_of_le (by decide) hM) rfl dX6_feed_75 ?_
    refine lv_iload hx hb dX6_feed_78 (lv_at hl 7 rfl) ?_
    refine lv_if_ne (tgt := 87) hx hb dX6_feed_80 (by decide) (fun c4 => ?_) (fun c4 => ?_)
    · replace h := h.2 c4
      refine lv_iload hx hb dX6_feed_87 (lv_at hl 7 rfl) ?_
      refine lv_iconst (v := 1) hx hb dX6_feed_89 (by decide) ?_
      refine lv_icmp_ne (tgt := 97) hx hb dX6_feed_90 (by decide) (fun c5 => ?_) (fun c5 => ?_)
      · replace h := h.2 c5
        refine lv_iload hx hb dX6_feed_97 (lv_at hl 7 rfl) ?_
        refine lv_iconst (v := 2) hx hb dX6_feed_99 (by decide) ?_
        refine lv_icmp_ne (tgt := 108) hx hb dX6_feed_100 (by decide) (fun c6 => ?_) (fun c6 => ?_)
        · replace h := h.2 c6
          refine lv_iload hx hb dX6_feed_108 (lv_at hl 7 rfl) ?_
          refine lv_iconst (v := 3) hx hb dX6_feed_110 (by decide) ?_
          refine lv_icmp_ne (tgt := 119) hx hb dX6_feed_111 (by decide) (fun c7 => ?_) (fun c7 => ?_)
          · replace h := h.2 c7
            refine lv_iload hx hb dX6_feed_119 (lv_at hl 6 rfl) ?_
            refine g_Vv (Y := YC) (ci := 4) (n := 1) (k := 0) (As := [.int v6]) (rest := []) rfl (by decide) vw_X6_83 ⟨Nat.le_of_ble_eq_true rfl, Nat.le_of_ble_eq_true rfl, Nat.zero_le _, Nat.zero_le _⟩ hc hw hl.1 (Nat.lt_of_lt_of_le (by decide) hM) rfl (m_X4_add l hM v6 σ h) rfl rfl (Nat.le_of_ble_eq_true rfl) dX6_feed_121 (fun σ8 H locs h hw => ?_)
            obtain ⟨x9, ex9⟩ : ∃ z, z = v7 + 1 := ⟨_, rfl⟩
            replace h := h x9 ex9
            refine lv_iinc (v := x9) (lv' := [(7, .int x9), (0, .ref (ad 0)), (1, .int v1), (2, .int v2), (3, .int v3), (4, .int v4), (5, .int v5), (6, .int v6)]) hx hb dX6_feed_124 hl (k := 7) rfl (by rw [ex9]; rfl) (by decide) rfl (fun ls hl => ?_)
            refine lv_goto (tgt := 68) hx hb dX6_feed_127 (by decide) ?_
            exact hk_68 v1 v2 v3 v4 v5 v6 x9 σ8 _ _ _ h  hw (lv_sub hl [1, 2, 3, 4, 5, 6, 7, 0] rfl)
          · replace h := h.1 c7
            refine lv_iload hx hb dX6_feed_114 (lv_at hl 5 rfl) ?_
            refine lv_goto (tgt := 121) hx hb dX6_feed_116 (by decide) ?_
            refine g_Vv (Y := YC) (ci := 4) (n := 1) (k := 0) (As := [.int v5]) (rest := []) rfl (by decide) vw_X6_83 ⟨Nat.le_of_ble_eq_true rfl, Nat.le_of_ble_eq_true rfl, Nat.zero_le _, Nat.zero_le _⟩ hc hw hl.1 (Nat.lt_of_lt_of_le (by decide) hM) rfl (m_X4_add l hM v5 σ h) rfl rfl (Nat.le_of_ble_eq_true rfl) dX6_feed_121 (fun σ10 H locs h hw => ?_)
            obtain ⟨x11, ex11⟩ : ∃ z, z = v7 + 1 := ⟨_, rfl⟩
            replace h := h x11 ex11
            refine lv_iinc (v := x11) (lv' := [(7, .int x11), (0, .ref (ad 0)), (1, .int v1), (2, .int v2), (3, .int v3), (4, .int v4), (5, .int v5), (6, .int v6)]) hx hb dX6_feed_124 hl (k := 7) rfl (by rw [ex11]; rfl) (by decide) rfl (fun ls hl => ?_)
            refine lv_goto (tgt := 68) hx hb dX6_feed_127 (by decide) ?_
            exact hk_68 v1 v2 v3 v4 v5 v6 x11 σ10 _ _ _ h  hw (lv_sub hl [1, 2, 3, 4, 5, 6, 7, 0] rfl)
        · replace h := h.1 c6
          refine lv_iload hx hb dX6_feed_103 (lv_at hl 4 rfl) ?_
          refine lv_goto (tgt := 121) hx hb dX6_feed_105 (by decide) ?_
          refine g_Vv (Y := YC) (ci := 4) (n := 1) (k := 0) (As := [.int v4]) (rest := []) rfl (by decide) vw_X6_83 ⟨Nat.le_of_ble_eq_true rfl, Nat.le_of_ble_eq_true rfl, Nat.zero_le _, Nat.zero_le _⟩ hc hw hl.1 (Nat.lt_of_lt_of_le (by decide) hM) rfl (m_X4_add l hM v4 σ h) rfl rfl (Nat.le_of_ble_eq_true rfl) dX6_feed_121 (fun σ12 H locs h hw => ?_)
          obtain ⟨x13, ex13⟩ : ∃ z, z = v7 + 1 := ⟨_, rfl⟩
          replace h := h x13 ex13
          refine lv_iinc (v := x13) (lv' := [(7, .int x13), (0, .ref (ad 0)), (1, .int v1), (2, .int v2), (3, .int v3), (4, .int v4), (5, .int v5), (6, .int v6)]) hx hb dX6_feed_124 hl (k := 7) rfl (by rw [ex13]; rfl) (by decide) rfl (fun ls hl => ?_)
          refine lv_goto (tgt := 68) hx hb dX6_feed_127 (by decide) ?_
          exact hk_68 v1 v2 v3 v4 v5 v6 x13 σ12 _ _ _ h  hw (lv_sub hl [1, 2, 3, 4, 5, 6, 7, 0] rfl)
      · replace h := h.1 c5
        refine lv_iload_n hx hb dX6_feed_93 rfl (lv_at hl 3 rfl) ?_
        refine lv_goto (tgt := 121) hx hb dX6_feed_94 (by decide) ?_
        refine g_Vv (Y := YC) (ci := 4) (n := 1) (k := 0) (As := [.int v3]) (rest := []) rfl (by decide) vw_X6_83 ⟨Nat.le_of_ble_eq_true rfl, Nat.le_of_ble_eq_true rfl, Nat.zero_le _, Nat.zero_le _⟩ hc hw hl.1 (Nat.lt_of_lt_of_le (by decide) hM) rfl (m_X4_add l hM v3 σ h) rfl rfl (Nat.le_of_ble_eq_true rfl) dX6_feed_121 (fun σ14 H locs h hw => ?_)
        obtain ⟨x15, ex15⟩ : ∃ z, z = v7 + 1 := ⟨_, rfl⟩
        replace h := h x15 ex15
        refine lv_iinc (v := x15) (lv' := [(7, .int x15), (0, .ref (ad 0)), (1, .int v1), (2, .int v2), (3, .int v3), (4, .int v4), (5, .int v5), (6, .int v6)]) hx hb dX6_feed_124 hl (k := 7) rfl (by rw [ex15]; rfl) (by decide) rfl (fun ls hl => ?_)
        refine lv_goto (tgt := 68) hx hb dX6_feed_127 (by decide) ?_
        exact hk_68 v1 v2 v3 v4 v5 v6 x15 σ14 _ _ _ h  hw (lv_sub hl [1, 2, 3, 4, 5, 6, 7, 0] rfl)
    · replace h := h.1 c4
      refine lv_iload_n hx hb dX6_feed_83 rfl (lv_at hl 2 rfl) ?_
      refine lv_goto (tgt := 121) hx hb dX6_feed_84 (by decide) ?_
      refine g_Vv (Y := YC) (ci := 4) (n := 1) (k := 0) (As := [.int v2]) (rest := []) rfl (by decide) vw_X6_83 ⟨Nat.le_of_ble_eq_true rfl, Nat.le_of_ble_eq_true rfl, Nat.zero_le _, Nat.zero_le _⟩ hc hw hl.1 (Nat.lt_of_lt_of_le (by decide) hM) rfl (m_X4_add l hM v2 σ h) rfl rfl (Nat.le_of_ble_eq_true rfl) dX6_feed_121 (fun σ16 H locs h hw => ?_)
      obtain ⟨x17, ex17⟩ : ∃ z, z = v7 + 1 := ⟨_, rfl⟩
      replace h := h x17 ex17
      refine lv_iinc (v := x17) (lv' := [(7, .int x17), (0, .ref (ad 0)), (1, .int v1), (2, .int v2), (3, .int v3), (4, .int v4), (5, .int v5), (6, .int v6)]) hx hb dX6_feed_124 hl (k := 7) rfl (by rw [ex17]; rfl) (by decide) rfl (fun ls hl => ?_)
      refine lv_goto (tgt := 68) hx hb dX6_feed_127 (by decide) ?_
      exact hk_68 v1 v2 v3 v4 v5 v6 x17 σ16 _ _ _ h  hw (lv_sub hl [1, 2, 3, 4, 5, 6, 7, 0] rfl)
def wl_X6_feed_68 (M : Nat) (post : Int32 → St → Prop) : Nat → Int32 → Int32 → Int32 → Int32 → Int32 → Int32 → Int32 → St → Prop
  | 0, _, _, _, _, _, _, _, _ => False
  | n + 1, v1, v2, v3, v4, v5, v6, v7, σ => w_X6_feed_68 M post (wl_X6_feed_68 M post n) v1 v2 v3 v4 v5 v6 v7 σ
set_option maxHeartbeats 4000000 in
theorem bl_X6_feed_68 {Γ : Gm} {ad : Nat → Nat} {p : Program} {l : Launch} {e : Env} {s : State} {m : MethodId} {args : Array Value} {below : List Frame} {meth : Method} {c : Code} {M : Nat} (hM : 53 ≤ M) {post : Int32 → St → Prop}
    (hc : CX Γ p s m args meth c cX6_feed RX6 8) (hr : meth.sig.returnType = (Option.some Jvm.ClassFile.FieldType.int)) :
    ∀ (n : Nat) (v1 : Int32) (v2 : Int32) (v3 : Int32) (v4 : Int32) (v5 : Int32) (v6 : Int32) (v7 : Int32) (σ : St) (H : Heap) (locs : List Loc) (ls : Array Slot), wl_X6_feed_68 M post n v1 v2 v3 v4 v5 v6 v7 σ → WH Γ YC M ad σ s H locs → lv_has ls 8 [(0, .ref (ad 0)), (1, .int v1), (2, .int v2), (3, .int v3), (4, .int v4), (5, .int v5), (6, .int v6), (7, .int v7)] → W p l e (rmL 1 0 0) s m args below meth c H locs 0 0 (MQ below (va_Qi post (fun u t => WC Γ YC M ad u t) (AA Γ)) args s 0 0 (AA Γ)) (F0 m 68 ls []) := by
  intro n
  induction n with
  | zero => intro v1 v2 v3 v4 v5 v6 v7 σ H locs ls h; exact h.elim
  | succ n ih =>
    intro v1 v2 v3 v4 v5 v6 v7 σ H locs ls h  hw hl
    exact b_X6_feed_68 hM ih v1 v2 v3 v4 v5 v6 v7 σ H locs ls h  hc hr hw hl
def w_X6_feed (M : Nat) (post : Int32 → St → Prop) (a1 : Int32) (a2 : Int32) (a3 : Int32) (a4 : Int32) (a5 : Int32) (a6 : Int32) (σ : St) : Prop :=
  (a1 < 1 → (post (-2) σ)) ∧ (¬ (a1 < 1) → ((5 < a1 → (post (-2) σ)) ∧ (¬ (5 < a1) → (w_X6_isByte M (fun r4 σ3 => ((r4 = 0 → (post (-2) σ3)) ∧ (¬ (r4 = 0) → (w_X6_isByte M (fun r7 σ6 => ((r7 = 0 → (post (-2) σ6)) ∧ (¬ (r7 = 0) → (w_X6_isByte M (fun r10 σ9 => ((r10 = 0 → (post (-2) σ9)) ∧ (¬ (r10 = 0) → (w_X6_isByte M (fun r13 σ12 => ((r13 = 0 → (post (-2) σ12)) ∧ (¬ (r13 = 0) → (w_X6_isByte M (fun r16 σ15 => ((r16 = 0 → (post (-2) σ15)) ∧ (¬ (r16 = 0) → (w_X4_hasRoom M (fun r19 σ18 => ((r19 = 0 → (post (-4) σ18)) ∧ (¬ (r19 = 0) → (∃ n, wl_X6_feed_68 M post n a1 a2 a3 a4 a5 a6 0 σ18)))) a1 σ15)))) a6 σ12)))) a5 σ9)))) a4 σ6)))) a3 σ3)))) a2 σ))))
set_option maxHeartbeats 4000000 in
set_option maxRecDepth 20000 in
theorem m_X6_feed {Γ : Gm} {ad : Nat → Nat} {M : Nat} (l : Launch) (hM : 53 ≤ M) {post : Int32 → St → Prop} (a1 : Int32) (a2 : Int32) (a3 : Int32) (a4 : Int32) (a5 : Int32) (a6 : Int32) (σ : St) (h : w_X6_feed M post a1 a2 a3 a4 a5 a6 σ) : Ci l Γ YC M ad σ yX6_feed cX6_feed 8 (Option.some Jvm.ClassFile.FieldType.int) 1 0 0 [.ref (ad 0), .int a1, .int a2, .int a3, .int a4, .int a5, .int a6] post := by
  refine g_start (by decide) (Nat.le_of_ble_eq_true rfl) ?_
  intro p e s m args below meth c ls hc hr hn hl hw
  have hc : CX Γ p s m args meth c cX6_feed RX6 8 := hc
  have hl : lv_has ls 8 [(0, .ref (ad 0)), (1, .int a1), (2, .int a2), (3, .int a3), (4, .int a4), (5, .int a5), (6, .int a6)] := hl
  have hx := hc.1
  have hb := hc.2.1
  unfold w_X6_feed at h
  generalize hHH : s.heap = H0 at hw ⊢
  refine lv_iload_n hx hb dX6_feed_0 rfl (lv_at hl 1 rfl) ?_
  refine lv_iconst (v := 1) hx hb dX6_feed_1 (by decide) ?_
  refine lv_icmp_lt (tgt := 48) hx hb dX6_feed_2 (by decide) (fun c1 => ?_) (fun c1 => ?_)
  · replace h := h.1 c1
    refine lv_bipush (v := (-2)) hx hb dX6_feed_48 (by decide) ?_
    exact g_iret hc hr hw h dX6_feed_50
  · replace h := h.2 c1
    refine lv_iload_n hx hb dX6_feed_5 rfl (lv_at hl 1 rfl) ?_
    refine lv_iconst (v := 5) hx hb dX6_feed_6 (by decide) ?_
    refine lv_icmp_gt (tgt := 48) hx hb dX6_feed_7 (by decide) (fun c2 => ?_) (fun c2 => ?_)
    · replace h := h.1 c2
      refine lv_bipush (v := (-2)) hx hb dX6_feed_48 (by decide) ?_
      exact g_iret hc hr hw h dX6_feed_50
    · replace h := h.2 c2
      refine lv_iload_n hx hb dX6_feed_10 rfl (lv_at hl 2 rfl) ?_
      refine g_Si (Y := YC) (n := 1) (k := 0) (As := [.int a2]) (rest := []) vw_X6_129 ⟨Nat.le_of_ble_eq_true rfl, Nat.le_of_ble_eq_true rfl, Nat.zero_le _, Nat.zero_le _⟩ hc hw hl.1 (m_X6_isByte l hM a2 σ h) rfl rfl (Nat.le_of_ble_eq_true rfl) dX6_feed_11 (fun r4 σ3 H locs h hw => ?_)
      refine lv_if_eq (tgt := 48) hx hb dX6_feed_14 (by decide) (fun c5 => ?_) (fun c5 => ?_)
      · replace h := h.1 c5
        refine lv_bipush (v := (-2)) hx hb dX6_feed_48 (by decide) ?_
        exact g_iret hc hr hw h dX6_feed_50
      · replace h := h.2 c5
        refine lv_iload_n hx hb dX6_feed_17 rfl (lv_at hl 3 rfl) ?_
        refine g_Si (Y := YC) (n := 1) (k := 0) (As := [.int a3]) (rest := []) vw_X6_129 ⟨Nat.le_of_ble_eq_true rfl, Nat.le_of_ble_eq_true rfl, Nat.zero_le _, Nat.zero_le _⟩ hc hw hl.1 (m_X6_isByte l hM a3 σ3 h) rfl rfl (Nat.le_of_ble_eq_true rfl) dX6_feed_18 (fun r7 σ6 H locs h hw => ?_)
        refine lv_if_eq (tgt := 48) hx hb dX6_feed_21 (by decide) (fun c8 => ?_) (fun c8 => ?_)
        · replace h := h.1 c8
          refine lv_bipush (v := (-2)) hx hb dX6_feed_48 (by decide) ?_
          exact g_iret hc hr hw h dX6_feed_50
        · replace h := h.2 c8
          refine lv_iload hx hb dX6_feed_24 (lv_at hl 4 rfl) ?_
          refine g_Si (Y := YC) (n := 1) (k := 0) (As := [.int a4]) (rest := []) vw_X6_129 ⟨Nat.le_of_ble_eq_true rfl, Nat.le_of_ble_eq_true rfl, Nat.zero_le _, Nat.zero_le _⟩ hc hw hl.1 (m_X6_isByte l hM a4 σ6 h) rfl rfl (Nat.le_of_ble_eq_true rfl) dX6_feed_26 (fun r10 σ9 H locs h hw => ?_)
          refine lv_if_eq (tgt := 48) hx hb dX6_feed_29 (by decide) (fun c11 => ?_) (fun c11 => ?_)
          · replace h := h.1 c11
            refine lv_bipush (v := (-2)) hx hb dX6_feed_48 (by decide) ?_
            exact g_iret hc hr hw h dX6_feed_50
          · replace h := h.2 c11
            refine lv_iload hx hb dX6_feed_32 (lv_at hl 5 rfl) ?_
            refine g_Si (Y := YC) (n := 1) (k := 0) (As := [.int a5]) (rest := []) vw_X6_129 ⟨Nat.le_of_ble_eq_true rfl, Nat.le_of_ble_eq_true rfl, Nat.zero_le _, Nat.zero_le _⟩ hc hw hl.1 (m_X6_isByte l hM a5 σ9 h) rfl rfl (Nat.le_of_ble_eq_true rfl) dX6_feed_34 (fun r13 σ12 H locs h hw => ?_)
            refine lv_if_eq (tgt := 48) hx hb dX6_feed_37 (by decide) (fun c14 => ?_) (fun c14 => ?_)
            · replace h := h.1 c14
              refine lv_bipush (v := (-2)) hx hb dX6_feed_48 (by decide) ?_
              exact g_iret hc hr hw h dX6_feed_50
            · replace h := h.2 c14
              refine lv_iload hx hb dX6_feed_40 (lv_at hl 6 rfl) ?_
              refine g_Si (Y := YC) (n := 1) (k := 0) (As := [.int a6]) (rest := []) vw_X6_129 ⟨Nat.le_of_ble_eq_true rfl, Nat.le_of_ble_eq_true rfl, Nat.zero_le _, Nat.zero_le _⟩ hc hw hl.1 (m_X6_isByte l hM a6 σ12 h) rfl rfl (Nat.le_of_ble_eq_true rfl) dX6_feed_42 (fun r16 σ15 H locs h hw => ?_)
              refine lv_if_ne (tgt := 51) hx hb dX6_feed_45 (by decide) (fun c17 => ?_) (fun c17 => ?_)
              · replace h := h.2 c17
                refine lv_aload_n hx hb dX6_feed_51 rfl (lv_at hl 0 rfl) ?_
                refine fg_X6_34 hc hw (Nat.lt_of_lt_of_le (by decide) hM) rfl dX6_feed_52 ?_
                refine lv_iload_n hx hb dX6_feed_55 rfl (lv_at hl 1 rfl) ?_
                refine g_Vi (Y := YC) (ci := 4) (n := 1) (k := 0) (As := [.int a1]) (rest := []) rfl (by decide) vw_X6_132 ⟨Nat.le_of_ble_eq_true rfl, Nat.le_of_ble_eq_true rfl, Nat.zero_le _, Nat.zero_le _⟩ hc hw hl.1 (Nat.lt_of_lt_of_le (by decide) hM) rfl (m_X4_hasRoom l hM a1 σ15 h) rfl rfl (Nat.le_of_ble_eq_true rfl) dX6_feed_56 (fun r19 σ18 H locs h hw => ?_)
                refine lv_if_ne (tgt := 65) hx hb dX6_feed_59 (by decide) (fun c20 => ?_) (fun c20 => ?_)
                · replace h := h.2 c20
                  refine lv_iconst (v := 0) hx hb dX6_feed_65 (by decide) ?_
                  refine lv_istore (lv' := [(7, .int 0), (0, .ref (ad 0)), (1, .int a1), (2, .int a2), (3, .int a3), (4, .int a4), (5, .int a5), (6, .int a6)]) hx hb dX6_feed_66 hl (by decide) rfl (fun ls hl => ?_)
                  obtain ⟨n, h⟩ := h
                  exact bl_X6_feed_68 hM hc hr n a1 a2 a3 a4 a5 a6 0 σ18 _ _ _ h  hw (lv_sub hl [1, 2, 3, 4, 5, 6, 7, 0] rfl)
                · replace h := h.1 c20
                  refine lv_bipush (v := (-4)) hx hb dX6_feed_62 (by decide) ?_
                  exact g_iret hc hr hw h dX6_feed_64
              · replace h := h.1 c17
                refine lv_bipush (v := (-2)) hx hb dX6_feed_48 (by decide) ?_
                exact g_iret hc hr hw h dX6_feed_50
def w_X6_act (M : Nat) (post : Int32 → St → Prop) (a1 : Int32) (a2 : Int32) (a3 : Int32) (σ : St) : Prop :=
  w_X0_fits M (fun r2 σ1 => ((r2 = 0 → (post (-2) σ1)) ∧ (¬ (r2 = 0) → (((gi σ1 0 3) < 12 → (∀ σ5 : St, σ5 = si σ1 0 3 ((gi σ1 0 3) + 1) → (w_X6_actAt M (fun q7 σ6 => ((q7 = none → (post ((gi σ6 0 3) - 1) σ6)) ∧ (∀ o8 : Nat, q7 = some o8 → ((kdC o8 = 0 ∧ o8 < M) ∧ (w_X0_become M (fun σ10 => (post ((gi σ10 0 3) - 1) σ10)) o8 a1 a2 a3 σ6))))) ((gi σ5 0 3) - 1) σ5))) ∧ (¬ ((gi σ1 0 3) < 12) → (post (-4) σ1)))))) a1 a2 a3 σ
set_option maxHeartbeats 4000000 in
set_option maxRecDepth 20000 in
theorem m_X6_act {Γ : Gm} {ad : Nat → Nat} {M : Nat} (l : Launch) (hM : 53 ≤ M) {post : Int32 → St → Prop} (a1 : Int32) (a2 : Int32) (a3 : Int32) (σ : St) (h : w_X6_act M post a1 a2 a3 σ) : Ci l Γ YC M ad σ yX6_act cX6_act 5 (Option.some Jvm.ClassFile.FieldType.int) 1 0 0 [.ref (ad 0), .int a1, .int a2, .int a3] post := by
  refine g_start (by decide) (Nat.le_of_ble_eq_true rfl) ?_
  intro p e s m args below meth c ls hc hr hn hl hw
  have hc : CX Γ p s m args meth c cX6_act RX6 5 := hc
  have hl : lv_has ls 5 [(0, .ref (ad 0)), (1, .int a1), (2, .int a2), (3, .int a3)] := hl
  have hx := hc.1
  have hb := hc.2.1
  unfold w_X6_act at h
  generalize hHH : s.heap = H0 at hw ⊢
  refine lv_iload_n hx hb dX6_act_0 rfl (lv_at hl 1 rfl) ?_
  refine lv_iload_n hx hb dX6_act_1 rfl (lv_at hl 2 rfl) ?_
  refine lv_iload_n hx hb dX6_act_2 rfl (lv_at hl 3 rfl) ?_
  refine g_Si (Y := YC) (n := 3) (k := 0) (As := [.int a1, .int a2, .int a3]) (rest := []) vw_X6_138 ⟨Nat.le_of_ble_eq_true rfl, Nat.le_of_ble_eq_true rfl, Nat.zero_le _, Nat.zero_le _⟩ hc hw hl.1 (m_X0_fits l hM a1 a2 a3 σ h) rfl rfl (Nat.le_of_ble_eq_true rfl) dX6_act_3 (fun r2 σ1 H locs h hw => ?_)
  refine lv_if_ne (tgt := 12) hx hb dX6_act_6 (by decide) (fun c3 => ?_) (fun c3 => ?_)
  · replace h := h.2 c3
    refine lv_aload_n hx hb dX6_act_12 rfl (lv_at hl 0 rfl) ?_
    refine fg_X6_120 hc hw (Nat.lt_of_lt_of_le (by decide) hM) rfl dX6_act_13 ?_
    refine lv_bipush (v := 12) hx hb dX6_act_16 (by decide) ?_
    refine lv_icmp_lt (tgt := 24) hx hb dX6_act_18 (by decide) (fun c4 => ?_) (fun c4 => ?_)
    · replace h := h.1 c4
      refine lv_aload_n hx hb dX6_act_24 rfl (lv_at hl 0 rfl) ?_
      refine lv_dup hx hb dX6_act_25 rfl ?_
      refine fg_X6_120 hc hw (Nat.lt_of_lt_of_le (by decide) hM) rfl dX6_act_26 ?_
      refine lv_iconst (v := 1) hx hb dX6_act_29 (by decide) ?_
      refine lv_iadd hx hb dX6_act_30 ?_
      refine fp_X6_120 (o := 0) hc hw (Nat.lt_of_lt_of_le (by decide) hM) rfl dX6_act_31 (fun σ5 H locs eσ5 hw => ?_)
      replace h := h σ5 eσ5
      refine lv_aload_n hx hb dX6_act_34 rfl (lv_at hl 0 rfl) ?_
      refine lv_aload_n hx hb dX6_act_35 rfl (lv_at hl 0 rfl) ?_
      refine fg_X6_120 hc hw (Nat.lt_of_lt_of_le (by decide) hM) rfl dX6_act_36 ?_
      refine lv_iconst (v := 1) hx hb dX6_act_39 (by decide) ?_
      refine lv_isub hx hb dX6_act_40 ?_
      refine g_Ve (Y := YC) (ci := 6) (n := 1) (k := 0) (As := [.int ((gi σ5 0 3) - 1)]) (rest := []) rfl (by decide) vw_X6_141 ⟨Nat.le_of_ble_eq_true rfl, Nat.le_of_ble_eq_true rfl, Nat.zero_le _, Nat.zero_le _⟩ hc hw hl.1 (Nat.lt_of_lt_of_le (by decide) hM) rfl (m_X6_actAt l hM ((gi σ5 0 3) - 1) σ5 h) rfl rfl (Nat.le_of_ble_eq_true rfl) dX6_act_41 (fun q7 σ6 H locs h hw => ?_)
      refine g_astoreqW (lv' := [(4, va_rf (Option.map ad q7)), (0, .ref (ad 0)), (1, .int a1), (2, .int a2), (3, .int a3)]) hx hb dX6_act_44 hl (by decide) rfl (fun ls hl => ?_)
      refine g_aloadqW hx hb dX6_act_46 (lv_at hl 0 rfl) ?_
      refine g_ifnull (tgt := 59) hx hb dX6_act_48 (by decide) (fun hn9 => ?_) (fun o8 hn9 => ?_)
      · replace h := h.1 hn9
        try rw [hn9] at hl
        try rw [hn9]
        have hl : lv_has ls 5 [(4, .null), (0, .ref (ad 0)), (1, .int a1), (2, .int a2), (3, .int a3)] := hl
        refine lv_aload_n hx hb dX6_act_59 rfl (lv_at hl 1 rfl) ?_
        refine fg_X6_120 hc hw (Nat.lt_of_lt_of_le (by decide) hM) rfl dX6_act_60 ?_
        refine lv_iconst (v := 1) hx hb dX6_act_63 (by decide) ?_
        refine lv_isub hx hb dX6_act_64 ?_
        exact g_iret hc hr hw h dX6_act_65
      · replace h := h.2 o8 hn9
        try rw [hn9] at hl
        try rw [hn9]
        have hf_o8 := h.1
        replace h := h.2
        have hl : lv_has ls 5 [(4, .ref (ad o8)), (0, .ref (ad 0)), (1, .int a1), (2, .int a2), (3, .int a3)] := hl
        refine lv_aload hx hb dX6_act_51 (lv_at hl 0 rfl) ?_
        refine lv_iload_n hx hb dX6_act_53 rfl (lv_at hl 2 rfl) ?_
        refine lv_iload_n hx hb dX6_act_54 rfl (lv_at hl 3 rfl) ?_
        refine lv_iload_n hx hb dX6_act_55 rfl (lv_at hl 4 rfl) ?_
        refine g_Vv (Y := YC) (ci := 0) (n := 3) (k := 0) (As := [.int a1, .int a2, .int a3]) (rest := []) rfl (by decide) vw_X6_145 ⟨Nat.le_of_ble_eq_true rfl, Nat.le_of_ble_eq_true rfl, Nat.zero_le _, Nat.zero_le _⟩ hc hw hl.1 hf_o8.2 hf_o8.1 (m_X0_become l hM o8 a1 a2 a3 σ6 h) rfl rfl (Nat.le_of_ble_eq_true rfl) dX6_act_56 (fun σ10 H locs h hw => ?_)
        refine lv_aload_n hx hb dX6_act_59 rfl (lv_at hl 1 rfl) ?_
        refine fg_X6_120 hc hw (Nat.lt_of_lt_of_le (by decide) hM) rfl dX6_act_60 ?_
        refine lv_iconst (v := 1) hx hb dX6_act_63 (by decide) ?_
        refine lv_isub hx hb dX6_act_64 ?_
        exact g_iret hc hr hw h dX6_act_65
    · replace h := h.2 c4
      refine lv_bipush (v := (-4)) hx hb dX6_act_21 (by decide) ?_
      exact g_iret hc hr hw h dX6_act_23
  · replace h := h.1 c3
    refine lv_bipush (v := (-2)) hx hb dX6_act_9 (by decide) ?_
    exact g_iret hc hr hw h dX6_act_11
def w_X6_actTold (M : Nat) (post : Int32 → St → Prop) (a1 : Int32) (a2 : Int32) (σ : St) : Prop :=
  w_X6_actAt M (fun q2 σ1 => ((q2 = none → (post (-5) σ1)) ∧ (∀ o3 : Nat, q2 = some o3 → ((kdC o3 = 0 ∧ o3 < M) ∧ ((a2 = 0 → (post (gi σ1 o3 0) σ1)) ∧ (¬ (a2 = 0) → ((a2 = 1 → (post (gi σ1 o3 1) σ1)) ∧ (¬ (a2 = 1) → ((a2 = 2 → (post (gi σ1 o3 2) σ1)) ∧ (¬ (a2 = 2) → ((a2 = 3 → (w_X0_minutesLong M (fun r10 σ9 => (post r10 σ9)) o3 σ1)) ∧ (¬ (a2 = 3) → ((a2 = 4 → (w_X0_isStirred M (fun r13 σ12 => ((r13 = 0 → (post 0 σ12)) ∧ (¬ (r13 = 0) → (post 1 σ12)))) o3 σ1)) ∧ (¬ (a2 = 4) → (post (-7) σ1))))))))))))))) a1 σ
set_option maxHeartbeats 4000000 in
set_option maxRecDepth 20000 in
theorem m_X6_actTold {Γ : Gm} {ad : Nat → Nat} {M : Nat} (l : Launch) (hM : 53 ≤ M) {post : Int32 → St → Prop} (a1 : Int32) (a2 : Int32) (σ : St) (h : w_X6_actTold M post a1 a2 σ) : Ci l Γ YC M ad σ yX6_actTold cX6_actTold 4 (Option.some Jvm.ClassFile.FieldType.int) 1 0 0 [.ref (ad 0), .int a1, .int a2] post := by
  refine g_start (by decide) (Nat.le_of_ble_eq_true rfl) ?_
  intro p e s m args below meth c ls hc hr hn hl hw
  have hc : CX Γ p s m args meth c cX6_actTold RX6 4 := hc
  have hl : lv_has ls 4 [(0, .ref (ad 0)), (1, .int a1), (2, .int a2)] := hl
  have hx := hc.1
  have hb := hc.2.1
  unfold w_X6_actTold at h
  generalize hHH : s.heap = H0 at hw ⊢
  refine lv_aload_n hx hb dX6_actTold_0 rfl (lv_at hl 0 rfl) ?_
  refine lv_iload_n hx hb dX6_actTold_1 rfl (lv_at hl 1 rfl) ?_
  refine g_Ve (Y := YC) (ci := 6) (n := 1) (k := 0) (As := [.int a1]) (rest := []) rfl (by decide) vw_X6_141 ⟨Nat.le_of_ble_eq_true rfl, Nat.le_of_ble_eq_true rfl, Nat.zero_le _, Nat.zero_le _⟩ hc hw hl.1 (Nat.lt_of_lt_of_le (by decide) hM) rfl (m_X6_actAt l hM a1 σ h) rfl rfl (Nat.le_of_ble_eq_true rfl) dX6_actTold_2 (fun q2 σ1 H locs h hw => ?_)
  refine g_astoreq (lv' := [(3, va_rf (Option.map ad q2)), (0, .ref (ad 0)), (1, .int a1), (2, .int a2)]) hx hb dX6_actTold_5 rfl hl (by decide) rfl (fun ls hl => ?_)
  refine g_aloadq hx hb dX6_actTold_6 rfl (lv_at hl 0 rfl) ?_
  refine g_ifnonnull (tgt := 13) hx hb dX6_actTold_7 (by decide) (fun o3 hn4 => ?_) (fun hn4 => ?_)
  · replace h := h.2 o3 hn4
    try rw [hn4] at hl
    try rw [hn4]
    have hf_o3 := h.1
    replace h := h.2
    have hl : lv_has ls 4 [(3, .ref (ad o3)), (0, .ref (ad 0)), (1, .int a1), (2, .int a2)] := hl
    refine lv_iload_n hx hb dX6_actTold_13 rfl (lv_at hl 3 rfl) ?_
    by_cases c5 : a2 = 0
    · replace h := h.1 c5
      refine lv_tableIn (off := 34) (tgt := 48) hx hb dX6_actTold_14 (by rw [c5]; decide) (by rw [c5]; decide) (by rw [c5]; rfl) (by decide) ?_
      refine lv_aload_n hx hb dX6_actTold_48 rfl (lv_at hl 0 rfl) ?_
      refine fg_X6_149 (o := o3) hc hw hf_o3.2 hf_o3.1 dX6_actTold_49 ?_
      exact g_iret hc hr hw h dX6_actTold_52
    replace h := h.2 c5
    by_cases c6 : a2 = 1
    · replace h := h.1 c6
      refine lv_tableIn (off := 39) (tgt := 53) hx hb dX6_actTold_14 (by rw [c6]; decide) (by rw [c6]; decide) (by rw [c6]; rfl) (by decide) ?_
      refine lv_aload_n hx hb dX6_actTold_53 rfl (lv_at hl 0 rfl) ?_
      refine fg_X6_152 (o := o3) hc hw hf_o3.2 hf_o3.1 dX6_actTold_54 ?_
      exact g_iret hc hr hw h dX6_actTold_57
    replace h := h.2 c6
    by_cases c7 : a2 = 2
    · replace h := h.1 c7
      refine lv_tableIn (off := 44) (tgt := 58) hx hb dX6_actTold_14 (by rw [c7]; decide) (by rw [c7]; decide) (by rw [c7]; rfl) (by decide) ?_
      refine lv_aload_n hx hb dX6_actTold_58 rfl (lv_at hl 0 rfl) ?_
      refine fg_X6_155 (o := o3) hc hw hf_o3.2 hf_o3.1 dX6_actTold_59 ?_
      exact g_iret hc hr hw h dX6_actTold_62
    replace h := h.2 c7
    by_cases c8 : a2 = 3
    · replace h := h.1 c8
      refine lv_tableIn (off := 49) (tgt := 63) hx hb dX6_actTold_14 (by rw [c8]; decide) (by rw [c8]; decide) (by rw [c8]; rfl) (by decide) ?_
      refine lv_aload_n hx hb dX6_actTold_63 rfl (lv_at hl 0 rfl) ?_
      refine g_Vi (Y := YC) (ci := 0) (n := 0) (k := 0) (As := []) (rest := []) rfl (by decide) vw_X6_158 ⟨Nat.le_of_ble_eq_true rfl, Nat.le_of_ble_eq_true rfl, Nat.zero_le _, Nat.zero_le _⟩ hc hw hl.1 hf_o3.2 hf_o3.1 (m_X0_minutesLong l hM o3 σ1 h) rfl rfl (Nat.le_of_ble_eq_true rfl) dX6_actTold_64 (fun r10 σ9 H locs h hw => ?_)
      exact g_iret hc hr hw h dX6_actTold_67
    replace h := h.2 c8
    by_cases c11 : a2 = 4
    · replace h := h.1 c11
      refine lv_tableIn (off := 54) (tgt := 68) hx hb dX6_actTold_14 (by rw [c11]; decide) (by rw [c11]; decide) (by rw [c11]; rfl) (by decide) ?_
      refine lv_aload_n hx hb dX6_actTold_68 rfl (lv_at hl 0 rfl) ?_
      refine g_Vi (Y := YC) (ci := 0) (n := 0) (k := 0) (As := []) (rest := []) rfl (by decide) vw_X6_161 ⟨Nat.le_of_ble_eq_true rfl, Nat.le_of_ble_eq_true rfl, Nat.zero_le _, Nat.zero_le _⟩ hc hw hl.1 hf_o3.2 hf_o3.1 (m_X0_isStirred l hM o3 σ1 h) rfl rfl (Nat.le_of_ble_eq_true rfl) dX6_actTold_69 (fun r13 σ12 H locs h hw => ?_)
      refine lv_if_eq (tgt := 79) hx hb dX6_actTold_72 (by decide) (fun c14 => ?_) (fun c14 => ?_)
      · replace h := h.1 c14
        refine lv_iconst (v := 0) hx hb dX6_actTold_79 (by decide) ?_
        exact g_iret hc hr hw h dX6_actTold_80
      · replace h := h.2 c14
        refine lv_iconst (v := 1) hx hb dX6_actTold_75 (by decide) ?_
        refine lv_goto (tgt := 80) hx hb dX6_actTold_76 (by decide) ?_
        exact g_iret hc hr hw h dX6_actTold_80
    replace h := h.2 c11
    refine lv_tableOut (tgt := 81) hx hb dX6_actTold_14 (by have zc5 := lv_neT (a := 0) c5 (by decide); have zc6 := lv_neT (a := 1) c6 (by decide); have zc7 := lv_neT (a := 2) c7 (by decide); have zc8 := lv_neT (a := 3) c8 (by decide); have zc11 := lv_neT (a := 4) c11 (by decide); omega) (by decide) ?_
    refine lv_bipush (v := (-7)) hx hb dX6_actTold_81 (by decide) ?_
    exact g_iret hc hr hw h dX6_actTold_83
  · replace h := h.1 hn4
    try rw [hn4] at hl
    try rw [hn4]
    have hl : lv_has ls 4 [(3, .null), (0, .ref (ad 0)), (1, .int a1), (2, .int a2)] := hl
    refine lv_bipush (v := (-5)) hx hb dX6_actTold_10 (by decide) ?_
    exact g_iret hc hr hw h dX6_actTold_12
def w_X6_sheet (M : Nat) (post : Int32 → St → Prop) (a1 : Int32) (a2 : Int32) (a3 : Int32) (σ : St) : Prop :=
  w_X6_sheetAt M (fun q2 σ1 => ((q2 = none → (post (-2) σ1)) ∧ (∀ o3 : Nat, q2 = some o3 → ((kdC o3 = 5 ∧ o3 < M) ∧ ((a2 < (-1) → (post (-2) σ1)) ∧ (¬ (a2 < (-1)) → ((a2 ≤ 2 → ((a2 = (-1) → (w_X5_become M (fun σ11 => (post 1 σ11)) o3 (-1) 0 σ1)) ∧ (¬ (a2 = (-1)) → ((a3 ≤ 40 → ((0 ≤ a3 → (w_X5_become M (fun σ10 => (post 1 σ10)) o3 a2 a3 σ1)) ∧ (¬ (0 ≤ a3) → (post (-14) σ1)))) ∧ (¬ (a3 ≤ 40) → (post (-2) σ1)))))) ∧ (¬ (a2 ≤ 2) → (post (-2) σ1))))))))) a1 σ
set_option maxHeartbeats 4000000 in
set_option maxRecDepth 20000 in
theorem m_X6_sheet {Γ : Gm} {ad : Nat → Nat} {M : Nat} (l : Launch) (hM : 53 ≤ M) {post : Int32 → St → Prop} (a1 : Int32) (a2 : Int32) (a3 : Int32) (σ : St) (h : w_X6_sheet M post a1 a2 a3 σ) : Ci l Γ YC M ad σ yX6_sheet cX6_sheet 5 (Option.some Jvm.ClassFile.FieldType.int) 1 0 0 [.ref (ad 0), .int a1, .int a2, .int a3] post := by
  refine g_start (by decide) (Nat.le_of_ble_eq_true rfl) ?_
  intro p e s m args below meth c ls hc hr hn hl hw
  have hc : CX Γ p s m args meth c cX6_sheet RX6 5 := hc
  have hl : lv_has ls 5 [(0, .ref (ad 0)), (1, .int a1), (2, .int a2), (3, .int a3)] := hl
  have hx := hc.1
  have hb := hc.2.1
  unfold w_X6_sheet at h
  generalize hHH : s.heap = H0 at hw ⊢
  refine lv_aload_n hx hb dX6_sheet_0 rfl (lv_at hl 0 rfl) ?_
  refine lv_iload_n hx hb dX6_sheet_1 rfl (lv_at hl 1 rfl) ?_
  refine g_Ve (Y := YC) (ci := 6) (n := 1) (k := 0) (As := [.int a1]) (rest := []) rfl (by decide) vw_X6_258 ⟨Nat.le_of_ble_eq_true rfl, Nat.le_of_ble_eq_true rfl, Nat.zero_le _, Nat.zero_le _⟩ hc hw hl.1 (Nat.lt_of_lt_of_le (by decide) hM) rfl (m_X6_sheetAt l hM a1 σ h) rfl rfl (Nat.le_of_ble_eq_true rfl) dX6_sheet_2 (fun q2 σ1 H locs h hw => ?_)
  refine g_astoreqW (lv' := [(4, va_rf (Option.map ad q2)), (0, .ref (ad 0)), (1, .int a1), (2, .int a2), (3, .int a3)]) hx hb dX6_sheet_5 hl (by decide) rfl (fun ls hl => ?_)
  refine g_aloadqW hx hb dX6_sheet_7 (lv_at hl 0 rfl) ?_
  refine g_ifnull (tgt := 22) hx hb dX6_sheet_9 (by decide) (fun hn4 => ?_) (fun o3 hn4 => ?_)
  · replace h := h.1 hn4
    try rw [hn4] at hl
    try rw [hn4]
    have hl : lv_has ls 5 [(4, .null), (0, .ref (ad 0)), (1, .int a1), (2, .int a2), (3, .int a3)] := hl
    refine lv_bipush (v := (-2)) hx hb dX6_sheet_22 (by decide) ?_
    exact g_iret hc hr hw h dX6_sheet_24
  · replace h := h.2 o3 hn4
    try rw [hn4] at hl
    try rw [hn4]
    have hf_o3 := h.1
    replace h := h.2
    have hl : lv_has ls 5 [(4, .ref (ad o3)), (0, .ref (ad 0)), (1, .int a1), (2, .int a2), (3, .int a3)] := hl
    refine lv_iload_n hx hb dX6_sheet_12 rfl (lv_at hl 3 rfl) ?_
    refine lv_iconst (v := (-1)) hx hb dX6_sheet_13 (by decide) ?_
    refine lv_icmp_lt (tgt := 22) hx hb dX6_sheet_14 (by decide) (fun c5 => ?_) (fun c5 => ?_)
    · replace h := h.1 c5
      refine lv_bipush (v := (-2)) hx hb dX6_sheet_22 (by decide) ?_
      exact g_iret hc hr hw h dX6_sheet_24
    · replace h := h.2 c5
      refine lv_iload_n hx hb dX6_sheet_17 rfl (lv_at hl 3 rfl) ?_
      refine lv_iconst (v := 2) hx hb dX6_sheet_18 (by decide) ?_
      refine lv_icmp_le (tgt := 25) hx hb dX6_sheet_19 (by decide) (fun c6 => ?_) (fun c6 => ?_)
      · replace h := h.1 c6
        refine lv_iload_n hx hb dX6_sheet_25 rfl (lv_at hl 3 rfl) ?_
        refine lv_iconst (v := (-1)) hx hb dX6_sheet_26 (by decide) ?_
        refine lv_icmp_ne (tgt := 39) hx hb dX6_sheet_27 (by decide) (fun c7 => ?_) (fun c7 => ?_)
        · replace h := h.2 c7
          refine lv_iload_n hx hb dX6_sheet_39 rfl (lv_at hl 4 rfl) ?_
          refine lv_bipush (v := 40) hx hb dX6_sheet_40 (by decide) ?_
          refine lv_icmp_le (tgt := 48) hx hb dX6_sheet_42 (by decide) (fun c8 => ?_) (fun c8 => ?_)
          · replace h := h.1 c8
            refine lv_iload_n hx hb dX6_sheet_48 rfl (lv_at hl 4 rfl) ?_
            refine lv_if_ge (tgt := 55) hx hb dX6_sheet_49 (by decide) (fun c9 => ?_) (fun c9 => ?_)
            · replace h := h.1 c9
              refine lv_aload hx hb dX6_sheet_55 (lv_at hl 0 rfl) ?_
              refine lv_iload_n hx hb dX6_sheet_57 rfl (lv_at hl 3 rfl) ?_
              refine lv_iload_n hx hb dX6_sheet_58 rfl (lv_at hl 4 rfl) ?_
              refine g_Vv (Y := YC) (ci := 5) (n := 2) (k := 0) (As := [.int a2, .int a3]) (rest := []) rfl (by decide) vw_X6_270 ⟨Nat.le_of_ble_eq_true rfl, Nat.le_of_ble_eq_true rfl, Nat.zero_le _, Nat.zero_le _⟩ hc hw hl.1 hf_o3.2 hf_o3.1 (m_X5_become l hM o3 a2 a3 σ1 h) rfl rfl (Nat.le_of_ble_eq_true rfl) dX6_sheet_59 (fun σ10 H locs h hw => ?_)
              refine lv_iconst (v := 1) hx hb dX6_sheet_62 (by decide) ?_
              exact g_iret hc hr hw h dX6_sheet_63
            · replace h := h.2 c9
              refine lv_bipush (v := (-14)) hx hb dX6_sheet_52 (by decide) ?_
              exact g_iret hc hr hw h dX6_sheet_54
          · replace h := h.2 c8
            refine lv_bipush (v := (-2)) hx hb dX6_sheet_45 (by decide) ?_
            exact g_iret hc hr hw h dX6_sheet_47
        · replace h := h.1 c7
          refine lv_aload hx hb dX6_sheet_30 (lv_at hl 0 rfl) ?_
          refine lv_iconst (v := (-1)) hx hb dX6_sheet_32 (by decide) ?_
          refine lv_iconst (v := 0) hx hb dX6_sheet_33 (by decide) ?_
          refine g_Vv (Y := YC) (ci := 5) (n := 2) (k := 0) (As := [.int (-1), .int 0]) (rest := []) rfl (by decide) vw_X6_270 ⟨Nat.le_of_ble_eq_true rfl, Nat.le_of_ble_eq_true rfl, Nat.zero_le _, Nat.zero_le _⟩ hc hw hl.1 hf_o3.2 hf_o3.1 (m_X5_become l hM o3 (-1) 0 σ1 h) rfl rfl (Nat.le_of_ble_eq_true rfl) dX6_sheet_34 (fun σ11 H locs h hw => ?_)
          refine lv_iconst (v := 1) hx hb dX6_sheet_37 (by decide) ?_
          exact g_iret hc hr hw h dX6_sheet_38
      · replace h := h.2 c6
        refine lv_bipush (v := (-2)) hx hb dX6_sheet_22 (by decide) ?_
        exact g_iret hc hr hw h dX6_sheet_24
def w_X6_copyCheeses_2 (M : Nat) (post : St → Prop) (k_2 : Nat → Nat → Int32 → Int32 → St → Prop) (v0 : Nat) (v1 : Nat) (v2 : Int32) (v3 : Int32) (σ : St) : Prop :=
  (v2 ≤ v3 → (post σ)) ∧ (¬ (v2 ≤ v3) → ((4 ≤ v3 → (post σ)) ∧ (¬ (4 ≤ v3) → ((4 ≤ v3 → (post σ)) ∧ (¬ (4 ≤ v3) → ((vp_in v3 4) ∧ (∀ q4 : Option Nat, q4 = rcC σ v0 v3.toNatClampNeg → ((q4 = none → (∀ x7 : Int32, x7 = v3 + 1 → (k_2 v0 v1 v2 x7 σ))) ∧ (∀ o5 : Nat, q4 = some o5 → ((kdC o5 = 1 ∧ o5 < M) ∧ ((vp_in v3 4) ∧ (∀ q8 : Option Nat, q8 = rcC σ v1 v3.toNatClampNeg → ((q8 = none → (∀ x11 : Int32, x11 = v3 + 1 → (k_2 v0 v1 v2 x11 σ))) ∧ (∀ o9 : Nat, q8 = some o9 → ((kdC o9 = 1 ∧ o9 < M) ∧ ((vp_in v3 4) ∧ (∀ q12 : Option Nat, q12 = rcC σ v1 v3.toNatClampNeg → ((vp_in v3 4) ∧ (∀ q13 : Option Nat, q13 = rcC σ v0 v3.toNatClampNeg → (∃ o14 : Nat, q12 = some o14 ∧ (kdC o14 = 1 ∧ o14 < M) ∧ (∃ o15 : Nat, q13 = some o15 ∧ (kdC o15 = 1 ∧ o15 < M) ∧ (w_X1_becomeLike M (fun σ16 => (∀ x17 : Int32, x17 = v3 + 1 → (k_2 v0 v1 v2 x17 σ16))) o14 o15 σ))))))))))))))))))))))
set_option maxHeartbeats 4000000 in
set_option maxRecDepth 20000 in
theorem b_X6_copyCheeses_2 {Γ : Gm} {ad : Nat → Nat} {p : Program} {l : Launch} {e : Env} {s : State} {m : MethodId} {args : Array Value} {below : List Frame} {meth : Method} {c : Code} {M : Nat} (hM : 53 ≤ M) {post : St → Prop} {k_2 : Nat → Nat → Int32 → Int32 → St → Prop} (hk_2 : ∀ (v0 : Nat) (v1 : Nat) (v2 : Int32) (v3 : Int32) (σ : St) (H : Heap) (locs : List Loc) (ls : Array Slot), k_2 v0 v1 v2 v3 σ → kdC v0 = 60 ∧ v0 < M → kdC v1 = 60 ∧ v1 < M → WH Γ YC M ad σ s H locs → lv_has ls 4 [(0, .ref (ad v0)), (1, .ref (ad v1)), (2, .int v2), (3, .int v3)] → W p l e (rmL 1 0 0) s m args below meth c H locs 0 0 (MQ below (va_Qv post (fun u t => WC Γ YC M ad u t) (AA Γ)) args s 0 0 (AA Γ)) (F0 m 2 ls []))
    (v0 : Nat) (v1 : Nat) (v2 : Int32) (v3 : Int32) (σ : St) (H : Heap) (locs : List Loc) (ls : Array Slot) (h : w_X6_copyCheeses_2 M post k_2 v0 v1 v2 v3 σ) (hf_v0 : kdC v0 = 60 ∧ v0 < M) (hf_v1 : kdC v1 = 60 ∧ v1 < M) (hc : CX Γ p s m args meth c cX6_copyCheeses RX6 4) (hr : meth.sig.returnType = none) (hw : WH Γ YC M ad σ s H locs) (hl : lv_has ls 4 [(0, .ref (ad v0)), (1, .ref (ad v1)), (2, .int v2), (3, .int v3)]) :
    W p l e (rmL 1 0 0) s m args below meth c H locs 0 0 (MQ below (va_Qv post (fun u t => WC Γ YC M ad u t) (AA Γ)) args s 0 0 (AA Γ)) (F0 m 2 ls []) := by
  have hx := hc.1
  have hb := hc.2.1
  unfold w_X6_copyCheeses_2 at h
  refine lv_iload_n hx hb dX6_copyCheeses_2 rfl (lv_at hl 3 rfl) ?_
  refine lv_iload_n hx hb dX6_copyCheeses_3 rfl (lv_at hl 2 rfl) ?_
  refine lv_icmp_ge (tgt := 46) hx hb dX6_copyCheeses_4 (by decide) (fun c1 => ?_) (fun c1 => ?_)
  · replace h := h.1 c1
    exact g_vret hc hr hw h dX6_copyCheeses_46
  · replace h := h.2 c1
    refine lv_iload_n hx hb dX6_copyCheeses_7 rfl (lv_at hl 3 rfl) ?_
    refine lv_aload_n hx hb dX6_copyCheeses_8 rfl (lv_at hl 0 rfl) ?_
    refine g_alenq (Y := YC) (kd := 60) (v := 4) (o := v0) (by decide) rfl hc hw hf_v0.2 hf_v0.1 rfl dX6_copyCheeses_9 ?_
    refine lv_icmp_ge (tgt := 46) hx hb dX6_copyCheeses_10 (by decide) (fun c2 => ?_) (fun c2 => ?_)
    · replace h := h.1 c2
      exact g_vret hc hr hw h dX6_copyCheeses_46
    · replace h := h.2 c2
      refine lv_iload_n hx hb dX6_copyCheeses_13 rfl (lv_at hl 3 rfl) ?_
      refine lv_aload_n hx hb dX6_copyCheeses_14 rfl (lv_at hl 1 rfl) ?_
      refine g_alenq (Y := YC) (kd := 60) (v := 4) (o := v1) (by decide) rfl hc hw hf_v1.2 hf_v1.1 rfl dX6_copyCheeses_15 ?_
      refine lv_icmp_ge (tgt := 46) hx hb dX6_copyCheeses_16 (by decide) (fun c3 => ?_) (fun c3 => ?_)
      · replace h := h.1 c3
        exact g_vret hc hr hw h dX6_copyCheeses_46
      · replace h := h.2 c3
        refine lv_aload_n hx hb dX6_copyCheeses_19 rfl (lv_at hl 0 rfl) ?_
        refine lv_iload_n hx hb dX6_copyCheeses_20 rfl (lv_at hl 3 rfl) ?_
        refine g_aaldK (Y := YC) (kd := 60) (n := 4) (k := v3.toNatClampNeg) (o := v0) (r := rcC σ v0 v3.toNatClampNeg) (by decide) rfl hc hw hf_v0.2 hf_v0.1 rfl h.1 rfl rfl dX6_copyCheeses_21 ?_
        replace h := h.2
        obtain ⟨q4, eq4⟩ : ∃ z, z = rcC σ v0 v3.toNatClampNeg := ⟨_, rfl⟩
        rw [← eq4]
        replace h := h q4 eq4
        refine g_ifnull (tgt := 40) hx hb dX6_copyCheeses_22 (by decide) (fun hn6 => ?_) (fun o5 hn6 => ?_)
        · replace h := h.1 hn6
          try rw [hn6] at hl
          try rw [hn6]
          have hl : lv_has ls 4 [(0, .ref (ad v0)), (1, .ref (ad v1)), (2, .int v2), (3, .int v3)] := hl
          obtain ⟨x7, ex7⟩ : ∃ z, z = v3 + 1 := ⟨_, rfl⟩
          replace h := h x7 ex7
          refine lv_iinc (v := x7) (lv' := [(3, .int x7), (0, .ref (ad v0)), (1, .ref (ad v1)), (2, .int v2)]) hx hb dX6_copyCheeses_40 hl (k := 3) rfl (by rw [ex7]; rfl) (by decide) rfl (fun ls hl => ?_)
          refine lv_goto (tgt := 2) hx hb dX6_copyCheeses_43 (by decide) ?_
          exact hk_2 v0 v1 v2 x7 σ _ _ _ h ⟨hf_v0.1, hf_v0.2⟩ ⟨hf_v1.1, hf_v1.2⟩ hw (lv_sub hl [1, 2, 3, 0] rfl)
        · replace h := h.2 o5 hn6
          try rw [hn6] at hl
          try rw [hn6]
          have hf_o5 := h.1
          replace h := h.2
          have hl : lv_has ls 4 [(0, .ref (ad v0)), (1, .ref (ad v1)), (2, .int v2), (3, .int v3)] := hl
          refine lv_aload_n hx hb dX6_copyCheeses_25 rfl (lv_at hl 1 rfl) ?_
          refine lv_iload_n hx hb dX6_copyCheeses_26 rfl (lv_at hl 3 rfl) ?_
          refine g_aaldK (Y := YC) (kd := 60) (n := 4) (k := v3.toNatClampNeg) (o := v1) (r := rcC σ v1 v3.toNatClampNeg) (by decide) rfl hc hw hf_v1.2 hf_v1.1 rfl h.1 rfl rfl dX6_copyCheeses_27 ?_
          replace h := h.2
          obtain ⟨q8, eq8⟩ : ∃ z, z = rcC σ v1 v3.toNatClampNeg := ⟨_, rfl⟩
          rw [← eq8]
          replace h := h q8 eq8
          refine g_ifnull (tgt := 40) hx hb dX6_copyCheeses_28 (by decide) (fun hn10 => ?_) (fun o9 hn10 => ?_)
          · replace h := h.1 hn10
            try rw [hn10] at hl
            try rw [hn10]
            have hl : lv_has ls 4 [(0, .ref (ad v0)), (1, .ref (ad v1)), (2, .int v2), (3, .int v3)] := hl
            obtain ⟨x11, ex11⟩ : ∃ z, z = v3 + 1 := ⟨_, rfl⟩
            replace h := h x11 ex11
            refine lv_iinc (v := x11) (lv' := [(3, .int x11), (0, .ref (ad v0)), (1, .ref (ad v1)), (2, .int v2)]) hx hb dX6_copyCheeses_40 hl (k := 3) rfl (by rw [ex11]; rfl) (by decide) rfl (fun ls hl => ?_)
            refine lv_goto (tgt := 2) hx hb dX6_copyCheeses_43 (by decide) ?_
            exact hk_2 v0 v1 v2 x11 σ _ _ _ h ⟨hf_v0.1, hf_v0.2⟩ ⟨hf_v1.1, hf_v1.2⟩ hw (lv_sub hl [1, 2, 3, 0] rfl)
          · replace h := h.2 o9 hn10
            try rw [hn10] at hl
            try rw [hn10]
            have hf_o9 := h.1
            replace h := h.2
            have hl : lv_has ls 4 [(0, .ref (ad v0)), (1, .ref (ad v1)), (2, .int v2), (3, .int v3)] := hl
            refine lv_aload_n hx hb dX6_copyCheeses_31 rfl (lv_at hl 1 rfl) ?_
            refine lv_iload_n hx hb dX6_copyCheeses_32 rfl (lv_at hl 3 rfl) ?_
            refine g_aaldK (Y := YC) (kd := 60) (n := 4) (k := v3.toNatClampNeg) (o := v1) (r := rcC σ v1 v3.toNatClampNeg) (by decide) rfl hc hw hf_v1.2 hf_v1.1 rfl h.1 rfl rfl dX6_copyCheeses_33 ?_
            replace h := h.2
            obtain ⟨q12, eq12⟩ : ∃ z, z = rcC σ v1 v3.toNatClampNeg := ⟨_, rfl⟩
            rw [← eq12]
            replace h := h q12 eq12
            refine lv_aload_n hx hb dX6_copyCheeses_34 rfl (lv_at hl 0 rfl) ?_
            refine lv_iload_n hx hb dX6_copyCheeses_35 rfl (lv_at hl 3 rfl) ?_
            refine g_aaldK (Y := YC) (kd := 60) (n := 4) (k := v3.toNatClampNeg) (o := v0) (r := rcC σ v0 v3.toNatClampNeg) (by decide) rfl hc hw hf_v0.2 hf_v0.1 rfl h.1 rfl rfl dX6_copyCheeses_36 ?_
            replace h := h.2
            obtain ⟨q13, eq13⟩ : ∃ z, z = rcC σ v0 v3.toNatClampNeg := ⟨_, rfl⟩
            rw [← eq13]
            replace h := h q13 eq13
            obtain ⟨o14, ho_o14, hf_o14, h⟩ := h
            try rw [ho_o14] at hl
            try rw [ho_o14]
            have hl : lv_has ls 4 [(0, .ref (ad v0)), (1, .ref (ad v1)), (2, .int v2), (3, .int v3)] := hl
            obtain ⟨o15, ho_o15, hf_o15, h⟩ := h
            try rw [ho_o15] at hl
            try rw [ho_o15]
            have hl : lv_has ls 4 [(0, .ref (ad v0)), (1, .ref (ad v1)), (2, .int v2), (3, .int v3)] := hl
            refine g_Vv (Y := YC) (ci := 1) (n := 1) (k := 0) (As := [.ref (ad o15)]) (rest := []) rfl (by decide) vw_X6_316 ⟨Nat.le_of_ble_eq_true rfl, Nat.le_of_ble_eq_true rfl, Nat.zero_le _, Nat.zero_le _⟩ hc hw hl.1 hf_o14.2 hf_o14.1 (m_X1_becomeLike l hM o14 o15 σ h) rfl rfl (Nat.le_of_ble_eq_true rfl) dX6_copyCheeses_37 (fun σ16 H locs h hw => ?_)
            obtain ⟨x17, ex17⟩ : ∃ z, z = v3 + 1 := ⟨_, rfl⟩
            replace h := h x17 ex17
            refine lv_iinc (v := x17) (lv' := [(3, .int x17), (0, .ref (ad v0)), (1, .ref (ad v1)), (2, .int v2)]) hx hb dX6_copyCheeses_40 hl (k := 3) rfl (by rw [ex17]; rfl) (by decide) rfl (fun ls hl => ?_)
            refine lv_goto (tgt := 2) hx hb dX6_copyCheeses_43 (by decide) ?_
            exact hk_2 v0 v1 v2 x17 σ16 _ _ _ h ⟨hf_v0.1, hf_v0.2⟩ ⟨hf_v1.1, hf_v1.2⟩ hw (lv_sub hl [1, 2, 3, 0] rfl)
def wl_X6_copyCheeses_2 (M : Nat) (post : St → Prop) : Nat → Nat → Nat → Int32 → Int32 → St → Prop
  | 0, _, _, _, _, _ => False
  | n + 1, v0, v1, v2, v3, σ => w_X6_copyCheeses_2 M post (wl_X6_copyCheeses_2 M post n) v0 v1 v2 v3 σ
set_option maxHeartbeats 4000000 in
theorem bl_X6_copyCheeses_2 {Γ : Gm} {ad : Nat → Nat} {p : Program} {l : Launch} {e : Env} {s : State} {m : MethodId} {args : Array Value} {below : List Frame} {meth : Method} {c : Code} {M : Nat} (hM : 53 ≤ M) {post : St → Prop}
    (hc : CX Γ p s m args meth c cX6_copyCheeses RX6 4) (hr : meth.sig.returnType = none) :
    ∀ (n : Nat) (v0 : Nat) (v1 : Nat) (v2 : Int32) (v3 : Int32) (σ : St) (H : Heap) (locs : List Loc) (ls : Array Slot), wl_X6_copyCheeses_2 M post n v0 v1 v2 v3 σ → kdC v0 = 60 ∧ v0 < M → kdC v1 = 60 ∧ v1 < M → WH Γ YC M ad σ s H locs → lv_has ls 4 [(0, .ref (ad v0)), (1, .ref (ad v1)), (2, .int v2), (3, .int v3)] → W p l e (rmL 1 0 0) s m args below meth c H locs 0 0 (MQ below (va_Qv post (fun u t => WC Γ YC M ad u t) (AA Γ)) args s 0 0 (AA Γ)) (F0 m 2 ls []) := by
  intro n
  induction n with
  | zero => intro v0 v1 v2 v3 σ H locs ls h; exact h.elim
  | succ n ih =>
    intro v0 v1 v2 v3 σ H locs ls h hf_v0 hf_v1 hw hl
    exact b_X6_copyCheeses_2 hM ih v0 v1 v2 v3 σ H locs ls h hf_v0 hf_v1 hc hr hw hl
def w_X6_copyCheeses (M : Nat) (post : St → Prop) (a1 : Nat) (a2 : Nat) (a3 : Int32) (σ : St) : Prop :=
  (kdC a1 = 60 ∧ a1 < M) ∧ ((kdC a2 = 60 ∧ a2 < M) ∧ (∃ n, wl_X6_copyCheeses_2 M post n a1 a2 a3 0 σ))
set_option maxHeartbeats 4000000 in
set_option maxRecDepth 20000 in
theorem m_X6_copyCheeses {Γ : Gm} {ad : Nat → Nat} {M : Nat} (l : Launch) (hM : 53 ≤ M) {post : St → Prop} (a1 : Nat) (a2 : Nat) (a3 : Int32) (σ : St) (h : w_X6_copyCheeses M post a1 a2 a3 σ) : Cv l Γ YC M ad σ yX6_copyCheeses cX6_copyCheeses 4 none 1 0 0 [.ref (ad a1), .ref (ad a2), .int a3] post := by
  refine g_start (by decide) (Nat.le_of_ble_eq_true rfl) ?_
  intro p e s m args below meth c ls hc hr hn hl hw
  have hc : CX Γ p s m args meth c cX6_copyCheeses RX6 4 := hc
  have hl : lv_has ls 4 [(0, .ref (ad a1)), (1, .ref (ad a2)), (2, .int a3)] := hl
  have hx := hc.1
  have hb := hc.2.1
  unfold w_X6_copyCheeses at h
  have hf_a1 := h.1
  replace h := h.2
  have hf_a2 := h.1
  replace h := h.2
  generalize hHH : s.heap = H0 at hw ⊢
  refine lv_iconst (v := 0) hx hb dX6_copyCheeses_0 (by decide) ?_
  refine lv_istore_n (lv' := [(3, .int 0), (0, .ref (ad a1)), (1, .ref (ad a2)), (2, .int a3)]) hx hb dX6_copyCheeses_1 rfl hl (by decide) rfl (fun ls hl => ?_)
  obtain ⟨n, h⟩ := h
  exact bl_X6_copyCheeses_2 hM hc hr n a1 a2 a3 0 σ _ _ _ h ⟨hf_a1.1, hf_a1.2⟩ ⟨hf_a2.1, hf_a2.2⟩ hw (lv_sub hl [1, 2, 3, 0] rfl)
def w_X6_beginPot (M : Nat) (post : St → Prop)  (σ : St) : Prop :=
  w_X6_lawAt M (fun q2 σ1 => (w_X3_begin M (fun σ3 => (post σ3)) 12 (gi σ 4 0) (gi σ 4 1) (gi σ 4 2) q2 σ1)) (gi σ 0 6) σ
set_option maxHeartbeats 4000000 in
set_option maxRecDepth 20000 in
theorem m_X6_beginPot {Γ : Gm} {ad : Nat → Nat} {M : Nat} (l : Launch) (hM : 53 ≤ M) {post : St → Prop}  (σ : St) (h : w_X6_beginPot M post  σ) : Cv l Γ YC M ad σ yX6_beginPot cX6_beginPot 1 none 1 0 0 [.ref (ad 0)] post := by
  refine g_start (by decide) (Nat.le_of_ble_eq_true rfl) ?_
  intro p e s m args below meth c ls hc hr hn hl hw
  have hc : CX Γ p s m args meth c cX6_beginPot RX6 1 := hc
  have hl : lv_has ls 1 [(0, .ref (ad 0))] := hl
  have hx := hc.1
  have hb := hc.2.1
  unfold w_X6_beginPot at h
  generalize hHH : s.heap = H0 at hw ⊢
  refine lv_aload_n hx hb dX6_beginPot_0 rfl (lv_at hl 0 rfl) ?_
  refine fg_X6_57 hc hw (Nat.lt_of_lt_of_le (by decide) hM) rfl dX6_beginPot_1 ?_
  refine lv_aload_n hx hb dX6_beginPot_4 rfl (lv_at hl 0 rfl) ?_
  refine fg_X6_27 hc hw (Nat.lt_of_lt_of_le (by decide) hM) rfl dX6_beginPot_5 ?_
  refine lv_iconst (v := 0) hx hb dX6_beginPot_8 (by decide) ?_
  refine g_ialdK (Y := YC) (kd := 21) (n := 3) (k := 0) (o := 4) (by decide) (by decide) rfl hc hw (Nat.lt_of_lt_of_le (by decide) hM) rfl rfl (vp_in_lit (by decide)) (by decide) dX6_beginPot_9 ?_
  refine lv_aload_n hx hb dX6_beginPot_10 rfl (lv_at hl 0 rfl) ?_
  refine fg_X6_27 hc hw (Nat.lt_of_lt_of_le (by decide) hM) rfl dX6_beginPot_11 ?_
  refine lv_iconst (v := 1) hx hb dX6_beginPot_14 (by decide) ?_
  refine g_ialdK (Y := YC) (kd := 21) (n := 3) (k := 1) (o := 4) (by decide) (by decide) rfl hc hw (Nat.lt_of_lt_of_le (by decide) hM) rfl rfl (vp_in_lit (by decide)) (by decide) dX6_beginPot_15 ?_
  refine lv_aload_n hx hb dX6_beginPot_16 rfl (lv_at hl 0 rfl) ?_
  refine fg_X6_27 hc hw (Nat.lt_of_lt_of_le (by decide) hM) rfl dX6_beginPot_17 ?_
  refine lv_iconst (v := 2) hx hb dX6_beginPot_20 (by decide) ?_
  refine g_ialdK (Y := YC) (kd := 21) (n := 3) (k := 2) (o := 4) (by decide) (by decide) rfl hc hw (Nat.lt_of_lt_of_le (by decide) hM) rfl rfl (vp_in_lit (by decide)) (by decide) dX6_beginPot_21 ?_
  refine lv_aload_n hx hb dX6_beginPot_22 rfl (lv_at hl 0 rfl) ?_
  refine lv_aload_n hx hb dX6_beginPot_23 rfl (lv_at hl 0 rfl) ?_
  refine fg_X6_123 hc hw (Nat.lt_of_lt_of_le (by decide) hM) rfl dX6_beginPot_24 ?_
  refine g_Ve (Y := YC) (ci := 6) (n := 1) (k := 0) (As := [.int (gi σ 0 6)]) (rest := [.int (gi σ 4 2), .int (gi σ 4 1), .int (gi σ 4 0), .ref (ad 12)]) rfl (by decide) vw_X6_319 ⟨Nat.le_of_ble_eq_true rfl, Nat.le_of_ble_eq_true rfl, Nat.zero_le _, Nat.zero_le _⟩ hc hw hl.1 (Nat.lt_of_lt_of_le (by decide) hM) rfl (m_X6_lawAt l hM (gi σ 0 6) σ h) rfl rfl (Nat.le_of_ble_eq_true rfl) dX6_beginPot_27 (fun q2 σ1 H locs h hw => ?_)
  refine g_Vv (Y := YC) (ci := 3) (n := 4) (k := 0) (As := [.int (gi σ 4 0), .int (gi σ 4 1), .int (gi σ 4 2), va_rf (Option.map ad q2)]) (rest := []) rfl (by decide) vw_X6_323 ⟨Nat.le_of_ble_eq_true rfl, Nat.le_of_ble_eq_true rfl, Nat.zero_le _, Nat.zero_le _⟩ hc hw hl.1 (Nat.lt_of_lt_of_le (by decide) hM) rfl (m_X3_begin l hM 12 (gi σ 4 0) (gi σ 4 1) (gi σ 4 2) q2 σ1 h) rfl rfl (Nat.le_of_ble_eq_true rfl) dX6_beginPot_30 (fun σ3 H locs h hw => ?_)
  exact g_vret hc hr hw h dX6_beginPot_33
def w_X6_refusedAsTest (M : Nat) (post : Int32 → St → Prop) (a1 : Option Nat) (σ : St) : Prop :=
  (a1 = none → (post (-2) σ)) ∧ (∀ o1 : Nat, a1 = some o1 → ((kdC o1 = 5 ∧ o1 < M) ∧ (w_X5_isMissing M (fun r4 σ3 => ((r4 = 0 → (((gi σ3 o1 2) = (gi σ3 0 3) → (post 0 σ3)) ∧ (¬ ((gi σ3 o1 2) = (gi σ3 0 3)) → (post (-2) σ3)))) ∧ (¬ (r4 = 0) → (post (-11) σ3)))) o1 σ)))
set_option maxHeartbeats 4000000 in
set_option maxRecDepth 20000 in
theorem m_X6_refusedAsTest {Γ : Gm} {ad : Nat → Nat} {M : Nat} (l : Launch) (hM : 53 ≤ M) {post : Int32 → St → Prop} (a1 : Option Nat) (σ : St) (h : w_X6_refusedAsTest M post a1 σ) : Ci l Γ YC M ad σ yX6_refusedAsTest cX6_refusedAsTest 2 (Option.some Jvm.ClassFile.FieldType.int) 1 0 0 [.ref (ad 0), va_rf (Option.map ad a1)] post := by
  refine g_start (by decide) (by cases a1 <;> exact Nat.le_of_ble_eq_true rfl) ?_
  intro p e s m args below meth c ls hc hr hn hl hw
  have hc : CX Γ p s m args meth c cX6_refusedAsTest RX6 2 := hc
  have hl : lv_has ls 2 [(0, .ref (ad 0)), (1, va_rf (Option.map ad a1))] := hl
  have hx := hc.1
  have hb := hc.2.1
  unfold w_X6_refusedAsTest at h
  generalize hHH : s.heap = H0 at hw ⊢
  refine g_aloadq hx hb dX6_refusedAsTest_0 rfl (lv_at hl 1 rfl) ?_
  refine g_ifnonnull (tgt := 7) hx hb dX6_refusedAsTest_1 (by decide) (fun o1 hn2 => ?_) (fun hn2 => ?_)
  · replace h := h.2 o1 hn2
    try rw [hn2] at hl
    try rw [hn2]
    have hf_o1 := h.1
    replace h := h.2
    have hl : lv_has ls 2 [(0, .ref (ad 0)), (1, .ref (ad o1))] := hl
    refine lv_aload_n hx hb dX6_refusedAsTest_7 rfl (lv_at hl 1 rfl) ?_
    refine g_Vi (Y := YC) (ci := 5) (n := 0) (k := 0) (As := []) (rest := []) rfl (by decide) vw_X6_297 ⟨Nat.le_of_ble_eq_true rfl, Nat.le_of_ble_eq_true rfl, Nat.zero_le _, Nat.zero_le _⟩ hc hw hl.1 hf_o1.2 hf_o1.1 (m_X5_isMissing l hM o1 σ h) rfl rfl (Nat.le_of_ble_eq_true rfl) dX6_refusedAsTest_8 (fun r4 σ3 H locs h hw => ?_)
    refine lv_if_eq (tgt := 17) hx hb dX6_refusedAsTest_11 (by decide) (fun c5 => ?_) (fun c5 => ?_)
    · replace h := h.1 c5
      refine lv_aload_n hx hb dX6_refusedAsTest_17 rfl (lv_at hl 1 rfl) ?_
      refine fg_X6_330 (o := o1) hc hw hf_o1.2 hf_o1.1 dX6_refusedAsTest_18 ?_
      refine lv_aload_n hx hb dX6_refusedAsTest_21 rfl (lv_at hl 0 rfl) ?_
      refine fg_X6_120 hc hw (Nat.lt_of_lt_of_le (by decide) hM) rfl dX6_refusedAsTest_22 ?_
      refine lv_icmp_ne (tgt := 32) hx hb dX6_refusedAsTest_25 (by decide) (fun c6 => ?_) (fun c6 => ?_)
      · replace h := h.2 c6
        refine lv_bipush (v := (-2)) hx hb dX6_refusedAsTest_32 (by decide) ?_
        exact g_iret hc hr hw h dX6_refusedAsTest_34
      · replace h := h.1 c6
        refine lv_iconst (v := 0) hx hb dX6_refusedAsTest_28 (by decide) ?_
        refine lv_goto (tgt := 34) hx hb dX6_refusedAsTest_29 (by decide) ?_
        exact g_iret hc hr hw h dX6_refusedAsTest_34
    · replace h := h.2 c5
      refine lv_bipush (v := (-11)) hx hb dX6_refusedAsTest_14 (by decide) ?_
      exact g_iret hc hr hw h dX6_refusedAsTest_16
  · replace h := h.1 hn2
    try rw [hn2] at hl
    try rw [hn2]
    have hl : lv_has ls 2 [(0, .ref (ad 0)), (1, .null)] := hl
    refine lv_bipush (v := (-2)) hx hb dX6_refusedAsTest_4 (by decide) ?_
    exact g_iret hc hr hw h dX6_refusedAsTest_6
def w_X6_cheese_47 (M : Nat) (post : Int32 → St → Prop) (v1 : Int32) (v2 : Int32) (v3 : Int32) (v4 : Int32) (v5 : Int32) (t0 : Int32) (σ : St) : Prop :=
  (t0 = 0 → (post (-2) σ)) ∧ (¬ (t0 = 0) → (((gi σ 0 1) < 4 → (∀ σ3 : St, σ3 = si σ 0 1 ((gi σ 0 1) + 1) → (w_X6_cheeseAt M (fun q5 σ4 => ((q5 = none → (post ((gi σ4 0 1) - 1) σ4)) ∧ (∀ o6 : Nat, q5 = some o6 → ((kdC o6 = 1 ∧ o6 < M) ∧ (w_X1_put M (fun σ8 => (w_X1_put M (fun σ9 => (w_X1_put M (fun σ10 => (w_X1_put M (fun σ11 => (w_X1_put M (fun σ12 => (post ((gi σ12 0 1) - 1) σ12)) o6 4 v5 σ11)) o6 3 v4 σ10)) o6 2 v3 σ9)) o6 1 v2 σ8)) o6 0 v1 σ4))))) ((gi σ3 0 1) - 1) σ3))) ∧ (¬ ((gi σ 0 1) < 4) → (post (-4) σ))))
set_option maxHeartbeats 4000000 in
set_option maxRecDepth 20000 in
theorem b_X6_cheese_47 {Γ : Gm} {ad : Nat → Nat} {p : Program} {l : Launch} {e : Env} {s : State} {m : MethodId} {args : Array Value} {below : List Frame} {meth : Method} {c : Code} {M : Nat} (hM : 53 ≤ M) {post : Int32 → St → Prop}
    (v1 : Int32) (v2 : Int32) (v3 : Int32) (v4 : Int32) (v5 : Int32) (t0 : Int32) (σ : St) (H : Heap) (locs : List Loc) (ls : Array Slot) (h : w_X6_cheese_47 M post v1 v2 v3 v4 v5 t0 σ) (hc : CX Γ p s m args meth c cX6_cheese RX6 8) (hr : meth.sig.returnType = (Option.some Jvm.ClassFile.FieldType.int)) (hw : WH Γ YC M ad σ s H locs) (hl : lv_has ls 8 [(0, .ref (ad 0)), (1, .int v1), (2, .int v2), (3, .int v3), (4, .int v4), (5, .int v5)]) :
    W p l e (rmL 2 0 0) s m args below meth c H locs 0 0 (MQ below (va_Qi post (fun u t => WC Γ YC M ad u t) (AA Γ)) args s 0 0 (AA Γ)) (F0 m 47 ls [.int t0]) := by
  have hx := hc.1
  have hb := hc.2.1
  unfold w_X6_cheese_47 at h
  refine lv_istore (lv' := [(6, .int t0), (0, .ref (ad 0)), (1, .int v1), (2, .int v2), (3, .int v3), (4, .int v4), (5, .int v5)]) hx hb dX6_cheese_47 hl (by decide) rfl (fun ls hl => ?_)
  refine lv_iload hx hb dX6_cheese_49 (lv_at hl 0 rfl) ?_
  refine lv_if_ne (tgt := 57) hx hb dX6_cheese_51 (by decide) (fun c1 => ?_) (fun c1 => ?_)
  · replace h := h.2 c1
    refine lv_aload_n hx hb dX6_cheese_57 rfl (lv_at hl 1 rfl) ?_
    refine fg_X6_98 hc hw (Nat.lt_of_lt_of_le (by decide) hM) rfl dX6_cheese_58 ?_
    refine lv_iconst (v := 4) hx hb dX6_cheese_61 (by decide) ?_
    refine lv_icmp_lt (tgt := 68) hx hb dX6_cheese_62 (by decide) (fun c2 => ?_) (fun c2 => ?_)
    · replace h := h.1 c2
      refine lv_aload_n hx hb dX6_cheese_68 rfl (lv_at hl 1 rfl) ?_
      refine lv_dup hx hb dX6_cheese_69 rfl ?_
      refine fg_X6_98 hc hw (Nat.lt_of_lt_of_le (by decide) hM) rfl dX6_cheese_70 ?_
      refine lv_iconst (v := 1) hx hb dX6_cheese_73 (by decide) ?_
      refine lv_iadd hx hb dX6_cheese_74 ?_
      refine fp_X6_98 (o := 0) hc hw (Nat.lt_of_lt_of_le (by decide) hM) rfl dX6_cheese_75 (fun σ3 H locs eσ3 hw => ?_)
      replace h := h σ3 eσ3
      refine lv_aload_n hx hb dX6_cheese_78 rfl (lv_at hl 1 rfl) ?_
      refine lv_aload_n hx hb dX6_cheese_79 rfl (lv_at hl 1 rfl) ?_
      refine fg_X6_98 hc hw (Nat.lt_of_lt_of_le (by decide) hM) rfl dX6_cheese_80 ?_
      refine lv_iconst (v := 1) hx hb dX6_cheese_83 (by decide) ?_
      refine lv_isub hx hb dX6_cheese_84 ?_
      refine g_Ve (Y := YC) (ci := 6) (n := 1) (k := 0) (As := [.int ((gi σ3 0 1) - 1)]) (rest := []) rfl (by decide) vw_X6_101 ⟨Nat.le_of_ble_eq_true rfl, Nat.le_of_ble_eq_true rfl, Nat.zero_le _, Nat.zero_le _⟩ hc hw hl.1 (Nat.lt_of_lt_of_le (by decide) hM) rfl (m_X6_cheeseAt l hM ((gi σ3 0 1) - 1) σ3 h) rfl rfl (Nat.le_of_ble_eq_true rfl) dX6_cheese_85 (fun q5 σ4 H locs h hw => ?_)
      refine g_astoreqW (lv' := [(7, va_rf (Option.map ad q5)), (6, .int t0), (0, .ref (ad 0)), (1, .int v1), (2, .int v2), (3, .int v3), (4, .int v4), (5, .int v5)]) hx hb dX6_cheese_88 hl (by decide) rfl (fun ls hl => ?_)
      refine g_aloadqW hx hb dX6_cheese_90 (lv_at hl 0 rfl) ?_
      refine g_ifnull (tgt := 132) hx hb dX6_cheese_92 (by decide) (fun hn7 => ?_) (fun o6 hn7 => ?_)
      · replace h := h.1 hn7
        try rw [hn7] at hl
        try rw [hn7]
        have hl : lv_has ls 8 [(7, .null), (6, .int t0), (0, .ref (ad 0)), (1, .int v1), (2, .int v2), (3, .int v3), (4, .int v4), (5, .int v5)] := hl
        refine lv_aload_n hx hb dX6_cheese_132 rfl (lv_at hl 2 rfl) ?_
        refine fg_X6_98 hc hw (Nat.lt_of_lt_of_le (by decide) hM) rfl dX6_cheese_133 ?_
        refine lv_iconst (v := 1) hx hb dX6_cheese_136 (by decide) ?_
        refine lv_isub hx hb dX6_cheese_137 ?_
        exact g_iret hc hr hw h dX6_cheese_138
      · replace h := h.2 o6 hn7
        try rw [hn7] at hl
        try rw [hn7]
        have hf_o6 := h.1
        replace h := h.2
        have hl : lv_has ls 8 [(7, .ref (ad o6)), (6, .int t0), (0, .ref (ad 0)), (1, .int v1), (2, .int v2), (3, .int v3), (4, .int v4), (5, .int v5)] := hl
        refine lv_aload hx hb dX6_cheese_95 (lv_at hl 0 rfl) ?_
        refine lv_iconst (v := 0) hx hb dX6_cheese_97 (by decide) ?_
        refine lv_iload_n hx hb dX6_cheese_98 rfl (lv_at hl 3 rfl) ?_
        refine g_Vv (Y := YC) (ci := 1) (n := 2) (k := 1) (As := [.int 0, .int v1]) (rest := []) rfl (by decide) vw_X6_105 ⟨Nat.le_of_ble_eq_true rfl, Nat.le_of_ble_eq_true rfl, Nat.zero_le _, Nat.zero_le _⟩ hc hw hl.1 hf_o6.2 hf_o6.1 (m_X1_put l hM o6 0 v1 σ4 h) rfl rfl (Nat.le_of_ble_eq_true rfl) dX6_cheese_99 (fun σ8 H locs h hw => ?_)
        refine lv_aload hx hb dX6_cheese_102 (lv_at hl 0 rfl) ?_
        refine lv_iconst (v := 1) hx hb dX6_cheese_104 (by decide) ?_
        refine lv_iload_n hx hb dX6_cheese_105 rfl (lv_at hl 4 rfl) ?_
        refine g_Vv (Y := YC) (ci := 1) (n := 2) (k := 1) (As := [.int 1, .int v2]) (rest := []) rfl (by decide) vw_X6_105 ⟨Nat.le_of_ble_eq_true rfl, Nat.le_of_ble_eq_true rfl, Nat.zero_le _, Nat.zero_le _⟩ hc hw hl.1 hf_o6.2 hf_o6.1 (m_X1_put l hM o6 1 v2 σ8 h) rfl rfl (Nat.le_of_ble_eq_true rfl) dX6_cheese_106 (fun σ9 H locs h hw => ?_)
        refine lv_aload hx hb dX6_cheese_109 (lv_at hl 0 rfl) ?_
        refine lv_iconst (v := 2) hx hb dX6_cheese_111 (by decide) ?_
        refine lv_iload_n hx hb dX6_cheese_112 rfl (lv_at hl 5 rfl) ?_
        refine g_Vv (Y := YC) (ci := 1) (n := 2) (k := 1) (As := [.int 2, .int v3]) (rest := []) rfl (by decide) vw_X6_105 ⟨Nat.le_of_ble_eq_true rfl, Nat.le_of_ble_eq_true rfl, Nat.zero_le _, Nat.zero_le _⟩ hc hw hl.1 hf_o6.2 hf_o6.1 (m_X1_put l hM o6 2 v3 σ9 h) rfl rfl (Nat.le_of_ble_eq_true rfl) dX6_cheese_113 (fun σ10 H locs h hw => ?_)
        refine lv_aload hx hb dX6_cheese_116 (lv_at hl 0 rfl) ?_
        refine lv_iconst (v := 3) hx hb dX6_cheese_118 (by decide) ?_
        refine lv_iload hx hb dX6_cheese_119 (lv_at hl 6 rfl) ?_
        refine g_Vv (Y := YC) (ci := 1) (n := 2) (k := 1) (As := [.int 3, .int v4]) (rest := []) rfl (by decide) vw_X6_105 ⟨Nat.le_of_ble_eq_true rfl, Nat.le_of_ble_eq_true rfl, Nat.zero_le _, Nat.zero_le _⟩ hc hw hl.1 hf_o6.2 hf_o6.1 (m_X1_put l hM o6 3 v4 σ10 h) rfl rfl (Nat.le_of_ble_eq_true rfl) dX6_cheese_121 (fun σ11 H locs h hw => ?_)
        refine lv_aload hx hb dX6_cheese_124 (lv_at hl 0 rfl) ?_
        refine lv_iconst (v := 4) hx hb dX6_cheese_126 (by decide) ?_
        refine lv_iload hx hb dX6_cheese_127 (lv_at hl 7 rfl) ?_
        refine g_Vv (Y := YC) (ci := 1) (n := 2) (k := 1) (As := [.int 4, .int v5]) (rest := []) rfl (by decide) vw_X6_105 ⟨Nat.le_of_ble_eq_true rfl, Nat.le_of_ble_eq_true rfl, Nat.zero_le _, Nat.zero_le _⟩ hc hw hl.1 hf_o6.2 hf_o6.1 (m_X1_put l hM o6 4 v5 σ11 h) rfl rfl (Nat.le_of_ble_eq_true rfl) dX6_cheese_129 (fun σ12 H locs h hw => ?_)
        refine lv_aload_n hx hb dX6_cheese_132 rfl (lv_at hl 2 rfl) ?_
        refine fg_X6_98 hc hw (Nat.lt_of_lt_of_le (by decide) hM) rfl dX6_cheese_133 ?_
        refine lv_iconst (v := 1) hx hb dX6_cheese_136 (by decide) ?_
        refine lv_isub hx hb dX6_cheese_137 ?_
        exact g_iret hc hr hw h dX6_cheese_138
    · replace h := h.2 c2
      refine lv_bipush (v := (-4)) hx hb dX6_cheese_65 (by decide) ?_
      exact g_iret hc hr hw h dX6_cheese_67
  · replace h := h.1 c1
    refine lv_bipush (v := (-2)) hx hb dX6_cheese_54 (by decide) ?_
    exact g_iret hc hr hw h dX6_cheese_56
def w_X6_cheese (M : Nat) (post : Int32 → St → Prop) (a1 : Int32) (a2 : Int32) (a3 : Int32) (a4 : Int32) (a5 : Int32) (σ : St) : Prop :=
  w_X1_fits M (fun r2 σ1 => ((r2 = 0 → (w_X6_cheese_47 M post a1 a2 a3 a4 a5 0 σ1)) ∧ (¬ (r2 = 0) → (w_X1_fits M (fun r5 σ4 => ((r5 = 0 → (w_X6_cheese_47 M post a1 a2 a3 a4 a5 0 σ4)) ∧ (¬ (r5 = 0) → (w_X1_fits M (fun r8 σ7 => ((r8 = 0 → (w_X6_cheese_47 M post a1 a2 a3 a4 a5 0 σ7)) ∧ (¬ (r8 = 0) → (w_X1_fits M (fun r11 σ10 => ((r11 = 0 → (w_X6_cheese_47 M post a1 a2 a3 a4 a5 0 σ10)) ∧ (¬ (r11 = 0) → (w_X1_fits M (fun r14 σ13 => ((r14 = 0 → (w_X6_cheese_47 M post a1 a2 a3 a4 a5 0 σ13)) ∧ (¬ (r14 = 0) → (w_X6_cheese_47 M post a1 a2 a3 a4 a5 1 σ13)))) 4 a5 σ10)))) 3 a4 σ7)))) 2 a3 σ4)))) 1 a2 σ1)))) 0 a1 σ
set_option maxHeartbeats 4000000 in
set_option maxRecDepth 20000 in
theorem m_X6_cheese {Γ : Gm} {ad : Nat → Nat} {M : Nat} (l : Launch) (hM : 53 ≤ M) {post : Int32 → St → Prop} (a1 : Int32) (a2 : Int32) (a3 : Int32) (a4 : Int32) (a5 : Int32) (σ : St) (h : w_X6_cheese M post a1 a2 a3 a4 a5 σ) : Ci l Γ YC M ad σ yX6_cheese cX6_cheese 8 (Option.some Jvm.ClassFile.FieldType.int) 2 0 0 [.ref (ad 0), .int a1, .int a2, .int a3, .int a4, .int a5] post := by
  refine g_start (by decide) (Nat.le_of_ble_eq_true rfl) ?_
  intro p e s m args below meth c ls hc hr hn hl hw
  have hc : CX Γ p s m args meth c cX6_cheese RX6 8 := hc
  have hl : lv_has ls 8 [(0, .ref (ad 0)), (1, .int a1), (2, .int a2), (3, .int a3), (4, .int a4), (5, .int a5)] := hl
  have hx := hc.1
  have hb := hc.2.1
  unfold w_X6_cheese at h
  generalize hHH : s.heap = H0 at hw ⊢
  refine lv_iconst (v := 0) hx hb dX6_cheese_0 (by decide) ?_
  refine lv_iload_n hx hb dX6_cheese_1 rfl (lv_at hl 1 rfl) ?_
  refine g_Si (Y := YC) (n := 2) (k := 1) (As := [.int 0, .int a1]) (rest := []) vw_X6_94 ⟨Nat.le_of_ble_eq_true rfl, Nat.le_of_ble_eq_true rfl, Nat.zero_le _, Nat.zero_le _⟩ hc hw hl.1 (m_X1_fits l hM 0 a1 σ h) rfl rfl (Nat.le_of_ble_eq_true rfl) dX6_cheese_2 (fun r2 σ1 H locs h hw => ?_)
  refine lv_if_eq (tgt := 46) hx hb dX6_cheese_5 (by decide) (fun c3 => ?_) (fun c3 => ?_)
  · replace h := h.1 c3
    refine lv_iconst (v := 0) hx hb dX6_cheese_46 (by decide) ?_
    exact b_X6_cheese_47 hM a1 a2 a3 a4 a5 0 σ1 _ _ _ h  hc hr hw (lv_sub hl [0, 1, 2, 3, 4, 5] rfl)
  · replace h := h.2 c3
    refine lv_iconst (v := 1) hx hb dX6_cheese_8 (by decide) ?_
    refine lv_iload_n hx hb dX6_cheese_9 rfl (lv_at hl 2 rfl) ?_
    refine g_Si (Y := YC) (n := 2) (k := 1) (As := [.int 1, .int a2]) (rest := []) vw_X6_94 ⟨Nat.le_of_ble_eq_true rfl, Nat.le_of_ble_eq_true rfl, Nat.zero_le _, Nat.zero_le _⟩ hc hw hl.1 (m_X1_fits l hM 1 a2 σ1 h) rfl rfl (Nat.le_of_ble_eq_true rfl) dX6_cheese_10 (fun r5 σ4 H locs h hw => ?_)
    refine lv_if_eq (tgt := 46) hx hb dX6_cheese_13 (by decide) (fun c6 => ?_) (fun c6 => ?_)
    · replace h := h.1 c6
      refine lv_iconst (v := 0) hx hb dX6_cheese_46 (by decide) ?_
      exact b_X6_cheese_47 hM a1 a2 a3 a4 a5 0 σ4 _ _ _ h  hc hr hw (lv_sub hl [0, 1, 2, 3, 4, 5] rfl)
    · replace h := h.2 c6
      refine lv_iconst (v := 2) hx hb dX6_cheese_16 (by decide) ?_
      refine lv_iload_n hx hb dX6_cheese_17 rfl (lv_at hl 3 rfl) ?_
      refine g_Si (Y := YC) (n := 2) (k := 1) (As := [.int 2, .int a3]) (rest := []) vw_X6_94 ⟨Nat.le_of_ble_eq_true rfl, Nat.le_of_ble_eq_true rfl, Nat.zero_le _, Nat.zero_le _⟩ hc hw hl.1 (m_X1_fits l hM 2 a3 σ4 h) rfl rfl (Nat.le_of_ble_eq_true rfl) dX6_cheese_18 (fun r8 σ7 H locs h hw => ?_)
      refine lv_if_eq (tgt := 46) hx hb dX6_cheese_21 (by decide) (fun c9 => ?_) (fun c9 => ?_)
      · replace h := h.1 c9
        refine lv_iconst (v := 0) hx hb dX6_cheese_46 (by decide) ?_
        exact b_X6_cheese_47 hM a1 a2 a3 a4 a5 0 σ7 _ _ _ h  hc hr hw (lv_sub hl [0, 1, 2, 3, 4, 5] rfl)
      · replace h := h.2 c9
        refine lv_iconst (v := 3) hx hb dX6_cheese_24 (by decide) ?_
        refine lv_iload hx hb dX6_cheese_25 (lv_at hl 4 rfl) ?_
        refine g_Si (Y := YC) (n := 2) (k := 1) (As := [.int 3, .int a4]) (rest := []) vw_X6_94 ⟨Nat.le_of_ble_eq_true rfl, Nat.le_of_ble_eq_true rfl, Nat.zero_le _, Nat.zero_le _⟩ hc hw hl.1 (m_X1_fits l hM 3 a4 σ7 h) rfl rfl (Nat.le_of_ble_eq_true rfl) dX6_cheese_27 (fun r11 σ10 H locs h hw => ?_)
        refine lv_if_eq (tgt := 46) hx hb dX6_cheese_30 (by decide) (fun c12 => ?_) (fun c12 => ?_)
        · replace h := h.1 c12
          refine lv_iconst (v := 0) hx hb dX6_cheese_46 (by decide) ?_
          exact b_X6_cheese_47 hM a1 a2 a3 a4 a5 0 σ10 _ _ _ h  hc hr hw (lv_sub hl [0, 1, 2, 3, 4, 5] rfl)
        · replace h := h.2 c12
          refine lv_iconst (v := 4) hx hb dX6_cheese_33 (by decide) ?_
          refine lv_iload hx hb dX6_cheese_34 (lv_at hl 5 rfl) ?_
          refine g_Si (Y := YC) (n := 2) (k := 1) (As := [.int 4, .int a5]) (rest := []) vw_X6_94 ⟨Nat.le_of_ble_eq_true rfl, Nat.le_of_ble_eq_true rfl, Nat.zero_le _, Nat.zero_le _⟩ hc hw hl.1 (m_X1_fits l hM 4 a5 σ10 h) rfl rfl (Nat.le_of_ble_eq_true rfl) dX6_cheese_36 (fun r14 σ13 H locs h hw => ?_)
          refine lv_if_eq (tgt := 46) hx hb dX6_cheese_39 (by decide) (fun c15 => ?_) (fun c15 => ?_)
          · replace h := h.1 c15
            refine lv_iconst (v := 0) hx hb dX6_cheese_46 (by decide) ?_
            exact b_X6_cheese_47 hM a1 a2 a3 a4 a5 0 σ13 _ _ _ h  hc hr hw (lv_sub hl [0, 1, 2, 3, 4, 5] rfl)
          · replace h := h.2 c15
            refine lv_iconst (v := 1) hx hb dX6_cheese_42 (by decide) ?_
            refine lv_goto (tgt := 47) hx hb dX6_cheese_43 (by decide) ?_
            exact b_X6_cheese_47 hM a1 a2 a3 a4 a5 1 σ13 _ _ _ h  hc hr hw (lv_sub hl [0, 1, 2, 3, 4, 5] rfl)
def w_X6_ripen (M : Nat) (post : Int32 → St → Prop) (a1 : Int32) (a2 : Int32) (a3 : Int32) (σ : St) : Prop :=
  w_X6_cheeseAt M (fun q2 σ1 => ((q2 = none → (post (-5) σ1)) ∧ (∀ o3 : Nat, q2 = some o3 → ((kdC o3 = 1 ∧ o3 < M) ∧ (w_X1_fits M (fun r6 σ5 => ((r6 = 0 → (post (-7) σ5)) ∧ (¬ (r6 = 0) → (w_X1_tell M (fun r9 σ8 => (w_X1_put M (fun σ10 => (post r9 σ10)) o3 a2 a3 σ8)) o3 a2 σ5)))) a2 a3 σ1))))) a1 σ
set_option maxHeartbeats 4000000 in
set_option maxRecDepth 20000 in
theorem m_X6_ripen {Γ : Gm} {ad : Nat → Nat} {M : Nat} (l : Launch) (hM : 53 ≤ M) {post : Int32 → St → Prop} (a1 : Int32) (a2 : Int32) (a3 : Int32) (σ : St) (h : w_X6_ripen M post a1 a2 a3 σ) : Ci l Γ YC M ad σ yX6_ripen cX6_ripen 6 (Option.some Jvm.ClassFile.FieldType.int) 2 0 0 [.ref (ad 0), .int a1, .int a2, .int a3] post := by
  refine g_start (by decide) (Nat.le_of_ble_eq_true rfl) ?_
  intro p e s m args below meth c ls hc hr hn hl hw
  have hc : CX Γ p s m args meth c cX6_ripen RX6 6 := hc
  have hl : lv_has ls 6 [(0, .ref (ad 0)), (1, .int a1), (2, .int a2), (3, .int a3)] := hl
  have hx := hc.1
  have hb := hc.2.1
  unfold w_X6_ripen at h
  generalize hHH : s.heap = H0 at hw ⊢
  refine lv_aload_n hx hb dX6_ripen_0 rfl (lv_at hl 0 rfl) ?_
  refine lv_iload_n hx hb dX6_ripen_1 rfl (lv_at hl 1 rfl) ?_
  refine g_Ve (Y := YC) (ci := 6) (n := 1) (k := 0) (As := [.int a1]) (rest := []) rfl (by decide) vw_X6_101 ⟨Nat.le_of_ble_eq_true rfl, Nat.le_of_ble_eq_true rfl, Nat.zero_le _, Nat.zero_le _⟩ hc hw hl.1 (Nat.lt_of_lt_of_le (by decide) hM) rfl (m_X6_cheeseAt l hM a1 σ h) rfl rfl (Nat.le_of_ble_eq_true rfl) dX6_ripen_2 (fun q2 σ1 H locs h hw => ?_)
  refine g_astoreqW (lv' := [(4, va_rf (Option.map ad q2)), (0, .ref (ad 0)), (1, .int a1), (2, .int a2), (3, .int a3)]) hx hb dX6_ripen_5 hl (by decide) rfl (fun ls hl => ?_)
  refine g_aloadqW hx hb dX6_ripen_7 (lv_at hl 0 rfl) ?_
  refine g_ifnonnull (tgt := 15) hx hb dX6_ripen_9 (by decide) (fun o3 hn4 => ?_) (fun hn4 => ?_)
  · replace h := h.2 o3 hn4
    try rw [hn4] at hl
    try rw [hn4]
    have hf_o3 := h.1
    replace h := h.2
    have hl : lv_has ls 6 [(4, .ref (ad o3)), (0, .ref (ad 0)), (1, .int a1), (2, .int a2), (3, .int a3)] := hl
    refine lv_iload_n hx hb dX6_ripen_15 rfl (lv_at hl 3 rfl) ?_
    refine lv_iload_n hx hb dX6_ripen_16 rfl (lv_at hl 4 rfl) ?_
    refine g_Si (Y := YC) (n := 2) (k := 1) (As := [.int a2, .int a3]) (rest := []) vw_X6_94 ⟨Nat.le_of_ble_eq_true rfl, Nat.le_of_ble_eq_true rfl, Nat.zero_le _, Nat.zero_le _⟩ hc hw hl.1 (m_X1_fits l hM a2 a3 σ1 h) rfl rfl (Nat.le_of_ble_eq_true rfl) dX6_ripen_17 (fun r6 σ5 H locs h hw => ?_)
    refine lv_if_ne (tgt := 26) hx hb dX6_ripen_20 (by decide) (fun c7 => ?_) (fun c7 => ?_)
    · replace h := h.2 c7
      refine lv_aload hx hb dX6_ripen_26 (lv_at hl 0 rfl) ?_
      refine lv_iload_n hx hb dX6_ripen_28 rfl (lv_at hl 3 rfl) ?_
      refine g_Vi (Y := YC) (ci := 1) (n := 1) (k := 1) (As := [.int a2]) (rest := []) rfl (by decide) vw_X6_109 ⟨Nat.le_of_ble_eq_true rfl, Nat.le_of_ble_eq_true rfl, Nat.zero_le _, Nat.zero_le _⟩ hc hw hl.1 hf_o3.2 hf_o3.1 (m_X1_tell l hM o3 a2 σ5 h) rfl rfl (Nat.le_of_ble_eq_true rfl) dX6_ripen_29 (fun r9 σ8 H locs h hw => ?_)
      refine lv_istore (lv' := [(5, .int r9), (4, .ref (ad o3)), (0, .ref (ad 0)), (1, .int a1), (2, .int a2), (3, .int a3)]) hx hb dX6_ripen_32 hl (by decide) rfl (fun ls hl => ?_)
      refine lv_aload hx hb dX6_ripen_34 (lv_at hl 1 rfl) ?_
      refine lv_iload_n hx hb dX6_ripen_36 rfl (lv_at hl 4 rfl) ?_
      refine lv_iload_n hx hb dX6_ripen_37 rfl (lv_at hl 5 rfl) ?_
      refine g_Vv (Y := YC) (ci := 1) (n := 2) (k := 1) (As := [.int a2, .int a3]) (rest := []) rfl (by decide) vw_X6_105 ⟨Nat.le_of_ble_eq_true rfl, Nat.le_of_ble_eq_true rfl, Nat.zero_le _, Nat.zero_le _⟩ hc hw hl.1 hf_o3.2 hf_o3.1 (m_X1_put l hM o3 a2 a3 σ8 h) rfl rfl (Nat.le_of_ble_eq_true rfl) dX6_ripen_38 (fun σ10 H locs h hw => ?_)
      refine lv_iload hx hb dX6_ripen_41 (lv_at hl 0 rfl) ?_
      exact g_iret hc hr hw h dX6_ripen_43
    · replace h := h.1 c7
      refine lv_bipush (v := (-7)) hx hb dX6_ripen_23 (by decide) ?_
      exact g_iret hc hr hw h dX6_ripen_25
  · replace h := h.1 hn4
    try rw [hn4] at hl
    try rw [hn4]
    have hl : lv_has ls 6 [(4, .null), (0, .ref (ad 0)), (1, .int a1), (2, .int a2), (3, .int a3)] := hl
    refine lv_bipush (v := (-5)) hx hb dX6_ripen_12 (by decide) ?_
    exact g_iret hc hr hw h dX6_ripen_14
def w_X6_sortTold (M : Nat) (post : Int32 → St → Prop) (a1 : Int32) (a2 : Int32) (σ : St) : Prop :=
  w_X6_cheeseAt M (fun q2 σ1 => ((q2 = none → (post (-5) σ1)) ∧ (∀ o3 : Nat, q2 = some o3 → ((kdC o3 = 1 ∧ o3 < M) ∧ (w_X1_hasPart M (fun r6 σ5 => ((r6 = 0 → (post (-7) σ5)) ∧ (¬ (r6 = 0) → (w_X1_tell M (fun r9 σ8 => (post r9 σ8)) o3 a2 σ5)))) a2 σ1))))) a1 σ
set_option maxHeartbeats 4000000 in
set_option maxRecDepth 20000 in
theorem m_X6_sortTold {Γ : Gm} {ad : Nat → Nat} {M : Nat} (l : Launch) (hM : 53 ≤ M) {post : Int32 → St → Prop} (a1 : Int32) (a2 : Int32) (σ : St) (h : w_X6_sortTold M post a1 a2 σ) : Ci l Γ YC M ad σ yX6_sortTold cX6_sortTold 4 (Option.some Jvm.ClassFile.FieldType.int) 2 0 0 [.ref (ad 0), .int a1, .int a2] post := by
  refine g_start (by decide) (Nat.le_of_ble_eq_true rfl) ?_
  intro p e s m args below meth c ls hc hr hn hl hw
  have hc : CX Γ p s m args meth c cX6_sortTold RX6 4 := hc
  have hl : lv_has ls 4 [(0, .ref (ad 0)), (1, .int a1), (2, .int a2)] := hl
  have hx := hc.1
  have hb := hc.2.1
  unfold w_X6_sortTold at h
  generalize hHH : s.heap = H0 at hw ⊢
  refine lv_aload_n hx hb dX6_sortTold_0 rfl (lv_at hl 0 rfl) ?_
  refine lv_iload_n hx hb dX6_sortTold_1 rfl (lv_at hl 1 rfl) ?_
  refine g_Ve (Y := YC) (ci := 6) (n := 1) (k := 0) (As := [.int a1]) (rest := []) rfl (by decide) vw_X6_101 ⟨Nat.le_of_ble_eq_true rfl, Nat.le_of_ble_eq_true rfl, Nat.zero_le _, Nat.zero_le _⟩ hc hw hl.1 (Nat.lt_of_lt_of_le (by decide) hM) rfl (m_X6_cheeseAt l hM a1 σ h) rfl rfl (Nat.le_of_ble_eq_true rfl) dX6_sortTold_2 (fun q2 σ1 H locs h hw => ?_)
  refine g_astoreq (lv' := [(3, va_rf (Option.map ad q2)), (0, .ref (ad 0)), (1, .int a1), (2, .int a2)]) hx hb dX6_sortTold_5 rfl hl (by decide) rfl (fun ls hl => ?_)
  refine g_aloadq hx hb dX6_sortTold_6 rfl (lv_at hl 0 rfl) ?_
  refine g_ifnonnull (tgt := 13) hx hb dX6_sortTold_7 (by decide) (fun o3 hn4 => ?_) (fun hn4 => ?_)
  · replace h := h.2 o3 hn4
    try rw [hn4] at hl
    try rw [hn4]
    have hf_o3 := h.1
    replace h := h.2
    have hl : lv_has ls 4 [(3, .ref (ad o3)), (0, .ref (ad 0)), (1, .int a1), (2, .int a2)] := hl
    refine lv_iload_n hx hb dX6_sortTold_13 rfl (lv_at hl 3 rfl) ?_
    refine g_Si (Y := YC) (n := 1) (k := 0) (As := [.int a2]) (rest := []) vw_X6_113 ⟨Nat.le_of_ble_eq_true rfl, Nat.le_of_ble_eq_true rfl, Nat.zero_le _, Nat.zero_le _⟩ hc hw hl.1 (m_X1_hasPart l hM a2 σ1 h) rfl rfl (Nat.le_of_ble_eq_true rfl) dX6_sortTold_14 (fun r6 σ5 H locs h hw => ?_)
    refine lv_if_eq (tgt := 28) hx hb dX6_sortTold_17 (by decide) (fun c7 => ?_) (fun c7 => ?_)
    · replace h := h.1 c7
      refine lv_bipush (v := (-7)) hx hb dX6_sortTold_28 (by decide) ?_
      exact g_iret hc hr hw h dX6_sortTold_30
    · replace h := h.2 c7
      refine lv_aload_n hx hb dX6_sortTold_20 rfl (lv_at hl 0 rfl) ?_
      refine lv_iload_n hx hb dX6_sortTold_21 rfl (lv_at hl 3 rfl) ?_
      refine g_Vi (Y := YC) (ci := 1) (n := 1) (k := 1) (As := [.int a2]) (rest := []) rfl (by decide) vw_X6_109 ⟨Nat.le_of_ble_eq_true rfl, Nat.le_of_ble_eq_true rfl, Nat.zero_le _, Nat.zero_le _⟩ hc hw hl.1 hf_o3.2 hf_o3.1 (m_X1_tell l hM o3 a2 σ5 h) rfl rfl (Nat.le_of_ble_eq_true rfl) dX6_sortTold_22 (fun r9 σ8 H locs h hw => ?_)
      refine lv_goto (tgt := 30) hx hb dX6_sortTold_25 (by decide) ?_
      exact g_iret hc hr hw h dX6_sortTold_30
  · replace h := h.1 hn4
    try rw [hn4] at hl
    try rw [hn4]
    have hl : lv_has ls 4 [(3, .null), (0, .ref (ad 0)), (1, .int a1), (2, .int a2)] := hl
    refine lv_bipush (v := (-5)) hx hb dX6_sortTold_10 (by decide) ?_
    exact g_iret hc hr hw h dX6_sortTold_12
def w_X6_image (M : Nat) (post : Int32 → St → Prop)  (σ : St) : Prop :=
  w_X6_copyCheeses M (fun σ1 => (((¬ (0 : Int32) < 0) ∧ (¬ (0 : Int32) < 0) ∧ (¬ (3 : Int32) < 0) ∧ (0 : Int32).toNatClampNeg + (3 : Int32).toNatClampNeg ≤ 3 ∧ (0 : Int32).toNatClampNeg + (3 : Int32).toNatClampNeg ≤ 3) ∧ (∀ σ2 : St, σ2 = so σ1 11 (va_cpy (fun j => gi σ1 4 j) (fun j => gi σ1 11 j) (0 : Int32).toNatClampNeg (0 : Int32).toNatClampNeg (3 : Int32).toNatClampNeg) → (∀ σ3 : St, σ3 = si σ2 0 13 (gi σ2 0 6) → (∀ σ4 : St, σ4 = si σ3 0 11 (gi σ3 0 1) → (post (gi σ4 0 1) σ4)))))) 1 10 (gi σ 0 1) σ
set_option maxHeartbeats 4000000 in
set_option maxRecDepth 20000 in
theorem m_X6_image {Γ : Gm} {ad : Nat → Nat} {M : Nat} (l : Launch) (hM : 53 ≤ M) {post : Int32 → St → Prop}  (σ : St) (h : w_X6_image M post  σ) : Ci l Γ YC M ad σ yX6_image cX6_image 1 (Option.some Jvm.ClassFile.FieldType.int) 2 0 0 [.ref (ad 0)] post := by
  refine g_start (by decide) (Nat.le_of_ble_eq_true rfl) ?_
  intro p e s m args below meth c ls hc hr hn hl hw
  have hc : CX Γ p s m args meth c cX6_image RX6 1 := hc
  have hl : lv_has ls 1 [(0, .ref (ad 0))] := hl
  have hx := hc.1
  have hb := hc.2.1
  unfold w_X6_image at h
  generalize hHH : s.heap = H0 at hw ⊢
  refine lv_aload_n hx hb dX6_image_0 rfl (lv_at hl 0 rfl) ?_
  refine fg_X6_11 hc hw (Nat.lt_of_lt_of_le (by decide) hM) rfl dX6_image_1 ?_
  refine lv_aload_n hx hb dX6_image_4 rfl (lv_at hl 0 rfl) ?_
  refine fg_X6_44 hc hw (Nat.lt_of_lt_of_le (by decide) hM) rfl dX6_image_5 ?_
  refine lv_aload_n hx hb dX6_image_8 rfl (lv_at hl 0 rfl) ?_
  refine fg_X6_98 hc hw (Nat.lt_of_lt_of_le (by decide) hM) rfl dX6_image_9 ?_
  refine g_Sv (Y := YC) (n := 3) (k := 1) (As := [.ref (ad 1), .ref (ad 10), .int (gi σ 0 1)]) (rest := []) vw_X6_284 ⟨Nat.le_of_ble_eq_true rfl, Nat.le_of_ble_eq_true rfl, Nat.zero_le _, Nat.zero_le _⟩ hc hw hl.1 (m_X6_copyCheeses l hM 1 10 (gi σ 0 1) σ h) rfl rfl (Nat.le_of_ble_eq_true rfl) dX6_image_12 (fun σ1 H locs h hw => ?_)
  refine lv_aload_n hx hb dX6_image_15 rfl (lv_at hl 0 rfl) ?_
  refine fg_X6_27 hc hw (Nat.lt_of_lt_of_le (by decide) hM) rfl dX6_image_16 ?_
  refine lv_iconst (v := 0) hx hb dX6_image_19 (by decide) ?_
  refine lv_aload_n hx hb dX6_image_20 rfl (lv_at hl 0 rfl) ?_
  refine fg_X6_51 hc hw (Nat.lt_of_lt_of_le (by decide) hM) rfl dX6_image_21 ?_
  refine lv_iconst (v := 0) hx hb dX6_image_24 (by decide) ?_
  refine lv_aload_n hx hb dX6_image_25 rfl (lv_at hl 0 rfl) ?_
  refine fg_X6_27 hc hw (Nat.lt_of_lt_of_le (by decide) hM) rfl dX6_image_26 ?_
  refine g_aleni (Y := YC) (kd := 21) (v := 3) (o := 4) (by decide) (by decide) rfl hc hw (Nat.lt_of_lt_of_le (by decide) hM) rfl rfl dX6_image_29 ?_
  refine g_copyK (Y := YC) (kd0 := 21) (kd1 := 21) (n0 := 3) (n1 := 3) (o0 := 4) (o1 := 11) YC_ok q_914 q_446 q_445 q_87 ⟨by decide, by decide, rfl⟩ ⟨by decide, by decide, rfl⟩ hc hw hl.1 (Nat.lt_of_lt_of_le (by decide) hM) (Nat.lt_of_lt_of_le (by decide) hM) rfl rfl rfl rfl h.1 ⟨Nat.le_of_ble_eq_true rfl, Nat.le_of_ble_eq_true rfl⟩ (Nat.le_of_ble_eq_true rfl) dX6_image_30 (fun σ2 H locs eσ2 hw => ?_)
  replace h := h.2 σ2 eσ2
  refine lv_aload_n hx hb dX6_image_33 rfl (lv_at hl 0 rfl) ?_
  refine lv_aload_n hx hb dX6_image_34 rfl (lv_at hl 0 rfl) ?_
  refine fg_X6_123 hc hw (Nat.lt_of_lt_of_le (by decide) hM) rfl dX6_image_35 ?_
  refine fp_X6_294 (o := 0) hc hw (Nat.lt_of_lt_of_le (by decide) hM) rfl dX6_image_38 (fun σ3 H locs eσ3 hw => ?_)
  replace h := h σ3 eσ3
  refine lv_aload_n hx hb dX6_image_41 rfl (lv_at hl 0 rfl) ?_
  refine lv_aload_n hx hb dX6_image_42 rfl (lv_at hl 0 rfl) ?_
  refine fg_X6_98 hc hw (Nat.lt_of_lt_of_le (by decide) hM) rfl dX6_image_43 ?_
  refine fp_X6_47 (o := 0) hc hw (Nat.lt_of_lt_of_le (by decide) hM) rfl dX6_image_46 (fun σ4 H locs eσ4 hw => ?_)
  replace h := h σ4 eσ4
  refine lv_aload_n hx hb dX6_image_49 rfl (lv_at hl 0 rfl) ?_
  refine fg_X6_98 hc hw (Nat.lt_of_lt_of_le (by decide) hM) rfl dX6_image_50 ?_
  exact g_iret hc hr hw h dX6_image_53
def w_X6_back (M : Nat) (post : Int32 → St → Prop)  (σ : St) : Prop :=
  ((gi σ 0 11) = (-1) → (post (-3) σ)) ∧ (¬ ((gi σ 0 11) = (-1)) → (w_X6_copyCheeses M (fun σ2 => (((¬ (0 : Int32) < 0) ∧ (¬ (0 : Int32) < 0) ∧ (¬ (3 : Int32) < 0) ∧ (0 : Int32).toNatClampNeg + (3 : Int32).toNatClampNeg ≤ 3 ∧ (0 : Int32).toNatClampNeg + (3 : Int32).toNatClampNeg ≤ 3) ∧ (∀ σ3 : St, σ3 = so σ2 4 (va_cpy (fun j => gi σ2 11 j) (fun j => gi σ2 4 j) (0 : Int32).toNatClampNeg (0 : Int32).toNatClampNeg (3 : Int32).toNatClampNeg) → (∀ σ4 : St, σ4 = si σ3 0 6 (gi σ3 0 13) → (post (gi σ4 0 1) σ4))))) 10 1 (gi σ 0 11) σ))
set_option maxHeartbeats 4000000 in
set_option maxRecDepth 20000 in
theorem m_X6_back {Γ : Gm} {ad : Nat → Nat} {M : Nat} (l : Launch) (hM : 53 ≤ M) {post : Int32 → St → Prop}  (σ : St) (h : w_X6_back M post  σ) : Ci l Γ YC M ad σ yX6_back cX6_back 1 (Option.some Jvm.ClassFile.FieldType.int) 2 0 0 [.ref (ad 0)] post := by
  refine g_start (by decide) (Nat.le_of_ble_eq_true rfl) ?_
  intro p e s m args below meth c ls hc hr hn hl hw
  have hc : CX Γ p s m args meth c cX6_back RX6 1 := hc
  have hl : lv_has ls 1 [(0, .ref (ad 0))] := hl
  have hx := hc.1
  have hb := hc.2.1
  unfold w_X6_back at h
  generalize hHH : s.heap = H0 at hw ⊢
  refine lv_aload_n hx hb dX6_back_0 rfl (lv_at hl 0 rfl) ?_
  refine fg_X6_47 hc hw (Nat.lt_of_lt_of_le (by decide) hM) rfl dX6_back_1 ?_
  refine lv_iconst (v := (-1)) hx hb dX6_back_4 (by decide) ?_
  refine lv_icmp_ne (tgt := 11) hx hb dX6_back_5 (by decide) (fun c1 => ?_) (fun c1 => ?_)
  · replace h := h.2 c1
    refine lv_aload_n hx hb dX6_back_11 rfl (lv_at hl 0 rfl) ?_
    refine fg_X6_44 hc hw (Nat.lt_of_lt_of_le (by decide) hM) rfl dX6_back_12 ?_
    refine lv_aload_n hx hb dX6_back_15 rfl (lv_at hl 0 rfl) ?_
    refine fg_X6_11 hc hw (Nat.lt_of_lt_of_le (by decide) hM) rfl dX6_back_16 ?_
    refine lv_aload_n hx hb dX6_back_19 rfl (lv_at hl 0 rfl) ?_
    refine fg_X6_47 hc hw (Nat.lt_of_lt_of_le (by decide) hM) rfl dX6_back_20 ?_
    refine g_Sv (Y := YC) (n := 3) (k := 1) (As := [.ref (ad 10), .ref (ad 1), .int (gi σ 0 11)]) (rest := []) vw_X6_284 ⟨Nat.le_of_ble_eq_true rfl, Nat.le_of_ble_eq_true rfl, Nat.zero_le _, Nat.zero_le _⟩ hc hw hl.1 (m_X6_copyCheeses l hM 10 1 (gi σ 0 11) σ h) rfl rfl (Nat.le_of_ble_eq_true rfl) dX6_back_23 (fun σ2 H locs h hw => ?_)
    refine lv_aload_n hx hb dX6_back_26 rfl (lv_at hl 0 rfl) ?_
    refine fg_X6_51 hc hw (Nat.lt_of_lt_of_le (by decide) hM) rfl dX6_back_27 ?_
    refine lv_iconst (v := 0) hx hb dX6_back_30 (by decide) ?_
    refine lv_aload_n hx hb dX6_back_31 rfl (lv_at hl 0 rfl) ?_
    refine fg_X6_27 hc hw (Nat.lt_of_lt_of_le (by decide) hM) rfl dX6_back_32 ?_
    refine lv_iconst (v := 0) hx hb dX6_back_35 (by decide) ?_
    refine lv_aload_n hx hb dX6_back_36 rfl (lv_at hl 0 rfl) ?_
    refine fg_X6_27 hc hw (Nat.lt_of_lt_of_le (by decide) hM) rfl dX6_back_37 ?_
    refine g_aleni (Y := YC) (kd := 21) (v := 3) (o := 4) (by decide) (by decide) rfl hc hw (Nat.lt_of_lt_of_le (by decide) hM) rfl rfl dX6_back_40 ?_
    refine g_copyK (Y := YC) (kd0 := 21) (kd1 := 21) (n0 := 3) (n1 := 3) (o0 := 11) (o1 := 4) YC_ok q_914 q_446 q_445 q_87 ⟨by decide, by decide, rfl⟩ ⟨by decide, by decide, rfl⟩ hc hw hl.1 (Nat.lt_of_lt_of_le (by decide) hM) (Nat.lt_of_lt_of_le (by decide) hM) rfl rfl rfl rfl h.1 ⟨Nat.le_of_ble_eq_true rfl, Nat.le_of_ble_eq_true rfl⟩ (Nat.le_of_ble_eq_true rfl) dX6_back_41 (fun σ3 H locs eσ3 hw => ?_)
    replace h := h.2 σ3 eσ3
    refine lv_aload_n hx hb dX6_back_44 rfl (lv_at hl 0 rfl) ?_
    refine lv_aload_n hx hb dX6_back_45 rfl (lv_at hl 0 rfl) ?_
    refine fg_X6_294 hc hw (Nat.lt_of_lt_of_le (by decide) hM) rfl dX6_back_46 ?_
    refine fp_X6_123 (o := 0) hc hw (Nat.lt_of_lt_of_le (by decide) hM) rfl dX6_back_49 (fun σ4 H locs eσ4 hw => ?_)
    replace h := h σ4 eσ4
    refine lv_aload_n hx hb dX6_back_52 rfl (lv_at hl 0 rfl) ?_
    refine fg_X6_98 hc hw (Nat.lt_of_lt_of_le (by decide) hM) rfl dX6_back_53 ?_
    exact g_iret hc hr hw h dX6_back_56
  · replace h := h.1 c1
    refine lv_bipush (v := (-3)) hx hb dX6_back_8 (by decide) ?_
    exact g_iret hc hr hw h dX6_back_10
def w_X6_cell (M : Nat) (post : Int32 → St → Prop) (a1 : Int32) (a2 : Int32) (a3 : Int32) (σ : St) : Prop :=
  w_X6_sheetAt M (fun q2 σ1 => ((q2 = none → (post (-2) σ1)) ∧ (∀ o3 : Nat, q2 = some o3 → ((kdC o3 = 5 ∧ o3 < M) ∧ (w_X5_isMissing M (fun r6 σ5 => ((r6 = 0 → (w_X5_hasRow M (fun r9 σ8 => ((r9 = 0 → (post (-12) σ8)) ∧ (¬ (r9 = 0) → (w_X5_put M (fun σ11 => (post 1 σ11)) o3 a2 a3 σ8)))) o3 a2 1 σ5)) ∧ (¬ (r6 = 0) → (post (-11) σ5)))) o3 σ1))))) a1 σ
set_option maxHeartbeats 4000000 in
set_option maxRecDepth 20000 in
theorem m_X6_cell {Γ : Gm} {ad : Nat → Nat} {M : Nat} (l : Launch) (hM : 53 ≤ M) {post : Int32 → St → Prop} (a1 : Int32) (a2 : Int32) (a3 : Int32) (σ : St) (h : w_X6_cell M post a1 a2 a3 σ) : Ci l Γ YC M ad σ yX6_cell cX6_cell 5 (Option.some Jvm.ClassFile.FieldType.int) 2 0 0 [.ref (ad 0), .int a1, .int a2, .int a3] post := by
  refine g_start (by decide) (Nat.le_of_ble_eq_true rfl) ?_
  intro p e s m args below meth c ls hc hr hn hl hw
  have hc : CX Γ p s m args meth c cX6_cell RX6 5 := hc
  have hl : lv_has ls 5 [(0, .ref (ad 0)), (1, .int a1), (2, .int a2), (3, .int a3)] := hl
  have hx := hc.1
  have hb := hc.2.1
  unfold w_X6_cell at h
  generalize hHH : s.heap = H0 at hw ⊢
  refine lv_aload_n hx hb dX6_cell_0 rfl (lv_at hl 0 rfl) ?_
  refine lv_iload_n hx hb dX6_cell_1 rfl (lv_at hl 1 rfl) ?_
  refine g_Ve (Y := YC) (ci := 6) (n := 1) (k := 0) (As := [.int a1]) (rest := []) rfl (by decide) vw_X6_258 ⟨Nat.le_of_ble_eq_true rfl, Nat.le_of_ble_eq_true rfl, Nat.zero_le _, Nat.zero_le _⟩ hc hw hl.1 (Nat.lt_of_lt_of_le (by decide) hM) rfl (m_X6_sheetAt l hM a1 σ h) rfl rfl (Nat.le_of_ble_eq_true rfl) dX6_cell_2 (fun q2 σ1 H locs h hw => ?_)
  refine g_astoreqW (lv' := [(4, va_rf (Option.map ad q2)), (0, .ref (ad 0)), (1, .int a1), (2, .int a2), (3, .int a3)]) hx hb dX6_cell_5 hl (by decide) rfl (fun ls hl => ?_)
  refine g_aloadqW hx hb dX6_cell_7 (lv_at hl 0 rfl) ?_
  refine g_ifnonnull (tgt := 15) hx hb dX6_cell_9 (by decide) (fun o3 hn4 => ?_) (fun hn4 => ?_)
  · replace h := h.2 o3 hn4
    try rw [hn4] at hl
    try rw [hn4]
    have hf_o3 := h.1
    replace h := h.2
    have hl : lv_has ls 5 [(4, .ref (ad o3)), (0, .ref (ad 0)), (1, .int a1), (2, .int a2), (3, .int a3)] := hl
    refine lv_aload hx hb dX6_cell_15 (lv_at hl 0 rfl) ?_
    refine g_Vi (Y := YC) (ci := 5) (n := 0) (k := 0) (As := []) (rest := []) rfl (by decide) vw_X6_297 ⟨Nat.le_of_ble_eq_true rfl, Nat.le_of_ble_eq_true rfl, Nat.zero_le _, Nat.zero_le _⟩ hc hw hl.1 hf_o3.2 hf_o3.1 (m_X5_isMissing l hM o3 σ1 h) rfl rfl (Nat.le_of_ble_eq_true rfl) dX6_cell_17 (fun r6 σ5 H locs h hw => ?_)
    refine lv_if_eq (tgt := 26) hx hb dX6_cell_20 (by decide) (fun c7 => ?_) (fun c7 => ?_)
    · replace h := h.1 c7
      refine lv_aload hx hb dX6_cell_26 (lv_at hl 0 rfl) ?_
      refine lv_iload_n hx hb dX6_cell_28 rfl (lv_at hl 3 rfl) ?_
      refine lv_iconst (v := 1) hx hb dX6_cell_29 (by decide) ?_
      refine g_Vi (Y := YC) (ci := 5) (n := 2) (k := 0) (As := [.int a2, .int 1]) (rest := []) rfl (by decide) vw_X6_300 ⟨Nat.le_of_ble_eq_true rfl, Nat.le_of_ble_eq_true rfl, Nat.zero_le _, Nat.zero_le _⟩ hc hw hl.1 hf_o3.2 hf_o3.1 (m_X5_hasRow l hM o3 a2 1 σ5 h) rfl rfl (Nat.le_of_ble_eq_true rfl) dX6_cell_30 (fun r9 σ8 H locs h hw => ?_)
      refine lv_if_ne (tgt := 39) hx hb dX6_cell_33 (by decide) (fun c10 => ?_) (fun c10 => ?_)
      · replace h := h.2 c10
        refine lv_aload hx hb dX6_cell_39 (lv_at hl 0 rfl) ?_
        refine lv_iload_n hx hb dX6_cell_41 rfl (lv_at hl 3 rfl) ?_
        refine lv_iload_n hx hb dX6_cell_42 rfl (lv_at hl 4 rfl) ?_
        refine g_Vv (Y := YC) (ci := 5) (n := 2) (k := 1) (As := [.int a2, .int a3]) (rest := []) rfl (by decide) vw_X6_272 ⟨Nat.le_of_ble_eq_true rfl, Nat.le_of_ble_eq_true rfl, Nat.zero_le _, Nat.zero_le _⟩ hc hw hl.1 hf_o3.2 hf_o3.1 (m_X5_put l hM o3 a2 a3 σ8 h) rfl rfl (Nat.le_of_ble_eq_true rfl) dX6_cell_43 (fun σ11 H locs h hw => ?_)
        refine lv_iconst (v := 1) hx hb dX6_cell_46 (by decide) ?_
        exact g_iret hc hr hw h dX6_cell_47
      · replace h := h.1 c10
        refine lv_bipush (v := (-12)) hx hb dX6_cell_36 (by decide) ?_
        exact g_iret hc hr hw h dX6_cell_38
    · replace h := h.2 c7
      refine lv_bipush (v := (-11)) hx hb dX6_cell_23 (by decide) ?_
      exact g_iret hc hr hw h dX6_cell_25
  · replace h := h.1 hn4
    try rw [hn4] at hl
    try rw [hn4]
    have hl : lv_has ls 5 [(4, .null), (0, .ref (ad 0)), (1, .int a1), (2, .int a2), (3, .int a3)] := hl
    refine lv_bipush (v := (-2)) hx hb dX6_cell_12 (by decide) ?_
    exact g_iret hc hr hw h dX6_cell_14
def w_X6_copy (M : Nat) (post : Int32 → St → Prop) (a1 : Int32) (a2 : Int32) (a3 : Int32) (a4 : Int32) (a5 : Int32) (σ : St) : Prop :=
  w_X6_sheetAt M (fun q2 σ1 => (w_X6_sheetAt M (fun q4 σ3 => ((q2 = none → (post (-2) σ3)) ∧ (∀ o5 : Nat, q2 = some o5 → ((kdC o5 = 5 ∧ o5 < M) ∧ ((q4 = none → (post (-2) σ3)) ∧ (∀ o7 : Nat, q4 = some o7 → ((kdC o7 = 5 ∧ o7 < M) ∧ (w_X5_isMissing M (fun r10 σ9 => ((r10 = 0 → (w_X5_isMissing M (fun r13 σ12 => ((r13 = 0 → (((gi σ12 o5 1) = (gi σ12 o7 1) → (w_X5_hasRow M (fun r17 σ16 => ((r17 = 0 → (post (-12) σ16)) ∧ (¬ (r17 = 0) → (w_X5_hasRow M (fun r20 σ19 => ((r20 = 0 → (post (-12) σ19)) ∧ (¬ (r20 = 0) → (w_X5_takeRow M (fun σ22 => (post a5 σ22)) o7 a4 o5 a2 a5 σ19)))) o7 a4 a5 σ16)))) o5 a2 a5 σ12)) ∧ (¬ ((gi σ12 o5 1) = (gi σ12 o7 1)) → (post (-13) σ12)))) ∧ (¬ (r13 = 0) → (post (-11) σ12)))) o7 σ9)) ∧ (¬ (r10 = 0) → (post (-11) σ9)))) o5 σ3)))))))) a3 σ1)) a1 σ
set_option maxHeartbeats 4000000 in
set_option maxRecDepth 20000 in
theorem m_X6_copy {Γ : Gm} {ad : Nat → Nat} {M : Nat} (l : Launch) (hM : 53 ≤ M) {post : Int32 → St → Prop} (a1 : Int32) (a2 : Int32) (a3 : Int32) (a4 : Int32) (a5 : Int32) (σ : St) (h : w_X6_copy M post a1 a2 a3 a4 a5 σ) : Ci l Γ YC M ad σ yX6_copy cX6_copy 8 (Option.some Jvm.ClassFile.FieldType.int) 2 0 0 [.ref (ad 0), .int a1, .int a2, .int a3, .int a4, .int a5] post := by
  refine g_start (by decide) (Nat.le_of_ble_eq_true rfl) ?_
  intro p e s m args below meth c ls hc hr hn hl hw
  have hc : CX Γ p s m args meth c cX6_copy RX6 8 := hc
  have hl : lv_has ls 8 [(0, .ref (ad 0)), (1, .int a1), (2, .int a2), (3, .int a3), (4, .int a4), (5, .int a5)] := hl
  have hx := hc.1
  have hb := hc.2.1
  unfold w_X6_copy at h
  generalize hHH : s.heap = H0 at hw ⊢
  refine lv_aload_n hx hb dX6_copy_0 rfl (lv_at hl 0 rfl) ?_
  refine lv_iload_n hx hb dX6_copy_1 rfl (lv_at hl 1 rfl) ?_
  refine g_Ve (Y := YC) (ci := 6) (n := 1) (k := 0) (As := [.int a1]) (rest := []) rfl (by decide) vw_X6_258 ⟨Nat.le_of_ble_eq_true rfl, Nat.le_of_ble_eq_true rfl, Nat.zero_le _, Nat.zero_le _⟩ hc hw hl.1 (Nat.lt_of_lt_of_le (by decide) hM) rfl (m_X6_sheetAt l hM a1 σ h) rfl rfl (Nat.le_of_ble_eq_true rfl) dX6_copy_2 (fun q2 σ1 H locs h hw => ?_)
  refine g_astoreqW (lv' := [(6, va_rf (Option.map ad q2)), (0, .ref (ad 0)), (1, .int a1), (2, .int a2), (3, .int a3), (4, .int a4), (5, .int a5)]) hx hb dX6_copy_5 hl (by decide) rfl (fun ls hl => ?_)
  refine lv_aload_n hx hb dX6_copy_7 rfl (lv_at hl 1 rfl) ?_
  refine lv_iload_n hx hb dX6_copy_8 rfl (lv_at hl 4 rfl) ?_
  refine g_Ve (Y := YC) (ci := 6) (n := 1) (k := 0) (As := [.int a3]) (rest := []) rfl (by decide) vw_X6_258 ⟨Nat.le_of_ble_eq_true rfl, Nat.le_of_ble_eq_true rfl, Nat.zero_le _, Nat.zero_le _⟩ hc hw hl.1 (Nat.lt_of_lt_of_le (by decide) hM) rfl (m_X6_sheetAt l hM a3 σ1 h) rfl rfl (Nat.le_of_ble_eq_true rfl) dX6_copy_9 (fun q4 σ3 H locs h hw => ?_)
  refine g_astoreqW (lv' := [(7, va_rf (Option.map ad q4)), (6, va_rf (Option.map ad q2)), (0, .ref (ad 0)), (1, .int a1), (2, .int a2), (3, .int a3), (4, .int a4), (5, .int a5)]) hx hb dX6_copy_12 hl (by decide) (by clear h; cases q2 <;> rfl) (fun ls hl => ?_)
  refine g_aloadqW hx hb dX6_copy_14 (lv_at hl 1 rfl) ?_
  refine g_ifnull (tgt := 24) hx hb dX6_copy_16 (by decide) (fun hn6 => ?_) (fun o5 hn6 => ?_)
  · replace h := h.1 hn6
    try rw [hn6] at hl
    try rw [hn6]
    have hl : lv_has ls 8 [(7, va_rf (Option.map ad q4)), (6, .null), (0, .ref (ad 0)), (1, .int a1), (2, .int a2), (3, .int a3), (4, .int a4), (5, .int a5)] := hl
    refine lv_bipush (v := (-2)) hx hb dX6_copy_24 (by decide) ?_
    exact g_iret hc hr hw h dX6_copy_26
  · replace h := h.2 o5 hn6
    try rw [hn6] at hl
    try rw [hn6]
    have hf_o5 := h.1
    replace h := h.2
    have hl : lv_has ls 8 [(7, va_rf (Option.map ad q4)), (6, .ref (ad o5)), (0, .ref (ad 0)), (1, .int a1), (2, .int a2), (3, .int a3), (4, .int a4), (5, .int a5)] := hl
    refine g_aloadqW hx hb dX6_copy_19 (lv_at hl 0 rfl) ?_
    refine g_ifnonnull (tgt := 27) hx hb dX6_copy_21 (by decide) (fun o7 hn8 => ?_) (fun hn8 => ?_)
    · replace h := h.2 o7 hn8
      try rw [hn8] at hl
      try rw [hn8]
      have hf_o7 := h.1
      replace h := h.2
      have hl : lv_has ls 8 [(7, .ref (ad o7)), (6, .ref (ad o5)), (0, .ref (ad 0)), (1, .int a1), (2, .int a2), (3, .int a3), (4, .int a4), (5, .int a5)] := hl
      refine lv_aload hx hb dX6_copy_27 (lv_at hl 1 rfl) ?_
      refine g_Vi (Y := YC) (ci := 5) (n := 0) (k := 0) (As := []) (rest := []) rfl (by decide) vw_X6_297 ⟨Nat.le_of_ble_eq_true rfl, Nat.le_of_ble_eq_true rfl, Nat.zero_le _, Nat.zero_le _⟩ hc hw hl.1 hf_o5.2 hf_o5.1 (m_X5_isMissing l hM o5 σ3 h) rfl rfl (Nat.le_of_ble_eq_true rfl) dX6_copy_29 (fun r10 σ9 H locs h hw => ?_)
      refine lv_if_ne (tgt := 43) hx hb dX6_copy_32 (by decide) (fun c11 => ?_) (fun c11 => ?_)
      · replace h := h.2 c11
        refine lv_bipush (v := (-11)) hx hb dX6_copy_43 (by decide) ?_
        exact g_iret hc hr hw h dX6_copy_45
      · replace h := h.1 c11
        refine lv_aload hx hb dX6_copy_35 (lv_at hl 0 rfl) ?_
        refine g_Vi (Y := YC) (ci := 5) (n := 0) (k := 0) (As := []) (rest := []) rfl (by decide) vw_X6_297 ⟨Nat.le_of_ble_eq_true rfl, Nat.le_of_ble_eq_true rfl, Nat.zero_le _, Nat.zero_le _⟩ hc hw hl.1 hf_o7.2 hf_o7.1 (m_X5_isMissing l hM o7 σ9 h) rfl rfl (Nat.le_of_ble_eq_true rfl) dX6_copy_37 (fun r13 σ12 H locs h hw => ?_)
        refine lv_if_eq (tgt := 46) hx hb dX6_copy_40 (by decide) (fun c14 => ?_) (fun c14 => ?_)
        · replace h := h.1 c14
          refine lv_aload hx hb dX6_copy_46 (lv_at hl 1 rfl) ?_
          refine fg_X6_303 (o := o5) hc hw hf_o5.2 hf_o5.1 dX6_copy_48 ?_
          refine lv_aload hx hb dX6_copy_51 (lv_at hl 0 rfl) ?_
          refine fg_X6_303 (o := o7) hc hw hf_o7.2 hf_o7.1 dX6_copy_53 ?_
          refine lv_icmp_eq (tgt := 62) hx hb dX6_copy_56 (by decide) (fun c15 => ?_) (fun c15 => ?_)
          · replace h := h.1 c15
            refine lv_aload hx hb dX6_copy_62 (lv_at hl 1 rfl) ?_
            refine lv_iload_n hx hb dX6_copy_64 rfl (lv_at hl 4 rfl) ?_
            refine lv_iload hx hb dX6_copy_65 (lv_at hl 7 rfl) ?_
            refine g_Vi (Y := YC) (ci := 5) (n := 2) (k := 0) (As := [.int a2, .int a5]) (rest := []) rfl (by decide) vw_X6_300 ⟨Nat.le_of_ble_eq_true rfl, Nat.le_of_ble_eq_true rfl, Nat.zero_le _, Nat.zero_le _⟩ hc hw hl.1 hf_o5.2 hf_o5.1 (m_X5_hasRow l hM o5 a2 a5 σ12 h) rfl rfl (Nat.le_of_ble_eq_true rfl) dX6_copy_67 (fun r17 σ16 H locs h hw => ?_)
            refine lv_if_eq (tgt := 85) hx hb dX6_copy_70 (by decide) (fun c18 => ?_) (fun c18 => ?_)
            · replace h := h.1 c18
              refine lv_bipush (v := (-12)) hx hb dX6_copy_85 (by decide) ?_
              exact g_iret hc hr hw h dX6_copy_87
            · replace h := h.2 c18
              refine lv_aload hx hb dX6_copy_73 (lv_at hl 0 rfl) ?_
              refine lv_iload hx hb dX6_copy_75 (lv_at hl 6 rfl) ?_
              refine lv_iload hx hb dX6_copy_77 (lv_at hl 7 rfl) ?_
              refine g_Vi (Y := YC) (ci := 5) (n := 2) (k := 0) (As := [.int a4, .int a5]) (rest := []) rfl (by decide) vw_X6_300 ⟨Nat.le_of_ble_eq_true rfl, Nat.le_of_ble_eq_true rfl, Nat.zero_le _, Nat.zero_le _⟩ hc hw hl.1 hf_o7.2 hf_o7.1 (m_X5_hasRow l hM o7 a4 a5 σ16 h) rfl rfl (Nat.le_of_ble_eq_true rfl) dX6_copy_79 (fun r20 σ19 H locs h hw => ?_)
              refine lv_if_ne (tgt := 88) hx hb dX6_copy_82 (by decide) (fun c21 => ?_) (fun c21 => ?_)
              · replace h := h.2 c21
                refine lv_aload hx hb dX6_copy_88 (lv_at hl 0 rfl) ?_
                refine lv_iload hx hb dX6_copy_90 (lv_at hl 6 rfl) ?_
                refine lv_aload hx hb dX6_copy_92 (lv_at hl 1 rfl) ?_
                refine lv_iload_n hx hb dX6_copy_94 rfl (lv_at hl 4 rfl) ?_
                refine lv_iload hx hb dX6_copy_95 (lv_at hl 7 rfl) ?_
                refine g_Vv (Y := YC) (ci := 5) (n := 4) (k := 1) (As := [.int a4, .ref (ad o5), .int a2, .int a5]) (rest := []) rfl (by decide) vw_X6_306 ⟨Nat.le_of_ble_eq_true rfl, Nat.le_of_ble_eq_true rfl, Nat.zero_le _, Nat.zero_le _⟩ hc hw hl.1 hf_o7.2 hf_o7.1 (m_X5_takeRow l hM o7 a4 o5 a2 a5 σ19 h) rfl rfl (Nat.le_of_ble_eq_true rfl) dX6_copy_97 (fun σ22 H locs h hw => ?_)
                refine lv_iload hx hb dX6_copy_100 (lv_at hl 7 rfl) ?_
                exact g_iret hc hr hw h dX6_copy_102
              · replace h := h.1 c21
                refine lv_bipush (v := (-12)) hx hb dX6_copy_85 (by decide) ?_
                exact g_iret hc hr hw h dX6_copy_87
          · replace h := h.2 c15
            refine lv_bipush (v := (-13)) hx hb dX6_copy_59 (by decide) ?_
            exact g_iret hc hr hw h dX6_copy_61
        · replace h := h.2 c14
          refine lv_bipush (v := (-11)) hx hb dX6_copy_43 (by decide) ?_
          exact g_iret hc hr hw h dX6_copy_45
    · replace h := h.1 hn8
      try rw [hn8] at hl
      try rw [hn8]
      have hl : lv_has ls 8 [(7, .null), (6, .ref (ad o5)), (0, .ref (ad 0)), (1, .int a1), (2, .int a2), (3, .int a3), (4, .int a4), (5, .int a5)] := hl
      refine lv_bipush (v := (-2)) hx hb dX6_copy_24 (by decide) ?_
      exact g_iret hc hr hw h dX6_copy_26
def w_X6_actsBy_65 (M : Nat) (post : Int32 → St → Prop) (k_65 : Int32 → Int32 → Option Nat → Int32 → Int32 → St → Prop) (v3 : Int32) (v4 : Int32) (v5 : Option Nat) (v6 : Int32) (v7 : Int32) (σ : St) : Prop :=
  (v4 ≤ v7 → (post v6 σ)) ∧ (¬ (v4 ≤ v7) → (∃ o2 : Nat, v5 = some o2 ∧ (kdC o2 = 5 ∧ o2 < M) ∧ (w_X5_hasRow M (fun r4 σ3 => ((r4 = 0 → (post (-12) σ3)) ∧ (¬ (r4 = 0) → (w_X5_tell M (fun r7 σ6 => (w_X5_tell M (fun r9 σ8 => (w_X5_tell M (fun r11 σ10 => (w_X6_act M (fun r13 σ12 => ((r13 < 0 → (∀ x15 : Int32, x15 = v7 + 1 → (k_65 v3 v4 (some o2) v6 x15 σ12))) ∧ (¬ (r13 < 0) → (∀ x16 : Int32, x16 = v6 + 1 → (∀ x17 : Int32, x17 = v7 + 1 → (k_65 v3 v4 (some o2) x16 x17 σ12)))))) r7 r9 r11 σ10)) o2 ((v3 + (3 * v7)) + 2) σ8)) o2 ((v3 + (3 * v7)) + 1) σ6)) o2 (v3 + (3 * v7)) σ3)))) o2 (v3 + (3 * v7)) 3 σ)))
set_option maxHeartbeats 4000000 in
set_option maxRecDepth 20000 in
theorem b_X6_actsBy_65 {Γ : Gm} {ad : Nat → Nat} {p : Program} {l : Launch} {e : Env} {s : State} {m : MethodId} {args : Array Value} {below : List Frame} {meth : Method} {c : Code} {M : Nat} (hM : 53 ≤ M) {post : Int32 → St → Prop} {k_65 : Int32 → Int32 → Option Nat → Int32 → Int32 → St → Prop} (hk_65 : ∀ (v3 : Int32) (v4 : Int32) (v5 : Option Nat) (v6 : Int32) (v7 : Int32) (σ : St) (H : Heap) (locs : List Loc) (ls : Array Slot), k_65 v3 v4 v5 v6 v7 σ → WH Γ YC M ad σ s H locs → lv_has ls 9 [(0, .ref (ad 0)), (3, .int v3), (4, .int v4), (5, va_rf (Option.map ad v5)), (6, .int v6), (7, .int v7)] → W p l e (rmL 2 0 0) s m args below meth c H locs 0 0 (MQ below (va_Qi post (fun u t => WC Γ YC M ad u t) (AA Γ)) args s 0 0 (AA Γ)) (F0 m 65 ls []))
    (v3 : Int32) (v4 : Int32) (v5 : Option Nat) (v6 : Int32) (v7 : Int32) (σ : St) (H : Heap) (locs : List Loc) (ls : Array Slot) (h : w_X6_actsBy_65 M post k_65 v3 v4 v5 v6 v7 σ) (hc : CX Γ p s m args meth c cX6_actsBy RX6 9) (hr : meth.sig.returnType = (Option.some Jvm.ClassFile.FieldType.int)) (hw : WH Γ YC M ad σ s H locs) (hl : lv_has ls 9 [(0, .ref (ad 0)), (3, .int v3), (4, .int v4), (5, va_rf (Option.map ad v5)), (6, .int v6), (7, .int v7)]) :
    W p l e (rmL 2 0 0) s m args below meth c H locs 0 0 (MQ below (va_Qi post (fun u t => WC Γ YC M ad u t) (AA Γ)) args s 0 0 (AA Γ)) (F0 m 65 ls []) := by
  have hx := hc.1
  have hb := hc.2.1
  unfold w_X6_actsBy_65 at h
  refine lv_iload hx hb dX6_actsBy_65 (lv_at hl 5 rfl) ?_
  refine lv_iload hx hb dX6_actsBy_67 (lv_at hl 2 rfl) ?_
  refine lv_icmp_ge (tgt := 135) hx hb dX6_actsBy_69 (by decide) (fun c1 => ?_) (fun c1 => ?_)
  · replace h := h.1 c1
    refine lv_iload hx hb dX6_actsBy_135 (lv_at hl 4 rfl) ?_
    exact g_iret hc hr hw h dX6_actsBy_137
  · replace h := h.2 c1
    refine lv_iload_n hx hb dX6_actsBy_72 rfl (lv_at hl 1 rfl) ?_
    refine lv_iconst (v := 3) hx hb dX6_actsBy_73 (by decide) ?_
    refine lv_iload hx hb dX6_actsBy_74 (lv_at hl 5 rfl) ?_
    refine lv_imul hx hb dX6_actsBy_76 ?_
    refine lv_iadd hx hb dX6_actsBy_77 ?_
    refine lv_istore (lv' := [(8, .int (v3 + (3 * v7))), (0, .ref (ad 0)), (3, .int v3), (4, .int v4), (5, va_rf (Option.map ad v5)), (6, .int v6), (7, .int v7)]) hx hb dX6_actsBy_78 hl (by decide) rfl (fun ls hl => ?_)
    refine g_aloadqW hx hb dX6_actsBy_80 (lv_at hl 4 rfl) ?_
    refine lv_iload hx hb dX6_actsBy_82 (lv_at hl 0 rfl) ?_
    refine lv_iconst (v := 3) hx hb dX6_actsBy_84 (by decide) ?_
    obtain ⟨o2, ho_o2, hf_o2, h⟩ := h
    try rw [ho_o2] at hl
    try rw [ho_o2]
    have hl : lv_has ls 9 [(8, .int (v3 + (3 * v7))), (0, .ref (ad 0)), (3, .int v3), (4, .int v4), (5, .ref (ad o2)), (6, .int v6), (7, .int v7)] := hl
    refine g_Vi (Y := YC) (ci := 5) (n := 2) (k := 0) (As := [.int (v3 + (3 * v7)), .int 3]) (rest := []) rfl (by decide) vw_X6_300 ⟨Nat.le_of_ble_eq_true rfl, Nat.le_of_ble_eq_true rfl, Nat.zero_le _, Nat.zero_le _⟩ hc hw hl.1 hf_o2.2 hf_o2.1 (m_X5_hasRow l hM o2 (v3 + (3 * v7)) 3 σ h) rfl rfl (Nat.le_of_ble_eq_true rfl) dX6_actsBy_85 (fun r4 σ3 H locs h hw => ?_)
    refine lv_if_ne (tgt := 94) hx hb dX6_actsBy_88 (by decide) (fun c5 => ?_) (fun c5 => ?_)
    · replace h := h.2 c5
      refine lv_aload_n hx hb dX6_actsBy_94 rfl (lv_at hl 1 rfl) ?_
      refine lv_aload hx hb dX6_actsBy_95 (lv_at hl 4 rfl) ?_
      refine lv_iload hx hb dX6_actsBy_97 (lv_at hl 0 rfl) ?_
      refine g_Vi (Y := YC) (ci := 5) (n := 1) (k := 1) (As := [.int (v3 + (3 * v7))]) (rest := [.ref (ad 0)]) rfl (by decide) vw_X6_266 ⟨Nat.le_of_ble_eq_true rfl, Nat.le_of_ble_eq_true rfl, Nat.zero_le _, Nat.zero_le _⟩ hc hw hl.1 hf_o2.2 hf_o2.1 (m_X5_tell l hM o2 (v3 + (3 * v7)) σ3 h) rfl rfl (Nat.le_of_ble_eq_true rfl) dX6_actsBy_99 (fun r7 σ6 H locs h hw => ?_)
      refine lv_aload hx hb dX6_actsBy_102 (lv_at hl 4 rfl) ?_
      refine lv_iload hx hb dX6_actsBy_104 (lv_at hl 0 rfl) ?_
      refine lv_iconst (v := 1) hx hb dX6_actsBy_106 (by decide) ?_
      refine lv_iadd hx hb dX6_actsBy_107 ?_
      refine g_Vi (Y := YC) (ci := 5) (n := 1) (k := 1) (As := [.int ((v3 + (3 * v7)) + 1)]) (rest := [.int r7, .ref (ad 0)]) rfl (by decide) vw_X6_266 ⟨Nat.le_of_ble_eq_true rfl, Nat.le_of_ble_eq_true rfl, Nat.zero_le _, Nat.zero_le _⟩ hc hw hl.1 hf_o2.2 hf_o2.1 (m_X5_tell l hM o2 ((v3 + (3 * v7)) + 1) σ6 h) rfl rfl (Nat.le_of_ble_eq_true rfl) dX6_actsBy_108 (fun r9 σ8 H locs h hw => ?_)
      refine lv_aload hx hb dX6_actsBy_111 (lv_at hl 4 rfl) ?_
      refine lv_iload hx hb dX6_actsBy_113 (lv_at hl 0 rfl) ?_
      refine lv_iconst (v := 2) hx hb dX6_actsBy_115 (by decide) ?_
      refine lv_iadd hx hb dX6_actsBy_116 ?_
      refine g_Vi (Y := YC) (ci := 5) (n := 1) (k := 1) (As := [.int ((v3 + (3 * v7)) + 2)]) (rest := [.int r9, .int r7, .ref (ad 0)]) rfl (by decide) vw_X6_266 ⟨Nat.le_of_ble_eq_true rfl, Nat.le_of_ble_eq_true rfl, Nat.zero_le _, Nat.zero_le _⟩ hc hw hl.1 hf_o2.2 hf_o2.1 (m_X5_tell l hM o2 ((v3 + (3 * v7)) + 2) σ8 h) rfl rfl (Nat.le_of_ble_eq_true rfl) dX6_actsBy_117 (fun r11 σ10 H locs h hw => ?_)
      refine g_Vi (Y := YC) (ci := 6) (n := 3) (k := 1) (As := [.int r7, .int r9, .int r11]) (rest := []) rfl (by decide) vw_X6_310 ⟨Nat.le_of_ble_eq_true rfl, Nat.le_of_ble_eq_true rfl, Nat.zero_le _, Nat.zero_le _⟩ hc hw hl.1 (Nat.lt_of_lt_of_le (by decide) hM) rfl (m_X6_act l hM r7 r9 r11 σ10 h) rfl rfl (Nat.le_of_ble_eq_true rfl) dX6_actsBy_120 (fun r13 σ12 H locs h hw => ?_)
      refine lv_if_lt (tgt := 129) hx hb dX6_actsBy_123 (by decide) (fun c14 => ?_) (fun c14 => ?_)
      · replace h := h.1 c14
        obtain ⟨x15, ex15⟩ : ∃ z, z = v7 + 1 := ⟨_, rfl⟩
        replace h := h x15 ex15
        refine lv_iinc (v := x15) (lv' := [(7, .int x15), (8, .int (v3 + (3 * v7))), (0, .ref (ad 0)), (3, .int v3), (4, .int v4), (5, .ref (ad o2)), (6, .int v6)]) hx hb dX6_actsBy_129 hl (k := 6) rfl (by rw [ex15]; rfl) (by decide) rfl (fun ls hl => ?_)
        refine lv_goto (tgt := 65) hx hb dX6_actsBy_132 (by decide) ?_
        exact hk_65 v3 v4 (some o2) v6 x15 σ12 _ _ _ h  hw (lv_sub hl [2, 3, 4, 5, 6, 0] rfl)
      · replace h := h.2 c14
        obtain ⟨x16, ex16⟩ : ∃ z, z = v6 + 1 := ⟨_, rfl⟩
        replace h := h x16 ex16
        refine lv_iinc (v := x16) (lv' := [(6, .int x16), (8, .int (v3 + (3 * v7))), (0, .ref (ad 0)), (3, .int v3), (4, .int v4), (5, .ref (ad o2)), (7, .int v7)]) hx hb dX6_actsBy_126 hl (k := 5) rfl (by rw [ex16]; rfl) (by decide) rfl (fun ls hl => ?_)
        obtain ⟨x17, ex17⟩ : ∃ z, z = v7 + 1 := ⟨_, rfl⟩
        replace h := h x17 ex17
        refine lv_iinc (v := x17) (lv' := [(7, .int x17), (6, .int x16), (8, .int (v3 + (3 * v7))), (0, .ref (ad 0)), (3, .int v3), (4, .int v4), (5, .ref (ad o2))]) hx hb dX6_actsBy_129 hl (k := 6) rfl (by rw [ex17]; rfl) (by decide) rfl (fun ls hl => ?_)
        refine lv_goto (tgt := 65) hx hb dX6_actsBy_132 (by decide) ?_
        exact hk_65 v3 v4 (some o2) x16 x17 σ12 _ _ _ h  hw (lv_sub hl [3, 4, 5, 6, 1, 0] rfl)
    · replace h := h.1 c5
      refine lv_bipush (v := (-12)) hx hb dX6_actsBy_91 (by decide) ?_
      exact g_iret hc hr hw h dX6_actsBy_93
def wl_X6_actsBy_65 (M : Nat) (post : Int32 → St → Prop) : Nat → Int32 → Int32 → Option Nat → Int32 → Int32 → St → Prop
  | 0, _, _, _, _, _, _ => False
  | n + 1, v3, v4, v5, v6, v7, σ => w_X6_actsBy_65 M post (wl_X6_actsBy_65 M post n) v3 v4 v5 v6 v7 σ
set_option maxHeartbeats 4000000 in
theorem bl_X6_actsBy_65 {Γ : Gm} {ad : Nat → Nat} {p : Program} {l : Launch} {e : Env} {s : State} {m : MethodId} {args : Array Value} {below : List Frame} {meth : Method} {c : Code} {M : Nat} (hM : 53 ≤ M) {post : Int32 → St → Prop}
    (hc : CX Γ p s m args meth c cX6_actsBy RX6 9) (hr : meth.sig.returnType = (Option.some Jvm.ClassFile.FieldType.int)) :
    ∀ (n : Nat) (v3 : Int32) (v4 : Int32) (v5 : Option Nat) (v6 : Int32) (v7 : Int32) (σ : St) (H : Heap) (locs : List Loc) (ls : Array Slot), wl_X6_actsBy_65 M post n v3 v4 v5 v6 v7 σ → WH Γ YC M ad σ s H locs → lv_has ls 9 [(0, .ref (ad 0)), (3, .int v3), (4, .int v4), (5, va_rf (Option.map ad v5)), (6, .int v6), (7, .int v7)] → W p l e (rmL 2 0 0) s m args below meth c H locs 0 0 (MQ below (va_Qi post (fun u t => WC Γ YC M ad u t) (AA Γ)) args s 0 0 (AA Γ)) (F0 m 65 ls []) := by
  intro n
  induction n with
  | zero => intro v3 v4 v5 v6 v7 σ H locs ls h; exact h.elim
  | succ n ih =>
    intro v3 v4 v5 v6 v7 σ H locs ls h  hw hl
    exact b_X6_actsBy_65 hM ih v3 v4 v5 v6 v7 σ H locs ls h  hc hr hw hl
def w_X6_actsBy (M : Nat) (post : Int32 → St → Prop) (a1 : Int32) (a2 : Int32) (a3 : Int32) (a4 : Int32) (σ : St) : Prop :=
  w_X6_sheetAt M (fun q2 σ1 => ((q2 = none → (post (-2) σ1)) ∧ (∀ o3 : Nat, q2 = some o3 → ((kdC o3 = 5 ∧ o3 < M) ∧ ((a2 < 0 → (post (-2) σ1)) ∧ (¬ (a2 < 0) → ((2 < a2 → (post (-2) σ1)) ∧ (¬ (2 < a2) → ((a4 < 0 → (post (-2) σ1)) ∧ (¬ (a4 < 0) → ((a4 ≤ 12 → (w_X5_isMissing M (fun r10 σ9 => ((r10 = 0 → (((gi σ9 o3 1) = a2 → (∃ n, wl_X6_actsBy_65 M post n a3 a4 (some o3) 0 0 σ9)) ∧ (¬ ((gi σ9 o3 1) = a2) → (post (-13) σ9)))) ∧ (¬ (r10 = 0) → (post (-11) σ9)))) o3 σ1)) ∧ (¬ (a4 ≤ 12) → (post (-2) σ1))))))))))))) a1 σ
set_option maxHeartbeats 4000000 in
set_option maxRecDepth 20000 in
theorem m_X6_actsBy {Γ : Gm} {ad : Nat → Nat} {M : Nat} (l : Launch) (hM : 53 ≤ M) {post : Int32 → St → Prop} (a1 : Int32) (a2 : Int32) (a3 : Int32) (a4 : Int32) (σ : St) (h : w_X6_actsBy M post a1 a2 a3 a4 σ) : Ci l Γ YC M ad σ yX6_actsBy cX6_actsBy 9 (Option.some Jvm.ClassFile.FieldType.int) 2 0 0 [.ref (ad 0), .int a1, .int a2, .int a3, .int a4] post := by
  refine g_start (by decide) (Nat.le_of_ble_eq_true rfl) ?_
  intro p e s m args below meth c ls hc hr hn hl hw
  have hc : CX Γ p s m args meth c cX6_actsBy RX6 9 := hc
  have hl : lv_has ls 9 [(0, .ref (ad 0)), (1, .int a1), (2, .int a2), (3, .int a3), (4, .int a4)] := hl
  have hx := hc.1
  have hb := hc.2.1
  unfold w_X6_actsBy at h
  generalize hHH : s.heap = H0 at hw ⊢
  refine lv_aload_n hx hb dX6_actsBy_0 rfl (lv_at hl 0 rfl) ?_
  refine lv_iload_n hx hb dX6_actsBy_1 rfl (lv_at hl 1 rfl) ?_
  refine g_Ve (Y := YC) (ci := 6) (n := 1) (k := 0) (As := [.int a1]) (rest := []) rfl (by decide) vw_X6_258 ⟨Nat.le_of_ble_eq_true rfl, Nat.le_of_ble_eq_true rfl, Nat.zero_le _, Nat.zero_le _⟩ hc hw hl.1 (Nat.lt_of_lt_of_le (by decide) hM) rfl (m_X6_sheetAt l hM a1 σ h) rfl rfl (Nat.le_of_ble_eq_true rfl) dX6_actsBy_2 (fun q2 σ1 H locs h hw => ?_)
  refine g_astoreqW (lv' := [(5, va_rf (Option.map ad q2)), (0, .ref (ad 0)), (1, .int a1), (2, .int a2), (3, .int a3), (4, .int a4)]) hx hb dX6_actsBy_5 hl (by decide) rfl (fun ls hl => ?_)
  refine g_aloadqW hx hb dX6_actsBy_7 (lv_at hl 0 rfl) ?_
  refine g_ifnull (tgt := 33) hx hb dX6_actsBy_9 (by decide) (fun hn4 => ?_) (fun o3 hn4 => ?_)
  · replace h := h.1 hn4
    try rw [hn4] at hl
    try rw [hn4]
    have hl : lv_has ls 9 [(5, .null), (0, .ref (ad 0)), (1, .int a1), (2, .int a2), (3, .int a3), (4, .int a4)] := hl
    refine lv_bipush (v := (-2)) hx hb dX6_actsBy_33 (by decide) ?_
    exact g_iret hc hr hw h dX6_actsBy_35
  · replace h := h.2 o3 hn4
    try rw [hn4] at hl
    try rw [hn4]
    have hf_o3 := h.1
    replace h := h.2
    have hl : lv_has ls 9 [(5, .ref (ad o3)), (0, .ref (ad 0)), (1, .int a1), (2, .int a2), (3, .int a3), (4, .int a4)] := hl
    refine lv_iload_n hx hb dX6_actsBy_12 rfl (lv_at hl 3 rfl) ?_
    refine lv_if_lt (tgt := 33) hx hb dX6_actsBy_13 (by decide) (fun c5 => ?_) (fun c5 => ?_)
    · replace h := h.1 c5
      refine lv_bipush (v := (-2)) hx hb dX6_actsBy_33 (by decide) ?_
      exact g_iret hc hr hw h dX6_actsBy_35
    · replace h := h.2 c5
      refine lv_iload_n hx hb dX6_actsBy_16 rfl (lv_at hl 3 rfl) ?_
      refine lv_iconst (v := 2) hx hb dX6_actsBy_17 (by decide) ?_
      refine lv_icmp_gt (tgt := 33) hx hb dX6_actsBy_18 (by decide) (fun c6 => ?_) (fun c6 => ?_)
      · replace h := h.1 c6
        refine lv_bipush (v := (-2)) hx hb dX6_actsBy_33 (by decide) ?_
        exact g_iret hc hr hw h dX6_actsBy_35
      · replace h := h.2 c6
        refine lv_iload hx hb dX6_actsBy_21 (lv_at hl 5 rfl) ?_
        refine lv_if_lt (tgt := 33) hx hb dX6_actsBy_23 (by decide) (fun c7 => ?_) (fun c7 => ?_)
        · replace h := h.1 c7
          refine lv_bipush (v := (-2)) hx hb dX6_actsBy_33 (by decide) ?_
          exact g_iret hc hr hw h dX6_actsBy_35
        · replace h := h.2 c7
          refine lv_iload hx hb dX6_actsBy_26 (lv_at hl 5 rfl) ?_
          refine lv_bipush (v := 12) hx hb dX6_actsBy_28 (by decide) ?_
          refine lv_icmp_le (tgt := 36) hx hb dX6_actsBy_30 (by decide) (fun c8 => ?_) (fun c8 => ?_)
          · replace h := h.1 c8
            refine lv_aload hx hb dX6_actsBy_36 (lv_at hl 0 rfl) ?_
            refine g_Vi (Y := YC) (ci := 5) (n := 0) (k := 0) (As := []) (rest := []) rfl (by decide) vw_X6_297 ⟨Nat.le_of_ble_eq_true rfl, Nat.le_of_ble_eq_true rfl, Nat.zero_le _, Nat.zero_le _⟩ hc hw hl.1 hf_o3.2 hf_o3.1 (m_X5_isMissing l hM o3 σ1 h) rfl rfl (Nat.le_of_ble_eq_true rfl) dX6_actsBy_38 (fun r10 σ9 H locs h hw => ?_)
            refine lv_if_eq (tgt := 47) hx hb dX6_actsBy_41 (by decide) (fun c11 => ?_) (fun c11 => ?_)
            · replace h := h.1 c11
              refine lv_aload hx hb dX6_actsBy_47 (lv_at hl 0 rfl) ?_
              refine fg_X6_303 (o := o3) hc hw hf_o3.2 hf_o3.1 dX6_actsBy_49 ?_
              refine lv_iload_n hx hb dX6_actsBy_52 rfl (lv_at hl 3 rfl) ?_
              refine lv_icmp_eq (tgt := 59) hx hb dX6_actsBy_53 (by decide) (fun c12 => ?_) (fun c12 => ?_)
              · replace h := h.1 c12
                refine lv_iconst (v := 0) hx hb dX6_actsBy_59 (by decide) ?_
                refine lv_istore (lv' := [(6, .int 0), (5, .ref (ad o3)), (0, .ref (ad 0)), (1, .int a1), (2, .int a2), (3, .int a3), (4, .int a4)]) hx hb dX6_actsBy_60 hl (by decide) rfl (fun ls hl => ?_)
                refine lv_iconst (v := 0) hx hb dX6_actsBy_62 (by decide) ?_
                refine lv_istore (lv' := [(7, .int 0), (6, .int 0), (5, .ref (ad o3)), (0, .ref (ad 0)), (1, .int a1), (2, .int a2), (3, .int a3), (4, .int a4)]) hx hb dX6_actsBy_63 hl (by decide) rfl (fun ls hl => ?_)
                obtain ⟨n, h⟩ := h
                exact bl_X6_actsBy_65 hM hc hr n a3 a4 (some o3) 0 0 σ9 _ _ _ h  hw (lv_sub hl [3, 6, 7, 2, 1, 0] rfl)
              · replace h := h.2 c12
                refine lv_bipush (v := (-13)) hx hb dX6_actsBy_56 (by decide) ?_
                exact g_iret hc hr hw h dX6_actsBy_58
            · replace h := h.2 c11
              refine lv_bipush (v := (-11)) hx hb dX6_actsBy_44 (by decide) ?_
              exact g_iret hc hr hw h dX6_actsBy_46
          · replace h := h.2 c8
            refine lv_bipush (v := (-2)) hx hb dX6_actsBy_33 (by decide) ?_
            exact g_iret hc hr hw h dX6_actsBy_35
def w_X6_taken_37 (M : Nat) (post : Int32 → St → Prop) (v1 : Int32) (v2 : Int32) (t0 : Int32) (σ : St) : Prop :=
  (4 ≤ v1 → (w_X6_actAt M (fun q3 σ2 => ((q3 = none → (post (-11) σ2)) ∧ (∀ o4 : Nat, q3 = some o4 → ((kdC o4 = 0 ∧ o4 < M) ∧ ((t0 = 0 → (w_X0_isOne M (fun r8 σ7 => ((r8 = 0 → (post (-13) σ7)) ∧ (¬ (r8 = 0) → (post (v1 - 4) σ7)))) o4 v2 σ2)) ∧ (¬ (t0 = 0) → (post (-13) σ2))))))) (v1 - 4) σ)) ∧ (¬ (4 ≤ v1) → (w_X6_cheeseAt M (fun q11 σ10 => ((q11 = none → (post (-11) σ10)) ∧ (∀ o12 : Nat, q11 = some o12 → ((kdC o12 = 1 ∧ o12 < M) ∧ ((t0 = 0 → (post (-13) σ10)) ∧ (¬ (t0 = 0) → (w_X1_tell M (fun r16 σ15 => (post r16 σ15)) o12 0 σ10))))))) v1 σ))
set_option maxHeartbeats 4000000 in
set_option maxRecDepth 20000 in
theorem b_X6_taken_37 {Γ : Gm} {ad : Nat → Nat} {p : Program} {l : Launch} {e : Env} {s : State} {m : MethodId} {args : Array Value} {below : List Frame} {meth : Method} {c : Code} {M : Nat} (hM : 53 ≤ M) {post : Int32 → St → Prop}
    (v1 : Int32) (v2 : Int32) (t0 : Int32) (σ : St) (H : Heap) (locs : List Loc) (ls : Array Slot) (h : w_X6_taken_37 M post v1 v2 t0 σ) (hc : CX Γ p s m args meth c cX6_taken RX6 5) (hr : meth.sig.returnType = (Option.some Jvm.ClassFile.FieldType.int)) (hw : WH Γ YC M ad σ s H locs) (hl : lv_has ls 5 [(0, .ref (ad 0)), (1, .int v1), (2, .int v2)]) :
    W p l e (rmL 2 0 0) s m args below meth c H locs 0 0 (MQ below (va_Qi post (fun u t => WC Γ YC M ad u t) (AA Γ)) args s 0 0 (AA Γ)) (F0 m 37 ls [.int t0]) := by
  have hx := hc.1
  have hb := hc.2.1
  unfold w_X6_taken_37 at h
  refine lv_istore_n (lv' := [(3, .int t0), (0, .ref (ad 0)), (1, .int v1), (2, .int v2)]) hx hb dX6_taken_37 rfl hl (by decide) rfl (fun ls hl => ?_)
  refine lv_iload_n hx hb dX6_taken_38 rfl (lv_at hl 2 rfl) ?_
  refine lv_iconst (v := 4) hx hb dX6_taken_39 (by decide) ?_
  refine lv_icmp_ge (tgt := 74) hx hb dX6_taken_40 (by decide) (fun c1 => ?_) (fun c1 => ?_)
  · replace h := h.1 c1
    refine lv_aload_n hx hb dX6_taken_74 rfl (lv_at hl 1 rfl) ?_
    refine lv_iload_n hx hb dX6_taken_75 rfl (lv_at hl 2 rfl) ?_
    refine lv_iconst (v := 4) hx hb dX6_taken_76 (by decide) ?_
    refine lv_isub hx hb dX6_taken_77 ?_
    refine g_Ve (Y := YC) (ci := 6) (n := 1) (k := 0) (As := [.int (v1 - 4)]) (rest := []) rfl (by decide) vw_X6_141 ⟨Nat.le_of_ble_eq_true rfl, Nat.le_of_ble_eq_true rfl, Nat.zero_le _, Nat.zero_le _⟩ hc hw hl.1 (Nat.lt_of_lt_of_le (by decide) hM) rfl (m_X6_actAt l hM (v1 - 4) σ h) rfl rfl (Nat.le_of_ble_eq_true rfl) dX6_taken_78 (fun q3 σ2 H locs h hw => ?_)
    refine g_astoreqW (lv' := [(4, va_rf (Option.map ad q3)), (3, .int t0), (0, .ref (ad 0)), (1, .int v1), (2, .int v2)]) hx hb dX6_taken_81 hl (by decide) rfl (fun ls hl => ?_)
    refine g_aloadqW hx hb dX6_taken_83 (lv_at hl 0 rfl) ?_
    refine g_ifnonnull (tgt := 91) hx hb dX6_taken_85 (by decide) (fun o4 hn5 => ?_) (fun hn5 => ?_)
    · replace h := h.2 o4 hn5
      try rw [hn5] at hl
      try rw [hn5]
      have hf_o4 := h.1
      replace h := h.2
      have hl : lv_has ls 5 [(4, .ref (ad o4)), (3, .int t0), (0, .ref (ad 0)), (1, .int v1), (2, .int v2)] := hl
      refine lv_iload_n hx hb dX6_taken_91 rfl (lv_at hl 1 rfl) ?_
      refine lv_if_ne (tgt := 110) hx hb dX6_taken_92 (by decide) (fun c6 => ?_) (fun c6 => ?_)
      · replace h := h.2 c6
        refine lv_bipush (v := (-13)) hx hb dX6_taken_110 (by decide) ?_
        exact g_iret hc hr hw h dX6_taken_112
      · replace h := h.1 c6
        refine lv_aload hx hb dX6_taken_95 (lv_at hl 0 rfl) ?_
        refine lv_iload_n hx hb dX6_taken_97 rfl (lv_at hl 4 rfl) ?_
        refine g_Vi (Y := YC) (ci := 0) (n := 1) (k := 0) (As := [.int v2]) (rest := []) rfl (by decide) vw_X6_313 ⟨Nat.le_of_ble_eq_true rfl, Nat.le_of_ble_eq_true rfl, Nat.zero_le _, Nat.zero_le _⟩ hc hw hl.1 hf_o4.2 hf_o4.1 (m_X0_isOne l hM o4 v2 σ2 h) rfl rfl (Nat.le_of_ble_eq_true rfl) dX6_taken_98 (fun r8 σ7 H locs h hw => ?_)
        refine lv_if_eq (tgt := 110) hx hb dX6_taken_101 (by decide) (fun c9 => ?_) (fun c9 => ?_)
        · replace h := h.1 c9
          refine lv_bipush (v := (-13)) hx hb dX6_taken_110 (by decide) ?_
          exact g_iret hc hr hw h dX6_taken_112
        · replace h := h.2 c9
          refine lv_iload_n hx hb dX6_taken_104 rfl (lv_at hl 3 rfl) ?_
          refine lv_iconst (v := 4) hx hb dX6_taken_105 (by decide) ?_
          refine lv_isub hx hb dX6_taken_106 ?_
          refine lv_goto (tgt := 112) hx hb dX6_taken_107 (by decide) ?_
          exact g_iret hc hr hw h dX6_taken_112
    · replace h := h.1 hn5
      try rw [hn5] at hl
      try rw [hn5]
      have hl : lv_has ls 5 [(4, .null), (3, .int t0), (0, .ref (ad 0)), (1, .int v1), (2, .int v2)] := hl
      refine lv_bipush (v := (-11)) hx hb dX6_taken_88 (by decide) ?_
      exact g_iret hc hr hw h dX6_taken_90
  · replace h := h.2 c1
    refine lv_aload_n hx hb dX6_taken_43 rfl (lv_at hl 1 rfl) ?_
    refine lv_iload_n hx hb dX6_taken_44 rfl (lv_at hl 2 rfl) ?_
    refine g_Ve (Y := YC) (ci := 6) (n := 1) (k := 0) (As := [.int v1]) (rest := []) rfl (by decide) vw_X6_101 ⟨Nat.le_of_ble_eq_true rfl, Nat.le_of_ble_eq_true rfl, Nat.zero_le _, Nat.zero_le _⟩ hc hw hl.1 (Nat.lt_of_lt_of_le (by decide) hM) rfl (m_X6_cheeseAt l hM v1 σ h) rfl rfl (Nat.le_of_ble_eq_true rfl) dX6_taken_45 (fun q11 σ10 H locs h hw => ?_)
    refine g_astoreqW (lv' := [(4, va_rf (Option.map ad q11)), (3, .int t0), (0, .ref (ad 0)), (1, .int v1), (2, .int v2)]) hx hb dX6_taken_48 hl (by decide) rfl (fun ls hl => ?_)
    refine g_aloadqW hx hb dX6_taken_50 (lv_at hl 0 rfl) ?_
    refine g_ifnonnull (tgt := 58) hx hb dX6_taken_52 (by decide) (fun o12 hn13 => ?_) (fun hn13 => ?_)
    · replace h := h.2 o12 hn13
      try rw [hn13] at hl
      try rw [hn13]
      have hf_o12 := h.1
      replace h := h.2
      have hl : lv_has ls 5 [(4, .ref (ad o12)), (3, .int t0), (0, .ref (ad 0)), (1, .int v1), (2, .int v2)] := hl
      refine lv_iload_n hx hb dX6_taken_58 rfl (lv_at hl 1 rfl) ?_
      refine lv_if_eq (tgt := 71) hx hb dX6_taken_59 (by decide) (fun c14 => ?_) (fun c14 => ?_)
      · replace h := h.1 c14
        refine lv_bipush (v := (-13)) hx hb dX6_taken_71 (by decide) ?_
        exact g_iret hc hr hw h dX6_taken_73
      · replace h := h.2 c14
        refine lv_aload hx hb dX6_taken_62 (lv_at hl 0 rfl) ?_
        refine lv_iconst (v := 0) hx hb dX6_taken_64 (by decide) ?_
        refine g_Vi (Y := YC) (ci := 1) (n := 1) (k := 1) (As := [.int 0]) (rest := []) rfl (by decide) vw_X6_109 ⟨Nat.le_of_ble_eq_true rfl, Nat.le_of_ble_eq_true rfl, Nat.zero_le _, Nat.zero_le _⟩ hc hw hl.1 hf_o12.2 hf_o12.1 (m_X1_tell l hM o12 0 σ10 h) rfl rfl (Nat.le_of_ble_eq_true rfl) dX6_taken_65 (fun r16 σ15 H locs h hw => ?_)
        refine lv_goto (tgt := 73) hx hb dX6_taken_68 (by decide) ?_
        exact g_iret hc hr hw h dX6_taken_73
    · replace h := h.1 hn13
      try rw [hn13] at hl
      try rw [hn13]
      have hl : lv_has ls 5 [(4, .null), (3, .int t0), (0, .ref (ad 0)), (1, .int v1), (2, .int v2)] := hl
      refine lv_bipush (v := (-11)) hx hb dX6_taken_55 (by decide) ?_
      exact g_iret hc hr hw h dX6_taken_57
def w_X6_taken (M : Nat) (post : Int32 → St → Prop) (a1 : Int32) (a2 : Int32) (σ : St) : Prop :=
  (a2 < 0 → (post (-2) σ)) ∧ (¬ (a2 < 0) → ((a2 ≤ 6 → ((a1 < 0 → (post (-12) σ)) ∧ (¬ (a1 < 0) → ((a1 < 16 → ((a2 = 6 → (w_X6_taken_37 M post a1 a2 1 σ)) ∧ (¬ (a2 = 6) → (w_X6_taken_37 M post a1 a2 0 σ)))) ∧ (¬ (a1 < 16) → (post (-12) σ)))))) ∧ (¬ (a2 ≤ 6) → (post (-2) σ))))
set_option maxHeartbeats 4000000 in
set_option maxRecDepth 20000 in
theorem m_X6_taken {Γ : Gm} {ad : Nat → Nat} {M : Nat} (l : Launch) (hM : 53 ≤ M) {post : Int32 → St → Prop} (a1 : Int32) (a2 : Int32) (σ : St) (h : w_X6_taken M post a1 a2 σ) : Ci l Γ YC M ad σ yX6_taken cX6_taken 5 (Option.some Jvm.ClassFile.FieldType.int) 2 0 0 [.ref (ad 0), .int a1, .int a2] post := by
  refine g_start (by decide) (Nat.le_of_ble_eq_true rfl) ?_
  intro p e s m args below meth c ls hc hr hn hl hw
  have hc : CX Γ p s m args meth c cX6_taken RX6 5 := hc
  have hl : lv_has ls 5 [(0, .ref (ad 0)), (1, .int a1), (2, .int a2)] := hl
  have hx := hc.1
  have hb := hc.2.1
  unfold w_X6_taken at h
  generalize hHH : s.heap = H0 at hw ⊢
  refine lv_iload_n hx hb dX6_taken_0 rfl (lv_at hl 2 rfl) ?_
  refine lv_if_lt (tgt := 10) hx hb dX6_taken_1 (by decide) (fun c1 => ?_) (fun c1 => ?_)
  · replace h := h.1 c1
    refine lv_bipush (v := (-2)) hx hb dX6_taken_10 (by decide) ?_
    exact g_iret hc hr hw h dX6_taken_12
  · replace h := h.2 c1
    refine lv_iload_n hx hb dX6_taken_4 rfl (lv_at hl 2 rfl) ?_
    refine lv_bipush (v := 6) hx hb dX6_taken_5 (by decide) ?_
    refine lv_icmp_le (tgt := 13) hx hb dX6_taken_7 (by decide) (fun c2 => ?_) (fun c2 => ?_)
    · replace h := h.1 c2
      refine lv_iload_n hx hb dX6_taken_13 rfl (lv_at hl 1 rfl) ?_
      refine lv_if_lt (tgt := 23) hx hb dX6_taken_14 (by decide) (fun c3 => ?_) (fun c3 => ?_)
      · replace h := h.1 c3
        refine lv_bipush (v := (-12)) hx hb dX6_taken_23 (by decide) ?_
        exact g_iret hc hr hw h dX6_taken_25
      · replace h := h.2 c3
        refine lv_iload_n hx hb dX6_taken_17 rfl (lv_at hl 1 rfl) ?_
        refine lv_bipush (v := 16) hx hb dX6_taken_18 (by decide) ?_
        refine lv_icmp_lt (tgt := 26) hx hb dX6_taken_20 (by decide) (fun c4 => ?_) (fun c4 => ?_)
        · replace h := h.1 c4
          refine lv_iload_n hx hb dX6_taken_26 rfl (lv_at hl 2 rfl) ?_
          refine lv_bipush (v := 6) hx hb dX6_taken_27 (by decide) ?_
          refine lv_icmp_ne (tgt := 36) hx hb dX6_taken_29 (by decide) (fun c5 => ?_) (fun c5 => ?_)
          · replace h := h.2 c5
            refine lv_iconst (v := 0) hx hb dX6_taken_36 (by decide) ?_
            exact b_X6_taken_37 hM a1 a2 0 σ _ _ _ h  hc hr hw (lv_sub hl [0, 1, 2] rfl)
          · replace h := h.1 c5
            refine lv_iconst (v := 1) hx hb dX6_taken_32 (by decide) ?_
            refine lv_goto (tgt := 37) hx hb dX6_taken_33 (by decide) ?_
            exact b_X6_taken_37 hM a1 a2 1 σ _ _ _ h  hc hr hw (lv_sub hl [0, 1, 2] rfl)
        · replace h := h.2 c4
          refine lv_bipush (v := (-12)) hx hb dX6_taken_23 (by decide) ?_
          exact g_iret hc hr hw h dX6_taken_25
    · replace h := h.2 c2
      refine lv_bipush (v := (-2)) hx hb dX6_taken_10 (by decide) ?_
      exact g_iret hc hr hw h dX6_taken_12
def w_X6_mix_178 (M : Nat) (post : Int32 → St → Prop) (k_105 : Int32 → Option Nat → Option Nat → Int32 → Int32 → Int32 → Int32 → Int32 → St → Prop) (k_178 : Int32 → Option Nat → Option Nat → Int32 → Int32 → Int32 → Int32 → Int32 → Int32 → Int32 → St → Prop) (v3 : Int32) (v4 : Option Nat) (v5 : Option Nat) (v6 : Int32) (v7 : Int32) (v8 : Int32) (v9 : Int32) (v10 : Int32) (v11 : Int32) (v12 : Int32) (σ : St) : Prop :=
  (v7 ≤ v12 → (w_X3_holdsNow M (fun r3 σ2 => ((r3 = 0 → (∀ x5 : Int32, x5 = v10 + 1 → (k_105 v3 v4 v5 v6 v7 v8 v9 x5 σ2))) ∧ (¬ (r3 = 0) → (∀ x6 : Int32, x6 = v10 + 1 → (k_105 v3 v4 v5 v6 v7 v10 v11 x6 σ2))))) 12 σ)) ∧ (¬ (v7 ≤ v12) → (w_X3_passMinute M (fun σ7 => (∀ x8 : Int32, x8 = v12 + 1 → (k_178 v3 v4 v5 v6 v7 v8 v9 v10 v11 x8 σ7))) 12 1 σ))
set_option maxHeartbeats 4000000 in
set_option maxRecDepth 20000 in
theorem b_X6_mix_178 {Γ : Gm} {ad : Nat → Nat} {p : Program} {l : Launch} {e : Env} {s : State} {m : MethodId} {args : Array Value} {below : List Frame} {meth : Method} {c : Code} {M : Nat} (hM : 53 ≤ M) {post : Int32 → St → Prop} {k_105 : Int32 → Option Nat → Option Nat → Int32 → Int32 → Int32 → Int32 → Int32 → St → Prop} {k_178 : Int32 → Option Nat → Option Nat → Int32 → Int32 → Int32 → Int32 → Int32 → Int32 → Int32 → St → Prop} (hk_105 : ∀ (v3 : Int32) (v4 : Option Nat) (v5 : Option Nat) (v6 : Int32) (v7 : Int32) (v8 : Int32) (v9 : Int32) (v10 : Int32) (σ : St) (H : Heap) (locs : List Loc) (ls : Array Slot), k_105 v3 v4 v5 v6 v7 v8 v9 v10 σ → WH Γ YC M ad σ s H locs → lv_has ls 13 [(0, .ref (ad 0)), (3, .int v3), (4, va_rf (Option.map ad v4)), (5, va_rf (Option.map ad v5)), (6, .int v6), (7, .int v7), (8, .int v8), (9, .int v9), (10, .int v10)] → W p l e (rmL 3 0 0) s m args below meth c H locs 0 0 (MQ below (va_Qi post (fun u t => WC Γ YC M ad u t) (AA Γ)) args s 0 0 (AA Γ)) (F0 m 105 ls [])) (hk_178 : ∀ (v3 : Int32) (v4 : Option Nat) (v5 : Option Nat) (v6 : Int32) (v7 : Int32) (v8 : Int32) (v9 : Int32) (v10 : Int32) (v11 : Int32) (v12 : Int32) (σ : St) (H : Heap) (locs : List Loc) (ls : Array Slot), k_178 v3 v4 v5 v6 v7 v8 v9 v10 v11 v12 σ → WH Γ YC M ad σ s H locs → lv_has ls 13 [(0, .ref (ad 0)), (3, .int v3), (4, va_rf (Option.map ad v4)), (5, va_rf (Option.map ad v5)), (6, .int v6), (7, .int v7), (8, .int v8), (9, .int v9), (10, .int v10), (11, .int v11), (12, .int v12)] → W p l e (rmL 3 0 0) s m args below meth c H locs 0 0 (MQ below (va_Qi post (fun u t => WC Γ YC M ad u t) (AA Γ)) args s 0 0 (AA Γ)) (F0 m 178 ls []))
    (v3 : Int32) (v4 : Option Nat) (v5 : Option Nat) (v6 : Int32) (v7 : Int32) (v8 : Int32) (v9 : Int32) (v10 : Int32) (v11 : Int32) (v12 : Int32) (σ : St) (H : Heap) (locs : List Loc) (ls : Array Slot) (h : w_X6_mix_178 M post k_105 k_178 v3 v4 v5 v6 v7 v8 v9 v10 v11 v12 σ) (hc : CX Γ p s m args meth c cX6_mix RX6 13) (hr : meth.sig.returnType = (Option.some Jvm.ClassFile.FieldType.int)) (hw : WH Γ YC M ad σ s H locs) (hl : lv_has ls 13 [(0, .ref (ad 0)), (3, .int v3), (4, va_rf (Option.map ad v4)), (5, va_rf (Option.map ad v5)), (6, .int v6), (7, .int v7), (8, .int v8), (9, .int v9), (10, .int v10), (11, .int v11), (12, .int v12)]) :
    W p l e (rmL 3 0 0) s m args below meth c H locs 0 0 (MQ below (va_Qi post (fun u t => WC Γ YC M ad u t) (AA Γ)) args s 0 0 (AA Γ)) (F0 m 178 ls []) := by
  have hx := hc.1
  have hb := hc.2.1
  unfold w_X6_mix_178 at h
  refine lv_iload hx hb dX6_mix_178 (lv_at hl 10 rfl) ?_
  refine lv_iload hx hb dX6_mix_180 (lv_at hl 5 rfl) ?_
  refine lv_icmp_ge (tgt := 199) hx hb dX6_mix_182 (by decide) (fun c1 => ?_) (fun c1 => ?_)
  · replace h := h.1 c1
    refine lv_aload_n hx hb dX6_mix_199 rfl (lv_at hl 0 rfl) ?_
    refine fg_X6_57 hc hw (Nat.lt_of_lt_of_le (by decide) hM) rfl dX6_mix_200 ?_
    refine g_Vi (Y := YC) (ci := 3) (n := 0) (k := 0) (As := []) (rest := []) rfl (by decide) vw_X6_184 ⟨Nat.le_of_ble_eq_true rfl, Nat.le_of_ble_eq_true rfl, Nat.zero_le _, Nat.zero_le _⟩ hc hw hl.1 (Nat.lt_of_lt_of_le (by decide) hM) rfl (m_X3_holdsNow l hM 12 σ h) rfl rfl (Nat.le_of_ble_eq_true rfl) dX6_mix_203 (fun r3 σ2 H locs h hw => ?_)
    refine lv_if_eq (tgt := 217) hx hb dX6_mix_206 (by decide) (fun c4 => ?_) (fun c4 => ?_)
    · replace h := h.1 c4
      obtain ⟨x5, ex5⟩ : ∃ z, z = v10 + 1 := ⟨_, rfl⟩
      replace h := h x5 ex5
      refine lv_iinc (v := x5) (lv' := [(10, .int x5), (0, .ref (ad 0)), (3, .int v3), (4, va_rf (Option.map ad v4)), (5, va_rf (Option.map ad v5)), (6, .int v6), (7, .int v7), (8, .int v8), (9, .int v9), (11, .int v11), (12, .int v12)]) hx hb dX6_mix_217 hl (k := 8) rfl (by rw [ex5]; rfl) (by decide) rfl (fun ls hl => ?_)
      refine lv_goto (tgt := 105) hx hb dX6_mix_220 (by decide) ?_
      exact hk_105 v3 v4 v5 v6 v7 v8 v9 x5 σ2 _ _ _ h  hw (lv_sub hl [1, 2, 3, 4, 5, 6, 7, 8, 0] rfl)
    · replace h := h.2 c4
      refine lv_iload hx hb dX6_mix_209 (lv_at hl 8 rfl) ?_
      refine lv_istore (lv' := [(8, .int v10), (0, .ref (ad 0)), (3, .int v3), (4, va_rf (Option.map ad v4)), (5, va_rf (Option.map ad v5)), (6, .int v6), (7, .int v7), (9, .int v9), (10, .int v10), (11, .int v11), (12, .int v12)]) hx hb dX6_mix_211 hl (by decide) rfl (fun ls hl => ?_)
      refine lv_iload hx hb dX6_mix_213 (lv_at hl 9 rfl) ?_
      refine lv_istore (lv' := [(9, .int v11), (8, .int v10), (0, .ref (ad 0)), (3, .int v3), (4, va_rf (Option.map ad v4)), (5, va_rf (Option.map ad v5)), (6, .int v6), (7, .int v7), (10, .int v10), (11, .int v11), (12, .int v12)]) hx hb dX6_mix_215 hl (by decide) rfl (fun ls hl => ?_)
      obtain ⟨x6, ex6⟩ : ∃ z, z = v10 + 1 := ⟨_, rfl⟩
      replace h := h x6 ex6
      refine lv_iinc (v := x6) (lv' := [(10, .int x6), (9, .int v11), (8, .int v10), (0, .ref (ad 0)), (3, .int v3), (4, va_rf (Option.map ad v4)), (5, va_rf (Option.map ad v5)), (6, .int v6), (7, .int v7), (11, .int v11), (12, .int v12)]) hx hb dX6_mix_217 hl (k := 8) rfl (by rw [ex6]; rfl) (by decide) rfl (fun ls hl => ?_)
      refine lv_goto (tgt := 105) hx hb dX6_mix_220 (by decide) ?_
      exact hk_105 v3 v4 v5 v6 v7 v10 v11 x6 σ2 _ _ _ h  hw (lv_sub hl [3, 4, 5, 6, 7, 8, 2, 1, 0] rfl)
  · replace h := h.2 c1
    refine lv_aload_n hx hb dX6_mix_185 rfl (lv_at hl 0 rfl) ?_
    refine fg_X6_57 hc hw (Nat.lt_of_lt_of_le (by decide) hM) rfl dX6_mix_186 ?_
    refine lv_iconst (v := 1) hx hb dX6_mix_189 (by decide) ?_
    refine g_Vv (Y := YC) (ci := 3) (n := 1) (k := 2) (As := [.int 1]) (rest := []) rfl (by decide) vw_X6_187 ⟨Nat.le_of_ble_eq_true rfl, Nat.le_of_ble_eq_true rfl, Nat.zero_le _, Nat.zero_le _⟩ hc hw hl.1 (Nat.lt_of_lt_of_le (by decide) hM) rfl (m_X3_passMinute l hM 12 1 σ h) rfl rfl (Nat.le_of_ble_eq_true rfl) dX6_mix_190 (fun σ7 H locs h hw => ?_)
    obtain ⟨x8, ex8⟩ : ∃ z, z = v12 + 1 := ⟨_, rfl⟩
    replace h := h x8 ex8
    refine lv_iinc (v := x8) (lv' := [(12, .int x8), (0, .ref (ad 0)), (3, .int v3), (4, va_rf (Option.map ad v4)), (5, va_rf (Option.map ad v5)), (6, .int v6), (7, .int v7), (8, .int v8), (9, .int v9), (10, .int v10), (11, .int v11)]) hx hb dX6_mix_193 hl (k := 10) rfl (by rw [ex8]; rfl) (by decide) rfl (fun ls hl => ?_)
    refine lv_goto (tgt := 178) hx hb dX6_mix_196 (by decide) ?_
    exact hk_178 v3 v4 v5 v6 v7 v8 v9 v10 v11 x8 σ7 _ _ _ h  hw (lv_sub hl [1, 2, 3, 4, 5, 6, 7, 8, 9, 10, 0] rfl)
def wl_X6_mix_178 (M : Nat) (post : Int32 → St → Prop) (k_105 : Int32 → Option Nat → Option Nat → Int32 → Int32 → Int32 → Int32 → Int32 → St → Prop) : Nat → Int32 → Option Nat → Option Nat → Int32 → Int32 → Int32 → Int32 → Int32 → Int32 → Int32 → St → Prop
  | 0, _, _, _, _, _, _, _, _, _, _, _ => False
  | n + 1, v3, v4, v5, v6, v7, v8, v9, v10, v11, v12, σ => w_X6_mix_178 M post k_105 (wl_X6_mix_178 M post k_105 n) v3 v4 v5 v6 v7 v8 v9 v10 v11 v12 σ
set_option maxHeartbeats 4000000 in
theorem bl_X6_mix_178 {Γ : Gm} {ad : Nat → Nat} {p : Program} {l : Launch} {e : Env} {s : State} {m : MethodId} {args : Array Value} {below : List Frame} {meth : Method} {c : Code} {M : Nat} (hM : 53 ≤ M) {post : Int32 → St → Prop} {k_105 : Int32 → Option Nat → Option Nat → Int32 → Int32 → Int32 → Int32 → Int32 → St → Prop} (hk_105 : ∀ (v3 : Int32) (v4 : Option Nat) (v5 : Option Nat) (v6 : Int32) (v7 : Int32) (v8 : Int32) (v9 : Int32) (v10 : Int32) (σ : St) (H : Heap) (locs : List Loc) (ls : Array Slot), k_105 v3 v4 v5 v6 v7 v8 v9 v10 σ → WH Γ YC M ad σ s H locs → lv_has ls 13 [(0, .ref (ad 0)), (3, .int v3), (4, va_rf (Option.map ad v4)), (5, va_rf (Option.map ad v5)), (6, .int v6), (7, .int v7), (8, .int v8), (9, .int v9), (10, .int v10)] → W p l e (rmL 3 0 0) s m args below meth c H locs 0 0 (MQ below (va_Qi post (fun u t => WC Γ YC M ad u t) (AA Γ)) args s 0 0 (AA Γ)) (F0 m 105 ls []))
    (hc : CX Γ p s m args meth c cX6_mix RX6 13) (hr : meth.sig.returnType = (Option.some Jvm.ClassFile.FieldType.int)) :
    ∀ (n : Nat) (v3 : Int32) (v4 : Option Nat) (v5 : Option Nat) (v6 : Int32) (v7 : Int32) (v8 : Int32) (v9 : Int32) (v10 : Int32) (v11 : Int32) (v12 : Int32) (σ : St) (H : Heap) (locs : List Loc) (ls : Array Slot), wl_X6_mix_178 M post k_105 n v3 v4 v5 v6 v7 v8 v9 v10 v11 v12 σ → WH Γ YC M ad σ s H locs → lv_has ls 13 [(0, .ref (ad 0)), (3, .int v3), (4, va_rf (Option.map ad v4)), (5, va_rf (Option.map ad v5)), (6, .int v6), (7, .int v7), (8, .int v8), (9, .int v9), (10, .int v10), (11, .int v11), (12, .int v12)] → W p l e (rmL 3 0 0) s m args below meth c H locs 0 0 (MQ below (va_Qi post (fun u t => WC Γ YC M ad u t) (AA Γ)) args s 0 0 (AA Γ)) (F0 m 178 ls []) := by
  intro n
  induction n with
  | zero => intro v3 v4 v5 v6 v7 v8 v9 v10 v11 v12 σ H locs ls h; exact h.elim
  | succ n ih =>
    intro v3 v4 v5 v6 v7 v8 v9 v10 v11 v12 σ H locs ls h  hw hl
    exact b_X6_mix_178 hM hk_105 ih v3 v4 v5 v6 v7 v8 v9 v10 v11 v12 σ H locs ls h  hc hr hw hl
def w_X6_mix_105 (M : Nat) (post : Int32 → St → Prop) (k_105 : Int32 → Option Nat → Option Nat → Int32 → Int32 → Int32 → Int32 → Int32 → St → Prop) (v3 : Int32) (v4 : Option Nat) (v5 : Option Nat) (v6 : Int32) (v7 : Int32) (v8 : Int32) (v9 : Int32) (v10 : Int32) (σ : St) : Prop :=
  (v6 < v10 → ((v3 = 0 → (post v8 σ)) ∧ (¬ (v3 = 0) → (post v9 σ)))) ∧ (¬ (v6 < v10) → (∃ o3 : Nat, v4 = some o3 ∧ (kdC o3 = 1 ∧ o3 < M) ∧ (w_X1_tell M (fun r5 σ4 => (∃ o6 : Nat, v5 = some o6 ∧ (kdC o6 = 1 ∧ o6 < M) ∧ (w_X1_tell M (fun r8 σ7 => (∀ x9 : Int32, x9 = (v10 * r5) + ((v6 - v10) * r8) → ((v9 < x9 → (w_X6_beginPot M (fun σ11 => (w_X3_throwIn M (fun σ12 => (w_X3_throwIn M (fun σ13 => (∃ n, wl_X6_mix_178 M post k_105 n v3 (some o3) (some o6) v6 v7 v8 v9 v10 x9 0 σ13)) 12 o6 (v6 - v10) σ12)) 12 o3 v10 σ11)) σ7)) ∧ (¬ (v9 < x9) → (∀ x14 : Int32, x14 = v10 + 1 → (k_105 v3 (some o3) (some o6) v6 v7 v8 v9 x14 σ7)))))) o6 4 σ4))) o3 4 σ)))
set_option maxHeartbeats 4000000 in
set_option maxRecDepth 20000 in
theorem b_X6_mix_105 {Γ : Gm} {ad : Nat → Nat} {p : Program} {l : Launch} {e : Env} {s : State} {m : MethodId} {args : Array Value} {below : List Frame} {meth : Method} {c : Code} {M : Nat} (hM : 53 ≤ M) {post : Int32 → St → Prop} {k_105 : Int32 → Option Nat → Option Nat → Int32 → Int32 → Int32 → Int32 → Int32 → St → Prop} (hk_105 : ∀ (v3 : Int32) (v4 : Option Nat) (v5 : Option Nat) (v6 : Int32) (v7 : Int32) (v8 : Int32) (v9 : Int32) (v10 : Int32) (σ : St) (H : Heap) (locs : List Loc) (ls : Array Slot), k_105 v3 v4 v5 v6 v7 v8 v9 v10 σ → WH Γ YC M ad σ s H locs → lv_has ls 13 [(0, .ref (ad 0)), (3, .int v3), (4, va_rf (Option.map ad v4)), (5, va_rf (Option.map ad v5)), (6, .int v6), (7, .int v7), (8, .int v8), (9, .int v9), (10, .int v10)] → W p l e (rmL 3 0 0) s m args below meth c H locs 0 0 (MQ below (va_Qi post (fun u t => WC Γ YC M ad u t) (AA Γ)) args s 0 0 (AA Γ)) (F0 m 105 ls []))
    (v3 : Int32) (v4 : Option Nat) (v5 : Option Nat) (v6 : Int32) (v7 : Int32) (v8 : Int32) (v9 : Int32) (v10 : Int32) (σ : St) (H : Heap) (locs : List Loc) (ls : Array Slot) (h : w_X6_mix_105 M post k_105 v3 v4 v5 v6 v7 v8 v9 v10 σ) (hc : CX Γ p s m args meth c cX6_mix RX6 13) (hr : meth.sig.returnType = (Option.some Jvm.ClassFile.FieldType.int)) (hw : WH Γ YC M ad σ s H locs) (hl : lv_has ls 13 [(0, .ref (ad 0)), (3, .int v3), (4, va_rf (Option.map ad v4)), (5, va_rf (Option.map ad v5)), (6, .int v6), (7, .int v7), (8, .int v8), (9, .int v9), (10, .int v10)]) :
    W p l e (rmL 3 0 0) s m args below meth c H locs 0 0 (MQ below (va_Qi post (fun u t => WC Γ YC M ad u t) (AA Γ)) args s 0 0 (AA Γ)) (F0 m 105 ls []) := by
  have hx := hc.1
  have hb := hc.2.1
  unfold w_X6_mix_105 at h
  refine lv_iload hx hb dX6_mix_105 (lv_at hl 8 rfl) ?_
  refine lv_iload hx hb dX6_mix_107 (lv_at hl 4 rfl) ?_
  refine lv_icmp_gt (tgt := 223) hx hb dX6_mix_109 (by decide) (fun c1 => ?_) (fun c1 => ?_)
  · replace h := h.1 c1
    refine lv_iload_n hx hb dX6_mix_223 rfl (lv_at hl 1 rfl) ?_
    refine lv_if_ne (tgt := 232) hx hb dX6_mix_224 (by decide) (fun c2 => ?_) (fun c2 => ?_)
    · replace h := h.2 c2
      refine lv_iload hx hb dX6_mix_232 (lv_at hl 7 rfl) ?_
      exact g_iret hc hr hw h dX6_mix_234
    · replace h := h.1 c2
      refine lv_iload hx hb dX6_mix_227 (lv_at hl 6 rfl) ?_
      refine lv_goto (tgt := 234) hx hb dX6_mix_229 (by decide) ?_
      exact g_iret hc hr hw h dX6_mix_234
  · replace h := h.2 c1
    refine lv_iload hx hb dX6_mix_112 (lv_at hl 8 rfl) ?_
    refine g_aloadqW hx hb dX6_mix_114 (lv_at hl 2 rfl) ?_
    refine lv_iconst (v := 4) hx hb dX6_mix_116 (by decide) ?_
    obtain ⟨o3, ho_o3, hf_o3, h⟩ := h
    try rw [ho_o3] at hl
    try rw [ho_o3]
    have hl : lv_has ls 13 [(0, .ref (ad 0)), (3, .int v3), (4, .ref (ad o3)), (5, va_rf (Option.map ad v5)), (6, .int v6), (7, .int v7), (8, .int v8), (9, .int v9), (10, .int v10)] := hl
    refine g_Vi (Y := YC) (ci := 1) (n := 1) (k := 1) (As := [.int 4]) (rest := [.int v10]) rfl (by decide) vw_X6_109 ⟨Nat.le_of_ble_eq_true rfl, Nat.le_of_ble_eq_true rfl, Nat.zero_le _, Nat.zero_le _⟩ hc hw hl.1 hf_o3.2 hf_o3.1 (m_X1_tell l hM o3 4 σ h) rfl rfl (Nat.le_of_ble_eq_true rfl) dX6_mix_117 (fun r5 σ4 H locs h hw => ?_)
    refine lv_imul hx hb dX6_mix_120 ?_
    refine lv_iload hx hb dX6_mix_121 (lv_at hl 4 rfl) ?_
    refine lv_iload hx hb dX6_mix_123 (lv_at hl 8 rfl) ?_
    refine lv_isub hx hb dX6_mix_125 ?_
    refine g_aloadqW hx hb dX6_mix_126 (lv_at hl 3 rfl) ?_
    refine lv_iconst (v := 4) hx hb dX6_mix_128 (by decide) ?_
    obtain ⟨o6, ho_o6, hf_o6, h⟩ := h
    try rw [ho_o6] at hl
    try rw [ho_o6]
    have hl : lv_has ls 13 [(0, .ref (ad 0)), (3, .int v3), (4, .ref (ad o3)), (5, .ref (ad o6)), (6, .int v6), (7, .int v7), (8, .int v8), (9, .int v9), (10, .int v10)] := hl
    refine g_Vi (Y := YC) (ci := 1) (n := 1) (k := 1) (As := [.int 4]) (rest := [.int (v6 - v10), .int (v10 * r5)]) rfl (by decide) vw_X6_109 ⟨Nat.le_of_ble_eq_true rfl, Nat.le_of_ble_eq_true rfl, Nat.zero_le _, Nat.zero_le _⟩ hc hw hl.1 hf_o6.2 hf_o6.1 (m_X1_tell l hM o6 4 σ4 h) rfl rfl (Nat.le_of_ble_eq_true rfl) dX6_mix_129 (fun r8 σ7 H locs h hw => ?_)
    refine lv_imul hx hb dX6_mix_132 ?_
    refine lv_iadd hx hb dX6_mix_133 ?_
    refine lv_topi (fun x9 ex9 => ?_)
    replace h := h x9 ex9
    refine lv_istore (lv' := [(11, .int x9), (0, .ref (ad 0)), (3, .int v3), (4, .ref (ad o3)), (5, .ref (ad o6)), (6, .int v6), (7, .int v7), (8, .int v8), (9, .int v9), (10, .int v10)]) hx hb dX6_mix_134 hl (by decide) rfl (fun ls hl => ?_)
    refine lv_iload hx hb dX6_mix_136 (lv_at hl 0 rfl) ?_
    refine lv_iload hx hb dX6_mix_138 (lv_at hl 8 rfl) ?_
    refine lv_icmp_gt (tgt := 146) hx hb dX6_mix_140 (by decide) (fun c10 => ?_) (fun c10 => ?_)
    · replace h := h.1 c10
      refine lv_aload_n hx hb dX6_mix_146 rfl (lv_at hl 1 rfl) ?_
      refine g_Vv (Y := YC) (ci := 6) (n := 0) (k := 1) (As := []) (rest := []) rfl (by decide) vw_X6_220 ⟨Nat.le_of_ble_eq_true rfl, Nat.le_of_ble_eq_true rfl, Nat.zero_le _, Nat.zero_le _⟩ hc hw hl.1 (Nat.lt_of_lt_of_le (by decide) hM) rfl (m_X6_beginPot l hM σ7 h) rfl rfl (Nat.le_of_ble_eq_true rfl) dX6_mix_147 (fun σ11 H locs h hw => ?_)
      refine lv_aload_n hx hb dX6_mix_150 rfl (lv_at hl 1 rfl) ?_
      refine fg_X6_57 hc hw (Nat.lt_of_lt_of_le (by decide) hM) rfl dX6_mix_151 ?_
      refine lv_aload hx hb dX6_mix_154 (lv_at hl 3 rfl) ?_
      refine lv_iload hx hb dX6_mix_156 (lv_at hl 9 rfl) ?_
      refine g_Vv (Y := YC) (ci := 3) (n := 2) (k := 2) (As := [.ref (ad o3), .int v10]) (rest := []) rfl (by decide) vw_X6_229 ⟨Nat.le_of_ble_eq_true rfl, Nat.le_of_ble_eq_true rfl, Nat.zero_le _, Nat.zero_le _⟩ hc hw hl.1 (Nat.lt_of_lt_of_le (by decide) hM) rfl (m_X3_throwIn l hM 12 o3 v10 σ11 h) rfl rfl (Nat.le_of_ble_eq_true rfl) dX6_mix_158 (fun σ12 H locs h hw => ?_)
      refine lv_aload_n hx hb dX6_mix_161 rfl (lv_at hl 1 rfl) ?_
      refine fg_X6_57 hc hw (Nat.lt_of_lt_of_le (by decide) hM) rfl dX6_mix_162 ?_
      refine lv_aload hx hb dX6_mix_165 (lv_at hl 4 rfl) ?_
      refine lv_iload hx hb dX6_mix_167 (lv_at hl 5 rfl) ?_
      refine lv_iload hx hb dX6_mix_169 (lv_at hl 9 rfl) ?_
      refine lv_isub hx hb dX6_mix_171 ?_
      refine g_Vv (Y := YC) (ci := 3) (n := 2) (k := 2) (As := [.ref (ad o6), .int (v6 - v10)]) (rest := []) rfl (by decide) vw_X6_229 ⟨Nat.le_of_ble_eq_true rfl, Nat.le_of_ble_eq_true rfl, Nat.zero_le _, Nat.zero_le _⟩ hc hw hl.1 (Nat.lt_of_lt_of_le (by decide) hM) rfl (m_X3_throwIn l hM 12 o6 (v6 - v10) σ12 h) rfl rfl (Nat.le_of_ble_eq_true rfl) dX6_mix_172 (fun σ13 H locs h hw => ?_)
      refine lv_iconst (v := 0) hx hb dX6_mix_175 (by decide) ?_
      refine lv_istore (lv' := [(12, .int 0), (11, .int x9), (0, .ref (ad 0)), (3, .int v3), (4, .ref (ad o3)), (5, .ref (ad o6)), (6, .int v6), (7, .int v7), (8, .int v8), (9, .int v9), (10, .int v10)]) hx hb dX6_mix_176 hl (by decide) rfl (fun ls hl => ?_)
      obtain ⟨n, h⟩ := h
      exact bl_X6_mix_178 hM hk_105 hc hr n v3 (some o3) (some o6) v6 v7 v8 v9 v10 x9 0 σ13 _ _ _ h  hw (lv_sub hl [2, 3, 4, 5, 6, 7, 8, 9, 10, 1, 0] rfl)
    · replace h := h.2 c10
      refine lv_goto (tgt := 217) hx hb dX6_mix_143 (by decide) ?_
      obtain ⟨x14, ex14⟩ : ∃ z, z = v10 + 1 := ⟨_, rfl⟩
      replace h := h x14 ex14
      refine lv_iinc (v := x14) (lv' := [(10, .int x14), (11, .int x9), (0, .ref (ad 0)), (3, .int v3), (4, .ref (ad o3)), (5, .ref (ad o6)), (6, .int v6), (7, .int v7), (8, .int v8), (9, .int v9)]) hx hb dX6_mix_217 hl (k := 9) rfl (by rw [ex14]; rfl) (by decide) rfl (fun ls hl => ?_)
      refine lv_goto (tgt := 105) hx hb dX6_mix_220 (by decide) ?_
      exact hk_105 v3 (some o3) (some o6) v6 v7 v8 v9 x14 σ7 _ _ _ h  hw (lv_sub hl [2, 3, 4, 5, 6, 7, 8, 9, 0] rfl)
def wl_X6_mix_105 (M : Nat) (post : Int32 → St → Prop) : Nat → Int32 → Option Nat → Option Nat → Int32 → Int32 → Int32 → Int32 → Int32 → St → Prop
  | 0, _, _, _, _, _, _, _, _, _ => False
  | n + 1, v3, v4, v5, v6, v7, v8, v9, v10, σ => w_X6_mix_105 M post (wl_X6_mix_105 M post n) v3 v4 v5 v6 v7 v8 v9 v10 σ
set_option maxHeartbeats 4000000 in
theorem bl_X6_mix_105 {Γ : Gm} {ad : Nat → Nat} {p : Program} {l : Launch} {e : Env} {s : State} {m : MethodId} {args : Array Value} {below : List Frame} {meth : Method} {c : Code} {M : Nat} (hM : 53 ≤ M) {post : Int32 → St → Prop}
    (hc : CX Γ p s m args meth c cX6_mix RX6 13) (hr : meth.sig.returnType = (Option.some Jvm.ClassFile.FieldType.int)) :
    ∀ (n : Nat) (v3 : Int32) (v4 : Option Nat) (v5 : Option Nat) (v6 : Int32) (v7 : Int32) (v8 : Int32) (v9 : Int32) (v10 : Int32) (σ : St) (H : Heap) (locs : List Loc) (ls : Array Slot), wl_X6_mix_105 M post n v3 v4 v5 v6 v7 v8 v9 v10 σ → WH Γ YC M ad σ s H locs → lv_has ls 13 [(0, .ref (ad 0)), (3, .int v3), (4, va_rf (Option.map ad v4)), (5, va_rf (Option.map ad v5)), (6, .int v6), (7, .int v7), (8, .int v8), (9, .int v9), (10, .int v10)] → W p l e (rmL 3 0 0) s m args below meth c H locs 0 0 (MQ below (va_Qi post (fun u t => WC Γ YC M ad u t) (AA Γ)) args s 0 0 (AA Γ)) (F0 m 105 ls []) := by
  intro n
  induction n with
  | zero => intro v3 v4 v5 v6 v7 v8 v9 v10 σ H locs ls h; exact h.elim
  | succ n ih =>
    intro v3 v4 v5 v6 v7 v8 v9 v10 σ H locs ls h  hw hl
    exact b_X6_mix_105 hM ih v3 v4 v5 v6 v7 v8 v9 v10 σ H locs ls h  hc hr hw hl
def w_X6_mix_34 (M : Nat) (post : Int32 → St → Prop) (v2 : Int32) (v3 : Int32) (v4 : Option Nat) (t0 : Option Nat) (σ : St) : Prop :=
  (v4 = none → (post (-5) σ)) ∧ (∀ o1 : Nat, v4 = some o1 → ((kdC o1 = 1 ∧ o1 < M) ∧ ((t0 = none → (post (-5) σ)) ∧ (∀ o3 : Nat, t0 = some o3 → ((kdC o3 = 1 ∧ o3 < M) ∧ (((v2 / 100) < 1 → (post (-7) σ)) ∧ (¬ ((v2 / 100) < 1) → ((20 < (v2 / 100) → (post (-7) σ)) ∧ (¬ (20 < (v2 / 100)) → (((v2 - v2 / 100 * 100) < 0 → (post (-7) σ)) ∧ (¬ ((v2 - v2 / 100 * 100) < 0) → ((60 < (v2 - v2 / 100 * 100) → (post (-7) σ)) ∧ (¬ (60 < (v2 - v2 / 100 * 100)) → (w_X6_isBit M (fun r10 σ9 => ((r10 = 0 → (post (-7) σ9)) ∧ (¬ (r10 = 0) → (∃ n, wl_X6_mix_105 M post n v3 (some o1) (some o3) (v2 / 100) (v2 - v2 / 100 * 100) (-1) (-1) 0 σ9)))) v3 σ))))))))))))))
set_option maxHeartbeats 4000000 in
set_option maxRecDepth 20000 in
theorem b_X6_mix_34 {Γ : Gm} {ad : Nat → Nat} {p : Program} {l : Launch} {e : Env} {s : State} {m : MethodId} {args : Array Value} {below : List Frame} {meth : Method} {c : Code} {M : Nat} (hM : 53 ≤ M) {post : Int32 → St → Prop}
    (v2 : Int32) (v3 : Int32) (v4 : Option Nat) (t0 : Option Nat) (σ : St) (H : Heap) (locs : List Loc) (ls : Array Slot) (h : w_X6_mix_34 M post v2 v3 v4 t0 σ) (hc : CX Γ p s m args meth c cX6_mix RX6 13) (hr : meth.sig.returnType = (Option.some Jvm.ClassFile.FieldType.int)) (hw : WH Γ YC M ad σ s H locs) (hl : lv_has ls 13 [(0, .ref (ad 0)), (2, .int v2), (3, .int v3), (4, va_rf (Option.map ad v4))]) :
    W p l e (rmL 3 0 0) s m args below meth c H locs 0 0 (MQ below (va_Qi post (fun u t => WC Γ YC M ad u t) (AA Γ)) args s 0 0 (AA Γ)) (F0 m 34 ls [va_rf (Option.map ad t0)]) := by
  have hx := hc.1
  have hb := hc.2.1
  unfold w_X6_mix_34 at h
  refine g_astoreqW (lv' := [(5, va_rf (Option.map ad t0)), (0, .ref (ad 0)), (2, .int v2), (3, .int v3), (4, va_rf (Option.map ad v4))]) hx hb dX6_mix_34 hl (by decide) (by clear h; cases v4 <;> rfl) (fun ls hl => ?_)
  refine g_aloadqW hx hb dX6_mix_36 (lv_at hl 4 rfl) ?_
  refine g_ifnull (tgt := 46) hx hb dX6_mix_38 (by decide) (fun hn2 => ?_) (fun o1 hn2 => ?_)
  · replace h := h.1 hn2
    try rw [hn2] at hl
    try rw [hn2]
    have hl : lv_has ls 13 [(5, va_rf (Option.map ad t0)), (0, .ref (ad 0)), (2, .int v2), (3, .int v3), (4, .null)] := hl
    refine lv_bipush (v := (-5)) hx hb dX6_mix_46 (by decide) ?_
    exact g_iret hc hr hw h dX6_mix_48
  · replace h := h.2 o1 hn2
    try rw [hn2] at hl
    try rw [hn2]
    have hf_o1 := h.1
    replace h := h.2
    have hl : lv_has ls 13 [(5, va_rf (Option.map ad t0)), (0, .ref (ad 0)), (2, .int v2), (3, .int v3), (4, .ref (ad o1))] := hl
    refine g_aloadqW hx hb dX6_mix_41 (lv_at hl 0 rfl) ?_
    refine g_ifnonnull (tgt := 49) hx hb dX6_mix_43 (by decide) (fun o3 hn4 => ?_) (fun hn4 => ?_)
    · replace h := h.2 o3 hn4
      try rw [hn4] at hl
      try rw [hn4]
      have hf_o3 := h.1
      replace h := h.2
      have hl : lv_has ls 13 [(5, .ref (ad o3)), (0, .ref (ad 0)), (2, .int v2), (3, .int v3), (4, .ref (ad o1))] := hl
      refine lv_iload_n hx hb dX6_mix_49 rfl (lv_at hl 2 rfl) ?_
      refine lv_bipush (v := 100) hx hb dX6_mix_50 (by decide) ?_
      refine lv_idiv hx hb dX6_mix_52 (by decide) ?_
      refine lv_istore (lv' := [(6, .int (v2 / 100)), (5, .ref (ad o3)), (0, .ref (ad 0)), (2, .int v2), (3, .int v3), (4, .ref (ad o1))]) hx hb dX6_mix_53 hl (by decide) rfl (fun ls hl => ?_)
      refine lv_iload_n hx hb dX6_mix_55 rfl (lv_at hl 3 rfl) ?_
      refine lv_bipush (v := 100) hx hb dX6_mix_56 (by decide) ?_
      refine lv_irem hx hb dX6_mix_58 (by decide) ?_
      refine lv_istore (lv' := [(7, .int (v2 - v2 / 100 * 100)), (6, .int (v2 / 100)), (5, .ref (ad o3)), (0, .ref (ad 0)), (2, .int v2), (3, .int v3), (4, .ref (ad o1))]) hx hb dX6_mix_59 hl (by decide) rfl (fun ls hl => ?_)
      refine lv_iload hx hb dX6_mix_61 (lv_at hl 1 rfl) ?_
      refine lv_iconst (v := 1) hx hb dX6_mix_63 (by decide) ?_
      refine lv_icmp_lt (tgt := 93) hx hb dX6_mix_64 (by decide) (fun c5 => ?_) (fun c5 => ?_)
      · replace h := h.1 c5
        refine lv_bipush (v := (-7)) hx hb dX6_mix_93 (by decide) ?_
        exact g_iret hc hr hw h dX6_mix_95
      · replace h := h.2 c5
        refine lv_iload hx hb dX6_mix_67 (lv_at hl 1 rfl) ?_
        refine lv_bipush (v := 20) hx hb dX6_mix_69 (by decide) ?_
        refine lv_icmp_gt (tgt := 93) hx hb dX6_mix_71 (by decide) (fun c6 => ?_) (fun c6 => ?_)
        · replace h := h.1 c6
          refine lv_bipush (v := (-7)) hx hb dX6_mix_93 (by decide) ?_
          exact g_iret hc hr hw h dX6_mix_95
        · replace h := h.2 c6
          refine lv_iload hx hb dX6_mix_74 (lv_at hl 0 rfl) ?_
          refine lv_if_lt (tgt := 93) hx hb dX6_mix_76 (by decide) (fun c7 => ?_) (fun c7 => ?_)
          · replace h := h.1 c7
            refine lv_bipush (v := (-7)) hx hb dX6_mix_93 (by decide) ?_
            exact g_iret hc hr hw h dX6_mix_95
          · replace h := h.2 c7
            refine lv_iload hx hb dX6_mix_79 (lv_at hl 0 rfl) ?_
            refine lv_bipush (v := 60) hx hb dX6_mix_81 (by decide) ?_
            refine lv_icmp_gt (tgt := 93) hx hb dX6_mix_83 (by decide) (fun c8 => ?_) (fun c8 => ?_)
            · replace h := h.1 c8
              refine lv_bipush (v := (-7)) hx hb dX6_mix_93 (by decide) ?_
              exact g_iret hc hr hw h dX6_mix_95
            · replace h := h.2 c8
              refine lv_iload_n hx hb dX6_mix_86 rfl (lv_at hl 5 rfl) ?_
              refine g_Si (Y := YC) (n := 1) (k := 0) (As := [.int v3]) (rest := []) vw_X6_175 ⟨Nat.le_of_ble_eq_true rfl, Nat.le_of_ble_eq_true rfl, Nat.zero_le _, Nat.zero_le _⟩ hc hw hl.1 (m_X6_isBit l hM v3 σ h) rfl rfl (Nat.le_of_ble_eq_true rfl) dX6_mix_87 (fun r10 σ9 H locs h hw => ?_)
              refine lv_if_ne (tgt := 96) hx hb dX6_mix_90 (by decide) (fun c11 => ?_) (fun c11 => ?_)
              · replace h := h.2 c11
                refine lv_iconst (v := (-1)) hx hb dX6_mix_96 (by decide) ?_
                refine lv_istore (lv' := [(8, .int (-1)), (7, .int (v2 - v2 / 100 * 100)), (6, .int (v2 / 100)), (5, .ref (ad o3)), (0, .ref (ad 0)), (2, .int v2), (3, .int v3), (4, .ref (ad o1))]) hx hb dX6_mix_97 hl (by decide) rfl (fun ls hl => ?_)
                refine lv_iconst (v := (-1)) hx hb dX6_mix_99 (by decide) ?_
                refine lv_istore (lv' := [(9, .int (-1)), (8, .int (-1)), (7, .int (v2 - v2 / 100 * 100)), (6, .int (v2 / 100)), (5, .ref (ad o3)), (0, .ref (ad 0)), (2, .int v2), (3, .int v3), (4, .ref (ad o1))]) hx hb dX6_mix_100 hl (by decide) rfl (fun ls hl => ?_)
                refine lv_iconst (v := 0) hx hb dX6_mix_102 (by decide) ?_
                refine lv_istore (lv' := [(10, .int 0), (9, .int (-1)), (8, .int (-1)), (7, .int (v2 - v2 / 100 * 100)), (6, .int (v2 / 100)), (5, .ref (ad o3)), (0, .ref (ad 0)), (2, .int v2), (3, .int v3), (4, .ref (ad o1))]) hx hb dX6_mix_103 hl (by decide) rfl (fun ls hl => ?_)
                obtain ⟨n, h⟩ := h
                exact bl_X6_mix_105 hM hc hr n v3 (some o1) (some o3) (v2 / 100) (v2 - v2 / 100 * 100) (-1) (-1) 0 σ9 _ _ _ h  hw (lv_sub hl [6, 8, 9, 5, 4, 3, 2, 1, 0] rfl)
              · replace h := h.1 c11
                refine lv_bipush (v := (-7)) hx hb dX6_mix_93 (by decide) ?_
                exact g_iret hc hr hw h dX6_mix_95
    · replace h := h.1 hn4
      try rw [hn4] at hl
      try rw [hn4]
      have hl : lv_has ls 13 [(5, .null), (0, .ref (ad 0)), (2, .int v2), (3, .int v3), (4, .ref (ad o1))] := hl
      refine lv_bipush (v := (-5)) hx hb dX6_mix_46 (by decide) ?_
      exact g_iret hc hr hw h dX6_mix_48
def w_X6_mix_16 (M : Nat) (post : Int32 → St → Prop) (v1 : Int32) (v2 : Int32) (v3 : Int32) (t0 : Option Nat) (σ : St) : Prop :=
  (0 ≤ v1 → (w_X6_cheeseAt M (fun q3 σ2 => (w_X6_mix_34 M post v2 v3 t0 q3 σ2)) (v1 - v1 / 10 * 10) σ)) ∧ (¬ (0 ≤ v1) → (w_X6_mix_34 M post v2 v3 t0 none σ))
set_option maxHeartbeats 4000000 in
set_option maxRecDepth 20000 in
theorem b_X6_mix_16 {Γ : Gm} {ad : Nat → Nat} {p : Program} {l : Launch} {e : Env} {s : State} {m : MethodId} {args : Array Value} {below : List Frame} {meth : Method} {c : Code} {M : Nat} (hM : 53 ≤ M) {post : Int32 → St → Prop}
    (v1 : Int32) (v2 : Int32) (v3 : Int32) (t0 : Option Nat) (σ : St) (H : Heap) (locs : List Loc) (ls : Array Slot) (h : w_X6_mix_16 M post v1 v2 v3 t0 σ) (hc : CX Γ p s m args meth c cX6_mix RX6 13) (hr : meth.sig.returnType = (Option.some Jvm.ClassFile.FieldType.int)) (hw : WH Γ YC M ad σ s H locs) (hl : lv_has ls 13 [(0, .ref (ad 0)), (1, .int v1), (2, .int v2), (3, .int v3)]) :
    W p l e (rmL 3 0 0) s m args below meth c H locs 0 0 (MQ below (va_Qi post (fun u t => WC Γ YC M ad u t) (AA Γ)) args s 0 0 (AA Γ)) (F0 m 16 ls [va_rf (Option.map ad t0)]) := by
  have hx := hc.1
  have hb := hc.2.1
  unfold w_X6_mix_16 at h
  refine g_astoreqW (lv' := [(4, va_rf (Option.map ad t0)), (0, .ref (ad 0)), (1, .int v1), (2, .int v2), (3, .int v3)]) hx hb dX6_mix_16 hl (by decide) rfl (fun ls hl => ?_)
  refine lv_iload_n hx hb dX6_mix_18 rfl (lv_at hl 2 rfl) ?_
  refine lv_if_ge (tgt := 26) hx hb dX6_mix_19 (by decide) (fun c1 => ?_) (fun c1 => ?_)
  · replace h := h.1 c1
    refine lv_aload_n hx hb dX6_mix_26 rfl (lv_at hl 1 rfl) ?_
    refine lv_iload_n hx hb dX6_mix_27 rfl (lv_at hl 2 rfl) ?_
    refine lv_bipush (v := 10) hx hb dX6_mix_28 (by decide) ?_
    refine lv_irem hx hb dX6_mix_30 (by decide) ?_
    refine g_Ve (Y := YC) (ci := 6) (n := 1) (k := 0) (As := [.int (v1 - v1 / 10 * 10)]) (rest := []) rfl (by decide) vw_X6_101 ⟨Nat.le_of_ble_eq_true rfl, Nat.le_of_ble_eq_true rfl, Nat.zero_le _, Nat.zero_le _⟩ hc hw hl.1 (Nat.lt_of_lt_of_le (by decide) hM) rfl (m_X6_cheeseAt l hM (v1 - v1 / 10 * 10) σ h) rfl rfl (Nat.le_of_ble_eq_true rfl) dX6_mix_31 (fun q3 σ2 H locs h hw => ?_)
    exact b_X6_mix_34 hM v2 v3 t0 q3 σ2 _ _ _ h  hc hr hw (lv_sub hl [1, 3, 4, 0] rfl)
  · replace h := h.2 c1
    refine lv_null hx hb dX6_mix_22 ?_
    refine lv_goto (tgt := 34) hx hb dX6_mix_23 (by decide) ?_
    exact b_X6_mix_34 hM v2 v3 t0 none σ _ _ _ h  hc hr hw (lv_sub hl [1, 3, 4, 0] rfl)
def w_X6_mix (M : Nat) (post : Int32 → St → Prop) (a1 : Int32) (a2 : Int32) (a3 : Int32) (σ : St) : Prop :=
  (0 ≤ a1 → (w_X6_cheeseAt M (fun q3 σ2 => (w_X6_mix_16 M post a1 a2 a3 q3 σ2)) (a1 / 10) σ)) ∧ (¬ (0 ≤ a1) → (w_X6_mix_16 M post a1 a2 a3 none σ))
set_option maxHeartbeats 4000000 in
set_option maxRecDepth 20000 in
theorem m_X6_mix {Γ : Gm} {ad : Nat → Nat} {M : Nat} (l : Launch) (hM : 53 ≤ M) {post : Int32 → St → Prop} (a1 : Int32) (a2 : Int32) (a3 : Int32) (σ : St) (h : w_X6_mix M post a1 a2 a3 σ) : Ci l Γ YC M ad σ yX6_mix cX6_mix 13 (Option.some Jvm.ClassFile.FieldType.int) 3 0 0 [.ref (ad 0), .int a1, .int a2, .int a3] post := by
  refine g_start (by decide) (Nat.le_of_ble_eq_true rfl) ?_
  intro p e s m args below meth c ls hc hr hn hl hw
  have hc : CX Γ p s m args meth c cX6_mix RX6 13 := hc
  have hl : lv_has ls 13 [(0, .ref (ad 0)), (1, .int a1), (2, .int a2), (3, .int a3)] := hl
  have hx := hc.1
  have hb := hc.2.1
  unfold w_X6_mix at h
  generalize hHH : s.heap = H0 at hw ⊢
  refine lv_iload_n hx hb dX6_mix_0 rfl (lv_at hl 1 rfl) ?_
  refine lv_if_ge (tgt := 8) hx hb dX6_mix_1 (by decide) (fun c1 => ?_) (fun c1 => ?_)
  · replace h := h.1 c1
    refine lv_aload_n hx hb dX6_mix_8 rfl (lv_at hl 0 rfl) ?_
    refine lv_iload_n hx hb dX6_mix_9 rfl (lv_at hl 1 rfl) ?_
    refine lv_bipush (v := 10) hx hb dX6_mix_10 (by decide) ?_
    refine lv_idiv hx hb dX6_mix_12 (by decide) ?_
    refine g_Ve (Y := YC) (ci := 6) (n := 1) (k := 0) (As := [.int (a1 / 10)]) (rest := []) rfl (by decide) vw_X6_101 ⟨Nat.le_of_ble_eq_true rfl, Nat.le_of_ble_eq_true rfl, Nat.zero_le _, Nat.zero_le _⟩ hc hw hl.1 (Nat.lt_of_lt_of_le (by decide) hM) rfl (m_X6_cheeseAt l hM (a1 / 10) σ h) rfl rfl (Nat.le_of_ble_eq_true rfl) dX6_mix_13 (fun q3 σ2 H locs h hw => ?_)
    exact b_X6_mix_16 hM a1 a2 a3 q3 σ2 _ _ _ h  hc hr hw (lv_sub hl [0, 1, 2, 3] rfl)
  · replace h := h.2 c1
    refine lv_null hx hb dX6_mix_4 ?_
    refine lv_goto (tgt := 16) hx hb dX6_mix_5 (by decide) ?_
    exact b_X6_mix_16 hM a1 a2 a3 none σ _ _ _ h  hc hr hw (lv_sub hl [0, 1, 2, 3] rfl)
def w_X6_pace_43 (M : Nat) (post : Int32 → St → Prop) (k_30 : Int32 → Option Nat → Int32 → St → Prop) (k_43 : Int32 → Option Nat → Int32 → Int32 → St → Prop) (v2 : Int32) (v3 : Option Nat) (v4 : Int32) (v5 : Int32) (σ : St) : Prop :=
  (v5 ≤ 0 → (w_X3_holdsNow M (fun r3 σ2 => ((r3 = 0 → (∀ x5 : Int32, x5 = v4 + (-1) → (k_30 v2 v3 x5 σ2))) ∧ (¬ (r3 = 0) → (((gi σ2 12 8) < (gi σ2 12 7) → (∀ x7 : Int32, x7 = v4 + (-1) → (k_30 v2 v3 x7 σ2))) ∧ (¬ ((gi σ2 12 8) < (gi σ2 12 7)) → (post v4 σ2)))))) 12 σ)) ∧ (¬ (v5 ≤ 0) → (∀ x8 : Int32, x8 = (if v5 < v4 then v5 else v4) → (∃ o9 : Nat, v3 = some o9 ∧ (kdC o9 = 1 ∧ o9 < M) ∧ (w_X3_throwIn M (fun σ10 => (w_X3_passMinute M (fun σ11 => (k_43 v2 (some o9) v4 (v5 - v4) σ11)) 12 1 σ10)) 12 o9 x8 σ))))
set_option maxHeartbeats 4000000 in
set_option maxRecDepth 20000 in
theorem b_X6_pace_43 {Γ : Gm} {ad : Nat → Nat} {p : Program} {l : Launch} {e : Env} {s : State} {m : MethodId} {args : Array Value} {below : List Frame} {meth : Method} {c : Code} {M : Nat} (hM : 53 ≤ M) {post : Int32 → St → Prop} {k_30 : Int32 → Option Nat → Int32 → St → Prop} {k_43 : Int32 → Option Nat → Int32 → Int32 → St → Prop} (hk_30 : ∀ (v2 : Int32) (v3 : Option Nat) (v4 : Int32) (σ : St) (H : Heap) (locs : List Loc) (ls : Array Slot), k_30 v2 v3 v4 σ → WH Γ YC M ad σ s H locs → lv_has ls 6 [(0, .ref (ad 0)), (2, .int v2), (3, va_rf (Option.map ad v3)), (4, .int v4)] → W p l e (rmL 3 0 0) s m args below meth c H locs 0 0 (MQ below (va_Qi post (fun u t => WC Γ YC M ad u t) (AA Γ)) args s 0 0 (AA Γ)) (F0 m 30 ls [])) (hk_43 : ∀ (v2 : Int32) (v3 : Option Nat) (v4 : Int32) (v5 : Int32) (σ : St) (H : Heap) (locs : List Loc) (ls : Array Slot), k_43 v2 v3 v4 v5 σ → WH Γ YC M ad σ s H locs → lv_has ls 6 [(0, .ref (ad 0)), (2, .int v2), (3, va_rf (Option.map ad v3)), (4, .int v4), (5, .int v5)] → W p l e (rmL 3 0 0) s m args below meth c H locs 0 0 (MQ below (va_Qi post (fun u t => WC Γ YC M ad u t) (AA Γ)) args s 0 0 (AA Γ)) (F0 m 43 ls []))
    (v2 : Int32) (v3 : Option Nat) (v4 : Int32) (v5 : Int32) (σ : St) (H : Heap) (locs : List Loc) (ls : Array Slot) (h : w_X6_pace_43 M post k_30 k_43 v2 v3 v4 v5 σ) (hc : CX Γ p s m args meth c cX6_pace RX6 6) (hr : meth.sig.returnType = (Option.some Jvm.ClassFile.FieldType.int)) (hw : WH Γ YC M ad σ s H locs) (hl : lv_has ls 6 [(0, .ref (ad 0)), (2, .int v2), (3, va_rf (Option.map ad v3)), (4, .int v4), (5, .int v5)]) :
    W p l e (rmL 3 0 0) s m args below meth c H locs 0 0 (MQ below (va_Qi post (fun u t => WC Γ YC M ad u t) (AA Γ)) args s 0 0 (AA Γ)) (F0 m 43 ls []) := by
  have hx := hc.1
  have hb := hc.2.1
  unfold w_X6_pace_43 at h
  refine lv_iload hx hb dX6_pace_43 (lv_at hl 4 rfl) ?_
  refine lv_if_le (tgt := 81) hx hb dX6_pace_45 (by decide) (fun c1 => ?_) (fun c1 => ?_)
  · replace h := h.1 c1
    refine lv_aload_n hx hb dX6_pace_81 rfl (lv_at hl 0 rfl) ?_
    refine fg_X6_57 hc hw (Nat.lt_of_lt_of_le (by decide) hM) rfl dX6_pace_82 ?_
    refine g_Vi (Y := YC) (ci := 3) (n := 0) (k := 0) (As := []) (rest := []) rfl (by decide) vw_X6_184 ⟨Nat.le_of_ble_eq_true rfl, Nat.le_of_ble_eq_true rfl, Nat.zero_le _, Nat.zero_le _⟩ hc hw hl.1 (Nat.lt_of_lt_of_le (by decide) hM) rfl (m_X3_holdsNow l hM 12 σ h) rfl rfl (Nat.le_of_ble_eq_true rfl) dX6_pace_85 (fun r3 σ2 H locs h hw => ?_)
    refine lv_if_eq (tgt := 111) hx hb dX6_pace_88 (by decide) (fun c4 => ?_) (fun c4 => ?_)
    · replace h := h.1 c4
      obtain ⟨x5, ex5⟩ : ∃ z, z = v4 + (-1) := ⟨_, rfl⟩
      replace h := h x5 ex5
      refine lv_iinc (v := x5) (lv' := [(4, .int x5), (0, .ref (ad 0)), (2, .int v2), (3, va_rf (Option.map ad v3)), (5, .int v5)]) hx hb dX6_pace_111 hl (k := 3) rfl (by rw [ex5]; rfl) (by decide) (by clear h; cases v3 <;> rfl) (fun ls hl => ?_)
      refine lv_goto (tgt := 30) hx hb dX6_pace_114 (by decide) ?_
      exact hk_30 v2 v3 x5 σ2 _ _ _ h  hw (lv_sub hl [1, 2, 3, 0] rfl)
    · replace h := h.2 c4
      refine lv_aload_n hx hb dX6_pace_91 rfl (lv_at hl 0 rfl) ?_
      refine fg_X6_57 hc hw (Nat.lt_of_lt_of_le (by decide) hM) rfl dX6_pace_92 ?_
      refine fg_X6_236 (o := 12) hc hw (Nat.lt_of_lt_of_le (by decide) hM) rfl dX6_pace_95 ?_
      refine lv_aload_n hx hb dX6_pace_98 rfl (lv_at hl 0 rfl) ?_
      refine fg_X6_57 hc hw (Nat.lt_of_lt_of_le (by decide) hM) rfl dX6_pace_99 ?_
      refine fg_X6_239 (o := 12) hc hw (Nat.lt_of_lt_of_le (by decide) hM) rfl dX6_pace_102 ?_
      refine lv_icmp_gt (tgt := 111) hx hb dX6_pace_105 (by decide) (fun c6 => ?_) (fun c6 => ?_)
      · replace h := h.1 c6
        obtain ⟨x7, ex7⟩ : ∃ z, z = v4 + (-1) := ⟨_, rfl⟩
        replace h := h x7 ex7
        refine lv_iinc (v := x7) (lv' := [(4, .int x7), (0, .ref (ad 0)), (2, .int v2), (3, va_rf (Option.map ad v3)), (5, .int v5)]) hx hb dX6_pace_111 hl (k := 3) rfl (by rw [ex7]; rfl) (by decide) (by clear h; cases v3 <;> rfl) (fun ls hl => ?_)
        refine lv_goto (tgt := 30) hx hb dX6_pace_114 (by decide) ?_
        exact hk_30 v2 v3 x7 σ2 _ _ _ h  hw (lv_sub hl [1, 2, 3, 0] rfl)
      · replace h := h.2 c6
        refine lv_iload hx hb dX6_pace_108 (lv_at hl 3 rfl) ?_
        exact g_iret hc hr hw h dX6_pace_110
  · replace h := h.2 c1
    refine lv_aload_n hx hb dX6_pace_48 rfl (lv_at hl 0 rfl) ?_
    refine fg_X6_57 hc hw (Nat.lt_of_lt_of_le (by decide) hM) rfl dX6_pace_49 ?_
    refine g_aloadq hx hb dX6_pace_52 rfl (lv_at hl 2 rfl) ?_
    refine lv_iload hx hb dX6_pace_53 (lv_at hl 3 rfl) ?_
    refine lv_iload hx hb dX6_pace_55 (lv_at hl 4 rfl) ?_
    refine g_min q_772 q_360 q_85 q_361 hc hl.1 ⟨Nat.le_of_ble_eq_true rfl, Nat.le_of_ble_eq_true rfl, Nat.zero_le _, Nat.zero_le _⟩ (by clear h; cases v3 <;> exact Nat.le_of_ble_eq_true rfl) dX6_pace_57 ?_
    refine lv_topi (fun x8 ex8 => ?_)
    replace h := h x8 ex8
    obtain ⟨o9, ho_o9, hf_o9, h⟩ := h
    try rw [ho_o9] at hl
    try rw [ho_o9]
    have hl : lv_has ls 6 [(0, .ref (ad 0)), (2, .int v2), (3, .ref (ad o9)), (4, .int v4), (5, .int v5)] := hl
    refine g_Vv (Y := YC) (ci := 3) (n := 2) (k := 2) (As := [.ref (ad o9), .int x8]) (rest := []) rfl (by decide) vw_X6_229 ⟨Nat.le_of_ble_eq_true rfl, Nat.le_of_ble_eq_true rfl, Nat.zero_le _, Nat.zero_le _⟩ hc hw hl.1 (Nat.lt_of_lt_of_le (by decide) hM) rfl (m_X3_throwIn l hM 12 o9 x8 σ h) rfl rfl (Nat.le_of_ble_eq_true rfl) dX6_pace_60 (fun σ10 H locs h hw => ?_)
    refine lv_aload_n hx hb dX6_pace_63 rfl (lv_at hl 0 rfl) ?_
    refine fg_X6_57 hc hw (Nat.lt_of_lt_of_le (by decide) hM) rfl dX6_pace_64 ?_
    refine lv_iconst (v := 1) hx hb dX6_pace_67 (by decide) ?_
    refine g_Vv (Y := YC) (ci := 3) (n := 1) (k := 2) (As := [.int 1]) (rest := []) rfl (by decide) vw_X6_187 ⟨Nat.le_of_ble_eq_true rfl, Nat.le_of_ble_eq_true rfl, Nat.zero_le _, Nat.zero_le _⟩ hc hw hl.1 (Nat.lt_of_lt_of_le (by decide) hM) rfl (m_X3_passMinute l hM 12 1 σ10 h) rfl rfl (Nat.le_of_ble_eq_true rfl) dX6_pace_68 (fun σ11 H locs h hw => ?_)
    refine lv_iload hx hb dX6_pace_71 (lv_at hl 4 rfl) ?_
    refine lv_iload hx hb dX6_pace_73 (lv_at hl 3 rfl) ?_
    refine lv_isub hx hb dX6_pace_75 ?_
    refine lv_istore (lv' := [(5, .int (v5 - v4)), (0, .ref (ad 0)), (2, .int v2), (3, .ref (ad o9)), (4, .int v4)]) hx hb dX6_pace_76 hl (by decide) rfl (fun ls hl => ?_)
    refine lv_goto (tgt := 43) hx hb dX6_pace_78 (by decide) ?_
    exact hk_43 v2 (some o9) v4 (v5 - v4) σ11 _ _ _ h  hw (lv_sub hl [1, 2, 3, 4, 0] rfl)
def wl_X6_pace_43 (M : Nat) (post : Int32 → St → Prop) (k_30 : Int32 → Option Nat → Int32 → St → Prop) : Nat → Int32 → Option Nat → Int32 → Int32 → St → Prop
  | 0, _, _, _, _, _ => False
  | n + 1, v2, v3, v4, v5, σ => w_X6_pace_43 M post k_30 (wl_X6_pace_43 M post k_30 n) v2 v3 v4 v5 σ
set_option maxHeartbeats 4000000 in
theorem bl_X6_pace_43 {Γ : Gm} {ad : Nat → Nat} {p : Program} {l : Launch} {e : Env} {s : State} {m : MethodId} {args : Array Value} {below : List Frame} {meth : Method} {c : Code} {M : Nat} (hM : 53 ≤ M) {post : Int32 → St → Prop} {k_30 : Int32 → Option Nat → Int32 → St → Prop} (hk_30 : ∀ (v2 : Int32) (v3 : Option Nat) (v4 : Int32) (σ : St) (H : Heap) (locs : List Loc) (ls : Array Slot), k_30 v2 v3 v4 σ → WH Γ YC M ad σ s H locs → lv_has ls 6 [(0, .ref (ad 0)), (2, .int v2), (3, va_rf (Option.map ad v3)), (4, .int v4)] → W p l e (rmL 3 0 0) s m args below meth c H locs 0 0 (MQ below (va_Qi post (fun u t => WC Γ YC M ad u t) (AA Γ)) args s 0 0 (AA Γ)) (F0 m 30 ls []))
    (hc : CX Γ p s m args meth c cX6_pace RX6 6) (hr : meth.sig.returnType = (Option.some Jvm.ClassFile.FieldType.int)) :
    ∀ (n : Nat) (v2 : Int32) (v3 : Option Nat) (v4 : Int32) (v5 : Int32) (σ : St) (H : Heap) (locs : List Loc) (ls : Array Slot), wl_X6_pace_43 M post k_30 n v2 v3 v4 v5 σ → WH Γ YC M ad σ s H locs → lv_has ls 6 [(0, .ref (ad 0)), (2, .int v2), (3, va_rf (Option.map ad v3)), (4, .int v4), (5, .int v5)] → W p l e (rmL 3 0 0) s m args below meth c H locs 0 0 (MQ below (va_Qi post (fun u t => WC Γ YC M ad u t) (AA Γ)) args s 0 0 (AA Γ)) (F0 m 43 ls []) := by
  intro n
  induction n with
  | zero => intro v2 v3 v4 v5 σ H locs ls h; exact h.elim
  | succ n ih =>
    intro v2 v3 v4 v5 σ H locs ls h  hw hl
    exact b_X6_pace_43 hM hk_30 ih v2 v3 v4 v5 σ H locs ls h  hc hr hw hl
def w_X6_pace_30 (M : Nat) (post : Int32 → St → Prop) (k_30 : Int32 → Option Nat → Int32 → St → Prop) (v2 : Int32) (v3 : Option Nat) (v4 : Int32) (σ : St) : Prop :=
  (v4 < 1 → (post (-1) σ)) ∧ (¬ (v4 < 1) → (w_X6_beginPot M (fun σ2 => (∃ n, wl_X6_pace_43 M post k_30 n v2 v3 v4 v2 σ2)) σ))
set_option maxHeartbeats 4000000 in
set_option maxRecDepth 20000 in
theorem b_X6_pace_30 {Γ : Gm} {ad : Nat → Nat} {p : Program} {l : Launch} {e : Env} {s : State} {m : MethodId} {args : Array Value} {below : List Frame} {meth : Method} {c : Code} {M : Nat} (hM : 53 ≤ M) {post : Int32 → St → Prop} {k_30 : Int32 → Option Nat → Int32 → St → Prop} (hk_30 : ∀ (v2 : Int32) (v3 : Option Nat) (v4 : Int32) (σ : St) (H : Heap) (locs : List Loc) (ls : Array Slot), k_30 v2 v3 v4 σ → WH Γ YC M ad σ s H locs → lv_has ls 6 [(0, .ref (ad 0)), (2, .int v2), (3, va_rf (Option.map ad v3)), (4, .int v4)] → W p l e (rmL 3 0 0) s m args below meth c H locs 0 0 (MQ below (va_Qi post (fun u t => WC Γ YC M ad u t) (AA Γ)) args s 0 0 (AA Γ)) (F0 m 30 ls []))
    (v2 : Int32) (v3 : Option Nat) (v4 : Int32) (σ : St) (H : Heap) (locs : List Loc) (ls : Array Slot) (h : w_X6_pace_30 M post k_30 v2 v3 v4 σ) (hc : CX Γ p s m args meth c cX6_pace RX6 6) (hr : meth.sig.returnType = (Option.some Jvm.ClassFile.FieldType.int)) (hw : WH Γ YC M ad σ s H locs) (hl : lv_has ls 6 [(0, .ref (ad 0)), (2, .int v2), (3, va_rf (Option.map ad v3)), (4, .int v4)]) :
    W p l e (rmL 3 0 0) s m args below meth c H locs 0 0 (MQ below (va_Qi post (fun u t => WC Γ YC M ad u t) (AA Γ)) args s 0 0 (AA Γ)) (F0 m 30 ls []) := by
  have hx := hc.1
  have hb := hc.2.1
  unfold w_X6_pace_30 at h
  refine lv_iload hx hb dX6_pace_30 (lv_at hl 3 rfl) ?_
  refine lv_iconst (v := 1) hx hb dX6_pace_32 (by decide) ?_
  refine lv_icmp_lt (tgt := 117) hx hb dX6_pace_33 (by decide) (fun c1 => ?_) (fun c1 => ?_)
  · replace h := h.1 c1
    refine lv_iconst (v := (-1)) hx hb dX6_pace_117 (by decide) ?_
    exact g_iret hc hr hw h dX6_pace_118
  · replace h := h.2 c1
    refine lv_aload_n hx hb dX6_pace_36 rfl (lv_at hl 0 rfl) ?_
    refine g_Vv (Y := YC) (ci := 6) (n := 0) (k := 1) (As := []) (rest := []) rfl (by decide) vw_X6_220 ⟨Nat.le_of_ble_eq_true rfl, Nat.le_of_ble_eq_true rfl, Nat.zero_le _, Nat.zero_le _⟩ hc hw hl.1 (Nat.lt_of_lt_of_le (by decide) hM) rfl (m_X6_beginPot l hM σ h) rfl rfl (Nat.le_of_ble_eq_true rfl) dX6_pace_37 (fun σ2 H locs h hw => ?_)
    refine lv_iload_n hx hb dX6_pace_40 rfl (lv_at hl 1 rfl) ?_
    refine lv_istore (lv' := [(5, .int v2), (0, .ref (ad 0)), (2, .int v2), (3, va_rf (Option.map ad v3)), (4, .int v4)]) hx hb dX6_pace_41 hl (by decide) rfl (fun ls hl => ?_)
    obtain ⟨n, h⟩ := h
    exact bl_X6_pace_43 hM hk_30 hc hr n v2 v3 v4 v2 σ2 _ _ _ h  hw (lv_sub hl [1, 2, 3, 4, 0] rfl)
def wl_X6_pace_30 (M : Nat) (post : Int32 → St → Prop) : Nat → Int32 → Option Nat → Int32 → St → Prop
  | 0, _, _, _, _ => False
  | n + 1, v2, v3, v4, σ => w_X6_pace_30 M post (wl_X6_pace_30 M post n) v2 v3 v4 σ
set_option maxHeartbeats 4000000 in
theorem bl_X6_pace_30 {Γ : Gm} {ad : Nat → Nat} {p : Program} {l : Launch} {e : Env} {s : State} {m : MethodId} {args : Array Value} {below : List Frame} {meth : Method} {c : Code} {M : Nat} (hM : 53 ≤ M) {post : Int32 → St → Prop}
    (hc : CX Γ p s m args meth c cX6_pace RX6 6) (hr : meth.sig.returnType = (Option.some Jvm.ClassFile.FieldType.int)) :
    ∀ (n : Nat) (v2 : Int32) (v3 : Option Nat) (v4 : Int32) (σ : St) (H : Heap) (locs : List Loc) (ls : Array Slot), wl_X6_pace_30 M post n v2 v3 v4 σ → WH Γ YC M ad σ s H locs → lv_has ls 6 [(0, .ref (ad 0)), (2, .int v2), (3, va_rf (Option.map ad v3)), (4, .int v4)] → W p l e (rmL 3 0 0) s m args below meth c H locs 0 0 (MQ below (va_Qi post (fun u t => WC Γ YC M ad u t) (AA Γ)) args s 0 0 (AA Γ)) (F0 m 30 ls []) := by
  intro n
  induction n with
  | zero => intro v2 v3 v4 σ H locs ls h; exact h.elim
  | succ n ih =>
    intro v2 v3 v4 σ H locs ls h  hw hl
    exact b_X6_pace_30 hM ih v2 v3 v4 σ H locs ls h  hc hr hw hl
def w_X6_pace (M : Nat) (post : Int32 → St → Prop) (a1 : Int32) (a2 : Int32) (σ : St) : Prop :=
  w_X6_cheeseAt M (fun q2 σ1 => ((q2 = none → (post (-5) σ1)) ∧ (∀ o3 : Nat, q2 = some o3 → ((kdC o3 = 1 ∧ o3 < M) ∧ ((a2 < 1 → (post (-7) σ1)) ∧ (¬ (a2 < 1) → ((a2 ≤ 30 → (∃ n, wl_X6_pace_30 M post n a2 (some o3) a2 σ1)) ∧ (¬ (a2 ≤ 30) → (post (-7) σ1))))))))) a1 σ
set_option maxHeartbeats 4000000 in
set_option maxRecDepth 20000 in
theorem m_X6_pace {Γ : Gm} {ad : Nat → Nat} {M : Nat} (l : Launch) (hM : 53 ≤ M) {post : Int32 → St → Prop} (a1 : Int32) (a2 : Int32) (σ : St) (h : w_X6_pace M post a1 a2 σ) : Ci l Γ YC M ad σ yX6_pace cX6_pace 6 (Option.some Jvm.ClassFile.FieldType.int) 3 0 0 [.ref (ad 0), .int a1, .int a2] post := by
  refine g_start (by decide) (Nat.le_of_ble_eq_true rfl) ?_
  intro p e s m args below meth c ls hc hr hn hl hw
  have hc : CX Γ p s m args meth c cX6_pace RX6 6 := hc
  have hl : lv_has ls 6 [(0, .ref (ad 0)), (1, .int a1), (2, .int a2)] := hl
  have hx := hc.1
  have hb := hc.2.1
  unfold w_X6_pace at h
  generalize hHH : s.heap = H0 at hw ⊢
  refine lv_aload_n hx hb dX6_pace_0 rfl (lv_at hl 0 rfl) ?_
  refine lv_iload_n hx hb dX6_pace_1 rfl (lv_at hl 1 rfl) ?_
  refine g_Ve (Y := YC) (ci := 6) (n := 1) (k := 0) (As := [.int a1]) (rest := []) rfl (by decide) vw_X6_101 ⟨Nat.le_of_ble_eq_true rfl, Nat.le_of_ble_eq_true rfl, Nat.zero_le _, Nat.zero_le _⟩ hc hw hl.1 (Nat.lt_of_lt_of_le (by decide) hM) rfl (m_X6_cheeseAt l hM a1 σ h) rfl rfl (Nat.le_of_ble_eq_true rfl) dX6_pace_2 (fun q2 σ1 H locs h hw => ?_)
  refine g_astoreq (lv' := [(3, va_rf (Option.map ad q2)), (0, .ref (ad 0)), (1, .int a1), (2, .int a2)]) hx hb dX6_pace_5 rfl hl (by decide) rfl (fun ls hl => ?_)
  refine g_aloadq hx hb dX6_pace_6 rfl (lv_at hl 0 rfl) ?_
  refine g_ifnonnull (tgt := 13) hx hb dX6_pace_7 (by decide) (fun o3 hn4 => ?_) (fun hn4 => ?_)
  · replace h := h.2 o3 hn4
    try rw [hn4] at hl
    try rw [hn4]
    have hf_o3 := h.1
    replace h := h.2
    have hl : lv_has ls 6 [(3, .ref (ad o3)), (0, .ref (ad 0)), (1, .int a1), (2, .int a2)] := hl
    refine lv_iload_n hx hb dX6_pace_13 rfl (lv_at hl 3 rfl) ?_
    refine lv_iconst (v := 1) hx hb dX6_pace_14 (by decide) ?_
    refine lv_icmp_lt (tgt := 24) hx hb dX6_pace_15 (by decide) (fun c5 => ?_) (fun c5 => ?_)
    · replace h := h.1 c5
      refine lv_bipush (v := (-7)) hx hb dX6_pace_24 (by decide) ?_
      exact g_iret hc hr hw h dX6_pace_26
    · replace h := h.2 c5
      refine lv_iload_n hx hb dX6_pace_18 rfl (lv_at hl 3 rfl) ?_
      refine lv_bipush (v := 30) hx hb dX6_pace_19 (by decide) ?_
      refine lv_icmp_le (tgt := 27) hx hb dX6_pace_21 (by decide) (fun c6 => ?_) (fun c6 => ?_)
      · replace h := h.1 c6
        refine lv_iload_n hx hb dX6_pace_27 rfl (lv_at hl 3 rfl) ?_
        refine lv_istore (lv' := [(4, .int a2), (3, .ref (ad o3)), (0, .ref (ad 0)), (1, .int a1), (2, .int a2)]) hx hb dX6_pace_28 hl (by decide) rfl (fun ls hl => ?_)
        obtain ⟨n, h⟩ := h
        exact bl_X6_pace_30 hM hc hr n a2 (some o3) a2 σ1 _ _ _ h  hw (lv_sub hl [2, 4, 1, 0] rfl)
      · replace h := h.2 c6
        refine lv_bipush (v := (-7)) hx hb dX6_pace_24 (by decide) ?_
        exact g_iret hc hr hw h dX6_pace_26
  · replace h := h.1 hn4
    try rw [hn4] at hl
    try rw [hn4]
    have hl : lv_has ls 6 [(3, .null), (0, .ref (ad 0)), (1, .int a1), (2, .int a2)] := hl
    refine lv_bipush (v := (-5)) hx hb dX6_pace_10 (by decide) ?_
    exact g_iret hc hr hw h dX6_pace_12
def w_X6_sitAtTable_45 (M : Nat) (post : Int32 → St → Prop) (k_11 : Nat → Int32 → Int32 → Int32 → Int32 → Int32 → St → Prop) (v0 : Nat) (v1 : Int32) (v2 : Int32) (v3 : Int32) (v4 : Int32) (v5 : Int32) (v6 : Int32) (σ : St) : Prop :=
  w_X3_passMinute M (fun σ1 => ((v4 = 0 → (∀ x3 : Int32, x3 = v5 + 1 → (k_11 v0 v1 v2 v3 0 x3 σ1))) ∧ (¬ (v4 = 0) → (w_X3_holdsNow M (fun r5 σ4 => ((r5 = 0 → (∀ x7 : Int32, x7 = v5 + 1 → (k_11 v0 v1 v2 v3 0 x7 σ4))) ∧ (¬ (r5 = 0) → (∀ x8 : Int32, x8 = v3 + 1 → (∀ x9 : Int32, x9 = v5 + 1 → (k_11 v0 v1 v2 x8 1 x9 σ4)))))) v0 σ1)))) v0 v6 σ
set_option maxHeartbeats 4000000 in
set_option maxRecDepth 20000 in
theorem b_X6_sitAtTable_45 {Γ : Gm} {ad : Nat → Nat} {p : Program} {l : Launch} {e : Env} {s : State} {m : MethodId} {args : Array Value} {below : List Frame} {meth : Method} {c : Code} {M : Nat} (hM : 53 ≤ M) {post : Int32 → St → Prop} {k_11 : Nat → Int32 → Int32 → Int32 → Int32 → Int32 → St → Prop} (hk_11 : ∀ (v0 : Nat) (v1 : Int32) (v2 : Int32) (v3 : Int32) (v4 : Int32) (v5 : Int32) (σ : St) (H : Heap) (locs : List Loc) (ls : Array Slot), k_11 v0 v1 v2 v3 v4 v5 σ → kdC v0 = 3 ∧ v0 < M → WH Γ YC M ad σ s H locs → lv_has ls 7 [(0, .ref (ad v0)), (1, .int v1), (2, .int v2), (3, .int v3), (4, .int v4), (5, .int v5)] → W p l e (rmL 3 0 0) s m args below meth c H locs 0 0 (MQ below (va_Qi post (fun u t => WC Γ YC M ad u t) (AA Γ)) args s 0 0 (AA Γ)) (F0 m 11 ls []))
    (v0 : Nat) (v1 : Int32) (v2 : Int32) (v3 : Int32) (v4 : Int32) (v5 : Int32) (v6 : Int32) (σ : St) (H : Heap) (locs : List Loc) (ls : Array Slot) (h : w_X6_sitAtTable_45 M post k_11 v0 v1 v2 v3 v4 v5 v6 σ) (hf_v0 : kdC v0 = 3 ∧ v0 < M) (hc : CX Γ p s m args meth c cX6_sitAtTable RX6 7) (hr : meth.sig.returnType = (Option.some Jvm.ClassFile.FieldType.int)) (hw : WH Γ YC M ad σ s H locs) (hl : lv_has ls 7 [(0, .ref (ad v0)), (1, .int v1), (2, .int v2), (3, .int v3), (4, .int v4), (5, .int v5), (6, .int v6)]) :
    W p l e (rmL 3 0 0) s m args below meth c H locs 0 0 (MQ below (va_Qi post (fun u t => WC Γ YC M ad u t) (AA Γ)) args s 0 0 (AA Γ)) (F0 m 45 ls []) := by
  have hx := hc.1
  have hb := hc.2.1
  unfold w_X6_sitAtTable_45 at h
  refine lv_aload_n hx hb dX6_sitAtTable_45 rfl (lv_at hl 0 rfl) ?_
  refine lv_iload hx hb dX6_sitAtTable_46 (lv_at hl 6 rfl) ?_
  refine g_Vv (Y := YC) (ci := 3) (n := 1) (k := 2) (As := [.int v6]) (rest := []) rfl (by decide) vw_X6_187 ⟨Nat.le_of_ble_eq_true rfl, Nat.le_of_ble_eq_true rfl, Nat.zero_le _, Nat.zero_le _⟩ hc hw hl.1 hf_v0.2 hf_v0.1 (m_X3_passMinute l hM v0 v6 σ h) rfl rfl (Nat.le_of_ble_eq_true rfl) dX6_sitAtTable_48 (fun σ1 H locs h hw => ?_)
  refine lv_iload hx hb dX6_sitAtTable_51 (lv_at hl 4 rfl) ?_
  refine lv_if_eq (tgt := 67) hx hb dX6_sitAtTable_53 (by decide) (fun c2 => ?_) (fun c2 => ?_)
  · replace h := h.1 c2
    refine lv_iconst (v := 0) hx hb dX6_sitAtTable_67 (by decide) ?_
    refine lv_istore (lv' := [(4, .int 0), (0, .ref (ad v0)), (1, .int v1), (2, .int v2), (3, .int v3), (5, .int v5), (6, .int v6)]) hx hb dX6_sitAtTable_68 hl (by decide) rfl (fun ls hl => ?_)
    refine lv_iload hx hb dX6_sitAtTable_70 (lv_at hl 0 rfl) ?_
    refine lv_if_eq (tgt := 78) hx hb dX6_sitAtTable_72 (by decide) (fun _ => ?_) (fun c => absurd c (by decide))
    obtain ⟨x3, ex3⟩ : ∃ z, z = v5 + 1 := ⟨_, rfl⟩
    replace h := h x3 ex3
    refine lv_iinc (v := x3) (lv' := [(5, .int x3), (4, .int 0), (0, .ref (ad v0)), (1, .int v1), (2, .int v2), (3, .int v3), (6, .int v6)]) hx hb dX6_sitAtTable_78 hl (k := 5) rfl (by rw [ex3]; rfl) (by decide) rfl (fun ls hl => ?_)
    refine lv_goto (tgt := 11) hx hb dX6_sitAtTable_81 (by decide) ?_
    exact hk_11 v0 v1 v2 v3 0 x3 σ1 _ _ _ h ⟨hf_v0.1, hf_v0.2⟩ hw (lv_sub hl [2, 3, 4, 5, 1, 0] rfl)
  · replace h := h.2 c2
    refine lv_aload_n hx hb dX6_sitAtTable_56 rfl (lv_at hl 0 rfl) ?_
    refine g_Vi (Y := YC) (ci := 3) (n := 0) (k := 0) (As := []) (rest := []) rfl (by decide) vw_X6_184 ⟨Nat.le_of_ble_eq_true rfl, Nat.le_of_ble_eq_true rfl, Nat.zero_le _, Nat.zero_le _⟩ hc hw hl.1 hf_v0.2 hf_v0.1 (m_X3_holdsNow l hM v0 σ1 h) rfl rfl (Nat.le_of_ble_eq_true rfl) dX6_sitAtTable_57 (fun r5 σ4 H locs h hw => ?_)
    refine lv_if_eq (tgt := 67) hx hb dX6_sitAtTable_60 (by decide) (fun c6 => ?_) (fun c6 => ?_)
    · replace h := h.1 c6
      refine lv_iconst (v := 0) hx hb dX6_sitAtTable_67 (by decide) ?_
      refine lv_istore (lv' := [(4, .int 0), (0, .ref (ad v0)), (1, .int v1), (2, .int v2), (3, .int v3), (5, .int v5), (6, .int v6)]) hx hb dX6_sitAtTable_68 hl (by decide) rfl (fun ls hl => ?_)
      refine lv_iload hx hb dX6_sitAtTable_70 (lv_at hl 0 rfl) ?_
      refine lv_if_eq (tgt := 78) hx hb dX6_sitAtTable_72 (by decide) (fun _ => ?_) (fun c => absurd c (by decide))
      obtain ⟨x7, ex7⟩ : ∃ z, z = v5 + 1 := ⟨_, rfl⟩
      replace h := h x7 ex7
      refine lv_iinc (v := x7) (lv' := [(5, .int x7), (4, .int 0), (0, .ref (ad v0)), (1, .int v1), (2, .int v2), (3, .int v3), (6, .int v6)]) hx hb dX6_sitAtTable_78 hl (k := 5) rfl (by rw [ex7]; rfl) (by decide) rfl (fun ls hl => ?_)
      refine lv_goto (tgt := 11) hx hb dX6_sitAtTable_81 (by decide) ?_
      exact hk_11 v0 v1 v2 v3 0 x7 σ4 _ _ _ h ⟨hf_v0.1, hf_v0.2⟩ hw (lv_sub hl [2, 3, 4, 5, 1, 0] rfl)
    · replace h := h.2 c6
      refine lv_iconst (v := 1) hx hb dX6_sitAtTable_63 (by decide) ?_
      refine lv_goto (tgt := 68) hx hb dX6_sitAtTable_64 (by decide) ?_
      refine lv_istore (lv' := [(4, .int 1), (0, .ref (ad v0)), (1, .int v1), (2, .int v2), (3, .int v3), (5, .int v5), (6, .int v6)]) hx hb dX6_sitAtTable_68 hl (by decide) rfl (fun ls hl => ?_)
      refine lv_iload hx hb dX6_sitAtTable_70 (lv_at hl 0 rfl) ?_
      refine lv_if_eq (tgt := 78) hx hb dX6_sitAtTable_72 (by decide) (fun c => absurd c (by decide)) (fun _ => ?_)
      obtain ⟨x8, ex8⟩ : ∃ z, z = v3 + 1 := ⟨_, rfl⟩
      replace h := h x8 ex8
      refine lv_iinc (v := x8) (lv' := [(3, .int x8), (4, .int 1), (0, .ref (ad v0)), (1, .int v1), (2, .int v2), (5, .int v5), (6, .int v6)]) hx hb dX6_sitAtTable_75 hl (k := 4) rfl (by rw [ex8]; rfl) (by decide) rfl (fun ls hl => ?_)
      obtain ⟨x9, ex9⟩ : ∃ z, z = v5 + 1 := ⟨_, rfl⟩
      replace h := h x9 ex9
      refine lv_iinc (v := x9) (lv' := [(5, .int x9), (3, .int x8), (4, .int 1), (0, .ref (ad v0)), (1, .int v1), (2, .int v2), (6, .int v6)]) hx hb dX6_sitAtTable_78 hl (k := 5) rfl (by rw [ex9]; rfl) (by decide) rfl (fun ls hl => ?_)
      refine lv_goto (tgt := 11) hx hb dX6_sitAtTable_81 (by decide) ?_
      exact hk_11 v0 v1 v2 x8 1 x9 σ4 _ _ _ h ⟨hf_v0.1, hf_v0.2⟩ hw (lv_sub hl [3, 4, 5, 1, 2, 0] rfl)
def w_X6_sitAtTable_11 (M : Nat) (post : Int32 → St → Prop) (k_11 : Nat → Int32 → Int32 → Int32 → Int32 → Int32 → St → Prop) (v0 : Nat) (v1 : Int32) (v2 : Int32) (v3 : Int32) (v4 : Int32) (v5 : Int32) (σ : St) : Prop :=
  (v1 < v5 → (post v3 σ)) ∧ (¬ (v1 < v5) → ((v2 ≤ 0 → (w_X6_sitAtTable_45 M post k_11 v0 v1 v2 v3 v4 v5 0 σ)) ∧ (¬ (v2 ≤ 0) → ((¬ v2 = 0) ∧ (((v5 - v5 / v2 * v2) = 0 → (w_X3_beat M (fun σ4 => (w_X6_sitAtTable_45 M post k_11 v0 v1 v2 v3 v4 v5 1 σ4)) v0 2 σ)) ∧ (¬ ((v5 - v5 / v2 * v2) = 0) → (w_X6_sitAtTable_45 M post k_11 v0 v1 v2 v3 v4 v5 0 σ)))))))
set_option maxHeartbeats 4000000 in
set_option maxRecDepth 20000 in
theorem b_X6_sitAtTable_11 {Γ : Gm} {ad : Nat → Nat} {p : Program} {l : Launch} {e : Env} {s : State} {m : MethodId} {args : Array Value} {below : List Frame} {meth : Method} {c : Code} {M : Nat} (hM : 53 ≤ M) {post : Int32 → St → Prop} {k_11 : Nat → Int32 → Int32 → Int32 → Int32 → Int32 → St → Prop} (hk_11 : ∀ (v0 : Nat) (v1 : Int32) (v2 : Int32) (v3 : Int32) (v4 : Int32) (v5 : Int32) (σ : St) (H : Heap) (locs : List Loc) (ls : Array Slot), k_11 v0 v1 v2 v3 v4 v5 σ → kdC v0 = 3 ∧ v0 < M → WH Γ YC M ad σ s H locs → lv_has ls 7 [(0, .ref (ad v0)), (1, .int v1), (2, .int v2), (3, .int v3), (4, .int v4), (5, .int v5)] → W p l e (rmL 3 0 0) s m args below meth c H locs 0 0 (MQ below (va_Qi post (fun u t => WC Γ YC M ad u t) (AA Γ)) args s 0 0 (AA Γ)) (F0 m 11 ls []))
    (v0 : Nat) (v1 : Int32) (v2 : Int32) (v3 : Int32) (v4 : Int32) (v5 : Int32) (σ : St) (H : Heap) (locs : List Loc) (ls : Array Slot) (h : w_X6_sitAtTable_11 M post k_11 v0 v1 v2 v3 v4 v5 σ) (hf_v0 : kdC v0 = 3 ∧ v0 < M) (hc : CX Γ p s m args meth c cX6_sitAtTable RX6 7) (hr : meth.sig.returnType = (Option.some Jvm.ClassFile.FieldType.int)) (hw : WH Γ YC M ad σ s H locs) (hl : lv_has ls 7 [(0, .ref (ad v0)), (1, .int v1), (2, .int v2), (3, .int v3), (4, .int v4), (5, .int v5)]) :
    W p l e (rmL 3 0 0) s m args below meth c H locs 0 0 (MQ below (va_Qi post (fun u t => WC Γ YC M ad u t) (AA Γ)) args s 0 0 (AA Γ)) (F0 m 11 ls []) := by
  have hx := hc.1
  have hb := hc.2.1
  unfold w_X6_sitAtTable_11 at h
  refine lv_iload hx hb dX6_sitAtTable_11 (lv_at hl 5 rfl) ?_
  refine lv_iload_n hx hb dX6_sitAtTable_13 rfl (lv_at hl 1 rfl) ?_
  refine lv_icmp_gt (tgt := 84) hx hb dX6_sitAtTable_14 (by decide) (fun c1 => ?_) (fun c1 => ?_)
  · replace h := h.1 c1
    refine lv_iload_n hx hb dX6_sitAtTable_84 rfl (lv_at hl 3 rfl) ?_
    exact g_iret hc hr hw h dX6_sitAtTable_85
  · replace h := h.2 c1
    refine lv_iload_n hx hb dX6_sitAtTable_17 rfl (lv_at hl 2 rfl) ?_
    refine lv_if_le (tgt := 32) hx hb dX6_sitAtTable_18 (by decide) (fun c2 => ?_) (fun c2 => ?_)
    · replace h := h.1 c2
      refine lv_iconst (v := 0) hx hb dX6_sitAtTable_32 (by decide) ?_
      refine lv_istore (lv' := [(6, .int 0), (0, .ref (ad v0)), (1, .int v1), (2, .int v2), (3, .int v3), (4, .int v4), (5, .int v5)]) hx hb dX6_sitAtTable_33 hl (by decide) rfl (fun ls hl => ?_)
      refine lv_iload hx hb dX6_sitAtTable_35 (lv_at hl 0 rfl) ?_
      refine lv_if_eq (tgt := 45) hx hb dX6_sitAtTable_37 (by decide) (fun _ => ?_) (fun c => absurd c (by decide))
      exact b_X6_sitAtTable_45 hM hk_11 v0 v1 v2 v3 v4 v5 0 σ _ _ _ h ⟨hf_v0.1, hf_v0.2⟩ hc hr hw (lv_sub hl [1, 2, 3, 4, 5, 6, 0] rfl)
    · replace h := h.2 c2
      refine lv_iload hx hb dX6_sitAtTable_21 (lv_at hl 5 rfl) ?_
      refine lv_iload_n hx hb dX6_sitAtTable_23 rfl (lv_at hl 2 rfl) ?_
      refine lv_irem hx hb dX6_sitAtTable_24 h.1 ?_
      replace h := h.2
      refine lv_if_ne (tgt := 32) hx hb dX6_sitAtTable_25 (by decide) (fun c3 => ?_) (fun c3 => ?_)
      · replace h := h.2 c3
        refine lv_iconst (v := 0) hx hb dX6_sitAtTable_32 (by decide) ?_
        refine lv_istore (lv' := [(6, .int 0), (0, .ref (ad v0)), (1, .int v1), (2, .int v2), (3, .int v3), (4, .int v4), (5, .int v5)]) hx hb dX6_sitAtTable_33 hl (by decide) rfl (fun ls hl => ?_)
        refine lv_iload hx hb dX6_sitAtTable_35 (lv_at hl 0 rfl) ?_
        refine lv_if_eq (tgt := 45) hx hb dX6_sitAtTable_37 (by decide) (fun _ => ?_) (fun c => absurd c (by decide))
        exact b_X6_sitAtTable_45 hM hk_11 v0 v1 v2 v3 v4 v5 0 σ _ _ _ h ⟨hf_v0.1, hf_v0.2⟩ hc hr hw (lv_sub hl [1, 2, 3, 4, 5, 6, 0] rfl)
      · replace h := h.1 c3
        refine lv_iconst (v := 1) hx hb dX6_sitAtTable_28 (by decide) ?_
        refine lv_goto (tgt := 33) hx hb dX6_sitAtTable_29 (by decide) ?_
        refine lv_istore (lv' := [(6, .int 1), (0, .ref (ad v0)), (1, .int v1), (2, .int v2), (3, .int v3), (4, .int v4), (5, .int v5)]) hx hb dX6_sitAtTable_33 hl (by decide) rfl (fun ls hl => ?_)
        refine lv_iload hx hb dX6_sitAtTable_35 (lv_at hl 0 rfl) ?_
        refine lv_if_eq (tgt := 45) hx hb dX6_sitAtTable_37 (by decide) (fun c => absurd c (by decide)) (fun _ => ?_)
        refine lv_aload_n hx hb dX6_sitAtTable_40 rfl (lv_at hl 1 rfl) ?_
        refine lv_iconst (v := 2) hx hb dX6_sitAtTable_41 (by decide) ?_
        refine g_Vv (Y := YC) (ci := 3) (n := 1) (k := 0) (As := [.int 2]) (rest := []) rfl (by decide) vw_X6_226 ⟨Nat.le_of_ble_eq_true rfl, Nat.le_of_ble_eq_true rfl, Nat.zero_le _, Nat.zero_le _⟩ hc hw hl.1 hf_v0.2 hf_v0.1 (m_X3_beat l hM v0 2 σ h) rfl rfl (Nat.le_of_ble_eq_true rfl) dX6_sitAtTable_42 (fun σ4 H locs h hw => ?_)
        exact b_X6_sitAtTable_45 hM hk_11 v0 v1 v2 v3 v4 v5 1 σ4 _ _ _ h ⟨hf_v0.1, hf_v0.2⟩ hc hr hw (lv_sub hl [1, 2, 3, 4, 5, 6, 0] rfl)
def wl_X6_sitAtTable_11 (M : Nat) (post : Int32 → St → Prop) : Nat → Nat → Int32 → Int32 → Int32 → Int32 → Int32 → St → Prop
  | 0, _, _, _, _, _, _, _ => False
  | n + 1, v0, v1, v2, v3, v4, v5, σ => w_X6_sitAtTable_11 M post (wl_X6_sitAtTable_11 M post n) v0 v1 v2 v3 v4 v5 σ
set_option maxHeartbeats 4000000 in
theorem bl_X6_sitAtTable_11 {Γ : Gm} {ad : Nat → Nat} {p : Program} {l : Launch} {e : Env} {s : State} {m : MethodId} {args : Array Value} {below : List Frame} {meth : Method} {c : Code} {M : Nat} (hM : 53 ≤ M) {post : Int32 → St → Prop}
    (hc : CX Γ p s m args meth c cX6_sitAtTable RX6 7) (hr : meth.sig.returnType = (Option.some Jvm.ClassFile.FieldType.int)) :
    ∀ (n : Nat) (v0 : Nat) (v1 : Int32) (v2 : Int32) (v3 : Int32) (v4 : Int32) (v5 : Int32) (σ : St) (H : Heap) (locs : List Loc) (ls : Array Slot), wl_X6_sitAtTable_11 M post n v0 v1 v2 v3 v4 v5 σ → kdC v0 = 3 ∧ v0 < M → WH Γ YC M ad σ s H locs → lv_has ls 7 [(0, .ref (ad v0)), (1, .int v1), (2, .int v2), (3, .int v3), (4, .int v4), (5, .int v5)] → W p l e (rmL 3 0 0) s m args below meth c H locs 0 0 (MQ below (va_Qi post (fun u t => WC Γ YC M ad u t) (AA Γ)) args s 0 0 (AA Γ)) (F0 m 11 ls []) := by
  intro n
  induction n with
  | zero => intro v0 v1 v2 v3 v4 v5 σ H locs ls h; exact h.elim
  | succ n ih =>
    intro v0 v1 v2 v3 v4 v5 σ H locs ls h hf_v0 hw hl
    exact b_X6_sitAtTable_11 hM ih v0 v1 v2 v3 v4 v5 σ H locs ls h hf_v0 hc hr hw hl
def w_X6_sitAtTable (M : Nat) (post : Int32 → St → Prop) (a1 : Nat) (a2 : Int32) (a3 : Int32) (σ : St) : Prop :=
  (kdC a1 = 3 ∧ a1 < M) ∧ (w_X3_holdsNow M (fun r2 σ1 => (∃ n, wl_X6_sitAtTable_11 M post n a1 a2 a3 0 r2 1 σ1)) a1 σ)
set_option maxHeartbeats 4000000 in
set_option maxRecDepth 20000 in
theorem m_X6_sitAtTable {Γ : Gm} {ad : Nat → Nat} {M : Nat} (l : Launch) (hM : 53 ≤ M) {post : Int32 → St → Prop} (a1 : Nat) (a2 : Int32) (a3 : Int32) (σ : St) (h : w_X6_sitAtTable M post a1 a2 a3 σ) : Ci l Γ YC M ad σ yX6_sitAtTable cX6_sitAtTable 7 (Option.some Jvm.ClassFile.FieldType.int) 3 0 0 [.ref (ad a1), .int a2, .int a3] post := by
  refine g_start (by decide) (Nat.le_of_ble_eq_true rfl) ?_
  intro p e s m args below meth c ls hc hr hn hl hw
  have hc : CX Γ p s m args meth c cX6_sitAtTable RX6 7 := hc
  have hl : lv_has ls 7 [(0, .ref (ad a1)), (1, .int a2), (2, .int a3)] := hl
  have hx := hc.1
  have hb := hc.2.1
  unfold w_X6_sitAtTable at h
  have hf_a1 := h.1
  replace h := h.2
  generalize hHH : s.heap = H0 at hw ⊢
  refine lv_iconst (v := 0) hx hb dX6_sitAtTable_0 (by decide) ?_
  refine lv_istore_n (lv' := [(3, .int 0), (0, .ref (ad a1)), (1, .int a2), (2, .int a3)]) hx hb dX6_sitAtTable_1 rfl hl (by decide) rfl (fun ls hl => ?_)
  refine lv_aload_n hx hb dX6_sitAtTable_2 rfl (lv_at hl 1 rfl) ?_
  refine g_Vi (Y := YC) (ci := 3) (n := 0) (k := 0) (As := []) (rest := []) rfl (by decide) vw_X6_184 ⟨Nat.le_of_ble_eq_true rfl, Nat.le_of_ble_eq_true rfl, Nat.zero_le _, Nat.zero_le _⟩ hc hw hl.1 hf_a1.2 hf_a1.1 (m_X3_holdsNow l hM a1 σ h) rfl rfl (Nat.le_of_ble_eq_true rfl) dX6_sitAtTable_3 (fun r2 σ1 H locs h hw => ?_)
  refine lv_istore (lv' := [(4, .int r2), (3, .int 0), (0, .ref (ad a1)), (1, .int a2), (2, .int a3)]) hx hb dX6_sitAtTable_6 hl (by decide) rfl (fun ls hl => ?_)
  refine lv_iconst (v := 1) hx hb dX6_sitAtTable_8 (by decide) ?_
  refine lv_istore (lv' := [(5, .int 1), (4, .int r2), (3, .int 0), (0, .ref (ad a1)), (1, .int a2), (2, .int a3)]) hx hb dX6_sitAtTable_9 hl (by decide) rfl (fun ls hl => ?_)
  obtain ⟨n, h⟩ := h
  exact bl_X6_sitAtTable_11 hM hc hr n a1 a2 a3 0 r2 1 σ1 _ _ _ h ⟨hf_a1.1, hf_a1.2⟩ hw (lv_sub hl [3, 4, 5, 2, 1, 0] rfl)
def w_X6_runActs_2 (M : Nat) (post : St → Prop) (k_2 : Int32 → Int32 → St → Prop) (v2 : Int32) (v3 : Int32) (σ : St) : Prop :=
  (v2 ≤ v3 → (post σ)) ∧ (¬ (v2 ≤ v3) → (w_X6_actAt M (fun q3 σ2 => ((q3 = none → (∀ x6 : Int32, x6 = v3 + 1 → (k_2 v2 x6 σ2))) ∧ (∀ o4 : Nat, q3 = some o4 → ((kdC o4 = 0 ∧ o4 < M) ∧ (w_X6_cheeseAt M (fun q8 σ7 => (w_X3_undergo M (fun σ9 => (∀ x10 : Int32, x10 = v3 + 1 → (k_2 v2 x10 σ9))) 12 o4 q8 σ7)) (gi σ2 o4 2) σ2))))) v3 σ))
set_option maxHeartbeats 4000000 in
set_option maxRecDepth 20000 in
theorem b_X6_runActs_2 {Γ : Gm} {ad : Nat → Nat} {p : Program} {l : Launch} {e : Env} {s : State} {m : MethodId} {args : Array Value} {below : List Frame} {meth : Method} {c : Code} {M : Nat} (hM : 53 ≤ M) {post : St → Prop} {k_2 : Int32 → Int32 → St → Prop} (hk_2 : ∀ (v2 : Int32) (v3 : Int32) (σ : St) (H : Heap) (locs : List Loc) (ls : Array Slot), k_2 v2 v3 σ → WH Γ YC M ad σ s H locs → lv_has ls 5 [(0, .ref (ad 0)), (2, .int v2), (3, .int v3)] → W p l e (rmL 4 0 0) s m args below meth c H locs 0 0 (MQ below (va_Qv post (fun u t => WC Γ YC M ad u t) (AA Γ)) args s 0 0 (AA Γ)) (F0 m 2 ls []))
    (v2 : Int32) (v3 : Int32) (σ : St) (H : Heap) (locs : List Loc) (ls : Array Slot) (h : w_X6_runActs_2 M post k_2 v2 v3 σ) (hc : CX Γ p s m args meth c cX6_runActs RX6 5) (hr : meth.sig.returnType = none) (hw : WH Γ YC M ad σ s H locs) (hl : lv_has ls 5 [(0, .ref (ad 0)), (2, .int v2), (3, .int v3)]) :
    W p l e (rmL 4 0 0) s m args below meth c H locs 0 0 (MQ below (va_Qv post (fun u t => WC Γ YC M ad u t) (AA Γ)) args s 0 0 (AA Γ)) (F0 m 2 ls []) := by
  have hx := hc.1
  have hb := hc.2.1
  unfold w_X6_runActs_2 at h
  refine lv_iload_n hx hb dX6_runActs_2 rfl (lv_at hl 2 rfl) ?_
  refine lv_iload_n hx hb dX6_runActs_3 rfl (lv_at hl 1 rfl) ?_
  refine lv_icmp_ge (tgt := 43) hx hb dX6_runActs_4 (by decide) (fun c1 => ?_) (fun c1 => ?_)
  · replace h := h.1 c1
    exact g_vret hc hr hw h dX6_runActs_43
  · replace h := h.2 c1
    refine lv_aload_n hx hb dX6_runActs_7 rfl (lv_at hl 0 rfl) ?_
    refine lv_iload_n hx hb dX6_runActs_8 rfl (lv_at hl 2 rfl) ?_
    refine g_Ve (Y := YC) (ci := 6) (n := 1) (k := 0) (As := [.int v3]) (rest := []) rfl (by decide) vw_X6_141 ⟨Nat.le_of_ble_eq_true rfl, Nat.le_of_ble_eq_true rfl, Nat.zero_le _, Nat.zero_le _⟩ hc hw hl.1 (Nat.lt_of_lt_of_le (by decide) hM) rfl (m_X6_actAt l hM v3 σ h) rfl rfl (Nat.le_of_ble_eq_true rfl) dX6_runActs_9 (fun q3 σ2 H locs h hw => ?_)
    refine g_astoreqW (lv' := [(4, va_rf (Option.map ad q3)), (0, .ref (ad 0)), (2, .int v2), (3, .int v3)]) hx hb dX6_runActs_12 hl (by decide) rfl (fun ls hl => ?_)
    refine g_aloadqW hx hb dX6_runActs_14 (lv_at hl 0 rfl) ?_
    refine g_ifnull (tgt := 37) hx hb dX6_runActs_16 (by decide) (fun hn5 => ?_) (fun o4 hn5 => ?_)
    · replace h := h.1 hn5
      try rw [hn5] at hl
      try rw [hn5]
      have hl : lv_has ls 5 [(4, .null), (0, .ref (ad 0)), (2, .int v2), (3, .int v3)] := hl
      obtain ⟨x6, ex6⟩ : ∃ z, z = v3 + 1 := ⟨_, rfl⟩
      replace h := h x6 ex6
      refine lv_iinc (v := x6) (lv' := [(3, .int x6), (4, .null), (0, .ref (ad 0)), (2, .int v2)]) hx hb dX6_runActs_37 hl (k := 3) rfl (by rw [ex6]; rfl) (by decide) rfl (fun ls hl => ?_)
      refine lv_goto (tgt := 2) hx hb dX6_runActs_40 (by decide) ?_
      exact hk_2 v2 x6 σ2 _ _ _ h  hw (lv_sub hl [2, 3, 0] rfl)
    · replace h := h.2 o4 hn5
      try rw [hn5] at hl
      try rw [hn5]
      have hf_o4 := h.1
      replace h := h.2
      have hl : lv_has ls 5 [(4, .ref (ad o4)), (0, .ref (ad 0)), (2, .int v2), (3, .int v3)] := hl
      refine lv_aload_n hx hb dX6_runActs_19 rfl (lv_at hl 1 rfl) ?_
      refine fg_X6_57 hc hw (Nat.lt_of_lt_of_le (by decide) hM) rfl dX6_runActs_20 ?_
      refine lv_aload hx hb dX6_runActs_23 (lv_at hl 0 rfl) ?_
      refine lv_aload_n hx hb dX6_runActs_25 rfl (lv_at hl 1 rfl) ?_
      refine lv_aload hx hb dX6_runActs_26 (lv_at hl 0 rfl) ?_
      refine fg_X6_155 (o := o4) hc hw hf_o4.2 hf_o4.1 dX6_runActs_28 ?_
      refine g_Ve (Y := YC) (ci := 6) (n := 1) (k := 0) (As := [.int (gi σ2 o4 2)]) (rest := [.ref (ad o4), .ref (ad 12)]) rfl (by decide) vw_X6_101 ⟨Nat.le_of_ble_eq_true rfl, Nat.le_of_ble_eq_true rfl, Nat.zero_le _, Nat.zero_le _⟩ hc hw hl.1 (Nat.lt_of_lt_of_le (by decide) hM) rfl (m_X6_cheeseAt l hM (gi σ2 o4 2) σ2 h) rfl rfl (Nat.le_of_ble_eq_true rfl) dX6_runActs_31 (fun q8 σ7 H locs h hw => ?_)
      refine g_Vv (Y := YC) (ci := 3) (n := 2) (k := 3) (As := [.ref (ad o4), va_rf (Option.map ad q8)]) (rest := []) rfl (by decide) vw_X6_213 ⟨Nat.le_of_ble_eq_true rfl, Nat.le_of_ble_eq_true rfl, Nat.zero_le _, Nat.zero_le _⟩ hc hw hl.1 (Nat.lt_of_lt_of_le (by decide) hM) rfl (m_X3_undergo l hM 12 o4 q8 σ7 h) rfl rfl (Nat.le_of_ble_eq_true rfl) dX6_runActs_34 (fun σ9 H locs h hw => ?_)
      obtain ⟨x10, ex10⟩ : ∃ z, z = v3 + 1 := ⟨_, rfl⟩
      replace h := h x10 ex10
      refine lv_iinc (v := x10) (lv' := [(3, .int x10), (4, .ref (ad o4)), (0, .ref (ad 0)), (2, .int v2)]) hx hb dX6_runActs_37 hl (k := 3) rfl (by rw [ex10]; rfl) (by decide) rfl (fun ls hl => ?_)
      refine lv_goto (tgt := 2) hx hb dX6_runActs_40 (by decide) ?_
      exact hk_2 v2 x10 σ9 _ _ _ h  hw (lv_sub hl [2, 3, 0] rfl)
def wl_X6_runActs_2 (M : Nat) (post : St → Prop) : Nat → Int32 → Int32 → St → Prop
  | 0, _, _, _ => False
  | n + 1, v2, v3, σ => w_X6_runActs_2 M post (wl_X6_runActs_2 M post n) v2 v3 σ
set_option maxHeartbeats 4000000 in
theorem bl_X6_runActs_2 {Γ : Gm} {ad : Nat → Nat} {p : Program} {l : Launch} {e : Env} {s : State} {m : MethodId} {args : Array Value} {below : List Frame} {meth : Method} {c : Code} {M : Nat} (hM : 53 ≤ M) {post : St → Prop}
    (hc : CX Γ p s m args meth c cX6_runActs RX6 5) (hr : meth.sig.returnType = none) :
    ∀ (n : Nat) (v2 : Int32) (v3 : Int32) (σ : St) (H : Heap) (locs : List Loc) (ls : Array Slot), wl_X6_runActs_2 M post n v2 v3 σ → WH Γ YC M ad σ s H locs → lv_has ls 5 [(0, .ref (ad 0)), (2, .int v2), (3, .int v3)] → W p l e (rmL 4 0 0) s m args below meth c H locs 0 0 (MQ below (va_Qv post (fun u t => WC Γ YC M ad u t) (AA Γ)) args s 0 0 (AA Γ)) (F0 m 2 ls []) := by
  intro n
  induction n with
  | zero => intro v2 v3 σ H locs ls h; exact h.elim
  | succ n ih =>
    intro v2 v3 σ H locs ls h  hw hl
    exact b_X6_runActs_2 hM ih v2 v3 σ H locs ls h  hc hr hw hl
def w_X6_runActs (M : Nat) (post : St → Prop) (a1 : Int32) (a2 : Int32) (σ : St) : Prop :=
  ∃ n, wl_X6_runActs_2 M post n a2 a1 σ
set_option maxHeartbeats 4000000 in
set_option maxRecDepth 20000 in
theorem m_X6_runActs {Γ : Gm} {ad : Nat → Nat} {M : Nat} (l : Launch) (hM : 53 ≤ M) {post : St → Prop} (a1 : Int32) (a2 : Int32) (σ : St) (h : w_X6_runActs M post a1 a2 σ) : Cv l Γ YC M ad σ yX6_runActs cX6_runActs 5 none 4 0 0 [.ref (ad 0), .int a1, .int a2] post := by
  refine g_start (by decide) (Nat.le_of_ble_eq_true rfl) ?_
  intro p e s m args below meth c ls hc hr hn hl hw
  have hc : CX Γ p s m args meth c cX6_runActs RX6 5 := hc
  have hl : lv_has ls 5 [(0, .ref (ad 0)), (1, .int a1), (2, .int a2)] := hl
  have hx := hc.1
  have hb := hc.2.1
  unfold w_X6_runActs at h
  generalize hHH : s.heap = H0 at hw ⊢
  refine lv_iload_n hx hb dX6_runActs_0 rfl (lv_at hl 1 rfl) ?_
  refine lv_istore_n (lv' := [(3, .int a1), (0, .ref (ad 0)), (1, .int a1), (2, .int a2)]) hx hb dX6_runActs_1 rfl hl (by decide) rfl (fun ls hl => ?_)
  obtain ⟨n, h⟩ := h
  exact bl_X6_runActs_2 hM hc hr n a2 a1 σ _ _ _ h  hw (lv_sub hl [1, 3, 0] rfl)
def w_X6_judge_29 (M : Nat) (post : Int32 → St → Prop) (k_29 : Option Nat → Int32 → St → Prop) (v2 : Option Nat) (v4 : Int32) (σ : St) : Prop :=
  ((gi σ 0 3) ≤ v4 → (post (-1) σ)) ∧ (¬ ((gi σ 0 3) ≤ v4) → (w_X6_runActs M (fun σ2 => (∃ o3 : Nat, v2 = some o3 ∧ (kdC o3 = 5 ∧ o3 < M) ∧ (w_X5_tell M (fun r5 σ4 => (w_X3_sortNow M (fun r7 σ6 => ((r5 = r7 → (∀ x9 : Int32, x9 = v4 + 1 → (k_29 (some o3) x9 σ6))) ∧ (¬ (r5 = r7) → (post v4 σ6)))) 12 σ4)) o3 v4 σ2))) v4 (v4 + 1) σ))
set_option maxHeartbeats 4000000 in
set_option maxRecDepth 20000 in
theorem b_X6_judge_29 {Γ : Gm} {ad : Nat → Nat} {p : Program} {l : Launch} {e : Env} {s : State} {m : MethodId} {args : Array Value} {below : List Frame} {meth : Method} {c : Code} {M : Nat} (hM : 53 ≤ M) {post : Int32 → St → Prop} {k_29 : Option Nat → Int32 → St → Prop} (hk_29 : ∀ (v2 : Option Nat) (v4 : Int32) (σ : St) (H : Heap) (locs : List Loc) (ls : Array Slot), k_29 v2 v4 σ → WH Γ YC M ad σ s H locs → lv_has ls 5 [(0, .ref (ad 0)), (2, va_rf (Option.map ad v2)), (4, .int v4)] → W p l e (rmL 5 0 0) s m args below meth c H locs 0 0 (MQ below (va_Qi post (fun u t => WC Γ YC M ad u t) (AA Γ)) args s 0 0 (AA Γ)) (F0 m 29 ls []))
    (v2 : Option Nat) (v4 : Int32) (σ : St) (H : Heap) (locs : List Loc) (ls : Array Slot) (h : w_X6_judge_29 M post k_29 v2 v4 σ) (hc : CX Γ p s m args meth c cX6_judge RX6 5) (hr : meth.sig.returnType = (Option.some Jvm.ClassFile.FieldType.int)) (hw : WH Γ YC M ad σ s H locs) (hl : lv_has ls 5 [(0, .ref (ad 0)), (2, va_rf (Option.map ad v2)), (4, .int v4)]) :
    W p l e (rmL 5 0 0) s m args below meth c H locs 0 0 (MQ below (va_Qi post (fun u t => WC Γ YC M ad u t) (AA Γ)) args s 0 0 (AA Γ)) (F0 m 29 ls []) := by
  have hx := hc.1
  have hb := hc.2.1
  unfold w_X6_judge_29 at h
  refine lv_iload hx hb dX6_judge_29 (lv_at hl 2 rfl) ?_
  refine lv_aload_n hx hb dX6_judge_31 rfl (lv_at hl 0 rfl) ?_
  refine fg_X6_120 hc hw (Nat.lt_of_lt_of_le (by decide) hM) rfl dX6_judge_32 ?_
  refine lv_icmp_ge (tgt := 73) hx hb dX6_judge_35 (by decide) (fun c1 => ?_) (fun c1 => ?_)
  · replace h := h.1 c1
    refine lv_iconst (v := (-1)) hx hb dX6_judge_73 (by decide) ?_
    exact g_iret hc hr hw h dX6_judge_74
  · replace h := h.2 c1
    refine lv_aload_n hx hb dX6_judge_38 rfl (lv_at hl 0 rfl) ?_
    refine lv_iload hx hb dX6_judge_39 (lv_at hl 2 rfl) ?_
    refine lv_iload hx hb dX6_judge_41 (lv_at hl 2 rfl) ?_
    refine lv_iconst (v := 1) hx hb dX6_judge_43 (by decide) ?_
    refine lv_iadd hx hb dX6_judge_44 ?_
    refine g_Vv (Y := YC) (ci := 6) (n := 2) (k := 4) (As := [.int v4, .int (v4 + 1)]) (rest := []) rfl (by decide) vw_X6_223 ⟨Nat.le_of_ble_eq_true rfl, Nat.le_of_ble_eq_true rfl, Nat.zero_le _, Nat.zero_le _⟩ hc hw hl.1 (Nat.lt_of_lt_of_le (by decide) hM) rfl (m_X6_runActs l hM v4 (v4 + 1) σ h) rfl rfl (Nat.le_of_ble_eq_true rfl) dX6_judge_45 (fun σ2 H locs h hw => ?_)
    refine g_aloadq hx hb dX6_judge_48 rfl (lv_at hl 1 rfl) ?_
    refine lv_iload hx hb dX6_judge_49 (lv_at hl 2 rfl) ?_
    obtain ⟨o3, ho_o3, hf_o3, h⟩ := h
    try rw [ho_o3] at hl
    try rw [ho_o3]
    have hl : lv_has ls 5 [(0, .ref (ad 0)), (2, .ref (ad o3)), (4, .int v4)] := hl
    refine g_Vi (Y := YC) (ci := 5) (n := 1) (k := 1) (As := [.int v4]) (rest := []) rfl (by decide) vw_X6_266 ⟨Nat.le_of_ble_eq_true rfl, Nat.le_of_ble_eq_true rfl, Nat.zero_le _, Nat.zero_le _⟩ hc hw hl.1 hf_o3.2 hf_o3.1 (m_X5_tell l hM o3 v4 σ2 h) rfl rfl (Nat.le_of_ble_eq_true rfl) dX6_judge_51 (fun r5 σ4 H locs h hw => ?_)
    refine lv_aload_n hx hb dX6_judge_54 rfl (lv_at hl 0 rfl) ?_
    refine fg_X6_57 hc hw (Nat.lt_of_lt_of_le (by decide) hM) rfl dX6_judge_55 ?_
    refine g_Vi (Y := YC) (ci := 3) (n := 0) (k := 3) (As := []) (rest := [.int r5]) rfl (by decide) vw_X6_267 ⟨Nat.le_of_ble_eq_true rfl, Nat.le_of_ble_eq_true rfl, Nat.zero_le _, Nat.zero_le _⟩ hc hw hl.1 (Nat.lt_of_lt_of_le (by decide) hM) rfl (m_X3_sortNow l hM 12 σ4 h) rfl rfl (Nat.le_of_ble_eq_true rfl) dX6_judge_58 (fun r7 σ6 H locs h hw => ?_)
    refine lv_icmp_eq (tgt := 67) hx hb dX6_judge_61 (by decide) (fun c8 => ?_) (fun c8 => ?_)
    · replace h := h.1 c8
      obtain ⟨x9, ex9⟩ : ∃ z, z = v4 + 1 := ⟨_, rfl⟩
      replace h := h x9 ex9
      refine lv_iinc (v := x9) (lv' := [(4, .int x9), (0, .ref (ad 0)), (2, .ref (ad o3))]) hx hb dX6_judge_67 hl (k := 2) rfl (by rw [ex9]; rfl) (by decide) rfl (fun ls hl => ?_)
      refine lv_goto (tgt := 29) hx hb dX6_judge_70 (by decide) ?_
      exact hk_29 (some o3) x9 σ6 _ _ _ h  hw (lv_sub hl [1, 2, 0] rfl)
    · replace h := h.2 c8
      refine lv_iload hx hb dX6_judge_64 (lv_at hl 2 rfl) ?_
      exact g_iret hc hr hw h dX6_judge_66
def wl_X6_judge_29 (M : Nat) (post : Int32 → St → Prop) : Nat → Option Nat → Int32 → St → Prop
  | 0, _, _, _ => False
  | n + 1, v2, v4, σ => w_X6_judge_29 M post (wl_X6_judge_29 M post n) v2 v4 σ
set_option maxHeartbeats 4000000 in
theorem bl_X6_judge_29 {Γ : Gm} {ad : Nat → Nat} {p : Program} {l : Launch} {e : Env} {s : State} {m : MethodId} {args : Array Value} {below : List Frame} {meth : Method} {c : Code} {M : Nat} (hM : 53 ≤ M) {post : Int32 → St → Prop}
    (hc : CX Γ p s m args meth c cX6_judge RX6 5) (hr : meth.sig.returnType = (Option.some Jvm.ClassFile.FieldType.int)) :
    ∀ (n : Nat) (v2 : Option Nat) (v4 : Int32) (σ : St) (H : Heap) (locs : List Loc) (ls : Array Slot), wl_X6_judge_29 M post n v2 v4 σ → WH Γ YC M ad σ s H locs → lv_has ls 5 [(0, .ref (ad 0)), (2, va_rf (Option.map ad v2)), (4, .int v4)] → W p l e (rmL 5 0 0) s m args below meth c H locs 0 0 (MQ below (va_Qi post (fun u t => WC Γ YC M ad u t) (AA Γ)) args s 0 0 (AA Γ)) (F0 m 29 ls []) := by
  intro n
  induction n with
  | zero => intro v2 v4 σ H locs ls h; exact h.elim
  | succ n ih =>
    intro v2 v4 σ H locs ls h  hw hl
    exact b_X6_judge_29 hM ih v2 v4 σ H locs ls h  hc hr hw hl
def w_X6_judge (M : Nat) (post : Int32 → St → Prop) (a1 : Int32) (σ : St) : Prop :=
  w_X6_sheetAt M (fun q2 σ1 => (w_X6_refusedAsTest M (fun r4 σ3 => ((q2 = none → (post r4 σ3)) ∧ (∀ o5 : Nat, q2 = some o5 → ((kdC o5 = 5 ∧ o5 < M) ∧ ((r4 = 0 → (w_X6_beginPot M (fun σ8 => (∃ n, wl_X6_judge_29 M post n (some o5) 0 σ8)) σ3)) ∧ (¬ (r4 = 0) → (post r4 σ3))))))) q2 σ1)) a1 σ
set_option maxHeartbeats 4000000 in
set_option maxRecDepth 20000 in
theorem m_X6_judge {Γ : Gm} {ad : Nat → Nat} {M : Nat} (l : Launch) (hM : 53 ≤ M) {post : Int32 → St → Prop} (a1 : Int32) (σ : St) (h : w_X6_judge M post a1 σ) : Ci l Γ YC M ad σ yX6_judge cX6_judge 5 (Option.some Jvm.ClassFile.FieldType.int) 5 0 0 [.ref (ad 0), .int a1] post := by
  refine g_start (by decide) (Nat.le_of_ble_eq_true rfl) ?_
  intro p e s m args below meth c ls hc hr hn hl hw
  have hc : CX Γ p s m args meth c cX6_judge RX6 5 := hc
  have hl : lv_has ls 5 [(0, .ref (ad 0)), (1, .int a1)] := hl
  have hx := hc.1
  have hb := hc.2.1
  unfold w_X6_judge at h
  generalize hHH : s.heap = H0 at hw ⊢
  refine lv_aload_n hx hb dX6_judge_0 rfl (lv_at hl 0 rfl) ?_
  refine lv_iload_n hx hb dX6_judge_1 rfl (lv_at hl 1 rfl) ?_
  refine g_Ve (Y := YC) (ci := 6) (n := 1) (k := 0) (As := [.int a1]) (rest := []) rfl (by decide) vw_X6_258 ⟨Nat.le_of_ble_eq_true rfl, Nat.le_of_ble_eq_true rfl, Nat.zero_le _, Nat.zero_le _⟩ hc hw hl.1 (Nat.lt_of_lt_of_le (by decide) hM) rfl (m_X6_sheetAt l hM a1 σ h) rfl rfl (Nat.le_of_ble_eq_true rfl) dX6_judge_2 (fun q2 σ1 H locs h hw => ?_)
  refine g_astoreq (lv' := [(2, va_rf (Option.map ad q2)), (0, .ref (ad 0)), (1, .int a1)]) hx hb dX6_judge_5 rfl hl (by decide) rfl (fun ls hl => ?_)
  refine lv_aload_n hx hb dX6_judge_6 rfl (lv_at hl 1 rfl) ?_
  refine g_aloadq hx hb dX6_judge_7 rfl (lv_at hl 0 rfl) ?_
  refine g_Vi (Y := YC) (ci := 6) (n := 1) (k := 1) (As := [va_rf (Option.map ad q2)]) (rest := []) rfl (by decide) vw_X6_262 ⟨Nat.le_of_ble_eq_true rfl, Nat.le_of_ble_eq_true rfl, Nat.zero_le _, Nat.zero_le _⟩ hc hw hl.1 (Nat.lt_of_lt_of_le (by decide) hM) rfl (m_X6_refusedAsTest l hM q2 σ1 h) rfl rfl (Nat.le_of_ble_eq_true rfl) dX6_judge_8 (fun r4 σ3 H locs h hw => ?_)
  refine lv_istore_n (lv' := [(3, .int r4), (2, va_rf (Option.map ad q2)), (0, .ref (ad 0)), (1, .int a1)]) hx hb dX6_judge_11 rfl hl (by decide) (by clear h; cases q2 <;> rfl) (fun ls hl => ?_)
  refine g_aloadq hx hb dX6_judge_12 rfl (lv_at hl 1 rfl) ?_
  refine g_ifnull (tgt := 20) hx hb dX6_judge_13 (by decide) (fun hn6 => ?_) (fun o5 hn6 => ?_)
  · replace h := h.1 hn6
    try rw [hn6] at hl
    try rw [hn6]
    have hl : lv_has ls 5 [(3, .int r4), (2, .null), (0, .ref (ad 0)), (1, .int a1)] := hl
    refine lv_iload_n hx hb dX6_judge_20 rfl (lv_at hl 0 rfl) ?_
    exact g_iret hc hr hw h dX6_judge_21
  · replace h := h.2 o5 hn6
    try rw [hn6] at hl
    try rw [hn6]
    have hf_o5 := h.1
    replace h := h.2
    have hl : lv_has ls 5 [(3, .int r4), (2, .ref (ad o5)), (0, .ref (ad 0)), (1, .int a1)] := hl
    refine lv_iload_n hx hb dX6_judge_16 rfl (lv_at hl 0 rfl) ?_
    refine lv_if_eq (tgt := 22) hx hb dX6_judge_17 (by decide) (fun c7 => ?_) (fun c7 => ?_)
    · replace h := h.1 c7
      refine lv_aload_n hx hb dX6_judge_22 rfl (lv_at hl 2 rfl) ?_
      refine g_Vv (Y := YC) (ci := 6) (n := 0) (k := 1) (As := []) (rest := []) rfl (by decide) vw_X6_220 ⟨Nat.le_of_ble_eq_true rfl, Nat.le_of_ble_eq_true rfl, Nat.zero_le _, Nat.zero_le _⟩ hc hw hl.1 (Nat.lt_of_lt_of_le (by decide) hM) rfl (m_X6_beginPot l hM σ3 h) rfl rfl (Nat.le_of_ble_eq_true rfl) dX6_judge_23 (fun σ8 H locs h hw => ?_)
      refine lv_iconst (v := 0) hx hb dX6_judge_26 (by decide) ?_
      refine lv_istore (lv' := [(4, .int 0), (3, .int r4), (2, .ref (ad o5)), (0, .ref (ad 0)), (1, .int a1)]) hx hb dX6_judge_27 hl (by decide) rfl (fun ls hl => ?_)
      obtain ⟨n, h⟩ := h
      exact bl_X6_judge_29 hM hc hr n (some o5) 0 σ8 _ _ _ h  hw (lv_sub hl [3, 2, 0] rfl)
    · replace h := h.2 c7
      refine lv_iload_n hx hb dX6_judge_20 rfl (lv_at hl 0 rfl) ?_
      exact g_iret hc hr hw h dX6_judge_21
def w_X6_film_28 (M : Nat) (post : Int32 → St → Prop) (k_28 : Option Nat → Int32 → St → Prop) (v2 : Option Nat) (v3 : Int32) (σ : St) : Prop :=
  ((gi σ 0 3) ≤ v3 → (post (gi σ 0 3) σ)) ∧ (¬ ((gi σ 0 3) ≤ v3) → (w_X6_runActs M (fun σ2 => (∃ o3 : Nat, v2 = some o3 ∧ (kdC o3 = 5 ∧ o3 < M) ∧ (w_X5_put M (fun σ4 => (∀ x5 : Int32, x5 = v3 + 1 → (k_28 (some o3) x5 σ4))) o3 v3 (gi σ2 12 11) σ2))) v3 (v3 + 1) σ))
set_option maxHeartbeats 4000000 in
set_option maxRecDepth 20000 in
theorem b_X6_film_28 {Γ : Gm} {ad : Nat → Nat} {p : Program} {l : Launch} {e : Env} {s : State} {m : MethodId} {args : Array Value} {below : List Frame} {meth : Method} {c : Code} {M : Nat} (hM : 53 ≤ M) {post : Int32 → St → Prop} {k_28 : Option Nat → Int32 → St → Prop} (hk_28 : ∀ (v2 : Option Nat) (v3 : Int32) (σ : St) (H : Heap) (locs : List Loc) (ls : Array Slot), k_28 v2 v3 σ → WH Γ YC M ad σ s H locs → lv_has ls 4 [(0, .ref (ad 0)), (2, va_rf (Option.map ad v2)), (3, .int v3)] → W p l e (rmL 5 0 0) s m args below meth c H locs 0 0 (MQ below (va_Qi post (fun u t => WC Γ YC M ad u t) (AA Γ)) args s 0 0 (AA Γ)) (F0 m 28 ls []))
    (v2 : Option Nat) (v3 : Int32) (σ : St) (H : Heap) (locs : List Loc) (ls : Array Slot) (h : w_X6_film_28 M post k_28 v2 v3 σ) (hc : CX Γ p s m args meth c cX6_film RX6 4) (hr : meth.sig.returnType = (Option.some Jvm.ClassFile.FieldType.int)) (hw : WH Γ YC M ad σ s H locs) (hl : lv_has ls 4 [(0, .ref (ad 0)), (2, va_rf (Option.map ad v2)), (3, .int v3)]) :
    W p l e (rmL 5 0 0) s m args below meth c H locs 0 0 (MQ below (va_Qi post (fun u t => WC Γ YC M ad u t) (AA Γ)) args s 0 0 (AA Γ)) (F0 m 28 ls []) := by
  have hx := hc.1
  have hb := hc.2.1
  unfold w_X6_film_28 at h
  refine lv_iload_n hx hb dX6_film_28 rfl (lv_at hl 2 rfl) ?_
  refine lv_aload_n hx hb dX6_film_29 rfl (lv_at hl 0 rfl) ?_
  refine fg_X6_120 hc hw (Nat.lt_of_lt_of_le (by decide) hM) rfl dX6_film_30 ?_
  refine lv_icmp_ge (tgt := 62) hx hb dX6_film_33 (by decide) (fun c1 => ?_) (fun c1 => ?_)
  · replace h := h.1 c1
    refine lv_aload_n hx hb dX6_film_62 rfl (lv_at hl 0 rfl) ?_
    refine fg_X6_120 hc hw (Nat.lt_of_lt_of_le (by decide) hM) rfl dX6_film_63 ?_
    exact g_iret hc hr hw h dX6_film_66
  · replace h := h.2 c1
    refine lv_aload_n hx hb dX6_film_36 rfl (lv_at hl 0 rfl) ?_
    refine lv_iload_n hx hb dX6_film_37 rfl (lv_at hl 2 rfl) ?_
    refine lv_iload_n hx hb dX6_film_38 rfl (lv_at hl 2 rfl) ?_
    refine lv_iconst (v := 1) hx hb dX6_film_39 (by decide) ?_
    refine lv_iadd hx hb dX6_film_40 ?_
    refine g_Vv (Y := YC) (ci := 6) (n := 2) (k := 4) (As := [.int v3, .int (v3 + 1)]) (rest := []) rfl (by decide) vw_X6_223 ⟨Nat.le_of_ble_eq_true rfl, Nat.le_of_ble_eq_true rfl, Nat.zero_le _, Nat.zero_le _⟩ hc hw hl.1 (Nat.lt_of_lt_of_le (by decide) hM) rfl (m_X6_runActs l hM v3 (v3 + 1) σ h) rfl rfl (Nat.le_of_ble_eq_true rfl) dX6_film_41 (fun σ2 H locs h hw => ?_)
    refine g_aloadq hx hb dX6_film_44 rfl (lv_at hl 1 rfl) ?_
    refine lv_iload_n hx hb dX6_film_45 rfl (lv_at hl 2 rfl) ?_
    refine lv_aload_n hx hb dX6_film_46 rfl (lv_at hl 0 rfl) ?_
    refine fg_X6_57 hc hw (Nat.lt_of_lt_of_le (by decide) hM) rfl dX6_film_47 ?_
    refine fg_X6_217 (o := 12) hc hw (Nat.lt_of_lt_of_le (by decide) hM) rfl dX6_film_50 ?_
    obtain ⟨o3, ho_o3, hf_o3, h⟩ := h
    try rw [ho_o3] at hl
    try rw [ho_o3]
    have hl : lv_has ls 4 [(0, .ref (ad 0)), (2, .ref (ad o3)), (3, .int v3)] := hl
    refine g_Vv (Y := YC) (ci := 5) (n := 2) (k := 1) (As := [.int v3, .int (gi σ2 12 11)]) (rest := []) rfl (by decide) vw_X6_272 ⟨Nat.le_of_ble_eq_true rfl, Nat.le_of_ble_eq_true rfl, Nat.zero_le _, Nat.zero_le _⟩ hc hw hl.1 hf_o3.2 hf_o3.1 (m_X5_put l hM o3 v3 (gi σ2 12 11) σ2 h) rfl rfl (Nat.le_of_ble_eq_true rfl) dX6_film_53 (fun σ4 H locs h hw => ?_)
    obtain ⟨x5, ex5⟩ : ∃ z, z = v3 + 1 := ⟨_, rfl⟩
    replace h := h x5 ex5
    refine lv_iinc (v := x5) (lv' := [(3, .int x5), (0, .ref (ad 0)), (2, .ref (ad o3))]) hx hb dX6_film_56 hl (k := 2) rfl (by rw [ex5]; rfl) (by decide) rfl (fun ls hl => ?_)
    refine lv_goto (tgt := 28) hx hb dX6_film_59 (by decide) ?_
    exact hk_28 (some o3) x5 σ4 _ _ _ h  hw (lv_sub hl [1, 2, 0] rfl)
def wl_X6_film_28 (M : Nat) (post : Int32 → St → Prop) : Nat → Option Nat → Int32 → St → Prop
  | 0, _, _, _ => False
  | n + 1, v2, v3, σ => w_X6_film_28 M post (wl_X6_film_28 M post n) v2 v3 σ
set_option maxHeartbeats 4000000 in
theorem bl_X6_film_28 {Γ : Gm} {ad : Nat → Nat} {p : Program} {l : Launch} {e : Env} {s : State} {m : MethodId} {args : Array Value} {below : List Frame} {meth : Method} {c : Code} {M : Nat} (hM : 53 ≤ M) {post : Int32 → St → Prop}
    (hc : CX Γ p s m args meth c cX6_film RX6 4) (hr : meth.sig.returnType = (Option.some Jvm.ClassFile.FieldType.int)) :
    ∀ (n : Nat) (v2 : Option Nat) (v3 : Int32) (σ : St) (H : Heap) (locs : List Loc) (ls : Array Slot), wl_X6_film_28 M post n v2 v3 σ → WH Γ YC M ad σ s H locs → lv_has ls 4 [(0, .ref (ad 0)), (2, va_rf (Option.map ad v2)), (3, .int v3)] → W p l e (rmL 5 0 0) s m args below meth c H locs 0 0 (MQ below (va_Qi post (fun u t => WC Γ YC M ad u t) (AA Γ)) args s 0 0 (AA Γ)) (F0 m 28 ls []) := by
  intro n
  induction n with
  | zero => intro v2 v3 σ H locs ls h; exact h.elim
  | succ n ih =>
    intro v2 v3 σ H locs ls h  hw hl
    exact b_X6_film_28 hM ih v2 v3 σ H locs ls h  hc hr hw hl
def w_X6_film (M : Nat) (post : Int32 → St → Prop) (a1 : Int32) (σ : St) : Prop :=
  w_X6_sheetAt M (fun q2 σ1 => ((q2 = none → (post (-2) σ1)) ∧ (∀ o3 : Nat, q2 = some o3 → ((kdC o3 = 5 ∧ o3 < M) ∧ (w_X5_become M (fun σ5 => (w_X6_beginPot M (fun σ6 => (∃ n, wl_X6_film_28 M post n (some o3) 0 σ6)) σ5)) o3 2 (gi σ1 0 3) σ1))))) a1 σ
set_option maxHeartbeats 4000000 in
set_option maxRecDepth 20000 in
theorem m_X6_film {Γ : Gm} {ad : Nat → Nat} {M : Nat} (l : Launch) (hM : 53 ≤ M) {post : Int32 → St → Prop} (a1 : Int32) (σ : St) (h : w_X6_film M post a1 σ) : Ci l Γ YC M ad σ yX6_film cX6_film 4 (Option.some Jvm.ClassFile.FieldType.int) 5 0 0 [.ref (ad 0), .int a1] post := by
  refine g_start (by decide) (Nat.le_of_ble_eq_true rfl) ?_
  intro p e s m args below meth c ls hc hr hn hl hw
  have hc : CX Γ p s m args meth c cX6_film RX6 4 := hc
  have hl : lv_has ls 4 [(0, .ref (ad 0)), (1, .int a1)] := hl
  have hx := hc.1
  have hb := hc.2.1
  unfold w_X6_film at h
  generalize hHH : s.heap = H0 at hw ⊢
  refine lv_aload_n hx hb dX6_film_0 rfl (lv_at hl 0 rfl) ?_
  refine lv_iload_n hx hb dX6_film_1 rfl (lv_at hl 1 rfl) ?_
  refine g_Ve (Y := YC) (ci := 6) (n := 1) (k := 0) (As := [.int a1]) (rest := []) rfl (by decide) vw_X6_258 ⟨Nat.le_of_ble_eq_true rfl, Nat.le_of_ble_eq_true rfl, Nat.zero_le _, Nat.zero_le _⟩ hc hw hl.1 (Nat.lt_of_lt_of_le (by decide) hM) rfl (m_X6_sheetAt l hM a1 σ h) rfl rfl (Nat.le_of_ble_eq_true rfl) dX6_film_2 (fun q2 σ1 H locs h hw => ?_)
  refine g_astoreq (lv' := [(2, va_rf (Option.map ad q2)), (0, .ref (ad 0)), (1, .int a1)]) hx hb dX6_film_5 rfl hl (by decide) rfl (fun ls hl => ?_)
  refine g_aloadq hx hb dX6_film_6 rfl (lv_at hl 0 rfl) ?_
  refine g_ifnonnull (tgt := 13) hx hb dX6_film_7 (by decide) (fun o3 hn4 => ?_) (fun hn4 => ?_)
  · replace h := h.2 o3 hn4
    try rw [hn4] at hl
    try rw [hn4]
    have hf_o3 := h.1
    replace h := h.2
    have hl : lv_has ls 4 [(2, .ref (ad o3)), (0, .ref (ad 0)), (1, .int a1)] := hl
    refine lv_aload_n hx hb dX6_film_13 rfl (lv_at hl 0 rfl) ?_
    refine lv_iconst (v := 2) hx hb dX6_film_14 (by decide) ?_
    refine lv_aload_n hx hb dX6_film_15 rfl (lv_at hl 1 rfl) ?_
    refine fg_X6_120 hc hw (Nat.lt_of_lt_of_le (by decide) hM) rfl dX6_film_16 ?_
    refine g_Vv (Y := YC) (ci := 5) (n := 2) (k := 0) (As := [.int 2, .int (gi σ1 0 3)]) (rest := []) rfl (by decide) vw_X6_270 ⟨Nat.le_of_ble_eq_true rfl, Nat.le_of_ble_eq_true rfl, Nat.zero_le _, Nat.zero_le _⟩ hc hw hl.1 hf_o3.2 hf_o3.1 (m_X5_become l hM o3 2 (gi σ1 0 3) σ1 h) rfl rfl (Nat.le_of_ble_eq_true rfl) dX6_film_19 (fun σ5 H locs h hw => ?_)
    refine lv_aload_n hx hb dX6_film_22 rfl (lv_at hl 1 rfl) ?_
    refine g_Vv (Y := YC) (ci := 6) (n := 0) (k := 1) (As := []) (rest := []) rfl (by decide) vw_X6_220 ⟨Nat.le_of_ble_eq_true rfl, Nat.le_of_ble_eq_true rfl, Nat.zero_le _, Nat.zero_le _⟩ hc hw hl.1 (Nat.lt_of_lt_of_le (by decide) hM) rfl (m_X6_beginPot l hM σ5 h) rfl rfl (Nat.le_of_ble_eq_true rfl) dX6_film_23 (fun σ6 H locs h hw => ?_)
    refine lv_iconst (v := 0) hx hb dX6_film_26 (by decide) ?_
    refine lv_istore_n (lv' := [(3, .int 0), (2, .ref (ad o3)), (0, .ref (ad 0)), (1, .int a1)]) hx hb dX6_film_27 rfl hl (by decide) rfl (fun ls hl => ?_)
    obtain ⟨n, h⟩ := h
    exact bl_X6_film_28 hM hc hr n (some o3) 0 σ6 _ _ _ h  hw (lv_sub hl [2, 1, 0] rfl)
  · replace h := h.1 hn4
    try rw [hn4] at hl
    try rw [hn4]
    have hl : lv_has ls 4 [(2, .null), (0, .ref (ad 0)), (1, .int a1)] := hl
    refine lv_bipush (v := (-2)) hx hb dX6_film_10 (by decide) ?_
    exact g_iret hc hr hw h dX6_film_12
def w_X6_cookActs (M : Nat) (post : St → Prop) (a1 : Int32) (σ : St) : Prop :=
  w_X6_beginPot M (fun σ1 => (w_X6_runActs M (fun σ2 => (post σ2)) 0 a1 σ1)) σ
set_option maxHeartbeats 4000000 in
set_option maxRecDepth 20000 in
theorem m_X6_cookActs {Γ : Gm} {ad : Nat → Nat} {M : Nat} (l : Launch) (hM : 53 ≤ M) {post : St → Prop} (a1 : Int32) (σ : St) (h : w_X6_cookActs M post a1 σ) : Cv l Γ YC M ad σ yX6_cookActs cX6_cookActs 2 none 5 0 0 [.ref (ad 0), .int a1] post := by
  refine g_start (by decide) (Nat.le_of_ble_eq_true rfl) ?_
  intro p e s m args below meth c ls hc hr hn hl hw
  have hc : CX Γ p s m args meth c cX6_cookActs RX6 2 := hc
  have hl : lv_has ls 2 [(0, .ref (ad 0)), (1, .int a1)] := hl
  have hx := hc.1
  have hb := hc.2.1
  unfold w_X6_cookActs at h
  generalize hHH : s.heap = H0 at hw ⊢
  refine lv_aload_n hx hb dX6_cookActs_0 rfl (lv_at hl 0 rfl) ?_
  refine g_Vv (Y := YC) (ci := 6) (n := 0) (k := 1) (As := []) (rest := []) rfl (by decide) vw_X6_220 ⟨Nat.le_of_ble_eq_true rfl, Nat.le_of_ble_eq_true rfl, Nat.zero_le _, Nat.zero_le _⟩ hc hw hl.1 (Nat.lt_of_lt_of_le (by decide) hM) rfl (m_X6_beginPot l hM σ h) rfl rfl (Nat.le_of_ble_eq_true rfl) dX6_cookActs_1 (fun σ1 H locs h hw => ?_)
  refine lv_aload_n hx hb dX6_cookActs_4 rfl (lv_at hl 0 rfl) ?_
  refine lv_iconst (v := 0) hx hb dX6_cookActs_5 (by decide) ?_
  refine lv_iload_n hx hb dX6_cookActs_6 rfl (lv_at hl 1 rfl) ?_
  refine g_Vv (Y := YC) (ci := 6) (n := 2) (k := 4) (As := [.int 0, .int a1]) (rest := []) rfl (by decide) vw_X6_223 ⟨Nat.le_of_ble_eq_true rfl, Nat.le_of_ble_eq_true rfl, Nat.zero_le _, Nat.zero_le _⟩ hc hw hl.1 (Nat.lt_of_lt_of_le (by decide) hM) rfl (m_X6_runActs l hM 0 a1 σ1 h) rfl rfl (Nat.le_of_ble_eq_true rfl) dX6_cookActs_7 (fun σ2 H locs h hw => ?_)
  exact g_vret hc hr hw h dX6_cookActs_10
def w_X6_cookDrawn (M : Nat) (post : St → Prop) (a1 : Int32) (a2 : Int32) (σ : St) : Prop :=
  w_X6_beginPot M (fun σ1 => (w_X3_flickerBy M (fun σ2 => (w_X6_runActs M (fun σ3 => (post σ3)) 0 a1 σ2)) 12 a2 σ1)) σ
set_option maxHeartbeats 4000000 in
set_option maxRecDepth 20000 in
theorem m_X6_cookDrawn {Γ : Gm} {ad : Nat → Nat} {M : Nat} (l : Launch) (hM : 53 ≤ M) {post : St → Prop} (a1 : Int32) (a2 : Int32) (σ : St) (h : w_X6_cookDrawn M post a1 a2 σ) : Cv l Γ YC M ad σ yX6_cookDrawn cX6_cookDrawn 3 none 5 0 0 [.ref (ad 0), .int a1, .int a2] post := by
  refine g_start (by decide) (Nat.le_of_ble_eq_true rfl) ?_
  intro p e s m args below meth c ls hc hr hn hl hw
  have hc : CX Γ p s m args meth c cX6_cookDrawn RX6 3 := hc
  have hl : lv_has ls 3 [(0, .ref (ad 0)), (1, .int a1), (2, .int a2)] := hl
  have hx := hc.1
  have hb := hc.2.1
  unfold w_X6_cookDrawn at h
  generalize hHH : s.heap = H0 at hw ⊢
  refine lv_aload_n hx hb dX6_cookDrawn_0 rfl (lv_at hl 0 rfl) ?_
  refine g_Vv (Y := YC) (ci := 6) (n := 0) (k := 1) (As := []) (rest := []) rfl (by decide) vw_X6_220 ⟨Nat.le_of_ble_eq_true rfl, Nat.le_of_ble_eq_true rfl, Nat.zero_le _, Nat.zero_le _⟩ hc hw hl.1 (Nat.lt_of_lt_of_le (by decide) hM) rfl (m_X6_beginPot l hM σ h) rfl rfl (Nat.le_of_ble_eq_true rfl) dX6_cookDrawn_1 (fun σ1 H locs h hw => ?_)
  refine lv_aload_n hx hb dX6_cookDrawn_4 rfl (lv_at hl 0 rfl) ?_
  refine fg_X6_57 hc hw (Nat.lt_of_lt_of_le (by decide) hM) rfl dX6_cookDrawn_5 ?_
  refine lv_iload_n hx hb dX6_cookDrawn_8 rfl (lv_at hl 2 rfl) ?_
  refine g_Vv (Y := YC) (ci := 3) (n := 1) (k := 0) (As := [.int a2]) (rest := []) rfl (by decide) vw_X6_327 ⟨Nat.le_of_ble_eq_true rfl, Nat.le_of_ble_eq_true rfl, Nat.zero_le _, Nat.zero_le _⟩ hc hw hl.1 (Nat.lt_of_lt_of_le (by decide) hM) rfl (m_X3_flickerBy l hM 12 a2 σ1 h) rfl rfl (Nat.le_of_ble_eq_true rfl) dX6_cookDrawn_9 (fun σ2 H locs h hw => ?_)
  refine lv_aload_n hx hb dX6_cookDrawn_12 rfl (lv_at hl 0 rfl) ?_
  refine lv_iconst (v := 0) hx hb dX6_cookDrawn_13 (by decide) ?_
  refine lv_iload_n hx hb dX6_cookDrawn_14 rfl (lv_at hl 1 rfl) ?_
  refine g_Vv (Y := YC) (ci := 6) (n := 2) (k := 4) (As := [.int 0, .int a1]) (rest := []) rfl (by decide) vw_X6_223 ⟨Nat.le_of_ble_eq_true rfl, Nat.le_of_ble_eq_true rfl, Nat.zero_le _, Nat.zero_le _⟩ hc hw hl.1 (Nat.lt_of_lt_of_le (by decide) hM) rfl (m_X6_runActs l hM 0 a1 σ2 h) rfl rfl (Nat.le_of_ble_eq_true rfl) dX6_cookDrawn_15 (fun σ3 H locs h hw => ?_)
  exact g_vret hc hr hw h dX6_cookDrawn_18
def w_X6_holdsWith (M : Nat) (post : Int32 → St → Prop) (a1 : Int32) (a2 : Int32) (a3 : Int32) (σ : St) : Prop :=
  w_X6_lawAt M (fun q2 σ1 => (w_X3_begin M (fun σ3 => (w_X6_runActs M (fun σ4 => (w_X3_holdsNow M (fun r6 σ5 => (narrow .boolean (.int r6) = .int r6 ∧ post r6 σ5)) 12 σ4)) 0 (gi σ3 0 3) σ3)) 12 a1 a2 a3 q2 σ1)) (gi σ 0 6) σ
set_option maxHeartbeats 4000000 in
set_option maxRecDepth 20000 in
theorem m_X6_holdsWith {Γ : Gm} {ad : Nat → Nat} {M : Nat} (l : Launch) (hM : 53 ≤ M) {post : Int32 → St → Prop} (a1 : Int32) (a2 : Int32) (a3 : Int32) (σ : St) (h : w_X6_holdsWith M post a1 a2 a3 σ) : Ci l Γ YC M ad σ yX6_holdsWith cX6_holdsWith 4 (Option.some Jvm.ClassFile.FieldType.boolean) 5 0 0 [.ref (ad 0), .int a1, .int a2, .int a3] post := by
  refine g_start (by decide) (Nat.le_of_ble_eq_true rfl) ?_
  intro p e s m args below meth c ls hc hr hn hl hw
  have hc : CX Γ p s m args meth c cX6_holdsWith RX6 4 := hc
  have hl : lv_has ls 4 [(0, .ref (ad 0)), (1, .int a1), (2, .int a2), (3, .int a3)] := hl
  have hx := hc.1
  have hb := hc.2.1
  unfold w_X6_holdsWith at h
  generalize hHH : s.heap = H0 at hw ⊢
  refine lv_aload_n hx hb dX6_holdsWith_0 rfl (lv_at hl 0 rfl) ?_
  refine fg_X6_57 hc hw (Nat.lt_of_lt_of_le (by decide) hM) rfl dX6_holdsWith_1 ?_
  refine lv_iload_n hx hb dX6_holdsWith_4 rfl (lv_at hl 1 rfl) ?_
  refine lv_iload_n hx hb dX6_holdsWith_5 rfl (lv_at hl 2 rfl) ?_
  refine lv_iload_n hx hb dX6_holdsWith_6 rfl (lv_at hl 3 rfl) ?_
  refine lv_aload_n hx hb dX6_holdsWith_7 rfl (lv_at hl 0 rfl) ?_
  refine lv_aload_n hx hb dX6_holdsWith_8 rfl (lv_at hl 0 rfl) ?_
  refine fg_X6_123 hc hw (Nat.lt_of_lt_of_le (by decide) hM) rfl dX6_holdsWith_9 ?_
  refine g_Ve (Y := YC) (ci := 6) (n := 1) (k := 0) (As := [.int (gi σ 0 6)]) (rest := [.int a3, .int a2, .int a1, .ref (ad 12)]) rfl (by decide) vw_X6_319 ⟨Nat.le_of_ble_eq_true rfl, Nat.le_of_ble_eq_true rfl, Nat.zero_le _, Nat.zero_le _⟩ hc hw hl.1 (Nat.lt_of_lt_of_le (by decide) hM) rfl (m_X6_lawAt l hM (gi σ 0 6) σ h) rfl rfl (Nat.le_of_ble_eq_true rfl) dX6_holdsWith_12 (fun q2 σ1 H locs h hw => ?_)
  refine g_Vv (Y := YC) (ci := 3) (n := 4) (k := 0) (As := [.int a1, .int a2, .int a3, va_rf (Option.map ad q2)]) (rest := []) rfl (by decide) vw_X6_323 ⟨Nat.le_of_ble_eq_true rfl, Nat.le_of_ble_eq_true rfl, Nat.zero_le _, Nat.zero_le _⟩ hc hw hl.1 (Nat.lt_of_lt_of_le (by decide) hM) rfl (m_X3_begin l hM 12 a1 a2 a3 q2 σ1 h) rfl rfl (Nat.le_of_ble_eq_true rfl) dX6_holdsWith_15 (fun σ3 H locs h hw => ?_)
  refine lv_aload_n hx hb dX6_holdsWith_18 rfl (lv_at hl 0 rfl) ?_
  refine lv_iconst (v := 0) hx hb dX6_holdsWith_19 (by decide) ?_
  refine lv_aload_n hx hb dX6_holdsWith_20 rfl (lv_at hl 0 rfl) ?_
  refine fg_X6_120 hc hw (Nat.lt_of_lt_of_le (by decide) hM) rfl dX6_holdsWith_21 ?_
  refine g_Vv (Y := YC) (ci := 6) (n := 2) (k := 4) (As := [.int 0, .int (gi σ3 0 3)]) (rest := []) rfl (by decide) vw_X6_223 ⟨Nat.le_of_ble_eq_true rfl, Nat.le_of_ble_eq_true rfl, Nat.zero_le _, Nat.zero_le _⟩ hc hw hl.1 (Nat.lt_of_lt_of_le (by decide) hM) rfl (m_X6_runActs l hM 0 (gi σ3 0 3) σ3 h) rfl rfl (Nat.le_of_ble_eq_true rfl) dX6_holdsWith_24 (fun σ4 H locs h hw => ?_)
  refine lv_aload_n hx hb dX6_holdsWith_27 rfl (lv_at hl 0 rfl) ?_
  refine fg_X6_57 hc hw (Nat.lt_of_lt_of_le (by decide) hM) rfl dX6_holdsWith_28 ?_
  refine g_Vi (Y := YC) (ci := 3) (n := 0) (k := 0) (As := []) (rest := []) rfl (by decide) vw_X6_184 ⟨Nat.le_of_ble_eq_true rfl, Nat.le_of_ble_eq_true rfl, Nat.zero_le _, Nat.zero_le _⟩ hc hw hl.1 (Nat.lt_of_lt_of_le (by decide) hM) rfl (m_X3_holdsNow l hM 12 σ4 h) rfl rfl (Nat.le_of_ble_eq_true rfl) dX6_holdsWith_31 (fun r6 σ5 H locs h hw => ?_)
  exact g_zret hc hr hw h.1 h.2 dX6_holdsWith_34
def w_X6_firstSplit_6 (M : Nat) (post : Int32 → St → Prop) (k_6 : Int32 → St → Prop) (v1 : Int32) (σ : St) : Prop :=
  ((gi σ 0 3) ≤ v1 → (post (-1) σ)) ∧ (¬ ((gi σ 0 3) ≤ v1) → (w_X6_runActs M (fun σ2 => (w_X3_holdsNow M (fun r4 σ3 => ((r4 = 0 → (post v1 σ3)) ∧ (¬ (r4 = 0) → (∀ x6 : Int32, x6 = v1 + 1 → (k_6 x6 σ3))))) 12 σ2)) v1 (v1 + 1) σ))
set_option maxHeartbeats 4000000 in
set_option maxRecDepth 20000 in
theorem b_X6_firstSplit_6 {Γ : Gm} {ad : Nat → Nat} {p : Program} {l : Launch} {e : Env} {s : State} {m : MethodId} {args : Array Value} {below : List Frame} {meth : Method} {c : Code} {M : Nat} (hM : 53 ≤ M) {post : Int32 → St → Prop} {k_6 : Int32 → St → Prop} (hk_6 : ∀ (v1 : Int32) (σ : St) (H : Heap) (locs : List Loc) (ls : Array Slot), k_6 v1 σ → WH Γ YC M ad σ s H locs → lv_has ls 2 [(0, .ref (ad 0)), (1, .int v1)] → W p l e (rmL 5 0 0) s m args below meth c H locs 0 0 (MQ below (va_Qi post (fun u t => WC Γ YC M ad u t) (AA Γ)) args s 0 0 (AA Γ)) (F0 m 6 ls []))
    (v1 : Int32) (σ : St) (H : Heap) (locs : List Loc) (ls : Array Slot) (h : w_X6_firstSplit_6 M post k_6 v1 σ) (hc : CX Γ p s m args meth c cX6_firstSplit RX6 2) (hr : meth.sig.returnType = (Option.some Jvm.ClassFile.FieldType.int)) (hw : WH Γ YC M ad σ s H locs) (hl : lv_has ls 2 [(0, .ref (ad 0)), (1, .int v1)]) :
    W p l e (rmL 5 0 0) s m args below meth c H locs 0 0 (MQ below (va_Qi post (fun u t => WC Γ YC M ad u t) (AA Γ)) args s 0 0 (AA Γ)) (F0 m 6 ls []) := by
  have hx := hc.1
  have hb := hc.2.1
  unfold w_X6_firstSplit_6 at h
  refine lv_iload_n hx hb dX6_firstSplit_6 rfl (lv_at hl 1 rfl) ?_
  refine lv_aload_n hx hb dX6_firstSplit_7 rfl (lv_at hl 0 rfl) ?_
  refine fg_X6_120 hc hw (Nat.lt_of_lt_of_le (by decide) hM) rfl dX6_firstSplit_8 ?_
  refine lv_icmp_ge (tgt := 40) hx hb dX6_firstSplit_11 (by decide) (fun c1 => ?_) (fun c1 => ?_)
  · replace h := h.1 c1
    refine lv_iconst (v := (-1)) hx hb dX6_firstSplit_40 (by decide) ?_
    exact g_iret hc hr hw h dX6_firstSplit_41
  · replace h := h.2 c1
    refine lv_aload_n hx hb dX6_firstSplit_14 rfl (lv_at hl 0 rfl) ?_
    refine lv_iload_n hx hb dX6_firstSplit_15 rfl (lv_at hl 1 rfl) ?_
    refine lv_iload_n hx hb dX6_firstSplit_16 rfl (lv_at hl 1 rfl) ?_
    refine lv_iconst (v := 1) hx hb dX6_firstSplit_17 (by decide) ?_
    refine lv_iadd hx hb dX6_firstSplit_18 ?_
    refine g_Vv (Y := YC) (ci := 6) (n := 2) (k := 4) (As := [.int v1, .int (v1 + 1)]) (rest := []) rfl (by decide) vw_X6_223 ⟨Nat.le_of_ble_eq_true rfl, Nat.le_of_ble_eq_true rfl, Nat.zero_le _, Nat.zero_le _⟩ hc hw hl.1 (Nat.lt_of_lt_of_le (by decide) hM) rfl (m_X6_runActs l hM v1 (v1 + 1) σ h) rfl rfl (Nat.le_of_ble_eq_true rfl) dX6_firstSplit_19 (fun σ2 H locs h hw => ?_)
    refine lv_aload_n hx hb dX6_firstSplit_22 rfl (lv_at hl 0 rfl) ?_
    refine fg_X6_57 hc hw (Nat.lt_of_lt_of_le (by decide) hM) rfl dX6_firstSplit_23 ?_
    refine g_Vi (Y := YC) (ci := 3) (n := 0) (k := 0) (As := []) (rest := []) rfl (by decide) vw_X6_184 ⟨Nat.le_of_ble_eq_true rfl, Nat.le_of_ble_eq_true rfl, Nat.zero_le _, Nat.zero_le _⟩ hc hw hl.1 (Nat.lt_of_lt_of_le (by decide) hM) rfl (m_X3_holdsNow l hM 12 σ2 h) rfl rfl (Nat.le_of_ble_eq_true rfl) dX6_firstSplit_26 (fun r4 σ3 H locs h hw => ?_)
    refine lv_if_ne (tgt := 34) hx hb dX6_firstSplit_29 (by decide) (fun c5 => ?_) (fun c5 => ?_)
    · replace h := h.2 c5
      obtain ⟨x6, ex6⟩ : ∃ z, z = v1 + 1 := ⟨_, rfl⟩
      replace h := h x6 ex6
      refine lv_iinc (v := x6) (lv' := [(1, .int x6), (0, .ref (ad 0))]) hx hb dX6_firstSplit_34 hl (k := 1) rfl (by rw [ex6]; rfl) (by decide) rfl (fun ls hl => ?_)
      refine lv_goto (tgt := 6) hx hb dX6_firstSplit_37 (by decide) ?_
      exact hk_6 x6 σ3 _ _ _ h  hw (lv_sub hl [1, 0] rfl)
    · replace h := h.1 c5
      refine lv_iload_n hx hb dX6_firstSplit_32 rfl (lv_at hl 1 rfl) ?_
      exact g_iret hc hr hw h dX6_firstSplit_33
def wl_X6_firstSplit_6 (M : Nat) (post : Int32 → St → Prop) : Nat → Int32 → St → Prop
  | 0, _, _ => False
  | n + 1, v1, σ => w_X6_firstSplit_6 M post (wl_X6_firstSplit_6 M post n) v1 σ
set_option maxHeartbeats 4000000 in
theorem bl_X6_firstSplit_6 {Γ : Gm} {ad : Nat → Nat} {p : Program} {l : Launch} {e : Env} {s : State} {m : MethodId} {args : Array Value} {below : List Frame} {meth : Method} {c : Code} {M : Nat} (hM : 53 ≤ M) {post : Int32 → St → Prop}
    (hc : CX Γ p s m args meth c cX6_firstSplit RX6 2) (hr : meth.sig.returnType = (Option.some Jvm.ClassFile.FieldType.int)) :
    ∀ (n : Nat) (v1 : Int32) (σ : St) (H : Heap) (locs : List Loc) (ls : Array Slot), wl_X6_firstSplit_6 M post n v1 σ → WH Γ YC M ad σ s H locs → lv_has ls 2 [(0, .ref (ad 0)), (1, .int v1)] → W p l e (rmL 5 0 0) s m args below meth c H locs 0 0 (MQ below (va_Qi post (fun u t => WC Γ YC M ad u t) (AA Γ)) args s 0 0 (AA Γ)) (F0 m 6 ls []) := by
  intro n
  induction n with
  | zero => intro v1 σ H locs ls h; exact h.elim
  | succ n ih =>
    intro v1 σ H locs ls h  hw hl
    exact b_X6_firstSplit_6 hM ih v1 σ H locs ls h  hc hr hw hl
def w_X6_firstSplit (M : Nat) (post : Int32 → St → Prop)  (σ : St) : Prop :=
  w_X6_beginPot M (fun σ1 => (∃ n, wl_X6_firstSplit_6 M post n 0 σ1)) σ
set_option maxHeartbeats 4000000 in
set_option maxRecDepth 20000 in
theorem m_X6_firstSplit {Γ : Gm} {ad : Nat → Nat} {M : Nat} (l : Launch) (hM : 53 ≤ M) {post : Int32 → St → Prop}  (σ : St) (h : w_X6_firstSplit M post  σ) : Ci l Γ YC M ad σ yX6_firstSplit cX6_firstSplit 2 (Option.some Jvm.ClassFile.FieldType.int) 5 0 0 [.ref (ad 0)] post := by
  refine g_start (by decide) (Nat.le_of_ble_eq_true rfl) ?_
  intro p e s m args below meth c ls hc hr hn hl hw
  have hc : CX Γ p s m args meth c cX6_firstSplit RX6 2 := hc
  have hl : lv_has ls 2 [(0, .ref (ad 0))] := hl
  have hx := hc.1
  have hb := hc.2.1
  unfold w_X6_firstSplit at h
  generalize hHH : s.heap = H0 at hw ⊢
  refine lv_aload_n hx hb dX6_firstSplit_0 rfl (lv_at hl 0 rfl) ?_
  refine g_Vv (Y := YC) (ci := 6) (n := 0) (k := 1) (As := []) (rest := []) rfl (by decide) vw_X6_220 ⟨Nat.le_of_ble_eq_true rfl, Nat.le_of_ble_eq_true rfl, Nat.zero_le _, Nat.zero_le _⟩ hc hw hl.1 (Nat.lt_of_lt_of_le (by decide) hM) rfl (m_X6_beginPot l hM σ h) rfl rfl (Nat.le_of_ble_eq_true rfl) dX6_firstSplit_1 (fun σ1 H locs h hw => ?_)
  refine lv_iconst (v := 0) hx hb dX6_firstSplit_4 (by decide) ?_
  refine lv_istore_n (lv' := [(1, .int 0), (0, .ref (ad 0))]) hx hb dX6_firstSplit_5 rfl hl (by decide) rfl (fun ls hl => ?_)
  obtain ⟨n, h⟩ := h
  exact bl_X6_firstSplit_6 hM hc hr n 0 σ1 _ _ _ h  hw (lv_sub hl [1, 0] rfl)
def w_X6_greatestLeak_10 (M : Nat) (post : Int32 → St → Prop) (k_10 : Int32 → Int32 → Int32 → St → Prop) (v1 : Int32) (v2 : Int32) (v3 : Int32) (σ : St) : Prop :=
  ((gi σ 0 3) ≤ v3 → (post v1 σ)) ∧ (¬ ((gi σ 0 3) ≤ v3) → (w_X6_runActs M (fun σ2 => (∀ x3 : Int32, x3 = (gi σ2 12 11) - (gi σ 12 11) → ((x3 ≤ v2 → (∀ x5 : Int32, x5 = v3 + 1 → (k_10 v1 v2 x5 σ2))) ∧ (¬ (x3 ≤ v2) → (∀ x6 : Int32, x6 = (gi σ2 12 11) - (gi σ 12 11) → (∀ x7 : Int32, x7 = v3 + 1 → (k_10 v3 x6 x7 σ2))))))) v3 (v3 + 1) σ))
set_option maxHeartbeats 4000000 in
set_option maxRecDepth 20000 in
theorem b_X6_greatestLeak_10 {Γ : Gm} {ad : Nat → Nat} {p : Program} {l : Launch} {e : Env} {s : State} {m : MethodId} {args : Array Value} {below : List Frame} {meth : Method} {c : Code} {M : Nat} (hM : 53 ≤ M) {post : Int32 → St → Prop} {k_10 : Int32 → Int32 → Int32 → St → Prop} (hk_10 : ∀ (v1 : Int32) (v2 : Int32) (v3 : Int32) (σ : St) (H : Heap) (locs : List Loc) (ls : Array Slot), k_10 v1 v2 v3 σ → WH Γ YC M ad σ s H locs → lv_has ls 5 [(0, .ref (ad 0)), (1, .int v1), (2, .int v2), (3, .int v3)] → W p l e (rmL 5 0 0) s m args below meth c H locs 0 0 (MQ below (va_Qi post (fun u t => WC Γ YC M ad u t) (AA Γ)) args s 0 0 (AA Γ)) (F0 m 10 ls []))
    (v1 : Int32) (v2 : Int32) (v3 : Int32) (σ : St) (H : Heap) (locs : List Loc) (ls : Array Slot) (h : w_X6_greatestLeak_10 M post k_10 v1 v2 v3 σ) (hc : CX Γ p s m args meth c cX6_greatestLeak RX6 5) (hr : meth.sig.returnType = (Option.some Jvm.ClassFile.FieldType.int)) (hw : WH Γ YC M ad σ s H locs) (hl : lv_has ls 5 [(0, .ref (ad 0)), (1, .int v1), (2, .int v2), (3, .int v3)]) :
    W p l e (rmL 5 0 0) s m args below meth c H locs 0 0 (MQ below (va_Qi post (fun u t => WC Γ YC M ad u t) (AA Γ)) args s 0 0 (AA Γ)) (F0 m 10 ls []) := by
  have hx := hc.1
  have hb := hc.2.1
  unfold w_X6_greatestLeak_10 at h
  refine lv_iload_n hx hb dX6_greatestLeak_10 rfl (lv_at hl 3 rfl) ?_
  refine lv_aload_n hx hb dX6_greatestLeak_11 rfl (lv_at hl 0 rfl) ?_
  refine fg_X6_120 hc hw (Nat.lt_of_lt_of_le (by decide) hM) rfl dX6_greatestLeak_12 ?_
  refine lv_icmp_ge (tgt := 68) hx hb dX6_greatestLeak_15 (by decide) (fun c1 => ?_) (fun c1 => ?_)
  · replace h := h.1 c1
    refine lv_iload_n hx hb dX6_greatestLeak_68 rfl (lv_at hl 1 rfl) ?_
    exact g_iret hc hr hw h dX6_greatestLeak_69
  · replace h := h.2 c1
    refine lv_aload_n hx hb dX6_greatestLeak_18 rfl (lv_at hl 0 rfl) ?_
    refine fg_X6_57 hc hw (Nat.lt_of_lt_of_le (by decide) hM) rfl dX6_greatestLeak_19 ?_
    refine fg_X6_217 (o := 12) hc hw (Nat.lt_of_lt_of_le (by decide) hM) rfl dX6_greatestLeak_22 ?_
    refine lv_istore (lv' := [(4, .int (gi σ 12 11)), (0, .ref (ad 0)), (1, .int v1), (2, .int v2), (3, .int v3)]) hx hb dX6_greatestLeak_25 hl (by decide) rfl (fun ls hl => ?_)
    refine lv_aload_n hx hb dX6_greatestLeak_27 rfl (lv_at hl 1 rfl) ?_
    refine lv_iload_n hx hb dX6_greatestLeak_28 rfl (lv_at hl 4 rfl) ?_
    refine lv_iload_n hx hb dX6_greatestLeak_29 rfl (lv_at hl 4 rfl) ?_
    refine lv_iconst (v := 1) hx hb dX6_greatestLeak_30 (by decide) ?_
    refine lv_iadd hx hb dX6_greatestLeak_31 ?_
    refine g_Vv (Y := YC) (ci := 6) (n := 2) (k := 4) (As := [.int v3, .int (v3 + 1)]) (rest := []) rfl (by decide) vw_X6_223 ⟨Nat.le_of_ble_eq_true rfl, Nat.le_of_ble_eq_true rfl, Nat.zero_le _, Nat.zero_le _⟩ hc hw hl.1 (Nat.lt_of_lt_of_le (by decide) hM) rfl (m_X6_runActs l hM v3 (v3 + 1) σ h) rfl rfl (Nat.le_of_ble_eq_true rfl) dX6_greatestLeak_32 (fun σ2 H locs h hw => ?_)
    refine lv_aload_n hx hb dX6_greatestLeak_35 rfl (lv_at hl 1 rfl) ?_
    refine fg_X6_57 hc hw (Nat.lt_of_lt_of_le (by decide) hM) rfl dX6_greatestLeak_36 ?_
    refine fg_X6_217 (o := 12) hc hw (Nat.lt_of_lt_of_le (by decide) hM) rfl dX6_greatestLeak_39 ?_
    refine lv_iload hx hb dX6_greatestLeak_42 (lv_at hl 0 rfl) ?_
    refine lv_isub hx hb dX6_greatestLeak_44 ?_
    refine lv_topi (fun x3 ex3 => ?_)
    replace h := h x3 ex3
    refine lv_iload_n hx hb dX6_greatestLeak_45 rfl (lv_at hl 3 rfl) ?_
    refine lv_icmp_le (tgt := 62) hx hb dX6_greatestLeak_46 (by decide) (fun c4 => ?_) (fun c4 => ?_)
    · replace h := h.1 c4
      obtain ⟨x5, ex5⟩ : ∃ z, z = v3 + 1 := ⟨_, rfl⟩
      replace h := h x5 ex5
      refine lv_iinc (v := x5) (lv' := [(3, .int x5), (4, .int (gi σ 12 11)), (0, .ref (ad 0)), (1, .int v1), (2, .int v2)]) hx hb dX6_greatestLeak_62 hl (k := 4) rfl (by rw [ex5]; rfl) (by decide) rfl (fun ls hl => ?_)
      refine lv_goto (tgt := 10) hx hb dX6_greatestLeak_65 (by decide) ?_
      exact hk_10 v1 v2 x5 σ2 _ _ _ h  hw (lv_sub hl [2, 3, 4, 0] rfl)
    · replace h := h.2 c4
      refine lv_iload_n hx hb dX6_greatestLeak_49 rfl (lv_at hl 4 rfl) ?_
      refine lv_istore_n (lv' := [(1, .int v3), (4, .int (gi σ 12 11)), (0, .ref (ad 0)), (2, .int v2), (3, .int v3)]) hx hb dX6_greatestLeak_50 rfl hl (by decide) rfl (fun ls hl => ?_)
      refine lv_aload_n hx hb dX6_greatestLeak_51 rfl (lv_at hl 2 rfl) ?_
      refine fg_X6_57 hc hw (Nat.lt_of_lt_of_le (by decide) hM) rfl dX6_greatestLeak_52 ?_
      refine fg_X6_217 (o := 12) hc hw (Nat.lt_of_lt_of_le (by decide) hM) rfl dX6_greatestLeak_55 ?_
      refine lv_iload hx hb dX6_greatestLeak_58 (lv_at hl 1 rfl) ?_
      refine lv_isub hx hb dX6_greatestLeak_60 ?_
      refine lv_topi (fun x6 ex6 => ?_)
      replace h := h x6 ex6
      refine lv_istore_n (lv' := [(2, .int x6), (1, .int v3), (4, .int (gi σ 12 11)), (0, .ref (ad 0)), (3, .int v3)]) hx hb dX6_greatestLeak_61 rfl hl (by decide) rfl (fun ls hl => ?_)
      obtain ⟨x7, ex7⟩ : ∃ z, z = v3 + 1 := ⟨_, rfl⟩
      replace h := h x7 ex7
      refine lv_iinc (v := x7) (lv' := [(3, .int x7), (2, .int x6), (1, .int v3), (4, .int (gi σ 12 11)), (0, .ref (ad 0))]) hx hb dX6_greatestLeak_62 hl (k := 4) rfl (by rw [ex7]; rfl) (by decide) rfl (fun ls hl => ?_)
      refine lv_goto (tgt := 10) hx hb dX6_greatestLeak_65 (by decide) ?_
      exact hk_10 v3 x6 x7 σ2 _ _ _ h  hw (lv_sub hl [4, 2, 1, 0] rfl)
def wl_X6_greatestLeak_10 (M : Nat) (post : Int32 → St → Prop) : Nat → Int32 → Int32 → Int32 → St → Prop
  | 0, _, _, _, _ => False
  | n + 1, v1, v2, v3, σ => w_X6_greatestLeak_10 M post (wl_X6_greatestLeak_10 M post n) v1 v2 v3 σ
set_option maxHeartbeats 4000000 in
theorem bl_X6_greatestLeak_10 {Γ : Gm} {ad : Nat → Nat} {p : Program} {l : Launch} {e : Env} {s : State} {m : MethodId} {args : Array Value} {below : List Frame} {meth : Method} {c : Code} {M : Nat} (hM : 53 ≤ M) {post : Int32 → St → Prop}
    (hc : CX Γ p s m args meth c cX6_greatestLeak RX6 5) (hr : meth.sig.returnType = (Option.some Jvm.ClassFile.FieldType.int)) :
    ∀ (n : Nat) (v1 : Int32) (v2 : Int32) (v3 : Int32) (σ : St) (H : Heap) (locs : List Loc) (ls : Array Slot), wl_X6_greatestLeak_10 M post n v1 v2 v3 σ → WH Γ YC M ad σ s H locs → lv_has ls 5 [(0, .ref (ad 0)), (1, .int v1), (2, .int v2), (3, .int v3)] → W p l e (rmL 5 0 0) s m args below meth c H locs 0 0 (MQ below (va_Qi post (fun u t => WC Γ YC M ad u t) (AA Γ)) args s 0 0 (AA Γ)) (F0 m 10 ls []) := by
  intro n
  induction n with
  | zero => intro v1 v2 v3 σ H locs ls h; exact h.elim
  | succ n ih =>
    intro v1 v2 v3 σ H locs ls h  hw hl
    exact b_X6_greatestLeak_10 hM ih v1 v2 v3 σ H locs ls h  hc hr hw hl
def w_X6_greatestLeak (M : Nat) (post : Int32 → St → Prop)  (σ : St) : Prop :=
  w_X6_beginPot M (fun σ1 => (∃ n, wl_X6_greatestLeak_10 M post n (-1) 0 0 σ1)) σ
set_option maxHeartbeats 4000000 in
set_option maxRecDepth 20000 in
theorem m_X6_greatestLeak {Γ : Gm} {ad : Nat → Nat} {M : Nat} (l : Launch) (hM : 53 ≤ M) {post : Int32 → St → Prop}  (σ : St) (h : w_X6_greatestLeak M post  σ) : Ci l Γ YC M ad σ yX6_greatestLeak cX6_greatestLeak 5 (Option.some Jvm.ClassFile.FieldType.int) 5 0 0 [.ref (ad 0)] post := by
  refine g_start (by decide) (Nat.le_of_ble_eq_true rfl) ?_
  intro p e s m args below meth c ls hc hr hn hl hw
  have hc : CX Γ p s m args meth c cX6_greatestLeak RX6 5 := hc
  have hl : lv_has ls 5 [(0, .ref (ad 0))] := hl
  have hx := hc.1
  have hb := hc.2.1
  unfold w_X6_greatestLeak at h
  generalize hHH : s.heap = H0 at hw ⊢
  refine lv_aload_n hx hb dX6_greatestLeak_0 rfl (lv_at hl 0 rfl) ?_
  refine g_Vv (Y := YC) (ci := 6) (n := 0) (k := 1) (As := []) (rest := []) rfl (by decide) vw_X6_220 ⟨Nat.le_of_ble_eq_true rfl, Nat.le_of_ble_eq_true rfl, Nat.zero_le _, Nat.zero_le _⟩ hc hw hl.1 (Nat.lt_of_lt_of_le (by decide) hM) rfl (m_X6_beginPot l hM σ h) rfl rfl (Nat.le_of_ble_eq_true rfl) dX6_greatestLeak_1 (fun σ1 H locs h hw => ?_)
  refine lv_iconst (v := (-1)) hx hb dX6_greatestLeak_4 (by decide) ?_
  refine lv_istore_n (lv' := [(1, .int (-1)), (0, .ref (ad 0))]) hx hb dX6_greatestLeak_5 rfl hl (by decide) rfl (fun ls hl => ?_)
  refine lv_iconst (v := 0) hx hb dX6_greatestLeak_6 (by decide) ?_
  refine lv_istore_n (lv' := [(2, .int 0), (1, .int (-1)), (0, .ref (ad 0))]) hx hb dX6_greatestLeak_7 rfl hl (by decide) rfl (fun ls hl => ?_)
  refine lv_iconst (v := 0) hx hb dX6_greatestLeak_8 (by decide) ?_
  refine lv_istore_n (lv' := [(3, .int 0), (2, .int 0), (1, .int (-1)), (0, .ref (ad 0))]) hx hb dX6_greatestLeak_9 rfl hl (by decide) rfl (fun ls hl => ?_)
  obtain ⟨n, h⟩ := h
  exact bl_X6_greatestLeak_10 hM hc hr n (-1) 0 0 σ1 _ _ _ h  hw (lv_sub hl [3, 2, 1, 0] rfl)
def w_X6_oilIsAsTold_32 (M : Nat) (post : Int32 → St → Prop) (k_32 : Nat → Int32 → St → Prop) (v1 : Nat) (v3 : Int32) (σ : St) : Prop :=
  ((gi σ 0 3) ≤ v3 → (post 1 σ)) ∧ (¬ ((gi σ 0 3) ≤ v3) → (w_X6_runActs M (fun σ2 => (w_X5_tell M (fun r4 σ3 => (((gi σ2 12 11) = r4 → (∀ x6 : Int32, x6 = v3 + 1 → (k_32 v1 x6 σ3))) ∧ (¬ ((gi σ2 12 11) = r4) → (post 0 σ3)))) v1 v3 σ2)) v3 (v3 + 1) σ))
set_option maxHeartbeats 4000000 in
set_option maxRecDepth 20000 in
theorem b_X6_oilIsAsTold_32 {Γ : Gm} {ad : Nat → Nat} {p : Program} {l : Launch} {e : Env} {s : State} {m : MethodId} {args : Array Value} {below : List Frame} {meth : Method} {c : Code} {M : Nat} (hM : 53 ≤ M) {post : Int32 → St → Prop} {k_32 : Nat → Int32 → St → Prop} (hk_32 : ∀ (v1 : Nat) (v3 : Int32) (σ : St) (H : Heap) (locs : List Loc) (ls : Array Slot), k_32 v1 v3 σ → kdC v1 = 5 ∧ v1 < M → WH Γ YC M ad σ s H locs → lv_has ls 4 [(0, .ref (ad 0)), (1, .ref (ad v1)), (3, .int v3)] → W p l e (rmL 5 0 0) s m args below meth c H locs 0 0 (MQ below (va_Qi post (fun u t => WC Γ YC M ad u t) (AA Γ)) args s 0 0 (AA Γ)) (F0 m 32 ls []))
    (v1 : Nat) (v3 : Int32) (σ : St) (H : Heap) (locs : List Loc) (ls : Array Slot) (h : w_X6_oilIsAsTold_32 M post k_32 v1 v3 σ) (hf_v1 : kdC v1 = 5 ∧ v1 < M) (hc : CX Γ p s m args meth c cX6_oilIsAsTold RX6 4) (hr : meth.sig.returnType = (Option.some Jvm.ClassFile.FieldType.boolean)) (hw : WH Γ YC M ad σ s H locs) (hl : lv_has ls 4 [(0, .ref (ad 0)), (1, .ref (ad v1)), (3, .int v3)]) :
    W p l e (rmL 5 0 0) s m args below meth c H locs 0 0 (MQ below (va_Qi post (fun u t => WC Γ YC M ad u t) (AA Γ)) args s 0 0 (AA Γ)) (F0 m 32 ls []) := by
  have hx := hc.1
  have hb := hc.2.1
  unfold w_X6_oilIsAsTold_32 at h
  refine lv_iload_n hx hb dX6_oilIsAsTold_32 rfl (lv_at hl 2 rfl) ?_
  refine lv_aload_n hx hb dX6_oilIsAsTold_33 rfl (lv_at hl 0 rfl) ?_
  refine fg_X6_120 hc hw (Nat.lt_of_lt_of_le (by decide) hM) rfl dX6_oilIsAsTold_34 ?_
  refine lv_icmp_ge (tgt := 71) hx hb dX6_oilIsAsTold_37 (by decide) (fun c1 => ?_) (fun c1 => ?_)
  · replace h := h.1 c1
    refine lv_iconst (v := 1) hx hb dX6_oilIsAsTold_71 (by decide) ?_
    exact g_zret hc hr hw rfl h dX6_oilIsAsTold_72
  · replace h := h.2 c1
    refine lv_aload_n hx hb dX6_oilIsAsTold_40 rfl (lv_at hl 0 rfl) ?_
    refine lv_iload_n hx hb dX6_oilIsAsTold_41 rfl (lv_at hl 2 rfl) ?_
    refine lv_iload_n hx hb dX6_oilIsAsTold_42 rfl (lv_at hl 2 rfl) ?_
    refine lv_iconst (v := 1) hx hb dX6_oilIsAsTold_43 (by decide) ?_
    refine lv_iadd hx hb dX6_oilIsAsTold_44 ?_
    refine g_Vv (Y := YC) (ci := 6) (n := 2) (k := 4) (As := [.int v3, .int (v3 + 1)]) (rest := []) rfl (by decide) vw_X6_223 ⟨Nat.le_of_ble_eq_true rfl, Nat.le_of_ble_eq_true rfl, Nat.zero_le _, Nat.zero_le _⟩ hc hw hl.1 (Nat.lt_of_lt_of_le (by decide) hM) rfl (m_X6_runActs l hM v3 (v3 + 1) σ h) rfl rfl (Nat.le_of_ble_eq_true rfl) dX6_oilIsAsTold_45 (fun σ2 H locs h hw => ?_)
    refine lv_aload_n hx hb dX6_oilIsAsTold_48 rfl (lv_at hl 0 rfl) ?_
    refine fg_X6_57 hc hw (Nat.lt_of_lt_of_le (by decide) hM) rfl dX6_oilIsAsTold_49 ?_
    refine fg_X6_217 (o := 12) hc hw (Nat.lt_of_lt_of_le (by decide) hM) rfl dX6_oilIsAsTold_52 ?_
    refine lv_aload_n hx hb dX6_oilIsAsTold_55 rfl (lv_at hl 1 rfl) ?_
    refine lv_iload_n hx hb dX6_oilIsAsTold_56 rfl (lv_at hl 2 rfl) ?_
    refine g_Vi (Y := YC) (ci := 5) (n := 1) (k := 1) (As := [.int v3]) (rest := [.int (gi σ2 12 11)]) rfl (by decide) vw_X6_266 ⟨Nat.le_of_ble_eq_true rfl, Nat.le_of_ble_eq_true rfl, Nat.zero_le _, Nat.zero_le _⟩ hc hw hl.1 hf_v1.2 hf_v1.1 (m_X5_tell l hM v1 v3 σ2 h) rfl rfl (Nat.le_of_ble_eq_true rfl) dX6_oilIsAsTold_57 (fun r4 σ3 H locs h hw => ?_)
    refine lv_icmp_eq (tgt := 65) hx hb dX6_oilIsAsTold_60 (by decide) (fun c5 => ?_) (fun c5 => ?_)
    · replace h := h.1 c5
      obtain ⟨x6, ex6⟩ : ∃ z, z = v3 + 1 := ⟨_, rfl⟩
      replace h := h x6 ex6
      refine lv_iinc (v := x6) (lv' := [(3, .int x6), (0, .ref (ad 0)), (1, .ref (ad v1))]) hx hb dX6_oilIsAsTold_65 hl (k := 2) rfl (by rw [ex6]; rfl) (by decide) rfl (fun ls hl => ?_)
      refine lv_goto (tgt := 32) hx hb dX6_oilIsAsTold_68 (by decide) ?_
      exact hk_32 v1 x6 σ3 _ _ _ h ⟨hf_v1.1, hf_v1.2⟩ hw (lv_sub hl [1, 2, 0] rfl)
    · replace h := h.2 c5
      refine lv_iconst (v := 0) hx hb dX6_oilIsAsTold_63 (by decide) ?_
      exact g_zret hc hr hw rfl h dX6_oilIsAsTold_64
def wl_X6_oilIsAsTold_32 (M : Nat) (post : Int32 → St → Prop) : Nat → Nat → Int32 → St → Prop
  | 0, _, _, _ => False
  | n + 1, v1, v3, σ => w_X6_oilIsAsTold_32 M post (wl_X6_oilIsAsTold_32 M post n) v1 v3 σ
set_option maxHeartbeats 4000000 in
theorem bl_X6_oilIsAsTold_32 {Γ : Gm} {ad : Nat → Nat} {p : Program} {l : Launch} {e : Env} {s : State} {m : MethodId} {args : Array Value} {below : List Frame} {meth : Method} {c : Code} {M : Nat} (hM : 53 ≤ M) {post : Int32 → St → Prop}
    (hc : CX Γ p s m args meth c cX6_oilIsAsTold RX6 4) (hr : meth.sig.returnType = (Option.some Jvm.ClassFile.FieldType.boolean)) :
    ∀ (n : Nat) (v1 : Nat) (v3 : Int32) (σ : St) (H : Heap) (locs : List Loc) (ls : Array Slot), wl_X6_oilIsAsTold_32 M post n v1 v3 σ → kdC v1 = 5 ∧ v1 < M → WH Γ YC M ad σ s H locs → lv_has ls 4 [(0, .ref (ad 0)), (1, .ref (ad v1)), (3, .int v3)] → W p l e (rmL 5 0 0) s m args below meth c H locs 0 0 (MQ below (va_Qi post (fun u t => WC Γ YC M ad u t) (AA Γ)) args s 0 0 (AA Γ)) (F0 m 32 ls []) := by
  intro n
  induction n with
  | zero => intro v1 v3 σ H locs ls h; exact h.elim
  | succ n ih =>
    intro v1 v3 σ H locs ls h hf_v1 hw hl
    exact b_X6_oilIsAsTold_32 hM ih v1 v3 σ H locs ls h hf_v1 hc hr hw hl
def w_X6_oilIsAsTold (M : Nat) (post : Int32 → St → Prop) (a1 : Nat) (a2 : Int32) (σ : St) : Prop :=
  (kdC a1 = 5 ∧ a1 < M) ∧ (w_X6_lawAt M (fun q2 σ1 => (w_X3_begin M (fun σ3 => (∃ n, wl_X6_oilIsAsTold_32 M post n a1 0 σ3)) 12 (gi σ 4 0) (gi σ 4 1) (gi σ 4 2) q2 σ1)) a2 σ)
set_option maxHeartbeats 4000000 in
set_option maxRecDepth 20000 in
theorem m_X6_oilIsAsTold {Γ : Gm} {ad : Nat → Nat} {M : Nat} (l : Launch) (hM : 53 ≤ M) {post : Int32 → St → Prop} (a1 : Nat) (a2 : Int32) (σ : St) (h : w_X6_oilIsAsTold M post a1 a2 σ) : Ci l Γ YC M ad σ yX6_oilIsAsTold cX6_oilIsAsTold 4 (Option.some Jvm.ClassFile.FieldType.boolean) 5 0 0 [.ref (ad 0), .ref (ad a1), .int a2] post := by
  refine g_start (by decide) (Nat.le_of_ble_eq_true rfl) ?_
  intro p e s m args below meth c ls hc hr hn hl hw
  have hc : CX Γ p s m args meth c cX6_oilIsAsTold RX6 4 := hc
  have hl : lv_has ls 4 [(0, .ref (ad 0)), (1, .ref (ad a1)), (2, .int a2)] := hl
  have hx := hc.1
  have hb := hc.2.1
  unfold w_X6_oilIsAsTold at h
  have hf_a1 := h.1
  replace h := h.2
  generalize hHH : s.heap = H0 at hw ⊢
  refine lv_aload_n hx hb dX6_oilIsAsTold_0 rfl (lv_at hl 0 rfl) ?_
  refine fg_X6_57 hc hw (Nat.lt_of_lt_of_le (by decide) hM) rfl dX6_oilIsAsTold_1 ?_
  refine lv_aload_n hx hb dX6_oilIsAsTold_4 rfl (lv_at hl 0 rfl) ?_
  refine fg_X6_27 hc hw (Nat.lt_of_lt_of_le (by decide) hM) rfl dX6_oilIsAsTold_5 ?_
  refine lv_iconst (v := 0) hx hb dX6_oilIsAsTold_8 (by decide) ?_
  refine g_ialdK (Y := YC) (kd := 21) (n := 3) (k := 0) (o := 4) (by decide) (by decide) rfl hc hw (Nat.lt_of_lt_of_le (by decide) hM) rfl rfl (vp_in_lit (by decide)) (by decide) dX6_oilIsAsTold_9 ?_
  refine lv_aload_n hx hb dX6_oilIsAsTold_10 rfl (lv_at hl 0 rfl) ?_
  refine fg_X6_27 hc hw (Nat.lt_of_lt_of_le (by decide) hM) rfl dX6_oilIsAsTold_11 ?_
  refine lv_iconst (v := 1) hx hb dX6_oilIsAsTold_14 (by decide) ?_
  refine g_ialdK (Y := YC) (kd := 21) (n := 3) (k := 1) (o := 4) (by decide) (by decide) rfl hc hw (Nat.lt_of_lt_of_le (by decide) hM) rfl rfl (vp_in_lit (by decide)) (by decide) dX6_oilIsAsTold_15 ?_
  refine lv_aload_n hx hb dX6_oilIsAsTold_16 rfl (lv_at hl 0 rfl) ?_
  refine fg_X6_27 hc hw (Nat.lt_of_lt_of_le (by decide) hM) rfl dX6_oilIsAsTold_17 ?_
  refine lv_iconst (v := 2) hx hb dX6_oilIsAsTold_20 (by decide) ?_
  refine g_ialdK (Y := YC) (kd := 21) (n := 3) (k := 2) (o := 4) (by decide) (by decide) rfl hc hw (Nat.lt_of_lt_of_le (by decide) hM) rfl rfl (vp_in_lit (by decide)) (by decide) dX6_oilIsAsTold_21 ?_
  refine lv_aload_n hx hb dX6_oilIsAsTold_22 rfl (lv_at hl 0 rfl) ?_
  refine lv_iload_n hx hb dX6_oilIsAsTold_23 rfl (lv_at hl 2 rfl) ?_
  refine g_Ve (Y := YC) (ci := 6) (n := 1) (k := 0) (As := [.int a2]) (rest := [.int (gi σ 4 2), .int (gi σ 4 1), .int (gi σ 4 0), .ref (ad 12)]) rfl (by decide) vw_X6_319 ⟨Nat.le_of_ble_eq_true rfl, Nat.le_of_ble_eq_true rfl, Nat.zero_le _, Nat.zero_le _⟩ hc hw hl.1 (Nat.lt_of_lt_of_le (by decide) hM) rfl (m_X6_lawAt l hM a2 σ h) rfl rfl (Nat.le_of_ble_eq_true rfl) dX6_oilIsAsTold_24 (fun q2 σ1 H locs h hw => ?_)
  refine g_Vv (Y := YC) (ci := 3) (n := 4) (k := 0) (As := [.int (gi σ 4 0), .int (gi σ 4 1), .int (gi σ 4 2), va_rf (Option.map ad q2)]) (rest := []) rfl (by decide) vw_X6_323 ⟨Nat.le_of_ble_eq_true rfl, Nat.le_of_ble_eq_true rfl, Nat.zero_le _, Nat.zero_le _⟩ hc hw hl.1 (Nat.lt_of_lt_of_le (by decide) hM) rfl (m_X3_begin l hM 12 (gi σ 4 0) (gi σ 4 1) (gi σ 4 2) q2 σ1 h) rfl rfl (Nat.le_of_ble_eq_true rfl) dX6_oilIsAsTold_27 (fun σ3 H locs h hw => ?_)
  refine lv_iconst (v := 0) hx hb dX6_oilIsAsTold_30 (by decide) ?_
  refine lv_istore_n (lv' := [(3, .int 0), (0, .ref (ad 0)), (1, .ref (ad a1)), (2, .int a2)]) hx hb dX6_oilIsAsTold_31 rfl hl (by decide) rfl (fun ls hl => ?_)
  obtain ⟨n, h⟩ := h
  exact bl_X6_oilIsAsTold_32 hM hc hr n a1 0 σ3 _ _ _ h ⟨hf_a1.1, hf_a1.2⟩ hw (lv_sub hl [1, 2, 0] rfl)
def w_X6_pot (M : Nat) (post : Int32 → St → Prop) (a1 : Int32) (a2 : Int32) (σ : St) : Prop :=
  w_X6_hasActs M (fun r2 σ1 => ((r2 = 0 → (post (-5) σ1)) ∧ (¬ (r2 = 0) → (w_X3_canTell M (fun r5 σ4 => ((r5 = 0 → (post (-7) σ4)) ∧ (¬ (r5 = 0) → (w_X6_cookActs M (fun σ7 => (w_X3_tell M (fun r9 σ8 => (post r9 σ8)) 12 a2 σ7)) a1 σ4)))) a2 σ1)))) a1 σ
set_option maxHeartbeats 4000000 in
set_option maxRecDepth 20000 in
theorem m_X6_pot {Γ : Gm} {ad : Nat → Nat} {M : Nat} (l : Launch) (hM : 53 ≤ M) {post : Int32 → St → Prop} (a1 : Int32) (a2 : Int32) (σ : St) (h : w_X6_pot M post a1 a2 σ) : Ci l Γ YC M ad σ yX6_pot cX6_pot 3 (Option.some Jvm.ClassFile.FieldType.int) 6 0 0 [.ref (ad 0), .int a1, .int a2] post := by
  refine g_start (by decide) (Nat.le_of_ble_eq_true rfl) ?_
  intro p e s m args below meth c ls hc hr hn hl hw
  have hc : CX Γ p s m args meth c cX6_pot RX6 3 := hc
  have hl : lv_has ls 3 [(0, .ref (ad 0)), (1, .int a1), (2, .int a2)] := hl
  have hx := hc.1
  have hb := hc.2.1
  unfold w_X6_pot at h
  generalize hHH : s.heap = H0 at hw ⊢
  refine lv_aload_n hx hb dX6_pot_0 rfl (lv_at hl 0 rfl) ?_
  refine lv_iload_n hx hb dX6_pot_1 rfl (lv_at hl 1 rfl) ?_
  refine g_Vi (Y := YC) (ci := 6) (n := 1) (k := 0) (As := [.int a1]) (rest := []) rfl (by decide) vw_X6_165 ⟨Nat.le_of_ble_eq_true rfl, Nat.le_of_ble_eq_true rfl, Nat.zero_le _, Nat.zero_le _⟩ hc hw hl.1 (Nat.lt_of_lt_of_le (by decide) hM) rfl (m_X6_hasActs l hM a1 σ h) rfl rfl (Nat.le_of_ble_eq_true rfl) dX6_pot_2 (fun r2 σ1 H locs h hw => ?_)
  refine lv_if_ne (tgt := 11) hx hb dX6_pot_5 (by decide) (fun c3 => ?_) (fun c3 => ?_)
  · replace h := h.2 c3
    refine lv_iload_n hx hb dX6_pot_11 rfl (lv_at hl 2 rfl) ?_
    refine g_Si (Y := YC) (n := 1) (k := 0) (As := [.int a2]) (rest := []) vw_X6_168 ⟨Nat.le_of_ble_eq_true rfl, Nat.le_of_ble_eq_true rfl, Nat.zero_le _, Nat.zero_le _⟩ hc hw hl.1 (m_X3_canTell l hM a2 σ1 h) rfl rfl (Nat.le_of_ble_eq_true rfl) dX6_pot_12 (fun r5 σ4 H locs h hw => ?_)
    refine lv_if_ne (tgt := 21) hx hb dX6_pot_15 (by decide) (fun c6 => ?_) (fun c6 => ?_)
    · replace h := h.2 c6
      refine lv_aload_n hx hb dX6_pot_21 rfl (lv_at hl 0 rfl) ?_
      refine lv_iload_n hx hb dX6_pot_22 rfl (lv_at hl 1 rfl) ?_
      refine g_Vv (Y := YC) (ci := 6) (n := 1) (k := 5) (As := [.int a1]) (rest := []) rfl (by decide) vw_X6_171 ⟨Nat.le_of_ble_eq_true rfl, Nat.le_of_ble_eq_true rfl, Nat.zero_le _, Nat.zero_le _⟩ hc hw hl.1 (Nat.lt_of_lt_of_le (by decide) hM) rfl (m_X6_cookActs l hM a1 σ4 h) rfl rfl (Nat.le_of_ble_eq_true rfl) dX6_pot_23 (fun σ7 H locs h hw => ?_)
      refine lv_aload_n hx hb dX6_pot_26 rfl (lv_at hl 0 rfl) ?_
      refine fg_X6_57 hc hw (Nat.lt_of_lt_of_le (by decide) hM) rfl dX6_pot_27 ?_
      refine lv_iload_n hx hb dX6_pot_30 rfl (lv_at hl 2 rfl) ?_
      refine g_Vi (Y := YC) (ci := 3) (n := 1) (k := 4) (As := [.int a2]) (rest := []) rfl (by decide) vw_X6_174 ⟨Nat.le_of_ble_eq_true rfl, Nat.le_of_ble_eq_true rfl, Nat.zero_le _, Nat.zero_le _⟩ hc hw hl.1 (Nat.lt_of_lt_of_le (by decide) hM) rfl (m_X3_tell l hM 12 a2 σ7 h) rfl rfl (Nat.le_of_ble_eq_true rfl) dX6_pot_31 (fun r9 σ8 H locs h hw => ?_)
      exact g_iret hc hr hw h dX6_pot_34
    · replace h := h.1 c6
      refine lv_bipush (v := (-7)) hx hb dX6_pot_18 (by decide) ?_
      exact g_iret hc hr hw h dX6_pot_20
  · replace h := h.1 c3
    refine lv_bipush (v := (-5)) hx hb dX6_pot_8 (by decide) ?_
    exact g_iret hc hr hw h dX6_pot_10
def w_X6_splits (M : Nat) (post : Int32 → St → Prop) (a1 : Int32) (σ : St) : Prop :=
  w_X6_isBit M (fun r2 σ1 => ((r2 = 0 → (post (-2) σ1)) ∧ (¬ (r2 = 0) → ((a1 = 0 → (w_X6_firstSplit M (fun r8 σ7 => (post r8 σ7)) σ1)) ∧ (¬ (a1 = 0) → (w_X6_greatestLeak M (fun r6 σ5 => (post r6 σ5)) σ1)))))) a1 σ
set_option maxHeartbeats 4000000 in
set_option maxRecDepth 20000 in
theorem m_X6_splits {Γ : Gm} {ad : Nat → Nat} {M : Nat} (l : Launch) (hM : 53 ≤ M) {post : Int32 → St → Prop} (a1 : Int32) (σ : St) (h : w_X6_splits M post a1 σ) : Ci l Γ YC M ad σ yX6_splits cX6_splits 2 (Option.some Jvm.ClassFile.FieldType.int) 6 0 0 [.ref (ad 0), .int a1] post := by
  refine g_start (by decide) (Nat.le_of_ble_eq_true rfl) ?_
  intro p e s m args below meth c ls hc hr hn hl hw
  have hc : CX Γ p s m args meth c cX6_splits RX6 2 := hc
  have hl : lv_has ls 2 [(0, .ref (ad 0)), (1, .int a1)] := hl
  have hx := hc.1
  have hb := hc.2.1
  unfold w_X6_splits at h
  generalize hHH : s.heap = H0 at hw ⊢
  refine lv_iload_n hx hb dX6_splits_0 rfl (lv_at hl 1 rfl) ?_
  refine g_Si (Y := YC) (n := 1) (k := 0) (As := [.int a1]) (rest := []) vw_X6_175 ⟨Nat.le_of_ble_eq_true rfl, Nat.le_of_ble_eq_true rfl, Nat.zero_le _, Nat.zero_le _⟩ hc hw hl.1 (m_X6_isBit l hM a1 σ h) rfl rfl (Nat.le_of_ble_eq_true rfl) dX6_splits_1 (fun r2 σ1 H locs h hw => ?_)
  refine lv_if_ne (tgt := 10) hx hb dX6_splits_4 (by decide) (fun c3 => ?_) (fun c3 => ?_)
  · replace h := h.2 c3
    refine lv_iload_n hx hb dX6_splits_10 rfl (lv_at hl 1 rfl) ?_
    refine lv_if_ne (tgt := 21) hx hb dX6_splits_11 (by decide) (fun c4 => ?_) (fun c4 => ?_)
    · replace h := h.2 c4
      refine lv_aload_n hx hb dX6_splits_21 rfl (lv_at hl 0 rfl) ?_
      refine g_Vi (Y := YC) (ci := 6) (n := 0) (k := 5) (As := []) (rest := []) rfl (by decide) vw_X6_181 ⟨Nat.le_of_ble_eq_true rfl, Nat.le_of_ble_eq_true rfl, Nat.zero_le _, Nat.zero_le _⟩ hc hw hl.1 (Nat.lt_of_lt_of_le (by decide) hM) rfl (m_X6_greatestLeak l hM σ1 h) rfl rfl (Nat.le_of_ble_eq_true rfl) dX6_splits_22 (fun r6 σ5 H locs h hw => ?_)
      exact g_iret hc hr hw h dX6_splits_25
    · replace h := h.1 c4
      refine lv_aload_n hx hb dX6_splits_14 rfl (lv_at hl 0 rfl) ?_
      refine g_Vi (Y := YC) (ci := 6) (n := 0) (k := 5) (As := []) (rest := []) rfl (by decide) vw_X6_178 ⟨Nat.le_of_ble_eq_true rfl, Nat.le_of_ble_eq_true rfl, Nat.zero_le _, Nat.zero_le _⟩ hc hw hl.1 (Nat.lt_of_lt_of_le (by decide) hM) rfl (m_X6_firstSplit l hM σ1 h) rfl rfl (Nat.le_of_ble_eq_true rfl) dX6_splits_15 (fun r8 σ7 H locs h hw => ?_)
      refine lv_goto (tgt := 25) hx hb dX6_splits_18 (by decide) ?_
      exact g_iret hc hr hw h dX6_splits_25
  · replace h := h.1 c3
    refine lv_bipush (v := (-2)) hx hb dX6_splits_7 (by decide) ?_
    exact g_iret hc hr hw h dX6_splits_9
def w_X6_hour_60 (M : Nat) (post : Int32 → St → Prop) (k_40 : Int32 → Int32 → St → Prop) (v2 : Int32) (v3 : Int32) (t0 : Int32) (σ : St) : Prop :=
  w_X3_passMinute M (fun σ1 => (w_X3_holdsNow M (fun r3 σ2 => ((r3 = 0 → (post v3 σ2)) ∧ (¬ (r3 = 0) → (∀ x5 : Int32, x5 = v3 + 1 → (k_40 v2 x5 σ2))))) 12 σ1)) 12 t0 σ
set_option maxHeartbeats 4000000 in
set_option maxRecDepth 20000 in
theorem b_X6_hour_60 {Γ : Gm} {ad : Nat → Nat} {p : Program} {l : Launch} {e : Env} {s : State} {m : MethodId} {args : Array Value} {below : List Frame} {meth : Method} {c : Code} {M : Nat} (hM : 53 ≤ M) {post : Int32 → St → Prop} {k_40 : Int32 → Int32 → St → Prop} (hk_40 : ∀ (v2 : Int32) (v3 : Int32) (σ : St) (H : Heap) (locs : List Loc) (ls : Array Slot), k_40 v2 v3 σ → WH Γ YC M ad σ s H locs → lv_has ls 4 [(0, .ref (ad 0)), (2, .int v2), (3, .int v3)] → W p l e (rmL 6 0 0) s m args below meth c H locs 0 0 (MQ below (va_Qi post (fun u t => WC Γ YC M ad u t) (AA Γ)) args s 0 0 (AA Γ)) (F0 m 40 ls []))
    (v2 : Int32) (v3 : Int32) (t0 : Int32) (σ : St) (H : Heap) (locs : List Loc) (ls : Array Slot) (h : w_X6_hour_60 M post k_40 v2 v3 t0 σ) (hc : CX Γ p s m args meth c cX6_hour RX6 4) (hr : meth.sig.returnType = (Option.some Jvm.ClassFile.FieldType.int)) (hw : WH Γ YC M ad σ s H locs) (hl : lv_has ls 4 [(0, .ref (ad 0)), (2, .int v2), (3, .int v3)]) :
    W p l e (rmL 6 0 0) s m args below meth c H locs 0 0 (MQ below (va_Qi post (fun u t => WC Γ YC M ad u t) (AA Γ)) args s 0 0 (AA Γ)) (F0 m 60 ls [.int t0, .ref (ad 12)]) := by
  have hx := hc.1
  have hb := hc.2.1
  unfold w_X6_hour_60 at h
  refine g_Vv (Y := YC) (ci := 3) (n := 1) (k := 2) (As := [.int t0]) (rest := []) rfl (by decide) vw_X6_187 ⟨Nat.le_of_ble_eq_true rfl, Nat.le_of_ble_eq_true rfl, Nat.zero_le _, Nat.zero_le _⟩ hc hw hl.1 (Nat.lt_of_lt_of_le (by decide) hM) rfl (m_X3_passMinute l hM 12 t0 σ h) rfl rfl (Nat.le_of_ble_eq_true rfl) dX6_hour_60 (fun σ1 H locs h hw => ?_)
  refine lv_aload_n hx hb dX6_hour_63 rfl (lv_at hl 0 rfl) ?_
  refine fg_X6_57 hc hw (Nat.lt_of_lt_of_le (by decide) hM) rfl dX6_hour_64 ?_
  refine g_Vi (Y := YC) (ci := 3) (n := 0) (k := 0) (As := []) (rest := []) rfl (by decide) vw_X6_184 ⟨Nat.le_of_ble_eq_true rfl, Nat.le_of_ble_eq_true rfl, Nat.zero_le _, Nat.zero_le _⟩ hc hw hl.1 (Nat.lt_of_lt_of_le (by decide) hM) rfl (m_X3_holdsNow l hM 12 σ1 h) rfl rfl (Nat.le_of_ble_eq_true rfl) dX6_hour_67 (fun r3 σ2 H locs h hw => ?_)
  refine lv_if_ne (tgt := 75) hx hb dX6_hour_70 (by decide) (fun c4 => ?_) (fun c4 => ?_)
  · replace h := h.2 c4
    obtain ⟨x5, ex5⟩ : ∃ z, z = v3 + 1 := ⟨_, rfl⟩
    replace h := h x5 ex5
    refine lv_iinc (v := x5) (lv' := [(3, .int x5), (0, .ref (ad 0)), (2, .int v2)]) hx hb dX6_hour_75 hl (k := 2) rfl (by rw [ex5]; rfl) (by decide) rfl (fun ls hl => ?_)
    refine lv_goto (tgt := 40) hx hb dX6_hour_78 (by decide) ?_
    exact hk_40 v2 x5 σ2 _ _ _ h  hw (lv_sub hl [1, 2, 0] rfl)
  · replace h := h.1 c4
    refine lv_iload_n hx hb dX6_hour_73 rfl (lv_at hl 2 rfl) ?_
    exact g_iret hc hr hw h dX6_hour_74
def w_X6_hour_40 (M : Nat) (post : Int32 → St → Prop) (k_40 : Int32 → Int32 → St → Prop) (v2 : Int32) (v3 : Int32) (σ : St) : Prop :=
  (60 ≤ v3 → (post 60 σ)) ∧ (¬ (60 ≤ v3) → ((v2 = 1 → (w_X6_hour_60 M post k_40 v2 v3 1 σ)) ∧ (¬ (v2 = 1) → (w_X6_hour_60 M post k_40 v2 v3 0 σ))))
set_option maxHeartbeats 4000000 in
set_option maxRecDepth 20000 in
theorem b_X6_hour_40 {Γ : Gm} {ad : Nat → Nat} {p : Program} {l : Launch} {e : Env} {s : State} {m : MethodId} {args : Array Value} {below : List Frame} {meth : Method} {c : Code} {M : Nat} (hM : 53 ≤ M) {post : Int32 → St → Prop} {k_40 : Int32 → Int32 → St → Prop} (hk_40 : ∀ (v2 : Int32) (v3 : Int32) (σ : St) (H : Heap) (locs : List Loc) (ls : Array Slot), k_40 v2 v3 σ → WH Γ YC M ad σ s H locs → lv_has ls 4 [(0, .ref (ad 0)), (2, .int v2), (3, .int v3)] → W p l e (rmL 6 0 0) s m args below meth c H locs 0 0 (MQ below (va_Qi post (fun u t => WC Γ YC M ad u t) (AA Γ)) args s 0 0 (AA Γ)) (F0 m 40 ls []))
    (v2 : Int32) (v3 : Int32) (σ : St) (H : Heap) (locs : List Loc) (ls : Array Slot) (h : w_X6_hour_40 M post k_40 v2 v3 σ) (hc : CX Γ p s m args meth c cX6_hour RX6 4) (hr : meth.sig.returnType = (Option.some Jvm.ClassFile.FieldType.int)) (hw : WH Γ YC M ad σ s H locs) (hl : lv_has ls 4 [(0, .ref (ad 0)), (2, .int v2), (3, .int v3)]) :
    W p l e (rmL 6 0 0) s m args below meth c H locs 0 0 (MQ below (va_Qi post (fun u t => WC Γ YC M ad u t) (AA Γ)) args s 0 0 (AA Γ)) (F0 m 40 ls []) := by
  have hx := hc.1
  have hb := hc.2.1
  unfold w_X6_hour_40 at h
  refine lv_iload_n hx hb dX6_hour_40 rfl (lv_at hl 2 rfl) ?_
  refine lv_bipush (v := 60) hx hb dX6_hour_41 (by decide) ?_
  refine lv_icmp_ge (tgt := 81) hx hb dX6_hour_43 (by decide) (fun c1 => ?_) (fun c1 => ?_)
  · replace h := h.1 c1
    refine lv_bipush (v := 60) hx hb dX6_hour_81 (by decide) ?_
    exact g_iret hc hr hw h dX6_hour_83
  · replace h := h.2 c1
    refine lv_aload_n hx hb dX6_hour_46 rfl (lv_at hl 0 rfl) ?_
    refine fg_X6_57 hc hw (Nat.lt_of_lt_of_le (by decide) hM) rfl dX6_hour_47 ?_
    refine lv_iload_n hx hb dX6_hour_50 rfl (lv_at hl 1 rfl) ?_
    refine lv_iconst (v := 1) hx hb dX6_hour_51 (by decide) ?_
    refine lv_icmp_ne (tgt := 59) hx hb dX6_hour_52 (by decide) (fun c2 => ?_) (fun c2 => ?_)
    · replace h := h.2 c2
      refine lv_iconst (v := 0) hx hb dX6_hour_59 (by decide) ?_
      exact b_X6_hour_60 hM hk_40 v2 v3 0 σ _ _ _ h  hc hr hw (lv_sub hl [0, 1, 2] rfl)
    · replace h := h.1 c2
      refine lv_iconst (v := 1) hx hb dX6_hour_55 (by decide) ?_
      refine lv_goto (tgt := 60) hx hb dX6_hour_56 (by decide) ?_
      exact b_X6_hour_60 hM hk_40 v2 v3 1 σ _ _ _ h  hc hr hw (lv_sub hl [0, 1, 2] rfl)
def wl_X6_hour_40 (M : Nat) (post : Int32 → St → Prop) : Nat → Int32 → Int32 → St → Prop
  | 0, _, _, _ => False
  | n + 1, v2, v3, σ => w_X6_hour_40 M post (wl_X6_hour_40 M post n) v2 v3 σ
set_option maxHeartbeats 4000000 in
theorem bl_X6_hour_40 {Γ : Gm} {ad : Nat → Nat} {p : Program} {l : Launch} {e : Env} {s : State} {m : MethodId} {args : Array Value} {below : List Frame} {meth : Method} {c : Code} {M : Nat} (hM : 53 ≤ M) {post : Int32 → St → Prop}
    (hc : CX Γ p s m args meth c cX6_hour RX6 4) (hr : meth.sig.returnType = (Option.some Jvm.ClassFile.FieldType.int)) :
    ∀ (n : Nat) (v2 : Int32) (v3 : Int32) (σ : St) (H : Heap) (locs : List Loc) (ls : Array Slot), wl_X6_hour_40 M post n v2 v3 σ → WH Γ YC M ad σ s H locs → lv_has ls 4 [(0, .ref (ad 0)), (2, .int v2), (3, .int v3)] → W p l e (rmL 6 0 0) s m args below meth c H locs 0 0 (MQ below (va_Qi post (fun u t => WC Γ YC M ad u t) (AA Γ)) args s 0 0 (AA Γ)) (F0 m 40 ls []) := by
  intro n
  induction n with
  | zero => intro v2 v3 σ H locs ls h; exact h.elim
  | succ n ih =>
    intro v2 v3 σ H locs ls h  hw hl
    exact b_X6_hour_40 hM ih v2 v3 σ H locs ls h  hc hr hw hl
def w_X6_hour (M : Nat) (post : Int32 → St → Prop) (a1 : Int32) (a2 : Int32) (σ : St) : Prop :=
  w_X6_hasActs M (fun r2 σ1 => ((r2 = 0 → (post (-5) σ1)) ∧ (¬ (r2 = 0) → (w_X6_isBit M (fun r5 σ4 => ((r5 = 0 → (post (-7) σ4)) ∧ (¬ (r5 = 0) → (w_X6_cookActs M (fun σ7 => (w_X3_holdsNow M (fun r9 σ8 => ((r9 = 0 → (post 0 σ8)) ∧ (¬ (r9 = 0) → (∃ n, wl_X6_hour_40 M post n a2 0 σ8)))) 12 σ7)) a1 σ4)))) a2 σ1)))) a1 σ
set_option maxHeartbeats 4000000 in
set_option maxRecDepth 20000 in
theorem m_X6_hour {Γ : Gm} {ad : Nat → Nat} {M : Nat} (l : Launch) (hM : 53 ≤ M) {post : Int32 → St → Prop} (a1 : Int32) (a2 : Int32) (σ : St) (h : w_X6_hour M post a1 a2 σ) : Ci l Γ YC M ad σ yX6_hour cX6_hour 4 (Option.some Jvm.ClassFile.FieldType.int) 6 0 0 [.ref (ad 0), .int a1, .int a2] post := by
  refine g_start (by decide) (Nat.le_of_ble_eq_true rfl) ?_
  intro p e s m args below meth c ls hc hr hn hl hw
  have hc : CX Γ p s m args meth c cX6_hour RX6 4 := hc
  have hl : lv_has ls 4 [(0, .ref (ad 0)), (1, .int a1), (2, .int a2)] := hl
  have hx := hc.1
  have hb := hc.2.1
  unfold w_X6_hour at h
  generalize hHH : s.heap = H0 at hw ⊢
  refine lv_aload_n hx hb dX6_hour_0 rfl (lv_at hl 0 rfl) ?_
  refine lv_iload_n hx hb dX6_hour_1 rfl (lv_at hl 1 rfl) ?_
  refine g_Vi (Y := YC) (ci := 6) (n := 1) (k := 0) (As := [.int a1]) (rest := []) rfl (by decide) vw_X6_165 ⟨Nat.le_of_ble_eq_true rfl, Nat.le_of_ble_eq_true rfl, Nat.zero_le _, Nat.zero_le _⟩ hc hw hl.1 (Nat.lt_of_lt_of_le (by decide) hM) rfl (m_X6_hasActs l hM a1 σ h) rfl rfl (Nat.le_of_ble_eq_true rfl) dX6_hour_2 (fun r2 σ1 H locs h hw => ?_)
  refine lv_if_ne (tgt := 11) hx hb dX6_hour_5 (by decide) (fun c3 => ?_) (fun c3 => ?_)
  · replace h := h.2 c3
    refine lv_iload_n hx hb dX6_hour_11 rfl (lv_at hl 2 rfl) ?_
    refine g_Si (Y := YC) (n := 1) (k := 0) (As := [.int a2]) (rest := []) vw_X6_175 ⟨Nat.le_of_ble_eq_true rfl, Nat.le_of_ble_eq_true rfl, Nat.zero_le _, Nat.zero_le _⟩ hc hw hl.1 (m_X6_isBit l hM a2 σ1 h) rfl rfl (Nat.le_of_ble_eq_true rfl) dX6_hour_12 (fun r5 σ4 H locs h hw => ?_)
    refine lv_if_ne (tgt := 21) hx hb dX6_hour_15 (by decide) (fun c6 => ?_) (fun c6 => ?_)
    · replace h := h.2 c6
      refine lv_aload_n hx hb dX6_hour_21 rfl (lv_at hl 0 rfl) ?_
      refine lv_iload_n hx hb dX6_hour_22 rfl (lv_at hl 1 rfl) ?_
      refine g_Vv (Y := YC) (ci := 6) (n := 1) (k := 5) (As := [.int a1]) (rest := []) rfl (by decide) vw_X6_171 ⟨Nat.le_of_ble_eq_true rfl, Nat.le_of_ble_eq_true rfl, Nat.zero_le _, Nat.zero_le _⟩ hc hw hl.1 (Nat.lt_of_lt_of_le (by decide) hM) rfl (m_X6_cookActs l hM a1 σ4 h) rfl rfl (Nat.le_of_ble_eq_true rfl) dX6_hour_23 (fun σ7 H locs h hw => ?_)
      refine lv_aload_n hx hb dX6_hour_26 rfl (lv_at hl 0 rfl) ?_
      refine fg_X6_57 hc hw (Nat.lt_of_lt_of_le (by decide) hM) rfl dX6_hour_27 ?_
      refine g_Vi (Y := YC) (ci := 3) (n := 0) (k := 0) (As := []) (rest := []) rfl (by decide) vw_X6_184 ⟨Nat.le_of_ble_eq_true rfl, Nat.le_of_ble_eq_true rfl, Nat.zero_le _, Nat.zero_le _⟩ hc hw hl.1 (Nat.lt_of_lt_of_le (by decide) hM) rfl (m_X3_holdsNow l hM 12 σ7 h) rfl rfl (Nat.le_of_ble_eq_true rfl) dX6_hour_30 (fun r9 σ8 H locs h hw => ?_)
      refine lv_if_ne (tgt := 38) hx hb dX6_hour_33 (by decide) (fun c10 => ?_) (fun c10 => ?_)
      · replace h := h.2 c10
        refine lv_iconst (v := 0) hx hb dX6_hour_38 (by decide) ?_
        refine lv_istore_n (lv' := [(3, .int 0), (0, .ref (ad 0)), (1, .int a1), (2, .int a2)]) hx hb dX6_hour_39 rfl hl (by decide) rfl (fun ls hl => ?_)
        obtain ⟨n, h⟩ := h
        exact bl_X6_hour_40 hM hc hr n a2 0 σ8 _ _ _ h  hw (lv_sub hl [1, 3, 0] rfl)
      · replace h := h.1 c10
        refine lv_iconst (v := 0) hx hb dX6_hour_36 (by decide) ?_
        exact g_iret hc hr hw h dX6_hour_37
    · replace h := h.1 c6
      refine lv_bipush (v := (-7)) hx hb dX6_hour_18 (by decide) ?_
      exact g_iret hc hr hw h dX6_hour_20
  · replace h := h.1 c3
    refine lv_bipush (v := (-5)) hx hb dX6_hour_8 (by decide) ?_
    exact g_iret hc hr hw h dX6_hour_10
def w_X6_flames_4 (M : Nat) (post : Int32 → St → Prop) (k_4 : Int32 → Int32 → St → Prop) (v1 : Int32) (v2 : Int32) (σ : St) : Prop :=
  (9 < v2 → (post v1 σ)) ∧ (¬ (9 < v2) → (w_X6_holdsWith M (fun r3 σ2 => ((r3 = 0 → (∀ x5 : Int32, x5 = v2 + 1 → (k_4 v1 x5 σ2))) ∧ (¬ (r3 = 0) → (∀ x6 : Int32, x6 = v2 + 1 → (k_4 (v1 ||| (1 <<< (v2 &&& 31))) x6 σ2))))) v2 (gi σ 4 1) (gi σ 4 2) σ))
set_option maxHeartbeats 4000000 in
set_option maxRecDepth 20000 in
theorem b_X6_flames_4 {Γ : Gm} {ad : Nat → Nat} {p : Program} {l : Launch} {e : Env} {s : State} {m : MethodId} {args : Array Value} {below : List Frame} {meth : Method} {c : Code} {M : Nat} (hM : 53 ≤ M) {post : Int32 → St → Prop} {k_4 : Int32 → Int32 → St → Prop} (hk_4 : ∀ (v1 : Int32) (v2 : Int32) (σ : St) (H : Heap) (locs : List Loc) (ls : Array Slot), k_4 v1 v2 σ → WH Γ YC M ad σ s H locs → lv_has ls 3 [(0, .ref (ad 0)), (1, .int v1), (2, .int v2)] → W p l e (rmL 6 0 0) s m args below meth c H locs 0 0 (MQ below (va_Qi post (fun u t => WC Γ YC M ad u t) (AA Γ)) args s 0 0 (AA Γ)) (F0 m 4 ls []))
    (v1 : Int32) (v2 : Int32) (σ : St) (H : Heap) (locs : List Loc) (ls : Array Slot) (h : w_X6_flames_4 M post k_4 v1 v2 σ) (hc : CX Γ p s m args meth c cX6_flames RX6 3) (hr : meth.sig.returnType = (Option.some Jvm.ClassFile.FieldType.int)) (hw : WH Γ YC M ad σ s H locs) (hl : lv_has ls 3 [(0, .ref (ad 0)), (1, .int v1), (2, .int v2)]) :
    W p l e (rmL 6 0 0) s m args below meth c H locs 0 0 (MQ below (va_Qi post (fun u t => WC Γ YC M ad u t) (AA Γ)) args s 0 0 (AA Γ)) (F0 m 4 ls []) := by
  have hx := hc.1
  have hb := hc.2.1
  unfold w_X6_flames_4 at h
  refine lv_iload_n hx hb dX6_flames_4 rfl (lv_at hl 2 rfl) ?_
  refine g_gets hc hw q_551 dX6_flames_5 ?_
  refine lv_iconst (v := 0) hx hb dX6_flames_8 (by decide) ?_
  refine g_taldK (k := 0) (v := 9) hc hw (vp_in_lit (by decide)) (by decide) rfl dX6_flames_9 ?_
  refine lv_icmp_gt (tgt := 45) hx hb dX6_flames_10 (by decide) (fun c1 => ?_) (fun c1 => ?_)
  · replace h := h.1 c1
    refine lv_iload_n hx hb dX6_flames_45 rfl (lv_at hl 1 rfl) ?_
    exact g_iret hc hr hw h dX6_flames_46
  · replace h := h.2 c1
    refine lv_aload_n hx hb dX6_flames_13 rfl (lv_at hl 0 rfl) ?_
    refine lv_iload_n hx hb dX6_flames_14 rfl (lv_at hl 2 rfl) ?_
    refine lv_aload_n hx hb dX6_flames_15 rfl (lv_at hl 0 rfl) ?_
    refine fg_X6_27 hc hw (Nat.lt_of_lt_of_le (by decide) hM) rfl dX6_flames_16 ?_
    refine lv_iconst (v := 1) hx hb dX6_flames_19 (by decide) ?_
    refine g_ialdK (Y := YC) (kd := 21) (n := 3) (k := 1) (o := 4) (by decide) (by decide) rfl hc hw (Nat.lt_of_lt_of_le (by decide) hM) rfl rfl (vp_in_lit (by decide)) (by decide) dX6_flames_20 ?_
    refine lv_aload_n hx hb dX6_flames_21 rfl (lv_at hl 0 rfl) ?_
    refine fg_X6_27 hc hw (Nat.lt_of_lt_of_le (by decide) hM) rfl dX6_flames_22 ?_
    refine lv_iconst (v := 2) hx hb dX6_flames_25 (by decide) ?_
    refine g_ialdK (Y := YC) (kd := 21) (n := 3) (k := 2) (o := 4) (by decide) (by decide) rfl hc hw (Nat.lt_of_lt_of_le (by decide) hM) rfl rfl (vp_in_lit (by decide)) (by decide) dX6_flames_26 ?_
    refine g_Vi (Y := YC) (ci := 6) (n := 3) (k := 5) (As := [.int v2, .int (gi σ 4 1), .int (gi σ 4 2)]) (rest := []) rfl (by decide) vw_X6_191 ⟨Nat.le_of_ble_eq_true rfl, Nat.le_of_ble_eq_true rfl, Nat.zero_le _, Nat.zero_le _⟩ hc hw hl.1 (Nat.lt_of_lt_of_le (by decide) hM) rfl (m_X6_holdsWith l hM v2 (gi σ 4 1) (gi σ 4 2) σ h) rfl rfl (Nat.le_of_ble_eq_true rfl) dX6_flames_27 (fun r3 σ2 H locs h hw => ?_)
    refine lv_if_eq (tgt := 39) hx hb dX6_flames_30 (by decide) (fun c4 => ?_) (fun c4 => ?_)
    · replace h := h.1 c4
      obtain ⟨x5, ex5⟩ : ∃ z, z = v2 + 1 := ⟨_, rfl⟩
      replace h := h x5 ex5
      refine lv_iinc (v := x5) (lv' := [(2, .int x5), (0, .ref (ad 0)), (1, .int v1)]) hx hb dX6_flames_39 hl (k := 2) rfl (by rw [ex5]; rfl) (by decide) rfl (fun ls hl => ?_)
      refine lv_goto (tgt := 4) hx hb dX6_flames_42 (by decide) ?_
      exact hk_4 v1 x5 σ2 _ _ _ h  hw (lv_sub hl [1, 2, 0] rfl)
    · replace h := h.2 c4
      refine lv_iload_n hx hb dX6_flames_33 rfl (lv_at hl 1 rfl) ?_
      refine lv_iconst (v := 1) hx hb dX6_flames_34 (by decide) ?_
      refine lv_iload_n hx hb dX6_flames_35 rfl (lv_at hl 2 rfl) ?_
      refine lv_ishl hx hb dX6_flames_36 ?_
      refine lv_ior hx hb dX6_flames_37 ?_
      refine lv_istore_n (lv' := [(1, .int (v1 ||| (1 <<< (v2 &&& 31)))), (0, .ref (ad 0)), (2, .int v2)]) hx hb dX6_flames_38 rfl hl (by decide) rfl (fun ls hl => ?_)
      obtain ⟨x6, ex6⟩ : ∃ z, z = v2 + 1 := ⟨_, rfl⟩
      replace h := h x6 ex6
      refine lv_iinc (v := x6) (lv' := [(2, .int x6), (1, .int (v1 ||| (1 <<< (v2 &&& 31)))), (0, .ref (ad 0))]) hx hb dX6_flames_39 hl (k := 2) rfl (by rw [ex6]; rfl) (by decide) rfl (fun ls hl => ?_)
      refine lv_goto (tgt := 4) hx hb dX6_flames_42 (by decide) ?_
      exact hk_4 (v1 ||| (1 <<< (v2 &&& 31))) x6 σ2 _ _ _ h  hw (lv_sub hl [2, 1, 0] rfl)
def wl_X6_flames_4 (M : Nat) (post : Int32 → St → Prop) : Nat → Int32 → Int32 → St → Prop
  | 0, _, _, _ => False
  | n + 1, v1, v2, σ => w_X6_flames_4 M post (wl_X6_flames_4 M post n) v1 v2 σ
set_option maxHeartbeats 4000000 in
theorem bl_X6_flames_4 {Γ : Gm} {ad : Nat → Nat} {p : Program} {l : Launch} {e : Env} {s : State} {m : MethodId} {args : Array Value} {below : List Frame} {meth : Method} {c : Code} {M : Nat} (hM : 53 ≤ M) {post : Int32 → St → Prop}
    (hc : CX Γ p s m args meth c cX6_flames RX6 3) (hr : meth.sig.returnType = (Option.some Jvm.ClassFile.FieldType.int)) :
    ∀ (n : Nat) (v1 : Int32) (v2 : Int32) (σ : St) (H : Heap) (locs : List Loc) (ls : Array Slot), wl_X6_flames_4 M post n v1 v2 σ → WH Γ YC M ad σ s H locs → lv_has ls 3 [(0, .ref (ad 0)), (1, .int v1), (2, .int v2)] → W p l e (rmL 6 0 0) s m args below meth c H locs 0 0 (MQ below (va_Qi post (fun u t => WC Γ YC M ad u t) (AA Γ)) args s 0 0 (AA Γ)) (F0 m 4 ls []) := by
  intro n
  induction n with
  | zero => intro v1 v2 σ H locs ls h; exact h.elim
  | succ n ih =>
    intro v1 v2 σ H locs ls h  hw hl
    exact b_X6_flames_4 hM ih v1 v2 σ H locs ls h  hc hr hw hl
def w_X6_flames (M : Nat) (post : Int32 → St → Prop)  (σ : St) : Prop :=
  ∃ n, wl_X6_flames_4 M post n 0 0 σ
set_option maxHeartbeats 4000000 in
set_option maxRecDepth 20000 in
theorem m_X6_flames {Γ : Gm} {ad : Nat → Nat} {M : Nat} (l : Launch) (hM : 53 ≤ M) {post : Int32 → St → Prop}  (σ : St) (h : w_X6_flames M post  σ) : Ci l Γ YC M ad σ yX6_flames cX6_flames 3 (Option.some Jvm.ClassFile.FieldType.int) 6 0 0 [.ref (ad 0)] post := by
  refine g_start (by decide) (Nat.le_of_ble_eq_true rfl) ?_
  intro p e s m args below meth c ls hc hr hn hl hw
  have hc : CX Γ p s m args meth c cX6_flames RX6 3 := hc
  have hl : lv_has ls 3 [(0, .ref (ad 0))] := hl
  have hx := hc.1
  have hb := hc.2.1
  unfold w_X6_flames at h
  generalize hHH : s.heap = H0 at hw ⊢
  refine lv_iconst (v := 0) hx hb dX6_flames_0 (by decide) ?_
  refine lv_istore_n (lv' := [(1, .int 0), (0, .ref (ad 0))]) hx hb dX6_flames_1 rfl hl (by decide) rfl (fun ls hl => ?_)
  refine lv_iconst (v := 0) hx hb dX6_flames_2 (by decide) ?_
  refine lv_istore_n (lv' := [(2, .int 0), (1, .int 0), (0, .ref (ad 0))]) hx hb dX6_flames_3 rfl hl (by decide) rfl (fun ls hl => ?_)
  obtain ⟨n, h⟩ := h
  exact bl_X6_flames_4 hM hc hr n 0 0 σ _ _ _ h  hw (lv_sub hl [2, 1, 0] rfl)
def w_X6_sours_4 (M : Nat) (post : Int32 → St → Prop) (k_4 : Int32 → Int32 → St → Prop) (v1 : Int32) (v2 : Int32) (σ : St) : Prop :=
  (9 < v2 → (post v1 σ)) ∧ (¬ (9 < v2) → (w_X6_holdsWith M (fun r3 σ2 => ((r3 = 0 → (∀ x5 : Int32, x5 = v2 + 1 → (k_4 v1 x5 σ2))) ∧ (¬ (r3 = 0) → (∀ x6 : Int32, x6 = v2 + 1 → (k_4 (v1 ||| (1 <<< (v2 &&& 31))) x6 σ2))))) (gi σ 4 0) (gi σ 4 1) v2 σ))
set_option maxHeartbeats 4000000 in
set_option maxRecDepth 20000 in
theorem b_X6_sours_4 {Γ : Gm} {ad : Nat → Nat} {p : Program} {l : Launch} {e : Env} {s : State} {m : MethodId} {args : Array Value} {below : List Frame} {meth : Method} {c : Code} {M : Nat} (hM : 53 ≤ M) {post : Int32 → St → Prop} {k_4 : Int32 → Int32 → St → Prop} (hk_4 : ∀ (v1 : Int32) (v2 : Int32) (σ : St) (H : Heap) (locs : List Loc) (ls : Array Slot), k_4 v1 v2 σ → WH Γ YC M ad σ s H locs → lv_has ls 3 [(0, .ref (ad 0)), (1, .int v1), (2, .int v2)] → W p l e (rmL 6 0 0) s m args below meth c H locs 0 0 (MQ below (va_Qi post (fun u t => WC Γ YC M ad u t) (AA Γ)) args s 0 0 (AA Γ)) (F0 m 4 ls []))
    (v1 : Int32) (v2 : Int32) (σ : St) (H : Heap) (locs : List Loc) (ls : Array Slot) (h : w_X6_sours_4 M post k_4 v1 v2 σ) (hc : CX Γ p s m args meth c cX6_sours RX6 3) (hr : meth.sig.returnType = (Option.some Jvm.ClassFile.FieldType.int)) (hw : WH Γ YC M ad σ s H locs) (hl : lv_has ls 3 [(0, .ref (ad 0)), (1, .int v1), (2, .int v2)]) :
    W p l e (rmL 6 0 0) s m args below meth c H locs 0 0 (MQ below (va_Qi post (fun u t => WC Γ YC M ad u t) (AA Γ)) args s 0 0 (AA Γ)) (F0 m 4 ls []) := by
  have hx := hc.1
  have hb := hc.2.1
  unfold w_X6_sours_4 at h
  refine lv_iload_n hx hb dX6_sours_4 rfl (lv_at hl 2 rfl) ?_
  refine g_gets hc hw q_551 dX6_sours_5 ?_
  refine lv_iconst (v := 2) hx hb dX6_sours_8 (by decide) ?_
  refine g_taldK (k := 2) (v := 9) hc hw (vp_in_lit (by decide)) (by decide) rfl dX6_sours_9 ?_
  refine lv_icmp_gt (tgt := 45) hx hb dX6_sours_10 (by decide) (fun c1 => ?_) (fun c1 => ?_)
  · replace h := h.1 c1
    refine lv_iload_n hx hb dX6_sours_45 rfl (lv_at hl 1 rfl) ?_
    exact g_iret hc hr hw h dX6_sours_46
  · replace h := h.2 c1
    refine lv_aload_n hx hb dX6_sours_13 rfl (lv_at hl 0 rfl) ?_
    refine lv_aload_n hx hb dX6_sours_14 rfl (lv_at hl 0 rfl) ?_
    refine fg_X6_27 hc hw (Nat.lt_of_lt_of_le (by decide) hM) rfl dX6_sours_15 ?_
    refine lv_iconst (v := 0) hx hb dX6_sours_18 (by decide) ?_
    refine g_ialdK (Y := YC) (kd := 21) (n := 3) (k := 0) (o := 4) (by decide) (by decide) rfl hc hw (Nat.lt_of_lt_of_le (by decide) hM) rfl rfl (vp_in_lit (by decide)) (by decide) dX6_sours_19 ?_
    refine lv_aload_n hx hb dX6_sours_20 rfl (lv_at hl 0 rfl) ?_
    refine fg_X6_27 hc hw (Nat.lt_of_lt_of_le (by decide) hM) rfl dX6_sours_21 ?_
    refine lv_iconst (v := 1) hx hb dX6_sours_24 (by decide) ?_
    refine g_ialdK (Y := YC) (kd := 21) (n := 3) (k := 1) (o := 4) (by decide) (by decide) rfl hc hw (Nat.lt_of_lt_of_le (by decide) hM) rfl rfl (vp_in_lit (by decide)) (by decide) dX6_sours_25 ?_
    refine lv_iload_n hx hb dX6_sours_26 rfl (lv_at hl 2 rfl) ?_
    refine g_Vi (Y := YC) (ci := 6) (n := 3) (k := 5) (As := [.int (gi σ 4 0), .int (gi σ 4 1), .int v2]) (rest := []) rfl (by decide) vw_X6_191 ⟨Nat.le_of_ble_eq_true rfl, Nat.le_of_ble_eq_true rfl, Nat.zero_le _, Nat.zero_le _⟩ hc hw hl.1 (Nat.lt_of_lt_of_le (by decide) hM) rfl (m_X6_holdsWith l hM (gi σ 4 0) (gi σ 4 1) v2 σ h) rfl rfl (Nat.le_of_ble_eq_true rfl) dX6_sours_27 (fun r3 σ2 H locs h hw => ?_)
    refine lv_if_eq (tgt := 39) hx hb dX6_sours_30 (by decide) (fun c4 => ?_) (fun c4 => ?_)
    · replace h := h.1 c4
      obtain ⟨x5, ex5⟩ : ∃ z, z = v2 + 1 := ⟨_, rfl⟩
      replace h := h x5 ex5
      refine lv_iinc (v := x5) (lv' := [(2, .int x5), (0, .ref (ad 0)), (1, .int v1)]) hx hb dX6_sours_39 hl (k := 2) rfl (by rw [ex5]; rfl) (by decide) rfl (fun ls hl => ?_)
      refine lv_goto (tgt := 4) hx hb dX6_sours_42 (by decide) ?_
      exact hk_4 v1 x5 σ2 _ _ _ h  hw (lv_sub hl [1, 2, 0] rfl)
    · replace h := h.2 c4
      refine lv_iload_n hx hb dX6_sours_33 rfl (lv_at hl 1 rfl) ?_
      refine lv_iconst (v := 1) hx hb dX6_sours_34 (by decide) ?_
      refine lv_iload_n hx hb dX6_sours_35 rfl (lv_at hl 2 rfl) ?_
      refine lv_ishl hx hb dX6_sours_36 ?_
      refine lv_ior hx hb dX6_sours_37 ?_
      refine lv_istore_n (lv' := [(1, .int (v1 ||| (1 <<< (v2 &&& 31)))), (0, .ref (ad 0)), (2, .int v2)]) hx hb dX6_sours_38 rfl hl (by decide) rfl (fun ls hl => ?_)
      obtain ⟨x6, ex6⟩ : ∃ z, z = v2 + 1 := ⟨_, rfl⟩
      replace h := h x6 ex6
      refine lv_iinc (v := x6) (lv' := [(2, .int x6), (1, .int (v1 ||| (1 <<< (v2 &&& 31)))), (0, .ref (ad 0))]) hx hb dX6_sours_39 hl (k := 2) rfl (by rw [ex6]; rfl) (by decide) rfl (fun ls hl => ?_)
      refine lv_goto (tgt := 4) hx hb dX6_sours_42 (by decide) ?_
      exact hk_4 (v1 ||| (1 <<< (v2 &&& 31))) x6 σ2 _ _ _ h  hw (lv_sub hl [2, 1, 0] rfl)
def wl_X6_sours_4 (M : Nat) (post : Int32 → St → Prop) : Nat → Int32 → Int32 → St → Prop
  | 0, _, _, _ => False
  | n + 1, v1, v2, σ => w_X6_sours_4 M post (wl_X6_sours_4 M post n) v1 v2 σ
set_option maxHeartbeats 4000000 in
theorem bl_X6_sours_4 {Γ : Gm} {ad : Nat → Nat} {p : Program} {l : Launch} {e : Env} {s : State} {m : MethodId} {args : Array Value} {below : List Frame} {meth : Method} {c : Code} {M : Nat} (hM : 53 ≤ M) {post : Int32 → St → Prop}
    (hc : CX Γ p s m args meth c cX6_sours RX6 3) (hr : meth.sig.returnType = (Option.some Jvm.ClassFile.FieldType.int)) :
    ∀ (n : Nat) (v1 : Int32) (v2 : Int32) (σ : St) (H : Heap) (locs : List Loc) (ls : Array Slot), wl_X6_sours_4 M post n v1 v2 σ → WH Γ YC M ad σ s H locs → lv_has ls 3 [(0, .ref (ad 0)), (1, .int v1), (2, .int v2)] → W p l e (rmL 6 0 0) s m args below meth c H locs 0 0 (MQ below (va_Qi post (fun u t => WC Γ YC M ad u t) (AA Γ)) args s 0 0 (AA Γ)) (F0 m 4 ls []) := by
  intro n
  induction n with
  | zero => intro v1 v2 σ H locs ls h; exact h.elim
  | succ n ih =>
    intro v1 v2 σ H locs ls h  hw hl
    exact b_X6_sours_4 hM ih v1 v2 σ H locs ls h  hc hr hw hl
def w_X6_sours (M : Nat) (post : Int32 → St → Prop)  (σ : St) : Prop :=
  ∃ n, wl_X6_sours_4 M post n 0 0 σ
set_option maxHeartbeats 4000000 in
set_option maxRecDepth 20000 in
theorem m_X6_sours {Γ : Gm} {ad : Nat → Nat} {M : Nat} (l : Launch) (hM : 53 ≤ M) {post : Int32 → St → Prop}  (σ : St) (h : w_X6_sours M post  σ) : Ci l Γ YC M ad σ yX6_sours cX6_sours 3 (Option.some Jvm.ClassFile.FieldType.int) 6 0 0 [.ref (ad 0)] post := by
  refine g_start (by decide) (Nat.le_of_ble_eq_true rfl) ?_
  intro p e s m args below meth c ls hc hr hn hl hw
  have hc : CX Γ p s m args meth c cX6_sours RX6 3 := hc
  have hl : lv_has ls 3 [(0, .ref (ad 0))] := hl
  have hx := hc.1
  have hb := hc.2.1
  unfold w_X6_sours at h
  generalize hHH : s.heap = H0 at hw ⊢
  refine lv_iconst (v := 0) hx hb dX6_sours_0 (by decide) ?_
  refine lv_istore_n (lv' := [(1, .int 0), (0, .ref (ad 0))]) hx hb dX6_sours_1 rfl hl (by decide) rfl (fun ls hl => ?_)
  refine lv_iconst (v := 0) hx hb dX6_sours_2 (by decide) ?_
  refine lv_istore_n (lv' := [(2, .int 0), (1, .int 0), (0, .ref (ad 0))]) hx hb dX6_sours_3 rfl hl (by decide) rfl (fun ls hl => ?_)
  obtain ⟨n, h⟩ := h
  exact bl_X6_sours_4 hM hc hr n 0 0 σ _ _ _ h  hw (lv_sub hl [2, 1, 0] rfl)
def w_X6_region_15 (M : Nat) (post : Int32 → St → Prop) (k_4 : Int32 → Int32 → St → Prop) (k_15 : Int32 → Int32 → Int32 → St → Prop) (v1 : Int32) (v2 : Int32) (v3 : Int32) (σ : St) : Prop :=
  (9 < v3 → (∀ x2 : Int32, x2 = v2 + 1 → (k_4 v1 x2 σ))) ∧ (¬ (9 < v3) → (w_X6_holdsWith M (fun r4 σ3 => ((r4 = 0 → (∀ x6 : Int32, x6 = v3 + 1 → (k_15 v1 v2 x6 σ3))) ∧ (¬ (r4 = 0) → (∀ x7 : Int32, x7 = v1 + 1 → (∀ x8 : Int32, x8 = v3 + 1 → (k_15 x7 v2 x8 σ3)))))) v2 (gi σ 4 1) v3 σ))
set_option maxHeartbeats 4000000 in
set_option maxRecDepth 20000 in
theorem b_X6_region_15 {Γ : Gm} {ad : Nat → Nat} {p : Program} {l : Launch} {e : Env} {s : State} {m : MethodId} {args : Array Value} {below : List Frame} {meth : Method} {c : Code} {M : Nat} (hM : 53 ≤ M) {post : Int32 → St → Prop} {k_4 : Int32 → Int32 → St → Prop} {k_15 : Int32 → Int32 → Int32 → St → Prop} (hk_4 : ∀ (v1 : Int32) (v2 : Int32) (σ : St) (H : Heap) (locs : List Loc) (ls : Array Slot), k_4 v1 v2 σ → WH Γ YC M ad σ s H locs → lv_has ls 4 [(0, .ref (ad 0)), (1, .int v1), (2, .int v2)] → W p l e (rmL 6 0 0) s m args below meth c H locs 0 0 (MQ below (va_Qi post (fun u t => WC Γ YC M ad u t) (AA Γ)) args s 0 0 (AA Γ)) (F0 m 4 ls [])) (hk_15 : ∀ (v1 : Int32) (v2 : Int32) (v3 : Int32) (σ : St) (H : Heap) (locs : List Loc) (ls : Array Slot), k_15 v1 v2 v3 σ → WH Γ YC M ad σ s H locs → lv_has ls 4 [(0, .ref (ad 0)), (1, .int v1), (2, .int v2), (3, .int v3)] → W p l e (rmL 6 0 0) s m args below meth c H locs 0 0 (MQ below (va_Qi post (fun u t => WC Γ YC M ad u t) (AA Γ)) args s 0 0 (AA Γ)) (F0 m 15 ls []))
    (v1 : Int32) (v2 : Int32) (v3 : Int32) (σ : St) (H : Heap) (locs : List Loc) (ls : Array Slot) (h : w_X6_region_15 M post k_4 k_15 v1 v2 v3 σ) (hc : CX Γ p s m args meth c cX6_region RX6 4) (hr : meth.sig.returnType = (Option.some Jvm.ClassFile.FieldType.int)) (hw : WH Γ YC M ad σ s H locs) (hl : lv_has ls 4 [(0, .ref (ad 0)), (1, .int v1), (2, .int v2), (3, .int v3)]) :
    W p l e (rmL 6 0 0) s m args below meth c H locs 0 0 (MQ below (va_Qi post (fun u t => WC Γ YC M ad u t) (AA Γ)) args s 0 0 (AA Γ)) (F0 m 15 ls []) := by
  have hx := hc.1
  have hb := hc.2.1
  unfold w_X6_region_15 at h
  refine lv_iload_n hx hb dX6_region_15 rfl (lv_at hl 3 rfl) ?_
  refine g_gets hc hw q_551 dX6_region_16 ?_
  refine lv_iconst (v := 2) hx hb dX6_region_19 (by decide) ?_
  refine g_taldK (k := 2) (v := 9) hc hw (vp_in_lit (by decide)) (by decide) rfl dX6_region_20 ?_
  refine lv_icmp_gt (tgt := 48) hx hb dX6_region_21 (by decide) (fun c1 => ?_) (fun c1 => ?_)
  · replace h := h.1 c1
    obtain ⟨x2, ex2⟩ : ∃ z, z = v2 + 1 := ⟨_, rfl⟩
    replace h := h x2 ex2
    refine lv_iinc (v := x2) (lv' := [(2, .int x2), (0, .ref (ad 0)), (1, .int v1), (3, .int v3)]) hx hb dX6_region_48 hl (k := 2) rfl (by rw [ex2]; rfl) (by decide) rfl (fun ls hl => ?_)
    refine lv_goto (tgt := 4) hx hb dX6_region_51 (by decide) ?_
    exact hk_4 v1 x2 σ _ _ _ h  hw (lv_sub hl [1, 2, 0] rfl)
  · replace h := h.2 c1
    refine lv_aload_n hx hb dX6_region_24 rfl (lv_at hl 0 rfl) ?_
    refine lv_iload_n hx hb dX6_region_25 rfl (lv_at hl 2 rfl) ?_
    refine lv_aload_n hx hb dX6_region_26 rfl (lv_at hl 0 rfl) ?_
    refine fg_X6_27 hc hw (Nat.lt_of_lt_of_le (by decide) hM) rfl dX6_region_27 ?_
    refine lv_iconst (v := 1) hx hb dX6_region_30 (by decide) ?_
    refine g_ialdK (Y := YC) (kd := 21) (n := 3) (k := 1) (o := 4) (by decide) (by decide) rfl hc hw (Nat.lt_of_lt_of_le (by decide) hM) rfl rfl (vp_in_lit (by decide)) (by decide) dX6_region_31 ?_
    refine lv_iload_n hx hb dX6_region_32 rfl (lv_at hl 3 rfl) ?_
    refine g_Vi (Y := YC) (ci := 6) (n := 3) (k := 5) (As := [.int v2, .int (gi σ 4 1), .int v3]) (rest := []) rfl (by decide) vw_X6_191 ⟨Nat.le_of_ble_eq_true rfl, Nat.le_of_ble_eq_true rfl, Nat.zero_le _, Nat.zero_le _⟩ hc hw hl.1 (Nat.lt_of_lt_of_le (by decide) hM) rfl (m_X6_holdsWith l hM v2 (gi σ 4 1) v3 σ h) rfl rfl (Nat.le_of_ble_eq_true rfl) dX6_region_33 (fun r4 σ3 H locs h hw => ?_)
    refine lv_if_eq (tgt := 42) hx hb dX6_region_36 (by decide) (fun c5 => ?_) (fun c5 => ?_)
    · replace h := h.1 c5
      obtain ⟨x6, ex6⟩ : ∃ z, z = v3 + 1 := ⟨_, rfl⟩
      replace h := h x6 ex6
      refine lv_iinc (v := x6) (lv' := [(3, .int x6), (0, .ref (ad 0)), (1, .int v1), (2, .int v2)]) hx hb dX6_region_42 hl (k := 3) rfl (by rw [ex6]; rfl) (by decide) rfl (fun ls hl => ?_)
      refine lv_goto (tgt := 15) hx hb dX6_region_45 (by decide) ?_
      exact hk_15 v1 v2 x6 σ3 _ _ _ h  hw (lv_sub hl [1, 2, 3, 0] rfl)
    · replace h := h.2 c5
      obtain ⟨x7, ex7⟩ : ∃ z, z = v1 + 1 := ⟨_, rfl⟩
      replace h := h x7 ex7
      refine lv_iinc (v := x7) (lv' := [(1, .int x7), (0, .ref (ad 0)), (2, .int v2), (3, .int v3)]) hx hb dX6_region_39 hl (k := 1) rfl (by rw [ex7]; rfl) (by decide) rfl (fun ls hl => ?_)
      obtain ⟨x8, ex8⟩ : ∃ z, z = v3 + 1 := ⟨_, rfl⟩
      replace h := h x8 ex8
      refine lv_iinc (v := x8) (lv' := [(3, .int x8), (1, .int x7), (0, .ref (ad 0)), (2, .int v2)]) hx hb dX6_region_42 hl (k := 3) rfl (by rw [ex8]; rfl) (by decide) rfl (fun ls hl => ?_)
      refine lv_goto (tgt := 15) hx hb dX6_region_45 (by decide) ?_
      exact hk_15 x7 v2 x8 σ3 _ _ _ h  hw (lv_sub hl [2, 1, 3, 0] rfl)
def wl_X6_region_15 (M : Nat) (post : Int32 → St → Prop) (k_4 : Int32 → Int32 → St → Prop) : Nat → Int32 → Int32 → Int32 → St → Prop
  | 0, _, _, _, _ => False
  | n + 1, v1, v2, v3, σ => w_X6_region_15 M post k_4 (wl_X6_region_15 M post k_4 n) v1 v2 v3 σ
set_option maxHeartbeats 4000000 in
theorem bl_X6_region_15 {Γ : Gm} {ad : Nat → Nat} {p : Program} {l : Launch} {e : Env} {s : State} {m : MethodId} {args : Array Value} {below : List Frame} {meth : Method} {c : Code} {M : Nat} (hM : 53 ≤ M) {post : Int32 → St → Prop} {k_4 : Int32 → Int32 → St → Prop} (hk_4 : ∀ (v1 : Int32) (v2 : Int32) (σ : St) (H : Heap) (locs : List Loc) (ls : Array Slot), k_4 v1 v2 σ → WH Γ YC M ad σ s H locs → lv_has ls 4 [(0, .ref (ad 0)), (1, .int v1), (2, .int v2)] → W p l e (rmL 6 0 0) s m args below meth c H locs 0 0 (MQ below (va_Qi post (fun u t => WC Γ YC M ad u t) (AA Γ)) args s 0 0 (AA Γ)) (F0 m 4 ls []))
    (hc : CX Γ p s m args meth c cX6_region RX6 4) (hr : meth.sig.returnType = (Option.some Jvm.ClassFile.FieldType.int)) :
    ∀ (n : Nat) (v1 : Int32) (v2 : Int32) (v3 : Int32) (σ : St) (H : Heap) (locs : List Loc) (ls : Array Slot), wl_X6_region_15 M post k_4 n v1 v2 v3 σ → WH Γ YC M ad σ s H locs → lv_has ls 4 [(0, .ref (ad 0)), (1, .int v1), (2, .int v2), (3, .int v3)] → W p l e (rmL 6 0 0) s m args below meth c H locs 0 0 (MQ below (va_Qi post (fun u t => WC Γ YC M ad u t) (AA Γ)) args s 0 0 (AA Γ)) (F0 m 15 ls []) := by
  intro n
  induction n with
  | zero => intro v1 v2 v3 σ H locs ls h; exact h.elim
  | succ n ih =>
    intro v1 v2 v3 σ H locs ls h  hw hl
    exact b_X6_region_15 hM hk_4 ih v1 v2 v3 σ H locs ls h  hc hr hw hl
def w_X6_region_4 (M : Nat) (post : Int32 → St → Prop) (k_4 : Int32 → Int32 → St → Prop) (v1 : Int32) (v2 : Int32) (σ : St) : Prop :=
  (9 < v2 → (post v1 σ)) ∧ (¬ (9 < v2) → (∃ n, wl_X6_region_15 M post k_4 n v1 v2 0 σ))
set_option maxHeartbeats 4000000 in
set_option maxRecDepth 20000 in
theorem b_X6_region_4 {Γ : Gm} {ad : Nat → Nat} {p : Program} {l : Launch} {e : Env} {s : State} {m : MethodId} {args : Array Value} {below : List Frame} {meth : Method} {c : Code} {M : Nat} (hM : 53 ≤ M) {post : Int32 → St → Prop} {k_4 : Int32 → Int32 → St → Prop} (hk_4 : ∀ (v1 : Int32) (v2 : Int32) (σ : St) (H : Heap) (locs : List Loc) (ls : Array Slot), k_4 v1 v2 σ → WH Γ YC M ad σ s H locs → lv_has ls 4 [(0, .ref (ad 0)), (1, .int v1), (2, .int v2)] → W p l e (rmL 6 0 0) s m args below meth c H locs 0 0 (MQ below (va_Qi post (fun u t => WC Γ YC M ad u t) (AA Γ)) args s 0 0 (AA Γ)) (F0 m 4 ls []))
    (v1 : Int32) (v2 : Int32) (σ : St) (H : Heap) (locs : List Loc) (ls : Array Slot) (h : w_X6_region_4 M post k_4 v1 v2 σ) (hc : CX Γ p s m args meth c cX6_region RX6 4) (hr : meth.sig.returnType = (Option.some Jvm.ClassFile.FieldType.int)) (hw : WH Γ YC M ad σ s H locs) (hl : lv_has ls 4 [(0, .ref (ad 0)), (1, .int v1), (2, .int v2)]) :
    W p l e (rmL 6 0 0) s m args below meth c H locs 0 0 (MQ below (va_Qi post (fun u t => WC Γ YC M ad u t) (AA Γ)) args s 0 0 (AA Γ)) (F0 m 4 ls []) := by
  have hx := hc.1
  have hb := hc.2.1
  unfold w_X6_region_4 at h
  refine lv_iload_n hx hb dX6_region_4 rfl (lv_at hl 2 rfl) ?_
  refine g_gets hc hw q_551 dX6_region_5 ?_
  refine lv_iconst (v := 0) hx hb dX6_region_8 (by decide) ?_
  refine g_taldK (k := 0) (v := 9) hc hw (vp_in_lit (by decide)) (by decide) rfl dX6_region_9 ?_
  refine lv_icmp_gt (tgt := 54) hx hb dX6_region_10 (by decide) (fun c1 => ?_) (fun c1 => ?_)
  · replace h := h.1 c1
    refine lv_iload_n hx hb dX6_region_54 rfl (lv_at hl 1 rfl) ?_
    exact g_iret hc hr hw h dX6_region_55
  · replace h := h.2 c1
    refine lv_iconst (v := 0) hx hb dX6_region_13 (by decide) ?_
    refine lv_istore_n (lv' := [(3, .int 0), (0, .ref (ad 0)), (1, .int v1), (2, .int v2)]) hx hb dX6_region_14 rfl hl (by decide) rfl (fun ls hl => ?_)
    obtain ⟨n, h⟩ := h
    exact bl_X6_region_15 hM hk_4 hc hr n v1 v2 0 σ _ _ _ h  hw (lv_sub hl [1, 2, 3, 0] rfl)
def wl_X6_region_4 (M : Nat) (post : Int32 → St → Prop) : Nat → Int32 → Int32 → St → Prop
  | 0, _, _, _ => False
  | n + 1, v1, v2, σ => w_X6_region_4 M post (wl_X6_region_4 M post n) v1 v2 σ
set_option maxHeartbeats 4000000 in
theorem bl_X6_region_4 {Γ : Gm} {ad : Nat → Nat} {p : Program} {l : Launch} {e : Env} {s : State} {m : MethodId} {args : Array Value} {below : List Frame} {meth : Method} {c : Code} {M : Nat} (hM : 53 ≤ M) {post : Int32 → St → Prop}
    (hc : CX Γ p s m args meth c cX6_region RX6 4) (hr : meth.sig.returnType = (Option.some Jvm.ClassFile.FieldType.int)) :
    ∀ (n : Nat) (v1 : Int32) (v2 : Int32) (σ : St) (H : Heap) (locs : List Loc) (ls : Array Slot), wl_X6_region_4 M post n v1 v2 σ → WH Γ YC M ad σ s H locs → lv_has ls 4 [(0, .ref (ad 0)), (1, .int v1), (2, .int v2)] → W p l e (rmL 6 0 0) s m args below meth c H locs 0 0 (MQ below (va_Qi post (fun u t => WC Γ YC M ad u t) (AA Γ)) args s 0 0 (AA Γ)) (F0 m 4 ls []) := by
  intro n
  induction n with
  | zero => intro v1 v2 σ H locs ls h; exact h.elim
  | succ n ih =>
    intro v1 v2 σ H locs ls h  hw hl
    exact b_X6_region_4 hM ih v1 v2 σ H locs ls h  hc hr hw hl
def w_X6_region (M : Nat) (post : Int32 → St → Prop)  (σ : St) : Prop :=
  ∃ n, wl_X6_region_4 M post n 0 0 σ
set_option maxHeartbeats 4000000 in
set_option maxRecDepth 20000 in
theorem m_X6_region {Γ : Gm} {ad : Nat → Nat} {M : Nat} (l : Launch) (hM : 53 ≤ M) {post : Int32 → St → Prop}  (σ : St) (h : w_X6_region M post  σ) : Ci l Γ YC M ad σ yX6_region cX6_region 4 (Option.some Jvm.ClassFile.FieldType.int) 6 0 0 [.ref (ad 0)] post := by
  refine g_start (by decide) (Nat.le_of_ble_eq_true rfl) ?_
  intro p e s m args below meth c ls hc hr hn hl hw
  have hc : CX Γ p s m args meth c cX6_region RX6 4 := hc
  have hl : lv_has ls 4 [(0, .ref (ad 0))] := hl
  have hx := hc.1
  have hb := hc.2.1
  unfold w_X6_region at h
  generalize hHH : s.heap = H0 at hw ⊢
  refine lv_iconst (v := 0) hx hb dX6_region_0 (by decide) ?_
  refine lv_istore_n (lv' := [(1, .int 0), (0, .ref (ad 0))]) hx hb dX6_region_1 rfl hl (by decide) rfl (fun ls hl => ?_)
  refine lv_iconst (v := 0) hx hb dX6_region_2 (by decide) ?_
  refine lv_istore_n (lv' := [(2, .int 0), (1, .int 0), (0, .ref (ad 0))]) hx hb dX6_region_3 rfl hl (by decide) rfl (fun ls hl => ?_)
  obtain ⟨n, h⟩ := h
  exact bl_X6_region_4 hM hc hr n 0 0 σ _ _ _ h  hw (lv_sub hl [2, 1, 0] rfl)
def w_X6_most_9 (M : Nat) (post : Int32 → St → Prop) (k_9 : Int32 → Int32 → St → Prop) (v1 : Int32) (v2 : Int32) (σ : St) : Prop :=
  (99 < v2 → (post v1 σ)) ∧ (¬ (99 < v2) → (w_X6_holdsWith M (fun r3 σ2 => ((r3 = 0 → (post v1 σ2)) ∧ (¬ (r3 = 0) → (∀ x5 : Int32, x5 = v2 + 1 → (k_9 v2 x5 σ2))))) (gi σ 4 0) v2 (gi σ 4 2) σ))
set_option maxHeartbeats 4000000 in
set_option maxRecDepth 20000 in
theorem b_X6_most_9 {Γ : Gm} {ad : Nat → Nat} {p : Program} {l : Launch} {e : Env} {s : State} {m : MethodId} {args : Array Value} {below : List Frame} {meth : Method} {c : Code} {M : Nat} (hM : 53 ≤ M) {post : Int32 → St → Prop} {k_9 : Int32 → Int32 → St → Prop} (hk_9 : ∀ (v1 : Int32) (v2 : Int32) (σ : St) (H : Heap) (locs : List Loc) (ls : Array Slot), k_9 v1 v2 σ → WH Γ YC M ad σ s H locs → lv_has ls 3 [(0, .ref (ad 0)), (1, .int v1), (2, .int v2)] → W p l e (rmL 6 0 0) s m args below meth c H locs 0 0 (MQ below (va_Qi post (fun u t => WC Γ YC M ad u t) (AA Γ)) args s 0 0 (AA Γ)) (F0 m 9 ls []))
    (v1 : Int32) (v2 : Int32) (σ : St) (H : Heap) (locs : List Loc) (ls : Array Slot) (h : w_X6_most_9 M post k_9 v1 v2 σ) (hc : CX Γ p s m args meth c cX6_most RX6 3) (hr : meth.sig.returnType = (Option.some Jvm.ClassFile.FieldType.int)) (hw : WH Γ YC M ad σ s H locs) (hl : lv_has ls 3 [(0, .ref (ad 0)), (1, .int v1), (2, .int v2)]) :
    W p l e (rmL 6 0 0) s m args below meth c H locs 0 0 (MQ below (va_Qi post (fun u t => WC Γ YC M ad u t) (AA Γ)) args s 0 0 (AA Γ)) (F0 m 9 ls []) := by
  have hx := hc.1
  have hb := hc.2.1
  unfold w_X6_most_9 at h
  refine lv_iload_n hx hb dX6_most_9 rfl (lv_at hl 2 rfl) ?_
  refine g_gets hc hw q_551 dX6_most_10 ?_
  refine lv_iconst (v := 1) hx hb dX6_most_13 (by decide) ?_
  refine g_taldK (k := 1) (v := 99) hc hw (vp_in_lit (by decide)) (by decide) rfl dX6_most_14 ?_
  refine lv_icmp_gt (tgt := 48) hx hb dX6_most_15 (by decide) (fun c1 => ?_) (fun c1 => ?_)
  · replace h := h.1 c1
    refine lv_iload_n hx hb dX6_most_48 rfl (lv_at hl 1 rfl) ?_
    exact g_iret hc hr hw h dX6_most_49
  · replace h := h.2 c1
    refine lv_aload_n hx hb dX6_most_18 rfl (lv_at hl 0 rfl) ?_
    refine lv_aload_n hx hb dX6_most_19 rfl (lv_at hl 0 rfl) ?_
    refine fg_X6_27 hc hw (Nat.lt_of_lt_of_le (by decide) hM) rfl dX6_most_20 ?_
    refine lv_iconst (v := 0) hx hb dX6_most_23 (by decide) ?_
    refine g_ialdK (Y := YC) (kd := 21) (n := 3) (k := 0) (o := 4) (by decide) (by decide) rfl hc hw (Nat.lt_of_lt_of_le (by decide) hM) rfl rfl (vp_in_lit (by decide)) (by decide) dX6_most_24 ?_
    refine lv_iload_n hx hb dX6_most_25 rfl (lv_at hl 2 rfl) ?_
    refine lv_aload_n hx hb dX6_most_26 rfl (lv_at hl 0 rfl) ?_
    refine fg_X6_27 hc hw (Nat.lt_of_lt_of_le (by decide) hM) rfl dX6_most_27 ?_
    refine lv_iconst (v := 2) hx hb dX6_most_30 (by decide) ?_
    refine g_ialdK (Y := YC) (kd := 21) (n := 3) (k := 2) (o := 4) (by decide) (by decide) rfl hc hw (Nat.lt_of_lt_of_le (by decide) hM) rfl rfl (vp_in_lit (by decide)) (by decide) dX6_most_31 ?_
    refine g_Vi (Y := YC) (ci := 6) (n := 3) (k := 5) (As := [.int (gi σ 4 0), .int v2, .int (gi σ 4 2)]) (rest := []) rfl (by decide) vw_X6_191 ⟨Nat.le_of_ble_eq_true rfl, Nat.le_of_ble_eq_true rfl, Nat.zero_le _, Nat.zero_le _⟩ hc hw hl.1 (Nat.lt_of_lt_of_le (by decide) hM) rfl (m_X6_holdsWith l hM (gi σ 4 0) v2 (gi σ 4 2) σ h) rfl rfl (Nat.le_of_ble_eq_true rfl) dX6_most_32 (fun r3 σ2 H locs h hw => ?_)
    refine lv_if_ne (tgt := 40) hx hb dX6_most_35 (by decide) (fun c4 => ?_) (fun c4 => ?_)
    · replace h := h.2 c4
      refine lv_iload_n hx hb dX6_most_40 rfl (lv_at hl 2 rfl) ?_
      refine lv_istore_n (lv' := [(1, .int v2), (0, .ref (ad 0)), (2, .int v2)]) hx hb dX6_most_41 rfl hl (by decide) rfl (fun ls hl => ?_)
      obtain ⟨x5, ex5⟩ : ∃ z, z = v2 + 1 := ⟨_, rfl⟩
      replace h := h x5 ex5
      refine lv_iinc (v := x5) (lv' := [(2, .int x5), (1, .int v2), (0, .ref (ad 0))]) hx hb dX6_most_42 hl (k := 2) rfl (by rw [ex5]; rfl) (by decide) rfl (fun ls hl => ?_)
      refine lv_goto (tgt := 9) hx hb dX6_most_45 (by decide) ?_
      exact hk_9 v2 x5 σ2 _ _ _ h  hw (lv_sub hl [2, 1, 0] rfl)
    · replace h := h.1 c4
      refine lv_iload_n hx hb dX6_most_38 rfl (lv_at hl 1 rfl) ?_
      exact g_iret hc hr hw h dX6_most_39
def wl_X6_most_9 (M : Nat) (post : Int32 → St → Prop) : Nat → Int32 → Int32 → St → Prop
  | 0, _, _, _ => False
  | n + 1, v1, v2, σ => w_X6_most_9 M post (wl_X6_most_9 M post n) v1 v2 σ
set_option maxHeartbeats 4000000 in
theorem bl_X6_most_9 {Γ : Gm} {ad : Nat → Nat} {p : Program} {l : Launch} {e : Env} {s : State} {m : MethodId} {args : Array Value} {below : List Frame} {meth : Method} {c : Code} {M : Nat} (hM : 53 ≤ M) {post : Int32 → St → Prop}
    (hc : CX Γ p s m args meth c cX6_most RX6 3) (hr : meth.sig.returnType = (Option.some Jvm.ClassFile.FieldType.int)) :
    ∀ (n : Nat) (v1 : Int32) (v2 : Int32) (σ : St) (H : Heap) (locs : List Loc) (ls : Array Slot), wl_X6_most_9 M post n v1 v2 σ → WH Γ YC M ad σ s H locs → lv_has ls 3 [(0, .ref (ad 0)), (1, .int v1), (2, .int v2)] → W p l e (rmL 6 0 0) s m args below meth c H locs 0 0 (MQ below (va_Qi post (fun u t => WC Γ YC M ad u t) (AA Γ)) args s 0 0 (AA Γ)) (F0 m 9 ls []) := by
  intro n
  induction n with
  | zero => intro v1 v2 σ H locs ls h; exact h.elim
  | succ n ih =>
    intro v1 v2 σ H locs ls h  hw hl
    exact b_X6_most_9 hM ih v1 v2 σ H locs ls h  hc hr hw hl
def w_X6_most (M : Nat) (post : Int32 → St → Prop)  (σ : St) : Prop :=
  ∃ n, wl_X6_most_9 M post n (-1) (gi σ 4 1) σ
set_option maxHeartbeats 4000000 in
set_option maxRecDepth 20000 in
theorem m_X6_most {Γ : Gm} {ad : Nat → Nat} {M : Nat} (l : Launch) (hM : 53 ≤ M) {post : Int32 → St → Prop}  (σ : St) (h : w_X6_most M post  σ) : Ci l Γ YC M ad σ yX6_most cX6_most 3 (Option.some Jvm.ClassFile.FieldType.int) 6 0 0 [.ref (ad 0)] post := by
  refine g_start (by decide) (Nat.le_of_ble_eq_true rfl) ?_
  intro p e s m args below meth c ls hc hr hn hl hw
  have hc : CX Γ p s m args meth c cX6_most RX6 3 := hc
  have hl : lv_has ls 3 [(0, .ref (ad 0))] := hl
  have hx := hc.1
  have hb := hc.2.1
  unfold w_X6_most at h
  generalize hHH : s.heap = H0 at hw ⊢
  refine lv_iconst (v := (-1)) hx hb dX6_most_0 (by decide) ?_
  refine lv_istore_n (lv' := [(1, .int (-1)), (0, .ref (ad 0))]) hx hb dX6_most_1 rfl hl (by decide) rfl (fun ls hl => ?_)
  refine lv_aload_n hx hb dX6_most_2 rfl (lv_at hl 1 rfl) ?_
  refine fg_X6_27 hc hw (Nat.lt_of_lt_of_le (by decide) hM) rfl dX6_most_3 ?_
  refine lv_iconst (v := 1) hx hb dX6_most_6 (by decide) ?_
  refine g_ialdK (Y := YC) (kd := 21) (n := 3) (k := 1) (o := 4) (by decide) (by decide) rfl hc hw (Nat.lt_of_lt_of_le (by decide) hM) rfl rfl (vp_in_lit (by decide)) (by decide) dX6_most_7 ?_
  refine lv_istore_n (lv' := [(2, .int (gi σ 4 1)), (1, .int (-1)), (0, .ref (ad 0))]) hx hb dX6_most_8 rfl hl (by decide) rfl (fun ls hl => ?_)
  obtain ⟨n, h⟩ := h
  exact bl_X6_most_9 hM hc hr n (-1) (gi σ 4 1) σ _ _ _ h  hw (lv_sub hl [2, 1, 0] rfl)
def w_X6_odds_26 (M : Nat) (post : Int64 → St → Prop) (k_26 : Int32 → Int32 → Int32 → Int32 → St → Prop) (v1 : Int32) (v2 : Int32) (v3 : Int32) (v4 : Int32) (σ : St) : Prop :=
  (v1 < v4 → (w_X6_lowestTerm M (fun r3 σ2 => (post r3.toInt64 σ2)) v3 ((2 * v1) + 1) v2 σ)) ∧ (¬ (v1 < v4) → (∀ x4 : Int32, x4 = (if ((gi σ 4 0) + v4) < 9 then ((gi σ 4 0) + v4) else 9) → (∀ x5 : Int32, x5 = (if 0 < x4 then x4 else 0) → (w_X6_holdsWith M (fun r7 σ6 => ((r7 = 0 → (∀ x9 : Int32, x9 = v4 + 1 → (k_26 v1 v2 v3 x9 σ6))) ∧ (¬ (r7 = 0) → (∀ x10 : Int32, x10 = v3 + 1 → (∀ x11 : Int32, x11 = v4 + 1 → (k_26 v1 v2 x10 x11 σ6)))))) x5 (gi σ 4 1) (gi σ 4 2) σ))))
set_option maxHeartbeats 4000000 in
set_option maxRecDepth 20000 in
theorem b_X6_odds_26 {Γ : Gm} {ad : Nat → Nat} {p : Program} {l : Launch} {e : Env} {s : State} {m : MethodId} {args : Array Value} {below : List Frame} {meth : Method} {c : Code} {M : Nat} (hM : 53 ≤ M) {post : Int64 → St → Prop} {k_26 : Int32 → Int32 → Int32 → Int32 → St → Prop} (hk_26 : ∀ (v1 : Int32) (v2 : Int32) (v3 : Int32) (v4 : Int32) (σ : St) (H : Heap) (locs : List Loc) (ls : Array Slot), k_26 v1 v2 v3 v4 σ → WH Γ YC M ad σ s H locs → lv_has ls 6 [(0, .ref (ad 0)), (1, .int v1), (2, .int v2), (3, .int v3), (4, .int v4)] → W p l e (rmL 6 0 0) s m args below meth c H locs 0 0 (MQ below (va_Ql post (fun u t => WC Γ YC M ad u t) (AA Γ)) args s 0 0 (AA Γ)) (F0 m 26 ls []))
    (v1 : Int32) (v2 : Int32) (v3 : Int32) (v4 : Int32) (σ : St) (H : Heap) (locs : List Loc) (ls : Array Slot) (h : w_X6_odds_26 M post k_26 v1 v2 v3 v4 σ) (hc : CX Γ p s m args meth c cX6_odds RX6 6) (hr : meth.sig.returnType = (Option.some Jvm.ClassFile.FieldType.long)) (hw : WH Γ YC M ad σ s H locs) (hl : lv_has ls 6 [(0, .ref (ad 0)), (1, .int v1), (2, .int v2), (3, .int v3), (4, .int v4)]) :
    W p l e (rmL 6 0 0) s m args below meth c H locs 0 0 (MQ below (va_Ql post (fun u t => WC Γ YC M ad u t) (AA Γ)) args s 0 0 (AA Γ)) (F0 m 26 ls []) := by
  have hx := hc.1
  have hb := hc.2.1
  unfold w_X6_odds_26 at h
  refine lv_iload hx hb dX6_odds_26 (lv_at hl 4 rfl) ?_
  refine lv_iload_n hx hb dX6_odds_28 rfl (lv_at hl 1 rfl) ?_
  refine lv_icmp_gt (tgt := 85) hx hb dX6_odds_29 (by decide) (fun c1 => ?_) (fun c1 => ?_)
  · replace h := h.1 c1
    refine lv_iload_n hx hb dX6_odds_85 rfl (lv_at hl 3 rfl) ?_
    refine lv_iconst (v := 2) hx hb dX6_odds_86 (by decide) ?_
    refine lv_iload_n hx hb dX6_odds_87 rfl (lv_at hl 1 rfl) ?_
    refine lv_imul hx hb dX6_odds_88 ?_
    refine lv_iconst (v := 1) hx hb dX6_odds_89 (by decide) ?_
    refine lv_iadd hx hb dX6_odds_90 ?_
    refine lv_iload_n hx hb dX6_odds_91 rfl (lv_at hl 2 rfl) ?_
    refine g_Si (Y := YC) (n := 3) (k := 0) (As := [.int v3, .int ((2 * v1) + 1), .int v2]) (rest := []) vw_X6_205 ⟨Nat.le_of_ble_eq_true rfl, Nat.le_of_ble_eq_true rfl, Nat.zero_le _, Nat.zero_le _⟩ hc hw hl.1 (m_X6_lowestTerm l hM v3 ((2 * v1) + 1) v2 σ h) rfl rfl (Nat.le_of_ble_eq_true rfl) dX6_odds_92 (fun r3 σ2 H locs h hw => ?_)
    refine lv_i2l (v := r3.toInt64) hx hb dX6_odds_95 rfl ?_
    exact g_lret hc hr hw h dX6_odds_96
  · replace h := h.2 c1
    refine lv_iconst (v := 0) hx hb dX6_odds_32 (by decide) ?_
    refine g_gets hc hw q_551 dX6_odds_33 ?_
    refine lv_iconst (v := 0) hx hb dX6_odds_36 (by decide) ?_
    refine g_taldK (k := 0) (v := 9) hc hw (vp_in_lit (by decide)) (by decide) rfl dX6_odds_37 ?_
    refine lv_aload_n hx hb dX6_odds_38 rfl (lv_at hl 0 rfl) ?_
    refine fg_X6_27 hc hw (Nat.lt_of_lt_of_le (by decide) hM) rfl dX6_odds_39 ?_
    refine lv_iconst (v := 0) hx hb dX6_odds_42 (by decide) ?_
    refine g_ialdK (Y := YC) (kd := 21) (n := 3) (k := 0) (o := 4) (by decide) (by decide) rfl hc hw (Nat.lt_of_lt_of_le (by decide) hM) rfl rfl (vp_in_lit (by decide)) (by decide) dX6_odds_43 ?_
    refine lv_iload hx hb dX6_odds_44 (lv_at hl 4 rfl) ?_
    refine lv_iadd hx hb dX6_odds_46 ?_
    refine g_min q_772 q_360 q_85 q_361 hc hl.1 ⟨Nat.le_of_ble_eq_true rfl, Nat.le_of_ble_eq_true rfl, Nat.zero_le _, Nat.zero_le _⟩ (Nat.le_of_ble_eq_true rfl) dX6_odds_47 ?_
    refine lv_topi (fun x4 ex4 => ?_)
    replace h := h x4 ex4
    refine g_max q_773 q_357 q_85 q_358 hc hl.1 ⟨Nat.le_of_ble_eq_true rfl, Nat.le_of_ble_eq_true rfl, Nat.zero_le _, Nat.zero_le _⟩ (Nat.le_of_ble_eq_true rfl) dX6_odds_50 ?_
    refine lv_topi (fun x5 ex5 => ?_)
    replace h := h x5 ex5
    refine lv_istore (lv' := [(5, .int x5), (0, .ref (ad 0)), (1, .int v1), (2, .int v2), (3, .int v3), (4, .int v4)]) hx hb dX6_odds_53 hl (by decide) rfl (fun ls hl => ?_)
    refine lv_aload_n hx hb dX6_odds_55 rfl (lv_at hl 1 rfl) ?_
    refine lv_iload hx hb dX6_odds_56 (lv_at hl 0 rfl) ?_
    refine lv_aload_n hx hb dX6_odds_58 rfl (lv_at hl 1 rfl) ?_
    refine fg_X6_27 hc hw (Nat.lt_of_lt_of_le (by decide) hM) rfl dX6_odds_59 ?_
    refine lv_iconst (v := 1) hx hb dX6_odds_62 (by decide) ?_
    refine g_ialdK (Y := YC) (kd := 21) (n := 3) (k := 1) (o := 4) (by decide) (by decide) rfl hc hw (Nat.lt_of_lt_of_le (by decide) hM) rfl rfl (vp_in_lit (by decide)) (by decide) dX6_odds_63 ?_
    refine lv_aload_n hx hb dX6_odds_64 rfl (lv_at hl 1 rfl) ?_
    refine fg_X6_27 hc hw (Nat.lt_of_lt_of_le (by decide) hM) rfl dX6_odds_65 ?_
    refine lv_iconst (v := 2) hx hb dX6_odds_68 (by decide) ?_
    refine g_ialdK (Y := YC) (kd := 21) (n := 3) (k := 2) (o := 4) (by decide) (by decide) rfl hc hw (Nat.lt_of_lt_of_le (by decide) hM) rfl rfl (vp_in_lit (by decide)) (by decide) dX6_odds_69 ?_
    refine g_Vi (Y := YC) (ci := 6) (n := 3) (k := 5) (As := [.int x5, .int (gi σ 4 1), .int (gi σ 4 2)]) (rest := []) rfl (by decide) vw_X6_191 ⟨Nat.le_of_ble_eq_true rfl, Nat.le_of_ble_eq_true rfl, Nat.zero_le _, Nat.zero_le _⟩ hc hw hl.1 (Nat.lt_of_lt_of_le (by decide) hM) rfl (m_X6_holdsWith l hM x5 (gi σ 4 1) (gi σ 4 2) σ h) rfl rfl (Nat.le_of_ble_eq_true rfl) dX6_odds_70 (fun r7 σ6 H locs h hw => ?_)
    refine lv_if_eq (tgt := 79) hx hb dX6_odds_73 (by decide) (fun c8 => ?_) (fun c8 => ?_)
    · replace h := h.1 c8
      obtain ⟨x9, ex9⟩ : ∃ z, z = v4 + 1 := ⟨_, rfl⟩
      replace h := h x9 ex9
      refine lv_iinc (v := x9) (lv' := [(4, .int x9), (5, .int x5), (0, .ref (ad 0)), (1, .int v1), (2, .int v2), (3, .int v3)]) hx hb dX6_odds_79 hl (k := 5) rfl (by rw [ex9]; rfl) (by decide) rfl (fun ls hl => ?_)
      refine lv_goto (tgt := 26) hx hb dX6_odds_82 (by decide) ?_
      exact hk_26 v1 v2 v3 x9 σ6 _ _ _ h  hw (lv_sub hl [2, 3, 4, 5, 0] rfl)
    · replace h := h.2 c8
      obtain ⟨x10, ex10⟩ : ∃ z, z = v3 + 1 := ⟨_, rfl⟩
      replace h := h x10 ex10
      refine lv_iinc (v := x10) (lv' := [(3, .int x10), (5, .int x5), (0, .ref (ad 0)), (1, .int v1), (2, .int v2), (4, .int v4)]) hx hb dX6_odds_76 hl (k := 4) rfl (by rw [ex10]; rfl) (by decide) rfl (fun ls hl => ?_)
      obtain ⟨x11, ex11⟩ : ∃ z, z = v4 + 1 := ⟨_, rfl⟩
      replace h := h x11 ex11
      refine lv_iinc (v := x11) (lv' := [(4, .int x11), (3, .int x10), (5, .int x5), (0, .ref (ad 0)), (1, .int v1), (2, .int v2)]) hx hb dX6_odds_79 hl (k := 5) rfl (by rw [ex11]; rfl) (by decide) rfl (fun ls hl => ?_)
      refine lv_goto (tgt := 26) hx hb dX6_odds_82 (by decide) ?_
      exact hk_26 v1 v2 x10 x11 σ6 _ _ _ h  hw (lv_sub hl [3, 4, 5, 1, 0] rfl)
def wl_X6_odds_26 (M : Nat) (post : Int64 → St → Prop) : Nat → Int32 → Int32 → Int32 → Int32 → St → Prop
  | 0, _, _, _, _, _ => False
  | n + 1, v1, v2, v3, v4, σ => w_X6_odds_26 M post (wl_X6_odds_26 M post n) v1 v2 v3 v4 σ
set_option maxHeartbeats 4000000 in
theorem bl_X6_odds_26 {Γ : Gm} {ad : Nat → Nat} {p : Program} {l : Launch} {e : Env} {s : State} {m : MethodId} {args : Array Value} {below : List Frame} {meth : Method} {c : Code} {M : Nat} (hM : 53 ≤ M) {post : Int64 → St → Prop}
    (hc : CX Γ p s m args meth c cX6_odds RX6 6) (hr : meth.sig.returnType = (Option.some Jvm.ClassFile.FieldType.long)) :
    ∀ (n : Nat) (v1 : Int32) (v2 : Int32) (v3 : Int32) (v4 : Int32) (σ : St) (H : Heap) (locs : List Loc) (ls : Array Slot), wl_X6_odds_26 M post n v1 v2 v3 v4 σ → WH Γ YC M ad σ s H locs → lv_has ls 6 [(0, .ref (ad 0)), (1, .int v1), (2, .int v2), (3, .int v3), (4, .int v4)] → W p l e (rmL 6 0 0) s m args below meth c H locs 0 0 (MQ below (va_Ql post (fun u t => WC Γ YC M ad u t) (AA Γ)) args s 0 0 (AA Γ)) (F0 m 26 ls []) := by
  intro n
  induction n with
  | zero => intro v1 v2 v3 v4 σ H locs ls h; exact h.elim
  | succ n ih =>
    intro v1 v2 v3 v4 σ H locs ls h  hw hl
    exact b_X6_odds_26 hM ih v1 v2 v3 v4 σ H locs ls h  hc hr hw hl
def w_X6_odds (M : Nat) (post : Int64 → St → Prop) (a1 : Int32) (a2 : Int32) (σ : St) : Prop :=
  (a1 < 0 → (post (-4611686018427387904) σ)) ∧ (¬ (a1 < 0) → ((5 < a1 → (post (-4611686018427387904) σ)) ∧ (¬ (5 < a1) → (w_X6_isBit M (fun r4 σ3 => ((r4 = 0 → (post (-4611686018427387904) σ3)) ∧ (¬ (r4 = 0) → (∃ n, wl_X6_odds_26 M post n a1 a2 0 (-a1) σ3)))) a2 σ))))
set_option maxHeartbeats 4000000 in
set_option maxRecDepth 20000 in
theorem m_X6_odds {Γ : Gm} {ad : Nat → Nat} {M : Nat} (l : Launch) (hM : 53 ≤ M) {post : Int64 → St → Prop} (a1 : Int32) (a2 : Int32) (σ : St) (h : w_X6_odds M post a1 a2 σ) : Cl l Γ YC M ad σ yX6_odds cX6_odds 6 (Option.some Jvm.ClassFile.FieldType.long) 6 0 0 [.ref (ad 0), .int a1, .int a2] post := by
  refine g_start (by decide) (Nat.le_of_ble_eq_true rfl) ?_
  intro p e s m args below meth c ls hc hr hn hl hw
  have hc : CX Γ p s m args meth c cX6_odds RX6 6 := hc
  have hl : lv_has ls 6 [(0, .ref (ad 0)), (1, .int a1), (2, .int a2)] := hl
  have hx := hc.1
  have hb := hc.2.1
  unfold w_X6_odds at h
  generalize hHH : s.heap = H0 at hw ⊢
  refine lv_iload_n hx hb dX6_odds_0 rfl (lv_at hl 1 rfl) ?_
  refine lv_if_lt (tgt := 16) hx hb dX6_odds_1 (by decide) (fun c1 => ?_) (fun c1 => ?_)
  · replace h := h.1 c1
    refine lv_ldc2 (v := (-4611686018427387904)) hx hb hc.2.2.2.1 (hc.2.2.2.2.1 _ q_771) dX6_odds_16 ?_
    exact g_lret hc hr hw h dX6_odds_19
  · replace h := h.2 c1
    refine lv_iload_n hx hb dX6_odds_4 rfl (lv_at hl 1 rfl) ?_
    refine lv_iconst (v := 5) hx hb dX6_odds_5 (by decide) ?_
    refine lv_icmp_gt (tgt := 16) hx hb dX6_odds_6 (by decide) (fun c2 => ?_) (fun c2 => ?_)
    · replace h := h.1 c2
      refine lv_ldc2 (v := (-4611686018427387904)) hx hb hc.2.2.2.1 (hc.2.2.2.2.1 _ q_771) dX6_odds_16 ?_
      exact g_lret hc hr hw h dX6_odds_19
    · replace h := h.2 c2
      refine lv_iload_n hx hb dX6_odds_9 rfl (lv_at hl 2 rfl) ?_
      refine g_Si (Y := YC) (n := 1) (k := 0) (As := [.int a2]) (rest := []) vw_X6_175 ⟨Nat.le_of_ble_eq_true rfl, Nat.le_of_ble_eq_true rfl, Nat.zero_le _, Nat.zero_le _⟩ hc hw hl.1 (m_X6_isBit l hM a2 σ h) rfl rfl (Nat.le_of_ble_eq_true rfl) dX6_odds_10 (fun r4 σ3 H locs h hw => ?_)
      refine lv_if_ne (tgt := 20) hx hb dX6_odds_13 (by decide) (fun c5 => ?_) (fun c5 => ?_)
      · replace h := h.2 c5
        refine lv_iconst (v := 0) hx hb dX6_odds_20 (by decide) ?_
        refine lv_istore_n (lv' := [(3, .int 0), (0, .ref (ad 0)), (1, .int a1), (2, .int a2)]) hx hb dX6_odds_21 rfl hl (by decide) rfl (fun ls hl => ?_)
        refine lv_iload_n hx hb dX6_odds_22 rfl (lv_at hl 2 rfl) ?_
        refine lv_ineg hx hb dX6_odds_23 ?_
        refine lv_istore (lv' := [(4, .int (-a1)), (3, .int 0), (0, .ref (ad 0)), (1, .int a1), (2, .int a2)]) hx hb dX6_odds_24 hl (by decide) rfl (fun ls hl => ?_)
        obtain ⟨n, h⟩ := h
        exact bl_X6_odds_26 hM hc hr n a1 a2 0 (-a1) σ3 _ _ _ h  hw (lv_sub hl [2, 3, 4, 1, 0] rfl)
      · replace h := h.1 c5
        refine lv_ldc2 (v := (-4611686018427387904)) hx hb hc.2.2.2.1 (hc.2.2.2.2.1 _ q_771) dX6_odds_16 ?_
        exact g_lret hc hr hw h dX6_odds_19
def w_X6_save_125 (M : Nat) (post : Int32 → St → Prop) (k_50 : Int32 → Int32 → Int32 → Int32 → Int32 → Int32 → St → Prop) (v2 : Int32) (v3 : Int32) (v7 : Int32) (σ : St) : Prop :=
  w_X3_holdsNow M (fun r2 σ1 => (∀ x3 : Int32, x3 = v7 + 1 → (k_50 v2 v3 v7 (gi σ 14 11) r2 x3 σ1))) 14 σ
set_option maxHeartbeats 4000000 in
set_option maxRecDepth 20000 in
theorem b_X6_save_125 {Γ : Gm} {ad : Nat → Nat} {p : Program} {l : Launch} {e : Env} {s : State} {m : MethodId} {args : Array Value} {below : List Frame} {meth : Method} {c : Code} {M : Nat} (hM : 53 ≤ M) {post : Int32 → St → Prop} {k_50 : Int32 → Int32 → Int32 → Int32 → Int32 → Int32 → St → Prop} (hk_50 : ∀ (v2 : Int32) (v3 : Int32) (v4 : Int32) (v5 : Int32) (v6 : Int32) (v7 : Int32) (σ : St) (H : Heap) (locs : List Loc) (ls : Array Slot), k_50 v2 v3 v4 v5 v6 v7 σ → WH Γ YC M ad σ s H locs → lv_has ls 8 [(0, .ref (ad 0)), (2, .int v2), (3, .int v3), (4, .int v4), (5, .int v5), (6, .int v6), (7, .int v7)] → W p l e (rmL 6 0 0) s m args below meth c H locs 0 0 (MQ below (va_Qi post (fun u t => WC Γ YC M ad u t) (AA Γ)) args s 0 0 (AA Γ)) (F0 m 50 ls []))
    (v2 : Int32) (v3 : Int32) (v7 : Int32) (σ : St) (H : Heap) (locs : List Loc) (ls : Array Slot) (h : w_X6_save_125 M post k_50 v2 v3 v7 σ) (hc : CX Γ p s m args meth c cX6_save RX6 8) (hr : meth.sig.returnType = (Option.some Jvm.ClassFile.FieldType.int)) (hw : WH Γ YC M ad σ s H locs) (hl : lv_has ls 8 [(0, .ref (ad 0)), (2, .int v2), (3, .int v3), (7, .int v7)]) :
    W p l e (rmL 6 0 0) s m args below meth c H locs 0 0 (MQ below (va_Qi post (fun u t => WC Γ YC M ad u t) (AA Γ)) args s 0 0 (AA Γ)) (F0 m 125 ls []) := by
  have hx := hc.1
  have hb := hc.2.1
  unfold w_X6_save_125 at h
  refine lv_iload hx hb dX6_save_125 (lv_at hl 3 rfl) ?_
  refine lv_istore (lv' := [(4, .int v7), (0, .ref (ad 0)), (2, .int v2), (3, .int v3), (7, .int v7)]) hx hb dX6_save_127 hl (by decide) rfl (fun ls hl => ?_)
  refine lv_aload_n hx hb dX6_save_129 rfl (lv_at hl 1 rfl) ?_
  refine fg_X6_61 hc hw (Nat.lt_of_lt_of_le (by decide) hM) rfl dX6_save_130 ?_
  refine fg_X6_217 (o := 14) hc hw (Nat.lt_of_lt_of_le (by decide) hM) rfl dX6_save_133 ?_
  refine lv_istore (lv' := [(5, .int (gi σ 14 11)), (4, .int v7), (0, .ref (ad 0)), (2, .int v2), (3, .int v3), (7, .int v7)]) hx hb dX6_save_136 hl (by decide) rfl (fun ls hl => ?_)
  refine lv_aload_n hx hb dX6_save_138 rfl (lv_at hl 2 rfl) ?_
  refine fg_X6_61 hc hw (Nat.lt_of_lt_of_le (by decide) hM) rfl dX6_save_139 ?_
  refine g_Vi (Y := YC) (ci := 3) (n := 0) (k := 0) (As := []) (rest := []) rfl (by decide) vw_X6_184 ⟨Nat.le_of_ble_eq_true rfl, Nat.le_of_ble_eq_true rfl, Nat.zero_le _, Nat.zero_le _⟩ hc hw hl.1 (Nat.lt_of_lt_of_le (by decide) hM) rfl (m_X3_holdsNow l hM 14 σ h) rfl rfl (Nat.le_of_ble_eq_true rfl) dX6_save_142 (fun r2 σ1 H locs h hw => ?_)
  refine lv_istore (lv' := [(6, .int r2), (5, .int (gi σ 14 11)), (4, .int v7), (0, .ref (ad 0)), (2, .int v2), (3, .int v3), (7, .int v7)]) hx hb dX6_save_145 hl (by decide) rfl (fun ls hl => ?_)
  obtain ⟨x3, ex3⟩ : ∃ z, z = v7 + 1 := ⟨_, rfl⟩
  replace h := h x3 ex3
  refine lv_iinc (v := x3) (lv' := [(7, .int x3), (6, .int r2), (5, .int (gi σ 14 11)), (4, .int v7), (0, .ref (ad 0)), (2, .int v2), (3, .int v3)]) hx hb dX6_save_147 hl (k := 6) rfl (by rw [ex3]; rfl) (by decide) rfl (fun ls hl => ?_)
  refine lv_goto (tgt := 50) hx hb dX6_save_150 (by decide) ?_
  exact hk_50 v2 v3 v7 (gi σ 14 11) r2 x3 σ1 _ _ _ h  hw (lv_sub hl [4, 5, 6, 3, 2, 1, 0] rfl)
def w_X6_save_50 (M : Nat) (post : Int32 → St → Prop) (k_50 : Int32 → Int32 → Int32 → Int32 → Int32 → Int32 → St → Prop) (v2 : Int32) (v3 : Int32) (v4 : Int32) (v5 : Int32) (v6 : Int32) (v7 : Int32) (σ : St) : Prop :=
  (6 ≤ v7 → ((v3 = 0 → (post v4 σ)) ∧ (¬ (v3 = 0) → ((v3 = 1 → (post v5 σ)) ∧ (¬ (v3 = 1) → ((v6 = 0 → (post 0 σ)) ∧ (¬ (v6 = 0) → (post 1 σ)))))))) ∧ (¬ (6 ≤ v7) → (w_X0_become M (fun σ5 => (w_X3_becomeLike M (fun σ6 => (w_X6_cheeseAt M (fun q8 σ7 => (w_X3_undergo M (fun σ9 => ((v4 = (-1) → (w_X6_save_125 M post k_50 v2 v3 v7 σ9)) ∧ (¬ (v4 = (-1)) → ((v5 ≤ (gi σ9 14 11) → (∀ x12 : Int32, x12 = v7 + 1 → (k_50 v2 v3 v4 v5 v6 x12 σ9))) ∧ (¬ (v5 ≤ (gi σ9 14 11)) → (w_X6_save_125 M post k_50 v2 v3 v7 σ9)))))) 14 16 q8 σ7)) (gi σ6 16 2) σ6)) 14 12 σ5)) 16 v7 (v2 / 10) (v2 - v2 / 10 * 10) σ))
set_option maxHeartbeats 4000000 in
set_option maxRecDepth 20000 in
theorem b_X6_save_50 {Γ : Gm} {ad : Nat → Nat} {p : Program} {l : Launch} {e : Env} {s : State} {m : MethodId} {args : Array Value} {below : List Frame} {meth : Method} {c : Code} {M : Nat} (hM : 53 ≤ M) {post : Int32 → St → Prop} {k_50 : Int32 → Int32 → Int32 → Int32 → Int32 → Int32 → St → Prop} (hk_50 : ∀ (v2 : Int32) (v3 : Int32) (v4 : Int32) (v5 : Int32) (v6 : Int32) (v7 : Int32) (σ : St) (H : Heap) (locs : List Loc) (ls : Array Slot), k_50 v2 v3 v4 v5 v6 v7 σ → WH Γ YC M ad σ s H locs → lv_has ls 8 [(0, .ref (ad 0)), (2, .int v2), (3, .int v3), (4, .int v4), (5, .int v5), (6, .int v6), (7, .int v7)] → W p l e (rmL 6 0 0) s m args below meth c H locs 0 0 (MQ below (va_Qi post (fun u t => WC Γ YC M ad u t) (AA Γ)) args s 0 0 (AA Γ)) (F0 m 50 ls []))
    (v2 : Int32) (v3 : Int32) (v4 : Int32) (v5 : Int32) (v6 : Int32) (v7 : Int32) (σ : St) (H : Heap) (locs : List Loc) (ls : Array Slot) (h : w_X6_save_50 M post k_50 v2 v3 v4 v5 v6 v7 σ) (hc : CX Γ p s m args meth c cX6_save RX6 8) (hr : meth.sig.returnType = (Option.some Jvm.ClassFile.FieldType.int)) (hw : WH Γ YC M ad σ s H locs) (hl : lv_has ls 8 [(0, .ref (ad 0)), (2, .int v2), (3, .int v3), (4, .int v4), (5, .int v5), (6, .int v6), (7, .int v7)]) :
    W p l e (rmL 6 0 0) s m args below meth c H locs 0 0 (MQ below (va_Qi post (fun u t => WC Γ YC M ad u t) (AA Γ)) args s 0 0 (AA Γ)) (F0 m 50 ls []) := by
  have hx := hc.1
  have hb := hc.2.1
  unfold w_X6_save_50 at h
  refine lv_iload hx hb dX6_save_50 (lv_at hl 6 rfl) ?_
  refine lv_bipush (v := 6) hx hb dX6_save_52 (by decide) ?_
  refine lv_icmp_ge (tgt := 153) hx hb dX6_save_54 (by decide) (fun c1 => ?_) (fun c1 => ?_)
  · replace h := h.1 c1
    refine lv_iload_n hx hb dX6_save_153 rfl (lv_at hl 2 rfl) ?_
    refine lv_if_ne (tgt := 162) hx hb dX6_save_154 (by decide) (fun c2 => ?_) (fun c2 => ?_)
    · replace h := h.2 c2
      refine lv_iload_n hx hb dX6_save_162 rfl (lv_at hl 2 rfl) ?_
      refine lv_iconst (v := 1) hx hb dX6_save_163 (by decide) ?_
      refine lv_icmp_ne (tgt := 172) hx hb dX6_save_164 (by decide) (fun c3 => ?_) (fun c3 => ?_)
      · replace h := h.2 c3
        refine lv_iload hx hb dX6_save_172 (lv_at hl 5 rfl) ?_
        refine lv_if_eq (tgt := 181) hx hb dX6_save_174 (by decide) (fun c4 => ?_) (fun c4 => ?_)
        · replace h := h.1 c4
          refine lv_iconst (v := 0) hx hb dX6_save_181 (by decide) ?_
          exact g_iret hc hr hw h dX6_save_182
        · replace h := h.2 c4
          refine lv_iconst (v := 1) hx hb dX6_save_177 (by decide) ?_
          refine lv_goto (tgt := 182) hx hb dX6_save_178 (by decide) ?_
          exact g_iret hc hr hw h dX6_save_182
      · replace h := h.1 c3
        refine lv_iload hx hb dX6_save_167 (lv_at hl 4 rfl) ?_
        refine lv_goto (tgt := 182) hx hb dX6_save_169 (by decide) ?_
        exact g_iret hc hr hw h dX6_save_182
    · replace h := h.1 c2
      refine lv_iload hx hb dX6_save_157 (lv_at hl 3 rfl) ?_
      refine lv_goto (tgt := 182) hx hb dX6_save_159 (by decide) ?_
      exact g_iret hc hr hw h dX6_save_182
  · replace h := h.2 c1
    refine lv_aload_n hx hb dX6_save_57 rfl (lv_at hl 0 rfl) ?_
    refine fg_X6_65 hc hw (Nat.lt_of_lt_of_le (by decide) hM) rfl dX6_save_58 ?_
    refine lv_iload hx hb dX6_save_61 (lv_at hl 6 rfl) ?_
    refine lv_iload_n hx hb dX6_save_63 rfl (lv_at hl 1 rfl) ?_
    refine lv_bipush (v := 10) hx hb dX6_save_64 (by decide) ?_
    refine lv_idiv hx hb dX6_save_66 (by decide) ?_
    refine lv_iload_n hx hb dX6_save_67 rfl (lv_at hl 1 rfl) ?_
    refine lv_bipush (v := 10) hx hb dX6_save_68 (by decide) ?_
    refine lv_irem hx hb dX6_save_70 (by decide) ?_
    refine g_Vv (Y := YC) (ci := 0) (n := 3) (k := 0) (As := [.int v7, .int (v2 / 10), .int (v2 - v2 / 10 * 10)]) (rest := []) rfl (by decide) vw_X6_145 ⟨Nat.le_of_ble_eq_true rfl, Nat.le_of_ble_eq_true rfl, Nat.zero_le _, Nat.zero_le _⟩ hc hw hl.1 (Nat.lt_of_lt_of_le (by decide) hM) rfl (m_X0_become l hM 16 v7 (v2 / 10) (v2 - v2 / 10 * 10) σ h) rfl rfl (Nat.le_of_ble_eq_true rfl) dX6_save_71 (fun σ5 H locs h hw => ?_)
    refine lv_aload_n hx hb dX6_save_74 rfl (lv_at hl 0 rfl) ?_
    refine fg_X6_61 hc hw (Nat.lt_of_lt_of_le (by decide) hM) rfl dX6_save_75 ?_
    refine lv_aload_n hx hb dX6_save_78 rfl (lv_at hl 0 rfl) ?_
    refine fg_X6_57 hc hw (Nat.lt_of_lt_of_le (by decide) hM) rfl dX6_save_79 ?_
    refine g_Vv (Y := YC) (ci := 3) (n := 1) (k := 0) (As := [.ref (ad 12)]) (rest := []) rfl (by decide) vw_X6_209 ⟨Nat.le_of_ble_eq_true rfl, Nat.le_of_ble_eq_true rfl, Nat.zero_le _, Nat.zero_le _⟩ hc hw hl.1 (Nat.lt_of_lt_of_le (by decide) hM) rfl (m_X3_becomeLike l hM 14 12 σ5 h) rfl rfl (Nat.le_of_ble_eq_true rfl) dX6_save_82 (fun σ6 H locs h hw => ?_)
    refine lv_aload_n hx hb dX6_save_85 rfl (lv_at hl 0 rfl) ?_
    refine fg_X6_61 hc hw (Nat.lt_of_lt_of_le (by decide) hM) rfl dX6_save_86 ?_
    refine lv_aload_n hx hb dX6_save_89 rfl (lv_at hl 0 rfl) ?_
    refine fg_X6_65 hc hw (Nat.lt_of_lt_of_le (by decide) hM) rfl dX6_save_90 ?_
    refine lv_aload_n hx hb dX6_save_93 rfl (lv_at hl 0 rfl) ?_
    refine lv_aload_n hx hb dX6_save_94 rfl (lv_at hl 0 rfl) ?_
    refine fg_X6_65 hc hw (Nat.lt_of_lt_of_le (by decide) hM) rfl dX6_save_95 ?_
    refine fg_X6_155 (o := 16) hc hw (Nat.lt_of_lt_of_le (by decide) hM) rfl dX6_save_98 ?_
    refine g_Ve (Y := YC) (ci := 6) (n := 1) (k := 0) (As := [.int (gi σ6 16 2)]) (rest := [.ref (ad 16), .ref (ad 14)]) rfl (by decide) vw_X6_101 ⟨Nat.le_of_ble_eq_true rfl, Nat.le_of_ble_eq_true rfl, Nat.zero_le _, Nat.zero_le _⟩ hc hw hl.1 (Nat.lt_of_lt_of_le (by decide) hM) rfl (m_X6_cheeseAt l hM (gi σ6 16 2) σ6 h) rfl rfl (Nat.le_of_ble_eq_true rfl) dX6_save_101 (fun q8 σ7 H locs h hw => ?_)
    refine g_Vv (Y := YC) (ci := 3) (n := 2) (k := 3) (As := [.ref (ad 16), va_rf (Option.map ad q8)]) (rest := []) rfl (by decide) vw_X6_213 ⟨Nat.le_of_ble_eq_true rfl, Nat.le_of_ble_eq_true rfl, Nat.zero_le _, Nat.zero_le _⟩ hc hw hl.1 (Nat.lt_of_lt_of_le (by decide) hM) rfl (m_X3_undergo l hM 14 16 q8 σ7 h) rfl rfl (Nat.le_of_ble_eq_true rfl) dX6_save_104 (fun σ9 H locs h hw => ?_)
    refine lv_iload hx hb dX6_save_107 (lv_at hl 3 rfl) ?_
    refine lv_iconst (v := (-1)) hx hb dX6_save_109 (by decide) ?_
    refine lv_icmp_eq (tgt := 125) hx hb dX6_save_110 (by decide) (fun c10 => ?_) (fun c10 => ?_)
    · replace h := h.1 c10
      exact b_X6_save_125 hM hk_50 v2 v3 v7 σ9 _ _ _ h  hc hr hw (lv_sub hl [0, 1, 2, 6] rfl)
    · replace h := h.2 c10
      refine lv_aload_n hx hb dX6_save_113 rfl (lv_at hl 0 rfl) ?_
      refine fg_X6_61 hc hw (Nat.lt_of_lt_of_le (by decide) hM) rfl dX6_save_114 ?_
      refine fg_X6_217 (o := 14) hc hw (Nat.lt_of_lt_of_le (by decide) hM) rfl dX6_save_117 ?_
      refine lv_iload hx hb dX6_save_120 (lv_at hl 4 rfl) ?_
      refine lv_icmp_ge (tgt := 147) hx hb dX6_save_122 (by decide) (fun c11 => ?_) (fun c11 => ?_)
      · replace h := h.1 c11
        obtain ⟨x12, ex12⟩ : ∃ z, z = v7 + 1 := ⟨_, rfl⟩
        replace h := h x12 ex12
        refine lv_iinc (v := x12) (lv' := [(7, .int x12), (0, .ref (ad 0)), (2, .int v2), (3, .int v3), (4, .int v4), (5, .int v5), (6, .int v6)]) hx hb dX6_save_147 hl (k := 6) rfl (by rw [ex12]; rfl) (by decide) rfl (fun ls hl => ?_)
        refine lv_goto (tgt := 50) hx hb dX6_save_150 (by decide) ?_
        exact hk_50 v2 v3 v4 v5 v6 x12 σ9 _ _ _ h  hw (lv_sub hl [1, 2, 3, 4, 5, 6, 0] rfl)
      · replace h := h.2 c11
        exact b_X6_save_125 hM hk_50 v2 v3 v7 σ9 _ _ _ h  hc hr hw (lv_sub hl [0, 1, 2, 6] rfl)
def wl_X6_save_50 (M : Nat) (post : Int32 → St → Prop) : Nat → Int32 → Int32 → Int32 → Int32 → Int32 → Int32 → St → Prop
  | 0, _, _, _, _, _, _, _ => False
  | n + 1, v2, v3, v4, v5, v6, v7, σ => w_X6_save_50 M post (wl_X6_save_50 M post n) v2 v3 v4 v5 v6 v7 σ
set_option maxHeartbeats 4000000 in
theorem bl_X6_save_50 {Γ : Gm} {ad : Nat → Nat} {p : Program} {l : Launch} {e : Env} {s : State} {m : MethodId} {args : Array Value} {below : List Frame} {meth : Method} {c : Code} {M : Nat} (hM : 53 ≤ M) {post : Int32 → St → Prop}
    (hc : CX Γ p s m args meth c cX6_save RX6 8) (hr : meth.sig.returnType = (Option.some Jvm.ClassFile.FieldType.int)) :
    ∀ (n : Nat) (v2 : Int32) (v3 : Int32) (v4 : Int32) (v5 : Int32) (v6 : Int32) (v7 : Int32) (σ : St) (H : Heap) (locs : List Loc) (ls : Array Slot), wl_X6_save_50 M post n v2 v3 v4 v5 v6 v7 σ → WH Γ YC M ad σ s H locs → lv_has ls 8 [(0, .ref (ad 0)), (2, .int v2), (3, .int v3), (4, .int v4), (5, .int v5), (6, .int v6), (7, .int v7)] → W p l e (rmL 6 0 0) s m args below meth c H locs 0 0 (MQ below (va_Qi post (fun u t => WC Γ YC M ad u t) (AA Γ)) args s 0 0 (AA Γ)) (F0 m 50 ls []) := by
  intro n
  induction n with
  | zero => intro v2 v3 v4 v5 v6 v7 σ H locs ls h; exact h.elim
  | succ n ih =>
    intro v2 v3 v4 v5 v6 v7 σ H locs ls h  hw hl
    exact b_X6_save_50 hM ih v2 v3 v4 v5 v6 v7 σ H locs ls h  hc hr hw hl
def w_X6_save (M : Nat) (post : Int32 → St → Prop) (a1 : Int32) (a2 : Int32) (a3 : Int32) (σ : St) : Prop :=
  w_X6_hasActs M (fun r2 σ1 => ((r2 = 0 → (post (-5) σ1)) ∧ (¬ (r2 = 0) → ((a2 < 0 → (post (-7) σ1)) ∧ (¬ (a2 < 0) → ((99 < a2 → (post (-7) σ1)) ∧ (¬ (99 < a2) → ((a3 < 0 → (post (-7) σ1)) ∧ (¬ (a3 < 0) → ((a3 ≤ 2 → (w_X6_cookActs M (fun σ8 => (∃ n, wl_X6_save_50 M post n a2 a3 (-1) 0 0 0 σ8)) a1 σ1)) ∧ (¬ (a3 ≤ 2) → (post (-7) σ1)))))))))))) a1 σ
set_option maxHeartbeats 4000000 in
set_option maxRecDepth 20000 in
theorem m_X6_save {Γ : Gm} {ad : Nat → Nat} {M : Nat} (l : Launch) (hM : 53 ≤ M) {post : Int32 → St → Prop} (a1 : Int32) (a2 : Int32) (a3 : Int32) (σ : St) (h : w_X6_save M post a1 a2 a3 σ) : Ci l Γ YC M ad σ yX6_save cX6_save 8 (Option.some Jvm.ClassFile.FieldType.int) 6 0 0 [.ref (ad 0), .int a1, .int a2, .int a3] post := by
  refine g_start (by decide) (Nat.le_of_ble_eq_true rfl) ?_
  intro p e s m args below meth c ls hc hr hn hl hw
  have hc : CX Γ p s m args meth c cX6_save RX6 8 := hc
  have hl : lv_has ls 8 [(0, .ref (ad 0)), (1, .int a1), (2, .int a2), (3, .int a3)] := hl
  have hx := hc.1
  have hb := hc.2.1
  unfold w_X6_save at h
  generalize hHH : s.heap = H0 at hw ⊢
  refine lv_aload_n hx hb dX6_save_0 rfl (lv_at hl 0 rfl) ?_
  refine lv_iload_n hx hb dX6_save_1 rfl (lv_at hl 1 rfl) ?_
  refine g_Vi (Y := YC) (ci := 6) (n := 1) (k := 0) (As := [.int a1]) (rest := []) rfl (by decide) vw_X6_165 ⟨Nat.le_of_ble_eq_true rfl, Nat.le_of_ble_eq_true rfl, Nat.zero_le _, Nat.zero_le _⟩ hc hw hl.1 (Nat.lt_of_lt_of_le (by decide) hM) rfl (m_X6_hasActs l hM a1 σ h) rfl rfl (Nat.le_of_ble_eq_true rfl) dX6_save_2 (fun r2 σ1 H locs h hw => ?_)
  refine lv_if_ne (tgt := 11) hx hb dX6_save_5 (by decide) (fun c3 => ?_) (fun c3 => ?_)
  · replace h := h.2 c3
    refine lv_iload_n hx hb dX6_save_11 rfl (lv_at hl 2 rfl) ?_
    refine lv_if_lt (tgt := 30) hx hb dX6_save_12 (by decide) (fun c4 => ?_) (fun c4 => ?_)
    · replace h := h.1 c4
      refine lv_bipush (v := (-7)) hx hb dX6_save_30 (by decide) ?_
      exact g_iret hc hr hw h dX6_save_32
    · replace h := h.2 c4
      refine lv_iload_n hx hb dX6_save_15 rfl (lv_at hl 2 rfl) ?_
      refine lv_bipush (v := 99) hx hb dX6_save_16 (by decide) ?_
      refine lv_icmp_gt (tgt := 30) hx hb dX6_save_18 (by decide) (fun c5 => ?_) (fun c5 => ?_)
      · replace h := h.1 c5
        refine lv_bipush (v := (-7)) hx hb dX6_save_30 (by decide) ?_
        exact g_iret hc hr hw h dX6_save_32
      · replace h := h.2 c5
        refine lv_iload_n hx hb dX6_save_21 rfl (lv_at hl 3 rfl) ?_
        refine lv_if_lt (tgt := 30) hx hb dX6_save_22 (by decide) (fun c6 => ?_) (fun c6 => ?_)
        · replace h := h.1 c6
          refine lv_bipush (v := (-7)) hx hb dX6_save_30 (by decide) ?_
          exact g_iret hc hr hw h dX6_save_32
        · replace h := h.2 c6
          refine lv_iload_n hx hb dX6_save_25 rfl (lv_at hl 3 rfl) ?_
          refine lv_iconst (v := 2) hx hb dX6_save_26 (by decide) ?_
          refine lv_icmp_le (tgt := 33) hx hb dX6_save_27 (by decide) (fun c7 => ?_) (fun c7 => ?_)
          · replace h := h.1 c7
            refine lv_aload_n hx hb dX6_save_33 rfl (lv_at hl 0 rfl) ?_
            refine lv_iload_n hx hb dX6_save_34 rfl (lv_at hl 1 rfl) ?_
            refine g_Vv (Y := YC) (ci := 6) (n := 1) (k := 5) (As := [.int a1]) (rest := []) rfl (by decide) vw_X6_171 ⟨Nat.le_of_ble_eq_true rfl, Nat.le_of_ble_eq_true rfl, Nat.zero_le _, Nat.zero_le _⟩ hc hw hl.1 (Nat.lt_of_lt_of_le (by decide) hM) rfl (m_X6_cookActs l hM a1 σ1 h) rfl rfl (Nat.le_of_ble_eq_true rfl) dX6_save_35 (fun σ8 H locs h hw => ?_)
            refine lv_iconst (v := (-1)) hx hb dX6_save_38 (by decide) ?_
            refine lv_istore (lv' := [(4, .int (-1)), (0, .ref (ad 0)), (1, .int a1), (2, .int a2), (3, .int a3)]) hx hb dX6_save_39 hl (by decide) rfl (fun ls hl => ?_)
            refine lv_iconst (v := 0) hx hb dX6_save_41 (by decide) ?_
            refine lv_istore (lv' := [(5, .int 0), (4, .int (-1)), (0, .ref (ad 0)), (1, .int a1), (2, .int a2), (3, .int a3)]) hx hb dX6_save_42 hl (by decide) rfl (fun ls hl => ?_)
            refine lv_iconst (v := 0) hx hb dX6_save_44 (by decide) ?_
            refine lv_istore (lv' := [(6, .int 0), (5, .int 0), (4, .int (-1)), (0, .ref (ad 0)), (1, .int a1), (2, .int a2), (3, .int a3)]) hx hb dX6_save_45 hl (by decide) rfl (fun ls hl => ?_)
            refine lv_iconst (v := 0) hx hb dX6_save_47 (by decide) ?_
            refine lv_istore (lv' := [(7, .int 0), (6, .int 0), (5, .int 0), (4, .int (-1)), (0, .ref (ad 0)), (1, .int a1), (2, .int a2), (3, .int a3)]) hx hb dX6_save_48 hl (by decide) rfl (fun ls hl => ?_)
            obtain ⟨n, h⟩ := h
            exact bl_X6_save_50 hM hc hr n a2 a3 (-1) 0 0 0 σ8 _ _ _ h  hw (lv_sub hl [4, 6, 7, 3, 2, 1, 0] rfl)
          · replace h := h.2 c7
            refine lv_bipush (v := (-7)) hx hb dX6_save_30 (by decide) ?_
            exact g_iret hc hr hw h dX6_save_32
  · replace h := h.1 c3
    refine lv_bipush (v := (-5)) hx hb dX6_save_8 (by decide) ?_
    exact g_iret hc hr hw h dX6_save_10
def w_X6_why_30 (M : Nat) (post : Int32 → St → Prop) (k_30 : Int32 → Int32 → St → Prop) (v1 : Int32) (v2 : Int32) (σ : St) : Prop :=
  (v1 ≤ v2 → (post (-1) σ)) ∧ (¬ (v1 ≤ v2) → (w_X6_beginPot M (fun σ2 => (w_X6_runActs M (fun σ3 => (w_X6_runActs M (fun σ4 => (w_X3_holdsNow M (fun r6 σ5 => ((r6 = 0 → (∀ x8 : Int32, x8 = v2 + 1 → (k_30 v1 x8 σ5))) ∧ (¬ (r6 = 0) → (post v2 σ5)))) 12 σ4)) (v2 + 1) v1 σ3)) 0 v2 σ2)) σ))
set_option maxHeartbeats 4000000 in
set_option maxRecDepth 20000 in
theorem b_X6_why_30 {Γ : Gm} {ad : Nat → Nat} {p : Program} {l : Launch} {e : Env} {s : State} {m : MethodId} {args : Array Value} {below : List Frame} {meth : Method} {c : Code} {M : Nat} (hM : 53 ≤ M) {post : Int32 → St → Prop} {k_30 : Int32 → Int32 → St → Prop} (hk_30 : ∀ (v1 : Int32) (v2 : Int32) (σ : St) (H : Heap) (locs : List Loc) (ls : Array Slot), k_30 v1 v2 σ → WH Γ YC M ad σ s H locs → lv_has ls 3 [(0, .ref (ad 0)), (1, .int v1), (2, .int v2)] → W p l e (rmL 6 0 0) s m args below meth c H locs 0 0 (MQ below (va_Qi post (fun u t => WC Γ YC M ad u t) (AA Γ)) args s 0 0 (AA Γ)) (F0 m 30 ls []))
    (v1 : Int32) (v2 : Int32) (σ : St) (H : Heap) (locs : List Loc) (ls : Array Slot) (h : w_X6_why_30 M post k_30 v1 v2 σ) (hc : CX Γ p s m args meth c cX6_why RX6 3) (hr : meth.sig.returnType = (Option.some Jvm.ClassFile.FieldType.int)) (hw : WH Γ YC M ad σ s H locs) (hl : lv_has ls 3 [(0, .ref (ad 0)), (1, .int v1), (2, .int v2)]) :
    W p l e (rmL 6 0 0) s m args below meth c H locs 0 0 (MQ below (va_Qi post (fun u t => WC Γ YC M ad u t) (AA Γ)) args s 0 0 (AA Γ)) (F0 m 30 ls []) := by
  have hx := hc.1
  have hb := hc.2.1
  unfold w_X6_why_30 at h
  refine lv_iload_n hx hb dX6_why_30 rfl (lv_at hl 2 rfl) ?_
  refine lv_iload_n hx hb dX6_why_31 rfl (lv_at hl 1 rfl) ?_
  refine lv_icmp_ge (tgt := 71) hx hb dX6_why_32 (by decide) (fun c1 => ?_) (fun c1 => ?_)
  · replace h := h.1 c1
    refine lv_iconst (v := (-1)) hx hb dX6_why_71 (by decide) ?_
    exact g_iret hc hr hw h dX6_why_72
  · replace h := h.2 c1
    refine lv_aload_n hx hb dX6_why_35 rfl (lv_at hl 0 rfl) ?_
    refine g_Vv (Y := YC) (ci := 6) (n := 0) (k := 1) (As := []) (rest := []) rfl (by decide) vw_X6_220 ⟨Nat.le_of_ble_eq_true rfl, Nat.le_of_ble_eq_true rfl, Nat.zero_le _, Nat.zero_le _⟩ hc hw hl.1 (Nat.lt_of_lt_of_le (by decide) hM) rfl (m_X6_beginPot l hM σ h) rfl rfl (Nat.le_of_ble_eq_true rfl) dX6_why_36 (fun σ2 H locs h hw => ?_)
    refine lv_aload_n hx hb dX6_why_39 rfl (lv_at hl 0 rfl) ?_
    refine lv_iconst (v := 0) hx hb dX6_why_40 (by decide) ?_
    refine lv_iload_n hx hb dX6_why_41 rfl (lv_at hl 2 rfl) ?_
    refine g_Vv (Y := YC) (ci := 6) (n := 2) (k := 4) (As := [.int 0, .int v2]) (rest := []) rfl (by decide) vw_X6_223 ⟨Nat.le_of_ble_eq_true rfl, Nat.le_of_ble_eq_true rfl, Nat.zero_le _, Nat.zero_le _⟩ hc hw hl.1 (Nat.lt_of_lt_of_le (by decide) hM) rfl (m_X6_runActs l hM 0 v2 σ2 h) rfl rfl (Nat.le_of_ble_eq_true rfl) dX6_why_42 (fun σ3 H locs h hw => ?_)
    refine lv_aload_n hx hb dX6_why_45 rfl (lv_at hl 0 rfl) ?_
    refine lv_iload_n hx hb dX6_why_46 rfl (lv_at hl 2 rfl) ?_
    refine lv_iconst (v := 1) hx hb dX6_why_47 (by decide) ?_
    refine lv_iadd hx hb dX6_why_48 ?_
    refine lv_iload_n hx hb dX6_why_49 rfl (lv_at hl 1 rfl) ?_
    refine g_Vv (Y := YC) (ci := 6) (n := 2) (k := 4) (As := [.int (v2 + 1), .int v1]) (rest := []) rfl (by decide) vw_X6_223 ⟨Nat.le_of_ble_eq_true rfl, Nat.le_of_ble_eq_true rfl, Nat.zero_le _, Nat.zero_le _⟩ hc hw hl.1 (Nat.lt_of_lt_of_le (by decide) hM) rfl (m_X6_runActs l hM (v2 + 1) v1 σ3 h) rfl rfl (Nat.le_of_ble_eq_true rfl) dX6_why_50 (fun σ4 H locs h hw => ?_)
    refine lv_aload_n hx hb dX6_why_53 rfl (lv_at hl 0 rfl) ?_
    refine fg_X6_57 hc hw (Nat.lt_of_lt_of_le (by decide) hM) rfl dX6_why_54 ?_
    refine g_Vi (Y := YC) (ci := 3) (n := 0) (k := 0) (As := []) (rest := []) rfl (by decide) vw_X6_184 ⟨Nat.le_of_ble_eq_true rfl, Nat.le_of_ble_eq_true rfl, Nat.zero_le _, Nat.zero_le _⟩ hc hw hl.1 (Nat.lt_of_lt_of_le (by decide) hM) rfl (m_X3_holdsNow l hM 12 σ4 h) rfl rfl (Nat.le_of_ble_eq_true rfl) dX6_why_57 (fun r6 σ5 H locs h hw => ?_)
    refine lv_if_eq (tgt := 65) hx hb dX6_why_60 (by decide) (fun c7 => ?_) (fun c7 => ?_)
    · replace h := h.1 c7
      obtain ⟨x8, ex8⟩ : ∃ z, z = v2 + 1 := ⟨_, rfl⟩
      replace h := h x8 ex8
      refine lv_iinc (v := x8) (lv' := [(2, .int x8), (0, .ref (ad 0)), (1, .int v1)]) hx hb dX6_why_65 hl (k := 2) rfl (by rw [ex8]; rfl) (by decide) rfl (fun ls hl => ?_)
      refine lv_goto (tgt := 30) hx hb dX6_why_68 (by decide) ?_
      exact hk_30 v1 x8 σ5 _ _ _ h  hw (lv_sub hl [1, 2, 0] rfl)
    · replace h := h.2 c7
      refine lv_iload_n hx hb dX6_why_63 rfl (lv_at hl 2 rfl) ?_
      exact g_iret hc hr hw h dX6_why_64
def wl_X6_why_30 (M : Nat) (post : Int32 → St → Prop) : Nat → Int32 → Int32 → St → Prop
  | 0, _, _, _ => False
  | n + 1, v1, v2, σ => w_X6_why_30 M post (wl_X6_why_30 M post n) v1 v2 σ
set_option maxHeartbeats 4000000 in
theorem bl_X6_why_30 {Γ : Gm} {ad : Nat → Nat} {p : Program} {l : Launch} {e : Env} {s : State} {m : MethodId} {args : Array Value} {below : List Frame} {meth : Method} {c : Code} {M : Nat} (hM : 53 ≤ M) {post : Int32 → St → Prop}
    (hc : CX Γ p s m args meth c cX6_why RX6 3) (hr : meth.sig.returnType = (Option.some Jvm.ClassFile.FieldType.int)) :
    ∀ (n : Nat) (v1 : Int32) (v2 : Int32) (σ : St) (H : Heap) (locs : List Loc) (ls : Array Slot), wl_X6_why_30 M post n v1 v2 σ → WH Γ YC M ad σ s H locs → lv_has ls 3 [(0, .ref (ad 0)), (1, .int v1), (2, .int v2)] → W p l e (rmL 6 0 0) s m args below meth c H locs 0 0 (MQ below (va_Qi post (fun u t => WC Γ YC M ad u t) (AA Γ)) args s 0 0 (AA Γ)) (F0 m 30 ls []) := by
  intro n
  induction n with
  | zero => intro v1 v2 σ H locs ls h; exact h.elim
  | succ n ih =>
    intro v1 v2 σ H locs ls h  hw hl
    exact b_X6_why_30 hM ih v1 v2 σ H locs ls h  hc hr hw hl
def w_X6_why (M : Nat) (post : Int32 → St → Prop) (a1 : Int32) (σ : St) : Prop :=
  w_X6_hasActs M (fun r2 σ1 => ((r2 = 0 → (post (-5) σ1)) ∧ (¬ (r2 = 0) → (w_X6_cookActs M (fun σ4 => (w_X3_holdsNow M (fun r6 σ5 => ((r6 = 0 → (∃ n, wl_X6_why_30 M post n a1 0 σ5)) ∧ (¬ (r6 = 0) → (post (-1) σ5)))) 12 σ4)) a1 σ1)))) a1 σ
set_option maxHeartbeats 4000000 in
set_option maxRecDepth 20000 in
theorem m_X6_why {Γ : Gm} {ad : Nat → Nat} {M : Nat} (l : Launch) (hM : 53 ≤ M) {post : Int32 → St → Prop} (a1 : Int32) (σ : St) (h : w_X6_why M post a1 σ) : Ci l Γ YC M ad σ yX6_why cX6_why 3 (Option.some Jvm.ClassFile.FieldType.int) 6 0 0 [.ref (ad 0), .int a1] post := by
  refine g_start (by decide) (Nat.le_of_ble_eq_true rfl) ?_
  intro p e s m args below meth c ls hc hr hn hl hw
  have hc : CX Γ p s m args meth c cX6_why RX6 3 := hc
  have hl : lv_has ls 3 [(0, .ref (ad 0)), (1, .int a1)] := hl
  have hx := hc.1
  have hb := hc.2.1
  unfold w_X6_why at h
  generalize hHH : s.heap = H0 at hw ⊢
  refine lv_aload_n hx hb dX6_why_0 rfl (lv_at hl 0 rfl) ?_
  refine lv_iload_n hx hb dX6_why_1 rfl (lv_at hl 1 rfl) ?_
  refine g_Vi (Y := YC) (ci := 6) (n := 1) (k := 0) (As := [.int a1]) (rest := []) rfl (by decide) vw_X6_165 ⟨Nat.le_of_ble_eq_true rfl, Nat.le_of_ble_eq_true rfl, Nat.zero_le _, Nat.zero_le _⟩ hc hw hl.1 (Nat.lt_of_lt_of_le (by decide) hM) rfl (m_X6_hasActs l hM a1 σ h) rfl rfl (Nat.le_of_ble_eq_true rfl) dX6_why_2 (fun r2 σ1 H locs h hw => ?_)
  refine lv_if_ne (tgt := 11) hx hb dX6_why_5 (by decide) (fun c3 => ?_) (fun c3 => ?_)
  · replace h := h.2 c3
    refine lv_aload_n hx hb dX6_why_11 rfl (lv_at hl 0 rfl) ?_
    refine lv_iload_n hx hb dX6_why_12 rfl (lv_at hl 1 rfl) ?_
    refine g_Vv (Y := YC) (ci := 6) (n := 1) (k := 5) (As := [.int a1]) (rest := []) rfl (by decide) vw_X6_171 ⟨Nat.le_of_ble_eq_true rfl, Nat.le_of_ble_eq_true rfl, Nat.zero_le _, Nat.zero_le _⟩ hc hw hl.1 (Nat.lt_of_lt_of_le (by decide) hM) rfl (m_X6_cookActs l hM a1 σ1 h) rfl rfl (Nat.le_of_ble_eq_true rfl) dX6_why_13 (fun σ4 H locs h hw => ?_)
    refine lv_aload_n hx hb dX6_why_16 rfl (lv_at hl 0 rfl) ?_
    refine fg_X6_57 hc hw (Nat.lt_of_lt_of_le (by decide) hM) rfl dX6_why_17 ?_
    refine g_Vi (Y := YC) (ci := 3) (n := 0) (k := 0) (As := []) (rest := []) rfl (by decide) vw_X6_184 ⟨Nat.le_of_ble_eq_true rfl, Nat.le_of_ble_eq_true rfl, Nat.zero_le _, Nat.zero_le _⟩ hc hw hl.1 (Nat.lt_of_lt_of_le (by decide) hM) rfl (m_X3_holdsNow l hM 12 σ4 h) rfl rfl (Nat.le_of_ble_eq_true rfl) dX6_why_20 (fun r6 σ5 H locs h hw => ?_)
    refine lv_if_eq (tgt := 28) hx hb dX6_why_23 (by decide) (fun c7 => ?_) (fun c7 => ?_)
    · replace h := h.1 c7
      refine lv_iconst (v := 0) hx hb dX6_why_28 (by decide) ?_
      refine lv_istore_n (lv' := [(2, .int 0), (0, .ref (ad 0)), (1, .int a1)]) hx hb dX6_why_29 rfl hl (by decide) rfl (fun ls hl => ?_)
      obtain ⟨n, h⟩ := h
      exact bl_X6_why_30 hM hc hr n a1 0 σ5 _ _ _ h  hw (lv_sub hl [1, 2, 0] rfl)
    · replace h := h.2 c7
      refine lv_iconst (v := (-1)) hx hb dX6_why_26 (by decide) ?_
      exact g_iret hc hr hw h dX6_why_27
  · replace h := h.1 c3
    refine lv_bipush (v := (-5)) hx hb dX6_why_8 (by decide) ?_
    exact g_iret hc hr hw h dX6_why_10
def w_X6_order_31 (M : Nat) (post : Int32 → St → Prop) (k_31 : Int32 → Int32 → Int32 → Int32 → St → Prop) (v1 : Int32) (v2 : Int32) (v3 : Int32) (v4 : Int32) (σ : St) : Prop :=
  ((gi σ 0 3) ≤ (v4 + 1) → ((v1 = 0 → (post v3 σ)) ∧ (¬ (v1 = 0) → (post v2 σ)))) ∧ (¬ ((gi σ 0 3) ≤ (v4 + 1)) → (w_X6_beginPot M (fun σ3 => (w_X6_runActs M (fun σ4 => (w_X6_runActs M (fun σ5 => (w_X6_runActs M (fun σ6 => (w_X6_runActs M (fun σ7 => ((v2 ≤ (gi σ7 12 11) → (∀ x9 : Int32, x9 = v4 + 1 → (k_31 v1 v2 v3 x9 σ7))) ∧ (¬ (v2 ≤ (gi σ7 12 11)) → (∀ x10 : Int32, x10 = v4 + 1 → (k_31 v1 (gi σ7 12 11) v4 x10 σ7))))) (v4 + 2) (gi σ6 0 3) σ6)) v4 (v4 + 1) σ5)) (v4 + 1) (v4 + 2) σ4)) 0 v4 σ3)) σ))
set_option maxHeartbeats 4000000 in
set_option maxRecDepth 20000 in
theorem b_X6_order_31 {Γ : Gm} {ad : Nat → Nat} {p : Program} {l : Launch} {e : Env} {s : State} {m : MethodId} {args : Array Value} {below : List Frame} {meth : Method} {c : Code} {M : Nat} (hM : 53 ≤ M) {post : Int32 → St → Prop} {k_31 : Int32 → Int32 → Int32 → Int32 → St → Prop} (hk_31 : ∀ (v1 : Int32) (v2 : Int32) (v3 : Int32) (v4 : Int32) (σ : St) (H : Heap) (locs : List Loc) (ls : Array Slot), k_31 v1 v2 v3 v4 σ → WH Γ YC M ad σ s H locs → lv_has ls 5 [(0, .ref (ad 0)), (1, .int v1), (2, .int v2), (3, .int v3), (4, .int v4)] → W p l e (rmL 6 0 0) s m args below meth c H locs 0 0 (MQ below (va_Qi post (fun u t => WC Γ YC M ad u t) (AA Γ)) args s 0 0 (AA Γ)) (F0 m 31 ls []))
    (v1 : Int32) (v2 : Int32) (v3 : Int32) (v4 : Int32) (σ : St) (H : Heap) (locs : List Loc) (ls : Array Slot) (h : w_X6_order_31 M post k_31 v1 v2 v3 v4 σ) (hc : CX Γ p s m args meth c cX6_order RX6 5) (hr : meth.sig.returnType = (Option.some Jvm.ClassFile.FieldType.int)) (hw : WH Γ YC M ad σ s H locs) (hl : lv_has ls 5 [(0, .ref (ad 0)), (1, .int v1), (2, .int v2), (3, .int v3), (4, .int v4)]) :
    W p l e (rmL 6 0 0) s m args below meth c H locs 0 0 (MQ below (va_Qi post (fun u t => WC Γ YC M ad u t) (AA Γ)) args s 0 0 (AA Γ)) (F0 m 31 ls []) := by
  have hx := hc.1
  have hb := hc.2.1
  unfold w_X6_order_31 at h
  refine lv_iload hx hb dX6_order_31 (lv_at hl 4 rfl) ?_
  refine lv_iconst (v := 1) hx hb dX6_order_33 (by decide) ?_
  refine lv_iadd hx hb dX6_order_34 ?_
  refine lv_aload_n hx hb dX6_order_35 rfl (lv_at hl 0 rfl) ?_
  refine fg_X6_120 hc hw (Nat.lt_of_lt_of_le (by decide) hM) rfl dX6_order_36 ?_
  refine lv_icmp_ge (tgt := 115) hx hb dX6_order_39 (by decide) (fun c1 => ?_) (fun c1 => ?_)
  · replace h := h.1 c1
    refine lv_iload_n hx hb dX6_order_115 rfl (lv_at hl 1 rfl) ?_
    refine lv_if_ne (tgt := 123) hx hb dX6_order_116 (by decide) (fun c2 => ?_) (fun c2 => ?_)
    · replace h := h.2 c2
      refine lv_iload_n hx hb dX6_order_123 rfl (lv_at hl 2 rfl) ?_
      exact g_iret hc hr hw h dX6_order_124
    · replace h := h.1 c2
      refine lv_iload_n hx hb dX6_order_119 rfl (lv_at hl 3 rfl) ?_
      refine lv_goto (tgt := 124) hx hb dX6_order_120 (by decide) ?_
      exact g_iret hc hr hw h dX6_order_124
  · replace h := h.2 c1
    refine lv_aload_n hx hb dX6_order_42 rfl (lv_at hl 0 rfl) ?_
    refine g_Vv (Y := YC) (ci := 6) (n := 0) (k := 1) (As := []) (rest := []) rfl (by decide) vw_X6_220 ⟨Nat.le_of_ble_eq_true rfl, Nat.le_of_ble_eq_true rfl, Nat.zero_le _, Nat.zero_le _⟩ hc hw hl.1 (Nat.lt_of_lt_of_le (by decide) hM) rfl (m_X6_beginPot l hM σ h) rfl rfl (Nat.le_of_ble_eq_true rfl) dX6_order_43 (fun σ3 H locs h hw => ?_)
    refine lv_aload_n hx hb dX6_order_46 rfl (lv_at hl 0 rfl) ?_
    refine lv_iconst (v := 0) hx hb dX6_order_47 (by decide) ?_
    refine lv_iload hx hb dX6_order_48 (lv_at hl 4 rfl) ?_
    refine g_Vv (Y := YC) (ci := 6) (n := 2) (k := 4) (As := [.int 0, .int v4]) (rest := []) rfl (by decide) vw_X6_223 ⟨Nat.le_of_ble_eq_true rfl, Nat.le_of_ble_eq_true rfl, Nat.zero_le _, Nat.zero_le _⟩ hc hw hl.1 (Nat.lt_of_lt_of_le (by decide) hM) rfl (m_X6_runActs l hM 0 v4 σ3 h) rfl rfl (Nat.le_of_ble_eq_true rfl) dX6_order_50 (fun σ4 H locs h hw => ?_)
    refine lv_aload_n hx hb dX6_order_53 rfl (lv_at hl 0 rfl) ?_
    refine lv_iload hx hb dX6_order_54 (lv_at hl 4 rfl) ?_
    refine lv_iconst (v := 1) hx hb dX6_order_56 (by decide) ?_
    refine lv_iadd hx hb dX6_order_57 ?_
    refine lv_iload hx hb dX6_order_58 (lv_at hl 4 rfl) ?_
    refine lv_iconst (v := 2) hx hb dX6_order_60 (by decide) ?_
    refine lv_iadd hx hb dX6_order_61 ?_
    refine g_Vv (Y := YC) (ci := 6) (n := 2) (k := 4) (As := [.int (v4 + 1), .int (v4 + 2)]) (rest := []) rfl (by decide) vw_X6_223 ⟨Nat.le_of_ble_eq_true rfl, Nat.le_of_ble_eq_true rfl, Nat.zero_le _, Nat.zero_le _⟩ hc hw hl.1 (Nat.lt_of_lt_of_le (by decide) hM) rfl (m_X6_runActs l hM (v4 + 1) (v4 + 2) σ4 h) rfl rfl (Nat.le_of_ble_eq_true rfl) dX6_order_62 (fun σ5 H locs h hw => ?_)
    refine lv_aload_n hx hb dX6_order_65 rfl (lv_at hl 0 rfl) ?_
    refine lv_iload hx hb dX6_order_66 (lv_at hl 4 rfl) ?_
    refine lv_iload hx hb dX6_order_68 (lv_at hl 4 rfl) ?_
    refine lv_iconst (v := 1) hx hb dX6_order_70 (by decide) ?_
    refine lv_iadd hx hb dX6_order_71 ?_
    refine g_Vv (Y := YC) (ci := 6) (n := 2) (k := 4) (As := [.int v4, .int (v4 + 1)]) (rest := []) rfl (by decide) vw_X6_223 ⟨Nat.le_of_ble_eq_true rfl, Nat.le_of_ble_eq_true rfl, Nat.zero_le _, Nat.zero_le _⟩ hc hw hl.1 (Nat.lt_of_lt_of_le (by decide) hM) rfl (m_X6_runActs l hM v4 (v4 + 1) σ5 h) rfl rfl (Nat.le_of_ble_eq_true rfl) dX6_order_72 (fun σ6 H locs h hw => ?_)
    refine lv_aload_n hx hb dX6_order_75 rfl (lv_at hl 0 rfl) ?_
    refine lv_iload hx hb dX6_order_76 (lv_at hl 4 rfl) ?_
    refine lv_iconst (v := 2) hx hb dX6_order_78 (by decide) ?_
    refine lv_iadd hx hb dX6_order_79 ?_
    refine lv_aload_n hx hb dX6_order_80 rfl (lv_at hl 0 rfl) ?_
    refine fg_X6_120 hc hw (Nat.lt_of_lt_of_le (by decide) hM) rfl dX6_order_81 ?_
    refine g_Vv (Y := YC) (ci := 6) (n := 2) (k := 4) (As := [.int (v4 + 2), .int (gi σ6 0 3)]) (rest := []) rfl (by decide) vw_X6_223 ⟨Nat.le_of_ble_eq_true rfl, Nat.le_of_ble_eq_true rfl, Nat.zero_le _, Nat.zero_le _⟩ hc hw hl.1 (Nat.lt_of_lt_of_le (by decide) hM) rfl (m_X6_runActs l hM (v4 + 2) (gi σ6 0 3) σ6 h) rfl rfl (Nat.le_of_ble_eq_true rfl) dX6_order_84 (fun σ7 H locs h hw => ?_)
    refine lv_aload_n hx hb dX6_order_87 rfl (lv_at hl 0 rfl) ?_
    refine fg_X6_57 hc hw (Nat.lt_of_lt_of_le (by decide) hM) rfl dX6_order_88 ?_
    refine fg_X6_217 (o := 12) hc hw (Nat.lt_of_lt_of_le (by decide) hM) rfl dX6_order_91 ?_
    refine lv_iload_n hx hb dX6_order_94 rfl (lv_at hl 2 rfl) ?_
    refine lv_icmp_ge (tgt := 109) hx hb dX6_order_95 (by decide) (fun c8 => ?_) (fun c8 => ?_)
    · replace h := h.1 c8
      obtain ⟨x9, ex9⟩ : ∃ z, z = v4 + 1 := ⟨_, rfl⟩
      replace h := h x9 ex9
      refine lv_iinc (v := x9) (lv' := [(4, .int x9), (0, .ref (ad 0)), (1, .int v1), (2, .int v2), (3, .int v3)]) hx hb dX6_order_109 hl (k := 4) rfl (by rw [ex9]; rfl) (by decide) rfl (fun ls hl => ?_)
      refine lv_goto (tgt := 31) hx hb dX6_order_112 (by decide) ?_
      exact hk_31 v1 v2 v3 x9 σ7 _ _ _ h  hw (lv_sub hl [1, 2, 3, 4, 0] rfl)
    · replace h := h.2 c8
      refine lv_aload_n hx hb dX6_order_98 rfl (lv_at hl 0 rfl) ?_
      refine fg_X6_57 hc hw (Nat.lt_of_lt_of_le (by decide) hM) rfl dX6_order_99 ?_
      refine fg_X6_217 (o := 12) hc hw (Nat.lt_of_lt_of_le (by decide) hM) rfl dX6_order_102 ?_
      refine lv_istore_n (lv' := [(2, .int (gi σ7 12 11)), (0, .ref (ad 0)), (1, .int v1), (3, .int v3), (4, .int v4)]) hx hb dX6_order_105 rfl hl (by decide) rfl (fun ls hl => ?_)
      refine lv_iload hx hb dX6_order_106 (lv_at hl 4 rfl) ?_
      refine lv_istore_n (lv' := [(3, .int v4), (2, .int (gi σ7 12 11)), (0, .ref (ad 0)), (1, .int v1), (4, .int v4)]) hx hb dX6_order_108 rfl hl (by decide) rfl (fun ls hl => ?_)
      obtain ⟨x10, ex10⟩ : ∃ z, z = v4 + 1 := ⟨_, rfl⟩
      replace h := h x10 ex10
      refine lv_iinc (v := x10) (lv' := [(4, .int x10), (3, .int v4), (2, .int (gi σ7 12 11)), (0, .ref (ad 0)), (1, .int v1)]) hx hb dX6_order_109 hl (k := 4) rfl (by rw [ex10]; rfl) (by decide) rfl (fun ls hl => ?_)
      refine lv_goto (tgt := 31) hx hb dX6_order_112 (by decide) ?_
      exact hk_31 v1 (gi σ7 12 11) v4 x10 σ7 _ _ _ h  hw (lv_sub hl [3, 4, 2, 1, 0] rfl)
def wl_X6_order_31 (M : Nat) (post : Int32 → St → Prop) : Nat → Int32 → Int32 → Int32 → Int32 → St → Prop
  | 0, _, _, _, _, _ => False
  | n + 1, v1, v2, v3, v4, σ => w_X6_order_31 M post (wl_X6_order_31 M post n) v1 v2 v3 v4 σ
set_option maxHeartbeats 4000000 in
theorem bl_X6_order_31 {Γ : Gm} {ad : Nat → Nat} {p : Program} {l : Launch} {e : Env} {s : State} {m : MethodId} {args : Array Value} {below : List Frame} {meth : Method} {c : Code} {M : Nat} (hM : 53 ≤ M) {post : Int32 → St → Prop}
    (hc : CX Γ p s m args meth c cX6_order RX6 5) (hr : meth.sig.returnType = (Option.some Jvm.ClassFile.FieldType.int)) :
    ∀ (n : Nat) (v1 : Int32) (v2 : Int32) (v3 : Int32) (v4 : Int32) (σ : St) (H : Heap) (locs : List Loc) (ls : Array Slot), wl_X6_order_31 M post n v1 v2 v3 v4 σ → WH Γ YC M ad σ s H locs → lv_has ls 5 [(0, .ref (ad 0)), (1, .int v1), (2, .int v2), (3, .int v3), (4, .int v4)] → W p l e (rmL 6 0 0) s m args below meth c H locs 0 0 (MQ below (va_Qi post (fun u t => WC Γ YC M ad u t) (AA Γ)) args s 0 0 (AA Γ)) (F0 m 31 ls []) := by
  intro n
  induction n with
  | zero => intro v1 v2 v3 v4 σ H locs ls h; exact h.elim
  | succ n ih =>
    intro v1 v2 v3 v4 σ H locs ls h  hw hl
    exact b_X6_order_31 hM ih v1 v2 v3 v4 σ H locs ls h  hc hr hw hl
def w_X6_order (M : Nat) (post : Int32 → St → Prop) (a1 : Int32) (σ : St) : Prop :=
  w_X6_isBit M (fun r2 σ1 => ((r2 = 0 → (post (-2) σ1)) ∧ (¬ (r2 = 0) → (w_X6_cookActs M (fun σ4 => (∃ n, wl_X6_order_31 M post n a1 (gi σ4 12 11) (-1) 0 σ4)) (gi σ1 0 3) σ1)))) a1 σ
set_option maxHeartbeats 4000000 in
set_option maxRecDepth 20000 in
theorem m_X6_order {Γ : Gm} {ad : Nat → Nat} {M : Nat} (l : Launch) (hM : 53 ≤ M) {post : Int32 → St → Prop} (a1 : Int32) (σ : St) (h : w_X6_order M post a1 σ) : Ci l Γ YC M ad σ yX6_order cX6_order 5 (Option.some Jvm.ClassFile.FieldType.int) 6 0 0 [.ref (ad 0), .int a1] post := by
  refine g_start (by decide) (Nat.le_of_ble_eq_true rfl) ?_
  intro p e s m args below meth c ls hc hr hn hl hw
  have hc : CX Γ p s m args meth c cX6_order RX6 5 := hc
  have hl : lv_has ls 5 [(0, .ref (ad 0)), (1, .int a1)] := hl
  have hx := hc.1
  have hb := hc.2.1
  unfold w_X6_order at h
  generalize hHH : s.heap = H0 at hw ⊢
  refine lv_iload_n hx hb dX6_order_0 rfl (lv_at hl 1 rfl) ?_
  refine g_Si (Y := YC) (n := 1) (k := 0) (As := [.int a1]) (rest := []) vw_X6_175 ⟨Nat.le_of_ble_eq_true rfl, Nat.le_of_ble_eq_true rfl, Nat.zero_le _, Nat.zero_le _⟩ hc hw hl.1 (m_X6_isBit l hM a1 σ h) rfl rfl (Nat.le_of_ble_eq_true rfl) dX6_order_1 (fun r2 σ1 H locs h hw => ?_)
  refine lv_if_ne (tgt := 10) hx hb dX6_order_4 (by decide) (fun c3 => ?_) (fun c3 => ?_)
  · replace h := h.2 c3
    refine lv_aload_n hx hb dX6_order_10 rfl (lv_at hl 0 rfl) ?_
    refine lv_aload_n hx hb dX6_order_11 rfl (lv_at hl 0 rfl) ?_
    refine fg_X6_120 hc hw (Nat.lt_of_lt_of_le (by decide) hM) rfl dX6_order_12 ?_
    refine g_Vv (Y := YC) (ci := 6) (n := 1) (k := 5) (As := [.int (gi σ1 0 3)]) (rest := []) rfl (by decide) vw_X6_171 ⟨Nat.le_of_ble_eq_true rfl, Nat.le_of_ble_eq_true rfl, Nat.zero_le _, Nat.zero_le _⟩ hc hw hl.1 (Nat.lt_of_lt_of_le (by decide) hM) rfl (m_X6_cookActs l hM (gi σ1 0 3) σ1 h) rfl rfl (Nat.le_of_ble_eq_true rfl) dX6_order_15 (fun σ4 H locs h hw => ?_)
    refine lv_aload_n hx hb dX6_order_18 rfl (lv_at hl 0 rfl) ?_
    refine fg_X6_57 hc hw (Nat.lt_of_lt_of_le (by decide) hM) rfl dX6_order_19 ?_
    refine fg_X6_217 (o := 12) hc hw (Nat.lt_of_lt_of_le (by decide) hM) rfl dX6_order_22 ?_
    refine lv_istore_n (lv' := [(2, .int (gi σ4 12 11)), (0, .ref (ad 0)), (1, .int a1)]) hx hb dX6_order_25 rfl hl (by decide) rfl (fun ls hl => ?_)
    refine lv_iconst (v := (-1)) hx hb dX6_order_26 (by decide) ?_
    refine lv_istore_n (lv' := [(3, .int (-1)), (2, .int (gi σ4 12 11)), (0, .ref (ad 0)), (1, .int a1)]) hx hb dX6_order_27 rfl hl (by decide) rfl (fun ls hl => ?_)
    refine lv_iconst (v := 0) hx hb dX6_order_28 (by decide) ?_
    refine lv_istore (lv' := [(4, .int 0), (3, .int (-1)), (2, .int (gi σ4 12 11)), (0, .ref (ad 0)), (1, .int a1)]) hx hb dX6_order_29 hl (by decide) rfl (fun ls hl => ?_)
    obtain ⟨n, h⟩ := h
    exact bl_X6_order_31 hM hc hr n a1 (gi σ4 12 11) (-1) 0 σ4 _ _ _ h  hw (lv_sub hl [3, 4, 2, 1, 0] rfl)
  · replace h := h.1 c3
    refine lv_bipush (v := (-2)) hx hb dX6_order_7 (by decide) ?_
    exact g_iret hc hr hw h dX6_order_9
def w_X6_strokes_32 (M : Nat) (post : Int32 → St → Prop) (k_32 : Int32 → Int32 → St → Prop) (v2 : Int32) (v3 : Int32) (σ : St) : Prop :=
  (60 < v3 → (post (-1) σ)) ∧ (¬ (60 < v3) → (((gi σ 12 11) = 0 → (post v3 σ)) ∧ (¬ ((gi σ 12 11) = 0) → (w_X3_beat M (fun σ3 => (w_X3_passMinute M (fun σ4 => (∀ x5 : Int32, x5 = v3 + 1 → (k_32 v2 x5 σ4))) 12 1 σ3)) 12 v2 σ))))
set_option maxHeartbeats 4000000 in
set_option maxRecDepth 20000 in
theorem b_X6_strokes_32 {Γ : Gm} {ad : Nat → Nat} {p : Program} {l : Launch} {e : Env} {s : State} {m : MethodId} {args : Array Value} {below : List Frame} {meth : Method} {c : Code} {M : Nat} (hM : 53 ≤ M) {post : Int32 → St → Prop} {k_32 : Int32 → Int32 → St → Prop} (hk_32 : ∀ (v2 : Int32) (v3 : Int32) (σ : St) (H : Heap) (locs : List Loc) (ls : Array Slot), k_32 v2 v3 σ → WH Γ YC M ad σ s H locs → lv_has ls 4 [(0, .ref (ad 0)), (2, .int v2), (3, .int v3)] → W p l e (rmL 6 0 0) s m args below meth c H locs 0 0 (MQ below (va_Qi post (fun u t => WC Γ YC M ad u t) (AA Γ)) args s 0 0 (AA Γ)) (F0 m 32 ls []))
    (v2 : Int32) (v3 : Int32) (σ : St) (H : Heap) (locs : List Loc) (ls : Array Slot) (h : w_X6_strokes_32 M post k_32 v2 v3 σ) (hc : CX Γ p s m args meth c cX6_strokes RX6 4) (hr : meth.sig.returnType = (Option.some Jvm.ClassFile.FieldType.int)) (hw : WH Γ YC M ad σ s H locs) (hl : lv_has ls 4 [(0, .ref (ad 0)), (2, .int v2), (3, .int v3)]) :
    W p l e (rmL 6 0 0) s m args below meth c H locs 0 0 (MQ below (va_Qi post (fun u t => WC Γ YC M ad u t) (AA Γ)) args s 0 0 (AA Γ)) (F0 m 32 ls []) := by
  have hx := hc.1
  have hb := hc.2.1
  unfold w_X6_strokes_32 at h
  refine lv_iload_n hx hb dX6_strokes_32 rfl (lv_at hl 2 rfl) ?_
  refine lv_bipush (v := 60) hx hb dX6_strokes_33 (by decide) ?_
  refine lv_icmp_gt (tgt := 72) hx hb dX6_strokes_35 (by decide) (fun c1 => ?_) (fun c1 => ?_)
  · replace h := h.1 c1
    refine lv_iconst (v := (-1)) hx hb dX6_strokes_72 (by decide) ?_
    exact g_iret hc hr hw h dX6_strokes_73
  · replace h := h.2 c1
    refine lv_aload_n hx hb dX6_strokes_38 rfl (lv_at hl 0 rfl) ?_
    refine fg_X6_57 hc hw (Nat.lt_of_lt_of_le (by decide) hM) rfl dX6_strokes_39 ?_
    refine fg_X6_217 (o := 12) hc hw (Nat.lt_of_lt_of_le (by decide) hM) rfl dX6_strokes_42 ?_
    refine lv_if_ne (tgt := 50) hx hb dX6_strokes_45 (by decide) (fun c2 => ?_) (fun c2 => ?_)
    · replace h := h.2 c2
      refine lv_aload_n hx hb dX6_strokes_50 rfl (lv_at hl 0 rfl) ?_
      refine fg_X6_57 hc hw (Nat.lt_of_lt_of_le (by decide) hM) rfl dX6_strokes_51 ?_
      refine lv_iload_n hx hb dX6_strokes_54 rfl (lv_at hl 1 rfl) ?_
      refine g_Vv (Y := YC) (ci := 3) (n := 1) (k := 0) (As := [.int v2]) (rest := []) rfl (by decide) vw_X6_226 ⟨Nat.le_of_ble_eq_true rfl, Nat.le_of_ble_eq_true rfl, Nat.zero_le _, Nat.zero_le _⟩ hc hw hl.1 (Nat.lt_of_lt_of_le (by decide) hM) rfl (m_X3_beat l hM 12 v2 σ h) rfl rfl (Nat.le_of_ble_eq_true rfl) dX6_strokes_55 (fun σ3 H locs h hw => ?_)
      refine lv_aload_n hx hb dX6_strokes_58 rfl (lv_at hl 0 rfl) ?_
      refine fg_X6_57 hc hw (Nat.lt_of_lt_of_le (by decide) hM) rfl dX6_strokes_59 ?_
      refine lv_iconst (v := 1) hx hb dX6_strokes_62 (by decide) ?_
      refine g_Vv (Y := YC) (ci := 3) (n := 1) (k := 2) (As := [.int 1]) (rest := []) rfl (by decide) vw_X6_187 ⟨Nat.le_of_ble_eq_true rfl, Nat.le_of_ble_eq_true rfl, Nat.zero_le _, Nat.zero_le _⟩ hc hw hl.1 (Nat.lt_of_lt_of_le (by decide) hM) rfl (m_X3_passMinute l hM 12 1 σ3 h) rfl rfl (Nat.le_of_ble_eq_true rfl) dX6_strokes_63 (fun σ4 H locs h hw => ?_)
      obtain ⟨x5, ex5⟩ : ∃ z, z = v3 + 1 := ⟨_, rfl⟩
      replace h := h x5 ex5
      refine lv_iinc (v := x5) (lv' := [(3, .int x5), (0, .ref (ad 0)), (2, .int v2)]) hx hb dX6_strokes_66 hl (k := 2) rfl (by rw [ex5]; rfl) (by decide) rfl (fun ls hl => ?_)
      refine lv_goto (tgt := 32) hx hb dX6_strokes_69 (by decide) ?_
      exact hk_32 v2 x5 σ4 _ _ _ h  hw (lv_sub hl [1, 2, 0] rfl)
    · replace h := h.1 c2
      refine lv_iload_n hx hb dX6_strokes_48 rfl (lv_at hl 2 rfl) ?_
      exact g_iret hc hr hw h dX6_strokes_49
def wl_X6_strokes_32 (M : Nat) (post : Int32 → St → Prop) : Nat → Int32 → Int32 → St → Prop
  | 0, _, _, _ => False
  | n + 1, v2, v3, σ => w_X6_strokes_32 M post (wl_X6_strokes_32 M post n) v2 v3 σ
set_option maxHeartbeats 4000000 in
theorem bl_X6_strokes_32 {Γ : Gm} {ad : Nat → Nat} {p : Program} {l : Launch} {e : Env} {s : State} {m : MethodId} {args : Array Value} {below : List Frame} {meth : Method} {c : Code} {M : Nat} (hM : 53 ≤ M) {post : Int32 → St → Prop}
    (hc : CX Γ p s m args meth c cX6_strokes RX6 4) (hr : meth.sig.returnType = (Option.some Jvm.ClassFile.FieldType.int)) :
    ∀ (n : Nat) (v2 : Int32) (v3 : Int32) (σ : St) (H : Heap) (locs : List Loc) (ls : Array Slot), wl_X6_strokes_32 M post n v2 v3 σ → WH Γ YC M ad σ s H locs → lv_has ls 4 [(0, .ref (ad 0)), (2, .int v2), (3, .int v3)] → W p l e (rmL 6 0 0) s m args below meth c H locs 0 0 (MQ below (va_Qi post (fun u t => WC Γ YC M ad u t) (AA Γ)) args s 0 0 (AA Γ)) (F0 m 32 ls []) := by
  intro n
  induction n with
  | zero => intro v2 v3 σ H locs ls h; exact h.elim
  | succ n ih =>
    intro v2 v3 σ H locs ls h  hw hl
    exact b_X6_strokes_32 hM ih v2 v3 σ H locs ls h  hc hr hw hl
def w_X6_strokes (M : Nat) (post : Int32 → St → Prop) (a1 : Int32) (a2 : Int32) (σ : St) : Prop :=
  w_X6_hasActs M (fun r2 σ1 => ((r2 = 0 → (post (-5) σ1)) ∧ (¬ (r2 = 0) → ((a2 < 1 → (post (-7) σ1)) ∧ (¬ (a2 < 1) → ((a2 ≤ 9 → (w_X6_cookActs M (fun σ6 => (∃ n, wl_X6_strokes_32 M post n a2 0 σ6)) a1 σ1)) ∧ (¬ (a2 ≤ 9) → (post (-7) σ1)))))))) a1 σ
set_option maxHeartbeats 4000000 in
set_option maxRecDepth 20000 in
theorem m_X6_strokes {Γ : Gm} {ad : Nat → Nat} {M : Nat} (l : Launch) (hM : 53 ≤ M) {post : Int32 → St → Prop} (a1 : Int32) (a2 : Int32) (σ : St) (h : w_X6_strokes M post a1 a2 σ) : Ci l Γ YC M ad σ yX6_strokes cX6_strokes 4 (Option.some Jvm.ClassFile.FieldType.int) 6 0 0 [.ref (ad 0), .int a1, .int a2] post := by
  refine g_start (by decide) (Nat.le_of_ble_eq_true rfl) ?_
  intro p e s m args below meth c ls hc hr hn hl hw
  have hc : CX Γ p s m args meth c cX6_strokes RX6 4 := hc
  have hl : lv_has ls 4 [(0, .ref (ad 0)), (1, .int a1), (2, .int a2)] := hl
  have hx := hc.1
  have hb := hc.2.1
  unfold w_X6_strokes at h
  generalize hHH : s.heap = H0 at hw ⊢
  refine lv_aload_n hx hb dX6_strokes_0 rfl (lv_at hl 0 rfl) ?_
  refine lv_iload_n hx hb dX6_strokes_1 rfl (lv_at hl 1 rfl) ?_
  refine g_Vi (Y := YC) (ci := 6) (n := 1) (k := 0) (As := [.int a1]) (rest := []) rfl (by decide) vw_X6_165 ⟨Nat.le_of_ble_eq_true rfl, Nat.le_of_ble_eq_true rfl, Nat.zero_le _, Nat.zero_le _⟩ hc hw hl.1 (Nat.lt_of_lt_of_le (by decide) hM) rfl (m_X6_hasActs l hM a1 σ h) rfl rfl (Nat.le_of_ble_eq_true rfl) dX6_strokes_2 (fun r2 σ1 H locs h hw => ?_)
  refine lv_if_ne (tgt := 11) hx hb dX6_strokes_5 (by decide) (fun c3 => ?_) (fun c3 => ?_)
  · replace h := h.2 c3
    refine lv_iload_n hx hb dX6_strokes_11 rfl (lv_at hl 2 rfl) ?_
    refine lv_iconst (v := 1) hx hb dX6_strokes_12 (by decide) ?_
    refine lv_icmp_lt (tgt := 22) hx hb dX6_strokes_13 (by decide) (fun c4 => ?_) (fun c4 => ?_)
    · replace h := h.1 c4
      refine lv_bipush (v := (-7)) hx hb dX6_strokes_22 (by decide) ?_
      exact g_iret hc hr hw h dX6_strokes_24
    · replace h := h.2 c4
      refine lv_iload_n hx hb dX6_strokes_16 rfl (lv_at hl 2 rfl) ?_
      refine lv_bipush (v := 9) hx hb dX6_strokes_17 (by decide) ?_
      refine lv_icmp_le (tgt := 25) hx hb dX6_strokes_19 (by decide) (fun c5 => ?_) (fun c5 => ?_)
      · replace h := h.1 c5
        refine lv_aload_n hx hb dX6_strokes_25 rfl (lv_at hl 0 rfl) ?_
        refine lv_iload_n hx hb dX6_strokes_26 rfl (lv_at hl 1 rfl) ?_
        refine g_Vv (Y := YC) (ci := 6) (n := 1) (k := 5) (As := [.int a1]) (rest := []) rfl (by decide) vw_X6_171 ⟨Nat.le_of_ble_eq_true rfl, Nat.le_of_ble_eq_true rfl, Nat.zero_le _, Nat.zero_le _⟩ hc hw hl.1 (Nat.lt_of_lt_of_le (by decide) hM) rfl (m_X6_cookActs l hM a1 σ1 h) rfl rfl (Nat.le_of_ble_eq_true rfl) dX6_strokes_27 (fun σ6 H locs h hw => ?_)
        refine lv_iconst (v := 0) hx hb dX6_strokes_30 (by decide) ?_
        refine lv_istore_n (lv' := [(3, .int 0), (0, .ref (ad 0)), (1, .int a1), (2, .int a2)]) hx hb dX6_strokes_31 rfl hl (by decide) rfl (fun ls hl => ?_)
        obtain ⟨n, h⟩ := h
        exact bl_X6_strokes_32 hM hc hr n a2 0 σ6 _ _ _ h  hw (lv_sub hl [1, 3, 0] rfl)
      · replace h := h.2 c5
        refine lv_bipush (v := (-7)) hx hb dX6_strokes_22 (by decide) ?_
        exact g_iret hc hr hw h dX6_strokes_24
  · replace h := h.1 c3
    refine lv_bipush (v := (-5)) hx hb dX6_strokes_8 (by decide) ?_
    exact g_iret hc hr hw h dX6_strokes_10
def w_X6_week_39 (M : Nat) (post : Int32 → St → Prop) (k_39 : Int32 → Option Nat → Int32 → Int32 → Int32 → Int32 → St → Prop) (v2 : Int32) (v3 : Option Nat) (v4 : Int32) (v5 : Int32) (v6 : Int32) (v7 : Int32) (σ : St) : Prop :=
  (60 < v7 → (∃ o2 : Nat, v3 = some o2 ∧ (kdC o2 = 1 ∧ o2 < M) ∧ (w_X1_put M (fun σ3 => ((v2 = 0 → (post v5 σ3)) ∧ (¬ (v2 = 0) → (post v6 σ3)))) o2 0 v4 σ))) ∧ (¬ (60 < v7) → (∃ o5 : Nat, v3 = some o5 ∧ (kdC o5 = 1 ∧ o5 < M) ∧ (w_X1_put M (fun σ6 => (w_X6_cookActs M (fun σ7 => (w_X3_threadsLong M (fun r9 σ8 => ((r9 ≤ v6 → (∀ x11 : Int32, x11 = v7 + 1 → (k_39 v2 (some o5) v4 v5 v6 x11 σ8))) ∧ (¬ (r9 ≤ v6) → (∀ x12 : Int32, x12 = v7 + 1 → (k_39 v2 (some o5) v4 v7 r9 x12 σ8))))) 12 σ7)) (gi σ6 0 3) σ6)) o5 0 v7 σ)))
set_option maxHeartbeats 4000000 in
set_option maxRecDepth 20000 in
theorem b_X6_week_39 {Γ : Gm} {ad : Nat → Nat} {p : Program} {l : Launch} {e : Env} {s : State} {m : MethodId} {args : Array Value} {below : List Frame} {meth : Method} {c : Code} {M : Nat} (hM : 53 ≤ M) {post : Int32 → St → Prop} {k_39 : Int32 → Option Nat → Int32 → Int32 → Int32 → Int32 → St → Prop} (hk_39 : ∀ (v2 : Int32) (v3 : Option Nat) (v4 : Int32) (v5 : Int32) (v6 : Int32) (v7 : Int32) (σ : St) (H : Heap) (locs : List Loc) (ls : Array Slot), k_39 v2 v3 v4 v5 v6 v7 σ → WH Γ YC M ad σ s H locs → lv_has ls 9 [(0, .ref (ad 0)), (2, .int v2), (3, va_rf (Option.map ad v3)), (4, .int v4), (5, .int v5), (6, .int v6), (7, .int v7)] → W p l e (rmL 6 0 0) s m args below meth c H locs 0 0 (MQ below (va_Qi post (fun u t => WC Γ YC M ad u t) (AA Γ)) args s 0 0 (AA Γ)) (F0 m 39 ls []))
    (v2 : Int32) (v3 : Option Nat) (v4 : Int32) (v5 : Int32) (v6 : Int32) (v7 : Int32) (σ : St) (H : Heap) (locs : List Loc) (ls : Array Slot) (h : w_X6_week_39 M post k_39 v2 v3 v4 v5 v6 v7 σ) (hc : CX Γ p s m args meth c cX6_week RX6 9) (hr : meth.sig.returnType = (Option.some Jvm.ClassFile.FieldType.int)) (hw : WH Γ YC M ad σ s H locs) (hl : lv_has ls 9 [(0, .ref (ad 0)), (2, .int v2), (3, va_rf (Option.map ad v3)), (4, .int v4), (5, .int v5), (6, .int v6), (7, .int v7)]) :
    W p l e (rmL 6 0 0) s m args below meth c H locs 0 0 (MQ below (va_Qi post (fun u t => WC Γ YC M ad u t) (AA Γ)) args s 0 0 (AA Γ)) (F0 m 39 ls []) := by
  have hx := hc.1
  have hb := hc.2.1
  unfold w_X6_week_39 at h
  refine lv_iload hx hb dX6_week_39 (lv_at hl 6 rfl) ?_
  refine lv_bipush (v := 60) hx hb dX6_week_41 (by decide) ?_
  refine lv_icmp_gt (tgt := 91) hx hb dX6_week_43 (by decide) (fun c1 => ?_) (fun c1 => ?_)
  · replace h := h.1 c1
    refine g_aloadq hx hb dX6_week_91 rfl (lv_at hl 2 rfl) ?_
    refine lv_iconst (v := 0) hx hb dX6_week_92 (by decide) ?_
    refine lv_iload hx hb dX6_week_93 (lv_at hl 3 rfl) ?_
    obtain ⟨o2, ho_o2, hf_o2, h⟩ := h
    try rw [ho_o2] at hl
    try rw [ho_o2]
    have hl : lv_has ls 9 [(0, .ref (ad 0)), (2, .int v2), (3, .ref (ad o2)), (4, .int v4), (5, .int v5), (6, .int v6), (7, .int v7)] := hl
    refine g_Vv (Y := YC) (ci := 1) (n := 2) (k := 1) (As := [.int 0, .int v4]) (rest := []) rfl (by decide) vw_X6_105 ⟨Nat.le_of_ble_eq_true rfl, Nat.le_of_ble_eq_true rfl, Nat.zero_le _, Nat.zero_le _⟩ hc hw hl.1 hf_o2.2 hf_o2.1 (m_X1_put l hM o2 0 v4 σ h) rfl rfl (Nat.le_of_ble_eq_true rfl) dX6_week_95 (fun σ3 H locs h hw => ?_)
    refine lv_iload_n hx hb dX6_week_98 rfl (lv_at hl 1 rfl) ?_
    refine lv_if_ne (tgt := 107) hx hb dX6_week_99 (by decide) (fun c4 => ?_) (fun c4 => ?_)
    · replace h := h.2 c4
      refine lv_iload hx hb dX6_week_107 (lv_at hl 5 rfl) ?_
      exact g_iret hc hr hw h dX6_week_109
    · replace h := h.1 c4
      refine lv_iload hx hb dX6_week_102 (lv_at hl 4 rfl) ?_
      refine lv_goto (tgt := 109) hx hb dX6_week_104 (by decide) ?_
      exact g_iret hc hr hw h dX6_week_109
  · replace h := h.2 c1
    refine g_aloadq hx hb dX6_week_46 rfl (lv_at hl 2 rfl) ?_
    refine lv_iconst (v := 0) hx hb dX6_week_47 (by decide) ?_
    refine lv_iload hx hb dX6_week_48 (lv_at hl 6 rfl) ?_
    obtain ⟨o5, ho_o5, hf_o5, h⟩ := h
    try rw [ho_o5] at hl
    try rw [ho_o5]
    have hl : lv_has ls 9 [(0, .ref (ad 0)), (2, .int v2), (3, .ref (ad o5)), (4, .int v4), (5, .int v5), (6, .int v6), (7, .int v7)] := hl
    refine g_Vv (Y := YC) (ci := 1) (n := 2) (k := 1) (As := [.int 0, .int v7]) (rest := []) rfl (by decide) vw_X6_105 ⟨Nat.le_of_ble_eq_true rfl, Nat.le_of_ble_eq_true rfl, Nat.zero_le _, Nat.zero_le _⟩ hc hw hl.1 hf_o5.2 hf_o5.1 (m_X1_put l hM o5 0 v7 σ h) rfl rfl (Nat.le_of_ble_eq_true rfl) dX6_week_50 (fun σ6 H locs h hw => ?_)
    refine lv_aload_n hx hb dX6_week_53 rfl (lv_at hl 0 rfl) ?_
    refine lv_aload_n hx hb dX6_week_54 rfl (lv_at hl 0 rfl) ?_
    refine fg_X6_120 hc hw (Nat.lt_of_lt_of_le (by decide) hM) rfl dX6_week_55 ?_
    refine g_Vv (Y := YC) (ci := 6) (n := 1) (k := 5) (As := [.int (gi σ6 0 3)]) (rest := []) rfl (by decide) vw_X6_171 ⟨Nat.le_of_ble_eq_true rfl, Nat.le_of_ble_eq_true rfl, Nat.zero_le _, Nat.zero_le _⟩ hc hw hl.1 (Nat.lt_of_lt_of_le (by decide) hM) rfl (m_X6_cookActs l hM (gi σ6 0 3) σ6 h) rfl rfl (Nat.le_of_ble_eq_true rfl) dX6_week_58 (fun σ7 H locs h hw => ?_)
    refine lv_aload_n hx hb dX6_week_61 rfl (lv_at hl 0 rfl) ?_
    refine fg_X6_57 hc hw (Nat.lt_of_lt_of_le (by decide) hM) rfl dX6_week_62 ?_
    refine g_Vi (Y := YC) (ci := 3) (n := 0) (k := 2) (As := []) (rest := []) rfl (by decide) vw_X6_233 ⟨Nat.le_of_ble_eq_true rfl, Nat.le_of_ble_eq_true rfl, Nat.zero_le _, Nat.zero_le _⟩ hc hw hl.1 (Nat.lt_of_lt_of_le (by decide) hM) rfl (m_X3_threadsLong l hM 12 σ7 h) rfl rfl (Nat.le_of_ble_eq_true rfl) dX6_week_65 (fun r9 σ8 H locs h hw => ?_)
    refine lv_istore (lv' := [(8, .int r9), (0, .ref (ad 0)), (2, .int v2), (3, .ref (ad o5)), (4, .int v4), (5, .int v5), (6, .int v6), (7, .int v7)]) hx hb dX6_week_68 hl (by decide) rfl (fun ls hl => ?_)
    refine lv_iload hx hb dX6_week_70 (lv_at hl 0 rfl) ?_
    refine lv_iload hx hb dX6_week_72 (lv_at hl 6 rfl) ?_
    refine lv_icmp_le (tgt := 85) hx hb dX6_week_74 (by decide) (fun c10 => ?_) (fun c10 => ?_)
    · replace h := h.1 c10
      obtain ⟨x11, ex11⟩ : ∃ z, z = v7 + 1 := ⟨_, rfl⟩
      replace h := h x11 ex11
      refine lv_iinc (v := x11) (lv' := [(7, .int x11), (8, .int r9), (0, .ref (ad 0)), (2, .int v2), (3, .ref (ad o5)), (4, .int v4), (5, .int v5), (6, .int v6)]) hx hb dX6_week_85 hl (k := 7) rfl (by rw [ex11]; rfl) (by decide) rfl (fun ls hl => ?_)
      refine lv_goto (tgt := 39) hx hb dX6_week_88 (by decide) ?_
      exact hk_39 v2 (some o5) v4 v5 v6 x11 σ8 _ _ _ h  hw (lv_sub hl [2, 3, 4, 5, 6, 7, 0] rfl)
    · replace h := h.2 c10
      refine lv_iload hx hb dX6_week_77 (lv_at hl 7 rfl) ?_
      refine lv_istore (lv' := [(5, .int v7), (8, .int r9), (0, .ref (ad 0)), (2, .int v2), (3, .ref (ad o5)), (4, .int v4), (6, .int v6), (7, .int v7)]) hx hb dX6_week_79 hl (by decide) rfl (fun ls hl => ?_)
      refine lv_iload hx hb dX6_week_81 (lv_at hl 1 rfl) ?_
      refine lv_istore (lv' := [(6, .int r9), (5, .int v7), (8, .int r9), (0, .ref (ad 0)), (2, .int v2), (3, .ref (ad o5)), (4, .int v4), (7, .int v7)]) hx hb dX6_week_83 hl (by decide) rfl (fun ls hl => ?_)
      obtain ⟨x12, ex12⟩ : ∃ z, z = v7 + 1 := ⟨_, rfl⟩
      replace h := h x12 ex12
      refine lv_iinc (v := x12) (lv' := [(7, .int x12), (6, .int r9), (5, .int v7), (8, .int r9), (0, .ref (ad 0)), (2, .int v2), (3, .ref (ad o5)), (4, .int v4)]) hx hb dX6_week_85 hl (k := 7) rfl (by rw [ex12]; rfl) (by decide) rfl (fun ls hl => ?_)
      refine lv_goto (tgt := 39) hx hb dX6_week_88 (by decide) ?_
      exact hk_39 v2 (some o5) v4 v7 r9 x12 σ8 _ _ _ h  hw (lv_sub hl [4, 5, 6, 7, 2, 1, 0] rfl)
def wl_X6_week_39 (M : Nat) (post : Int32 → St → Prop) : Nat → Int32 → Option Nat → Int32 → Int32 → Int32 → Int32 → St → Prop
  | 0, _, _, _, _, _, _, _ => False
  | n + 1, v2, v3, v4, v5, v6, v7, σ => w_X6_week_39 M post (wl_X6_week_39 M post n) v2 v3 v4 v5 v6 v7 σ
set_option maxHeartbeats 4000000 in
theorem bl_X6_week_39 {Γ : Gm} {ad : Nat → Nat} {p : Program} {l : Launch} {e : Env} {s : State} {m : MethodId} {args : Array Value} {below : List Frame} {meth : Method} {c : Code} {M : Nat} (hM : 53 ≤ M) {post : Int32 → St → Prop}
    (hc : CX Γ p s m args meth c cX6_week RX6 9) (hr : meth.sig.returnType = (Option.some Jvm.ClassFile.FieldType.int)) :
    ∀ (n : Nat) (v2 : Int32) (v3 : Option Nat) (v4 : Int32) (v5 : Int32) (v6 : Int32) (v7 : Int32) (σ : St) (H : Heap) (locs : List Loc) (ls : Array Slot), wl_X6_week_39 M post n v2 v3 v4 v5 v6 v7 σ → WH Γ YC M ad σ s H locs → lv_has ls 9 [(0, .ref (ad 0)), (2, .int v2), (3, va_rf (Option.map ad v3)), (4, .int v4), (5, .int v5), (6, .int v6), (7, .int v7)] → W p l e (rmL 6 0 0) s m args below meth c H locs 0 0 (MQ below (va_Qi post (fun u t => WC Γ YC M ad u t) (AA Γ)) args s 0 0 (AA Γ)) (F0 m 39 ls []) := by
  intro n
  induction n with
  | zero => intro v2 v3 v4 v5 v6 v7 σ H locs ls h; exact h.elim
  | succ n ih =>
    intro v2 v3 v4 v5 v6 v7 σ H locs ls h  hw hl
    exact b_X6_week_39 hM ih v2 v3 v4 v5 v6 v7 σ H locs ls h  hc hr hw hl
def w_X6_week (M : Nat) (post : Int32 → St → Prop) (a1 : Int32) (a2 : Int32) (σ : St) : Prop :=
  w_X6_cheeseAt M (fun q2 σ1 => ((q2 = none → (post (-5) σ1)) ∧ (∀ o3 : Nat, q2 = some o3 → ((kdC o3 = 1 ∧ o3 < M) ∧ (w_X6_isBit M (fun r6 σ5 => ((r6 = 0 → (post (-7) σ5)) ∧ (¬ (r6 = 0) → (w_X1_tell M (fun r9 σ8 => (∃ n, wl_X6_week_39 M post n a2 (some o3) r9 (-1) (-1) 1 σ8)) o3 0 σ5)))) a2 σ1))))) a1 σ
set_option maxHeartbeats 4000000 in
set_option maxRecDepth 20000 in
theorem m_X6_week {Γ : Gm} {ad : Nat → Nat} {M : Nat} (l : Launch) (hM : 53 ≤ M) {post : Int32 → St → Prop} (a1 : Int32) (a2 : Int32) (σ : St) (h : w_X6_week M post a1 a2 σ) : Ci l Γ YC M ad σ yX6_week cX6_week 9 (Option.some Jvm.ClassFile.FieldType.int) 6 0 0 [.ref (ad 0), .int a1, .int a2] post := by
  refine g_start (by decide) (Nat.le_of_ble_eq_true rfl) ?_
  intro p e s m args below meth c ls hc hr hn hl hw
  have hc : CX Γ p s m args meth c cX6_week RX6 9 := hc
  have hl : lv_has ls 9 [(0, .ref (ad 0)), (1, .int a1), (2, .int a2)] := hl
  have hx := hc.1
  have hb := hc.2.1
  unfold w_X6_week at h
  generalize hHH : s.heap = H0 at hw ⊢
  refine lv_aload_n hx hb dX6_week_0 rfl (lv_at hl 0 rfl) ?_
  refine lv_iload_n hx hb dX6_week_1 rfl (lv_at hl 1 rfl) ?_
  refine g_Ve (Y := YC) (ci := 6) (n := 1) (k := 0) (As := [.int a1]) (rest := []) rfl (by decide) vw_X6_101 ⟨Nat.le_of_ble_eq_true rfl, Nat.le_of_ble_eq_true rfl, Nat.zero_le _, Nat.zero_le _⟩ hc hw hl.1 (Nat.lt_of_lt_of_le (by decide) hM) rfl (m_X6_cheeseAt l hM a1 σ h) rfl rfl (Nat.le_of_ble_eq_true rfl) dX6_week_2 (fun q2 σ1 H locs h hw => ?_)
  refine g_astoreq (lv' := [(3, va_rf (Option.map ad q2)), (0, .ref (ad 0)), (1, .int a1), (2, .int a2)]) hx hb dX6_week_5 rfl hl (by decide) rfl (fun ls hl => ?_)
  refine g_aloadq hx hb dX6_week_6 rfl (lv_at hl 0 rfl) ?_
  refine g_ifnonnull (tgt := 13) hx hb dX6_week_7 (by decide) (fun o3 hn4 => ?_) (fun hn4 => ?_)
  · replace h := h.2 o3 hn4
    try rw [hn4] at hl
    try rw [hn4]
    have hf_o3 := h.1
    replace h := h.2
    have hl : lv_has ls 9 [(3, .ref (ad o3)), (0, .ref (ad 0)), (1, .int a1), (2, .int a2)] := hl
    refine lv_iload_n hx hb dX6_week_13 rfl (lv_at hl 3 rfl) ?_
    refine g_Si (Y := YC) (n := 1) (k := 0) (As := [.int a2]) (rest := []) vw_X6_175 ⟨Nat.le_of_ble_eq_true rfl, Nat.le_of_ble_eq_true rfl, Nat.zero_le _, Nat.zero_le _⟩ hc hw hl.1 (m_X6_isBit l hM a2 σ1 h) rfl rfl (Nat.le_of_ble_eq_true rfl) dX6_week_14 (fun r6 σ5 H locs h hw => ?_)
    refine lv_if_ne (tgt := 23) hx hb dX6_week_17 (by decide) (fun c7 => ?_) (fun c7 => ?_)
    · replace h := h.2 c7
      refine lv_aload_n hx hb dX6_week_23 rfl (lv_at hl 0 rfl) ?_
      refine lv_iconst (v := 0) hx hb dX6_week_24 (by decide) ?_
      refine g_Vi (Y := YC) (ci := 1) (n := 1) (k := 1) (As := [.int 0]) (rest := []) rfl (by decide) vw_X6_109 ⟨Nat.le_of_ble_eq_true rfl, Nat.le_of_ble_eq_true rfl, Nat.zero_le _, Nat.zero_le _⟩ hc hw hl.1 hf_o3.2 hf_o3.1 (m_X1_tell l hM o3 0 σ5 h) rfl rfl (Nat.le_of_ble_eq_true rfl) dX6_week_25 (fun r9 σ8 H locs h hw => ?_)
      refine lv_istore (lv' := [(4, .int r9), (3, .ref (ad o3)), (0, .ref (ad 0)), (1, .int a1), (2, .int a2)]) hx hb dX6_week_28 hl (by decide) rfl (fun ls hl => ?_)
      refine lv_iconst (v := (-1)) hx hb dX6_week_30 (by decide) ?_
      refine lv_istore (lv' := [(5, .int (-1)), (4, .int r9), (3, .ref (ad o3)), (0, .ref (ad 0)), (1, .int a1), (2, .int a2)]) hx hb dX6_week_31 hl (by decide) rfl (fun ls hl => ?_)
      refine lv_iconst (v := (-1)) hx hb dX6_week_33 (by decide) ?_
      refine lv_istore (lv' := [(6, .int (-1)), (5, .int (-1)), (4, .int r9), (3, .ref (ad o3)), (0, .ref (ad 0)), (1, .int a1), (2, .int a2)]) hx hb dX6_week_34 hl (by decide) rfl (fun ls hl => ?_)
      refine lv_iconst (v := 1) hx hb dX6_week_36 (by decide) ?_
      refine lv_istore (lv' := [(7, .int 1), (6, .int (-1)), (5, .int (-1)), (4, .int r9), (3, .ref (ad o3)), (0, .ref (ad 0)), (1, .int a1), (2, .int a2)]) hx hb dX6_week_37 hl (by decide) rfl (fun ls hl => ?_)
      obtain ⟨n, h⟩ := h
      exact bl_X6_week_39 hM hc hr n a2 (some o3) r9 (-1) (-1) 1 σ8 _ _ _ h  hw (lv_sub hl [5, 7, 4, 3, 2, 1, 0] rfl)
    · replace h := h.1 c7
      refine lv_bipush (v := (-7)) hx hb dX6_week_20 (by decide) ?_
      exact g_iret hc hr hw h dX6_week_22
  · replace h := h.1 hn4
    try rw [hn4] at hl
    try rw [hn4]
    have hl : lv_has ls 9 [(3, .null), (0, .ref (ad 0)), (1, .int a1), (2, .int a2)] := hl
    refine lv_bipush (v := (-5)) hx hb dX6_week_10 (by decide) ?_
    exact g_iret hc hr hw h dX6_week_12
def w_X6_table (M : Nat) (post : Int32 → St → Prop) (a1 : Int32) (a2 : Int32) (a3 : Int32) (σ : St) : Prop :=
  (a1 < 0 → (post (-2) σ)) ∧ (¬ (a1 < 0) → ((90 < a1 → (post (-2) σ)) ∧ (¬ (90 < a1) → (w_X6_isEvery M (fun r4 σ3 => ((r4 = 0 → (post (-2) σ3)) ∧ (¬ (r4 = 0) → ((a3 < 0 → (post (-2) σ3)) ∧ (¬ (a3 < 0) → ((a3 ≤ 3 → (w_X6_cookActs M (fun σ8 => (w_X6_sitAtTable M (fun r10 σ9 => ((a3 = 0 → (post r10 σ9)) ∧ (¬ (a3 = 0) → ((a3 = 1 → (post (gi σ9 12 13) σ9)) ∧ (¬ (a3 = 1) → ((a3 = 2 → (w_X3_thickness M (fun r15 σ14 => (post r15 σ14)) 12 σ9)) ∧ (¬ (a3 = 2) → (post (gi σ9 12 11) σ9)))))))) 12 a1 a2 σ8)) (gi σ3 0 3) σ3)) ∧ (¬ (a3 ≤ 3) → (post (-2) σ3)))))))) a2 σ))))
set_option maxHeartbeats 4000000 in
set_option maxRecDepth 20000 in
theorem m_X6_table {Γ : Gm} {ad : Nat → Nat} {M : Nat} (l : Launch) (hM : 53 ≤ M) {post : Int32 → St → Prop} (a1 : Int32) (a2 : Int32) (a3 : Int32) (σ : St) (h : w_X6_table M post a1 a2 a3 σ) : Ci l Γ YC M ad σ yX6_table cX6_table 5 (Option.some Jvm.ClassFile.FieldType.int) 6 0 0 [.ref (ad 0), .int a1, .int a2, .int a3] post := by
  refine g_start (by decide) (Nat.le_of_ble_eq_true rfl) ?_
  intro p e s m args below meth c ls hc hr hn hl hw
  have hc : CX Γ p s m args meth c cX6_table RX6 5 := hc
  have hl : lv_has ls 5 [(0, .ref (ad 0)), (1, .int a1), (2, .int a2), (3, .int a3)] := hl
  have hx := hc.1
  have hb := hc.2.1
  unfold w_X6_table at h
  generalize hHH : s.heap = H0 at hw ⊢
  refine lv_iload_n hx hb dX6_table_0 rfl (lv_at hl 1 rfl) ?_
  refine lv_if_lt (tgt := 26) hx hb dX6_table_1 (by decide) (fun c1 => ?_) (fun c1 => ?_)
  · replace h := h.1 c1
    refine lv_bipush (v := (-2)) hx hb dX6_table_26 (by decide) ?_
    exact g_iret hc hr hw h dX6_table_28
  · replace h := h.2 c1
    refine lv_iload_n hx hb dX6_table_4 rfl (lv_at hl 1 rfl) ?_
    refine lv_bipush (v := 90) hx hb dX6_table_5 (by decide) ?_
    refine lv_icmp_gt (tgt := 26) hx hb dX6_table_7 (by decide) (fun c2 => ?_) (fun c2 => ?_)
    · replace h := h.1 c2
      refine lv_bipush (v := (-2)) hx hb dX6_table_26 (by decide) ?_
      exact g_iret hc hr hw h dX6_table_28
    · replace h := h.2 c2
      refine lv_iload_n hx hb dX6_table_10 rfl (lv_at hl 2 rfl) ?_
      refine g_Si (Y := YC) (n := 1) (k := 0) (As := [.int a2]) (rest := []) vw_X6_242 ⟨Nat.le_of_ble_eq_true rfl, Nat.le_of_ble_eq_true rfl, Nat.zero_le _, Nat.zero_le _⟩ hc hw hl.1 (m_X6_isEvery l hM a2 σ h) rfl rfl (Nat.le_of_ble_eq_true rfl) dX6_table_11 (fun r4 σ3 H locs h hw => ?_)
      refine lv_if_eq (tgt := 26) hx hb dX6_table_14 (by decide) (fun c5 => ?_) (fun c5 => ?_)
      · replace h := h.1 c5
        refine lv_bipush (v := (-2)) hx hb dX6_table_26 (by decide) ?_
        exact g_iret hc hr hw h dX6_table_28
      · replace h := h.2 c5
        refine lv_iload_n hx hb dX6_table_17 rfl (lv_at hl 3 rfl) ?_
        refine lv_if_lt (tgt := 26) hx hb dX6_table_18 (by decide) (fun c6 => ?_) (fun c6 => ?_)
        · replace h := h.1 c6
          refine lv_bipush (v := (-2)) hx hb dX6_table_26 (by decide) ?_
          exact g_iret hc hr hw h dX6_table_28
        · replace h := h.2 c6
          refine lv_iload_n hx hb dX6_table_21 rfl (lv_at hl 3 rfl) ?_
          refine lv_iconst (v := 3) hx hb dX6_table_22 (by decide) ?_
          refine lv_icmp_le (tgt := 29) hx hb dX6_table_23 (by decide) (fun c7 => ?_) (fun c7 => ?_)
          · replace h := h.1 c7
            refine lv_aload_n hx hb dX6_table_29 rfl (lv_at hl 0 rfl) ?_
            refine lv_aload_n hx hb dX6_table_30 rfl (lv_at hl 0 rfl) ?_
            refine fg_X6_120 hc hw (Nat.lt_of_lt_of_le (by decide) hM) rfl dX6_table_31 ?_
            refine g_Vv (Y := YC) (ci := 6) (n := 1) (k := 5) (As := [.int (gi σ3 0 3)]) (rest := []) rfl (by decide) vw_X6_171 ⟨Nat.le_of_ble_eq_true rfl, Nat.le_of_ble_eq_true rfl, Nat.zero_le _, Nat.zero_le _⟩ hc hw hl.1 (Nat.lt_of_lt_of_le (by decide) hM) rfl (m_X6_cookActs l hM (gi σ3 0 3) σ3 h) rfl rfl (Nat.le_of_ble_eq_true rfl) dX6_table_34 (fun σ8 H locs h hw => ?_)
            refine lv_aload_n hx hb dX6_table_37 rfl (lv_at hl 0 rfl) ?_
            refine fg_X6_57 hc hw (Nat.lt_of_lt_of_le (by decide) hM) rfl dX6_table_38 ?_
            refine lv_iload_n hx hb dX6_table_41 rfl (lv_at hl 1 rfl) ?_
            refine lv_iload_n hx hb dX6_table_42 rfl (lv_at hl 2 rfl) ?_
            refine g_Si (Y := YC) (n := 3) (k := 3) (As := [.ref (ad 12), .int a1, .int a2]) (rest := []) vw_X6_245 ⟨Nat.le_of_ble_eq_true rfl, Nat.le_of_ble_eq_true rfl, Nat.zero_le _, Nat.zero_le _⟩ hc hw hl.1 (m_X6_sitAtTable l hM 12 a1 a2 σ8 h) rfl rfl (Nat.le_of_ble_eq_true rfl) dX6_table_43 (fun r10 σ9 H locs h hw => ?_)
            refine lv_istore (lv' := [(4, .int r10), (0, .ref (ad 0)), (1, .int a1), (2, .int a2), (3, .int a3)]) hx hb dX6_table_46 hl (by decide) rfl (fun ls hl => ?_)
            refine lv_iload_n hx hb dX6_table_48 rfl (lv_at hl 4 rfl) ?_
            by_cases c11 : a3 = 0
            · replace h := h.1 c11
              refine lv_tableIn (off := 27) (tgt := 76) hx hb dX6_table_49 (by rw [c11]; decide) (by rw [c11]; decide) (by rw [c11]; rfl) (by decide) ?_
              refine lv_iload hx hb dX6_table_76 (lv_at hl 0 rfl) ?_
              exact g_iret hc hr hw h dX6_table_78
            replace h := h.2 c11
            by_cases c12 : a3 = 1
            · replace h := h.1 c12
              refine lv_tableIn (off := 30) (tgt := 79) hx hb dX6_table_49 (by rw [c12]; decide) (by rw [c12]; decide) (by rw [c12]; rfl) (by decide) ?_
              refine lv_aload_n hx hb dX6_table_79 rfl (lv_at hl 1 rfl) ?_
              refine fg_X6_57 hc hw (Nat.lt_of_lt_of_le (by decide) hM) rfl dX6_table_80 ?_
              refine fg_X6_249 (o := 12) hc hw (Nat.lt_of_lt_of_le (by decide) hM) rfl dX6_table_83 ?_
              exact g_iret hc hr hw h dX6_table_86
            replace h := h.2 c12
            by_cases c13 : a3 = 2
            · replace h := h.1 c13
              refine lv_tableIn (off := 38) (tgt := 87) hx hb dX6_table_49 (by rw [c13]; decide) (by rw [c13]; decide) (by rw [c13]; rfl) (by decide) ?_
              refine lv_aload_n hx hb dX6_table_87 rfl (lv_at hl 1 rfl) ?_
              refine fg_X6_57 hc hw (Nat.lt_of_lt_of_le (by decide) hM) rfl dX6_table_88 ?_
              refine g_Vi (Y := YC) (ci := 3) (n := 0) (k := 0) (As := []) (rest := []) rfl (by decide) vw_X6_252 ⟨Nat.le_of_ble_eq_true rfl, Nat.le_of_ble_eq_true rfl, Nat.zero_le _, Nat.zero_le _⟩ hc hw hl.1 (Nat.lt_of_lt_of_le (by decide) hM) rfl (m_X3_thickness l hM 12 σ9 h) rfl rfl (Nat.le_of_ble_eq_true rfl) dX6_table_91 (fun r15 σ14 H locs h hw => ?_)
              exact g_iret hc hr hw h dX6_table_94
            replace h := h.2 c13
            refine lv_tableOut (tgt := 95) hx hb dX6_table_49 (by have zc11 := lv_neT (a := 0) c11 (by decide); have zc12 := lv_neT (a := 1) c12 (by decide); have zc13 := lv_neT (a := 2) c13 (by decide); omega) (by decide) ?_
            refine lv_aload_n hx hb dX6_table_95 rfl (lv_at hl 1 rfl) ?_
            refine fg_X6_57 hc hw (Nat.lt_of_lt_of_le (by decide) hM) rfl dX6_table_96 ?_
            refine fg_X6_217 (o := 12) hc hw (Nat.lt_of_lt_of_le (by decide) hM) rfl dX6_table_99 ?_
            exact g_iret hc hr hw h dX6_table_102
          · replace h := h.2 c7
            refine lv_bipush (v := (-2)) hx hb dX6_table_26 (by decide) ?_
            exact g_iret hc hr hw h dX6_table_28
def w_X6_dips_36 (M : Nat) (post : Int32 → St → Prop) (k_36 : Int32 → Int32 → Int32 → St → Prop) (v1 : Int32) (v2 : Int32) (v3 : Int32) (σ : St) : Prop :=
  (v3 < 1 → (post (-1) σ)) ∧ (¬ (v3 < 1) → (w_X3_becomeLike M (fun σ2 => (w_X6_sitAtTable M (fun r4 σ3 => ((r4 = v1 → ((v2 < (gi σ3 14 13) → (∀ x8 : Int32, x8 = v3 + (-1) → (k_36 v1 v2 x8 σ3))) ∧ (¬ (v2 < (gi σ3 14 13)) → (post v3 σ3)))) ∧ (¬ (r4 = v1) → (∀ x6 : Int32, x6 = v3 + (-1) → (k_36 v1 v2 x6 σ3))))) 14 v1 v3 σ2)) 14 12 σ))
set_option maxHeartbeats 4000000 in
set_option maxRecDepth 20000 in
theorem b_X6_dips_36 {Γ : Gm} {ad : Nat → Nat} {p : Program} {l : Launch} {e : Env} {s : State} {m : MethodId} {args : Array Value} {below : List Frame} {meth : Method} {c : Code} {M : Nat} (hM : 53 ≤ M) {post : Int32 → St → Prop} {k_36 : Int32 → Int32 → Int32 → St → Prop} (hk_36 : ∀ (v1 : Int32) (v2 : Int32) (v3 : Int32) (σ : St) (H : Heap) (locs : List Loc) (ls : Array Slot), k_36 v1 v2 v3 σ → WH Γ YC M ad σ s H locs → lv_has ls 5 [(0, .ref (ad 0)), (1, .int v1), (2, .int v2), (3, .int v3)] → W p l e (rmL 6 0 0) s m args below meth c H locs 0 0 (MQ below (va_Qi post (fun u t => WC Γ YC M ad u t) (AA Γ)) args s 0 0 (AA Γ)) (F0 m 36 ls []))
    (v1 : Int32) (v2 : Int32) (v3 : Int32) (σ : St) (H : Heap) (locs : List Loc) (ls : Array Slot) (h : w_X6_dips_36 M post k_36 v1 v2 v3 σ) (hc : CX Γ p s m args meth c cX6_dips RX6 5) (hr : meth.sig.returnType = (Option.some Jvm.ClassFile.FieldType.int)) (hw : WH Γ YC M ad σ s H locs) (hl : lv_has ls 5 [(0, .ref (ad 0)), (1, .int v1), (2, .int v2), (3, .int v3)]) :
    W p l e (rmL 6 0 0) s m args below meth c H locs 0 0 (MQ below (va_Qi post (fun u t => WC Γ YC M ad u t) (AA Γ)) args s 0 0 (AA Γ)) (F0 m 36 ls []) := by
  have hx := hc.1
  have hb := hc.2.1
  unfold w_X6_dips_36 at h
  refine lv_iload_n hx hb dX6_dips_36 rfl (lv_at hl 3 rfl) ?_
  refine lv_iconst (v := 1) hx hb dX6_dips_37 (by decide) ?_
  refine lv_icmp_lt (tgt := 88) hx hb dX6_dips_38 (by decide) (fun c1 => ?_) (fun c1 => ?_)
  · replace h := h.1 c1
    refine lv_iconst (v := (-1)) hx hb dX6_dips_88 (by decide) ?_
    exact g_iret hc hr hw h dX6_dips_89
  · replace h := h.2 c1
    refine lv_aload_n hx hb dX6_dips_41 rfl (lv_at hl 0 rfl) ?_
    refine fg_X6_61 hc hw (Nat.lt_of_lt_of_le (by decide) hM) rfl dX6_dips_42 ?_
    refine lv_aload_n hx hb dX6_dips_45 rfl (lv_at hl 0 rfl) ?_
    refine fg_X6_57 hc hw (Nat.lt_of_lt_of_le (by decide) hM) rfl dX6_dips_46 ?_
    refine g_Vv (Y := YC) (ci := 3) (n := 1) (k := 0) (As := [.ref (ad 12)]) (rest := []) rfl (by decide) vw_X6_209 ⟨Nat.le_of_ble_eq_true rfl, Nat.le_of_ble_eq_true rfl, Nat.zero_le _, Nat.zero_le _⟩ hc hw hl.1 (Nat.lt_of_lt_of_le (by decide) hM) rfl (m_X3_becomeLike l hM 14 12 σ h) rfl rfl (Nat.le_of_ble_eq_true rfl) dX6_dips_49 (fun σ2 H locs h hw => ?_)
    refine lv_aload_n hx hb dX6_dips_52 rfl (lv_at hl 0 rfl) ?_
    refine fg_X6_61 hc hw (Nat.lt_of_lt_of_le (by decide) hM) rfl dX6_dips_53 ?_
    refine lv_iload_n hx hb dX6_dips_56 rfl (lv_at hl 1 rfl) ?_
    refine lv_iload_n hx hb dX6_dips_57 rfl (lv_at hl 3 rfl) ?_
    refine g_Si (Y := YC) (n := 3) (k := 3) (As := [.ref (ad 14), .int v1, .int v3]) (rest := []) vw_X6_245 ⟨Nat.le_of_ble_eq_true rfl, Nat.le_of_ble_eq_true rfl, Nat.zero_le _, Nat.zero_le _⟩ hc hw hl.1 (m_X6_sitAtTable l hM 14 v1 v3 σ2 h) rfl rfl (Nat.le_of_ble_eq_true rfl) dX6_dips_58 (fun r4 σ3 H locs h hw => ?_)
    refine lv_istore (lv' := [(4, .int r4), (0, .ref (ad 0)), (1, .int v1), (2, .int v2), (3, .int v3)]) hx hb dX6_dips_61 hl (by decide) rfl (fun ls hl => ?_)
    refine lv_iload hx hb dX6_dips_63 (lv_at hl 0 rfl) ?_
    refine lv_iload_n hx hb dX6_dips_65 rfl (lv_at hl 2 rfl) ?_
    refine lv_icmp_ne (tgt := 82) hx hb dX6_dips_66 (by decide) (fun c5 => ?_) (fun c5 => ?_)
    · replace h := h.2 c5
      obtain ⟨x6, ex6⟩ : ∃ z, z = v3 + (-1) := ⟨_, rfl⟩
      replace h := h x6 ex6
      refine lv_iinc (v := x6) (lv' := [(3, .int x6), (4, .int r4), (0, .ref (ad 0)), (1, .int v1), (2, .int v2)]) hx hb dX6_dips_82 hl (k := 4) rfl (by rw [ex6]; rfl) (by decide) rfl (fun ls hl => ?_)
      refine lv_goto (tgt := 36) hx hb dX6_dips_85 (by decide) ?_
      exact hk_36 v1 v2 x6 σ3 _ _ _ h  hw (lv_sub hl [2, 3, 4, 0] rfl)
    · replace h := h.1 c5
      refine lv_aload_n hx hb dX6_dips_69 rfl (lv_at hl 1 rfl) ?_
      refine fg_X6_61 hc hw (Nat.lt_of_lt_of_le (by decide) hM) rfl dX6_dips_70 ?_
      refine fg_X6_249 (o := 14) hc hw (Nat.lt_of_lt_of_le (by decide) hM) rfl dX6_dips_73 ?_
      refine lv_iload_n hx hb dX6_dips_76 rfl (lv_at hl 3 rfl) ?_
      refine lv_icmp_gt (tgt := 82) hx hb dX6_dips_77 (by decide) (fun c7 => ?_) (fun c7 => ?_)
      · replace h := h.1 c7
        obtain ⟨x8, ex8⟩ : ∃ z, z = v3 + (-1) := ⟨_, rfl⟩
        replace h := h x8 ex8
        refine lv_iinc (v := x8) (lv' := [(3, .int x8), (4, .int r4), (0, .ref (ad 0)), (1, .int v1), (2, .int v2)]) hx hb dX6_dips_82 hl (k := 4) rfl (by rw [ex8]; rfl) (by decide) rfl (fun ls hl => ?_)
        refine lv_goto (tgt := 36) hx hb dX6_dips_85 (by decide) ?_
        exact hk_36 v1 v2 x8 σ3 _ _ _ h  hw (lv_sub hl [2, 3, 4, 0] rfl)
      · replace h := h.2 c7
        refine lv_iload_n hx hb dX6_dips_80 rfl (lv_at hl 4 rfl) ?_
        exact g_iret hc hr hw h dX6_dips_81
def wl_X6_dips_36 (M : Nat) (post : Int32 → St → Prop) : Nat → Int32 → Int32 → Int32 → St → Prop
  | 0, _, _, _, _ => False
  | n + 1, v1, v2, v3, σ => w_X6_dips_36 M post (wl_X6_dips_36 M post n) v1 v2 v3 σ
set_option maxHeartbeats 4000000 in
theorem bl_X6_dips_36 {Γ : Gm} {ad : Nat → Nat} {p : Program} {l : Launch} {e : Env} {s : State} {m : MethodId} {args : Array Value} {below : List Frame} {meth : Method} {c : Code} {M : Nat} (hM : 53 ≤ M) {post : Int32 → St → Prop}
    (hc : CX Γ p s m args meth c cX6_dips RX6 5) (hr : meth.sig.returnType = (Option.some Jvm.ClassFile.FieldType.int)) :
    ∀ (n : Nat) (v1 : Int32) (v2 : Int32) (v3 : Int32) (σ : St) (H : Heap) (locs : List Loc) (ls : Array Slot), wl_X6_dips_36 M post n v1 v2 v3 σ → WH Γ YC M ad σ s H locs → lv_has ls 5 [(0, .ref (ad 0)), (1, .int v1), (2, .int v2), (3, .int v3)] → W p l e (rmL 6 0 0) s m args below meth c H locs 0 0 (MQ below (va_Qi post (fun u t => WC Γ YC M ad u t) (AA Γ)) args s 0 0 (AA Γ)) (F0 m 36 ls []) := by
  intro n
  induction n with
  | zero => intro v1 v2 v3 σ H locs ls h; exact h.elim
  | succ n ih =>
    intro v1 v2 v3 σ H locs ls h  hw hl
    exact b_X6_dips_36 hM ih v1 v2 v3 σ H locs ls h  hc hr hw hl
def w_X6_dips (M : Nat) (post : Int32 → St → Prop) (a1 : Int32) (a2 : Int32) (σ : St) : Prop :=
  (a1 < 1 → (post (-2) σ)) ∧ (¬ (a1 < 1) → ((90 < a1 → (post (-2) σ)) ∧ (¬ (90 < a1) → ((a2 < 0 → (post (-2) σ)) ∧ (¬ (a2 < 0) → ((a2 ≤ 999 → (w_X6_cookActs M (fun σ5 => (∃ n, wl_X6_dips_36 M post n a1 a2 30 σ5)) (gi σ 0 3) σ)) ∧ (¬ (a2 ≤ 999) → (post (-2) σ))))))))
set_option maxHeartbeats 4000000 in
set_option maxRecDepth 20000 in
theorem m_X6_dips {Γ : Gm} {ad : Nat → Nat} {M : Nat} (l : Launch) (hM : 53 ≤ M) {post : Int32 → St → Prop} (a1 : Int32) (a2 : Int32) (σ : St) (h : w_X6_dips M post a1 a2 σ) : Ci l Γ YC M ad σ yX6_dips cX6_dips 5 (Option.some Jvm.ClassFile.FieldType.int) 6 0 0 [.ref (ad 0), .int a1, .int a2] post := by
  refine g_start (by decide) (Nat.le_of_ble_eq_true rfl) ?_
  intro p e s m args below meth c ls hc hr hn hl hw
  have hc : CX Γ p s m args meth c cX6_dips RX6 5 := hc
  have hl : lv_has ls 5 [(0, .ref (ad 0)), (1, .int a1), (2, .int a2)] := hl
  have hx := hc.1
  have hb := hc.2.1
  unfold w_X6_dips at h
  generalize hHH : s.heap = H0 at hw ⊢
  refine lv_iload_n hx hb dX6_dips_0 rfl (lv_at hl 1 rfl) ?_
  refine lv_iconst (v := 1) hx hb dX6_dips_1 (by decide) ?_
  refine lv_icmp_lt (tgt := 22) hx hb dX6_dips_2 (by decide) (fun c1 => ?_) (fun c1 => ?_)
  · replace h := h.1 c1
    refine lv_bipush (v := (-2)) hx hb dX6_dips_22 (by decide) ?_
    exact g_iret hc hr hw h dX6_dips_24
  · replace h := h.2 c1
    refine lv_iload_n hx hb dX6_dips_5 rfl (lv_at hl 1 rfl) ?_
    refine lv_bipush (v := 90) hx hb dX6_dips_6 (by decide) ?_
    refine lv_icmp_gt (tgt := 22) hx hb dX6_dips_8 (by decide) (fun c2 => ?_) (fun c2 => ?_)
    · replace h := h.1 c2
      refine lv_bipush (v := (-2)) hx hb dX6_dips_22 (by decide) ?_
      exact g_iret hc hr hw h dX6_dips_24
    · replace h := h.2 c2
      refine lv_iload_n hx hb dX6_dips_11 rfl (lv_at hl 2 rfl) ?_
      refine lv_if_lt (tgt := 22) hx hb dX6_dips_12 (by decide) (fun c3 => ?_) (fun c3 => ?_)
      · replace h := h.1 c3
        refine lv_bipush (v := (-2)) hx hb dX6_dips_22 (by decide) ?_
        exact g_iret hc hr hw h dX6_dips_24
      · replace h := h.2 c3
        refine lv_iload_n hx hb dX6_dips_15 rfl (lv_at hl 2 rfl) ?_
        refine lv_sipush (v := 999) hx hb dX6_dips_16 (by decide) ?_
        refine lv_icmp_le (tgt := 25) hx hb dX6_dips_19 (by decide) (fun c4 => ?_) (fun c4 => ?_)
        · replace h := h.1 c4
          refine lv_aload_n hx hb dX6_dips_25 rfl (lv_at hl 0 rfl) ?_
          refine lv_aload_n hx hb dX6_dips_26 rfl (lv_at hl 0 rfl) ?_
          refine fg_X6_120 hc hw (Nat.lt_of_lt_of_le (by decide) hM) rfl dX6_dips_27 ?_
          refine g_Vv (Y := YC) (ci := 6) (n := 1) (k := 5) (As := [.int (gi σ 0 3)]) (rest := []) rfl (by decide) vw_X6_171 ⟨Nat.le_of_ble_eq_true rfl, Nat.le_of_ble_eq_true rfl, Nat.zero_le _, Nat.zero_le _⟩ hc hw hl.1 (Nat.lt_of_lt_of_le (by decide) hM) rfl (m_X6_cookActs l hM (gi σ 0 3) σ h) rfl rfl (Nat.le_of_ble_eq_true rfl) dX6_dips_30 (fun σ5 H locs h hw => ?_)
          refine lv_bipush (v := 30) hx hb dX6_dips_33 (by decide) ?_
          refine lv_istore_n (lv' := [(3, .int 30), (0, .ref (ad 0)), (1, .int a1), (2, .int a2)]) hx hb dX6_dips_35 rfl hl (by decide) rfl (fun ls hl => ?_)
          obtain ⟨n, h⟩ := h
          exact bl_X6_dips_36 hM hc hr n a1 a2 30 σ5 _ _ _ h  hw (lv_sub hl [1, 2, 3, 0] rfl)
        · replace h := h.2 c4
          refine lv_bipush (v := (-2)) hx hb dX6_dips_22 (by decide) ?_
          exact g_iret hc hr hw h dX6_dips_24
def w_X6_wick_37 (M : Nat) (post : Int32 → St → Prop) (k_37 : Int32 → Int32 → Int32 → Int32 → Int32 → St → Prop) (v1 : Int32) (v2 : Int32) (v3 : Int32) (v4 : Int32) (v5 : Int32) (σ : St) : Prop :=
  (9 < v5 → (post v3 σ)) ∧ (¬ (9 < v5) → (w_X3_becomeLike M (fun σ2 => (∀ σ3 : St, σ3 = si σ2 14 3 v5 → (w_X6_sitAtTable M (fun r5 σ4 => ((r5 < v4 → (∀ x7 : Int32, x7 = v5 + 1 → (k_37 v1 v2 v3 v4 x7 σ4))) ∧ (¬ (r5 < v4) → (∀ x8 : Int32, x8 = v5 + 1 → (k_37 v1 v2 v5 r5 x8 σ4))))) 14 v1 v2 σ3))) 14 12 σ))
set_option maxHeartbeats 4000000 in
set_option maxRecDepth 20000 in
theorem b_X6_wick_37 {Γ : Gm} {ad : Nat → Nat} {p : Program} {l : Launch} {e : Env} {s : State} {m : MethodId} {args : Array Value} {below : List Frame} {meth : Method} {c : Code} {M : Nat} (hM : 53 ≤ M) {post : Int32 → St → Prop} {k_37 : Int32 → Int32 → Int32 → Int32 → Int32 → St → Prop} (hk_37 : ∀ (v1 : Int32) (v2 : Int32) (v3 : Int32) (v4 : Int32) (v5 : Int32) (σ : St) (H : Heap) (locs : List Loc) (ls : Array Slot), k_37 v1 v2 v3 v4 v5 σ → WH Γ YC M ad σ s H locs → lv_has ls 7 [(0, .ref (ad 0)), (1, .int v1), (2, .int v2), (3, .int v3), (4, .int v4), (5, .int v5)] → W p l e (rmL 6 0 0) s m args below meth c H locs 0 0 (MQ below (va_Qi post (fun u t => WC Γ YC M ad u t) (AA Γ)) args s 0 0 (AA Γ)) (F0 m 37 ls []))
    (v1 : Int32) (v2 : Int32) (v3 : Int32) (v4 : Int32) (v5 : Int32) (σ : St) (H : Heap) (locs : List Loc) (ls : Array Slot) (h : w_X6_wick_37 M post k_37 v1 v2 v3 v4 v5 σ) (hc : CX Γ p s m args meth c cX6_wick RX6 7) (hr : meth.sig.returnType = (Option.some Jvm.ClassFile.FieldType.int)) (hw : WH Γ YC M ad σ s H locs) (hl : lv_has ls 7 [(0, .ref (ad 0)), (1, .int v1), (2, .int v2), (3, .int v3), (4, .int v4), (5, .int v5)]) :
    W p l e (rmL 6 0 0) s m args below meth c H locs 0 0 (MQ below (va_Qi post (fun u t => WC Γ YC M ad u t) (AA Γ)) args s 0 0 (AA Γ)) (F0 m 37 ls []) := by
  have hx := hc.1
  have hb := hc.2.1
  unfold w_X6_wick_37 at h
  refine lv_iload hx hb dX6_wick_37 (lv_at hl 5 rfl) ?_
  refine g_gets hc hw q_551 dX6_wick_39 ?_
  refine lv_iconst (v := 0) hx hb dX6_wick_42 (by decide) ?_
  refine g_taldK (k := 0) (v := 9) hc hw (vp_in_lit (by decide)) (by decide) rfl dX6_wick_43 ?_
  refine lv_icmp_gt (tgt := 98) hx hb dX6_wick_44 (by decide) (fun c1 => ?_) (fun c1 => ?_)
  · replace h := h.1 c1
    refine lv_iload_n hx hb dX6_wick_98 rfl (lv_at hl 3 rfl) ?_
    exact g_iret hc hr hw h dX6_wick_99
  · replace h := h.2 c1
    refine lv_aload_n hx hb dX6_wick_47 rfl (lv_at hl 0 rfl) ?_
    refine fg_X6_61 hc hw (Nat.lt_of_lt_of_le (by decide) hM) rfl dX6_wick_48 ?_
    refine lv_aload_n hx hb dX6_wick_51 rfl (lv_at hl 0 rfl) ?_
    refine fg_X6_57 hc hw (Nat.lt_of_lt_of_le (by decide) hM) rfl dX6_wick_52 ?_
    refine g_Vv (Y := YC) (ci := 3) (n := 1) (k := 0) (As := [.ref (ad 12)]) (rest := []) rfl (by decide) vw_X6_209 ⟨Nat.le_of_ble_eq_true rfl, Nat.le_of_ble_eq_true rfl, Nat.zero_le _, Nat.zero_le _⟩ hc hw hl.1 (Nat.lt_of_lt_of_le (by decide) hM) rfl (m_X3_becomeLike l hM 14 12 σ h) rfl rfl (Nat.le_of_ble_eq_true rfl) dX6_wick_55 (fun σ2 H locs h hw => ?_)
    refine lv_aload_n hx hb dX6_wick_58 rfl (lv_at hl 0 rfl) ?_
    refine fg_X6_61 hc hw (Nat.lt_of_lt_of_le (by decide) hM) rfl dX6_wick_59 ?_
    refine lv_iload hx hb dX6_wick_62 (lv_at hl 5 rfl) ?_
    refine fp_X6_255 (o := 14) hc hw (Nat.lt_of_lt_of_le (by decide) hM) rfl dX6_wick_64 (fun σ3 H locs eσ3 hw => ?_)
    replace h := h σ3 eσ3
    refine lv_aload_n hx hb dX6_wick_67 rfl (lv_at hl 0 rfl) ?_
    refine fg_X6_61 hc hw (Nat.lt_of_lt_of_le (by decide) hM) rfl dX6_wick_68 ?_
    refine lv_iload_n hx hb dX6_wick_71 rfl (lv_at hl 1 rfl) ?_
    refine lv_iload_n hx hb dX6_wick_72 rfl (lv_at hl 2 rfl) ?_
    refine g_Si (Y := YC) (n := 3) (k := 3) (As := [.ref (ad 14), .int v1, .int v2]) (rest := []) vw_X6_245 ⟨Nat.le_of_ble_eq_true rfl, Nat.le_of_ble_eq_true rfl, Nat.zero_le _, Nat.zero_le _⟩ hc hw hl.1 (m_X6_sitAtTable l hM 14 v1 v2 σ3 h) rfl rfl (Nat.le_of_ble_eq_true rfl) dX6_wick_73 (fun r5 σ4 H locs h hw => ?_)
    refine lv_istore (lv' := [(6, .int r5), (0, .ref (ad 0)), (1, .int v1), (2, .int v2), (3, .int v3), (4, .int v4), (5, .int v5)]) hx hb dX6_wick_76 hl (by decide) rfl (fun ls hl => ?_)
    refine lv_iload hx hb dX6_wick_78 (lv_at hl 0 rfl) ?_
    refine lv_iload hx hb dX6_wick_80 (lv_at hl 5 rfl) ?_
    refine lv_icmp_lt (tgt := 92) hx hb dX6_wick_82 (by decide) (fun c6 => ?_) (fun c6 => ?_)
    · replace h := h.1 c6
      obtain ⟨x7, ex7⟩ : ∃ z, z = v5 + 1 := ⟨_, rfl⟩
      replace h := h x7 ex7
      refine lv_iinc (v := x7) (lv' := [(5, .int x7), (6, .int r5), (0, .ref (ad 0)), (1, .int v1), (2, .int v2), (3, .int v3), (4, .int v4)]) hx hb dX6_wick_92 hl (k := 6) rfl (by rw [ex7]; rfl) (by decide) rfl (fun ls hl => ?_)
      refine lv_goto (tgt := 37) hx hb dX6_wick_95 (by decide) ?_
      exact hk_37 v1 v2 v3 v4 x7 σ4 _ _ _ h  hw (lv_sub hl [2, 3, 4, 5, 6, 0] rfl)
    · replace h := h.2 c6
      refine lv_iload hx hb dX6_wick_85 (lv_at hl 6 rfl) ?_
      refine lv_istore_n (lv' := [(3, .int v5), (6, .int r5), (0, .ref (ad 0)), (1, .int v1), (2, .int v2), (4, .int v4), (5, .int v5)]) hx hb dX6_wick_87 rfl hl (by decide) rfl (fun ls hl => ?_)
      refine lv_iload hx hb dX6_wick_88 (lv_at hl 1 rfl) ?_
      refine lv_istore (lv' := [(4, .int r5), (3, .int v5), (6, .int r5), (0, .ref (ad 0)), (1, .int v1), (2, .int v2), (5, .int v5)]) hx hb dX6_wick_90 hl (by decide) rfl (fun ls hl => ?_)
      obtain ⟨x8, ex8⟩ : ∃ z, z = v5 + 1 := ⟨_, rfl⟩
      replace h := h x8 ex8
      refine lv_iinc (v := x8) (lv' := [(5, .int x8), (4, .int r5), (3, .int v5), (6, .int r5), (0, .ref (ad 0)), (1, .int v1), (2, .int v2)]) hx hb dX6_wick_92 hl (k := 6) rfl (by rw [ex8]; rfl) (by decide) rfl (fun ls hl => ?_)
      refine lv_goto (tgt := 37) hx hb dX6_wick_95 (by decide) ?_
      exact hk_37 v1 v2 v5 r5 x8 σ4 _ _ _ h  hw (lv_sub hl [4, 5, 6, 2, 1, 0] rfl)
def wl_X6_wick_37 (M : Nat) (post : Int32 → St → Prop) : Nat → Int32 → Int32 → Int32 → Int32 → Int32 → St → Prop
  | 0, _, _, _, _, _, _ => False
  | n + 1, v1, v2, v3, v4, v5, σ => w_X6_wick_37 M post (wl_X6_wick_37 M post n) v1 v2 v3 v4 v5 σ
set_option maxHeartbeats 4000000 in
theorem bl_X6_wick_37 {Γ : Gm} {ad : Nat → Nat} {p : Program} {l : Launch} {e : Env} {s : State} {m : MethodId} {args : Array Value} {below : List Frame} {meth : Method} {c : Code} {M : Nat} (hM : 53 ≤ M) {post : Int32 → St → Prop}
    (hc : CX Γ p s m args meth c cX6_wick RX6 7) (hr : meth.sig.returnType = (Option.some Jvm.ClassFile.FieldType.int)) :
    ∀ (n : Nat) (v1 : Int32) (v2 : Int32) (v3 : Int32) (v4 : Int32) (v5 : Int32) (σ : St) (H : Heap) (locs : List Loc) (ls : Array Slot), wl_X6_wick_37 M post n v1 v2 v3 v4 v5 σ → WH Γ YC M ad σ s H locs → lv_has ls 7 [(0, .ref (ad 0)), (1, .int v1), (2, .int v2), (3, .int v3), (4, .int v4), (5, .int v5)] → W p l e (rmL 6 0 0) s m args below meth c H locs 0 0 (MQ below (va_Qi post (fun u t => WC Γ YC M ad u t) (AA Γ)) args s 0 0 (AA Γ)) (F0 m 37 ls []) := by
  intro n
  induction n with
  | zero => intro v1 v2 v3 v4 v5 σ H locs ls h; exact h.elim
  | succ n ih =>
    intro v1 v2 v3 v4 v5 σ H locs ls h  hw hl
    exact b_X6_wick_37 hM ih v1 v2 v3 v4 v5 σ H locs ls h  hc hr hw hl
def w_X6_wick (M : Nat) (post : Int32 → St → Prop) (a1 : Int32) (a2 : Int32) (σ : St) : Prop :=
  (a1 < 1 → (post (-2) σ)) ∧ (¬ (a1 < 1) → ((90 < a1 → (post (-2) σ)) ∧ (¬ (90 < a1) → (w_X6_isEvery M (fun r4 σ3 => ((r4 = 0 → (post (-2) σ3)) ∧ (¬ (r4 = 0) → (w_X6_cookActs M (fun σ6 => (∃ n, wl_X6_wick_37 M post n a1 a2 0 0 0 σ6)) (gi σ3 0 3) σ3)))) a2 σ))))
set_option maxHeartbeats 4000000 in
set_option maxRecDepth 20000 in
theorem m_X6_wick {Γ : Gm} {ad : Nat → Nat} {M : Nat} (l : Launch) (hM : 53 ≤ M) {post : Int32 → St → Prop} (a1 : Int32) (a2 : Int32) (σ : St) (h : w_X6_wick M post a1 a2 σ) : Ci l Γ YC M ad σ yX6_wick cX6_wick 7 (Option.some Jvm.ClassFile.FieldType.int) 6 0 0 [.ref (ad 0), .int a1, .int a2] post := by
  refine g_start (by decide) (Nat.le_of_ble_eq_true rfl) ?_
  intro p e s m args below meth c ls hc hr hn hl hw
  have hc : CX Γ p s m args meth c cX6_wick RX6 7 := hc
  have hl : lv_has ls 7 [(0, .ref (ad 0)), (1, .int a1), (2, .int a2)] := hl
  have hx := hc.1
  have hb := hc.2.1
  unfold w_X6_wick at h
  generalize hHH : s.heap = H0 at hw ⊢
  refine lv_iload_n hx hb dX6_wick_0 rfl (lv_at hl 1 rfl) ?_
  refine lv_iconst (v := 1) hx hb dX6_wick_1 (by decide) ?_
  refine lv_icmp_lt (tgt := 18) hx hb dX6_wick_2 (by decide) (fun c1 => ?_) (fun c1 => ?_)
  · replace h := h.1 c1
    refine lv_bipush (v := (-2)) hx hb dX6_wick_18 (by decide) ?_
    exact g_iret hc hr hw h dX6_wick_20
  · replace h := h.2 c1
    refine lv_iload_n hx hb dX6_wick_5 rfl (lv_at hl 1 rfl) ?_
    refine lv_bipush (v := 90) hx hb dX6_wick_6 (by decide) ?_
    refine lv_icmp_gt (tgt := 18) hx hb dX6_wick_8 (by decide) (fun c2 => ?_) (fun c2 => ?_)
    · replace h := h.1 c2
      refine lv_bipush (v := (-2)) hx hb dX6_wick_18 (by decide) ?_
      exact g_iret hc hr hw h dX6_wick_20
    · replace h := h.2 c2
      refine lv_iload_n hx hb dX6_wick_11 rfl (lv_at hl 2 rfl) ?_
      refine g_Si (Y := YC) (n := 1) (k := 0) (As := [.int a2]) (rest := []) vw_X6_242 ⟨Nat.le_of_ble_eq_true rfl, Nat.le_of_ble_eq_true rfl, Nat.zero_le _, Nat.zero_le _⟩ hc hw hl.1 (m_X6_isEvery l hM a2 σ h) rfl rfl (Nat.le_of_ble_eq_true rfl) dX6_wick_12 (fun r4 σ3 H locs h hw => ?_)
      refine lv_if_ne (tgt := 21) hx hb dX6_wick_15 (by decide) (fun c5 => ?_) (fun c5 => ?_)
      · replace h := h.2 c5
        refine lv_aload_n hx hb dX6_wick_21 rfl (lv_at hl 0 rfl) ?_
        refine lv_aload_n hx hb dX6_wick_22 rfl (lv_at hl 0 rfl) ?_
        refine fg_X6_120 hc hw (Nat.lt_of_lt_of_le (by decide) hM) rfl dX6_wick_23 ?_
        refine g_Vv (Y := YC) (ci := 6) (n := 1) (k := 5) (As := [.int (gi σ3 0 3)]) (rest := []) rfl (by decide) vw_X6_171 ⟨Nat.le_of_ble_eq_true rfl, Nat.le_of_ble_eq_true rfl, Nat.zero_le _, Nat.zero_le _⟩ hc hw hl.1 (Nat.lt_of_lt_of_le (by decide) hM) rfl (m_X6_cookActs l hM (gi σ3 0 3) σ3 h) rfl rfl (Nat.le_of_ble_eq_true rfl) dX6_wick_26 (fun σ6 H locs h hw => ?_)
        refine lv_iconst (v := 0) hx hb dX6_wick_29 (by decide) ?_
        refine lv_istore_n (lv' := [(3, .int 0), (0, .ref (ad 0)), (1, .int a1), (2, .int a2)]) hx hb dX6_wick_30 rfl hl (by decide) rfl (fun ls hl => ?_)
        refine lv_iconst (v := 0) hx hb dX6_wick_31 (by decide) ?_
        refine lv_istore (lv' := [(4, .int 0), (3, .int 0), (0, .ref (ad 0)), (1, .int a1), (2, .int a2)]) hx hb dX6_wick_32 hl (by decide) rfl (fun ls hl => ?_)
        refine lv_iconst (v := 0) hx hb dX6_wick_34 (by decide) ?_
        refine lv_istore (lv' := [(5, .int 0), (4, .int 0), (3, .int 0), (0, .ref (ad 0)), (1, .int a1), (2, .int a2)]) hx hb dX6_wick_35 hl (by decide) rfl (fun ls hl => ?_)
        obtain ⟨n, h⟩ := h
        exact bl_X6_wick_37 hM hc hr n a1 a2 0 0 0 σ6 _ _ _ h  hw (lv_sub hl [3, 4, 5, 2, 1, 0] rfl)
      · replace h := h.1 c5
        refine lv_bipush (v := (-2)) hx hb dX6_wick_18 (by decide) ?_
        exact g_iret hc hr hw h dX6_wick_20
def w_X6_ages_48 (M : Nat) (post : Int64 → St → Prop) (k_48 : Option Nat → Option Nat → Int32 → Int64 → Int32 → St → Prop) (v3 : Option Nat) (v4 : Option Nat) (v5 : Int32) (v6 : Int64) (v8 : Int32) (σ : St) : Prop :=
  (60 < v8 → (∃ o2 : Nat, v3 = some o2 ∧ (kdC o2 = 1 ∧ o2 < M) ∧ (w_X1_put M (fun σ3 => (post v6 σ3)) o2 0 v5 σ))) ∧ (¬ (60 < v8) → (∃ o4 : Nat, v3 = some o4 ∧ (kdC o4 = 1 ∧ o4 < M) ∧ (w_X1_put M (fun σ5 => (∃ o6 : Nat, v4 = some o6 ∧ (kdC o6 = 5 ∧ o6 < M) ∧ (w_X6_oilIsAsTold M (fun r8 σ7 => ((r8 = 0 → (∀ x10 : Int32, x10 = v8 + 1 → (k_48 (some o4) (some o6) v5 v6 x10 σ7))) ∧ (¬ (r8 = 0) → (∀ y11 : Int64, y11 = (1 : Int64) <<< (Int32.toInt64 v8 &&& 63) → (∀ x12 : Int32, x12 = v8 + 1 → (k_48 (some o4) (some o6) v5 (v6 ||| y11) x12 σ7)))))) o6 (gi σ5 0 6) σ5))) o4 0 v8 σ)))
set_option maxHeartbeats 4000000 in
set_option maxRecDepth 20000 in
theorem b_X6_ages_48 {Γ : Gm} {ad : Nat → Nat} {p : Program} {l : Launch} {e : Env} {s : State} {m : MethodId} {args : Array Value} {below : List Frame} {meth : Method} {c : Code} {M : Nat} (hM : 53 ≤ M) {post : Int64 → St → Prop} {k_48 : Option Nat → Option Nat → Int32 → Int64 → Int32 → St → Prop} (hk_48 : ∀ (v3 : Option Nat) (v4 : Option Nat) (v5 : Int32) (v6 : Int64) (v8 : Int32) (σ : St) (H : Heap) (locs : List Loc) (ls : Array Slot), k_48 v3 v4 v5 v6 v8 σ → WH Γ YC M ad σ s H locs → lv_has ls 9 [(0, .ref (ad 0)), (3, va_rf (Option.map ad v3)), (4, va_rf (Option.map ad v4)), (5, .int v5), (6, .long v6), (8, .int v8)] → W p l e (rmL 6 0 0) s m args below meth c H locs 0 0 (MQ below (va_Ql post (fun u t => WC Γ YC M ad u t) (AA Γ)) args s 0 0 (AA Γ)) (F0 m 48 ls []))
    (v3 : Option Nat) (v4 : Option Nat) (v5 : Int32) (v6 : Int64) (v8 : Int32) (σ : St) (H : Heap) (locs : List Loc) (ls : Array Slot) (h : w_X6_ages_48 M post k_48 v3 v4 v5 v6 v8 σ) (hc : CX Γ p s m args meth c cX6_ages RX6 9) (hr : meth.sig.returnType = (Option.some Jvm.ClassFile.FieldType.long)) (hw : WH Γ YC M ad σ s H locs) (hl : lv_has ls 9 [(0, .ref (ad 0)), (3, va_rf (Option.map ad v3)), (4, va_rf (Option.map ad v4)), (5, .int v5), (6, .long v6), (8, .int v8)]) :
    W p l e (rmL 6 0 0) s m args below meth c H locs 0 0 (MQ below (va_Ql post (fun u t => WC Γ YC M ad u t) (AA Γ)) args s 0 0 (AA Γ)) (F0 m 48 ls []) := by
  have hx := hc.1
  have hb := hc.2.1
  unfold w_X6_ages_48 at h
  refine lv_iload hx hb dX6_ages_48 (lv_at hl 5 rfl) ?_
  refine lv_bipush (v := 60) hx hb dX6_ages_50 (by decide) ?_
  refine lv_icmp_gt (tgt := 90) hx hb dX6_ages_52 (by decide) (fun c1 => ?_) (fun c1 => ?_)
  · replace h := h.1 c1
    refine g_aloadq hx hb dX6_ages_90 rfl (lv_at hl 1 rfl) ?_
    refine lv_iconst (v := 0) hx hb dX6_ages_91 (by decide) ?_
    refine lv_iload hx hb dX6_ages_92 (lv_at hl 3 rfl) ?_
    obtain ⟨o2, ho_o2, hf_o2, h⟩ := h
    try rw [ho_o2] at hl
    try rw [ho_o2]
    have hl : lv_has ls 9 [(0, .ref (ad 0)), (3, .ref (ad o2)), (4, va_rf (Option.map ad v4)), (5, .int v5), (6, .long v6), (8, .int v8)] := hl
    refine g_Vv (Y := YC) (ci := 1) (n := 2) (k := 1) (As := [.int 0, .int v5]) (rest := []) rfl (by decide) vw_X6_105 ⟨Nat.le_of_ble_eq_true rfl, Nat.le_of_ble_eq_true rfl, Nat.zero_le _, Nat.zero_le _⟩ hc hw hl.1 hf_o2.2 hf_o2.1 (m_X1_put l hM o2 0 v5 σ h) rfl rfl (Nat.le_of_ble_eq_true rfl) dX6_ages_94 (fun σ3 H locs h hw => ?_)
    refine lv_lload hx hb dX6_ages_97 (lv_at hl 4 rfl) ?_
    exact g_lret hc hr hw h dX6_ages_99
  · replace h := h.2 c1
    refine g_aloadq hx hb dX6_ages_55 rfl (lv_at hl 1 rfl) ?_
    refine lv_iconst (v := 0) hx hb dX6_ages_56 (by decide) ?_
    refine lv_iload hx hb dX6_ages_57 (lv_at hl 5 rfl) ?_
    obtain ⟨o4, ho_o4, hf_o4, h⟩ := h
    try rw [ho_o4] at hl
    try rw [ho_o4]
    have hl : lv_has ls 9 [(0, .ref (ad 0)), (3, .ref (ad o4)), (4, va_rf (Option.map ad v4)), (5, .int v5), (6, .long v6), (8, .int v8)] := hl
    refine g_Vv (Y := YC) (ci := 1) (n := 2) (k := 1) (As := [.int 0, .int v8]) (rest := []) rfl (by decide) vw_X6_105 ⟨Nat.le_of_ble_eq_true rfl, Nat.le_of_ble_eq_true rfl, Nat.zero_le _, Nat.zero_le _⟩ hc hw hl.1 hf_o4.2 hf_o4.1 (m_X1_put l hM o4 0 v8 σ h) rfl rfl (Nat.le_of_ble_eq_true rfl) dX6_ages_59 (fun σ5 H locs h hw => ?_)
    refine lv_aload_n hx hb dX6_ages_62 rfl (lv_at hl 0 rfl) ?_
    refine g_aloadqW hx hb dX6_ages_63 (lv_at hl 2 rfl) ?_
    refine lv_aload_n hx hb dX6_ages_65 rfl (lv_at hl 0 rfl) ?_
    refine fg_X6_123 hc hw (Nat.lt_of_lt_of_le (by decide) hM) rfl dX6_ages_66 ?_
    obtain ⟨o6, ho_o6, hf_o6, h⟩ := h
    try rw [ho_o6] at hl
    try rw [ho_o6]
    have hl : lv_has ls 9 [(0, .ref (ad 0)), (3, .ref (ad o4)), (4, .ref (ad o6)), (5, .int v5), (6, .long v6), (8, .int v8)] := hl
    refine g_Vi (Y := YC) (ci := 6) (n := 2) (k := 5) (As := [.ref (ad o6), .int (gi σ5 0 6)]) (rest := []) rfl (by decide) vw_X6_273 ⟨Nat.le_of_ble_eq_true rfl, Nat.le_of_ble_eq_true rfl, Nat.zero_le _, Nat.zero_le _⟩ hc hw hl.1 (Nat.lt_of_lt_of_le (by decide) hM) rfl (m_X6_oilIsAsTold l hM o6 (gi σ5 0 6) σ5 h) rfl rfl (Nat.le_of_ble_eq_true rfl) dX6_ages_69 (fun r8 σ7 H locs h hw => ?_)
    refine lv_if_eq (tgt := 84) hx hb dX6_ages_72 (by decide) (fun c9 => ?_) (fun c9 => ?_)
    · replace h := h.1 c9
      obtain ⟨x10, ex10⟩ : ∃ z, z = v8 + 1 := ⟨_, rfl⟩
      replace h := h x10 ex10
      refine lv_iinc (v := x10) (lv' := [(8, .int x10), (0, .ref (ad 0)), (3, .ref (ad o4)), (4, .ref (ad o6)), (5, .int v5), (6, .long v6)]) hx hb dX6_ages_84 hl (k := 5) rfl (by rw [ex10]; rfl) (by decide) rfl (fun ls hl => ?_)
      refine lv_goto (tgt := 48) hx hb dX6_ages_87 (by decide) ?_
      exact hk_48 (some o4) (some o6) v5 v6 x10 σ7 _ _ _ h  hw (lv_sub hl [1, 2, 3, 4, 5, 0] rfl)
    · replace h := h.2 c9
      refine lv_lload hx hb dX6_ages_75 (lv_at hl 4 rfl) ?_
      refine lv_lconst (v := 1) hx hb dX6_ages_77 (by decide) ?_
      refine lv_iload hx hb dX6_ages_78 (lv_at hl 5 rfl) ?_
      refine lv_lshl (v := (1 : Int64) <<< (Int32.toInt64 v8 &&& 63)) hx hb dX6_ages_80 rfl ?_
      refine lv_topl (fun y11 ey11 => ?_)
      replace h := h y11 ey11
      refine lv_lor hx hb dX6_ages_81 ?_
      refine lv_lstore (lv' := [(6, .long (v6 ||| y11)), (0, .ref (ad 0)), (3, .ref (ad o4)), (4, .ref (ad o6)), (5, .int v5), (8, .int v8)]) hx hb dX6_ages_82 hl (by decide) rfl (fun ls hl => ?_)
      obtain ⟨x12, ex12⟩ : ∃ z, z = v8 + 1 := ⟨_, rfl⟩
      replace h := h x12 ex12
      refine lv_iinc (v := x12) (lv' := [(8, .int x12), (6, .long (v6 ||| y11)), (0, .ref (ad 0)), (3, .ref (ad o4)), (4, .ref (ad o6)), (5, .int v5)]) hx hb dX6_ages_84 hl (k := 5) rfl (by rw [ex12]; rfl) (by decide) rfl (fun ls hl => ?_)
      refine lv_goto (tgt := 48) hx hb dX6_ages_87 (by decide) ?_
      exact hk_48 (some o4) (some o6) v5 (v6 ||| y11) x12 σ7 _ _ _ h  hw (lv_sub hl [2, 3, 4, 5, 1, 0] rfl)
def wl_X6_ages_48 (M : Nat) (post : Int64 → St → Prop) : Nat → Option Nat → Option Nat → Int32 → Int64 → Int32 → St → Prop
  | 0, _, _, _, _, _, _ => False
  | n + 1, v3, v4, v5, v6, v8, σ => w_X6_ages_48 M post (wl_X6_ages_48 M post n) v3 v4 v5 v6 v8 σ
set_option maxHeartbeats 4000000 in
theorem bl_X6_ages_48 {Γ : Gm} {ad : Nat → Nat} {p : Program} {l : Launch} {e : Env} {s : State} {m : MethodId} {args : Array Value} {below : List Frame} {meth : Method} {c : Code} {M : Nat} (hM : 53 ≤ M) {post : Int64 → St → Prop}
    (hc : CX Γ p s m args meth c cX6_ages RX6 9) (hr : meth.sig.returnType = (Option.some Jvm.ClassFile.FieldType.long)) :
    ∀ (n : Nat) (v3 : Option Nat) (v4 : Option Nat) (v5 : Int32) (v6 : Int64) (v8 : Int32) (σ : St) (H : Heap) (locs : List Loc) (ls : Array Slot), wl_X6_ages_48 M post n v3 v4 v5 v6 v8 σ → WH Γ YC M ad σ s H locs → lv_has ls 9 [(0, .ref (ad 0)), (3, va_rf (Option.map ad v3)), (4, va_rf (Option.map ad v4)), (5, .int v5), (6, .long v6), (8, .int v8)] → W p l e (rmL 6 0 0) s m args below meth c H locs 0 0 (MQ below (va_Ql post (fun u t => WC Γ YC M ad u t) (AA Γ)) args s 0 0 (AA Γ)) (F0 m 48 ls []) := by
  intro n
  induction n with
  | zero => intro v3 v4 v5 v6 v8 σ H locs ls h; exact h.elim
  | succ n ih =>
    intro v3 v4 v5 v6 v8 σ H locs ls h  hw hl
    exact b_X6_ages_48 hM ih v3 v4 v5 v6 v8 σ H locs ls h  hc hr hw hl
def w_X6_ages (M : Nat) (post : Int64 → St → Prop) (a1 : Int32) (a2 : Int32) (σ : St) : Prop :=
  w_X6_cheeseAt M (fun q2 σ1 => (w_X6_sheetAt M (fun q4 σ3 => ((q2 = none → (post (-4611686018427387904) σ3)) ∧ (∀ o5 : Nat, q2 = some o5 → ((kdC o5 = 1 ∧ o5 < M) ∧ ((q4 = none → (post (-4611686018427387904) σ3)) ∧ (∀ o7 : Nat, q4 = some o7 → ((kdC o7 = 5 ∧ o7 < M) ∧ (w_X6_refusedAsTest M (fun r10 σ9 => ((r10 = 0 → (w_X1_tell M (fun r13 σ12 => (∃ n, wl_X6_ages_48 M post n (some o5) (some o7) r13 0 1 σ12)) o5 0 σ9)) ∧ (¬ (r10 = 0) → (post (-4611686018427387904) σ9)))) (some o7) σ3)))))))) a2 σ1)) a1 σ
set_option maxHeartbeats 4000000 in
set_option maxRecDepth 20000 in
theorem m_X6_ages {Γ : Gm} {ad : Nat → Nat} {M : Nat} (l : Launch) (hM : 53 ≤ M) {post : Int64 → St → Prop} (a1 : Int32) (a2 : Int32) (σ : St) (h : w_X6_ages M post a1 a2 σ) : Cl l Γ YC M ad σ yX6_ages cX6_ages 9 (Option.some Jvm.ClassFile.FieldType.long) 6 0 0 [.ref (ad 0), .int a1, .int a2] post := by
  refine g_start (by decide) (Nat.le_of_ble_eq_true rfl) ?_
  intro p e s m args below meth c ls hc hr hn hl hw
  have hc : CX Γ p s m args meth c cX6_ages RX6 9 := hc
  have hl : lv_has ls 9 [(0, .ref (ad 0)), (1, .int a1), (2, .int a2)] := hl
  have hx := hc.1
  have hb := hc.2.1
  unfold w_X6_ages at h
  generalize hHH : s.heap = H0 at hw ⊢
  refine lv_aload_n hx hb dX6_ages_0 rfl (lv_at hl 0 rfl) ?_
  refine lv_iload_n hx hb dX6_ages_1 rfl (lv_at hl 1 rfl) ?_
  refine g_Ve (Y := YC) (ci := 6) (n := 1) (k := 0) (As := [.int a1]) (rest := []) rfl (by decide) vw_X6_101 ⟨Nat.le_of_ble_eq_true rfl, Nat.le_of_ble_eq_true rfl, Nat.zero_le _, Nat.zero_le _⟩ hc hw hl.1 (Nat.lt_of_lt_of_le (by decide) hM) rfl (m_X6_cheeseAt l hM a1 σ h) rfl rfl (Nat.le_of_ble_eq_true rfl) dX6_ages_2 (fun q2 σ1 H locs h hw => ?_)
  refine g_astoreq (lv' := [(3, va_rf (Option.map ad q2)), (0, .ref (ad 0)), (1, .int a1), (2, .int a2)]) hx hb dX6_ages_5 rfl hl (by decide) rfl (fun ls hl => ?_)
  refine lv_aload_n hx hb dX6_ages_6 rfl (lv_at hl 1 rfl) ?_
  refine lv_iload_n hx hb dX6_ages_7 rfl (lv_at hl 3 rfl) ?_
  refine g_Ve (Y := YC) (ci := 6) (n := 1) (k := 0) (As := [.int a2]) (rest := []) rfl (by decide) vw_X6_258 ⟨Nat.le_of_ble_eq_true rfl, Nat.le_of_ble_eq_true rfl, Nat.zero_le _, Nat.zero_le _⟩ hc hw hl.1 (Nat.lt_of_lt_of_le (by decide) hM) rfl (m_X6_sheetAt l hM a2 σ1 h) rfl rfl (Nat.le_of_ble_eq_true rfl) dX6_ages_8 (fun q4 σ3 H locs h hw => ?_)
  refine g_astoreqW (lv' := [(4, va_rf (Option.map ad q4)), (3, va_rf (Option.map ad q2)), (0, .ref (ad 0)), (1, .int a1), (2, .int a2)]) hx hb dX6_ages_11 hl (by decide) (by clear h; cases q2 <;> rfl) (fun ls hl => ?_)
  refine g_aloadq hx hb dX6_ages_13 rfl (lv_at hl 1 rfl) ?_
  refine g_ifnull (tgt := 31) hx hb dX6_ages_14 (by decide) (fun hn6 => ?_) (fun o5 hn6 => ?_)
  · replace h := h.1 hn6
    try rw [hn6] at hl
    try rw [hn6]
    have hl : lv_has ls 9 [(4, va_rf (Option.map ad q4)), (3, .null), (0, .ref (ad 0)), (1, .int a1), (2, .int a2)] := hl
    refine lv_ldc2 (v := (-4611686018427387904)) hx hb hc.2.2.2.1 (hc.2.2.2.2.1 _ q_771) dX6_ages_31 ?_
    exact g_lret hc hr hw h dX6_ages_34
  · replace h := h.2 o5 hn6
    try rw [hn6] at hl
    try rw [hn6]
    have hf_o5 := h.1
    replace h := h.2
    have hl : lv_has ls 9 [(4, va_rf (Option.map ad q4)), (3, .ref (ad o5)), (0, .ref (ad 0)), (1, .int a1), (2, .int a2)] := hl
    refine g_aloadqW hx hb dX6_ages_17 (lv_at hl 0 rfl) ?_
    refine g_ifnull (tgt := 31) hx hb dX6_ages_19 (by decide) (fun hn8 => ?_) (fun o7 hn8 => ?_)
    · replace h := h.1 hn8
      try rw [hn8] at hl
      try rw [hn8]
      have hl : lv_has ls 9 [(4, .null), (3, .ref (ad o5)), (0, .ref (ad 0)), (1, .int a1), (2, .int a2)] := hl
      refine lv_ldc2 (v := (-4611686018427387904)) hx hb hc.2.2.2.1 (hc.2.2.2.2.1 _ q_771) dX6_ages_31 ?_
      exact g_lret hc hr hw h dX6_ages_34
    · replace h := h.2 o7 hn8
      try rw [hn8] at hl
      try rw [hn8]
      have hf_o7 := h.1
      replace h := h.2
      have hl : lv_has ls 9 [(4, .ref (ad o7)), (3, .ref (ad o5)), (0, .ref (ad 0)), (1, .int a1), (2, .int a2)] := hl
      refine lv_aload_n hx hb dX6_ages_22 rfl (lv_at hl 2 rfl) ?_
      refine lv_aload hx hb dX6_ages_23 (lv_at hl 0 rfl) ?_
      refine g_Vi (Y := YC) (ci := 6) (n := 1) (k := 1) (As := [.ref (ad o7)]) (rest := []) rfl (by decide) vw_X6_262 ⟨Nat.le_of_ble_eq_true rfl, Nat.le_of_ble_eq_true rfl, Nat.zero_le _, Nat.zero_le _⟩ hc hw hl.1 (Nat.lt_of_lt_of_le (by decide) hM) rfl (m_X6_refusedAsTest l hM (some o7) σ3 h) rfl rfl (Nat.le_of_ble_eq_true rfl) dX6_ages_25 (fun r10 σ9 H locs h hw => ?_)
      refine lv_if_eq (tgt := 35) hx hb dX6_ages_28 (by decide) (fun c11 => ?_) (fun c11 => ?_)
      · replace h := h.1 c11
        refine lv_aload_n hx hb dX6_ages_35 rfl (lv_at hl 1 rfl) ?_
        refine lv_iconst (v := 0) hx hb dX6_ages_36 (by decide) ?_
        refine g_Vi (Y := YC) (ci := 1) (n := 1) (k := 1) (As := [.int 0]) (rest := []) rfl (by decide) vw_X6_109 ⟨Nat.le_of_ble_eq_true rfl, Nat.le_of_ble_eq_true rfl, Nat.zero_le _, Nat.zero_le _⟩ hc hw hl.1 hf_o5.2 hf_o5.1 (m_X1_tell l hM o5 0 σ9 h) rfl rfl (Nat.le_of_ble_eq_true rfl) dX6_ages_37 (fun r13 σ12 H locs h hw => ?_)
        refine lv_istore (lv' := [(5, .int r13), (4, .ref (ad o7)), (3, .ref (ad o5)), (0, .ref (ad 0)), (1, .int a1), (2, .int a2)]) hx hb dX6_ages_40 hl (by decide) rfl (fun ls hl => ?_)
        refine lv_lconst (v := 0) hx hb dX6_ages_42 (by decide) ?_
        refine lv_lstore (lv' := [(6, .long 0), (5, .int r13), (4, .ref (ad o7)), (3, .ref (ad o5)), (0, .ref (ad 0)), (1, .int a1), (2, .int a2)]) hx hb dX6_ages_43 hl (by decide) rfl (fun ls hl => ?_)
        refine lv_iconst (v := 1) hx hb dX6_ages_45 (by decide) ?_
        refine lv_istore (lv' := [(8, .int 1), (6, .long 0), (5, .int r13), (4, .ref (ad o7)), (3, .ref (ad o5)), (0, .ref (ad 0)), (1, .int a1), (2, .int a2)]) hx hb dX6_ages_46 hl (by decide) rfl (fun ls hl => ?_)
        obtain ⟨n, h⟩ := h
        exact bl_X6_ages_48 hM hc hr n (some o5) (some o7) r13 0 1 σ12 _ _ _ h  hw (lv_sub hl [5, 4, 3, 2, 1, 0] rfl)
      · replace h := h.2 c11
        refine lv_ldc2 (v := (-4611686018427387904)) hx hb hc.2.2.2.1 (hc.2.2.2.2.1 _ q_771) dX6_ages_31 ?_
        exact g_lret hc hr hw h dX6_ages_34
def w_X6_which_28 (M : Nat) (post : Int32 → St → Prop) (k_28 : Option Nat → Int32 → Int32 → St → Prop) (v2 : Option Nat) (v4 : Int32) (v5 : Int32) (σ : St) : Prop :=
  ((gi σ 0 5) ≤ v5 → (post v4 σ)) ∧ (¬ ((gi σ 0 5) ≤ v5) → (∃ o2 : Nat, v2 = some o2 ∧ (kdC o2 = 5 ∧ o2 < M) ∧ (w_X6_oilIsAsTold M (fun r4 σ3 => ((r4 = 0 → (∀ x6 : Int32, x6 = v5 + 1 → (k_28 (some o2) v4 x6 σ3))) ∧ (¬ (r4 = 0) → (∀ x7 : Int32, x7 = v5 + 1 → (k_28 (some o2) (v4 ||| (1 <<< (v5 &&& 31))) x7 σ3))))) o2 v5 σ)))
set_option maxHeartbeats 4000000 in
set_option maxRecDepth 20000 in
theorem b_X6_which_28 {Γ : Gm} {ad : Nat → Nat} {p : Program} {l : Launch} {e : Env} {s : State} {m : MethodId} {args : Array Value} {below : List Frame} {meth : Method} {c : Code} {M : Nat} (hM : 53 ≤ M) {post : Int32 → St → Prop} {k_28 : Option Nat → Int32 → Int32 → St → Prop} (hk_28 : ∀ (v2 : Option Nat) (v4 : Int32) (v5 : Int32) (σ : St) (H : Heap) (locs : List Loc) (ls : Array Slot), k_28 v2 v4 v5 σ → WH Γ YC M ad σ s H locs → lv_has ls 6 [(0, .ref (ad 0)), (2, va_rf (Option.map ad v2)), (4, .int v4), (5, .int v5)] → W p l e (rmL 6 0 0) s m args below meth c H locs 0 0 (MQ below (va_Qi post (fun u t => WC Γ YC M ad u t) (AA Γ)) args s 0 0 (AA Γ)) (F0 m 28 ls []))
    (v2 : Option Nat) (v4 : Int32) (v5 : Int32) (σ : St) (H : Heap) (locs : List Loc) (ls : Array Slot) (h : w_X6_which_28 M post k_28 v2 v4 v5 σ) (hc : CX Γ p s m args meth c cX6_which RX6 6) (hr : meth.sig.returnType = (Option.some Jvm.ClassFile.FieldType.int)) (hw : WH Γ YC M ad σ s H locs) (hl : lv_has ls 6 [(0, .ref (ad 0)), (2, va_rf (Option.map ad v2)), (4, .int v4), (5, .int v5)]) :
    W p l e (rmL 6 0 0) s m args below meth c H locs 0 0 (MQ below (va_Qi post (fun u t => WC Γ YC M ad u t) (AA Γ)) args s 0 0 (AA Γ)) (F0 m 28 ls []) := by
  have hx := hc.1
  have hb := hc.2.1
  unfold w_X6_which_28 at h
  refine lv_iload hx hb dX6_which_28 (lv_at hl 3 rfl) ?_
  refine lv_aload_n hx hb dX6_which_30 rfl (lv_at hl 0 rfl) ?_
  refine fg_X6_91 hc hw (Nat.lt_of_lt_of_le (by decide) hM) rfl dX6_which_31 ?_
  refine lv_icmp_ge (tgt := 62) hx hb dX6_which_34 (by decide) (fun c1 => ?_) (fun c1 => ?_)
  · replace h := h.1 c1
    refine lv_iload hx hb dX6_which_62 (lv_at hl 2 rfl) ?_
    exact g_iret hc hr hw h dX6_which_64
  · replace h := h.2 c1
    refine lv_aload_n hx hb dX6_which_37 rfl (lv_at hl 0 rfl) ?_
    refine g_aloadq hx hb dX6_which_38 rfl (lv_at hl 1 rfl) ?_
    refine lv_iload hx hb dX6_which_39 (lv_at hl 3 rfl) ?_
    obtain ⟨o2, ho_o2, hf_o2, h⟩ := h
    try rw [ho_o2] at hl
    try rw [ho_o2]
    have hl : lv_has ls 6 [(0, .ref (ad 0)), (2, .ref (ad o2)), (4, .int v4), (5, .int v5)] := hl
    refine g_Vi (Y := YC) (ci := 6) (n := 2) (k := 5) (As := [.ref (ad o2), .int v5]) (rest := []) rfl (by decide) vw_X6_273 ⟨Nat.le_of_ble_eq_true rfl, Nat.le_of_ble_eq_true rfl, Nat.zero_le _, Nat.zero_le _⟩ hc hw hl.1 (Nat.lt_of_lt_of_le (by decide) hM) rfl (m_X6_oilIsAsTold l hM o2 v5 σ h) rfl rfl (Nat.le_of_ble_eq_true rfl) dX6_which_41 (fun r4 σ3 H locs h hw => ?_)
    refine lv_if_eq (tgt := 56) hx hb dX6_which_44 (by decide) (fun c5 => ?_) (fun c5 => ?_)
    · replace h := h.1 c5
      obtain ⟨x6, ex6⟩ : ∃ z, z = v5 + 1 := ⟨_, rfl⟩
      replace h := h x6 ex6
      refine lv_iinc (v := x6) (lv' := [(5, .int x6), (0, .ref (ad 0)), (2, .ref (ad o2)), (4, .int v4)]) hx hb dX6_which_56 hl (k := 3) rfl (by rw [ex6]; rfl) (by decide) rfl (fun ls hl => ?_)
      refine lv_goto (tgt := 28) hx hb dX6_which_59 (by decide) ?_
      exact hk_28 (some o2) v4 x6 σ3 _ _ _ h  hw (lv_sub hl [1, 2, 3, 0] rfl)
    · replace h := h.2 c5
      refine lv_iload hx hb dX6_which_47 (lv_at hl 2 rfl) ?_
      refine lv_iconst (v := 1) hx hb dX6_which_49 (by decide) ?_
      refine lv_iload hx hb dX6_which_50 (lv_at hl 3 rfl) ?_
      refine lv_ishl hx hb dX6_which_52 ?_
      refine lv_ior hx hb dX6_which_53 ?_
      refine lv_istore (lv' := [(4, .int (v4 ||| (1 <<< (v5 &&& 31)))), (0, .ref (ad 0)), (2, .ref (ad o2)), (5, .int v5)]) hx hb dX6_which_54 hl (by decide) rfl (fun ls hl => ?_)
      obtain ⟨x7, ex7⟩ : ∃ z, z = v5 + 1 := ⟨_, rfl⟩
      replace h := h x7 ex7
      refine lv_iinc (v := x7) (lv' := [(5, .int x7), (4, .int (v4 ||| (1 <<< (v5 &&& 31)))), (0, .ref (ad 0)), (2, .ref (ad o2))]) hx hb dX6_which_56 hl (k := 3) rfl (by rw [ex7]; rfl) (by decide) rfl (fun ls hl => ?_)
      refine lv_goto (tgt := 28) hx hb dX6_which_59 (by decide) ?_
      exact hk_28 (some o2) (v4 ||| (1 <<< (v5 &&& 31))) x7 σ3 _ _ _ h  hw (lv_sub hl [2, 3, 1, 0] rfl)
def wl_X6_which_28 (M : Nat) (post : Int32 → St → Prop) : Nat → Option Nat → Int32 → Int32 → St → Prop
  | 0, _, _, _, _ => False
  | n + 1, v2, v4, v5, σ => w_X6_which_28 M post (wl_X6_which_28 M post n) v2 v4 v5 σ
set_option maxHeartbeats 4000000 in
theorem bl_X6_which_28 {Γ : Gm} {ad : Nat → Nat} {p : Program} {l : Launch} {e : Env} {s : State} {m : MethodId} {args : Array Value} {below : List Frame} {meth : Method} {c : Code} {M : Nat} (hM : 53 ≤ M) {post : Int32 → St → Prop}
    (hc : CX Γ p s m args meth c cX6_which RX6 6) (hr : meth.sig.returnType = (Option.some Jvm.ClassFile.FieldType.int)) :
    ∀ (n : Nat) (v2 : Option Nat) (v4 : Int32) (v5 : Int32) (σ : St) (H : Heap) (locs : List Loc) (ls : Array Slot), wl_X6_which_28 M post n v2 v4 v5 σ → WH Γ YC M ad σ s H locs → lv_has ls 6 [(0, .ref (ad 0)), (2, va_rf (Option.map ad v2)), (4, .int v4), (5, .int v5)] → W p l e (rmL 6 0 0) s m args below meth c H locs 0 0 (MQ below (va_Qi post (fun u t => WC Γ YC M ad u t) (AA Γ)) args s 0 0 (AA Γ)) (F0 m 28 ls []) := by
  intro n
  induction n with
  | zero => intro v2 v4 v5 σ H locs ls h; exact h.elim
  | succ n ih =>
    intro v2 v4 v5 σ H locs ls h  hw hl
    exact b_X6_which_28 hM ih v2 v4 v5 σ H locs ls h  hc hr hw hl
def w_X6_which (M : Nat) (post : Int32 → St → Prop) (a1 : Int32) (σ : St) : Prop :=
  w_X6_sheetAt M (fun q2 σ1 => (w_X6_refusedAsTest M (fun r4 σ3 => ((q2 = none → (post r4 σ3)) ∧ (∀ o5 : Nat, q2 = some o5 → ((kdC o5 = 5 ∧ o5 < M) ∧ ((r4 = 0 → (∃ n, wl_X6_which_28 M post n (some o5) 0 0 σ3)) ∧ (¬ (r4 = 0) → (post r4 σ3))))))) q2 σ1)) a1 σ
set_option maxHeartbeats 4000000 in
set_option maxRecDepth 20000 in
theorem m_X6_which {Γ : Gm} {ad : Nat → Nat} {M : Nat} (l : Launch) (hM : 53 ≤ M) {post : Int32 → St → Prop} (a1 : Int32) (σ : St) (h : w_X6_which M post a1 σ) : Ci l Γ YC M ad σ yX6_which cX6_which 6 (Option.some Jvm.ClassFile.FieldType.int) 6 0 0 [.ref (ad 0), .int a1] post := by
  refine g_start (by decide) (Nat.le_of_ble_eq_true rfl) ?_
  intro p e s m args below meth c ls hc hr hn hl hw
  have hc : CX Γ p s m args meth c cX6_which RX6 6 := hc
  have hl : lv_has ls 6 [(0, .ref (ad 0)), (1, .int a1)] := hl
  have hx := hc.1
  have hb := hc.2.1
  unfold w_X6_which at h
  generalize hHH : s.heap = H0 at hw ⊢
  refine lv_aload_n hx hb dX6_which_0 rfl (lv_at hl 0 rfl) ?_
  refine lv_iload_n hx hb dX6_which_1 rfl (lv_at hl 1 rfl) ?_
  refine g_Ve (Y := YC) (ci := 6) (n := 1) (k := 0) (As := [.int a1]) (rest := []) rfl (by decide) vw_X6_258 ⟨Nat.le_of_ble_eq_true rfl, Nat.le_of_ble_eq_true rfl, Nat.zero_le _, Nat.zero_le _⟩ hc hw hl.1 (Nat.lt_of_lt_of_le (by decide) hM) rfl (m_X6_sheetAt l hM a1 σ h) rfl rfl (Nat.le_of_ble_eq_true rfl) dX6_which_2 (fun q2 σ1 H locs h hw => ?_)
  refine g_astoreq (lv' := [(2, va_rf (Option.map ad q2)), (0, .ref (ad 0)), (1, .int a1)]) hx hb dX6_which_5 rfl hl (by decide) rfl (fun ls hl => ?_)
  refine lv_aload_n hx hb dX6_which_6 rfl (lv_at hl 1 rfl) ?_
  refine g_aloadq hx hb dX6_which_7 rfl (lv_at hl 0 rfl) ?_
  refine g_Vi (Y := YC) (ci := 6) (n := 1) (k := 1) (As := [va_rf (Option.map ad q2)]) (rest := []) rfl (by decide) vw_X6_262 ⟨Nat.le_of_ble_eq_true rfl, Nat.le_of_ble_eq_true rfl, Nat.zero_le _, Nat.zero_le _⟩ hc hw hl.1 (Nat.lt_of_lt_of_le (by decide) hM) rfl (m_X6_refusedAsTest l hM q2 σ1 h) rfl rfl (Nat.le_of_ble_eq_true rfl) dX6_which_8 (fun r4 σ3 H locs h hw => ?_)
  refine lv_istore_n (lv' := [(3, .int r4), (2, va_rf (Option.map ad q2)), (0, .ref (ad 0)), (1, .int a1)]) hx hb dX6_which_11 rfl hl (by decide) (by clear h; cases q2 <;> rfl) (fun ls hl => ?_)
  refine g_aloadq hx hb dX6_which_12 rfl (lv_at hl 1 rfl) ?_
  refine g_ifnull (tgt := 20) hx hb dX6_which_13 (by decide) (fun hn6 => ?_) (fun o5 hn6 => ?_)
  · replace h := h.1 hn6
    try rw [hn6] at hl
    try rw [hn6]
    have hl : lv_has ls 6 [(3, .int r4), (2, .null), (0, .ref (ad 0)), (1, .int a1)] := hl
    refine lv_iload_n hx hb dX6_which_20 rfl (lv_at hl 0 rfl) ?_
    exact g_iret hc hr hw h dX6_which_21
  · replace h := h.2 o5 hn6
    try rw [hn6] at hl
    try rw [hn6]
    have hf_o5 := h.1
    replace h := h.2
    have hl : lv_has ls 6 [(3, .int r4), (2, .ref (ad o5)), (0, .ref (ad 0)), (1, .int a1)] := hl
    refine lv_iload_n hx hb dX6_which_16 rfl (lv_at hl 0 rfl) ?_
    refine lv_if_eq (tgt := 22) hx hb dX6_which_17 (by decide) (fun c7 => ?_) (fun c7 => ?_)
    · replace h := h.1 c7
      refine lv_iconst (v := 0) hx hb dX6_which_22 (by decide) ?_
      refine lv_istore (lv' := [(4, .int 0), (3, .int r4), (2, .ref (ad o5)), (0, .ref (ad 0)), (1, .int a1)]) hx hb dX6_which_23 hl (by decide) rfl (fun ls hl => ?_)
      refine lv_iconst (v := 0) hx hb dX6_which_25 (by decide) ?_
      refine lv_istore (lv' := [(5, .int 0), (4, .int 0), (3, .int r4), (2, .ref (ad o5)), (0, .ref (ad 0)), (1, .int a1)]) hx hb dX6_which_26 hl (by decide) rfl (fun ls hl => ?_)
      obtain ⟨n, h⟩ := h
      exact bl_X6_which_28 hM hc hr n (some o5) 0 0 σ3 _ _ _ h  hw (lv_sub hl [4, 3, 1, 0] rfl)
    · replace h := h.2 c7
      refine lv_iload_n hx hb dX6_which_20 rfl (lv_at hl 0 rfl) ?_
      exact g_iret hc hr hw h dX6_which_21
def w_X6_drawn (M : Nat) (post : Int32 → St → Prop) (a1 : Int32) (a2 : Int32) (a3 : Int32) (σ : St) : Prop :=
  w_X6_hasActs M (fun r2 σ1 => ((r2 = 0 → (post (-5) σ1)) ∧ (¬ (r2 = 0) → (w_X6_isSeed M (fun r5 σ4 => ((r5 = 0 → (post (-7) σ4)) ∧ (¬ (r5 = 0) → (w_X3_canTell M (fun r8 σ7 => ((r8 = 0 → (post (-7) σ7)) ∧ (¬ (r8 = 0) → (w_X6_cookDrawn M (fun σ10 => (w_X3_tell M (fun r12 σ11 => (post r12 σ11)) 12 a3 σ10)) a1 a2 σ7)))) a3 σ4)))) a2 σ1)))) a1 σ
set_option maxHeartbeats 4000000 in
set_option maxRecDepth 20000 in
theorem m_X6_drawn {Γ : Gm} {ad : Nat → Nat} {M : Nat} (l : Launch) (hM : 53 ≤ M) {post : Int32 → St → Prop} (a1 : Int32) (a2 : Int32) (a3 : Int32) (σ : St) (h : w_X6_drawn M post a1 a2 a3 σ) : Ci l Γ YC M ad σ yX6_drawn cX6_drawn 4 (Option.some Jvm.ClassFile.FieldType.int) 6 0 0 [.ref (ad 0), .int a1, .int a2, .int a3] post := by
  refine g_start (by decide) (Nat.le_of_ble_eq_true rfl) ?_
  intro p e s m args below meth c ls hc hr hn hl hw
  have hc : CX Γ p s m args meth c cX6_drawn RX6 4 := hc
  have hl : lv_has ls 4 [(0, .ref (ad 0)), (1, .int a1), (2, .int a2), (3, .int a3)] := hl
  have hx := hc.1
  have hb := hc.2.1
  unfold w_X6_drawn at h
  generalize hHH : s.heap = H0 at hw ⊢
  refine lv_aload_n hx hb dX6_drawn_0 rfl (lv_at hl 0 rfl) ?_
  refine lv_iload_n hx hb dX6_drawn_1 rfl (lv_at hl 1 rfl) ?_
  refine g_Vi (Y := YC) (ci := 6) (n := 1) (k := 0) (As := [.int a1]) (rest := []) rfl (by decide) vw_X6_165 ⟨Nat.le_of_ble_eq_true rfl, Nat.le_of_ble_eq_true rfl, Nat.zero_le _, Nat.zero_le _⟩ hc hw hl.1 (Nat.lt_of_lt_of_le (by decide) hM) rfl (m_X6_hasActs l hM a1 σ h) rfl rfl (Nat.le_of_ble_eq_true rfl) dX6_drawn_2 (fun r2 σ1 H locs h hw => ?_)
  refine lv_if_ne (tgt := 11) hx hb dX6_drawn_5 (by decide) (fun c3 => ?_) (fun c3 => ?_)
  · replace h := h.2 c3
    refine lv_iload_n hx hb dX6_drawn_11 rfl (lv_at hl 2 rfl) ?_
    refine g_Si (Y := YC) (n := 1) (k := 0) (As := [.int a2]) (rest := []) vw_X6_277 ⟨Nat.le_of_ble_eq_true rfl, Nat.le_of_ble_eq_true rfl, Nat.zero_le _, Nat.zero_le _⟩ hc hw hl.1 (m_X6_isSeed l hM a2 σ1 h) rfl rfl (Nat.le_of_ble_eq_true rfl) dX6_drawn_12 (fun r5 σ4 H locs h hw => ?_)
    refine lv_if_eq (tgt := 25) hx hb dX6_drawn_15 (by decide) (fun c6 => ?_) (fun c6 => ?_)
    · replace h := h.1 c6
      refine lv_bipush (v := (-7)) hx hb dX6_drawn_25 (by decide) ?_
      exact g_iret hc hr hw h dX6_drawn_27
    · replace h := h.2 c6
      refine lv_iload_n hx hb dX6_drawn_18 rfl (lv_at hl 3 rfl) ?_
      refine g_Si (Y := YC) (n := 1) (k := 0) (As := [.int a3]) (rest := []) vw_X6_168 ⟨Nat.le_of_ble_eq_true rfl, Nat.le_of_ble_eq_true rfl, Nat.zero_le _, Nat.zero_le _⟩ hc hw hl.1 (m_X3_canTell l hM a3 σ4 h) rfl rfl (Nat.le_of_ble_eq_true rfl) dX6_drawn_19 (fun r8 σ7 H locs h hw => ?_)
      refine lv_if_ne (tgt := 28) hx hb dX6_drawn_22 (by decide) (fun c9 => ?_) (fun c9 => ?_)
      · replace h := h.2 c9
        refine lv_aload_n hx hb dX6_drawn_28 rfl (lv_at hl 0 rfl) ?_
        refine lv_iload_n hx hb dX6_drawn_29 rfl (lv_at hl 1 rfl) ?_
        refine lv_iload_n hx hb dX6_drawn_30 rfl (lv_at hl 2 rfl) ?_
        refine g_Vv (Y := YC) (ci := 6) (n := 2) (k := 5) (As := [.int a1, .int a2]) (rest := []) rfl (by decide) vw_X6_280 ⟨Nat.le_of_ble_eq_true rfl, Nat.le_of_ble_eq_true rfl, Nat.zero_le _, Nat.zero_le _⟩ hc hw hl.1 (Nat.lt_of_lt_of_le (by decide) hM) rfl (m_X6_cookDrawn l hM a1 a2 σ7 h) rfl rfl (Nat.le_of_ble_eq_true rfl) dX6_drawn_31 (fun σ10 H locs h hw => ?_)
        refine lv_aload_n hx hb dX6_drawn_34 rfl (lv_at hl 0 rfl) ?_
        refine fg_X6_57 hc hw (Nat.lt_of_lt_of_le (by decide) hM) rfl dX6_drawn_35 ?_
        refine lv_iload_n hx hb dX6_drawn_38 rfl (lv_at hl 3 rfl) ?_
        refine g_Vi (Y := YC) (ci := 3) (n := 1) (k := 4) (As := [.int a3]) (rest := []) rfl (by decide) vw_X6_174 ⟨Nat.le_of_ble_eq_true rfl, Nat.le_of_ble_eq_true rfl, Nat.zero_le _, Nat.zero_le _⟩ hc hw hl.1 (Nat.lt_of_lt_of_le (by decide) hM) rfl (m_X3_tell l hM 12 a3 σ10 h) rfl rfl (Nat.le_of_ble_eq_true rfl) dX6_drawn_39 (fun r12 σ11 H locs h hw => ?_)
        exact g_iret hc hr hw h dX6_drawn_42
      · replace h := h.1 c9
        refine lv_bipush (v := (-7)) hx hb dX6_drawn_25 (by decide) ?_
        exact g_iret hc hr hw h dX6_drawn_27
  · replace h := h.1 c3
    refine lv_bipush (v := (-5)) hx hb dX6_drawn_8 (by decide) ?_
    exact g_iret hc hr hw h dX6_drawn_10
def w_X6_chance_35 (M : Nat) (post : Int64 → St → Prop) (k_35 : Int32 → Int32 → Int32 → Int32 → Int32 → St → Prop) (v1 : Int32) (v2 : Int32) (v3 : Int32) (v4 : Int32) (v5 : Int32) (σ : St) : Prop :=
  (v2 ≤ v5 → (w_X6_lowestTerm M (fun r3 σ2 => (post r3.toInt64 σ2)) v4 v2 v3 σ)) ∧ (¬ (v2 ≤ v5) → (∀ x4 : Int32, x4 = (if (v1 + v5) < 99999 then (v1 + v5) else 99999) → (w_X6_cookDrawn M (fun σ5 => (w_X3_holdsNow M (fun r7 σ6 => ((r7 = 0 → (∀ x9 : Int32, x9 = v5 + 1 → (k_35 v1 v2 v3 v4 x9 σ6))) ∧ (¬ (r7 = 0) → (∀ x10 : Int32, x10 = v4 + 1 → (∀ x11 : Int32, x11 = v5 + 1 → (k_35 v1 v2 v3 x10 x11 σ6)))))) 12 σ5)) (gi σ 0 3) x4 σ)))
set_option maxHeartbeats 4000000 in
set_option maxRecDepth 20000 in
theorem b_X6_chance_35 {Γ : Gm} {ad : Nat → Nat} {p : Program} {l : Launch} {e : Env} {s : State} {m : MethodId} {args : Array Value} {below : List Frame} {meth : Method} {c : Code} {M : Nat} (hM : 53 ≤ M) {post : Int64 → St → Prop} {k_35 : Int32 → Int32 → Int32 → Int32 → Int32 → St → Prop} (hk_35 : ∀ (v1 : Int32) (v2 : Int32) (v3 : Int32) (v4 : Int32) (v5 : Int32) (σ : St) (H : Heap) (locs : List Loc) (ls : Array Slot), k_35 v1 v2 v3 v4 v5 σ → WH Γ YC M ad σ s H locs → lv_has ls 6 [(0, .ref (ad 0)), (1, .int v1), (2, .int v2), (3, .int v3), (4, .int v4), (5, .int v5)] → W p l e (rmL 6 0 0) s m args below meth c H locs 0 0 (MQ below (va_Ql post (fun u t => WC Γ YC M ad u t) (AA Γ)) args s 0 0 (AA Γ)) (F0 m 35 ls []))
    (v1 : Int32) (v2 : Int32) (v3 : Int32) (v4 : Int32) (v5 : Int32) (σ : St) (H : Heap) (locs : List Loc) (ls : Array Slot) (h : w_X6_chance_35 M post k_35 v1 v2 v3 v4 v5 σ) (hc : CX Γ p s m args meth c cX6_chance RX6 6) (hr : meth.sig.returnType = (Option.some Jvm.ClassFile.FieldType.long)) (hw : WH Γ YC M ad σ s H locs) (hl : lv_has ls 6 [(0, .ref (ad 0)), (1, .int v1), (2, .int v2), (3, .int v3), (4, .int v4), (5, .int v5)]) :
    W p l e (rmL 6 0 0) s m args below meth c H locs 0 0 (MQ below (va_Ql post (fun u t => WC Γ YC M ad u t) (AA Γ)) args s 0 0 (AA Γ)) (F0 m 35 ls []) := by
  have hx := hc.1
  have hb := hc.2.1
  unfold w_X6_chance_35 at h
  refine lv_iload hx hb dX6_chance_35 (lv_at hl 5 rfl) ?_
  refine lv_iload_n hx hb dX6_chance_37 rfl (lv_at hl 2 rfl) ?_
  refine lv_icmp_ge (tgt := 78) hx hb dX6_chance_38 (by decide) (fun c1 => ?_) (fun c1 => ?_)
  · replace h := h.1 c1
    refine lv_iload hx hb dX6_chance_78 (lv_at hl 4 rfl) ?_
    refine lv_iload_n hx hb dX6_chance_80 rfl (lv_at hl 2 rfl) ?_
    refine lv_iload_n hx hb dX6_chance_81 rfl (lv_at hl 3 rfl) ?_
    refine g_Si (Y := YC) (n := 3) (k := 0) (As := [.int v4, .int v2, .int v3]) (rest := []) vw_X6_205 ⟨Nat.le_of_ble_eq_true rfl, Nat.le_of_ble_eq_true rfl, Nat.zero_le _, Nat.zero_le _⟩ hc hw hl.1 (m_X6_lowestTerm l hM v4 v2 v3 σ h) rfl rfl (Nat.le_of_ble_eq_true rfl) dX6_chance_82 (fun r3 σ2 H locs h hw => ?_)
    refine lv_i2l (v := r3.toInt64) hx hb dX6_chance_85 rfl ?_
    exact g_lret hc hr hw h dX6_chance_86
  · replace h := h.2 c1
    refine lv_aload_n hx hb dX6_chance_41 rfl (lv_at hl 0 rfl) ?_
    refine lv_aload_n hx hb dX6_chance_42 rfl (lv_at hl 0 rfl) ?_
    refine fg_X6_120 hc hw (Nat.lt_of_lt_of_le (by decide) hM) rfl dX6_chance_43 ?_
    refine lv_ldcw (v := 99999) hx hb hc.2.2.2.1 (hc.2.2.2.2.1 _ q_889) dX6_chance_46 ?_
    refine lv_iload_n hx hb dX6_chance_49 rfl (lv_at hl 1 rfl) ?_
    refine lv_iload hx hb dX6_chance_50 (lv_at hl 5 rfl) ?_
    refine lv_iadd hx hb dX6_chance_52 ?_
    refine g_min q_772 q_360 q_85 q_361 hc hl.1 ⟨Nat.le_of_ble_eq_true rfl, Nat.le_of_ble_eq_true rfl, Nat.zero_le _, Nat.zero_le _⟩ (Nat.le_of_ble_eq_true rfl) dX6_chance_53 ?_
    refine lv_topi (fun x4 ex4 => ?_)
    replace h := h x4 ex4
    refine g_Vv (Y := YC) (ci := 6) (n := 2) (k := 5) (As := [.int (gi σ 0 3), .int x4]) (rest := []) rfl (by decide) vw_X6_280 ⟨Nat.le_of_ble_eq_true rfl, Nat.le_of_ble_eq_true rfl, Nat.zero_le _, Nat.zero_le _⟩ hc hw hl.1 (Nat.lt_of_lt_of_le (by decide) hM) rfl (m_X6_cookDrawn l hM (gi σ 0 3) x4 σ h) rfl rfl (Nat.le_of_ble_eq_true rfl) dX6_chance_56 (fun σ5 H locs h hw => ?_)
    refine lv_aload_n hx hb dX6_chance_59 rfl (lv_at hl 0 rfl) ?_
    refine fg_X6_57 hc hw (Nat.lt_of_lt_of_le (by decide) hM) rfl dX6_chance_60 ?_
    refine g_Vi (Y := YC) (ci := 3) (n := 0) (k := 0) (As := []) (rest := []) rfl (by decide) vw_X6_184 ⟨Nat.le_of_ble_eq_true rfl, Nat.le_of_ble_eq_true rfl, Nat.zero_le _, Nat.zero_le _⟩ hc hw hl.1 (Nat.lt_of_lt_of_le (by decide) hM) rfl (m_X3_holdsNow l hM 12 σ5 h) rfl rfl (Nat.le_of_ble_eq_true rfl) dX6_chance_63 (fun r7 σ6 H locs h hw => ?_)
    refine lv_if_eq (tgt := 72) hx hb dX6_chance_66 (by decide) (fun c8 => ?_) (fun c8 => ?_)
    · replace h := h.1 c8
      obtain ⟨x9, ex9⟩ : ∃ z, z = v5 + 1 := ⟨_, rfl⟩
      replace h := h x9 ex9
      refine lv_iinc (v := x9) (lv' := [(5, .int x9), (0, .ref (ad 0)), (1, .int v1), (2, .int v2), (3, .int v3), (4, .int v4)]) hx hb dX6_chance_72 hl (k := 5) rfl (by rw [ex9]; rfl) (by decide) rfl (fun ls hl => ?_)
      refine lv_goto (tgt := 35) hx hb dX6_chance_75 (by decide) ?_
      exact hk_35 v1 v2 v3 v4 x9 σ6 _ _ _ h  hw (lv_sub hl [1, 2, 3, 4, 5, 0] rfl)
    · replace h := h.2 c8
      obtain ⟨x10, ex10⟩ : ∃ z, z = v4 + 1 := ⟨_, rfl⟩
      replace h := h x10 ex10
      refine lv_iinc (v := x10) (lv' := [(4, .int x10), (0, .ref (ad 0)), (1, .int v1), (2, .int v2), (3, .int v3), (5, .int v5)]) hx hb dX6_chance_69 hl (k := 4) rfl (by rw [ex10]; rfl) (by decide) rfl (fun ls hl => ?_)
      obtain ⟨x11, ex11⟩ : ∃ z, z = v5 + 1 := ⟨_, rfl⟩
      replace h := h x11 ex11
      refine lv_iinc (v := x11) (lv' := [(5, .int x11), (4, .int x10), (0, .ref (ad 0)), (1, .int v1), (2, .int v2), (3, .int v3)]) hx hb dX6_chance_72 hl (k := 5) rfl (by rw [ex11]; rfl) (by decide) rfl (fun ls hl => ?_)
      refine lv_goto (tgt := 35) hx hb dX6_chance_75 (by decide) ?_
      exact hk_35 v1 v2 v3 x10 x11 σ6 _ _ _ h  hw (lv_sub hl [2, 3, 4, 5, 1, 0] rfl)
def wl_X6_chance_35 (M : Nat) (post : Int64 → St → Prop) : Nat → Int32 → Int32 → Int32 → Int32 → Int32 → St → Prop
  | 0, _, _, _, _, _, _ => False
  | n + 1, v1, v2, v3, v4, v5, σ => w_X6_chance_35 M post (wl_X6_chance_35 M post n) v1 v2 v3 v4 v5 σ
set_option maxHeartbeats 4000000 in
theorem bl_X6_chance_35 {Γ : Gm} {ad : Nat → Nat} {p : Program} {l : Launch} {e : Env} {s : State} {m : MethodId} {args : Array Value} {below : List Frame} {meth : Method} {c : Code} {M : Nat} (hM : 53 ≤ M) {post : Int64 → St → Prop}
    (hc : CX Γ p s m args meth c cX6_chance RX6 6) (hr : meth.sig.returnType = (Option.some Jvm.ClassFile.FieldType.long)) :
    ∀ (n : Nat) (v1 : Int32) (v2 : Int32) (v3 : Int32) (v4 : Int32) (v5 : Int32) (σ : St) (H : Heap) (locs : List Loc) (ls : Array Slot), wl_X6_chance_35 M post n v1 v2 v3 v4 v5 σ → WH Γ YC M ad σ s H locs → lv_has ls 6 [(0, .ref (ad 0)), (1, .int v1), (2, .int v2), (3, .int v3), (4, .int v4), (5, .int v5)] → W p l e (rmL 6 0 0) s m args below meth c H locs 0 0 (MQ below (va_Ql post (fun u t => WC Γ YC M ad u t) (AA Γ)) args s 0 0 (AA Γ)) (F0 m 35 ls []) := by
  intro n
  induction n with
  | zero => intro v1 v2 v3 v4 v5 σ H locs ls h; exact h.elim
  | succ n ih =>
    intro v1 v2 v3 v4 v5 σ H locs ls h  hw hl
    exact b_X6_chance_35 hM ih v1 v2 v3 v4 v5 σ H locs ls h  hc hr hw hl
def w_X6_chance (M : Nat) (post : Int64 → St → Prop) (a1 : Int32) (a2 : Int32) (a3 : Int32) (σ : St) : Prop :=
  w_X6_isSeed M (fun r2 σ1 => ((r2 = 0 → (post (-4611686018427387904) σ1)) ∧ (¬ (r2 = 0) → ((a2 < 1 → (post (-4611686018427387904) σ1)) ∧ (¬ (a2 < 1) → ((20 < a2 → (post (-4611686018427387904) σ1)) ∧ (¬ (20 < a2) → (w_X6_isBit M (fun r7 σ6 => ((r7 = 0 → (post (-4611686018427387904) σ6)) ∧ (¬ (r7 = 0) → (∃ n, wl_X6_chance_35 M post n a1 a2 a3 0 0 σ6)))) a3 σ1)))))))) a1 σ
set_option maxHeartbeats 4000000 in
set_option maxRecDepth 20000 in
theorem m_X6_chance {Γ : Gm} {ad : Nat → Nat} {M : Nat} (l : Launch) (hM : 53 ≤ M) {post : Int64 → St → Prop} (a1 : Int32) (a2 : Int32) (a3 : Int32) (σ : St) (h : w_X6_chance M post a1 a2 a3 σ) : Cl l Γ YC M ad σ yX6_chance cX6_chance 6 (Option.some Jvm.ClassFile.FieldType.long) 6 0 0 [.ref (ad 0), .int a1, .int a2, .int a3] post := by
  refine g_start (by decide) (Nat.le_of_ble_eq_true rfl) ?_
  intro p e s m args below meth c ls hc hr hn hl hw
  have hc : CX Γ p s m args meth c cX6_chance RX6 6 := hc
  have hl : lv_has ls 6 [(0, .ref (ad 0)), (1, .int a1), (2, .int a2), (3, .int a3)] := hl
  have hx := hc.1
  have hb := hc.2.1
  unfold w_X6_chance at h
  generalize hHH : s.heap = H0 at hw ⊢
  refine lv_iload_n hx hb dX6_chance_0 rfl (lv_at hl 1 rfl) ?_
  refine g_Si (Y := YC) (n := 1) (k := 0) (As := [.int a1]) (rest := []) vw_X6_277 ⟨Nat.le_of_ble_eq_true rfl, Nat.le_of_ble_eq_true rfl, Nat.zero_le _, Nat.zero_le _⟩ hc hw hl.1 (m_X6_isSeed l hM a1 σ h) rfl rfl (Nat.le_of_ble_eq_true rfl) dX6_chance_1 (fun r2 σ1 H locs h hw => ?_)
  refine lv_if_eq (tgt := 25) hx hb dX6_chance_4 (by decide) (fun c3 => ?_) (fun c3 => ?_)
  · replace h := h.1 c3
    refine lv_ldc2 (v := (-4611686018427387904)) hx hb hc.2.2.2.1 (hc.2.2.2.2.1 _ q_771) dX6_chance_25 ?_
    exact g_lret hc hr hw h dX6_chance_28
  · replace h := h.2 c3
    refine lv_iload_n hx hb dX6_chance_7 rfl (lv_at hl 2 rfl) ?_
    refine lv_iconst (v := 1) hx hb dX6_chance_8 (by decide) ?_
    refine lv_icmp_lt (tgt := 25) hx hb dX6_chance_9 (by decide) (fun c4 => ?_) (fun c4 => ?_)
    · replace h := h.1 c4
      refine lv_ldc2 (v := (-4611686018427387904)) hx hb hc.2.2.2.1 (hc.2.2.2.2.1 _ q_771) dX6_chance_25 ?_
      exact g_lret hc hr hw h dX6_chance_28
    · replace h := h.2 c4
      refine lv_iload_n hx hb dX6_chance_12 rfl (lv_at hl 2 rfl) ?_
      refine lv_bipush (v := 20) hx hb dX6_chance_13 (by decide) ?_
      refine lv_icmp_gt (tgt := 25) hx hb dX6_chance_15 (by decide) (fun c5 => ?_) (fun c5 => ?_)
      · replace h := h.1 c5
        refine lv_ldc2 (v := (-4611686018427387904)) hx hb hc.2.2.2.1 (hc.2.2.2.2.1 _ q_771) dX6_chance_25 ?_
        exact g_lret hc hr hw h dX6_chance_28
      · replace h := h.2 c5
        refine lv_iload_n hx hb dX6_chance_18 rfl (lv_at hl 3 rfl) ?_
        refine g_Si (Y := YC) (n := 1) (k := 0) (As := [.int a3]) (rest := []) vw_X6_175 ⟨Nat.le_of_ble_eq_true rfl, Nat.le_of_ble_eq_true rfl, Nat.zero_le _, Nat.zero_le _⟩ hc hw hl.1 (m_X6_isBit l hM a3 σ1 h) rfl rfl (Nat.le_of_ble_eq_true rfl) dX6_chance_19 (fun r7 σ6 H locs h hw => ?_)
        refine lv_if_ne (tgt := 29) hx hb dX6_chance_22 (by decide) (fun c8 => ?_) (fun c8 => ?_)
        · replace h := h.2 c8
          refine lv_iconst (v := 0) hx hb dX6_chance_29 (by decide) ?_
          refine lv_istore (lv' := [(4, .int 0), (0, .ref (ad 0)), (1, .int a1), (2, .int a2), (3, .int a3)]) hx hb dX6_chance_30 hl (by decide) rfl (fun ls hl => ?_)
          refine lv_iconst (v := 0) hx hb dX6_chance_32 (by decide) ?_
          refine lv_istore (lv' := [(5, .int 0), (4, .int 0), (0, .ref (ad 0)), (1, .int a1), (2, .int a2), (3, .int a3)]) hx hb dX6_chance_33 hl (by decide) rfl (fun ls hl => ?_)
          obtain ⟨n, h⟩ := h
          exact bl_X6_chance_35 hM hc hr n a1 a2 a3 0 0 σ6 _ _ _ h  hw (lv_sub hl [2, 3, 4, 5, 1, 0] rfl)
        · replace h := h.1 c8
          refine lv_ldc2 (v := (-4611686018427387904)) hx hb hc.2.2.2.1 (hc.2.2.2.2.1 _ q_771) dX6_chance_25 ?_
          exact g_lret hc hr hw h dX6_chance_28
