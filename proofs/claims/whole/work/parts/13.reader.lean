def w_X4_size (M : Nat) (post : Int32 → St → Prop)  (σ : St) : Prop :=
  post (gi σ 5 1) σ
set_option maxHeartbeats 4000000 in
set_option maxRecDepth 20000 in
theorem m_X4_size {Γ : Gm} {ad : Nat → Nat} {M : Nat} (l : Launch) (hM : 53 ≤ M) {post : Int32 → St → Prop}  (σ : St) (h : w_X4_size M post  σ) : Ci l Γ YC M ad σ yX4_size cX4_size 1 (Option.some Jvm.ClassFile.FieldType.int) 0 0 0 [.ref (ad 5)] post := by
  refine g_start (by decide) (Nat.le_of_ble_eq_true rfl) ?_
  intro p e s m args below meth c ls hc hr hn hl hw
  have hc : CX Γ p s m args meth c cX4_size RX4 1 := hc
  have hl : lv_has ls 1 [(0, .ref (ad 5))] := hl
  have hx := hc.1
  have hb := hc.2.1
  unfold w_X4_size at h
  generalize hHH : s.heap = H0 at hw ⊢
  refine lv_aload_n hx hb dX4_size_0 rfl (lv_at hl 0 rfl) ?_
  refine fg_X4_21 hc hw (Nat.lt_of_lt_of_le (by decide) hM) rfl dX4_size_1 ?_
  exact g_iret hc hr hw h dX4_size_4
def w_X4_hasRoom (M : Nat) (post : Int32 → St → Prop) (a1 : Int32) (σ : St) : Prop :=
  ((160 - (gi σ 5 1)) < a1 → (post 0 σ)) ∧ (¬ ((160 - (gi σ 5 1)) < a1) → (post 1 σ))
set_option maxHeartbeats 4000000 in
set_option maxRecDepth 20000 in
theorem m_X4_hasRoom {Γ : Gm} {ad : Nat → Nat} {M : Nat} (l : Launch) (hM : 53 ≤ M) {post : Int32 → St → Prop} (a1 : Int32) (σ : St) (h : w_X4_hasRoom M post a1 σ) : Ci l Γ YC M ad σ yX4_hasRoom cX4_hasRoom 2 (Option.some Jvm.ClassFile.FieldType.boolean) 0 0 0 [.ref (ad 5), .int a1] post := by
  refine g_start (by decide) (Nat.le_of_ble_eq_true rfl) ?_
  intro p e s m args below meth c ls hc hr hn hl hw
  have hc : CX Γ p s m args meth c cX4_hasRoom RX4 2 := hc
  have hl : lv_has ls 2 [(0, .ref (ad 5)), (1, .int a1)] := hl
  have hx := hc.1
  have hb := hc.2.1
  unfold w_X4_hasRoom at h
  generalize hHH : s.heap = H0 at hw ⊢
  refine lv_iload_n hx hb dX4_hasRoom_0 rfl (lv_at hl 1 rfl) ?_
  refine lv_sipush (v := 160) hx hb dX4_hasRoom_1 (by decide) ?_
  refine lv_aload_n hx hb dX4_hasRoom_4 rfl (lv_at hl 0 rfl) ?_
  refine fg_X4_21 hc hw (Nat.lt_of_lt_of_le (by decide) hM) rfl dX4_hasRoom_5 ?_
  refine lv_isub hx hb dX4_hasRoom_8 ?_
  refine lv_icmp_gt (tgt := 16) hx hb dX4_hasRoom_9 (by decide) (fun c1 => ?_) (fun c1 => ?_)
  · replace h := h.1 c1
    refine lv_iconst (v := 0) hx hb dX4_hasRoom_16 (by decide) ?_
    exact g_zret hc hr hw rfl h dX4_hasRoom_17
  · replace h := h.2 c1
    refine lv_iconst (v := 1) hx hb dX4_hasRoom_12 (by decide) ?_
    refine lv_goto (tgt := 17) hx hb dX4_hasRoom_13 (by decide) ?_
    exact g_zret hc hr hw rfl h dX4_hasRoom_17
def w_X4_add (M : Nat) (post : St → Prop) (a1 : Int32) (σ : St) : Prop :=
  (160 ≤ (gi σ 5 1) → (post σ)) ∧ (¬ (160 ≤ (gi σ 5 1)) → ((vp_in (gi σ 5 1) 160) ∧ (∀ σ2 : St, σ2 = si σ 6 ((gi σ 5 1).toNatClampNeg) a1 → (∀ σ3 : St, σ3 = si σ2 5 1 ((gi σ2 5 1) + 1) → (post σ3)))))
set_option maxHeartbeats 4000000 in
set_option maxRecDepth 20000 in
theorem m_X4_add {Γ : Gm} {ad : Nat → Nat} {M : Nat} (l : Launch) (hM : 53 ≤ M) {post : St → Prop} (a1 : Int32) (σ : St) (h : w_X4_add M post a1 σ) : Cv l Γ YC M ad σ yX4_add cX4_add 2 none 0 0 0 [.ref (ad 5), .int a1] post := by
  refine g_start (by decide) (Nat.le_of_ble_eq_true rfl) ?_
  intro p e s m args below meth c ls hc hr hn hl hw
  have hc : CX Γ p s m args meth c cX4_add RX4 2 := hc
  have hl : lv_has ls 2 [(0, .ref (ad 5)), (1, .int a1)] := hl
  have hx := hc.1
  have hb := hc.2.1
  unfold w_X4_add at h
  generalize hHH : s.heap = H0 at hw ⊢
  refine lv_aload_n hx hb dX4_add_0 rfl (lv_at hl 0 rfl) ?_
  refine fg_X4_21 hc hw (Nat.lt_of_lt_of_le (by decide) hM) rfl dX4_add_1 ?_
  refine lv_aload_n hx hb dX4_add_4 rfl (lv_at hl 0 rfl) ?_
  refine fg_X4_11 hc hw (Nat.lt_of_lt_of_le (by decide) hM) rfl dX4_add_5 ?_
  refine g_aleni (Y := YC) (kd := 22) (v := 160) (o := 6) (by decide) (by decide) rfl hc hw (Nat.lt_of_lt_of_le (by decide) hM) rfl rfl dX4_add_8 ?_
  refine lv_icmp_ge (tgt := 32) hx hb dX4_add_9 (by decide) (fun c1 => ?_) (fun c1 => ?_)
  · replace h := h.1 c1
    exact g_vret hc hr hw h dX4_add_32
  · replace h := h.2 c1
    refine lv_aload_n hx hb dX4_add_12 rfl (lv_at hl 0 rfl) ?_
    refine fg_X4_11 hc hw (Nat.lt_of_lt_of_le (by decide) hM) rfl dX4_add_13 ?_
    refine lv_aload_n hx hb dX4_add_16 rfl (lv_at hl 0 rfl) ?_
    refine fg_X4_21 hc hw (Nat.lt_of_lt_of_le (by decide) hM) rfl dX4_add_17 ?_
    refine lv_iload_n hx hb dX4_add_20 rfl (lv_at hl 1 rfl) ?_
    have hin := h.1
    replace h := h.2
    refine g_iastK (Y := YC) (kd := 22) (n := 160) (k := (gi σ 5 1).toNatClampNeg) (o := 6) YC_ok (by decide) (by decide) rfl hc hw (Nat.lt_of_lt_of_le (by decide) hM) rfl rfl hin rfl dX4_add_21 (fun σ2 H locs eσ2 hw => ?_)
    replace h := h σ2 eσ2
    refine lv_aload_n hx hb dX4_add_22 rfl (lv_at hl 0 rfl) ?_
    refine lv_dup hx hb dX4_add_23 rfl ?_
    refine fg_X4_21 hc hw (Nat.lt_of_lt_of_le (by decide) hM) rfl dX4_add_24 ?_
    refine lv_iconst (v := 1) hx hb dX4_add_27 (by decide) ?_
    refine lv_iadd hx hb dX4_add_28 ?_
    refine fp_X4_21 (o := 5) hc hw (Nat.lt_of_lt_of_le (by decide) hM) rfl dX4_add_29 (fun σ3 H locs eσ3 hw => ?_)
    replace h := h σ3 eσ3
    exact g_vret hc hr hw h dX4_add_32
def w_X4_faultPlace (M : Nat) (post : Int32 → St → Prop)  (σ : St) : Prop :=
  post (gi σ 5 6) σ
set_option maxHeartbeats 4000000 in
set_option maxRecDepth 20000 in
theorem m_X4_faultPlace {Γ : Gm} {ad : Nat → Nat} {M : Nat} (l : Launch) (hM : 53 ≤ M) {post : Int32 → St → Prop}  (σ : St) (h : w_X4_faultPlace M post  σ) : Ci l Γ YC M ad σ yX4_faultPlace cX4_faultPlace 1 (Option.some Jvm.ClassFile.FieldType.int) 0 0 0 [.ref (ad 5)] post := by
  refine g_start (by decide) (Nat.le_of_ble_eq_true rfl) ?_
  intro p e s m args below meth c ls hc hr hn hl hw
  have hc : CX Γ p s m args meth c cX4_faultPlace RX4 1 := hc
  have hl : lv_has ls 1 [(0, .ref (ad 5))] := hl
  have hx := hc.1
  have hb := hc.2.1
  unfold w_X4_faultPlace at h
  generalize hHH : s.heap = H0 at hw ⊢
  refine lv_aload_n hx hb dX4_faultPlace_0 rfl (lv_at hl 0 rfl) ?_
  refine fg_X4_25 hc hw (Nat.lt_of_lt_of_le (by decide) hM) rfl dX4_faultPlace_1 ?_
  exact g_iret hc hr hw h dX4_faultPlace_4
def w_X4_isNow (M : Nat) (post : Int32 → St → Prop) (a1 : Int32) (σ : St) : Prop :=
  ((gi σ 5 6) = (-1) → (((gi σ 5 3) = a1 → (post 1 σ)) ∧ (¬ ((gi σ 5 3) = a1) → (post 0 σ)))) ∧ (¬ ((gi σ 5 6) = (-1)) → (post 0 σ))
set_option maxHeartbeats 4000000 in
set_option maxRecDepth 20000 in
theorem m_X4_isNow {Γ : Gm} {ad : Nat → Nat} {M : Nat} (l : Launch) (hM : 53 ≤ M) {post : Int32 → St → Prop} (a1 : Int32) (σ : St) (h : w_X4_isNow M post a1 σ) : Ci l Γ YC M ad σ yX4_isNow cX4_isNow 2 (Option.some Jvm.ClassFile.FieldType.boolean) 0 0 0 [.ref (ad 5), .int a1] post := by
  refine g_start (by decide) (Nat.le_of_ble_eq_true rfl) ?_
  intro p e s m args below meth c ls hc hr hn hl hw
  have hc : CX Γ p s m args meth c cX4_isNow RX4 2 := hc
  have hl : lv_has ls 2 [(0, .ref (ad 5)), (1, .int a1)] := hl
  have hx := hc.1
  have hb := hc.2.1
  unfold w_X4_isNow at h
  generalize hHH : s.heap = H0 at hw ⊢
  refine lv_aload_n hx hb dX4_isNow_0 rfl (lv_at hl 0 rfl) ?_
  refine fg_X4_25 hc hw (Nat.lt_of_lt_of_le (by decide) hM) rfl dX4_isNow_1 ?_
  refine lv_iconst (v := (-1)) hx hb dX4_isNow_4 (by decide) ?_
  refine lv_icmp_ne (tgt := 20) hx hb dX4_isNow_5 (by decide) (fun c1 => ?_) (fun c1 => ?_)
  · replace h := h.2 c1
    refine lv_iconst (v := 0) hx hb dX4_isNow_20 (by decide) ?_
    exact g_zret hc hr hw rfl h dX4_isNow_21
  · replace h := h.1 c1
    refine lv_aload_n hx hb dX4_isNow_8 rfl (lv_at hl 0 rfl) ?_
    refine fg_X4_74 hc hw (Nat.lt_of_lt_of_le (by decide) hM) rfl dX4_isNow_9 ?_
    refine lv_iload_n hx hb dX4_isNow_12 rfl (lv_at hl 1 rfl) ?_
    refine lv_icmp_ne (tgt := 20) hx hb dX4_isNow_13 (by decide) (fun c2 => ?_) (fun c2 => ?_)
    · replace h := h.2 c2
      refine lv_iconst (v := 0) hx hb dX4_isNow_20 (by decide) ?_
      exact g_zret hc hr hw rfl h dX4_isNow_21
    · replace h := h.1 c2
      refine lv_iconst (v := 1) hx hb dX4_isNow_16 (by decide) ?_
      refine lv_goto (tgt := 21) hx hb dX4_isNow_17 (by decide) ?_
      exact g_zret hc hr hw rfl h dX4_isNow_21
def w_X4_failHere (M : Nat) (post : St → Prop)  (σ : St) : Prop :=
  ((gi σ 5 6) = (-1) → (∀ σ2 : St, σ2 = si σ 5 6 (gi σ 5 4) → (post σ2))) ∧ (¬ ((gi σ 5 6) = (-1)) → (post σ))
set_option maxHeartbeats 4000000 in
set_option maxRecDepth 20000 in
theorem m_X4_failHere {Γ : Gm} {ad : Nat → Nat} {M : Nat} (l : Launch) (hM : 53 ≤ M) {post : St → Prop}  (σ : St) (h : w_X4_failHere M post  σ) : Cv l Γ YC M ad σ yX4_failHere cX4_failHere 1 none 0 0 0 [.ref (ad 5)] post := by
  refine g_start (by decide) (Nat.le_of_ble_eq_true rfl) ?_
  intro p e s m args below meth c ls hc hr hn hl hw
  have hc : CX Γ p s m args meth c cX4_failHere RX4 1 := hc
  have hl : lv_has ls 1 [(0, .ref (ad 5))] := hl
  have hx := hc.1
  have hb := hc.2.1
  unfold w_X4_failHere at h
  generalize hHH : s.heap = H0 at hw ⊢
  refine lv_aload_n hx hb dX4_failHere_0 rfl (lv_at hl 0 rfl) ?_
  refine fg_X4_25 hc hw (Nat.lt_of_lt_of_le (by decide) hM) rfl dX4_failHere_1 ?_
  refine lv_iconst (v := (-1)) hx hb dX4_failHere_4 (by decide) ?_
  refine lv_icmp_ne (tgt := 16) hx hb dX4_failHere_5 (by decide) (fun c1 => ?_) (fun c1 => ?_)
  · replace h := h.2 c1
    exact g_vret hc hr hw h dX4_failHere_16
  · replace h := h.1 c1
    refine lv_aload_n hx hb dX4_failHere_8 rfl (lv_at hl 0 rfl) ?_
    refine lv_aload_n hx hb dX4_failHere_9 rfl (lv_at hl 0 rfl) ?_
    refine fg_X4_89 hc hw (Nat.lt_of_lt_of_le (by decide) hM) rfl dX4_failHere_10 ?_
    refine fp_X4_25 (o := 5) hc hw (Nat.lt_of_lt_of_le (by decide) hM) rfl dX4_failHere_13 (fun σ2 H locs eσ2 hw => ?_)
    replace h := h σ2 eσ2
    exact g_vret hc hr hw h dX4_failHere_16
def w_X4_emit (M : Nat) (post : St → Prop) (a1 : Int32) (σ : St) : Prop :=
  ((gi σ 5 6) = (-1) → ((160 ≤ (gi σ 5 8) → (post σ)) ∧ (¬ (160 ≤ (gi σ 5 8)) → ((vp_in (gi σ 5 8) 160) ∧ (∀ σ3 : St, σ3 = si σ 7 ((gi σ 5 8).toNatClampNeg) a1 → (∀ σ4 : St, σ4 = si σ3 5 8 ((gi σ3 5 8) + 1) → (post σ4))))))) ∧ (¬ ((gi σ 5 6) = (-1)) → (post σ))
set_option maxHeartbeats 4000000 in
set_option maxRecDepth 20000 in
theorem m_X4_emit {Γ : Gm} {ad : Nat → Nat} {M : Nat} (l : Launch) (hM : 53 ≤ M) {post : St → Prop} (a1 : Int32) (σ : St) (h : w_X4_emit M post a1 σ) : Cv l Γ YC M ad σ yX4_emit cX4_emit 2 none 0 0 0 [.ref (ad 5), .int a1] post := by
  refine g_start (by decide) (Nat.le_of_ble_eq_true rfl) ?_
  intro p e s m args below meth c ls hc hr hn hl hw
  have hc : CX Γ p s m args meth c cX4_emit RX4 2 := hc
  have hl : lv_has ls 2 [(0, .ref (ad 5)), (1, .int a1)] := hl
  have hx := hc.1
  have hb := hc.2.1
  unfold w_X4_emit at h
  generalize hHH : s.heap = H0 at hw ⊢
  refine lv_aload_n hx hb dX4_emit_0 rfl (lv_at hl 0 rfl) ?_
  refine fg_X4_25 hc hw (Nat.lt_of_lt_of_le (by decide) hM) rfl dX4_emit_1 ?_
  refine lv_iconst (v := (-1)) hx hb dX4_emit_4 (by decide) ?_
  refine lv_icmp_ne (tgt := 40) hx hb dX4_emit_5 (by decide) (fun c1 => ?_) (fun c1 => ?_)
  · replace h := h.2 c1
    exact g_vret hc hr hw h dX4_emit_40
  · replace h := h.1 c1
    refine lv_aload_n hx hb dX4_emit_8 rfl (lv_at hl 0 rfl) ?_
    refine fg_X4_31 hc hw (Nat.lt_of_lt_of_le (by decide) hM) rfl dX4_emit_9 ?_
    refine lv_aload_n hx hb dX4_emit_12 rfl (lv_at hl 0 rfl) ?_
    refine fg_X4_15 hc hw (Nat.lt_of_lt_of_le (by decide) hM) rfl dX4_emit_13 ?_
    refine g_aleni (Y := YC) (kd := 22) (v := 160) (o := 7) (by decide) (by decide) rfl hc hw (Nat.lt_of_lt_of_le (by decide) hM) rfl rfl dX4_emit_16 ?_
    refine lv_icmp_ge (tgt := 40) hx hb dX4_emit_17 (by decide) (fun c2 => ?_) (fun c2 => ?_)
    · replace h := h.1 c2
      exact g_vret hc hr hw h dX4_emit_40
    · replace h := h.2 c2
      refine lv_aload_n hx hb dX4_emit_20 rfl (lv_at hl 0 rfl) ?_
      refine fg_X4_15 hc hw (Nat.lt_of_lt_of_le (by decide) hM) rfl dX4_emit_21 ?_
      refine lv_aload_n hx hb dX4_emit_24 rfl (lv_at hl 0 rfl) ?_
      refine fg_X4_31 hc hw (Nat.lt_of_lt_of_le (by decide) hM) rfl dX4_emit_25 ?_
      refine lv_iload_n hx hb dX4_emit_28 rfl (lv_at hl 1 rfl) ?_
      have hin := h.1
      replace h := h.2
      refine g_iastK (Y := YC) (kd := 22) (n := 160) (k := (gi σ 5 8).toNatClampNeg) (o := 7) YC_ok (by decide) (by decide) rfl hc hw (Nat.lt_of_lt_of_le (by decide) hM) rfl rfl hin rfl dX4_emit_29 (fun σ3 H locs eσ3 hw => ?_)
      replace h := h σ3 eσ3
      refine lv_aload_n hx hb dX4_emit_30 rfl (lv_at hl 0 rfl) ?_
      refine lv_dup hx hb dX4_emit_31 rfl ?_
      refine fg_X4_31 hc hw (Nat.lt_of_lt_of_le (by decide) hM) rfl dX4_emit_32 ?_
      refine lv_iconst (v := 1) hx hb dX4_emit_35 (by decide) ?_
      refine lv_iadd hx hb dX4_emit_36 ?_
      refine fp_X4_31 (o := 5) hc hw (Nat.lt_of_lt_of_le (by decide) hM) rfl dX4_emit_37 (fun σ4 H locs eσ4 hw => ?_)
      replace h := h σ4 eσ4
      exact g_vret hc hr hw h dX4_emit_40
def w_X4_byteAt (M : Nat) (post : Int32 → St → Prop) (a1 : Int32) (σ : St) : Prop :=
  (a1 < 0 → (post (-1) σ)) ∧ (¬ (a1 < 0) → (((gi σ 5 1) ≤ a1 → (post (-1) σ)) ∧ (¬ ((gi σ 5 1) ≤ a1) → ((160 ≤ a1 → (post (-1) σ)) ∧ (¬ (160 ≤ a1) → ((vp_in a1 160) ∧ (post (gi σ 6 a1.toNatClampNeg) σ)))))))
set_option maxHeartbeats 4000000 in
set_option maxRecDepth 20000 in
theorem m_X4_byteAt {Γ : Gm} {ad : Nat → Nat} {M : Nat} (l : Launch) (hM : 53 ≤ M) {post : Int32 → St → Prop} (a1 : Int32) (σ : St) (h : w_X4_byteAt M post a1 σ) : Ci l Γ YC M ad σ yX4_byteAt cX4_byteAt 2 (Option.some Jvm.ClassFile.FieldType.int) 0 0 0 [.ref (ad 5), .int a1] post := by
  refine g_start (by decide) (Nat.le_of_ble_eq_true rfl) ?_
  intro p e s m args below meth c ls hc hr hn hl hw
  have hc : CX Γ p s m args meth c cX4_byteAt RX4 2 := hc
  have hl : lv_has ls 2 [(0, .ref (ad 5)), (1, .int a1)] := hl
  have hx := hc.1
  have hb := hc.2.1
  unfold w_X4_byteAt at h
  generalize hHH : s.heap = H0 at hw ⊢
  refine lv_iload_n hx hb dX4_byteAt_0 rfl (lv_at hl 1 rfl) ?_
  refine lv_if_lt (tgt := 30) hx hb dX4_byteAt_1 (by decide) (fun c1 => ?_) (fun c1 => ?_)
  · replace h := h.1 c1
    refine lv_iconst (v := (-1)) hx hb dX4_byteAt_30 (by decide) ?_
    exact g_iret hc hr hw h dX4_byteAt_31
  · replace h := h.2 c1
    refine lv_iload_n hx hb dX4_byteAt_4 rfl (lv_at hl 1 rfl) ?_
    refine lv_aload_n hx hb dX4_byteAt_5 rfl (lv_at hl 0 rfl) ?_
    refine fg_X4_21 hc hw (Nat.lt_of_lt_of_le (by decide) hM) rfl dX4_byteAt_6 ?_
    refine lv_icmp_ge (tgt := 30) hx hb dX4_byteAt_9 (by decide) (fun c2 => ?_) (fun c2 => ?_)
    · replace h := h.1 c2
      refine lv_iconst (v := (-1)) hx hb dX4_byteAt_30 (by decide) ?_
      exact g_iret hc hr hw h dX4_byteAt_31
    · replace h := h.2 c2
      refine lv_iload_n hx hb dX4_byteAt_12 rfl (lv_at hl 1 rfl) ?_
      refine lv_aload_n hx hb dX4_byteAt_13 rfl (lv_at hl 0 rfl) ?_
      refine fg_X4_11 hc hw (Nat.lt_of_lt_of_le (by decide) hM) rfl dX4_byteAt_14 ?_
      refine g_aleni (Y := YC) (kd := 22) (v := 160) (o := 6) (by decide) (by decide) rfl hc hw (Nat.lt_of_lt_of_le (by decide) hM) rfl rfl dX4_byteAt_17 ?_
      refine lv_icmp_ge (tgt := 30) hx hb dX4_byteAt_18 (by decide) (fun c3 => ?_) (fun c3 => ?_)
      · replace h := h.1 c3
        refine lv_iconst (v := (-1)) hx hb dX4_byteAt_30 (by decide) ?_
        exact g_iret hc hr hw h dX4_byteAt_31
      · replace h := h.2 c3
        refine lv_aload_n hx hb dX4_byteAt_21 rfl (lv_at hl 0 rfl) ?_
        refine fg_X4_11 hc hw (Nat.lt_of_lt_of_le (by decide) hM) rfl dX4_byteAt_22 ?_
        refine lv_iload_n hx hb dX4_byteAt_25 rfl (lv_at hl 1 rfl) ?_
        refine g_ialdK (Y := YC) (kd := 22) (n := 160) (k := a1.toNatClampNeg) (o := 6) (by decide) (by decide) rfl hc hw (Nat.lt_of_lt_of_le (by decide) hM) rfl rfl h.1 rfl dX4_byteAt_26 ?_
        replace h := h.2
        refine lv_goto (tgt := 31) hx hb dX4_byteAt_27 (by decide) ?_
        exact g_iret hc hr hw h dX4_byteAt_31
def w_X4_isLetter (M : Nat) (post : Int32 → St → Prop) (a1 : Int32) (σ : St) : Prop :=
  (a1 < 97 → (post 0 σ)) ∧ (¬ (a1 < 97) → ((122 < a1 → (post 0 σ)) ∧ (¬ (122 < a1) → (post 1 σ))))
set_option maxHeartbeats 4000000 in
set_option maxRecDepth 20000 in
theorem m_X4_isLetter {Γ : Gm} {ad : Nat → Nat} {M : Nat} (l : Launch) (hM : 53 ≤ M) {post : Int32 → St → Prop} (a1 : Int32) (σ : St) (h : w_X4_isLetter M post a1 σ) : Ci l Γ YC M ad σ yX4_isLetter cX4_isLetter 1 (Option.some Jvm.ClassFile.FieldType.boolean) 0 0 0 [.int a1] post := by
  refine g_start (by decide) (Nat.le_of_ble_eq_true rfl) ?_
  intro p e s m args below meth c ls hc hr hn hl hw
  have hc : CX Γ p s m args meth c cX4_isLetter RX4 1 := hc
  have hl : lv_has ls 1 [(0, .int a1)] := hl
  have hx := hc.1
  have hb := hc.2.1
  unfold w_X4_isLetter at h
  generalize hHH : s.heap = H0 at hw ⊢
  refine lv_iload_n hx hb dX4_isLetter_0 rfl (lv_at hl 0 rfl) ?_
  refine lv_bipush (v := 97) hx hb dX4_isLetter_1 (by decide) ?_
  refine lv_icmp_lt (tgt := 16) hx hb dX4_isLetter_3 (by decide) (fun c1 => ?_) (fun c1 => ?_)
  · replace h := h.1 c1
    refine lv_iconst (v := 0) hx hb dX4_isLetter_16 (by decide) ?_
    exact g_zret hc hr hw rfl h dX4_isLetter_17
  · replace h := h.2 c1
    refine lv_iload_n hx hb dX4_isLetter_6 rfl (lv_at hl 0 rfl) ?_
    refine lv_bipush (v := 122) hx hb dX4_isLetter_7 (by decide) ?_
    refine lv_icmp_gt (tgt := 16) hx hb dX4_isLetter_9 (by decide) (fun c2 => ?_) (fun c2 => ?_)
    · replace h := h.1 c2
      refine lv_iconst (v := 0) hx hb dX4_isLetter_16 (by decide) ?_
      exact g_zret hc hr hw rfl h dX4_isLetter_17
    · replace h := h.2 c2
      refine lv_iconst (v := 1) hx hb dX4_isLetter_12 (by decide) ?_
      refine lv_goto (tgt := 17) hx hb dX4_isLetter_13 (by decide) ?_
      exact g_zret hc hr hw rfl h dX4_isLetter_17
def w_X4_isDigit (M : Nat) (post : Int32 → St → Prop) (a1 : Int32) (σ : St) : Prop :=
  (a1 < 48 → (post 0 σ)) ∧ (¬ (a1 < 48) → ((57 < a1 → (post 0 σ)) ∧ (¬ (57 < a1) → (post 1 σ))))
set_option maxHeartbeats 4000000 in
set_option maxRecDepth 20000 in
theorem m_X4_isDigit {Γ : Gm} {ad : Nat → Nat} {M : Nat} (l : Launch) (hM : 53 ≤ M) {post : Int32 → St → Prop} (a1 : Int32) (σ : St) (h : w_X4_isDigit M post a1 σ) : Ci l Γ YC M ad σ yX4_isDigit cX4_isDigit 1 (Option.some Jvm.ClassFile.FieldType.boolean) 0 0 0 [.int a1] post := by
  refine g_start (by decide) (Nat.le_of_ble_eq_true rfl) ?_
  intro p e s m args below meth c ls hc hr hn hl hw
  have hc : CX Γ p s m args meth c cX4_isDigit RX4 1 := hc
  have hl : lv_has ls 1 [(0, .int a1)] := hl
  have hx := hc.1
  have hb := hc.2.1
  unfold w_X4_isDigit at h
  generalize hHH : s.heap = H0 at hw ⊢
  refine lv_iload_n hx hb dX4_isDigit_0 rfl (lv_at hl 0 rfl) ?_
  refine lv_bipush (v := 48) hx hb dX4_isDigit_1 (by decide) ?_
  refine lv_icmp_lt (tgt := 16) hx hb dX4_isDigit_3 (by decide) (fun c1 => ?_) (fun c1 => ?_)
  · replace h := h.1 c1
    refine lv_iconst (v := 0) hx hb dX4_isDigit_16 (by decide) ?_
    exact g_zret hc hr hw rfl h dX4_isDigit_17
  · replace h := h.2 c1
    refine lv_iload_n hx hb dX4_isDigit_6 rfl (lv_at hl 0 rfl) ?_
    refine lv_bipush (v := 57) hx hb dX4_isDigit_7 (by decide) ?_
    refine lv_icmp_gt (tgt := 16) hx hb dX4_isDigit_9 (by decide) (fun c2 => ?_) (fun c2 => ?_)
    · replace h := h.1 c2
      refine lv_iconst (v := 0) hx hb dX4_isDigit_16 (by decide) ?_
      exact g_zret hc hr hw rfl h dX4_isDigit_17
    · replace h := h.2 c2
      refine lv_iconst (v := 1) hx hb dX4_isDigit_12 (by decide) ?_
      refine lv_goto (tgt := 17) hx hb dX4_isDigit_13 (by decide) ?_
      exact g_zret hc hr hw rfl h dX4_isDigit_17
def w_X4_mayOpen (M : Nat) (post : Int32 → St → Prop) (a1 : Int32) (σ : St) : Prop :=
  (a1 < 5 → ((5 ≤ a1 → (post 0 σ)) ∧ (¬ (5 ≤ a1) → (post 1 σ)))) ∧ (¬ (a1 < 5) → (w_X4_failHere M (fun σ3 => ((5 ≤ a1 → (post 0 σ3)) ∧ (¬ (5 ≤ a1) → (post 1 σ3)))) σ))
set_option maxHeartbeats 4000000 in
set_option maxRecDepth 20000 in
theorem m_X4_mayOpen {Γ : Gm} {ad : Nat → Nat} {M : Nat} (l : Launch) (hM : 53 ≤ M) {post : Int32 → St → Prop} (a1 : Int32) (σ : St) (h : w_X4_mayOpen M post a1 σ) : Ci l Γ YC M ad σ yX4_mayOpen cX4_mayOpen 2 (Option.some Jvm.ClassFile.FieldType.boolean) 1 0 0 [.ref (ad 5), .int a1] post := by
  refine g_start (by decide) (Nat.le_of_ble_eq_true rfl) ?_
  intro p e s m args below meth c ls hc hr hn hl hw
  have hc : CX Γ p s m args meth c cX4_mayOpen RX4 2 := hc
  have hl : lv_has ls 2 [(0, .ref (ad 5)), (1, .int a1)] := hl
  have hx := hc.1
  have hb := hc.2.1
  unfold w_X4_mayOpen at h
  generalize hHH : s.heap = H0 at hw ⊢
  refine lv_iload_n hx hb dX4_mayOpen_0 rfl (lv_at hl 1 rfl) ?_
  refine lv_iconst (v := 5) hx hb dX4_mayOpen_1 (by decide) ?_
  refine lv_icmp_lt (tgt := 9) hx hb dX4_mayOpen_2 (by decide) (fun c1 => ?_) (fun c1 => ?_)
  · replace h := h.1 c1
    refine lv_iload_n hx hb dX4_mayOpen_9 rfl (lv_at hl 1 rfl) ?_
    refine lv_iconst (v := 5) hx hb dX4_mayOpen_10 (by decide) ?_
    refine lv_icmp_ge (tgt := 18) hx hb dX4_mayOpen_11 (by decide) (fun c2 => ?_) (fun c2 => ?_)
    · replace h := h.1 c2
      refine lv_iconst (v := 0) hx hb dX4_mayOpen_18 (by decide) ?_
      exact g_zret hc hr hw rfl h dX4_mayOpen_19
    · replace h := h.2 c2
      refine lv_iconst (v := 1) hx hb dX4_mayOpen_14 (by decide) ?_
      refine lv_goto (tgt := 19) hx hb dX4_mayOpen_15 (by decide) ?_
      exact g_zret hc hr hw rfl h dX4_mayOpen_19
  · replace h := h.2 c1
    refine lv_aload_n hx hb dX4_mayOpen_5 rfl (lv_at hl 0 rfl) ?_
    refine g_Vv (Y := YC) (ci := 4) (n := 0) (k := 0) (As := []) (rest := []) rfl (by decide) vw_X4_86 ⟨Nat.le_of_ble_eq_true rfl, Nat.le_of_ble_eq_true rfl, Nat.zero_le _, Nat.zero_le _⟩ hc hw hl.1 (Nat.lt_of_lt_of_le (by decide) hM) rfl (m_X4_failHere l hM σ h) rfl rfl (Nat.le_of_ble_eq_true rfl) dX4_mayOpen_6 (fun σ3 H locs h hw => ?_)
    refine lv_iload_n hx hb dX4_mayOpen_9 rfl (lv_at hl 1 rfl) ?_
    refine lv_iconst (v := 5) hx hb dX4_mayOpen_10 (by decide) ?_
    refine lv_icmp_ge (tgt := 18) hx hb dX4_mayOpen_11 (by decide) (fun c4 => ?_) (fun c4 => ?_)
    · replace h := h.1 c4
      refine lv_iconst (v := 0) hx hb dX4_mayOpen_18 (by decide) ?_
      exact g_zret hc hr hw rfl h dX4_mayOpen_19
    · replace h := h.2 c4
      refine lv_iconst (v := 1) hx hb dX4_mayOpen_14 (by decide) ?_
      refine lv_goto (tgt := 19) hx hb dX4_mayOpen_15 (by decide) ?_
      exact g_zret hc hr hw rfl h dX4_mayOpen_19
def w_X4_stepOverNumber_62 (M : Nat) (post : St → Prop)  (σ : St) : Prop :=
  (((gi σ 5 2) - (gi σ 5 4)) ≤ 4 → (∀ σ2 : St, σ2 = si σ 5 3 2 → (post σ2))) ∧ (¬ (((gi σ 5 2) - (gi σ 5 4)) ≤ 4) → (∀ σ3 : St, σ3 = si σ 5 3 1 → (post σ3)))
set_option maxHeartbeats 4000000 in
set_option maxRecDepth 20000 in
theorem b_X4_stepOverNumber_62 {Γ : Gm} {ad : Nat → Nat} {p : Program} {l : Launch} {e : Env} {s : State} {m : MethodId} {args : Array Value} {below : List Frame} {meth : Method} {c : Code} {M : Nat} (hM : 53 ≤ M) {post : St → Prop}
     (σ : St) (H : Heap) (locs : List Loc) (ls : Array Slot) (h : w_X4_stepOverNumber_62 M post  σ) (hc : CX Γ p s m args meth c cX4_stepOverNumber RX4 2) (hr : meth.sig.returnType = none) (hw : WH Γ YC M ad σ s H locs) (hl : lv_has ls 2 [(0, .ref (ad 5))]) :
    W p l e (rmL 1 0 0) s m args below meth c H locs 0 0 (MQ below (va_Qv post (fun u t => WC Γ YC M ad u t) (AA Γ)) args s 0 0 (AA Γ)) (F0 m 62 ls []) := by
  have hx := hc.1
  have hb := hc.2.1
  unfold w_X4_stepOverNumber_62 at h
  refine lv_aload_n hx hb dX4_stepOverNumber_62 rfl (lv_at hl 0 rfl) ?_
  refine lv_aload_n hx hb dX4_stepOverNumber_63 rfl (lv_at hl 0 rfl) ?_
  refine fg_X4_28 hc hw (Nat.lt_of_lt_of_le (by decide) hM) rfl dX4_stepOverNumber_64 ?_
  refine lv_aload_n hx hb dX4_stepOverNumber_67 rfl (lv_at hl 0 rfl) ?_
  refine fg_X4_89 hc hw (Nat.lt_of_lt_of_le (by decide) hM) rfl dX4_stepOverNumber_68 ?_
  refine lv_isub hx hb dX4_stepOverNumber_71 ?_
  refine lv_iconst (v := 4) hx hb dX4_stepOverNumber_72 (by decide) ?_
  refine lv_icmp_le (tgt := 80) hx hb dX4_stepOverNumber_73 (by decide) (fun c1 => ?_) (fun c1 => ?_)
  · replace h := h.1 c1
    refine lv_iconst (v := 2) hx hb dX4_stepOverNumber_80 (by decide) ?_
    refine fp_X4_74 (o := 5) hc hw (Nat.lt_of_lt_of_le (by decide) hM) rfl dX4_stepOverNumber_81 (fun σ2 H locs eσ2 hw => ?_)
    replace h := h σ2 eσ2
    exact g_vret hc hr hw h dX4_stepOverNumber_84
  · replace h := h.2 c1
    refine lv_iconst (v := 1) hx hb dX4_stepOverNumber_76 (by decide) ?_
    refine lv_goto (tgt := 81) hx hb dX4_stepOverNumber_77 (by decide) ?_
    refine fp_X4_74 (o := 5) hc hw (Nat.lt_of_lt_of_le (by decide) hM) rfl dX4_stepOverNumber_81 (fun σ3 H locs eσ3 hw => ?_)
    replace h := h σ3 eσ3
    exact g_vret hc hr hw h dX4_stepOverNumber_84
def w_X4_stepOverNumber_10 (M : Nat) (post : St → Prop) (k_10 : Int32 → St → Prop) (v1 : Int32) (σ : St) : Prop :=
  ((gi σ 5 1) ≤ v1 → (w_X4_stepOverNumber_62 M post  σ)) ∧ (¬ ((gi σ 5 1) ≤ v1) → (w_X4_byteAt M (fun r3 σ2 => (w_X4_isDigit M (fun r5 σ4 => ((r5 = 0 → (w_X4_stepOverNumber_62 M post  σ4)) ∧ (¬ (r5 = 0) → (w_X4_byteAt M (fun r8 σ7 => (∀ x9 : Int32, x9 = (10 * (gi σ4 5 5)) + (r8 - 48) → (∀ σ10 : St, σ10 = si σ7 5 5 x9 → (∀ σ11 : St, σ11 = si σ10 5 2 (v1 + 1) → (∀ x12 : Int32, x12 = v1 + 1 → (k_10 x12 σ11)))))) v1 σ4)))) r3 σ2)) v1 σ))
set_option maxHeartbeats 4000000 in
set_option maxRecDepth 20000 in
theorem b_X4_stepOverNumber_10 {Γ : Gm} {ad : Nat → Nat} {p : Program} {l : Launch} {e : Env} {s : State} {m : MethodId} {args : Array Value} {below : List Frame} {meth : Method} {c : Code} {M : Nat} (hM : 53 ≤ M) {post : St → Prop} {k_10 : Int32 → St → Prop} (hk_10 : ∀ (v1 : Int32) (σ : St) (H : Heap) (locs : List Loc) (ls : Array Slot), k_10 v1 σ → WH Γ YC M ad σ s H locs → lv_has ls 2 [(0, .ref (ad 5)), (1, .int v1)] → W p l e (rmL 1 0 0) s m args below meth c H locs 0 0 (MQ below (va_Qv post (fun u t => WC Γ YC M ad u t) (AA Γ)) args s 0 0 (AA Γ)) (F0 m 10 ls []))
    (v1 : Int32) (σ : St) (H : Heap) (locs : List Loc) (ls : Array Slot) (h : w_X4_stepOverNumber_10 M post k_10 v1 σ) (hc : CX Γ p s m args meth c cX4_stepOverNumber RX4 2) (hr : meth.sig.returnType = none) (hw : WH Γ YC M ad σ s H locs) (hl : lv_has ls 2 [(0, .ref (ad 5)), (1, .int v1)]) :
    W p l e (rmL 1 0 0) s m args below meth c H locs 0 0 (MQ below (va_Qv post (fun u t => WC Γ YC M ad u t) (AA Γ)) args s 0 0 (AA Γ)) (F0 m 10 ls []) := by
  have hx := hc.1
  have hb := hc.2.1
  unfold w_X4_stepOverNumber_10 at h
  refine lv_iload_n hx hb dX4_stepOverNumber_10 rfl (lv_at hl 1 rfl) ?_
  refine lv_aload_n hx hb dX4_stepOverNumber_11 rfl (lv_at hl 0 rfl) ?_
  refine fg_X4_21 hc hw (Nat.lt_of_lt_of_le (by decide) hM) rfl dX4_stepOverNumber_12 ?_
  refine lv_icmp_ge (tgt := 62) hx hb dX4_stepOverNumber_15 (by decide) (fun c1 => ?_) (fun c1 => ?_)
  · replace h := h.1 c1
    exact b_X4_stepOverNumber_62 hM  σ _ _ _ h  hc hr hw (lv_sub hl [0] rfl)
  · replace h := h.2 c1
    refine lv_aload_n hx hb dX4_stepOverNumber_18 rfl (lv_at hl 0 rfl) ?_
    refine lv_iload_n hx hb dX4_stepOverNumber_19 rfl (lv_at hl 1 rfl) ?_
    refine g_Vi (Y := YC) (ci := 4) (n := 1) (k := 0) (As := [.int v1]) (rest := []) rfl (by decide) vw_X4_92 ⟨Nat.le_of_ble_eq_true rfl, Nat.le_of_ble_eq_true rfl, Nat.zero_le _, Nat.zero_le _⟩ hc hw hl.1 (Nat.lt_of_lt_of_le (by decide) hM) rfl (m_X4_byteAt l hM v1 σ h) rfl rfl (Nat.le_of_ble_eq_true rfl) dX4_stepOverNumber_20 (fun r3 σ2 H locs h hw => ?_)
    refine g_Si (Y := YC) (n := 1) (k := 0) (As := [.int r3]) (rest := []) vw_X4_102 ⟨Nat.le_of_ble_eq_true rfl, Nat.le_of_ble_eq_true rfl, Nat.zero_le _, Nat.zero_le _⟩ hc hw hl.1 (m_X4_isDigit l hM r3 σ2 h) rfl rfl (Nat.le_of_ble_eq_true rfl) dX4_stepOverNumber_23 (fun r5 σ4 H locs h hw => ?_)
    refine lv_if_eq (tgt := 62) hx hb dX4_stepOverNumber_26 (by decide) (fun c6 => ?_) (fun c6 => ?_)
    · replace h := h.1 c6
      exact b_X4_stepOverNumber_62 hM  σ4 _ _ _ h  hc hr hw (lv_sub hl [0] rfl)
    · replace h := h.2 c6
      refine lv_aload_n hx hb dX4_stepOverNumber_29 rfl (lv_at hl 0 rfl) ?_
      refine lv_bipush (v := 10) hx hb dX4_stepOverNumber_30 (by decide) ?_
      refine lv_aload_n hx hb dX4_stepOverNumber_32 rfl (lv_at hl 0 rfl) ?_
      refine fg_X4_83 hc hw (Nat.lt_of_lt_of_le (by decide) hM) rfl dX4_stepOverNumber_33 ?_
      refine lv_imul hx hb dX4_stepOverNumber_36 ?_
      refine lv_aload_n hx hb dX4_stepOverNumber_37 rfl (lv_at hl 0 rfl) ?_
      refine lv_iload_n hx hb dX4_stepOverNumber_38 rfl (lv_at hl 1 rfl) ?_
      refine g_Vi (Y := YC) (ci := 4) (n := 1) (k := 0) (As := [.int v1]) (rest := [.int (10 * (gi σ4 5 5)), .ref (ad 5)]) rfl (by decide) vw_X4_92 ⟨Nat.le_of_ble_eq_true rfl, Nat.le_of_ble_eq_true rfl, Nat.zero_le _, Nat.zero_le _⟩ hc hw hl.1 (Nat.lt_of_lt_of_le (by decide) hM) rfl (m_X4_byteAt l hM v1 σ4 h) rfl rfl (Nat.le_of_ble_eq_true rfl) dX4_stepOverNumber_39 (fun r8 σ7 H locs h hw => ?_)
      refine lv_bipush (v := 48) hx hb dX4_stepOverNumber_42 (by decide) ?_
      refine lv_isub hx hb dX4_stepOverNumber_44 ?_
      refine lv_iadd hx hb dX4_stepOverNumber_45 ?_
      refine lv_topi (fun x9 ex9 => ?_)
      replace h := h x9 ex9
      refine fp_X4_83 (o := 5) hc hw (Nat.lt_of_lt_of_le (by decide) hM) rfl dX4_stepOverNumber_46 (fun σ10 H locs eσ10 hw => ?_)
      replace h := h σ10 eσ10
      refine lv_aload_n hx hb dX4_stepOverNumber_49 rfl (lv_at hl 0 rfl) ?_
      refine lv_iload_n hx hb dX4_stepOverNumber_50 rfl (lv_at hl 1 rfl) ?_
      refine lv_iconst (v := 1) hx hb dX4_stepOverNumber_51 (by decide) ?_
      refine lv_iadd hx hb dX4_stepOverNumber_52 ?_
      refine fp_X4_28 (o := 5) hc hw (Nat.lt_of_lt_of_le (by decide) hM) rfl dX4_stepOverNumber_53 (fun σ11 H locs eσ11 hw => ?_)
      replace h := h σ11 eσ11
      obtain ⟨x12, ex12⟩ : ∃ z, z = v1 + 1 := ⟨_, rfl⟩
      replace h := h x12 ex12
      refine lv_iinc (v := x12) (lv' := [(1, .int x12), (0, .ref (ad 5))]) hx hb dX4_stepOverNumber_56 hl (k := 1) rfl (by rw [ex12]; rfl) (by decide) rfl (fun ls hl => ?_)
      refine lv_goto (tgt := 10) hx hb dX4_stepOverNumber_59 (by decide) ?_
      exact hk_10 x12 σ11 _ _ _ h  hw (lv_sub hl [1, 0] rfl)
def wl_X4_stepOverNumber_10 (M : Nat) (post : St → Prop) : Nat → Int32 → St → Prop
  | 0, _, _ => False
  | n + 1, v1, σ => w_X4_stepOverNumber_10 M post (wl_X4_stepOverNumber_10 M post n) v1 σ
set_option maxHeartbeats 4000000 in
theorem bl_X4_stepOverNumber_10 {Γ : Gm} {ad : Nat → Nat} {p : Program} {l : Launch} {e : Env} {s : State} {m : MethodId} {args : Array Value} {below : List Frame} {meth : Method} {c : Code} {M : Nat} (hM : 53 ≤ M) {post : St → Prop}
    (hc : CX Γ p s m args meth c cX4_stepOverNumber RX4 2) (hr : meth.sig.returnType = none) :
    ∀ (n : Nat) (v1 : Int32) (σ : St) (H : Heap) (locs : List Loc) (ls : Array Slot), wl_X4_stepOverNumber_10 M post n v1 σ → WH Γ YC M ad σ s H locs → lv_has ls 2 [(0, .ref (ad 5)), (1, .int v1)] → W p l e (rmL 1 0 0) s m args below meth c H locs 0 0 (MQ below (va_Qv post (fun u t => WC Γ YC M ad u t) (AA Γ)) args s 0 0 (AA Γ)) (F0 m 10 ls []) := by
  intro n
  induction n with
  | zero => intro v1 σ H locs ls h; exact h.elim
  | succ n ih =>
    intro v1 σ H locs ls h  hw hl
    exact b_X4_stepOverNumber_10 hM ih v1 σ H locs ls h  hc hr hw hl
def w_X4_stepOverNumber (M : Nat) (post : St → Prop)  (σ : St) : Prop :=
  ∀ σ1 : St, σ1 = si σ 5 5 0 → (∃ n, wl_X4_stepOverNumber_10 M post n (gi σ1 5 2) σ1)
set_option maxHeartbeats 4000000 in
set_option maxRecDepth 20000 in
theorem m_X4_stepOverNumber {Γ : Gm} {ad : Nat → Nat} {M : Nat} (l : Launch) (hM : 53 ≤ M) {post : St → Prop}  (σ : St) (h : w_X4_stepOverNumber M post  σ) : Cv l Γ YC M ad σ yX4_stepOverNumber cX4_stepOverNumber 2 none 1 0 0 [.ref (ad 5)] post := by
  refine g_start (by decide) (Nat.le_of_ble_eq_true rfl) ?_
  intro p e s m args below meth c ls hc hr hn hl hw
  have hc : CX Γ p s m args meth c cX4_stepOverNumber RX4 2 := hc
  have hl : lv_has ls 2 [(0, .ref (ad 5))] := hl
  have hx := hc.1
  have hb := hc.2.1
  unfold w_X4_stepOverNumber at h
  generalize hHH : s.heap = H0 at hw ⊢
  refine lv_aload_n hx hb dX4_stepOverNumber_0 rfl (lv_at hl 0 rfl) ?_
  refine lv_iconst (v := 0) hx hb dX4_stepOverNumber_1 (by decide) ?_
  refine fp_X4_83 (o := 5) hc hw (Nat.lt_of_lt_of_le (by decide) hM) rfl dX4_stepOverNumber_2 (fun σ1 H locs eσ1 hw => ?_)
  replace h := h σ1 eσ1
  refine lv_aload_n hx hb dX4_stepOverNumber_5 rfl (lv_at hl 0 rfl) ?_
  refine fg_X4_28 hc hw (Nat.lt_of_lt_of_le (by decide) hM) rfl dX4_stepOverNumber_6 ?_
  refine lv_istore_n (lv' := [(1, .int (gi σ1 5 2)), (0, .ref (ad 5))]) hx hb dX4_stepOverNumber_9 rfl hl (by decide) rfl (fun ls hl => ?_)
  obtain ⟨n, h⟩ := h
  exact bl_X4_stepOverNumber_10 hM hc hr n (gi σ1 5 2) σ1 _ _ _ h  hw (lv_sub hl [1, 0] rfl)
def w_X4_isWordAt_36 (M : Nat) (post : Int32 → St → Prop) (k_36 : Int32 → Int32 → Int32 → St → Prop) (v1 : Int32) (v2 : Int32) (v3 : Int32) (σ : St) : Prop :=
  (v2 ≤ v3 → ((vp_in (v1 + v2) 84) ∧ (((chT 1 (v1 + v2)) = 32 → (post 1 σ)) ∧ (¬ ((chT 1 (v1 + v2)) = 32) → (post 0 σ))))) ∧ (¬ (v2 ≤ v3) → ((vp_in (v1 + v3) 84) ∧ (w_X4_byteAt M (fun r8 σ7 => (((chT 1 (v1 + v3)) = r8 → (∀ x10 : Int32, x10 = v3 + 1 → (k_36 v1 v2 x10 σ7))) ∧ (¬ ((chT 1 (v1 + v3)) = r8) → (post 0 σ7)))) ((gi σ 5 4) + v3) σ)))
set_option maxHeartbeats 4000000 in
set_option maxRecDepth 20000 in
theorem b_X4_isWordAt_36 {Γ : Gm} {ad : Nat → Nat} {p : Program} {l : Launch} {e : Env} {s : State} {m : MethodId} {args : Array Value} {below : List Frame} {meth : Method} {c : Code} {M : Nat} (hM : 53 ≤ M) {post : Int32 → St → Prop} {k_36 : Int32 → Int32 → Int32 → St → Prop} (hk_36 : ∀ (v1 : Int32) (v2 : Int32) (v3 : Int32) (σ : St) (H : Heap) (locs : List Loc) (ls : Array Slot), k_36 v1 v2 v3 σ → WH Γ YC M ad σ s H locs → lv_has ls 4 [(0, .ref (ad 5)), (1, .int v1), (2, .int v2), (3, .int v3)] → W p l e (rmL 10 0 0) s m args below meth c H locs 0 0 (MQ below (va_Qi post (fun u t => WC Γ YC M ad u t) (AA Γ)) args s 0 0 (AA Γ)) (F0 m 36 ls []))
    (v1 : Int32) (v2 : Int32) (v3 : Int32) (σ : St) (H : Heap) (locs : List Loc) (ls : Array Slot) (h : w_X4_isWordAt_36 M post k_36 v1 v2 v3 σ) (hc : CX Γ p s m args meth c cX4_isWordAt RX4 4) (hr : meth.sig.returnType = (Option.some Jvm.ClassFile.FieldType.boolean)) (hw : WH Γ YC M ad σ s H locs) (hl : lv_has ls 4 [(0, .ref (ad 5)), (1, .int v1), (2, .int v2), (3, .int v3)]) :
    W p l e (rmL 10 0 0) s m args below meth c H locs 0 0 (MQ below (va_Qi post (fun u t => WC Γ YC M ad u t) (AA Γ)) args s 0 0 (AA Γ)) (F0 m 36 ls []) := by
  have hx := hc.1
  have hb := hc.2.1
  unfold w_X4_isWordAt_36 at h
  refine lv_iload_n hx hb dX4_isWordAt_36 rfl (lv_at hl 3 rfl) ?_
  refine lv_iload_n hx hb dX4_isWordAt_37 rfl (lv_at hl 2 rfl) ?_
  refine lv_icmp_ge (tgt := 70) hx hb dX4_isWordAt_38 (by decide) (fun c1 => ?_) (fun c1 => ?_)
  · replace h := h.1 c1
    refine va_ldcS hx hb hc.2.2.2.1 hc.2.2.2.2.2.2.2.2.2.2.1.2.2.1 dX4_isWordAt_70 ?_
    refine lv_iload_n hx hb dX4_isWordAt_72 rfl (lv_at hl 1 rfl) ?_
    refine lv_iload_n hx hb dX4_isWordAt_73 rfl (lv_at hl 2 rfl) ?_
    refine lv_iadd hx hb dX4_isWordAt_74 ?_
    refine g_Vs (Y := YC) (i := 1) (n := 1) (k := 9) (As := [.int (v1 + v2)]) (rest := []) (by decide) vw_X4_124 ⟨Nat.le_of_ble_eq_true rfl, Nat.le_of_ble_eq_true rfl, Nat.zero_le _, Nat.zero_le _⟩ hc hw hl.1 (m_schar (post := fun r u => r = chT 1 (v1 + v2) ∧ u = σ) l 1 (by decide) (v1 + v2) h.1 σ ⟨rfl, rfl⟩) rfl rfl (Nat.le_of_ble_eq_true rfl) dX4_isWordAt_75 (fun r_ u_ H locs hz hw => ?_)
    obtain ⟨hz1, hz2⟩ := hz
    rw [hz1]
    rw [hz2] at hw
    clear hz1 hz2
    replace h := h.2
    refine lv_bipush (v := 32) hx hb dX4_isWordAt_78 (by decide) ?_
    refine lv_icmp_ne (tgt := 87) hx hb dX4_isWordAt_80 (by decide) (fun c4 => ?_) (fun c4 => ?_)
    · replace h := h.2 c4
      refine lv_iconst (v := 0) hx hb dX4_isWordAt_87 (by decide) ?_
      exact g_zret hc hr hw rfl h dX4_isWordAt_88
    · replace h := h.1 c4
      refine lv_iconst (v := 1) hx hb dX4_isWordAt_83 (by decide) ?_
      refine lv_goto (tgt := 88) hx hb dX4_isWordAt_84 (by decide) ?_
      exact g_zret hc hr hw rfl h dX4_isWordAt_88
  · replace h := h.2 c1
    refine va_ldcS hx hb hc.2.2.2.1 hc.2.2.2.2.2.2.2.2.2.2.1.2.2.1 dX4_isWordAt_41 ?_
    refine lv_iload_n hx hb dX4_isWordAt_43 rfl (lv_at hl 1 rfl) ?_
    refine lv_iload_n hx hb dX4_isWordAt_44 rfl (lv_at hl 3 rfl) ?_
    refine lv_iadd hx hb dX4_isWordAt_45 ?_
    refine g_Vs (Y := YC) (i := 1) (n := 1) (k := 9) (As := [.int (v1 + v3)]) (rest := []) (by decide) vw_X4_124 ⟨Nat.le_of_ble_eq_true rfl, Nat.le_of_ble_eq_true rfl, Nat.zero_le _, Nat.zero_le _⟩ hc hw hl.1 (m_schar (post := fun r u => r = chT 1 (v1 + v3) ∧ u = σ) l 1 (by decide) (v1 + v3) h.1 σ ⟨rfl, rfl⟩) rfl rfl (Nat.le_of_ble_eq_true rfl) dX4_isWordAt_46 (fun r_ u_ H locs hz hw => ?_)
    obtain ⟨hz1, hz2⟩ := hz
    rw [hz1]
    rw [hz2] at hw
    clear hz1 hz2
    replace h := h.2
    refine lv_aload_n hx hb dX4_isWordAt_49 rfl (lv_at hl 0 rfl) ?_
    refine lv_aload_n hx hb dX4_isWordAt_50 rfl (lv_at hl 0 rfl) ?_
    refine fg_X4_89 hc hw (Nat.lt_of_lt_of_le (by decide) hM) rfl dX4_isWordAt_51 ?_
    refine lv_iload_n hx hb dX4_isWordAt_54 rfl (lv_at hl 3 rfl) ?_
    refine lv_iadd hx hb dX4_isWordAt_55 ?_
    refine g_Vi (Y := YC) (ci := 4) (n := 1) (k := 0) (As := [.int ((gi σ 5 4) + v3)]) (rest := [.int (chT 1 (v1 + v3))]) rfl (by decide) vw_X4_92 ⟨Nat.le_of_ble_eq_true rfl, Nat.le_of_ble_eq_true rfl, Nat.zero_le _, Nat.zero_le _⟩ hc hw hl.1 (Nat.lt_of_lt_of_le (by decide) hM) rfl (m_X4_byteAt l hM ((gi σ 5 4) + v3) σ h) rfl rfl (Nat.le_of_ble_eq_true rfl) dX4_isWordAt_56 (fun r8 σ7 H locs h hw => ?_)
    refine lv_icmp_eq (tgt := 64) hx hb dX4_isWordAt_59 (by decide) (fun c9 => ?_) (fun c9 => ?_)
    · replace h := h.1 c9
      obtain ⟨x10, ex10⟩ : ∃ z, z = v3 + 1 := ⟨_, rfl⟩
      replace h := h x10 ex10
      refine lv_iinc (v := x10) (lv' := [(3, .int x10), (0, .ref (ad 5)), (1, .int v1), (2, .int v2)]) hx hb dX4_isWordAt_64 hl (k := 3) rfl (by rw [ex10]; rfl) (by decide) rfl (fun ls hl => ?_)
      refine lv_goto (tgt := 36) hx hb dX4_isWordAt_67 (by decide) ?_
      exact hk_36 v1 v2 x10 σ7 _ _ _ h  hw (lv_sub hl [1, 2, 3, 0] rfl)
    · replace h := h.2 c9
      refine lv_iconst (v := 0) hx hb dX4_isWordAt_62 (by decide) ?_
      exact g_zret hc hr hw rfl h dX4_isWordAt_63
def wl_X4_isWordAt_36 (M : Nat) (post : Int32 → St → Prop) : Nat → Int32 → Int32 → Int32 → St → Prop
  | 0, _, _, _, _ => False
  | n + 1, v1, v2, v3, σ => w_X4_isWordAt_36 M post (wl_X4_isWordAt_36 M post n) v1 v2 v3 σ
set_option maxHeartbeats 4000000 in
theorem bl_X4_isWordAt_36 {Γ : Gm} {ad : Nat → Nat} {p : Program} {l : Launch} {e : Env} {s : State} {m : MethodId} {args : Array Value} {below : List Frame} {meth : Method} {c : Code} {M : Nat} (hM : 53 ≤ M) {post : Int32 → St → Prop}
    (hc : CX Γ p s m args meth c cX4_isWordAt RX4 4) (hr : meth.sig.returnType = (Option.some Jvm.ClassFile.FieldType.boolean)) :
    ∀ (n : Nat) (v1 : Int32) (v2 : Int32) (v3 : Int32) (σ : St) (H : Heap) (locs : List Loc) (ls : Array Slot), wl_X4_isWordAt_36 M post n v1 v2 v3 σ → WH Γ YC M ad σ s H locs → lv_has ls 4 [(0, .ref (ad 5)), (1, .int v1), (2, .int v2), (3, .int v3)] → W p l e (rmL 10 0 0) s m args below meth c H locs 0 0 (MQ below (va_Qi post (fun u t => WC Γ YC M ad u t) (AA Γ)) args s 0 0 (AA Γ)) (F0 m 36 ls []) := by
  intro n
  induction n with
  | zero => intro v1 v2 v3 σ H locs ls h; exact h.elim
  | succ n ih =>
    intro v1 v2 v3 σ H locs ls h  hw hl
    exact b_X4_isWordAt_36 hM ih v1 v2 v3 σ H locs ls h  hc hr hw hl
def w_X4_isWordAt (M : Nat) (post : Int32 → St → Prop) (a1 : Int32) (σ : St) : Prop :=
  (a1 < 0 → (post 0 σ)) ∧ (¬ (a1 < 0) → ((7 ≤ ((gi σ 5 2) - (gi σ 5 4)) → (post 0 σ)) ∧ (¬ (7 ≤ ((gi σ 5 2) - (gi σ 5 4))) → ((a1 ≤ (84 - 7) → (∃ n, wl_X4_isWordAt_36 M post n a1 ((gi σ 5 2) - (gi σ 5 4)) 0 σ)) ∧ (¬ (a1 ≤ (84 - 7)) → (post 0 σ))))))
set_option maxHeartbeats 4000000 in
set_option maxRecDepth 20000 in
theorem m_X4_isWordAt {Γ : Gm} {ad : Nat → Nat} {M : Nat} (l : Launch) (hM : 53 ≤ M) {post : Int32 → St → Prop} (a1 : Int32) (σ : St) (h : w_X4_isWordAt M post a1 σ) : Ci l Γ YC M ad σ yX4_isWordAt cX4_isWordAt 4 (Option.some Jvm.ClassFile.FieldType.boolean) 10 0 0 [.ref (ad 5), .int a1] post := by
  refine g_start (by decide) (Nat.le_of_ble_eq_true rfl) ?_
  intro p e s m args below meth c ls hc hr hn hl hw
  have hc : CX Γ p s m args meth c cX4_isWordAt RX4 4 := hc
  have hl : lv_has ls 4 [(0, .ref (ad 5)), (1, .int a1)] := hl
  have hx := hc.1
  have hb := hc.2.1
  unfold w_X4_isWordAt at h
  generalize hHH : s.heap = H0 at hw ⊢
  refine lv_aload_n hx hb dX4_isWordAt_0 rfl (lv_at hl 0 rfl) ?_
  refine fg_X4_28 hc hw (Nat.lt_of_lt_of_le (by decide) hM) rfl dX4_isWordAt_1 ?_
  refine lv_aload_n hx hb dX4_isWordAt_4 rfl (lv_at hl 0 rfl) ?_
  refine fg_X4_89 hc hw (Nat.lt_of_lt_of_le (by decide) hM) rfl dX4_isWordAt_5 ?_
  refine lv_isub hx hb dX4_isWordAt_8 ?_
  refine lv_istore_n (lv' := [(2, .int ((gi σ 5 2) - (gi σ 5 4))), (0, .ref (ad 5)), (1, .int a1)]) hx hb dX4_isWordAt_9 rfl hl (by decide) rfl (fun ls hl => ?_)
  refine lv_iload_n hx hb dX4_isWordAt_10 rfl (lv_at hl 2 rfl) ?_
  refine lv_if_lt (tgt := 32) hx hb dX4_isWordAt_11 (by decide) (fun c1 => ?_) (fun c1 => ?_)
  · replace h := h.1 c1
    refine lv_iconst (v := 0) hx hb dX4_isWordAt_32 (by decide) ?_
    exact g_zret hc hr hw rfl h dX4_isWordAt_33
  · replace h := h.2 c1
    refine lv_iload_n hx hb dX4_isWordAt_14 rfl (lv_at hl 0 rfl) ?_
    refine lv_bipush (v := 7) hx hb dX4_isWordAt_15 (by decide) ?_
    refine lv_icmp_ge (tgt := 32) hx hb dX4_isWordAt_17 (by decide) (fun c2 => ?_) (fun c2 => ?_)
    · replace h := h.1 c2
      refine lv_iconst (v := 0) hx hb dX4_isWordAt_32 (by decide) ?_
      exact g_zret hc hr hw rfl h dX4_isWordAt_33
    · replace h := h.2 c2
      refine lv_iload_n hx hb dX4_isWordAt_20 rfl (lv_at hl 2 rfl) ?_
      refine va_ldcS hx hb hc.2.2.2.1 hc.2.2.2.2.2.2.2.2.2.2.1.2.2.1 dX4_isWordAt_21 ?_
      refine g_Vs (Y := YC) (i := 1) (n := 0) (k := 9) (As := []) (rest := [.int a1]) (by decide) vw_X4_117 ⟨Nat.le_of_ble_eq_true rfl, Nat.le_of_ble_eq_true rfl, Nat.zero_le _, Nat.zero_le _⟩ hc hw hl.1 (m_slen (post := fun r u => r = 84 ∧ u = σ) l 1 (by decide) σ ⟨by decide, rfl⟩) rfl rfl (Nat.le_of_ble_eq_true rfl) dX4_isWordAt_23 (fun r_ u_ H locs hz hw => ?_)
      obtain ⟨hz1, hz2⟩ := hz
      rw [hz1]
      rw [hz2] at hw
      clear hz1 hz2
      refine lv_bipush (v := 7) hx hb dX4_isWordAt_26 (by decide) ?_
      refine lv_isub hx hb dX4_isWordAt_28 ?_
      refine lv_icmp_le (tgt := 34) hx hb dX4_isWordAt_29 (by decide) (fun c5 => ?_) (fun c5 => ?_)
      · replace h := h.1 c5
        refine lv_iconst (v := 0) hx hb dX4_isWordAt_34 (by decide) ?_
        refine lv_istore_n (lv' := [(3, .int 0), (2, .int ((gi σ 5 2) - (gi σ 5 4))), (0, .ref (ad 5)), (1, .int a1)]) hx hb dX4_isWordAt_35 rfl hl (by decide) rfl (fun ls hl => ?_)
        obtain ⟨n, h⟩ := h
        exact bl_X4_isWordAt_36 hM hc hr n a1 ((gi σ 5 2) - (gi σ 5 4)) 0 σ _ _ _ h  hw (lv_sub hl [2, 3, 1, 0] rfl)
      · replace h := h.2 c5
        refine lv_iconst (v := 0) hx hb dX4_isWordAt_32 (by decide) ?_
        exact g_zret hc hr hw rfl h dX4_isWordAt_33
def w_X4_stepOverWord_44 (M : Nat) (post : St → Prop) (k_44 : Int32 → St → Prop) (v1 : Int32) (σ : St) : Prop :=
  (84 ≤ v1 → (post σ)) ∧ (¬ (84 ≤ v1) → (w_X4_isWordAt M (fun r5 σ4 => ((r5 = 0 → (∀ x7 : Int32, x7 = v1 + 7 → (k_44 x7 σ4))) ∧ (¬ (r5 = 0) → (∀ σ8 : St, σ8 = si σ4 5 3 (1000 + (v1 / 7)) → (∀ x9 : Int32, x9 = v1 + 7 → (k_44 x9 σ8)))))) v1 σ))
set_option maxHeartbeats 4000000 in
set_option maxRecDepth 20000 in
theorem b_X4_stepOverWord_44 {Γ : Gm} {ad : Nat → Nat} {p : Program} {l : Launch} {e : Env} {s : State} {m : MethodId} {args : Array Value} {below : List Frame} {meth : Method} {c : Code} {M : Nat} (hM : 53 ≤ M) {post : St → Prop} {k_44 : Int32 → St → Prop} (hk_44 : ∀ (v1 : Int32) (σ : St) (H : Heap) (locs : List Loc) (ls : Array Slot), k_44 v1 σ → WH Γ YC M ad σ s H locs → lv_has ls 2 [(0, .ref (ad 5)), (1, .int v1)] → W p l e (rmL 11 0 0) s m args below meth c H locs 0 0 (MQ below (va_Qv post (fun u t => WC Γ YC M ad u t) (AA Γ)) args s 0 0 (AA Γ)) (F0 m 44 ls []))
    (v1 : Int32) (σ : St) (H : Heap) (locs : List Loc) (ls : Array Slot) (h : w_X4_stepOverWord_44 M post k_44 v1 σ) (hc : CX Γ p s m args meth c cX4_stepOverWord RX4 2) (hr : meth.sig.returnType = none) (hw : WH Γ YC M ad σ s H locs) (hl : lv_has ls 2 [(0, .ref (ad 5)), (1, .int v1)]) :
    W p l e (rmL 11 0 0) s m args below meth c H locs 0 0 (MQ below (va_Qv post (fun u t => WC Γ YC M ad u t) (AA Γ)) args s 0 0 (AA Γ)) (F0 m 44 ls []) := by
  have hx := hc.1
  have hb := hc.2.1
  unfold w_X4_stepOverWord_44 at h
  refine lv_iload_n hx hb dX4_stepOverWord_44 rfl (lv_at hl 1 rfl) ?_
  refine va_ldcS hx hb hc.2.2.2.1 hc.2.2.2.2.2.2.2.2.2.2.1.2.2.1 dX4_stepOverWord_45 ?_
  refine g_Vs (Y := YC) (i := 1) (n := 0) (k := 9) (As := []) (rest := [.int v1]) (by decide) vw_X4_117 ⟨Nat.le_of_ble_eq_true rfl, Nat.le_of_ble_eq_true rfl, Nat.zero_le _, Nat.zero_le _⟩ hc hw hl.1 (m_slen (post := fun r u => r = 84 ∧ u = σ) l 1 (by decide) σ ⟨by decide, rfl⟩) rfl rfl (Nat.le_of_ble_eq_true rfl) dX4_stepOverWord_47 (fun r_ u_ H locs hz hw => ?_)
  obtain ⟨hz1, hz2⟩ := hz
  rw [hz1]
  rw [hz2] at hw
  clear hz1 hz2
  refine lv_icmp_ge (tgt := 79) hx hb dX4_stepOverWord_50 (by decide) (fun c3 => ?_) (fun c3 => ?_)
  · replace h := h.1 c3
    exact g_vret hc hr hw h dX4_stepOverWord_79
  · replace h := h.2 c3
    refine lv_aload_n hx hb dX4_stepOverWord_53 rfl (lv_at hl 0 rfl) ?_
    refine lv_iload_n hx hb dX4_stepOverWord_54 rfl (lv_at hl 1 rfl) ?_
    refine g_Vi (Y := YC) (ci := 4) (n := 1) (k := 10) (As := [.int v1]) (rest := []) rfl (by decide) vw_X4_121 ⟨Nat.le_of_ble_eq_true rfl, Nat.le_of_ble_eq_true rfl, Nat.zero_le _, Nat.zero_le _⟩ hc hw hl.1 (Nat.lt_of_lt_of_le (by decide) hM) rfl (m_X4_isWordAt l hM v1 σ h) rfl rfl (Nat.le_of_ble_eq_true rfl) dX4_stepOverWord_55 (fun r5 σ4 H locs h hw => ?_)
    refine lv_if_eq (tgt := 73) hx hb dX4_stepOverWord_58 (by decide) (fun c6 => ?_) (fun c6 => ?_)
    · replace h := h.1 c6
      obtain ⟨x7, ex7⟩ : ∃ z, z = v1 + 7 := ⟨_, rfl⟩
      replace h := h x7 ex7
      refine lv_iinc (v := x7) (lv' := [(1, .int x7), (0, .ref (ad 5))]) hx hb dX4_stepOverWord_73 hl (k := 1) rfl (by rw [ex7]; rfl) (by decide) rfl (fun ls hl => ?_)
      refine lv_goto (tgt := 44) hx hb dX4_stepOverWord_76 (by decide) ?_
      exact hk_44 x7 σ4 _ _ _ h  hw (lv_sub hl [1, 0] rfl)
    · replace h := h.2 c6
      refine lv_aload_n hx hb dX4_stepOverWord_61 rfl (lv_at hl 0 rfl) ?_
      refine lv_sipush (v := 1000) hx hb dX4_stepOverWord_62 (by decide) ?_
      refine lv_iload_n hx hb dX4_stepOverWord_65 rfl (lv_at hl 1 rfl) ?_
      refine lv_bipush (v := 7) hx hb dX4_stepOverWord_66 (by decide) ?_
      refine lv_idiv hx hb dX4_stepOverWord_68 (by decide) ?_
      refine lv_iadd hx hb dX4_stepOverWord_69 ?_
      refine fp_X4_74 (o := 5) hc hw (Nat.lt_of_lt_of_le (by decide) hM) rfl dX4_stepOverWord_70 (fun σ8 H locs eσ8 hw => ?_)
      replace h := h σ8 eσ8
      obtain ⟨x9, ex9⟩ : ∃ z, z = v1 + 7 := ⟨_, rfl⟩
      replace h := h x9 ex9
      refine lv_iinc (v := x9) (lv' := [(1, .int x9), (0, .ref (ad 5))]) hx hb dX4_stepOverWord_73 hl (k := 1) rfl (by rw [ex9]; rfl) (by decide) rfl (fun ls hl => ?_)
      refine lv_goto (tgt := 44) hx hb dX4_stepOverWord_76 (by decide) ?_
      exact hk_44 x9 σ8 _ _ _ h  hw (lv_sub hl [1, 0] rfl)
def wl_X4_stepOverWord_44 (M : Nat) (post : St → Prop) : Nat → Int32 → St → Prop
  | 0, _, _ => False
  | n + 1, v1, σ => w_X4_stepOverWord_44 M post (wl_X4_stepOverWord_44 M post n) v1 σ
set_option maxHeartbeats 4000000 in
theorem bl_X4_stepOverWord_44 {Γ : Gm} {ad : Nat → Nat} {p : Program} {l : Launch} {e : Env} {s : State} {m : MethodId} {args : Array Value} {below : List Frame} {meth : Method} {c : Code} {M : Nat} (hM : 53 ≤ M) {post : St → Prop}
    (hc : CX Γ p s m args meth c cX4_stepOverWord RX4 2) (hr : meth.sig.returnType = none) :
    ∀ (n : Nat) (v1 : Int32) (σ : St) (H : Heap) (locs : List Loc) (ls : Array Slot), wl_X4_stepOverWord_44 M post n v1 σ → WH Γ YC M ad σ s H locs → lv_has ls 2 [(0, .ref (ad 5)), (1, .int v1)] → W p l e (rmL 11 0 0) s m args below meth c H locs 0 0 (MQ below (va_Qv post (fun u t => WC Γ YC M ad u t) (AA Γ)) args s 0 0 (AA Γ)) (F0 m 44 ls []) := by
  intro n
  induction n with
  | zero => intro v1 σ H locs ls h; exact h.elim
  | succ n ih =>
    intro v1 σ H locs ls h  hw hl
    exact b_X4_stepOverWord_44 hM ih v1 σ H locs ls h  hc hr hw hl
def w_X4_stepOverWord_5 (M : Nat) (post : St → Prop) (k_5 : Int32 → St → Prop) (v1 : Int32) (σ : St) : Prop :=
  ((gi σ 5 1) ≤ v1 → (∀ σ2 : St, σ2 = si σ 5 3 1 → (∃ n, wl_X4_stepOverWord_44 M post n 0 σ2))) ∧ (¬ ((gi σ 5 1) ≤ v1) → (w_X4_byteAt M (fun r4 σ3 => (w_X4_isLetter M (fun r6 σ5 => ((r6 = 0 → (∀ σ8 : St, σ8 = si σ5 5 3 1 → (∃ n, wl_X4_stepOverWord_44 M post n 0 σ8))) ∧ (¬ (r6 = 0) → (∀ σ9 : St, σ9 = si σ5 5 2 (v1 + 1) → (∀ x10 : Int32, x10 = v1 + 1 → (k_5 x10 σ9)))))) r4 σ3)) v1 σ))
set_option maxHeartbeats 4000000 in
set_option maxRecDepth 20000 in
theorem b_X4_stepOverWord_5 {Γ : Gm} {ad : Nat → Nat} {p : Program} {l : Launch} {e : Env} {s : State} {m : MethodId} {args : Array Value} {below : List Frame} {meth : Method} {c : Code} {M : Nat} (hM : 53 ≤ M) {post : St → Prop} {k_5 : Int32 → St → Prop} (hk_5 : ∀ (v1 : Int32) (σ : St) (H : Heap) (locs : List Loc) (ls : Array Slot), k_5 v1 σ → WH Γ YC M ad σ s H locs → lv_has ls 2 [(0, .ref (ad 5)), (1, .int v1)] → W p l e (rmL 11 0 0) s m args below meth c H locs 0 0 (MQ below (va_Qv post (fun u t => WC Γ YC M ad u t) (AA Γ)) args s 0 0 (AA Γ)) (F0 m 5 ls []))
    (v1 : Int32) (σ : St) (H : Heap) (locs : List Loc) (ls : Array Slot) (h : w_X4_stepOverWord_5 M post k_5 v1 σ) (hc : CX Γ p s m args meth c cX4_stepOverWord RX4 2) (hr : meth.sig.returnType = none) (hw : WH Γ YC M ad σ s H locs) (hl : lv_has ls 2 [(0, .ref (ad 5)), (1, .int v1)]) :
    W p l e (rmL 11 0 0) s m args below meth c H locs 0 0 (MQ below (va_Qv post (fun u t => WC Γ YC M ad u t) (AA Γ)) args s 0 0 (AA Γ)) (F0 m 5 ls []) := by
  have hx := hc.1
  have hb := hc.2.1
  unfold w_X4_stepOverWord_5 at h
  refine lv_iload_n hx hb dX4_stepOverWord_5 rfl (lv_at hl 1 rfl) ?_
  refine lv_aload_n hx hb dX4_stepOverWord_6 rfl (lv_at hl 0 rfl) ?_
  refine fg_X4_21 hc hw (Nat.lt_of_lt_of_le (by decide) hM) rfl dX4_stepOverWord_7 ?_
  refine lv_icmp_ge (tgt := 37) hx hb dX4_stepOverWord_10 (by decide) (fun c1 => ?_) (fun c1 => ?_)
  · replace h := h.1 c1
    refine lv_aload_n hx hb dX4_stepOverWord_37 rfl (lv_at hl 0 rfl) ?_
    refine lv_iconst (v := 1) hx hb dX4_stepOverWord_38 (by decide) ?_
    refine fp_X4_74 (o := 5) hc hw (Nat.lt_of_lt_of_le (by decide) hM) rfl dX4_stepOverWord_39 (fun σ2 H locs eσ2 hw => ?_)
    replace h := h σ2 eσ2
    refine lv_iconst (v := 0) hx hb dX4_stepOverWord_42 (by decide) ?_
    refine lv_istore_n (lv' := [(1, .int 0), (0, .ref (ad 5))]) hx hb dX4_stepOverWord_43 rfl hl (by decide) rfl (fun ls hl => ?_)
    obtain ⟨n, h⟩ := h
    exact bl_X4_stepOverWord_44 hM hc hr n 0 σ2 _ _ _ h  hw (lv_sub hl [1, 0] rfl)
  · replace h := h.2 c1
    refine lv_aload_n hx hb dX4_stepOverWord_13 rfl (lv_at hl 0 rfl) ?_
    refine lv_iload_n hx hb dX4_stepOverWord_14 rfl (lv_at hl 1 rfl) ?_
    refine g_Vi (Y := YC) (ci := 4) (n := 1) (k := 0) (As := [.int v1]) (rest := []) rfl (by decide) vw_X4_92 ⟨Nat.le_of_ble_eq_true rfl, Nat.le_of_ble_eq_true rfl, Nat.zero_le _, Nat.zero_le _⟩ hc hw hl.1 (Nat.lt_of_lt_of_le (by decide) hM) rfl (m_X4_byteAt l hM v1 σ h) rfl rfl (Nat.le_of_ble_eq_true rfl) dX4_stepOverWord_15 (fun r4 σ3 H locs h hw => ?_)
    refine g_Si (Y := YC) (n := 1) (k := 0) (As := [.int r4]) (rest := []) vw_X4_96 ⟨Nat.le_of_ble_eq_true rfl, Nat.le_of_ble_eq_true rfl, Nat.zero_le _, Nat.zero_le _⟩ hc hw hl.1 (m_X4_isLetter l hM r4 σ3 h) rfl rfl (Nat.le_of_ble_eq_true rfl) dX4_stepOverWord_18 (fun r6 σ5 H locs h hw => ?_)
    refine lv_if_eq (tgt := 37) hx hb dX4_stepOverWord_21 (by decide) (fun c7 => ?_) (fun c7 => ?_)
    · replace h := h.1 c7
      refine lv_aload_n hx hb dX4_stepOverWord_37 rfl (lv_at hl 0 rfl) ?_
      refine lv_iconst (v := 1) hx hb dX4_stepOverWord_38 (by decide) ?_
      refine fp_X4_74 (o := 5) hc hw (Nat.lt_of_lt_of_le (by decide) hM) rfl dX4_stepOverWord_39 (fun σ8 H locs eσ8 hw => ?_)
      replace h := h σ8 eσ8
      refine lv_iconst (v := 0) hx hb dX4_stepOverWord_42 (by decide) ?_
      refine lv_istore_n (lv' := [(1, .int 0), (0, .ref (ad 5))]) hx hb dX4_stepOverWord_43 rfl hl (by decide) rfl (fun ls hl => ?_)
      obtain ⟨n, h⟩ := h
      exact bl_X4_stepOverWord_44 hM hc hr n 0 σ8 _ _ _ h  hw (lv_sub hl [1, 0] rfl)
    · replace h := h.2 c7
      refine lv_aload_n hx hb dX4_stepOverWord_24 rfl (lv_at hl 0 rfl) ?_
      refine lv_iload_n hx hb dX4_stepOverWord_25 rfl (lv_at hl 1 rfl) ?_
      refine lv_iconst (v := 1) hx hb dX4_stepOverWord_26 (by decide) ?_
      refine lv_iadd hx hb dX4_stepOverWord_27 ?_
      refine fp_X4_28 (o := 5) hc hw (Nat.lt_of_lt_of_le (by decide) hM) rfl dX4_stepOverWord_28 (fun σ9 H locs eσ9 hw => ?_)
      replace h := h σ9 eσ9
      obtain ⟨x10, ex10⟩ : ∃ z, z = v1 + 1 := ⟨_, rfl⟩
      replace h := h x10 ex10
      refine lv_iinc (v := x10) (lv' := [(1, .int x10), (0, .ref (ad 5))]) hx hb dX4_stepOverWord_31 hl (k := 1) rfl (by rw [ex10]; rfl) (by decide) rfl (fun ls hl => ?_)
      refine lv_goto (tgt := 5) hx hb dX4_stepOverWord_34 (by decide) ?_
      exact hk_5 x10 σ9 _ _ _ h  hw (lv_sub hl [1, 0] rfl)
def wl_X4_stepOverWord_5 (M : Nat) (post : St → Prop) : Nat → Int32 → St → Prop
  | 0, _, _ => False
  | n + 1, v1, σ => w_X4_stepOverWord_5 M post (wl_X4_stepOverWord_5 M post n) v1 σ
set_option maxHeartbeats 4000000 in
theorem bl_X4_stepOverWord_5 {Γ : Gm} {ad : Nat → Nat} {p : Program} {l : Launch} {e : Env} {s : State} {m : MethodId} {args : Array Value} {below : List Frame} {meth : Method} {c : Code} {M : Nat} (hM : 53 ≤ M) {post : St → Prop}
    (hc : CX Γ p s m args meth c cX4_stepOverWord RX4 2) (hr : meth.sig.returnType = none) :
    ∀ (n : Nat) (v1 : Int32) (σ : St) (H : Heap) (locs : List Loc) (ls : Array Slot), wl_X4_stepOverWord_5 M post n v1 σ → WH Γ YC M ad σ s H locs → lv_has ls 2 [(0, .ref (ad 5)), (1, .int v1)] → W p l e (rmL 11 0 0) s m args below meth c H locs 0 0 (MQ below (va_Qv post (fun u t => WC Γ YC M ad u t) (AA Γ)) args s 0 0 (AA Γ)) (F0 m 5 ls []) := by
  intro n
  induction n with
  | zero => intro v1 σ H locs ls h; exact h.elim
  | succ n ih =>
    intro v1 σ H locs ls h  hw hl
    exact b_X4_stepOverWord_5 hM ih v1 σ H locs ls h  hc hr hw hl
def w_X4_stepOverWord (M : Nat) (post : St → Prop)  (σ : St) : Prop :=
  ∃ n, wl_X4_stepOverWord_5 M post n (gi σ 5 2) σ
set_option maxHeartbeats 4000000 in
set_option maxRecDepth 20000 in
theorem m_X4_stepOverWord {Γ : Gm} {ad : Nat → Nat} {M : Nat} (l : Launch) (hM : 53 ≤ M) {post : St → Prop}  (σ : St) (h : w_X4_stepOverWord M post  σ) : Cv l Γ YC M ad σ yX4_stepOverWord cX4_stepOverWord 2 none 11 0 0 [.ref (ad 5)] post := by
  refine g_start (by decide) (Nat.le_of_ble_eq_true rfl) ?_
  intro p e s m args below meth c ls hc hr hn hl hw
  have hc : CX Γ p s m args meth c cX4_stepOverWord RX4 2 := hc
  have hl : lv_has ls 2 [(0, .ref (ad 5))] := hl
  have hx := hc.1
  have hb := hc.2.1
  unfold w_X4_stepOverWord at h
  generalize hHH : s.heap = H0 at hw ⊢
  refine lv_aload_n hx hb dX4_stepOverWord_0 rfl (lv_at hl 0 rfl) ?_
  refine fg_X4_28 hc hw (Nat.lt_of_lt_of_le (by decide) hM) rfl dX4_stepOverWord_1 ?_
  refine lv_istore_n (lv' := [(1, .int (gi σ 5 2)), (0, .ref (ad 5))]) hx hb dX4_stepOverWord_4 rfl hl (by decide) rfl (fun ls hl => ?_)
  obtain ⟨n, h⟩ := h
  exact bl_X4_stepOverWord_5 hM hc hr n (gi σ 5 2) σ _ _ _ h  hw (lv_sub hl [1, 0] rfl)
def w_X4_stepOn_46 (M : Nat) (post : St → Prop)  (σ : St) : Prop :=
  ∀ σ1 : St, σ1 = si σ 5 4 (gi σ 5 2) → (w_X4_byteAt M (fun r3 σ2 => ((r3 = (-1) → (∀ σ20 : St, σ20 = si σ2 5 3 0 → (post σ20))) ∧ (¬ (r3 = (-1)) → (w_X4_isLetter M (fun r6 σ5 => ((r6 = 0 → (w_X4_isDigit M (fun r9 σ8 => ((r9 = 0 → (∀ σ11 : St, σ11 = si σ8 5 2 ((gi σ8 5 2) + 1) → (∀ x12 : Int32, x12 = (r3.toUInt32 % 65536).toInt32 → ((0 ≤ x12 ∧ x12 ≤ 255) ∧ (((ixT 2 x12) < 0 → (∀ σ16 : St, σ16 = si σ11 5 3 1 → (post σ16))) ∧ (¬ ((ixT 2 x12) < 0) → (∀ σ17 : St, σ17 = si σ11 5 3 r3 → (post σ17)))))))) ∧ (¬ (r9 = 0) → (w_X4_stepOverNumber M (fun σ18 => (post σ18)) σ8)))) r3 σ5)) ∧ (¬ (r6 = 0) → (w_X4_stepOverWord M (fun σ19 => (post σ19)) σ5)))) r3 σ2)))) (gi σ1 5 2) σ1)
set_option maxHeartbeats 4000000 in
set_option maxRecDepth 20000 in
theorem b_X4_stepOn_46 {Γ : Gm} {ad : Nat → Nat} {p : Program} {l : Launch} {e : Env} {s : State} {m : MethodId} {args : Array Value} {below : List Frame} {meth : Method} {c : Code} {M : Nat} (hM : 53 ≤ M) {post : St → Prop}
     (σ : St) (H : Heap) (locs : List Loc) (ls : Array Slot) (h : w_X4_stepOn_46 M post  σ) (hc : CX Γ p s m args meth c cX4_stepOn RX4 2) (hr : meth.sig.returnType = none) (hw : WH Γ YC M ad σ s H locs) (hl : lv_has ls 2 [(0, .ref (ad 5))]) :
    W p l e (rmL 12 0 0) s m args below meth c H locs 0 0 (MQ below (va_Qv post (fun u t => WC Γ YC M ad u t) (AA Γ)) args s 0 0 (AA Γ)) (F0 m 46 ls []) := by
  have hx := hc.1
  have hb := hc.2.1
  unfold w_X4_stepOn_46 at h
  refine lv_aload_n hx hb dX4_stepOn_46 rfl (lv_at hl 0 rfl) ?_
  refine lv_aload_n hx hb dX4_stepOn_47 rfl (lv_at hl 0 rfl) ?_
  refine fg_X4_28 hc hw (Nat.lt_of_lt_of_le (by decide) hM) rfl dX4_stepOn_48 ?_
  refine fp_X4_89 (o := 5) hc hw (Nat.lt_of_lt_of_le (by decide) hM) rfl dX4_stepOn_51 (fun σ1 H locs eσ1 hw => ?_)
  replace h := h σ1 eσ1
  refine lv_aload_n hx hb dX4_stepOn_54 rfl (lv_at hl 0 rfl) ?_
  refine lv_aload_n hx hb dX4_stepOn_55 rfl (lv_at hl 0 rfl) ?_
  refine fg_X4_28 hc hw (Nat.lt_of_lt_of_le (by decide) hM) rfl dX4_stepOn_56 ?_
  refine g_Vi (Y := YC) (ci := 4) (n := 1) (k := 0) (As := [.int (gi σ1 5 2)]) (rest := []) rfl (by decide) vw_X4_92 ⟨Nat.le_of_ble_eq_true rfl, Nat.le_of_ble_eq_true rfl, Nat.zero_le _, Nat.zero_le _⟩ hc hw hl.1 (Nat.lt_of_lt_of_le (by decide) hM) rfl (m_X4_byteAt l hM (gi σ1 5 2) σ1 h) rfl rfl (Nat.le_of_ble_eq_true rfl) dX4_stepOn_59 (fun r3 σ2 H locs h hw => ?_)
  refine lv_istore_n (lv' := [(1, .int r3), (0, .ref (ad 5))]) hx hb dX4_stepOn_62 rfl hl (by decide) rfl (fun ls hl => ?_)
  refine lv_iload_n hx hb dX4_stepOn_63 rfl (lv_at hl 0 rfl) ?_
  refine lv_iconst (v := (-1)) hx hb dX4_stepOn_64 (by decide) ?_
  refine lv_icmp_ne (tgt := 76) hx hb dX4_stepOn_65 (by decide) (fun c4 => ?_) (fun c4 => ?_)
  · replace h := h.2 c4
    refine lv_iload_n hx hb dX4_stepOn_76 rfl (lv_at hl 0 rfl) ?_
    refine g_Si (Y := YC) (n := 1) (k := 0) (As := [.int r3]) (rest := []) vw_X4_96 ⟨Nat.le_of_ble_eq_true rfl, Nat.le_of_ble_eq_true rfl, Nat.zero_le _, Nat.zero_le _⟩ hc hw hl.1 (m_X4_isLetter l hM r3 σ2 h) rfl rfl (Nat.le_of_ble_eq_true rfl) dX4_stepOn_77 (fun r6 σ5 H locs h hw => ?_)
    refine lv_if_eq (tgt := 90) hx hb dX4_stepOn_80 (by decide) (fun c7 => ?_) (fun c7 => ?_)
    · replace h := h.1 c7
      refine lv_iload_n hx hb dX4_stepOn_90 rfl (lv_at hl 0 rfl) ?_
      refine g_Si (Y := YC) (n := 1) (k := 0) (As := [.int r3]) (rest := []) vw_X4_102 ⟨Nat.le_of_ble_eq_true rfl, Nat.le_of_ble_eq_true rfl, Nat.zero_le _, Nat.zero_le _⟩ hc hw hl.1 (m_X4_isDigit l hM r3 σ5 h) rfl rfl (Nat.le_of_ble_eq_true rfl) dX4_stepOn_91 (fun r9 σ8 H locs h hw => ?_)
      refine lv_if_eq (tgt := 104) hx hb dX4_stepOn_94 (by decide) (fun c10 => ?_) (fun c10 => ?_)
      · replace h := h.1 c10
        refine lv_aload_n hx hb dX4_stepOn_104 rfl (lv_at hl 1 rfl) ?_
        refine lv_dup hx hb dX4_stepOn_105 rfl ?_
        refine fg_X4_28 hc hw (Nat.lt_of_lt_of_le (by decide) hM) rfl dX4_stepOn_106 ?_
        refine lv_iconst (v := 1) hx hb dX4_stepOn_109 (by decide) ?_
        refine lv_iadd hx hb dX4_stepOn_110 ?_
        refine fp_X4_28 (o := 5) hc hw (Nat.lt_of_lt_of_le (by decide) hM) rfl dX4_stepOn_111 (fun σ11 H locs eσ11 hw => ?_)
        replace h := h σ11 eσ11
        refine lv_aload_n hx hb dX4_stepOn_114 rfl (lv_at hl 1 rfl) ?_
        refine va_ldcS hx hb hc.2.2.2.1 hc.2.2.2.2.2.2.2.2.2.2.1.2.2.2 dX4_stepOn_115 ?_
        refine lv_iload_n hx hb dX4_stepOn_117 rfl (lv_at hl 0 rfl) ?_
        refine lv_i2c (v := (r3.toUInt32 % 65536).toInt32) hx hb dX4_stepOn_118 rfl ?_
        refine lv_topi (fun x12 ex12 => ?_)
        replace h := h x12 ex12
        refine g_Vs (Y := YC) (i := 2) (n := 1) (k := 9) (As := [.int x12]) (rest := [.ref (ad 5)]) (by decide) vw_X4_110 ⟨Nat.le_of_ble_eq_true rfl, Nat.le_of_ble_eq_true rfl, Nat.zero_le _, Nat.zero_le _⟩ hc hw hl.1 (m_sidx (post := fun r u => r = ixT 2 x12 ∧ u = σ11) l 2 (by decide) x12 h.1 σ11 ⟨rfl, rfl⟩) rfl rfl (Nat.le_of_ble_eq_true rfl) dX4_stepOn_119 (fun r_ u_ H locs hz hw => ?_)
        obtain ⟨hz1, hz2⟩ := hz
        rw [hz1]
        rw [hz2] at hw
        clear hz1 hz2
        replace h := h.2
        refine lv_if_lt (tgt := 129) hx hb dX4_stepOn_122 (by decide) (fun c15 => ?_) (fun c15 => ?_)
        · replace h := h.1 c15
          refine lv_iconst (v := 1) hx hb dX4_stepOn_129 (by decide) ?_
          refine fp_X4_74 (o := 5) hc hw (Nat.lt_of_lt_of_le (by decide) hM) rfl dX4_stepOn_130 (fun σ16 H locs eσ16 hw => ?_)
          replace h := h σ16 eσ16
          exact g_vret hc hr hw h dX4_stepOn_133
        · replace h := h.2 c15
          refine lv_iload_n hx hb dX4_stepOn_125 rfl (lv_at hl 0 rfl) ?_
          refine lv_goto (tgt := 130) hx hb dX4_stepOn_126 (by decide) ?_
          refine fp_X4_74 (o := 5) hc hw (Nat.lt_of_lt_of_le (by decide) hM) rfl dX4_stepOn_130 (fun σ17 H locs eσ17 hw => ?_)
          replace h := h σ17 eσ17
          exact g_vret hc hr hw h dX4_stepOn_133
      · replace h := h.2 c10
        refine lv_aload_n hx hb dX4_stepOn_97 rfl (lv_at hl 1 rfl) ?_
        refine g_Vv (Y := YC) (ci := 4) (n := 0) (k := 1) (As := []) (rest := []) rfl (by decide) vw_X4_105 ⟨Nat.le_of_ble_eq_true rfl, Nat.le_of_ble_eq_true rfl, Nat.zero_le _, Nat.zero_le _⟩ hc hw hl.1 (Nat.lt_of_lt_of_le (by decide) hM) rfl (m_X4_stepOverNumber l hM σ8 h) rfl rfl (Nat.le_of_ble_eq_true rfl) dX4_stepOn_98 (fun σ18 H locs h hw => ?_)
        refine lv_goto (tgt := 133) hx hb dX4_stepOn_101 (by decide) ?_
        exact g_vret hc hr hw h dX4_stepOn_133
    · replace h := h.2 c7
      refine lv_aload_n hx hb dX4_stepOn_83 rfl (lv_at hl 1 rfl) ?_
      refine g_Vv (Y := YC) (ci := 4) (n := 0) (k := 11) (As := []) (rest := []) rfl (by decide) vw_X4_99 ⟨Nat.le_of_ble_eq_true rfl, Nat.le_of_ble_eq_true rfl, Nat.zero_le _, Nat.zero_le _⟩ hc hw hl.1 (Nat.lt_of_lt_of_le (by decide) hM) rfl (m_X4_stepOverWord l hM σ5 h) rfl rfl (Nat.le_of_ble_eq_true rfl) dX4_stepOn_84 (fun σ19 H locs h hw => ?_)
      refine lv_goto (tgt := 133) hx hb dX4_stepOn_87 (by decide) ?_
      exact g_vret hc hr hw h dX4_stepOn_133
  · replace h := h.1 c4
    refine lv_aload_n hx hb dX4_stepOn_68 rfl (lv_at hl 1 rfl) ?_
    refine lv_iconst (v := 0) hx hb dX4_stepOn_69 (by decide) ?_
    refine fp_X4_74 (o := 5) hc hw (Nat.lt_of_lt_of_le (by decide) hM) rfl dX4_stepOn_70 (fun σ20 H locs eσ20 hw => ?_)
    replace h := h σ20 eσ20
    refine lv_goto (tgt := 133) hx hb dX4_stepOn_73 (by decide) ?_
    exact g_vret hc hr hw h dX4_stepOn_133
def w_X4_stepOn_5 (M : Nat) (post : St → Prop) (k_5 : Int32 → St → Prop) (v1 : Int32) (σ : St) : Prop :=
  ((gi σ 5 1) ≤ v1 → (w_X4_stepOn_46 M post  σ)) ∧ (¬ ((gi σ 5 1) ≤ v1) → (w_X4_byteAt M (fun r3 σ2 => ((r3 = 32 → (∀ σ5 : St, σ5 = si σ2 5 2 (v1 + 1) → (∀ x6 : Int32, x6 = v1 + 1 → (k_5 x6 σ5)))) ∧ (¬ (r3 = 32) → (w_X4_byteAt M (fun r8 σ7 => ((r8 = 10 → (∀ σ10 : St, σ10 = si σ7 5 2 (v1 + 1) → (∀ x11 : Int32, x11 = v1 + 1 → (k_5 x11 σ10)))) ∧ (¬ (r8 = 10) → (w_X4_stepOn_46 M post  σ7)))) v1 σ2)))) v1 σ))
set_option maxHeartbeats 4000000 in
set_option maxRecDepth 20000 in
theorem b_X4_stepOn_5 {Γ : Gm} {ad : Nat → Nat} {p : Program} {l : Launch} {e : Env} {s : State} {m : MethodId} {args : Array Value} {below : List Frame} {meth : Method} {c : Code} {M : Nat} (hM : 53 ≤ M) {post : St → Prop} {k_5 : Int32 → St → Prop} (hk_5 : ∀ (v1 : Int32) (σ : St) (H : Heap) (locs : List Loc) (ls : Array Slot), k_5 v1 σ → WH Γ YC M ad σ s H locs → lv_has ls 2 [(0, .ref (ad 5)), (1, .int v1)] → W p l e (rmL 12 0 0) s m args below meth c H locs 0 0 (MQ below (va_Qv post (fun u t => WC Γ YC M ad u t) (AA Γ)) args s 0 0 (AA Γ)) (F0 m 5 ls []))
    (v1 : Int32) (σ : St) (H : Heap) (locs : List Loc) (ls : Array Slot) (h : w_X4_stepOn_5 M post k_5 v1 σ) (hc : CX Γ p s m args meth c cX4_stepOn RX4 2) (hr : meth.sig.returnType = none) (hw : WH Γ YC M ad σ s H locs) (hl : lv_has ls 2 [(0, .ref (ad 5)), (1, .int v1)]) :
    W p l e (rmL 12 0 0) s m args below meth c H locs 0 0 (MQ below (va_Qv post (fun u t => WC Γ YC M ad u t) (AA Γ)) args s 0 0 (AA Γ)) (F0 m 5 ls []) := by
  have hx := hc.1
  have hb := hc.2.1
  unfold w_X4_stepOn_5 at h
  refine lv_iload_n hx hb dX4_stepOn_5 rfl (lv_at hl 1 rfl) ?_
  refine lv_aload_n hx hb dX4_stepOn_6 rfl (lv_at hl 0 rfl) ?_
  refine fg_X4_21 hc hw (Nat.lt_of_lt_of_le (by decide) hM) rfl dX4_stepOn_7 ?_
  refine lv_icmp_ge (tgt := 46) hx hb dX4_stepOn_10 (by decide) (fun c1 => ?_) (fun c1 => ?_)
  · replace h := h.1 c1
    exact b_X4_stepOn_46 hM  σ _ _ _ h  hc hr hw (lv_sub hl [0] rfl)
  · replace h := h.2 c1
    refine lv_aload_n hx hb dX4_stepOn_13 rfl (lv_at hl 0 rfl) ?_
    refine lv_iload_n hx hb dX4_stepOn_14 rfl (lv_at hl 1 rfl) ?_
    refine g_Vi (Y := YC) (ci := 4) (n := 1) (k := 0) (As := [.int v1]) (rest := []) rfl (by decide) vw_X4_92 ⟨Nat.le_of_ble_eq_true rfl, Nat.le_of_ble_eq_true rfl, Nat.zero_le _, Nat.zero_le _⟩ hc hw hl.1 (Nat.lt_of_lt_of_le (by decide) hM) rfl (m_X4_byteAt l hM v1 σ h) rfl rfl (Nat.le_of_ble_eq_true rfl) dX4_stepOn_15 (fun r3 σ2 H locs h hw => ?_)
    refine lv_bipush (v := 32) hx hb dX4_stepOn_18 (by decide) ?_
    refine lv_icmp_eq (tgt := 33) hx hb dX4_stepOn_20 (by decide) (fun c4 => ?_) (fun c4 => ?_)
    · replace h := h.1 c4
      refine lv_aload_n hx hb dX4_stepOn_33 rfl (lv_at hl 0 rfl) ?_
      refine lv_iload_n hx hb dX4_stepOn_34 rfl (lv_at hl 1 rfl) ?_
      refine lv_iconst (v := 1) hx hb dX4_stepOn_35 (by decide) ?_
      refine lv_iadd hx hb dX4_stepOn_36 ?_
      refine fp_X4_28 (o := 5) hc hw (Nat.lt_of_lt_of_le (by decide) hM) rfl dX4_stepOn_37 (fun σ5 H locs eσ5 hw => ?_)
      replace h := h σ5 eσ5
      obtain ⟨x6, ex6⟩ : ∃ z, z = v1 + 1 := ⟨_, rfl⟩
      replace h := h x6 ex6
      refine lv_iinc (v := x6) (lv' := [(1, .int x6), (0, .ref (ad 5))]) hx hb dX4_stepOn_40 hl (k := 1) rfl (by rw [ex6]; rfl) (by decide) rfl (fun ls hl => ?_)
      refine lv_goto (tgt := 5) hx hb dX4_stepOn_43 (by decide) ?_
      exact hk_5 x6 σ5 _ _ _ h  hw (lv_sub hl [1, 0] rfl)
    · replace h := h.2 c4
      refine lv_aload_n hx hb dX4_stepOn_23 rfl (lv_at hl 0 rfl) ?_
      refine lv_iload_n hx hb dX4_stepOn_24 rfl (lv_at hl 1 rfl) ?_
      refine g_Vi (Y := YC) (ci := 4) (n := 1) (k := 0) (As := [.int v1]) (rest := []) rfl (by decide) vw_X4_92 ⟨Nat.le_of_ble_eq_true rfl, Nat.le_of_ble_eq_true rfl, Nat.zero_le _, Nat.zero_le _⟩ hc hw hl.1 (Nat.lt_of_lt_of_le (by decide) hM) rfl (m_X4_byteAt l hM v1 σ2 h) rfl rfl (Nat.le_of_ble_eq_true rfl) dX4_stepOn_25 (fun r8 σ7 H locs h hw => ?_)
      refine lv_bipush (v := 10) hx hb dX4_stepOn_28 (by decide) ?_
      refine lv_icmp_ne (tgt := 46) hx hb dX4_stepOn_30 (by decide) (fun c9 => ?_) (fun c9 => ?_)
      · replace h := h.2 c9
        exact b_X4_stepOn_46 hM  σ7 _ _ _ h  hc hr hw (lv_sub hl [0] rfl)
      · replace h := h.1 c9
        refine lv_aload_n hx hb dX4_stepOn_33 rfl (lv_at hl 0 rfl) ?_
        refine lv_iload_n hx hb dX4_stepOn_34 rfl (lv_at hl 1 rfl) ?_
        refine lv_iconst (v := 1) hx hb dX4_stepOn_35 (by decide) ?_
        refine lv_iadd hx hb dX4_stepOn_36 ?_
        refine fp_X4_28 (o := 5) hc hw (Nat.lt_of_lt_of_le (by decide) hM) rfl dX4_stepOn_37 (fun σ10 H locs eσ10 hw => ?_)
        replace h := h σ10 eσ10
        obtain ⟨x11, ex11⟩ : ∃ z, z = v1 + 1 := ⟨_, rfl⟩
        replace h := h x11 ex11
        refine lv_iinc (v := x11) (lv' := [(1, .int x11), (0, .ref (ad 5))]) hx hb dX4_stepOn_40 hl (k := 1) rfl (by rw [ex11]; rfl) (by decide) rfl (fun ls hl => ?_)
        refine lv_goto (tgt := 5) hx hb dX4_stepOn_43 (by decide) ?_
        exact hk_5 x11 σ10 _ _ _ h  hw (lv_sub hl [1, 0] rfl)
def wl_X4_stepOn_5 (M : Nat) (post : St → Prop) : Nat → Int32 → St → Prop
  | 0, _, _ => False
  | n + 1, v1, σ => w_X4_stepOn_5 M post (wl_X4_stepOn_5 M post n) v1 σ
set_option maxHeartbeats 4000000 in
theorem bl_X4_stepOn_5 {Γ : Gm} {ad : Nat → Nat} {p : Program} {l : Launch} {e : Env} {s : State} {m : MethodId} {args : Array Value} {below : List Frame} {meth : Method} {c : Code} {M : Nat} (hM : 53 ≤ M) {post : St → Prop}
    (hc : CX Γ p s m args meth c cX4_stepOn RX4 2) (hr : meth.sig.returnType = none) :
    ∀ (n : Nat) (v1 : Int32) (σ : St) (H : Heap) (locs : List Loc) (ls : Array Slot), wl_X4_stepOn_5 M post n v1 σ → WH Γ YC M ad σ s H locs → lv_has ls 2 [(0, .ref (ad 5)), (1, .int v1)] → W p l e (rmL 12 0 0) s m args below meth c H locs 0 0 (MQ below (va_Qv post (fun u t => WC Γ YC M ad u t) (AA Γ)) args s 0 0 (AA Γ)) (F0 m 5 ls []) := by
  intro n
  induction n with
  | zero => intro v1 σ H locs ls h; exact h.elim
  | succ n ih =>
    intro v1 σ H locs ls h  hw hl
    exact b_X4_stepOn_5 hM ih v1 σ H locs ls h  hc hr hw hl
def w_X4_stepOn (M : Nat) (post : St → Prop)  (σ : St) : Prop :=
  ∃ n, wl_X4_stepOn_5 M post n (gi σ 5 2) σ
set_option maxHeartbeats 4000000 in
set_option maxRecDepth 20000 in
theorem m_X4_stepOn {Γ : Gm} {ad : Nat → Nat} {M : Nat} (l : Launch) (hM : 53 ≤ M) {post : St → Prop}  (σ : St) (h : w_X4_stepOn M post  σ) : Cv l Γ YC M ad σ yX4_stepOn cX4_stepOn 2 none 12 0 0 [.ref (ad 5)] post := by
  refine g_start (by decide) (Nat.le_of_ble_eq_true rfl) ?_
  intro p e s m args below meth c ls hc hr hn hl hw
  have hc : CX Γ p s m args meth c cX4_stepOn RX4 2 := hc
  have hl : lv_has ls 2 [(0, .ref (ad 5))] := hl
  have hx := hc.1
  have hb := hc.2.1
  unfold w_X4_stepOn at h
  generalize hHH : s.heap = H0 at hw ⊢
  refine lv_aload_n hx hb dX4_stepOn_0 rfl (lv_at hl 0 rfl) ?_
  refine fg_X4_28 hc hw (Nat.lt_of_lt_of_le (by decide) hM) rfl dX4_stepOn_1 ?_
  refine lv_istore_n (lv' := [(1, .int (gi σ 5 2)), (0, .ref (ad 5))]) hx hb dX4_stepOn_4 rfl hl (by decide) rfl (fun ls hl => ?_)
  obtain ⟨n, h⟩ := h
  exact bl_X4_stepOn_5 hM hc hr n (gi σ 5 2) σ _ _ _ h  hw (lv_sub hl [1, 0] rfl)
def w_X4_demand (M : Nat) (post : St → Prop) (a1 : Int32) (σ : St) : Prop :=
  w_X4_isNow M (fun r2 σ1 => ((r2 = 0 → (w_X4_failHere M (fun σ4 => (post σ4)) σ1)) ∧ (¬ (r2 = 0) → (w_X4_stepOn M (fun σ5 => (post σ5)) σ1)))) a1 σ
set_option maxHeartbeats 4000000 in
set_option maxRecDepth 20000 in
theorem m_X4_demand {Γ : Gm} {ad : Nat → Nat} {M : Nat} (l : Launch) (hM : 53 ≤ M) {post : St → Prop} (a1 : Int32) (σ : St) (h : w_X4_demand M post a1 σ) : Cv l Γ YC M ad σ yX4_demand cX4_demand 2 none 13 0 0 [.ref (ad 5), .int a1] post := by
  refine g_start (by decide) (Nat.le_of_ble_eq_true rfl) ?_
  intro p e s m args below meth c ls hc hr hn hl hw
  have hc : CX Γ p s m args meth c cX4_demand RX4 2 := hc
  have hl : lv_has ls 2 [(0, .ref (ad 5)), (1, .int a1)] := hl
  have hx := hc.1
  have hb := hc.2.1
  unfold w_X4_demand at h
  generalize hHH : s.heap = H0 at hw ⊢
  refine lv_aload_n hx hb dX4_demand_0 rfl (lv_at hl 0 rfl) ?_
  refine lv_iload_n hx hb dX4_demand_1 rfl (lv_at hl 1 rfl) ?_
  refine g_Vi (Y := YC) (ci := 4) (n := 1) (k := 0) (As := [.int a1]) (rest := []) rfl (by decide) vw_X4_58 ⟨Nat.le_of_ble_eq_true rfl, Nat.le_of_ble_eq_true rfl, Nat.zero_le _, Nat.zero_le _⟩ hc hw hl.1 (Nat.lt_of_lt_of_le (by decide) hM) rfl (m_X4_isNow l hM a1 σ h) rfl rfl (Nat.le_of_ble_eq_true rfl) dX4_demand_2 (fun r2 σ1 H locs h hw => ?_)
  refine lv_if_eq (tgt := 15) hx hb dX4_demand_5 (by decide) (fun c3 => ?_) (fun c3 => ?_)
  · replace h := h.1 c3
    refine lv_aload_n hx hb dX4_demand_15 rfl (lv_at hl 0 rfl) ?_
    refine g_Vv (Y := YC) (ci := 4) (n := 0) (k := 0) (As := []) (rest := []) rfl (by decide) vw_X4_86 ⟨Nat.le_of_ble_eq_true rfl, Nat.le_of_ble_eq_true rfl, Nat.zero_le _, Nat.zero_le _⟩ hc hw hl.1 (Nat.lt_of_lt_of_le (by decide) hM) rfl (m_X4_failHere l hM σ1 h) rfl rfl (Nat.le_of_ble_eq_true rfl) dX4_demand_16 (fun σ4 H locs h hw => ?_)
    exact g_vret hc hr hw h dX4_demand_19
  · replace h := h.2 c3
    refine lv_aload_n hx hb dX4_demand_8 rfl (lv_at hl 0 rfl) ?_
    refine g_Vv (Y := YC) (ci := 4) (n := 0) (k := 12) (As := []) (rest := []) rfl (by decide) vw_X4_34 ⟨Nat.le_of_ble_eq_true rfl, Nat.le_of_ble_eq_true rfl, Nat.zero_le _, Nat.zero_le _⟩ hc hw hl.1 (Nat.lt_of_lt_of_le (by decide) hM) rfl (m_X4_stepOn l hM σ1 h) rfl rfl (Nat.le_of_ble_eq_true rfl) dX4_demand_9 (fun σ5 H locs h hw => ?_)
    refine lv_goto (tgt := 19) hx hb dX4_demand_12 (by decide) ?_
    exact g_vret hc hr hw h dX4_demand_19
def w_X4_readAny_7 (rec : Nat → (St → Prop) → Int32 → St → Prop) (M : Nat) (post : St → Prop) (k_7 : Int32 → Int32 → St → Prop) (v1 : Int32) (v2 : Int32) (σ : St) : Prop :=
  (160 ≤ v2 → (post σ)) ∧ (¬ (160 ≤ v2) → (w_X4_isNow M (fun r3 σ2 => ((r3 = 0 → (post σ2)) ∧ (¬ (r3 = 0) → (w_X4_stepOn M (fun σ5 => (rec 1 (fun σ6 => (w_X4_emit M (fun σ7 => (∀ x8 : Int32, x8 = v2 + 1 → (k_7 v1 x8 σ7))) (-21) σ6)) v1 σ5)) σ2)))) 1003 σ))
set_option maxHeartbeats 4000000 in
set_option maxRecDepth 20000 in
theorem b_X4_readAny_7 {Γ : Gm} {ad : Nat → Nat} {p : Program} {l : Launch} {e : Env} {s : State} {m : MethodId} {args : Array Value} {below : List Frame} {meth : Method} {c : Code} {kk : Nat} {rec : Nat → (St → Prop) → Int32 → St → Prop} {M : Nat} (hM : 53 ≤ M) (hkk : 40 ≤ kk) {post : St → Prop} {k_7 : Int32 → Int32 → St → Prop} (hrec_readAll : ∀ (post : St → Prop) (open_ : Int32) (σ : St), rec 1 post open_ σ → Cv l Γ YC M ad σ yX4_readAll cX4_readAll 3 none kk 0 0 [.ref (ad 5), .int open_] post) (hk_7 : ∀ (v1 : Int32) (v2 : Int32) (σ : St) (H : Heap) (locs : List Loc) (ls : Array Slot), k_7 v1 v2 σ → WH Γ YC M ad σ s H locs → lv_has ls 3 [(0, .ref (ad 5)), (1, .int v1), (2, .int v2)] → W p l e (rmL (kk + 1) 0 0) s m args below meth c H locs 0 0 (MQ below (va_Qv post (fun u t => WC Γ YC M ad u t) (AA Γ)) args s 0 0 (AA Γ)) (F0 m 7 ls []))
    (v1 : Int32) (v2 : Int32) (σ : St) (H : Heap) (locs : List Loc) (ls : Array Slot) (h : w_X4_readAny_7 rec M post k_7 v1 v2 σ) (hc : CX Γ p s m args meth c cX4_readAny RX4 3) (hr : meth.sig.returnType = none) (hw : WH Γ YC M ad σ s H locs) (hl : lv_has ls 3 [(0, .ref (ad 5)), (1, .int v1), (2, .int v2)]) :
    W p l e (rmL (kk + 1) 0 0) s m args below meth c H locs 0 0 (MQ below (va_Qv post (fun u t => WC Γ YC M ad u t) (AA Γ)) args s 0 0 (AA Γ)) (F0 m 7 ls []) := by
  have hx := hc.1
  have hb := hc.2.1
  unfold w_X4_readAny_7 at h
  refine lv_iload_n hx hb dX4_readAny_7 rfl (lv_at hl 2 rfl) ?_
  refine lv_sipush (v := 160) hx hb dX4_readAny_8 (by decide) ?_
  refine lv_icmp_ge (tgt := 45) hx hb dX4_readAny_11 (by decide) (fun c1 => ?_) (fun c1 => ?_)
  · replace h := h.1 c1
    exact g_vret hc hr hw h dX4_readAny_45
  · replace h := h.2 c1
    refine lv_aload_n hx hb dX4_readAny_14 rfl (lv_at hl 0 rfl) ?_
    refine lv_sipush (v := 1003) hx hb dX4_readAny_15 (by decide) ?_
    refine g_Vi (Y := YC) (ci := 4) (n := 1) (k := 0) (As := [.int 1003]) (rest := []) rfl (by decide) vw_X4_58 ⟨by simp only [rmL]; omega, by simp only [rmL]; omega, Nat.zero_le _, Nat.zero_le _⟩ hc hw hl.1 (Nat.lt_of_lt_of_le (by decide) hM) rfl (m_X4_isNow l hM 1003 σ h) rfl rfl (Nat.le_of_ble_eq_true rfl) dX4_readAny_18 (fun r3 σ2 H locs h hw => ?_)
    refine lv_if_eq (tgt := 45) hx hb dX4_readAny_21 (by decide) (fun c4 => ?_) (fun c4 => ?_)
    · replace h := h.1 c4
      exact g_vret hc hr hw h dX4_readAny_45
    · replace h := h.2 c4
      refine lv_aload_n hx hb dX4_readAny_24 rfl (lv_at hl 0 rfl) ?_
      refine g_Vv (Y := YC) (ci := 4) (n := 0) (k := 12) (As := []) (rest := []) rfl (by decide) vw_X4_34 ⟨by simp only [rmL]; omega, by simp only [rmL]; omega, Nat.zero_le _, Nat.zero_le _⟩ hc hw hl.1 (Nat.lt_of_lt_of_le (by decide) hM) rfl (m_X4_stepOn l hM σ2 h) rfl rfl (Nat.le_of_ble_eq_true rfl) dX4_readAny_25 (fun σ5 H locs h hw => ?_)
      refine lv_aload_n hx hb dX4_readAny_28 rfl (lv_at hl 0 rfl) ?_
      refine lv_iload_n hx hb dX4_readAny_29 rfl (lv_at hl 1 rfl) ?_
      refine g_Vv (Y := YC) (ci := 4) (n := 1) (k := kk) (As := [.int v1]) (rest := []) rfl (by decide) vw_X4_55 ⟨by simp only [rmL]; omega, by simp only [rmL]; omega, Nat.zero_le _, Nat.zero_le _⟩ hc hw hl.1 (Nat.lt_of_lt_of_le (by decide) hM) rfl (hrec_readAll _ v1 σ5 h) rfl rfl (Nat.le_of_ble_eq_true rfl) dX4_readAny_30 (fun σ6 H locs h hw => ?_)
      refine lv_aload_n hx hb dX4_readAny_33 rfl (lv_at hl 0 rfl) ?_
      refine lv_bipush (v := (-21)) hx hb dX4_readAny_34 (by decide) ?_
      refine g_Vv (Y := YC) (ci := 4) (n := 1) (k := 0) (As := [.int (-21)]) (rest := []) rfl (by decide) vw_X4_62 ⟨by simp only [rmL]; omega, by simp only [rmL]; omega, Nat.zero_le _, Nat.zero_le _⟩ hc hw hl.1 (Nat.lt_of_lt_of_le (by decide) hM) rfl (m_X4_emit l hM (-21) σ6 h) rfl rfl (Nat.le_of_ble_eq_true rfl) dX4_readAny_36 (fun σ7 H locs h hw => ?_)
      obtain ⟨x8, ex8⟩ : ∃ z, z = v2 + 1 := ⟨_, rfl⟩
      replace h := h x8 ex8
      refine lv_iinc (v := x8) (lv' := [(2, .int x8), (0, .ref (ad 5)), (1, .int v1)]) hx hb dX4_readAny_39 hl (k := 2) rfl (by rw [ex8]; rfl) (by decide) rfl (fun ls hl => ?_)
      refine lv_goto (tgt := 7) hx hb dX4_readAny_42 (by decide) ?_
      exact hk_7 v1 x8 σ7 _ _ _ h  hw (lv_sub hl [1, 2, 0] rfl)
def wl_X4_readAny_7 (rec : Nat → (St → Prop) → Int32 → St → Prop) (M : Nat) (post : St → Prop) : Nat → Int32 → Int32 → St → Prop
  | 0, _, _, _ => False
  | n + 1, v1, v2, σ => w_X4_readAny_7 rec M post (wl_X4_readAny_7 rec M post n) v1 v2 σ
set_option maxHeartbeats 4000000 in
theorem bl_X4_readAny_7 {Γ : Gm} {ad : Nat → Nat} {p : Program} {l : Launch} {e : Env} {s : State} {m : MethodId} {args : Array Value} {below : List Frame} {meth : Method} {c : Code} {kk : Nat} {rec : Nat → (St → Prop) → Int32 → St → Prop} {M : Nat} (hM : 53 ≤ M) (hkk : 40 ≤ kk) {post : St → Prop} (hrec_readAll : ∀ (post : St → Prop) (open_ : Int32) (σ : St), rec 1 post open_ σ → Cv l Γ YC M ad σ yX4_readAll cX4_readAll 3 none kk 0 0 [.ref (ad 5), .int open_] post)
    (hc : CX Γ p s m args meth c cX4_readAny RX4 3) (hr : meth.sig.returnType = none) :
    ∀ (n : Nat) (v1 : Int32) (v2 : Int32) (σ : St) (H : Heap) (locs : List Loc) (ls : Array Slot), wl_X4_readAny_7 rec M post n v1 v2 σ → WH Γ YC M ad σ s H locs → lv_has ls 3 [(0, .ref (ad 5)), (1, .int v1), (2, .int v2)] → W p l e (rmL (kk + 1) 0 0) s m args below meth c H locs 0 0 (MQ below (va_Qv post (fun u t => WC Γ YC M ad u t) (AA Γ)) args s 0 0 (AA Γ)) (F0 m 7 ls []) := by
  intro n
  induction n with
  | zero => intro v1 v2 σ H locs ls h; exact h.elim
  | succ n ih =>
    intro v1 v2 σ H locs ls h  hw hl
    exact b_X4_readAny_7 hM hkk hrec_readAll ih v1 v2 σ H locs ls h  hc hr hw hl
def w_X4_readAny (rec : Nat → (St → Prop) → Int32 → St → Prop) (M : Nat) (post : St → Prop) (a1 : Int32) (σ : St) : Prop :=
  rec 1 (fun σ1 => (∃ n, wl_X4_readAny_7 rec M post n a1 0 σ1)) a1 σ
set_option maxHeartbeats 4000000 in
set_option maxRecDepth 20000 in
theorem m_X4_readAny {Γ : Gm} {ad : Nat → Nat} {kk : Nat} {rec : Nat → (St → Prop) → Int32 → St → Prop} {M : Nat} (l : Launch) (hM : 53 ≤ M) (hkk : 40 ≤ kk) {post : St → Prop} (hrec_readAll : ∀ (post : St → Prop) (open_ : Int32) (σ : St), rec 1 post open_ σ → Cv l Γ YC M ad σ yX4_readAll cX4_readAll 3 none kk 0 0 [.ref (ad 5), .int open_] post) (a1 : Int32) (σ : St) (h : w_X4_readAny rec M post a1 σ) : Cv l Γ YC M ad σ yX4_readAny cX4_readAny 3 none (kk + 1) 0 0 [.ref (ad 5), .int a1] post := by
  refine g_start (by decide) (Nat.le_of_ble_eq_true rfl) ?_
  intro p e s m args below meth c ls hc hr hn hl hw
  have hc : CX Γ p s m args meth c cX4_readAny RX4 3 := hc
  have hl : lv_has ls 3 [(0, .ref (ad 5)), (1, .int a1)] := hl
  have hx := hc.1
  have hb := hc.2.1
  unfold w_X4_readAny at h
  generalize hHH : s.heap = H0 at hw ⊢
  refine lv_aload_n hx hb dX4_readAny_0 rfl (lv_at hl 0 rfl) ?_
  refine lv_iload_n hx hb dX4_readAny_1 rfl (lv_at hl 1 rfl) ?_
  refine g_Vv (Y := YC) (ci := 4) (n := 1) (k := kk) (As := [.int a1]) (rest := []) rfl (by decide) vw_X4_55 ⟨by simp only [rmL]; omega, by simp only [rmL]; omega, Nat.zero_le _, Nat.zero_le _⟩ hc hw hl.1 (Nat.lt_of_lt_of_le (by decide) hM) rfl (hrec_readAll _ a1 σ h) rfl rfl (Nat.le_of_ble_eq_true rfl) dX4_readAny_2 (fun σ1 H locs h hw => ?_)
  refine lv_iconst (v := 0) hx hb dX4_readAny_5 (by decide) ?_
  refine lv_istore_n (lv' := [(2, .int 0), (0, .ref (ad 5)), (1, .int a1)]) hx hb dX4_readAny_6 rfl hl (by decide) rfl (fun ls hl => ?_)
  obtain ⟨n, h⟩ := h
  exact bl_X4_readAny_7 hM hkk hrec_readAll hc hr n a1 0 σ1 _ _ _ h  hw (lv_sub hl [1, 2, 0] rfl)
def w_X4_readAll_7 (rec : Nat → (St → Prop) → Int32 → St → Prop) (M : Nat) (post : St → Prop) (k_7 : Int32 → Int32 → St → Prop) (v1 : Int32) (v2 : Int32) (σ : St) : Prop :=
  (160 ≤ v2 → (post σ)) ∧ (¬ (160 ≤ v2) → (w_X4_isNow M (fun r3 σ2 => ((r3 = 0 → (post σ2)) ∧ (¬ (r3 = 0) → (w_X4_stepOn M (fun σ5 => (rec 2 (fun σ6 => (w_X4_emit M (fun σ7 => (∀ x8 : Int32, x8 = v2 + 1 → (k_7 v1 x8 σ7))) (-22) σ6)) v1 σ5)) σ2)))) 1004 σ))
set_option maxHeartbeats 4000000 in
set_option maxRecDepth 20000 in
theorem b_X4_readAll_7 {Γ : Gm} {ad : Nat → Nat} {p : Program} {l : Launch} {e : Env} {s : State} {m : MethodId} {args : Array Value} {below : List Frame} {meth : Method} {c : Code} {kk : Nat} {rec : Nat → (St → Prop) → Int32 → St → Prop} {M : Nat} (hM : 53 ≤ M) (hkk : 40 ≤ kk) {post : St → Prop} {k_7 : Int32 → Int32 → St → Prop} (hrec_readNot : ∀ (post : St → Prop) (open_ : Int32) (σ : St), rec 2 post open_ σ → Cv l Γ YC M ad σ yX4_readNot cX4_readNot 3 none kk 0 0 [.ref (ad 5), .int open_] post) (hk_7 : ∀ (v1 : Int32) (v2 : Int32) (σ : St) (H : Heap) (locs : List Loc) (ls : Array Slot), k_7 v1 v2 σ → WH Γ YC M ad σ s H locs → lv_has ls 3 [(0, .ref (ad 5)), (1, .int v1), (2, .int v2)] → W p l e (rmL (kk + 1) 0 0) s m args below meth c H locs 0 0 (MQ below (va_Qv post (fun u t => WC Γ YC M ad u t) (AA Γ)) args s 0 0 (AA Γ)) (F0 m 7 ls []))
    (v1 : Int32) (v2 : Int32) (σ : St) (H : Heap) (locs : List Loc) (ls : Array Slot) (h : w_X4_readAll_7 rec M post k_7 v1 v2 σ) (hc : CX Γ p s m args meth c cX4_readAll RX4 3) (hr : meth.sig.returnType = none) (hw : WH Γ YC M ad σ s H locs) (hl : lv_has ls 3 [(0, .ref (ad 5)), (1, .int v1), (2, .int v2)]) :
    W p l e (rmL (kk + 1) 0 0) s m args below meth c H locs 0 0 (MQ below (va_Qv post (fun u t => WC Γ YC M ad u t) (AA Γ)) args s 0 0 (AA Γ)) (F0 m 7 ls []) := by
  have hx := hc.1
  have hb := hc.2.1
  unfold w_X4_readAll_7 at h
  refine lv_iload_n hx hb dX4_readAll_7 rfl (lv_at hl 2 rfl) ?_
  refine lv_sipush (v := 160) hx hb dX4_readAll_8 (by decide) ?_
  refine lv_icmp_ge (tgt := 45) hx hb dX4_readAll_11 (by decide) (fun c1 => ?_) (fun c1 => ?_)
  · replace h := h.1 c1
    exact g_vret hc hr hw h dX4_readAll_45
  · replace h := h.2 c1
    refine lv_aload_n hx hb dX4_readAll_14 rfl (lv_at hl 0 rfl) ?_
    refine lv_sipush (v := 1004) hx hb dX4_readAll_15 (by decide) ?_
    refine g_Vi (Y := YC) (ci := 4) (n := 1) (k := 0) (As := [.int 1004]) (rest := []) rfl (by decide) vw_X4_58 ⟨by simp only [rmL]; omega, by simp only [rmL]; omega, Nat.zero_le _, Nat.zero_le _⟩ hc hw hl.1 (Nat.lt_of_lt_of_le (by decide) hM) rfl (m_X4_isNow l hM 1004 σ h) rfl rfl (Nat.le_of_ble_eq_true rfl) dX4_readAll_18 (fun r3 σ2 H locs h hw => ?_)
    refine lv_if_eq (tgt := 45) hx hb dX4_readAll_21 (by decide) (fun c4 => ?_) (fun c4 => ?_)
    · replace h := h.1 c4
      exact g_vret hc hr hw h dX4_readAll_45
    · replace h := h.2 c4
      refine lv_aload_n hx hb dX4_readAll_24 rfl (lv_at hl 0 rfl) ?_
      refine g_Vv (Y := YC) (ci := 4) (n := 0) (k := 12) (As := []) (rest := []) rfl (by decide) vw_X4_34 ⟨by simp only [rmL]; omega, by simp only [rmL]; omega, Nat.zero_le _, Nat.zero_le _⟩ hc hw hl.1 (Nat.lt_of_lt_of_le (by decide) hM) rfl (m_X4_stepOn l hM σ2 h) rfl rfl (Nat.le_of_ble_eq_true rfl) dX4_readAll_25 (fun σ5 H locs h hw => ?_)
      refine lv_aload_n hx hb dX4_readAll_28 rfl (lv_at hl 0 rfl) ?_
      refine lv_iload_n hx hb dX4_readAll_29 rfl (lv_at hl 1 rfl) ?_
      refine g_Vv (Y := YC) (ci := 4) (n := 1) (k := kk) (As := [.int v1]) (rest := []) rfl (by decide) vw_X4_65 ⟨by simp only [rmL]; omega, by simp only [rmL]; omega, Nat.zero_le _, Nat.zero_le _⟩ hc hw hl.1 (Nat.lt_of_lt_of_le (by decide) hM) rfl (hrec_readNot _ v1 σ5 h) rfl rfl (Nat.le_of_ble_eq_true rfl) dX4_readAll_30 (fun σ6 H locs h hw => ?_)
      refine lv_aload_n hx hb dX4_readAll_33 rfl (lv_at hl 0 rfl) ?_
      refine lv_bipush (v := (-22)) hx hb dX4_readAll_34 (by decide) ?_
      refine g_Vv (Y := YC) (ci := 4) (n := 1) (k := 0) (As := [.int (-22)]) (rest := []) rfl (by decide) vw_X4_62 ⟨by simp only [rmL]; omega, by simp only [rmL]; omega, Nat.zero_le _, Nat.zero_le _⟩ hc hw hl.1 (Nat.lt_of_lt_of_le (by decide) hM) rfl (m_X4_emit l hM (-22) σ6 h) rfl rfl (Nat.le_of_ble_eq_true rfl) dX4_readAll_36 (fun σ7 H locs h hw => ?_)
      obtain ⟨x8, ex8⟩ : ∃ z, z = v2 + 1 := ⟨_, rfl⟩
      replace h := h x8 ex8
      refine lv_iinc (v := x8) (lv' := [(2, .int x8), (0, .ref (ad 5)), (1, .int v1)]) hx hb dX4_readAll_39 hl (k := 2) rfl (by rw [ex8]; rfl) (by decide) rfl (fun ls hl => ?_)
      refine lv_goto (tgt := 7) hx hb dX4_readAll_42 (by decide) ?_
      exact hk_7 v1 x8 σ7 _ _ _ h  hw (lv_sub hl [1, 2, 0] rfl)
def wl_X4_readAll_7 (rec : Nat → (St → Prop) → Int32 → St → Prop) (M : Nat) (post : St → Prop) : Nat → Int32 → Int32 → St → Prop
  | 0, _, _, _ => False
  | n + 1, v1, v2, σ => w_X4_readAll_7 rec M post (wl_X4_readAll_7 rec M post n) v1 v2 σ
set_option maxHeartbeats 4000000 in
theorem bl_X4_readAll_7 {Γ : Gm} {ad : Nat → Nat} {p : Program} {l : Launch} {e : Env} {s : State} {m : MethodId} {args : Array Value} {below : List Frame} {meth : Method} {c : Code} {kk : Nat} {rec : Nat → (St → Prop) → Int32 → St → Prop} {M : Nat} (hM : 53 ≤ M) (hkk : 40 ≤ kk) {post : St → Prop} (hrec_readNot : ∀ (post : St → Prop) (open_ : Int32) (σ : St), rec 2 post open_ σ → Cv l Γ YC M ad σ yX4_readNot cX4_readNot 3 none kk 0 0 [.ref (ad 5), .int open_] post)
    (hc : CX Γ p s m args meth c cX4_readAll RX4 3) (hr : meth.sig.returnType = none) :
    ∀ (n : Nat) (v1 : Int32) (v2 : Int32) (σ : St) (H : Heap) (locs : List Loc) (ls : Array Slot), wl_X4_readAll_7 rec M post n v1 v2 σ → WH Γ YC M ad σ s H locs → lv_has ls 3 [(0, .ref (ad 5)), (1, .int v1), (2, .int v2)] → W p l e (rmL (kk + 1) 0 0) s m args below meth c H locs 0 0 (MQ below (va_Qv post (fun u t => WC Γ YC M ad u t) (AA Γ)) args s 0 0 (AA Γ)) (F0 m 7 ls []) := by
  intro n
  induction n with
  | zero => intro v1 v2 σ H locs ls h; exact h.elim
  | succ n ih =>
    intro v1 v2 σ H locs ls h  hw hl
    exact b_X4_readAll_7 hM hkk hrec_readNot ih v1 v2 σ H locs ls h  hc hr hw hl
def w_X4_readAll (rec : Nat → (St → Prop) → Int32 → St → Prop) (M : Nat) (post : St → Prop) (a1 : Int32) (σ : St) : Prop :=
  rec 2 (fun σ1 => (∃ n, wl_X4_readAll_7 rec M post n a1 0 σ1)) a1 σ
set_option maxHeartbeats 4000000 in
set_option maxRecDepth 20000 in
theorem m_X4_readAll {Γ : Gm} {ad : Nat → Nat} {kk : Nat} {rec : Nat → (St → Prop) → Int32 → St → Prop} {M : Nat} (l : Launch) (hM : 53 ≤ M) (hkk : 40 ≤ kk) {post : St → Prop} (hrec_readNot : ∀ (post : St → Prop) (open_ : Int32) (σ : St), rec 2 post open_ σ → Cv l Γ YC M ad σ yX4_readNot cX4_readNot 3 none kk 0 0 [.ref (ad 5), .int open_] post) (a1 : Int32) (σ : St) (h : w_X4_readAll rec M post a1 σ) : Cv l Γ YC M ad σ yX4_readAll cX4_readAll 3 none (kk + 1) 0 0 [.ref (ad 5), .int a1] post := by
  refine g_start (by decide) (Nat.le_of_ble_eq_true rfl) ?_
  intro p e s m args below meth c ls hc hr hn hl hw
  have hc : CX Γ p s m args meth c cX4_readAll RX4 3 := hc
  have hl : lv_has ls 3 [(0, .ref (ad 5)), (1, .int a1)] := hl
  have hx := hc.1
  have hb := hc.2.1
  unfold w_X4_readAll at h
  generalize hHH : s.heap = H0 at hw ⊢
  refine lv_aload_n hx hb dX4_readAll_0 rfl (lv_at hl 0 rfl) ?_
  refine lv_iload_n hx hb dX4_readAll_1 rfl (lv_at hl 1 rfl) ?_
  refine g_Vv (Y := YC) (ci := 4) (n := 1) (k := kk) (As := [.int a1]) (rest := []) rfl (by decide) vw_X4_65 ⟨by simp only [rmL]; omega, by simp only [rmL]; omega, Nat.zero_le _, Nat.zero_le _⟩ hc hw hl.1 (Nat.lt_of_lt_of_le (by decide) hM) rfl (hrec_readNot _ a1 σ h) rfl rfl (Nat.le_of_ble_eq_true rfl) dX4_readAll_2 (fun σ1 H locs h hw => ?_)
  refine lv_iconst (v := 0) hx hb dX4_readAll_5 (by decide) ?_
  refine lv_istore_n (lv' := [(2, .int 0), (0, .ref (ad 5)), (1, .int a1)]) hx hb dX4_readAll_6 rfl hl (by decide) rfl (fun ls hl => ?_)
  obtain ⟨n, h⟩ := h
  exact bl_X4_readAll_7 hM hkk hrec_readNot hc hr n a1 0 σ1 _ _ _ h  hw (lv_sub hl [1, 2, 0] rfl)
def w_X4_readNot_75 (rec : Nat → (St → Prop) → Int32 → St → Prop) (M : Nat) (post : St → Prop) (v1 : Int32) (t0 : Int32) (σ : St) : Prop :=
  w_X4_stepOn M (fun σ1 => (rec 3 (fun σ2 => (w_X4_emit M (fun σ3 => (post σ3)) t0 σ2)) v1 σ1)) σ
set_option maxHeartbeats 4000000 in
set_option maxRecDepth 20000 in
theorem b_X4_readNot_75 {Γ : Gm} {ad : Nat → Nat} {p : Program} {l : Launch} {e : Env} {s : State} {m : MethodId} {args : Array Value} {below : List Frame} {meth : Method} {c : Code} {kk : Nat} {rec : Nat → (St → Prop) → Int32 → St → Prop} {M : Nat} (hM : 53 ≤ M) (hkk : 40 ≤ kk) {post : St → Prop} (hrec_readNot : ∀ (post : St → Prop) (open_ : Int32) (σ : St), rec 2 post open_ σ → Cv l Γ YC M ad σ yX4_readNot cX4_readNot 3 none kk 0 0 [.ref (ad 5), .int open_] post) (hrec_readSum : ∀ (post : St → Prop) (open_ : Int32) (σ : St), rec 3 post open_ σ → Cv l Γ YC M ad σ yX4_readSum cX4_readSum 4 none kk 0 0 [.ref (ad 5), .int open_] post)
    (v1 : Int32) (t0 : Int32) (σ : St) (H : Heap) (locs : List Loc) (ls : Array Slot) (h : w_X4_readNot_75 rec M post v1 t0 σ) (hc : CX Γ p s m args meth c cX4_readNot RX4 3) (hr : meth.sig.returnType = none) (hw : WH Γ YC M ad σ s H locs) (hl : lv_has ls 3 [(0, .ref (ad 5)), (1, .int v1)]) :
    W p l e (rmL (kk + 1) 0 0) s m args below meth c H locs 0 0 (MQ below (va_Qv post (fun u t => WC Γ YC M ad u t) (AA Γ)) args s 0 0 (AA Γ)) (F0 m 75 ls [.int t0]) := by
  have hx := hc.1
  have hb := hc.2.1
  unfold w_X4_readNot_75 at h
  refine lv_istore_n (lv' := [(2, .int t0), (0, .ref (ad 5)), (1, .int v1)]) hx hb dX4_readNot_75 rfl hl (by decide) rfl (fun ls hl => ?_)
  refine lv_aload_n hx hb dX4_readNot_76 rfl (lv_at hl 1 rfl) ?_
  refine g_Vv (Y := YC) (ci := 4) (n := 0) (k := 12) (As := []) (rest := []) rfl (by decide) vw_X4_34 ⟨by simp only [rmL]; omega, by simp only [rmL]; omega, Nat.zero_le _, Nat.zero_le _⟩ hc hw hl.1 (Nat.lt_of_lt_of_le (by decide) hM) rfl (m_X4_stepOn l hM σ h) rfl rfl (Nat.le_of_ble_eq_true rfl) dX4_readNot_77 (fun σ1 H locs h hw => ?_)
  refine lv_aload_n hx hb dX4_readNot_80 rfl (lv_at hl 1 rfl) ?_
  refine lv_iload_n hx hb dX4_readNot_81 rfl (lv_at hl 2 rfl) ?_
  refine g_Vv (Y := YC) (ci := 4) (n := 1) (k := kk) (As := [.int v1]) (rest := []) rfl (by decide) vw_X4_71 ⟨by simp only [rmL]; omega, by simp only [rmL]; omega, Nat.zero_le _, Nat.zero_le _⟩ hc hw hl.1 (Nat.lt_of_lt_of_le (by decide) hM) rfl (hrec_readSum _ v1 σ1 h) rfl rfl (Nat.le_of_ble_eq_true rfl) dX4_readNot_82 (fun σ2 H locs h hw => ?_)
  refine lv_aload_n hx hb dX4_readNot_85 rfl (lv_at hl 1 rfl) ?_
  refine lv_iload_n hx hb dX4_readNot_86 rfl (lv_at hl 0 rfl) ?_
  refine g_Vv (Y := YC) (ci := 4) (n := 1) (k := 0) (As := [.int t0]) (rest := []) rfl (by decide) vw_X4_62 ⟨by simp only [rmL]; omega, by simp only [rmL]; omega, Nat.zero_le _, Nat.zero_le _⟩ hc hw hl.1 (Nat.lt_of_lt_of_le (by decide) hM) rfl (m_X4_emit l hM t0 σ2 h) rfl rfl (Nat.le_of_ble_eq_true rfl) dX4_readNot_87 (fun σ3 H locs h hw => ?_)
  exact g_vret hc hr hw h dX4_readNot_90
def w_X4_readNot (rec : Nat → (St → Prop) → Int32 → St → Prop) (M : Nat) (post : St → Prop) (a1 : Int32) (σ : St) : Prop :=
  w_X4_isNow M (fun r2 σ1 => ((r2 = 0 → (rec 3 (fun σ4 => (w_X4_isNow M (fun r6 σ5 => ((r6 = 0 → (w_X4_isNow M (fun r10 σ9 => ((r10 = 0 → (post σ9)) ∧ (¬ (r10 = 0) → (((gi σ9 5 3) = 60 → (w_X4_readNot_75 rec M post a1 (-23) σ9)) ∧ (¬ ((gi σ9 5 3) = 60) → (w_X4_readNot_75 rec M post a1 (-24) σ9)))))) 61 σ5)) ∧ (¬ (r6 = 0) → (((gi σ5 5 3) = 60 → (w_X4_readNot_75 rec M post a1 (-23) σ5)) ∧ (¬ ((gi σ5 5 3) = 60) → (w_X4_readNot_75 rec M post a1 (-24) σ5)))))) 60 σ4)) a1 σ1)) ∧ (¬ (r2 = 0) → (w_X4_mayOpen M (fun r14 σ13 => ((r14 = 0 → (post σ13)) ∧ (¬ (r14 = 0) → (w_X4_stepOn M (fun σ16 => (rec 2 (fun σ17 => (w_X4_emit M (fun σ18 => (post σ18)) (-11) σ17)) (a1 + 1) σ16)) σ13)))) a1 σ1)))) 1005 σ
set_option maxHeartbeats 4000000 in
set_option maxRecDepth 20000 in
theorem m_X4_readNot {Γ : Gm} {ad : Nat → Nat} {kk : Nat} {rec : Nat → (St → Prop) → Int32 → St → Prop} {M : Nat} (l : Launch) (hM : 53 ≤ M) (hkk : 40 ≤ kk) {post : St → Prop} (hrec_readNot : ∀ (post : St → Prop) (open_ : Int32) (σ : St), rec 2 post open_ σ → Cv l Γ YC M ad σ yX4_readNot cX4_readNot 3 none kk 0 0 [.ref (ad 5), .int open_] post) (hrec_readSum : ∀ (post : St → Prop) (open_ : Int32) (σ : St), rec 3 post open_ σ → Cv l Γ YC M ad σ yX4_readSum cX4_readSum 4 none kk 0 0 [.ref (ad 5), .int open_] post) (a1 : Int32) (σ : St) (h : w_X4_readNot rec M post a1 σ) : Cv l Γ YC M ad σ yX4_readNot cX4_readNot 3 none (kk + 1) 0 0 [.ref (ad 5), .int a1] post := by
  refine g_start (by decide) (Nat.le_of_ble_eq_true rfl) ?_
  intro p e s m args below meth c ls hc hr hn hl hw
  have hc : CX Γ p s m args meth c cX4_readNot RX4 3 := hc
  have hl : lv_has ls 3 [(0, .ref (ad 5)), (1, .int a1)] := hl
  have hx := hc.1
  have hb := hc.2.1
  unfold w_X4_readNot at h
  generalize hHH : s.heap = H0 at hw ⊢
  refine lv_aload_n hx hb dX4_readNot_0 rfl (lv_at hl 0 rfl) ?_
  refine lv_sipush (v := 1005) hx hb dX4_readNot_1 (by decide) ?_
  refine g_Vi (Y := YC) (ci := 4) (n := 1) (k := 0) (As := [.int 1005]) (rest := []) rfl (by decide) vw_X4_58 ⟨by simp only [rmL]; omega, by simp only [rmL]; omega, Nat.zero_le _, Nat.zero_le _⟩ hc hw hl.1 (Nat.lt_of_lt_of_le (by decide) hM) rfl (m_X4_isNow l hM 1005 σ h) rfl rfl (Nat.le_of_ble_eq_true rfl) dX4_readNot_4 (fun r2 σ1 H locs h hw => ?_)
  refine lv_if_eq (tgt := 36) hx hb dX4_readNot_7 (by decide) (fun c3 => ?_) (fun c3 => ?_)
  · replace h := h.1 c3
    refine lv_aload_n hx hb dX4_readNot_36 rfl (lv_at hl 0 rfl) ?_
    refine lv_iload_n hx hb dX4_readNot_37 rfl (lv_at hl 1 rfl) ?_
    refine g_Vv (Y := YC) (ci := 4) (n := 1) (k := kk) (As := [.int a1]) (rest := []) rfl (by decide) vw_X4_71 ⟨by simp only [rmL]; omega, by simp only [rmL]; omega, Nat.zero_le _, Nat.zero_le _⟩ hc hw hl.1 (Nat.lt_of_lt_of_le (by decide) hM) rfl (hrec_readSum _ a1 σ1 h) rfl rfl (Nat.le_of_ble_eq_true rfl) dX4_readNot_38 (fun σ4 H locs h hw => ?_)
    refine lv_aload_n hx hb dX4_readNot_41 rfl (lv_at hl 0 rfl) ?_
    refine lv_bipush (v := 60) hx hb dX4_readNot_42 (by decide) ?_
    refine g_Vi (Y := YC) (ci := 4) (n := 1) (k := 0) (As := [.int 60]) (rest := []) rfl (by decide) vw_X4_58 ⟨by simp only [rmL]; omega, by simp only [rmL]; omega, Nat.zero_le _, Nat.zero_le _⟩ hc hw hl.1 (Nat.lt_of_lt_of_le (by decide) hM) rfl (m_X4_isNow l hM 60 σ4 h) rfl rfl (Nat.le_of_ble_eq_true rfl) dX4_readNot_44 (fun r6 σ5 H locs h hw => ?_)
    refine lv_if_ne (tgt := 59) hx hb dX4_readNot_47 (by decide) (fun c7 => ?_) (fun c7 => ?_)
    · replace h := h.2 c7
      refine lv_aload_n hx hb dX4_readNot_59 rfl (lv_at hl 0 rfl) ?_
      refine fg_X4_74 hc hw (Nat.lt_of_lt_of_le (by decide) hM) rfl dX4_readNot_60 ?_
      refine lv_bipush (v := 60) hx hb dX4_readNot_63 (by decide) ?_
      refine lv_icmp_ne (tgt := 73) hx hb dX4_readNot_65 (by decide) (fun c8 => ?_) (fun c8 => ?_)
      · replace h := h.2 c8
        refine lv_bipush (v := (-24)) hx hb dX4_readNot_73 (by decide) ?_
        exact b_X4_readNot_75 hM hkk hrec_readNot hrec_readSum a1 (-24) σ5 _ _ _ h  hc hr hw (lv_sub hl [0, 1] rfl)
      · replace h := h.1 c8
        refine lv_bipush (v := (-23)) hx hb dX4_readNot_68 (by decide) ?_
        refine lv_goto (tgt := 75) hx hb dX4_readNot_70 (by decide) ?_
        exact b_X4_readNot_75 hM hkk hrec_readNot hrec_readSum a1 (-23) σ5 _ _ _ h  hc hr hw (lv_sub hl [0, 1] rfl)
    · replace h := h.1 c7
      refine lv_aload_n hx hb dX4_readNot_50 rfl (lv_at hl 0 rfl) ?_
      refine lv_bipush (v := 61) hx hb dX4_readNot_51 (by decide) ?_
      refine g_Vi (Y := YC) (ci := 4) (n := 1) (k := 0) (As := [.int 61]) (rest := []) rfl (by decide) vw_X4_58 ⟨by simp only [rmL]; omega, by simp only [rmL]; omega, Nat.zero_le _, Nat.zero_le _⟩ hc hw hl.1 (Nat.lt_of_lt_of_le (by decide) hM) rfl (m_X4_isNow l hM 61 σ5 h) rfl rfl (Nat.le_of_ble_eq_true rfl) dX4_readNot_53 (fun r10 σ9 H locs h hw => ?_)
      refine lv_if_eq (tgt := 90) hx hb dX4_readNot_56 (by decide) (fun c11 => ?_) (fun c11 => ?_)
      · replace h := h.1 c11
        exact g_vret hc hr hw h dX4_readNot_90
      · replace h := h.2 c11
        refine lv_aload_n hx hb dX4_readNot_59 rfl (lv_at hl 0 rfl) ?_
        refine fg_X4_74 hc hw (Nat.lt_of_lt_of_le (by decide) hM) rfl dX4_readNot_60 ?_
        refine lv_bipush (v := 60) hx hb dX4_readNot_63 (by decide) ?_
        refine lv_icmp_ne (tgt := 73) hx hb dX4_readNot_65 (by decide) (fun c12 => ?_) (fun c12 => ?_)
        · replace h := h.2 c12
          refine lv_bipush (v := (-24)) hx hb dX4_readNot_73 (by decide) ?_
          exact b_X4_readNot_75 hM hkk hrec_readNot hrec_readSum a1 (-24) σ9 _ _ _ h  hc hr hw (lv_sub hl [0, 1] rfl)
        · replace h := h.1 c12
          refine lv_bipush (v := (-23)) hx hb dX4_readNot_68 (by decide) ?_
          refine lv_goto (tgt := 75) hx hb dX4_readNot_70 (by decide) ?_
          exact b_X4_readNot_75 hM hkk hrec_readNot hrec_readSum a1 (-23) σ9 _ _ _ h  hc hr hw (lv_sub hl [0, 1] rfl)
  · replace h := h.2 c3
    refine lv_aload_n hx hb dX4_readNot_10 rfl (lv_at hl 0 rfl) ?_
    refine lv_iload_n hx hb dX4_readNot_11 rfl (lv_at hl 1 rfl) ?_
    refine g_Vi (Y := YC) (ci := 4) (n := 1) (k := 1) (As := [.int a1]) (rest := []) rfl (by decide) vw_X4_68 ⟨by simp only [rmL]; omega, by simp only [rmL]; omega, Nat.zero_le _, Nat.zero_le _⟩ hc hw hl.1 (Nat.lt_of_lt_of_le (by decide) hM) rfl (m_X4_mayOpen l hM a1 σ1 h) rfl rfl (Nat.le_of_ble_eq_true rfl) dX4_readNot_12 (fun r14 σ13 H locs h hw => ?_)
    refine lv_if_eq (tgt := 35) hx hb dX4_readNot_15 (by decide) (fun c15 => ?_) (fun c15 => ?_)
    · replace h := h.1 c15
      exact g_vret hc hr hw h dX4_readNot_35
    · replace h := h.2 c15
      refine lv_aload_n hx hb dX4_readNot_18 rfl (lv_at hl 0 rfl) ?_
      refine g_Vv (Y := YC) (ci := 4) (n := 0) (k := 12) (As := []) (rest := []) rfl (by decide) vw_X4_34 ⟨by simp only [rmL]; omega, by simp only [rmL]; omega, Nat.zero_le _, Nat.zero_le _⟩ hc hw hl.1 (Nat.lt_of_lt_of_le (by decide) hM) rfl (m_X4_stepOn l hM σ13 h) rfl rfl (Nat.le_of_ble_eq_true rfl) dX4_readNot_19 (fun σ16 H locs h hw => ?_)
      refine lv_aload_n hx hb dX4_readNot_22 rfl (lv_at hl 0 rfl) ?_
      refine lv_iload_n hx hb dX4_readNot_23 rfl (lv_at hl 1 rfl) ?_
      refine lv_iconst (v := 1) hx hb dX4_readNot_24 (by decide) ?_
      refine lv_iadd hx hb dX4_readNot_25 ?_
      refine g_Vv (Y := YC) (ci := 4) (n := 1) (k := kk) (As := [.int (a1 + 1)]) (rest := []) rfl (by decide) vw_X4_65 ⟨by simp only [rmL]; omega, by simp only [rmL]; omega, Nat.zero_le _, Nat.zero_le _⟩ hc hw hl.1 (Nat.lt_of_lt_of_le (by decide) hM) rfl (hrec_readNot _ (a1 + 1) σ16 h) rfl rfl (Nat.le_of_ble_eq_true rfl) dX4_readNot_26 (fun σ17 H locs h hw => ?_)
      refine lv_aload_n hx hb dX4_readNot_29 rfl (lv_at hl 0 rfl) ?_
      refine lv_bipush (v := (-11)) hx hb dX4_readNot_30 (by decide) ?_
      refine g_Vv (Y := YC) (ci := 4) (n := 1) (k := 0) (As := [.int (-11)]) (rest := []) rfl (by decide) vw_X4_62 ⟨by simp only [rmL]; omega, by simp only [rmL]; omega, Nat.zero_le _, Nat.zero_le _⟩ hc hw hl.1 (Nat.lt_of_lt_of_le (by decide) hM) rfl (m_X4_emit l hM (-11) σ17 h) rfl rfl (Nat.le_of_ble_eq_true rfl) dX4_readNot_32 (fun σ18 H locs h hw => ?_)
      exact g_vret hc hr hw h dX4_readNot_35
def w_X4_readSum_48 (rec : Nat → (St → Prop) → Int32 → St → Prop) (M : Nat) (post : St → Prop) (k_7 : Int32 → Int32 → St → Prop) (v1 : Int32) (v2 : Int32) (t0 : Int32) (σ : St) : Prop :=
  w_X4_stepOn M (fun σ1 => (rec 4 (fun σ2 => (w_X4_emit M (fun σ3 => (∀ x4 : Int32, x4 = v2 + 1 → (k_7 v1 x4 σ3))) t0 σ2)) v1 σ1)) σ
set_option maxHeartbeats 4000000 in
set_option maxRecDepth 20000 in
theorem b_X4_readSum_48 {Γ : Gm} {ad : Nat → Nat} {p : Program} {l : Launch} {e : Env} {s : State} {m : MethodId} {args : Array Value} {below : List Frame} {meth : Method} {c : Code} {kk : Nat} {rec : Nat → (St → Prop) → Int32 → St → Prop} {M : Nat} (hM : 53 ≤ M) (hkk : 40 ≤ kk) {post : St → Prop} {k_7 : Int32 → Int32 → St → Prop} (hrec_readTerm : ∀ (post : St → Prop) (open_ : Int32) (σ : St), rec 4 post open_ σ → Cv l Γ YC M ad σ yX4_readTerm cX4_readTerm 3 none kk 0 0 [.ref (ad 5), .int open_] post) (hk_7 : ∀ (v1 : Int32) (v2 : Int32) (σ : St) (H : Heap) (locs : List Loc) (ls : Array Slot), k_7 v1 v2 σ → WH Γ YC M ad σ s H locs → lv_has ls 4 [(0, .ref (ad 5)), (1, .int v1), (2, .int v2)] → W p l e (rmL (kk + 1) 0 0) s m args below meth c H locs 0 0 (MQ below (va_Qv post (fun u t => WC Γ YC M ad u t) (AA Γ)) args s 0 0 (AA Γ)) (F0 m 7 ls []))
    (v1 : Int32) (v2 : Int32) (t0 : Int32) (σ : St) (H : Heap) (locs : List Loc) (ls : Array Slot) (h : w_X4_readSum_48 rec M post k_7 v1 v2 t0 σ) (hc : CX Γ p s m args meth c cX4_readSum RX4 4) (hr : meth.sig.returnType = none) (hw : WH Γ YC M ad σ s H locs) (hl : lv_has ls 4 [(0, .ref (ad 5)), (1, .int v1), (2, .int v2)]) :
    W p l e (rmL (kk + 1) 0 0) s m args below meth c H locs 0 0 (MQ below (va_Qv post (fun u t => WC Γ YC M ad u t) (AA Γ)) args s 0 0 (AA Γ)) (F0 m 48 ls [.int t0]) := by
  have hx := hc.1
  have hb := hc.2.1
  unfold w_X4_readSum_48 at h
  refine lv_istore_n (lv' := [(3, .int t0), (0, .ref (ad 5)), (1, .int v1), (2, .int v2)]) hx hb dX4_readSum_48 rfl hl (by decide) rfl (fun ls hl => ?_)
  refine lv_aload_n hx hb dX4_readSum_49 rfl (lv_at hl 1 rfl) ?_
  refine g_Vv (Y := YC) (ci := 4) (n := 0) (k := 12) (As := []) (rest := []) rfl (by decide) vw_X4_34 ⟨by simp only [rmL]; omega, by simp only [rmL]; omega, Nat.zero_le _, Nat.zero_le _⟩ hc hw hl.1 (Nat.lt_of_lt_of_le (by decide) hM) rfl (m_X4_stepOn l hM σ h) rfl rfl (Nat.le_of_ble_eq_true rfl) dX4_readSum_50 (fun σ1 H locs h hw => ?_)
  refine lv_aload_n hx hb dX4_readSum_53 rfl (lv_at hl 1 rfl) ?_
  refine lv_iload_n hx hb dX4_readSum_54 rfl (lv_at hl 2 rfl) ?_
  refine g_Vv (Y := YC) (ci := 4) (n := 1) (k := kk) (As := [.int v1]) (rest := []) rfl (by decide) vw_X4_77 ⟨by simp only [rmL]; omega, by simp only [rmL]; omega, Nat.zero_le _, Nat.zero_le _⟩ hc hw hl.1 (Nat.lt_of_lt_of_le (by decide) hM) rfl (hrec_readTerm _ v1 σ1 h) rfl rfl (Nat.le_of_ble_eq_true rfl) dX4_readSum_55 (fun σ2 H locs h hw => ?_)
  refine lv_aload_n hx hb dX4_readSum_58 rfl (lv_at hl 1 rfl) ?_
  refine lv_iload_n hx hb dX4_readSum_59 rfl (lv_at hl 0 rfl) ?_
  refine g_Vv (Y := YC) (ci := 4) (n := 1) (k := 0) (As := [.int t0]) (rest := []) rfl (by decide) vw_X4_62 ⟨by simp only [rmL]; omega, by simp only [rmL]; omega, Nat.zero_le _, Nat.zero_le _⟩ hc hw hl.1 (Nat.lt_of_lt_of_le (by decide) hM) rfl (m_X4_emit l hM t0 σ2 h) rfl rfl (Nat.le_of_ble_eq_true rfl) dX4_readSum_60 (fun σ3 H locs h hw => ?_)
  obtain ⟨x4, ex4⟩ : ∃ z, z = v2 + 1 := ⟨_, rfl⟩
  replace h := h x4 ex4
  refine lv_iinc (v := x4) (lv' := [(2, .int x4), (3, .int t0), (0, .ref (ad 5)), (1, .int v1)]) hx hb dX4_readSum_63 hl (k := 3) rfl (by rw [ex4]; rfl) (by decide) rfl (fun ls hl => ?_)
  refine lv_goto (tgt := 7) hx hb dX4_readSum_66 (by decide) ?_
  exact hk_7 v1 x4 σ3 _ _ _ h  hw (lv_sub hl [2, 3, 0] rfl)
def w_X4_readSum_7 (rec : Nat → (St → Prop) → Int32 → St → Prop) (M : Nat) (post : St → Prop) (k_7 : Int32 → Int32 → St → Prop) (v1 : Int32) (v2 : Int32) (σ : St) : Prop :=
  (160 ≤ v2 → (post σ)) ∧ (¬ (160 ≤ v2) → (w_X4_isNow M (fun r3 σ2 => ((r3 = 0 → (w_X4_isNow M (fun r7 σ6 => ((r7 = 0 → (post σ6)) ∧ (¬ (r7 = 0) → (((gi σ6 5 3) = 43 → (w_X4_readSum_48 rec M post k_7 v1 v2 (-25) σ6)) ∧ (¬ ((gi σ6 5 3) = 43) → (w_X4_readSum_48 rec M post k_7 v1 v2 (-26) σ6)))))) 45 σ2)) ∧ (¬ (r3 = 0) → (((gi σ2 5 3) = 43 → (w_X4_readSum_48 rec M post k_7 v1 v2 (-25) σ2)) ∧ (¬ ((gi σ2 5 3) = 43) → (w_X4_readSum_48 rec M post k_7 v1 v2 (-26) σ2)))))) 43 σ))
set_option maxHeartbeats 4000000 in
set_option maxRecDepth 20000 in
theorem b_X4_readSum_7 {Γ : Gm} {ad : Nat → Nat} {p : Program} {l : Launch} {e : Env} {s : State} {m : MethodId} {args : Array Value} {below : List Frame} {meth : Method} {c : Code} {kk : Nat} {rec : Nat → (St → Prop) → Int32 → St → Prop} {M : Nat} (hM : 53 ≤ M) (hkk : 40 ≤ kk) {post : St → Prop} {k_7 : Int32 → Int32 → St → Prop} (hrec_readTerm : ∀ (post : St → Prop) (open_ : Int32) (σ : St), rec 4 post open_ σ → Cv l Γ YC M ad σ yX4_readTerm cX4_readTerm 3 none kk 0 0 [.ref (ad 5), .int open_] post) (hk_7 : ∀ (v1 : Int32) (v2 : Int32) (σ : St) (H : Heap) (locs : List Loc) (ls : Array Slot), k_7 v1 v2 σ → WH Γ YC M ad σ s H locs → lv_has ls 4 [(0, .ref (ad 5)), (1, .int v1), (2, .int v2)] → W p l e (rmL (kk + 1) 0 0) s m args below meth c H locs 0 0 (MQ below (va_Qv post (fun u t => WC Γ YC M ad u t) (AA Γ)) args s 0 0 (AA Γ)) (F0 m 7 ls []))
    (v1 : Int32) (v2 : Int32) (σ : St) (H : Heap) (locs : List Loc) (ls : Array Slot) (h : w_X4_readSum_7 rec M post k_7 v1 v2 σ) (hc : CX Γ p s m args meth c cX4_readSum RX4 4) (hr : meth.sig.returnType = none) (hw : WH Γ YC M ad σ s H locs) (hl : lv_has ls 4 [(0, .ref (ad 5)), (1, .int v1), (2, .int v2)]) :
    W p l e (rmL (kk + 1) 0 0) s m args below meth c H locs 0 0 (MQ below (va_Qv post (fun u t => WC Γ YC M ad u t) (AA Γ)) args s 0 0 (AA Γ)) (F0 m 7 ls []) := by
  have hx := hc.1
  have hb := hc.2.1
  unfold w_X4_readSum_7 at h
  refine lv_iload_n hx hb dX4_readSum_7 rfl (lv_at hl 2 rfl) ?_
  refine lv_sipush (v := 160) hx hb dX4_readSum_8 (by decide) ?_
  refine lv_icmp_ge (tgt := 69) hx hb dX4_readSum_11 (by decide) (fun c1 => ?_) (fun c1 => ?_)
  · replace h := h.1 c1
    exact g_vret hc hr hw h dX4_readSum_69
  · replace h := h.2 c1
    refine lv_aload_n hx hb dX4_readSum_14 rfl (lv_at hl 0 rfl) ?_
    refine lv_bipush (v := 43) hx hb dX4_readSum_15 (by decide) ?_
    refine g_Vi (Y := YC) (ci := 4) (n := 1) (k := 0) (As := [.int 43]) (rest := []) rfl (by decide) vw_X4_58 ⟨by simp only [rmL]; omega, by simp only [rmL]; omega, Nat.zero_le _, Nat.zero_le _⟩ hc hw hl.1 (Nat.lt_of_lt_of_le (by decide) hM) rfl (m_X4_isNow l hM 43 σ h) rfl rfl (Nat.le_of_ble_eq_true rfl) dX4_readSum_17 (fun r3 σ2 H locs h hw => ?_)
    refine lv_if_ne (tgt := 32) hx hb dX4_readSum_20 (by decide) (fun c4 => ?_) (fun c4 => ?_)
    · replace h := h.2 c4
      refine lv_aload_n hx hb dX4_readSum_32 rfl (lv_at hl 0 rfl) ?_
      refine fg_X4_74 hc hw (Nat.lt_of_lt_of_le (by decide) hM) rfl dX4_readSum_33 ?_
      refine lv_bipush (v := 43) hx hb dX4_readSum_36 (by decide) ?_
      refine lv_icmp_ne (tgt := 46) hx hb dX4_readSum_38 (by decide) (fun c5 => ?_) (fun c5 => ?_)
      · replace h := h.2 c5
        refine lv_bipush (v := (-26)) hx hb dX4_readSum_46 (by decide) ?_
        exact b_X4_readSum_48 hM hkk hrec_readTerm hk_7 v1 v2 (-26) σ2 _ _ _ h  hc hr hw (lv_sub hl [0, 1, 2] rfl)
      · replace h := h.1 c5
        refine lv_bipush (v := (-25)) hx hb dX4_readSum_41 (by decide) ?_
        refine lv_goto (tgt := 48) hx hb dX4_readSum_43 (by decide) ?_
        exact b_X4_readSum_48 hM hkk hrec_readTerm hk_7 v1 v2 (-25) σ2 _ _ _ h  hc hr hw (lv_sub hl [0, 1, 2] rfl)
    · replace h := h.1 c4
      refine lv_aload_n hx hb dX4_readSum_23 rfl (lv_at hl 0 rfl) ?_
      refine lv_bipush (v := 45) hx hb dX4_readSum_24 (by decide) ?_
      refine g_Vi (Y := YC) (ci := 4) (n := 1) (k := 0) (As := [.int 45]) (rest := []) rfl (by decide) vw_X4_58 ⟨by simp only [rmL]; omega, by simp only [rmL]; omega, Nat.zero_le _, Nat.zero_le _⟩ hc hw hl.1 (Nat.lt_of_lt_of_le (by decide) hM) rfl (m_X4_isNow l hM 45 σ2 h) rfl rfl (Nat.le_of_ble_eq_true rfl) dX4_readSum_26 (fun r7 σ6 H locs h hw => ?_)
      refine lv_if_eq (tgt := 69) hx hb dX4_readSum_29 (by decide) (fun c8 => ?_) (fun c8 => ?_)
      · replace h := h.1 c8
        exact g_vret hc hr hw h dX4_readSum_69
      · replace h := h.2 c8
        refine lv_aload_n hx hb dX4_readSum_32 rfl (lv_at hl 0 rfl) ?_
        refine fg_X4_74 hc hw (Nat.lt_of_lt_of_le (by decide) hM) rfl dX4_readSum_33 ?_
        refine lv_bipush (v := 43) hx hb dX4_readSum_36 (by decide) ?_
        refine lv_icmp_ne (tgt := 46) hx hb dX4_readSum_38 (by decide) (fun c9 => ?_) (fun c9 => ?_)
        · replace h := h.2 c9
          refine lv_bipush (v := (-26)) hx hb dX4_readSum_46 (by decide) ?_
          exact b_X4_readSum_48 hM hkk hrec_readTerm hk_7 v1 v2 (-26) σ6 _ _ _ h  hc hr hw (lv_sub hl [0, 1, 2] rfl)
        · replace h := h.1 c9
          refine lv_bipush (v := (-25)) hx hb dX4_readSum_41 (by decide) ?_
          refine lv_goto (tgt := 48) hx hb dX4_readSum_43 (by decide) ?_
          exact b_X4_readSum_48 hM hkk hrec_readTerm hk_7 v1 v2 (-25) σ6 _ _ _ h  hc hr hw (lv_sub hl [0, 1, 2] rfl)
def wl_X4_readSum_7 (rec : Nat → (St → Prop) → Int32 → St → Prop) (M : Nat) (post : St → Prop) : Nat → Int32 → Int32 → St → Prop
  | 0, _, _, _ => False
  | n + 1, v1, v2, σ => w_X4_readSum_7 rec M post (wl_X4_readSum_7 rec M post n) v1 v2 σ
set_option maxHeartbeats 4000000 in
theorem bl_X4_readSum_7 {Γ : Gm} {ad : Nat → Nat} {p : Program} {l : Launch} {e : Env} {s : State} {m : MethodId} {args : Array Value} {below : List Frame} {meth : Method} {c : Code} {kk : Nat} {rec : Nat → (St → Prop) → Int32 → St → Prop} {M : Nat} (hM : 53 ≤ M) (hkk : 40 ≤ kk) {post : St → Prop} (hrec_readTerm : ∀ (post : St → Prop) (open_ : Int32) (σ : St), rec 4 post open_ σ → Cv l Γ YC M ad σ yX4_readTerm cX4_readTerm 3 none kk 0 0 [.ref (ad 5), .int open_] post)
    (hc : CX Γ p s m args meth c cX4_readSum RX4 4) (hr : meth.sig.returnType = none) :
    ∀ (n : Nat) (v1 : Int32) (v2 : Int32) (σ : St) (H : Heap) (locs : List Loc) (ls : Array Slot), wl_X4_readSum_7 rec M post n v1 v2 σ → WH Γ YC M ad σ s H locs → lv_has ls 4 [(0, .ref (ad 5)), (1, .int v1), (2, .int v2)] → W p l e (rmL (kk + 1) 0 0) s m args below meth c H locs 0 0 (MQ below (va_Qv post (fun u t => WC Γ YC M ad u t) (AA Γ)) args s 0 0 (AA Γ)) (F0 m 7 ls []) := by
  intro n
  induction n with
  | zero => intro v1 v2 σ H locs ls h; exact h.elim
  | succ n ih =>
    intro v1 v2 σ H locs ls h  hw hl
    exact b_X4_readSum_7 hM hkk hrec_readTerm ih v1 v2 σ H locs ls h  hc hr hw hl
def w_X4_readSum (rec : Nat → (St → Prop) → Int32 → St → Prop) (M : Nat) (post : St → Prop) (a1 : Int32) (σ : St) : Prop :=
  rec 4 (fun σ1 => (∃ n, wl_X4_readSum_7 rec M post n a1 0 σ1)) a1 σ
set_option maxHeartbeats 4000000 in
set_option maxRecDepth 20000 in
theorem m_X4_readSum {Γ : Gm} {ad : Nat → Nat} {kk : Nat} {rec : Nat → (St → Prop) → Int32 → St → Prop} {M : Nat} (l : Launch) (hM : 53 ≤ M) (hkk : 40 ≤ kk) {post : St → Prop} (hrec_readTerm : ∀ (post : St → Prop) (open_ : Int32) (σ : St), rec 4 post open_ σ → Cv l Γ YC M ad σ yX4_readTerm cX4_readTerm 3 none kk 0 0 [.ref (ad 5), .int open_] post) (a1 : Int32) (σ : St) (h : w_X4_readSum rec M post a1 σ) : Cv l Γ YC M ad σ yX4_readSum cX4_readSum 4 none (kk + 1) 0 0 [.ref (ad 5), .int a1] post := by
  refine g_start (by decide) (Nat.le_of_ble_eq_true rfl) ?_
  intro p e s m args below meth c ls hc hr hn hl hw
  have hc : CX Γ p s m args meth c cX4_readSum RX4 4 := hc
  have hl : lv_has ls 4 [(0, .ref (ad 5)), (1, .int a1)] := hl
  have hx := hc.1
  have hb := hc.2.1
  unfold w_X4_readSum at h
  generalize hHH : s.heap = H0 at hw ⊢
  refine lv_aload_n hx hb dX4_readSum_0 rfl (lv_at hl 0 rfl) ?_
  refine lv_iload_n hx hb dX4_readSum_1 rfl (lv_at hl 1 rfl) ?_
  refine g_Vv (Y := YC) (ci := 4) (n := 1) (k := kk) (As := [.int a1]) (rest := []) rfl (by decide) vw_X4_77 ⟨by simp only [rmL]; omega, by simp only [rmL]; omega, Nat.zero_le _, Nat.zero_le _⟩ hc hw hl.1 (Nat.lt_of_lt_of_le (by decide) hM) rfl (hrec_readTerm _ a1 σ h) rfl rfl (Nat.le_of_ble_eq_true rfl) dX4_readSum_2 (fun σ1 H locs h hw => ?_)
  refine lv_iconst (v := 0) hx hb dX4_readSum_5 (by decide) ?_
  refine lv_istore_n (lv' := [(2, .int 0), (0, .ref (ad 5)), (1, .int a1)]) hx hb dX4_readSum_6 rfl hl (by decide) rfl (fun ls hl => ?_)
  obtain ⟨n, h⟩ := h
  exact bl_X4_readSum_7 hM hkk hrec_readTerm hc hr n a1 0 σ1 _ _ _ h  hw (lv_sub hl [1, 2, 0] rfl)
def w_X4_readTerm_7 (rec : Nat → (St → Prop) → Int32 → St → Prop) (M : Nat) (post : St → Prop) (k_7 : Int32 → Int32 → St → Prop) (v1 : Int32) (v2 : Int32) (σ : St) : Prop :=
  (160 ≤ v2 → (post σ)) ∧ (¬ (160 ≤ v2) → (w_X4_isNow M (fun r3 σ2 => ((r3 = 0 → (post σ2)) ∧ (¬ (r3 = 0) → (w_X4_stepOn M (fun σ5 => (rec 5 (fun σ6 => (w_X4_emit M (fun σ7 => (∀ x8 : Int32, x8 = v2 + 1 → (k_7 v1 x8 σ7))) (-27) σ6)) v1 σ5)) σ2)))) 42 σ))
set_option maxHeartbeats 4000000 in
set_option maxRecDepth 20000 in
theorem b_X4_readTerm_7 {Γ : Gm} {ad : Nat → Nat} {p : Program} {l : Launch} {e : Env} {s : State} {m : MethodId} {args : Array Value} {below : List Frame} {meth : Method} {c : Code} {kk : Nat} {rec : Nat → (St → Prop) → Int32 → St → Prop} {M : Nat} (hM : 53 ≤ M) (hkk : 40 ≤ kk) {post : St → Prop} {k_7 : Int32 → Int32 → St → Prop} (hrec_readOne : ∀ (post : St → Prop) (open_ : Int32) (σ : St), rec 5 post open_ σ → Cv l Γ YC M ad σ yX4_readOne cX4_readOne 2 none kk 0 0 [.ref (ad 5), .int open_] post) (hk_7 : ∀ (v1 : Int32) (v2 : Int32) (σ : St) (H : Heap) (locs : List Loc) (ls : Array Slot), k_7 v1 v2 σ → WH Γ YC M ad σ s H locs → lv_has ls 3 [(0, .ref (ad 5)), (1, .int v1), (2, .int v2)] → W p l e (rmL (kk + 1) 0 0) s m args below meth c H locs 0 0 (MQ below (va_Qv post (fun u t => WC Γ YC M ad u t) (AA Γ)) args s 0 0 (AA Γ)) (F0 m 7 ls []))
    (v1 : Int32) (v2 : Int32) (σ : St) (H : Heap) (locs : List Loc) (ls : Array Slot) (h : w_X4_readTerm_7 rec M post k_7 v1 v2 σ) (hc : CX Γ p s m args meth c cX4_readTerm RX4 3) (hr : meth.sig.returnType = none) (hw : WH Γ YC M ad σ s H locs) (hl : lv_has ls 3 [(0, .ref (ad 5)), (1, .int v1), (2, .int v2)]) :
    W p l e (rmL (kk + 1) 0 0) s m args below meth c H locs 0 0 (MQ below (va_Qv post (fun u t => WC Γ YC M ad u t) (AA Γ)) args s 0 0 (AA Γ)) (F0 m 7 ls []) := by
  have hx := hc.1
  have hb := hc.2.1
  unfold w_X4_readTerm_7 at h
  refine lv_iload_n hx hb dX4_readTerm_7 rfl (lv_at hl 2 rfl) ?_
  refine lv_sipush (v := 160) hx hb dX4_readTerm_8 (by decide) ?_
  refine lv_icmp_ge (tgt := 44) hx hb dX4_readTerm_11 (by decide) (fun c1 => ?_) (fun c1 => ?_)
  · replace h := h.1 c1
    exact g_vret hc hr hw h dX4_readTerm_44
  · replace h := h.2 c1
    refine lv_aload_n hx hb dX4_readTerm_14 rfl (lv_at hl 0 rfl) ?_
    refine lv_bipush (v := 42) hx hb dX4_readTerm_15 (by decide) ?_
    refine g_Vi (Y := YC) (ci := 4) (n := 1) (k := 0) (As := [.int 42]) (rest := []) rfl (by decide) vw_X4_58 ⟨by simp only [rmL]; omega, by simp only [rmL]; omega, Nat.zero_le _, Nat.zero_le _⟩ hc hw hl.1 (Nat.lt_of_lt_of_le (by decide) hM) rfl (m_X4_isNow l hM 42 σ h) rfl rfl (Nat.le_of_ble_eq_true rfl) dX4_readTerm_17 (fun r3 σ2 H locs h hw => ?_)
    refine lv_if_eq (tgt := 44) hx hb dX4_readTerm_20 (by decide) (fun c4 => ?_) (fun c4 => ?_)
    · replace h := h.1 c4
      exact g_vret hc hr hw h dX4_readTerm_44
    · replace h := h.2 c4
      refine lv_aload_n hx hb dX4_readTerm_23 rfl (lv_at hl 0 rfl) ?_
      refine g_Vv (Y := YC) (ci := 4) (n := 0) (k := 12) (As := []) (rest := []) rfl (by decide) vw_X4_34 ⟨by simp only [rmL]; omega, by simp only [rmL]; omega, Nat.zero_le _, Nat.zero_le _⟩ hc hw hl.1 (Nat.lt_of_lt_of_le (by decide) hM) rfl (m_X4_stepOn l hM σ2 h) rfl rfl (Nat.le_of_ble_eq_true rfl) dX4_readTerm_24 (fun σ5 H locs h hw => ?_)
      refine lv_aload_n hx hb dX4_readTerm_27 rfl (lv_at hl 0 rfl) ?_
      refine lv_iload_n hx hb dX4_readTerm_28 rfl (lv_at hl 1 rfl) ?_
      refine g_Vv (Y := YC) (ci := 4) (n := 1) (k := kk) (As := [.int v1]) (rest := []) rfl (by decide) vw_X4_80 ⟨by simp only [rmL]; omega, by simp only [rmL]; omega, Nat.zero_le _, Nat.zero_le _⟩ hc hw hl.1 (Nat.lt_of_lt_of_le (by decide) hM) rfl (hrec_readOne _ v1 σ5 h) rfl rfl (Nat.le_of_ble_eq_true rfl) dX4_readTerm_29 (fun σ6 H locs h hw => ?_)
      refine lv_aload_n hx hb dX4_readTerm_32 rfl (lv_at hl 0 rfl) ?_
      refine lv_bipush (v := (-27)) hx hb dX4_readTerm_33 (by decide) ?_
      refine g_Vv (Y := YC) (ci := 4) (n := 1) (k := 0) (As := [.int (-27)]) (rest := []) rfl (by decide) vw_X4_62 ⟨by simp only [rmL]; omega, by simp only [rmL]; omega, Nat.zero_le _, Nat.zero_le _⟩ hc hw hl.1 (Nat.lt_of_lt_of_le (by decide) hM) rfl (m_X4_emit l hM (-27) σ6 h) rfl rfl (Nat.le_of_ble_eq_true rfl) dX4_readTerm_35 (fun σ7 H locs h hw => ?_)
      obtain ⟨x8, ex8⟩ : ∃ z, z = v2 + 1 := ⟨_, rfl⟩
      replace h := h x8 ex8
      refine lv_iinc (v := x8) (lv' := [(2, .int x8), (0, .ref (ad 5)), (1, .int v1)]) hx hb dX4_readTerm_38 hl (k := 2) rfl (by rw [ex8]; rfl) (by decide) rfl (fun ls hl => ?_)
      refine lv_goto (tgt := 7) hx hb dX4_readTerm_41 (by decide) ?_
      exact hk_7 v1 x8 σ7 _ _ _ h  hw (lv_sub hl [1, 2, 0] rfl)
def wl_X4_readTerm_7 (rec : Nat → (St → Prop) → Int32 → St → Prop) (M : Nat) (post : St → Prop) : Nat → Int32 → Int32 → St → Prop
  | 0, _, _, _ => False
  | n + 1, v1, v2, σ => w_X4_readTerm_7 rec M post (wl_X4_readTerm_7 rec M post n) v1 v2 σ
set_option maxHeartbeats 4000000 in
theorem bl_X4_readTerm_7 {Γ : Gm} {ad : Nat → Nat} {p : Program} {l : Launch} {e : Env} {s : State} {m : MethodId} {args : Array Value} {below : List Frame} {meth : Method} {c : Code} {kk : Nat} {rec : Nat → (St → Prop) → Int32 → St → Prop} {M : Nat} (hM : 53 ≤ M) (hkk : 40 ≤ kk) {post : St → Prop} (hrec_readOne : ∀ (post : St → Prop) (open_ : Int32) (σ : St), rec 5 post open_ σ → Cv l Γ YC M ad σ yX4_readOne cX4_readOne 2 none kk 0 0 [.ref (ad 5), .int open_] post)
    (hc : CX Γ p s m args meth c cX4_readTerm RX4 3) (hr : meth.sig.returnType = none) :
    ∀ (n : Nat) (v1 : Int32) (v2 : Int32) (σ : St) (H : Heap) (locs : List Loc) (ls : Array Slot), wl_X4_readTerm_7 rec M post n v1 v2 σ → WH Γ YC M ad σ s H locs → lv_has ls 3 [(0, .ref (ad 5)), (1, .int v1), (2, .int v2)] → W p l e (rmL (kk + 1) 0 0) s m args below meth c H locs 0 0 (MQ below (va_Qv post (fun u t => WC Γ YC M ad u t) (AA Γ)) args s 0 0 (AA Γ)) (F0 m 7 ls []) := by
  intro n
  induction n with
  | zero => intro v1 v2 σ H locs ls h; exact h.elim
  | succ n ih =>
    intro v1 v2 σ H locs ls h  hw hl
    exact b_X4_readTerm_7 hM hkk hrec_readOne ih v1 v2 σ H locs ls h  hc hr hw hl
def w_X4_readTerm (rec : Nat → (St → Prop) → Int32 → St → Prop) (M : Nat) (post : St → Prop) (a1 : Int32) (σ : St) : Prop :=
  rec 5 (fun σ1 => (∃ n, wl_X4_readTerm_7 rec M post n a1 0 σ1)) a1 σ
set_option maxHeartbeats 4000000 in
set_option maxRecDepth 20000 in
theorem m_X4_readTerm {Γ : Gm} {ad : Nat → Nat} {kk : Nat} {rec : Nat → (St → Prop) → Int32 → St → Prop} {M : Nat} (l : Launch) (hM : 53 ≤ M) (hkk : 40 ≤ kk) {post : St → Prop} (hrec_readOne : ∀ (post : St → Prop) (open_ : Int32) (σ : St), rec 5 post open_ σ → Cv l Γ YC M ad σ yX4_readOne cX4_readOne 2 none kk 0 0 [.ref (ad 5), .int open_] post) (a1 : Int32) (σ : St) (h : w_X4_readTerm rec M post a1 σ) : Cv l Γ YC M ad σ yX4_readTerm cX4_readTerm 3 none (kk + 1) 0 0 [.ref (ad 5), .int a1] post := by
  refine g_start (by decide) (Nat.le_of_ble_eq_true rfl) ?_
  intro p e s m args below meth c ls hc hr hn hl hw
  have hc : CX Γ p s m args meth c cX4_readTerm RX4 3 := hc
  have hl : lv_has ls 3 [(0, .ref (ad 5)), (1, .int a1)] := hl
  have hx := hc.1
  have hb := hc.2.1
  unfold w_X4_readTerm at h
  generalize hHH : s.heap = H0 at hw ⊢
  refine lv_aload_n hx hb dX4_readTerm_0 rfl (lv_at hl 0 rfl) ?_
  refine lv_iload_n hx hb dX4_readTerm_1 rfl (lv_at hl 1 rfl) ?_
  refine g_Vv (Y := YC) (ci := 4) (n := 1) (k := kk) (As := [.int a1]) (rest := []) rfl (by decide) vw_X4_80 ⟨by simp only [rmL]; omega, by simp only [rmL]; omega, Nat.zero_le _, Nat.zero_le _⟩ hc hw hl.1 (Nat.lt_of_lt_of_le (by decide) hM) rfl (hrec_readOne _ a1 σ h) rfl rfl (Nat.le_of_ble_eq_true rfl) dX4_readTerm_2 (fun σ1 H locs h hw => ?_)
  refine lv_iconst (v := 0) hx hb dX4_readTerm_5 (by decide) ?_
  refine lv_istore_n (lv' := [(2, .int 0), (0, .ref (ad 5)), (1, .int a1)]) hx hb dX4_readTerm_6 rfl hl (by decide) rfl (fun ls hl => ?_)
  obtain ⟨n, h⟩ := h
  exact bl_X4_readTerm_7 hM hkk hrec_readOne hc hr n a1 0 σ1 _ _ _ h  hw (lv_sub hl [1, 2, 0] rfl)
def w_X4_readOne_72 (rec : Nat → (St → Prop) → Int32 → St → Prop) (M : Nat) (post : St → Prop) (v1 : Int32) (σ : St) : Prop :=
  w_X4_isNow M (fun r2 σ1 => ((r2 = 0 → (w_X4_isNow M (fun r5 σ4 => ((r5 = 0 → (w_X4_failHere M (fun σ7 => (post σ7)) σ4)) ∧ (¬ (r5 = 0) → (w_X4_mayOpen M (fun r9 σ8 => ((r9 = 0 → (post σ8)) ∧ (¬ (r9 = 0) → (w_X4_stepOn M (fun σ11 => (rec 0 (fun σ12 => (w_X4_demand M (fun σ13 => (post σ13)) 41 σ12)) (v1 + 1) σ11)) σ8)))) v1 σ4)))) 40 σ1)) ∧ (¬ (r2 = 0) → (w_X4_mayOpen M (fun r15 σ14 => ((r15 = 0 → (post σ14)) ∧ (¬ (r15 = 0) → (w_X4_stepOn M (fun σ17 => (rec 5 (fun σ18 => (w_X4_emit M (fun σ19 => (post σ19)) (-12) σ18)) (v1 + 1) σ17)) σ14)))) v1 σ1)))) 45 σ
set_option maxHeartbeats 4000000 in
set_option maxRecDepth 20000 in
theorem b_X4_readOne_72 {Γ : Gm} {ad : Nat → Nat} {p : Program} {l : Launch} {e : Env} {s : State} {m : MethodId} {args : Array Value} {below : List Frame} {meth : Method} {c : Code} {kk : Nat} {rec : Nat → (St → Prop) → Int32 → St → Prop} {M : Nat} (hM : 53 ≤ M) (hkk : 40 ≤ kk) {post : St → Prop} (hrec_readAny : ∀ (post : St → Prop) (open_ : Int32) (σ : St), rec 0 post open_ σ → Cv l Γ YC M ad σ yX4_readAny cX4_readAny 3 none kk 0 0 [.ref (ad 5), .int open_] post) (hrec_readOne : ∀ (post : St → Prop) (open_ : Int32) (σ : St), rec 5 post open_ σ → Cv l Γ YC M ad σ yX4_readOne cX4_readOne 2 none kk 0 0 [.ref (ad 5), .int open_] post)
    (v1 : Int32) (σ : St) (H : Heap) (locs : List Loc) (ls : Array Slot) (h : w_X4_readOne_72 rec M post v1 σ) (hc : CX Γ p s m args meth c cX4_readOne RX4 2) (hr : meth.sig.returnType = none) (hw : WH Γ YC M ad σ s H locs) (hl : lv_has ls 2 [(0, .ref (ad 5)), (1, .int v1)]) :
    W p l e (rmL (kk + 1) 0 0) s m args below meth c H locs 0 0 (MQ below (va_Qv post (fun u t => WC Γ YC M ad u t) (AA Γ)) args s 0 0 (AA Γ)) (F0 m 72 ls []) := by
  have hx := hc.1
  have hb := hc.2.1
  unfold w_X4_readOne_72 at h
  refine lv_aload_n hx hb dX4_readOne_72 rfl (lv_at hl 0 rfl) ?_
  refine lv_bipush (v := 45) hx hb dX4_readOne_73 (by decide) ?_
  refine g_Vi (Y := YC) (ci := 4) (n := 1) (k := 0) (As := [.int 45]) (rest := []) rfl (by decide) vw_X4_58 ⟨by simp only [rmL]; omega, by simp only [rmL]; omega, Nat.zero_le _, Nat.zero_le _⟩ hc hw hl.1 (Nat.lt_of_lt_of_le (by decide) hM) rfl (m_X4_isNow l hM 45 σ h) rfl rfl (Nat.le_of_ble_eq_true rfl) dX4_readOne_75 (fun r2 σ1 H locs h hw => ?_)
  refine lv_if_eq (tgt := 109) hx hb dX4_readOne_78 (by decide) (fun c3 => ?_) (fun c3 => ?_)
  · replace h := h.1 c3
    refine lv_aload_n hx hb dX4_readOne_109 rfl (lv_at hl 0 rfl) ?_
    refine lv_bipush (v := 40) hx hb dX4_readOne_110 (by decide) ?_
    refine g_Vi (Y := YC) (ci := 4) (n := 1) (k := 0) (As := [.int 40]) (rest := []) rfl (by decide) vw_X4_58 ⟨by simp only [rmL]; omega, by simp only [rmL]; omega, Nat.zero_le _, Nat.zero_le _⟩ hc hw hl.1 (Nat.lt_of_lt_of_le (by decide) hM) rfl (m_X4_isNow l hM 40 σ1 h) rfl rfl (Nat.le_of_ble_eq_true rfl) dX4_readOne_112 (fun r5 σ4 H locs h hw => ?_)
    refine lv_if_eq (tgt := 146) hx hb dX4_readOne_115 (by decide) (fun c6 => ?_) (fun c6 => ?_)
    · replace h := h.1 c6
      refine lv_aload_n hx hb dX4_readOne_146 rfl (lv_at hl 0 rfl) ?_
      refine g_Vv (Y := YC) (ci := 4) (n := 0) (k := 0) (As := []) (rest := []) rfl (by decide) vw_X4_86 ⟨by simp only [rmL]; omega, by simp only [rmL]; omega, Nat.zero_le _, Nat.zero_le _⟩ hc hw hl.1 (Nat.lt_of_lt_of_le (by decide) hM) rfl (m_X4_failHere l hM σ4 h) rfl rfl (Nat.le_of_ble_eq_true rfl) dX4_readOne_147 (fun σ7 H locs h hw => ?_)
      exact g_vret hc hr hw h dX4_readOne_150
    · replace h := h.2 c6
      refine lv_aload_n hx hb dX4_readOne_118 rfl (lv_at hl 0 rfl) ?_
      refine lv_iload_n hx hb dX4_readOne_119 rfl (lv_at hl 1 rfl) ?_
      refine g_Vi (Y := YC) (ci := 4) (n := 1) (k := 1) (As := [.int v1]) (rest := []) rfl (by decide) vw_X4_68 ⟨by simp only [rmL]; omega, by simp only [rmL]; omega, Nat.zero_le _, Nat.zero_le _⟩ hc hw hl.1 (Nat.lt_of_lt_of_le (by decide) hM) rfl (m_X4_mayOpen l hM v1 σ4 h) rfl rfl (Nat.le_of_ble_eq_true rfl) dX4_readOne_120 (fun r9 σ8 H locs h hw => ?_)
      refine lv_if_eq (tgt := 150) hx hb dX4_readOne_123 (by decide) (fun c10 => ?_) (fun c10 => ?_)
      · replace h := h.1 c10
        exact g_vret hc hr hw h dX4_readOne_150
      · replace h := h.2 c10
        refine lv_aload_n hx hb dX4_readOne_126 rfl (lv_at hl 0 rfl) ?_
        refine g_Vv (Y := YC) (ci := 4) (n := 0) (k := 12) (As := []) (rest := []) rfl (by decide) vw_X4_34 ⟨by simp only [rmL]; omega, by simp only [rmL]; omega, Nat.zero_le _, Nat.zero_le _⟩ hc hw hl.1 (Nat.lt_of_lt_of_le (by decide) hM) rfl (m_X4_stepOn l hM σ8 h) rfl rfl (Nat.le_of_ble_eq_true rfl) dX4_readOne_127 (fun σ11 H locs h hw => ?_)
        refine lv_aload_n hx hb dX4_readOne_130 rfl (lv_at hl 0 rfl) ?_
        refine lv_iload_n hx hb dX4_readOne_131 rfl (lv_at hl 1 rfl) ?_
        refine lv_iconst (v := 1) hx hb dX4_readOne_132 (by decide) ?_
        refine lv_iadd hx hb dX4_readOne_133 ?_
        refine g_Vv (Y := YC) (ci := 4) (n := 1) (k := kk) (As := [.int (v1 + 1)]) (rest := []) rfl (by decide) vw_X4_41 ⟨by simp only [rmL]; omega, by simp only [rmL]; omega, Nat.zero_le _, Nat.zero_le _⟩ hc hw hl.1 (Nat.lt_of_lt_of_le (by decide) hM) rfl (hrec_readAny _ (v1 + 1) σ11 h) rfl rfl (Nat.le_of_ble_eq_true rfl) dX4_readOne_134 (fun σ12 H locs h hw => ?_)
        refine lv_aload_n hx hb dX4_readOne_137 rfl (lv_at hl 0 rfl) ?_
        refine lv_bipush (v := 41) hx hb dX4_readOne_138 (by decide) ?_
        refine g_Vv (Y := YC) (ci := 4) (n := 1) (k := 13) (As := [.int 41]) (rest := []) rfl (by decide) vw_X4_37 ⟨by simp only [rmL]; omega, by simp only [rmL]; omega, Nat.zero_le _, Nat.zero_le _⟩ hc hw hl.1 (Nat.lt_of_lt_of_le (by decide) hM) rfl (m_X4_demand l hM 41 σ12 h) rfl rfl (Nat.le_of_ble_eq_true rfl) dX4_readOne_140 (fun σ13 H locs h hw => ?_)
        refine lv_goto (tgt := 150) hx hb dX4_readOne_143 (by decide) ?_
        exact g_vret hc hr hw h dX4_readOne_150
  · replace h := h.2 c3
    refine lv_aload_n hx hb dX4_readOne_81 rfl (lv_at hl 0 rfl) ?_
    refine lv_iload_n hx hb dX4_readOne_82 rfl (lv_at hl 1 rfl) ?_
    refine g_Vi (Y := YC) (ci := 4) (n := 1) (k := 1) (As := [.int v1]) (rest := []) rfl (by decide) vw_X4_68 ⟨by simp only [rmL]; omega, by simp only [rmL]; omega, Nat.zero_le _, Nat.zero_le _⟩ hc hw hl.1 (Nat.lt_of_lt_of_le (by decide) hM) rfl (m_X4_mayOpen l hM v1 σ1 h) rfl rfl (Nat.le_of_ble_eq_true rfl) dX4_readOne_83 (fun r15 σ14 H locs h hw => ?_)
    refine lv_if_eq (tgt := 150) hx hb dX4_readOne_86 (by decide) (fun c16 => ?_) (fun c16 => ?_)
    · replace h := h.1 c16
      exact g_vret hc hr hw h dX4_readOne_150
    · replace h := h.2 c16
      refine lv_aload_n hx hb dX4_readOne_89 rfl (lv_at hl 0 rfl) ?_
      refine g_Vv (Y := YC) (ci := 4) (n := 0) (k := 12) (As := []) (rest := []) rfl (by decide) vw_X4_34 ⟨by simp only [rmL]; omega, by simp only [rmL]; omega, Nat.zero_le _, Nat.zero_le _⟩ hc hw hl.1 (Nat.lt_of_lt_of_le (by decide) hM) rfl (m_X4_stepOn l hM σ14 h) rfl rfl (Nat.le_of_ble_eq_true rfl) dX4_readOne_90 (fun σ17 H locs h hw => ?_)
      refine lv_aload_n hx hb dX4_readOne_93 rfl (lv_at hl 0 rfl) ?_
      refine lv_iload_n hx hb dX4_readOne_94 rfl (lv_at hl 1 rfl) ?_
      refine lv_iconst (v := 1) hx hb dX4_readOne_95 (by decide) ?_
      refine lv_iadd hx hb dX4_readOne_96 ?_
      refine g_Vv (Y := YC) (ci := 4) (n := 1) (k := kk) (As := [.int (v1 + 1)]) (rest := []) rfl (by decide) vw_X4_80 ⟨by simp only [rmL]; omega, by simp only [rmL]; omega, Nat.zero_le _, Nat.zero_le _⟩ hc hw hl.1 (Nat.lt_of_lt_of_le (by decide) hM) rfl (hrec_readOne _ (v1 + 1) σ17 h) rfl rfl (Nat.le_of_ble_eq_true rfl) dX4_readOne_97 (fun σ18 H locs h hw => ?_)
      refine lv_aload_n hx hb dX4_readOne_100 rfl (lv_at hl 0 rfl) ?_
      refine lv_bipush (v := (-12)) hx hb dX4_readOne_101 (by decide) ?_
      refine g_Vv (Y := YC) (ci := 4) (n := 1) (k := 0) (As := [.int (-12)]) (rest := []) rfl (by decide) vw_X4_62 ⟨by simp only [rmL]; omega, by simp only [rmL]; omega, Nat.zero_le _, Nat.zero_le _⟩ hc hw hl.1 (Nat.lt_of_lt_of_le (by decide) hM) rfl (m_X4_emit l hM (-12) σ18 h) rfl rfl (Nat.le_of_ble_eq_true rfl) dX4_readOne_103 (fun σ19 H locs h hw => ?_)
      refine lv_goto (tgt := 150) hx hb dX4_readOne_106 (by decide) ?_
      exact g_vret hc hr hw h dX4_readOne_150
def w_X4_readOne (rec : Nat → (St → Prop) → Int32 → St → Prop) (M : Nat) (post : St → Prop) (a1 : Int32) (σ : St) : Prop :=
  w_X4_isNow M (fun r2 σ1 => ((r2 = 0 → (((gi σ1 5 6) = (-1) → (((gi σ1 5 3) < 1006 → (w_X4_readOne_72 rec M post a1 σ1)) ∧ (¬ ((gi σ1 5 3) < 1006) → ((1011 < (gi σ1 5 3) → (w_X4_readOne_72 rec M post a1 σ1)) ∧ (¬ (1011 < (gi σ1 5 3)) → (∀ x7 : Int32, x7 = (-1) - ((gi σ1 5 3) - 1006) → (w_X4_emit M (fun σ8 => (w_X4_stepOn M (fun σ9 => (post σ9)) σ8)) x7 σ1))))))) ∧ (¬ ((gi σ1 5 6) = (-1)) → (w_X4_readOne_72 rec M post a1 σ1)))) ∧ (¬ (r2 = 0) → (w_X4_emit M (fun σ10 => (w_X4_stepOn M (fun σ11 => (post σ11)) σ10)) (gi σ1 5 5) σ1)))) 2 σ
set_option maxHeartbeats 4000000 in
set_option maxRecDepth 20000 in
theorem m_X4_readOne {Γ : Gm} {ad : Nat → Nat} {kk : Nat} {rec : Nat → (St → Prop) → Int32 → St → Prop} {M : Nat} (l : Launch) (hM : 53 ≤ M) (hkk : 40 ≤ kk) {post : St → Prop} (hrec_readAny : ∀ (post : St → Prop) (open_ : Int32) (σ : St), rec 0 post open_ σ → Cv l Γ YC M ad σ yX4_readAny cX4_readAny 3 none kk 0 0 [.ref (ad 5), .int open_] post) (hrec_readOne : ∀ (post : St → Prop) (open_ : Int32) (σ : St), rec 5 post open_ σ → Cv l Γ YC M ad σ yX4_readOne cX4_readOne 2 none kk 0 0 [.ref (ad 5), .int open_] post) (a1 : Int32) (σ : St) (h : w_X4_readOne rec M post a1 σ) : Cv l Γ YC M ad σ yX4_readOne cX4_readOne 2 none (kk + 1) 0 0 [.ref (ad 5), .int a1] post := by
  refine g_start (by decide) (Nat.le_of_ble_eq_true rfl) ?_
  intro p e s m args below meth c ls hc hr hn hl hw
  have hc : CX Γ p s m args meth c cX4_readOne RX4 2 := hc
  have hl : lv_has ls 2 [(0, .ref (ad 5)), (1, .int a1)] := hl
  have hx := hc.1
  have hb := hc.2.1
  unfold w_X4_readOne at h
  generalize hHH : s.heap = H0 at hw ⊢
  refine lv_aload_n hx hb dX4_readOne_0 rfl (lv_at hl 0 rfl) ?_
  refine lv_iconst (v := 2) hx hb dX4_readOne_1 (by decide) ?_
  refine g_Vi (Y := YC) (ci := 4) (n := 1) (k := 0) (As := [.int 2]) (rest := []) rfl (by decide) vw_X4_58 ⟨by simp only [rmL]; omega, by simp only [rmL]; omega, Nat.zero_le _, Nat.zero_le _⟩ hc hw hl.1 (Nat.lt_of_lt_of_le (by decide) hM) rfl (m_X4_isNow l hM 2 σ h) rfl rfl (Nat.le_of_ble_eq_true rfl) dX4_readOne_2 (fun r2 σ1 H locs h hw => ?_)
  refine lv_if_eq (tgt := 23) hx hb dX4_readOne_5 (by decide) (fun c3 => ?_) (fun c3 => ?_)
  · replace h := h.1 c3
    refine lv_aload_n hx hb dX4_readOne_23 rfl (lv_at hl 0 rfl) ?_
    refine fg_X4_25 hc hw (Nat.lt_of_lt_of_le (by decide) hM) rfl dX4_readOne_24 ?_
    refine lv_iconst (v := (-1)) hx hb dX4_readOne_27 (by decide) ?_
    refine lv_icmp_ne (tgt := 72) hx hb dX4_readOne_28 (by decide) (fun c4 => ?_) (fun c4 => ?_)
    · replace h := h.2 c4
      exact b_X4_readOne_72 hM hkk hrec_readAny hrec_readOne a1 σ1 _ _ _ h  hc hr hw (lv_sub hl [0, 1] rfl)
    · replace h := h.1 c4
      refine lv_aload_n hx hb dX4_readOne_31 rfl (lv_at hl 0 rfl) ?_
      refine fg_X4_74 hc hw (Nat.lt_of_lt_of_le (by decide) hM) rfl dX4_readOne_32 ?_
      refine lv_sipush (v := 1006) hx hb dX4_readOne_35 (by decide) ?_
      refine lv_icmp_lt (tgt := 72) hx hb dX4_readOne_38 (by decide) (fun c5 => ?_) (fun c5 => ?_)
      · replace h := h.1 c5
        exact b_X4_readOne_72 hM hkk hrec_readAny hrec_readOne a1 σ1 _ _ _ h  hc hr hw (lv_sub hl [0, 1] rfl)
      · replace h := h.2 c5
        refine lv_aload_n hx hb dX4_readOne_41 rfl (lv_at hl 0 rfl) ?_
        refine fg_X4_74 hc hw (Nat.lt_of_lt_of_le (by decide) hM) rfl dX4_readOne_42 ?_
        refine lv_sipush (v := 1011) hx hb dX4_readOne_45 (by decide) ?_
        refine lv_icmp_gt (tgt := 72) hx hb dX4_readOne_48 (by decide) (fun c6 => ?_) (fun c6 => ?_)
        · replace h := h.1 c6
          exact b_X4_readOne_72 hM hkk hrec_readAny hrec_readOne a1 σ1 _ _ _ h  hc hr hw (lv_sub hl [0, 1] rfl)
        · replace h := h.2 c6
          refine lv_aload_n hx hb dX4_readOne_51 rfl (lv_at hl 0 rfl) ?_
          refine lv_iconst (v := (-1)) hx hb dX4_readOne_52 (by decide) ?_
          refine lv_aload_n hx hb dX4_readOne_53 rfl (lv_at hl 0 rfl) ?_
          refine fg_X4_74 hc hw (Nat.lt_of_lt_of_le (by decide) hM) rfl dX4_readOne_54 ?_
          refine lv_sipush (v := 1006) hx hb dX4_readOne_57 (by decide) ?_
          refine lv_isub hx hb dX4_readOne_60 ?_
          refine lv_isub hx hb dX4_readOne_61 ?_
          refine lv_topi (fun x7 ex7 => ?_)
          replace h := h x7 ex7
          refine g_Vv (Y := YC) (ci := 4) (n := 1) (k := 0) (As := [.int x7]) (rest := []) rfl (by decide) vw_X4_62 ⟨by simp only [rmL]; omega, by simp only [rmL]; omega, Nat.zero_le _, Nat.zero_le _⟩ hc hw hl.1 (Nat.lt_of_lt_of_le (by decide) hM) rfl (m_X4_emit l hM x7 σ1 h) rfl rfl (Nat.le_of_ble_eq_true rfl) dX4_readOne_62 (fun σ8 H locs h hw => ?_)
          refine lv_aload_n hx hb dX4_readOne_65 rfl (lv_at hl 0 rfl) ?_
          refine g_Vv (Y := YC) (ci := 4) (n := 0) (k := 12) (As := []) (rest := []) rfl (by decide) vw_X4_34 ⟨by simp only [rmL]; omega, by simp only [rmL]; omega, Nat.zero_le _, Nat.zero_le _⟩ hc hw hl.1 (Nat.lt_of_lt_of_le (by decide) hM) rfl (m_X4_stepOn l hM σ8 h) rfl rfl (Nat.le_of_ble_eq_true rfl) dX4_readOne_66 (fun σ9 H locs h hw => ?_)
          refine lv_goto (tgt := 150) hx hb dX4_readOne_69 (by decide) ?_
          exact g_vret hc hr hw h dX4_readOne_150
  · replace h := h.2 c3
    refine lv_aload_n hx hb dX4_readOne_8 rfl (lv_at hl 0 rfl) ?_
    refine lv_aload_n hx hb dX4_readOne_9 rfl (lv_at hl 0 rfl) ?_
    refine fg_X4_83 hc hw (Nat.lt_of_lt_of_le (by decide) hM) rfl dX4_readOne_10 ?_
    refine g_Vv (Y := YC) (ci := 4) (n := 1) (k := 0) (As := [.int (gi σ1 5 5)]) (rest := []) rfl (by decide) vw_X4_62 ⟨by simp only [rmL]; omega, by simp only [rmL]; omega, Nat.zero_le _, Nat.zero_le _⟩ hc hw hl.1 (Nat.lt_of_lt_of_le (by decide) hM) rfl (m_X4_emit l hM (gi σ1 5 5) σ1 h) rfl rfl (Nat.le_of_ble_eq_true rfl) dX4_readOne_13 (fun σ10 H locs h hw => ?_)
    refine lv_aload_n hx hb dX4_readOne_16 rfl (lv_at hl 0 rfl) ?_
    refine g_Vv (Y := YC) (ci := 4) (n := 0) (k := 12) (As := []) (rest := []) rfl (by decide) vw_X4_34 ⟨by simp only [rmL]; omega, by simp only [rmL]; omega, Nat.zero_le _, Nat.zero_le _⟩ hc hw hl.1 (Nat.lt_of_lt_of_le (by decide) hM) rfl (m_X4_stepOn l hM σ10 h) rfl rfl (Nat.le_of_ble_eq_true rfl) dX4_readOne_17 (fun σ11 H locs h hw => ?_)
    refine lv_goto (tgt := 150) hx hb dX4_readOne_20 (by decide) ?_
    exact g_vret hc hr hw h dX4_readOne_150
def wr_X4 (M : Nat) : Nat → Nat → (St → Prop) → Int32 → St → Prop
  | 0, _, _, _, _ => False
  | n + 1, i, post, o, σ => if i = 0 then w_X4_readAny (wr_X4 M n) M post o σ else if i = 1 then w_X4_readAll (wr_X4 M n) M post o σ else if i = 2 then w_X4_readNot (wr_X4 M n) M post o σ else if i = 3 then w_X4_readSum (wr_X4 M n) M post o σ else if i = 4 then w_X4_readTerm (wr_X4 M n) M post o σ else w_X4_readOne (wr_X4 M n) M post o σ
set_option maxHeartbeats 4000000 in
theorem mr_X4 {Γ : Gm} {ad : Nat → Nat} {M : Nat} (l : Launch) (hM : 53 ≤ M) : ∀ n : Nat, (∀ (post : St → Prop) (o : Int32) (σ : St), wr_X4 M n 0 post o σ → Cv l Γ YC M ad σ yX4_readAny cX4_readAny 3 none (40 + n) 0 0 [.ref (ad 5), .int o] post) ∧ (∀ (post : St → Prop) (o : Int32) (σ : St), wr_X4 M n 1 post o σ → Cv l Γ YC M ad σ yX4_readAll cX4_readAll 3 none (40 + n) 0 0 [.ref (ad 5), .int o] post) ∧ (∀ (post : St → Prop) (o : Int32) (σ : St), wr_X4 M n 2 post o σ → Cv l Γ YC M ad σ yX4_readNot cX4_readNot 3 none (40 + n) 0 0 [.ref (ad 5), .int o] post) ∧ (∀ (post : St → Prop) (o : Int32) (σ : St), wr_X4 M n 3 post o σ → Cv l Γ YC M ad σ yX4_readSum cX4_readSum 4 none (40 + n) 0 0 [.ref (ad 5), .int o] post) ∧ (∀ (post : St → Prop) (o : Int32) (σ : St), wr_X4 M n 4 post o σ → Cv l Γ YC M ad σ yX4_readTerm cX4_readTerm 3 none (40 + n) 0 0 [.ref (ad 5), .int o] post) ∧ (∀ (post : St → Prop) (o : Int32) (σ : St), wr_X4 M n 5 post o σ → Cv l Γ YC M ad σ yX4_readOne cX4_readOne 2 none (40 + n) 0 0 [.ref (ad 5), .int o] post) := by
  intro n
  induction n with
  | zero => exact ⟨fun _ _ _ h => h.elim, fun _ _ _ h => h.elim, fun _ _ _ h => h.elim, fun _ _ _ h => h.elim, fun _ _ _ h => h.elim, fun _ _ _ h => h.elim⟩
  | succ n ih =>
    obtain ⟨i0, i1, i2, i3, i4, i5⟩ := ih
    refine ⟨?_, ?_, ?_, ?_, ?_, ?_⟩
    · intro post o σ h
      exact m_X4_readAny (kk := 40 + n) l hM (by omega) i1 o σ h
    · intro post o σ h
      exact m_X4_readAll (kk := 40 + n) l hM (by omega) i2 o σ h
    · intro post o σ h
      exact m_X4_readNot (kk := 40 + n) l hM (by omega) i2 i3 o σ h
    · intro post o σ h
      exact m_X4_readSum (kk := 40 + n) l hM (by omega) i4 o σ h
    · intro post o σ h
      exact m_X4_readTerm (kk := 40 + n) l hM (by omega) i5 o σ h
    · intro post o σ h
      exact m_X4_readOne (kk := 40 + n) l hM (by omega) i0 i5 o σ h
theorem mr_X4_readAny {Γ : Gm} {ad : Nat → Nat} {M : Nat} (l : Launch) (hM : 53 ≤ M) (n : Nat) {post : St → Prop} (o : Int32) (σ : St) (h : wr_X4 M n 0 post o σ) : Cv l Γ YC M ad σ yX4_readAny cX4_readAny 3 none (40 + n) 0 0 [.ref (ad 5), .int o] post := (mr_X4 l hM n).1 _ o σ h
theorem mr_X4_readAll {Γ : Gm} {ad : Nat → Nat} {M : Nat} (l : Launch) (hM : 53 ≤ M) (n : Nat) {post : St → Prop} (o : Int32) (σ : St) (h : wr_X4 M n 1 post o σ) : Cv l Γ YC M ad σ yX4_readAll cX4_readAll 3 none (40 + n) 0 0 [.ref (ad 5), .int o] post := (mr_X4 l hM n).2.1 _ o σ h
theorem mr_X4_readNot {Γ : Gm} {ad : Nat → Nat} {M : Nat} (l : Launch) (hM : 53 ≤ M) (n : Nat) {post : St → Prop} (o : Int32) (σ : St) (h : wr_X4 M n 2 post o σ) : Cv l Γ YC M ad σ yX4_readNot cX4_readNot 3 none (40 + n) 0 0 [.ref (ad 5), .int o] post := (mr_X4 l hM n).2.2.1 _ o σ h
theorem mr_X4_readSum {Γ : Gm} {ad : Nat → Nat} {M : Nat} (l : Launch) (hM : 53 ≤ M) (n : Nat) {post : St → Prop} (o : Int32) (σ : St) (h : wr_X4 M n 3 post o σ) : Cv l Γ YC M ad σ yX4_readSum cX4_readSum 4 none (40 + n) 0 0 [.ref (ad 5), .int o] post := (mr_X4 l hM n).2.2.2.1 _ o σ h
theorem mr_X4_readTerm {Γ : Gm} {ad : Nat → Nat} {M : Nat} (l : Launch) (hM : 53 ≤ M) (n : Nat) {post : St → Prop} (o : Int32) (σ : St) (h : wr_X4 M n 4 post o σ) : Cv l Γ YC M ad σ yX4_readTerm cX4_readTerm 3 none (40 + n) 0 0 [.ref (ad 5), .int o] post := (mr_X4 l hM n).2.2.2.2.1 _ o σ h
theorem mr_X4_readOne {Γ : Gm} {ad : Nat → Nat} {M : Nat} (l : Launch) (hM : 53 ≤ M) (n : Nat) {post : St → Prop} (o : Int32) (σ : St) (h : wr_X4 M n 5 post o σ) : Cv l Γ YC M ad σ yX4_readOne cX4_readOne 2 none (40 + n) 0 0 [.ref (ad 5), .int o] post := (mr_X4 l hM n).2.2.2.2.2 _ o σ h

