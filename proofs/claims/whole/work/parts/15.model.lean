def w_X7_in (M : Nat) (post : Int32 → St → Prop) (a1 : Int64) (a2 : Int64) (a3 : Int64) (σ : St) : Prop :=
  ((lg_cmp a1 a2) < 0 → (post 0 σ)) ∧ (¬ ((lg_cmp a1 a2) < 0) → ((0 < (lg_cmp a1 a3) → (post 0 σ)) ∧ (¬ (0 < (lg_cmp a1 a3)) → (post 1 σ))))
set_option maxHeartbeats 4000000 in
set_option maxRecDepth 20000 in
theorem m_X7_in {Γ : Gm} {ad : Nat → Nat} {M : Nat} (l : Launch) (hM : 20 ≤ M) {post : Int32 → St → Prop} (a1 : Int64) (a2 : Int64) (a3 : Int64) (σ : St) (h : w_X7_in M post a1 a2 a3 σ) : Ci l Γ YM M ad σ yX7_in cX7_in 6 (Option.some Jvm.ClassFile.FieldType.boolean) 0 0 0 [.long a1, .long a2, .long a3] post := by
  refine g_start (by decide) (Nat.le_of_ble_eq_true rfl) ?_
  intro p e s m args below meth c ls hc hr hn hl hw
  have hc : CX Γ p s m args meth c cX7_in RX7 6 := hc
  have hl : lv_has ls 6 [(0, .long a1), (2, .long a2), (4, .long a3)] := hl
  have hx := hc.1
  have hb := hc.2.1
  unfold w_X7_in at h
  generalize hHH : s.heap = H0 at hw ⊢
  refine lv_lload_n hx hb dX7_in_0 rfl (lv_at hl 0 rfl) ?_
  refine lv_lload_n hx hb dX7_in_1 rfl (lv_at hl 1 rfl) ?_
  refine W.lcmp hx hb dX7_in_2 ?_
  refine lv_if_lt (tgt := 17) hx hb dX7_in_3 (by decide) (fun c1 => ?_) (fun c1 => ?_)
  · replace h := h.1 c1
    refine lv_iconst (v := 0) hx hb dX7_in_17 (by decide) ?_
    exact g_zret hc hr hw rfl h dX7_in_18
  · replace h := h.2 c1
    refine lv_lload_n hx hb dX7_in_6 rfl (lv_at hl 0 rfl) ?_
    refine lv_lload hx hb dX7_in_7 (lv_at hl 2 rfl) ?_
    refine W.lcmp hx hb dX7_in_9 ?_
    refine lv_if_gt (tgt := 17) hx hb dX7_in_10 (by decide) (fun c2 => ?_) (fun c2 => ?_)
    · replace h := h.1 c2
      refine lv_iconst (v := 0) hx hb dX7_in_17 (by decide) ?_
      exact g_zret hc hr hw rfl h dX7_in_18
    · replace h := h.2 c2
      refine lv_iconst (v := 1) hx hb dX7_in_13 (by decide) ?_
      refine lv_goto (tgt := 18) hx hb dX7_in_14 (by decide) ?_
      exact g_zret hc hr hw rfl h dX7_in_18
def w_X7_held (M : Nat) (post : Int32 → St → Prop) (a1 : Int32) (a2 : Int32) (σ : St) : Prop :=
  (0 ≤ a1 → ((a1 ≤ a2 → (post a1 σ)) ∧ (¬ (a1 ≤ a2) → (post a2 σ)))) ∧ (¬ (0 ≤ a1) → (post 0 σ))
set_option maxHeartbeats 4000000 in
set_option maxRecDepth 20000 in
theorem m_X7_held {Γ : Gm} {ad : Nat → Nat} {M : Nat} (l : Launch) (hM : 20 ≤ M) {post : Int32 → St → Prop} (a1 : Int32) (a2 : Int32) (σ : St) (h : w_X7_held M post a1 a2 σ) : Ci l Γ YM M ad σ yX7_held cX7_held 2 (Option.some Jvm.ClassFile.FieldType.int) 0 0 0 [.int a1, .int a2] post := by
  refine g_start (by decide) (Nat.le_of_ble_eq_true rfl) ?_
  intro p e s m args below meth c ls hc hr hn hl hw
  have hc : CX Γ p s m args meth c cX7_held RX7 2 := hc
  have hl : lv_has ls 2 [(0, .int a1), (1, .int a2)] := hl
  have hx := hc.1
  have hb := hc.2.1
  unfold w_X7_held at h
  generalize hHH : s.heap = H0 at hw ⊢
  refine lv_iload_n hx hb dX7_held_0 rfl (lv_at hl 0 rfl) ?_
  refine lv_if_ge (tgt := 8) hx hb dX7_held_1 (by decide) (fun c1 => ?_) (fun c1 => ?_)
  · replace h := h.1 c1
    refine lv_iload_n hx hb dX7_held_8 rfl (lv_at hl 0 rfl) ?_
    refine lv_iload_n hx hb dX7_held_9 rfl (lv_at hl 1 rfl) ?_
    refine lv_icmp_le (tgt := 17) hx hb dX7_held_10 (by decide) (fun c2 => ?_) (fun c2 => ?_)
    · replace h := h.1 c2
      refine lv_iload_n hx hb dX7_held_17 rfl (lv_at hl 0 rfl) ?_
      exact g_iret hc hr hw h dX7_held_18
    · replace h := h.2 c2
      refine lv_iload_n hx hb dX7_held_13 rfl (lv_at hl 1 rfl) ?_
      refine lv_goto (tgt := 18) hx hb dX7_held_14 (by decide) ?_
      exact g_iret hc hr hw h dX7_held_18
  · replace h := h.2 c1
    refine lv_iconst (v := 0) hx hb dX7_held_4 (by decide) ?_
    refine lv_goto (tgt := 18) hx hb dX7_held_5 (by decide) ?_
    exact g_iret hc hr hw h dX7_held_18
def w_X7_count (M : Nat) (post : Int32 → St → Prop) (a1 : Int32) (σ : St) : Prop :=
  (a1 = 0 → ((vp_in a1 3) ∧ (post (gi σ 2 a1.toNatClampNeg) σ))) ∧ (¬ (a1 = 0) → ((a1 = 1 → ((vp_in a1 3) ∧ (post (gi σ 2 a1.toNatClampNeg) σ))) ∧ (¬ (a1 = 1) → ((a1 = 2 → ((vp_in a1 3) ∧ (post (gi σ 2 a1.toNatClampNeg) σ))) ∧ (¬ (a1 = 2) → ((a1 = 3 → (post (gi σ 0 0) σ)) ∧ (¬ (a1 = 3) → ((a1 = 4 → (post (gi σ 0 21) σ)) ∧ (¬ (a1 = 4) → ((a1 = 5 → (post (gi σ 0 5) σ)) ∧ (¬ (a1 = 5) → ((a1 = 6 → (post (gi σ 0 6) σ)) ∧ (¬ (a1 = 6) → ((a1 = 7 → (post (gi σ 0 4) σ)) ∧ (¬ (a1 = 7) → (post (-2) σ))))))))))))))))
set_option maxHeartbeats 4000000 in
set_option maxRecDepth 20000 in
theorem m_X7_count {Γ : Gm} {ad : Nat → Nat} {M : Nat} (l : Launch) (hM : 20 ≤ M) {post : Int32 → St → Prop} (a1 : Int32) (σ : St) (h : w_X7_count M post a1 σ) : Ci l Γ YM M ad σ yX7_count cX7_count 2 (Option.some Jvm.ClassFile.FieldType.int) 0 0 0 [.ref (ad 0), .int a1] post := by
  refine g_start (by decide) (Nat.le_of_ble_eq_true rfl) ?_
  intro p e s m args below meth c ls hc hr hn hl hw
  have hc : CX Γ p s m args meth c cX7_count RX7 2 := hc
  have hl : lv_has ls 2 [(0, .ref (ad 0)), (1, .int a1)] := hl
  have hx := hc.1
  have hb := hc.2.1
  unfold w_X7_count at h
  generalize hHH : s.heap = H0 at hw ⊢
  refine lv_iload_n hx hb dX7_count_0 rfl (lv_at hl 1 rfl) ?_
  by_cases c1 : a1 = 0
  · replace h := h.1 c1
    refine lv_tableIn (off := 47) (tgt := 48) hx hb dX7_count_1 (by rw [c1]; decide) (by rw [c1]; decide) (by rw [c1]; rfl) (by decide) ?_
    refine lv_aload_n hx hb dX7_count_48 rfl (lv_at hl 0 rfl) ?_
    refine fg_X7_13 hc hw (Nat.lt_of_lt_of_le (by decide) hM) rfl dX7_count_49 ?_
    refine lv_iload_n hx hb dX7_count_52 rfl (lv_at hl 1 rfl) ?_
    refine g_ialdK (Y := YM) (kd := 22) (n := 3) (k := a1.toNatClampNeg) (o := 2) (by decide) (by decide) rfl hc hw (Nat.lt_of_lt_of_le (by decide) hM) rfl rfl h.1 rfl dX7_count_53 ?_
    replace h := h.2
    exact g_iret hc hr hw h dX7_count_54
  replace h := h.2 c1
  by_cases c2 : a1 = 1
  · replace h := h.1 c2
    refine lv_tableIn (off := 47) (tgt := 48) hx hb dX7_count_1 (by rw [c2]; decide) (by rw [c2]; decide) (by rw [c2]; rfl) (by decide) ?_
    refine lv_aload_n hx hb dX7_count_48 rfl (lv_at hl 0 rfl) ?_
    refine fg_X7_13 hc hw (Nat.lt_of_lt_of_le (by decide) hM) rfl dX7_count_49 ?_
    refine lv_iload_n hx hb dX7_count_52 rfl (lv_at hl 1 rfl) ?_
    refine g_ialdK (Y := YM) (kd := 22) (n := 3) (k := a1.toNatClampNeg) (o := 2) (by decide) (by decide) rfl hc hw (Nat.lt_of_lt_of_le (by decide) hM) rfl rfl h.1 rfl dX7_count_53 ?_
    replace h := h.2
    exact g_iret hc hr hw h dX7_count_54
  replace h := h.2 c2
  by_cases c3 : a1 = 2
  · replace h := h.1 c3
    refine lv_tableIn (off := 47) (tgt := 48) hx hb dX7_count_1 (by rw [c3]; decide) (by rw [c3]; decide) (by rw [c3]; rfl) (by decide) ?_
    refine lv_aload_n hx hb dX7_count_48 rfl (lv_at hl 0 rfl) ?_
    refine fg_X7_13 hc hw (Nat.lt_of_lt_of_le (by decide) hM) rfl dX7_count_49 ?_
    refine lv_iload_n hx hb dX7_count_52 rfl (lv_at hl 1 rfl) ?_
    refine g_ialdK (Y := YM) (kd := 22) (n := 3) (k := a1.toNatClampNeg) (o := 2) (by decide) (by decide) rfl hc hw (Nat.lt_of_lt_of_le (by decide) hM) rfl rfl h.1 rfl dX7_count_53 ?_
    replace h := h.2
    exact g_iret hc hr hw h dX7_count_54
  replace h := h.2 c3
  by_cases c4 : a1 = 3
  · replace h := h.1 c4
    refine lv_tableIn (off := 54) (tgt := 55) hx hb dX7_count_1 (by rw [c4]; decide) (by rw [c4]; decide) (by rw [c4]; rfl) (by decide) ?_
    refine lv_aload_n hx hb dX7_count_55 rfl (lv_at hl 0 rfl) ?_
    refine fg_X7_72 hc hw (Nat.lt_of_lt_of_le (by decide) hM) rfl dX7_count_56 ?_
    exact g_iret hc hr hw h dX7_count_59
  replace h := h.2 c4
  by_cases c5 : a1 = 4
  · replace h := h.1 c5
    refine lv_tableIn (off := 59) (tgt := 60) hx hb dX7_count_1 (by rw [c5]; decide) (by rw [c5]; decide) (by rw [c5]; rfl) (by decide) ?_
    refine lv_aload_n hx hb dX7_count_60 rfl (lv_at hl 0 rfl) ?_
    refine fg_X7_95 hc hw (Nat.lt_of_lt_of_le (by decide) hM) rfl dX7_count_61 ?_
    exact g_iret hc hr hw h dX7_count_64
  replace h := h.2 c5
  by_cases c6 : a1 = 5
  · replace h := h.1 c6
    refine lv_tableIn (off := 64) (tgt := 65) hx hb dX7_count_1 (by rw [c6]; decide) (by rw [c6]; decide) (by rw [c6]; rfl) (by decide) ?_
    refine lv_aload_n hx hb dX7_count_65 rfl (lv_at hl 0 rfl) ?_
    refine fg_X7_68 hc hw (Nat.lt_of_lt_of_le (by decide) hM) rfl dX7_count_66 ?_
    exact g_iret hc hr hw h dX7_count_69
  replace h := h.2 c6
  by_cases c7 : a1 = 6
  · replace h := h.1 c7
    refine lv_tableIn (off := 69) (tgt := 70) hx hb dX7_count_1 (by rw [c7]; decide) (by rw [c7]; decide) (by rw [c7]; rfl) (by decide) ?_
    refine lv_aload_n hx hb dX7_count_70 rfl (lv_at hl 0 rfl) ?_
    refine fg_X7_98 hc hw (Nat.lt_of_lt_of_le (by decide) hM) rfl dX7_count_71 ?_
    exact g_iret hc hr hw h dX7_count_74
  replace h := h.2 c7
  by_cases c8 : a1 = 7
  · replace h := h.1 c8
    refine lv_tableIn (off := 74) (tgt := 75) hx hb dX7_count_1 (by rw [c8]; decide) (by rw [c8]; decide) (by rw [c8]; rfl) (by decide) ?_
    refine lv_aload_n hx hb dX7_count_75 rfl (lv_at hl 0 rfl) ?_
    refine fg_X7_101 hc hw (Nat.lt_of_lt_of_le (by decide) hM) rfl dX7_count_76 ?_
    exact g_iret hc hr hw h dX7_count_79
  replace h := h.2 c8
  refine lv_tableOut (tgt := 80) hx hb dX7_count_1 (by have zc1 := lv_neT (a := 0) c1 (by decide); have zc2 := lv_neT (a := 1) c2 (by decide); have zc3 := lv_neT (a := 2) c3 (by decide); have zc4 := lv_neT (a := 3) c4 (by decide); have zc5 := lv_neT (a := 4) c5 (by decide); have zc6 := lv_neT (a := 5) c6 (by decide); have zc7 := lv_neT (a := 6) c7 (by decide); have zc8 := lv_neT (a := 7) c8 (by decide); omega) (by decide) ?_
  refine lv_bipush (v := (-2)) hx hb dX7_count_80 (by decide) ?_
  exact g_iret hc hr hw h dX7_count_82
def w_X7_byteAt (M : Nat) (post : Int32 → St → Prop) (a1 : Int32) (σ : St) : Prop :=
  ((gi σ 0 4) ≤ a1 → (post (-1) σ)) ∧ (¬ ((gi σ 0 4) ≤ a1) → ((vp_in a1 160) ∧ (post (gi σ 3 a1.toNatClampNeg) σ)))
set_option maxHeartbeats 4000000 in
set_option maxRecDepth 20000 in
theorem m_X7_byteAt {Γ : Gm} {ad : Nat → Nat} {M : Nat} (l : Launch) (hM : 20 ≤ M) {post : Int32 → St → Prop} (a1 : Int32) (σ : St) (h : w_X7_byteAt M post a1 σ) : Ci l Γ YM M ad σ yX7_byteAt cX7_byteAt 2 (Option.some Jvm.ClassFile.FieldType.int) 0 0 0 [.ref (ad 0), .int a1] post := by
  refine g_start (by decide) (Nat.le_of_ble_eq_true rfl) ?_
  intro p e s m args below meth c ls hc hr hn hl hw
  have hc : CX Γ p s m args meth c cX7_byteAt RX7 2 := hc
  have hl : lv_has ls 2 [(0, .ref (ad 0)), (1, .int a1)] := hl
  have hx := hc.1
  have hb := hc.2.1
  unfold w_X7_byteAt at h
  generalize hHH : s.heap = H0 at hw ⊢
  refine lv_iload_n hx hb dX7_byteAt_0 rfl (lv_at hl 1 rfl) ?_
  refine lv_aload_n hx hb dX7_byteAt_1 rfl (lv_at hl 0 rfl) ?_
  refine fg_X7_101 hc hw (Nat.lt_of_lt_of_le (by decide) hM) rfl dX7_byteAt_2 ?_
  refine lv_icmp_ge (tgt := 17) hx hb dX7_byteAt_5 (by decide) (fun c1 => ?_) (fun c1 => ?_)
  · replace h := h.1 c1
    refine lv_iconst (v := (-1)) hx hb dX7_byteAt_17 (by decide) ?_
    exact g_iret hc hr hw h dX7_byteAt_18
  · replace h := h.2 c1
    refine lv_aload_n hx hb dX7_byteAt_8 rfl (lv_at hl 0 rfl) ?_
    refine fg_X7_16 hc hw (Nat.lt_of_lt_of_le (by decide) hM) rfl dX7_byteAt_9 ?_
    refine lv_iload_n hx hb dX7_byteAt_12 rfl (lv_at hl 1 rfl) ?_
    refine g_ialdK (Y := YM) (kd := 23) (n := 160) (k := a1.toNatClampNeg) (o := 3) (by decide) (by decide) rfl hc hw (Nat.lt_of_lt_of_le (by decide) hM) rfl rfl h.1 rfl dX7_byteAt_13 ?_
    replace h := h.2
    refine lv_goto (tgt := 18) hx hb dX7_byteAt_14 (by decide) ?_
    exact g_iret hc hr hw h dX7_byteAt_18
def w_X7_wordOf_104 (M : Nat) (post : Int32 → St → Prop) (k_4 : Int32 → Int32 → St → Prop) (v1 : Int32) (v2 : Int32) (v3 : Int32) (σ : St) : Prop :=
  ∀ x1 : Int32, x1 = v2 + 1 → (k_4 (v1 + (v3 + 1)) x1 σ)
set_option maxHeartbeats 4000000 in
set_option maxRecDepth 20000 in
theorem b_X7_wordOf_104 {Γ : Gm} {ad : Nat → Nat} {p : Program} {l : Launch} {e : Env} {s : State} {m : MethodId} {args : Array Value} {below : List Frame} {meth : Method} {c : Code} {M : Nat} (hM : 20 ≤ M) {post : Int32 → St → Prop} {k_4 : Int32 → Int32 → St → Prop} (hk_4 : ∀ (v1 : Int32) (v2 : Int32) (σ : St) (H : Heap) (locs : List Loc) (ls : Array Slot), k_4 v1 v2 σ → WH Γ YM M ad σ s H locs → lv_has ls 5 [(0, .ref (ad 0)), (1, .int v1), (2, .int v2)] → W p l e (rmL 0 0 0) s m args below meth c H locs 0 0 (MQ below (va_Qi post (fun u t => WC Γ YM M ad u t) (AA Γ)) args s 0 0 (AA Γ)) (F0 m 4 ls []))
    (v1 : Int32) (v2 : Int32) (v3 : Int32) (σ : St) (H : Heap) (locs : List Loc) (ls : Array Slot) (h : w_X7_wordOf_104 M post k_4 v1 v2 v3 σ) (hc : CX Γ p s m args meth c cX7_wordOf RX7 5) (hr : meth.sig.returnType = (Option.some Jvm.ClassFile.FieldType.int)) (hw : WH Γ YM M ad σ s H locs) (hl : lv_has ls 5 [(0, .ref (ad 0)), (1, .int v1), (2, .int v2), (3, .int v3)]) :
    W p l e (rmL 0 0 0) s m args below meth c H locs 0 0 (MQ below (va_Qi post (fun u t => WC Γ YM M ad u t) (AA Γ)) args s 0 0 (AA Γ)) (F0 m 104 ls []) := by
  have hx := hc.1
  have hb := hc.2.1
  unfold w_X7_wordOf_104 at h
  refine lv_iload_n hx hb dX7_wordOf_104 rfl (lv_at hl 1 rfl) ?_
  refine lv_iload_n hx hb dX7_wordOf_105 rfl (lv_at hl 3 rfl) ?_
  refine lv_iconst (v := 1) hx hb dX7_wordOf_106 (by decide) ?_
  refine lv_iadd hx hb dX7_wordOf_107 ?_
  refine lv_iadd hx hb dX7_wordOf_108 ?_
  refine lv_istore_n (lv' := [(1, .int (v1 + (v3 + 1))), (0, .ref (ad 0)), (2, .int v2), (3, .int v3)]) hx hb dX7_wordOf_109 rfl hl (by decide) rfl (fun ls hl => ?_)
  obtain ⟨x1, ex1⟩ : ∃ z, z = v2 + 1 := ⟨_, rfl⟩
  replace h := h x1 ex1
  refine lv_iinc (v := x1) (lv' := [(2, .int x1), (1, .int (v1 + (v3 + 1))), (0, .ref (ad 0)), (3, .int v3)]) hx hb dX7_wordOf_110 hl (k := 2) rfl (by rw [ex1]; rfl) (by decide) rfl (fun ls hl => ?_)
  refine lv_goto (tgt := 4) hx hb dX7_wordOf_113 (by decide) ?_
  exact hk_4 (v1 + (v3 + 1)) x1 σ _ _ _ h  hw (lv_sub hl [2, 1, 0] rfl)
def w_X7_wordOf_18 (M : Nat) (post : Int32 → St → Prop) (k_4 : Int32 → Int32 → St → Prop) (k_18 : Int32 → Int32 → Int32 → Int32 → St → Prop) (v1 : Int32) (v2 : Int32) (v3 : Int32) (v4 : Int32) (σ : St) : Prop :=
  (vp_in (v1 + v3) 60) ∧ (∀ x1 : Int32, x1 = gi σ 7 ((v1 + v3).toNatClampNeg) → ((x1 = 32 → ((v4 = 0 → (w_X7_wordOf_104 M post k_4 v1 v2 v3 σ)) ∧ (¬ (v4 = 0) → ((v3 = ((gi σ 0 12) - (gi σ 0 11)) → (post v2 σ)) ∧ (¬ (v3 = ((gi σ 0 12) - (gi σ 0 11))) → (w_X7_wordOf_104 M post k_4 v1 v2 v3 σ)))))) ∧ (¬ (x1 = 32) → ((v4 = 0 → (∀ x6 : Int32, x6 = v3 + 1 → (k_18 v1 v2 x6 0 σ))) ∧ (¬ (v4 = 0) → (((gi σ 0 12) ≤ ((gi σ 0 11) + v3) → (∀ x8 : Int32, x8 = v3 + 1 → (k_18 v1 v2 x8 0 σ))) ∧ (¬ ((gi σ 0 12) ≤ ((gi σ 0 11) + v3)) → ((vp_in ((gi σ 0 11) + v3) 160) ∧ (∀ x9 : Int32, x9 = gi σ 3 (((gi σ 0 11) + v3).toNatClampNeg) → ((vp_in (v1 + v3) 60) ∧ (∀ x10 : Int32, x10 = gi σ 7 ((v1 + v3).toNatClampNeg) → ((x9 = x10 → (∀ x13 : Int32, x13 = v3 + 1 → (k_18 v1 v2 x13 1 σ))) ∧ (¬ (x9 = x10) → (∀ x12 : Int32, x12 = v3 + 1 → (k_18 v1 v2 x12 0 σ)))))))))))))))
set_option maxHeartbeats 4000000 in
set_option maxRecDepth 20000 in
theorem b_X7_wordOf_18 {Γ : Gm} {ad : Nat → Nat} {p : Program} {l : Launch} {e : Env} {s : State} {m : MethodId} {args : Array Value} {below : List Frame} {meth : Method} {c : Code} {M : Nat} (hM : 20 ≤ M) {post : Int32 → St → Prop} {k_4 : Int32 → Int32 → St → Prop} {k_18 : Int32 → Int32 → Int32 → Int32 → St → Prop} (hk_4 : ∀ (v1 : Int32) (v2 : Int32) (σ : St) (H : Heap) (locs : List Loc) (ls : Array Slot), k_4 v1 v2 σ → WH Γ YM M ad σ s H locs → lv_has ls 5 [(0, .ref (ad 0)), (1, .int v1), (2, .int v2)] → W p l e (rmL 0 0 0) s m args below meth c H locs 0 0 (MQ below (va_Qi post (fun u t => WC Γ YM M ad u t) (AA Γ)) args s 0 0 (AA Γ)) (F0 m 4 ls [])) (hk_18 : ∀ (v1 : Int32) (v2 : Int32) (v3 : Int32) (v4 : Int32) (σ : St) (H : Heap) (locs : List Loc) (ls : Array Slot), k_18 v1 v2 v3 v4 σ → WH Γ YM M ad σ s H locs → lv_has ls 5 [(0, .ref (ad 0)), (1, .int v1), (2, .int v2), (3, .int v3), (4, .int v4)] → W p l e (rmL 0 0 0) s m args below meth c H locs 0 0 (MQ below (va_Qi post (fun u t => WC Γ YM M ad u t) (AA Γ)) args s 0 0 (AA Γ)) (F0 m 18 ls []))
    (v1 : Int32) (v2 : Int32) (v3 : Int32) (v4 : Int32) (σ : St) (H : Heap) (locs : List Loc) (ls : Array Slot) (h : w_X7_wordOf_18 M post k_4 k_18 v1 v2 v3 v4 σ) (hc : CX Γ p s m args meth c cX7_wordOf RX7 5) (hr : meth.sig.returnType = (Option.some Jvm.ClassFile.FieldType.int)) (hw : WH Γ YM M ad σ s H locs) (hl : lv_has ls 5 [(0, .ref (ad 0)), (1, .int v1), (2, .int v2), (3, .int v3), (4, .int v4)]) :
    W p l e (rmL 0 0 0) s m args below meth c H locs 0 0 (MQ below (va_Qi post (fun u t => WC Γ YM M ad u t) (AA Γ)) args s 0 0 (AA Γ)) (F0 m 18 ls []) := by
  have hx := hc.1
  have hb := hc.2.1
  unfold w_X7_wordOf_18 at h
  refine lv_aload_n hx hb dX7_wordOf_18 rfl (lv_at hl 0 rfl) ?_
  refine fg_X7_28 hc hw (Nat.lt_of_lt_of_le (by decide) hM) rfl dX7_wordOf_19 ?_
  refine lv_iload_n hx hb dX7_wordOf_22 rfl (lv_at hl 1 rfl) ?_
  refine lv_iload_n hx hb dX7_wordOf_23 rfl (lv_at hl 3 rfl) ?_
  refine lv_iadd hx hb dX7_wordOf_24 ?_
  refine g_caldK (Y := YM) (kd := 27) (n := 60) (k := (v1 + v3).toNatClampNeg) (o := 7) (by decide) (by decide) rfl hc hw (Nat.lt_of_lt_of_le (by decide) hM) rfl rfl h.1 rfl dX7_wordOf_25 ?_
  replace h := h.2
  refine lv_topi (fun x1 ex1 => ?_)
  replace h := h x1 ex1
  refine lv_bipush (v := 32) hx hb dX7_wordOf_26 (by decide) ?_
  refine lv_icmp_eq (tgt := 84) hx hb dX7_wordOf_28 (by decide) (fun c2 => ?_) (fun c2 => ?_)
  · replace h := h.1 c2
    refine lv_iload hx hb dX7_wordOf_84 (lv_at hl 4 rfl) ?_
    refine lv_if_eq (tgt := 104) hx hb dX7_wordOf_86 (by decide) (fun c3 => ?_) (fun c3 => ?_)
    · replace h := h.1 c3
      exact b_X7_wordOf_104 hM hk_4 v1 v2 v3 σ _ _ _ h  hc hr hw (lv_sub hl [0, 1, 2, 3] rfl)
    · replace h := h.2 c3
      refine lv_iload_n hx hb dX7_wordOf_89 rfl (lv_at hl 3 rfl) ?_
      refine lv_aload_n hx hb dX7_wordOf_90 rfl (lv_at hl 0 rfl) ?_
      refine fg_X7_114 hc hw (Nat.lt_of_lt_of_le (by decide) hM) rfl dX7_wordOf_91 ?_
      refine lv_aload_n hx hb dX7_wordOf_94 rfl (lv_at hl 0 rfl) ?_
      refine fg_X7_111 hc hw (Nat.lt_of_lt_of_le (by decide) hM) rfl dX7_wordOf_95 ?_
      refine lv_isub hx hb dX7_wordOf_98 ?_
      refine lv_icmp_ne (tgt := 104) hx hb dX7_wordOf_99 (by decide) (fun c4 => ?_) (fun c4 => ?_)
      · replace h := h.2 c4
        exact b_X7_wordOf_104 hM hk_4 v1 v2 v3 σ _ _ _ h  hc hr hw (lv_sub hl [0, 1, 2, 3] rfl)
      · replace h := h.1 c4
        refine lv_iload_n hx hb dX7_wordOf_102 rfl (lv_at hl 2 rfl) ?_
        exact g_iret hc hr hw h dX7_wordOf_103
  · replace h := h.2 c2
    refine lv_iload hx hb dX7_wordOf_31 (lv_at hl 4 rfl) ?_
    refine lv_if_eq (tgt := 75) hx hb dX7_wordOf_33 (by decide) (fun c5 => ?_) (fun c5 => ?_)
    · replace h := h.1 c5
      refine lv_iconst (v := 0) hx hb dX7_wordOf_75 (by decide) ?_
      refine lv_istore (lv' := [(4, .int 0), (0, .ref (ad 0)), (1, .int v1), (2, .int v2), (3, .int v3)]) hx hb dX7_wordOf_76 hl (by decide) rfl (fun ls hl => ?_)
      obtain ⟨x6, ex6⟩ : ∃ z, z = v3 + 1 := ⟨_, rfl⟩
      replace h := h x6 ex6
      refine lv_iinc (v := x6) (lv' := [(3, .int x6), (4, .int 0), (0, .ref (ad 0)), (1, .int v1), (2, .int v2)]) hx hb dX7_wordOf_78 hl (k := 4) rfl (by rw [ex6]; rfl) (by decide) rfl (fun ls hl => ?_)
      refine lv_goto (tgt := 18) hx hb dX7_wordOf_81 (by decide) ?_
      exact hk_18 v1 v2 x6 0 σ _ _ _ h  hw (lv_sub hl [2, 3, 4, 0, 1] rfl)
    · replace h := h.2 c5
      refine lv_aload_n hx hb dX7_wordOf_36 rfl (lv_at hl 0 rfl) ?_
      refine fg_X7_111 hc hw (Nat.lt_of_lt_of_le (by decide) hM) rfl dX7_wordOf_37 ?_
      refine lv_iload_n hx hb dX7_wordOf_40 rfl (lv_at hl 3 rfl) ?_
      refine lv_iadd hx hb dX7_wordOf_41 ?_
      refine lv_aload_n hx hb dX7_wordOf_42 rfl (lv_at hl 0 rfl) ?_
      refine fg_X7_114 hc hw (Nat.lt_of_lt_of_le (by decide) hM) rfl dX7_wordOf_43 ?_
      refine lv_icmp_ge (tgt := 75) hx hb dX7_wordOf_46 (by decide) (fun c7 => ?_) (fun c7 => ?_)
      · replace h := h.1 c7
        refine lv_iconst (v := 0) hx hb dX7_wordOf_75 (by decide) ?_
        refine lv_istore (lv' := [(4, .int 0), (0, .ref (ad 0)), (1, .int v1), (2, .int v2), (3, .int v3)]) hx hb dX7_wordOf_76 hl (by decide) rfl (fun ls hl => ?_)
        obtain ⟨x8, ex8⟩ : ∃ z, z = v3 + 1 := ⟨_, rfl⟩
        replace h := h x8 ex8
        refine lv_iinc (v := x8) (lv' := [(3, .int x8), (4, .int 0), (0, .ref (ad 0)), (1, .int v1), (2, .int v2)]) hx hb dX7_wordOf_78 hl (k := 4) rfl (by rw [ex8]; rfl) (by decide) rfl (fun ls hl => ?_)
        refine lv_goto (tgt := 18) hx hb dX7_wordOf_81 (by decide) ?_
        exact hk_18 v1 v2 x8 0 σ _ _ _ h  hw (lv_sub hl [2, 3, 4, 0, 1] rfl)
      · replace h := h.2 c7
        refine lv_aload_n hx hb dX7_wordOf_49 rfl (lv_at hl 0 rfl) ?_
        refine fg_X7_16 hc hw (Nat.lt_of_lt_of_le (by decide) hM) rfl dX7_wordOf_50 ?_
        refine lv_aload_n hx hb dX7_wordOf_53 rfl (lv_at hl 0 rfl) ?_
        refine fg_X7_111 hc hw (Nat.lt_of_lt_of_le (by decide) hM) rfl dX7_wordOf_54 ?_
        refine lv_iload_n hx hb dX7_wordOf_57 rfl (lv_at hl 3 rfl) ?_
        refine lv_iadd hx hb dX7_wordOf_58 ?_
        refine g_ialdK (Y := YM) (kd := 23) (n := 160) (k := ((gi σ 0 11) + v3).toNatClampNeg) (o := 3) (by decide) (by decide) rfl hc hw (Nat.lt_of_lt_of_le (by decide) hM) rfl rfl h.1 rfl dX7_wordOf_59 ?_
        replace h := h.2
        refine lv_topi (fun x9 ex9 => ?_)
        replace h := h x9 ex9
        refine lv_aload_n hx hb dX7_wordOf_60 rfl (lv_at hl 0 rfl) ?_
        refine fg_X7_28 hc hw (Nat.lt_of_lt_of_le (by decide) hM) rfl dX7_wordOf_61 ?_
        refine lv_iload_n hx hb dX7_wordOf_64 rfl (lv_at hl 1 rfl) ?_
        refine lv_iload_n hx hb dX7_wordOf_65 rfl (lv_at hl 3 rfl) ?_
        refine lv_iadd hx hb dX7_wordOf_66 ?_
        refine g_caldK (Y := YM) (kd := 27) (n := 60) (k := (v1 + v3).toNatClampNeg) (o := 7) (by decide) (by decide) rfl hc hw (Nat.lt_of_lt_of_le (by decide) hM) rfl rfl h.1 rfl dX7_wordOf_67 ?_
        replace h := h.2
        refine lv_topi (fun x10 ex10 => ?_)
        replace h := h x10 ex10
        refine lv_icmp_ne (tgt := 75) hx hb dX7_wordOf_68 (by decide) (fun c11 => ?_) (fun c11 => ?_)
        · replace h := h.2 c11
          refine lv_iconst (v := 0) hx hb dX7_wordOf_75 (by decide) ?_
          refine lv_istore (lv' := [(4, .int 0), (0, .ref (ad 0)), (1, .int v1), (2, .int v2), (3, .int v3)]) hx hb dX7_wordOf_76 hl (by decide) rfl (fun ls hl => ?_)
          obtain ⟨x12, ex12⟩ : ∃ z, z = v3 + 1 := ⟨_, rfl⟩
          replace h := h x12 ex12
          refine lv_iinc (v := x12) (lv' := [(3, .int x12), (4, .int 0), (0, .ref (ad 0)), (1, .int v1), (2, .int v2)]) hx hb dX7_wordOf_78 hl (k := 4) rfl (by rw [ex12]; rfl) (by decide) rfl (fun ls hl => ?_)
          refine lv_goto (tgt := 18) hx hb dX7_wordOf_81 (by decide) ?_
          exact hk_18 v1 v2 x12 0 σ _ _ _ h  hw (lv_sub hl [2, 3, 4, 0, 1] rfl)
        · replace h := h.1 c11
          refine lv_iconst (v := 1) hx hb dX7_wordOf_71 (by decide) ?_
          refine lv_goto (tgt := 76) hx hb dX7_wordOf_72 (by decide) ?_
          refine lv_istore (lv' := [(4, .int 1), (0, .ref (ad 0)), (1, .int v1), (2, .int v2), (3, .int v3)]) hx hb dX7_wordOf_76 hl (by decide) rfl (fun ls hl => ?_)
          obtain ⟨x13, ex13⟩ : ∃ z, z = v3 + 1 := ⟨_, rfl⟩
          replace h := h x13 ex13
          refine lv_iinc (v := x13) (lv' := [(3, .int x13), (4, .int 1), (0, .ref (ad 0)), (1, .int v1), (2, .int v2)]) hx hb dX7_wordOf_78 hl (k := 4) rfl (by rw [ex13]; rfl) (by decide) rfl (fun ls hl => ?_)
          refine lv_goto (tgt := 18) hx hb dX7_wordOf_81 (by decide) ?_
          exact hk_18 v1 v2 x13 1 σ _ _ _ h  hw (lv_sub hl [2, 3, 4, 0, 1] rfl)
def wl_X7_wordOf_18 (M : Nat) (post : Int32 → St → Prop) (k_4 : Int32 → Int32 → St → Prop) : Nat → Int32 → Int32 → Int32 → Int32 → St → Prop
  | 0, _, _, _, _, _ => False
  | n + 1, v1, v2, v3, v4, σ => w_X7_wordOf_18 M post k_4 (wl_X7_wordOf_18 M post k_4 n) v1 v2 v3 v4 σ
set_option maxHeartbeats 4000000 in
theorem bl_X7_wordOf_18 {Γ : Gm} {ad : Nat → Nat} {p : Program} {l : Launch} {e : Env} {s : State} {m : MethodId} {args : Array Value} {below : List Frame} {meth : Method} {c : Code} {M : Nat} (hM : 20 ≤ M) {post : Int32 → St → Prop} {k_4 : Int32 → Int32 → St → Prop} (hk_4 : ∀ (v1 : Int32) (v2 : Int32) (σ : St) (H : Heap) (locs : List Loc) (ls : Array Slot), k_4 v1 v2 σ → WH Γ YM M ad σ s H locs → lv_has ls 5 [(0, .ref (ad 0)), (1, .int v1), (2, .int v2)] → W p l e (rmL 0 0 0) s m args below meth c H locs 0 0 (MQ below (va_Qi post (fun u t => WC Γ YM M ad u t) (AA Γ)) args s 0 0 (AA Γ)) (F0 m 4 ls []))
    (hc : CX Γ p s m args meth c cX7_wordOf RX7 5) (hr : meth.sig.returnType = (Option.some Jvm.ClassFile.FieldType.int)) :
    ∀ (n : Nat) (v1 : Int32) (v2 : Int32) (v3 : Int32) (v4 : Int32) (σ : St) (H : Heap) (locs : List Loc) (ls : Array Slot), wl_X7_wordOf_18 M post k_4 n v1 v2 v3 v4 σ → WH Γ YM M ad σ s H locs → lv_has ls 5 [(0, .ref (ad 0)), (1, .int v1), (2, .int v2), (3, .int v3), (4, .int v4)] → W p l e (rmL 0 0 0) s m args below meth c H locs 0 0 (MQ below (va_Qi post (fun u t => WC Γ YM M ad u t) (AA Γ)) args s 0 0 (AA Γ)) (F0 m 18 ls []) := by
  intro n
  induction n with
  | zero => intro v1 v2 v3 v4 σ H locs ls h; exact h.elim
  | succ n ih =>
    intro v1 v2 v3 v4 σ H locs ls h  hw hl
    exact b_X7_wordOf_18 hM hk_4 ih v1 v2 v3 v4 σ H locs ls h  hc hr hw hl
def w_X7_wordOf_4 (M : Nat) (post : Int32 → St → Prop) (k_4 : Int32 → Int32 → St → Prop) (v1 : Int32) (v2 : Int32) (σ : St) : Prop :=
  (60 ≤ v1 → (post (-1) σ)) ∧ (¬ (60 ≤ v1) → (∃ n, wl_X7_wordOf_18 M post k_4 n v1 v2 0 1 σ))
set_option maxHeartbeats 4000000 in
set_option maxRecDepth 20000 in
theorem b_X7_wordOf_4 {Γ : Gm} {ad : Nat → Nat} {p : Program} {l : Launch} {e : Env} {s : State} {m : MethodId} {args : Array Value} {below : List Frame} {meth : Method} {c : Code} {M : Nat} (hM : 20 ≤ M) {post : Int32 → St → Prop} {k_4 : Int32 → Int32 → St → Prop} (hk_4 : ∀ (v1 : Int32) (v2 : Int32) (σ : St) (H : Heap) (locs : List Loc) (ls : Array Slot), k_4 v1 v2 σ → WH Γ YM M ad σ s H locs → lv_has ls 5 [(0, .ref (ad 0)), (1, .int v1), (2, .int v2)] → W p l e (rmL 0 0 0) s m args below meth c H locs 0 0 (MQ below (va_Qi post (fun u t => WC Γ YM M ad u t) (AA Γ)) args s 0 0 (AA Γ)) (F0 m 4 ls []))
    (v1 : Int32) (v2 : Int32) (σ : St) (H : Heap) (locs : List Loc) (ls : Array Slot) (h : w_X7_wordOf_4 M post k_4 v1 v2 σ) (hc : CX Γ p s m args meth c cX7_wordOf RX7 5) (hr : meth.sig.returnType = (Option.some Jvm.ClassFile.FieldType.int)) (hw : WH Γ YM M ad σ s H locs) (hl : lv_has ls 5 [(0, .ref (ad 0)), (1, .int v1), (2, .int v2)]) :
    W p l e (rmL 0 0 0) s m args below meth c H locs 0 0 (MQ below (va_Qi post (fun u t => WC Γ YM M ad u t) (AA Γ)) args s 0 0 (AA Γ)) (F0 m 4 ls []) := by
  have hx := hc.1
  have hb := hc.2.1
  unfold w_X7_wordOf_4 at h
  refine lv_iload_n hx hb dX7_wordOf_4 rfl (lv_at hl 1 rfl) ?_
  refine lv_aload_n hx hb dX7_wordOf_5 rfl (lv_at hl 0 rfl) ?_
  refine fg_X7_28 hc hw (Nat.lt_of_lt_of_le (by decide) hM) rfl dX7_wordOf_6 ?_
  refine g_aleni (Y := YM) (kd := 27) (v := 60) (o := 7) (by decide) (by decide) rfl hc hw (Nat.lt_of_lt_of_le (by decide) hM) rfl rfl dX7_wordOf_9 ?_
  refine lv_icmp_ge (tgt := 116) hx hb dX7_wordOf_10 (by decide) (fun c1 => ?_) (fun c1 => ?_)
  · replace h := h.1 c1
    refine lv_iconst (v := (-1)) hx hb dX7_wordOf_116 (by decide) ?_
    exact g_iret hc hr hw h dX7_wordOf_117
  · replace h := h.2 c1
    refine lv_iconst (v := 0) hx hb dX7_wordOf_13 (by decide) ?_
    refine lv_istore_n (lv' := [(3, .int 0), (0, .ref (ad 0)), (1, .int v1), (2, .int v2)]) hx hb dX7_wordOf_14 rfl hl (by decide) rfl (fun ls hl => ?_)
    refine lv_iconst (v := 1) hx hb dX7_wordOf_15 (by decide) ?_
    refine lv_istore (lv' := [(4, .int 1), (3, .int 0), (0, .ref (ad 0)), (1, .int v1), (2, .int v2)]) hx hb dX7_wordOf_16 hl (by decide) rfl (fun ls hl => ?_)
    obtain ⟨n, h⟩ := h
    exact bl_X7_wordOf_18 hM hk_4 hc hr n v1 v2 0 1 σ _ _ _ h  hw (lv_sub hl [2, 3, 4, 1, 0] rfl)
def wl_X7_wordOf_4 (M : Nat) (post : Int32 → St → Prop) : Nat → Int32 → Int32 → St → Prop
  | 0, _, _, _ => False
  | n + 1, v1, v2, σ => w_X7_wordOf_4 M post (wl_X7_wordOf_4 M post n) v1 v2 σ
set_option maxHeartbeats 4000000 in
theorem bl_X7_wordOf_4 {Γ : Gm} {ad : Nat → Nat} {p : Program} {l : Launch} {e : Env} {s : State} {m : MethodId} {args : Array Value} {below : List Frame} {meth : Method} {c : Code} {M : Nat} (hM : 20 ≤ M) {post : Int32 → St → Prop}
    (hc : CX Γ p s m args meth c cX7_wordOf RX7 5) (hr : meth.sig.returnType = (Option.some Jvm.ClassFile.FieldType.int)) :
    ∀ (n : Nat) (v1 : Int32) (v2 : Int32) (σ : St) (H : Heap) (locs : List Loc) (ls : Array Slot), wl_X7_wordOf_4 M post n v1 v2 σ → WH Γ YM M ad σ s H locs → lv_has ls 5 [(0, .ref (ad 0)), (1, .int v1), (2, .int v2)] → W p l e (rmL 0 0 0) s m args below meth c H locs 0 0 (MQ below (va_Qi post (fun u t => WC Γ YM M ad u t) (AA Γ)) args s 0 0 (AA Γ)) (F0 m 4 ls []) := by
  intro n
  induction n with
  | zero => intro v1 v2 σ H locs ls h; exact h.elim
  | succ n ih =>
    intro v1 v2 σ H locs ls h  hw hl
    exact b_X7_wordOf_4 hM ih v1 v2 σ H locs ls h  hc hr hw hl
def w_X7_wordOf (M : Nat) (post : Int32 → St → Prop)  (σ : St) : Prop :=
  ∃ n, wl_X7_wordOf_4 M post n 0 0 σ
set_option maxHeartbeats 4000000 in
set_option maxRecDepth 20000 in
theorem m_X7_wordOf {Γ : Gm} {ad : Nat → Nat} {M : Nat} (l : Launch) (hM : 20 ≤ M) {post : Int32 → St → Prop}  (σ : St) (h : w_X7_wordOf M post  σ) : Ci l Γ YM M ad σ yX7_wordOf cX7_wordOf 5 (Option.some Jvm.ClassFile.FieldType.int) 0 0 0 [.ref (ad 0)] post := by
  refine g_start (by decide) (Nat.le_of_ble_eq_true rfl) ?_
  intro p e s m args below meth c ls hc hr hn hl hw
  have hc : CX Γ p s m args meth c cX7_wordOf RX7 5 := hc
  have hl : lv_has ls 5 [(0, .ref (ad 0))] := hl
  have hx := hc.1
  have hb := hc.2.1
  unfold w_X7_wordOf at h
  generalize hHH : s.heap = H0 at hw ⊢
  refine lv_iconst (v := 0) hx hb dX7_wordOf_0 (by decide) ?_
  refine lv_istore_n (lv' := [(1, .int 0), (0, .ref (ad 0))]) hx hb dX7_wordOf_1 rfl hl (by decide) rfl (fun ls hl => ?_)
  refine lv_iconst (v := 0) hx hb dX7_wordOf_2 (by decide) ?_
  refine lv_istore_n (lv' := [(2, .int 0), (1, .int 0), (0, .ref (ad 0))]) hx hb dX7_wordOf_3 rfl hl (by decide) rfl (fun ls hl => ?_)
  obtain ⟨n, h⟩ := h
  exact bl_X7_wordOf_4 hM hc hr n 0 0 σ _ _ _ h  hw (lv_sub hl [2, 1, 0] rfl)
def w_X7_isSignByte (M : Nat) (post : Int32 → St → Prop) (a1 : Int32) (σ : St) : Prop :=
  (a1 = 40 → (post 1 σ)) ∧ (¬ (a1 = 40) → ((a1 = 41 → (post 1 σ)) ∧ (¬ (a1 = 41) → ((a1 = 59 → (post 1 σ)) ∧ (¬ (a1 = 59) → ((a1 = 43 → (post 1 σ)) ∧ (¬ (a1 = 43) → ((a1 = 45 → (post 1 σ)) ∧ (¬ (a1 = 45) → ((a1 = 42 → (post 1 σ)) ∧ (¬ (a1 = 42) → ((a1 = 60 → (post 1 σ)) ∧ (¬ (a1 = 60) → ((a1 = 61 → (post 1 σ)) ∧ (¬ (a1 = 61) → (post 0 σ))))))))))))))))
set_option maxHeartbeats 4000000 in
set_option maxRecDepth 20000 in
theorem m_X7_isSignByte {Γ : Gm} {ad : Nat → Nat} {M : Nat} (l : Launch) (hM : 20 ≤ M) {post : Int32 → St → Prop} (a1 : Int32) (σ : St) (h : w_X7_isSignByte M post a1 σ) : Ci l Γ YM M ad σ yX7_isSignByte cX7_isSignByte 1 (Option.some Jvm.ClassFile.FieldType.boolean) 0 0 0 [.int a1] post := by
  refine g_start (by decide) (Nat.le_of_ble_eq_true rfl) ?_
  intro p e s m args below meth c ls hc hr hn hl hw
  have hc : CX Γ p s m args meth c cX7_isSignByte RX7 1 := hc
  have hl : lv_has ls 1 [(0, .int a1)] := hl
  have hx := hc.1
  have hb := hc.2.1
  unfold w_X7_isSignByte at h
  generalize hHH : s.heap = H0 at hw ⊢
  refine lv_iload_n hx hb dX7_isSignByte_0 rfl (lv_at hl 0 rfl) ?_
  refine lv_bipush (v := 40) hx hb dX7_isSignByte_1 (by decide) ?_
  refine lv_icmp_eq (tgt := 48) hx hb dX7_isSignByte_3 (by decide) (fun c1 => ?_) (fun c1 => ?_)
  · replace h := h.1 c1
    refine lv_iconst (v := 1) hx hb dX7_isSignByte_48 (by decide) ?_
    refine lv_goto (tgt := 53) hx hb dX7_isSignByte_49 (by decide) ?_
    exact g_zret hc hr hw rfl h dX7_isSignByte_53
  · replace h := h.2 c1
    refine lv_iload_n hx hb dX7_isSignByte_6 rfl (lv_at hl 0 rfl) ?_
    refine lv_bipush (v := 41) hx hb dX7_isSignByte_7 (by decide) ?_
    refine lv_icmp_eq (tgt := 48) hx hb dX7_isSignByte_9 (by decide) (fun c2 => ?_) (fun c2 => ?_)
    · replace h := h.1 c2
      refine lv_iconst (v := 1) hx hb dX7_isSignByte_48 (by decide) ?_
      refine lv_goto (tgt := 53) hx hb dX7_isSignByte_49 (by decide) ?_
      exact g_zret hc hr hw rfl h dX7_isSignByte_53
    · replace h := h.2 c2
      refine lv_iload_n hx hb dX7_isSignByte_12 rfl (lv_at hl 0 rfl) ?_
      refine lv_bipush (v := 59) hx hb dX7_isSignByte_13 (by decide) ?_
      refine lv_icmp_eq (tgt := 48) hx hb dX7_isSignByte_15 (by decide) (fun c3 => ?_) (fun c3 => ?_)
      · replace h := h.1 c3
        refine lv_iconst (v := 1) hx hb dX7_isSignByte_48 (by decide) ?_
        refine lv_goto (tgt := 53) hx hb dX7_isSignByte_49 (by decide) ?_
        exact g_zret hc hr hw rfl h dX7_isSignByte_53
      · replace h := h.2 c3
        refine lv_iload_n hx hb dX7_isSignByte_18 rfl (lv_at hl 0 rfl) ?_
        refine lv_bipush (v := 43) hx hb dX7_isSignByte_19 (by decide) ?_
        refine lv_icmp_eq (tgt := 48) hx hb dX7_isSignByte_21 (by decide) (fun c4 => ?_) (fun c4 => ?_)
        · replace h := h.1 c4
          refine lv_iconst (v := 1) hx hb dX7_isSignByte_48 (by decide) ?_
          refine lv_goto (tgt := 53) hx hb dX7_isSignByte_49 (by decide) ?_
          exact g_zret hc hr hw rfl h dX7_isSignByte_53
        · replace h := h.2 c4
          refine lv_iload_n hx hb dX7_isSignByte_24 rfl (lv_at hl 0 rfl) ?_
          refine lv_bipush (v := 45) hx hb dX7_isSignByte_25 (by decide) ?_
          refine lv_icmp_eq (tgt := 48) hx hb dX7_isSignByte_27 (by decide) (fun c5 => ?_) (fun c5 => ?_)
          · replace h := h.1 c5
            refine lv_iconst (v := 1) hx hb dX7_isSignByte_48 (by decide) ?_
            refine lv_goto (tgt := 53) hx hb dX7_isSignByte_49 (by decide) ?_
            exact g_zret hc hr hw rfl h dX7_isSignByte_53
          · replace h := h.2 c5
            refine lv_iload_n hx hb dX7_isSignByte_30 rfl (lv_at hl 0 rfl) ?_
            refine lv_bipush (v := 42) hx hb dX7_isSignByte_31 (by decide) ?_
            refine lv_icmp_eq (tgt := 48) hx hb dX7_isSignByte_33 (by decide) (fun c6 => ?_) (fun c6 => ?_)
            · replace h := h.1 c6
              refine lv_iconst (v := 1) hx hb dX7_isSignByte_48 (by decide) ?_
              refine lv_goto (tgt := 53) hx hb dX7_isSignByte_49 (by decide) ?_
              exact g_zret hc hr hw rfl h dX7_isSignByte_53
            · replace h := h.2 c6
              refine lv_iload_n hx hb dX7_isSignByte_36 rfl (lv_at hl 0 rfl) ?_
              refine lv_bipush (v := 60) hx hb dX7_isSignByte_37 (by decide) ?_
              refine lv_icmp_eq (tgt := 48) hx hb dX7_isSignByte_39 (by decide) (fun c7 => ?_) (fun c7 => ?_)
              · replace h := h.1 c7
                refine lv_iconst (v := 1) hx hb dX7_isSignByte_48 (by decide) ?_
                refine lv_goto (tgt := 53) hx hb dX7_isSignByte_49 (by decide) ?_
                exact g_zret hc hr hw rfl h dX7_isSignByte_53
              · replace h := h.2 c7
                refine lv_iload_n hx hb dX7_isSignByte_42 rfl (lv_at hl 0 rfl) ?_
                refine lv_bipush (v := 61) hx hb dX7_isSignByte_43 (by decide) ?_
                refine lv_icmp_ne (tgt := 52) hx hb dX7_isSignByte_45 (by decide) (fun c8 => ?_) (fun c8 => ?_)
                · replace h := h.2 c8
                  refine lv_iconst (v := 0) hx hb dX7_isSignByte_52 (by decide) ?_
                  exact g_zret hc hr hw rfl h dX7_isSignByte_53
                · replace h := h.1 c8
                  refine lv_iconst (v := 1) hx hb dX7_isSignByte_48 (by decide) ?_
                  refine lv_goto (tgt := 53) hx hb dX7_isSignByte_49 (by decide) ?_
                  exact g_zret hc hr hw rfl h dX7_isSignByte_53
def w_X7_wrong (M : Nat) (post : St → Prop)  (σ : St) : Prop :=
  ((gi σ 0 16) = 0 → (∀ σ2 : St, σ2 = si σ 0 16 1 → (∀ σ3 : St, σ3 = si σ2 0 17 (gi σ2 0 11) → (post σ3)))) ∧ (¬ ((gi σ 0 16) = 0) → (post σ))
set_option maxHeartbeats 4000000 in
set_option maxRecDepth 20000 in
theorem m_X7_wrong {Γ : Gm} {ad : Nat → Nat} {M : Nat} (l : Launch) (hM : 20 ≤ M) {post : St → Prop}  (σ : St) (h : w_X7_wrong M post  σ) : Cv l Γ YM M ad σ yX7_wrong cX7_wrong 1 none 0 0 0 [.ref (ad 0)] post := by
  refine g_start (by decide) (Nat.le_of_ble_eq_true rfl) ?_
  intro p e s m args below meth c ls hc hr hn hl hw
  have hc : CX Γ p s m args meth c cX7_wrong RX7 1 := hc
  have hl : lv_has ls 1 [(0, .ref (ad 0))] := hl
  have hx := hc.1
  have hb := hc.2.1
  unfold w_X7_wrong at h
  generalize hHH : s.heap = H0 at hw ⊢
  refine lv_aload_n hx hb dX7_wrong_0 rfl (lv_at hl 0 rfl) ?_
  refine fg_X7_148 hc hw (Nat.lt_of_lt_of_le (by decide) hM) rfl dX7_wrong_1 ?_
  refine lv_if_ne (tgt := 20) hx hb dX7_wrong_4 (by decide) (fun c1 => ?_) (fun c1 => ?_)
  · replace h := h.2 c1
    exact g_vret hc hr hw h dX7_wrong_20
  · replace h := h.1 c1
    refine lv_aload_n hx hb dX7_wrong_7 rfl (lv_at hl 0 rfl) ?_
    refine lv_iconst (v := 1) hx hb dX7_wrong_8 (by decide) ?_
    refine fp_X7_148 (o := 0) rfl rfl hc hw (Nat.lt_of_lt_of_le (by decide) hM) rfl dX7_wrong_9 (fun σ2 H locs eσ2 hw => ?_)
    replace h := h σ2 eσ2
    refine lv_aload_n hx hb dX7_wrong_12 rfl (lv_at hl 0 rfl) ?_
    refine lv_aload_n hx hb dX7_wrong_13 rfl (lv_at hl 0 rfl) ?_
    refine fg_X7_111 hc hw (Nat.lt_of_lt_of_le (by decide) hM) rfl dX7_wrong_14 ?_
    refine fp_X7_152 (o := 0) hc hw (Nat.lt_of_lt_of_le (by decide) hM) rfl dX7_wrong_17 (fun σ3 H locs eσ3 hw => ?_)
    replace h := h σ3 eσ3
    exact g_vret hc hr hw h dX7_wrong_20
def w_X7_isSign (M : Nat) (post : Int32 → St → Prop) (a1 : Int32) (σ : St) : Prop :=
  ((gi σ 0 16) = 0 → (((gi σ 0 13) = 4 → (((gi σ 0 14) = a1 → (post 1 σ)) ∧ (¬ ((gi σ 0 14) = a1) → (post 0 σ)))) ∧ (¬ ((gi σ 0 13) = 4) → (post 0 σ)))) ∧ (¬ ((gi σ 0 16) = 0) → (post 0 σ))
set_option maxHeartbeats 4000000 in
set_option maxRecDepth 20000 in
theorem m_X7_isSign {Γ : Gm} {ad : Nat → Nat} {M : Nat} (l : Launch) (hM : 20 ≤ M) {post : Int32 → St → Prop} (a1 : Int32) (σ : St) (h : w_X7_isSign M post a1 σ) : Ci l Γ YM M ad σ yX7_isSign cX7_isSign 2 (Option.some Jvm.ClassFile.FieldType.boolean) 0 0 0 [.ref (ad 0), .int a1] post := by
  refine g_start (by decide) (Nat.le_of_ble_eq_true rfl) ?_
  intro p e s m args below meth c ls hc hr hn hl hw
  have hc : CX Γ p s m args meth c cX7_isSign RX7 2 := hc
  have hl : lv_has ls 2 [(0, .ref (ad 0)), (1, .int a1)] := hl
  have hx := hc.1
  have hb := hc.2.1
  unfold w_X7_isSign at h
  generalize hHH : s.heap = H0 at hw ⊢
  refine lv_aload_n hx hb dX7_isSign_0 rfl (lv_at hl 0 rfl) ?_
  refine fg_X7_148 hc hw (Nat.lt_of_lt_of_le (by decide) hM) rfl dX7_isSign_1 ?_
  refine lv_if_ne (tgt := 27) hx hb dX7_isSign_4 (by decide) (fun c1 => ?_) (fun c1 => ?_)
  · replace h := h.2 c1
    refine lv_iconst (v := 0) hx hb dX7_isSign_27 (by decide) ?_
    exact g_zret hc hr hw rfl h dX7_isSign_28
  · replace h := h.1 c1
    refine lv_aload_n hx hb dX7_isSign_7 rfl (lv_at hl 0 rfl) ?_
    refine fg_X7_129 hc hw (Nat.lt_of_lt_of_le (by decide) hM) rfl dX7_isSign_8 ?_
    refine lv_iconst (v := 4) hx hb dX7_isSign_11 (by decide) ?_
    refine lv_icmp_ne (tgt := 27) hx hb dX7_isSign_12 (by decide) (fun c2 => ?_) (fun c2 => ?_)
    · replace h := h.2 c2
      refine lv_iconst (v := 0) hx hb dX7_isSign_27 (by decide) ?_
      exact g_zret hc hr hw rfl h dX7_isSign_28
    · replace h := h.1 c2
      refine lv_aload_n hx hb dX7_isSign_15 rfl (lv_at hl 0 rfl) ?_
      refine fg_X7_139 hc hw (Nat.lt_of_lt_of_le (by decide) hM) rfl dX7_isSign_16 ?_
      refine lv_iload_n hx hb dX7_isSign_19 rfl (lv_at hl 1 rfl) ?_
      refine lv_icmp_ne (tgt := 27) hx hb dX7_isSign_20 (by decide) (fun c3 => ?_) (fun c3 => ?_)
      · replace h := h.2 c3
        refine lv_iconst (v := 0) hx hb dX7_isSign_27 (by decide) ?_
        exact g_zret hc hr hw rfl h dX7_isSign_28
      · replace h := h.1 c3
        refine lv_iconst (v := 1) hx hb dX7_isSign_23 (by decide) ?_
        refine lv_goto (tgt := 28) hx hb dX7_isSign_24 (by decide) ?_
        exact g_zret hc hr hw rfl h dX7_isSign_28
def w_X7_isKey (M : Nat) (post : Int32 → St → Prop) (a1 : Int32) (σ : St) : Prop :=
  ((gi σ 0 16) = 0 → (((gi σ 0 13) = 3 → (((gi σ 0 14) = a1 → (post 1 σ)) ∧ (¬ ((gi σ 0 14) = a1) → (post 0 σ)))) ∧ (¬ ((gi σ 0 13) = 3) → (post 0 σ)))) ∧ (¬ ((gi σ 0 16) = 0) → (post 0 σ))
set_option maxHeartbeats 4000000 in
set_option maxRecDepth 20000 in
theorem m_X7_isKey {Γ : Gm} {ad : Nat → Nat} {M : Nat} (l : Launch) (hM : 20 ≤ M) {post : Int32 → St → Prop} (a1 : Int32) (σ : St) (h : w_X7_isKey M post a1 σ) : Ci l Γ YM M ad σ yX7_isKey cX7_isKey 2 (Option.some Jvm.ClassFile.FieldType.boolean) 0 0 0 [.ref (ad 0), .int a1] post := by
  refine g_start (by decide) (Nat.le_of_ble_eq_true rfl) ?_
  intro p e s m args below meth c ls hc hr hn hl hw
  have hc : CX Γ p s m args meth c cX7_isKey RX7 2 := hc
  have hl : lv_has ls 2 [(0, .ref (ad 0)), (1, .int a1)] := hl
  have hx := hc.1
  have hb := hc.2.1
  unfold w_X7_isKey at h
  generalize hHH : s.heap = H0 at hw ⊢
  refine lv_aload_n hx hb dX7_isKey_0 rfl (lv_at hl 0 rfl) ?_
  refine fg_X7_148 hc hw (Nat.lt_of_lt_of_le (by decide) hM) rfl dX7_isKey_1 ?_
  refine lv_if_ne (tgt := 27) hx hb dX7_isKey_4 (by decide) (fun c1 => ?_) (fun c1 => ?_)
  · replace h := h.2 c1
    refine lv_iconst (v := 0) hx hb dX7_isKey_27 (by decide) ?_
    exact g_zret hc hr hw rfl h dX7_isKey_28
  · replace h := h.1 c1
    refine lv_aload_n hx hb dX7_isKey_7 rfl (lv_at hl 0 rfl) ?_
    refine fg_X7_129 hc hw (Nat.lt_of_lt_of_le (by decide) hM) rfl dX7_isKey_8 ?_
    refine lv_iconst (v := 3) hx hb dX7_isKey_11 (by decide) ?_
    refine lv_icmp_ne (tgt := 27) hx hb dX7_isKey_12 (by decide) (fun c2 => ?_) (fun c2 => ?_)
    · replace h := h.2 c2
      refine lv_iconst (v := 0) hx hb dX7_isKey_27 (by decide) ?_
      exact g_zret hc hr hw rfl h dX7_isKey_28
    · replace h := h.1 c2
      refine lv_aload_n hx hb dX7_isKey_15 rfl (lv_at hl 0 rfl) ?_
      refine fg_X7_139 hc hw (Nat.lt_of_lt_of_le (by decide) hM) rfl dX7_isKey_16 ?_
      refine lv_iload_n hx hb dX7_isKey_19 rfl (lv_at hl 1 rfl) ?_
      refine lv_icmp_ne (tgt := 27) hx hb dX7_isKey_20 (by decide) (fun c3 => ?_) (fun c3 => ?_)
      · replace h := h.2 c3
        refine lv_iconst (v := 0) hx hb dX7_isKey_27 (by decide) ?_
        exact g_zret hc hr hw rfl h dX7_isKey_28
      · replace h := h.1 c3
        refine lv_iconst (v := 1) hx hb dX7_isKey_23 (by decide) ?_
        refine lv_goto (tgt := 28) hx hb dX7_isKey_24 (by decide) ?_
        exact g_zret hc hr hw rfl h dX7_isKey_28
def w_X7_adds (M : Nat) (post : St → Prop) (a1 : Int32) (σ : St) : Prop :=
  (vp_in (gi σ 0 10) 3570) ∧ (∀ σ1 : St, σ1 = si σ 4 ((gi σ 0 10).toNatClampNeg) a1 → (∀ σ2 : St, σ2 = si σ1 0 10 ((gi σ1 0 10) + 1) → (post σ2)))
set_option maxHeartbeats 4000000 in
set_option maxRecDepth 20000 in
theorem m_X7_adds {Γ : Gm} {ad : Nat → Nat} {M : Nat} (l : Launch) (hM : 20 ≤ M) {post : St → Prop} (a1 : Int32) (σ : St) (h : w_X7_adds M post a1 σ) : Cv l Γ YM M ad σ yX7_adds cX7_adds 2 none 0 0 0 [.ref (ad 0), .int a1] post := by
  refine g_start (by decide) (Nat.le_of_ble_eq_true rfl) ?_
  intro p e s m args below meth c ls hc hr hn hl hw
  have hc : CX Γ p s m args meth c cX7_adds RX7 2 := hc
  have hl : lv_has ls 2 [(0, .ref (ad 0)), (1, .int a1)] := hl
  have hx := hc.1
  have hb := hc.2.1
  unfold w_X7_adds at h
  generalize hHH : s.heap = H0 at hw ⊢
  refine lv_aload_n hx hb dX7_adds_0 rfl (lv_at hl 0 rfl) ?_
  refine fg_X7_19 hc hw (Nat.lt_of_lt_of_le (by decide) hM) rfl dX7_adds_1 ?_
  refine lv_aload_n hx hb dX7_adds_4 rfl (lv_at hl 0 rfl) ?_
  refine fg_X7_155 hc hw (Nat.lt_of_lt_of_le (by decide) hM) rfl dX7_adds_5 ?_
  refine lv_iload_n hx hb dX7_adds_8 rfl (lv_at hl 1 rfl) ?_
  have hin := h.1
  replace h := h.2
  refine g_iastK (Y := YM) (kd := 24) (n := 3570) (k := (gi σ 0 10).toNatClampNeg) (o := 4) YM_ok (by decide) (by decide) rfl hc hw (Nat.lt_of_lt_of_le (by decide) hM) rfl rfl hin rfl dX7_adds_9 (fun σ1 H locs eσ1 hw => ?_)
  replace h := h σ1 eσ1
  refine lv_aload_n hx hb dX7_adds_10 rfl (lv_at hl 0 rfl) ?_
  refine lv_dup hx hb dX7_adds_11 rfl ?_
  refine fg_X7_155 hc hw (Nat.lt_of_lt_of_le (by decide) hM) rfl dX7_adds_12 ?_
  refine lv_iconst (v := 1) hx hb dX7_adds_15 (by decide) ?_
  refine lv_iadd hx hb dX7_adds_16 ?_
  refine fp_X7_155 (o := 0) hc hw (Nat.lt_of_lt_of_le (by decide) hM) rfl dX7_adds_17 (fun σ2 H locs eσ2 hw => ?_)
  replace h := h σ2 eσ2
  exact g_vret hc hr hw h dX7_adds_20
def w_X7_reckon (M : Nat) (post : Int32 → St → Prop) (a1 : Int32) (a2 : Int32) (a3 : Int32) (σ : St) : Prop :=
  (a1 = 2 → ((a2 = 0 → (post 0 σ)) ∧ (¬ (a2 = 0) → ((a3 = 0 → (post 0 σ)) ∧ (¬ (a3 = 0) → (post 1 σ)))))) ∧ (¬ (a1 = 2) → ((a1 = 42 → (post (a2 * a3) σ)) ∧ (¬ (a1 = 42) → ((a1 = 43 → (post (a2 + a3) σ)) ∧ (¬ (a1 = 43) → ((a1 = 45 → (post (a2 - a3) σ)) ∧ (¬ (a1 = 45) → ((a1 = 60 → ((a3 ≤ a2 → (post 0 σ)) ∧ (¬ (a3 ≤ a2) → (post 1 σ)))) ∧ (¬ (a1 = 60) → ((a1 = 61 → ((a2 = a3 → (post 1 σ)) ∧ (¬ (a2 = a3) → (post 0 σ)))) ∧ (¬ (a1 = 61) → ((a2 = 0 → ((a3 = 0 → (post 0 σ)) ∧ (¬ (a3 = 0) → (post 1 σ)))) ∧ (¬ (a2 = 0) → (post 1 σ))))))))))))))
set_option maxHeartbeats 4000000 in
set_option maxRecDepth 20000 in
theorem m_X7_reckon {Γ : Gm} {ad : Nat → Nat} {M : Nat} (l : Launch) (hM : 20 ≤ M) {post : Int32 → St → Prop} (a1 : Int32) (a2 : Int32) (a3 : Int32) (σ : St) (h : w_X7_reckon M post a1 a2 a3 σ) : Ci l Γ YM M ad σ yX7_reckon cX7_reckon 3 (Option.some Jvm.ClassFile.FieldType.int) 0 0 0 [.int a1, .int a2, .int a3] post := by
  refine g_start (by decide) (Nat.le_of_ble_eq_true rfl) ?_
  intro p e s m args below meth c ls hc hr hn hl hw
  have hc : CX Γ p s m args meth c cX7_reckon RX7 3 := hc
  have hl : lv_has ls 3 [(0, .int a1), (1, .int a2), (2, .int a3)] := hl
  have hx := hc.1
  have hb := hc.2.1
  unfold w_X7_reckon at h
  generalize hHH : s.heap = H0 at hw ⊢
  refine lv_iload_n hx hb dX7_reckon_0 rfl (lv_at hl 0 rfl) ?_
  by_cases c1 : a1 = 2
  · replace h := h.1 c1
    refine lv_lookup (off := 93) (tgt := 94) hx hb dX7_reckon_1 (by decide) (by rw [c1]; rfl) (by decide) ?_
    refine lv_iload_n hx hb dX7_reckon_94 rfl (lv_at hl 1 rfl) ?_
    refine lv_if_eq (tgt := 106) hx hb dX7_reckon_95 (by decide) (fun c2 => ?_) (fun c2 => ?_)
    · replace h := h.1 c2
      refine lv_iconst (v := 0) hx hb dX7_reckon_106 (by decide) ?_
      exact g_iret hc hr hw h dX7_reckon_107
    · replace h := h.2 c2
      refine lv_iload_n hx hb dX7_reckon_98 rfl (lv_at hl 2 rfl) ?_
      refine lv_if_eq (tgt := 106) hx hb dX7_reckon_99 (by decide) (fun c3 => ?_) (fun c3 => ?_)
      · replace h := h.1 c3
        refine lv_iconst (v := 0) hx hb dX7_reckon_106 (by decide) ?_
        exact g_iret hc hr hw h dX7_reckon_107
      · replace h := h.2 c3
        refine lv_iconst (v := 1) hx hb dX7_reckon_102 (by decide) ?_
        refine lv_goto (tgt := 107) hx hb dX7_reckon_103 (by decide) ?_
        exact g_iret hc hr hw h dX7_reckon_107
  replace h := h.2 c1
  by_cases c4 : a1 = 42
  · replace h := h.1 c4
    refine lv_lookup (off := 67) (tgt := 68) hx hb dX7_reckon_1 (by decide) (by rw [c4]; rfl) (by decide) ?_
    refine lv_iload_n hx hb dX7_reckon_68 rfl (lv_at hl 1 rfl) ?_
    refine lv_iload_n hx hb dX7_reckon_69 rfl (lv_at hl 2 rfl) ?_
    refine lv_imul hx hb dX7_reckon_70 ?_
    exact g_iret hc hr hw h dX7_reckon_71
  replace h := h.2 c4
  by_cases c5 : a1 = 43
  · replace h := h.1 c5
    refine lv_lookup (off := 59) (tgt := 60) hx hb dX7_reckon_1 (by decide) (by rw [c5]; rfl) (by decide) ?_
    refine lv_iload_n hx hb dX7_reckon_60 rfl (lv_at hl 1 rfl) ?_
    refine lv_iload_n hx hb dX7_reckon_61 rfl (lv_at hl 2 rfl) ?_
    refine lv_iadd hx hb dX7_reckon_62 ?_
    exact g_iret hc hr hw h dX7_reckon_63
  replace h := h.2 c5
  by_cases c6 : a1 = 45
  · replace h := h.1 c6
    refine lv_lookup (off := 63) (tgt := 64) hx hb dX7_reckon_1 (by decide) (by rw [c6]; rfl) (by decide) ?_
    refine lv_iload_n hx hb dX7_reckon_64 rfl (lv_at hl 1 rfl) ?_
    refine lv_iload_n hx hb dX7_reckon_65 rfl (lv_at hl 2 rfl) ?_
    refine lv_isub hx hb dX7_reckon_66 ?_
    exact g_iret hc hr hw h dX7_reckon_67
  replace h := h.2 c6
  by_cases c7 : a1 = 60
  · replace h := h.1 c7
    refine lv_lookup (off := 71) (tgt := 72) hx hb dX7_reckon_1 (by decide) (by rw [c7]; rfl) (by decide) ?_
    refine lv_iload_n hx hb dX7_reckon_72 rfl (lv_at hl 1 rfl) ?_
    refine lv_iload_n hx hb dX7_reckon_73 rfl (lv_at hl 2 rfl) ?_
    refine lv_icmp_ge (tgt := 81) hx hb dX7_reckon_74 (by decide) (fun c8 => ?_) (fun c8 => ?_)
    · replace h := h.1 c8
      refine lv_iconst (v := 0) hx hb dX7_reckon_81 (by decide) ?_
      exact g_iret hc hr hw h dX7_reckon_82
    · replace h := h.2 c8
      refine lv_iconst (v := 1) hx hb dX7_reckon_77 (by decide) ?_
      refine lv_goto (tgt := 82) hx hb dX7_reckon_78 (by decide) ?_
      exact g_iret hc hr hw h dX7_reckon_82
  replace h := h.2 c7
  by_cases c9 : a1 = 61
  · replace h := h.1 c9
    refine lv_lookup (off := 82) (tgt := 83) hx hb dX7_reckon_1 (by decide) (by rw [c9]; rfl) (by decide) ?_
    refine lv_iload_n hx hb dX7_reckon_83 rfl (lv_at hl 1 rfl) ?_
    refine lv_iload_n hx hb dX7_reckon_84 rfl (lv_at hl 2 rfl) ?_
    refine lv_icmp_ne (tgt := 92) hx hb dX7_reckon_85 (by decide) (fun c10 => ?_) (fun c10 => ?_)
    · replace h := h.2 c10
      refine lv_iconst (v := 0) hx hb dX7_reckon_92 (by decide) ?_
      exact g_iret hc hr hw h dX7_reckon_93
    · replace h := h.1 c10
      refine lv_iconst (v := 1) hx hb dX7_reckon_88 (by decide) ?_
      refine lv_goto (tgt := 93) hx hb dX7_reckon_89 (by decide) ?_
      exact g_iret hc hr hw h dX7_reckon_93
  replace h := h.2 c9
  refine lv_lookup (off := 107) (tgt := 108) hx hb dX7_reckon_1 (by decide) (by rw [show Op.lookupswitch.offset _ _ _ = _ from lv_osw c1 (by decide), show Op.lookupswitch.offset _ _ _ = _ from lv_osw c4 (by decide), show Op.lookupswitch.offset _ _ _ = _ from lv_osw c5 (by decide), show Op.lookupswitch.offset _ _ _ = _ from lv_osw c6 (by decide), show Op.lookupswitch.offset _ _ _ = _ from lv_osw c7 (by decide), show Op.lookupswitch.offset _ _ _ = _ from lv_osw c9 (by decide)]; rfl) (by decide) ?_
  refine lv_iload_n hx hb dX7_reckon_108 rfl (lv_at hl 1 rfl) ?_
  refine lv_if_ne (tgt := 116) hx hb dX7_reckon_109 (by decide) (fun c11 => ?_) (fun c11 => ?_)
  · replace h := h.2 c11
    refine lv_iconst (v := 1) hx hb dX7_reckon_116 (by decide) ?_
    refine lv_goto (tgt := 121) hx hb dX7_reckon_117 (by decide) ?_
    exact g_iret hc hr hw h dX7_reckon_121
  · replace h := h.1 c11
    refine lv_iload_n hx hb dX7_reckon_112 rfl (lv_at hl 2 rfl) ?_
    refine lv_if_eq (tgt := 120) hx hb dX7_reckon_113 (by decide) (fun c12 => ?_) (fun c12 => ?_)
    · replace h := h.1 c12
      refine lv_iconst (v := 0) hx hb dX7_reckon_120 (by decide) ?_
      exact g_iret hc hr hw h dX7_reckon_121
    · replace h := h.2 c12
      refine lv_iconst (v := 1) hx hb dX7_reckon_116 (by decide) ?_
      refine lv_goto (tgt := 121) hx hb dX7_reckon_117 (by decide) ?_
      exact g_iret hc hr hw h dX7_reckon_121
def w_X7_forget (M : Nat) (post : Int32 → St → Prop)  (σ : St) : Prop :=
  ((gi σ 0 21) = 0 → (post (-3) σ)) ∧ (¬ ((gi σ 0 21) = 0) → (∀ σ2 : St, σ2 = si σ 0 21 ((gi σ 0 21) - 1) → (post (gi σ2 0 21) σ2)))
set_option maxHeartbeats 4000000 in
set_option maxRecDepth 20000 in
theorem m_X7_forget {Γ : Gm} {ad : Nat → Nat} {M : Nat} (l : Launch) (hM : 20 ≤ M) {post : Int32 → St → Prop}  (σ : St) (h : w_X7_forget M post  σ) : Ci l Γ YM M ad σ yX7_forget cX7_forget 1 (Option.some Jvm.ClassFile.FieldType.int) 0 0 0 [.ref (ad 0)] post := by
  refine g_start (by decide) (Nat.le_of_ble_eq_true rfl) ?_
  intro p e s m args below meth c ls hc hr hn hl hw
  have hc : CX Γ p s m args meth c cX7_forget RX7 1 := hc
  have hl : lv_has ls 1 [(0, .ref (ad 0))] := hl
  have hx := hc.1
  have hb := hc.2.1
  unfold w_X7_forget at h
  generalize hHH : s.heap = H0 at hw ⊢
  refine lv_aload_n hx hb dX7_forget_0 rfl (lv_at hl 0 rfl) ?_
  refine fg_X7_95 hc hw (Nat.lt_of_lt_of_le (by decide) hM) rfl dX7_forget_1 ?_
  refine lv_if_ne (tgt := 10) hx hb dX7_forget_4 (by decide) (fun c1 => ?_) (fun c1 => ?_)
  · replace h := h.2 c1
    refine lv_aload_n hx hb dX7_forget_10 rfl (lv_at hl 0 rfl) ?_
    refine lv_dup hx hb dX7_forget_11 rfl ?_
    refine fg_X7_95 hc hw (Nat.lt_of_lt_of_le (by decide) hM) rfl dX7_forget_12 ?_
    refine lv_iconst (v := 1) hx hb dX7_forget_15 (by decide) ?_
    refine lv_isub hx hb dX7_forget_16 ?_
    refine fp_X7_95 (o := 0) hc hw (Nat.lt_of_lt_of_le (by decide) hM) rfl dX7_forget_17 (fun σ2 H locs eσ2 hw => ?_)
    replace h := h σ2 eσ2
    refine lv_aload_n hx hb dX7_forget_20 rfl (lv_at hl 0 rfl) ?_
    refine fg_X7_95 hc hw (Nat.lt_of_lt_of_le (by decide) hM) rfl dX7_forget_21 ?_
    exact g_iret hc hr hw h dX7_forget_24
  · replace h := h.1 c1
    refine lv_bipush (v := (-3)) hx hb dX7_forget_7 (by decide) ?_
    exact g_iret hc hr hw h dX7_forget_9
def w_X7_minutesOf (M : Nat) (post : Int32 → St → Prop) (a1 : Int32) (a2 : Int32) (σ : St) : Prop :=
  (a1 = 0 → (post (1 + a2) σ)) ∧ (¬ (a1 = 0) → ((a1 = 3 → (post (1 + a2) σ)) ∧ (¬ (a1 = 3) → ((a1 = 5 → ((1 ≤ a2 → (post a2 σ)) ∧ (¬ (1 ≤ a2) → (post 1 σ)))) ∧ (¬ (a1 = 5) → (post 1 σ))))))
set_option maxHeartbeats 4000000 in
set_option maxRecDepth 20000 in
theorem m_X7_minutesOf {Γ : Gm} {ad : Nat → Nat} {M : Nat} (l : Launch) (hM : 20 ≤ M) {post : Int32 → St → Prop} (a1 : Int32) (a2 : Int32) (σ : St) (h : w_X7_minutesOf M post a1 a2 σ) : Ci l Γ YM M ad σ yX7_minutesOf cX7_minutesOf 2 (Option.some Jvm.ClassFile.FieldType.int) 0 0 0 [.int a1, .int a2] post := by
  refine g_start (by decide) (Nat.le_of_ble_eq_true rfl) ?_
  intro p e s m args below meth c ls hc hr hn hl hw
  have hc : CX Γ p s m args meth c cX7_minutesOf RX7 2 := hc
  have hl : lv_has ls 2 [(0, .int a1), (1, .int a2)] := hl
  have hx := hc.1
  have hb := hc.2.1
  unfold w_X7_minutesOf at h
  generalize hHH : s.heap = H0 at hw ⊢
  refine lv_iload_n hx hb dX7_minutesOf_0 rfl (lv_at hl 0 rfl) ?_
  by_cases c1 : a1 = 0
  · replace h := h.1 c1
    refine lv_lookup (off := 35) (tgt := 36) hx hb dX7_minutesOf_1 (by decide) (by rw [c1]; rfl) (by decide) ?_
    refine lv_iconst (v := 1) hx hb dX7_minutesOf_36 (by decide) ?_
    refine lv_iload_n hx hb dX7_minutesOf_37 rfl (lv_at hl 1 rfl) ?_
    refine lv_iadd hx hb dX7_minutesOf_38 ?_
    exact g_iret hc hr hw h dX7_minutesOf_39
  replace h := h.2 c1
  by_cases c2 : a1 = 3
  · replace h := h.1 c2
    refine lv_lookup (off := 35) (tgt := 36) hx hb dX7_minutesOf_1 (by decide) (by rw [c2]; rfl) (by decide) ?_
    refine lv_iconst (v := 1) hx hb dX7_minutesOf_36 (by decide) ?_
    refine lv_iload_n hx hb dX7_minutesOf_37 rfl (lv_at hl 1 rfl) ?_
    refine lv_iadd hx hb dX7_minutesOf_38 ?_
    exact g_iret hc hr hw h dX7_minutesOf_39
  replace h := h.2 c2
  by_cases c3 : a1 = 5
  · replace h := h.1 c3
    refine lv_lookup (off := 39) (tgt := 40) hx hb dX7_minutesOf_1 (by decide) (by rw [c3]; rfl) (by decide) ?_
    refine lv_iload_n hx hb dX7_minutesOf_40 rfl (lv_at hl 1 rfl) ?_
    refine lv_iconst (v := 1) hx hb dX7_minutesOf_41 (by decide) ?_
    refine lv_icmp_ge (tgt := 49) hx hb dX7_minutesOf_42 (by decide) (fun c4 => ?_) (fun c4 => ?_)
    · replace h := h.1 c4
      refine lv_iload_n hx hb dX7_minutesOf_49 rfl (lv_at hl 1 rfl) ?_
      exact g_iret hc hr hw h dX7_minutesOf_50
    · replace h := h.2 c4
      refine lv_iconst (v := 1) hx hb dX7_minutesOf_45 (by decide) ?_
      refine lv_goto (tgt := 50) hx hb dX7_minutesOf_46 (by decide) ?_
      exact g_iret hc hr hw h dX7_minutesOf_50
  replace h := h.2 c3
  refine lv_lookup (off := 50) (tgt := 51) hx hb dX7_minutesOf_1 (by decide) (by rw [show Op.lookupswitch.offset _ _ _ = _ from lv_osw c1 (by decide), show Op.lookupswitch.offset _ _ _ = _ from lv_osw c2 (by decide), show Op.lookupswitch.offset _ _ _ = _ from lv_osw c3 (by decide)]; rfl) (by decide) ?_
  refine lv_iconst (v := 1) hx hb dX7_minutesOf_51 (by decide) ?_
  exact g_iret hc hr hw h dX7_minutesOf_52
def w_X7_begins_2 (M : Nat) (post : St → Prop) (k_2 : Int32 → St → Prop) (v1 : Int32) (σ : St) : Prop :=
  (14 ≤ v1 → (∀ σ2 : St, σ2 = si σ 13 5 (gi σ 2 1) → (∀ σ3 : St, σ3 = si σ2 13 6 (gi σ2 2 2) → (∀ σ4 : St, σ4 = si σ3 13 8 20 → (∀ σ5 : St, σ5 = si σ4 13 13 (gi σ4 2 0) → (∀ σ6 : St, σ6 = si σ5 0 26 0 → (post σ6))))))) ∧ (¬ (14 ≤ v1) → ((vp_in v1 14) ∧ (∀ σ7 : St, σ7 = si σ 13 v1.toNatClampNeg 0 → (∀ x8 : Int32, x8 = v1 + 1 → (k_2 x8 σ7)))))
set_option maxHeartbeats 4000000 in
set_option maxRecDepth 20000 in
theorem b_X7_begins_2 {Γ : Gm} {ad : Nat → Nat} {p : Program} {l : Launch} {e : Env} {s : State} {m : MethodId} {args : Array Value} {below : List Frame} {meth : Method} {c : Code} {M : Nat} (hM : 20 ≤ M) {post : St → Prop} {k_2 : Int32 → St → Prop} (hk_2 : ∀ (v1 : Int32) (σ : St) (H : Heap) (locs : List Loc) (ls : Array Slot), k_2 v1 σ → WH Γ YM M ad σ s H locs → lv_has ls 2 [(0, .ref (ad 0)), (1, .int v1)] → W p l e (rmL 0 0 0) s m args below meth c H locs 0 0 (MQ below (va_Qv post (fun u t => WC Γ YM M ad u t) (AA Γ)) args s 0 0 (AA Γ)) (F0 m 2 ls []))
    (v1 : Int32) (σ : St) (H : Heap) (locs : List Loc) (ls : Array Slot) (h : w_X7_begins_2 M post k_2 v1 σ) (hc : CX Γ p s m args meth c cX7_begins RX7 2) (hr : meth.sig.returnType = none) (hw : WH Γ YM M ad σ s H locs) (hl : lv_has ls 2 [(0, .ref (ad 0)), (1, .int v1)]) :
    W p l e (rmL 0 0 0) s m args below meth c H locs 0 0 (MQ below (va_Qv post (fun u t => WC Γ YM M ad u t) (AA Γ)) args s 0 0 (AA Γ)) (F0 m 2 ls []) := by
  have hx := hc.1
  have hb := hc.2.1
  unfold w_X7_begins_2 at h
  refine lv_iload_n hx hb dX7_begins_2 rfl (lv_at hl 1 rfl) ?_
  refine lv_bipush (v := 14) hx hb dX7_begins_3 (by decide) ?_
  refine lv_icmp_ge (tgt := 21) hx hb dX7_begins_5 (by decide) (fun c1 => ?_) (fun c1 => ?_)
  · replace h := h.1 c1
    refine lv_aload_n hx hb dX7_begins_21 rfl (lv_at hl 0 rfl) ?_
    refine fg_X7_47 hc hw (Nat.lt_of_lt_of_le (by decide) hM) rfl dX7_begins_22 ?_
    refine lv_iconst (v := 5) hx hb dX7_begins_25 (by decide) ?_
    refine lv_aload_n hx hb dX7_begins_26 rfl (lv_at hl 0 rfl) ?_
    refine fg_X7_13 hc hw (Nat.lt_of_lt_of_le (by decide) hM) rfl dX7_begins_27 ?_
    refine lv_iconst (v := 1) hx hb dX7_begins_30 (by decide) ?_
    refine g_ialdK (Y := YM) (kd := 22) (n := 3) (k := 1) (o := 2) (by decide) (by decide) rfl hc hw (Nat.lt_of_lt_of_le (by decide) hM) rfl rfl (vp_in_lit (by decide)) (by decide) dX7_begins_31 ?_
    refine g_iastK (Y := YM) (kd := 33) (n := 14) (k := 5) (o := 13) YM_ok (by decide) (by decide) rfl hc hw (Nat.lt_of_lt_of_le (by decide) hM) rfl rfl (vp_in_lit (by decide)) (by decide) dX7_begins_32 (fun σ2 H locs eσ2 hw => ?_)
    replace h := h σ2 eσ2
    refine lv_aload_n hx hb dX7_begins_33 rfl (lv_at hl 0 rfl) ?_
    refine fg_X7_47 hc hw (Nat.lt_of_lt_of_le (by decide) hM) rfl dX7_begins_34 ?_
    refine lv_bipush (v := 6) hx hb dX7_begins_37 (by decide) ?_
    refine lv_aload_n hx hb dX7_begins_39 rfl (lv_at hl 0 rfl) ?_
    refine fg_X7_13 hc hw (Nat.lt_of_lt_of_le (by decide) hM) rfl dX7_begins_40 ?_
    refine lv_iconst (v := 2) hx hb dX7_begins_43 (by decide) ?_
    refine g_ialdK (Y := YM) (kd := 22) (n := 3) (k := 2) (o := 2) (by decide) (by decide) rfl hc hw (Nat.lt_of_lt_of_le (by decide) hM) rfl rfl (vp_in_lit (by decide)) (by decide) dX7_begins_44 ?_
    refine g_iastK (Y := YM) (kd := 33) (n := 14) (k := 6) (o := 13) YM_ok (by decide) (by decide) rfl hc hw (Nat.lt_of_lt_of_le (by decide) hM) rfl rfl (vp_in_lit (by decide)) (by decide) dX7_begins_45 (fun σ3 H locs eσ3 hw => ?_)
    replace h := h σ3 eσ3
    refine lv_aload_n hx hb dX7_begins_46 rfl (lv_at hl 0 rfl) ?_
    refine fg_X7_47 hc hw (Nat.lt_of_lt_of_le (by decide) hM) rfl dX7_begins_47 ?_
    refine lv_bipush (v := 8) hx hb dX7_begins_50 (by decide) ?_
    refine lv_bipush (v := 20) hx hb dX7_begins_52 (by decide) ?_
    refine g_iastK (Y := YM) (kd := 33) (n := 14) (k := 8) (o := 13) YM_ok (by decide) (by decide) rfl hc hw (Nat.lt_of_lt_of_le (by decide) hM) rfl rfl (vp_in_lit (by decide)) (by decide) dX7_begins_54 (fun σ4 H locs eσ4 hw => ?_)
    replace h := h σ4 eσ4
    refine lv_aload_n hx hb dX7_begins_55 rfl (lv_at hl 0 rfl) ?_
    refine fg_X7_47 hc hw (Nat.lt_of_lt_of_le (by decide) hM) rfl dX7_begins_56 ?_
    refine lv_bipush (v := 13) hx hb dX7_begins_59 (by decide) ?_
    refine lv_aload_n hx hb dX7_begins_61 rfl (lv_at hl 0 rfl) ?_
    refine fg_X7_13 hc hw (Nat.lt_of_lt_of_le (by decide) hM) rfl dX7_begins_62 ?_
    refine lv_iconst (v := 0) hx hb dX7_begins_65 (by decide) ?_
    refine g_ialdK (Y := YM) (kd := 22) (n := 3) (k := 0) (o := 2) (by decide) (by decide) rfl hc hw (Nat.lt_of_lt_of_le (by decide) hM) rfl rfl (vp_in_lit (by decide)) (by decide) dX7_begins_66 ?_
    refine g_iastK (Y := YM) (kd := 33) (n := 14) (k := 13) (o := 13) YM_ok (by decide) (by decide) rfl hc hw (Nat.lt_of_lt_of_le (by decide) hM) rfl rfl (vp_in_lit (by decide)) (by decide) dX7_begins_67 (fun σ5 H locs eσ5 hw => ?_)
    replace h := h σ5 eσ5
    refine lv_aload_n hx hb dX7_begins_68 rfl (lv_at hl 0 rfl) ?_
    refine lv_iconst (v := 0) hx hb dX7_begins_69 (by decide) ?_
    refine fp_X7_213 (o := 0) rfl rfl hc hw (Nat.lt_of_lt_of_le (by decide) hM) rfl dX7_begins_70 (fun σ6 H locs eσ6 hw => ?_)
    replace h := h σ6 eσ6
    exact g_vret hc hr hw h dX7_begins_73
  · replace h := h.2 c1
    refine lv_aload_n hx hb dX7_begins_8 rfl (lv_at hl 0 rfl) ?_
    refine fg_X7_47 hc hw (Nat.lt_of_lt_of_le (by decide) hM) rfl dX7_begins_9 ?_
    refine lv_iload_n hx hb dX7_begins_12 rfl (lv_at hl 1 rfl) ?_
    refine lv_iconst (v := 0) hx hb dX7_begins_13 (by decide) ?_
    have hin := h.1
    replace h := h.2
    refine g_iastK (Y := YM) (kd := 33) (n := 14) (k := v1.toNatClampNeg) (o := 13) YM_ok (by decide) (by decide) rfl hc hw (Nat.lt_of_lt_of_le (by decide) hM) rfl rfl hin rfl dX7_begins_14 (fun σ7 H locs eσ7 hw => ?_)
    replace h := h σ7 eσ7
    obtain ⟨x8, ex8⟩ : ∃ z, z = v1 + 1 := ⟨_, rfl⟩
    replace h := h x8 ex8
    refine lv_iinc (v := x8) (lv' := [(1, .int x8), (0, .ref (ad 0))]) hx hb dX7_begins_15 hl (k := 1) rfl (by rw [ex8]; rfl) (by decide) rfl (fun ls hl => ?_)
    refine lv_goto (tgt := 2) hx hb dX7_begins_18 (by decide) ?_
    exact hk_2 x8 σ7 _ _ _ h  hw (lv_sub hl [1, 0] rfl)
def wl_X7_begins_2 (M : Nat) (post : St → Prop) : Nat → Int32 → St → Prop
  | 0, _, _ => False
  | n + 1, v1, σ => w_X7_begins_2 M post (wl_X7_begins_2 M post n) v1 σ
set_option maxHeartbeats 4000000 in
theorem bl_X7_begins_2 {Γ : Gm} {ad : Nat → Nat} {p : Program} {l : Launch} {e : Env} {s : State} {m : MethodId} {args : Array Value} {below : List Frame} {meth : Method} {c : Code} {M : Nat} (hM : 20 ≤ M) {post : St → Prop}
    (hc : CX Γ p s m args meth c cX7_begins RX7 2) (hr : meth.sig.returnType = none) :
    ∀ (n : Nat) (v1 : Int32) (σ : St) (H : Heap) (locs : List Loc) (ls : Array Slot), wl_X7_begins_2 M post n v1 σ → WH Γ YM M ad σ s H locs → lv_has ls 2 [(0, .ref (ad 0)), (1, .int v1)] → W p l e (rmL 0 0 0) s m args below meth c H locs 0 0 (MQ below (va_Qv post (fun u t => WC Γ YM M ad u t) (AA Γ)) args s 0 0 (AA Γ)) (F0 m 2 ls []) := by
  intro n
  induction n with
  | zero => intro v1 σ H locs ls h; exact h.elim
  | succ n ih =>
    intro v1 σ H locs ls h  hw hl
    exact b_X7_begins_2 hM ih v1 σ H locs ls h  hc hr hw hl
def w_X7_begins (M : Nat) (post : St → Prop)  (σ : St) : Prop :=
  ∃ n, wl_X7_begins_2 M post n 0 σ
set_option maxHeartbeats 4000000 in
set_option maxRecDepth 20000 in
theorem m_X7_begins {Γ : Gm} {ad : Nat → Nat} {M : Nat} (l : Launch) (hM : 20 ≤ M) {post : St → Prop}  (σ : St) (h : w_X7_begins M post  σ) : Cv l Γ YM M ad σ yX7_begins cX7_begins 2 none 0 0 0 [.ref (ad 0)] post := by
  refine g_start (by decide) (Nat.le_of_ble_eq_true rfl) ?_
  intro p e s m args below meth c ls hc hr hn hl hw
  have hc : CX Γ p s m args meth c cX7_begins RX7 2 := hc
  have hl : lv_has ls 2 [(0, .ref (ad 0))] := hl
  have hx := hc.1
  have hb := hc.2.1
  unfold w_X7_begins at h
  generalize hHH : s.heap = H0 at hw ⊢
  refine lv_iconst (v := 0) hx hb dX7_begins_0 (by decide) ?_
  refine lv_istore_n (lv' := [(1, .int 0), (0, .ref (ad 0))]) hx hb dX7_begins_1 rfl hl (by decide) rfl (fun ls hl => ?_)
  obtain ⟨n, h⟩ := h
  exact bl_X7_begins_2 hM hc hr n 0 σ _ _ _ h  hw (lv_sub hl [1, 0] rfl)
def w_X7_strokesOf_42 (M : Nat) (post : St → Prop) (v1 : Int32) (t0 : Int32) (σ : St) : Prop :=
  ∀ σ1 : St, σ1 = si σ 13 4 ((gi σ 13 4) - t0) → (∀ σ2 : St, σ2 = si σ1 13 3 ((gi σ1 13 3) + t0) → ((v1 ≤ (gi σ2 13 10) → (∀ σ4 : St, σ4 = si σ2 13 10 ((gi σ2 13 10) - v1) → (post σ4))) ∧ (¬ (v1 ≤ (gi σ2 13 10)) → (∀ σ5 : St, σ5 = si σ2 13 10 0 → (post σ5)))))
set_option maxHeartbeats 4000000 in
set_option maxRecDepth 20000 in
theorem b_X7_strokesOf_42 {Γ : Gm} {ad : Nat → Nat} {p : Program} {l : Launch} {e : Env} {s : State} {m : MethodId} {args : Array Value} {below : List Frame} {meth : Method} {c : Code} {M : Nat} (hM : 20 ≤ M) {post : St → Prop}
    (v1 : Int32) (t0 : Int32) (σ : St) (H : Heap) (locs : List Loc) (ls : Array Slot) (h : w_X7_strokesOf_42 M post v1 t0 σ) (hc : CX Γ p s m args meth c cX7_strokesOf RX7 3) (hr : meth.sig.returnType = none) (hw : WH Γ YM M ad σ s H locs) (hl : lv_has ls 3 [(0, .ref (ad 0)), (1, .int v1)]) :
    W p l e (rmL 0 0 0) s m args below meth c H locs 0 0 (MQ below (va_Qv post (fun u t => WC Γ YM M ad u t) (AA Γ)) args s 0 0 (AA Γ)) (F0 m 42 ls [.int t0]) := by
  have hx := hc.1
  have hb := hc.2.1
  unfold w_X7_strokesOf_42 at h
  refine lv_istore_n (lv' := [(2, .int t0), (0, .ref (ad 0)), (1, .int v1)]) hx hb dX7_strokesOf_42 rfl hl (by decide) rfl (fun ls hl => ?_)
  refine lv_aload_n hx hb dX7_strokesOf_43 rfl (lv_at hl 1 rfl) ?_
  refine fg_X7_47 hc hw (Nat.lt_of_lt_of_le (by decide) hM) rfl dX7_strokesOf_44 ?_
  refine lv_iconst (v := 4) hx hb dX7_strokesOf_47 (by decide) ?_
  refine lv_dup2_11 hx hb dX7_strokesOf_48 rfl rfl ?_
  refine g_ialdK (Y := YM) (kd := 33) (n := 14) (k := 4) (o := 13) (by decide) (by decide) rfl hc hw (Nat.lt_of_lt_of_le (by decide) hM) rfl rfl (vp_in_lit (by decide)) (by decide) dX7_strokesOf_49 ?_
  refine lv_iload_n hx hb dX7_strokesOf_50 rfl (lv_at hl 0 rfl) ?_
  refine lv_isub hx hb dX7_strokesOf_51 ?_
  refine g_iastK (Y := YM) (kd := 33) (n := 14) (k := 4) (o := 13) YM_ok (by decide) (by decide) rfl hc hw (Nat.lt_of_lt_of_le (by decide) hM) rfl rfl (vp_in_lit (by decide)) (by decide) dX7_strokesOf_52 (fun σ1 H locs eσ1 hw => ?_)
  replace h := h σ1 eσ1
  refine lv_aload_n hx hb dX7_strokesOf_53 rfl (lv_at hl 1 rfl) ?_
  refine fg_X7_47 hc hw (Nat.lt_of_lt_of_le (by decide) hM) rfl dX7_strokesOf_54 ?_
  refine lv_iconst (v := 3) hx hb dX7_strokesOf_57 (by decide) ?_
  refine lv_dup2_11 hx hb dX7_strokesOf_58 rfl rfl ?_
  refine g_ialdK (Y := YM) (kd := 33) (n := 14) (k := 3) (o := 13) (by decide) (by decide) rfl hc hw (Nat.lt_of_lt_of_le (by decide) hM) rfl rfl (vp_in_lit (by decide)) (by decide) dX7_strokesOf_59 ?_
  refine lv_iload_n hx hb dX7_strokesOf_60 rfl (lv_at hl 0 rfl) ?_
  refine lv_iadd hx hb dX7_strokesOf_61 ?_
  refine g_iastK (Y := YM) (kd := 33) (n := 14) (k := 3) (o := 13) YM_ok (by decide) (by decide) rfl hc hw (Nat.lt_of_lt_of_le (by decide) hM) rfl rfl (vp_in_lit (by decide)) (by decide) dX7_strokesOf_62 (fun σ2 H locs eσ2 hw => ?_)
  replace h := h σ2 eσ2
  refine lv_aload_n hx hb dX7_strokesOf_63 rfl (lv_at hl 1 rfl) ?_
  refine fg_X7_47 hc hw (Nat.lt_of_lt_of_le (by decide) hM) rfl dX7_strokesOf_64 ?_
  refine lv_bipush (v := 10) hx hb dX7_strokesOf_67 (by decide) ?_
  refine lv_aload_n hx hb dX7_strokesOf_69 rfl (lv_at hl 1 rfl) ?_
  refine fg_X7_47 hc hw (Nat.lt_of_lt_of_le (by decide) hM) rfl dX7_strokesOf_70 ?_
  refine lv_bipush (v := 10) hx hb dX7_strokesOf_73 (by decide) ?_
  refine g_ialdK (Y := YM) (kd := 33) (n := 14) (k := 10) (o := 13) (by decide) (by decide) rfl hc hw (Nat.lt_of_lt_of_le (by decide) hM) rfl rfl (vp_in_lit (by decide)) (by decide) dX7_strokesOf_75 ?_
  refine lv_iload_n hx hb dX7_strokesOf_76 rfl (lv_at hl 2 rfl) ?_
  refine lv_icmp_ge (tgt := 84) hx hb dX7_strokesOf_77 (by decide) (fun c3 => ?_) (fun c3 => ?_)
  · replace h := h.1 c3
    refine lv_aload_n hx hb dX7_strokesOf_84 rfl (lv_at hl 1 rfl) ?_
    refine fg_X7_47 hc hw (Nat.lt_of_lt_of_le (by decide) hM) rfl dX7_strokesOf_85 ?_
    refine lv_bipush (v := 10) hx hb dX7_strokesOf_88 (by decide) ?_
    refine g_ialdK (Y := YM) (kd := 33) (n := 14) (k := 10) (o := 13) (by decide) (by decide) rfl hc hw (Nat.lt_of_lt_of_le (by decide) hM) rfl rfl (vp_in_lit (by decide)) (by decide) dX7_strokesOf_90 ?_
    refine lv_iload_n hx hb dX7_strokesOf_91 rfl (lv_at hl 2 rfl) ?_
    refine lv_isub hx hb dX7_strokesOf_92 ?_
    refine g_iastK (Y := YM) (kd := 33) (n := 14) (k := 10) (o := 13) YM_ok (by decide) (by decide) rfl hc hw (Nat.lt_of_lt_of_le (by decide) hM) rfl rfl (vp_in_lit (by decide)) (by decide) dX7_strokesOf_93 (fun σ4 H locs eσ4 hw => ?_)
    replace h := h σ4 eσ4
    exact g_vret hc hr hw h dX7_strokesOf_94
  · replace h := h.2 c3
    refine lv_iconst (v := 0) hx hb dX7_strokesOf_80 (by decide) ?_
    refine lv_goto (tgt := 93) hx hb dX7_strokesOf_81 (by decide) ?_
    refine g_iastK (Y := YM) (kd := 33) (n := 14) (k := 10) (o := 13) YM_ok (by decide) (by decide) rfl hc hw (Nat.lt_of_lt_of_le (by decide) hM) rfl rfl (vp_in_lit (by decide)) (by decide) dX7_strokesOf_93 (fun σ5 H locs eσ5 hw => ?_)
    replace h := h σ5 eσ5
    exact g_vret hc hr hw h dX7_strokesOf_94
def w_X7_strokesOf (M : Nat) (post : St → Prop) (a1 : Int32) (σ : St) : Prop :=
  ∀ x1 : Int32, x1 = (1 + (gi σ 13 7)) + ((gi σ 13 1) / 20) → (((a1 * x1) ≤ (gi σ 13 4) → (w_X7_strokesOf_42 M post a1 (a1 * x1) σ)) ∧ (¬ ((a1 * x1) ≤ (gi σ 13 4)) → (w_X7_strokesOf_42 M post a1 (gi σ 13 4) σ)))
set_option maxHeartbeats 4000000 in
set_option maxRecDepth 20000 in
theorem m_X7_strokesOf {Γ : Gm} {ad : Nat → Nat} {M : Nat} (l : Launch) (hM : 20 ≤ M) {post : St → Prop} (a1 : Int32) (σ : St) (h : w_X7_strokesOf M post a1 σ) : Cv l Γ YM M ad σ yX7_strokesOf cX7_strokesOf 3 none 0 0 0 [.ref (ad 0), .int a1] post := by
  refine g_start (by decide) (Nat.le_of_ble_eq_true rfl) ?_
  intro p e s m args below meth c ls hc hr hn hl hw
  have hc : CX Γ p s m args meth c cX7_strokesOf RX7 3 := hc
  have hl : lv_has ls 3 [(0, .ref (ad 0)), (1, .int a1)] := hl
  have hx := hc.1
  have hb := hc.2.1
  unfold w_X7_strokesOf at h
  generalize hHH : s.heap = H0 at hw ⊢
  refine lv_iload_n hx hb dX7_strokesOf_0 rfl (lv_at hl 1 rfl) ?_
  refine lv_iconst (v := 1) hx hb dX7_strokesOf_1 (by decide) ?_
  refine lv_aload_n hx hb dX7_strokesOf_2 rfl (lv_at hl 0 rfl) ?_
  refine fg_X7_47 hc hw (Nat.lt_of_lt_of_le (by decide) hM) rfl dX7_strokesOf_3 ?_
  refine lv_bipush (v := 7) hx hb dX7_strokesOf_6 (by decide) ?_
  refine g_ialdK (Y := YM) (kd := 33) (n := 14) (k := 7) (o := 13) (by decide) (by decide) rfl hc hw (Nat.lt_of_lt_of_le (by decide) hM) rfl rfl (vp_in_lit (by decide)) (by decide) dX7_strokesOf_8 ?_
  refine lv_iadd hx hb dX7_strokesOf_9 ?_
  refine lv_aload_n hx hb dX7_strokesOf_10 rfl (lv_at hl 0 rfl) ?_
  refine fg_X7_47 hc hw (Nat.lt_of_lt_of_le (by decide) hM) rfl dX7_strokesOf_11 ?_
  refine lv_iconst (v := 1) hx hb dX7_strokesOf_14 (by decide) ?_
  refine g_ialdK (Y := YM) (kd := 33) (n := 14) (k := 1) (o := 13) (by decide) (by decide) rfl hc hw (Nat.lt_of_lt_of_le (by decide) hM) rfl rfl (vp_in_lit (by decide)) (by decide) dX7_strokesOf_15 ?_
  refine lv_bipush (v := 20) hx hb dX7_strokesOf_16 (by decide) ?_
  refine lv_idiv hx hb dX7_strokesOf_18 (by decide) ?_
  refine lv_iadd hx hb dX7_strokesOf_19 ?_
  refine lv_topi (fun x1 ex1 => ?_)
  replace h := h x1 ex1
  refine lv_imul hx hb dX7_strokesOf_20 ?_
  refine lv_istore_n (lv' := [(2, .int (a1 * x1)), (0, .ref (ad 0)), (1, .int a1)]) hx hb dX7_strokesOf_21 rfl hl (by decide) rfl (fun ls hl => ?_)
  refine lv_iload_n hx hb dX7_strokesOf_22 rfl (lv_at hl 0 rfl) ?_
  refine lv_aload_n hx hb dX7_strokesOf_23 rfl (lv_at hl 1 rfl) ?_
  refine fg_X7_47 hc hw (Nat.lt_of_lt_of_le (by decide) hM) rfl dX7_strokesOf_24 ?_
  refine lv_iconst (v := 4) hx hb dX7_strokesOf_27 (by decide) ?_
  refine g_ialdK (Y := YM) (kd := 33) (n := 14) (k := 4) (o := 13) (by decide) (by decide) rfl hc hw (Nat.lt_of_lt_of_le (by decide) hM) rfl rfl (vp_in_lit (by decide)) (by decide) dX7_strokesOf_28 ?_
  refine lv_icmp_le (tgt := 41) hx hb dX7_strokesOf_29 (by decide) (fun c2 => ?_) (fun c2 => ?_)
  · replace h := h.1 c2
    refine lv_iload_n hx hb dX7_strokesOf_41 rfl (lv_at hl 0 rfl) ?_
    exact b_X7_strokesOf_42 hM a1 (a1 * x1) σ _ _ _ h  hc hr hw (lv_sub hl [1, 2] rfl)
  · replace h := h.2 c2
    refine lv_aload_n hx hb dX7_strokesOf_32 rfl (lv_at hl 1 rfl) ?_
    refine fg_X7_47 hc hw (Nat.lt_of_lt_of_le (by decide) hM) rfl dX7_strokesOf_33 ?_
    refine lv_iconst (v := 4) hx hb dX7_strokesOf_36 (by decide) ?_
    refine g_ialdK (Y := YM) (kd := 33) (n := 14) (k := 4) (o := 13) (by decide) (by decide) rfl hc hw (Nat.lt_of_lt_of_le (by decide) hM) rfl rfl (vp_in_lit (by decide)) (by decide) dX7_strokesOf_37 ?_
    refine lv_goto (tgt := 42) hx hb dX7_strokesOf_38 (by decide) ?_
    exact b_X7_strokesOf_42 hM a1 (gi σ 13 4) σ _ _ _ h  hc hr hw (lv_sub hl [1, 2] rfl)
def w_X7_drawsHeat (M : Nat) (post : Int32 → St → Prop)  (σ : St) : Prop :=
  ((gi σ 0 26) = 0 → (post 0 σ)) ∧ (¬ ((gi σ 0 26) = 0) → (∀ y2 : Int64, y2 = (gl σ 0) - (gl σ 0) / 9 * 9 → (∀ y3 : Int64, y3 = ((gl σ 0) * 48271) - ((gl σ 0) * 48271) / 2147483647 * 2147483647 → (∀ σ4 : St, σ4 = sl σ 0 y3 → (post (y2.toInt32 - 4) σ4)))))
set_option maxHeartbeats 4000000 in
set_option maxRecDepth 20000 in
theorem m_X7_drawsHeat {Γ : Gm} {ad : Nat → Nat} {M : Nat} (l : Launch) (hM : 20 ≤ M) {post : Int32 → St → Prop}  (σ : St) (h : w_X7_drawsHeat M post  σ) : Ci l Γ YM M ad σ yX7_drawsHeat cX7_drawsHeat 2 (Option.some Jvm.ClassFile.FieldType.int) 0 0 0 [.ref (ad 0)] post := by
  refine g_start (by decide) (Nat.le_of_ble_eq_true rfl) ?_
  intro p e s m args below meth c ls hc hr hn hl hw
  have hc : CX Γ p s m args meth c cX7_drawsHeat RX7 2 := hc
  have hl : lv_has ls 2 [(0, .ref (ad 0))] := hl
  have hx := hc.1
  have hb := hc.2.1
  unfold w_X7_drawsHeat at h
  generalize hHH : s.heap = H0 at hw ⊢
  refine lv_aload_n hx hb dX7_drawsHeat_0 rfl (lv_at hl 0 rfl) ?_
  refine fg_X7_213 hc hw (Nat.lt_of_lt_of_le (by decide) hM) rfl dX7_drawsHeat_1 ?_
  refine lv_if_ne (tgt := 9) hx hb dX7_drawsHeat_4 (by decide) (fun c1 => ?_) (fun c1 => ?_)
  · replace h := h.2 c1
    refine lv_aload_n hx hb dX7_drawsHeat_9 rfl (lv_at hl 0 rfl) ?_
    refine fg_X7_216 hc hw (Nat.lt_of_lt_of_le (by decide) hM) rfl dX7_drawsHeat_10 ?_
    refine lv_ldc2 (v := 9) hx hb hc.2.2.2.1 (hc.2.2.2.2.1 _ q_1101) dX7_drawsHeat_13 ?_
    refine lv_lrem hx hb dX7_drawsHeat_16 (by decide) ?_
    refine lv_topl (fun y2 ey2 => ?_)
    replace h := h y2 ey2
    refine lv_l2i (v := y2.toInt32) hx hb dX7_drawsHeat_17 rfl ?_
    refine lv_iconst (v := 4) hx hb dX7_drawsHeat_18 (by decide) ?_
    refine lv_isub hx hb dX7_drawsHeat_19 ?_
    refine lv_istore_n (lv' := [(1, .int (y2.toInt32 - 4)), (0, .ref (ad 0))]) hx hb dX7_drawsHeat_20 rfl hl (by decide) rfl (fun ls hl => ?_)
    refine lv_aload_n hx hb dX7_drawsHeat_21 rfl (lv_at hl 1 rfl) ?_
    refine lv_aload_n hx hb dX7_drawsHeat_22 rfl (lv_at hl 1 rfl) ?_
    refine fg_X7_216 hc hw (Nat.lt_of_lt_of_le (by decide) hM) rfl dX7_drawsHeat_23 ?_
    refine lv_ldc2 (v := 48271) hx hb hc.2.2.2.1 (hc.2.2.2.2.1 _ q_1259) dX7_drawsHeat_26 ?_
    refine lv_lmul hx hb dX7_drawsHeat_29 ?_
    refine lv_ldc2 (v := 2147483647) hx hb hc.2.2.2.1 (hc.2.2.2.2.1 _ q_1260) dX7_drawsHeat_30 ?_
    refine lv_lrem hx hb dX7_drawsHeat_33 (by decide) ?_
    refine lv_topl (fun y3 ey3 => ?_)
    replace h := h y3 ey3
    refine fp_X7_216 (o := 0) hc hw (Nat.lt_of_lt_of_le (by decide) hM) rfl dX7_drawsHeat_34 (fun σ4 H locs eσ4 hw => ?_)
    replace h := h σ4 eσ4
    refine lv_iload_n hx hb dX7_drawsHeat_37 rfl (lv_at hl 0 rfl) ?_
    exact g_iret hc hr hw h dX7_drawsHeat_38
  · replace h := h.1 c1
    refine lv_iconst (v := 0) hx hb dX7_drawsHeat_7 (by decide) ?_
    exact g_iret hc hr hw h dX7_drawsHeat_8
def w_X7_thick (M : Nat) (post : Int32 → St → Prop)  (σ : St) : Prop :=
  ∀ x1 : Int32, x1 = (gi σ 13 1) + (3 * (gi σ 13 7)) → ((1 ≤ ((gi σ 13 5) / 10) → ((¬ ((gi σ 13 5) / 10) = 0) ∧ (∀ x3 : Int32, x3 = (x1 + (gi σ 13 3)) / ((gi σ 13 5) / 10) → (post x3 σ)))) ∧ (¬ (1 ≤ ((gi σ 13 5) / 10)) → (post ((x1 + (gi σ 13 3)) / 1) σ)))
set_option maxHeartbeats 4000000 in
set_option maxRecDepth 20000 in
theorem m_X7_thick {Γ : Gm} {ad : Nat → Nat} {M : Nat} (l : Launch) (hM : 20 ≤ M) {post : Int32 → St → Prop}  (σ : St) (h : w_X7_thick M post  σ) : Ci l Γ YM M ad σ yX7_thick cX7_thick 2 (Option.some Jvm.ClassFile.FieldType.int) 0 0 0 [.ref (ad 0)] post := by
  refine g_start (by decide) (Nat.le_of_ble_eq_true rfl) ?_
  intro p e s m args below meth c ls hc hr hn hl hw
  have hc : CX Γ p s m args meth c cX7_thick RX7 2 := hc
  have hl : lv_has ls 2 [(0, .ref (ad 0))] := hl
  have hx := hc.1
  have hb := hc.2.1
  unfold w_X7_thick at h
  generalize hHH : s.heap = H0 at hw ⊢
  refine lv_aload_n hx hb dX7_thick_0 rfl (lv_at hl 0 rfl) ?_
  refine fg_X7_47 hc hw (Nat.lt_of_lt_of_le (by decide) hM) rfl dX7_thick_1 ?_
  refine lv_iconst (v := 5) hx hb dX7_thick_4 (by decide) ?_
  refine g_ialdK (Y := YM) (kd := 33) (n := 14) (k := 5) (o := 13) (by decide) (by decide) rfl hc hw (Nat.lt_of_lt_of_le (by decide) hM) rfl rfl (vp_in_lit (by decide)) (by decide) dX7_thick_5 ?_
  refine lv_bipush (v := 10) hx hb dX7_thick_6 (by decide) ?_
  refine lv_idiv hx hb dX7_thick_8 (by decide) ?_
  refine lv_istore_n (lv' := [(1, .int ((gi σ 13 5) / 10)), (0, .ref (ad 0))]) hx hb dX7_thick_9 rfl hl (by decide) rfl (fun ls hl => ?_)
  refine lv_aload_n hx hb dX7_thick_10 rfl (lv_at hl 1 rfl) ?_
  refine fg_X7_47 hc hw (Nat.lt_of_lt_of_le (by decide) hM) rfl dX7_thick_11 ?_
  refine lv_iconst (v := 1) hx hb dX7_thick_14 (by decide) ?_
  refine g_ialdK (Y := YM) (kd := 33) (n := 14) (k := 1) (o := 13) (by decide) (by decide) rfl hc hw (Nat.lt_of_lt_of_le (by decide) hM) rfl rfl (vp_in_lit (by decide)) (by decide) dX7_thick_15 ?_
  refine lv_iconst (v := 3) hx hb dX7_thick_16 (by decide) ?_
  refine lv_aload_n hx hb dX7_thick_17 rfl (lv_at hl 1 rfl) ?_
  refine fg_X7_47 hc hw (Nat.lt_of_lt_of_le (by decide) hM) rfl dX7_thick_18 ?_
  refine lv_bipush (v := 7) hx hb dX7_thick_21 (by decide) ?_
  refine g_ialdK (Y := YM) (kd := 33) (n := 14) (k := 7) (o := 13) (by decide) (by decide) rfl hc hw (Nat.lt_of_lt_of_le (by decide) hM) rfl rfl (vp_in_lit (by decide)) (by decide) dX7_thick_23 ?_
  refine lv_imul hx hb dX7_thick_24 ?_
  refine lv_iadd hx hb dX7_thick_25 ?_
  refine lv_topi (fun x1 ex1 => ?_)
  replace h := h x1 ex1
  refine lv_aload_n hx hb dX7_thick_26 rfl (lv_at hl 1 rfl) ?_
  refine fg_X7_47 hc hw (Nat.lt_of_lt_of_le (by decide) hM) rfl dX7_thick_27 ?_
  refine lv_iconst (v := 3) hx hb dX7_thick_30 (by decide) ?_
  refine g_ialdK (Y := YM) (kd := 33) (n := 14) (k := 3) (o := 13) (by decide) (by decide) rfl hc hw (Nat.lt_of_lt_of_le (by decide) hM) rfl rfl (vp_in_lit (by decide)) (by decide) dX7_thick_31 ?_
  refine lv_iadd hx hb dX7_thick_32 ?_
  refine lv_iload_n hx hb dX7_thick_33 rfl (lv_at hl 0 rfl) ?_
  refine lv_iconst (v := 1) hx hb dX7_thick_34 (by decide) ?_
  refine lv_icmp_ge (tgt := 42) hx hb dX7_thick_35 (by decide) (fun c2 => ?_) (fun c2 => ?_)
  · replace h := h.1 c2
    refine lv_iload_n hx hb dX7_thick_42 rfl (lv_at hl 0 rfl) ?_
    refine lv_idiv hx hb dX7_thick_43 h.1 ?_
    replace h := h.2
    refine lv_topi (fun x3 ex3 => ?_)
    replace h := h x3 ex3
    exact g_iret hc hr hw h dX7_thick_44
  · replace h := h.2 c2
    refine lv_iconst (v := 1) hx hb dX7_thick_38 (by decide) ?_
    refine lv_goto (tgt := 43) hx hb dX7_thick_39 (by decide) ?_
    refine lv_idiv hx hb dX7_thick_43 (by decide) ?_
    exact g_iret hc hr hw h dX7_thick_44
def w_X7_lowest_6 (M : Nat) (post : Int64 → St → Prop) (k_6 : Int64 → Int64 → Int32 → Int64 → Int64 → St → Prop) (v0 : Int64) (v2 : Int64) (v4 : Int32) (v5 : Int64) (v7 : Int64) (σ : St) : Prop :=
  ((lg_cmp v7 0) = 0 → ((v4 = 0 → ((¬ v5 = 0) ∧ (post (v0 / v5) σ))) ∧ (¬ (v4 = 0) → ((¬ v5 = 0) ∧ (post (v2 / v5) σ))))) ∧ (¬ ((lg_cmp v7 0) = 0) → ((¬ v7 = 0) ∧ (k_6 v0 v2 v4 v7 (v5 - v5 / v7 * v7) σ)))
set_option maxHeartbeats 4000000 in
set_option maxRecDepth 20000 in
theorem b_X7_lowest_6 {Γ : Gm} {ad : Nat → Nat} {p : Program} {l : Launch} {e : Env} {s : State} {m : MethodId} {args : Array Value} {below : List Frame} {meth : Method} {c : Code} {M : Nat} (hM : 20 ≤ M) {post : Int64 → St → Prop} {k_6 : Int64 → Int64 → Int32 → Int64 → Int64 → St → Prop} (hk_6 : ∀ (v0 : Int64) (v2 : Int64) (v4 : Int32) (v5 : Int64) (v7 : Int64) (σ : St) (H : Heap) (locs : List Loc) (ls : Array Slot), k_6 v0 v2 v4 v5 v7 σ → WH Γ YM M ad σ s H locs → lv_has ls 11 [(0, .long v0), (2, .long v2), (4, .int v4), (5, .long v5), (7, .long v7)] → W p l e (rmL 0 0 0) s m args below meth c H locs 0 0 (MQ below (va_Ql post (fun u t => WC Γ YM M ad u t) (AA Γ)) args s 0 0 (AA Γ)) (F0 m 6 ls []))
    (v0 : Int64) (v2 : Int64) (v4 : Int32) (v5 : Int64) (v7 : Int64) (σ : St) (H : Heap) (locs : List Loc) (ls : Array Slot) (h : w_X7_lowest_6 M post k_6 v0 v2 v4 v5 v7 σ) (hc : CX Γ p s m args meth c cX7_lowest RX7 11) (hr : meth.sig.returnType = (Option.some Jvm.ClassFile.FieldType.long)) (hw : WH Γ YM M ad σ s H locs) (hl : lv_has ls 11 [(0, .long v0), (2, .long v2), (4, .int v4), (5, .long v5), (7, .long v7)]) :
    W p l e (rmL 0 0 0) s m args below meth c H locs 0 0 (MQ below (va_Ql post (fun u t => WC Γ YM M ad u t) (AA Γ)) args s 0 0 (AA Γ)) (F0 m 6 ls []) := by
  have hx := hc.1
  have hb := hc.2.1
  unfold w_X7_lowest_6 at h
  refine lv_lload hx hb dX7_lowest_6 (lv_at hl 4 rfl) ?_
  refine lv_lconst (v := 0) hx hb dX7_lowest_8 (by decide) ?_
  refine W.lcmp hx hb dX7_lowest_9 ?_
  refine lv_if_eq (tgt := 31) hx hb dX7_lowest_10 (by decide) (fun c1 => ?_) (fun c1 => ?_)
  · replace h := h.1 c1
    refine lv_iload hx hb dX7_lowest_31 (lv_at hl 2 rfl) ?_
    refine lv_if_ne (tgt := 43) hx hb dX7_lowest_33 (by decide) (fun c2 => ?_) (fun c2 => ?_)
    · replace h := h.2 c2
      refine lv_lload_n hx hb dX7_lowest_43 rfl (lv_at hl 1 rfl) ?_
      refine lv_lload hx hb dX7_lowest_44 (lv_at hl 3 rfl) ?_
      refine lv_ldiv hx hb dX7_lowest_46 h.1 ?_
      replace h := h.2
      exact g_lret hc hr hw h dX7_lowest_47
    · replace h := h.1 c2
      refine lv_lload_n hx hb dX7_lowest_36 rfl (lv_at hl 0 rfl) ?_
      refine lv_lload hx hb dX7_lowest_37 (lv_at hl 3 rfl) ?_
      refine lv_ldiv hx hb dX7_lowest_39 h.1 ?_
      replace h := h.2
      refine lv_goto (tgt := 47) hx hb dX7_lowest_40 (by decide) ?_
      exact g_lret hc hr hw h dX7_lowest_47
  · replace h := h.2 c1
    refine lv_lload hx hb dX7_lowest_13 (lv_at hl 3 rfl) ?_
    refine lv_lload hx hb dX7_lowest_15 (lv_at hl 4 rfl) ?_
    refine lv_lrem hx hb dX7_lowest_17 h.1 ?_
    replace h := h.2
    refine lv_lstore (lv' := [(9, .long (v5 - v5 / v7 * v7)), (0, .long v0), (2, .long v2), (4, .int v4), (5, .long v5), (7, .long v7)]) hx hb dX7_lowest_18 hl (by decide) rfl (fun ls hl => ?_)
    refine lv_lload hx hb dX7_lowest_20 (lv_at hl 5 rfl) ?_
    refine lv_lstore (lv' := [(5, .long v7), (9, .long (v5 - v5 / v7 * v7)), (0, .long v0), (2, .long v2), (4, .int v4), (7, .long v7)]) hx hb dX7_lowest_22 hl (by decide) rfl (fun ls hl => ?_)
    refine lv_lload hx hb dX7_lowest_24 (lv_at hl 1 rfl) ?_
    refine lv_lstore (lv' := [(7, .long (v5 - v5 / v7 * v7)), (5, .long v7), (9, .long (v5 - v5 / v7 * v7)), (0, .long v0), (2, .long v2), (4, .int v4)]) hx hb dX7_lowest_26 hl (by decide) rfl (fun ls hl => ?_)
    refine lv_goto (tgt := 6) hx hb dX7_lowest_28 (by decide) ?_
    exact hk_6 v0 v2 v4 v7 (v5 - v5 / v7 * v7) σ _ _ _ h  hw (lv_sub hl [3, 4, 5, 1, 0] rfl)
def wl_X7_lowest_6 (M : Nat) (post : Int64 → St → Prop) : Nat → Int64 → Int64 → Int32 → Int64 → Int64 → St → Prop
  | 0, _, _, _, _, _, _ => False
  | n + 1, v0, v2, v4, v5, v7, σ => w_X7_lowest_6 M post (wl_X7_lowest_6 M post n) v0 v2 v4 v5 v7 σ
set_option maxHeartbeats 4000000 in
theorem bl_X7_lowest_6 {Γ : Gm} {ad : Nat → Nat} {p : Program} {l : Launch} {e : Env} {s : State} {m : MethodId} {args : Array Value} {below : List Frame} {meth : Method} {c : Code} {M : Nat} (hM : 20 ≤ M) {post : Int64 → St → Prop}
    (hc : CX Γ p s m args meth c cX7_lowest RX7 11) (hr : meth.sig.returnType = (Option.some Jvm.ClassFile.FieldType.long)) :
    ∀ (n : Nat) (v0 : Int64) (v2 : Int64) (v4 : Int32) (v5 : Int64) (v7 : Int64) (σ : St) (H : Heap) (locs : List Loc) (ls : Array Slot), wl_X7_lowest_6 M post n v0 v2 v4 v5 v7 σ → WH Γ YM M ad σ s H locs → lv_has ls 11 [(0, .long v0), (2, .long v2), (4, .int v4), (5, .long v5), (7, .long v7)] → W p l e (rmL 0 0 0) s m args below meth c H locs 0 0 (MQ below (va_Ql post (fun u t => WC Γ YM M ad u t) (AA Γ)) args s 0 0 (AA Γ)) (F0 m 6 ls []) := by
  intro n
  induction n with
  | zero => intro v0 v2 v4 v5 v7 σ H locs ls h; exact h.elim
  | succ n ih =>
    intro v0 v2 v4 v5 v7 σ H locs ls h  hw hl
    exact b_X7_lowest_6 hM ih v0 v2 v4 v5 v7 σ H locs ls h  hc hr hw hl
def w_X7_lowest (M : Nat) (post : Int64 → St → Prop) (a1 : Int64) (a2 : Int64) (a3 : Int32) (σ : St) : Prop :=
  ∃ n, wl_X7_lowest_6 M post n a1 a2 a3 a1 a2 σ
set_option maxHeartbeats 4000000 in
set_option maxRecDepth 20000 in
theorem m_X7_lowest {Γ : Gm} {ad : Nat → Nat} {M : Nat} (l : Launch) (hM : 20 ≤ M) {post : Int64 → St → Prop} (a1 : Int64) (a2 : Int64) (a3 : Int32) (σ : St) (h : w_X7_lowest M post a1 a2 a3 σ) : Cl l Γ YM M ad σ yX7_lowest cX7_lowest 11 (Option.some Jvm.ClassFile.FieldType.long) 0 0 0 [.long a1, .long a2, .int a3] post := by
  refine g_start (by decide) (Nat.le_of_ble_eq_true rfl) ?_
  intro p e s m args below meth c ls hc hr hn hl hw
  have hc : CX Γ p s m args meth c cX7_lowest RX7 11 := hc
  have hl : lv_has ls 11 [(0, .long a1), (2, .long a2), (4, .int a3)] := hl
  have hx := hc.1
  have hb := hc.2.1
  unfold w_X7_lowest at h
  generalize hHH : s.heap = H0 at hw ⊢
  refine lv_lload_n hx hb dX7_lowest_0 rfl (lv_at hl 0 rfl) ?_
  refine lv_lstore (lv' := [(5, .long a1), (0, .long a1), (2, .long a2), (4, .int a3)]) hx hb dX7_lowest_1 hl (by decide) rfl (fun ls hl => ?_)
  refine lv_lload_n hx hb dX7_lowest_3 rfl (lv_at hl 2 rfl) ?_
  refine lv_lstore (lv' := [(7, .long a2), (5, .long a1), (0, .long a1), (2, .long a2), (4, .int a3)]) hx hb dX7_lowest_4 hl (by decide) rfl (fun ls hl => ?_)
  obtain ⟨n, h⟩ := h
  exact bl_X7_lowest_6 hM hc hr n a1 a2 a3 a1 a2 σ _ _ _ h  hw (lv_sub hl [2, 3, 4, 1, 0] rfl)
def w_X7_image_49 (M : Nat) (post : Int32 → St → Prop) (k_49 : Int32 → St → Prop) (v1 : Int32) (σ : St) : Prop :=
  (3 ≤ v1 → (post (gi σ 0 0) σ)) ∧ (¬ (3 ≤ v1) → ((vp_in v1 3) ∧ ((vp_in v1 3) ∧ (∀ σ2 : St, σ2 = si σ 15 v1.toNatClampNeg (gi σ 2 v1.toNatClampNeg) → (∀ x3 : Int32, x3 = v1 + 1 → (k_49 x3 σ2))))))
set_option maxHeartbeats 4000000 in
set_option maxRecDepth 20000 in
theorem b_X7_image_49 {Γ : Gm} {ad : Nat → Nat} {p : Program} {l : Launch} {e : Env} {s : State} {m : MethodId} {args : Array Value} {below : List Frame} {meth : Method} {c : Code} {M : Nat} (hM : 20 ≤ M) {post : Int32 → St → Prop} {k_49 : Int32 → St → Prop} (hk_49 : ∀ (v1 : Int32) (σ : St) (H : Heap) (locs : List Loc) (ls : Array Slot), k_49 v1 σ → WH Γ YM M ad σ s H locs → lv_has ls 2 [(0, .ref (ad 0)), (1, .int v1)] → W p l e (rmL 0 0 0) s m args below meth c H locs 0 0 (MQ below (va_Qi post (fun u t => WC Γ YM M ad u t) (AA Γ)) args s 0 0 (AA Γ)) (F0 m 49 ls []))
    (v1 : Int32) (σ : St) (H : Heap) (locs : List Loc) (ls : Array Slot) (h : w_X7_image_49 M post k_49 v1 σ) (hc : CX Γ p s m args meth c cX7_image RX7 2) (hr : meth.sig.returnType = (Option.some Jvm.ClassFile.FieldType.int)) (hw : WH Γ YM M ad σ s H locs) (hl : lv_has ls 2 [(0, .ref (ad 0)), (1, .int v1)]) :
    W p l e (rmL 0 0 0) s m args below meth c H locs 0 0 (MQ below (va_Qi post (fun u t => WC Γ YM M ad u t) (AA Γ)) args s 0 0 (AA Γ)) (F0 m 49 ls []) := by
  have hx := hc.1
  have hb := hc.2.1
  unfold w_X7_image_49 at h
  refine lv_iload_n hx hb dX7_image_49 rfl (lv_at hl 1 rfl) ?_
  refine lv_iconst (v := 3) hx hb dX7_image_50 (by decide) ?_
  refine lv_icmp_ge (tgt := 72) hx hb dX7_image_51 (by decide) (fun c1 => ?_) (fun c1 => ?_)
  · replace h := h.1 c1
    refine lv_aload_n hx hb dX7_image_72 rfl (lv_at hl 0 rfl) ?_
    refine fg_X7_72 hc hw (Nat.lt_of_lt_of_le (by decide) hM) rfl dX7_image_73 ?_
    exact g_iret hc hr hw h dX7_image_76
  · replace h := h.2 c1
    refine lv_aload_n hx hb dX7_image_54 rfl (lv_at hl 0 rfl) ?_
    refine fg_X7_53 hc hw (Nat.lt_of_lt_of_le (by decide) hM) rfl dX7_image_55 ?_
    refine lv_iload_n hx hb dX7_image_58 rfl (lv_at hl 1 rfl) ?_
    refine lv_aload_n hx hb dX7_image_59 rfl (lv_at hl 0 rfl) ?_
    refine fg_X7_13 hc hw (Nat.lt_of_lt_of_le (by decide) hM) rfl dX7_image_60 ?_
    refine lv_iload_n hx hb dX7_image_63 rfl (lv_at hl 1 rfl) ?_
    refine g_ialdK (Y := YM) (kd := 22) (n := 3) (k := v1.toNatClampNeg) (o := 2) (by decide) (by decide) rfl hc hw (Nat.lt_of_lt_of_le (by decide) hM) rfl rfl h.1 rfl dX7_image_64 ?_
    replace h := h.2
    have hin := h.1
    replace h := h.2
    refine g_iastK (Y := YM) (kd := 35) (n := 3) (k := v1.toNatClampNeg) (o := 15) YM_ok (by decide) (by decide) rfl hc hw (Nat.lt_of_lt_of_le (by decide) hM) rfl rfl hin rfl dX7_image_65 (fun σ2 H locs eσ2 hw => ?_)
    replace h := h σ2 eσ2
    obtain ⟨x3, ex3⟩ : ∃ z, z = v1 + 1 := ⟨_, rfl⟩
    replace h := h x3 ex3
    refine lv_iinc (v := x3) (lv' := [(1, .int x3), (0, .ref (ad 0))]) hx hb dX7_image_66 hl (k := 1) rfl (by rw [ex3]; rfl) (by decide) rfl (fun ls hl => ?_)
    refine lv_goto (tgt := 49) hx hb dX7_image_69 (by decide) ?_
    exact hk_49 x3 σ2 _ _ _ h  hw (lv_sub hl [1, 0] rfl)
def wl_X7_image_49 (M : Nat) (post : Int32 → St → Prop) : Nat → Int32 → St → Prop
  | 0, _, _ => False
  | n + 1, v1, σ => w_X7_image_49 M post (wl_X7_image_49 M post n) v1 σ
set_option maxHeartbeats 4000000 in
theorem bl_X7_image_49 {Γ : Gm} {ad : Nat → Nat} {p : Program} {l : Launch} {e : Env} {s : State} {m : MethodId} {args : Array Value} {below : List Frame} {meth : Method} {c : Code} {M : Nat} (hM : 20 ≤ M) {post : Int32 → St → Prop}
    (hc : CX Γ p s m args meth c cX7_image RX7 2) (hr : meth.sig.returnType = (Option.some Jvm.ClassFile.FieldType.int)) :
    ∀ (n : Nat) (v1 : Int32) (σ : St) (H : Heap) (locs : List Loc) (ls : Array Slot), wl_X7_image_49 M post n v1 σ → WH Γ YM M ad σ s H locs → lv_has ls 2 [(0, .ref (ad 0)), (1, .int v1)] → W p l e (rmL 0 0 0) s m args below meth c H locs 0 0 (MQ below (va_Qi post (fun u t => WC Γ YM M ad u t) (AA Γ)) args s 0 0 (AA Γ)) (F0 m 49 ls []) := by
  intro n
  induction n with
  | zero => intro v1 σ H locs ls h; exact h.elim
  | succ n ih =>
    intro v1 σ H locs ls h  hw hl
    exact b_X7_image_49 hM ih v1 σ H locs ls h  hc hr hw hl
def w_X7_image_23 (M : Nat) (post : Int32 → St → Prop) (k_23 : Int32 → St → Prop) (v1 : Int32) (σ : St) : Prop :=
  (20 ≤ v1 → (∃ n, wl_X7_image_49 M post n 0 σ)) ∧ (¬ (20 ≤ v1) → ((vp_in v1 20) ∧ ((vp_in v1 20) ∧ (∀ σ2 : St, σ2 = si σ 14 v1.toNatClampNeg (gi σ 1 v1.toNatClampNeg) → (∀ x3 : Int32, x3 = v1 + 1 → (k_23 x3 σ2))))))
set_option maxHeartbeats 4000000 in
set_option maxRecDepth 20000 in
theorem b_X7_image_23 {Γ : Gm} {ad : Nat → Nat} {p : Program} {l : Launch} {e : Env} {s : State} {m : MethodId} {args : Array Value} {below : List Frame} {meth : Method} {c : Code} {M : Nat} (hM : 20 ≤ M) {post : Int32 → St → Prop} {k_23 : Int32 → St → Prop} (hk_23 : ∀ (v1 : Int32) (σ : St) (H : Heap) (locs : List Loc) (ls : Array Slot), k_23 v1 σ → WH Γ YM M ad σ s H locs → lv_has ls 2 [(0, .ref (ad 0)), (1, .int v1)] → W p l e (rmL 0 0 0) s m args below meth c H locs 0 0 (MQ below (va_Qi post (fun u t => WC Γ YM M ad u t) (AA Γ)) args s 0 0 (AA Γ)) (F0 m 23 ls []))
    (v1 : Int32) (σ : St) (H : Heap) (locs : List Loc) (ls : Array Slot) (h : w_X7_image_23 M post k_23 v1 σ) (hc : CX Γ p s m args meth c cX7_image RX7 2) (hr : meth.sig.returnType = (Option.some Jvm.ClassFile.FieldType.int)) (hw : WH Γ YM M ad σ s H locs) (hl : lv_has ls 2 [(0, .ref (ad 0)), (1, .int v1)]) :
    W p l e (rmL 0 0 0) s m args below meth c H locs 0 0 (MQ below (va_Qi post (fun u t => WC Γ YM M ad u t) (AA Γ)) args s 0 0 (AA Γ)) (F0 m 23 ls []) := by
  have hx := hc.1
  have hb := hc.2.1
  unfold w_X7_image_23 at h
  refine lv_iload_n hx hb dX7_image_23 rfl (lv_at hl 1 rfl) ?_
  refine lv_bipush (v := 20) hx hb dX7_image_24 (by decide) ?_
  refine lv_icmp_ge (tgt := 47) hx hb dX7_image_26 (by decide) (fun c1 => ?_) (fun c1 => ?_)
  · replace h := h.1 c1
    refine lv_iconst (v := 0) hx hb dX7_image_47 (by decide) ?_
    refine lv_istore_n (lv' := [(1, .int 0), (0, .ref (ad 0))]) hx hb dX7_image_48 rfl hl (by decide) rfl (fun ls hl => ?_)
    obtain ⟨n, h⟩ := h
    exact bl_X7_image_49 hM hc hr n 0 σ _ _ _ h  hw (lv_sub hl [1, 0] rfl)
  · replace h := h.2 c1
    refine lv_aload_n hx hb dX7_image_29 rfl (lv_at hl 0 rfl) ?_
    refine fg_X7_50 hc hw (Nat.lt_of_lt_of_le (by decide) hM) rfl dX7_image_30 ?_
    refine lv_iload_n hx hb dX7_image_33 rfl (lv_at hl 1 rfl) ?_
    refine lv_aload_n hx hb dX7_image_34 rfl (lv_at hl 0 rfl) ?_
    refine fg_X7_9 hc hw (Nat.lt_of_lt_of_le (by decide) hM) rfl dX7_image_35 ?_
    refine lv_iload_n hx hb dX7_image_38 rfl (lv_at hl 1 rfl) ?_
    refine g_ialdK (Y := YM) (kd := 21) (n := 20) (k := v1.toNatClampNeg) (o := 1) (by decide) (by decide) rfl hc hw (Nat.lt_of_lt_of_le (by decide) hM) rfl rfl h.1 rfl dX7_image_39 ?_
    replace h := h.2
    have hin := h.1
    replace h := h.2
    refine g_iastK (Y := YM) (kd := 34) (n := 20) (k := v1.toNatClampNeg) (o := 14) YM_ok (by decide) (by decide) rfl hc hw (Nat.lt_of_lt_of_le (by decide) hM) rfl rfl hin rfl dX7_image_40 (fun σ2 H locs eσ2 hw => ?_)
    replace h := h σ2 eσ2
    obtain ⟨x3, ex3⟩ : ∃ z, z = v1 + 1 := ⟨_, rfl⟩
    replace h := h x3 ex3
    refine lv_iinc (v := x3) (lv' := [(1, .int x3), (0, .ref (ad 0))]) hx hb dX7_image_41 hl (k := 1) rfl (by rw [ex3]; rfl) (by decide) rfl (fun ls hl => ?_)
    refine lv_goto (tgt := 23) hx hb dX7_image_44 (by decide) ?_
    exact hk_23 x3 σ2 _ _ _ h  hw (lv_sub hl [1, 0] rfl)
def wl_X7_image_23 (M : Nat) (post : Int32 → St → Prop) : Nat → Int32 → St → Prop
  | 0, _, _ => False
  | n + 1, v1, σ => w_X7_image_23 M post (wl_X7_image_23 M post n) v1 σ
set_option maxHeartbeats 4000000 in
theorem bl_X7_image_23 {Γ : Gm} {ad : Nat → Nat} {p : Program} {l : Launch} {e : Env} {s : State} {m : MethodId} {args : Array Value} {below : List Frame} {meth : Method} {c : Code} {M : Nat} (hM : 20 ≤ M) {post : Int32 → St → Prop}
    (hc : CX Γ p s m args meth c cX7_image RX7 2) (hr : meth.sig.returnType = (Option.some Jvm.ClassFile.FieldType.int)) :
    ∀ (n : Nat) (v1 : Int32) (σ : St) (H : Heap) (locs : List Loc) (ls : Array Slot), wl_X7_image_23 M post n v1 σ → WH Γ YM M ad σ s H locs → lv_has ls 2 [(0, .ref (ad 0)), (1, .int v1)] → W p l e (rmL 0 0 0) s m args below meth c H locs 0 0 (MQ below (va_Qi post (fun u t => WC Γ YM M ad u t) (AA Γ)) args s 0 0 (AA Γ)) (F0 m 23 ls []) := by
  intro n
  induction n with
  | zero => intro v1 σ H locs ls h; exact h.elim
  | succ n ih =>
    intro v1 σ H locs ls h  hw hl
    exact b_X7_image_23 hM ih v1 σ H locs ls h  hc hr hw hl
def w_X7_image (M : Nat) (post : Int32 → St → Prop)  (σ : St) : Prop :=
  ∀ σ1 : St, σ1 = si σ 0 29 1 → (∀ σ2 : St, σ2 = si σ1 0 30 (gi σ1 0 0) → (∀ σ3 : St, σ3 = si σ2 0 31 (gi σ2 0 6) → (∃ n, wl_X7_image_23 M post n 0 σ3)))
set_option maxHeartbeats 4000000 in
set_option maxRecDepth 20000 in
theorem m_X7_image {Γ : Gm} {ad : Nat → Nat} {M : Nat} (l : Launch) (hM : 20 ≤ M) {post : Int32 → St → Prop}  (σ : St) (h : w_X7_image M post  σ) : Ci l Γ YM M ad σ yX7_image cX7_image 2 (Option.some Jvm.ClassFile.FieldType.int) 0 0 0 [.ref (ad 0)] post := by
  refine g_start (by decide) (Nat.le_of_ble_eq_true rfl) ?_
  intro p e s m args below meth c ls hc hr hn hl hw
  have hc : CX Γ p s m args meth c cX7_image RX7 2 := hc
  have hl : lv_has ls 2 [(0, .ref (ad 0))] := hl
  have hx := hc.1
  have hb := hc.2.1
  unfold w_X7_image at h
  generalize hHH : s.heap = H0 at hw ⊢
  refine lv_aload_n hx hb dX7_image_0 rfl (lv_at hl 0 rfl) ?_
  refine lv_iconst (v := 1) hx hb dX7_image_1 (by decide) ?_
  refine fp_X7_323 (o := 0) rfl rfl hc hw (Nat.lt_of_lt_of_le (by decide) hM) rfl dX7_image_2 (fun σ1 H locs eσ1 hw => ?_)
  replace h := h σ1 eσ1
  refine lv_aload_n hx hb dX7_image_5 rfl (lv_at hl 0 rfl) ?_
  refine lv_aload_n hx hb dX7_image_6 rfl (lv_at hl 0 rfl) ?_
  refine fg_X7_72 hc hw (Nat.lt_of_lt_of_le (by decide) hM) rfl dX7_image_7 ?_
  refine fp_X7_326 (o := 0) hc hw (Nat.lt_of_lt_of_le (by decide) hM) rfl dX7_image_10 (fun σ2 H locs eσ2 hw => ?_)
  replace h := h σ2 eσ2
  refine lv_aload_n hx hb dX7_image_13 rfl (lv_at hl 0 rfl) ?_
  refine lv_aload_n hx hb dX7_image_14 rfl (lv_at hl 0 rfl) ?_
  refine fg_X7_98 hc hw (Nat.lt_of_lt_of_le (by decide) hM) rfl dX7_image_15 ?_
  refine fp_X7_329 (o := 0) hc hw (Nat.lt_of_lt_of_le (by decide) hM) rfl dX7_image_18 (fun σ3 H locs eσ3 hw => ?_)
  replace h := h σ3 eσ3
  refine lv_iconst (v := 0) hx hb dX7_image_21 (by decide) ?_
  refine lv_istore_n (lv' := [(1, .int 0), (0, .ref (ad 0))]) hx hb dX7_image_22 rfl hl (by decide) rfl (fun ls hl => ?_)
  obtain ⟨n, h⟩ := h
  exact bl_X7_image_23 hM hc hr n 0 σ3 _ _ _ h  hw (lv_sub hl [1, 0] rfl)
def w_X7_back_50 (M : Nat) (post : Int32 → St → Prop) (k_50 : Int32 → St → Prop) (v1 : Int32) (σ : St) : Prop :=
  (3 ≤ v1 → (post (gi σ 0 0) σ)) ∧ (¬ (3 ≤ v1) → ((vp_in v1 3) ∧ ((vp_in v1 3) ∧ (∀ σ2 : St, σ2 = si σ 2 v1.toNatClampNeg (gi σ 15 v1.toNatClampNeg) → (∀ x3 : Int32, x3 = v1 + 1 → (k_50 x3 σ2))))))
set_option maxHeartbeats 4000000 in
set_option maxRecDepth 20000 in
theorem b_X7_back_50 {Γ : Gm} {ad : Nat → Nat} {p : Program} {l : Launch} {e : Env} {s : State} {m : MethodId} {args : Array Value} {below : List Frame} {meth : Method} {c : Code} {M : Nat} (hM : 20 ≤ M) {post : Int32 → St → Prop} {k_50 : Int32 → St → Prop} (hk_50 : ∀ (v1 : Int32) (σ : St) (H : Heap) (locs : List Loc) (ls : Array Slot), k_50 v1 σ → WH Γ YM M ad σ s H locs → lv_has ls 2 [(0, .ref (ad 0)), (1, .int v1)] → W p l e (rmL 0 0 0) s m args below meth c H locs 0 0 (MQ below (va_Qi post (fun u t => WC Γ YM M ad u t) (AA Γ)) args s 0 0 (AA Γ)) (F0 m 50 ls []))
    (v1 : Int32) (σ : St) (H : Heap) (locs : List Loc) (ls : Array Slot) (h : w_X7_back_50 M post k_50 v1 σ) (hc : CX Γ p s m args meth c cX7_back RX7 2) (hr : meth.sig.returnType = (Option.some Jvm.ClassFile.FieldType.int)) (hw : WH Γ YM M ad σ s H locs) (hl : lv_has ls 2 [(0, .ref (ad 0)), (1, .int v1)]) :
    W p l e (rmL 0 0 0) s m args below meth c H locs 0 0 (MQ below (va_Qi post (fun u t => WC Γ YM M ad u t) (AA Γ)) args s 0 0 (AA Γ)) (F0 m 50 ls []) := by
  have hx := hc.1
  have hb := hc.2.1
  unfold w_X7_back_50 at h
  refine lv_iload_n hx hb dX7_back_50 rfl (lv_at hl 1 rfl) ?_
  refine lv_iconst (v := 3) hx hb dX7_back_51 (by decide) ?_
  refine lv_icmp_ge (tgt := 73) hx hb dX7_back_52 (by decide) (fun c1 => ?_) (fun c1 => ?_)
  · replace h := h.1 c1
    refine lv_aload_n hx hb dX7_back_73 rfl (lv_at hl 0 rfl) ?_
    refine fg_X7_72 hc hw (Nat.lt_of_lt_of_le (by decide) hM) rfl dX7_back_74 ?_
    exact g_iret hc hr hw h dX7_back_77
  · replace h := h.2 c1
    refine lv_aload_n hx hb dX7_back_55 rfl (lv_at hl 0 rfl) ?_
    refine fg_X7_13 hc hw (Nat.lt_of_lt_of_le (by decide) hM) rfl dX7_back_56 ?_
    refine lv_iload_n hx hb dX7_back_59 rfl (lv_at hl 1 rfl) ?_
    refine lv_aload_n hx hb dX7_back_60 rfl (lv_at hl 0 rfl) ?_
    refine fg_X7_53 hc hw (Nat.lt_of_lt_of_le (by decide) hM) rfl dX7_back_61 ?_
    refine lv_iload_n hx hb dX7_back_64 rfl (lv_at hl 1 rfl) ?_
    refine g_ialdK (Y := YM) (kd := 35) (n := 3) (k := v1.toNatClampNeg) (o := 15) (by decide) (by decide) rfl hc hw (Nat.lt_of_lt_of_le (by decide) hM) rfl rfl h.1 rfl dX7_back_65 ?_
    replace h := h.2
    have hin := h.1
    replace h := h.2
    refine g_iastK (Y := YM) (kd := 22) (n := 3) (k := v1.toNatClampNeg) (o := 2) YM_ok (by decide) (by decide) rfl hc hw (Nat.lt_of_lt_of_le (by decide) hM) rfl rfl hin rfl dX7_back_66 (fun σ2 H locs eσ2 hw => ?_)
    replace h := h σ2 eσ2
    obtain ⟨x3, ex3⟩ : ∃ z, z = v1 + 1 := ⟨_, rfl⟩
    replace h := h x3 ex3
    refine lv_iinc (v := x3) (lv' := [(1, .int x3), (0, .ref (ad 0))]) hx hb dX7_back_67 hl (k := 1) rfl (by rw [ex3]; rfl) (by decide) rfl (fun ls hl => ?_)
    refine lv_goto (tgt := 50) hx hb dX7_back_70 (by decide) ?_
    exact hk_50 x3 σ2 _ _ _ h  hw (lv_sub hl [1, 0] rfl)
def wl_X7_back_50 (M : Nat) (post : Int32 → St → Prop) : Nat → Int32 → St → Prop
  | 0, _, _ => False
  | n + 1, v1, σ => w_X7_back_50 M post (wl_X7_back_50 M post n) v1 σ
set_option maxHeartbeats 4000000 in
theorem bl_X7_back_50 {Γ : Gm} {ad : Nat → Nat} {p : Program} {l : Launch} {e : Env} {s : State} {m : MethodId} {args : Array Value} {below : List Frame} {meth : Method} {c : Code} {M : Nat} (hM : 20 ≤ M) {post : Int32 → St → Prop}
    (hc : CX Γ p s m args meth c cX7_back RX7 2) (hr : meth.sig.returnType = (Option.some Jvm.ClassFile.FieldType.int)) :
    ∀ (n : Nat) (v1 : Int32) (σ : St) (H : Heap) (locs : List Loc) (ls : Array Slot), wl_X7_back_50 M post n v1 σ → WH Γ YM M ad σ s H locs → lv_has ls 2 [(0, .ref (ad 0)), (1, .int v1)] → W p l e (rmL 0 0 0) s m args below meth c H locs 0 0 (MQ below (va_Qi post (fun u t => WC Γ YM M ad u t) (AA Γ)) args s 0 0 (AA Γ)) (F0 m 50 ls []) := by
  intro n
  induction n with
  | zero => intro v1 σ H locs ls h; exact h.elim
  | succ n ih =>
    intro v1 σ H locs ls h  hw hl
    exact b_X7_back_50 hM ih v1 σ H locs ls h  hc hr hw hl
def w_X7_back_20 (M : Nat) (post : Int32 → St → Prop) (k_20 : Int32 → St → Prop) (v1 : Int32) (σ : St) : Prop :=
  ((5 * (gi σ 0 30)) ≤ v1 → (∃ n, wl_X7_back_50 M post n 0 σ)) ∧ (¬ ((5 * (gi σ 0 30)) ≤ v1) → ((vp_in v1 20) ∧ ((vp_in v1 20) ∧ (∀ σ2 : St, σ2 = si σ 1 v1.toNatClampNeg (gi σ 14 v1.toNatClampNeg) → (∀ x3 : Int32, x3 = v1 + 1 → (k_20 x3 σ2))))))
set_option maxHeartbeats 4000000 in
set_option maxRecDepth 20000 in
theorem b_X7_back_20 {Γ : Gm} {ad : Nat → Nat} {p : Program} {l : Launch} {e : Env} {s : State} {m : MethodId} {args : Array Value} {below : List Frame} {meth : Method} {c : Code} {M : Nat} (hM : 20 ≤ M) {post : Int32 → St → Prop} {k_20 : Int32 → St → Prop} (hk_20 : ∀ (v1 : Int32) (σ : St) (H : Heap) (locs : List Loc) (ls : Array Slot), k_20 v1 σ → WH Γ YM M ad σ s H locs → lv_has ls 2 [(0, .ref (ad 0)), (1, .int v1)] → W p l e (rmL 0 0 0) s m args below meth c H locs 0 0 (MQ below (va_Qi post (fun u t => WC Γ YM M ad u t) (AA Γ)) args s 0 0 (AA Γ)) (F0 m 20 ls []))
    (v1 : Int32) (σ : St) (H : Heap) (locs : List Loc) (ls : Array Slot) (h : w_X7_back_20 M post k_20 v1 σ) (hc : CX Γ p s m args meth c cX7_back RX7 2) (hr : meth.sig.returnType = (Option.some Jvm.ClassFile.FieldType.int)) (hw : WH Γ YM M ad σ s H locs) (hl : lv_has ls 2 [(0, .ref (ad 0)), (1, .int v1)]) :
    W p l e (rmL 0 0 0) s m args below meth c H locs 0 0 (MQ below (va_Qi post (fun u t => WC Γ YM M ad u t) (AA Γ)) args s 0 0 (AA Γ)) (F0 m 20 ls []) := by
  have hx := hc.1
  have hb := hc.2.1
  unfold w_X7_back_20 at h
  refine lv_iload_n hx hb dX7_back_20 rfl (lv_at hl 1 rfl) ?_
  refine lv_iconst (v := 5) hx hb dX7_back_21 (by decide) ?_
  refine lv_aload_n hx hb dX7_back_22 rfl (lv_at hl 0 rfl) ?_
  refine fg_X7_326 hc hw (Nat.lt_of_lt_of_le (by decide) hM) rfl dX7_back_23 ?_
  refine lv_imul hx hb dX7_back_26 ?_
  refine lv_icmp_ge (tgt := 48) hx hb dX7_back_27 (by decide) (fun c1 => ?_) (fun c1 => ?_)
  · replace h := h.1 c1
    refine lv_iconst (v := 0) hx hb dX7_back_48 (by decide) ?_
    refine lv_istore_n (lv' := [(1, .int 0), (0, .ref (ad 0))]) hx hb dX7_back_49 rfl hl (by decide) rfl (fun ls hl => ?_)
    obtain ⟨n, h⟩ := h
    exact bl_X7_back_50 hM hc hr n 0 σ _ _ _ h  hw (lv_sub hl [1, 0] rfl)
  · replace h := h.2 c1
    refine lv_aload_n hx hb dX7_back_30 rfl (lv_at hl 0 rfl) ?_
    refine fg_X7_9 hc hw (Nat.lt_of_lt_of_le (by decide) hM) rfl dX7_back_31 ?_
    refine lv_iload_n hx hb dX7_back_34 rfl (lv_at hl 1 rfl) ?_
    refine lv_aload_n hx hb dX7_back_35 rfl (lv_at hl 0 rfl) ?_
    refine fg_X7_50 hc hw (Nat.lt_of_lt_of_le (by decide) hM) rfl dX7_back_36 ?_
    refine lv_iload_n hx hb dX7_back_39 rfl (lv_at hl 1 rfl) ?_
    refine g_ialdK (Y := YM) (kd := 34) (n := 20) (k := v1.toNatClampNeg) (o := 14) (by decide) (by decide) rfl hc hw (Nat.lt_of_lt_of_le (by decide) hM) rfl rfl h.1 rfl dX7_back_40 ?_
    replace h := h.2
    have hin := h.1
    replace h := h.2
    refine g_iastK (Y := YM) (kd := 21) (n := 20) (k := v1.toNatClampNeg) (o := 1) YM_ok (by decide) (by decide) rfl hc hw (Nat.lt_of_lt_of_le (by decide) hM) rfl rfl hin rfl dX7_back_41 (fun σ2 H locs eσ2 hw => ?_)
    replace h := h σ2 eσ2
    obtain ⟨x3, ex3⟩ : ∃ z, z = v1 + 1 := ⟨_, rfl⟩
    replace h := h x3 ex3
    refine lv_iinc (v := x3) (lv' := [(1, .int x3), (0, .ref (ad 0))]) hx hb dX7_back_42 hl (k := 1) rfl (by rw [ex3]; rfl) (by decide) rfl (fun ls hl => ?_)
    refine lv_goto (tgt := 20) hx hb dX7_back_45 (by decide) ?_
    exact hk_20 x3 σ2 _ _ _ h  hw (lv_sub hl [1, 0] rfl)
def wl_X7_back_20 (M : Nat) (post : Int32 → St → Prop) : Nat → Int32 → St → Prop
  | 0, _, _ => False
  | n + 1, v1, σ => w_X7_back_20 M post (wl_X7_back_20 M post n) v1 σ
set_option maxHeartbeats 4000000 in
theorem bl_X7_back_20 {Γ : Gm} {ad : Nat → Nat} {p : Program} {l : Launch} {e : Env} {s : State} {m : MethodId} {args : Array Value} {below : List Frame} {meth : Method} {c : Code} {M : Nat} (hM : 20 ≤ M) {post : Int32 → St → Prop}
    (hc : CX Γ p s m args meth c cX7_back RX7 2) (hr : meth.sig.returnType = (Option.some Jvm.ClassFile.FieldType.int)) :
    ∀ (n : Nat) (v1 : Int32) (σ : St) (H : Heap) (locs : List Loc) (ls : Array Slot), wl_X7_back_20 M post n v1 σ → WH Γ YM M ad σ s H locs → lv_has ls 2 [(0, .ref (ad 0)), (1, .int v1)] → W p l e (rmL 0 0 0) s m args below meth c H locs 0 0 (MQ below (va_Qi post (fun u t => WC Γ YM M ad u t) (AA Γ)) args s 0 0 (AA Γ)) (F0 m 20 ls []) := by
  intro n
  induction n with
  | zero => intro v1 σ H locs ls h; exact h.elim
  | succ n ih =>
    intro v1 σ H locs ls h  hw hl
    exact b_X7_back_20 hM ih v1 σ H locs ls h  hc hr hw hl
def w_X7_back (M : Nat) (post : Int32 → St → Prop)  (σ : St) : Prop :=
  ((gi σ 0 29) = 0 → (post (-3) σ)) ∧ (¬ ((gi σ 0 29) = 0) → (∀ σ2 : St, σ2 = si σ 0 6 (gi σ 0 31) → (∃ n, wl_X7_back_20 M post n 0 σ2)))
set_option maxHeartbeats 4000000 in
set_option maxRecDepth 20000 in
theorem m_X7_back {Γ : Gm} {ad : Nat → Nat} {M : Nat} (l : Launch) (hM : 20 ≤ M) {post : Int32 → St → Prop}  (σ : St) (h : w_X7_back M post  σ) : Ci l Γ YM M ad σ yX7_back cX7_back 2 (Option.some Jvm.ClassFile.FieldType.int) 0 0 0 [.ref (ad 0)] post := by
  refine g_start (by decide) (Nat.le_of_ble_eq_true rfl) ?_
  intro p e s m args below meth c ls hc hr hn hl hw
  have hc : CX Γ p s m args meth c cX7_back RX7 2 := hc
  have hl : lv_has ls 2 [(0, .ref (ad 0))] := hl
  have hx := hc.1
  have hb := hc.2.1
  unfold w_X7_back at h
  generalize hHH : s.heap = H0 at hw ⊢
  refine lv_aload_n hx hb dX7_back_0 rfl (lv_at hl 0 rfl) ?_
  refine fg_X7_323 hc hw (Nat.lt_of_lt_of_le (by decide) hM) rfl dX7_back_1 ?_
  refine lv_if_ne (tgt := 10) hx hb dX7_back_4 (by decide) (fun c1 => ?_) (fun c1 => ?_)
  · replace h := h.2 c1
    refine lv_aload_n hx hb dX7_back_10 rfl (lv_at hl 0 rfl) ?_
    refine lv_aload_n hx hb dX7_back_11 rfl (lv_at hl 0 rfl) ?_
    refine fg_X7_329 hc hw (Nat.lt_of_lt_of_le (by decide) hM) rfl dX7_back_12 ?_
    refine fp_X7_98 (o := 0) hc hw (Nat.lt_of_lt_of_le (by decide) hM) rfl dX7_back_15 (fun σ2 H locs eσ2 hw => ?_)
    replace h := h σ2 eσ2
    refine lv_iconst (v := 0) hx hb dX7_back_18 (by decide) ?_
    refine lv_istore_n (lv' := [(1, .int 0), (0, .ref (ad 0))]) hx hb dX7_back_19 rfl hl (by decide) rfl (fun ls hl => ?_)
    obtain ⟨n, h⟩ := h
    exact bl_X7_back_20 hM hc hr n 0 σ2 _ _ _ h  hw (lv_sub hl [1, 0] rfl)
  · replace h := h.1 c1
    refine lv_bipush (v := (-3)) hx hb dX7_back_7 (by decide) ?_
    exact g_iret hc hr hw h dX7_back_9
def w_X7_over (M : Nat) (post : Int32 → St → Prop) (a1 : Int32) (σ : St) : Prop :=
  (a1 = 4 → (post 1 σ)) ∧ (¬ (a1 = 4) → ((a1 = 5 → (post 3 σ)) ∧ (¬ (a1 = 5) → (post 0 σ))))
set_option maxHeartbeats 4000000 in
set_option maxRecDepth 20000 in
theorem m_X7_over {Γ : Gm} {ad : Nat → Nat} {M : Nat} (l : Launch) (hM : 20 ≤ M) {post : Int32 → St → Prop} (a1 : Int32) (σ : St) (h : w_X7_over M post a1 σ) : Ci l Γ YM M ad σ yX7_over cX7_over 1 (Option.some Jvm.ClassFile.FieldType.int) 0 0 0 [.int a1] post := by
  refine g_start (by decide) (Nat.le_of_ble_eq_true rfl) ?_
  intro p e s m args below meth c ls hc hr hn hl hw
  have hc : CX Γ p s m args meth c cX7_over RX7 1 := hc
  have hl : lv_has ls 1 [(0, .int a1)] := hl
  have hx := hc.1
  have hb := hc.2.1
  unfold w_X7_over at h
  generalize hHH : s.heap = H0 at hw ⊢
  refine lv_iload_n hx hb dX7_over_0 rfl (lv_at hl 0 rfl) ?_
  refine lv_iconst (v := 4) hx hb dX7_over_1 (by decide) ?_
  refine lv_icmp_ne (tgt := 9) hx hb dX7_over_2 (by decide) (fun c1 => ?_) (fun c1 => ?_)
  · replace h := h.2 c1
    refine lv_iload_n hx hb dX7_over_9 rfl (lv_at hl 0 rfl) ?_
    refine lv_iconst (v := 5) hx hb dX7_over_10 (by decide) ?_
    refine lv_icmp_ne (tgt := 18) hx hb dX7_over_11 (by decide) (fun c2 => ?_) (fun c2 => ?_)
    · replace h := h.2 c2
      refine lv_iconst (v := 0) hx hb dX7_over_18 (by decide) ?_
      exact g_iret hc hr hw h dX7_over_19
    · replace h := h.1 c2
      refine lv_iconst (v := 3) hx hb dX7_over_14 (by decide) ?_
      refine lv_goto (tgt := 19) hx hb dX7_over_15 (by decide) ?_
      exact g_iret hc hr hw h dX7_over_19
  · replace h := h.1 c1
    refine lv_iconst (v := 1) hx hb dX7_over_5 (by decide) ?_
    refine lv_goto (tgt := 19) hx hb dX7_over_6 (by decide) ?_
    exact g_iret hc hr hw h dX7_over_19
def w_X7_isCheese (M : Nat) (post : Int32 → St → Prop) (a1 : Int32) (σ : St) : Prop :=
  w_X7_in M (fun r2 σ1 => (narrow .boolean (.int r2) = .int r2 ∧ post r2 σ1)) a1.toInt64 0 (((gi σ 0 0) - 1).toInt64) σ
set_option maxHeartbeats 4000000 in
set_option maxRecDepth 20000 in
theorem m_X7_isCheese {Γ : Gm} {ad : Nat → Nat} {M : Nat} (l : Launch) (hM : 20 ≤ M) {post : Int32 → St → Prop} (a1 : Int32) (σ : St) (h : w_X7_isCheese M post a1 σ) : Ci l Γ YM M ad σ yX7_isCheese cX7_isCheese 2 (Option.some Jvm.ClassFile.FieldType.boolean) 1 0 0 [.ref (ad 0), .int a1] post := by
  refine g_start (by decide) (Nat.le_of_ble_eq_true rfl) ?_
  intro p e s m args below meth c ls hc hr hn hl hw
  have hc : CX Γ p s m args meth c cX7_isCheese RX7 2 := hc
  have hl : lv_has ls 2 [(0, .ref (ad 0)), (1, .int a1)] := hl
  have hx := hc.1
  have hb := hc.2.1
  unfold w_X7_isCheese at h
  generalize hHH : s.heap = H0 at hw ⊢
  refine lv_iload_n hx hb dX7_isCheese_0 rfl (lv_at hl 1 rfl) ?_
  refine lv_i2l (v := a1.toInt64) hx hb dX7_isCheese_1 rfl ?_
  refine lv_lconst (v := 0) hx hb dX7_isCheese_2 (by decide) ?_
  refine lv_aload_n hx hb dX7_isCheese_3 rfl (lv_at hl 0 rfl) ?_
  refine fg_X7_72 hc hw (Nat.lt_of_lt_of_le (by decide) hM) rfl dX7_isCheese_4 ?_
  refine lv_iconst (v := 1) hx hb dX7_isCheese_7 (by decide) ?_
  refine lv_isub hx hb dX7_isCheese_8 ?_
  refine lv_i2l (v := ((gi σ 0 0) - 1).toInt64) hx hb dX7_isCheese_9 rfl ?_
  refine g_Si (Y := YM) (n := 3) (k := 0) (As := [.long a1.toInt64, .long 0, .long (((gi σ 0 0) - 1).toInt64)]) (rest := []) vw_X7_75 ⟨Nat.le_of_ble_eq_true rfl, Nat.le_of_ble_eq_true rfl, Nat.zero_le _, Nat.zero_le _⟩ hc hw hl.1 (m_X7_in l hM a1.toInt64 0 (((gi σ 0 0) - 1).toInt64) σ h) rfl rfl (Nat.le_of_ble_eq_true rfl) dX7_isCheese_10 (fun r2 σ1 H locs h hw => ?_)
  exact g_zret hc hr hw h.1 h.2 dX7_isCheese_13
def w_X7_mayBe (M : Nat) (post : Int32 → St → Prop) (a1 : Int32) (a2 : Int32) (σ : St) : Prop :=
  (a1 = 0 → (w_X7_in M (fun r5 σ4 => (narrow .boolean (.int r5) = .int r5 ∧ post r5 σ4)) a2.toInt64 1 99 σ)) ∧ (¬ (a1 = 0) → (w_X7_in M (fun r3 σ2 => (narrow .boolean (.int r3) = .int r3 ∧ post r3 σ2)) a2.toInt64 0 99 σ))
set_option maxHeartbeats 4000000 in
set_option maxRecDepth 20000 in
theorem m_X7_mayBe {Γ : Gm} {ad : Nat → Nat} {M : Nat} (l : Launch) (hM : 20 ≤ M) {post : Int32 → St → Prop} (a1 : Int32) (a2 : Int32) (σ : St) (h : w_X7_mayBe M post a1 a2 σ) : Ci l Γ YM M ad σ yX7_mayBe cX7_mayBe 2 (Option.some Jvm.ClassFile.FieldType.boolean) 1 0 0 [.int a1, .int a2] post := by
  refine g_start (by decide) (Nat.le_of_ble_eq_true rfl) ?_
  intro p e s m args below meth c ls hc hr hn hl hw
  have hc : CX Γ p s m args meth c cX7_mayBe RX7 2 := hc
  have hl : lv_has ls 2 [(0, .int a1), (1, .int a2)] := hl
  have hx := hc.1
  have hb := hc.2.1
  unfold w_X7_mayBe at h
  generalize hHH : s.heap = H0 at hw ⊢
  refine lv_iload_n hx hb dX7_mayBe_0 rfl (lv_at hl 1 rfl) ?_
  refine lv_i2l (v := a2.toInt64) hx hb dX7_mayBe_1 rfl ?_
  refine lv_iload_n hx hb dX7_mayBe_2 rfl (lv_at hl 0 rfl) ?_
  refine lv_if_ne (tgt := 10) hx hb dX7_mayBe_3 (by decide) (fun c1 => ?_) (fun c1 => ?_)
  · replace h := h.2 c1
    refine lv_lconst (v := 0) hx hb dX7_mayBe_10 (by decide) ?_
    refine lv_ldc2 (v := 99) hx hb hc.2.2.2.1 (hc.2.2.2.2.1 _ q_1079) dX7_mayBe_11 ?_
    refine g_Si (Y := YM) (n := 3) (k := 0) (As := [.long a2.toInt64, .long 0, .long 99]) (rest := []) vw_X7_75 ⟨Nat.le_of_ble_eq_true rfl, Nat.le_of_ble_eq_true rfl, Nat.zero_le _, Nat.zero_le _⟩ hc hw hl.1 (m_X7_in l hM a2.toInt64 0 99 σ h) rfl rfl (Nat.le_of_ble_eq_true rfl) dX7_mayBe_14 (fun r3 σ2 H locs h hw => ?_)
    exact g_zret hc hr hw h.1 h.2 dX7_mayBe_17
  · replace h := h.1 c1
    refine lv_lconst (v := 1) hx hb dX7_mayBe_6 (by decide) ?_
    refine lv_goto (tgt := 11) hx hb dX7_mayBe_7 (by decide) ?_
    refine lv_ldc2 (v := 99) hx hb hc.2.2.2.1 (hc.2.2.2.2.1 _ q_1079) dX7_mayBe_11 ?_
    refine g_Si (Y := YM) (n := 3) (k := 0) (As := [.long a2.toInt64, .long 1, .long 99]) (rest := []) vw_X7_75 ⟨Nat.le_of_ble_eq_true rfl, Nat.le_of_ble_eq_true rfl, Nat.zero_le _, Nat.zero_le _⟩ hc hw hl.1 (m_X7_in l hM a2.toInt64 1 99 σ h) rfl rfl (Nat.le_of_ble_eq_true rfl) dX7_mayBe_14 (fun r5 σ4 H locs h hw => ?_)
    exact g_zret hc hr hw h.1 h.2 dX7_mayBe_17
def w_X7_set_31 (M : Nat) (post : Int32 → St → Prop) (v1 : Int32) (v2 : Int32) (t0 : Int64) (t1 : Int64) (t2 : Int64) (σ : St) : Prop :=
  w_X7_in M (fun r2 σ1 => ((r2 = 0 → (post (-2) σ1)) ∧ (¬ (r2 = 0) → ((vp_in v1 3) ∧ ((vp_in v1 3) ∧ (∀ σ4 : St, σ4 = si σ1 2 v1.toNatClampNeg v2 → (post (gi σ1 2 v1.toNatClampNeg) σ4))))))) t2 t1 t0 σ
set_option maxHeartbeats 4000000 in
set_option maxRecDepth 20000 in
theorem b_X7_set_31 {Γ : Gm} {ad : Nat → Nat} {p : Program} {l : Launch} {e : Env} {s : State} {m : MethodId} {args : Array Value} {below : List Frame} {meth : Method} {c : Code} {M : Nat} (hM : 20 ≤ M) {post : Int32 → St → Prop}
    (v1 : Int32) (v2 : Int32) (t0 : Int64) (t1 : Int64) (t2 : Int64) (σ : St) (H : Heap) (locs : List Loc) (ls : Array Slot) (h : w_X7_set_31 M post v1 v2 t0 t1 t2 σ) (hc : CX Γ p s m args meth c cX7_set RX7 4) (hr : meth.sig.returnType = (Option.some Jvm.ClassFile.FieldType.int)) (hw : WH Γ YM M ad σ s H locs) (hl : lv_has ls 4 [(0, .ref (ad 0)), (1, .int v1), (2, .int v2)]) :
    W p l e (rmL 1 0 0) s m args below meth c H locs 0 0 (MQ below (va_Qi post (fun u t => WC Γ YM M ad u t) (AA Γ)) args s 0 0 (AA Γ)) (F0 m 31 ls [.long t0, .long t1, .long t2]) := by
  have hx := hc.1
  have hb := hc.2.1
  unfold w_X7_set_31 at h
  refine g_Si (Y := YM) (n := 3) (k := 0) (As := [.long t2, .long t1, .long t0]) (rest := []) vw_X7_75 ⟨Nat.le_of_ble_eq_true rfl, Nat.le_of_ble_eq_true rfl, Nat.zero_le _, Nat.zero_le _⟩ hc hw hl.1 (m_X7_in l hM t2 t1 t0 σ h) rfl rfl (Nat.le_of_ble_eq_true rfl) dX7_set_31 (fun r2 σ1 H locs h hw => ?_)
  refine lv_if_ne (tgt := 40) hx hb dX7_set_34 (by decide) (fun c3 => ?_) (fun c3 => ?_)
  · replace h := h.2 c3
    refine lv_aload_n hx hb dX7_set_40 rfl (lv_at hl 0 rfl) ?_
    refine fg_X7_13 hc hw (Nat.lt_of_lt_of_le (by decide) hM) rfl dX7_set_41 ?_
    refine lv_iload_n hx hb dX7_set_44 rfl (lv_at hl 1 rfl) ?_
    refine g_ialdK (Y := YM) (kd := 22) (n := 3) (k := v1.toNatClampNeg) (o := 2) (by decide) (by decide) rfl hc hw (Nat.lt_of_lt_of_le (by decide) hM) rfl rfl h.1 rfl dX7_set_45 ?_
    replace h := h.2
    refine lv_istore_n (lv' := [(3, .int (gi σ1 2 v1.toNatClampNeg)), (0, .ref (ad 0)), (1, .int v1), (2, .int v2)]) hx hb dX7_set_46 rfl hl (by decide) rfl (fun ls hl => ?_)
    refine lv_aload_n hx hb dX7_set_47 rfl (lv_at hl 1 rfl) ?_
    refine fg_X7_13 hc hw (Nat.lt_of_lt_of_le (by decide) hM) rfl dX7_set_48 ?_
    refine lv_iload_n hx hb dX7_set_51 rfl (lv_at hl 2 rfl) ?_
    refine lv_iload_n hx hb dX7_set_52 rfl (lv_at hl 3 rfl) ?_
    have hin := h.1
    replace h := h.2
    refine g_iastK (Y := YM) (kd := 22) (n := 3) (k := v1.toNatClampNeg) (o := 2) YM_ok (by decide) (by decide) rfl hc hw (Nat.lt_of_lt_of_le (by decide) hM) rfl rfl hin rfl dX7_set_53 (fun σ4 H locs eσ4 hw => ?_)
    replace h := h σ4 eσ4
    refine lv_iload_n hx hb dX7_set_54 rfl (lv_at hl 0 rfl) ?_
    exact g_iret hc hr hw h dX7_set_55
  · replace h := h.1 c3
    refine lv_bipush (v := (-2)) hx hb dX7_set_37 (by decide) ?_
    exact g_iret hc hr hw h dX7_set_39
def w_X7_set (M : Nat) (post : Int32 → St → Prop) (a1 : Int32) (a2 : Int32) (σ : St) : Prop :=
  w_X7_in M (fun r2 σ1 => ((r2 = 0 → (post (-1) σ1)) ∧ (¬ (r2 = 0) → ((a1 = 1 → (w_X7_set_31 M post a1 a2 99 0 a2.toInt64 σ1)) ∧ (¬ (a1 = 1) → (w_X7_set_31 M post a1 a2 9 0 a2.toInt64 σ1)))))) a1.toInt64 0 2 σ
set_option maxHeartbeats 4000000 in
set_option maxRecDepth 20000 in
theorem m_X7_set {Γ : Gm} {ad : Nat → Nat} {M : Nat} (l : Launch) (hM : 20 ≤ M) {post : Int32 → St → Prop} (a1 : Int32) (a2 : Int32) (σ : St) (h : w_X7_set M post a1 a2 σ) : Ci l Γ YM M ad σ yX7_set cX7_set 4 (Option.some Jvm.ClassFile.FieldType.int) 1 0 0 [.ref (ad 0), .int a1, .int a2] post := by
  refine g_start (by decide) (Nat.le_of_ble_eq_true rfl) ?_
  intro p e s m args below meth c ls hc hr hn hl hw
  have hc : CX Γ p s m args meth c cX7_set RX7 4 := hc
  have hl : lv_has ls 4 [(0, .ref (ad 0)), (1, .int a1), (2, .int a2)] := hl
  have hx := hc.1
  have hb := hc.2.1
  unfold w_X7_set at h
  generalize hHH : s.heap = H0 at hw ⊢
  refine lv_iload_n hx hb dX7_set_0 rfl (lv_at hl 1 rfl) ?_
  refine lv_i2l (v := a1.toInt64) hx hb dX7_set_1 rfl ?_
  refine lv_lconst (v := 0) hx hb dX7_set_2 (by decide) ?_
  refine lv_ldc2 (v := 2) hx hb hc.2.2.2.1 (hc.2.2.2.2.1 _ q_1100) dX7_set_3 ?_
  refine g_Si (Y := YM) (n := 3) (k := 0) (As := [.long a1.toInt64, .long 0, .long 2]) (rest := []) vw_X7_75 ⟨Nat.le_of_ble_eq_true rfl, Nat.le_of_ble_eq_true rfl, Nat.zero_le _, Nat.zero_le _⟩ hc hw hl.1 (m_X7_in l hM a1.toInt64 0 2 σ h) rfl rfl (Nat.le_of_ble_eq_true rfl) dX7_set_6 (fun r2 σ1 H locs h hw => ?_)
  refine lv_if_ne (tgt := 14) hx hb dX7_set_9 (by decide) (fun c3 => ?_) (fun c3 => ?_)
  · replace h := h.2 c3
    refine lv_iload_n hx hb dX7_set_14 rfl (lv_at hl 2 rfl) ?_
    refine lv_i2l (v := a2.toInt64) hx hb dX7_set_15 rfl ?_
    refine lv_lconst (v := 0) hx hb dX7_set_16 (by decide) ?_
    refine lv_iload_n hx hb dX7_set_17 rfl (lv_at hl 1 rfl) ?_
    refine lv_iconst (v := 1) hx hb dX7_set_18 (by decide) ?_
    refine lv_icmp_ne (tgt := 28) hx hb dX7_set_19 (by decide) (fun c4 => ?_) (fun c4 => ?_)
    · replace h := h.2 c4
      refine lv_ldc2 (v := 9) hx hb hc.2.2.2.1 (hc.2.2.2.2.1 _ q_1101) dX7_set_28 ?_
      exact b_X7_set_31 hM a1 a2 9 0 a2.toInt64 σ1 _ _ _ h  hc hr hw (lv_sub hl [0, 1, 2] rfl)
    · replace h := h.1 c4
      refine lv_ldc2 (v := 99) hx hb hc.2.2.2.1 (hc.2.2.2.2.1 _ q_1079) dX7_set_22 ?_
      refine lv_goto (tgt := 31) hx hb dX7_set_25 (by decide) ?_
      exact b_X7_set_31 hM a1 a2 99 0 a2.toInt64 σ1 _ _ _ h  hc hr hw (lv_sub hl [0, 1, 2] rfl)
  · replace h := h.1 c3
    refine lv_iconst (v := (-1)) hx hb dX7_set_12 (by decide) ?_
    exact g_iret hc hr hw h dX7_set_13
def w_X7_isByte (M : Nat) (post : Int32 → St → Prop) (a1 : Int32) (σ : St) : Prop :=
  w_X7_in M (fun r2 σ1 => (narrow .boolean (.int r2) = .int r2 ∧ post r2 σ1)) a1.toInt64 0 255 σ
set_option maxHeartbeats 4000000 in
set_option maxRecDepth 20000 in
theorem m_X7_isByte {Γ : Gm} {ad : Nat → Nat} {M : Nat} (l : Launch) (hM : 20 ≤ M) {post : Int32 → St → Prop} (a1 : Int32) (σ : St) (h : w_X7_isByte M post a1 σ) : Ci l Γ YM M ad σ yX7_isByte cX7_isByte 1 (Option.some Jvm.ClassFile.FieldType.boolean) 1 0 0 [.int a1] post := by
  refine g_start (by decide) (Nat.le_of_ble_eq_true rfl) ?_
  intro p e s m args below meth c ls hc hr hn hl hw
  have hc : CX Γ p s m args meth c cX7_isByte RX7 1 := hc
  have hl : lv_has ls 1 [(0, .int a1)] := hl
  have hx := hc.1
  have hb := hc.2.1
  unfold w_X7_isByte at h
  generalize hHH : s.heap = H0 at hw ⊢
  refine lv_iload_n hx hb dX7_isByte_0 rfl (lv_at hl 0 rfl) ?_
  refine lv_i2l (v := a1.toInt64) hx hb dX7_isByte_1 rfl ?_
  refine lv_lconst (v := 0) hx hb dX7_isByte_2 (by decide) ?_
  refine lv_ldc2 (v := 255) hx hb hc.2.2.2.1 (hc.2.2.2.2.1 _ q_1114) dX7_isByte_3 ?_
  refine g_Si (Y := YM) (n := 3) (k := 0) (As := [.long a1.toInt64, .long 0, .long 255]) (rest := []) vw_X7_75 ⟨Nat.le_of_ble_eq_true rfl, Nat.le_of_ble_eq_true rfl, Nat.zero_le _, Nat.zero_le _⟩ hc hw hl.1 (m_X7_in l hM a1.toInt64 0 255 σ h) rfl rfl (Nat.le_of_ble_eq_true rfl) dX7_isByte_6 (fun r2 σ1 H locs h hw => ?_)
  exact g_zret hc hr hw h.1 h.2 dX7_isByte_9
def w_X7_isLetter (M : Nat) (post : Int32 → St → Prop) (a1 : Int32) (σ : St) : Prop :=
  w_X7_in M (fun r2 σ1 => (narrow .boolean (.int r2) = .int r2 ∧ post r2 σ1)) a1.toInt64 97 122 σ
set_option maxHeartbeats 4000000 in
set_option maxRecDepth 20000 in
theorem m_X7_isLetter {Γ : Gm} {ad : Nat → Nat} {M : Nat} (l : Launch) (hM : 20 ≤ M) {post : Int32 → St → Prop} (a1 : Int32) (σ : St) (h : w_X7_isLetter M post a1 σ) : Ci l Γ YM M ad σ yX7_isLetter cX7_isLetter 1 (Option.some Jvm.ClassFile.FieldType.boolean) 1 0 0 [.int a1] post := by
  refine g_start (by decide) (Nat.le_of_ble_eq_true rfl) ?_
  intro p e s m args below meth c ls hc hr hn hl hw
  have hc : CX Γ p s m args meth c cX7_isLetter RX7 1 := hc
  have hl : lv_has ls 1 [(0, .int a1)] := hl
  have hx := hc.1
  have hb := hc.2.1
  unfold w_X7_isLetter at h
  generalize hHH : s.heap = H0 at hw ⊢
  refine lv_iload_n hx hb dX7_isLetter_0 rfl (lv_at hl 0 rfl) ?_
  refine lv_i2l (v := a1.toInt64) hx hb dX7_isLetter_1 rfl ?_
  refine lv_ldc2 (v := 97) hx hb hc.2.2.2.1 (hc.2.2.2.2.1 _ q_1130) dX7_isLetter_2 ?_
  refine lv_ldc2 (v := 122) hx hb hc.2.2.2.1 (hc.2.2.2.2.1 _ q_1131) dX7_isLetter_5 ?_
  refine g_Si (Y := YM) (n := 3) (k := 0) (As := [.long a1.toInt64, .long 97, .long 122]) (rest := []) vw_X7_75 ⟨Nat.le_of_ble_eq_true rfl, Nat.le_of_ble_eq_true rfl, Nat.zero_le _, Nat.zero_le _⟩ hc hw hl.1 (m_X7_in l hM a1.toInt64 97 122 σ h) rfl rfl (Nat.le_of_ble_eq_true rfl) dX7_isLetter_8 (fun r2 σ1 H locs h hw => ?_)
  exact g_zret hc hr hw h.1 h.2 dX7_isLetter_11
def w_X7_isDigit (M : Nat) (post : Int32 → St → Prop) (a1 : Int32) (σ : St) : Prop :=
  w_X7_in M (fun r2 σ1 => (narrow .boolean (.int r2) = .int r2 ∧ post r2 σ1)) a1.toInt64 48 57 σ
set_option maxHeartbeats 4000000 in
set_option maxRecDepth 20000 in
theorem m_X7_isDigit {Γ : Gm} {ad : Nat → Nat} {M : Nat} (l : Launch) (hM : 20 ≤ M) {post : Int32 → St → Prop} (a1 : Int32) (σ : St) (h : w_X7_isDigit M post a1 σ) : Ci l Γ YM M ad σ yX7_isDigit cX7_isDigit 1 (Option.some Jvm.ClassFile.FieldType.boolean) 1 0 0 [.int a1] post := by
  refine g_start (by decide) (Nat.le_of_ble_eq_true rfl) ?_
  intro p e s m args below meth c ls hc hr hn hl hw
  have hc : CX Γ p s m args meth c cX7_isDigit RX7 1 := hc
  have hl : lv_has ls 1 [(0, .int a1)] := hl
  have hx := hc.1
  have hb := hc.2.1
  unfold w_X7_isDigit at h
  generalize hHH : s.heap = H0 at hw ⊢
  refine lv_iload_n hx hb dX7_isDigit_0 rfl (lv_at hl 0 rfl) ?_
  refine lv_i2l (v := a1.toInt64) hx hb dX7_isDigit_1 rfl ?_
  refine lv_ldc2 (v := 48) hx hb hc.2.2.2.1 (hc.2.2.2.2.1 _ q_1139) dX7_isDigit_2 ?_
  refine lv_ldc2 (v := 57) hx hb hc.2.2.2.1 (hc.2.2.2.2.1 _ q_1140) dX7_isDigit_5 ?_
  refine g_Si (Y := YM) (n := 3) (k := 0) (As := [.long a1.toInt64, .long 48, .long 57]) (rest := []) vw_X7_75 ⟨Nat.le_of_ble_eq_true rfl, Nat.le_of_ble_eq_true rfl, Nat.zero_le _, Nat.zero_le _⟩ hc hw hl.1 (m_X7_in l hM a1.toInt64 48 57 σ h) rfl rfl (Nat.le_of_ble_eq_true rfl) dX7_isDigit_8 (fun r2 σ1 H locs h hw => ?_)
  exact g_zret hc hr hw h.1 h.2 dX7_isDigit_11
def w_X7_force (M : Nat) (post : Int32 → St → Prop) (a1 : Int32) (σ : St) : Prop :=
  w_X7_in M (fun r2 σ1 => ((r2 = 0 → (post (-2) σ1)) ∧ (¬ (r2 = 0) → (∀ σ4 : St, σ4 = si σ1 0 6 a1 → (post (gi σ1 0 6) σ4))))) a1.toInt64 0 (((gi σ 0 5) - 1).toInt64) σ
set_option maxHeartbeats 4000000 in
set_option maxRecDepth 20000 in
theorem m_X7_force {Γ : Gm} {ad : Nat → Nat} {M : Nat} (l : Launch) (hM : 20 ≤ M) {post : Int32 → St → Prop} (a1 : Int32) (σ : St) (h : w_X7_force M post a1 σ) : Ci l Γ YM M ad σ yX7_force cX7_force 3 (Option.some Jvm.ClassFile.FieldType.int) 1 0 0 [.ref (ad 0), .int a1] post := by
  refine g_start (by decide) (Nat.le_of_ble_eq_true rfl) ?_
  intro p e s m args below meth c ls hc hr hn hl hw
  have hc : CX Γ p s m args meth c cX7_force RX7 3 := hc
  have hl : lv_has ls 3 [(0, .ref (ad 0)), (1, .int a1)] := hl
  have hx := hc.1
  have hb := hc.2.1
  unfold w_X7_force at h
  generalize hHH : s.heap = H0 at hw ⊢
  refine lv_iload_n hx hb dX7_force_0 rfl (lv_at hl 1 rfl) ?_
  refine lv_i2l (v := a1.toInt64) hx hb dX7_force_1 rfl ?_
  refine lv_lconst (v := 0) hx hb dX7_force_2 (by decide) ?_
  refine lv_aload_n hx hb dX7_force_3 rfl (lv_at hl 0 rfl) ?_
  refine fg_X7_68 hc hw (Nat.lt_of_lt_of_le (by decide) hM) rfl dX7_force_4 ?_
  refine lv_iconst (v := 1) hx hb dX7_force_7 (by decide) ?_
  refine lv_isub hx hb dX7_force_8 ?_
  refine lv_i2l (v := ((gi σ 0 5) - 1).toInt64) hx hb dX7_force_9 rfl ?_
  refine g_Si (Y := YM) (n := 3) (k := 0) (As := [.long a1.toInt64, .long 0, .long (((gi σ 0 5) - 1).toInt64)]) (rest := []) vw_X7_75 ⟨Nat.le_of_ble_eq_true rfl, Nat.le_of_ble_eq_true rfl, Nat.zero_le _, Nat.zero_le _⟩ hc hw hl.1 (m_X7_in l hM a1.toInt64 0 (((gi σ 0 5) - 1).toInt64) σ h) rfl rfl (Nat.le_of_ble_eq_true rfl) dX7_force_10 (fun r2 σ1 H locs h hw => ?_)
  refine lv_if_ne (tgt := 19) hx hb dX7_force_13 (by decide) (fun c3 => ?_) (fun c3 => ?_)
  · replace h := h.2 c3
    refine lv_aload_n hx hb dX7_force_19 rfl (lv_at hl 0 rfl) ?_
    refine fg_X7_98 hc hw (Nat.lt_of_lt_of_le (by decide) hM) rfl dX7_force_20 ?_
    refine lv_istore_n (lv' := [(2, .int (gi σ1 0 6)), (0, .ref (ad 0)), (1, .int a1)]) hx hb dX7_force_23 rfl hl (by decide) rfl (fun ls hl => ?_)
    refine lv_aload_n hx hb dX7_force_24 rfl (lv_at hl 1 rfl) ?_
    refine lv_iload_n hx hb dX7_force_25 rfl (lv_at hl 2 rfl) ?_
    refine fp_X7_98 (o := 0) hc hw (Nat.lt_of_lt_of_le (by decide) hM) rfl dX7_force_26 (fun σ4 H locs eσ4 hw => ?_)
    replace h := h σ4 eσ4
    refine lv_iload_n hx hb dX7_force_29 rfl (lv_at hl 0 rfl) ?_
    exact g_iret hc hr hw h dX7_force_30
  · replace h := h.1 c3
    refine lv_bipush (v := (-2)) hx hb dX7_force_16 (by decide) ?_
    exact g_iret hc hr hw h dX7_force_18
def w_X7_work_114 (M : Nat) (post : Int32 → St → Prop) (k_114 : Int32 → Int32 → Int32 → St → Prop) (v1 : Int32) (v2 : Int32) (v3 : Int32) (σ : St) : Prop :=
  (vp_in ((3 * (gi σ 0 6)) + v1) 21) ∧ (∀ x1 : Int32, x1 = gi σ 6 (((3 * (gi σ 0 6)) + v1).toNatClampNeg) → ((x1 ≤ v3 → ((v1 = 2 → (w_X7_held M (fun r7 σ6 => (post r7 σ6)) (gi σ 8 0) 999 σ)) ∧ (¬ (v1 = 2) → (w_X7_held M (fun r5 σ4 => (post r5 σ4)) (gi σ 8 0) 100 σ)))) ∧ (¬ (x1 ≤ v3) → ((vp_in v3 3570) ∧ (((gi σ 4 v3.toNatClampNeg) ≤ (-100) → (((gi σ 4 v3.toNatClampNeg) = (-100) → ((vp_in (v2 - 1) 170) ∧ (∀ x24 : Int32, x24 = gi σ 8 ((v2 - 1).toNatClampNeg) → ((vp_in (v2 - 1) 170) ∧ (∀ σ25 : St, σ25 = si σ 8 ((v2 - 1).toNatClampNeg) (-x24) → (∀ x26 : Int32, x26 = v3 + 1 → (k_114 v1 v2 x26 σ25))))))) ∧ (¬ ((gi σ 4 v3.toNatClampNeg) = (-100)) → (((gi σ 4 v3.toNatClampNeg) = (-101) → ((vp_in (v2 - 1) 170) ∧ (∀ x18 : Int32, x18 = gi σ 8 ((v2 - 1).toNatClampNeg) → ((x18 = 0 → ((vp_in (v2 - 1) 170) ∧ (∀ σ22 : St, σ22 = si σ 8 ((v2 - 1).toNatClampNeg) 1 → (∀ x23 : Int32, x23 = v3 + 1 → (k_114 v1 v2 x23 σ22))))) ∧ (¬ (x18 = 0) → ((vp_in (v2 - 1) 170) ∧ (∀ σ20 : St, σ20 = si σ 8 ((v2 - 1).toNatClampNeg) 0 → (∀ x21 : Int32, x21 = v3 + 1 → (k_114 v1 v2 x21 σ20))))))))) ∧ (¬ ((gi σ 4 v3.toNatClampNeg) = (-101)) → (∀ x11 : Int32, x11 = v2 + (-1) → (∀ x12 : Int32, x12 = (-100) - (gi σ 4 v3.toNatClampNeg) → ((vp_in (x11 - 1) 170) ∧ (∀ x13 : Int32, x13 = gi σ 8 ((x11 - 1).toNatClampNeg) → ((vp_in x11 170) ∧ (w_X7_reckon M (fun r15 σ14 => ((vp_in (x11 - 1) 170) ∧ (∀ σ16 : St, σ16 = si σ14 8 ((x11 - 1).toNatClampNeg) r15 → (∀ x17 : Int32, x17 = v3 + 1 → (k_114 v1 x11 x17 σ16))))) x12 x13 (gi σ 8 x11.toNatClampNeg) σ))))))))))) ∧ (¬ ((gi σ 4 v3.toNatClampNeg) ≤ (-100)) → ((0 ≤ (gi σ 4 v3.toNatClampNeg) → ((vp_in v2 170) ∧ (∀ σ28 : St, σ28 = si σ 8 v2.toNatClampNeg (gi σ 4 v3.toNatClampNeg) → (∀ x29 : Int32, x29 = v2 + 1 → (∀ x30 : Int32, x30 = v3 + 1 → (k_114 v1 x29 x30 σ28)))))) ∧ (¬ (0 ≤ (gi σ 4 v3.toNatClampNeg)) → (∀ x31 : Int32, x31 = (-1) - (gi σ 4 v3.toNatClampNeg) → ((vp_in x31 6) ∧ ((vp_in v2 170) ∧ (∀ σ32 : St, σ32 = si σ 8 v2.toNatClampNeg (gi σ 9 x31.toNatClampNeg) → (∀ x33 : Int32, x33 = v2 + 1 → (∀ x34 : Int32, x34 = v3 + 1 → (k_114 v1 x33 x34 σ32)))))))))))))))
set_option maxHeartbeats 4000000 in
set_option maxRecDepth 20000 in
theorem b_X7_work_114 {Γ : Gm} {ad : Nat → Nat} {p : Program} {l : Launch} {e : Env} {s : State} {m : MethodId} {args : Array Value} {below : List Frame} {meth : Method} {c : Code} {M : Nat} (hM : 20 ≤ M) {post : Int32 → St → Prop} {k_114 : Int32 → Int32 → Int32 → St → Prop} (hk_114 : ∀ (v1 : Int32) (v2 : Int32) (v3 : Int32) (σ : St) (H : Heap) (locs : List Loc) (ls : Array Slot), k_114 v1 v2 v3 σ → WH Γ YM M ad σ s H locs → lv_has ls 5 [(0, .ref (ad 0)), (1, .int v1), (2, .int v2), (3, .int v3)] → W p l e (rmL 1 0 0) s m args below meth c H locs 0 0 (MQ below (va_Qi post (fun u t => WC Γ YM M ad u t) (AA Γ)) args s 0 0 (AA Γ)) (F0 m 114 ls []))
    (v1 : Int32) (v2 : Int32) (v3 : Int32) (σ : St) (H : Heap) (locs : List Loc) (ls : Array Slot) (h : w_X7_work_114 M post k_114 v1 v2 v3 σ) (hc : CX Γ p s m args meth c cX7_work RX7 5) (hr : meth.sig.returnType = (Option.some Jvm.ClassFile.FieldType.int)) (hw : WH Γ YM M ad σ s H locs) (hl : lv_has ls 5 [(0, .ref (ad 0)), (1, .int v1), (2, .int v2), (3, .int v3)]) :
    W p l e (rmL 1 0 0) s m args below meth c H locs 0 0 (MQ below (va_Qi post (fun u t => WC Γ YM M ad u t) (AA Γ)) args s 0 0 (AA Γ)) (F0 m 114 ls []) := by
  have hx := hc.1
  have hb := hc.2.1
  unfold w_X7_work_114 at h
  refine lv_iload_n hx hb dX7_work_114 rfl (lv_at hl 3 rfl) ?_
  refine lv_aload_n hx hb dX7_work_115 rfl (lv_at hl 0 rfl) ?_
  refine fg_X7_25 hc hw (Nat.lt_of_lt_of_le (by decide) hM) rfl dX7_work_116 ?_
  refine lv_iconst (v := 3) hx hb dX7_work_119 (by decide) ?_
  refine lv_aload_n hx hb dX7_work_120 rfl (lv_at hl 0 rfl) ?_
  refine fg_X7_98 hc hw (Nat.lt_of_lt_of_le (by decide) hM) rfl dX7_work_121 ?_
  refine lv_imul hx hb dX7_work_124 ?_
  refine lv_iload_n hx hb dX7_work_125 rfl (lv_at hl 1 rfl) ?_
  refine lv_iadd hx hb dX7_work_126 ?_
  refine g_ialdK (Y := YM) (kd := 26) (n := 21) (k := ((3 * (gi σ 0 6)) + v1).toNatClampNeg) (o := 6) (by decide) (by decide) rfl hc hw (Nat.lt_of_lt_of_le (by decide) hM) rfl rfl h.1 rfl dX7_work_127 ?_
  replace h := h.2
  refine lv_topi (fun x1 ex1 => ?_)
  replace h := h x1 ex1
  refine lv_icmp_ge (tgt := 277) hx hb dX7_work_128 (by decide) (fun c2 => ?_) (fun c2 => ?_)
  · replace h := h.1 c2
    refine lv_aload_n hx hb dX7_work_277 rfl (lv_at hl 0 rfl) ?_
    refine fg_X7_32 hc hw (Nat.lt_of_lt_of_le (by decide) hM) rfl dX7_work_278 ?_
    refine lv_iconst (v := 0) hx hb dX7_work_281 (by decide) ?_
    refine g_ialdK (Y := YM) (kd := 28) (n := 170) (k := 0) (o := 8) (by decide) (by decide) rfl hc hw (Nat.lt_of_lt_of_le (by decide) hM) rfl rfl (vp_in_lit (by decide)) (by decide) dX7_work_282 ?_
    refine lv_iload_n hx hb dX7_work_283 rfl (lv_at hl 1 rfl) ?_
    refine lv_iconst (v := 2) hx hb dX7_work_284 (by decide) ?_
    refine lv_icmp_ne (tgt := 294) hx hb dX7_work_285 (by decide) (fun c3 => ?_) (fun c3 => ?_)
    · replace h := h.2 c3
      refine lv_bipush (v := 100) hx hb dX7_work_294 (by decide) ?_
      refine g_Si (Y := YM) (n := 2) (k := 0) (As := [.int (gi σ 8 0), .int 100]) (rest := []) vw_X7_203 ⟨Nat.le_of_ble_eq_true rfl, Nat.le_of_ble_eq_true rfl, Nat.zero_le _, Nat.zero_le _⟩ hc hw hl.1 (m_X7_held l hM (gi σ 8 0) 100 σ h) rfl rfl (Nat.le_of_ble_eq_true rfl) dX7_work_296 (fun r5 σ4 H locs h hw => ?_)
      exact g_iret hc hr hw h dX7_work_299
    · replace h := h.1 c3
      refine lv_sipush (v := 999) hx hb dX7_work_288 (by decide) ?_
      refine lv_goto (tgt := 296) hx hb dX7_work_291 (by decide) ?_
      refine g_Si (Y := YM) (n := 2) (k := 0) (As := [.int (gi σ 8 0), .int 999]) (rest := []) vw_X7_203 ⟨Nat.le_of_ble_eq_true rfl, Nat.le_of_ble_eq_true rfl, Nat.zero_le _, Nat.zero_le _⟩ hc hw hl.1 (m_X7_held l hM (gi σ 8 0) 999 σ h) rfl rfl (Nat.le_of_ble_eq_true rfl) dX7_work_296 (fun r7 σ6 H locs h hw => ?_)
      exact g_iret hc hr hw h dX7_work_299
  · replace h := h.2 c2
    refine lv_aload_n hx hb dX7_work_131 rfl (lv_at hl 0 rfl) ?_
    refine fg_X7_19 hc hw (Nat.lt_of_lt_of_le (by decide) hM) rfl dX7_work_132 ?_
    refine lv_iload_n hx hb dX7_work_135 rfl (lv_at hl 3 rfl) ?_
    refine g_ialdK (Y := YM) (kd := 24) (n := 3570) (k := v3.toNatClampNeg) (o := 4) (by decide) (by decide) rfl hc hw (Nat.lt_of_lt_of_le (by decide) hM) rfl rfl h.1 rfl dX7_work_136 ?_
    replace h := h.2
    refine lv_istore (lv' := [(4, .int (gi σ 4 v3.toNatClampNeg)), (0, .ref (ad 0)), (1, .int v1), (2, .int v2), (3, .int v3)]) hx hb dX7_work_137 hl (by decide) rfl (fun ls hl => ?_)
    refine lv_iload hx hb dX7_work_139 (lv_at hl 0 rfl) ?_
    refine lv_bipush (v := (-100)) hx hb dX7_work_141 (by decide) ?_
    refine lv_icmp_le (tgt := 177) hx hb dX7_work_143 (by decide) (fun c8 => ?_) (fun c8 => ?_)
    · replace h := h.1 c8
      refine lv_iload hx hb dX7_work_177 (lv_at hl 0 rfl) ?_
      refine lv_bipush (v := (-100)) hx hb dX7_work_179 (by decide) ?_
      refine lv_icmp_ne (tgt := 204) hx hb dX7_work_181 (by decide) (fun c9 => ?_) (fun c9 => ?_)
      · replace h := h.2 c9
        refine lv_iload hx hb dX7_work_204 (lv_at hl 0 rfl) ?_
        refine lv_bipush (v := (-101)) hx hb dX7_work_206 (by decide) ?_
        refine lv_icmp_ne (tgt := 238) hx hb dX7_work_208 (by decide) (fun c10 => ?_) (fun c10 => ?_)
        · replace h := h.2 c10
          obtain ⟨x11, ex11⟩ : ∃ z, z = v2 + (-1) := ⟨_, rfl⟩
          replace h := h x11 ex11
          refine lv_iinc (v := x11) (lv' := [(2, .int x11), (4, .int (gi σ 4 v3.toNatClampNeg)), (0, .ref (ad 0)), (1, .int v1), (3, .int v3)]) hx hb dX7_work_238 hl (k := 3) rfl (by rw [ex11]; rfl) (by decide) rfl (fun ls hl => ?_)
          refine lv_aload_n hx hb dX7_work_241 rfl (lv_at hl 2 rfl) ?_
          refine fg_X7_32 hc hw (Nat.lt_of_lt_of_le (by decide) hM) rfl dX7_work_242 ?_
          refine lv_iload_n hx hb dX7_work_245 rfl (lv_at hl 0 rfl) ?_
          refine lv_iconst (v := 1) hx hb dX7_work_246 (by decide) ?_
          refine lv_isub hx hb dX7_work_247 ?_
          refine lv_bipush (v := (-100)) hx hb dX7_work_248 (by decide) ?_
          refine lv_iload hx hb dX7_work_250 (lv_at hl 1 rfl) ?_
          refine lv_isub hx hb dX7_work_252 ?_
          refine lv_topi (fun x12 ex12 => ?_)
          replace h := h x12 ex12
          refine lv_aload_n hx hb dX7_work_253 rfl (lv_at hl 2 rfl) ?_
          refine fg_X7_32 hc hw (Nat.lt_of_lt_of_le (by decide) hM) rfl dX7_work_254 ?_
          refine lv_iload_n hx hb dX7_work_257 rfl (lv_at hl 0 rfl) ?_
          refine lv_iconst (v := 1) hx hb dX7_work_258 (by decide) ?_
          refine lv_isub hx hb dX7_work_259 ?_
          refine g_ialdK (Y := YM) (kd := 28) (n := 170) (k := (x11 - 1).toNatClampNeg) (o := 8) (by decide) (by decide) rfl hc hw (Nat.lt_of_lt_of_le (by decide) hM) rfl rfl h.1 rfl dX7_work_260 ?_
          replace h := h.2
          refine lv_topi (fun x13 ex13 => ?_)
          replace h := h x13 ex13
          refine lv_aload_n hx hb dX7_work_261 rfl (lv_at hl 2 rfl) ?_
          refine fg_X7_32 hc hw (Nat.lt_of_lt_of_le (by decide) hM) rfl dX7_work_262 ?_
          refine lv_iload_n hx hb dX7_work_265 rfl (lv_at hl 0 rfl) ?_
          refine g_ialdK (Y := YM) (kd := 28) (n := 170) (k := x11.toNatClampNeg) (o := 8) (by decide) (by decide) rfl hc hw (Nat.lt_of_lt_of_le (by decide) hM) rfl rfl h.1 rfl dX7_work_266 ?_
          replace h := h.2
          refine g_Si (Y := YM) (n := 3) (k := 0) (As := [.int x12, .int x13, .int (gi σ 8 x11.toNatClampNeg)]) (rest := [.int (x11 - 1), .ref (ad 8)]) vw_X7_199 ⟨Nat.le_of_ble_eq_true rfl, Nat.le_of_ble_eq_true rfl, Nat.zero_le _, Nat.zero_le _⟩ hc hw hl.1 (m_X7_reckon l hM x12 x13 (gi σ 8 x11.toNatClampNeg) σ h) rfl rfl (Nat.le_of_ble_eq_true rfl) dX7_work_267 (fun r15 σ14 H locs h hw => ?_)
          have hin := h.1
          replace h := h.2
          refine g_iastK (Y := YM) (kd := 28) (n := 170) (k := (x11 - 1).toNatClampNeg) (o := 8) YM_ok (by decide) (by decide) rfl hc hw (Nat.lt_of_lt_of_le (by decide) hM) rfl rfl hin rfl dX7_work_270 (fun σ16 H locs eσ16 hw => ?_)
          replace h := h σ16 eσ16
          obtain ⟨x17, ex17⟩ : ∃ z, z = v3 + 1 := ⟨_, rfl⟩
          replace h := h x17 ex17
          refine lv_iinc (v := x17) (lv' := [(3, .int x17), (2, .int x11), (4, .int (gi σ 4 v3.toNatClampNeg)), (0, .ref (ad 0)), (1, .int v1)]) hx hb dX7_work_271 hl (k := 4) rfl (by rw [ex17]; rfl) (by decide) rfl (fun ls hl => ?_)
          refine lv_goto (tgt := 114) hx hb dX7_work_274 (by decide) ?_
          exact hk_114 v1 x11 x17 σ16 _ _ _ h  hw (lv_sub hl [3, 4, 1, 0] rfl)
        · replace h := h.1 c10
          refine lv_aload_n hx hb dX7_work_211 rfl (lv_at hl 1 rfl) ?_
          refine fg_X7_32 hc hw (Nat.lt_of_lt_of_le (by decide) hM) rfl dX7_work_212 ?_
          refine lv_iload_n hx hb dX7_work_215 rfl (lv_at hl 3 rfl) ?_
          refine lv_iconst (v := 1) hx hb dX7_work_216 (by decide) ?_
          refine lv_isub hx hb dX7_work_217 ?_
          refine lv_aload_n hx hb dX7_work_218 rfl (lv_at hl 1 rfl) ?_
          refine fg_X7_32 hc hw (Nat.lt_of_lt_of_le (by decide) hM) rfl dX7_work_219 ?_
          refine lv_iload_n hx hb dX7_work_222 rfl (lv_at hl 3 rfl) ?_
          refine lv_iconst (v := 1) hx hb dX7_work_223 (by decide) ?_
          refine lv_isub hx hb dX7_work_224 ?_
          refine g_ialdK (Y := YM) (kd := 28) (n := 170) (k := (v2 - 1).toNatClampNeg) (o := 8) (by decide) (by decide) rfl hc hw (Nat.lt_of_lt_of_le (by decide) hM) rfl rfl h.1 rfl dX7_work_225 ?_
          replace h := h.2
          refine lv_topi (fun x18 ex18 => ?_)
          replace h := h x18 ex18
          refine lv_if_ne (tgt := 233) hx hb dX7_work_226 (by decide) (fun c19 => ?_) (fun c19 => ?_)
          · replace h := h.2 c19
            refine lv_iconst (v := 0) hx hb dX7_work_233 (by decide) ?_
            have hin := h.1
            replace h := h.2
            refine g_iastK (Y := YM) (kd := 28) (n := 170) (k := (v2 - 1).toNatClampNeg) (o := 8) YM_ok (by decide) (by decide) rfl hc hw (Nat.lt_of_lt_of_le (by decide) hM) rfl rfl hin rfl dX7_work_234 (fun σ20 H locs eσ20 hw => ?_)
            replace h := h σ20 eσ20
            refine lv_goto (tgt := 271) hx hb dX7_work_235 (by decide) ?_
            obtain ⟨x21, ex21⟩ : ∃ z, z = v3 + 1 := ⟨_, rfl⟩
            replace h := h x21 ex21
            refine lv_iinc (v := x21) (lv' := [(3, .int x21), (4, .int (gi σ 4 v3.toNatClampNeg)), (0, .ref (ad 0)), (1, .int v1), (2, .int v2)]) hx hb dX7_work_271 hl (k := 4) rfl (by rw [ex21]; rfl) (by decide) rfl (fun ls hl => ?_)
            refine lv_goto (tgt := 114) hx hb dX7_work_274 (by decide) ?_
            exact hk_114 v1 v2 x21 σ20 _ _ _ h  hw (lv_sub hl [2, 3, 4, 0] rfl)
          · replace h := h.1 c19
            refine lv_iconst (v := 1) hx hb dX7_work_229 (by decide) ?_
            refine lv_goto (tgt := 234) hx hb dX7_work_230 (by decide) ?_
            have hin := h.1
            replace h := h.2
            refine g_iastK (Y := YM) (kd := 28) (n := 170) (k := (v2 - 1).toNatClampNeg) (o := 8) YM_ok (by decide) (by decide) rfl hc hw (Nat.lt_of_lt_of_le (by decide) hM) rfl rfl hin rfl dX7_work_234 (fun σ22 H locs eσ22 hw => ?_)
            replace h := h σ22 eσ22
            refine lv_goto (tgt := 271) hx hb dX7_work_235 (by decide) ?_
            obtain ⟨x23, ex23⟩ : ∃ z, z = v3 + 1 := ⟨_, rfl⟩
            replace h := h x23 ex23
            refine lv_iinc (v := x23) (lv' := [(3, .int x23), (4, .int (gi σ 4 v3.toNatClampNeg)), (0, .ref (ad 0)), (1, .int v1), (2, .int v2)]) hx hb dX7_work_271 hl (k := 4) rfl (by rw [ex23]; rfl) (by decide) rfl (fun ls hl => ?_)
            refine lv_goto (tgt := 114) hx hb dX7_work_274 (by decide) ?_
            exact hk_114 v1 v2 x23 σ22 _ _ _ h  hw (lv_sub hl [2, 3, 4, 0] rfl)
      · replace h := h.1 c9
        refine lv_aload_n hx hb dX7_work_184 rfl (lv_at hl 1 rfl) ?_
        refine fg_X7_32 hc hw (Nat.lt_of_lt_of_le (by decide) hM) rfl dX7_work_185 ?_
        refine lv_iload_n hx hb dX7_work_188 rfl (lv_at hl 3 rfl) ?_
        refine lv_iconst (v := 1) hx hb dX7_work_189 (by decide) ?_
        refine lv_isub hx hb dX7_work_190 ?_
        refine lv_aload_n hx hb dX7_work_191 rfl (lv_at hl 1 rfl) ?_
        refine fg_X7_32 hc hw (Nat.lt_of_lt_of_le (by decide) hM) rfl dX7_work_192 ?_
        refine lv_iload_n hx hb dX7_work_195 rfl (lv_at hl 3 rfl) ?_
        refine lv_iconst (v := 1) hx hb dX7_work_196 (by decide) ?_
        refine lv_isub hx hb dX7_work_197 ?_
        refine g_ialdK (Y := YM) (kd := 28) (n := 170) (k := (v2 - 1).toNatClampNeg) (o := 8) (by decide) (by decide) rfl hc hw (Nat.lt_of_lt_of_le (by decide) hM) rfl rfl h.1 rfl dX7_work_198 ?_
        replace h := h.2
        refine lv_topi (fun x24 ex24 => ?_)
        replace h := h x24 ex24
        refine lv_ineg hx hb dX7_work_199 ?_
        have hin := h.1
        replace h := h.2
        refine g_iastK (Y := YM) (kd := 28) (n := 170) (k := (v2 - 1).toNatClampNeg) (o := 8) YM_ok (by decide) (by decide) rfl hc hw (Nat.lt_of_lt_of_le (by decide) hM) rfl rfl hin rfl dX7_work_200 (fun σ25 H locs eσ25 hw => ?_)
        replace h := h σ25 eσ25
        refine lv_goto (tgt := 271) hx hb dX7_work_201 (by decide) ?_
        obtain ⟨x26, ex26⟩ : ∃ z, z = v3 + 1 := ⟨_, rfl⟩
        replace h := h x26 ex26
        refine lv_iinc (v := x26) (lv' := [(3, .int x26), (4, .int (gi σ 4 v3.toNatClampNeg)), (0, .ref (ad 0)), (1, .int v1), (2, .int v2)]) hx hb dX7_work_271 hl (k := 4) rfl (by rw [ex26]; rfl) (by decide) rfl (fun ls hl => ?_)
        refine lv_goto (tgt := 114) hx hb dX7_work_274 (by decide) ?_
        exact hk_114 v1 v2 x26 σ25 _ _ _ h  hw (lv_sub hl [2, 3, 4, 0] rfl)
    · replace h := h.2 c8
      refine lv_aload_n hx hb dX7_work_146 rfl (lv_at hl 1 rfl) ?_
      refine fg_X7_32 hc hw (Nat.lt_of_lt_of_le (by decide) hM) rfl dX7_work_147 ?_
      refine lv_iload_n hx hb dX7_work_150 rfl (lv_at hl 3 rfl) ?_
      refine lv_iload hx hb dX7_work_151 (lv_at hl 0 rfl) ?_
      refine lv_if_ge (tgt := 168) hx hb dX7_work_153 (by decide) (fun c27 => ?_) (fun c27 => ?_)
      · replace h := h.1 c27
        refine lv_iload hx hb dX7_work_168 (lv_at hl 0 rfl) ?_
        have hin := h.1
        replace h := h.2
        refine g_iastK (Y := YM) (kd := 28) (n := 170) (k := v2.toNatClampNeg) (o := 8) YM_ok (by decide) (by decide) rfl hc hw (Nat.lt_of_lt_of_le (by decide) hM) rfl rfl hin rfl dX7_work_170 (fun σ28 H locs eσ28 hw => ?_)
        replace h := h σ28 eσ28
        obtain ⟨x29, ex29⟩ : ∃ z, z = v2 + 1 := ⟨_, rfl⟩
        replace h := h x29 ex29
        refine lv_iinc (v := x29) (lv' := [(2, .int x29), (4, .int (gi σ 4 v3.toNatClampNeg)), (0, .ref (ad 0)), (1, .int v1), (3, .int v3)]) hx hb dX7_work_171 hl (k := 3) rfl (by rw [ex29]; rfl) (by decide) rfl (fun ls hl => ?_)
        refine lv_goto (tgt := 271) hx hb dX7_work_174 (by decide) ?_
        obtain ⟨x30, ex30⟩ : ∃ z, z = v3 + 1 := ⟨_, rfl⟩
        replace h := h x30 ex30
        refine lv_iinc (v := x30) (lv' := [(3, .int x30), (2, .int x29), (4, .int (gi σ 4 v3.toNatClampNeg)), (0, .ref (ad 0)), (1, .int v1)]) hx hb dX7_work_271 hl (k := 4) rfl (by rw [ex30]; rfl) (by decide) rfl (fun ls hl => ?_)
        refine lv_goto (tgt := 114) hx hb dX7_work_274 (by decide) ?_
        exact hk_114 v1 x29 x30 σ28 _ _ _ h  hw (lv_sub hl [3, 4, 1, 0] rfl)
      · replace h := h.2 c27
        refine lv_aload_n hx hb dX7_work_156 rfl (lv_at hl 1 rfl) ?_
        refine fg_X7_35 hc hw (Nat.lt_of_lt_of_le (by decide) hM) rfl dX7_work_157 ?_
        refine lv_iconst (v := (-1)) hx hb dX7_work_160 (by decide) ?_
        refine lv_iload hx hb dX7_work_161 (lv_at hl 0 rfl) ?_
        refine lv_isub hx hb dX7_work_163 ?_
        refine lv_topi (fun x31 ex31 => ?_)
        replace h := h x31 ex31
        refine g_ialdK (Y := YM) (kd := 29) (n := 6) (k := x31.toNatClampNeg) (o := 9) (by decide) (by decide) rfl hc hw (Nat.lt_of_lt_of_le (by decide) hM) rfl rfl h.1 rfl dX7_work_164 ?_
        replace h := h.2
        refine lv_goto (tgt := 170) hx hb dX7_work_165 (by decide) ?_
        have hin := h.1
        replace h := h.2
        refine g_iastK (Y := YM) (kd := 28) (n := 170) (k := v2.toNatClampNeg) (o := 8) YM_ok (by decide) (by decide) rfl hc hw (Nat.lt_of_lt_of_le (by decide) hM) rfl rfl hin rfl dX7_work_170 (fun σ32 H locs eσ32 hw => ?_)
        replace h := h σ32 eσ32
        obtain ⟨x33, ex33⟩ : ∃ z, z = v2 + 1 := ⟨_, rfl⟩
        replace h := h x33 ex33
        refine lv_iinc (v := x33) (lv' := [(2, .int x33), (4, .int (gi σ 4 v3.toNatClampNeg)), (0, .ref (ad 0)), (1, .int v1), (3, .int v3)]) hx hb dX7_work_171 hl (k := 3) rfl (by rw [ex33]; rfl) (by decide) rfl (fun ls hl => ?_)
        refine lv_goto (tgt := 271) hx hb dX7_work_174 (by decide) ?_
        obtain ⟨x34, ex34⟩ : ∃ z, z = v3 + 1 := ⟨_, rfl⟩
        replace h := h x34 ex34
        refine lv_iinc (v := x34) (lv' := [(3, .int x34), (2, .int x33), (4, .int (gi σ 4 v3.toNatClampNeg)), (0, .ref (ad 0)), (1, .int v1)]) hx hb dX7_work_271 hl (k := 4) rfl (by rw [ex34]; rfl) (by decide) rfl (fun ls hl => ?_)
        refine lv_goto (tgt := 114) hx hb dX7_work_274 (by decide) ?_
        exact hk_114 v1 x33 x34 σ32 _ _ _ h  hw (lv_sub hl [3, 4, 1, 0] rfl)
def wl_X7_work_114 (M : Nat) (post : Int32 → St → Prop) : Nat → Int32 → Int32 → Int32 → St → Prop
  | 0, _, _, _, _ => False
  | n + 1, v1, v2, v3, σ => w_X7_work_114 M post (wl_X7_work_114 M post n) v1 v2 v3 σ
set_option maxHeartbeats 4000000 in
theorem bl_X7_work_114 {Γ : Gm} {ad : Nat → Nat} {p : Program} {l : Launch} {e : Env} {s : State} {m : MethodId} {args : Array Value} {below : List Frame} {meth : Method} {c : Code} {M : Nat} (hM : 20 ≤ M) {post : Int32 → St → Prop}
    (hc : CX Γ p s m args meth c cX7_work RX7 5) (hr : meth.sig.returnType = (Option.some Jvm.ClassFile.FieldType.int)) :
    ∀ (n : Nat) (v1 : Int32) (v2 : Int32) (v3 : Int32) (σ : St) (H : Heap) (locs : List Loc) (ls : Array Slot), wl_X7_work_114 M post n v1 v2 v3 σ → WH Γ YM M ad σ s H locs → lv_has ls 5 [(0, .ref (ad 0)), (1, .int v1), (2, .int v2), (3, .int v3)] → W p l e (rmL 1 0 0) s m args below meth c H locs 0 0 (MQ below (va_Qi post (fun u t => WC Γ YM M ad u t) (AA Γ)) args s 0 0 (AA Γ)) (F0 m 114 ls []) := by
  intro n
  induction n with
  | zero => intro v1 v2 v3 σ H locs ls h; exact h.elim
  | succ n ih =>
    intro v1 v2 v3 σ H locs ls h  hw hl
    exact b_X7_work_114 hM ih v1 v2 v3 σ H locs ls h  hc hr hw hl
def w_X7_work_97 (M : Nat) (post : Int32 → St → Prop) (v1 : Int32) (t0 : Int32) (t1 : Int32) (σ : St) : Prop :=
  (vp_in t1 6) ∧ (∀ σ1 : St, σ1 = si σ 9 t1.toNatClampNeg t0 → ((vp_in ((3 * (gi σ1 0 6)) + v1) 21) ∧ (∀ x2 : Int32, x2 = gi σ1 5 (((3 * (gi σ1 0 6)) + v1).toNatClampNeg) → (∃ n, wl_X7_work_114 M post n v1 0 x2 σ1))))
set_option maxHeartbeats 4000000 in
set_option maxRecDepth 20000 in
theorem b_X7_work_97 {Γ : Gm} {ad : Nat → Nat} {p : Program} {l : Launch} {e : Env} {s : State} {m : MethodId} {args : Array Value} {below : List Frame} {meth : Method} {c : Code} {M : Nat} (hM : 20 ≤ M) {post : Int32 → St → Prop}
    (v1 : Int32) (t0 : Int32) (t1 : Int32) (σ : St) (H : Heap) (locs : List Loc) (ls : Array Slot) (h : w_X7_work_97 M post v1 t0 t1 σ) (hc : CX Γ p s m args meth c cX7_work RX7 5) (hr : meth.sig.returnType = (Option.some Jvm.ClassFile.FieldType.int)) (hw : WH Γ YM M ad σ s H locs) (hl : lv_has ls 5 [(0, .ref (ad 0)), (1, .int v1)]) :
    W p l e (rmL 1 0 0) s m args below meth c H locs 0 0 (MQ below (va_Qi post (fun u t => WC Γ YM M ad u t) (AA Γ)) args s 0 0 (AA Γ)) (F0 m 97 ls [.int t0, .int t1, .ref (ad 9)]) := by
  have hx := hc.1
  have hb := hc.2.1
  unfold w_X7_work_97 at h
  have hin := h.1
  replace h := h.2
  refine g_iastK (Y := YM) (kd := 29) (n := 6) (k := t1.toNatClampNeg) (o := 9) YM_ok (by decide) (by decide) rfl hc hw (Nat.lt_of_lt_of_le (by decide) hM) rfl rfl hin rfl dX7_work_97 (fun σ1 H locs eσ1 hw => ?_)
  replace h := h σ1 eσ1
  refine lv_iconst (v := 0) hx hb dX7_work_98 (by decide) ?_
  refine lv_istore_n (lv' := [(2, .int 0), (0, .ref (ad 0)), (1, .int v1)]) hx hb dX7_work_99 rfl hl (by decide) rfl (fun ls hl => ?_)
  refine lv_aload_n hx hb dX7_work_100 rfl (lv_at hl 1 rfl) ?_
  refine fg_X7_22 hc hw (Nat.lt_of_lt_of_le (by decide) hM) rfl dX7_work_101 ?_
  refine lv_iconst (v := 3) hx hb dX7_work_104 (by decide) ?_
  refine lv_aload_n hx hb dX7_work_105 rfl (lv_at hl 1 rfl) ?_
  refine fg_X7_98 hc hw (Nat.lt_of_lt_of_le (by decide) hM) rfl dX7_work_106 ?_
  refine lv_imul hx hb dX7_work_109 ?_
  refine lv_iload_n hx hb dX7_work_110 rfl (lv_at hl 2 rfl) ?_
  refine lv_iadd hx hb dX7_work_111 ?_
  refine g_ialdK (Y := YM) (kd := 25) (n := 21) (k := ((3 * (gi σ1 0 6)) + v1).toNatClampNeg) (o := 5) (by decide) (by decide) rfl hc hw (Nat.lt_of_lt_of_le (by decide) hM) rfl rfl h.1 rfl dX7_work_112 ?_
  replace h := h.2
  refine lv_topi (fun x2 ex2 => ?_)
  replace h := h x2 ex2
  refine lv_istore_n (lv' := [(3, .int x2), (2, .int 0), (0, .ref (ad 0)), (1, .int v1)]) hx hb dX7_work_113 rfl hl (by decide) rfl (fun ls hl => ?_)
  obtain ⟨n, h⟩ := h
  exact bl_X7_work_114 hM hc hr n v1 0 x2 σ1 _ _ _ h  hw (lv_sub hl [2, 3, 1, 0] rfl)
def w_X7_work (M : Nat) (post : Int32 → St → Prop) (a1 : Int32) (σ : St) : Prop :=
  ∀ σ1 : St, σ1 = si σ 9 0 (gi σ 13 8) → (∀ σ2 : St, σ2 = si σ1 9 1 (gi σ1 13 6) → (∀ σ3 : St, σ3 = si σ2 9 2 (gi σ2 13 7) → (∀ σ4 : St, σ4 = si σ3 9 3 (gi σ3 13 5) → (∀ σ5 : St, σ5 = si σ4 9 4 (gi σ4 13 2) → (((gi σ5 13 11) = 0 → (w_X7_work_97 M post a1 0 5 σ5)) ∧ (¬ ((gi σ5 13 11) = 0) → ((¬ (gi σ5 13 11) = 0) ∧ (∀ x7 : Int32, x7 = (gi σ5 13 12) / (gi σ5 13 11) → (w_X7_work_97 M post a1 x7 5 σ5)))))))))
set_option maxHeartbeats 4000000 in
set_option maxRecDepth 20000 in
theorem m_X7_work {Γ : Gm} {ad : Nat → Nat} {M : Nat} (l : Launch) (hM : 20 ≤ M) {post : Int32 → St → Prop} (a1 : Int32) (σ : St) (h : w_X7_work M post a1 σ) : Ci l Γ YM M ad σ yX7_work cX7_work 5 (Option.some Jvm.ClassFile.FieldType.int) 1 0 0 [.ref (ad 0), .int a1] post := by
  refine g_start (by decide) (Nat.le_of_ble_eq_true rfl) ?_
  intro p e s m args below meth c ls hc hr hn hl hw
  have hc : CX Γ p s m args meth c cX7_work RX7 5 := hc
  have hl : lv_has ls 5 [(0, .ref (ad 0)), (1, .int a1)] := hl
  have hx := hc.1
  have hb := hc.2.1
  unfold w_X7_work at h
  generalize hHH : s.heap = H0 at hw ⊢
  refine lv_aload_n hx hb dX7_work_0 rfl (lv_at hl 0 rfl) ?_
  refine fg_X7_35 hc hw (Nat.lt_of_lt_of_le (by decide) hM) rfl dX7_work_1 ?_
  refine lv_iconst (v := 0) hx hb dX7_work_4 (by decide) ?_
  refine lv_aload_n hx hb dX7_work_5 rfl (lv_at hl 0 rfl) ?_
  refine fg_X7_47 hc hw (Nat.lt_of_lt_of_le (by decide) hM) rfl dX7_work_6 ?_
  refine lv_bipush (v := 8) hx hb dX7_work_9 (by decide) ?_
  refine g_ialdK (Y := YM) (kd := 33) (n := 14) (k := 8) (o := 13) (by decide) (by decide) rfl hc hw (Nat.lt_of_lt_of_le (by decide) hM) rfl rfl (vp_in_lit (by decide)) (by decide) dX7_work_11 ?_
  refine g_iastK (Y := YM) (kd := 29) (n := 6) (k := 0) (o := 9) YM_ok (by decide) (by decide) rfl hc hw (Nat.lt_of_lt_of_le (by decide) hM) rfl rfl (vp_in_lit (by decide)) (by decide) dX7_work_12 (fun σ1 H locs eσ1 hw => ?_)
  replace h := h σ1 eσ1
  refine lv_aload_n hx hb dX7_work_13 rfl (lv_at hl 0 rfl) ?_
  refine fg_X7_35 hc hw (Nat.lt_of_lt_of_le (by decide) hM) rfl dX7_work_14 ?_
  refine lv_iconst (v := 1) hx hb dX7_work_17 (by decide) ?_
  refine lv_aload_n hx hb dX7_work_18 rfl (lv_at hl 0 rfl) ?_
  refine fg_X7_47 hc hw (Nat.lt_of_lt_of_le (by decide) hM) rfl dX7_work_19 ?_
  refine lv_bipush (v := 6) hx hb dX7_work_22 (by decide) ?_
  refine g_ialdK (Y := YM) (kd := 33) (n := 14) (k := 6) (o := 13) (by decide) (by decide) rfl hc hw (Nat.lt_of_lt_of_le (by decide) hM) rfl rfl (vp_in_lit (by decide)) (by decide) dX7_work_24 ?_
  refine g_iastK (Y := YM) (kd := 29) (n := 6) (k := 1) (o := 9) YM_ok (by decide) (by decide) rfl hc hw (Nat.lt_of_lt_of_le (by decide) hM) rfl rfl (vp_in_lit (by decide)) (by decide) dX7_work_25 (fun σ2 H locs eσ2 hw => ?_)
  replace h := h σ2 eσ2
  refine lv_aload_n hx hb dX7_work_26 rfl (lv_at hl 0 rfl) ?_
  refine fg_X7_35 hc hw (Nat.lt_of_lt_of_le (by decide) hM) rfl dX7_work_27 ?_
  refine lv_iconst (v := 2) hx hb dX7_work_30 (by decide) ?_
  refine lv_aload_n hx hb dX7_work_31 rfl (lv_at hl 0 rfl) ?_
  refine fg_X7_47 hc hw (Nat.lt_of_lt_of_le (by decide) hM) rfl dX7_work_32 ?_
  refine lv_bipush (v := 7) hx hb dX7_work_35 (by decide) ?_
  refine g_ialdK (Y := YM) (kd := 33) (n := 14) (k := 7) (o := 13) (by decide) (by decide) rfl hc hw (Nat.lt_of_lt_of_le (by decide) hM) rfl rfl (vp_in_lit (by decide)) (by decide) dX7_work_37 ?_
  refine g_iastK (Y := YM) (kd := 29) (n := 6) (k := 2) (o := 9) YM_ok (by decide) (by decide) rfl hc hw (Nat.lt_of_lt_of_le (by decide) hM) rfl rfl (vp_in_lit (by decide)) (by decide) dX7_work_38 (fun σ3 H locs eσ3 hw => ?_)
  replace h := h σ3 eσ3
  refine lv_aload_n hx hb dX7_work_39 rfl (lv_at hl 0 rfl) ?_
  refine fg_X7_35 hc hw (Nat.lt_of_lt_of_le (by decide) hM) rfl dX7_work_40 ?_
  refine lv_iconst (v := 3) hx hb dX7_work_43 (by decide) ?_
  refine lv_aload_n hx hb dX7_work_44 rfl (lv_at hl 0 rfl) ?_
  refine fg_X7_47 hc hw (Nat.lt_of_lt_of_le (by decide) hM) rfl dX7_work_45 ?_
  refine lv_iconst (v := 5) hx hb dX7_work_48 (by decide) ?_
  refine g_ialdK (Y := YM) (kd := 33) (n := 14) (k := 5) (o := 13) (by decide) (by decide) rfl hc hw (Nat.lt_of_lt_of_le (by decide) hM) rfl rfl (vp_in_lit (by decide)) (by decide) dX7_work_49 ?_
  refine g_iastK (Y := YM) (kd := 29) (n := 6) (k := 3) (o := 9) YM_ok (by decide) (by decide) rfl hc hw (Nat.lt_of_lt_of_le (by decide) hM) rfl rfl (vp_in_lit (by decide)) (by decide) dX7_work_50 (fun σ4 H locs eσ4 hw => ?_)
  replace h := h σ4 eσ4
  refine lv_aload_n hx hb dX7_work_51 rfl (lv_at hl 0 rfl) ?_
  refine fg_X7_35 hc hw (Nat.lt_of_lt_of_le (by decide) hM) rfl dX7_work_52 ?_
  refine lv_iconst (v := 4) hx hb dX7_work_55 (by decide) ?_
  refine lv_aload_n hx hb dX7_work_56 rfl (lv_at hl 0 rfl) ?_
  refine fg_X7_47 hc hw (Nat.lt_of_lt_of_le (by decide) hM) rfl dX7_work_57 ?_
  refine lv_iconst (v := 2) hx hb dX7_work_60 (by decide) ?_
  refine g_ialdK (Y := YM) (kd := 33) (n := 14) (k := 2) (o := 13) (by decide) (by decide) rfl hc hw (Nat.lt_of_lt_of_le (by decide) hM) rfl rfl (vp_in_lit (by decide)) (by decide) dX7_work_61 ?_
  refine g_iastK (Y := YM) (kd := 29) (n := 6) (k := 4) (o := 9) YM_ok (by decide) (by decide) rfl hc hw (Nat.lt_of_lt_of_le (by decide) hM) rfl rfl (vp_in_lit (by decide)) (by decide) dX7_work_62 (fun σ5 H locs eσ5 hw => ?_)
  replace h := h σ5 eσ5
  refine lv_aload_n hx hb dX7_work_63 rfl (lv_at hl 0 rfl) ?_
  refine fg_X7_35 hc hw (Nat.lt_of_lt_of_le (by decide) hM) rfl dX7_work_64 ?_
  refine lv_iconst (v := 5) hx hb dX7_work_67 (by decide) ?_
  refine lv_aload_n hx hb dX7_work_68 rfl (lv_at hl 0 rfl) ?_
  refine fg_X7_47 hc hw (Nat.lt_of_lt_of_le (by decide) hM) rfl dX7_work_69 ?_
  refine lv_bipush (v := 11) hx hb dX7_work_72 (by decide) ?_
  refine g_ialdK (Y := YM) (kd := 33) (n := 14) (k := 11) (o := 13) (by decide) (by decide) rfl hc hw (Nat.lt_of_lt_of_le (by decide) hM) rfl rfl (vp_in_lit (by decide)) (by decide) dX7_work_74 ?_
  refine lv_if_ne (tgt := 82) hx hb dX7_work_75 (by decide) (fun c6 => ?_) (fun c6 => ?_)
  · replace h := h.2 c6
    refine lv_aload_n hx hb dX7_work_82 rfl (lv_at hl 0 rfl) ?_
    refine fg_X7_47 hc hw (Nat.lt_of_lt_of_le (by decide) hM) rfl dX7_work_83 ?_
    refine lv_bipush (v := 12) hx hb dX7_work_86 (by decide) ?_
    refine g_ialdK (Y := YM) (kd := 33) (n := 14) (k := 12) (o := 13) (by decide) (by decide) rfl hc hw (Nat.lt_of_lt_of_le (by decide) hM) rfl rfl (vp_in_lit (by decide)) (by decide) dX7_work_88 ?_
    refine lv_aload_n hx hb dX7_work_89 rfl (lv_at hl 0 rfl) ?_
    refine fg_X7_47 hc hw (Nat.lt_of_lt_of_le (by decide) hM) rfl dX7_work_90 ?_
    refine lv_bipush (v := 11) hx hb dX7_work_93 (by decide) ?_
    refine g_ialdK (Y := YM) (kd := 33) (n := 14) (k := 11) (o := 13) (by decide) (by decide) rfl hc hw (Nat.lt_of_lt_of_le (by decide) hM) rfl rfl (vp_in_lit (by decide)) (by decide) dX7_work_95 ?_
    refine lv_idiv hx hb dX7_work_96 h.1 ?_
    replace h := h.2
    refine lv_topi (fun x7 ex7 => ?_)
    replace h := h x7 ex7
    exact b_X7_work_97 hM a1 x7 5 σ5 _ _ _ h  hc hr hw (lv_sub hl [0, 1] rfl)
  · replace h := h.1 c6
    refine lv_iconst (v := 0) hx hb dX7_work_78 (by decide) ?_
    refine lv_goto (tgt := 97) hx hb dX7_work_79 (by decide) ?_
    exact b_X7_work_97 hM a1 0 5 σ5 _ _ _ h  hc hr hw (lv_sub hl [0, 1] rfl)
def w_X7_isAct (M : Nat) (post : Int32 → St → Prop) (a1 : Int32) (σ : St) : Prop :=
  w_X7_in M (fun r2 σ1 => (narrow .boolean (.int r2) = .int r2 ∧ post r2 σ1)) a1.toInt64 0 (((gi σ 0 21) - 1).toInt64) σ
set_option maxHeartbeats 4000000 in
set_option maxRecDepth 20000 in
theorem m_X7_isAct {Γ : Gm} {ad : Nat → Nat} {M : Nat} (l : Launch) (hM : 20 ≤ M) {post : Int32 → St → Prop} (a1 : Int32) (σ : St) (h : w_X7_isAct M post a1 σ) : Ci l Γ YM M ad σ yX7_isAct cX7_isAct 2 (Option.some Jvm.ClassFile.FieldType.boolean) 1 0 0 [.ref (ad 0), .int a1] post := by
  refine g_start (by decide) (Nat.le_of_ble_eq_true rfl) ?_
  intro p e s m args below meth c ls hc hr hn hl hw
  have hc : CX Γ p s m args meth c cX7_isAct RX7 2 := hc
  have hl : lv_has ls 2 [(0, .ref (ad 0)), (1, .int a1)] := hl
  have hx := hc.1
  have hb := hc.2.1
  unfold w_X7_isAct at h
  generalize hHH : s.heap = H0 at hw ⊢
  refine lv_iload_n hx hb dX7_isAct_0 rfl (lv_at hl 1 rfl) ?_
  refine lv_i2l (v := a1.toInt64) hx hb dX7_isAct_1 rfl ?_
  refine lv_lconst (v := 0) hx hb dX7_isAct_2 (by decide) ?_
  refine lv_aload_n hx hb dX7_isAct_3 rfl (lv_at hl 0 rfl) ?_
  refine fg_X7_95 hc hw (Nat.lt_of_lt_of_le (by decide) hM) rfl dX7_isAct_4 ?_
  refine lv_iconst (v := 1) hx hb dX7_isAct_7 (by decide) ?_
  refine lv_isub hx hb dX7_isAct_8 ?_
  refine lv_i2l (v := ((gi σ 0 21) - 1).toInt64) hx hb dX7_isAct_9 rfl ?_
  refine g_Si (Y := YM) (n := 3) (k := 0) (As := [.long a1.toInt64, .long 0, .long (((gi σ 0 21) - 1).toInt64)]) (rest := []) vw_X7_75 ⟨Nat.le_of_ble_eq_true rfl, Nat.le_of_ble_eq_true rfl, Nat.zero_le _, Nat.zero_le _⟩ hc hw hl.1 (m_X7_in l hM a1.toInt64 0 (((gi σ 0 21) - 1).toInt64) σ h) rfl rfl (Nat.le_of_ble_eq_true rfl) dX7_isAct_10 (fun r2 σ1 H locs h hw => ?_)
  exact g_zret hc hr hw h.1 h.2 dX7_isAct_13
def w_X7_act (M : Nat) (post : Int32 → St → Prop) (a1 : Int32) (a2 : Int32) (a3 : Int32) (σ : St) : Prop :=
  w_X7_in M (fun r2 σ1 => ((r2 = 0 → (post (-2) σ1)) ∧ (¬ (r2 = 0) → (w_X7_in M (fun r5 σ4 => ((r5 = 0 → (post (-2) σ4)) ∧ (¬ (r5 = 0) → (w_X7_in M (fun r8 σ7 => ((r8 = 0 → (post (-2) σ7)) ∧ (¬ (r8 = 0) → (((gi σ7 0 21) = 12 → (post (-4) σ7)) ∧ (¬ ((gi σ7 0 21) = 12) → ((vp_in (gi σ7 0 21) 12) ∧ (∀ σ11 : St, σ11 = si σ7 10 ((gi σ7 0 21).toNatClampNeg) a1 → ((vp_in (gi σ11 0 21) 12) ∧ (∀ σ12 : St, σ12 = si σ11 11 ((gi σ11 0 21).toNatClampNeg) a2 → ((vp_in (gi σ12 0 21) 12) ∧ (∀ σ13 : St, σ13 = si σ12 12 ((gi σ12 0 21).toNatClampNeg) a3 → (∀ σ14 : St, σ14 = si σ13 0 21 ((gi σ13 0 21) + 1) → (post ((gi σ14 0 21) - 1) σ14))))))))))))) a3.toInt64 0 9 σ4)))) a2.toInt64 0 9 σ1)))) a1.toInt64 0 5 σ
set_option maxHeartbeats 4000000 in
set_option maxRecDepth 20000 in
theorem m_X7_act {Γ : Gm} {ad : Nat → Nat} {M : Nat} (l : Launch) (hM : 20 ≤ M) {post : Int32 → St → Prop} (a1 : Int32) (a2 : Int32) (a3 : Int32) (σ : St) (h : w_X7_act M post a1 a2 a3 σ) : Ci l Γ YM M ad σ yX7_act cX7_act 4 (Option.some Jvm.ClassFile.FieldType.int) 1 0 0 [.ref (ad 0), .int a1, .int a2, .int a3] post := by
  refine g_start (by decide) (Nat.le_of_ble_eq_true rfl) ?_
  intro p e s m args below meth c ls hc hr hn hl hw
  have hc : CX Γ p s m args meth c cX7_act RX7 4 := hc
  have hl : lv_has ls 4 [(0, .ref (ad 0)), (1, .int a1), (2, .int a2), (3, .int a3)] := hl
  have hx := hc.1
  have hb := hc.2.1
  unfold w_X7_act at h
  generalize hHH : s.heap = H0 at hw ⊢
  refine lv_iload_n hx hb dX7_act_0 rfl (lv_at hl 1 rfl) ?_
  refine lv_i2l (v := a1.toInt64) hx hb dX7_act_1 rfl ?_
  refine lv_lconst (v := 0) hx hb dX7_act_2 (by decide) ?_
  refine lv_ldc2 (v := 5) hx hb hc.2.2.2.1 (hc.2.2.2.2.1 _ q_1110) dX7_act_3 ?_
  refine g_Si (Y := YM) (n := 3) (k := 0) (As := [.long a1.toInt64, .long 0, .long 5]) (rest := []) vw_X7_75 ⟨Nat.le_of_ble_eq_true rfl, Nat.le_of_ble_eq_true rfl, Nat.zero_le _, Nat.zero_le _⟩ hc hw hl.1 (m_X7_in l hM a1.toInt64 0 5 σ h) rfl rfl (Nat.le_of_ble_eq_true rfl) dX7_act_6 (fun r2 σ1 H locs h hw => ?_)
  refine lv_if_eq (tgt := 36) hx hb dX7_act_9 (by decide) (fun c3 => ?_) (fun c3 => ?_)
  · replace h := h.1 c3
    refine lv_bipush (v := (-2)) hx hb dX7_act_36 (by decide) ?_
    exact g_iret hc hr hw h dX7_act_38
  · replace h := h.2 c3
    refine lv_iload_n hx hb dX7_act_12 rfl (lv_at hl 2 rfl) ?_
    refine lv_i2l (v := a2.toInt64) hx hb dX7_act_13 rfl ?_
    refine lv_lconst (v := 0) hx hb dX7_act_14 (by decide) ?_
    refine lv_ldc2 (v := 9) hx hb hc.2.2.2.1 (hc.2.2.2.2.1 _ q_1101) dX7_act_15 ?_
    refine g_Si (Y := YM) (n := 3) (k := 0) (As := [.long a2.toInt64, .long 0, .long 9]) (rest := []) vw_X7_75 ⟨Nat.le_of_ble_eq_true rfl, Nat.le_of_ble_eq_true rfl, Nat.zero_le _, Nat.zero_le _⟩ hc hw hl.1 (m_X7_in l hM a2.toInt64 0 9 σ1 h) rfl rfl (Nat.le_of_ble_eq_true rfl) dX7_act_18 (fun r5 σ4 H locs h hw => ?_)
    refine lv_if_eq (tgt := 36) hx hb dX7_act_21 (by decide) (fun c6 => ?_) (fun c6 => ?_)
    · replace h := h.1 c6
      refine lv_bipush (v := (-2)) hx hb dX7_act_36 (by decide) ?_
      exact g_iret hc hr hw h dX7_act_38
    · replace h := h.2 c6
      refine lv_iload_n hx hb dX7_act_24 rfl (lv_at hl 3 rfl) ?_
      refine lv_i2l (v := a3.toInt64) hx hb dX7_act_25 rfl ?_
      refine lv_lconst (v := 0) hx hb dX7_act_26 (by decide) ?_
      refine lv_ldc2 (v := 9) hx hb hc.2.2.2.1 (hc.2.2.2.2.1 _ q_1101) dX7_act_27 ?_
      refine g_Si (Y := YM) (n := 3) (k := 0) (As := [.long a3.toInt64, .long 0, .long 9]) (rest := []) vw_X7_75 ⟨Nat.le_of_ble_eq_true rfl, Nat.le_of_ble_eq_true rfl, Nat.zero_le _, Nat.zero_le _⟩ hc hw hl.1 (m_X7_in l hM a3.toInt64 0 9 σ4 h) rfl rfl (Nat.le_of_ble_eq_true rfl) dX7_act_30 (fun r8 σ7 H locs h hw => ?_)
      refine lv_if_ne (tgt := 39) hx hb dX7_act_33 (by decide) (fun c9 => ?_) (fun c9 => ?_)
      · replace h := h.2 c9
        refine lv_aload_n hx hb dX7_act_39 rfl (lv_at hl 0 rfl) ?_
        refine fg_X7_95 hc hw (Nat.lt_of_lt_of_le (by decide) hM) rfl dX7_act_40 ?_
        refine lv_bipush (v := 12) hx hb dX7_act_43 (by decide) ?_
        refine lv_icmp_ne (tgt := 51) hx hb dX7_act_45 (by decide) (fun c10 => ?_) (fun c10 => ?_)
        · replace h := h.2 c10
          refine lv_aload_n hx hb dX7_act_51 rfl (lv_at hl 0 rfl) ?_
          refine fg_X7_38 hc hw (Nat.lt_of_lt_of_le (by decide) hM) rfl dX7_act_52 ?_
          refine lv_aload_n hx hb dX7_act_55 rfl (lv_at hl 0 rfl) ?_
          refine fg_X7_95 hc hw (Nat.lt_of_lt_of_le (by decide) hM) rfl dX7_act_56 ?_
          refine lv_iload_n hx hb dX7_act_59 rfl (lv_at hl 1 rfl) ?_
          have hin := h.1
          replace h := h.2
          refine g_iastK (Y := YM) (kd := 30) (n := 12) (k := (gi σ7 0 21).toNatClampNeg) (o := 10) YM_ok (by decide) (by decide) rfl hc hw (Nat.lt_of_lt_of_le (by decide) hM) rfl rfl hin rfl dX7_act_60 (fun σ11 H locs eσ11 hw => ?_)
          replace h := h σ11 eσ11
          refine lv_aload_n hx hb dX7_act_61 rfl (lv_at hl 0 rfl) ?_
          refine fg_X7_41 hc hw (Nat.lt_of_lt_of_le (by decide) hM) rfl dX7_act_62 ?_
          refine lv_aload_n hx hb dX7_act_65 rfl (lv_at hl 0 rfl) ?_
          refine fg_X7_95 hc hw (Nat.lt_of_lt_of_le (by decide) hM) rfl dX7_act_66 ?_
          refine lv_iload_n hx hb dX7_act_69 rfl (lv_at hl 2 rfl) ?_
          have hin := h.1
          replace h := h.2
          refine g_iastK (Y := YM) (kd := 31) (n := 12) (k := (gi σ11 0 21).toNatClampNeg) (o := 11) YM_ok (by decide) (by decide) rfl hc hw (Nat.lt_of_lt_of_le (by decide) hM) rfl rfl hin rfl dX7_act_70 (fun σ12 H locs eσ12 hw => ?_)
          replace h := h σ12 eσ12
          refine lv_aload_n hx hb dX7_act_71 rfl (lv_at hl 0 rfl) ?_
          refine fg_X7_44 hc hw (Nat.lt_of_lt_of_le (by decide) hM) rfl dX7_act_72 ?_
          refine lv_aload_n hx hb dX7_act_75 rfl (lv_at hl 0 rfl) ?_
          refine fg_X7_95 hc hw (Nat.lt_of_lt_of_le (by decide) hM) rfl dX7_act_76 ?_
          refine lv_iload_n hx hb dX7_act_79 rfl (lv_at hl 3 rfl) ?_
          have hin := h.1
          replace h := h.2
          refine g_iastK (Y := YM) (kd := 32) (n := 12) (k := (gi σ12 0 21).toNatClampNeg) (o := 12) YM_ok (by decide) (by decide) rfl hc hw (Nat.lt_of_lt_of_le (by decide) hM) rfl rfl hin rfl dX7_act_80 (fun σ13 H locs eσ13 hw => ?_)
          replace h := h σ13 eσ13
          refine lv_aload_n hx hb dX7_act_81 rfl (lv_at hl 0 rfl) ?_
          refine lv_dup hx hb dX7_act_82 rfl ?_
          refine fg_X7_95 hc hw (Nat.lt_of_lt_of_le (by decide) hM) rfl dX7_act_83 ?_
          refine lv_iconst (v := 1) hx hb dX7_act_86 (by decide) ?_
          refine lv_iadd hx hb dX7_act_87 ?_
          refine fp_X7_95 (o := 0) hc hw (Nat.lt_of_lt_of_le (by decide) hM) rfl dX7_act_88 (fun σ14 H locs eσ14 hw => ?_)
          replace h := h σ14 eσ14
          refine lv_aload_n hx hb dX7_act_91 rfl (lv_at hl 0 rfl) ?_
          refine fg_X7_95 hc hw (Nat.lt_of_lt_of_le (by decide) hM) rfl dX7_act_92 ?_
          refine lv_iconst (v := 1) hx hb dX7_act_95 (by decide) ?_
          refine lv_isub hx hb dX7_act_96 ?_
          exact g_iret hc hr hw h dX7_act_97
        · replace h := h.1 c10
          refine lv_bipush (v := (-4)) hx hb dX7_act_48 (by decide) ?_
          exact g_iret hc hr hw h dX7_act_50
      · replace h := h.1 c9
        refine lv_bipush (v := (-2)) hx hb dX7_act_36 (by decide) ?_
        exact g_iret hc hr hw h dX7_act_38
def w_X7_handfuls (M : Nat) (post : St → Prop) (a1 : Int32) (a2 : Int32) (σ : St) : Prop :=
  ∀ σ1 : St, σ1 = si σ 13 11 ((gi σ 13 11) + a2) → ((vp_in (5 * a1) 20) ∧ (∀ x2 : Int32, x2 = gi σ1 1 ((5 * a1).toNatClampNeg) → (∀ σ3 : St, σ3 = si σ1 13 12 ((gi σ1 13 12) + (a2 * x2)) → ((vp_in ((5 * a1) + 3) 20) ∧ (∀ x4 : Int32, x4 = gi σ3 1 (((5 * a1) + 3).toNatClampNeg) → (∀ σ5 : St, σ5 = si σ3 13 0 ((gi σ3 13 0) + (a2 * x4)) → ((vp_in ((5 * a1) + 1) 20) ∧ (∀ x6 : Int32, x6 = gi σ5 1 (((5 * a1) + 1).toNatClampNeg) → (∀ σ7 : St, σ7 = si σ5 13 2 ((gi σ5 13 2) + (a2 * x6)) → ((vp_in ((5 * a1) + 2) 20) ∧ (∀ x8 : Int32, x8 = gi σ7 1 (((5 * a1) + 2).toNatClampNeg) → (∀ σ9 : St, σ9 = si σ7 13 5 ((gi σ7 13 5) + (a2 * x8)) → (w_X7_held M (fun r11 σ10 => (∀ σ12 : St, σ12 = si σ10 13 8 r11 → (post σ12))) ((gi σ9 13 8) - a2) 120 σ9)))))))))))))
set_option maxHeartbeats 4000000 in
set_option maxRecDepth 20000 in
theorem m_X7_handfuls {Γ : Gm} {ad : Nat → Nat} {M : Nat} (l : Launch) (hM : 20 ≤ M) {post : St → Prop} (a1 : Int32) (a2 : Int32) (σ : St) (h : w_X7_handfuls M post a1 a2 σ) : Cv l Γ YM M ad σ yX7_handfuls cX7_handfuls 3 none 1 0 0 [.ref (ad 0), .int a1, .int a2] post := by
  refine g_start (by decide) (Nat.le_of_ble_eq_true rfl) ?_
  intro p e s m args below meth c ls hc hr hn hl hw
  have hc : CX Γ p s m args meth c cX7_handfuls RX7 3 := hc
  have hl : lv_has ls 3 [(0, .ref (ad 0)), (1, .int a1), (2, .int a2)] := hl
  have hx := hc.1
  have hb := hc.2.1
  unfold w_X7_handfuls at h
  generalize hHH : s.heap = H0 at hw ⊢
  refine lv_aload_n hx hb dX7_handfuls_0 rfl (lv_at hl 0 rfl) ?_
  refine fg_X7_47 hc hw (Nat.lt_of_lt_of_le (by decide) hM) rfl dX7_handfuls_1 ?_
  refine lv_bipush (v := 11) hx hb dX7_handfuls_4 (by decide) ?_
  refine lv_dup2_11 hx hb dX7_handfuls_6 rfl rfl ?_
  refine g_ialdK (Y := YM) (kd := 33) (n := 14) (k := 11) (o := 13) (by decide) (by decide) rfl hc hw (Nat.lt_of_lt_of_le (by decide) hM) rfl rfl (vp_in_lit (by decide)) (by decide) dX7_handfuls_7 ?_
  refine lv_iload_n hx hb dX7_handfuls_8 rfl (lv_at hl 2 rfl) ?_
  refine lv_iadd hx hb dX7_handfuls_9 ?_
  refine g_iastK (Y := YM) (kd := 33) (n := 14) (k := 11) (o := 13) YM_ok (by decide) (by decide) rfl hc hw (Nat.lt_of_lt_of_le (by decide) hM) rfl rfl (vp_in_lit (by decide)) (by decide) dX7_handfuls_10 (fun σ1 H locs eσ1 hw => ?_)
  replace h := h σ1 eσ1
  refine lv_aload_n hx hb dX7_handfuls_11 rfl (lv_at hl 0 rfl) ?_
  refine fg_X7_47 hc hw (Nat.lt_of_lt_of_le (by decide) hM) rfl dX7_handfuls_12 ?_
  refine lv_bipush (v := 12) hx hb dX7_handfuls_15 (by decide) ?_
  refine lv_dup2_11 hx hb dX7_handfuls_17 rfl rfl ?_
  refine g_ialdK (Y := YM) (kd := 33) (n := 14) (k := 12) (o := 13) (by decide) (by decide) rfl hc hw (Nat.lt_of_lt_of_le (by decide) hM) rfl rfl (vp_in_lit (by decide)) (by decide) dX7_handfuls_18 ?_
  refine lv_iload_n hx hb dX7_handfuls_19 rfl (lv_at hl 2 rfl) ?_
  refine lv_aload_n hx hb dX7_handfuls_20 rfl (lv_at hl 0 rfl) ?_
  refine fg_X7_9 hc hw (Nat.lt_of_lt_of_le (by decide) hM) rfl dX7_handfuls_21 ?_
  refine lv_iconst (v := 5) hx hb dX7_handfuls_24 (by decide) ?_
  refine lv_iload_n hx hb dX7_handfuls_25 rfl (lv_at hl 1 rfl) ?_
  refine lv_imul hx hb dX7_handfuls_26 ?_
  refine g_ialdK (Y := YM) (kd := 21) (n := 20) (k := (5 * a1).toNatClampNeg) (o := 1) (by decide) (by decide) rfl hc hw (Nat.lt_of_lt_of_le (by decide) hM) rfl rfl h.1 rfl dX7_handfuls_27 ?_
  replace h := h.2
  refine lv_topi (fun x2 ex2 => ?_)
  replace h := h x2 ex2
  refine lv_imul hx hb dX7_handfuls_28 ?_
  refine lv_iadd hx hb dX7_handfuls_29 ?_
  refine g_iastK (Y := YM) (kd := 33) (n := 14) (k := 12) (o := 13) YM_ok (by decide) (by decide) rfl hc hw (Nat.lt_of_lt_of_le (by decide) hM) rfl rfl (vp_in_lit (by decide)) (by decide) dX7_handfuls_30 (fun σ3 H locs eσ3 hw => ?_)
  replace h := h σ3 eσ3
  refine lv_aload_n hx hb dX7_handfuls_31 rfl (lv_at hl 0 rfl) ?_
  refine fg_X7_47 hc hw (Nat.lt_of_lt_of_le (by decide) hM) rfl dX7_handfuls_32 ?_
  refine lv_iconst (v := 0) hx hb dX7_handfuls_35 (by decide) ?_
  refine lv_dup2_11 hx hb dX7_handfuls_36 rfl rfl ?_
  refine g_ialdK (Y := YM) (kd := 33) (n := 14) (k := 0) (o := 13) (by decide) (by decide) rfl hc hw (Nat.lt_of_lt_of_le (by decide) hM) rfl rfl (vp_in_lit (by decide)) (by decide) dX7_handfuls_37 ?_
  refine lv_iload_n hx hb dX7_handfuls_38 rfl (lv_at hl 2 rfl) ?_
  refine lv_aload_n hx hb dX7_handfuls_39 rfl (lv_at hl 0 rfl) ?_
  refine fg_X7_9 hc hw (Nat.lt_of_lt_of_le (by decide) hM) rfl dX7_handfuls_40 ?_
  refine lv_iconst (v := 5) hx hb dX7_handfuls_43 (by decide) ?_
  refine lv_iload_n hx hb dX7_handfuls_44 rfl (lv_at hl 1 rfl) ?_
  refine lv_imul hx hb dX7_handfuls_45 ?_
  refine lv_iconst (v := 3) hx hb dX7_handfuls_46 (by decide) ?_
  refine lv_iadd hx hb dX7_handfuls_47 ?_
  refine g_ialdK (Y := YM) (kd := 21) (n := 20) (k := ((5 * a1) + 3).toNatClampNeg) (o := 1) (by decide) (by decide) rfl hc hw (Nat.lt_of_lt_of_le (by decide) hM) rfl rfl h.1 rfl dX7_handfuls_48 ?_
  replace h := h.2
  refine lv_topi (fun x4 ex4 => ?_)
  replace h := h x4 ex4
  refine lv_imul hx hb dX7_handfuls_49 ?_
  refine lv_iadd hx hb dX7_handfuls_50 ?_
  refine g_iastK (Y := YM) (kd := 33) (n := 14) (k := 0) (o := 13) YM_ok (by decide) (by decide) rfl hc hw (Nat.lt_of_lt_of_le (by decide) hM) rfl rfl (vp_in_lit (by decide)) (by decide) dX7_handfuls_51 (fun σ5 H locs eσ5 hw => ?_)
  replace h := h σ5 eσ5
  refine lv_aload_n hx hb dX7_handfuls_52 rfl (lv_at hl 0 rfl) ?_
  refine fg_X7_47 hc hw (Nat.lt_of_lt_of_le (by decide) hM) rfl dX7_handfuls_53 ?_
  refine lv_iconst (v := 2) hx hb dX7_handfuls_56 (by decide) ?_
  refine lv_dup2_11 hx hb dX7_handfuls_57 rfl rfl ?_
  refine g_ialdK (Y := YM) (kd := 33) (n := 14) (k := 2) (o := 13) (by decide) (by decide) rfl hc hw (Nat.lt_of_lt_of_le (by decide) hM) rfl rfl (vp_in_lit (by decide)) (by decide) dX7_handfuls_58 ?_
  refine lv_iload_n hx hb dX7_handfuls_59 rfl (lv_at hl 2 rfl) ?_
  refine lv_aload_n hx hb dX7_handfuls_60 rfl (lv_at hl 0 rfl) ?_
  refine fg_X7_9 hc hw (Nat.lt_of_lt_of_le (by decide) hM) rfl dX7_handfuls_61 ?_
  refine lv_iconst (v := 5) hx hb dX7_handfuls_64 (by decide) ?_
  refine lv_iload_n hx hb dX7_handfuls_65 rfl (lv_at hl 1 rfl) ?_
  refine lv_imul hx hb dX7_handfuls_66 ?_
  refine lv_iconst (v := 1) hx hb dX7_handfuls_67 (by decide) ?_
  refine lv_iadd hx hb dX7_handfuls_68 ?_
  refine g_ialdK (Y := YM) (kd := 21) (n := 20) (k := ((5 * a1) + 1).toNatClampNeg) (o := 1) (by decide) (by decide) rfl hc hw (Nat.lt_of_lt_of_le (by decide) hM) rfl rfl h.1 rfl dX7_handfuls_69 ?_
  replace h := h.2
  refine lv_topi (fun x6 ex6 => ?_)
  replace h := h x6 ex6
  refine lv_imul hx hb dX7_handfuls_70 ?_
  refine lv_iadd hx hb dX7_handfuls_71 ?_
  refine g_iastK (Y := YM) (kd := 33) (n := 14) (k := 2) (o := 13) YM_ok (by decide) (by decide) rfl hc hw (Nat.lt_of_lt_of_le (by decide) hM) rfl rfl (vp_in_lit (by decide)) (by decide) dX7_handfuls_72 (fun σ7 H locs eσ7 hw => ?_)
  replace h := h σ7 eσ7
  refine lv_aload_n hx hb dX7_handfuls_73 rfl (lv_at hl 0 rfl) ?_
  refine fg_X7_47 hc hw (Nat.lt_of_lt_of_le (by decide) hM) rfl dX7_handfuls_74 ?_
  refine lv_iconst (v := 5) hx hb dX7_handfuls_77 (by decide) ?_
  refine lv_dup2_11 hx hb dX7_handfuls_78 rfl rfl ?_
  refine g_ialdK (Y := YM) (kd := 33) (n := 14) (k := 5) (o := 13) (by decide) (by decide) rfl hc hw (Nat.lt_of_lt_of_le (by decide) hM) rfl rfl (vp_in_lit (by decide)) (by decide) dX7_handfuls_79 ?_
  refine lv_iload_n hx hb dX7_handfuls_80 rfl (lv_at hl 2 rfl) ?_
  refine lv_aload_n hx hb dX7_handfuls_81 rfl (lv_at hl 0 rfl) ?_
  refine fg_X7_9 hc hw (Nat.lt_of_lt_of_le (by decide) hM) rfl dX7_handfuls_82 ?_
  refine lv_iconst (v := 5) hx hb dX7_handfuls_85 (by decide) ?_
  refine lv_iload_n hx hb dX7_handfuls_86 rfl (lv_at hl 1 rfl) ?_
  refine lv_imul hx hb dX7_handfuls_87 ?_
  refine lv_iconst (v := 2) hx hb dX7_handfuls_88 (by decide) ?_
  refine lv_iadd hx hb dX7_handfuls_89 ?_
  refine g_ialdK (Y := YM) (kd := 21) (n := 20) (k := ((5 * a1) + 2).toNatClampNeg) (o := 1) (by decide) (by decide) rfl hc hw (Nat.lt_of_lt_of_le (by decide) hM) rfl rfl h.1 rfl dX7_handfuls_90 ?_
  replace h := h.2
  refine lv_topi (fun x8 ex8 => ?_)
  replace h := h x8 ex8
  refine lv_imul hx hb dX7_handfuls_91 ?_
  refine lv_iadd hx hb dX7_handfuls_92 ?_
  refine g_iastK (Y := YM) (kd := 33) (n := 14) (k := 5) (o := 13) YM_ok (by decide) (by decide) rfl hc hw (Nat.lt_of_lt_of_le (by decide) hM) rfl rfl (vp_in_lit (by decide)) (by decide) dX7_handfuls_93 (fun σ9 H locs eσ9 hw => ?_)
  replace h := h σ9 eσ9
  refine lv_aload_n hx hb dX7_handfuls_94 rfl (lv_at hl 0 rfl) ?_
  refine fg_X7_47 hc hw (Nat.lt_of_lt_of_le (by decide) hM) rfl dX7_handfuls_95 ?_
  refine lv_bipush (v := 8) hx hb dX7_handfuls_98 (by decide) ?_
  refine lv_aload_n hx hb dX7_handfuls_100 rfl (lv_at hl 0 rfl) ?_
  refine fg_X7_47 hc hw (Nat.lt_of_lt_of_le (by decide) hM) rfl dX7_handfuls_101 ?_
  refine lv_bipush (v := 8) hx hb dX7_handfuls_104 (by decide) ?_
  refine g_ialdK (Y := YM) (kd := 33) (n := 14) (k := 8) (o := 13) (by decide) (by decide) rfl hc hw (Nat.lt_of_lt_of_le (by decide) hM) rfl rfl (vp_in_lit (by decide)) (by decide) dX7_handfuls_106 ?_
  refine lv_iload_n hx hb dX7_handfuls_107 rfl (lv_at hl 2 rfl) ?_
  refine lv_isub hx hb dX7_handfuls_108 ?_
  refine lv_bipush (v := 120) hx hb dX7_handfuls_109 (by decide) ?_
  refine g_Si (Y := YM) (n := 2) (k := 0) (As := [.int ((gi σ9 13 8) - a2), .int 120]) (rest := [.int 8, .ref (ad 13)]) vw_X7_203 ⟨Nat.le_of_ble_eq_true rfl, Nat.le_of_ble_eq_true rfl, Nat.zero_le _, Nat.zero_le _⟩ hc hw hl.1 (m_X7_held l hM ((gi σ9 13 8) - a2) 120 σ9 h) rfl rfl (Nat.le_of_ble_eq_true rfl) dX7_handfuls_111 (fun r11 σ10 H locs h hw => ?_)
  refine g_iastK (Y := YM) (kd := 33) (n := 14) (k := 8) (o := 13) YM_ok (by decide) (by decide) rfl hc hw (Nat.lt_of_lt_of_le (by decide) hM) rfl rfl (vp_in_lit (by decide)) (by decide) dX7_handfuls_114 (fun σ12 H locs eσ12 hw => ?_)
  replace h := h σ12 eσ12
  exact g_vret hc hr hw h dX7_handfuls_115
def w_X7_pours_76 (M : Nat) (post : St → Prop) (v1 : Int32) (t0 : Int32) (t1 : Int32) (σ : St) : Prop :=
  (vp_in t1 14) ∧ (∀ σ1 : St, σ1 = si σ 13 t1.toNatClampNeg t0 → (w_X7_held M (fun r3 σ2 => (∀ σ4 : St, σ4 = si σ2 13 8 r3 → (post σ4))) ((gi σ1 13 8) - (v1 / 2)) 120 σ1))
set_option maxHeartbeats 4000000 in
set_option maxRecDepth 20000 in
theorem b_X7_pours_76 {Γ : Gm} {ad : Nat → Nat} {p : Program} {l : Launch} {e : Env} {s : State} {m : MethodId} {args : Array Value} {below : List Frame} {meth : Method} {c : Code} {M : Nat} (hM : 20 ≤ M) {post : St → Prop}
    (v1 : Int32) (t0 : Int32) (t1 : Int32) (σ : St) (H : Heap) (locs : List Loc) (ls : Array Slot) (h : w_X7_pours_76 M post v1 t0 t1 σ) (hc : CX Γ p s m args meth c cX7_pours RX7 3) (hr : meth.sig.returnType = none) (hw : WH Γ YM M ad σ s H locs) (hl : lv_has ls 3 [(0, .ref (ad 0)), (1, .int v1)]) :
    W p l e (rmL 1 0 0) s m args below meth c H locs 0 0 (MQ below (va_Qv post (fun u t => WC Γ YM M ad u t) (AA Γ)) args s 0 0 (AA Γ)) (F0 m 76 ls [.int t0, .int t1, .ref (ad 13)]) := by
  have hx := hc.1
  have hb := hc.2.1
  unfold w_X7_pours_76 at h
  have hin := h.1
  replace h := h.2
  refine g_iastK (Y := YM) (kd := 33) (n := 14) (k := t1.toNatClampNeg) (o := 13) YM_ok (by decide) (by decide) rfl hc hw (Nat.lt_of_lt_of_le (by decide) hM) rfl rfl hin rfl dX7_pours_76 (fun σ1 H locs eσ1 hw => ?_)
  replace h := h σ1 eσ1
  refine lv_aload_n hx hb dX7_pours_77 rfl (lv_at hl 0 rfl) ?_
  refine fg_X7_47 hc hw (Nat.lt_of_lt_of_le (by decide) hM) rfl dX7_pours_78 ?_
  refine lv_bipush (v := 8) hx hb dX7_pours_81 (by decide) ?_
  refine lv_aload_n hx hb dX7_pours_83 rfl (lv_at hl 0 rfl) ?_
  refine fg_X7_47 hc hw (Nat.lt_of_lt_of_le (by decide) hM) rfl dX7_pours_84 ?_
  refine lv_bipush (v := 8) hx hb dX7_pours_87 (by decide) ?_
  refine g_ialdK (Y := YM) (kd := 33) (n := 14) (k := 8) (o := 13) (by decide) (by decide) rfl hc hw (Nat.lt_of_lt_of_le (by decide) hM) rfl rfl (vp_in_lit (by decide)) (by decide) dX7_pours_89 ?_
  refine lv_iload_n hx hb dX7_pours_90 rfl (lv_at hl 1 rfl) ?_
  refine lv_iconst (v := 2) hx hb dX7_pours_91 (by decide) ?_
  refine lv_idiv hx hb dX7_pours_92 (by decide) ?_
  refine lv_isub hx hb dX7_pours_93 ?_
  refine lv_bipush (v := 120) hx hb dX7_pours_94 (by decide) ?_
  refine g_Si (Y := YM) (n := 2) (k := 0) (As := [.int ((gi σ1 13 8) - (v1 / 2)), .int 120]) (rest := [.int 8, .ref (ad 13)]) vw_X7_203 ⟨Nat.le_of_ble_eq_true rfl, Nat.le_of_ble_eq_true rfl, Nat.zero_le _, Nat.zero_le _⟩ hc hw hl.1 (m_X7_held l hM ((gi σ1 13 8) - (v1 / 2)) 120 σ1 h) rfl rfl (Nat.le_of_ble_eq_true rfl) dX7_pours_96 (fun r3 σ2 H locs h hw => ?_)
  refine g_iastK (Y := YM) (kd := 33) (n := 14) (k := 8) (o := 13) YM_ok (by decide) (by decide) rfl hc hw (Nat.lt_of_lt_of_le (by decide) hM) rfl rfl (vp_in_lit (by decide)) (by decide) dX7_pours_99 (fun σ4 H locs eσ4 hw => ?_)
  replace h := h σ4 eσ4
  exact g_vret hc hr hw h dX7_pours_100
def w_X7_pours_33 (M : Nat) (post : St → Prop) (v1 : Int32) (v2 : Int32) (t0 : Int32) (t1 : Int32) (σ : St) : Prop :=
  (vp_in t1 14) ∧ (∀ σ1 : St, σ1 = si σ 13 t1.toNatClampNeg t0 → (∀ x2 : Int32, x2 = (gi σ1 13 6) + ((v1 * v2) / 4) → ((x2 ≤ 99 → (∀ x4 : Int32, x4 = (gi σ1 13 6) + ((v1 * v2) / 4) → (w_X7_pours_76 M post v1 x4 6 σ1))) ∧ (¬ (x2 ≤ 99) → (w_X7_pours_76 M post v1 99 6 σ1)))))
set_option maxHeartbeats 4000000 in
set_option maxRecDepth 20000 in
theorem b_X7_pours_33 {Γ : Gm} {ad : Nat → Nat} {p : Program} {l : Launch} {e : Env} {s : State} {m : MethodId} {args : Array Value} {below : List Frame} {meth : Method} {c : Code} {M : Nat} (hM : 20 ≤ M) {post : St → Prop}
    (v1 : Int32) (v2 : Int32) (t0 : Int32) (t1 : Int32) (σ : St) (H : Heap) (locs : List Loc) (ls : Array Slot) (h : w_X7_pours_33 M post v1 v2 t0 t1 σ) (hc : CX Γ p s m args meth c cX7_pours RX7 3) (hr : meth.sig.returnType = none) (hw : WH Γ YM M ad σ s H locs) (hl : lv_has ls 3 [(0, .ref (ad 0)), (1, .int v1), (2, .int v2)]) :
    W p l e (rmL 1 0 0) s m args below meth c H locs 0 0 (MQ below (va_Qv post (fun u t => WC Γ YM M ad u t) (AA Γ)) args s 0 0 (AA Γ)) (F0 m 33 ls [.int t0, .int t1, .ref (ad 13)]) := by
  have hx := hc.1
  have hb := hc.2.1
  unfold w_X7_pours_33 at h
  have hin := h.1
  replace h := h.2
  refine g_iastK (Y := YM) (kd := 33) (n := 14) (k := t1.toNatClampNeg) (o := 13) YM_ok (by decide) (by decide) rfl hc hw (Nat.lt_of_lt_of_le (by decide) hM) rfl rfl hin rfl dX7_pours_33 (fun σ1 H locs eσ1 hw => ?_)
  replace h := h σ1 eσ1
  refine lv_aload_n hx hb dX7_pours_34 rfl (lv_at hl 0 rfl) ?_
  refine fg_X7_47 hc hw (Nat.lt_of_lt_of_le (by decide) hM) rfl dX7_pours_35 ?_
  refine lv_bipush (v := 6) hx hb dX7_pours_38 (by decide) ?_
  refine lv_aload_n hx hb dX7_pours_40 rfl (lv_at hl 0 rfl) ?_
  refine fg_X7_47 hc hw (Nat.lt_of_lt_of_le (by decide) hM) rfl dX7_pours_41 ?_
  refine lv_bipush (v := 6) hx hb dX7_pours_44 (by decide) ?_
  refine g_ialdK (Y := YM) (kd := 33) (n := 14) (k := 6) (o := 13) (by decide) (by decide) rfl hc hw (Nat.lt_of_lt_of_le (by decide) hM) rfl rfl (vp_in_lit (by decide)) (by decide) dX7_pours_46 ?_
  refine lv_iload_n hx hb dX7_pours_47 rfl (lv_at hl 1 rfl) ?_
  refine lv_iload_n hx hb dX7_pours_48 rfl (lv_at hl 2 rfl) ?_
  refine lv_imul hx hb dX7_pours_49 ?_
  refine lv_iconst (v := 4) hx hb dX7_pours_50 (by decide) ?_
  refine lv_idiv hx hb dX7_pours_51 (by decide) ?_
  refine lv_iadd hx hb dX7_pours_52 ?_
  refine lv_topi (fun x2 ex2 => ?_)
  replace h := h x2 ex2
  refine lv_bipush (v := 99) hx hb dX7_pours_53 (by decide) ?_
  refine lv_icmp_le (tgt := 63) hx hb dX7_pours_55 (by decide) (fun c3 => ?_) (fun c3 => ?_)
  · replace h := h.1 c3
    refine lv_aload_n hx hb dX7_pours_63 rfl (lv_at hl 0 rfl) ?_
    refine fg_X7_47 hc hw (Nat.lt_of_lt_of_le (by decide) hM) rfl dX7_pours_64 ?_
    refine lv_bipush (v := 6) hx hb dX7_pours_67 (by decide) ?_
    refine g_ialdK (Y := YM) (kd := 33) (n := 14) (k := 6) (o := 13) (by decide) (by decide) rfl hc hw (Nat.lt_of_lt_of_le (by decide) hM) rfl rfl (vp_in_lit (by decide)) (by decide) dX7_pours_69 ?_
    refine lv_iload_n hx hb dX7_pours_70 rfl (lv_at hl 1 rfl) ?_
    refine lv_iload_n hx hb dX7_pours_71 rfl (lv_at hl 2 rfl) ?_
    refine lv_imul hx hb dX7_pours_72 ?_
    refine lv_iconst (v := 4) hx hb dX7_pours_73 (by decide) ?_
    refine lv_idiv hx hb dX7_pours_74 (by decide) ?_
    refine lv_iadd hx hb dX7_pours_75 ?_
    refine lv_topi (fun x4 ex4 => ?_)
    replace h := h x4 ex4
    exact b_X7_pours_76 hM v1 x4 6 σ1 _ _ _ h  hc hr hw (lv_sub hl [0, 1] rfl)
  · replace h := h.2 c3
    refine lv_bipush (v := 99) hx hb dX7_pours_58 (by decide) ?_
    refine lv_goto (tgt := 76) hx hb dX7_pours_60 (by decide) ?_
    exact b_X7_pours_76 hM v1 99 6 σ1 _ _ _ h  hc hr hw (lv_sub hl [0, 1] rfl)
def w_X7_pours (M : Nat) (post : St → Prop) (a1 : Int32) (a2 : Int32) (σ : St) : Prop :=
  (((gi σ 13 5) + a1) ≤ 9999 → (w_X7_pours_33 M post a1 a2 ((gi σ 13 5) + a1) 5 σ)) ∧ (¬ (((gi σ 13 5) + a1) ≤ 9999) → (w_X7_pours_33 M post a1 a2 9999 5 σ))
set_option maxHeartbeats 4000000 in
set_option maxRecDepth 20000 in
theorem m_X7_pours {Γ : Gm} {ad : Nat → Nat} {M : Nat} (l : Launch) (hM : 20 ≤ M) {post : St → Prop} (a1 : Int32) (a2 : Int32) (σ : St) (h : w_X7_pours M post a1 a2 σ) : Cv l Γ YM M ad σ yX7_pours cX7_pours 3 none 1 0 0 [.ref (ad 0), .int a1, .int a2] post := by
  refine g_start (by decide) (Nat.le_of_ble_eq_true rfl) ?_
  intro p e s m args below meth c ls hc hr hn hl hw
  have hc : CX Γ p s m args meth c cX7_pours RX7 3 := hc
  have hl : lv_has ls 3 [(0, .ref (ad 0)), (1, .int a1), (2, .int a2)] := hl
  have hx := hc.1
  have hb := hc.2.1
  unfold w_X7_pours at h
  generalize hHH : s.heap = H0 at hw ⊢
  refine lv_aload_n hx hb dX7_pours_0 rfl (lv_at hl 0 rfl) ?_
  refine fg_X7_47 hc hw (Nat.lt_of_lt_of_le (by decide) hM) rfl dX7_pours_1 ?_
  refine lv_iconst (v := 5) hx hb dX7_pours_4 (by decide) ?_
  refine lv_aload_n hx hb dX7_pours_5 rfl (lv_at hl 0 rfl) ?_
  refine fg_X7_47 hc hw (Nat.lt_of_lt_of_le (by decide) hM) rfl dX7_pours_6 ?_
  refine lv_iconst (v := 5) hx hb dX7_pours_9 (by decide) ?_
  refine g_ialdK (Y := YM) (kd := 33) (n := 14) (k := 5) (o := 13) (by decide) (by decide) rfl hc hw (Nat.lt_of_lt_of_le (by decide) hM) rfl rfl (vp_in_lit (by decide)) (by decide) dX7_pours_10 ?_
  refine lv_iload_n hx hb dX7_pours_11 rfl (lv_at hl 1 rfl) ?_
  refine lv_iadd hx hb dX7_pours_12 ?_
  refine lv_sipush (v := 9999) hx hb dX7_pours_13 (by decide) ?_
  refine lv_icmp_le (tgt := 25) hx hb dX7_pours_16 (by decide) (fun c1 => ?_) (fun c1 => ?_)
  · replace h := h.1 c1
    refine lv_aload_n hx hb dX7_pours_25 rfl (lv_at hl 0 rfl) ?_
    refine fg_X7_47 hc hw (Nat.lt_of_lt_of_le (by decide) hM) rfl dX7_pours_26 ?_
    refine lv_iconst (v := 5) hx hb dX7_pours_29 (by decide) ?_
    refine g_ialdK (Y := YM) (kd := 33) (n := 14) (k := 5) (o := 13) (by decide) (by decide) rfl hc hw (Nat.lt_of_lt_of_le (by decide) hM) rfl rfl (vp_in_lit (by decide)) (by decide) dX7_pours_30 ?_
    refine lv_iload_n hx hb dX7_pours_31 rfl (lv_at hl 1 rfl) ?_
    refine lv_iadd hx hb dX7_pours_32 ?_
    exact b_X7_pours_33 hM a1 a2 ((gi σ 13 5) + a1) 5 σ _ _ _ h  hc hr hw (lv_sub hl [0, 1, 2] rfl)
  · replace h := h.2 c1
    refine lv_sipush (v := 9999) hx hb dX7_pours_19 (by decide) ?_
    refine lv_goto (tgt := 33) hx hb dX7_pours_22 (by decide) ?_
    exact b_X7_pours_33 hM a1 a2 9999 5 σ _ _ _ h  hc hr hw (lv_sub hl [0, 1, 2] rfl)
def w_X7_areActs (M : Nat) (post : Int32 → St → Prop) (a1 : Int32) (σ : St) : Prop :=
  w_X7_in M (fun r2 σ1 => (narrow .boolean (.int r2) = .int r2 ∧ post r2 σ1)) a1.toInt64 0 ((gi σ 0 21).toInt64) σ
set_option maxHeartbeats 4000000 in
set_option maxRecDepth 20000 in
theorem m_X7_areActs {Γ : Gm} {ad : Nat → Nat} {M : Nat} (l : Launch) (hM : 20 ≤ M) {post : Int32 → St → Prop} (a1 : Int32) (σ : St) (h : w_X7_areActs M post a1 σ) : Ci l Γ YM M ad σ yX7_areActs cX7_areActs 2 (Option.some Jvm.ClassFile.FieldType.boolean) 1 0 0 [.ref (ad 0), .int a1] post := by
  refine g_start (by decide) (Nat.le_of_ble_eq_true rfl) ?_
  intro p e s m args below meth c ls hc hr hn hl hw
  have hc : CX Γ p s m args meth c cX7_areActs RX7 2 := hc
  have hl : lv_has ls 2 [(0, .ref (ad 0)), (1, .int a1)] := hl
  have hx := hc.1
  have hb := hc.2.1
  unfold w_X7_areActs at h
  generalize hHH : s.heap = H0 at hw ⊢
  refine lv_iload_n hx hb dX7_areActs_0 rfl (lv_at hl 1 rfl) ?_
  refine lv_i2l (v := a1.toInt64) hx hb dX7_areActs_1 rfl ?_
  refine lv_lconst (v := 0) hx hb dX7_areActs_2 (by decide) ?_
  refine lv_aload_n hx hb dX7_areActs_3 rfl (lv_at hl 0 rfl) ?_
  refine fg_X7_95 hc hw (Nat.lt_of_lt_of_le (by decide) hM) rfl dX7_areActs_4 ?_
  refine lv_i2l (v := (gi σ 0 21).toInt64) hx hb dX7_areActs_7 rfl ?_
  refine g_Si (Y := YM) (n := 3) (k := 0) (As := [.long a1.toInt64, .long 0, .long ((gi σ 0 21).toInt64)]) (rest := []) vw_X7_75 ⟨Nat.le_of_ble_eq_true rfl, Nat.le_of_ble_eq_true rfl, Nat.zero_le _, Nat.zero_le _⟩ hc hw hl.1 (m_X7_in l hM a1.toInt64 0 ((gi σ 0 21).toInt64) σ h) rfl rfl (Nat.le_of_ble_eq_true rfl) dX7_areActs_8 (fun r2 σ1 H locs h hw => ?_)
  exact g_zret hc hr hw h.1 h.2 dX7_areActs_11
def w_X7_isSheet (M : Nat) (post : Int32 → St → Prop) (a1 : Int32) (σ : St) : Prop :=
  w_X7_in M (fun r2 σ1 => (narrow .boolean (.int r2) = .int r2 ∧ post r2 σ1)) a1.toInt64 0 3 σ
set_option maxHeartbeats 4000000 in
set_option maxRecDepth 20000 in
theorem m_X7_isSheet {Γ : Gm} {ad : Nat → Nat} {M : Nat} (l : Launch) (hM : 20 ≤ M) {post : Int32 → St → Prop} (a1 : Int32) (σ : St) (h : w_X7_isSheet M post a1 σ) : Ci l Γ YM M ad σ yX7_isSheet cX7_isSheet 1 (Option.some Jvm.ClassFile.FieldType.boolean) 1 0 0 [.int a1] post := by
  refine g_start (by decide) (Nat.le_of_ble_eq_true rfl) ?_
  intro p e s m args below meth c ls hc hr hn hl hw
  have hc : CX Γ p s m args meth c cX7_isSheet RX7 1 := hc
  have hl : lv_has ls 1 [(0, .int a1)] := hl
  have hx := hc.1
  have hb := hc.2.1
  unfold w_X7_isSheet at h
  generalize hHH : s.heap = H0 at hw ⊢
  refine lv_iload_n hx hb dX7_isSheet_0 rfl (lv_at hl 0 rfl) ?_
  refine lv_i2l (v := a1.toInt64) hx hb dX7_isSheet_1 rfl ?_
  refine lv_lconst (v := 0) hx hb dX7_isSheet_2 (by decide) ?_
  refine lv_ldc2 (v := 3) hx hb hc.2.2.2.1 (hc.2.2.2.2.1 _ q_1363) dX7_isSheet_3 ?_
  refine g_Si (Y := YM) (n := 3) (k := 0) (As := [.long a1.toInt64, .long 0, .long 3]) (rest := []) vw_X7_75 ⟨Nat.le_of_ble_eq_true rfl, Nat.le_of_ble_eq_true rfl, Nat.zero_le _, Nat.zero_le _⟩ hc hw hl.1 (m_X7_in l hM a1.toInt64 0 3 σ h) rfl rfl (Nat.le_of_ble_eq_true rfl) dX7_isSheet_6 (fun r2 σ1 H locs h hw => ?_)
  exact g_zret hc hr hw h.1 h.2 dX7_isSheet_9
def w_X7_ripen (M : Nat) (post : Int32 → St → Prop) (a1 : Int32) (a2 : Int32) (a3 : Int32) (σ : St) : Prop :=
  w_X7_isCheese M (fun r2 σ1 => ((r2 = 0 → (post (-5) σ1)) ∧ (¬ (r2 = 0) → (w_X7_in M (fun r5 σ4 => ((r5 = 0 → (post (-7) σ4)) ∧ (¬ (r5 = 0) → (w_X7_mayBe M (fun r8 σ7 => ((r8 = 0 → (post (-7) σ7)) ∧ (¬ (r8 = 0) → ((vp_in ((5 * a1) + a2) 20) ∧ (∀ x10 : Int32, x10 = gi σ7 1 (((5 * a1) + a2).toNatClampNeg) → ((vp_in ((5 * a1) + a2) 20) ∧ (∀ σ11 : St, σ11 = si σ7 1 (((5 * a1) + a2).toNatClampNeg) a3 → (post x10 σ11)))))))) a2 a3 σ4)))) a2.toInt64 0 4 σ1)))) a1 σ
set_option maxHeartbeats 4000000 in
set_option maxRecDepth 20000 in
theorem m_X7_ripen {Γ : Gm} {ad : Nat → Nat} {M : Nat} (l : Launch) (hM : 20 ≤ M) {post : Int32 → St → Prop} (a1 : Int32) (a2 : Int32) (a3 : Int32) (σ : St) (h : w_X7_ripen M post a1 a2 a3 σ) : Ci l Γ YM M ad σ yX7_ripen cX7_ripen 5 (Option.some Jvm.ClassFile.FieldType.int) 2 0 0 [.ref (ad 0), .int a1, .int a2, .int a3] post := by
  refine g_start (by decide) (Nat.le_of_ble_eq_true rfl) ?_
  intro p e s m args below meth c ls hc hr hn hl hw
  have hc : CX Γ p s m args meth c cX7_ripen RX7 5 := hc
  have hl : lv_has ls 5 [(0, .ref (ad 0)), (1, .int a1), (2, .int a2), (3, .int a3)] := hl
  have hx := hc.1
  have hb := hc.2.1
  unfold w_X7_ripen at h
  generalize hHH : s.heap = H0 at hw ⊢
  refine lv_aload_n hx hb dX7_ripen_0 rfl (lv_at hl 0 rfl) ?_
  refine lv_iload_n hx hb dX7_ripen_1 rfl (lv_at hl 1 rfl) ?_
  refine g_Vi (Y := YM) (ci := 7) (n := 1) (k := 1) (As := [.int a1]) (rest := []) rfl (by decide) vw_X7_85 ⟨Nat.le_of_ble_eq_true rfl, Nat.le_of_ble_eq_true rfl, Nat.zero_le _, Nat.zero_le _⟩ hc hw hl.1 (Nat.lt_of_lt_of_le (by decide) hM) rfl (m_X7_isCheese l hM a1 σ h) rfl rfl (Nat.le_of_ble_eq_true rfl) dX7_ripen_2 (fun r2 σ1 H locs h hw => ?_)
  refine lv_if_ne (tgt := 11) hx hb dX7_ripen_5 (by decide) (fun c3 => ?_) (fun c3 => ?_)
  · replace h := h.2 c3
    refine lv_iload_n hx hb dX7_ripen_11 rfl (lv_at hl 2 rfl) ?_
    refine lv_i2l (v := a2.toInt64) hx hb dX7_ripen_12 rfl ?_
    refine lv_lconst (v := 0) hx hb dX7_ripen_13 (by decide) ?_
    refine lv_ldc2 (v := 4) hx hb hc.2.2.2.1 (hc.2.2.2.2.1 _ q_1091) dX7_ripen_14 ?_
    refine g_Si (Y := YM) (n := 3) (k := 0) (As := [.long a2.toInt64, .long 0, .long 4]) (rest := []) vw_X7_75 ⟨Nat.le_of_ble_eq_true rfl, Nat.le_of_ble_eq_true rfl, Nat.zero_le _, Nat.zero_le _⟩ hc hw hl.1 (m_X7_in l hM a2.toInt64 0 4 σ1 h) rfl rfl (Nat.le_of_ble_eq_true rfl) dX7_ripen_17 (fun r5 σ4 H locs h hw => ?_)
    refine lv_if_eq (tgt := 31) hx hb dX7_ripen_20 (by decide) (fun c6 => ?_) (fun c6 => ?_)
    · replace h := h.1 c6
      refine lv_bipush (v := (-7)) hx hb dX7_ripen_31 (by decide) ?_
      exact g_iret hc hr hw h dX7_ripen_33
    · replace h := h.2 c6
      refine lv_iload_n hx hb dX7_ripen_23 rfl (lv_at hl 2 rfl) ?_
      refine lv_iload_n hx hb dX7_ripen_24 rfl (lv_at hl 3 rfl) ?_
      refine g_Si (Y := YM) (n := 2) (k := 1) (As := [.int a2, .int a3]) (rest := []) vw_X7_81 ⟨Nat.le_of_ble_eq_true rfl, Nat.le_of_ble_eq_true rfl, Nat.zero_le _, Nat.zero_le _⟩ hc hw hl.1 (m_X7_mayBe l hM a2 a3 σ4 h) rfl rfl (Nat.le_of_ble_eq_true rfl) dX7_ripen_25 (fun r8 σ7 H locs h hw => ?_)
      refine lv_if_ne (tgt := 34) hx hb dX7_ripen_28 (by decide) (fun c9 => ?_) (fun c9 => ?_)
      · replace h := h.2 c9
        refine lv_aload_n hx hb dX7_ripen_34 rfl (lv_at hl 0 rfl) ?_
        refine fg_X7_9 hc hw (Nat.lt_of_lt_of_le (by decide) hM) rfl dX7_ripen_35 ?_
        refine lv_iconst (v := 5) hx hb dX7_ripen_38 (by decide) ?_
        refine lv_iload_n hx hb dX7_ripen_39 rfl (lv_at hl 1 rfl) ?_
        refine lv_imul hx hb dX7_ripen_40 ?_
        refine lv_iload_n hx hb dX7_ripen_41 rfl (lv_at hl 2 rfl) ?_
        refine lv_iadd hx hb dX7_ripen_42 ?_
        refine g_ialdK (Y := YM) (kd := 21) (n := 20) (k := ((5 * a1) + a2).toNatClampNeg) (o := 1) (by decide) (by decide) rfl hc hw (Nat.lt_of_lt_of_le (by decide) hM) rfl rfl h.1 rfl dX7_ripen_43 ?_
        replace h := h.2
        refine lv_topi (fun x10 ex10 => ?_)
        replace h := h x10 ex10
        refine lv_istore (lv' := [(4, .int x10), (0, .ref (ad 0)), (1, .int a1), (2, .int a2), (3, .int a3)]) hx hb dX7_ripen_44 hl (by decide) rfl (fun ls hl => ?_)
        refine lv_aload_n hx hb dX7_ripen_46 rfl (lv_at hl 1 rfl) ?_
        refine fg_X7_9 hc hw (Nat.lt_of_lt_of_le (by decide) hM) rfl dX7_ripen_47 ?_
        refine lv_iconst (v := 5) hx hb dX7_ripen_50 (by decide) ?_
        refine lv_iload_n hx hb dX7_ripen_51 rfl (lv_at hl 2 rfl) ?_
        refine lv_imul hx hb dX7_ripen_52 ?_
        refine lv_iload_n hx hb dX7_ripen_53 rfl (lv_at hl 3 rfl) ?_
        refine lv_iadd hx hb dX7_ripen_54 ?_
        refine lv_iload_n hx hb dX7_ripen_55 rfl (lv_at hl 4 rfl) ?_
        have hin := h.1
        replace h := h.2
        refine g_iastK (Y := YM) (kd := 21) (n := 20) (k := ((5 * a1) + a2).toNatClampNeg) (o := 1) YM_ok (by decide) (by decide) rfl hc hw (Nat.lt_of_lt_of_le (by decide) hM) rfl rfl hin rfl dX7_ripen_56 (fun σ11 H locs eσ11 hw => ?_)
        replace h := h σ11 eσ11
        refine lv_iload hx hb dX7_ripen_57 (lv_at hl 0 rfl) ?_
        exact g_iret hc hr hw h dX7_ripen_59
      · replace h := h.1 c9
        refine lv_bipush (v := (-7)) hx hb dX7_ripen_31 (by decide) ?_
        exact g_iret hc hr hw h dX7_ripen_33
  · replace h := h.1 c3
    refine lv_bipush (v := (-5)) hx hb dX7_ripen_8 (by decide) ?_
    exact g_iret hc hr hw h dX7_ripen_10
def w_X7_sortTold (M : Nat) (post : Int32 → St → Prop) (a1 : Int32) (a2 : Int32) (σ : St) : Prop :=
  w_X7_isCheese M (fun r2 σ1 => ((r2 = 0 → (post (-5) σ1)) ∧ (¬ (r2 = 0) → (w_X7_in M (fun r5 σ4 => ((r5 = 0 → (post (-7) σ4)) ∧ (¬ (r5 = 0) → ((vp_in ((5 * a1) + a2) 20) ∧ (∀ x7 : Int32, x7 = gi σ4 1 (((5 * a1) + a2).toNatClampNeg) → (post x7 σ4)))))) a2.toInt64 0 4 σ1)))) a1 σ
set_option maxHeartbeats 4000000 in
set_option maxRecDepth 20000 in
theorem m_X7_sortTold {Γ : Gm} {ad : Nat → Nat} {M : Nat} (l : Launch) (hM : 20 ≤ M) {post : Int32 → St → Prop} (a1 : Int32) (a2 : Int32) (σ : St) (h : w_X7_sortTold M post a1 a2 σ) : Ci l Γ YM M ad σ yX7_sortTold cX7_sortTold 3 (Option.some Jvm.ClassFile.FieldType.int) 2 0 0 [.ref (ad 0), .int a1, .int a2] post := by
  refine g_start (by decide) (Nat.le_of_ble_eq_true rfl) ?_
  intro p e s m args below meth c ls hc hr hn hl hw
  have hc : CX Γ p s m args meth c cX7_sortTold RX7 3 := hc
  have hl : lv_has ls 3 [(0, .ref (ad 0)), (1, .int a1), (2, .int a2)] := hl
  have hx := hc.1
  have hb := hc.2.1
  unfold w_X7_sortTold at h
  generalize hHH : s.heap = H0 at hw ⊢
  refine lv_aload_n hx hb dX7_sortTold_0 rfl (lv_at hl 0 rfl) ?_
  refine lv_iload_n hx hb dX7_sortTold_1 rfl (lv_at hl 1 rfl) ?_
  refine g_Vi (Y := YM) (ci := 7) (n := 1) (k := 1) (As := [.int a1]) (rest := []) rfl (by decide) vw_X7_85 ⟨Nat.le_of_ble_eq_true rfl, Nat.le_of_ble_eq_true rfl, Nat.zero_le _, Nat.zero_le _⟩ hc hw hl.1 (Nat.lt_of_lt_of_le (by decide) hM) rfl (m_X7_isCheese l hM a1 σ h) rfl rfl (Nat.le_of_ble_eq_true rfl) dX7_sortTold_2 (fun r2 σ1 H locs h hw => ?_)
  refine lv_if_ne (tgt := 13) hx hb dX7_sortTold_5 (by decide) (fun c3 => ?_) (fun c3 => ?_)
  · replace h := h.2 c3
    refine lv_iload_n hx hb dX7_sortTold_13 rfl (lv_at hl 2 rfl) ?_
    refine lv_i2l (v := a2.toInt64) hx hb dX7_sortTold_14 rfl ?_
    refine lv_lconst (v := 0) hx hb dX7_sortTold_15 (by decide) ?_
    refine lv_ldc2 (v := 4) hx hb hc.2.2.2.1 (hc.2.2.2.2.1 _ q_1091) dX7_sortTold_16 ?_
    refine g_Si (Y := YM) (n := 3) (k := 0) (As := [.long a2.toInt64, .long 0, .long 4]) (rest := []) vw_X7_75 ⟨Nat.le_of_ble_eq_true rfl, Nat.le_of_ble_eq_true rfl, Nat.zero_le _, Nat.zero_le _⟩ hc hw hl.1 (m_X7_in l hM a2.toInt64 0 4 σ1 h) rfl rfl (Nat.le_of_ble_eq_true rfl) dX7_sortTold_19 (fun r5 σ4 H locs h hw => ?_)
    refine lv_if_ne (tgt := 30) hx hb dX7_sortTold_22 (by decide) (fun c6 => ?_) (fun c6 => ?_)
    · replace h := h.2 c6
      refine lv_aload_n hx hb dX7_sortTold_30 rfl (lv_at hl 0 rfl) ?_
      refine fg_X7_9 hc hw (Nat.lt_of_lt_of_le (by decide) hM) rfl dX7_sortTold_31 ?_
      refine lv_iconst (v := 5) hx hb dX7_sortTold_34 (by decide) ?_
      refine lv_iload_n hx hb dX7_sortTold_35 rfl (lv_at hl 1 rfl) ?_
      refine lv_imul hx hb dX7_sortTold_36 ?_
      refine lv_iload_n hx hb dX7_sortTold_37 rfl (lv_at hl 2 rfl) ?_
      refine lv_iadd hx hb dX7_sortTold_38 ?_
      refine g_ialdK (Y := YM) (kd := 21) (n := 20) (k := ((5 * a1) + a2).toNatClampNeg) (o := 1) (by decide) (by decide) rfl hc hw (Nat.lt_of_lt_of_le (by decide) hM) rfl rfl h.1 rfl dX7_sortTold_39 ?_
      replace h := h.2
      refine lv_topi (fun x7 ex7 => ?_)
      replace h := h x7 ex7
      exact g_iret hc hr hw h dX7_sortTold_40
    · replace h := h.1 c6
      refine lv_bipush (v := (-7)) hx hb dX7_sortTold_25 (by decide) ?_
      refine lv_goto (tgt := 40) hx hb dX7_sortTold_27 (by decide) ?_
      exact g_iret hc hr hw h dX7_sortTold_40
  · replace h := h.1 c3
    refine lv_bipush (v := (-5)) hx hb dX7_sortTold_8 (by decide) ?_
    refine lv_goto (tgt := 40) hx hb dX7_sortTold_10 (by decide) ?_
    exact g_iret hc hr hw h dX7_sortTold_40
def w_X7_next_125 (M : Nat) (post : St → Prop) (v2 : Int32) (t0 : Int32) (σ : St) : Prop :=
  ∀ σ1 : St, σ1 = si σ 0 13 t0 → ((6 ≤ v2 → (∀ σ3 : St, σ3 = si σ1 0 14 (v2 - 6) → (post σ3))) ∧ (¬ (6 ≤ v2) → (∀ σ4 : St, σ4 = si σ1 0 14 v2 → (post σ4))))
set_option maxHeartbeats 4000000 in
set_option maxRecDepth 20000 in
theorem b_X7_next_125 {Γ : Gm} {ad : Nat → Nat} {p : Program} {l : Launch} {e : Env} {s : State} {m : MethodId} {args : Array Value} {below : List Frame} {meth : Method} {c : Code} {M : Nat} (hM : 20 ≤ M) {post : St → Prop}
    (v2 : Int32) (t0 : Int32) (σ : St) (H : Heap) (locs : List Loc) (ls : Array Slot) (h : w_X7_next_125 M post v2 t0 σ) (hc : CX Γ p s m args meth c cX7_next RX7 3) (hr : meth.sig.returnType = none) (hw : WH Γ YM M ad σ s H locs) (hl : lv_has ls 3 [(0, .ref (ad 0)), (2, .int v2)]) :
    W p l e (rmL 2 0 0) s m args below meth c H locs 0 0 (MQ below (va_Qv post (fun u t => WC Γ YM M ad u t) (AA Γ)) args s 0 0 (AA Γ)) (F0 m 125 ls [.int t0, .ref (ad 0)]) := by
  have hx := hc.1
  have hb := hc.2.1
  unfold w_X7_next_125 at h
  refine fp_X7_129 (o := 0) hc hw (Nat.lt_of_lt_of_le (by decide) hM) rfl dX7_next_125 (fun σ1 H locs eσ1 hw => ?_)
  replace h := h σ1 eσ1
  refine lv_aload_n hx hb dX7_next_128 rfl (lv_at hl 0 rfl) ?_
  refine lv_iload_n hx hb dX7_next_129 rfl (lv_at hl 1 rfl) ?_
  refine lv_bipush (v := 6) hx hb dX7_next_130 (by decide) ?_
  refine lv_icmp_ge (tgt := 139) hx hb dX7_next_132 (by decide) (fun c2 => ?_) (fun c2 => ?_)
  · replace h := h.1 c2
    refine lv_iload_n hx hb dX7_next_139 rfl (lv_at hl 1 rfl) ?_
    refine lv_bipush (v := 6) hx hb dX7_next_140 (by decide) ?_
    refine lv_isub hx hb dX7_next_142 ?_
    refine fp_X7_139 (o := 0) hc hw (Nat.lt_of_lt_of_le (by decide) hM) rfl dX7_next_143 (fun σ3 H locs eσ3 hw => ?_)
    replace h := h σ3 eσ3
    exact g_vret hc hr hw h dX7_next_146
  · replace h := h.2 c2
    refine lv_iload_n hx hb dX7_next_135 rfl (lv_at hl 1 rfl) ?_
    refine lv_goto (tgt := 143) hx hb dX7_next_136 (by decide) ?_
    refine fp_X7_139 (o := 0) hc hw (Nat.lt_of_lt_of_le (by decide) hM) rfl dX7_next_143 (fun σ4 H locs eσ4 hw => ?_)
    replace h := h σ4 eσ4
    exact g_vret hc hr hw h dX7_next_146
def w_X7_next_73 (M : Nat) (post : St → Prop) (k_73 : St → Prop)  (σ : St) : Prop :=
  w_X7_byteAt M (fun r2 σ1 => (w_X7_isLetter M (fun r4 σ3 => ((r4 = 0 → (w_X7_wordOf M (fun r7 σ6 => ((0 ≤ r7 → ((6 ≤ r7 → (w_X7_next_125 M post r7 3 σ6)) ∧ (¬ (6 ≤ r7) → (w_X7_next_125 M post r7 2 σ6)))) ∧ (¬ (0 ≤ r7) → (w_X7_next_125 M post r7 5 σ6)))) σ3)) ∧ (¬ (r4 = 0) → (∀ σ10 : St, σ10 = si σ3 0 12 ((gi σ3 0 12) + 1) → (k_73  σ10))))) r2 σ1)) (gi σ 0 12) σ
set_option maxHeartbeats 4000000 in
set_option maxRecDepth 20000 in
theorem b_X7_next_73 {Γ : Gm} {ad : Nat → Nat} {p : Program} {l : Launch} {e : Env} {s : State} {m : MethodId} {args : Array Value} {below : List Frame} {meth : Method} {c : Code} {M : Nat} (hM : 20 ≤ M) {post : St → Prop} {k_73 : St → Prop} (hk_73 : ∀  (σ : St) (H : Heap) (locs : List Loc) (ls : Array Slot), k_73  σ → WH Γ YM M ad σ s H locs → lv_has ls 3 [(0, .ref (ad 0))] → W p l e (rmL 2 0 0) s m args below meth c H locs 0 0 (MQ below (va_Qv post (fun u t => WC Γ YM M ad u t) (AA Γ)) args s 0 0 (AA Γ)) (F0 m 73 ls []))
     (σ : St) (H : Heap) (locs : List Loc) (ls : Array Slot) (h : w_X7_next_73 M post k_73  σ) (hc : CX Γ p s m args meth c cX7_next RX7 3) (hr : meth.sig.returnType = none) (hw : WH Γ YM M ad σ s H locs) (hl : lv_has ls 3 [(0, .ref (ad 0))]) :
    W p l e (rmL 2 0 0) s m args below meth c H locs 0 0 (MQ below (va_Qv post (fun u t => WC Γ YM M ad u t) (AA Γ)) args s 0 0 (AA Γ)) (F0 m 73 ls []) := by
  have hx := hc.1
  have hb := hc.2.1
  unfold w_X7_next_73 at h
  refine lv_aload_n hx hb dX7_next_73 rfl (lv_at hl 0 rfl) ?_
  refine lv_aload_n hx hb dX7_next_74 rfl (lv_at hl 0 rfl) ?_
  refine fg_X7_114 hc hw (Nat.lt_of_lt_of_le (by decide) hM) rfl dX7_next_75 ?_
  refine g_Vi (Y := YM) (ci := 7) (n := 1) (k := 0) (As := [.int (gi σ 0 12)]) (rest := []) rfl (by decide) vw_X7_125 ⟨Nat.le_of_ble_eq_true rfl, Nat.le_of_ble_eq_true rfl, Nat.zero_le _, Nat.zero_le _⟩ hc hw hl.1 (Nat.lt_of_lt_of_le (by decide) hM) rfl (m_X7_byteAt l hM (gi σ 0 12) σ h) rfl rfl (Nat.le_of_ble_eq_true rfl) dX7_next_78 (fun r2 σ1 H locs h hw => ?_)
  refine g_Si (Y := YM) (n := 1) (k := 1) (As := [.int r2]) (rest := []) vw_X7_132 ⟨Nat.le_of_ble_eq_true rfl, Nat.le_of_ble_eq_true rfl, Nat.zero_le _, Nat.zero_le _⟩ hc hw hl.1 (m_X7_isLetter l hM r2 σ1 h) rfl rfl (Nat.le_of_ble_eq_true rfl) dX7_next_81 (fun r4 σ3 H locs h hw => ?_)
  refine lv_if_eq (tgt := 100) hx hb dX7_next_84 (by decide) (fun c5 => ?_) (fun c5 => ?_)
  · replace h := h.1 c5
    refine lv_aload_n hx hb dX7_next_100 rfl (lv_at hl 0 rfl) ?_
    refine g_Vi (Y := YM) (ci := 7) (n := 0) (k := 0) (As := []) (rest := []) rfl (by decide) vw_X7_135 ⟨Nat.le_of_ble_eq_true rfl, Nat.le_of_ble_eq_true rfl, Nat.zero_le _, Nat.zero_le _⟩ hc hw hl.1 (Nat.lt_of_lt_of_le (by decide) hM) rfl (m_X7_wordOf l hM σ3 h) rfl rfl (Nat.le_of_ble_eq_true rfl) dX7_next_101 (fun r7 σ6 H locs h hw => ?_)
    refine lv_istore_n (lv' := [(2, .int r7), (0, .ref (ad 0))]) hx hb dX7_next_104 rfl hl (by decide) rfl (fun ls hl => ?_)
    refine lv_aload_n hx hb dX7_next_105 rfl (lv_at hl 1 rfl) ?_
    refine lv_iload_n hx hb dX7_next_106 rfl (lv_at hl 0 rfl) ?_
    refine lv_if_ge (tgt := 114) hx hb dX7_next_107 (by decide) (fun c8 => ?_) (fun c8 => ?_)
    · replace h := h.1 c8
      refine lv_iload_n hx hb dX7_next_114 rfl (lv_at hl 0 rfl) ?_
      refine lv_bipush (v := 6) hx hb dX7_next_115 (by decide) ?_
      refine lv_icmp_ge (tgt := 124) hx hb dX7_next_117 (by decide) (fun c9 => ?_) (fun c9 => ?_)
      · replace h := h.1 c9
        refine lv_iconst (v := 3) hx hb dX7_next_124 (by decide) ?_
        exact b_X7_next_125 hM r7 3 σ6 _ _ _ h  hc hr hw (lv_sub hl [1, 0] rfl)
      · replace h := h.2 c9
        refine lv_iconst (v := 2) hx hb dX7_next_120 (by decide) ?_
        refine lv_goto (tgt := 125) hx hb dX7_next_121 (by decide) ?_
        exact b_X7_next_125 hM r7 2 σ6 _ _ _ h  hc hr hw (lv_sub hl [1, 0] rfl)
    · replace h := h.2 c8
      refine lv_iconst (v := 5) hx hb dX7_next_110 (by decide) ?_
      refine lv_goto (tgt := 125) hx hb dX7_next_111 (by decide) ?_
      exact b_X7_next_125 hM r7 5 σ6 _ _ _ h  hc hr hw (lv_sub hl [1, 0] rfl)
  · replace h := h.2 c5
    refine lv_aload_n hx hb dX7_next_87 rfl (lv_at hl 0 rfl) ?_
    refine lv_dup hx hb dX7_next_88 rfl ?_
    refine fg_X7_114 hc hw (Nat.lt_of_lt_of_le (by decide) hM) rfl dX7_next_89 ?_
    refine lv_iconst (v := 1) hx hb dX7_next_92 (by decide) ?_
    refine lv_iadd hx hb dX7_next_93 ?_
    refine fp_X7_114 (o := 0) hc hw (Nat.lt_of_lt_of_le (by decide) hM) rfl dX7_next_94 (fun σ10 H locs eσ10 hw => ?_)
    replace h := h σ10 eσ10
    refine lv_goto (tgt := 73) hx hb dX7_next_97 (by decide) ?_
    exact hk_73  σ10 _ _ _ h  hw (lv_sub hl [0] rfl)
def wl_X7_next_73 (M : Nat) (post : St → Prop) : Nat → St → Prop
  | 0, _ => False
  | n + 1, σ => w_X7_next_73 M post (wl_X7_next_73 M post n)  σ
set_option maxHeartbeats 4000000 in
theorem bl_X7_next_73 {Γ : Gm} {ad : Nat → Nat} {p : Program} {l : Launch} {e : Env} {s : State} {m : MethodId} {args : Array Value} {below : List Frame} {meth : Method} {c : Code} {M : Nat} (hM : 20 ≤ M) {post : St → Prop}
    (hc : CX Γ p s m args meth c cX7_next RX7 3) (hr : meth.sig.returnType = none) :
    ∀ (n : Nat)  (σ : St) (H : Heap) (locs : List Loc) (ls : Array Slot), wl_X7_next_73 M post n  σ → WH Γ YM M ad σ s H locs → lv_has ls 3 [(0, .ref (ad 0))] → W p l e (rmL 2 0 0) s m args below meth c H locs 0 0 (MQ below (va_Qv post (fun u t => WC Γ YM M ad u t) (AA Γ)) args s 0 0 (AA Γ)) (F0 m 73 ls []) := by
  intro n
  induction n with
  | zero => intro  σ H locs ls h; exact h.elim
  | succ n ih =>
    intro  σ H locs ls h  hw hl
    exact b_X7_next_73 hM ih  σ H locs ls h  hc hr hw hl
def w_X7_next_213 (M : Nat) (post : St → Prop) (k_159 : St → Prop) (t0 : Int32) (σ : St) : Prop :=
  ∀ σ1 : St, σ1 = si σ 0 14 t0 → (∀ σ2 : St, σ2 = si σ1 0 12 ((gi σ1 0 12) + 1) → (k_159  σ2))
set_option maxHeartbeats 4000000 in
set_option maxRecDepth 20000 in
theorem b_X7_next_213 {Γ : Gm} {ad : Nat → Nat} {p : Program} {l : Launch} {e : Env} {s : State} {m : MethodId} {args : Array Value} {below : List Frame} {meth : Method} {c : Code} {M : Nat} (hM : 20 ≤ M) {post : St → Prop} {k_159 : St → Prop} (hk_159 : ∀  (σ : St) (H : Heap) (locs : List Loc) (ls : Array Slot), k_159  σ → WH Γ YM M ad σ s H locs → lv_has ls 3 [(0, .ref (ad 0))] → W p l e (rmL 2 0 0) s m args below meth c H locs 0 0 (MQ below (va_Qv post (fun u t => WC Γ YM M ad u t) (AA Γ)) args s 0 0 (AA Γ)) (F0 m 159 ls []))
    (t0 : Int32) (σ : St) (H : Heap) (locs : List Loc) (ls : Array Slot) (h : w_X7_next_213 M post k_159 t0 σ) (hc : CX Γ p s m args meth c cX7_next RX7 3) (hr : meth.sig.returnType = none) (hw : WH Γ YM M ad σ s H locs) (hl : lv_has ls 3 [(0, .ref (ad 0))]) :
    W p l e (rmL 2 0 0) s m args below meth c H locs 0 0 (MQ below (va_Qv post (fun u t => WC Γ YM M ad u t) (AA Γ)) args s 0 0 (AA Γ)) (F0 m 213 ls [.int t0, .ref (ad 0)]) := by
  have hx := hc.1
  have hb := hc.2.1
  unfold w_X7_next_213 at h
  refine fp_X7_139 (o := 0) hc hw (Nat.lt_of_lt_of_le (by decide) hM) rfl dX7_next_213 (fun σ1 H locs eσ1 hw => ?_)
  replace h := h σ1 eσ1
  refine lv_aload_n hx hb dX7_next_216 rfl (lv_at hl 0 rfl) ?_
  refine lv_dup hx hb dX7_next_217 rfl ?_
  refine fg_X7_114 hc hw (Nat.lt_of_lt_of_le (by decide) hM) rfl dX7_next_218 ?_
  refine lv_iconst (v := 1) hx hb dX7_next_221 (by decide) ?_
  refine lv_iadd hx hb dX7_next_222 ?_
  refine fp_X7_114 (o := 0) hc hw (Nat.lt_of_lt_of_le (by decide) hM) rfl dX7_next_223 (fun σ2 H locs eσ2 hw => ?_)
  replace h := h σ2 eσ2
  refine lv_goto (tgt := 159) hx hb dX7_next_226 (by decide) ?_
  exact hk_159  σ2 _ _ _ h  hw (lv_sub hl [0] rfl)
def w_X7_next_159 (M : Nat) (post : St → Prop) (k_159 : St → Prop)  (σ : St) : Prop :=
  w_X7_byteAt M (fun r2 σ1 => (w_X7_isDigit M (fun r4 σ3 => ((r4 = 0 → (∀ x6 : Int32, x6 = (gi σ3 0 12) - (gi σ3 0 11) → ((x6 ≤ 4 → (∀ σ8 : St, σ8 = si σ3 0 13 1 → (post σ8))) ∧ (¬ (x6 ≤ 4) → (∀ σ9 : St, σ9 = si σ3 0 13 5 → (post σ9)))))) ∧ (¬ (r4 = 0) → (∀ x10 : Int32, x10 = (gi σ3 0 12) - (gi σ3 0 11) → ((4 ≤ x10 → (w_X7_next_213 M post k_159 (gi σ3 0 14) σ3)) ∧ (¬ (4 ≤ x10) → (w_X7_byteAt M (fun r13 σ12 => (∀ x14 : Int32, x14 = ((10 * (gi σ3 0 14)) + r13) - 48 → (w_X7_next_213 M post k_159 x14 σ12))) (gi σ3 0 12) σ3))))))) r2 σ1)) (gi σ 0 12) σ
set_option maxHeartbeats 4000000 in
set_option maxRecDepth 20000 in
theorem b_X7_next_159 {Γ : Gm} {ad : Nat → Nat} {p : Program} {l : Launch} {e : Env} {s : State} {m : MethodId} {args : Array Value} {below : List Frame} {meth : Method} {c : Code} {M : Nat} (hM : 20 ≤ M) {post : St → Prop} {k_159 : St → Prop} (hk_159 : ∀  (σ : St) (H : Heap) (locs : List Loc) (ls : Array Slot), k_159  σ → WH Γ YM M ad σ s H locs → lv_has ls 3 [(0, .ref (ad 0))] → W p l e (rmL 2 0 0) s m args below meth c H locs 0 0 (MQ below (va_Qv post (fun u t => WC Γ YM M ad u t) (AA Γ)) args s 0 0 (AA Γ)) (F0 m 159 ls []))
     (σ : St) (H : Heap) (locs : List Loc) (ls : Array Slot) (h : w_X7_next_159 M post k_159  σ) (hc : CX Γ p s m args meth c cX7_next RX7 3) (hr : meth.sig.returnType = none) (hw : WH Γ YM M ad σ s H locs) (hl : lv_has ls 3 [(0, .ref (ad 0))]) :
    W p l e (rmL 2 0 0) s m args below meth c H locs 0 0 (MQ below (va_Qv post (fun u t => WC Γ YM M ad u t) (AA Γ)) args s 0 0 (AA Γ)) (F0 m 159 ls []) := by
  have hx := hc.1
  have hb := hc.2.1
  unfold w_X7_next_159 at h
  refine lv_aload_n hx hb dX7_next_159 rfl (lv_at hl 0 rfl) ?_
  refine lv_aload_n hx hb dX7_next_160 rfl (lv_at hl 0 rfl) ?_
  refine fg_X7_114 hc hw (Nat.lt_of_lt_of_le (by decide) hM) rfl dX7_next_161 ?_
  refine g_Vi (Y := YM) (ci := 7) (n := 1) (k := 0) (As := [.int (gi σ 0 12)]) (rest := []) rfl (by decide) vw_X7_125 ⟨Nat.le_of_ble_eq_true rfl, Nat.le_of_ble_eq_true rfl, Nat.zero_le _, Nat.zero_le _⟩ hc hw hl.1 (Nat.lt_of_lt_of_le (by decide) hM) rfl (m_X7_byteAt l hM (gi σ 0 12) σ h) rfl rfl (Nat.le_of_ble_eq_true rfl) dX7_next_164 (fun r2 σ1 H locs h hw => ?_)
  refine g_Si (Y := YM) (n := 1) (k := 1) (As := [.int r2]) (rest := []) vw_X7_142 ⟨Nat.le_of_ble_eq_true rfl, Nat.le_of_ble_eq_true rfl, Nat.zero_le _, Nat.zero_le _⟩ hc hw hl.1 (m_X7_isDigit l hM r2 σ1 h) rfl rfl (Nat.le_of_ble_eq_true rfl) dX7_next_167 (fun r4 σ3 H locs h hw => ?_)
  refine lv_if_eq (tgt := 229) hx hb dX7_next_170 (by decide) (fun c5 => ?_) (fun c5 => ?_)
  · replace h := h.1 c5
    refine lv_aload_n hx hb dX7_next_229 rfl (lv_at hl 0 rfl) ?_
    refine lv_aload_n hx hb dX7_next_230 rfl (lv_at hl 0 rfl) ?_
    refine fg_X7_114 hc hw (Nat.lt_of_lt_of_le (by decide) hM) rfl dX7_next_231 ?_
    refine lv_aload_n hx hb dX7_next_234 rfl (lv_at hl 0 rfl) ?_
    refine fg_X7_111 hc hw (Nat.lt_of_lt_of_le (by decide) hM) rfl dX7_next_235 ?_
    refine lv_isub hx hb dX7_next_238 ?_
    refine lv_topi (fun x6 ex6 => ?_)
    replace h := h x6 ex6
    refine lv_iconst (v := 4) hx hb dX7_next_239 (by decide) ?_
    refine lv_icmp_le (tgt := 247) hx hb dX7_next_240 (by decide) (fun c7 => ?_) (fun c7 => ?_)
    · replace h := h.1 c7
      refine lv_iconst (v := 1) hx hb dX7_next_247 (by decide) ?_
      refine fp_X7_129 (o := 0) hc hw (Nat.lt_of_lt_of_le (by decide) hM) rfl dX7_next_248 (fun σ8 H locs eσ8 hw => ?_)
      replace h := h σ8 eσ8
      exact g_vret hc hr hw h dX7_next_251
    · replace h := h.2 c7
      refine lv_iconst (v := 5) hx hb dX7_next_243 (by decide) ?_
      refine lv_goto (tgt := 248) hx hb dX7_next_244 (by decide) ?_
      refine fp_X7_129 (o := 0) hc hw (Nat.lt_of_lt_of_le (by decide) hM) rfl dX7_next_248 (fun σ9 H locs eσ9 hw => ?_)
      replace h := h σ9 eσ9
      exact g_vret hc hr hw h dX7_next_251
  · replace h := h.2 c5
    refine lv_aload_n hx hb dX7_next_173 rfl (lv_at hl 0 rfl) ?_
    refine lv_aload_n hx hb dX7_next_174 rfl (lv_at hl 0 rfl) ?_
    refine fg_X7_114 hc hw (Nat.lt_of_lt_of_le (by decide) hM) rfl dX7_next_175 ?_
    refine lv_aload_n hx hb dX7_next_178 rfl (lv_at hl 0 rfl) ?_
    refine fg_X7_111 hc hw (Nat.lt_of_lt_of_le (by decide) hM) rfl dX7_next_179 ?_
    refine lv_isub hx hb dX7_next_182 ?_
    refine lv_topi (fun x10 ex10 => ?_)
    replace h := h x10 ex10
    refine lv_iconst (v := 4) hx hb dX7_next_183 (by decide) ?_
    refine lv_icmp_ge (tgt := 209) hx hb dX7_next_184 (by decide) (fun c11 => ?_) (fun c11 => ?_)
    · replace h := h.1 c11
      refine lv_aload_n hx hb dX7_next_209 rfl (lv_at hl 0 rfl) ?_
      refine fg_X7_139 hc hw (Nat.lt_of_lt_of_le (by decide) hM) rfl dX7_next_210 ?_
      exact b_X7_next_213 hM hk_159 (gi σ3 0 14) σ3 _ _ _ h  hc hr hw (lv_sub hl [0] rfl)
    · replace h := h.2 c11
      refine lv_bipush (v := 10) hx hb dX7_next_187 (by decide) ?_
      refine lv_aload_n hx hb dX7_next_189 rfl (lv_at hl 0 rfl) ?_
      refine fg_X7_139 hc hw (Nat.lt_of_lt_of_le (by decide) hM) rfl dX7_next_190 ?_
      refine lv_imul hx hb dX7_next_193 ?_
      refine lv_aload_n hx hb dX7_next_194 rfl (lv_at hl 0 rfl) ?_
      refine lv_aload_n hx hb dX7_next_195 rfl (lv_at hl 0 rfl) ?_
      refine fg_X7_114 hc hw (Nat.lt_of_lt_of_le (by decide) hM) rfl dX7_next_196 ?_
      refine g_Vi (Y := YM) (ci := 7) (n := 1) (k := 0) (As := [.int (gi σ3 0 12)]) (rest := [.int (10 * (gi σ3 0 14)), .ref (ad 0)]) rfl (by decide) vw_X7_125 ⟨Nat.le_of_ble_eq_true rfl, Nat.le_of_ble_eq_true rfl, Nat.zero_le _, Nat.zero_le _⟩ hc hw hl.1 (Nat.lt_of_lt_of_le (by decide) hM) rfl (m_X7_byteAt l hM (gi σ3 0 12) σ3 h) rfl rfl (Nat.le_of_ble_eq_true rfl) dX7_next_199 (fun r13 σ12 H locs h hw => ?_)
      refine lv_iadd hx hb dX7_next_202 ?_
      refine lv_bipush (v := 48) hx hb dX7_next_203 (by decide) ?_
      refine lv_isub hx hb dX7_next_205 ?_
      refine lv_topi (fun x14 ex14 => ?_)
      replace h := h x14 ex14
      refine lv_goto (tgt := 213) hx hb dX7_next_206 (by decide) ?_
      exact b_X7_next_213 hM hk_159 x14 σ12 _ _ _ h  hc hr hw (lv_sub hl [0] rfl)
def wl_X7_next_159 (M : Nat) (post : St → Prop) : Nat → St → Prop
  | 0, _ => False
  | n + 1, σ => w_X7_next_159 M post (wl_X7_next_159 M post n)  σ
set_option maxHeartbeats 4000000 in
theorem bl_X7_next_159 {Γ : Gm} {ad : Nat → Nat} {p : Program} {l : Launch} {e : Env} {s : State} {m : MethodId} {args : Array Value} {below : List Frame} {meth : Method} {c : Code} {M : Nat} (hM : 20 ≤ M) {post : St → Prop}
    (hc : CX Γ p s m args meth c cX7_next RX7 3) (hr : meth.sig.returnType = none) :
    ∀ (n : Nat)  (σ : St) (H : Heap) (locs : List Loc) (ls : Array Slot), wl_X7_next_159 M post n  σ → WH Γ YM M ad σ s H locs → lv_has ls 3 [(0, .ref (ad 0))] → W p l e (rmL 2 0 0) s m args below meth c H locs 0 0 (MQ below (va_Qv post (fun u t => WC Γ YM M ad u t) (AA Γ)) args s 0 0 (AA Γ)) (F0 m 159 ls []) := by
  intro n
  induction n with
  | zero => intro  σ H locs ls h; exact h.elim
  | succ n ih =>
    intro  σ H locs ls h  hw hl
    exact b_X7_next_159 hM ih  σ H locs ls h  hc hr hw hl
def w_X7_next_265 (M : Nat) (post : St → Prop) (v1 : Int32) (t0 : Int32) (σ : St) : Prop :=
  ∀ σ1 : St, σ1 = si σ 0 13 t0 → (∀ σ2 : St, σ2 = si σ1 0 14 v1 → (∀ σ3 : St, σ3 = si σ2 0 12 ((gi σ2 0 12) + 1) → (post σ3)))
set_option maxHeartbeats 4000000 in
set_option maxRecDepth 20000 in
theorem b_X7_next_265 {Γ : Gm} {ad : Nat → Nat} {p : Program} {l : Launch} {e : Env} {s : State} {m : MethodId} {args : Array Value} {below : List Frame} {meth : Method} {c : Code} {M : Nat} (hM : 20 ≤ M) {post : St → Prop}
    (v1 : Int32) (t0 : Int32) (σ : St) (H : Heap) (locs : List Loc) (ls : Array Slot) (h : w_X7_next_265 M post v1 t0 σ) (hc : CX Γ p s m args meth c cX7_next RX7 3) (hr : meth.sig.returnType = none) (hw : WH Γ YM M ad σ s H locs) (hl : lv_has ls 3 [(0, .ref (ad 0)), (1, .int v1)]) :
    W p l e (rmL 2 0 0) s m args below meth c H locs 0 0 (MQ below (va_Qv post (fun u t => WC Γ YM M ad u t) (AA Γ)) args s 0 0 (AA Γ)) (F0 m 265 ls [.int t0, .ref (ad 0)]) := by
  have hx := hc.1
  have hb := hc.2.1
  unfold w_X7_next_265 at h
  refine fp_X7_129 (o := 0) hc hw (Nat.lt_of_lt_of_le (by decide) hM) rfl dX7_next_265 (fun σ1 H locs eσ1 hw => ?_)
  replace h := h σ1 eσ1
  refine lv_aload_n hx hb dX7_next_268 rfl (lv_at hl 0 rfl) ?_
  refine lv_iload_n hx hb dX7_next_269 rfl (lv_at hl 1 rfl) ?_
  refine fp_X7_139 (o := 0) hc hw (Nat.lt_of_lt_of_le (by decide) hM) rfl dX7_next_270 (fun σ2 H locs eσ2 hw => ?_)
  replace h := h σ2 eσ2
  refine lv_aload_n hx hb dX7_next_273 rfl (lv_at hl 0 rfl) ?_
  refine lv_dup hx hb dX7_next_274 rfl ?_
  refine fg_X7_114 hc hw (Nat.lt_of_lt_of_le (by decide) hM) rfl dX7_next_275 ?_
  refine lv_iconst (v := 1) hx hb dX7_next_278 (by decide) ?_
  refine lv_iadd hx hb dX7_next_279 ?_
  refine fp_X7_114 (o := 0) hc hw (Nat.lt_of_lt_of_le (by decide) hM) rfl dX7_next_280 (fun σ3 H locs eσ3 hw => ?_)
  replace h := h σ3 eσ3
  exact g_vret hc hr hw h dX7_next_283
def w_X7_next_0 (M : Nat) (post : St → Prop) (k_0 : St → Prop)  (σ : St) : Prop :=
  w_X7_byteAt M (fun r2 σ1 => ((r2 = 32 → (∀ σ4 : St, σ4 = si σ1 0 12 ((gi σ1 0 12) + 1) → (k_0  σ4))) ∧ (¬ (r2 = 32) → (w_X7_byteAt M (fun r6 σ5 => ((r6 = 10 → (∀ σ23 : St, σ23 = si σ5 0 12 ((gi σ5 0 12) + 1) → (k_0  σ23))) ∧ (¬ (r6 = 10) → (∀ σ8 : St, σ8 = si σ5 0 11 (gi σ5 0 12) → (w_X7_byteAt M (fun r10 σ9 => ((0 ≤ r10 → (w_X7_isLetter M (fun r13 σ12 => ((r13 = 0 → (w_X7_isDigit M (fun r16 σ15 => ((r16 = 0 → (w_X7_isSignByte M (fun r19 σ18 => ((r19 = 0 → (w_X7_next_265 M post r10 5 σ18)) ∧ (¬ (r19 = 0) → (w_X7_next_265 M post r10 4 σ18)))) r10 σ15)) ∧ (¬ (r16 = 0) → (∀ σ21 : St, σ21 = si σ15 0 14 0 → (∃ n, wl_X7_next_159 M post n  σ21))))) r10 σ12)) ∧ (¬ (r13 = 0) → (∃ n, wl_X7_next_73 M post n  σ12)))) r10 σ9)) ∧ (¬ (0 ≤ r10) → (∀ σ22 : St, σ22 = si σ9 0 13 0 → (post σ22))))) (gi σ8 0 12) σ8))))) (gi σ1 0 12) σ1)))) (gi σ 0 12) σ
set_option maxHeartbeats 4000000 in
set_option maxRecDepth 20000 in
theorem b_X7_next_0 {Γ : Gm} {ad : Nat → Nat} {p : Program} {l : Launch} {e : Env} {s : State} {m : MethodId} {args : Array Value} {below : List Frame} {meth : Method} {c : Code} {M : Nat} (hM : 20 ≤ M) {post : St → Prop} {k_0 : St → Prop} (hk_0 : ∀  (σ : St) (H : Heap) (locs : List Loc) (ls : Array Slot), k_0  σ → WH Γ YM M ad σ s H locs → lv_has ls 3 [(0, .ref (ad 0))] → W p l e (rmL 2 0 0) s m args below meth c H locs 0 0 (MQ below (va_Qv post (fun u t => WC Γ YM M ad u t) (AA Γ)) args s 0 0 (AA Γ)) (F0 m 0 ls []))
     (σ : St) (H : Heap) (locs : List Loc) (ls : Array Slot) (h : w_X7_next_0 M post k_0  σ) (hc : CX Γ p s m args meth c cX7_next RX7 3) (hr : meth.sig.returnType = none) (hw : WH Γ YM M ad σ s H locs) (hl : lv_has ls 3 [(0, .ref (ad 0))]) :
    W p l e (rmL 2 0 0) s m args below meth c H locs 0 0 (MQ below (va_Qv post (fun u t => WC Γ YM M ad u t) (AA Γ)) args s 0 0 (AA Γ)) (F0 m 0 ls []) := by
  have hx := hc.1
  have hb := hc.2.1
  unfold w_X7_next_0 at h
  refine lv_aload_n hx hb dX7_next_0 rfl (lv_at hl 0 rfl) ?_
  refine lv_aload_n hx hb dX7_next_1 rfl (lv_at hl 0 rfl) ?_
  refine fg_X7_114 hc hw (Nat.lt_of_lt_of_le (by decide) hM) rfl dX7_next_2 ?_
  refine g_Vi (Y := YM) (ci := 7) (n := 1) (k := 0) (As := [.int (gi σ 0 12)]) (rest := []) rfl (by decide) vw_X7_125 ⟨Nat.le_of_ble_eq_true rfl, Nat.le_of_ble_eq_true rfl, Nat.zero_le _, Nat.zero_le _⟩ hc hw hl.1 (Nat.lt_of_lt_of_le (by decide) hM) rfl (m_X7_byteAt l hM (gi σ 0 12) σ h) rfl rfl (Nat.le_of_ble_eq_true rfl) dX7_next_5 (fun r2 σ1 H locs h hw => ?_)
  refine lv_bipush (v := 32) hx hb dX7_next_8 (by decide) ?_
  refine lv_icmp_eq (tgt := 26) hx hb dX7_next_10 (by decide) (fun c3 => ?_) (fun c3 => ?_)
  · replace h := h.1 c3
    refine lv_aload_n hx hb dX7_next_26 rfl (lv_at hl 0 rfl) ?_
    refine lv_dup hx hb dX7_next_27 rfl ?_
    refine fg_X7_114 hc hw (Nat.lt_of_lt_of_le (by decide) hM) rfl dX7_next_28 ?_
    refine lv_iconst (v := 1) hx hb dX7_next_31 (by decide) ?_
    refine lv_iadd hx hb dX7_next_32 ?_
    refine fp_X7_114 (o := 0) hc hw (Nat.lt_of_lt_of_le (by decide) hM) rfl dX7_next_33 (fun σ4 H locs eσ4 hw => ?_)
    replace h := h σ4 eσ4
    refine lv_goto (tgt := 0) hx hb dX7_next_36 (by decide) ?_
    exact hk_0  σ4 _ _ _ h  hw (lv_sub hl [0] rfl)
  · replace h := h.2 c3
    refine lv_aload_n hx hb dX7_next_13 rfl (lv_at hl 0 rfl) ?_
    refine lv_aload_n hx hb dX7_next_14 rfl (lv_at hl 0 rfl) ?_
    refine fg_X7_114 hc hw (Nat.lt_of_lt_of_le (by decide) hM) rfl dX7_next_15 ?_
    refine g_Vi (Y := YM) (ci := 7) (n := 1) (k := 0) (As := [.int (gi σ1 0 12)]) (rest := []) rfl (by decide) vw_X7_125 ⟨Nat.le_of_ble_eq_true rfl, Nat.le_of_ble_eq_true rfl, Nat.zero_le _, Nat.zero_le _⟩ hc hw hl.1 (Nat.lt_of_lt_of_le (by decide) hM) rfl (m_X7_byteAt l hM (gi σ1 0 12) σ1 h) rfl rfl (Nat.le_of_ble_eq_true rfl) dX7_next_18 (fun r6 σ5 H locs h hw => ?_)
    refine lv_bipush (v := 10) hx hb dX7_next_21 (by decide) ?_
    refine lv_icmp_ne (tgt := 39) hx hb dX7_next_23 (by decide) (fun c7 => ?_) (fun c7 => ?_)
    · replace h := h.2 c7
      refine lv_aload_n hx hb dX7_next_39 rfl (lv_at hl 0 rfl) ?_
      refine lv_aload_n hx hb dX7_next_40 rfl (lv_at hl 0 rfl) ?_
      refine fg_X7_114 hc hw (Nat.lt_of_lt_of_le (by decide) hM) rfl dX7_next_41 ?_
      refine fp_X7_111 (o := 0) hc hw (Nat.lt_of_lt_of_le (by decide) hM) rfl dX7_next_44 (fun σ8 H locs eσ8 hw => ?_)
      replace h := h σ8 eσ8
      refine lv_aload_n hx hb dX7_next_47 rfl (lv_at hl 0 rfl) ?_
      refine lv_aload_n hx hb dX7_next_48 rfl (lv_at hl 0 rfl) ?_
      refine fg_X7_114 hc hw (Nat.lt_of_lt_of_le (by decide) hM) rfl dX7_next_49 ?_
      refine g_Vi (Y := YM) (ci := 7) (n := 1) (k := 0) (As := [.int (gi σ8 0 12)]) (rest := []) rfl (by decide) vw_X7_125 ⟨Nat.le_of_ble_eq_true rfl, Nat.le_of_ble_eq_true rfl, Nat.zero_le _, Nat.zero_le _⟩ hc hw hl.1 (Nat.lt_of_lt_of_le (by decide) hM) rfl (m_X7_byteAt l hM (gi σ8 0 12) σ8 h) rfl rfl (Nat.le_of_ble_eq_true rfl) dX7_next_52 (fun r10 σ9 H locs h hw => ?_)
      refine lv_istore_n (lv' := [(1, .int r10), (0, .ref (ad 0))]) hx hb dX7_next_55 rfl hl (by decide) rfl (fun ls hl => ?_)
      refine lv_iload_n hx hb dX7_next_56 rfl (lv_at hl 0 rfl) ?_
      refine lv_if_ge (tgt := 66) hx hb dX7_next_57 (by decide) (fun c11 => ?_) (fun c11 => ?_)
      · replace h := h.1 c11
        refine lv_iload_n hx hb dX7_next_66 rfl (lv_at hl 0 rfl) ?_
        refine g_Si (Y := YM) (n := 1) (k := 1) (As := [.int r10]) (rest := []) vw_X7_132 ⟨Nat.le_of_ble_eq_true rfl, Nat.le_of_ble_eq_true rfl, Nat.zero_le _, Nat.zero_le _⟩ hc hw hl.1 (m_X7_isLetter l hM r10 σ9 h) rfl rfl (Nat.le_of_ble_eq_true rfl) dX7_next_67 (fun r13 σ12 H locs h hw => ?_)
        refine lv_if_eq (tgt := 147) hx hb dX7_next_70 (by decide) (fun c14 => ?_) (fun c14 => ?_)
        · replace h := h.1 c14
          refine lv_iload_n hx hb dX7_next_147 rfl (lv_at hl 0 rfl) ?_
          refine g_Si (Y := YM) (n := 1) (k := 1) (As := [.int r10]) (rest := []) vw_X7_142 ⟨Nat.le_of_ble_eq_true rfl, Nat.le_of_ble_eq_true rfl, Nat.zero_le _, Nat.zero_le _⟩ hc hw hl.1 (m_X7_isDigit l hM r10 σ12 h) rfl rfl (Nat.le_of_ble_eq_true rfl) dX7_next_148 (fun r16 σ15 H locs h hw => ?_)
          refine lv_if_eq (tgt := 252) hx hb dX7_next_151 (by decide) (fun c17 => ?_) (fun c17 => ?_)
          · replace h := h.1 c17
            refine lv_aload_n hx hb dX7_next_252 rfl (lv_at hl 1 rfl) ?_
            refine lv_iload_n hx hb dX7_next_253 rfl (lv_at hl 0 rfl) ?_
            refine g_Si (Y := YM) (n := 1) (k := 0) (As := [.int r10]) (rest := [.ref (ad 0)]) vw_X7_145 ⟨Nat.le_of_ble_eq_true rfl, Nat.le_of_ble_eq_true rfl, Nat.zero_le _, Nat.zero_le _⟩ hc hw hl.1 (m_X7_isSignByte l hM r10 σ15 h) rfl rfl (Nat.le_of_ble_eq_true rfl) dX7_next_254 (fun r19 σ18 H locs h hw => ?_)
            refine lv_if_eq (tgt := 264) hx hb dX7_next_257 (by decide) (fun c20 => ?_) (fun c20 => ?_)
            · replace h := h.1 c20
              refine lv_iconst (v := 5) hx hb dX7_next_264 (by decide) ?_
              exact b_X7_next_265 hM r10 5 σ18 _ _ _ h  hc hr hw (lv_sub hl [1, 0] rfl)
            · replace h := h.2 c20
              refine lv_iconst (v := 4) hx hb dX7_next_260 (by decide) ?_
              refine lv_goto (tgt := 265) hx hb dX7_next_261 (by decide) ?_
              exact b_X7_next_265 hM r10 4 σ18 _ _ _ h  hc hr hw (lv_sub hl [1, 0] rfl)
          · replace h := h.2 c17
            refine lv_aload_n hx hb dX7_next_154 rfl (lv_at hl 1 rfl) ?_
            refine lv_iconst (v := 0) hx hb dX7_next_155 (by decide) ?_
            refine fp_X7_139 (o := 0) hc hw (Nat.lt_of_lt_of_le (by decide) hM) rfl dX7_next_156 (fun σ21 H locs eσ21 hw => ?_)
            replace h := h σ21 eσ21
            obtain ⟨n, h⟩ := h
            exact bl_X7_next_159 hM hc hr n  σ21 _ _ _ h  hw (lv_sub hl [1] rfl)
        · replace h := h.2 c14
          obtain ⟨n, h⟩ := h
          exact bl_X7_next_73 hM hc hr n  σ12 _ _ _ h  hw (lv_sub hl [1] rfl)
      · replace h := h.2 c11
        refine lv_aload_n hx hb dX7_next_60 rfl (lv_at hl 1 rfl) ?_
        refine lv_iconst (v := 0) hx hb dX7_next_61 (by decide) ?_
        refine fp_X7_129 (o := 0) hc hw (Nat.lt_of_lt_of_le (by decide) hM) rfl dX7_next_62 (fun σ22 H locs eσ22 hw => ?_)
        replace h := h σ22 eσ22
        exact g_vret hc hr hw h dX7_next_65
    · replace h := h.1 c7
      refine lv_aload_n hx hb dX7_next_26 rfl (lv_at hl 0 rfl) ?_
      refine lv_dup hx hb dX7_next_27 rfl ?_
      refine fg_X7_114 hc hw (Nat.lt_of_lt_of_le (by decide) hM) rfl dX7_next_28 ?_
      refine lv_iconst (v := 1) hx hb dX7_next_31 (by decide) ?_
      refine lv_iadd hx hb dX7_next_32 ?_
      refine fp_X7_114 (o := 0) hc hw (Nat.lt_of_lt_of_le (by decide) hM) rfl dX7_next_33 (fun σ23 H locs eσ23 hw => ?_)
      replace h := h σ23 eσ23
      refine lv_goto (tgt := 0) hx hb dX7_next_36 (by decide) ?_
      exact hk_0  σ23 _ _ _ h  hw (lv_sub hl [0] rfl)
def wl_X7_next_0 (M : Nat) (post : St → Prop) : Nat → St → Prop
  | 0, _ => False
  | n + 1, σ => w_X7_next_0 M post (wl_X7_next_0 M post n)  σ
set_option maxHeartbeats 4000000 in
theorem bl_X7_next_0 {Γ : Gm} {ad : Nat → Nat} {p : Program} {l : Launch} {e : Env} {s : State} {m : MethodId} {args : Array Value} {below : List Frame} {meth : Method} {c : Code} {M : Nat} (hM : 20 ≤ M) {post : St → Prop}
    (hc : CX Γ p s m args meth c cX7_next RX7 3) (hr : meth.sig.returnType = none) :
    ∀ (n : Nat)  (σ : St) (H : Heap) (locs : List Loc) (ls : Array Slot), wl_X7_next_0 M post n  σ → WH Γ YM M ad σ s H locs → lv_has ls 3 [(0, .ref (ad 0))] → W p l e (rmL 2 0 0) s m args below meth c H locs 0 0 (MQ below (va_Qv post (fun u t => WC Γ YM M ad u t) (AA Γ)) args s 0 0 (AA Γ)) (F0 m 0 ls []) := by
  intro n
  induction n with
  | zero => intro  σ H locs ls h; exact h.elim
  | succ n ih =>
    intro  σ H locs ls h  hw hl
    exact b_X7_next_0 hM ih  σ H locs ls h  hc hr hw hl
def w_X7_next (M : Nat) (post : St → Prop)  (σ : St) : Prop :=
  ∃ n, wl_X7_next_0 M post n  σ
set_option maxHeartbeats 4000000 in
set_option maxRecDepth 20000 in
theorem m_X7_next {Γ : Gm} {ad : Nat → Nat} {M : Nat} (l : Launch) (hM : 20 ≤ M) {post : St → Prop}  (σ : St) (h : w_X7_next M post  σ) : Cv l Γ YM M ad σ yX7_next cX7_next 3 none 2 0 0 [.ref (ad 0)] post := by
  refine g_start (by decide) (Nat.le_of_ble_eq_true rfl) ?_
  intro p e s m args below meth c ls hc hr hn hl hw
  have hc : CX Γ p s m args meth c cX7_next RX7 3 := hc
  have hl : lv_has ls 3 [(0, .ref (ad 0))] := hl
  have hx := hc.1
  have hb := hc.2.1
  unfold w_X7_next at h
  generalize hHH : s.heap = H0 at hw ⊢
  obtain ⟨n, h⟩ := h
  exact bl_X7_next_0 hM hc hr n  σ _ _ _ h  hw (lv_sub hl [0] rfl)
def w_X7_actTold (M : Nat) (post : Int32 → St → Prop) (a1 : Int32) (a2 : Int32) (σ : St) : Prop :=
  w_X7_isAct M (fun r2 σ1 => ((r2 = 0 → (post (-5) σ1)) ∧ (¬ (r2 = 0) → ((a2 = 0 → ((vp_in a1 12) ∧ (post (gi σ1 10 a1.toNatClampNeg) σ1))) ∧ (¬ (a2 = 0) → ((a2 = 1 → ((vp_in a1 12) ∧ (post (gi σ1 11 a1.toNatClampNeg) σ1))) ∧ (¬ (a2 = 1) → ((a2 = 2 → ((vp_in a1 12) ∧ (post (gi σ1 12 a1.toNatClampNeg) σ1))) ∧ (¬ (a2 = 2) → ((a2 = 3 → ((vp_in a1 12) ∧ ((vp_in a1 12) ∧ (w_X7_minutesOf M (fun r9 σ8 => (post r9 σ8)) (gi σ1 10 a1.toNatClampNeg) (gi σ1 11 a1.toNatClampNeg) σ1)))) ∧ (¬ (a2 = 3) → ((a2 = 4 → ((vp_in a1 12) ∧ (((gi σ1 10 a1.toNatClampNeg) = 0 → (post 0 σ1)) ∧ (¬ ((gi σ1 10 a1.toNatClampNeg) = 0) → (post 1 σ1))))) ∧ (¬ (a2 = 4) → (post (-7) σ1)))))))))))))) a1 σ
set_option maxHeartbeats 4000000 in
set_option maxRecDepth 20000 in
theorem m_X7_actTold {Γ : Gm} {ad : Nat → Nat} {M : Nat} (l : Launch) (hM : 20 ≤ M) {post : Int32 → St → Prop} (a1 : Int32) (a2 : Int32) (σ : St) (h : w_X7_actTold M post a1 a2 σ) : Ci l Γ YM M ad σ yX7_actTold cX7_actTold 3 (Option.some Jvm.ClassFile.FieldType.int) 2 0 0 [.ref (ad 0), .int a1, .int a2] post := by
  refine g_start (by decide) (Nat.le_of_ble_eq_true rfl) ?_
  intro p e s m args below meth c ls hc hr hn hl hw
  have hc : CX Γ p s m args meth c cX7_actTold RX7 3 := hc
  have hl : lv_has ls 3 [(0, .ref (ad 0)), (1, .int a1), (2, .int a2)] := hl
  have hx := hc.1
  have hb := hc.2.1
  unfold w_X7_actTold at h
  generalize hHH : s.heap = H0 at hw ⊢
  refine lv_aload_n hx hb dX7_actTold_0 rfl (lv_at hl 0 rfl) ?_
  refine lv_iload_n hx hb dX7_actTold_1 rfl (lv_at hl 1 rfl) ?_
  refine g_Vi (Y := YM) (ci := 7) (n := 1) (k := 1) (As := [.int a1]) (rest := []) rfl (by decide) vw_X7_207 ⟨Nat.le_of_ble_eq_true rfl, Nat.le_of_ble_eq_true rfl, Nat.zero_le _, Nat.zero_le _⟩ hc hw hl.1 (Nat.lt_of_lt_of_le (by decide) hM) rfl (m_X7_isAct l hM a1 σ h) rfl rfl (Nat.le_of_ble_eq_true rfl) dX7_actTold_2 (fun r2 σ1 H locs h hw => ?_)
  refine lv_if_ne (tgt := 11) hx hb dX7_actTold_5 (by decide) (fun c3 => ?_) (fun c3 => ?_)
  · replace h := h.2 c3
    refine lv_iload_n hx hb dX7_actTold_11 rfl (lv_at hl 2 rfl) ?_
    by_cases c4 : a2 = 0
    · replace h := h.1 c4
      refine lv_tableIn (off := 36) (tgt := 48) hx hb dX7_actTold_12 (by rw [c4]; decide) (by rw [c4]; decide) (by rw [c4]; rfl) (by decide) ?_
      refine lv_aload_n hx hb dX7_actTold_48 rfl (lv_at hl 0 rfl) ?_
      refine fg_X7_38 hc hw (Nat.lt_of_lt_of_le (by decide) hM) rfl dX7_actTold_49 ?_
      refine lv_iload_n hx hb dX7_actTold_52 rfl (lv_at hl 1 rfl) ?_
      refine g_ialdK (Y := YM) (kd := 30) (n := 12) (k := a1.toNatClampNeg) (o := 10) (by decide) (by decide) rfl hc hw (Nat.lt_of_lt_of_le (by decide) hM) rfl rfl h.1 rfl dX7_actTold_53 ?_
      replace h := h.2
      exact g_iret hc hr hw h dX7_actTold_54
    replace h := h.2 c4
    by_cases c5 : a2 = 1
    · replace h := h.1 c5
      refine lv_tableIn (off := 43) (tgt := 55) hx hb dX7_actTold_12 (by rw [c5]; decide) (by rw [c5]; decide) (by rw [c5]; rfl) (by decide) ?_
      refine lv_aload_n hx hb dX7_actTold_55 rfl (lv_at hl 0 rfl) ?_
      refine fg_X7_41 hc hw (Nat.lt_of_lt_of_le (by decide) hM) rfl dX7_actTold_56 ?_
      refine lv_iload_n hx hb dX7_actTold_59 rfl (lv_at hl 1 rfl) ?_
      refine g_ialdK (Y := YM) (kd := 31) (n := 12) (k := a1.toNatClampNeg) (o := 11) (by decide) (by decide) rfl hc hw (Nat.lt_of_lt_of_le (by decide) hM) rfl rfl h.1 rfl dX7_actTold_60 ?_
      replace h := h.2
      exact g_iret hc hr hw h dX7_actTold_61
    replace h := h.2 c5
    by_cases c6 : a2 = 2
    · replace h := h.1 c6
      refine lv_tableIn (off := 50) (tgt := 62) hx hb dX7_actTold_12 (by rw [c6]; decide) (by rw [c6]; decide) (by rw [c6]; rfl) (by decide) ?_
      refine lv_aload_n hx hb dX7_actTold_62 rfl (lv_at hl 0 rfl) ?_
      refine fg_X7_44 hc hw (Nat.lt_of_lt_of_le (by decide) hM) rfl dX7_actTold_63 ?_
      refine lv_iload_n hx hb dX7_actTold_66 rfl (lv_at hl 1 rfl) ?_
      refine g_ialdK (Y := YM) (kd := 32) (n := 12) (k := a1.toNatClampNeg) (o := 12) (by decide) (by decide) rfl hc hw (Nat.lt_of_lt_of_le (by decide) hM) rfl rfl h.1 rfl dX7_actTold_67 ?_
      replace h := h.2
      exact g_iret hc hr hw h dX7_actTold_68
    replace h := h.2 c6
    by_cases c7 : a2 = 3
    · replace h := h.1 c7
      refine lv_tableIn (off := 57) (tgt := 69) hx hb dX7_actTold_12 (by rw [c7]; decide) (by rw [c7]; decide) (by rw [c7]; rfl) (by decide) ?_
      refine lv_aload_n hx hb dX7_actTold_69 rfl (lv_at hl 0 rfl) ?_
      refine fg_X7_38 hc hw (Nat.lt_of_lt_of_le (by decide) hM) rfl dX7_actTold_70 ?_
      refine lv_iload_n hx hb dX7_actTold_73 rfl (lv_at hl 1 rfl) ?_
      refine g_ialdK (Y := YM) (kd := 30) (n := 12) (k := a1.toNatClampNeg) (o := 10) (by decide) (by decide) rfl hc hw (Nat.lt_of_lt_of_le (by decide) hM) rfl rfl h.1 rfl dX7_actTold_74 ?_
      replace h := h.2
      refine lv_aload_n hx hb dX7_actTold_75 rfl (lv_at hl 0 rfl) ?_
      refine fg_X7_41 hc hw (Nat.lt_of_lt_of_le (by decide) hM) rfl dX7_actTold_76 ?_
      refine lv_iload_n hx hb dX7_actTold_79 rfl (lv_at hl 1 rfl) ?_
      refine g_ialdK (Y := YM) (kd := 31) (n := 12) (k := a1.toNatClampNeg) (o := 11) (by decide) (by decide) rfl hc hw (Nat.lt_of_lt_of_le (by decide) hM) rfl rfl h.1 rfl dX7_actTold_80 ?_
      replace h := h.2
      refine g_Si (Y := YM) (n := 2) (k := 0) (As := [.int (gi σ1 10 a1.toNatClampNeg), .int (gi σ1 11 a1.toNatClampNeg)]) (rest := []) vw_X7_210 ⟨Nat.le_of_ble_eq_true rfl, Nat.le_of_ble_eq_true rfl, Nat.zero_le _, Nat.zero_le _⟩ hc hw hl.1 (m_X7_minutesOf l hM (gi σ1 10 a1.toNatClampNeg) (gi σ1 11 a1.toNatClampNeg) σ1 h) rfl rfl (Nat.le_of_ble_eq_true rfl) dX7_actTold_81 (fun r9 σ8 H locs h hw => ?_)
      exact g_iret hc hr hw h dX7_actTold_84
    replace h := h.2 c7
    by_cases c10 : a2 = 4
    · replace h := h.1 c10
      refine lv_tableIn (off := 73) (tgt := 85) hx hb dX7_actTold_12 (by rw [c10]; decide) (by rw [c10]; decide) (by rw [c10]; rfl) (by decide) ?_
      refine lv_aload_n hx hb dX7_actTold_85 rfl (lv_at hl 0 rfl) ?_
      refine fg_X7_38 hc hw (Nat.lt_of_lt_of_le (by decide) hM) rfl dX7_actTold_86 ?_
      refine lv_iload_n hx hb dX7_actTold_89 rfl (lv_at hl 1 rfl) ?_
      refine g_ialdK (Y := YM) (kd := 30) (n := 12) (k := a1.toNatClampNeg) (o := 10) (by decide) (by decide) rfl hc hw (Nat.lt_of_lt_of_le (by decide) hM) rfl rfl h.1 rfl dX7_actTold_90 ?_
      replace h := h.2
      refine lv_if_ne (tgt := 98) hx hb dX7_actTold_91 (by decide) (fun c11 => ?_) (fun c11 => ?_)
      · replace h := h.2 c11
        refine lv_iconst (v := 1) hx hb dX7_actTold_98 (by decide) ?_
        exact g_iret hc hr hw h dX7_actTold_99
      · replace h := h.1 c11
        refine lv_iconst (v := 0) hx hb dX7_actTold_94 (by decide) ?_
        refine lv_goto (tgt := 99) hx hb dX7_actTold_95 (by decide) ?_
        exact g_iret hc hr hw h dX7_actTold_99
    replace h := h.2 c10
    refine lv_tableOut (tgt := 100) hx hb dX7_actTold_12 (by have zc4 := lv_neT (a := 0) c4 (by decide); have zc5 := lv_neT (a := 1) c5 (by decide); have zc6 := lv_neT (a := 2) c6 (by decide); have zc7 := lv_neT (a := 3) c7 (by decide); have zc10 := lv_neT (a := 4) c10 (by decide); omega) (by decide) ?_
    refine lv_bipush (v := (-7)) hx hb dX7_actTold_100 (by decide) ?_
    exact g_iret hc hr hw h dX7_actTold_102
  · replace h := h.1 c3
    refine lv_bipush (v := (-5)) hx hb dX7_actTold_8 (by decide) ?_
    exact g_iret hc hr hw h dX7_actTold_10
def w_X7_minute_217 (M : Nat) (post : St → Prop)  (σ : St) : Prop :=
  (((gi σ 13 8) / 40) ≤ (gi σ 13 5) → (∀ x2 : Int32, x2 = (gi σ 13 5) - ((gi σ 13 8) / 40) → (∀ σ3 : St, σ3 = si σ 13 5 x2 → (post σ3)))) ∧ (¬ (((gi σ 13 8) / 40) ≤ (gi σ 13 5)) → (∀ σ4 : St, σ4 = si σ 13 5 0 → (post σ4)))
set_option maxHeartbeats 4000000 in
set_option maxRecDepth 20000 in
theorem b_X7_minute_217 {Γ : Gm} {ad : Nat → Nat} {p : Program} {l : Launch} {e : Env} {s : State} {m : MethodId} {args : Array Value} {below : List Frame} {meth : Method} {c : Code} {M : Nat} (hM : 20 ≤ M) {post : St → Prop}
     (σ : St) (H : Heap) (locs : List Loc) (ls : Array Slot) (h : w_X7_minute_217 M post  σ) (hc : CX Γ p s m args meth c cX7_minute RX7 7) (hr : meth.sig.returnType = none) (hw : WH Γ YM M ad σ s H locs) (hl : lv_has ls 7 [(0, .ref (ad 0))]) :
    W p l e (rmL 2 0 0) s m args below meth c H locs 0 0 (MQ below (va_Qv post (fun u t => WC Γ YM M ad u t) (AA Γ)) args s 0 0 (AA Γ)) (F0 m 217 ls []) := by
  have hx := hc.1
  have hb := hc.2.1
  unfold w_X7_minute_217 at h
  refine lv_aload_n hx hb dX7_minute_217 rfl (lv_at hl 0 rfl) ?_
  refine fg_X7_47 hc hw (Nat.lt_of_lt_of_le (by decide) hM) rfl dX7_minute_218 ?_
  refine lv_bipush (v := 8) hx hb dX7_minute_221 (by decide) ?_
  refine g_ialdK (Y := YM) (kd := 33) (n := 14) (k := 8) (o := 13) (by decide) (by decide) rfl hc hw (Nat.lt_of_lt_of_le (by decide) hM) rfl rfl (vp_in_lit (by decide)) (by decide) dX7_minute_223 ?_
  refine lv_bipush (v := 40) hx hb dX7_minute_224 (by decide) ?_
  refine lv_idiv hx hb dX7_minute_226 (by decide) ?_
  refine lv_istore (lv' := [(6, .int ((gi σ 13 8) / 40)), (0, .ref (ad 0))]) hx hb dX7_minute_227 hl (by decide) rfl (fun ls hl => ?_)
  refine lv_aload_n hx hb dX7_minute_229 rfl (lv_at hl 1 rfl) ?_
  refine fg_X7_47 hc hw (Nat.lt_of_lt_of_le (by decide) hM) rfl dX7_minute_230 ?_
  refine lv_iconst (v := 5) hx hb dX7_minute_233 (by decide) ?_
  refine lv_aload_n hx hb dX7_minute_234 rfl (lv_at hl 1 rfl) ?_
  refine fg_X7_47 hc hw (Nat.lt_of_lt_of_le (by decide) hM) rfl dX7_minute_235 ?_
  refine lv_iconst (v := 5) hx hb dX7_minute_238 (by decide) ?_
  refine g_ialdK (Y := YM) (kd := 33) (n := 14) (k := 5) (o := 13) (by decide) (by decide) rfl hc hw (Nat.lt_of_lt_of_le (by decide) hM) rfl rfl (vp_in_lit (by decide)) (by decide) dX7_minute_239 ?_
  refine lv_iload hx hb dX7_minute_240 (lv_at hl 0 rfl) ?_
  refine lv_icmp_ge (tgt := 249) hx hb dX7_minute_242 (by decide) (fun c1 => ?_) (fun c1 => ?_)
  · replace h := h.1 c1
    refine lv_aload_n hx hb dX7_minute_249 rfl (lv_at hl 1 rfl) ?_
    refine fg_X7_47 hc hw (Nat.lt_of_lt_of_le (by decide) hM) rfl dX7_minute_250 ?_
    refine lv_iconst (v := 5) hx hb dX7_minute_253 (by decide) ?_
    refine g_ialdK (Y := YM) (kd := 33) (n := 14) (k := 5) (o := 13) (by decide) (by decide) rfl hc hw (Nat.lt_of_lt_of_le (by decide) hM) rfl rfl (vp_in_lit (by decide)) (by decide) dX7_minute_254 ?_
    refine lv_iload hx hb dX7_minute_255 (lv_at hl 0 rfl) ?_
    refine lv_isub hx hb dX7_minute_257 ?_
    refine lv_topi (fun x2 ex2 => ?_)
    replace h := h x2 ex2
    refine g_iastK (Y := YM) (kd := 33) (n := 14) (k := 5) (o := 13) YM_ok (by decide) (by decide) rfl hc hw (Nat.lt_of_lt_of_le (by decide) hM) rfl rfl (vp_in_lit (by decide)) (by decide) dX7_minute_258 (fun σ3 H locs eσ3 hw => ?_)
    replace h := h σ3 eσ3
    exact g_vret hc hr hw h dX7_minute_259
  · replace h := h.2 c1
    refine lv_iconst (v := 0) hx hb dX7_minute_245 (by decide) ?_
    refine lv_goto (tgt := 258) hx hb dX7_minute_246 (by decide) ?_
    refine g_iastK (Y := YM) (kd := 33) (n := 14) (k := 5) (o := 13) YM_ok (by decide) (by decide) rfl hc hw (Nat.lt_of_lt_of_le (by decide) hM) rfl rfl (vp_in_lit (by decide)) (by decide) dX7_minute_258 (fun σ4 H locs eσ4 hw => ?_)
    replace h := h σ4 eσ4
    exact g_vret hc hr hw h dX7_minute_259
def w_X7_minute (M : Nat) (post : St → Prop) (a1 : Int32) (σ : St) : Prop :=
  ∀ σ1 : St, σ1 = si σ 13 9 ((gi σ 13 9) + 1) → (∀ x2 : Int32, x2 = (12 * (gi σ1 13 13)) - (gi σ1 13 8) → (w_X7_drawsHeat M (fun r4 σ3 => (∀ x5 : Int32, x5 = ((gi σ1 13 8) + (x2 / 3)) + r4 → (w_X7_held M (fun r7 σ6 => (∀ σ8 : St, σ8 = si σ6 13 8 r7 → (w_X7_work M (fun r10 σ9 => (w_X7_work M (fun r12 σ11 => (∀ x13 : Int32, x13 = ((gi σ11 13 0) * r10) / 100 → (∀ x14 : Int32, x14 = ((gi σ11 13 2) * r12) / 100 → (∀ σ15 : St, σ15 = si σ11 13 0 ((gi σ11 13 0) - x13) → (∀ σ16 : St, σ16 = si σ15 13 1 ((gi σ15 13 1) + x13) → (∀ σ17 : St, σ17 = si σ16 13 2 ((gi σ16 13 2) - x14) → ((a1 = 0 → (∀ x19 : Int32, x19 = (gi σ17 13 3) - ((gi σ17 13 3) / 2) → (∀ σ20 : St, σ20 = si σ17 13 3 x19 → (∀ x21 : Int32, x21 = (gi σ20 13 4) + (x14 + ((gi σ17 13 3) / 2)) → (∀ σ22 : St, σ22 = si σ20 13 4 x21 → (((gi σ22 13 8) ≤ 60 → (∀ σ24 : St, σ24 = si σ22 13 10 ((gi σ22 13 10) + 0) → (w_X7_minute_217 M post  σ24))) ∧ (¬ ((gi σ22 13 8) ≤ 60) → (∀ x25 : Int32, x25 = (gi σ22 13 10) + (1 + ((gi σ22 13 0) / 50)) → (∀ σ26 : St, σ26 = si σ22 13 10 x25 → (w_X7_minute_217 M post  σ26)))))))))) ∧ (¬ (a1 = 0) → (∀ σ27 : St, σ27 = si σ17 13 3 ((gi σ17 13 3) + x14) → (w_X7_minute_217 M post  σ27)))))))))) 1 σ9)) 0 σ8))) x5 120 σ3))) σ1))
set_option maxHeartbeats 4000000 in
set_option maxRecDepth 20000 in
theorem m_X7_minute {Γ : Gm} {ad : Nat → Nat} {M : Nat} (l : Launch) (hM : 20 ≤ M) {post : St → Prop} (a1 : Int32) (σ : St) (h : w_X7_minute M post a1 σ) : Cv l Γ YM M ad σ yX7_minute cX7_minute 7 none 2 0 0 [.ref (ad 0), .int a1] post := by
  refine g_start (by decide) (Nat.le_of_ble_eq_true rfl) ?_
  intro p e s m args below meth c ls hc hr hn hl hw
  have hc : CX Γ p s m args meth c cX7_minute RX7 7 := hc
  have hl : lv_has ls 7 [(0, .ref (ad 0)), (1, .int a1)] := hl
  have hx := hc.1
  have hb := hc.2.1
  unfold w_X7_minute at h
  generalize hHH : s.heap = H0 at hw ⊢
  refine lv_aload_n hx hb dX7_minute_0 rfl (lv_at hl 0 rfl) ?_
  refine fg_X7_47 hc hw (Nat.lt_of_lt_of_le (by decide) hM) rfl dX7_minute_1 ?_
  refine lv_bipush (v := 9) hx hb dX7_minute_4 (by decide) ?_
  refine lv_dup2_11 hx hb dX7_minute_6 rfl rfl ?_
  refine g_ialdK (Y := YM) (kd := 33) (n := 14) (k := 9) (o := 13) (by decide) (by decide) rfl hc hw (Nat.lt_of_lt_of_le (by decide) hM) rfl rfl (vp_in_lit (by decide)) (by decide) dX7_minute_7 ?_
  refine lv_iconst (v := 1) hx hb dX7_minute_8 (by decide) ?_
  refine lv_iadd hx hb dX7_minute_9 ?_
  refine g_iastK (Y := YM) (kd := 33) (n := 14) (k := 9) (o := 13) YM_ok (by decide) (by decide) rfl hc hw (Nat.lt_of_lt_of_le (by decide) hM) rfl rfl (vp_in_lit (by decide)) (by decide) dX7_minute_10 (fun σ1 H locs eσ1 hw => ?_)
  replace h := h σ1 eσ1
  refine lv_aload_n hx hb dX7_minute_11 rfl (lv_at hl 0 rfl) ?_
  refine fg_X7_47 hc hw (Nat.lt_of_lt_of_le (by decide) hM) rfl dX7_minute_12 ?_
  refine lv_bipush (v := 8) hx hb dX7_minute_15 (by decide) ?_
  refine lv_aload_n hx hb dX7_minute_17 rfl (lv_at hl 0 rfl) ?_
  refine fg_X7_47 hc hw (Nat.lt_of_lt_of_le (by decide) hM) rfl dX7_minute_18 ?_
  refine lv_bipush (v := 8) hx hb dX7_minute_21 (by decide) ?_
  refine g_ialdK (Y := YM) (kd := 33) (n := 14) (k := 8) (o := 13) (by decide) (by decide) rfl hc hw (Nat.lt_of_lt_of_le (by decide) hM) rfl rfl (vp_in_lit (by decide)) (by decide) dX7_minute_23 ?_
  refine lv_bipush (v := 12) hx hb dX7_minute_24 (by decide) ?_
  refine lv_aload_n hx hb dX7_minute_26 rfl (lv_at hl 0 rfl) ?_
  refine fg_X7_47 hc hw (Nat.lt_of_lt_of_le (by decide) hM) rfl dX7_minute_27 ?_
  refine lv_bipush (v := 13) hx hb dX7_minute_30 (by decide) ?_
  refine g_ialdK (Y := YM) (kd := 33) (n := 14) (k := 13) (o := 13) (by decide) (by decide) rfl hc hw (Nat.lt_of_lt_of_le (by decide) hM) rfl rfl (vp_in_lit (by decide)) (by decide) dX7_minute_32 ?_
  refine lv_imul hx hb dX7_minute_33 ?_
  refine lv_aload_n hx hb dX7_minute_34 rfl (lv_at hl 0 rfl) ?_
  refine fg_X7_47 hc hw (Nat.lt_of_lt_of_le (by decide) hM) rfl dX7_minute_35 ?_
  refine lv_bipush (v := 8) hx hb dX7_minute_38 (by decide) ?_
  refine g_ialdK (Y := YM) (kd := 33) (n := 14) (k := 8) (o := 13) (by decide) (by decide) rfl hc hw (Nat.lt_of_lt_of_le (by decide) hM) rfl rfl (vp_in_lit (by decide)) (by decide) dX7_minute_40 ?_
  refine lv_isub hx hb dX7_minute_41 ?_
  refine lv_topi (fun x2 ex2 => ?_)
  replace h := h x2 ex2
  refine lv_iconst (v := 3) hx hb dX7_minute_42 (by decide) ?_
  refine lv_idiv hx hb dX7_minute_43 (by decide) ?_
  refine lv_iadd hx hb dX7_minute_44 ?_
  refine lv_aload_n hx hb dX7_minute_45 rfl (lv_at hl 0 rfl) ?_
  refine g_Vi (Y := YM) (ci := 7) (n := 0) (k := 0) (As := []) (rest := [.int ((gi σ1 13 8) + (x2 / 3)), .int 8, .ref (ad 13)]) rfl (by decide) vw_X7_224 ⟨Nat.le_of_ble_eq_true rfl, Nat.le_of_ble_eq_true rfl, Nat.zero_le _, Nat.zero_le _⟩ hc hw hl.1 (Nat.lt_of_lt_of_le (by decide) hM) rfl (m_X7_drawsHeat l hM σ1 h) rfl rfl (Nat.le_of_ble_eq_true rfl) dX7_minute_46 (fun r4 σ3 H locs h hw => ?_)
  refine lv_iadd hx hb dX7_minute_49 ?_
  refine lv_topi (fun x5 ex5 => ?_)
  replace h := h x5 ex5
  refine lv_bipush (v := 120) hx hb dX7_minute_50 (by decide) ?_
  refine g_Si (Y := YM) (n := 2) (k := 0) (As := [.int x5, .int 120]) (rest := [.int 8, .ref (ad 13)]) vw_X7_203 ⟨Nat.le_of_ble_eq_true rfl, Nat.le_of_ble_eq_true rfl, Nat.zero_le _, Nat.zero_le _⟩ hc hw hl.1 (m_X7_held l hM x5 120 σ3 h) rfl rfl (Nat.le_of_ble_eq_true rfl) dX7_minute_52 (fun r7 σ6 H locs h hw => ?_)
  refine g_iastK (Y := YM) (kd := 33) (n := 14) (k := 8) (o := 13) YM_ok (by decide) (by decide) rfl hc hw (Nat.lt_of_lt_of_le (by decide) hM) rfl rfl (vp_in_lit (by decide)) (by decide) dX7_minute_55 (fun σ8 H locs eσ8 hw => ?_)
  replace h := h σ8 eσ8
  refine lv_aload_n hx hb dX7_minute_56 rfl (lv_at hl 0 rfl) ?_
  refine lv_iconst (v := 0) hx hb dX7_minute_57 (by decide) ?_
  refine g_Vi (Y := YM) (ci := 7) (n := 1) (k := 1) (As := [.int 0]) (rest := []) rfl (by decide) vw_X7_227 ⟨Nat.le_of_ble_eq_true rfl, Nat.le_of_ble_eq_true rfl, Nat.zero_le _, Nat.zero_le _⟩ hc hw hl.1 (Nat.lt_of_lt_of_le (by decide) hM) rfl (m_X7_work l hM 0 σ8 h) rfl rfl (Nat.le_of_ble_eq_true rfl) dX7_minute_58 (fun r10 σ9 H locs h hw => ?_)
  refine lv_istore_n (lv' := [(2, .int r10), (0, .ref (ad 0)), (1, .int a1)]) hx hb dX7_minute_61 rfl hl (by decide) rfl (fun ls hl => ?_)
  refine lv_aload_n hx hb dX7_minute_62 rfl (lv_at hl 1 rfl) ?_
  refine lv_iconst (v := 1) hx hb dX7_minute_63 (by decide) ?_
  refine g_Vi (Y := YM) (ci := 7) (n := 1) (k := 1) (As := [.int 1]) (rest := []) rfl (by decide) vw_X7_227 ⟨Nat.le_of_ble_eq_true rfl, Nat.le_of_ble_eq_true rfl, Nat.zero_le _, Nat.zero_le _⟩ hc hw hl.1 (Nat.lt_of_lt_of_le (by decide) hM) rfl (m_X7_work l hM 1 σ9 h) rfl rfl (Nat.le_of_ble_eq_true rfl) dX7_minute_64 (fun r12 σ11 H locs h hw => ?_)
  refine lv_istore_n (lv' := [(3, .int r12), (2, .int r10), (0, .ref (ad 0)), (1, .int a1)]) hx hb dX7_minute_67 rfl hl (by decide) rfl (fun ls hl => ?_)
  refine lv_aload_n hx hb dX7_minute_68 rfl (lv_at hl 2 rfl) ?_
  refine fg_X7_47 hc hw (Nat.lt_of_lt_of_le (by decide) hM) rfl dX7_minute_69 ?_
  refine lv_iconst (v := 0) hx hb dX7_minute_72 (by decide) ?_
  refine g_ialdK (Y := YM) (kd := 33) (n := 14) (k := 0) (o := 13) (by decide) (by decide) rfl hc hw (Nat.lt_of_lt_of_le (by decide) hM) rfl rfl (vp_in_lit (by decide)) (by decide) dX7_minute_73 ?_
  refine lv_iload_n hx hb dX7_minute_74 rfl (lv_at hl 1 rfl) ?_
  refine lv_imul hx hb dX7_minute_75 ?_
  refine lv_bipush (v := 100) hx hb dX7_minute_76 (by decide) ?_
  refine lv_idiv hx hb dX7_minute_78 (by decide) ?_
  refine lv_topi (fun x13 ex13 => ?_)
  replace h := h x13 ex13
  refine lv_istore (lv' := [(4, .int x13), (3, .int r12), (2, .int r10), (0, .ref (ad 0)), (1, .int a1)]) hx hb dX7_minute_79 hl (by decide) rfl (fun ls hl => ?_)
  refine lv_aload_n hx hb dX7_minute_81 rfl (lv_at hl 3 rfl) ?_
  refine fg_X7_47 hc hw (Nat.lt_of_lt_of_le (by decide) hM) rfl dX7_minute_82 ?_
  refine lv_iconst (v := 2) hx hb dX7_minute_85 (by decide) ?_
  refine g_ialdK (Y := YM) (kd := 33) (n := 14) (k := 2) (o := 13) (by decide) (by decide) rfl hc hw (Nat.lt_of_lt_of_le (by decide) hM) rfl rfl (vp_in_lit (by decide)) (by decide) dX7_minute_86 ?_
  refine lv_iload_n hx hb dX7_minute_87 rfl (lv_at hl 1 rfl) ?_
  refine lv_imul hx hb dX7_minute_88 ?_
  refine lv_bipush (v := 100) hx hb dX7_minute_89 (by decide) ?_
  refine lv_idiv hx hb dX7_minute_91 (by decide) ?_
  refine lv_topi (fun x14 ex14 => ?_)
  replace h := h x14 ex14
  refine lv_istore (lv' := [(5, .int x14), (4, .int x13), (3, .int r12), (2, .int r10), (0, .ref (ad 0)), (1, .int a1)]) hx hb dX7_minute_92 hl (by decide) rfl (fun ls hl => ?_)
  refine lv_aload_n hx hb dX7_minute_94 rfl (lv_at hl 4 rfl) ?_
  refine fg_X7_47 hc hw (Nat.lt_of_lt_of_le (by decide) hM) rfl dX7_minute_95 ?_
  refine lv_iconst (v := 0) hx hb dX7_minute_98 (by decide) ?_
  refine lv_dup2_11 hx hb dX7_minute_99 rfl rfl ?_
  refine g_ialdK (Y := YM) (kd := 33) (n := 14) (k := 0) (o := 13) (by decide) (by decide) rfl hc hw (Nat.lt_of_lt_of_le (by decide) hM) rfl rfl (vp_in_lit (by decide)) (by decide) dX7_minute_100 ?_
  refine lv_iload hx hb dX7_minute_101 (lv_at hl 1 rfl) ?_
  refine lv_isub hx hb dX7_minute_103 ?_
  refine g_iastK (Y := YM) (kd := 33) (n := 14) (k := 0) (o := 13) YM_ok (by decide) (by decide) rfl hc hw (Nat.lt_of_lt_of_le (by decide) hM) rfl rfl (vp_in_lit (by decide)) (by decide) dX7_minute_104 (fun σ15 H locs eσ15 hw => ?_)
  replace h := h σ15 eσ15
  refine lv_aload_n hx hb dX7_minute_105 rfl (lv_at hl 4 rfl) ?_
  refine fg_X7_47 hc hw (Nat.lt_of_lt_of_le (by decide) hM) rfl dX7_minute_106 ?_
  refine lv_iconst (v := 1) hx hb dX7_minute_109 (by decide) ?_
  refine lv_dup2_11 hx hb dX7_minute_110 rfl rfl ?_
  refine g_ialdK (Y := YM) (kd := 33) (n := 14) (k := 1) (o := 13) (by decide) (by decide) rfl hc hw (Nat.lt_of_lt_of_le (by decide) hM) rfl rfl (vp_in_lit (by decide)) (by decide) dX7_minute_111 ?_
  refine lv_iload hx hb dX7_minute_112 (lv_at hl 1 rfl) ?_
  refine lv_iadd hx hb dX7_minute_114 ?_
  refine g_iastK (Y := YM) (kd := 33) (n := 14) (k := 1) (o := 13) YM_ok (by decide) (by decide) rfl hc hw (Nat.lt_of_lt_of_le (by decide) hM) rfl rfl (vp_in_lit (by decide)) (by decide) dX7_minute_115 (fun σ16 H locs eσ16 hw => ?_)
  replace h := h σ16 eσ16
  refine lv_aload_n hx hb dX7_minute_116 rfl (lv_at hl 4 rfl) ?_
  refine fg_X7_47 hc hw (Nat.lt_of_lt_of_le (by decide) hM) rfl dX7_minute_117 ?_
  refine lv_iconst (v := 2) hx hb dX7_minute_120 (by decide) ?_
  refine lv_dup2_11 hx hb dX7_minute_121 rfl rfl ?_
  refine g_ialdK (Y := YM) (kd := 33) (n := 14) (k := 2) (o := 13) (by decide) (by decide) rfl hc hw (Nat.lt_of_lt_of_le (by decide) hM) rfl rfl (vp_in_lit (by decide)) (by decide) dX7_minute_122 ?_
  refine lv_iload hx hb dX7_minute_123 (lv_at hl 0 rfl) ?_
  refine lv_isub hx hb dX7_minute_125 ?_
  refine g_iastK (Y := YM) (kd := 33) (n := 14) (k := 2) (o := 13) YM_ok (by decide) (by decide) rfl hc hw (Nat.lt_of_lt_of_le (by decide) hM) rfl rfl (vp_in_lit (by decide)) (by decide) dX7_minute_126 (fun σ17 H locs eσ17 hw => ?_)
  replace h := h σ17 eσ17
  refine lv_iload_n hx hb dX7_minute_127 rfl (lv_at hl 5 rfl) ?_
  refine lv_if_eq (tgt := 145) hx hb dX7_minute_128 (by decide) (fun c18 => ?_) (fun c18 => ?_)
  · replace h := h.1 c18
    refine lv_aload_n hx hb dX7_minute_145 rfl (lv_at hl 4 rfl) ?_
    refine fg_X7_47 hc hw (Nat.lt_of_lt_of_le (by decide) hM) rfl dX7_minute_146 ?_
    refine lv_iconst (v := 3) hx hb dX7_minute_149 (by decide) ?_
    refine g_ialdK (Y := YM) (kd := 33) (n := 14) (k := 3) (o := 13) (by decide) (by decide) rfl hc hw (Nat.lt_of_lt_of_le (by decide) hM) rfl rfl (vp_in_lit (by decide)) (by decide) dX7_minute_150 ?_
    refine lv_iconst (v := 2) hx hb dX7_minute_151 (by decide) ?_
    refine lv_idiv hx hb dX7_minute_152 (by decide) ?_
    refine lv_istore (lv' := [(6, .int ((gi σ17 13 3) / 2)), (5, .int x14), (4, .int x13), (3, .int r12), (2, .int r10), (0, .ref (ad 0)), (1, .int a1)]) hx hb dX7_minute_153 hl (by decide) rfl (fun ls hl => ?_)
    refine lv_aload_n hx hb dX7_minute_155 rfl (lv_at hl 5 rfl) ?_
    refine fg_X7_47 hc hw (Nat.lt_of_lt_of_le (by decide) hM) rfl dX7_minute_156 ?_
    refine lv_iconst (v := 3) hx hb dX7_minute_159 (by decide) ?_
    refine lv_dup2_11 hx hb dX7_minute_160 rfl rfl ?_
    refine g_ialdK (Y := YM) (kd := 33) (n := 14) (k := 3) (o := 13) (by decide) (by decide) rfl hc hw (Nat.lt_of_lt_of_le (by decide) hM) rfl rfl (vp_in_lit (by decide)) (by decide) dX7_minute_161 ?_
    refine lv_iload hx hb dX7_minute_162 (lv_at hl 0 rfl) ?_
    refine lv_isub hx hb dX7_minute_164 ?_
    refine lv_topi (fun x19 ex19 => ?_)
    replace h := h x19 ex19
    refine g_iastK (Y := YM) (kd := 33) (n := 14) (k := 3) (o := 13) YM_ok (by decide) (by decide) rfl hc hw (Nat.lt_of_lt_of_le (by decide) hM) rfl rfl (vp_in_lit (by decide)) (by decide) dX7_minute_165 (fun σ20 H locs eσ20 hw => ?_)
    replace h := h σ20 eσ20
    refine lv_aload_n hx hb dX7_minute_166 rfl (lv_at hl 5 rfl) ?_
    refine fg_X7_47 hc hw (Nat.lt_of_lt_of_le (by decide) hM) rfl dX7_minute_167 ?_
    refine lv_iconst (v := 4) hx hb dX7_minute_170 (by decide) ?_
    refine lv_dup2_11 hx hb dX7_minute_171 rfl rfl ?_
    refine g_ialdK (Y := YM) (kd := 33) (n := 14) (k := 4) (o := 13) (by decide) (by decide) rfl hc hw (Nat.lt_of_lt_of_le (by decide) hM) rfl rfl (vp_in_lit (by decide)) (by decide) dX7_minute_172 ?_
    refine lv_iload hx hb dX7_minute_173 (lv_at hl 1 rfl) ?_
    refine lv_iload hx hb dX7_minute_175 (lv_at hl 0 rfl) ?_
    refine lv_iadd hx hb dX7_minute_177 ?_
    refine lv_iadd hx hb dX7_minute_178 ?_
    refine lv_topi (fun x21 ex21 => ?_)
    replace h := h x21 ex21
    refine g_iastK (Y := YM) (kd := 33) (n := 14) (k := 4) (o := 13) YM_ok (by decide) (by decide) rfl hc hw (Nat.lt_of_lt_of_le (by decide) hM) rfl rfl (vp_in_lit (by decide)) (by decide) dX7_minute_179 (fun σ22 H locs eσ22 hw => ?_)
    replace h := h σ22 eσ22
    refine lv_aload_n hx hb dX7_minute_180 rfl (lv_at hl 5 rfl) ?_
    refine fg_X7_47 hc hw (Nat.lt_of_lt_of_le (by decide) hM) rfl dX7_minute_181 ?_
    refine lv_bipush (v := 10) hx hb dX7_minute_184 (by decide) ?_
    refine lv_dup2_11 hx hb dX7_minute_186 rfl rfl ?_
    refine g_ialdK (Y := YM) (kd := 33) (n := 14) (k := 10) (o := 13) (by decide) (by decide) rfl hc hw (Nat.lt_of_lt_of_le (by decide) hM) rfl rfl (vp_in_lit (by decide)) (by decide) dX7_minute_187 ?_
    refine lv_aload_n hx hb dX7_minute_188 rfl (lv_at hl 5 rfl) ?_
    refine fg_X7_47 hc hw (Nat.lt_of_lt_of_le (by decide) hM) rfl dX7_minute_189 ?_
    refine lv_bipush (v := 8) hx hb dX7_minute_192 (by decide) ?_
    refine g_ialdK (Y := YM) (kd := 33) (n := 14) (k := 8) (o := 13) (by decide) (by decide) rfl hc hw (Nat.lt_of_lt_of_le (by decide) hM) rfl rfl (vp_in_lit (by decide)) (by decide) dX7_minute_194 ?_
    refine lv_bipush (v := 60) hx hb dX7_minute_195 (by decide) ?_
    refine lv_icmp_le (tgt := 214) hx hb dX7_minute_197 (by decide) (fun c23 => ?_) (fun c23 => ?_)
    · replace h := h.1 c23
      refine lv_iconst (v := 0) hx hb dX7_minute_214 (by decide) ?_
      refine lv_iadd hx hb dX7_minute_215 ?_
      refine g_iastK (Y := YM) (kd := 33) (n := 14) (k := 10) (o := 13) YM_ok (by decide) (by decide) rfl hc hw (Nat.lt_of_lt_of_le (by decide) hM) rfl rfl (vp_in_lit (by decide)) (by decide) dX7_minute_216 (fun σ24 H locs eσ24 hw => ?_)
      replace h := h σ24 eσ24
      exact b_X7_minute_217 hM  σ24 _ _ _ h  hc hr hw (lv_sub hl [5] rfl)
    · replace h := h.2 c23
      refine lv_iconst (v := 1) hx hb dX7_minute_200 (by decide) ?_
      refine lv_aload_n hx hb dX7_minute_201 rfl (lv_at hl 5 rfl) ?_
      refine fg_X7_47 hc hw (Nat.lt_of_lt_of_le (by decide) hM) rfl dX7_minute_202 ?_
      refine lv_iconst (v := 0) hx hb dX7_minute_205 (by decide) ?_
      refine g_ialdK (Y := YM) (kd := 33) (n := 14) (k := 0) (o := 13) (by decide) (by decide) rfl hc hw (Nat.lt_of_lt_of_le (by decide) hM) rfl rfl (vp_in_lit (by decide)) (by decide) dX7_minute_206 ?_
      refine lv_bipush (v := 50) hx hb dX7_minute_207 (by decide) ?_
      refine lv_idiv hx hb dX7_minute_209 (by decide) ?_
      refine lv_iadd hx hb dX7_minute_210 ?_
      refine lv_goto (tgt := 215) hx hb dX7_minute_211 (by decide) ?_
      refine lv_iadd hx hb dX7_minute_215 ?_
      refine lv_topi (fun x25 ex25 => ?_)
      replace h := h x25 ex25
      refine g_iastK (Y := YM) (kd := 33) (n := 14) (k := 10) (o := 13) YM_ok (by decide) (by decide) rfl hc hw (Nat.lt_of_lt_of_le (by decide) hM) rfl rfl (vp_in_lit (by decide)) (by decide) dX7_minute_216 (fun σ26 H locs eσ26 hw => ?_)
      replace h := h σ26 eσ26
      exact b_X7_minute_217 hM  σ26 _ _ _ h  hc hr hw (lv_sub hl [5] rfl)
  · replace h := h.2 c18
    refine lv_aload_n hx hb dX7_minute_131 rfl (lv_at hl 4 rfl) ?_
    refine fg_X7_47 hc hw (Nat.lt_of_lt_of_le (by decide) hM) rfl dX7_minute_132 ?_
    refine lv_iconst (v := 3) hx hb dX7_minute_135 (by decide) ?_
    refine lv_dup2_11 hx hb dX7_minute_136 rfl rfl ?_
    refine g_ialdK (Y := YM) (kd := 33) (n := 14) (k := 3) (o := 13) (by decide) (by decide) rfl hc hw (Nat.lt_of_lt_of_le (by decide) hM) rfl rfl (vp_in_lit (by decide)) (by decide) dX7_minute_137 ?_
    refine lv_iload hx hb dX7_minute_138 (lv_at hl 0 rfl) ?_
    refine lv_iadd hx hb dX7_minute_140 ?_
    refine g_iastK (Y := YM) (kd := 33) (n := 14) (k := 3) (o := 13) YM_ok (by decide) (by decide) rfl hc hw (Nat.lt_of_lt_of_le (by decide) hM) rfl rfl (vp_in_lit (by decide)) (by decide) dX7_minute_141 (fun σ27 H locs eσ27 hw => ?_)
    replace h := h σ27 eσ27
    refine lv_goto (tgt := 217) hx hb dX7_minute_142 (by decide) ?_
    exact b_X7_minute_217 hM  σ27 _ _ _ h  hc hr hw (lv_sub hl [4] rfl)
def w_X7_threads (M : Nat) (post : Int32 → St → Prop)  (σ : St) : Prop :=
  ((gi σ 13 1) = 0 → (post 0 σ)) ∧ (¬ ((gi σ 13 1) = 0) → (w_X7_work M (fun r3 σ2 => (post r3 σ2)) 2 σ))
set_option maxHeartbeats 4000000 in
set_option maxRecDepth 20000 in
theorem m_X7_threads {Γ : Gm} {ad : Nat → Nat} {M : Nat} (l : Launch) (hM : 20 ≤ M) {post : Int32 → St → Prop}  (σ : St) (h : w_X7_threads M post  σ) : Ci l Γ YM M ad σ yX7_threads cX7_threads 1 (Option.some Jvm.ClassFile.FieldType.int) 2 0 0 [.ref (ad 0)] post := by
  refine g_start (by decide) (Nat.le_of_ble_eq_true rfl) ?_
  intro p e s m args below meth c ls hc hr hn hl hw
  have hc : CX Γ p s m args meth c cX7_threads RX7 1 := hc
  have hl : lv_has ls 1 [(0, .ref (ad 0))] := hl
  have hx := hc.1
  have hb := hc.2.1
  unfold w_X7_threads at h
  generalize hHH : s.heap = H0 at hw ⊢
  refine lv_aload_n hx hb dX7_threads_0 rfl (lv_at hl 0 rfl) ?_
  refine fg_X7_47 hc hw (Nat.lt_of_lt_of_le (by decide) hM) rfl dX7_threads_1 ?_
  refine lv_iconst (v := 1) hx hb dX7_threads_4 (by decide) ?_
  refine g_ialdK (Y := YM) (kd := 33) (n := 14) (k := 1) (o := 13) (by decide) (by decide) rfl hc hw (Nat.lt_of_lt_of_le (by decide) hM) rfl rfl (vp_in_lit (by decide)) (by decide) dX7_threads_5 ?_
  refine lv_if_ne (tgt := 13) hx hb dX7_threads_6 (by decide) (fun c1 => ?_) (fun c1 => ?_)
  · replace h := h.2 c1
    refine lv_aload_n hx hb dX7_threads_13 rfl (lv_at hl 0 rfl) ?_
    refine lv_iconst (v := 2) hx hb dX7_threads_14 (by decide) ?_
    refine g_Vi (Y := YM) (ci := 7) (n := 1) (k := 1) (As := [.int 2]) (rest := []) rfl (by decide) vw_X7_227 ⟨Nat.le_of_ble_eq_true rfl, Nat.le_of_ble_eq_true rfl, Nat.zero_le _, Nat.zero_le _⟩ hc hw hl.1 (Nat.lt_of_lt_of_le (by decide) hM) rfl (m_X7_work l hM 2 σ h) rfl rfl (Nat.le_of_ble_eq_true rfl) dX7_threads_15 (fun r3 σ2 H locs h hw => ?_)
    exact g_iret hc hr hw h dX7_threads_18
  · replace h := h.1 c1
    refine lv_iconst (v := 0) hx hb dX7_threads_9 (by decide) ?_
    refine lv_goto (tgt := 18) hx hb dX7_threads_10 (by decide) ?_
    exact g_iret hc hr hw h dX7_threads_18
def w_X7_refuses (M : Nat) (post : Int32 → St → Prop) (a1 : Int32) (σ : St) : Prop :=
  w_X7_isSheet M (fun r2 σ1 => ((r2 = 0 → (post (-2) σ1)) ∧ (¬ (r2 = 0) → ((vp_in a1 4) ∧ ((0 ≤ (gi σ1 16 a1.toNatClampNeg) → ((vp_in a1 4) ∧ (((gi σ1 17 a1.toNatClampNeg) = (gi σ1 0 21) → (post 1 σ1)) ∧ (¬ ((gi σ1 17 a1.toNatClampNeg) = (gi σ1 0 21)) → (post (-2) σ1))))) ∧ (¬ (0 ≤ (gi σ1 16 a1.toNatClampNeg)) → (post (-11) σ1))))))) a1 σ
set_option maxHeartbeats 4000000 in
set_option maxRecDepth 20000 in
theorem m_X7_refuses {Γ : Gm} {ad : Nat → Nat} {M : Nat} (l : Launch) (hM : 20 ≤ M) {post : Int32 → St → Prop} (a1 : Int32) (σ : St) (h : w_X7_refuses M post a1 σ) : Ci l Γ YM M ad σ yX7_refuses cX7_refuses 2 (Option.some Jvm.ClassFile.FieldType.int) 2 0 0 [.ref (ad 0), .int a1] post := by
  refine g_start (by decide) (Nat.le_of_ble_eq_true rfl) ?_
  intro p e s m args below meth c ls hc hr hn hl hw
  have hc : CX Γ p s m args meth c cX7_refuses RX7 2 := hc
  have hl : lv_has ls 2 [(0, .ref (ad 0)), (1, .int a1)] := hl
  have hx := hc.1
  have hb := hc.2.1
  unfold w_X7_refuses at h
  generalize hHH : s.heap = H0 at hw ⊢
  refine lv_iload_n hx hb dX7_refuses_0 rfl (lv_at hl 1 rfl) ?_
  refine g_Si (Y := YM) (n := 1) (k := 1) (As := [.int a1]) (rest := []) vw_X7_305 ⟨Nat.le_of_ble_eq_true rfl, Nat.le_of_ble_eq_true rfl, Nat.zero_le _, Nat.zero_le _⟩ hc hw hl.1 (m_X7_isSheet l hM a1 σ h) rfl rfl (Nat.le_of_ble_eq_true rfl) dX7_refuses_1 (fun r2 σ1 H locs h hw => ?_)
  refine lv_if_ne (tgt := 10) hx hb dX7_refuses_4 (by decide) (fun c3 => ?_) (fun c3 => ?_)
  · replace h := h.2 c3
    refine lv_aload_n hx hb dX7_refuses_10 rfl (lv_at hl 0 rfl) ?_
    refine fg_X7_56 hc hw (Nat.lt_of_lt_of_le (by decide) hM) rfl dX7_refuses_11 ?_
    refine lv_iload_n hx hb dX7_refuses_14 rfl (lv_at hl 1 rfl) ?_
    refine g_ialdK (Y := YM) (kd := 36) (n := 4) (k := a1.toNatClampNeg) (o := 16) (by decide) (by decide) rfl hc hw (Nat.lt_of_lt_of_le (by decide) hM) rfl rfl h.1 rfl dX7_refuses_15 ?_
    replace h := h.2
    refine lv_if_ge (tgt := 24) hx hb dX7_refuses_16 (by decide) (fun c4 => ?_) (fun c4 => ?_)
    · replace h := h.1 c4
      refine lv_aload_n hx hb dX7_refuses_24 rfl (lv_at hl 0 rfl) ?_
      refine fg_X7_59 hc hw (Nat.lt_of_lt_of_le (by decide) hM) rfl dX7_refuses_25 ?_
      refine lv_iload_n hx hb dX7_refuses_28 rfl (lv_at hl 1 rfl) ?_
      refine g_ialdK (Y := YM) (kd := 37) (n := 4) (k := a1.toNatClampNeg) (o := 17) (by decide) (by decide) rfl hc hw (Nat.lt_of_lt_of_le (by decide) hM) rfl rfl h.1 rfl dX7_refuses_29 ?_
      replace h := h.2
      refine lv_aload_n hx hb dX7_refuses_30 rfl (lv_at hl 0 rfl) ?_
      refine fg_X7_95 hc hw (Nat.lt_of_lt_of_le (by decide) hM) rfl dX7_refuses_31 ?_
      refine lv_icmp_eq (tgt := 42) hx hb dX7_refuses_34 (by decide) (fun c5 => ?_) (fun c5 => ?_)
      · replace h := h.1 c5
        refine lv_iconst (v := 1) hx hb dX7_refuses_42 (by decide) ?_
        exact g_iret hc hr hw h dX7_refuses_43
      · replace h := h.2 c5
        refine lv_bipush (v := (-2)) hx hb dX7_refuses_37 (by decide) ?_
        refine lv_goto (tgt := 43) hx hb dX7_refuses_39 (by decide) ?_
        exact g_iret hc hr hw h dX7_refuses_43
    · replace h := h.2 c4
      refine lv_bipush (v := (-11)) hx hb dX7_refuses_19 (by decide) ?_
      refine lv_goto (tgt := 43) hx hb dX7_refuses_21 (by decide) ?_
      exact g_iret hc hr hw h dX7_refuses_43
  · replace h := h.1 c3
    refine lv_bipush (v := (-2)) hx hb dX7_refuses_7 (by decide) ?_
    exact g_iret hc hr hw h dX7_refuses_9
def w_X7_sheet_73 (M : Nat) (post : Int32 → St → Prop) (k_73 : Int32 → Int32 → St → Prop) (v1 : Int32) (v4 : Int32) (σ : St) : Prop :=
  (((40 * v1) + 40) ≤ v4 → (post 1 σ)) ∧ (¬ (((40 * v1) + 40) ≤ v4) → ((vp_in v4 160) ∧ (∀ σ2 : St, σ2 = si σ 18 v4.toNatClampNeg 0 → (∀ x3 : Int32, x3 = v4 + 1 → (k_73 v1 x3 σ2)))))
set_option maxHeartbeats 4000000 in
set_option maxRecDepth 20000 in
theorem b_X7_sheet_73 {Γ : Gm} {ad : Nat → Nat} {p : Program} {l : Launch} {e : Env} {s : State} {m : MethodId} {args : Array Value} {below : List Frame} {meth : Method} {c : Code} {M : Nat} (hM : 20 ≤ M) {post : Int32 → St → Prop} {k_73 : Int32 → Int32 → St → Prop} (hk_73 : ∀ (v1 : Int32) (v4 : Int32) (σ : St) (H : Heap) (locs : List Loc) (ls : Array Slot), k_73 v1 v4 σ → WH Γ YM M ad σ s H locs → lv_has ls 5 [(0, .ref (ad 0)), (1, .int v1), (4, .int v4)] → W p l e (rmL 2 0 0) s m args below meth c H locs 0 0 (MQ below (va_Qi post (fun u t => WC Γ YM M ad u t) (AA Γ)) args s 0 0 (AA Γ)) (F0 m 73 ls []))
    (v1 : Int32) (v4 : Int32) (σ : St) (H : Heap) (locs : List Loc) (ls : Array Slot) (h : w_X7_sheet_73 M post k_73 v1 v4 σ) (hc : CX Γ p s m args meth c cX7_sheet RX7 5) (hr : meth.sig.returnType = (Option.some Jvm.ClassFile.FieldType.int)) (hw : WH Γ YM M ad σ s H locs) (hl : lv_has ls 5 [(0, .ref (ad 0)), (1, .int v1), (4, .int v4)]) :
    W p l e (rmL 2 0 0) s m args below meth c H locs 0 0 (MQ below (va_Qi post (fun u t => WC Γ YM M ad u t) (AA Γ)) args s 0 0 (AA Γ)) (F0 m 73 ls []) := by
  have hx := hc.1
  have hb := hc.2.1
  unfold w_X7_sheet_73 at h
  refine lv_iload hx hb dX7_sheet_73 (lv_at hl 2 rfl) ?_
  refine lv_bipush (v := 40) hx hb dX7_sheet_75 (by decide) ?_
  refine lv_iload_n hx hb dX7_sheet_77 rfl (lv_at hl 1 rfl) ?_
  refine lv_imul hx hb dX7_sheet_78 ?_
  refine lv_bipush (v := 40) hx hb dX7_sheet_79 (by decide) ?_
  refine lv_iadd hx hb dX7_sheet_81 ?_
  refine lv_icmp_ge (tgt := 99) hx hb dX7_sheet_82 (by decide) (fun c1 => ?_) (fun c1 => ?_)
  · replace h := h.1 c1
    refine lv_iconst (v := 1) hx hb dX7_sheet_99 (by decide) ?_
    exact g_iret hc hr hw h dX7_sheet_100
  · replace h := h.2 c1
    refine lv_aload_n hx hb dX7_sheet_85 rfl (lv_at hl 0 rfl) ?_
    refine fg_X7_62 hc hw (Nat.lt_of_lt_of_le (by decide) hM) rfl dX7_sheet_86 ?_
    refine lv_iload hx hb dX7_sheet_89 (lv_at hl 2 rfl) ?_
    refine lv_iconst (v := 0) hx hb dX7_sheet_91 (by decide) ?_
    have hin := h.1
    replace h := h.2
    refine g_iastK (Y := YM) (kd := 38) (n := 160) (k := v4.toNatClampNeg) (o := 18) YM_ok (by decide) (by decide) rfl hc hw (Nat.lt_of_lt_of_le (by decide) hM) rfl rfl hin rfl dX7_sheet_92 (fun σ2 H locs eσ2 hw => ?_)
    replace h := h σ2 eσ2
    obtain ⟨x3, ex3⟩ : ∃ z, z = v4 + 1 := ⟨_, rfl⟩
    replace h := h x3 ex3
    refine lv_iinc (v := x3) (lv' := [(4, .int x3), (0, .ref (ad 0)), (1, .int v1)]) hx hb dX7_sheet_93 hl (k := 2) rfl (by rw [ex3]; rfl) (by decide) rfl (fun ls hl => ?_)
    refine lv_goto (tgt := 73) hx hb dX7_sheet_96 (by decide) ?_
    exact hk_73 v1 x3 σ2 _ _ _ h  hw (lv_sub hl [1, 2, 0] rfl)
def wl_X7_sheet_73 (M : Nat) (post : Int32 → St → Prop) : Nat → Int32 → Int32 → St → Prop
  | 0, _, _, _ => False
  | n + 1, v1, v4, σ => w_X7_sheet_73 M post (wl_X7_sheet_73 M post n) v1 v4 σ
set_option maxHeartbeats 4000000 in
theorem bl_X7_sheet_73 {Γ : Gm} {ad : Nat → Nat} {p : Program} {l : Launch} {e : Env} {s : State} {m : MethodId} {args : Array Value} {below : List Frame} {meth : Method} {c : Code} {M : Nat} (hM : 20 ≤ M) {post : Int32 → St → Prop}
    (hc : CX Γ p s m args meth c cX7_sheet RX7 5) (hr : meth.sig.returnType = (Option.some Jvm.ClassFile.FieldType.int)) :
    ∀ (n : Nat) (v1 : Int32) (v4 : Int32) (σ : St) (H : Heap) (locs : List Loc) (ls : Array Slot), wl_X7_sheet_73 M post n v1 v4 σ → WH Γ YM M ad σ s H locs → lv_has ls 5 [(0, .ref (ad 0)), (1, .int v1), (4, .int v4)] → W p l e (rmL 2 0 0) s m args below meth c H locs 0 0 (MQ below (va_Qi post (fun u t => WC Γ YM M ad u t) (AA Γ)) args s 0 0 (AA Γ)) (F0 m 73 ls []) := by
  intro n
  induction n with
  | zero => intro v1 v4 σ H locs ls h; exact h.elim
  | succ n ih =>
    intro v1 v4 σ H locs ls h  hw hl
    exact b_X7_sheet_73 hM ih v1 v4 σ H locs ls h  hc hr hw hl
def w_X7_sheet_45 (M : Nat) (post : Int32 → St → Prop) (v1 : Int32) (v2 : Int32) (v3 : Int32) (σ : St) : Prop :=
  (vp_in v1 4) ∧ (∀ σ1 : St, σ1 = si σ 16 v1.toNatClampNeg v2 → ((0 ≤ v2 → ((vp_in v1 4) ∧ (∀ σ3 : St, σ3 = si σ1 17 v1.toNatClampNeg v3 → (∃ n, wl_X7_sheet_73 M post n v1 (40 * v1) σ3)))) ∧ (¬ (0 ≤ v2) → ((vp_in v1 4) ∧ (∀ σ4 : St, σ4 = si σ1 17 v1.toNatClampNeg 0 → (∃ n, wl_X7_sheet_73 M post n v1 (40 * v1) σ4))))))
set_option maxHeartbeats 4000000 in
set_option maxRecDepth 20000 in
theorem b_X7_sheet_45 {Γ : Gm} {ad : Nat → Nat} {p : Program} {l : Launch} {e : Env} {s : State} {m : MethodId} {args : Array Value} {below : List Frame} {meth : Method} {c : Code} {M : Nat} (hM : 20 ≤ M) {post : Int32 → St → Prop}
    (v1 : Int32) (v2 : Int32) (v3 : Int32) (σ : St) (H : Heap) (locs : List Loc) (ls : Array Slot) (h : w_X7_sheet_45 M post v1 v2 v3 σ) (hc : CX Γ p s m args meth c cX7_sheet RX7 5) (hr : meth.sig.returnType = (Option.some Jvm.ClassFile.FieldType.int)) (hw : WH Γ YM M ad σ s H locs) (hl : lv_has ls 5 [(0, .ref (ad 0)), (1, .int v1), (2, .int v2), (3, .int v3)]) :
    W p l e (rmL 2 0 0) s m args below meth c H locs 0 0 (MQ below (va_Qi post (fun u t => WC Γ YM M ad u t) (AA Γ)) args s 0 0 (AA Γ)) (F0 m 45 ls []) := by
  have hx := hc.1
  have hb := hc.2.1
  unfold w_X7_sheet_45 at h
  refine lv_aload_n hx hb dX7_sheet_45 rfl (lv_at hl 0 rfl) ?_
  refine fg_X7_56 hc hw (Nat.lt_of_lt_of_le (by decide) hM) rfl dX7_sheet_46 ?_
  refine lv_iload_n hx hb dX7_sheet_49 rfl (lv_at hl 1 rfl) ?_
  refine lv_iload_n hx hb dX7_sheet_50 rfl (lv_at hl 2 rfl) ?_
  have hin := h.1
  replace h := h.2
  refine g_iastK (Y := YM) (kd := 36) (n := 4) (k := v1.toNatClampNeg) (o := 16) YM_ok (by decide) (by decide) rfl hc hw (Nat.lt_of_lt_of_le (by decide) hM) rfl rfl hin rfl dX7_sheet_51 (fun σ1 H locs eσ1 hw => ?_)
  replace h := h σ1 eσ1
  refine lv_aload_n hx hb dX7_sheet_52 rfl (lv_at hl 0 rfl) ?_
  refine fg_X7_59 hc hw (Nat.lt_of_lt_of_le (by decide) hM) rfl dX7_sheet_53 ?_
  refine lv_iload_n hx hb dX7_sheet_56 rfl (lv_at hl 1 rfl) ?_
  refine lv_iload_n hx hb dX7_sheet_57 rfl (lv_at hl 2 rfl) ?_
  refine lv_if_ge (tgt := 65) hx hb dX7_sheet_58 (by decide) (fun c2 => ?_) (fun c2 => ?_)
  · replace h := h.1 c2
    refine lv_iload_n hx hb dX7_sheet_65 rfl (lv_at hl 3 rfl) ?_
    have hin := h.1
    replace h := h.2
    refine g_iastK (Y := YM) (kd := 37) (n := 4) (k := v1.toNatClampNeg) (o := 17) YM_ok (by decide) (by decide) rfl hc hw (Nat.lt_of_lt_of_le (by decide) hM) rfl rfl hin rfl dX7_sheet_66 (fun σ3 H locs eσ3 hw => ?_)
    replace h := h σ3 eσ3
    refine lv_bipush (v := 40) hx hb dX7_sheet_67 (by decide) ?_
    refine lv_iload_n hx hb dX7_sheet_69 rfl (lv_at hl 1 rfl) ?_
    refine lv_imul hx hb dX7_sheet_70 ?_
    refine lv_istore (lv' := [(4, .int (40 * v1)), (0, .ref (ad 0)), (1, .int v1), (2, .int v2), (3, .int v3)]) hx hb dX7_sheet_71 hl (by decide) rfl (fun ls hl => ?_)
    obtain ⟨n, h⟩ := h
    exact bl_X7_sheet_73 hM hc hr n v1 (40 * v1) σ3 _ _ _ h  hw (lv_sub hl [1, 2, 0] rfl)
  · replace h := h.2 c2
    refine lv_iconst (v := 0) hx hb dX7_sheet_61 (by decide) ?_
    refine lv_goto (tgt := 66) hx hb dX7_sheet_62 (by decide) ?_
    have hin := h.1
    replace h := h.2
    refine g_iastK (Y := YM) (kd := 37) (n := 4) (k := v1.toNatClampNeg) (o := 17) YM_ok (by decide) (by decide) rfl hc hw (Nat.lt_of_lt_of_le (by decide) hM) rfl rfl hin rfl dX7_sheet_66 (fun σ4 H locs eσ4 hw => ?_)
    replace h := h σ4 eσ4
    refine lv_bipush (v := 40) hx hb dX7_sheet_67 (by decide) ?_
    refine lv_iload_n hx hb dX7_sheet_69 rfl (lv_at hl 1 rfl) ?_
    refine lv_imul hx hb dX7_sheet_70 ?_
    refine lv_istore (lv' := [(4, .int (40 * v1)), (0, .ref (ad 0)), (1, .int v1), (2, .int v2), (3, .int v3)]) hx hb dX7_sheet_71 hl (by decide) rfl (fun ls hl => ?_)
    obtain ⟨n, h⟩ := h
    exact bl_X7_sheet_73 hM hc hr n v1 (40 * v1) σ4 _ _ _ h  hw (lv_sub hl [1, 2, 0] rfl)
def w_X7_sheet (M : Nat) (post : Int32 → St → Prop) (a1 : Int32) (a2 : Int32) (a3 : Int32) (σ : St) : Prop :=
  w_X7_isSheet M (fun r2 σ1 => ((r2 = 0 → (post (-2) σ1)) ∧ (¬ (r2 = 0) → (w_X7_in M (fun r5 σ4 => ((r5 = 0 → (post (-2) σ4)) ∧ (¬ (r5 = 0) → ((a2 < 0 → ((a2 < 0 → (w_X7_sheet_45 M post a1 a2 a3 σ4)) ∧ (¬ (a2 < 0) → ((0 ≤ a3 → (w_X7_sheet_45 M post a1 a2 a3 σ4)) ∧ (¬ (0 ≤ a3) → (post (-14) σ4)))))) ∧ (¬ (a2 < 0) → ((a3 ≤ 40 → ((a2 < 0 → (w_X7_sheet_45 M post a1 a2 a3 σ4)) ∧ (¬ (a2 < 0) → ((0 ≤ a3 → (w_X7_sheet_45 M post a1 a2 a3 σ4)) ∧ (¬ (0 ≤ a3) → (post (-14) σ4)))))) ∧ (¬ (a3 ≤ 40) → (post (-2) σ4)))))))) a2.toInt64 (-1) 2 σ1)))) a1 σ
set_option maxHeartbeats 4000000 in
set_option maxRecDepth 20000 in
theorem m_X7_sheet {Γ : Gm} {ad : Nat → Nat} {M : Nat} (l : Launch) (hM : 20 ≤ M) {post : Int32 → St → Prop} (a1 : Int32) (a2 : Int32) (a3 : Int32) (σ : St) (h : w_X7_sheet M post a1 a2 a3 σ) : Ci l Γ YM M ad σ yX7_sheet cX7_sheet 5 (Option.some Jvm.ClassFile.FieldType.int) 2 0 0 [.ref (ad 0), .int a1, .int a2, .int a3] post := by
  refine g_start (by decide) (Nat.le_of_ble_eq_true rfl) ?_
  intro p e s m args below meth c ls hc hr hn hl hw
  have hc : CX Γ p s m args meth c cX7_sheet RX7 5 := hc
  have hl : lv_has ls 5 [(0, .ref (ad 0)), (1, .int a1), (2, .int a2), (3, .int a3)] := hl
  have hx := hc.1
  have hb := hc.2.1
  unfold w_X7_sheet at h
  generalize hHH : s.heap = H0 at hw ⊢
  refine lv_iload_n hx hb dX7_sheet_0 rfl (lv_at hl 1 rfl) ?_
  refine g_Si (Y := YM) (n := 1) (k := 1) (As := [.int a1]) (rest := []) vw_X7_305 ⟨Nat.le_of_ble_eq_true rfl, Nat.le_of_ble_eq_true rfl, Nat.zero_le _, Nat.zero_le _⟩ hc hw hl.1 (m_X7_isSheet l hM a1 σ h) rfl rfl (Nat.le_of_ble_eq_true rfl) dX7_sheet_1 (fun r2 σ1 H locs h hw => ?_)
  refine lv_if_eq (tgt := 31) hx hb dX7_sheet_4 (by decide) (fun c3 => ?_) (fun c3 => ?_)
  · replace h := h.1 c3
    refine lv_bipush (v := (-2)) hx hb dX7_sheet_31 (by decide) ?_
    exact g_iret hc hr hw h dX7_sheet_33
  · replace h := h.2 c3
    refine lv_iload_n hx hb dX7_sheet_7 rfl (lv_at hl 2 rfl) ?_
    refine lv_i2l (v := a2.toInt64) hx hb dX7_sheet_8 rfl ?_
    refine lv_ldc2 (v := (-1)) hx hb hc.2.2.2.1 (hc.2.2.2.2.1 _ q_1396) dX7_sheet_9 ?_
    refine lv_ldc2 (v := 2) hx hb hc.2.2.2.1 (hc.2.2.2.2.1 _ q_1100) dX7_sheet_12 ?_
    refine g_Si (Y := YM) (n := 3) (k := 0) (As := [.long a2.toInt64, .long (-1), .long 2]) (rest := []) vw_X7_75 ⟨Nat.le_of_ble_eq_true rfl, Nat.le_of_ble_eq_true rfl, Nat.zero_le _, Nat.zero_le _⟩ hc hw hl.1 (m_X7_in l hM a2.toInt64 (-1) 2 σ1 h) rfl rfl (Nat.le_of_ble_eq_true rfl) dX7_sheet_15 (fun r5 σ4 H locs h hw => ?_)
    refine lv_if_eq (tgt := 31) hx hb dX7_sheet_18 (by decide) (fun c6 => ?_) (fun c6 => ?_)
    · replace h := h.1 c6
      refine lv_bipush (v := (-2)) hx hb dX7_sheet_31 (by decide) ?_
      exact g_iret hc hr hw h dX7_sheet_33
    · replace h := h.2 c6
      refine lv_iload_n hx hb dX7_sheet_21 rfl (lv_at hl 2 rfl) ?_
      refine lv_if_lt (tgt := 34) hx hb dX7_sheet_22 (by decide) (fun c7 => ?_) (fun c7 => ?_)
      · replace h := h.1 c7
        refine lv_iload_n hx hb dX7_sheet_34 rfl (lv_at hl 2 rfl) ?_
        refine lv_if_lt (tgt := 45) hx hb dX7_sheet_35 (by decide) (fun c8 => ?_) (fun c8 => ?_)
        · replace h := h.1 c8
          exact b_X7_sheet_45 hM a1 a2 a3 σ4 _ _ _ h  hc hr hw (lv_sub hl [0, 1, 2, 3] rfl)
        · replace h := h.2 c8
          refine lv_iload_n hx hb dX7_sheet_38 rfl (lv_at hl 3 rfl) ?_
          refine lv_if_ge (tgt := 45) hx hb dX7_sheet_39 (by decide) (fun c9 => ?_) (fun c9 => ?_)
          · replace h := h.1 c9
            exact b_X7_sheet_45 hM a1 a2 a3 σ4 _ _ _ h  hc hr hw (lv_sub hl [0, 1, 2, 3] rfl)
          · replace h := h.2 c9
            refine lv_bipush (v := (-14)) hx hb dX7_sheet_42 (by decide) ?_
            exact g_iret hc hr hw h dX7_sheet_44
      · replace h := h.2 c7
        refine lv_iload_n hx hb dX7_sheet_25 rfl (lv_at hl 3 rfl) ?_
        refine lv_bipush (v := 40) hx hb dX7_sheet_26 (by decide) ?_
        refine lv_icmp_le (tgt := 34) hx hb dX7_sheet_28 (by decide) (fun c10 => ?_) (fun c10 => ?_)
        · replace h := h.1 c10
          refine lv_iload_n hx hb dX7_sheet_34 rfl (lv_at hl 2 rfl) ?_
          refine lv_if_lt (tgt := 45) hx hb dX7_sheet_35 (by decide) (fun c11 => ?_) (fun c11 => ?_)
          · replace h := h.1 c11
            exact b_X7_sheet_45 hM a1 a2 a3 σ4 _ _ _ h  hc hr hw (lv_sub hl [0, 1, 2, 3] rfl)
          · replace h := h.2 c11
            refine lv_iload_n hx hb dX7_sheet_38 rfl (lv_at hl 3 rfl) ?_
            refine lv_if_ge (tgt := 45) hx hb dX7_sheet_39 (by decide) (fun c12 => ?_) (fun c12 => ?_)
            · replace h := h.1 c12
              exact b_X7_sheet_45 hM a1 a2 a3 σ4 _ _ _ h  hc hr hw (lv_sub hl [0, 1, 2, 3] rfl)
            · replace h := h.2 c12
              refine lv_bipush (v := (-14)) hx hb dX7_sheet_42 (by decide) ?_
              exact g_iret hc hr hw h dX7_sheet_44
        · replace h := h.2 c10
          refine lv_bipush (v := (-2)) hx hb dX7_sheet_31 (by decide) ?_
          exact g_iret hc hr hw h dX7_sheet_33
def w_X7_cell (M : Nat) (post : Int32 → St → Prop) (a1 : Int32) (a2 : Int32) (a3 : Int32) (σ : St) : Prop :=
  w_X7_isSheet M (fun r2 σ1 => ((r2 = 0 → (post (-2) σ1)) ∧ (¬ (r2 = 0) → ((vp_in a1 4) ∧ ((0 ≤ (gi σ1 16 a1.toNatClampNeg) → ((vp_in a1 4) ∧ (∀ x5 : Int32, x5 = (gi σ1 17 a1.toNatClampNeg) - 1 → (w_X7_in M (fun r7 σ6 => ((r7 = 0 → (post (-12) σ6)) ∧ (¬ (r7 = 0) → ((vp_in a1 4) ∧ (((gi σ6 16 a1.toNatClampNeg) = 0 → ((vp_in ((40 * a1) + a2) 160) ∧ (∀ σ13 : St, σ13 = si σ6 18 (((40 * a1) + a2).toNatClampNeg) a3.toInt8.toInt32 → (post 1 σ13)))) ∧ (¬ ((gi σ6 16 a1.toNatClampNeg) = 0) → ((vp_in a1 4) ∧ (((gi σ6 16 a1.toNatClampNeg) = 1 → ((vp_in ((40 * a1) + a2) 160) ∧ (∀ σ12 : St, σ12 = si σ6 18 (((40 * a1) + a2).toNatClampNeg) a3.toInt16.toInt32 → (post 1 σ12)))) ∧ (¬ ((gi σ6 16 a1.toNatClampNeg) = 1) → ((vp_in ((40 * a1) + a2) 160) ∧ (∀ σ11 : St, σ11 = si σ6 18 (((40 * a1) + a2).toNatClampNeg) a3 → (post 1 σ11)))))))))))) a2.toInt64 0 x5.toInt64 σ1)))) ∧ (¬ (0 ≤ (gi σ1 16 a1.toNatClampNeg)) → (post (-11) σ1))))))) a1 σ
set_option maxHeartbeats 4000000 in
set_option maxRecDepth 20000 in
theorem m_X7_cell {Γ : Gm} {ad : Nat → Nat} {M : Nat} (l : Launch) (hM : 20 ≤ M) {post : Int32 → St → Prop} (a1 : Int32) (a2 : Int32) (a3 : Int32) (σ : St) (h : w_X7_cell M post a1 a2 a3 σ) : Ci l Γ YM M ad σ yX7_cell cX7_cell 4 (Option.some Jvm.ClassFile.FieldType.int) 2 0 0 [.ref (ad 0), .int a1, .int a2, .int a3] post := by
  refine g_start (by decide) (Nat.le_of_ble_eq_true rfl) ?_
  intro p e s m args below meth c ls hc hr hn hl hw
  have hc : CX Γ p s m args meth c cX7_cell RX7 4 := hc
  have hl : lv_has ls 4 [(0, .ref (ad 0)), (1, .int a1), (2, .int a2), (3, .int a3)] := hl
  have hx := hc.1
  have hb := hc.2.1
  unfold w_X7_cell at h
  generalize hHH : s.heap = H0 at hw ⊢
  refine lv_iload_n hx hb dX7_cell_0 rfl (lv_at hl 1 rfl) ?_
  refine g_Si (Y := YM) (n := 1) (k := 1) (As := [.int a1]) (rest := []) vw_X7_305 ⟨Nat.le_of_ble_eq_true rfl, Nat.le_of_ble_eq_true rfl, Nat.zero_le _, Nat.zero_le _⟩ hc hw hl.1 (m_X7_isSheet l hM a1 σ h) rfl rfl (Nat.le_of_ble_eq_true rfl) dX7_cell_1 (fun r2 σ1 H locs h hw => ?_)
  refine lv_if_ne (tgt := 10) hx hb dX7_cell_4 (by decide) (fun c3 => ?_) (fun c3 => ?_)
  · replace h := h.2 c3
    refine lv_aload_n hx hb dX7_cell_10 rfl (lv_at hl 0 rfl) ?_
    refine fg_X7_56 hc hw (Nat.lt_of_lt_of_le (by decide) hM) rfl dX7_cell_11 ?_
    refine lv_iload_n hx hb dX7_cell_14 rfl (lv_at hl 1 rfl) ?_
    refine g_ialdK (Y := YM) (kd := 36) (n := 4) (k := a1.toNatClampNeg) (o := 16) (by decide) (by decide) rfl hc hw (Nat.lt_of_lt_of_le (by decide) hM) rfl rfl h.1 rfl dX7_cell_15 ?_
    replace h := h.2
    refine lv_if_ge (tgt := 22) hx hb dX7_cell_16 (by decide) (fun c4 => ?_) (fun c4 => ?_)
    · replace h := h.1 c4
      refine lv_iload_n hx hb dX7_cell_22 rfl (lv_at hl 2 rfl) ?_
      refine lv_i2l (v := a2.toInt64) hx hb dX7_cell_23 rfl ?_
      refine lv_lconst (v := 0) hx hb dX7_cell_24 (by decide) ?_
      refine lv_aload_n hx hb dX7_cell_25 rfl (lv_at hl 0 rfl) ?_
      refine fg_X7_59 hc hw (Nat.lt_of_lt_of_le (by decide) hM) rfl dX7_cell_26 ?_
      refine lv_iload_n hx hb dX7_cell_29 rfl (lv_at hl 1 rfl) ?_
      refine g_ialdK (Y := YM) (kd := 37) (n := 4) (k := a1.toNatClampNeg) (o := 17) (by decide) (by decide) rfl hc hw (Nat.lt_of_lt_of_le (by decide) hM) rfl rfl h.1 rfl dX7_cell_30 ?_
      replace h := h.2
      refine lv_iconst (v := 1) hx hb dX7_cell_31 (by decide) ?_
      refine lv_isub hx hb dX7_cell_32 ?_
      refine lv_topi (fun x5 ex5 => ?_)
      replace h := h x5 ex5
      refine lv_i2l (v := x5.toInt64) hx hb dX7_cell_33 rfl ?_
      refine g_Si (Y := YM) (n := 3) (k := 0) (As := [.long a2.toInt64, .long 0, .long x5.toInt64]) (rest := []) vw_X7_75 ⟨Nat.le_of_ble_eq_true rfl, Nat.le_of_ble_eq_true rfl, Nat.zero_le _, Nat.zero_le _⟩ hc hw hl.1 (m_X7_in l hM a2.toInt64 0 x5.toInt64 σ1 h) rfl rfl (Nat.le_of_ble_eq_true rfl) dX7_cell_34 (fun r7 σ6 H locs h hw => ?_)
      refine lv_if_ne (tgt := 43) hx hb dX7_cell_37 (by decide) (fun c8 => ?_) (fun c8 => ?_)
      · replace h := h.2 c8
        refine lv_aload_n hx hb dX7_cell_43 rfl (lv_at hl 0 rfl) ?_
        refine fg_X7_62 hc hw (Nat.lt_of_lt_of_le (by decide) hM) rfl dX7_cell_44 ?_
        refine lv_bipush (v := 40) hx hb dX7_cell_47 (by decide) ?_
        refine lv_iload_n hx hb dX7_cell_49 rfl (lv_at hl 1 rfl) ?_
        refine lv_imul hx hb dX7_cell_50 ?_
        refine lv_iload_n hx hb dX7_cell_51 rfl (lv_at hl 2 rfl) ?_
        refine lv_iadd hx hb dX7_cell_52 ?_
        refine lv_aload_n hx hb dX7_cell_53 rfl (lv_at hl 0 rfl) ?_
        refine fg_X7_56 hc hw (Nat.lt_of_lt_of_le (by decide) hM) rfl dX7_cell_54 ?_
        refine lv_iload_n hx hb dX7_cell_57 rfl (lv_at hl 1 rfl) ?_
        refine g_ialdK (Y := YM) (kd := 36) (n := 4) (k := a1.toNatClampNeg) (o := 16) (by decide) (by decide) rfl hc hw (Nat.lt_of_lt_of_le (by decide) hM) rfl rfl h.1 rfl dX7_cell_58 ?_
        replace h := h.2
        refine lv_if_ne (tgt := 67) hx hb dX7_cell_59 (by decide) (fun c9 => ?_) (fun c9 => ?_)
        · replace h := h.2 c9
          refine lv_aload_n hx hb dX7_cell_67 rfl (lv_at hl 0 rfl) ?_
          refine fg_X7_56 hc hw (Nat.lt_of_lt_of_le (by decide) hM) rfl dX7_cell_68 ?_
          refine lv_iload_n hx hb dX7_cell_71 rfl (lv_at hl 1 rfl) ?_
          refine g_ialdK (Y := YM) (kd := 36) (n := 4) (k := a1.toNatClampNeg) (o := 16) (by decide) (by decide) rfl hc hw (Nat.lt_of_lt_of_le (by decide) hM) rfl rfl h.1 rfl dX7_cell_72 ?_
          replace h := h.2
          refine lv_iconst (v := 1) hx hb dX7_cell_73 (by decide) ?_
          refine lv_icmp_ne (tgt := 82) hx hb dX7_cell_74 (by decide) (fun c10 => ?_) (fun c10 => ?_)
          · replace h := h.2 c10
            refine lv_iload_n hx hb dX7_cell_82 rfl (lv_at hl 3 rfl) ?_
            have hin := h.1
            replace h := h.2
            refine g_iastK (Y := YM) (kd := 38) (n := 160) (k := ((40 * a1) + a2).toNatClampNeg) (o := 18) YM_ok (by decide) (by decide) rfl hc hw (Nat.lt_of_lt_of_le (by decide) hM) rfl rfl hin rfl dX7_cell_83 (fun σ11 H locs eσ11 hw => ?_)
            replace h := h σ11 eσ11
            refine lv_iconst (v := 1) hx hb dX7_cell_84 (by decide) ?_
            exact g_iret hc hr hw h dX7_cell_85
          · replace h := h.1 c10
            refine lv_iload_n hx hb dX7_cell_77 rfl (lv_at hl 3 rfl) ?_
            refine lv_i2s (v := a3.toInt16.toInt32) hx hb dX7_cell_78 rfl ?_
            refine lv_goto (tgt := 83) hx hb dX7_cell_79 (by decide) ?_
            have hin := h.1
            replace h := h.2
            refine g_iastK (Y := YM) (kd := 38) (n := 160) (k := ((40 * a1) + a2).toNatClampNeg) (o := 18) YM_ok (by decide) (by decide) rfl hc hw (Nat.lt_of_lt_of_le (by decide) hM) rfl rfl hin rfl dX7_cell_83 (fun σ12 H locs eσ12 hw => ?_)
            replace h := h σ12 eσ12
            refine lv_iconst (v := 1) hx hb dX7_cell_84 (by decide) ?_
            exact g_iret hc hr hw h dX7_cell_85
        · replace h := h.1 c9
          refine lv_iload_n hx hb dX7_cell_62 rfl (lv_at hl 3 rfl) ?_
          refine lv_i2b (v := a3.toInt8.toInt32) hx hb dX7_cell_63 rfl ?_
          refine lv_goto (tgt := 83) hx hb dX7_cell_64 (by decide) ?_
          have hin := h.1
          replace h := h.2
          refine g_iastK (Y := YM) (kd := 38) (n := 160) (k := ((40 * a1) + a2).toNatClampNeg) (o := 18) YM_ok (by decide) (by decide) rfl hc hw (Nat.lt_of_lt_of_le (by decide) hM) rfl rfl hin rfl dX7_cell_83 (fun σ13 H locs eσ13 hw => ?_)
          replace h := h σ13 eσ13
          refine lv_iconst (v := 1) hx hb dX7_cell_84 (by decide) ?_
          exact g_iret hc hr hw h dX7_cell_85
      · replace h := h.1 c8
        refine lv_bipush (v := (-12)) hx hb dX7_cell_40 (by decide) ?_
        exact g_iret hc hr hw h dX7_cell_42
    · replace h := h.2 c4
      refine lv_bipush (v := (-11)) hx hb dX7_cell_19 (by decide) ?_
      exact g_iret hc hr hw h dX7_cell_21
  · replace h := h.1 c3
    refine lv_bipush (v := (-2)) hx hb dX7_cell_7 (by decide) ?_
    exact g_iret hc hr hw h dX7_cell_9
def w_X7_copy_140 (M : Nat) (post : Int32 → St → Prop) (k_140 : Int32 → Int32 → Int32 → Int32 → St → Prop) (v3 : Int32) (v4 : Int32) (v5 : Int32) (v6 : Int32) (σ : St) : Prop :=
  (v5 ≤ v6 → (post v5 σ)) ∧ (¬ (v5 ≤ v6) → ((vp_in v6 40) ∧ ((vp_in (((40 * v3) + v4) + v6) 160) ∧ (∀ σ2 : St, σ2 = si σ 18 ((((40 * v3) + v4) + v6).toNatClampNeg) (gi σ 19 v6.toNatClampNeg) → (∀ x3 : Int32, x3 = v6 + 1 → (k_140 v3 v4 v5 x3 σ2))))))
set_option maxHeartbeats 4000000 in
set_option maxRecDepth 20000 in
theorem b_X7_copy_140 {Γ : Gm} {ad : Nat → Nat} {p : Program} {l : Launch} {e : Env} {s : State} {m : MethodId} {args : Array Value} {below : List Frame} {meth : Method} {c : Code} {M : Nat} (hM : 20 ≤ M) {post : Int32 → St → Prop} {k_140 : Int32 → Int32 → Int32 → Int32 → St → Prop} (hk_140 : ∀ (v3 : Int32) (v4 : Int32) (v5 : Int32) (v6 : Int32) (σ : St) (H : Heap) (locs : List Loc) (ls : Array Slot), k_140 v3 v4 v5 v6 σ → WH Γ YM M ad σ s H locs → lv_has ls 7 [(0, .ref (ad 0)), (3, .int v3), (4, .int v4), (5, .int v5), (6, .int v6)] → W p l e (rmL 2 0 0) s m args below meth c H locs 0 0 (MQ below (va_Qi post (fun u t => WC Γ YM M ad u t) (AA Γ)) args s 0 0 (AA Γ)) (F0 m 140 ls []))
    (v3 : Int32) (v4 : Int32) (v5 : Int32) (v6 : Int32) (σ : St) (H : Heap) (locs : List Loc) (ls : Array Slot) (h : w_X7_copy_140 M post k_140 v3 v4 v5 v6 σ) (hc : CX Γ p s m args meth c cX7_copy RX7 7) (hr : meth.sig.returnType = (Option.some Jvm.ClassFile.FieldType.int)) (hw : WH Γ YM M ad σ s H locs) (hl : lv_has ls 7 [(0, .ref (ad 0)), (3, .int v3), (4, .int v4), (5, .int v5), (6, .int v6)]) :
    W p l e (rmL 2 0 0) s m args below meth c H locs 0 0 (MQ below (va_Qi post (fun u t => WC Γ YM M ad u t) (AA Γ)) args s 0 0 (AA Γ)) (F0 m 140 ls []) := by
  have hx := hc.1
  have hb := hc.2.1
  unfold w_X7_copy_140 at h
  refine lv_iload hx hb dX7_copy_140 (lv_at hl 4 rfl) ?_
  refine lv_iload hx hb dX7_copy_142 (lv_at hl 3 rfl) ?_
  refine lv_icmp_ge (tgt := 175) hx hb dX7_copy_144 (by decide) (fun c1 => ?_) (fun c1 => ?_)
  · replace h := h.1 c1
    refine lv_iload hx hb dX7_copy_175 (lv_at hl 3 rfl) ?_
    exact g_iret hc hr hw h dX7_copy_177
  · replace h := h.2 c1
    refine lv_aload_n hx hb dX7_copy_147 rfl (lv_at hl 0 rfl) ?_
    refine fg_X7_62 hc hw (Nat.lt_of_lt_of_le (by decide) hM) rfl dX7_copy_148 ?_
    refine lv_bipush (v := 40) hx hb dX7_copy_151 (by decide) ?_
    refine lv_iload_n hx hb dX7_copy_153 rfl (lv_at hl 1 rfl) ?_
    refine lv_imul hx hb dX7_copy_154 ?_
    refine lv_iload hx hb dX7_copy_155 (lv_at hl 2 rfl) ?_
    refine lv_iadd hx hb dX7_copy_157 ?_
    refine lv_iload hx hb dX7_copy_158 (lv_at hl 4 rfl) ?_
    refine lv_iadd hx hb dX7_copy_160 ?_
    refine lv_aload_n hx hb dX7_copy_161 rfl (lv_at hl 0 rfl) ?_
    refine fg_X7_65 hc hw (Nat.lt_of_lt_of_le (by decide) hM) rfl dX7_copy_162 ?_
    refine lv_iload hx hb dX7_copy_165 (lv_at hl 4 rfl) ?_
    refine g_ialdK (Y := YM) (kd := 39) (n := 40) (k := v6.toNatClampNeg) (o := 19) (by decide) (by decide) rfl hc hw (Nat.lt_of_lt_of_le (by decide) hM) rfl rfl h.1 rfl dX7_copy_167 ?_
    replace h := h.2
    have hin := h.1
    replace h := h.2
    refine g_iastK (Y := YM) (kd := 38) (n := 160) (k := (((40 * v3) + v4) + v6).toNatClampNeg) (o := 18) YM_ok (by decide) (by decide) rfl hc hw (Nat.lt_of_lt_of_le (by decide) hM) rfl rfl hin rfl dX7_copy_168 (fun σ2 H locs eσ2 hw => ?_)
    replace h := h σ2 eσ2
    obtain ⟨x3, ex3⟩ : ∃ z, z = v6 + 1 := ⟨_, rfl⟩
    replace h := h x3 ex3
    refine lv_iinc (v := x3) (lv' := [(6, .int x3), (0, .ref (ad 0)), (3, .int v3), (4, .int v4), (5, .int v5)]) hx hb dX7_copy_169 hl (k := 4) rfl (by rw [ex3]; rfl) (by decide) rfl (fun ls hl => ?_)
    refine lv_goto (tgt := 140) hx hb dX7_copy_172 (by decide) ?_
    exact hk_140 v3 v4 v5 x3 σ2 _ _ _ h  hw (lv_sub hl [1, 2, 3, 4, 0] rfl)
def wl_X7_copy_140 (M : Nat) (post : Int32 → St → Prop) : Nat → Int32 → Int32 → Int32 → Int32 → St → Prop
  | 0, _, _, _, _, _ => False
  | n + 1, v3, v4, v5, v6, σ => w_X7_copy_140 M post (wl_X7_copy_140 M post n) v3 v4 v5 v6 σ
set_option maxHeartbeats 4000000 in
theorem bl_X7_copy_140 {Γ : Gm} {ad : Nat → Nat} {p : Program} {l : Launch} {e : Env} {s : State} {m : MethodId} {args : Array Value} {below : List Frame} {meth : Method} {c : Code} {M : Nat} (hM : 20 ≤ M) {post : Int32 → St → Prop}
    (hc : CX Γ p s m args meth c cX7_copy RX7 7) (hr : meth.sig.returnType = (Option.some Jvm.ClassFile.FieldType.int)) :
    ∀ (n : Nat) (v3 : Int32) (v4 : Int32) (v5 : Int32) (v6 : Int32) (σ : St) (H : Heap) (locs : List Loc) (ls : Array Slot), wl_X7_copy_140 M post n v3 v4 v5 v6 σ → WH Γ YM M ad σ s H locs → lv_has ls 7 [(0, .ref (ad 0)), (3, .int v3), (4, .int v4), (5, .int v5), (6, .int v6)] → W p l e (rmL 2 0 0) s m args below meth c H locs 0 0 (MQ below (va_Qi post (fun u t => WC Γ YM M ad u t) (AA Γ)) args s 0 0 (AA Γ)) (F0 m 140 ls []) := by
  intro n
  induction n with
  | zero => intro v3 v4 v5 v6 σ H locs ls h; exact h.elim
  | succ n ih =>
    intro v3 v4 v5 v6 σ H locs ls h  hw hl
    exact b_X7_copy_140 hM ih v3 v4 v5 v6 σ H locs ls h  hc hr hw hl
def w_X7_copy_103 (M : Nat) (post : Int32 → St → Prop) (k_103 : Int32 → Int32 → Int32 → Int32 → Int32 → Int32 → St → Prop) (v1 : Int32) (v2 : Int32) (v3 : Int32) (v4 : Int32) (v5 : Int32) (v6 : Int32) (σ : St) : Prop :=
  (v5 ≤ v6 → (∃ n, wl_X7_copy_140 M post n v3 v4 v5 0 σ)) ∧ (¬ (v5 ≤ v6) → ((vp_in (((40 * v1) + v2) + v6) 160) ∧ (∀ x2 : Int32, x2 = gi σ 18 ((((40 * v1) + v2) + v6).toNatClampNeg) → ((vp_in v6 40) ∧ (∀ σ3 : St, σ3 = si σ 19 v6.toNatClampNeg x2 → (∀ x4 : Int32, x4 = v6 + 1 → (k_103 v1 v2 v3 v4 v5 x4 σ3)))))))
set_option maxHeartbeats 4000000 in
set_option maxRecDepth 20000 in
theorem b_X7_copy_103 {Γ : Gm} {ad : Nat → Nat} {p : Program} {l : Launch} {e : Env} {s : State} {m : MethodId} {args : Array Value} {below : List Frame} {meth : Method} {c : Code} {M : Nat} (hM : 20 ≤ M) {post : Int32 → St → Prop} {k_103 : Int32 → Int32 → Int32 → Int32 → Int32 → Int32 → St → Prop} (hk_103 : ∀ (v1 : Int32) (v2 : Int32) (v3 : Int32) (v4 : Int32) (v5 : Int32) (v6 : Int32) (σ : St) (H : Heap) (locs : List Loc) (ls : Array Slot), k_103 v1 v2 v3 v4 v5 v6 σ → WH Γ YM M ad σ s H locs → lv_has ls 7 [(0, .ref (ad 0)), (1, .int v1), (2, .int v2), (3, .int v3), (4, .int v4), (5, .int v5), (6, .int v6)] → W p l e (rmL 2 0 0) s m args below meth c H locs 0 0 (MQ below (va_Qi post (fun u t => WC Γ YM M ad u t) (AA Γ)) args s 0 0 (AA Γ)) (F0 m 103 ls []))
    (v1 : Int32) (v2 : Int32) (v3 : Int32) (v4 : Int32) (v5 : Int32) (v6 : Int32) (σ : St) (H : Heap) (locs : List Loc) (ls : Array Slot) (h : w_X7_copy_103 M post k_103 v1 v2 v3 v4 v5 v6 σ) (hc : CX Γ p s m args meth c cX7_copy RX7 7) (hr : meth.sig.returnType = (Option.some Jvm.ClassFile.FieldType.int)) (hw : WH Γ YM M ad σ s H locs) (hl : lv_has ls 7 [(0, .ref (ad 0)), (1, .int v1), (2, .int v2), (3, .int v3), (4, .int v4), (5, .int v5), (6, .int v6)]) :
    W p l e (rmL 2 0 0) s m args below meth c H locs 0 0 (MQ below (va_Qi post (fun u t => WC Γ YM M ad u t) (AA Γ)) args s 0 0 (AA Γ)) (F0 m 103 ls []) := by
  have hx := hc.1
  have hb := hc.2.1
  unfold w_X7_copy_103 at h
  refine lv_iload hx hb dX7_copy_103 (lv_at hl 6 rfl) ?_
  refine lv_iload hx hb dX7_copy_105 (lv_at hl 5 rfl) ?_
  refine lv_icmp_ge (tgt := 137) hx hb dX7_copy_107 (by decide) (fun c1 => ?_) (fun c1 => ?_)
  · replace h := h.1 c1
    refine lv_iconst (v := 0) hx hb dX7_copy_137 (by decide) ?_
    refine lv_istore (lv' := [(6, .int 0), (0, .ref (ad 0)), (1, .int v1), (2, .int v2), (3, .int v3), (4, .int v4), (5, .int v5)]) hx hb dX7_copy_138 hl (by decide) rfl (fun ls hl => ?_)
    obtain ⟨n, h⟩ := h
    exact bl_X7_copy_140 hM hc hr n v3 v4 v5 0 σ _ _ _ h  hw (lv_sub hl [1, 4, 5, 6, 0] rfl)
  · replace h := h.2 c1
    refine lv_aload_n hx hb dX7_copy_110 rfl (lv_at hl 0 rfl) ?_
    refine fg_X7_65 hc hw (Nat.lt_of_lt_of_le (by decide) hM) rfl dX7_copy_111 ?_
    refine lv_iload hx hb dX7_copy_114 (lv_at hl 6 rfl) ?_
    refine lv_aload_n hx hb dX7_copy_116 rfl (lv_at hl 0 rfl) ?_
    refine fg_X7_62 hc hw (Nat.lt_of_lt_of_le (by decide) hM) rfl dX7_copy_117 ?_
    refine lv_bipush (v := 40) hx hb dX7_copy_120 (by decide) ?_
    refine lv_iload_n hx hb dX7_copy_122 rfl (lv_at hl 1 rfl) ?_
    refine lv_imul hx hb dX7_copy_123 ?_
    refine lv_iload_n hx hb dX7_copy_124 rfl (lv_at hl 2 rfl) ?_
    refine lv_iadd hx hb dX7_copy_125 ?_
    refine lv_iload hx hb dX7_copy_126 (lv_at hl 6 rfl) ?_
    refine lv_iadd hx hb dX7_copy_128 ?_
    refine g_ialdK (Y := YM) (kd := 38) (n := 160) (k := (((40 * v1) + v2) + v6).toNatClampNeg) (o := 18) (by decide) (by decide) rfl hc hw (Nat.lt_of_lt_of_le (by decide) hM) rfl rfl h.1 rfl dX7_copy_129 ?_
    replace h := h.2
    refine lv_topi (fun x2 ex2 => ?_)
    replace h := h x2 ex2
    have hin := h.1
    replace h := h.2
    refine g_iastK (Y := YM) (kd := 39) (n := 40) (k := v6.toNatClampNeg) (o := 19) YM_ok (by decide) (by decide) rfl hc hw (Nat.lt_of_lt_of_le (by decide) hM) rfl rfl hin rfl dX7_copy_130 (fun σ3 H locs eσ3 hw => ?_)
    replace h := h σ3 eσ3
    obtain ⟨x4, ex4⟩ : ∃ z, z = v6 + 1 := ⟨_, rfl⟩
    replace h := h x4 ex4
    refine lv_iinc (v := x4) (lv' := [(6, .int x4), (0, .ref (ad 0)), (1, .int v1), (2, .int v2), (3, .int v3), (4, .int v4), (5, .int v5)]) hx hb dX7_copy_131 hl (k := 6) rfl (by rw [ex4]; rfl) (by decide) rfl (fun ls hl => ?_)
    refine lv_goto (tgt := 103) hx hb dX7_copy_134 (by decide) ?_
    exact hk_103 v1 v2 v3 v4 v5 x4 σ3 _ _ _ h  hw (lv_sub hl [1, 2, 3, 4, 5, 6, 0] rfl)
def wl_X7_copy_103 (M : Nat) (post : Int32 → St → Prop) : Nat → Int32 → Int32 → Int32 → Int32 → Int32 → Int32 → St → Prop
  | 0, _, _, _, _, _, _, _ => False
  | n + 1, v1, v2, v3, v4, v5, v6, σ => w_X7_copy_103 M post (wl_X7_copy_103 M post n) v1 v2 v3 v4 v5 v6 σ
set_option maxHeartbeats 4000000 in
theorem bl_X7_copy_103 {Γ : Gm} {ad : Nat → Nat} {p : Program} {l : Launch} {e : Env} {s : State} {m : MethodId} {args : Array Value} {below : List Frame} {meth : Method} {c : Code} {M : Nat} (hM : 20 ≤ M) {post : Int32 → St → Prop}
    (hc : CX Γ p s m args meth c cX7_copy RX7 7) (hr : meth.sig.returnType = (Option.some Jvm.ClassFile.FieldType.int)) :
    ∀ (n : Nat) (v1 : Int32) (v2 : Int32) (v3 : Int32) (v4 : Int32) (v5 : Int32) (v6 : Int32) (σ : St) (H : Heap) (locs : List Loc) (ls : Array Slot), wl_X7_copy_103 M post n v1 v2 v3 v4 v5 v6 σ → WH Γ YM M ad σ s H locs → lv_has ls 7 [(0, .ref (ad 0)), (1, .int v1), (2, .int v2), (3, .int v3), (4, .int v4), (5, .int v5), (6, .int v6)] → W p l e (rmL 2 0 0) s m args below meth c H locs 0 0 (MQ below (va_Qi post (fun u t => WC Γ YM M ad u t) (AA Γ)) args s 0 0 (AA Γ)) (F0 m 103 ls []) := by
  intro n
  induction n with
  | zero => intro v1 v2 v3 v4 v5 v6 σ H locs ls h; exact h.elim
  | succ n ih =>
    intro v1 v2 v3 v4 v5 v6 σ H locs ls h  hw hl
    exact b_X7_copy_103 hM ih v1 v2 v3 v4 v5 v6 σ H locs ls h  hc hr hw hl
def w_X7_copy (M : Nat) (post : Int32 → St → Prop) (a1 : Int32) (a2 : Int32) (a3 : Int32) (a4 : Int32) (a5 : Int32) (σ : St) : Prop :=
  w_X7_isSheet M (fun r2 σ1 => ((r2 = 0 → (post (-2) σ1)) ∧ (¬ (r2 = 0) → (w_X7_isSheet M (fun r5 σ4 => ((r5 = 0 → (post (-2) σ4)) ∧ (¬ (r5 = 0) → ((vp_in a1 4) ∧ (((gi σ4 16 a1.toNatClampNeg) < 0 → (post (-11) σ4)) ∧ (¬ ((gi σ4 16 a1.toNatClampNeg) < 0) → ((vp_in a3 4) ∧ ((0 ≤ (gi σ4 16 a3.toNatClampNeg) → ((vp_in a1 4) ∧ ((vp_in a3 4) ∧ (((gi σ4 16 a1.toNatClampNeg) = (gi σ4 16 a3.toNatClampNeg) → ((a5 < 0 → (post (-12) σ4)) ∧ (¬ (a5 < 0) → ((a2 < 0 → (post (-12) σ4)) ∧ (¬ (a2 < 0) → ((a4 < 0 → (post (-12) σ4)) ∧ (¬ (a4 < 0) → ((vp_in a1 4) ∧ (∀ x13 : Int32, x13 = (gi σ4 17 a1.toNatClampNeg) - a5 → ((x13 < a2 → (post (-12) σ4)) ∧ (¬ (x13 < a2) → ((vp_in a3 4) ∧ (∀ x15 : Int32, x15 = (gi σ4 17 a3.toNatClampNeg) - a5 → ((a4 ≤ x15 → (∃ n, wl_X7_copy_103 M post n a1 a2 a3 a4 a5 0 σ4)) ∧ (¬ (a4 ≤ x15) → (post (-12) σ4)))))))))))))))) ∧ (¬ ((gi σ4 16 a1.toNatClampNeg) = (gi σ4 16 a3.toNatClampNeg)) → (post (-13) σ4)))))) ∧ (¬ (0 ≤ (gi σ4 16 a3.toNatClampNeg)) → (post (-11) σ4)))))))))) a3 σ1)))) a1 σ
set_option maxHeartbeats 4000000 in
set_option maxRecDepth 20000 in
theorem m_X7_copy {Γ : Gm} {ad : Nat → Nat} {M : Nat} (l : Launch) (hM : 20 ≤ M) {post : Int32 → St → Prop} (a1 : Int32) (a2 : Int32) (a3 : Int32) (a4 : Int32) (a5 : Int32) (σ : St) (h : w_X7_copy M post a1 a2 a3 a4 a5 σ) : Ci l Γ YM M ad σ yX7_copy cX7_copy 7 (Option.some Jvm.ClassFile.FieldType.int) 2 0 0 [.ref (ad 0), .int a1, .int a2, .int a3, .int a4, .int a5] post := by
  refine g_start (by decide) (Nat.le_of_ble_eq_true rfl) ?_
  intro p e s m args below meth c ls hc hr hn hl hw
  have hc : CX Γ p s m args meth c cX7_copy RX7 7 := hc
  have hl : lv_has ls 7 [(0, .ref (ad 0)), (1, .int a1), (2, .int a2), (3, .int a3), (4, .int a4), (5, .int a5)] := hl
  have hx := hc.1
  have hb := hc.2.1
  unfold w_X7_copy at h
  generalize hHH : s.heap = H0 at hw ⊢
  refine lv_iload_n hx hb dX7_copy_0 rfl (lv_at hl 1 rfl) ?_
  refine g_Si (Y := YM) (n := 1) (k := 1) (As := [.int a1]) (rest := []) vw_X7_305 ⟨Nat.le_of_ble_eq_true rfl, Nat.le_of_ble_eq_true rfl, Nat.zero_le _, Nat.zero_le _⟩ hc hw hl.1 (m_X7_isSheet l hM a1 σ h) rfl rfl (Nat.le_of_ble_eq_true rfl) dX7_copy_1 (fun r2 σ1 H locs h hw => ?_)
  refine lv_if_eq (tgt := 14) hx hb dX7_copy_4 (by decide) (fun c3 => ?_) (fun c3 => ?_)
  · replace h := h.1 c3
    refine lv_bipush (v := (-2)) hx hb dX7_copy_14 (by decide) ?_
    exact g_iret hc hr hw h dX7_copy_16
  · replace h := h.2 c3
    refine lv_iload_n hx hb dX7_copy_7 rfl (lv_at hl 3 rfl) ?_
    refine g_Si (Y := YM) (n := 1) (k := 1) (As := [.int a3]) (rest := []) vw_X7_305 ⟨Nat.le_of_ble_eq_true rfl, Nat.le_of_ble_eq_true rfl, Nat.zero_le _, Nat.zero_le _⟩ hc hw hl.1 (m_X7_isSheet l hM a3 σ1 h) rfl rfl (Nat.le_of_ble_eq_true rfl) dX7_copy_8 (fun r5 σ4 H locs h hw => ?_)
    refine lv_if_ne (tgt := 17) hx hb dX7_copy_11 (by decide) (fun c6 => ?_) (fun c6 => ?_)
    · replace h := h.2 c6
      refine lv_aload_n hx hb dX7_copy_17 rfl (lv_at hl 0 rfl) ?_
      refine fg_X7_56 hc hw (Nat.lt_of_lt_of_le (by decide) hM) rfl dX7_copy_18 ?_
      refine lv_iload_n hx hb dX7_copy_21 rfl (lv_at hl 1 rfl) ?_
      refine g_ialdK (Y := YM) (kd := 36) (n := 4) (k := a1.toNatClampNeg) (o := 16) (by decide) (by decide) rfl hc hw (Nat.lt_of_lt_of_le (by decide) hM) rfl rfl h.1 rfl dX7_copy_22 ?_
      replace h := h.2
      refine lv_if_lt (tgt := 35) hx hb dX7_copy_23 (by decide) (fun c7 => ?_) (fun c7 => ?_)
      · replace h := h.1 c7
        refine lv_bipush (v := (-11)) hx hb dX7_copy_35 (by decide) ?_
        exact g_iret hc hr hw h dX7_copy_37
      · replace h := h.2 c7
        refine lv_aload_n hx hb dX7_copy_26 rfl (lv_at hl 0 rfl) ?_
        refine fg_X7_56 hc hw (Nat.lt_of_lt_of_le (by decide) hM) rfl dX7_copy_27 ?_
        refine lv_iload_n hx hb dX7_copy_30 rfl (lv_at hl 3 rfl) ?_
        refine g_ialdK (Y := YM) (kd := 36) (n := 4) (k := a3.toNatClampNeg) (o := 16) (by decide) (by decide) rfl hc hw (Nat.lt_of_lt_of_le (by decide) hM) rfl rfl h.1 rfl dX7_copy_31 ?_
        replace h := h.2
        refine lv_if_ge (tgt := 38) hx hb dX7_copy_32 (by decide) (fun c8 => ?_) (fun c8 => ?_)
        · replace h := h.1 c8
          refine lv_aload_n hx hb dX7_copy_38 rfl (lv_at hl 0 rfl) ?_
          refine fg_X7_56 hc hw (Nat.lt_of_lt_of_le (by decide) hM) rfl dX7_copy_39 ?_
          refine lv_iload_n hx hb dX7_copy_42 rfl (lv_at hl 1 rfl) ?_
          refine g_ialdK (Y := YM) (kd := 36) (n := 4) (k := a1.toNatClampNeg) (o := 16) (by decide) (by decide) rfl hc hw (Nat.lt_of_lt_of_le (by decide) hM) rfl rfl h.1 rfl dX7_copy_43 ?_
          replace h := h.2
          refine lv_aload_n hx hb dX7_copy_44 rfl (lv_at hl 0 rfl) ?_
          refine fg_X7_56 hc hw (Nat.lt_of_lt_of_le (by decide) hM) rfl dX7_copy_45 ?_
          refine lv_iload_n hx hb dX7_copy_48 rfl (lv_at hl 3 rfl) ?_
          refine g_ialdK (Y := YM) (kd := 36) (n := 4) (k := a3.toNatClampNeg) (o := 16) (by decide) (by decide) rfl hc hw (Nat.lt_of_lt_of_le (by decide) hM) rfl rfl h.1 rfl dX7_copy_49 ?_
          replace h := h.2
          refine lv_icmp_eq (tgt := 56) hx hb dX7_copy_50 (by decide) (fun c9 => ?_) (fun c9 => ?_)
          · replace h := h.1 c9
            refine lv_iload hx hb dX7_copy_56 (lv_at hl 5 rfl) ?_
            refine lv_if_lt (tgt := 97) hx hb dX7_copy_58 (by decide) (fun c10 => ?_) (fun c10 => ?_)
            · replace h := h.1 c10
              refine lv_bipush (v := (-12)) hx hb dX7_copy_97 (by decide) ?_
              exact g_iret hc hr hw h dX7_copy_99
            · replace h := h.2 c10
              refine lv_iload_n hx hb dX7_copy_61 rfl (lv_at hl 2 rfl) ?_
              refine lv_if_lt (tgt := 97) hx hb dX7_copy_62 (by decide) (fun c11 => ?_) (fun c11 => ?_)
              · replace h := h.1 c11
                refine lv_bipush (v := (-12)) hx hb dX7_copy_97 (by decide) ?_
                exact g_iret hc hr hw h dX7_copy_99
              · replace h := h.2 c11
                refine lv_iload hx hb dX7_copy_65 (lv_at hl 4 rfl) ?_
                refine lv_if_lt (tgt := 97) hx hb dX7_copy_67 (by decide) (fun c12 => ?_) (fun c12 => ?_)
                · replace h := h.1 c12
                  refine lv_bipush (v := (-12)) hx hb dX7_copy_97 (by decide) ?_
                  exact g_iret hc hr hw h dX7_copy_99
                · replace h := h.2 c12
                  refine lv_iload_n hx hb dX7_copy_70 rfl (lv_at hl 2 rfl) ?_
                  refine lv_aload_n hx hb dX7_copy_71 rfl (lv_at hl 0 rfl) ?_
                  refine fg_X7_59 hc hw (Nat.lt_of_lt_of_le (by decide) hM) rfl dX7_copy_72 ?_
                  refine lv_iload_n hx hb dX7_copy_75 rfl (lv_at hl 1 rfl) ?_
                  refine g_ialdK (Y := YM) (kd := 37) (n := 4) (k := a1.toNatClampNeg) (o := 17) (by decide) (by decide) rfl hc hw (Nat.lt_of_lt_of_le (by decide) hM) rfl rfl h.1 rfl dX7_copy_76 ?_
                  replace h := h.2
                  refine lv_iload hx hb dX7_copy_77 (lv_at hl 5 rfl) ?_
                  refine lv_isub hx hb dX7_copy_79 ?_
                  refine lv_topi (fun x13 ex13 => ?_)
                  replace h := h x13 ex13
                  refine lv_icmp_gt (tgt := 97) hx hb dX7_copy_80 (by decide) (fun c14 => ?_) (fun c14 => ?_)
                  · replace h := h.1 c14
                    refine lv_bipush (v := (-12)) hx hb dX7_copy_97 (by decide) ?_
                    exact g_iret hc hr hw h dX7_copy_99
                  · replace h := h.2 c14
                    refine lv_iload hx hb dX7_copy_83 (lv_at hl 4 rfl) ?_
                    refine lv_aload_n hx hb dX7_copy_85 rfl (lv_at hl 0 rfl) ?_
                    refine fg_X7_59 hc hw (Nat.lt_of_lt_of_le (by decide) hM) rfl dX7_copy_86 ?_
                    refine lv_iload_n hx hb dX7_copy_89 rfl (lv_at hl 3 rfl) ?_
                    refine g_ialdK (Y := YM) (kd := 37) (n := 4) (k := a3.toNatClampNeg) (o := 17) (by decide) (by decide) rfl hc hw (Nat.lt_of_lt_of_le (by decide) hM) rfl rfl h.1 rfl dX7_copy_90 ?_
                    replace h := h.2
                    refine lv_iload hx hb dX7_copy_91 (lv_at hl 5 rfl) ?_
                    refine lv_isub hx hb dX7_copy_93 ?_
                    refine lv_topi (fun x15 ex15 => ?_)
                    replace h := h x15 ex15
                    refine lv_icmp_le (tgt := 100) hx hb dX7_copy_94 (by decide) (fun c16 => ?_) (fun c16 => ?_)
                    · replace h := h.1 c16
                      refine lv_iconst (v := 0) hx hb dX7_copy_100 (by decide) ?_
                      refine lv_istore (lv' := [(6, .int 0), (0, .ref (ad 0)), (1, .int a1), (2, .int a2), (3, .int a3), (4, .int a4), (5, .int a5)]) hx hb dX7_copy_101 hl (by decide) rfl (fun ls hl => ?_)
                      obtain ⟨n, h⟩ := h
                      exact bl_X7_copy_103 hM hc hr n a1 a2 a3 a4 a5 0 σ4 _ _ _ h  hw (lv_sub hl [1, 2, 3, 4, 5, 6, 0] rfl)
                    · replace h := h.2 c16
                      refine lv_bipush (v := (-12)) hx hb dX7_copy_97 (by decide) ?_
                      exact g_iret hc hr hw h dX7_copy_99
          · replace h := h.2 c9
            refine lv_bipush (v := (-13)) hx hb dX7_copy_53 (by decide) ?_
            exact g_iret hc hr hw h dX7_copy_55
        · replace h := h.2 c8
          refine lv_bipush (v := (-11)) hx hb dX7_copy_35 (by decide) ?_
          exact g_iret hc hr hw h dX7_copy_37
    · replace h := h.1 c6
      refine lv_bipush (v := (-2)) hx hb dX7_copy_14 (by decide) ?_
      exact g_iret hc hr hw h dX7_copy_16
def w_X7_actsBy_75 (M : Nat) (post : Int32 → St → Prop) (k_75 : Int32 → Int32 → Int32 → Int32 → Int32 → St → Prop) (v1 : Int32) (v3 : Int32) (v4 : Int32) (v5 : Int32) (v6 : Int32) (σ : St) : Prop :=
  (v4 ≤ v6 → (post v5 σ)) ∧ (¬ (v4 ≤ v6) → ((v3 < 0 → (post (-12) σ)) ∧ (¬ (v3 < 0) → ((vp_in v1 4) ∧ (∀ x3 : Int32, x3 = (gi σ 17 v1.toNatClampNeg) - 3 → ((v3 ≤ (x3 - (3 * v6)) → (∀ x5 : Int32, x5 = ((40 * v1) + v3) + (3 * v6) → ((vp_in x5 160) ∧ ((vp_in (x5 + 1) 160) ∧ (∀ x6 : Int32, x6 = gi σ 18 ((x5 + 1).toNatClampNeg) → ((vp_in (x5 + 2) 160) ∧ (∀ x7 : Int32, x7 = gi σ 18 ((x5 + 2).toNatClampNeg) → (w_X7_act M (fun r9 σ8 => ((r9 < 0 → (∀ x11 : Int32, x11 = v6 + 1 → (k_75 v1 v3 v4 (v5 + 0) x11 σ8))) ∧ (¬ (r9 < 0) → (∀ x12 : Int32, x12 = v6 + 1 → (k_75 v1 v3 v4 (v5 + 1) x12 σ8))))) (gi σ 18 x5.toNatClampNeg) x6 x7 σ)))))))) ∧ (¬ (v3 ≤ (x3 - (3 * v6))) → (post (-12) σ))))))))
set_option maxHeartbeats 4000000 in
set_option maxRecDepth 20000 in
theorem b_X7_actsBy_75 {Γ : Gm} {ad : Nat → Nat} {p : Program} {l : Launch} {e : Env} {s : State} {m : MethodId} {args : Array Value} {below : List Frame} {meth : Method} {c : Code} {M : Nat} (hM : 20 ≤ M) {post : Int32 → St → Prop} {k_75 : Int32 → Int32 → Int32 → Int32 → Int32 → St → Prop} (hk_75 : ∀ (v1 : Int32) (v3 : Int32) (v4 : Int32) (v5 : Int32) (v6 : Int32) (σ : St) (H : Heap) (locs : List Loc) (ls : Array Slot), k_75 v1 v3 v4 v5 v6 σ → WH Γ YM M ad σ s H locs → lv_has ls 8 [(0, .ref (ad 0)), (1, .int v1), (3, .int v3), (4, .int v4), (5, .int v5), (6, .int v6)] → W p l e (rmL 2 0 0) s m args below meth c H locs 0 0 (MQ below (va_Qi post (fun u t => WC Γ YM M ad u t) (AA Γ)) args s 0 0 (AA Γ)) (F0 m 75 ls []))
    (v1 : Int32) (v3 : Int32) (v4 : Int32) (v5 : Int32) (v6 : Int32) (σ : St) (H : Heap) (locs : List Loc) (ls : Array Slot) (h : w_X7_actsBy_75 M post k_75 v1 v3 v4 v5 v6 σ) (hc : CX Γ p s m args meth c cX7_actsBy RX7 8) (hr : meth.sig.returnType = (Option.some Jvm.ClassFile.FieldType.int)) (hw : WH Γ YM M ad σ s H locs) (hl : lv_has ls 8 [(0, .ref (ad 0)), (1, .int v1), (3, .int v3), (4, .int v4), (5, .int v5), (6, .int v6)]) :
    W p l e (rmL 2 0 0) s m args below meth c H locs 0 0 (MQ below (va_Qi post (fun u t => WC Γ YM M ad u t) (AA Γ)) args s 0 0 (AA Γ)) (F0 m 75 ls []) := by
  have hx := hc.1
  have hb := hc.2.1
  unfold w_X7_actsBy_75 at h
  refine lv_iload hx hb dX7_actsBy_75 (lv_at hl 5 rfl) ?_
  refine lv_iload hx hb dX7_actsBy_77 (lv_at hl 3 rfl) ?_
  refine lv_icmp_ge (tgt := 167) hx hb dX7_actsBy_79 (by decide) (fun c1 => ?_) (fun c1 => ?_)
  · replace h := h.1 c1
    refine lv_iload hx hb dX7_actsBy_167 (lv_at hl 4 rfl) ?_
    exact g_iret hc hr hw h dX7_actsBy_169
  · replace h := h.2 c1
    refine lv_iload_n hx hb dX7_actsBy_82 rfl (lv_at hl 2 rfl) ?_
    refine lv_if_lt (tgt := 103) hx hb dX7_actsBy_83 (by decide) (fun c2 => ?_) (fun c2 => ?_)
    · replace h := h.1 c2
      refine lv_bipush (v := (-12)) hx hb dX7_actsBy_103 (by decide) ?_
      exact g_iret hc hr hw h dX7_actsBy_105
    · replace h := h.2 c2
      refine lv_iload_n hx hb dX7_actsBy_86 rfl (lv_at hl 2 rfl) ?_
      refine lv_aload_n hx hb dX7_actsBy_87 rfl (lv_at hl 0 rfl) ?_
      refine fg_X7_59 hc hw (Nat.lt_of_lt_of_le (by decide) hM) rfl dX7_actsBy_88 ?_
      refine lv_iload_n hx hb dX7_actsBy_91 rfl (lv_at hl 1 rfl) ?_
      refine g_ialdK (Y := YM) (kd := 37) (n := 4) (k := v1.toNatClampNeg) (o := 17) (by decide) (by decide) rfl hc hw (Nat.lt_of_lt_of_le (by decide) hM) rfl rfl h.1 rfl dX7_actsBy_92 ?_
      replace h := h.2
      refine lv_iconst (v := 3) hx hb dX7_actsBy_93 (by decide) ?_
      refine lv_isub hx hb dX7_actsBy_94 ?_
      refine lv_topi (fun x3 ex3 => ?_)
      replace h := h x3 ex3
      refine lv_iconst (v := 3) hx hb dX7_actsBy_95 (by decide) ?_
      refine lv_iload hx hb dX7_actsBy_96 (lv_at hl 5 rfl) ?_
      refine lv_imul hx hb dX7_actsBy_98 ?_
      refine lv_isub hx hb dX7_actsBy_99 ?_
      refine lv_icmp_le (tgt := 106) hx hb dX7_actsBy_100 (by decide) (fun c4 => ?_) (fun c4 => ?_)
      · replace h := h.1 c4
        refine lv_bipush (v := 40) hx hb dX7_actsBy_106 (by decide) ?_
        refine lv_iload_n hx hb dX7_actsBy_108 rfl (lv_at hl 1 rfl) ?_
        refine lv_imul hx hb dX7_actsBy_109 ?_
        refine lv_iload_n hx hb dX7_actsBy_110 rfl (lv_at hl 2 rfl) ?_
        refine lv_iadd hx hb dX7_actsBy_111 ?_
        refine lv_iconst (v := 3) hx hb dX7_actsBy_112 (by decide) ?_
        refine lv_iload hx hb dX7_actsBy_113 (lv_at hl 5 rfl) ?_
        refine lv_imul hx hb dX7_actsBy_115 ?_
        refine lv_iadd hx hb dX7_actsBy_116 ?_
        refine lv_topi (fun x5 ex5 => ?_)
        replace h := h x5 ex5
        refine lv_istore (lv' := [(7, .int x5), (0, .ref (ad 0)), (1, .int v1), (3, .int v3), (4, .int v4), (5, .int v5), (6, .int v6)]) hx hb dX7_actsBy_117 hl (by decide) rfl (fun ls hl => ?_)
        refine lv_iload hx hb dX7_actsBy_119 (lv_at hl 5 rfl) ?_
        refine lv_aload_n hx hb dX7_actsBy_121 rfl (lv_at hl 1 rfl) ?_
        refine lv_aload_n hx hb dX7_actsBy_122 rfl (lv_at hl 1 rfl) ?_
        refine fg_X7_62 hc hw (Nat.lt_of_lt_of_le (by decide) hM) rfl dX7_actsBy_123 ?_
        refine lv_iload hx hb dX7_actsBy_126 (lv_at hl 0 rfl) ?_
        refine g_ialdK (Y := YM) (kd := 38) (n := 160) (k := x5.toNatClampNeg) (o := 18) (by decide) (by decide) rfl hc hw (Nat.lt_of_lt_of_le (by decide) hM) rfl rfl h.1 rfl dX7_actsBy_128 ?_
        replace h := h.2
        refine lv_aload_n hx hb dX7_actsBy_129 rfl (lv_at hl 1 rfl) ?_
        refine fg_X7_62 hc hw (Nat.lt_of_lt_of_le (by decide) hM) rfl dX7_actsBy_130 ?_
        refine lv_iload hx hb dX7_actsBy_133 (lv_at hl 0 rfl) ?_
        refine lv_iconst (v := 1) hx hb dX7_actsBy_135 (by decide) ?_
        refine lv_iadd hx hb dX7_actsBy_136 ?_
        refine g_ialdK (Y := YM) (kd := 38) (n := 160) (k := (x5 + 1).toNatClampNeg) (o := 18) (by decide) (by decide) rfl hc hw (Nat.lt_of_lt_of_le (by decide) hM) rfl rfl h.1 rfl dX7_actsBy_137 ?_
        replace h := h.2
        refine lv_topi (fun x6 ex6 => ?_)
        replace h := h x6 ex6
        refine lv_aload_n hx hb dX7_actsBy_138 rfl (lv_at hl 1 rfl) ?_
        refine fg_X7_62 hc hw (Nat.lt_of_lt_of_le (by decide) hM) rfl dX7_actsBy_139 ?_
        refine lv_iload hx hb dX7_actsBy_142 (lv_at hl 0 rfl) ?_
        refine lv_iconst (v := 2) hx hb dX7_actsBy_144 (by decide) ?_
        refine lv_iadd hx hb dX7_actsBy_145 ?_
        refine g_ialdK (Y := YM) (kd := 38) (n := 160) (k := (x5 + 2).toNatClampNeg) (o := 18) (by decide) (by decide) rfl hc hw (Nat.lt_of_lt_of_le (by decide) hM) rfl rfl h.1 rfl dX7_actsBy_146 ?_
        replace h := h.2
        refine lv_topi (fun x7 ex7 => ?_)
        replace h := h x7 ex7
        refine g_Vi (Y := YM) (ci := 7) (n := 3) (k := 1) (As := [.int (gi σ 18 x5.toNatClampNeg), .int x6, .int x7]) (rest := [.int v5]) rfl (by decide) vw_X7_336 ⟨Nat.le_of_ble_eq_true rfl, Nat.le_of_ble_eq_true rfl, Nat.zero_le _, Nat.zero_le _⟩ hc hw hl.1 (Nat.lt_of_lt_of_le (by decide) hM) rfl (m_X7_act l hM (gi σ 18 x5.toNatClampNeg) x6 x7 σ h) rfl rfl (Nat.le_of_ble_eq_true rfl) dX7_actsBy_147 (fun r9 σ8 H locs h hw => ?_)
        refine lv_if_lt (tgt := 157) hx hb dX7_actsBy_150 (by decide) (fun c10 => ?_) (fun c10 => ?_)
        · replace h := h.1 c10
          refine lv_iconst (v := 0) hx hb dX7_actsBy_157 (by decide) ?_
          refine lv_iadd hx hb dX7_actsBy_158 ?_
          refine lv_istore (lv' := [(5, .int (v5 + 0)), (7, .int x5), (0, .ref (ad 0)), (1, .int v1), (3, .int v3), (4, .int v4), (6, .int v6)]) hx hb dX7_actsBy_159 hl (by decide) rfl (fun ls hl => ?_)
          obtain ⟨x11, ex11⟩ : ∃ z, z = v6 + 1 := ⟨_, rfl⟩
          replace h := h x11 ex11
          refine lv_iinc (v := x11) (lv' := [(6, .int x11), (5, .int (v5 + 0)), (7, .int x5), (0, .ref (ad 0)), (1, .int v1), (3, .int v3), (4, .int v4)]) hx hb dX7_actsBy_161 hl (k := 6) rfl (by rw [ex11]; rfl) (by decide) rfl (fun ls hl => ?_)
          refine lv_goto (tgt := 75) hx hb dX7_actsBy_164 (by decide) ?_
          exact hk_75 v1 v3 v4 (v5 + 0) x11 σ8 _ _ _ h  hw (lv_sub hl [3, 4, 5, 6, 1, 0] rfl)
        · replace h := h.2 c10
          refine lv_iconst (v := 1) hx hb dX7_actsBy_153 (by decide) ?_
          refine lv_goto (tgt := 158) hx hb dX7_actsBy_154 (by decide) ?_
          refine lv_iadd hx hb dX7_actsBy_158 ?_
          refine lv_istore (lv' := [(5, .int (v5 + 1)), (7, .int x5), (0, .ref (ad 0)), (1, .int v1), (3, .int v3), (4, .int v4), (6, .int v6)]) hx hb dX7_actsBy_159 hl (by decide) rfl (fun ls hl => ?_)
          obtain ⟨x12, ex12⟩ : ∃ z, z = v6 + 1 := ⟨_, rfl⟩
          replace h := h x12 ex12
          refine lv_iinc (v := x12) (lv' := [(6, .int x12), (5, .int (v5 + 1)), (7, .int x5), (0, .ref (ad 0)), (1, .int v1), (3, .int v3), (4, .int v4)]) hx hb dX7_actsBy_161 hl (k := 6) rfl (by rw [ex12]; rfl) (by decide) rfl (fun ls hl => ?_)
          refine lv_goto (tgt := 75) hx hb dX7_actsBy_164 (by decide) ?_
          exact hk_75 v1 v3 v4 (v5 + 1) x12 σ8 _ _ _ h  hw (lv_sub hl [3, 4, 5, 6, 1, 0] rfl)
      · replace h := h.2 c4
        refine lv_bipush (v := (-12)) hx hb dX7_actsBy_103 (by decide) ?_
        exact g_iret hc hr hw h dX7_actsBy_105
def wl_X7_actsBy_75 (M : Nat) (post : Int32 → St → Prop) : Nat → Int32 → Int32 → Int32 → Int32 → Int32 → St → Prop
  | 0, _, _, _, _, _, _ => False
  | n + 1, v1, v3, v4, v5, v6, σ => w_X7_actsBy_75 M post (wl_X7_actsBy_75 M post n) v1 v3 v4 v5 v6 σ
set_option maxHeartbeats 4000000 in
theorem bl_X7_actsBy_75 {Γ : Gm} {ad : Nat → Nat} {p : Program} {l : Launch} {e : Env} {s : State} {m : MethodId} {args : Array Value} {below : List Frame} {meth : Method} {c : Code} {M : Nat} (hM : 20 ≤ M) {post : Int32 → St → Prop}
    (hc : CX Γ p s m args meth c cX7_actsBy RX7 8) (hr : meth.sig.returnType = (Option.some Jvm.ClassFile.FieldType.int)) :
    ∀ (n : Nat) (v1 : Int32) (v3 : Int32) (v4 : Int32) (v5 : Int32) (v6 : Int32) (σ : St) (H : Heap) (locs : List Loc) (ls : Array Slot), wl_X7_actsBy_75 M post n v1 v3 v4 v5 v6 σ → WH Γ YM M ad σ s H locs → lv_has ls 8 [(0, .ref (ad 0)), (1, .int v1), (3, .int v3), (4, .int v4), (5, .int v5), (6, .int v6)] → W p l e (rmL 2 0 0) s m args below meth c H locs 0 0 (MQ below (va_Qi post (fun u t => WC Γ YM M ad u t) (AA Γ)) args s 0 0 (AA Γ)) (F0 m 75 ls []) := by
  intro n
  induction n with
  | zero => intro v1 v3 v4 v5 v6 σ H locs ls h; exact h.elim
  | succ n ih =>
    intro v1 v3 v4 v5 v6 σ H locs ls h  hw hl
    exact b_X7_actsBy_75 hM ih v1 v3 v4 v5 v6 σ H locs ls h  hc hr hw hl
def w_X7_actsBy_57 (M : Nat) (post : Int32 → St → Prop) (v1 : Int32) (v3 : Int32) (v4 : Int32) (σ : St) : Prop :=
  (vp_in v1 4) ∧ ((0 ≤ (gi σ 16 v1.toNatClampNeg) → (∃ n, wl_X7_actsBy_75 M post n v1 v3 v4 0 0 σ)) ∧ (¬ (0 ≤ (gi σ 16 v1.toNatClampNeg)) → (post (-11) σ)))
set_option maxHeartbeats 4000000 in
set_option maxRecDepth 20000 in
theorem b_X7_actsBy_57 {Γ : Gm} {ad : Nat → Nat} {p : Program} {l : Launch} {e : Env} {s : State} {m : MethodId} {args : Array Value} {below : List Frame} {meth : Method} {c : Code} {M : Nat} (hM : 20 ≤ M) {post : Int32 → St → Prop}
    (v1 : Int32) (v3 : Int32) (v4 : Int32) (σ : St) (H : Heap) (locs : List Loc) (ls : Array Slot) (h : w_X7_actsBy_57 M post v1 v3 v4 σ) (hc : CX Γ p s m args meth c cX7_actsBy RX7 8) (hr : meth.sig.returnType = (Option.some Jvm.ClassFile.FieldType.int)) (hw : WH Γ YM M ad σ s H locs) (hl : lv_has ls 8 [(0, .ref (ad 0)), (1, .int v1), (3, .int v3), (4, .int v4)]) :
    W p l e (rmL 2 0 0) s m args below meth c H locs 0 0 (MQ below (va_Qi post (fun u t => WC Γ YM M ad u t) (AA Γ)) args s 0 0 (AA Γ)) (F0 m 57 ls []) := by
  have hx := hc.1
  have hb := hc.2.1
  unfold w_X7_actsBy_57 at h
  refine lv_aload_n hx hb dX7_actsBy_57 rfl (lv_at hl 0 rfl) ?_
  refine fg_X7_56 hc hw (Nat.lt_of_lt_of_le (by decide) hM) rfl dX7_actsBy_58 ?_
  refine lv_iload_n hx hb dX7_actsBy_61 rfl (lv_at hl 1 rfl) ?_
  refine g_ialdK (Y := YM) (kd := 36) (n := 4) (k := v1.toNatClampNeg) (o := 16) (by decide) (by decide) rfl hc hw (Nat.lt_of_lt_of_le (by decide) hM) rfl rfl h.1 rfl dX7_actsBy_62 ?_
  replace h := h.2
  refine lv_if_ge (tgt := 69) hx hb dX7_actsBy_63 (by decide) (fun c1 => ?_) (fun c1 => ?_)
  · replace h := h.1 c1
    refine lv_iconst (v := 0) hx hb dX7_actsBy_69 (by decide) ?_
    refine lv_istore (lv' := [(5, .int 0), (0, .ref (ad 0)), (1, .int v1), (3, .int v3), (4, .int v4)]) hx hb dX7_actsBy_70 hl (by decide) rfl (fun ls hl => ?_)
    refine lv_iconst (v := 0) hx hb dX7_actsBy_72 (by decide) ?_
    refine lv_istore (lv' := [(6, .int 0), (5, .int 0), (0, .ref (ad 0)), (1, .int v1), (3, .int v3), (4, .int v4)]) hx hb dX7_actsBy_73 hl (by decide) rfl (fun ls hl => ?_)
    obtain ⟨n, h⟩ := h
    exact bl_X7_actsBy_75 hM hc hr n v1 v3 v4 0 0 σ _ _ _ h  hw (lv_sub hl [2, 3, 4, 5, 1, 0] rfl)
  · replace h := h.2 c1
    refine lv_bipush (v := (-11)) hx hb dX7_actsBy_66 (by decide) ?_
    exact g_iret hc hr hw h dX7_actsBy_68
def w_X7_actsBy (M : Nat) (post : Int32 → St → Prop) (a1 : Int32) (a2 : Int32) (a3 : Int32) (a4 : Int32) (σ : St) : Prop :=
  w_X7_isSheet M (fun r2 σ1 => ((r2 = 0 → (post (-2) σ1)) ∧ (¬ (r2 = 0) → (w_X7_in M (fun r5 σ4 => ((r5 = 0 → (post (-2) σ4)) ∧ (¬ (r5 = 0) → (w_X7_in M (fun r8 σ7 => ((r8 = 0 → (post (-2) σ7)) ∧ (¬ (r8 = 0) → ((vp_in a1 4) ∧ (((gi σ7 16 a1.toNatClampNeg) < 0 → (w_X7_actsBy_57 M post a1 a3 a4 σ7)) ∧ (¬ ((gi σ7 16 a1.toNatClampNeg) < 0) → ((vp_in a1 4) ∧ (((gi σ7 16 a1.toNatClampNeg) = a2 → (w_X7_actsBy_57 M post a1 a3 a4 σ7)) ∧ (¬ ((gi σ7 16 a1.toNatClampNeg) = a2) → (post (-13) σ7)))))))))) a4.toInt64 0 12 σ4)))) a2.toInt64 0 2 σ1)))) a1 σ
set_option maxHeartbeats 4000000 in
set_option maxRecDepth 20000 in
theorem m_X7_actsBy {Γ : Gm} {ad : Nat → Nat} {M : Nat} (l : Launch) (hM : 20 ≤ M) {post : Int32 → St → Prop} (a1 : Int32) (a2 : Int32) (a3 : Int32) (a4 : Int32) (σ : St) (h : w_X7_actsBy M post a1 a2 a3 a4 σ) : Ci l Γ YM M ad σ yX7_actsBy cX7_actsBy 8 (Option.some Jvm.ClassFile.FieldType.int) 2 0 0 [.ref (ad 0), .int a1, .int a2, .int a3, .int a4] post := by
  refine g_start (by decide) (Nat.le_of_ble_eq_true rfl) ?_
  intro p e s m args below meth c ls hc hr hn hl hw
  have hc : CX Γ p s m args meth c cX7_actsBy RX7 8 := hc
  have hl : lv_has ls 8 [(0, .ref (ad 0)), (1, .int a1), (2, .int a2), (3, .int a3), (4, .int a4)] := hl
  have hx := hc.1
  have hb := hc.2.1
  unfold w_X7_actsBy at h
  generalize hHH : s.heap = H0 at hw ⊢
  refine lv_iload_n hx hb dX7_actsBy_0 rfl (lv_at hl 1 rfl) ?_
  refine g_Si (Y := YM) (n := 1) (k := 1) (As := [.int a1]) (rest := []) vw_X7_305 ⟨Nat.le_of_ble_eq_true rfl, Nat.le_of_ble_eq_true rfl, Nat.zero_le _, Nat.zero_le _⟩ hc hw hl.1 (m_X7_isSheet l hM a1 σ h) rfl rfl (Nat.le_of_ble_eq_true rfl) dX7_actsBy_1 (fun r2 σ1 H locs h hw => ?_)
  refine lv_if_eq (tgt := 32) hx hb dX7_actsBy_4 (by decide) (fun c3 => ?_) (fun c3 => ?_)
  · replace h := h.1 c3
    refine lv_bipush (v := (-2)) hx hb dX7_actsBy_32 (by decide) ?_
    exact g_iret hc hr hw h dX7_actsBy_34
  · replace h := h.2 c3
    refine lv_iload_n hx hb dX7_actsBy_7 rfl (lv_at hl 2 rfl) ?_
    refine lv_i2l (v := a2.toInt64) hx hb dX7_actsBy_8 rfl ?_
    refine lv_lconst (v := 0) hx hb dX7_actsBy_9 (by decide) ?_
    refine lv_ldc2 (v := 2) hx hb hc.2.2.2.1 (hc.2.2.2.2.1 _ q_1100) dX7_actsBy_10 ?_
    refine g_Si (Y := YM) (n := 3) (k := 0) (As := [.long a2.toInt64, .long 0, .long 2]) (rest := []) vw_X7_75 ⟨Nat.le_of_ble_eq_true rfl, Nat.le_of_ble_eq_true rfl, Nat.zero_le _, Nat.zero_le _⟩ hc hw hl.1 (m_X7_in l hM a2.toInt64 0 2 σ1 h) rfl rfl (Nat.le_of_ble_eq_true rfl) dX7_actsBy_13 (fun r5 σ4 H locs h hw => ?_)
    refine lv_if_eq (tgt := 32) hx hb dX7_actsBy_16 (by decide) (fun c6 => ?_) (fun c6 => ?_)
    · replace h := h.1 c6
      refine lv_bipush (v := (-2)) hx hb dX7_actsBy_32 (by decide) ?_
      exact g_iret hc hr hw h dX7_actsBy_34
    · replace h := h.2 c6
      refine lv_iload hx hb dX7_actsBy_19 (lv_at hl 4 rfl) ?_
      refine lv_i2l (v := a4.toInt64) hx hb dX7_actsBy_21 rfl ?_
      refine lv_lconst (v := 0) hx hb dX7_actsBy_22 (by decide) ?_
      refine lv_ldc2 (v := 12) hx hb hc.2.2.2.1 (hc.2.2.2.2.1 _ q_1444) dX7_actsBy_23 ?_
      refine g_Si (Y := YM) (n := 3) (k := 0) (As := [.long a4.toInt64, .long 0, .long 12]) (rest := []) vw_X7_75 ⟨Nat.le_of_ble_eq_true rfl, Nat.le_of_ble_eq_true rfl, Nat.zero_le _, Nat.zero_le _⟩ hc hw hl.1 (m_X7_in l hM a4.toInt64 0 12 σ4 h) rfl rfl (Nat.le_of_ble_eq_true rfl) dX7_actsBy_26 (fun r8 σ7 H locs h hw => ?_)
      refine lv_if_ne (tgt := 35) hx hb dX7_actsBy_29 (by decide) (fun c9 => ?_) (fun c9 => ?_)
      · replace h := h.2 c9
        refine lv_aload_n hx hb dX7_actsBy_35 rfl (lv_at hl 0 rfl) ?_
        refine fg_X7_56 hc hw (Nat.lt_of_lt_of_le (by decide) hM) rfl dX7_actsBy_36 ?_
        refine lv_iload_n hx hb dX7_actsBy_39 rfl (lv_at hl 1 rfl) ?_
        refine g_ialdK (Y := YM) (kd := 36) (n := 4) (k := a1.toNatClampNeg) (o := 16) (by decide) (by decide) rfl hc hw (Nat.lt_of_lt_of_le (by decide) hM) rfl rfl h.1 rfl dX7_actsBy_40 ?_
        replace h := h.2
        refine lv_if_lt (tgt := 57) hx hb dX7_actsBy_41 (by decide) (fun c10 => ?_) (fun c10 => ?_)
        · replace h := h.1 c10
          exact b_X7_actsBy_57 hM a1 a3 a4 σ7 _ _ _ h  hc hr hw (lv_sub hl [0, 1, 3, 4] rfl)
        · replace h := h.2 c10
          refine lv_aload_n hx hb dX7_actsBy_44 rfl (lv_at hl 0 rfl) ?_
          refine fg_X7_56 hc hw (Nat.lt_of_lt_of_le (by decide) hM) rfl dX7_actsBy_45 ?_
          refine lv_iload_n hx hb dX7_actsBy_48 rfl (lv_at hl 1 rfl) ?_
          refine g_ialdK (Y := YM) (kd := 36) (n := 4) (k := a1.toNatClampNeg) (o := 16) (by decide) (by decide) rfl hc hw (Nat.lt_of_lt_of_le (by decide) hM) rfl rfl h.1 rfl dX7_actsBy_49 ?_
          replace h := h.2
          refine lv_iload_n hx hb dX7_actsBy_50 rfl (lv_at hl 2 rfl) ?_
          refine lv_icmp_eq (tgt := 57) hx hb dX7_actsBy_51 (by decide) (fun c11 => ?_) (fun c11 => ?_)
          · replace h := h.1 c11
            exact b_X7_actsBy_57 hM a1 a3 a4 σ7 _ _ _ h  hc hr hw (lv_sub hl [0, 1, 3, 4] rfl)
          · replace h := h.2 c11
            refine lv_bipush (v := (-13)) hx hb dX7_actsBy_54 (by decide) ?_
            exact g_iret hc hr hw h dX7_actsBy_56
      · replace h := h.1 c9
        refine lv_bipush (v := (-2)) hx hb dX7_actsBy_32 (by decide) ?_
        exact g_iret hc hr hw h dX7_actsBy_34
def w_X7_takenAct_18 (M : Nat) (post : Int32 → St → Prop) (k_18 : Int32 → Int32 → Int32 → St → Prop) (v1 : Int32) (v2 : Int32) (v3 : Int32) (σ : St) : Prop :=
  (v3 = v2 → ((v3 = v2 → (post v1 σ)) ∧ (¬ (v3 = v2) → (post (-13) σ)))) ∧ (¬ (v3 = v2) → ((v3 ≤ 0 → ((v3 = v2 → (post v1 σ)) ∧ (¬ (v3 = v2) → (post (-13) σ)))) ∧ (¬ (v3 ≤ 0) → (w_X7_over M (fun r6 σ5 => (k_18 v1 v2 r6 σ5)) v3 σ))))
set_option maxHeartbeats 4000000 in
set_option maxRecDepth 20000 in
theorem b_X7_takenAct_18 {Γ : Gm} {ad : Nat → Nat} {p : Program} {l : Launch} {e : Env} {s : State} {m : MethodId} {args : Array Value} {below : List Frame} {meth : Method} {c : Code} {M : Nat} (hM : 20 ≤ M) {post : Int32 → St → Prop} {k_18 : Int32 → Int32 → Int32 → St → Prop} (hk_18 : ∀ (v1 : Int32) (v2 : Int32) (v3 : Int32) (σ : St) (H : Heap) (locs : List Loc) (ls : Array Slot), k_18 v1 v2 v3 σ → WH Γ YM M ad σ s H locs → lv_has ls 4 [(1, .int v1), (2, .int v2), (3, .int v3)] → W p l e (rmL 2 0 0) s m args below meth c H locs 0 0 (MQ below (va_Qi post (fun u t => WC Γ YM M ad u t) (AA Γ)) args s 0 0 (AA Γ)) (F0 m 18 ls []))
    (v1 : Int32) (v2 : Int32) (v3 : Int32) (σ : St) (H : Heap) (locs : List Loc) (ls : Array Slot) (h : w_X7_takenAct_18 M post k_18 v1 v2 v3 σ) (hc : CX Γ p s m args meth c cX7_takenAct RX7 4) (hr : meth.sig.returnType = (Option.some Jvm.ClassFile.FieldType.int)) (hw : WH Γ YM M ad σ s H locs) (hl : lv_has ls 4 [(1, .int v1), (2, .int v2), (3, .int v3)]) :
    W p l e (rmL 2 0 0) s m args below meth c H locs 0 0 (MQ below (va_Qi post (fun u t => WC Γ YM M ad u t) (AA Γ)) args s 0 0 (AA Γ)) (F0 m 18 ls []) := by
  have hx := hc.1
  have hb := hc.2.1
  unfold w_X7_takenAct_18 at h
  refine lv_iload_n hx hb dX7_takenAct_18 rfl (lv_at hl 2 rfl) ?_
  refine lv_iload_n hx hb dX7_takenAct_19 rfl (lv_at hl 1 rfl) ?_
  refine lv_icmp_eq (tgt := 35) hx hb dX7_takenAct_20 (by decide) (fun c1 => ?_) (fun c1 => ?_)
  · replace h := h.1 c1
    refine lv_iload_n hx hb dX7_takenAct_35 rfl (lv_at hl 2 rfl) ?_
    refine lv_iload_n hx hb dX7_takenAct_36 rfl (lv_at hl 1 rfl) ?_
    refine lv_icmp_ne (tgt := 44) hx hb dX7_takenAct_37 (by decide) (fun c2 => ?_) (fun c2 => ?_)
    · replace h := h.2 c2
      refine lv_bipush (v := (-13)) hx hb dX7_takenAct_44 (by decide) ?_
      exact g_iret hc hr hw h dX7_takenAct_46
    · replace h := h.1 c2
      refine lv_iload_n hx hb dX7_takenAct_40 rfl (lv_at hl 0 rfl) ?_
      refine lv_goto (tgt := 46) hx hb dX7_takenAct_41 (by decide) ?_
      exact g_iret hc hr hw h dX7_takenAct_46
  · replace h := h.2 c1
    refine lv_iload_n hx hb dX7_takenAct_23 rfl (lv_at hl 2 rfl) ?_
    refine lv_if_le (tgt := 35) hx hb dX7_takenAct_24 (by decide) (fun c3 => ?_) (fun c3 => ?_)
    · replace h := h.1 c3
      refine lv_iload_n hx hb dX7_takenAct_35 rfl (lv_at hl 2 rfl) ?_
      refine lv_iload_n hx hb dX7_takenAct_36 rfl (lv_at hl 1 rfl) ?_
      refine lv_icmp_ne (tgt := 44) hx hb dX7_takenAct_37 (by decide) (fun c4 => ?_) (fun c4 => ?_)
      · replace h := h.2 c4
        refine lv_bipush (v := (-13)) hx hb dX7_takenAct_44 (by decide) ?_
        exact g_iret hc hr hw h dX7_takenAct_46
      · replace h := h.1 c4
        refine lv_iload_n hx hb dX7_takenAct_40 rfl (lv_at hl 0 rfl) ?_
        refine lv_goto (tgt := 46) hx hb dX7_takenAct_41 (by decide) ?_
        exact g_iret hc hr hw h dX7_takenAct_46
    · replace h := h.2 c3
      refine lv_iload_n hx hb dX7_takenAct_27 rfl (lv_at hl 2 rfl) ?_
      refine g_Si (Y := YM) (n := 1) (k := 0) (As := [.int v3]) (rest := []) vw_X7_339 ⟨Nat.le_of_ble_eq_true rfl, Nat.le_of_ble_eq_true rfl, Nat.zero_le _, Nat.zero_le _⟩ hc hw hl.1 (m_X7_over l hM v3 σ h) rfl rfl (Nat.le_of_ble_eq_true rfl) dX7_takenAct_28 (fun r6 σ5 H locs h hw => ?_)
      refine lv_istore_n (lv' := [(3, .int r6), (1, .int v1), (2, .int v2)]) hx hb dX7_takenAct_31 rfl hl (by decide) rfl (fun ls hl => ?_)
      refine lv_goto (tgt := 18) hx hb dX7_takenAct_32 (by decide) ?_
      exact hk_18 v1 v2 r6 σ5 _ _ _ h  hw (lv_sub hl [1, 2, 0] rfl)
def wl_X7_takenAct_18 (M : Nat) (post : Int32 → St → Prop) : Nat → Int32 → Int32 → Int32 → St → Prop
  | 0, _, _, _, _ => False
  | n + 1, v1, v2, v3, σ => w_X7_takenAct_18 M post (wl_X7_takenAct_18 M post n) v1 v2 v3 σ
set_option maxHeartbeats 4000000 in
theorem bl_X7_takenAct_18 {Γ : Gm} {ad : Nat → Nat} {p : Program} {l : Launch} {e : Env} {s : State} {m : MethodId} {args : Array Value} {below : List Frame} {meth : Method} {c : Code} {M : Nat} (hM : 20 ≤ M) {post : Int32 → St → Prop}
    (hc : CX Γ p s m args meth c cX7_takenAct RX7 4) (hr : meth.sig.returnType = (Option.some Jvm.ClassFile.FieldType.int)) :
    ∀ (n : Nat) (v1 : Int32) (v2 : Int32) (v3 : Int32) (σ : St) (H : Heap) (locs : List Loc) (ls : Array Slot), wl_X7_takenAct_18 M post n v1 v2 v3 σ → WH Γ YM M ad σ s H locs → lv_has ls 4 [(1, .int v1), (2, .int v2), (3, .int v3)] → W p l e (rmL 2 0 0) s m args below meth c H locs 0 0 (MQ below (va_Qi post (fun u t => WC Γ YM M ad u t) (AA Γ)) args s 0 0 (AA Γ)) (F0 m 18 ls []) := by
  intro n
  induction n with
  | zero => intro v1 v2 v3 σ H locs ls h; exact h.elim
  | succ n ih =>
    intro v1 v2 v3 σ H locs ls h  hw hl
    exact b_X7_takenAct_18 hM ih v1 v2 v3 σ H locs ls h  hc hr hw hl
def w_X7_takenAct (M : Nat) (post : Int32 → St → Prop) (a1 : Int32) (a2 : Int32) (σ : St) : Prop :=
  w_X7_isAct M (fun r2 σ1 => ((r2 = 0 → (post (-11) σ1)) ∧ (¬ (r2 = 0) → ((vp_in a1 12) ∧ (∃ n, wl_X7_takenAct_18 M post n a1 a2 (gi σ1 10 a1.toNatClampNeg) σ1))))) a1 σ
set_option maxHeartbeats 4000000 in
set_option maxRecDepth 20000 in
theorem m_X7_takenAct {Γ : Gm} {ad : Nat → Nat} {M : Nat} (l : Launch) (hM : 20 ≤ M) {post : Int32 → St → Prop} (a1 : Int32) (a2 : Int32) (σ : St) (h : w_X7_takenAct M post a1 a2 σ) : Ci l Γ YM M ad σ yX7_takenAct cX7_takenAct 4 (Option.some Jvm.ClassFile.FieldType.int) 2 0 0 [.ref (ad 0), .int a1, .int a2] post := by
  refine g_start (by decide) (Nat.le_of_ble_eq_true rfl) ?_
  intro p e s m args below meth c ls hc hr hn hl hw
  have hc : CX Γ p s m args meth c cX7_takenAct RX7 4 := hc
  have hl : lv_has ls 4 [(0, .ref (ad 0)), (1, .int a1), (2, .int a2)] := hl
  have hx := hc.1
  have hb := hc.2.1
  unfold w_X7_takenAct at h
  generalize hHH : s.heap = H0 at hw ⊢
  refine lv_aload_n hx hb dX7_takenAct_0 rfl (lv_at hl 0 rfl) ?_
  refine lv_iload_n hx hb dX7_takenAct_1 rfl (lv_at hl 1 rfl) ?_
  refine g_Vi (Y := YM) (ci := 7) (n := 1) (k := 1) (As := [.int a1]) (rest := []) rfl (by decide) vw_X7_207 ⟨Nat.le_of_ble_eq_true rfl, Nat.le_of_ble_eq_true rfl, Nat.zero_le _, Nat.zero_le _⟩ hc hw hl.1 (Nat.lt_of_lt_of_le (by decide) hM) rfl (m_X7_isAct l hM a1 σ h) rfl rfl (Nat.le_of_ble_eq_true rfl) dX7_takenAct_2 (fun r2 σ1 H locs h hw => ?_)
  refine lv_if_ne (tgt := 11) hx hb dX7_takenAct_5 (by decide) (fun c3 => ?_) (fun c3 => ?_)
  · replace h := h.2 c3
    refine lv_aload_n hx hb dX7_takenAct_11 rfl (lv_at hl 0 rfl) ?_
    refine fg_X7_38 hc hw (Nat.lt_of_lt_of_le (by decide) hM) rfl dX7_takenAct_12 ?_
    refine lv_iload_n hx hb dX7_takenAct_15 rfl (lv_at hl 1 rfl) ?_
    refine g_ialdK (Y := YM) (kd := 30) (n := 12) (k := a1.toNatClampNeg) (o := 10) (by decide) (by decide) rfl hc hw (Nat.lt_of_lt_of_le (by decide) hM) rfl rfl h.1 rfl dX7_takenAct_16 ?_
    replace h := h.2
    refine lv_istore_n (lv' := [(3, .int (gi σ1 10 a1.toNatClampNeg)), (0, .ref (ad 0)), (1, .int a1), (2, .int a2)]) hx hb dX7_takenAct_17 rfl hl (by decide) rfl (fun ls hl => ?_)
    obtain ⟨n, h⟩ := h
    exact bl_X7_takenAct_18 hM hc hr n a1 a2 (gi σ1 10 a1.toNatClampNeg) σ1 _ _ _ h  hw (lv_sub hl [2, 3, 0] rfl)
  · replace h := h.1 c3
    refine lv_bipush (v := (-11)) hx hb dX7_takenAct_8 (by decide) ?_
    exact g_iret hc hr hw h dX7_takenAct_10
def w_X7_opens (M : Nat) (post : Int32 → St → Prop)  (σ : St) : Prop :=
  ((gi σ 0 15) = 5 → (w_X7_wrong M (fun σ4 => (post 0 σ4)) σ)) ∧ (¬ ((gi σ 0 15) = 5) → (∀ σ2 : St, σ2 = si σ 0 15 ((gi σ 0 15) + 1) → (w_X7_next M (fun σ3 => (post 1 σ3)) σ2)))
set_option maxHeartbeats 4000000 in
set_option maxRecDepth 20000 in
theorem m_X7_opens {Γ : Gm} {ad : Nat → Nat} {M : Nat} (l : Launch) (hM : 20 ≤ M) {post : Int32 → St → Prop}  (σ : St) (h : w_X7_opens M post  σ) : Ci l Γ YM M ad σ yX7_opens cX7_opens 1 (Option.some Jvm.ClassFile.FieldType.boolean) 3 0 0 [.ref (ad 0)] post := by
  refine g_start (by decide) (Nat.le_of_ble_eq_true rfl) ?_
  intro p e s m args below meth c ls hc hr hn hl hw
  have hc : CX Γ p s m args meth c cX7_opens RX7 1 := hc
  have hl : lv_has ls 1 [(0, .ref (ad 0))] := hl
  have hx := hc.1
  have hb := hc.2.1
  unfold w_X7_opens at h
  generalize hHH : s.heap = H0 at hw ⊢
  refine lv_aload_n hx hb dX7_opens_0 rfl (lv_at hl 0 rfl) ?_
  refine fg_X7_158 hc hw (Nat.lt_of_lt_of_le (by decide) hM) rfl dX7_opens_1 ?_
  refine lv_iconst (v := 5) hx hb dX7_opens_4 (by decide) ?_
  refine lv_icmp_ne (tgt := 14) hx hb dX7_opens_5 (by decide) (fun c1 => ?_) (fun c1 => ?_)
  · replace h := h.2 c1
    refine lv_aload_n hx hb dX7_opens_14 rfl (lv_at hl 0 rfl) ?_
    refine lv_dup hx hb dX7_opens_15 rfl ?_
    refine fg_X7_158 hc hw (Nat.lt_of_lt_of_le (by decide) hM) rfl dX7_opens_16 ?_
    refine lv_iconst (v := 1) hx hb dX7_opens_19 (by decide) ?_
    refine lv_iadd hx hb dX7_opens_20 ?_
    refine fp_X7_158 (o := 0) hc hw (Nat.lt_of_lt_of_le (by decide) hM) rfl dX7_opens_21 (fun σ2 H locs eσ2 hw => ?_)
    replace h := h σ2 eσ2
    refine lv_aload_n hx hb dX7_opens_24 rfl (lv_at hl 0 rfl) ?_
    refine g_Vv (Y := YM) (ci := 7) (n := 0) (k := 2) (As := []) (rest := []) rfl (by decide) vw_X7_164 ⟨Nat.le_of_ble_eq_true rfl, Nat.le_of_ble_eq_true rfl, Nat.zero_le _, Nat.zero_le _⟩ hc hw hl.1 (Nat.lt_of_lt_of_le (by decide) hM) rfl (m_X7_next l hM σ2 h) rfl rfl (Nat.le_of_ble_eq_true rfl) dX7_opens_25 (fun σ3 H locs h hw => ?_)
    refine lv_iconst (v := 1) hx hb dX7_opens_28 (by decide) ?_
    exact g_zret hc hr hw rfl h dX7_opens_29
  · replace h := h.1 c1
    refine lv_aload_n hx hb dX7_opens_8 rfl (lv_at hl 0 rfl) ?_
    refine g_Vv (Y := YM) (ci := 7) (n := 0) (k := 0) (As := []) (rest := []) rfl (by decide) vw_X7_161 ⟨Nat.le_of_ble_eq_true rfl, Nat.le_of_ble_eq_true rfl, Nat.zero_le _, Nat.zero_le _⟩ hc hw hl.1 (Nat.lt_of_lt_of_le (by decide) hM) rfl (m_X7_wrong l hM σ h) rfl rfl (Nat.le_of_ble_eq_true rfl) dX7_opens_9 (fun σ4 H locs h hw => ?_)
    refine lv_iconst (v := 0) hx hb dX7_opens_12 (by decide) ?_
    exact g_zret hc hr hw rfl h dX7_opens_13
def w_X7_does_102 (M : Nat) (post : St → Prop) (k_102 : Int32 → Int32 → Int32 → St → Prop) (v1 : Int32) (v2 : Int32) (v4 : Int32) (σ : St) : Prop :=
  w_X7_minutesOf M (fun r2 σ1 => ((r2 ≤ v4 → (post σ1)) ∧ (¬ (r2 ≤ v4) → ((v1 = 0 → (w_X7_minute M (fun σ5 => (∀ x6 : Int32, x6 = v4 + 1 → (k_102 v1 v2 x6 σ5))) 0 σ1)) ∧ (¬ (v1 = 0) → (w_X7_minute M (fun σ7 => (∀ x8 : Int32, x8 = v4 + 1 → (k_102 v1 v2 x8 σ7))) 1 σ1)))))) v1 v2 σ
set_option maxHeartbeats 4000000 in
set_option maxRecDepth 20000 in
theorem b_X7_does_102 {Γ : Gm} {ad : Nat → Nat} {p : Program} {l : Launch} {e : Env} {s : State} {m : MethodId} {args : Array Value} {below : List Frame} {meth : Method} {c : Code} {M : Nat} (hM : 20 ≤ M) {post : St → Prop} {k_102 : Int32 → Int32 → Int32 → St → Prop} (hk_102 : ∀ (v1 : Int32) (v2 : Int32) (v4 : Int32) (σ : St) (H : Heap) (locs : List Loc) (ls : Array Slot), k_102 v1 v2 v4 σ → WH Γ YM M ad σ s H locs → lv_has ls 5 [(0, .ref (ad 0)), (1, .int v1), (2, .int v2), (4, .int v4)] → W p l e (rmL 3 0 0) s m args below meth c H locs 0 0 (MQ below (va_Qv post (fun u t => WC Γ YM M ad u t) (AA Γ)) args s 0 0 (AA Γ)) (F0 m 102 ls []))
    (v1 : Int32) (v2 : Int32) (v4 : Int32) (σ : St) (H : Heap) (locs : List Loc) (ls : Array Slot) (h : w_X7_does_102 M post k_102 v1 v2 v4 σ) (hc : CX Γ p s m args meth c cX7_does RX7 5) (hr : meth.sig.returnType = none) (hw : WH Γ YM M ad σ s H locs) (hl : lv_has ls 5 [(0, .ref (ad 0)), (1, .int v1), (2, .int v2), (4, .int v4)]) :
    W p l e (rmL 3 0 0) s m args below meth c H locs 0 0 (MQ below (va_Qv post (fun u t => WC Γ YM M ad u t) (AA Γ)) args s 0 0 (AA Γ)) (F0 m 102 ls []) := by
  have hx := hc.1
  have hb := hc.2.1
  unfold w_X7_does_102 at h
  refine lv_iload hx hb dX7_does_102 (lv_at hl 3 rfl) ?_
  refine lv_iload_n hx hb dX7_does_104 rfl (lv_at hl 1 rfl) ?_
  refine lv_iload_n hx hb dX7_does_105 rfl (lv_at hl 2 rfl) ?_
  refine g_Si (Y := YM) (n := 2) (k := 0) (As := [.int v1, .int v2]) (rest := [.int v4]) vw_X7_210 ⟨Nat.le_of_ble_eq_true rfl, Nat.le_of_ble_eq_true rfl, Nat.zero_le _, Nat.zero_le _⟩ hc hw hl.1 (m_X7_minutesOf l hM v1 v2 σ h) rfl rfl (Nat.le_of_ble_eq_true rfl) dX7_does_106 (fun r2 σ1 H locs h hw => ?_)
  refine lv_icmp_ge (tgt := 131) hx hb dX7_does_109 (by decide) (fun c3 => ?_) (fun c3 => ?_)
  · replace h := h.1 c3
    exact g_vret hc hr hw h dX7_does_131
  · replace h := h.2 c3
    refine lv_aload_n hx hb dX7_does_112 rfl (lv_at hl 0 rfl) ?_
    refine lv_iload_n hx hb dX7_does_113 rfl (lv_at hl 1 rfl) ?_
    refine lv_if_eq (tgt := 121) hx hb dX7_does_114 (by decide) (fun c4 => ?_) (fun c4 => ?_)
    · replace h := h.1 c4
      refine lv_iconst (v := 0) hx hb dX7_does_121 (by decide) ?_
      refine g_Vv (Y := YM) (ci := 7) (n := 1) (k := 2) (As := [.int 0]) (rest := []) rfl (by decide) vw_X7_240 ⟨Nat.le_of_ble_eq_true rfl, Nat.le_of_ble_eq_true rfl, Nat.zero_le _, Nat.zero_le _⟩ hc hw hl.1 (Nat.lt_of_lt_of_le (by decide) hM) rfl (m_X7_minute l hM 0 σ1 h) rfl rfl (Nat.le_of_ble_eq_true rfl) dX7_does_122 (fun σ5 H locs h hw => ?_)
      obtain ⟨x6, ex6⟩ : ∃ z, z = v4 + 1 := ⟨_, rfl⟩
      replace h := h x6 ex6
      refine lv_iinc (v := x6) (lv' := [(4, .int x6), (0, .ref (ad 0)), (1, .int v1), (2, .int v2)]) hx hb dX7_does_125 hl (k := 3) rfl (by rw [ex6]; rfl) (by decide) rfl (fun ls hl => ?_)
      refine lv_goto (tgt := 102) hx hb dX7_does_128 (by decide) ?_
      exact hk_102 v1 v2 x6 σ5 _ _ _ h  hw (lv_sub hl [1, 2, 3, 0] rfl)
    · replace h := h.2 c4
      refine lv_iconst (v := 1) hx hb dX7_does_117 (by decide) ?_
      refine lv_goto (tgt := 122) hx hb dX7_does_118 (by decide) ?_
      refine g_Vv (Y := YM) (ci := 7) (n := 1) (k := 2) (As := [.int 1]) (rest := []) rfl (by decide) vw_X7_240 ⟨Nat.le_of_ble_eq_true rfl, Nat.le_of_ble_eq_true rfl, Nat.zero_le _, Nat.zero_le _⟩ hc hw hl.1 (Nat.lt_of_lt_of_le (by decide) hM) rfl (m_X7_minute l hM 1 σ1 h) rfl rfl (Nat.le_of_ble_eq_true rfl) dX7_does_122 (fun σ7 H locs h hw => ?_)
      obtain ⟨x8, ex8⟩ : ∃ z, z = v4 + 1 := ⟨_, rfl⟩
      replace h := h x8 ex8
      refine lv_iinc (v := x8) (lv' := [(4, .int x8), (0, .ref (ad 0)), (1, .int v1), (2, .int v2)]) hx hb dX7_does_125 hl (k := 3) rfl (by rw [ex8]; rfl) (by decide) rfl (fun ls hl => ?_)
      refine lv_goto (tgt := 102) hx hb dX7_does_128 (by decide) ?_
      exact hk_102 v1 v2 x8 σ7 _ _ _ h  hw (lv_sub hl [1, 2, 3, 0] rfl)
def wl_X7_does_102 (M : Nat) (post : St → Prop) : Nat → Int32 → Int32 → Int32 → St → Prop
  | 0, _, _, _, _ => False
  | n + 1, v1, v2, v4, σ => w_X7_does_102 M post (wl_X7_does_102 M post n) v1 v2 v4 σ
set_option maxHeartbeats 4000000 in
theorem bl_X7_does_102 {Γ : Gm} {ad : Nat → Nat} {p : Program} {l : Launch} {e : Env} {s : State} {m : MethodId} {args : Array Value} {below : List Frame} {meth : Method} {c : Code} {M : Nat} (hM : 20 ≤ M) {post : St → Prop}
    (hc : CX Γ p s m args meth c cX7_does RX7 5) (hr : meth.sig.returnType = none) :
    ∀ (n : Nat) (v1 : Int32) (v2 : Int32) (v4 : Int32) (σ : St) (H : Heap) (locs : List Loc) (ls : Array Slot), wl_X7_does_102 M post n v1 v2 v4 σ → WH Γ YM M ad σ s H locs → lv_has ls 5 [(0, .ref (ad 0)), (1, .int v1), (2, .int v2), (4, .int v4)] → W p l e (rmL 3 0 0) s m args below meth c H locs 0 0 (MQ below (va_Qv post (fun u t => WC Γ YM M ad u t) (AA Γ)) args s 0 0 (AA Γ)) (F0 m 102 ls []) := by
  intro n
  induction n with
  | zero => intro v1 v2 v4 σ H locs ls h; exact h.elim
  | succ n ih =>
    intro v1 v2 v4 σ H locs ls h  hw hl
    exact b_X7_does_102 hM ih v1 v2 v4 σ H locs ls h  hc hr hw hl
def w_X7_does_76 (M : Nat) (post : St → Prop) (v1 : Int32) (v2 : Int32) (v3 : Int32) (σ : St) : Prop :=
  (v1 = 5 → (∀ σ3 : St, σ3 = si σ 13 13 v3 → (∃ n, wl_X7_does_102 M post n v1 v2 0 σ3))) ∧ (¬ (v1 = 5) → (∀ σ2 : St, σ2 = si σ 13 13 (gi σ 13 13) → (∃ n, wl_X7_does_102 M post n v1 v2 0 σ2)))
set_option maxHeartbeats 4000000 in
set_option maxRecDepth 20000 in
theorem b_X7_does_76 {Γ : Gm} {ad : Nat → Nat} {p : Program} {l : Launch} {e : Env} {s : State} {m : MethodId} {args : Array Value} {below : List Frame} {meth : Method} {c : Code} {M : Nat} (hM : 20 ≤ M) {post : St → Prop}
    (v1 : Int32) (v2 : Int32) (v3 : Int32) (σ : St) (H : Heap) (locs : List Loc) (ls : Array Slot) (h : w_X7_does_76 M post v1 v2 v3 σ) (hc : CX Γ p s m args meth c cX7_does RX7 5) (hr : meth.sig.returnType = none) (hw : WH Γ YM M ad σ s H locs) (hl : lv_has ls 5 [(0, .ref (ad 0)), (1, .int v1), (2, .int v2), (3, .int v3)]) :
    W p l e (rmL 3 0 0) s m args below meth c H locs 0 0 (MQ below (va_Qv post (fun u t => WC Γ YM M ad u t) (AA Γ)) args s 0 0 (AA Γ)) (F0 m 76 ls []) := by
  have hx := hc.1
  have hb := hc.2.1
  unfold w_X7_does_76 at h
  refine lv_aload_n hx hb dX7_does_76 rfl (lv_at hl 0 rfl) ?_
  refine fg_X7_47 hc hw (Nat.lt_of_lt_of_le (by decide) hM) rfl dX7_does_77 ?_
  refine lv_bipush (v := 13) hx hb dX7_does_80 (by decide) ?_
  refine lv_iload_n hx hb dX7_does_82 rfl (lv_at hl 1 rfl) ?_
  refine lv_iconst (v := 5) hx hb dX7_does_83 (by decide) ?_
  refine lv_icmp_ne (tgt := 91) hx hb dX7_does_84 (by decide) (fun c1 => ?_) (fun c1 => ?_)
  · replace h := h.2 c1
    refine lv_aload_n hx hb dX7_does_91 rfl (lv_at hl 0 rfl) ?_
    refine fg_X7_47 hc hw (Nat.lt_of_lt_of_le (by decide) hM) rfl dX7_does_92 ?_
    refine lv_bipush (v := 13) hx hb dX7_does_95 (by decide) ?_
    refine g_ialdK (Y := YM) (kd := 33) (n := 14) (k := 13) (o := 13) (by decide) (by decide) rfl hc hw (Nat.lt_of_lt_of_le (by decide) hM) rfl rfl (vp_in_lit (by decide)) (by decide) dX7_does_97 ?_
    refine g_iastK (Y := YM) (kd := 33) (n := 14) (k := 13) (o := 13) YM_ok (by decide) (by decide) rfl hc hw (Nat.lt_of_lt_of_le (by decide) hM) rfl rfl (vp_in_lit (by decide)) (by decide) dX7_does_98 (fun σ2 H locs eσ2 hw => ?_)
    replace h := h σ2 eσ2
    refine lv_iconst (v := 0) hx hb dX7_does_99 (by decide) ?_
    refine lv_istore (lv' := [(4, .int 0), (0, .ref (ad 0)), (1, .int v1), (2, .int v2), (3, .int v3)]) hx hb dX7_does_100 hl (by decide) rfl (fun ls hl => ?_)
    obtain ⟨n, h⟩ := h
    exact bl_X7_does_102 hM hc hr n v1 v2 0 σ2 _ _ _ h  hw (lv_sub hl [1, 2, 3, 0] rfl)
  · replace h := h.1 c1
    refine lv_iload_n hx hb dX7_does_87 rfl (lv_at hl 3 rfl) ?_
    refine lv_goto (tgt := 98) hx hb dX7_does_88 (by decide) ?_
    refine g_iastK (Y := YM) (kd := 33) (n := 14) (k := 13) (o := 13) YM_ok (by decide) (by decide) rfl hc hw (Nat.lt_of_lt_of_le (by decide) hM) rfl rfl (vp_in_lit (by decide)) (by decide) dX7_does_98 (fun σ3 H locs eσ3 hw => ?_)
    replace h := h σ3 eσ3
    refine lv_iconst (v := 0) hx hb dX7_does_99 (by decide) ?_
    refine lv_istore (lv' := [(4, .int 0), (0, .ref (ad 0)), (1, .int v1), (2, .int v2), (3, .int v3)]) hx hb dX7_does_100 hl (by decide) rfl (fun ls hl => ?_)
    obtain ⟨n, h⟩ := h
    exact bl_X7_does_102 hM hc hr n v1 v2 0 σ3 _ _ _ h  hw (lv_sub hl [1, 2, 3, 0] rfl)
def w_X7_does_61 (M : Nat) (post : St → Prop) (v1 : Int32) (v2 : Int32) (v3 : Int32) (σ : St) : Prop :=
  (v1 = 3 → (w_X7_strokesOf M (fun σ2 => (w_X7_does_76 M post v1 v2 v3 σ2)) v2 σ)) ∧ (¬ (v1 = 3) → ((v1 = 5 → (w_X7_strokesOf M (fun σ4 => (w_X7_does_76 M post v1 v2 v3 σ4)) v2 σ)) ∧ (¬ (v1 = 5) → (w_X7_does_76 M post v1 v2 v3 σ))))
set_option maxHeartbeats 4000000 in
set_option maxRecDepth 20000 in
theorem b_X7_does_61 {Γ : Gm} {ad : Nat → Nat} {p : Program} {l : Launch} {e : Env} {s : State} {m : MethodId} {args : Array Value} {below : List Frame} {meth : Method} {c : Code} {M : Nat} (hM : 20 ≤ M) {post : St → Prop}
    (v1 : Int32) (v2 : Int32) (v3 : Int32) (σ : St) (H : Heap) (locs : List Loc) (ls : Array Slot) (h : w_X7_does_61 M post v1 v2 v3 σ) (hc : CX Γ p s m args meth c cX7_does RX7 5) (hr : meth.sig.returnType = none) (hw : WH Γ YM M ad σ s H locs) (hl : lv_has ls 5 [(0, .ref (ad 0)), (1, .int v1), (2, .int v2), (3, .int v3)]) :
    W p l e (rmL 3 0 0) s m args below meth c H locs 0 0 (MQ below (va_Qv post (fun u t => WC Γ YM M ad u t) (AA Γ)) args s 0 0 (AA Γ)) (F0 m 61 ls []) := by
  have hx := hc.1
  have hb := hc.2.1
  unfold w_X7_does_61 at h
  refine lv_iload_n hx hb dX7_does_61 rfl (lv_at hl 1 rfl) ?_
  refine lv_iconst (v := 3) hx hb dX7_does_62 (by decide) ?_
  refine lv_icmp_eq (tgt := 71) hx hb dX7_does_63 (by decide) (fun c1 => ?_) (fun c1 => ?_)
  · replace h := h.1 c1
    refine lv_aload_n hx hb dX7_does_71 rfl (lv_at hl 0 rfl) ?_
    refine lv_iload_n hx hb dX7_does_72 rfl (lv_at hl 2 rfl) ?_
    refine g_Vv (Y := YM) (ci := 7) (n := 1) (k := 0) (As := [.int v2]) (rest := []) rfl (by decide) vw_X7_237 ⟨Nat.le_of_ble_eq_true rfl, Nat.le_of_ble_eq_true rfl, Nat.zero_le _, Nat.zero_le _⟩ hc hw hl.1 (Nat.lt_of_lt_of_le (by decide) hM) rfl (m_X7_strokesOf l hM v2 σ h) rfl rfl (Nat.le_of_ble_eq_true rfl) dX7_does_73 (fun σ2 H locs h hw => ?_)
    exact b_X7_does_76 hM v1 v2 v3 σ2 _ _ _ h  hc hr hw (lv_sub hl [0, 1, 2, 3] rfl)
  · replace h := h.2 c1
    refine lv_iload_n hx hb dX7_does_66 rfl (lv_at hl 1 rfl) ?_
    refine lv_iconst (v := 5) hx hb dX7_does_67 (by decide) ?_
    refine lv_icmp_ne (tgt := 76) hx hb dX7_does_68 (by decide) (fun c3 => ?_) (fun c3 => ?_)
    · replace h := h.2 c3
      exact b_X7_does_76 hM v1 v2 v3 σ _ _ _ h  hc hr hw (lv_sub hl [0, 1, 2, 3] rfl)
    · replace h := h.1 c3
      refine lv_aload_n hx hb dX7_does_71 rfl (lv_at hl 0 rfl) ?_
      refine lv_iload_n hx hb dX7_does_72 rfl (lv_at hl 2 rfl) ?_
      refine g_Vv (Y := YM) (ci := 7) (n := 1) (k := 0) (As := [.int v2]) (rest := []) rfl (by decide) vw_X7_237 ⟨Nat.le_of_ble_eq_true rfl, Nat.le_of_ble_eq_true rfl, Nat.zero_le _, Nat.zero_le _⟩ hc hw hl.1 (Nat.lt_of_lt_of_le (by decide) hM) rfl (m_X7_strokesOf l hM v2 σ h) rfl rfl (Nat.le_of_ble_eq_true rfl) dX7_does_73 (fun σ4 H locs h hw => ?_)
      exact b_X7_does_76 hM v1 v2 v3 σ4 _ _ _ h  hc hr hw (lv_sub hl [0, 1, 2, 3] rfl)
def w_X7_does_42 (M : Nat) (post : St → Prop) (v1 : Int32) (v2 : Int32) (v3 : Int32) (σ : St) : Prop :=
  (v1 = 2 → (w_X7_isCheese M (fun r3 σ2 => ((r3 = 0 → (w_X7_does_61 M post v1 v2 v3 σ2)) ∧ (¬ (r3 = 0) → (w_X7_handfuls M (fun σ5 => (w_X7_does_61 M post v1 v2 v3 σ5)) v3 v2 σ2)))) v3 σ)) ∧ (¬ (v1 = 2) → (w_X7_does_61 M post v1 v2 v3 σ))
set_option maxHeartbeats 4000000 in
set_option maxRecDepth 20000 in
theorem b_X7_does_42 {Γ : Gm} {ad : Nat → Nat} {p : Program} {l : Launch} {e : Env} {s : State} {m : MethodId} {args : Array Value} {below : List Frame} {meth : Method} {c : Code} {M : Nat} (hM : 20 ≤ M) {post : St → Prop}
    (v1 : Int32) (v2 : Int32) (v3 : Int32) (σ : St) (H : Heap) (locs : List Loc) (ls : Array Slot) (h : w_X7_does_42 M post v1 v2 v3 σ) (hc : CX Γ p s m args meth c cX7_does RX7 5) (hr : meth.sig.returnType = none) (hw : WH Γ YM M ad σ s H locs) (hl : lv_has ls 5 [(0, .ref (ad 0)), (1, .int v1), (2, .int v2), (3, .int v3)]) :
    W p l e (rmL 3 0 0) s m args below meth c H locs 0 0 (MQ below (va_Qv post (fun u t => WC Γ YM M ad u t) (AA Γ)) args s 0 0 (AA Γ)) (F0 m 42 ls []) := by
  have hx := hc.1
  have hb := hc.2.1
  unfold w_X7_does_42 at h
  refine lv_iload_n hx hb dX7_does_42 rfl (lv_at hl 1 rfl) ?_
  refine lv_iconst (v := 2) hx hb dX7_does_43 (by decide) ?_
  refine lv_icmp_ne (tgt := 61) hx hb dX7_does_44 (by decide) (fun c1 => ?_) (fun c1 => ?_)
  · replace h := h.2 c1
    exact b_X7_does_61 hM v1 v2 v3 σ _ _ _ h  hc hr hw (lv_sub hl [0, 1, 2, 3] rfl)
  · replace h := h.1 c1
    refine lv_aload_n hx hb dX7_does_47 rfl (lv_at hl 0 rfl) ?_
    refine lv_iload_n hx hb dX7_does_48 rfl (lv_at hl 3 rfl) ?_
    refine g_Vi (Y := YM) (ci := 7) (n := 1) (k := 1) (As := [.int v3]) (rest := []) rfl (by decide) vw_X7_85 ⟨Nat.le_of_ble_eq_true rfl, Nat.le_of_ble_eq_true rfl, Nat.zero_le _, Nat.zero_le _⟩ hc hw hl.1 (Nat.lt_of_lt_of_le (by decide) hM) rfl (m_X7_isCheese l hM v3 σ h) rfl rfl (Nat.le_of_ble_eq_true rfl) dX7_does_49 (fun r3 σ2 H locs h hw => ?_)
    refine lv_if_eq (tgt := 61) hx hb dX7_does_52 (by decide) (fun c4 => ?_) (fun c4 => ?_)
    · replace h := h.1 c4
      exact b_X7_does_61 hM v1 v2 v3 σ2 _ _ _ h  hc hr hw (lv_sub hl [0, 1, 2, 3] rfl)
    · replace h := h.2 c4
      refine lv_aload_n hx hb dX7_does_55 rfl (lv_at hl 0 rfl) ?_
      refine lv_iload_n hx hb dX7_does_56 rfl (lv_at hl 3 rfl) ?_
      refine lv_iload_n hx hb dX7_does_57 rfl (lv_at hl 2 rfl) ?_
      refine g_Vv (Y := YM) (ci := 7) (n := 2) (k := 1) (As := [.int v3, .int v2]) (rest := []) rfl (by decide) vw_X7_234 ⟨Nat.le_of_ble_eq_true rfl, Nat.le_of_ble_eq_true rfl, Nat.zero_le _, Nat.zero_le _⟩ hc hw hl.1 (Nat.lt_of_lt_of_le (by decide) hM) rfl (m_X7_handfuls l hM v3 v2 σ2 h) rfl rfl (Nat.le_of_ble_eq_true rfl) dX7_does_58 (fun σ5 H locs h hw => ?_)
      exact b_X7_does_61 hM v1 v2 v3 σ5 _ _ _ h  hc hr hw (lv_sub hl [0, 1, 2, 3] rfl)
def w_X7_does_16 (M : Nat) (post : St → Prop) (v1 : Int32) (v2 : Int32) (v3 : Int32) (σ : St) : Prop :=
  (v1 = 4 → (w_X7_held M (fun r3 σ2 => (∀ σ4 : St, σ4 = si σ2 13 7 r3 → (w_X7_does_42 M post v1 v2 v3 σ4))) ((gi σ 13 7) + v2) 99 σ)) ∧ (¬ (v1 = 4) → (w_X7_does_42 M post v1 v2 v3 σ))
set_option maxHeartbeats 4000000 in
set_option maxRecDepth 20000 in
theorem b_X7_does_16 {Γ : Gm} {ad : Nat → Nat} {p : Program} {l : Launch} {e : Env} {s : State} {m : MethodId} {args : Array Value} {below : List Frame} {meth : Method} {c : Code} {M : Nat} (hM : 20 ≤ M) {post : St → Prop}
    (v1 : Int32) (v2 : Int32) (v3 : Int32) (σ : St) (H : Heap) (locs : List Loc) (ls : Array Slot) (h : w_X7_does_16 M post v1 v2 v3 σ) (hc : CX Γ p s m args meth c cX7_does RX7 5) (hr : meth.sig.returnType = none) (hw : WH Γ YM M ad σ s H locs) (hl : lv_has ls 5 [(0, .ref (ad 0)), (1, .int v1), (2, .int v2), (3, .int v3)]) :
    W p l e (rmL 3 0 0) s m args below meth c H locs 0 0 (MQ below (va_Qv post (fun u t => WC Γ YM M ad u t) (AA Γ)) args s 0 0 (AA Γ)) (F0 m 16 ls []) := by
  have hx := hc.1
  have hb := hc.2.1
  unfold w_X7_does_16 at h
  refine lv_iload_n hx hb dX7_does_16 rfl (lv_at hl 1 rfl) ?_
  refine lv_iconst (v := 4) hx hb dX7_does_17 (by decide) ?_
  refine lv_icmp_ne (tgt := 42) hx hb dX7_does_18 (by decide) (fun c1 => ?_) (fun c1 => ?_)
  · replace h := h.2 c1
    exact b_X7_does_42 hM v1 v2 v3 σ _ _ _ h  hc hr hw (lv_sub hl [0, 1, 2, 3] rfl)
  · replace h := h.1 c1
    refine lv_aload_n hx hb dX7_does_21 rfl (lv_at hl 0 rfl) ?_
    refine fg_X7_47 hc hw (Nat.lt_of_lt_of_le (by decide) hM) rfl dX7_does_22 ?_
    refine lv_bipush (v := 7) hx hb dX7_does_25 (by decide) ?_
    refine lv_aload_n hx hb dX7_does_27 rfl (lv_at hl 0 rfl) ?_
    refine fg_X7_47 hc hw (Nat.lt_of_lt_of_le (by decide) hM) rfl dX7_does_28 ?_
    refine lv_bipush (v := 7) hx hb dX7_does_31 (by decide) ?_
    refine g_ialdK (Y := YM) (kd := 33) (n := 14) (k := 7) (o := 13) (by decide) (by decide) rfl hc hw (Nat.lt_of_lt_of_le (by decide) hM) rfl rfl (vp_in_lit (by decide)) (by decide) dX7_does_33 ?_
    refine lv_iload_n hx hb dX7_does_34 rfl (lv_at hl 2 rfl) ?_
    refine lv_iadd hx hb dX7_does_35 ?_
    refine lv_bipush (v := 99) hx hb dX7_does_36 (by decide) ?_
    refine g_Si (Y := YM) (n := 2) (k := 0) (As := [.int ((gi σ 13 7) + v2), .int 99]) (rest := [.int 7, .ref (ad 13)]) vw_X7_203 ⟨Nat.le_of_ble_eq_true rfl, Nat.le_of_ble_eq_true rfl, Nat.zero_le _, Nat.zero_le _⟩ hc hw hl.1 (m_X7_held l hM ((gi σ 13 7) + v2) 99 σ h) rfl rfl (Nat.le_of_ble_eq_true rfl) dX7_does_38 (fun r3 σ2 H locs h hw => ?_)
    refine g_iastK (Y := YM) (kd := 33) (n := 14) (k := 7) (o := 13) YM_ok (by decide) (by decide) rfl hc hw (Nat.lt_of_lt_of_le (by decide) hM) rfl rfl (vp_in_lit (by decide)) (by decide) dX7_does_41 (fun σ4 H locs eσ4 hw => ?_)
    replace h := h σ4 eσ4
    exact b_X7_does_42 hM v1 v2 v3 σ4 _ _ _ h  hc hr hw (lv_sub hl [0, 1, 2, 3] rfl)
def w_X7_does (M : Nat) (post : St → Prop) (a1 : Int32) (a2 : Int32) (a3 : Int32) (σ : St) : Prop :=
  (a1 = 1 → (w_X7_pours M (fun σ2 => (w_X7_does_16 M post a1 a2 a3 σ2)) a2 a3 σ)) ∧ (¬ (a1 = 1) → ((a1 = 4 → (w_X7_pours M (fun σ4 => (w_X7_does_16 M post a1 a2 a3 σ4)) a2 a3 σ)) ∧ (¬ (a1 = 4) → (w_X7_does_16 M post a1 a2 a3 σ))))
set_option maxHeartbeats 4000000 in
set_option maxRecDepth 20000 in
theorem m_X7_does {Γ : Gm} {ad : Nat → Nat} {M : Nat} (l : Launch) (hM : 20 ≤ M) {post : St → Prop} (a1 : Int32) (a2 : Int32) (a3 : Int32) (σ : St) (h : w_X7_does M post a1 a2 a3 σ) : Cv l Γ YM M ad σ yX7_does cX7_does 5 none 3 0 0 [.ref (ad 0), .int a1, .int a2, .int a3] post := by
  refine g_start (by decide) (Nat.le_of_ble_eq_true rfl) ?_
  intro p e s m args below meth c ls hc hr hn hl hw
  have hc : CX Γ p s m args meth c cX7_does RX7 5 := hc
  have hl : lv_has ls 5 [(0, .ref (ad 0)), (1, .int a1), (2, .int a2), (3, .int a3)] := hl
  have hx := hc.1
  have hb := hc.2.1
  unfold w_X7_does at h
  generalize hHH : s.heap = H0 at hw ⊢
  refine lv_iload_n hx hb dX7_does_0 rfl (lv_at hl 1 rfl) ?_
  refine lv_iconst (v := 1) hx hb dX7_does_1 (by decide) ?_
  refine lv_icmp_eq (tgt := 10) hx hb dX7_does_2 (by decide) (fun c1 => ?_) (fun c1 => ?_)
  · replace h := h.1 c1
    refine lv_aload_n hx hb dX7_does_10 rfl (lv_at hl 0 rfl) ?_
    refine lv_iload_n hx hb dX7_does_11 rfl (lv_at hl 2 rfl) ?_
    refine lv_iload_n hx hb dX7_does_12 rfl (lv_at hl 3 rfl) ?_
    refine g_Vv (Y := YM) (ci := 7) (n := 2) (k := 1) (As := [.int a2, .int a3]) (rest := []) rfl (by decide) vw_X7_230 ⟨Nat.le_of_ble_eq_true rfl, Nat.le_of_ble_eq_true rfl, Nat.zero_le _, Nat.zero_le _⟩ hc hw hl.1 (Nat.lt_of_lt_of_le (by decide) hM) rfl (m_X7_pours l hM a2 a3 σ h) rfl rfl (Nat.le_of_ble_eq_true rfl) dX7_does_13 (fun σ2 H locs h hw => ?_)
    exact b_X7_does_16 hM a1 a2 a3 σ2 _ _ _ h  hc hr hw (lv_sub hl [0, 1, 2, 3] rfl)
  · replace h := h.2 c1
    refine lv_iload_n hx hb dX7_does_5 rfl (lv_at hl 1 rfl) ?_
    refine lv_iconst (v := 4) hx hb dX7_does_6 (by decide) ?_
    refine lv_icmp_ne (tgt := 16) hx hb dX7_does_7 (by decide) (fun c3 => ?_) (fun c3 => ?_)
    · replace h := h.2 c3
      exact b_X7_does_16 hM a1 a2 a3 σ _ _ _ h  hc hr hw (lv_sub hl [0, 1, 2, 3] rfl)
    · replace h := h.1 c3
      refine lv_aload_n hx hb dX7_does_10 rfl (lv_at hl 0 rfl) ?_
      refine lv_iload_n hx hb dX7_does_11 rfl (lv_at hl 2 rfl) ?_
      refine lv_iload_n hx hb dX7_does_12 rfl (lv_at hl 3 rfl) ?_
      refine g_Vv (Y := YM) (ci := 7) (n := 2) (k := 1) (As := [.int a2, .int a3]) (rest := []) rfl (by decide) vw_X7_230 ⟨Nat.le_of_ble_eq_true rfl, Nat.le_of_ble_eq_true rfl, Nat.zero_le _, Nat.zero_le _⟩ hc hw hl.1 (Nat.lt_of_lt_of_le (by decide) hM) rfl (m_X7_pours l hM a2 a3 σ h) rfl rfl (Nat.le_of_ble_eq_true rfl) dX7_does_13 (fun σ4 H locs h hw => ?_)
      exact b_X7_does_16 hM a1 a2 a3 σ4 _ _ _ h  hc hr hw (lv_sub hl [0, 1, 2, 3] rfl)
def w_X7_sortNow (M : Nat) (post : Int32 → St → Prop)  (σ : St) : Prop :=
  ((gi σ 13 11) = 0 → (post 0 σ)) ∧ (¬ ((gi σ 13 11) = 0) → (∀ y2 : Int64, y2 = ((gi σ 13 2) + (gi σ 13 3)).toInt64 → (((lg_cmp (4 * ((gi σ 13 4).toInt64)) y2) ≤ 0 → (((gi σ 13 0) ≤ (gi σ 13 1) → (w_X7_thick M (fun r6 σ5 => ((r6 ≤ 60 → (w_X7_threads M (fun r9 σ8 => ((r9 ≤ 40 → (post 0 σ8)) ∧ (¬ (r9 ≤ 40) → (post 1 σ8)))) σ5)) ∧ (¬ (r6 ≤ 60) → (post 5 σ5)))) σ)) ∧ (¬ ((gi σ 13 0) ≤ (gi σ 13 1)) → (post 2 σ)))) ∧ (¬ ((lg_cmp (4 * ((gi σ 13 4).toInt64)) y2) ≤ 0) → (((gi σ 13 0) ≤ (gi σ 13 1) → (post 3 σ)) ∧ (¬ ((gi σ 13 0) ≤ (gi σ 13 1)) → (((gi σ 13 5) ≤ (5 * (gi σ 13 11)) → (post 3 σ)) ∧ (¬ ((gi σ 13 5) ≤ (5 * (gi σ 13 11))) → (post 4 σ)))))))))
set_option maxHeartbeats 4000000 in
set_option maxRecDepth 20000 in
theorem m_X7_sortNow {Γ : Gm} {ad : Nat → Nat} {M : Nat} (l : Launch) (hM : 20 ≤ M) {post : Int32 → St → Prop}  (σ : St) (h : w_X7_sortNow M post  σ) : Ci l Γ YM M ad σ yX7_sortNow cX7_sortNow 1 (Option.some Jvm.ClassFile.FieldType.int) 3 0 0 [.ref (ad 0)] post := by
  refine g_start (by decide) (Nat.le_of_ble_eq_true rfl) ?_
  intro p e s m args below meth c ls hc hr hn hl hw
  have hc : CX Γ p s m args meth c cX7_sortNow RX7 1 := hc
  have hl : lv_has ls 1 [(0, .ref (ad 0))] := hl
  have hx := hc.1
  have hb := hc.2.1
  unfold w_X7_sortNow at h
  generalize hHH : s.heap = H0 at hw ⊢
  refine lv_aload_n hx hb dX7_sortNow_0 rfl (lv_at hl 0 rfl) ?_
  refine fg_X7_47 hc hw (Nat.lt_of_lt_of_le (by decide) hM) rfl dX7_sortNow_1 ?_
  refine lv_bipush (v := 11) hx hb dX7_sortNow_4 (by decide) ?_
  refine g_ialdK (Y := YM) (kd := 33) (n := 14) (k := 11) (o := 13) (by decide) (by decide) rfl hc hw (Nat.lt_of_lt_of_le (by decide) hM) rfl rfl (vp_in_lit (by decide)) (by decide) dX7_sortNow_6 ?_
  refine lv_if_ne (tgt := 12) hx hb dX7_sortNow_7 (by decide) (fun c1 => ?_) (fun c1 => ?_)
  · replace h := h.2 c1
    refine lv_ldc2 (v := 4) hx hb hc.2.2.2.1 (hc.2.2.2.2.1 _ q_1091) dX7_sortNow_12 ?_
    refine lv_aload_n hx hb dX7_sortNow_15 rfl (lv_at hl 0 rfl) ?_
    refine fg_X7_47 hc hw (Nat.lt_of_lt_of_le (by decide) hM) rfl dX7_sortNow_16 ?_
    refine lv_iconst (v := 4) hx hb dX7_sortNow_19 (by decide) ?_
    refine g_ialdK (Y := YM) (kd := 33) (n := 14) (k := 4) (o := 13) (by decide) (by decide) rfl hc hw (Nat.lt_of_lt_of_le (by decide) hM) rfl rfl (vp_in_lit (by decide)) (by decide) dX7_sortNow_20 ?_
    refine lv_i2l (v := (gi σ 13 4).toInt64) hx hb dX7_sortNow_21 rfl ?_
    refine lv_lmul hx hb dX7_sortNow_22 ?_
    refine lv_aload_n hx hb dX7_sortNow_23 rfl (lv_at hl 0 rfl) ?_
    refine fg_X7_47 hc hw (Nat.lt_of_lt_of_le (by decide) hM) rfl dX7_sortNow_24 ?_
    refine lv_iconst (v := 2) hx hb dX7_sortNow_27 (by decide) ?_
    refine g_ialdK (Y := YM) (kd := 33) (n := 14) (k := 2) (o := 13) (by decide) (by decide) rfl hc hw (Nat.lt_of_lt_of_le (by decide) hM) rfl rfl (vp_in_lit (by decide)) (by decide) dX7_sortNow_28 ?_
    refine lv_aload_n hx hb dX7_sortNow_29 rfl (lv_at hl 0 rfl) ?_
    refine fg_X7_47 hc hw (Nat.lt_of_lt_of_le (by decide) hM) rfl dX7_sortNow_30 ?_
    refine lv_iconst (v := 3) hx hb dX7_sortNow_33 (by decide) ?_
    refine g_ialdK (Y := YM) (kd := 33) (n := 14) (k := 3) (o := 13) (by decide) (by decide) rfl hc hw (Nat.lt_of_lt_of_le (by decide) hM) rfl rfl (vp_in_lit (by decide)) (by decide) dX7_sortNow_34 ?_
    refine lv_iadd hx hb dX7_sortNow_35 ?_
    refine lv_i2l (v := ((gi σ 13 2) + (gi σ 13 3)).toInt64) hx hb dX7_sortNow_36 rfl ?_
    refine lv_topl (fun y2 ey2 => ?_)
    replace h := h y2 ey2
    refine W.lcmp hx hb dX7_sortNow_37 ?_
    refine lv_if_le (tgt := 80) hx hb dX7_sortNow_38 (by decide) (fun c3 => ?_) (fun c3 => ?_)
    · replace h := h.1 c3
      refine lv_aload_n hx hb dX7_sortNow_80 rfl (lv_at hl 0 rfl) ?_
      refine fg_X7_47 hc hw (Nat.lt_of_lt_of_le (by decide) hM) rfl dX7_sortNow_81 ?_
      refine lv_iconst (v := 0) hx hb dX7_sortNow_84 (by decide) ?_
      refine g_ialdK (Y := YM) (kd := 33) (n := 14) (k := 0) (o := 13) (by decide) (by decide) rfl hc hw (Nat.lt_of_lt_of_le (by decide) hM) rfl rfl (vp_in_lit (by decide)) (by decide) dX7_sortNow_85 ?_
      refine lv_aload_n hx hb dX7_sortNow_86 rfl (lv_at hl 0 rfl) ?_
      refine fg_X7_47 hc hw (Nat.lt_of_lt_of_le (by decide) hM) rfl dX7_sortNow_87 ?_
      refine lv_iconst (v := 1) hx hb dX7_sortNow_90 (by decide) ?_
      refine g_ialdK (Y := YM) (kd := 33) (n := 14) (k := 1) (o := 13) (by decide) (by decide) rfl hc hw (Nat.lt_of_lt_of_le (by decide) hM) rfl rfl (vp_in_lit (by decide)) (by decide) dX7_sortNow_91 ?_
      refine lv_icmp_le (tgt := 99) hx hb dX7_sortNow_92 (by decide) (fun c4 => ?_) (fun c4 => ?_)
      · replace h := h.1 c4
        refine lv_aload_n hx hb dX7_sortNow_99 rfl (lv_at hl 0 rfl) ?_
        refine g_Vi (Y := YM) (ci := 7) (n := 0) (k := 0) (As := []) (rest := []) rfl (by decide) vw_X7_254 ⟨Nat.le_of_ble_eq_true rfl, Nat.le_of_ble_eq_true rfl, Nat.zero_le _, Nat.zero_le _⟩ hc hw hl.1 (Nat.lt_of_lt_of_le (by decide) hM) rfl (m_X7_thick l hM σ h) rfl rfl (Nat.le_of_ble_eq_true rfl) dX7_sortNow_100 (fun r6 σ5 H locs h hw => ?_)
        refine lv_bipush (v := 60) hx hb dX7_sortNow_103 (by decide) ?_
        refine lv_icmp_le (tgt := 112) hx hb dX7_sortNow_105 (by decide) (fun c7 => ?_) (fun c7 => ?_)
        · replace h := h.1 c7
          refine lv_aload_n hx hb dX7_sortNow_112 rfl (lv_at hl 0 rfl) ?_
          refine g_Vi (Y := YM) (ci := 7) (n := 0) (k := 2) (As := []) (rest := []) rfl (by decide) vw_X7_257 ⟨Nat.le_of_ble_eq_true rfl, Nat.le_of_ble_eq_true rfl, Nat.zero_le _, Nat.zero_le _⟩ hc hw hl.1 (Nat.lt_of_lt_of_le (by decide) hM) rfl (m_X7_threads l hM σ5 h) rfl rfl (Nat.le_of_ble_eq_true rfl) dX7_sortNow_113 (fun r9 σ8 H locs h hw => ?_)
          refine lv_bipush (v := 40) hx hb dX7_sortNow_116 (by decide) ?_
          refine lv_icmp_le (tgt := 125) hx hb dX7_sortNow_118 (by decide) (fun c10 => ?_) (fun c10 => ?_)
          · replace h := h.1 c10
            refine lv_iconst (v := 0) hx hb dX7_sortNow_125 (by decide) ?_
            exact g_iret hc hr hw h dX7_sortNow_126
          · replace h := h.2 c10
            refine lv_iconst (v := 1) hx hb dX7_sortNow_121 (by decide) ?_
            refine lv_goto (tgt := 126) hx hb dX7_sortNow_122 (by decide) ?_
            exact g_iret hc hr hw h dX7_sortNow_126
        · replace h := h.2 c7
          refine lv_iconst (v := 5) hx hb dX7_sortNow_108 (by decide) ?_
          refine lv_goto (tgt := 126) hx hb dX7_sortNow_109 (by decide) ?_
          exact g_iret hc hr hw h dX7_sortNow_126
      · replace h := h.2 c4
        refine lv_iconst (v := 2) hx hb dX7_sortNow_95 (by decide) ?_
        refine lv_goto (tgt := 126) hx hb dX7_sortNow_96 (by decide) ?_
        exact g_iret hc hr hw h dX7_sortNow_126
    · replace h := h.2 c3
      refine lv_aload_n hx hb dX7_sortNow_41 rfl (lv_at hl 0 rfl) ?_
      refine fg_X7_47 hc hw (Nat.lt_of_lt_of_le (by decide) hM) rfl dX7_sortNow_42 ?_
      refine lv_iconst (v := 0) hx hb dX7_sortNow_45 (by decide) ?_
      refine g_ialdK (Y := YM) (kd := 33) (n := 14) (k := 0) (o := 13) (by decide) (by decide) rfl hc hw (Nat.lt_of_lt_of_le (by decide) hM) rfl rfl (vp_in_lit (by decide)) (by decide) dX7_sortNow_46 ?_
      refine lv_aload_n hx hb dX7_sortNow_47 rfl (lv_at hl 0 rfl) ?_
      refine fg_X7_47 hc hw (Nat.lt_of_lt_of_le (by decide) hM) rfl dX7_sortNow_48 ?_
      refine lv_iconst (v := 1) hx hb dX7_sortNow_51 (by decide) ?_
      refine g_ialdK (Y := YM) (kd := 33) (n := 14) (k := 1) (o := 13) (by decide) (by decide) rfl hc hw (Nat.lt_of_lt_of_le (by decide) hM) rfl rfl (vp_in_lit (by decide)) (by decide) dX7_sortNow_52 ?_
      refine lv_icmp_le (tgt := 78) hx hb dX7_sortNow_53 (by decide) (fun c11 => ?_) (fun c11 => ?_)
      · replace h := h.1 c11
        refine lv_iconst (v := 3) hx hb dX7_sortNow_78 (by decide) ?_
        exact g_iret hc hr hw h dX7_sortNow_79
      · replace h := h.2 c11
        refine lv_aload_n hx hb dX7_sortNow_56 rfl (lv_at hl 0 rfl) ?_
        refine fg_X7_47 hc hw (Nat.lt_of_lt_of_le (by decide) hM) rfl dX7_sortNow_57 ?_
        refine lv_iconst (v := 5) hx hb dX7_sortNow_60 (by decide) ?_
        refine g_ialdK (Y := YM) (kd := 33) (n := 14) (k := 5) (o := 13) (by decide) (by decide) rfl hc hw (Nat.lt_of_lt_of_le (by decide) hM) rfl rfl (vp_in_lit (by decide)) (by decide) dX7_sortNow_61 ?_
        refine lv_iconst (v := 5) hx hb dX7_sortNow_62 (by decide) ?_
        refine lv_aload_n hx hb dX7_sortNow_63 rfl (lv_at hl 0 rfl) ?_
        refine fg_X7_47 hc hw (Nat.lt_of_lt_of_le (by decide) hM) rfl dX7_sortNow_64 ?_
        refine lv_bipush (v := 11) hx hb dX7_sortNow_67 (by decide) ?_
        refine g_ialdK (Y := YM) (kd := 33) (n := 14) (k := 11) (o := 13) (by decide) (by decide) rfl hc hw (Nat.lt_of_lt_of_le (by decide) hM) rfl rfl (vp_in_lit (by decide)) (by decide) dX7_sortNow_69 ?_
        refine lv_imul hx hb dX7_sortNow_70 ?_
        refine lv_icmp_le (tgt := 78) hx hb dX7_sortNow_71 (by decide) (fun c12 => ?_) (fun c12 => ?_)
        · replace h := h.1 c12
          refine lv_iconst (v := 3) hx hb dX7_sortNow_78 (by decide) ?_
          exact g_iret hc hr hw h dX7_sortNow_79
        · replace h := h.2 c12
          refine lv_iconst (v := 4) hx hb dX7_sortNow_74 (by decide) ?_
          refine lv_goto (tgt := 79) hx hb dX7_sortNow_75 (by decide) ?_
          exact g_iret hc hr hw h dX7_sortNow_79
  · replace h := h.1 c1
    refine lv_iconst (v := 0) hx hb dX7_sortNow_10 (by decide) ?_
    exact g_iret hc hr hw h dX7_sortNow_11
def w_X7_taken (M : Nat) (post : Int32 → St → Prop) (a1 : Int32) (a2 : Int32) (σ : St) : Prop :=
  w_X7_in M (fun r2 σ1 => ((r2 = 0 → (post (-2) σ1)) ∧ (¬ (r2 = 0) → (w_X7_in M (fun r5 σ4 => ((r5 = 0 → (post (-12) σ4)) ∧ (¬ (r5 = 0) → ((4 ≤ a1 → (w_X7_takenAct M (fun r9 σ8 => (post r9 σ8)) (a1 - 4) a2 σ4)) ∧ (¬ (4 ≤ a1) → (w_X7_isCheese M (fun r11 σ10 => ((r11 = 0 → (post (-11) σ10)) ∧ (¬ (r11 = 0) → ((a2 = 6 → ((vp_in (5 * a1) 20) ∧ (∀ x14 : Int32, x14 = gi σ10 1 ((5 * a1).toNatClampNeg) → (post x14 σ10)))) ∧ (¬ (a2 = 6) → (post (-13) σ10)))))) a1 σ4)))))) a1.toInt64 0 15 σ1)))) a2.toInt64 0 6 σ
set_option maxHeartbeats 4000000 in
set_option maxRecDepth 20000 in
theorem m_X7_taken {Γ : Gm} {ad : Nat → Nat} {M : Nat} (l : Launch) (hM : 20 ≤ M) {post : Int32 → St → Prop} (a1 : Int32) (a2 : Int32) (σ : St) (h : w_X7_taken M post a1 a2 σ) : Ci l Γ YM M ad σ yX7_taken cX7_taken 3 (Option.some Jvm.ClassFile.FieldType.int) 3 0 0 [.ref (ad 0), .int a1, .int a2] post := by
  refine g_start (by decide) (Nat.le_of_ble_eq_true rfl) ?_
  intro p e s m args below meth c ls hc hr hn hl hw
  have hc : CX Γ p s m args meth c cX7_taken RX7 3 := hc
  have hl : lv_has ls 3 [(0, .ref (ad 0)), (1, .int a1), (2, .int a2)] := hl
  have hx := hc.1
  have hb := hc.2.1
  unfold w_X7_taken at h
  generalize hHH : s.heap = H0 at hw ⊢
  refine lv_iload_n hx hb dX7_taken_0 rfl (lv_at hl 2 rfl) ?_
  refine lv_i2l (v := a2.toInt64) hx hb dX7_taken_1 rfl ?_
  refine lv_lconst (v := 0) hx hb dX7_taken_2 (by decide) ?_
  refine lv_ldc2 (v := 6) hx hb hc.2.2.2.1 (hc.2.2.2.2.1 _ q_1450) dX7_taken_3 ?_
  refine g_Si (Y := YM) (n := 3) (k := 0) (As := [.long a2.toInt64, .long 0, .long 6]) (rest := []) vw_X7_75 ⟨Nat.le_of_ble_eq_true rfl, Nat.le_of_ble_eq_true rfl, Nat.zero_le _, Nat.zero_le _⟩ hc hw hl.1 (m_X7_in l hM a2.toInt64 0 6 σ h) rfl rfl (Nat.le_of_ble_eq_true rfl) dX7_taken_6 (fun r2 σ1 H locs h hw => ?_)
  refine lv_if_ne (tgt := 15) hx hb dX7_taken_9 (by decide) (fun c3 => ?_) (fun c3 => ?_)
  · replace h := h.2 c3
    refine lv_iload_n hx hb dX7_taken_15 rfl (lv_at hl 1 rfl) ?_
    refine lv_i2l (v := a1.toInt64) hx hb dX7_taken_16 rfl ?_
    refine lv_lconst (v := 0) hx hb dX7_taken_17 (by decide) ?_
    refine lv_ldc2 (v := 15) hx hb hc.2.2.2.1 (hc.2.2.2.2.1 _ q_1451) dX7_taken_18 ?_
    refine g_Si (Y := YM) (n := 3) (k := 0) (As := [.long a1.toInt64, .long 0, .long 15]) (rest := []) vw_X7_75 ⟨Nat.le_of_ble_eq_true rfl, Nat.le_of_ble_eq_true rfl, Nat.zero_le _, Nat.zero_le _⟩ hc hw hl.1 (m_X7_in l hM a1.toInt64 0 15 σ1 h) rfl rfl (Nat.le_of_ble_eq_true rfl) dX7_taken_21 (fun r5 σ4 H locs h hw => ?_)
    refine lv_if_ne (tgt := 30) hx hb dX7_taken_24 (by decide) (fun c6 => ?_) (fun c6 => ?_)
    · replace h := h.2 c6
      refine lv_iload_n hx hb dX7_taken_30 rfl (lv_at hl 1 rfl) ?_
      refine lv_iconst (v := 4) hx hb dX7_taken_31 (by decide) ?_
      refine lv_icmp_ge (tgt := 68) hx hb dX7_taken_32 (by decide) (fun c7 => ?_) (fun c7 => ?_)
      · replace h := h.1 c7
        refine lv_aload_n hx hb dX7_taken_68 rfl (lv_at hl 0 rfl) ?_
        refine lv_iload_n hx hb dX7_taken_69 rfl (lv_at hl 1 rfl) ?_
        refine lv_iconst (v := 4) hx hb dX7_taken_70 (by decide) ?_
        refine lv_isub hx hb dX7_taken_71 ?_
        refine lv_iload_n hx hb dX7_taken_72 rfl (lv_at hl 2 rfl) ?_
        refine g_Vi (Y := YM) (ci := 7) (n := 2) (k := 2) (As := [.int (a1 - 4), .int a2]) (rest := []) rfl (by decide) vw_X7_346 ⟨Nat.le_of_ble_eq_true rfl, Nat.le_of_ble_eq_true rfl, Nat.zero_le _, Nat.zero_le _⟩ hc hw hl.1 (Nat.lt_of_lt_of_le (by decide) hM) rfl (m_X7_takenAct l hM (a1 - 4) a2 σ4 h) rfl rfl (Nat.le_of_ble_eq_true rfl) dX7_taken_73 (fun r9 σ8 H locs h hw => ?_)
        exact g_iret hc hr hw h dX7_taken_76
      · replace h := h.2 c7
        refine lv_aload_n hx hb dX7_taken_35 rfl (lv_at hl 0 rfl) ?_
        refine lv_iload_n hx hb dX7_taken_36 rfl (lv_at hl 1 rfl) ?_
        refine g_Vi (Y := YM) (ci := 7) (n := 1) (k := 1) (As := [.int a1]) (rest := []) rfl (by decide) vw_X7_85 ⟨Nat.le_of_ble_eq_true rfl, Nat.le_of_ble_eq_true rfl, Nat.zero_le _, Nat.zero_le _⟩ hc hw hl.1 (Nat.lt_of_lt_of_le (by decide) hM) rfl (m_X7_isCheese l hM a1 σ4 h) rfl rfl (Nat.le_of_ble_eq_true rfl) dX7_taken_37 (fun r11 σ10 H locs h hw => ?_)
        refine lv_if_ne (tgt := 48) hx hb dX7_taken_40 (by decide) (fun c12 => ?_) (fun c12 => ?_)
        · replace h := h.2 c12
          refine lv_iload_n hx hb dX7_taken_48 rfl (lv_at hl 2 rfl) ?_
          refine lv_bipush (v := 6) hx hb dX7_taken_49 (by decide) ?_
          refine lv_icmp_ne (tgt := 65) hx hb dX7_taken_51 (by decide) (fun c13 => ?_) (fun c13 => ?_)
          · replace h := h.2 c13
            refine lv_bipush (v := (-13)) hx hb dX7_taken_65 (by decide) ?_
            exact g_iret hc hr hw h dX7_taken_67
          · replace h := h.1 c13
            refine lv_aload_n hx hb dX7_taken_54 rfl (lv_at hl 0 rfl) ?_
            refine fg_X7_9 hc hw (Nat.lt_of_lt_of_le (by decide) hM) rfl dX7_taken_55 ?_
            refine lv_iconst (v := 5) hx hb dX7_taken_58 (by decide) ?_
            refine lv_iload_n hx hb dX7_taken_59 rfl (lv_at hl 1 rfl) ?_
            refine lv_imul hx hb dX7_taken_60 ?_
            refine g_ialdK (Y := YM) (kd := 21) (n := 20) (k := (5 * a1).toNatClampNeg) (o := 1) (by decide) (by decide) rfl hc hw (Nat.lt_of_lt_of_le (by decide) hM) rfl rfl h.1 rfl dX7_taken_61 ?_
            replace h := h.2
            refine lv_topi (fun x14 ex14 => ?_)
            replace h := h x14 ex14
            refine lv_goto (tgt := 67) hx hb dX7_taken_62 (by decide) ?_
            exact g_iret hc hr hw h dX7_taken_67
        · replace h := h.1 c12
          refine lv_bipush (v := (-11)) hx hb dX7_taken_43 (by decide) ?_
          refine lv_goto (tgt := 67) hx hb dX7_taken_45 (by decide) ?_
          exact g_iret hc hr hw h dX7_taken_67
    · replace h := h.1 c6
      refine lv_bipush (v := (-12)) hx hb dX7_taken_27 (by decide) ?_
      exact g_iret hc hr hw h dX7_taken_29
  · replace h := h.1 c3
    refine lv_bipush (v := (-2)) hx hb dX7_taken_12 (by decide) ?_
    exact g_iret hc hr hw h dX7_taken_14
def w_X7_doesAct (M : Nat) (post : St → Prop) (a1 : Int32) (σ : St) : Prop :=
  (vp_in a1 12) ∧ ((vp_in a1 12) ∧ ((vp_in a1 12) ∧ (w_X7_does M (fun σ1 => (post σ1)) (gi σ 10 a1.toNatClampNeg) (gi σ 11 a1.toNatClampNeg) (gi σ 12 a1.toNatClampNeg) σ)))
set_option maxHeartbeats 4000000 in
set_option maxRecDepth 20000 in
theorem m_X7_doesAct {Γ : Gm} {ad : Nat → Nat} {M : Nat} (l : Launch) (hM : 20 ≤ M) {post : St → Prop} (a1 : Int32) (σ : St) (h : w_X7_doesAct M post a1 σ) : Cv l Γ YM M ad σ yX7_doesAct cX7_doesAct 2 none 4 0 0 [.ref (ad 0), .int a1] post := by
  refine g_start (by decide) (Nat.le_of_ble_eq_true rfl) ?_
  intro p e s m args below meth c ls hc hr hn hl hw
  have hc : CX Γ p s m args meth c cX7_doesAct RX7 2 := hc
  have hl : lv_has ls 2 [(0, .ref (ad 0)), (1, .int a1)] := hl
  have hx := hc.1
  have hb := hc.2.1
  unfold w_X7_doesAct at h
  generalize hHH : s.heap = H0 at hw ⊢
  refine lv_aload_n hx hb dX7_doesAct_0 rfl (lv_at hl 0 rfl) ?_
  refine lv_aload_n hx hb dX7_doesAct_1 rfl (lv_at hl 0 rfl) ?_
  refine fg_X7_38 hc hw (Nat.lt_of_lt_of_le (by decide) hM) rfl dX7_doesAct_2 ?_
  refine lv_iload_n hx hb dX7_doesAct_5 rfl (lv_at hl 1 rfl) ?_
  refine g_ialdK (Y := YM) (kd := 30) (n := 12) (k := a1.toNatClampNeg) (o := 10) (by decide) (by decide) rfl hc hw (Nat.lt_of_lt_of_le (by decide) hM) rfl rfl h.1 rfl dX7_doesAct_6 ?_
  replace h := h.2
  refine lv_aload_n hx hb dX7_doesAct_7 rfl (lv_at hl 0 rfl) ?_
  refine fg_X7_41 hc hw (Nat.lt_of_lt_of_le (by decide) hM) rfl dX7_doesAct_8 ?_
  refine lv_iload_n hx hb dX7_doesAct_11 rfl (lv_at hl 1 rfl) ?_
  refine g_ialdK (Y := YM) (kd := 31) (n := 12) (k := a1.toNatClampNeg) (o := 11) (by decide) (by decide) rfl hc hw (Nat.lt_of_lt_of_le (by decide) hM) rfl rfl h.1 rfl dX7_doesAct_12 ?_
  replace h := h.2
  refine lv_aload_n hx hb dX7_doesAct_13 rfl (lv_at hl 0 rfl) ?_
  refine fg_X7_44 hc hw (Nat.lt_of_lt_of_le (by decide) hM) rfl dX7_doesAct_14 ?_
  refine lv_iload_n hx hb dX7_doesAct_17 rfl (lv_at hl 1 rfl) ?_
  refine g_ialdK (Y := YM) (kd := 32) (n := 12) (k := a1.toNatClampNeg) (o := 12) (by decide) (by decide) rfl hc hw (Nat.lt_of_lt_of_le (by decide) hM) rfl rfl h.1 rfl dX7_doesAct_18 ?_
  replace h := h.2
  refine g_Vv (Y := YM) (ci := 7) (n := 3) (k := 3) (As := [.int (gi σ 10 a1.toNatClampNeg), .int (gi σ 11 a1.toNatClampNeg), .int (gi σ 12 a1.toNatClampNeg)]) (rest := []) rfl (by decide) vw_X7_244 ⟨Nat.le_of_ble_eq_true rfl, Nat.le_of_ble_eq_true rfl, Nat.zero_le _, Nat.zero_le _⟩ hc hw hl.1 (Nat.lt_of_lt_of_le (by decide) hM) rfl (m_X7_does l hM (gi σ 10 a1.toNatClampNeg) (gi σ 11 a1.toNatClampNeg) (gi σ 12 a1.toNatClampNeg) σ h) rfl rfl (Nat.le_of_ble_eq_true rfl) dX7_doesAct_19 (fun σ1 H locs h hw => ?_)
  exact g_vret hc hr hw h dX7_doesAct_22
def w_X7_holds (M : Nat) (post : Int32 → St → Prop)  (σ : St) : Prop :=
  w_X7_sortNow M (fun r2 σ1 => ((r2 = 3 → (post 0 σ1)) ∧ (¬ (r2 = 3) → (w_X7_sortNow M (fun r5 σ4 => ((r5 = 4 → (post 0 σ4)) ∧ (¬ (r5 = 4) → (post 1 σ4)))) σ1)))) σ
set_option maxHeartbeats 4000000 in
set_option maxRecDepth 20000 in
theorem m_X7_holds {Γ : Gm} {ad : Nat → Nat} {M : Nat} (l : Launch) (hM : 20 ≤ M) {post : Int32 → St → Prop}  (σ : St) (h : w_X7_holds M post  σ) : Ci l Γ YM M ad σ yX7_holds cX7_holds 1 (Option.some Jvm.ClassFile.FieldType.boolean) 4 0 0 [.ref (ad 0)] post := by
  refine g_start (by decide) (Nat.le_of_ble_eq_true rfl) ?_
  intro p e s m args below meth c ls hc hr hn hl hw
  have hc : CX Γ p s m args meth c cX7_holds RX7 1 := hc
  have hl : lv_has ls 1 [(0, .ref (ad 0))] := hl
  have hx := hc.1
  have hb := hc.2.1
  unfold w_X7_holds at h
  generalize hHH : s.heap = H0 at hw ⊢
  refine lv_aload_n hx hb dX7_holds_0 rfl (lv_at hl 0 rfl) ?_
  refine g_Vi (Y := YM) (ci := 7) (n := 0) (k := 3) (As := []) (rest := []) rfl (by decide) vw_X7_260 ⟨Nat.le_of_ble_eq_true rfl, Nat.le_of_ble_eq_true rfl, Nat.zero_le _, Nat.zero_le _⟩ hc hw hl.1 (Nat.lt_of_lt_of_le (by decide) hM) rfl (m_X7_sortNow l hM σ h) rfl rfl (Nat.le_of_ble_eq_true rfl) dX7_holds_1 (fun r2 σ1 H locs h hw => ?_)
  refine lv_iconst (v := 3) hx hb dX7_holds_4 (by decide) ?_
  refine lv_icmp_eq (tgt := 20) hx hb dX7_holds_5 (by decide) (fun c3 => ?_) (fun c3 => ?_)
  · replace h := h.1 c3
    refine lv_iconst (v := 0) hx hb dX7_holds_20 (by decide) ?_
    exact g_zret hc hr hw rfl h dX7_holds_21
  · replace h := h.2 c3
    refine lv_aload_n hx hb dX7_holds_8 rfl (lv_at hl 0 rfl) ?_
    refine g_Vi (Y := YM) (ci := 7) (n := 0) (k := 3) (As := []) (rest := []) rfl (by decide) vw_X7_260 ⟨Nat.le_of_ble_eq_true rfl, Nat.le_of_ble_eq_true rfl, Nat.zero_le _, Nat.zero_le _⟩ hc hw hl.1 (Nat.lt_of_lt_of_le (by decide) hM) rfl (m_X7_sortNow l hM σ1 h) rfl rfl (Nat.le_of_ble_eq_true rfl) dX7_holds_9 (fun r5 σ4 H locs h hw => ?_)
    refine lv_iconst (v := 4) hx hb dX7_holds_12 (by decide) ?_
    refine lv_icmp_eq (tgt := 20) hx hb dX7_holds_13 (by decide) (fun c6 => ?_) (fun c6 => ?_)
    · replace h := h.1 c6
      refine lv_iconst (v := 0) hx hb dX7_holds_20 (by decide) ?_
      exact g_zret hc hr hw rfl h dX7_holds_21
    · replace h := h.2 c6
      refine lv_iconst (v := 1) hx hb dX7_holds_16 (by decide) ?_
      refine lv_goto (tgt := 21) hx hb dX7_holds_17 (by decide) ?_
      exact g_zret hc hr hw rfl h dX7_holds_21
def w_X7_potTold (M : Nat) (post : Int32 → St → Prop) (a1 : Int32) (σ : St) : Prop :=
  (a1 = 11 → (w_X7_thick M (fun r9 σ8 => (post r9 σ8)) σ)) ∧ (¬ (a1 = 11) → ((a1 = 12 → (w_X7_threads M (fun r7 σ6 => (post r7 σ6)) σ)) ∧ (¬ (a1 = 12) → ((a1 = 13 → (w_X7_sortNow M (fun r5 σ4 => (post r5 σ4)) σ)) ∧ (¬ (a1 = 13) → ((vp_in a1 14) ∧ (post (gi σ 13 a1.toNatClampNeg) σ)))))))
set_option maxHeartbeats 4000000 in
set_option maxRecDepth 20000 in
theorem m_X7_potTold {Γ : Gm} {ad : Nat → Nat} {M : Nat} (l : Launch) (hM : 20 ≤ M) {post : Int32 → St → Prop} (a1 : Int32) (σ : St) (h : w_X7_potTold M post a1 σ) : Ci l Γ YM M ad σ yX7_potTold cX7_potTold 2 (Option.some Jvm.ClassFile.FieldType.int) 4 0 0 [.ref (ad 0), .int a1] post := by
  refine g_start (by decide) (Nat.le_of_ble_eq_true rfl) ?_
  intro p e s m args below meth c ls hc hr hn hl hw
  have hc : CX Γ p s m args meth c cX7_potTold RX7 2 := hc
  have hl : lv_has ls 2 [(0, .ref (ad 0)), (1, .int a1)] := hl
  have hx := hc.1
  have hb := hc.2.1
  unfold w_X7_potTold at h
  generalize hHH : s.heap = H0 at hw ⊢
  refine lv_iload_n hx hb dX7_potTold_0 rfl (lv_at hl 1 rfl) ?_
  refine lv_bipush (v := 11) hx hb dX7_potTold_1 (by decide) ?_
  refine lv_icmp_ne (tgt := 13) hx hb dX7_potTold_3 (by decide) (fun c1 => ?_) (fun c1 => ?_)
  · replace h := h.2 c1
    refine lv_iload_n hx hb dX7_potTold_13 rfl (lv_at hl 1 rfl) ?_
    refine lv_bipush (v := 12) hx hb dX7_potTold_14 (by decide) ?_
    refine lv_icmp_ne (tgt := 26) hx hb dX7_potTold_16 (by decide) (fun c2 => ?_) (fun c2 => ?_)
    · replace h := h.2 c2
      refine lv_iload_n hx hb dX7_potTold_26 rfl (lv_at hl 1 rfl) ?_
      refine lv_bipush (v := 13) hx hb dX7_potTold_27 (by decide) ?_
      refine lv_icmp_ne (tgt := 39) hx hb dX7_potTold_29 (by decide) (fun c3 => ?_) (fun c3 => ?_)
      · replace h := h.2 c3
        refine lv_aload_n hx hb dX7_potTold_39 rfl (lv_at hl 0 rfl) ?_
        refine fg_X7_47 hc hw (Nat.lt_of_lt_of_le (by decide) hM) rfl dX7_potTold_40 ?_
        refine lv_iload_n hx hb dX7_potTold_43 rfl (lv_at hl 1 rfl) ?_
        refine g_ialdK (Y := YM) (kd := 33) (n := 14) (k := a1.toNatClampNeg) (o := 13) (by decide) (by decide) rfl hc hw (Nat.lt_of_lt_of_le (by decide) hM) rfl rfl h.1 rfl dX7_potTold_44 ?_
        replace h := h.2
        exact g_iret hc hr hw h dX7_potTold_45
      · replace h := h.1 c3
        refine lv_aload_n hx hb dX7_potTold_32 rfl (lv_at hl 0 rfl) ?_
        refine g_Vi (Y := YM) (ci := 7) (n := 0) (k := 3) (As := []) (rest := []) rfl (by decide) vw_X7_260 ⟨Nat.le_of_ble_eq_true rfl, Nat.le_of_ble_eq_true rfl, Nat.zero_le _, Nat.zero_le _⟩ hc hw hl.1 (Nat.lt_of_lt_of_le (by decide) hM) rfl (m_X7_sortNow l hM σ h) rfl rfl (Nat.le_of_ble_eq_true rfl) dX7_potTold_33 (fun r5 σ4 H locs h hw => ?_)
        refine lv_goto (tgt := 45) hx hb dX7_potTold_36 (by decide) ?_
        exact g_iret hc hr hw h dX7_potTold_45
    · replace h := h.1 c2
      refine lv_aload_n hx hb dX7_potTold_19 rfl (lv_at hl 0 rfl) ?_
      refine g_Vi (Y := YM) (ci := 7) (n := 0) (k := 2) (As := []) (rest := []) rfl (by decide) vw_X7_257 ⟨Nat.le_of_ble_eq_true rfl, Nat.le_of_ble_eq_true rfl, Nat.zero_le _, Nat.zero_le _⟩ hc hw hl.1 (Nat.lt_of_lt_of_le (by decide) hM) rfl (m_X7_threads l hM σ h) rfl rfl (Nat.le_of_ble_eq_true rfl) dX7_potTold_20 (fun r7 σ6 H locs h hw => ?_)
      refine lv_goto (tgt := 45) hx hb dX7_potTold_23 (by decide) ?_
      exact g_iret hc hr hw h dX7_potTold_45
  · replace h := h.1 c1
    refine lv_aload_n hx hb dX7_potTold_6 rfl (lv_at hl 0 rfl) ?_
    refine g_Vi (Y := YM) (ci := 7) (n := 0) (k := 0) (As := []) (rest := []) rfl (by decide) vw_X7_254 ⟨Nat.le_of_ble_eq_true rfl, Nat.le_of_ble_eq_true rfl, Nat.zero_le _, Nat.zero_le _⟩ hc hw hl.1 (Nat.lt_of_lt_of_le (by decide) hM) rfl (m_X7_thick l hM σ h) rfl rfl (Nat.le_of_ble_eq_true rfl) dX7_potTold_7 (fun r9 σ8 H locs h hw => ?_)
    refine lv_goto (tgt := 45) hx hb dX7_potTold_10 (by decide) ?_
    exact g_iret hc hr hw h dX7_potTold_45
def w_X7_goes_6 (M : Nat) (post : St → Prop) (k_6 : Int32 → Int32 → St → Prop) (v1 : Int32) (v2 : Int32) (σ : St) : Prop :=
  (v1 ≤ v2 → (post σ)) ∧ (¬ (v1 ≤ v2) → (w_X7_doesAct M (fun σ2 => (∀ x3 : Int32, x3 = v2 + 1 → (k_6 v1 x3 σ2))) v2 σ))
set_option maxHeartbeats 4000000 in
set_option maxRecDepth 20000 in
theorem b_X7_goes_6 {Γ : Gm} {ad : Nat → Nat} {p : Program} {l : Launch} {e : Env} {s : State} {m : MethodId} {args : Array Value} {below : List Frame} {meth : Method} {c : Code} {M : Nat} (hM : 20 ≤ M) {post : St → Prop} {k_6 : Int32 → Int32 → St → Prop} (hk_6 : ∀ (v1 : Int32) (v2 : Int32) (σ : St) (H : Heap) (locs : List Loc) (ls : Array Slot), k_6 v1 v2 σ → WH Γ YM M ad σ s H locs → lv_has ls 3 [(0, .ref (ad 0)), (1, .int v1), (2, .int v2)] → W p l e (rmL 5 0 0) s m args below meth c H locs 0 0 (MQ below (va_Qv post (fun u t => WC Γ YM M ad u t) (AA Γ)) args s 0 0 (AA Γ)) (F0 m 6 ls []))
    (v1 : Int32) (v2 : Int32) (σ : St) (H : Heap) (locs : List Loc) (ls : Array Slot) (h : w_X7_goes_6 M post k_6 v1 v2 σ) (hc : CX Γ p s m args meth c cX7_goes RX7 3) (hr : meth.sig.returnType = none) (hw : WH Γ YM M ad σ s H locs) (hl : lv_has ls 3 [(0, .ref (ad 0)), (1, .int v1), (2, .int v2)]) :
    W p l e (rmL 5 0 0) s m args below meth c H locs 0 0 (MQ below (va_Qv post (fun u t => WC Γ YM M ad u t) (AA Γ)) args s 0 0 (AA Γ)) (F0 m 6 ls []) := by
  have hx := hc.1
  have hb := hc.2.1
  unfold w_X7_goes_6 at h
  refine lv_iload_n hx hb dX7_goes_6 rfl (lv_at hl 2 rfl) ?_
  refine lv_iload_n hx hb dX7_goes_7 rfl (lv_at hl 1 rfl) ?_
  refine lv_icmp_ge (tgt := 22) hx hb dX7_goes_8 (by decide) (fun c1 => ?_) (fun c1 => ?_)
  · replace h := h.1 c1
    exact g_vret hc hr hw h dX7_goes_22
  · replace h := h.2 c1
    refine lv_aload_n hx hb dX7_goes_11 rfl (lv_at hl 0 rfl) ?_
    refine lv_iload_n hx hb dX7_goes_12 rfl (lv_at hl 2 rfl) ?_
    refine g_Vv (Y := YM) (ci := 7) (n := 1) (k := 4) (As := [.int v2]) (rest := []) rfl (by decide) vw_X7_251 ⟨Nat.le_of_ble_eq_true rfl, Nat.le_of_ble_eq_true rfl, Nat.zero_le _, Nat.zero_le _⟩ hc hw hl.1 (Nat.lt_of_lt_of_le (by decide) hM) rfl (m_X7_doesAct l hM v2 σ h) rfl rfl (Nat.le_of_ble_eq_true rfl) dX7_goes_13 (fun σ2 H locs h hw => ?_)
    obtain ⟨x3, ex3⟩ : ∃ z, z = v2 + 1 := ⟨_, rfl⟩
    replace h := h x3 ex3
    refine lv_iinc (v := x3) (lv' := [(2, .int x3), (0, .ref (ad 0)), (1, .int v1)]) hx hb dX7_goes_16 hl (k := 2) rfl (by rw [ex3]; rfl) (by decide) rfl (fun ls hl => ?_)
    refine lv_goto (tgt := 6) hx hb dX7_goes_19 (by decide) ?_
    exact hk_6 v1 x3 σ2 _ _ _ h  hw (lv_sub hl [1, 2, 0] rfl)
def wl_X7_goes_6 (M : Nat) (post : St → Prop) : Nat → Int32 → Int32 → St → Prop
  | 0, _, _, _ => False
  | n + 1, v1, v2, σ => w_X7_goes_6 M post (wl_X7_goes_6 M post n) v1 v2 σ
set_option maxHeartbeats 4000000 in
theorem bl_X7_goes_6 {Γ : Gm} {ad : Nat → Nat} {p : Program} {l : Launch} {e : Env} {s : State} {m : MethodId} {args : Array Value} {below : List Frame} {meth : Method} {c : Code} {M : Nat} (hM : 20 ≤ M) {post : St → Prop}
    (hc : CX Γ p s m args meth c cX7_goes RX7 3) (hr : meth.sig.returnType = none) :
    ∀ (n : Nat) (v1 : Int32) (v2 : Int32) (σ : St) (H : Heap) (locs : List Loc) (ls : Array Slot), wl_X7_goes_6 M post n v1 v2 σ → WH Γ YM M ad σ s H locs → lv_has ls 3 [(0, .ref (ad 0)), (1, .int v1), (2, .int v2)] → W p l e (rmL 5 0 0) s m args below meth c H locs 0 0 (MQ below (va_Qv post (fun u t => WC Γ YM M ad u t) (AA Γ)) args s 0 0 (AA Γ)) (F0 m 6 ls []) := by
  intro n
  induction n with
  | zero => intro v1 v2 σ H locs ls h; exact h.elim
  | succ n ih =>
    intro v1 v2 σ H locs ls h  hw hl
    exact b_X7_goes_6 hM ih v1 v2 σ H locs ls h  hc hr hw hl
def w_X7_goes (M : Nat) (post : St → Prop) (a1 : Int32) (σ : St) : Prop :=
  w_X7_begins M (fun σ1 => (∃ n, wl_X7_goes_6 M post n a1 0 σ1)) σ
set_option maxHeartbeats 4000000 in
set_option maxRecDepth 20000 in
theorem m_X7_goes {Γ : Gm} {ad : Nat → Nat} {M : Nat} (l : Launch) (hM : 20 ≤ M) {post : St → Prop} (a1 : Int32) (σ : St) (h : w_X7_goes M post a1 σ) : Cv l Γ YM M ad σ yX7_goes cX7_goes 3 none 5 0 0 [.ref (ad 0), .int a1] post := by
  refine g_start (by decide) (Nat.le_of_ble_eq_true rfl) ?_
  intro p e s m args below meth c ls hc hr hn hl hw
  have hc : CX Γ p s m args meth c cX7_goes RX7 3 := hc
  have hl : lv_has ls 3 [(0, .ref (ad 0)), (1, .int a1)] := hl
  have hx := hc.1
  have hb := hc.2.1
  unfold w_X7_goes at h
  generalize hHH : s.heap = H0 at hw ⊢
  refine lv_aload_n hx hb dX7_goes_0 rfl (lv_at hl 0 rfl) ?_
  refine g_Vv (Y := YM) (ci := 7) (n := 0) (k := 0) (As := []) (rest := []) rfl (by decide) vw_X7_248 ⟨Nat.le_of_ble_eq_true rfl, Nat.le_of_ble_eq_true rfl, Nat.zero_le _, Nat.zero_le _⟩ hc hw hl.1 (Nat.lt_of_lt_of_le (by decide) hM) rfl (m_X7_begins l hM σ h) rfl rfl (Nat.le_of_ble_eq_true rfl) dX7_goes_1 (fun σ1 H locs h hw => ?_)
  refine lv_iconst (v := 0) hx hb dX7_goes_4 (by decide) ?_
  refine lv_istore_n (lv' := [(2, .int 0), (0, .ref (ad 0)), (1, .int a1)]) hx hb dX7_goes_5 rfl hl (by decide) rfl (fun ls hl => ?_)
  obtain ⟨n, h⟩ := h
  exact bl_X7_goes_6 hM hc hr n a1 0 σ1 _ _ _ h  hw (lv_sub hl [1, 2, 0] rfl)
def w_X7_splits_67 (M : Nat) (post : Int32 → St → Prop) (k_27 : Int32 → Int32 → Int32 → Int32 → Int32 → St → Prop) (v1 : Int32) (v3 : Int32) (v4 : Int32) (v5 : Int32) (v6 : Int32) (t0 : Int32) (σ : St) : Prop :=
  (((gi σ 13 4) - v6) ≤ v3 → (∀ x2 : Int32, x2 = v5 + 1 → (k_27 v1 t0 v3 v4 x2 σ))) ∧ (¬ (((gi σ 13 4) - v6) ≤ v3) → (∀ x3 : Int32, x3 = v5 + 1 → (k_27 v1 t0 ((gi σ 13 4) - v6) v5 x3 σ)))
set_option maxHeartbeats 4000000 in
set_option maxRecDepth 20000 in
theorem b_X7_splits_67 {Γ : Gm} {ad : Nat → Nat} {p : Program} {l : Launch} {e : Env} {s : State} {m : MethodId} {args : Array Value} {below : List Frame} {meth : Method} {c : Code} {M : Nat} (hM : 20 ≤ M) {post : Int32 → St → Prop} {k_27 : Int32 → Int32 → Int32 → Int32 → Int32 → St → Prop} (hk_27 : ∀ (v1 : Int32) (v2 : Int32) (v3 : Int32) (v4 : Int32) (v5 : Int32) (σ : St) (H : Heap) (locs : List Loc) (ls : Array Slot), k_27 v1 v2 v3 v4 v5 σ → WH Γ YM M ad σ s H locs → lv_has ls 7 [(0, .ref (ad 0)), (1, .int v1), (2, .int v2), (3, .int v3), (4, .int v4), (5, .int v5)] → W p l e (rmL 5 0 0) s m args below meth c H locs 0 0 (MQ below (va_Qi post (fun u t => WC Γ YM M ad u t) (AA Γ)) args s 0 0 (AA Γ)) (F0 m 27 ls []))
    (v1 : Int32) (v3 : Int32) (v4 : Int32) (v5 : Int32) (v6 : Int32) (t0 : Int32) (σ : St) (H : Heap) (locs : List Loc) (ls : Array Slot) (h : w_X7_splits_67 M post k_27 v1 v3 v4 v5 v6 t0 σ) (hc : CX Γ p s m args meth c cX7_splits RX7 7) (hr : meth.sig.returnType = (Option.some Jvm.ClassFile.FieldType.int)) (hw : WH Γ YM M ad σ s H locs) (hl : lv_has ls 7 [(0, .ref (ad 0)), (1, .int v1), (3, .int v3), (4, .int v4), (5, .int v5), (6, .int v6)]) :
    W p l e (rmL 5 0 0) s m args below meth c H locs 0 0 (MQ below (va_Qi post (fun u t => WC Γ YM M ad u t) (AA Γ)) args s 0 0 (AA Γ)) (F0 m 67 ls [.int t0]) := by
  have hx := hc.1
  have hb := hc.2.1
  unfold w_X7_splits_67 at h
  refine lv_istore_n (lv' := [(2, .int t0), (0, .ref (ad 0)), (1, .int v1), (3, .int v3), (4, .int v4), (5, .int v5), (6, .int v6)]) hx hb dX7_splits_67 rfl hl (by decide) rfl (fun ls hl => ?_)
  refine lv_aload_n hx hb dX7_splits_68 rfl (lv_at hl 1 rfl) ?_
  refine fg_X7_47 hc hw (Nat.lt_of_lt_of_le (by decide) hM) rfl dX7_splits_69 ?_
  refine lv_iconst (v := 4) hx hb dX7_splits_72 (by decide) ?_
  refine g_ialdK (Y := YM) (kd := 33) (n := 14) (k := 4) (o := 13) (by decide) (by decide) rfl hc hw (Nat.lt_of_lt_of_le (by decide) hM) rfl rfl (vp_in_lit (by decide)) (by decide) dX7_splits_73 ?_
  refine lv_iload hx hb dX7_splits_74 (lv_at hl 6 rfl) ?_
  refine lv_isub hx hb dX7_splits_76 ?_
  refine lv_iload_n hx hb dX7_splits_77 rfl (lv_at hl 3 rfl) ?_
  refine lv_icmp_le (tgt := 95) hx hb dX7_splits_78 (by decide) (fun c1 => ?_) (fun c1 => ?_)
  · replace h := h.1 c1
    obtain ⟨x2, ex2⟩ : ∃ z, z = v5 + 1 := ⟨_, rfl⟩
    replace h := h x2 ex2
    refine lv_iinc (v := x2) (lv' := [(5, .int x2), (2, .int t0), (0, .ref (ad 0)), (1, .int v1), (3, .int v3), (4, .int v4), (6, .int v6)]) hx hb dX7_splits_95 hl (k := 5) rfl (by rw [ex2]; rfl) (by decide) rfl (fun ls hl => ?_)
    refine lv_goto (tgt := 27) hx hb dX7_splits_98 (by decide) ?_
    exact hk_27 v1 t0 v3 v4 x2 σ _ _ _ h  hw (lv_sub hl [2, 3, 1, 4, 5, 0] rfl)
  · replace h := h.2 c1
    refine lv_iload hx hb dX7_splits_81 (lv_at hl 5 rfl) ?_
    refine lv_istore (lv' := [(4, .int v5), (2, .int t0), (0, .ref (ad 0)), (1, .int v1), (3, .int v3), (5, .int v5), (6, .int v6)]) hx hb dX7_splits_83 hl (by decide) rfl (fun ls hl => ?_)
    refine lv_aload_n hx hb dX7_splits_85 rfl (lv_at hl 2 rfl) ?_
    refine fg_X7_47 hc hw (Nat.lt_of_lt_of_le (by decide) hM) rfl dX7_splits_86 ?_
    refine lv_iconst (v := 4) hx hb dX7_splits_89 (by decide) ?_
    refine g_ialdK (Y := YM) (kd := 33) (n := 14) (k := 4) (o := 13) (by decide) (by decide) rfl hc hw (Nat.lt_of_lt_of_le (by decide) hM) rfl rfl (vp_in_lit (by decide)) (by decide) dX7_splits_90 ?_
    refine lv_iload hx hb dX7_splits_91 (lv_at hl 6 rfl) ?_
    refine lv_isub hx hb dX7_splits_93 ?_
    refine lv_istore_n (lv' := [(3, .int ((gi σ 13 4) - v6)), (4, .int v5), (2, .int t0), (0, .ref (ad 0)), (1, .int v1), (5, .int v5), (6, .int v6)]) hx hb dX7_splits_94 rfl hl (by decide) rfl (fun ls hl => ?_)
    obtain ⟨x3, ex3⟩ : ∃ z, z = v5 + 1 := ⟨_, rfl⟩
    replace h := h x3 ex3
    refine lv_iinc (v := x3) (lv' := [(5, .int x3), (3, .int ((gi σ 13 4) - v6)), (4, .int v5), (2, .int t0), (0, .ref (ad 0)), (1, .int v1), (6, .int v6)]) hx hb dX7_splits_95 hl (k := 5) rfl (by rw [ex3]; rfl) (by decide) rfl (fun ls hl => ?_)
    refine lv_goto (tgt := 27) hx hb dX7_splits_98 (by decide) ?_
    exact hk_27 v1 t0 ((gi σ 13 4) - v6) v5 x3 σ _ _ _ h  hw (lv_sub hl [4, 5, 3, 1, 2, 0] rfl)
def w_X7_splits_27 (M : Nat) (post : Int32 → St → Prop) (k_27 : Int32 → Int32 → Int32 → Int32 → Int32 → St → Prop) (v1 : Int32) (v2 : Int32) (v3 : Int32) (v4 : Int32) (v5 : Int32) (σ : St) : Prop :=
  ((gi σ 0 21) ≤ v5 → ((v1 = 0 → (post v2 σ)) ∧ (¬ (v1 = 0) → (post v4 σ)))) ∧ (¬ ((gi σ 0 21) ≤ v5) → (w_X7_doesAct M (fun σ3 => ((0 ≤ v2 → (w_X7_splits_67 M post k_27 v1 v3 v4 v5 (gi σ 13 4) v2 σ3)) ∧ (¬ (0 ≤ v2) → (w_X7_holds M (fun r6 σ5 => ((r6 = 0 → (w_X7_splits_67 M post k_27 v1 v3 v4 v5 (gi σ 13 4) v5 σ5)) ∧ (¬ (r6 = 0) → (w_X7_splits_67 M post k_27 v1 v3 v4 v5 (gi σ 13 4) v2 σ5)))) σ3)))) v5 σ))
set_option maxHeartbeats 4000000 in
set_option maxRecDepth 20000 in
theorem b_X7_splits_27 {Γ : Gm} {ad : Nat → Nat} {p : Program} {l : Launch} {e : Env} {s : State} {m : MethodId} {args : Array Value} {below : List Frame} {meth : Method} {c : Code} {M : Nat} (hM : 20 ≤ M) {post : Int32 → St → Prop} {k_27 : Int32 → Int32 → Int32 → Int32 → Int32 → St → Prop} (hk_27 : ∀ (v1 : Int32) (v2 : Int32) (v3 : Int32) (v4 : Int32) (v5 : Int32) (σ : St) (H : Heap) (locs : List Loc) (ls : Array Slot), k_27 v1 v2 v3 v4 v5 σ → WH Γ YM M ad σ s H locs → lv_has ls 7 [(0, .ref (ad 0)), (1, .int v1), (2, .int v2), (3, .int v3), (4, .int v4), (5, .int v5)] → W p l e (rmL 5 0 0) s m args below meth c H locs 0 0 (MQ below (va_Qi post (fun u t => WC Γ YM M ad u t) (AA Γ)) args s 0 0 (AA Γ)) (F0 m 27 ls []))
    (v1 : Int32) (v2 : Int32) (v3 : Int32) (v4 : Int32) (v5 : Int32) (σ : St) (H : Heap) (locs : List Loc) (ls : Array Slot) (h : w_X7_splits_27 M post k_27 v1 v2 v3 v4 v5 σ) (hc : CX Γ p s m args meth c cX7_splits RX7 7) (hr : meth.sig.returnType = (Option.some Jvm.ClassFile.FieldType.int)) (hw : WH Γ YM M ad σ s H locs) (hl : lv_has ls 7 [(0, .ref (ad 0)), (1, .int v1), (2, .int v2), (3, .int v3), (4, .int v4), (5, .int v5)]) :
    W p l e (rmL 5 0 0) s m args below meth c H locs 0 0 (MQ below (va_Qi post (fun u t => WC Γ YM M ad u t) (AA Γ)) args s 0 0 (AA Γ)) (F0 m 27 ls []) := by
  have hx := hc.1
  have hb := hc.2.1
  unfold w_X7_splits_27 at h
  refine lv_iload hx hb dX7_splits_27 (lv_at hl 5 rfl) ?_
  refine lv_aload_n hx hb dX7_splits_29 rfl (lv_at hl 0 rfl) ?_
  refine fg_X7_95 hc hw (Nat.lt_of_lt_of_le (by decide) hM) rfl dX7_splits_30 ?_
  refine lv_icmp_ge (tgt := 101) hx hb dX7_splits_33 (by decide) (fun c1 => ?_) (fun c1 => ?_)
  · replace h := h.1 c1
    refine lv_iload_n hx hb dX7_splits_101 rfl (lv_at hl 1 rfl) ?_
    refine lv_if_ne (tgt := 109) hx hb dX7_splits_102 (by decide) (fun c2 => ?_) (fun c2 => ?_)
    · replace h := h.2 c2
      refine lv_iload hx hb dX7_splits_109 (lv_at hl 4 rfl) ?_
      exact g_iret hc hr hw h dX7_splits_111
    · replace h := h.1 c2
      refine lv_iload_n hx hb dX7_splits_105 rfl (lv_at hl 2 rfl) ?_
      refine lv_goto (tgt := 111) hx hb dX7_splits_106 (by decide) ?_
      exact g_iret hc hr hw h dX7_splits_111
  · replace h := h.2 c1
    refine lv_aload_n hx hb dX7_splits_36 rfl (lv_at hl 0 rfl) ?_
    refine fg_X7_47 hc hw (Nat.lt_of_lt_of_le (by decide) hM) rfl dX7_splits_37 ?_
    refine lv_iconst (v := 4) hx hb dX7_splits_40 (by decide) ?_
    refine g_ialdK (Y := YM) (kd := 33) (n := 14) (k := 4) (o := 13) (by decide) (by decide) rfl hc hw (Nat.lt_of_lt_of_le (by decide) hM) rfl rfl (vp_in_lit (by decide)) (by decide) dX7_splits_41 ?_
    refine lv_istore (lv' := [(6, .int (gi σ 13 4)), (0, .ref (ad 0)), (1, .int v1), (2, .int v2), (3, .int v3), (4, .int v4), (5, .int v5)]) hx hb dX7_splits_42 hl (by decide) rfl (fun ls hl => ?_)
    refine lv_aload_n hx hb dX7_splits_44 rfl (lv_at hl 1 rfl) ?_
    refine lv_iload hx hb dX7_splits_45 (lv_at hl 6 rfl) ?_
    refine g_Vv (Y := YM) (ci := 7) (n := 1) (k := 4) (As := [.int v5]) (rest := []) rfl (by decide) vw_X7_251 ⟨Nat.le_of_ble_eq_true rfl, Nat.le_of_ble_eq_true rfl, Nat.zero_le _, Nat.zero_le _⟩ hc hw hl.1 (Nat.lt_of_lt_of_le (by decide) hM) rfl (m_X7_doesAct l hM v5 σ h) rfl rfl (Nat.le_of_ble_eq_true rfl) dX7_splits_47 (fun σ3 H locs h hw => ?_)
    refine lv_iload_n hx hb dX7_splits_50 rfl (lv_at hl 3 rfl) ?_
    refine lv_if_ge (tgt := 66) hx hb dX7_splits_51 (by decide) (fun c4 => ?_) (fun c4 => ?_)
    · replace h := h.1 c4
      refine lv_iload_n hx hb dX7_splits_66 rfl (lv_at hl 3 rfl) ?_
      exact b_X7_splits_67 hM hk_27 v1 v3 v4 v5 (gi σ 13 4) v2 σ3 _ _ _ h  hc hr hw (lv_sub hl [1, 2, 4, 5, 6, 0] rfl)
    · replace h := h.2 c4
      refine lv_aload_n hx hb dX7_splits_54 rfl (lv_at hl 1 rfl) ?_
      refine g_Vi (Y := YM) (ci := 7) (n := 0) (k := 4) (As := []) (rest := []) rfl (by decide) vw_X7_274 ⟨Nat.le_of_ble_eq_true rfl, Nat.le_of_ble_eq_true rfl, Nat.zero_le _, Nat.zero_le _⟩ hc hw hl.1 (Nat.lt_of_lt_of_le (by decide) hM) rfl (m_X7_holds l hM σ3 h) rfl rfl (Nat.le_of_ble_eq_true rfl) dX7_splits_55 (fun r6 σ5 H locs h hw => ?_)
      refine lv_if_ne (tgt := 66) hx hb dX7_splits_58 (by decide) (fun c7 => ?_) (fun c7 => ?_)
      · replace h := h.2 c7
        refine lv_iload_n hx hb dX7_splits_66 rfl (lv_at hl 3 rfl) ?_
        exact b_X7_splits_67 hM hk_27 v1 v3 v4 v5 (gi σ 13 4) v2 σ5 _ _ _ h  hc hr hw (lv_sub hl [1, 2, 4, 5, 6, 0] rfl)
      · replace h := h.1 c7
        refine lv_iload hx hb dX7_splits_61 (lv_at hl 6 rfl) ?_
        refine lv_goto (tgt := 67) hx hb dX7_splits_63 (by decide) ?_
        exact b_X7_splits_67 hM hk_27 v1 v3 v4 v5 (gi σ 13 4) v5 σ5 _ _ _ h  hc hr hw (lv_sub hl [1, 2, 4, 5, 6, 0] rfl)
def wl_X7_splits_27 (M : Nat) (post : Int32 → St → Prop) : Nat → Int32 → Int32 → Int32 → Int32 → Int32 → St → Prop
  | 0, _, _, _, _, _, _ => False
  | n + 1, v1, v2, v3, v4, v5, σ => w_X7_splits_27 M post (wl_X7_splits_27 M post n) v1 v2 v3 v4 v5 σ
set_option maxHeartbeats 4000000 in
theorem bl_X7_splits_27 {Γ : Gm} {ad : Nat → Nat} {p : Program} {l : Launch} {e : Env} {s : State} {m : MethodId} {args : Array Value} {below : List Frame} {meth : Method} {c : Code} {M : Nat} (hM : 20 ≤ M) {post : Int32 → St → Prop}
    (hc : CX Γ p s m args meth c cX7_splits RX7 7) (hr : meth.sig.returnType = (Option.some Jvm.ClassFile.FieldType.int)) :
    ∀ (n : Nat) (v1 : Int32) (v2 : Int32) (v3 : Int32) (v4 : Int32) (v5 : Int32) (σ : St) (H : Heap) (locs : List Loc) (ls : Array Slot), wl_X7_splits_27 M post n v1 v2 v3 v4 v5 σ → WH Γ YM M ad σ s H locs → lv_has ls 7 [(0, .ref (ad 0)), (1, .int v1), (2, .int v2), (3, .int v3), (4, .int v4), (5, .int v5)] → W p l e (rmL 5 0 0) s m args below meth c H locs 0 0 (MQ below (va_Qi post (fun u t => WC Γ YM M ad u t) (AA Γ)) args s 0 0 (AA Γ)) (F0 m 27 ls []) := by
  intro n
  induction n with
  | zero => intro v1 v2 v3 v4 v5 σ H locs ls h; exact h.elim
  | succ n ih =>
    intro v1 v2 v3 v4 v5 σ H locs ls h  hw hl
    exact b_X7_splits_27 hM ih v1 v2 v3 v4 v5 σ H locs ls h  hc hr hw hl
def w_X7_splits (M : Nat) (post : Int32 → St → Prop) (a1 : Int32) (σ : St) : Prop :=
  w_X7_in M (fun r2 σ1 => ((r2 = 0 → (post (-2) σ1)) ∧ (¬ (r2 = 0) → (w_X7_begins M (fun σ4 => (∃ n, wl_X7_splits_27 M post n a1 (-1) 0 (-1) 0 σ4)) σ1)))) a1.toInt64 0 1 σ
set_option maxHeartbeats 4000000 in
set_option maxRecDepth 20000 in
theorem m_X7_splits {Γ : Gm} {ad : Nat → Nat} {M : Nat} (l : Launch) (hM : 20 ≤ M) {post : Int32 → St → Prop} (a1 : Int32) (σ : St) (h : w_X7_splits M post a1 σ) : Ci l Γ YM M ad σ yX7_splits cX7_splits 7 (Option.some Jvm.ClassFile.FieldType.int) 5 0 0 [.ref (ad 0), .int a1] post := by
  refine g_start (by decide) (Nat.le_of_ble_eq_true rfl) ?_
  intro p e s m args below meth c ls hc hr hn hl hw
  have hc : CX Γ p s m args meth c cX7_splits RX7 7 := hc
  have hl : lv_has ls 7 [(0, .ref (ad 0)), (1, .int a1)] := hl
  have hx := hc.1
  have hb := hc.2.1
  unfold w_X7_splits at h
  generalize hHH : s.heap = H0 at hw ⊢
  refine lv_iload_n hx hb dX7_splits_0 rfl (lv_at hl 1 rfl) ?_
  refine lv_i2l (v := a1.toInt64) hx hb dX7_splits_1 rfl ?_
  refine lv_lconst (v := 0) hx hb dX7_splits_2 (by decide) ?_
  refine lv_lconst (v := 1) hx hb dX7_splits_3 (by decide) ?_
  refine g_Si (Y := YM) (n := 3) (k := 0) (As := [.long a1.toInt64, .long 0, .long 1]) (rest := []) vw_X7_75 ⟨Nat.le_of_ble_eq_true rfl, Nat.le_of_ble_eq_true rfl, Nat.zero_le _, Nat.zero_le _⟩ hc hw hl.1 (m_X7_in l hM a1.toInt64 0 1 σ h) rfl rfl (Nat.le_of_ble_eq_true rfl) dX7_splits_4 (fun r2 σ1 H locs h hw => ?_)
  refine lv_if_ne (tgt := 13) hx hb dX7_splits_7 (by decide) (fun c3 => ?_) (fun c3 => ?_)
  · replace h := h.2 c3
    refine lv_aload_n hx hb dX7_splits_13 rfl (lv_at hl 0 rfl) ?_
    refine g_Vv (Y := YM) (ci := 7) (n := 0) (k := 0) (As := []) (rest := []) rfl (by decide) vw_X7_248 ⟨Nat.le_of_ble_eq_true rfl, Nat.le_of_ble_eq_true rfl, Nat.zero_le _, Nat.zero_le _⟩ hc hw hl.1 (Nat.lt_of_lt_of_le (by decide) hM) rfl (m_X7_begins l hM σ1 h) rfl rfl (Nat.le_of_ble_eq_true rfl) dX7_splits_14 (fun σ4 H locs h hw => ?_)
    refine lv_iconst (v := (-1)) hx hb dX7_splits_17 (by decide) ?_
    refine lv_istore_n (lv' := [(2, .int (-1)), (0, .ref (ad 0)), (1, .int a1)]) hx hb dX7_splits_18 rfl hl (by decide) rfl (fun ls hl => ?_)
    refine lv_iconst (v := 0) hx hb dX7_splits_19 (by decide) ?_
    refine lv_istore_n (lv' := [(3, .int 0), (2, .int (-1)), (0, .ref (ad 0)), (1, .int a1)]) hx hb dX7_splits_20 rfl hl (by decide) rfl (fun ls hl => ?_)
    refine lv_iconst (v := (-1)) hx hb dX7_splits_21 (by decide) ?_
    refine lv_istore (lv' := [(4, .int (-1)), (3, .int 0), (2, .int (-1)), (0, .ref (ad 0)), (1, .int a1)]) hx hb dX7_splits_22 hl (by decide) rfl (fun ls hl => ?_)
    refine lv_iconst (v := 0) hx hb dX7_splits_24 (by decide) ?_
    refine lv_istore (lv' := [(5, .int 0), (4, .int (-1)), (3, .int 0), (2, .int (-1)), (0, .ref (ad 0)), (1, .int a1)]) hx hb dX7_splits_25 hl (by decide) rfl (fun ls hl => ?_)
    obtain ⟨n, h⟩ := h
    exact bl_X7_splits_27 hM hc hr n a1 (-1) 0 (-1) 0 σ4 _ _ _ h  hw (lv_sub hl [4, 5, 3, 2, 1, 0] rfl)
  · replace h := h.1 c3
    refine lv_bipush (v := (-2)) hx hb dX7_splits_10 (by decide) ?_
    exact g_iret hc hr hw h dX7_splits_12
def w_X7_mix_122 (M : Nat) (post : Int32 → St → Prop) (k_85 : Int32 → Int32 → Int32 → Int32 → Int32 → Int32 → Int32 → St → Prop) (k_122 : Int32 → Int32 → Int32 → Int32 → Int32 → Int32 → Int32 → Int32 → St → Prop) (v1 : Int32) (v2 : Int32) (v3 : Int32) (v4 : Int32) (v5 : Int32) (v6 : Int32) (v7 : Int32) (v8 : Int32) (σ : St) : Prop :=
  ((v2 - v2 / 100 * 100) ≤ v8 → ((vp_in ((5 * (v1 / 10)) + 4) 20) ∧ (∀ x2 : Int32, x2 = gi σ 1 (((5 * (v1 / 10)) + 4).toNatClampNeg) → (∀ x3 : Int32, x3 = (5 * (v1 - v1 / 10 * 10)) + 4 → ((vp_in x3 20) ∧ (∀ x4 : Int32, x4 = (v4 - v7) * (gi σ 1 x3.toNatClampNeg) → (w_X7_holds M (fun r6 σ5 => ((r6 = 0 → (∀ x8 : Int32, x8 = v7 + 1 → (k_85 v1 v2 v3 v4 v5 v6 x8 σ5))) ∧ (¬ (r6 = 0) → ((((v7 * x2) + x4) ≤ v6 → (∀ x10 : Int32, x10 = v7 + 1 → (k_85 v1 v2 v3 v4 v5 v6 x10 σ5))) ∧ (¬ (((v7 * x2) + x4) ≤ v6) → (∀ x11 : Int32, x11 = v7 + 1 → (k_85 v1 v2 v3 v4 v7 ((v7 * x2) + x4) x11 σ5))))))) σ))))))) ∧ (¬ ((v2 - v2 / 100 * 100) ≤ v8) → (w_X7_minute M (fun σ12 => (∀ x13 : Int32, x13 = v8 + 1 → (k_122 v1 v2 v3 v4 v5 v6 v7 x13 σ12))) 1 σ))
set_option maxHeartbeats 4000000 in
set_option maxRecDepth 20000 in
theorem b_X7_mix_122 {Γ : Gm} {ad : Nat → Nat} {p : Program} {l : Launch} {e : Env} {s : State} {m : MethodId} {args : Array Value} {below : List Frame} {meth : Method} {c : Code} {M : Nat} (hM : 20 ≤ M) {post : Int32 → St → Prop} {k_85 : Int32 → Int32 → Int32 → Int32 → Int32 → Int32 → Int32 → St → Prop} {k_122 : Int32 → Int32 → Int32 → Int32 → Int32 → Int32 → Int32 → Int32 → St → Prop} (hk_85 : ∀ (v1 : Int32) (v2 : Int32) (v3 : Int32) (v4 : Int32) (v5 : Int32) (v6 : Int32) (v7 : Int32) (σ : St) (H : Heap) (locs : List Loc) (ls : Array Slot), k_85 v1 v2 v3 v4 v5 v6 v7 σ → WH Γ YM M ad σ s H locs → lv_has ls 9 [(0, .ref (ad 0)), (1, .int v1), (2, .int v2), (3, .int v3), (4, .int v4), (5, .int v5), (6, .int v6), (7, .int v7)] → W p l e (rmL 5 0 0) s m args below meth c H locs 0 0 (MQ below (va_Qi post (fun u t => WC Γ YM M ad u t) (AA Γ)) args s 0 0 (AA Γ)) (F0 m 85 ls [])) (hk_122 : ∀ (v1 : Int32) (v2 : Int32) (v3 : Int32) (v4 : Int32) (v5 : Int32) (v6 : Int32) (v7 : Int32) (v8 : Int32) (σ : St) (H : Heap) (locs : List Loc) (ls : Array Slot), k_122 v1 v2 v3 v4 v5 v6 v7 v8 σ → WH Γ YM M ad σ s H locs → lv_has ls 9 [(0, .ref (ad 0)), (1, .int v1), (2, .int v2), (3, .int v3), (4, .int v4), (5, .int v5), (6, .int v6), (7, .int v7), (8, .int v8)] → W p l e (rmL 5 0 0) s m args below meth c H locs 0 0 (MQ below (va_Qi post (fun u t => WC Γ YM M ad u t) (AA Γ)) args s 0 0 (AA Γ)) (F0 m 122 ls []))
    (v1 : Int32) (v2 : Int32) (v3 : Int32) (v4 : Int32) (v5 : Int32) (v6 : Int32) (v7 : Int32) (v8 : Int32) (σ : St) (H : Heap) (locs : List Loc) (ls : Array Slot) (h : w_X7_mix_122 M post k_85 k_122 v1 v2 v3 v4 v5 v6 v7 v8 σ) (hc : CX Γ p s m args meth c cX7_mix RX7 9) (hr : meth.sig.returnType = (Option.some Jvm.ClassFile.FieldType.int)) (hw : WH Γ YM M ad σ s H locs) (hl : lv_has ls 9 [(0, .ref (ad 0)), (1, .int v1), (2, .int v2), (3, .int v3), (4, .int v4), (5, .int v5), (6, .int v6), (7, .int v7), (8, .int v8)]) :
    W p l e (rmL 5 0 0) s m args below meth c H locs 0 0 (MQ below (va_Qi post (fun u t => WC Γ YM M ad u t) (AA Γ)) args s 0 0 (AA Γ)) (F0 m 122 ls []) := by
  have hx := hc.1
  have hb := hc.2.1
  unfold w_X7_mix_122 at h
  refine lv_iload hx hb dX7_mix_122 (lv_at hl 8 rfl) ?_
  refine lv_iload_n hx hb dX7_mix_124 rfl (lv_at hl 2 rfl) ?_
  refine lv_bipush (v := 100) hx hb dX7_mix_125 (by decide) ?_
  refine lv_irem hx hb dX7_mix_127 (by decide) ?_
  refine lv_icmp_ge (tgt := 142) hx hb dX7_mix_128 (by decide) (fun c1 => ?_) (fun c1 => ?_)
  · replace h := h.1 c1
    refine lv_iload hx hb dX7_mix_142 (lv_at hl 7 rfl) ?_
    refine lv_aload_n hx hb dX7_mix_144 rfl (lv_at hl 0 rfl) ?_
    refine fg_X7_9 hc hw (Nat.lt_of_lt_of_le (by decide) hM) rfl dX7_mix_145 ?_
    refine lv_iconst (v := 5) hx hb dX7_mix_148 (by decide) ?_
    refine lv_iload_n hx hb dX7_mix_149 rfl (lv_at hl 1 rfl) ?_
    refine lv_bipush (v := 10) hx hb dX7_mix_150 (by decide) ?_
    refine lv_idiv hx hb dX7_mix_152 (by decide) ?_
    refine lv_imul hx hb dX7_mix_153 ?_
    refine lv_iconst (v := 4) hx hb dX7_mix_154 (by decide) ?_
    refine lv_iadd hx hb dX7_mix_155 ?_
    refine g_ialdK (Y := YM) (kd := 21) (n := 20) (k := ((5 * (v1 / 10)) + 4).toNatClampNeg) (o := 1) (by decide) (by decide) rfl hc hw (Nat.lt_of_lt_of_le (by decide) hM) rfl rfl h.1 rfl dX7_mix_156 ?_
    replace h := h.2
    refine lv_topi (fun x2 ex2 => ?_)
    replace h := h x2 ex2
    refine lv_imul hx hb dX7_mix_157 ?_
    refine lv_iload hx hb dX7_mix_158 (lv_at hl 4 rfl) ?_
    refine lv_iload hx hb dX7_mix_160 (lv_at hl 7 rfl) ?_
    refine lv_isub hx hb dX7_mix_162 ?_
    refine lv_aload_n hx hb dX7_mix_163 rfl (lv_at hl 0 rfl) ?_
    refine fg_X7_9 hc hw (Nat.lt_of_lt_of_le (by decide) hM) rfl dX7_mix_164 ?_
    refine lv_iconst (v := 5) hx hb dX7_mix_167 (by decide) ?_
    refine lv_iload_n hx hb dX7_mix_168 rfl (lv_at hl 1 rfl) ?_
    refine lv_bipush (v := 10) hx hb dX7_mix_169 (by decide) ?_
    refine lv_irem hx hb dX7_mix_171 (by decide) ?_
    refine lv_imul hx hb dX7_mix_172 ?_
    refine lv_iconst (v := 4) hx hb dX7_mix_173 (by decide) ?_
    refine lv_iadd hx hb dX7_mix_174 ?_
    refine lv_topi (fun x3 ex3 => ?_)
    replace h := h x3 ex3
    refine g_ialdK (Y := YM) (kd := 21) (n := 20) (k := x3.toNatClampNeg) (o := 1) (by decide) (by decide) rfl hc hw (Nat.lt_of_lt_of_le (by decide) hM) rfl rfl h.1 rfl dX7_mix_175 ?_
    replace h := h.2
    refine lv_imul hx hb dX7_mix_176 ?_
    refine lv_topi (fun x4 ex4 => ?_)
    replace h := h x4 ex4
    refine lv_iadd hx hb dX7_mix_177 ?_
    refine lv_istore (lv' := [(8, .int ((v7 * x2) + x4)), (0, .ref (ad 0)), (1, .int v1), (2, .int v2), (3, .int v3), (4, .int v4), (5, .int v5), (6, .int v6), (7, .int v7)]) hx hb dX7_mix_178 hl (by decide) rfl (fun ls hl => ?_)
    refine lv_aload_n hx hb dX7_mix_180 rfl (lv_at hl 1 rfl) ?_
    refine g_Vi (Y := YM) (ci := 7) (n := 0) (k := 4) (As := []) (rest := []) rfl (by decide) vw_X7_274 ⟨Nat.le_of_ble_eq_true rfl, Nat.le_of_ble_eq_true rfl, Nat.zero_le _, Nat.zero_le _⟩ hc hw hl.1 (Nat.lt_of_lt_of_le (by decide) hM) rfl (m_X7_holds l hM σ h) rfl rfl (Nat.le_of_ble_eq_true rfl) dX7_mix_181 (fun r6 σ5 H locs h hw => ?_)
    refine lv_if_eq (tgt := 202) hx hb dX7_mix_184 (by decide) (fun c7 => ?_) (fun c7 => ?_)
    · replace h := h.1 c7
      obtain ⟨x8, ex8⟩ : ∃ z, z = v7 + 1 := ⟨_, rfl⟩
      replace h := h x8 ex8
      refine lv_iinc (v := x8) (lv' := [(7, .int x8), (8, .int ((v7 * x2) + x4)), (0, .ref (ad 0)), (1, .int v1), (2, .int v2), (3, .int v3), (4, .int v4), (5, .int v5), (6, .int v6)]) hx hb dX7_mix_202 hl (k := 8) rfl (by rw [ex8]; rfl) (by decide) rfl (fun ls hl => ?_)
      refine lv_goto (tgt := 85) hx hb dX7_mix_205 (by decide) ?_
      exact hk_85 v1 v2 v3 v4 v5 v6 x8 σ5 _ _ _ h  hw (lv_sub hl [2, 3, 4, 5, 6, 7, 8, 0] rfl)
    · replace h := h.2 c7
      refine lv_iload hx hb dX7_mix_187 (lv_at hl 0 rfl) ?_
      refine lv_iload hx hb dX7_mix_189 (lv_at hl 7 rfl) ?_
      refine lv_icmp_le (tgt := 202) hx hb dX7_mix_191 (by decide) (fun c9 => ?_) (fun c9 => ?_)
      · replace h := h.1 c9
        obtain ⟨x10, ex10⟩ : ∃ z, z = v7 + 1 := ⟨_, rfl⟩
        replace h := h x10 ex10
        refine lv_iinc (v := x10) (lv' := [(7, .int x10), (8, .int ((v7 * x2) + x4)), (0, .ref (ad 0)), (1, .int v1), (2, .int v2), (3, .int v3), (4, .int v4), (5, .int v5), (6, .int v6)]) hx hb dX7_mix_202 hl (k := 8) rfl (by rw [ex10]; rfl) (by decide) rfl (fun ls hl => ?_)
        refine lv_goto (tgt := 85) hx hb dX7_mix_205 (by decide) ?_
        exact hk_85 v1 v2 v3 v4 v5 v6 x10 σ5 _ _ _ h  hw (lv_sub hl [2, 3, 4, 5, 6, 7, 8, 0] rfl)
      · replace h := h.2 c9
        refine lv_iload hx hb dX7_mix_194 (lv_at hl 8 rfl) ?_
        refine lv_istore (lv' := [(5, .int v7), (8, .int ((v7 * x2) + x4)), (0, .ref (ad 0)), (1, .int v1), (2, .int v2), (3, .int v3), (4, .int v4), (6, .int v6), (7, .int v7)]) hx hb dX7_mix_196 hl (by decide) rfl (fun ls hl => ?_)
        refine lv_iload hx hb dX7_mix_198 (lv_at hl 1 rfl) ?_
        refine lv_istore (lv' := [(6, .int ((v7 * x2) + x4)), (5, .int v7), (8, .int ((v7 * x2) + x4)), (0, .ref (ad 0)), (1, .int v1), (2, .int v2), (3, .int v3), (4, .int v4), (7, .int v7)]) hx hb dX7_mix_200 hl (by decide) rfl (fun ls hl => ?_)
        obtain ⟨x11, ex11⟩ : ∃ z, z = v7 + 1 := ⟨_, rfl⟩
        replace h := h x11 ex11
        refine lv_iinc (v := x11) (lv' := [(7, .int x11), (6, .int ((v7 * x2) + x4)), (5, .int v7), (8, .int ((v7 * x2) + x4)), (0, .ref (ad 0)), (1, .int v1), (2, .int v2), (3, .int v3), (4, .int v4)]) hx hb dX7_mix_202 hl (k := 8) rfl (by rw [ex11]; rfl) (by decide) rfl (fun ls hl => ?_)
        refine lv_goto (tgt := 85) hx hb dX7_mix_205 (by decide) ?_
        exact hk_85 v1 v2 v3 v4 v7 ((v7 * x2) + x4) x11 σ5 _ _ _ h  hw (lv_sub hl [4, 5, 6, 7, 8, 2, 1, 0] rfl)
  · replace h := h.2 c1
    refine lv_aload_n hx hb dX7_mix_131 rfl (lv_at hl 0 rfl) ?_
    refine lv_iconst (v := 1) hx hb dX7_mix_132 (by decide) ?_
    refine g_Vv (Y := YM) (ci := 7) (n := 1) (k := 2) (As := [.int 1]) (rest := []) rfl (by decide) vw_X7_240 ⟨Nat.le_of_ble_eq_true rfl, Nat.le_of_ble_eq_true rfl, Nat.zero_le _, Nat.zero_le _⟩ hc hw hl.1 (Nat.lt_of_lt_of_le (by decide) hM) rfl (m_X7_minute l hM 1 σ h) rfl rfl (Nat.le_of_ble_eq_true rfl) dX7_mix_133 (fun σ12 H locs h hw => ?_)
    obtain ⟨x13, ex13⟩ : ∃ z, z = v8 + 1 := ⟨_, rfl⟩
    replace h := h x13 ex13
    refine lv_iinc (v := x13) (lv' := [(8, .int x13), (0, .ref (ad 0)), (1, .int v1), (2, .int v2), (3, .int v3), (4, .int v4), (5, .int v5), (6, .int v6), (7, .int v7)]) hx hb dX7_mix_136 hl (k := 8) rfl (by rw [ex13]; rfl) (by decide) rfl (fun ls hl => ?_)
    refine lv_goto (tgt := 122) hx hb dX7_mix_139 (by decide) ?_
    exact hk_122 v1 v2 v3 v4 v5 v6 v7 x13 σ12 _ _ _ h  hw (lv_sub hl [1, 2, 3, 4, 5, 6, 7, 8, 0] rfl)
def wl_X7_mix_122 (M : Nat) (post : Int32 → St → Prop) (k_85 : Int32 → Int32 → Int32 → Int32 → Int32 → Int32 → Int32 → St → Prop) : Nat → Int32 → Int32 → Int32 → Int32 → Int32 → Int32 → Int32 → Int32 → St → Prop
  | 0, _, _, _, _, _, _, _, _, _ => False
  | n + 1, v1, v2, v3, v4, v5, v6, v7, v8, σ => w_X7_mix_122 M post k_85 (wl_X7_mix_122 M post k_85 n) v1 v2 v3 v4 v5 v6 v7 v8 σ
set_option maxHeartbeats 4000000 in
theorem bl_X7_mix_122 {Γ : Gm} {ad : Nat → Nat} {p : Program} {l : Launch} {e : Env} {s : State} {m : MethodId} {args : Array Value} {below : List Frame} {meth : Method} {c : Code} {M : Nat} (hM : 20 ≤ M) {post : Int32 → St → Prop} {k_85 : Int32 → Int32 → Int32 → Int32 → Int32 → Int32 → Int32 → St → Prop} (hk_85 : ∀ (v1 : Int32) (v2 : Int32) (v3 : Int32) (v4 : Int32) (v5 : Int32) (v6 : Int32) (v7 : Int32) (σ : St) (H : Heap) (locs : List Loc) (ls : Array Slot), k_85 v1 v2 v3 v4 v5 v6 v7 σ → WH Γ YM M ad σ s H locs → lv_has ls 9 [(0, .ref (ad 0)), (1, .int v1), (2, .int v2), (3, .int v3), (4, .int v4), (5, .int v5), (6, .int v6), (7, .int v7)] → W p l e (rmL 5 0 0) s m args below meth c H locs 0 0 (MQ below (va_Qi post (fun u t => WC Γ YM M ad u t) (AA Γ)) args s 0 0 (AA Γ)) (F0 m 85 ls []))
    (hc : CX Γ p s m args meth c cX7_mix RX7 9) (hr : meth.sig.returnType = (Option.some Jvm.ClassFile.FieldType.int)) :
    ∀ (n : Nat) (v1 : Int32) (v2 : Int32) (v3 : Int32) (v4 : Int32) (v5 : Int32) (v6 : Int32) (v7 : Int32) (v8 : Int32) (σ : St) (H : Heap) (locs : List Loc) (ls : Array Slot), wl_X7_mix_122 M post k_85 n v1 v2 v3 v4 v5 v6 v7 v8 σ → WH Γ YM M ad σ s H locs → lv_has ls 9 [(0, .ref (ad 0)), (1, .int v1), (2, .int v2), (3, .int v3), (4, .int v4), (5, .int v5), (6, .int v6), (7, .int v7), (8, .int v8)] → W p l e (rmL 5 0 0) s m args below meth c H locs 0 0 (MQ below (va_Qi post (fun u t => WC Γ YM M ad u t) (AA Γ)) args s 0 0 (AA Γ)) (F0 m 122 ls []) := by
  intro n
  induction n with
  | zero => intro v1 v2 v3 v4 v5 v6 v7 v8 σ H locs ls h; exact h.elim
  | succ n ih =>
    intro v1 v2 v3 v4 v5 v6 v7 v8 σ H locs ls h  hw hl
    exact b_X7_mix_122 hM hk_85 ih v1 v2 v3 v4 v5 v6 v7 v8 σ H locs ls h  hc hr hw hl
def w_X7_mix_85 (M : Nat) (post : Int32 → St → Prop) (k_85 : Int32 → Int32 → Int32 → Int32 → Int32 → Int32 → Int32 → St → Prop) (v1 : Int32) (v2 : Int32) (v3 : Int32) (v4 : Int32) (v5 : Int32) (v6 : Int32) (v7 : Int32) (σ : St) : Prop :=
  (v4 < v7 → ((v3 = 0 → (post v5 σ)) ∧ (¬ (v3 = 0) → (post v6 σ)))) ∧ (¬ (v4 < v7) → (w_X7_begins M (fun σ3 => (w_X7_handfuls M (fun σ4 => (w_X7_handfuls M (fun σ5 => (∃ n, wl_X7_mix_122 M post k_85 n v1 v2 v3 v4 v5 v6 v7 0 σ5)) (v1 - v1 / 10 * 10) (v4 - v7) σ4)) (v1 / 10) v7 σ3)) σ))
set_option maxHeartbeats 4000000 in
set_option maxRecDepth 20000 in
theorem b_X7_mix_85 {Γ : Gm} {ad : Nat → Nat} {p : Program} {l : Launch} {e : Env} {s : State} {m : MethodId} {args : Array Value} {below : List Frame} {meth : Method} {c : Code} {M : Nat} (hM : 20 ≤ M) {post : Int32 → St → Prop} {k_85 : Int32 → Int32 → Int32 → Int32 → Int32 → Int32 → Int32 → St → Prop} (hk_85 : ∀ (v1 : Int32) (v2 : Int32) (v3 : Int32) (v4 : Int32) (v5 : Int32) (v6 : Int32) (v7 : Int32) (σ : St) (H : Heap) (locs : List Loc) (ls : Array Slot), k_85 v1 v2 v3 v4 v5 v6 v7 σ → WH Γ YM M ad σ s H locs → lv_has ls 9 [(0, .ref (ad 0)), (1, .int v1), (2, .int v2), (3, .int v3), (4, .int v4), (5, .int v5), (6, .int v6), (7, .int v7)] → W p l e (rmL 5 0 0) s m args below meth c H locs 0 0 (MQ below (va_Qi post (fun u t => WC Γ YM M ad u t) (AA Γ)) args s 0 0 (AA Γ)) (F0 m 85 ls []))
    (v1 : Int32) (v2 : Int32) (v3 : Int32) (v4 : Int32) (v5 : Int32) (v6 : Int32) (v7 : Int32) (σ : St) (H : Heap) (locs : List Loc) (ls : Array Slot) (h : w_X7_mix_85 M post k_85 v1 v2 v3 v4 v5 v6 v7 σ) (hc : CX Γ p s m args meth c cX7_mix RX7 9) (hr : meth.sig.returnType = (Option.some Jvm.ClassFile.FieldType.int)) (hw : WH Γ YM M ad σ s H locs) (hl : lv_has ls 9 [(0, .ref (ad 0)), (1, .int v1), (2, .int v2), (3, .int v3), (4, .int v4), (5, .int v5), (6, .int v6), (7, .int v7)]) :
    W p l e (rmL 5 0 0) s m args below meth c H locs 0 0 (MQ below (va_Qi post (fun u t => WC Γ YM M ad u t) (AA Γ)) args s 0 0 (AA Γ)) (F0 m 85 ls []) := by
  have hx := hc.1
  have hb := hc.2.1
  unfold w_X7_mix_85 at h
  refine lv_iload hx hb dX7_mix_85 (lv_at hl 7 rfl) ?_
  refine lv_iload hx hb dX7_mix_87 (lv_at hl 4 rfl) ?_
  refine lv_icmp_gt (tgt := 208) hx hb dX7_mix_89 (by decide) (fun c1 => ?_) (fun c1 => ?_)
  · replace h := h.1 c1
    refine lv_iload_n hx hb dX7_mix_208 rfl (lv_at hl 3 rfl) ?_
    refine lv_if_ne (tgt := 217) hx hb dX7_mix_209 (by decide) (fun c2 => ?_) (fun c2 => ?_)
    · replace h := h.2 c2
      refine lv_iload hx hb dX7_mix_217 (lv_at hl 6 rfl) ?_
      exact g_iret hc hr hw h dX7_mix_219
    · replace h := h.1 c2
      refine lv_iload hx hb dX7_mix_212 (lv_at hl 5 rfl) ?_
      refine lv_goto (tgt := 219) hx hb dX7_mix_214 (by decide) ?_
      exact g_iret hc hr hw h dX7_mix_219
  · replace h := h.2 c1
    refine lv_aload_n hx hb dX7_mix_92 rfl (lv_at hl 0 rfl) ?_
    refine g_Vv (Y := YM) (ci := 7) (n := 0) (k := 0) (As := []) (rest := []) rfl (by decide) vw_X7_248 ⟨Nat.le_of_ble_eq_true rfl, Nat.le_of_ble_eq_true rfl, Nat.zero_le _, Nat.zero_le _⟩ hc hw hl.1 (Nat.lt_of_lt_of_le (by decide) hM) rfl (m_X7_begins l hM σ h) rfl rfl (Nat.le_of_ble_eq_true rfl) dX7_mix_93 (fun σ3 H locs h hw => ?_)
    refine lv_aload_n hx hb dX7_mix_96 rfl (lv_at hl 0 rfl) ?_
    refine lv_iload_n hx hb dX7_mix_97 rfl (lv_at hl 1 rfl) ?_
    refine lv_bipush (v := 10) hx hb dX7_mix_98 (by decide) ?_
    refine lv_idiv hx hb dX7_mix_100 (by decide) ?_
    refine lv_iload hx hb dX7_mix_101 (lv_at hl 7 rfl) ?_
    refine g_Vv (Y := YM) (ci := 7) (n := 2) (k := 1) (As := [.int (v1 / 10), .int v7]) (rest := []) rfl (by decide) vw_X7_234 ⟨Nat.le_of_ble_eq_true rfl, Nat.le_of_ble_eq_true rfl, Nat.zero_le _, Nat.zero_le _⟩ hc hw hl.1 (Nat.lt_of_lt_of_le (by decide) hM) rfl (m_X7_handfuls l hM (v1 / 10) v7 σ3 h) rfl rfl (Nat.le_of_ble_eq_true rfl) dX7_mix_103 (fun σ4 H locs h hw => ?_)
    refine lv_aload_n hx hb dX7_mix_106 rfl (lv_at hl 0 rfl) ?_
    refine lv_iload_n hx hb dX7_mix_107 rfl (lv_at hl 1 rfl) ?_
    refine lv_bipush (v := 10) hx hb dX7_mix_108 (by decide) ?_
    refine lv_irem hx hb dX7_mix_110 (by decide) ?_
    refine lv_iload hx hb dX7_mix_111 (lv_at hl 4 rfl) ?_
    refine lv_iload hx hb dX7_mix_113 (lv_at hl 7 rfl) ?_
    refine lv_isub hx hb dX7_mix_115 ?_
    refine g_Vv (Y := YM) (ci := 7) (n := 2) (k := 1) (As := [.int (v1 - v1 / 10 * 10), .int (v4 - v7)]) (rest := []) rfl (by decide) vw_X7_234 ⟨Nat.le_of_ble_eq_true rfl, Nat.le_of_ble_eq_true rfl, Nat.zero_le _, Nat.zero_le _⟩ hc hw hl.1 (Nat.lt_of_lt_of_le (by decide) hM) rfl (m_X7_handfuls l hM (v1 - v1 / 10 * 10) (v4 - v7) σ4 h) rfl rfl (Nat.le_of_ble_eq_true rfl) dX7_mix_116 (fun σ5 H locs h hw => ?_)
    refine lv_iconst (v := 0) hx hb dX7_mix_119 (by decide) ?_
    refine lv_istore (lv' := [(8, .int 0), (0, .ref (ad 0)), (1, .int v1), (2, .int v2), (3, .int v3), (4, .int v4), (5, .int v5), (6, .int v6), (7, .int v7)]) hx hb dX7_mix_120 hl (by decide) rfl (fun ls hl => ?_)
    obtain ⟨n, h⟩ := h
    exact bl_X7_mix_122 hM hk_85 hc hr n v1 v2 v3 v4 v5 v6 v7 0 σ5 _ _ _ h  hw (lv_sub hl [1, 2, 3, 4, 5, 6, 7, 8, 0] rfl)
def wl_X7_mix_85 (M : Nat) (post : Int32 → St → Prop) : Nat → Int32 → Int32 → Int32 → Int32 → Int32 → Int32 → Int32 → St → Prop
  | 0, _, _, _, _, _, _, _, _ => False
  | n + 1, v1, v2, v3, v4, v5, v6, v7, σ => w_X7_mix_85 M post (wl_X7_mix_85 M post n) v1 v2 v3 v4 v5 v6 v7 σ
set_option maxHeartbeats 4000000 in
theorem bl_X7_mix_85 {Γ : Gm} {ad : Nat → Nat} {p : Program} {l : Launch} {e : Env} {s : State} {m : MethodId} {args : Array Value} {below : List Frame} {meth : Method} {c : Code} {M : Nat} (hM : 20 ≤ M) {post : Int32 → St → Prop}
    (hc : CX Γ p s m args meth c cX7_mix RX7 9) (hr : meth.sig.returnType = (Option.some Jvm.ClassFile.FieldType.int)) :
    ∀ (n : Nat) (v1 : Int32) (v2 : Int32) (v3 : Int32) (v4 : Int32) (v5 : Int32) (v6 : Int32) (v7 : Int32) (σ : St) (H : Heap) (locs : List Loc) (ls : Array Slot), wl_X7_mix_85 M post n v1 v2 v3 v4 v5 v6 v7 σ → WH Γ YM M ad σ s H locs → lv_has ls 9 [(0, .ref (ad 0)), (1, .int v1), (2, .int v2), (3, .int v3), (4, .int v4), (5, .int v5), (6, .int v6), (7, .int v7)] → W p l e (rmL 5 0 0) s m args below meth c H locs 0 0 (MQ below (va_Qi post (fun u t => WC Γ YM M ad u t) (AA Γ)) args s 0 0 (AA Γ)) (F0 m 85 ls []) := by
  intro n
  induction n with
  | zero => intro v1 v2 v3 v4 v5 v6 v7 σ H locs ls h; exact h.elim
  | succ n ih =>
    intro v1 v2 v3 v4 v5 v6 v7 σ H locs ls h  hw hl
    exact b_X7_mix_85 hM ih v1 v2 v3 v4 v5 v6 v7 σ H locs ls h  hc hr hw hl
def w_X7_mix (M : Nat) (post : Int32 → St → Prop) (a1 : Int32) (a2 : Int32) (a3 : Int32) (σ : St) : Prop :=
  (a1 < 0 → (post (-5) σ)) ∧ (¬ (a1 < 0) → (w_X7_isCheese M (fun r3 σ2 => ((r3 = 0 → (post (-5) σ2)) ∧ (¬ (r3 = 0) → (w_X7_isCheese M (fun r6 σ5 => ((r6 = 0 → (post (-5) σ5)) ∧ (¬ (r6 = 0) → ((a2 < 0 → (post (-7) σ5)) ∧ (¬ (a2 < 0) → (w_X7_in M (fun r10 σ9 => ((r10 = 0 → (post (-7) σ9)) ∧ (¬ (r10 = 0) → ((60 < (a2 - a2 / 100 * 100) → (post (-7) σ9)) ∧ (¬ (60 < (a2 - a2 / 100 * 100)) → (w_X7_in M (fun r14 σ13 => ((r14 = 0 → (post (-7) σ13)) ∧ (¬ (r14 = 0) → (∃ n, wl_X7_mix_85 M post n a1 a2 a3 (a2 / 100) (-1) (-1) 0 σ13)))) a3.toInt64 0 1 σ9)))))) ((a2 / 100).toInt64) 1 20 σ5)))))) (a1 - a1 / 10 * 10) σ2)))) (a1 / 10) σ))
set_option maxHeartbeats 4000000 in
set_option maxRecDepth 20000 in
theorem m_X7_mix {Γ : Gm} {ad : Nat → Nat} {M : Nat} (l : Launch) (hM : 20 ≤ M) {post : Int32 → St → Prop} (a1 : Int32) (a2 : Int32) (a3 : Int32) (σ : St) (h : w_X7_mix M post a1 a2 a3 σ) : Ci l Γ YM M ad σ yX7_mix cX7_mix 9 (Option.some Jvm.ClassFile.FieldType.int) 5 0 0 [.ref (ad 0), .int a1, .int a2, .int a3] post := by
  refine g_start (by decide) (Nat.le_of_ble_eq_true rfl) ?_
  intro p e s m args below meth c ls hc hr hn hl hw
  have hc : CX Γ p s m args meth c cX7_mix RX7 9 := hc
  have hl : lv_has ls 9 [(0, .ref (ad 0)), (1, .int a1), (2, .int a2), (3, .int a3)] := hl
  have hx := hc.1
  have hb := hc.2.1
  unfold w_X7_mix at h
  generalize hHH : s.heap = H0 at hw ⊢
  refine lv_iload_n hx hb dX7_mix_0 rfl (lv_at hl 1 rfl) ?_
  refine lv_if_lt (tgt := 26) hx hb dX7_mix_1 (by decide) (fun c1 => ?_) (fun c1 => ?_)
  · replace h := h.1 c1
    refine lv_bipush (v := (-5)) hx hb dX7_mix_26 (by decide) ?_
    exact g_iret hc hr hw h dX7_mix_28
  · replace h := h.2 c1
    refine lv_aload_n hx hb dX7_mix_4 rfl (lv_at hl 0 rfl) ?_
    refine lv_iload_n hx hb dX7_mix_5 rfl (lv_at hl 1 rfl) ?_
    refine lv_bipush (v := 10) hx hb dX7_mix_6 (by decide) ?_
    refine lv_idiv hx hb dX7_mix_8 (by decide) ?_
    refine g_Vi (Y := YM) (ci := 7) (n := 1) (k := 1) (As := [.int (a1 / 10)]) (rest := []) rfl (by decide) vw_X7_85 ⟨Nat.le_of_ble_eq_true rfl, Nat.le_of_ble_eq_true rfl, Nat.zero_le _, Nat.zero_le _⟩ hc hw hl.1 (Nat.lt_of_lt_of_le (by decide) hM) rfl (m_X7_isCheese l hM (a1 / 10) σ h) rfl rfl (Nat.le_of_ble_eq_true rfl) dX7_mix_9 (fun r3 σ2 H locs h hw => ?_)
    refine lv_if_eq (tgt := 26) hx hb dX7_mix_12 (by decide) (fun c4 => ?_) (fun c4 => ?_)
    · replace h := h.1 c4
      refine lv_bipush (v := (-5)) hx hb dX7_mix_26 (by decide) ?_
      exact g_iret hc hr hw h dX7_mix_28
    · replace h := h.2 c4
      refine lv_aload_n hx hb dX7_mix_15 rfl (lv_at hl 0 rfl) ?_
      refine lv_iload_n hx hb dX7_mix_16 rfl (lv_at hl 1 rfl) ?_
      refine lv_bipush (v := 10) hx hb dX7_mix_17 (by decide) ?_
      refine lv_irem hx hb dX7_mix_19 (by decide) ?_
      refine g_Vi (Y := YM) (ci := 7) (n := 1) (k := 1) (As := [.int (a1 - a1 / 10 * 10)]) (rest := []) rfl (by decide) vw_X7_85 ⟨Nat.le_of_ble_eq_true rfl, Nat.le_of_ble_eq_true rfl, Nat.zero_le _, Nat.zero_le _⟩ hc hw hl.1 (Nat.lt_of_lt_of_le (by decide) hM) rfl (m_X7_isCheese l hM (a1 - a1 / 10 * 10) σ2 h) rfl rfl (Nat.le_of_ble_eq_true rfl) dX7_mix_20 (fun r6 σ5 H locs h hw => ?_)
      refine lv_if_ne (tgt := 29) hx hb dX7_mix_23 (by decide) (fun c7 => ?_) (fun c7 => ?_)
      · replace h := h.2 c7
        refine lv_iload_n hx hb dX7_mix_29 rfl (lv_at hl 2 rfl) ?_
        refine lv_if_lt (tgt := 67) hx hb dX7_mix_30 (by decide) (fun c8 => ?_) (fun c8 => ?_)
        · replace h := h.1 c8
          refine lv_bipush (v := (-7)) hx hb dX7_mix_67 (by decide) ?_
          exact g_iret hc hr hw h dX7_mix_69
        · replace h := h.2 c8
          refine lv_iload_n hx hb dX7_mix_33 rfl (lv_at hl 2 rfl) ?_
          refine lv_bipush (v := 100) hx hb dX7_mix_34 (by decide) ?_
          refine lv_idiv hx hb dX7_mix_36 (by decide) ?_
          refine lv_i2l (v := (a2 / 100).toInt64) hx hb dX7_mix_37 rfl ?_
          refine lv_lconst (v := 1) hx hb dX7_mix_38 (by decide) ?_
          refine lv_ldc2 (v := 20) hx hb hc.2.2.2.1 (hc.2.2.2.2.1 _ q_1348) dX7_mix_39 ?_
          refine g_Si (Y := YM) (n := 3) (k := 0) (As := [.long ((a2 / 100).toInt64), .long 1, .long 20]) (rest := []) vw_X7_75 ⟨Nat.le_of_ble_eq_true rfl, Nat.le_of_ble_eq_true rfl, Nat.zero_le _, Nat.zero_le _⟩ hc hw hl.1 (m_X7_in l hM ((a2 / 100).toInt64) 1 20 σ5 h) rfl rfl (Nat.le_of_ble_eq_true rfl) dX7_mix_42 (fun r10 σ9 H locs h hw => ?_)
          refine lv_if_eq (tgt := 67) hx hb dX7_mix_45 (by decide) (fun c11 => ?_) (fun c11 => ?_)
          · replace h := h.1 c11
            refine lv_bipush (v := (-7)) hx hb dX7_mix_67 (by decide) ?_
            exact g_iret hc hr hw h dX7_mix_69
          · replace h := h.2 c11
            refine lv_iload_n hx hb dX7_mix_48 rfl (lv_at hl 2 rfl) ?_
            refine lv_bipush (v := 100) hx hb dX7_mix_49 (by decide) ?_
            refine lv_irem hx hb dX7_mix_51 (by decide) ?_
            refine lv_bipush (v := 60) hx hb dX7_mix_52 (by decide) ?_
            refine lv_icmp_gt (tgt := 67) hx hb dX7_mix_54 (by decide) (fun c12 => ?_) (fun c12 => ?_)
            · replace h := h.1 c12
              refine lv_bipush (v := (-7)) hx hb dX7_mix_67 (by decide) ?_
              exact g_iret hc hr hw h dX7_mix_69
            · replace h := h.2 c12
              refine lv_iload_n hx hb dX7_mix_57 rfl (lv_at hl 3 rfl) ?_
              refine lv_i2l (v := a3.toInt64) hx hb dX7_mix_58 rfl ?_
              refine lv_lconst (v := 0) hx hb dX7_mix_59 (by decide) ?_
              refine lv_lconst (v := 1) hx hb dX7_mix_60 (by decide) ?_
              refine g_Si (Y := YM) (n := 3) (k := 0) (As := [.long a3.toInt64, .long 0, .long 1]) (rest := []) vw_X7_75 ⟨Nat.le_of_ble_eq_true rfl, Nat.le_of_ble_eq_true rfl, Nat.zero_le _, Nat.zero_le _⟩ hc hw hl.1 (m_X7_in l hM a3.toInt64 0 1 σ9 h) rfl rfl (Nat.le_of_ble_eq_true rfl) dX7_mix_61 (fun r14 σ13 H locs h hw => ?_)
              refine lv_if_ne (tgt := 70) hx hb dX7_mix_64 (by decide) (fun c15 => ?_) (fun c15 => ?_)
              · replace h := h.2 c15
                refine lv_iload_n hx hb dX7_mix_70 rfl (lv_at hl 2 rfl) ?_
                refine lv_bipush (v := 100) hx hb dX7_mix_71 (by decide) ?_
                refine lv_idiv hx hb dX7_mix_73 (by decide) ?_
                refine lv_istore (lv' := [(4, .int (a2 / 100)), (0, .ref (ad 0)), (1, .int a1), (2, .int a2), (3, .int a3)]) hx hb dX7_mix_74 hl (by decide) rfl (fun ls hl => ?_)
                refine lv_iconst (v := (-1)) hx hb dX7_mix_76 (by decide) ?_
                refine lv_istore (lv' := [(5, .int (-1)), (4, .int (a2 / 100)), (0, .ref (ad 0)), (1, .int a1), (2, .int a2), (3, .int a3)]) hx hb dX7_mix_77 hl (by decide) rfl (fun ls hl => ?_)
                refine lv_iconst (v := (-1)) hx hb dX7_mix_79 (by decide) ?_
                refine lv_istore (lv' := [(6, .int (-1)), (5, .int (-1)), (4, .int (a2 / 100)), (0, .ref (ad 0)), (1, .int a1), (2, .int a2), (3, .int a3)]) hx hb dX7_mix_80 hl (by decide) rfl (fun ls hl => ?_)
                refine lv_iconst (v := 0) hx hb dX7_mix_82 (by decide) ?_
                refine lv_istore (lv' := [(7, .int 0), (6, .int (-1)), (5, .int (-1)), (4, .int (a2 / 100)), (0, .ref (ad 0)), (1, .int a1), (2, .int a2), (3, .int a3)]) hx hb dX7_mix_83 hl (by decide) rfl (fun ls hl => ?_)
                obtain ⟨n, h⟩ := h
                exact bl_X7_mix_85 hM hc hr n a1 a2 a3 (a2 / 100) (-1) (-1) 0 σ13 _ _ _ h  hw (lv_sub hl [4, 5, 6, 7, 3, 2, 1, 0] rfl)
              · replace h := h.1 c15
                refine lv_bipush (v := (-7)) hx hb dX7_mix_67 (by decide) ?_
                exact g_iret hc hr hw h dX7_mix_69
      · replace h := h.1 c7
        refine lv_bipush (v := (-5)) hx hb dX7_mix_26 (by decide) ?_
        exact g_iret hc hr hw h dX7_mix_28
def w_X7_pace_58 (M : Nat) (post : Int32 → St → Prop) (k_28 : Int32 → Int32 → Int32 → St → Prop) (k_39 : Int32 → Int32 → Int32 → Int32 → St → Prop) (v1 : Int32) (v2 : Int32) (v3 : Int32) (v4 : Int32) (t0 : Int32) (t1 : Int32) (σ : St) : Prop :=
  w_X7_handfuls M (fun σ1 => (w_X7_minute M (fun σ2 => (k_39 v1 v2 v3 (v4 - v3) σ2)) 1 σ1)) t1 t0 σ
set_option maxHeartbeats 4000000 in
set_option maxRecDepth 20000 in
theorem b_X7_pace_58 {Γ : Gm} {ad : Nat → Nat} {p : Program} {l : Launch} {e : Env} {s : State} {m : MethodId} {args : Array Value} {below : List Frame} {meth : Method} {c : Code} {M : Nat} (hM : 20 ≤ M) {post : Int32 → St → Prop} {k_28 : Int32 → Int32 → Int32 → St → Prop} {k_39 : Int32 → Int32 → Int32 → Int32 → St → Prop} (hk_28 : ∀ (v1 : Int32) (v2 : Int32) (v3 : Int32) (σ : St) (H : Heap) (locs : List Loc) (ls : Array Slot), k_28 v1 v2 v3 σ → WH Γ YM M ad σ s H locs → lv_has ls 5 [(0, .ref (ad 0)), (1, .int v1), (2, .int v2), (3, .int v3)] → W p l e (rmL 5 0 0) s m args below meth c H locs 0 0 (MQ below (va_Qi post (fun u t => WC Γ YM M ad u t) (AA Γ)) args s 0 0 (AA Γ)) (F0 m 28 ls [])) (hk_39 : ∀ (v1 : Int32) (v2 : Int32) (v3 : Int32) (v4 : Int32) (σ : St) (H : Heap) (locs : List Loc) (ls : Array Slot), k_39 v1 v2 v3 v4 σ → WH Γ YM M ad σ s H locs → lv_has ls 5 [(0, .ref (ad 0)), (1, .int v1), (2, .int v2), (3, .int v3), (4, .int v4)] → W p l e (rmL 5 0 0) s m args below meth c H locs 0 0 (MQ below (va_Qi post (fun u t => WC Γ YM M ad u t) (AA Γ)) args s 0 0 (AA Γ)) (F0 m 39 ls []))
    (v1 : Int32) (v2 : Int32) (v3 : Int32) (v4 : Int32) (t0 : Int32) (t1 : Int32) (σ : St) (H : Heap) (locs : List Loc) (ls : Array Slot) (h : w_X7_pace_58 M post k_28 k_39 v1 v2 v3 v4 t0 t1 σ) (hc : CX Γ p s m args meth c cX7_pace RX7 5) (hr : meth.sig.returnType = (Option.some Jvm.ClassFile.FieldType.int)) (hw : WH Γ YM M ad σ s H locs) (hl : lv_has ls 5 [(0, .ref (ad 0)), (1, .int v1), (2, .int v2), (3, .int v3), (4, .int v4)]) :
    W p l e (rmL 5 0 0) s m args below meth c H locs 0 0 (MQ below (va_Qi post (fun u t => WC Γ YM M ad u t) (AA Γ)) args s 0 0 (AA Γ)) (F0 m 58 ls [.int t0, .int t1, .ref (ad 0)]) := by
  have hx := hc.1
  have hb := hc.2.1
  unfold w_X7_pace_58 at h
  refine g_Vv (Y := YM) (ci := 7) (n := 2) (k := 1) (As := [.int t1, .int t0]) (rest := []) rfl (by decide) vw_X7_234 ⟨Nat.le_of_ble_eq_true rfl, Nat.le_of_ble_eq_true rfl, Nat.zero_le _, Nat.zero_le _⟩ hc hw hl.1 (Nat.lt_of_lt_of_le (by decide) hM) rfl (m_X7_handfuls l hM t1 t0 σ h) rfl rfl (Nat.le_of_ble_eq_true rfl) dX7_pace_58 (fun σ1 H locs h hw => ?_)
  refine lv_aload_n hx hb dX7_pace_61 rfl (lv_at hl 0 rfl) ?_
  refine lv_iconst (v := 1) hx hb dX7_pace_62 (by decide) ?_
  refine g_Vv (Y := YM) (ci := 7) (n := 1) (k := 2) (As := [.int 1]) (rest := []) rfl (by decide) vw_X7_240 ⟨Nat.le_of_ble_eq_true rfl, Nat.le_of_ble_eq_true rfl, Nat.zero_le _, Nat.zero_le _⟩ hc hw hl.1 (Nat.lt_of_lt_of_le (by decide) hM) rfl (m_X7_minute l hM 1 σ1 h) rfl rfl (Nat.le_of_ble_eq_true rfl) dX7_pace_63 (fun σ2 H locs h hw => ?_)
  refine lv_iload hx hb dX7_pace_66 (lv_at hl 4 rfl) ?_
  refine lv_iload_n hx hb dX7_pace_68 rfl (lv_at hl 3 rfl) ?_
  refine lv_isub hx hb dX7_pace_69 ?_
  refine lv_istore (lv' := [(4, .int (v4 - v3)), (0, .ref (ad 0)), (1, .int v1), (2, .int v2), (3, .int v3)]) hx hb dX7_pace_70 hl (by decide) rfl (fun ls hl => ?_)
  refine lv_goto (tgt := 39) hx hb dX7_pace_72 (by decide) ?_
  exact hk_39 v1 v2 v3 (v4 - v3) σ2 _ _ _ h  hw (lv_sub hl [1, 2, 3, 4, 0] rfl)
def w_X7_pace_39 (M : Nat) (post : Int32 → St → Prop) (k_28 : Int32 → Int32 → Int32 → St → Prop) (k_39 : Int32 → Int32 → Int32 → Int32 → St → Prop) (v1 : Int32) (v2 : Int32) (v3 : Int32) (v4 : Int32) (σ : St) : Prop :=
  (v4 ≤ 0 → (w_X7_holds M (fun r3 σ2 => ((r3 = 0 → (∀ x5 : Int32, x5 = v3 + (-1) → (k_28 v1 v2 x5 σ2))) ∧ (¬ (r3 = 0) → (((gi σ2 13 1) < (gi σ2 13 0) → (∀ x7 : Int32, x7 = v3 + (-1) → (k_28 v1 v2 x7 σ2))) ∧ (¬ ((gi σ2 13 1) < (gi σ2 13 0)) → (post v3 σ2)))))) σ)) ∧ (¬ (v4 ≤ 0) → ((v3 ≤ v4 → (w_X7_pace_58 M post k_28 k_39 v1 v2 v3 v4 v3 v1 σ)) ∧ (¬ (v3 ≤ v4) → (w_X7_pace_58 M post k_28 k_39 v1 v2 v3 v4 v4 v1 σ))))
set_option maxHeartbeats 4000000 in
set_option maxRecDepth 20000 in
theorem b_X7_pace_39 {Γ : Gm} {ad : Nat → Nat} {p : Program} {l : Launch} {e : Env} {s : State} {m : MethodId} {args : Array Value} {below : List Frame} {meth : Method} {c : Code} {M : Nat} (hM : 20 ≤ M) {post : Int32 → St → Prop} {k_28 : Int32 → Int32 → Int32 → St → Prop} {k_39 : Int32 → Int32 → Int32 → Int32 → St → Prop} (hk_28 : ∀ (v1 : Int32) (v2 : Int32) (v3 : Int32) (σ : St) (H : Heap) (locs : List Loc) (ls : Array Slot), k_28 v1 v2 v3 σ → WH Γ YM M ad σ s H locs → lv_has ls 5 [(0, .ref (ad 0)), (1, .int v1), (2, .int v2), (3, .int v3)] → W p l e (rmL 5 0 0) s m args below meth c H locs 0 0 (MQ below (va_Qi post (fun u t => WC Γ YM M ad u t) (AA Γ)) args s 0 0 (AA Γ)) (F0 m 28 ls [])) (hk_39 : ∀ (v1 : Int32) (v2 : Int32) (v3 : Int32) (v4 : Int32) (σ : St) (H : Heap) (locs : List Loc) (ls : Array Slot), k_39 v1 v2 v3 v4 σ → WH Γ YM M ad σ s H locs → lv_has ls 5 [(0, .ref (ad 0)), (1, .int v1), (2, .int v2), (3, .int v3), (4, .int v4)] → W p l e (rmL 5 0 0) s m args below meth c H locs 0 0 (MQ below (va_Qi post (fun u t => WC Γ YM M ad u t) (AA Γ)) args s 0 0 (AA Γ)) (F0 m 39 ls []))
    (v1 : Int32) (v2 : Int32) (v3 : Int32) (v4 : Int32) (σ : St) (H : Heap) (locs : List Loc) (ls : Array Slot) (h : w_X7_pace_39 M post k_28 k_39 v1 v2 v3 v4 σ) (hc : CX Γ p s m args meth c cX7_pace RX7 5) (hr : meth.sig.returnType = (Option.some Jvm.ClassFile.FieldType.int)) (hw : WH Γ YM M ad σ s H locs) (hl : lv_has ls 5 [(0, .ref (ad 0)), (1, .int v1), (2, .int v2), (3, .int v3), (4, .int v4)]) :
    W p l e (rmL 5 0 0) s m args below meth c H locs 0 0 (MQ below (va_Qi post (fun u t => WC Γ YM M ad u t) (AA Γ)) args s 0 0 (AA Γ)) (F0 m 39 ls []) := by
  have hx := hc.1
  have hb := hc.2.1
  unfold w_X7_pace_39 at h
  refine lv_iload hx hb dX7_pace_39 (lv_at hl 4 rfl) ?_
  refine lv_if_le (tgt := 75) hx hb dX7_pace_41 (by decide) (fun c1 => ?_) (fun c1 => ?_)
  · replace h := h.1 c1
    refine lv_aload_n hx hb dX7_pace_75 rfl (lv_at hl 0 rfl) ?_
    refine g_Vi (Y := YM) (ci := 7) (n := 0) (k := 4) (As := []) (rest := []) rfl (by decide) vw_X7_274 ⟨Nat.le_of_ble_eq_true rfl, Nat.le_of_ble_eq_true rfl, Nat.zero_le _, Nat.zero_le _⟩ hc hw hl.1 (Nat.lt_of_lt_of_le (by decide) hM) rfl (m_X7_holds l hM σ h) rfl rfl (Nat.le_of_ble_eq_true rfl) dX7_pace_76 (fun r3 σ2 H locs h hw => ?_)
    refine lv_if_eq (tgt := 99) hx hb dX7_pace_79 (by decide) (fun c4 => ?_) (fun c4 => ?_)
    · replace h := h.1 c4
      obtain ⟨x5, ex5⟩ : ∃ z, z = v3 + (-1) := ⟨_, rfl⟩
      replace h := h x5 ex5
      refine lv_iinc (v := x5) (lv' := [(3, .int x5), (0, .ref (ad 0)), (1, .int v1), (2, .int v2), (4, .int v4)]) hx hb dX7_pace_99 hl (k := 3) rfl (by rw [ex5]; rfl) (by decide) rfl (fun ls hl => ?_)
      refine lv_goto (tgt := 28) hx hb dX7_pace_102 (by decide) ?_
      exact hk_28 v1 v2 x5 σ2 _ _ _ h  hw (lv_sub hl [1, 2, 3, 0] rfl)
    · replace h := h.2 c4
      refine lv_aload_n hx hb dX7_pace_82 rfl (lv_at hl 0 rfl) ?_
      refine fg_X7_47 hc hw (Nat.lt_of_lt_of_le (by decide) hM) rfl dX7_pace_83 ?_
      refine lv_iconst (v := 0) hx hb dX7_pace_86 (by decide) ?_
      refine g_ialdK (Y := YM) (kd := 33) (n := 14) (k := 0) (o := 13) (by decide) (by decide) rfl hc hw (Nat.lt_of_lt_of_le (by decide) hM) rfl rfl (vp_in_lit (by decide)) (by decide) dX7_pace_87 ?_
      refine lv_aload_n hx hb dX7_pace_88 rfl (lv_at hl 0 rfl) ?_
      refine fg_X7_47 hc hw (Nat.lt_of_lt_of_le (by decide) hM) rfl dX7_pace_89 ?_
      refine lv_iconst (v := 1) hx hb dX7_pace_92 (by decide) ?_
      refine g_ialdK (Y := YM) (kd := 33) (n := 14) (k := 1) (o := 13) (by decide) (by decide) rfl hc hw (Nat.lt_of_lt_of_le (by decide) hM) rfl rfl (vp_in_lit (by decide)) (by decide) dX7_pace_93 ?_
      refine lv_icmp_gt (tgt := 99) hx hb dX7_pace_94 (by decide) (fun c6 => ?_) (fun c6 => ?_)
      · replace h := h.1 c6
        obtain ⟨x7, ex7⟩ : ∃ z, z = v3 + (-1) := ⟨_, rfl⟩
        replace h := h x7 ex7
        refine lv_iinc (v := x7) (lv' := [(3, .int x7), (0, .ref (ad 0)), (1, .int v1), (2, .int v2), (4, .int v4)]) hx hb dX7_pace_99 hl (k := 3) rfl (by rw [ex7]; rfl) (by decide) rfl (fun ls hl => ?_)
        refine lv_goto (tgt := 28) hx hb dX7_pace_102 (by decide) ?_
        exact hk_28 v1 v2 x7 σ2 _ _ _ h  hw (lv_sub hl [1, 2, 3, 0] rfl)
      · replace h := h.2 c6
        refine lv_iload_n hx hb dX7_pace_97 rfl (lv_at hl 3 rfl) ?_
        exact g_iret hc hr hw h dX7_pace_98
  · replace h := h.2 c1
    refine lv_aload_n hx hb dX7_pace_44 rfl (lv_at hl 0 rfl) ?_
    refine lv_iload_n hx hb dX7_pace_45 rfl (lv_at hl 1 rfl) ?_
    refine lv_iload hx hb dX7_pace_46 (lv_at hl 4 rfl) ?_
    refine lv_iload_n hx hb dX7_pace_48 rfl (lv_at hl 3 rfl) ?_
    refine lv_icmp_ge (tgt := 57) hx hb dX7_pace_49 (by decide) (fun c8 => ?_) (fun c8 => ?_)
    · replace h := h.1 c8
      refine lv_iload_n hx hb dX7_pace_57 rfl (lv_at hl 3 rfl) ?_
      exact b_X7_pace_58 hM hk_28 hk_39 v1 v2 v3 v4 v3 v1 σ _ _ _ h  hc hr hw (lv_sub hl [0, 1, 2, 3, 4] rfl)
    · replace h := h.2 c8
      refine lv_iload hx hb dX7_pace_52 (lv_at hl 4 rfl) ?_
      refine lv_goto (tgt := 58) hx hb dX7_pace_54 (by decide) ?_
      exact b_X7_pace_58 hM hk_28 hk_39 v1 v2 v3 v4 v4 v1 σ _ _ _ h  hc hr hw (lv_sub hl [0, 1, 2, 3, 4] rfl)
def wl_X7_pace_39 (M : Nat) (post : Int32 → St → Prop) (k_28 : Int32 → Int32 → Int32 → St → Prop) : Nat → Int32 → Int32 → Int32 → Int32 → St → Prop
  | 0, _, _, _, _, _ => False
  | n + 1, v1, v2, v3, v4, σ => w_X7_pace_39 M post k_28 (wl_X7_pace_39 M post k_28 n) v1 v2 v3 v4 σ
set_option maxHeartbeats 4000000 in
theorem bl_X7_pace_39 {Γ : Gm} {ad : Nat → Nat} {p : Program} {l : Launch} {e : Env} {s : State} {m : MethodId} {args : Array Value} {below : List Frame} {meth : Method} {c : Code} {M : Nat} (hM : 20 ≤ M) {post : Int32 → St → Prop} {k_28 : Int32 → Int32 → Int32 → St → Prop} (hk_28 : ∀ (v1 : Int32) (v2 : Int32) (v3 : Int32) (σ : St) (H : Heap) (locs : List Loc) (ls : Array Slot), k_28 v1 v2 v3 σ → WH Γ YM M ad σ s H locs → lv_has ls 5 [(0, .ref (ad 0)), (1, .int v1), (2, .int v2), (3, .int v3)] → W p l e (rmL 5 0 0) s m args below meth c H locs 0 0 (MQ below (va_Qi post (fun u t => WC Γ YM M ad u t) (AA Γ)) args s 0 0 (AA Γ)) (F0 m 28 ls []))
    (hc : CX Γ p s m args meth c cX7_pace RX7 5) (hr : meth.sig.returnType = (Option.some Jvm.ClassFile.FieldType.int)) :
    ∀ (n : Nat) (v1 : Int32) (v2 : Int32) (v3 : Int32) (v4 : Int32) (σ : St) (H : Heap) (locs : List Loc) (ls : Array Slot), wl_X7_pace_39 M post k_28 n v1 v2 v3 v4 σ → WH Γ YM M ad σ s H locs → lv_has ls 5 [(0, .ref (ad 0)), (1, .int v1), (2, .int v2), (3, .int v3), (4, .int v4)] → W p l e (rmL 5 0 0) s m args below meth c H locs 0 0 (MQ below (va_Qi post (fun u t => WC Γ YM M ad u t) (AA Γ)) args s 0 0 (AA Γ)) (F0 m 39 ls []) := by
  intro n
  induction n with
  | zero => intro v1 v2 v3 v4 σ H locs ls h; exact h.elim
  | succ n ih =>
    intro v1 v2 v3 v4 σ H locs ls h  hw hl
    exact b_X7_pace_39 hM hk_28 ih v1 v2 v3 v4 σ H locs ls h  hc hr hw hl
def w_X7_pace_28 (M : Nat) (post : Int32 → St → Prop) (k_28 : Int32 → Int32 → Int32 → St → Prop) (v1 : Int32) (v2 : Int32) (v3 : Int32) (σ : St) : Prop :=
  (v3 ≤ 0 → (post (-1) σ)) ∧ (¬ (v3 ≤ 0) → (w_X7_begins M (fun σ2 => (∃ n, wl_X7_pace_39 M post k_28 n v1 v2 v3 v2 σ2)) σ))
set_option maxHeartbeats 4000000 in
set_option maxRecDepth 20000 in
theorem b_X7_pace_28 {Γ : Gm} {ad : Nat → Nat} {p : Program} {l : Launch} {e : Env} {s : State} {m : MethodId} {args : Array Value} {below : List Frame} {meth : Method} {c : Code} {M : Nat} (hM : 20 ≤ M) {post : Int32 → St → Prop} {k_28 : Int32 → Int32 → Int32 → St → Prop} (hk_28 : ∀ (v1 : Int32) (v2 : Int32) (v3 : Int32) (σ : St) (H : Heap) (locs : List Loc) (ls : Array Slot), k_28 v1 v2 v3 σ → WH Γ YM M ad σ s H locs → lv_has ls 5 [(0, .ref (ad 0)), (1, .int v1), (2, .int v2), (3, .int v3)] → W p l e (rmL 5 0 0) s m args below meth c H locs 0 0 (MQ below (va_Qi post (fun u t => WC Γ YM M ad u t) (AA Γ)) args s 0 0 (AA Γ)) (F0 m 28 ls []))
    (v1 : Int32) (v2 : Int32) (v3 : Int32) (σ : St) (H : Heap) (locs : List Loc) (ls : Array Slot) (h : w_X7_pace_28 M post k_28 v1 v2 v3 σ) (hc : CX Γ p s m args meth c cX7_pace RX7 5) (hr : meth.sig.returnType = (Option.some Jvm.ClassFile.FieldType.int)) (hw : WH Γ YM M ad σ s H locs) (hl : lv_has ls 5 [(0, .ref (ad 0)), (1, .int v1), (2, .int v2), (3, .int v3)]) :
    W p l e (rmL 5 0 0) s m args below meth c H locs 0 0 (MQ below (va_Qi post (fun u t => WC Γ YM M ad u t) (AA Γ)) args s 0 0 (AA Γ)) (F0 m 28 ls []) := by
  have hx := hc.1
  have hb := hc.2.1
  unfold w_X7_pace_28 at h
  refine lv_iload_n hx hb dX7_pace_28 rfl (lv_at hl 3 rfl) ?_
  refine lv_if_le (tgt := 105) hx hb dX7_pace_29 (by decide) (fun c1 => ?_) (fun c1 => ?_)
  · replace h := h.1 c1
    refine lv_iconst (v := (-1)) hx hb dX7_pace_105 (by decide) ?_
    exact g_iret hc hr hw h dX7_pace_106
  · replace h := h.2 c1
    refine lv_aload_n hx hb dX7_pace_32 rfl (lv_at hl 0 rfl) ?_
    refine g_Vv (Y := YM) (ci := 7) (n := 0) (k := 0) (As := []) (rest := []) rfl (by decide) vw_X7_248 ⟨Nat.le_of_ble_eq_true rfl, Nat.le_of_ble_eq_true rfl, Nat.zero_le _, Nat.zero_le _⟩ hc hw hl.1 (Nat.lt_of_lt_of_le (by decide) hM) rfl (m_X7_begins l hM σ h) rfl rfl (Nat.le_of_ble_eq_true rfl) dX7_pace_33 (fun σ2 H locs h hw => ?_)
    refine lv_iload_n hx hb dX7_pace_36 rfl (lv_at hl 2 rfl) ?_
    refine lv_istore (lv' := [(4, .int v2), (0, .ref (ad 0)), (1, .int v1), (2, .int v2), (3, .int v3)]) hx hb dX7_pace_37 hl (by decide) rfl (fun ls hl => ?_)
    obtain ⟨n, h⟩ := h
    exact bl_X7_pace_39 hM hk_28 hc hr n v1 v2 v3 v2 σ2 _ _ _ h  hw (lv_sub hl [1, 2, 3, 4, 0] rfl)
def wl_X7_pace_28 (M : Nat) (post : Int32 → St → Prop) : Nat → Int32 → Int32 → Int32 → St → Prop
  | 0, _, _, _, _ => False
  | n + 1, v1, v2, v3, σ => w_X7_pace_28 M post (wl_X7_pace_28 M post n) v1 v2 v3 σ
set_option maxHeartbeats 4000000 in
theorem bl_X7_pace_28 {Γ : Gm} {ad : Nat → Nat} {p : Program} {l : Launch} {e : Env} {s : State} {m : MethodId} {args : Array Value} {below : List Frame} {meth : Method} {c : Code} {M : Nat} (hM : 20 ≤ M) {post : Int32 → St → Prop}
    (hc : CX Γ p s m args meth c cX7_pace RX7 5) (hr : meth.sig.returnType = (Option.some Jvm.ClassFile.FieldType.int)) :
    ∀ (n : Nat) (v1 : Int32) (v2 : Int32) (v3 : Int32) (σ : St) (H : Heap) (locs : List Loc) (ls : Array Slot), wl_X7_pace_28 M post n v1 v2 v3 σ → WH Γ YM M ad σ s H locs → lv_has ls 5 [(0, .ref (ad 0)), (1, .int v1), (2, .int v2), (3, .int v3)] → W p l e (rmL 5 0 0) s m args below meth c H locs 0 0 (MQ below (va_Qi post (fun u t => WC Γ YM M ad u t) (AA Γ)) args s 0 0 (AA Γ)) (F0 m 28 ls []) := by
  intro n
  induction n with
  | zero => intro v1 v2 v3 σ H locs ls h; exact h.elim
  | succ n ih =>
    intro v1 v2 v3 σ H locs ls h  hw hl
    exact b_X7_pace_28 hM ih v1 v2 v3 σ H locs ls h  hc hr hw hl
def w_X7_pace (M : Nat) (post : Int32 → St → Prop) (a1 : Int32) (a2 : Int32) (σ : St) : Prop :=
  w_X7_isCheese M (fun r2 σ1 => ((r2 = 0 → (post (-5) σ1)) ∧ (¬ (r2 = 0) → (w_X7_in M (fun r5 σ4 => ((r5 = 0 → (post (-7) σ4)) ∧ (¬ (r5 = 0) → (∃ n, wl_X7_pace_28 M post n a1 a2 a2 σ4)))) a2.toInt64 1 30 σ1)))) a1 σ
set_option maxHeartbeats 4000000 in
set_option maxRecDepth 20000 in
theorem m_X7_pace {Γ : Gm} {ad : Nat → Nat} {M : Nat} (l : Launch) (hM : 20 ≤ M) {post : Int32 → St → Prop} (a1 : Int32) (a2 : Int32) (σ : St) (h : w_X7_pace M post a1 a2 σ) : Ci l Γ YM M ad σ yX7_pace cX7_pace 5 (Option.some Jvm.ClassFile.FieldType.int) 5 0 0 [.ref (ad 0), .int a1, .int a2] post := by
  refine g_start (by decide) (Nat.le_of_ble_eq_true rfl) ?_
  intro p e s m args below meth c ls hc hr hn hl hw
  have hc : CX Γ p s m args meth c cX7_pace RX7 5 := hc
  have hl : lv_has ls 5 [(0, .ref (ad 0)), (1, .int a1), (2, .int a2)] := hl
  have hx := hc.1
  have hb := hc.2.1
  unfold w_X7_pace at h
  generalize hHH : s.heap = H0 at hw ⊢
  refine lv_aload_n hx hb dX7_pace_0 rfl (lv_at hl 0 rfl) ?_
  refine lv_iload_n hx hb dX7_pace_1 rfl (lv_at hl 1 rfl) ?_
  refine g_Vi (Y := YM) (ci := 7) (n := 1) (k := 1) (As := [.int a1]) (rest := []) rfl (by decide) vw_X7_85 ⟨Nat.le_of_ble_eq_true rfl, Nat.le_of_ble_eq_true rfl, Nat.zero_le _, Nat.zero_le _⟩ hc hw hl.1 (Nat.lt_of_lt_of_le (by decide) hM) rfl (m_X7_isCheese l hM a1 σ h) rfl rfl (Nat.le_of_ble_eq_true rfl) dX7_pace_2 (fun r2 σ1 H locs h hw => ?_)
  refine lv_if_ne (tgt := 11) hx hb dX7_pace_5 (by decide) (fun c3 => ?_) (fun c3 => ?_)
  · replace h := h.2 c3
    refine lv_iload_n hx hb dX7_pace_11 rfl (lv_at hl 2 rfl) ?_
    refine lv_i2l (v := a2.toInt64) hx hb dX7_pace_12 rfl ?_
    refine lv_lconst (v := 1) hx hb dX7_pace_13 (by decide) ?_
    refine lv_ldc2 (v := 30) hx hb hc.2.2.2.1 (hc.2.2.2.2.1 _ q_1357) dX7_pace_14 ?_
    refine g_Si (Y := YM) (n := 3) (k := 0) (As := [.long a2.toInt64, .long 1, .long 30]) (rest := []) vw_X7_75 ⟨Nat.le_of_ble_eq_true rfl, Nat.le_of_ble_eq_true rfl, Nat.zero_le _, Nat.zero_le _⟩ hc hw hl.1 (m_X7_in l hM a2.toInt64 1 30 σ1 h) rfl rfl (Nat.le_of_ble_eq_true rfl) dX7_pace_17 (fun r5 σ4 H locs h hw => ?_)
    refine lv_if_ne (tgt := 26) hx hb dX7_pace_20 (by decide) (fun c6 => ?_) (fun c6 => ?_)
    · replace h := h.2 c6
      refine lv_iload_n hx hb dX7_pace_26 rfl (lv_at hl 2 rfl) ?_
      refine lv_istore_n (lv' := [(3, .int a2), (0, .ref (ad 0)), (1, .int a1), (2, .int a2)]) hx hb dX7_pace_27 rfl hl (by decide) rfl (fun ls hl => ?_)
      obtain ⟨n, h⟩ := h
      exact bl_X7_pace_28 hM hc hr n a1 a2 a2 σ4 _ _ _ h  hw (lv_sub hl [1, 2, 3, 0] rfl)
    · replace h := h.1 c6
      refine lv_bipush (v := (-7)) hx hb dX7_pace_23 (by decide) ?_
      exact g_iret hc hr hw h dX7_pace_25
  · replace h := h.1 c3
    refine lv_bipush (v := (-5)) hx hb dX7_pace_8 (by decide) ?_
    exact g_iret hc hr hw h dX7_pace_10
def w_X7_atTable_65 (M : Nat) (post : St → Prop) (k_13 : Int32 → Int32 → Int32 → Int32 → St → Prop) (v1 : Int32) (v2 : Int32) (v4 : Int32) (t0 : Int32) (σ : St) : Prop :=
  (t0 = 0 → (∀ σ2 : St, σ2 = si σ 0 28 ((gi σ 0 28) + 0) → (∀ x3 : Int32, x3 = v4 + 1 → (k_13 v1 v2 t0 x3 σ2)))) ∧ (¬ (t0 = 0) → (∀ σ4 : St, σ4 = si σ 0 28 ((gi σ 0 28) + 1) → (∀ x5 : Int32, x5 = v4 + 1 → (k_13 v1 v2 t0 x5 σ4))))
set_option maxHeartbeats 4000000 in
set_option maxRecDepth 20000 in
theorem b_X7_atTable_65 {Γ : Gm} {ad : Nat → Nat} {p : Program} {l : Launch} {e : Env} {s : State} {m : MethodId} {args : Array Value} {below : List Frame} {meth : Method} {c : Code} {M : Nat} (hM : 20 ≤ M) {post : St → Prop} {k_13 : Int32 → Int32 → Int32 → Int32 → St → Prop} (hk_13 : ∀ (v1 : Int32) (v2 : Int32) (v3 : Int32) (v4 : Int32) (σ : St) (H : Heap) (locs : List Loc) (ls : Array Slot), k_13 v1 v2 v3 v4 σ → WH Γ YM M ad σ s H locs → lv_has ls 6 [(0, .ref (ad 0)), (1, .int v1), (2, .int v2), (3, .int v3), (4, .int v4)] → W p l e (rmL 5 0 0) s m args below meth c H locs 0 0 (MQ below (va_Qv post (fun u t => WC Γ YM M ad u t) (AA Γ)) args s 0 0 (AA Γ)) (F0 m 13 ls []))
    (v1 : Int32) (v2 : Int32) (v4 : Int32) (t0 : Int32) (σ : St) (H : Heap) (locs : List Loc) (ls : Array Slot) (h : w_X7_atTable_65 M post k_13 v1 v2 v4 t0 σ) (hc : CX Γ p s m args meth c cX7_atTable RX7 6) (hr : meth.sig.returnType = none) (hw : WH Γ YM M ad σ s H locs) (hl : lv_has ls 6 [(0, .ref (ad 0)), (1, .int v1), (2, .int v2), (4, .int v4)]) :
    W p l e (rmL 5 0 0) s m args below meth c H locs 0 0 (MQ below (va_Qv post (fun u t => WC Γ YM M ad u t) (AA Γ)) args s 0 0 (AA Γ)) (F0 m 65 ls [.int t0]) := by
  have hx := hc.1
  have hb := hc.2.1
  unfold w_X7_atTable_65 at h
  refine lv_istore_n (lv' := [(3, .int t0), (0, .ref (ad 0)), (1, .int v1), (2, .int v2), (4, .int v4)]) hx hb dX7_atTable_65 rfl hl (by decide) rfl (fun ls hl => ?_)
  refine lv_aload_n hx hb dX7_atTable_66 rfl (lv_at hl 1 rfl) ?_
  refine lv_dup hx hb dX7_atTable_67 rfl ?_
  refine fg_X7_293 hc hw (Nat.lt_of_lt_of_le (by decide) hM) rfl dX7_atTable_68 ?_
  refine lv_iload_n hx hb dX7_atTable_71 rfl (lv_at hl 0 rfl) ?_
  refine lv_if_eq (tgt := 79) hx hb dX7_atTable_72 (by decide) (fun c1 => ?_) (fun c1 => ?_)
  · replace h := h.1 c1
    refine lv_iconst (v := 0) hx hb dX7_atTable_79 (by decide) ?_
    refine lv_iadd hx hb dX7_atTable_80 ?_
    refine fp_X7_293 (o := 0) hc hw (Nat.lt_of_lt_of_le (by decide) hM) rfl dX7_atTable_81 (fun σ2 H locs eσ2 hw => ?_)
    replace h := h σ2 eσ2
    obtain ⟨x3, ex3⟩ : ∃ z, z = v4 + 1 := ⟨_, rfl⟩
    replace h := h x3 ex3
    refine lv_iinc (v := x3) (lv' := [(4, .int x3), (3, .int t0), (0, .ref (ad 0)), (1, .int v1), (2, .int v2)]) hx hb dX7_atTable_84 hl (k := 4) rfl (by rw [ex3]; rfl) (by decide) rfl (fun ls hl => ?_)
    refine lv_goto (tgt := 13) hx hb dX7_atTable_87 (by decide) ?_
    exact hk_13 v1 v2 t0 x3 σ2 _ _ _ h  hw (lv_sub hl [2, 3, 4, 1, 0] rfl)
  · replace h := h.2 c1
    refine lv_iconst (v := 1) hx hb dX7_atTable_75 (by decide) ?_
    refine lv_goto (tgt := 80) hx hb dX7_atTable_76 (by decide) ?_
    refine lv_iadd hx hb dX7_atTable_80 ?_
    refine fp_X7_293 (o := 0) hc hw (Nat.lt_of_lt_of_le (by decide) hM) rfl dX7_atTable_81 (fun σ4 H locs eσ4 hw => ?_)
    replace h := h σ4 eσ4
    obtain ⟨x5, ex5⟩ : ∃ z, z = v4 + 1 := ⟨_, rfl⟩
    replace h := h x5 ex5
    refine lv_iinc (v := x5) (lv' := [(4, .int x5), (3, .int t0), (0, .ref (ad 0)), (1, .int v1), (2, .int v2)]) hx hb dX7_atTable_84 hl (k := 4) rfl (by rw [ex5]; rfl) (by decide) rfl (fun ls hl => ?_)
    refine lv_goto (tgt := 13) hx hb dX7_atTable_87 (by decide) ?_
    exact hk_13 v1 v2 t0 x5 σ4 _ _ _ h  hw (lv_sub hl [2, 3, 4, 1, 0] rfl)
def w_X7_atTable_43 (M : Nat) (post : St → Prop) (k_13 : Int32 → Int32 → Int32 → Int32 → St → Prop) (v1 : Int32) (v2 : Int32) (v3 : Int32) (v4 : Int32) (v5 : Int32) (σ : St) : Prop :=
  w_X7_minute M (fun σ1 => ((v3 = 0 → (w_X7_atTable_65 M post k_13 v1 v2 v4 0 σ1)) ∧ (¬ (v3 = 0) → (w_X7_holds M (fun r4 σ3 => ((r4 = 0 → (w_X7_atTable_65 M post k_13 v1 v2 v4 0 σ3)) ∧ (¬ (r4 = 0) → (w_X7_atTable_65 M post k_13 v1 v2 v4 1 σ3)))) σ1)))) v5 σ
set_option maxHeartbeats 4000000 in
set_option maxRecDepth 20000 in
theorem b_X7_atTable_43 {Γ : Gm} {ad : Nat → Nat} {p : Program} {l : Launch} {e : Env} {s : State} {m : MethodId} {args : Array Value} {below : List Frame} {meth : Method} {c : Code} {M : Nat} (hM : 20 ≤ M) {post : St → Prop} {k_13 : Int32 → Int32 → Int32 → Int32 → St → Prop} (hk_13 : ∀ (v1 : Int32) (v2 : Int32) (v3 : Int32) (v4 : Int32) (σ : St) (H : Heap) (locs : List Loc) (ls : Array Slot), k_13 v1 v2 v3 v4 σ → WH Γ YM M ad σ s H locs → lv_has ls 6 [(0, .ref (ad 0)), (1, .int v1), (2, .int v2), (3, .int v3), (4, .int v4)] → W p l e (rmL 5 0 0) s m args below meth c H locs 0 0 (MQ below (va_Qv post (fun u t => WC Γ YM M ad u t) (AA Γ)) args s 0 0 (AA Γ)) (F0 m 13 ls []))
    (v1 : Int32) (v2 : Int32) (v3 : Int32) (v4 : Int32) (v5 : Int32) (σ : St) (H : Heap) (locs : List Loc) (ls : Array Slot) (h : w_X7_atTable_43 M post k_13 v1 v2 v3 v4 v5 σ) (hc : CX Γ p s m args meth c cX7_atTable RX7 6) (hr : meth.sig.returnType = none) (hw : WH Γ YM M ad σ s H locs) (hl : lv_has ls 6 [(0, .ref (ad 0)), (1, .int v1), (2, .int v2), (3, .int v3), (4, .int v4), (5, .int v5)]) :
    W p l e (rmL 5 0 0) s m args below meth c H locs 0 0 (MQ below (va_Qv post (fun u t => WC Γ YM M ad u t) (AA Γ)) args s 0 0 (AA Γ)) (F0 m 43 ls []) := by
  have hx := hc.1
  have hb := hc.2.1
  unfold w_X7_atTable_43 at h
  refine lv_aload_n hx hb dX7_atTable_43 rfl (lv_at hl 0 rfl) ?_
  refine lv_iload hx hb dX7_atTable_44 (lv_at hl 5 rfl) ?_
  refine g_Vv (Y := YM) (ci := 7) (n := 1) (k := 2) (As := [.int v5]) (rest := []) rfl (by decide) vw_X7_240 ⟨Nat.le_of_ble_eq_true rfl, Nat.le_of_ble_eq_true rfl, Nat.zero_le _, Nat.zero_le _⟩ hc hw hl.1 (Nat.lt_of_lt_of_le (by decide) hM) rfl (m_X7_minute l hM v5 σ h) rfl rfl (Nat.le_of_ble_eq_true rfl) dX7_atTable_46 (fun σ1 H locs h hw => ?_)
  refine lv_iload_n hx hb dX7_atTable_49 rfl (lv_at hl 3 rfl) ?_
  refine lv_if_eq (tgt := 64) hx hb dX7_atTable_50 (by decide) (fun c2 => ?_) (fun c2 => ?_)
  · replace h := h.1 c2
    refine lv_iconst (v := 0) hx hb dX7_atTable_64 (by decide) ?_
    exact b_X7_atTable_65 hM hk_13 v1 v2 v4 0 σ1 _ _ _ h  hc hr hw (lv_sub hl [0, 1, 2, 4] rfl)
  · replace h := h.2 c2
    refine lv_aload_n hx hb dX7_atTable_53 rfl (lv_at hl 0 rfl) ?_
    refine g_Vi (Y := YM) (ci := 7) (n := 0) (k := 4) (As := []) (rest := []) rfl (by decide) vw_X7_274 ⟨Nat.le_of_ble_eq_true rfl, Nat.le_of_ble_eq_true rfl, Nat.zero_le _, Nat.zero_le _⟩ hc hw hl.1 (Nat.lt_of_lt_of_le (by decide) hM) rfl (m_X7_holds l hM σ1 h) rfl rfl (Nat.le_of_ble_eq_true rfl) dX7_atTable_54 (fun r4 σ3 H locs h hw => ?_)
    refine lv_if_eq (tgt := 64) hx hb dX7_atTable_57 (by decide) (fun c5 => ?_) (fun c5 => ?_)
    · replace h := h.1 c5
      refine lv_iconst (v := 0) hx hb dX7_atTable_64 (by decide) ?_
      exact b_X7_atTable_65 hM hk_13 v1 v2 v4 0 σ3 _ _ _ h  hc hr hw (lv_sub hl [0, 1, 2, 4] rfl)
    · replace h := h.2 c5
      refine lv_iconst (v := 1) hx hb dX7_atTable_60 (by decide) ?_
      refine lv_goto (tgt := 65) hx hb dX7_atTable_61 (by decide) ?_
      exact b_X7_atTable_65 hM hk_13 v1 v2 v4 1 σ3 _ _ _ h  hc hr hw (lv_sub hl [0, 1, 2, 4] rfl)
def w_X7_atTable_13 (M : Nat) (post : St → Prop) (k_13 : Int32 → Int32 → Int32 → Int32 → St → Prop) (v1 : Int32) (v2 : Int32) (v3 : Int32) (v4 : Int32) (σ : St) : Prop :=
  (v1 < v4 → (post σ)) ∧ (¬ (v1 < v4) → ((¬ v2 = 0) ∧ (((v4 - v4 / v2 * v2) = 0 → (w_X7_strokesOf M (fun σ3 => (w_X7_atTable_43 M post k_13 v1 v2 v3 v4 1 σ3)) 2 σ)) ∧ (¬ ((v4 - v4 / v2 * v2) = 0) → (w_X7_atTable_43 M post k_13 v1 v2 v3 v4 0 σ)))))
set_option maxHeartbeats 4000000 in
set_option maxRecDepth 20000 in
theorem b_X7_atTable_13 {Γ : Gm} {ad : Nat → Nat} {p : Program} {l : Launch} {e : Env} {s : State} {m : MethodId} {args : Array Value} {below : List Frame} {meth : Method} {c : Code} {M : Nat} (hM : 20 ≤ M) {post : St → Prop} {k_13 : Int32 → Int32 → Int32 → Int32 → St → Prop} (hk_13 : ∀ (v1 : Int32) (v2 : Int32) (v3 : Int32) (v4 : Int32) (σ : St) (H : Heap) (locs : List Loc) (ls : Array Slot), k_13 v1 v2 v3 v4 σ → WH Γ YM M ad σ s H locs → lv_has ls 6 [(0, .ref (ad 0)), (1, .int v1), (2, .int v2), (3, .int v3), (4, .int v4)] → W p l e (rmL 5 0 0) s m args below meth c H locs 0 0 (MQ below (va_Qv post (fun u t => WC Γ YM M ad u t) (AA Γ)) args s 0 0 (AA Γ)) (F0 m 13 ls []))
    (v1 : Int32) (v2 : Int32) (v3 : Int32) (v4 : Int32) (σ : St) (H : Heap) (locs : List Loc) (ls : Array Slot) (h : w_X7_atTable_13 M post k_13 v1 v2 v3 v4 σ) (hc : CX Γ p s m args meth c cX7_atTable RX7 6) (hr : meth.sig.returnType = none) (hw : WH Γ YM M ad σ s H locs) (hl : lv_has ls 6 [(0, .ref (ad 0)), (1, .int v1), (2, .int v2), (3, .int v3), (4, .int v4)]) :
    W p l e (rmL 5 0 0) s m args below meth c H locs 0 0 (MQ below (va_Qv post (fun u t => WC Γ YM M ad u t) (AA Γ)) args s 0 0 (AA Γ)) (F0 m 13 ls []) := by
  have hx := hc.1
  have hb := hc.2.1
  unfold w_X7_atTable_13 at h
  refine lv_iload hx hb dX7_atTable_13 (lv_at hl 4 rfl) ?_
  refine lv_iload_n hx hb dX7_atTable_15 rfl (lv_at hl 1 rfl) ?_
  refine lv_icmp_gt (tgt := 90) hx hb dX7_atTable_16 (by decide) (fun c1 => ?_) (fun c1 => ?_)
  · replace h := h.1 c1
    exact g_vret hc hr hw h dX7_atTable_90
  · replace h := h.2 c1
    refine lv_iload hx hb dX7_atTable_19 (lv_at hl 4 rfl) ?_
    refine lv_iload_n hx hb dX7_atTable_21 rfl (lv_at hl 2 rfl) ?_
    refine lv_irem hx hb dX7_atTable_22 h.1 ?_
    replace h := h.2
    refine lv_if_ne (tgt := 30) hx hb dX7_atTable_23 (by decide) (fun c2 => ?_) (fun c2 => ?_)
    · replace h := h.2 c2
      refine lv_iconst (v := 0) hx hb dX7_atTable_30 (by decide) ?_
      refine lv_istore (lv' := [(5, .int 0), (0, .ref (ad 0)), (1, .int v1), (2, .int v2), (3, .int v3), (4, .int v4)]) hx hb dX7_atTable_31 hl (by decide) rfl (fun ls hl => ?_)
      refine lv_iload hx hb dX7_atTable_33 (lv_at hl 0 rfl) ?_
      refine lv_if_eq (tgt := 43) hx hb dX7_atTable_35 (by decide) (fun _ => ?_) (fun c => absurd c (by decide))
      exact b_X7_atTable_43 hM hk_13 v1 v2 v3 v4 0 σ _ _ _ h  hc hr hw (lv_sub hl [1, 2, 3, 4, 5, 0] rfl)
    · replace h := h.1 c2
      refine lv_iconst (v := 1) hx hb dX7_atTable_26 (by decide) ?_
      refine lv_goto (tgt := 31) hx hb dX7_atTable_27 (by decide) ?_
      refine lv_istore (lv' := [(5, .int 1), (0, .ref (ad 0)), (1, .int v1), (2, .int v2), (3, .int v3), (4, .int v4)]) hx hb dX7_atTable_31 hl (by decide) rfl (fun ls hl => ?_)
      refine lv_iload hx hb dX7_atTable_33 (lv_at hl 0 rfl) ?_
      refine lv_if_eq (tgt := 43) hx hb dX7_atTable_35 (by decide) (fun c => absurd c (by decide)) (fun _ => ?_)
      refine lv_aload_n hx hb dX7_atTable_38 rfl (lv_at hl 1 rfl) ?_
      refine lv_iconst (v := 2) hx hb dX7_atTable_39 (by decide) ?_
      refine g_Vv (Y := YM) (ci := 7) (n := 1) (k := 0) (As := [.int 2]) (rest := []) rfl (by decide) vw_X7_237 ⟨Nat.le_of_ble_eq_true rfl, Nat.le_of_ble_eq_true rfl, Nat.zero_le _, Nat.zero_le _⟩ hc hw hl.1 (Nat.lt_of_lt_of_le (by decide) hM) rfl (m_X7_strokesOf l hM 2 σ h) rfl rfl (Nat.le_of_ble_eq_true rfl) dX7_atTable_40 (fun σ3 H locs h hw => ?_)
      exact b_X7_atTable_43 hM hk_13 v1 v2 v3 v4 1 σ3 _ _ _ h  hc hr hw (lv_sub hl [1, 2, 3, 4, 5, 0] rfl)
def wl_X7_atTable_13 (M : Nat) (post : St → Prop) : Nat → Int32 → Int32 → Int32 → Int32 → St → Prop
  | 0, _, _, _, _, _ => False
  | n + 1, v1, v2, v3, v4, σ => w_X7_atTable_13 M post (wl_X7_atTable_13 M post n) v1 v2 v3 v4 σ
set_option maxHeartbeats 4000000 in
theorem bl_X7_atTable_13 {Γ : Gm} {ad : Nat → Nat} {p : Program} {l : Launch} {e : Env} {s : State} {m : MethodId} {args : Array Value} {below : List Frame} {meth : Method} {c : Code} {M : Nat} (hM : 20 ≤ M) {post : St → Prop}
    (hc : CX Γ p s m args meth c cX7_atTable RX7 6) (hr : meth.sig.returnType = none) :
    ∀ (n : Nat) (v1 : Int32) (v2 : Int32) (v3 : Int32) (v4 : Int32) (σ : St) (H : Heap) (locs : List Loc) (ls : Array Slot), wl_X7_atTable_13 M post n v1 v2 v3 v4 σ → WH Γ YM M ad σ s H locs → lv_has ls 6 [(0, .ref (ad 0)), (1, .int v1), (2, .int v2), (3, .int v3), (4, .int v4)] → W p l e (rmL 5 0 0) s m args below meth c H locs 0 0 (MQ below (va_Qv post (fun u t => WC Γ YM M ad u t) (AA Γ)) args s 0 0 (AA Γ)) (F0 m 13 ls []) := by
  intro n
  induction n with
  | zero => intro v1 v2 v3 v4 σ H locs ls h; exact h.elim
  | succ n ih =>
    intro v1 v2 v3 v4 σ H locs ls h  hw hl
    exact b_X7_atTable_13 hM ih v1 v2 v3 v4 σ H locs ls h  hc hr hw hl
def w_X7_atTable (M : Nat) (post : St → Prop) (a1 : Int32) (a2 : Int32) (σ : St) : Prop :=
  ∀ σ1 : St, σ1 = si σ 0 28 0 → (w_X7_holds M (fun r3 σ2 => (∃ n, wl_X7_atTable_13 M post n a1 a2 r3 1 σ2)) σ1)
set_option maxHeartbeats 4000000 in
set_option maxRecDepth 20000 in
theorem m_X7_atTable {Γ : Gm} {ad : Nat → Nat} {M : Nat} (l : Launch) (hM : 20 ≤ M) {post : St → Prop} (a1 : Int32) (a2 : Int32) (σ : St) (h : w_X7_atTable M post a1 a2 σ) : Cv l Γ YM M ad σ yX7_atTable cX7_atTable 6 none 5 0 0 [.ref (ad 0), .int a1, .int a2] post := by
  refine g_start (by decide) (Nat.le_of_ble_eq_true rfl) ?_
  intro p e s m args below meth c ls hc hr hn hl hw
  have hc : CX Γ p s m args meth c cX7_atTable RX7 6 := hc
  have hl : lv_has ls 6 [(0, .ref (ad 0)), (1, .int a1), (2, .int a2)] := hl
  have hx := hc.1
  have hb := hc.2.1
  unfold w_X7_atTable at h
  generalize hHH : s.heap = H0 at hw ⊢
  refine lv_aload_n hx hb dX7_atTable_0 rfl (lv_at hl 0 rfl) ?_
  refine lv_iconst (v := 0) hx hb dX7_atTable_1 (by decide) ?_
  refine fp_X7_293 (o := 0) hc hw (Nat.lt_of_lt_of_le (by decide) hM) rfl dX7_atTable_2 (fun σ1 H locs eσ1 hw => ?_)
  replace h := h σ1 eσ1
  refine lv_aload_n hx hb dX7_atTable_5 rfl (lv_at hl 0 rfl) ?_
  refine g_Vi (Y := YM) (ci := 7) (n := 0) (k := 4) (As := []) (rest := []) rfl (by decide) vw_X7_274 ⟨Nat.le_of_ble_eq_true rfl, Nat.le_of_ble_eq_true rfl, Nat.zero_le _, Nat.zero_le _⟩ hc hw hl.1 (Nat.lt_of_lt_of_le (by decide) hM) rfl (m_X7_holds l hM σ1 h) rfl rfl (Nat.le_of_ble_eq_true rfl) dX7_atTable_6 (fun r3 σ2 H locs h hw => ?_)
  refine lv_istore_n (lv' := [(3, .int r3), (0, .ref (ad 0)), (1, .int a1), (2, .int a2)]) hx hb dX7_atTable_9 rfl hl (by decide) rfl (fun ls hl => ?_)
  refine lv_iconst (v := 1) hx hb dX7_atTable_10 (by decide) ?_
  refine lv_istore (lv' := [(4, .int 1), (3, .int r3), (0, .ref (ad 0)), (1, .int a1), (2, .int a2)]) hx hb dX7_atTable_11 hl (by decide) rfl (fun ls hl => ?_)
  obtain ⟨n, h⟩ := h
  exact bl_X7_atTable_13 hM hc hr n a1 a2 r3 1 σ2 _ _ _ h  hw (lv_sub hl [2, 3, 4, 1, 0] rfl)
def w_X7_judge_20 (M : Nat) (post : Int32 → St → Prop) (k_20 : Int32 → Int32 → St → Prop) (v1 : Int32) (v2 : Int32) (σ : St) : Prop :=
  ((gi σ 0 21) ≤ v2 → (post (-1) σ)) ∧ (¬ ((gi σ 0 21) ≤ v2) → (w_X7_doesAct M (fun σ2 => (w_X7_sortNow M (fun r4 σ3 => ((vp_in ((40 * v1) + v2) 160) ∧ (∀ x5 : Int32, x5 = gi σ3 18 (((40 * v1) + v2).toNatClampNeg) → ((r4 = x5 → (∀ x7 : Int32, x7 = v2 + 1 → (k_20 v1 x7 σ3))) ∧ (¬ (r4 = x5) → (post v2 σ3)))))) σ2)) v2 σ))
set_option maxHeartbeats 4000000 in
set_option maxRecDepth 20000 in
theorem b_X7_judge_20 {Γ : Gm} {ad : Nat → Nat} {p : Program} {l : Launch} {e : Env} {s : State} {m : MethodId} {args : Array Value} {below : List Frame} {meth : Method} {c : Code} {M : Nat} (hM : 20 ≤ M) {post : Int32 → St → Prop} {k_20 : Int32 → Int32 → St → Prop} (hk_20 : ∀ (v1 : Int32) (v2 : Int32) (σ : St) (H : Heap) (locs : List Loc) (ls : Array Slot), k_20 v1 v2 σ → WH Γ YM M ad σ s H locs → lv_has ls 3 [(0, .ref (ad 0)), (1, .int v1), (2, .int v2)] → W p l e (rmL 5 0 0) s m args below meth c H locs 0 0 (MQ below (va_Qi post (fun u t => WC Γ YM M ad u t) (AA Γ)) args s 0 0 (AA Γ)) (F0 m 20 ls []))
    (v1 : Int32) (v2 : Int32) (σ : St) (H : Heap) (locs : List Loc) (ls : Array Slot) (h : w_X7_judge_20 M post k_20 v1 v2 σ) (hc : CX Γ p s m args meth c cX7_judge RX7 3) (hr : meth.sig.returnType = (Option.some Jvm.ClassFile.FieldType.int)) (hw : WH Γ YM M ad σ s H locs) (hl : lv_has ls 3 [(0, .ref (ad 0)), (1, .int v1), (2, .int v2)]) :
    W p l e (rmL 5 0 0) s m args below meth c H locs 0 0 (MQ below (va_Qi post (fun u t => WC Γ YM M ad u t) (AA Γ)) args s 0 0 (AA Γ)) (F0 m 20 ls []) := by
  have hx := hc.1
  have hb := hc.2.1
  unfold w_X7_judge_20 at h
  refine lv_iload_n hx hb dX7_judge_20 rfl (lv_at hl 2 rfl) ?_
  refine lv_aload_n hx hb dX7_judge_21 rfl (lv_at hl 0 rfl) ?_
  refine fg_X7_95 hc hw (Nat.lt_of_lt_of_le (by decide) hM) rfl dX7_judge_22 ?_
  refine lv_icmp_ge (tgt := 59) hx hb dX7_judge_25 (by decide) (fun c1 => ?_) (fun c1 => ?_)
  · replace h := h.1 c1
    refine lv_iconst (v := (-1)) hx hb dX7_judge_59 (by decide) ?_
    exact g_iret hc hr hw h dX7_judge_60
  · replace h := h.2 c1
    refine lv_aload_n hx hb dX7_judge_28 rfl (lv_at hl 0 rfl) ?_
    refine lv_iload_n hx hb dX7_judge_29 rfl (lv_at hl 2 rfl) ?_
    refine g_Vv (Y := YM) (ci := 7) (n := 1) (k := 4) (As := [.int v2]) (rest := []) rfl (by decide) vw_X7_251 ⟨Nat.le_of_ble_eq_true rfl, Nat.le_of_ble_eq_true rfl, Nat.zero_le _, Nat.zero_le _⟩ hc hw hl.1 (Nat.lt_of_lt_of_le (by decide) hM) rfl (m_X7_doesAct l hM v2 σ h) rfl rfl (Nat.le_of_ble_eq_true rfl) dX7_judge_30 (fun σ2 H locs h hw => ?_)
    refine lv_aload_n hx hb dX7_judge_33 rfl (lv_at hl 0 rfl) ?_
    refine g_Vi (Y := YM) (ci := 7) (n := 0) (k := 3) (As := []) (rest := []) rfl (by decide) vw_X7_260 ⟨Nat.le_of_ble_eq_true rfl, Nat.le_of_ble_eq_true rfl, Nat.zero_le _, Nat.zero_le _⟩ hc hw hl.1 (Nat.lt_of_lt_of_le (by decide) hM) rfl (m_X7_sortNow l hM σ2 h) rfl rfl (Nat.le_of_ble_eq_true rfl) dX7_judge_34 (fun r4 σ3 H locs h hw => ?_)
    refine lv_aload_n hx hb dX7_judge_37 rfl (lv_at hl 0 rfl) ?_
    refine fg_X7_62 hc hw (Nat.lt_of_lt_of_le (by decide) hM) rfl dX7_judge_38 ?_
    refine lv_bipush (v := 40) hx hb dX7_judge_41 (by decide) ?_
    refine lv_iload_n hx hb dX7_judge_43 rfl (lv_at hl 1 rfl) ?_
    refine lv_imul hx hb dX7_judge_44 ?_
    refine lv_iload_n hx hb dX7_judge_45 rfl (lv_at hl 2 rfl) ?_
    refine lv_iadd hx hb dX7_judge_46 ?_
    refine g_ialdK (Y := YM) (kd := 38) (n := 160) (k := ((40 * v1) + v2).toNatClampNeg) (o := 18) (by decide) (by decide) rfl hc hw (Nat.lt_of_lt_of_le (by decide) hM) rfl rfl h.1 rfl dX7_judge_47 ?_
    replace h := h.2
    refine lv_topi (fun x5 ex5 => ?_)
    replace h := h x5 ex5
    refine lv_icmp_eq (tgt := 53) hx hb dX7_judge_48 (by decide) (fun c6 => ?_) (fun c6 => ?_)
    · replace h := h.1 c6
      obtain ⟨x7, ex7⟩ : ∃ z, z = v2 + 1 := ⟨_, rfl⟩
      replace h := h x7 ex7
      refine lv_iinc (v := x7) (lv' := [(2, .int x7), (0, .ref (ad 0)), (1, .int v1)]) hx hb dX7_judge_53 hl (k := 2) rfl (by rw [ex7]; rfl) (by decide) rfl (fun ls hl => ?_)
      refine lv_goto (tgt := 20) hx hb dX7_judge_56 (by decide) ?_
      exact hk_20 v1 x7 σ3 _ _ _ h  hw (lv_sub hl [1, 2, 0] rfl)
    · replace h := h.2 c6
      refine lv_iload_n hx hb dX7_judge_51 rfl (lv_at hl 2 rfl) ?_
      exact g_iret hc hr hw h dX7_judge_52
def wl_X7_judge_20 (M : Nat) (post : Int32 → St → Prop) : Nat → Int32 → Int32 → St → Prop
  | 0, _, _, _ => False
  | n + 1, v1, v2, σ => w_X7_judge_20 M post (wl_X7_judge_20 M post n) v1 v2 σ
set_option maxHeartbeats 4000000 in
theorem bl_X7_judge_20 {Γ : Gm} {ad : Nat → Nat} {p : Program} {l : Launch} {e : Env} {s : State} {m : MethodId} {args : Array Value} {below : List Frame} {meth : Method} {c : Code} {M : Nat} (hM : 20 ≤ M) {post : Int32 → St → Prop}
    (hc : CX Γ p s m args meth c cX7_judge RX7 3) (hr : meth.sig.returnType = (Option.some Jvm.ClassFile.FieldType.int)) :
    ∀ (n : Nat) (v1 : Int32) (v2 : Int32) (σ : St) (H : Heap) (locs : List Loc) (ls : Array Slot), wl_X7_judge_20 M post n v1 v2 σ → WH Γ YM M ad σ s H locs → lv_has ls 3 [(0, .ref (ad 0)), (1, .int v1), (2, .int v2)] → W p l e (rmL 5 0 0) s m args below meth c H locs 0 0 (MQ below (va_Qi post (fun u t => WC Γ YM M ad u t) (AA Γ)) args s 0 0 (AA Γ)) (F0 m 20 ls []) := by
  intro n
  induction n with
  | zero => intro v1 v2 σ H locs ls h; exact h.elim
  | succ n ih =>
    intro v1 v2 σ H locs ls h  hw hl
    exact b_X7_judge_20 hM ih v1 v2 σ H locs ls h  hc hr hw hl
def w_X7_judge (M : Nat) (post : Int32 → St → Prop) (a1 : Int32) (σ : St) : Prop :=
  w_X7_refuses M (fun r2 σ1 => ((0 ≤ r2 → (w_X7_begins M (fun σ4 => (∃ n, wl_X7_judge_20 M post n a1 0 σ4)) σ1)) ∧ (¬ (0 ≤ r2) → (w_X7_refuses M (fun r6 σ5 => (post r6 σ5)) a1 σ1)))) a1 σ
set_option maxHeartbeats 4000000 in
set_option maxRecDepth 20000 in
theorem m_X7_judge {Γ : Gm} {ad : Nat → Nat} {M : Nat} (l : Launch) (hM : 20 ≤ M) {post : Int32 → St → Prop} (a1 : Int32) (σ : St) (h : w_X7_judge M post a1 σ) : Ci l Γ YM M ad σ yX7_judge cX7_judge 3 (Option.some Jvm.ClassFile.FieldType.int) 5 0 0 [.ref (ad 0), .int a1] post := by
  refine g_start (by decide) (Nat.le_of_ble_eq_true rfl) ?_
  intro p e s m args below meth c ls hc hr hn hl hw
  have hc : CX Γ p s m args meth c cX7_judge RX7 3 := hc
  have hl : lv_has ls 3 [(0, .ref (ad 0)), (1, .int a1)] := hl
  have hx := hc.1
  have hb := hc.2.1
  unfold w_X7_judge at h
  generalize hHH : s.heap = H0 at hw ⊢
  refine lv_aload_n hx hb dX7_judge_0 rfl (lv_at hl 0 rfl) ?_
  refine lv_iload_n hx hb dX7_judge_1 rfl (lv_at hl 1 rfl) ?_
  refine g_Vi (Y := YM) (ci := 7) (n := 1) (k := 2) (As := [.int a1]) (rest := []) rfl (by decide) vw_X7_308 ⟨Nat.le_of_ble_eq_true rfl, Nat.le_of_ble_eq_true rfl, Nat.zero_le _, Nat.zero_le _⟩ hc hw hl.1 (Nat.lt_of_lt_of_le (by decide) hM) rfl (m_X7_refuses l hM a1 σ h) rfl rfl (Nat.le_of_ble_eq_true rfl) dX7_judge_2 (fun r2 σ1 H locs h hw => ?_)
  refine lv_if_ge (tgt := 14) hx hb dX7_judge_5 (by decide) (fun c3 => ?_) (fun c3 => ?_)
  · replace h := h.1 c3
    refine lv_aload_n hx hb dX7_judge_14 rfl (lv_at hl 0 rfl) ?_
    refine g_Vv (Y := YM) (ci := 7) (n := 0) (k := 0) (As := []) (rest := []) rfl (by decide) vw_X7_248 ⟨Nat.le_of_ble_eq_true rfl, Nat.le_of_ble_eq_true rfl, Nat.zero_le _, Nat.zero_le _⟩ hc hw hl.1 (Nat.lt_of_lt_of_le (by decide) hM) rfl (m_X7_begins l hM σ1 h) rfl rfl (Nat.le_of_ble_eq_true rfl) dX7_judge_15 (fun σ4 H locs h hw => ?_)
    refine lv_iconst (v := 0) hx hb dX7_judge_18 (by decide) ?_
    refine lv_istore_n (lv' := [(2, .int 0), (0, .ref (ad 0)), (1, .int a1)]) hx hb dX7_judge_19 rfl hl (by decide) rfl (fun ls hl => ?_)
    obtain ⟨n, h⟩ := h
    exact bl_X7_judge_20 hM hc hr n a1 0 σ4 _ _ _ h  hw (lv_sub hl [1, 2, 0] rfl)
  · replace h := h.2 c3
    refine lv_aload_n hx hb dX7_judge_8 rfl (lv_at hl 0 rfl) ?_
    refine lv_iload_n hx hb dX7_judge_9 rfl (lv_at hl 1 rfl) ?_
    refine g_Vi (Y := YM) (ci := 7) (n := 1) (k := 2) (As := [.int a1]) (rest := []) rfl (by decide) vw_X7_308 ⟨Nat.le_of_ble_eq_true rfl, Nat.le_of_ble_eq_true rfl, Nat.zero_le _, Nat.zero_le _⟩ hc hw hl.1 (Nat.lt_of_lt_of_le (by decide) hM) rfl (m_X7_refuses l hM a1 σ1 h) rfl rfl (Nat.le_of_ble_eq_true rfl) dX7_judge_10 (fun r6 σ5 H locs h hw => ?_)
    exact g_iret hc hr hw h dX7_judge_13
def w_X7_film_27 (M : Nat) (post : Int32 → St → Prop) (k_27 : Int32 → Int32 → St → Prop) (v1 : Int32) (v3 : Int32) (σ : St) : Prop :=
  ((gi σ 0 21) ≤ v3 → (post (gi σ 0 21) σ)) ∧ (¬ ((gi σ 0 21) ≤ v3) → (w_X7_doesAct M (fun σ2 => ((vp_in ((40 * v1) + v3) 160) ∧ (∀ σ3 : St, σ3 = si σ2 18 (((40 * v1) + v3).toNatClampNeg) (gi σ2 13 4) → (∀ x4 : Int32, x4 = v3 + 1 → (k_27 v1 x4 σ3))))) v3 σ))
set_option maxHeartbeats 4000000 in
set_option maxRecDepth 20000 in
theorem b_X7_film_27 {Γ : Gm} {ad : Nat → Nat} {p : Program} {l : Launch} {e : Env} {s : State} {m : MethodId} {args : Array Value} {below : List Frame} {meth : Method} {c : Code} {M : Nat} (hM : 20 ≤ M) {post : Int32 → St → Prop} {k_27 : Int32 → Int32 → St → Prop} (hk_27 : ∀ (v1 : Int32) (v3 : Int32) (σ : St) (H : Heap) (locs : List Loc) (ls : Array Slot), k_27 v1 v3 σ → WH Γ YM M ad σ s H locs → lv_has ls 4 [(0, .ref (ad 0)), (1, .int v1), (3, .int v3)] → W p l e (rmL 5 0 0) s m args below meth c H locs 0 0 (MQ below (va_Qi post (fun u t => WC Γ YM M ad u t) (AA Γ)) args s 0 0 (AA Γ)) (F0 m 27 ls []))
    (v1 : Int32) (v3 : Int32) (σ : St) (H : Heap) (locs : List Loc) (ls : Array Slot) (h : w_X7_film_27 M post k_27 v1 v3 σ) (hc : CX Γ p s m args meth c cX7_film RX7 4) (hr : meth.sig.returnType = (Option.some Jvm.ClassFile.FieldType.int)) (hw : WH Γ YM M ad σ s H locs) (hl : lv_has ls 4 [(0, .ref (ad 0)), (1, .int v1), (3, .int v3)]) :
    W p l e (rmL 5 0 0) s m args below meth c H locs 0 0 (MQ below (va_Qi post (fun u t => WC Γ YM M ad u t) (AA Γ)) args s 0 0 (AA Γ)) (F0 m 27 ls []) := by
  have hx := hc.1
  have hb := hc.2.1
  unfold w_X7_film_27 at h
  refine lv_iload_n hx hb dX7_film_27 rfl (lv_at hl 2 rfl) ?_
  refine lv_aload_n hx hb dX7_film_28 rfl (lv_at hl 0 rfl) ?_
  refine fg_X7_95 hc hw (Nat.lt_of_lt_of_le (by decide) hM) rfl dX7_film_29 ?_
  refine lv_icmp_ge (tgt := 63) hx hb dX7_film_32 (by decide) (fun c1 => ?_) (fun c1 => ?_)
  · replace h := h.1 c1
    refine lv_aload_n hx hb dX7_film_63 rfl (lv_at hl 0 rfl) ?_
    refine fg_X7_95 hc hw (Nat.lt_of_lt_of_le (by decide) hM) rfl dX7_film_64 ?_
    exact g_iret hc hr hw h dX7_film_67
  · replace h := h.2 c1
    refine lv_aload_n hx hb dX7_film_35 rfl (lv_at hl 0 rfl) ?_
    refine lv_iload_n hx hb dX7_film_36 rfl (lv_at hl 2 rfl) ?_
    refine g_Vv (Y := YM) (ci := 7) (n := 1) (k := 4) (As := [.int v3]) (rest := []) rfl (by decide) vw_X7_251 ⟨Nat.le_of_ble_eq_true rfl, Nat.le_of_ble_eq_true rfl, Nat.zero_le _, Nat.zero_le _⟩ hc hw hl.1 (Nat.lt_of_lt_of_le (by decide) hM) rfl (m_X7_doesAct l hM v3 σ h) rfl rfl (Nat.le_of_ble_eq_true rfl) dX7_film_37 (fun σ2 H locs h hw => ?_)
    refine lv_aload_n hx hb dX7_film_40 rfl (lv_at hl 0 rfl) ?_
    refine fg_X7_62 hc hw (Nat.lt_of_lt_of_le (by decide) hM) rfl dX7_film_41 ?_
    refine lv_bipush (v := 40) hx hb dX7_film_44 (by decide) ?_
    refine lv_iload_n hx hb dX7_film_46 rfl (lv_at hl 1 rfl) ?_
    refine lv_imul hx hb dX7_film_47 ?_
    refine lv_iload_n hx hb dX7_film_48 rfl (lv_at hl 2 rfl) ?_
    refine lv_iadd hx hb dX7_film_49 ?_
    refine lv_aload_n hx hb dX7_film_50 rfl (lv_at hl 0 rfl) ?_
    refine fg_X7_47 hc hw (Nat.lt_of_lt_of_le (by decide) hM) rfl dX7_film_51 ?_
    refine lv_iconst (v := 4) hx hb dX7_film_54 (by decide) ?_
    refine g_ialdK (Y := YM) (kd := 33) (n := 14) (k := 4) (o := 13) (by decide) (by decide) rfl hc hw (Nat.lt_of_lt_of_le (by decide) hM) rfl rfl (vp_in_lit (by decide)) (by decide) dX7_film_55 ?_
    have hin := h.1
    replace h := h.2
    refine g_iastK (Y := YM) (kd := 38) (n := 160) (k := ((40 * v1) + v3).toNatClampNeg) (o := 18) YM_ok (by decide) (by decide) rfl hc hw (Nat.lt_of_lt_of_le (by decide) hM) rfl rfl hin rfl dX7_film_56 (fun σ3 H locs eσ3 hw => ?_)
    replace h := h σ3 eσ3
    obtain ⟨x4, ex4⟩ : ∃ z, z = v3 + 1 := ⟨_, rfl⟩
    replace h := h x4 ex4
    refine lv_iinc (v := x4) (lv' := [(3, .int x4), (0, .ref (ad 0)), (1, .int v1)]) hx hb dX7_film_57 hl (k := 2) rfl (by rw [ex4]; rfl) (by decide) rfl (fun ls hl => ?_)
    refine lv_goto (tgt := 27) hx hb dX7_film_60 (by decide) ?_
    exact hk_27 v1 x4 σ3 _ _ _ h  hw (lv_sub hl [1, 2, 0] rfl)
def wl_X7_film_27 (M : Nat) (post : Int32 → St → Prop) : Nat → Int32 → Int32 → St → Prop
  | 0, _, _, _ => False
  | n + 1, v1, v3, σ => w_X7_film_27 M post (wl_X7_film_27 M post n) v1 v3 σ
set_option maxHeartbeats 4000000 in
theorem bl_X7_film_27 {Γ : Gm} {ad : Nat → Nat} {p : Program} {l : Launch} {e : Env} {s : State} {m : MethodId} {args : Array Value} {below : List Frame} {meth : Method} {c : Code} {M : Nat} (hM : 20 ≤ M) {post : Int32 → St → Prop}
    (hc : CX Γ p s m args meth c cX7_film RX7 4) (hr : meth.sig.returnType = (Option.some Jvm.ClassFile.FieldType.int)) :
    ∀ (n : Nat) (v1 : Int32) (v3 : Int32) (σ : St) (H : Heap) (locs : List Loc) (ls : Array Slot), wl_X7_film_27 M post n v1 v3 σ → WH Γ YM M ad σ s H locs → lv_has ls 4 [(0, .ref (ad 0)), (1, .int v1), (3, .int v3)] → W p l e (rmL 5 0 0) s m args below meth c H locs 0 0 (MQ below (va_Qi post (fun u t => WC Γ YM M ad u t) (AA Γ)) args s 0 0 (AA Γ)) (F0 m 27 ls []) := by
  intro n
  induction n with
  | zero => intro v1 v3 σ H locs ls h; exact h.elim
  | succ n ih =>
    intro v1 v3 σ H locs ls h  hw hl
    exact b_X7_film_27 hM ih v1 v3 σ H locs ls h  hc hr hw hl
def w_X7_film (M : Nat) (post : Int32 → St → Prop) (a1 : Int32) (σ : St) : Prop :=
  w_X7_isSheet M (fun r2 σ1 => ((r2 = 0 → (post (-2) σ1)) ∧ (¬ (r2 = 0) → (w_X7_sheet M (fun r5 σ4 => (w_X7_begins M (fun σ6 => (∃ n, wl_X7_film_27 M post n a1 0 σ6)) σ4)) a1 2 (gi σ1 0 21) σ1)))) a1 σ
set_option maxHeartbeats 4000000 in
set_option maxRecDepth 20000 in
theorem m_X7_film {Γ : Gm} {ad : Nat → Nat} {M : Nat} (l : Launch) (hM : 20 ≤ M) {post : Int32 → St → Prop} (a1 : Int32) (σ : St) (h : w_X7_film M post a1 σ) : Ci l Γ YM M ad σ yX7_film cX7_film 4 (Option.some Jvm.ClassFile.FieldType.int) 5 0 0 [.ref (ad 0), .int a1] post := by
  refine g_start (by decide) (Nat.le_of_ble_eq_true rfl) ?_
  intro p e s m args below meth c ls hc hr hn hl hw
  have hc : CX Γ p s m args meth c cX7_film RX7 4 := hc
  have hl : lv_has ls 4 [(0, .ref (ad 0)), (1, .int a1)] := hl
  have hx := hc.1
  have hb := hc.2.1
  unfold w_X7_film at h
  generalize hHH : s.heap = H0 at hw ⊢
  refine lv_iload_n hx hb dX7_film_0 rfl (lv_at hl 1 rfl) ?_
  refine g_Si (Y := YM) (n := 1) (k := 1) (As := [.int a1]) (rest := []) vw_X7_305 ⟨Nat.le_of_ble_eq_true rfl, Nat.le_of_ble_eq_true rfl, Nat.zero_le _, Nat.zero_le _⟩ hc hw hl.1 (m_X7_isSheet l hM a1 σ h) rfl rfl (Nat.le_of_ble_eq_true rfl) dX7_film_1 (fun r2 σ1 H locs h hw => ?_)
  refine lv_if_ne (tgt := 10) hx hb dX7_film_4 (by decide) (fun c3 => ?_) (fun c3 => ?_)
  · replace h := h.2 c3
    refine lv_aload_n hx hb dX7_film_10 rfl (lv_at hl 0 rfl) ?_
    refine lv_iload_n hx hb dX7_film_11 rfl (lv_at hl 1 rfl) ?_
    refine lv_iconst (v := 2) hx hb dX7_film_12 (by decide) ?_
    refine lv_aload_n hx hb dX7_film_13 rfl (lv_at hl 0 rfl) ?_
    refine fg_X7_95 hc hw (Nat.lt_of_lt_of_le (by decide) hM) rfl dX7_film_14 ?_
    refine g_Vi (Y := YM) (ci := 7) (n := 3) (k := 2) (As := [.int a1, .int 2, .int (gi σ1 0 21)]) (rest := []) rfl (by decide) vw_X7_311 ⟨Nat.le_of_ble_eq_true rfl, Nat.le_of_ble_eq_true rfl, Nat.zero_le _, Nat.zero_le _⟩ hc hw hl.1 (Nat.lt_of_lt_of_le (by decide) hM) rfl (m_X7_sheet l hM a1 2 (gi σ1 0 21) σ1 h) rfl rfl (Nat.le_of_ble_eq_true rfl) dX7_film_17 (fun r5 σ4 H locs h hw => ?_)
    refine lv_istore_n (lv' := [(2, .int r5), (0, .ref (ad 0)), (1, .int a1)]) hx hb dX7_film_20 rfl hl (by decide) rfl (fun ls hl => ?_)
    refine lv_aload_n hx hb dX7_film_21 rfl (lv_at hl 1 rfl) ?_
    refine g_Vv (Y := YM) (ci := 7) (n := 0) (k := 0) (As := []) (rest := []) rfl (by decide) vw_X7_248 ⟨Nat.le_of_ble_eq_true rfl, Nat.le_of_ble_eq_true rfl, Nat.zero_le _, Nat.zero_le _⟩ hc hw hl.1 (Nat.lt_of_lt_of_le (by decide) hM) rfl (m_X7_begins l hM σ4 h) rfl rfl (Nat.le_of_ble_eq_true rfl) dX7_film_22 (fun σ6 H locs h hw => ?_)
    refine lv_iconst (v := 0) hx hb dX7_film_25 (by decide) ?_
    refine lv_istore_n (lv' := [(3, .int 0), (2, .int r5), (0, .ref (ad 0)), (1, .int a1)]) hx hb dX7_film_26 rfl hl (by decide) rfl (fun ls hl => ?_)
    obtain ⟨n, h⟩ := h
    exact bl_X7_film_27 hM hc hr n a1 0 σ6 _ _ _ h  hw (lv_sub hl [2, 3, 0] rfl)
  · replace h := h.1 c3
    refine lv_bipush (v := (-2)) hx hb dX7_film_7 (by decide) ?_
    exact g_iret hc hr hw h dX7_film_9
def w_X7_isFilm_6 (M : Nat) (post : Int32 → St → Prop) (k_6 : Int32 → Int32 → St → Prop) (v1 : Int32) (v2 : Int32) (σ : St) : Prop :=
  ((gi σ 0 21) ≤ v2 → (post 1 σ)) ∧ (¬ ((gi σ 0 21) ≤ v2) → (w_X7_doesAct M (fun σ2 => ((vp_in ((40 * v1) + v2) 160) ∧ (∀ x3 : Int32, x3 = gi σ2 18 (((40 * v1) + v2).toNatClampNeg) → (((gi σ2 13 4) = x3 → (∀ x5 : Int32, x5 = v2 + 1 → (k_6 v1 x5 σ2))) ∧ (¬ ((gi σ2 13 4) = x3) → (post 0 σ2)))))) v2 σ))
set_option maxHeartbeats 4000000 in
set_option maxRecDepth 20000 in
theorem b_X7_isFilm_6 {Γ : Gm} {ad : Nat → Nat} {p : Program} {l : Launch} {e : Env} {s : State} {m : MethodId} {args : Array Value} {below : List Frame} {meth : Method} {c : Code} {M : Nat} (hM : 20 ≤ M) {post : Int32 → St → Prop} {k_6 : Int32 → Int32 → St → Prop} (hk_6 : ∀ (v1 : Int32) (v2 : Int32) (σ : St) (H : Heap) (locs : List Loc) (ls : Array Slot), k_6 v1 v2 σ → WH Γ YM M ad σ s H locs → lv_has ls 3 [(0, .ref (ad 0)), (1, .int v1), (2, .int v2)] → W p l e (rmL 5 0 0) s m args below meth c H locs 0 0 (MQ below (va_Qi post (fun u t => WC Γ YM M ad u t) (AA Γ)) args s 0 0 (AA Γ)) (F0 m 6 ls []))
    (v1 : Int32) (v2 : Int32) (σ : St) (H : Heap) (locs : List Loc) (ls : Array Slot) (h : w_X7_isFilm_6 M post k_6 v1 v2 σ) (hc : CX Γ p s m args meth c cX7_isFilm RX7 3) (hr : meth.sig.returnType = (Option.some Jvm.ClassFile.FieldType.boolean)) (hw : WH Γ YM M ad σ s H locs) (hl : lv_has ls 3 [(0, .ref (ad 0)), (1, .int v1), (2, .int v2)]) :
    W p l e (rmL 5 0 0) s m args below meth c H locs 0 0 (MQ below (va_Qi post (fun u t => WC Γ YM M ad u t) (AA Γ)) args s 0 0 (AA Γ)) (F0 m 6 ls []) := by
  have hx := hc.1
  have hb := hc.2.1
  unfold w_X7_isFilm_6 at h
  refine lv_iload_n hx hb dX7_isFilm_6 rfl (lv_at hl 2 rfl) ?_
  refine lv_aload_n hx hb dX7_isFilm_7 rfl (lv_at hl 0 rfl) ?_
  refine fg_X7_95 hc hw (Nat.lt_of_lt_of_le (by decide) hM) rfl dX7_isFilm_8 ?_
  refine lv_icmp_ge (tgt := 47) hx hb dX7_isFilm_11 (by decide) (fun c1 => ?_) (fun c1 => ?_)
  · replace h := h.1 c1
    refine lv_iconst (v := 1) hx hb dX7_isFilm_47 (by decide) ?_
    exact g_zret hc hr hw rfl h dX7_isFilm_48
  · replace h := h.2 c1
    refine lv_aload_n hx hb dX7_isFilm_14 rfl (lv_at hl 0 rfl) ?_
    refine lv_iload_n hx hb dX7_isFilm_15 rfl (lv_at hl 2 rfl) ?_
    refine g_Vv (Y := YM) (ci := 7) (n := 1) (k := 4) (As := [.int v2]) (rest := []) rfl (by decide) vw_X7_251 ⟨Nat.le_of_ble_eq_true rfl, Nat.le_of_ble_eq_true rfl, Nat.zero_le _, Nat.zero_le _⟩ hc hw hl.1 (Nat.lt_of_lt_of_le (by decide) hM) rfl (m_X7_doesAct l hM v2 σ h) rfl rfl (Nat.le_of_ble_eq_true rfl) dX7_isFilm_16 (fun σ2 H locs h hw => ?_)
    refine lv_aload_n hx hb dX7_isFilm_19 rfl (lv_at hl 0 rfl) ?_
    refine fg_X7_47 hc hw (Nat.lt_of_lt_of_le (by decide) hM) rfl dX7_isFilm_20 ?_
    refine lv_iconst (v := 4) hx hb dX7_isFilm_23 (by decide) ?_
    refine g_ialdK (Y := YM) (kd := 33) (n := 14) (k := 4) (o := 13) (by decide) (by decide) rfl hc hw (Nat.lt_of_lt_of_le (by decide) hM) rfl rfl (vp_in_lit (by decide)) (by decide) dX7_isFilm_24 ?_
    refine lv_aload_n hx hb dX7_isFilm_25 rfl (lv_at hl 0 rfl) ?_
    refine fg_X7_62 hc hw (Nat.lt_of_lt_of_le (by decide) hM) rfl dX7_isFilm_26 ?_
    refine lv_bipush (v := 40) hx hb dX7_isFilm_29 (by decide) ?_
    refine lv_iload_n hx hb dX7_isFilm_31 rfl (lv_at hl 1 rfl) ?_
    refine lv_imul hx hb dX7_isFilm_32 ?_
    refine lv_iload_n hx hb dX7_isFilm_33 rfl (lv_at hl 2 rfl) ?_
    refine lv_iadd hx hb dX7_isFilm_34 ?_
    refine g_ialdK (Y := YM) (kd := 38) (n := 160) (k := ((40 * v1) + v2).toNatClampNeg) (o := 18) (by decide) (by decide) rfl hc hw (Nat.lt_of_lt_of_le (by decide) hM) rfl rfl h.1 rfl dX7_isFilm_35 ?_
    replace h := h.2
    refine lv_topi (fun x3 ex3 => ?_)
    replace h := h x3 ex3
    refine lv_icmp_eq (tgt := 41) hx hb dX7_isFilm_36 (by decide) (fun c4 => ?_) (fun c4 => ?_)
    · replace h := h.1 c4
      obtain ⟨x5, ex5⟩ : ∃ z, z = v2 + 1 := ⟨_, rfl⟩
      replace h := h x5 ex5
      refine lv_iinc (v := x5) (lv' := [(2, .int x5), (0, .ref (ad 0)), (1, .int v1)]) hx hb dX7_isFilm_41 hl (k := 2) rfl (by rw [ex5]; rfl) (by decide) rfl (fun ls hl => ?_)
      refine lv_goto (tgt := 6) hx hb dX7_isFilm_44 (by decide) ?_
      exact hk_6 v1 x5 σ2 _ _ _ h  hw (lv_sub hl [1, 2, 0] rfl)
    · replace h := h.2 c4
      refine lv_iconst (v := 0) hx hb dX7_isFilm_39 (by decide) ?_
      exact g_zret hc hr hw rfl h dX7_isFilm_40
def wl_X7_isFilm_6 (M : Nat) (post : Int32 → St → Prop) : Nat → Int32 → Int32 → St → Prop
  | 0, _, _, _ => False
  | n + 1, v1, v2, σ => w_X7_isFilm_6 M post (wl_X7_isFilm_6 M post n) v1 v2 σ
set_option maxHeartbeats 4000000 in
theorem bl_X7_isFilm_6 {Γ : Gm} {ad : Nat → Nat} {p : Program} {l : Launch} {e : Env} {s : State} {m : MethodId} {args : Array Value} {below : List Frame} {meth : Method} {c : Code} {M : Nat} (hM : 20 ≤ M) {post : Int32 → St → Prop}
    (hc : CX Γ p s m args meth c cX7_isFilm RX7 3) (hr : meth.sig.returnType = (Option.some Jvm.ClassFile.FieldType.boolean)) :
    ∀ (n : Nat) (v1 : Int32) (v2 : Int32) (σ : St) (H : Heap) (locs : List Loc) (ls : Array Slot), wl_X7_isFilm_6 M post n v1 v2 σ → WH Γ YM M ad σ s H locs → lv_has ls 3 [(0, .ref (ad 0)), (1, .int v1), (2, .int v2)] → W p l e (rmL 5 0 0) s m args below meth c H locs 0 0 (MQ below (va_Qi post (fun u t => WC Γ YM M ad u t) (AA Γ)) args s 0 0 (AA Γ)) (F0 m 6 ls []) := by
  intro n
  induction n with
  | zero => intro v1 v2 σ H locs ls h; exact h.elim
  | succ n ih =>
    intro v1 v2 σ H locs ls h  hw hl
    exact b_X7_isFilm_6 hM ih v1 v2 σ H locs ls h  hc hr hw hl
def w_X7_isFilm (M : Nat) (post : Int32 → St → Prop) (a1 : Int32) (σ : St) : Prop :=
  w_X7_begins M (fun σ1 => (∃ n, wl_X7_isFilm_6 M post n a1 0 σ1)) σ
set_option maxHeartbeats 4000000 in
set_option maxRecDepth 20000 in
theorem m_X7_isFilm {Γ : Gm} {ad : Nat → Nat} {M : Nat} (l : Launch) (hM : 20 ≤ M) {post : Int32 → St → Prop} (a1 : Int32) (σ : St) (h : w_X7_isFilm M post a1 σ) : Ci l Γ YM M ad σ yX7_isFilm cX7_isFilm 3 (Option.some Jvm.ClassFile.FieldType.boolean) 5 0 0 [.ref (ad 0), .int a1] post := by
  refine g_start (by decide) (Nat.le_of_ble_eq_true rfl) ?_
  intro p e s m args below meth c ls hc hr hn hl hw
  have hc : CX Γ p s m args meth c cX7_isFilm RX7 3 := hc
  have hl : lv_has ls 3 [(0, .ref (ad 0)), (1, .int a1)] := hl
  have hx := hc.1
  have hb := hc.2.1
  unfold w_X7_isFilm at h
  generalize hHH : s.heap = H0 at hw ⊢
  refine lv_aload_n hx hb dX7_isFilm_0 rfl (lv_at hl 0 rfl) ?_
  refine g_Vv (Y := YM) (ci := 7) (n := 0) (k := 0) (As := []) (rest := []) rfl (by decide) vw_X7_248 ⟨Nat.le_of_ble_eq_true rfl, Nat.le_of_ble_eq_true rfl, Nat.zero_le _, Nat.zero_le _⟩ hc hw hl.1 (Nat.lt_of_lt_of_le (by decide) hM) rfl (m_X7_begins l hM σ h) rfl rfl (Nat.le_of_ble_eq_true rfl) dX7_isFilm_1 (fun σ1 H locs h hw => ?_)
  refine lv_iconst (v := 0) hx hb dX7_isFilm_4 (by decide) ?_
  refine lv_istore_n (lv' := [(2, .int 0), (0, .ref (ad 0)), (1, .int a1)]) hx hb dX7_isFilm_5 rfl hl (by decide) rfl (fun ls hl => ?_)
  obtain ⟨n, h⟩ := h
  exact bl_X7_isFilm_6 hM hc hr n a1 0 σ1 _ _ _ h  hw (lv_sub hl [1, 2, 0] rfl)
def w_X7_goesDrawn_27 (M : Nat) (post : St → Prop) (k_27 : Int32 → Int32 → St → Prop) (v1 : Int32) (v3 : Int32) (σ : St) : Prop :=
  (v1 ≤ v3 → (post σ)) ∧ (¬ (v1 ≤ v3) → (w_X7_doesAct M (fun σ2 => (∀ x3 : Int32, x3 = v3 + 1 → (k_27 v1 x3 σ2))) v3 σ))
set_option maxHeartbeats 4000000 in
set_option maxRecDepth 20000 in
theorem b_X7_goesDrawn_27 {Γ : Gm} {ad : Nat → Nat} {p : Program} {l : Launch} {e : Env} {s : State} {m : MethodId} {args : Array Value} {below : List Frame} {meth : Method} {c : Code} {M : Nat} (hM : 20 ≤ M) {post : St → Prop} {k_27 : Int32 → Int32 → St → Prop} (hk_27 : ∀ (v1 : Int32) (v3 : Int32) (σ : St) (H : Heap) (locs : List Loc) (ls : Array Slot), k_27 v1 v3 σ → WH Γ YM M ad σ s H locs → lv_has ls 4 [(0, .ref (ad 0)), (1, .int v1), (3, .int v3)] → W p l e (rmL 5 0 0) s m args below meth c H locs 0 0 (MQ below (va_Qv post (fun u t => WC Γ YM M ad u t) (AA Γ)) args s 0 0 (AA Γ)) (F0 m 27 ls []))
    (v1 : Int32) (v3 : Int32) (σ : St) (H : Heap) (locs : List Loc) (ls : Array Slot) (h : w_X7_goesDrawn_27 M post k_27 v1 v3 σ) (hc : CX Γ p s m args meth c cX7_goesDrawn RX7 4) (hr : meth.sig.returnType = none) (hw : WH Γ YM M ad σ s H locs) (hl : lv_has ls 4 [(0, .ref (ad 0)), (1, .int v1), (3, .int v3)]) :
    W p l e (rmL 5 0 0) s m args below meth c H locs 0 0 (MQ below (va_Qv post (fun u t => WC Γ YM M ad u t) (AA Γ)) args s 0 0 (AA Γ)) (F0 m 27 ls []) := by
  have hx := hc.1
  have hb := hc.2.1
  unfold w_X7_goesDrawn_27 at h
  refine lv_iload_n hx hb dX7_goesDrawn_27 rfl (lv_at hl 2 rfl) ?_
  refine lv_iload_n hx hb dX7_goesDrawn_28 rfl (lv_at hl 1 rfl) ?_
  refine lv_icmp_ge (tgt := 43) hx hb dX7_goesDrawn_29 (by decide) (fun c1 => ?_) (fun c1 => ?_)
  · replace h := h.1 c1
    exact g_vret hc hr hw h dX7_goesDrawn_43
  · replace h := h.2 c1
    refine lv_aload_n hx hb dX7_goesDrawn_32 rfl (lv_at hl 0 rfl) ?_
    refine lv_iload_n hx hb dX7_goesDrawn_33 rfl (lv_at hl 2 rfl) ?_
    refine g_Vv (Y := YM) (ci := 7) (n := 1) (k := 4) (As := [.int v3]) (rest := []) rfl (by decide) vw_X7_251 ⟨Nat.le_of_ble_eq_true rfl, Nat.le_of_ble_eq_true rfl, Nat.zero_le _, Nat.zero_le _⟩ hc hw hl.1 (Nat.lt_of_lt_of_le (by decide) hM) rfl (m_X7_doesAct l hM v3 σ h) rfl rfl (Nat.le_of_ble_eq_true rfl) dX7_goesDrawn_34 (fun σ2 H locs h hw => ?_)
    obtain ⟨x3, ex3⟩ : ∃ z, z = v3 + 1 := ⟨_, rfl⟩
    replace h := h x3 ex3
    refine lv_iinc (v := x3) (lv' := [(3, .int x3), (0, .ref (ad 0)), (1, .int v1)]) hx hb dX7_goesDrawn_37 hl (k := 2) rfl (by rw [ex3]; rfl) (by decide) rfl (fun ls hl => ?_)
    refine lv_goto (tgt := 27) hx hb dX7_goesDrawn_40 (by decide) ?_
    exact hk_27 v1 x3 σ2 _ _ _ h  hw (lv_sub hl [1, 2, 0] rfl)
def wl_X7_goesDrawn_27 (M : Nat) (post : St → Prop) : Nat → Int32 → Int32 → St → Prop
  | 0, _, _, _ => False
  | n + 1, v1, v3, σ => w_X7_goesDrawn_27 M post (wl_X7_goesDrawn_27 M post n) v1 v3 σ
set_option maxHeartbeats 4000000 in
theorem bl_X7_goesDrawn_27 {Γ : Gm} {ad : Nat → Nat} {p : Program} {l : Launch} {e : Env} {s : State} {m : MethodId} {args : Array Value} {below : List Frame} {meth : Method} {c : Code} {M : Nat} (hM : 20 ≤ M) {post : St → Prop}
    (hc : CX Γ p s m args meth c cX7_goesDrawn RX7 4) (hr : meth.sig.returnType = none) :
    ∀ (n : Nat) (v1 : Int32) (v3 : Int32) (σ : St) (H : Heap) (locs : List Loc) (ls : Array Slot), wl_X7_goesDrawn_27 M post n v1 v3 σ → WH Γ YM M ad σ s H locs → lv_has ls 4 [(0, .ref (ad 0)), (1, .int v1), (3, .int v3)] → W p l e (rmL 5 0 0) s m args below meth c H locs 0 0 (MQ below (va_Qv post (fun u t => WC Γ YM M ad u t) (AA Γ)) args s 0 0 (AA Γ)) (F0 m 27 ls []) := by
  intro n
  induction n with
  | zero => intro v1 v3 σ H locs ls h; exact h.elim
  | succ n ih =>
    intro v1 v3 σ H locs ls h  hw hl
    exact b_X7_goesDrawn_27 hM ih v1 v3 σ H locs ls h  hc hr hw hl
def w_X7_goesDrawn (M : Nat) (post : St → Prop) (a1 : Int32) (a2 : Int32) (σ : St) : Prop :=
  w_X7_begins M (fun σ1 => (∀ σ2 : St, σ2 = si σ1 0 26 1 → (∀ y3 : Int64, y3 = ((a2.toInt64 + 1) * 48271) - ((a2.toInt64 + 1) * 48271) / 2147483647 * 2147483647 → (∀ σ4 : St, σ4 = sl σ2 0 y3 → (∃ n, wl_X7_goesDrawn_27 M post n a1 0 σ4))))) σ
set_option maxHeartbeats 4000000 in
set_option maxRecDepth 20000 in
theorem m_X7_goesDrawn {Γ : Gm} {ad : Nat → Nat} {M : Nat} (l : Launch) (hM : 20 ≤ M) {post : St → Prop} (a1 : Int32) (a2 : Int32) (σ : St) (h : w_X7_goesDrawn M post a1 a2 σ) : Cv l Γ YM M ad σ yX7_goesDrawn cX7_goesDrawn 4 none 5 0 0 [.ref (ad 0), .int a1, .int a2] post := by
  refine g_start (by decide) (Nat.le_of_ble_eq_true rfl) ?_
  intro p e s m args below meth c ls hc hr hn hl hw
  have hc : CX Γ p s m args meth c cX7_goesDrawn RX7 4 := hc
  have hl : lv_has ls 4 [(0, .ref (ad 0)), (1, .int a1), (2, .int a2)] := hl
  have hx := hc.1
  have hb := hc.2.1
  unfold w_X7_goesDrawn at h
  generalize hHH : s.heap = H0 at hw ⊢
  refine lv_aload_n hx hb dX7_goesDrawn_0 rfl (lv_at hl 0 rfl) ?_
  refine g_Vv (Y := YM) (ci := 7) (n := 0) (k := 0) (As := []) (rest := []) rfl (by decide) vw_X7_248 ⟨Nat.le_of_ble_eq_true rfl, Nat.le_of_ble_eq_true rfl, Nat.zero_le _, Nat.zero_le _⟩ hc hw hl.1 (Nat.lt_of_lt_of_le (by decide) hM) rfl (m_X7_begins l hM σ h) rfl rfl (Nat.le_of_ble_eq_true rfl) dX7_goesDrawn_1 (fun σ1 H locs h hw => ?_)
  refine lv_aload_n hx hb dX7_goesDrawn_4 rfl (lv_at hl 0 rfl) ?_
  refine lv_iconst (v := 1) hx hb dX7_goesDrawn_5 (by decide) ?_
  refine fp_X7_213 (o := 0) rfl rfl hc hw (Nat.lt_of_lt_of_le (by decide) hM) rfl dX7_goesDrawn_6 (fun σ2 H locs eσ2 hw => ?_)
  replace h := h σ2 eσ2
  refine lv_aload_n hx hb dX7_goesDrawn_9 rfl (lv_at hl 0 rfl) ?_
  refine lv_iload_n hx hb dX7_goesDrawn_10 rfl (lv_at hl 2 rfl) ?_
  refine lv_i2l (v := a2.toInt64) hx hb dX7_goesDrawn_11 rfl ?_
  refine lv_lconst (v := 1) hx hb dX7_goesDrawn_12 (by decide) ?_
  refine lv_ladd hx hb dX7_goesDrawn_13 ?_
  refine lv_ldc2 (v := 48271) hx hb hc.2.2.2.1 (hc.2.2.2.2.1 _ q_1259) dX7_goesDrawn_14 ?_
  refine lv_lmul hx hb dX7_goesDrawn_17 ?_
  refine lv_ldc2 (v := 2147483647) hx hb hc.2.2.2.1 (hc.2.2.2.2.1 _ q_1260) dX7_goesDrawn_18 ?_
  refine lv_lrem hx hb dX7_goesDrawn_21 (by decide) ?_
  refine lv_topl (fun y3 ey3 => ?_)
  replace h := h y3 ey3
  refine fp_X7_216 (o := 0) hc hw (Nat.lt_of_lt_of_le (by decide) hM) rfl dX7_goesDrawn_22 (fun σ4 H locs eσ4 hw => ?_)
  replace h := h σ4 eσ4
  refine lv_iconst (v := 0) hx hb dX7_goesDrawn_25 (by decide) ?_
  refine lv_istore_n (lv' := [(3, .int 0), (0, .ref (ad 0)), (1, .int a1), (2, .int a2)]) hx hb dX7_goesDrawn_26 rfl hl (by decide) rfl (fun ls hl => ?_)
  obtain ⟨n, h⟩ := h
  exact bl_X7_goesDrawn_27 hM hc hr n a1 0 σ4 _ _ _ h  hw (lv_sub hl [1, 2, 0] rfl)
def w_X7_pot (M : Nat) (post : Int32 → St → Prop) (a1 : Int32) (a2 : Int32) (σ : St) : Prop :=
  w_X7_areActs M (fun r2 σ1 => ((r2 = 0 → (post (-5) σ1)) ∧ (¬ (r2 = 0) → (w_X7_in M (fun r5 σ4 => ((r5 = 0 → (post (-7) σ4)) ∧ (¬ (r5 = 0) → (w_X7_goes M (fun σ7 => (w_X7_potTold M (fun r9 σ8 => (post r9 σ8)) a2 σ7)) a1 σ4)))) a2.toInt64 0 13 σ1)))) a1 σ
set_option maxHeartbeats 4000000 in
set_option maxRecDepth 20000 in
theorem m_X7_pot {Γ : Gm} {ad : Nat → Nat} {M : Nat} (l : Launch) (hM : 20 ≤ M) {post : Int32 → St → Prop} (a1 : Int32) (a2 : Int32) (σ : St) (h : w_X7_pot M post a1 a2 σ) : Ci l Γ YM M ad σ yX7_pot cX7_pot 3 (Option.some Jvm.ClassFile.FieldType.int) 6 0 0 [.ref (ad 0), .int a1, .int a2] post := by
  refine g_start (by decide) (Nat.le_of_ble_eq_true rfl) ?_
  intro p e s m args below meth c ls hc hr hn hl hw
  have hc : CX Γ p s m args meth c cX7_pot RX7 3 := hc
  have hl : lv_has ls 3 [(0, .ref (ad 0)), (1, .int a1), (2, .int a2)] := hl
  have hx := hc.1
  have hb := hc.2.1
  unfold w_X7_pot at h
  generalize hHH : s.heap = H0 at hw ⊢
  refine lv_aload_n hx hb dX7_pot_0 rfl (lv_at hl 0 rfl) ?_
  refine lv_iload_n hx hb dX7_pot_1 rfl (lv_at hl 1 rfl) ?_
  refine g_Vi (Y := YM) (ci := 7) (n := 1) (k := 1) (As := [.int a1]) (rest := []) rfl (by decide) vw_X7_263 ⟨Nat.le_of_ble_eq_true rfl, Nat.le_of_ble_eq_true rfl, Nat.zero_le _, Nat.zero_le _⟩ hc hw hl.1 (Nat.lt_of_lt_of_le (by decide) hM) rfl (m_X7_areActs l hM a1 σ h) rfl rfl (Nat.le_of_ble_eq_true rfl) dX7_pot_2 (fun r2 σ1 H locs h hw => ?_)
  refine lv_if_ne (tgt := 11) hx hb dX7_pot_5 (by decide) (fun c3 => ?_) (fun c3 => ?_)
  · replace h := h.2 c3
    refine lv_iload_n hx hb dX7_pot_11 rfl (lv_at hl 2 rfl) ?_
    refine lv_i2l (v := a2.toInt64) hx hb dX7_pot_12 rfl ?_
    refine lv_lconst (v := 0) hx hb dX7_pot_13 (by decide) ?_
    refine lv_ldc2 (v := 13) hx hb hc.2.2.2.1 (hc.2.2.2.2.1 _ q_1219) dX7_pot_14 ?_
    refine g_Si (Y := YM) (n := 3) (k := 0) (As := [.long a2.toInt64, .long 0, .long 13]) (rest := []) vw_X7_75 ⟨Nat.le_of_ble_eq_true rfl, Nat.le_of_ble_eq_true rfl, Nat.zero_le _, Nat.zero_le _⟩ hc hw hl.1 (m_X7_in l hM a2.toInt64 0 13 σ1 h) rfl rfl (Nat.le_of_ble_eq_true rfl) dX7_pot_17 (fun r5 σ4 H locs h hw => ?_)
    refine lv_if_ne (tgt := 26) hx hb dX7_pot_20 (by decide) (fun c6 => ?_) (fun c6 => ?_)
    · replace h := h.2 c6
      refine lv_aload_n hx hb dX7_pot_26 rfl (lv_at hl 0 rfl) ?_
      refine lv_iload_n hx hb dX7_pot_27 rfl (lv_at hl 1 rfl) ?_
      refine g_Vv (Y := YM) (ci := 7) (n := 1) (k := 5) (As := [.int a1]) (rest := []) rfl (by decide) vw_X7_268 ⟨Nat.le_of_ble_eq_true rfl, Nat.le_of_ble_eq_true rfl, Nat.zero_le _, Nat.zero_le _⟩ hc hw hl.1 (Nat.lt_of_lt_of_le (by decide) hM) rfl (m_X7_goes l hM a1 σ4 h) rfl rfl (Nat.le_of_ble_eq_true rfl) dX7_pot_28 (fun σ7 H locs h hw => ?_)
      refine lv_aload_n hx hb dX7_pot_31 rfl (lv_at hl 0 rfl) ?_
      refine lv_iload_n hx hb dX7_pot_32 rfl (lv_at hl 2 rfl) ?_
      refine g_Vi (Y := YM) (ci := 7) (n := 1) (k := 4) (As := [.int a2]) (rest := []) rfl (by decide) vw_X7_271 ⟨Nat.le_of_ble_eq_true rfl, Nat.le_of_ble_eq_true rfl, Nat.zero_le _, Nat.zero_le _⟩ hc hw hl.1 (Nat.lt_of_lt_of_le (by decide) hM) rfl (m_X7_potTold l hM a2 σ7 h) rfl rfl (Nat.le_of_ble_eq_true rfl) dX7_pot_33 (fun r9 σ8 H locs h hw => ?_)
      exact g_iret hc hr hw h dX7_pot_36
    · replace h := h.1 c6
      refine lv_bipush (v := (-7)) hx hb dX7_pot_23 (by decide) ?_
      exact g_iret hc hr hw h dX7_pot_25
  · replace h := h.1 c3
    refine lv_bipush (v := (-5)) hx hb dX7_pot_8 (by decide) ?_
    exact g_iret hc hr hw h dX7_pot_10
def w_X7_hour_59 (M : Nat) (post : Int32 → St → Prop) (k_37 : Int32 → Int32 → Int32 → St → Prop) (v2 : Int32) (v3 : Int32) (t0 : Int32) (σ : St) : Prop :=
  w_X7_minute M (fun σ1 => (w_X7_holds M (fun r3 σ2 => ((r3 = 0 → (k_37 v2 (v3 + 0) r3 σ2)) ∧ (¬ (r3 = 0) → (k_37 v2 (v3 + 1) r3 σ2)))) σ1)) t0 σ
set_option maxHeartbeats 4000000 in
set_option maxRecDepth 20000 in
theorem b_X7_hour_59 {Γ : Gm} {ad : Nat → Nat} {p : Program} {l : Launch} {e : Env} {s : State} {m : MethodId} {args : Array Value} {below : List Frame} {meth : Method} {c : Code} {M : Nat} (hM : 20 ≤ M) {post : Int32 → St → Prop} {k_37 : Int32 → Int32 → Int32 → St → Prop} (hk_37 : ∀ (v2 : Int32) (v3 : Int32) (v4 : Int32) (σ : St) (H : Heap) (locs : List Loc) (ls : Array Slot), k_37 v2 v3 v4 σ → WH Γ YM M ad σ s H locs → lv_has ls 5 [(0, .ref (ad 0)), (2, .int v2), (3, .int v3), (4, .int v4)] → W p l e (rmL 6 0 0) s m args below meth c H locs 0 0 (MQ below (va_Qi post (fun u t => WC Γ YM M ad u t) (AA Γ)) args s 0 0 (AA Γ)) (F0 m 37 ls []))
    (v2 : Int32) (v3 : Int32) (t0 : Int32) (σ : St) (H : Heap) (locs : List Loc) (ls : Array Slot) (h : w_X7_hour_59 M post k_37 v2 v3 t0 σ) (hc : CX Γ p s m args meth c cX7_hour RX7 5) (hr : meth.sig.returnType = (Option.some Jvm.ClassFile.FieldType.int)) (hw : WH Γ YM M ad σ s H locs) (hl : lv_has ls 5 [(0, .ref (ad 0)), (2, .int v2), (3, .int v3)]) :
    W p l e (rmL 6 0 0) s m args below meth c H locs 0 0 (MQ below (va_Qi post (fun u t => WC Γ YM M ad u t) (AA Γ)) args s 0 0 (AA Γ)) (F0 m 59 ls [.int t0, .ref (ad 0)]) := by
  have hx := hc.1
  have hb := hc.2.1
  unfold w_X7_hour_59 at h
  refine g_Vv (Y := YM) (ci := 7) (n := 1) (k := 2) (As := [.int t0]) (rest := []) rfl (by decide) vw_X7_240 ⟨Nat.le_of_ble_eq_true rfl, Nat.le_of_ble_eq_true rfl, Nat.zero_le _, Nat.zero_le _⟩ hc hw hl.1 (Nat.lt_of_lt_of_le (by decide) hM) rfl (m_X7_minute l hM t0 σ h) rfl rfl (Nat.le_of_ble_eq_true rfl) dX7_hour_59 (fun σ1 H locs h hw => ?_)
  refine lv_aload_n hx hb dX7_hour_62 rfl (lv_at hl 0 rfl) ?_
  refine g_Vi (Y := YM) (ci := 7) (n := 0) (k := 4) (As := []) (rest := []) rfl (by decide) vw_X7_274 ⟨Nat.le_of_ble_eq_true rfl, Nat.le_of_ble_eq_true rfl, Nat.zero_le _, Nat.zero_le _⟩ hc hw hl.1 (Nat.lt_of_lt_of_le (by decide) hM) rfl (m_X7_holds l hM σ1 h) rfl rfl (Nat.le_of_ble_eq_true rfl) dX7_hour_63 (fun r3 σ2 H locs h hw => ?_)
  refine lv_istore (lv' := [(4, .int r3), (0, .ref (ad 0)), (2, .int v2), (3, .int v3)]) hx hb dX7_hour_66 hl (by decide) rfl (fun ls hl => ?_)
  refine lv_iload_n hx hb dX7_hour_68 rfl (lv_at hl 3 rfl) ?_
  refine lv_iload hx hb dX7_hour_69 (lv_at hl 0 rfl) ?_
  refine lv_if_eq (tgt := 78) hx hb dX7_hour_71 (by decide) (fun c4 => ?_) (fun c4 => ?_)
  · replace h := h.1 c4
    refine lv_iconst (v := 0) hx hb dX7_hour_78 (by decide) ?_
    refine lv_iadd hx hb dX7_hour_79 ?_
    refine lv_istore_n (lv' := [(3, .int (v3 + 0)), (4, .int r3), (0, .ref (ad 0)), (2, .int v2)]) hx hb dX7_hour_80 rfl hl (by decide) rfl (fun ls hl => ?_)
    refine lv_goto (tgt := 37) hx hb dX7_hour_81 (by decide) ?_
    exact hk_37 v2 (v3 + 0) r3 σ2 _ _ _ h  hw (lv_sub hl [2, 3, 0, 1] rfl)
  · replace h := h.2 c4
    refine lv_iconst (v := 1) hx hb dX7_hour_74 (by decide) ?_
    refine lv_goto (tgt := 79) hx hb dX7_hour_75 (by decide) ?_
    refine lv_iadd hx hb dX7_hour_79 ?_
    refine lv_istore_n (lv' := [(3, .int (v3 + 1)), (4, .int r3), (0, .ref (ad 0)), (2, .int v2)]) hx hb dX7_hour_80 rfl hl (by decide) rfl (fun ls hl => ?_)
    refine lv_goto (tgt := 37) hx hb dX7_hour_81 (by decide) ?_
    exact hk_37 v2 (v3 + 1) r3 σ2 _ _ _ h  hw (lv_sub hl [2, 3, 0, 1] rfl)
def w_X7_hour_37 (M : Nat) (post : Int32 → St → Prop) (k_37 : Int32 → Int32 → Int32 → St → Prop) (v2 : Int32) (v3 : Int32) (v4 : Int32) (σ : St) : Prop :=
  (v4 = 0 → (post v3 σ)) ∧ (¬ (v4 = 0) → ((60 ≤ v3 → (post v3 σ)) ∧ (¬ (60 ≤ v3) → ((v2 = 1 → (w_X7_hour_59 M post k_37 v2 v3 1 σ)) ∧ (¬ (v2 = 1) → (w_X7_hour_59 M post k_37 v2 v3 0 σ))))))
set_option maxHeartbeats 4000000 in
set_option maxRecDepth 20000 in
theorem b_X7_hour_37 {Γ : Gm} {ad : Nat → Nat} {p : Program} {l : Launch} {e : Env} {s : State} {m : MethodId} {args : Array Value} {below : List Frame} {meth : Method} {c : Code} {M : Nat} (hM : 20 ≤ M) {post : Int32 → St → Prop} {k_37 : Int32 → Int32 → Int32 → St → Prop} (hk_37 : ∀ (v2 : Int32) (v3 : Int32) (v4 : Int32) (σ : St) (H : Heap) (locs : List Loc) (ls : Array Slot), k_37 v2 v3 v4 σ → WH Γ YM M ad σ s H locs → lv_has ls 5 [(0, .ref (ad 0)), (2, .int v2), (3, .int v3), (4, .int v4)] → W p l e (rmL 6 0 0) s m args below meth c H locs 0 0 (MQ below (va_Qi post (fun u t => WC Γ YM M ad u t) (AA Γ)) args s 0 0 (AA Γ)) (F0 m 37 ls []))
    (v2 : Int32) (v3 : Int32) (v4 : Int32) (σ : St) (H : Heap) (locs : List Loc) (ls : Array Slot) (h : w_X7_hour_37 M post k_37 v2 v3 v4 σ) (hc : CX Γ p s m args meth c cX7_hour RX7 5) (hr : meth.sig.returnType = (Option.some Jvm.ClassFile.FieldType.int)) (hw : WH Γ YM M ad σ s H locs) (hl : lv_has ls 5 [(0, .ref (ad 0)), (2, .int v2), (3, .int v3), (4, .int v4)]) :
    W p l e (rmL 6 0 0) s m args below meth c H locs 0 0 (MQ below (va_Qi post (fun u t => WC Γ YM M ad u t) (AA Γ)) args s 0 0 (AA Γ)) (F0 m 37 ls []) := by
  have hx := hc.1
  have hb := hc.2.1
  unfold w_X7_hour_37 at h
  refine lv_iload hx hb dX7_hour_37 (lv_at hl 3 rfl) ?_
  refine lv_if_eq (tgt := 84) hx hb dX7_hour_39 (by decide) (fun c1 => ?_) (fun c1 => ?_)
  · replace h := h.1 c1
    refine lv_iload_n hx hb dX7_hour_84 rfl (lv_at hl 2 rfl) ?_
    exact g_iret hc hr hw h dX7_hour_85
  · replace h := h.2 c1
    refine lv_iload_n hx hb dX7_hour_42 rfl (lv_at hl 2 rfl) ?_
    refine lv_bipush (v := 60) hx hb dX7_hour_43 (by decide) ?_
    refine lv_icmp_ge (tgt := 84) hx hb dX7_hour_45 (by decide) (fun c2 => ?_) (fun c2 => ?_)
    · replace h := h.1 c2
      refine lv_iload_n hx hb dX7_hour_84 rfl (lv_at hl 2 rfl) ?_
      exact g_iret hc hr hw h dX7_hour_85
    · replace h := h.2 c2
      refine lv_aload_n hx hb dX7_hour_48 rfl (lv_at hl 0 rfl) ?_
      refine lv_iload_n hx hb dX7_hour_49 rfl (lv_at hl 1 rfl) ?_
      refine lv_iconst (v := 1) hx hb dX7_hour_50 (by decide) ?_
      refine lv_icmp_ne (tgt := 58) hx hb dX7_hour_51 (by decide) (fun c3 => ?_) (fun c3 => ?_)
      · replace h := h.2 c3
        refine lv_iconst (v := 0) hx hb dX7_hour_58 (by decide) ?_
        exact b_X7_hour_59 hM hk_37 v2 v3 0 σ _ _ _ h  hc hr hw (lv_sub hl [0, 1, 2] rfl)
      · replace h := h.1 c3
        refine lv_iconst (v := 1) hx hb dX7_hour_54 (by decide) ?_
        refine lv_goto (tgt := 59) hx hb dX7_hour_55 (by decide) ?_
        exact b_X7_hour_59 hM hk_37 v2 v3 1 σ _ _ _ h  hc hr hw (lv_sub hl [0, 1, 2] rfl)
def wl_X7_hour_37 (M : Nat) (post : Int32 → St → Prop) : Nat → Int32 → Int32 → Int32 → St → Prop
  | 0, _, _, _, _ => False
  | n + 1, v2, v3, v4, σ => w_X7_hour_37 M post (wl_X7_hour_37 M post n) v2 v3 v4 σ
set_option maxHeartbeats 4000000 in
theorem bl_X7_hour_37 {Γ : Gm} {ad : Nat → Nat} {p : Program} {l : Launch} {e : Env} {s : State} {m : MethodId} {args : Array Value} {below : List Frame} {meth : Method} {c : Code} {M : Nat} (hM : 20 ≤ M) {post : Int32 → St → Prop}
    (hc : CX Γ p s m args meth c cX7_hour RX7 5) (hr : meth.sig.returnType = (Option.some Jvm.ClassFile.FieldType.int)) :
    ∀ (n : Nat) (v2 : Int32) (v3 : Int32) (v4 : Int32) (σ : St) (H : Heap) (locs : List Loc) (ls : Array Slot), wl_X7_hour_37 M post n v2 v3 v4 σ → WH Γ YM M ad σ s H locs → lv_has ls 5 [(0, .ref (ad 0)), (2, .int v2), (3, .int v3), (4, .int v4)] → W p l e (rmL 6 0 0) s m args below meth c H locs 0 0 (MQ below (va_Qi post (fun u t => WC Γ YM M ad u t) (AA Γ)) args s 0 0 (AA Γ)) (F0 m 37 ls []) := by
  intro n
  induction n with
  | zero => intro v2 v3 v4 σ H locs ls h; exact h.elim
  | succ n ih =>
    intro v2 v3 v4 σ H locs ls h  hw hl
    exact b_X7_hour_37 hM ih v2 v3 v4 σ H locs ls h  hc hr hw hl
def w_X7_hour (M : Nat) (post : Int32 → St → Prop) (a1 : Int32) (a2 : Int32) (σ : St) : Prop :=
  w_X7_areActs M (fun r2 σ1 => ((r2 = 0 → (post (-5) σ1)) ∧ (¬ (r2 = 0) → (w_X7_in M (fun r5 σ4 => ((r5 = 0 → (post (-7) σ4)) ∧ (¬ (r5 = 0) → (w_X7_goes M (fun σ7 => (w_X7_holds M (fun r9 σ8 => (∃ n, wl_X7_hour_37 M post n a2 0 r9 σ8)) σ7)) a1 σ4)))) a2.toInt64 0 1 σ1)))) a1 σ
set_option maxHeartbeats 4000000 in
set_option maxRecDepth 20000 in
theorem m_X7_hour {Γ : Gm} {ad : Nat → Nat} {M : Nat} (l : Launch) (hM : 20 ≤ M) {post : Int32 → St → Prop} (a1 : Int32) (a2 : Int32) (σ : St) (h : w_X7_hour M post a1 a2 σ) : Ci l Γ YM M ad σ yX7_hour cX7_hour 5 (Option.some Jvm.ClassFile.FieldType.int) 6 0 0 [.ref (ad 0), .int a1, .int a2] post := by
  refine g_start (by decide) (Nat.le_of_ble_eq_true rfl) ?_
  intro p e s m args below meth c ls hc hr hn hl hw
  have hc : CX Γ p s m args meth c cX7_hour RX7 5 := hc
  have hl : lv_has ls 5 [(0, .ref (ad 0)), (1, .int a1), (2, .int a2)] := hl
  have hx := hc.1
  have hb := hc.2.1
  unfold w_X7_hour at h
  generalize hHH : s.heap = H0 at hw ⊢
  refine lv_aload_n hx hb dX7_hour_0 rfl (lv_at hl 0 rfl) ?_
  refine lv_iload_n hx hb dX7_hour_1 rfl (lv_at hl 1 rfl) ?_
  refine g_Vi (Y := YM) (ci := 7) (n := 1) (k := 1) (As := [.int a1]) (rest := []) rfl (by decide) vw_X7_263 ⟨Nat.le_of_ble_eq_true rfl, Nat.le_of_ble_eq_true rfl, Nat.zero_le _, Nat.zero_le _⟩ hc hw hl.1 (Nat.lt_of_lt_of_le (by decide) hM) rfl (m_X7_areActs l hM a1 σ h) rfl rfl (Nat.le_of_ble_eq_true rfl) dX7_hour_2 (fun r2 σ1 H locs h hw => ?_)
  refine lv_if_ne (tgt := 11) hx hb dX7_hour_5 (by decide) (fun c3 => ?_) (fun c3 => ?_)
  · replace h := h.2 c3
    refine lv_iload_n hx hb dX7_hour_11 rfl (lv_at hl 2 rfl) ?_
    refine lv_i2l (v := a2.toInt64) hx hb dX7_hour_12 rfl ?_
    refine lv_lconst (v := 0) hx hb dX7_hour_13 (by decide) ?_
    refine lv_lconst (v := 1) hx hb dX7_hour_14 (by decide) ?_
    refine g_Si (Y := YM) (n := 3) (k := 0) (As := [.long a2.toInt64, .long 0, .long 1]) (rest := []) vw_X7_75 ⟨Nat.le_of_ble_eq_true rfl, Nat.le_of_ble_eq_true rfl, Nat.zero_le _, Nat.zero_le _⟩ hc hw hl.1 (m_X7_in l hM a2.toInt64 0 1 σ1 h) rfl rfl (Nat.le_of_ble_eq_true rfl) dX7_hour_15 (fun r5 σ4 H locs h hw => ?_)
    refine lv_if_ne (tgt := 24) hx hb dX7_hour_18 (by decide) (fun c6 => ?_) (fun c6 => ?_)
    · replace h := h.2 c6
      refine lv_aload_n hx hb dX7_hour_24 rfl (lv_at hl 0 rfl) ?_
      refine lv_iload_n hx hb dX7_hour_25 rfl (lv_at hl 1 rfl) ?_
      refine g_Vv (Y := YM) (ci := 7) (n := 1) (k := 5) (As := [.int a1]) (rest := []) rfl (by decide) vw_X7_268 ⟨Nat.le_of_ble_eq_true rfl, Nat.le_of_ble_eq_true rfl, Nat.zero_le _, Nat.zero_le _⟩ hc hw hl.1 (Nat.lt_of_lt_of_le (by decide) hM) rfl (m_X7_goes l hM a1 σ4 h) rfl rfl (Nat.le_of_ble_eq_true rfl) dX7_hour_26 (fun σ7 H locs h hw => ?_)
      refine lv_iconst (v := 0) hx hb dX7_hour_29 (by decide) ?_
      refine lv_istore_n (lv' := [(3, .int 0), (0, .ref (ad 0)), (1, .int a1), (2, .int a2)]) hx hb dX7_hour_30 rfl hl (by decide) rfl (fun ls hl => ?_)
      refine lv_aload_n hx hb dX7_hour_31 rfl (lv_at hl 1 rfl) ?_
      refine g_Vi (Y := YM) (ci := 7) (n := 0) (k := 4) (As := []) (rest := []) rfl (by decide) vw_X7_274 ⟨Nat.le_of_ble_eq_true rfl, Nat.le_of_ble_eq_true rfl, Nat.zero_le _, Nat.zero_le _⟩ hc hw hl.1 (Nat.lt_of_lt_of_le (by decide) hM) rfl (m_X7_holds l hM σ7 h) rfl rfl (Nat.le_of_ble_eq_true rfl) dX7_hour_32 (fun r9 σ8 H locs h hw => ?_)
      refine lv_istore (lv' := [(4, .int r9), (3, .int 0), (0, .ref (ad 0)), (1, .int a1), (2, .int a2)]) hx hb dX7_hour_35 hl (by decide) rfl (fun ls hl => ?_)
      obtain ⟨n, h⟩ := h
      exact bl_X7_hour_37 hM hc hr n a2 0 r9 σ8 _ _ _ h  hw (lv_sub hl [2, 4, 1, 0] rfl)
    · replace h := h.1 c6
      refine lv_bipush (v := (-7)) hx hb dX7_hour_21 (by decide) ?_
      exact g_iret hc hr hw h dX7_hour_23
  · replace h := h.1 c3
    refine lv_bipush (v := (-5)) hx hb dX7_hour_8 (by decide) ?_
    exact g_iret hc hr hw h dX7_hour_10
def w_X7_holdsInAll (M : Nat) (post : Int32 → St → Prop)  (σ : St) : Prop :=
  w_X7_goes M (fun σ1 => (w_X7_holds M (fun r3 σ2 => (narrow .boolean (.int r3) = .int r3 ∧ post r3 σ2)) σ1)) (gi σ 0 21) σ
set_option maxHeartbeats 4000000 in
set_option maxRecDepth 20000 in
theorem m_X7_holdsInAll {Γ : Gm} {ad : Nat → Nat} {M : Nat} (l : Launch) (hM : 20 ≤ M) {post : Int32 → St → Prop}  (σ : St) (h : w_X7_holdsInAll M post  σ) : Ci l Γ YM M ad σ yX7_holdsInAll cX7_holdsInAll 1 (Option.some Jvm.ClassFile.FieldType.boolean) 6 0 0 [.ref (ad 0)] post := by
  refine g_start (by decide) (Nat.le_of_ble_eq_true rfl) ?_
  intro p e s m args below meth c ls hc hr hn hl hw
  have hc : CX Γ p s m args meth c cX7_holdsInAll RX7 1 := hc
  have hl : lv_has ls 1 [(0, .ref (ad 0))] := hl
  have hx := hc.1
  have hb := hc.2.1
  unfold w_X7_holdsInAll at h
  generalize hHH : s.heap = H0 at hw ⊢
  refine lv_aload_n hx hb dX7_holdsInAll_0 rfl (lv_at hl 0 rfl) ?_
  refine lv_aload_n hx hb dX7_holdsInAll_1 rfl (lv_at hl 0 rfl) ?_
  refine fg_X7_95 hc hw (Nat.lt_of_lt_of_le (by decide) hM) rfl dX7_holdsInAll_2 ?_
  refine g_Vv (Y := YM) (ci := 7) (n := 1) (k := 5) (As := [.int (gi σ 0 21)]) (rest := []) rfl (by decide) vw_X7_268 ⟨Nat.le_of_ble_eq_true rfl, Nat.le_of_ble_eq_true rfl, Nat.zero_le _, Nat.zero_le _⟩ hc hw hl.1 (Nat.lt_of_lt_of_le (by decide) hM) rfl (m_X7_goes l hM (gi σ 0 21) σ h) rfl rfl (Nat.le_of_ble_eq_true rfl) dX7_holdsInAll_5 (fun σ1 H locs h hw => ?_)
  refine lv_aload_n hx hb dX7_holdsInAll_8 rfl (lv_at hl 0 rfl) ?_
  refine g_Vi (Y := YM) (ci := 7) (n := 0) (k := 4) (As := []) (rest := []) rfl (by decide) vw_X7_274 ⟨Nat.le_of_ble_eq_true rfl, Nat.le_of_ble_eq_true rfl, Nat.zero_le _, Nat.zero_le _⟩ hc hw hl.1 (Nat.lt_of_lt_of_le (by decide) hM) rfl (m_X7_holds l hM σ1 h) rfl rfl (Nat.le_of_ble_eq_true rfl) dX7_holdsInAll_9 (fun r3 σ2 H locs h hw => ?_)
  exact g_zret hc hr hw h.1 h.2 dX7_holdsInAll_12
def w_X7_save_91 (M : Nat) (post : Int32 → St → Prop) (k_50 : Int32 → Int32 → Int32 → Int32 → Int32 → Int32 → Int32 → St → Prop) (v1 : Int32) (v2 : Int32) (v3 : Int32) (v7 : Int32) (σ : St) : Prop :=
  w_X7_holds M (fun r2 σ1 => ((r2 = 0 → (∀ x4 : Int32, x4 = v7 + 1 → (k_50 v1 v2 v3 v7 (gi σ 13 4) 0 x4 σ1))) ∧ (¬ (r2 = 0) → (∀ x5 : Int32, x5 = v7 + 1 → (k_50 v1 v2 v3 v7 (gi σ 13 4) 1 x5 σ1))))) σ
set_option maxHeartbeats 4000000 in
set_option maxRecDepth 20000 in
theorem b_X7_save_91 {Γ : Gm} {ad : Nat → Nat} {p : Program} {l : Launch} {e : Env} {s : State} {m : MethodId} {args : Array Value} {below : List Frame} {meth : Method} {c : Code} {M : Nat} (hM : 20 ≤ M) {post : Int32 → St → Prop} {k_50 : Int32 → Int32 → Int32 → Int32 → Int32 → Int32 → Int32 → St → Prop} (hk_50 : ∀ (v1 : Int32) (v2 : Int32) (v3 : Int32) (v4 : Int32) (v5 : Int32) (v6 : Int32) (v7 : Int32) (σ : St) (H : Heap) (locs : List Loc) (ls : Array Slot), k_50 v1 v2 v3 v4 v5 v6 v7 σ → WH Γ YM M ad σ s H locs → lv_has ls 8 [(0, .ref (ad 0)), (1, .int v1), (2, .int v2), (3, .int v3), (4, .int v4), (5, .int v5), (6, .int v6), (7, .int v7)] → W p l e (rmL 6 0 0) s m args below meth c H locs 0 0 (MQ below (va_Qi post (fun u t => WC Γ YM M ad u t) (AA Γ)) args s 0 0 (AA Γ)) (F0 m 50 ls []))
    (v1 : Int32) (v2 : Int32) (v3 : Int32) (v7 : Int32) (σ : St) (H : Heap) (locs : List Loc) (ls : Array Slot) (h : w_X7_save_91 M post k_50 v1 v2 v3 v7 σ) (hc : CX Γ p s m args meth c cX7_save RX7 8) (hr : meth.sig.returnType = (Option.some Jvm.ClassFile.FieldType.int)) (hw : WH Γ YM M ad σ s H locs) (hl : lv_has ls 8 [(0, .ref (ad 0)), (1, .int v1), (2, .int v2), (3, .int v3), (7, .int v7)]) :
    W p l e (rmL 6 0 0) s m args below meth c H locs 0 0 (MQ below (va_Qi post (fun u t => WC Γ YM M ad u t) (AA Γ)) args s 0 0 (AA Γ)) (F0 m 91 ls []) := by
  have hx := hc.1
  have hb := hc.2.1
  unfold w_X7_save_91 at h
  refine lv_iload hx hb dX7_save_91 (lv_at hl 4 rfl) ?_
  refine lv_istore (lv' := [(4, .int v7), (0, .ref (ad 0)), (1, .int v1), (2, .int v2), (3, .int v3), (7, .int v7)]) hx hb dX7_save_93 hl (by decide) rfl (fun ls hl => ?_)
  refine lv_aload_n hx hb dX7_save_95 rfl (lv_at hl 1 rfl) ?_
  refine fg_X7_47 hc hw (Nat.lt_of_lt_of_le (by decide) hM) rfl dX7_save_96 ?_
  refine lv_iconst (v := 4) hx hb dX7_save_99 (by decide) ?_
  refine g_ialdK (Y := YM) (kd := 33) (n := 14) (k := 4) (o := 13) (by decide) (by decide) rfl hc hw (Nat.lt_of_lt_of_le (by decide) hM) rfl rfl (vp_in_lit (by decide)) (by decide) dX7_save_100 ?_
  refine lv_istore (lv' := [(5, .int (gi σ 13 4)), (4, .int v7), (0, .ref (ad 0)), (1, .int v1), (2, .int v2), (3, .int v3), (7, .int v7)]) hx hb dX7_save_101 hl (by decide) rfl (fun ls hl => ?_)
  refine lv_aload_n hx hb dX7_save_103 rfl (lv_at hl 2 rfl) ?_
  refine g_Vi (Y := YM) (ci := 7) (n := 0) (k := 4) (As := []) (rest := []) rfl (by decide) vw_X7_274 ⟨Nat.le_of_ble_eq_true rfl, Nat.le_of_ble_eq_true rfl, Nat.zero_le _, Nat.zero_le _⟩ hc hw hl.1 (Nat.lt_of_lt_of_le (by decide) hM) rfl (m_X7_holds l hM σ h) rfl rfl (Nat.le_of_ble_eq_true rfl) dX7_save_104 (fun r2 σ1 H locs h hw => ?_)
  refine lv_if_eq (tgt := 114) hx hb dX7_save_107 (by decide) (fun c3 => ?_) (fun c3 => ?_)
  · replace h := h.1 c3
    refine lv_iconst (v := 0) hx hb dX7_save_114 (by decide) ?_
    refine lv_istore (lv' := [(6, .int 0), (5, .int (gi σ 13 4)), (4, .int v7), (0, .ref (ad 0)), (1, .int v1), (2, .int v2), (3, .int v3), (7, .int v7)]) hx hb dX7_save_115 hl (by decide) rfl (fun ls hl => ?_)
    obtain ⟨x4, ex4⟩ : ∃ z, z = v7 + 1 := ⟨_, rfl⟩
    replace h := h x4 ex4
    refine lv_iinc (v := x4) (lv' := [(7, .int x4), (6, .int 0), (5, .int (gi σ 13 4)), (4, .int v7), (0, .ref (ad 0)), (1, .int v1), (2, .int v2), (3, .int v3)]) hx hb dX7_save_117 hl (k := 7) rfl (by rw [ex4]; rfl) (by decide) rfl (fun ls hl => ?_)
    refine lv_goto (tgt := 50) hx hb dX7_save_120 (by decide) ?_
    exact hk_50 v1 v2 v3 v7 (gi σ 13 4) 0 x4 σ1 _ _ _ h  hw (lv_sub hl [4, 5, 6, 7, 3, 2, 1, 0] rfl)
  · replace h := h.2 c3
    refine lv_iconst (v := 1) hx hb dX7_save_110 (by decide) ?_
    refine lv_goto (tgt := 115) hx hb dX7_save_111 (by decide) ?_
    refine lv_istore (lv' := [(6, .int 1), (5, .int (gi σ 13 4)), (4, .int v7), (0, .ref (ad 0)), (1, .int v1), (2, .int v2), (3, .int v3), (7, .int v7)]) hx hb dX7_save_115 hl (by decide) rfl (fun ls hl => ?_)
    obtain ⟨x5, ex5⟩ : ∃ z, z = v7 + 1 := ⟨_, rfl⟩
    replace h := h x5 ex5
    refine lv_iinc (v := x5) (lv' := [(7, .int x5), (6, .int 1), (5, .int (gi σ 13 4)), (4, .int v7), (0, .ref (ad 0)), (1, .int v1), (2, .int v2), (3, .int v3)]) hx hb dX7_save_117 hl (k := 7) rfl (by rw [ex5]; rfl) (by decide) rfl (fun ls hl => ?_)
    refine lv_goto (tgt := 50) hx hb dX7_save_120 (by decide) ?_
    exact hk_50 v1 v2 v3 v7 (gi σ 13 4) 1 x5 σ1 _ _ _ h  hw (lv_sub hl [4, 5, 6, 7, 3, 2, 1, 0] rfl)
def w_X7_save_50 (M : Nat) (post : Int32 → St → Prop) (k_50 : Int32 → Int32 → Int32 → Int32 → Int32 → Int32 → Int32 → St → Prop) (v1 : Int32) (v2 : Int32) (v3 : Int32) (v4 : Int32) (v5 : Int32) (v6 : Int32) (v7 : Int32) (σ : St) : Prop :=
  (5 < v7 → ((v3 = 0 → (post v4 σ)) ∧ (¬ (v3 = 0) → ((v3 = 1 → (post v5 σ)) ∧ (¬ (v3 = 1) → (post v6 σ)))))) ∧ (¬ (5 < v7) → (w_X7_goes M (fun σ4 => (w_X7_does M (fun σ5 => ((v4 < 0 → (w_X7_save_91 M post k_50 v1 v2 v3 v7 σ5)) ∧ (¬ (v4 < 0) → ((v5 ≤ (gi σ5 13 4) → (∀ x8 : Int32, x8 = v7 + 1 → (k_50 v1 v2 v3 v4 v5 v6 x8 σ5))) ∧ (¬ (v5 ≤ (gi σ5 13 4)) → (w_X7_save_91 M post k_50 v1 v2 v3 v7 σ5)))))) v7 (v2 / 10) (v2 - v2 / 10 * 10) σ4)) v1 σ))
set_option maxHeartbeats 4000000 in
set_option maxRecDepth 20000 in
theorem b_X7_save_50 {Γ : Gm} {ad : Nat → Nat} {p : Program} {l : Launch} {e : Env} {s : State} {m : MethodId} {args : Array Value} {below : List Frame} {meth : Method} {c : Code} {M : Nat} (hM : 20 ≤ M) {post : Int32 → St → Prop} {k_50 : Int32 → Int32 → Int32 → Int32 → Int32 → Int32 → Int32 → St → Prop} (hk_50 : ∀ (v1 : Int32) (v2 : Int32) (v3 : Int32) (v4 : Int32) (v5 : Int32) (v6 : Int32) (v7 : Int32) (σ : St) (H : Heap) (locs : List Loc) (ls : Array Slot), k_50 v1 v2 v3 v4 v5 v6 v7 σ → WH Γ YM M ad σ s H locs → lv_has ls 8 [(0, .ref (ad 0)), (1, .int v1), (2, .int v2), (3, .int v3), (4, .int v4), (5, .int v5), (6, .int v6), (7, .int v7)] → W p l e (rmL 6 0 0) s m args below meth c H locs 0 0 (MQ below (va_Qi post (fun u t => WC Γ YM M ad u t) (AA Γ)) args s 0 0 (AA Γ)) (F0 m 50 ls []))
    (v1 : Int32) (v2 : Int32) (v3 : Int32) (v4 : Int32) (v5 : Int32) (v6 : Int32) (v7 : Int32) (σ : St) (H : Heap) (locs : List Loc) (ls : Array Slot) (h : w_X7_save_50 M post k_50 v1 v2 v3 v4 v5 v6 v7 σ) (hc : CX Γ p s m args meth c cX7_save RX7 8) (hr : meth.sig.returnType = (Option.some Jvm.ClassFile.FieldType.int)) (hw : WH Γ YM M ad σ s H locs) (hl : lv_has ls 8 [(0, .ref (ad 0)), (1, .int v1), (2, .int v2), (3, .int v3), (4, .int v4), (5, .int v5), (6, .int v6), (7, .int v7)]) :
    W p l e (rmL 6 0 0) s m args below meth c H locs 0 0 (MQ below (va_Qi post (fun u t => WC Γ YM M ad u t) (AA Γ)) args s 0 0 (AA Γ)) (F0 m 50 ls []) := by
  have hx := hc.1
  have hb := hc.2.1
  unfold w_X7_save_50 at h
  refine lv_iload hx hb dX7_save_50 (lv_at hl 7 rfl) ?_
  refine lv_iconst (v := 5) hx hb dX7_save_52 (by decide) ?_
  refine lv_icmp_gt (tgt := 123) hx hb dX7_save_53 (by decide) (fun c1 => ?_) (fun c1 => ?_)
  · replace h := h.1 c1
    refine lv_iload_n hx hb dX7_save_123 rfl (lv_at hl 3 rfl) ?_
    refine lv_if_ne (tgt := 132) hx hb dX7_save_124 (by decide) (fun c2 => ?_) (fun c2 => ?_)
    · replace h := h.2 c2
      refine lv_iload_n hx hb dX7_save_132 rfl (lv_at hl 3 rfl) ?_
      refine lv_iconst (v := 1) hx hb dX7_save_133 (by decide) ?_
      refine lv_icmp_ne (tgt := 142) hx hb dX7_save_134 (by decide) (fun c3 => ?_) (fun c3 => ?_)
      · replace h := h.2 c3
        refine lv_iload hx hb dX7_save_142 (lv_at hl 6 rfl) ?_
        exact g_iret hc hr hw h dX7_save_144
      · replace h := h.1 c3
        refine lv_iload hx hb dX7_save_137 (lv_at hl 5 rfl) ?_
        refine lv_goto (tgt := 144) hx hb dX7_save_139 (by decide) ?_
        exact g_iret hc hr hw h dX7_save_144
    · replace h := h.1 c2
      refine lv_iload hx hb dX7_save_127 (lv_at hl 4 rfl) ?_
      refine lv_goto (tgt := 144) hx hb dX7_save_129 (by decide) ?_
      exact g_iret hc hr hw h dX7_save_144
  · replace h := h.2 c1
    refine lv_aload_n hx hb dX7_save_56 rfl (lv_at hl 0 rfl) ?_
    refine lv_iload_n hx hb dX7_save_57 rfl (lv_at hl 1 rfl) ?_
    refine g_Vv (Y := YM) (ci := 7) (n := 1) (k := 5) (As := [.int v1]) (rest := []) rfl (by decide) vw_X7_268 ⟨Nat.le_of_ble_eq_true rfl, Nat.le_of_ble_eq_true rfl, Nat.zero_le _, Nat.zero_le _⟩ hc hw hl.1 (Nat.lt_of_lt_of_le (by decide) hM) rfl (m_X7_goes l hM v1 σ h) rfl rfl (Nat.le_of_ble_eq_true rfl) dX7_save_58 (fun σ4 H locs h hw => ?_)
    refine lv_aload_n hx hb dX7_save_61 rfl (lv_at hl 0 rfl) ?_
    refine lv_iload hx hb dX7_save_62 (lv_at hl 7 rfl) ?_
    refine lv_iload_n hx hb dX7_save_64 rfl (lv_at hl 2 rfl) ?_
    refine lv_bipush (v := 10) hx hb dX7_save_65 (by decide) ?_
    refine lv_idiv hx hb dX7_save_67 (by decide) ?_
    refine lv_iload_n hx hb dX7_save_68 rfl (lv_at hl 2 rfl) ?_
    refine lv_bipush (v := 10) hx hb dX7_save_69 (by decide) ?_
    refine lv_irem hx hb dX7_save_71 (by decide) ?_
    refine g_Vv (Y := YM) (ci := 7) (n := 3) (k := 3) (As := [.int v7, .int (v2 / 10), .int (v2 - v2 / 10 * 10)]) (rest := []) rfl (by decide) vw_X7_244 ⟨Nat.le_of_ble_eq_true rfl, Nat.le_of_ble_eq_true rfl, Nat.zero_le _, Nat.zero_le _⟩ hc hw hl.1 (Nat.lt_of_lt_of_le (by decide) hM) rfl (m_X7_does l hM v7 (v2 / 10) (v2 - v2 / 10 * 10) σ4 h) rfl rfl (Nat.le_of_ble_eq_true rfl) dX7_save_72 (fun σ5 H locs h hw => ?_)
    refine lv_iload hx hb dX7_save_75 (lv_at hl 4 rfl) ?_
    refine lv_if_lt (tgt := 91) hx hb dX7_save_77 (by decide) (fun c6 => ?_) (fun c6 => ?_)
    · replace h := h.1 c6
      exact b_X7_save_91 hM hk_50 v1 v2 v3 v7 σ5 _ _ _ h  hc hr hw (lv_sub hl [0, 1, 2, 3, 7] rfl)
    · replace h := h.2 c6
      refine lv_aload_n hx hb dX7_save_80 rfl (lv_at hl 0 rfl) ?_
      refine fg_X7_47 hc hw (Nat.lt_of_lt_of_le (by decide) hM) rfl dX7_save_81 ?_
      refine lv_iconst (v := 4) hx hb dX7_save_84 (by decide) ?_
      refine g_ialdK (Y := YM) (kd := 33) (n := 14) (k := 4) (o := 13) (by decide) (by decide) rfl hc hw (Nat.lt_of_lt_of_le (by decide) hM) rfl rfl (vp_in_lit (by decide)) (by decide) dX7_save_85 ?_
      refine lv_iload hx hb dX7_save_86 (lv_at hl 5 rfl) ?_
      refine lv_icmp_ge (tgt := 117) hx hb dX7_save_88 (by decide) (fun c7 => ?_) (fun c7 => ?_)
      · replace h := h.1 c7
        obtain ⟨x8, ex8⟩ : ∃ z, z = v7 + 1 := ⟨_, rfl⟩
        replace h := h x8 ex8
        refine lv_iinc (v := x8) (lv' := [(7, .int x8), (0, .ref (ad 0)), (1, .int v1), (2, .int v2), (3, .int v3), (4, .int v4), (5, .int v5), (6, .int v6)]) hx hb dX7_save_117 hl (k := 7) rfl (by rw [ex8]; rfl) (by decide) rfl (fun ls hl => ?_)
        refine lv_goto (tgt := 50) hx hb dX7_save_120 (by decide) ?_
        exact hk_50 v1 v2 v3 v4 v5 v6 x8 σ5 _ _ _ h  hw (lv_sub hl [1, 2, 3, 4, 5, 6, 7, 0] rfl)
      · replace h := h.2 c7
        exact b_X7_save_91 hM hk_50 v1 v2 v3 v7 σ5 _ _ _ h  hc hr hw (lv_sub hl [0, 1, 2, 3, 7] rfl)
def wl_X7_save_50 (M : Nat) (post : Int32 → St → Prop) : Nat → Int32 → Int32 → Int32 → Int32 → Int32 → Int32 → Int32 → St → Prop
  | 0, _, _, _, _, _, _, _, _ => False
  | n + 1, v1, v2, v3, v4, v5, v6, v7, σ => w_X7_save_50 M post (wl_X7_save_50 M post n) v1 v2 v3 v4 v5 v6 v7 σ
set_option maxHeartbeats 4000000 in
theorem bl_X7_save_50 {Γ : Gm} {ad : Nat → Nat} {p : Program} {l : Launch} {e : Env} {s : State} {m : MethodId} {args : Array Value} {below : List Frame} {meth : Method} {c : Code} {M : Nat} (hM : 20 ≤ M) {post : Int32 → St → Prop}
    (hc : CX Γ p s m args meth c cX7_save RX7 8) (hr : meth.sig.returnType = (Option.some Jvm.ClassFile.FieldType.int)) :
    ∀ (n : Nat) (v1 : Int32) (v2 : Int32) (v3 : Int32) (v4 : Int32) (v5 : Int32) (v6 : Int32) (v7 : Int32) (σ : St) (H : Heap) (locs : List Loc) (ls : Array Slot), wl_X7_save_50 M post n v1 v2 v3 v4 v5 v6 v7 σ → WH Γ YM M ad σ s H locs → lv_has ls 8 [(0, .ref (ad 0)), (1, .int v1), (2, .int v2), (3, .int v3), (4, .int v4), (5, .int v5), (6, .int v6), (7, .int v7)] → W p l e (rmL 6 0 0) s m args below meth c H locs 0 0 (MQ below (va_Qi post (fun u t => WC Γ YM M ad u t) (AA Γ)) args s 0 0 (AA Γ)) (F0 m 50 ls []) := by
  intro n
  induction n with
  | zero => intro v1 v2 v3 v4 v5 v6 v7 σ H locs ls h; exact h.elim
  | succ n ih =>
    intro v1 v2 v3 v4 v5 v6 v7 σ H locs ls h  hw hl
    exact b_X7_save_50 hM ih v1 v2 v3 v4 v5 v6 v7 σ H locs ls h  hc hr hw hl
def w_X7_save (M : Nat) (post : Int32 → St → Prop) (a1 : Int32) (a2 : Int32) (a3 : Int32) (σ : St) : Prop :=
  w_X7_areActs M (fun r2 σ1 => ((r2 = 0 → (post (-5) σ1)) ∧ (¬ (r2 = 0) → (w_X7_in M (fun r5 σ4 => ((r5 = 0 → (post (-7) σ4)) ∧ (¬ (r5 = 0) → (w_X7_in M (fun r8 σ7 => ((r8 = 0 → (post (-7) σ7)) ∧ (¬ (r8 = 0) → (∃ n, wl_X7_save_50 M post n a1 a2 a3 (-1) 0 0 0 σ7)))) a3.toInt64 0 2 σ4)))) a2.toInt64 0 99 σ1)))) a1 σ
set_option maxHeartbeats 4000000 in
set_option maxRecDepth 20000 in
theorem m_X7_save {Γ : Gm} {ad : Nat → Nat} {M : Nat} (l : Launch) (hM : 20 ≤ M) {post : Int32 → St → Prop} (a1 : Int32) (a2 : Int32) (a3 : Int32) (σ : St) (h : w_X7_save M post a1 a2 a3 σ) : Ci l Γ YM M ad σ yX7_save cX7_save 8 (Option.some Jvm.ClassFile.FieldType.int) 6 0 0 [.ref (ad 0), .int a1, .int a2, .int a3] post := by
  refine g_start (by decide) (Nat.le_of_ble_eq_true rfl) ?_
  intro p e s m args below meth c ls hc hr hn hl hw
  have hc : CX Γ p s m args meth c cX7_save RX7 8 := hc
  have hl : lv_has ls 8 [(0, .ref (ad 0)), (1, .int a1), (2, .int a2), (3, .int a3)] := hl
  have hx := hc.1
  have hb := hc.2.1
  unfold w_X7_save at h
  generalize hHH : s.heap = H0 at hw ⊢
  refine lv_aload_n hx hb dX7_save_0 rfl (lv_at hl 0 rfl) ?_
  refine lv_iload_n hx hb dX7_save_1 rfl (lv_at hl 1 rfl) ?_
  refine g_Vi (Y := YM) (ci := 7) (n := 1) (k := 1) (As := [.int a1]) (rest := []) rfl (by decide) vw_X7_263 ⟨Nat.le_of_ble_eq_true rfl, Nat.le_of_ble_eq_true rfl, Nat.zero_le _, Nat.zero_le _⟩ hc hw hl.1 (Nat.lt_of_lt_of_le (by decide) hM) rfl (m_X7_areActs l hM a1 σ h) rfl rfl (Nat.le_of_ble_eq_true rfl) dX7_save_2 (fun r2 σ1 H locs h hw => ?_)
  refine lv_if_ne (tgt := 11) hx hb dX7_save_5 (by decide) (fun c3 => ?_) (fun c3 => ?_)
  · replace h := h.2 c3
    refine lv_iload_n hx hb dX7_save_11 rfl (lv_at hl 2 rfl) ?_
    refine lv_i2l (v := a2.toInt64) hx hb dX7_save_12 rfl ?_
    refine lv_lconst (v := 0) hx hb dX7_save_13 (by decide) ?_
    refine lv_ldc2 (v := 99) hx hb hc.2.2.2.1 (hc.2.2.2.2.1 _ q_1079) dX7_save_14 ?_
    refine g_Si (Y := YM) (n := 3) (k := 0) (As := [.long a2.toInt64, .long 0, .long 99]) (rest := []) vw_X7_75 ⟨Nat.le_of_ble_eq_true rfl, Nat.le_of_ble_eq_true rfl, Nat.zero_le _, Nat.zero_le _⟩ hc hw hl.1 (m_X7_in l hM a2.toInt64 0 99 σ1 h) rfl rfl (Nat.le_of_ble_eq_true rfl) dX7_save_17 (fun r5 σ4 H locs h hw => ?_)
    refine lv_if_eq (tgt := 35) hx hb dX7_save_20 (by decide) (fun c6 => ?_) (fun c6 => ?_)
    · replace h := h.1 c6
      refine lv_bipush (v := (-7)) hx hb dX7_save_35 (by decide) ?_
      exact g_iret hc hr hw h dX7_save_37
    · replace h := h.2 c6
      refine lv_iload_n hx hb dX7_save_23 rfl (lv_at hl 3 rfl) ?_
      refine lv_i2l (v := a3.toInt64) hx hb dX7_save_24 rfl ?_
      refine lv_lconst (v := 0) hx hb dX7_save_25 (by decide) ?_
      refine lv_ldc2 (v := 2) hx hb hc.2.2.2.1 (hc.2.2.2.2.1 _ q_1100) dX7_save_26 ?_
      refine g_Si (Y := YM) (n := 3) (k := 0) (As := [.long a3.toInt64, .long 0, .long 2]) (rest := []) vw_X7_75 ⟨Nat.le_of_ble_eq_true rfl, Nat.le_of_ble_eq_true rfl, Nat.zero_le _, Nat.zero_le _⟩ hc hw hl.1 (m_X7_in l hM a3.toInt64 0 2 σ4 h) rfl rfl (Nat.le_of_ble_eq_true rfl) dX7_save_29 (fun r8 σ7 H locs h hw => ?_)
      refine lv_if_ne (tgt := 38) hx hb dX7_save_32 (by decide) (fun c9 => ?_) (fun c9 => ?_)
      · replace h := h.2 c9
        refine lv_iconst (v := (-1)) hx hb dX7_save_38 (by decide) ?_
        refine lv_istore (lv' := [(4, .int (-1)), (0, .ref (ad 0)), (1, .int a1), (2, .int a2), (3, .int a3)]) hx hb dX7_save_39 hl (by decide) rfl (fun ls hl => ?_)
        refine lv_iconst (v := 0) hx hb dX7_save_41 (by decide) ?_
        refine lv_istore (lv' := [(5, .int 0), (4, .int (-1)), (0, .ref (ad 0)), (1, .int a1), (2, .int a2), (3, .int a3)]) hx hb dX7_save_42 hl (by decide) rfl (fun ls hl => ?_)
        refine lv_iconst (v := 0) hx hb dX7_save_44 (by decide) ?_
        refine lv_istore (lv' := [(6, .int 0), (5, .int 0), (4, .int (-1)), (0, .ref (ad 0)), (1, .int a1), (2, .int a2), (3, .int a3)]) hx hb dX7_save_45 hl (by decide) rfl (fun ls hl => ?_)
        refine lv_iconst (v := 0) hx hb dX7_save_47 (by decide) ?_
        refine lv_istore (lv' := [(7, .int 0), (6, .int 0), (5, .int 0), (4, .int (-1)), (0, .ref (ad 0)), (1, .int a1), (2, .int a2), (3, .int a3)]) hx hb dX7_save_48 hl (by decide) rfl (fun ls hl => ?_)
        obtain ⟨n, h⟩ := h
        exact bl_X7_save_50 hM hc hr n a1 a2 a3 (-1) 0 0 0 σ7 _ _ _ h  hw (lv_sub hl [4, 5, 6, 7, 3, 2, 1, 0] rfl)
      · replace h := h.1 c9
        refine lv_bipush (v := (-7)) hx hb dX7_save_35 (by decide) ?_
        exact g_iret hc hr hw h dX7_save_37
  · replace h := h.1 c3
    refine lv_bipush (v := (-5)) hx hb dX7_save_8 (by decide) ?_
    exact g_iret hc hr hw h dX7_save_10
def w_X7_why_38 (M : Nat) (post : Int32 → St → Prop) (k_27 : Int32 → Int32 → St → Prop) (k_38 : Int32 → Int32 → Int32 → St → Prop) (v1 : Int32) (v2 : Int32) (v3 : Int32) (σ : St) : Prop :=
  (v1 ≤ v3 → (w_X7_holds M (fun r3 σ2 => ((r3 = 0 → (∀ x5 : Int32, x5 = v2 + 1 → (k_27 v1 x5 σ2))) ∧ (¬ (r3 = 0) → (post v2 σ2)))) σ)) ∧ (¬ (v1 ≤ v3) → ((v3 = v2 → (∀ x7 : Int32, x7 = v3 + 1 → (k_38 v1 v2 x7 σ))) ∧ (¬ (v3 = v2) → (w_X7_doesAct M (fun σ8 => (∀ x9 : Int32, x9 = v3 + 1 → (k_38 v1 v2 x9 σ8))) v3 σ))))
set_option maxHeartbeats 4000000 in
set_option maxRecDepth 20000 in
theorem b_X7_why_38 {Γ : Gm} {ad : Nat → Nat} {p : Program} {l : Launch} {e : Env} {s : State} {m : MethodId} {args : Array Value} {below : List Frame} {meth : Method} {c : Code} {M : Nat} (hM : 20 ≤ M) {post : Int32 → St → Prop} {k_27 : Int32 → Int32 → St → Prop} {k_38 : Int32 → Int32 → Int32 → St → Prop} (hk_27 : ∀ (v1 : Int32) (v2 : Int32) (σ : St) (H : Heap) (locs : List Loc) (ls : Array Slot), k_27 v1 v2 σ → WH Γ YM M ad σ s H locs → lv_has ls 4 [(0, .ref (ad 0)), (1, .int v1), (2, .int v2)] → W p l e (rmL 6 0 0) s m args below meth c H locs 0 0 (MQ below (va_Qi post (fun u t => WC Γ YM M ad u t) (AA Γ)) args s 0 0 (AA Γ)) (F0 m 27 ls [])) (hk_38 : ∀ (v1 : Int32) (v2 : Int32) (v3 : Int32) (σ : St) (H : Heap) (locs : List Loc) (ls : Array Slot), k_38 v1 v2 v3 σ → WH Γ YM M ad σ s H locs → lv_has ls 4 [(0, .ref (ad 0)), (1, .int v1), (2, .int v2), (3, .int v3)] → W p l e (rmL 6 0 0) s m args below meth c H locs 0 0 (MQ below (va_Qi post (fun u t => WC Γ YM M ad u t) (AA Γ)) args s 0 0 (AA Γ)) (F0 m 38 ls []))
    (v1 : Int32) (v2 : Int32) (v3 : Int32) (σ : St) (H : Heap) (locs : List Loc) (ls : Array Slot) (h : w_X7_why_38 M post k_27 k_38 v1 v2 v3 σ) (hc : CX Γ p s m args meth c cX7_why RX7 4) (hr : meth.sig.returnType = (Option.some Jvm.ClassFile.FieldType.int)) (hw : WH Γ YM M ad σ s H locs) (hl : lv_has ls 4 [(0, .ref (ad 0)), (1, .int v1), (2, .int v2), (3, .int v3)]) :
    W p l e (rmL 6 0 0) s m args below meth c H locs 0 0 (MQ below (va_Qi post (fun u t => WC Γ YM M ad u t) (AA Γ)) args s 0 0 (AA Γ)) (F0 m 38 ls []) := by
  have hx := hc.1
  have hb := hc.2.1
  unfold w_X7_why_38 at h
  refine lv_iload_n hx hb dX7_why_38 rfl (lv_at hl 3 rfl) ?_
  refine lv_iload_n hx hb dX7_why_39 rfl (lv_at hl 1 rfl) ?_
  refine lv_icmp_ge (tgt := 59) hx hb dX7_why_40 (by decide) (fun c1 => ?_) (fun c1 => ?_)
  · replace h := h.1 c1
    refine lv_aload_n hx hb dX7_why_59 rfl (lv_at hl 0 rfl) ?_
    refine g_Vi (Y := YM) (ci := 7) (n := 0) (k := 4) (As := []) (rest := []) rfl (by decide) vw_X7_274 ⟨Nat.le_of_ble_eq_true rfl, Nat.le_of_ble_eq_true rfl, Nat.zero_le _, Nat.zero_le _⟩ hc hw hl.1 (Nat.lt_of_lt_of_le (by decide) hM) rfl (m_X7_holds l hM σ h) rfl rfl (Nat.le_of_ble_eq_true rfl) dX7_why_60 (fun r3 σ2 H locs h hw => ?_)
    refine lv_if_eq (tgt := 68) hx hb dX7_why_63 (by decide) (fun c4 => ?_) (fun c4 => ?_)
    · replace h := h.1 c4
      obtain ⟨x5, ex5⟩ : ∃ z, z = v2 + 1 := ⟨_, rfl⟩
      replace h := h x5 ex5
      refine lv_iinc (v := x5) (lv' := [(2, .int x5), (0, .ref (ad 0)), (1, .int v1), (3, .int v3)]) hx hb dX7_why_68 hl (k := 2) rfl (by rw [ex5]; rfl) (by decide) rfl (fun ls hl => ?_)
      refine lv_goto (tgt := 27) hx hb dX7_why_71 (by decide) ?_
      exact hk_27 v1 x5 σ2 _ _ _ h  hw (lv_sub hl [1, 2, 0] rfl)
    · replace h := h.2 c4
      refine lv_iload_n hx hb dX7_why_66 rfl (lv_at hl 2 rfl) ?_
      exact g_iret hc hr hw h dX7_why_67
  · replace h := h.2 c1
    refine lv_iload_n hx hb dX7_why_43 rfl (lv_at hl 3 rfl) ?_
    refine lv_iload_n hx hb dX7_why_44 rfl (lv_at hl 2 rfl) ?_
    refine lv_icmp_eq (tgt := 53) hx hb dX7_why_45 (by decide) (fun c6 => ?_) (fun c6 => ?_)
    · replace h := h.1 c6
      obtain ⟨x7, ex7⟩ : ∃ z, z = v3 + 1 := ⟨_, rfl⟩
      replace h := h x7 ex7
      refine lv_iinc (v := x7) (lv' := [(3, .int x7), (0, .ref (ad 0)), (1, .int v1), (2, .int v2)]) hx hb dX7_why_53 hl (k := 3) rfl (by rw [ex7]; rfl) (by decide) rfl (fun ls hl => ?_)
      refine lv_goto (tgt := 38) hx hb dX7_why_56 (by decide) ?_
      exact hk_38 v1 v2 x7 σ _ _ _ h  hw (lv_sub hl [1, 2, 3, 0] rfl)
    · replace h := h.2 c6
      refine lv_aload_n hx hb dX7_why_48 rfl (lv_at hl 0 rfl) ?_
      refine lv_iload_n hx hb dX7_why_49 rfl (lv_at hl 3 rfl) ?_
      refine g_Vv (Y := YM) (ci := 7) (n := 1) (k := 4) (As := [.int v3]) (rest := []) rfl (by decide) vw_X7_251 ⟨Nat.le_of_ble_eq_true rfl, Nat.le_of_ble_eq_true rfl, Nat.zero_le _, Nat.zero_le _⟩ hc hw hl.1 (Nat.lt_of_lt_of_le (by decide) hM) rfl (m_X7_doesAct l hM v3 σ h) rfl rfl (Nat.le_of_ble_eq_true rfl) dX7_why_50 (fun σ8 H locs h hw => ?_)
      obtain ⟨x9, ex9⟩ : ∃ z, z = v3 + 1 := ⟨_, rfl⟩
      replace h := h x9 ex9
      refine lv_iinc (v := x9) (lv' := [(3, .int x9), (0, .ref (ad 0)), (1, .int v1), (2, .int v2)]) hx hb dX7_why_53 hl (k := 3) rfl (by rw [ex9]; rfl) (by decide) rfl (fun ls hl => ?_)
      refine lv_goto (tgt := 38) hx hb dX7_why_56 (by decide) ?_
      exact hk_38 v1 v2 x9 σ8 _ _ _ h  hw (lv_sub hl [1, 2, 3, 0] rfl)
def wl_X7_why_38 (M : Nat) (post : Int32 → St → Prop) (k_27 : Int32 → Int32 → St → Prop) : Nat → Int32 → Int32 → Int32 → St → Prop
  | 0, _, _, _, _ => False
  | n + 1, v1, v2, v3, σ => w_X7_why_38 M post k_27 (wl_X7_why_38 M post k_27 n) v1 v2 v3 σ
set_option maxHeartbeats 4000000 in
theorem bl_X7_why_38 {Γ : Gm} {ad : Nat → Nat} {p : Program} {l : Launch} {e : Env} {s : State} {m : MethodId} {args : Array Value} {below : List Frame} {meth : Method} {c : Code} {M : Nat} (hM : 20 ≤ M) {post : Int32 → St → Prop} {k_27 : Int32 → Int32 → St → Prop} (hk_27 : ∀ (v1 : Int32) (v2 : Int32) (σ : St) (H : Heap) (locs : List Loc) (ls : Array Slot), k_27 v1 v2 σ → WH Γ YM M ad σ s H locs → lv_has ls 4 [(0, .ref (ad 0)), (1, .int v1), (2, .int v2)] → W p l e (rmL 6 0 0) s m args below meth c H locs 0 0 (MQ below (va_Qi post (fun u t => WC Γ YM M ad u t) (AA Γ)) args s 0 0 (AA Γ)) (F0 m 27 ls []))
    (hc : CX Γ p s m args meth c cX7_why RX7 4) (hr : meth.sig.returnType = (Option.some Jvm.ClassFile.FieldType.int)) :
    ∀ (n : Nat) (v1 : Int32) (v2 : Int32) (v3 : Int32) (σ : St) (H : Heap) (locs : List Loc) (ls : Array Slot), wl_X7_why_38 M post k_27 n v1 v2 v3 σ → WH Γ YM M ad σ s H locs → lv_has ls 4 [(0, .ref (ad 0)), (1, .int v1), (2, .int v2), (3, .int v3)] → W p l e (rmL 6 0 0) s m args below meth c H locs 0 0 (MQ below (va_Qi post (fun u t => WC Γ YM M ad u t) (AA Γ)) args s 0 0 (AA Γ)) (F0 m 38 ls []) := by
  intro n
  induction n with
  | zero => intro v1 v2 v3 σ H locs ls h; exact h.elim
  | succ n ih =>
    intro v1 v2 v3 σ H locs ls h  hw hl
    exact b_X7_why_38 hM hk_27 ih v1 v2 v3 σ H locs ls h  hc hr hw hl
def w_X7_why_27 (M : Nat) (post : Int32 → St → Prop) (k_27 : Int32 → Int32 → St → Prop) (v1 : Int32) (v2 : Int32) (σ : St) : Prop :=
  (v1 ≤ v2 → (post (-1) σ)) ∧ (¬ (v1 ≤ v2) → (w_X7_begins M (fun σ2 => (∃ n, wl_X7_why_38 M post k_27 n v1 v2 0 σ2)) σ))
set_option maxHeartbeats 4000000 in
set_option maxRecDepth 20000 in
theorem b_X7_why_27 {Γ : Gm} {ad : Nat → Nat} {p : Program} {l : Launch} {e : Env} {s : State} {m : MethodId} {args : Array Value} {below : List Frame} {meth : Method} {c : Code} {M : Nat} (hM : 20 ≤ M) {post : Int32 → St → Prop} {k_27 : Int32 → Int32 → St → Prop} (hk_27 : ∀ (v1 : Int32) (v2 : Int32) (σ : St) (H : Heap) (locs : List Loc) (ls : Array Slot), k_27 v1 v2 σ → WH Γ YM M ad σ s H locs → lv_has ls 4 [(0, .ref (ad 0)), (1, .int v1), (2, .int v2)] → W p l e (rmL 6 0 0) s m args below meth c H locs 0 0 (MQ below (va_Qi post (fun u t => WC Γ YM M ad u t) (AA Γ)) args s 0 0 (AA Γ)) (F0 m 27 ls []))
    (v1 : Int32) (v2 : Int32) (σ : St) (H : Heap) (locs : List Loc) (ls : Array Slot) (h : w_X7_why_27 M post k_27 v1 v2 σ) (hc : CX Γ p s m args meth c cX7_why RX7 4) (hr : meth.sig.returnType = (Option.some Jvm.ClassFile.FieldType.int)) (hw : WH Γ YM M ad σ s H locs) (hl : lv_has ls 4 [(0, .ref (ad 0)), (1, .int v1), (2, .int v2)]) :
    W p l e (rmL 6 0 0) s m args below meth c H locs 0 0 (MQ below (va_Qi post (fun u t => WC Γ YM M ad u t) (AA Γ)) args s 0 0 (AA Γ)) (F0 m 27 ls []) := by
  have hx := hc.1
  have hb := hc.2.1
  unfold w_X7_why_27 at h
  refine lv_iload_n hx hb dX7_why_27 rfl (lv_at hl 2 rfl) ?_
  refine lv_iload_n hx hb dX7_why_28 rfl (lv_at hl 1 rfl) ?_
  refine lv_icmp_ge (tgt := 74) hx hb dX7_why_29 (by decide) (fun c1 => ?_) (fun c1 => ?_)
  · replace h := h.1 c1
    refine lv_iconst (v := (-1)) hx hb dX7_why_74 (by decide) ?_
    exact g_iret hc hr hw h dX7_why_75
  · replace h := h.2 c1
    refine lv_aload_n hx hb dX7_why_32 rfl (lv_at hl 0 rfl) ?_
    refine g_Vv (Y := YM) (ci := 7) (n := 0) (k := 0) (As := []) (rest := []) rfl (by decide) vw_X7_248 ⟨Nat.le_of_ble_eq_true rfl, Nat.le_of_ble_eq_true rfl, Nat.zero_le _, Nat.zero_le _⟩ hc hw hl.1 (Nat.lt_of_lt_of_le (by decide) hM) rfl (m_X7_begins l hM σ h) rfl rfl (Nat.le_of_ble_eq_true rfl) dX7_why_33 (fun σ2 H locs h hw => ?_)
    refine lv_iconst (v := 0) hx hb dX7_why_36 (by decide) ?_
    refine lv_istore_n (lv' := [(3, .int 0), (0, .ref (ad 0)), (1, .int v1), (2, .int v2)]) hx hb dX7_why_37 rfl hl (by decide) rfl (fun ls hl => ?_)
    obtain ⟨n, h⟩ := h
    exact bl_X7_why_38 hM hk_27 hc hr n v1 v2 0 σ2 _ _ _ h  hw (lv_sub hl [1, 2, 3, 0] rfl)
def wl_X7_why_27 (M : Nat) (post : Int32 → St → Prop) : Nat → Int32 → Int32 → St → Prop
  | 0, _, _, _ => False
  | n + 1, v1, v2, σ => w_X7_why_27 M post (wl_X7_why_27 M post n) v1 v2 σ
set_option maxHeartbeats 4000000 in
theorem bl_X7_why_27 {Γ : Gm} {ad : Nat → Nat} {p : Program} {l : Launch} {e : Env} {s : State} {m : MethodId} {args : Array Value} {below : List Frame} {meth : Method} {c : Code} {M : Nat} (hM : 20 ≤ M) {post : Int32 → St → Prop}
    (hc : CX Γ p s m args meth c cX7_why RX7 4) (hr : meth.sig.returnType = (Option.some Jvm.ClassFile.FieldType.int)) :
    ∀ (n : Nat) (v1 : Int32) (v2 : Int32) (σ : St) (H : Heap) (locs : List Loc) (ls : Array Slot), wl_X7_why_27 M post n v1 v2 σ → WH Γ YM M ad σ s H locs → lv_has ls 4 [(0, .ref (ad 0)), (1, .int v1), (2, .int v2)] → W p l e (rmL 6 0 0) s m args below meth c H locs 0 0 (MQ below (va_Qi post (fun u t => WC Γ YM M ad u t) (AA Γ)) args s 0 0 (AA Γ)) (F0 m 27 ls []) := by
  intro n
  induction n with
  | zero => intro v1 v2 σ H locs ls h; exact h.elim
  | succ n ih =>
    intro v1 v2 σ H locs ls h  hw hl
    exact b_X7_why_27 hM ih v1 v2 σ H locs ls h  hc hr hw hl
def w_X7_why (M : Nat) (post : Int32 → St → Prop) (a1 : Int32) (σ : St) : Prop :=
  w_X7_areActs M (fun r2 σ1 => ((r2 = 0 → (post (-5) σ1)) ∧ (¬ (r2 = 0) → (w_X7_goes M (fun σ4 => (w_X7_holds M (fun r6 σ5 => ((r6 = 0 → (∃ n, wl_X7_why_27 M post n a1 0 σ5)) ∧ (¬ (r6 = 0) → (post (-1) σ5)))) σ4)) a1 σ1)))) a1 σ
set_option maxHeartbeats 4000000 in
set_option maxRecDepth 20000 in
theorem m_X7_why {Γ : Gm} {ad : Nat → Nat} {M : Nat} (l : Launch) (hM : 20 ≤ M) {post : Int32 → St → Prop} (a1 : Int32) (σ : St) (h : w_X7_why M post a1 σ) : Ci l Γ YM M ad σ yX7_why cX7_why 4 (Option.some Jvm.ClassFile.FieldType.int) 6 0 0 [.ref (ad 0), .int a1] post := by
  refine g_start (by decide) (Nat.le_of_ble_eq_true rfl) ?_
  intro p e s m args below meth c ls hc hr hn hl hw
  have hc : CX Γ p s m args meth c cX7_why RX7 4 := hc
  have hl : lv_has ls 4 [(0, .ref (ad 0)), (1, .int a1)] := hl
  have hx := hc.1
  have hb := hc.2.1
  unfold w_X7_why at h
  generalize hHH : s.heap = H0 at hw ⊢
  refine lv_aload_n hx hb dX7_why_0 rfl (lv_at hl 0 rfl) ?_
  refine lv_iload_n hx hb dX7_why_1 rfl (lv_at hl 1 rfl) ?_
  refine g_Vi (Y := YM) (ci := 7) (n := 1) (k := 1) (As := [.int a1]) (rest := []) rfl (by decide) vw_X7_263 ⟨Nat.le_of_ble_eq_true rfl, Nat.le_of_ble_eq_true rfl, Nat.zero_le _, Nat.zero_le _⟩ hc hw hl.1 (Nat.lt_of_lt_of_le (by decide) hM) rfl (m_X7_areActs l hM a1 σ h) rfl rfl (Nat.le_of_ble_eq_true rfl) dX7_why_2 (fun r2 σ1 H locs h hw => ?_)
  refine lv_if_ne (tgt := 11) hx hb dX7_why_5 (by decide) (fun c3 => ?_) (fun c3 => ?_)
  · replace h := h.2 c3
    refine lv_aload_n hx hb dX7_why_11 rfl (lv_at hl 0 rfl) ?_
    refine lv_iload_n hx hb dX7_why_12 rfl (lv_at hl 1 rfl) ?_
    refine g_Vv (Y := YM) (ci := 7) (n := 1) (k := 5) (As := [.int a1]) (rest := []) rfl (by decide) vw_X7_268 ⟨Nat.le_of_ble_eq_true rfl, Nat.le_of_ble_eq_true rfl, Nat.zero_le _, Nat.zero_le _⟩ hc hw hl.1 (Nat.lt_of_lt_of_le (by decide) hM) rfl (m_X7_goes l hM a1 σ1 h) rfl rfl (Nat.le_of_ble_eq_true rfl) dX7_why_13 (fun σ4 H locs h hw => ?_)
    refine lv_aload_n hx hb dX7_why_16 rfl (lv_at hl 0 rfl) ?_
    refine g_Vi (Y := YM) (ci := 7) (n := 0) (k := 4) (As := []) (rest := []) rfl (by decide) vw_X7_274 ⟨Nat.le_of_ble_eq_true rfl, Nat.le_of_ble_eq_true rfl, Nat.zero_le _, Nat.zero_le _⟩ hc hw hl.1 (Nat.lt_of_lt_of_le (by decide) hM) rfl (m_X7_holds l hM σ4 h) rfl rfl (Nat.le_of_ble_eq_true rfl) dX7_why_17 (fun r6 σ5 H locs h hw => ?_)
    refine lv_if_eq (tgt := 25) hx hb dX7_why_20 (by decide) (fun c7 => ?_) (fun c7 => ?_)
    · replace h := h.1 c7
      refine lv_iconst (v := 0) hx hb dX7_why_25 (by decide) ?_
      refine lv_istore_n (lv' := [(2, .int 0), (0, .ref (ad 0)), (1, .int a1)]) hx hb dX7_why_26 rfl hl (by decide) rfl (fun ls hl => ?_)
      obtain ⟨n, h⟩ := h
      exact bl_X7_why_27 hM hc hr n a1 0 σ5 _ _ _ h  hw (lv_sub hl [1, 2, 0] rfl)
    · replace h := h.2 c7
      refine lv_iconst (v := (-1)) hx hb dX7_why_23 (by decide) ?_
      exact g_iret hc hr hw h dX7_why_24
  · replace h := h.1 c3
    refine lv_bipush (v := (-5)) hx hb dX7_why_8 (by decide) ?_
    exact g_iret hc hr hw h dX7_why_10
def w_X7_order_51 (M : Nat) (post : Int32 → St → Prop) (k_33 : Int32 → Int32 → Int32 → Int32 → St → Prop) (k_51 : Int32 → Int32 → Int32 → Int32 → Int32 → St → Prop) (v1 : Int32) (v2 : Int32) (v3 : Int32) (v4 : Int32) (v5 : Int32) (σ : St) : Prop :=
  ((gi σ 0 21) ≤ v5 → ((v2 ≤ (gi σ 13 4) → (∀ x3 : Int32, x3 = v4 + 1 → (k_33 v1 v2 v3 x3 σ))) ∧ (¬ (v2 ≤ (gi σ 13 4)) → (∀ x4 : Int32, x4 = v4 + 1 → (k_33 v1 (gi σ 13 4) v4 x4 σ))))) ∧ (¬ ((gi σ 0 21) ≤ v5) → ((v5 = v4 → (w_X7_doesAct M (fun σ11 => (∀ x12 : Int32, x12 = v5 + 1 → (k_51 v1 v2 v3 v4 x12 σ11))) (v4 + 1) σ)) ∧ (¬ (v5 = v4) → ((v5 = (v4 + 1) → (w_X7_doesAct M (fun σ9 => (∀ x10 : Int32, x10 = v5 + 1 → (k_51 v1 v2 v3 v4 x10 σ9))) v4 σ)) ∧ (¬ (v5 = (v4 + 1)) → (w_X7_doesAct M (fun σ7 => (∀ x8 : Int32, x8 = v5 + 1 → (k_51 v1 v2 v3 v4 x8 σ7))) v5 σ))))))
set_option maxHeartbeats 4000000 in
set_option maxRecDepth 20000 in
theorem b_X7_order_51 {Γ : Gm} {ad : Nat → Nat} {p : Program} {l : Launch} {e : Env} {s : State} {m : MethodId} {args : Array Value} {below : List Frame} {meth : Method} {c : Code} {M : Nat} (hM : 20 ≤ M) {post : Int32 → St → Prop} {k_33 : Int32 → Int32 → Int32 → Int32 → St → Prop} {k_51 : Int32 → Int32 → Int32 → Int32 → Int32 → St → Prop} (hk_33 : ∀ (v1 : Int32) (v2 : Int32) (v3 : Int32) (v4 : Int32) (σ : St) (H : Heap) (locs : List Loc) (ls : Array Slot), k_33 v1 v2 v3 v4 σ → WH Γ YM M ad σ s H locs → lv_has ls 6 [(0, .ref (ad 0)), (1, .int v1), (2, .int v2), (3, .int v3), (4, .int v4)] → W p l e (rmL 6 0 0) s m args below meth c H locs 0 0 (MQ below (va_Qi post (fun u t => WC Γ YM M ad u t) (AA Γ)) args s 0 0 (AA Γ)) (F0 m 33 ls [])) (hk_51 : ∀ (v1 : Int32) (v2 : Int32) (v3 : Int32) (v4 : Int32) (v5 : Int32) (σ : St) (H : Heap) (locs : List Loc) (ls : Array Slot), k_51 v1 v2 v3 v4 v5 σ → WH Γ YM M ad σ s H locs → lv_has ls 6 [(0, .ref (ad 0)), (1, .int v1), (2, .int v2), (3, .int v3), (4, .int v4), (5, .int v5)] → W p l e (rmL 6 0 0) s m args below meth c H locs 0 0 (MQ below (va_Qi post (fun u t => WC Γ YM M ad u t) (AA Γ)) args s 0 0 (AA Γ)) (F0 m 51 ls []))
    (v1 : Int32) (v2 : Int32) (v3 : Int32) (v4 : Int32) (v5 : Int32) (σ : St) (H : Heap) (locs : List Loc) (ls : Array Slot) (h : w_X7_order_51 M post k_33 k_51 v1 v2 v3 v4 v5 σ) (hc : CX Γ p s m args meth c cX7_order RX7 6) (hr : meth.sig.returnType = (Option.some Jvm.ClassFile.FieldType.int)) (hw : WH Γ YM M ad σ s H locs) (hl : lv_has ls 6 [(0, .ref (ad 0)), (1, .int v1), (2, .int v2), (3, .int v3), (4, .int v4), (5, .int v5)]) :
    W p l e (rmL 6 0 0) s m args below meth c H locs 0 0 (MQ below (va_Qi post (fun u t => WC Γ YM M ad u t) (AA Γ)) args s 0 0 (AA Γ)) (F0 m 51 ls []) := by
  have hx := hc.1
  have hb := hc.2.1
  unfold w_X7_order_51 at h
  refine lv_iload hx hb dX7_order_51 (lv_at hl 5 rfl) ?_
  refine lv_aload_n hx hb dX7_order_53 rfl (lv_at hl 0 rfl) ?_
  refine fg_X7_95 hc hw (Nat.lt_of_lt_of_le (by decide) hM) rfl dX7_order_54 ?_
  refine lv_icmp_ge (tgt := 100) hx hb dX7_order_57 (by decide) (fun c1 => ?_) (fun c1 => ?_)
  · replace h := h.1 c1
    refine lv_aload_n hx hb dX7_order_100 rfl (lv_at hl 0 rfl) ?_
    refine fg_X7_47 hc hw (Nat.lt_of_lt_of_le (by decide) hM) rfl dX7_order_101 ?_
    refine lv_iconst (v := 4) hx hb dX7_order_104 (by decide) ?_
    refine g_ialdK (Y := YM) (kd := 33) (n := 14) (k := 4) (o := 13) (by decide) (by decide) rfl hc hw (Nat.lt_of_lt_of_le (by decide) hM) rfl rfl (vp_in_lit (by decide)) (by decide) dX7_order_105 ?_
    refine lv_iload_n hx hb dX7_order_106 rfl (lv_at hl 2 rfl) ?_
    refine lv_icmp_ge (tgt := 120) hx hb dX7_order_107 (by decide) (fun c2 => ?_) (fun c2 => ?_)
    · replace h := h.1 c2
      obtain ⟨x3, ex3⟩ : ∃ z, z = v4 + 1 := ⟨_, rfl⟩
      replace h := h x3 ex3
      refine lv_iinc (v := x3) (lv' := [(4, .int x3), (0, .ref (ad 0)), (1, .int v1), (2, .int v2), (3, .int v3), (5, .int v5)]) hx hb dX7_order_120 hl (k := 4) rfl (by rw [ex3]; rfl) (by decide) rfl (fun ls hl => ?_)
      refine lv_goto (tgt := 33) hx hb dX7_order_123 (by decide) ?_
      exact hk_33 v1 v2 v3 x3 σ _ _ _ h  hw (lv_sub hl [1, 2, 3, 4, 0] rfl)
    · replace h := h.2 c2
      refine lv_iload hx hb dX7_order_110 (lv_at hl 4 rfl) ?_
      refine lv_istore_n (lv' := [(3, .int v4), (0, .ref (ad 0)), (1, .int v1), (2, .int v2), (4, .int v4), (5, .int v5)]) hx hb dX7_order_112 rfl hl (by decide) rfl (fun ls hl => ?_)
      refine lv_aload_n hx hb dX7_order_113 rfl (lv_at hl 1 rfl) ?_
      refine fg_X7_47 hc hw (Nat.lt_of_lt_of_le (by decide) hM) rfl dX7_order_114 ?_
      refine lv_iconst (v := 4) hx hb dX7_order_117 (by decide) ?_
      refine g_ialdK (Y := YM) (kd := 33) (n := 14) (k := 4) (o := 13) (by decide) (by decide) rfl hc hw (Nat.lt_of_lt_of_le (by decide) hM) rfl rfl (vp_in_lit (by decide)) (by decide) dX7_order_118 ?_
      refine lv_istore_n (lv' := [(2, .int (gi σ 13 4)), (3, .int v4), (0, .ref (ad 0)), (1, .int v1), (4, .int v4), (5, .int v5)]) hx hb dX7_order_119 rfl hl (by decide) rfl (fun ls hl => ?_)
      obtain ⟨x4, ex4⟩ : ∃ z, z = v4 + 1 := ⟨_, rfl⟩
      replace h := h x4 ex4
      refine lv_iinc (v := x4) (lv' := [(4, .int x4), (2, .int (gi σ 13 4)), (3, .int v4), (0, .ref (ad 0)), (1, .int v1), (5, .int v5)]) hx hb dX7_order_120 hl (k := 4) rfl (by rw [ex4]; rfl) (by decide) rfl (fun ls hl => ?_)
      refine lv_goto (tgt := 33) hx hb dX7_order_123 (by decide) ?_
      exact hk_33 v1 (gi σ 13 4) v4 x4 σ _ _ _ h  hw (lv_sub hl [3, 4, 1, 2, 0] rfl)
  · replace h := h.2 c1
    refine lv_aload_n hx hb dX7_order_60 rfl (lv_at hl 0 rfl) ?_
    refine lv_iload hx hb dX7_order_61 (lv_at hl 5 rfl) ?_
    refine lv_iload hx hb dX7_order_63 (lv_at hl 4 rfl) ?_
    refine lv_icmp_ne (tgt := 75) hx hb dX7_order_65 (by decide) (fun c5 => ?_) (fun c5 => ?_)
    · replace h := h.2 c5
      refine lv_iload hx hb dX7_order_75 (lv_at hl 5 rfl) ?_
      refine lv_iload hx hb dX7_order_77 (lv_at hl 4 rfl) ?_
      refine lv_iconst (v := 1) hx hb dX7_order_79 (by decide) ?_
      refine lv_iadd hx hb dX7_order_80 ?_
      refine lv_icmp_ne (tgt := 89) hx hb dX7_order_81 (by decide) (fun c6 => ?_) (fun c6 => ?_)
      · replace h := h.2 c6
        refine lv_iload hx hb dX7_order_89 (lv_at hl 5 rfl) ?_
        refine g_Vv (Y := YM) (ci := 7) (n := 1) (k := 4) (As := [.int v5]) (rest := []) rfl (by decide) vw_X7_251 ⟨Nat.le_of_ble_eq_true rfl, Nat.le_of_ble_eq_true rfl, Nat.zero_le _, Nat.zero_le _⟩ hc hw hl.1 (Nat.lt_of_lt_of_le (by decide) hM) rfl (m_X7_doesAct l hM v5 σ h) rfl rfl (Nat.le_of_ble_eq_true rfl) dX7_order_91 (fun σ7 H locs h hw => ?_)
        obtain ⟨x8, ex8⟩ : ∃ z, z = v5 + 1 := ⟨_, rfl⟩
        replace h := h x8 ex8
        refine lv_iinc (v := x8) (lv' := [(5, .int x8), (0, .ref (ad 0)), (1, .int v1), (2, .int v2), (3, .int v3), (4, .int v4)]) hx hb dX7_order_94 hl (k := 5) rfl (by rw [ex8]; rfl) (by decide) rfl (fun ls hl => ?_)
        refine lv_goto (tgt := 51) hx hb dX7_order_97 (by decide) ?_
        exact hk_51 v1 v2 v3 v4 x8 σ7 _ _ _ h  hw (lv_sub hl [1, 2, 3, 4, 5, 0] rfl)
      · replace h := h.1 c6
        refine lv_iload hx hb dX7_order_84 (lv_at hl 4 rfl) ?_
        refine lv_goto (tgt := 91) hx hb dX7_order_86 (by decide) ?_
        refine g_Vv (Y := YM) (ci := 7) (n := 1) (k := 4) (As := [.int v4]) (rest := []) rfl (by decide) vw_X7_251 ⟨Nat.le_of_ble_eq_true rfl, Nat.le_of_ble_eq_true rfl, Nat.zero_le _, Nat.zero_le _⟩ hc hw hl.1 (Nat.lt_of_lt_of_le (by decide) hM) rfl (m_X7_doesAct l hM v4 σ h) rfl rfl (Nat.le_of_ble_eq_true rfl) dX7_order_91 (fun σ9 H locs h hw => ?_)
        obtain ⟨x10, ex10⟩ : ∃ z, z = v5 + 1 := ⟨_, rfl⟩
        replace h := h x10 ex10
        refine lv_iinc (v := x10) (lv' := [(5, .int x10), (0, .ref (ad 0)), (1, .int v1), (2, .int v2), (3, .int v3), (4, .int v4)]) hx hb dX7_order_94 hl (k := 5) rfl (by rw [ex10]; rfl) (by decide) rfl (fun ls hl => ?_)
        refine lv_goto (tgt := 51) hx hb dX7_order_97 (by decide) ?_
        exact hk_51 v1 v2 v3 v4 x10 σ9 _ _ _ h  hw (lv_sub hl [1, 2, 3, 4, 5, 0] rfl)
    · replace h := h.1 c5
      refine lv_iload hx hb dX7_order_68 (lv_at hl 4 rfl) ?_
      refine lv_iconst (v := 1) hx hb dX7_order_70 (by decide) ?_
      refine lv_iadd hx hb dX7_order_71 ?_
      refine lv_goto (tgt := 91) hx hb dX7_order_72 (by decide) ?_
      refine g_Vv (Y := YM) (ci := 7) (n := 1) (k := 4) (As := [.int (v4 + 1)]) (rest := []) rfl (by decide) vw_X7_251 ⟨Nat.le_of_ble_eq_true rfl, Nat.le_of_ble_eq_true rfl, Nat.zero_le _, Nat.zero_le _⟩ hc hw hl.1 (Nat.lt_of_lt_of_le (by decide) hM) rfl (m_X7_doesAct l hM (v4 + 1) σ h) rfl rfl (Nat.le_of_ble_eq_true rfl) dX7_order_91 (fun σ11 H locs h hw => ?_)
      obtain ⟨x12, ex12⟩ : ∃ z, z = v5 + 1 := ⟨_, rfl⟩
      replace h := h x12 ex12
      refine lv_iinc (v := x12) (lv' := [(5, .int x12), (0, .ref (ad 0)), (1, .int v1), (2, .int v2), (3, .int v3), (4, .int v4)]) hx hb dX7_order_94 hl (k := 5) rfl (by rw [ex12]; rfl) (by decide) rfl (fun ls hl => ?_)
      refine lv_goto (tgt := 51) hx hb dX7_order_97 (by decide) ?_
      exact hk_51 v1 v2 v3 v4 x12 σ11 _ _ _ h  hw (lv_sub hl [1, 2, 3, 4, 5, 0] rfl)
def wl_X7_order_51 (M : Nat) (post : Int32 → St → Prop) (k_33 : Int32 → Int32 → Int32 → Int32 → St → Prop) : Nat → Int32 → Int32 → Int32 → Int32 → Int32 → St → Prop
  | 0, _, _, _, _, _, _ => False
  | n + 1, v1, v2, v3, v4, v5, σ => w_X7_order_51 M post k_33 (wl_X7_order_51 M post k_33 n) v1 v2 v3 v4 v5 σ
set_option maxHeartbeats 4000000 in
theorem bl_X7_order_51 {Γ : Gm} {ad : Nat → Nat} {p : Program} {l : Launch} {e : Env} {s : State} {m : MethodId} {args : Array Value} {below : List Frame} {meth : Method} {c : Code} {M : Nat} (hM : 20 ≤ M) {post : Int32 → St → Prop} {k_33 : Int32 → Int32 → Int32 → Int32 → St → Prop} (hk_33 : ∀ (v1 : Int32) (v2 : Int32) (v3 : Int32) (v4 : Int32) (σ : St) (H : Heap) (locs : List Loc) (ls : Array Slot), k_33 v1 v2 v3 v4 σ → WH Γ YM M ad σ s H locs → lv_has ls 6 [(0, .ref (ad 0)), (1, .int v1), (2, .int v2), (3, .int v3), (4, .int v4)] → W p l e (rmL 6 0 0) s m args below meth c H locs 0 0 (MQ below (va_Qi post (fun u t => WC Γ YM M ad u t) (AA Γ)) args s 0 0 (AA Γ)) (F0 m 33 ls []))
    (hc : CX Γ p s m args meth c cX7_order RX7 6) (hr : meth.sig.returnType = (Option.some Jvm.ClassFile.FieldType.int)) :
    ∀ (n : Nat) (v1 : Int32) (v2 : Int32) (v3 : Int32) (v4 : Int32) (v5 : Int32) (σ : St) (H : Heap) (locs : List Loc) (ls : Array Slot), wl_X7_order_51 M post k_33 n v1 v2 v3 v4 v5 σ → WH Γ YM M ad σ s H locs → lv_has ls 6 [(0, .ref (ad 0)), (1, .int v1), (2, .int v2), (3, .int v3), (4, .int v4), (5, .int v5)] → W p l e (rmL 6 0 0) s m args below meth c H locs 0 0 (MQ below (va_Qi post (fun u t => WC Γ YM M ad u t) (AA Γ)) args s 0 0 (AA Γ)) (F0 m 51 ls []) := by
  intro n
  induction n with
  | zero => intro v1 v2 v3 v4 v5 σ H locs ls h; exact h.elim
  | succ n ih =>
    intro v1 v2 v3 v4 v5 σ H locs ls h  hw hl
    exact b_X7_order_51 hM hk_33 ih v1 v2 v3 v4 v5 σ H locs ls h  hc hr hw hl
def w_X7_order_33 (M : Nat) (post : Int32 → St → Prop) (k_33 : Int32 → Int32 → Int32 → Int32 → St → Prop) (v1 : Int32) (v2 : Int32) (v3 : Int32) (v4 : Int32) (σ : St) : Prop :=
  ((gi σ 0 21) ≤ (v4 + 1) → ((v1 = 0 → (post v3 σ)) ∧ (¬ (v1 = 0) → (post v2 σ)))) ∧ (¬ ((gi σ 0 21) ≤ (v4 + 1)) → (w_X7_begins M (fun σ3 => (∃ n, wl_X7_order_51 M post k_33 n v1 v2 v3 v4 0 σ3)) σ))
set_option maxHeartbeats 4000000 in
set_option maxRecDepth 20000 in
theorem b_X7_order_33 {Γ : Gm} {ad : Nat → Nat} {p : Program} {l : Launch} {e : Env} {s : State} {m : MethodId} {args : Array Value} {below : List Frame} {meth : Method} {c : Code} {M : Nat} (hM : 20 ≤ M) {post : Int32 → St → Prop} {k_33 : Int32 → Int32 → Int32 → Int32 → St → Prop} (hk_33 : ∀ (v1 : Int32) (v2 : Int32) (v3 : Int32) (v4 : Int32) (σ : St) (H : Heap) (locs : List Loc) (ls : Array Slot), k_33 v1 v2 v3 v4 σ → WH Γ YM M ad σ s H locs → lv_has ls 6 [(0, .ref (ad 0)), (1, .int v1), (2, .int v2), (3, .int v3), (4, .int v4)] → W p l e (rmL 6 0 0) s m args below meth c H locs 0 0 (MQ below (va_Qi post (fun u t => WC Γ YM M ad u t) (AA Γ)) args s 0 0 (AA Γ)) (F0 m 33 ls []))
    (v1 : Int32) (v2 : Int32) (v3 : Int32) (v4 : Int32) (σ : St) (H : Heap) (locs : List Loc) (ls : Array Slot) (h : w_X7_order_33 M post k_33 v1 v2 v3 v4 σ) (hc : CX Γ p s m args meth c cX7_order RX7 6) (hr : meth.sig.returnType = (Option.some Jvm.ClassFile.FieldType.int)) (hw : WH Γ YM M ad σ s H locs) (hl : lv_has ls 6 [(0, .ref (ad 0)), (1, .int v1), (2, .int v2), (3, .int v3), (4, .int v4)]) :
    W p l e (rmL 6 0 0) s m args below meth c H locs 0 0 (MQ below (va_Qi post (fun u t => WC Γ YM M ad u t) (AA Γ)) args s 0 0 (AA Γ)) (F0 m 33 ls []) := by
  have hx := hc.1
  have hb := hc.2.1
  unfold w_X7_order_33 at h
  refine lv_iload hx hb dX7_order_33 (lv_at hl 4 rfl) ?_
  refine lv_iconst (v := 1) hx hb dX7_order_35 (by decide) ?_
  refine lv_iadd hx hb dX7_order_36 ?_
  refine lv_aload_n hx hb dX7_order_37 rfl (lv_at hl 0 rfl) ?_
  refine fg_X7_95 hc hw (Nat.lt_of_lt_of_le (by decide) hM) rfl dX7_order_38 ?_
  refine lv_icmp_ge (tgt := 126) hx hb dX7_order_41 (by decide) (fun c1 => ?_) (fun c1 => ?_)
  · replace h := h.1 c1
    refine lv_iload_n hx hb dX7_order_126 rfl (lv_at hl 1 rfl) ?_
    refine lv_if_ne (tgt := 134) hx hb dX7_order_127 (by decide) (fun c2 => ?_) (fun c2 => ?_)
    · replace h := h.2 c2
      refine lv_iload_n hx hb dX7_order_134 rfl (lv_at hl 2 rfl) ?_
      exact g_iret hc hr hw h dX7_order_135
    · replace h := h.1 c2
      refine lv_iload_n hx hb dX7_order_130 rfl (lv_at hl 3 rfl) ?_
      refine lv_goto (tgt := 135) hx hb dX7_order_131 (by decide) ?_
      exact g_iret hc hr hw h dX7_order_135
  · replace h := h.2 c1
    refine lv_aload_n hx hb dX7_order_44 rfl (lv_at hl 0 rfl) ?_
    refine g_Vv (Y := YM) (ci := 7) (n := 0) (k := 0) (As := []) (rest := []) rfl (by decide) vw_X7_248 ⟨Nat.le_of_ble_eq_true rfl, Nat.le_of_ble_eq_true rfl, Nat.zero_le _, Nat.zero_le _⟩ hc hw hl.1 (Nat.lt_of_lt_of_le (by decide) hM) rfl (m_X7_begins l hM σ h) rfl rfl (Nat.le_of_ble_eq_true rfl) dX7_order_45 (fun σ3 H locs h hw => ?_)
    refine lv_iconst (v := 0) hx hb dX7_order_48 (by decide) ?_
    refine lv_istore (lv' := [(5, .int 0), (0, .ref (ad 0)), (1, .int v1), (2, .int v2), (3, .int v3), (4, .int v4)]) hx hb dX7_order_49 hl (by decide) rfl (fun ls hl => ?_)
    obtain ⟨n, h⟩ := h
    exact bl_X7_order_51 hM hk_33 hc hr n v1 v2 v3 v4 0 σ3 _ _ _ h  hw (lv_sub hl [1, 2, 3, 4, 5, 0] rfl)
def wl_X7_order_33 (M : Nat) (post : Int32 → St → Prop) : Nat → Int32 → Int32 → Int32 → Int32 → St → Prop
  | 0, _, _, _, _, _ => False
  | n + 1, v1, v2, v3, v4, σ => w_X7_order_33 M post (wl_X7_order_33 M post n) v1 v2 v3 v4 σ
set_option maxHeartbeats 4000000 in
theorem bl_X7_order_33 {Γ : Gm} {ad : Nat → Nat} {p : Program} {l : Launch} {e : Env} {s : State} {m : MethodId} {args : Array Value} {below : List Frame} {meth : Method} {c : Code} {M : Nat} (hM : 20 ≤ M) {post : Int32 → St → Prop}
    (hc : CX Γ p s m args meth c cX7_order RX7 6) (hr : meth.sig.returnType = (Option.some Jvm.ClassFile.FieldType.int)) :
    ∀ (n : Nat) (v1 : Int32) (v2 : Int32) (v3 : Int32) (v4 : Int32) (σ : St) (H : Heap) (locs : List Loc) (ls : Array Slot), wl_X7_order_33 M post n v1 v2 v3 v4 σ → WH Γ YM M ad σ s H locs → lv_has ls 6 [(0, .ref (ad 0)), (1, .int v1), (2, .int v2), (3, .int v3), (4, .int v4)] → W p l e (rmL 6 0 0) s m args below meth c H locs 0 0 (MQ below (va_Qi post (fun u t => WC Γ YM M ad u t) (AA Γ)) args s 0 0 (AA Γ)) (F0 m 33 ls []) := by
  intro n
  induction n with
  | zero => intro v1 v2 v3 v4 σ H locs ls h; exact h.elim
  | succ n ih =>
    intro v1 v2 v3 v4 σ H locs ls h  hw hl
    exact b_X7_order_33 hM ih v1 v2 v3 v4 σ H locs ls h  hc hr hw hl
def w_X7_order (M : Nat) (post : Int32 → St → Prop) (a1 : Int32) (σ : St) : Prop :=
  w_X7_in M (fun r2 σ1 => ((r2 = 0 → (post (-2) σ1)) ∧ (¬ (r2 = 0) → (w_X7_goes M (fun σ4 => (∃ n, wl_X7_order_33 M post n a1 (gi σ4 13 4) (-1) 0 σ4)) (gi σ1 0 21) σ1)))) a1.toInt64 0 1 σ
set_option maxHeartbeats 4000000 in
set_option maxRecDepth 20000 in
theorem m_X7_order {Γ : Gm} {ad : Nat → Nat} {M : Nat} (l : Launch) (hM : 20 ≤ M) {post : Int32 → St → Prop} (a1 : Int32) (σ : St) (h : w_X7_order M post a1 σ) : Ci l Γ YM M ad σ yX7_order cX7_order 6 (Option.some Jvm.ClassFile.FieldType.int) 6 0 0 [.ref (ad 0), .int a1] post := by
  refine g_start (by decide) (Nat.le_of_ble_eq_true rfl) ?_
  intro p e s m args below meth c ls hc hr hn hl hw
  have hc : CX Γ p s m args meth c cX7_order RX7 6 := hc
  have hl : lv_has ls 6 [(0, .ref (ad 0)), (1, .int a1)] := hl
  have hx := hc.1
  have hb := hc.2.1
  unfold w_X7_order at h
  generalize hHH : s.heap = H0 at hw ⊢
  refine lv_iload_n hx hb dX7_order_0 rfl (lv_at hl 1 rfl) ?_
  refine lv_i2l (v := a1.toInt64) hx hb dX7_order_1 rfl ?_
  refine lv_lconst (v := 0) hx hb dX7_order_2 (by decide) ?_
  refine lv_lconst (v := 1) hx hb dX7_order_3 (by decide) ?_
  refine g_Si (Y := YM) (n := 3) (k := 0) (As := [.long a1.toInt64, .long 0, .long 1]) (rest := []) vw_X7_75 ⟨Nat.le_of_ble_eq_true rfl, Nat.le_of_ble_eq_true rfl, Nat.zero_le _, Nat.zero_le _⟩ hc hw hl.1 (m_X7_in l hM a1.toInt64 0 1 σ h) rfl rfl (Nat.le_of_ble_eq_true rfl) dX7_order_4 (fun r2 σ1 H locs h hw => ?_)
  refine lv_if_ne (tgt := 13) hx hb dX7_order_7 (by decide) (fun c3 => ?_) (fun c3 => ?_)
  · replace h := h.2 c3
    refine lv_aload_n hx hb dX7_order_13 rfl (lv_at hl 0 rfl) ?_
    refine lv_aload_n hx hb dX7_order_14 rfl (lv_at hl 0 rfl) ?_
    refine fg_X7_95 hc hw (Nat.lt_of_lt_of_le (by decide) hM) rfl dX7_order_15 ?_
    refine g_Vv (Y := YM) (ci := 7) (n := 1) (k := 5) (As := [.int (gi σ1 0 21)]) (rest := []) rfl (by decide) vw_X7_268 ⟨Nat.le_of_ble_eq_true rfl, Nat.le_of_ble_eq_true rfl, Nat.zero_le _, Nat.zero_le _⟩ hc hw hl.1 (Nat.lt_of_lt_of_le (by decide) hM) rfl (m_X7_goes l hM (gi σ1 0 21) σ1 h) rfl rfl (Nat.le_of_ble_eq_true rfl) dX7_order_18 (fun σ4 H locs h hw => ?_)
    refine lv_aload_n hx hb dX7_order_21 rfl (lv_at hl 0 rfl) ?_
    refine fg_X7_47 hc hw (Nat.lt_of_lt_of_le (by decide) hM) rfl dX7_order_22 ?_
    refine lv_iconst (v := 4) hx hb dX7_order_25 (by decide) ?_
    refine g_ialdK (Y := YM) (kd := 33) (n := 14) (k := 4) (o := 13) (by decide) (by decide) rfl hc hw (Nat.lt_of_lt_of_le (by decide) hM) rfl rfl (vp_in_lit (by decide)) (by decide) dX7_order_26 ?_
    refine lv_istore_n (lv' := [(2, .int (gi σ4 13 4)), (0, .ref (ad 0)), (1, .int a1)]) hx hb dX7_order_27 rfl hl (by decide) rfl (fun ls hl => ?_)
    refine lv_iconst (v := (-1)) hx hb dX7_order_28 (by decide) ?_
    refine lv_istore_n (lv' := [(3, .int (-1)), (2, .int (gi σ4 13 4)), (0, .ref (ad 0)), (1, .int a1)]) hx hb dX7_order_29 rfl hl (by decide) rfl (fun ls hl => ?_)
    refine lv_iconst (v := 0) hx hb dX7_order_30 (by decide) ?_
    refine lv_istore (lv' := [(4, .int 0), (3, .int (-1)), (2, .int (gi σ4 13 4)), (0, .ref (ad 0)), (1, .int a1)]) hx hb dX7_order_31 hl (by decide) rfl (fun ls hl => ?_)
    obtain ⟨n, h⟩ := h
    exact bl_X7_order_33 hM hc hr n a1 (gi σ4 13 4) (-1) 0 σ4 _ _ _ h  hw (lv_sub hl [3, 4, 2, 1, 0] rfl)
  · replace h := h.1 c3
    refine lv_bipush (v := (-2)) hx hb dX7_order_10 (by decide) ?_
    exact g_iret hc hr hw h dX7_order_12
def w_X7_strokes_33 (M : Nat) (post : Int32 → St → Prop) (k_33 : Int32 → Int32 → St → Prop) (v2 : Int32) (v3 : Int32) (σ : St) : Prop :=
  (60 < v3 → (post (-1) σ)) ∧ (¬ (60 < v3) → (((gi σ 13 4) = 0 → (post v3 σ)) ∧ (¬ ((gi σ 13 4) = 0) → (w_X7_strokesOf M (fun σ3 => (w_X7_minute M (fun σ4 => (∀ x5 : Int32, x5 = v3 + 1 → (k_33 v2 x5 σ4))) 1 σ3)) v2 σ))))
set_option maxHeartbeats 4000000 in
set_option maxRecDepth 20000 in
theorem b_X7_strokes_33 {Γ : Gm} {ad : Nat → Nat} {p : Program} {l : Launch} {e : Env} {s : State} {m : MethodId} {args : Array Value} {below : List Frame} {meth : Method} {c : Code} {M : Nat} (hM : 20 ≤ M) {post : Int32 → St → Prop} {k_33 : Int32 → Int32 → St → Prop} (hk_33 : ∀ (v2 : Int32) (v3 : Int32) (σ : St) (H : Heap) (locs : List Loc) (ls : Array Slot), k_33 v2 v3 σ → WH Γ YM M ad σ s H locs → lv_has ls 4 [(0, .ref (ad 0)), (2, .int v2), (3, .int v3)] → W p l e (rmL 6 0 0) s m args below meth c H locs 0 0 (MQ below (va_Qi post (fun u t => WC Γ YM M ad u t) (AA Γ)) args s 0 0 (AA Γ)) (F0 m 33 ls []))
    (v2 : Int32) (v3 : Int32) (σ : St) (H : Heap) (locs : List Loc) (ls : Array Slot) (h : w_X7_strokes_33 M post k_33 v2 v3 σ) (hc : CX Γ p s m args meth c cX7_strokes RX7 4) (hr : meth.sig.returnType = (Option.some Jvm.ClassFile.FieldType.int)) (hw : WH Γ YM M ad σ s H locs) (hl : lv_has ls 4 [(0, .ref (ad 0)), (2, .int v2), (3, .int v3)]) :
    W p l e (rmL 6 0 0) s m args below meth c H locs 0 0 (MQ below (va_Qi post (fun u t => WC Γ YM M ad u t) (AA Γ)) args s 0 0 (AA Γ)) (F0 m 33 ls []) := by
  have hx := hc.1
  have hb := hc.2.1
  unfold w_X7_strokes_33 at h
  refine lv_iload_n hx hb dX7_strokes_33 rfl (lv_at hl 2 rfl) ?_
  refine lv_bipush (v := 60) hx hb dX7_strokes_34 (by decide) ?_
  refine lv_icmp_gt (tgt := 66) hx hb dX7_strokes_36 (by decide) (fun c1 => ?_) (fun c1 => ?_)
  · replace h := h.1 c1
    refine lv_iconst (v := (-1)) hx hb dX7_strokes_66 (by decide) ?_
    exact g_iret hc hr hw h dX7_strokes_67
  · replace h := h.2 c1
    refine lv_aload_n hx hb dX7_strokes_39 rfl (lv_at hl 0 rfl) ?_
    refine fg_X7_47 hc hw (Nat.lt_of_lt_of_le (by decide) hM) rfl dX7_strokes_40 ?_
    refine lv_iconst (v := 4) hx hb dX7_strokes_43 (by decide) ?_
    refine g_ialdK (Y := YM) (kd := 33) (n := 14) (k := 4) (o := 13) (by decide) (by decide) rfl hc hw (Nat.lt_of_lt_of_le (by decide) hM) rfl rfl (vp_in_lit (by decide)) (by decide) dX7_strokes_44 ?_
    refine lv_if_ne (tgt := 50) hx hb dX7_strokes_45 (by decide) (fun c2 => ?_) (fun c2 => ?_)
    · replace h := h.2 c2
      refine lv_aload_n hx hb dX7_strokes_50 rfl (lv_at hl 0 rfl) ?_
      refine lv_iload_n hx hb dX7_strokes_51 rfl (lv_at hl 1 rfl) ?_
      refine g_Vv (Y := YM) (ci := 7) (n := 1) (k := 0) (As := [.int v2]) (rest := []) rfl (by decide) vw_X7_237 ⟨Nat.le_of_ble_eq_true rfl, Nat.le_of_ble_eq_true rfl, Nat.zero_le _, Nat.zero_le _⟩ hc hw hl.1 (Nat.lt_of_lt_of_le (by decide) hM) rfl (m_X7_strokesOf l hM v2 σ h) rfl rfl (Nat.le_of_ble_eq_true rfl) dX7_strokes_52 (fun σ3 H locs h hw => ?_)
      refine lv_aload_n hx hb dX7_strokes_55 rfl (lv_at hl 0 rfl) ?_
      refine lv_iconst (v := 1) hx hb dX7_strokes_56 (by decide) ?_
      refine g_Vv (Y := YM) (ci := 7) (n := 1) (k := 2) (As := [.int 1]) (rest := []) rfl (by decide) vw_X7_240 ⟨Nat.le_of_ble_eq_true rfl, Nat.le_of_ble_eq_true rfl, Nat.zero_le _, Nat.zero_le _⟩ hc hw hl.1 (Nat.lt_of_lt_of_le (by decide) hM) rfl (m_X7_minute l hM 1 σ3 h) rfl rfl (Nat.le_of_ble_eq_true rfl) dX7_strokes_57 (fun σ4 H locs h hw => ?_)
      obtain ⟨x5, ex5⟩ : ∃ z, z = v3 + 1 := ⟨_, rfl⟩
      replace h := h x5 ex5
      refine lv_iinc (v := x5) (lv' := [(3, .int x5), (0, .ref (ad 0)), (2, .int v2)]) hx hb dX7_strokes_60 hl (k := 2) rfl (by rw [ex5]; rfl) (by decide) rfl (fun ls hl => ?_)
      refine lv_goto (tgt := 33) hx hb dX7_strokes_63 (by decide) ?_
      exact hk_33 v2 x5 σ4 _ _ _ h  hw (lv_sub hl [1, 2, 0] rfl)
    · replace h := h.1 c2
      refine lv_iload_n hx hb dX7_strokes_48 rfl (lv_at hl 2 rfl) ?_
      exact g_iret hc hr hw h dX7_strokes_49
def wl_X7_strokes_33 (M : Nat) (post : Int32 → St → Prop) : Nat → Int32 → Int32 → St → Prop
  | 0, _, _, _ => False
  | n + 1, v2, v3, σ => w_X7_strokes_33 M post (wl_X7_strokes_33 M post n) v2 v3 σ
set_option maxHeartbeats 4000000 in
theorem bl_X7_strokes_33 {Γ : Gm} {ad : Nat → Nat} {p : Program} {l : Launch} {e : Env} {s : State} {m : MethodId} {args : Array Value} {below : List Frame} {meth : Method} {c : Code} {M : Nat} (hM : 20 ≤ M) {post : Int32 → St → Prop}
    (hc : CX Γ p s m args meth c cX7_strokes RX7 4) (hr : meth.sig.returnType = (Option.some Jvm.ClassFile.FieldType.int)) :
    ∀ (n : Nat) (v2 : Int32) (v3 : Int32) (σ : St) (H : Heap) (locs : List Loc) (ls : Array Slot), wl_X7_strokes_33 M post n v2 v3 σ → WH Γ YM M ad σ s H locs → lv_has ls 4 [(0, .ref (ad 0)), (2, .int v2), (3, .int v3)] → W p l e (rmL 6 0 0) s m args below meth c H locs 0 0 (MQ below (va_Qi post (fun u t => WC Γ YM M ad u t) (AA Γ)) args s 0 0 (AA Γ)) (F0 m 33 ls []) := by
  intro n
  induction n with
  | zero => intro v2 v3 σ H locs ls h; exact h.elim
  | succ n ih =>
    intro v2 v3 σ H locs ls h  hw hl
    exact b_X7_strokes_33 hM ih v2 v3 σ H locs ls h  hc hr hw hl
def w_X7_strokes (M : Nat) (post : Int32 → St → Prop) (a1 : Int32) (a2 : Int32) (σ : St) : Prop :=
  w_X7_areActs M (fun r2 σ1 => ((r2 = 0 → (post (-5) σ1)) ∧ (¬ (r2 = 0) → (w_X7_in M (fun r5 σ4 => ((r5 = 0 → (post (-7) σ4)) ∧ (¬ (r5 = 0) → (w_X7_goes M (fun σ7 => (∃ n, wl_X7_strokes_33 M post n a2 0 σ7)) a1 σ4)))) a2.toInt64 1 9 σ1)))) a1 σ
set_option maxHeartbeats 4000000 in
set_option maxRecDepth 20000 in
theorem m_X7_strokes {Γ : Gm} {ad : Nat → Nat} {M : Nat} (l : Launch) (hM : 20 ≤ M) {post : Int32 → St → Prop} (a1 : Int32) (a2 : Int32) (σ : St) (h : w_X7_strokes M post a1 a2 σ) : Ci l Γ YM M ad σ yX7_strokes cX7_strokes 4 (Option.some Jvm.ClassFile.FieldType.int) 6 0 0 [.ref (ad 0), .int a1, .int a2] post := by
  refine g_start (by decide) (Nat.le_of_ble_eq_true rfl) ?_
  intro p e s m args below meth c ls hc hr hn hl hw
  have hc : CX Γ p s m args meth c cX7_strokes RX7 4 := hc
  have hl : lv_has ls 4 [(0, .ref (ad 0)), (1, .int a1), (2, .int a2)] := hl
  have hx := hc.1
  have hb := hc.2.1
  unfold w_X7_strokes at h
  generalize hHH : s.heap = H0 at hw ⊢
  refine lv_aload_n hx hb dX7_strokes_0 rfl (lv_at hl 0 rfl) ?_
  refine lv_iload_n hx hb dX7_strokes_1 rfl (lv_at hl 1 rfl) ?_
  refine g_Vi (Y := YM) (ci := 7) (n := 1) (k := 1) (As := [.int a1]) (rest := []) rfl (by decide) vw_X7_263 ⟨Nat.le_of_ble_eq_true rfl, Nat.le_of_ble_eq_true rfl, Nat.zero_le _, Nat.zero_le _⟩ hc hw hl.1 (Nat.lt_of_lt_of_le (by decide) hM) rfl (m_X7_areActs l hM a1 σ h) rfl rfl (Nat.le_of_ble_eq_true rfl) dX7_strokes_2 (fun r2 σ1 H locs h hw => ?_)
  refine lv_if_ne (tgt := 11) hx hb dX7_strokes_5 (by decide) (fun c3 => ?_) (fun c3 => ?_)
  · replace h := h.2 c3
    refine lv_iload_n hx hb dX7_strokes_11 rfl (lv_at hl 2 rfl) ?_
    refine lv_i2l (v := a2.toInt64) hx hb dX7_strokes_12 rfl ?_
    refine lv_lconst (v := 1) hx hb dX7_strokes_13 (by decide) ?_
    refine lv_ldc2 (v := 9) hx hb hc.2.2.2.1 (hc.2.2.2.2.1 _ q_1101) dX7_strokes_14 ?_
    refine g_Si (Y := YM) (n := 3) (k := 0) (As := [.long a2.toInt64, .long 1, .long 9]) (rest := []) vw_X7_75 ⟨Nat.le_of_ble_eq_true rfl, Nat.le_of_ble_eq_true rfl, Nat.zero_le _, Nat.zero_le _⟩ hc hw hl.1 (m_X7_in l hM a2.toInt64 1 9 σ1 h) rfl rfl (Nat.le_of_ble_eq_true rfl) dX7_strokes_17 (fun r5 σ4 H locs h hw => ?_)
    refine lv_if_ne (tgt := 26) hx hb dX7_strokes_20 (by decide) (fun c6 => ?_) (fun c6 => ?_)
    · replace h := h.2 c6
      refine lv_aload_n hx hb dX7_strokes_26 rfl (lv_at hl 0 rfl) ?_
      refine lv_iload_n hx hb dX7_strokes_27 rfl (lv_at hl 1 rfl) ?_
      refine g_Vv (Y := YM) (ci := 7) (n := 1) (k := 5) (As := [.int a1]) (rest := []) rfl (by decide) vw_X7_268 ⟨Nat.le_of_ble_eq_true rfl, Nat.le_of_ble_eq_true rfl, Nat.zero_le _, Nat.zero_le _⟩ hc hw hl.1 (Nat.lt_of_lt_of_le (by decide) hM) rfl (m_X7_goes l hM a1 σ4 h) rfl rfl (Nat.le_of_ble_eq_true rfl) dX7_strokes_28 (fun σ7 H locs h hw => ?_)
      refine lv_iconst (v := 0) hx hb dX7_strokes_31 (by decide) ?_
      refine lv_istore_n (lv' := [(3, .int 0), (0, .ref (ad 0)), (1, .int a1), (2, .int a2)]) hx hb dX7_strokes_32 rfl hl (by decide) rfl (fun ls hl => ?_)
      obtain ⟨n, h⟩ := h
      exact bl_X7_strokes_33 hM hc hr n a2 0 σ7 _ _ _ h  hw (lv_sub hl [1, 3, 0] rfl)
    · replace h := h.1 c6
      refine lv_bipush (v := (-7)) hx hb dX7_strokes_23 (by decide) ?_
      exact g_iret hc hr hw h dX7_strokes_25
  · replace h := h.1 c3
    refine lv_bipush (v := (-5)) hx hb dX7_strokes_8 (by decide) ?_
    exact g_iret hc hr hw h dX7_strokes_10
def w_X7_week_42 (M : Nat) (post : Int32 → St → Prop) (k_42 : Int32 → Int32 → Int32 → Int32 → Int32 → Int32 → St → Prop) (v1 : Int32) (v2 : Int32) (v3 : Int32) (v4 : Int32) (v5 : Int32) (v6 : Int32) (σ : St) : Prop :=
  (60 < v6 → ((vp_in (5 * v1) 20) ∧ (∀ σ2 : St, σ2 = si σ 1 ((5 * v1).toNatClampNeg) v3 → ((v2 = 0 → (post v4 σ2)) ∧ (¬ (v2 = 0) → (post v5 σ2)))))) ∧ (¬ (60 < v6) → ((vp_in (5 * v1) 20) ∧ (∀ σ4 : St, σ4 = si σ 1 ((5 * v1).toNatClampNeg) v6 → (w_X7_goes M (fun σ5 => (w_X7_threads M (fun r7 σ6 => ((r7 ≤ v5 → (∀ x9 : Int32, x9 = v6 + 1 → (k_42 v1 v2 v3 v4 v5 x9 σ6))) ∧ (¬ (r7 ≤ v5) → (w_X7_threads M (fun r11 σ10 => (∀ x12 : Int32, x12 = v6 + 1 → (k_42 v1 v2 v3 v6 r11 x12 σ10))) σ6)))) σ5)) (gi σ4 0 21) σ4))))
set_option maxHeartbeats 4000000 in
set_option maxRecDepth 20000 in
theorem b_X7_week_42 {Γ : Gm} {ad : Nat → Nat} {p : Program} {l : Launch} {e : Env} {s : State} {m : MethodId} {args : Array Value} {below : List Frame} {meth : Method} {c : Code} {M : Nat} (hM : 20 ≤ M) {post : Int32 → St → Prop} {k_42 : Int32 → Int32 → Int32 → Int32 → Int32 → Int32 → St → Prop} (hk_42 : ∀ (v1 : Int32) (v2 : Int32) (v3 : Int32) (v4 : Int32) (v5 : Int32) (v6 : Int32) (σ : St) (H : Heap) (locs : List Loc) (ls : Array Slot), k_42 v1 v2 v3 v4 v5 v6 σ → WH Γ YM M ad σ s H locs → lv_has ls 7 [(0, .ref (ad 0)), (1, .int v1), (2, .int v2), (3, .int v3), (4, .int v4), (5, .int v5), (6, .int v6)] → W p l e (rmL 6 0 0) s m args below meth c H locs 0 0 (MQ below (va_Qi post (fun u t => WC Γ YM M ad u t) (AA Γ)) args s 0 0 (AA Γ)) (F0 m 42 ls []))
    (v1 : Int32) (v2 : Int32) (v3 : Int32) (v4 : Int32) (v5 : Int32) (v6 : Int32) (σ : St) (H : Heap) (locs : List Loc) (ls : Array Slot) (h : w_X7_week_42 M post k_42 v1 v2 v3 v4 v5 v6 σ) (hc : CX Γ p s m args meth c cX7_week RX7 7) (hr : meth.sig.returnType = (Option.some Jvm.ClassFile.FieldType.int)) (hw : WH Γ YM M ad σ s H locs) (hl : lv_has ls 7 [(0, .ref (ad 0)), (1, .int v1), (2, .int v2), (3, .int v3), (4, .int v4), (5, .int v5), (6, .int v6)]) :
    W p l e (rmL 6 0 0) s m args below meth c H locs 0 0 (MQ below (va_Qi post (fun u t => WC Γ YM M ad u t) (AA Γ)) args s 0 0 (AA Γ)) (F0 m 42 ls []) := by
  have hx := hc.1
  have hb := hc.2.1
  unfold w_X7_week_42 at h
  refine lv_iload hx hb dX7_week_42 (lv_at hl 6 rfl) ?_
  refine lv_bipush (v := 60) hx hb dX7_week_44 (by decide) ?_
  refine lv_icmp_gt (tgt := 92) hx hb dX7_week_46 (by decide) (fun c1 => ?_) (fun c1 => ?_)
  · replace h := h.1 c1
    refine lv_aload_n hx hb dX7_week_92 rfl (lv_at hl 0 rfl) ?_
    refine fg_X7_9 hc hw (Nat.lt_of_lt_of_le (by decide) hM) rfl dX7_week_93 ?_
    refine lv_iconst (v := 5) hx hb dX7_week_96 (by decide) ?_
    refine lv_iload_n hx hb dX7_week_97 rfl (lv_at hl 1 rfl) ?_
    refine lv_imul hx hb dX7_week_98 ?_
    refine lv_iload_n hx hb dX7_week_99 rfl (lv_at hl 3 rfl) ?_
    have hin := h.1
    replace h := h.2
    refine g_iastK (Y := YM) (kd := 21) (n := 20) (k := (5 * v1).toNatClampNeg) (o := 1) YM_ok (by decide) (by decide) rfl hc hw (Nat.lt_of_lt_of_le (by decide) hM) rfl rfl hin rfl dX7_week_100 (fun σ2 H locs eσ2 hw => ?_)
    replace h := h σ2 eσ2
    refine lv_iload_n hx hb dX7_week_101 rfl (lv_at hl 2 rfl) ?_
    refine lv_if_ne (tgt := 110) hx hb dX7_week_102 (by decide) (fun c3 => ?_) (fun c3 => ?_)
    · replace h := h.2 c3
      refine lv_iload hx hb dX7_week_110 (lv_at hl 5 rfl) ?_
      exact g_iret hc hr hw h dX7_week_112
    · replace h := h.1 c3
      refine lv_iload hx hb dX7_week_105 (lv_at hl 4 rfl) ?_
      refine lv_goto (tgt := 112) hx hb dX7_week_107 (by decide) ?_
      exact g_iret hc hr hw h dX7_week_112
  · replace h := h.2 c1
    refine lv_aload_n hx hb dX7_week_49 rfl (lv_at hl 0 rfl) ?_
    refine fg_X7_9 hc hw (Nat.lt_of_lt_of_le (by decide) hM) rfl dX7_week_50 ?_
    refine lv_iconst (v := 5) hx hb dX7_week_53 (by decide) ?_
    refine lv_iload_n hx hb dX7_week_54 rfl (lv_at hl 1 rfl) ?_
    refine lv_imul hx hb dX7_week_55 ?_
    refine lv_iload hx hb dX7_week_56 (lv_at hl 6 rfl) ?_
    have hin := h.1
    replace h := h.2
    refine g_iastK (Y := YM) (kd := 21) (n := 20) (k := (5 * v1).toNatClampNeg) (o := 1) YM_ok (by decide) (by decide) rfl hc hw (Nat.lt_of_lt_of_le (by decide) hM) rfl rfl hin rfl dX7_week_58 (fun σ4 H locs eσ4 hw => ?_)
    replace h := h σ4 eσ4
    refine lv_aload_n hx hb dX7_week_59 rfl (lv_at hl 0 rfl) ?_
    refine lv_aload_n hx hb dX7_week_60 rfl (lv_at hl 0 rfl) ?_
    refine fg_X7_95 hc hw (Nat.lt_of_lt_of_le (by decide) hM) rfl dX7_week_61 ?_
    refine g_Vv (Y := YM) (ci := 7) (n := 1) (k := 5) (As := [.int (gi σ4 0 21)]) (rest := []) rfl (by decide) vw_X7_268 ⟨Nat.le_of_ble_eq_true rfl, Nat.le_of_ble_eq_true rfl, Nat.zero_le _, Nat.zero_le _⟩ hc hw hl.1 (Nat.lt_of_lt_of_le (by decide) hM) rfl (m_X7_goes l hM (gi σ4 0 21) σ4 h) rfl rfl (Nat.le_of_ble_eq_true rfl) dX7_week_64 (fun σ5 H locs h hw => ?_)
    refine lv_aload_n hx hb dX7_week_67 rfl (lv_at hl 0 rfl) ?_
    refine g_Vi (Y := YM) (ci := 7) (n := 0) (k := 2) (As := []) (rest := []) rfl (by decide) vw_X7_257 ⟨Nat.le_of_ble_eq_true rfl, Nat.le_of_ble_eq_true rfl, Nat.zero_le _, Nat.zero_le _⟩ hc hw hl.1 (Nat.lt_of_lt_of_le (by decide) hM) rfl (m_X7_threads l hM σ5 h) rfl rfl (Nat.le_of_ble_eq_true rfl) dX7_week_68 (fun r7 σ6 H locs h hw => ?_)
    refine lv_iload hx hb dX7_week_71 (lv_at hl 5 rfl) ?_
    refine lv_icmp_le (tgt := 86) hx hb dX7_week_73 (by decide) (fun c8 => ?_) (fun c8 => ?_)
    · replace h := h.1 c8
      obtain ⟨x9, ex9⟩ : ∃ z, z = v6 + 1 := ⟨_, rfl⟩
      replace h := h x9 ex9
      refine lv_iinc (v := x9) (lv' := [(6, .int x9), (0, .ref (ad 0)), (1, .int v1), (2, .int v2), (3, .int v3), (4, .int v4), (5, .int v5)]) hx hb dX7_week_86 hl (k := 6) rfl (by rw [ex9]; rfl) (by decide) rfl (fun ls hl => ?_)
      refine lv_goto (tgt := 42) hx hb dX7_week_89 (by decide) ?_
      exact hk_42 v1 v2 v3 v4 v5 x9 σ6 _ _ _ h  hw (lv_sub hl [1, 2, 3, 4, 5, 6, 0] rfl)
    · replace h := h.2 c8
      refine lv_iload hx hb dX7_week_76 (lv_at hl 6 rfl) ?_
      refine lv_istore (lv' := [(4, .int v6), (0, .ref (ad 0)), (1, .int v1), (2, .int v2), (3, .int v3), (5, .int v5), (6, .int v6)]) hx hb dX7_week_78 hl (by decide) rfl (fun ls hl => ?_)
      refine lv_aload_n hx hb dX7_week_80 rfl (lv_at hl 1 rfl) ?_
      refine g_Vi (Y := YM) (ci := 7) (n := 0) (k := 2) (As := []) (rest := []) rfl (by decide) vw_X7_257 ⟨Nat.le_of_ble_eq_true rfl, Nat.le_of_ble_eq_true rfl, Nat.zero_le _, Nat.zero_le _⟩ hc hw hl.1 (Nat.lt_of_lt_of_le (by decide) hM) rfl (m_X7_threads l hM σ6 h) rfl rfl (Nat.le_of_ble_eq_true rfl) dX7_week_81 (fun r11 σ10 H locs h hw => ?_)
      refine lv_istore (lv' := [(5, .int r11), (4, .int v6), (0, .ref (ad 0)), (1, .int v1), (2, .int v2), (3, .int v3), (6, .int v6)]) hx hb dX7_week_84 hl (by decide) rfl (fun ls hl => ?_)
      obtain ⟨x12, ex12⟩ : ∃ z, z = v6 + 1 := ⟨_, rfl⟩
      replace h := h x12 ex12
      refine lv_iinc (v := x12) (lv' := [(6, .int x12), (5, .int r11), (4, .int v6), (0, .ref (ad 0)), (1, .int v1), (2, .int v2), (3, .int v3)]) hx hb dX7_week_86 hl (k := 6) rfl (by rw [ex12]; rfl) (by decide) rfl (fun ls hl => ?_)
      refine lv_goto (tgt := 42) hx hb dX7_week_89 (by decide) ?_
      exact hk_42 v1 v2 v3 v6 r11 x12 σ10 _ _ _ h  hw (lv_sub hl [3, 4, 5, 6, 2, 1, 0] rfl)
def wl_X7_week_42 (M : Nat) (post : Int32 → St → Prop) : Nat → Int32 → Int32 → Int32 → Int32 → Int32 → Int32 → St → Prop
  | 0, _, _, _, _, _, _, _ => False
  | n + 1, v1, v2, v3, v4, v5, v6, σ => w_X7_week_42 M post (wl_X7_week_42 M post n) v1 v2 v3 v4 v5 v6 σ
set_option maxHeartbeats 4000000 in
theorem bl_X7_week_42 {Γ : Gm} {ad : Nat → Nat} {p : Program} {l : Launch} {e : Env} {s : State} {m : MethodId} {args : Array Value} {below : List Frame} {meth : Method} {c : Code} {M : Nat} (hM : 20 ≤ M) {post : Int32 → St → Prop}
    (hc : CX Γ p s m args meth c cX7_week RX7 7) (hr : meth.sig.returnType = (Option.some Jvm.ClassFile.FieldType.int)) :
    ∀ (n : Nat) (v1 : Int32) (v2 : Int32) (v3 : Int32) (v4 : Int32) (v5 : Int32) (v6 : Int32) (σ : St) (H : Heap) (locs : List Loc) (ls : Array Slot), wl_X7_week_42 M post n v1 v2 v3 v4 v5 v6 σ → WH Γ YM M ad σ s H locs → lv_has ls 7 [(0, .ref (ad 0)), (1, .int v1), (2, .int v2), (3, .int v3), (4, .int v4), (5, .int v5), (6, .int v6)] → W p l e (rmL 6 0 0) s m args below meth c H locs 0 0 (MQ below (va_Qi post (fun u t => WC Γ YM M ad u t) (AA Γ)) args s 0 0 (AA Γ)) (F0 m 42 ls []) := by
  intro n
  induction n with
  | zero => intro v1 v2 v3 v4 v5 v6 σ H locs ls h; exact h.elim
  | succ n ih =>
    intro v1 v2 v3 v4 v5 v6 σ H locs ls h  hw hl
    exact b_X7_week_42 hM ih v1 v2 v3 v4 v5 v6 σ H locs ls h  hc hr hw hl
def w_X7_week (M : Nat) (post : Int32 → St → Prop) (a1 : Int32) (a2 : Int32) (σ : St) : Prop :=
  w_X7_isCheese M (fun r2 σ1 => ((r2 = 0 → (post (-5) σ1)) ∧ (¬ (r2 = 0) → (w_X7_in M (fun r5 σ4 => ((r5 = 0 → (post (-7) σ4)) ∧ (¬ (r5 = 0) → ((vp_in (5 * a1) 20) ∧ (∀ x7 : Int32, x7 = gi σ4 1 ((5 * a1).toNatClampNeg) → (∃ n, wl_X7_week_42 M post n a1 a2 x7 1 (-1) 1 σ4)))))) a2.toInt64 0 1 σ1)))) a1 σ
set_option maxHeartbeats 4000000 in
set_option maxRecDepth 20000 in
theorem m_X7_week {Γ : Gm} {ad : Nat → Nat} {M : Nat} (l : Launch) (hM : 20 ≤ M) {post : Int32 → St → Prop} (a1 : Int32) (a2 : Int32) (σ : St) (h : w_X7_week M post a1 a2 σ) : Ci l Γ YM M ad σ yX7_week cX7_week 7 (Option.some Jvm.ClassFile.FieldType.int) 6 0 0 [.ref (ad 0), .int a1, .int a2] post := by
  refine g_start (by decide) (Nat.le_of_ble_eq_true rfl) ?_
  intro p e s m args below meth c ls hc hr hn hl hw
  have hc : CX Γ p s m args meth c cX7_week RX7 7 := hc
  have hl : lv_has ls 7 [(0, .ref (ad 0)), (1, .int a1), (2, .int a2)] := hl
  have hx := hc.1
  have hb := hc.2.1
  unfold w_X7_week at h
  generalize hHH : s.heap = H0 at hw ⊢
  refine lv_aload_n hx hb dX7_week_0 rfl (lv_at hl 0 rfl) ?_
  refine lv_iload_n hx hb dX7_week_1 rfl (lv_at hl 1 rfl) ?_
  refine g_Vi (Y := YM) (ci := 7) (n := 1) (k := 1) (As := [.int a1]) (rest := []) rfl (by decide) vw_X7_85 ⟨Nat.le_of_ble_eq_true rfl, Nat.le_of_ble_eq_true rfl, Nat.zero_le _, Nat.zero_le _⟩ hc hw hl.1 (Nat.lt_of_lt_of_le (by decide) hM) rfl (m_X7_isCheese l hM a1 σ h) rfl rfl (Nat.le_of_ble_eq_true rfl) dX7_week_2 (fun r2 σ1 H locs h hw => ?_)
  refine lv_if_ne (tgt := 11) hx hb dX7_week_5 (by decide) (fun c3 => ?_) (fun c3 => ?_)
  · replace h := h.2 c3
    refine lv_iload_n hx hb dX7_week_11 rfl (lv_at hl 2 rfl) ?_
    refine lv_i2l (v := a2.toInt64) hx hb dX7_week_12 rfl ?_
    refine lv_lconst (v := 0) hx hb dX7_week_13 (by decide) ?_
    refine lv_lconst (v := 1) hx hb dX7_week_14 (by decide) ?_
    refine g_Si (Y := YM) (n := 3) (k := 0) (As := [.long a2.toInt64, .long 0, .long 1]) (rest := []) vw_X7_75 ⟨Nat.le_of_ble_eq_true rfl, Nat.le_of_ble_eq_true rfl, Nat.zero_le _, Nat.zero_le _⟩ hc hw hl.1 (m_X7_in l hM a2.toInt64 0 1 σ1 h) rfl rfl (Nat.le_of_ble_eq_true rfl) dX7_week_15 (fun r5 σ4 H locs h hw => ?_)
    refine lv_if_ne (tgt := 24) hx hb dX7_week_18 (by decide) (fun c6 => ?_) (fun c6 => ?_)
    · replace h := h.2 c6
      refine lv_aload_n hx hb dX7_week_24 rfl (lv_at hl 0 rfl) ?_
      refine fg_X7_9 hc hw (Nat.lt_of_lt_of_le (by decide) hM) rfl dX7_week_25 ?_
      refine lv_iconst (v := 5) hx hb dX7_week_28 (by decide) ?_
      refine lv_iload_n hx hb dX7_week_29 rfl (lv_at hl 1 rfl) ?_
      refine lv_imul hx hb dX7_week_30 ?_
      refine g_ialdK (Y := YM) (kd := 21) (n := 20) (k := (5 * a1).toNatClampNeg) (o := 1) (by decide) (by decide) rfl hc hw (Nat.lt_of_lt_of_le (by decide) hM) rfl rfl h.1 rfl dX7_week_31 ?_
      replace h := h.2
      refine lv_topi (fun x7 ex7 => ?_)
      replace h := h x7 ex7
      refine lv_istore_n (lv' := [(3, .int x7), (0, .ref (ad 0)), (1, .int a1), (2, .int a2)]) hx hb dX7_week_32 rfl hl (by decide) rfl (fun ls hl => ?_)
      refine lv_iconst (v := 1) hx hb dX7_week_33 (by decide) ?_
      refine lv_istore (lv' := [(4, .int 1), (3, .int x7), (0, .ref (ad 0)), (1, .int a1), (2, .int a2)]) hx hb dX7_week_34 hl (by decide) rfl (fun ls hl => ?_)
      refine lv_iconst (v := (-1)) hx hb dX7_week_36 (by decide) ?_
      refine lv_istore (lv' := [(5, .int (-1)), (4, .int 1), (3, .int x7), (0, .ref (ad 0)), (1, .int a1), (2, .int a2)]) hx hb dX7_week_37 hl (by decide) rfl (fun ls hl => ?_)
      refine lv_iconst (v := 1) hx hb dX7_week_39 (by decide) ?_
      refine lv_istore (lv' := [(6, .int 1), (5, .int (-1)), (4, .int 1), (3, .int x7), (0, .ref (ad 0)), (1, .int a1), (2, .int a2)]) hx hb dX7_week_40 hl (by decide) rfl (fun ls hl => ?_)
      obtain ⟨n, h⟩ := h
      exact bl_X7_week_42 hM hc hr n a1 a2 x7 1 (-1) 1 σ4 _ _ _ h  hw (lv_sub hl [4, 5, 6, 3, 2, 1, 0] rfl)
    · replace h := h.1 c6
      refine lv_bipush (v := (-7)) hx hb dX7_week_21 (by decide) ?_
      exact g_iret hc hr hw h dX7_week_23
  · replace h := h.1 c3
    refine lv_bipush (v := (-5)) hx hb dX7_week_8 (by decide) ?_
    exact g_iret hc hr hw h dX7_week_10
def w_X7_table (M : Nat) (post : Int32 → St → Prop) (a1 : Int32) (a2 : Int32) (a3 : Int32) (σ : St) : Prop :=
  w_X7_in M (fun r2 σ1 => ((r2 = 0 → (post (-2) σ1)) ∧ (¬ (r2 = 0) → (w_X7_in M (fun r5 σ4 => ((r5 = 0 → (post (-2) σ4)) ∧ (¬ (r5 = 0) → (w_X7_in M (fun r8 σ7 => ((r8 = 0 → (post (-2) σ7)) ∧ (¬ (r8 = 0) → (w_X7_goes M (fun σ10 => (w_X7_atTable M (fun σ11 => ((a3 = 0 → (post (gi σ11 0 28) σ11)) ∧ (¬ (a3 = 0) → ((a3 = 1 → (post (gi σ11 13 10) σ11)) ∧ (¬ (a3 = 1) → ((a3 = 2 → (w_X7_thick M (fun r16 σ15 => (post r16 σ15)) σ11)) ∧ (¬ (a3 = 2) → (post (gi σ11 13 4) σ11)))))))) a1 a2 σ10)) (gi σ7 0 21) σ7)))) a3.toInt64 0 3 σ4)))) a2.toInt64 1 30 σ1)))) a1.toInt64 0 90 σ
set_option maxHeartbeats 4000000 in
set_option maxRecDepth 20000 in
theorem m_X7_table {Γ : Gm} {ad : Nat → Nat} {M : Nat} (l : Launch) (hM : 20 ≤ M) {post : Int32 → St → Prop} (a1 : Int32) (a2 : Int32) (a3 : Int32) (σ : St) (h : w_X7_table M post a1 a2 a3 σ) : Ci l Γ YM M ad σ yX7_table cX7_table 4 (Option.some Jvm.ClassFile.FieldType.int) 6 0 0 [.ref (ad 0), .int a1, .int a2, .int a3] post := by
  refine g_start (by decide) (Nat.le_of_ble_eq_true rfl) ?_
  intro p e s m args below meth c ls hc hr hn hl hw
  have hc : CX Γ p s m args meth c cX7_table RX7 4 := hc
  have hl : lv_has ls 4 [(0, .ref (ad 0)), (1, .int a1), (2, .int a2), (3, .int a3)] := hl
  have hx := hc.1
  have hb := hc.2.1
  unfold w_X7_table at h
  generalize hHH : s.heap = H0 at hw ⊢
  refine lv_iload_n hx hb dX7_table_0 rfl (lv_at hl 1 rfl) ?_
  refine lv_i2l (v := a1.toInt64) hx hb dX7_table_1 rfl ?_
  refine lv_lconst (v := 0) hx hb dX7_table_2 (by decide) ?_
  refine lv_ldc2 (v := 90) hx hb hc.2.2.2.1 (hc.2.2.2.2.1 _ q_1362) dX7_table_3 ?_
  refine g_Si (Y := YM) (n := 3) (k := 0) (As := [.long a1.toInt64, .long 0, .long 90]) (rest := []) vw_X7_75 ⟨Nat.le_of_ble_eq_true rfl, Nat.le_of_ble_eq_true rfl, Nat.zero_le _, Nat.zero_le _⟩ hc hw hl.1 (m_X7_in l hM a1.toInt64 0 90 σ h) rfl rfl (Nat.le_of_ble_eq_true rfl) dX7_table_6 (fun r2 σ1 H locs h hw => ?_)
  refine lv_if_eq (tgt := 36) hx hb dX7_table_9 (by decide) (fun c3 => ?_) (fun c3 => ?_)
  · replace h := h.1 c3
    refine lv_bipush (v := (-2)) hx hb dX7_table_36 (by decide) ?_
    exact g_iret hc hr hw h dX7_table_38
  · replace h := h.2 c3
    refine lv_iload_n hx hb dX7_table_12 rfl (lv_at hl 2 rfl) ?_
    refine lv_i2l (v := a2.toInt64) hx hb dX7_table_13 rfl ?_
    refine lv_lconst (v := 1) hx hb dX7_table_14 (by decide) ?_
    refine lv_ldc2 (v := 30) hx hb hc.2.2.2.1 (hc.2.2.2.2.1 _ q_1357) dX7_table_15 ?_
    refine g_Si (Y := YM) (n := 3) (k := 0) (As := [.long a2.toInt64, .long 1, .long 30]) (rest := []) vw_X7_75 ⟨Nat.le_of_ble_eq_true rfl, Nat.le_of_ble_eq_true rfl, Nat.zero_le _, Nat.zero_le _⟩ hc hw hl.1 (m_X7_in l hM a2.toInt64 1 30 σ1 h) rfl rfl (Nat.le_of_ble_eq_true rfl) dX7_table_18 (fun r5 σ4 H locs h hw => ?_)
    refine lv_if_eq (tgt := 36) hx hb dX7_table_21 (by decide) (fun c6 => ?_) (fun c6 => ?_)
    · replace h := h.1 c6
      refine lv_bipush (v := (-2)) hx hb dX7_table_36 (by decide) ?_
      exact g_iret hc hr hw h dX7_table_38
    · replace h := h.2 c6
      refine lv_iload_n hx hb dX7_table_24 rfl (lv_at hl 3 rfl) ?_
      refine lv_i2l (v := a3.toInt64) hx hb dX7_table_25 rfl ?_
      refine lv_lconst (v := 0) hx hb dX7_table_26 (by decide) ?_
      refine lv_ldc2 (v := 3) hx hb hc.2.2.2.1 (hc.2.2.2.2.1 _ q_1363) dX7_table_27 ?_
      refine g_Si (Y := YM) (n := 3) (k := 0) (As := [.long a3.toInt64, .long 0, .long 3]) (rest := []) vw_X7_75 ⟨Nat.le_of_ble_eq_true rfl, Nat.le_of_ble_eq_true rfl, Nat.zero_le _, Nat.zero_le _⟩ hc hw hl.1 (m_X7_in l hM a3.toInt64 0 3 σ4 h) rfl rfl (Nat.le_of_ble_eq_true rfl) dX7_table_30 (fun r8 σ7 H locs h hw => ?_)
      refine lv_if_ne (tgt := 39) hx hb dX7_table_33 (by decide) (fun c9 => ?_) (fun c9 => ?_)
      · replace h := h.2 c9
        refine lv_aload_n hx hb dX7_table_39 rfl (lv_at hl 0 rfl) ?_
        refine lv_aload_n hx hb dX7_table_40 rfl (lv_at hl 0 rfl) ?_
        refine fg_X7_95 hc hw (Nat.lt_of_lt_of_le (by decide) hM) rfl dX7_table_41 ?_
        refine g_Vv (Y := YM) (ci := 7) (n := 1) (k := 5) (As := [.int (gi σ7 0 21)]) (rest := []) rfl (by decide) vw_X7_268 ⟨Nat.le_of_ble_eq_true rfl, Nat.le_of_ble_eq_true rfl, Nat.zero_le _, Nat.zero_le _⟩ hc hw hl.1 (Nat.lt_of_lt_of_le (by decide) hM) rfl (m_X7_goes l hM (gi σ7 0 21) σ7 h) rfl rfl (Nat.le_of_ble_eq_true rfl) dX7_table_44 (fun σ10 H locs h hw => ?_)
        refine lv_aload_n hx hb dX7_table_47 rfl (lv_at hl 0 rfl) ?_
        refine lv_iload_n hx hb dX7_table_48 rfl (lv_at hl 1 rfl) ?_
        refine lv_iload_n hx hb dX7_table_49 rfl (lv_at hl 2 rfl) ?_
        refine g_Vv (Y := YM) (ci := 7) (n := 2) (k := 5) (As := [.int a1, .int a2]) (rest := []) rfl (by decide) vw_X7_300 ⟨Nat.le_of_ble_eq_true rfl, Nat.le_of_ble_eq_true rfl, Nat.zero_le _, Nat.zero_le _⟩ hc hw hl.1 (Nat.lt_of_lt_of_le (by decide) hM) rfl (m_X7_atTable l hM a1 a2 σ10 h) rfl rfl (Nat.le_of_ble_eq_true rfl) dX7_table_50 (fun σ11 H locs h hw => ?_)
        refine lv_iload_n hx hb dX7_table_53 rfl (lv_at hl 3 rfl) ?_
        refine lv_if_ne (tgt := 64) hx hb dX7_table_54 (by decide) (fun c12 => ?_) (fun c12 => ?_)
        · replace h := h.2 c12
          refine lv_iload_n hx hb dX7_table_64 rfl (lv_at hl 3 rfl) ?_
          refine lv_iconst (v := 1) hx hb dX7_table_65 (by decide) ?_
          refine lv_icmp_ne (tgt := 79) hx hb dX7_table_66 (by decide) (fun c13 => ?_) (fun c13 => ?_)
          · replace h := h.2 c13
            refine lv_iload_n hx hb dX7_table_79 rfl (lv_at hl 3 rfl) ?_
            refine lv_iconst (v := 2) hx hb dX7_table_80 (by decide) ?_
            refine lv_icmp_ne (tgt := 91) hx hb dX7_table_81 (by decide) (fun c14 => ?_) (fun c14 => ?_)
            · replace h := h.2 c14
              refine lv_aload_n hx hb dX7_table_91 rfl (lv_at hl 0 rfl) ?_
              refine fg_X7_47 hc hw (Nat.lt_of_lt_of_le (by decide) hM) rfl dX7_table_92 ?_
              refine lv_iconst (v := 4) hx hb dX7_table_95 (by decide) ?_
              refine g_ialdK (Y := YM) (kd := 33) (n := 14) (k := 4) (o := 13) (by decide) (by decide) rfl hc hw (Nat.lt_of_lt_of_le (by decide) hM) rfl rfl (vp_in_lit (by decide)) (by decide) dX7_table_96 ?_
              exact g_iret hc hr hw h dX7_table_97
            · replace h := h.1 c14
              refine lv_aload_n hx hb dX7_table_84 rfl (lv_at hl 0 rfl) ?_
              refine g_Vi (Y := YM) (ci := 7) (n := 0) (k := 0) (As := []) (rest := []) rfl (by decide) vw_X7_254 ⟨Nat.le_of_ble_eq_true rfl, Nat.le_of_ble_eq_true rfl, Nat.zero_le _, Nat.zero_le _⟩ hc hw hl.1 (Nat.lt_of_lt_of_le (by decide) hM) rfl (m_X7_thick l hM σ11 h) rfl rfl (Nat.le_of_ble_eq_true rfl) dX7_table_85 (fun r16 σ15 H locs h hw => ?_)
              refine lv_goto (tgt := 97) hx hb dX7_table_88 (by decide) ?_
              exact g_iret hc hr hw h dX7_table_97
          · replace h := h.1 c13
            refine lv_aload_n hx hb dX7_table_69 rfl (lv_at hl 0 rfl) ?_
            refine fg_X7_47 hc hw (Nat.lt_of_lt_of_le (by decide) hM) rfl dX7_table_70 ?_
            refine lv_bipush (v := 10) hx hb dX7_table_73 (by decide) ?_
            refine g_ialdK (Y := YM) (kd := 33) (n := 14) (k := 10) (o := 13) (by decide) (by decide) rfl hc hw (Nat.lt_of_lt_of_le (by decide) hM) rfl rfl (vp_in_lit (by decide)) (by decide) dX7_table_75 ?_
            refine lv_goto (tgt := 97) hx hb dX7_table_76 (by decide) ?_
            exact g_iret hc hr hw h dX7_table_97
        · replace h := h.1 c12
          refine lv_aload_n hx hb dX7_table_57 rfl (lv_at hl 0 rfl) ?_
          refine fg_X7_293 hc hw (Nat.lt_of_lt_of_le (by decide) hM) rfl dX7_table_58 ?_
          refine lv_goto (tgt := 97) hx hb dX7_table_61 (by decide) ?_
          exact g_iret hc hr hw h dX7_table_97
      · replace h := h.1 c9
        refine lv_bipush (v := (-2)) hx hb dX7_table_36 (by decide) ?_
        exact g_iret hc hr hw h dX7_table_38
def w_X7_dips_30 (M : Nat) (post : Int32 → St → Prop) (k_30 : Int32 → Int32 → Int32 → St → Prop) (v1 : Int32) (v2 : Int32) (v3 : Int32) (σ : St) : Prop :=
  (v3 ≤ 0 → (post (-1) σ)) ∧ (¬ (v3 ≤ 0) → (w_X7_goes M (fun σ2 => (w_X7_atTable M (fun σ3 => (((gi σ3 0 28) = v1 → ((v2 < (gi σ3 13 10) → (∀ x7 : Int32, x7 = v3 + (-1) → (k_30 v1 v2 x7 σ3))) ∧ (¬ (v2 < (gi σ3 13 10)) → (post v3 σ3)))) ∧ (¬ ((gi σ3 0 28) = v1) → (∀ x5 : Int32, x5 = v3 + (-1) → (k_30 v1 v2 x5 σ3))))) v1 v3 σ2)) (gi σ 0 21) σ))
set_option maxHeartbeats 4000000 in
set_option maxRecDepth 20000 in
theorem b_X7_dips_30 {Γ : Gm} {ad : Nat → Nat} {p : Program} {l : Launch} {e : Env} {s : State} {m : MethodId} {args : Array Value} {below : List Frame} {meth : Method} {c : Code} {M : Nat} (hM : 20 ≤ M) {post : Int32 → St → Prop} {k_30 : Int32 → Int32 → Int32 → St → Prop} (hk_30 : ∀ (v1 : Int32) (v2 : Int32) (v3 : Int32) (σ : St) (H : Heap) (locs : List Loc) (ls : Array Slot), k_30 v1 v2 v3 σ → WH Γ YM M ad σ s H locs → lv_has ls 4 [(0, .ref (ad 0)), (1, .int v1), (2, .int v2), (3, .int v3)] → W p l e (rmL 6 0 0) s m args below meth c H locs 0 0 (MQ below (va_Qi post (fun u t => WC Γ YM M ad u t) (AA Γ)) args s 0 0 (AA Γ)) (F0 m 30 ls []))
    (v1 : Int32) (v2 : Int32) (v3 : Int32) (σ : St) (H : Heap) (locs : List Loc) (ls : Array Slot) (h : w_X7_dips_30 M post k_30 v1 v2 v3 σ) (hc : CX Γ p s m args meth c cX7_dips RX7 4) (hr : meth.sig.returnType = (Option.some Jvm.ClassFile.FieldType.int)) (hw : WH Γ YM M ad σ s H locs) (hl : lv_has ls 4 [(0, .ref (ad 0)), (1, .int v1), (2, .int v2), (3, .int v3)]) :
    W p l e (rmL 6 0 0) s m args below meth c H locs 0 0 (MQ below (va_Qi post (fun u t => WC Γ YM M ad u t) (AA Γ)) args s 0 0 (AA Γ)) (F0 m 30 ls []) := by
  have hx := hc.1
  have hb := hc.2.1
  unfold w_X7_dips_30 at h
  refine lv_iload_n hx hb dX7_dips_30 rfl (lv_at hl 3 rfl) ?_
  refine lv_if_le (tgt := 75) hx hb dX7_dips_31 (by decide) (fun c1 => ?_) (fun c1 => ?_)
  · replace h := h.1 c1
    refine lv_iconst (v := (-1)) hx hb dX7_dips_75 (by decide) ?_
    exact g_iret hc hr hw h dX7_dips_76
  · replace h := h.2 c1
    refine lv_aload_n hx hb dX7_dips_34 rfl (lv_at hl 0 rfl) ?_
    refine lv_aload_n hx hb dX7_dips_35 rfl (lv_at hl 0 rfl) ?_
    refine fg_X7_95 hc hw (Nat.lt_of_lt_of_le (by decide) hM) rfl dX7_dips_36 ?_
    refine g_Vv (Y := YM) (ci := 7) (n := 1) (k := 5) (As := [.int (gi σ 0 21)]) (rest := []) rfl (by decide) vw_X7_268 ⟨Nat.le_of_ble_eq_true rfl, Nat.le_of_ble_eq_true rfl, Nat.zero_le _, Nat.zero_le _⟩ hc hw hl.1 (Nat.lt_of_lt_of_le (by decide) hM) rfl (m_X7_goes l hM (gi σ 0 21) σ h) rfl rfl (Nat.le_of_ble_eq_true rfl) dX7_dips_39 (fun σ2 H locs h hw => ?_)
    refine lv_aload_n hx hb dX7_dips_42 rfl (lv_at hl 0 rfl) ?_
    refine lv_iload_n hx hb dX7_dips_43 rfl (lv_at hl 1 rfl) ?_
    refine lv_iload_n hx hb dX7_dips_44 rfl (lv_at hl 3 rfl) ?_
    refine g_Vv (Y := YM) (ci := 7) (n := 2) (k := 5) (As := [.int v1, .int v3]) (rest := []) rfl (by decide) vw_X7_300 ⟨Nat.le_of_ble_eq_true rfl, Nat.le_of_ble_eq_true rfl, Nat.zero_le _, Nat.zero_le _⟩ hc hw hl.1 (Nat.lt_of_lt_of_le (by decide) hM) rfl (m_X7_atTable l hM v1 v3 σ2 h) rfl rfl (Nat.le_of_ble_eq_true rfl) dX7_dips_45 (fun σ3 H locs h hw => ?_)
    refine lv_aload_n hx hb dX7_dips_48 rfl (lv_at hl 0 rfl) ?_
    refine fg_X7_293 hc hw (Nat.lt_of_lt_of_le (by decide) hM) rfl dX7_dips_49 ?_
    refine lv_iload_n hx hb dX7_dips_52 rfl (lv_at hl 1 rfl) ?_
    refine lv_icmp_ne (tgt := 69) hx hb dX7_dips_53 (by decide) (fun c4 => ?_) (fun c4 => ?_)
    · replace h := h.2 c4
      obtain ⟨x5, ex5⟩ : ∃ z, z = v3 + (-1) := ⟨_, rfl⟩
      replace h := h x5 ex5
      refine lv_iinc (v := x5) (lv' := [(3, .int x5), (0, .ref (ad 0)), (1, .int v1), (2, .int v2)]) hx hb dX7_dips_69 hl (k := 3) rfl (by rw [ex5]; rfl) (by decide) rfl (fun ls hl => ?_)
      refine lv_goto (tgt := 30) hx hb dX7_dips_72 (by decide) ?_
      exact hk_30 v1 v2 x5 σ3 _ _ _ h  hw (lv_sub hl [1, 2, 3, 0] rfl)
    · replace h := h.1 c4
      refine lv_aload_n hx hb dX7_dips_56 rfl (lv_at hl 0 rfl) ?_
      refine fg_X7_47 hc hw (Nat.lt_of_lt_of_le (by decide) hM) rfl dX7_dips_57 ?_
      refine lv_bipush (v := 10) hx hb dX7_dips_60 (by decide) ?_
      refine g_ialdK (Y := YM) (kd := 33) (n := 14) (k := 10) (o := 13) (by decide) (by decide) rfl hc hw (Nat.lt_of_lt_of_le (by decide) hM) rfl rfl (vp_in_lit (by decide)) (by decide) dX7_dips_62 ?_
      refine lv_iload_n hx hb dX7_dips_63 rfl (lv_at hl 2 rfl) ?_
      refine lv_icmp_gt (tgt := 69) hx hb dX7_dips_64 (by decide) (fun c6 => ?_) (fun c6 => ?_)
      · replace h := h.1 c6
        obtain ⟨x7, ex7⟩ : ∃ z, z = v3 + (-1) := ⟨_, rfl⟩
        replace h := h x7 ex7
        refine lv_iinc (v := x7) (lv' := [(3, .int x7), (0, .ref (ad 0)), (1, .int v1), (2, .int v2)]) hx hb dX7_dips_69 hl (k := 3) rfl (by rw [ex7]; rfl) (by decide) rfl (fun ls hl => ?_)
        refine lv_goto (tgt := 30) hx hb dX7_dips_72 (by decide) ?_
        exact hk_30 v1 v2 x7 σ3 _ _ _ h  hw (lv_sub hl [1, 2, 3, 0] rfl)
      · replace h := h.2 c6
        refine lv_iload_n hx hb dX7_dips_67 rfl (lv_at hl 3 rfl) ?_
        exact g_iret hc hr hw h dX7_dips_68
def wl_X7_dips_30 (M : Nat) (post : Int32 → St → Prop) : Nat → Int32 → Int32 → Int32 → St → Prop
  | 0, _, _, _, _ => False
  | n + 1, v1, v2, v3, σ => w_X7_dips_30 M post (wl_X7_dips_30 M post n) v1 v2 v3 σ
set_option maxHeartbeats 4000000 in
theorem bl_X7_dips_30 {Γ : Gm} {ad : Nat → Nat} {p : Program} {l : Launch} {e : Env} {s : State} {m : MethodId} {args : Array Value} {below : List Frame} {meth : Method} {c : Code} {M : Nat} (hM : 20 ≤ M) {post : Int32 → St → Prop}
    (hc : CX Γ p s m args meth c cX7_dips RX7 4) (hr : meth.sig.returnType = (Option.some Jvm.ClassFile.FieldType.int)) :
    ∀ (n : Nat) (v1 : Int32) (v2 : Int32) (v3 : Int32) (σ : St) (H : Heap) (locs : List Loc) (ls : Array Slot), wl_X7_dips_30 M post n v1 v2 v3 σ → WH Γ YM M ad σ s H locs → lv_has ls 4 [(0, .ref (ad 0)), (1, .int v1), (2, .int v2), (3, .int v3)] → W p l e (rmL 6 0 0) s m args below meth c H locs 0 0 (MQ below (va_Qi post (fun u t => WC Γ YM M ad u t) (AA Γ)) args s 0 0 (AA Γ)) (F0 m 30 ls []) := by
  intro n
  induction n with
  | zero => intro v1 v2 v3 σ H locs ls h; exact h.elim
  | succ n ih =>
    intro v1 v2 v3 σ H locs ls h  hw hl
    exact b_X7_dips_30 hM ih v1 v2 v3 σ H locs ls h  hc hr hw hl
def w_X7_dips (M : Nat) (post : Int32 → St → Prop) (a1 : Int32) (a2 : Int32) (σ : St) : Prop :=
  w_X7_in M (fun r2 σ1 => ((r2 = 0 → (post (-2) σ1)) ∧ (¬ (r2 = 0) → (w_X7_in M (fun r5 σ4 => ((r5 = 0 → (post (-2) σ4)) ∧ (¬ (r5 = 0) → (∃ n, wl_X7_dips_30 M post n a1 a2 30 σ4)))) a2.toInt64 0 999 σ1)))) a1.toInt64 1 90 σ
set_option maxHeartbeats 4000000 in
set_option maxRecDepth 20000 in
theorem m_X7_dips {Γ : Gm} {ad : Nat → Nat} {M : Nat} (l : Launch) (hM : 20 ≤ M) {post : Int32 → St → Prop} (a1 : Int32) (a2 : Int32) (σ : St) (h : w_X7_dips M post a1 a2 σ) : Ci l Γ YM M ad σ yX7_dips cX7_dips 4 (Option.some Jvm.ClassFile.FieldType.int) 6 0 0 [.ref (ad 0), .int a1, .int a2] post := by
  refine g_start (by decide) (Nat.le_of_ble_eq_true rfl) ?_
  intro p e s m args below meth c ls hc hr hn hl hw
  have hc : CX Γ p s m args meth c cX7_dips RX7 4 := hc
  have hl : lv_has ls 4 [(0, .ref (ad 0)), (1, .int a1), (2, .int a2)] := hl
  have hx := hc.1
  have hb := hc.2.1
  unfold w_X7_dips at h
  generalize hHH : s.heap = H0 at hw ⊢
  refine lv_iload_n hx hb dX7_dips_0 rfl (lv_at hl 1 rfl) ?_
  refine lv_i2l (v := a1.toInt64) hx hb dX7_dips_1 rfl ?_
  refine lv_lconst (v := 1) hx hb dX7_dips_2 (by decide) ?_
  refine lv_ldc2 (v := 90) hx hb hc.2.2.2.1 (hc.2.2.2.2.1 _ q_1362) dX7_dips_3 ?_
  refine g_Si (Y := YM) (n := 3) (k := 0) (As := [.long a1.toInt64, .long 1, .long 90]) (rest := []) vw_X7_75 ⟨Nat.le_of_ble_eq_true rfl, Nat.le_of_ble_eq_true rfl, Nat.zero_le _, Nat.zero_le _⟩ hc hw hl.1 (m_X7_in l hM a1.toInt64 1 90 σ h) rfl rfl (Nat.le_of_ble_eq_true rfl) dX7_dips_6 (fun r2 σ1 H locs h hw => ?_)
  refine lv_if_eq (tgt := 24) hx hb dX7_dips_9 (by decide) (fun c3 => ?_) (fun c3 => ?_)
  · replace h := h.1 c3
    refine lv_bipush (v := (-2)) hx hb dX7_dips_24 (by decide) ?_
    exact g_iret hc hr hw h dX7_dips_26
  · replace h := h.2 c3
    refine lv_iload_n hx hb dX7_dips_12 rfl (lv_at hl 2 rfl) ?_
    refine lv_i2l (v := a2.toInt64) hx hb dX7_dips_13 rfl ?_
    refine lv_lconst (v := 0) hx hb dX7_dips_14 (by decide) ?_
    refine lv_ldc2 (v := 999) hx hb hc.2.2.2.1 (hc.2.2.2.2.1 _ q_1372) dX7_dips_15 ?_
    refine g_Si (Y := YM) (n := 3) (k := 0) (As := [.long a2.toInt64, .long 0, .long 999]) (rest := []) vw_X7_75 ⟨Nat.le_of_ble_eq_true rfl, Nat.le_of_ble_eq_true rfl, Nat.zero_le _, Nat.zero_le _⟩ hc hw hl.1 (m_X7_in l hM a2.toInt64 0 999 σ1 h) rfl rfl (Nat.le_of_ble_eq_true rfl) dX7_dips_18 (fun r5 σ4 H locs h hw => ?_)
    refine lv_if_ne (tgt := 27) hx hb dX7_dips_21 (by decide) (fun c6 => ?_) (fun c6 => ?_)
    · replace h := h.2 c6
      refine lv_bipush (v := 30) hx hb dX7_dips_27 (by decide) ?_
      refine lv_istore_n (lv' := [(3, .int 30), (0, .ref (ad 0)), (1, .int a1), (2, .int a2)]) hx hb dX7_dips_29 rfl hl (by decide) rfl (fun ls hl => ?_)
      obtain ⟨n, h⟩ := h
      exact bl_X7_dips_30 hM hc hr n a1 a2 30 σ4 _ _ _ h  hw (lv_sub hl [1, 2, 3, 0] rfl)
    · replace h := h.1 c6
      refine lv_bipush (v := (-2)) hx hb dX7_dips_24 (by decide) ?_
      exact g_iret hc hr hw h dX7_dips_26
def w_X7_wick_35 (M : Nat) (post : Int32 → St → Prop) (k_35 : Int32 → Int32 → Int32 → Int32 → Int32 → St → Prop) (v1 : Int32) (v2 : Int32) (v3 : Int32) (v4 : Int32) (v5 : Int32) (σ : St) : Prop :=
  (10 ≤ v5 → (post v3 σ)) ∧ (¬ (10 ≤ v5) → (w_X7_goes M (fun σ2 => (∀ σ3 : St, σ3 = si σ2 13 13 v5 → (w_X7_atTable M (fun σ4 => (((gi σ4 0 28) < v4 → (∀ x6 : Int32, x6 = v5 + 1 → (k_35 v1 v2 v3 v4 x6 σ4))) ∧ (¬ ((gi σ4 0 28) < v4) → (∀ x7 : Int32, x7 = v5 + 1 → (k_35 v1 v2 v5 (gi σ4 0 28) x7 σ4))))) v1 v2 σ3))) (gi σ 0 21) σ))
set_option maxHeartbeats 4000000 in
set_option maxRecDepth 20000 in
theorem b_X7_wick_35 {Γ : Gm} {ad : Nat → Nat} {p : Program} {l : Launch} {e : Env} {s : State} {m : MethodId} {args : Array Value} {below : List Frame} {meth : Method} {c : Code} {M : Nat} (hM : 20 ≤ M) {post : Int32 → St → Prop} {k_35 : Int32 → Int32 → Int32 → Int32 → Int32 → St → Prop} (hk_35 : ∀ (v1 : Int32) (v2 : Int32) (v3 : Int32) (v4 : Int32) (v5 : Int32) (σ : St) (H : Heap) (locs : List Loc) (ls : Array Slot), k_35 v1 v2 v3 v4 v5 σ → WH Γ YM M ad σ s H locs → lv_has ls 6 [(0, .ref (ad 0)), (1, .int v1), (2, .int v2), (3, .int v3), (4, .int v4), (5, .int v5)] → W p l e (rmL 6 0 0) s m args below meth c H locs 0 0 (MQ below (va_Qi post (fun u t => WC Γ YM M ad u t) (AA Γ)) args s 0 0 (AA Γ)) (F0 m 35 ls []))
    (v1 : Int32) (v2 : Int32) (v3 : Int32) (v4 : Int32) (v5 : Int32) (σ : St) (H : Heap) (locs : List Loc) (ls : Array Slot) (h : w_X7_wick_35 M post k_35 v1 v2 v3 v4 v5 σ) (hc : CX Γ p s m args meth c cX7_wick RX7 6) (hr : meth.sig.returnType = (Option.some Jvm.ClassFile.FieldType.int)) (hw : WH Γ YM M ad σ s H locs) (hl : lv_has ls 6 [(0, .ref (ad 0)), (1, .int v1), (2, .int v2), (3, .int v3), (4, .int v4), (5, .int v5)]) :
    W p l e (rmL 6 0 0) s m args below meth c H locs 0 0 (MQ below (va_Qi post (fun u t => WC Γ YM M ad u t) (AA Γ)) args s 0 0 (AA Γ)) (F0 m 35 ls []) := by
  have hx := hc.1
  have hb := hc.2.1
  unfold w_X7_wick_35 at h
  refine lv_iload hx hb dX7_wick_35 (lv_at hl 5 rfl) ?_
  refine lv_bipush (v := 10) hx hb dX7_wick_37 (by decide) ?_
  refine lv_icmp_ge (tgt := 89) hx hb dX7_wick_39 (by decide) (fun c1 => ?_) (fun c1 => ?_)
  · replace h := h.1 c1
    refine lv_iload_n hx hb dX7_wick_89 rfl (lv_at hl 3 rfl) ?_
    exact g_iret hc hr hw h dX7_wick_90
  · replace h := h.2 c1
    refine lv_aload_n hx hb dX7_wick_42 rfl (lv_at hl 0 rfl) ?_
    refine lv_aload_n hx hb dX7_wick_43 rfl (lv_at hl 0 rfl) ?_
    refine fg_X7_95 hc hw (Nat.lt_of_lt_of_le (by decide) hM) rfl dX7_wick_44 ?_
    refine g_Vv (Y := YM) (ci := 7) (n := 1) (k := 5) (As := [.int (gi σ 0 21)]) (rest := []) rfl (by decide) vw_X7_268 ⟨Nat.le_of_ble_eq_true rfl, Nat.le_of_ble_eq_true rfl, Nat.zero_le _, Nat.zero_le _⟩ hc hw hl.1 (Nat.lt_of_lt_of_le (by decide) hM) rfl (m_X7_goes l hM (gi σ 0 21) σ h) rfl rfl (Nat.le_of_ble_eq_true rfl) dX7_wick_47 (fun σ2 H locs h hw => ?_)
    refine lv_aload_n hx hb dX7_wick_50 rfl (lv_at hl 0 rfl) ?_
    refine fg_X7_47 hc hw (Nat.lt_of_lt_of_le (by decide) hM) rfl dX7_wick_51 ?_
    refine lv_bipush (v := 13) hx hb dX7_wick_54 (by decide) ?_
    refine lv_iload hx hb dX7_wick_56 (lv_at hl 5 rfl) ?_
    refine g_iastK (Y := YM) (kd := 33) (n := 14) (k := 13) (o := 13) YM_ok (by decide) (by decide) rfl hc hw (Nat.lt_of_lt_of_le (by decide) hM) rfl rfl (vp_in_lit (by decide)) (by decide) dX7_wick_58 (fun σ3 H locs eσ3 hw => ?_)
    replace h := h σ3 eσ3
    refine lv_aload_n hx hb dX7_wick_59 rfl (lv_at hl 0 rfl) ?_
    refine lv_iload_n hx hb dX7_wick_60 rfl (lv_at hl 1 rfl) ?_
    refine lv_iload_n hx hb dX7_wick_61 rfl (lv_at hl 2 rfl) ?_
    refine g_Vv (Y := YM) (ci := 7) (n := 2) (k := 5) (As := [.int v1, .int v2]) (rest := []) rfl (by decide) vw_X7_300 ⟨Nat.le_of_ble_eq_true rfl, Nat.le_of_ble_eq_true rfl, Nat.zero_le _, Nat.zero_le _⟩ hc hw hl.1 (Nat.lt_of_lt_of_le (by decide) hM) rfl (m_X7_atTable l hM v1 v2 σ3 h) rfl rfl (Nat.le_of_ble_eq_true rfl) dX7_wick_62 (fun σ4 H locs h hw => ?_)
    refine lv_aload_n hx hb dX7_wick_65 rfl (lv_at hl 0 rfl) ?_
    refine fg_X7_293 hc hw (Nat.lt_of_lt_of_le (by decide) hM) rfl dX7_wick_66 ?_
    refine lv_iload hx hb dX7_wick_69 (lv_at hl 4 rfl) ?_
    refine lv_icmp_lt (tgt := 83) hx hb dX7_wick_71 (by decide) (fun c5 => ?_) (fun c5 => ?_)
    · replace h := h.1 c5
      obtain ⟨x6, ex6⟩ : ∃ z, z = v5 + 1 := ⟨_, rfl⟩
      replace h := h x6 ex6
      refine lv_iinc (v := x6) (lv' := [(5, .int x6), (0, .ref (ad 0)), (1, .int v1), (2, .int v2), (3, .int v3), (4, .int v4)]) hx hb dX7_wick_83 hl (k := 5) rfl (by rw [ex6]; rfl) (by decide) rfl (fun ls hl => ?_)
      refine lv_goto (tgt := 35) hx hb dX7_wick_86 (by decide) ?_
      exact hk_35 v1 v2 v3 v4 x6 σ4 _ _ _ h  hw (lv_sub hl [1, 2, 3, 4, 5, 0] rfl)
    · replace h := h.2 c5
      refine lv_iload hx hb dX7_wick_74 (lv_at hl 5 rfl) ?_
      refine lv_istore_n (lv' := [(3, .int v5), (0, .ref (ad 0)), (1, .int v1), (2, .int v2), (4, .int v4), (5, .int v5)]) hx hb dX7_wick_76 rfl hl (by decide) rfl (fun ls hl => ?_)
      refine lv_aload_n hx hb dX7_wick_77 rfl (lv_at hl 1 rfl) ?_
      refine fg_X7_293 hc hw (Nat.lt_of_lt_of_le (by decide) hM) rfl dX7_wick_78 ?_
      refine lv_istore (lv' := [(4, .int (gi σ4 0 28)), (3, .int v5), (0, .ref (ad 0)), (1, .int v1), (2, .int v2), (5, .int v5)]) hx hb dX7_wick_81 hl (by decide) rfl (fun ls hl => ?_)
      obtain ⟨x7, ex7⟩ : ∃ z, z = v5 + 1 := ⟨_, rfl⟩
      replace h := h x7 ex7
      refine lv_iinc (v := x7) (lv' := [(5, .int x7), (4, .int (gi σ4 0 28)), (3, .int v5), (0, .ref (ad 0)), (1, .int v1), (2, .int v2)]) hx hb dX7_wick_83 hl (k := 5) rfl (by rw [ex7]; rfl) (by decide) rfl (fun ls hl => ?_)
      refine lv_goto (tgt := 35) hx hb dX7_wick_86 (by decide) ?_
      exact hk_35 v1 v2 v5 (gi σ4 0 28) x7 σ4 _ _ _ h  hw (lv_sub hl [3, 4, 5, 2, 1, 0] rfl)
def wl_X7_wick_35 (M : Nat) (post : Int32 → St → Prop) : Nat → Int32 → Int32 → Int32 → Int32 → Int32 → St → Prop
  | 0, _, _, _, _, _, _ => False
  | n + 1, v1, v2, v3, v4, v5, σ => w_X7_wick_35 M post (wl_X7_wick_35 M post n) v1 v2 v3 v4 v5 σ
set_option maxHeartbeats 4000000 in
theorem bl_X7_wick_35 {Γ : Gm} {ad : Nat → Nat} {p : Program} {l : Launch} {e : Env} {s : State} {m : MethodId} {args : Array Value} {below : List Frame} {meth : Method} {c : Code} {M : Nat} (hM : 20 ≤ M) {post : Int32 → St → Prop}
    (hc : CX Γ p s m args meth c cX7_wick RX7 6) (hr : meth.sig.returnType = (Option.some Jvm.ClassFile.FieldType.int)) :
    ∀ (n : Nat) (v1 : Int32) (v2 : Int32) (v3 : Int32) (v4 : Int32) (v5 : Int32) (σ : St) (H : Heap) (locs : List Loc) (ls : Array Slot), wl_X7_wick_35 M post n v1 v2 v3 v4 v5 σ → WH Γ YM M ad σ s H locs → lv_has ls 6 [(0, .ref (ad 0)), (1, .int v1), (2, .int v2), (3, .int v3), (4, .int v4), (5, .int v5)] → W p l e (rmL 6 0 0) s m args below meth c H locs 0 0 (MQ below (va_Qi post (fun u t => WC Γ YM M ad u t) (AA Γ)) args s 0 0 (AA Γ)) (F0 m 35 ls []) := by
  intro n
  induction n with
  | zero => intro v1 v2 v3 v4 v5 σ H locs ls h; exact h.elim
  | succ n ih =>
    intro v1 v2 v3 v4 v5 σ H locs ls h  hw hl
    exact b_X7_wick_35 hM ih v1 v2 v3 v4 v5 σ H locs ls h  hc hr hw hl
def w_X7_wick (M : Nat) (post : Int32 → St → Prop) (a1 : Int32) (a2 : Int32) (σ : St) : Prop :=
  w_X7_in M (fun r2 σ1 => ((r2 = 0 → (post (-2) σ1)) ∧ (¬ (r2 = 0) → (w_X7_in M (fun r5 σ4 => ((r5 = 0 → (post (-2) σ4)) ∧ (¬ (r5 = 0) → (∃ n, wl_X7_wick_35 M post n a1 a2 0 (-1) 0 σ4)))) a2.toInt64 1 30 σ1)))) a1.toInt64 1 90 σ
set_option maxHeartbeats 4000000 in
set_option maxRecDepth 20000 in
theorem m_X7_wick {Γ : Gm} {ad : Nat → Nat} {M : Nat} (l : Launch) (hM : 20 ≤ M) {post : Int32 → St → Prop} (a1 : Int32) (a2 : Int32) (σ : St) (h : w_X7_wick M post a1 a2 σ) : Ci l Γ YM M ad σ yX7_wick cX7_wick 6 (Option.some Jvm.ClassFile.FieldType.int) 6 0 0 [.ref (ad 0), .int a1, .int a2] post := by
  refine g_start (by decide) (Nat.le_of_ble_eq_true rfl) ?_
  intro p e s m args below meth c ls hc hr hn hl hw
  have hc : CX Γ p s m args meth c cX7_wick RX7 6 := hc
  have hl : lv_has ls 6 [(0, .ref (ad 0)), (1, .int a1), (2, .int a2)] := hl
  have hx := hc.1
  have hb := hc.2.1
  unfold w_X7_wick at h
  generalize hHH : s.heap = H0 at hw ⊢
  refine lv_iload_n hx hb dX7_wick_0 rfl (lv_at hl 1 rfl) ?_
  refine lv_i2l (v := a1.toInt64) hx hb dX7_wick_1 rfl ?_
  refine lv_lconst (v := 1) hx hb dX7_wick_2 (by decide) ?_
  refine lv_ldc2 (v := 90) hx hb hc.2.2.2.1 (hc.2.2.2.2.1 _ q_1362) dX7_wick_3 ?_
  refine g_Si (Y := YM) (n := 3) (k := 0) (As := [.long a1.toInt64, .long 1, .long 90]) (rest := []) vw_X7_75 ⟨Nat.le_of_ble_eq_true rfl, Nat.le_of_ble_eq_true rfl, Nat.zero_le _, Nat.zero_le _⟩ hc hw hl.1 (m_X7_in l hM a1.toInt64 1 90 σ h) rfl rfl (Nat.le_of_ble_eq_true rfl) dX7_wick_6 (fun r2 σ1 H locs h hw => ?_)
  refine lv_if_eq (tgt := 24) hx hb dX7_wick_9 (by decide) (fun c3 => ?_) (fun c3 => ?_)
  · replace h := h.1 c3
    refine lv_bipush (v := (-2)) hx hb dX7_wick_24 (by decide) ?_
    exact g_iret hc hr hw h dX7_wick_26
  · replace h := h.2 c3
    refine lv_iload_n hx hb dX7_wick_12 rfl (lv_at hl 2 rfl) ?_
    refine lv_i2l (v := a2.toInt64) hx hb dX7_wick_13 rfl ?_
    refine lv_lconst (v := 1) hx hb dX7_wick_14 (by decide) ?_
    refine lv_ldc2 (v := 30) hx hb hc.2.2.2.1 (hc.2.2.2.2.1 _ q_1357) dX7_wick_15 ?_
    refine g_Si (Y := YM) (n := 3) (k := 0) (As := [.long a2.toInt64, .long 1, .long 30]) (rest := []) vw_X7_75 ⟨Nat.le_of_ble_eq_true rfl, Nat.le_of_ble_eq_true rfl, Nat.zero_le _, Nat.zero_le _⟩ hc hw hl.1 (m_X7_in l hM a2.toInt64 1 30 σ1 h) rfl rfl (Nat.le_of_ble_eq_true rfl) dX7_wick_18 (fun r5 σ4 H locs h hw => ?_)
    refine lv_if_ne (tgt := 27) hx hb dX7_wick_21 (by decide) (fun c6 => ?_) (fun c6 => ?_)
    · replace h := h.2 c6
      refine lv_iconst (v := 0) hx hb dX7_wick_27 (by decide) ?_
      refine lv_istore_n (lv' := [(3, .int 0), (0, .ref (ad 0)), (1, .int a1), (2, .int a2)]) hx hb dX7_wick_28 rfl hl (by decide) rfl (fun ls hl => ?_)
      refine lv_iconst (v := (-1)) hx hb dX7_wick_29 (by decide) ?_
      refine lv_istore (lv' := [(4, .int (-1)), (3, .int 0), (0, .ref (ad 0)), (1, .int a1), (2, .int a2)]) hx hb dX7_wick_30 hl (by decide) rfl (fun ls hl => ?_)
      refine lv_iconst (v := 0) hx hb dX7_wick_32 (by decide) ?_
      refine lv_istore (lv' := [(5, .int 0), (4, .int (-1)), (3, .int 0), (0, .ref (ad 0)), (1, .int a1), (2, .int a2)]) hx hb dX7_wick_33 hl (by decide) rfl (fun ls hl => ?_)
      obtain ⟨n, h⟩ := h
      exact bl_X7_wick_35 hM hc hr n a1 a2 0 (-1) 0 σ4 _ _ _ h  hw (lv_sub hl [3, 4, 5, 2, 1, 0] rfl)
    · replace h := h.1 c6
      refine lv_bipush (v := (-2)) hx hb dX7_wick_24 (by decide) ?_
      exact g_iret hc hr hw h dX7_wick_26
def w_X7_ages_35 (M : Nat) (post : Int64 → St → Prop) (k_35 : Int32 → Int32 → Int32 → Int64 → Int32 → St → Prop) (v1 : Int32) (v2 : Int32) (v3 : Int32) (v4 : Int64) (v6 : Int32) (σ : St) : Prop :=
  (60 < v6 → ((vp_in (5 * v1) 20) ∧ (∀ σ2 : St, σ2 = si σ 1 ((5 * v1).toNatClampNeg) v3 → (post v4 σ2)))) ∧ (¬ (60 < v6) → ((vp_in (5 * v1) 20) ∧ (∀ σ3 : St, σ3 = si σ 1 ((5 * v1).toNatClampNeg) v6 → (w_X7_isFilm M (fun r5 σ4 => ((r5 = 0 → (∀ x7 : Int32, x7 = v6 + 1 → (k_35 v1 v2 v3 (v4 ||| 0) x7 σ4))) ∧ (¬ (r5 = 0) → (∀ y8 : Int64, y8 = (1 : Int64) <<< (Int32.toInt64 v6 &&& 63) → (∀ x9 : Int32, x9 = v6 + 1 → (k_35 v1 v2 v3 (v4 ||| y8) x9 σ4)))))) v2 σ3))))
set_option maxHeartbeats 4000000 in
set_option maxRecDepth 20000 in
theorem b_X7_ages_35 {Γ : Gm} {ad : Nat → Nat} {p : Program} {l : Launch} {e : Env} {s : State} {m : MethodId} {args : Array Value} {below : List Frame} {meth : Method} {c : Code} {M : Nat} (hM : 20 ≤ M) {post : Int64 → St → Prop} {k_35 : Int32 → Int32 → Int32 → Int64 → Int32 → St → Prop} (hk_35 : ∀ (v1 : Int32) (v2 : Int32) (v3 : Int32) (v4 : Int64) (v6 : Int32) (σ : St) (H : Heap) (locs : List Loc) (ls : Array Slot), k_35 v1 v2 v3 v4 v6 σ → WH Γ YM M ad σ s H locs → lv_has ls 7 [(0, .ref (ad 0)), (1, .int v1), (2, .int v2), (3, .int v3), (4, .long v4), (6, .int v6)] → W p l e (rmL 6 0 0) s m args below meth c H locs 0 0 (MQ below (va_Ql post (fun u t => WC Γ YM M ad u t) (AA Γ)) args s 0 0 (AA Γ)) (F0 m 35 ls []))
    (v1 : Int32) (v2 : Int32) (v3 : Int32) (v4 : Int64) (v6 : Int32) (σ : St) (H : Heap) (locs : List Loc) (ls : Array Slot) (h : w_X7_ages_35 M post k_35 v1 v2 v3 v4 v6 σ) (hc : CX Γ p s m args meth c cX7_ages RX7 7) (hr : meth.sig.returnType = (Option.some Jvm.ClassFile.FieldType.long)) (hw : WH Γ YM M ad σ s H locs) (hl : lv_has ls 7 [(0, .ref (ad 0)), (1, .int v1), (2, .int v2), (3, .int v3), (4, .long v4), (6, .int v6)]) :
    W p l e (rmL 6 0 0) s m args below meth c H locs 0 0 (MQ below (va_Ql post (fun u t => WC Γ YM M ad u t) (AA Γ)) args s 0 0 (AA Γ)) (F0 m 35 ls []) := by
  have hx := hc.1
  have hb := hc.2.1
  unfold w_X7_ages_35 at h
  refine lv_iload hx hb dX7_ages_35 (lv_at hl 5 rfl) ?_
  refine lv_bipush (v := 60) hx hb dX7_ages_37 (by decide) ?_
  refine lv_icmp_gt (tgt := 79) hx hb dX7_ages_39 (by decide) (fun c1 => ?_) (fun c1 => ?_)
  · replace h := h.1 c1
    refine lv_aload_n hx hb dX7_ages_79 rfl (lv_at hl 0 rfl) ?_
    refine fg_X7_9 hc hw (Nat.lt_of_lt_of_le (by decide) hM) rfl dX7_ages_80 ?_
    refine lv_iconst (v := 5) hx hb dX7_ages_83 (by decide) ?_
    refine lv_iload_n hx hb dX7_ages_84 rfl (lv_at hl 1 rfl) ?_
    refine lv_imul hx hb dX7_ages_85 ?_
    refine lv_iload_n hx hb dX7_ages_86 rfl (lv_at hl 3 rfl) ?_
    have hin := h.1
    replace h := h.2
    refine g_iastK (Y := YM) (kd := 21) (n := 20) (k := (5 * v1).toNatClampNeg) (o := 1) YM_ok (by decide) (by decide) rfl hc hw (Nat.lt_of_lt_of_le (by decide) hM) rfl rfl hin rfl dX7_ages_87 (fun σ2 H locs eσ2 hw => ?_)
    replace h := h σ2 eσ2
    refine lv_lload hx hb dX7_ages_88 (lv_at hl 4 rfl) ?_
    exact g_lret hc hr hw h dX7_ages_90
  · replace h := h.2 c1
    refine lv_aload_n hx hb dX7_ages_42 rfl (lv_at hl 0 rfl) ?_
    refine fg_X7_9 hc hw (Nat.lt_of_lt_of_le (by decide) hM) rfl dX7_ages_43 ?_
    refine lv_iconst (v := 5) hx hb dX7_ages_46 (by decide) ?_
    refine lv_iload_n hx hb dX7_ages_47 rfl (lv_at hl 1 rfl) ?_
    refine lv_imul hx hb dX7_ages_48 ?_
    refine lv_iload hx hb dX7_ages_49 (lv_at hl 5 rfl) ?_
    have hin := h.1
    replace h := h.2
    refine g_iastK (Y := YM) (kd := 21) (n := 20) (k := (5 * v1).toNatClampNeg) (o := 1) YM_ok (by decide) (by decide) rfl hc hw (Nat.lt_of_lt_of_le (by decide) hM) rfl rfl hin rfl dX7_ages_51 (fun σ3 H locs eσ3 hw => ?_)
    replace h := h σ3 eσ3
    refine lv_lload hx hb dX7_ages_52 (lv_at hl 4 rfl) ?_
    refine lv_aload_n hx hb dX7_ages_54 rfl (lv_at hl 0 rfl) ?_
    refine lv_iload_n hx hb dX7_ages_55 rfl (lv_at hl 2 rfl) ?_
    refine g_Vi (Y := YM) (ci := 7) (n := 1) (k := 5) (As := [.int v2]) (rest := [.long v4]) rfl (by decide) vw_X7_314 ⟨Nat.le_of_ble_eq_true rfl, Nat.le_of_ble_eq_true rfl, Nat.zero_le _, Nat.zero_le _⟩ hc hw hl.1 (Nat.lt_of_lt_of_le (by decide) hM) rfl (m_X7_isFilm l hM v2 σ3 h) rfl rfl (Nat.le_of_ble_eq_true rfl) dX7_ages_56 (fun r5 σ4 H locs h hw => ?_)
    refine lv_if_eq (tgt := 69) hx hb dX7_ages_59 (by decide) (fun c6 => ?_) (fun c6 => ?_)
    · replace h := h.1 c6
      refine lv_lconst (v := 0) hx hb dX7_ages_69 (by decide) ?_
      refine lv_lor hx hb dX7_ages_70 ?_
      refine lv_lstore (lv' := [(4, .long (v4 ||| 0)), (0, .ref (ad 0)), (1, .int v1), (2, .int v2), (3, .int v3), (6, .int v6)]) hx hb dX7_ages_71 hl (by decide) rfl (fun ls hl => ?_)
      obtain ⟨x7, ex7⟩ : ∃ z, z = v6 + 1 := ⟨_, rfl⟩
      replace h := h x7 ex7
      refine lv_iinc (v := x7) (lv' := [(6, .int x7), (4, .long (v4 ||| 0)), (0, .ref (ad 0)), (1, .int v1), (2, .int v2), (3, .int v3)]) hx hb dX7_ages_73 hl (k := 5) rfl (by rw [ex7]; rfl) (by decide) rfl (fun ls hl => ?_)
      refine lv_goto (tgt := 35) hx hb dX7_ages_76 (by decide) ?_
      exact hk_35 v1 v2 v3 (v4 ||| 0) x7 σ4 _ _ _ h  hw (lv_sub hl [2, 3, 4, 5, 1, 0] rfl)
    · replace h := h.2 c6
      refine lv_lconst (v := 1) hx hb dX7_ages_62 (by decide) ?_
      refine lv_iload hx hb dX7_ages_63 (lv_at hl 5 rfl) ?_
      refine lv_lshl (v := (1 : Int64) <<< (Int32.toInt64 v6 &&& 63)) hx hb dX7_ages_65 rfl ?_
      refine lv_topl (fun y8 ey8 => ?_)
      replace h := h y8 ey8
      refine lv_goto (tgt := 70) hx hb dX7_ages_66 (by decide) ?_
      refine lv_lor hx hb dX7_ages_70 ?_
      refine lv_lstore (lv' := [(4, .long (v4 ||| y8)), (0, .ref (ad 0)), (1, .int v1), (2, .int v2), (3, .int v3), (6, .int v6)]) hx hb dX7_ages_71 hl (by decide) rfl (fun ls hl => ?_)
      obtain ⟨x9, ex9⟩ : ∃ z, z = v6 + 1 := ⟨_, rfl⟩
      replace h := h x9 ex9
      refine lv_iinc (v := x9) (lv' := [(6, .int x9), (4, .long (v4 ||| y8)), (0, .ref (ad 0)), (1, .int v1), (2, .int v2), (3, .int v3)]) hx hb dX7_ages_73 hl (k := 5) rfl (by rw [ex9]; rfl) (by decide) rfl (fun ls hl => ?_)
      refine lv_goto (tgt := 35) hx hb dX7_ages_76 (by decide) ?_
      exact hk_35 v1 v2 v3 (v4 ||| y8) x9 σ4 _ _ _ h  hw (lv_sub hl [2, 3, 4, 5, 1, 0] rfl)
def wl_X7_ages_35 (M : Nat) (post : Int64 → St → Prop) : Nat → Int32 → Int32 → Int32 → Int64 → Int32 → St → Prop
  | 0, _, _, _, _, _, _ => False
  | n + 1, v1, v2, v3, v4, v6, σ => w_X7_ages_35 M post (wl_X7_ages_35 M post n) v1 v2 v3 v4 v6 σ
set_option maxHeartbeats 4000000 in
theorem bl_X7_ages_35 {Γ : Gm} {ad : Nat → Nat} {p : Program} {l : Launch} {e : Env} {s : State} {m : MethodId} {args : Array Value} {below : List Frame} {meth : Method} {c : Code} {M : Nat} (hM : 20 ≤ M) {post : Int64 → St → Prop}
    (hc : CX Γ p s m args meth c cX7_ages RX7 7) (hr : meth.sig.returnType = (Option.some Jvm.ClassFile.FieldType.long)) :
    ∀ (n : Nat) (v1 : Int32) (v2 : Int32) (v3 : Int32) (v4 : Int64) (v6 : Int32) (σ : St) (H : Heap) (locs : List Loc) (ls : Array Slot), wl_X7_ages_35 M post n v1 v2 v3 v4 v6 σ → WH Γ YM M ad σ s H locs → lv_has ls 7 [(0, .ref (ad 0)), (1, .int v1), (2, .int v2), (3, .int v3), (4, .long v4), (6, .int v6)] → W p l e (rmL 6 0 0) s m args below meth c H locs 0 0 (MQ below (va_Ql post (fun u t => WC Γ YM M ad u t) (AA Γ)) args s 0 0 (AA Γ)) (F0 m 35 ls []) := by
  intro n
  induction n with
  | zero => intro v1 v2 v3 v4 v6 σ H locs ls h; exact h.elim
  | succ n ih =>
    intro v1 v2 v3 v4 v6 σ H locs ls h  hw hl
    exact b_X7_ages_35 hM ih v1 v2 v3 v4 v6 σ H locs ls h  hc hr hw hl
def w_X7_ages (M : Nat) (post : Int64 → St → Prop) (a1 : Int32) (a2 : Int32) (σ : St) : Prop :=
  w_X7_isCheese M (fun r2 σ1 => ((r2 = 0 → (post (-4611686018427387904) σ1)) ∧ (¬ (r2 = 0) → (w_X7_refuses M (fun r5 σ4 => ((0 ≤ r5 → ((vp_in (5 * a1) 20) ∧ (∀ x7 : Int32, x7 = gi σ4 1 ((5 * a1).toNatClampNeg) → (∃ n, wl_X7_ages_35 M post n a1 a2 x7 0 1 σ4)))) ∧ (¬ (0 ≤ r5) → (post (-4611686018427387904) σ4)))) a2 σ1)))) a1 σ
set_option maxHeartbeats 4000000 in
set_option maxRecDepth 20000 in
theorem m_X7_ages {Γ : Gm} {ad : Nat → Nat} {M : Nat} (l : Launch) (hM : 20 ≤ M) {post : Int64 → St → Prop} (a1 : Int32) (a2 : Int32) (σ : St) (h : w_X7_ages M post a1 a2 σ) : Cl l Γ YM M ad σ yX7_ages cX7_ages 7 (Option.some Jvm.ClassFile.FieldType.long) 6 0 0 [.ref (ad 0), .int a1, .int a2] post := by
  refine g_start (by decide) (Nat.le_of_ble_eq_true rfl) ?_
  intro p e s m args below meth c ls hc hr hn hl hw
  have hc : CX Γ p s m args meth c cX7_ages RX7 7 := hc
  have hl : lv_has ls 7 [(0, .ref (ad 0)), (1, .int a1), (2, .int a2)] := hl
  have hx := hc.1
  have hb := hc.2.1
  unfold w_X7_ages at h
  generalize hHH : s.heap = H0 at hw ⊢
  refine lv_aload_n hx hb dX7_ages_0 rfl (lv_at hl 0 rfl) ?_
  refine lv_iload_n hx hb dX7_ages_1 rfl (lv_at hl 1 rfl) ?_
  refine g_Vi (Y := YM) (ci := 7) (n := 1) (k := 1) (As := [.int a1]) (rest := []) rfl (by decide) vw_X7_85 ⟨Nat.le_of_ble_eq_true rfl, Nat.le_of_ble_eq_true rfl, Nat.zero_le _, Nat.zero_le _⟩ hc hw hl.1 (Nat.lt_of_lt_of_le (by decide) hM) rfl (m_X7_isCheese l hM a1 σ h) rfl rfl (Nat.le_of_ble_eq_true rfl) dX7_ages_2 (fun r2 σ1 H locs h hw => ?_)
  refine lv_if_eq (tgt := 16) hx hb dX7_ages_5 (by decide) (fun c3 => ?_) (fun c3 => ?_)
  · replace h := h.1 c3
    refine lv_ldc2 (v := (-4611686018427387904)) hx hb hc.2.2.2.1 (hc.2.2.2.2.1 _ q_1324) dX7_ages_16 ?_
    exact g_lret hc hr hw h dX7_ages_19
  · replace h := h.2 c3
    refine lv_aload_n hx hb dX7_ages_8 rfl (lv_at hl 0 rfl) ?_
    refine lv_iload_n hx hb dX7_ages_9 rfl (lv_at hl 2 rfl) ?_
    refine g_Vi (Y := YM) (ci := 7) (n := 1) (k := 2) (As := [.int a2]) (rest := []) rfl (by decide) vw_X7_308 ⟨Nat.le_of_ble_eq_true rfl, Nat.le_of_ble_eq_true rfl, Nat.zero_le _, Nat.zero_le _⟩ hc hw hl.1 (Nat.lt_of_lt_of_le (by decide) hM) rfl (m_X7_refuses l hM a2 σ1 h) rfl rfl (Nat.le_of_ble_eq_true rfl) dX7_ages_10 (fun r5 σ4 H locs h hw => ?_)
    refine lv_if_ge (tgt := 20) hx hb dX7_ages_13 (by decide) (fun c6 => ?_) (fun c6 => ?_)
    · replace h := h.1 c6
      refine lv_aload_n hx hb dX7_ages_20 rfl (lv_at hl 0 rfl) ?_
      refine fg_X7_9 hc hw (Nat.lt_of_lt_of_le (by decide) hM) rfl dX7_ages_21 ?_
      refine lv_iconst (v := 5) hx hb dX7_ages_24 (by decide) ?_
      refine lv_iload_n hx hb dX7_ages_25 rfl (lv_at hl 1 rfl) ?_
      refine lv_imul hx hb dX7_ages_26 ?_
      refine g_ialdK (Y := YM) (kd := 21) (n := 20) (k := (5 * a1).toNatClampNeg) (o := 1) (by decide) (by decide) rfl hc hw (Nat.lt_of_lt_of_le (by decide) hM) rfl rfl h.1 rfl dX7_ages_27 ?_
      replace h := h.2
      refine lv_topi (fun x7 ex7 => ?_)
      replace h := h x7 ex7
      refine lv_istore_n (lv' := [(3, .int x7), (0, .ref (ad 0)), (1, .int a1), (2, .int a2)]) hx hb dX7_ages_28 rfl hl (by decide) rfl (fun ls hl => ?_)
      refine lv_lconst (v := 0) hx hb dX7_ages_29 (by decide) ?_
      refine lv_lstore (lv' := [(4, .long 0), (3, .int x7), (0, .ref (ad 0)), (1, .int a1), (2, .int a2)]) hx hb dX7_ages_30 hl (by decide) rfl (fun ls hl => ?_)
      refine lv_iconst (v := 1) hx hb dX7_ages_32 (by decide) ?_
      refine lv_istore (lv' := [(6, .int 1), (4, .long 0), (3, .int x7), (0, .ref (ad 0)), (1, .int a1), (2, .int a2)]) hx hb dX7_ages_33 hl (by decide) rfl (fun ls hl => ?_)
      obtain ⟨n, h⟩ := h
      exact bl_X7_ages_35 hM hc hr n a1 a2 x7 0 1 σ4 _ _ _ h  hw (lv_sub hl [3, 4, 5, 2, 1, 0] rfl)
    · replace h := h.2 c6
      refine lv_ldc2 (v := (-4611686018427387904)) hx hb hc.2.2.2.1 (hc.2.2.2.2.1 _ q_1324) dX7_ages_16 ?_
      exact g_lret hc hr hw h dX7_ages_19
def w_X7_which_24 (M : Nat) (post : Int32 → St → Prop) (k_24 : Int32 → Int32 → Int32 → Int32 → St → Prop) (v1 : Int32) (v2 : Int32) (v3 : Int32) (v4 : Int32) (σ : St) : Prop :=
  ((gi σ 0 5) ≤ v4 → (∀ σ2 : St, σ2 = si σ 0 6 v2 → (post v3 σ2))) ∧ (¬ ((gi σ 0 5) ≤ v4) → (∀ σ3 : St, σ3 = si σ 0 6 v4 → (w_X7_isFilm M (fun r5 σ4 => ((r5 = 0 → (∀ x7 : Int32, x7 = v4 + 1 → (k_24 v1 v2 (v3 ||| 0) x7 σ4))) ∧ (¬ (r5 = 0) → (∀ x8 : Int32, x8 = v4 + 1 → (k_24 v1 v2 (v3 ||| (1 <<< (v4 &&& 31))) x8 σ4))))) v1 σ3)))
set_option maxHeartbeats 4000000 in
set_option maxRecDepth 20000 in
theorem b_X7_which_24 {Γ : Gm} {ad : Nat → Nat} {p : Program} {l : Launch} {e : Env} {s : State} {m : MethodId} {args : Array Value} {below : List Frame} {meth : Method} {c : Code} {M : Nat} (hM : 20 ≤ M) {post : Int32 → St → Prop} {k_24 : Int32 → Int32 → Int32 → Int32 → St → Prop} (hk_24 : ∀ (v1 : Int32) (v2 : Int32) (v3 : Int32) (v4 : Int32) (σ : St) (H : Heap) (locs : List Loc) (ls : Array Slot), k_24 v1 v2 v3 v4 σ → WH Γ YM M ad σ s H locs → lv_has ls 5 [(0, .ref (ad 0)), (1, .int v1), (2, .int v2), (3, .int v3), (4, .int v4)] → W p l e (rmL 6 0 0) s m args below meth c H locs 0 0 (MQ below (va_Qi post (fun u t => WC Γ YM M ad u t) (AA Γ)) args s 0 0 (AA Γ)) (F0 m 24 ls []))
    (v1 : Int32) (v2 : Int32) (v3 : Int32) (v4 : Int32) (σ : St) (H : Heap) (locs : List Loc) (ls : Array Slot) (h : w_X7_which_24 M post k_24 v1 v2 v3 v4 σ) (hc : CX Γ p s m args meth c cX7_which RX7 5) (hr : meth.sig.returnType = (Option.some Jvm.ClassFile.FieldType.int)) (hw : WH Γ YM M ad σ s H locs) (hl : lv_has ls 5 [(0, .ref (ad 0)), (1, .int v1), (2, .int v2), (3, .int v3), (4, .int v4)]) :
    W p l e (rmL 6 0 0) s m args below meth c H locs 0 0 (MQ below (va_Qi post (fun u t => WC Γ YM M ad u t) (AA Γ)) args s 0 0 (AA Γ)) (F0 m 24 ls []) := by
  have hx := hc.1
  have hb := hc.2.1
  unfold w_X7_which_24 at h
  refine lv_iload hx hb dX7_which_24 (lv_at hl 4 rfl) ?_
  refine lv_aload_n hx hb dX7_which_26 rfl (lv_at hl 0 rfl) ?_
  refine fg_X7_68 hc hw (Nat.lt_of_lt_of_le (by decide) hM) rfl dX7_which_27 ?_
  refine lv_icmp_ge (tgt := 64) hx hb dX7_which_30 (by decide) (fun c1 => ?_) (fun c1 => ?_)
  · replace h := h.1 c1
    refine lv_aload_n hx hb dX7_which_64 rfl (lv_at hl 0 rfl) ?_
    refine lv_iload_n hx hb dX7_which_65 rfl (lv_at hl 2 rfl) ?_
    refine fp_X7_98 (o := 0) hc hw (Nat.lt_of_lt_of_le (by decide) hM) rfl dX7_which_66 (fun σ2 H locs eσ2 hw => ?_)
    replace h := h σ2 eσ2
    refine lv_iload_n hx hb dX7_which_69 rfl (lv_at hl 3 rfl) ?_
    exact g_iret hc hr hw h dX7_which_70
  · replace h := h.2 c1
    refine lv_aload_n hx hb dX7_which_33 rfl (lv_at hl 0 rfl) ?_
    refine lv_iload hx hb dX7_which_34 (lv_at hl 4 rfl) ?_
    refine fp_X7_98 (o := 0) hc hw (Nat.lt_of_lt_of_le (by decide) hM) rfl dX7_which_36 (fun σ3 H locs eσ3 hw => ?_)
    replace h := h σ3 eσ3
    refine lv_iload_n hx hb dX7_which_39 rfl (lv_at hl 3 rfl) ?_
    refine lv_aload_n hx hb dX7_which_40 rfl (lv_at hl 0 rfl) ?_
    refine lv_iload_n hx hb dX7_which_41 rfl (lv_at hl 1 rfl) ?_
    refine g_Vi (Y := YM) (ci := 7) (n := 1) (k := 5) (As := [.int v1]) (rest := [.int v3]) rfl (by decide) vw_X7_314 ⟨Nat.le_of_ble_eq_true rfl, Nat.le_of_ble_eq_true rfl, Nat.zero_le _, Nat.zero_le _⟩ hc hw hl.1 (Nat.lt_of_lt_of_le (by decide) hM) rfl (m_X7_isFilm l hM v1 σ3 h) rfl rfl (Nat.le_of_ble_eq_true rfl) dX7_which_42 (fun r5 σ4 H locs h hw => ?_)
    refine lv_if_eq (tgt := 55) hx hb dX7_which_45 (by decide) (fun c6 => ?_) (fun c6 => ?_)
    · replace h := h.1 c6
      refine lv_iconst (v := 0) hx hb dX7_which_55 (by decide) ?_
      refine lv_ior hx hb dX7_which_56 ?_
      refine lv_istore_n (lv' := [(3, .int (v3 ||| 0)), (0, .ref (ad 0)), (1, .int v1), (2, .int v2), (4, .int v4)]) hx hb dX7_which_57 rfl hl (by decide) rfl (fun ls hl => ?_)
      obtain ⟨x7, ex7⟩ : ∃ z, z = v4 + 1 := ⟨_, rfl⟩
      replace h := h x7 ex7
      refine lv_iinc (v := x7) (lv' := [(4, .int x7), (3, .int (v3 ||| 0)), (0, .ref (ad 0)), (1, .int v1), (2, .int v2)]) hx hb dX7_which_58 hl (k := 4) rfl (by rw [ex7]; rfl) (by decide) rfl (fun ls hl => ?_)
      refine lv_goto (tgt := 24) hx hb dX7_which_61 (by decide) ?_
      exact hk_24 v1 v2 (v3 ||| 0) x7 σ4 _ _ _ h  hw (lv_sub hl [2, 3, 4, 1, 0] rfl)
    · replace h := h.2 c6
      refine lv_iconst (v := 1) hx hb dX7_which_48 (by decide) ?_
      refine lv_iload hx hb dX7_which_49 (lv_at hl 4 rfl) ?_
      refine lv_ishl hx hb dX7_which_51 ?_
      refine lv_goto (tgt := 56) hx hb dX7_which_52 (by decide) ?_
      refine lv_ior hx hb dX7_which_56 ?_
      refine lv_istore_n (lv' := [(3, .int (v3 ||| (1 <<< (v4 &&& 31)))), (0, .ref (ad 0)), (1, .int v1), (2, .int v2), (4, .int v4)]) hx hb dX7_which_57 rfl hl (by decide) rfl (fun ls hl => ?_)
      obtain ⟨x8, ex8⟩ : ∃ z, z = v4 + 1 := ⟨_, rfl⟩
      replace h := h x8 ex8
      refine lv_iinc (v := x8) (lv' := [(4, .int x8), (3, .int (v3 ||| (1 <<< (v4 &&& 31)))), (0, .ref (ad 0)), (1, .int v1), (2, .int v2)]) hx hb dX7_which_58 hl (k := 4) rfl (by rw [ex8]; rfl) (by decide) rfl (fun ls hl => ?_)
      refine lv_goto (tgt := 24) hx hb dX7_which_61 (by decide) ?_
      exact hk_24 v1 v2 (v3 ||| (1 <<< (v4 &&& 31))) x8 σ4 _ _ _ h  hw (lv_sub hl [2, 3, 4, 1, 0] rfl)
def wl_X7_which_24 (M : Nat) (post : Int32 → St → Prop) : Nat → Int32 → Int32 → Int32 → Int32 → St → Prop
  | 0, _, _, _, _, _ => False
  | n + 1, v1, v2, v3, v4, σ => w_X7_which_24 M post (wl_X7_which_24 M post n) v1 v2 v3 v4 σ
set_option maxHeartbeats 4000000 in
theorem bl_X7_which_24 {Γ : Gm} {ad : Nat → Nat} {p : Program} {l : Launch} {e : Env} {s : State} {m : MethodId} {args : Array Value} {below : List Frame} {meth : Method} {c : Code} {M : Nat} (hM : 20 ≤ M) {post : Int32 → St → Prop}
    (hc : CX Γ p s m args meth c cX7_which RX7 5) (hr : meth.sig.returnType = (Option.some Jvm.ClassFile.FieldType.int)) :
    ∀ (n : Nat) (v1 : Int32) (v2 : Int32) (v3 : Int32) (v4 : Int32) (σ : St) (H : Heap) (locs : List Loc) (ls : Array Slot), wl_X7_which_24 M post n v1 v2 v3 v4 σ → WH Γ YM M ad σ s H locs → lv_has ls 5 [(0, .ref (ad 0)), (1, .int v1), (2, .int v2), (3, .int v3), (4, .int v4)] → W p l e (rmL 6 0 0) s m args below meth c H locs 0 0 (MQ below (va_Qi post (fun u t => WC Γ YM M ad u t) (AA Γ)) args s 0 0 (AA Γ)) (F0 m 24 ls []) := by
  intro n
  induction n with
  | zero => intro v1 v2 v3 v4 σ H locs ls h; exact h.elim
  | succ n ih =>
    intro v1 v2 v3 v4 σ H locs ls h  hw hl
    exact b_X7_which_24 hM ih v1 v2 v3 v4 σ H locs ls h  hc hr hw hl
def w_X7_which (M : Nat) (post : Int32 → St → Prop) (a1 : Int32) (σ : St) : Prop :=
  w_X7_refuses M (fun r2 σ1 => ((0 ≤ r2 → (∃ n, wl_X7_which_24 M post n a1 (gi σ1 0 6) 0 0 σ1)) ∧ (¬ (0 ≤ r2) → (w_X7_refuses M (fun r5 σ4 => (post r5 σ4)) a1 σ1)))) a1 σ
set_option maxHeartbeats 4000000 in
set_option maxRecDepth 20000 in
theorem m_X7_which {Γ : Gm} {ad : Nat → Nat} {M : Nat} (l : Launch) (hM : 20 ≤ M) {post : Int32 → St → Prop} (a1 : Int32) (σ : St) (h : w_X7_which M post a1 σ) : Ci l Γ YM M ad σ yX7_which cX7_which 5 (Option.some Jvm.ClassFile.FieldType.int) 6 0 0 [.ref (ad 0), .int a1] post := by
  refine g_start (by decide) (Nat.le_of_ble_eq_true rfl) ?_
  intro p e s m args below meth c ls hc hr hn hl hw
  have hc : CX Γ p s m args meth c cX7_which RX7 5 := hc
  have hl : lv_has ls 5 [(0, .ref (ad 0)), (1, .int a1)] := hl
  have hx := hc.1
  have hb := hc.2.1
  unfold w_X7_which at h
  generalize hHH : s.heap = H0 at hw ⊢
  refine lv_aload_n hx hb dX7_which_0 rfl (lv_at hl 0 rfl) ?_
  refine lv_iload_n hx hb dX7_which_1 rfl (lv_at hl 1 rfl) ?_
  refine g_Vi (Y := YM) (ci := 7) (n := 1) (k := 2) (As := [.int a1]) (rest := []) rfl (by decide) vw_X7_308 ⟨Nat.le_of_ble_eq_true rfl, Nat.le_of_ble_eq_true rfl, Nat.zero_le _, Nat.zero_le _⟩ hc hw hl.1 (Nat.lt_of_lt_of_le (by decide) hM) rfl (m_X7_refuses l hM a1 σ h) rfl rfl (Nat.le_of_ble_eq_true rfl) dX7_which_2 (fun r2 σ1 H locs h hw => ?_)
  refine lv_if_ge (tgt := 14) hx hb dX7_which_5 (by decide) (fun c3 => ?_) (fun c3 => ?_)
  · replace h := h.1 c3
    refine lv_aload_n hx hb dX7_which_14 rfl (lv_at hl 0 rfl) ?_
    refine fg_X7_98 hc hw (Nat.lt_of_lt_of_le (by decide) hM) rfl dX7_which_15 ?_
    refine lv_istore_n (lv' := [(2, .int (gi σ1 0 6)), (0, .ref (ad 0)), (1, .int a1)]) hx hb dX7_which_18 rfl hl (by decide) rfl (fun ls hl => ?_)
    refine lv_iconst (v := 0) hx hb dX7_which_19 (by decide) ?_
    refine lv_istore_n (lv' := [(3, .int 0), (2, .int (gi σ1 0 6)), (0, .ref (ad 0)), (1, .int a1)]) hx hb dX7_which_20 rfl hl (by decide) rfl (fun ls hl => ?_)
    refine lv_iconst (v := 0) hx hb dX7_which_21 (by decide) ?_
    refine lv_istore (lv' := [(4, .int 0), (3, .int 0), (2, .int (gi σ1 0 6)), (0, .ref (ad 0)), (1, .int a1)]) hx hb dX7_which_22 hl (by decide) rfl (fun ls hl => ?_)
    obtain ⟨n, h⟩ := h
    exact bl_X7_which_24 hM hc hr n a1 (gi σ1 0 6) 0 0 σ1 _ _ _ h  hw (lv_sub hl [3, 4, 2, 1, 0] rfl)
  · replace h := h.2 c3
    refine lv_aload_n hx hb dX7_which_8 rfl (lv_at hl 0 rfl) ?_
    refine lv_iload_n hx hb dX7_which_9 rfl (lv_at hl 1 rfl) ?_
    refine g_Vi (Y := YM) (ci := 7) (n := 1) (k := 2) (As := [.int a1]) (rest := []) rfl (by decide) vw_X7_308 ⟨Nat.le_of_ble_eq_true rfl, Nat.le_of_ble_eq_true rfl, Nat.zero_le _, Nat.zero_le _⟩ hc hw hl.1 (Nat.lt_of_lt_of_le (by decide) hM) rfl (m_X7_refuses l hM a1 σ1 h) rfl rfl (Nat.le_of_ble_eq_true rfl) dX7_which_10 (fun r5 σ4 H locs h hw => ?_)
    exact g_iret hc hr hw h dX7_which_13
def w_X7_drawn (M : Nat) (post : Int32 → St → Prop) (a1 : Int32) (a2 : Int32) (a3 : Int32) (σ : St) : Prop :=
  w_X7_areActs M (fun r2 σ1 => ((r2 = 0 → (post (-5) σ1)) ∧ (¬ (r2 = 0) → (w_X7_in M (fun r5 σ4 => ((r5 = 0 → (post (-7) σ4)) ∧ (¬ (r5 = 0) → (w_X7_in M (fun r8 σ7 => ((r8 = 0 → (post (-7) σ7)) ∧ (¬ (r8 = 0) → (w_X7_goesDrawn M (fun σ10 => (w_X7_potTold M (fun r12 σ11 => (post r12 σ11)) a3 σ10)) a1 a2 σ7)))) a3.toInt64 0 13 σ4)))) a2.toInt64 0 99999 σ1)))) a1 σ
set_option maxHeartbeats 4000000 in
set_option maxRecDepth 20000 in
theorem m_X7_drawn {Γ : Gm} {ad : Nat → Nat} {M : Nat} (l : Launch) (hM : 20 ≤ M) {post : Int32 → St → Prop} (a1 : Int32) (a2 : Int32) (a3 : Int32) (σ : St) (h : w_X7_drawn M post a1 a2 a3 σ) : Ci l Γ YM M ad σ yX7_drawn cX7_drawn 4 (Option.some Jvm.ClassFile.FieldType.int) 6 0 0 [.ref (ad 0), .int a1, .int a2, .int a3] post := by
  refine g_start (by decide) (Nat.le_of_ble_eq_true rfl) ?_
  intro p e s m args below meth c ls hc hr hn hl hw
  have hc : CX Γ p s m args meth c cX7_drawn RX7 4 := hc
  have hl : lv_has ls 4 [(0, .ref (ad 0)), (1, .int a1), (2, .int a2), (3, .int a3)] := hl
  have hx := hc.1
  have hb := hc.2.1
  unfold w_X7_drawn at h
  generalize hHH : s.heap = H0 at hw ⊢
  refine lv_aload_n hx hb dX7_drawn_0 rfl (lv_at hl 0 rfl) ?_
  refine lv_iload_n hx hb dX7_drawn_1 rfl (lv_at hl 1 rfl) ?_
  refine g_Vi (Y := YM) (ci := 7) (n := 1) (k := 1) (As := [.int a1]) (rest := []) rfl (by decide) vw_X7_263 ⟨Nat.le_of_ble_eq_true rfl, Nat.le_of_ble_eq_true rfl, Nat.zero_le _, Nat.zero_le _⟩ hc hw hl.1 (Nat.lt_of_lt_of_le (by decide) hM) rfl (m_X7_areActs l hM a1 σ h) rfl rfl (Nat.le_of_ble_eq_true rfl) dX7_drawn_2 (fun r2 σ1 H locs h hw => ?_)
  refine lv_if_ne (tgt := 11) hx hb dX7_drawn_5 (by decide) (fun c3 => ?_) (fun c3 => ?_)
  · replace h := h.2 c3
    refine lv_iload_n hx hb dX7_drawn_11 rfl (lv_at hl 2 rfl) ?_
    refine lv_i2l (v := a2.toInt64) hx hb dX7_drawn_12 rfl ?_
    refine lv_lconst (v := 0) hx hb dX7_drawn_13 (by decide) ?_
    refine lv_ldc2 (v := 99999) hx hb hc.2.2.2.1 (hc.2.2.2.2.1 _ q_1413) dX7_drawn_14 ?_
    refine g_Si (Y := YM) (n := 3) (k := 0) (As := [.long a2.toInt64, .long 0, .long 99999]) (rest := []) vw_X7_75 ⟨Nat.le_of_ble_eq_true rfl, Nat.le_of_ble_eq_true rfl, Nat.zero_le _, Nat.zero_le _⟩ hc hw hl.1 (m_X7_in l hM a2.toInt64 0 99999 σ1 h) rfl rfl (Nat.le_of_ble_eq_true rfl) dX7_drawn_17 (fun r5 σ4 H locs h hw => ?_)
    refine lv_if_eq (tgt := 35) hx hb dX7_drawn_20 (by decide) (fun c6 => ?_) (fun c6 => ?_)
    · replace h := h.1 c6
      refine lv_bipush (v := (-7)) hx hb dX7_drawn_35 (by decide) ?_
      exact g_iret hc hr hw h dX7_drawn_37
    · replace h := h.2 c6
      refine lv_iload_n hx hb dX7_drawn_23 rfl (lv_at hl 3 rfl) ?_
      refine lv_i2l (v := a3.toInt64) hx hb dX7_drawn_24 rfl ?_
      refine lv_lconst (v := 0) hx hb dX7_drawn_25 (by decide) ?_
      refine lv_ldc2 (v := 13) hx hb hc.2.2.2.1 (hc.2.2.2.2.1 _ q_1219) dX7_drawn_26 ?_
      refine g_Si (Y := YM) (n := 3) (k := 0) (As := [.long a3.toInt64, .long 0, .long 13]) (rest := []) vw_X7_75 ⟨Nat.le_of_ble_eq_true rfl, Nat.le_of_ble_eq_true rfl, Nat.zero_le _, Nat.zero_le _⟩ hc hw hl.1 (m_X7_in l hM a3.toInt64 0 13 σ4 h) rfl rfl (Nat.le_of_ble_eq_true rfl) dX7_drawn_29 (fun r8 σ7 H locs h hw => ?_)
      refine lv_if_ne (tgt := 38) hx hb dX7_drawn_32 (by decide) (fun c9 => ?_) (fun c9 => ?_)
      · replace h := h.2 c9
        refine lv_aload_n hx hb dX7_drawn_38 rfl (lv_at hl 0 rfl) ?_
        refine lv_iload_n hx hb dX7_drawn_39 rfl (lv_at hl 1 rfl) ?_
        refine lv_iload_n hx hb dX7_drawn_40 rfl (lv_at hl 2 rfl) ?_
        refine g_Vv (Y := YM) (ci := 7) (n := 2) (k := 5) (As := [.int a1, .int a2]) (rest := []) rfl (by decide) vw_X7_319 ⟨Nat.le_of_ble_eq_true rfl, Nat.le_of_ble_eq_true rfl, Nat.zero_le _, Nat.zero_le _⟩ hc hw hl.1 (Nat.lt_of_lt_of_le (by decide) hM) rfl (m_X7_goesDrawn l hM a1 a2 σ7 h) rfl rfl (Nat.le_of_ble_eq_true rfl) dX7_drawn_41 (fun σ10 H locs h hw => ?_)
        refine lv_aload_n hx hb dX7_drawn_44 rfl (lv_at hl 0 rfl) ?_
        refine lv_iload_n hx hb dX7_drawn_45 rfl (lv_at hl 3 rfl) ?_
        refine g_Vi (Y := YM) (ci := 7) (n := 1) (k := 4) (As := [.int a3]) (rest := []) rfl (by decide) vw_X7_271 ⟨Nat.le_of_ble_eq_true rfl, Nat.le_of_ble_eq_true rfl, Nat.zero_le _, Nat.zero_le _⟩ hc hw hl.1 (Nat.lt_of_lt_of_le (by decide) hM) rfl (m_X7_potTold l hM a3 σ10 h) rfl rfl (Nat.le_of_ble_eq_true rfl) dX7_drawn_46 (fun r12 σ11 H locs h hw => ?_)
        exact g_iret hc hr hw h dX7_drawn_49
      · replace h := h.1 c9
        refine lv_bipush (v := (-7)) hx hb dX7_drawn_35 (by decide) ?_
        exact g_iret hc hr hw h dX7_drawn_37
  · replace h := h.1 c3
    refine lv_bipush (v := (-5)) hx hb dX7_drawn_8 (by decide) ?_
    exact g_iret hc hr hw h dX7_drawn_10
def w_X7_chance_75 (M : Nat) (post : Int64 → St → Prop) (k_44 : Int32 → Int32 → Int32 → Int32 → Int32 → St → Prop) (v1 : Int32) (v2 : Int32) (v3 : Int32) (v4 : Int32) (v5 : Int32) (t0 : Int32) (t1 : Int32) (σ : St) : Prop :=
  w_X7_goesDrawn M (fun σ1 => (w_X7_holds M (fun r3 σ2 => ((r3 = 0 → (∀ x5 : Int32, x5 = v5 + 1 → (k_44 v1 v2 v3 (v4 + 0) x5 σ2))) ∧ (¬ (r3 = 0) → (∀ x6 : Int32, x6 = v5 + 1 → (k_44 v1 v2 v3 (v4 + 1) x6 σ2))))) σ1)) t1 t0 σ
set_option maxHeartbeats 4000000 in
set_option maxRecDepth 20000 in
theorem b_X7_chance_75 {Γ : Gm} {ad : Nat → Nat} {p : Program} {l : Launch} {e : Env} {s : State} {m : MethodId} {args : Array Value} {below : List Frame} {meth : Method} {c : Code} {M : Nat} (hM : 20 ≤ M) {post : Int64 → St → Prop} {k_44 : Int32 → Int32 → Int32 → Int32 → Int32 → St → Prop} (hk_44 : ∀ (v1 : Int32) (v2 : Int32) (v3 : Int32) (v4 : Int32) (v5 : Int32) (σ : St) (H : Heap) (locs : List Loc) (ls : Array Slot), k_44 v1 v2 v3 v4 v5 σ → WH Γ YM M ad σ s H locs → lv_has ls 6 [(0, .ref (ad 0)), (1, .int v1), (2, .int v2), (3, .int v3), (4, .int v4), (5, .int v5)] → W p l e (rmL 6 0 0) s m args below meth c H locs 0 0 (MQ below (va_Ql post (fun u t => WC Γ YM M ad u t) (AA Γ)) args s 0 0 (AA Γ)) (F0 m 44 ls []))
    (v1 : Int32) (v2 : Int32) (v3 : Int32) (v4 : Int32) (v5 : Int32) (t0 : Int32) (t1 : Int32) (σ : St) (H : Heap) (locs : List Loc) (ls : Array Slot) (h : w_X7_chance_75 M post k_44 v1 v2 v3 v4 v5 t0 t1 σ) (hc : CX Γ p s m args meth c cX7_chance RX7 6) (hr : meth.sig.returnType = (Option.some Jvm.ClassFile.FieldType.long)) (hw : WH Γ YM M ad σ s H locs) (hl : lv_has ls 6 [(0, .ref (ad 0)), (1, .int v1), (2, .int v2), (3, .int v3), (4, .int v4), (5, .int v5)]) :
    W p l e (rmL 6 0 0) s m args below meth c H locs 0 0 (MQ below (va_Ql post (fun u t => WC Γ YM M ad u t) (AA Γ)) args s 0 0 (AA Γ)) (F0 m 75 ls [.int t0, .int t1, .ref (ad 0)]) := by
  have hx := hc.1
  have hb := hc.2.1
  unfold w_X7_chance_75 at h
  refine g_Vv (Y := YM) (ci := 7) (n := 2) (k := 5) (As := [.int t1, .int t0]) (rest := []) rfl (by decide) vw_X7_319 ⟨Nat.le_of_ble_eq_true rfl, Nat.le_of_ble_eq_true rfl, Nat.zero_le _, Nat.zero_le _⟩ hc hw hl.1 (Nat.lt_of_lt_of_le (by decide) hM) rfl (m_X7_goesDrawn l hM t1 t0 σ h) rfl rfl (Nat.le_of_ble_eq_true rfl) dX7_chance_75 (fun σ1 H locs h hw => ?_)
  refine lv_iload hx hb dX7_chance_78 (lv_at hl 4 rfl) ?_
  refine lv_aload_n hx hb dX7_chance_80 rfl (lv_at hl 0 rfl) ?_
  refine g_Vi (Y := YM) (ci := 7) (n := 0) (k := 4) (As := []) (rest := [.int v4]) rfl (by decide) vw_X7_274 ⟨Nat.le_of_ble_eq_true rfl, Nat.le_of_ble_eq_true rfl, Nat.zero_le _, Nat.zero_le _⟩ hc hw hl.1 (Nat.lt_of_lt_of_le (by decide) hM) rfl (m_X7_holds l hM σ1 h) rfl rfl (Nat.le_of_ble_eq_true rfl) dX7_chance_81 (fun r3 σ2 H locs h hw => ?_)
  refine lv_if_eq (tgt := 91) hx hb dX7_chance_84 (by decide) (fun c4 => ?_) (fun c4 => ?_)
  · replace h := h.1 c4
    refine lv_iconst (v := 0) hx hb dX7_chance_91 (by decide) ?_
    refine lv_iadd hx hb dX7_chance_92 ?_
    refine lv_istore (lv' := [(4, .int (v4 + 0)), (0, .ref (ad 0)), (1, .int v1), (2, .int v2), (3, .int v3), (5, .int v5)]) hx hb dX7_chance_93 hl (by decide) rfl (fun ls hl => ?_)
    obtain ⟨x5, ex5⟩ : ∃ z, z = v5 + 1 := ⟨_, rfl⟩
    replace h := h x5 ex5
    refine lv_iinc (v := x5) (lv' := [(5, .int x5), (4, .int (v4 + 0)), (0, .ref (ad 0)), (1, .int v1), (2, .int v2), (3, .int v3)]) hx hb dX7_chance_95 hl (k := 5) rfl (by rw [ex5]; rfl) (by decide) rfl (fun ls hl => ?_)
    refine lv_goto (tgt := 44) hx hb dX7_chance_98 (by decide) ?_
    exact hk_44 v1 v2 v3 (v4 + 0) x5 σ2 _ _ _ h  hw (lv_sub hl [2, 3, 4, 5, 1, 0] rfl)
  · replace h := h.2 c4
    refine lv_iconst (v := 1) hx hb dX7_chance_87 (by decide) ?_
    refine lv_goto (tgt := 92) hx hb dX7_chance_88 (by decide) ?_
    refine lv_iadd hx hb dX7_chance_92 ?_
    refine lv_istore (lv' := [(4, .int (v4 + 1)), (0, .ref (ad 0)), (1, .int v1), (2, .int v2), (3, .int v3), (5, .int v5)]) hx hb dX7_chance_93 hl (by decide) rfl (fun ls hl => ?_)
    obtain ⟨x6, ex6⟩ : ∃ z, z = v5 + 1 := ⟨_, rfl⟩
    replace h := h x6 ex6
    refine lv_iinc (v := x6) (lv' := [(5, .int x6), (4, .int (v4 + 1)), (0, .ref (ad 0)), (1, .int v1), (2, .int v2), (3, .int v3)]) hx hb dX7_chance_95 hl (k := 5) rfl (by rw [ex6]; rfl) (by decide) rfl (fun ls hl => ?_)
    refine lv_goto (tgt := 44) hx hb dX7_chance_98 (by decide) ?_
    exact hk_44 v1 v2 v3 (v4 + 1) x6 σ2 _ _ _ h  hw (lv_sub hl [2, 3, 4, 5, 1, 0] rfl)
def w_X7_chance_44 (M : Nat) (post : Int64 → St → Prop) (k_44 : Int32 → Int32 → Int32 → Int32 → Int32 → St → Prop) (v1 : Int32) (v2 : Int32) (v3 : Int32) (v4 : Int32) (v5 : Int32) (σ : St) : Prop :=
  (v2 ≤ v5 → (w_X7_lowest M (fun r3 σ2 => (post r3 σ2)) v4.toInt64 v2.toInt64 v3 σ)) ∧ (¬ (v2 ≤ v5) → (((v1 + v5) ≤ 99999 → (w_X7_chance_75 M post k_44 v1 v2 v3 v4 v5 (v1 + v5) (gi σ 0 21) σ)) ∧ (¬ ((v1 + v5) ≤ 99999) → (w_X7_chance_75 M post k_44 v1 v2 v3 v4 v5 99999 (gi σ 0 21) σ))))
set_option maxHeartbeats 4000000 in
set_option maxRecDepth 20000 in
theorem b_X7_chance_44 {Γ : Gm} {ad : Nat → Nat} {p : Program} {l : Launch} {e : Env} {s : State} {m : MethodId} {args : Array Value} {below : List Frame} {meth : Method} {c : Code} {M : Nat} (hM : 20 ≤ M) {post : Int64 → St → Prop} {k_44 : Int32 → Int32 → Int32 → Int32 → Int32 → St → Prop} (hk_44 : ∀ (v1 : Int32) (v2 : Int32) (v3 : Int32) (v4 : Int32) (v5 : Int32) (σ : St) (H : Heap) (locs : List Loc) (ls : Array Slot), k_44 v1 v2 v3 v4 v5 σ → WH Γ YM M ad σ s H locs → lv_has ls 6 [(0, .ref (ad 0)), (1, .int v1), (2, .int v2), (3, .int v3), (4, .int v4), (5, .int v5)] → W p l e (rmL 6 0 0) s m args below meth c H locs 0 0 (MQ below (va_Ql post (fun u t => WC Γ YM M ad u t) (AA Γ)) args s 0 0 (AA Γ)) (F0 m 44 ls []))
    (v1 : Int32) (v2 : Int32) (v3 : Int32) (v4 : Int32) (v5 : Int32) (σ : St) (H : Heap) (locs : List Loc) (ls : Array Slot) (h : w_X7_chance_44 M post k_44 v1 v2 v3 v4 v5 σ) (hc : CX Γ p s m args meth c cX7_chance RX7 6) (hr : meth.sig.returnType = (Option.some Jvm.ClassFile.FieldType.long)) (hw : WH Γ YM M ad σ s H locs) (hl : lv_has ls 6 [(0, .ref (ad 0)), (1, .int v1), (2, .int v2), (3, .int v3), (4, .int v4), (5, .int v5)]) :
    W p l e (rmL 6 0 0) s m args below meth c H locs 0 0 (MQ below (va_Ql post (fun u t => WC Γ YM M ad u t) (AA Γ)) args s 0 0 (AA Γ)) (F0 m 44 ls []) := by
  have hx := hc.1
  have hb := hc.2.1
  unfold w_X7_chance_44 at h
  refine lv_iload hx hb dX7_chance_44 (lv_at hl 5 rfl) ?_
  refine lv_iload_n hx hb dX7_chance_46 rfl (lv_at hl 2 rfl) ?_
  refine lv_icmp_ge (tgt := 101) hx hb dX7_chance_47 (by decide) (fun c1 => ?_) (fun c1 => ?_)
  · replace h := h.1 c1
    refine lv_iload hx hb dX7_chance_101 (lv_at hl 4 rfl) ?_
    refine lv_i2l (v := v4.toInt64) hx hb dX7_chance_103 rfl ?_
    refine lv_iload_n hx hb dX7_chance_104 rfl (lv_at hl 2 rfl) ?_
    refine lv_i2l (v := v2.toInt64) hx hb dX7_chance_105 rfl ?_
    refine lv_iload_n hx hb dX7_chance_106 rfl (lv_at hl 3 rfl) ?_
    refine g_Sl (Y := YM) (n := 3) (k := 0) (As := [.long v4.toInt64, .long v2.toInt64, .int v3]) (rest := []) vw_X7_285 ⟨Nat.le_of_ble_eq_true rfl, Nat.le_of_ble_eq_true rfl, Nat.zero_le _, Nat.zero_le _⟩ hc hw hl.1 (m_X7_lowest l hM v4.toInt64 v2.toInt64 v3 σ h) rfl rfl (Nat.le_of_ble_eq_true rfl) dX7_chance_107 (fun r3 σ2 H locs h hw => ?_)
    exact g_lret hc hr hw h dX7_chance_110
  · replace h := h.2 c1
    refine lv_aload_n hx hb dX7_chance_50 rfl (lv_at hl 0 rfl) ?_
    refine lv_aload_n hx hb dX7_chance_51 rfl (lv_at hl 0 rfl) ?_
    refine fg_X7_95 hc hw (Nat.lt_of_lt_of_le (by decide) hM) rfl dX7_chance_52 ?_
    refine lv_iload_n hx hb dX7_chance_55 rfl (lv_at hl 1 rfl) ?_
    refine lv_iload hx hb dX7_chance_56 (lv_at hl 5 rfl) ?_
    refine lv_iadd hx hb dX7_chance_58 ?_
    refine lv_ldcw (v := 99999) hx hb hc.2.2.2.1 (hc.2.2.2.2.1 _ q_1422) dX7_chance_59 ?_
    refine lv_icmp_le (tgt := 71) hx hb dX7_chance_62 (by decide) (fun c4 => ?_) (fun c4 => ?_)
    · replace h := h.1 c4
      refine lv_iload_n hx hb dX7_chance_71 rfl (lv_at hl 1 rfl) ?_
      refine lv_iload hx hb dX7_chance_72 (lv_at hl 5 rfl) ?_
      refine lv_iadd hx hb dX7_chance_74 ?_
      exact b_X7_chance_75 hM hk_44 v1 v2 v3 v4 v5 (v1 + v5) (gi σ 0 21) σ _ _ _ h  hc hr hw (lv_sub hl [0, 1, 2, 3, 4, 5] rfl)
    · replace h := h.2 c4
      refine lv_ldcw (v := 99999) hx hb hc.2.2.2.1 (hc.2.2.2.2.1 _ q_1422) dX7_chance_65 ?_
      refine lv_goto (tgt := 75) hx hb dX7_chance_68 (by decide) ?_
      exact b_X7_chance_75 hM hk_44 v1 v2 v3 v4 v5 99999 (gi σ 0 21) σ _ _ _ h  hc hr hw (lv_sub hl [0, 1, 2, 3, 4, 5] rfl)
def wl_X7_chance_44 (M : Nat) (post : Int64 → St → Prop) : Nat → Int32 → Int32 → Int32 → Int32 → Int32 → St → Prop
  | 0, _, _, _, _, _, _ => False
  | n + 1, v1, v2, v3, v4, v5, σ => w_X7_chance_44 M post (wl_X7_chance_44 M post n) v1 v2 v3 v4 v5 σ
set_option maxHeartbeats 4000000 in
theorem bl_X7_chance_44 {Γ : Gm} {ad : Nat → Nat} {p : Program} {l : Launch} {e : Env} {s : State} {m : MethodId} {args : Array Value} {below : List Frame} {meth : Method} {c : Code} {M : Nat} (hM : 20 ≤ M) {post : Int64 → St → Prop}
    (hc : CX Γ p s m args meth c cX7_chance RX7 6) (hr : meth.sig.returnType = (Option.some Jvm.ClassFile.FieldType.long)) :
    ∀ (n : Nat) (v1 : Int32) (v2 : Int32) (v3 : Int32) (v4 : Int32) (v5 : Int32) (σ : St) (H : Heap) (locs : List Loc) (ls : Array Slot), wl_X7_chance_44 M post n v1 v2 v3 v4 v5 σ → WH Γ YM M ad σ s H locs → lv_has ls 6 [(0, .ref (ad 0)), (1, .int v1), (2, .int v2), (3, .int v3), (4, .int v4), (5, .int v5)] → W p l e (rmL 6 0 0) s m args below meth c H locs 0 0 (MQ below (va_Ql post (fun u t => WC Γ YM M ad u t) (AA Γ)) args s 0 0 (AA Γ)) (F0 m 44 ls []) := by
  intro n
  induction n with
  | zero => intro v1 v2 v3 v4 v5 σ H locs ls h; exact h.elim
  | succ n ih =>
    intro v1 v2 v3 v4 v5 σ H locs ls h  hw hl
    exact b_X7_chance_44 hM ih v1 v2 v3 v4 v5 σ H locs ls h  hc hr hw hl
def w_X7_chance (M : Nat) (post : Int64 → St → Prop) (a1 : Int32) (a2 : Int32) (a3 : Int32) (σ : St) : Prop :=
  w_X7_in M (fun r2 σ1 => ((r2 = 0 → (post (-4611686018427387904) σ1)) ∧ (¬ (r2 = 0) → (w_X7_in M (fun r5 σ4 => ((r5 = 0 → (post (-4611686018427387904) σ4)) ∧ (¬ (r5 = 0) → (w_X7_in M (fun r8 σ7 => ((r8 = 0 → (post (-4611686018427387904) σ7)) ∧ (¬ (r8 = 0) → (∃ n, wl_X7_chance_44 M post n a1 a2 a3 0 0 σ7)))) a3.toInt64 0 1 σ4)))) a2.toInt64 1 20 σ1)))) a1.toInt64 0 99999 σ
set_option maxHeartbeats 4000000 in
set_option maxRecDepth 20000 in
theorem m_X7_chance {Γ : Gm} {ad : Nat → Nat} {M : Nat} (l : Launch) (hM : 20 ≤ M) {post : Int64 → St → Prop} (a1 : Int32) (a2 : Int32) (a3 : Int32) (σ : St) (h : w_X7_chance M post a1 a2 a3 σ) : Cl l Γ YM M ad σ yX7_chance cX7_chance 6 (Option.some Jvm.ClassFile.FieldType.long) 6 0 0 [.ref (ad 0), .int a1, .int a2, .int a3] post := by
  refine g_start (by decide) (Nat.le_of_ble_eq_true rfl) ?_
  intro p e s m args below meth c ls hc hr hn hl hw
  have hc : CX Γ p s m args meth c cX7_chance RX7 6 := hc
  have hl : lv_has ls 6 [(0, .ref (ad 0)), (1, .int a1), (2, .int a2), (3, .int a3)] := hl
  have hx := hc.1
  have hb := hc.2.1
  unfold w_X7_chance at h
  generalize hHH : s.heap = H0 at hw ⊢
  refine lv_iload_n hx hb dX7_chance_0 rfl (lv_at hl 1 rfl) ?_
  refine lv_i2l (v := a1.toInt64) hx hb dX7_chance_1 rfl ?_
  refine lv_lconst (v := 0) hx hb dX7_chance_2 (by decide) ?_
  refine lv_ldc2 (v := 99999) hx hb hc.2.2.2.1 (hc.2.2.2.2.1 _ q_1413) dX7_chance_3 ?_
  refine g_Si (Y := YM) (n := 3) (k := 0) (As := [.long a1.toInt64, .long 0, .long 99999]) (rest := []) vw_X7_75 ⟨Nat.le_of_ble_eq_true rfl, Nat.le_of_ble_eq_true rfl, Nat.zero_le _, Nat.zero_le _⟩ hc hw hl.1 (m_X7_in l hM a1.toInt64 0 99999 σ h) rfl rfl (Nat.le_of_ble_eq_true rfl) dX7_chance_6 (fun r2 σ1 H locs h hw => ?_)
  refine lv_if_eq (tgt := 34) hx hb dX7_chance_9 (by decide) (fun c3 => ?_) (fun c3 => ?_)
  · replace h := h.1 c3
    refine lv_ldc2 (v := (-4611686018427387904)) hx hb hc.2.2.2.1 (hc.2.2.2.2.1 _ q_1324) dX7_chance_34 ?_
    exact g_lret hc hr hw h dX7_chance_37
  · replace h := h.2 c3
    refine lv_iload_n hx hb dX7_chance_12 rfl (lv_at hl 2 rfl) ?_
    refine lv_i2l (v := a2.toInt64) hx hb dX7_chance_13 rfl ?_
    refine lv_lconst (v := 1) hx hb dX7_chance_14 (by decide) ?_
    refine lv_ldc2 (v := 20) hx hb hc.2.2.2.1 (hc.2.2.2.2.1 _ q_1348) dX7_chance_15 ?_
    refine g_Si (Y := YM) (n := 3) (k := 0) (As := [.long a2.toInt64, .long 1, .long 20]) (rest := []) vw_X7_75 ⟨Nat.le_of_ble_eq_true rfl, Nat.le_of_ble_eq_true rfl, Nat.zero_le _, Nat.zero_le _⟩ hc hw hl.1 (m_X7_in l hM a2.toInt64 1 20 σ1 h) rfl rfl (Nat.le_of_ble_eq_true rfl) dX7_chance_18 (fun r5 σ4 H locs h hw => ?_)
    refine lv_if_eq (tgt := 34) hx hb dX7_chance_21 (by decide) (fun c6 => ?_) (fun c6 => ?_)
    · replace h := h.1 c6
      refine lv_ldc2 (v := (-4611686018427387904)) hx hb hc.2.2.2.1 (hc.2.2.2.2.1 _ q_1324) dX7_chance_34 ?_
      exact g_lret hc hr hw h dX7_chance_37
    · replace h := h.2 c6
      refine lv_iload_n hx hb dX7_chance_24 rfl (lv_at hl 3 rfl) ?_
      refine lv_i2l (v := a3.toInt64) hx hb dX7_chance_25 rfl ?_
      refine lv_lconst (v := 0) hx hb dX7_chance_26 (by decide) ?_
      refine lv_lconst (v := 1) hx hb dX7_chance_27 (by decide) ?_
      refine g_Si (Y := YM) (n := 3) (k := 0) (As := [.long a3.toInt64, .long 0, .long 1]) (rest := []) vw_X7_75 ⟨Nat.le_of_ble_eq_true rfl, Nat.le_of_ble_eq_true rfl, Nat.zero_le _, Nat.zero_le _⟩ hc hw hl.1 (m_X7_in l hM a3.toInt64 0 1 σ4 h) rfl rfl (Nat.le_of_ble_eq_true rfl) dX7_chance_28 (fun r8 σ7 H locs h hw => ?_)
      refine lv_if_ne (tgt := 38) hx hb dX7_chance_31 (by decide) (fun c9 => ?_) (fun c9 => ?_)
      · replace h := h.2 c9
        refine lv_iconst (v := 0) hx hb dX7_chance_38 (by decide) ?_
        refine lv_istore (lv' := [(4, .int 0), (0, .ref (ad 0)), (1, .int a1), (2, .int a2), (3, .int a3)]) hx hb dX7_chance_39 hl (by decide) rfl (fun ls hl => ?_)
        refine lv_iconst (v := 0) hx hb dX7_chance_41 (by decide) ?_
        refine lv_istore (lv' := [(5, .int 0), (4, .int 0), (0, .ref (ad 0)), (1, .int a1), (2, .int a2), (3, .int a3)]) hx hb dX7_chance_42 hl (by decide) rfl (fun ls hl => ?_)
        obtain ⟨n, h⟩ := h
        exact bl_X7_chance_44 hM hc hr n a1 a2 a3 0 0 σ7 _ _ _ h  hw (lv_sub hl [2, 3, 4, 5, 1, 0] rfl)
      · replace h := h.1 c9
        refine lv_ldc2 (v := (-4611686018427387904)) hx hb hc.2.2.2.1 (hc.2.2.2.2.1 _ q_1324) dX7_chance_34 ?_
        exact g_lret hc hr hw h dX7_chance_37
def w_X7_holdsWith (M : Nat) (post : Int32 → St → Prop) (a1 : Int32) (a2 : Int32) (σ : St) : Prop :=
  ∀ σ1 : St, σ1 = si σ 2 0 a1 → (∀ σ2 : St, σ2 = si σ1 2 2 a2 → (w_X7_holdsInAll M (fun r4 σ3 => (∀ σ5 : St, σ5 = si σ3 2 0 (gi σ 2 0) → (∀ σ6 : St, σ6 = si σ5 2 2 (gi σ 2 2) → (narrow .boolean (.int r4) = .int r4 ∧ post r4 σ6)))) σ2))
set_option maxHeartbeats 4000000 in
set_option maxRecDepth 20000 in
theorem m_X7_holdsWith {Γ : Gm} {ad : Nat → Nat} {M : Nat} (l : Launch) (hM : 20 ≤ M) {post : Int32 → St → Prop} (a1 : Int32) (a2 : Int32) (σ : St) (h : w_X7_holdsWith M post a1 a2 σ) : Ci l Γ YM M ad σ yX7_holdsWith cX7_holdsWith 6 (Option.some Jvm.ClassFile.FieldType.boolean) 7 0 0 [.ref (ad 0), .int a1, .int a2] post := by
  refine g_start (by decide) (Nat.le_of_ble_eq_true rfl) ?_
  intro p e s m args below meth c ls hc hr hn hl hw
  have hc : CX Γ p s m args meth c cX7_holdsWith RX7 6 := hc
  have hl : lv_has ls 6 [(0, .ref (ad 0)), (1, .int a1), (2, .int a2)] := hl
  have hx := hc.1
  have hb := hc.2.1
  unfold w_X7_holdsWith at h
  generalize hHH : s.heap = H0 at hw ⊢
  refine lv_aload_n hx hb dX7_holdsWith_0 rfl (lv_at hl 0 rfl) ?_
  refine fg_X7_13 hc hw (Nat.lt_of_lt_of_le (by decide) hM) rfl dX7_holdsWith_1 ?_
  refine lv_iconst (v := 0) hx hb dX7_holdsWith_4 (by decide) ?_
  refine g_ialdK (Y := YM) (kd := 22) (n := 3) (k := 0) (o := 2) (by decide) (by decide) rfl hc hw (Nat.lt_of_lt_of_le (by decide) hM) rfl rfl (vp_in_lit (by decide)) (by decide) dX7_holdsWith_5 ?_
  refine lv_istore_n (lv' := [(3, .int (gi σ 2 0)), (0, .ref (ad 0)), (1, .int a1), (2, .int a2)]) hx hb dX7_holdsWith_6 rfl hl (by decide) rfl (fun ls hl => ?_)
  refine lv_aload_n hx hb dX7_holdsWith_7 rfl (lv_at hl 1 rfl) ?_
  refine fg_X7_13 hc hw (Nat.lt_of_lt_of_le (by decide) hM) rfl dX7_holdsWith_8 ?_
  refine lv_iconst (v := 2) hx hb dX7_holdsWith_11 (by decide) ?_
  refine g_ialdK (Y := YM) (kd := 22) (n := 3) (k := 2) (o := 2) (by decide) (by decide) rfl hc hw (Nat.lt_of_lt_of_le (by decide) hM) rfl rfl (vp_in_lit (by decide)) (by decide) dX7_holdsWith_12 ?_
  refine lv_istore (lv' := [(4, .int (gi σ 2 2)), (3, .int (gi σ 2 0)), (0, .ref (ad 0)), (1, .int a1), (2, .int a2)]) hx hb dX7_holdsWith_13 hl (by decide) rfl (fun ls hl => ?_)
  refine lv_aload_n hx hb dX7_holdsWith_15 rfl (lv_at hl 2 rfl) ?_
  refine fg_X7_13 hc hw (Nat.lt_of_lt_of_le (by decide) hM) rfl dX7_holdsWith_16 ?_
  refine lv_iconst (v := 0) hx hb dX7_holdsWith_19 (by decide) ?_
  refine lv_iload_n hx hb dX7_holdsWith_20 rfl (lv_at hl 3 rfl) ?_
  refine g_iastK (Y := YM) (kd := 22) (n := 3) (k := 0) (o := 2) YM_ok (by decide) (by decide) rfl hc hw (Nat.lt_of_lt_of_le (by decide) hM) rfl rfl (vp_in_lit (by decide)) (by decide) dX7_holdsWith_21 (fun σ1 H locs eσ1 hw => ?_)
  replace h := h σ1 eσ1
  refine lv_aload_n hx hb dX7_holdsWith_22 rfl (lv_at hl 2 rfl) ?_
  refine fg_X7_13 hc hw (Nat.lt_of_lt_of_le (by decide) hM) rfl dX7_holdsWith_23 ?_
  refine lv_iconst (v := 2) hx hb dX7_holdsWith_26 (by decide) ?_
  refine lv_iload_n hx hb dX7_holdsWith_27 rfl (lv_at hl 4 rfl) ?_
  refine g_iastK (Y := YM) (kd := 22) (n := 3) (k := 2) (o := 2) YM_ok (by decide) (by decide) rfl hc hw (Nat.lt_of_lt_of_le (by decide) hM) rfl rfl (vp_in_lit (by decide)) (by decide) dX7_holdsWith_28 (fun σ2 H locs eσ2 hw => ?_)
  replace h := h σ2 eσ2
  refine lv_aload_n hx hb dX7_holdsWith_29 rfl (lv_at hl 2 rfl) ?_
  refine g_Vi (Y := YM) (ci := 7) (n := 0) (k := 6) (As := []) (rest := []) rfl (by decide) vw_X7_277 ⟨Nat.le_of_ble_eq_true rfl, Nat.le_of_ble_eq_true rfl, Nat.zero_le _, Nat.zero_le _⟩ hc hw hl.1 (Nat.lt_of_lt_of_le (by decide) hM) rfl (m_X7_holdsInAll l hM σ2 h) rfl rfl (Nat.le_of_ble_eq_true rfl) dX7_holdsWith_30 (fun r4 σ3 H locs h hw => ?_)
  refine lv_istore (lv' := [(5, .int r4), (4, .int (gi σ 2 2)), (3, .int (gi σ 2 0)), (0, .ref (ad 0)), (1, .int a1), (2, .int a2)]) hx hb dX7_holdsWith_33 hl (by decide) rfl (fun ls hl => ?_)
  refine lv_aload_n hx hb dX7_holdsWith_35 rfl (lv_at hl 3 rfl) ?_
  refine fg_X7_13 hc hw (Nat.lt_of_lt_of_le (by decide) hM) rfl dX7_holdsWith_36 ?_
  refine lv_iconst (v := 0) hx hb dX7_holdsWith_39 (by decide) ?_
  refine lv_iload_n hx hb dX7_holdsWith_40 rfl (lv_at hl 2 rfl) ?_
  refine g_iastK (Y := YM) (kd := 22) (n := 3) (k := 0) (o := 2) YM_ok (by decide) (by decide) rfl hc hw (Nat.lt_of_lt_of_le (by decide) hM) rfl rfl (vp_in_lit (by decide)) (by decide) dX7_holdsWith_41 (fun σ5 H locs eσ5 hw => ?_)
  replace h := h σ5 eσ5
  refine lv_aload_n hx hb dX7_holdsWith_42 rfl (lv_at hl 3 rfl) ?_
  refine fg_X7_13 hc hw (Nat.lt_of_lt_of_le (by decide) hM) rfl dX7_holdsWith_43 ?_
  refine lv_iconst (v := 2) hx hb dX7_holdsWith_46 (by decide) ?_
  refine lv_iload hx hb dX7_holdsWith_47 (lv_at hl 1 rfl) ?_
  refine g_iastK (Y := YM) (kd := 22) (n := 3) (k := 2) (o := 2) YM_ok (by decide) (by decide) rfl hc hw (Nat.lt_of_lt_of_le (by decide) hM) rfl rfl (vp_in_lit (by decide)) (by decide) dX7_holdsWith_49 (fun σ6 H locs eσ6 hw => ?_)
  replace h := h σ6 eσ6
  refine lv_iload hx hb dX7_holdsWith_50 (lv_at hl 0 rfl) ?_
  exact g_zret hc hr hw h.1 h.2 dX7_holdsWith_52
def w_X7_most_14 (M : Nat) (post : Int32 → St → Prop) (k_14 : Int32 → Int32 → Int32 → Int32 → St → Prop) (v1 : Int32) (v2 : Int32) (v3 : Int32) (v4 : Int32) (σ : St) : Prop :=
  (99 < v4 → (∀ σ2 : St, σ2 = si σ 2 1 v1 → (post v2 σ2))) ∧ (¬ (99 < v4) → ((v3 = 0 → (∀ σ4 : St, σ4 = si σ 2 1 v1 → (post v2 σ4))) ∧ (¬ (v3 = 0) → (∀ σ5 : St, σ5 = si σ 2 1 v4 → (w_X7_holdsInAll M (fun r7 σ6 => ((r7 = 0 → (∀ x9 : Int32, x9 = v4 + 1 → (k_14 v1 v2 r7 x9 σ6))) ∧ (¬ (r7 = 0) → (∀ x10 : Int32, x10 = v4 + 1 → (k_14 v1 v4 r7 x10 σ6))))) σ5)))))
set_option maxHeartbeats 4000000 in
set_option maxRecDepth 20000 in
theorem b_X7_most_14 {Γ : Gm} {ad : Nat → Nat} {p : Program} {l : Launch} {e : Env} {s : State} {m : MethodId} {args : Array Value} {below : List Frame} {meth : Method} {c : Code} {M : Nat} (hM : 20 ≤ M) {post : Int32 → St → Prop} {k_14 : Int32 → Int32 → Int32 → Int32 → St → Prop} (hk_14 : ∀ (v1 : Int32) (v2 : Int32) (v3 : Int32) (v4 : Int32) (σ : St) (H : Heap) (locs : List Loc) (ls : Array Slot), k_14 v1 v2 v3 v4 σ → WH Γ YM M ad σ s H locs → lv_has ls 5 [(0, .ref (ad 0)), (1, .int v1), (2, .int v2), (3, .int v3), (4, .int v4)] → W p l e (rmL 7 0 0) s m args below meth c H locs 0 0 (MQ below (va_Qi post (fun u t => WC Γ YM M ad u t) (AA Γ)) args s 0 0 (AA Γ)) (F0 m 14 ls []))
    (v1 : Int32) (v2 : Int32) (v3 : Int32) (v4 : Int32) (σ : St) (H : Heap) (locs : List Loc) (ls : Array Slot) (h : w_X7_most_14 M post k_14 v1 v2 v3 v4 σ) (hc : CX Γ p s m args meth c cX7_most RX7 5) (hr : meth.sig.returnType = (Option.some Jvm.ClassFile.FieldType.int)) (hw : WH Γ YM M ad σ s H locs) (hl : lv_has ls 5 [(0, .ref (ad 0)), (1, .int v1), (2, .int v2), (3, .int v3), (4, .int v4)]) :
    W p l e (rmL 7 0 0) s m args below meth c H locs 0 0 (MQ below (va_Qi post (fun u t => WC Γ YM M ad u t) (AA Γ)) args s 0 0 (AA Γ)) (F0 m 14 ls []) := by
  have hx := hc.1
  have hb := hc.2.1
  unfold w_X7_most_14 at h
  refine lv_iload hx hb dX7_most_14 (lv_at hl 4 rfl) ?_
  refine lv_bipush (v := 99) hx hb dX7_most_16 (by decide) ?_
  refine lv_icmp_gt (tgt := 55) hx hb dX7_most_18 (by decide) (fun c1 => ?_) (fun c1 => ?_)
  · replace h := h.1 c1
    refine lv_aload_n hx hb dX7_most_55 rfl (lv_at hl 0 rfl) ?_
    refine fg_X7_13 hc hw (Nat.lt_of_lt_of_le (by decide) hM) rfl dX7_most_56 ?_
    refine lv_iconst (v := 1) hx hb dX7_most_59 (by decide) ?_
    refine lv_iload_n hx hb dX7_most_60 rfl (lv_at hl 1 rfl) ?_
    refine g_iastK (Y := YM) (kd := 22) (n := 3) (k := 1) (o := 2) YM_ok (by decide) (by decide) rfl hc hw (Nat.lt_of_lt_of_le (by decide) hM) rfl rfl (vp_in_lit (by decide)) (by decide) dX7_most_61 (fun σ2 H locs eσ2 hw => ?_)
    replace h := h σ2 eσ2
    refine lv_iload_n hx hb dX7_most_62 rfl (lv_at hl 2 rfl) ?_
    exact g_iret hc hr hw h dX7_most_63
  · replace h := h.2 c1
    refine lv_iload_n hx hb dX7_most_21 rfl (lv_at hl 3 rfl) ?_
    refine lv_if_eq (tgt := 55) hx hb dX7_most_22 (by decide) (fun c3 => ?_) (fun c3 => ?_)
    · replace h := h.1 c3
      refine lv_aload_n hx hb dX7_most_55 rfl (lv_at hl 0 rfl) ?_
      refine fg_X7_13 hc hw (Nat.lt_of_lt_of_le (by decide) hM) rfl dX7_most_56 ?_
      refine lv_iconst (v := 1) hx hb dX7_most_59 (by decide) ?_
      refine lv_iload_n hx hb dX7_most_60 rfl (lv_at hl 1 rfl) ?_
      refine g_iastK (Y := YM) (kd := 22) (n := 3) (k := 1) (o := 2) YM_ok (by decide) (by decide) rfl hc hw (Nat.lt_of_lt_of_le (by decide) hM) rfl rfl (vp_in_lit (by decide)) (by decide) dX7_most_61 (fun σ4 H locs eσ4 hw => ?_)
      replace h := h σ4 eσ4
      refine lv_iload_n hx hb dX7_most_62 rfl (lv_at hl 2 rfl) ?_
      exact g_iret hc hr hw h dX7_most_63
    · replace h := h.2 c3
      refine lv_aload_n hx hb dX7_most_25 rfl (lv_at hl 0 rfl) ?_
      refine fg_X7_13 hc hw (Nat.lt_of_lt_of_le (by decide) hM) rfl dX7_most_26 ?_
      refine lv_iconst (v := 1) hx hb dX7_most_29 (by decide) ?_
      refine lv_iload hx hb dX7_most_30 (lv_at hl 4 rfl) ?_
      refine g_iastK (Y := YM) (kd := 22) (n := 3) (k := 1) (o := 2) YM_ok (by decide) (by decide) rfl hc hw (Nat.lt_of_lt_of_le (by decide) hM) rfl rfl (vp_in_lit (by decide)) (by decide) dX7_most_32 (fun σ5 H locs eσ5 hw => ?_)
      replace h := h σ5 eσ5
      refine lv_aload_n hx hb dX7_most_33 rfl (lv_at hl 0 rfl) ?_
      refine g_Vi (Y := YM) (ci := 7) (n := 0) (k := 6) (As := []) (rest := []) rfl (by decide) vw_X7_277 ⟨Nat.le_of_ble_eq_true rfl, Nat.le_of_ble_eq_true rfl, Nat.zero_le _, Nat.zero_le _⟩ hc hw hl.1 (Nat.lt_of_lt_of_le (by decide) hM) rfl (m_X7_holdsInAll l hM σ5 h) rfl rfl (Nat.le_of_ble_eq_true rfl) dX7_most_34 (fun r7 σ6 H locs h hw => ?_)
      refine lv_istore_n (lv' := [(3, .int r7), (0, .ref (ad 0)), (1, .int v1), (2, .int v2), (4, .int v4)]) hx hb dX7_most_37 rfl hl (by decide) rfl (fun ls hl => ?_)
      refine lv_iload_n hx hb dX7_most_38 rfl (lv_at hl 0 rfl) ?_
      refine lv_if_eq (tgt := 47) hx hb dX7_most_39 (by decide) (fun c8 => ?_) (fun c8 => ?_)
      · replace h := h.1 c8
        refine lv_iload_n hx hb dX7_most_47 rfl (lv_at hl 3 rfl) ?_
        refine lv_istore_n (lv' := [(2, .int v2), (3, .int r7), (0, .ref (ad 0)), (1, .int v1), (4, .int v4)]) hx hb dX7_most_48 rfl hl (by decide) rfl (fun ls hl => ?_)
        obtain ⟨x9, ex9⟩ : ∃ z, z = v4 + 1 := ⟨_, rfl⟩
        replace h := h x9 ex9
        refine lv_iinc (v := x9) (lv' := [(4, .int x9), (2, .int v2), (3, .int r7), (0, .ref (ad 0)), (1, .int v1)]) hx hb dX7_most_49 hl (k := 4) rfl (by rw [ex9]; rfl) (by decide) rfl (fun ls hl => ?_)
        refine lv_goto (tgt := 14) hx hb dX7_most_52 (by decide) ?_
        exact hk_14 v1 v2 r7 x9 σ6 _ _ _ h  hw (lv_sub hl [3, 4, 1, 2, 0] rfl)
      · replace h := h.2 c8
        refine lv_iload hx hb dX7_most_42 (lv_at hl 4 rfl) ?_
        refine lv_goto (tgt := 48) hx hb dX7_most_44 (by decide) ?_
        refine lv_istore_n (lv' := [(2, .int v4), (3, .int r7), (0, .ref (ad 0)), (1, .int v1), (4, .int v4)]) hx hb dX7_most_48 rfl hl (by decide) rfl (fun ls hl => ?_)
        obtain ⟨x10, ex10⟩ : ∃ z, z = v4 + 1 := ⟨_, rfl⟩
        replace h := h x10 ex10
        refine lv_iinc (v := x10) (lv' := [(4, .int x10), (2, .int v4), (3, .int r7), (0, .ref (ad 0)), (1, .int v1)]) hx hb dX7_most_49 hl (k := 4) rfl (by rw [ex10]; rfl) (by decide) rfl (fun ls hl => ?_)
        refine lv_goto (tgt := 14) hx hb dX7_most_52 (by decide) ?_
        exact hk_14 v1 v4 r7 x10 σ6 _ _ _ h  hw (lv_sub hl [3, 4, 1, 2, 0] rfl)
def wl_X7_most_14 (M : Nat) (post : Int32 → St → Prop) : Nat → Int32 → Int32 → Int32 → Int32 → St → Prop
  | 0, _, _, _, _, _ => False
  | n + 1, v1, v2, v3, v4, σ => w_X7_most_14 M post (wl_X7_most_14 M post n) v1 v2 v3 v4 σ
set_option maxHeartbeats 4000000 in
theorem bl_X7_most_14 {Γ : Gm} {ad : Nat → Nat} {p : Program} {l : Launch} {e : Env} {s : State} {m : MethodId} {args : Array Value} {below : List Frame} {meth : Method} {c : Code} {M : Nat} (hM : 20 ≤ M) {post : Int32 → St → Prop}
    (hc : CX Γ p s m args meth c cX7_most RX7 5) (hr : meth.sig.returnType = (Option.some Jvm.ClassFile.FieldType.int)) :
    ∀ (n : Nat) (v1 : Int32) (v2 : Int32) (v3 : Int32) (v4 : Int32) (σ : St) (H : Heap) (locs : List Loc) (ls : Array Slot), wl_X7_most_14 M post n v1 v2 v3 v4 σ → WH Γ YM M ad σ s H locs → lv_has ls 5 [(0, .ref (ad 0)), (1, .int v1), (2, .int v2), (3, .int v3), (4, .int v4)] → W p l e (rmL 7 0 0) s m args below meth c H locs 0 0 (MQ below (va_Qi post (fun u t => WC Γ YM M ad u t) (AA Γ)) args s 0 0 (AA Γ)) (F0 m 14 ls []) := by
  intro n
  induction n with
  | zero => intro v1 v2 v3 v4 σ H locs ls h; exact h.elim
  | succ n ih =>
    intro v1 v2 v3 v4 σ H locs ls h  hw hl
    exact b_X7_most_14 hM ih v1 v2 v3 v4 σ H locs ls h  hc hr hw hl
def w_X7_most (M : Nat) (post : Int32 → St → Prop)  (σ : St) : Prop :=
  ∃ n, wl_X7_most_14 M post n (gi σ 2 1) (-1) 1 (gi σ 2 1) σ
set_option maxHeartbeats 4000000 in
set_option maxRecDepth 20000 in
theorem m_X7_most {Γ : Gm} {ad : Nat → Nat} {M : Nat} (l : Launch) (hM : 20 ≤ M) {post : Int32 → St → Prop}  (σ : St) (h : w_X7_most M post  σ) : Ci l Γ YM M ad σ yX7_most cX7_most 5 (Option.some Jvm.ClassFile.FieldType.int) 7 0 0 [.ref (ad 0)] post := by
  refine g_start (by decide) (Nat.le_of_ble_eq_true rfl) ?_
  intro p e s m args below meth c ls hc hr hn hl hw
  have hc : CX Γ p s m args meth c cX7_most RX7 5 := hc
  have hl : lv_has ls 5 [(0, .ref (ad 0))] := hl
  have hx := hc.1
  have hb := hc.2.1
  unfold w_X7_most at h
  generalize hHH : s.heap = H0 at hw ⊢
  refine lv_aload_n hx hb dX7_most_0 rfl (lv_at hl 0 rfl) ?_
  refine fg_X7_13 hc hw (Nat.lt_of_lt_of_le (by decide) hM) rfl dX7_most_1 ?_
  refine lv_iconst (v := 1) hx hb dX7_most_4 (by decide) ?_
  refine g_ialdK (Y := YM) (kd := 22) (n := 3) (k := 1) (o := 2) (by decide) (by decide) rfl hc hw (Nat.lt_of_lt_of_le (by decide) hM) rfl rfl (vp_in_lit (by decide)) (by decide) dX7_most_5 ?_
  refine lv_istore_n (lv' := [(1, .int (gi σ 2 1)), (0, .ref (ad 0))]) hx hb dX7_most_6 rfl hl (by decide) rfl (fun ls hl => ?_)
  refine lv_iconst (v := (-1)) hx hb dX7_most_7 (by decide) ?_
  refine lv_istore_n (lv' := [(2, .int (-1)), (1, .int (gi σ 2 1)), (0, .ref (ad 0))]) hx hb dX7_most_8 rfl hl (by decide) rfl (fun ls hl => ?_)
  refine lv_iconst (v := 1) hx hb dX7_most_9 (by decide) ?_
  refine lv_istore_n (lv' := [(3, .int 1), (2, .int (-1)), (1, .int (gi σ 2 1)), (0, .ref (ad 0))]) hx hb dX7_most_10 rfl hl (by decide) rfl (fun ls hl => ?_)
  refine lv_iload_n hx hb dX7_most_11 rfl (lv_at hl 2 rfl) ?_
  refine lv_istore (lv' := [(4, .int (gi σ 2 1)), (3, .int 1), (2, .int (-1)), (1, .int (gi σ 2 1)), (0, .ref (ad 0))]) hx hb dX7_most_12 hl (by decide) rfl (fun ls hl => ?_)
  obtain ⟨n, h⟩ := h
  exact bl_X7_most_14 hM hc hr n (gi σ 2 1) (-1) 1 (gi σ 2 1) σ _ _ _ h  hw (lv_sub hl [4, 3, 2, 1, 0] rfl)
def w_X7_flames_4 (M : Nat) (post : Int32 → St → Prop) (k_4 : Int32 → Int32 → St → Prop) (v1 : Int32) (v2 : Int32) (σ : St) : Prop :=
  (10 ≤ v2 → (post v1 σ)) ∧ (¬ (10 ≤ v2) → (w_X7_holdsWith M (fun r3 σ2 => ((r3 = 0 → (∀ x5 : Int32, x5 = v2 + 1 → (k_4 (v1 ||| 0) x5 σ2))) ∧ (¬ (r3 = 0) → (∀ x6 : Int32, x6 = v2 + 1 → (k_4 (v1 ||| (1 <<< (v2 &&& 31))) x6 σ2))))) v2 (gi σ 2 2) σ))
set_option maxHeartbeats 4000000 in
set_option maxRecDepth 20000 in
theorem b_X7_flames_4 {Γ : Gm} {ad : Nat → Nat} {p : Program} {l : Launch} {e : Env} {s : State} {m : MethodId} {args : Array Value} {below : List Frame} {meth : Method} {c : Code} {M : Nat} (hM : 20 ≤ M) {post : Int32 → St → Prop} {k_4 : Int32 → Int32 → St → Prop} (hk_4 : ∀ (v1 : Int32) (v2 : Int32) (σ : St) (H : Heap) (locs : List Loc) (ls : Array Slot), k_4 v1 v2 σ → WH Γ YM M ad σ s H locs → lv_has ls 3 [(0, .ref (ad 0)), (1, .int v1), (2, .int v2)] → W p l e (rmL 8 0 0) s m args below meth c H locs 0 0 (MQ below (va_Qi post (fun u t => WC Γ YM M ad u t) (AA Γ)) args s 0 0 (AA Γ)) (F0 m 4 ls []))
    (v1 : Int32) (v2 : Int32) (σ : St) (H : Heap) (locs : List Loc) (ls : Array Slot) (h : w_X7_flames_4 M post k_4 v1 v2 σ) (hc : CX Γ p s m args meth c cX7_flames RX7 3) (hr : meth.sig.returnType = (Option.some Jvm.ClassFile.FieldType.int)) (hw : WH Γ YM M ad σ s H locs) (hl : lv_has ls 3 [(0, .ref (ad 0)), (1, .int v1), (2, .int v2)]) :
    W p l e (rmL 8 0 0) s m args below meth c H locs 0 0 (MQ below (va_Qi post (fun u t => WC Γ YM M ad u t) (AA Γ)) args s 0 0 (AA Γ)) (F0 m 4 ls []) := by
  have hx := hc.1
  have hb := hc.2.1
  unfold w_X7_flames_4 at h
  refine lv_iload_n hx hb dX7_flames_4 rfl (lv_at hl 2 rfl) ?_
  refine lv_bipush (v := 10) hx hb dX7_flames_5 (by decide) ?_
  refine lv_icmp_ge (tgt := 40) hx hb dX7_flames_7 (by decide) (fun c1 => ?_) (fun c1 => ?_)
  · replace h := h.1 c1
    refine lv_iload_n hx hb dX7_flames_40 rfl (lv_at hl 1 rfl) ?_
    exact g_iret hc hr hw h dX7_flames_41
  · replace h := h.2 c1
    refine lv_iload_n hx hb dX7_flames_10 rfl (lv_at hl 1 rfl) ?_
    refine lv_aload_n hx hb dX7_flames_11 rfl (lv_at hl 0 rfl) ?_
    refine lv_iload_n hx hb dX7_flames_12 rfl (lv_at hl 2 rfl) ?_
    refine lv_aload_n hx hb dX7_flames_13 rfl (lv_at hl 0 rfl) ?_
    refine fg_X7_13 hc hw (Nat.lt_of_lt_of_le (by decide) hM) rfl dX7_flames_14 ?_
    refine lv_iconst (v := 2) hx hb dX7_flames_17 (by decide) ?_
    refine g_ialdK (Y := YM) (kd := 22) (n := 3) (k := 2) (o := 2) (by decide) (by decide) rfl hc hw (Nat.lt_of_lt_of_le (by decide) hM) rfl rfl (vp_in_lit (by decide)) (by decide) dX7_flames_18 ?_
    refine g_Vi (Y := YM) (ci := 7) (n := 2) (k := 7) (As := [.int v2, .int (gi σ 2 2)]) (rest := [.int v1]) rfl (by decide) vw_X7_280 ⟨Nat.le_of_ble_eq_true rfl, Nat.le_of_ble_eq_true rfl, Nat.zero_le _, Nat.zero_le _⟩ hc hw hl.1 (Nat.lt_of_lt_of_le (by decide) hM) rfl (m_X7_holdsWith l hM v2 (gi σ 2 2) σ h) rfl rfl (Nat.le_of_ble_eq_true rfl) dX7_flames_19 (fun r3 σ2 H locs h hw => ?_)
    refine lv_if_eq (tgt := 31) hx hb dX7_flames_22 (by decide) (fun c4 => ?_) (fun c4 => ?_)
    · replace h := h.1 c4
      refine lv_iconst (v := 0) hx hb dX7_flames_31 (by decide) ?_
      refine lv_ior hx hb dX7_flames_32 ?_
      refine lv_istore_n (lv' := [(1, .int (v1 ||| 0)), (0, .ref (ad 0)), (2, .int v2)]) hx hb dX7_flames_33 rfl hl (by decide) rfl (fun ls hl => ?_)
      obtain ⟨x5, ex5⟩ : ∃ z, z = v2 + 1 := ⟨_, rfl⟩
      replace h := h x5 ex5
      refine lv_iinc (v := x5) (lv' := [(2, .int x5), (1, .int (v1 ||| 0)), (0, .ref (ad 0))]) hx hb dX7_flames_34 hl (k := 2) rfl (by rw [ex5]; rfl) (by decide) rfl (fun ls hl => ?_)
      refine lv_goto (tgt := 4) hx hb dX7_flames_37 (by decide) ?_
      exact hk_4 (v1 ||| 0) x5 σ2 _ _ _ h  hw (lv_sub hl [2, 1, 0] rfl)
    · replace h := h.2 c4
      refine lv_iconst (v := 1) hx hb dX7_flames_25 (by decide) ?_
      refine lv_iload_n hx hb dX7_flames_26 rfl (lv_at hl 2 rfl) ?_
      refine lv_ishl hx hb dX7_flames_27 ?_
      refine lv_goto (tgt := 32) hx hb dX7_flames_28 (by decide) ?_
      refine lv_ior hx hb dX7_flames_32 ?_
      refine lv_istore_n (lv' := [(1, .int (v1 ||| (1 <<< (v2 &&& 31)))), (0, .ref (ad 0)), (2, .int v2)]) hx hb dX7_flames_33 rfl hl (by decide) rfl (fun ls hl => ?_)
      obtain ⟨x6, ex6⟩ : ∃ z, z = v2 + 1 := ⟨_, rfl⟩
      replace h := h x6 ex6
      refine lv_iinc (v := x6) (lv' := [(2, .int x6), (1, .int (v1 ||| (1 <<< (v2 &&& 31)))), (0, .ref (ad 0))]) hx hb dX7_flames_34 hl (k := 2) rfl (by rw [ex6]; rfl) (by decide) rfl (fun ls hl => ?_)
      refine lv_goto (tgt := 4) hx hb dX7_flames_37 (by decide) ?_
      exact hk_4 (v1 ||| (1 <<< (v2 &&& 31))) x6 σ2 _ _ _ h  hw (lv_sub hl [2, 1, 0] rfl)
def wl_X7_flames_4 (M : Nat) (post : Int32 → St → Prop) : Nat → Int32 → Int32 → St → Prop
  | 0, _, _, _ => False
  | n + 1, v1, v2, σ => w_X7_flames_4 M post (wl_X7_flames_4 M post n) v1 v2 σ
set_option maxHeartbeats 4000000 in
theorem bl_X7_flames_4 {Γ : Gm} {ad : Nat → Nat} {p : Program} {l : Launch} {e : Env} {s : State} {m : MethodId} {args : Array Value} {below : List Frame} {meth : Method} {c : Code} {M : Nat} (hM : 20 ≤ M) {post : Int32 → St → Prop}
    (hc : CX Γ p s m args meth c cX7_flames RX7 3) (hr : meth.sig.returnType = (Option.some Jvm.ClassFile.FieldType.int)) :
    ∀ (n : Nat) (v1 : Int32) (v2 : Int32) (σ : St) (H : Heap) (locs : List Loc) (ls : Array Slot), wl_X7_flames_4 M post n v1 v2 σ → WH Γ YM M ad σ s H locs → lv_has ls 3 [(0, .ref (ad 0)), (1, .int v1), (2, .int v2)] → W p l e (rmL 8 0 0) s m args below meth c H locs 0 0 (MQ below (va_Qi post (fun u t => WC Γ YM M ad u t) (AA Γ)) args s 0 0 (AA Γ)) (F0 m 4 ls []) := by
  intro n
  induction n with
  | zero => intro v1 v2 σ H locs ls h; exact h.elim
  | succ n ih =>
    intro v1 v2 σ H locs ls h  hw hl
    exact b_X7_flames_4 hM ih v1 v2 σ H locs ls h  hc hr hw hl
def w_X7_flames (M : Nat) (post : Int32 → St → Prop)  (σ : St) : Prop :=
  ∃ n, wl_X7_flames_4 M post n 0 0 σ
set_option maxHeartbeats 4000000 in
set_option maxRecDepth 20000 in
theorem m_X7_flames {Γ : Gm} {ad : Nat → Nat} {M : Nat} (l : Launch) (hM : 20 ≤ M) {post : Int32 → St → Prop}  (σ : St) (h : w_X7_flames M post  σ) : Ci l Γ YM M ad σ yX7_flames cX7_flames 3 (Option.some Jvm.ClassFile.FieldType.int) 8 0 0 [.ref (ad 0)] post := by
  refine g_start (by decide) (Nat.le_of_ble_eq_true rfl) ?_
  intro p e s m args below meth c ls hc hr hn hl hw
  have hc : CX Γ p s m args meth c cX7_flames RX7 3 := hc
  have hl : lv_has ls 3 [(0, .ref (ad 0))] := hl
  have hx := hc.1
  have hb := hc.2.1
  unfold w_X7_flames at h
  generalize hHH : s.heap = H0 at hw ⊢
  refine lv_iconst (v := 0) hx hb dX7_flames_0 (by decide) ?_
  refine lv_istore_n (lv' := [(1, .int 0), (0, .ref (ad 0))]) hx hb dX7_flames_1 rfl hl (by decide) rfl (fun ls hl => ?_)
  refine lv_iconst (v := 0) hx hb dX7_flames_2 (by decide) ?_
  refine lv_istore_n (lv' := [(2, .int 0), (1, .int 0), (0, .ref (ad 0))]) hx hb dX7_flames_3 rfl hl (by decide) rfl (fun ls hl => ?_)
  obtain ⟨n, h⟩ := h
  exact bl_X7_flames_4 hM hc hr n 0 0 σ _ _ _ h  hw (lv_sub hl [2, 1, 0] rfl)
def w_X7_sours_4 (M : Nat) (post : Int32 → St → Prop) (k_4 : Int32 → Int32 → St → Prop) (v1 : Int32) (v2 : Int32) (σ : St) : Prop :=
  (10 ≤ v2 → (post v1 σ)) ∧ (¬ (10 ≤ v2) → (w_X7_holdsWith M (fun r3 σ2 => ((r3 = 0 → (∀ x5 : Int32, x5 = v2 + 1 → (k_4 (v1 ||| 0) x5 σ2))) ∧ (¬ (r3 = 0) → (∀ x6 : Int32, x6 = v2 + 1 → (k_4 (v1 ||| (1 <<< (v2 &&& 31))) x6 σ2))))) (gi σ 2 0) v2 σ))
set_option maxHeartbeats 4000000 in
set_option maxRecDepth 20000 in
theorem b_X7_sours_4 {Γ : Gm} {ad : Nat → Nat} {p : Program} {l : Launch} {e : Env} {s : State} {m : MethodId} {args : Array Value} {below : List Frame} {meth : Method} {c : Code} {M : Nat} (hM : 20 ≤ M) {post : Int32 → St → Prop} {k_4 : Int32 → Int32 → St → Prop} (hk_4 : ∀ (v1 : Int32) (v2 : Int32) (σ : St) (H : Heap) (locs : List Loc) (ls : Array Slot), k_4 v1 v2 σ → WH Γ YM M ad σ s H locs → lv_has ls 3 [(0, .ref (ad 0)), (1, .int v1), (2, .int v2)] → W p l e (rmL 8 0 0) s m args below meth c H locs 0 0 (MQ below (va_Qi post (fun u t => WC Γ YM M ad u t) (AA Γ)) args s 0 0 (AA Γ)) (F0 m 4 ls []))
    (v1 : Int32) (v2 : Int32) (σ : St) (H : Heap) (locs : List Loc) (ls : Array Slot) (h : w_X7_sours_4 M post k_4 v1 v2 σ) (hc : CX Γ p s m args meth c cX7_sours RX7 3) (hr : meth.sig.returnType = (Option.some Jvm.ClassFile.FieldType.int)) (hw : WH Γ YM M ad σ s H locs) (hl : lv_has ls 3 [(0, .ref (ad 0)), (1, .int v1), (2, .int v2)]) :
    W p l e (rmL 8 0 0) s m args below meth c H locs 0 0 (MQ below (va_Qi post (fun u t => WC Γ YM M ad u t) (AA Γ)) args s 0 0 (AA Γ)) (F0 m 4 ls []) := by
  have hx := hc.1
  have hb := hc.2.1
  unfold w_X7_sours_4 at h
  refine lv_iload_n hx hb dX7_sours_4 rfl (lv_at hl 2 rfl) ?_
  refine lv_bipush (v := 10) hx hb dX7_sours_5 (by decide) ?_
  refine lv_icmp_ge (tgt := 40) hx hb dX7_sours_7 (by decide) (fun c1 => ?_) (fun c1 => ?_)
  · replace h := h.1 c1
    refine lv_iload_n hx hb dX7_sours_40 rfl (lv_at hl 1 rfl) ?_
    exact g_iret hc hr hw h dX7_sours_41
  · replace h := h.2 c1
    refine lv_iload_n hx hb dX7_sours_10 rfl (lv_at hl 1 rfl) ?_
    refine lv_aload_n hx hb dX7_sours_11 rfl (lv_at hl 0 rfl) ?_
    refine lv_aload_n hx hb dX7_sours_12 rfl (lv_at hl 0 rfl) ?_
    refine fg_X7_13 hc hw (Nat.lt_of_lt_of_le (by decide) hM) rfl dX7_sours_13 ?_
    refine lv_iconst (v := 0) hx hb dX7_sours_16 (by decide) ?_
    refine g_ialdK (Y := YM) (kd := 22) (n := 3) (k := 0) (o := 2) (by decide) (by decide) rfl hc hw (Nat.lt_of_lt_of_le (by decide) hM) rfl rfl (vp_in_lit (by decide)) (by decide) dX7_sours_17 ?_
    refine lv_iload_n hx hb dX7_sours_18 rfl (lv_at hl 2 rfl) ?_
    refine g_Vi (Y := YM) (ci := 7) (n := 2) (k := 7) (As := [.int (gi σ 2 0), .int v2]) (rest := [.int v1]) rfl (by decide) vw_X7_280 ⟨Nat.le_of_ble_eq_true rfl, Nat.le_of_ble_eq_true rfl, Nat.zero_le _, Nat.zero_le _⟩ hc hw hl.1 (Nat.lt_of_lt_of_le (by decide) hM) rfl (m_X7_holdsWith l hM (gi σ 2 0) v2 σ h) rfl rfl (Nat.le_of_ble_eq_true rfl) dX7_sours_19 (fun r3 σ2 H locs h hw => ?_)
    refine lv_if_eq (tgt := 31) hx hb dX7_sours_22 (by decide) (fun c4 => ?_) (fun c4 => ?_)
    · replace h := h.1 c4
      refine lv_iconst (v := 0) hx hb dX7_sours_31 (by decide) ?_
      refine lv_ior hx hb dX7_sours_32 ?_
      refine lv_istore_n (lv' := [(1, .int (v1 ||| 0)), (0, .ref (ad 0)), (2, .int v2)]) hx hb dX7_sours_33 rfl hl (by decide) rfl (fun ls hl => ?_)
      obtain ⟨x5, ex5⟩ : ∃ z, z = v2 + 1 := ⟨_, rfl⟩
      replace h := h x5 ex5
      refine lv_iinc (v := x5) (lv' := [(2, .int x5), (1, .int (v1 ||| 0)), (0, .ref (ad 0))]) hx hb dX7_sours_34 hl (k := 2) rfl (by rw [ex5]; rfl) (by decide) rfl (fun ls hl => ?_)
      refine lv_goto (tgt := 4) hx hb dX7_sours_37 (by decide) ?_
      exact hk_4 (v1 ||| 0) x5 σ2 _ _ _ h  hw (lv_sub hl [2, 1, 0] rfl)
    · replace h := h.2 c4
      refine lv_iconst (v := 1) hx hb dX7_sours_25 (by decide) ?_
      refine lv_iload_n hx hb dX7_sours_26 rfl (lv_at hl 2 rfl) ?_
      refine lv_ishl hx hb dX7_sours_27 ?_
      refine lv_goto (tgt := 32) hx hb dX7_sours_28 (by decide) ?_
      refine lv_ior hx hb dX7_sours_32 ?_
      refine lv_istore_n (lv' := [(1, .int (v1 ||| (1 <<< (v2 &&& 31)))), (0, .ref (ad 0)), (2, .int v2)]) hx hb dX7_sours_33 rfl hl (by decide) rfl (fun ls hl => ?_)
      obtain ⟨x6, ex6⟩ : ∃ z, z = v2 + 1 := ⟨_, rfl⟩
      replace h := h x6 ex6
      refine lv_iinc (v := x6) (lv' := [(2, .int x6), (1, .int (v1 ||| (1 <<< (v2 &&& 31)))), (0, .ref (ad 0))]) hx hb dX7_sours_34 hl (k := 2) rfl (by rw [ex6]; rfl) (by decide) rfl (fun ls hl => ?_)
      refine lv_goto (tgt := 4) hx hb dX7_sours_37 (by decide) ?_
      exact hk_4 (v1 ||| (1 <<< (v2 &&& 31))) x6 σ2 _ _ _ h  hw (lv_sub hl [2, 1, 0] rfl)
def wl_X7_sours_4 (M : Nat) (post : Int32 → St → Prop) : Nat → Int32 → Int32 → St → Prop
  | 0, _, _, _ => False
  | n + 1, v1, v2, σ => w_X7_sours_4 M post (wl_X7_sours_4 M post n) v1 v2 σ
set_option maxHeartbeats 4000000 in
theorem bl_X7_sours_4 {Γ : Gm} {ad : Nat → Nat} {p : Program} {l : Launch} {e : Env} {s : State} {m : MethodId} {args : Array Value} {below : List Frame} {meth : Method} {c : Code} {M : Nat} (hM : 20 ≤ M) {post : Int32 → St → Prop}
    (hc : CX Γ p s m args meth c cX7_sours RX7 3) (hr : meth.sig.returnType = (Option.some Jvm.ClassFile.FieldType.int)) :
    ∀ (n : Nat) (v1 : Int32) (v2 : Int32) (σ : St) (H : Heap) (locs : List Loc) (ls : Array Slot), wl_X7_sours_4 M post n v1 v2 σ → WH Γ YM M ad σ s H locs → lv_has ls 3 [(0, .ref (ad 0)), (1, .int v1), (2, .int v2)] → W p l e (rmL 8 0 0) s m args below meth c H locs 0 0 (MQ below (va_Qi post (fun u t => WC Γ YM M ad u t) (AA Γ)) args s 0 0 (AA Γ)) (F0 m 4 ls []) := by
  intro n
  induction n with
  | zero => intro v1 v2 σ H locs ls h; exact h.elim
  | succ n ih =>
    intro v1 v2 σ H locs ls h  hw hl
    exact b_X7_sours_4 hM ih v1 v2 σ H locs ls h  hc hr hw hl
def w_X7_sours (M : Nat) (post : Int32 → St → Prop)  (σ : St) : Prop :=
  ∃ n, wl_X7_sours_4 M post n 0 0 σ
set_option maxHeartbeats 4000000 in
set_option maxRecDepth 20000 in
theorem m_X7_sours {Γ : Gm} {ad : Nat → Nat} {M : Nat} (l : Launch) (hM : 20 ≤ M) {post : Int32 → St → Prop}  (σ : St) (h : w_X7_sours M post  σ) : Ci l Γ YM M ad σ yX7_sours cX7_sours 3 (Option.some Jvm.ClassFile.FieldType.int) 8 0 0 [.ref (ad 0)] post := by
  refine g_start (by decide) (Nat.le_of_ble_eq_true rfl) ?_
  intro p e s m args below meth c ls hc hr hn hl hw
  have hc : CX Γ p s m args meth c cX7_sours RX7 3 := hc
  have hl : lv_has ls 3 [(0, .ref (ad 0))] := hl
  have hx := hc.1
  have hb := hc.2.1
  unfold w_X7_sours at h
  generalize hHH : s.heap = H0 at hw ⊢
  refine lv_iconst (v := 0) hx hb dX7_sours_0 (by decide) ?_
  refine lv_istore_n (lv' := [(1, .int 0), (0, .ref (ad 0))]) hx hb dX7_sours_1 rfl hl (by decide) rfl (fun ls hl => ?_)
  refine lv_iconst (v := 0) hx hb dX7_sours_2 (by decide) ?_
  refine lv_istore_n (lv' := [(2, .int 0), (1, .int 0), (0, .ref (ad 0))]) hx hb dX7_sours_3 rfl hl (by decide) rfl (fun ls hl => ?_)
  obtain ⟨n, h⟩ := h
  exact bl_X7_sours_4 hM hc hr n 0 0 σ _ _ _ h  hw (lv_sub hl [2, 1, 0] rfl)
def w_X7_region_4 (M : Nat) (post : Int32 → St → Prop) (k_4 : Int32 → Int32 → St → Prop) (v1 : Int32) (v2 : Int32) (σ : St) : Prop :=
  (100 ≤ v2 → (post v1 σ)) ∧ (¬ (100 ≤ v2) → (w_X7_holdsWith M (fun r3 σ2 => ((r3 = 0 → (∀ x5 : Int32, x5 = v2 + 1 → (k_4 (v1 + 0) x5 σ2))) ∧ (¬ (r3 = 0) → (∀ x6 : Int32, x6 = v2 + 1 → (k_4 (v1 + 1) x6 σ2))))) (v2 / 10) (v2 - v2 / 10 * 10) σ))
set_option maxHeartbeats 4000000 in
set_option maxRecDepth 20000 in
theorem b_X7_region_4 {Γ : Gm} {ad : Nat → Nat} {p : Program} {l : Launch} {e : Env} {s : State} {m : MethodId} {args : Array Value} {below : List Frame} {meth : Method} {c : Code} {M : Nat} (hM : 20 ≤ M) {post : Int32 → St → Prop} {k_4 : Int32 → Int32 → St → Prop} (hk_4 : ∀ (v1 : Int32) (v2 : Int32) (σ : St) (H : Heap) (locs : List Loc) (ls : Array Slot), k_4 v1 v2 σ → WH Γ YM M ad σ s H locs → lv_has ls 3 [(0, .ref (ad 0)), (1, .int v1), (2, .int v2)] → W p l e (rmL 8 0 0) s m args below meth c H locs 0 0 (MQ below (va_Qi post (fun u t => WC Γ YM M ad u t) (AA Γ)) args s 0 0 (AA Γ)) (F0 m 4 ls []))
    (v1 : Int32) (v2 : Int32) (σ : St) (H : Heap) (locs : List Loc) (ls : Array Slot) (h : w_X7_region_4 M post k_4 v1 v2 σ) (hc : CX Γ p s m args meth c cX7_region RX7 3) (hr : meth.sig.returnType = (Option.some Jvm.ClassFile.FieldType.int)) (hw : WH Γ YM M ad σ s H locs) (hl : lv_has ls 3 [(0, .ref (ad 0)), (1, .int v1), (2, .int v2)]) :
    W p l e (rmL 8 0 0) s m args below meth c H locs 0 0 (MQ below (va_Qi post (fun u t => WC Γ YM M ad u t) (AA Γ)) args s 0 0 (AA Γ)) (F0 m 4 ls []) := by
  have hx := hc.1
  have hb := hc.2.1
  unfold w_X7_region_4 at h
  refine lv_iload_n hx hb dX7_region_4 rfl (lv_at hl 2 rfl) ?_
  refine lv_bipush (v := 100) hx hb dX7_region_5 (by decide) ?_
  refine lv_icmp_ge (tgt := 39) hx hb dX7_region_7 (by decide) (fun c1 => ?_) (fun c1 => ?_)
  · replace h := h.1 c1
    refine lv_iload_n hx hb dX7_region_39 rfl (lv_at hl 1 rfl) ?_
    exact g_iret hc hr hw h dX7_region_40
  · replace h := h.2 c1
    refine lv_iload_n hx hb dX7_region_10 rfl (lv_at hl 1 rfl) ?_
    refine lv_aload_n hx hb dX7_region_11 rfl (lv_at hl 0 rfl) ?_
    refine lv_iload_n hx hb dX7_region_12 rfl (lv_at hl 2 rfl) ?_
    refine lv_bipush (v := 10) hx hb dX7_region_13 (by decide) ?_
    refine lv_idiv hx hb dX7_region_15 (by decide) ?_
    refine lv_iload_n hx hb dX7_region_16 rfl (lv_at hl 2 rfl) ?_
    refine lv_bipush (v := 10) hx hb dX7_region_17 (by decide) ?_
    refine lv_irem hx hb dX7_region_19 (by decide) ?_
    refine g_Vi (Y := YM) (ci := 7) (n := 2) (k := 7) (As := [.int (v2 / 10), .int (v2 - v2 / 10 * 10)]) (rest := [.int v1]) rfl (by decide) vw_X7_280 ⟨Nat.le_of_ble_eq_true rfl, Nat.le_of_ble_eq_true rfl, Nat.zero_le _, Nat.zero_le _⟩ hc hw hl.1 (Nat.lt_of_lt_of_le (by decide) hM) rfl (m_X7_holdsWith l hM (v2 / 10) (v2 - v2 / 10 * 10) σ h) rfl rfl (Nat.le_of_ble_eq_true rfl) dX7_region_20 (fun r3 σ2 H locs h hw => ?_)
    refine lv_if_eq (tgt := 30) hx hb dX7_region_23 (by decide) (fun c4 => ?_) (fun c4 => ?_)
    · replace h := h.1 c4
      refine lv_iconst (v := 0) hx hb dX7_region_30 (by decide) ?_
      refine lv_iadd hx hb dX7_region_31 ?_
      refine lv_istore_n (lv' := [(1, .int (v1 + 0)), (0, .ref (ad 0)), (2, .int v2)]) hx hb dX7_region_32 rfl hl (by decide) rfl (fun ls hl => ?_)
      obtain ⟨x5, ex5⟩ : ∃ z, z = v2 + 1 := ⟨_, rfl⟩
      replace h := h x5 ex5
      refine lv_iinc (v := x5) (lv' := [(2, .int x5), (1, .int (v1 + 0)), (0, .ref (ad 0))]) hx hb dX7_region_33 hl (k := 2) rfl (by rw [ex5]; rfl) (by decide) rfl (fun ls hl => ?_)
      refine lv_goto (tgt := 4) hx hb dX7_region_36 (by decide) ?_
      exact hk_4 (v1 + 0) x5 σ2 _ _ _ h  hw (lv_sub hl [2, 1, 0] rfl)
    · replace h := h.2 c4
      refine lv_iconst (v := 1) hx hb dX7_region_26 (by decide) ?_
      refine lv_goto (tgt := 31) hx hb dX7_region_27 (by decide) ?_
      refine lv_iadd hx hb dX7_region_31 ?_
      refine lv_istore_n (lv' := [(1, .int (v1 + 1)), (0, .ref (ad 0)), (2, .int v2)]) hx hb dX7_region_32 rfl hl (by decide) rfl (fun ls hl => ?_)
      obtain ⟨x6, ex6⟩ : ∃ z, z = v2 + 1 := ⟨_, rfl⟩
      replace h := h x6 ex6
      refine lv_iinc (v := x6) (lv' := [(2, .int x6), (1, .int (v1 + 1)), (0, .ref (ad 0))]) hx hb dX7_region_33 hl (k := 2) rfl (by rw [ex6]; rfl) (by decide) rfl (fun ls hl => ?_)
      refine lv_goto (tgt := 4) hx hb dX7_region_36 (by decide) ?_
      exact hk_4 (v1 + 1) x6 σ2 _ _ _ h  hw (lv_sub hl [2, 1, 0] rfl)
def wl_X7_region_4 (M : Nat) (post : Int32 → St → Prop) : Nat → Int32 → Int32 → St → Prop
  | 0, _, _, _ => False
  | n + 1, v1, v2, σ => w_X7_region_4 M post (wl_X7_region_4 M post n) v1 v2 σ
set_option maxHeartbeats 4000000 in
theorem bl_X7_region_4 {Γ : Gm} {ad : Nat → Nat} {p : Program} {l : Launch} {e : Env} {s : State} {m : MethodId} {args : Array Value} {below : List Frame} {meth : Method} {c : Code} {M : Nat} (hM : 20 ≤ M) {post : Int32 → St → Prop}
    (hc : CX Γ p s m args meth c cX7_region RX7 3) (hr : meth.sig.returnType = (Option.some Jvm.ClassFile.FieldType.int)) :
    ∀ (n : Nat) (v1 : Int32) (v2 : Int32) (σ : St) (H : Heap) (locs : List Loc) (ls : Array Slot), wl_X7_region_4 M post n v1 v2 σ → WH Γ YM M ad σ s H locs → lv_has ls 3 [(0, .ref (ad 0)), (1, .int v1), (2, .int v2)] → W p l e (rmL 8 0 0) s m args below meth c H locs 0 0 (MQ below (va_Qi post (fun u t => WC Γ YM M ad u t) (AA Γ)) args s 0 0 (AA Γ)) (F0 m 4 ls []) := by
  intro n
  induction n with
  | zero => intro v1 v2 σ H locs ls h; exact h.elim
  | succ n ih =>
    intro v1 v2 σ H locs ls h  hw hl
    exact b_X7_region_4 hM ih v1 v2 σ H locs ls h  hc hr hw hl
def w_X7_region (M : Nat) (post : Int32 → St → Prop)  (σ : St) : Prop :=
  ∃ n, wl_X7_region_4 M post n 0 0 σ
set_option maxHeartbeats 4000000 in
set_option maxRecDepth 20000 in
theorem m_X7_region {Γ : Gm} {ad : Nat → Nat} {M : Nat} (l : Launch) (hM : 20 ≤ M) {post : Int32 → St → Prop}  (σ : St) (h : w_X7_region M post  σ) : Ci l Γ YM M ad σ yX7_region cX7_region 3 (Option.some Jvm.ClassFile.FieldType.int) 8 0 0 [.ref (ad 0)] post := by
  refine g_start (by decide) (Nat.le_of_ble_eq_true rfl) ?_
  intro p e s m args below meth c ls hc hr hn hl hw
  have hc : CX Γ p s m args meth c cX7_region RX7 3 := hc
  have hl : lv_has ls 3 [(0, .ref (ad 0))] := hl
  have hx := hc.1
  have hb := hc.2.1
  unfold w_X7_region at h
  generalize hHH : s.heap = H0 at hw ⊢
  refine lv_iconst (v := 0) hx hb dX7_region_0 (by decide) ?_
  refine lv_istore_n (lv' := [(1, .int 0), (0, .ref (ad 0))]) hx hb dX7_region_1 rfl hl (by decide) rfl (fun ls hl => ?_)
  refine lv_iconst (v := 0) hx hb dX7_region_2 (by decide) ?_
  refine lv_istore_n (lv' := [(2, .int 0), (1, .int 0), (0, .ref (ad 0))]) hx hb dX7_region_3 rfl hl (by decide) rfl (fun ls hl => ?_)
  obtain ⟨n, h⟩ := h
  exact bl_X7_region_4 hM hc hr n 0 0 σ _ _ _ h  hw (lv_sub hl [2, 1, 0] rfl)
def w_X7_odds_32 (M : Nat) (post : Int64 → St → Prop) (k_32 : Int32 → Int32 → Int32 → Int32 → St → Prop) (v1 : Int32) (v2 : Int32) (v3 : Int32) (v4 : Int32) (σ : St) : Prop :=
  (v1 < v4 → (w_X7_lowest M (fun r3 σ2 => (post r3 σ2)) v3.toInt64 (((2 * v1) + 1).toInt64) v2 σ)) ∧ (¬ (v1 < v4) → (w_X7_held M (fun r5 σ4 => (w_X7_holdsWith M (fun r7 σ6 => ((r7 = 0 → (∀ x9 : Int32, x9 = v4 + 1 → (k_32 v1 v2 (v3 + 0) x9 σ6))) ∧ (¬ (r7 = 0) → (∀ x10 : Int32, x10 = v4 + 1 → (k_32 v1 v2 (v3 + 1) x10 σ6))))) r5 (gi σ4 2 2) σ4)) ((gi σ 2 0) + v4) 9 σ))
set_option maxHeartbeats 4000000 in
set_option maxRecDepth 20000 in
theorem b_X7_odds_32 {Γ : Gm} {ad : Nat → Nat} {p : Program} {l : Launch} {e : Env} {s : State} {m : MethodId} {args : Array Value} {below : List Frame} {meth : Method} {c : Code} {M : Nat} (hM : 20 ≤ M) {post : Int64 → St → Prop} {k_32 : Int32 → Int32 → Int32 → Int32 → St → Prop} (hk_32 : ∀ (v1 : Int32) (v2 : Int32) (v3 : Int32) (v4 : Int32) (σ : St) (H : Heap) (locs : List Loc) (ls : Array Slot), k_32 v1 v2 v3 v4 σ → WH Γ YM M ad σ s H locs → lv_has ls 5 [(0, .ref (ad 0)), (1, .int v1), (2, .int v2), (3, .int v3), (4, .int v4)] → W p l e (rmL 8 0 0) s m args below meth c H locs 0 0 (MQ below (va_Ql post (fun u t => WC Γ YM M ad u t) (AA Γ)) args s 0 0 (AA Γ)) (F0 m 32 ls []))
    (v1 : Int32) (v2 : Int32) (v3 : Int32) (v4 : Int32) (σ : St) (H : Heap) (locs : List Loc) (ls : Array Slot) (h : w_X7_odds_32 M post k_32 v1 v2 v3 v4 σ) (hc : CX Γ p s m args meth c cX7_odds RX7 5) (hr : meth.sig.returnType = (Option.some Jvm.ClassFile.FieldType.long)) (hw : WH Γ YM M ad σ s H locs) (hl : lv_has ls 5 [(0, .ref (ad 0)), (1, .int v1), (2, .int v2), (3, .int v3), (4, .int v4)]) :
    W p l e (rmL 8 0 0) s m args below meth c H locs 0 0 (MQ below (va_Ql post (fun u t => WC Γ YM M ad u t) (AA Γ)) args s 0 0 (AA Γ)) (F0 m 32 ls []) := by
  have hx := hc.1
  have hb := hc.2.1
  unfold w_X7_odds_32 at h
  refine lv_iload hx hb dX7_odds_32 (lv_at hl 4 rfl) ?_
  refine lv_iload_n hx hb dX7_odds_34 rfl (lv_at hl 1 rfl) ?_
  refine lv_icmp_gt (tgt := 79) hx hb dX7_odds_35 (by decide) (fun c1 => ?_) (fun c1 => ?_)
  · replace h := h.1 c1
    refine lv_iload_n hx hb dX7_odds_79 rfl (lv_at hl 3 rfl) ?_
    refine lv_i2l (v := v3.toInt64) hx hb dX7_odds_80 rfl ?_
    refine lv_iconst (v := 2) hx hb dX7_odds_81 (by decide) ?_
    refine lv_iload_n hx hb dX7_odds_82 rfl (lv_at hl 1 rfl) ?_
    refine lv_imul hx hb dX7_odds_83 ?_
    refine lv_iconst (v := 1) hx hb dX7_odds_84 (by decide) ?_
    refine lv_iadd hx hb dX7_odds_85 ?_
    refine lv_i2l (v := ((2 * v1) + 1).toInt64) hx hb dX7_odds_86 rfl ?_
    refine lv_iload_n hx hb dX7_odds_87 rfl (lv_at hl 2 rfl) ?_
    refine g_Sl (Y := YM) (n := 3) (k := 0) (As := [.long v3.toInt64, .long (((2 * v1) + 1).toInt64), .int v2]) (rest := []) vw_X7_285 ⟨Nat.le_of_ble_eq_true rfl, Nat.le_of_ble_eq_true rfl, Nat.zero_le _, Nat.zero_le _⟩ hc hw hl.1 (m_X7_lowest l hM v3.toInt64 (((2 * v1) + 1).toInt64) v2 σ h) rfl rfl (Nat.le_of_ble_eq_true rfl) dX7_odds_88 (fun r3 σ2 H locs h hw => ?_)
    exact g_lret hc hr hw h dX7_odds_91
  · replace h := h.2 c1
    refine lv_iload_n hx hb dX7_odds_38 rfl (lv_at hl 3 rfl) ?_
    refine lv_aload_n hx hb dX7_odds_39 rfl (lv_at hl 0 rfl) ?_
    refine lv_aload_n hx hb dX7_odds_40 rfl (lv_at hl 0 rfl) ?_
    refine fg_X7_13 hc hw (Nat.lt_of_lt_of_le (by decide) hM) rfl dX7_odds_41 ?_
    refine lv_iconst (v := 0) hx hb dX7_odds_44 (by decide) ?_
    refine g_ialdK (Y := YM) (kd := 22) (n := 3) (k := 0) (o := 2) (by decide) (by decide) rfl hc hw (Nat.lt_of_lt_of_le (by decide) hM) rfl rfl (vp_in_lit (by decide)) (by decide) dX7_odds_45 ?_
    refine lv_iload hx hb dX7_odds_46 (lv_at hl 4 rfl) ?_
    refine lv_iadd hx hb dX7_odds_48 ?_
    refine lv_bipush (v := 9) hx hb dX7_odds_49 (by decide) ?_
    refine g_Si (Y := YM) (n := 2) (k := 0) (As := [.int ((gi σ 2 0) + v4), .int 9]) (rest := [.ref (ad 0), .int v3]) vw_X7_203 ⟨Nat.le_of_ble_eq_true rfl, Nat.le_of_ble_eq_true rfl, Nat.zero_le _, Nat.zero_le _⟩ hc hw hl.1 (m_X7_held l hM ((gi σ 2 0) + v4) 9 σ h) rfl rfl (Nat.le_of_ble_eq_true rfl) dX7_odds_51 (fun r5 σ4 H locs h hw => ?_)
    refine lv_aload_n hx hb dX7_odds_54 rfl (lv_at hl 0 rfl) ?_
    refine fg_X7_13 hc hw (Nat.lt_of_lt_of_le (by decide) hM) rfl dX7_odds_55 ?_
    refine lv_iconst (v := 2) hx hb dX7_odds_58 (by decide) ?_
    refine g_ialdK (Y := YM) (kd := 22) (n := 3) (k := 2) (o := 2) (by decide) (by decide) rfl hc hw (Nat.lt_of_lt_of_le (by decide) hM) rfl rfl (vp_in_lit (by decide)) (by decide) dX7_odds_59 ?_
    refine g_Vi (Y := YM) (ci := 7) (n := 2) (k := 7) (As := [.int r5, .int (gi σ4 2 2)]) (rest := [.int v3]) rfl (by decide) vw_X7_280 ⟨Nat.le_of_ble_eq_true rfl, Nat.le_of_ble_eq_true rfl, Nat.zero_le _, Nat.zero_le _⟩ hc hw hl.1 (Nat.lt_of_lt_of_le (by decide) hM) rfl (m_X7_holdsWith l hM r5 (gi σ4 2 2) σ4 h) rfl rfl (Nat.le_of_ble_eq_true rfl) dX7_odds_60 (fun r7 σ6 H locs h hw => ?_)
    refine lv_if_eq (tgt := 70) hx hb dX7_odds_63 (by decide) (fun c8 => ?_) (fun c8 => ?_)
    · replace h := h.1 c8
      refine lv_iconst (v := 0) hx hb dX7_odds_70 (by decide) ?_
      refine lv_iadd hx hb dX7_odds_71 ?_
      refine lv_istore_n (lv' := [(3, .int (v3 + 0)), (0, .ref (ad 0)), (1, .int v1), (2, .int v2), (4, .int v4)]) hx hb dX7_odds_72 rfl hl (by decide) rfl (fun ls hl => ?_)
      obtain ⟨x9, ex9⟩ : ∃ z, z = v4 + 1 := ⟨_, rfl⟩
      replace h := h x9 ex9
      refine lv_iinc (v := x9) (lv' := [(4, .int x9), (3, .int (v3 + 0)), (0, .ref (ad 0)), (1, .int v1), (2, .int v2)]) hx hb dX7_odds_73 hl (k := 4) rfl (by rw [ex9]; rfl) (by decide) rfl (fun ls hl => ?_)
      refine lv_goto (tgt := 32) hx hb dX7_odds_76 (by decide) ?_
      exact hk_32 v1 v2 (v3 + 0) x9 σ6 _ _ _ h  hw (lv_sub hl [2, 3, 4, 1, 0] rfl)
    · replace h := h.2 c8
      refine lv_iconst (v := 1) hx hb dX7_odds_66 (by decide) ?_
      refine lv_goto (tgt := 71) hx hb dX7_odds_67 (by decide) ?_
      refine lv_iadd hx hb dX7_odds_71 ?_
      refine lv_istore_n (lv' := [(3, .int (v3 + 1)), (0, .ref (ad 0)), (1, .int v1), (2, .int v2), (4, .int v4)]) hx hb dX7_odds_72 rfl hl (by decide) rfl (fun ls hl => ?_)
      obtain ⟨x10, ex10⟩ : ∃ z, z = v4 + 1 := ⟨_, rfl⟩
      replace h := h x10 ex10
      refine lv_iinc (v := x10) (lv' := [(4, .int x10), (3, .int (v3 + 1)), (0, .ref (ad 0)), (1, .int v1), (2, .int v2)]) hx hb dX7_odds_73 hl (k := 4) rfl (by rw [ex10]; rfl) (by decide) rfl (fun ls hl => ?_)
      refine lv_goto (tgt := 32) hx hb dX7_odds_76 (by decide) ?_
      exact hk_32 v1 v2 (v3 + 1) x10 σ6 _ _ _ h  hw (lv_sub hl [2, 3, 4, 1, 0] rfl)
def wl_X7_odds_32 (M : Nat) (post : Int64 → St → Prop) : Nat → Int32 → Int32 → Int32 → Int32 → St → Prop
  | 0, _, _, _, _, _ => False
  | n + 1, v1, v2, v3, v4, σ => w_X7_odds_32 M post (wl_X7_odds_32 M post n) v1 v2 v3 v4 σ
set_option maxHeartbeats 4000000 in
theorem bl_X7_odds_32 {Γ : Gm} {ad : Nat → Nat} {p : Program} {l : Launch} {e : Env} {s : State} {m : MethodId} {args : Array Value} {below : List Frame} {meth : Method} {c : Code} {M : Nat} (hM : 20 ≤ M) {post : Int64 → St → Prop}
    (hc : CX Γ p s m args meth c cX7_odds RX7 5) (hr : meth.sig.returnType = (Option.some Jvm.ClassFile.FieldType.long)) :
    ∀ (n : Nat) (v1 : Int32) (v2 : Int32) (v3 : Int32) (v4 : Int32) (σ : St) (H : Heap) (locs : List Loc) (ls : Array Slot), wl_X7_odds_32 M post n v1 v2 v3 v4 σ → WH Γ YM M ad σ s H locs → lv_has ls 5 [(0, .ref (ad 0)), (1, .int v1), (2, .int v2), (3, .int v3), (4, .int v4)] → W p l e (rmL 8 0 0) s m args below meth c H locs 0 0 (MQ below (va_Ql post (fun u t => WC Γ YM M ad u t) (AA Γ)) args s 0 0 (AA Γ)) (F0 m 32 ls []) := by
  intro n
  induction n with
  | zero => intro v1 v2 v3 v4 σ H locs ls h; exact h.elim
  | succ n ih =>
    intro v1 v2 v3 v4 σ H locs ls h  hw hl
    exact b_X7_odds_32 hM ih v1 v2 v3 v4 σ H locs ls h  hc hr hw hl
def w_X7_odds (M : Nat) (post : Int64 → St → Prop) (a1 : Int32) (a2 : Int32) (σ : St) : Prop :=
  w_X7_in M (fun r2 σ1 => ((r2 = 0 → (post (-4611686018427387904) σ1)) ∧ (¬ (r2 = 0) → (w_X7_in M (fun r5 σ4 => ((r5 = 0 → (post (-4611686018427387904) σ4)) ∧ (¬ (r5 = 0) → (∃ n, wl_X7_odds_32 M post n a1 a2 0 (-a1) σ4)))) a2.toInt64 0 1 σ1)))) a1.toInt64 0 5 σ
set_option maxHeartbeats 4000000 in
set_option maxRecDepth 20000 in
theorem m_X7_odds {Γ : Gm} {ad : Nat → Nat} {M : Nat} (l : Launch) (hM : 20 ≤ M) {post : Int64 → St → Prop} (a1 : Int32) (a2 : Int32) (σ : St) (h : w_X7_odds M post a1 a2 σ) : Cl l Γ YM M ad σ yX7_odds cX7_odds 5 (Option.some Jvm.ClassFile.FieldType.long) 8 0 0 [.ref (ad 0), .int a1, .int a2] post := by
  refine g_start (by decide) (Nat.le_of_ble_eq_true rfl) ?_
  intro p e s m args below meth c ls hc hr hn hl hw
  have hc : CX Γ p s m args meth c cX7_odds RX7 5 := hc
  have hl : lv_has ls 5 [(0, .ref (ad 0)), (1, .int a1), (2, .int a2)] := hl
  have hx := hc.1
  have hb := hc.2.1
  unfold w_X7_odds at h
  generalize hHH : s.heap = H0 at hw ⊢
  refine lv_iload_n hx hb dX7_odds_0 rfl (lv_at hl 1 rfl) ?_
  refine lv_i2l (v := a1.toInt64) hx hb dX7_odds_1 rfl ?_
  refine lv_lconst (v := 0) hx hb dX7_odds_2 (by decide) ?_
  refine lv_ldc2 (v := 5) hx hb hc.2.2.2.1 (hc.2.2.2.2.1 _ q_1110) dX7_odds_3 ?_
  refine g_Si (Y := YM) (n := 3) (k := 0) (As := [.long a1.toInt64, .long 0, .long 5]) (rest := []) vw_X7_75 ⟨Nat.le_of_ble_eq_true rfl, Nat.le_of_ble_eq_true rfl, Nat.zero_le _, Nat.zero_le _⟩ hc hw hl.1 (m_X7_in l hM a1.toInt64 0 5 σ h) rfl rfl (Nat.le_of_ble_eq_true rfl) dX7_odds_6 (fun r2 σ1 H locs h hw => ?_)
  refine lv_if_eq (tgt := 22) hx hb dX7_odds_9 (by decide) (fun c3 => ?_) (fun c3 => ?_)
  · replace h := h.1 c3
    refine lv_ldc2 (v := (-4611686018427387904)) hx hb hc.2.2.2.1 (hc.2.2.2.2.1 _ q_1324) dX7_odds_22 ?_
    exact g_lret hc hr hw h dX7_odds_25
  · replace h := h.2 c3
    refine lv_iload_n hx hb dX7_odds_12 rfl (lv_at hl 2 rfl) ?_
    refine lv_i2l (v := a2.toInt64) hx hb dX7_odds_13 rfl ?_
    refine lv_lconst (v := 0) hx hb dX7_odds_14 (by decide) ?_
    refine lv_lconst (v := 1) hx hb dX7_odds_15 (by decide) ?_
    refine g_Si (Y := YM) (n := 3) (k := 0) (As := [.long a2.toInt64, .long 0, .long 1]) (rest := []) vw_X7_75 ⟨Nat.le_of_ble_eq_true rfl, Nat.le_of_ble_eq_true rfl, Nat.zero_le _, Nat.zero_le _⟩ hc hw hl.1 (m_X7_in l hM a2.toInt64 0 1 σ1 h) rfl rfl (Nat.le_of_ble_eq_true rfl) dX7_odds_16 (fun r5 σ4 H locs h hw => ?_)
    refine lv_if_ne (tgt := 26) hx hb dX7_odds_19 (by decide) (fun c6 => ?_) (fun c6 => ?_)
    · replace h := h.2 c6
      refine lv_iconst (v := 0) hx hb dX7_odds_26 (by decide) ?_
      refine lv_istore_n (lv' := [(3, .int 0), (0, .ref (ad 0)), (1, .int a1), (2, .int a2)]) hx hb dX7_odds_27 rfl hl (by decide) rfl (fun ls hl => ?_)
      refine lv_iload_n hx hb dX7_odds_28 rfl (lv_at hl 2 rfl) ?_
      refine lv_ineg hx hb dX7_odds_29 ?_
      refine lv_istore (lv' := [(4, .int (-a1)), (3, .int 0), (0, .ref (ad 0)), (1, .int a1), (2, .int a2)]) hx hb dX7_odds_30 hl (by decide) rfl (fun ls hl => ?_)
      obtain ⟨n, h⟩ := h
      exact bl_X7_odds_32 hM hc hr n a1 a2 0 (-a1) σ4 _ _ _ h  hw (lv_sub hl [2, 3, 4, 1, 0] rfl)
    · replace h := h.1 c6
      refine lv_ldc2 (v := (-4611686018427387904)) hx hb hc.2.2.2.1 (hc.2.2.2.2.1 _ q_1324) dX7_odds_22 ?_
      exact g_lret hc hr hw h dX7_odds_25
def w_X7_one_24 (rec : Nat → (St → Prop) → St → Prop) (M : Nat) (post : St → Prop)  (σ : St) : Prop :=
  ((gi σ 0 13) = 1 → (w_X7_adds M (fun σ4 => (w_X7_next M (fun σ5 => (post σ5)) σ4)) (gi σ 0 14) σ)) ∧ (¬ ((gi σ 0 13) = 1) → (w_X7_adds M (fun σ2 => (w_X7_next M (fun σ3 => (post σ3)) σ2)) ((-1) - (gi σ 0 14)) σ))
set_option maxHeartbeats 4000000 in
set_option maxRecDepth 20000 in
theorem b_X7_one_24 {Γ : Gm} {ad : Nat → Nat} {p : Program} {l : Launch} {e : Env} {s : State} {m : MethodId} {args : Array Value} {below : List Frame} {meth : Method} {c : Code} {kk : Nat} {rec : Nat → (St → Prop) → St → Prop} {M : Nat} (hM : 20 ≤ M) (hkk : 40 ≤ kk) {post : St → Prop} (hrec_one : ∀ (post : St → Prop) (σ : St), rec 0 post σ → Cv l Γ YM M ad σ yX7_one cX7_one 2 none kk 0 0 [.ref (ad 0)] post) (hrec_either : ∀ (post : St → Prop) (σ : St), rec 5 post σ → Cv l Γ YM M ad σ yX7_either cX7_either 1 none kk 0 0 [.ref (ad 0)] post)
     (σ : St) (H : Heap) (locs : List Loc) (ls : Array Slot) (h : w_X7_one_24 rec M post  σ) (hc : CX Γ p s m args meth c cX7_one RX7 2) (hr : meth.sig.returnType = none) (hw : WH Γ YM M ad σ s H locs) (hl : lv_has ls 2 [(0, .ref (ad 0))]) :
    W p l e (rmL (kk + 1) 0 0) s m args below meth c H locs 0 0 (MQ below (va_Qv post (fun u t => WC Γ YM M ad u t) (AA Γ)) args s 0 0 (AA Γ)) (F0 m 24 ls []) := by
  have hx := hc.1
  have hb := hc.2.1
  unfold w_X7_one_24 at h
  refine lv_aload_n hx hb dX7_one_24 rfl (lv_at hl 0 rfl) ?_
  refine lv_aload_n hx hb dX7_one_25 rfl (lv_at hl 0 rfl) ?_
  refine fg_X7_129 hc hw (Nat.lt_of_lt_of_le (by decide) hM) rfl dX7_one_26 ?_
  refine lv_iconst (v := 1) hx hb dX7_one_29 (by decide) ?_
  refine lv_icmp_ne (tgt := 40) hx hb dX7_one_30 (by decide) (fun c1 => ?_) (fun c1 => ?_)
  · replace h := h.2 c1
    refine lv_iconst (v := (-1)) hx hb dX7_one_40 (by decide) ?_
    refine lv_aload_n hx hb dX7_one_41 rfl (lv_at hl 0 rfl) ?_
    refine fg_X7_139 hc hw (Nat.lt_of_lt_of_le (by decide) hM) rfl dX7_one_42 ?_
    refine lv_isub hx hb dX7_one_45 ?_
    refine g_Vv (Y := YM) (ci := 7) (n := 1) (k := 0) (As := [.int ((-1) - (gi σ 0 14))]) (rest := []) rfl (by decide) vw_X7_167 ⟨by simp only [rmL]; omega, by simp only [rmL]; omega, Nat.zero_le _, Nat.zero_le _⟩ hc hw hl.1 (Nat.lt_of_lt_of_le (by decide) hM) rfl (m_X7_adds l hM ((-1) - (gi σ 0 14)) σ h) rfl rfl (Nat.le_of_ble_eq_true rfl) dX7_one_46 (fun σ2 H locs h hw => ?_)
    refine lv_aload_n hx hb dX7_one_49 rfl (lv_at hl 0 rfl) ?_
    refine g_Vv (Y := YM) (ci := 7) (n := 0) (k := 2) (As := []) (rest := []) rfl (by decide) vw_X7_164 ⟨by simp only [rmL]; omega, by simp only [rmL]; omega, Nat.zero_le _, Nat.zero_le _⟩ hc hw hl.1 (Nat.lt_of_lt_of_le (by decide) hM) rfl (m_X7_next l hM σ2 h) rfl rfl (Nat.le_of_ble_eq_true rfl) dX7_one_50 (fun σ3 H locs h hw => ?_)
    exact g_vret hc hr hw h dX7_one_53
  · replace h := h.1 c1
    refine lv_aload_n hx hb dX7_one_33 rfl (lv_at hl 0 rfl) ?_
    refine fg_X7_139 hc hw (Nat.lt_of_lt_of_le (by decide) hM) rfl dX7_one_34 ?_
    refine lv_goto (tgt := 46) hx hb dX7_one_37 (by decide) ?_
    refine g_Vv (Y := YM) (ci := 7) (n := 1) (k := 0) (As := [.int (gi σ 0 14)]) (rest := []) rfl (by decide) vw_X7_167 ⟨by simp only [rmL]; omega, by simp only [rmL]; omega, Nat.zero_le _, Nat.zero_le _⟩ hc hw hl.1 (Nat.lt_of_lt_of_le (by decide) hM) rfl (m_X7_adds l hM (gi σ 0 14) σ h) rfl rfl (Nat.le_of_ble_eq_true rfl) dX7_one_46 (fun σ4 H locs h hw => ?_)
    refine lv_aload_n hx hb dX7_one_49 rfl (lv_at hl 0 rfl) ?_
    refine g_Vv (Y := YM) (ci := 7) (n := 0) (k := 2) (As := []) (rest := []) rfl (by decide) vw_X7_164 ⟨by simp only [rmL]; omega, by simp only [rmL]; omega, Nat.zero_le _, Nat.zero_le _⟩ hc hw hl.1 (Nat.lt_of_lt_of_le (by decide) hM) rfl (m_X7_next l hM σ4 h) rfl rfl (Nat.le_of_ble_eq_true rfl) dX7_one_50 (fun σ5 H locs h hw => ?_)
    exact g_vret hc hr hw h dX7_one_53
def w_X7_one_79 (rec : Nat → (St → Prop) → St → Prop) (M : Nat) (post : St → Prop) (v1 : Int32) (σ : St) : Prop :=
  w_X7_opens M (fun r2 σ1 => ((r2 = 0 → (post σ1)) ∧ (¬ (r2 = 0) → ((v1 = 0 → (rec 5 (fun σ5 => (w_X7_isSign M (fun r7 σ6 => ((r7 = 0 → (w_X7_wrong M (fun σ11 => (post σ11)) σ6)) ∧ (¬ (r7 = 0) → (∀ σ9 : St, σ9 = si σ6 0 15 ((gi σ6 0 15) - 1) → (w_X7_next M (fun σ10 => (post σ10)) σ9))))) 41 σ5)) σ1)) ∧ (¬ (v1 = 0) → (rec 0 (fun σ12 => (w_X7_adds M (fun σ13 => (∀ σ14 : St, σ14 = si σ13 0 15 ((gi σ13 0 15) - 1) → (post σ14))) (-100) σ12)) σ1)))))) σ
set_option maxHeartbeats 4000000 in
set_option maxRecDepth 20000 in
theorem b_X7_one_79 {Γ : Gm} {ad : Nat → Nat} {p : Program} {l : Launch} {e : Env} {s : State} {m : MethodId} {args : Array Value} {below : List Frame} {meth : Method} {c : Code} {kk : Nat} {rec : Nat → (St → Prop) → St → Prop} {M : Nat} (hM : 20 ≤ M) (hkk : 40 ≤ kk) {post : St → Prop} (hrec_one : ∀ (post : St → Prop) (σ : St), rec 0 post σ → Cv l Γ YM M ad σ yX7_one cX7_one 2 none kk 0 0 [.ref (ad 0)] post) (hrec_either : ∀ (post : St → Prop) (σ : St), rec 5 post σ → Cv l Γ YM M ad σ yX7_either cX7_either 1 none kk 0 0 [.ref (ad 0)] post)
    (v1 : Int32) (σ : St) (H : Heap) (locs : List Loc) (ls : Array Slot) (h : w_X7_one_79 rec M post v1 σ) (hc : CX Γ p s m args meth c cX7_one RX7 2) (hr : meth.sig.returnType = none) (hw : WH Γ YM M ad σ s H locs) (hl : lv_has ls 2 [(0, .ref (ad 0)), (1, .int v1)]) :
    W p l e (rmL (kk + 1) 0 0) s m args below meth c H locs 0 0 (MQ below (va_Qv post (fun u t => WC Γ YM M ad u t) (AA Γ)) args s 0 0 (AA Γ)) (F0 m 79 ls []) := by
  have hx := hc.1
  have hb := hc.2.1
  unfold w_X7_one_79 at h
  refine lv_aload_n hx hb dX7_one_79 rfl (lv_at hl 0 rfl) ?_
  refine g_Vi (Y := YM) (ci := 7) (n := 0) (k := 3) (As := []) (rest := []) rfl (by decide) vw_X7_174 ⟨by simp only [rmL]; omega, by simp only [rmL]; omega, Nat.zero_le _, Nat.zero_le _⟩ hc hw hl.1 (Nat.lt_of_lt_of_le (by decide) hM) rfl (m_X7_opens l hM σ h) rfl rfl (Nat.le_of_ble_eq_true rfl) dX7_one_80 (fun r2 σ1 H locs h hw => ?_)
  refine lv_if_ne (tgt := 87) hx hb dX7_one_83 (by decide) (fun c3 => ?_) (fun c3 => ?_)
  · replace h := h.2 c3
    refine lv_iload_n hx hb dX7_one_87 rfl (lv_at hl 1 rfl) ?_
    refine lv_if_eq (tgt := 112) hx hb dX7_one_88 (by decide) (fun c4 => ?_) (fun c4 => ?_)
    · replace h := h.1 c4
      refine lv_aload_n hx hb dX7_one_112 rfl (lv_at hl 0 rfl) ?_
      refine g_Vv (Y := YM) (ci := 7) (n := 0) (k := kk) (As := []) (rest := []) rfl (by decide) vw_X7_181 ⟨by simp only [rmL]; omega, by simp only [rmL]; omega, Nat.zero_le _, Nat.zero_le _⟩ hc hw hl.1 (Nat.lt_of_lt_of_le (by decide) hM) rfl (hrec_either _ σ1 h) rfl rfl (Nat.le_of_ble_eq_true rfl) dX7_one_113 (fun σ5 H locs h hw => ?_)
      refine lv_aload_n hx hb dX7_one_116 rfl (lv_at hl 0 rfl) ?_
      refine lv_bipush (v := 41) hx hb dX7_one_117 (by decide) ?_
      refine g_Vi (Y := YM) (ci := 7) (n := 1) (k := 0) (As := [.int 41]) (rest := []) rfl (by decide) vw_X7_171 ⟨by simp only [rmL]; omega, by simp only [rmL]; omega, Nat.zero_le _, Nat.zero_le _⟩ hc hw hl.1 (Nat.lt_of_lt_of_le (by decide) hM) rfl (m_X7_isSign l hM 41 σ5 h) rfl rfl (Nat.le_of_ble_eq_true rfl) dX7_one_119 (fun r7 σ6 H locs h hw => ?_)
      refine lv_if_ne (tgt := 130) hx hb dX7_one_122 (by decide) (fun c8 => ?_) (fun c8 => ?_)
      · replace h := h.2 c8
        refine lv_aload_n hx hb dX7_one_130 rfl (lv_at hl 0 rfl) ?_
        refine lv_dup hx hb dX7_one_131 rfl ?_
        refine fg_X7_158 hc hw (Nat.lt_of_lt_of_le (by decide) hM) rfl dX7_one_132 ?_
        refine lv_iconst (v := 1) hx hb dX7_one_135 (by decide) ?_
        refine lv_isub hx hb dX7_one_136 ?_
        refine fp_X7_158 (o := 0) hc hw (Nat.lt_of_lt_of_le (by decide) hM) rfl dX7_one_137 (fun σ9 H locs eσ9 hw => ?_)
        replace h := h σ9 eσ9
        refine lv_aload_n hx hb dX7_one_140 rfl (lv_at hl 0 rfl) ?_
        refine g_Vv (Y := YM) (ci := 7) (n := 0) (k := 2) (As := []) (rest := []) rfl (by decide) vw_X7_164 ⟨by simp only [rmL]; omega, by simp only [rmL]; omega, Nat.zero_le _, Nat.zero_le _⟩ hc hw hl.1 (Nat.lt_of_lt_of_le (by decide) hM) rfl (m_X7_next l hM σ9 h) rfl rfl (Nat.le_of_ble_eq_true rfl) dX7_one_141 (fun σ10 H locs h hw => ?_)
        exact g_vret hc hr hw h dX7_one_144
      · replace h := h.1 c8
        refine lv_aload_n hx hb dX7_one_125 rfl (lv_at hl 0 rfl) ?_
        refine g_Vv (Y := YM) (ci := 7) (n := 0) (k := 0) (As := []) (rest := []) rfl (by decide) vw_X7_161 ⟨by simp only [rmL]; omega, by simp only [rmL]; omega, Nat.zero_le _, Nat.zero_le _⟩ hc hw hl.1 (Nat.lt_of_lt_of_le (by decide) hM) rfl (m_X7_wrong l hM σ6 h) rfl rfl (Nat.le_of_ble_eq_true rfl) dX7_one_126 (fun σ11 H locs h hw => ?_)
        exact g_vret hc hr hw h dX7_one_129
    · replace h := h.2 c4
      refine lv_aload_n hx hb dX7_one_91 rfl (lv_at hl 0 rfl) ?_
      refine g_Vv (Y := YM) (ci := 7) (n := 0) (k := kk) (As := []) (rest := []) rfl (by decide) vw_X7_178 ⟨by simp only [rmL]; omega, by simp only [rmL]; omega, Nat.zero_le _, Nat.zero_le _⟩ hc hw hl.1 (Nat.lt_of_lt_of_le (by decide) hM) rfl (hrec_one _ σ1 h) rfl rfl (Nat.le_of_ble_eq_true rfl) dX7_one_92 (fun σ12 H locs h hw => ?_)
      refine lv_aload_n hx hb dX7_one_95 rfl (lv_at hl 0 rfl) ?_
      refine lv_bipush (v := (-100)) hx hb dX7_one_96 (by decide) ?_
      refine g_Vv (Y := YM) (ci := 7) (n := 1) (k := 0) (As := [.int (-100)]) (rest := []) rfl (by decide) vw_X7_167 ⟨by simp only [rmL]; omega, by simp only [rmL]; omega, Nat.zero_le _, Nat.zero_le _⟩ hc hw hl.1 (Nat.lt_of_lt_of_le (by decide) hM) rfl (m_X7_adds l hM (-100) σ12 h) rfl rfl (Nat.le_of_ble_eq_true rfl) dX7_one_98 (fun σ13 H locs h hw => ?_)
      refine lv_aload_n hx hb dX7_one_101 rfl (lv_at hl 0 rfl) ?_
      refine lv_dup hx hb dX7_one_102 rfl ?_
      refine fg_X7_158 hc hw (Nat.lt_of_lt_of_le (by decide) hM) rfl dX7_one_103 ?_
      refine lv_iconst (v := 1) hx hb dX7_one_106 (by decide) ?_
      refine lv_isub hx hb dX7_one_107 ?_
      refine fp_X7_158 (o := 0) hc hw (Nat.lt_of_lt_of_le (by decide) hM) rfl dX7_one_108 (fun σ14 H locs eσ14 hw => ?_)
      replace h := h σ14 eσ14
      exact g_vret hc hr hw h dX7_one_111
  · replace h := h.1 c3
    exact g_vret hc hr hw h dX7_one_86
def w_X7_one (rec : Nat → (St → Prop) → St → Prop) (M : Nat) (post : St → Prop)  (σ : St) : Prop :=
  ((gi σ 0 16) = 0 → (((gi σ 0 13) = 1 → (w_X7_one_24 rec M post  σ)) ∧ (¬ ((gi σ 0 13) = 1) → (((gi σ 0 13) = 2 → (w_X7_one_24 rec M post  σ)) ∧ (¬ ((gi σ 0 13) = 2) → (w_X7_isSign M (fun r5 σ4 => ((r5 = 0 → (w_X7_isSign M (fun r8 σ7 => ((r8 = 0 → (w_X7_wrong M (fun σ10 => (post σ10)) σ7)) ∧ (¬ (r8 = 0) → (w_X7_one_79 rec M post r5 σ7)))) 40 σ4)) ∧ (¬ (r5 = 0) → (w_X7_one_79 rec M post r5 σ4)))) 45 σ)))))) ∧ (¬ ((gi σ 0 16) = 0) → (post σ))
set_option maxHeartbeats 4000000 in
set_option maxRecDepth 20000 in
theorem m_X7_one {Γ : Gm} {ad : Nat → Nat} {kk : Nat} {rec : Nat → (St → Prop) → St → Prop} {M : Nat} (l : Launch) (hM : 20 ≤ M) (hkk : 40 ≤ kk) {post : St → Prop} (hrec_one : ∀ (post : St → Prop) (σ : St), rec 0 post σ → Cv l Γ YM M ad σ yX7_one cX7_one 2 none kk 0 0 [.ref (ad 0)] post) (hrec_either : ∀ (post : St → Prop) (σ : St), rec 5 post σ → Cv l Γ YM M ad σ yX7_either cX7_either 1 none kk 0 0 [.ref (ad 0)] post)  (σ : St) (h : w_X7_one rec M post  σ) : Cv l Γ YM M ad σ yX7_one cX7_one 2 none (kk + 1) 0 0 [.ref (ad 0)] post := by
  refine g_start (by decide) (Nat.le_of_ble_eq_true rfl) ?_
  intro p e s m args below meth c ls hc hr hn hl hw
  have hc : CX Γ p s m args meth c cX7_one RX7 2 := hc
  have hl : lv_has ls 2 [(0, .ref (ad 0))] := hl
  have hx := hc.1
  have hb := hc.2.1
  unfold w_X7_one at h
  generalize hHH : s.heap = H0 at hw ⊢
  refine lv_aload_n hx hb dX7_one_0 rfl (lv_at hl 0 rfl) ?_
  refine fg_X7_148 hc hw (Nat.lt_of_lt_of_le (by decide) hM) rfl dX7_one_1 ?_
  refine lv_if_eq (tgt := 8) hx hb dX7_one_4 (by decide) (fun c1 => ?_) (fun c1 => ?_)
  · replace h := h.1 c1
    refine lv_aload_n hx hb dX7_one_8 rfl (lv_at hl 0 rfl) ?_
    refine fg_X7_129 hc hw (Nat.lt_of_lt_of_le (by decide) hM) rfl dX7_one_9 ?_
    refine lv_iconst (v := 1) hx hb dX7_one_12 (by decide) ?_
    refine lv_icmp_eq (tgt := 24) hx hb dX7_one_13 (by decide) (fun c2 => ?_) (fun c2 => ?_)
    · replace h := h.1 c2
      exact b_X7_one_24 hM hkk hrec_one hrec_either  σ _ _ _ h  hc hr hw (lv_sub hl [0] rfl)
    · replace h := h.2 c2
      refine lv_aload_n hx hb dX7_one_16 rfl (lv_at hl 0 rfl) ?_
      refine fg_X7_129 hc hw (Nat.lt_of_lt_of_le (by decide) hM) rfl dX7_one_17 ?_
      refine lv_iconst (v := 2) hx hb dX7_one_20 (by decide) ?_
      refine lv_icmp_ne (tgt := 54) hx hb dX7_one_21 (by decide) (fun c3 => ?_) (fun c3 => ?_)
      · replace h := h.2 c3
        refine lv_aload_n hx hb dX7_one_54 rfl (lv_at hl 0 rfl) ?_
        refine lv_bipush (v := 45) hx hb dX7_one_55 (by decide) ?_
        refine g_Vi (Y := YM) (ci := 7) (n := 1) (k := 0) (As := [.int 45]) (rest := []) rfl (by decide) vw_X7_171 ⟨by simp only [rmL]; omega, by simp only [rmL]; omega, Nat.zero_le _, Nat.zero_le _⟩ hc hw hl.1 (Nat.lt_of_lt_of_le (by decide) hM) rfl (m_X7_isSign l hM 45 σ h) rfl rfl (Nat.le_of_ble_eq_true rfl) dX7_one_57 (fun r5 σ4 H locs h hw => ?_)
        refine lv_istore_n (lv' := [(1, .int r5), (0, .ref (ad 0))]) hx hb dX7_one_60 rfl hl (by decide) rfl (fun ls hl => ?_)
        refine lv_iload_n hx hb dX7_one_61 rfl (lv_at hl 0 rfl) ?_
        refine lv_if_ne (tgt := 79) hx hb dX7_one_62 (by decide) (fun c6 => ?_) (fun c6 => ?_)
        · replace h := h.2 c6
          exact b_X7_one_79 hM hkk hrec_one hrec_either r5 σ4 _ _ _ h  hc hr hw (lv_sub hl [1, 0] rfl)
        · replace h := h.1 c6
          refine lv_aload_n hx hb dX7_one_65 rfl (lv_at hl 1 rfl) ?_
          refine lv_bipush (v := 40) hx hb dX7_one_66 (by decide) ?_
          refine g_Vi (Y := YM) (ci := 7) (n := 1) (k := 0) (As := [.int 40]) (rest := []) rfl (by decide) vw_X7_171 ⟨by simp only [rmL]; omega, by simp only [rmL]; omega, Nat.zero_le _, Nat.zero_le _⟩ hc hw hl.1 (Nat.lt_of_lt_of_le (by decide) hM) rfl (m_X7_isSign l hM 40 σ4 h) rfl rfl (Nat.le_of_ble_eq_true rfl) dX7_one_68 (fun r8 σ7 H locs h hw => ?_)
          refine lv_if_ne (tgt := 79) hx hb dX7_one_71 (by decide) (fun c9 => ?_) (fun c9 => ?_)
          · replace h := h.2 c9
            exact b_X7_one_79 hM hkk hrec_one hrec_either r5 σ7 _ _ _ h  hc hr hw (lv_sub hl [1, 0] rfl)
          · replace h := h.1 c9
            refine lv_aload_n hx hb dX7_one_74 rfl (lv_at hl 1 rfl) ?_
            refine g_Vv (Y := YM) (ci := 7) (n := 0) (k := 0) (As := []) (rest := []) rfl (by decide) vw_X7_161 ⟨by simp only [rmL]; omega, by simp only [rmL]; omega, Nat.zero_le _, Nat.zero_le _⟩ hc hw hl.1 (Nat.lt_of_lt_of_le (by decide) hM) rfl (m_X7_wrong l hM σ7 h) rfl rfl (Nat.le_of_ble_eq_true rfl) dX7_one_75 (fun σ10 H locs h hw => ?_)
            exact g_vret hc hr hw h dX7_one_78
      · replace h := h.1 c3
        exact b_X7_one_24 hM hkk hrec_one hrec_either  σ _ _ _ h  hc hr hw (lv_sub hl [0] rfl)
  · replace h := h.2 c1
    exact g_vret hc hr hw h dX7_one_7
def w_X7_term_4 (rec : Nat → (St → Prop) → St → Prop) (M : Nat) (post : St → Prop) (k_4 : St → Prop)  (σ : St) : Prop :=
  w_X7_isSign M (fun r2 σ1 => ((r2 = 0 → (post σ1)) ∧ (¬ (r2 = 0) → (w_X7_next M (fun σ4 => (rec 0 (fun σ5 => (w_X7_adds M (fun σ6 => (k_4  σ6)) (-142) σ5)) σ4)) σ1)))) 42 σ
set_option maxHeartbeats 4000000 in
set_option maxRecDepth 20000 in
theorem b_X7_term_4 {Γ : Gm} {ad : Nat → Nat} {p : Program} {l : Launch} {e : Env} {s : State} {m : MethodId} {args : Array Value} {below : List Frame} {meth : Method} {c : Code} {kk : Nat} {rec : Nat → (St → Prop) → St → Prop} {M : Nat} (hM : 20 ≤ M) (hkk : 40 ≤ kk) {post : St → Prop} {k_4 : St → Prop} (hrec_one : ∀ (post : St → Prop) (σ : St), rec 0 post σ → Cv l Γ YM M ad σ yX7_one cX7_one 2 none kk 0 0 [.ref (ad 0)] post) (hk_4 : ∀  (σ : St) (H : Heap) (locs : List Loc) (ls : Array Slot), k_4  σ → WH Γ YM M ad σ s H locs → lv_has ls 1 [(0, .ref (ad 0))] → W p l e (rmL (kk + 1) 0 0) s m args below meth c H locs 0 0 (MQ below (va_Qv post (fun u t => WC Γ YM M ad u t) (AA Γ)) args s 0 0 (AA Γ)) (F0 m 4 ls []))
     (σ : St) (H : Heap) (locs : List Loc) (ls : Array Slot) (h : w_X7_term_4 rec M post k_4  σ) (hc : CX Γ p s m args meth c cX7_term RX7 1) (hr : meth.sig.returnType = none) (hw : WH Γ YM M ad σ s H locs) (hl : lv_has ls 1 [(0, .ref (ad 0))]) :
    W p l e (rmL (kk + 1) 0 0) s m args below meth c H locs 0 0 (MQ below (va_Qv post (fun u t => WC Γ YM M ad u t) (AA Γ)) args s 0 0 (AA Γ)) (F0 m 4 ls []) := by
  have hx := hc.1
  have hb := hc.2.1
  unfold w_X7_term_4 at h
  refine lv_aload_n hx hb dX7_term_4 rfl (lv_at hl 0 rfl) ?_
  refine lv_bipush (v := 42) hx hb dX7_term_5 (by decide) ?_
  refine g_Vi (Y := YM) (ci := 7) (n := 1) (k := 0) (As := [.int 42]) (rest := []) rfl (by decide) vw_X7_171 ⟨by simp only [rmL]; omega, by simp only [rmL]; omega, Nat.zero_le _, Nat.zero_le _⟩ hc hw hl.1 (Nat.lt_of_lt_of_le (by decide) hM) rfl (m_X7_isSign l hM 42 σ h) rfl rfl (Nat.le_of_ble_eq_true rfl) dX7_term_7 (fun r2 σ1 H locs h hw => ?_)
  refine lv_if_eq (tgt := 31) hx hb dX7_term_10 (by decide) (fun c3 => ?_) (fun c3 => ?_)
  · replace h := h.1 c3
    exact g_vret hc hr hw h dX7_term_31
  · replace h := h.2 c3
    refine lv_aload_n hx hb dX7_term_13 rfl (lv_at hl 0 rfl) ?_
    refine g_Vv (Y := YM) (ci := 7) (n := 0) (k := 2) (As := []) (rest := []) rfl (by decide) vw_X7_164 ⟨by simp only [rmL]; omega, by simp only [rmL]; omega, Nat.zero_le _, Nat.zero_le _⟩ hc hw hl.1 (Nat.lt_of_lt_of_le (by decide) hM) rfl (m_X7_next l hM σ1 h) rfl rfl (Nat.le_of_ble_eq_true rfl) dX7_term_14 (fun σ4 H locs h hw => ?_)
    refine lv_aload_n hx hb dX7_term_17 rfl (lv_at hl 0 rfl) ?_
    refine g_Vv (Y := YM) (ci := 7) (n := 0) (k := kk) (As := []) (rest := []) rfl (by decide) vw_X7_178 ⟨by simp only [rmL]; omega, by simp only [rmL]; omega, Nat.zero_le _, Nat.zero_le _⟩ hc hw hl.1 (Nat.lt_of_lt_of_le (by decide) hM) rfl (hrec_one _ σ4 h) rfl rfl (Nat.le_of_ble_eq_true rfl) dX7_term_18 (fun σ5 H locs h hw => ?_)
    refine lv_aload_n hx hb dX7_term_21 rfl (lv_at hl 0 rfl) ?_
    refine lv_sipush (v := (-142)) hx hb dX7_term_22 (by decide) ?_
    refine g_Vv (Y := YM) (ci := 7) (n := 1) (k := 0) (As := [.int (-142)]) (rest := []) rfl (by decide) vw_X7_167 ⟨by simp only [rmL]; omega, by simp only [rmL]; omega, Nat.zero_le _, Nat.zero_le _⟩ hc hw hl.1 (Nat.lt_of_lt_of_le (by decide) hM) rfl (m_X7_adds l hM (-142) σ5 h) rfl rfl (Nat.le_of_ble_eq_true rfl) dX7_term_25 (fun σ6 H locs h hw => ?_)
    refine lv_goto (tgt := 4) hx hb dX7_term_28 (by decide) ?_
    exact hk_4  σ6 _ _ _ h  hw (lv_sub hl [0] rfl)
def wl_X7_term_4 (rec : Nat → (St → Prop) → St → Prop) (M : Nat) (post : St → Prop) : Nat → St → Prop
  | 0, _ => False
  | n + 1, σ => w_X7_term_4 rec M post (wl_X7_term_4 rec M post n)  σ
set_option maxHeartbeats 4000000 in
theorem bl_X7_term_4 {Γ : Gm} {ad : Nat → Nat} {p : Program} {l : Launch} {e : Env} {s : State} {m : MethodId} {args : Array Value} {below : List Frame} {meth : Method} {c : Code} {kk : Nat} {rec : Nat → (St → Prop) → St → Prop} {M : Nat} (hM : 20 ≤ M) (hkk : 40 ≤ kk) {post : St → Prop} (hrec_one : ∀ (post : St → Prop) (σ : St), rec 0 post σ → Cv l Γ YM M ad σ yX7_one cX7_one 2 none kk 0 0 [.ref (ad 0)] post)
    (hc : CX Γ p s m args meth c cX7_term RX7 1) (hr : meth.sig.returnType = none) :
    ∀ (n : Nat)  (σ : St) (H : Heap) (locs : List Loc) (ls : Array Slot), wl_X7_term_4 rec M post n  σ → WH Γ YM M ad σ s H locs → lv_has ls 1 [(0, .ref (ad 0))] → W p l e (rmL (kk + 1) 0 0) s m args below meth c H locs 0 0 (MQ below (va_Qv post (fun u t => WC Γ YM M ad u t) (AA Γ)) args s 0 0 (AA Γ)) (F0 m 4 ls []) := by
  intro n
  induction n with
  | zero => intro  σ H locs ls h; exact h.elim
  | succ n ih =>
    intro  σ H locs ls h  hw hl
    exact b_X7_term_4 hM hkk hrec_one ih  σ H locs ls h  hc hr hw hl
def w_X7_term (rec : Nat → (St → Prop) → St → Prop) (M : Nat) (post : St → Prop)  (σ : St) : Prop :=
  rec 0 (fun σ1 => (∃ n, wl_X7_term_4 rec M post n  σ1)) σ
set_option maxHeartbeats 4000000 in
set_option maxRecDepth 20000 in
theorem m_X7_term {Γ : Gm} {ad : Nat → Nat} {kk : Nat} {rec : Nat → (St → Prop) → St → Prop} {M : Nat} (l : Launch) (hM : 20 ≤ M) (hkk : 40 ≤ kk) {post : St → Prop} (hrec_one : ∀ (post : St → Prop) (σ : St), rec 0 post σ → Cv l Γ YM M ad σ yX7_one cX7_one 2 none kk 0 0 [.ref (ad 0)] post)  (σ : St) (h : w_X7_term rec M post  σ) : Cv l Γ YM M ad σ yX7_term cX7_term 1 none (kk + 1) 0 0 [.ref (ad 0)] post := by
  refine g_start (by decide) (Nat.le_of_ble_eq_true rfl) ?_
  intro p e s m args below meth c ls hc hr hn hl hw
  have hc : CX Γ p s m args meth c cX7_term RX7 1 := hc
  have hl : lv_has ls 1 [(0, .ref (ad 0))] := hl
  have hx := hc.1
  have hb := hc.2.1
  unfold w_X7_term at h
  generalize hHH : s.heap = H0 at hw ⊢
  refine lv_aload_n hx hb dX7_term_0 rfl (lv_at hl 0 rfl) ?_
  refine g_Vv (Y := YM) (ci := 7) (n := 0) (k := kk) (As := []) (rest := []) rfl (by decide) vw_X7_178 ⟨by simp only [rmL]; omega, by simp only [rmL]; omega, Nat.zero_le _, Nat.zero_le _⟩ hc hw hl.1 (Nat.lt_of_lt_of_le (by decide) hM) rfl (hrec_one _ σ h) rfl rfl (Nat.le_of_ble_eq_true rfl) dX7_term_1 (fun σ1 H locs h hw => ?_)
  obtain ⟨n, h⟩ := h
  exact bl_X7_term_4 hM hkk hrec_one hc hr n  σ1 _ _ _ h  hw (lv_sub hl [0] rfl)
def w_X7_sum_22 (rec : Nat → (St → Prop) → St → Prop) (M : Nat) (post : St → Prop) (k_4 : St → Prop)  (σ : St) : Prop :=
  w_X7_next M (fun σ1 => (rec 1 (fun σ2 => (w_X7_adds M (fun σ3 => (k_4  σ3)) ((-100) - (gi σ 0 14)) σ2)) σ1)) σ
set_option maxHeartbeats 4000000 in
set_option maxRecDepth 20000 in
theorem b_X7_sum_22 {Γ : Gm} {ad : Nat → Nat} {p : Program} {l : Launch} {e : Env} {s : State} {m : MethodId} {args : Array Value} {below : List Frame} {meth : Method} {c : Code} {kk : Nat} {rec : Nat → (St → Prop) → St → Prop} {M : Nat} (hM : 20 ≤ M) (hkk : 40 ≤ kk) {post : St → Prop} {k_4 : St → Prop} (hrec_term : ∀ (post : St → Prop) (σ : St), rec 1 post σ → Cv l Γ YM M ad σ yX7_term cX7_term 1 none kk 0 0 [.ref (ad 0)] post) (hk_4 : ∀  (σ : St) (H : Heap) (locs : List Loc) (ls : Array Slot), k_4  σ → WH Γ YM M ad σ s H locs → lv_has ls 2 [(0, .ref (ad 0))] → W p l e (rmL (kk + 1) 0 0) s m args below meth c H locs 0 0 (MQ below (va_Qv post (fun u t => WC Γ YM M ad u t) (AA Γ)) args s 0 0 (AA Γ)) (F0 m 4 ls []))
     (σ : St) (H : Heap) (locs : List Loc) (ls : Array Slot) (h : w_X7_sum_22 rec M post k_4  σ) (hc : CX Γ p s m args meth c cX7_sum RX7 2) (hr : meth.sig.returnType = none) (hw : WH Γ YM M ad σ s H locs) (hl : lv_has ls 2 [(0, .ref (ad 0))]) :
    W p l e (rmL (kk + 1) 0 0) s m args below meth c H locs 0 0 (MQ below (va_Qv post (fun u t => WC Γ YM M ad u t) (AA Γ)) args s 0 0 (AA Γ)) (F0 m 22 ls []) := by
  have hx := hc.1
  have hb := hc.2.1
  unfold w_X7_sum_22 at h
  refine lv_aload_n hx hb dX7_sum_22 rfl (lv_at hl 0 rfl) ?_
  refine fg_X7_139 hc hw (Nat.lt_of_lt_of_le (by decide) hM) rfl dX7_sum_23 ?_
  refine lv_istore_n (lv' := [(1, .int (gi σ 0 14)), (0, .ref (ad 0))]) hx hb dX7_sum_26 rfl hl (by decide) rfl (fun ls hl => ?_)
  refine lv_aload_n hx hb dX7_sum_27 rfl (lv_at hl 1 rfl) ?_
  refine g_Vv (Y := YM) (ci := 7) (n := 0) (k := 2) (As := []) (rest := []) rfl (by decide) vw_X7_164 ⟨by simp only [rmL]; omega, by simp only [rmL]; omega, Nat.zero_le _, Nat.zero_le _⟩ hc hw hl.1 (Nat.lt_of_lt_of_le (by decide) hM) rfl (m_X7_next l hM σ h) rfl rfl (Nat.le_of_ble_eq_true rfl) dX7_sum_28 (fun σ1 H locs h hw => ?_)
  refine lv_aload_n hx hb dX7_sum_31 rfl (lv_at hl 1 rfl) ?_
  refine g_Vv (Y := YM) (ci := 7) (n := 0) (k := kk) (As := []) (rest := []) rfl (by decide) vw_X7_184 ⟨by simp only [rmL]; omega, by simp only [rmL]; omega, Nat.zero_le _, Nat.zero_le _⟩ hc hw hl.1 (Nat.lt_of_lt_of_le (by decide) hM) rfl (hrec_term _ σ1 h) rfl rfl (Nat.le_of_ble_eq_true rfl) dX7_sum_32 (fun σ2 H locs h hw => ?_)
  refine lv_aload_n hx hb dX7_sum_35 rfl (lv_at hl 1 rfl) ?_
  refine lv_bipush (v := (-100)) hx hb dX7_sum_36 (by decide) ?_
  refine lv_iload_n hx hb dX7_sum_38 rfl (lv_at hl 0 rfl) ?_
  refine lv_isub hx hb dX7_sum_39 ?_
  refine g_Vv (Y := YM) (ci := 7) (n := 1) (k := 0) (As := [.int ((-100) - (gi σ 0 14))]) (rest := []) rfl (by decide) vw_X7_167 ⟨by simp only [rmL]; omega, by simp only [rmL]; omega, Nat.zero_le _, Nat.zero_le _⟩ hc hw hl.1 (Nat.lt_of_lt_of_le (by decide) hM) rfl (m_X7_adds l hM ((-100) - (gi σ 0 14)) σ2 h) rfl rfl (Nat.le_of_ble_eq_true rfl) dX7_sum_40 (fun σ3 H locs h hw => ?_)
  refine lv_goto (tgt := 4) hx hb dX7_sum_43 (by decide) ?_
  exact hk_4  σ3 _ _ _ h  hw (lv_sub hl [1] rfl)
def w_X7_sum_4 (rec : Nat → (St → Prop) → St → Prop) (M : Nat) (post : St → Prop) (k_4 : St → Prop)  (σ : St) : Prop :=
  w_X7_isSign M (fun r2 σ1 => ((r2 = 0 → (w_X7_isSign M (fun r5 σ4 => ((r5 = 0 → (post σ4)) ∧ (¬ (r5 = 0) → (w_X7_sum_22 rec M post k_4  σ4)))) 45 σ1)) ∧ (¬ (r2 = 0) → (w_X7_sum_22 rec M post k_4  σ1)))) 43 σ
set_option maxHeartbeats 4000000 in
set_option maxRecDepth 20000 in
theorem b_X7_sum_4 {Γ : Gm} {ad : Nat → Nat} {p : Program} {l : Launch} {e : Env} {s : State} {m : MethodId} {args : Array Value} {below : List Frame} {meth : Method} {c : Code} {kk : Nat} {rec : Nat → (St → Prop) → St → Prop} {M : Nat} (hM : 20 ≤ M) (hkk : 40 ≤ kk) {post : St → Prop} {k_4 : St → Prop} (hrec_term : ∀ (post : St → Prop) (σ : St), rec 1 post σ → Cv l Γ YM M ad σ yX7_term cX7_term 1 none kk 0 0 [.ref (ad 0)] post) (hk_4 : ∀  (σ : St) (H : Heap) (locs : List Loc) (ls : Array Slot), k_4  σ → WH Γ YM M ad σ s H locs → lv_has ls 2 [(0, .ref (ad 0))] → W p l e (rmL (kk + 1) 0 0) s m args below meth c H locs 0 0 (MQ below (va_Qv post (fun u t => WC Γ YM M ad u t) (AA Γ)) args s 0 0 (AA Γ)) (F0 m 4 ls []))
     (σ : St) (H : Heap) (locs : List Loc) (ls : Array Slot) (h : w_X7_sum_4 rec M post k_4  σ) (hc : CX Γ p s m args meth c cX7_sum RX7 2) (hr : meth.sig.returnType = none) (hw : WH Γ YM M ad σ s H locs) (hl : lv_has ls 2 [(0, .ref (ad 0))]) :
    W p l e (rmL (kk + 1) 0 0) s m args below meth c H locs 0 0 (MQ below (va_Qv post (fun u t => WC Γ YM M ad u t) (AA Γ)) args s 0 0 (AA Γ)) (F0 m 4 ls []) := by
  have hx := hc.1
  have hb := hc.2.1
  unfold w_X7_sum_4 at h
  refine lv_aload_n hx hb dX7_sum_4 rfl (lv_at hl 0 rfl) ?_
  refine lv_bipush (v := 43) hx hb dX7_sum_5 (by decide) ?_
  refine g_Vi (Y := YM) (ci := 7) (n := 1) (k := 0) (As := [.int 43]) (rest := []) rfl (by decide) vw_X7_171 ⟨by simp only [rmL]; omega, by simp only [rmL]; omega, Nat.zero_le _, Nat.zero_le _⟩ hc hw hl.1 (Nat.lt_of_lt_of_le (by decide) hM) rfl (m_X7_isSign l hM 43 σ h) rfl rfl (Nat.le_of_ble_eq_true rfl) dX7_sum_7 (fun r2 σ1 H locs h hw => ?_)
  refine lv_if_ne (tgt := 22) hx hb dX7_sum_10 (by decide) (fun c3 => ?_) (fun c3 => ?_)
  · replace h := h.2 c3
    exact b_X7_sum_22 hM hkk hrec_term hk_4  σ1 _ _ _ h  hc hr hw (lv_sub hl [0] rfl)
  · replace h := h.1 c3
    refine lv_aload_n hx hb dX7_sum_13 rfl (lv_at hl 0 rfl) ?_
    refine lv_bipush (v := 45) hx hb dX7_sum_14 (by decide) ?_
    refine g_Vi (Y := YM) (ci := 7) (n := 1) (k := 0) (As := [.int 45]) (rest := []) rfl (by decide) vw_X7_171 ⟨by simp only [rmL]; omega, by simp only [rmL]; omega, Nat.zero_le _, Nat.zero_le _⟩ hc hw hl.1 (Nat.lt_of_lt_of_le (by decide) hM) rfl (m_X7_isSign l hM 45 σ1 h) rfl rfl (Nat.le_of_ble_eq_true rfl) dX7_sum_16 (fun r5 σ4 H locs h hw => ?_)
    refine lv_if_eq (tgt := 46) hx hb dX7_sum_19 (by decide) (fun c6 => ?_) (fun c6 => ?_)
    · replace h := h.1 c6
      exact g_vret hc hr hw h dX7_sum_46
    · replace h := h.2 c6
      exact b_X7_sum_22 hM hkk hrec_term hk_4  σ4 _ _ _ h  hc hr hw (lv_sub hl [0] rfl)
def wl_X7_sum_4 (rec : Nat → (St → Prop) → St → Prop) (M : Nat) (post : St → Prop) : Nat → St → Prop
  | 0, _ => False
  | n + 1, σ => w_X7_sum_4 rec M post (wl_X7_sum_4 rec M post n)  σ
set_option maxHeartbeats 4000000 in
theorem bl_X7_sum_4 {Γ : Gm} {ad : Nat → Nat} {p : Program} {l : Launch} {e : Env} {s : State} {m : MethodId} {args : Array Value} {below : List Frame} {meth : Method} {c : Code} {kk : Nat} {rec : Nat → (St → Prop) → St → Prop} {M : Nat} (hM : 20 ≤ M) (hkk : 40 ≤ kk) {post : St → Prop} (hrec_term : ∀ (post : St → Prop) (σ : St), rec 1 post σ → Cv l Γ YM M ad σ yX7_term cX7_term 1 none kk 0 0 [.ref (ad 0)] post)
    (hc : CX Γ p s m args meth c cX7_sum RX7 2) (hr : meth.sig.returnType = none) :
    ∀ (n : Nat)  (σ : St) (H : Heap) (locs : List Loc) (ls : Array Slot), wl_X7_sum_4 rec M post n  σ → WH Γ YM M ad σ s H locs → lv_has ls 2 [(0, .ref (ad 0))] → W p l e (rmL (kk + 1) 0 0) s m args below meth c H locs 0 0 (MQ below (va_Qv post (fun u t => WC Γ YM M ad u t) (AA Γ)) args s 0 0 (AA Γ)) (F0 m 4 ls []) := by
  intro n
  induction n with
  | zero => intro  σ H locs ls h; exact h.elim
  | succ n ih =>
    intro  σ H locs ls h  hw hl
    exact b_X7_sum_4 hM hkk hrec_term ih  σ H locs ls h  hc hr hw hl
def w_X7_sum (rec : Nat → (St → Prop) → St → Prop) (M : Nat) (post : St → Prop)  (σ : St) : Prop :=
  rec 1 (fun σ1 => (∃ n, wl_X7_sum_4 rec M post n  σ1)) σ
set_option maxHeartbeats 4000000 in
set_option maxRecDepth 20000 in
theorem m_X7_sum {Γ : Gm} {ad : Nat → Nat} {kk : Nat} {rec : Nat → (St → Prop) → St → Prop} {M : Nat} (l : Launch) (hM : 20 ≤ M) (hkk : 40 ≤ kk) {post : St → Prop} (hrec_term : ∀ (post : St → Prop) (σ : St), rec 1 post σ → Cv l Γ YM M ad σ yX7_term cX7_term 1 none kk 0 0 [.ref (ad 0)] post)  (σ : St) (h : w_X7_sum rec M post  σ) : Cv l Γ YM M ad σ yX7_sum cX7_sum 2 none (kk + 1) 0 0 [.ref (ad 0)] post := by
  refine g_start (by decide) (Nat.le_of_ble_eq_true rfl) ?_
  intro p e s m args below meth c ls hc hr hn hl hw
  have hc : CX Γ p s m args meth c cX7_sum RX7 2 := hc
  have hl : lv_has ls 2 [(0, .ref (ad 0))] := hl
  have hx := hc.1
  have hb := hc.2.1
  unfold w_X7_sum at h
  generalize hHH : s.heap = H0 at hw ⊢
  refine lv_aload_n hx hb dX7_sum_0 rfl (lv_at hl 0 rfl) ?_
  refine g_Vv (Y := YM) (ci := 7) (n := 0) (k := kk) (As := []) (rest := []) rfl (by decide) vw_X7_184 ⟨by simp only [rmL]; omega, by simp only [rmL]; omega, Nat.zero_le _, Nat.zero_le _⟩ hc hw hl.1 (Nat.lt_of_lt_of_le (by decide) hM) rfl (hrec_term _ σ h) rfl rfl (Nat.le_of_ble_eq_true rfl) dX7_sum_1 (fun σ1 H locs h hw => ?_)
  obtain ⟨n, h⟩ := h
  exact bl_X7_sum_4 hM hkk hrec_term hc hr n  σ1 _ _ _ h  hw (lv_sub hl [0] rfl)
def w_X7_not_58 (rec : Nat → (St → Prop) → St → Prop) (M : Nat) (post : St → Prop)  (σ : St) : Prop :=
  w_X7_next M (fun σ1 => (rec 2 (fun σ2 => (w_X7_adds M (fun σ3 => (post σ3)) ((-100) - (gi σ 0 14)) σ2)) σ1)) σ
set_option maxHeartbeats 4000000 in
set_option maxRecDepth 20000 in
theorem b_X7_not_58 {Γ : Gm} {ad : Nat → Nat} {p : Program} {l : Launch} {e : Env} {s : State} {m : MethodId} {args : Array Value} {below : List Frame} {meth : Method} {c : Code} {kk : Nat} {rec : Nat → (St → Prop) → St → Prop} {M : Nat} (hM : 20 ≤ M) (hkk : 40 ≤ kk) {post : St → Prop} (hrec_sum : ∀ (post : St → Prop) (σ : St), rec 2 post σ → Cv l Γ YM M ad σ yX7_sum cX7_sum 2 none kk 0 0 [.ref (ad 0)] post) (hrec_not : ∀ (post : St → Prop) (σ : St), rec 3 post σ → Cv l Γ YM M ad σ yX7_not cX7_not 2 none kk 0 0 [.ref (ad 0)] post)
     (σ : St) (H : Heap) (locs : List Loc) (ls : Array Slot) (h : w_X7_not_58 rec M post  σ) (hc : CX Γ p s m args meth c cX7_not RX7 2) (hr : meth.sig.returnType = none) (hw : WH Γ YM M ad σ s H locs) (hl : lv_has ls 2 [(0, .ref (ad 0))]) :
    W p l e (rmL (kk + 1) 0 0) s m args below meth c H locs 0 0 (MQ below (va_Qv post (fun u t => WC Γ YM M ad u t) (AA Γ)) args s 0 0 (AA Γ)) (F0 m 58 ls []) := by
  have hx := hc.1
  have hb := hc.2.1
  unfold w_X7_not_58 at h
  refine lv_aload_n hx hb dX7_not_58 rfl (lv_at hl 0 rfl) ?_
  refine fg_X7_139 hc hw (Nat.lt_of_lt_of_le (by decide) hM) rfl dX7_not_59 ?_
  refine lv_istore_n (lv' := [(1, .int (gi σ 0 14)), (0, .ref (ad 0))]) hx hb dX7_not_62 rfl hl (by decide) rfl (fun ls hl => ?_)
  refine lv_aload_n hx hb dX7_not_63 rfl (lv_at hl 1 rfl) ?_
  refine g_Vv (Y := YM) (ci := 7) (n := 0) (k := 2) (As := []) (rest := []) rfl (by decide) vw_X7_164 ⟨by simp only [rmL]; omega, by simp only [rmL]; omega, Nat.zero_le _, Nat.zero_le _⟩ hc hw hl.1 (Nat.lt_of_lt_of_le (by decide) hM) rfl (m_X7_next l hM σ h) rfl rfl (Nat.le_of_ble_eq_true rfl) dX7_not_64 (fun σ1 H locs h hw => ?_)
  refine lv_aload_n hx hb dX7_not_67 rfl (lv_at hl 1 rfl) ?_
  refine g_Vv (Y := YM) (ci := 7) (n := 0) (k := kk) (As := []) (rest := []) rfl (by decide) vw_X7_193 ⟨by simp only [rmL]; omega, by simp only [rmL]; omega, Nat.zero_le _, Nat.zero_le _⟩ hc hw hl.1 (Nat.lt_of_lt_of_le (by decide) hM) rfl (hrec_sum _ σ1 h) rfl rfl (Nat.le_of_ble_eq_true rfl) dX7_not_68 (fun σ2 H locs h hw => ?_)
  refine lv_aload_n hx hb dX7_not_71 rfl (lv_at hl 1 rfl) ?_
  refine lv_bipush (v := (-100)) hx hb dX7_not_72 (by decide) ?_
  refine lv_iload_n hx hb dX7_not_74 rfl (lv_at hl 0 rfl) ?_
  refine lv_isub hx hb dX7_not_75 ?_
  refine g_Vv (Y := YM) (ci := 7) (n := 1) (k := 0) (As := [.int ((-100) - (gi σ 0 14))]) (rest := []) rfl (by decide) vw_X7_167 ⟨by simp only [rmL]; omega, by simp only [rmL]; omega, Nat.zero_le _, Nat.zero_le _⟩ hc hw hl.1 (Nat.lt_of_lt_of_le (by decide) hM) rfl (m_X7_adds l hM ((-100) - (gi σ 0 14)) σ2 h) rfl rfl (Nat.le_of_ble_eq_true rfl) dX7_not_76 (fun σ3 H locs h hw => ?_)
  exact g_vret hc hr hw h dX7_not_79
def w_X7_not (rec : Nat → (St → Prop) → St → Prop) (M : Nat) (post : St → Prop)  (σ : St) : Prop :=
  w_X7_isKey M (fun r2 σ1 => ((r2 = 0 → (rec 2 (fun σ4 => (w_X7_isSign M (fun r6 σ5 => ((r6 = 0 → (w_X7_isSign M (fun r9 σ8 => ((r9 = 0 → (post σ8)) ∧ (¬ (r9 = 0) → (w_X7_not_58 rec M post  σ8)))) 61 σ5)) ∧ (¬ (r6 = 0) → (w_X7_not_58 rec M post  σ5)))) 60 σ4)) σ1)) ∧ (¬ (r2 = 0) → (w_X7_opens M (fun r12 σ11 => ((r12 = 0 → (post σ11)) ∧ (¬ (r12 = 0) → (rec 3 (fun σ14 => (w_X7_adds M (fun σ15 => (∀ σ16 : St, σ16 = si σ15 0 15 ((gi σ15 0 15) - 1) → (post σ16))) (-101) σ14)) σ11)))) σ1)))) 5 σ
set_option maxHeartbeats 4000000 in
set_option maxRecDepth 20000 in
theorem m_X7_not {Γ : Gm} {ad : Nat → Nat} {kk : Nat} {rec : Nat → (St → Prop) → St → Prop} {M : Nat} (l : Launch) (hM : 20 ≤ M) (hkk : 40 ≤ kk) {post : St → Prop} (hrec_sum : ∀ (post : St → Prop) (σ : St), rec 2 post σ → Cv l Γ YM M ad σ yX7_sum cX7_sum 2 none kk 0 0 [.ref (ad 0)] post) (hrec_not : ∀ (post : St → Prop) (σ : St), rec 3 post σ → Cv l Γ YM M ad σ yX7_not cX7_not 2 none kk 0 0 [.ref (ad 0)] post)  (σ : St) (h : w_X7_not rec M post  σ) : Cv l Γ YM M ad σ yX7_not cX7_not 2 none (kk + 1) 0 0 [.ref (ad 0)] post := by
  refine g_start (by decide) (Nat.le_of_ble_eq_true rfl) ?_
  intro p e s m args below meth c ls hc hr hn hl hw
  have hc : CX Γ p s m args meth c cX7_not RX7 2 := hc
  have hl : lv_has ls 2 [(0, .ref (ad 0))] := hl
  have hx := hc.1
  have hb := hc.2.1
  unfold w_X7_not at h
  generalize hHH : s.heap = H0 at hw ⊢
  refine lv_aload_n hx hb dX7_not_0 rfl (lv_at hl 0 rfl) ?_
  refine lv_iconst (v := 5) hx hb dX7_not_1 (by decide) ?_
  refine g_Vi (Y := YM) (ci := 7) (n := 1) (k := 0) (As := [.int 5]) (rest := []) rfl (by decide) vw_X7_187 ⟨by simp only [rmL]; omega, by simp only [rmL]; omega, Nat.zero_le _, Nat.zero_le _⟩ hc hw hl.1 (Nat.lt_of_lt_of_le (by decide) hM) rfl (m_X7_isKey l hM 5 σ h) rfl rfl (Nat.le_of_ble_eq_true rfl) dX7_not_2 (fun r2 σ1 H locs h hw => ?_)
  refine lv_if_eq (tgt := 36) hx hb dX7_not_5 (by decide) (fun c3 => ?_) (fun c3 => ?_)
  · replace h := h.1 c3
    refine lv_aload_n hx hb dX7_not_36 rfl (lv_at hl 0 rfl) ?_
    refine g_Vv (Y := YM) (ci := 7) (n := 0) (k := kk) (As := []) (rest := []) rfl (by decide) vw_X7_193 ⟨by simp only [rmL]; omega, by simp only [rmL]; omega, Nat.zero_le _, Nat.zero_le _⟩ hc hw hl.1 (Nat.lt_of_lt_of_le (by decide) hM) rfl (hrec_sum _ σ1 h) rfl rfl (Nat.le_of_ble_eq_true rfl) dX7_not_37 (fun σ4 H locs h hw => ?_)
    refine lv_aload_n hx hb dX7_not_40 rfl (lv_at hl 0 rfl) ?_
    refine lv_bipush (v := 60) hx hb dX7_not_41 (by decide) ?_
    refine g_Vi (Y := YM) (ci := 7) (n := 1) (k := 0) (As := [.int 60]) (rest := []) rfl (by decide) vw_X7_171 ⟨by simp only [rmL]; omega, by simp only [rmL]; omega, Nat.zero_le _, Nat.zero_le _⟩ hc hw hl.1 (Nat.lt_of_lt_of_le (by decide) hM) rfl (m_X7_isSign l hM 60 σ4 h) rfl rfl (Nat.le_of_ble_eq_true rfl) dX7_not_43 (fun r6 σ5 H locs h hw => ?_)
    refine lv_if_ne (tgt := 58) hx hb dX7_not_46 (by decide) (fun c7 => ?_) (fun c7 => ?_)
    · replace h := h.2 c7
      exact b_X7_not_58 hM hkk hrec_sum hrec_not  σ5 _ _ _ h  hc hr hw (lv_sub hl [0] rfl)
    · replace h := h.1 c7
      refine lv_aload_n hx hb dX7_not_49 rfl (lv_at hl 0 rfl) ?_
      refine lv_bipush (v := 61) hx hb dX7_not_50 (by decide) ?_
      refine g_Vi (Y := YM) (ci := 7) (n := 1) (k := 0) (As := [.int 61]) (rest := []) rfl (by decide) vw_X7_171 ⟨by simp only [rmL]; omega, by simp only [rmL]; omega, Nat.zero_le _, Nat.zero_le _⟩ hc hw hl.1 (Nat.lt_of_lt_of_le (by decide) hM) rfl (m_X7_isSign l hM 61 σ5 h) rfl rfl (Nat.le_of_ble_eq_true rfl) dX7_not_52 (fun r9 σ8 H locs h hw => ?_)
      refine lv_if_eq (tgt := 79) hx hb dX7_not_55 (by decide) (fun c10 => ?_) (fun c10 => ?_)
      · replace h := h.1 c10
        exact g_vret hc hr hw h dX7_not_79
      · replace h := h.2 c10
        exact b_X7_not_58 hM hkk hrec_sum hrec_not  σ8 _ _ _ h  hc hr hw (lv_sub hl [0] rfl)
  · replace h := h.2 c3
    refine lv_aload_n hx hb dX7_not_8 rfl (lv_at hl 0 rfl) ?_
    refine g_Vi (Y := YM) (ci := 7) (n := 0) (k := 3) (As := []) (rest := []) rfl (by decide) vw_X7_174 ⟨by simp only [rmL]; omega, by simp only [rmL]; omega, Nat.zero_le _, Nat.zero_le _⟩ hc hw hl.1 (Nat.lt_of_lt_of_le (by decide) hM) rfl (m_X7_opens l hM σ1 h) rfl rfl (Nat.le_of_ble_eq_true rfl) dX7_not_9 (fun r12 σ11 H locs h hw => ?_)
    refine lv_if_eq (tgt := 35) hx hb dX7_not_12 (by decide) (fun c13 => ?_) (fun c13 => ?_)
    · replace h := h.1 c13
      exact g_vret hc hr hw h dX7_not_35
    · replace h := h.2 c13
      refine lv_aload_n hx hb dX7_not_15 rfl (lv_at hl 0 rfl) ?_
      refine g_Vv (Y := YM) (ci := 7) (n := 0) (k := kk) (As := []) (rest := []) rfl (by decide) vw_X7_190 ⟨by simp only [rmL]; omega, by simp only [rmL]; omega, Nat.zero_le _, Nat.zero_le _⟩ hc hw hl.1 (Nat.lt_of_lt_of_le (by decide) hM) rfl (hrec_not _ σ11 h) rfl rfl (Nat.le_of_ble_eq_true rfl) dX7_not_16 (fun σ14 H locs h hw => ?_)
      refine lv_aload_n hx hb dX7_not_19 rfl (lv_at hl 0 rfl) ?_
      refine lv_bipush (v := (-101)) hx hb dX7_not_20 (by decide) ?_
      refine g_Vv (Y := YM) (ci := 7) (n := 1) (k := 0) (As := [.int (-101)]) (rest := []) rfl (by decide) vw_X7_167 ⟨by simp only [rmL]; omega, by simp only [rmL]; omega, Nat.zero_le _, Nat.zero_le _⟩ hc hw hl.1 (Nat.lt_of_lt_of_le (by decide) hM) rfl (m_X7_adds l hM (-101) σ14 h) rfl rfl (Nat.le_of_ble_eq_true rfl) dX7_not_22 (fun σ15 H locs h hw => ?_)
      refine lv_aload_n hx hb dX7_not_25 rfl (lv_at hl 0 rfl) ?_
      refine lv_dup hx hb dX7_not_26 rfl ?_
      refine fg_X7_158 hc hw (Nat.lt_of_lt_of_le (by decide) hM) rfl dX7_not_27 ?_
      refine lv_iconst (v := 1) hx hb dX7_not_30 (by decide) ?_
      refine lv_isub hx hb dX7_not_31 ?_
      refine fp_X7_158 (o := 0) hc hw (Nat.lt_of_lt_of_le (by decide) hM) rfl dX7_not_32 (fun σ16 H locs eσ16 hw => ?_)
      replace h := h σ16 eσ16
      exact g_vret hc hr hw h dX7_not_35
def w_X7_both_4 (rec : Nat → (St → Prop) → St → Prop) (M : Nat) (post : St → Prop) (k_4 : St → Prop)  (σ : St) : Prop :=
  w_X7_isKey M (fun r2 σ1 => ((r2 = 0 → (post σ1)) ∧ (¬ (r2 = 0) → (w_X7_next M (fun σ4 => (rec 3 (fun σ5 => (w_X7_adds M (fun σ6 => (k_4  σ6)) (-102) σ5)) σ4)) σ1)))) 4 σ
set_option maxHeartbeats 4000000 in
set_option maxRecDepth 20000 in
theorem b_X7_both_4 {Γ : Gm} {ad : Nat → Nat} {p : Program} {l : Launch} {e : Env} {s : State} {m : MethodId} {args : Array Value} {below : List Frame} {meth : Method} {c : Code} {kk : Nat} {rec : Nat → (St → Prop) → St → Prop} {M : Nat} (hM : 20 ≤ M) (hkk : 40 ≤ kk) {post : St → Prop} {k_4 : St → Prop} (hrec_not : ∀ (post : St → Prop) (σ : St), rec 3 post σ → Cv l Γ YM M ad σ yX7_not cX7_not 2 none kk 0 0 [.ref (ad 0)] post) (hk_4 : ∀  (σ : St) (H : Heap) (locs : List Loc) (ls : Array Slot), k_4  σ → WH Γ YM M ad σ s H locs → lv_has ls 1 [(0, .ref (ad 0))] → W p l e (rmL (kk + 1) 0 0) s m args below meth c H locs 0 0 (MQ below (va_Qv post (fun u t => WC Γ YM M ad u t) (AA Γ)) args s 0 0 (AA Γ)) (F0 m 4 ls []))
     (σ : St) (H : Heap) (locs : List Loc) (ls : Array Slot) (h : w_X7_both_4 rec M post k_4  σ) (hc : CX Γ p s m args meth c cX7_both RX7 1) (hr : meth.sig.returnType = none) (hw : WH Γ YM M ad σ s H locs) (hl : lv_has ls 1 [(0, .ref (ad 0))]) :
    W p l e (rmL (kk + 1) 0 0) s m args below meth c H locs 0 0 (MQ below (va_Qv post (fun u t => WC Γ YM M ad u t) (AA Γ)) args s 0 0 (AA Γ)) (F0 m 4 ls []) := by
  have hx := hc.1
  have hb := hc.2.1
  unfold w_X7_both_4 at h
  refine lv_aload_n hx hb dX7_both_4 rfl (lv_at hl 0 rfl) ?_
  refine lv_iconst (v := 4) hx hb dX7_both_5 (by decide) ?_
  refine g_Vi (Y := YM) (ci := 7) (n := 1) (k := 0) (As := [.int 4]) (rest := []) rfl (by decide) vw_X7_187 ⟨by simp only [rmL]; omega, by simp only [rmL]; omega, Nat.zero_le _, Nat.zero_le _⟩ hc hw hl.1 (Nat.lt_of_lt_of_le (by decide) hM) rfl (m_X7_isKey l hM 4 σ h) rfl rfl (Nat.le_of_ble_eq_true rfl) dX7_both_6 (fun r2 σ1 H locs h hw => ?_)
  refine lv_if_eq (tgt := 29) hx hb dX7_both_9 (by decide) (fun c3 => ?_) (fun c3 => ?_)
  · replace h := h.1 c3
    exact g_vret hc hr hw h dX7_both_29
  · replace h := h.2 c3
    refine lv_aload_n hx hb dX7_both_12 rfl (lv_at hl 0 rfl) ?_
    refine g_Vv (Y := YM) (ci := 7) (n := 0) (k := 2) (As := []) (rest := []) rfl (by decide) vw_X7_164 ⟨by simp only [rmL]; omega, by simp only [rmL]; omega, Nat.zero_le _, Nat.zero_le _⟩ hc hw hl.1 (Nat.lt_of_lt_of_le (by decide) hM) rfl (m_X7_next l hM σ1 h) rfl rfl (Nat.le_of_ble_eq_true rfl) dX7_both_13 (fun σ4 H locs h hw => ?_)
    refine lv_aload_n hx hb dX7_both_16 rfl (lv_at hl 0 rfl) ?_
    refine g_Vv (Y := YM) (ci := 7) (n := 0) (k := kk) (As := []) (rest := []) rfl (by decide) vw_X7_190 ⟨by simp only [rmL]; omega, by simp only [rmL]; omega, Nat.zero_le _, Nat.zero_le _⟩ hc hw hl.1 (Nat.lt_of_lt_of_le (by decide) hM) rfl (hrec_not _ σ4 h) rfl rfl (Nat.le_of_ble_eq_true rfl) dX7_both_17 (fun σ5 H locs h hw => ?_)
    refine lv_aload_n hx hb dX7_both_20 rfl (lv_at hl 0 rfl) ?_
    refine lv_bipush (v := (-102)) hx hb dX7_both_21 (by decide) ?_
    refine g_Vv (Y := YM) (ci := 7) (n := 1) (k := 0) (As := [.int (-102)]) (rest := []) rfl (by decide) vw_X7_167 ⟨by simp only [rmL]; omega, by simp only [rmL]; omega, Nat.zero_le _, Nat.zero_le _⟩ hc hw hl.1 (Nat.lt_of_lt_of_le (by decide) hM) rfl (m_X7_adds l hM (-102) σ5 h) rfl rfl (Nat.le_of_ble_eq_true rfl) dX7_both_23 (fun σ6 H locs h hw => ?_)
    refine lv_goto (tgt := 4) hx hb dX7_both_26 (by decide) ?_
    exact hk_4  σ6 _ _ _ h  hw (lv_sub hl [0] rfl)
def wl_X7_both_4 (rec : Nat → (St → Prop) → St → Prop) (M : Nat) (post : St → Prop) : Nat → St → Prop
  | 0, _ => False
  | n + 1, σ => w_X7_both_4 rec M post (wl_X7_both_4 rec M post n)  σ
set_option maxHeartbeats 4000000 in
theorem bl_X7_both_4 {Γ : Gm} {ad : Nat → Nat} {p : Program} {l : Launch} {e : Env} {s : State} {m : MethodId} {args : Array Value} {below : List Frame} {meth : Method} {c : Code} {kk : Nat} {rec : Nat → (St → Prop) → St → Prop} {M : Nat} (hM : 20 ≤ M) (hkk : 40 ≤ kk) {post : St → Prop} (hrec_not : ∀ (post : St → Prop) (σ : St), rec 3 post σ → Cv l Γ YM M ad σ yX7_not cX7_not 2 none kk 0 0 [.ref (ad 0)] post)
    (hc : CX Γ p s m args meth c cX7_both RX7 1) (hr : meth.sig.returnType = none) :
    ∀ (n : Nat)  (σ : St) (H : Heap) (locs : List Loc) (ls : Array Slot), wl_X7_both_4 rec M post n  σ → WH Γ YM M ad σ s H locs → lv_has ls 1 [(0, .ref (ad 0))] → W p l e (rmL (kk + 1) 0 0) s m args below meth c H locs 0 0 (MQ below (va_Qv post (fun u t => WC Γ YM M ad u t) (AA Γ)) args s 0 0 (AA Γ)) (F0 m 4 ls []) := by
  intro n
  induction n with
  | zero => intro  σ H locs ls h; exact h.elim
  | succ n ih =>
    intro  σ H locs ls h  hw hl
    exact b_X7_both_4 hM hkk hrec_not ih  σ H locs ls h  hc hr hw hl
def w_X7_both (rec : Nat → (St → Prop) → St → Prop) (M : Nat) (post : St → Prop)  (σ : St) : Prop :=
  rec 3 (fun σ1 => (∃ n, wl_X7_both_4 rec M post n  σ1)) σ
set_option maxHeartbeats 4000000 in
set_option maxRecDepth 20000 in
theorem m_X7_both {Γ : Gm} {ad : Nat → Nat} {kk : Nat} {rec : Nat → (St → Prop) → St → Prop} {M : Nat} (l : Launch) (hM : 20 ≤ M) (hkk : 40 ≤ kk) {post : St → Prop} (hrec_not : ∀ (post : St → Prop) (σ : St), rec 3 post σ → Cv l Γ YM M ad σ yX7_not cX7_not 2 none kk 0 0 [.ref (ad 0)] post)  (σ : St) (h : w_X7_both rec M post  σ) : Cv l Γ YM M ad σ yX7_both cX7_both 1 none (kk + 1) 0 0 [.ref (ad 0)] post := by
  refine g_start (by decide) (Nat.le_of_ble_eq_true rfl) ?_
  intro p e s m args below meth c ls hc hr hn hl hw
  have hc : CX Γ p s m args meth c cX7_both RX7 1 := hc
  have hl : lv_has ls 1 [(0, .ref (ad 0))] := hl
  have hx := hc.1
  have hb := hc.2.1
  unfold w_X7_both at h
  generalize hHH : s.heap = H0 at hw ⊢
  refine lv_aload_n hx hb dX7_both_0 rfl (lv_at hl 0 rfl) ?_
  refine g_Vv (Y := YM) (ci := 7) (n := 0) (k := kk) (As := []) (rest := []) rfl (by decide) vw_X7_190 ⟨by simp only [rmL]; omega, by simp only [rmL]; omega, Nat.zero_le _, Nat.zero_le _⟩ hc hw hl.1 (Nat.lt_of_lt_of_le (by decide) hM) rfl (hrec_not _ σ h) rfl rfl (Nat.le_of_ble_eq_true rfl) dX7_both_1 (fun σ1 H locs h hw => ?_)
  obtain ⟨n, h⟩ := h
  exact bl_X7_both_4 hM hkk hrec_not hc hr n  σ1 _ _ _ h  hw (lv_sub hl [0] rfl)
def w_X7_either_4 (rec : Nat → (St → Prop) → St → Prop) (M : Nat) (post : St → Prop) (k_4 : St → Prop)  (σ : St) : Prop :=
  w_X7_isKey M (fun r2 σ1 => ((r2 = 0 → (post σ1)) ∧ (¬ (r2 = 0) → (w_X7_next M (fun σ4 => (rec 4 (fun σ5 => (w_X7_adds M (fun σ6 => (k_4  σ6)) (-103) σ5)) σ4)) σ1)))) 3 σ
set_option maxHeartbeats 4000000 in
set_option maxRecDepth 20000 in
theorem b_X7_either_4 {Γ : Gm} {ad : Nat → Nat} {p : Program} {l : Launch} {e : Env} {s : State} {m : MethodId} {args : Array Value} {below : List Frame} {meth : Method} {c : Code} {kk : Nat} {rec : Nat → (St → Prop) → St → Prop} {M : Nat} (hM : 20 ≤ M) (hkk : 40 ≤ kk) {post : St → Prop} {k_4 : St → Prop} (hrec_both : ∀ (post : St → Prop) (σ : St), rec 4 post σ → Cv l Γ YM M ad σ yX7_both cX7_both 1 none kk 0 0 [.ref (ad 0)] post) (hk_4 : ∀  (σ : St) (H : Heap) (locs : List Loc) (ls : Array Slot), k_4  σ → WH Γ YM M ad σ s H locs → lv_has ls 1 [(0, .ref (ad 0))] → W p l e (rmL (kk + 1) 0 0) s m args below meth c H locs 0 0 (MQ below (va_Qv post (fun u t => WC Γ YM M ad u t) (AA Γ)) args s 0 0 (AA Γ)) (F0 m 4 ls []))
     (σ : St) (H : Heap) (locs : List Loc) (ls : Array Slot) (h : w_X7_either_4 rec M post k_4  σ) (hc : CX Γ p s m args meth c cX7_either RX7 1) (hr : meth.sig.returnType = none) (hw : WH Γ YM M ad σ s H locs) (hl : lv_has ls 1 [(0, .ref (ad 0))]) :
    W p l e (rmL (kk + 1) 0 0) s m args below meth c H locs 0 0 (MQ below (va_Qv post (fun u t => WC Γ YM M ad u t) (AA Γ)) args s 0 0 (AA Γ)) (F0 m 4 ls []) := by
  have hx := hc.1
  have hb := hc.2.1
  unfold w_X7_either_4 at h
  refine lv_aload_n hx hb dX7_either_4 rfl (lv_at hl 0 rfl) ?_
  refine lv_iconst (v := 3) hx hb dX7_either_5 (by decide) ?_
  refine g_Vi (Y := YM) (ci := 7) (n := 1) (k := 0) (As := [.int 3]) (rest := []) rfl (by decide) vw_X7_187 ⟨by simp only [rmL]; omega, by simp only [rmL]; omega, Nat.zero_le _, Nat.zero_le _⟩ hc hw hl.1 (Nat.lt_of_lt_of_le (by decide) hM) rfl (m_X7_isKey l hM 3 σ h) rfl rfl (Nat.le_of_ble_eq_true rfl) dX7_either_6 (fun r2 σ1 H locs h hw => ?_)
  refine lv_if_eq (tgt := 29) hx hb dX7_either_9 (by decide) (fun c3 => ?_) (fun c3 => ?_)
  · replace h := h.1 c3
    exact g_vret hc hr hw h dX7_either_29
  · replace h := h.2 c3
    refine lv_aload_n hx hb dX7_either_12 rfl (lv_at hl 0 rfl) ?_
    refine g_Vv (Y := YM) (ci := 7) (n := 0) (k := 2) (As := []) (rest := []) rfl (by decide) vw_X7_164 ⟨by simp only [rmL]; omega, by simp only [rmL]; omega, Nat.zero_le _, Nat.zero_le _⟩ hc hw hl.1 (Nat.lt_of_lt_of_le (by decide) hM) rfl (m_X7_next l hM σ1 h) rfl rfl (Nat.le_of_ble_eq_true rfl) dX7_either_13 (fun σ4 H locs h hw => ?_)
    refine lv_aload_n hx hb dX7_either_16 rfl (lv_at hl 0 rfl) ?_
    refine g_Vv (Y := YM) (ci := 7) (n := 0) (k := kk) (As := []) (rest := []) rfl (by decide) vw_X7_196 ⟨by simp only [rmL]; omega, by simp only [rmL]; omega, Nat.zero_le _, Nat.zero_le _⟩ hc hw hl.1 (Nat.lt_of_lt_of_le (by decide) hM) rfl (hrec_both _ σ4 h) rfl rfl (Nat.le_of_ble_eq_true rfl) dX7_either_17 (fun σ5 H locs h hw => ?_)
    refine lv_aload_n hx hb dX7_either_20 rfl (lv_at hl 0 rfl) ?_
    refine lv_bipush (v := (-103)) hx hb dX7_either_21 (by decide) ?_
    refine g_Vv (Y := YM) (ci := 7) (n := 1) (k := 0) (As := [.int (-103)]) (rest := []) rfl (by decide) vw_X7_167 ⟨by simp only [rmL]; omega, by simp only [rmL]; omega, Nat.zero_le _, Nat.zero_le _⟩ hc hw hl.1 (Nat.lt_of_lt_of_le (by decide) hM) rfl (m_X7_adds l hM (-103) σ5 h) rfl rfl (Nat.le_of_ble_eq_true rfl) dX7_either_23 (fun σ6 H locs h hw => ?_)
    refine lv_goto (tgt := 4) hx hb dX7_either_26 (by decide) ?_
    exact hk_4  σ6 _ _ _ h  hw (lv_sub hl [0] rfl)
def wl_X7_either_4 (rec : Nat → (St → Prop) → St → Prop) (M : Nat) (post : St → Prop) : Nat → St → Prop
  | 0, _ => False
  | n + 1, σ => w_X7_either_4 rec M post (wl_X7_either_4 rec M post n)  σ
set_option maxHeartbeats 4000000 in
theorem bl_X7_either_4 {Γ : Gm} {ad : Nat → Nat} {p : Program} {l : Launch} {e : Env} {s : State} {m : MethodId} {args : Array Value} {below : List Frame} {meth : Method} {c : Code} {kk : Nat} {rec : Nat → (St → Prop) → St → Prop} {M : Nat} (hM : 20 ≤ M) (hkk : 40 ≤ kk) {post : St → Prop} (hrec_both : ∀ (post : St → Prop) (σ : St), rec 4 post σ → Cv l Γ YM M ad σ yX7_both cX7_both 1 none kk 0 0 [.ref (ad 0)] post)
    (hc : CX Γ p s m args meth c cX7_either RX7 1) (hr : meth.sig.returnType = none) :
    ∀ (n : Nat)  (σ : St) (H : Heap) (locs : List Loc) (ls : Array Slot), wl_X7_either_4 rec M post n  σ → WH Γ YM M ad σ s H locs → lv_has ls 1 [(0, .ref (ad 0))] → W p l e (rmL (kk + 1) 0 0) s m args below meth c H locs 0 0 (MQ below (va_Qv post (fun u t => WC Γ YM M ad u t) (AA Γ)) args s 0 0 (AA Γ)) (F0 m 4 ls []) := by
  intro n
  induction n with
  | zero => intro  σ H locs ls h; exact h.elim
  | succ n ih =>
    intro  σ H locs ls h  hw hl
    exact b_X7_either_4 hM hkk hrec_both ih  σ H locs ls h  hc hr hw hl
def w_X7_either (rec : Nat → (St → Prop) → St → Prop) (M : Nat) (post : St → Prop)  (σ : St) : Prop :=
  rec 4 (fun σ1 => (∃ n, wl_X7_either_4 rec M post n  σ1)) σ
set_option maxHeartbeats 4000000 in
set_option maxRecDepth 20000 in
theorem m_X7_either {Γ : Gm} {ad : Nat → Nat} {kk : Nat} {rec : Nat → (St → Prop) → St → Prop} {M : Nat} (l : Launch) (hM : 20 ≤ M) (hkk : 40 ≤ kk) {post : St → Prop} (hrec_both : ∀ (post : St → Prop) (σ : St), rec 4 post σ → Cv l Γ YM M ad σ yX7_both cX7_both 1 none kk 0 0 [.ref (ad 0)] post)  (σ : St) (h : w_X7_either rec M post  σ) : Cv l Γ YM M ad σ yX7_either cX7_either 1 none (kk + 1) 0 0 [.ref (ad 0)] post := by
  refine g_start (by decide) (Nat.le_of_ble_eq_true rfl) ?_
  intro p e s m args below meth c ls hc hr hn hl hw
  have hc : CX Γ p s m args meth c cX7_either RX7 1 := hc
  have hl : lv_has ls 1 [(0, .ref (ad 0))] := hl
  have hx := hc.1
  have hb := hc.2.1
  unfold w_X7_either at h
  generalize hHH : s.heap = H0 at hw ⊢
  refine lv_aload_n hx hb dX7_either_0 rfl (lv_at hl 0 rfl) ?_
  refine g_Vv (Y := YM) (ci := 7) (n := 0) (k := kk) (As := []) (rest := []) rfl (by decide) vw_X7_196 ⟨by simp only [rmL]; omega, by simp only [rmL]; omega, Nat.zero_le _, Nat.zero_le _⟩ hc hw hl.1 (Nat.lt_of_lt_of_le (by decide) hM) rfl (hrec_both _ σ h) rfl rfl (Nat.le_of_ble_eq_true rfl) dX7_either_1 (fun σ1 H locs h hw => ?_)
  obtain ⟨n, h⟩ := h
  exact bl_X7_either_4 hM hkk hrec_both hc hr n  σ1 _ _ _ h  hw (lv_sub hl [0] rfl)
def wr_X7 (M : Nat) : Nat → Nat → (St → Prop) → St → Prop
  | 0, _, _, _ => False
  | n + 1, i, post, σ => if i = 0 then w_X7_one (wr_X7 M n) M post σ else if i = 1 then w_X7_term (wr_X7 M n) M post σ else if i = 2 then w_X7_sum (wr_X7 M n) M post σ else if i = 3 then w_X7_not (wr_X7 M n) M post σ else if i = 4 then w_X7_both (wr_X7 M n) M post σ else w_X7_either (wr_X7 M n) M post σ
set_option maxHeartbeats 4000000 in
theorem mr_X7 {Γ : Gm} {ad : Nat → Nat} {M : Nat} (l : Launch) (hM : 20 ≤ M) : ∀ n : Nat, (∀ (post : St → Prop) (σ : St), wr_X7 M n 0 post σ → Cv l Γ YM M ad σ yX7_one cX7_one 2 none (40 + n) 0 0 [.ref (ad 0)] post) ∧ (∀ (post : St → Prop) (σ : St), wr_X7 M n 1 post σ → Cv l Γ YM M ad σ yX7_term cX7_term 1 none (40 + n) 0 0 [.ref (ad 0)] post) ∧ (∀ (post : St → Prop) (σ : St), wr_X7 M n 2 post σ → Cv l Γ YM M ad σ yX7_sum cX7_sum 2 none (40 + n) 0 0 [.ref (ad 0)] post) ∧ (∀ (post : St → Prop) (σ : St), wr_X7 M n 3 post σ → Cv l Γ YM M ad σ yX7_not cX7_not 2 none (40 + n) 0 0 [.ref (ad 0)] post) ∧ (∀ (post : St → Prop) (σ : St), wr_X7 M n 4 post σ → Cv l Γ YM M ad σ yX7_both cX7_both 1 none (40 + n) 0 0 [.ref (ad 0)] post) ∧ (∀ (post : St → Prop) (σ : St), wr_X7 M n 5 post σ → Cv l Γ YM M ad σ yX7_either cX7_either 1 none (40 + n) 0 0 [.ref (ad 0)] post) := by
  intro n
  induction n with
  | zero => exact ⟨fun _ _ h => h.elim, fun _ _ h => h.elim, fun _ _ h => h.elim, fun _ _ h => h.elim, fun _ _ h => h.elim, fun _ _ h => h.elim⟩
  | succ n ih =>
    obtain ⟨i0, i1, i2, i3, i4, i5⟩ := ih
    refine ⟨?_, ?_, ?_, ?_, ?_, ?_⟩
    · intro post σ h
      exact m_X7_one (kk := 40 + n) l hM (by omega) i0 i5 σ h
    · intro post σ h
      exact m_X7_term (kk := 40 + n) l hM (by omega) i0 σ h
    · intro post σ h
      exact m_X7_sum (kk := 40 + n) l hM (by omega) i1 σ h
    · intro post σ h
      exact m_X7_not (kk := 40 + n) l hM (by omega) i2 i3 σ h
    · intro post σ h
      exact m_X7_both (kk := 40 + n) l hM (by omega) i3 σ h
    · intro post σ h
      exact m_X7_either (kk := 40 + n) l hM (by omega) i4 σ h
theorem mr_X7_one {Γ : Gm} {ad : Nat → Nat} {M : Nat} (l : Launch) (hM : 20 ≤ M) (n : Nat) {post : St → Prop} (σ : St) (h : wr_X7 M n 0 post σ) : Cv l Γ YM M ad σ yX7_one cX7_one 2 none (40 + n) 0 0 [.ref (ad 0)] post := (mr_X7 l hM n).1 _ σ h
theorem mr_X7_term {Γ : Gm} {ad : Nat → Nat} {M : Nat} (l : Launch) (hM : 20 ≤ M) (n : Nat) {post : St → Prop} (σ : St) (h : wr_X7 M n 1 post σ) : Cv l Γ YM M ad σ yX7_term cX7_term 1 none (40 + n) 0 0 [.ref (ad 0)] post := (mr_X7 l hM n).2.1 _ σ h
theorem mr_X7_sum {Γ : Gm} {ad : Nat → Nat} {M : Nat} (l : Launch) (hM : 20 ≤ M) (n : Nat) {post : St → Prop} (σ : St) (h : wr_X7 M n 2 post σ) : Cv l Γ YM M ad σ yX7_sum cX7_sum 2 none (40 + n) 0 0 [.ref (ad 0)] post := (mr_X7 l hM n).2.2.1 _ σ h
theorem mr_X7_not {Γ : Gm} {ad : Nat → Nat} {M : Nat} (l : Launch) (hM : 20 ≤ M) (n : Nat) {post : St → Prop} (σ : St) (h : wr_X7 M n 3 post σ) : Cv l Γ YM M ad σ yX7_not cX7_not 2 none (40 + n) 0 0 [.ref (ad 0)] post := (mr_X7 l hM n).2.2.2.1 _ σ h
theorem mr_X7_both {Γ : Gm} {ad : Nat → Nat} {M : Nat} (l : Launch) (hM : 20 ≤ M) (n : Nat) {post : St → Prop} (σ : St) (h : wr_X7 M n 4 post σ) : Cv l Γ YM M ad σ yX7_both cX7_both 1 none (40 + n) 0 0 [.ref (ad 0)] post := (mr_X7 l hM n).2.2.2.2.1 _ σ h
theorem mr_X7_either {Γ : Gm} {ad : Nat → Nat} {M : Nat} (l : Launch) (hM : 20 ≤ M) (n : Nat) {post : St → Prop} (σ : St) (h : wr_X7 M n 5 post σ) : Cv l Γ YM M ad σ yX7_either cX7_either 1 none (40 + n) 0 0 [.ref (ad 0)] post := (mr_X7 l hM n).2.2.2.2.2 _ σ h

