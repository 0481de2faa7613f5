def w_X7_text_158 (M : Nat) (post : Int32 → St → Prop)  (σ : St) : Prop :=
  ∀ σ1 : St, σ1 = si σ 0 4 0 → (((gi σ1 0 16) = 0 → (∀ σ3 : St, σ3 = si σ1 0 5 ((gi σ1 0 5) + 1) → (post ((gi σ3 0 5) - 1) σ3))) ∧ (¬ ((gi σ1 0 16) = 0) → (post ((-100) - (gi σ1 0 17)) σ1)))
set_option maxHeartbeats 4000000 in
set_option maxRecDepth 20000 in
theorem b_X7_text_158 {Γ : Gm} {ad : Nat → Nat} {p : Program} {l : Launch} {e : Env} {s : State} {m : MethodId} {args : Array Value} {below : List Frame} {meth : Method} {c : Code} {M : Nat} (hM : 20 ≤ M) {post : Int32 → St → Prop}
     (σ : St) (H : Heap) (locs : List Loc) (ls : Array Slot) (h : w_X7_text_158 M post  σ) (hc : CX Γ p s m args meth c cX7_text RX7 2) (hr : meth.sig.returnType = (Option.some Jvm.ClassFile.FieldType.int)) (hw : WH Γ YM M ad σ s H locs) (hl : lv_has ls 2 [(0, .ref (ad 0))]) :
    W p l e (rmL 151 0 0) s m args below meth c H locs 0 0 (MQ below (va_Qi post (fun u t => WC Γ YM M ad u t) (AA Γ)) args s 0 0 (AA Γ)) (F0 m 158 ls []) := by
  have hx := hc.1
  have hb := hc.2.1
  unfold w_X7_text_158 at h
  refine lv_aload_n hx hb dX7_text_158 rfl (lv_at hl 0 rfl) ?_
  refine lv_iconst (v := 0) hx hb dX7_text_159 (by decide) ?_
  refine fp_X7_101 (o := 0) hc hw (Nat.lt_of_lt_of_le (by decide) hM) rfl dX7_text_160 (fun σ1 H locs eσ1 hw => ?_)
  replace h := h σ1 eσ1
  refine lv_aload_n hx hb dX7_text_163 rfl (lv_at hl 0 rfl) ?_
  refine fg_X7_148 hc hw (Nat.lt_of_lt_of_le (by decide) hM) rfl dX7_text_164 ?_
  refine lv_if_eq (tgt := 178) hx hb dX7_text_167 (by decide) (fun c2 => ?_) (fun c2 => ?_)
  · replace h := h.1 c2
    refine lv_aload_n hx hb dX7_text_178 rfl (lv_at hl 0 rfl) ?_
    refine lv_dup hx hb dX7_text_179 rfl ?_
    refine fg_X7_68 hc hw (Nat.lt_of_lt_of_le (by decide) hM) rfl dX7_text_180 ?_
    refine lv_iconst (v := 1) hx hb dX7_text_183 (by decide) ?_
    refine lv_iadd hx hb dX7_text_184 ?_
    refine fp_X7_68 (o := 0) hc hw (Nat.lt_of_lt_of_le (by decide) hM) rfl dX7_text_185 (fun σ3 H locs eσ3 hw => ?_)
    replace h := h σ3 eσ3
    refine lv_aload_n hx hb dX7_text_188 rfl (lv_at hl 0 rfl) ?_
    refine fg_X7_68 hc hw (Nat.lt_of_lt_of_le (by decide) hM) rfl dX7_text_189 ?_
    refine lv_iconst (v := 1) hx hb dX7_text_192 (by decide) ?_
    refine lv_isub hx hb dX7_text_193 ?_
    exact g_iret hc hr hw h dX7_text_194
  · replace h := h.2 c2
    refine lv_bipush (v := (-100)) hx hb dX7_text_170 (by decide) ?_
    refine lv_aload_n hx hb dX7_text_172 rfl (lv_at hl 0 rfl) ?_
    refine fg_X7_152 hc hw (Nat.lt_of_lt_of_le (by decide) hM) rfl dX7_text_173 ?_
    refine lv_isub hx hb dX7_text_176 ?_
    exact g_iret hc hr hw h dX7_text_177
def w_X7_text_140 (M : Nat) (post : Int32 → St → Prop)  (σ : St) : Prop :=
  ((gi σ 0 16) = 0 → (((gi σ 0 13) = 0 → (w_X7_text_158 M post  σ)) ∧ (¬ ((gi σ 0 13) = 0) → (w_X7_wrong M (fun σ3 => (w_X7_text_158 M post  σ3)) σ)))) ∧ (¬ ((gi σ 0 16) = 0) → (w_X7_text_158 M post  σ))
set_option maxHeartbeats 4000000 in
set_option maxRecDepth 20000 in
theorem b_X7_text_140 {Γ : Gm} {ad : Nat → Nat} {p : Program} {l : Launch} {e : Env} {s : State} {m : MethodId} {args : Array Value} {below : List Frame} {meth : Method} {c : Code} {M : Nat} (hM : 20 ≤ M) {post : Int32 → St → Prop}
     (σ : St) (H : Heap) (locs : List Loc) (ls : Array Slot) (h : w_X7_text_140 M post  σ) (hc : CX Γ p s m args meth c cX7_text RX7 2) (hr : meth.sig.returnType = (Option.some Jvm.ClassFile.FieldType.int)) (hw : WH Γ YM M ad σ s H locs) (hl : lv_has ls 2 [(0, .ref (ad 0))]) :
    W p l e (rmL 151 0 0) s m args below meth c H locs 0 0 (MQ below (va_Qi post (fun u t => WC Γ YM M ad u t) (AA Γ)) args s 0 0 (AA Γ)) (F0 m 140 ls []) := by
  have hx := hc.1
  have hb := hc.2.1
  unfold w_X7_text_140 at h
  refine lv_aload_n hx hb dX7_text_140 rfl (lv_at hl 0 rfl) ?_
  refine fg_X7_148 hc hw (Nat.lt_of_lt_of_le (by decide) hM) rfl dX7_text_141 ?_
  refine lv_if_ne (tgt := 158) hx hb dX7_text_144 (by decide) (fun c1 => ?_) (fun c1 => ?_)
  · replace h := h.2 c1
    exact b_X7_text_158 hM  σ _ _ _ h  hc hr hw (lv_sub hl [0] rfl)
  · replace h := h.1 c1
    refine lv_aload_n hx hb dX7_text_147 rfl (lv_at hl 0 rfl) ?_
    refine fg_X7_129 hc hw (Nat.lt_of_lt_of_le (by decide) hM) rfl dX7_text_148 ?_
    refine lv_if_eq (tgt := 158) hx hb dX7_text_151 (by decide) (fun c2 => ?_) (fun c2 => ?_)
    · replace h := h.1 c2
      exact b_X7_text_158 hM  σ _ _ _ h  hc hr hw (lv_sub hl [0] rfl)
    · replace h := h.2 c2
      refine lv_aload_n hx hb dX7_text_154 rfl (lv_at hl 0 rfl) ?_
      refine g_Vv (Y := YM) (ci := 7) (n := 0) (k := 0) (As := []) (rest := []) rfl (by decide) vw_X7_161 ⟨Nat.le_of_ble_eq_true rfl, Nat.le_of_ble_eq_true rfl, Nat.zero_le _, Nat.zero_le _⟩ hc hw hl.1 (Nat.lt_of_lt_of_le (by decide) hM) rfl (m_X7_wrong l hM σ h) rfl rfl (Nat.le_of_ble_eq_true rfl) dX7_text_155 (fun σ3 H locs h hw => ?_)
      exact b_X7_text_158 hM  σ3 _ _ _ h  hc hr hw (lv_sub hl [0] rfl)
def w_X7_text_45 (M : Nat) (post : Int32 → St → Prop) (k_45 : Int32 → St → Prop) (v1 : Int32) (σ : St) : Prop :=
  (3 ≤ v1 → (w_X7_text_140 M post  σ)) ∧ (¬ (3 ≤ v1) → (((gi σ 0 16) = 0 → (w_X7_isKey M (fun r4 σ3 => ((r4 = 0 → (w_X7_wrong M (fun σ17 => (w_X7_text_140 M post  σ17)) σ3)) ∧ (¬ (r4 = 0) → (w_X7_next M (fun σ6 => ((vp_in ((3 * (gi σ6 0 5)) + v1) 21) ∧ (∀ σ7 : St, σ7 = si σ6 5 (((3 * (gi σ6 0 5)) + v1).toNatClampNeg) (gi σ6 0 10) → (∃ n, n ≤ 100 ∧ wr_X7 M n 5 (fun σ8 => ((vp_in ((3 * (gi σ8 0 5)) + v1) 21) ∧ (∀ σ9 : St, σ9 = si σ8 6 (((3 * (gi σ8 0 5)) + v1).toNatClampNeg) (gi σ8 0 10) → (w_X7_isSign M (fun r11 σ10 => ((r11 = 0 → (w_X7_wrong M (fun σ13 => (∀ x14 : Int32, x14 = v1 + 1 → (k_45 x14 σ13))) σ10)) ∧ (¬ (r11 = 0) → (w_X7_next M (fun σ15 => (∀ x16 : Int32, x16 = v1 + 1 → (k_45 x16 σ15))) σ10)))) 59 σ9)))) σ7)))) σ3)))) v1 σ)) ∧ (¬ ((gi σ 0 16) = 0) → (w_X7_text_140 M post  σ))))
set_option maxHeartbeats 4000000 in
set_option maxRecDepth 20000 in
theorem b_X7_text_45 {Γ : Gm} {ad : Nat → Nat} {p : Program} {l : Launch} {e : Env} {s : State} {m : MethodId} {args : Array Value} {below : List Frame} {meth : Method} {c : Code} {M : Nat} (hM : 20 ≤ M) {post : Int32 → St → Prop} {k_45 : Int32 → St → Prop} (hk_45 : ∀ (v1 : Int32) (σ : St) (H : Heap) (locs : List Loc) (ls : Array Slot), k_45 v1 σ → WH Γ YM M ad σ s H locs → lv_has ls 2 [(0, .ref (ad 0)), (1, .int v1)] → W p l e (rmL 151 0 0) s m args below meth c H locs 0 0 (MQ below (va_Qi post (fun u t => WC Γ YM M ad u t) (AA Γ)) args s 0 0 (AA Γ)) (F0 m 45 ls []))
    (v1 : Int32) (σ : St) (H : Heap) (locs : List Loc) (ls : Array Slot) (h : w_X7_text_45 M post k_45 v1 σ) (hc : CX Γ p s m args meth c cX7_text RX7 2) (hr : meth.sig.returnType = (Option.some Jvm.ClassFile.FieldType.int)) (hw : WH Γ YM M ad σ s H locs) (hl : lv_has ls 2 [(0, .ref (ad 0)), (1, .int v1)]) :
    W p l e (rmL 151 0 0) s m args below meth c H locs 0 0 (MQ below (va_Qi post (fun u t => WC Γ YM M ad u t) (AA Γ)) args s 0 0 (AA Γ)) (F0 m 45 ls []) := by
  have hx := hc.1
  have hb := hc.2.1
  unfold w_X7_text_45 at h
  refine lv_iload_n hx hb dX7_text_45 rfl (lv_at hl 1 rfl) ?_
  refine lv_iconst (v := 3) hx hb dX7_text_46 (by decide) ?_
  refine lv_icmp_ge (tgt := 140) hx hb dX7_text_47 (by decide) (fun c1 => ?_) (fun c1 => ?_)
  · replace h := h.1 c1
    exact b_X7_text_140 hM  σ _ _ _ h  hc hr hw (lv_sub hl [0] rfl)
  · replace h := h.2 c1
    refine lv_aload_n hx hb dX7_text_50 rfl (lv_at hl 0 rfl) ?_
    refine fg_X7_148 hc hw (Nat.lt_of_lt_of_le (by decide) hM) rfl dX7_text_51 ?_
    refine lv_if_ne (tgt := 140) hx hb dX7_text_54 (by decide) (fun c2 => ?_) (fun c2 => ?_)
    · replace h := h.2 c2
      exact b_X7_text_140 hM  σ _ _ _ h  hc hr hw (lv_sub hl [0] rfl)
    · replace h := h.1 c2
      refine lv_aload_n hx hb dX7_text_57 rfl (lv_at hl 0 rfl) ?_
      refine lv_iload_n hx hb dX7_text_58 rfl (lv_at hl 1 rfl) ?_
      refine g_Vi (Y := YM) (ci := 7) (n := 1) (k := 0) (As := [.int v1]) (rest := []) rfl (by decide) vw_X7_187 ⟨Nat.le_of_ble_eq_true rfl, Nat.le_of_ble_eq_true rfl, Nat.zero_le _, Nat.zero_le _⟩ hc hw hl.1 (Nat.lt_of_lt_of_le (by decide) hM) rfl (m_X7_isKey l hM v1 σ h) rfl rfl (Nat.le_of_ble_eq_true rfl) dX7_text_59 (fun r4 σ3 H locs h hw => ?_)
      refine lv_if_ne (tgt := 72) hx hb dX7_text_62 (by decide) (fun c5 => ?_) (fun c5 => ?_)
      · replace h := h.2 c5
        refine lv_aload_n hx hb dX7_text_72 rfl (lv_at hl 0 rfl) ?_
        refine g_Vv (Y := YM) (ci := 7) (n := 0) (k := 2) (As := []) (rest := []) rfl (by decide) vw_X7_164 ⟨Nat.le_of_ble_eq_true rfl, Nat.le_of_ble_eq_true rfl, Nat.zero_le _, Nat.zero_le _⟩ hc hw hl.1 (Nat.lt_of_lt_of_le (by decide) hM) rfl (m_X7_next l hM σ3 h) rfl rfl (Nat.le_of_ble_eq_true rfl) dX7_text_73 (fun σ6 H locs h hw => ?_)
        refine lv_aload_n hx hb dX7_text_76 rfl (lv_at hl 0 rfl) ?_
        refine fg_X7_22 hc hw (Nat.lt_of_lt_of_le (by decide) hM) rfl dX7_text_77 ?_
        refine lv_iconst (v := 3) hx hb dX7_text_80 (by decide) ?_
        refine lv_aload_n hx hb dX7_text_81 rfl (lv_at hl 0 rfl) ?_
        refine fg_X7_68 hc hw (Nat.lt_of_lt_of_le (by decide) hM) rfl dX7_text_82 ?_
        refine lv_imul hx hb dX7_text_85 ?_
        refine lv_iload_n hx hb dX7_text_86 rfl (lv_at hl 1 rfl) ?_
        refine lv_iadd hx hb dX7_text_87 ?_
        refine lv_aload_n hx hb dX7_text_88 rfl (lv_at hl 0 rfl) ?_
        refine fg_X7_155 hc hw (Nat.lt_of_lt_of_le (by decide) hM) rfl dX7_text_89 ?_
        have hin := h.1
        replace h := h.2
        refine g_iastK (Y := YM) (kd := 25) (n := 21) (k := ((3 * (gi σ6 0 5)) + v1).toNatClampNeg) (o := 5) YM_ok (by decide) (by decide) rfl hc hw (Nat.lt_of_lt_of_le (by decide) hM) rfl rfl hin rfl dX7_text_92 (fun σ7 H locs eσ7 hw => ?_)
        replace h := h σ7 eσ7
        refine lv_aload_n hx hb dX7_text_93 rfl (lv_at hl 0 rfl) ?_
        obtain ⟨n, hn100, h⟩ := h
        refine g_Vv (Y := YM) (ci := 7) (n := 0) (k := 40 + n) (As := []) (rest := []) rfl (by decide) vw_X7_181 ⟨by simp only [rmL]; omega, by simp only [rmL]; omega, Nat.zero_le _, Nat.zero_le _⟩ hc hw hl.1 (Nat.lt_of_lt_of_le (by decide) hM) rfl (mr_X7_either l hM n σ7 h) rfl rfl (Nat.le_of_ble_eq_true rfl) dX7_text_94 (fun σ8 H locs h hw => ?_)
        refine lv_aload_n hx hb dX7_text_97 rfl (lv_at hl 0 rfl) ?_
        refine fg_X7_25 hc hw (Nat.lt_of_lt_of_le (by decide) hM) rfl dX7_text_98 ?_
        refine lv_iconst (v := 3) hx hb dX7_text_101 (by decide) ?_
        refine lv_aload_n hx hb dX7_text_102 rfl (lv_at hl 0 rfl) ?_
        refine fg_X7_68 hc hw (Nat.lt_of_lt_of_le (by decide) hM) rfl dX7_text_103 ?_
        refine lv_imul hx hb dX7_text_106 ?_
        refine lv_iload_n hx hb dX7_text_107 rfl (lv_at hl 1 rfl) ?_
        refine lv_iadd hx hb dX7_text_108 ?_
        refine lv_aload_n hx hb dX7_text_109 rfl (lv_at hl 0 rfl) ?_
        refine fg_X7_155 hc hw (Nat.lt_of_lt_of_le (by decide) hM) rfl dX7_text_110 ?_
        have hin := h.1
        replace h := h.2
        refine g_iastK (Y := YM) (kd := 26) (n := 21) (k := ((3 * (gi σ8 0 5)) + v1).toNatClampNeg) (o := 6) YM_ok (by decide) (by decide) rfl hc hw (Nat.lt_of_lt_of_le (by decide) hM) rfl rfl hin rfl dX7_text_113 (fun σ9 H locs eσ9 hw => ?_)
        replace h := h σ9 eσ9
        refine lv_aload_n hx hb dX7_text_114 rfl (lv_at hl 0 rfl) ?_
        refine lv_bipush (v := 59) hx hb dX7_text_115 (by decide) ?_
        refine g_Vi (Y := YM) (ci := 7) (n := 1) (k := 0) (As := [.int 59]) (rest := []) rfl (by decide) vw_X7_171 ⟨Nat.le_of_ble_eq_true rfl, Nat.le_of_ble_eq_true rfl, Nat.zero_le _, Nat.zero_le _⟩ hc hw hl.1 (Nat.lt_of_lt_of_le (by decide) hM) rfl (m_X7_isSign l hM 59 σ9 h) rfl rfl (Nat.le_of_ble_eq_true rfl) dX7_text_117 (fun r11 σ10 H locs h hw => ?_)
        refine lv_if_eq (tgt := 130) hx hb dX7_text_120 (by decide) (fun c12 => ?_) (fun c12 => ?_)
        · replace h := h.1 c12
          refine lv_aload_n hx hb dX7_text_130 rfl (lv_at hl 0 rfl) ?_
          refine g_Vv (Y := YM) (ci := 7) (n := 0) (k := 0) (As := []) (rest := []) rfl (by decide) vw_X7_161 ⟨Nat.le_of_ble_eq_true rfl, Nat.le_of_ble_eq_true rfl, Nat.zero_le _, Nat.zero_le _⟩ hc hw hl.1 (Nat.lt_of_lt_of_le (by decide) hM) rfl (m_X7_wrong l hM σ10 h) rfl rfl (Nat.le_of_ble_eq_true rfl) dX7_text_131 (fun σ13 H locs h hw => ?_)
          obtain ⟨x14, ex14⟩ : ∃ z, z = v1 + 1 := ⟨_, rfl⟩
          replace h := h x14 ex14
          refine lv_iinc (v := x14) (lv' := [(1, .int x14), (0, .ref (ad 0))]) hx hb dX7_text_134 hl (k := 1) rfl (by rw [ex14]; rfl) (by decide) rfl (fun ls hl => ?_)
          refine lv_goto (tgt := 45) hx hb dX7_text_137 (by decide) ?_
          exact hk_45 x14 σ13 _ _ _ h  hw (lv_sub hl [1, 0] rfl)
        · replace h := h.2 c12
          refine lv_aload_n hx hb dX7_text_123 rfl (lv_at hl 0 rfl) ?_
          refine g_Vv (Y := YM) (ci := 7) (n := 0) (k := 2) (As := []) (rest := []) rfl (by decide) vw_X7_164 ⟨Nat.le_of_ble_eq_true rfl, Nat.le_of_ble_eq_true rfl, Nat.zero_le _, Nat.zero_le _⟩ hc hw hl.1 (Nat.lt_of_lt_of_le (by decide) hM) rfl (m_X7_next l hM σ10 h) rfl rfl (Nat.le_of_ble_eq_true rfl) dX7_text_124 (fun σ15 H locs h hw => ?_)
          refine lv_goto (tgt := 134) hx hb dX7_text_127 (by decide) ?_
          obtain ⟨x16, ex16⟩ : ∃ z, z = v1 + 1 := ⟨_, rfl⟩
          replace h := h x16 ex16
          refine lv_iinc (v := x16) (lv' := [(1, .int x16), (0, .ref (ad 0))]) hx hb dX7_text_134 hl (k := 1) rfl (by rw [ex16]; rfl) (by decide) rfl (fun ls hl => ?_)
          refine lv_goto (tgt := 45) hx hb dX7_text_137 (by decide) ?_
          exact hk_45 x16 σ15 _ _ _ h  hw (lv_sub hl [1, 0] rfl)
      · replace h := h.1 c5
        refine lv_aload_n hx hb dX7_text_65 rfl (lv_at hl 0 rfl) ?_
        refine g_Vv (Y := YM) (ci := 7) (n := 0) (k := 0) (As := []) (rest := []) rfl (by decide) vw_X7_161 ⟨Nat.le_of_ble_eq_true rfl, Nat.le_of_ble_eq_true rfl, Nat.zero_le _, Nat.zero_le _⟩ hc hw hl.1 (Nat.lt_of_lt_of_le (by decide) hM) rfl (m_X7_wrong l hM σ3 h) rfl rfl (Nat.le_of_ble_eq_true rfl) dX7_text_66 (fun σ17 H locs h hw => ?_)
        refine lv_goto (tgt := 140) hx hb dX7_text_69 (by decide) ?_
        exact b_X7_text_140 hM  σ17 _ _ _ h  hc hr hw (lv_sub hl [0] rfl)
def wl_X7_text_45 (M : Nat) (post : Int32 → St → Prop) : Nat → Int32 → St → Prop
  | 0, _, _ => False
  | n + 1, v1, σ => w_X7_text_45 M post (wl_X7_text_45 M post n) v1 σ
set_option maxHeartbeats 4000000 in
theorem bl_X7_text_45 {Γ : Gm} {ad : Nat → Nat} {p : Program} {l : Launch} {e : Env} {s : State} {m : MethodId} {args : Array Value} {below : List Frame} {meth : Method} {c : Code} {M : Nat} (hM : 20 ≤ M) {post : Int32 → St → Prop}
    (hc : CX Γ p s m args meth c cX7_text RX7 2) (hr : meth.sig.returnType = (Option.some Jvm.ClassFile.FieldType.int)) :
    ∀ (n : Nat) (v1 : Int32) (σ : St) (H : Heap) (locs : List Loc) (ls : Array Slot), wl_X7_text_45 M post n v1 σ → WH Γ YM M ad σ s H locs → lv_has ls 2 [(0, .ref (ad 0)), (1, .int v1)] → W p l e (rmL 151 0 0) s m args below meth c H locs 0 0 (MQ below (va_Qi post (fun u t => WC Γ YM M ad u t) (AA Γ)) args s 0 0 (AA Γ)) (F0 m 45 ls []) := by
  intro n
  induction n with
  | zero => intro v1 σ H locs ls h; exact h.elim
  | succ n ih =>
    intro v1 σ H locs ls h  hw hl
    exact b_X7_text_45 hM ih v1 σ H locs ls h  hc hr hw hl
def w_X7_text (M : Nat) (post : Int32 → St → Prop)  (σ : St) : Prop :=
  ((gi σ 0 5) = 6 → (post (-4) σ)) ∧ (¬ ((gi σ 0 5) = 6) → (∀ σ2 : St, σ2 = si σ 0 12 0 → (∀ σ3 : St, σ3 = si σ2 0 15 0 → (∀ σ4 : St, σ4 = si σ3 0 16 0 → (∀ σ5 : St, σ5 = si σ4 0 10 (510 * (gi σ4 0 5)) → (w_X7_next M (fun σ6 => (∃ n, wl_X7_text_45 M post n 0 σ6)) σ5))))))
set_option maxHeartbeats 4000000 in
set_option maxRecDepth 20000 in
theorem m_X7_text {Γ : Gm} {ad : Nat → Nat} {M : Nat} (l : Launch) (hM : 20 ≤ M) {post : Int32 → St → Prop}  (σ : St) (h : w_X7_text M post  σ) : Ci l Γ YM M ad σ yX7_text cX7_text 2 (Option.some Jvm.ClassFile.FieldType.int) 151 0 0 [.ref (ad 0)] post := by
  refine g_start (by decide) (Nat.le_of_ble_eq_true rfl) ?_
  intro p e s m args below meth c ls hc hr hn hl hw
  have hc : CX Γ p s m args meth c cX7_text RX7 2 := hc
  have hl : lv_has ls 2 [(0, .ref (ad 0))] := hl
  have hx := hc.1
  have hb := hc.2.1
  unfold w_X7_text at h
  generalize hHH : s.heap = H0 at hw ⊢
  refine lv_aload_n hx hb dX7_text_0 rfl (lv_at hl 0 rfl) ?_
  refine fg_X7_68 hc hw (Nat.lt_of_lt_of_le (by decide) hM) rfl dX7_text_1 ?_
  refine lv_bipush (v := 6) hx hb dX7_text_4 (by decide) ?_
  refine lv_icmp_ne (tgt := 12) hx hb dX7_text_6 (by decide) (fun c1 => ?_) (fun c1 => ?_)
  · replace h := h.2 c1
    refine lv_aload_n hx hb dX7_text_12 rfl (lv_at hl 0 rfl) ?_
    refine lv_iconst (v := 0) hx hb dX7_text_13 (by decide) ?_
    refine fp_X7_114 (o := 0) hc hw (Nat.lt_of_lt_of_le (by decide) hM) rfl dX7_text_14 (fun σ2 H locs eσ2 hw => ?_)
    replace h := h σ2 eσ2
    refine lv_aload_n hx hb dX7_text_17 rfl (lv_at hl 0 rfl) ?_
    refine lv_iconst (v := 0) hx hb dX7_text_18 (by decide) ?_
    refine fp_X7_158 (o := 0) hc hw (Nat.lt_of_lt_of_le (by decide) hM) rfl dX7_text_19 (fun σ3 H locs eσ3 hw => ?_)
    replace h := h σ3 eσ3
    refine lv_aload_n hx hb dX7_text_22 rfl (lv_at hl 0 rfl) ?_
    refine lv_iconst (v := 0) hx hb dX7_text_23 (by decide) ?_
    refine fp_X7_148 (o := 0) rfl rfl hc hw (Nat.lt_of_lt_of_le (by decide) hM) rfl dX7_text_24 (fun σ4 H locs eσ4 hw => ?_)
    replace h := h σ4 eσ4
    refine lv_aload_n hx hb dX7_text_27 rfl (lv_at hl 0 rfl) ?_
    refine lv_sipush (v := 510) hx hb dX7_text_28 (by decide) ?_
    refine lv_aload_n hx hb dX7_text_31 rfl (lv_at hl 0 rfl) ?_
    refine fg_X7_68 hc hw (Nat.lt_of_lt_of_le (by decide) hM) rfl dX7_text_32 ?_
    refine lv_imul hx hb dX7_text_35 ?_
    refine fp_X7_155 (o := 0) hc hw (Nat.lt_of_lt_of_le (by decide) hM) rfl dX7_text_36 (fun σ5 H locs eσ5 hw => ?_)
    replace h := h σ5 eσ5
    refine lv_aload_n hx hb dX7_text_39 rfl (lv_at hl 0 rfl) ?_
    refine g_Vv (Y := YM) (ci := 7) (n := 0) (k := 2) (As := []) (rest := []) rfl (by decide) vw_X7_164 ⟨Nat.le_of_ble_eq_true rfl, Nat.le_of_ble_eq_true rfl, Nat.zero_le _, Nat.zero_le _⟩ hc hw hl.1 (Nat.lt_of_lt_of_le (by decide) hM) rfl (m_X7_next l hM σ5 h) rfl rfl (Nat.le_of_ble_eq_true rfl) dX7_text_40 (fun σ6 H locs h hw => ?_)
    refine lv_iconst (v := 0) hx hb dX7_text_43 (by decide) ?_
    refine lv_istore_n (lv' := [(1, .int 0), (0, .ref (ad 0))]) hx hb dX7_text_44 rfl hl (by decide) rfl (fun ls hl => ?_)
    obtain ⟨n, h⟩ := h
    exact bl_X7_text_45 hM hc hr n 0 σ6 _ _ _ h  hw (lv_sub hl [1, 0] rfl)
  · replace h := h.1 c1
    refine lv_bipush (v := (-4)) hx hb dX7_text_9 (by decide) ?_
    exact g_iret hc hr hw h dX7_text_11
