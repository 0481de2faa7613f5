def w_X3_begin (M : Nat) (post : St → Prop) (o0 : Nat) (a1 : Int32) (a2 : Int32) (a3 : Int32) (a4 : Option Nat) (σ : St) : Prop :=
  (kdC o0 = 3 ∧ o0 < M) ∧ (∀ σ1 : St, σ1 = sr σ o0 1 a4 → (∀ σ2 : St, σ2 = sl σ1 o0 0 → (∀ σ3 : St, σ3 = si σ2 o0 3 a1 → (∀ σ4 : St, σ4 = si σ3 o0 4 a2 → (∀ σ5 : St, σ5 = si σ4 o0 5 a3 → (∀ σ6 : St, σ6 = si σ5 o0 6 20 → (∀ σ7 : St, σ7 = si σ6 o0 7 0 → (∀ σ8 : St, σ8 = si σ7 o0 8 0 → (∀ σ9 : St, σ9 = si σ8 o0 9 0 → (∀ σ10 : St, σ10 = si σ9 o0 10 0 → (∀ σ11 : St, σ11 = si σ10 o0 11 0 → (∀ σ12 : St, σ12 = si σ11 o0 12 0 → (∀ σ13 : St, σ13 = si σ12 o0 13 0 → (∀ σ14 : St, σ14 = si σ13 o0 14 0 → (∀ σ15 : St, σ15 = si σ14 o0 15 0 → (∀ σ16 : St, σ16 = si σ15 o0 16 0 → (post σ16)))))))))))))))))
set_option maxHeartbeats 4000000 in
set_option maxRecDepth 20000 in
theorem m_X3_begin {Γ : Gm} {ad : Nat → Nat} {M : Nat} (l : Launch) (hM : 53 ≤ M) {post : St → Prop} (o0 : Nat) (a1 : Int32) (a2 : Int32) (a3 : Int32) (a4 : Option Nat) (σ : St) (h : w_X3_begin M post o0 a1 a2 a3 a4 σ) : Cv l Γ YC M ad σ yX3_begin cX3_begin 5 none 0 0 0 [.ref (ad o0), .int a1, .int a2, .int a3, va_rf (Option.map ad a4)] post := by
  refine g_start (by decide) (by cases a4 <;> exact Nat.le_of_ble_eq_true rfl) ?_
  intro p e s m args below meth c ls hc hr hn hl hw
  have hc : CX Γ p s m args meth c cX3_begin RX3 5 := hc
  have hl : lv_has ls 5 [(0, .ref (ad o0)), (1, .int a1), (2, .int a2), (3, .int a3), (4, va_rf (Option.map ad a4))] := hl
  have hx := hc.1
  have hb := hc.2.1
  unfold w_X3_begin at h
  have hf_o0 := h.1
  replace h := h.2
  generalize hHH : s.heap = H0 at hw ⊢
  refine lv_aload_n hx hb dX3_begin_0 rfl (lv_at hl 0 rfl) ?_
  refine g_aloadqW hx hb dX3_begin_1 (lv_at hl 4 rfl) ?_
  refine fp_X3_13 (v := a4) (o := o0) hc hw hf_o0.2 hf_o0.1 dX3_begin_3 (fun σ1 H locs eσ1 hw => ?_)
  replace h := h σ1 eσ1
  refine lv_aload_n hx hb dX3_begin_6 rfl (lv_at hl 0 rfl) ?_
  refine lv_lconst (v := 0) hx hb dX3_begin_7 (by decide) ?_
  refine fp_X3_17 (o := o0) hc hw hf_o0.2 hf_o0.1 dX3_begin_8 (fun σ2 H locs eσ2 hw => ?_)
  replace h := h σ2 eσ2
  refine lv_aload_n hx hb dX3_begin_11 rfl (lv_at hl 0 rfl) ?_
  refine lv_iload_n hx hb dX3_begin_12 rfl (lv_at hl 1 rfl) ?_
  refine fp_X3_21 (o := o0) hc hw hf_o0.2 hf_o0.1 dX3_begin_13 (fun σ3 H locs eσ3 hw => ?_)
  replace h := h σ3 eσ3
  refine lv_aload_n hx hb dX3_begin_16 rfl (lv_at hl 0 rfl) ?_
  refine lv_iload_n hx hb dX3_begin_17 rfl (lv_at hl 2 rfl) ?_
  refine fp_X3_25 (o := o0) hc hw hf_o0.2 hf_o0.1 dX3_begin_18 (fun σ4 H locs eσ4 hw => ?_)
  replace h := h σ4 eσ4
  refine lv_aload_n hx hb dX3_begin_21 rfl (lv_at hl 0 rfl) ?_
  refine lv_iload_n hx hb dX3_begin_22 rfl (lv_at hl 3 rfl) ?_
  refine fp_X3_28 (o := o0) hc hw hf_o0.2 hf_o0.1 dX3_begin_23 (fun σ5 H locs eσ5 hw => ?_)
  replace h := h σ5 eσ5
  refine lv_aload_n hx hb dX3_begin_26 rfl (lv_at hl 0 rfl) ?_
  refine lv_bipush (v := 20) hx hb dX3_begin_27 (by decide) ?_
  refine fp_X3_31 (o := o0) hc hw hf_o0.2 hf_o0.1 dX3_begin_29 (fun σ6 H locs eσ6 hw => ?_)
  replace h := h σ6 eσ6
  refine lv_aload_n hx hb dX3_begin_32 rfl (lv_at hl 0 rfl) ?_
  refine lv_iconst (v := 0) hx hb dX3_begin_33 (by decide) ?_
  refine fp_X3_34 (o := o0) hc hw hf_o0.2 hf_o0.1 dX3_begin_34 (fun σ7 H locs eσ7 hw => ?_)
  replace h := h σ7 eσ7
  refine lv_aload_n hx hb dX3_begin_37 rfl (lv_at hl 0 rfl) ?_
  refine lv_iconst (v := 0) hx hb dX3_begin_38 (by decide) ?_
  refine fp_X3_37 (o := o0) hc hw hf_o0.2 hf_o0.1 dX3_begin_39 (fun σ8 H locs eσ8 hw => ?_)
  replace h := h σ8 eσ8
  refine lv_aload_n hx hb dX3_begin_42 rfl (lv_at hl 0 rfl) ?_
  refine lv_iconst (v := 0) hx hb dX3_begin_43 (by decide) ?_
  refine fp_X3_40 (o := o0) hc hw hf_o0.2 hf_o0.1 dX3_begin_44 (fun σ9 H locs eσ9 hw => ?_)
  replace h := h σ9 eσ9
  refine lv_aload_n hx hb dX3_begin_47 rfl (lv_at hl 0 rfl) ?_
  refine lv_iconst (v := 0) hx hb dX3_begin_48 (by decide) ?_
  refine fp_X3_43 (o := o0) hc hw hf_o0.2 hf_o0.1 dX3_begin_49 (fun σ10 H locs eσ10 hw => ?_)
  replace h := h σ10 eσ10
  refine lv_aload_n hx hb dX3_begin_52 rfl (lv_at hl 0 rfl) ?_
  refine lv_iconst (v := 0) hx hb dX3_begin_53 (by decide) ?_
  refine fp_X3_46 (o := o0) hc hw hf_o0.2 hf_o0.1 dX3_begin_54 (fun σ11 H locs eσ11 hw => ?_)
  replace h := h σ11 eσ11
  refine lv_aload_n hx hb dX3_begin_57 rfl (lv_at hl 0 rfl) ?_
  refine lv_iconst (v := 0) hx hb dX3_begin_58 (by decide) ?_
  refine fp_X3_49 (o := o0) hc hw hf_o0.2 hf_o0.1 dX3_begin_59 (fun σ12 H locs eσ12 hw => ?_)
  replace h := h σ12 eσ12
  refine lv_aload_n hx hb dX3_begin_62 rfl (lv_at hl 0 rfl) ?_
  refine lv_iconst (v := 0) hx hb dX3_begin_63 (by decide) ?_
  refine fp_X3_52 (o := o0) hc hw hf_o0.2 hf_o0.1 dX3_begin_64 (fun σ13 H locs eσ13 hw => ?_)
  replace h := h σ13 eσ13
  refine lv_aload_n hx hb dX3_begin_67 rfl (lv_at hl 0 rfl) ?_
  refine lv_iconst (v := 0) hx hb dX3_begin_68 (by decide) ?_
  refine fp_X3_55 (o := o0) hc hw hf_o0.2 hf_o0.1 dX3_begin_69 (fun σ14 H locs eσ14 hw => ?_)
  replace h := h σ14 eσ14
  refine lv_aload_n hx hb dX3_begin_72 rfl (lv_at hl 0 rfl) ?_
  refine lv_iconst (v := 0) hx hb dX3_begin_73 (by decide) ?_
  refine fp_X3_58 (o := o0) hc hw hf_o0.2 hf_o0.1 dX3_begin_74 (fun σ15 H locs eσ15 hw => ?_)
  replace h := h σ15 eσ15
  refine lv_aload_n hx hb dX3_begin_77 rfl (lv_at hl 0 rfl) ?_
  refine lv_iconst (v := 0) hx hb dX3_begin_78 (by decide) ?_
  refine fp_X3_61 (o := o0) hc hw hf_o0.2 hf_o0.1 dX3_begin_79 (fun σ16 H locs eσ16 hw => ?_)
  replace h := h σ16 eσ16
  exact g_vret hc hr hw h dX3_begin_82
def w_X3_becomeLike (M : Nat) (post : St → Prop) (o0 : Nat) (a1 : Nat) (σ : St) : Prop :=
  (kdC o0 = 3 ∧ o0 < M) ∧ ((kdC a1 = 3 ∧ a1 < M) ∧ (∀ q1 : Option Nat, q1 = gr σ a1 1 → (∀ σ2 : St, σ2 = sr σ o0 1 q1 → (∀ σ3 : St, σ3 = sl σ2 o0 (gl σ2 a1) → (∀ σ4 : St, σ4 = si σ3 o0 3 (gi σ3 a1 3) → (∀ σ5 : St, σ5 = si σ4 o0 4 (gi σ4 a1 4) → (∀ σ6 : St, σ6 = si σ5 o0 5 (gi σ5 a1 5) → (∀ σ7 : St, σ7 = si σ6 o0 6 (gi σ6 a1 6) → (∀ σ8 : St, σ8 = si σ7 o0 7 (gi σ7 a1 7) → (∀ σ9 : St, σ9 = si σ8 o0 8 (gi σ8 a1 8) → (∀ σ10 : St, σ10 = si σ9 o0 9 (gi σ9 a1 9) → (∀ σ11 : St, σ11 = si σ10 o0 10 (gi σ10 a1 10) → (∀ σ12 : St, σ12 = si σ11 o0 11 (gi σ11 a1 11) → (∀ σ13 : St, σ13 = si σ12 o0 12 (gi σ12 a1 12) → (∀ σ14 : St, σ14 = si σ13 o0 13 (gi σ13 a1 13) → (∀ σ15 : St, σ15 = si σ14 o0 14 (gi σ14 a1 14) → (∀ σ16 : St, σ16 = si σ15 o0 15 (gi σ15 a1 15) → (∀ σ17 : St, σ17 = si σ16 o0 16 (gi σ16 a1 16) → (post σ17)))))))))))))))))))
set_option maxHeartbeats 4000000 in
set_option maxRecDepth 20000 in
theorem m_X3_becomeLike {Γ : Gm} {ad : Nat → Nat} {M : Nat} (l : Launch) (hM : 53 ≤ M) {post : St → Prop} (o0 : Nat) (a1 : Nat) (σ : St) (h : w_X3_becomeLike M post o0 a1 σ) : Cv l Γ YC M ad σ yX3_becomeLike cX3_becomeLike 2 none 0 0 0 [.ref (ad o0), .ref (ad a1)] post := by
  refine g_start (by decide) (Nat.le_of_ble_eq_true rfl) ?_
  intro p e s m args below meth c ls hc hr hn hl hw
  have hc : CX Γ p s m args meth c cX3_becomeLike RX3 2 := hc
  have hl : lv_has ls 2 [(0, .ref (ad o0)), (1, .ref (ad a1))] := hl
  have hx := hc.1
  have hb := hc.2.1
  unfold w_X3_becomeLike at h
  have hf_o0 := h.1
  replace h := h.2
  have hf_a1 := h.1
  replace h := h.2
  generalize hHH : s.heap = H0 at hw ⊢
  refine lv_aload_n hx hb dX3_becomeLike_0 rfl (lv_at hl 0 rfl) ?_
  refine lv_aload_n hx hb dX3_becomeLike_1 rfl (lv_at hl 1 rfl) ?_
  refine fg_X3_13 (o := a1) hc hw hf_a1.2 hf_a1.1 dX3_becomeLike_2 ?_
  obtain ⟨q1, eq1⟩ : ∃ z, z = gr σ a1 1 := ⟨_, rfl⟩
  rw [← eq1]
  replace h := h q1 eq1
  refine fp_X3_13 (v := q1) (o := o0) hc hw hf_o0.2 hf_o0.1 dX3_becomeLike_5 (fun σ2 H locs eσ2 hw => ?_)
  replace h := h σ2 eσ2
  refine lv_aload_n hx hb dX3_becomeLike_8 rfl (lv_at hl 0 rfl) ?_
  refine lv_aload_n hx hb dX3_becomeLike_9 rfl (lv_at hl 1 rfl) ?_
  refine fg_X3_17 (o := a1) hc hw hf_a1.2 hf_a1.1 dX3_becomeLike_10 ?_
  refine fp_X3_17 (o := o0) hc hw hf_o0.2 hf_o0.1 dX3_becomeLike_13 (fun σ3 H locs eσ3 hw => ?_)
  replace h := h σ3 eσ3
  refine lv_aload_n hx hb dX3_becomeLike_16 rfl (lv_at hl 0 rfl) ?_
  refine lv_aload_n hx hb dX3_becomeLike_17 rfl (lv_at hl 1 rfl) ?_
  refine fg_X3_21 (o := a1) hc hw hf_a1.2 hf_a1.1 dX3_becomeLike_18 ?_
  refine fp_X3_21 (o := o0) hc hw hf_o0.2 hf_o0.1 dX3_becomeLike_21 (fun σ4 H locs eσ4 hw => ?_)
  replace h := h σ4 eσ4
  refine lv_aload_n hx hb dX3_becomeLike_24 rfl (lv_at hl 0 rfl) ?_
  refine lv_aload_n hx hb dX3_becomeLike_25 rfl (lv_at hl 1 rfl) ?_
  refine fg_X3_25 (o := a1) hc hw hf_a1.2 hf_a1.1 dX3_becomeLike_26 ?_
  refine fp_X3_25 (o := o0) hc hw hf_o0.2 hf_o0.1 dX3_becomeLike_29 (fun σ5 H locs eσ5 hw => ?_)
  replace h := h σ5 eσ5
  refine lv_aload_n hx hb dX3_becomeLike_32 rfl (lv_at hl 0 rfl) ?_
  refine lv_aload_n hx hb dX3_becomeLike_33 rfl (lv_at hl 1 rfl) ?_
  refine fg_X3_28 (o := a1) hc hw hf_a1.2 hf_a1.1 dX3_becomeLike_34 ?_
  refine fp_X3_28 (o := o0) hc hw hf_o0.2 hf_o0.1 dX3_becomeLike_37 (fun σ6 H locs eσ6 hw => ?_)
  replace h := h σ6 eσ6
  refine lv_aload_n hx hb dX3_becomeLike_40 rfl (lv_at hl 0 rfl) ?_
  refine lv_aload_n hx hb dX3_becomeLike_41 rfl (lv_at hl 1 rfl) ?_
  refine fg_X3_31 (o := a1) hc hw hf_a1.2 hf_a1.1 dX3_becomeLike_42 ?_
  refine fp_X3_31 (o := o0) hc hw hf_o0.2 hf_o0.1 dX3_becomeLike_45 (fun σ7 H locs eσ7 hw => ?_)
  replace h := h σ7 eσ7
  refine lv_aload_n hx hb dX3_becomeLike_48 rfl (lv_at hl 0 rfl) ?_
  refine lv_aload_n hx hb dX3_becomeLike_49 rfl (lv_at hl 1 rfl) ?_
  refine fg_X3_34 (o := a1) hc hw hf_a1.2 hf_a1.1 dX3_becomeLike_50 ?_
  refine fp_X3_34 (o := o0) hc hw hf_o0.2 hf_o0.1 dX3_becomeLike_53 (fun σ8 H locs eσ8 hw => ?_)
  replace h := h σ8 eσ8
  refine lv_aload_n hx hb dX3_becomeLike_56 rfl (lv_at hl 0 rfl) ?_
  refine lv_aload_n hx hb dX3_becomeLike_57 rfl (lv_at hl 1 rfl) ?_
  refine fg_X3_37 (o := a1) hc hw hf_a1.2 hf_a1.1 dX3_becomeLike_58 ?_
  refine fp_X3_37 (o := o0) hc hw hf_o0.2 hf_o0.1 dX3_becomeLike_61 (fun σ9 H locs eσ9 hw => ?_)
  replace h := h σ9 eσ9
  refine lv_aload_n hx hb dX3_becomeLike_64 rfl (lv_at hl 0 rfl) ?_
  refine lv_aload_n hx hb dX3_becomeLike_65 rfl (lv_at hl 1 rfl) ?_
  refine fg_X3_40 (o := a1) hc hw hf_a1.2 hf_a1.1 dX3_becomeLike_66 ?_
  refine fp_X3_40 (o := o0) hc hw hf_o0.2 hf_o0.1 dX3_becomeLike_69 (fun σ10 H locs eσ10 hw => ?_)
  replace h := h σ10 eσ10
  refine lv_aload_n hx hb dX3_becomeLike_72 rfl (lv_at hl 0 rfl) ?_
  refine lv_aload_n hx hb dX3_becomeLike_73 rfl (lv_at hl 1 rfl) ?_
  refine fg_X3_43 (o := a1) hc hw hf_a1.2 hf_a1.1 dX3_becomeLike_74 ?_
  refine fp_X3_43 (o := o0) hc hw hf_o0.2 hf_o0.1 dX3_becomeLike_77 (fun σ11 H locs eσ11 hw => ?_)
  replace h := h σ11 eσ11
  refine lv_aload_n hx hb dX3_becomeLike_80 rfl (lv_at hl 0 rfl) ?_
  refine lv_aload_n hx hb dX3_becomeLike_81 rfl (lv_at hl 1 rfl) ?_
  refine fg_X3_46 (o := a1) hc hw hf_a1.2 hf_a1.1 dX3_becomeLike_82 ?_
  refine fp_X3_46 (o := o0) hc hw hf_o0.2 hf_o0.1 dX3_becomeLike_85 (fun σ12 H locs eσ12 hw => ?_)
  replace h := h σ12 eσ12
  refine lv_aload_n hx hb dX3_becomeLike_88 rfl (lv_at hl 0 rfl) ?_
  refine lv_aload_n hx hb dX3_becomeLike_89 rfl (lv_at hl 1 rfl) ?_
  refine fg_X3_49 (o := a1) hc hw hf_a1.2 hf_a1.1 dX3_becomeLike_90 ?_
  refine fp_X3_49 (o := o0) hc hw hf_o0.2 hf_o0.1 dX3_becomeLike_93 (fun σ13 H locs eσ13 hw => ?_)
  replace h := h σ13 eσ13
  refine lv_aload_n hx hb dX3_becomeLike_96 rfl (lv_at hl 0 rfl) ?_
  refine lv_aload_n hx hb dX3_becomeLike_97 rfl (lv_at hl 1 rfl) ?_
  refine fg_X3_52 (o := a1) hc hw hf_a1.2 hf_a1.1 dX3_becomeLike_98 ?_
  refine fp_X3_52 (o := o0) hc hw hf_o0.2 hf_o0.1 dX3_becomeLike_101 (fun σ14 H locs eσ14 hw => ?_)
  replace h := h σ14 eσ14
  refine lv_aload_n hx hb dX3_becomeLike_104 rfl (lv_at hl 0 rfl) ?_
  refine lv_aload_n hx hb dX3_becomeLike_105 rfl (lv_at hl 1 rfl) ?_
  refine fg_X3_55 (o := a1) hc hw hf_a1.2 hf_a1.1 dX3_becomeLike_106 ?_
  refine fp_X3_55 (o := o0) hc hw hf_o0.2 hf_o0.1 dX3_becomeLike_109 (fun σ15 H locs eσ15 hw => ?_)
  replace h := h σ15 eσ15
  refine lv_aload_n hx hb dX3_becomeLike_112 rfl (lv_at hl 0 rfl) ?_
  refine lv_aload_n hx hb dX3_becomeLike_113 rfl (lv_at hl 1 rfl) ?_
  refine fg_X3_58 (o := a1) hc hw hf_a1.2 hf_a1.1 dX3_becomeLike_114 ?_
  refine fp_X3_58 (o := o0) hc hw hf_o0.2 hf_o0.1 dX3_becomeLike_117 (fun σ16 H locs eσ16 hw => ?_)
  replace h := h σ16 eσ16
  refine lv_aload_n hx hb dX3_becomeLike_120 rfl (lv_at hl 0 rfl) ?_
  refine lv_aload_n hx hb dX3_becomeLike_121 rfl (lv_at hl 1 rfl) ?_
  refine fg_X3_61 (o := a1) hc hw hf_a1.2 hf_a1.1 dX3_becomeLike_122 ?_
  refine fp_X3_61 (o := o0) hc hw hf_o0.2 hf_o0.1 dX3_becomeLike_125 (fun σ17 H locs eσ17 hw => ?_)
  replace h := h σ17 eσ17
  exact g_vret hc hr hw h dX3_becomeLike_128
def w_X3_flickerBy (M : Nat) (post : St → Prop) (o0 : Nat) (a1 : Int32) (σ : St) : Prop :=
  (kdC o0 = 3 ∧ o0 < M) ∧ (∀ σ1 : St, σ1 = sl σ o0 ((a1 + 1).toInt64) → (post σ1))
set_option maxHeartbeats 4000000 in
set_option maxRecDepth 20000 in
theorem m_X3_flickerBy {Γ : Gm} {ad : Nat → Nat} {M : Nat} (l : Launch) (hM : 53 ≤ M) {post : St → Prop} (o0 : Nat) (a1 : Int32) (σ : St) (h : w_X3_flickerBy M post o0 a1 σ) : Cv l Γ YC M ad σ yX3_flickerBy cX3_flickerBy 2 none 0 0 0 [.ref (ad o0), .int a1] post := by
  refine g_start (by decide) (Nat.le_of_ble_eq_true rfl) ?_
  intro p e s m args below meth c ls hc hr hn hl hw
  have hc : CX Γ p s m args meth c cX3_flickerBy RX3 2 := hc
  have hl : lv_has ls 2 [(0, .ref (ad o0)), (1, .int a1)] := hl
  have hx := hc.1
  have hb := hc.2.1
  unfold w_X3_flickerBy at h
  have hf_o0 := h.1
  replace h := h.2
  generalize hHH : s.heap = H0 at hw ⊢
  refine lv_aload_n hx hb dX3_flickerBy_0 rfl (lv_at hl 0 rfl) ?_
  refine lv_iload_n hx hb dX3_flickerBy_1 rfl (lv_at hl 1 rfl) ?_
  refine lv_iconst (v := 1) hx hb dX3_flickerBy_2 (by decide) ?_
  refine lv_iadd hx hb dX3_flickerBy_3 ?_
  refine lv_i2l (v := (a1 + 1).toInt64) hx hb dX3_flickerBy_4 rfl ?_
  refine fp_X3_17 (o := o0) hc hw hf_o0.2 hf_o0.1 dX3_flickerBy_5 (fun σ1 H locs eσ1 hw => ?_)
  replace h := h σ1 eσ1
  exact g_vret hc hr hw h dX3_flickerBy_8
def w_X3_pourIn (M : Nat) (post : St → Prop) (o0 : Nat) (a1 : Int32) (a2 : Int32) (σ : St) : Prop :=
  (kdC o0 = 3 ∧ o0 < M) ∧ (∀ x1 : Int32, x1 = (if ((gi σ o0 4) + a1) < 9999 then ((gi σ o0 4) + a1) else 9999) → (∀ σ2 : St, σ2 = si σ o0 4 x1 → (∀ x3 : Int32, x3 = (gi σ2 o0 5) + ((a1 * a2) / 4) → (∀ x4 : Int32, x4 = (if x3 < 99 then x3 else 99) → (∀ σ5 : St, σ5 = si σ2 o0 5 x4 → (∀ x6 : Int32, x6 = (if 0 < ((gi σ5 o0 6) - (a1 / 2)) then ((gi σ5 o0 6) - (a1 / 2)) else 0) → (∀ σ7 : St, σ7 = si σ5 o0 6 x6 → (post σ7))))))))
set_option maxHeartbeats 4000000 in
set_option maxRecDepth 20000 in
theorem m_X3_pourIn {Γ : Gm} {ad : Nat → Nat} {M : Nat} (l : Launch) (hM : 53 ≤ M) {post : St → Prop} (o0 : Nat) (a1 : Int32) (a2 : Int32) (σ : St) (h : w_X3_pourIn M post o0 a1 a2 σ) : Cv l Γ YC M ad σ yX3_pourIn cX3_pourIn 3 none 0 0 0 [.ref (ad o0), .int a1, .int a2] post := by
  refine g_start (by decide) (Nat.le_of_ble_eq_true rfl) ?_
  intro p e s m args below meth c ls hc hr hn hl hw
  have hc : CX Γ p s m args meth c cX3_pourIn RX3 3 := hc
  have hl : lv_has ls 3 [(0, .ref (ad o0)), (1, .int a1), (2, .int a2)] := hl
  have hx := hc.1
  have hb := hc.2.1
  unfold w_X3_pourIn at h
  have hf_o0 := h.1
  replace h := h.2
  generalize hHH : s.heap = H0 at hw ⊢
  refine lv_aload_n hx hb dX3_pourIn_0 rfl (lv_at hl 0 rfl) ?_
  refine lv_sipush (v := 9999) hx hb dX3_pourIn_1 (by decide) ?_
  refine lv_aload_n hx hb dX3_pourIn_4 rfl (lv_at hl 0 rfl) ?_
  refine fg_X3_25 (o := o0) hc hw hf_o0.2 hf_o0.1 dX3_pourIn_5 ?_
  refine lv_iload_n hx hb dX3_pourIn_8 rfl (lv_at hl 1 rfl) ?_
  refine lv_iadd hx hb dX3_pourIn_9 ?_
  refine g_min q_655 q_360 q_85 q_361 hc hl.1 ⟨Nat.le_of_ble_eq_true rfl, Nat.le_of_ble_eq_true rfl, Nat.zero_le _, Nat.zero_le _⟩ (Nat.le_of_ble_eq_true rfl) dX3_pourIn_10 ?_
  refine lv_topi (fun x1 ex1 => ?_)
  replace h := h x1 ex1
  refine fp_X3_25 (o := o0) hc hw hf_o0.2 hf_o0.1 dX3_pourIn_13 (fun σ2 H locs eσ2 hw => ?_)
  replace h := h σ2 eσ2
  refine lv_aload_n hx hb dX3_pourIn_16 rfl (lv_at hl 0 rfl) ?_
  refine lv_bipush (v := 99) hx hb dX3_pourIn_17 (by decide) ?_
  refine lv_aload_n hx hb dX3_pourIn_19 rfl (lv_at hl 0 rfl) ?_
  refine fg_X3_28 (o := o0) hc hw hf_o0.2 hf_o0.1 dX3_pourIn_20 ?_
  refine lv_iload_n hx hb dX3_pourIn_23 rfl (lv_at hl 1 rfl) ?_
  refine lv_iload_n hx hb dX3_pourIn_24 rfl (lv_at hl 2 rfl) ?_
  refine lv_imul hx hb dX3_pourIn_25 ?_
  refine lv_iconst (v := 4) hx hb dX3_pourIn_26 (by decide) ?_
  refine lv_idiv hx hb dX3_pourIn_27 (by decide) ?_
  refine lv_iadd hx hb dX3_pourIn_28 ?_
  refine lv_topi (fun x3 ex3 => ?_)
  replace h := h x3 ex3
  refine g_min q_655 q_360 q_85 q_361 hc hl.1 ⟨Nat.le_of_ble_eq_true rfl, Nat.le_of_ble_eq_true rfl, Nat.zero_le _, Nat.zero_le _⟩ (Nat.le_of_ble_eq_true rfl) dX3_pourIn_29 ?_
  refine lv_topi (fun x4 ex4 => ?_)
  replace h := h x4 ex4
  refine fp_X3_28 (o := o0) hc hw hf_o0.2 hf_o0.1 dX3_pourIn_32 (fun σ5 H locs eσ5 hw => ?_)
  replace h := h σ5 eσ5
  refine lv_aload_n hx hb dX3_pourIn_35 rfl (lv_at hl 0 rfl) ?_
  refine lv_iconst (v := 0) hx hb dX3_pourIn_36 (by decide) ?_
  refine lv_aload_n hx hb dX3_pourIn_37 rfl (lv_at hl 0 rfl) ?_
  refine fg_X3_31 (o := o0) hc hw hf_o0.2 hf_o0.1 dX3_pourIn_38 ?_
  refine lv_iload_n hx hb dX3_pourIn_41 rfl (lv_at hl 1 rfl) ?_
  refine lv_iconst (v := 2) hx hb dX3_pourIn_42 (by decide) ?_
  refine lv_idiv hx hb dX3_pourIn_43 (by decide) ?_
  refine lv_isub hx hb dX3_pourIn_44 ?_
  refine g_max q_656 q_357 q_85 q_358 hc hl.1 ⟨Nat.le_of_ble_eq_true rfl, Nat.le_of_ble_eq_true rfl, Nat.zero_le _, Nat.zero_le _⟩ (Nat.le_of_ble_eq_true rfl) dX3_pourIn_45 ?_
  refine lv_topi (fun x6 ex6 => ?_)
  replace h := h x6 ex6
  refine fp_X3_31 (o := o0) hc hw hf_o0.2 hf_o0.1 dX3_pourIn_48 (fun σ7 H locs eσ7 hw => ?_)
  replace h := h σ7 eσ7
  exact g_vret hc hr hw h dX3_pourIn_51
def w_X3_beat (M : Nat) (post : St → Prop) (o0 : Nat) (a1 : Int32) (σ : St) : Prop :=
  (kdC o0 = 3 ∧ o0 < M) ∧ (∀ x1 : Int32, x1 = (1 + (gi σ o0 12)) + ((gi σ o0 8) / 20) → (∀ x2 : Int32, x2 = (if (a1 * x1) < (gi σ o0 11) then (a1 * x1) else (gi σ o0 11)) → (∀ σ3 : St, σ3 = si σ o0 11 ((gi σ o0 11) - x2) → (∀ σ4 : St, σ4 = si σ3 o0 10 ((gi σ3 o0 10) + x2) → (∀ x5 : Int32, x5 = (if 0 < ((gi σ4 o0 13) - a1) then ((gi σ4 o0 13) - a1) else 0) → (∀ σ6 : St, σ6 = si σ4 o0 13 x5 → (post σ6)))))))
set_option maxHeartbeats 4000000 in
set_option maxRecDepth 20000 in
theorem m_X3_beat {Γ : Gm} {ad : Nat → Nat} {M : Nat} (l : Launch) (hM : 53 ≤ M) {post : St → Prop} (o0 : Nat) (a1 : Int32) (σ : St) (h : w_X3_beat M post o0 a1 σ) : Cv l Γ YC M ad σ yX3_beat cX3_beat 3 none 0 0 0 [.ref (ad o0), .int a1] post := by
  refine g_start (by decide) (Nat.le_of_ble_eq_true rfl) ?_
  intro p e s m args below meth c ls hc hr hn hl hw
  have hc : CX Γ p s m args meth c cX3_beat RX3 3 := hc
  have hl : lv_has ls 3 [(0, .ref (ad o0)), (1, .int a1)] := hl
  have hx := hc.1
  have hb := hc.2.1
  unfold w_X3_beat at h
  have hf_o0 := h.1
  replace h := h.2
  generalize hHH : s.heap = H0 at hw ⊢
  refine lv_aload_n hx hb dX3_beat_0 rfl (lv_at hl 0 rfl) ?_
  refine fg_X3_46 (o := o0) hc hw hf_o0.2 hf_o0.1 dX3_beat_1 ?_
  refine lv_iload_n hx hb dX3_beat_4 rfl (lv_at hl 1 rfl) ?_
  refine lv_iconst (v := 1) hx hb dX3_beat_5 (by decide) ?_
  refine lv_aload_n hx hb dX3_beat_6 rfl (lv_at hl 0 rfl) ?_
  refine fg_X3_49 (o := o0) hc hw hf_o0.2 hf_o0.1 dX3_beat_7 ?_
  refine lv_iadd hx hb dX3_beat_10 ?_
  refine lv_aload_n hx hb dX3_beat_11 rfl (lv_at hl 0 rfl) ?_
  refine fg_X3_37 (o := o0) hc hw hf_o0.2 hf_o0.1 dX3_beat_12 ?_
  refine lv_bipush (v := 20) hx hb dX3_beat_15 (by decide) ?_
  refine lv_idiv hx hb dX3_beat_17 (by decide) ?_
  refine lv_iadd hx hb dX3_beat_18 ?_
  refine lv_topi (fun x1 ex1 => ?_)
  replace h := h x1 ex1
  refine lv_imul hx hb dX3_beat_19 ?_
  refine g_min q_655 q_360 q_85 q_361 hc hl.1 ⟨Nat.le_of_ble_eq_true rfl, Nat.le_of_ble_eq_true rfl, Nat.zero_le _, Nat.zero_le _⟩ (Nat.le_of_ble_eq_true rfl) dX3_beat_20 ?_
  refine lv_topi (fun x2 ex2 => ?_)
  replace h := h x2 ex2
  refine lv_istore_n (lv' := [(2, .int x2), (0, .ref (ad o0)), (1, .int a1)]) hx hb dX3_beat_23 rfl hl (by decide) rfl (fun ls hl => ?_)
  refine lv_aload_n hx hb dX3_beat_24 rfl (lv_at hl 1 rfl) ?_
  refine lv_dup hx hb dX3_beat_25 rfl ?_
  refine fg_X3_46 (o := o0) hc hw hf_o0.2 hf_o0.1 dX3_beat_26 ?_
  refine lv_iload_n hx hb dX3_beat_29 rfl (lv_at hl 0 rfl) ?_
  refine lv_isub hx hb dX3_beat_30 ?_
  refine fp_X3_46 (o := o0) hc hw hf_o0.2 hf_o0.1 dX3_beat_31 (fun σ3 H locs eσ3 hw => ?_)
  replace h := h σ3 eσ3
  refine lv_aload_n hx hb dX3_beat_34 rfl (lv_at hl 1 rfl) ?_
  refine lv_dup hx hb dX3_beat_35 rfl ?_
  refine fg_X3_43 (o := o0) hc hw hf_o0.2 hf_o0.1 dX3_beat_36 ?_
  refine lv_iload_n hx hb dX3_beat_39 rfl (lv_at hl 0 rfl) ?_
  refine lv_iadd hx hb dX3_beat_40 ?_
  refine fp_X3_43 (o := o0) hc hw hf_o0.2 hf_o0.1 dX3_beat_41 (fun σ4 H locs eσ4 hw => ?_)
  replace h := h σ4 eσ4
  refine lv_aload_n hx hb dX3_beat_44 rfl (lv_at hl 1 rfl) ?_
  refine lv_iconst (v := 0) hx hb dX3_beat_45 (by decide) ?_
  refine lv_aload_n hx hb dX3_beat_46 rfl (lv_at hl 1 rfl) ?_
  refine fg_X3_52 (o := o0) hc hw hf_o0.2 hf_o0.1 dX3_beat_47 ?_
  refine lv_iload_n hx hb dX3_beat_50 rfl (lv_at hl 2 rfl) ?_
  refine lv_isub hx hb dX3_beat_51 ?_
  refine g_max q_656 q_357 q_85 q_358 hc hl.1 ⟨Nat.le_of_ble_eq_true rfl, Nat.le_of_ble_eq_true rfl, Nat.zero_le _, Nat.zero_le _⟩ (Nat.le_of_ble_eq_true rfl) dX3_beat_52 ?_
  refine lv_topi (fun x5 ex5 => ?_)
  replace h := h x5 ex5
  refine fp_X3_52 (o := o0) hc hw hf_o0.2 hf_o0.1 dX3_beat_55 (fun σ6 H locs eσ6 hw => ?_)
  replace h := h σ6 eσ6
  exact g_vret hc hr hw h dX3_beat_58
def w_X3_flicker (M : Nat) (post : Int32 → St → Prop) (o0 : Nat) (σ : St) : Prop :=
  (kdC o0 = 3 ∧ o0 < M) ∧ (((lg_cmp (gl σ o0) 0) = 0 → (post 0 σ)) ∧ (¬ ((lg_cmp (gl σ o0) 0) = 0) → (∀ y2 : Int64, y2 = ((gl σ o0) * 48271) - ((gl σ o0) * 48271) / 2147483647 * 2147483647 → (∀ σ3 : St, σ3 = sl σ o0 y2 → (∀ y4 : Int64, y4 = (gl σ3 o0) - (gl σ3 o0) / 9 * 9 → (post (y4.toInt32 - 4) σ3))))))
set_option maxHeartbeats 4000000 in
set_option maxRecDepth 20000 in
theorem m_X3_flicker {Γ : Gm} {ad : Nat → Nat} {M : Nat} (l : Launch) (hM : 53 ≤ M) {post : Int32 → St → Prop} (o0 : Nat) (σ : St) (h : w_X3_flicker M post o0 σ) : Ci l Γ YC M ad σ yX3_flicker cX3_flicker 1 (Option.some Jvm.ClassFile.FieldType.int) 0 0 0 [.ref (ad o0)] post := by
  refine g_start (by decide) (Nat.le_of_ble_eq_true rfl) ?_
  intro p e s m args below meth c ls hc hr hn hl hw
  have hc : CX Γ p s m args meth c cX3_flicker RX3 1 := hc
  have hl : lv_has ls 1 [(0, .ref (ad o0))] := hl
  have hx := hc.1
  have hb := hc.2.1
  unfold w_X3_flicker at h
  have hf_o0 := h.1
  replace h := h.2
  generalize hHH : s.heap = H0 at hw ⊢
  refine lv_aload_n hx hb dX3_flicker_0 rfl (lv_at hl 0 rfl) ?_
  refine fg_X3_17 (o := o0) hc hw hf_o0.2 hf_o0.1 dX3_flicker_1 ?_
  refine lv_lconst (v := 0) hx hb dX3_flicker_4 (by decide) ?_
  refine W.lcmp hx hb dX3_flicker_5 ?_
  refine lv_if_ne (tgt := 11) hx hb dX3_flicker_6 (by decide) (fun c1 => ?_) (fun c1 => ?_)
  · replace h := h.2 c1
    refine lv_aload_n hx hb dX3_flicker_11 rfl (lv_at hl 0 rfl) ?_
    refine lv_aload_n hx hb dX3_flicker_12 rfl (lv_at hl 0 rfl) ?_
    refine fg_X3_17 (o := o0) hc hw hf_o0.2 hf_o0.1 dX3_flicker_13 ?_
    refine lv_ldc2 (v := 48271) hx hb hc.2.2.2.1 (hc.2.2.2.2.1 _ q_676) dX3_flicker_16 ?_
    refine lv_lmul hx hb dX3_flicker_19 ?_
    refine lv_ldc2 (v := 2147483647) hx hb hc.2.2.2.1 (hc.2.2.2.2.1 _ q_677) dX3_flicker_20 ?_
    refine lv_lrem hx hb dX3_flicker_23 (by decide) ?_
    refine lv_topl (fun y2 ey2 => ?_)
    replace h := h y2 ey2
    refine fp_X3_17 (o := o0) hc hw hf_o0.2 hf_o0.1 dX3_flicker_24 (fun σ3 H locs eσ3 hw => ?_)
    replace h := h σ3 eσ3
    refine lv_aload_n hx hb dX3_flicker_27 rfl (lv_at hl 0 rfl) ?_
    refine fg_X3_17 (o := o0) hc hw hf_o0.2 hf_o0.1 dX3_flicker_28 ?_
    refine lv_ldc2 (v := 9) hx hb hc.2.2.2.1 (hc.2.2.2.2.1 _ q_678) dX3_flicker_31 ?_
    refine lv_lrem hx hb dX3_flicker_34 (by decide) ?_
    refine lv_topl (fun y4 ey4 => ?_)
    replace h := h y4 ey4
    refine lv_l2i (v := y4.toInt32) hx hb dX3_flicker_35 rfl ?_
    refine lv_iconst (v := 4) hx hb dX3_flicker_36 (by decide) ?_
    refine lv_isub hx hb dX3_flicker_37 ?_
    exact g_iret hc hr hw h dX3_flicker_38
  · replace h := h.1 c1
    refine lv_iconst (v := 0) hx hb dX3_flicker_9 (by decide) ?_
    exact g_iret hc hr hw h dX3_flicker_10
def w_X3_settle (M : Nat) (post : St → Prop) (o0 : Nat) (σ : St) : Prop :=
  (kdC o0 = 3 ∧ o0 < M) ∧ (∀ x1 : Int32, x1 = (gi σ o0 10) - ((gi σ o0 10) / 2) → (∀ σ2 : St, σ2 = si σ o0 10 x1 → (∀ x3 : Int32, x3 = (gi σ2 o0 11) + ((gi σ o0 10) / 2) → (∀ σ4 : St, σ4 = si σ2 o0 11 x3 → (((gi σ4 o0 6) ≤ 60 → (post σ4)) ∧ (¬ ((gi σ4 o0 6) ≤ 60) → (∀ x6 : Int32, x6 = (gi σ4 o0 13) + (1 + ((gi σ4 o0 7) / 50)) → (∀ σ7 : St, σ7 = si σ4 o0 13 x6 → (post σ7)))))))))
set_option maxHeartbeats 4000000 in
set_option maxRecDepth 20000 in
theorem m_X3_settle {Γ : Gm} {ad : Nat → Nat} {M : Nat} (l : Launch) (hM : 53 ≤ M) {post : St → Prop} (o0 : Nat) (σ : St) (h : w_X3_settle M post o0 σ) : Cv l Γ YC M ad σ yX3_settle cX3_settle 2 none 0 0 0 [.ref (ad o0)] post := by
  refine g_start (by decide) (Nat.le_of_ble_eq_true rfl) ?_
  intro p e s m args below meth c ls hc hr hn hl hw
  have hc : CX Γ p s m args meth c cX3_settle RX3 2 := hc
  have hl : lv_has ls 2 [(0, .ref (ad o0))] := hl
  have hx := hc.1
  have hb := hc.2.1
  unfold w_X3_settle at h
  have hf_o0 := h.1
  replace h := h.2
  generalize hHH : s.heap = H0 at hw ⊢
  refine lv_aload_n hx hb dX3_settle_0 rfl (lv_at hl 0 rfl) ?_
  refine fg_X3_43 (o := o0) hc hw hf_o0.2 hf_o0.1 dX3_settle_1 ?_
  refine lv_iconst (v := 2) hx hb dX3_settle_4 (by decide) ?_
  refine lv_idiv hx hb dX3_settle_5 (by decide) ?_
  refine lv_istore_n (lv' := [(1, .int ((gi σ o0 10) / 2)), (0, .ref (ad o0))]) hx hb dX3_settle_6 rfl hl (by decide) rfl (fun ls hl => ?_)
  refine lv_aload_n hx hb dX3_settle_7 rfl (lv_at hl 1 rfl) ?_
  refine lv_dup hx hb dX3_settle_8 rfl ?_
  refine fg_X3_43 (o := o0) hc hw hf_o0.2 hf_o0.1 dX3_settle_9 ?_
  refine lv_iload_n hx hb dX3_settle_12 rfl (lv_at hl 0 rfl) ?_
  refine lv_isub hx hb dX3_settle_13 ?_
  refine lv_topi (fun x1 ex1 => ?_)
  replace h := h x1 ex1
  refine fp_X3_43 (o := o0) hc hw hf_o0.2 hf_o0.1 dX3_settle_14 (fun σ2 H locs eσ2 hw => ?_)
  replace h := h σ2 eσ2
  refine lv_aload_n hx hb dX3_settle_17 rfl (lv_at hl 1 rfl) ?_
  refine lv_dup hx hb dX3_settle_18 rfl ?_
  refine fg_X3_46 (o := o0) hc hw hf_o0.2 hf_o0.1 dX3_settle_19 ?_
  refine lv_iload_n hx hb dX3_settle_22 rfl (lv_at hl 0 rfl) ?_
  refine lv_iadd hx hb dX3_settle_23 ?_
  refine lv_topi (fun x3 ex3 => ?_)
  replace h := h x3 ex3
  refine fp_X3_46 (o := o0) hc hw hf_o0.2 hf_o0.1 dX3_settle_24 (fun σ4 H locs eσ4 hw => ?_)
  replace h := h σ4 eσ4
  refine lv_aload_n hx hb dX3_settle_27 rfl (lv_at hl 1 rfl) ?_
  refine fg_X3_31 (o := o0) hc hw hf_o0.2 hf_o0.1 dX3_settle_28 ?_
  refine lv_bipush (v := 60) hx hb dX3_settle_31 (by decide) ?_
  refine lv_icmp_le (tgt := 54) hx hb dX3_settle_33 (by decide) (fun c5 => ?_) (fun c5 => ?_)
  · replace h := h.1 c5
    exact g_vret hc hr hw h dX3_settle_54
  · replace h := h.2 c5
    refine lv_aload_n hx hb dX3_settle_36 rfl (lv_at hl 1 rfl) ?_
    refine lv_dup hx hb dX3_settle_37 rfl ?_
    refine fg_X3_52 (o := o0) hc hw hf_o0.2 hf_o0.1 dX3_settle_38 ?_
    refine lv_iconst (v := 1) hx hb dX3_settle_41 (by decide) ?_
    refine lv_aload_n hx hb dX3_settle_42 rfl (lv_at hl 1 rfl) ?_
    refine fg_X3_34 (o := o0) hc hw hf_o0.2 hf_o0.1 dX3_settle_43 ?_
    refine lv_bipush (v := 50) hx hb dX3_settle_46 (by decide) ?_
    refine lv_idiv hx hb dX3_settle_48 (by decide) ?_
    refine lv_iadd hx hb dX3_settle_49 ?_
    refine lv_iadd hx hb dX3_settle_50 ?_
    refine lv_topi (fun x6 ex6 => ?_)
    replace h := h x6 ex6
    refine fp_X3_52 (o := o0) hc hw hf_o0.2 hf_o0.1 dX3_settle_51 (fun σ7 H locs eσ7 hw => ?_)
    replace h := h σ7 eσ7
    exact g_vret hc hr hw h dX3_settle_54
def w_X3_named (M : Nat) (post : Int32 → St → Prop) (o0 : Nat) (a1 : Int32) (σ : St) : Prop :=
  (kdC o0 = 3 ∧ o0 < M) ∧ ((((-1) - a1) = 0 → (post (gi σ o0 6) σ)) ∧ (¬ (((-1) - a1) = 0) → ((((-1) - a1) = 1 → (post (gi σ o0 5) σ)) ∧ (¬ (((-1) - a1) = 1) → ((((-1) - a1) = 2 → (post (gi σ o0 12) σ)) ∧ (¬ (((-1) - a1) = 2) → ((((-1) - a1) = 3 → (post (gi σ o0 4) σ)) ∧ (¬ (((-1) - a1) = 3) → ((((-1) - a1) = 4 → (post (gi σ o0 9) σ)) ∧ (¬ (((-1) - a1) = 4) → (((gi σ o0 15) ≤ 0 → (post 0 σ)) ∧ (¬ ((gi σ o0 15) ≤ 0) → ((¬ (gi σ o0 15) = 0) ∧ (∀ x7 : Int32, x7 = (gi σ o0 16) / (gi σ o0 15) → (post x7 σ)))))))))))))))
set_option maxHeartbeats 4000000 in
set_option maxRecDepth 20000 in
theorem m_X3_named {Γ : Gm} {ad : Nat → Nat} {M : Nat} (l : Launch) (hM : 53 ≤ M) {post : Int32 → St → Prop} (o0 : Nat) (a1 : Int32) (σ : St) (h : w_X3_named M post o0 a1 σ) : Ci l Γ YC M ad σ yX3_named cX3_named 2 (Option.some Jvm.ClassFile.FieldType.int) 0 0 0 [.ref (ad o0), .int a1] post := by
  refine g_start (by decide) (Nat.le_of_ble_eq_true rfl) ?_
  intro p e s m args below meth c ls hc hr hn hl hw
  have hc : CX Γ p s m args meth c cX3_named RX3 2 := hc
  have hl : lv_has ls 2 [(0, .ref (ad o0)), (1, .int a1)] := hl
  have hx := hc.1
  have hb := hc.2.1
  unfold w_X3_named at h
  have hf_o0 := h.1
  replace h := h.2
  generalize hHH : s.heap = H0 at hw ⊢
  refine lv_iconst (v := (-1)) hx hb dX3_named_0 (by decide) ?_
  refine lv_iload_n hx hb dX3_named_1 rfl (lv_at hl 1 rfl) ?_
  refine lv_isub hx hb dX3_named_2 ?_
  by_cases c1 : ((-1) - a1) = 0
  · replace h := h.1 c1
    refine lv_tableIn (off := 33) (tgt := 36) hx hb dX3_named_3 (by rw [c1]; decide) (by rw [c1]; decide) (by rw [c1]; rfl) (by decide) ?_
    refine lv_aload_n hx hb dX3_named_36 rfl (lv_at hl 0 rfl) ?_
    refine fg_X3_31 (o := o0) hc hw hf_o0.2 hf_o0.1 dX3_named_37 ?_
    exact g_iret hc hr hw h dX3_named_40
  replace h := h.2 c1
  by_cases c2 : ((-1) - a1) = 1
  · replace h := h.1 c2
    refine lv_tableIn (off := 38) (tgt := 41) hx hb dX3_named_3 (by rw [c2]; decide) (by rw [c2]; decide) (by rw [c2]; rfl) (by decide) ?_
    refine lv_aload_n hx hb dX3_named_41 rfl (lv_at hl 0 rfl) ?_
    refine fg_X3_28 (o := o0) hc hw hf_o0.2 hf_o0.1 dX3_named_42 ?_
    exact g_iret hc hr hw h dX3_named_45
  replace h := h.2 c2
  by_cases c3 : ((-1) - a1) = 2
  · replace h := h.1 c3
    refine lv_tableIn (off := 43) (tgt := 46) hx hb dX3_named_3 (by rw [c3]; decide) (by rw [c3]; decide) (by rw [c3]; rfl) (by decide) ?_
    refine lv_aload_n hx hb dX3_named_46 rfl (lv_at hl 0 rfl) ?_
    refine fg_X3_49 (o := o0) hc hw hf_o0.2 hf_o0.1 dX3_named_47 ?_
    exact g_iret hc hr hw h dX3_named_50
  replace h := h.2 c3
  by_cases c4 : ((-1) - a1) = 3
  · replace h := h.1 c4
    refine lv_tableIn (off := 48) (tgt := 51) hx hb dX3_named_3 (by rw [c4]; decide) (by rw [c4]; decide) (by rw [c4]; rfl) (by decide) ?_
    refine lv_aload_n hx hb dX3_named_51 rfl (lv_at hl 0 rfl) ?_
    refine fg_X3_25 (o := o0) hc hw hf_o0.2 hf_o0.1 dX3_named_52 ?_
    exact g_iret hc hr hw h dX3_named_55
  replace h := h.2 c4
  by_cases c5 : ((-1) - a1) = 4
  · replace h := h.1 c5
    refine lv_tableIn (off := 53) (tgt := 56) hx hb dX3_named_3 (by rw [c5]; decide) (by rw [c5]; decide) (by rw [c5]; rfl) (by decide) ?_
    refine lv_aload_n hx hb dX3_named_56 rfl (lv_at hl 0 rfl) ?_
    refine fg_X3_40 (o := o0) hc hw hf_o0.2 hf_o0.1 dX3_named_57 ?_
    exact g_iret hc hr hw h dX3_named_60
  replace h := h.2 c5
  refine lv_tableOut (tgt := 61) hx hb dX3_named_3 (by have zc1 := lv_neT (a := 0) c1 (by decide); have zc2 := lv_neT (a := 1) c2 (by decide); have zc3 := lv_neT (a := 2) c3 (by decide); have zc4 := lv_neT (a := 3) c4 (by decide); have zc5 := lv_neT (a := 4) c5 (by decide); omega) (by decide) ?_
  refine lv_aload_n hx hb dX3_named_61 rfl (lv_at hl 0 rfl) ?_
  refine fg_X3_58 (o := o0) hc hw hf_o0.2 hf_o0.1 dX3_named_62 ?_
  refine lv_if_le (tgt := 80) hx hb dX3_named_65 (by decide) (fun c6 => ?_) (fun c6 => ?_)
  · replace h := h.1 c6
    refine lv_iconst (v := 0) hx hb dX3_named_80 (by decide) ?_
    exact g_iret hc hr hw h dX3_named_81
  · replace h := h.2 c6
    refine lv_aload_n hx hb dX3_named_68 rfl (lv_at hl 0 rfl) ?_
    refine fg_X3_61 (o := o0) hc hw hf_o0.2 hf_o0.1 dX3_named_69 ?_
    refine lv_aload_n hx hb dX3_named_72 rfl (lv_at hl 0 rfl) ?_
    refine fg_X3_58 (o := o0) hc hw hf_o0.2 hf_o0.1 dX3_named_73 ?_
    refine lv_idiv hx hb dX3_named_76 h.1 ?_
    replace h := h.2
    refine lv_topi (fun x7 ex7 => ?_)
    replace h := h x7 ex7
    refine lv_goto (tgt := 81) hx hb dX3_named_77 (by decide) ?_
    exact g_iret hc hr hw h dX3_named_81
def w_X3_thickness (M : Nat) (post : Int32 → St → Prop) (o0 : Nat) (σ : St) : Prop :=
  (kdC o0 = 3 ∧ o0 < M) ∧ (∀ x1 : Int32, x1 = (gi σ o0 8) + (3 * (gi σ o0 12)) → (∀ x2 : Int32, x2 = (if 1 < ((gi σ o0 4) / 10) then ((gi σ o0 4) / 10) else 1) → ((¬ x2 = 0) ∧ (post ((x1 + (gi σ o0 10)) / x2) σ))))
set_option maxHeartbeats 4000000 in
set_option maxRecDepth 20000 in
theorem m_X3_thickness {Γ : Gm} {ad : Nat → Nat} {M : Nat} (l : Launch) (hM : 53 ≤ M) {post : Int32 → St → Prop} (o0 : Nat) (σ : St) (h : w_X3_thickness M post o0 σ) : Ci l Γ YC M ad σ yX3_thickness cX3_thickness 1 (Option.some Jvm.ClassFile.FieldType.int) 0 0 0 [.ref (ad o0)] post := by
  refine g_start (by decide) (Nat.le_of_ble_eq_true rfl) ?_
  intro p e s m args below meth c ls hc hr hn hl hw
  have hc : CX Γ p s m args meth c cX3_thickness RX3 1 := hc
  have hl : lv_has ls 1 [(0, .ref (ad o0))] := hl
  have hx := hc.1
  have hb := hc.2.1
  unfold w_X3_thickness at h
  have hf_o0 := h.1
  replace h := h.2
  generalize hHH : s.heap = H0 at hw ⊢
  refine lv_aload_n hx hb dX3_thickness_0 rfl (lv_at hl 0 rfl) ?_
  refine fg_X3_37 (o := o0) hc hw hf_o0.2 hf_o0.1 dX3_thickness_1 ?_
  refine lv_iconst (v := 3) hx hb dX3_thickness_4 (by decide) ?_
  refine lv_aload_n hx hb dX3_thickness_5 rfl (lv_at hl 0 rfl) ?_
  refine fg_X3_49 (o := o0) hc hw hf_o0.2 hf_o0.1 dX3_thickness_6 ?_
  refine lv_imul hx hb dX3_thickness_9 ?_
  refine lv_iadd hx hb dX3_thickness_10 ?_
  refine lv_topi (fun x1 ex1 => ?_)
  replace h := h x1 ex1
  refine lv_aload_n hx hb dX3_thickness_11 rfl (lv_at hl 0 rfl) ?_
  refine fg_X3_43 (o := o0) hc hw hf_o0.2 hf_o0.1 dX3_thickness_12 ?_
  refine lv_iadd hx hb dX3_thickness_15 ?_
  refine lv_iconst (v := 1) hx hb dX3_thickness_16 (by decide) ?_
  refine lv_aload_n hx hb dX3_thickness_17 rfl (lv_at hl 0 rfl) ?_
  refine fg_X3_25 (o := o0) hc hw hf_o0.2 hf_o0.1 dX3_thickness_18 ?_
  refine lv_bipush (v := 10) hx hb dX3_thickness_21 (by decide) ?_
  refine lv_idiv hx hb dX3_thickness_23 (by decide) ?_
  refine g_max q_656 q_357 q_85 q_358 hc hl.1 ⟨Nat.le_of_ble_eq_true rfl, Nat.le_of_ble_eq_true rfl, Nat.zero_le _, Nat.zero_le _⟩ (Nat.le_of_ble_eq_true rfl) dX3_thickness_24 ?_
  refine lv_topi (fun x2 ex2 => ?_)
  replace h := h x2 ex2
  refine lv_idiv hx hb dX3_thickness_27 h.1 ?_
  replace h := h.2
  exact g_iret hc hr hw h dX3_thickness_28
def w_X3_holdsNow (M : Nat) (post : Int32 → St → Prop) (o0 : Nat) (σ : St) : Prop :=
  (kdC o0 = 3 ∧ o0 < M) ∧ (((gi σ o0 15) = 0 → (post 1 σ)) ∧ (¬ ((gi σ o0 15) = 0) → ((((gi σ o0 9) + (gi σ o0 10)) < (4 * (gi σ o0 11)) → (post 0 σ)) ∧ (¬ (((gi σ o0 9) + (gi σ o0 10)) < (4 * (gi σ o0 11))) → (post 1 σ)))))
set_option maxHeartbeats 4000000 in
set_option maxRecDepth 20000 in
theorem m_X3_holdsNow {Γ : Gm} {ad : Nat → Nat} {M : Nat} (l : Launch) (hM : 53 ≤ M) {post : Int32 → St → Prop} (o0 : Nat) (σ : St) (h : w_X3_holdsNow M post o0 σ) : Ci l Γ YC M ad σ yX3_holdsNow cX3_holdsNow 1 (Option.some Jvm.ClassFile.FieldType.boolean) 0 0 0 [.ref (ad o0)] post := by
  refine g_start (by decide) (Nat.le_of_ble_eq_true rfl) ?_
  intro p e s m args below meth c ls hc hr hn hl hw
  have hc : CX Γ p s m args meth c cX3_holdsNow RX3 1 := hc
  have hl : lv_has ls 1 [(0, .ref (ad o0))] := hl
  have hx := hc.1
  have hb := hc.2.1
  unfold w_X3_holdsNow at h
  have hf_o0 := h.1
  replace h := h.2
  generalize hHH : s.heap = H0 at hw ⊢
  refine lv_aload_n hx hb dX3_holdsNow_0 rfl (lv_at hl 0 rfl) ?_
  refine fg_X3_58 (o := o0) hc hw hf_o0.2 hf_o0.1 dX3_holdsNow_1 ?_
  refine lv_if_eq (tgt := 25) hx hb dX3_holdsNow_4 (by decide) (fun c1 => ?_) (fun c1 => ?_)
  · replace h := h.1 c1
    refine lv_iconst (v := 1) hx hb dX3_holdsNow_25 (by decide) ?_
    refine lv_goto (tgt := 30) hx hb dX3_holdsNow_26 (by decide) ?_
    exact g_zret hc hr hw rfl h dX3_holdsNow_30
  · replace h := h.2 c1
    refine lv_iconst (v := 4) hx hb dX3_holdsNow_7 (by decide) ?_
    refine lv_aload_n hx hb dX3_holdsNow_8 rfl (lv_at hl 0 rfl) ?_
    refine fg_X3_46 (o := o0) hc hw hf_o0.2 hf_o0.1 dX3_holdsNow_9 ?_
    refine lv_imul hx hb dX3_holdsNow_12 ?_
    refine lv_aload_n hx hb dX3_holdsNow_13 rfl (lv_at hl 0 rfl) ?_
    refine fg_X3_40 (o := o0) hc hw hf_o0.2 hf_o0.1 dX3_holdsNow_14 ?_
    refine lv_aload_n hx hb dX3_holdsNow_17 rfl (lv_at hl 0 rfl) ?_
    refine fg_X3_43 (o := o0) hc hw hf_o0.2 hf_o0.1 dX3_holdsNow_18 ?_
    refine lv_iadd hx hb dX3_holdsNow_21 ?_
    refine lv_icmp_gt (tgt := 29) hx hb dX3_holdsNow_22 (by decide) (fun c2 => ?_) (fun c2 => ?_)
    · replace h := h.1 c2
      refine lv_iconst (v := 0) hx hb dX3_holdsNow_29 (by decide) ?_
      exact g_zret hc hr hw rfl h dX3_holdsNow_30
    · replace h := h.2 c2
      refine lv_iconst (v := 1) hx hb dX3_holdsNow_25 (by decide) ?_
      refine lv_goto (tgt := 30) hx hb dX3_holdsNow_26 (by decide) ?_
      exact g_zret hc hr hw rfl h dX3_holdsNow_30
def w_X3_canTell (M : Nat) (post : Int32 → St → Prop) (a1 : Int32) (σ : St) : Prop :=
  (a1 < 0 → (post 0 σ)) ∧ (¬ (a1 < 0) → ((13 < a1 → (post 0 σ)) ∧ (¬ (13 < a1) → (post 1 σ))))
set_option maxHeartbeats 4000000 in
set_option maxRecDepth 20000 in
theorem m_X3_canTell {Γ : Gm} {ad : Nat → Nat} {M : Nat} (l : Launch) (hM : 53 ≤ M) {post : Int32 → St → Prop} (a1 : Int32) (σ : St) (h : w_X3_canTell M post a1 σ) : Ci l Γ YC M ad σ yX3_canTell cX3_canTell 1 (Option.some Jvm.ClassFile.FieldType.boolean) 0 0 0 [.int a1] post := by
  refine g_start (by decide) (Nat.le_of_ble_eq_true rfl) ?_
  intro p e s m args below meth c ls hc hr hn hl hw
  have hc : CX Γ p s m args meth c cX3_canTell RX3 1 := hc
  have hl : lv_has ls 1 [(0, .int a1)] := hl
  have hx := hc.1
  have hb := hc.2.1
  unfold w_X3_canTell at h
  generalize hHH : s.heap = H0 at hw ⊢
  refine lv_iload_n hx hb dX3_canTell_0 rfl (lv_at hl 0 rfl) ?_
  refine lv_if_lt (tgt := 14) hx hb dX3_canTell_1 (by decide) (fun c1 => ?_) (fun c1 => ?_)
  · replace h := h.1 c1
    refine lv_iconst (v := 0) hx hb dX3_canTell_14 (by decide) ?_
    exact g_zret hc hr hw rfl h dX3_canTell_15
  · replace h := h.2 c1
    refine lv_iload_n hx hb dX3_canTell_4 rfl (lv_at hl 0 rfl) ?_
    refine lv_bipush (v := 13) hx hb dX3_canTell_5 (by decide) ?_
    refine lv_icmp_gt (tgt := 14) hx hb dX3_canTell_7 (by decide) (fun c2 => ?_) (fun c2 => ?_)
    · replace h := h.1 c2
      refine lv_iconst (v := 0) hx hb dX3_canTell_14 (by decide) ?_
      exact g_zret hc hr hw rfl h dX3_canTell_15
    · replace h := h.2 c2
      refine lv_iconst (v := 1) hx hb dX3_canTell_10 (by decide) ?_
      refine lv_goto (tgt := 15) hx hb dX3_canTell_11 (by decide) ?_
      exact g_zret hc hr hw rfl h dX3_canTell_15
def w_X3_worth_107 (M : Nat) (post : Int32 → St → Prop) (k_31 : Nat → Int32 → Int32 → Int32 → Int32 → St → Prop) (v0 : Nat) (v2 : Int32) (v3 : Int32) (v4 : Int32) (v5 : Int32) (v6 : Int32) (σ : St) : Prop :=
  (v3 < 1 → (∀ x2 : Int32, x2 = v5 + 1 → (k_31 v0 v2 v3 v4 x2 σ))) ∧ (¬ (v3 < 1) → ((40 < v3 → (∀ x4 : Int32, x4 = v5 + 1 → (k_31 v0 v2 v3 v4 x4 σ))) ∧ (¬ (40 < v3) → ((vp_in (v3 - 1) 40) ∧ (∀ x5 : Int32, x5 = gi σ (v0 + 1) ((v3 - 1).toNatClampNeg) → ((v6 = (-12) → ((vp_in (v3 - 1) 40) ∧ (∀ σ12 : St, σ12 = si σ (v0 + 1) ((v3 - 1).toNatClampNeg) (-x5) → (∀ x13 : Int32, x13 = v5 + 1 → (k_31 v0 v2 v3 v4 x13 σ12))))) ∧ (¬ (v6 = (-12)) → ((x5 = 0 → ((vp_in (v3 - 1) 40) ∧ (∀ σ10 : St, σ10 = si σ (v0 + 1) ((v3 - 1).toNatClampNeg) 1 → (∀ x11 : Int32, x11 = v5 + 1 → (k_31 v0 v2 v3 v4 x11 σ10))))) ∧ (¬ (x5 = 0) → ((vp_in (v3 - 1) 40) ∧ (∀ σ8 : St, σ8 = si σ (v0 + 1) ((v3 - 1).toNatClampNeg) 0 → (∀ x9 : Int32, x9 = v5 + 1 → (k_31 v0 v2 v3 v4 x9 σ8)))))))))))))
set_option maxHeartbeats 4000000 in
set_option maxRecDepth 20000 in
theorem b_X3_worth_107 {Γ : Gm} {ad : Nat → Nat} {p : Program} {l : Launch} {e : Env} {s : State} {m : MethodId} {args : Array Value} {below : List Frame} {meth : Method} {c : Code} {M : Nat} (hM : 53 ≤ M) {post : Int32 → St → Prop} {k_31 : Nat → Int32 → Int32 → Int32 → Int32 → St → Prop} (hk_31 : ∀ (v0 : Nat) (v2 : Int32) (v3 : Int32) (v4 : Int32) (v5 : Int32) (σ : St) (H : Heap) (locs : List Loc) (ls : Array Slot), k_31 v0 v2 v3 v4 v5 σ → kdC v0 = 3 ∧ v0 < M → WH Γ YC M ad σ s H locs → lv_has ls 8 [(0, .ref (ad v0)), (2, .int v2), (3, .int v3), (4, .int v4), (5, .int v5)] → W p l e (rmL 1 0 0) s m args below meth c H locs 0 0 (MQ below (va_Qi post (fun u t => WC Γ YC M ad u t) (AA Γ)) args s 0 0 (AA Γ)) (F0 m 31 ls []))
    (v0 : Nat) (v2 : Int32) (v3 : Int32) (v4 : Int32) (v5 : Int32) (v6 : Int32) (σ : St) (H : Heap) (locs : List Loc) (ls : Array Slot) (h : w_X3_worth_107 M post k_31 v0 v2 v3 v4 v5 v6 σ) (hf_v0 : kdC v0 = 3 ∧ v0 < M) (hc : CX Γ p s m args meth c cX3_worth RX3 8) (hr : meth.sig.returnType = (Option.some Jvm.ClassFile.FieldType.int)) (hw : WH Γ YC M ad σ s H locs) (hl : lv_has ls 8 [(0, .ref (ad v0)), (2, .int v2), (3, .int v3), (4, .int v4), (5, .int v5), (6, .int v6)]) :
    W p l e (rmL 1 0 0) s m args below meth c H locs 0 0 (MQ below (va_Qi post (fun u t => WC Γ YC M ad u t) (AA Γ)) args s 0 0 (AA Γ)) (F0 m 107 ls []) := by
  have hx := hc.1
  have hb := hc.2.1
  unfold w_X3_worth_107 at h
  refine lv_iload_n hx hb dX3_worth_107 rfl (lv_at hl 2 rfl) ?_
  refine lv_iconst (v := 1) hx hb dX3_worth_108 (by decide) ?_
  refine lv_icmp_lt (tgt := 211) hx hb dX3_worth_109 (by decide) (fun c1 => ?_) (fun c1 => ?_)
  · replace h := h.1 c1
    obtain ⟨x2, ex2⟩ : ∃ z, z = v5 + 1 := ⟨_, rfl⟩
    replace h := h x2 ex2
    refine lv_iinc (v := x2) (lv' := [(5, .int x2), (0, .ref (ad v0)), (2, .int v2), (3, .int v3), (4, .int v4), (6, .int v6)]) hx hb dX3_worth_211 hl (k := 4) rfl (by rw [ex2]; rfl) (by decide) rfl (fun ls hl => ?_)
    refine lv_goto (tgt := 31) hx hb dX3_worth_214 (by decide) ?_
    exact hk_31 v0 v2 v3 v4 x2 σ _ _ _ h ⟨hf_v0.1, hf_v0.2⟩ hw (lv_sub hl [1, 2, 3, 4, 0] rfl)
  · replace h := h.2 c1
    refine lv_iload_n hx hb dX3_worth_112 rfl (lv_at hl 2 rfl) ?_
    refine lv_aload_n hx hb dX3_worth_113 rfl (lv_at hl 0 rfl) ?_
    refine fg_X3_9 (o := v0) hc hw hf_v0.2 hf_v0.1 dX3_worth_114 ?_
    refine g_aleni (Y := YC) (kd := 25) (v := 40) (o := (v0 + 1)) (by decide) (by decide) rfl hc hw (Nat.lt_of_lt_of_le (kd3 hf_v0.1).2.1 hM) (kd3 hf_v0.1).1 rfl dX3_worth_117 ?_
    refine lv_icmp_gt (tgt := 211) hx hb dX3_worth_118 (by decide) (fun c3 => ?_) (fun c3 => ?_)
    · replace h := h.1 c3
      obtain ⟨x4, ex4⟩ : ∃ z, z = v5 + 1 := ⟨_, rfl⟩
      replace h := h x4 ex4
      refine lv_iinc (v := x4) (lv' := [(5, .int x4), (0, .ref (ad v0)), (2, .int v2), (3, .int v3), (4, .int v4), (6, .int v6)]) hx hb dX3_worth_211 hl (k := 4) rfl (by rw [ex4]; rfl) (by decide) rfl (fun ls hl => ?_)
      refine lv_goto (tgt := 31) hx hb dX3_worth_214 (by decide) ?_
      exact hk_31 v0 v2 v3 v4 x4 σ _ _ _ h ⟨hf_v0.1, hf_v0.2⟩ hw (lv_sub hl [1, 2, 3, 4, 0] rfl)
    · replace h := h.2 c3
      refine lv_aload_n hx hb dX3_worth_121 rfl (lv_at hl 0 rfl) ?_
      refine fg_X3_9 (o := v0) hc hw hf_v0.2 hf_v0.1 dX3_worth_122 ?_
      refine lv_iload_n hx hb dX3_worth_125 rfl (lv_at hl 2 rfl) ?_
      refine lv_iconst (v := 1) hx hb dX3_worth_126 (by decide) ?_
      refine lv_isub hx hb dX3_worth_127 ?_
      refine g_ialdK (Y := YC) (kd := 25) (n := 40) (k := (v3 - 1).toNatClampNeg) (o := (v0 + 1)) (by decide) (by decide) rfl hc hw (Nat.lt_of_lt_of_le (kd3 hf_v0.1).2.1 hM) (kd3 hf_v0.1).1 rfl h.1 rfl dX3_worth_128 ?_
      replace h := h.2
      refine lv_topi (fun x5 ex5 => ?_)
      replace h := h x5 ex5
      refine lv_istore (lv' := [(7, .int x5), (0, .ref (ad v0)), (2, .int v2), (3, .int v3), (4, .int v4), (5, .int v5), (6, .int v6)]) hx hb dX3_worth_129 hl (by decide) rfl (fun ls hl => ?_)
      refine lv_aload_n hx hb dX3_worth_131 rfl (lv_at hl 1 rfl) ?_
      refine fg_X3_9 (o := v0) hc hw hf_v0.2 hf_v0.1 dX3_worth_132 ?_
      refine lv_iload_n hx hb dX3_worth_135 rfl (lv_at hl 3 rfl) ?_
      refine lv_iconst (v := 1) hx hb dX3_worth_136 (by decide) ?_
      refine lv_isub hx hb dX3_worth_137 ?_
      refine lv_iload hx hb dX3_worth_138 (lv_at hl 6 rfl) ?_
      refine lv_bipush (v := (-12)) hx hb dX3_worth_140 (by decide) ?_
      refine lv_icmp_ne (tgt := 151) hx hb dX3_worth_142 (by decide) (fun c6 => ?_) (fun c6 => ?_)
      · replace h := h.2 c6
        refine lv_iload hx hb dX3_worth_151 (lv_at hl 0 rfl) ?_
        refine lv_if_ne (tgt := 160) hx hb dX3_worth_153 (by decide) (fun c7 => ?_) (fun c7 => ?_)
        · replace h := h.2 c7
          refine lv_iconst (v := 0) hx hb dX3_worth_160 (by decide) ?_
          have hin := h.1
          replace h := h.2
          refine g_iastK (Y := YC) (kd := 25) (n := 40) (k := (v3 - 1).toNatClampNeg) (o := (v0 + 1)) YC_ok (by decide) (by decide) rfl hc hw (Nat.lt_of_lt_of_le (kd3 hf_v0.1).2.1 hM) (kd3 hf_v0.1).1 rfl hin rfl dX3_worth_161 (fun σ8 H locs eσ8 hw => ?_)
          replace h := h σ8 eσ8
          refine lv_goto (tgt := 211) hx hb dX3_worth_162 (by decide) ?_
          obtain ⟨x9, ex9⟩ : ∃ z, z = v5 + 1 := ⟨_, rfl⟩
          replace h := h x9 ex9
          refine lv_iinc (v := x9) (lv' := [(5, .int x9), (7, .int x5), (0, .ref (ad v0)), (2, .int v2), (3, .int v3), (4, .int v4), (6, .int v6)]) hx hb dX3_worth_211 hl (k := 5) rfl (by rw [ex9]; rfl) (by decide) rfl (fun ls hl => ?_)
          refine lv_goto (tgt := 31) hx hb dX3_worth_214 (by decide) ?_
          exact hk_31 v0 v2 v3 v4 x9 σ8 _ _ _ h ⟨hf_v0.1, hf_v0.2⟩ hw (lv_sub hl [2, 3, 4, 5, 0] rfl)
        · replace h := h.1 c7
          refine lv_iconst (v := 1) hx hb dX3_worth_156 (by decide) ?_
          refine lv_goto (tgt := 161) hx hb dX3_worth_157 (by decide) ?_
          have hin := h.1
          replace h := h.2
          refine g_iastK (Y := YC) (kd := 25) (n := 40) (k := (v3 - 1).toNatClampNeg) (o := (v0 + 1)) YC_ok (by decide) (by decide) rfl hc hw (Nat.lt_of_lt_of_le (kd3 hf_v0.1).2.1 hM) (kd3 hf_v0.1).1 rfl hin rfl dX3_worth_161 (fun σ10 H locs eσ10 hw => ?_)
          replace h := h σ10 eσ10
          refine lv_goto (tgt := 211) hx hb dX3_worth_162 (by decide) ?_
          obtain ⟨x11, ex11⟩ : ∃ z, z = v5 + 1 := ⟨_, rfl⟩
          replace h := h x11 ex11
          refine lv_iinc (v := x11) (lv' := [(5, .int x11), (7, .int x5), (0, .ref (ad v0)), (2, .int v2), (3, .int v3), (4, .int v4), (6, .int v6)]) hx hb dX3_worth_211 hl (k := 5) rfl (by rw [ex11]; rfl) (by decide) rfl (fun ls hl => ?_)
          refine lv_goto (tgt := 31) hx hb dX3_worth_214 (by decide) ?_
          exact hk_31 v0 v2 v3 v4 x11 σ10 _ _ _ h ⟨hf_v0.1, hf_v0.2⟩ hw (lv_sub hl [2, 3, 4, 5, 0] rfl)
      · replace h := h.1 c6
        refine lv_iload hx hb dX3_worth_145 (lv_at hl 0 rfl) ?_
        refine lv_ineg hx hb dX3_worth_147 ?_
        refine lv_goto (tgt := 161) hx hb dX3_worth_148 (by decide) ?_
        have hin := h.1
        replace h := h.2
        refine g_iastK (Y := YC) (kd := 25) (n := 40) (k := (v3 - 1).toNatClampNeg) (o := (v0 + 1)) YC_ok (by decide) (by decide) rfl hc hw (Nat.lt_of_lt_of_le (kd3 hf_v0.1).2.1 hM) (kd3 hf_v0.1).1 rfl hin rfl dX3_worth_161 (fun σ12 H locs eσ12 hw => ?_)
        replace h := h σ12 eσ12
        refine lv_goto (tgt := 211) hx hb dX3_worth_162 (by decide) ?_
        obtain ⟨x13, ex13⟩ : ∃ z, z = v5 + 1 := ⟨_, rfl⟩
        replace h := h x13 ex13
        refine lv_iinc (v := x13) (lv' := [(5, .int x13), (7, .int x5), (0, .ref (ad v0)), (2, .int v2), (3, .int v3), (4, .int v4), (6, .int v6)]) hx hb dX3_worth_211 hl (k := 5) rfl (by rw [ex13]; rfl) (by decide) rfl (fun ls hl => ?_)
        refine lv_goto (tgt := 31) hx hb dX3_worth_214 (by decide) ?_
        exact hk_31 v0 v2 v3 v4 x13 σ12 _ _ _ h ⟨hf_v0.1, hf_v0.2⟩ hw (lv_sub hl [2, 3, 4, 5, 0] rfl)
def w_X3_worth_31 (M : Nat) (post : Int32 → St → Prop) (k_31 : Nat → Int32 → Int32 → Int32 → Int32 → St → Prop) (v0 : Nat) (v2 : Int32) (v3 : Int32) (v4 : Int32) (v5 : Int32) (σ : St) : Prop :=
  (v4 ≤ v5 → (∀ x2 : Int32, x2 = (if (gi σ (v0 + 1) 0) < v2 then (gi σ (v0 + 1) 0) else v2) → (∀ x3 : Int32, x3 = (if 0 < x2 then x2 else 0) → (post x3 σ)))) ∧ (¬ (v4 ≤ v5) → (∀ q4 : Option Nat, q4 = gr σ v0 1 → (∃ o5 : Nat, q4 = some o5 ∧ (kdC o5 = 2 ∧ o5 < M) ∧ (w_X2_codeAt M (fun r7 σ6 => ((r7 < (-6) → ((r7 = (-11) → (w_X3_worth_107 M post k_31 v0 v2 v3 v4 v5 r7 σ6)) ∧ (¬ (r7 = (-11)) → ((r7 = (-12) → (w_X3_worth_107 M post k_31 v0 v2 v3 v4 v5 r7 σ6)) ∧ (¬ (r7 = (-12)) → ((v3 < 2 → (∀ x12 : Int32, x12 = v5 + 1 → (k_31 v0 v2 v3 v4 x12 σ6))) ∧ (¬ (v3 < 2) → ((40 < v3 → (∀ x14 : Int32, x14 = v5 + 1 → (k_31 v0 v2 v3 v4 x14 σ6))) ∧ (¬ (40 < v3) → ((vp_in (v3 - 2) 40) ∧ (∀ x15 : Int32, x15 = gi σ6 (v0 + 1) ((v3 - 2).toNatClampNeg) → ((vp_in (v3 - 1) 40) ∧ (∀ x16 : Int32, x16 = gi σ6 (v0 + 1) ((v3 - 1).toNatClampNeg) → (w_X2_joined M (fun r18 σ17 => ((vp_in (v3 - 2) 40) ∧ (∀ σ19 : St, σ19 = si σ17 (v0 + 1) ((v3 - 2).toNatClampNeg) r18 → (∀ x20 : Int32, x20 = v3 + (-1) → (∀ x21 : Int32, x21 = v5 + 1 → (k_31 v0 v2 x20 v4 x21 σ19)))))) r7 x15 x16 σ6)))))))))))))) ∧ (¬ (r7 < (-6)) → ((40 ≤ v3 → (∀ x23 : Int32, x23 = v5 + 1 → (k_31 v0 v2 v3 v4 x23 σ6))) ∧ (¬ (40 ≤ v3) → ((r7 < 0 → (w_X3_named M (fun r26 σ25 => ((vp_in v3 40) ∧ (∀ σ27 : St, σ27 = si σ25 (v0 + 1) v3.toNatClampNeg r26 → (∀ x28 : Int32, x28 = v3 + 1 → (∀ x29 : Int32, x29 = v5 + 1 → (k_31 v0 v2 x28 v4 x29 σ27)))))) v0 r7 σ6)) ∧ (¬ (r7 < 0) → ((vp_in v3 40) ∧ (∀ σ30 : St, σ30 = si σ6 (v0 + 1) v3.toNatClampNeg r7 → (∀ x31 : Int32, x31 = v3 + 1 → (∀ x32 : Int32, x32 = v5 + 1 → (k_31 v0 v2 x31 v4 x32 σ30)))))))))))) o5 v5 σ))))
set_option maxHeartbeats 4000000 in
set_option maxRecDepth 20000 in
theorem b_X3_worth_31 {Γ : Gm} {ad : Nat → Nat} {p : Program} {l : Launch} {e : Env} {s : State} {m : MethodId} {args : Array Value} {below : List Frame} {meth : Method} {c : Code} {M : Nat} (hM : 53 ≤ M) {post : Int32 → St → Prop} {k_31 : Nat → Int32 → Int32 → Int32 → Int32 → St → Prop} (hk_31 : ∀ (v0 : Nat) (v2 : Int32) (v3 : Int32) (v4 : Int32) (v5 : Int32) (σ : St) (H : Heap) (locs : List Loc) (ls : Array Slot), k_31 v0 v2 v3 v4 v5 σ → kdC v0 = 3 ∧ v0 < M → WH Γ YC M ad σ s H locs → lv_has ls 8 [(0, .ref (ad v0)), (2, .int v2), (3, .int v3), (4, .int v4), (5, .int v5)] → W p l e (rmL 1 0 0) s m args below meth c H locs 0 0 (MQ below (va_Qi post (fun u t => WC Γ YC M ad u t) (AA Γ)) args s 0 0 (AA Γ)) (F0 m 31 ls []))
    (v0 : Nat) (v2 : Int32) (v3 : Int32) (v4 : Int32) (v5 : Int32) (σ : St) (H : Heap) (locs : List Loc) (ls : Array Slot) (h : w_X3_worth_31 M post k_31 v0 v2 v3 v4 v5 σ) (hf_v0 : kdC v0 = 3 ∧ v0 < M) (hc : CX Γ p s m args meth c cX3_worth RX3 8) (hr : meth.sig.returnType = (Option.some Jvm.ClassFile.FieldType.int)) (hw : WH Γ YC M ad σ s H locs) (hl : lv_has ls 8 [(0, .ref (ad v0)), (2, .int v2), (3, .int v3), (4, .int v4), (5, .int v5)]) :
    W p l e (rmL 1 0 0) s m args below meth c H locs 0 0 (MQ below (va_Qi post (fun u t => WC Γ YC M ad u t) (AA Γ)) args s 0 0 (AA Γ)) (F0 m 31 ls []) := by
  have hx := hc.1
  have hb := hc.2.1
  unfold w_X3_worth_31 at h
  refine lv_iload hx hb dX3_worth_31 (lv_at hl 4 rfl) ?_
  refine lv_iload hx hb dX3_worth_33 (lv_at hl 3 rfl) ?_
  refine lv_icmp_ge (tgt := 217) hx hb dX3_worth_35 (by decide) (fun c1 => ?_) (fun c1 => ?_)
  · replace h := h.1 c1
    refine lv_iconst (v := 0) hx hb dX3_worth_217 (by decide) ?_
    refine lv_iload_n hx hb dX3_worth_218 rfl (lv_at hl 1 rfl) ?_
    refine lv_aload_n hx hb dX3_worth_219 rfl (lv_at hl 0 rfl) ?_
    refine fg_X3_9 (o := v0) hc hw hf_v0.2 hf_v0.1 dX3_worth_220 ?_
    refine lv_iconst (v := 0) hx hb dX3_worth_223 (by decide) ?_
    refine g_ialdK (Y := YC) (kd := 25) (n := 40) (k := 0) (o := (v0 + 1)) (by decide) (by decide) rfl hc hw (Nat.lt_of_lt_of_le (kd3 hf_v0.1).2.1 hM) (kd3 hf_v0.1).1 rfl (vp_in_lit (by decide)) (by decide) dX3_worth_224 ?_
    refine g_min q_655 q_360 q_85 q_361 hc hl.1 ⟨Nat.le_of_ble_eq_true rfl, Nat.le_of_ble_eq_true rfl, Nat.zero_le _, Nat.zero_le _⟩ (Nat.le_of_ble_eq_true rfl) dX3_worth_225 ?_
    refine lv_topi (fun x2 ex2 => ?_)
    replace h := h x2 ex2
    refine g_max q_656 q_357 q_85 q_358 hc hl.1 ⟨Nat.le_of_ble_eq_true rfl, Nat.le_of_ble_eq_true rfl, Nat.zero_le _, Nat.zero_le _⟩ (Nat.le_of_ble_eq_true rfl) dX3_worth_228 ?_
    refine lv_topi (fun x3 ex3 => ?_)
    replace h := h x3 ex3
    exact g_iret hc hr hw h dX3_worth_231
  · replace h := h.2 c1
    refine lv_aload_n hx hb dX3_worth_38 rfl (lv_at hl 0 rfl) ?_
    refine fg_X3_13 (o := v0) hc hw hf_v0.2 hf_v0.1 dX3_worth_39 ?_
    obtain ⟨q4, eq4⟩ : ∃ z, z = gr σ v0 1 := ⟨_, rfl⟩
    rw [← eq4]
    replace h := h q4 eq4
    refine lv_iload hx hb dX3_worth_42 (lv_at hl 4 rfl) ?_
    obtain ⟨o5, ho_o5, hf_o5, h⟩ := h
    try rw [ho_o5] at hl
    try rw [ho_o5]
    have hl : lv_has ls 8 [(0, .ref (ad v0)), (2, .int v2), (3, .int v3), (4, .int v4), (5, .int v5)] := hl
    refine g_Vi (Y := YC) (ci := 2) (n := 1) (k := 0) (As := [.int v5]) (rest := []) rfl (by decide) vw_X3_137 ⟨Nat.le_of_ble_eq_true rfl, Nat.le_of_ble_eq_true rfl, Nat.zero_le _, Nat.zero_le _⟩ hc hw hl.1 hf_o5.2 hf_o5.1 (m_X2_codeAt l hM o5 v5 σ h) rfl rfl (Nat.le_of_ble_eq_true rfl) dX3_worth_44 (fun r7 σ6 H locs h hw => ?_)
    refine lv_istore (lv' := [(6, .int r7), (0, .ref (ad v0)), (2, .int v2), (3, .int v3), (4, .int v4), (5, .int v5)]) hx hb dX3_worth_47 hl (by decide) rfl (fun ls hl => ?_)
    refine lv_iload hx hb dX3_worth_49 (lv_at hl 0 rfl) ?_
    refine lv_bipush (v := (-6)) hx hb dX3_worth_51 (by decide) ?_
    refine lv_icmp_lt (tgt := 93) hx hb dX3_worth_53 (by decide) (fun c8 => ?_) (fun c8 => ?_)
    · replace h := h.1 c8
      refine lv_iload hx hb dX3_worth_93 (lv_at hl 0 rfl) ?_
      refine lv_bipush (v := (-11)) hx hb dX3_worth_95 (by decide) ?_
      refine lv_icmp_eq (tgt := 107) hx hb dX3_worth_97 (by decide) (fun c9 => ?_) (fun c9 => ?_)
      · replace h := h.1 c9
        exact b_X3_worth_107 hM hk_31 v0 v2 v3 v4 v5 r7 σ6 _ _ _ h ⟨hf_v0.1, hf_v0.2⟩ hc hr hw (lv_sub hl [1, 2, 3, 4, 5, 0] rfl)
      · replace h := h.2 c9
        refine lv_iload hx hb dX3_worth_100 (lv_at hl 0 rfl) ?_
        refine lv_bipush (v := (-12)) hx hb dX3_worth_102 (by decide) ?_
        refine lv_icmp_ne (tgt := 165) hx hb dX3_worth_104 (by decide) (fun c10 => ?_) (fun c10 => ?_)
        · replace h := h.2 c10
          refine lv_iload_n hx hb dX3_worth_165 rfl (lv_at hl 3 rfl) ?_
          refine lv_iconst (v := 2) hx hb dX3_worth_166 (by decide) ?_
          refine lv_icmp_lt (tgt := 211) hx hb dX3_worth_167 (by decide) (fun c11 => ?_) (fun c11 => ?_)
          · replace h := h.1 c11
            obtain ⟨x12, ex12⟩ : ∃ z, z = v5 + 1 := ⟨_, rfl⟩
            replace h := h x12 ex12
            refine lv_iinc (v := x12) (lv' := [(5, .int x12), (6, .int r7), (0, .ref (ad v0)), (2, .int v2), (3, .int v3), (4, .int v4)]) hx hb dX3_worth_211 hl (k := 5) rfl (by rw [ex12]; rfl) (by decide) rfl (fun ls hl => ?_)
            refine lv_goto (tgt := 31) hx hb dX3_worth_214 (by decide) ?_
            exact hk_31 v0 v2 v3 v4 x12 σ6 _ _ _ h ⟨hf_v0.1, hf_v0.2⟩ hw (lv_sub hl [2, 3, 4, 5, 0] rfl)
          · replace h := h.2 c11
            refine lv_iload_n hx hb dX3_worth_170 rfl (lv_at hl 3 rfl) ?_
            refine lv_aload_n hx hb dX3_worth_171 rfl (lv_at hl 1 rfl) ?_
            refine fg_X3_9 (o := v0) hc hw hf_v0.2 hf_v0.1 dX3_worth_172 ?_
            refine g_aleni (Y := YC) (kd := 25) (v := 40) (o := (v0 + 1)) (by decide) (by decide) rfl hc hw (Nat.lt_of_lt_of_le (kd3 hf_v0.1).2.1 hM) (kd3 hf_v0.1).1 rfl dX3_worth_175 ?_
            refine lv_icmp_gt (tgt := 211) hx hb dX3_worth_176 (by decide) (fun c13 => ?_) (fun c13 => ?_)
            · replace h := h.1 c13
              obtain ⟨x14, ex14⟩ : ∃ z, z = v5 + 1 := ⟨_, rfl⟩
              replace h := h x14 ex14
              refine lv_iinc (v := x14) (lv' := [(5, .int x14), (6, .int r7), (0, .ref (ad v0)), (2, .int v2), (3, .int v3), (4, .int v4)]) hx hb dX3_worth_211 hl (k := 5) rfl (by rw [ex14]; rfl) (by decide) rfl (fun ls hl => ?_)
              refine lv_goto (tgt := 31) hx hb dX3_worth_214 (by decide) ?_
              exact hk_31 v0 v2 v3 v4 x14 σ6 _ _ _ h ⟨hf_v0.1, hf_v0.2⟩ hw (lv_sub hl [2, 3, 4, 5, 0] rfl)
            · replace h := h.2 c13
              refine lv_aload_n hx hb dX3_worth_179 rfl (lv_at hl 1 rfl) ?_
              refine fg_X3_9 (o := v0) hc hw hf_v0.2 hf_v0.1 dX3_worth_180 ?_
              refine lv_iload_n hx hb dX3_worth_183 rfl (lv_at hl 3 rfl) ?_
              refine lv_iconst (v := 2) hx hb dX3_worth_184 (by decide) ?_
              refine lv_isub hx hb dX3_worth_185 ?_
              refine lv_iload hx hb dX3_worth_186 (lv_at hl 0 rfl) ?_
              refine lv_aload_n hx hb dX3_worth_188 rfl (lv_at hl 1 rfl) ?_
              refine fg_X3_9 (o := v0) hc hw hf_v0.2 hf_v0.1 dX3_worth_189 ?_
              refine lv_iload_n hx hb dX3_worth_192 rfl (lv_at hl 3 rfl) ?_
              refine lv_iconst (v := 2) hx hb dX3_worth_193 (by decide) ?_
              refine lv_isub hx hb dX3_worth_194 ?_
              refine g_ialdK (Y := YC) (kd := 25) (n := 40) (k := (v3 - 2).toNatClampNeg) (o := (v0 + 1)) (by decide) (by decide) rfl hc hw (Nat.lt_of_lt_of_le (kd3 hf_v0.1).2.1 hM) (kd3 hf_v0.1).1 rfl h.1 rfl dX3_worth_195 ?_
              replace h := h.2
              refine lv_topi (fun x15 ex15 => ?_)
              replace h := h x15 ex15
              refine lv_aload_n hx hb dX3_worth_196 rfl (lv_at hl 1 rfl) ?_
              refine fg_X3_9 (o := v0) hc hw hf_v0.2 hf_v0.1 dX3_worth_197 ?_
              refine lv_iload_n hx hb dX3_worth_200 rfl (lv_at hl 3 rfl) ?_
              refine lv_iconst (v := 1) hx hb dX3_worth_201 (by decide) ?_
              refine lv_isub hx hb dX3_worth_202 ?_
              refine g_ialdK (Y := YC) (kd := 25) (n := 40) (k := (v3 - 1).toNatClampNeg) (o := (v0 + 1)) (by decide) (by decide) rfl hc hw (Nat.lt_of_lt_of_le (kd3 hf_v0.1).2.1 hM) (kd3 hf_v0.1).1 rfl h.1 rfl dX3_worth_203 ?_
              replace h := h.2
              refine lv_topi (fun x16 ex16 => ?_)
              replace h := h x16 ex16
              refine g_Si (Y := YC) (n := 3) (k := 0) (As := [.int r7, .int x15, .int x16]) (rest := [.int (v3 - 2), .ref (ad (v0 + 1))]) vw_X3_143 ⟨Nat.le_of_ble_eq_true rfl, Nat.le_of_ble_eq_true rfl, Nat.zero_le _, Nat.zero_le _⟩ hc hw hl.1 (m_X2_joined l hM r7 x15 x16 σ6 h) rfl rfl (Nat.le_of_ble_eq_true rfl) dX3_worth_204 (fun r18 σ17 H locs h hw => ?_)
              have hin := h.1
              replace h := h.2
              refine g_iastK (Y := YC) (kd := 25) (n := 40) (k := (v3 - 2).toNatClampNeg) (o := (v0 + 1)) YC_ok (by decide) (by decide) rfl hc hw (Nat.lt_of_lt_of_le (kd3 hf_v0.1).2.1 hM) (kd3 hf_v0.1).1 rfl hin rfl dX3_worth_207 (fun σ19 H locs eσ19 hw => ?_)
              replace h := h σ19 eσ19
              obtain ⟨x20, ex20⟩ : ∃ z, z = v3 + (-1) := ⟨_, rfl⟩
              replace h := h x20 ex20
              refine lv_iinc (v := x20) (lv' := [(3, .int x20), (6, .int r7), (0, .ref (ad v0)), (2, .int v2), (4, .int v4), (5, .int v5)]) hx hb dX3_worth_208 hl (k := 3) rfl (by rw [ex20]; rfl) (by decide) rfl (fun ls hl => ?_)
              obtain ⟨x21, ex21⟩ : ∃ z, z = v5 + 1 := ⟨_, rfl⟩
              replace h := h x21 ex21
              refine lv_iinc (v := x21) (lv' := [(5, .int x21), (3, .int x20), (6, .int r7), (0, .ref (ad v0)), (2, .int v2), (4, .int v4)]) hx hb dX3_worth_211 hl (k := 5) rfl (by rw [ex21]; rfl) (by decide) rfl (fun ls hl => ?_)
              refine lv_goto (tgt := 31) hx hb dX3_worth_214 (by decide) ?_
              exact hk_31 v0 v2 x20 v4 x21 σ19 _ _ _ h ⟨hf_v0.1, hf_v0.2⟩ hw (lv_sub hl [3, 4, 1, 5, 0] rfl)
        · replace h := h.1 c10
          exact b_X3_worth_107 hM hk_31 v0 v2 v3 v4 v5 r7 σ6 _ _ _ h ⟨hf_v0.1, hf_v0.2⟩ hc hr hw (lv_sub hl [1, 2, 3, 4, 5, 0] rfl)
    · replace h := h.2 c8
      refine lv_iload_n hx hb dX3_worth_56 rfl (lv_at hl 3 rfl) ?_
      refine lv_aload_n hx hb dX3_worth_57 rfl (lv_at hl 1 rfl) ?_
      refine fg_X3_9 (o := v0) hc hw hf_v0.2 hf_v0.1 dX3_worth_58 ?_
      refine g_aleni (Y := YC) (kd := 25) (v := 40) (o := (v0 + 1)) (by decide) (by decide) rfl hc hw (Nat.lt_of_lt_of_le (kd3 hf_v0.1).2.1 hM) (kd3 hf_v0.1).1 rfl dX3_worth_61 ?_
      refine lv_icmp_ge (tgt := 211) hx hb dX3_worth_62 (by decide) (fun c22 => ?_) (fun c22 => ?_)
      · replace h := h.1 c22
        obtain ⟨x23, ex23⟩ : ∃ z, z = v5 + 1 := ⟨_, rfl⟩
        replace h := h x23 ex23
        refine lv_iinc (v := x23) (lv' := [(5, .int x23), (6, .int r7), (0, .ref (ad v0)), (2, .int v2), (3, .int v3), (4, .int v4)]) hx hb dX3_worth_211 hl (k := 5) rfl (by rw [ex23]; rfl) (by decide) rfl (fun ls hl => ?_)
        refine lv_goto (tgt := 31) hx hb dX3_worth_214 (by decide) ?_
        exact hk_31 v0 v2 v3 v4 x23 σ6 _ _ _ h ⟨hf_v0.1, hf_v0.2⟩ hw (lv_sub hl [2, 3, 4, 5, 0] rfl)
      · replace h := h.2 c22
        refine lv_aload_n hx hb dX3_worth_65 rfl (lv_at hl 1 rfl) ?_
        refine fg_X3_9 (o := v0) hc hw hf_v0.2 hf_v0.1 dX3_worth_66 ?_
        refine lv_iload_n hx hb dX3_worth_69 rfl (lv_at hl 3 rfl) ?_
        refine lv_iload hx hb dX3_worth_70 (lv_at hl 0 rfl) ?_
        refine lv_if_lt (tgt := 80) hx hb dX3_worth_72 (by decide) (fun c24 => ?_) (fun c24 => ?_)
        · replace h := h.1 c24
          refine lv_aload_n hx hb dX3_worth_80 rfl (lv_at hl 1 rfl) ?_
          refine lv_iload hx hb dX3_worth_81 (lv_at hl 0 rfl) ?_
          refine g_Vi (Y := YC) (ci := 3) (n := 1) (k := 0) (As := [.int r7]) (rest := [.int v3, .ref (ad (v0 + 1))]) rfl (by decide) vw_X3_140 ⟨Nat.le_of_ble_eq_true rfl, Nat.le_of_ble_eq_true rfl, Nat.zero_le _, Nat.zero_le _⟩ hc hw hl.1 hf_v0.2 hf_v0.1 (m_X3_named l hM v0 r7 σ6 h) rfl rfl (Nat.le_of_ble_eq_true rfl) dX3_worth_83 (fun r26 σ25 H locs h hw => ?_)
          have hin := h.1
          replace h := h.2
          refine g_iastK (Y := YC) (kd := 25) (n := 40) (k := v3.toNatClampNeg) (o := (v0 + 1)) YC_ok (by decide) (by decide) rfl hc hw (Nat.lt_of_lt_of_le (kd3 hf_v0.1).2.1 hM) (kd3 hf_v0.1).1 rfl hin rfl dX3_worth_86 (fun σ27 H locs eσ27 hw => ?_)
          replace h := h σ27 eσ27
          obtain ⟨x28, ex28⟩ : ∃ z, z = v3 + 1 := ⟨_, rfl⟩
          replace h := h x28 ex28
          refine lv_iinc (v := x28) (lv' := [(3, .int x28), (6, .int r7), (0, .ref (ad v0)), (2, .int v2), (4, .int v4), (5, .int v5)]) hx hb dX3_worth_87 hl (k := 3) rfl (by rw [ex28]; rfl) (by decide) rfl (fun ls hl => ?_)
          refine lv_goto (tgt := 211) hx hb dX3_worth_90 (by decide) ?_
          obtain ⟨x29, ex29⟩ : ∃ z, z = v5 + 1 := ⟨_, rfl⟩
          replace h := h x29 ex29
          refine lv_iinc (v := x29) (lv' := [(5, .int x29), (3, .int x28), (6, .int r7), (0, .ref (ad v0)), (2, .int v2), (4, .int v4)]) hx hb dX3_worth_211 hl (k := 5) rfl (by rw [ex29]; rfl) (by decide) rfl (fun ls hl => ?_)
          refine lv_goto (tgt := 31) hx hb dX3_worth_214 (by decide) ?_
          exact hk_31 v0 v2 x28 v4 x29 σ27 _ _ _ h ⟨hf_v0.1, hf_v0.2⟩ hw (lv_sub hl [3, 4, 1, 5, 0] rfl)
        · replace h := h.2 c24
          refine lv_iload hx hb dX3_worth_75 (lv_at hl 0 rfl) ?_
          refine lv_goto (tgt := 86) hx hb dX3_worth_77 (by decide) ?_
          have hin := h.1
          replace h := h.2
          refine g_iastK (Y := YC) (kd := 25) (n := 40) (k := v3.toNatClampNeg) (o := (v0 + 1)) YC_ok (by decide) (by decide) rfl hc hw (Nat.lt_of_lt_of_le (kd3 hf_v0.1).2.1 hM) (kd3 hf_v0.1).1 rfl hin rfl dX3_worth_86 (fun σ30 H locs eσ30 hw => ?_)
          replace h := h σ30 eσ30
          obtain ⟨x31, ex31⟩ : ∃ z, z = v3 + 1 := ⟨_, rfl⟩
          replace h := h x31 ex31
          refine lv_iinc (v := x31) (lv' := [(3, .int x31), (6, .int r7), (0, .ref (ad v0)), (2, .int v2), (4, .int v4), (5, .int v5)]) hx hb dX3_worth_87 hl (k := 3) rfl (by rw [ex31]; rfl) (by decide) rfl (fun ls hl => ?_)
          refine lv_goto (tgt := 211) hx hb dX3_worth_90 (by decide) ?_
          obtain ⟨x32, ex32⟩ : ∃ z, z = v5 + 1 := ⟨_, rfl⟩
          replace h := h x32 ex32
          refine lv_iinc (v := x32) (lv' := [(5, .int x32), (3, .int x31), (6, .int r7), (0, .ref (ad v0)), (2, .int v2), (4, .int v4)]) hx hb dX3_worth_211 hl (k := 5) rfl (by rw [ex32]; rfl) (by decide) rfl (fun ls hl => ?_)
          refine lv_goto (tgt := 31) hx hb dX3_worth_214 (by decide) ?_
          exact hk_31 v0 v2 x31 v4 x32 σ30 _ _ _ h ⟨hf_v0.1, hf_v0.2⟩ hw (lv_sub hl [3, 4, 1, 5, 0] rfl)
def wl_X3_worth_31 (M : Nat) (post : Int32 → St → Prop) : Nat → Nat → Int32 → Int32 → Int32 → Int32 → St → Prop
  | 0, _, _, _, _, _, _ => False
  | n + 1, v0, v2, v3, v4, v5, σ => w_X3_worth_31 M post (wl_X3_worth_31 M post n) v0 v2 v3 v4 v5 σ
set_option maxHeartbeats 4000000 in
theorem bl_X3_worth_31 {Γ : Gm} {ad : Nat → Nat} {p : Program} {l : Launch} {e : Env} {s : State} {m : MethodId} {args : Array Value} {below : List Frame} {meth : Method} {c : Code} {M : Nat} (hM : 53 ≤ M) {post : Int32 → St → Prop}
    (hc : CX Γ p s m args meth c cX3_worth RX3 8) (hr : meth.sig.returnType = (Option.some Jvm.ClassFile.FieldType.int)) :
    ∀ (n : Nat) (v0 : Nat) (v2 : Int32) (v3 : Int32) (v4 : Int32) (v5 : Int32) (σ : St) (H : Heap) (locs : List Loc) (ls : Array Slot), wl_X3_worth_31 M post n v0 v2 v3 v4 v5 σ → kdC v0 = 3 ∧ v0 < M → WH Γ YC M ad σ s H locs → lv_has ls 8 [(0, .ref (ad v0)), (2, .int v2), (3, .int v3), (4, .int v4), (5, .int v5)] → W p l e (rmL 1 0 0) s m args below meth c H locs 0 0 (MQ below (va_Qi post (fun u t => WC Γ YC M ad u t) (AA Γ)) args s 0 0 (AA Γ)) (F0 m 31 ls []) := by
  intro n
  induction n with
  | zero => intro v0 v2 v3 v4 v5 σ H locs ls h; exact h.elim
  | succ n ih =>
    intro v0 v2 v3 v4 v5 σ H locs ls h hf_v0 hw hl
    exact b_X3_worth_31 hM ih v0 v2 v3 v4 v5 σ H locs ls h hf_v0 hc hr hw hl
def w_X3_worth (M : Nat) (post : Int32 → St → Prop) (o0 : Nat) (a1 : Int32) (a2 : Int32) (σ : St) : Prop :=
  (kdC o0 = 3 ∧ o0 < M) ∧ (∀ q1 : Option Nat, q1 = gr σ o0 1 → ((q1 = none → (post 0 σ)) ∧ (∀ o2 : Nat, q1 = some o2 → ((kdC o2 = 2 ∧ o2 < M) ∧ (∀ q4 : Option Nat, q4 = gr σ o0 1 → (∃ o5 : Nat, q4 = some o5 ∧ (kdC o5 = 2 ∧ o5 < M) ∧ (w_X2_endOf M (fun r7 σ6 => (∀ q8 : Option Nat, q8 = gr σ6 o0 1 → (∃ o9 : Nat, q8 = some o9 ∧ (kdC o9 = 2 ∧ o9 < M) ∧ (w_X2_startOf M (fun r11 σ10 => (∃ n, wl_X3_worth_31 M post n o0 a2 0 r7 r11 σ10)) o9 a1 σ6)))) o5 a1 σ)))))))
set_option maxHeartbeats 4000000 in
set_option maxRecDepth 20000 in
theorem m_X3_worth {Γ : Gm} {ad : Nat → Nat} {M : Nat} (l : Launch) (hM : 53 ≤ M) {post : Int32 → St → Prop} (o0 : Nat) (a1 : Int32) (a2 : Int32) (σ : St) (h : w_X3_worth M post o0 a1 a2 σ) : Ci l Γ YC M ad σ yX3_worth cX3_worth 8 (Option.some Jvm.ClassFile.FieldType.int) 1 0 0 [.ref (ad o0), .int a1, .int a2] post := by
  refine g_start (by decide) (Nat.le_of_ble_eq_true rfl) ?_
  intro p e s m args below meth c ls hc hr hn hl hw
  have hc : CX Γ p s m args meth c cX3_worth RX3 8 := hc
  have hl : lv_has ls 8 [(0, .ref (ad o0)), (1, .int a1), (2, .int a2)] := hl
  have hx := hc.1
  have hb := hc.2.1
  unfold w_X3_worth at h
  have hf_o0 := h.1
  replace h := h.2
  generalize hHH : s.heap = H0 at hw ⊢
  refine lv_aload_n hx hb dX3_worth_0 rfl (lv_at hl 0 rfl) ?_
  refine fg_X3_13 (o := o0) hc hw hf_o0.2 hf_o0.1 dX3_worth_1 ?_
  obtain ⟨q1, eq1⟩ : ∃ z, z = gr σ o0 1 := ⟨_, rfl⟩
  rw [← eq1]
  replace h := h q1 eq1
  refine g_ifnonnull (tgt := 9) hx hb dX3_worth_4 (by decide) (fun o2 hn3 => ?_) (fun hn3 => ?_)
  · replace h := h.2 o2 hn3
    try rw [hn3] at hl
    try rw [hn3]
    have hf_o2 := h.1
    replace h := h.2
    have hl : lv_has ls 8 [(0, .ref (ad o0)), (1, .int a1), (2, .int a2)] := hl
    refine lv_iconst (v := 0) hx hb dX3_worth_9 (by decide) ?_
    refine lv_istore_n (lv' := [(3, .int 0), (0, .ref (ad o0)), (1, .int a1), (2, .int a2)]) hx hb dX3_worth_10 rfl hl (by decide) rfl (fun ls hl => ?_)
    refine lv_aload_n hx hb dX3_worth_11 rfl (lv_at hl 1 rfl) ?_
    refine fg_X3_13 (o := o0) hc hw hf_o0.2 hf_o0.1 dX3_worth_12 ?_
    obtain ⟨q4, eq4⟩ : ∃ z, z = gr σ o0 1 := ⟨_, rfl⟩
    rw [← eq4]
    replace h := h q4 eq4
    refine lv_iload_n hx hb dX3_worth_15 rfl (lv_at hl 2 rfl) ?_
    obtain ⟨o5, ho_o5, hf_o5, h⟩ := h
    try rw [ho_o5] at hl
    try rw [ho_o5]
    have hl : lv_has ls 8 [(3, .int 0), (0, .ref (ad o0)), (1, .int a1), (2, .int a2)] := hl
    refine g_Vi (Y := YC) (ci := 2) (n := 1) (k := 0) (As := [.int a1]) (rest := []) rfl (by decide) vw_X3_131 ⟨Nat.le_of_ble_eq_true rfl, Nat.le_of_ble_eq_true rfl, Nat.zero_le _, Nat.zero_le _⟩ hc hw hl.1 hf_o5.2 hf_o5.1 (m_X2_endOf l hM o5 a1 σ h) rfl rfl (Nat.le_of_ble_eq_true rfl) dX3_worth_16 (fun r7 σ6 H locs h hw => ?_)
    refine lv_istore (lv' := [(4, .int r7), (3, .int 0), (0, .ref (ad o0)), (1, .int a1), (2, .int a2)]) hx hb dX3_worth_19 hl (by decide) rfl (fun ls hl => ?_)
    refine lv_aload_n hx hb dX3_worth_21 rfl (lv_at hl 2 rfl) ?_
    refine fg_X3_13 (o := o0) hc hw hf_o0.2 hf_o0.1 dX3_worth_22 ?_
    obtain ⟨q8, eq8⟩ : ∃ z, z = gr σ6 o0 1 := ⟨_, rfl⟩
    rw [← eq8]
    replace h := h q8 eq8
    refine lv_iload_n hx hb dX3_worth_25 rfl (lv_at hl 3 rfl) ?_
    obtain ⟨o9, ho_o9, hf_o9, h⟩ := h
    try rw [ho_o9] at hl
    try rw [ho_o9]
    have hl : lv_has ls 8 [(4, .int r7), (3, .int 0), (0, .ref (ad o0)), (1, .int a1), (2, .int a2)] := hl
    refine g_Vi (Y := YC) (ci := 2) (n := 1) (k := 0) (As := [.int a1]) (rest := []) rfl (by decide) vw_X3_134 ⟨Nat.le_of_ble_eq_true rfl, Nat.le_of_ble_eq_true rfl, Nat.zero_le _, Nat.zero_le _⟩ hc hw hl.1 hf_o9.2 hf_o9.1 (m_X2_startOf l hM o9 a1 σ6 h) rfl rfl (Nat.le_of_ble_eq_true rfl) dX3_worth_26 (fun r11 σ10 H locs h hw => ?_)
    refine lv_istore (lv' := [(5, .int r11), (4, .int r7), (3, .int 0), (0, .ref (ad o0)), (1, .int a1), (2, .int a2)]) hx hb dX3_worth_29 hl (by decide) rfl (fun ls hl => ?_)
    obtain ⟨n, h⟩ := h
    exact bl_X3_worth_31 hM hc hr n o0 a2 0 r7 r11 σ10 _ _ _ h ⟨hf_o0.1, hf_o0.2⟩ hw (lv_sub hl [3, 5, 2, 1, 0] rfl)
  · replace h := h.1 hn3
    try rw [hn3] at hl
    try rw [hn3]
    have hl : lv_has ls 8 [(0, .ref (ad o0)), (1, .int a1), (2, .int a2)] := hl
    refine lv_iconst (v := 0) hx hb dX3_worth_7 (by decide) ?_
    exact g_iret hc hr hw h dX3_worth_8
def w_X3_throwIn (M : Nat) (post : St → Prop) (o0 : Nat) (a1 : Nat) (a2 : Int32) (σ : St) : Prop :=
  (kdC o0 = 3 ∧ o0 < M) ∧ ((kdC a1 = 1 ∧ a1 < M) ∧ (∀ σ1 : St, σ1 = si σ o0 15 ((gi σ o0 15) + a2) → (w_X1_tell M (fun r3 σ2 => (∀ σ4 : St, σ4 = si σ2 o0 16 ((gi σ1 o0 16) + (a2 * r3)) → (w_X1_tell M (fun r6 σ5 => (∀ σ7 : St, σ7 = si σ5 o0 7 ((gi σ4 o0 7) + (a2 * r6)) → (w_X1_tell M (fun r9 σ8 => (∀ σ10 : St, σ10 = si σ8 o0 9 ((gi σ7 o0 9) + (a2 * r9)) → (w_X1_tell M (fun r12 σ11 => (∀ σ13 : St, σ13 = si σ11 o0 4 ((gi σ10 o0 4) + (a2 * r12)) → (∀ x14 : Int32, x14 = (if 0 < ((gi σ13 o0 6) - a2) then ((gi σ13 o0 6) - a2) else 0) → (∀ σ15 : St, σ15 = si σ13 o0 6 x14 → (post σ15))))) a1 2 σ10))) a1 1 σ7))) a1 3 σ4))) a1 0 σ1)))
set_option maxHeartbeats 4000000 in
set_option maxRecDepth 20000 in
theorem m_X3_throwIn {Γ : Gm} {ad : Nat → Nat} {M : Nat} (l : Launch) (hM : 53 ≤ M) {post : St → Prop} (o0 : Nat) (a1 : Nat) (a2 : Int32) (σ : St) (h : w_X3_throwIn M post o0 a1 a2 σ) : Cv l Γ YC M ad σ yX3_throwIn cX3_throwIn 3 none 2 0 0 [.ref (ad o0), .ref (ad a1), .int a2] post := by
  refine g_start (by decide) (Nat.le_of_ble_eq_true rfl) ?_
  intro p e s m args below meth c ls hc hr hn hl hw
  have hc : CX Γ p s m args meth c cX3_throwIn RX3 3 := hc
  have hl : lv_has ls 3 [(0, .ref (ad o0)), (1, .ref (ad a1)), (2, .int a2)] := hl
  have hx := hc.1
  have hb := hc.2.1
  unfold w_X3_throwIn at h
  have hf_o0 := h.1
  replace h := h.2
  have hf_a1 := h.1
  replace h := h.2
  generalize hHH : s.heap = H0 at hw ⊢
  refine lv_aload_n hx hb dX3_throwIn_0 rfl (lv_at hl 0 rfl) ?_
  refine lv_dup hx hb dX3_throwIn_1 rfl ?_
  refine fg_X3_58 (o := o0) hc hw hf_o0.2 hf_o0.1 dX3_throwIn_2 ?_
  refine lv_iload_n hx hb dX3_throwIn_5 rfl (lv_at hl 2 rfl) ?_
  refine lv_iadd hx hb dX3_throwIn_6 ?_
  refine fp_X3_58 (o := o0) hc hw hf_o0.2 hf_o0.1 dX3_throwIn_7 (fun σ1 H locs eσ1 hw => ?_)
  replace h := h σ1 eσ1
  refine lv_aload_n hx hb dX3_throwIn_10 rfl (lv_at hl 0 rfl) ?_
  refine lv_dup hx hb dX3_throwIn_11 rfl ?_
  refine fg_X3_61 (o := o0) hc hw hf_o0.2 hf_o0.1 dX3_throwIn_12 ?_
  refine lv_iload_n hx hb dX3_throwIn_15 rfl (lv_at hl 2 rfl) ?_
  refine lv_aload_n hx hb dX3_throwIn_16 rfl (lv_at hl 1 rfl) ?_
  refine lv_iconst (v := 0) hx hb dX3_throwIn_17 (by decide) ?_
  refine g_Vi (Y := YC) (ci := 1) (n := 1) (k := 1) (As := [.int 0]) (rest := [.int a2, .int (gi σ1 o0 16), .ref (ad o0)]) rfl (by decide) vw_X3_110 ⟨Nat.le_of_ble_eq_true rfl, Nat.le_of_ble_eq_true rfl, Nat.zero_le _, Nat.zero_le _⟩ hc hw hl.1 hf_a1.2 hf_a1.1 (m_X1_tell l hM a1 0 σ1 h) rfl rfl (Nat.le_of_ble_eq_true rfl) dX3_throwIn_18 (fun r3 σ2 H locs h hw => ?_)
  refine lv_imul hx hb dX3_throwIn_21 ?_
  refine lv_iadd hx hb dX3_throwIn_22 ?_
  refine fp_X3_61 (o := o0) hc hw hf_o0.2 hf_o0.1 dX3_throwIn_23 (fun σ4 H locs eσ4 hw => ?_)
  replace h := h σ4 eσ4
  refine lv_aload_n hx hb dX3_throwIn_26 rfl (lv_at hl 0 rfl) ?_
  refine lv_dup hx hb dX3_throwIn_27 rfl ?_
  refine fg_X3_34 (o := o0) hc hw hf_o0.2 hf_o0.1 dX3_throwIn_28 ?_
  refine lv_iload_n hx hb dX3_throwIn_31 rfl (lv_at hl 2 rfl) ?_
  refine lv_aload_n hx hb dX3_throwIn_32 rfl (lv_at hl 1 rfl) ?_
  refine lv_iconst (v := 3) hx hb dX3_throwIn_33 (by decide) ?_
  refine g_Vi (Y := YC) (ci := 1) (n := 1) (k := 1) (As := [.int 3]) (rest := [.int a2, .int (gi σ4 o0 7), .ref (ad o0)]) rfl (by decide) vw_X3_110 ⟨Nat.le_of_ble_eq_true rfl, Nat.le_of_ble_eq_true rfl, Nat.zero_le _, Nat.zero_le _⟩ hc hw hl.1 hf_a1.2 hf_a1.1 (m_X1_tell l hM a1 3 σ4 h) rfl rfl (Nat.le_of_ble_eq_true rfl) dX3_throwIn_34 (fun r6 σ5 H locs h hw => ?_)
  refine lv_imul hx hb dX3_throwIn_37 ?_
  refine lv_iadd hx hb dX3_throwIn_38 ?_
  refine fp_X3_34 (o := o0) hc hw hf_o0.2 hf_o0.1 dX3_throwIn_39 (fun σ7 H locs eσ7 hw => ?_)
  replace h := h σ7 eσ7
  refine lv_aload_n hx hb dX3_throwIn_42 rfl (lv_at hl 0 rfl) ?_
  refine lv_dup hx hb dX3_throwIn_43 rfl ?_
  refine fg_X3_40 (o := o0) hc hw hf_o0.2 hf_o0.1 dX3_throwIn_44 ?_
  refine lv_iload_n hx hb dX3_throwIn_47 rfl (lv_at hl 2 rfl) ?_
  refine lv_aload_n hx hb dX3_throwIn_48 rfl (lv_at hl 1 rfl) ?_
  refine lv_iconst (v := 1) hx hb dX3_throwIn_49 (by decide) ?_
  refine g_Vi (Y := YC) (ci := 1) (n := 1) (k := 1) (As := [.int 1]) (rest := [.int a2, .int (gi σ7 o0 9), .ref (ad o0)]) rfl (by decide) vw_X3_110 ⟨Nat.le_of_ble_eq_true rfl, Nat.le_of_ble_eq_true rfl, Nat.zero_le _, Nat.zero_le _⟩ hc hw hl.1 hf_a1.2 hf_a1.1 (m_X1_tell l hM a1 1 σ7 h) rfl rfl (Nat.le_of_ble_eq_true rfl) dX3_throwIn_50 (fun r9 σ8 H locs h hw => ?_)
  refine lv_imul hx hb dX3_throwIn_53 ?_
  refine lv_iadd hx hb dX3_throwIn_54 ?_
  refine fp_X3_40 (o := o0) hc hw hf_o0.2 hf_o0.1 dX3_throwIn_55 (fun σ10 H locs eσ10 hw => ?_)
  replace h := h σ10 eσ10
  refine lv_aload_n hx hb dX3_throwIn_58 rfl (lv_at hl 0 rfl) ?_
  refine lv_dup hx hb dX3_throwIn_59 rfl ?_
  refine fg_X3_25 (o := o0) hc hw hf_o0.2 hf_o0.1 dX3_throwIn_60 ?_
  refine lv_iload_n hx hb dX3_throwIn_63 rfl (lv_at hl 2 rfl) ?_
  refine lv_aload_n hx hb dX3_throwIn_64 rfl (lv_at hl 1 rfl) ?_
  refine lv_iconst (v := 2) hx hb dX3_throwIn_65 (by decide) ?_
  refine g_Vi (Y := YC) (ci := 1) (n := 1) (k := 1) (As := [.int 2]) (rest := [.int a2, .int (gi σ10 o0 4), .ref (ad o0)]) rfl (by decide) vw_X3_110 ⟨Nat.le_of_ble_eq_true rfl, Nat.le_of_ble_eq_true rfl, Nat.zero_le _, Nat.zero_le _⟩ hc hw hl.1 hf_a1.2 hf_a1.1 (m_X1_tell l hM a1 2 σ10 h) rfl rfl (Nat.le_of_ble_eq_true rfl) dX3_throwIn_66 (fun r12 σ11 H locs h hw => ?_)
  refine lv_imul hx hb dX3_throwIn_69 ?_
  refine lv_iadd hx hb dX3_throwIn_70 ?_
  refine fp_X3_25 (o := o0) hc hw hf_o0.2 hf_o0.1 dX3_throwIn_71 (fun σ13 H locs eσ13 hw => ?_)
  replace h := h σ13 eσ13
  refine lv_aload_n hx hb dX3_throwIn_74 rfl (lv_at hl 0 rfl) ?_
  refine lv_iconst (v := 0) hx hb dX3_throwIn_75 (by decide) ?_
  refine lv_aload_n hx hb dX3_throwIn_76 rfl (lv_at hl 0 rfl) ?_
  refine fg_X3_31 (o := o0) hc hw hf_o0.2 hf_o0.1 dX3_throwIn_77 ?_
  refine lv_iload_n hx hb dX3_throwIn_80 rfl (lv_at hl 2 rfl) ?_
  refine lv_isub hx hb dX3_throwIn_81 ?_
  refine g_max q_656 q_357 q_85 q_358 hc hl.1 ⟨Nat.le_of_ble_eq_true rfl, Nat.le_of_ble_eq_true rfl, Nat.zero_le _, Nat.zero_le _⟩ (Nat.le_of_ble_eq_true rfl) dX3_throwIn_82 ?_
  refine lv_topi (fun x14 ex14 => ?_)
  replace h := h x14 ex14
  refine fp_X3_31 (o := o0) hc hw hf_o0.2 hf_o0.1 dX3_throwIn_85 (fun σ15 H locs eσ15 hw => ?_)
  replace h := h σ15 eσ15
  exact g_vret hc hr hw h dX3_throwIn_88
def w_X3_passMinute_140 (M : Nat) (post : St → Prop) (v0 : Nat) (σ : St) : Prop :=
  ∀ x1 : Int32, x1 = (gi σ v0 4) - ((gi σ v0 6) / 40) → (∀ x2 : Int32, x2 = (if 0 < x1 then x1 else 0) → (∀ σ3 : St, σ3 = si σ v0 4 x2 → (post σ3)))
set_option maxHeartbeats 4000000 in
set_option maxRecDepth 20000 in
theorem b_X3_passMinute_140 {Γ : Gm} {ad : Nat → Nat} {p : Program} {l : Launch} {e : Env} {s : State} {m : MethodId} {args : Array Value} {below : List Frame} {meth : Method} {c : Code} {M : Nat} (hM : 53 ≤ M) {post : St → Prop}
    (v0 : Nat) (σ : St) (H : Heap) (locs : List Loc) (ls : Array Slot) (h : w_X3_passMinute_140 M post v0 σ) (hf_v0 : kdC v0 = 3 ∧ v0 < M) (hc : CX Γ p s m args meth c cX3_passMinute RX3 4) (hr : meth.sig.returnType = none) (hw : WH Γ YC M ad σ s H locs) (hl : lv_has ls 4 [(0, .ref (ad v0))]) :
    W p l e (rmL 2 0 0) s m args below meth c H locs 0 0 (MQ below (va_Qv post (fun u t => WC Γ YC M ad u t) (AA Γ)) args s 0 0 (AA Γ)) (F0 m 140 ls []) := by
  have hx := hc.1
  have hb := hc.2.1
  unfold w_X3_passMinute_140 at h
  refine lv_aload_n hx hb dX3_passMinute_140 rfl (lv_at hl 0 rfl) ?_
  refine lv_iconst (v := 0) hx hb dX3_passMinute_141 (by decide) ?_
  refine lv_aload_n hx hb dX3_passMinute_142 rfl (lv_at hl 0 rfl) ?_
  refine fg_X3_25 (o := v0) hc hw hf_v0.2 hf_v0.1 dX3_passMinute_143 ?_
  refine lv_aload_n hx hb dX3_passMinute_146 rfl (lv_at hl 0 rfl) ?_
  refine fg_X3_31 (o := v0) hc hw hf_v0.2 hf_v0.1 dX3_passMinute_147 ?_
  refine lv_bipush (v := 40) hx hb dX3_passMinute_150 (by decide) ?_
  refine lv_idiv hx hb dX3_passMinute_152 (by decide) ?_
  refine lv_isub hx hb dX3_passMinute_153 ?_
  refine lv_topi (fun x1 ex1 => ?_)
  replace h := h x1 ex1
  refine g_max q_656 q_357 q_85 q_358 hc hl.1 ⟨Nat.le_of_ble_eq_true rfl, Nat.le_of_ble_eq_true rfl, Nat.zero_le _, Nat.zero_le _⟩ (Nat.le_of_ble_eq_true rfl) dX3_passMinute_154 ?_
  refine lv_topi (fun x2 ex2 => ?_)
  replace h := h x2 ex2
  refine fp_X3_25 (o := v0) hc hw hf_v0.2 hf_v0.1 dX3_passMinute_157 (fun σ3 H locs eσ3 hw => ?_)
  replace h := h σ3 eσ3
  exact g_vret hc hr hw h dX3_passMinute_160
def w_X3_passMinute (M : Nat) (post : St → Prop) (o0 : Nat) (a1 : Int32) (σ : St) : Prop :=
  (kdC o0 = 3 ∧ o0 < M) ∧ (∀ σ1 : St, σ1 = si σ o0 14 ((gi σ o0 14) + 1) → (∀ x2 : Int32, x2 = (12 * (gi σ1 o0 3)) - (gi σ1 o0 6) → (w_X3_flicker M (fun r4 σ3 => (∀ x5 : Int32, x5 = ((gi σ1 o0 6) + (x2 / 3)) + r4 → (∀ x6 : Int32, x6 = (if x5 < 120 then x5 else 120) → (∀ x7 : Int32, x7 = (if 0 < x6 then x6 else 0) → (∀ σ8 : St, σ8 = si σ3 o0 6 x7 → (w_X3_worth M (fun r10 σ9 => (∀ x11 : Int32, x11 = (gi σ9 o0 7) - (((gi σ8 o0 7) * r10) / 100) → (∀ σ12 : St, σ12 = si σ9 o0 7 x11 → (∀ x13 : Int32, x13 = (gi σ12 o0 8) + (((gi σ8 o0 7) * r10) / 100) → (∀ σ14 : St, σ14 = si σ12 o0 8 x13 → (w_X3_worth M (fun r16 σ15 => (∀ x17 : Int32, x17 = ((gi σ14 o0 9) * r16) / 100 → (∀ σ18 : St, σ18 = si σ15 o0 9 ((gi σ15 o0 9) - x17) → ((a1 = 0 → (∀ σ20 : St, σ20 = si σ18 o0 11 ((gi σ18 o0 11) + x17) → (w_X3_settle M (fun σ21 => (w_X3_passMinute_140 M post o0 σ21)) o0 σ20))) ∧ (¬ (a1 = 0) → (∀ σ22 : St, σ22 = si σ18 o0 10 ((gi σ18 o0 10) + x17) → (w_X3_passMinute_140 M post o0 σ22))))))) o0 1 100 σ14)))))) o0 0 100 σ8)))))) o0 σ1)))
set_option maxHeartbeats 4000000 in
set_option maxRecDepth 20000 in
theorem m_X3_passMinute {Γ : Gm} {ad : Nat → Nat} {M : Nat} (l : Launch) (hM : 53 ≤ M) {post : St → Prop} (o0 : Nat) (a1 : Int32) (σ : St) (h : w_X3_passMinute M post o0 a1 σ) : Cv l Γ YC M ad σ yX3_passMinute cX3_passMinute 4 none 2 0 0 [.ref (ad o0), .int a1] post := by
  refine g_start (by decide) (Nat.le_of_ble_eq_true rfl) ?_
  intro p e s m args below meth c ls hc hr hn hl hw
  have hc : CX Γ p s m args meth c cX3_passMinute RX3 4 := hc
  have hl : lv_has ls 4 [(0, .ref (ad o0)), (1, .int a1)] := hl
  have hx := hc.1
  have hb := hc.2.1
  unfold w_X3_passMinute at h
  have hf_o0 := h.1
  replace h := h.2
  generalize hHH : s.heap = H0 at hw ⊢
  refine lv_aload_n hx hb dX3_passMinute_0 rfl (lv_at hl 0 rfl) ?_
  refine lv_dup hx hb dX3_passMinute_1 rfl ?_
  refine fg_X3_55 (o := o0) hc hw hf_o0.2 hf_o0.1 dX3_passMinute_2 ?_
  refine lv_iconst (v := 1) hx hb dX3_passMinute_5 (by decide) ?_
  refine lv_iadd hx hb dX3_passMinute_6 ?_
  refine fp_X3_55 (o := o0) hc hw hf_o0.2 hf_o0.1 dX3_passMinute_7 (fun σ1 H locs eσ1 hw => ?_)
  replace h := h σ1 eσ1
  refine lv_aload_n hx hb dX3_passMinute_10 rfl (lv_at hl 0 rfl) ?_
  refine lv_iconst (v := 0) hx hb dX3_passMinute_11 (by decide) ?_
  refine lv_bipush (v := 120) hx hb dX3_passMinute_12 (by decide) ?_
  refine lv_aload_n hx hb dX3_passMinute_14 rfl (lv_at hl 0 rfl) ?_
  refine fg_X3_31 (o := o0) hc hw hf_o0.2 hf_o0.1 dX3_passMinute_15 ?_
  refine lv_bipush (v := 12) hx hb dX3_passMinute_18 (by decide) ?_
  refine lv_aload_n hx hb dX3_passMinute_20 rfl (lv_at hl 0 rfl) ?_
  refine fg_X3_21 (o := o0) hc hw hf_o0.2 hf_o0.1 dX3_passMinute_21 ?_
  refine lv_imul hx hb dX3_passMinute_24 ?_
  refine lv_aload_n hx hb dX3_passMinute_25 rfl (lv_at hl 0 rfl) ?_
  refine fg_X3_31 (o := o0) hc hw hf_o0.2 hf_o0.1 dX3_passMinute_26 ?_
  refine lv_isub hx hb dX3_passMinute_29 ?_
  refine lv_topi (fun x2 ex2 => ?_)
  replace h := h x2 ex2
  refine lv_iconst (v := 3) hx hb dX3_passMinute_30 (by decide) ?_
  refine lv_idiv hx hb dX3_passMinute_31 (by decide) ?_
  refine lv_iadd hx hb dX3_passMinute_32 ?_
  refine lv_aload_n hx hb dX3_passMinute_33 rfl (lv_at hl 0 rfl) ?_
  refine g_Vi (Y := YC) (ci := 3) (n := 0) (k := 0) (As := []) (rest := [.int ((gi σ1 o0 6) + (x2 / 3)), .int 120, .int 0, .ref (ad o0)]) rfl (by decide) vw_X3_114 ⟨Nat.le_of_ble_eq_true rfl, Nat.le_of_ble_eq_true rfl, Nat.zero_le _, Nat.zero_le _⟩ hc hw hl.1 hf_o0.2 hf_o0.1 (m_X3_flicker l hM o0 σ1 h) rfl rfl (Nat.le_of_ble_eq_true rfl) dX3_passMinute_34 (fun r4 σ3 H locs h hw => ?_)
  refine lv_iadd hx hb dX3_passMinute_37 ?_
  refine lv_topi (fun x5 ex5 => ?_)
  replace h := h x5 ex5
  refine g_min q_655 q_360 q_85 q_361 hc hl.1 ⟨Nat.le_of_ble_eq_true rfl, Nat.le_of_ble_eq_true rfl, Nat.zero_le _, Nat.zero_le _⟩ (Nat.le_of_ble_eq_true rfl) dX3_passMinute_38 ?_
  refine lv_topi (fun x6 ex6 => ?_)
  replace h := h x6 ex6
  refine g_max q_656 q_357 q_85 q_358 hc hl.1 ⟨Nat.le_of_ble_eq_true rfl, Nat.le_of_ble_eq_true rfl, Nat.zero_le _, Nat.zero_le _⟩ (Nat.le_of_ble_eq_true rfl) dX3_passMinute_41 ?_
  refine lv_topi (fun x7 ex7 => ?_)
  replace h := h x7 ex7
  refine fp_X3_31 (o := o0) hc hw hf_o0.2 hf_o0.1 dX3_passMinute_44 (fun σ8 H locs eσ8 hw => ?_)
  replace h := h σ8 eσ8
  refine lv_aload_n hx hb dX3_passMinute_47 rfl (lv_at hl 0 rfl) ?_
  refine fg_X3_34 (o := o0) hc hw hf_o0.2 hf_o0.1 dX3_passMinute_48 ?_
  refine lv_aload_n hx hb dX3_passMinute_51 rfl (lv_at hl 0 rfl) ?_
  refine lv_iconst (v := 0) hx hb dX3_passMinute_52 (by decide) ?_
  refine lv_bipush (v := 100) hx hb dX3_passMinute_53 (by decide) ?_
  refine g_Vi (Y := YC) (ci := 3) (n := 2) (k := 1) (As := [.int 0, .int 100]) (rest := [.int (gi σ8 o0 7)]) rfl (by decide) vw_X3_119 ⟨Nat.le_of_ble_eq_true rfl, Nat.le_of_ble_eq_true rfl, Nat.zero_le _, Nat.zero_le _⟩ hc hw hl.1 hf_o0.2 hf_o0.1 (m_X3_worth l hM o0 0 100 σ8 h) rfl rfl (Nat.le_of_ble_eq_true rfl) dX3_passMinute_55 (fun r10 σ9 H locs h hw => ?_)
  refine lv_imul hx hb dX3_passMinute_58 ?_
  refine lv_bipush (v := 100) hx hb dX3_passMinute_59 (by decide) ?_
  refine lv_idiv hx hb dX3_passMinute_61 (by decide) ?_
  refine lv_istore_n (lv' := [(2, .int (((gi σ8 o0 7) * r10) / 100)), (0, .ref (ad o0)), (1, .int a1)]) hx hb dX3_passMinute_62 rfl hl (by decide) rfl (fun ls hl => ?_)
  refine lv_aload_n hx hb dX3_passMinute_63 rfl (lv_at hl 1 rfl) ?_
  refine lv_dup hx hb dX3_passMinute_64 rfl ?_
  refine fg_X3_34 (o := o0) hc hw hf_o0.2 hf_o0.1 dX3_passMinute_65 ?_
  refine lv_iload_n hx hb dX3_passMinute_68 rfl (lv_at hl 0 rfl) ?_
  refine lv_isub hx hb dX3_passMinute_69 ?_
  refine lv_topi (fun x11 ex11 => ?_)
  replace h := h x11 ex11
  refine fp_X3_34 (o := o0) hc hw hf_o0.2 hf_o0.1 dX3_passMinute_70 (fun σ12 H locs eσ12 hw => ?_)
  replace h := h σ12 eσ12
  refine lv_aload_n hx hb dX3_passMinute_73 rfl (lv_at hl 1 rfl) ?_
  refine lv_dup hx hb dX3_passMinute_74 rfl ?_
  refine fg_X3_37 (o := o0) hc hw hf_o0.2 hf_o0.1 dX3_passMinute_75 ?_
  refine lv_iload_n hx hb dX3_passMinute_78 rfl (lv_at hl 0 rfl) ?_
  refine lv_iadd hx hb dX3_passMinute_79 ?_
  refine lv_topi (fun x13 ex13 => ?_)
  replace h := h x13 ex13
  refine fp_X3_37 (o := o0) hc hw hf_o0.2 hf_o0.1 dX3_passMinute_80 (fun σ14 H locs eσ14 hw => ?_)
  replace h := h σ14 eσ14
  refine lv_aload_n hx hb dX3_passMinute_83 rfl (lv_at hl 1 rfl) ?_
  refine fg_X3_40 (o := o0) hc hw hf_o0.2 hf_o0.1 dX3_passMinute_84 ?_
  refine lv_aload_n hx hb dX3_passMinute_87 rfl (lv_at hl 1 rfl) ?_
  refine lv_iconst (v := 1) hx hb dX3_passMinute_88 (by decide) ?_
  refine lv_bipush (v := 100) hx hb dX3_passMinute_89 (by decide) ?_
  refine g_Vi (Y := YC) (ci := 3) (n := 2) (k := 1) (As := [.int 1, .int 100]) (rest := [.int (gi σ14 o0 9)]) rfl (by decide) vw_X3_119 ⟨Nat.le_of_ble_eq_true rfl, Nat.le_of_ble_eq_true rfl, Nat.zero_le _, Nat.zero_le _⟩ hc hw hl.1 hf_o0.2 hf_o0.1 (m_X3_worth l hM o0 1 100 σ14 h) rfl rfl (Nat.le_of_ble_eq_true rfl) dX3_passMinute_91 (fun r16 σ15 H locs h hw => ?_)
  refine lv_imul hx hb dX3_passMinute_94 ?_
  refine lv_bipush (v := 100) hx hb dX3_passMinute_95 (by decide) ?_
  refine lv_idiv hx hb dX3_passMinute_97 (by decide) ?_
  refine lv_topi (fun x17 ex17 => ?_)
  replace h := h x17 ex17
  refine lv_istore_n (lv' := [(3, .int x17), (2, .int (((gi σ8 o0 7) * r10) / 100)), (0, .ref (ad o0)), (1, .int a1)]) hx hb dX3_passMinute_98 rfl hl (by decide) rfl (fun ls hl => ?_)
  refine lv_aload_n hx hb dX3_passMinute_99 rfl (lv_at hl 2 rfl) ?_
  refine lv_dup hx hb dX3_passMinute_100 rfl ?_
  refine fg_X3_40 (o := o0) hc hw hf_o0.2 hf_o0.1 dX3_passMinute_101 ?_
  refine lv_iload_n hx hb dX3_passMinute_104 rfl (lv_at hl 0 rfl) ?_
  refine lv_isub hx hb dX3_passMinute_105 ?_
  refine fp_X3_40 (o := o0) hc hw hf_o0.2 hf_o0.1 dX3_passMinute_106 (fun σ18 H locs eσ18 hw => ?_)
  replace h := h σ18 eσ18
  refine lv_iload_n hx hb dX3_passMinute_109 rfl (lv_at hl 3 rfl) ?_
  refine lv_if_eq (tgt := 126) hx hb dX3_passMinute_110 (by decide) (fun c19 => ?_) (fun c19 => ?_)
  · replace h := h.1 c19
    refine lv_aload_n hx hb dX3_passMinute_126 rfl (lv_at hl 2 rfl) ?_
    refine lv_dup hx hb dX3_passMinute_127 rfl ?_
    refine fg_X3_46 (o := o0) hc hw hf_o0.2 hf_o0.1 dX3_passMinute_128 ?_
    refine lv_iload_n hx hb dX3_passMinute_131 rfl (lv_at hl 0 rfl) ?_
    refine lv_iadd hx hb dX3_passMinute_132 ?_
    refine fp_X3_46 (o := o0) hc hw hf_o0.2 hf_o0.1 dX3_passMinute_133 (fun σ20 H locs eσ20 hw => ?_)
    replace h := h σ20 eσ20
    refine lv_aload_n hx hb dX3_passMinute_136 rfl (lv_at hl 2 rfl) ?_
    refine g_Vv (Y := YC) (ci := 3) (n := 0) (k := 0) (As := []) (rest := []) rfl (by decide) vw_X3_122 ⟨Nat.le_of_ble_eq_true rfl, Nat.le_of_ble_eq_true rfl, Nat.zero_le _, Nat.zero_le _⟩ hc hw hl.1 hf_o0.2 hf_o0.1 (m_X3_settle l hM o0 σ20 h) rfl rfl (Nat.le_of_ble_eq_true rfl) dX3_passMinute_137 (fun σ21 H locs h hw => ?_)
    exact b_X3_passMinute_140 hM o0 σ21 _ _ _ h ⟨hf_o0.1, hf_o0.2⟩ hc hr hw (lv_sub hl [2] rfl)
  · replace h := h.2 c19
    refine lv_aload_n hx hb dX3_passMinute_113 rfl (lv_at hl 2 rfl) ?_
    refine lv_dup hx hb dX3_passMinute_114 rfl ?_
    refine fg_X3_43 (o := o0) hc hw hf_o0.2 hf_o0.1 dX3_passMinute_115 ?_
    refine lv_iload_n hx hb dX3_passMinute_118 rfl (lv_at hl 0 rfl) ?_
    refine lv_iadd hx hb dX3_passMinute_119 ?_
    refine fp_X3_43 (o := o0) hc hw hf_o0.2 hf_o0.1 dX3_passMinute_120 (fun σ22 H locs eσ22 hw => ?_)
    replace h := h σ22 eσ22
    refine lv_goto (tgt := 140) hx hb dX3_passMinute_123 (by decide) ?_
    exact b_X3_passMinute_140 hM o0 σ22 _ _ _ h ⟨hf_o0.1, hf_o0.2⟩ hc hr hw (lv_sub hl [2] rfl)
def w_X3_threadsLong (M : Nat) (post : Int32 → St → Prop) (o0 : Nat) (σ : St) : Prop :=
  (kdC o0 = 3 ∧ o0 < M) ∧ (((gi σ o0 8) = 0 → (post 0 σ)) ∧ (¬ ((gi σ o0 8) = 0) → (w_X3_worth M (fun r3 σ2 => (post r3 σ2)) o0 2 999 σ)))
set_option maxHeartbeats 4000000 in
set_option maxRecDepth 20000 in
theorem m_X3_threadsLong {Γ : Gm} {ad : Nat → Nat} {M : Nat} (l : Launch) (hM : 53 ≤ M) {post : Int32 → St → Prop} (o0 : Nat) (σ : St) (h : w_X3_threadsLong M post o0 σ) : Ci l Γ YC M ad σ yX3_threadsLong cX3_threadsLong 1 (Option.some Jvm.ClassFile.FieldType.int) 2 0 0 [.ref (ad o0)] post := by
  refine g_start (by decide) (Nat.le_of_ble_eq_true rfl) ?_
  intro p e s m args below meth c ls hc hr hn hl hw
  have hc : CX Γ p s m args meth c cX3_threadsLong RX3 1 := hc
  have hl : lv_has ls 1 [(0, .ref (ad o0))] := hl
  have hx := hc.1
  have hb := hc.2.1
  unfold w_X3_threadsLong at h
  have hf_o0 := h.1
  replace h := h.2
  generalize hHH : s.heap = H0 at hw ⊢
  refine lv_aload_n hx hb dX3_threadsLong_0 rfl (lv_at hl 0 rfl) ?_
  refine fg_X3_37 (o := o0) hc hw hf_o0.2 hf_o0.1 dX3_threadsLong_1 ?_
  refine lv_if_ne (tgt := 11) hx hb dX3_threadsLong_4 (by decide) (fun c1 => ?_) (fun c1 => ?_)
  · replace h := h.2 c1
    refine lv_aload_n hx hb dX3_threadsLong_11 rfl (lv_at hl 0 rfl) ?_
    refine lv_iconst (v := 2) hx hb dX3_threadsLong_12 (by decide) ?_
    refine lv_sipush (v := 999) hx hb dX3_threadsLong_13 (by decide) ?_
    refine g_Vi (Y := YC) (ci := 3) (n := 2) (k := 1) (As := [.int 2, .int 999]) (rest := []) rfl (by decide) vw_X3_119 ⟨Nat.le_of_ble_eq_true rfl, Nat.le_of_ble_eq_true rfl, Nat.zero_le _, Nat.zero_le _⟩ hc hw hl.1 hf_o0.2 hf_o0.1 (m_X3_worth l hM o0 2 999 σ h) rfl rfl (Nat.le_of_ble_eq_true rfl) dX3_threadsLong_16 (fun r3 σ2 H locs h hw => ?_)
    exact g_iret hc hr hw h dX3_threadsLong_19
  · replace h := h.1 c1
    refine lv_iconst (v := 0) hx hb dX3_threadsLong_7 (by decide) ?_
    refine lv_goto (tgt := 19) hx hb dX3_threadsLong_8 (by decide) ?_
    exact g_iret hc hr hw h dX3_threadsLong_19
def w_X3_undergo_142 (M : Nat) (post : St → Prop) (k_142 : Nat → Nat → Int32 → Int32 → St → Prop) (v0 : Nat) (v1 : Nat) (v3 : Int32) (v4 : Int32) (σ : St) : Prop :=
  (v3 ≤ v4 → (post σ)) ∧ (¬ (v3 ≤ v4) → (w_X0_isStirred M (fun r3 σ2 => (w_X3_passMinute M (fun σ4 => (∀ x5 : Int32, x5 = v4 + 1 → (k_142 v0 v1 v3 x5 σ4))) v0 r3 σ2)) v1 σ))
set_option maxHeartbeats 4000000 in
set_option maxRecDepth 20000 in
theorem b_X3_undergo_142 {Γ : Gm} {ad : Nat → Nat} {p : Program} {l : Launch} {e : Env} {s : State} {m : MethodId} {args : Array Value} {below : List Frame} {meth : Method} {c : Code} {M : Nat} (hM : 53 ≤ M) {post : St → Prop} {k_142 : Nat → Nat → Int32 → Int32 → St → Prop} (hk_142 : ∀ (v0 : Nat) (v1 : Nat) (v3 : Int32) (v4 : Int32) (σ : St) (H : Heap) (locs : List Loc) (ls : Array Slot), k_142 v0 v1 v3 v4 σ → kdC v0 = 3 ∧ v0 < M → kdC v1 = 0 ∧ v1 < M → WH Γ YC M ad σ s H locs → lv_has ls 5 [(0, .ref (ad v0)), (1, .ref (ad v1)), (3, .int v3), (4, .int v4)] → W p l e (rmL 3 0 0) s m args below meth c H locs 0 0 (MQ below (va_Qv post (fun u t => WC Γ YC M ad u t) (AA Γ)) args s 0 0 (AA Γ)) (F0 m 142 ls []))
    (v0 : Nat) (v1 : Nat) (v3 : Int32) (v4 : Int32) (σ : St) (H : Heap) (locs : List Loc) (ls : Array Slot) (h : w_X3_undergo_142 M post k_142 v0 v1 v3 v4 σ) (hf_v0 : kdC v0 = 3 ∧ v0 < M) (hf_v1 : kdC v1 = 0 ∧ v1 < M) (hc : CX Γ p s m args meth c cX3_undergo RX3 5) (hr : meth.sig.returnType = none) (hw : WH Γ YC M ad σ s H locs) (hl : lv_has ls 5 [(0, .ref (ad v0)), (1, .ref (ad v1)), (3, .int v3), (4, .int v4)]) :
    W p l e (rmL 3 0 0) s m args below meth c H locs 0 0 (MQ below (va_Qv post (fun u t => WC Γ YC M ad u t) (AA Γ)) args s 0 0 (AA Γ)) (F0 m 142 ls []) := by
  have hx := hc.1
  have hb := hc.2.1
  unfold w_X3_undergo_142 at h
  refine lv_iload hx hb dX3_undergo_142 (lv_at hl 3 rfl) ?_
  refine lv_iload_n hx hb dX3_undergo_144 rfl (lv_at hl 2 rfl) ?_
  refine lv_icmp_ge (tgt := 162) hx hb dX3_undergo_145 (by decide) (fun c1 => ?_) (fun c1 => ?_)
  · replace h := h.1 c1
    exact g_vret hc hr hw h dX3_undergo_162
  · replace h := h.2 c1
    refine lv_aload_n hx hb dX3_undergo_148 rfl (lv_at hl 0 rfl) ?_
    refine lv_aload_n hx hb dX3_undergo_149 rfl (lv_at hl 1 rfl) ?_
    refine g_Vi (Y := YC) (ci := 0) (n := 0) (k := 0) (As := []) (rest := [.ref (ad v0)]) rfl (by decide) vw_X3_97 ⟨Nat.le_of_ble_eq_true rfl, Nat.le_of_ble_eq_true rfl, Nat.zero_le _, Nat.zero_le _⟩ hc hw hl.1 hf_v1.2 hf_v1.1 (m_X0_isStirred l hM v1 σ h) rfl rfl (Nat.le_of_ble_eq_true rfl) dX3_undergo_150 (fun r3 σ2 H locs h hw => ?_)
    refine g_Vv (Y := YC) (ci := 3) (n := 1) (k := 2) (As := [.int r3]) (rest := []) rfl (by decide) vw_X3_101 ⟨Nat.le_of_ble_eq_true rfl, Nat.le_of_ble_eq_true rfl, Nat.zero_le _, Nat.zero_le _⟩ hc hw hl.1 hf_v0.2 hf_v0.1 (m_X3_passMinute l hM v0 r3 σ2 h) rfl rfl (Nat.le_of_ble_eq_true rfl) dX3_undergo_153 (fun σ4 H locs h hw => ?_)
    obtain ⟨x5, ex5⟩ : ∃ z, z = v4 + 1 := ⟨_, rfl⟩
    replace h := h x5 ex5
    refine lv_iinc (v := x5) (lv' := [(4, .int x5), (0, .ref (ad v0)), (1, .ref (ad v1)), (3, .int v3)]) hx hb dX3_undergo_156 hl (k := 3) rfl (by rw [ex5]; rfl) (by decide) rfl (fun ls hl => ?_)
    refine lv_goto (tgt := 142) hx hb dX3_undergo_159 (by decide) ?_
    exact hk_142 v0 v1 v3 x5 σ4 _ _ _ h ⟨hf_v0.1, hf_v0.2⟩ ⟨hf_v1.1, hf_v1.2⟩ hw (lv_sub hl [1, 2, 3, 0] rfl)
def wl_X3_undergo_142 (M : Nat) (post : St → Prop) : Nat → Nat → Nat → Int32 → Int32 → St → Prop
  | 0, _, _, _, _, _ => False
  | n + 1, v0, v1, v3, v4, σ => w_X3_undergo_142 M post (wl_X3_undergo_142 M post n) v0 v1 v3 v4 σ
set_option maxHeartbeats 4000000 in
theorem bl_X3_undergo_142 {Γ : Gm} {ad : Nat → Nat} {p : Program} {l : Launch} {e : Env} {s : State} {m : MethodId} {args : Array Value} {below : List Frame} {meth : Method} {c : Code} {M : Nat} (hM : 53 ≤ M) {post : St → Prop}
    (hc : CX Γ p s m args meth c cX3_undergo RX3 5) (hr : meth.sig.returnType = none) :
    ∀ (n : Nat) (v0 : Nat) (v1 : Nat) (v3 : Int32) (v4 : Int32) (σ : St) (H : Heap) (locs : List Loc) (ls : Array Slot), wl_X3_undergo_142 M post n v0 v1 v3 v4 σ → kdC v0 = 3 ∧ v0 < M → kdC v1 = 0 ∧ v1 < M → WH Γ YC M ad σ s H locs → lv_has ls 5 [(0, .ref (ad v0)), (1, .ref (ad v1)), (3, .int v3), (4, .int v4)] → W p l e (rmL 3 0 0) s m args below meth c H locs 0 0 (MQ below (va_Qv post (fun u t => WC Γ YC M ad u t) (AA Γ)) args s 0 0 (AA Γ)) (F0 m 142 ls []) := by
  intro n
  induction n with
  | zero => intro v0 v1 v3 v4 σ H locs ls h; exact h.elim
  | succ n ih =>
    intro v0 v1 v3 v4 σ H locs ls h hf_v0 hf_v1 hw hl
    exact b_X3_undergo_142 hM ih v0 v1 v3 v4 σ H locs ls h hf_v0 hf_v1 hc hr hw hl
def w_X3_undergo (M : Nat) (post : St → Prop) (o0 : Nat) (a1 : Nat) (a2 : Option Nat) (σ : St) : Prop :=
  (kdC o0 = 3 ∧ o0 < M) ∧ ((kdC a1 = 0 ∧ a1 < M) ∧ (((gi σ a1 0) = 1 → (w_X3_pourIn M (fun σ2 => (w_X0_minutesLong M (fun r4 σ3 => (∃ n, wl_X3_undergo_142 M post n o0 a1 r4 0 σ3)) a1 σ2)) o0 (gi σ a1 1) (gi σ a1 2) σ)) ∧ (¬ ((gi σ a1 0) = 1) → (((gi σ a1 0) = 2 → ((a2 = none → (w_X0_minutesLong M (fun r9 σ8 => (∃ n, wl_X3_undergo_142 M post n o0 a1 r9 0 σ8)) a1 σ)) ∧ (∀ o6 : Nat, a2 = some o6 → ((kdC o6 = 1 ∧ o6 < M) ∧ (w_X3_throwIn M (fun σ10 => (w_X0_minutesLong M (fun r12 σ11 => (∃ n, wl_X3_undergo_142 M post n o0 a1 r12 0 σ11)) a1 σ10)) o0 o6 (gi σ a1 1) σ))))) ∧ (¬ ((gi σ a1 0) = 2) → (((gi σ a1 0) = 3 → (w_X3_beat M (fun σ14 => (w_X0_minutesLong M (fun r16 σ15 => (∃ n, wl_X3_undergo_142 M post n o0 a1 r16 0 σ15)) a1 σ14)) o0 (gi σ a1 1) σ)) ∧ (¬ ((gi σ a1 0) = 3) → (((gi σ a1 0) = 4 → (w_X3_pourIn M (fun σ18 => (∀ x19 : Int32, x19 = (gi σ18 o0 12) + (gi σ18 a1 1) → (∀ x20 : Int32, x20 = (if x19 < 99 then x19 else 99) → (∀ σ21 : St, σ21 = si σ18 o0 12 x20 → (w_X0_minutesLong M (fun r23 σ22 => (∃ n, wl_X3_undergo_142 M post n o0 a1 r23 0 σ22)) a1 σ21))))) o0 (gi σ a1 1) (gi σ a1 2) σ)) ∧ (¬ ((gi σ a1 0) = 4) → (((gi σ a1 0) = 5 → (w_X3_beat M (fun σ25 => (∀ σ26 : St, σ26 = si σ25 o0 3 (gi σ25 a1 2) → (w_X0_minutesLong M (fun r28 σ27 => (∃ n, wl_X3_undergo_142 M post n o0 a1 r28 0 σ27)) a1 σ26))) o0 (gi σ a1 1) σ)) ∧ (¬ ((gi σ a1 0) = 5) → (w_X0_minutesLong M (fun r30 σ29 => (∃ n, wl_X3_undergo_142 M post n o0 a1 r30 0 σ29)) a1 σ))))))))))))
set_option maxHeartbeats 4000000 in
set_option maxRecDepth 20000 in
theorem m_X3_undergo {Γ : Gm} {ad : Nat → Nat} {M : Nat} (l : Launch) (hM : 53 ≤ M) {post : St → Prop} (o0 : Nat) (a1 : Nat) (a2 : Option Nat) (σ : St) (h : w_X3_undergo M post o0 a1 a2 σ) : Cv l Γ YC M ad σ yX3_undergo cX3_undergo 5 none 3 0 0 [.ref (ad o0), .ref (ad a1), va_rf (Option.map ad a2)] post := by
  refine g_start (by decide) (by cases a2 <;> exact Nat.le_of_ble_eq_true rfl) ?_
  intro p e s m args below meth c ls hc hr hn hl hw
  have hc : CX Γ p s m args meth c cX3_undergo RX3 5 := hc
  have hl : lv_has ls 5 [(0, .ref (ad o0)), (1, .ref (ad a1)), (2, va_rf (Option.map ad a2))] := hl
  have hx := hc.1
  have hb := hc.2.1
  unfold w_X3_undergo at h
  have hf_o0 := h.1
  replace h := h.2
  have hf_a1 := h.1
  replace h := h.2
  generalize hHH : s.heap = H0 at hw ⊢
  refine lv_aload_n hx hb dX3_undergo_0 rfl (lv_at hl 1 rfl) ?_
  refine fg_X3_64 (o := a1) hc hw hf_a1.2 hf_a1.1 dX3_undergo_1 ?_
  by_cases c1 : (gi σ a1 0) = 1
  · replace h := h.1 c1
    refine lv_tableIn (off := 36) (tgt := 40) hx hb dX3_undergo_4 (by rw [c1]; decide) (by rw [c1]; decide) (by rw [c1]; rfl) (by decide) ?_
    refine lv_aload_n hx hb dX3_undergo_40 rfl (lv_at hl 0 rfl) ?_
    refine lv_aload_n hx hb dX3_undergo_41 rfl (lv_at hl 1 rfl) ?_
    refine fg_X3_69 (o := a1) hc hw hf_a1.2 hf_a1.1 dX3_undergo_42 ?_
    refine lv_aload_n hx hb dX3_undergo_45 rfl (lv_at hl 1 rfl) ?_
    refine fg_X3_72 (o := a1) hc hw hf_a1.2 hf_a1.1 dX3_undergo_46 ?_
    refine g_Vv (Y := YC) (ci := 3) (n := 2) (k := 0) (As := [.int (gi σ a1 1), .int (gi σ a1 2)]) (rest := []) rfl (by decide) vw_X3_75 ⟨Nat.le_of_ble_eq_true rfl, Nat.le_of_ble_eq_true rfl, Nat.zero_le _, Nat.zero_le _⟩ hc hw hl.1 hf_o0.2 hf_o0.1 (m_X3_pourIn l hM o0 (gi σ a1 1) (gi σ a1 2) σ h) rfl rfl (Nat.le_of_ble_eq_true rfl) dX3_undergo_49 (fun σ2 H locs h hw => ?_)
    refine lv_goto (tgt := 134) hx hb dX3_undergo_52 (by decide) ?_
    refine lv_aload_n hx hb dX3_undergo_134 rfl (lv_at hl 1 rfl) ?_
    refine g_Vi (Y := YC) (ci := 0) (n := 0) (k := 0) (As := []) (rest := []) rfl (by decide) vw_X3_93 ⟨Nat.le_of_ble_eq_true rfl, Nat.le_of_ble_eq_true rfl, Nat.zero_le _, Nat.zero_le _⟩ hc hw hl.1 hf_a1.2 hf_a1.1 (m_X0_minutesLong l hM a1 σ2 h) rfl rfl (Nat.le_of_ble_eq_true rfl) dX3_undergo_135 (fun r4 σ3 H locs h hw => ?_)
    refine lv_istore_n (lv' := [(3, .int r4), (0, .ref (ad o0)), (1, .ref (ad a1)), (2, va_rf (Option.map ad a2))]) hx hb dX3_undergo_138 rfl hl (by decide) (by clear h; cases a2 <;> rfl) (fun ls hl => ?_)
    refine lv_iconst (v := 0) hx hb dX3_undergo_139 (by decide) ?_
    refine lv_istore (lv' := [(4, .int 0), (3, .int r4), (0, .ref (ad o0)), (1, .ref (ad a1)), (2, va_rf (Option.map ad a2))]) hx hb dX3_undergo_140 hl (by decide) rfl (fun ls hl => ?_)
    obtain ⟨n, h⟩ := h
    exact bl_X3_undergo_142 hM hc hr n o0 a1 r4 0 σ3 _ _ _ h ⟨hf_o0.1, hf_o0.2⟩ ⟨hf_a1.1, hf_a1.2⟩ hw (lv_sub hl [2, 3, 1, 0] rfl)
  replace h := h.2 c1
  by_cases c5 : (gi σ a1 0) = 2
  · replace h := h.1 c5
    refine lv_tableIn (off := 51) (tgt := 55) hx hb dX3_undergo_4 (by rw [c5]; decide) (by rw [c5]; decide) (by rw [c5]; rfl) (by decide) ?_
    refine g_aloadq hx hb dX3_undergo_55 rfl (lv_at hl 2 rfl) ?_
    refine g_ifnull (tgt := 134) hx hb dX3_undergo_56 (by decide) (fun hn7 => ?_) (fun o6 hn7 => ?_)
    · replace h := h.1 hn7
      try rw [hn7] at hl
      try rw [hn7]
      have hl : lv_has ls 5 [(0, .ref (ad o0)), (1, .ref (ad a1)), (2, .null)] := hl
      refine lv_aload_n hx hb dX3_undergo_134 rfl (lv_at hl 1 rfl) ?_
      refine g_Vi (Y := YC) (ci := 0) (n := 0) (k := 0) (As := []) (rest := []) rfl (by decide) vw_X3_93 ⟨Nat.le_of_ble_eq_true rfl, Nat.le_of_ble_eq_true rfl, Nat.zero_le _, Nat.zero_le _⟩ hc hw hl.1 hf_a1.2 hf_a1.1 (m_X0_minutesLong l hM a1 σ h) rfl rfl (Nat.le_of_ble_eq_true rfl) dX3_undergo_135 (fun r9 σ8 H locs h hw => ?_)
      refine lv_istore_n (lv' := [(3, .int r9), (0, .ref (ad o0)), (1, .ref (ad a1)), (2, .null)]) hx hb dX3_undergo_138 rfl hl (by decide) rfl (fun ls hl => ?_)
      refine lv_iconst (v := 0) hx hb dX3_undergo_139 (by decide) ?_
      refine lv_istore (lv' := [(4, .int 0), (3, .int r9), (0, .ref (ad o0)), (1, .ref (ad a1)), (2, .null)]) hx hb dX3_undergo_140 hl (by decide) rfl (fun ls hl => ?_)
      obtain ⟨n, h⟩ := h
      exact bl_X3_undergo_142 hM hc hr n o0 a1 r9 0 σ8 _ _ _ h ⟨hf_o0.1, hf_o0.2⟩ ⟨hf_a1.1, hf_a1.2⟩ hw (lv_sub hl [2, 3, 1, 0] rfl)
    · replace h := h.2 o6 hn7
      try rw [hn7] at hl
      try rw [hn7]
      have hf_o6 := h.1
      replace h := h.2
      have hl : lv_has ls 5 [(0, .ref (ad o0)), (1, .ref (ad a1)), (2, .ref (ad o6))] := hl
      refine lv_aload_n hx hb dX3_undergo_59 rfl (lv_at hl 0 rfl) ?_
      refine lv_aload_n hx hb dX3_undergo_60 rfl (lv_at hl 2 rfl) ?_
      refine lv_aload_n hx hb dX3_undergo_61 rfl (lv_at hl 1 rfl) ?_
      refine fg_X3_69 (o := a1) hc hw hf_a1.2 hf_a1.1 dX3_undergo_62 ?_
      refine g_Vv (Y := YC) (ci := 3) (n := 2) (k := 2) (As := [.ref (ad o6), .int (gi σ a1 1)]) (rest := []) rfl (by decide) vw_X3_79 ⟨Nat.le_of_ble_eq_true rfl, Nat.le_of_ble_eq_true rfl, Nat.zero_le _, Nat.zero_le _⟩ hc hw hl.1 hf_o0.2 hf_o0.1 (m_X3_throwIn l hM o0 o6 (gi σ a1 1) σ h) rfl rfl (Nat.le_of_ble_eq_true rfl) dX3_undergo_65 (fun σ10 H locs h hw => ?_)
      refine lv_goto (tgt := 134) hx hb dX3_undergo_68 (by decide) ?_
      refine lv_aload_n hx hb dX3_undergo_134 rfl (lv_at hl 1 rfl) ?_
      refine g_Vi (Y := YC) (ci := 0) (n := 0) (k := 0) (As := []) (rest := []) rfl (by decide) vw_X3_93 ⟨Nat.le_of_ble_eq_true rfl, Nat.le_of_ble_eq_true rfl, Nat.zero_le _, Nat.zero_le _⟩ hc hw hl.1 hf_a1.2 hf_a1.1 (m_X0_minutesLong l hM a1 σ10 h) rfl rfl (Nat.le_of_ble_eq_true rfl) dX3_undergo_135 (fun r12 σ11 H locs h hw => ?_)
      refine lv_istore_n (lv' := [(3, .int r12), (0, .ref (ad o0)), (1, .ref (ad a1)), (2, .ref (ad o6))]) hx hb dX3_undergo_138 rfl hl (by decide) rfl (fun ls hl => ?_)
      refine lv_iconst (v := 0) hx hb dX3_undergo_139 (by decide) ?_
      refine lv_istore (lv' := [(4, .int 0), (3, .int r12), (0, .ref (ad o0)), (1, .ref (ad a1)), (2, .ref (ad o6))]) hx hb dX3_undergo_140 hl (by decide) rfl (fun ls hl => ?_)
      obtain ⟨n, h⟩ := h
      exact bl_X3_undergo_142 hM hc hr n o0 a1 r12 0 σ11 _ _ _ h ⟨hf_o0.1, hf_o0.2⟩ ⟨hf_a1.1, hf_a1.2⟩ hw (lv_sub hl [2, 3, 1, 0] rfl)
  replace h := h.2 c5
  by_cases c13 : (gi σ a1 0) = 3
  · replace h := h.1 c13
    refine lv_tableIn (off := 67) (tgt := 71) hx hb dX3_undergo_4 (by rw [c13]; decide) (by rw [c13]; decide) (by rw [c13]; rfl) (by decide) ?_
    refine lv_aload_n hx hb dX3_undergo_71 rfl (lv_at hl 0 rfl) ?_
    refine lv_aload_n hx hb dX3_undergo_72 rfl (lv_at hl 1 rfl) ?_
    refine fg_X3_69 (o := a1) hc hw hf_a1.2 hf_a1.1 dX3_undergo_73 ?_
    refine g_Vv (Y := YC) (ci := 3) (n := 1) (k := 0) (As := [.int (gi σ a1 1)]) (rest := []) rfl (by decide) vw_X3_83 ⟨Nat.le_of_ble_eq_true rfl, Nat.le_of_ble_eq_true rfl, Nat.zero_le _, Nat.zero_le _⟩ hc hw hl.1 hf_o0.2 hf_o0.1 (m_X3_beat l hM o0 (gi σ a1 1) σ h) rfl rfl (Nat.le_of_ble_eq_true rfl) dX3_undergo_76 (fun σ14 H locs h hw => ?_)
    refine lv_goto (tgt := 134) hx hb dX3_undergo_79 (by decide) ?_
    refine lv_aload_n hx hb dX3_undergo_134 rfl (lv_at hl 1 rfl) ?_
    refine g_Vi (Y := YC) (ci := 0) (n := 0) (k := 0) (As := []) (rest := []) rfl (by decide) vw_X3_93 ⟨Nat.le_of_ble_eq_true rfl, Nat.le_of_ble_eq_true rfl, Nat.zero_le _, Nat.zero_le _⟩ hc hw hl.1 hf_a1.2 hf_a1.1 (m_X0_minutesLong l hM a1 σ14 h) rfl rfl (Nat.le_of_ble_eq_true rfl) dX3_undergo_135 (fun r16 σ15 H locs h hw => ?_)
    refine lv_istore_n (lv' := [(3, .int r16), (0, .ref (ad o0)), (1, .ref (ad a1)), (2, va_rf (Option.map ad a2))]) hx hb dX3_undergo_138 rfl hl (by decide) (by clear h; cases a2 <;> rfl) (fun ls hl => ?_)
    refine lv_iconst (v := 0) hx hb dX3_undergo_139 (by decide) ?_
    refine lv_istore (lv' := [(4, .int 0), (3, .int r16), (0, .ref (ad o0)), (1, .ref (ad a1)), (2, va_rf (Option.map ad a2))]) hx hb dX3_undergo_140 hl (by decide) rfl (fun ls hl => ?_)
    obtain ⟨n, h⟩ := h
    exact bl_X3_undergo_142 hM hc hr n o0 a1 r16 0 σ15 _ _ _ h ⟨hf_o0.1, hf_o0.2⟩ ⟨hf_a1.1, hf_a1.2⟩ hw (lv_sub hl [2, 3, 1, 0] rfl)
  replace h := h.2 c13
  by_cases c17 : (gi σ a1 0) = 4
  · replace h := h.1 c17
    refine lv_tableIn (off := 78) (tgt := 82) hx hb dX3_undergo_4 (by rw [c17]; decide) (by rw [c17]; decide) (by rw [c17]; rfl) (by decide) ?_
    refine lv_aload_n hx hb dX3_undergo_82 rfl (lv_at hl 0 rfl) ?_
    refine lv_aload_n hx hb dX3_undergo_83 rfl (lv_at hl 1 rfl) ?_
    refine fg_X3_69 (o := a1) hc hw hf_a1.2 hf_a1.1 dX3_undergo_84 ?_
    refine lv_aload_n hx hb dX3_undergo_87 rfl (lv_at hl 1 rfl) ?_
    refine fg_X3_72 (o := a1) hc hw hf_a1.2 hf_a1.1 dX3_undergo_88 ?_
    refine g_Vv (Y := YC) (ci := 3) (n := 2) (k := 0) (As := [.int (gi σ a1 1), .int (gi σ a1 2)]) (rest := []) rfl (by decide) vw_X3_75 ⟨Nat.le_of_ble_eq_true rfl, Nat.le_of_ble_eq_true rfl, Nat.zero_le _, Nat.zero_le _⟩ hc hw hl.1 hf_o0.2 hf_o0.1 (m_X3_pourIn l hM o0 (gi σ a1 1) (gi σ a1 2) σ h) rfl rfl (Nat.le_of_ble_eq_true rfl) dX3_undergo_91 (fun σ18 H locs h hw => ?_)
    refine lv_aload_n hx hb dX3_undergo_94 rfl (lv_at hl 0 rfl) ?_
    refine lv_bipush (v := 99) hx hb dX3_undergo_95 (by decide) ?_
    refine lv_aload_n hx hb dX3_undergo_97 rfl (lv_at hl 0 rfl) ?_
    refine fg_X3_49 (o := o0) hc hw hf_o0.2 hf_o0.1 dX3_undergo_98 ?_
    refine lv_aload_n hx hb dX3_undergo_101 rfl (lv_at hl 1 rfl) ?_
    refine fg_X3_69 (o := a1) hc hw hf_a1.2 hf_a1.1 dX3_undergo_102 ?_
    refine lv_iadd hx hb dX3_undergo_105 ?_
    refine lv_topi (fun x19 ex19 => ?_)
    replace h := h x19 ex19
    refine g_min q_655 q_360 q_85 q_361 hc hl.1 ⟨Nat.le_of_ble_eq_true rfl, Nat.le_of_ble_eq_true rfl, Nat.zero_le _, Nat.zero_le _⟩ (Nat.le_of_ble_eq_true rfl) dX3_undergo_106 ?_
    refine lv_topi (fun x20 ex20 => ?_)
    replace h := h x20 ex20
    refine fp_X3_49 (o := o0) hc hw hf_o0.2 hf_o0.1 dX3_undergo_109 (fun σ21 H locs eσ21 hw => ?_)
    replace h := h σ21 eσ21
    refine lv_goto (tgt := 134) hx hb dX3_undergo_112 (by decide) ?_
    refine lv_aload_n hx hb dX3_undergo_134 rfl (lv_at hl 1 rfl) ?_
    refine g_Vi (Y := YC) (ci := 0) (n := 0) (k := 0) (As := []) (rest := []) rfl (by decide) vw_X3_93 ⟨Nat.le_of_ble_eq_true rfl, Nat.le_of_ble_eq_true rfl, Nat.zero_le _, Nat.zero_le _⟩ hc hw hl.1 hf_a1.2 hf_a1.1 (m_X0_minutesLong l hM a1 σ21 h) rfl rfl (Nat.le_of_ble_eq_true rfl) dX3_undergo_135 (fun r23 σ22 H locs h hw => ?_)
    refine lv_istore_n (lv' := [(3, .int r23), (0, .ref (ad o0)), (1, .ref (ad a1)), (2, va_rf (Option.map ad a2))]) hx hb dX3_undergo_138 rfl hl (by decide) (by clear h; cases a2 <;> rfl) (fun ls hl => ?_)
    refine lv_iconst (v := 0) hx hb dX3_undergo_139 (by decide) ?_
    refine lv_istore (lv' := [(4, .int 0), (3, .int r23), (0, .ref (ad o0)), (1, .ref (ad a1)), (2, va_rf (Option.map ad a2))]) hx hb dX3_undergo_140 hl (by decide) rfl (fun ls hl => ?_)
    obtain ⟨n, h⟩ := h
    exact bl_X3_undergo_142 hM hc hr n o0 a1 r23 0 σ22 _ _ _ h ⟨hf_o0.1, hf_o0.2⟩ ⟨hf_a1.1, hf_a1.2⟩ hw (lv_sub hl [2, 3, 1, 0] rfl)
  replace h := h.2 c17
  by_cases c24 : (gi σ a1 0) = 5
  · replace h := h.1 c24
    refine lv_tableIn (off := 111) (tgt := 115) hx hb dX3_undergo_4 (by rw [c24]; decide) (by rw [c24]; decide) (by rw [c24]; rfl) (by decide) ?_
    refine lv_aload_n hx hb dX3_undergo_115 rfl (lv_at hl 0 rfl) ?_
    refine lv_aload_n hx hb dX3_undergo_116 rfl (lv_at hl 1 rfl) ?_
    refine fg_X3_69 (o := a1) hc hw hf_a1.2 hf_a1.1 dX3_undergo_117 ?_
    refine g_Vv (Y := YC) (ci := 3) (n := 1) (k := 0) (As := [.int (gi σ a1 1)]) (rest := []) rfl (by decide) vw_X3_83 ⟨Nat.le_of_ble_eq_true rfl, Nat.le_of_ble_eq_true rfl, Nat.zero_le _, Nat.zero_le _⟩ hc hw hl.1 hf_o0.2 hf_o0.1 (m_X3_beat l hM o0 (gi σ a1 1) σ h) rfl rfl (Nat.le_of_ble_eq_true rfl) dX3_undergo_120 (fun σ25 H locs h hw => ?_)
    refine lv_aload_n hx hb dX3_undergo_123 rfl (lv_at hl 0 rfl) ?_
    refine lv_aload_n hx hb dX3_undergo_124 rfl (lv_at hl 1 rfl) ?_
    refine fg_X3_72 (o := a1) hc hw hf_a1.2 hf_a1.1 dX3_undergo_125 ?_
    refine fp_X3_21 (o := o0) hc hw hf_o0.2 hf_o0.1 dX3_undergo_128 (fun σ26 H locs eσ26 hw => ?_)
    replace h := h σ26 eσ26
    refine lv_goto (tgt := 134) hx hb dX3_undergo_131 (by decide) ?_
    refine lv_aload_n hx hb dX3_undergo_134 rfl (lv_at hl 1 rfl) ?_
    refine g_Vi (Y := YC) (ci := 0) (n := 0) (k := 0) (As := []) (rest := []) rfl (by decide) vw_X3_93 ⟨Nat.le_of_ble_eq_true rfl, Nat.le_of_ble_eq_true rfl, Nat.zero_le _, Nat.zero_le _⟩ hc hw hl.1 hf_a1.2 hf_a1.1 (m_X0_minutesLong l hM a1 σ26 h) rfl rfl (Nat.le_of_ble_eq_true rfl) dX3_undergo_135 (fun r28 σ27 H locs h hw => ?_)
    refine lv_istore_n (lv' := [(3, .int r28), (0, .ref (ad o0)), (1, .ref (ad a1)), (2, va_rf (Option.map ad a2))]) hx hb dX3_undergo_138 rfl hl (by decide) (by clear h; cases a2 <;> rfl) (fun ls hl => ?_)
    refine lv_iconst (v := 0) hx hb dX3_undergo_139 (by decide) ?_
    refine lv_istore (lv' := [(4, .int 0), (3, .int r28), (0, .ref (ad o0)), (1, .ref (ad a1)), (2, va_rf (Option.map ad a2))]) hx hb dX3_undergo_140 hl (by decide) rfl (fun ls hl => ?_)
    obtain ⟨n, h⟩ := h
    exact bl_X3_undergo_142 hM hc hr n o0 a1 r28 0 σ27 _ _ _ h ⟨hf_o0.1, hf_o0.2⟩ ⟨hf_a1.1, hf_a1.2⟩ hw (lv_sub hl [2, 3, 1, 0] rfl)
  replace h := h.2 c24
  refine lv_tableOut (tgt := 134) hx hb dX3_undergo_4 (by have zc1 := lv_neT (a := 1) c1 (by decide); have zc5 := lv_neT (a := 2) c5 (by decide); have zc13 := lv_neT (a := 3) c13 (by decide); have zc17 := lv_neT (a := 4) c17 (by decide); have zc24 := lv_neT (a := 5) c24 (by decide); omega) (by decide) ?_
  refine lv_aload_n hx hb dX3_undergo_134 rfl (lv_at hl 1 rfl) ?_
  refine g_Vi (Y := YC) (ci := 0) (n := 0) (k := 0) (As := []) (rest := []) rfl (by decide) vw_X3_93 ⟨Nat.le_of_ble_eq_true rfl, Nat.le_of_ble_eq_true rfl, Nat.zero_le _, Nat.zero_le _⟩ hc hw hl.1 hf_a1.2 hf_a1.1 (m_X0_minutesLong l hM a1 σ h) rfl rfl (Nat.le_of_ble_eq_true rfl) dX3_undergo_135 (fun r30 σ29 H locs h hw => ?_)
  refine lv_istore_n (lv' := [(3, .int r30), (0, .ref (ad o0)), (1, .ref (ad a1)), (2, va_rf (Option.map ad a2))]) hx hb dX3_undergo_138 rfl hl (by decide) (by clear h; cases a2 <;> rfl) (fun ls hl => ?_)
  refine lv_iconst (v := 0) hx hb dX3_undergo_139 (by decide) ?_
  refine lv_istore (lv' := [(4, .int 0), (3, .int r30), (0, .ref (ad o0)), (1, .ref (ad a1)), (2, va_rf (Option.map ad a2))]) hx hb dX3_undergo_140 hl (by decide) rfl (fun ls hl => ?_)
  obtain ⟨n, h⟩ := h
  exact bl_X3_undergo_142 hM hc hr n o0 a1 r30 0 σ29 _ _ _ h ⟨hf_o0.1, hf_o0.2⟩ ⟨hf_a1.1, hf_a1.2⟩ hw (lv_sub hl [2, 3, 1, 0] rfl)
def w_X3_sortNow (M : Nat) (post : Int32 → St → Prop) (o0 : Nat) (σ : St) : Prop :=
  (kdC o0 = 3 ∧ o0 < M) ∧ (((gi σ o0 15) = 0 → (post 0 σ)) ∧ (¬ ((gi σ o0 15) = 0) → (w_X3_holdsNow M (fun r3 σ2 => ((r3 = 0 → (((gi σ2 o0 7) ≤ (gi σ2 o0 8) → (post 3 σ2)) ∧ (¬ ((gi σ2 o0 7) ≤ (gi σ2 o0 8)) → (((gi σ2 o0 4) ≤ (5 * (gi σ2 o0 15)) → (post 3 σ2)) ∧ (¬ ((gi σ2 o0 4) ≤ (5 * (gi σ2 o0 15))) → (post 4 σ2)))))) ∧ (¬ (r3 = 0) → (((gi σ2 o0 7) ≤ (gi σ2 o0 8) → (w_X3_thickness M (fun r7 σ6 => ((r7 ≤ 60 → (w_X3_threadsLong M (fun r10 σ9 => ((r10 ≤ 40 → (post 0 σ9)) ∧ (¬ (r10 ≤ 40) → (post 1 σ9)))) o0 σ6)) ∧ (¬ (r7 ≤ 60) → (post 5 σ6)))) o0 σ2)) ∧ (¬ ((gi σ2 o0 7) ≤ (gi σ2 o0 8)) → (post 2 σ2)))))) o0 σ)))
set_option maxHeartbeats 4000000 in
set_option maxRecDepth 20000 in
theorem m_X3_sortNow {Γ : Gm} {ad : Nat → Nat} {M : Nat} (l : Launch) (hM : 53 ≤ M) {post : Int32 → St → Prop} (o0 : Nat) (σ : St) (h : w_X3_sortNow M post o0 σ) : Ci l Γ YC M ad σ yX3_sortNow cX3_sortNow 1 (Option.some Jvm.ClassFile.FieldType.int) 3 0 0 [.ref (ad o0)] post := by
  refine g_start (by decide) (Nat.le_of_ble_eq_true rfl) ?_
  intro p e s m args below meth c ls hc hr hn hl hw
  have hc : CX Γ p s m args meth c cX3_sortNow RX3 1 := hc
  have hl : lv_has ls 1 [(0, .ref (ad o0))] := hl
  have hx := hc.1
  have hb := hc.2.1
  unfold w_X3_sortNow at h
  have hf_o0 := h.1
  replace h := h.2
  generalize hHH : s.heap = H0 at hw ⊢
  refine lv_aload_n hx hb dX3_sortNow_0 rfl (lv_at hl 0 rfl) ?_
  refine fg_X3_58 (o := o0) hc hw hf_o0.2 hf_o0.1 dX3_sortNow_1 ?_
  refine lv_if_ne (tgt := 9) hx hb dX3_sortNow_4 (by decide) (fun c1 => ?_) (fun c1 => ?_)
  · replace h := h.2 c1
    refine lv_aload_n hx hb dX3_sortNow_9 rfl (lv_at hl 0 rfl) ?_
    refine g_Vi (Y := YC) (ci := 3) (n := 0) (k := 0) (As := []) (rest := []) rfl (by decide) vw_X3_147 ⟨Nat.le_of_ble_eq_true rfl, Nat.le_of_ble_eq_true rfl, Nat.zero_le _, Nat.zero_le _⟩ hc hw hl.1 hf_o0.2 hf_o0.1 (m_X3_holdsNow l hM o0 σ h) rfl rfl (Nat.le_of_ble_eq_true rfl) dX3_sortNow_10 (fun r3 σ2 H locs h hw => ?_)
    refine lv_if_ne (tgt := 46) hx hb dX3_sortNow_13 (by decide) (fun c4 => ?_) (fun c4 => ?_)
    · replace h := h.2 c4
      refine lv_aload_n hx hb dX3_sortNow_46 rfl (lv_at hl 0 rfl) ?_
      refine fg_X3_34 (o := o0) hc hw hf_o0.2 hf_o0.1 dX3_sortNow_47 ?_
      refine lv_aload_n hx hb dX3_sortNow_50 rfl (lv_at hl 0 rfl) ?_
      refine fg_X3_37 (o := o0) hc hw hf_o0.2 hf_o0.1 dX3_sortNow_51 ?_
      refine lv_icmp_le (tgt := 59) hx hb dX3_sortNow_54 (by decide) (fun c5 => ?_) (fun c5 => ?_)
      · replace h := h.1 c5
        refine lv_aload_n hx hb dX3_sortNow_59 rfl (lv_at hl 0 rfl) ?_
        refine g_Vi (Y := YC) (ci := 3) (n := 0) (k := 0) (As := []) (rest := []) rfl (by decide) vw_X3_150 ⟨Nat.le_of_ble_eq_true rfl, Nat.le_of_ble_eq_true rfl, Nat.zero_le _, Nat.zero_le _⟩ hc hw hl.1 hf_o0.2 hf_o0.1 (m_X3_thickness l hM o0 σ2 h) rfl rfl (Nat.le_of_ble_eq_true rfl) dX3_sortNow_60 (fun r7 σ6 H locs h hw => ?_)
        refine lv_bipush (v := 60) hx hb dX3_sortNow_63 (by decide) ?_
        refine lv_icmp_le (tgt := 70) hx hb dX3_sortNow_65 (by decide) (fun c8 => ?_) (fun c8 => ?_)
        · replace h := h.1 c8
          refine lv_aload_n hx hb dX3_sortNow_70 rfl (lv_at hl 0 rfl) ?_
          refine g_Vi (Y := YC) (ci := 3) (n := 0) (k := 2) (As := []) (rest := []) rfl (by decide) vw_X3_153 ⟨Nat.le_of_ble_eq_true rfl, Nat.le_of_ble_eq_true rfl, Nat.zero_le _, Nat.zero_le _⟩ hc hw hl.1 hf_o0.2 hf_o0.1 (m_X3_threadsLong l hM o0 σ6 h) rfl rfl (Nat.le_of_ble_eq_true rfl) dX3_sortNow_71 (fun r10 σ9 H locs h hw => ?_)
          refine lv_bipush (v := 40) hx hb dX3_sortNow_74 (by decide) ?_
          refine lv_icmp_le (tgt := 83) hx hb dX3_sortNow_76 (by decide) (fun c11 => ?_) (fun c11 => ?_)
          · replace h := h.1 c11
            refine lv_iconst (v := 0) hx hb dX3_sortNow_83 (by decide) ?_
            exact g_iret hc hr hw h dX3_sortNow_84
          · replace h := h.2 c11
            refine lv_iconst (v := 1) hx hb dX3_sortNow_79 (by decide) ?_
            refine lv_goto (tgt := 84) hx hb dX3_sortNow_80 (by decide) ?_
            exact g_iret hc hr hw h dX3_sortNow_84
        · replace h := h.2 c8
          refine lv_iconst (v := 5) hx hb dX3_sortNow_68 (by decide) ?_
          exact g_iret hc hr hw h dX3_sortNow_69
      · replace h := h.2 c5
        refine lv_iconst (v := 2) hx hb dX3_sortNow_57 (by decide) ?_
        exact g_iret hc hr hw h dX3_sortNow_58
    · replace h := h.1 c4
      refine lv_aload_n hx hb dX3_sortNow_16 rfl (lv_at hl 0 rfl) ?_
      refine fg_X3_34 (o := o0) hc hw hf_o0.2 hf_o0.1 dX3_sortNow_17 ?_
      refine lv_aload_n hx hb dX3_sortNow_20 rfl (lv_at hl 0 rfl) ?_
      refine fg_X3_37 (o := o0) hc hw hf_o0.2 hf_o0.1 dX3_sortNow_21 ?_
      refine lv_icmp_le (tgt := 44) hx hb dX3_sortNow_24 (by decide) (fun c12 => ?_) (fun c12 => ?_)
      · replace h := h.1 c12
        refine lv_iconst (v := 3) hx hb dX3_sortNow_44 (by decide) ?_
        exact g_iret hc hr hw h dX3_sortNow_45
      · replace h := h.2 c12
        refine lv_aload_n hx hb dX3_sortNow_27 rfl (lv_at hl 0 rfl) ?_
        refine fg_X3_25 (o := o0) hc hw hf_o0.2 hf_o0.1 dX3_sortNow_28 ?_
        refine lv_iconst (v := 5) hx hb dX3_sortNow_31 (by decide) ?_
        refine lv_aload_n hx hb dX3_sortNow_32 rfl (lv_at hl 0 rfl) ?_
        refine fg_X3_58 (o := o0) hc hw hf_o0.2 hf_o0.1 dX3_sortNow_33 ?_
        refine lv_imul hx hb dX3_sortNow_36 ?_
        refine lv_icmp_le (tgt := 44) hx hb dX3_sortNow_37 (by decide) (fun c13 => ?_) (fun c13 => ?_)
        · replace h := h.1 c13
          refine lv_iconst (v := 3) hx hb dX3_sortNow_44 (by decide) ?_
          exact g_iret hc hr hw h dX3_sortNow_45
        · replace h := h.2 c13
          refine lv_iconst (v := 4) hx hb dX3_sortNow_40 (by decide) ?_
          refine lv_goto (tgt := 45) hx hb dX3_sortNow_41 (by decide) ?_
          exact g_iret hc hr hw h dX3_sortNow_45
  · replace h := h.1 c1
    refine lv_iconst (v := 0) hx hb dX3_sortNow_7 (by decide) ?_
    exact g_iret hc hr hw h dX3_sortNow_8
def w_X3_tell (M : Nat) (post : Int32 → St → Prop) (o0 : Nat) (a1 : Int32) (σ : St) : Prop :=
  (kdC o0 = 3 ∧ o0 < M) ∧ ((a1 = 0 → (post (gi σ o0 7) σ)) ∧ (¬ (a1 = 0) → ((a1 = 1 → (post (gi σ o0 8) σ)) ∧ (¬ (a1 = 1) → ((a1 = 2 → (post (gi σ o0 9) σ)) ∧ (¬ (a1 = 2) → ((a1 = 3 → (post (gi σ o0 10) σ)) ∧ (¬ (a1 = 3) → ((a1 = 4 → (post (gi σ o0 11) σ)) ∧ (¬ (a1 = 4) → ((a1 = 5 → (post (gi σ o0 4) σ)) ∧ (¬ (a1 = 5) → ((a1 = 6 → (post (gi σ o0 5) σ)) ∧ (¬ (a1 = 6) → ((a1 = 7 → (post (gi σ o0 12) σ)) ∧ (¬ (a1 = 7) → ((a1 = 8 → (post (gi σ o0 6) σ)) ∧ (¬ (a1 = 8) → ((a1 = 9 → (post (gi σ o0 14) σ)) ∧ (¬ (a1 = 9) → ((a1 = 10 → (post (gi σ o0 13) σ)) ∧ (¬ (a1 = 10) → ((a1 = 11 → (w_X3_thickness M (fun r14 σ13 => (post r14 σ13)) o0 σ)) ∧ (¬ (a1 = 11) → ((a1 = 12 → (w_X3_threadsLong M (fun r17 σ16 => (post r17 σ16)) o0 σ)) ∧ (¬ (a1 = 12) → (w_X3_sortNow M (fun r19 σ18 => (post r19 σ18)) o0 σ)))))))))))))))))))))))))))
set_option maxHeartbeats 4000000 in
set_option maxRecDepth 20000 in
theorem m_X3_tell {Γ : Gm} {ad : Nat → Nat} {M : Nat} (l : Launch) (hM : 53 ≤ M) {post : Int32 → St → Prop} (o0 : Nat) (a1 : Int32) (σ : St) (h : w_X3_tell M post o0 a1 σ) : Ci l Γ YC M ad σ yX3_tell cX3_tell 2 (Option.some Jvm.ClassFile.FieldType.int) 4 0 0 [.ref (ad o0), .int a1] post := by
  refine g_start (by decide) (Nat.le_of_ble_eq_true rfl) ?_
  intro p e s m args below meth c ls hc hr hn hl hw
  have hc : CX Γ p s m args meth c cX3_tell RX3 2 := hc
  have hl : lv_has ls 2 [(0, .ref (ad o0)), (1, .int a1)] := hl
  have hx := hc.1
  have hb := hc.2.1
  unfold w_X3_tell at h
  have hf_o0 := h.1
  replace h := h.2
  generalize hHH : s.heap = H0 at hw ⊢
  refine lv_iload_n hx hb dX3_tell_0 rfl (lv_at hl 1 rfl) ?_
  by_cases c1 : a1 = 0
  · replace h := h.1 c1
    refine lv_tableIn (off := 67) (tgt := 68) hx hb dX3_tell_1 (by rw [c1]; decide) (by rw [c1]; decide) (by rw [c1]; rfl) (by decide) ?_
    refine lv_aload_n hx hb dX3_tell_68 rfl (lv_at hl 0 rfl) ?_
    refine fg_X3_34 (o := o0) hc hw hf_o0.2 hf_o0.1 dX3_tell_69 ?_
    exact g_iret hc hr hw h dX3_tell_72
  replace h := h.2 c1
  by_cases c2 : a1 = 1
  · replace h := h.1 c2
    refine lv_tableIn (off := 72) (tgt := 73) hx hb dX3_tell_1 (by rw [c2]; decide) (by rw [c2]; decide) (by rw [c2]; rfl) (by decide) ?_
    refine lv_aload_n hx hb dX3_tell_73 rfl (lv_at hl 0 rfl) ?_
    refine fg_X3_37 (o := o0) hc hw hf_o0.2 hf_o0.1 dX3_tell_74 ?_
    exact g_iret hc hr hw h dX3_tell_77
  replace h := h.2 c2
  by_cases c3 : a1 = 2
  · replace h := h.1 c3
    refine lv_tableIn (off := 77) (tgt := 78) hx hb dX3_tell_1 (by rw [c3]; decide) (by rw [c3]; decide) (by rw [c3]; rfl) (by decide) ?_
    refine lv_aload_n hx hb dX3_tell_78 rfl (lv_at hl 0 rfl) ?_
    refine fg_X3_40 (o := o0) hc hw hf_o0.2 hf_o0.1 dX3_tell_79 ?_
    exact g_iret hc hr hw h dX3_tell_82
  replace h := h.2 c3
  by_cases c4 : a1 = 3
  · replace h := h.1 c4
    refine lv_tableIn (off := 82) (tgt := 83) hx hb dX3_tell_1 (by rw [c4]; decide) (by rw [c4]; decide) (by rw [c4]; rfl) (by decide) ?_
    refine lv_aload_n hx hb dX3_tell_83 rfl (lv_at hl 0 rfl) ?_
    refine fg_X3_43 (o := o0) hc hw hf_o0.2 hf_o0.1 dX3_tell_84 ?_
    exact g_iret hc hr hw h dX3_tell_87
  replace h := h.2 c4
  by_cases c5 : a1 = 4
  · replace h := h.1 c5
    refine lv_tableIn (off := 87) (tgt := 88) hx hb dX3_tell_1 (by rw [c5]; decide) (by rw [c5]; decide) (by rw [c5]; rfl) (by decide) ?_
    refine lv_aload_n hx hb dX3_tell_88 rfl (lv_at hl 0 rfl) ?_
    refine fg_X3_46 (o := o0) hc hw hf_o0.2 hf_o0.1 dX3_tell_89 ?_
    exact g_iret hc hr hw h dX3_tell_92
  replace h := h.2 c5
  by_cases c6 : a1 = 5
  · replace h := h.1 c6
    refine lv_tableIn (off := 92) (tgt := 93) hx hb dX3_tell_1 (by rw [c6]; decide) (by rw [c6]; decide) (by rw [c6]; rfl) (by decide) ?_
    refine lv_aload_n hx hb dX3_tell_93 rfl (lv_at hl 0 rfl) ?_
    refine fg_X3_25 (o := o0) hc hw hf_o0.2 hf_o0.1 dX3_tell_94 ?_
    exact g_iret hc hr hw h dX3_tell_97
  replace h := h.2 c6
  by_cases c7 : a1 = 6
  · replace h := h.1 c7
    refine lv_tableIn (off := 97) (tgt := 98) hx hb dX3_tell_1 (by rw [c7]; decide) (by rw [c7]; decide) (by rw [c7]; rfl) (by decide) ?_
    refine lv_aload_n hx hb dX3_tell_98 rfl (lv_at hl 0 rfl) ?_
    refine fg_X3_28 (o := o0) hc hw hf_o0.2 hf_o0.1 dX3_tell_99 ?_
    exact g_iret hc hr hw h dX3_tell_102
  replace h := h.2 c7
  by_cases c8 : a1 = 7
  · replace h := h.1 c8
    refine lv_tableIn (off := 102) (tgt := 103) hx hb dX3_tell_1 (by rw [c8]; decide) (by rw [c8]; decide) (by rw [c8]; rfl) (by decide) ?_
    refine lv_aload_n hx hb dX3_tell_103 rfl (lv_at hl 0 rfl) ?_
    refine fg_X3_49 (o := o0) hc hw hf_o0.2 hf_o0.1 dX3_tell_104 ?_
    exact g_iret hc hr hw h dX3_tell_107
  replace h := h.2 c8
  by_cases c9 : a1 = 8
  · replace h := h.1 c9
    refine lv_tableIn (off := 107) (tgt := 108) hx hb dX3_tell_1 (by rw [c9]; decide) (by rw [c9]; decide) (by rw [c9]; rfl) (by decide) ?_
    refine lv_aload_n hx hb dX3_tell_108 rfl (lv_at hl 0 rfl) ?_
    refine fg_X3_31 (o := o0) hc hw hf_o0.2 hf_o0.1 dX3_tell_109 ?_
    exact g_iret hc hr hw h dX3_tell_112
  replace h := h.2 c9
  by_cases c10 : a1 = 9
  · replace h := h.1 c10
    refine lv_tableIn (off := 112) (tgt := 113) hx hb dX3_tell_1 (by rw [c10]; decide) (by rw [c10]; decide) (by rw [c10]; rfl) (by decide) ?_
    refine lv_aload_n hx hb dX3_tell_113 rfl (lv_at hl 0 rfl) ?_
    refine fg_X3_55 (o := o0) hc hw hf_o0.2 hf_o0.1 dX3_tell_114 ?_
    exact g_iret hc hr hw h dX3_tell_117
  replace h := h.2 c10
  by_cases c11 : a1 = 10
  · replace h := h.1 c11
    refine lv_tableIn (off := 117) (tgt := 118) hx hb dX3_tell_1 (by rw [c11]; decide) (by rw [c11]; decide) (by rw [c11]; rfl) (by decide) ?_
    refine lv_aload_n hx hb dX3_tell_118 rfl (lv_at hl 0 rfl) ?_
    refine fg_X3_52 (o := o0) hc hw hf_o0.2 hf_o0.1 dX3_tell_119 ?_
    exact g_iret hc hr hw h dX3_tell_122
  replace h := h.2 c11
  by_cases c12 : a1 = 11
  · replace h := h.1 c12
    refine lv_tableIn (off := 122) (tgt := 123) hx hb dX3_tell_1 (by rw [c12]; decide) (by rw [c12]; decide) (by rw [c12]; rfl) (by decide) ?_
    refine lv_aload_n hx hb dX3_tell_123 rfl (lv_at hl 0 rfl) ?_
    refine g_Vi (Y := YC) (ci := 3) (n := 0) (k := 0) (As := []) (rest := []) rfl (by decide) vw_X3_150 ⟨Nat.le_of_ble_eq_true rfl, Nat.le_of_ble_eq_true rfl, Nat.zero_le _, Nat.zero_le _⟩ hc hw hl.1 hf_o0.2 hf_o0.1 (m_X3_thickness l hM o0 σ h) rfl rfl (Nat.le_of_ble_eq_true rfl) dX3_tell_124 (fun r14 σ13 H locs h hw => ?_)
    exact g_iret hc hr hw h dX3_tell_127
  replace h := h.2 c12
  by_cases c15 : a1 = 12
  · replace h := h.1 c15
    refine lv_tableIn (off := 127) (tgt := 128) hx hb dX3_tell_1 (by rw [c15]; decide) (by rw [c15]; decide) (by rw [c15]; rfl) (by decide) ?_
    refine lv_aload_n hx hb dX3_tell_128 rfl (lv_at hl 0 rfl) ?_
    refine g_Vi (Y := YC) (ci := 3) (n := 0) (k := 2) (As := []) (rest := []) rfl (by decide) vw_X3_153 ⟨Nat.le_of_ble_eq_true rfl, Nat.le_of_ble_eq_true rfl, Nat.zero_le _, Nat.zero_le _⟩ hc hw hl.1 hf_o0.2 hf_o0.1 (m_X3_threadsLong l hM o0 σ h) rfl rfl (Nat.le_of_ble_eq_true rfl) dX3_tell_129 (fun r17 σ16 H locs h hw => ?_)
    exact g_iret hc hr hw h dX3_tell_132
  replace h := h.2 c15
  refine lv_tableOut (tgt := 133) hx hb dX3_tell_1 (by have zc1 := lv_neT (a := 0) c1 (by decide); have zc2 := lv_neT (a := 1) c2 (by decide); have zc3 := lv_neT (a := 2) c3 (by decide); have zc4 := lv_neT (a := 3) c4 (by decide); have zc5 := lv_neT (a := 4) c5 (by decide); have zc6 := lv_neT (a := 5) c6 (by decide); have zc7 := lv_neT (a := 6) c7 (by decide); have zc8 := lv_neT (a := 7) c8 (by decide); have zc9 := lv_neT (a := 8) c9 (by decide); have zc10 := lv_neT (a := 9) c10 (by decide); have zc11 := lv_neT (a := 10) c11 (by decide); have zc12 := lv_neT (a := 11) c12 (by decide); have zc15 := lv_neT (a := 12) c15 (by decide); omega) (by decide) ?_
  refine lv_aload_n hx hb dX3_tell_133 rfl (lv_at hl 0 rfl) ?_
  refine g_Vi (Y := YC) (ci := 3) (n := 0) (k := 3) (As := []) (rest := []) rfl (by decide) vw_X3_156 ⟨Nat.le_of_ble_eq_true rfl, Nat.le_of_ble_eq_true rfl, Nat.zero_le _, Nat.zero_le _⟩ hc hw hl.1 hf_o0.2 hf_o0.1 (m_X3_sortNow l hM o0 σ h) rfl rfl (Nat.le_of_ble_eq_true rfl) dX3_tell_134 (fun r19 σ18 H locs h hw => ?_)
  exact g_iret hc hr hw h dX3_tell_137
