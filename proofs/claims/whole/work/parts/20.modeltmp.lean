theorem en_YM {cs : Nat → ClassId} {ad ad' : Nat → Nat} {σ τ : St} {o : Nat} (ho : o < 20) (ha : ∀ o, o < 20 → ad' o = ad o) (h1 : ∀ k, gi τ o k = gi σ o k) (h2 : gl τ o = gl σ o) : en YM cs ad' τ o = en YM cs ad σ o := by
  unfold en eb fv
  have e3 : ∀ k, (YM.2.2.2.2.1 τ o k).map ad' = (YM.2.2.2.2.1 σ o k).map ad := by
    intro k
    show (rcM τ o k).map ad' = (rcM σ o k).map ad
    have e4 : rcM τ o k = rcM σ o k := rfl
    rw [e4]
    have e5 : ∀ r, rcM σ o k = some r → r < 20 := by
      intro r hr
      rcases Nat.lt_or_ge k 40 with q | q
      · have key : ∀ k, k < 40 → ((rcM (fun _ _ => 0, fun _ => 0, fun _ _ => none, fun _ => 0) 0 k).all (fun r => decide (r < 20))) = true := by decide +kernel
        have h9 := key k q
        rw [show rcM (fun _ _ => 0, fun _ => 0, fun _ _ => none, fun _ => 0) 0 k = rcM σ o k from rfl, hr] at h9
        simpa using h9
      · unfold rcM at hr
        repeat rw [if_neg (by omega)] at hr
        cases hr
    cases hr : rcM σ o k with
    | none => rfl
    | some r => simp only [Option.map_some]; rw [ha r (e5 r hr)]
  have e6 : ∀ kd, YM.2.2.2.1 τ kd o = YM.2.2.2.1 σ kd o := fun _ => rfl
  simp only [h1, h2, e3, e6]
section RULES9
variable {Γ : Gm} {ad : Nat → Nat} {σ : St} {p : Program} {l : Launch} {e : Env} {R : Room} {s : State} {m : MethodId} {args : Array Value} {below : List Frame} {meth : Method} {c : Code} {H : Heap} {locs : List Loc} {cells slots : Nat} {Q : State → Prop} {cc : ByteArray} {pc nL : Nat} {ls : Array Slot} {rest st : List Value} {own : String}
theorem g_newtmp (harr : Cond.arrayClass .int ∈ TB) (hc : CX Γ p s m args meth c cc own nL) (hw : WH Γ YM 20 ad σ s H locs) (hcells : cells + 1 ≤ R.cells) (hslots : slots + 5 ≤ R.slots) (hdg : decode cc pc = .ok (.newarray .int, 2))
    (kk : ∀ (ad1 : Nat → Nat) (σ1 : St) (H1 : Heap), σ1 = so σ 20 (fun _ => 0) → (∀ o, o < 20 → ad1 o = ad o) → WH Γ YM 21 ad1 σ1 s H1 locs → W p l e R s m args below meth c H1 locs (cells + 1) (slots + 5) Q (F0 m (pc + 2) ls (.ref (ad1 20) :: rest))) : W p l e R s m args below meth c H locs cells slots Q (F0 m pc ls (.int 5 :: rest)) := by
  refine va_newa (atype := .int) (ty := .int) (N' := 5) (a0 := (5, .inl (fun _ => 0))) hc.1 hc.2.1 (hc.2.2.2.2.1 _ harr) rfl hc.2.2.2.2.2.2.1 hw.1 hw.2.1 hw.2.2 (fun q hq => Nat.le_trans hc.2.2.2.2.2.2.2.1 hq) (fun cA => rfl) (by decide) (by decide) (by decide) hcells hslots hdg (fun q cA H1 hK hP hD hS => ?_)
  have e0 := cs_eq (k := 0) (cs := Γ.2.1) (ty := .int) rfl hK
  subst e0
  rw [wl_push] at hP hD
  have w2 : wl 21 (va_up ad 20 q) (va_up (en YM Γ.2.1 ad σ) 20 (.inl (Γ.2.1 0, 5, .inl (fun _ => 0)))) = wl 21 (va_up ad 20 q) (en YM Γ.2.1 (va_up ad 20 q) (so σ 20 (fun _ => 0))) := by
    unfold wl
    apply List.map_congr_left
    intro o ho
    have ho := List.mem_range.mp ho
    by_cases hoM : o = 20
    · subst hoM
      rw [va_up_self]
      rfl
    · have e7 := en_YM (cs := Γ.2.1) (ad := ad) (ad' := va_up ad 20 q) (σ := σ) (τ := so σ 20 (fun _ => 0)) (o := o) (by omega) (fun o ho => va_up_ne _ _ (by omega)) (fun k => by simp [gi, so, hoM]) rfl
      rw [va_up_ne (en YM Γ.2.1 ad σ) _ hoM, e7]
  rw [w2] at hP hD
  have h1 := kk (va_up ad 20 q) _ H1 rfl (fun o ho => va_up_ne _ _ (by omega)) ⟨hP, hD, hS⟩
  rw [va_up_self] at h1
  exact h1
theorem WH_tmp {ad1 : Nat → Nat} (hw : WH Γ YM 21 ad1 σ s H locs) (hag : ∀ o, o < 20 → ad1 o = ad o) : WH Γ YM 20 ad σ s H locs :=
  WH_like (WH_drop (by decide) hw) (fun o ho => (hag o ho).symm) (fun o ho => Or.inl (en_YM ho (fun o ho => (hag o ho).symm) (fun _ => rfl) rfl).symm)
theorem g_iretM {ad1 : Nat → Nat} (hc : CX Γ p s m args meth c cc own nL) (hr : meth.sig.returnType = some .int) (hw : WH Γ YM 21 ad1 σ s H locs) (hag : ∀ o, o < 20 → ad1 o = ad o) {post : Int32 → St → Prop} {v : Int32} (h : post v σ) (hdg : decode cc pc = .ok (.ireturn, 1)) :
    W p l e R s m args below meth c H locs cells slots (MQ below (va_Qi post (fun u t => WC Γ YM 20 ad u t) (AA Γ)) args s cells slots (AA Γ)) (F0 m pc ls [.int v]) :=
  g_iret hc hr (WH_tmp hw hag) h hdg
end RULES9
def w_X7_cheese (M : Nat) (post : Int32 → St → Prop) (a1 : Int32) (a2 : Int32) (a3 : Int32) (a4 : Int32) (a5 : Int32) (σ : St) : Prop :=
  w_X7_mayBe M (fun r2 σ1 => ((r2 = 0 → (post (-2) σ1)) ∧ (¬ (r2 = 0) → (w_X7_mayBe M (fun r5 σ4 => ((r5 = 0 → (post (-2) σ4)) ∧ (¬ (r5 = 0) → (w_X7_mayBe M (fun r8 σ7 => ((r8 = 0 → (post (-2) σ7)) ∧ (¬ (r8 = 0) → (w_X7_mayBe M (fun r11 σ10 => ((r11 = 0 → (post (-2) σ10)) ∧ (¬ (r11 = 0) → (w_X7_mayBe M (fun r14 σ13 => ((r14 = 0 → (post (-2) σ13)) ∧ (¬ (r14 = 0) → (((gi σ13 0 0) = 4 → (post (-4) σ13)) ∧ (¬ ((gi σ13 0 0) = 4) → (∀ σ17 : St, σ17 = so σ13 20 (fun _ => 0) → (∀ σ18 : St, σ18 = si σ17 20 0 a1 → (∀ σ19 : St, σ19 = si σ18 20 1 a2 → (∀ σ20 : St, σ20 = si σ19 20 2 a3 → (∀ σ21 : St, σ21 = si σ20 20 3 a4 → (∀ σ22 : St, σ22 = si σ21 20 4 a5 → ((vp_in ((5 * (gi σ22 0 0)) + 0) 20) ∧ (∀ σ23 : St, σ23 = si σ22 1 (((5 * (gi σ22 0 0)) + 0).toNatClampNeg) (gi σ22 20 0) → ((vp_in ((5 * (gi σ23 0 0)) + 1) 20) ∧ (∀ σ24 : St, σ24 = si σ23 1 (((5 * (gi σ23 0 0)) + 1).toNatClampNeg) (gi σ23 20 1) → ((vp_in ((5 * (gi σ24 0 0)) + 2) 20) ∧ (∀ σ25 : St, σ25 = si σ24 1 (((5 * (gi σ24 0 0)) + 2).toNatClampNeg) (gi σ24 20 2) → ((vp_in ((5 * (gi σ25 0 0)) + 3) 20) ∧ (∀ σ26 : St, σ26 = si σ25 1 (((5 * (gi σ25 0 0)) + 3).toNatClampNeg) (gi σ25 20 3) → ((vp_in ((5 * (gi σ26 0 0)) + 4) 20) ∧ (∀ σ27 : St, σ27 = si σ26 1 (((5 * (gi σ26 0 0)) + 4).toNatClampNeg) (gi σ26 20 4) → (∀ σ28 : St, σ28 = si σ27 0 0 ((gi σ27 0 0) + 1) → (post ((gi σ28 0 0) - 1) σ28))))))))))))))))))))))) 4 a5 σ10)))) 3 a4 σ7)))) 2 a3 σ4)))) 1 a2 σ1)))) 0 a1 σ
set_option maxHeartbeats 4000000 in
set_option maxRecDepth 20000 in
theorem m_X7_cheese {Γ : Gm} {ad : Nat → Nat} (l : Launch) {post : Int32 → St → Prop} (a1 : Int32) (a2 : Int32) (a3 : Int32) (a4 : Int32) (a5 : Int32) (σ : St) (h : w_X7_cheese 20 post a1 a2 a3 a4 a5 σ) : Ci l Γ YM 20 ad σ yX7_cheese cX7_cheese 8 (Option.some Jvm.ClassFile.FieldType.int) 2 1 5 [.ref (ad 0), .int a1, .int a2, .int a3, .int a4, .int a5] post := by
  refine g_start (by decide) (Nat.le_of_ble_eq_true rfl) ?_
  intro p e s m args below meth c ls hc hr hn hl hw
  have hc : CX Γ p s m args meth c cX7_cheese RX7 8 := hc
  have hl : lv_has ls 8 [(0, .ref (ad 0)), (1, .int a1), (2, .int a2), (3, .int a3), (4, .int a4), (5, .int a5)] := hl
  have hM : 20 ≤ 20 := Nat.le_refl 20
  have hx := hc.1
  have hb := hc.2.1
  unfold w_X7_cheese at h
  generalize hHH : s.heap = H0 at hw ⊢
  refine lv_iconst (v := 0) hx hb dX7_cheese_0 (by decide) ?_
  refine lv_iload_n hx hb dX7_cheese_1 rfl (lv_at hl 1 rfl) ?_
  refine g_Si (Y := YM) (n := 2) (k := 1) (As := [.int 0, .int a1]) (rest := []) vw_X7_81 ⟨Nat.le_of_ble_eq_true rfl, Nat.le_of_ble_eq_true rfl, Nat.zero_le _, Nat.zero_le _⟩ hc hw hl.1 (m_X7_mayBe l hM 0 a1 σ h) rfl rfl (Nat.le_of_ble_eq_true rfl) dX7_cheese_2 (fun r2 σ1 H locs h hw => ?_)
  refine lv_if_eq (tgt := 42) hx hb dX7_cheese_5 (by decide) (fun c3 => ?_) (fun c3 => ?_)
  · replace h := h.1 c3
    refine lv_bipush (v := (-2)) hx hb dX7_cheese_42 (by decide) ?_
    refine W.widen (k := 1) (n := 5) (by decide) (by decide) ?_
    exact g_iret hc hr hw h dX7_cheese_44
  · replace h := h.2 c3
    refine lv_iconst (v := 1) hx hb dX7_cheese_8 (by decide) ?_
    refine lv_iload_n hx hb dX7_cheese_9 rfl (lv_at hl 2 rfl) ?_
    refine g_Si (Y := YM) (n := 2) (k := 1) (As := [.int 1, .int a2]) (rest := []) vw_X7_81 ⟨Nat.le_of_ble_eq_true rfl, Nat.le_of_ble_eq_true rfl, Nat.zero_le _, Nat.zero_le _⟩ hc hw hl.1 (m_X7_mayBe l hM 1 a2 σ1 h) rfl rfl (Nat.le_of_ble_eq_true rfl) dX7_cheese_10 (fun r5 σ4 H locs h hw => ?_)
    refine lv_if_eq (tgt := 42) hx hb dX7_cheese_13 (by decide) (fun c6 => ?_) (fun c6 => ?_)
    · replace h := h.1 c6
      refine lv_bipush (v := (-2)) hx hb dX7_cheese_42 (by decide) ?_
      refine W.widen (k := 1) (n := 5) (by decide) (by decide) ?_
      exact g_iret hc hr hw h dX7_cheese_44
    · replace h := h.2 c6
      refine lv_iconst (v := 2) hx hb dX7_cheese_16 (by decide) ?_
      refine lv_iload_n hx hb dX7_cheese_17 rfl (lv_at hl 3 rfl) ?_
      refine g_Si (Y := YM) (n := 2) (k := 1) (As := [.int 2, .int a3]) (rest := []) vw_X7_81 ⟨Nat.le_of_ble_eq_true rfl, Nat.le_of_ble_eq_true rfl, Nat.zero_le _, Nat.zero_le _⟩ hc hw hl.1 (m_X7_mayBe l hM 2 a3 σ4 h) rfl rfl (Nat.le_of_ble_eq_true rfl) dX7_cheese_18 (fun r8 σ7 H locs h hw => ?_)
      refine lv_if_eq (tgt := 42) hx hb dX7_cheese_21 (by decide) (fun c9 => ?_) (fun c9 => ?_)
      · replace h := h.1 c9
        refine lv_bipush (v := (-2)) hx hb dX7_cheese_42 (by decide) ?_
        refine W.widen (k := 1) (n := 5) (by decide) (by decide) ?_
        exact g_iret hc hr hw h dX7_cheese_44
      · replace h := h.2 c9
        refine lv_iconst (v := 3) hx hb dX7_cheese_24 (by decide) ?_
        refine lv_iload hx hb dX7_cheese_25 (lv_at hl 4 rfl) ?_
        refine g_Si (Y := YM) (n := 2) (k := 1) (As := [.int 3, .int a4]) (rest := []) vw_X7_81 ⟨Nat.le_of_ble_eq_true rfl, Nat.le_of_ble_eq_true rfl, Nat.zero_le _, Nat.zero_le _⟩ hc hw hl.1 (m_X7_mayBe l hM 3 a4 σ7 h) rfl rfl (Nat.le_of_ble_eq_true rfl) dX7_cheese_27 (fun r11 σ10 H locs h hw => ?_)
        refine lv_if_eq (tgt := 42) hx hb dX7_cheese_30 (by decide) (fun c12 => ?_) (fun c12 => ?_)
        · replace h := h.1 c12
          refine lv_bipush (v := (-2)) hx hb dX7_cheese_42 (by decide) ?_
          refine W.widen (k := 1) (n := 5) (by decide) (by decide) ?_
          exact g_iret hc hr hw h dX7_cheese_44
        · replace h := h.2 c12
          refine lv_iconst (v := 4) hx hb dX7_cheese_33 (by decide) ?_
          refine lv_iload hx hb dX7_cheese_34 (lv_at hl 5 rfl) ?_
          refine g_Si (Y := YM) (n := 2) (k := 1) (As := [.int 4, .int a5]) (rest := []) vw_X7_81 ⟨Nat.le_of_ble_eq_true rfl, Nat.le_of_ble_eq_true rfl, Nat.zero_le _, Nat.zero_le _⟩ hc hw hl.1 (m_X7_mayBe l hM 4 a5 σ10 h) rfl rfl (Nat.le_of_ble_eq_true rfl) dX7_cheese_36 (fun r14 σ13 H locs h hw => ?_)
          refine lv_if_ne (tgt := 45) hx hb dX7_cheese_39 (by decide) (fun c15 => ?_) (fun c15 => ?_)
          · replace h := h.2 c15
            refine lv_aload_n hx hb dX7_cheese_45 rfl (lv_at hl 0 rfl) ?_
            refine fg_X7_72 hc hw (Nat.lt_of_lt_of_le (by decide) hM) rfl dX7_cheese_46 ?_
            refine lv_iconst (v := 4) hx hb dX7_cheese_49 (by decide) ?_
            refine lv_icmp_ne (tgt := 56) hx hb dX7_cheese_50 (by decide) (fun c16 => ?_) (fun c16 => ?_)
            · replace h := h.2 c16
              refine lv_iconst (v := 5) hx hb dX7_cheese_56 (by decide) ?_
              refine g_newtmp q_141 hc hw (Nat.le_of_ble_eq_true rfl) (Nat.le_of_ble_eq_true rfl) dX7_cheese_57 (fun ad1 σ17 H eσ17 hag hw => ?_)
              replace h := h σ17 eσ17
              have hM : 20 ≤ 21 := by decide
              have hl : lv_has ls 8 [(0, .ref (ad1 0)), (1, .int a1), (2, .int a2), (3, .int a3), (4, .int a4), (5, .int a5)] := by rw [hag 0 (by decide)]; exact hl
              refine lv_dup hx hb dX7_cheese_59 rfl ?_
              refine lv_iconst (v := 0) hx hb dX7_cheese_60 (by decide) ?_
              refine lv_iload_n hx hb dX7_cheese_61 rfl (lv_at hl 1 rfl) ?_
              refine g_iastK (Y := YM) (kd := 40) (n := 5) (k := 0) (o := 20) YM_ok (by decide) (by decide) rfl hc hw (by decide) rfl rfl (vp_in_lit (by decide)) (by decide) dX7_cheese_62 (fun σ18 H locs eσ18 hw => ?_)
              replace h := h σ18 eσ18
              refine lv_dup hx hb dX7_cheese_63 rfl ?_
              refine lv_iconst (v := 1) hx hb dX7_cheese_64 (by decide) ?_
              refine lv_iload_n hx hb dX7_cheese_65 rfl (lv_at hl 2 rfl) ?_
              refine g_iastK (Y := YM) (kd := 40) (n := 5) (k := 1) (o := 20) YM_ok (by decide) (by decide) rfl hc hw (by decide) rfl rfl (vp_in_lit (by decide)) (by decide) dX7_cheese_66 (fun σ19 H locs eσ19 hw => ?_)
              replace h := h σ19 eσ19
              refine lv_dup hx hb dX7_cheese_67 rfl ?_
              refine lv_iconst (v := 2) hx hb dX7_cheese_68 (by decide) ?_
              refine lv_iload_n hx hb dX7_cheese_69 rfl (lv_at hl 3 rfl) ?_
              refine g_iastK (Y := YM) (kd := 40) (n := 5) (k := 2) (o := 20) YM_ok (by decide) (by decide) rfl hc hw (by decide) rfl rfl (vp_in_lit (by decide)) (by decide) dX7_cheese_70 (fun σ20 H locs eσ20 hw => ?_)
              replace h := h σ20 eσ20
              refine lv_dup hx hb dX7_cheese_71 rfl ?_
              refine lv_iconst (v := 3) hx hb dX7_cheese_72 (by decide) ?_
              refine lv_iload hx hb dX7_cheese_73 (lv_at hl 4 rfl) ?_
              refine g_iastK (Y := YM) (kd := 40) (n := 5) (k := 3) (o := 20) YM_ok (by decide) (by decide) rfl hc hw (by decide) rfl rfl (vp_in_lit (by decide)) (by decide) dX7_cheese_75 (fun σ21 H locs eσ21 hw => ?_)
              replace h := h σ21 eσ21
              refine lv_dup hx hb dX7_cheese_76 rfl ?_
              refine lv_iconst (v := 4) hx hb dX7_cheese_77 (by decide) ?_
              refine lv_iload hx hb dX7_cheese_78 (lv_at hl 5 rfl) ?_
              refine g_iastK (Y := YM) (kd := 40) (n := 5) (k := 4) (o := 20) YM_ok (by decide) (by decide) rfl hc hw (by decide) rfl rfl (vp_in_lit (by decide)) (by decide) dX7_cheese_80 (fun σ22 H locs eσ22 hw => ?_)
              replace h := h σ22 eσ22
              refine lv_astore (lv' := [(6, .ref (ad1 20)), (0, .ref (ad1 0)), (1, .int a1), (2, .int a2), (3, .int a3), (4, .int a4), (5, .int a5)]) hx hb dX7_cheese_81 hl (by decide) rfl (fun ls hl => ?_)
              refine lv_iconst (v := 0) hx hb dX7_cheese_83 (by decide) ?_
              refine lv_istore (lv' := [(7, .int 0), (6, .ref (ad1 20)), (0, .ref (ad1 0)), (1, .int a1), (2, .int a2), (3, .int a3), (4, .int a4), (5, .int a5)]) hx hb dX7_cheese_84 hl (by decide) rfl (fun ls hl => ?_)
              refine lv_iload hx hb dX7_cheese_86 (lv_at hl 0 rfl) ?_
              refine lv_iconst (v := 5) hx hb dX7_cheese_88 (by decide) ?_
              refine lv_icmp_ge (tgt := 117) hx hb dX7_cheese_89 (by decide) (fun c => absurd c (by decide)) (fun _ => ?_)
              refine lv_aload_n hx hb dX7_cheese_92 rfl (lv_at hl 2 rfl) ?_
              refine fg_X7_9 hc hw (Nat.lt_of_lt_of_le (by decide) hM) rfl dX7_cheese_93 ?_
              refine lv_iconst (v := 5) hx hb dX7_cheese_96 (by decide) ?_
              refine lv_aload_n hx hb dX7_cheese_97 rfl (lv_at hl 2 rfl) ?_
              refine fg_X7_72 hc hw (Nat.lt_of_lt_of_le (by decide) hM) rfl dX7_cheese_98 ?_
              refine lv_imul hx hb dX7_cheese_101 ?_
              refine lv_iload hx hb dX7_cheese_102 (lv_at hl 0 rfl) ?_
              refine lv_iadd hx hb dX7_cheese_104 ?_
              refine lv_aload hx hb dX7_cheese_105 (lv_at hl 1 rfl) ?_
              refine lv_iload hx hb dX7_cheese_107 (lv_at hl 0 rfl) ?_
              refine g_ialdK (Y := YM) (kd := 40) (n := 5) (k := 0) (o := 20) (by decide) (by decide) rfl hc hw (by decide) rfl rfl (vp_in_lit (by decide)) (by decide) dX7_cheese_109 ?_
              have hin := h.1
              replace h := h.2
              refine g_iastK (Y := YM) (kd := 21) (n := 20) (k := ((5 * (gi σ22 0 0)) + 0).toNatClampNeg) (o := 1) YM_ok (by decide) (by decide) rfl hc hw (Nat.lt_of_lt_of_le (by decide) hM) rfl rfl hin rfl dX7_cheese_110 (fun σ23 H locs eσ23 hw => ?_)
              replace h := h σ23 eσ23
              refine lv_iinc (v := 1) (lv' := [(7, .int 1), (6, .ref (ad1 20)), (0, .ref (ad1 0)), (1, .int a1), (2, .int a2), (3, .int a3), (4, .int a4), (5, .int a5)]) hx hb dX7_cheese_111 hl (k := 0) rfl (by decide) (by decide) rfl (fun ls hl => ?_)
              refine lv_goto (tgt := 86) hx hb dX7_cheese_114 (by decide) ?_
              refine lv_iload hx hb dX7_cheese_86 (lv_at hl 0 rfl) ?_
              refine lv_iconst (v := 5) hx hb dX7_cheese_88 (by decide) ?_
              refine lv_icmp_ge (tgt := 117) hx hb dX7_cheese_89 (by decide) (fun c => absurd c (by decide)) (fun _ => ?_)
              refine lv_aload_n hx hb dX7_cheese_92 rfl (lv_at hl 2 rfl) ?_
              refine fg_X7_9 hc hw (Nat.lt_of_lt_of_le (by decide) hM) rfl dX7_cheese_93 ?_
              refine lv_iconst (v := 5) hx hb dX7_cheese_96 (by decide) ?_
              refine lv_aload_n hx hb dX7_cheese_97 rfl (lv_at hl 2 rfl) ?_
              refine fg_X7_72 hc hw (Nat.lt_of_lt_of_le (by decide) hM) rfl dX7_cheese_98 ?_
              refine lv_imul hx hb dX7_cheese_101 ?_
              refine lv_iload hx hb dX7_cheese_102 (lv_at hl 0 rfl) ?_
              refine lv_iadd hx hb dX7_cheese_104 ?_
              refine lv_aload hx hb dX7_cheese_105 (lv_at hl 1 rfl) ?_
              refine lv_iload hx hb dX7_cheese_107 (lv_at hl 0 rfl) ?_
              refine g_ialdK (Y := YM) (kd := 40) (n := 5) (k := 1) (o := 20) (by decide) (by decide) rfl hc hw (by decide) rfl rfl (vp_in_lit (by decide)) (by decide) dX7_cheese_109 ?_
              have hin := h.1
              replace h := h.2
              refine g_iastK (Y := YM) (kd := 21) (n := 20) (k := ((5 * (gi σ23 0 0)) + 1).toNatClampNeg) (o := 1) YM_ok (by decide) (by decide) rfl hc hw (Nat.lt_of_lt_of_le (by decide) hM) rfl rfl hin rfl dX7_cheese_110 (fun σ24 H locs eσ24 hw => ?_)
              replace h := h σ24 eσ24
              refine lv_iinc (v := 2) (lv' := [(7, .int 2), (6, .ref (ad1 20)), (0, .ref (ad1 0)), (1, .int a1), (2, .int a2), (3, .int a3), (4, .int a4), (5, .int a5)]) hx hb dX7_cheese_111 hl (k := 0) rfl (by decide) (by decide) rfl (fun ls hl => ?_)
              refine lv_goto (tgt := 86) hx hb dX7_cheese_114 (by decide) ?_
              refine lv_iload hx hb dX7_cheese_86 (lv_at hl 0 rfl) ?_
              refine lv_iconst (v := 5) hx hb dX7_cheese_88 (by decide) ?_
              refine lv_icmp_ge (tgt := 117) hx hb dX7_cheese_89 (by decide) (fun c => absurd c (by decide)) (fun _ => ?_)
              refine lv_aload_n hx hb dX7_cheese_92 rfl (lv_at hl 2 rfl) ?_
              refine fg_X7_9 hc hw (Nat.lt_of_lt_of_le (by decide) hM) rfl dX7_cheese_93 ?_
              refine lv_iconst (v := 5) hx hb dX7_cheese_96 (by decide) ?_
              refine lv_aload_n hx hb dX7_cheese_97 rfl (lv_at hl 2 rfl) ?_
              refine fg_X7_72 hc hw (Nat.lt_of_lt_of_le (by decide) hM) rfl dX7_cheese_98 ?_
              refine lv_imul hx hb dX7_cheese_101 ?_
              refine lv_iload hx hb dX7_cheese_102 (lv_at hl 0 rfl) ?_
              refine lv_iadd hx hb dX7_cheese_104 ?_
              refine lv_aload hx hb dX7_cheese_105 (lv_at hl 1 rfl) ?_
              refine lv_iload hx hb dX7_cheese_107 (lv_at hl 0 rfl) ?_
              refine g_ialdK (Y := YM) (kd := 40) (n := 5) (k := 2) (o := 20) (by decide) (by decide) rfl hc hw (by decide) rfl rfl (vp_in_lit (by decide)) (by decide) dX7_cheese_109 ?_
              have hin := h.1
              replace h := h.2
              refine g_iastK (Y := YM) (kd := 21) (n := 20) (k := ((5 * (gi σ24 0 0)) + 2).toNatClampNeg) (o := 1) YM_ok (by decide) (by decide) rfl hc hw (Nat.lt_of_lt_of_le (by decide) hM) rfl rfl hin rfl dX7_cheese_110 (fun σ25 H locs eσ25 hw => ?_)
              replace h := h σ25 eσ25
              refine lv_iinc (v := 3) (lv' := [(7, .int 3), (6, .ref (ad1 20)), (0, .ref (ad1 0)), (1, .int a1), (2, .int a2), (3, .int a3), (4, .int a4), (5, .int a5)]) hx hb dX7_cheese_111 hl (k := 0) rfl (by decide) (by decide) rfl (fun ls hl => ?_)
              refine lv_goto (tgt := 86) hx hb dX7_cheese_114 (by decide) ?_
              refine lv_iload hx hb dX7_cheese_86 (lv_at hl 0 rfl) ?_
              refine lv_iconst (v := 5) hx hb dX7_cheese_88 (by decide) ?_
              refine lv_icmp_ge (tgt := 117) hx hb dX7_cheese_89 (by decide) (fun c => absurd c (by decide)) (fun _ => ?_)
              refine lv_aload_n hx hb dX7_cheese_92 rfl (lv_at hl 2 rfl) ?_
              refine fg_X7_9 hc hw (Nat.lt_of_lt_of_le (by decide) hM) rfl dX7_cheese_93 ?_
              refine lv_iconst (v := 5) hx hb dX7_cheese_96 (by decide) ?_
              refine lv_aload_n hx hb dX7_cheese_97 rfl (lv_at hl 2 rfl) ?_
              refine fg_X7_72 hc hw (Nat.lt_of_lt_of_le (by decide) hM) rfl dX7_cheese_98 ?_
              refine lv_imul hx hb dX7_cheese_101 ?_
              refine lv_iload hx hb dX7_cheese_102 (lv_at hl 0 rfl) ?_
              refine lv_iadd hx hb dX7_cheese_104 ?_
              refine lv_aload hx hb dX7_cheese_105 (lv_at hl 1 rfl) ?_
              refine lv_iload hx hb dX7_cheese_107 (lv_at hl 0 rfl) ?_
              refine g_ialdK (Y := YM) (kd := 40) (n := 5) (k := 3) (o := 20) (by decide) (by decide) rfl hc hw (by decide) rfl rfl (vp_in_lit (by decide)) (by decide) dX7_cheese_109 ?_
              have hin := h.1
              replace h := h.2
              refine g_iastK (Y := YM) (kd := 21) (n := 20) (k := ((5 * (gi σ25 0 0)) + 3).toNatClampNeg) (o := 1) YM_ok (by decide) (by decide) rfl hc hw (Nat.lt_of_lt_of_le (by decide) hM) rfl rfl hin rfl dX7_cheese_110 (fun σ26 H locs eσ26 hw => ?_)
              replace h := h σ26 eσ26
              refine lv_iinc (v := 4) (lv' := [(7, .int 4), (6, .ref (ad1 20)), (0, .ref (ad1 0)), (1, .int a1), (2, .int a2), (3, .int a3), (4, .int a4), (5, .int a5)]) hx hb dX7_cheese_111 hl (k := 0) rfl (by decide) (by decide) rfl (fun ls hl => ?_)
              refine lv_goto (tgt := 86) hx hb dX7_cheese_114 (by decide) ?_
              refine lv_iload hx hb dX7_cheese_86 (lv_at hl 0 rfl) ?_
              refine lv_iconst (v := 5) hx hb dX7_cheese_88 (by decide) ?_
              refine lv_icmp_ge (tgt := 117) hx hb dX7_cheese_89 (by decide) (fun c => absurd c (by decide)) (fun _ => ?_)
              refine lv_aload_n hx hb dX7_cheese_92 rfl (lv_at hl 2 rfl) ?_
              refine fg_X7_9 hc hw (Nat.lt_of_lt_of_le (by decide) hM) rfl dX7_cheese_93 ?_
              refine lv_iconst (v := 5) hx hb dX7_cheese_96 (by decide) ?_
              refine lv_aload_n hx hb dX7_cheese_97 rfl (lv_at hl 2 rfl) ?_
              refine fg_X7_72 hc hw (Nat.lt_of_lt_of_le (by decide) hM) rfl dX7_cheese_98 ?_
              refine lv_imul hx hb dX7_cheese_101 ?_
              refine lv_iload hx hb dX7_cheese_102 (lv_at hl 0 rfl) ?_
              refine lv_iadd hx hb dX7_cheese_104 ?_
              refine lv_aload hx hb dX7_cheese_105 (lv_at hl 1 rfl) ?_
              refine lv_iload hx hb dX7_cheese_107 (lv_at hl 0 rfl) ?_
              refine g_ialdK (Y := YM) (kd := 40) (n := 5) (k := 4) (o := 20) (by decide) (by decide) rfl hc hw (by decide) rfl rfl (vp_in_lit (by decide)) (by decide) dX7_cheese_109 ?_
              have hin := h.1
              replace h := h.2
              refine g_iastK (Y := YM) (kd := 21) (n := 20) (k := ((5 * (gi σ26 0 0)) + 4).toNatClampNeg) (o := 1) YM_ok (by decide) (by decide) rfl hc hw (Nat.lt_of_lt_of_le (by decide) hM) rfl rfl hin rfl dX7_cheese_110 (fun σ27 H locs eσ27 hw => ?_)
              replace h := h σ27 eσ27
              refine lv_iinc (v := 5) (lv' := [(7, .int 5), (6, .ref (ad1 20)), (0, .ref (ad1 0)), (1, .int a1), (2, .int a2), (3, .int a3), (4, .int a4), (5, .int a5)]) hx hb dX7_cheese_111 hl (k := 0) rfl (by decide) (by decide) rfl (fun ls hl => ?_)
              refine lv_goto (tgt := 86) hx hb dX7_cheese_114 (by decide) ?_
              refine lv_iload hx hb dX7_cheese_86 (lv_at hl 0 rfl) ?_
              refine lv_iconst (v := 5) hx hb dX7_cheese_88 (by decide) ?_
              refine lv_icmp_ge (tgt := 117) hx hb dX7_cheese_89 (by decide) (fun _ => ?_) (fun c => absurd c (by decide))
              refine lv_aload_n hx hb dX7_cheese_117 rfl (lv_at hl 2 rfl) ?_
              refine lv_dup hx hb dX7_cheese_118 rfl ?_
              refine fg_X7_72 hc hw (Nat.lt_of_lt_of_le (by decide) hM) rfl dX7_cheese_119 ?_
              refine lv_iconst (v := 1) hx hb dX7_cheese_122 (by decide) ?_
              refine lv_iadd hx hb dX7_cheese_123 ?_
              refine fp_X7_72 (o := 0) hc hw (Nat.lt_of_lt_of_le (by decide) hM) rfl dX7_cheese_124 (fun σ28 H locs eσ28 hw => ?_)
              replace h := h σ28 eσ28
              refine lv_aload_n hx hb dX7_cheese_127 rfl (lv_at hl 2 rfl) ?_
              refine fg_X7_72 hc hw (Nat.lt_of_lt_of_le (by decide) hM) rfl dX7_cheese_128 ?_
              refine lv_iconst (v := 1) hx hb dX7_cheese_131 (by decide) ?_
              refine lv_isub hx hb dX7_cheese_132 ?_
              exact g_iretM hc hr hw hag h dX7_cheese_133
            · replace h := h.1 c16
              refine lv_bipush (v := (-4)) hx hb dX7_cheese_53 (by decide) ?_
              refine W.widen (k := 1) (n := 5) (by decide) (by decide) ?_
              exact g_iret hc hr hw h dX7_cheese_55
          · replace h := h.1 c15
            refine lv_bipush (v := (-2)) hx hb dX7_cheese_42 (by decide) ?_
            refine W.widen (k := 1) (n := 5) (by decide) (by decide) ?_
            exact g_iret hc hr hw h dX7_cheese_44
def w_X7_feed (M : Nat) (post : Int32 → St → Prop) (a1 : Int32) (a2 : Int32) (a3 : Int32) (a4 : Int32) (a5 : Int32) (a6 : Int32) (σ : St) : Prop :=
  w_X7_in M (fun r2 σ1 => ((r2 = 0 → (post (-2) σ1)) ∧ (¬ (r2 = 0) → (w_X7_isByte M (fun r5 σ4 => ((r5 = 0 → (post (-2) σ4)) ∧ (¬ (r5 = 0) → (w_X7_isByte M (fun r8 σ7 => ((r8 = 0 → (post (-2) σ7)) ∧ (¬ (r8 = 0) → (w_X7_isByte M (fun r11 σ10 => ((r11 = 0 → (post (-2) σ10)) ∧ (¬ (r11 = 0) → (w_X7_isByte M (fun r14 σ13 => ((r14 = 0 → (post (-2) σ13)) ∧ (¬ (r14 = 0) → (w_X7_isByte M (fun r17 σ16 => ((r17 = 0 → (post (-2) σ16)) ∧ (¬ (r17 = 0) → ((((gi σ16 0 4) + a1) ≤ 160 → (∀ σ20 : St, σ20 = so σ16 20 (fun _ => 0) → (∀ σ21 : St, σ21 = si σ20 20 0 a2 → (∀ σ22 : St, σ22 = si σ21 20 1 a3 → (∀ σ23 : St, σ23 = si σ22 20 2 a4 → (∀ σ24 : St, σ24 = si σ23 20 3 a5 → (∀ σ25 : St, σ25 = si σ24 20 4 a6 → ((a1 ≤ (0 : Int32) → (post (gi σ25 0 4) σ25)) ∧ (¬ (a1 ≤ (0 : Int32)) → ((vp_in (gi σ25 0 4) 160) ∧ (∀ σ27 : St, σ27 = si σ25 3 ((gi σ25 0 4).toNatClampNeg) (gi σ25 20 0) → (∀ σ28 : St, σ28 = si σ27 0 4 ((gi σ27 0 4) + 1) → ((a1 ≤ (1 : Int32) → (post (gi σ28 0 4) σ28)) ∧ (¬ (a1 ≤ (1 : Int32)) → ((vp_in (gi σ28 0 4) 160) ∧ (∀ σ30 : St, σ30 = si σ28 3 ((gi σ28 0 4).toNatClampNeg) (gi σ28 20 1) → (∀ σ31 : St, σ31 = si σ30 0 4 ((gi σ30 0 4) + 1) → ((a1 ≤ (2 : Int32) → (post (gi σ31 0 4) σ31)) ∧ (¬ (a1 ≤ (2 : Int32)) → ((vp_in (gi σ31 0 4) 160) ∧ (∀ σ33 : St, σ33 = si σ31 3 ((gi σ31 0 4).toNatClampNeg) (gi σ31 20 2) → (∀ σ34 : St, σ34 = si σ33 0 4 ((gi σ33 0 4) + 1) → ((a1 ≤ (3 : Int32) → (post (gi σ34 0 4) σ34)) ∧ (¬ (a1 ≤ (3 : Int32)) → ((vp_in (gi σ34 0 4) 160) ∧ (∀ σ36 : St, σ36 = si σ34 3 ((gi σ34 0 4).toNatClampNeg) (gi σ34 20 3) → (∀ σ37 : St, σ37 = si σ36 0 4 ((gi σ36 0 4) + 1) → ((a1 ≤ (4 : Int32) → (post (gi σ37 0 4) σ37)) ∧ (¬ (a1 ≤ (4 : Int32)) → ((vp_in (gi σ37 0 4) 160) ∧ (∀ σ39 : St, σ39 = si σ37 3 ((gi σ37 0 4).toNatClampNeg) (gi σ37 20 4) → (∀ σ40 : St, σ40 = si σ39 0 4 ((gi σ39 0 4) + 1) → ((a1 ≤ (5 : Int32) → (post (gi σ40 0 4) σ40)) ∧ (¬ (a1 ≤ (5 : Int32)) → (False))))))))))))))))))))))))))))))))))) ∧ (¬ (((gi σ16 0 4) + a1) ≤ 160) → (post (-4) σ16)))))) a6 σ13)))) a5 σ10)))) a4 σ7)))) a3 σ4)))) a2 σ1)))) a1.toInt64 1 5 σ
set_option maxHeartbeats 4000000 in
set_option maxRecDepth 20000 in
theorem m_X7_feed {Γ : Gm} {ad : Nat → Nat} (l : Launch) {post : Int32 → St → Prop} (a1 : Int32) (a2 : Int32) (a3 : Int32) (a4 : Int32) (a5 : Int32) (a6 : Int32) (σ : St) (h : w_X7_feed 20 post a1 a2 a3 a4 a5 a6 σ) : Ci l Γ YM 20 ad σ yX7_feed cX7_feed 9 (Option.some Jvm.ClassFile.FieldType.int) 2 1 5 [.ref (ad 0), .int a1, .int a2, .int a3, .int a4, .int a5, .int a6] post := by
  refine g_start (by decide) (Nat.le_of_ble_eq_true rfl) ?_
  intro p e s m args below meth c ls hc hr hn hl hw
  have hc : CX Γ p s m args meth c cX7_feed RX7 9 := hc
  have hl : lv_has ls 9 [(0, .ref (ad 0)), (1, .int a1), (2, .int a2), (3, .int a3), (4, .int a4), (5, .int a5), (6, .int a6)] := hl
  have hM : 20 ≤ 20 := Nat.le_refl 20
  have hx := hc.1
  have hb := hc.2.1
  unfold w_X7_feed at h
  generalize hHH : s.heap = H0 at hw ⊢
  refine lv_iload_n hx hb dX7_feed_0 rfl (lv_at hl 1 rfl) ?_
  refine lv_i2l (v := a1.toInt64) hx hb dX7_feed_1 rfl ?_
  refine lv_lconst (v := 1) hx hb dX7_feed_2 (by decide) ?_
  refine lv_ldc2 (v := 5) hx hb hc.2.2.2.1 (hc.2.2.2.2.1 _ q_1110) dX7_feed_3 ?_
  refine g_Si (Y := YM) (n := 3) (k := 0) (As := [.long a1.toInt64, .long 1, .long 5]) (rest := []) vw_X7_75 ⟨Nat.le_of_ble_eq_true rfl, Nat.le_of_ble_eq_true rfl, Nat.zero_le _, Nat.zero_le _⟩ hc hw hl.1 (m_X7_in l hM a1.toInt64 1 5 σ h) rfl rfl (Nat.le_of_ble_eq_true rfl) dX7_feed_6 (fun r2 σ1 H locs h hw => ?_)
  refine lv_if_eq (tgt := 50) hx hb dX7_feed_9 (by decide) (fun c3 => ?_) (fun c3 => ?_)
  · replace h := h.1 c3
    refine lv_bipush (v := (-2)) hx hb dX7_feed_50 (by decide) ?_
    refine W.widen (k := 1) (n := 5) (by decide) (by decide) ?_
    exact g_iret hc hr hw h dX7_feed_52
  · replace h := h.2 c3
    refine lv_iload_n hx hb dX7_feed_12 rfl (lv_at hl 2 rfl) ?_
    refine g_Si (Y := YM) (n := 1) (k := 1) (As := [.int a2]) (rest := []) vw_X7_108 ⟨Nat.le_of_ble_eq_true rfl, Nat.le_of_ble_eq_true rfl, Nat.zero_le _, Nat.zero_le _⟩ hc hw hl.1 (m_X7_isByte l hM a2 σ1 h) rfl rfl (Nat.le_of_ble_eq_true rfl) dX7_feed_13 (fun r5 σ4 H locs h hw => ?_)
    refine lv_if_eq (tgt := 50) hx hb dX7_feed_16 (by decide) (fun c6 => ?_) (fun c6 => ?_)
    · replace h := h.1 c6
      refine lv_bipush (v := (-2)) hx hb dX7_feed_50 (by decide) ?_
      refine W.widen (k := 1) (n := 5) (by decide) (by decide) ?_
      exact g_iret hc hr hw h dX7_feed_52
    · replace h := h.2 c6
      refine lv_iload_n hx hb dX7_feed_19 rfl (lv_at hl 3 rfl) ?_
      refine g_Si (Y := YM) (n := 1) (k := 1) (As := [.int a3]) (rest := []) vw_X7_108 ⟨Nat.le_of_ble_eq_true rfl, Nat.le_of_ble_eq_true rfl, Nat.zero_le _, Nat.zero_le _⟩ hc hw hl.1 (m_X7_isByte l hM a3 σ4 h) rfl rfl (Nat.le_of_ble_eq_true rfl) dX7_feed_20 (fun r8 σ7 H locs h hw => ?_)
      refine lv_if_eq (tgt := 50) hx hb dX7_feed_23 (by decide) (fun c9 => ?_) (fun c9 => ?_)
      · replace h := h.1 c9
        refine lv_bipush (v := (-2)) hx hb dX7_feed_50 (by decide) ?_
        refine W.widen (k := 1) (n := 5) (by decide) (by decide) ?_
        exact g_iret hc hr hw h dX7_feed_52
      · replace h := h.2 c9
        refine lv_iload hx hb dX7_feed_26 (lv_at hl 4 rfl) ?_
        refine g_Si (Y := YM) (n := 1) (k := 1) (As := [.int a4]) (rest := []) vw_X7_108 ⟨Nat.le_of_ble_eq_true rfl, Nat.le_of_ble_eq_true rfl, Nat.zero_le _, Nat.zero_le _⟩ hc hw hl.1 (m_X7_isByte l hM a4 σ7 h) rfl rfl (Nat.le_of_ble_eq_true rfl) dX7_feed_28 (fun r11 σ10 H locs h hw => ?_)
        refine lv_if_eq (tgt := 50) hx hb dX7_feed_31 (by decide) (fun c12 => ?_) (fun c12 => ?_)
        · replace h := h.1 c12
          refine lv_bipush (v := (-2)) hx hb dX7_feed_50 (by decide) ?_
          refine W.widen (k := 1) (n := 5) (by decide) (by decide) ?_
          exact g_iret hc hr hw h dX7_feed_52
        · replace h := h.2 c12
          refine lv_iload hx hb dX7_feed_34 (lv_at hl 5 rfl) ?_
          refine g_Si (Y := YM) (n := 1) (k := 1) (As := [.int a5]) (rest := []) vw_X7_108 ⟨Nat.le_of_ble_eq_true rfl, Nat.le_of_ble_eq_true rfl, Nat.zero_le _, Nat.zero_le _⟩ hc hw hl.1 (m_X7_isByte l hM a5 σ10 h) rfl rfl (Nat.le_of_ble_eq_true rfl) dX7_feed_36 (fun r14 σ13 H locs h hw => ?_)
          refine lv_if_eq (tgt := 50) hx hb dX7_feed_39 (by decide) (fun c15 => ?_) (fun c15 => ?_)
          · replace h := h.1 c15
            refine lv_bipush (v := (-2)) hx hb dX7_feed_50 (by decide) ?_
            refine W.widen (k := 1) (n := 5) (by decide) (by decide) ?_
            exact g_iret hc hr hw h dX7_feed_52
          · replace h := h.2 c15
            refine lv_iload hx hb dX7_feed_42 (lv_at hl 6 rfl) ?_
            refine g_Si (Y := YM) (n := 1) (k := 1) (As := [.int a6]) (rest := []) vw_X7_108 ⟨Nat.le_of_ble_eq_true rfl, Nat.le_of_ble_eq_true rfl, Nat.zero_le _, Nat.zero_le _⟩ hc hw hl.1 (m_X7_isByte l hM a6 σ13 h) rfl rfl (Nat.le_of_ble_eq_true rfl) dX7_feed_44 (fun r17 σ16 H locs h hw => ?_)
            refine lv_if_ne (tgt := 53) hx hb dX7_feed_47 (by decide) (fun c18 => ?_) (fun c18 => ?_)
            · replace h := h.2 c18
              refine lv_aload_n hx hb dX7_feed_53 rfl (lv_at hl 0 rfl) ?_
              refine fg_X7_101 hc hw (Nat.lt_of_lt_of_le (by decide) hM) rfl dX7_feed_54 ?_
              refine lv_iload_n hx hb dX7_feed_57 rfl (lv_at hl 1 rfl) ?_
              refine lv_iadd hx hb dX7_feed_58 ?_
              refine lv_sipush (v := 160) hx hb dX7_feed_59 (by decide) ?_
              refine lv_icmp_le (tgt := 68) hx hb dX7_feed_62 (by decide) (fun c19 => ?_) (fun c19 => ?_)
              · replace h := h.1 c19
                refine lv_iconst (v := 5) hx hb dX7_feed_68 (by decide) ?_
                refine g_newtmp q_141 hc hw (Nat.le_of_ble_eq_true rfl) (Nat.le_of_ble_eq_true rfl) dX7_feed_69 (fun ad1 σ20 H eσ20 hag hw => ?_)
                replace h := h σ20 eσ20
                have hM : 20 ≤ 21 := by decide
                have hl : lv_has ls 9 [(0, .ref (ad1 0)), (1, .int a1), (2, .int a2), (3, .int a3), (4, .int a4), (5, .int a5), (6, .int a6)] := by rw [hag 0 (by decide)]; exact hl
                refine lv_dup hx hb dX7_feed_71 rfl ?_
                refine lv_iconst (v := 0) hx hb dX7_feed_72 (by decide) ?_
                refine lv_iload_n hx hb dX7_feed_73 rfl (lv_at hl 2 rfl) ?_
                refine g_iastK (Y := YM) (kd := 40) (n := 5) (k := 0) (o := 20) YM_ok (by decide) (by decide) rfl hc hw (by decide) rfl rfl (vp_in_lit (by decide)) (by decide) dX7_feed_74 (fun σ21 H locs eσ21 hw => ?_)
                replace h := h σ21 eσ21
                refine lv_dup hx hb dX7_feed_75 rfl ?_
                refine lv_iconst (v := 1) hx hb dX7_feed_76 (by decide) ?_
                refine lv_iload_n hx hb dX7_feed_77 rfl (lv_at hl 3 rfl) ?_
                refine g_iastK (Y := YM) (kd := 40) (n := 5) (k := 1) (o := 20) YM_ok (by decide) (by decide) rfl hc hw (by decide) rfl rfl (vp_in_lit (by decide)) (by decide) dX7_feed_78 (fun σ22 H locs eσ22 hw => ?_)
                replace h := h σ22 eσ22
                refine lv_dup hx hb dX7_feed_79 rfl ?_
                refine lv_iconst (v := 2) hx hb dX7_feed_80 (by decide) ?_
                refine lv_iload hx hb dX7_feed_81 (lv_at hl 4 rfl) ?_
                refine g_iastK (Y := YM) (kd := 40) (n := 5) (k := 2) (o := 20) YM_ok (by decide) (by decide) rfl hc hw (by decide) rfl rfl (vp_in_lit (by decide)) (by decide) dX7_feed_83 (fun σ23 H locs eσ23 hw => ?_)
                replace h := h σ23 eσ23
                refine lv_dup hx hb dX7_feed_84 rfl ?_
                refine lv_iconst (v := 3) hx hb dX7_feed_85 (by decide) ?_
                refine lv_iload hx hb dX7_feed_86 (lv_at hl 5 rfl) ?_
                refine g_iastK (Y := YM) (kd := 40) (n := 5) (k := 3) (o := 20) YM_ok (by decide) (by decide) rfl hc hw (by decide) rfl rfl (vp_in_lit (by decide)) (by decide) dX7_feed_88 (fun σ24 H locs eσ24 hw => ?_)
                replace h := h σ24 eσ24
                refine lv_dup hx hb dX7_feed_89 rfl ?_
                refine lv_iconst (v := 4) hx hb dX7_feed_90 (by decide) ?_
                refine lv_iload hx hb dX7_feed_91 (lv_at hl 6 rfl) ?_
                refine g_iastK (Y := YM) (kd := 40) (n := 5) (k := 4) (o := 20) YM_ok (by decide) (by decide) rfl hc hw (by decide) rfl rfl (vp_in_lit (by decide)) (by decide) dX7_feed_93 (fun σ25 H locs eσ25 hw => ?_)
                replace h := h σ25 eσ25
                refine lv_astore (lv' := [(7, .ref (ad1 20)), (0, .ref (ad1 0)), (1, .int a1), (2, .int a2), (3, .int a3), (4, .int a4), (5, .int a5), (6, .int a6)]) hx hb dX7_feed_94 hl (by decide) rfl (fun ls hl => ?_)
                refine lv_iconst (v := 0) hx hb dX7_feed_96 (by decide) ?_
                refine lv_istore (lv' := [(8, .int 0), (7, .ref (ad1 20)), (0, .ref (ad1 0)), (1, .int a1), (2, .int a2), (3, .int a3), (4, .int a4), (5, .int a5), (6, .int a6)]) hx hb dX7_feed_97 hl (by decide) rfl (fun ls hl => ?_)
                refine lv_iload hx hb dX7_feed_99 (lv_at hl 0 rfl) ?_
                refine lv_iload_n hx hb dX7_feed_101 rfl (lv_at hl 3 rfl) ?_
                refine lv_icmp_ge (tgt := 135) hx hb dX7_feed_102 (by decide) (fun c26 => ?_) (fun c26 => ?_)
                · replace h := h.1 c26
                  refine lv_aload_n hx hb dX7_feed_135 rfl (lv_at hl 2 rfl) ?_
                  refine fg_X7_101 hc hw (Nat.lt_of_lt_of_le (by decide) hM) rfl dX7_feed_136 ?_
                  exact g_iretM hc hr hw hag h dX7_feed_139
                · replace h := h.2 c26
                  refine lv_aload_n hx hb dX7_feed_105 rfl (lv_at hl 2 rfl) ?_
                  refine fg_X7_16 hc hw (Nat.lt_of_lt_of_le (by decide) hM) rfl dX7_feed_106 ?_
                  refine lv_aload_n hx hb dX7_feed_109 rfl (lv_at hl 2 rfl) ?_
                  refine fg_X7_101 hc hw (Nat.lt_of_lt_of_le (by decide) hM) rfl dX7_feed_110 ?_
                  refine lv_aload hx hb dX7_feed_113 (lv_at hl 1 rfl) ?_
                  refine lv_iload hx hb dX7_feed_115 (lv_at hl 0 rfl) ?_
                  refine g_ialdK (Y := YM) (kd := 40) (n := 5) (k := 0) (o := 20) (by decide) (by decide) rfl hc hw (by decide) rfl rfl (vp_in_lit (by decide)) (by decide) dX7_feed_117 ?_
                  have hin := h.1
                  replace h := h.2
                  refine g_iastK (Y := YM) (kd := 23) (n := 160) (k := (gi σ25 0 4).toNatClampNeg) (o := 3) YM_ok (by decide) (by decide) rfl hc hw (Nat.lt_of_lt_of_le (by decide) hM) rfl rfl hin rfl dX7_feed_118 (fun σ27 H locs eσ27 hw => ?_)
                  replace h := h σ27 eσ27
                  refine lv_aload_n hx hb dX7_feed_119 rfl (lv_at hl 2 rfl) ?_
                  refine lv_dup hx hb dX7_feed_120 rfl ?_
                  refine fg_X7_101 hc hw (Nat.lt_of_lt_of_le (by decide) hM) rfl dX7_feed_121 ?_
                  refine lv_iconst (v := 1) hx hb dX7_feed_124 (by decide) ?_
                  refine lv_iadd hx hb dX7_feed_125 ?_
                  refine fp_X7_101 (o := 0) hc hw (Nat.lt_of_lt_of_le (by decide) hM) rfl dX7_feed_126 (fun σ28 H locs eσ28 hw => ?_)
                  replace h := h σ28 eσ28
                  refine lv_iinc (v := 1) (lv' := [(8, .int 1), (7, .ref (ad1 20)), (0, .ref (ad1 0)), (1, .int a1), (2, .int a2), (3, .int a3), (4, .int a4), (5, .int a5), (6, .int a6)]) hx hb dX7_feed_129 hl (k := 0) rfl (by decide) (by decide) rfl (fun ls hl => ?_)
                  refine lv_goto (tgt := 99) hx hb dX7_feed_132 (by decide) ?_
                  refine lv_iload hx hb dX7_feed_99 (lv_at hl 0 rfl) ?_
                  refine lv_iload_n hx hb dX7_feed_101 rfl (lv_at hl 3 rfl) ?_
                  refine lv_icmp_ge (tgt := 135) hx hb dX7_feed_102 (by decide) (fun c29 => ?_) (fun c29 => ?_)
                  · replace h := h.1 c29
                    refine lv_aload_n hx hb dX7_feed_135 rfl (lv_at hl 2 rfl) ?_
                    refine fg_X7_101 hc hw (Nat.lt_of_lt_of_le (by decide) hM) rfl dX7_feed_136 ?_
                    exact g_iretM hc hr hw hag h dX7_feed_139
                  · replace h := h.2 c29
                    refine lv_aload_n hx hb dX7_feed_105 rfl (lv_at hl 2 rfl) ?_
                    refine fg_X7_16 hc hw (Nat.lt_of_lt_of_le (by decide) hM) rfl dX7_feed_106 ?_
                    refine lv_aload_n hx hb dX7_feed_109 rfl (lv_at hl 2 rfl) ?_
                    refine fg_X7_101 hc hw (Nat.lt_of_lt_of_le (by decide) hM) rfl dX7_feed_110 ?_
                    refine lv_aload hx hb dX7_feed_113 (lv_at hl 1 rfl) ?_
                    refine lv_iload hx hb dX7_feed_115 (lv_at hl 0 rfl) ?_
                    refine g_ialdK (Y := YM) (kd := 40) (n := 5) (k := 1) (o := 20) (by decide) (by decide) rfl hc hw (by decide) rfl rfl (vp_in_lit (by decide)) (by decide) dX7_feed_117 ?_
                    have hin := h.1
                    replace h := h.2
                    refine g_iastK (Y := YM) (kd := 23) (n := 160) (k := (gi σ28 0 4).toNatClampNeg) (o := 3) YM_ok (by decide) (by decide) rfl hc hw (Nat.lt_of_lt_of_le (by decide) hM) rfl rfl hin rfl dX7_feed_118 (fun σ30 H locs eσ30 hw => ?_)
                    replace h := h σ30 eσ30
                    refine lv_aload_n hx hb dX7_feed_119 rfl (lv_at hl 2 rfl) ?_
                    refine lv_dup hx hb dX7_feed_120 rfl ?_
                    refine fg_X7_101 hc hw (Nat.lt_of_lt_of_le (by decide) hM) rfl dX7_feed_121 ?_
                    refine lv_iconst (v := 1) hx hb dX7_feed_124 (by decide) ?_
                    refine lv_iadd hx hb dX7_feed_125 ?_
                    refine fp_X7_101 (o := 0) hc hw (Nat.lt_of_lt_of_le (by decide) hM) rfl dX7_feed_126 (fun σ31 H locs eσ31 hw => ?_)
                    replace h := h σ31 eσ31
                    refine lv_iinc (v := 2) (lv' := [(8, .int 2), (7, .ref (ad1 20)), (0, .ref (ad1 0)), (1, .int a1), (2, .int a2), (3, .int a3), (4, .int a4), (5, .int a5), (6, .int a6)]) hx hb dX7_feed_129 hl (k := 0) rfl (by decide) (by decide) rfl (fun ls hl => ?_)
                    refine lv_goto (tgt := 99) hx hb dX7_feed_132 (by decide) ?_
                    refine lv_iload hx hb dX7_feed_99 (lv_at hl 0 rfl) ?_
                    refine lv_iload_n hx hb dX7_feed_101 rfl (lv_at hl 3 rfl) ?_
                    refine lv_icmp_ge (tgt := 135) hx hb dX7_feed_102 (by decide) (fun c32 => ?_) (fun c32 => ?_)
                    · replace h := h.1 c32
                      refine lv_aload_n hx hb dX7_feed_135 rfl (lv_at hl 2 rfl) ?_
                      refine fg_X7_101 hc hw (Nat.lt_of_lt_of_le (by decide) hM) rfl dX7_feed_136 ?_
                      exact g_iretM hc hr hw hag h dX7_feed_139
                    · replace h := h.2 c32
                      refine lv_aload_n hx hb dX7_feed_105 rfl (lv_at hl 2 rfl) ?_
                      refine fg_X7_16 hc hw (Nat.lt_of_lt_of_le (by decide) hM) rfl dX7_feed_106 ?_
                      refine lv_aload_n hx hb dX7_feed_109 rfl (lv_at hl 2 rfl) ?_
                      refine fg_X7_101 hc hw (Nat.lt_of_lt_of_le (by decide) hM) rfl dX7_feed_110 ?_
                      refine lv_aload hx hb dX7_feed_113 (lv_at hl 1 rfl) ?_
                      refine lv_iload hx hb dX7_feed_115 (lv_at hl 0 rfl) ?_
                      refine g_ialdK (Y := YM) (kd := 40) (n := 5) (k := 2) (o := 20) (by decide) (by decide) rfl hc hw (by decide) rfl rfl (vp_in_lit (by decide)) (by decide) dX7_feed_117 ?_
                      have hin := h.1
                      replace h := h.2
                      refine g_iastK (Y := YM) (kd := 23) (n := 160) (k := (gi σ31 0 4).toNatClampNeg) (o := 3) YM_ok (by decide) (by decide) rfl hc hw (Nat.lt_of_lt_of_le (by decide) hM) rfl rfl hin rfl dX7_feed_118 (fun σ33 H locs eσ33 hw => ?_)
                      replace h := h σ33 eσ33
                      refine lv_aload_n hx hb dX7_feed_119 rfl (lv_at hl 2 rfl) ?_
                      refine lv_dup hx hb dX7_feed_120 rfl ?_
                      refine fg_X7_101 hc hw (Nat.lt_of_lt_of_le (by decide) hM) rfl dX7_feed_121 ?_
                      refine lv_iconst (v := 1) hx hb dX7_feed_124 (by decide) ?_
                      refine lv_iadd hx hb dX7_feed_125 ?_
                      refine fp_X7_101 (o := 0) hc hw (Nat.lt_of_lt_of_le (by decide) hM) rfl dX7_feed_126 (fun σ34 H locs eσ34 hw => ?_)
                      replace h := h σ34 eσ34
                      refine lv_iinc (v := 3) (lv' := [(8, .int 3), (7, .ref (ad1 20)), (0, .ref (ad1 0)), (1, .int a1), (2, .int a2), (3, .int a3), (4, .int a4), (5, .int a5), (6, .int a6)]) hx hb dX7_feed_129 hl (k := 0) rfl (by decide) (by decide) rfl (fun ls hl => ?_)
                      refine lv_goto (tgt := 99) hx hb dX7_feed_132 (by decide) ?_
                      refine lv_iload hx hb dX7_feed_99 (lv_at hl 0 rfl) ?_
                      refine lv_iload_n hx hb dX7_feed_101 rfl (lv_at hl 3 rfl) ?_
                      refine lv_icmp_ge (tgt := 135) hx hb dX7_feed_102 (by decide) (fun c35 => ?_) (fun c35 => ?_)
                      · replace h := h.1 c35
                        refine lv_aload_n hx hb dX7_feed_135 rfl (lv_at hl 2 rfl) ?_
                        refine fg_X7_101 hc hw (Nat.lt_of_lt_of_le (by decide) hM) rfl dX7_feed_136 ?_
                        exact g_iretM hc hr hw hag h dX7_feed_139
                      · replace h := h.2 c35
                        refine lv_aload_n hx hb dX7_feed_105 rfl (lv_at hl 2 rfl) ?_
                        refine fg_X7_16 hc hw (Nat.lt_of_lt_of_le (by decide) hM) rfl dX7_feed_106 ?_
                        refine lv_aload_n hx hb dX7_feed_109 rfl (lv_at hl 2 rfl) ?_
                        refine fg_X7_101 hc hw (Nat.lt_of_lt_of_le (by decide) hM) rfl dX7_feed_110 ?_
                        refine lv_aload hx hb dX7_feed_113 (lv_at hl 1 rfl) ?_
                        refine lv_iload hx hb dX7_feed_115 (lv_at hl 0 rfl) ?_
                        refine g_ialdK (Y := YM) (kd := 40) (n := 5) (k := 3) (o := 20) (by decide) (by decide) rfl hc hw (by decide) rfl rfl (vp_in_lit (by decide)) (by decide) dX7_feed_117 ?_
                        have hin := h.1
                        replace h := h.2
                        refine g_iastK (Y := YM) (kd := 23) (n := 160) (k := (gi σ34 0 4).toNatClampNeg) (o := 3) YM_ok (by decide) (by decide) rfl hc hw (Nat.lt_of_lt_of_le (by decide) hM) rfl rfl hin rfl dX7_feed_118 (fun σ36 H locs eσ36 hw => ?_)
                        replace h := h σ36 eσ36
                        refine lv_aload_n hx hb dX7_feed_119 rfl (lv_at hl 2 rfl) ?_
                        refine lv_dup hx hb dX7_feed_120 rfl ?_
                        refine fg_X7_101 hc hw (Nat.lt_of_lt_of_le (by decide) hM) rfl dX7_feed_121 ?_
                        refine lv_iconst (v := 1) hx hb dX7_feed_124 (by decide) ?_
                        refine lv_iadd hx hb dX7_feed_125 ?_
                        refine fp_X7_101 (o := 0) hc hw (Nat.lt_of_lt_of_le (by decide) hM) rfl dX7_feed_126 (fun σ37 H locs eσ37 hw => ?_)
                        replace h := h σ37 eσ37
                        refine lv_iinc (v := 4) (lv' := [(8, .int 4), (7, .ref (ad1 20)), (0, .ref (ad1 0)), (1, .int a1), (2, .int a2), (3, .int a3), (4, .int a4), (5, .int a5), (6, .int a6)]) hx hb dX7_feed_129 hl (k := 0) rfl (by decide) (by decide) rfl (fun ls hl => ?_)
                        refine lv_goto (tgt := 99) hx hb dX7_feed_132 (by decide) ?_
                        refine lv_iload hx hb dX7_feed_99 (lv_at hl 0 rfl) ?_
                        refine lv_iload_n hx hb dX7_feed_101 rfl (lv_at hl 3 rfl) ?_
                        refine lv_icmp_ge (tgt := 135) hx hb dX7_feed_102 (by decide) (fun c38 => ?_) (fun c38 => ?_)
                        · replace h := h.1 c38
                          refine lv_aload_n hx hb dX7_feed_135 rfl (lv_at hl 2 rfl) ?_
                          refine fg_X7_101 hc hw (Nat.lt_of_lt_of_le (by decide) hM) rfl dX7_feed_136 ?_
                          exact g_iretM hc hr hw hag h dX7_feed_139
                        · replace h := h.2 c38
                          refine lv_aload_n hx hb dX7_feed_105 rfl (lv_at hl 2 rfl) ?_
                          refine fg_X7_16 hc hw (Nat.lt_of_lt_of_le (by decide) hM) rfl dX7_feed_106 ?_
                          refine lv_aload_n hx hb dX7_feed_109 rfl (lv_at hl 2 rfl) ?_
                          refine fg_X7_101 hc hw (Nat.lt_of_lt_of_le (by decide) hM) rfl dX7_feed_110 ?_
                          refine lv_aload hx hb dX7_feed_113 (lv_at hl 1 rfl) ?_
                          refine lv_iload hx hb dX7_feed_115 (lv_at hl 0 rfl) ?_
                          refine g_ialdK (Y := YM) (kd := 40) (n := 5) (k := 4) (o := 20) (by decide) (by decide) rfl hc hw (by decide) rfl rfl (vp_in_lit (by decide)) (by decide) dX7_feed_117 ?_
                          have hin := h.1
                          replace h := h.2
                          refine g_iastK (Y := YM) (kd := 23) (n := 160) (k := (gi σ37 0 4).toNatClampNeg) (o := 3) YM_ok (by decide) (by decide) rfl hc hw (Nat.lt_of_lt_of_le (by decide) hM) rfl rfl hin rfl dX7_feed_118 (fun σ39 H locs eσ39 hw => ?_)
                          replace h := h σ39 eσ39
                          refine lv_aload_n hx hb dX7_feed_119 rfl (lv_at hl 2 rfl) ?_
                          refine lv_dup hx hb dX7_feed_120 rfl ?_
                          refine fg_X7_101 hc hw (Nat.lt_of_lt_of_le (by decide) hM) rfl dX7_feed_121 ?_
                          refine lv_iconst (v := 1) hx hb dX7_feed_124 (by decide) ?_
                          refine lv_iadd hx hb dX7_feed_125 ?_
                          refine fp_X7_101 (o := 0) hc hw (Nat.lt_of_lt_of_le (by decide) hM) rfl dX7_feed_126 (fun σ40 H locs eσ40 hw => ?_)
                          replace h := h σ40 eσ40
                          refine lv_iinc (v := 5) (lv' := [(8, .int 5), (7, .ref (ad1 20)), (0, .ref (ad1 0)), (1, .int a1), (2, .int a2), (3, .int a3), (4, .int a4), (5, .int a5), (6, .int a6)]) hx hb dX7_feed_129 hl (k := 0) rfl (by decide) (by decide) rfl (fun ls hl => ?_)
                          refine lv_goto (tgt := 99) hx hb dX7_feed_132 (by decide) ?_
                          refine lv_iload hx hb dX7_feed_99 (lv_at hl 0 rfl) ?_
                          refine lv_iload_n hx hb dX7_feed_101 rfl (lv_at hl 3 rfl) ?_
                          refine lv_icmp_ge (tgt := 135) hx hb dX7_feed_102 (by decide) (fun c41 => ?_) (fun c41 => ?_)
                          · replace h := h.1 c41
                            refine lv_aload_n hx hb dX7_feed_135 rfl (lv_at hl 2 rfl) ?_
                            refine fg_X7_101 hc hw (Nat.lt_of_lt_of_le (by decide) hM) rfl dX7_feed_136 ?_
                            exact g_iretM hc hr hw hag h dX7_feed_139
                          · replace h := h.2 c41
                            refine lv_aload_n hx hb dX7_feed_105 rfl (lv_at hl 2 rfl) ?_
                            refine fg_X7_16 hc hw (Nat.lt_of_lt_of_le (by decide) hM) rfl dX7_feed_106 ?_
                            refine lv_aload_n hx hb dX7_feed_109 rfl (lv_at hl 2 rfl) ?_
                            refine fg_X7_101 hc hw (Nat.lt_of_lt_of_le (by decide) hM) rfl dX7_feed_110 ?_
                            refine lv_aload hx hb dX7_feed_113 (lv_at hl 1 rfl) ?_
                            refine lv_iload hx hb dX7_feed_115 (lv_at hl 0 rfl) ?_
                            exact h.elim
              · replace h := h.2 c19
                refine lv_bipush (v := (-4)) hx hb dX7_feed_65 (by decide) ?_
                refine W.widen (k := 1) (n := 5) (by decide) (by decide) ?_
                exact g_iret hc hr hw h dX7_feed_67
            · replace h := h.1 c18
              refine lv_bipush (v := (-2)) hx hb dX7_feed_50 (by decide) ?_
              refine W.widen (k := 1) (n := 5) (by decide) (by decide) ?_
              exact g_iret hc hr hw h dX7_feed_52
