theorem rcC_sr3 {σ : St} {k r : Nat} (a i : Nat) : rcC (sr σ 3 k (some r)) a i = if a = 3 ∧ i = k then some r else rcC σ a i := by
  by_cases ha : a = 3
  · subst ha
    by_cases hi : i = k
    · subst hi
      rw [if_pos ⟨rfl, rfl⟩]
      show gr (sr σ 3 i (some r)) 3 i = some r
      simp [gr, sr]
    · rw [if_neg (fun q => hi q.2)]
      show gr (sr σ 3 k (some r)) 3 i = gr σ 3 i
      simp [gr, sr, hi]
  · rw [if_neg (fun q => ha q.1)]
    unfold rcC
    have e4 : gr (sr σ 3 k (some r)) a i = gr σ a i := by simp [gr, sr, ha]
    rw [e4, if_neg ha, if_neg ha]
theorem en_arC {cs : Nat → ClassId} {ad : Nat → Nat} {σ : St} {k r : Nat} (j : Nat) :
    va_up (en YC cs ad σ) 3 (.inl (cs 3, 6, .inr (.inr (.inr (.inr (va_up (fun j => (rcC σ 3 j).map ad) k (some (ad r)))))))) j = en YC cs ad (sr σ 3 k (some r)) j := by
  by_cases hj : j = 3
  · subst hj
    rw [va_up_self]
    show _ = Sum.inl (cs 3, 6, Sum.inr (Sum.inr (Sum.inr (Sum.inr (fun j => (rcC (sr σ 3 k (some r)) 3 j).map ad)))))
    congr 7
    funext i
    rw [rcC_sr3]
    by_cases hi : i = k
    · subst hi
      rw [va_up_self, if_pos ⟨rfl, rfl⟩]
      rfl
    · rw [va_up_ne _ _ hi, if_neg (fun q => hi q.2)]
  · rw [va_up_ne _ _ hj]
    unfold en eb fv
    have e1 : ∀ i, YC.2.2.2.2.1 (sr σ 3 k (some r)) j i = YC.2.2.2.2.1 σ j i := fun i => by
      show rcC (sr σ 3 k (some r)) j i = rcC σ j i
      rw [rcC_sr3, if_neg (fun q => hj q.1)]
    have e2 : ∀ i, gi σ j i = gi (sr σ 3 k (some r)) j i := fun i => rfl
    have e3 : gl σ j = gl (sr σ 3 k (some r)) j := rfl
    have e4 : YC.2.2.2.1 (sr σ 3 k (some r)) = YC.2.2.2.1 σ := rfl
    simp only [e1, e2, e3, e4]
abbrev QTX (Γ : Gm) (M : Nat) (ad : Nat → Nat) (post : Int32 → St → Nat → Prop) : Array Value → State → Outcome → State → Prop :=
  va_Qi (fun (r : Int32) (u : St × Nat × (Nat → Nat)) => M ≤ u.2.1 ∧ post r u.1 u.2.1) (fun u t => (∀ o, o < M → u.2.2 o = ad o) ∧ WC Γ YC u.2.1 u.2.2 u.1 t) (AA Γ)
section RULES10
variable {Γ : Gm} {M M1 : Nat} {ad ad1 : Nat → Nat} {σ : St} {p : Program} {l : Launch} {e : Env} {R : Room} {s : State} {m : MethodId} {args : Array Value} {below : List Frame} {meth : Method} {c : Code} {H : Heap} {locs : List Loc} {cells slots : Nat} {Q : State → Prop} {cc : ByteArray} {pc nL : Nat} {ls : Array Slot} {rest st : List Value} {own : String}
theorem g_aastC {k r : Nat} {i : Int32} (hc : CX Γ p s m args meth c cc own nL) (hw : WH Γ YC M ad σ s H locs) (hM : 53 ≤ M) (hr : r < M) (hkr : kdC r = 2) (hin : vp_in i 6) (hk : i.toNatClampNeg = k) (hdg : decode cc pc = .ok (.aastore, 1))
    (kk : ∀ (σ1 : St) (H1 : Heap) (locs1 : List Loc), σ1 = sr σ 3 k (some r) → WH Γ YC M ad σ1 s H1 locs1 → W p l e R s m args below meth c H1 locs1 cells slots Q (F0 m (pc + 1) ls rest)) : W p l e R s m args below meth c H locs cells slots Q (F0 m pc ls (.ref (ad r) :: .int i :: .ref (ad 3) :: rest)) := by
  subst hk
  refine va_astq (r := (RX2, TX2, 3)) hc.1 hc.2.1 hc.2.2.2.2.2.2.1 hw.1 hw.2.1 hw.2.2 (Γ.2.2.2.1.length + 3) 3 (Γ.2.2.2.1.length + r) 2 (wl_get (by omega) (en_aq (kd := 62) rfl (by decide))) rfl (wl_get hr (en_ob (ci := 2) hkr (by decide))) rfl hin hdg (fun H1 locs1 hP hD hS => ?_)
  have ew := wl_set (X := Γ.2.2.2.1) (M := M) (ad := ad) (E := en YC Γ.2.1 ad σ) (E' := en YC Γ.2.1 ad (sr σ 3 i.toNatClampNeg (some r))) (o := 3) (by omega) (fun j => en_arC (k := i.toNatClampNeg) (r := r) j)
  exact kk _ H1 locs1 rfl ⟨by rw [← ew]; exact hP, by rw [← ew]; exact hD, hS⟩
theorem g_Vrl {index : Nat} {ret : Option FieldType} {post : Option Nat → St → Nat → Prop} (hwd : VW own index RX4 yX4_readLaw cX4_readLaw 2 ret 0) (hR : 307 ≤ R.frames ∧ 9141 ≤ R.locals ∧ cells + 2 ≤ R.cells ∧ slots + 163 ≤ R.slots)
    (hc : CX Γ p s m args meth c cc own nL) (hw : WH Γ YC M ad σ s H locs) (hl : ls.size = nL) (ho : 5 < M) (hM : Met l yX4_readLaw (Cond.code yX4_readLaw cX4_readLaw 2 ret :: TB) (rmL 151 2 163) (va_Pc [.ref (ad 5)] (WC Γ YC M ad σ)) (QRL Γ M ad post) 2 163 (AA Γ)) (hs : (rest.map fun v => v.category).sum ≤ 8) (hdg : decode cc pc = .ok (.invokevirtual index, 3))
    (kk : ∀ (r : Option Nat) (u : St) (M1 : Nat) (ad1 : Nat → Nat) (H1 : Heap) (locs1 : List Loc), M ≤ M1 → post r u M1 → (∀ o, o < M → ad1 o = ad o) → WH Γ YC M1 ad1 u s H1 locs1 → W p l e R s m args below meth c H1 locs1 (cells + 2) (slots + 163) Q (F0 m (pc + 3) ls (va_rf (r.map ad1) :: rest))) : W p l e R s m args below meth c H locs cells slots Q (F0 m pc ls (.ref (ad 5) :: rest)) := by
  refine va_callq (va_runV (As := []) (rest := rest) ⟨hc.1, hc.2.1, hc.2.2.1, hc.2.2.2.1, hc.2.2.2.2.1⟩ hM (cwV 0 hc.2.2.2.2.1 hwd.good rfl rfl rfl hwd.2.2.2.2.2 ⟨hR.1, hR.2.1⟩) ⟨fun a U g mk q => ⟨q.1, q.2.calling g mk a⟩, va_recv hc.2.2.2.2.2.2.1 hw.1 (ci := 4) rfl (wl_get ho (en_ob rfl (by decide))), fun U hU hW => ⟨rfl, hw.wc hc hU hW⟩⟩ rfl rfl hl rfl (lv_room hs) hdg ⟨hR.2.2.1, hR.2.2.2⟩) hw.2.2 (fun q _ h => h) (fun q h => h) (fun r u t H1 locs1 ht hvm hp hB _ _ hS => ?_)
  obtain ⟨u, M1, ad1, ro⟩ := u
  obtain ⟨h1, h2, h3⟩ := hp
  obtain ⟨h4, h5⟩ := hB
  have h1 : r = ro.map ad1 := h1
  subst h1
  exact kk ro u M1 ad1 H1 locs1 h2 h3 h4 (h5.wh ht hS)
theorem g_iretT (hc : CX Γ p s m args meth c cc own nL) (hr : meth.sig.returnType = some .int) (hw : WH Γ YC M1 ad1 σ s H locs) (hM : M ≤ M1) (hag : ∀ o, o < M → ad1 o = ad o) {post : Int32 → St → Nat → Prop} {v : Int32} (h : post v σ M1) (hdg : decode cc pc = .ok (.ireturn, 1)) :
    W p l e R s m args below meth c H locs cells slots (MQ below (QTX Γ M ad post) args s cells slots (AA Γ)) (F0 m pc ls [.int v]) :=
  W.iret hc.1 hc.2.1 hr (fun t ht hW => ⟨⟨v, (σ, M1, ad1), rfl, ⟨hM, h⟩, hag, hw.wc hc ht hW⟩, hw.2.2.F ht⟩) hw.2.2.2.2 hdg hc.2.2.2.2.2.1
end RULES10
def w_X6_text (M : Nat) (post : Int32 → St → Nat → Prop) (σ : St) : Prop :=
  (gi σ 0 5 < 6 → w_X4_readLaw M (fun r u M1 => (r = none → post ((-100) - gi u 5 6) u M1) ∧ (∀ o : Nat, r = some o → (kdC o = 2 ∧ o < M1) ∧ vp_in (gi u 0 5) 6 ∧ post ((gi u 0 5 + 1) - 1) (si (sr u 3 (gi u 0 5).toNatClampNeg (some o)) 0 5 (gi u 0 5 + 1)) M1)) σ) ∧ (¬ (gi σ 0 5 < 6) → post (-4) σ M)
set_option maxHeartbeats 4000000 in
set_option maxRecDepth 20000 in
theorem m_X6_text {Γ : Gm} {ad : Nat → Nat} {M : Nat} (l : Launch) (hM : 53 ≤ M) {post : Int32 → St → Nat → Prop} (σ : St) (h : w_X6_text M post σ) : Met l yX6_text (Cond.code yX6_text cX6_text 2 (Option.some Jvm.ClassFile.FieldType.int) :: TB) (rmL 152 2 163) (va_Pc [.ref (ad 0)] (WC Γ YC M ad σ)) (QTX Γ M ad post) 2 163 (AA Γ) := by
  refine g_start (by decide) (Nat.le_of_ble_eq_true rfl) ?_
  intro p e s m args below meth c ls hc hr hn hl hw
  have hc : CX Γ p s m args meth c cX6_text RX6 2 := hc
  have hl : lv_has ls 2 [(0, .ref (ad 0))] := hl
  have hx := hc.1
  have hb := hc.2.1
  generalize hHH : s.heap = H0 at hw ⊢
  refine lv_aload_n hx hb dX6_text_0 rfl (lv_at hl 0 rfl) ?_
  refine fg_X6_91 hc hw (Nat.lt_of_lt_of_le (by decide) hM) rfl dX6_text_1 ?_
  refine lv_bipush (v := 6) hx hb dX6_text_4 (by decide) ?_
  refine lv_icmp_lt (tgt := 12) hx hb dX6_text_6 (by decide) (fun c1 => ?_) (fun c1 => ?_)
  · replace h := h.1 c1
    refine lv_aload_n hx hb dX6_text_12 rfl (lv_at hl 0 rfl) ?_
    refine fg_X6_34 hc hw (Nat.lt_of_lt_of_le (by decide) hM) rfl dX6_text_13 ?_
    refine g_Vrl (rest := []) vw_X6_87 ⟨Nat.le_of_ble_eq_true rfl, Nat.le_of_ble_eq_true rfl, Nat.le_of_ble_eq_true rfl, Nat.le_of_ble_eq_true rfl⟩ hc hw hl.1 (by omega) (m_X4_readLaw l hM σ h) (Nat.le_of_ble_eq_true rfl) dX6_text_16 (fun r u M1 ad1 H locs hM1 h hag hw => ?_)
    have hM' : 53 ≤ M1 := by omega
    have hl : lv_has ls 2 [(0, .ref (ad1 0))] := by rw [hag 0 (by omega)]; exact hl
    refine g_astoreq (lv' := [(1, va_rf (r.map ad1)), (0, .ref (ad1 0))]) hx hb dX6_text_19 rfl hl (by decide) rfl (fun ls hl => ?_)
    refine g_aloadq hx hb dX6_text_20 rfl (lv_at hl 0 rfl) ?_
    refine g_ifnonnull (tgt := 35) hx hb dX6_text_21 (by decide) (fun o ho => ?_) (fun ho => ?_)
    · obtain ⟨hf, hin, h⟩ := h.2 o ho
      rw [ho] at hl
      have hl : lv_has ls 2 [(1, .ref (ad1 o)), (0, .ref (ad1 0))] := hl
      refine lv_aload_n hx hb dX6_text_35 rfl (lv_at hl 1 rfl) ?_
      refine fg_X6_23 hc hw (Nat.lt_of_lt_of_le (by decide) hM') rfl dX6_text_36 ?_
      refine lv_aload_n hx hb dX6_text_39 rfl (lv_at hl 1 rfl) ?_
      refine fg_X6_91 hc hw (Nat.lt_of_lt_of_le (by decide) hM') rfl dX6_text_40 ?_
      refine lv_aload_n hx hb dX6_text_43 rfl (lv_at hl 0 rfl) ?_
      refine g_aastC (k := (gi u 0 5).toNatClampNeg) (r := o) hc hw hM' hf.2 hf.1 hin rfl dX6_text_44 (fun σ1 H locs e1 hw => ?_)
      refine lv_aload_n hx hb dX6_text_45 rfl (lv_at hl 1 rfl) ?_
      refine lv_dup hx hb dX6_text_46 rfl ?_
      refine fg_X6_91 hc hw (Nat.lt_of_lt_of_le (by decide) hM') rfl dX6_text_47 ?_
      refine lv_iconst (v := 1) hx hb dX6_text_50 (by decide) ?_
      refine lv_iadd hx hb dX6_text_51 ?_
      refine fp_X6_91 (o := 0) hc hw (Nat.lt_of_lt_of_le (by decide) hM') rfl dX6_text_52 (fun σ2 H locs e2 hw => ?_)
      refine lv_aload_n hx hb dX6_text_55 rfl (lv_at hl 1 rfl) ?_
      refine fg_X6_91 hc hw (Nat.lt_of_lt_of_le (by decide) hM') rfl dX6_text_56 ?_
      refine lv_iconst (v := 1) hx hb dX6_text_59 (by decide) ?_
      refine lv_isub hx hb dX6_text_60 ?_
      have g1 : gi σ1 0 5 = gi u 0 5 := by rw [e1]; rfl
      have g2 : gi σ2 0 5 = gi u 0 5 + 1 := by rw [e2, ← g1]; simp [gi, si]
      rw [g2]
      rw [e2, g1, e1] at hw
      exact g_iretT hc hr hw hM1 hag h dX6_text_61
    · replace h := h.1 ho
      rw [ho] at hl
      have hl : lv_has ls 2 [(1, .null), (0, .ref (ad1 0))] := hl
      refine lv_bipush (v := (-100)) hx hb dX6_text_24 (by decide) ?_
      refine lv_aload_n hx hb dX6_text_26 rfl (lv_at hl 1 rfl) ?_
      refine fg_X6_34 hc hw (Nat.lt_of_lt_of_le (by decide) hM') rfl dX6_text_27 ?_
      have hfp : w_X4_faultPlace M1 (fun r v => r = gi u 5 6 ∧ v = u) u := ⟨rfl, rfl⟩
      refine g_Vi (Y := YC) (ci := 4) (n := 0) (k := 0) (As := []) (rest := [.int (-100)]) rfl (by decide) vw_X6_135 ⟨Nat.le_of_ble_eq_true rfl, Nat.le_of_ble_eq_true rfl, Nat.le_of_ble_eq_true rfl, Nat.le_of_ble_eq_true rfl⟩ hc hw hl.1 (by omega) rfl (m_X4_faultPlace l hM' u hfp) rfl rfl (Nat.le_of_ble_eq_true rfl) dX6_text_30 (fun r3 u3 H locs hz hw => ?_)
      obtain ⟨hz1, hz2⟩ := hz
      rw [hz1]
      rw [hz2] at hw
      refine lv_isub hx hb dX6_text_33 ?_
      exact g_iretT hc hr hw hM1 hag h dX6_text_34
  · replace h := h.2 c1
    refine lv_bipush (v := (-4)) hx hb dX6_text_9 (by decide) ?_
    refine W.widen (k := 2) (n := 163) (Nat.le_of_ble_eq_true rfl) (Nat.le_of_ble_eq_true rfl) ?_
    exact g_iretT hc hr hw (Nat.le_refl M) (fun _ _ => rfl) h dX6_text_11
