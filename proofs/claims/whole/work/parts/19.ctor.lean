theorem q_96 : Cond.instanceMethod objectInit ∈ TB := TB_at 96 (by decide +kernel) rfl
set_option maxRecDepth 100000 in
theorem q_97 : Cond.code objectInit ⟨#[0xb1]⟩ 1 none ∈ TB := TB_at 97 rfl rfl
theorem q_141 : Cond.arrayClass .int ∈ TB := TB_at 141 (by decide +kernel) rfl
theorem q_1071 : Cond.arrayClass .char ∈ TB := TB_at 1071 (by decide +kernel) rfl
theorem q_207 : Cond.instantiable RX0 3 ∈ TB := TB_at 207 (by decide +kernel) rfl
theorem df_X0 : ∀ j, j < 3 → defaultValue (tyX0 j) = if ftC 0 j = 0 then .int 0 else if ftC 0 j = 1 then .long 0 else .null := by
  intro j hj
  rcases (show j = 0 ∨ j = 1 ∨ j = 2 by omega) with rfl | rfl | rfl <;> rfl
theorem q_228 : Cond.instantiable RX1 1 ∈ TB := TB_at 228 (by decide +kernel) rfl
theorem df_X1 : ∀ j, j < 1 → defaultValue (tyX1 j) = if ftC 1 j = 0 then .int 0 else if ftC 1 j = 1 then .long 0 else .null := by
  intro j hj
  rcases (show j = 0 by omega) with rfl <;> rfl
theorem q_448 : Cond.instantiable RX2 3 ∈ TB := TB_at 448 (by decide +kernel) rfl
theorem df_X2 : ∀ j, j < 3 → defaultValue (tyX2 j) = if ftC 2 j = 0 then .int 0 else if ftC 2 j = 1 then .long 0 else .null := by
  intro j hj
  rcases (show j = 0 ∨ j = 1 ∨ j = 2 by omega) with rfl | rfl | rfl <;> rfl
theorem q_145 : Cond.instantiable RX3 17 ∈ TB := TB_at 145 (by decide +kernel) rfl
theorem df_X3 : ∀ j, j < 17 → defaultValue (tyX3 j) = if ftC 3 j = 0 then .int 0 else if ftC 3 j = 1 then .long 0 else .null := by
  intro j hj
  rcases (show j = 0 ∨ j = 1 ∨ j = 2 ∨ j = 3 ∨ j = 4 ∨ j = 5 ∨ j = 6 ∨ j = 7 ∨ j = 8 ∨ j = 9 ∨ j = 10 ∨ j = 11 ∨ j = 12 ∨ j = 13 ∨ j = 14 ∨ j = 15 ∨ j = 16 by omega) with rfl | rfl | rfl | rfl | rfl | rfl | rfl | rfl | rfl | rfl | rfl | rfl | rfl | rfl | rfl | rfl | rfl <;> rfl
theorem q_105 : Cond.instantiable RX4 10 ∈ TB := TB_at 105 (by decide +kernel) rfl
theorem df_X4 : ∀ j, j < 10 → defaultValue (tyX4 j) = if ftC 4 j = 0 then .int 0 else if ftC 4 j = 1 then .long 0 else .null := by
  intro j hj
  rcases (show j = 0 ∨ j = 1 ∨ j = 2 ∨ j = 3 ∨ j = 4 ∨ j = 5 ∨ j = 6 ∨ j = 7 ∨ j = 8 ∨ j = 9 by omega) with rfl | rfl | rfl | rfl | rfl | rfl | rfl | rfl | rfl | rfl <;> rfl
theorem q_237 : Cond.instantiable RX5 3 ∈ TB := TB_at 237 (by decide +kernel) rfl
theorem df_X5 : ∀ j, j < 3 → defaultValue (tyX5 j) = if ftC 5 j = 0 then .int 0 else if ftC 5 j = 1 then .long 0 else .null := by
  intro j hj
  rcases (show j = 0 ∨ j = 1 ∨ j = 2 by omega) with rfl | rfl | rfl <;> rfl
theorem q_91 : Cond.instantiable RX6 17 ∈ TB := TB_at 91 (by decide +kernel) rfl
theorem df_X6 : ∀ j, j < 17 → defaultValue (tyX6 j) = if ftC 6 j = 0 then .int 0 else if ftC 6 j = 1 then .long 0 else .null := by
  intro j hj
  rcases (show j = 0 ∨ j = 1 ∨ j = 2 ∨ j = 3 ∨ j = 4 ∨ j = 5 ∨ j = 6 ∨ j = 7 ∨ j = 8 ∨ j = 9 ∨ j = 10 ∨ j = 11 ∨ j = 12 ∨ j = 13 ∨ j = 14 ∨ j = 15 ∨ j = 16 by omega) with rfl | rfl | rfl | rfl | rfl | rfl | rfl | rfl | rfl | rfl | rfl | rfl | rfl | rfl | rfl | rfl | rfl <;> rfl
theorem q_951 : Cond.instantiable RX7 38 ∈ TB := TB_at 951 (by decide +kernel) rfl
theorem df_X7 : ∀ j, j < 38 → defaultValue (tyX7 j) = if ftM 7 j = 0 then .int 0 else if ftM 7 j = 1 then .long 0 else .null := by
  intro j hj
  rcases (show j = 0 ∨ j = 1 ∨ j = 2 ∨ j = 3 ∨ j = 4 ∨ j = 5 ∨ j = 6 ∨ j = 7 ∨ j = 8 ∨ j = 9 ∨ j = 10 ∨ j = 11 ∨ j = 12 ∨ j = 13 ∨ j = 14 ∨ j = 15 ∨ j = 16 ∨ j = 17 ∨ j = 18 ∨ j = 19 ∨ j = 20 ∨ j = 21 ∨ j = 22 ∨ j = 23 ∨ j = 24 ∨ j = 25 ∨ j = 26 ∨ j = 27 ∨ j = 28 ∨ j = 29 ∨ j = 30 ∨ j = 31 ∨ j = 32 ∨ j = 33 ∨ j = 34 ∨ j = 35 ∨ j = 36 ∨ j = 37 by omega) with rfl | rfl | rfl | rfl | rfl | rfl | rfl | rfl | rfl | rfl | rfl | rfl | rfl | rfl | rfl | rfl | rfl | rfl | rfl | rfl | rfl | rfl | rfl | rfl | rfl | rfl | rfl | rfl | rfl | rfl | rfl | rfl | rfl | rfl | rfl | rfl | rfl | rfl <;> rfl
theorem q_211 : Cond.methodLink RX0 1 objectInit ∈ TB := TB_at 211 (by decide +kernel) rfl
def w_X0_init (M : Nat) (post : St → Prop) (o0 : Nat) (σ : St) : Prop :=
  post σ
set_option maxHeartbeats 8000000 in
set_option maxRecDepth 20000 in
theorem m_X0_init {Γ : Gm} {ad : Nat → Nat} {M : Nat} (l : Launch) {post : St → Prop} (o0 : Nat) (σ : St) (hf : kdC o0 = 0 ∧ o0 < M) (h : w_X0_init M post o0 σ) : Dv l Γ YG M (M) ad σ yX0_init cX0_init 1 1 0 0 [.ref (ad o0)] post := by
  refine g_startG (by decide) (Nat.le_of_ble_eq_true rfl) ?_
  intro p e s m args below meth c ls hc hr hin hl hw hRO
  have hc : CX Γ p s m args meth c cX0_init RX0 1 := hc
  have hl : lv_has ls 1 [(0, .ref (ad o0))] := hl
  have hin : meth.name = "<init>" := hin
  have hx := hc.1
  have hb := hc.2.1
  have hagT : ∀ o, o < M → ad o = ad o := fun _ _ => rfl
  unfold w_X0_init at h
  generalize hHH : s.heap = H0 at hw ⊢
  refine lv_aload_n hx hb dX0_init_0 rfl (lv_at hl 0 rfl) ?_
  refine g_obj q_211 q_96 q_97 hc hl.1 ⟨Nat.le_of_ble_eq_true rfl, Nat.le_of_ble_eq_true rfl⟩ (Nat.le_of_ble_eq_true rfl) dX0_init_1 ?_
  refine W.widen (k := 0) (n := 0) (Nat.le_of_ble_eq_true rfl) (Nat.le_of_ble_eq_true rfl) ?_
  exact g_vretG hc hr hw hagT hRO h dX0_init_4
theorem q_232 : Cond.methodLink RX1 1 objectInit ∈ TB := TB_at 232 (by decide +kernel) rfl
def w_X1_init (M : Nat) (post : St → Prop) (o0 : Nat) (σ : St) : Prop :=
  ∀ σ2 : St, σ2 = sN σ M 5 → (∀ σ3 : St, σ3 = sr σ2 o0 0 (some M) → (post σ3))
set_option maxHeartbeats 8000000 in
set_option maxRecDepth 20000 in
theorem m_X1_init {Γ : Gm} {ad : Nat → Nat} {M : Nat} (l : Launch) {post : St → Prop} (o0 : Nat) (σ : St) (hf : kdC o0 = 1 ∧ o0 < M) (hk0 : kdC (M) = 20) (h : w_X1_init M post o0 σ) : Dv l Γ YG M (M + 1) ad σ yX1_init cX1_init 1 1 1 5 [.ref (ad o0)] post := by
  refine g_startG (by decide) (Nat.le_of_ble_eq_true rfl) ?_
  intro p e s m args below meth c ls hc hr hin hl hw hRO
  have hc : CX Γ p s m args meth c cX1_init RX1 1 := hc
  have hl : lv_has ls 1 [(0, .ref (ad o0))] := hl
  have hin : meth.name = "<init>" := hin
  have hx := hc.1
  have hb := hc.2.1
  have hagT : ∀ o, o < M → ad o = ad o := fun _ _ => rfl
  unfold w_X1_init at h
  generalize hHH : s.heap = H0 at hw ⊢
  refine lv_aload_n hx hb dX1_init_0 rfl (lv_at hl 0 rfl) ?_
  refine g_obj q_232 q_96 q_97 hc hl.1 ⟨Nat.le_of_ble_eq_true rfl, Nat.le_of_ble_eq_true rfl⟩ (Nat.le_of_ble_eq_true rfl) dX1_init_1 ?_
  refine lv_aload_n hx hb dX1_init_4 rfl (lv_at hl 0 rfl) ?_
  refine lv_iconst (v := 5) hx hb dX1_init_5 (by decide) ?_
  refine g_newa (Y := YG) (M := M) (N := 5) (kd := 20) rfl (lnC_sN _) q_141 hk0 (by decide) (by decide) rfl rfl hRO hc hw (by decide) (by decide) (by decide) (Nat.le_of_ble_eq_true rfl) (Nat.le_of_ble_eq_true rfl) dX1_init_6 (fun ad1 H hgad1 hw => ?_)
  obtain ⟨σ2, eσ2⟩ : ∃ z, z = sN σ M 5 := ⟨_, rfl⟩
  replace hRO := RO_sN (n := 5) hRO
  rw [← eσ2] at hw hRO
  replace h := h σ2 eσ2
  have hl : lv_has ls 1 [(0, .ref (ad1 o0))] := by rw [hgad1 o0 (by omega)]; exact hl
  refine W.eq (g2 := F0 m (6 + 2) ls [.ref (ad1 M), .ref (ad1 o0)]) (by rw [hgad1 o0 (by omega)]) ?_
  have hagT : ∀ o, o < M → ad1 o = ad o := fun o ho => (hgad1 o (by omega)).trans (hagT o ho)
  refine g_putF (Y := YG) (o := o0) (ci := 1) (N := 1) (k := 0) (C := RX1) (T := TX1) (ty0 := tyX1) (τ := sr σ2 o0 0 (some M)) rfl inT1 tyX1_ok nmX1 rfl (by decide) (by decide) q_233 rfl rfl hin rfl rfl rfl hc hw (by omega) hf.1 (en_srG (v := some M) rfl lnC_st hf.1 (by decide) ⟨by decide, by decide⟩) dX1_init_8 (fun H locs hw => ?_)
  obtain ⟨σ3, eσ3⟩ : ∃ z, z = sr σ2 o0 0 (some M) := ⟨_, rfl⟩
  replace hRO := RO_sr (o := o0) (k := 0) (r := M) hRO (by omega)
  rw [← eσ3] at hw hRO
  replace h := h σ3 eσ3
  refine W.widen (k := 1) (n := 5) (Nat.le_of_ble_eq_true rfl) (Nat.le_of_ble_eq_true rfl) ?_
  exact g_vretG hc hr hw hagT hRO h dX1_init_11
theorem q_241 : Cond.methodLink RX5 1 objectInit ∈ TB := TB_at 241 (by decide +kernel) rfl
def w_X5_init (M : Nat) (post : St → Prop) (o0 : Nat) (σ : St) : Prop :=
  ∀ σ2 : St, σ2 = sN σ M 40 → (∀ σ3 : St, σ3 = sr σ2 o0 0 (some M) → (∀ σ4 : St, σ4 = si σ3 o0 1 (-1) → (post σ4)))
set_option maxHeartbeats 8000000 in
set_option maxRecDepth 20000 in
theorem m_X5_init {Γ : Gm} {ad : Nat → Nat} {M : Nat} (l : Launch) {post : St → Prop} (o0 : Nat) (σ : St) (hf : kdC o0 = 5 ∧ o0 < M) (hk0 : kdC (M) = 24) (h : w_X5_init M post o0 σ) : Dv l Γ YG M (M + 1) ad σ yX5_init cX5_init 1 1 1 40 [.ref (ad o0)] post := by
  refine g_startG (by decide) (Nat.le_of_ble_eq_true rfl) ?_
  intro p e s m args below meth c ls hc hr hin hl hw hRO
  have hc : CX Γ p s m args meth c cX5_init RX5 1 := hc
  have hl : lv_has ls 1 [(0, .ref (ad o0))] := hl
  have hin : meth.name = "<init>" := hin
  have hx := hc.1
  have hb := hc.2.1
  have hagT : ∀ o, o < M → ad o = ad o := fun _ _ => rfl
  unfold w_X5_init at h
  generalize hHH : s.heap = H0 at hw ⊢
  refine lv_aload_n hx hb dX5_init_0 rfl (lv_at hl 0 rfl) ?_
  refine g_obj q_241 q_96 q_97 hc hl.1 ⟨Nat.le_of_ble_eq_true rfl, Nat.le_of_ble_eq_true rfl⟩ (Nat.le_of_ble_eq_true rfl) dX5_init_1 ?_
  refine lv_aload_n hx hb dX5_init_4 rfl (lv_at hl 0 rfl) ?_
  refine lv_bipush (v := 40) hx hb dX5_init_5 (by decide) ?_
  refine g_newa (Y := YG) (M := M) (N := 40) (kd := 24) rfl (lnC_sN _) q_141 hk0 (by decide) (by decide) rfl rfl hRO hc hw (by decide) (by decide) (by decide) (Nat.le_of_ble_eq_true rfl) (Nat.le_of_ble_eq_true rfl) dX5_init_7 (fun ad1 H hgad1 hw => ?_)
  obtain ⟨σ2, eσ2⟩ : ∃ z, z = sN σ M 40 := ⟨_, rfl⟩
  replace hRO := RO_sN (n := 40) hRO
  rw [← eσ2] at hw hRO
  replace h := h σ2 eσ2
  have hl : lv_has ls 1 [(0, .ref (ad1 o0))] := by rw [hgad1 o0 (by omega)]; exact hl
  refine W.eq (g2 := F0 m (7 + 2) ls [.ref (ad1 M), .ref (ad1 o0)]) (by rw [hgad1 o0 (by omega)]) ?_
  have hagT : ∀ o, o < M → ad1 o = ad o := fun o ho => (hgad1 o (by omega)).trans (hagT o ho)
  refine g_putF (Y := YG) (o := o0) (ci := 5) (N := 3) (k := 0) (C := RX5) (T := TX5) (ty0 := tyX5) (τ := sr σ2 o0 0 (some M)) rfl inT5 tyX5_ok nmX5 rfl (by decide) (by decide) q_242 rfl rfl hin rfl rfl rfl hc hw (by omega) hf.1 (en_srG (v := some M) rfl lnC_st hf.1 (by decide) ⟨by decide, by decide⟩) dX5_init_9 (fun H locs hw => ?_)
  obtain ⟨σ3, eσ3⟩ : ∃ z, z = sr σ2 o0 0 (some M) := ⟨_, rfl⟩
  replace hRO := RO_sr (o := o0) (k := 0) (r := M) hRO (by omega)
  rw [← eσ3] at hw hRO
  replace h := h σ3 eσ3
  refine lv_aload_n hx hb dX5_init_12 rfl (lv_at hl 0 rfl) ?_
  refine lv_iconst (v := (-1)) hx hb dX5_init_13 (by decide) ?_
  refine g_put (Y := YG) (o := o0) (ci := 5) (N := 3) (k := 1) (C := RX5) (T := TX5) (ty0 := tyX5) (τ := si σ3 o0 1 (-1)) rfl inT5 tyX5_ok nmX5 rfl (by decide) (by decide) q_243 rfl rfl rfl rfl hc hw (by omega) hf.1 (en_si (YG_ok) hf.1 (by decide) rfl) dX5_init_14 (fun H locs hw => ?_)
  obtain ⟨σ4, eσ4⟩ : ∃ z, z = si σ3 o0 1 (-1) := ⟨_, rfl⟩
  replace hRO := RO_si (o := o0) (k := 1) (v := (-1)) hRO
  rw [← eσ4] at hw hRO
  replace h := h σ4 eσ4
  refine W.widen (k := 1) (n := 40) (Nat.le_of_ble_eq_true rfl) (Nat.le_of_ble_eq_true rfl) ?_
  exact g_vretG hc hr hw hagT hRO h dX5_init_17
theorem q_149 : Cond.methodLink RX3 1 objectInit ∈ TB := TB_at 149 (by decide +kernel) rfl
def w_X3_init (M : Nat) (post : St → Prop) (o0 : Nat) (σ : St) : Prop :=
  ∀ σ2 : St, σ2 = sN σ M 40 → (∀ σ3 : St, σ3 = sr σ2 o0 0 (some M) → (post σ3))
set_option maxHeartbeats 8000000 in
set_option maxRecDepth 20000 in
theorem m_X3_init {Γ : Gm} {ad : Nat → Nat} {M : Nat} (l : Launch) {post : St → Prop} (o0 : Nat) (σ : St) (hf : kdC o0 = 3 ∧ o0 < M) (hk0 : kdC (M) = 25) (h : w_X3_init M post o0 σ) : Dv l Γ YG M (M + 1) ad σ yX3_init cX3_init 1 1 1 40 [.ref (ad o0)] post := by
  refine g_startG (by decide) (Nat.le_of_ble_eq_true rfl) ?_
  intro p e s m args below meth c ls hc hr hin hl hw hRO
  have hc : CX Γ p s m args meth c cX3_init RX3 1 := hc
  have hl : lv_has ls 1 [(0, .ref (ad o0))] := hl
  have hin : meth.name = "<init>" := hin
  have hx := hc.1
  have hb := hc.2.1
  have hagT : ∀ o, o < M → ad o = ad o := fun _ _ => rfl
  unfold w_X3_init at h
  generalize hHH : s.heap = H0 at hw ⊢
  refine lv_aload_n hx hb dX3_init_0 rfl (lv_at hl 0 rfl) ?_
  refine g_obj q_149 q_96 q_97 hc hl.1 ⟨Nat.le_of_ble_eq_true rfl, Nat.le_of_ble_eq_true rfl⟩ (Nat.le_of_ble_eq_true rfl) dX3_init_1 ?_
  refine lv_aload_n hx hb dX3_init_4 rfl (lv_at hl 0 rfl) ?_
  refine lv_bipush (v := 40) hx hb dX3_init_5 (by decide) ?_
  refine g_newa (Y := YG) (M := M) (N := 40) (kd := 25) rfl (lnC_sN _) q_141 hk0 (by decide) (by decide) rfl rfl hRO hc hw (by decide) (by decide) (by decide) (Nat.le_of_ble_eq_true rfl) (Nat.le_of_ble_eq_true rfl) dX3_init_7 (fun ad1 H hgad1 hw => ?_)
  obtain ⟨σ2, eσ2⟩ : ∃ z, z = sN σ M 40 := ⟨_, rfl⟩
  replace hRO := RO_sN (n := 40) hRO
  rw [← eσ2] at hw hRO
  replace h := h σ2 eσ2
  have hl : lv_has ls 1 [(0, .ref (ad1 o0))] := by rw [hgad1 o0 (by omega)]; exact hl
  refine W.eq (g2 := F0 m (7 + 2) ls [.ref (ad1 M), .ref (ad1 o0)]) (by rw [hgad1 o0 (by omega)]) ?_
  have hagT : ∀ o, o < M → ad1 o = ad o := fun o ho => (hgad1 o (by omega)).trans (hagT o ho)
  refine g_putF (Y := YG) (o := o0) (ci := 3) (N := 17) (k := 0) (C := RX3) (T := TX3) (ty0 := tyX3) (τ := sr σ2 o0 0 (some M)) rfl inT3 tyX3_ok nmX3 rfl (by decide) (by decide) q_150 rfl rfl hin rfl rfl rfl hc hw (by omega) hf.1 (en_srG (v := some M) rfl lnC_st hf.1 (by decide) ⟨by decide, by decide⟩) dX3_init_9 (fun H locs hw => ?_)
  obtain ⟨σ3, eσ3⟩ : ∃ z, z = sr σ2 o0 0 (some M) := ⟨_, rfl⟩
  replace hRO := RO_sr (o := o0) (k := 0) (r := M) hRO (by omega)
  rw [← eσ3] at hw hRO
  replace h := h σ3 eσ3
  refine W.widen (k := 1) (n := 40) (Nat.le_of_ble_eq_true rfl) (Nat.le_of_ble_eq_true rfl) ?_
  exact g_vretG hc hr hw hagT hRO h dX3_init_12
theorem q_109 : Cond.methodLink RX4 3 objectInit ∈ TB := TB_at 109 (by decide +kernel) rfl
def w_X4_init (M : Nat) (post : St → Prop) (o0 : Nat) (σ : St) : Prop :=
  ∀ σ2 : St, σ2 = sN σ M 160 → (∀ σ3 : St, σ3 = sr σ2 o0 0 (some M) → (∀ σ5 : St, σ5 = sN σ3 (M + 1) 160 → (∀ σ6 : St, σ6 = sr σ5 o0 7 (some (M + 1)) → (∀ σ8 : St, σ8 = sN σ6 (M + 2) 3 → (∀ σ9 : St, σ9 = sr σ8 o0 9 (some (M + 2)) → (post σ9))))))
set_option maxHeartbeats 8000000 in
set_option maxRecDepth 20000 in
theorem m_X4_init {Γ : Gm} {ad : Nat → Nat} {M : Nat} (l : Launch) {post : St → Prop} (o0 : Nat) (σ : St) (hf : kdC o0 = 4 ∧ o0 < M) (hk0 : kdC (M) = 22) (hk1 : kdC (M + 1) = 22) (hk2 : kdC (M + 2) = 21) (h : w_X4_init M post o0 σ) : Dv l Γ YG M (M + 3) ad σ yX4_init cX4_init 1 1 3 323 [.ref (ad o0)] post := by
  refine g_startG (by decide) (Nat.le_of_ble_eq_true rfl) ?_
  intro p e s m args below meth c ls hc hr hin hl hw hRO
  have hc : CX Γ p s m args meth c cX4_init RX4 1 := hc
  have hl : lv_has ls 1 [(0, .ref (ad o0))] := hl
  have hin : meth.name = "<init>" := hin
  have hx := hc.1
  have hb := hc.2.1
  have hagT : ∀ o, o < M → ad o = ad o := fun _ _ => rfl
  unfold w_X4_init at h
  generalize hHH : s.heap = H0 at hw ⊢
  refine lv_aload_n hx hb dX4_init_0 rfl (lv_at hl 0 rfl) ?_
  refine g_obj q_109 q_96 q_97 hc hl.1 ⟨Nat.le_of_ble_eq_true rfl, Nat.le_of_ble_eq_true rfl⟩ (Nat.le_of_ble_eq_true rfl) dX4_init_1 ?_
  refine lv_aload_n hx hb dX4_init_4 rfl (lv_at hl 0 rfl) ?_
  refine lv_sipush (v := 160) hx hb dX4_init_5 (by decide) ?_
  refine g_newa (Y := YG) (M := M) (N := 160) (kd := 22) rfl (lnC_sN _) q_141 hk0 (by decide) (by decide) rfl rfl hRO hc hw (by decide) (by decide) (by decide) (Nat.le_of_ble_eq_true rfl) (Nat.le_of_ble_eq_true rfl) dX4_init_8 (fun ad1 H hgad1 hw => ?_)
  obtain ⟨σ2, eσ2⟩ : ∃ z, z = sN σ M 160 := ⟨_, rfl⟩
  replace hRO := RO_sN (n := 160) hRO
  rw [← eσ2] at hw hRO
  replace h := h σ2 eσ2
  have hl : lv_has ls 1 [(0, .ref (ad1 o0))] := by rw [hgad1 o0 (by omega)]; exact hl
  refine W.eq (g2 := F0 m (8 + 2) ls [.ref (ad1 M), .ref (ad1 o0)]) (by rw [hgad1 o0 (by omega)]) ?_
  have hagT : ∀ o, o < M → ad1 o = ad o := fun o ho => (hgad1 o (by omega)).trans (hagT o ho)
  refine g_putF (Y := YG) (o := o0) (ci := 4) (N := 10) (k := 0) (C := RX4) (T := TX4) (ty0 := tyX4) (τ := sr σ2 o0 0 (some M)) rfl inT4 tyX4_ok nmX4 rfl (by decide) (by decide) q_110 rfl rfl hin rfl rfl rfl hc hw (by omega) hf.1 (en_srG (v := some M) rfl lnC_st hf.1 (by decide) ⟨by decide, by decide⟩) dX4_init_10 (fun H locs hw => ?_)
  obtain ⟨σ3, eσ3⟩ : ∃ z, z = sr σ2 o0 0 (some M) := ⟨_, rfl⟩
  replace hRO := RO_sr (o := o0) (k := 0) (r := M) hRO (by omega)
  rw [← eσ3] at hw hRO
  replace h := h σ3 eσ3
  refine lv_aload_n hx hb dX4_init_13 rfl (lv_at hl 0 rfl) ?_
  refine lv_sipush (v := 160) hx hb dX4_init_14 (by decide) ?_
  refine g_newa (Y := YG) (M := M + 1) (N := 160) (kd := 22) rfl (lnC_sN _) q_141 hk1 (by decide) (by decide) rfl rfl hRO hc hw (by decide) (by decide) (by decide) (Nat.le_of_ble_eq_true rfl) (Nat.le_of_ble_eq_true rfl) dX4_init_17 (fun ad4 H hgad4 hw => ?_)
  obtain ⟨σ5, eσ5⟩ : ∃ z, z = sN σ3 (M + 1) 160 := ⟨_, rfl⟩
  replace hRO := RO_sN (n := 160) hRO
  rw [← eσ5] at hw hRO
  replace h := h σ5 eσ5
  have hl : lv_has ls 1 [(0, .ref (ad4 o0))] := by rw [hgad4 o0 (by omega)]; exact hl
  refine W.eq (g2 := F0 m (17 + 2) ls [.ref (ad4 (M + 1)), .ref (ad4 o0)]) (by rw [hgad4 o0 (by omega)]) ?_
  have hagT : ∀ o, o < M → ad4 o = ad o := fun o ho => (hgad4 o (by omega)).trans (hagT o ho)
  refine g_putF (Y := YG) (o := o0) (ci := 4) (N := 10) (k := 7) (C := RX4) (T := TX4) (ty0 := tyX4) (τ := sr σ5 o0 7 (some (M + 1))) rfl inT4 tyX4_ok nmX4 rfl (by decide) (by decide) q_117 rfl rfl hin rfl rfl rfl hc hw (by omega) hf.1 (en_srG (v := some (M + 1)) rfl lnC_st hf.1 (by decide) ⟨by decide, by decide⟩) dX4_init_19 (fun H locs hw => ?_)
  obtain ⟨σ6, eσ6⟩ : ∃ z, z = sr σ5 o0 7 (some (M + 1)) := ⟨_, rfl⟩
  replace hRO := RO_sr (o := o0) (k := 7) (r := (M + 1)) hRO (by omega)
  rw [← eσ6] at hw hRO
  replace h := h σ6 eσ6
  refine lv_aload_n hx hb dX4_init_22 rfl (lv_at hl 0 rfl) ?_
  refine lv_iconst (v := 3) hx hb dX4_init_23 (by decide) ?_
  refine g_newa (Y := YG) (M := M + 2) (N := 3) (kd := 21) rfl (lnC_sN _) q_141 hk2 (by decide) (by decide) rfl rfl hRO hc hw (by decide) (by decide) (by decide) (Nat.le_of_ble_eq_true rfl) (Nat.le_of_ble_eq_true rfl) dX4_init_24 (fun ad7 H hgad7 hw => ?_)
  obtain ⟨σ8, eσ8⟩ : ∃ z, z = sN σ6 (M + 2) 3 := ⟨_, rfl⟩
  replace hRO := RO_sN (n := 3) hRO
  rw [← eσ8] at hw hRO
  replace h := h σ8 eσ8
  have hl : lv_has ls 1 [(0, .ref (ad7 o0))] := by rw [hgad7 o0 (by omega)]; exact hl
  refine W.eq (g2 := F0 m (24 + 2) ls [.ref (ad7 (M + 2)), .ref (ad7 o0)]) (by rw [hgad7 o0 (by omega)]) ?_
  have hagT : ∀ o, o < M → ad7 o = ad o := fun o ho => (hgad7 o (by omega)).trans (hagT o ho)
  refine g_putF (Y := YG) (o := o0) (ci := 4) (N := 10) (k := 9) (C := RX4) (T := TX4) (ty0 := tyX4) (τ := sr σ8 o0 9 (some (M + 2))) rfl inT4 tyX4_ok nmX4 rfl (by decide) (by decide) q_119 rfl rfl hin rfl rfl rfl hc hw (by omega) hf.1 (en_srG (v := some (M + 2)) rfl lnC_st hf.1 (by decide) ⟨by decide, by decide⟩) dX4_init_26 (fun H locs hw => ?_)
  obtain ⟨σ9, eσ9⟩ : ∃ z, z = sr σ8 o0 9 (some (M + 2)) := ⟨_, rfl⟩
  replace hRO := RO_sr (o := o0) (k := 9) (r := (M + 2)) hRO (by omega)
  rw [← eσ9] at hw hRO
  replace h := h σ9 eσ9
  refine W.widen (k := 3) (n := 323) (Nat.le_of_ble_eq_true rfl) (Nat.le_of_ble_eq_true rfl) ?_
  exact g_vretG hc hr hw hagT hRO h dX4_init_29
theorem q_452 : Cond.methodLink RX2 1 objectInit ∈ TB := TB_at 452 (by decide +kernel) rfl
def w_X2_init (M : Nat) (post : St → Prop) (o0 : Nat) (a1 : Nat) (a2 : Int32) (a3 : Int32) (σ : St) : Prop :=
  ∀ σ1 : St, σ1 = sr σ o0 0 (some a1) → (∀ σ2 : St, σ2 = si σ1 o0 1 a2 → (∀ σ3 : St, σ3 = si σ2 o0 2 a3 → (post σ3)))
set_option maxHeartbeats 8000000 in
set_option maxRecDepth 20000 in
theorem m_X2_init {Γ : Gm} {ad : Nat → Nat} {M : Nat} (l : Launch) {post : St → Prop} (o0 : Nat) (a1 : Nat) (a2 : Int32) (a3 : Int32) (σ : St) (hf : kdC o0 = 2 ∧ o0 < M) (hf2 : kdC a1 = 26 ∧ a1 < M) (h : w_X2_init M post o0 a1 a2 a3 σ) : Dv l Γ YG M (M) ad σ yX2_init cX2_init 4 1 0 0 [.ref (ad o0), .ref (ad a1), .int a2, .int a3] post := by
  refine g_startG (by decide) (Nat.le_of_ble_eq_true rfl) ?_
  intro p e s m args below meth c ls hc hr hin hl hw hRO
  have hc : CX Γ p s m args meth c cX2_init RX2 4 := hc
  have hl : lv_has ls 4 [(0, .ref (ad o0)), (1, .ref (ad a1)), (2, .int a2), (3, .int a3)] := hl
  have hin : meth.name = "<init>" := hin
  have hx := hc.1
  have hb := hc.2.1
  have hagT : ∀ o, o < M → ad o = ad o := fun _ _ => rfl
  unfold w_X2_init at h
  generalize hHH : s.heap = H0 at hw ⊢
  refine lv_aload_n hx hb dX2_init_0 rfl (lv_at hl 0 rfl) ?_
  refine g_obj q_452 q_96 q_97 hc hl.1 ⟨Nat.le_of_ble_eq_true rfl, Nat.le_of_ble_eq_true rfl⟩ (Nat.le_of_ble_eq_true rfl) dX2_init_1 ?_
  refine lv_aload_n hx hb dX2_init_4 rfl (lv_at hl 0 rfl) ?_
  refine lv_aload_n hx hb dX2_init_5 rfl (lv_at hl 1 rfl) ?_
  refine g_putF (Y := YG) (o := o0) (ci := 2) (N := 3) (k := 0) (C := RX2) (T := TX2) (ty0 := tyX2) (τ := sr σ o0 0 (some a1)) rfl inT2 tyX2_ok nmX2 rfl (by decide) (by decide) q_453 rfl rfl hin rfl rfl rfl hc hw (by omega) hf.1 (en_srG (v := some a1) rfl lnC_st hf.1 (by decide) ⟨by decide, by decide⟩) dX2_init_6 (fun H locs hw => ?_)
  obtain ⟨σ1, eσ1⟩ : ∃ z, z = sr σ o0 0 (some a1) := ⟨_, rfl⟩
  replace hRO := RO_sr (o := o0) (k := 0) (r := a1) hRO (by omega)
  rw [← eσ1] at hw hRO
  replace h := h σ1 eσ1
  refine lv_aload_n hx hb dX2_init_9 rfl (lv_at hl 0 rfl) ?_
  refine lv_iload_n hx hb dX2_init_10 rfl (lv_at hl 2 rfl) ?_
  refine g_putF (Y := YG) (o := o0) (ci := 2) (N := 3) (k := 1) (C := RX2) (T := TX2) (ty0 := tyX2) (τ := si σ1 o0 1 a2) rfl inT2 tyX2_ok nmX2 rfl (by decide) (by decide) q_454 rfl rfl hin rfl rfl rfl hc hw (by omega) hf.1 (en_si (YG_ok) hf.1 (by decide) rfl) dX2_init_11 (fun H locs hw => ?_)
  obtain ⟨σ2, eσ2⟩ : ∃ z, z = si σ1 o0 1 a2 := ⟨_, rfl⟩
  replace hRO := RO_si (o := o0) (k := 1) (v := a2) hRO
  rw [← eσ2] at hw hRO
  replace h := h σ2 eσ2
  refine lv_aload_n hx hb dX2_init_14 rfl (lv_at hl 0 rfl) ?_
  refine lv_iload_n hx hb dX2_init_15 rfl (lv_at hl 3 rfl) ?_
  refine g_putF (Y := YG) (o := o0) (ci := 2) (N := 3) (k := 2) (C := RX2) (T := TX2) (ty0 := tyX2) (τ := si σ2 o0 2 a3) rfl inT2 tyX2_ok nmX2 rfl (by decide) (by decide) q_455 rfl rfl hin rfl rfl rfl hc hw (by omega) hf.1 (en_si (YG_ok) hf.1 (by decide) rfl) dX2_init_16 (fun H locs hw => ?_)
  obtain ⟨σ3, eσ3⟩ : ∃ z, z = si σ2 o0 2 a3 := ⟨_, rfl⟩
  replace hRO := RO_si (o := o0) (k := 2) (v := a3) hRO
  rw [← eσ3] at hw hRO
  replace h := h σ3 eσ3
  refine W.widen (k := 0) (n := 0) (Nat.le_of_ble_eq_true rfl) (Nat.le_of_ble_eq_true rfl) ?_
  exact g_vretG hc hr hw hagT hRO h dX2_init_19
