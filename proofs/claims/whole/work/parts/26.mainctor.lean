theorem q_95 : Cond.methodLink RX6 1 objectInit ∈ TB := TB_at 95 (by decide +kernel) rfl
theorem q_98 : Cond.classLink RX6 9 RX1 ∈ TB := TB_at 98 (by decide +kernel) rfl
theorem q_100 : Cond.classLink RX6 15 RX0 ∈ TB := TB_at 100 (by decide +kernel) rfl
theorem q_102 : Cond.classLink RX6 21 RX2 ∈ TB := TB_at 102 (by decide +kernel) rfl
theorem q_104 : Cond.classLink RX6 31 RX4 ∈ TB := TB_at 104 (by decide +kernel) rfl
theorem q_107 : Cond.instanceMethod yX4_init ∈ TB := TB_at 107 (by decide +kernel) rfl
set_option maxRecDepth 100000 in
theorem q_108 : Cond.code yX4_init cX4_init 1 none ∈ TB := TB_at 108 rfl rfl
theorem iw_X6_33 : IW RX6 33 yX4_init cX4_init 1 0 := ⟨q_107, q_76, q_108, rfl, by decide +kernel⟩
theorem q_106 : Cond.methodLinkNest RX6 33 yX4_init RX6 ∈ NW := NW_at 106 (by decide +kernel) rfl (by decide +kernel)
theorem q_142 : Cond.classLink RX6 38 RX5 ∈ TB := TB_at 142 (by decide +kernel) rfl
theorem q_144 : Cond.classLink RX6 54 RX3 ∈ TB := TB_at 144 (by decide +kernel) rfl
theorem q_147 : Cond.instanceMethod yX3_init ∈ TB := TB_at 147 (by decide +kernel) rfl
set_option maxRecDepth 100000 in
theorem q_148 : Cond.code yX3_init cX3_init 1 none ∈ TB := TB_at 148 rfl rfl
theorem iw_X6_56 : IW RX6 56 yX3_init cX3_init 1 0 := ⟨q_147, q_77, q_148, rfl, by decide +kernel⟩
theorem q_146 : Cond.methodLinkNest RX6 56 yX3_init RX6 ∈ NW := NW_at 146 (by decide +kernel) rfl (by decide +kernel)
theorem q_209 : Cond.instanceMethod yX0_init ∈ TB := TB_at 209 (by decide +kernel) rfl
set_option maxRecDepth 100000 in
theorem q_210 : Cond.code yX0_init cX0_init 1 none ∈ TB := TB_at 210 rfl rfl
theorem iw_X6_64 : IW RX6 64 yX0_init cX0_init 1 0 := ⟨q_209, q_78, q_210, rfl, by decide +kernel⟩
theorem q_208 : Cond.methodLinkNest RX6 64 yX0_init RX6 ∈ NW := NW_at 208 (by decide +kernel) rfl (by decide +kernel)
theorem q_230 : Cond.instanceMethod yX1_init ∈ TB := TB_at 230 (by decide +kernel) rfl
set_option maxRecDepth 100000 in
theorem q_231 : Cond.code yX1_init cX1_init 1 none ∈ TB := TB_at 231 rfl rfl
theorem iw_X6_69 : IW RX6 69 yX1_init cX1_init 1 0 := ⟨q_230, q_79, q_231, rfl, by decide +kernel⟩
theorem q_229 : Cond.methodLinkNest RX6 69 yX1_init RX6 ∈ NW := NW_at 229 (by decide +kernel) rfl (by decide +kernel)
theorem q_239 : Cond.instanceMethod yX5_init ∈ TB := TB_at 239 (by decide +kernel) rfl
set_option maxRecDepth 100000 in
theorem q_240 : Cond.code yX5_init cX5_init 1 none ∈ TB := TB_at 240 rfl rfl
theorem iw_X6_70 : IW RX6 70 yX5_init cX5_init 1 0 := ⟨q_239, q_80, q_240, rfl, by decide +kernel⟩
theorem q_238 : Cond.methodLinkNest RX6 70 yX5_init RX6 ∈ NW := NW_at 238 (by decide +kernel) rfl (by decide +kernel)
def T6_1 : St := sN z0 0 0
def T6_2 : St := sN T6_1 1 4
def T6_3 : St := sr T6_2 0 0 (some 1)
def T6_4 : St := sN T6_3 2 12
def T6_5 : St := sr T6_4 0 2 (some 2)
def T6_6 : St := sN T6_5 3 6
def T6_7 : St := sr T6_6 0 4 (some 3)
def T6_8 : St := sN T6_7 4 3
def T6_9 : St := si T6_8 4 0 4
def T6_10 : St := si T6_9 4 1 20
def T6_11 : St := si T6_10 4 2 3
def T6_12 : St := sr T6_11 0 7 (some 4)
def T6_13 : St := sN T6_12 5 0
def T6_14 : St := sr (sN (sr (sN (sr (sN T6_13 6 160) 5 0 (some 6)) 7 160) 5 7 (some 7)) 8 3) 5 9 (some 8)
def T6_15 : St := sr T6_14 0 8 (some 5)
def T6_16 : St := sN T6_15 9 4
def T6_17 : St := sr T6_16 0 9 (some 9)
def T6_18 : St := sN T6_17 10 4
def T6_19 : St := sr T6_18 0 10 (some 10)
def T6_20 : St := si T6_19 0 11 (-1)
def T6_21 : St := sN T6_20 11 3
def T6_22 : St := sr T6_21 0 12 (some 11)
def T6_23 : St := sN T6_22 12 0
def T6_24 : St := sr (sN T6_23 13 40) 12 0 (some 13)
def T6_25 : St := sr T6_24 0 14 (some 12)
def T6_26 : St := sN T6_25 14 0
def T6_27 : St := sr (sN T6_26 15 40) 14 0 (some 15)
def T6_28 : St := sr T6_27 0 15 (some 14)
def T6_29 : St := sN T6_28 16 0
def T6_30 : St := T6_29
def T6_31 : St := sr T6_30 0 16 (some 16)
def T6_32 : St := sN T6_31 17 0
def T6_33 : St := sr (sN T6_32 18 5) 17 0 (some 18)
def T6_34 : St := sr T6_33 1 0 (some 17)
def T6_35 : St := sN T6_34 19 0
def T6_36 : St := sr (sN T6_35 20 5) 19 0 (some 20)
def T6_37 : St := sr T6_36 10 0 (some 19)
def T6_38 : St := sN T6_37 21 0
def T6_39 : St := sr (sN T6_38 22 5) 21 0 (some 22)
def T6_40 : St := sr T6_39 1 1 (some 21)
def T6_41 : St := sN T6_40 23 0
def T6_42 : St := sr (sN T6_41 24 5) 23 0 (some 24)
def T6_43 : St := sr T6_42 10 1 (some 23)
def T6_44 : St := sN T6_43 25 0
def T6_45 : St := sr (sN T6_44 26 5) 25 0 (some 26)
def T6_46 : St := sr T6_45 1 2 (some 25)
def T6_47 : St := sN T6_46 27 0
def T6_48 : St := sr (sN T6_47 28 5) 27 0 (some 28)
def T6_49 : St := sr T6_48 10 2 (some 27)
def T6_50 : St := sN T6_49 29 0
def T6_51 : St := sr (sN T6_50 30 5) 29 0 (some 30)
def T6_52 : St := sr T6_51 1 3 (some 29)
def T6_53 : St := sN T6_52 31 0
def T6_54 : St := sr (sN T6_53 32 5) 31 0 (some 32)
def T6_55 : St := sr T6_54 10 3 (some 31)
def T6_56 : St := sN T6_55 33 0
def T6_57 : St := T6_56
def T6_58 : St := sr T6_57 2 0 (some 33)
def T6_59 : St := sN T6_58 34 0
def T6_60 : St := T6_59
def T6_61 : St := sr T6_60 2 1 (some 34)
def T6_62 : St := sN T6_61 35 0
def T6_63 : St := T6_62
def T6_64 : St := sr T6_63 2 2 (some 35)
def T6_65 : St := sN T6_64 36 0
def T6_66 : St := T6_65
def T6_67 : St := sr T6_66 2 3 (some 36)
def T6_68 : St := sN T6_67 37 0
def T6_69 : St := T6_68
def T6_70 : St := sr T6_69 2 4 (some 37)
def T6_71 : St := sN T6_70 38 0
def T6_72 : St := T6_71
def T6_73 : St := sr T6_72 2 5 (some 38)
def T6_74 : St := sN T6_73 39 0
def T6_75 : St := T6_74
def T6_76 : St := sr T6_75 2 6 (some 39)
def T6_77 : St := sN T6_76 40 0
def T6_78 : St := T6_77
def T6_79 : St := sr T6_78 2 7 (some 40)
def T6_80 : St := sN T6_79 41 0
def T6_81 : St := T6_80
def T6_82 : St := sr T6_81 2 8 (some 41)
def T6_83 : St := sN T6_82 42 0
def T6_84 : St := T6_83
def T6_85 : St := sr T6_84 2 9 (some 42)
def T6_86 : St := sN T6_85 43 0
def T6_87 : St := T6_86
def T6_88 : St := sr T6_87 2 10 (some 43)
def T6_89 : St := sN T6_88 44 0
def T6_90 : St := T6_89
def T6_91 : St := sr T6_90 2 11 (some 44)
def T6_92 : St := sN T6_91 45 0
def T6_93 : St := si (sr (sN T6_92 46 40) 45 0 (some 46)) 45 1 (-1)
def T6_94 : St := sr T6_93 9 0 (some 45)
def T6_95 : St := sN T6_94 47 0
def T6_96 : St := si (sr (sN T6_95 48 40) 47 0 (some 48)) 47 1 (-1)
def T6_97 : St := sr T6_96 9 1 (some 47)
def T6_98 : St := sN T6_97 49 0
def T6_99 : St := si (sr (sN T6_98 50 40) 49 0 (some 50)) 49 1 (-1)
def T6_100 : St := sr T6_99 9 2 (some 49)
def T6_101 : St := sN T6_100 51 0
def T6_102 : St := si (sr (sN T6_101 52 40) 51 0 (some 52)) 51 1 (-1)
def T6_103 : St := sr T6_102 9 3 (some 51)
def T6 : St := T6_103
theorem T6_refs : ∀ o, o < 53 → ∀ k, k < 17 → rvC 53 T6 o k = gr T6 o k := by decide +kernel
theorem YG_YC {cs : Nat → ClassId} {ad : Nat → Nat} {o : Nat} (ho : o < 53) : EQ2 (en YG cs ad T6 o) (en YC cs ad T6 o) := by
  refine en_GC (fun _ => rfl) rfl (fun _ => rfl) (fun k h1 h2 h3 => ?_) (fun k h1 h2 => ?_)
  · have hk : k < 17 := by
      have : ∀ c, c < 20 → fnC c ≤ 17 := by decide
      have := this _ h1
      omega
    rw [← T6_refs o ho k hk, rvC_ob ho h1 h2 h3]
  · have hk : k < 17 := by
      have key : ∀ o, o < 53 → ¬ kdC o < 60 → lnC T6 (kdC o) o ≤ 17 := by decide +kernel
      have := key o ho h1
      omega
    rw [← T6_refs o ho k hk, rvC_ar ho h1 h2]
/-- the tape with the first law's text written so far -/
def fl : Nat → St
  | 0 => T6
  | i + 1 => si (si (fl i) 6 i (chT 0 (nI i))) 5 1 (nI (i + 1))
theorem fl_size (i : Nat) : gi (fl i) 5 1 = nI i := by
  cases i with
  | zero => rfl
  | succ i => simp [fl, gi, si]
theorem fl_add {i : Nat} (h : i < 160) : w_X4_add 53 (fun u => u = fl (i + 1)) (chT 0 (nI i)) (fl i) := by
  unfold w_X4_add
  rw [fl_size]
  refine ⟨fun q => absurd q (nI_ge (b := 160) h (by decide)), fun _ => ⟨nI_in h (by decide), ?_⟩⟩
  intro σ2 e2 σ3 e3
  rw [e3, e2, nI_clamp (by omega)]
  show si _ 5 1 (gi (fl i) 5 1 + 1) = _
  rw [fl_size, nI_1]
  rfl
section CT6
variable {Γ : Gm} {ad : Nat → Nat} {p : Program} {l : Launch} {e : Env} {s : State} {m : MethodId} {args : Array Value} {below : List Frame} {meth : Method} {c : Code} {cells slots : Nat} {Q : State → Prop}
set_option maxHeartbeats 4000000 in
theorem b_X6_init_216 (hc : CX Γ p s m args meth c cX6_init RX6 2) (hcs : cells ≤ 54 ∧ slots ≤ 905)
    (kk : ∀ (H : Heap) (locs : List Loc) (ls : Array Slot), WH Γ YC 53 ad (fl 90) s H locs → lv_has ls 2 [(1, .int 90), (0, .ref (ad 0))] → W p l e (rmL 152 54 905) s m args below meth c H locs cells slots Q (F0 m 244 ls [])) :
    ∀ (n i : Nat) (H : Heap) (locs : List Loc) (ls : Array Slot), i + n = 90 → WH Γ YC 53 ad (fl i) s H locs → lv_has ls 2 [(1, .int (nI i)), (0, .ref (ad 0))] → W p l e (rmL 152 54 905) s m args below meth c H locs cells slots Q (F0 m 216 ls []) := by
  have hx := hc.1
  have hb := hc.2.1
  intro n
  induction n with
  | zero =>
    intro i H locs ls hi hw hl
    have hi : i = 90 := by omega
    subst hi
    refine lv_iload_n hx hb dX6_init_216 rfl (lv_at hl 0 rfl) ?_
    refine va_ldcS hx hb hc.2.2.2.1 hc.2.2.2.2.2.2.2.2.2.2.1.2.1 dX6_init_217 ?_
    refine g_Vs (Y := YC) (i := 0) (n := 0) (k := 9) (As := []) (rest := [.int (nI 90)]) (by decide) vw_X6_73 ⟨Nat.le_of_ble_eq_true rfl, Nat.le_of_ble_eq_true rfl, hcs.1, hcs.2⟩ hc hw hl.1 (m_slen (post := fun r u => r = 90 ∧ u = fl 90) l 0 (by decide) (fl 90) ⟨by decide, rfl⟩) rfl rfl (Nat.le_of_ble_eq_true rfl) dX6_init_219 (fun r_ u_ H locs hz hw => ?_)
    obtain ⟨z1, z2⟩ := hz
    rw [z1]
    rw [z2] at hw
    exact lv_icmp_ge (tgt := 244) hx hb dX6_init_222 (by decide) (fun _ => kk H locs ls hw hl) (fun c => absurd (by decide) c)
  | succ n ih =>
    intro i H locs ls hi hw hl
    have h90 : i < 90 := by omega
    refine lv_iload_n hx hb dX6_init_216 rfl (lv_at hl 0 rfl) ?_
    refine va_ldcS hx hb hc.2.2.2.1 hc.2.2.2.2.2.2.2.2.2.2.1.2.1 dX6_init_217 ?_
    refine g_Vs (Y := YC) (i := 0) (n := 0) (k := 9) (As := []) (rest := [.int (nI i)]) (by decide) vw_X6_73 ⟨Nat.le_of_ble_eq_true rfl, Nat.le_of_ble_eq_true rfl, hcs.1, hcs.2⟩ hc hw hl.1 (m_slen (post := fun r u => r = 90 ∧ u = fl i) l 0 (by decide) (fl i) ⟨by decide, rfl⟩) rfl rfl (Nat.le_of_ble_eq_true rfl) dX6_init_219 (fun r_ u_ H locs hz hw => ?_)
    obtain ⟨z1, z2⟩ := hz
    rw [z1]
    rw [z2] at hw
    refine lv_icmp_ge (tgt := 244) hx hb dX6_init_222 (by decide) (fun c => absurd c (nI_ge (b := 90) h90 (by decide))) (fun _ => ?_)
    refine lv_aload_n hx hb dX6_init_225 rfl (lv_at hl 1 rfl) ?_
    refine fg_X6_34 hc hw (by decide) rfl dX6_init_226 ?_
    refine va_ldcS hx hb hc.2.2.2.1 hc.2.2.2.2.2.2.2.2.2.2.1.2.1 dX6_init_229 ?_
    refine lv_iload_n hx hb dX6_init_231 rfl (lv_at hl 0 rfl) ?_
    refine g_Vs (Y := YC) (i := 0) (n := 1) (k := 9) (As := [.int (nI i)]) (rest := [.ref (ad 5)]) (by decide) vw_X6_79 ⟨Nat.le_of_ble_eq_true rfl, Nat.le_of_ble_eq_true rfl, hcs.1, hcs.2⟩ hc hw hl.1 (m_schar (post := fun r u => r = chT 0 (nI i) ∧ u = fl i) l 0 (by decide) (nI i) (nI_in h90 (by decide)) (fl i) ⟨rfl, rfl⟩) rfl rfl (Nat.le_of_ble_eq_true rfl) dX6_init_232 (fun r_ u_ H locs hz hw => ?_)
    obtain ⟨z1, z2⟩ := hz
    rw [z1]
    rw [z2] at hw
    refine g_Vv (Y := YC) (ci := 4) (n := 1) (k := 0) (o := 5) (As := [.int (chT 0 (nI i))]) (rest := []) rfl (by decide) vw_X6_83 ⟨Nat.le_of_ble_eq_true rfl, Nat.le_of_ble_eq_true rfl, hcs.1, hcs.2⟩ hc hw hl.1 (by decide) rfl (m_X4_add l (Nat.le_refl 53) (chT 0 (nI i)) (fl i) (fl_add (by omega))) rfl rfl (Nat.le_of_ble_eq_true rfl) dX6_init_235 (fun u_ H locs hz hw => ?_)
    rw [hz] at hw
    refine lv_iinc (v := nI (i + 1)) (lv' := [(1, .int (nI (i + 1))), (0, .ref (ad 0))]) hx hb dX6_init_238 hl (k := 0) rfl (nI_1 i) (by decide) rfl (fun ls hl => ?_)
    refine lv_goto (tgt := 216) hx hb dX6_init_241 (by decide) ?_
    exact ih (i + 1) H locs ls (by omega) hw hl
end CT6
def w_X6_init (post : St → Nat → Prop) : Prop :=
  w_X4_readLaw 53 (fun r u M1 => ∃ o : Nat, r = some o ∧ (kdC o = 2 ∧ o < M1) ∧ post (si (sr u 3 0 (some o)) 0 5 1) M1) (fl 90)
set_option maxHeartbeats 16000000 in
set_option maxRecDepth 20000 in
theorem m_X6_init {Γ : Gm} {ad : Nat → Nat} (l : Launch) {post : St → Nat → Prop} (h : w_X6_init post) : Met l yX6_init (Cond.code yX6_init cX6_init 2 none :: TB) (rmL 152 54 905) (va_Pc [.ref (ad 0)] (fun U => WC Γ YG 1 ad (sN z0 0 0) U ∧ RO 1 (sN z0 0 0))) (va_Qv (fun u : St × Nat => 53 ≤ u.2 ∧ post u.1 u.2) (fun u t => ∃ a1 : Nat → Nat, (∀ o, o < 1 → a1 o = ad o) ∧ WC Γ YC u.2 a1 u.1 t) (AA Γ)) 54 905 (AA Γ) := by
  refine g_startG (by decide) (Nat.le_of_ble_eq_true rfl) ?_
  intro p e s m args below meth c ls hc hr hin hl hw hRO
  have hc : CX Γ p s m args meth c cX6_init RX6 2 := hc
  have hl : lv_has ls 2 [(0, .ref (ad 0))] := hl
  have hin : meth.name = "<init>" := hin
  have hx := hc.1
  have hb := hc.2.1
  have hagT : ∀ o, o < 1 → ad o = ad o := fun _ _ => rfl
  generalize hHH : s.heap = H0 at hw ⊢
  have hw : WH Γ YG 1 ad T6_1 s H0 [] := hw
  have hRO : RO 1 T6_1 := hRO
  refine lv_aload_n hx hb dX6_init_0 rfl (lv_at hl 0 rfl) ?_
  refine g_obj q_95 q_96 q_97 hc hl.1 ⟨Nat.le_of_ble_eq_true rfl, Nat.le_of_ble_eq_true rfl⟩ (Nat.le_of_ble_eq_true rfl) dX6_init_1 ?_
  refine lv_aload_n hx hb dX6_init_4 rfl (lv_at hl 0 rfl) ?_
  refine lv_iconst (v := 4) hx hb dX6_init_5 (by decide) ?_
  refine g_newq (Y := YG) (M := 1) (N := 4) (kd := 60) (C := RX1) rfl (lnC_sN _) q_98 hc.2.2.2.2.2.2.2.2.2.2.2.2.1 rfl (by decide) rfl rfl hRO hc hw (by decide) (by decide) (by decide) (Nat.le_of_ble_eq_true rfl) (Nat.le_of_ble_eq_true rfl) dX6_init_6 (fun ad1 H hgad1 hw => ?_)
  have hRO : RO 2 T6_2 := RO_sN (n := 4) hRO
  have hl : lv_has ls 2 [(0, .ref (ad1 0))] := by rw [hgad1 0 (by omega)]; exact hl
  refine W.eq (g2 := F0 m (6 + 3) ls [.ref (ad1 1), .ref (ad1 0)]) (by rw [hgad1 0 (by omega)]) ?_
  have hagT : ∀ o, o < 1 → ad1 o = ad o := fun o ho => (hgad1 o (by omega)).trans (hagT o ho)
  have hw : WH Γ YG 2 ad1 T6_2 s H [] := hw
  refine g_putF (Y := YG) (o := 0) (ci := 6) (N := 17) (k := 0) (C := RX6) (T := TX6) (ty0 := tyX6) (τ := T6_3) rfl inT6 tyX6_ok nmX6 rfl (by decide) (by decide) q_464 rfl rfl hin rfl rfl rfl hc hw (by omega) rfl (en_srG (v := some 1) rfl lnC_st rfl (by decide) ⟨by decide, by decide⟩) dX6_init_9 (fun H L3 hw => ?_)
  have hRO : RO 2 T6_3 := RO_sr (o := 0) (k := 0) (r := 1) hRO (by omega)
  refine lv_aload_n hx hb dX6_init_12 rfl (lv_at hl 0 rfl) ?_
  refine lv_bipush (v := 12) hx hb dX6_init_13 (by decide) ?_
  refine g_newq (Y := YG) (M := 2) (N := 12) (kd := 61) (C := RX0) rfl (lnC_sN _) q_100 hc.2.2.2.2.2.2.2.2.2.2.2.2.2.1 rfl (by decide) rfl rfl hRO hc hw (by decide) (by decide) (by decide) (Nat.le_of_ble_eq_true rfl) (Nat.le_of_ble_eq_true rfl) dX6_init_15 (fun ad2 H hgad2 hw => ?_)
  have hRO : RO 3 T6_4 := RO_sN (n := 12) hRO
  have hl : lv_has ls 2 [(0, .ref (ad2 0))] := by rw [hgad2 0 (by omega)]; exact hl
  refine W.eq (g2 := F0 m (15 + 3) ls [.ref (ad2 2), .ref (ad2 0)]) (by rw [hgad2 0 (by omega)]) ?_
  have hagT : ∀ o, o < 1 → ad2 o = ad o := fun o ho => (hgad2 o (by omega)).trans (hagT o ho)
  have hw : WH Γ YG 3 ad2 T6_4 s H L3 := hw
  refine g_putF (Y := YG) (o := 0) (ci := 6) (N := 17) (k := 2) (C := RX6) (T := TX6) (ty0 := tyX6) (τ := T6_5) rfl inT6 tyX6_ok nmX6 rfl (by decide) (by decide) q_466 rfl rfl hin rfl rfl rfl hc hw (by omega) rfl (en_srG (v := some 2) rfl lnC_st rfl (by decide) ⟨by decide, by decide⟩) dX6_init_18 (fun H L5 hw => ?_)
  have hRO : RO 3 T6_5 := RO_sr (o := 0) (k := 2) (r := 2) hRO (by omega)
  refine lv_aload_n hx hb dX6_init_21 rfl (lv_at hl 0 rfl) ?_
  refine lv_bipush (v := 6) hx hb dX6_init_22 (by decide) ?_
  refine g_newq (Y := YG) (M := 3) (N := 6) (kd := 62) (C := RX2) rfl (lnC_sN _) q_102 hc.2.2.2.2.2.2.2.2.2.2.2.2.2.2.1 rfl (by decide) rfl rfl hRO hc hw (by decide) (by decide) (by decide) (Nat.le_of_ble_eq_true rfl) (Nat.le_of_ble_eq_true rfl) dX6_init_24 (fun ad3 H hgad3 hw => ?_)
  have hRO : RO 4 T6_6 := RO_sN (n := 6) hRO
  have hl : lv_has ls 2 [(0, .ref (ad3 0))] := by rw [hgad3 0 (by omega)]; exact hl
  refine W.eq (g2 := F0 m (24 + 3) ls [.ref (ad3 3), .ref (ad3 0)]) (by rw [hgad3 0 (by omega)]) ?_
  have hagT : ∀ o, o < 1 → ad3 o = ad o := fun o ho => (hgad3 o (by omega)).trans (hagT o ho)
  have hw : WH Γ YG 4 ad3 T6_6 s H L5 := hw
  refine g_putF (Y := YG) (o := 0) (ci := 6) (N := 17) (k := 4) (C := RX6) (T := TX6) (ty0 := tyX6) (τ := T6_7) rfl inT6 tyX6_ok nmX6 rfl (by decide) (by decide) q_468 rfl rfl hin rfl rfl rfl hc hw (by omega) rfl (en_srG (v := some 3) rfl lnC_st rfl (by decide) ⟨by decide, by decide⟩) dX6_init_27 (fun H L7 hw => ?_)
  have hRO : RO 4 T6_7 := RO_sr (o := 0) (k := 4) (r := 3) hRO (by omega)
  refine lv_aload_n hx hb dX6_init_30 rfl (lv_at hl 0 rfl) ?_
  refine lv_iconst (v := 3) hx hb dX6_init_31 (by decide) ?_
  refine g_newa (Y := YG) (M := 4) (N := 3) (kd := 21) rfl (lnC_sN _) q_141 rfl (by decide) (by decide) rfl rfl hRO hc hw (by decide) (by decide) (by decide) (Nat.le_of_ble_eq_true rfl) (Nat.le_of_ble_eq_true rfl) dX6_init_32 (fun ad4 H hgad4 hw => ?_)
  have hRO : RO 5 T6_8 := RO_sN (n := 3) hRO
  have hl : lv_has ls 2 [(0, .ref (ad4 0))] := by rw [hgad4 0 (by omega)]; exact hl
  refine W.eq (g2 := F0 m (32 + 2) ls [.ref (ad4 4), .ref (ad4 0)]) (by rw [hgad4 0 (by omega)]) ?_
  have hagT : ∀ o, o < 1 → ad4 o = ad o := fun o ho => (hgad4 o (by omega)).trans (hagT o ho)
  have hw : WH Γ YG 5 ad4 T6_8 s H L7 := hw
  refine lv_dup hx hb dX6_init_34 rfl ?_
  refine lv_iconst (v := 0) hx hb dX6_init_35 (by decide) ?_
  refine lv_iconst (v := 4) hx hb dX6_init_36 (by decide) ?_
  refine g_iastK (Y := YG) (kd := 21) (n := 3) (k := 0) (o := 4) YG_ok (by decide) (by decide) rfl hc hw (by omega) rfl rfl (vp_in_lit (by decide)) (by decide) dX6_init_37 (fun σ_ H L9 e_ hw => ?_)
  subst e_
  have hRO : RO 5 T6_9 := RO_si (o := 4) (k := 0) (v := 4) hRO
  have hw : WH Γ YG 5 ad4 T6_9 s H L9 := hw
  refine lv_dup hx hb dX6_init_38 rfl ?_
  refine lv_iconst (v := 1) hx hb dX6_init_39 (by decide) ?_
  refine lv_bipush (v := 20) hx hb dX6_init_40 (by decide) ?_
  refine g_iastK (Y := YG) (kd := 21) (n := 3) (k := 1) (o := 4) YG_ok (by decide) (by decide) rfl hc hw (by omega) rfl rfl (vp_in_lit (by decide)) (by decide) dX6_init_42 (fun σ_ H L10 e_ hw => ?_)
  subst e_
  have hRO : RO 5 T6_10 := RO_si (o := 4) (k := 1) (v := 20) hRO
  have hw : WH Γ YG 5 ad4 T6_10 s H L10 := hw
  refine lv_dup hx hb dX6_init_43 rfl ?_
  refine lv_iconst (v := 2) hx hb dX6_init_44 (by decide) ?_
  refine lv_iconst (v := 3) hx hb dX6_init_45 (by decide) ?_
  refine g_iastK (Y := YG) (kd := 21) (n := 3) (k := 2) (o := 4) YG_ok (by decide) (by decide) rfl hc hw (by omega) rfl rfl (vp_in_lit (by decide)) (by decide) dX6_init_46 (fun σ_ H L11 e_ hw => ?_)
  subst e_
  have hRO : RO 5 T6_11 := RO_si (o := 4) (k := 2) (v := 3) hRO
  have hw : WH Γ YG 5 ad4 T6_11 s H L11 := hw
  refine g_putF (Y := YG) (o := 0) (ci := 6) (N := 17) (k := 7) (C := RX6) (T := TX6) (ty0 := tyX6) (τ := T6_12) rfl inT6 tyX6_ok nmX6 rfl (by decide) (by decide) q_471 rfl rfl hin rfl rfl rfl hc hw (by omega) rfl (en_srG (v := some 4) rfl lnC_st rfl (by decide) ⟨by decide, by decide⟩) dX6_init_47 (fun H L12 hw => ?_)
  have hRO : RO 5 T6_12 := RO_sr (o := 0) (k := 7) (r := 4) hRO (by omega)
  refine lv_aload_n hx hb dX6_init_50 rfl (lv_at hl 0 rfl) ?_
  refine g_newO (Y := YG) (ci := 4) (N := 10) (C := RX4) (T := TX4) (ty0 := tyX4) (M := 5) rfl inT4 tyX4_ok rfl (by decide) q_104 q_105 q_76 df_X4 rfl (lnC_sN _) rfl hRO hc hw (Nat.le_of_ble_eq_true rfl) (Nat.le_of_ble_eq_true rfl) dX6_init_51 (fun ad5 H hgad5 hw => ?_)
  have hRO : RO 6 T6_13 := RO_sN (n := 0) hRO
  have hl : lv_has ls 2 [(0, .ref (ad5 0))] := by rw [hgad5 0 (by omega)]; exact hl
  refine W.eq (g2 := F0 m (51 + 3) ls [.ref (ad5 5), .ref (ad5 0)]) (by rw [hgad5 0 (by omega)]) ?_
  have hagT : ∀ o, o < 1 → ad5 o = ad o := fun o ho => (hgad5 o (by omega)).trans (hagT o ho)
  have hw : WH Γ YG 6 ad5 T6_13 s H L12 := hw
  refine lv_dup hx hb dX6_init_54 rfl ?_
  refine g_initN (Y := YG) (M1 := 9) (k := 1) (mc := 3) (ms := 323) (o := 5) (As := []) (rest := [.ref (ad5 5), .ref (ad5 0)]) iw_X6_33 q_106 ⟨Nat.le_of_ble_eq_true rfl, Nat.le_of_ble_eq_true rfl, Nat.le_of_ble_eq_true rfl, Nat.le_of_ble_eq_true rfl⟩ hRO hc hw hl.1 (m_X4_init (M := 6) (post := fun u => u = T6_14) l 5 T6_13 ⟨rfl, by omega⟩ rfl rfl rfl (by unfold w_X4_init; intros; subst_vars; rfl)) rfl rfl (Nat.le_of_ble_eq_true rfl) dX6_init_55 (fun u_ ad6 H L14 e_ hgad6 hRO hw => ?_)
  subst e_
  have hl : lv_has ls 2 [(0, .ref (ad6 0))] := by rw [hgad6 0 (by omega)]; exact hl
  refine W.eq (g2 := F0 m (55 + 3) ls [.ref (ad6 5), .ref (ad6 0)]) (by rw [hgad6 5 (by omega), hgad6 0 (by omega)]) ?_
  have hagT : ∀ o, o < 1 → ad6 o = ad o := fun o ho => (hgad6 o (by omega)).trans (hagT o ho)
  refine g_putF (Y := YG) (o := 0) (ci := 6) (N := 17) (k := 8) (C := RX6) (T := TX6) (ty0 := tyX6) (τ := T6_15) rfl inT6 tyX6_ok nmX6 rfl (by decide) (by decide) q_472 rfl rfl hin rfl rfl rfl hc hw (by omega) rfl (en_srG (v := some 5) rfl lnC_st rfl (by decide) ⟨by decide, by decide⟩) dX6_init_58 (fun H L15 hw => ?_)
  have hRO : RO 9 T6_15 := RO_sr (o := 0) (k := 8) (r := 5) hRO (by omega)
  refine lv_aload_n hx hb dX6_init_61 rfl (lv_at hl 0 rfl) ?_
  refine lv_iconst (v := 4) hx hb dX6_init_62 (by decide) ?_
  refine g_newq (Y := YG) (M := 9) (N := 4) (kd := 63) (C := RX5) rfl (lnC_sN _) q_142 hc.2.2.2.2.2.2.2.2.2.2.2.2.2.2.2 rfl (by decide) rfl rfl hRO hc hw (by decide) (by decide) (by decide) (Nat.le_of_ble_eq_true rfl) (Nat.le_of_ble_eq_true rfl) dX6_init_63 (fun ad7 H hgad7 hw => ?_)
  have hRO : RO 10 T6_16 := RO_sN (n := 4) hRO
  have hl : lv_has ls 2 [(0, .ref (ad7 0))] := by rw [hgad7 0 (by omega)]; exact hl
  refine W.eq (g2 := F0 m (63 + 3) ls [.ref (ad7 9), .ref (ad7 0)]) (by rw [hgad7 0 (by omega)]) ?_
  have hagT : ∀ o, o < 1 → ad7 o = ad o := fun o ho => (hgad7 o (by omega)).trans (hagT o ho)
  have hw : WH Γ YG 10 ad7 T6_16 s H L15 := hw
  refine g_putF (Y := YG) (o := 0) (ci := 6) (N := 17) (k := 9) (C := RX6) (T := TX6) (ty0 := tyX6) (τ := T6_17) rfl inT6 tyX6_ok nmX6 rfl (by decide) (by decide) q_473 rfl rfl hin rfl rfl rfl hc hw (by omega) rfl (en_srG (v := some 9) rfl lnC_st rfl (by decide) ⟨by decide, by decide⟩) dX6_init_66 (fun H L17 hw => ?_)
  have hRO : RO 10 T6_17 := RO_sr (o := 0) (k := 9) (r := 9) hRO (by omega)
  refine lv_aload_n hx hb dX6_init_69 rfl (lv_at hl 0 rfl) ?_
  refine lv_iconst (v := 4) hx hb dX6_init_70 (by decide) ?_
  refine g_newq (Y := YG) (M := 10) (N := 4) (kd := 60) (C := RX1) rfl (lnC_sN _) q_98 hc.2.2.2.2.2.2.2.2.2.2.2.2.1 rfl (by decide) rfl rfl hRO hc hw (by decide) (by decide) (by decide) (Nat.le_of_ble_eq_true rfl) (Nat.le_of_ble_eq_true rfl) dX6_init_71 (fun ad8 H hgad8 hw => ?_)
  have hRO : RO 11 T6_18 := RO_sN (n := 4) hRO
  have hl : lv_has ls 2 [(0, .ref (ad8 0))] := by rw [hgad8 0 (by omega)]; exact hl
  refine W.eq (g2 := F0 m (71 + 3) ls [.ref (ad8 10), .ref (ad8 0)]) (by rw [hgad8 0 (by omega)]) ?_
  have hagT : ∀ o, o < 1 → ad8 o = ad o := fun o ho => (hgad8 o (by omega)).trans (hagT o ho)
  have hw : WH Γ YG 11 ad8 T6_18 s H L17 := hw
  refine g_putF (Y := YG) (o := 0) (ci := 6) (N := 17) (k := 10) (C := RX6) (T := TX6) (ty0 := tyX6) (τ := T6_19) rfl inT6 tyX6_ok nmX6 rfl (by decide) (by decide) q_474 rfl rfl hin rfl rfl rfl hc hw (by omega) rfl (en_srG (v := some 10) rfl lnC_st rfl (by decide) ⟨by decide, by decide⟩) dX6_init_74 (fun H L19 hw => ?_)
  have hRO : RO 11 T6_19 := RO_sr (o := 0) (k := 10) (r := 10) hRO (by omega)
  refine lv_aload_n hx hb dX6_init_77 rfl (lv_at hl 0 rfl) ?_
  refine lv_iconst (v := (-1)) hx hb dX6_init_78 (by decide) ?_
  refine g_put (Y := YG) (o := 0) (ci := 6) (N := 17) (k := 11) (C := RX6) (T := TX6) (ty0 := tyX6) (τ := T6_20) rfl inT6 tyX6_ok nmX6 rfl (by decide) (by decide) q_475 rfl rfl rfl rfl hc hw (by omega) rfl (en_si (YG_ok) rfl (by decide) rfl) dX6_init_79 (fun H L20 hw => ?_)
  have hRO : RO 11 T6_20 := RO_si (o := 0) (k := 11) (v := (-1)) hRO
  refine lv_aload_n hx hb dX6_init_82 rfl (lv_at hl 0 rfl) ?_
  refine lv_iconst (v := 3) hx hb dX6_init_83 (by decide) ?_
  refine g_newa (Y := YG) (M := 11) (N := 3) (kd := 21) rfl (lnC_sN _) q_141 rfl (by decide) (by decide) rfl rfl hRO hc hw (by decide) (by decide) (by decide) (Nat.le_of_ble_eq_true rfl) (Nat.le_of_ble_eq_true rfl) dX6_init_84 (fun ad9 H hgad9 hw => ?_)
  have hRO : RO 12 T6_21 := RO_sN (n := 3) hRO
  have hl : lv_has ls 2 [(0, .ref (ad9 0))] := by rw [hgad9 0 (by omega)]; exact hl
  refine W.eq (g2 := F0 m (84 + 2) ls [.ref (ad9 11), .ref (ad9 0)]) (by rw [hgad9 0 (by omega)]) ?_
  have hagT : ∀ o, o < 1 → ad9 o = ad o := fun o ho => (hgad9 o (by omega)).trans (hagT o ho)
  have hw : WH Γ YG 12 ad9 T6_21 s H L20 := hw
  refine g_putF (Y := YG) (o := 0) (ci := 6) (N := 17) (k := 12) (C := RX6) (T := TX6) (ty0 := tyX6) (τ := T6_22) rfl inT6 tyX6_ok nmX6 rfl (by decide) (by decide) q_476 rfl rfl hin rfl rfl rfl hc hw (by omega) rfl (en_srG (v := some 11) rfl lnC_st rfl (by decide) ⟨by decide, by decide⟩) dX6_init_86 (fun H L22 hw => ?_)
  have hRO : RO 12 T6_22 := RO_sr (o := 0) (k := 12) (r := 11) hRO (by omega)
  refine lv_aload_n hx hb dX6_init_89 rfl (lv_at hl 0 rfl) ?_
  refine g_newO (Y := YG) (ci := 3) (N := 17) (C := RX3) (T := TX3) (ty0 := tyX3) (M := 12) rfl inT3 tyX3_ok rfl (by decide) q_144 q_145 q_77 df_X3 rfl (lnC_sN _) rfl hRO hc hw (Nat.le_of_ble_eq_true rfl) (Nat.le_of_ble_eq_true rfl) dX6_init_90 (fun ad10 H hgad10 hw => ?_)
  have hRO : RO 13 T6_23 := RO_sN (n := 0) hRO
  have hl : lv_has ls 2 [(0, .ref (ad10 0))] := by rw [hgad10 0 (by omega)]; exact hl
  refine W.eq (g2 := F0 m (90 + 3) ls [.ref (ad10 12), .ref (ad10 0)]) (by rw [hgad10 0 (by omega)]) ?_
  have hagT : ∀ o, o < 1 → ad10 o = ad o := fun o ho => (hgad10 o (by omega)).trans (hagT o ho)
  have hw : WH Γ YG 13 ad10 T6_23 s H L22 := hw
  refine lv_dup hx hb dX6_init_93 rfl ?_
  refine g_initN (Y := YG) (M1 := 14) (k := 1) (mc := 1) (ms := 40) (o := 12) (As := []) (rest := [.ref (ad10 12), .ref (ad10 0)]) iw_X6_56 q_146 ⟨Nat.le_of_ble_eq_true rfl, Nat.le_of_ble_eq_true rfl, Nat.le_of_ble_eq_true rfl, Nat.le_of_ble_eq_true rfl⟩ hRO hc hw hl.1 (m_X3_init (M := 13) (post := fun u => u = T6_24) l 12 T6_23 ⟨rfl, by omega⟩ rfl (by unfold w_X3_init; intros; subst_vars; rfl)) rfl rfl (Nat.le_of_ble_eq_true rfl) dX6_init_94 (fun u_ ad11 H L24 e_ hgad11 hRO hw => ?_)
  subst e_
  have hl : lv_has ls 2 [(0, .ref (ad11 0))] := by rw [hgad11 0 (by omega)]; exact hl
  refine W.eq (g2 := F0 m (94 + 3) ls [.ref (ad11 12), .ref (ad11 0)]) (by rw [hgad11 12 (by omega), hgad11 0 (by omega)]) ?_
  have hagT : ∀ o, o < 1 → ad11 o = ad o := fun o ho => (hgad11 o (by omega)).trans (hagT o ho)
  refine g_putF (Y := YG) (o := 0) (ci := 6) (N := 17) (k := 14) (C := RX6) (T := TX6) (ty0 := tyX6) (τ := T6_25) rfl inT6 tyX6_ok nmX6 rfl (by decide) (by decide) q_478 rfl rfl hin rfl rfl rfl hc hw (by omega) rfl (en_srG (v := some 12) rfl lnC_st rfl (by decide) ⟨by decide, by decide⟩) dX6_init_97 (fun H L25 hw => ?_)
  have hRO : RO 14 T6_25 := RO_sr (o := 0) (k := 14) (r := 12) hRO (by omega)
  refine lv_aload_n hx hb dX6_init_100 rfl (lv_at hl 0 rfl) ?_
  refine g_newO (Y := YG) (ci := 3) (N := 17) (C := RX3) (T := TX3) (ty0 := tyX3) (M := 14) rfl inT3 tyX3_ok rfl (by decide) q_144 q_145 q_77 df_X3 rfl (lnC_sN _) rfl hRO hc hw (Nat.le_of_ble_eq_true rfl) (Nat.le_of_ble_eq_true rfl) dX6_init_101 (fun ad12 H hgad12 hw => ?_)
  have hRO : RO 15 T6_26 := RO_sN (n := 0) hRO
  have hl : lv_has ls 2 [(0, .ref (ad12 0))] := by rw [hgad12 0 (by omega)]; exact hl
  refine W.eq (g2 := F0 m (101 + 3) ls [.ref (ad12 14), .ref (ad12 0)]) (by rw [hgad12 0 (by omega)]) ?_
  have hagT : ∀ o, o < 1 → ad12 o = ad o := fun o ho => (hgad12 o (by omega)).trans (hagT o ho)
  have hw : WH Γ YG 15 ad12 T6_26 s H L25 := hw
  refine lv_dup hx hb dX6_init_104 rfl ?_
  refine g_initN (Y := YG) (M1 := 16) (k := 1) (mc := 1) (ms := 40) (o := 14) (As := []) (rest := [.ref (ad12 14), .ref (ad12 0)]) iw_X6_56 q_146 ⟨Nat.le_of_ble_eq_true rfl, Nat.le_of_ble_eq_true rfl, Nat.le_of_ble_eq_true rfl, Nat.le_of_ble_eq_true rfl⟩ hRO hc hw hl.1 (m_X3_init (M := 15) (post := fun u => u = T6_27) l 14 T6_26 ⟨rfl, by omega⟩ rfl (by unfold w_X3_init; intros; subst_vars; rfl)) rfl rfl (Nat.le_of_ble_eq_true rfl) dX6_init_105 (fun u_ ad13 H L27 e_ hgad13 hRO hw => ?_)
  subst e_
  have hl : lv_has ls 2 [(0, .ref (ad13 0))] := by rw [hgad13 0 (by omega)]; exact hl
  refine W.eq (g2 := F0 m (105 + 3) ls [.ref (ad13 14), .ref (ad13 0)]) (by rw [hgad13 14 (by omega), hgad13 0 (by omega)]) ?_
  have hagT : ∀ o, o < 1 → ad13 o = ad o := fun o ho => (hgad13 o (by omega)).trans (hagT o ho)
  refine g_putF (Y := YG) (o := 0) (ci := 6) (N := 17) (k := 15) (C := RX6) (T := TX6) (ty0 := tyX6) (τ := T6_28) rfl inT6 tyX6_ok nmX6 rfl (by decide) (by decide) q_479 rfl rfl hin rfl rfl rfl hc hw (by omega) rfl (en_srG (v := some 14) rfl lnC_st rfl (by decide) ⟨by decide, by decide⟩) dX6_init_108 (fun H L28 hw => ?_)
  have hRO : RO 16 T6_28 := RO_sr (o := 0) (k := 15) (r := 14) hRO (by omega)
  refine lv_aload_n hx hb dX6_init_111 rfl (lv_at hl 0 rfl) ?_
  refine g_newO (Y := YG) (ci := 0) (N := 3) (C := RX0) (T := TX0) (ty0 := tyX0) (M := 16) rfl inT0 tyX0_ok rfl (by decide) q_100 q_207 q_78 df_X0 rfl (lnC_sN _) rfl hRO hc hw (Nat.le_of_ble_eq_true rfl) (Nat.le_of_ble_eq_true rfl) dX6_init_112 (fun ad14 H hgad14 hw => ?_)
  have hRO : RO 17 T6_29 := RO_sN (n := 0) hRO
  have hl : lv_has ls 2 [(0, .ref (ad14 0))] := by rw [hgad14 0 (by omega)]; exact hl
  refine W.eq (g2 := F0 m (112 + 3) ls [.ref (ad14 16), .ref (ad14 0)]) (by rw [hgad14 0 (by omega)]) ?_
  have hagT : ∀ o, o < 1 → ad14 o = ad o := fun o ho => (hgad14 o (by omega)).trans (hagT o ho)
  have hw : WH Γ YG 17 ad14 T6_29 s H L28 := hw
  refine lv_dup hx hb dX6_init_115 rfl ?_
  refine g_initN (Y := YG) (M1 := 17) (k := 1) (mc := 0) (ms := 0) (o := 16) (As := []) (rest := [.ref (ad14 16), .ref (ad14 0)]) iw_X6_64 q_208 ⟨Nat.le_of_ble_eq_true rfl, Nat.le_of_ble_eq_true rfl, Nat.le_of_ble_eq_true rfl, Nat.le_of_ble_eq_true rfl⟩ hRO hc hw hl.1 (m_X0_init (M := 17) (post := fun u => u = T6_30) l 16 T6_29 ⟨rfl, by omega⟩  (by unfold w_X0_init; intros; subst_vars; rfl)) rfl rfl (Nat.le_of_ble_eq_true rfl) dX6_init_116 (fun u_ ad15 H L30 e_ hgad15 hRO hw => ?_)
  subst e_
  have hl : lv_has ls 2 [(0, .ref (ad15 0))] := by rw [hgad15 0 (by omega)]; exact hl
  refine W.eq (g2 := F0 m (116 + 3) ls [.ref (ad15 16), .ref (ad15 0)]) (by rw [hgad15 16 (by omega), hgad15 0 (by omega)]) ?_
  have hagT : ∀ o, o < 1 → ad15 o = ad o := fun o ho => (hgad15 o (by omega)).trans (hagT o ho)
  refine g_putF (Y := YG) (o := 0) (ci := 6) (N := 17) (k := 16) (C := RX6) (T := TX6) (ty0 := tyX6) (τ := T6_31) rfl inT6 tyX6_ok nmX6 rfl (by decide) (by decide) q_480 rfl rfl hin rfl rfl rfl hc hw (by omega) rfl (en_srG (v := some 16) rfl lnC_st rfl (by decide) ⟨by decide, by decide⟩) dX6_init_119 (fun H L31 hw => ?_)
  have hRO : RO 17 T6_31 := RO_sr (o := 0) (k := 16) (r := 16) hRO (by omega)
  refine lv_iconst (v := 0) hx hb dX6_init_122 (by decide) ?_
  refine lv_istore_n (lv' := [(1, .int 0), (0, .ref (ad15 0))]) hx hb dX6_init_123 rfl hl (by decide) rfl (fun ls hl => ?_)
  refine lv_iload_n hx hb dX6_init_124 rfl (lv_at hl 0 rfl) ?_
  refine lv_iconst (v := 4) hx hb dX6_init_125 (by decide) ?_
  refine lv_icmp_ge (tgt := 161) hx hb dX6_init_126 (by decide) (fun c => absurd c (by decide)) (fun _ => ?_)
  refine lv_aload_n hx hb dX6_init_129 rfl (lv_at hl 1 rfl) ?_
  refine g_get (Y := YG) (o := 0) (ci := 6) (N := 17) (k := 0) (C := RX6) (T := TX6) rfl inT6 rfl (by decide) (by decide) q_464 rfl hc hw (by omega) rfl dX6_init_130 ?_
  rw [show fv YG ad15 T6_31 6 0 0 = .ref (ad15 1) from by show va_rf (Option.map ad15 (gr T6_31 0 0)) = _; rw [show gr T6_31 0 0 = some 1 from rfl]; rfl]
  refine lv_iload_n hx hb dX6_init_133 rfl (lv_at hl 0 rfl) ?_
  refine g_newO (Y := YG) (ci := 1) (N := 1) (C := RX1) (T := TX1) (ty0 := tyX1) (M := 17) rfl inT1 tyX1_ok rfl (by decide) q_98 q_228 q_79 df_X1 rfl (lnC_sN _) rfl hRO hc hw (Nat.le_of_ble_eq_true rfl) (Nat.le_of_ble_eq_true rfl) dX6_init_134 (fun ad16 H hgad16 hw => ?_)
  have hRO : RO 18 T6_32 := RO_sN (n := 0) hRO
  have hl : lv_has ls 2 [(1, .int 0), (0, .ref (ad16 0))] := by rw [hgad16 0 (by omega)]; exact hl
  refine W.eq (g2 := F0 m (134 + 3) ls [.ref (ad16 17), .int 0, .ref (ad16 1)]) (by rw [hgad16 1 (by omega)]) ?_
  have hagT : ∀ o, o < 1 → ad16 o = ad o := fun o ho => (hgad16 o (by omega)).trans (hagT o ho)
  have hw : WH Γ YG 18 ad16 T6_32 s H L31 := hw
  refine lv_dup hx hb dX6_init_137 rfl ?_
  refine g_initN (Y := YG) (M1 := 19) (k := 1) (mc := 1) (ms := 5) (o := 17) (As := []) (rest := [.ref (ad16 17), .int 0, .ref (ad16 1)]) iw_X6_69 q_229 ⟨Nat.le_of_ble_eq_true rfl, Nat.le_of_ble_eq_true rfl, Nat.le_of_ble_eq_true rfl, Nat.le_of_ble_eq_true rfl⟩ hRO hc hw hl.1 (m_X1_init (M := 18) (post := fun u => u = T6_33) l 17 T6_32 ⟨rfl, by omega⟩ rfl (by unfold w_X1_init; intros; subst_vars; rfl)) rfl rfl (Nat.le_of_ble_eq_true rfl) dX6_init_138 (fun u_ ad17 H L33 e_ hgad17 hRO hw => ?_)
  subst e_
  have hl : lv_has ls 2 [(1, .int 0), (0, .ref (ad17 0))] := by rw [hgad17 0 (by omega)]; exact hl
  refine W.eq (g2 := F0 m (138 + 3) ls [.ref (ad17 17), .int 0, .ref (ad17 1)]) (by rw [hgad17 17 (by omega), hgad17 1 (by omega)]) ?_
  have hagT : ∀ o, o < 1 → ad17 o = ad o := fun o ho => (hgad17 o (by omega)).trans (hagT o ho)
  refine g_aastG (Y := YG) (kd := 60) (ci := 1) (k := 0) (r := 17) (o := 1) (n := 4) rfl lnC_st (by decide) (by decide) rfl rfl hc hw (by omega) rfl (by omega) rfl rfl (vp_in_lit (by decide)) (by decide) dX6_init_141 (fun σ_ H L34 e_ hw => ?_)
  subst e_
  have hRO : RO 19 T6_34 := RO_sr (o := 1) (k := 0) (r := 17) hRO (by omega)
  have hw : WH Γ YG 19 ad17 T6_34 s H L34 := hw
  refine lv_aload_n hx hb dX6_init_142 rfl (lv_at hl 1 rfl) ?_
  refine g_get (Y := YG) (o := 0) (ci := 6) (N := 17) (k := 10) (C := RX6) (T := TX6) rfl inT6 rfl (by decide) (by decide) q_474 rfl hc hw (by omega) rfl dX6_init_143 ?_
  rw [show fv YG ad17 T6_34 6 0 10 = .ref (ad17 10) from by show va_rf (Option.map ad17 (gr T6_34 0 10)) = _; rw [show gr T6_34 0 10 = some 10 from rfl]; rfl]
  refine lv_iload_n hx hb dX6_init_146 rfl (lv_at hl 0 rfl) ?_
  refine g_newO (Y := YG) (ci := 1) (N := 1) (C := RX1) (T := TX1) (ty0 := tyX1) (M := 19) rfl inT1 tyX1_ok rfl (by decide) q_98 q_228 q_79 df_X1 rfl (lnC_sN _) rfl hRO hc hw (Nat.le_of_ble_eq_true rfl) (Nat.le_of_ble_eq_true rfl) dX6_init_147 (fun ad18 H hgad18 hw => ?_)
  have hRO : RO 20 T6_35 := RO_sN (n := 0) hRO
  have hl : lv_has ls 2 [(1, .int 0), (0, .ref (ad18 0))] := by rw [hgad18 0 (by omega)]; exact hl
  refine W.eq (g2 := F0 m (147 + 3) ls [.ref (ad18 19), .int 0, .ref (ad18 10)]) (by rw [hgad18 10 (by omega)]) ?_
  have hagT : ∀ o, o < 1 → ad18 o = ad o := fun o ho => (hgad18 o (by omega)).trans (hagT o ho)
  have hw : WH Γ YG 20 ad18 T6_35 s H L34 := hw
  refine lv_dup hx hb dX6_init_150 rfl ?_
  refine g_initN (Y := YG) (M1 := 21) (k := 1) (mc := 1) (ms := 5) (o := 19) (As := []) (rest := [.ref (ad18 19), .int 0, .ref (ad18 10)]) iw_X6_69 q_229 ⟨Nat.le_of_ble_eq_true rfl, Nat.le_of_ble_eq_true rfl, Nat.le_of_ble_eq_true rfl, Nat.le_of_ble_eq_true rfl⟩ hRO hc hw hl.1 (m_X1_init (M := 20) (post := fun u => u = T6_36) l 19 T6_35 ⟨rfl, by omega⟩ rfl (by unfold w_X1_init; intros; subst_vars; rfl)) rfl rfl (Nat.le_of_ble_eq_true rfl) dX6_init_151 (fun u_ ad19 H L36 e_ hgad19 hRO hw => ?_)
  subst e_
  have hl : lv_has ls 2 [(1, .int 0), (0, .ref (ad19 0))] := by rw [hgad19 0 (by omega)]; exact hl
  refine W.eq (g2 := F0 m (151 + 3) ls [.ref (ad19 19), .int 0, .ref (ad19 10)]) (by rw [hgad19 19 (by omega), hgad19 10 (by omega)]) ?_
  have hagT : ∀ o, o < 1 → ad19 o = ad o := fun o ho => (hgad19 o (by omega)).trans (hagT o ho)
  refine g_aastG (Y := YG) (kd := 60) (ci := 1) (k := 0) (r := 19) (o := 10) (n := 4) rfl lnC_st (by decide) (by decide) rfl rfl hc hw (by omega) rfl (by omega) rfl rfl (vp_in_lit (by decide)) (by decide) dX6_init_154 (fun σ_ H L37 e_ hw => ?_)
  subst e_
  have hRO : RO 21 T6_37 := RO_sr (o := 10) (k := 0) (r := 19) hRO (by omega)
  have hw : WH Γ YG 21 ad19 T6_37 s H L37 := hw
  refine lv_iinc (v := 1) (lv' := [(1, .int 1), (0, .ref (ad19 0))]) hx hb dX6_init_155 hl (k := 0) rfl (by decide) (by decide) rfl (fun ls hl => ?_)
  refine lv_goto (tgt := 124) hx hb dX6_init_158 (by decide) ?_
  refine lv_iload_n hx hb dX6_init_124 rfl (lv_at hl 0 rfl) ?_
  refine lv_iconst (v := 4) hx hb dX6_init_125 (by decide) ?_
  refine lv_icmp_ge (tgt := 161) hx hb dX6_init_126 (by decide) (fun c => absurd c (by decide)) (fun _ => ?_)
  refine lv_aload_n hx hb dX6_init_129 rfl (lv_at hl 1 rfl) ?_
  refine g_get (Y := YG) (o := 0) (ci := 6) (N := 17) (k := 0) (C := RX6) (T := TX6) rfl inT6 rfl (by decide) (by decide) q_464 rfl hc hw (by omega) rfl dX6_init_130 ?_
  rw [show fv YG ad19 T6_37 6 0 0 = .ref (ad19 1) from by show va_rf (Option.map ad19 (gr T6_37 0 0)) = _; rw [show gr T6_37 0 0 = some 1 from rfl]; rfl]
  refine lv_iload_n hx hb dX6_init_133 rfl (lv_at hl 0 rfl) ?_
  refine g_newO (Y := YG) (ci := 1) (N := 1) (C := RX1) (T := TX1) (ty0 := tyX1) (M := 21) rfl inT1 tyX1_ok rfl (by decide) q_98 q_228 q_79 df_X1 rfl (lnC_sN _) rfl hRO hc hw (Nat.le_of_ble_eq_true rfl) (Nat.le_of_ble_eq_true rfl) dX6_init_134 (fun ad20 H hgad20 hw => ?_)
  have hRO : RO 22 T6_38 := RO_sN (n := 0) hRO
  have hl : lv_has ls 2 [(1, .int 1), (0, .ref (ad20 0))] := by rw [hgad20 0 (by omega)]; exact hl
  refine W.eq (g2 := F0 m (134 + 3) ls [.ref (ad20 21), .int 1, .ref (ad20 1)]) (by rw [hgad20 1 (by omega)]) ?_
  have hagT : ∀ o, o < 1 → ad20 o = ad o := fun o ho => (hgad20 o (by omega)).trans (hagT o ho)
  have hw : WH Γ YG 22 ad20 T6_38 s H L37 := hw
  refine lv_dup hx hb dX6_init_137 rfl ?_
  refine g_initN (Y := YG) (M1 := 23) (k := 1) (mc := 1) (ms := 5) (o := 21) (As := []) (rest := [.ref (ad20 21), .int 1, .ref (ad20 1)]) iw_X6_69 q_229 ⟨Nat.le_of_ble_eq_true rfl, Nat.le_of_ble_eq_true rfl, Nat.le_of_ble_eq_true rfl, Nat.le_of_ble_eq_true rfl⟩ hRO hc hw hl.1 (m_X1_init (M := 22) (post := fun u => u = T6_39) l 21 T6_38 ⟨rfl, by omega⟩ rfl (by unfold w_X1_init; intros; subst_vars; rfl)) rfl rfl (Nat.le_of_ble_eq_true rfl) dX6_init_138 (fun u_ ad21 H L39 e_ hgad21 hRO hw => ?_)
  subst e_
  have hl : lv_has ls 2 [(1, .int 1), (0, .ref (ad21 0))] := by rw [hgad21 0 (by omega)]; exact hl
  refine W.eq (g2 := F0 m (138 + 3) ls [.ref (ad21 21), .int 1, .ref (ad21 1)]) (by rw [hgad21 21 (by omega), hgad21 1 (by omega)]) ?_
  have hagT : ∀ o, o < 1 → ad21 o = ad o := fun o ho => (hgad21 o (by omega)).trans (hagT o ho)
  refine g_aastG (Y := YG) (kd := 60) (ci := 1) (k := 1) (r := 21) (o := 1) (n := 4) rfl lnC_st (by decide) (by decide) rfl rfl hc hw (by omega) rfl (by omega) rfl rfl (vp_in_lit (by decide)) (by decide) dX6_init_141 (fun σ_ H L40 e_ hw => ?_)
  subst e_
  have hRO : RO 23 T6_40 := RO_sr (o := 1) (k := 1) (r := 21) hRO (by omega)
  have hw : WH Γ YG 23 ad21 T6_40 s H L40 := hw
  refine lv_aload_n hx hb dX6_init_142 rfl (lv_at hl 1 rfl) ?_
  refine g_get (Y := YG) (o := 0) (ci := 6) (N := 17) (k := 10) (C := RX6) (T := TX6) rfl inT6 rfl (by decide) (by decide) q_474 rfl hc hw (by omega) rfl dX6_init_143 ?_
  rw [show fv YG ad21 T6_40 6 0 10 = .ref (ad21 10) from by show va_rf (Option.map ad21 (gr T6_40 0 10)) = _; rw [show gr T6_40 0 10 = some 10 from rfl]; rfl]
  refine lv_iload_n hx hb dX6_init_146 rfl (lv_at hl 0 rfl) ?_
  refine g_newO (Y := YG) (ci := 1) (N := 1) (C := RX1) (T := TX1) (ty0 := tyX1) (M := 23) rfl inT1 tyX1_ok rfl (by decide) q_98 q_228 q_79 df_X1 rfl (lnC_sN _) rfl hRO hc hw (Nat.le_of_ble_eq_true rfl) (Nat.le_of_ble_eq_true rfl) dX6_init_147 (fun ad22 H hgad22 hw => ?_)
  have hRO : RO 24 T6_41 := RO_sN (n := 0) hRO
  have hl : lv_has ls 2 [(1, .int 1), (0, .ref (ad22 0))] := by rw [hgad22 0 (by omega)]; exact hl
  refine W.eq (g2 := F0 m (147 + 3) ls [.ref (ad22 23), .int 1, .ref (ad22 10)]) (by rw [hgad22 10 (by omega)]) ?_
  have hagT : ∀ o, o < 1 → ad22 o = ad o := fun o ho => (hgad22 o (by omega)).trans (hagT o ho)
  have hw : WH Γ YG 24 ad22 T6_41 s H L40 := hw
  refine lv_dup hx hb dX6_init_150 rfl ?_
  refine g_initN (Y := YG) (M1 := 25) (k := 1) (mc := 1) (ms := 5) (o := 23) (As := []) (rest := [.ref (ad22 23), .int 1, .ref (ad22 10)]) iw_X6_69 q_229 ⟨Nat.le_of_ble_eq_true rfl, Nat.le_of_ble_eq_true rfl, Nat.le_of_ble_eq_true rfl, Nat.le_of_ble_eq_true rfl⟩ hRO hc hw hl.1 (m_X1_init (M := 24) (post := fun u => u = T6_42) l 23 T6_41 ⟨rfl, by omega⟩ rfl (by unfold w_X1_init; intros; subst_vars; rfl)) rfl rfl (Nat.le_of_ble_eq_true rfl) dX6_init_151 (fun u_ ad23 H L42 e_ hgad23 hRO hw => ?_)
  subst e_
  have hl : lv_has ls 2 [(1, .int 1), (0, .ref (ad23 0))] := by rw [hgad23 0 (by omega)]; exact hl
  refine W.eq (g2 := F0 m (151 + 3) ls [.ref (ad23 23), .int 1, .ref (ad23 10)]) (by rw [hgad23 23 (by omega), hgad23 10 (by omega)]) ?_
  have hagT : ∀ o, o < 1 → ad23 o = ad o := fun o ho => (hgad23 o (by omega)).trans (hagT o ho)
  refine g_aastG (Y := YG) (kd := 60) (ci := 1) (k := 1) (r := 23) (o := 10) (n := 4) rfl lnC_st (by decide) (by decide) rfl rfl hc hw (by omega) rfl (by omega) rfl rfl (vp_in_lit (by decide)) (by decide) dX6_init_154 (fun σ_ H L43 e_ hw => ?_)
  subst e_
  have hRO : RO 25 T6_43 := RO_sr (o := 10) (k := 1) (r := 23) hRO (by omega)
  have hw : WH Γ YG 25 ad23 T6_43 s H L43 := hw
  refine lv_iinc (v := 2) (lv' := [(1, .int 2), (0, .ref (ad23 0))]) hx hb dX6_init_155 hl (k := 0) rfl (by decide) (by decide) rfl (fun ls hl => ?_)
  refine lv_goto (tgt := 124) hx hb dX6_init_158 (by decide) ?_
  refine lv_iload_n hx hb dX6_init_124 rfl (lv_at hl 0 rfl) ?_
  refine lv_iconst (v := 4) hx hb dX6_init_125 (by decide) ?_
  refine lv_icmp_ge (tgt := 161) hx hb dX6_init_126 (by decide) (fun c => absurd c (by decide)) (fun _ => ?_)
  refine lv_aload_n hx hb dX6_init_129 rfl (lv_at hl 1 rfl) ?_
  refine g_get (Y := YG) (o := 0) (ci := 6) (N := 17) (k := 0) (C := RX6) (T := TX6) rfl inT6 rfl (by decide) (by decide) q_464 rfl hc hw (by omega) rfl dX6_init_130 ?_
  rw [show fv YG ad23 T6_43 6 0 0 = .ref (ad23 1) from by show va_rf (Option.map ad23 (gr T6_43 0 0)) = _; rw [show gr T6_43 0 0 = some 1 from rfl]; rfl]
  refine lv_iload_n hx hb dX6_init_133 rfl (lv_at hl 0 rfl) ?_
  refine g_newO (Y := YG) (ci := 1) (N := 1) (C := RX1) (T := TX1) (ty0 := tyX1) (M := 25) rfl inT1 tyX1_ok rfl (by decide) q_98 q_228 q_79 df_X1 rfl (lnC_sN _) rfl hRO hc hw (Nat.le_of_ble_eq_true rfl) (Nat.le_of_ble_eq_true rfl) dX6_init_134 (fun ad24 H hgad24 hw => ?_)
  have hRO : RO 26 T6_44 := RO_sN (n := 0) hRO
  have hl : lv_has ls 2 [(1, .int 2), (0, .ref (ad24 0))] := by rw [hgad24 0 (by omega)]; exact hl
  refine W.eq (g2 := F0 m (134 + 3) ls [.ref (ad24 25), .int 2, .ref (ad24 1)]) (by rw [hgad24 1 (by omega)]) ?_
  have hagT : ∀ o, o < 1 → ad24 o = ad o := fun o ho => (hgad24 o (by omega)).trans (hagT o ho)
  have hw : WH Γ YG 26 ad24 T6_44 s H L43 := hw
  refine lv_dup hx hb dX6_init_137 rfl ?_
  refine g_initN (Y := YG) (M1 := 27) (k := 1) (mc := 1) (ms := 5) (o := 25) (As := []) (rest := [.ref (ad24 25), .int 2, .ref (ad24 1)]) iw_X6_69 q_229 ⟨Nat.le_of_ble_eq_true rfl, Nat.le_of_ble_eq_true rfl, Nat.le_of_ble_eq_true rfl, Nat.le_of_ble_eq_true rfl⟩ hRO hc hw hl.1 (m_X1_init (M := 26) (post := fun u => u = T6_45) l 25 T6_44 ⟨rfl, by omega⟩ rfl (by unfold w_X1_init; intros; subst_vars; rfl)) rfl rfl (Nat.le_of_ble_eq_true rfl) dX6_init_138 (fun u_ ad25 H L45 e_ hgad25 hRO hw => ?_)
  subst e_
  have hl : lv_has ls 2 [(1, .int 2), (0, .ref (ad25 0))] := by rw [hgad25 0 (by omega)]; exact hl
  refine W.eq (g2 := F0 m (138 + 3) ls [.ref (ad25 25), .int 2, .ref (ad25 1)]) (by rw [hgad25 25 (by omega), hgad25 1 (by omega)]) ?_
  have hagT : ∀ o, o < 1 → ad25 o = ad o := fun o ho => (hgad25 o (by omega)).trans (hagT o ho)
  refine g_aastG (Y := YG) (kd := 60) (ci := 1) (k := 2) (r := 25) (o := 1) (n := 4) rfl lnC_st (by decide) (by decide) rfl rfl hc hw (by omega) rfl (by omega) rfl rfl (vp_in_lit (by decide)) (by decide) dX6_init_141 (fun σ_ H L46 e_ hw => ?_)
  subst e_
  have hRO : RO 27 T6_46 := RO_sr (o := 1) (k := 2) (r := 25) hRO (by omega)
  have hw : WH Γ YG 27 ad25 T6_46 s H L46 := hw
  refine lv_aload_n hx hb dX6_init_142 rfl (lv_at hl 1 rfl) ?_
  refine g_get (Y := YG) (o := 0) (ci := 6) (N := 17) (k := 10) (C := RX6) (T := TX6) rfl inT6 rfl (by decide) (by decide) q_474 rfl hc hw (by omega) rfl dX6_init_143 ?_
  rw [show fv YG ad25 T6_46 6 0 10 = .ref (ad25 10) from by show va_rf (Option.map ad25 (gr T6_46 0 10)) = _; rw [show gr T6_46 0 10 = some 10 from rfl]; rfl]
  refine lv_iload_n hx hb dX6_init_146 rfl (lv_at hl 0 rfl) ?_
  refine g_newO (Y := YG) (ci := 1) (N := 1) (C := RX1) (T := TX1) (ty0 := tyX1) (M := 27) rfl inT1 tyX1_ok rfl (by decide) q_98 q_228 q_79 df_X1 rfl (lnC_sN _) rfl hRO hc hw (Nat.le_of_ble_eq_true rfl) (Nat.le_of_ble_eq_true rfl) dX6_init_147 (fun ad26 H hgad26 hw => ?_)
  have hRO : RO 28 T6_47 := RO_sN (n := 0) hRO
  have hl : lv_has ls 2 [(1, .int 2), (0, .ref (ad26 0))] := by rw [hgad26 0 (by omega)]; exact hl
  refine W.eq (g2 := F0 m (147 + 3) ls [.ref (ad26 27), .int 2, .ref (ad26 10)]) (by rw [hgad26 10 (by omega)]) ?_
  have hagT : ∀ o, o < 1 → ad26 o = ad o := fun o ho => (hgad26 o (by omega)).trans (hagT o ho)
  have hw : WH Γ YG 28 ad26 T6_47 s H L46 := hw
  refine lv_dup hx hb dX6_init_150 rfl ?_
  refine g_initN (Y := YG) (M1 := 29) (k := 1) (mc := 1) (ms := 5) (o := 27) (As := []) (rest := [.ref (ad26 27), .int 2, .ref (ad26 10)]) iw_X6_69 q_229 ⟨Nat.le_of_ble_eq_true rfl, Nat.le_of_ble_eq_true rfl, Nat.le_of_ble_eq_true rfl, Nat.le_of_ble_eq_true rfl⟩ hRO hc hw hl.1 (m_X1_init (M := 28) (post := fun u => u = T6_48) l 27 T6_47 ⟨rfl, by omega⟩ rfl (by unfold w_X1_init; intros; subst_vars; rfl)) rfl rfl (Nat.le_of_ble_eq_true rfl) dX6_init_151 (fun u_ ad27 H L48 e_ hgad27 hRO hw => ?_)
  subst e_
  have hl : lv_has ls 2 [(1, .int 2), (0, .ref (ad27 0))] := by rw [hgad27 0 (by omega)]; exact hl
  refine W.eq (g2 := F0 m (151 + 3) ls [.ref (ad27 27), .int 2, .ref (ad27 10)]) (by rw [hgad27 27 (by omega), hgad27 10 (by omega)]) ?_
  have hagT : ∀ o, o < 1 → ad27 o = ad o := fun o ho => (hgad27 o (by omega)).trans (hagT o ho)
  refine g_aastG (Y := YG) (kd := 60) (ci := 1) (k := 2) (r := 27) (o := 10) (n := 4) rfl lnC_st (by decide) (by decide) rfl rfl hc hw (by omega) rfl (by omega) rfl rfl (vp_in_lit (by decide)) (by decide) dX6_init_154 (fun σ_ H L49 e_ hw => ?_)
  subst e_
  have hRO : RO 29 T6_49 := RO_sr (o := 10) (k := 2) (r := 27) hRO (by omega)
  have hw : WH Γ YG 29 ad27 T6_49 s H L49 := hw
  refine lv_iinc (v := 3) (lv' := [(1, .int 3), (0, .ref (ad27 0))]) hx hb dX6_init_155 hl (k := 0) rfl (by decide) (by decide) rfl (fun ls hl => ?_)
  refine lv_goto (tgt := 124) hx hb dX6_init_158 (by decide) ?_
  refine lv_iload_n hx hb dX6_init_124 rfl (lv_at hl 0 rfl) ?_
  refine lv_iconst (v := 4) hx hb dX6_init_125 (by decide) ?_
  refine lv_icmp_ge (tgt := 161) hx hb dX6_init_126 (by decide) (fun c => absurd c (by decide)) (fun _ => ?_)
  refine lv_aload_n hx hb dX6_init_129 rfl (lv_at hl 1 rfl) ?_
  refine g_get (Y := YG) (o := 0) (ci := 6) (N := 17) (k := 0) (C := RX6) (T := TX6) rfl inT6 rfl (by decide) (by decide) q_464 rfl hc hw (by omega) rfl dX6_init_130 ?_
  rw [show fv YG ad27 T6_49 6 0 0 = .ref (ad27 1) from by show va_rf (Option.map ad27 (gr T6_49 0 0)) = _; rw [show gr T6_49 0 0 = some 1 from rfl]; rfl]
  refine lv_iload_n hx hb dX6_init_133 rfl (lv_at hl 0 rfl) ?_
  refine g_newO (Y := YG) (ci := 1) (N := 1) (C := RX1) (T := TX1) (ty0 := tyX1) (M := 29) rfl inT1 tyX1_ok rfl (by decide) q_98 q_228 q_79 df_X1 rfl (lnC_sN _) rfl hRO hc hw (Nat.le_of_ble_eq_true rfl) (Nat.le_of_ble_eq_true rfl) dX6_init_134 (fun ad28 H hgad28 hw => ?_)
  have hRO : RO 30 T6_50 := RO_sN (n := 0) hRO
  have hl : lv_has ls 2 [(1, .int 3), (0, .ref (ad28 0))] := by rw [hgad28 0 (by omega)]; exact hl
  refine W.eq (g2 := F0 m (134 + 3) ls [.ref (ad28 29), .int 3, .ref (ad28 1)]) (by rw [hgad28 1 (by omega)]) ?_
  have hagT : ∀ o, o < 1 → ad28 o = ad o := fun o ho => (hgad28 o (by omega)).trans (hagT o ho)
  have hw : WH Γ YG 30 ad28 T6_50 s H L49 := hw
  refine lv_dup hx hb dX6_init_137 rfl ?_
  refine g_initN (Y := YG) (M1 := 31) (k := 1) (mc := 1) (ms := 5) (o := 29) (As := []) (rest := [.ref (ad28 29), .int 3, .ref (ad28 1)]) iw_X6_69 q_229 ⟨Nat.le_of_ble_eq_true rfl, Nat.le_of_ble_eq_true rfl, Nat.le_of_ble_eq_true rfl, Nat.le_of_ble_eq_true rfl⟩ hRO hc hw hl.1 (m_X1_init (M := 30) (post := fun u => u = T6_51) l 29 T6_50 ⟨rfl, by omega⟩ rfl (by unfold w_X1_init; intros; subst_vars; rfl)) rfl rfl (Nat.le_of_ble_eq_true rfl) dX6_init_138 (fun u_ ad29 H L51 e_ hgad29 hRO hw => ?_)
  subst e_
  have hl : lv_has ls 2 [(1, .int 3), (0, .ref (ad29 0))] := by rw [hgad29 0 (by omega)]; exact hl
  refine W.eq (g2 := F0 m (138 + 3) ls [.ref (ad29 29), .int 3, .ref (ad29 1)]) (by rw [hgad29 29 (by omega), hgad29 1 (by omega)]) ?_
  have hagT : ∀ o, o < 1 → ad29 o = ad o := fun o ho => (hgad29 o (by omega)).trans (hagT o ho)
  refine g_aastG (Y := YG) (kd := 60) (ci := 1) (k := 3) (r := 29) (o := 1) (n := 4) rfl lnC_st (by decide) (by decide) rfl rfl hc hw (by omega) rfl (by omega) rfl rfl (vp_in_lit (by decide)) (by decide) dX6_init_141 (fun σ_ H L52 e_ hw => ?_)
  subst e_
  have hRO : RO 31 T6_52 := RO_sr (o := 1) (k := 3) (r := 29) hRO (by omega)
  have hw : WH Γ YG 31 ad29 T6_52 s H L52 := hw
  refine lv_aload_n hx hb dX6_init_142 rfl (lv_at hl 1 rfl) ?_
  refine g_get (Y := YG) (o := 0) (ci := 6) (N := 17) (k := 10) (C := RX6) (T := TX6) rfl inT6 rfl (by decide) (by decide) q_474 rfl hc hw (by omega) rfl dX6_init_143 ?_
  rw [show fv YG ad29 T6_52 6 0 10 = .ref (ad29 10) from by show va_rf (Option.map ad29 (gr T6_52 0 10)) = _; rw [show gr T6_52 0 10 = some 10 from rfl]; rfl]
  refine lv_iload_n hx hb dX6_init_146 rfl (lv_at hl 0 rfl) ?_
  refine g_newO (Y := YG) (ci := 1) (N := 1) (C := RX1) (T := TX1) (ty0 := tyX1) (M := 31) rfl inT1 tyX1_ok rfl (by decide) q_98 q_228 q_79 df_X1 rfl (lnC_sN _) rfl hRO hc hw (Nat.le_of_ble_eq_true rfl) (Nat.le_of_ble_eq_true rfl) dX6_init_147 (fun ad30 H hgad30 hw => ?_)
  have hRO : RO 32 T6_53 := RO_sN (n := 0) hRO
  have hl : lv_has ls 2 [(1, .int 3), (0, .ref (ad30 0))] := by rw [hgad30 0 (by omega)]; exact hl
  refine W.eq (g2 := F0 m (147 + 3) ls [.ref (ad30 31), .int 3, .ref (ad30 10)]) (by rw [hgad30 10 (by omega)]) ?_
  have hagT : ∀ o, o < 1 → ad30 o = ad o := fun o ho => (hgad30 o (by omega)).trans (hagT o ho)
  have hw : WH Γ YG 32 ad30 T6_53 s H L52 := hw
  refine lv_dup hx hb dX6_init_150 rfl ?_
  refine g_initN (Y := YG) (M1 := 33) (k := 1) (mc := 1) (ms := 5) (o := 31) (As := []) (rest := [.ref (ad30 31), .int 3, .ref (ad30 10)]) iw_X6_69 q_229 ⟨Nat.le_of_ble_eq_true rfl, Nat.le_of_ble_eq_true rfl, Nat.le_of_ble_eq_true rfl, Nat.le_of_ble_eq_true rfl⟩ hRO hc hw hl.1 (m_X1_init (M := 32) (post := fun u => u = T6_54) l 31 T6_53 ⟨rfl, by omega⟩ rfl (by unfold w_X1_init; intros; subst_vars; rfl)) rfl rfl (Nat.le_of_ble_eq_true rfl) dX6_init_151 (fun u_ ad31 H L54 e_ hgad31 hRO hw => ?_)
  subst e_
  have hl : lv_has ls 2 [(1, .int 3), (0, .ref (ad31 0))] := by rw [hgad31 0 (by omega)]; exact hl
  refine W.eq (g2 := F0 m (151 + 3) ls [.ref (ad31 31), .int 3, .ref (ad31 10)]) (by rw [hgad31 31 (by omega), hgad31 10 (by omega)]) ?_
  have hagT : ∀ o, o < 1 → ad31 o = ad o := fun o ho => (hgad31 o (by omega)).trans (hagT o ho)
  refine g_aastG (Y := YG) (kd := 60) (ci := 1) (k := 3) (r := 31) (o := 10) (n := 4) rfl lnC_st (by decide) (by decide) rfl rfl hc hw (by omega) rfl (by omega) rfl rfl (vp_in_lit (by decide)) (by decide) dX6_init_154 (fun σ_ H L55 e_ hw => ?_)
  subst e_
  have hRO : RO 33 T6_55 := RO_sr (o := 10) (k := 3) (r := 31) hRO (by omega)
  have hw : WH Γ YG 33 ad31 T6_55 s H L55 := hw
  refine lv_iinc (v := 4) (lv' := [(1, .int 4), (0, .ref (ad31 0))]) hx hb dX6_init_155 hl (k := 0) rfl (by decide) (by decide) rfl (fun ls hl => ?_)
  refine lv_goto (tgt := 124) hx hb dX6_init_158 (by decide) ?_
  refine lv_iload_n hx hb dX6_init_124 rfl (lv_at hl 0 rfl) ?_
  refine lv_iconst (v := 4) hx hb dX6_init_125 (by decide) ?_
  refine lv_icmp_ge (tgt := 161) hx hb dX6_init_126 (by decide) (fun _ => ?_) (fun c => absurd (by decide) c)
  refine lv_iconst (v := 0) hx hb dX6_init_161 (by decide) ?_
  refine lv_istore_n (lv' := [(1, .int 0), (0, .ref (ad31 0))]) hx hb dX6_init_162 rfl hl (by decide) rfl (fun ls hl => ?_)
  refine lv_iload_n hx hb dX6_init_163 rfl (lv_at hl 0 rfl) ?_
  refine lv_bipush (v := 12) hx hb dX6_init_164 (by decide) ?_
  refine lv_icmp_ge (tgt := 188) hx hb dX6_init_166 (by decide) (fun c => absurd c (by decide)) (fun _ => ?_)
  refine lv_aload_n hx hb dX6_init_169 rfl (lv_at hl 1 rfl) ?_
  refine g_get (Y := YG) (o := 0) (ci := 6) (N := 17) (k := 2) (C := RX6) (T := TX6) rfl inT6 rfl (by decide) (by decide) q_466 rfl hc hw (by omega) rfl dX6_init_170 ?_
  rw [show fv YG ad31 T6_55 6 0 2 = .ref (ad31 2) from by show va_rf (Option.map ad31 (gr T6_55 0 2)) = _; rw [show gr T6_55 0 2 = some 2 from rfl]; rfl]
  refine lv_iload_n hx hb dX6_init_173 rfl (lv_at hl 0 rfl) ?_
  refine g_newO (Y := YG) (ci := 0) (N := 3) (C := RX0) (T := TX0) (ty0 := tyX0) (M := 33) rfl inT0 tyX0_ok rfl (by decide) q_100 q_207 q_78 df_X0 rfl (lnC_sN _) rfl hRO hc hw (Nat.le_of_ble_eq_true rfl) (Nat.le_of_ble_eq_true rfl) dX6_init_174 (fun ad32 H hgad32 hw => ?_)
  have hRO : RO 34 T6_56 := RO_sN (n := 0) hRO
  have hl : lv_has ls 2 [(1, .int 0), (0, .ref (ad32 0))] := by rw [hgad32 0 (by omega)]; exact hl
  refine W.eq (g2 := F0 m (174 + 3) ls [.ref (ad32 33), .int 0, .ref (ad32 2)]) (by rw [hgad32 2 (by omega)]) ?_
  have hagT : ∀ o, o < 1 → ad32 o = ad o := fun o ho => (hgad32 o (by omega)).trans (hagT o ho)
  have hw : WH Γ YG 34 ad32 T6_56 s H L55 := hw
  refine lv_dup hx hb dX6_init_177 rfl ?_
  refine g_initN (Y := YG) (M1 := 34) (k := 1) (mc := 0) (ms := 0) (o := 33) (As := []) (rest := [.ref (ad32 33), .int 0, .ref (ad32 2)]) iw_X6_64 q_208 ⟨Nat.le_of_ble_eq_true rfl, Nat.le_of_ble_eq_true rfl, Nat.le_of_ble_eq_true rfl, Nat.le_of_ble_eq_true rfl⟩ hRO hc hw hl.1 (m_X0_init (M := 34) (post := fun u => u = T6_57) l 33 T6_56 ⟨rfl, by omega⟩  (by unfold w_X0_init; intros; subst_vars; rfl)) rfl rfl (Nat.le_of_ble_eq_true rfl) dX6_init_178 (fun u_ ad33 H L57 e_ hgad33 hRO hw => ?_)
  subst e_
  have hl : lv_has ls 2 [(1, .int 0), (0, .ref (ad33 0))] := by rw [hgad33 0 (by omega)]; exact hl
  refine W.eq (g2 := F0 m (178 + 3) ls [.ref (ad33 33), .int 0, .ref (ad33 2)]) (by rw [hgad33 33 (by omega), hgad33 2 (by omega)]) ?_
  have hagT : ∀ o, o < 1 → ad33 o = ad o := fun o ho => (hgad33 o (by omega)).trans (hagT o ho)
  refine g_aastG (Y := YG) (kd := 61) (ci := 0) (k := 0) (r := 33) (o := 2) (n := 12) rfl lnC_st (by decide) (by decide) rfl rfl hc hw (by omega) rfl (by omega) rfl rfl (vp_in_lit (by decide)) (by decide) dX6_init_181 (fun σ_ H L58 e_ hw => ?_)
  subst e_
  have hRO : RO 34 T6_58 := RO_sr (o := 2) (k := 0) (r := 33) hRO (by omega)
  have hw : WH Γ YG 34 ad33 T6_58 s H L58 := hw
  refine lv_iinc (v := 1) (lv' := [(1, .int 1), (0, .ref (ad33 0))]) hx hb dX6_init_182 hl (k := 0) rfl (by decide) (by decide) rfl (fun ls hl => ?_)
  refine lv_goto (tgt := 163) hx hb dX6_init_185 (by decide) ?_
  refine lv_iload_n hx hb dX6_init_163 rfl (lv_at hl 0 rfl) ?_
  refine lv_bipush (v := 12) hx hb dX6_init_164 (by decide) ?_
  refine lv_icmp_ge (tgt := 188) hx hb dX6_init_166 (by decide) (fun c => absurd c (by decide)) (fun _ => ?_)
  refine lv_aload_n hx hb dX6_init_169 rfl (lv_at hl 1 rfl) ?_
  refine g_get (Y := YG) (o := 0) (ci := 6) (N := 17) (k := 2) (C := RX6) (T := TX6) rfl inT6 rfl (by decide) (by decide) q_466 rfl hc hw (by omega) rfl dX6_init_170 ?_
  rw [show fv YG ad33 T6_58 6 0 2 = .ref (ad33 2) from by show va_rf (Option.map ad33 (gr T6_58 0 2)) = _; rw [show gr T6_58 0 2 = some 2 from rfl]; rfl]
  refine lv_iload_n hx hb dX6_init_173 rfl (lv_at hl 0 rfl) ?_
  refine g_newO (Y := YG) (ci := 0) (N := 3) (C := RX0) (T := TX0) (ty0 := tyX0) (M := 34) rfl inT0 tyX0_ok rfl (by decide) q_100 q_207 q_78 df_X0 rfl (lnC_sN _) rfl hRO hc hw (Nat.le_of_ble_eq_true rfl) (Nat.le_of_ble_eq_true rfl) dX6_init_174 (fun ad34 H hgad34 hw => ?_)
  have hRO : RO 35 T6_59 := RO_sN (n := 0) hRO
  have hl : lv_has ls 2 [(1, .int 1), (0, .ref (ad34 0))] := by rw [hgad34 0 (by omega)]; exact hl
  refine W.eq (g2 := F0 m (174 + 3) ls [.ref (ad34 34), .int 1, .ref (ad34 2)]) (by rw [hgad34 2 (by omega)]) ?_
  have hagT : ∀ o, o < 1 → ad34 o = ad o := fun o ho => (hgad34 o (by omega)).trans (hagT o ho)
  have hw : WH Γ YG 35 ad34 T6_59 s H L58 := hw
  refine lv_dup hx hb dX6_init_177 rfl ?_
  refine g_initN (Y := YG) (M1 := 35) (k := 1) (mc := 0) (ms := 0) (o := 34) (As := []) (rest := [.ref (ad34 34), .int 1, .ref (ad34 2)]) iw_X6_64 q_208 ⟨Nat.le_of_ble_eq_true rfl, Nat.le_of_ble_eq_true rfl, Nat.le_of_ble_eq_true rfl, Nat.le_of_ble_eq_true rfl⟩ hRO hc hw hl.1 (m_X0_init (M := 35) (post := fun u => u = T6_60) l 34 T6_59 ⟨rfl, by omega⟩  (by unfold w_X0_init; intros; subst_vars; rfl)) rfl rfl (Nat.le_of_ble_eq_true rfl) dX6_init_178 (fun u_ ad35 H L60 e_ hgad35 hRO hw => ?_)
  subst e_
  have hl : lv_has ls 2 [(1, .int 1), (0, .ref (ad35 0))] := by rw [hgad35 0 (by omega)]; exact hl
  refine W.eq (g2 := F0 m (178 + 3) ls [.ref (ad35 34), .int 1, .ref (ad35 2)]) (by rw [hgad35 34 (by omega), hgad35 2 (by omega)]) ?_
  have hagT : ∀ o, o < 1 → ad35 o = ad o := fun o ho => (hgad35 o (by omega)).trans (hagT o ho)
  refine g_aastG (Y := YG) (kd := 61) (ci := 0) (k := 1) (r := 34) (o := 2) (n := 12) rfl lnC_st (by decide) (by decide) rfl rfl hc hw (by omega) rfl (by omega) rfl rfl (vp_in_lit (by decide)) (by decide) dX6_init_181 (fun σ_ H L61 e_ hw => ?_)
  subst e_
  have hRO : RO 35 T6_61 := RO_sr (o := 2) (k := 1) (r := 34) hRO (by omega)
  have hw : WH Γ YG 35 ad35 T6_61 s H L61 := hw
  refine lv_iinc (v := 2) (lv' := [(1, .int 2), (0, .ref (ad35 0))]) hx hb dX6_init_182 hl (k := 0) rfl (by decide) (by decide) rfl (fun ls hl => ?_)
  refine lv_goto (tgt := 163) hx hb dX6_init_185 (by decide) ?_
  refine lv_iload_n hx hb dX6_init_163 rfl (lv_at hl 0 rfl) ?_
  refine lv_bipush (v := 12) hx hb dX6_init_164 (by decide) ?_
  refine lv_icmp_ge (tgt := 188) hx hb dX6_init_166 (by decide) (fun c => absurd c (by decide)) (fun _ => ?_)
  refine lv_aload_n hx hb dX6_init_169 rfl (lv_at hl 1 rfl) ?_
  refine g_get (Y := YG) (o := 0) (ci := 6) (N := 17) (k := 2) (C := RX6) (T := TX6) rfl inT6 rfl (by decide) (by decide) q_466 rfl hc hw (by omega) rfl dX6_init_170 ?_
  rw [show fv YG ad35 T6_61 6 0 2 = .ref (ad35 2) from by show va_rf (Option.map ad35 (gr T6_61 0 2)) = _; rw [show gr T6_61 0 2 = some 2 from rfl]; rfl]
  refine lv_iload_n hx hb dX6_init_173 rfl (lv_at hl 0 rfl) ?_
  refine g_newO (Y := YG) (ci := 0) (N := 3) (C := RX0) (T := TX0) (ty0 := tyX0) (M := 35) rfl inT0 tyX0_ok rfl (by decide) q_100 q_207 q_78 df_X0 rfl (lnC_sN _) rfl hRO hc hw (Nat.le_of_ble_eq_true rfl) (Nat.le_of_ble_eq_true rfl) dX6_init_174 (fun ad36 H hgad36 hw => ?_)
  have hRO : RO 36 T6_62 := RO_sN (n := 0) hRO
  have hl : lv_has ls 2 [(1, .int 2), (0, .ref (ad36 0))] := by rw [hgad36 0 (by omega)]; exact hl
  refine W.eq (g2 := F0 m (174 + 3) ls [.ref (ad36 35), .int 2, .ref (ad36 2)]) (by rw [hgad36 2 (by omega)]) ?_
  have hagT : ∀ o, o < 1 → ad36 o = ad o := fun o ho => (hgad36 o (by omega)).trans (hagT o ho)
  have hw : WH Γ YG 36 ad36 T6_62 s H L61 := hw
  refine lv_dup hx hb dX6_init_177 rfl ?_
  refine g_initN (Y := YG) (M1 := 36) (k := 1) (mc := 0) (ms := 0) (o := 35) (As := []) (rest := [.ref (ad36 35), .int 2, .ref (ad36 2)]) iw_X6_64 q_208 ⟨Nat.le_of_ble_eq_true rfl, Nat.le_of_ble_eq_true rfl, Nat.le_of_ble_eq_true rfl, Nat.le_of_ble_eq_true rfl⟩ hRO hc hw hl.1 (m_X0_init (M := 36) (post := fun u => u = T6_63) l 35 T6_62 ⟨rfl, by omega⟩  (by unfold w_X0_init; intros; subst_vars; rfl)) rfl rfl (Nat.le_of_ble_eq_true rfl) dX6_init_178 (fun u_ ad37 H L63 e_ hgad37 hRO hw => ?_)
  subst e_
  have hl : lv_has ls 2 [(1, .int 2), (0, .ref (ad37 0))] := by rw [hgad37 0 (by omega)]; exact hl
  refine W.eq (g2 := F0 m (178 + 3) ls [.ref (ad37 35), .int 2, .ref (ad37 2)]) (by rw [hgad37 35 (by omega), hgad37 2 (by omega)]) ?_
  have hagT : ∀ o, o < 1 → ad37 o = ad o := fun o ho => (hgad37 o (by omega)).trans (hagT o ho)
  refine g_aastG (Y := YG) (kd := 61) (ci := 0) (k := 2) (r := 35) (o := 2) (n := 12) rfl lnC_st (by decide) (by decide) rfl rfl hc hw (by omega) rfl (by omega) rfl rfl (vp_in_lit (by decide)) (by decide) dX6_init_181 (fun σ_ H L64 e_ hw => ?_)
  subst e_
  have hRO : RO 36 T6_64 := RO_sr (o := 2) (k := 2) (r := 35) hRO (by omega)
  have hw : WH Γ YG 36 ad37 T6_64 s H L64 := hw
  refine lv_iinc (v := 3) (lv' := [(1, .int 3), (0, .ref (ad37 0))]) hx hb dX6_init_182 hl (k := 0) rfl (by decide) (by decide) rfl (fun ls hl => ?_)
  refine lv_goto (tgt := 163) hx hb dX6_init_185 (by decide) ?_
  refine lv_iload_n hx hb dX6_init_163 rfl (lv_at hl 0 rfl) ?_
  refine lv_bipush (v := 12) hx hb dX6_init_164 (by decide) ?_
  refine lv_icmp_ge (tgt := 188) hx hb dX6_init_166 (by decide) (fun c => absurd c (by decide)) (fun _ => ?_)
  refine lv_aload_n hx hb dX6_init_169 rfl (lv_at hl 1 rfl) ?_
  refine g_get (Y := YG) (o := 0) (ci := 6) (N := 17) (k := 2) (C := RX6) (T := TX6) rfl inT6 rfl (by decide) (by decide) q_466 rfl hc hw (by omega) rfl dX6_init_170 ?_
  rw [show fv YG ad37 T6_64 6 0 2 = .ref (ad37 2) from by show va_rf (Option.map ad37 (gr T6_64 0 2)) = _; rw [show gr T6_64 0 2 = some 2 from rfl]; rfl]
  refine lv_iload_n hx hb dX6_init_173 rfl (lv_at hl 0 rfl) ?_
  refine g_newO (Y := YG) (ci := 0) (N := 3) (C := RX0) (T := TX0) (ty0 := tyX0) (M := 36) rfl inT0 tyX0_ok rfl (by decide) q_100 q_207 q_78 df_X0 rfl (lnC_sN _) rfl hRO hc hw (Nat.le_of_ble_eq_true rfl) (Nat.le_of_ble_eq_true rfl) dX6_init_174 (fun ad38 H hgad38 hw => ?_)
  have hRO : RO 37 T6_65 := RO_sN (n := 0) hRO
  have hl : lv_has ls 2 [(1, .int 3), (0, .ref (ad38 0))] := by rw [hgad38 0 (by omega)]; exact hl
  refine W.eq (g2 := F0 m (174 + 3) ls [.ref (ad38 36), .int 3, .ref (ad38 2)]) (by rw [hgad38 2 (by omega)]) ?_
  have hagT : ∀ o, o < 1 → ad38 o = ad o := fun o ho => (hgad38 o (by omega)).trans (hagT o ho)
  have hw : WH Γ YG 37 ad38 T6_65 s H L64 := hw
  refine lv_dup hx hb dX6_init_177 rfl ?_
  refine g_initN (Y := YG) (M1 := 37) (k := 1) (mc := 0) (ms := 0) (o := 36) (As := []) (rest := [.ref (ad38 36), .int 3, .ref (ad38 2)]) iw_X6_64 q_208 ⟨Nat.le_of_ble_eq_true rfl, Nat.le_of_ble_eq_true rfl, Nat.le_of_ble_eq_true rfl, Nat.le_of_ble_eq_true rfl⟩ hRO hc hw hl.1 (m_X0_init (M := 37) (post := fun u => u = T6_66) l 36 T6_65 ⟨rfl, by omega⟩  (by unfold w_X0_init; intros; subst_vars; rfl)) rfl rfl (Nat.le_of_ble_eq_true rfl) dX6_init_178 (fun u_ ad39 H L66 e_ hgad39 hRO hw => ?_)
  subst e_
  have hl : lv_has ls 2 [(1, .int 3), (0, .ref (ad39 0))] := by rw [hgad39 0 (by omega)]; exact hl
  refine W.eq (g2 := F0 m (178 + 3) ls [.ref (ad39 36), .int 3, .ref (ad39 2)]) (by rw [hgad39 36 (by omega), hgad39 2 (by omega)]) ?_
  have hagT : ∀ o, o < 1 → ad39 o = ad o := fun o ho => (hgad39 o (by omega)).trans (hagT o ho)
  refine g_aastG (Y := YG) (kd := 61) (ci := 0) (k := 3) (r := 36) (o := 2) (n := 12) rfl lnC_st (by decide) (by decide) rfl rfl hc hw (by omega) rfl (by omega) rfl rfl (vp_in_lit (by decide)) (by decide) dX6_init_181 (fun σ_ H L67 e_ hw => ?_)
  subst e_
  have hRO : RO 37 T6_67 := RO_sr (o := 2) (k := 3) (r := 36) hRO (by omega)
  have hw : WH Γ YG 37 ad39 T6_67 s H L67 := hw
  refine lv_iinc (v := 4) (lv' := [(1, .int 4), (0, .ref (ad39 0))]) hx hb dX6_init_182 hl (k := 0) rfl (by decide) (by decide) rfl (fun ls hl => ?_)
  refine lv_goto (tgt := 163) hx hb dX6_init_185 (by decide) ?_
  refine lv_iload_n hx hb dX6_init_163 rfl (lv_at hl 0 rfl) ?_
  refine lv_bipush (v := 12) hx hb dX6_init_164 (by decide) ?_
  refine lv_icmp_ge (tgt := 188) hx hb dX6_init_166 (by decide) (fun c => absurd c (by decide)) (fun _ => ?_)
  refine lv_aload_n hx hb dX6_init_169 rfl (lv_at hl 1 rfl) ?_
  refine g_get (Y := YG) (o := 0) (ci := 6) (N := 17) (k := 2) (C := RX6) (T := TX6) rfl inT6 rfl (by decide) (by decide) q_466 rfl hc hw (by omega) rfl dX6_init_170 ?_
  rw [show fv YG ad39 T6_67 6 0 2 = .ref (ad39 2) from by show va_rf (Option.map ad39 (gr T6_67 0 2)) = _; rw [show gr T6_67 0 2 = some 2 from rfl]; rfl]
  refine lv_iload_n hx hb dX6_init_173 rfl (lv_at hl 0 rfl) ?_
  refine g_newO (Y := YG) (ci := 0) (N := 3) (C := RX0) (T := TX0) (ty0 := tyX0) (M := 37) rfl inT0 tyX0_ok rfl (by decide) q_100 q_207 q_78 df_X0 rfl (lnC_sN _) rfl hRO hc hw (Nat.le_of_ble_eq_true rfl) (Nat.le_of_ble_eq_true rfl) dX6_init_174 (fun ad40 H hgad40 hw => ?_)
  have hRO : RO 38 T6_68 := RO_sN (n := 0) hRO
  have hl : lv_has ls 2 [(1, .int 4), (0, .ref (ad40 0))] := by rw [hgad40 0 (by omega)]; exact hl
  refine W.eq (g2 := F0 m (174 + 3) ls [.ref (ad40 37), .int 4, .ref (ad40 2)]) (by rw [hgad40 2 (by omega)]) ?_
  have hagT : ∀ o, o < 1 → ad40 o = ad o := fun o ho => (hgad40 o (by omega)).trans (hagT o ho)
  have hw : WH Γ YG 38 ad40 T6_68 s H L67 := hw
  refine lv_dup hx hb dX6_init_177 rfl ?_
  refine g_initN (Y := YG) (M1 := 38) (k := 1) (mc := 0) (ms := 0) (o := 37) (As := []) (rest := [.ref (ad40 37), .int 4, .ref (ad40 2)]) iw_X6_64 q_208 ⟨Nat.le_of_ble_eq_true rfl, Nat.le_of_ble_eq_true rfl, Nat.le_of_ble_eq_true rfl, Nat.le_of_ble_eq_true rfl⟩ hRO hc hw hl.1 (m_X0_init (M := 38) (post := fun u => u = T6_69) l 37 T6_68 ⟨rfl, by omega⟩  (by unfold w_X0_init; intros; subst_vars; rfl)) rfl rfl (Nat.le_of_ble_eq_true rfl) dX6_init_178 (fun u_ ad41 H L69 e_ hgad41 hRO hw => ?_)
  subst e_
  have hl : lv_has ls 2 [(1, .int 4), (0, .ref (ad41 0))] := by rw [hgad41 0 (by omega)]; exact hl
  refine W.eq (g2 := F0 m (178 + 3) ls [.ref (ad41 37), .int 4, .ref (ad41 2)]) (by rw [hgad41 37 (by omega), hgad41 2 (by omega)]) ?_
  have hagT : ∀ o, o < 1 → ad41 o = ad o := fun o ho => (hgad41 o (by omega)).trans (hagT o ho)
  refine g_aastG (Y := YG) (kd := 61) (ci := 0) (k := 4) (r := 37) (o := 2) (n := 12) rfl lnC_st (by decide) (by decide) rfl rfl hc hw (by omega) rfl (by omega) rfl rfl (vp_in_lit (by decide)) (by decide) dX6_init_181 (fun σ_ H L70 e_ hw => ?_)
  subst e_
  have hRO : RO 38 T6_70 := RO_sr (o := 2) (k := 4) (r := 37) hRO (by omega)
  have hw : WH Γ YG 38 ad41 T6_70 s H L70 := hw
  refine lv_iinc (v := 5) (lv' := [(1, .int 5), (0, .ref (ad41 0))]) hx hb dX6_init_182 hl (k := 0) rfl (by decide) (by decide) rfl (fun ls hl => ?_)
  refine lv_goto (tgt := 163) hx hb dX6_init_185 (by decide) ?_
  refine lv_iload_n hx hb dX6_init_163 rfl (lv_at hl 0 rfl) ?_
  refine lv_bipush (v := 12) hx hb dX6_init_164 (by decide) ?_
  refine lv_icmp_ge (tgt := 188) hx hb dX6_init_166 (by decide) (fun c => absurd c (by decide)) (fun _ => ?_)
  refine lv_aload_n hx hb dX6_init_169 rfl (lv_at hl 1 rfl) ?_
  refine g_get (Y := YG) (o := 0) (ci := 6) (N := 17) (k := 2) (C := RX6) (T := TX6) rfl inT6 rfl (by decide) (by decide) q_466 rfl hc hw (by omega) rfl dX6_init_170 ?_
  rw [show fv YG ad41 T6_70 6 0 2 = .ref (ad41 2) from by show va_rf (Option.map ad41 (gr T6_70 0 2)) = _; rw [show gr T6_70 0 2 = some 2 from rfl]; rfl]
  refine lv_iload_n hx hb dX6_init_173 rfl (lv_at hl 0 rfl) ?_
  refine g_newO (Y := YG) (ci := 0) (N := 3) (C := RX0) (T := TX0) (ty0 := tyX0) (M := 38) rfl inT0 tyX0_ok rfl (by decide) q_100 q_207 q_78 df_X0 rfl (lnC_sN _) rfl hRO hc hw (Nat.le_of_ble_eq_true rfl) (Nat.le_of_ble_eq_true rfl) dX6_init_174 (fun ad42 H hgad42 hw => ?_)
  have hRO : RO 39 T6_71 := RO_sN (n := 0) hRO
  have hl : lv_has ls 2 [(1, .int 5), (0, .ref (ad42 0))] := by rw [hgad42 0 (by omega)]; exact hl
  refine W.eq (g2 := F0 m (174 + 3) ls [.ref (ad42 38), .int 5, .ref (ad42 2)]) (by rw [hgad42 2 (by omega)]) ?_
  have hagT : ∀ o, o < 1 → ad42 o = ad o := fun o ho => (hgad42 o (by omega)).trans (hagT o ho)
  have hw : WH Γ YG 39 ad42 T6_71 s H L70 := hw
  refine lv_dup hx hb dX6_init_177 rfl ?_
  refine g_initN (Y := YG) (M1 := 39) (k := 1) (mc := 0) (ms := 0) (o := 38) (As := []) (rest := [.ref (ad42 38), .int 5, .ref (ad42 2)]) iw_X6_64 q_208 ⟨Nat.le_of_ble_eq_true rfl, Nat.le_of_ble_eq_true rfl, Nat.le_of_ble_eq_true rfl, Nat.le_of_ble_eq_true rfl⟩ hRO hc hw hl.1 (m_X0_init (M := 39) (post := fun u => u = T6_72) l 38 T6_71 ⟨rfl, by omega⟩  (by unfold w_X0_init; intros; subst_vars; rfl)) rfl rfl (Nat.le_of_ble_eq_true rfl) dX6_init_178 (fun u_ ad43 H L72 e_ hgad43 hRO hw => ?_)
  subst e_
  have hl : lv_has ls 2 [(1, .int 5), (0, .ref (ad43 0))] := by rw [hgad43 0 (by omega)]; exact hl
  refine W.eq (g2 := F0 m (178 + 3) ls [.ref (ad43 38), .int 5, .ref (ad43 2)]) (by rw [hgad43 38 (by omega), hgad43 2 (by omega)]) ?_
  have hagT : ∀ o, o < 1 → ad43 o = ad o := fun o ho => (hgad43 o (by omega)).trans (hagT o ho)
  refine g_aastG (Y := YG) (kd := 61) (ci := 0) (k := 5) (r := 38) (o := 2) (n := 12) rfl lnC_st (by decide) (by decide) rfl rfl hc hw (by omega) rfl (by omega) rfl rfl (vp_in_lit (by decide)) (by decide) dX6_init_181 (fun σ_ H L73 e_ hw => ?_)
  subst e_
  have hRO : RO 39 T6_73 := RO_sr (o := 2) (k := 5) (r := 38) hRO (by omega)
  have hw : WH Γ YG 39 ad43 T6_73 s H L73 := hw
  refine lv_iinc (v := 6) (lv' := [(1, .int 6), (0, .ref (ad43 0))]) hx hb dX6_init_182 hl (k := 0) rfl (by decide) (by decide) rfl (fun ls hl => ?_)
  refine lv_goto (tgt := 163) hx hb dX6_init_185 (by decide) ?_
  refine lv_iload_n hx hb dX6_init_163 rfl (lv_at hl 0 rfl) ?_
  refine lv_bipush (v := 12) hx hb dX6_init_164 (by decide) ?_
  refine lv_icmp_ge (tgt := 188) hx hb dX6_init_166 (by decide) (fun c => absurd c (by decide)) (fun _ => ?_)
  refine lv_aload_n hx hb dX6_init_169 rfl (lv_at hl 1 rfl) ?_
  refine g_get (Y := YG) (o := 0) (ci := 6) (N := 17) (k := 2) (C := RX6) (T := TX6) rfl inT6 rfl (by decide) (by decide) q_466 rfl hc hw (by omega) rfl dX6_init_170 ?_
  rw [show fv YG ad43 T6_73 6 0 2 = .ref (ad43 2) from by show va_rf (Option.map ad43 (gr T6_73 0 2)) = _; rw [show gr T6_73 0 2 = some 2 from rfl]; rfl]
  refine lv_iload_n hx hb dX6_init_173 rfl (lv_at hl 0 rfl) ?_
  refine g_newO (Y := YG) (ci := 0) (N := 3) (C := RX0) (T := TX0) (ty0 := tyX0) (M := 39) rfl inT0 tyX0_ok rfl (by decide) q_100 q_207 q_78 df_X0 rfl (lnC_sN _) rfl hRO hc hw (Nat.le_of_ble_eq_true rfl) (Nat.le_of_ble_eq_true rfl) dX6_init_174 (fun ad44 H hgad44 hw => ?_)
  have hRO : RO 40 T6_74 := RO_sN (n := 0) hRO
  have hl : lv_has ls 2 [(1, .int 6), (0, .ref (ad44 0))] := by rw [hgad44 0 (by omega)]; exact hl
  refine W.eq (g2 := F0 m (174 + 3) ls [.ref (ad44 39), .int 6, .ref (ad44 2)]) (by rw [hgad44 2 (by omega)]) ?_
  have hagT : ∀ o, o < 1 → ad44 o = ad o := fun o ho => (hgad44 o (by omega)).trans (hagT o ho)
  have hw : WH Γ YG 40 ad44 T6_74 s H L73 := hw
  refine lv_dup hx hb dX6_init_177 rfl ?_
  refine g_initN (Y := YG) (M1 := 40) (k := 1) (mc := 0) (ms := 0) (o := 39) (As := []) (rest := [.ref (ad44 39), .int 6, .ref (ad44 2)]) iw_X6_64 q_208 ⟨Nat.le_of_ble_eq_true rfl, Nat.le_of_ble_eq_true rfl, Nat.le_of_ble_eq_true rfl, Nat.le_of_ble_eq_true rfl⟩ hRO hc hw hl.1 (m_X0_init (M := 40) (post := fun u => u = T6_75) l 39 T6_74 ⟨rfl, by omega⟩  (by unfold w_X0_init; intros; subst_vars; rfl)) rfl rfl (Nat.le_of_ble_eq_true rfl) dX6_init_178 (fun u_ ad45 H L75 e_ hgad45 hRO hw => ?_)
  subst e_
  have hl : lv_has ls 2 [(1, .int 6), (0, .ref (ad45 0))] := by rw [hgad45 0 (by omega)]; exact hl
  refine W.eq (g2 := F0 m (178 + 3) ls [.ref (ad45 39), .int 6, .ref (ad45 2)]) (by rw [hgad45 39 (by omega), hgad45 2 (by omega)]) ?_
  have hagT : ∀ o, o < 1 → ad45 o = ad o := fun o ho => (hgad45 o (by omega)).trans (hagT o ho)
  refine g_aastG (Y := YG) (kd := 61) (ci := 0) (k := 6) (r := 39) (o := 2) (n := 12) rfl lnC_st (by decide) (by decide) rfl rfl hc hw (by omega) rfl (by omega) rfl rfl (vp_in_lit (by decide)) (by decide) dX6_init_181 (fun σ_ H L76 e_ hw => ?_)
  subst e_
  have hRO : RO 40 T6_76 := RO_sr (o := 2) (k := 6) (r := 39) hRO (by omega)
  have hw : WH Γ YG 40 ad45 T6_76 s H L76 := hw
  refine lv_iinc (v := 7) (lv' := [(1, .int 7), (0, .ref (ad45 0))]) hx hb dX6_init_182 hl (k := 0) rfl (by decide) (by decide) rfl (fun ls hl => ?_)
  refine lv_goto (tgt := 163) hx hb dX6_init_185 (by decide) ?_
  refine lv_iload_n hx hb dX6_init_163 rfl (lv_at hl 0 rfl) ?_
  refine lv_bipush (v := 12) hx hb dX6_init_164 (by decide) ?_
  refine lv_icmp_ge (tgt := 188) hx hb dX6_init_166 (by decide) (fun c => absurd c (by decide)) (fun _ => ?_)
  refine lv_aload_n hx hb dX6_init_169 rfl (lv_at hl 1 rfl) ?_
  refine g_get (Y := YG) (o := 0) (ci := 6) (N := 17) (k := 2) (C := RX6) (T := TX6) rfl inT6 rfl (by decide) (by decide) q_466 rfl hc hw (by omega) rfl dX6_init_170 ?_
  rw [show fv YG ad45 T6_76 6 0 2 = .ref (ad45 2) from by show va_rf (Option.map ad45 (gr T6_76 0 2)) = _; rw [show gr T6_76 0 2 = some 2 from rfl]; rfl]
  refine lv_iload_n hx hb dX6_init_173 rfl (lv_at hl 0 rfl) ?_
  refine g_newO (Y := YG) (ci := 0) (N := 3) (C := RX0) (T := TX0) (ty0 := tyX0) (M := 40) rfl inT0 tyX0_ok rfl (by decide) q_100 q_207 q_78 df_X0 rfl (lnC_sN _) rfl hRO hc hw (Nat.le_of_ble_eq_true rfl) (Nat.le_of_ble_eq_true rfl) dX6_init_174 (fun ad46 H hgad46 hw => ?_)
  have hRO : RO 41 T6_77 := RO_sN (n := 0) hRO
  have hl : lv_has ls 2 [(1, .int 7), (0, .ref (ad46 0))] := by rw [hgad46 0 (by omega)]; exact hl
  refine W.eq (g2 := F0 m (174 + 3) ls [.ref (ad46 40), .int 7, .ref (ad46 2)]) (by rw [hgad46 2 (by omega)]) ?_
  have hagT : ∀ o, o < 1 → ad46 o = ad o := fun o ho => (hgad46 o (by omega)).trans (hagT o ho)
  have hw : WH Γ YG 41 ad46 T6_77 s H L76 := hw
  refine lv_dup hx hb dX6_init_177 rfl ?_
  refine g_initN (Y := YG) (M1 := 41) (k := 1) (mc := 0) (ms := 0) (o := 40) (As := []) (rest := [.ref (ad46 40), .int 7, .ref (ad46 2)]) iw_X6_64 q_208 ⟨Nat.le_of_ble_eq_true rfl, Nat.le_of_ble_eq_true rfl, Nat.le_of_ble_eq_true rfl, Nat.le_of_ble_eq_true rfl⟩ hRO hc hw hl.1 (m_X0_init (M := 41) (post := fun u => u = T6_78) l 40 T6_77 ⟨rfl, by omega⟩  (by unfold w_X0_init; intros; subst_vars; rfl)) rfl rfl (Nat.le_of_ble_eq_true rfl) dX6_init_178 (fun u_ ad47 H L78 e_ hgad47 hRO hw => ?_)
  subst e_
  have hl : lv_has ls 2 [(1, .int 7), (0, .ref (ad47 0))] := by rw [hgad47 0 (by omega)]; exact hl
  refine W.eq (g2 := F0 m (178 + 3) ls [.ref (ad47 40), .int 7, .ref (ad47 2)]) (by rw [hgad47 40 (by omega), hgad47 2 (by omega)]) ?_
  have hagT : ∀ o, o < 1 → ad47 o = ad o := fun o ho => (hgad47 o (by omega)).trans (hagT o ho)
  refine g_aastG (Y := YG) (kd := 61) (ci := 0) (k := 7) (r := 40) (o := 2) (n := 12) rfl lnC_st (by decide) (by decide) rfl rfl hc hw (by omega) rfl (by omega) rfl rfl (vp_in_lit (by decide)) (by decide) dX6_init_181 (fun σ_ H L79 e_ hw => ?_)
  subst e_
  have hRO : RO 41 T6_79 := RO_sr (o := 2) (k := 7) (r := 40) hRO (by omega)
  have hw : WH Γ YG 41 ad47 T6_79 s H L79 := hw
  refine lv_iinc (v := 8) (lv' := [(1, .int 8), (0, .ref (ad47 0))]) hx hb dX6_init_182 hl (k := 0) rfl (by decide) (by decide) rfl (fun ls hl => ?_)
  refine lv_goto (tgt := 163) hx hb dX6_init_185 (by decide) ?_
  refine lv_iload_n hx hb dX6_init_163 rfl (lv_at hl 0 rfl) ?_
  refine lv_bipush (v := 12) hx hb dX6_init_164 (by decide) ?_
  refine lv_icmp_ge (tgt := 188) hx hb dX6_init_166 (by decide) (fun c => absurd c (by decide)) (fun _ => ?_)
  refine lv_aload_n hx hb dX6_init_169 rfl (lv_at hl 1 rfl) ?_
  refine g_get (Y := YG) (o := 0) (ci := 6) (N := 17) (k := 2) (C := RX6) (T := TX6) rfl inT6 rfl (by decide) (by decide) q_466 rfl hc hw (by omega) rfl dX6_init_170 ?_
  rw [show fv YG ad47 T6_79 6 0 2 = .ref (ad47 2) from by show va_rf (Option.map ad47 (gr T6_79 0 2)) = _; rw [show gr T6_79 0 2 = some 2 from rfl]; rfl]
  refine lv_iload_n hx hb dX6_init_173 rfl (lv_at hl 0 rfl) ?_
  refine g_newO (Y := YG) (ci := 0) (N := 3) (C := RX0) (T := TX0) (ty0 := tyX0) (M := 41) rfl inT0 tyX0_ok rfl (by decide) q_100 q_207 q_78 df_X0 rfl (lnC_sN _) rfl hRO hc hw (Nat.le_of_ble_eq_true rfl) (Nat.le_of_ble_eq_true rfl) dX6_init_174 (fun ad48 H hgad48 hw => ?_)
  have hRO : RO 42 T6_80 := RO_sN (n := 0) hRO
  have hl : lv_has ls 2 [(1, .int 8), (0, .ref (ad48 0))] := by rw [hgad48 0 (by omega)]; exact hl
  refine W.eq (g2 := F0 m (174 + 3) ls [.ref (ad48 41), .int 8, .ref (ad48 2)]) (by rw [hgad48 2 (by omega)]) ?_
  have hagT : ∀ o, o < 1 → ad48 o = ad o := fun o ho => (hgad48 o (by omega)).trans (hagT o ho)
  have hw : WH Γ YG 42 ad48 T6_80 s H L79 := hw
  refine lv_dup hx hb dX6_init_177 rfl ?_
  refine g_initN (Y := YG) (M1 := 42) (k := 1) (mc := 0) (ms := 0) (o := 41) (As := []) (rest := [.ref (ad48 41), .int 8, .ref (ad48 2)]) iw_X6_64 q_208 ⟨Nat.le_of_ble_eq_true rfl, Nat.le_of_ble_eq_true rfl, Nat.le_of_ble_eq_true rfl, Nat.le_of_ble_eq_true rfl⟩ hRO hc hw hl.1 (m_X0_init (M := 42) (post := fun u => u = T6_81) l 41 T6_80 ⟨rfl, by omega⟩  (by unfold w_X0_init; intros; subst_vars; rfl)) rfl rfl (Nat.le_of_ble_eq_true rfl) dX6_init_178 (fun u_ ad49 H L81 e_ hgad49 hRO hw => ?_)
  subst e_
  have hl : lv_has ls 2 [(1, .int 8), (0, .ref (ad49 0))] := by rw [hgad49 0 (by omega)]; exact hl
  refine W.eq (g2 := F0 m (178 + 3) ls [.ref (ad49 41), .int 8, .ref (ad49 2)]) (by rw [hgad49 41 (by omega), hgad49 2 (by omega)]) ?_
  have hagT : ∀ o, o < 1 → ad49 o = ad o := fun o ho => (hgad49 o (by omega)).trans (hagT o ho)
  refine g_aastG (Y := YG) (kd := 61) (ci := 0) (k := 8) (r := 41) (o := 2) (n := 12) rfl lnC_st (by decide) (by decide) rfl rfl hc hw (by omega) rfl (by omega) rfl rfl (vp_in_lit (by decide)) (by decide) dX6_init_181 (fun σ_ H L82 e_ hw => ?_)
  subst e_
  have hRO : RO 42 T6_82 := RO_sr (o := 2) (k := 8) (r := 41) hRO (by omega)
  have hw : WH Γ YG 42 ad49 T6_82 s H L82 := hw
  refine lv_iinc (v := 9) (lv' := [(1, .int 9), (0, .ref (ad49 0))]) hx hb dX6_init_182 hl (k := 0) rfl (by decide) (by decide) rfl (fun ls hl => ?_)
  refine lv_goto (tgt := 163) hx hb dX6_init_185 (by decide) ?_
  refine lv_iload_n hx hb dX6_init_163 rfl (lv_at hl 0 rfl) ?_
  refine lv_bipush (v := 12) hx hb dX6_init_164 (by decide) ?_
  refine lv_icmp_ge (tgt := 188) hx hb dX6_init_166 (by decide) (fun c => absurd c (by decide)) (fun _ => ?_)
  refine lv_aload_n hx hb dX6_init_169 rfl (lv_at hl 1 rfl) ?_
  refine g_get (Y := YG) (o := 0) (ci := 6) (N := 17) (k := 2) (C := RX6) (T := TX6) rfl inT6 rfl (by decide) (by decide) q_466 rfl hc hw (by omega) rfl dX6_init_170 ?_
  rw [show fv YG ad49 T6_82 6 0 2 = .ref (ad49 2) from by show va_rf (Option.map ad49 (gr T6_82 0 2)) = _; rw [show gr T6_82 0 2 = some 2 from rfl]; rfl]
  refine lv_iload_n hx hb dX6_init_173 rfl (lv_at hl 0 rfl) ?_
  refine g_newO (Y := YG) (ci := 0) (N := 3) (C := RX0) (T := TX0) (ty0 := tyX0) (M := 42) rfl inT0 tyX0_ok rfl (by decide) q_100 q_207 q_78 df_X0 rfl (lnC_sN _) rfl hRO hc hw (Nat.le_of_ble_eq_true rfl) (Nat.le_of_ble_eq_true rfl) dX6_init_174 (fun ad50 H hgad50 hw => ?_)
  have hRO : RO 43 T6_83 := RO_sN (n := 0) hRO
  have hl : lv_has ls 2 [(1, .int 9), (0, .ref (ad50 0))] := by rw [hgad50 0 (by omega)]; exact hl
  refine W.eq (g2 := F0 m (174 + 3) ls [.ref (ad50 42), .int 9, .ref (ad50 2)]) (by rw [hgad50 2 (by omega)]) ?_
  have hagT : ∀ o, o < 1 → ad50 o = ad o := fun o ho => (hgad50 o (by omega)).trans (hagT o ho)
  have hw : WH Γ YG 43 ad50 T6_83 s H L82 := hw
  refine lv_dup hx hb dX6_init_177 rfl ?_
  refine g_initN (Y := YG) (M1 := 43) (k := 1) (mc := 0) (ms := 0) (o := 42) (As := []) (rest := [.ref (ad50 42), .int 9, .ref (ad50 2)]) iw_X6_64 q_208 ⟨Nat.le_of_ble_eq_true rfl, Nat.le_of_ble_eq_true rfl, Nat.le_of_ble_eq_true rfl, Nat.le_of_ble_eq_true rfl⟩ hRO hc hw hl.1 (m_X0_init (M := 43) (post := fun u => u = T6_84) l 42 T6_83 ⟨rfl, by omega⟩  (by unfold w_X0_init; intros; subst_vars; rfl)) rfl rfl (Nat.le_of_ble_eq_true rfl) dX6_init_178 (fun u_ ad51 H L84 e_ hgad51 hRO hw => ?_)
  subst e_
  have hl : lv_has ls 2 [(1, .int 9), (0, .ref (ad51 0))] := by rw [hgad51 0 (by omega)]; exact hl
  refine W.eq (g2 := F0 m (178 + 3) ls [.ref (ad51 42), .int 9, .ref (ad51 2)]) (by rw [hgad51 42 (by omega), hgad51 2 (by omega)]) ?_
  have hagT : ∀ o, o < 1 → ad51 o = ad o := fun o ho => (hgad51 o (by omega)).trans (hagT o ho)
  refine g_aastG (Y := YG) (kd := 61) (ci := 0) (k := 9) (r := 42) (o := 2) (n := 12) rfl lnC_st (by decide) (by decide) rfl rfl hc hw (by omega) rfl (by omega) rfl rfl (vp_in_lit (by decide)) (by decide) dX6_init_181 (fun σ_ H L85 e_ hw => ?_)
  subst e_
  have hRO : RO 43 T6_85 := RO_sr (o := 2) (k := 9) (r := 42) hRO (by omega)
  have hw : WH Γ YG 43 ad51 T6_85 s H L85 := hw
  refine lv_iinc (v := 10) (lv' := [(1, .int 10), (0, .ref (ad51 0))]) hx hb dX6_init_182 hl (k := 0) rfl (by decide) (by decide) rfl (fun ls hl => ?_)
  refine lv_goto (tgt := 163) hx hb dX6_init_185 (by decide) ?_
  refine lv_iload_n hx hb dX6_init_163 rfl (lv_at hl 0 rfl) ?_
  refine lv_bipush (v := 12) hx hb dX6_init_164 (by decide) ?_
  refine lv_icmp_ge (tgt := 188) hx hb dX6_init_166 (by decide) (fun c => absurd c (by decide)) (fun _ => ?_)
  refine lv_aload_n hx hb dX6_init_169 rfl (lv_at hl 1 rfl) ?_
  refine g_get (Y := YG) (o := 0) (ci := 6) (N := 17) (k := 2) (C := RX6) (T := TX6) rfl inT6 rfl (by decide) (by decide) q_466 rfl hc hw (by omega) rfl dX6_init_170 ?_
  rw [show fv YG ad51 T6_85 6 0 2 = .ref (ad51 2) from by show va_rf (Option.map ad51 (gr T6_85 0 2)) = _; rw [show gr T6_85 0 2 = some 2 from rfl]; rfl]
  refine lv_iload_n hx hb dX6_init_173 rfl (lv_at hl 0 rfl) ?_
  refine g_newO (Y := YG) (ci := 0) (N := 3) (C := RX0) (T := TX0) (ty0 := tyX0) (M := 43) rfl inT0 tyX0_ok rfl (by decide) q_100 q_207 q_78 df_X0 rfl (lnC_sN _) rfl hRO hc hw (Nat.le_of_ble_eq_true rfl) (Nat.le_of_ble_eq_true rfl) dX6_init_174 (fun ad52 H hgad52 hw => ?_)
  have hRO : RO 44 T6_86 := RO_sN (n := 0) hRO
  have hl : lv_has ls 2 [(1, .int 10), (0, .ref (ad52 0))] := by rw [hgad52 0 (by omega)]; exact hl
  refine W.eq (g2 := F0 m (174 + 3) ls [.ref (ad52 43), .int 10, .ref (ad52 2)]) (by rw [hgad52 2 (by omega)]) ?_
  have hagT : ∀ o, o < 1 → ad52 o = ad o := fun o ho => (hgad52 o (by omega)).trans (hagT o ho)
  have hw : WH Γ YG 44 ad52 T6_86 s H L85 := hw
  refine lv_dup hx hb dX6_init_177 rfl ?_
  refine g_initN (Y := YG) (M1 := 44) (k := 1) (mc := 0) (ms := 0) (o := 43) (As := []) (rest := [.ref (ad52 43), .int 10, .ref (ad52 2)]) iw_X6_64 q_208 ⟨Nat.le_of_ble_eq_true rfl, Nat.le_of_ble_eq_true rfl, Nat.le_of_ble_eq_true rfl, Nat.le_of_ble_eq_true rfl⟩ hRO hc hw hl.1 (m_X0_init (M := 44) (post := fun u => u = T6_87) l 43 T6_86 ⟨rfl, by omega⟩  (by unfold w_X0_init; intros; subst_vars; rfl)) rfl rfl (Nat.le_of_ble_eq_true rfl) dX6_init_178 (fun u_ ad53 H L87 e_ hgad53 hRO hw => ?_)
  subst e_
  have hl : lv_has ls 2 [(1, .int 10), (0, .ref (ad53 0))] := by rw [hgad53 0 (by omega)]; exact hl
  refine W.eq (g2 := F0 m (178 + 3) ls [.ref (ad53 43), .int 10, .ref (ad53 2)]) (by rw [hgad53 43 (by omega), hgad53 2 (by omega)]) ?_
  have hagT : ∀ o, o < 1 → ad53 o = ad o := fun o ho => (hgad53 o (by omega)).trans (hagT o ho)
  refine g_aastG (Y := YG) (kd := 61) (ci := 0) (k := 10) (r := 43) (o := 2) (n := 12) rfl lnC_st (by decide) (by decide) rfl rfl hc hw (by omega) rfl (by omega) rfl rfl (vp_in_lit (by decide)) (by decide) dX6_init_181 (fun σ_ H L88 e_ hw => ?_)
  subst e_
  have hRO : RO 44 T6_88 := RO_sr (o := 2) (k := 10) (r := 43) hRO (by omega)
  have hw : WH Γ YG 44 ad53 T6_88 s H L88 := hw
  refine lv_iinc (v := 11) (lv' := [(1, .int 11), (0, .ref (ad53 0))]) hx hb dX6_init_182 hl (k := 0) rfl (by decide) (by decide) rfl (fun ls hl => ?_)
  refine lv_goto (tgt := 163) hx hb dX6_init_185 (by decide) ?_
  refine lv_iload_n hx hb dX6_init_163 rfl (lv_at hl 0 rfl) ?_
  refine lv_bipush (v := 12) hx hb dX6_init_164 (by decide) ?_
  refine lv_icmp_ge (tgt := 188) hx hb dX6_init_166 (by decide) (fun c => absurd c (by decide)) (fun _ => ?_)
  refine lv_aload_n hx hb dX6_init_169 rfl (lv_at hl 1 rfl) ?_
  refine g_get (Y := YG) (o := 0) (ci := 6) (N := 17) (k := 2) (C := RX6) (T := TX6) rfl inT6 rfl (by decide) (by decide) q_466 rfl hc hw (by omega) rfl dX6_init_170 ?_
  rw [show fv YG ad53 T6_88 6 0 2 = .ref (ad53 2) from by show va_rf (Option.map ad53 (gr T6_88 0 2)) = _; rw [show gr T6_88 0 2 = some 2 from rfl]; rfl]
  refine lv_iload_n hx hb dX6_init_173 rfl (lv_at hl 0 rfl) ?_
  refine g_newO (Y := YG) (ci := 0) (N := 3) (C := RX0) (T := TX0) (ty0 := tyX0) (M := 44) rfl inT0 tyX0_ok rfl (by decide) q_100 q_207 q_78 df_X0 rfl (lnC_sN _) rfl hRO hc hw (Nat.le_of_ble_eq_true rfl) (Nat.le_of_ble_eq_true rfl) dX6_init_174 (fun ad54 H hgad54 hw => ?_)
  have hRO : RO 45 T6_89 := RO_sN (n := 0) hRO
  have hl : lv_has ls 2 [(1, .int 11), (0, .ref (ad54 0))] := by rw [hgad54 0 (by omega)]; exact hl
  refine W.eq (g2 := F0 m (174 + 3) ls [.ref (ad54 44), .int 11, .ref (ad54 2)]) (by rw [hgad54 2 (by omega)]) ?_
  have hagT : ∀ o, o < 1 → ad54 o = ad o := fun o ho => (hgad54 o (by omega)).trans (hagT o ho)
  have hw : WH Γ YG 45 ad54 T6_89 s H L88 := hw
  refine lv_dup hx hb dX6_init_177 rfl ?_
  refine g_initN (Y := YG) (M1 := 45) (k := 1) (mc := 0) (ms := 0) (o := 44) (As := []) (rest := [.ref (ad54 44), .int 11, .ref (ad54 2)]) iw_X6_64 q_208 ⟨Nat.le_of_ble_eq_true rfl, Nat.le_of_ble_eq_true rfl, Nat.le_of_ble_eq_true rfl, Nat.le_of_ble_eq_true rfl⟩ hRO hc hw hl.1 (m_X0_init (M := 45) (post := fun u => u = T6_90) l 44 T6_89 ⟨rfl, by omega⟩  (by unfold w_X0_init; intros; subst_vars; rfl)) rfl rfl (Nat.le_of_ble_eq_true rfl) dX6_init_178 (fun u_ ad55 H L90 e_ hgad55 hRO hw => ?_)
  subst e_
  have hl : lv_has ls 2 [(1, .int 11), (0, .ref (ad55 0))] := by rw [hgad55 0 (by omega)]; exact hl
  refine W.eq (g2 := F0 m (178 + 3) ls [.ref (ad55 44), .int 11, .ref (ad55 2)]) (by rw [hgad55 44 (by omega), hgad55 2 (by omega)]) ?_
  have hagT : ∀ o, o < 1 → ad55 o = ad o := fun o ho => (hgad55 o (by omega)).trans (hagT o ho)
  refine g_aastG (Y := YG) (kd := 61) (ci := 0) (k := 11) (r := 44) (o := 2) (n := 12) rfl lnC_st (by decide) (by decide) rfl rfl hc hw (by omega) rfl (by omega) rfl rfl (vp_in_lit (by decide)) (by decide) dX6_init_181 (fun σ_ H L91 e_ hw => ?_)
  subst e_
  have hRO : RO 45 T6_91 := RO_sr (o := 2) (k := 11) (r := 44) hRO (by omega)
  have hw : WH Γ YG 45 ad55 T6_91 s H L91 := hw
  refine lv_iinc (v := 12) (lv' := [(1, .int 12), (0, .ref (ad55 0))]) hx hb dX6_init_182 hl (k := 0) rfl (by decide) (by decide) rfl (fun ls hl => ?_)
  refine lv_goto (tgt := 163) hx hb dX6_init_185 (by decide) ?_
  refine lv_iload_n hx hb dX6_init_163 rfl (lv_at hl 0 rfl) ?_
  refine lv_bipush (v := 12) hx hb dX6_init_164 (by decide) ?_
  refine lv_icmp_ge (tgt := 188) hx hb dX6_init_166 (by decide) (fun _ => ?_) (fun c => absurd (by decide) c)
  refine lv_iconst (v := 0) hx hb dX6_init_188 (by decide) ?_
  refine lv_istore_n (lv' := [(1, .int 0), (0, .ref (ad55 0))]) hx hb dX6_init_189 rfl hl (by decide) rfl (fun ls hl => ?_)
  refine lv_iload_n hx hb dX6_init_190 rfl (lv_at hl 0 rfl) ?_
  refine lv_iconst (v := 4) hx hb dX6_init_191 (by decide) ?_
  refine lv_icmp_ge (tgt := 214) hx hb dX6_init_192 (by decide) (fun c => absurd c (by decide)) (fun _ => ?_)
  refine lv_aload_n hx hb dX6_init_195 rfl (lv_at hl 1 rfl) ?_
  refine g_get (Y := YG) (o := 0) (ci := 6) (N := 17) (k := 9) (C := RX6) (T := TX6) rfl inT6 rfl (by decide) (by decide) q_473 rfl hc hw (by omega) rfl dX6_init_196 ?_
  rw [show fv YG ad55 T6_91 6 0 9 = .ref (ad55 9) from by show va_rf (Option.map ad55 (gr T6_91 0 9)) = _; rw [show gr T6_91 0 9 = some 9 from rfl]; rfl]
  refine lv_iload_n hx hb dX6_init_199 rfl (lv_at hl 0 rfl) ?_
  refine g_newO (Y := YG) (ci := 5) (N := 3) (C := RX5) (T := TX5) (ty0 := tyX5) (M := 45) rfl inT5 tyX5_ok rfl (by decide) q_142 q_237 q_80 df_X5 rfl (lnC_sN _) rfl hRO hc hw (Nat.le_of_ble_eq_true rfl) (Nat.le_of_ble_eq_true rfl) dX6_init_200 (fun ad56 H hgad56 hw => ?_)
  have hRO : RO 46 T6_92 := RO_sN (n := 0) hRO
  have hl : lv_has ls 2 [(1, .int 0), (0, .ref (ad56 0))] := by rw [hgad56 0 (by omega)]; exact hl
  refine W.eq (g2 := F0 m (200 + 3) ls [.ref (ad56 45), .int 0, .ref (ad56 9)]) (by rw [hgad56 9 (by omega)]) ?_
  have hagT : ∀ o, o < 1 → ad56 o = ad o := fun o ho => (hgad56 o (by omega)).trans (hagT o ho)
  have hw : WH Γ YG 46 ad56 T6_92 s H L91 := hw
  refine lv_dup hx hb dX6_init_203 rfl ?_
  refine g_initN (Y := YG) (M1 := 47) (k := 1) (mc := 1) (ms := 40) (o := 45) (As := []) (rest := [.ref (ad56 45), .int 0, .ref (ad56 9)]) iw_X6_70 q_238 ⟨Nat.le_of_ble_eq_true rfl, Nat.le_of_ble_eq_true rfl, Nat.le_of_ble_eq_true rfl, Nat.le_of_ble_eq_true rfl⟩ hRO hc hw hl.1 (m_X5_init (M := 46) (post := fun u => u = T6_93) l 45 T6_92 ⟨rfl, by omega⟩ rfl (by unfold w_X5_init; intros; subst_vars; rfl)) rfl rfl (Nat.le_of_ble_eq_true rfl) dX6_init_204 (fun u_ ad57 H L93 e_ hgad57 hRO hw => ?_)
  subst e_
  have hl : lv_has ls 2 [(1, .int 0), (0, .ref (ad57 0))] := by rw [hgad57 0 (by omega)]; exact hl
  refine W.eq (g2 := F0 m (204 + 3) ls [.ref (ad57 45), .int 0, .ref (ad57 9)]) (by rw [hgad57 45 (by omega), hgad57 9 (by omega)]) ?_
  have hagT : ∀ o, o < 1 → ad57 o = ad o := fun o ho => (hgad57 o (by omega)).trans (hagT o ho)
  refine g_aastG (Y := YG) (kd := 63) (ci := 5) (k := 0) (r := 45) (o := 9) (n := 4) rfl lnC_st (by decide) (by decide) rfl rfl hc hw (by omega) rfl (by omega) rfl rfl (vp_in_lit (by decide)) (by decide) dX6_init_207 (fun σ_ H L94 e_ hw => ?_)
  subst e_
  have hRO : RO 47 T6_94 := RO_sr (o := 9) (k := 0) (r := 45) hRO (by omega)
  have hw : WH Γ YG 47 ad57 T6_94 s H L94 := hw
  refine lv_iinc (v := 1) (lv' := [(1, .int 1), (0, .ref (ad57 0))]) hx hb dX6_init_208 hl (k := 0) rfl (by decide) (by decide) rfl (fun ls hl => ?_)
  refine lv_goto (tgt := 190) hx hb dX6_init_211 (by decide) ?_
  refine lv_iload_n hx hb dX6_init_190 rfl (lv_at hl 0 rfl) ?_
  refine lv_iconst (v := 4) hx hb dX6_init_191 (by decide) ?_
  refine lv_icmp_ge (tgt := 214) hx hb dX6_init_192 (by decide) (fun c => absurd c (by decide)) (fun _ => ?_)
  refine lv_aload_n hx hb dX6_init_195 rfl (lv_at hl 1 rfl) ?_
  refine g_get (Y := YG) (o := 0) (ci := 6) (N := 17) (k := 9) (C := RX6) (T := TX6) rfl inT6 rfl (by decide) (by decide) q_473 rfl hc hw (by omega) rfl dX6_init_196 ?_
  rw [show fv YG ad57 T6_94 6 0 9 = .ref (ad57 9) from by show va_rf (Option.map ad57 (gr T6_94 0 9)) = _; rw [show gr T6_94 0 9 = some 9 from rfl]; rfl]
  refine lv_iload_n hx hb dX6_init_199 rfl (lv_at hl 0 rfl) ?_
  refine g_newO (Y := YG) (ci := 5) (N := 3) (C := RX5) (T := TX5) (ty0 := tyX5) (M := 47) rfl inT5 tyX5_ok rfl (by decide) q_142 q_237 q_80 df_X5 rfl (lnC_sN _) rfl hRO hc hw (Nat.le_of_ble_eq_true rfl) (Nat.le_of_ble_eq_true rfl) dX6_init_200 (fun ad58 H hgad58 hw => ?_)
  have hRO : RO 48 T6_95 := RO_sN (n := 0) hRO
  have hl : lv_has ls 2 [(1, .int 1), (0, .ref (ad58 0))] := by rw [hgad58 0 (by omega)]; exact hl
  refine W.eq (g2 := F0 m (200 + 3) ls [.ref (ad58 47), .int 1, .ref (ad58 9)]) (by rw [hgad58 9 (by omega)]) ?_
  have hagT : ∀ o, o < 1 → ad58 o = ad o := fun o ho => (hgad58 o (by omega)).trans (hagT o ho)
  have hw : WH Γ YG 48 ad58 T6_95 s H L94 := hw
  refine lv_dup hx hb dX6_init_203 rfl ?_
  refine g_initN (Y := YG) (M1 := 49) (k := 1) (mc := 1) (ms := 40) (o := 47) (As := []) (rest := [.ref (ad58 47), .int 1, .ref (ad58 9)]) iw_X6_70 q_238 ⟨Nat.le_of_ble_eq_true rfl, Nat.le_of_ble_eq_true rfl, Nat.le_of_ble_eq_true rfl, Nat.le_of_ble_eq_true rfl⟩ hRO hc hw hl.1 (m_X5_init (M := 48) (post := fun u => u = T6_96) l 47 T6_95 ⟨rfl, by omega⟩ rfl (by unfold w_X5_init; intros; subst_vars; rfl)) rfl rfl (Nat.le_of_ble_eq_true rfl) dX6_init_204 (fun u_ ad59 H L96 e_ hgad59 hRO hw => ?_)
  subst e_
  have hl : lv_has ls 2 [(1, .int 1), (0, .ref (ad59 0))] := by rw [hgad59 0 (by omega)]; exact hl
  refine W.eq (g2 := F0 m (204 + 3) ls [.ref (ad59 47), .int 1, .ref (ad59 9)]) (by rw [hgad59 47 (by omega), hgad59 9 (by omega)]) ?_
  have hagT : ∀ o, o < 1 → ad59 o = ad o := fun o ho => (hgad59 o (by omega)).trans (hagT o ho)
  refine g_aastG (Y := YG) (kd := 63) (ci := 5) (k := 1) (r := 47) (o := 9) (n := 4) rfl lnC_st (by decide) (by decide) rfl rfl hc hw (by omega) rfl (by omega) rfl rfl (vp_in_lit (by decide)) (by decide) dX6_init_207 (fun σ_ H L97 e_ hw => ?_)
  subst e_
  have hRO : RO 49 T6_97 := RO_sr (o := 9) (k := 1) (r := 47) hRO (by omega)
  have hw : WH Γ YG 49 ad59 T6_97 s H L97 := hw
  refine lv_iinc (v := 2) (lv' := [(1, .int 2), (0, .ref (ad59 0))]) hx hb dX6_init_208 hl (k := 0) rfl (by decide) (by decide) rfl (fun ls hl => ?_)
  refine lv_goto (tgt := 190) hx hb dX6_init_211 (by decide) ?_
  refine lv_iload_n hx hb dX6_init_190 rfl (lv_at hl 0 rfl) ?_
  refine lv_iconst (v := 4) hx hb dX6_init_191 (by decide) ?_
  refine lv_icmp_ge (tgt := 214) hx hb dX6_init_192 (by decide) (fun c => absurd c (by decide)) (fun _ => ?_)
  refine lv_aload_n hx hb dX6_init_195 rfl (lv_at hl 1 rfl) ?_
  refine g_get (Y := YG) (o := 0) (ci := 6) (N := 17) (k := 9) (C := RX6) (T := TX6) rfl inT6 rfl (by decide) (by decide) q_473 rfl hc hw (by omega) rfl dX6_init_196 ?_
  rw [show fv YG ad59 T6_97 6 0 9 = .ref (ad59 9) from by show va_rf (Option.map ad59 (gr T6_97 0 9)) = _; rw [show gr T6_97 0 9 = some 9 from rfl]; rfl]
  refine lv_iload_n hx hb dX6_init_199 rfl (lv_at hl 0 rfl) ?_
  refine g_newO (Y := YG) (ci := 5) (N := 3) (C := RX5) (T := TX5) (ty0 := tyX5) (M := 49) rfl inT5 tyX5_ok rfl (by decide) q_142 q_237 q_80 df_X5 rfl (lnC_sN _) rfl hRO hc hw (Nat.le_of_ble_eq_true rfl) (Nat.le_of_ble_eq_true rfl) dX6_init_200 (fun ad60 H hgad60 hw => ?_)
  have hRO : RO 50 T6_98 := RO_sN (n := 0) hRO
  have hl : lv_has ls 2 [(1, .int 2), (0, .ref (ad60 0))] := by rw [hgad60 0 (by omega)]; exact hl
  refine W.eq (g2 := F0 m (200 + 3) ls [.ref (ad60 49), .int 2, .ref (ad60 9)]) (by rw [hgad60 9 (by omega)]) ?_
  have hagT : ∀ o, o < 1 → ad60 o = ad o := fun o ho => (hgad60 o (by omega)).trans (hagT o ho)
  have hw : WH Γ YG 50 ad60 T6_98 s H L97 := hw
  refine lv_dup hx hb dX6_init_203 rfl ?_
  refine g_initN (Y := YG) (M1 := 51) (k := 1) (mc := 1) (ms := 40) (o := 49) (As := []) (rest := [.ref (ad60 49), .int 2, .ref (ad60 9)]) iw_X6_70 q_238 ⟨Nat.le_of_ble_eq_true rfl, Nat.le_of_ble_eq_true rfl, Nat.le_of_ble_eq_true rfl, Nat.le_of_ble_eq_true rfl⟩ hRO hc hw hl.1 (m_X5_init (M := 50) (post := fun u => u = T6_99) l 49 T6_98 ⟨rfl, by omega⟩ rfl (by unfold w_X5_init; intros; subst_vars; rfl)) rfl rfl (Nat.le_of_ble_eq_true rfl) dX6_init_204 (fun u_ ad61 H L99 e_ hgad61 hRO hw => ?_)
  subst e_
  have hl : lv_has ls 2 [(1, .int 2), (0, .ref (ad61 0))] := by rw [hgad61 0 (by omega)]; exact hl
  refine W.eq (g2 := F0 m (204 + 3) ls [.ref (ad61 49), .int 2, .ref (ad61 9)]) (by rw [hgad61 49 (by omega), hgad61 9 (by omega)]) ?_
  have hagT : ∀ o, o < 1 → ad61 o = ad o := fun o ho => (hgad61 o (by omega)).trans (hagT o ho)
  refine g_aastG (Y := YG) (kd := 63) (ci := 5) (k := 2) (r := 49) (o := 9) (n := 4) rfl lnC_st (by decide) (by decide) rfl rfl hc hw (by omega) rfl (by omega) rfl rfl (vp_in_lit (by decide)) (by decide) dX6_init_207 (fun σ_ H L100 e_ hw => ?_)
  subst e_
  have hRO : RO 51 T6_100 := RO_sr (o := 9) (k := 2) (r := 49) hRO (by omega)
  have hw : WH Γ YG 51 ad61 T6_100 s H L100 := hw
  refine lv_iinc (v := 3) (lv' := [(1, .int 3), (0, .ref (ad61 0))]) hx hb dX6_init_208 hl (k := 0) rfl (by decide) (by decide) rfl (fun ls hl => ?_)
  refine lv_goto (tgt := 190) hx hb dX6_init_211 (by decide) ?_
  refine lv_iload_n hx hb dX6_init_190 rfl (lv_at hl 0 rfl) ?_
  refine lv_iconst (v := 4) hx hb dX6_init_191 (by decide) ?_
  refine lv_icmp_ge (tgt := 214) hx hb dX6_init_192 (by decide) (fun c => absurd c (by decide)) (fun _ => ?_)
  refine lv_aload_n hx hb dX6_init_195 rfl (lv_at hl 1 rfl) ?_
  refine g_get (Y := YG) (o := 0) (ci := 6) (N := 17) (k := 9) (C := RX6) (T := TX6) rfl inT6 rfl (by decide) (by decide) q_473 rfl hc hw (by omega) rfl dX6_init_196 ?_
  rw [show fv YG ad61 T6_100 6 0 9 = .ref (ad61 9) from by show va_rf (Option.map ad61 (gr T6_100 0 9)) = _; rw [show gr T6_100 0 9 = some 9 from rfl]; rfl]
  refine lv_iload_n hx hb dX6_init_199 rfl (lv_at hl 0 rfl) ?_
  refine g_newO (Y := YG) (ci := 5) (N := 3) (C := RX5) (T := TX5) (ty0 := tyX5) (M := 51) rfl inT5 tyX5_ok rfl (by decide) q_142 q_237 q_80 df_X5 rfl (lnC_sN _) rfl hRO hc hw (Nat.le_of_ble_eq_true rfl) (Nat.le_of_ble_eq_true rfl) dX6_init_200 (fun ad62 H hgad62 hw => ?_)
  have hRO : RO 52 T6_101 := RO_sN (n := 0) hRO
  have hl : lv_has ls 2 [(1, .int 3), (0, .ref (ad62 0))] := by rw [hgad62 0 (by omega)]; exact hl
  refine W.eq (g2 := F0 m (200 + 3) ls [.ref (ad62 51), .int 3, .ref (ad62 9)]) (by rw [hgad62 9 (by omega)]) ?_
  have hagT : ∀ o, o < 1 → ad62 o = ad o := fun o ho => (hgad62 o (by omega)).trans (hagT o ho)
  have hw : WH Γ YG 52 ad62 T6_101 s H L100 := hw
  refine lv_dup hx hb dX6_init_203 rfl ?_
  refine g_initN (Y := YG) (M1 := 53) (k := 1) (mc := 1) (ms := 40) (o := 51) (As := []) (rest := [.ref (ad62 51), .int 3, .ref (ad62 9)]) iw_X6_70 q_238 ⟨Nat.le_of_ble_eq_true rfl, Nat.le_of_ble_eq_true rfl, Nat.le_of_ble_eq_true rfl, Nat.le_of_ble_eq_true rfl⟩ hRO hc hw hl.1 (m_X5_init (M := 52) (post := fun u => u = T6_102) l 51 T6_101 ⟨rfl, by omega⟩ rfl (by unfold w_X5_init; intros; subst_vars; rfl)) rfl rfl (Nat.le_of_ble_eq_true rfl) dX6_init_204 (fun u_ ad63 H L102 e_ hgad63 hRO hw => ?_)
  subst e_
  have hl : lv_has ls 2 [(1, .int 3), (0, .ref (ad63 0))] := by rw [hgad63 0 (by omega)]; exact hl
  refine W.eq (g2 := F0 m (204 + 3) ls [.ref (ad63 51), .int 3, .ref (ad63 9)]) (by rw [hgad63 51 (by omega), hgad63 9 (by omega)]) ?_
  have hagT : ∀ o, o < 1 → ad63 o = ad o := fun o ho => (hgad63 o (by omega)).trans (hagT o ho)
  refine g_aastG (Y := YG) (kd := 63) (ci := 5) (k := 3) (r := 51) (o := 9) (n := 4) rfl lnC_st (by decide) (by decide) rfl rfl hc hw (by omega) rfl (by omega) rfl rfl (vp_in_lit (by decide)) (by decide) dX6_init_207 (fun σ_ H L103 e_ hw => ?_)
  subst e_
  have hRO : RO 53 T6_103 := RO_sr (o := 9) (k := 3) (r := 51) hRO (by omega)
  have hw : WH Γ YG 53 ad63 T6_103 s H L103 := hw
  refine lv_iinc (v := 4) (lv' := [(1, .int 4), (0, .ref (ad63 0))]) hx hb dX6_init_208 hl (k := 0) rfl (by decide) (by decide) rfl (fun ls hl => ?_)
  refine lv_goto (tgt := 190) hx hb dX6_init_211 (by decide) ?_
  refine lv_iload_n hx hb dX6_init_190 rfl (lv_at hl 0 rfl) ?_
  refine lv_iconst (v := 4) hx hb dX6_init_191 (by decide) ?_
  refine lv_icmp_ge (tgt := 214) hx hb dX6_init_192 (by decide) (fun _ => ?_) (fun c => absurd (by decide) c)
  refine lv_iconst (v := 0) hx hb dX6_init_214 (by decide) ?_
  refine lv_istore_n (lv' := [(1, .int 0), (0, .ref (ad63 0))]) hx hb dX6_init_215 rfl hl (by decide) rfl (fun ls hl => ?_)
  have hw : WH Γ YC 53 ad63 T6 s H L103 := WH_like hw (fun _ _ => rfl) (fun o ho => YG_YC ho)
  refine b_X6_init_216 hc ⟨Nat.le_of_ble_eq_true rfl, Nat.le_of_ble_eq_true rfl⟩ (fun H locs ls hw hl => ?_) 90 0 H L103 ls rfl hw hl
  clear hRO
  refine lv_aload_n hx hb dX6_init_244 rfl (lv_at hl 1 rfl) ?_
  refine fg_X6_23 hc hw (by decide) rfl dX6_init_245 ?_
  refine lv_iconst (v := 0) hx hb dX6_init_248 (by decide) ?_
  refine lv_aload_n hx hb dX6_init_249 rfl (lv_at hl 1 rfl) ?_
  refine fg_X6_34 hc hw (by decide) rfl dX6_init_250 ?_
  refine g_Vrl (rest := [.int 0, .ref (ad63 3)]) vw_X6_87 ⟨Nat.le_of_ble_eq_true rfl, Nat.le_of_ble_eq_true rfl, Nat.le_of_ble_eq_true rfl, Nat.le_of_ble_eq_true rfl⟩ hc hw hl.1 (by omega) (m_X4_readLaw l (Nat.le_refl 53) (fl 90) h) (Nat.le_of_ble_eq_true rfl) dX6_init_253 (fun r u M1 adF H locs hM1 h hagF hw => ?_)
  obtain ⟨o, ho, hf, h⟩ := h
  subst ho
  have hM' : 53 ≤ M1 := hM1
  have hl : lv_has ls 2 [(1, .int 90), (0, .ref (adF 0))] := by rw [hagF 0 (by omega)]; exact hl
  refine W.eq (g2 := F0 m (253 + 3) ls [.ref (adF o), .int 0, .ref (adF 3)]) (by rw [hagF 3 (by omega)]; rfl) ?_
  refine g_aastC (k := 0) (r := o) hc hw hM' hf.2 hf.1 (vp_in_lit (by decide)) (by decide) dX6_init_256 (fun σ1 H locs e1 hw => ?_)
  refine lv_aload_n hx hb dX6_init_257 rfl (lv_at hl 1 rfl) ?_
  refine lv_iconst (v := 1) hx hb dX6_init_258 (by decide) ?_
  refine fp_X6_91 (o := 0) hc hw (by omega) rfl dX6_init_259 (fun σ2 H locs e2 hw => ?_)
  rw [e2, e1] at hw
  refine W.widen (k := 54) (n := 905) (Nat.le_of_ble_eq_true rfl) (Nat.le_of_ble_eq_true rfl) ?_
  exact W.vret hc.1 hc.2.1 hr (fun t ht hW => ⟨⟨(si (sr u 3 0 (some o)) 0 5 1, M1), rfl, ⟨hM', h⟩, adF, fun o ho => (hagF o (by omega)).trans (hagT o ho), hw.wc hc ht hW⟩, hw.2.2.F ht⟩) hw.2.2.2.2 dX6_init_262 hc.2.2.2.2.2.1
