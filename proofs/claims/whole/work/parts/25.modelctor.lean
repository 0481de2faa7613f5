/-- a state of which nothing is told -/
def z0 : St := (fun _ _ => 0, fun _ => 0, fun _ _ => none, fun _ => 0)
theorem q_955 : Cond.methodLink RX7 1 objectInit ∈ TB := TB_at 955 (by decide +kernel) rfl
def T7_1 : St := sN z0 0 0
def T7_2 : St := sN T7_1 1 20
def T7_3 : St := sr T7_2 0 1 (some 1)
def T7_4 : St := sN T7_3 2 3
def T7_5 : St := sr T7_4 0 2 (some 2)
def T7_6 : St := sN T7_5 3 160
def T7_7 : St := sr T7_6 0 3 (some 3)
def T7_8 : St := sN T7_7 4 3570
def T7_9 : St := sr T7_8 0 7 (some 4)
def T7_10 : St := sN T7_9 5 21
def T7_11 : St := sr T7_10 0 8 (some 5)
def T7_12 : St := sN T7_11 6 21
def T7_13 : St := sr T7_12 0 9 (some 6)
def T7_14 : St := sN T7_13 7 60
def T7_15 : St := si T7_14 7 0 104
def T7_16 : St := si T7_15 7 1 101
def T7_17 : St := si T7_16 7 2 97
def T7_18 : St := si T7_17 7 3 116
def T7_19 : St := si T7_18 7 4 32
def T7_20 : St := si T7_19 7 5 115
def T7_21 : St := si T7_20 7 6 111
def T7_22 : St := si T7_21 7 7 117
def T7_23 : St := si T7_22 7 8 114
def T7_24 : St := si T7_23 7 9 32
def T7_25 : St := si T7_24 7 10 115
def T7_26 : St := si T7_25 7 11 116
def T7_27 : St := si T7_26 7 12 97
def T7_28 : St := si T7_27 7 13 114
def T7_29 : St := si T7_28 7 14 99
def T7_30 : St := si T7_29 7 15 104
def T7_31 : St := si T7_30 7 16 32
def T7_32 : St := si T7_31 7 17 119
def T7_33 : St := si T7_32 7 18 97
def T7_34 : St := si T7_33 7 19 116
def T7_35 : St := si T7_34 7 20 101
def T7_36 : St := si T7_35 7 21 114
def T7_37 : St := si T7_36 7 22 32
def T7_38 : St := si T7_37 7 23 102
def T7_39 : St := si T7_38 7 24 97
def T7_40 : St := si T7_39 7 25 116
def T7_41 : St := si T7_40 7 26 32
def T7_42 : St := si T7_41 7 27 97
def T7_43 : St := si T7_42 7 28 103
def T7_44 : St := si T7_43 7 29 101
def T7_45 : St := si T7_44 7 30 32
def T7_46 : St := si T7_45 7 31 109
def T7_47 : St := si T7_46 7 32 101
def T7_48 : St := si T7_47 7 33 108
def T7_49 : St := si T7_48 7 34 116
def T7_50 : St := si T7_49 7 35 32
def T7_51 : St := si T7_50 7 36 115
def T7_52 : St := si T7_51 7 37 112
def T7_53 : St := si T7_52 7 38 108
def T7_54 : St := si T7_53 7 39 105
def T7_55 : St := si T7_54 7 40 116
def T7_56 : St := si T7_55 7 41 32
def T7_57 : St := si T7_56 7 42 116
def T7_58 : St := si T7_57 7 43 104
def T7_59 : St := si T7_58 7 44 114
def T7_60 : St := si T7_59 7 45 101
def T7_61 : St := si T7_60 7 46 97
def T7_62 : St := si T7_61 7 47 100
def T7_63 : St := si T7_62 7 48 32
def T7_64 : St := si T7_63 7 49 111
def T7_65 : St := si T7_64 7 50 114
def T7_66 : St := si T7_65 7 51 32
def T7_67 : St := si T7_66 7 52 97
def T7_68 : St := si T7_67 7 53 110
def T7_69 : St := si T7_68 7 54 100
def T7_70 : St := si T7_69 7 55 32
def T7_71 : St := si T7_70 7 56 110
def T7_72 : St := si T7_71 7 57 111
def T7_73 : St := si T7_72 7 58 116
def T7_74 : St := si T7_73 7 59 32
def T7_75 : St := sr T7_74 0 18 (some 7)
def T7_76 : St := sN T7_75 8 170
def T7_77 : St := sr T7_76 0 19 (some 8)
def T7_78 : St := sN T7_77 9 6
def T7_79 : St := sr T7_78 0 20 (some 9)
def T7_80 : St := sN T7_79 10 12
def T7_81 : St := sr T7_80 0 22 (some 10)
def T7_82 : St := sN T7_81 11 12
def T7_83 : St := sr T7_82 0 23 (some 11)
def T7_84 : St := sN T7_83 12 12
def T7_85 : St := sr T7_84 0 24 (some 12)
def T7_86 : St := sN T7_85 13 14
def T7_87 : St := sr T7_86 0 25 (some 13)
def T7_88 : St := sN T7_87 14 20
def T7_89 : St := sr T7_88 0 32 (some 14)
def T7_90 : St := sN T7_89 15 3
def T7_91 : St := sr T7_90 0 33 (some 15)
def T7_92 : St := sN T7_91 16 4
def T7_93 : St := sr T7_92 0 34 (some 16)
def T7_94 : St := sN T7_93 17 4
def T7_95 : St := sr T7_94 0 35 (some 17)
def T7_96 : St := sN T7_95 18 160
def T7_97 : St := sr T7_96 0 36 (some 18)
def T7_98 : St := sN T7_97 19 40
def T7_99 : St := sr T7_98 0 37 (some 19)
def T7_100 : St := sN T7_99 20 21
def T7_101 : St := si T7_100 20 0 (-1)
def T7_102 : St := si T7_101 20 1 2
def T7_103 : St := si T7_102 20 2 (-142)
def T7_104 : St := si T7_103 20 3 (-2)
def T7_105 : St := si T7_104 20 4 (-143)
def T7_106 : St := si T7_105 20 5 20
def T7_107 : St := si T7_106 20 6 (-145)
def T7_108 : St := si T7_107 20 7 (-1)
def T7_109 : St := si T7_108 20 8 50
def T7_110 : St := si T7_109 20 9 (-145)
def T7_111 : St := si T7_110 20 10 (-2)
def T7_112 : St := si T7_111 20 11 2
def T7_113 : St := si T7_112 20 12 (-142)
def T7_114 : St := si T7_113 20 13 (-145)
def T7_115 : St := si T7_114 20 14 (-3)
def T7_116 : St := si T7_115 20 15 (-145)
def T7_117 : St := si T7_116 20 16 60
def T7_118 : St := si T7_117 20 17 (-6)
def T7_119 : St := si T7_118 20 18 (-145)
def T7_120 : St := si T7_119 20 19 (-1)
def T7_121 : St := si T7_120 20 20 (-143)
def T7_122 : St := si T7_121 4 0 (-1)
def T7_123 : St := si T7_122 4 1 2
def T7_124 : St := si T7_123 4 2 (-142)
def T7_125 : St := si T7_124 4 3 (-2)
def T7_126 : St := si T7_125 4 4 (-143)
def T7_127 : St := si T7_126 4 5 20
def T7_128 : St := si T7_127 4 6 (-145)
def T7_129 : St := si T7_128 4 7 (-1)
def T7_130 : St := si T7_129 4 8 50
def T7_131 : St := si T7_130 4 9 (-145)
def T7_132 : St := si T7_131 4 10 (-2)
def T7_133 : St := si T7_132 4 11 2
def T7_134 : St := si T7_133 4 12 (-142)
def T7_135 : St := si T7_134 4 13 (-145)
def T7_136 : St := si T7_135 4 14 (-3)
def T7_137 : St := si T7_136 4 15 (-145)
def T7_138 : St := si T7_137 4 16 60
def T7_139 : St := si T7_138 4 17 (-6)
def T7_140 : St := si T7_139 4 18 (-145)
def T7_141 : St := si T7_140 4 19 (-1)
def T7_142 : St := si T7_141 4 20 (-143)
def T7_143 : St := si T7_142 5 0 0
def T7_144 : St := si T7_143 6 0 7
def T7_145 : St := si T7_144 5 1 7
def T7_146 : St := si T7_145 6 1 16
def T7_147 : St := si T7_146 5 2 16
def T7_148 : St := si T7_147 6 2 21
def T7_149 : St := si T7_148 0 5 1
def T7_150 : St := si T7_149 2 0 4
def T7_151 : St := si T7_150 2 1 20
def T7_152 : St := si T7_151 2 2 3
def T7_153 : St := si T7_152 16 0 (-1)
def T7_154 : St := si T7_153 16 1 (-1)
def T7_155 : St := si T7_154 16 2 (-1)
def T7_156 : St := si T7_155 16 3 (-1)
def T7 : St := T7_156
theorem T7_refs : ∀ k, k < 38 → ftM 7 k = 2 → gr T7 0 k = rcM T7 0 k := by decide +kernel
theorem YN_YM {cs : Nat → ClassId} {ad : Nat → Nat} {o : Nat} (ho : o < 20) : EQ2 (en YN cs ad T7 o) (en YM cs ad T7 o) := by
  refine Or.inl ?_
  by_cases h0 : o = 0
  · subst h0
    show Sum.inr (7, (List.range 38).map (fv YN ad T7 7 0)) = Sum.inr (7, (List.range 38).map (fv YM ad T7 7 0))
    refine congrArg (fun z => (Sum.inr (7, z) : va_E)) (List.map_congr_left (fun k hk => ?_))
    have hk : k < 38 := List.mem_range.mp hk
    unfold fv
    show (if ftM 7 k = 0 then Value.int (gi T7 0 k) else if ftM 7 k = 1 then .long (gl T7 0) else va_rf ((gr T7 0 k).map ad)) = (if ftM 7 k = 0 then Value.int (gi T7 0 k) else if ftM 7 k = 1 then .long (gl T7 0) else va_rf ((rcM T7 0 k).map ad))
    by_cases q0 : ftM 7 k = 0
    · rw [if_pos q0, if_pos q0]
    · by_cases q1 : ftM 7 k = 1
      · rw [if_neg q0, if_neg q0, if_pos q1, if_pos q1]
      · have q2 : ftM 7 k = 2 := by
          have key : ∀ k, k < 38 → ftM 7 k = 0 ∨ ftM 7 k = 1 ∨ ftM 7 k = 2 := by decide +kernel
          rcases key k hk with q | q | q
          · exact absurd q q0
          · exact absurd q q1
          · exact q
        rw [if_neg q0, if_neg q0, if_neg q1, if_neg q1, T7_refs k hk q2]
  · have e1 : kdN o = 20 + o := by unfold kdN kdM; rw [if_neg (by omega), if_neg h0]
    have e2 : kdM o = 20 + o := by unfold kdM; rw [if_neg h0]
    have e3 : lnN T7 (20 + o) o = lnM T7 (20 + o) o := by unfold lnN; rw [if_neg (by omega)]
    unfold en
    show eb YN cs ad T7 (kdN o) o = eb YM cs ad T7 (kdM o) o
    rw [e1, e2]
    unfold eb
    rw [if_neg (show ¬ 20 + o < 20 by omega), if_neg (show ¬ 20 + o < 20 by omega), if_pos (show 20 + o < 60 by omega), if_pos (show 20 + o < 60 by omega)]
    show Sum.inl (cs (acM (20 + o)), lnN T7 (20 + o) o, _) = Sum.inl (cs (acM (20 + o)), lnM T7 (20 + o) o, _)
    rw [e3]
set_option maxHeartbeats 16000000 in
set_option maxRecDepth 20000 in
theorem m_X7_init {Γ : Gm} {ad : Nat → Nat} (l : Launch) : Met l yX7_init (Cond.code yX7_init cX7_init 3 none :: TB) (rmL 1 20 4333) (va_Pc [.ref (ad 0)] (fun U => WC Γ YN 1 ad (sN z0 0 0) U ∧ RO 1 (sN z0 0 0))) (va_Qv (fun u => u = T7) (fun u t => ∃ a1 : Nat → Nat, (∀ o, o < 1 → a1 o = ad o) ∧ WC Γ YM 20 a1 u t) (AA Γ)) 20 4333 (AA Γ) := by
  refine g_startG (by decide) (Nat.le_of_ble_eq_true rfl) ?_
  intro p e s m args below meth c ls hc hr hin hl hw hRO
  have hc : CX Γ p s m args meth c cX7_init RX7 3 := hc
  have hl : lv_has ls 3 [(0, .ref (ad 0))] := hl
  have hin : meth.name = "<init>" := hin
  have hx := hc.1
  have hb := hc.2.1
  have hagT : ∀ o, o < 1 → ad o = ad o := fun _ _ => rfl
  generalize hHH : s.heap = H0 at hw ⊢
  have hw : WH Γ YN 1 ad T7_1 s H0 [] := hw
  have hRO : RO 1 T7_1 := hRO
  refine lv_aload_n hx hb dX7_init_0 rfl (lv_at hl 0 rfl) ?_
  refine g_obj q_955 q_96 q_97 hc hl.1 ⟨Nat.le_of_ble_eq_true rfl, Nat.le_of_ble_eq_true rfl⟩ (Nat.le_of_ble_eq_true rfl) dX7_init_1 ?_
  refine lv_aload_n hx hb dX7_init_4 rfl (lv_at hl 0 rfl) ?_
  refine lv_bipush (v := 20) hx hb dX7_init_5 (by decide) ?_
  refine g_newa (Y := YN) (M := 1) (N := 20) (kd := 21) rfl (fun _ _ _ => rfl) q_141 rfl (by decide) (by decide) rfl rfl hRO hc hw (by decide) (by decide) (by decide) (Nat.le_of_ble_eq_true rfl) (Nat.le_of_ble_eq_true rfl) dX7_init_7 (fun ad1 H hgad1 hw => ?_)
  have hRO : RO 2 T7_2 := RO_sN (n := 20) hRO
  have hl : lv_has ls 3 [(0, .ref (ad1 0))] := by rw [hgad1 0 (by omega)]; exact hl
  refine W.eq (g2 := F0 m (7 + 2) ls [.ref (ad1 1), .ref (ad1 0)]) (by rw [hgad1 0 (by omega)]) ?_
  have hagT : ∀ o, o < 1 → ad1 o = ad o := fun o ho => (hgad1 o (by omega)).trans (hagT o ho)
  have hw : WH Γ YN 2 ad1 T7_2 s H [] := hw
  refine g_putF (Y := YN) (o := 0) (ci := 7) (N := 38) (k := 1) (C := RX7) (T := TX7) (ty0 := tyX7) (τ := T7_3) rfl inT7 tyX7_ok nmX7 rfl (by decide) (by decide) q_957 rfl rfl hin rfl rfl rfl hc hw (by omega) rfl (en_srG (v := some 1) rfl lnN_st rfl (by decide) ⟨by decide, by decide⟩) dX7_init_9 (fun H L3 hw => ?_)
  have hRO : RO 2 T7_3 := RO_sr (o := 0) (k := 1) (r := 1) hRO (by omega)
  refine lv_aload_n hx hb dX7_init_12 rfl (lv_at hl 0 rfl) ?_
  refine lv_iconst (v := 3) hx hb dX7_init_13 (by decide) ?_
  refine g_newa (Y := YN) (M := 2) (N := 3) (kd := 22) rfl (fun _ _ _ => rfl) q_141 rfl (by decide) (by decide) rfl rfl hRO hc hw (by decide) (by decide) (by decide) (Nat.le_of_ble_eq_true rfl) (Nat.le_of_ble_eq_true rfl) dX7_init_14 (fun ad2 H hgad2 hw => ?_)
  have hRO : RO 3 T7_4 := RO_sN (n := 3) hRO
  have hl : lv_has ls 3 [(0, .ref (ad2 0))] := by rw [hgad2 0 (by omega)]; exact hl
  refine W.eq (g2 := F0 m (14 + 2) ls [.ref (ad2 2), .ref (ad2 0)]) (by rw [hgad2 0 (by omega)]) ?_
  have hagT : ∀ o, o < 1 → ad2 o = ad o := fun o ho => (hgad2 o (by omega)).trans (hagT o ho)
  have hw : WH Γ YN 3 ad2 T7_4 s H L3 := hw
  refine g_putF (Y := YN) (o := 0) (ci := 7) (N := 38) (k := 2) (C := RX7) (T := TX7) (ty0 := tyX7) (τ := T7_5) rfl inT7 tyX7_ok nmX7 rfl (by decide) (by decide) q_958 rfl rfl hin rfl rfl rfl hc hw (by omega) rfl (en_srG (v := some 2) rfl lnN_st rfl (by decide) ⟨by decide, by decide⟩) dX7_init_16 (fun H L5 hw => ?_)
  have hRO : RO 3 T7_5 := RO_sr (o := 0) (k := 2) (r := 2) hRO (by omega)
  refine lv_aload_n hx hb dX7_init_19 rfl (lv_at hl 0 rfl) ?_
  refine lv_sipush (v := 160) hx hb dX7_init_20 (by decide) ?_
  refine g_newa (Y := YN) (M := 3) (N := 160) (kd := 23) rfl (fun _ _ _ => rfl) q_141 rfl (by decide) (by decide) rfl rfl hRO hc hw (by decide) (by decide) (by decide) (Nat.le_of_ble_eq_true rfl) (Nat.le_of_ble_eq_true rfl) dX7_init_23 (fun ad3 H hgad3 hw => ?_)
  have hRO : RO 4 T7_6 := RO_sN (n := 160) hRO
  have hl : lv_has ls 3 [(0, .ref (ad3 0))] := by rw [hgad3 0 (by omega)]; exact hl
  refine W.eq (g2 := F0 m (23 + 2) ls [.ref (ad3 3), .ref (ad3 0)]) (by rw [hgad3 0 (by omega)]) ?_
  have hagT : ∀ o, o < 1 → ad3 o = ad o := fun o ho => (hgad3 o (by omega)).trans (hagT o ho)
  have hw : WH Γ YN 4 ad3 T7_6 s H L5 := hw
  refine g_putF (Y := YN) (o := 0) (ci := 7) (N := 38) (k := 3) (C := RX7) (T := TX7) (ty0 := tyX7) (τ := T7_7) rfl inT7 tyX7_ok nmX7 rfl (by decide) (by decide) q_959 rfl rfl hin rfl rfl rfl hc hw (by omega) rfl (en_srG (v := some 3) rfl lnN_st rfl (by decide) ⟨by decide, by decide⟩) dX7_init_25 (fun H L7 hw => ?_)
  have hRO : RO 4 T7_7 := RO_sr (o := 0) (k := 3) (r := 3) hRO (by omega)
  refine lv_aload_n hx hb dX7_init_28 rfl (lv_at hl 0 rfl) ?_
  refine lv_sipush (v := 3570) hx hb dX7_init_29 (by decide) ?_
  refine g_newa (Y := YN) (M := 4) (N := 3570) (kd := 24) rfl (fun _ _ _ => rfl) q_141 rfl (by decide) (by decide) rfl rfl hRO hc hw (by decide) (by decide) (by decide) (Nat.le_of_ble_eq_true rfl) (Nat.le_of_ble_eq_true rfl) dX7_init_32 (fun ad4 H hgad4 hw => ?_)
  have hRO : RO 5 T7_8 := RO_sN (n := 3570) hRO
  have hl : lv_has ls 3 [(0, .ref (ad4 0))] := by rw [hgad4 0 (by omega)]; exact hl
  refine W.eq (g2 := F0 m (32 + 2) ls [.ref (ad4 4), .ref (ad4 0)]) (by rw [hgad4 0 (by omega)]) ?_
  have hagT : ∀ o, o < 1 → ad4 o = ad o := fun o ho => (hgad4 o (by omega)).trans (hagT o ho)
  have hw : WH Γ YN 5 ad4 T7_8 s H L7 := hw
  refine g_putF (Y := YN) (o := 0) (ci := 7) (N := 38) (k := 7) (C := RX7) (T := TX7) (ty0 := tyX7) (τ := T7_9) rfl inT7 tyX7_ok nmX7 rfl (by decide) (by decide) q_963 rfl rfl hin rfl rfl rfl hc hw (by omega) rfl (en_srG (v := some 4) rfl lnN_st rfl (by decide) ⟨by decide, by decide⟩) dX7_init_34 (fun H L9 hw => ?_)
  have hRO : RO 5 T7_9 := RO_sr (o := 0) (k := 7) (r := 4) hRO (by omega)
  refine lv_aload_n hx hb dX7_init_37 rfl (lv_at hl 0 rfl) ?_
  refine lv_bipush (v := 21) hx hb dX7_init_38 (by decide) ?_
  refine g_newa (Y := YN) (M := 5) (N := 21) (kd := 25) rfl (fun _ _ _ => rfl) q_141 rfl (by decide) (by decide) rfl rfl hRO hc hw (by decide) (by decide) (by decide) (Nat.le_of_ble_eq_true rfl) (Nat.le_of_ble_eq_true rfl) dX7_init_40 (fun ad5 H hgad5 hw => ?_)
  have hRO : RO 6 T7_10 := RO_sN (n := 21) hRO
  have hl : lv_has ls 3 [(0, .ref (ad5 0))] := by rw [hgad5 0 (by omega)]; exact hl
  refine W.eq (g2 := F0 m (40 + 2) ls [.ref (ad5 5), .ref (ad5 0)]) (by rw [hgad5 0 (by omega)]) ?_
  have hagT : ∀ o, o < 1 → ad5 o = ad o := fun o ho => (hgad5 o (by omega)).trans (hagT o ho)
  have hw : WH Γ YN 6 ad5 T7_10 s H L9 := hw
  refine g_putF (Y := YN) (o := 0) (ci := 7) (N := 38) (k := 8) (C := RX7) (T := TX7) (ty0 := tyX7) (τ := T7_11) rfl inT7 tyX7_ok nmX7 rfl (by decide) (by decide) q_964 rfl rfl hin rfl rfl rfl hc hw (by omega) rfl (en_srG (v := some 5) rfl lnN_st rfl (by decide) ⟨by decide, by decide⟩) dX7_init_42 (fun H L11 hw => ?_)
  have hRO : RO 6 T7_11 := RO_sr (o := 0) (k := 8) (r := 5) hRO (by omega)
  refine lv_aload_n hx hb dX7_init_45 rfl (lv_at hl 0 rfl) ?_
  refine lv_bipush (v := 21) hx hb dX7_init_46 (by decide) ?_
  refine g_newa (Y := YN) (M := 6) (N := 21) (kd := 26) rfl (fun _ _ _ => rfl) q_141 rfl (by decide) (by decide) rfl rfl hRO hc hw (by decide) (by decide) (by decide) (Nat.le_of_ble_eq_true rfl) (Nat.le_of_ble_eq_true rfl) dX7_init_48 (fun ad6 H hgad6 hw => ?_)
  have hRO : RO 7 T7_12 := RO_sN (n := 21) hRO
  have hl : lv_has ls 3 [(0, .ref (ad6 0))] := by rw [hgad6 0 (by omega)]; exact hl
  refine W.eq (g2 := F0 m (48 + 2) ls [.ref (ad6 6), .ref (ad6 0)]) (by rw [hgad6 0 (by omega)]) ?_
  have hagT : ∀ o, o < 1 → ad6 o = ad o := fun o ho => (hgad6 o (by omega)).trans (hagT o ho)
  have hw : WH Γ YN 7 ad6 T7_12 s H L11 := hw
  refine g_putF (Y := YN) (o := 0) (ci := 7) (N := 38) (k := 9) (C := RX7) (T := TX7) (ty0 := tyX7) (τ := T7_13) rfl inT7 tyX7_ok nmX7 rfl (by decide) (by decide) q_965 rfl rfl hin rfl rfl rfl hc hw (by omega) rfl (en_srG (v := some 6) rfl lnN_st rfl (by decide) ⟨by decide, by decide⟩) dX7_init_50 (fun H L13 hw => ?_)
  have hRO : RO 7 T7_13 := RO_sr (o := 0) (k := 9) (r := 6) hRO (by omega)
  refine lv_aload_n hx hb dX7_init_53 rfl (lv_at hl 0 rfl) ?_
  refine lv_bipush (v := 60) hx hb dX7_init_54 (by decide) ?_
  refine g_newac (Y := YN) (M := 7) (N := 60) (kd := 27) rfl (fun _ _ _ => rfl) q_1071 rfl (by decide) (by decide) rfl rfl hRO hc hw (by decide) (by decide) (by decide) (Nat.le_of_ble_eq_true rfl) (Nat.le_of_ble_eq_true rfl) dX7_init_56 (fun ad7 H hgad7 hw => ?_)
  have hRO : RO 8 T7_14 := RO_sN (n := 60) hRO
  have hl : lv_has ls 3 [(0, .ref (ad7 0))] := by rw [hgad7 0 (by omega)]; exact hl
  refine W.eq (g2 := F0 m (56 + 2) ls [.ref (ad7 7), .ref (ad7 0)]) (by rw [hgad7 0 (by omega)]) ?_
  have hagT : ∀ o, o < 1 → ad7 o = ad o := fun o ho => (hgad7 o (by omega)).trans (hagT o ho)
  have hw : WH Γ YN 8 ad7 T7_14 s H L13 := hw
  refine lv_dup hx hb dX7_init_58 rfl ?_
  refine lv_iconst (v := 0) hx hb dX7_init_59 (by decide) ?_
  refine lv_bipush (v := 104) hx hb dX7_init_60 (by decide) ?_
  refine g_castK (Y := YN) (kd := 27) (n := 60) (k := 0) (o := 7) (v := 104) YN_ok (by decide) (by decide) rfl hc hw (by omega) rfl rfl (vp_in_lit (by decide)) (by decide) (by decide) dX7_init_62 (fun σ_ H L15 e_ hw => ?_)
  subst e_
  have hRO : RO 8 T7_15 := RO_si (o := 7) (k := 0) (v := 104) hRO
  have hw : WH Γ YN 8 ad7 T7_15 s H L15 := hw
  refine lv_dup hx hb dX7_init_63 rfl ?_
  refine lv_iconst (v := 1) hx hb dX7_init_64 (by decide) ?_
  refine lv_bipush (v := 101) hx hb dX7_init_65 (by decide) ?_
  refine g_castK (Y := YN) (kd := 27) (n := 60) (k := 1) (o := 7) (v := 101) YN_ok (by decide) (by decide) rfl hc hw (by omega) rfl rfl (vp_in_lit (by decide)) (by decide) (by decide) dX7_init_67 (fun σ_ H L16 e_ hw => ?_)
  subst e_
  have hRO : RO 8 T7_16 := RO_si (o := 7) (k := 1) (v := 101) hRO
  have hw : WH Γ YN 8 ad7 T7_16 s H L16 := hw
  refine lv_dup hx hb dX7_init_68 rfl ?_
  refine lv_iconst (v := 2) hx hb dX7_init_69 (by decide) ?_
  refine lv_bipush (v := 97) hx hb dX7_init_70 (by decide) ?_
  refine g_castK (Y := YN) (kd := 27) (n := 60) (k := 2) (o := 7) (v := 97) YN_ok (by decide) (by decide) rfl hc hw (by omega) rfl rfl (vp_in_lit (by decide)) (by decide) (by decide) dX7_init_72 (fun σ_ H L17 e_ hw => ?_)
  subst e_
  have hRO : RO 8 T7_17 := RO_si (o := 7) (k := 2) (v := 97) hRO
  have hw : WH Γ YN 8 ad7 T7_17 s H L17 := hw
  refine lv_dup hx hb dX7_init_73 rfl ?_
  refine lv_iconst (v := 3) hx hb dX7_init_74 (by decide) ?_
  refine lv_bipush (v := 116) hx hb dX7_init_75 (by decide) ?_
  refine g_castK (Y := YN) (kd := 27) (n := 60) (k := 3) (o := 7) (v := 116) YN_ok (by decide) (by decide) rfl hc hw (by omega) rfl rfl (vp_in_lit (by decide)) (by decide) (by decide) dX7_init_77 (fun σ_ H L18 e_ hw => ?_)
  subst e_
  have hRO : RO 8 T7_18 := RO_si (o := 7) (k := 3) (v := 116) hRO
  have hw : WH Γ YN 8 ad7 T7_18 s H L18 := hw
  refine lv_dup hx hb dX7_init_78 rfl ?_
  refine lv_iconst (v := 4) hx hb dX7_init_79 (by decide) ?_
  refine lv_bipush (v := 32) hx hb dX7_init_80 (by decide) ?_
  refine g_castK (Y := YN) (kd := 27) (n := 60) (k := 4) (o := 7) (v := 32) YN_ok (by decide) (by decide) rfl hc hw (by omega) rfl rfl (vp_in_lit (by decide)) (by decide) (by decide) dX7_init_82 (fun σ_ H L19 e_ hw => ?_)
  subst e_
  have hRO : RO 8 T7_19 := RO_si (o := 7) (k := 4) (v := 32) hRO
  have hw : WH Γ YN 8 ad7 T7_19 s H L19 := hw
  refine lv_dup hx hb dX7_init_83 rfl ?_
  refine lv_iconst (v := 5) hx hb dX7_init_84 (by decide) ?_
  refine lv_bipush (v := 115) hx hb dX7_init_85 (by decide) ?_
  refine g_castK (Y := YN) (kd := 27) (n := 60) (k := 5) (o := 7) (v := 115) YN_ok (by decide) (by decide) rfl hc hw (by omega) rfl rfl (vp_in_lit (by decide)) (by decide) (by decide) dX7_init_87 (fun σ_ H L20 e_ hw => ?_)
  subst e_
  have hRO : RO 8 T7_20 := RO_si (o := 7) (k := 5) (v := 115) hRO
  have hw : WH Γ YN 8 ad7 T7_20 s H L20 := hw
  refine lv_dup hx hb dX7_init_88 rfl ?_
  refine lv_bipush (v := 6) hx hb dX7_init_89 (by decide) ?_
  refine lv_bipush (v := 111) hx hb dX7_init_91 (by decide) ?_
  refine g_castK (Y := YN) (kd := 27) (n := 60) (k := 6) (o := 7) (v := 111) YN_ok (by decide) (by decide) rfl hc hw (by omega) rfl rfl (vp_in_lit (by decide)) (by decide) (by decide) dX7_init_93 (fun σ_ H L21 e_ hw => ?_)
  subst e_
  have hRO : RO 8 T7_21 := RO_si (o := 7) (k := 6) (v := 111) hRO
  have hw : WH Γ YN 8 ad7 T7_21 s H L21 := hw
  refine lv_dup hx hb dX7_init_94 rfl ?_
  refine lv_bipush (v := 7) hx hb dX7_init_95 (by decide) ?_
  refine lv_bipush (v := 117) hx hb dX7_init_97 (by decide) ?_
  refine g_castK (Y := YN) (kd := 27) (n := 60) (k := 7) (o := 7) (v := 117) YN_ok (by decide) (by decide) rfl hc hw (by omega) rfl rfl (vp_in_lit (by decide)) (by decide) (by decide) dX7_init_99 (fun σ_ H L22 e_ hw => ?_)
  subst e_
  have hRO : RO 8 T7_22 := RO_si (o := 7) (k := 7) (v := 117) hRO
  have hw : WH Γ YN 8 ad7 T7_22 s H L22 := hw
  refine lv_dup hx hb dX7_init_100 rfl ?_
  refine lv_bipush (v := 8) hx hb dX7_init_101 (by decide) ?_
  refine lv_bipush (v := 114) hx hb dX7_init_103 (by decide) ?_
  refine g_castK (Y := YN) (kd := 27) (n := 60) (k := 8) (o := 7) (v := 114) YN_ok (by decide) (by decide) rfl hc hw (by omega) rfl rfl (vp_in_lit (by decide)) (by decide) (by decide) dX7_init_105 (fun σ_ H L23 e_ hw => ?_)
  subst e_
  have hRO : RO 8 T7_23 := RO_si (o := 7) (k := 8) (v := 114) hRO
  have hw : WH Γ YN 8 ad7 T7_23 s H L23 := hw
  refine lv_dup hx hb dX7_init_106 rfl ?_
  refine lv_bipush (v := 9) hx hb dX7_init_107 (by decide) ?_
  refine lv_bipush (v := 32) hx hb dX7_init_109 (by decide) ?_
  refine g_castK (Y := YN) (kd := 27) (n := 60) (k := 9) (o := 7) (v := 32) YN_ok (by decide) (by decide) rfl hc hw (by omega) rfl rfl (vp_in_lit (by decide)) (by decide) (by decide) dX7_init_111 (fun σ_ H L24 e_ hw => ?_)
  subst e_
  have hRO : RO 8 T7_24 := RO_si (o := 7) (k := 9) (v := 32) hRO
  have hw : WH Γ YN 8 ad7 T7_24 s H L24 := hw
  refine lv_dup hx hb dX7_init_112 rfl ?_
  refine lv_bipush (v := 10) hx hb dX7_init_113 (by decide) ?_
  refine lv_bipush (v := 115) hx hb dX7_init_115 (by decide) ?_
  refine g_castK (Y := YN) (kd := 27) (n := 60) (k := 10) (o := 7) (v := 115) YN_ok (by decide) (by decide) rfl hc hw (by omega) rfl rfl (vp_in_lit (by decide)) (by decide) (by decide) dX7_init_117 (fun σ_ H L25 e_ hw => ?_)
  subst e_
  have hRO : RO 8 T7_25 := RO_si (o := 7) (k := 10) (v := 115) hRO
  have hw : WH Γ YN 8 ad7 T7_25 s H L25 := hw
  refine lv_dup hx hb dX7_init_118 rfl ?_
  refine lv_bipush (v := 11) hx hb dX7_init_119 (by decide) ?_
  refine lv_bipush (v := 116) hx hb dX7_init_121 (by decide) ?_
  refine g_castK (Y := YN) (kd := 27) (n := 60) (k := 11) (o := 7) (v := 116) YN_ok (by decide) (by decide) rfl hc hw (by omega) rfl rfl (vp_in_lit (by decide)) (by decide) (by decide) dX7_init_123 (fun σ_ H L26 e_ hw => ?_)
  subst e_
  have hRO : RO 8 T7_26 := RO_si (o := 7) (k := 11) (v := 116) hRO
  have hw : WH Γ YN 8 ad7 T7_26 s H L26 := hw
  refine lv_dup hx hb dX7_init_124 rfl ?_
  refine lv_bipush (v := 12) hx hb dX7_init_125 (by decide) ?_
  refine lv_bipush (v := 97) hx hb dX7_init_127 (by decide) ?_
  refine g_castK (Y := YN) (kd := 27) (n := 60) (k := 12) (o := 7) (v := 97) YN_ok (by decide) (by decide) rfl hc hw (by omega) rfl rfl (vp_in_lit (by decide)) (by decide) (by decide) dX7_init_129 (fun σ_ H L27 e_ hw => ?_)
  subst e_
  have hRO : RO 8 T7_27 := RO_si (o := 7) (k := 12) (v := 97) hRO
  have hw : WH Γ YN 8 ad7 T7_27 s H L27 := hw
  refine lv_dup hx hb dX7_init_130 rfl ?_
  refine lv_bipush (v := 13) hx hb dX7_init_131 (by decide) ?_
  refine lv_bipush (v := 114) hx hb dX7_init_133 (by decide) ?_
  refine g_castK (Y := YN) (kd := 27) (n := 60) (k := 13) (o := 7) (v := 114) YN_ok (by decide) (by decide) rfl hc hw (by omega) rfl rfl (vp_in_lit (by decide)) (by decide) (by decide) dX7_init_135 (fun σ_ H L28 e_ hw => ?_)
  subst e_
  have hRO : RO 8 T7_28 := RO_si (o := 7) (k := 13) (v := 114) hRO
  have hw : WH Γ YN 8 ad7 T7_28 s H L28 := hw
  refine lv_dup hx hb dX7_init_136 rfl ?_
  refine lv_bipush (v := 14) hx hb dX7_init_137 (by decide) ?_
  refine lv_bipush (v := 99) hx hb dX7_init_139 (by decide) ?_
  refine g_castK (Y := YN) (kd := 27) (n := 60) (k := 14) (o := 7) (v := 99) YN_ok (by decide) (by decide) rfl hc hw (by omega) rfl rfl (vp_in_lit (by decide)) (by decide) (by decide) dX7_init_141 (fun σ_ H L29 e_ hw => ?_)
  subst e_
  have hRO : RO 8 T7_29 := RO_si (o := 7) (k := 14) (v := 99) hRO
  have hw : WH Γ YN 8 ad7 T7_29 s H L29 := hw
  refine lv_dup hx hb dX7_init_142 rfl ?_
  refine lv_bipush (v := 15) hx hb dX7_init_143 (by decide) ?_
  refine lv_bipush (v := 104) hx hb dX7_init_145 (by decide) ?_
  refine g_castK (Y := YN) (kd := 27) (n := 60) (k := 15) (o := 7) (v := 104) YN_ok (by decide) (by decide) rfl hc hw (by omega) rfl rfl (vp_in_lit (by decide)) (by decide) (by decide) dX7_init_147 (fun σ_ H L30 e_ hw => ?_)
  subst e_
  have hRO : RO 8 T7_30 := RO_si (o := 7) (k := 15) (v := 104) hRO
  have hw : WH Γ YN 8 ad7 T7_30 s H L30 := hw
  refine lv_dup hx hb dX7_init_148 rfl ?_
  refine lv_bipush (v := 16) hx hb dX7_init_149 (by decide) ?_
  refine lv_bipush (v := 32) hx hb dX7_init_151 (by decide) ?_
  refine g_castK (Y := YN) (kd := 27) (n := 60) (k := 16) (o := 7) (v := 32) YN_ok (by decide) (by decide) rfl hc hw (by omega) rfl rfl (vp_in_lit (by decide)) (by decide) (by decide) dX7_init_153 (fun σ_ H L31 e_ hw => ?_)
  subst e_
  have hRO : RO 8 T7_31 := RO_si (o := 7) (k := 16) (v := 32) hRO
  have hw : WH Γ YN 8 ad7 T7_31 s H L31 := hw
  refine lv_dup hx hb dX7_init_154 rfl ?_
  refine lv_bipush (v := 17) hx hb dX7_init_155 (by decide) ?_
  refine lv_bipush (v := 119) hx hb dX7_init_157 (by decide) ?_
  refine g_castK (Y := YN) (kd := 27) (n := 60) (k := 17) (o := 7) (v := 119) YN_ok (by decide) (by decide) rfl hc hw (by omega) rfl rfl (vp_in_lit (by decide)) (by decide) (by decide) dX7_init_159 (fun σ_ H L32 e_ hw => ?_)
  subst e_
  have hRO : RO 8 T7_32 := RO_si (o := 7) (k := 17) (v := 119) hRO
  have hw : WH Γ YN 8 ad7 T7_32 s H L32 := hw
  refine lv_dup hx hb dX7_init_160 rfl ?_
  refine lv_bipush (v := 18) hx hb dX7_init_161 (by decide) ?_
  refine lv_bipush (v := 97) hx hb dX7_init_163 (by decide) ?_
  refine g_castK (Y := YN) (kd := 27) (n := 60) (k := 18) (o := 7) (v := 97) YN_ok (by decide) (by decide) rfl hc hw (by omega) rfl rfl (vp_in_lit (by decide)) (by decide) (by decide) dX7_init_165 (fun σ_ H L33 e_ hw => ?_)
  subst e_
  have hRO : RO 8 T7_33 := RO_si (o := 7) (k := 18) (v := 97) hRO
  have hw : WH Γ YN 8 ad7 T7_33 s H L33 := hw
  refine lv_dup hx hb dX7_init_166 rfl ?_
  refine lv_bipush (v := 19) hx hb dX7_init_167 (by decide) ?_
  refine lv_bipush (v := 116) hx hb dX7_init_169 (by decide) ?_
  refine g_castK (Y := YN) (kd := 27) (n := 60) (k := 19) (o := 7) (v := 116) YN_ok (by decide) (by decide) rfl hc hw (by omega) rfl rfl (vp_in_lit (by decide)) (by decide) (by decide) dX7_init_171 (fun σ_ H L34 e_ hw => ?_)
  subst e_
  have hRO : RO 8 T7_34 := RO_si (o := 7) (k := 19) (v := 116) hRO
  have hw : WH Γ YN 8 ad7 T7_34 s H L34 := hw
  refine lv_dup hx hb dX7_init_172 rfl ?_
  refine lv_bipush (v := 20) hx hb dX7_init_173 (by decide) ?_
  refine lv_bipush (v := 101) hx hb dX7_init_175 (by decide) ?_
  refine g_castK (Y := YN) (kd := 27) (n := 60) (k := 20) (o := 7) (v := 101) YN_ok (by decide) (by decide) rfl hc hw (by omega) rfl rfl (vp_in_lit (by decide)) (by decide) (by decide) dX7_init_177 (fun σ_ H L35 e_ hw => ?_)
  subst e_
  have hRO : RO 8 T7_35 := RO_si (o := 7) (k := 20) (v := 101) hRO
  have hw : WH Γ YN 8 ad7 T7_35 s H L35 := hw
  refine lv_dup hx hb dX7_init_178 rfl ?_
  refine lv_bipush (v := 21) hx hb dX7_init_179 (by decide) ?_
  refine lv_bipush (v := 114) hx hb dX7_init_181 (by decide) ?_
  refine g_castK (Y := YN) (kd := 27) (n := 60) (k := 21) (o := 7) (v := 114) YN_ok (by decide) (by decide) rfl hc hw (by omega) rfl rfl (vp_in_lit (by decide)) (by decide) (by decide) dX7_init_183 (fun σ_ H L36 e_ hw => ?_)
  subst e_
  have hRO : RO 8 T7_36 := RO_si (o := 7) (k := 21) (v := 114) hRO
  have hw : WH Γ YN 8 ad7 T7_36 s H L36 := hw
  refine lv_dup hx hb dX7_init_184 rfl ?_
  refine lv_bipush (v := 22) hx hb dX7_init_185 (by decide) ?_
  refine lv_bipush (v := 32) hx hb dX7_init_187 (by decide) ?_
  refine g_castK (Y := YN) (kd := 27) (n := 60) (k := 22) (o := 7) (v := 32) YN_ok (by decide) (by decide) rfl hc hw (by omega) rfl rfl (vp_in_lit (by decide)) (by decide) (by decide) dX7_init_189 (fun σ_ H L37 e_ hw => ?_)
  subst e_
  have hRO : RO 8 T7_37 := RO_si (o := 7) (k := 22) (v := 32) hRO
  have hw : WH Γ YN 8 ad7 T7_37 s H L37 := hw
  refine lv_dup hx hb dX7_init_190 rfl ?_
  refine lv_bipush (v := 23) hx hb dX7_init_191 (by decide) ?_
  refine lv_bipush (v := 102) hx hb dX7_init_193 (by decide) ?_
  refine g_castK (Y := YN) (kd := 27) (n := 60) (k := 23) (o := 7) (v := 102) YN_ok (by decide) (by decide) rfl hc hw (by omega) rfl rfl (vp_in_lit (by decide)) (by decide) (by decide) dX7_init_195 (fun σ_ H L38 e_ hw => ?_)
  subst e_
  have hRO : RO 8 T7_38 := RO_si (o := 7) (k := 23) (v := 102) hRO
  have hw : WH Γ YN 8 ad7 T7_38 s H L38 := hw
  refine lv_dup hx hb dX7_init_196 rfl ?_
  refine lv_bipush (v := 24) hx hb dX7_init_197 (by decide) ?_
  refine lv_bipush (v := 97) hx hb dX7_init_199 (by decide) ?_
  refine g_castK (Y := YN) (kd := 27) (n := 60) (k := 24) (o := 7) (v := 97) YN_ok (by decide) (by decide) rfl hc hw (by omega) rfl rfl (vp_in_lit (by decide)) (by decide) (by decide) dX7_init_201 (fun σ_ H L39 e_ hw => ?_)
  subst e_
  have hRO : RO 8 T7_39 := RO_si (o := 7) (k := 24) (v := 97) hRO
  have hw : WH Γ YN 8 ad7 T7_39 s H L39 := hw
  refine lv_dup hx hb dX7_init_202 rfl ?_
  refine lv_bipush (v := 25) hx hb dX7_init_203 (by decide) ?_
  refine lv_bipush (v := 116) hx hb dX7_init_205 (by decide) ?_
  refine g_castK (Y := YN) (kd := 27) (n := 60) (k := 25) (o := 7) (v := 116) YN_ok (by decide) (by decide) rfl hc hw (by omega) rfl rfl (vp_in_lit (by decide)) (by decide) (by decide) dX7_init_207 (fun σ_ H L40 e_ hw => ?_)
  subst e_
  have hRO : RO 8 T7_40 := RO_si (o := 7) (k := 25) (v := 116) hRO
  have hw : WH Γ YN 8 ad7 T7_40 s H L40 := hw
  refine lv_dup hx hb dX7_init_208 rfl ?_
  refine lv_bipush (v := 26) hx hb dX7_init_209 (by decide) ?_
  refine lv_bipush (v := 32) hx hb dX7_init_211 (by decide) ?_
  refine g_castK (Y := YN) (kd := 27) (n := 60) (k := 26) (o := 7) (v := 32) YN_ok (by decide) (by decide) rfl hc hw (by omega) rfl rfl (vp_in_lit (by decide)) (by decide) (by decide) dX7_init_213 (fun σ_ H L41 e_ hw => ?_)
  subst e_
  have hRO : RO 8 T7_41 := RO_si (o := 7) (k := 26) (v := 32) hRO
  have hw : WH Γ YN 8 ad7 T7_41 s H L41 := hw
  refine lv_dup hx hb dX7_init_214 rfl ?_
  refine lv_bipush (v := 27) hx hb dX7_init_215 (by decide) ?_
  refine lv_bipush (v := 97) hx hb dX7_init_217 (by decide) ?_
  refine g_castK (Y := YN) (kd := 27) (n := 60) (k := 27) (o := 7) (v := 97) YN_ok (by decide) (by decide) rfl hc hw (by omega) rfl rfl (vp_in_lit (by decide)) (by decide) (by decide) dX7_init_219 (fun σ_ H L42 e_ hw => ?_)
  subst e_
  have hRO : RO 8 T7_42 := RO_si (o := 7) (k := 27) (v := 97) hRO
  have hw : WH Γ YN 8 ad7 T7_42 s H L42 := hw
  refine lv_dup hx hb dX7_init_220 rfl ?_
  refine lv_bipush (v := 28) hx hb dX7_init_221 (by decide) ?_
  refine lv_bipush (v := 103) hx hb dX7_init_223 (by decide) ?_
  refine g_castK (Y := YN) (kd := 27) (n := 60) (k := 28) (o := 7) (v := 103) YN_ok (by decide) (by decide) rfl hc hw (by omega) rfl rfl (vp_in_lit (by decide)) (by decide) (by decide) dX7_init_225 (fun σ_ H L43 e_ hw => ?_)
  subst e_
  have hRO : RO 8 T7_43 := RO_si (o := 7) (k := 28) (v := 103) hRO
  have hw : WH Γ YN 8 ad7 T7_43 s H L43 := hw
  refine lv_dup hx hb dX7_init_226 rfl ?_
  refine lv_bipush (v := 29) hx hb dX7_init_227 (by decide) ?_
  refine lv_bipush (v := 101) hx hb dX7_init_229 (by decide) ?_
  refine g_castK (Y := YN) (kd := 27) (n := 60) (k := 29) (o := 7) (v := 101) YN_ok (by decide) (by decide) rfl hc hw (by omega) rfl rfl (vp_in_lit (by decide)) (by decide) (by decide) dX7_init_231 (fun σ_ H L44 e_ hw => ?_)
  subst e_
  have hRO : RO 8 T7_44 := RO_si (o := 7) (k := 29) (v := 101) hRO
  have hw : WH Γ YN 8 ad7 T7_44 s H L44 := hw
  refine lv_dup hx hb dX7_init_232 rfl ?_
  refine lv_bipush (v := 30) hx hb dX7_init_233 (by decide) ?_
  refine lv_bipush (v := 32) hx hb dX7_init_235 (by decide) ?_
  refine g_castK (Y := YN) (kd := 27) (n := 60) (k := 30) (o := 7) (v := 32) YN_ok (by decide) (by decide) rfl hc hw (by omega) rfl rfl (vp_in_lit (by decide)) (by decide) (by decide) dX7_init_237 (fun σ_ H L45 e_ hw => ?_)
  subst e_
  have hRO : RO 8 T7_45 := RO_si (o := 7) (k := 30) (v := 32) hRO
  have hw : WH Γ YN 8 ad7 T7_45 s H L45 := hw
  refine lv_dup hx hb dX7_init_238 rfl ?_
  refine lv_bipush (v := 31) hx hb dX7_init_239 (by decide) ?_
  refine lv_bipush (v := 109) hx hb dX7_init_241 (by decide) ?_
  refine g_castK (Y := YN) (kd := 27) (n := 60) (k := 31) (o := 7) (v := 109) YN_ok (by decide) (by decide) rfl hc hw (by omega) rfl rfl (vp_in_lit (by decide)) (by decide) (by decide) dX7_init_243 (fun σ_ H L46 e_ hw => ?_)
  subst e_
  have hRO : RO 8 T7_46 := RO_si (o := 7) (k := 31) (v := 109) hRO
  have hw : WH Γ YN 8 ad7 T7_46 s H L46 := hw
  refine lv_dup hx hb dX7_init_244 rfl ?_
  refine lv_bipush (v := 32) hx hb dX7_init_245 (by decide) ?_
  refine lv_bipush (v := 101) hx hb dX7_init_247 (by decide) ?_
  refine g_castK (Y := YN) (kd := 27) (n := 60) (k := 32) (o := 7) (v := 101) YN_ok (by decide) (by decide) rfl hc hw (by omega) rfl rfl (vp_in_lit (by decide)) (by decide) (by decide) dX7_init_249 (fun σ_ H L47 e_ hw => ?_)
  subst e_
  have hRO : RO 8 T7_47 := RO_si (o := 7) (k := 32) (v := 101) hRO
  have hw : WH Γ YN 8 ad7 T7_47 s H L47 := hw
  refine lv_dup hx hb dX7_init_250 rfl ?_
  refine lv_bipush (v := 33) hx hb dX7_init_251 (by decide) ?_
  refine lv_bipush (v := 108) hx hb dX7_init_253 (by decide) ?_
  refine g_castK (Y := YN) (kd := 27) (n := 60) (k := 33) (o := 7) (v := 108) YN_ok (by decide) (by decide) rfl hc hw (by omega) rfl rfl (vp_in_lit (by decide)) (by decide) (by decide) dX7_init_255 (fun σ_ H L48 e_ hw => ?_)
  subst e_
  have hRO : RO 8 T7_48 := RO_si (o := 7) (k := 33) (v := 108) hRO
  have hw : WH Γ YN 8 ad7 T7_48 s H L48 := hw
  refine lv_dup hx hb dX7_init_256 rfl ?_
  refine lv_bipush (v := 34) hx hb dX7_init_257 (by decide) ?_
  refine lv_bipush (v := 116) hx hb dX7_init_259 (by decide) ?_
  refine g_castK (Y := YN) (kd := 27) (n := 60) (k := 34) (o := 7) (v := 116) YN_ok (by decide) (by decide) rfl hc hw (by omega) rfl rfl (vp_in_lit (by decide)) (by decide) (by decide) dX7_init_261 (fun σ_ H L49 e_ hw => ?_)
  subst e_
  have hRO : RO 8 T7_49 := RO_si (o := 7) (k := 34) (v := 116) hRO
  have hw : WH Γ YN 8 ad7 T7_49 s H L49 := hw
  refine lv_dup hx hb dX7_init_262 rfl ?_
  refine lv_bipush (v := 35) hx hb dX7_init_263 (by decide) ?_
  refine lv_bipush (v := 32) hx hb dX7_init_265 (by decide) ?_
  refine g_castK (Y := YN) (kd := 27) (n := 60) (k := 35) (o := 7) (v := 32) YN_ok (by decide) (by decide) rfl hc hw (by omega) rfl rfl (vp_in_lit (by decide)) (by decide) (by decide) dX7_init_267 (fun σ_ H L50 e_ hw => ?_)
  subst e_
  have hRO : RO 8 T7_50 := RO_si (o := 7) (k := 35) (v := 32) hRO
  have hw : WH Γ YN 8 ad7 T7_50 s H L50 := hw
  refine lv_dup hx hb dX7_init_268 rfl ?_
  refine lv_bipush (v := 36) hx hb dX7_init_269 (by decide) ?_
  refine lv_bipush (v := 115) hx hb dX7_init_271 (by decide) ?_
  refine g_castK (Y := YN) (kd := 27) (n := 60) (k := 36) (o := 7) (v := 115) YN_ok (by decide) (by decide) rfl hc hw (by omega) rfl rfl (vp_in_lit (by decide)) (by decide) (by decide) dX7_init_273 (fun σ_ H L51 e_ hw => ?_)
  subst e_
  have hRO : RO 8 T7_51 := RO_si (o := 7) (k := 36) (v := 115) hRO
  have hw : WH Γ YN 8 ad7 T7_51 s H L51 := hw
  refine lv_dup hx hb dX7_init_274 rfl ?_
  refine lv_bipush (v := 37) hx hb dX7_init_275 (by decide) ?_
  refine lv_bipush (v := 112) hx hb dX7_init_277 (by decide) ?_
  refine g_castK (Y := YN) (kd := 27) (n := 60) (k := 37) (o := 7) (v := 112) YN_ok (by decide) (by decide) rfl hc hw (by omega) rfl rfl (vp_in_lit (by decide)) (by decide) (by decide) dX7_init_279 (fun σ_ H L52 e_ hw => ?_)
  subst e_
  have hRO : RO 8 T7_52 := RO_si (o := 7) (k := 37) (v := 112) hRO
  have hw : WH Γ YN 8 ad7 T7_52 s H L52 := hw
  refine lv_dup hx hb dX7_init_280 rfl ?_
  refine lv_bipush (v := 38) hx hb dX7_init_281 (by decide) ?_
  refine lv_bipush (v := 108) hx hb dX7_init_283 (by decide) ?_
  refine g_castK (Y := YN) (kd := 27) (n := 60) (k := 38) (o := 7) (v := 108) YN_ok (by decide) (by decide) rfl hc hw (by omega) rfl rfl (vp_in_lit (by decide)) (by decide) (by decide) dX7_init_285 (fun σ_ H L53 e_ hw => ?_)
  subst e_
  have hRO : RO 8 T7_53 := RO_si (o := 7) (k := 38) (v := 108) hRO
  have hw : WH Γ YN 8 ad7 T7_53 s H L53 := hw
  refine lv_dup hx hb dX7_init_286 rfl ?_
  refine lv_bipush (v := 39) hx hb dX7_init_287 (by decide) ?_
  refine lv_bipush (v := 105) hx hb dX7_init_289 (by decide) ?_
  refine g_castK (Y := YN) (kd := 27) (n := 60) (k := 39) (o := 7) (v := 105) YN_ok (by decide) (by decide) rfl hc hw (by omega) rfl rfl (vp_in_lit (by decide)) (by decide) (by decide) dX7_init_291 (fun σ_ H L54 e_ hw => ?_)
  subst e_
  have hRO : RO 8 T7_54 := RO_si (o := 7) (k := 39) (v := 105) hRO
  have hw : WH Γ YN 8 ad7 T7_54 s H L54 := hw
  refine lv_dup hx hb dX7_init_292 rfl ?_
  refine lv_bipush (v := 40) hx hb dX7_init_293 (by decide) ?_
  refine lv_bipush (v := 116) hx hb dX7_init_295 (by decide) ?_
  refine g_castK (Y := YN) (kd := 27) (n := 60) (k := 40) (o := 7) (v := 116) YN_ok (by decide) (by decide) rfl hc hw (by omega) rfl rfl (vp_in_lit (by decide)) (by decide) (by decide) dX7_init_297 (fun σ_ H L55 e_ hw => ?_)
  subst e_
  have hRO : RO 8 T7_55 := RO_si (o := 7) (k := 40) (v := 116) hRO
  have hw : WH Γ YN 8 ad7 T7_55 s H L55 := hw
  refine lv_dup hx hb dX7_init_298 rfl ?_
  refine lv_bipush (v := 41) hx hb dX7_init_299 (by decide) ?_
  refine lv_bipush (v := 32) hx hb dX7_init_301 (by decide) ?_
  refine g_castK (Y := YN) (kd := 27) (n := 60) (k := 41) (o := 7) (v := 32) YN_ok (by decide) (by decide) rfl hc hw (by omega) rfl rfl (vp_in_lit (by decide)) (by decide) (by decide) dX7_init_303 (fun σ_ H L56 e_ hw => ?_)
  subst e_
  have hRO : RO 8 T7_56 := RO_si (o := 7) (k := 41) (v := 32) hRO
  have hw : WH Γ YN 8 ad7 T7_56 s H L56 := hw
  refine lv_dup hx hb dX7_init_304 rfl ?_
  refine lv_bipush (v := 42) hx hb dX7_init_305 (by decide) ?_
  refine lv_bipush (v := 116) hx hb dX7_init_307 (by decide) ?_
  refine g_castK (Y := YN) (kd := 27) (n := 60) (k := 42) (o := 7) (v := 116) YN_ok (by decide) (by decide) rfl hc hw (by omega) rfl rfl (vp_in_lit (by decide)) (by decide) (by decide) dX7_init_309 (fun σ_ H L57 e_ hw => ?_)
  subst e_
  have hRO : RO 8 T7_57 := RO_si (o := 7) (k := 42) (v := 116) hRO
  have hw : WH Γ YN 8 ad7 T7_57 s H L57 := hw
  refine lv_dup hx hb dX7_init_310 rfl ?_
  refine lv_bipush (v := 43) hx hb dX7_init_311 (by decide) ?_
  refine lv_bipush (v := 104) hx hb dX7_init_313 (by decide) ?_
  refine g_castK (Y := YN) (kd := 27) (n := 60) (k := 43) (o := 7) (v := 104) YN_ok (by decide) (by decide) rfl hc hw (by omega) rfl rfl (vp_in_lit (by decide)) (by decide) (by decide) dX7_init_315 (fun σ_ H L58 e_ hw => ?_)
  subst e_
  have hRO : RO 8 T7_58 := RO_si (o := 7) (k := 43) (v := 104) hRO
  have hw : WH Γ YN 8 ad7 T7_58 s H L58 := hw
  refine lv_dup hx hb dX7_init_316 rfl ?_
  refine lv_bipush (v := 44) hx hb dX7_init_317 (by decide) ?_
  refine lv_bipush (v := 114) hx hb dX7_init_319 (by decide) ?_
  refine g_castK (Y := YN) (kd := 27) (n := 60) (k := 44) (o := 7) (v := 114) YN_ok (by decide) (by decide) rfl hc hw (by omega) rfl rfl (vp_in_lit (by decide)) (by decide) (by decide) dX7_init_321 (fun σ_ H L59 e_ hw => ?_)
  subst e_
  have hRO : RO 8 T7_59 := RO_si (o := 7) (k := 44) (v := 114) hRO
  have hw : WH Γ YN 8 ad7 T7_59 s H L59 := hw
  refine lv_dup hx hb dX7_init_322 rfl ?_
  refine lv_bipush (v := 45) hx hb dX7_init_323 (by decide) ?_
  refine lv_bipush (v := 101) hx hb dX7_init_325 (by decide) ?_
  refine g_castK (Y := YN) (kd := 27) (n := 60) (k := 45) (o := 7) (v := 101) YN_ok (by decide) (by decide) rfl hc hw (by omega) rfl rfl (vp_in_lit (by decide)) (by decide) (by decide) dX7_init_327 (fun σ_ H L60 e_ hw => ?_)
  subst e_
  have hRO : RO 8 T7_60 := RO_si (o := 7) (k := 45) (v := 101) hRO
  have hw : WH Γ YN 8 ad7 T7_60 s H L60 := hw
  refine lv_dup hx hb dX7_init_328 rfl ?_
  refine lv_bipush (v := 46) hx hb dX7_init_329 (by decide) ?_
  refine lv_bipush (v := 97) hx hb dX7_init_331 (by decide) ?_
  refine g_castK (Y := YN) (kd := 27) (n := 60) (k := 46) (o := 7) (v := 97) YN_ok (by decide) (by decide) rfl hc hw (by omega) rfl rfl (vp_in_lit (by decide)) (by decide) (by decide) dX7_init_333 (fun σ_ H L61 e_ hw => ?_)
  subst e_
  have hRO : RO 8 T7_61 := RO_si (o := 7) (k := 46) (v := 97) hRO
  have hw : WH Γ YN 8 ad7 T7_61 s H L61 := hw
  refine lv_dup hx hb dX7_init_334 rfl ?_
  refine lv_bipush (v := 47) hx hb dX7_init_335 (by decide) ?_
  refine lv_bipush (v := 100) hx hb dX7_init_337 (by decide) ?_
  refine g_castK (Y := YN) (kd := 27) (n := 60) (k := 47) (o := 7) (v := 100) YN_ok (by decide) (by decide) rfl hc hw (by omega) rfl rfl (vp_in_lit (by decide)) (by decide) (by decide) dX7_init_339 (fun σ_ H L62 e_ hw => ?_)
  subst e_
  have hRO : RO 8 T7_62 := RO_si (o := 7) (k := 47) (v := 100) hRO
  have hw : WH Γ YN 8 ad7 T7_62 s H L62 := hw
  refine lv_dup hx hb dX7_init_340 rfl ?_
  refine lv_bipush (v := 48) hx hb dX7_init_341 (by decide) ?_
  refine lv_bipush (v := 32) hx hb dX7_init_343 (by decide) ?_
  refine g_castK (Y := YN) (kd := 27) (n := 60) (k := 48) (o := 7) (v := 32) YN_ok (by decide) (by decide) rfl hc hw (by omega) rfl rfl (vp_in_lit (by decide)) (by decide) (by decide) dX7_init_345 (fun σ_ H L63 e_ hw => ?_)
  subst e_
  have hRO : RO 8 T7_63 := RO_si (o := 7) (k := 48) (v := 32) hRO
  have hw : WH Γ YN 8 ad7 T7_63 s H L63 := hw
  refine lv_dup hx hb dX7_init_346 rfl ?_
  refine lv_bipush (v := 49) hx hb dX7_init_347 (by decide) ?_
  refine lv_bipush (v := 111) hx hb dX7_init_349 (by decide) ?_
  refine g_castK (Y := YN) (kd := 27) (n := 60) (k := 49) (o := 7) (v := 111) YN_ok (by decide) (by decide) rfl hc hw (by omega) rfl rfl (vp_in_lit (by decide)) (by decide) (by decide) dX7_init_351 (fun σ_ H L64 e_ hw => ?_)
  subst e_
  have hRO : RO 8 T7_64 := RO_si (o := 7) (k := 49) (v := 111) hRO
  have hw : WH Γ YN 8 ad7 T7_64 s H L64 := hw
  refine lv_dup hx hb dX7_init_352 rfl ?_
  refine lv_bipush (v := 50) hx hb dX7_init_353 (by decide) ?_
  refine lv_bipush (v := 114) hx hb dX7_init_355 (by decide) ?_
  refine g_castK (Y := YN) (kd := 27) (n := 60) (k := 50) (o := 7) (v := 114) YN_ok (by decide) (by decide) rfl hc hw (by omega) rfl rfl (vp_in_lit (by decide)) (by decide) (by decide) dX7_init_357 (fun σ_ H L65 e_ hw => ?_)
  subst e_
  have hRO : RO 8 T7_65 := RO_si (o := 7) (k := 50) (v := 114) hRO
  have hw : WH Γ YN 8 ad7 T7_65 s H L65 := hw
  refine lv_dup hx hb dX7_init_358 rfl ?_
  refine lv_bipush (v := 51) hx hb dX7_init_359 (by decide) ?_
  refine lv_bipush (v := 32) hx hb dX7_init_361 (by decide) ?_
  refine g_castK (Y := YN) (kd := 27) (n := 60) (k := 51) (o := 7) (v := 32) YN_ok (by decide) (by decide) rfl hc hw (by omega) rfl rfl (vp_in_lit (by decide)) (by decide) (by decide) dX7_init_363 (fun σ_ H L66 e_ hw => ?_)
  subst e_
  have hRO : RO 8 T7_66 := RO_si (o := 7) (k := 51) (v := 32) hRO
  have hw : WH Γ YN 8 ad7 T7_66 s H L66 := hw
  refine lv_dup hx hb dX7_init_364 rfl ?_
  refine lv_bipush (v := 52) hx hb dX7_init_365 (by decide) ?_
  refine lv_bipush (v := 97) hx hb dX7_init_367 (by decide) ?_
  refine g_castK (Y := YN) (kd := 27) (n := 60) (k := 52) (o := 7) (v := 97) YN_ok (by decide) (by decide) rfl hc hw (by omega) rfl rfl (vp_in_lit (by decide)) (by decide) (by decide) dX7_init_369 (fun σ_ H L67 e_ hw => ?_)
  subst e_
  have hRO : RO 8 T7_67 := RO_si (o := 7) (k := 52) (v := 97) hRO
  have hw : WH Γ YN 8 ad7 T7_67 s H L67 := hw
  refine lv_dup hx hb dX7_init_370 rfl ?_
  refine lv_bipush (v := 53) hx hb dX7_init_371 (by decide) ?_
  refine lv_bipush (v := 110) hx hb dX7_init_373 (by decide) ?_
  refine g_castK (Y := YN) (kd := 27) (n := 60) (k := 53) (o := 7) (v := 110) YN_ok (by decide) (by decide) rfl hc hw (by omega) rfl rfl (vp_in_lit (by decide)) (by decide) (by decide) dX7_init_375 (fun σ_ H L68 e_ hw => ?_)
  subst e_
  have hRO : RO 8 T7_68 := RO_si (o := 7) (k := 53) (v := 110) hRO
  have hw : WH Γ YN 8 ad7 T7_68 s H L68 := hw
  refine lv_dup hx hb dX7_init_376 rfl ?_
  refine lv_bipush (v := 54) hx hb dX7_init_377 (by decide) ?_
  refine lv_bipush (v := 100) hx hb dX7_init_379 (by decide) ?_
  refine g_castK (Y := YN) (kd := 27) (n := 60) (k := 54) (o := 7) (v := 100) YN_ok (by decide) (by decide) rfl hc hw (by omega) rfl rfl (vp_in_lit (by decide)) (by decide) (by decide) dX7_init_381 (fun σ_ H L69 e_ hw => ?_)
  subst e_
  have hRO : RO 8 T7_69 := RO_si (o := 7) (k := 54) (v := 100) hRO
  have hw : WH Γ YN 8 ad7 T7_69 s H L69 := hw
  refine lv_dup hx hb dX7_init_382 rfl ?_
  refine lv_bipush (v := 55) hx hb dX7_init_383 (by decide) ?_
  refine lv_bipush (v := 32) hx hb dX7_init_385 (by decide) ?_
  refine g_castK (Y := YN) (kd := 27) (n := 60) (k := 55) (o := 7) (v := 32) YN_ok (by decide) (by decide) rfl hc hw (by omega) rfl rfl (vp_in_lit (by decide)) (by decide) (by decide) dX7_init_387 (fun σ_ H L70 e_ hw => ?_)
  subst e_
  have hRO : RO 8 T7_70 := RO_si (o := 7) (k := 55) (v := 32) hRO
  have hw : WH Γ YN 8 ad7 T7_70 s H L70 := hw
  refine lv_dup hx hb dX7_init_388 rfl ?_
  refine lv_bipush (v := 56) hx hb dX7_init_389 (by decide) ?_
  refine lv_bipush (v := 110) hx hb dX7_init_391 (by decide) ?_
  refine g_castK (Y := YN) (kd := 27) (n := 60) (k := 56) (o := 7) (v := 110) YN_ok (by decide) (by decide) rfl hc hw (by omega) rfl rfl (vp_in_lit (by decide)) (by decide) (by decide) dX7_init_393 (fun σ_ H L71 e_ hw => ?_)
  subst e_
  have hRO : RO 8 T7_71 := RO_si (o := 7) (k := 56) (v := 110) hRO
  have hw : WH Γ YN 8 ad7 T7_71 s H L71 := hw
  refine lv_dup hx hb dX7_init_394 rfl ?_
  refine lv_bipush (v := 57) hx hb dX7_init_395 (by decide) ?_
  refine lv_bipush (v := 111) hx hb dX7_init_397 (by decide) ?_
  refine g_castK (Y := YN) (kd := 27) (n := 60) (k := 57) (o := 7) (v := 111) YN_ok (by decide) (by decide) rfl hc hw (by omega) rfl rfl (vp_in_lit (by decide)) (by decide) (by decide) dX7_init_399 (fun σ_ H L72 e_ hw => ?_)
  subst e_
  have hRO : RO 8 T7_72 := RO_si (o := 7) (k := 57) (v := 111) hRO
  have hw : WH Γ YN 8 ad7 T7_72 s H L72 := hw
  refine lv_dup hx hb dX7_init_400 rfl ?_
  refine lv_bipush (v := 58) hx hb dX7_init_401 (by decide) ?_
  refine lv_bipush (v := 116) hx hb dX7_init_403 (by decide) ?_
  refine g_castK (Y := YN) (kd := 27) (n := 60) (k := 58) (o := 7) (v := 116) YN_ok (by decide) (by decide) rfl hc hw (by omega) rfl rfl (vp_in_lit (by decide)) (by decide) (by decide) dX7_init_405 (fun σ_ H L73 e_ hw => ?_)
  subst e_
  have hRO : RO 8 T7_73 := RO_si (o := 7) (k := 58) (v := 116) hRO
  have hw : WH Γ YN 8 ad7 T7_73 s H L73 := hw
  refine lv_dup hx hb dX7_init_406 rfl ?_
  refine lv_bipush (v := 59) hx hb dX7_init_407 (by decide) ?_
  refine lv_bipush (v := 32) hx hb dX7_init_409 (by decide) ?_
  refine g_castK (Y := YN) (kd := 27) (n := 60) (k := 59) (o := 7) (v := 32) YN_ok (by decide) (by decide) rfl hc hw (by omega) rfl rfl (vp_in_lit (by decide)) (by decide) (by decide) dX7_init_411 (fun σ_ H L74 e_ hw => ?_)
  subst e_
  have hRO : RO 8 T7_74 := RO_si (o := 7) (k := 59) (v := 32) hRO
  have hw : WH Γ YN 8 ad7 T7_74 s H L74 := hw
  refine g_putF (Y := YN) (o := 0) (ci := 7) (N := 38) (k := 18) (C := RX7) (T := TX7) (ty0 := tyX7) (τ := T7_75) rfl inT7 tyX7_ok nmX7 rfl (by decide) (by decide) q_974 rfl rfl hin rfl rfl rfl hc hw (by omega) rfl (en_srG (v := some 7) rfl lnN_st rfl (by decide) ⟨by decide, by decide⟩) dX7_init_412 (fun H L75 hw => ?_)
  have hRO : RO 8 T7_75 := RO_sr (o := 0) (k := 18) (r := 7) hRO (by omega)
  refine lv_aload_n hx hb dX7_init_415 rfl (lv_at hl 0 rfl) ?_
  refine lv_sipush (v := 170) hx hb dX7_init_416 (by decide) ?_
  refine g_newa (Y := YN) (M := 8) (N := 170) (kd := 28) rfl (fun _ _ _ => rfl) q_141 rfl (by decide) (by decide) rfl rfl hRO hc hw (by decide) (by decide) (by decide) (Nat.le_of_ble_eq_true rfl) (Nat.le_of_ble_eq_true rfl) dX7_init_419 (fun ad8 H hgad8 hw => ?_)
  have hRO : RO 9 T7_76 := RO_sN (n := 170) hRO
  have hl : lv_has ls 3 [(0, .ref (ad8 0))] := by rw [hgad8 0 (by omega)]; exact hl
  refine W.eq (g2 := F0 m (419 + 2) ls [.ref (ad8 8), .ref (ad8 0)]) (by rw [hgad8 0 (by omega)]) ?_
  have hagT : ∀ o, o < 1 → ad8 o = ad o := fun o ho => (hgad8 o (by omega)).trans (hagT o ho)
  have hw : WH Γ YN 9 ad8 T7_76 s H L75 := hw
  refine g_putF (Y := YN) (o := 0) (ci := 7) (N := 38) (k := 19) (C := RX7) (T := TX7) (ty0 := tyX7) (τ := T7_77) rfl inT7 tyX7_ok nmX7 rfl (by decide) (by decide) q_975 rfl rfl hin rfl rfl rfl hc hw (by omega) rfl (en_srG (v := some 8) rfl lnN_st rfl (by decide) ⟨by decide, by decide⟩) dX7_init_421 (fun H L77 hw => ?_)
  have hRO : RO 9 T7_77 := RO_sr (o := 0) (k := 19) (r := 8) hRO (by omega)
  refine lv_aload_n hx hb dX7_init_424 rfl (lv_at hl 0 rfl) ?_
  refine lv_bipush (v := 6) hx hb dX7_init_425 (by decide) ?_
  refine g_newa (Y := YN) (M := 9) (N := 6) (kd := 29) rfl (fun _ _ _ => rfl) q_141 rfl (by decide) (by decide) rfl rfl hRO hc hw (by decide) (by decide) (by decide) (Nat.le_of_ble_eq_true rfl) (Nat.le_of_ble_eq_true rfl) dX7_init_427 (fun ad9 H hgad9 hw => ?_)
  have hRO : RO 10 T7_78 := RO_sN (n := 6) hRO
  have hl : lv_has ls 3 [(0, .ref (ad9 0))] := by rw [hgad9 0 (by omega)]; exact hl
  refine W.eq (g2 := F0 m (427 + 2) ls [.ref (ad9 9), .ref (ad9 0)]) (by rw [hgad9 0 (by omega)]) ?_
  have hagT : ∀ o, o < 1 → ad9 o = ad o := fun o ho => (hgad9 o (by omega)).trans (hagT o ho)
  have hw : WH Γ YN 10 ad9 T7_78 s H L77 := hw
  refine g_putF (Y := YN) (o := 0) (ci := 7) (N := 38) (k := 20) (C := RX7) (T := TX7) (ty0 := tyX7) (τ := T7_79) rfl inT7 tyX7_ok nmX7 rfl (by decide) (by decide) q_976 rfl rfl hin rfl rfl rfl hc hw (by omega) rfl (en_srG (v := some 9) rfl lnN_st rfl (by decide) ⟨by decide, by decide⟩) dX7_init_429 (fun H L79 hw => ?_)
  have hRO : RO 10 T7_79 := RO_sr (o := 0) (k := 20) (r := 9) hRO (by omega)
  refine lv_aload_n hx hb dX7_init_432 rfl (lv_at hl 0 rfl) ?_
  refine lv_bipush (v := 12) hx hb dX7_init_433 (by decide) ?_
  refine g_newa (Y := YN) (M := 10) (N := 12) (kd := 30) rfl (fun _ _ _ => rfl) q_141 rfl (by decide) (by decide) rfl rfl hRO hc hw (by decide) (by decide) (by decide) (Nat.le_of_ble_eq_true rfl) (Nat.le_of_ble_eq_true rfl) dX7_init_435 (fun ad10 H hgad10 hw => ?_)
  have hRO : RO 11 T7_80 := RO_sN (n := 12) hRO
  have hl : lv_has ls 3 [(0, .ref (ad10 0))] := by rw [hgad10 0 (by omega)]; exact hl
  refine W.eq (g2 := F0 m (435 + 2) ls [.ref (ad10 10), .ref (ad10 0)]) (by rw [hgad10 0 (by omega)]) ?_
  have hagT : ∀ o, o < 1 → ad10 o = ad o := fun o ho => (hgad10 o (by omega)).trans (hagT o ho)
  have hw : WH Γ YN 11 ad10 T7_80 s H L79 := hw
  refine g_putF (Y := YN) (o := 0) (ci := 7) (N := 38) (k := 22) (C := RX7) (T := TX7) (ty0 := tyX7) (τ := T7_81) rfl inT7 tyX7_ok nmX7 rfl (by decide) (by decide) q_978 rfl rfl hin rfl rfl rfl hc hw (by omega) rfl (en_srG (v := some 10) rfl lnN_st rfl (by decide) ⟨by decide, by decide⟩) dX7_init_437 (fun H L81 hw => ?_)
  have hRO : RO 11 T7_81 := RO_sr (o := 0) (k := 22) (r := 10) hRO (by omega)
  refine lv_aload_n hx hb dX7_init_440 rfl (lv_at hl 0 rfl) ?_
  refine lv_bipush (v := 12) hx hb dX7_init_441 (by decide) ?_
  refine g_newa (Y := YN) (M := 11) (N := 12) (kd := 31) rfl (fun _ _ _ => rfl) q_141 rfl (by decide) (by decide) rfl rfl hRO hc hw (by decide) (by decide) (by decide) (Nat.le_of_ble_eq_true rfl) (Nat.le_of_ble_eq_true rfl) dX7_init_443 (fun ad11 H hgad11 hw => ?_)
  have hRO : RO 12 T7_82 := RO_sN (n := 12) hRO
  have hl : lv_has ls 3 [(0, .ref (ad11 0))] := by rw [hgad11 0 (by omega)]; exact hl
  refine W.eq (g2 := F0 m (443 + 2) ls [.ref (ad11 11), .ref (ad11 0)]) (by rw [hgad11 0 (by omega)]) ?_
  have hagT : ∀ o, o < 1 → ad11 o = ad o := fun o ho => (hgad11 o (by omega)).trans (hagT o ho)
  have hw : WH Γ YN 12 ad11 T7_82 s H L81 := hw
  refine g_putF (Y := YN) (o := 0) (ci := 7) (N := 38) (k := 23) (C := RX7) (T := TX7) (ty0 := tyX7) (τ := T7_83) rfl inT7 tyX7_ok nmX7 rfl (by decide) (by decide) q_979 rfl rfl hin rfl rfl rfl hc hw (by omega) rfl (en_srG (v := some 11) rfl lnN_st rfl (by decide) ⟨by decide, by decide⟩) dX7_init_445 (fun H L83 hw => ?_)
  have hRO : RO 12 T7_83 := RO_sr (o := 0) (k := 23) (r := 11) hRO (by omega)
  refine lv_aload_n hx hb dX7_init_448 rfl (lv_at hl 0 rfl) ?_
  refine lv_bipush (v := 12) hx hb dX7_init_449 (by decide) ?_
  refine g_newa (Y := YN) (M := 12) (N := 12) (kd := 32) rfl (fun _ _ _ => rfl) q_141 rfl (by decide) (by decide) rfl rfl hRO hc hw (by decide) (by decide) (by decide) (Nat.le_of_ble_eq_true rfl) (Nat.le_of_ble_eq_true rfl) dX7_init_451 (fun ad12 H hgad12 hw => ?_)
  have hRO : RO 13 T7_84 := RO_sN (n := 12) hRO
  have hl : lv_has ls 3 [(0, .ref (ad12 0))] := by rw [hgad12 0 (by omega)]; exact hl
  refine W.eq (g2 := F0 m (451 + 2) ls [.ref (ad12 12), .ref (ad12 0)]) (by rw [hgad12 0 (by omega)]) ?_
  have hagT : ∀ o, o < 1 → ad12 o = ad o := fun o ho => (hgad12 o (by omega)).trans (hagT o ho)
  have hw : WH Γ YN 13 ad12 T7_84 s H L83 := hw
  refine g_putF (Y := YN) (o := 0) (ci := 7) (N := 38) (k := 24) (C := RX7) (T := TX7) (ty0 := tyX7) (τ := T7_85) rfl inT7 tyX7_ok nmX7 rfl (by decide) (by decide) q_980 rfl rfl hin rfl rfl rfl hc hw (by omega) rfl (en_srG (v := some 12) rfl lnN_st rfl (by decide) ⟨by decide, by decide⟩) dX7_init_453 (fun H L85 hw => ?_)
  have hRO : RO 13 T7_85 := RO_sr (o := 0) (k := 24) (r := 12) hRO (by omega)
  refine lv_aload_n hx hb dX7_init_456 rfl (lv_at hl 0 rfl) ?_
  refine lv_bipush (v := 14) hx hb dX7_init_457 (by decide) ?_
  refine g_newa (Y := YN) (M := 13) (N := 14) (kd := 33) rfl (fun _ _ _ => rfl) q_141 rfl (by decide) (by decide) rfl rfl hRO hc hw (by decide) (by decide) (by decide) (Nat.le_of_ble_eq_true rfl) (Nat.le_of_ble_eq_true rfl) dX7_init_459 (fun ad13 H hgad13 hw => ?_)
  have hRO : RO 14 T7_86 := RO_sN (n := 14) hRO
  have hl : lv_has ls 3 [(0, .ref (ad13 0))] := by rw [hgad13 0 (by omega)]; exact hl
  refine W.eq (g2 := F0 m (459 + 2) ls [.ref (ad13 13), .ref (ad13 0)]) (by rw [hgad13 0 (by omega)]) ?_
  have hagT : ∀ o, o < 1 → ad13 o = ad o := fun o ho => (hgad13 o (by omega)).trans (hagT o ho)
  have hw : WH Γ YN 14 ad13 T7_86 s H L85 := hw
  refine g_putF (Y := YN) (o := 0) (ci := 7) (N := 38) (k := 25) (C := RX7) (T := TX7) (ty0 := tyX7) (τ := T7_87) rfl inT7 tyX7_ok nmX7 rfl (by decide) (by decide) q_981 rfl rfl hin rfl rfl rfl hc hw (by omega) rfl (en_srG (v := some 13) rfl lnN_st rfl (by decide) ⟨by decide, by decide⟩) dX7_init_461 (fun H L87 hw => ?_)
  have hRO : RO 14 T7_87 := RO_sr (o := 0) (k := 25) (r := 13) hRO (by omega)
  refine lv_aload_n hx hb dX7_init_464 rfl (lv_at hl 0 rfl) ?_
  refine lv_bipush (v := 20) hx hb dX7_init_465 (by decide) ?_
  refine g_newa (Y := YN) (M := 14) (N := 20) (kd := 34) rfl (fun _ _ _ => rfl) q_141 rfl (by decide) (by decide) rfl rfl hRO hc hw (by decide) (by decide) (by decide) (Nat.le_of_ble_eq_true rfl) (Nat.le_of_ble_eq_true rfl) dX7_init_467 (fun ad14 H hgad14 hw => ?_)
  have hRO : RO 15 T7_88 := RO_sN (n := 20) hRO
  have hl : lv_has ls 3 [(0, .ref (ad14 0))] := by rw [hgad14 0 (by omega)]; exact hl
  refine W.eq (g2 := F0 m (467 + 2) ls [.ref (ad14 14), .ref (ad14 0)]) (by rw [hgad14 0 (by omega)]) ?_
  have hagT : ∀ o, o < 1 → ad14 o = ad o := fun o ho => (hgad14 o (by omega)).trans (hagT o ho)
  have hw : WH Γ YN 15 ad14 T7_88 s H L87 := hw
  refine g_putF (Y := YN) (o := 0) (ci := 7) (N := 38) (k := 32) (C := RX7) (T := TX7) (ty0 := tyX7) (τ := T7_89) rfl inT7 tyX7_ok nmX7 rfl (by decide) (by decide) q_988 rfl rfl hin rfl rfl rfl hc hw (by omega) rfl (en_srG (v := some 14) rfl lnN_st rfl (by decide) ⟨by decide, by decide⟩) dX7_init_469 (fun H L89 hw => ?_)
  have hRO : RO 15 T7_89 := RO_sr (o := 0) (k := 32) (r := 14) hRO (by omega)
  refine lv_aload_n hx hb dX7_init_472 rfl (lv_at hl 0 rfl) ?_
  refine lv_iconst (v := 3) hx hb dX7_init_473 (by decide) ?_
  refine g_newa (Y := YN) (M := 15) (N := 3) (kd := 35) rfl (fun _ _ _ => rfl) q_141 rfl (by decide) (by decide) rfl rfl hRO hc hw (by decide) (by decide) (by decide) (Nat.le_of_ble_eq_true rfl) (Nat.le_of_ble_eq_true rfl) dX7_init_474 (fun ad15 H hgad15 hw => ?_)
  have hRO : RO 16 T7_90 := RO_sN (n := 3) hRO
  have hl : lv_has ls 3 [(0, .ref (ad15 0))] := by rw [hgad15 0 (by omega)]; exact hl
  refine W.eq (g2 := F0 m (474 + 2) ls [.ref (ad15 15), .ref (ad15 0)]) (by rw [hgad15 0 (by omega)]) ?_
  have hagT : ∀ o, o < 1 → ad15 o = ad o := fun o ho => (hgad15 o (by omega)).trans (hagT o ho)
  have hw : WH Γ YN 16 ad15 T7_90 s H L89 := hw
  refine g_putF (Y := YN) (o := 0) (ci := 7) (N := 38) (k := 33) (C := RX7) (T := TX7) (ty0 := tyX7) (τ := T7_91) rfl inT7 tyX7_ok nmX7 rfl (by decide) (by decide) q_989 rfl rfl hin rfl rfl rfl hc hw (by omega) rfl (en_srG (v := some 15) rfl lnN_st rfl (by decide) ⟨by decide, by decide⟩) dX7_init_476 (fun H L91 hw => ?_)
  have hRO : RO 16 T7_91 := RO_sr (o := 0) (k := 33) (r := 15) hRO (by omega)
  refine lv_aload_n hx hb dX7_init_479 rfl (lv_at hl 0 rfl) ?_
  refine lv_iconst (v := 4) hx hb dX7_init_480 (by decide) ?_
  refine g_newa (Y := YN) (M := 16) (N := 4) (kd := 36) rfl (fun _ _ _ => rfl) q_141 rfl (by decide) (by decide) rfl rfl hRO hc hw (by decide) (by decide) (by decide) (Nat.le_of_ble_eq_true rfl) (Nat.le_of_ble_eq_true rfl) dX7_init_481 (fun ad16 H hgad16 hw => ?_)
  have hRO : RO 17 T7_92 := RO_sN (n := 4) hRO
  have hl : lv_has ls 3 [(0, .ref (ad16 0))] := by rw [hgad16 0 (by omega)]; exact hl
  refine W.eq (g2 := F0 m (481 + 2) ls [.ref (ad16 16), .ref (ad16 0)]) (by rw [hgad16 0 (by omega)]) ?_
  have hagT : ∀ o, o < 1 → ad16 o = ad o := fun o ho => (hgad16 o (by omega)).trans (hagT o ho)
  have hw : WH Γ YN 17 ad16 T7_92 s H L91 := hw
  refine g_putF (Y := YN) (o := 0) (ci := 7) (N := 38) (k := 34) (C := RX7) (T := TX7) (ty0 := tyX7) (τ := T7_93) rfl inT7 tyX7_ok nmX7 rfl (by decide) (by decide) q_990 rfl rfl hin rfl rfl rfl hc hw (by omega) rfl (en_srG (v := some 16) rfl lnN_st rfl (by decide) ⟨by decide, by decide⟩) dX7_init_483 (fun H L93 hw => ?_)
  have hRO : RO 17 T7_93 := RO_sr (o := 0) (k := 34) (r := 16) hRO (by omega)
  refine lv_aload_n hx hb dX7_init_486 rfl (lv_at hl 0 rfl) ?_
  refine lv_iconst (v := 4) hx hb dX7_init_487 (by decide) ?_
  refine g_newa (Y := YN) (M := 17) (N := 4) (kd := 37) rfl (fun _ _ _ => rfl) q_141 rfl (by decide) (by decide) rfl rfl hRO hc hw (by decide) (by decide) (by decide) (Nat.le_of_ble_eq_true rfl) (Nat.le_of_ble_eq_true rfl) dX7_init_488 (fun ad17 H hgad17 hw => ?_)
  have hRO : RO 18 T7_94 := RO_sN (n := 4) hRO
  have hl : lv_has ls 3 [(0, .ref (ad17 0))] := by rw [hgad17 0 (by omega)]; exact hl
  refine W.eq (g2 := F0 m (488 + 2) ls [.ref (ad17 17), .ref (ad17 0)]) (by rw [hgad17 0 (by omega)]) ?_
  have hagT : ∀ o, o < 1 → ad17 o = ad o := fun o ho => (hgad17 o (by omega)).trans (hagT o ho)
  have hw : WH Γ YN 18 ad17 T7_94 s H L93 := hw
  refine g_putF (Y := YN) (o := 0) (ci := 7) (N := 38) (k := 35) (C := RX7) (T := TX7) (ty0 := tyX7) (τ := T7_95) rfl inT7 tyX7_ok nmX7 rfl (by decide) (by decide) q_991 rfl rfl hin rfl rfl rfl hc hw (by omega) rfl (en_srG (v := some 17) rfl lnN_st rfl (by decide) ⟨by decide, by decide⟩) dX7_init_490 (fun H L95 hw => ?_)
  have hRO : RO 18 T7_95 := RO_sr (o := 0) (k := 35) (r := 17) hRO (by omega)
  refine lv_aload_n hx hb dX7_init_493 rfl (lv_at hl 0 rfl) ?_
  refine lv_sipush (v := 160) hx hb dX7_init_494 (by decide) ?_
  refine g_newa (Y := YN) (M := 18) (N := 160) (kd := 38) rfl (fun _ _ _ => rfl) q_141 rfl (by decide) (by decide) rfl rfl hRO hc hw (by decide) (by decide) (by decide) (Nat.le_of_ble_eq_true rfl) (Nat.le_of_ble_eq_true rfl) dX7_init_497 (fun ad18 H hgad18 hw => ?_)
  have hRO : RO 19 T7_96 := RO_sN (n := 160) hRO
  have hl : lv_has ls 3 [(0, .ref (ad18 0))] := by rw [hgad18 0 (by omega)]; exact hl
  refine W.eq (g2 := F0 m (497 + 2) ls [.ref (ad18 18), .ref (ad18 0)]) (by rw [hgad18 0 (by omega)]) ?_
  have hagT : ∀ o, o < 1 → ad18 o = ad o := fun o ho => (hgad18 o (by omega)).trans (hagT o ho)
  have hw : WH Γ YN 19 ad18 T7_96 s H L95 := hw
  refine g_putF (Y := YN) (o := 0) (ci := 7) (N := 38) (k := 36) (C := RX7) (T := TX7) (ty0 := tyX7) (τ := T7_97) rfl inT7 tyX7_ok nmX7 rfl (by decide) (by decide) q_992 rfl rfl hin rfl rfl rfl hc hw (by omega) rfl (en_srG (v := some 18) rfl lnN_st rfl (by decide) ⟨by decide, by decide⟩) dX7_init_499 (fun H L97 hw => ?_)
  have hRO : RO 19 T7_97 := RO_sr (o := 0) (k := 36) (r := 18) hRO (by omega)
  refine lv_aload_n hx hb dX7_init_502 rfl (lv_at hl 0 rfl) ?_
  refine lv_bipush (v := 40) hx hb dX7_init_503 (by decide) ?_
  refine g_newa (Y := YN) (M := 19) (N := 40) (kd := 39) rfl (fun _ _ _ => rfl) q_141 rfl (by decide) (by decide) rfl rfl hRO hc hw (by decide) (by decide) (by decide) (Nat.le_of_ble_eq_true rfl) (Nat.le_of_ble_eq_true rfl) dX7_init_505 (fun ad19 H hgad19 hw => ?_)
  have hRO : RO 20 T7_98 := RO_sN (n := 40) hRO
  have hl : lv_has ls 3 [(0, .ref (ad19 0))] := by rw [hgad19 0 (by omega)]; exact hl
  refine W.eq (g2 := F0 m (505 + 2) ls [.ref (ad19 19), .ref (ad19 0)]) (by rw [hgad19 0 (by omega)]) ?_
  have hagT : ∀ o, o < 1 → ad19 o = ad o := fun o ho => (hgad19 o (by omega)).trans (hagT o ho)
  have hw : WH Γ YN 20 ad19 T7_98 s H L97 := hw
  refine g_putF (Y := YN) (o := 0) (ci := 7) (N := 38) (k := 37) (C := RX7) (T := TX7) (ty0 := tyX7) (τ := T7_99) rfl inT7 tyX7_ok nmX7 rfl (by decide) (by decide) q_993 rfl rfl hin rfl rfl rfl hc hw (by omega) rfl (en_srG (v := some 19) rfl lnN_st rfl (by decide) ⟨by decide, by decide⟩) dX7_init_507 (fun H L99 hw => ?_)
  have hRO : RO 20 T7_99 := RO_sr (o := 0) (k := 37) (r := 19) hRO (by omega)
  refine lv_bipush (v := 21) hx hb dX7_init_510 (by decide) ?_
  refine g_newa (Y := YN) (M := 20) (N := 21) (kd := 41) rfl (fun _ _ _ => rfl) q_141 rfl (by decide) (by decide) rfl rfl hRO hc hw (by decide) (by decide) (by decide) (Nat.le_of_ble_eq_true rfl) (Nat.le_of_ble_eq_true rfl) dX7_init_512 (fun ad20 H hgad20 hw => ?_)
  have hRO : RO 21 T7_100 := RO_sN (n := 21) hRO
  have hl : lv_has ls 3 [(0, .ref (ad20 0))] := by rw [hgad20 0 (by omega)]; exact hl
  have hagT : ∀ o, o < 1 → ad20 o = ad o := fun o ho => (hgad20 o (by omega)).trans (hagT o ho)
  have hw : WH Γ YN 21 ad20 T7_100 s H L99 := hw
  refine lv_dup hx hb dX7_init_514 rfl ?_
  refine lv_iconst (v := 0) hx hb dX7_init_515 (by decide) ?_
  refine lv_iconst (v := (-1)) hx hb dX7_init_516 (by decide) ?_
  refine g_iastK (Y := YN) (kd := 41) (n := 21) (k := 0) (o := 20) YN_ok (by decide) (by decide) rfl hc hw (by omega) rfl rfl (vp_in_lit (by decide)) (by decide) dX7_init_517 (fun σ_ H L101 e_ hw => ?_)
  subst e_
  have hRO : RO 21 T7_101 := RO_si (o := 20) (k := 0) (v := (-1)) hRO
  have hw : WH Γ YN 21 ad20 T7_101 s H L101 := hw
  refine lv_dup hx hb dX7_init_518 rfl ?_
  refine lv_iconst (v := 1) hx hb dX7_init_519 (by decide) ?_
  refine lv_iconst (v := 2) hx hb dX7_init_520 (by decide) ?_
  refine g_iastK (Y := YN) (kd := 41) (n := 21) (k := 1) (o := 20) YN_ok (by decide) (by decide) rfl hc hw (by omega) rfl rfl (vp_in_lit (by decide)) (by decide) dX7_init_521 (fun σ_ H L102 e_ hw => ?_)
  subst e_
  have hRO : RO 21 T7_102 := RO_si (o := 20) (k := 1) (v := 2) hRO
  have hw : WH Γ YN 21 ad20 T7_102 s H L102 := hw
  refine lv_dup hx hb dX7_init_522 rfl ?_
  refine lv_iconst (v := 2) hx hb dX7_init_523 (by decide) ?_
  refine lv_sipush (v := (-142)) hx hb dX7_init_524 (by decide) ?_
  refine g_iastK (Y := YN) (kd := 41) (n := 21) (k := 2) (o := 20) YN_ok (by decide) (by decide) rfl hc hw (by omega) rfl rfl (vp_in_lit (by decide)) (by decide) dX7_init_527 (fun σ_ H L103 e_ hw => ?_)
  subst e_
  have hRO : RO 21 T7_103 := RO_si (o := 20) (k := 2) (v := (-142)) hRO
  have hw : WH Γ YN 21 ad20 T7_103 s H L103 := hw
  refine lv_dup hx hb dX7_init_528 rfl ?_
  refine lv_iconst (v := 3) hx hb dX7_init_529 (by decide) ?_
  refine lv_bipush (v := (-2)) hx hb dX7_init_530 (by decide) ?_
  refine g_iastK (Y := YN) (kd := 41) (n := 21) (k := 3) (o := 20) YN_ok (by decide) (by decide) rfl hc hw (by omega) rfl rfl (vp_in_lit (by decide)) (by decide) dX7_init_532 (fun σ_ H L104 e_ hw => ?_)
  subst e_
  have hRO : RO 21 T7_104 := RO_si (o := 20) (k := 3) (v := (-2)) hRO
  have hw : WH Γ YN 21 ad20 T7_104 s H L104 := hw
  refine lv_dup hx hb dX7_init_533 rfl ?_
  refine lv_iconst (v := 4) hx hb dX7_init_534 (by decide) ?_
  refine lv_sipush (v := (-143)) hx hb dX7_init_535 (by decide) ?_
  refine g_iastK (Y := YN) (kd := 41) (n := 21) (k := 4) (o := 20) YN_ok (by decide) (by decide) rfl hc hw (by omega) rfl rfl (vp_in_lit (by decide)) (by decide) dX7_init_538 (fun σ_ H L105 e_ hw => ?_)
  subst e_
  have hRO : RO 21 T7_105 := RO_si (o := 20) (k := 4) (v := (-143)) hRO
  have hw : WH Γ YN 21 ad20 T7_105 s H L105 := hw
  refine lv_dup hx hb dX7_init_539 rfl ?_
  refine lv_iconst (v := 5) hx hb dX7_init_540 (by decide) ?_
  refine lv_bipush (v := 20) hx hb dX7_init_541 (by decide) ?_
  refine g_iastK (Y := YN) (kd := 41) (n := 21) (k := 5) (o := 20) YN_ok (by decide) (by decide) rfl hc hw (by omega) rfl rfl (vp_in_lit (by decide)) (by decide) dX7_init_543 (fun σ_ H L106 e_ hw => ?_)
  subst e_
  have hRO : RO 21 T7_106 := RO_si (o := 20) (k := 5) (v := 20) hRO
  have hw : WH Γ YN 21 ad20 T7_106 s H L106 := hw
  refine lv_dup hx hb dX7_init_544 rfl ?_
  refine lv_bipush (v := 6) hx hb dX7_init_545 (by decide) ?_
  refine lv_sipush (v := (-145)) hx hb dX7_init_547 (by decide) ?_
  refine g_iastK (Y := YN) (kd := 41) (n := 21) (k := 6) (o := 20) YN_ok (by decide) (by decide) rfl hc hw (by omega) rfl rfl (vp_in_lit (by decide)) (by decide) dX7_init_550 (fun σ_ H L107 e_ hw => ?_)
  subst e_
  have hRO : RO 21 T7_107 := RO_si (o := 20) (k := 6) (v := (-145)) hRO
  have hw : WH Γ YN 21 ad20 T7_107 s H L107 := hw
  refine lv_dup hx hb dX7_init_551 rfl ?_
  refine lv_bipush (v := 7) hx hb dX7_init_552 (by decide) ?_
  refine lv_iconst (v := (-1)) hx hb dX7_init_554 (by decide) ?_
  refine g_iastK (Y := YN) (kd := 41) (n := 21) (k := 7) (o := 20) YN_ok (by decide) (by decide) rfl hc hw (by omega) rfl rfl (vp_in_lit (by decide)) (by decide) dX7_init_555 (fun σ_ H L108 e_ hw => ?_)
  subst e_
  have hRO : RO 21 T7_108 := RO_si (o := 20) (k := 7) (v := (-1)) hRO
  have hw : WH Γ YN 21 ad20 T7_108 s H L108 := hw
  refine lv_dup hx hb dX7_init_556 rfl ?_
  refine lv_bipush (v := 8) hx hb dX7_init_557 (by decide) ?_
  refine lv_bipush (v := 50) hx hb dX7_init_559 (by decide) ?_
  refine g_iastK (Y := YN) (kd := 41) (n := 21) (k := 8) (o := 20) YN_ok (by decide) (by decide) rfl hc hw (by omega) rfl rfl (vp_in_lit (by decide)) (by decide) dX7_init_561 (fun σ_ H L109 e_ hw => ?_)
  subst e_
  have hRO : RO 21 T7_109 := RO_si (o := 20) (k := 8) (v := 50) hRO
  have hw : WH Γ YN 21 ad20 T7_109 s H L109 := hw
  refine lv_dup hx hb dX7_init_562 rfl ?_
  refine lv_bipush (v := 9) hx hb dX7_init_563 (by decide) ?_
  refine lv_sipush (v := (-145)) hx hb dX7_init_565 (by decide) ?_
  refine g_iastK (Y := YN) (kd := 41) (n := 21) (k := 9) (o := 20) YN_ok (by decide) (by decide) rfl hc hw (by omega) rfl rfl (vp_in_lit (by decide)) (by decide) dX7_init_568 (fun σ_ H L110 e_ hw => ?_)
  subst e_
  have hRO : RO 21 T7_110 := RO_si (o := 20) (k := 9) (v := (-145)) hRO
  have hw : WH Γ YN 21 ad20 T7_110 s H L110 := hw
  refine lv_dup hx hb dX7_init_569 rfl ?_
  refine lv_bipush (v := 10) hx hb dX7_init_570 (by decide) ?_
  refine lv_bipush (v := (-2)) hx hb dX7_init_572 (by decide) ?_
  refine g_iastK (Y := YN) (kd := 41) (n := 21) (k := 10) (o := 20) YN_ok (by decide) (by decide) rfl hc hw (by omega) rfl rfl (vp_in_lit (by decide)) (by decide) dX7_init_574 (fun σ_ H L111 e_ hw => ?_)
  subst e_
  have hRO : RO 21 T7_111 := RO_si (o := 20) (k := 10) (v := (-2)) hRO
  have hw : WH Γ YN 21 ad20 T7_111 s H L111 := hw
  refine lv_dup hx hb dX7_init_575 rfl ?_
  refine lv_bipush (v := 11) hx hb dX7_init_576 (by decide) ?_
  refine lv_iconst (v := 2) hx hb dX7_init_578 (by decide) ?_
  refine g_iastK (Y := YN) (kd := 41) (n := 21) (k := 11) (o := 20) YN_ok (by decide) (by decide) rfl hc hw (by omega) rfl rfl (vp_in_lit (by decide)) (by decide) dX7_init_579 (fun σ_ H L112 e_ hw => ?_)
  subst e_
  have hRO : RO 21 T7_112 := RO_si (o := 20) (k := 11) (v := 2) hRO
  have hw : WH Γ YN 21 ad20 T7_112 s H L112 := hw
  refine lv_dup hx hb dX7_init_580 rfl ?_
  refine lv_bipush (v := 12) hx hb dX7_init_581 (by decide) ?_
  refine lv_sipush (v := (-142)) hx hb dX7_init_583 (by decide) ?_
  refine g_iastK (Y := YN) (kd := 41) (n := 21) (k := 12) (o := 20) YN_ok (by decide) (by decide) rfl hc hw (by omega) rfl rfl (vp_in_lit (by decide)) (by decide) dX7_init_586 (fun σ_ H L113 e_ hw => ?_)
  subst e_
  have hRO : RO 21 T7_113 := RO_si (o := 20) (k := 12) (v := (-142)) hRO
  have hw : WH Γ YN 21 ad20 T7_113 s H L113 := hw
  refine lv_dup hx hb dX7_init_587 rfl ?_
  refine lv_bipush (v := 13) hx hb dX7_init_588 (by decide) ?_
  refine lv_sipush (v := (-145)) hx hb dX7_init_590 (by decide) ?_
  refine g_iastK (Y := YN) (kd := 41) (n := 21) (k := 13) (o := 20) YN_ok (by decide) (by decide) rfl hc hw (by omega) rfl rfl (vp_in_lit (by decide)) (by decide) dX7_init_593 (fun σ_ H L114 e_ hw => ?_)
  subst e_
  have hRO : RO 21 T7_114 := RO_si (o := 20) (k := 13) (v := (-145)) hRO
  have hw : WH Γ YN 21 ad20 T7_114 s H L114 := hw
  refine lv_dup hx hb dX7_init_594 rfl ?_
  refine lv_bipush (v := 14) hx hb dX7_init_595 (by decide) ?_
  refine lv_bipush (v := (-3)) hx hb dX7_init_597 (by decide) ?_
  refine g_iastK (Y := YN) (kd := 41) (n := 21) (k := 14) (o := 20) YN_ok (by decide) (by decide) rfl hc hw (by omega) rfl rfl (vp_in_lit (by decide)) (by decide) dX7_init_599 (fun σ_ H L115 e_ hw => ?_)
  subst e_
  have hRO : RO 21 T7_115 := RO_si (o := 20) (k := 14) (v := (-3)) hRO
  have hw : WH Γ YN 21 ad20 T7_115 s H L115 := hw
  refine lv_dup hx hb dX7_init_600 rfl ?_
  refine lv_bipush (v := 15) hx hb dX7_init_601 (by decide) ?_
  refine lv_sipush (v := (-145)) hx hb dX7_init_603 (by decide) ?_
  refine g_iastK (Y := YN) (kd := 41) (n := 21) (k := 15) (o := 20) YN_ok (by decide) (by decide) rfl hc hw (by omega) rfl rfl (vp_in_lit (by decide)) (by decide) dX7_init_606 (fun σ_ H L116 e_ hw => ?_)
  subst e_
  have hRO : RO 21 T7_116 := RO_si (o := 20) (k := 15) (v := (-145)) hRO
  have hw : WH Γ YN 21 ad20 T7_116 s H L116 := hw
  refine lv_dup hx hb dX7_init_607 rfl ?_
  refine lv_bipush (v := 16) hx hb dX7_init_608 (by decide) ?_
  refine lv_bipush (v := 60) hx hb dX7_init_610 (by decide) ?_
  refine g_iastK (Y := YN) (kd := 41) (n := 21) (k := 16) (o := 20) YN_ok (by decide) (by decide) rfl hc hw (by omega) rfl rfl (vp_in_lit (by decide)) (by decide) dX7_init_612 (fun σ_ H L117 e_ hw => ?_)
  subst e_
  have hRO : RO 21 T7_117 := RO_si (o := 20) (k := 16) (v := 60) hRO
  have hw : WH Γ YN 21 ad20 T7_117 s H L117 := hw
  refine lv_dup hx hb dX7_init_613 rfl ?_
  refine lv_bipush (v := 17) hx hb dX7_init_614 (by decide) ?_
  refine lv_bipush (v := (-6)) hx hb dX7_init_616 (by decide) ?_
  refine g_iastK (Y := YN) (kd := 41) (n := 21) (k := 17) (o := 20) YN_ok (by decide) (by decide) rfl hc hw (by omega) rfl rfl (vp_in_lit (by decide)) (by decide) dX7_init_618 (fun σ_ H L118 e_ hw => ?_)
  subst e_
  have hRO : RO 21 T7_118 := RO_si (o := 20) (k := 17) (v := (-6)) hRO
  have hw : WH Γ YN 21 ad20 T7_118 s H L118 := hw
  refine lv_dup hx hb dX7_init_619 rfl ?_
  refine lv_bipush (v := 18) hx hb dX7_init_620 (by decide) ?_
  refine lv_sipush (v := (-145)) hx hb dX7_init_622 (by decide) ?_
  refine g_iastK (Y := YN) (kd := 41) (n := 21) (k := 18) (o := 20) YN_ok (by decide) (by decide) rfl hc hw (by omega) rfl rfl (vp_in_lit (by decide)) (by decide) dX7_init_625 (fun σ_ H L119 e_ hw => ?_)
  subst e_
  have hRO : RO 21 T7_119 := RO_si (o := 20) (k := 18) (v := (-145)) hRO
  have hw : WH Γ YN 21 ad20 T7_119 s H L119 := hw
  refine lv_dup hx hb dX7_init_626 rfl ?_
  refine lv_bipush (v := 19) hx hb dX7_init_627 (by decide) ?_
  refine lv_iconst (v := (-1)) hx hb dX7_init_629 (by decide) ?_
  refine g_iastK (Y := YN) (kd := 41) (n := 21) (k := 19) (o := 20) YN_ok (by decide) (by decide) rfl hc hw (by omega) rfl rfl (vp_in_lit (by decide)) (by decide) dX7_init_630 (fun σ_ H L120 e_ hw => ?_)
  subst e_
  have hRO : RO 21 T7_120 := RO_si (o := 20) (k := 19) (v := (-1)) hRO
  have hw : WH Γ YN 21 ad20 T7_120 s H L120 := hw
  refine lv_dup hx hb dX7_init_631 rfl ?_
  refine lv_bipush (v := 20) hx hb dX7_init_632 (by decide) ?_
  refine lv_sipush (v := (-143)) hx hb dX7_init_634 (by decide) ?_
  refine g_iastK (Y := YN) (kd := 41) (n := 21) (k := 20) (o := 20) YN_ok (by decide) (by decide) rfl hc hw (by omega) rfl rfl (vp_in_lit (by decide)) (by decide) dX7_init_637 (fun σ_ H L121 e_ hw => ?_)
  subst e_
  have hRO : RO 21 T7_121 := RO_si (o := 20) (k := 20) (v := (-143)) hRO
  have hw : WH Γ YN 21 ad20 T7_121 s H L121 := hw
  refine lv_astore_n (lv' := [(1, .ref (ad20 20)), (0, .ref (ad20 0))]) hx hb dX7_init_638 rfl hl (by decide) rfl (fun ls hl => ?_)
  refine lv_iconst (v := 0) hx hb dX7_init_639 (by decide) ?_
  refine lv_istore_n (lv' := [(2, .int 0), (1, .ref (ad20 20)), (0, .ref (ad20 0))]) hx hb dX7_init_640 rfl hl (by decide) rfl (fun ls hl => ?_)
  refine lv_iload_n hx hb dX7_init_641 rfl (lv_at hl 0 rfl) ?_
  refine lv_aload_n hx hb dX7_init_642 rfl (lv_at hl 1 rfl) ?_
  refine g_aleni (Y := YN) (kd := 41) (v := 21) (o := 20) (by decide) (by decide) rfl hc hw (by omega) rfl rfl dX7_init_643 ?_
  refine lv_icmp_ge (tgt := 662) hx hb dX7_init_644 (by decide) (fun c => absurd c (by decide)) (fun _ => ?_)
  refine lv_aload_n hx hb dX7_init_647 rfl (lv_at hl 2 rfl) ?_
  refine g_get (Y := YN) (o := 0) (ci := 7) (N := 38) (k := 7) (C := RX7) (T := TX7) rfl inT7 rfl (by decide) (by decide) q_963 rfl hc hw (by omega) rfl dX7_init_648 ?_
  rw [show fv YN ad20 T7_121 7 0 7 = .ref (ad20 4) from by show va_rf (Option.map ad20 (gr T7_121 0 7)) = _; rw [show gr T7_121 0 7 = some 4 from rfl]; rfl]
  refine lv_iload_n hx hb dX7_init_651 rfl (lv_at hl 0 rfl) ?_
  refine lv_aload_n hx hb dX7_init_652 rfl (lv_at hl 1 rfl) ?_
  refine lv_iload_n hx hb dX7_init_653 rfl (lv_at hl 0 rfl) ?_
  refine g_ialdK (Y := YN) (kd := 41) (n := 21) (k := 0) (o := 20) (by decide) (by decide) rfl hc hw (by omega) rfl rfl (vp_in_lit (by decide)) (by decide) dX7_init_654 ?_
  rw [show gi T7_121 20 0 = (-1) from rfl]
  refine g_iastK (Y := YN) (kd := 24) (n := 3570) (k := 0) (o := 4) YN_ok (by decide) (by decide) rfl hc hw (by omega) rfl rfl (vp_in_lit (by decide)) (by decide) dX7_init_655 (fun σ_ H L122 e_ hw => ?_)
  subst e_
  have hRO : RO 21 T7_122 := RO_si (o := 4) (k := 0) (v := (-1)) hRO
  have hw : WH Γ YN 21 ad20 T7_122 s H L122 := hw
  refine lv_iinc (v := 1) (lv' := [(2, .int 1), (1, .ref (ad20 20)), (0, .ref (ad20 0))]) hx hb dX7_init_656 hl (k := 0) rfl (by decide) (by decide) rfl (fun ls hl => ?_)
  refine lv_goto (tgt := 641) hx hb dX7_init_659 (by decide) ?_
  refine lv_iload_n hx hb dX7_init_641 rfl (lv_at hl 0 rfl) ?_
  refine lv_aload_n hx hb dX7_init_642 rfl (lv_at hl 1 rfl) ?_
  refine g_aleni (Y := YN) (kd := 41) (v := 21) (o := 20) (by decide) (by decide) rfl hc hw (by omega) rfl rfl dX7_init_643 ?_
  refine lv_icmp_ge (tgt := 662) hx hb dX7_init_644 (by decide) (fun c => absurd c (by decide)) (fun _ => ?_)
  refine lv_aload_n hx hb dX7_init_647 rfl (lv_at hl 2 rfl) ?_
  refine g_get (Y := YN) (o := 0) (ci := 7) (N := 38) (k := 7) (C := RX7) (T := TX7) rfl inT7 rfl (by decide) (by decide) q_963 rfl hc hw (by omega) rfl dX7_init_648 ?_
  rw [show fv YN ad20 T7_122 7 0 7 = .ref (ad20 4) from by show va_rf (Option.map ad20 (gr T7_122 0 7)) = _; rw [show gr T7_122 0 7 = some 4 from rfl]; rfl]
  refine lv_iload_n hx hb dX7_init_651 rfl (lv_at hl 0 rfl) ?_
  refine lv_aload_n hx hb dX7_init_652 rfl (lv_at hl 1 rfl) ?_
  refine lv_iload_n hx hb dX7_init_653 rfl (lv_at hl 0 rfl) ?_
  refine g_ialdK (Y := YN) (kd := 41) (n := 21) (k := 1) (o := 20) (by decide) (by decide) rfl hc hw (by omega) rfl rfl (vp_in_lit (by decide)) (by decide) dX7_init_654 ?_
  rw [show gi T7_122 20 1 = 2 from rfl]
  refine g_iastK (Y := YN) (kd := 24) (n := 3570) (k := 1) (o := 4) YN_ok (by decide) (by decide) rfl hc hw (by omega) rfl rfl (vp_in_lit (by decide)) (by decide) dX7_init_655 (fun σ_ H L123 e_ hw => ?_)
  subst e_
  have hRO : RO 21 T7_123 := RO_si (o := 4) (k := 1) (v := 2) hRO
  have hw : WH Γ YN 21 ad20 T7_123 s H L123 := hw
  refine lv_iinc (v := 2) (lv' := [(2, .int 2), (1, .ref (ad20 20)), (0, .ref (ad20 0))]) hx hb dX7_init_656 hl (k := 0) rfl (by decide) (by decide) rfl (fun ls hl => ?_)
  refine lv_goto (tgt := 641) hx hb dX7_init_659 (by decide) ?_
  refine lv_iload_n hx hb dX7_init_641 rfl (lv_at hl 0 rfl) ?_
  refine lv_aload_n hx hb dX7_init_642 rfl (lv_at hl 1 rfl) ?_
  refine g_aleni (Y := YN) (kd := 41) (v := 21) (o := 20) (by decide) (by decide) rfl hc hw (by omega) rfl rfl dX7_init_643 ?_
  refine lv_icmp_ge (tgt := 662) hx hb dX7_init_644 (by decide) (fun c => absurd c (by decide)) (fun _ => ?_)
  refine lv_aload_n hx hb dX7_init_647 rfl (lv_at hl 2 rfl) ?_
  refine g_get (Y := YN) (o := 0) (ci := 7) (N := 38) (k := 7) (C := RX7) (T := TX7) rfl inT7 rfl (by decide) (by decide) q_963 rfl hc hw (by omega) rfl dX7_init_648 ?_
  rw [show fv YN ad20 T7_123 7 0 7 = .ref (ad20 4) from by show va_rf (Option.map ad20 (gr T7_123 0 7)) = _; rw [show gr T7_123 0 7 = some 4 from rfl]; rfl]
  refine lv_iload_n hx hb dX7_init_651 rfl (lv_at hl 0 rfl) ?_
  refine lv_aload_n hx hb dX7_init_652 rfl (lv_at hl 1 rfl) ?_
  refine lv_iload_n hx hb dX7_init_653 rfl (lv_at hl 0 rfl) ?_
  refine g_ialdK (Y := YN) (kd := 41) (n := 21) (k := 2) (o := 20) (by decide) (by decide) rfl hc hw (by omega) rfl rfl (vp_in_lit (by decide)) (by decide) dX7_init_654 ?_
  rw [show gi T7_123 20 2 = (-142) from rfl]
  refine g_iastK (Y := YN) (kd := 24) (n := 3570) (k := 2) (o := 4) YN_ok (by decide) (by decide) rfl hc hw (by omega) rfl rfl (vp_in_lit (by decide)) (by decide) dX7_init_655 (fun σ_ H L124 e_ hw => ?_)
  subst e_
  have hRO : RO 21 T7_124 := RO_si (o := 4) (k := 2) (v := (-142)) hRO
  have hw : WH Γ YN 21 ad20 T7_124 s H L124 := hw
  refine lv_iinc (v := 3) (lv' := [(2, .int 3), (1, .ref (ad20 20)), (0, .ref (ad20 0))]) hx hb dX7_init_656 hl (k := 0) rfl (by decide) (by decide) rfl (fun ls hl => ?_)
  refine lv_goto (tgt := 641) hx hb dX7_init_659 (by decide) ?_
  refine lv_iload_n hx hb dX7_init_641 rfl (lv_at hl 0 rfl) ?_
  refine lv_aload_n hx hb dX7_init_642 rfl (lv_at hl 1 rfl) ?_
  refine g_aleni (Y := YN) (kd := 41) (v := 21) (o := 20) (by decide) (by decide) rfl hc hw (by omega) rfl rfl dX7_init_643 ?_
  refine lv_icmp_ge (tgt := 662) hx hb dX7_init_644 (by decide) (fun c => absurd c (by decide)) (fun _ => ?_)
  refine lv_aload_n hx hb dX7_init_647 rfl (lv_at hl 2 rfl) ?_
  refine g_get (Y := YN) (o := 0) (ci := 7) (N := 38) (k := 7) (C := RX7) (T := TX7) rfl inT7 rfl (by decide) (by decide) q_963 rfl hc hw (by omega) rfl dX7_init_648 ?_
  rw [show fv YN ad20 T7_124 7 0 7 = .ref (ad20 4) from by show va_rf (Option.map ad20 (gr T7_124 0 7)) = _; rw [show gr T7_124 0 7 = some 4 from rfl]; rfl]
  refine lv_iload_n hx hb dX7_init_651 rfl (lv_at hl 0 rfl) ?_
  refine lv_aload_n hx hb dX7_init_652 rfl (lv_at hl 1 rfl) ?_
  refine lv_iload_n hx hb dX7_init_653 rfl (lv_at hl 0 rfl) ?_
  refine g_ialdK (Y := YN) (kd := 41) (n := 21) (k := 3) (o := 20) (by decide) (by decide) rfl hc hw (by omega) rfl rfl (vp_in_lit (by decide)) (by decide) dX7_init_654 ?_
  rw [show gi T7_124 20 3 = (-2) from rfl]
  refine g_iastK (Y := YN) (kd := 24) (n := 3570) (k := 3) (o := 4) YN_ok (by decide) (by decide) rfl hc hw (by omega) rfl rfl (vp_in_lit (by decide)) (by decide) dX7_init_655 (fun σ_ H L125 e_ hw => ?_)
  subst e_
  have hRO : RO 21 T7_125 := RO_si (o := 4) (k := 3) (v := (-2)) hRO
  have hw : WH Γ YN 21 ad20 T7_125 s H L125 := hw
  refine lv_iinc (v := 4) (lv' := [(2, .int 4), (1, .ref (ad20 20)), (0, .ref (ad20 0))]) hx hb dX7_init_656 hl (k := 0) rfl (by decide) (by decide) rfl (fun ls hl => ?_)
  refine lv_goto (tgt := 641) hx hb dX7_init_659 (by decide) ?_
  refine lv_iload_n hx hb dX7_init_641 rfl (lv_at hl 0 rfl) ?_
  refine lv_aload_n hx hb dX7_init_642 rfl (lv_at hl 1 rfl) ?_
  refine g_aleni (Y := YN) (kd := 41) (v := 21) (o := 20) (by decide) (by decide) rfl hc hw (by omega) rfl rfl dX7_init_643 ?_
  refine lv_icmp_ge (tgt := 662) hx hb dX7_init_644 (by decide) (fun c => absurd c (by decide)) (fun _ => ?_)
  refine lv_aload_n hx hb dX7_init_647 rfl (lv_at hl 2 rfl) ?_
  refine g_get (Y := YN) (o := 0) (ci := 7) (N := 38) (k := 7) (C := RX7) (T := TX7) rfl inT7 rfl (by decide) (by decide) q_963 rfl hc hw (by omega) rfl dX7_init_648 ?_
  rw [show fv YN ad20 T7_125 7 0 7 = .ref (ad20 4) from by show va_rf (Option.map ad20 (gr T7_125 0 7)) = _; rw [show gr T7_125 0 7 = some 4 from rfl]; rfl]
  refine lv_iload_n hx hb dX7_init_651 rfl (lv_at hl 0 rfl) ?_
  refine lv_aload_n hx hb dX7_init_652 rfl (lv_at hl 1 rfl) ?_
  refine lv_iload_n hx hb dX7_init_653 rfl (lv_at hl 0 rfl) ?_
  refine g_ialdK (Y := YN) (kd := 41) (n := 21) (k := 4) (o := 20) (by decide) (by decide) rfl hc hw (by omega) rfl rfl (vp_in_lit (by decide)) (by decide) dX7_init_654 ?_
  rw [show gi T7_125 20 4 = (-143) from rfl]
  refine g_iastK (Y := YN) (kd := 24) (n := 3570) (k := 4) (o := 4) YN_ok (by decide) (by decide) rfl hc hw (by omega) rfl rfl (vp_in_lit (by decide)) (by decide) dX7_init_655 (fun σ_ H L126 e_ hw => ?_)
  subst e_
  have hRO : RO 21 T7_126 := RO_si (o := 4) (k := 4) (v := (-143)) hRO
  have hw : WH Γ YN 21 ad20 T7_126 s H L126 := hw
  refine lv_iinc (v := 5) (lv' := [(2, .int 5), (1, .ref (ad20 20)), (0, .ref (ad20 0))]) hx hb dX7_init_656 hl (k := 0) rfl (by decide) (by decide) rfl (fun ls hl => ?_)
  refine lv_goto (tgt := 641) hx hb dX7_init_659 (by decide) ?_
  refine lv_iload_n hx hb dX7_init_641 rfl (lv_at hl 0 rfl) ?_
  refine lv_aload_n hx hb dX7_init_642 rfl (lv_at hl 1 rfl) ?_
  refine g_aleni (Y := YN) (kd := 41) (v := 21) (o := 20) (by decide) (by decide) rfl hc hw (by omega) rfl rfl dX7_init_643 ?_
  refine lv_icmp_ge (tgt := 662) hx hb dX7_init_644 (by decide) (fun c => absurd c (by decide)) (fun _ => ?_)
  refine lv_aload_n hx hb dX7_init_647 rfl (lv_at hl 2 rfl) ?_
  refine g_get (Y := YN) (o := 0) (ci := 7) (N := 38) (k := 7) (C := RX7) (T := TX7) rfl inT7 rfl (by decide) (by decide) q_963 rfl hc hw (by omega) rfl dX7_init_648 ?_
  rw [show fv YN ad20 T7_126 7 0 7 = .ref (ad20 4) from by show va_rf (Option.map ad20 (gr T7_126 0 7)) = _; rw [show gr T7_126 0 7 = some 4 from rfl]; rfl]
  refine lv_iload_n hx hb dX7_init_651 rfl (lv_at hl 0 rfl) ?_
  refine lv_aload_n hx hb dX7_init_652 rfl (lv_at hl 1 rfl) ?_
  refine lv_iload_n hx hb dX7_init_653 rfl (lv_at hl 0 rfl) ?_
  refine g_ialdK (Y := YN) (kd := 41) (n := 21) (k := 5) (o := 20) (by decide) (by decide) rfl hc hw (by omega) rfl rfl (vp_in_lit (by decide)) (by decide) dX7_init_654 ?_
  rw [show gi T7_126 20 5 = 20 from rfl]
  refine g_iastK (Y := YN) (kd := 24) (n := 3570) (k := 5) (o := 4) YN_ok (by decide) (by decide) rfl hc hw (by omega) rfl rfl (vp_in_lit (by decide)) (by decide) dX7_init_655 (fun σ_ H L127 e_ hw => ?_)
  subst e_
  have hRO : RO 21 T7_127 := RO_si (o := 4) (k := 5) (v := 20) hRO
  have hw : WH Γ YN 21 ad20 T7_127 s H L127 := hw
  refine lv_iinc (v := 6) (lv' := [(2, .int 6), (1, .ref (ad20 20)), (0, .ref (ad20 0))]) hx hb dX7_init_656 hl (k := 0) rfl (by decide) (by decide) rfl (fun ls hl => ?_)
  refine lv_goto (tgt := 641) hx hb dX7_init_659 (by decide) ?_
  refine lv_iload_n hx hb dX7_init_641 rfl (lv_at hl 0 rfl) ?_
  refine lv_aload_n hx hb dX7_init_642 rfl (lv_at hl 1 rfl) ?_
  refine g_aleni (Y := YN) (kd := 41) (v := 21) (o := 20) (by decide) (by decide) rfl hc hw (by omega) rfl rfl dX7_init_643 ?_
  refine lv_icmp_ge (tgt := 662) hx hb dX7_init_644 (by decide) (fun c => absurd c (by decide)) (fun _ => ?_)
  refine lv_aload_n hx hb dX7_init_647 rfl (lv_at hl 2 rfl) ?_
  refine g_get (Y := YN) (o := 0) (ci := 7) (N := 38) (k := 7) (C := RX7) (T := TX7) rfl inT7 rfl (by decide) (by decide) q_963 rfl hc hw (by omega) rfl dX7_init_648 ?_
  rw [show fv YN ad20 T7_127 7 0 7 = .ref (ad20 4) from by show va_rf (Option.map ad20 (gr T7_127 0 7)) = _; rw [show gr T7_127 0 7 = some 4 from rfl]; rfl]
  refine lv_iload_n hx hb dX7_init_651 rfl (lv_at hl 0 rfl) ?_
  refine lv_aload_n hx hb dX7_init_652 rfl (lv_at hl 1 rfl) ?_
  refine lv_iload_n hx hb dX7_init_653 rfl (lv_at hl 0 rfl) ?_
  refine g_ialdK (Y := YN) (kd := 41) (n := 21) (k := 6) (o := 20) (by decide) (by decide) rfl hc hw (by omega) rfl rfl (vp_in_lit (by decide)) (by decide) dX7_init_654 ?_
  rw [show gi T7_127 20 6 = (-145) from rfl]
  refine g_iastK (Y := YN) (kd := 24) (n := 3570) (k := 6) (o := 4) YN_ok (by decide) (by decide) rfl hc hw (by omega) rfl rfl (vp_in_lit (by decide)) (by decide) dX7_init_655 (fun σ_ H L128 e_ hw => ?_)
  subst e_
  have hRO : RO 21 T7_128 := RO_si (o := 4) (k := 6) (v := (-145)) hRO
  have hw : WH Γ YN 21 ad20 T7_128 s H L128 := hw
  refine lv_iinc (v := 7) (lv' := [(2, .int 7), (1, .ref (ad20 20)), (0, .ref (ad20 0))]) hx hb dX7_init_656 hl (k := 0) rfl (by decide) (by decide) rfl (fun ls hl => ?_)
  refine lv_goto (tgt := 641) hx hb dX7_init_659 (by decide) ?_
  refine lv_iload_n hx hb dX7_init_641 rfl (lv_at hl 0 rfl) ?_
  refine lv_aload_n hx hb dX7_init_642 rfl (lv_at hl 1 rfl) ?_
  refine g_aleni (Y := YN) (kd := 41) (v := 21) (o := 20) (by decide) (by decide) rfl hc hw (by omega) rfl rfl dX7_init_643 ?_
  refine lv_icmp_ge (tgt := 662) hx hb dX7_init_644 (by decide) (fun c => absurd c (by decide)) (fun _ => ?_)
  refine lv_aload_n hx hb dX7_init_647 rfl (lv_at hl 2 rfl) ?_
  refine g_get (Y := YN) (o := 0) (ci := 7) (N := 38) (k := 7) (C := RX7) (T := TX7) rfl inT7 rfl (by decide) (by decide) q_963 rfl hc hw (by omega) rfl dX7_init_648 ?_
  rw [show fv YN ad20 T7_128 7 0 7 = .ref (ad20 4) from by show va_rf (Option.map ad20 (gr T7_128 0 7)) = _; rw [show gr T7_128 0 7 = some 4 from rfl]; rfl]
  refine lv_iload_n hx hb dX7_init_651 rfl (lv_at hl 0 rfl) ?_
  refine lv_aload_n hx hb dX7_init_652 rfl (lv_at hl 1 rfl) ?_
  refine lv_iload_n hx hb dX7_init_653 rfl (lv_at hl 0 rfl) ?_
  refine g_ialdK (Y := YN) (kd := 41) (n := 21) (k := 7) (o := 20) (by decide) (by decide) rfl hc hw (by omega) rfl rfl (vp_in_lit (by decide)) (by decide) dX7_init_654 ?_
  rw [show gi T7_128 20 7 = (-1) from rfl]
  refine g_iastK (Y := YN) (kd := 24) (n := 3570) (k := 7) (o := 4) YN_ok (by decide) (by decide) rfl hc hw (by omega) rfl rfl (vp_in_lit (by decide)) (by decide) dX7_init_655 (fun σ_ H L129 e_ hw => ?_)
  subst e_
  have hRO : RO 21 T7_129 := RO_si (o := 4) (k := 7) (v := (-1)) hRO
  have hw : WH Γ YN 21 ad20 T7_129 s H L129 := hw
  refine lv_iinc (v := 8) (lv' := [(2, .int 8), (1, .ref (ad20 20)), (0, .ref (ad20 0))]) hx hb dX7_init_656 hl (k := 0) rfl (by decide) (by decide) rfl (fun ls hl => ?_)
  refine lv_goto (tgt := 641) hx hb dX7_init_659 (by decide) ?_
  refine lv_iload_n hx hb dX7_init_641 rfl (lv_at hl 0 rfl) ?_
  refine lv_aload_n hx hb dX7_init_642 rfl (lv_at hl 1 rfl) ?_
  refine g_aleni (Y := YN) (kd := 41) (v := 21) (o := 20) (by decide) (by decide) rfl hc hw (by omega) rfl rfl dX7_init_643 ?_
  refine lv_icmp_ge (tgt := 662) hx hb dX7_init_644 (by decide) (fun c => absurd c (by decide)) (fun _ => ?_)
  refine lv_aload_n hx hb dX7_init_647 rfl (lv_at hl 2 rfl) ?_
  refine g_get (Y := YN) (o := 0) (ci := 7) (N := 38) (k := 7) (C := RX7) (T := TX7) rfl inT7 rfl (by decide) (by decide) q_963 rfl hc hw (by omega) rfl dX7_init_648 ?_
  rw [show fv YN ad20 T7_129 7 0 7 = .ref (ad20 4) from by show va_rf (Option.map ad20 (gr T7_129 0 7)) = _; rw [show gr T7_129 0 7 = some 4 from rfl]; rfl]
  refine lv_iload_n hx hb dX7_init_651 rfl (lv_at hl 0 rfl) ?_
  refine lv_aload_n hx hb dX7_init_652 rfl (lv_at hl 1 rfl) ?_
  refine lv_iload_n hx hb dX7_init_653 rfl (lv_at hl 0 rfl) ?_
  refine g_ialdK (Y := YN) (kd := 41) (n := 21) (k := 8) (o := 20) (by decide) (by decide) rfl hc hw (by omega) rfl rfl (vp_in_lit (by decide)) (by decide) dX7_init_654 ?_
  rw [show gi T7_129 20 8 = 50 from rfl]
  refine g_iastK (Y := YN) (kd := 24) (n := 3570) (k := 8) (o := 4) YN_ok (by decide) (by decide) rfl hc hw (by omega) rfl rfl (vp_in_lit (by decide)) (by decide) dX7_init_655 (fun σ_ H L130 e_ hw => ?_)
  subst e_
  have hRO : RO 21 T7_130 := RO_si (o := 4) (k := 8) (v := 50) hRO
  have hw : WH Γ YN 21 ad20 T7_130 s H L130 := hw
  refine lv_iinc (v := 9) (lv' := [(2, .int 9), (1, .ref (ad20 20)), (0, .ref (ad20 0))]) hx hb dX7_init_656 hl (k := 0) rfl (by decide) (by decide) rfl (fun ls hl => ?_)
  refine lv_goto (tgt := 641) hx hb dX7_init_659 (by decide) ?_
  refine lv_iload_n hx hb dX7_init_641 rfl (lv_at hl 0 rfl) ?_
  refine lv_aload_n hx hb dX7_init_642 rfl (lv_at hl 1 rfl) ?_
  refine g_aleni (Y := YN) (kd := 41) (v := 21) (o := 20) (by decide) (by decide) rfl hc hw (by omega) rfl rfl dX7_init_643 ?_
  refine lv_icmp_ge (tgt := 662) hx hb dX7_init_644 (by decide) (fun c => absurd c (by decide)) (fun _ => ?_)
  refine lv_aload_n hx hb dX7_init_647 rfl (lv_at hl 2 rfl) ?_
  refine g_get (Y := YN) (o := 0) (ci := 7) (N := 38) (k := 7) (C := RX7) (T := TX7) rfl inT7 rfl (by decide) (by decide) q_963 rfl hc hw (by omega) rfl dX7_init_648 ?_
  rw [show fv YN ad20 T7_130 7 0 7 = .ref (ad20 4) from by show va_rf (Option.map ad20 (gr T7_130 0 7)) = _; rw [show gr T7_130 0 7 = some 4 from rfl]; rfl]
  refine lv_iload_n hx hb dX7_init_651 rfl (lv_at hl 0 rfl) ?_
  refine lv_aload_n hx hb dX7_init_652 rfl (lv_at hl 1 rfl) ?_
  refine lv_iload_n hx hb dX7_init_653 rfl (lv_at hl 0 rfl) ?_
  refine g_ialdK (Y := YN) (kd := 41) (n := 21) (k := 9) (o := 20) (by decide) (by decide) rfl hc hw (by omega) rfl rfl (vp_in_lit (by decide)) (by decide) dX7_init_654 ?_
  rw [show gi T7_130 20 9 = (-145) from rfl]
  refine g_iastK (Y := YN) (kd := 24) (n := 3570) (k := 9) (o := 4) YN_ok (by decide) (by decide) rfl hc hw (by omega) rfl rfl (vp_in_lit (by decide)) (by decide) dX7_init_655 (fun σ_ H L131 e_ hw => ?_)
  subst e_
  have hRO : RO 21 T7_131 := RO_si (o := 4) (k := 9) (v := (-145)) hRO
  have hw : WH Γ YN 21 ad20 T7_131 s H L131 := hw
  refine lv_iinc (v := 10) (lv' := [(2, .int 10), (1, .ref (ad20 20)), (0, .ref (ad20 0))]) hx hb dX7_init_656 hl (k := 0) rfl (by decide) (by decide) rfl (fun ls hl => ?_)
  refine lv_goto (tgt := 641) hx hb dX7_init_659 (by decide) ?_
  refine lv_iload_n hx hb dX7_init_641 rfl (lv_at hl 0 rfl) ?_
  refine lv_aload_n hx hb dX7_init_642 rfl (lv_at hl 1 rfl) ?_
  refine g_aleni (Y := YN) (kd := 41) (v := 21) (o := 20) (by decide) (by decide) rfl hc hw (by omega) rfl rfl dX7_init_643 ?_
  refine lv_icmp_ge (tgt := 662) hx hb dX7_init_644 (by decide) (fun c => absurd c (by decide)) (fun _ => ?_)
  refine lv_aload_n hx hb dX7_init_647 rfl (lv_at hl 2 rfl) ?_
  refine g_get (Y := YN) (o := 0) (ci := 7) (N := 38) (k := 7) (C := RX7) (T := TX7) rfl inT7 rfl (by decide) (by decide) q_963 rfl hc hw (by omega) rfl dX7_init_648 ?_
  rw [show fv YN ad20 T7_131 7 0 7 = .ref (ad20 4) from by show va_rf (Option.map ad20 (gr T7_131 0 7)) = _; rw [show gr T7_131 0 7 = some 4 from rfl]; rfl]
  refine lv_iload_n hx hb dX7_init_651 rfl (lv_at hl 0 rfl) ?_
  refine lv_aload_n hx hb dX7_init_652 rfl (lv_at hl 1 rfl) ?_
  refine lv_iload_n hx hb dX7_init_653 rfl (lv_at hl 0 rfl) ?_
  refine g_ialdK (Y := YN) (kd := 41) (n := 21) (k := 10) (o := 20) (by decide) (by decide) rfl hc hw (by omega) rfl rfl (vp_in_lit (by decide)) (by decide) dX7_init_654 ?_
  rw [show gi T7_131 20 10 = (-2) from rfl]
  refine g_iastK (Y := YN) (kd := 24) (n := 3570) (k := 10) (o := 4) YN_ok (by decide) (by decide) rfl hc hw (by omega) rfl rfl (vp_in_lit (by decide)) (by decide) dX7_init_655 (fun σ_ H L132 e_ hw => ?_)
  subst e_
  have hRO : RO 21 T7_132 := RO_si (o := 4) (k := 10) (v := (-2)) hRO
  have hw : WH Γ YN 21 ad20 T7_132 s H L132 := hw
  refine lv_iinc (v := 11) (lv' := [(2, .int 11), (1, .ref (ad20 20)), (0, .ref (ad20 0))]) hx hb dX7_init_656 hl (k := 0) rfl (by decide) (by decide) rfl (fun ls hl => ?_)
  refine lv_goto (tgt := 641) hx hb dX7_init_659 (by decide) ?_
  refine lv_iload_n hx hb dX7_init_641 rfl (lv_at hl 0 rfl) ?_
  refine lv_aload_n hx hb dX7_init_642 rfl (lv_at hl 1 rfl) ?_
  refine g_aleni (Y := YN) (kd := 41) (v := 21) (o := 20) (by decide) (by decide) rfl hc hw (by omega) rfl rfl dX7_init_643 ?_
  refine lv_icmp_ge (tgt := 662) hx hb dX7_init_644 (by decide) (fun c => absurd c (by decide)) (fun _ => ?_)
  refine lv_aload_n hx hb dX7_init_647 rfl (lv_at hl 2 rfl) ?_
  refine g_get (Y := YN) (o := 0) (ci := 7) (N := 38) (k := 7) (C := RX7) (T := TX7) rfl inT7 rfl (by decide) (by decide) q_963 rfl hc hw (by omega) rfl dX7_init_648 ?_
  rw [show fv YN ad20 T7_132 7 0 7 = .ref (ad20 4) from by show va_rf (Option.map ad20 (gr T7_132 0 7)) = _; rw [show gr T7_132 0 7 = some 4 from rfl]; rfl]
  refine lv_iload_n hx hb dX7_init_651 rfl (lv_at hl 0 rfl) ?_
  refine lv_aload_n hx hb dX7_init_652 rfl (lv_at hl 1 rfl) ?_
  refine lv_iload_n hx hb dX7_init_653 rfl (lv_at hl 0 rfl) ?_
  refine g_ialdK (Y := YN) (kd := 41) (n := 21) (k := 11) (o := 20) (by decide) (by decide) rfl hc hw (by omega) rfl rfl (vp_in_lit (by decide)) (by decide) dX7_init_654 ?_
  rw [show gi T7_132 20 11 = 2 from rfl]
  refine g_iastK (Y := YN) (kd := 24) (n := 3570) (k := 11) (o := 4) YN_ok (by decide) (by decide) rfl hc hw (by omega) rfl rfl (vp_in_lit (by decide)) (by decide) dX7_init_655 (fun σ_ H L133 e_ hw => ?_)
  subst e_
  have hRO : RO 21 T7_133 := RO_si (o := 4) (k := 11) (v := 2) hRO
  have hw : WH Γ YN 21 ad20 T7_133 s H L133 := hw
  refine lv_iinc (v := 12) (lv' := [(2, .int 12), (1, .ref (ad20 20)), (0, .ref (ad20 0))]) hx hb dX7_init_656 hl (k := 0) rfl (by decide) (by decide) rfl (fun ls hl => ?_)
  refine lv_goto (tgt := 641) hx hb dX7_init_659 (by decide) ?_
  refine lv_iload_n hx hb dX7_init_641 rfl (lv_at hl 0 rfl) ?_
  refine lv_aload_n hx hb dX7_init_642 rfl (lv_at hl 1 rfl) ?_
  refine g_aleni (Y := YN) (kd := 41) (v := 21) (o := 20) (by decide) (by decide) rfl hc hw (by omega) rfl rfl dX7_init_643 ?_
  refine lv_icmp_ge (tgt := 662) hx hb dX7_init_644 (by decide) (fun c => absurd c (by decide)) (fun _ => ?_)
  refine lv_aload_n hx hb dX7_init_647 rfl (lv_at hl 2 rfl) ?_
  refine g_get (Y := YN) (o := 0) (ci := 7) (N := 38) (k := 7) (C := RX7) (T := TX7) rfl inT7 rfl (by decide) (by decide) q_963 rfl hc hw (by omega) rfl dX7_init_648 ?_
  rw [show fv YN ad20 T7_133 7 0 7 = .ref (ad20 4) from by show va_rf (Option.map ad20 (gr T7_133 0 7)) = _; rw [show gr T7_133 0 7 = some 4 from rfl]; rfl]
  refine lv_iload_n hx hb dX7_init_651 rfl (lv_at hl 0 rfl) ?_
  refine lv_aload_n hx hb dX7_init_652 rfl (lv_at hl 1 rfl) ?_
  refine lv_iload_n hx hb dX7_init_653 rfl (lv_at hl 0 rfl) ?_
  refine g_ialdK (Y := YN) (kd := 41) (n := 21) (k := 12) (o := 20) (by decide) (by decide) rfl hc hw (by omega) rfl rfl (vp_in_lit (by decide)) (by decide) dX7_init_654 ?_
  rw [show gi T7_133 20 12 = (-142) from rfl]
  refine g_iastK (Y := YN) (kd := 24) (n := 3570) (k := 12) (o := 4) YN_ok (by decide) (by decide) rfl hc hw (by omega) rfl rfl (vp_in_lit (by decide)) (by decide) dX7_init_655 (fun σ_ H L134 e_ hw => ?_)
  subst e_
  have hRO : RO 21 T7_134 := RO_si (o := 4) (k := 12) (v := (-142)) hRO
  have hw : WH Γ YN 21 ad20 T7_134 s H L134 := hw
  refine lv_iinc (v := 13) (lv' := [(2, .int 13), (1, .ref (ad20 20)), (0, .ref (ad20 0))]) hx hb dX7_init_656 hl (k := 0) rfl (by decide) (by decide) rfl (fun ls hl => ?_)
  refine lv_goto (tgt := 641) hx hb dX7_init_659 (by decide) ?_
  refine lv_iload_n hx hb dX7_init_641 rfl (lv_at hl 0 rfl) ?_
  refine lv_aload_n hx hb dX7_init_642 rfl (lv_at hl 1 rfl) ?_
  refine g_aleni (Y := YN) (kd := 41) (v := 21) (o := 20) (by decide) (by decide) rfl hc hw (by omega) rfl rfl dX7_init_643 ?_
  refine lv_icmp_ge (tgt := 662) hx hb dX7_init_644 (by decide) (fun c => absurd c (by decide)) (fun _ => ?_)
  refine lv_aload_n hx hb dX7_init_647 rfl (lv_at hl 2 rfl) ?_
  refine g_get (Y := YN) (o := 0) (ci := 7) (N := 38) (k := 7) (C := RX7) (T := TX7) rfl inT7 rfl (by decide) (by decide) q_963 rfl hc hw (by omega) rfl dX7_init_648 ?_
  rw [show fv YN ad20 T7_134 7 0 7 = .ref (ad20 4) from by show va_rf (Option.map ad20 (gr T7_134 0 7)) = _; rw [show gr T7_134 0 7 = some 4 from rfl]; rfl]
  refine lv_iload_n hx hb dX7_init_651 rfl (lv_at hl 0 rfl) ?_
  refine lv_aload_n hx hb dX7_init_652 rfl (lv_at hl 1 rfl) ?_
  refine lv_iload_n hx hb dX7_init_653 rfl (lv_at hl 0 rfl) ?_
  refine g_ialdK (Y := YN) (kd := 41) (n := 21) (k := 13) (o := 20) (by decide) (by decide) rfl hc hw (by omega) rfl rfl (vp_in_lit (by decide)) (by decide) dX7_init_654 ?_
  rw [show gi T7_134 20 13 = (-145) from rfl]
  refine g_iastK (Y := YN) (kd := 24) (n := 3570) (k := 13) (o := 4) YN_ok (by decide) (by decide) rfl hc hw (by omega) rfl rfl (vp_in_lit (by decide)) (by decide) dX7_init_655 (fun σ_ H L135 e_ hw => ?_)
  subst e_
  have hRO : RO 21 T7_135 := RO_si (o := 4) (k := 13) (v := (-145)) hRO
  have hw : WH Γ YN 21 ad20 T7_135 s H L135 := hw
  refine lv_iinc (v := 14) (lv' := [(2, .int 14), (1, .ref (ad20 20)), (0, .ref (ad20 0))]) hx hb dX7_init_656 hl (k := 0) rfl (by decide) (by decide) rfl (fun ls hl => ?_)
  refine lv_goto (tgt := 641) hx hb dX7_init_659 (by decide) ?_
  refine lv_iload_n hx hb dX7_init_641 rfl (lv_at hl 0 rfl) ?_
  refine lv_aload_n hx hb dX7_init_642 rfl (lv_at hl 1 rfl) ?_
  refine g_aleni (Y := YN) (kd := 41) (v := 21) (o := 20) (by decide) (by decide) rfl hc hw (by omega) rfl rfl dX7_init_643 ?_
  refine lv_icmp_ge (tgt := 662) hx hb dX7_init_644 (by decide) (fun c => absurd c (by decide)) (fun _ => ?_)
  refine lv_aload_n hx hb dX7_init_647 rfl (lv_at hl 2 rfl) ?_
  refine g_get (Y := YN) (o := 0) (ci := 7) (N := 38) (k := 7) (C := RX7) (T := TX7) rfl inT7 rfl (by decide) (by decide) q_963 rfl hc hw (by omega) rfl dX7_init_648 ?_
  rw [show fv YN ad20 T7_135 7 0 7 = .ref (ad20 4) from by show va_rf (Option.map ad20 (gr T7_135 0 7)) = _; rw [show gr T7_135 0 7 = some 4 from rfl]; rfl]
  refine lv_iload_n hx hb dX7_init_651 rfl (lv_at hl 0 rfl) ?_
  refine lv_aload_n hx hb dX7_init_652 rfl (lv_at hl 1 rfl) ?_
  refine lv_iload_n hx hb dX7_init_653 rfl (lv_at hl 0 rfl) ?_
  refine g_ialdK (Y := YN) (kd := 41) (n := 21) (k := 14) (o := 20) (by decide) (by decide) rfl hc hw (by omega) rfl rfl (vp_in_lit (by decide)) (by decide) dX7_init_654 ?_
  rw [show gi T7_135 20 14 = (-3) from rfl]
  refine g_iastK (Y := YN) (kd := 24) (n := 3570) (k := 14) (o := 4) YN_ok (by decide) (by decide) rfl hc hw (by omega) rfl rfl (vp_in_lit (by decide)) (by decide) dX7_init_655 (fun σ_ H L136 e_ hw => ?_)
  subst e_
  have hRO : RO 21 T7_136 := RO_si (o := 4) (k := 14) (v := (-3)) hRO
  have hw : WH Γ YN 21 ad20 T7_136 s H L136 := hw
  refine lv_iinc (v := 15) (lv' := [(2, .int 15), (1, .ref (ad20 20)), (0, .ref (ad20 0))]) hx hb dX7_init_656 hl (k := 0) rfl (by decide) (by decide) rfl (fun ls hl => ?_)
  refine lv_goto (tgt := 641) hx hb dX7_init_659 (by decide) ?_
  refine lv_iload_n hx hb dX7_init_641 rfl (lv_at hl 0 rfl) ?_
  refine lv_aload_n hx hb dX7_init_642 rfl (lv_at hl 1 rfl) ?_
  refine g_aleni (Y := YN) (kd := 41) (v := 21) (o := 20) (by decide) (by decide) rfl hc hw (by omega) rfl rfl dX7_init_643 ?_
  refine lv_icmp_ge (tgt := 662) hx hb dX7_init_644 (by decide) (fun c => absurd c (by decide)) (fun _ => ?_)
  refine lv_aload_n hx hb dX7_init_647 rfl (lv_at hl 2 rfl) ?_
  refine g_get (Y := YN) (o := 0) (ci := 7) (N := 38) (k := 7) (C := RX7) (T := TX7) rfl inT7 rfl (by decide) (by decide) q_963 rfl hc hw (by omega) rfl dX7_init_648 ?_
  rw [show fv YN ad20 T7_136 7 0 7 = .ref (ad20 4) from by show va_rf (Option.map ad20 (gr T7_136 0 7)) = _; rw [show gr T7_136 0 7 = some 4 from rfl]; rfl]
  refine lv_iload_n hx hb dX7_init_651 rfl (lv_at hl 0 rfl) ?_
  refine lv_aload_n hx hb dX7_init_652 rfl (lv_at hl 1 rfl) ?_
  refine lv_iload_n hx hb dX7_init_653 rfl (lv_at hl 0 rfl) ?_
  refine g_ialdK (Y := YN) (kd := 41) (n := 21) (k := 15) (o := 20) (by decide) (by decide) rfl hc hw (by omega) rfl rfl (vp_in_lit (by decide)) (by decide) dX7_init_654 ?_
  rw [show gi T7_136 20 15 = (-145) from rfl]
  refine g_iastK (Y := YN) (kd := 24) (n := 3570) (k := 15) (o := 4) YN_ok (by decide) (by decide) rfl hc hw (by omega) rfl rfl (vp_in_lit (by decide)) (by decide) dX7_init_655 (fun σ_ H L137 e_ hw => ?_)
  subst e_
  have hRO : RO 21 T7_137 := RO_si (o := 4) (k := 15) (v := (-145)) hRO
  have hw : WH Γ YN 21 ad20 T7_137 s H L137 := hw
  refine lv_iinc (v := 16) (lv' := [(2, .int 16), (1, .ref (ad20 20)), (0, .ref (ad20 0))]) hx hb dX7_init_656 hl (k := 0) rfl (by decide) (by decide) rfl (fun ls hl => ?_)
  refine lv_goto (tgt := 641) hx hb dX7_init_659 (by decide) ?_
  refine lv_iload_n hx hb dX7_init_641 rfl (lv_at hl 0 rfl) ?_
  refine lv_aload_n hx hb dX7_init_642 rfl (lv_at hl 1 rfl) ?_
  refine g_aleni (Y := YN) (kd := 41) (v := 21) (o := 20) (by decide) (by decide) rfl hc hw (by omega) rfl rfl dX7_init_643 ?_
  refine lv_icmp_ge (tgt := 662) hx hb dX7_init_644 (by decide) (fun c => absurd c (by decide)) (fun _ => ?_)
  refine lv_aload_n hx hb dX7_init_647 rfl (lv_at hl 2 rfl) ?_
  refine g_get (Y := YN) (o := 0) (ci := 7) (N := 38) (k := 7) (C := RX7) (T := TX7) rfl inT7 rfl (by decide) (by decide) q_963 rfl hc hw (by omega) rfl dX7_init_648 ?_
  rw [show fv YN ad20 T7_137 7 0 7 = .ref (ad20 4) from by show va_rf (Option.map ad20 (gr T7_137 0 7)) = _; rw [show gr T7_137 0 7 = some 4 from rfl]; rfl]
  refine lv_iload_n hx hb dX7_init_651 rfl (lv_at hl 0 rfl) ?_
  refine lv_aload_n hx hb dX7_init_652 rfl (lv_at hl 1 rfl) ?_
  refine lv_iload_n hx hb dX7_init_653 rfl (lv_at hl 0 rfl) ?_
  refine g_ialdK (Y := YN) (kd := 41) (n := 21) (k := 16) (o := 20) (by decide) (by decide) rfl hc hw (by omega) rfl rfl (vp_in_lit (by decide)) (by decide) dX7_init_654 ?_
  rw [show gi T7_137 20 16 = 60 from rfl]
  refine g_iastK (Y := YN) (kd := 24) (n := 3570) (k := 16) (o := 4) YN_ok (by decide) (by decide) rfl hc hw (by omega) rfl rfl (vp_in_lit (by decide)) (by decide) dX7_init_655 (fun σ_ H L138 e_ hw => ?_)
  subst e_
  have hRO : RO 21 T7_138 := RO_si (o := 4) (k := 16) (v := 60) hRO
  have hw : WH Γ YN 21 ad20 T7_138 s H L138 := hw
  refine lv_iinc (v := 17) (lv' := [(2, .int 17), (1, .ref (ad20 20)), (0, .ref (ad20 0))]) hx hb dX7_init_656 hl (k := 0) rfl (by decide) (by decide) rfl (fun ls hl => ?_)
  refine lv_goto (tgt := 641) hx hb dX7_init_659 (by decide) ?_
  refine lv_iload_n hx hb dX7_init_641 rfl (lv_at hl 0 rfl) ?_
  refine lv_aload_n hx hb dX7_init_642 rfl (lv_at hl 1 rfl) ?_
  refine g_aleni (Y := YN) (kd := 41) (v := 21) (o := 20) (by decide) (by decide) rfl hc hw (by omega) rfl rfl dX7_init_643 ?_
  refine lv_icmp_ge (tgt := 662) hx hb dX7_init_644 (by decide) (fun c => absurd c (by decide)) (fun _ => ?_)
  refine lv_aload_n hx hb dX7_init_647 rfl (lv_at hl 2 rfl) ?_
  refine g_get (Y := YN) (o := 0) (ci := 7) (N := 38) (k := 7) (C := RX7) (T := TX7) rfl inT7 rfl (by decide) (by decide) q_963 rfl hc hw (by omega) rfl dX7_init_648 ?_
  rw [show fv YN ad20 T7_138 7 0 7 = .ref (ad20 4) from by show va_rf (Option.map ad20 (gr T7_138 0 7)) = _; rw [show gr T7_138 0 7 = some 4 from rfl]; rfl]
  refine lv_iload_n hx hb dX7_init_651 rfl (lv_at hl 0 rfl) ?_
  refine lv_aload_n hx hb dX7_init_652 rfl (lv_at hl 1 rfl) ?_
  refine lv_iload_n hx hb dX7_init_653 rfl (lv_at hl 0 rfl) ?_
  refine g_ialdK (Y := YN) (kd := 41) (n := 21) (k := 17) (o := 20) (by decide) (by decide) rfl hc hw (by omega) rfl rfl (vp_in_lit (by decide)) (by decide) dX7_init_654 ?_
  rw [show gi T7_138 20 17 = (-6) from rfl]
  refine g_iastK (Y := YN) (kd := 24) (n := 3570) (k := 17) (o := 4) YN_ok (by decide) (by decide) rfl hc hw (by omega) rfl rfl (vp_in_lit (by decide)) (by decide) dX7_init_655 (fun σ_ H L139 e_ hw => ?_)
  subst e_
  have hRO : RO 21 T7_139 := RO_si (o := 4) (k := 17) (v := (-6)) hRO
  have hw : WH Γ YN 21 ad20 T7_139 s H L139 := hw
  refine lv_iinc (v := 18) (lv' := [(2, .int 18), (1, .ref (ad20 20)), (0, .ref (ad20 0))]) hx hb dX7_init_656 hl (k := 0) rfl (by decide) (by decide) rfl (fun ls hl => ?_)
  refine lv_goto (tgt := 641) hx hb dX7_init_659 (by decide) ?_
  refine lv_iload_n hx hb dX7_init_641 rfl (lv_at hl 0 rfl) ?_
  refine lv_aload_n hx hb dX7_init_642 rfl (lv_at hl 1 rfl) ?_
  refine g_aleni (Y := YN) (kd := 41) (v := 21) (o := 20) (by decide) (by decide) rfl hc hw (by omega) rfl rfl dX7_init_643 ?_
  refine lv_icmp_ge (tgt := 662) hx hb dX7_init_644 (by decide) (fun c => absurd c (by decide)) (fun _ => ?_)
  refine lv_aload_n hx hb dX7_init_647 rfl (lv_at hl 2 rfl) ?_
  refine g_get (Y := YN) (o := 0) (ci := 7) (N := 38) (k := 7) (C := RX7) (T := TX7) rfl inT7 rfl (by decide) (by decide) q_963 rfl hc hw (by omega) rfl dX7_init_648 ?_
  rw [show fv YN ad20 T7_139 7 0 7 = .ref (ad20 4) from by show va_rf (Option.map ad20 (gr T7_139 0 7)) = _; rw [show gr T7_139 0 7 = some 4 from rfl]; rfl]
  refine lv_iload_n hx hb dX7_init_651 rfl (lv_at hl 0 rfl) ?_
  refine lv_aload_n hx hb dX7_init_652 rfl (lv_at hl 1 rfl) ?_
  refine lv_iload_n hx hb dX7_init_653 rfl (lv_at hl 0 rfl) ?_
  refine g_ialdK (Y := YN) (kd := 41) (n := 21) (k := 18) (o := 20) (by decide) (by decide) rfl hc hw (by omega) rfl rfl (vp_in_lit (by decide)) (by decide) dX7_init_654 ?_
  rw [show gi T7_139 20 18 = (-145) from rfl]
  refine g_iastK (Y := YN) (kd := 24) (n := 3570) (k := 18) (o := 4) YN_ok (by decide) (by decide) rfl hc hw (by omega) rfl rfl (vp_in_lit (by decide)) (by decide) dX7_init_655 (fun σ_ H L140 e_ hw => ?_)
  subst e_
  have hRO : RO 21 T7_140 := RO_si (o := 4) (k := 18) (v := (-145)) hRO
  have hw : WH Γ YN 21 ad20 T7_140 s H L140 := hw
  refine lv_iinc (v := 19) (lv' := [(2, .int 19), (1, .ref (ad20 20)), (0, .ref (ad20 0))]) hx hb dX7_init_656 hl (k := 0) rfl (by decide) (by decide) rfl (fun ls hl => ?_)
  refine lv_goto (tgt := 641) hx hb dX7_init_659 (by decide) ?_
  refine lv_iload_n hx hb dX7_init_641 rfl (lv_at hl 0 rfl) ?_
  refine lv_aload_n hx hb dX7_init_642 rfl (lv_at hl 1 rfl) ?_
  refine g_aleni (Y := YN) (kd := 41) (v := 21) (o := 20) (by decide) (by decide) rfl hc hw (by omega) rfl rfl dX7_init_643 ?_
  refine lv_icmp_ge (tgt := 662) hx hb dX7_init_644 (by decide) (fun c => absurd c (by decide)) (fun _ => ?_)
  refine lv_aload_n hx hb dX7_init_647 rfl (lv_at hl 2 rfl) ?_
  refine g_get (Y := YN) (o := 0) (ci := 7) (N := 38) (k := 7) (C := RX7) (T := TX7) rfl inT7 rfl (by decide) (by decide) q_963 rfl hc hw (by omega) rfl dX7_init_648 ?_
  rw [show fv YN ad20 T7_140 7 0 7 = .ref (ad20 4) from by show va_rf (Option.map ad20 (gr T7_140 0 7)) = _; rw [show gr T7_140 0 7 = some 4 from rfl]; rfl]
  refine lv_iload_n hx hb dX7_init_651 rfl (lv_at hl 0 rfl) ?_
  refine lv_aload_n hx hb dX7_init_652 rfl (lv_at hl 1 rfl) ?_
  refine lv_iload_n hx hb dX7_init_653 rfl (lv_at hl 0 rfl) ?_
  refine g_ialdK (Y := YN) (kd := 41) (n := 21) (k := 19) (o := 20) (by decide) (by decide) rfl hc hw (by omega) rfl rfl (vp_in_lit (by decide)) (by decide) dX7_init_654 ?_
  rw [show gi T7_140 20 19 = (-1) from rfl]
  refine g_iastK (Y := YN) (kd := 24) (n := 3570) (k := 19) (o := 4) YN_ok (by decide) (by decide) rfl hc hw (by omega) rfl rfl (vp_in_lit (by decide)) (by decide) dX7_init_655 (fun σ_ H L141 e_ hw => ?_)
  subst e_
  have hRO : RO 21 T7_141 := RO_si (o := 4) (k := 19) (v := (-1)) hRO
  have hw : WH Γ YN 21 ad20 T7_141 s H L141 := hw
  refine lv_iinc (v := 20) (lv' := [(2, .int 20), (1, .ref (ad20 20)), (0, .ref (ad20 0))]) hx hb dX7_init_656 hl (k := 0) rfl (by decide) (by decide) rfl (fun ls hl => ?_)
  refine lv_goto (tgt := 641) hx hb dX7_init_659 (by decide) ?_
  refine lv_iload_n hx hb dX7_init_641 rfl (lv_at hl 0 rfl) ?_
  refine lv_aload_n hx hb dX7_init_642 rfl (lv_at hl 1 rfl) ?_
  refine g_aleni (Y := YN) (kd := 41) (v := 21) (o := 20) (by decide) (by decide) rfl hc hw (by omega) rfl rfl dX7_init_643 ?_
  refine lv_icmp_ge (tgt := 662) hx hb dX7_init_644 (by decide) (fun c => absurd c (by decide)) (fun _ => ?_)
  refine lv_aload_n hx hb dX7_init_647 rfl (lv_at hl 2 rfl) ?_
  refine g_get (Y := YN) (o := 0) (ci := 7) (N := 38) (k := 7) (C := RX7) (T := TX7) rfl inT7 rfl (by decide) (by decide) q_963 rfl hc hw (by omega) rfl dX7_init_648 ?_
  rw [show fv YN ad20 T7_141 7 0 7 = .ref (ad20 4) from by show va_rf (Option.map ad20 (gr T7_141 0 7)) = _; rw [show gr T7_141 0 7 = some 4 from rfl]; rfl]
  refine lv_iload_n hx hb dX7_init_651 rfl (lv_at hl 0 rfl) ?_
  refine lv_aload_n hx hb dX7_init_652 rfl (lv_at hl 1 rfl) ?_
  refine lv_iload_n hx hb dX7_init_653 rfl (lv_at hl 0 rfl) ?_
  refine g_ialdK (Y := YN) (kd := 41) (n := 21) (k := 20) (o := 20) (by decide) (by decide) rfl hc hw (by omega) rfl rfl (vp_in_lit (by decide)) (by decide) dX7_init_654 ?_
  rw [show gi T7_141 20 20 = (-143) from rfl]
  refine g_iastK (Y := YN) (kd := 24) (n := 3570) (k := 20) (o := 4) YN_ok (by decide) (by decide) rfl hc hw (by omega) rfl rfl (vp_in_lit (by decide)) (by decide) dX7_init_655 (fun σ_ H L142 e_ hw => ?_)
  subst e_
  have hRO : RO 21 T7_142 := RO_si (o := 4) (k := 20) (v := (-143)) hRO
  have hw : WH Γ YN 21 ad20 T7_142 s H L142 := hw
  refine lv_iinc (v := 21) (lv' := [(2, .int 21), (1, .ref (ad20 20)), (0, .ref (ad20 0))]) hx hb dX7_init_656 hl (k := 0) rfl (by decide) (by decide) rfl (fun ls hl => ?_)
  refine lv_goto (tgt := 641) hx hb dX7_init_659 (by decide) ?_
  refine lv_iload_n hx hb dX7_init_641 rfl (lv_at hl 0 rfl) ?_
  refine lv_aload_n hx hb dX7_init_642 rfl (lv_at hl 1 rfl) ?_
  refine g_aleni (Y := YN) (kd := 41) (v := 21) (o := 20) (by decide) (by decide) rfl hc hw (by omega) rfl rfl dX7_init_643 ?_
  refine lv_icmp_ge (tgt := 662) hx hb dX7_init_644 (by decide) (fun _ => ?_) (fun c => absurd (by decide) c)
  refine lv_aload_n hx hb dX7_init_662 rfl (lv_at hl 2 rfl) ?_
  refine g_get (Y := YN) (o := 0) (ci := 7) (N := 38) (k := 8) (C := RX7) (T := TX7) rfl inT7 rfl (by decide) (by decide) q_964 rfl hc hw (by omega) rfl dX7_init_663 ?_
  rw [show fv YN ad20 T7_142 7 0 8 = .ref (ad20 5) from by show va_rf (Option.map ad20 (gr T7_142 0 8)) = _; rw [show gr T7_142 0 8 = some 5 from rfl]; rfl]
  refine lv_iconst (v := 0) hx hb dX7_init_666 (by decide) ?_
  refine lv_iconst (v := 0) hx hb dX7_init_667 (by decide) ?_
  refine g_iastK (Y := YN) (kd := 25) (n := 21) (k := 0) (o := 5) YN_ok (by decide) (by decide) rfl hc hw (by omega) rfl rfl (vp_in_lit (by decide)) (by decide) dX7_init_668 (fun σ_ H L143 e_ hw => ?_)
  subst e_
  have hRO : RO 21 T7_143 := RO_si (o := 5) (k := 0) (v := 0) hRO
  have hw : WH Γ YN 21 ad20 T7_143 s H L143 := hw
  refine lv_aload_n hx hb dX7_init_669 rfl (lv_at hl 2 rfl) ?_
  refine g_get (Y := YN) (o := 0) (ci := 7) (N := 38) (k := 9) (C := RX7) (T := TX7) rfl inT7 rfl (by decide) (by decide) q_965 rfl hc hw (by omega) rfl dX7_init_670 ?_
  rw [show fv YN ad20 T7_143 7 0 9 = .ref (ad20 6) from by show va_rf (Option.map ad20 (gr T7_143 0 9)) = _; rw [show gr T7_143 0 9 = some 6 from rfl]; rfl]
  refine lv_iconst (v := 0) hx hb dX7_init_673 (by decide) ?_
  refine lv_bipush (v := 7) hx hb dX7_init_674 (by decide) ?_
  refine g_iastK (Y := YN) (kd := 26) (n := 21) (k := 0) (o := 6) YN_ok (by decide) (by decide) rfl hc hw (by omega) rfl rfl (vp_in_lit (by decide)) (by decide) dX7_init_676 (fun σ_ H L144 e_ hw => ?_)
  subst e_
  have hRO : RO 21 T7_144 := RO_si (o := 6) (k := 0) (v := 7) hRO
  have hw : WH Γ YN 21 ad20 T7_144 s H L144 := hw
  refine lv_aload_n hx hb dX7_init_677 rfl (lv_at hl 2 rfl) ?_
  refine g_get (Y := YN) (o := 0) (ci := 7) (N := 38) (k := 8) (C := RX7) (T := TX7) rfl inT7 rfl (by decide) (by decide) q_964 rfl hc hw (by omega) rfl dX7_init_678 ?_
  rw [show fv YN ad20 T7_144 7 0 8 = .ref (ad20 5) from by show va_rf (Option.map ad20 (gr T7_144 0 8)) = _; rw [show gr T7_144 0 8 = some 5 from rfl]; rfl]
  refine lv_iconst (v := 1) hx hb dX7_init_681 (by decide) ?_
  refine lv_bipush (v := 7) hx hb dX7_init_682 (by decide) ?_
  refine g_iastK (Y := YN) (kd := 25) (n := 21) (k := 1) (o := 5) YN_ok (by decide) (by decide) rfl hc hw (by omega) rfl rfl (vp_in_lit (by decide)) (by decide) dX7_init_684 (fun σ_ H L145 e_ hw => ?_)
  subst e_
  have hRO : RO 21 T7_145 := RO_si (o := 5) (k := 1) (v := 7) hRO
  have hw : WH Γ YN 21 ad20 T7_145 s H L145 := hw
  refine lv_aload_n hx hb dX7_init_685 rfl (lv_at hl 2 rfl) ?_
  refine g_get (Y := YN) (o := 0) (ci := 7) (N := 38) (k := 9) (C := RX7) (T := TX7) rfl inT7 rfl (by decide) (by decide) q_965 rfl hc hw (by omega) rfl dX7_init_686 ?_
  rw [show fv YN ad20 T7_145 7 0 9 = .ref (ad20 6) from by show va_rf (Option.map ad20 (gr T7_145 0 9)) = _; rw [show gr T7_145 0 9 = some 6 from rfl]; rfl]
  refine lv_iconst (v := 1) hx hb dX7_init_689 (by decide) ?_
  refine lv_bipush (v := 16) hx hb dX7_init_690 (by decide) ?_
  refine g_iastK (Y := YN) (kd := 26) (n := 21) (k := 1) (o := 6) YN_ok (by decide) (by decide) rfl hc hw (by omega) rfl rfl (vp_in_lit (by decide)) (by decide) dX7_init_692 (fun σ_ H L146 e_ hw => ?_)
  subst e_
  have hRO : RO 21 T7_146 := RO_si (o := 6) (k := 1) (v := 16) hRO
  have hw : WH Γ YN 21 ad20 T7_146 s H L146 := hw
  refine lv_aload_n hx hb dX7_init_693 rfl (lv_at hl 2 rfl) ?_
  refine g_get (Y := YN) (o := 0) (ci := 7) (N := 38) (k := 8) (C := RX7) (T := TX7) rfl inT7 rfl (by decide) (by decide) q_964 rfl hc hw (by omega) rfl dX7_init_694 ?_
  rw [show fv YN ad20 T7_146 7 0 8 = .ref (ad20 5) from by show va_rf (Option.map ad20 (gr T7_146 0 8)) = _; rw [show gr T7_146 0 8 = some 5 from rfl]; rfl]
  refine lv_iconst (v := 2) hx hb dX7_init_697 (by decide) ?_
  refine lv_bipush (v := 16) hx hb dX7_init_698 (by decide) ?_
  refine g_iastK (Y := YN) (kd := 25) (n := 21) (k := 2) (o := 5) YN_ok (by decide) (by decide) rfl hc hw (by omega) rfl rfl (vp_in_lit (by decide)) (by decide) dX7_init_700 (fun σ_ H L147 e_ hw => ?_)
  subst e_
  have hRO : RO 21 T7_147 := RO_si (o := 5) (k := 2) (v := 16) hRO
  have hw : WH Γ YN 21 ad20 T7_147 s H L147 := hw
  refine lv_aload_n hx hb dX7_init_701 rfl (lv_at hl 2 rfl) ?_
  refine g_get (Y := YN) (o := 0) (ci := 7) (N := 38) (k := 9) (C := RX7) (T := TX7) rfl inT7 rfl (by decide) (by decide) q_965 rfl hc hw (by omega) rfl dX7_init_702 ?_
  rw [show fv YN ad20 T7_147 7 0 9 = .ref (ad20 6) from by show va_rf (Option.map ad20 (gr T7_147 0 9)) = _; rw [show gr T7_147 0 9 = some 6 from rfl]; rfl]
  refine lv_iconst (v := 2) hx hb dX7_init_705 (by decide) ?_
  refine lv_bipush (v := 21) hx hb dX7_init_706 (by decide) ?_
  refine g_iastK (Y := YN) (kd := 26) (n := 21) (k := 2) (o := 6) YN_ok (by decide) (by decide) rfl hc hw (by omega) rfl rfl (vp_in_lit (by decide)) (by decide) dX7_init_708 (fun σ_ H L148 e_ hw => ?_)
  subst e_
  have hRO : RO 21 T7_148 := RO_si (o := 6) (k := 2) (v := 21) hRO
  have hw : WH Γ YN 21 ad20 T7_148 s H L148 := hw
  refine lv_aload_n hx hb dX7_init_709 rfl (lv_at hl 2 rfl) ?_
  refine lv_iconst (v := 1) hx hb dX7_init_710 (by decide) ?_
  refine g_put (Y := YN) (o := 0) (ci := 7) (N := 38) (k := 5) (C := RX7) (T := TX7) (ty0 := tyX7) (τ := T7_149) rfl inT7 tyX7_ok nmX7 rfl (by decide) (by decide) q_961 rfl rfl rfl rfl hc hw (by omega) rfl (en_si (YN_ok) rfl (by decide) rfl) dX7_init_711 (fun H L149 hw => ?_)
  have hRO : RO 21 T7_149 := RO_si (o := 0) (k := 5) (v := 1) hRO
  refine lv_aload_n hx hb dX7_init_714 rfl (lv_at hl 2 rfl) ?_
  refine g_get (Y := YN) (o := 0) (ci := 7) (N := 38) (k := 2) (C := RX7) (T := TX7) rfl inT7 rfl (by decide) (by decide) q_958 rfl hc hw (by omega) rfl dX7_init_715 ?_
  rw [show fv YN ad20 T7_149 7 0 2 = .ref (ad20 2) from by show va_rf (Option.map ad20 (gr T7_149 0 2)) = _; rw [show gr T7_149 0 2 = some 2 from rfl]; rfl]
  refine lv_iconst (v := 0) hx hb dX7_init_718 (by decide) ?_
  refine lv_iconst (v := 4) hx hb dX7_init_719 (by decide) ?_
  refine g_iastK (Y := YN) (kd := 22) (n := 3) (k := 0) (o := 2) YN_ok (by decide) (by decide) rfl hc hw (by omega) rfl rfl (vp_in_lit (by decide)) (by decide) dX7_init_720 (fun σ_ H L150 e_ hw => ?_)
  subst e_
  have hRO : RO 21 T7_150 := RO_si (o := 2) (k := 0) (v := 4) hRO
  have hw : WH Γ YN 21 ad20 T7_150 s H L150 := hw
  refine lv_aload_n hx hb dX7_init_721 rfl (lv_at hl 2 rfl) ?_
  refine g_get (Y := YN) (o := 0) (ci := 7) (N := 38) (k := 2) (C := RX7) (T := TX7) rfl inT7 rfl (by decide) (by decide) q_958 rfl hc hw (by omega) rfl dX7_init_722 ?_
  rw [show fv YN ad20 T7_150 7 0 2 = .ref (ad20 2) from by show va_rf (Option.map ad20 (gr T7_150 0 2)) = _; rw [show gr T7_150 0 2 = some 2 from rfl]; rfl]
  refine lv_iconst (v := 1) hx hb dX7_init_725 (by decide) ?_
  refine lv_bipush (v := 20) hx hb dX7_init_726 (by decide) ?_
  refine g_iastK (Y := YN) (kd := 22) (n := 3) (k := 1) (o := 2) YN_ok (by decide) (by decide) rfl hc hw (by omega) rfl rfl (vp_in_lit (by decide)) (by decide) dX7_init_728 (fun σ_ H L151 e_ hw => ?_)
  subst e_
  have hRO : RO 21 T7_151 := RO_si (o := 2) (k := 1) (v := 20) hRO
  have hw : WH Γ YN 21 ad20 T7_151 s H L151 := hw
  refine lv_aload_n hx hb dX7_init_729 rfl (lv_at hl 2 rfl) ?_
  refine g_get (Y := YN) (o := 0) (ci := 7) (N := 38) (k := 2) (C := RX7) (T := TX7) rfl inT7 rfl (by decide) (by decide) q_958 rfl hc hw (by omega) rfl dX7_init_730 ?_
  rw [show fv YN ad20 T7_151 7 0 2 = .ref (ad20 2) from by show va_rf (Option.map ad20 (gr T7_151 0 2)) = _; rw [show gr T7_151 0 2 = some 2 from rfl]; rfl]
  refine lv_iconst (v := 2) hx hb dX7_init_733 (by decide) ?_
  refine lv_iconst (v := 3) hx hb dX7_init_734 (by decide) ?_
  refine g_iastK (Y := YN) (kd := 22) (n := 3) (k := 2) (o := 2) YN_ok (by decide) (by decide) rfl hc hw (by omega) rfl rfl (vp_in_lit (by decide)) (by decide) dX7_init_735 (fun σ_ H L152 e_ hw => ?_)
  subst e_
  have hRO : RO 21 T7_152 := RO_si (o := 2) (k := 2) (v := 3) hRO
  have hw : WH Γ YN 21 ad20 T7_152 s H L152 := hw
  refine lv_iconst (v := 0) hx hb dX7_init_736 (by decide) ?_
  refine lv_istore_n (lv' := [(2, .int 0), (1, .ref (ad20 20)), (0, .ref (ad20 0))]) hx hb dX7_init_737 rfl hl (by decide) rfl (fun ls hl => ?_)
  refine lv_iload_n hx hb dX7_init_738 rfl (lv_at hl 0 rfl) ?_
  refine lv_iconst (v := 4) hx hb dX7_init_739 (by decide) ?_
  refine lv_icmp_ge (tgt := 756) hx hb dX7_init_740 (by decide) (fun c => absurd c (by decide)) (fun _ => ?_)
  refine lv_aload_n hx hb dX7_init_743 rfl (lv_at hl 2 rfl) ?_
  refine g_get (Y := YN) (o := 0) (ci := 7) (N := 38) (k := 34) (C := RX7) (T := TX7) rfl inT7 rfl (by decide) (by decide) q_990 rfl hc hw (by omega) rfl dX7_init_744 ?_
  rw [show fv YN ad20 T7_152 7 0 34 = .ref (ad20 16) from by show va_rf (Option.map ad20 (gr T7_152 0 34)) = _; rw [show gr T7_152 0 34 = some 16 from rfl]; rfl]
  refine lv_iload_n hx hb dX7_init_747 rfl (lv_at hl 0 rfl) ?_
  refine lv_iconst (v := (-1)) hx hb dX7_init_748 (by decide) ?_
  refine g_iastK (Y := YN) (kd := 36) (n := 4) (k := 0) (o := 16) YN_ok (by decide) (by decide) rfl hc hw (by omega) rfl rfl (vp_in_lit (by decide)) (by decide) dX7_init_749 (fun σ_ H L153 e_ hw => ?_)
  subst e_
  have hRO : RO 21 T7_153 := RO_si (o := 16) (k := 0) (v := (-1)) hRO
  have hw : WH Γ YN 21 ad20 T7_153 s H L153 := hw
  refine lv_iinc (v := 1) (lv' := [(2, .int 1), (1, .ref (ad20 20)), (0, .ref (ad20 0))]) hx hb dX7_init_750 hl (k := 0) rfl (by decide) (by decide) rfl (fun ls hl => ?_)
  refine lv_goto (tgt := 738) hx hb dX7_init_753 (by decide) ?_
  refine lv_iload_n hx hb dX7_init_738 rfl (lv_at hl 0 rfl) ?_
  refine lv_iconst (v := 4) hx hb dX7_init_739 (by decide) ?_
  refine lv_icmp_ge (tgt := 756) hx hb dX7_init_740 (by decide) (fun c => absurd c (by decide)) (fun _ => ?_)
  refine lv_aload_n hx hb dX7_init_743 rfl (lv_at hl 2 rfl) ?_
  refine g_get (Y := YN) (o := 0) (ci := 7) (N := 38) (k := 34) (C := RX7) (T := TX7) rfl inT7 rfl (by decide) (by decide) q_990 rfl hc hw (by omega) rfl dX7_init_744 ?_
  rw [show fv YN ad20 T7_153 7 0 34 = .ref (ad20 16) from by show va_rf (Option.map ad20 (gr T7_153 0 34)) = _; rw [show gr T7_153 0 34 = some 16 from rfl]; rfl]
  refine lv_iload_n hx hb dX7_init_747 rfl (lv_at hl 0 rfl) ?_
  refine lv_iconst (v := (-1)) hx hb dX7_init_748 (by decide) ?_
  refine g_iastK (Y := YN) (kd := 36) (n := 4) (k := 1) (o := 16) YN_ok (by decide) (by decide) rfl hc hw (by omega) rfl rfl (vp_in_lit (by decide)) (by decide) dX7_init_749 (fun σ_ H L154 e_ hw => ?_)
  subst e_
  have hRO : RO 21 T7_154 := RO_si (o := 16) (k := 1) (v := (-1)) hRO
  have hw : WH Γ YN 21 ad20 T7_154 s H L154 := hw
  refine lv_iinc (v := 2) (lv' := [(2, .int 2), (1, .ref (ad20 20)), (0, .ref (ad20 0))]) hx hb dX7_init_750 hl (k := 0) rfl (by decide) (by decide) rfl (fun ls hl => ?_)
  refine lv_goto (tgt := 738) hx hb dX7_init_753 (by decide) ?_
  refine lv_iload_n hx hb dX7_init_738 rfl (lv_at hl 0 rfl) ?_
  refine lv_iconst (v := 4) hx hb dX7_init_739 (by decide) ?_
  refine lv_icmp_ge (tgt := 756) hx hb dX7_init_740 (by decide) (fun c => absurd c (by decide)) (fun _ => ?_)
  refine lv_aload_n hx hb dX7_init_743 rfl (lv_at hl 2 rfl) ?_
  refine g_get (Y := YN) (o := 0) (ci := 7) (N := 38) (k := 34) (C := RX7) (T := TX7) rfl inT7 rfl (by decide) (by decide) q_990 rfl hc hw (by omega) rfl dX7_init_744 ?_
  rw [show fv YN ad20 T7_154 7 0 34 = .ref (ad20 16) from by show va_rf (Option.map ad20 (gr T7_154 0 34)) = _; rw [show gr T7_154 0 34 = some 16 from rfl]; rfl]
  refine lv_iload_n hx hb dX7_init_747 rfl (lv_at hl 0 rfl) ?_
  refine lv_iconst (v := (-1)) hx hb dX7_init_748 (by decide) ?_
  refine g_iastK (Y := YN) (kd := 36) (n := 4) (k := 2) (o := 16) YN_ok (by decide) (by decide) rfl hc hw (by omega) rfl rfl (vp_in_lit (by decide)) (by decide) dX7_init_749 (fun σ_ H L155 e_ hw => ?_)
  subst e_
  have hRO : RO 21 T7_155 := RO_si (o := 16) (k := 2) (v := (-1)) hRO
  have hw : WH Γ YN 21 ad20 T7_155 s H L155 := hw
  refine lv_iinc (v := 3) (lv' := [(2, .int 3), (1, .ref (ad20 20)), (0, .ref (ad20 0))]) hx hb dX7_init_750 hl (k := 0) rfl (by decide) (by decide) rfl (fun ls hl => ?_)
  refine lv_goto (tgt := 738) hx hb dX7_init_753 (by decide) ?_
  refine lv_iload_n hx hb dX7_init_738 rfl (lv_at hl 0 rfl) ?_
  refine lv_iconst (v := 4) hx hb dX7_init_739 (by decide) ?_
  refine lv_icmp_ge (tgt := 756) hx hb dX7_init_740 (by decide) (fun c => absurd c (by decide)) (fun _ => ?_)
  refine lv_aload_n hx hb dX7_init_743 rfl (lv_at hl 2 rfl) ?_
  refine g_get (Y := YN) (o := 0) (ci := 7) (N := 38) (k := 34) (C := RX7) (T := TX7) rfl inT7 rfl (by decide) (by decide) q_990 rfl hc hw (by omega) rfl dX7_init_744 ?_
  rw [show fv YN ad20 T7_155 7 0 34 = .ref (ad20 16) from by show va_rf (Option.map ad20 (gr T7_155 0 34)) = _; rw [show gr T7_155 0 34 = some 16 from rfl]; rfl]
  refine lv_iload_n hx hb dX7_init_747 rfl (lv_at hl 0 rfl) ?_
  refine lv_iconst (v := (-1)) hx hb dX7_init_748 (by decide) ?_
  refine g_iastK (Y := YN) (kd := 36) (n := 4) (k := 3) (o := 16) YN_ok (by decide) (by decide) rfl hc hw (by omega) rfl rfl (vp_in_lit (by decide)) (by decide) dX7_init_749 (fun σ_ H L156 e_ hw => ?_)
  subst e_
  have hRO : RO 21 T7_156 := RO_si (o := 16) (k := 3) (v := (-1)) hRO
  have hw : WH Γ YN 21 ad20 T7_156 s H L156 := hw
  refine lv_iinc (v := 4) (lv' := [(2, .int 4), (1, .ref (ad20 20)), (0, .ref (ad20 0))]) hx hb dX7_init_750 hl (k := 0) rfl (by decide) (by decide) rfl (fun ls hl => ?_)
  refine lv_goto (tgt := 738) hx hb dX7_init_753 (by decide) ?_
  refine lv_iload_n hx hb dX7_init_738 rfl (lv_at hl 0 rfl) ?_
  refine lv_iconst (v := 4) hx hb dX7_init_739 (by decide) ?_
  refine lv_icmp_ge (tgt := 756) hx hb dX7_init_740 (by decide) (fun _ => ?_) (fun c => absurd (by decide) c)
  have hw : WH Γ YM 20 ad20 T7 s H L156 := WH_like (WH_drop (by decide) hw) (fun _ _ => rfl) (fun o ho => YN_YM ho)
  refine W.widen (k := 20) (n := 4333) (Nat.le_of_ble_eq_true rfl) (Nat.le_of_ble_eq_true rfl) ?_
  exact W.vret hc.1 hc.2.1 hr (fun t ht hW => ⟨⟨T7, rfl, rfl, ad20, hagT, hw.wc hc ht hW⟩, hw.2.2.F ht⟩) hw.2.2.2.2 dX7_init_756 hc.2.2.2.2.2.1
