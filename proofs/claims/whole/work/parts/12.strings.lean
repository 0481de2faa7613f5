/-- the char at a place of a text; where a byte stands in the signs -/
def chT (i : Nat) (k : Int32) : Int32 := (bytT.getD i []).getD k.toNatClampNeg 0
def ixF (c : Int32) : List Int32 → Nat → Int32
  | [], _ => -1
  | b :: l, k => if b = c then nI k else ixF c l (k + 1)
def ixT (i : Nat) (c : Int32) : Int32 := ixF c (bytT.getD i []) 0
section RULES5
variable {Γ : Gm} {Y : Sy} {M : Nat} {ad : Nat → Nat} {σ : St} {p : Program} {l : Launch} {e : Env} {R : Room} {s : State} {m : MethodId} {args : Array Value} {below : List Frame} {meth : Method} {c : Code} {H : Heap} {locs : List Loc} {cells slots : Nat} {Q : State → Prop} {cc : ByteArray} {pc nL : Nat} {ls : Array Slot} {rest st : List Value} {own : String}
theorem g_Vs {i index n mx k : Nat} {y : MethodName} {b : ByteArray} {ret : Option FieldType} {As : List Value} {post : Int32 → St → Prop} (hi : i < 3) (hwd : VW own index "java/lang/String" y b mx ret n) (hR : 2 * k + 4 + 1 ≤ R.frames ∧ 8 + (mx + 11) + 60 * (k + 1) ≤ R.locals ∧ cells ≤ R.cells ∧ slots ≤ R.slots)
    (hc : CX Γ p s m args meth c cc own nL) (hw : WH Γ Y M ad σ s H locs) (hl : ls.size = nL) (hM : Ci l Γ Y M ad σ y b mx ret k 0 0 (.ref (Γ.2.2.2.2.1 i) :: As) post) (hn : As.length = n) (hst : st = As.reverse ++ .ref (Γ.2.2.2.2.1 i) :: rest) (hs : (rest.map fun v => v.category).sum ≤ 8) (hdg : decode cc pc = .ok (.invokevirtual index, 3))
    (kk : ∀ (r : Int32) (u : St) (H1 : Heap) (locs1 : List Loc), post r u → WH Γ Y M ad u s H1 locs1 → W p l e R s m args below meth c H1 locs1 cells slots Q (F0 m (pc + 3) ls (.int r :: rest))) : W p l e R s m args below meth c H locs cells slots Q (F0 m pc ls st) := by
  subst hst
  exact va_calli (va_runV (As := As) (rest := rest) ⟨hc.1, hc.2.1, hc.2.2.1, hc.2.2.2.1, hc.2.2.2.2.1⟩ hM (cwV n hc.2.2.2.2.1 hwd.good rfl rfl rfl hwd.2.2.2.2.2 ⟨hR.1, hR.2.1⟩) ⟨fun a U g mk q => ⟨q.1, q.2.calling g mk a⟩, vk_recv hc.2.2.2.2.2.2.2.2.2.2.1.1 hi hw.2.2, fun U hU hW => ⟨rfl, hw.wc hc hU hW⟩⟩ rfl hn hl rfl (lv_room hs) hdg ⟨hR.2.2.1, hR.2.2.2⟩) hw.2.2 (fun q _ h => h) (fun q h => h) (fun r u t H1 locs1 ht hvm hp hB _ _ hS => kk r u H1 locs1 hp (hB.wh ht hS))
end RULES5
theorem q_259 : Cond.methodLink RJ0 335 yJ0_coder_7d493 ∈ TB := TB_at 259 (by decide +kernel) rfl
set_option maxRecDepth 100000 in
theorem q_262 : Cond.code yJ0_coder_7d493 cJ0_coder_7d493 1 (some .byte) ∈ TB := TB_at 262 rfl rfl
theorem q_260 : Cond.instanceMethod yJ0_coder_7d493 ∈ TB := TB_at 260 (by decide +kernel) rfl
theorem q_261 : Cond.selects "java/lang/String" yJ0_coder_7d493 yJ0_coder_7d493 ∈ TB := TB_at 261 (by decide +kernel) rfl
theorem vw_J0_335 : VW RJ0 335 "java/lang/String" yJ0_coder_7d493 cJ0_coder_7d493 1 (some .byte) 0 := ⟨q_259, q_260, q_261, q_81, q_262, by decide +kernel⟩
theorem q_269 : Cond.methodLink RJ0 492 yJ0_isLatin1_aae02 ∈ TB := TB_at 269 (by decide +kernel) rfl
set_option maxRecDepth 100000 in
theorem q_272 : Cond.code yJ0_isLatin1_aae02 cJ0_isLatin1_aae02 1 (some .boolean) ∈ TB := TB_at 272 rfl rfl
theorem q_270 : Cond.instanceMethod yJ0_isLatin1_aae02 ∈ TB := TB_at 270 (by decide +kernel) rfl
theorem q_271 : Cond.selects "java/lang/String" yJ0_isLatin1_aae02 yJ0_isLatin1_aae02 ∈ TB := TB_at 271 (by decide +kernel) rfl
theorem vw_J0_492 : VW RJ0 492 "java/lang/String" yJ0_isLatin1_aae02 cJ0_isLatin1_aae02 1 (some .boolean) 0 := ⟨q_269, q_270, q_271, q_81, q_272, by decide +kernel⟩
theorem q_273 : Cond.methodLink RJ0 495 yJ1_charAt_3b067 ∈ TB := TB_at 273 (by decide +kernel) rfl
set_option maxRecDepth 100000 in
theorem q_275 : Cond.code yJ1_charAt_3b067 cJ1_charAt_3b067 2 (some .char) ∈ TB := TB_at 275 rfl rfl
theorem q_82 : Cond.initialized "java/lang/StringLatin1" ∈ TB := TB_at 82 (by decide +kernel) rfl
theorem q_274 : Cond.static yJ1_charAt_3b067 ∈ TB := TB_at 274 (by decide +kernel) rfl
theorem vw_J0_495 : SW RJ0 495 yJ1_charAt_3b067 cJ1_charAt_3b067 2 (some .char) 2 := ⟨q_273, q_274, q_82, q_275, by decide +kernel⟩
theorem q_281 : Cond.methodLink RJ0 1059 yJ3_checkIndex_8e157 ∈ TB := TB_at 281 (by decide +kernel) rfl
set_option maxRecDepth 100000 in
theorem q_283 : Cond.code yJ3_checkIndex_8e157 cJ3_checkIndex_8e157 3 (some .int) ∈ TB := TB_at 283 rfl rfl
theorem q_83 : Cond.initialized "jdk/internal/util/Preconditions" ∈ TB := TB_at 83 (by decide +kernel) rfl
theorem q_282 : Cond.static yJ3_checkIndex_8e157 ∈ TB := TB_at 282 (by decide +kernel) rfl
theorem vw_J0_1059 : SW RJ0 1059 yJ3_checkIndex_8e157 cJ3_checkIndex_8e157 3 (some .int) 3 := ⟨q_281, q_282, q_83, q_283, by decide +kernel⟩
theorem q_349 : Cond.methodLink RJ0 505 yJ0_length_8abf5 ∈ TB := TB_at 349 (by decide +kernel) rfl
theorem vw_J0_505 : VW RJ0 505 "java/lang/String" yJ0_length_8abf5 cJ0_length_8abf5 1 (some .int) 0 := ⟨q_349, q_256, q_257, q_81, q_258, by decide +kernel⟩
theorem q_345 : Cond.methodLink RJ0 633 yJ0_indexOf_7cf53 ∈ TB := TB_at 345 (by decide +kernel) rfl
set_option maxRecDepth 100000 in
theorem q_348 : Cond.code yJ0_indexOf_7cf53 cJ0_indexOf_7cf53 3 (some .int) ∈ TB := TB_at 348 rfl rfl
theorem q_346 : Cond.instanceMethod yJ0_indexOf_7cf53 ∈ TB := TB_at 346 (by decide +kernel) rfl
theorem q_347 : Cond.selects "java/lang/String" yJ0_indexOf_7cf53 yJ0_indexOf_7cf53 ∈ TB := TB_at 347 (by decide +kernel) rfl
theorem vw_J0_633 : VW RJ0 633 "java/lang/String" yJ0_indexOf_7cf53 cJ0_indexOf_7cf53 3 (some .int) 2 := ⟨q_345, q_346, q_347, q_81, q_348, by decide +kernel⟩
theorem q_350 : Cond.methodLink RJ0 637 yJ1_indexOf_4cfef ∈ TB := TB_at 350 (by decide +kernel) rfl
set_option maxRecDepth 100000 in
theorem q_352 : Cond.code yJ1_indexOf_4cfef cJ1_indexOf_4cfef 4 (some .int) ∈ TB := TB_at 352 rfl rfl
theorem q_351 : Cond.static yJ1_indexOf_4cfef ∈ TB := TB_at 351 (by decide +kernel) rfl
theorem vw_J0_637 : SW RJ0 637 yJ1_indexOf_4cfef cJ1_indexOf_4cfef 4 (some .int) 4 := ⟨q_350, q_351, q_82, q_352, by decide +kernel⟩
theorem q_276 : Cond.methodLink RJ1 9 yJ0_checkIndex_df160 ∈ TB := TB_at 276 (by decide +kernel) rfl
set_option maxRecDepth 100000 in
theorem q_278 : Cond.code yJ0_checkIndex_df160 cJ0_checkIndex_df160 2 (none) ∈ TB := TB_at 278 rfl rfl
theorem q_277 : Cond.static yJ0_checkIndex_df160 ∈ TB := TB_at 277 (by decide +kernel) rfl
theorem vw_J1_9 : SW RJ1 9 yJ0_checkIndex_df160 cJ0_checkIndex_df160 2 (none) 2 := ⟨q_276, q_277, q_81, q_278, by decide +kernel⟩
theorem q_353 : Cond.methodLink RJ1 88 yJ1_canEncode_9a6ad ∈ TB := TB_at 353 (by decide +kernel) rfl
set_option maxRecDepth 100000 in
theorem q_355 : Cond.code yJ1_canEncode_9a6ad cJ1_canEncode_9a6ad 1 (some .boolean) ∈ TB := TB_at 355 rfl rfl
theorem q_354 : Cond.static yJ1_canEncode_9a6ad ∈ TB := TB_at 354 (by decide +kernel) rfl
theorem vw_J1_88 : SW RJ1 88 yJ1_canEncode_9a6ad cJ1_canEncode_9a6ad 1 (some .boolean) 1 := ⟨q_353, q_354, q_82, q_355, by decide +kernel⟩
theorem q_362 : Cond.methodLink RJ1 95 yJ1_indexOfChar_4cfef ∈ TB := TB_at 362 (by decide +kernel) rfl
set_option maxRecDepth 100000 in
theorem q_364 : Cond.code yJ1_indexOfChar_4cfef cJ1_indexOfChar_4cfef 6 (some .int) ∈ TB := TB_at 364 rfl rfl
theorem q_363 : Cond.static yJ1_indexOfChar_4cfef ∈ TB := TB_at 363 (by decide +kernel) rfl
theorem vw_J1_95 : SW RJ1 95 yJ1_indexOfChar_4cfef cJ1_indexOfChar_4cfef 6 (some .int) 4 := ⟨q_362, q_363, q_82, q_364, by decide +kernel⟩
theorem q_263 : Cond.fieldLink RJ0 38 "java/lang/String" "COMPACT_STRINGS" "Z" ∈ TB := TB_at 263 (by decide +kernel) rfl
theorem q_279 : Cond.fieldLink RJ0 1053 "jdk/internal/util/Preconditions" "SIOOBE_FORMATTER" "Ljava/util/function/BiFunction;" ∈ TB := TB_at 279 (by decide +kernel) rfl
theorem q_1459 : Cond.fieldLink RJ0 9 "java/lang/String" "value" "[B" ∈ TB := TB_at 1459 (by decide +kernel) rfl
theorem q_1460 : Cond.fieldLink RJ0 15 "java/lang/String" "coder" "B" ∈ TB := TB_at 1460 (by decide +kernel) rfl
theorem q_356 : Cond.methodLink RJ1 92 Lib.Math.max.name ∈ TB := TB_at 356 (by decide +kernel) rfl
theorem q_359 : Cond.methodLink RJ1 38 Lib.Math.min.name ∈ TB := TB_at 359 (by decide +kernel) rfl
theorem jd_all : ∀ i, i < 3 → (lenT.getD i 0 = (bytT.getD i []).length ∧ (bytT.getD i []).length < 100 ∧ ∀ b ∈ bytT.getD i [], b.toInt8.toInt32 = b ∧ b &&& 255 = b) := by decide +kernel
section JDK
variable {Γ : Gm} {Y : Sy} {ad : Nat → Nat} {M : Nat}
theorem j_coder (l : Launch) {post : Int32 → St → Prop} (i : Nat) (hi : i < 3) (σ : St) (h : post 0 σ) : Ci l Γ Y M ad σ yJ0_coder_7d493 cJ0_coder_7d493 1 (some .byte) 1 0 0 [.ref (Γ.2.2.2.2.1 i)] post := by
  refine g_start (by decide) (Nat.le_of_ble_eq_true rfl) ?_
  intro p e s m args below meth c ls hc hr hn hl hw
  have hc : CX Γ p s m args meth c cJ0_coder_7d493 RJ0 1 := hc
  have hl : lv_has ls 1 [(0, .ref (Γ.2.2.2.2.1 i))] := hl
  have hx := hc.1
  have hb := hc.2.1
  have hE := hc.2.2.2.2.2.2.2.2

  refine va_gets hx hb hE.2.2.2.1.1 hw.2.2 hc.2.2.2.1 (hc.2.2.2.2.1 _ q_263) (fun _ h => h) dJ0_coder_7d493_0 ?_
  refine lv_if_eq (tgt := 13) hx hb dJ0_coder_7d493_3 (by decide) (fun c => absurd c (by decide)) (fun _ => ?_)
  refine lv_aload_n hx hb dJ0_coder_7d493_6 rfl (lv_at hl 0 rfl) ?_
  refine vk_getf hx hb (hE.2.2.1.1.1 i hi).2.1 hw.2.2 hc.2.2.2.1 (hc.2.2.2.2.1 _ q_1460) (fun _ h => h) dJ0_coder_7d493_7 ?_
  refine lv_goto (tgt := 14) hx hb dJ0_coder_7d493_10 (by decide) ?_
  exact g_zret hc hr hw rfl h dJ0_coder_7d493_14
theorem j_isLatin1 (l : Launch) {post : Int32 → St → Prop} (i : Nat) (hi : i < 3) (σ : St) (h : post 1 σ) : Ci l Γ Y M ad σ yJ0_isLatin1_aae02 cJ0_isLatin1_aae02 1 (some .boolean) 1 0 0 [.ref (Γ.2.2.2.2.1 i)] post := by
  refine g_start (by decide) (Nat.le_of_ble_eq_true rfl) ?_
  intro p e s m args below meth c ls hc hr hn hl hw
  have hc : CX Γ p s m args meth c cJ0_isLatin1_aae02 RJ0 1 := hc
  have hl : lv_has ls 1 [(0, .ref (Γ.2.2.2.2.1 i))] := hl
  have hx := hc.1
  have hb := hc.2.1
  have hE := hc.2.2.2.2.2.2.2.2

  refine va_gets hx hb hE.2.2.2.1.1 hw.2.2 hc.2.2.2.1 (hc.2.2.2.2.1 _ q_263) (fun _ h => h) dJ0_isLatin1_aae02_0 ?_
  refine lv_if_eq (tgt := 17) hx hb dJ0_isLatin1_aae02_3 (by decide) (fun c => absurd c (by decide)) (fun _ => ?_)
  refine lv_aload_n hx hb dJ0_isLatin1_aae02_6 rfl (lv_at hl 0 rfl) ?_
  refine vk_getf hx hb (hE.2.2.1.1.1 i hi).2.1 hw.2.2 hc.2.2.2.1 (hc.2.2.2.2.1 _ q_1460) (fun _ h => h) dJ0_isLatin1_aae02_7 ?_
  refine lv_if_ne (tgt := 17) hx hb dJ0_isLatin1_aae02_10 (by decide) (fun c => absurd rfl c) (fun _ => ?_)
  refine lv_iconst (v := 1) hx hb dJ0_isLatin1_aae02_13 (by decide) ?_
  refine lv_goto (tgt := 18) hx hb dJ0_isLatin1_aae02_14 (by decide) ?_
  exact g_zret hc hr hw rfl h dJ0_isLatin1_aae02_18
theorem j_length (l : Launch) {post : Int32 → St → Prop} (i : Nat) (hi : i < 3) (σ : St) (h : post (nI (lenT.getD i 0)) σ) : Ci l Γ Y M ad σ yJ0_length_8abf5 cJ0_length_8abf5 1 (some .int) 2 0 0 [.ref (Γ.2.2.2.2.1 i)] post := by
  refine g_start (by decide) (Nat.le_of_ble_eq_true rfl) ?_
  intro p e s m args below meth c ls hc hr hn hl hw
  have hc : CX Γ p s m args meth c cJ0_length_8abf5 RJ0 1 := hc
  have hl : lv_has ls 1 [(0, .ref (Γ.2.2.2.2.1 i))] := hl
  have hx := hc.1
  have hb := hc.2.1
  have hE := hc.2.2.2.2.2.2.2.2

  obtain ⟨hl1, hl2, -⟩ := jd_all i hi
  refine lv_aload_n hx hb dJ0_length_8abf5_0 rfl (lv_at hl 0 rfl) ?_
  refine vk_getf hx hb (hE.2.2.1.1.1 i hi).2.2.1 hw.2.2 hc.2.2.2.1 (hc.2.2.2.2.1 _ q_1459) (fun _ h => h) dJ0_length_8abf5_1 ?_
  refine va_tlen (v := nI (lenT.getD i 0)) hx hb (hE.2.2.1.1.1 i hi).2.2.2 hw.2.2 rfl dJ0_length_8abf5_4 ?_
  refine lv_aload_n hx hb dJ0_length_8abf5_5 rfl (lv_at hl 0 rfl) ?_
  refine g_Vs (Y := Y) (i := i) (n := 0) (k := 1) (As := []) (rest := [.int (nI (lenT.getD i 0))]) hi vw_J0_335 ⟨Nat.le_of_ble_eq_true rfl, Nat.le_of_ble_eq_true rfl, Nat.zero_le _, Nat.zero_le _⟩ hc hw hl.1 (j_coder (post := fun r u => r = 0 ∧ u = σ) l i hi σ ⟨rfl, rfl⟩) rfl rfl (Nat.le_of_ble_eq_true rfl) dJ0_length_8abf5_6 (fun r_ u_ H locs hz hw => ?_)
  obtain ⟨z1, z2⟩ := hz
  rw [z1]
  rw [z2] at hw
  refine lv_ishr hx hb dJ0_length_8abf5_9 ?_
  rw [sc_shr0 (by omega)]
  exact g_iret hc hr hw h dJ0_length_8abf5_10
theorem j_pre (l : Launch) {post : Int32 → St → Prop} (a n : Int32) (v : Value) (hv : v = .null ∨ ∃ t : Nat, v = .ref t) (h0 : ¬ a < 0) (h1 : a < n) (σ : St) (h : post a σ) : Ci l Γ Y M ad σ yJ3_checkIndex_8e157 cJ3_checkIndex_8e157 3 (some .int) 1 0 0 [.int a, .int n, v] post := by
  rcases hv with rfl | ⟨t, rfl⟩
  · refine g_start (by decide) (Nat.le_of_ble_eq_true rfl) ?_
    intro p e s m args below meth c ls hc hr hn hl hw
    have hc : CX Γ p s m args meth c cJ3_checkIndex_8e157 RJ3 3 := hc
    have hl : lv_has ls 3 [(0, .int a), (1, .int n), (2, .null)] := hl
    have hx := hc.1
    have hb := hc.2.1
    refine lv_iload_n hx hb dJ3_checkIndex_8e157_0 rfl (lv_at hl 0 rfl) ?_
    refine lv_if_lt (tgt := 9) hx hb dJ3_checkIndex_8e157_1 (by decide) (fun c => absurd c h0) (fun _ => ?_)
    refine lv_iload_n hx hb dJ3_checkIndex_8e157_4 rfl (lv_at hl 0 rfl) ?_
    refine lv_iload_n hx hb dJ3_checkIndex_8e157_5 rfl (lv_at hl 1 rfl) ?_
    refine lv_icmp_lt (tgt := 16) hx hb dJ3_checkIndex_8e157_6 (by decide) (fun _ => ?_) (fun c => absurd h1 c)
    refine lv_iload_n hx hb dJ3_checkIndex_8e157_16 rfl (lv_at hl 0 rfl) ?_
    exact g_iret hc hr hw h dJ3_checkIndex_8e157_17
  · refine g_start (by decide) (Nat.le_of_ble_eq_true rfl) ?_
    intro p e s m args below meth c ls hc hr hn hl hw
    have hc : CX Γ p s m args meth c cJ3_checkIndex_8e157 RJ3 3 := hc
    have hl : lv_has ls 3 [(0, .int a), (1, .int n), (2, .ref t)] := hl
    have hx := hc.1
    have hb := hc.2.1
    refine lv_iload_n hx hb dJ3_checkIndex_8e157_0 rfl (lv_at hl 0 rfl) ?_
    refine lv_if_lt (tgt := 9) hx hb dJ3_checkIndex_8e157_1 (by decide) (fun c => absurd c h0) (fun _ => ?_)
    refine lv_iload_n hx hb dJ3_checkIndex_8e157_4 rfl (lv_at hl 0 rfl) ?_
    refine lv_iload_n hx hb dJ3_checkIndex_8e157_5 rfl (lv_at hl 1 rfl) ?_
    refine lv_icmp_lt (tgt := 16) hx hb dJ3_checkIndex_8e157_6 (by decide) (fun _ => ?_) (fun c => absurd h1 c)
    refine lv_iload_n hx hb dJ3_checkIndex_8e157_16 rfl (lv_at hl 0 rfl) ?_
    exact g_iret hc hr hw h dJ3_checkIndex_8e157_17
theorem j_check (l : Launch) {post : St → Prop} (a n : Int32) (h0 : ¬ a < 0) (h1 : a < n) (σ : St) (h : post σ) : Cv l Γ Y M ad σ yJ0_checkIndex_df160 cJ0_checkIndex_df160 2 none 2 0 0 [.int a, .int n] post := by
  refine g_start (by decide) (Nat.le_of_ble_eq_true rfl) ?_
  intro p e s m args below meth c ls hc hr hn hl hw
  have hc : CX Γ p s m args meth c cJ0_checkIndex_df160 RJ0 2 := hc
  have hl : lv_has ls 2 [(0, .int a), (1, .int n)] := hl
  have hx := hc.1
  have hb := hc.2.1
  have hE := hc.2.2.2.2.2.2.2.2

  refine lv_iload_n hx hb dJ0_checkIndex_df160_0 rfl (lv_at hl 0 rfl) ?_
  refine lv_iload_n hx hb dJ0_checkIndex_df160_1 rfl (lv_at hl 1 rfl) ?_
  rcases hE.2.2.2.1.2 with hZ | ⟨t, hZ⟩
  · refine va_gets hx hb hZ hw.2.2 hc.2.2.2.1 (hc.2.2.2.2.1 _ q_279) (fun _ h => h) dJ0_checkIndex_df160_2 ?_
    refine g_Si (Y := Y) (n := 3) (k := 1) (As := [.int a, .int n, .null]) (rest := []) vw_J0_1059 ⟨Nat.le_of_ble_eq_true rfl, Nat.le_of_ble_eq_true rfl, Nat.zero_le _, Nat.zero_le _⟩ hc hw hl.1 (j_pre (post := fun r u => u = σ) l a n .null (Or.inl rfl) h0 h1 σ rfl) rfl rfl (Nat.le_of_ble_eq_true rfl) dJ0_checkIndex_df160_5 (fun r_ u_ H locs hz hw => ?_)
    rw [hz] at hw
    refine lv_pop hx hb dJ0_checkIndex_df160_8 rfl ?_
    exact g_vret hc hr hw h dJ0_checkIndex_df160_9
  · refine va_gets hx hb hZ hw.2.2 hc.2.2.2.1 (hc.2.2.2.2.1 _ q_279) (fun _ h => h) dJ0_checkIndex_df160_2 ?_
    refine g_Si (Y := Y) (n := 3) (k := 1) (As := [.int a, .int n, .ref t]) (rest := []) vw_J0_1059 ⟨Nat.le_of_ble_eq_true rfl, Nat.le_of_ble_eq_true rfl, Nat.zero_le _, Nat.zero_le _⟩ hc hw hl.1 (j_pre (post := fun r u => u = σ) l a n (.ref t) (Or.inr ⟨t, rfl⟩) h0 h1 σ rfl) rfl rfl (Nat.le_of_ble_eq_true rfl) dJ0_checkIndex_df160_5 (fun r_ u_ H locs hz hw => ?_)
    rw [hz] at hw
    refine lv_pop hx hb dJ0_checkIndex_df160_8 rfl ?_
    exact g_vret hc hr hw h dJ0_checkIndex_df160_9
theorem vp_in_lt {k : Int32} {n : Nat} (h : vp_in k n) (hn : n < 2 ^ 31) : ¬ k < 0 ∧ k < nI n := by
  obtain ⟨j, hj, rfl⟩ := vp_in_of h hn
  exact ⟨nI_pos (by omega), nI_lt hj hn⟩
theorem j_ch (l : Launch) {post : Int32 → St → Prop} (i : Nat) (hi : i < 3) (k : Int32) (hk : vp_in k (lenT.getD i 0)) (σ : St) (h : post (chT i k) σ) : Ci l Γ Y M ad σ yJ1_charAt_3b067 cJ1_charAt_3b067 2 (some .char) 3 0 0 [.ref (Γ.2.2.2.2.2.1 i), .int k] post := by
  refine g_start (by decide) (Nat.le_of_ble_eq_true rfl) ?_
  intro p e s m args below meth c ls hc hr hn hl hw
  have hc : CX Γ p s m args meth c cJ1_charAt_3b067 RJ1 2 := hc
  have hl : lv_has ls 2 [(0, .ref (Γ.2.2.2.2.2.1 i)), (1, .int k)] := hl
  have hx := hc.1
  have hb := hc.2.1
  have hE := hc.2.2.2.2.2.2.2.2

  obtain ⟨hl1, hl2, hl3⟩ := jd_all i hi
  obtain ⟨k0, k1⟩ := vp_in_lt hk (by omega)
  refine lv_iload_n hx hb dJ1_charAt_3b067_0 rfl (lv_at hl 1 rfl) ?_
  refine lv_aload_n hx hb dJ1_charAt_3b067_1 rfl (lv_at hl 0 rfl) ?_
  refine va_tlen (v := nI (lenT.getD i 0)) hx hb (hE.2.2.1.1.1 i hi).2.2.2 hw.2.2 rfl dJ1_charAt_3b067_2 ?_
  refine g_Sv (Y := Y) (n := 2) (k := 2) (As := [.int k, .int (nI (lenT.getD i 0))]) (rest := []) vw_J1_9 ⟨Nat.le_of_ble_eq_true rfl, Nat.le_of_ble_eq_true rfl, Nat.zero_le _, Nat.zero_le _⟩ hc hw hl.1 (j_check (post := fun u => u = σ) l k (nI (lenT.getD i 0)) k0 k1 σ rfl) rfl rfl (Nat.le_of_ble_eq_true rfl) dJ1_charAt_3b067_3 (fun u_ H locs hz hw => ?_)
  rw [hz] at hw
  refine lv_aload_n hx hb dJ1_charAt_3b067_6 rfl (lv_at hl 0 rfl) ?_
  refine lv_iload_n hx hb dJ1_charAt_3b067_7 rfl (lv_at hl 1 rfl) ?_
  refine va_tb (v := .int (chT i k)) hx hb (hE.2.2.1.1.1 i hi).2.2.2 hw.2.2 hk rfl dJ1_charAt_3b067_8 ?_
  refine lv_sipush (v := 255) hx hb dJ1_charAt_3b067_9 (by decide) ?_
  refine lv_iand hx hb dJ1_charAt_3b067_12 ?_
  refine lv_i2c hx hb dJ1_charAt_3b067_13 (sc_c2 _) ?_
  have hm : chT i k &&& 255 = chT i k := by
    obtain ⟨j, hj, rfl⟩ := vp_in_of hk (by omega)
    unfold chT
    rw [nI_clamp (by omega)]
    have hj' : j < (bytT.getD i []).length := by omega
    have e : (bytT.getD i []).getD j 0 = (bytT.getD i [])[j] := by rw [List.getD_eq_getElem?_getD, List.getElem?_eq_getElem hj']; rfl
    rw [e]
    exact (hl3 _ (List.getElem_mem hj')).2
  have hnar : narrow .char (.int (chT i k)) = .int (chT i k) := by
    have := sc_nar (chT i k)
    rw [hm] at this
    exact this
  rw [hm]
  exact g_zret hc hr hw hnar h dJ1_charAt_3b067_14
theorem j_charAt (l : Launch) {post : Int32 → St → Prop} (i : Nat) (hi : i < 3) (k : Int32) (hk : vp_in k (lenT.getD i 0)) (σ : St) (h : post (chT i k) σ) : Ci l Γ Y M ad σ yJ0_charAt_5068e cJ0_charAt_5068e 2 (some .char) 9 0 0 [.ref (Γ.2.2.2.2.1 i), .int k] post := by
  refine g_start (by decide) (Nat.le_of_ble_eq_true rfl) ?_
  intro p e s m args below meth c ls hc hr hn hl hw
  have hc : CX Γ p s m args meth c cJ0_charAt_5068e RJ0 2 := hc
  have hl : lv_has ls 2 [(0, .ref (Γ.2.2.2.2.1 i)), (1, .int k)] := hl
  have hx := hc.1
  have hb := hc.2.1
  have hE := hc.2.2.2.2.2.2.2.2

  obtain ⟨hl1, hl2, hl3⟩ := jd_all i hi
  refine lv_aload_n hx hb dJ0_charAt_5068e_0 rfl (lv_at hl 0 rfl) ?_
  refine g_Vs (Y := Y) (i := i) (n := 0) (k := 1) (As := []) (rest := []) hi vw_J0_492 ⟨Nat.le_of_ble_eq_true rfl, Nat.le_of_ble_eq_true rfl, Nat.zero_le _, Nat.zero_le _⟩ hc hw hl.1 (j_isLatin1 (post := fun r u => r = 1 ∧ u = σ) l i hi σ ⟨rfl, rfl⟩) rfl rfl (Nat.le_of_ble_eq_true rfl) dJ0_charAt_5068e_1 (fun r_ u_ H locs hz hw => ?_)
  obtain ⟨z1, z2⟩ := hz
  rw [z1]
  rw [z2] at hw
  refine lv_if_eq (tgt := 16) hx hb dJ0_charAt_5068e_4 (by decide) (fun c => absurd c (by decide)) (fun _ => ?_)
  refine lv_aload_n hx hb dJ0_charAt_5068e_7 rfl (lv_at hl 0 rfl) ?_
  refine vk_getf hx hb (hE.2.2.1.1.1 i hi).2.2.1 hw.2.2 hc.2.2.2.1 (hc.2.2.2.2.1 _ q_1459) (fun _ h => h) dJ0_charAt_5068e_8 ?_
  refine lv_iload_n hx hb dJ0_charAt_5068e_11 rfl (lv_at hl 1 rfl) ?_
  refine g_Si (Y := Y) (n := 2) (k := 3) (As := [.ref (Γ.2.2.2.2.2.1 i), .int k]) (rest := []) vw_J0_495 ⟨Nat.le_of_ble_eq_true rfl, Nat.le_of_ble_eq_true rfl, Nat.zero_le _, Nat.zero_le _⟩ hc hw hl.1 (j_ch (post := fun r u => (r = chT i k ∧ u = σ)) l i hi k hk σ ⟨rfl, rfl⟩) rfl rfl (Nat.le_of_ble_eq_true rfl) dJ0_charAt_5068e_12 (fun r_ u_ H locs hz hw => ?_)
  obtain ⟨z1, z2⟩ := hz
  rw [z1]
  rw [z2] at hw
  have hm : chT i k &&& 255 = chT i k := by
    obtain ⟨j, hj, rfl⟩ := vp_in_of hk (by omega)
    unfold chT
    rw [nI_clamp (by omega)]
    have hj' : j < (bytT.getD i []).length := by omega
    have e : (bytT.getD i []).getD j 0 = (bytT.getD i [])[j] := by rw [List.getD_eq_getElem?_getD, List.getElem?_eq_getElem hj']; rfl
    rw [e]
    exact (hl3 _ (List.getElem_mem hj')).2
  have hnar : narrow .char (.int (chT i k)) = .int (chT i k) := by
    have := sc_nar (chT i k)
    rw [hm] at this
    exact this
  exact g_zret hc hr hw hnar h dJ0_charAt_5068e_15
theorem j_can (l : Launch) {post : Int32 → St → Prop} (k : Int32) (hk : 0 ≤ k ∧ k ≤ 255) (σ : St) (h : post 1 σ) : Ci l Γ Y M ad σ yJ1_canEncode_9a6ad cJ1_canEncode_9a6ad 1 (some .boolean) 1 0 0 [.int k] post := by
  refine g_start (by decide) (Nat.le_of_ble_eq_true rfl) ?_
  intro p e s m args below meth c ls hc hr hn hl hw
  have hc : CX Γ p s m args meth c cJ1_canEncode_9a6ad RJ1 1 := hc
  have hl : lv_has ls 1 [(0, .int k)] := hl
  have hx := hc.1
  have hb := hc.2.1
  have hE := hc.2.2.2.2.2.2.2.2

  refine lv_iload_n hx hb dJ1_canEncode_9a6ad_0 rfl (lv_at hl 0 rfl) ?_
  refine lv_if_lt (tgt := 15) hx hb dJ1_canEncode_9a6ad_1 (by decide) (fun c => absurd c (Int32.not_lt.mpr hk.1)) (fun _ => ?_)
  refine lv_iload_n hx hb dJ1_canEncode_9a6ad_4 rfl (lv_at hl 0 rfl) ?_
  refine lv_sipush (v := 255) hx hb dJ1_canEncode_9a6ad_5 (by decide) ?_
  refine lv_icmp_gt (tgt := 15) hx hb dJ1_canEncode_9a6ad_8 (by decide) (fun c => absurd c (Int32.not_lt.mpr hk.2)) (fun _ => ?_)
  refine lv_iconst (v := 1) hx hb dJ1_canEncode_9a6ad_11 (by decide) ?_
  refine lv_goto (tgt := 16) hx hb dJ1_canEncode_9a6ad_12 (by decide) ?_
  exact g_zret hc hr hw rfl h dJ1_canEncode_9a6ad_16
theorem ixF_drop {c : Int32} {i : Nat} {l : List Int32} {k : Nat} {b : Int32} (e : (bytT.getD i []).drop k = b :: l) : (bytT.getD i []).getD k 0 = b ∧ k < (bytT.getD i []).length ∧ (bytT.getD i []).drop (k + 1) = l ∧ b ∈ bytT.getD i [] := by
  have h1 : k < (bytT.getD i []).length := by
    rcases Nat.lt_or_ge k (bytT.getD i []).length with q | q
    · exact q
    · rw [List.drop_eq_nil_of_le q] at e; cases e
  have h2 := List.drop_eq_getElem_cons h1
  rw [e] at h2
  injection h2 with h3 h4
  refine ⟨?_, h1, h4.symm, ?_⟩
  · rw [List.getD_eq_getElem?_getD, List.getElem?_eq_getElem h1, h3]; rfl
  · rw [h3]; exact List.getElem_mem h1
theorem j_ixc (l : Launch) {post : Int32 → St → Prop} (i : Nat) (hi : i < 3) (k : Int32) (hk : 0 ≤ k ∧ k ≤ 255) (σ : St) (h : post (ixT i k) σ) : Ci l Γ Y M ad σ yJ1_indexOfChar_4cfef cJ1_indexOfChar_4cfef 6 (some .int) 1 0 0 [.ref (Γ.2.2.2.2.2.1 i), .int k, .int 0, .int (nI (lenT.getD i 0))] post := by
  refine g_start (by decide) (Nat.le_of_ble_eq_true rfl) ?_
  intro p e s m args below meth c ls hc hr hn hl hw
  have hc : CX Γ p s m args meth c cJ1_indexOfChar_4cfef RJ1 6 := hc
  have hl : lv_has ls 6 [(0, .ref (Γ.2.2.2.2.2.1 i)), (1, .int k), (2, .int 0), (3, .int (nI (lenT.getD i 0)))] := hl
  have hx := hc.1
  have hb := hc.2.1
  have hE := hc.2.2.2.2.2.2.2.2

  obtain ⟨hl1, hl2, hl3⟩ := jd_all i hi
  refine lv_iload_n hx hb dJ1_indexOfChar_4cfef_0 rfl (lv_at hl 1 rfl) ?_
  refine lv_i2b hx hb dJ1_indexOfChar_4cfef_1 (v := k.toInt8.toInt32) rfl ?_
  refine lv_istore (lv' := [(4, .int k.toInt8.toInt32), (0, .ref (Γ.2.2.2.2.2.1 i)), (1, .int k), (2, .int 0), (3, .int (nI (lenT.getD i 0)))]) hx hb dJ1_indexOfChar_4cfef_2 hl (by decide) rfl (fun ls hl => ?_)
  refine lv_iload_n hx hb dJ1_indexOfChar_4cfef_4 rfl (lv_at hl 3 rfl) ?_
  refine lv_istore (lv' := [(5, .int 0), (4, .int k.toInt8.toInt32), (0, .ref (Γ.2.2.2.2.2.1 i)), (1, .int k), (2, .int 0), (3, .int (nI (lenT.getD i 0)))]) hx hb dJ1_indexOfChar_4cfef_5 hl (by decide) rfl (fun ls hl => ?_)
  have loop : ∀ (L : List Int32) (j : Nat) (ls : Array Slot), j ≤ (bytT.getD i []).length → (bytT.getD i []).drop j = L → post (ixF k L j) σ → lv_has ls 6 [(5, .int (nI j)), (4, .int k.toInt8.toInt32), (0, .ref (Γ.2.2.2.2.2.1 i)), (1, .int k), (2, .int 0), (3, .int (nI (lenT.getD i 0)))] → W p l e (rmL 1 0 0) s m args below meth c s.heap [] 0 0 (MQ below (va_Qi post (fun u t => WC Γ Y M ad u t) (AA Γ)) args s 0 0 (AA Γ)) (F0 m 7 ls []) := by
    intro L
    induction L with
    | nil =>
      intro j ls hj e hp hl
      have hz : (bytT.getD i []).length ≤ j := List.drop_eq_nil_iff.mp e
      refine lv_iload hx hb dJ1_indexOfChar_4cfef_7 (lv_at hl 0 rfl) ?_
      refine lv_iload_n hx hb dJ1_indexOfChar_4cfef_9 rfl (lv_at hl 5 rfl) ?_
      refine lv_icmp_ge (tgt := 31) hx hb dJ1_indexOfChar_4cfef_10 (by decide) (fun _ => ?_) (fun c => absurd (nI_le (by omega) (by omega)) c)
      refine lv_iconst (v := -1) hx hb dJ1_indexOfChar_4cfef_31 (by decide) ?_
      exact g_iret hc hr hw hp dJ1_indexOfChar_4cfef_32
    | cons b L ih =>
      intro j ls hj e hp hl
      obtain ⟨h1, h2, h3, h4⟩ := ixF_drop (c := k) e
      refine lv_iload hx hb dJ1_indexOfChar_4cfef_7 (lv_at hl 0 rfl) ?_
      refine lv_iload_n hx hb dJ1_indexOfChar_4cfef_9 rfl (lv_at hl 5 rfl) ?_
      refine lv_icmp_ge (tgt := 31) hx hb dJ1_indexOfChar_4cfef_10 (by decide) (fun c => absurd c (nI_ge (by omega) (by omega))) (fun _ => ?_)
      refine lv_aload_n hx hb dJ1_indexOfChar_4cfef_13 rfl (lv_at hl 2 rfl) ?_
      refine lv_iload hx hb dJ1_indexOfChar_4cfef_14 (lv_at hl 0 rfl) ?_
      refine va_tb (v := .int b) hx hb (hE.2.2.1.1.1 i hi).2.2.2 hw.2.2 (vp_in_nI (by omega) (by omega)) (by rw [nI_clamp (by omega), h1]) dJ1_indexOfChar_4cfef_16 ?_
      refine lv_iload hx hb dJ1_indexOfChar_4cfef_17 (lv_at hl 1 rfl) ?_
      obtain ⟨n, hn, rfl⟩ := nI_of (Int32.not_lt.mpr hk.1)
      have h256 : n < 256 := by
        rcases Nat.lt_or_ge n 256 with q | q
        · exact q
        · exact absurd hk.2 (nI_ge (a := 255) (b := n) (by omega) hn)
      have hbb := hl3 b h4
      have key := sc_eq (b := b) hbb.1 h256
      rw [hbb.2] at key
      rw [ixF] at hp
      refine lv_icmp_ne (tgt := 25) hx hb dJ1_indexOfChar_4cfef_19 (by decide) (fun c => ?_) (fun c => ?_)
      · rw [if_neg (fun z => c (key.mpr z))] at hp
        refine lv_iinc (v := nI (j + 1)) (lv' := [(5, .int (nI (j + 1))), (4, .int (nI n).toInt8.toInt32), (0, .ref (Γ.2.2.2.2.2.1 i)), (1, .int (nI n)), (2, .int 0), (3, .int (nI (lenT.getD i 0)))]) hx hb dJ1_indexOfChar_4cfef_25 hl (k := 0) rfl (nI_1 j) (by decide) rfl (fun ls hl => ?_)
        refine lv_goto (tgt := 7) hx hb dJ1_indexOfChar_4cfef_28 (by decide) ?_
        exact ih (j + 1) ls (by omega) h3 hp hl
      · rw [if_pos (key.mp c)] at hp
        refine lv_iload hx hb dJ1_indexOfChar_4cfef_22 (lv_at hl 0 rfl) ?_
        exact g_iret hc hr hw hp dJ1_indexOfChar_4cfef_24
  exact loop _ 0 ls (Nat.zero_le _) rfl h hl
theorem j_ix1 (l : Launch) {post : Int32 → St → Prop} (i : Nat) (hi : i < 3) (k : Int32) (hk : 0 ≤ k ∧ k ≤ 255) (σ : St) (h : post (ixT i k) σ) : Ci l Γ Y M ad σ yJ1_indexOf_4cfef cJ1_indexOf_4cfef 4 (some .int) 3 0 0 [.ref (Γ.2.2.2.2.2.1 i), .int k, .int 0, .int (nI (lenT.getD i 0))] post := by
  refine g_start (by decide) (Nat.le_of_ble_eq_true rfl) ?_
  intro p e s m args below meth c ls hc hr hn hl hw
  have hc : CX Γ p s m args meth c cJ1_indexOf_4cfef RJ1 4 := hc
  have hl : lv_has ls 4 [(0, .ref (Γ.2.2.2.2.2.1 i)), (1, .int k), (2, .int 0), (3, .int (nI (lenT.getD i 0)))] := hl
  have hx := hc.1
  have hb := hc.2.1
  have hE := hc.2.2.2.2.2.2.2.2

  obtain ⟨hl1, hl2, hl3⟩ := jd_all i hi
  have hlp : ∀ i, i < 3 → 0 < lenT.getD i 0 := by decide
  have hlp := hlp i hi
  refine lv_iload_n hx hb dJ1_indexOf_4cfef_0 rfl (lv_at hl 1 rfl) ?_
  refine g_Si (Y := Y) (n := 1) (k := 1) (As := [.int k]) (rest := []) vw_J1_88 ⟨Nat.le_of_ble_eq_true rfl, Nat.le_of_ble_eq_true rfl, Nat.zero_le _, Nat.zero_le _⟩ hc hw hl.1 (j_can (post := fun r u => r = 1 ∧ u = σ) l k hk σ ⟨rfl, rfl⟩) rfl rfl (Nat.le_of_ble_eq_true rfl) dJ1_indexOf_4cfef_1 (fun r_ u_ H locs hz hw => ?_)
  obtain ⟨z1, z2⟩ := hz
  rw [z1]
  rw [z2] at hw
  refine lv_if_ne (tgt := 9) hx hb dJ1_indexOf_4cfef_4 (by decide) (fun _ => ?_) (fun c => absurd c (by decide))
  refine lv_iload_n hx hb dJ1_indexOf_4cfef_9 rfl (lv_at hl 2 rfl) ?_
  refine lv_iconst (v := 0) hx hb dJ1_indexOf_4cfef_10 (by decide) ?_
  refine va_mmax hx hb (hc.2.2.1.trans hl.1.symm) hc.2.2.2.1 (hc.2.2.2.2.1 _ q_356) (hc.2.2.2.2.1 _ q_357) (hc.2.2.2.2.1 _ q_85) (hc.2.2.2.2.1 _ q_358) (Nat.le_of_ble_eq_true rfl) (Nat.le_of_ble_eq_true rfl) (Nat.zero_le _) (Nat.zero_le _) dJ1_indexOf_4cfef_11 ?_
  rw [show (if (0 : Int32) < 0 then (0 : Int32) else 0) = 0 from rfl]
  refine lv_istore_n (lv' := [(2, .int 0), (0, .ref (Γ.2.2.2.2.2.1 i)), (1, .int k), (3, .int (nI (lenT.getD i 0)))]) hx hb dJ1_indexOf_4cfef_14 rfl hl (by decide) rfl (fun ls hl => ?_)
  refine lv_iload_n hx hb dJ1_indexOf_4cfef_15 rfl (lv_at hl 3 rfl) ?_
  refine lv_aload_n hx hb dJ1_indexOf_4cfef_16 rfl (lv_at hl 1 rfl) ?_
  refine va_tlen (v := nI (lenT.getD i 0)) hx hb (hE.2.2.1.1.1 i hi).2.2.2 hw.2.2 rfl dJ1_indexOf_4cfef_17 ?_
  refine va_mmin hx hb (hc.2.2.1.trans hl.1.symm) hc.2.2.2.1 (hc.2.2.2.2.1 _ q_359) (hc.2.2.2.2.1 _ q_360) (hc.2.2.2.2.1 _ q_85) (hc.2.2.2.2.1 _ q_361) (Nat.le_of_ble_eq_true rfl) (Nat.le_of_ble_eq_true rfl) (Nat.zero_le _) (Nat.zero_le _) dJ1_indexOf_4cfef_18 ?_
  rw [ite_self]
  refine lv_istore_n (lv' := [(3, .int (nI (lenT.getD i 0))), (2, .int 0), (0, .ref (Γ.2.2.2.2.2.1 i)), (1, .int k)]) hx hb dJ1_indexOf_4cfef_21 rfl hl (by decide) rfl (fun ls hl => ?_)
  refine lv_iload_n hx hb dJ1_indexOf_4cfef_22 rfl (lv_at hl 1 rfl) ?_
  refine lv_iload_n hx hb dJ1_indexOf_4cfef_23 rfl (lv_at hl 0 rfl) ?_
  refine lv_icmp_lt (tgt := 29) hx hb dJ1_indexOf_4cfef_24 (by decide) (fun _ => ?_) (fun c => absurd (nI_lt (a := 0) hlp (by omega)) c)
  refine lv_aload_n hx hb dJ1_indexOf_4cfef_29 rfl (lv_at hl 2 rfl) ?_
  refine lv_iload_n hx hb dJ1_indexOf_4cfef_30 rfl (lv_at hl 3 rfl) ?_
  refine lv_iload_n hx hb dJ1_indexOf_4cfef_31 rfl (lv_at hl 1 rfl) ?_
  refine lv_iload_n hx hb dJ1_indexOf_4cfef_32 rfl (lv_at hl 0 rfl) ?_
  refine g_Si (Y := Y) (n := 4) (k := 1) (As := [.ref (Γ.2.2.2.2.2.1 i), .int k, .int 0, .int (nI (lenT.getD i 0))]) (rest := []) vw_J1_95 ⟨Nat.le_of_ble_eq_true rfl, Nat.le_of_ble_eq_true rfl, Nat.zero_le _, Nat.zero_le _⟩ hc hw hl.1 (j_ixc (post := fun r u => r = ixT i k ∧ u = σ) l i hi k hk σ ⟨rfl, rfl⟩) rfl rfl (Nat.le_of_ble_eq_true rfl) dJ1_indexOf_4cfef_33 (fun r_ u_ H locs hz hw => ?_)
  obtain ⟨z1, z2⟩ := hz
  rw [z1]
  rw [z2] at hw
  exact g_iret hc hr hw h dJ1_indexOf_4cfef_36
theorem j_ix2 (l : Launch) {post : Int32 → St → Prop} (i : Nat) (hi : i < 3) (k : Int32) (hk : 0 ≤ k ∧ k ≤ 255) (σ : St) (h : post (ixT i k) σ) : Ci l Γ Y M ad σ yJ0_indexOf_7cf53 cJ0_indexOf_7cf53 3 (some .int) 5 0 0 [.ref (Γ.2.2.2.2.1 i), .int k, .int 0] post := by
  refine g_start (by decide) (Nat.le_of_ble_eq_true rfl) ?_
  intro p e s m args below meth c ls hc hr hn hl hw
  have hc : CX Γ p s m args meth c cJ0_indexOf_7cf53 RJ0 3 := hc
  have hl : lv_has ls 3 [(0, .ref (Γ.2.2.2.2.1 i)), (1, .int k), (2, .int 0)] := hl
  have hx := hc.1
  have hb := hc.2.1
  have hE := hc.2.2.2.2.2.2.2.2

  refine lv_aload_n hx hb dJ0_indexOf_7cf53_0 rfl (lv_at hl 0 rfl) ?_
  refine g_Vs (Y := Y) (i := i) (n := 0) (k := 1) (As := []) (rest := []) hi vw_J0_492 ⟨Nat.le_of_ble_eq_true rfl, Nat.le_of_ble_eq_true rfl, Nat.zero_le _, Nat.zero_le _⟩ hc hw hl.1 (j_isLatin1 (post := fun r u => r = 1 ∧ u = σ) l i hi σ ⟨rfl, rfl⟩) rfl rfl (Nat.le_of_ble_eq_true rfl) dJ0_indexOf_7cf53_1 (fun r_ u_ H locs hz hw => ?_)
  obtain ⟨z1, z2⟩ := hz
  rw [z1]
  rw [z2] at hw
  refine lv_if_eq (tgt := 23) hx hb dJ0_indexOf_7cf53_4 (by decide) (fun c => absurd c (by decide)) (fun _ => ?_)
  refine lv_aload_n hx hb dJ0_indexOf_7cf53_7 rfl (lv_at hl 0 rfl) ?_
  refine vk_getf hx hb (hE.2.2.1.1.1 i hi).2.2.1 hw.2.2 hc.2.2.2.1 (hc.2.2.2.2.1 _ q_1459) (fun _ h => h) dJ0_indexOf_7cf53_8 ?_
  refine lv_iload_n hx hb dJ0_indexOf_7cf53_11 rfl (lv_at hl 1 rfl) ?_
  refine lv_iload_n hx hb dJ0_indexOf_7cf53_12 rfl (lv_at hl 2 rfl) ?_
  refine lv_aload_n hx hb dJ0_indexOf_7cf53_13 rfl (lv_at hl 0 rfl) ?_
  refine g_Vs (Y := Y) (i := i) (n := 0) (k := 2) (As := []) (rest := [.int 0, .int k, .ref (Γ.2.2.2.2.2.1 i)]) hi vw_J0_505 ⟨Nat.le_of_ble_eq_true rfl, Nat.le_of_ble_eq_true rfl, Nat.zero_le _, Nat.zero_le _⟩ hc hw hl.1 (j_length (post := fun r u => r = nI (lenT.getD i 0) ∧ u = σ) l i hi σ ⟨rfl, rfl⟩) rfl rfl (Nat.le_of_ble_eq_true rfl) dJ0_indexOf_7cf53_14 (fun r_ u_ H locs hz hw => ?_)
  obtain ⟨z1, z2⟩ := hz
  rw [z1]
  rw [z2] at hw
  refine g_Si (Y := Y) (n := 4) (k := 3) (As := [.ref (Γ.2.2.2.2.2.1 i), .int k, .int 0, .int (nI (lenT.getD i 0))]) (rest := []) vw_J0_637 ⟨Nat.le_of_ble_eq_true rfl, Nat.le_of_ble_eq_true rfl, Nat.zero_le _, Nat.zero_le _⟩ hc hw hl.1 (j_ix1 (post := fun r u => r = ixT i k ∧ u = σ) l i hi k hk σ ⟨rfl, rfl⟩) rfl rfl (Nat.le_of_ble_eq_true rfl) dJ0_indexOf_7cf53_17 (fun r_ u_ H locs hz hw => ?_)
  obtain ⟨z1, z2⟩ := hz
  rw [z1]
  rw [z2] at hw
  refine lv_goto (tgt := 36) hx hb dJ0_indexOf_7cf53_20 (by decide) ?_
  exact g_iret hc hr hw h dJ0_indexOf_7cf53_36
theorem j_sidx (l : Launch) {post : Int32 → St → Prop} (i : Nat) (hi : i < 3) (k : Int32) (hk : 0 ≤ k ∧ k ≤ 255) (σ : St) (h : post (ixT i k) σ) : Ci l Γ Y M ad σ yJ0_indexOf_0f7a4 cJ0_indexOf_0f7a4 2 (some .int) 9 0 0 [.ref (Γ.2.2.2.2.1 i), .int k] post := by
  refine g_start (by decide) (Nat.le_of_ble_eq_true rfl) ?_
  intro p e s m args below meth c ls hc hr hn hl hw
  have hc : CX Γ p s m args meth c cJ0_indexOf_0f7a4 RJ0 2 := hc
  have hl : lv_has ls 2 [(0, .ref (Γ.2.2.2.2.1 i)), (1, .int k)] := hl
  have hx := hc.1
  have hb := hc.2.1
  have hE := hc.2.2.2.2.2.2.2.2

  refine lv_aload_n hx hb dJ0_indexOf_0f7a4_0 rfl (lv_at hl 0 rfl) ?_
  refine lv_iload_n hx hb dJ0_indexOf_0f7a4_1 rfl (lv_at hl 1 rfl) ?_
  refine lv_iconst (v := 0) hx hb dJ0_indexOf_0f7a4_2 (by decide) ?_
  refine g_Vs (Y := Y) (i := i) (n := 2) (k := 5) (As := [.int k, .int 0]) (rest := []) hi vw_J0_633 ⟨Nat.le_of_ble_eq_true rfl, Nat.le_of_ble_eq_true rfl, Nat.zero_le _, Nat.zero_le _⟩ hc hw hl.1 (j_ix2 (post := fun r u => r = ixT i k ∧ u = σ) l i hi k hk σ ⟨rfl, rfl⟩) rfl rfl (Nat.le_of_ble_eq_true rfl) dJ0_indexOf_0f7a4_3 (fun r_ u_ H locs hz hw => ?_)
  obtain ⟨z1, z2⟩ := hz
  rw [z1]
  rw [z2] at hw
  exact g_iret hc hr hw h dJ0_indexOf_0f7a4_6
theorem m_slen (l : Launch) {post : Int32 → St → Prop} (i : Nat) (hi : i < 3) (σ : St) (h : post (nI (lenT.getD i 0)) σ) : Ci l Γ Y M ad σ yJ0_length_8abf5 cJ0_length_8abf5 1 (some .int) 9 0 0 [.ref (Γ.2.2.2.2.1 i)] post := by
  refine g_start (by decide) (Nat.le_of_ble_eq_true rfl) ?_
  intro p e s m args below meth c ls hc hr hn hl hw
  have hc : CX Γ p s m args meth c cJ0_length_8abf5 RJ0 1 := hc
  have hl : lv_has ls 1 [(0, .ref (Γ.2.2.2.2.1 i))] := hl
  have hx := hc.1
  have hb := hc.2.1
  have hE := hc.2.2.2.2.2.2.2.2

  obtain ⟨hl1, hl2, -⟩ := jd_all i hi
  refine lv_aload_n hx hb dJ0_length_8abf5_0 rfl (lv_at hl 0 rfl) ?_
  refine vk_getf hx hb (hE.2.2.1.1.1 i hi).2.2.1 hw.2.2 hc.2.2.2.1 (hc.2.2.2.2.1 _ q_1459) (fun _ h => h) dJ0_length_8abf5_1 ?_
  refine va_tlen (v := nI (lenT.getD i 0)) hx hb (hE.2.2.1.1.1 i hi).2.2.2 hw.2.2 rfl dJ0_length_8abf5_4 ?_
  refine lv_aload_n hx hb dJ0_length_8abf5_5 rfl (lv_at hl 0 rfl) ?_
  refine g_Vs (Y := Y) (i := i) (n := 0) (k := 1) (As := []) (rest := [.int (nI (lenT.getD i 0))]) hi vw_J0_335 ⟨Nat.le_of_ble_eq_true rfl, Nat.le_of_ble_eq_true rfl, Nat.zero_le _, Nat.zero_le _⟩ hc hw hl.1 (j_coder (post := fun r u => r = 0 ∧ u = σ) l i hi σ ⟨rfl, rfl⟩) rfl rfl (Nat.le_of_ble_eq_true rfl) dJ0_length_8abf5_6 (fun r_ u_ H locs hz hw => ?_)
  obtain ⟨z1, z2⟩ := hz
  rw [z1]
  rw [z2] at hw
  refine lv_ishr hx hb dJ0_length_8abf5_9 ?_
  rw [sc_shr0 (by omega)]
  exact g_iret hc hr hw h dJ0_length_8abf5_10
theorem m_schar (l : Launch) {post : Int32 → St → Prop} (i : Nat) (hi : i < 3) (k : Int32) (hk : vp_in k (lenT.getD i 0)) (σ : St) (h : post (chT i k) σ) : Ci l Γ Y M ad σ yJ0_charAt_5068e cJ0_charAt_5068e 2 (some .char) 9 0 0 [.ref (Γ.2.2.2.2.1 i), .int k] post := j_charAt l i hi k hk σ h
theorem m_sidx (l : Launch) {post : Int32 → St → Prop} (i : Nat) (hi : i < 3) (k : Int32) (hk : 0 ≤ k ∧ k ≤ 255) (σ : St) (h : post (ixT i k) σ) : Ci l Γ Y M ad σ yJ0_indexOf_0f7a4 cJ0_indexOf_0f7a4 2 (some .int) 9 0 0 [.ref (Γ.2.2.2.2.1 i), .int k] post := j_sidx l i hi k hk σ h
end JDK
